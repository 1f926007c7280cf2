/-! the reference's night whole -/
theorem sG_ext {M : jM} {g g' : jH} (e : ∀ r s, r < 4 → s < 7 → g r s = g' r s) : sG M g = sG M g' := by
  funext k a s
  unfold sG
  by_cases h1 : k = 12 ∧ a = (61, 0) ∧ s < 7
  · rw [if_pos h1, if_pos h1, e 0 s (by omega) h1.2.2]
  · rw [if_neg h1, if_neg h1]
    by_cases h2 : k = 12 ∧ a = (62, 0) ∧ s < 7
    · rw [if_pos h2, if_pos h2, e 1 s (by omega) h2.2.2]
    · rw [if_neg h2, if_neg h2]
      by_cases h3 : k = 13 ∧ a = (63, 0) ∧ s < 7
      · rw [if_pos h3, if_pos h3, e 2 s (by omega) h3.2.2]
      · rw [if_neg h3, if_neg h3]
        by_cases h4 : k = 12 ∧ a = (64, 0) ∧ s < 7
        · rw [if_pos h4, if_pos h4, e 3 s (by omega) h4.2.2]
        · rw [if_neg h4, if_neg h4]
abbrev mPass (h : jH) (b l : Nat) (y : Int32) : Prop := 0 < l ∧ 2 * jn b ≤ 3 * mCnt b (mGo h b l y)
section JRG
variable {d n K a b l f : Nat} {v : Option jV} {σ' : jS} {M : jM} {x y z : Int32} {h g : jH}
theorem r154_init {a3 a4 : Option jV} : ∀ (m k : Nat) (g : jH), k + m = 7 → (∀ r s, r < 4 → s < k → g r s = mGo0 r s) → (jE d 154 2 [some (.inr (.inr (some (11, (0, 0))))), some (.inr (.inr (some (12, (f, 0))))), some (.inl (jn k)), a3, a4] [] (n, ([], sG M g)) v σ' ↔ jE d 154 45 [some (.inr (.inr (some (11, (0, 0))))), some (.inr (.inr (some (12, (f, 0))))), some (.inl 0), a3, a4] [] (n, ([], sG M mGo0)) v σ') := by
  intro m
  induction m with
  | zero =>
    intro k g hk hg
    rw [s154_2, s154_3, s154_5, if_pos (show (7 : Int32) ≤ jn k from (jn_le (k := 7) (by omega) (by omega)).mpr (by omega)), s154_43, s154_44, sG_ext (g' := mGo0) (fun r s hr hs => hg r s hr (by omega))]
  | succ m ih =>
    intro k g hk hg
    rw [s154_2, s154_3, s154_5, if_neg (show ¬ (7 : Int32) ≤ jn k from fun z => absurd ((jn_le (k := 7) (by omega) (by omega)).mp z) (by omega))]
    simp (disch := omega) only [s154_8, s154_9, s154_12, s154_13, s154_15, s154_16, s154_17, s154_20, s154_21, s154_22, s154_23, s154_24, s154_27, s154_28, s154_29, s154_30, s154_31, s154_34, s154_35, s154_36, s154_37, jm_61, jm_62, jm_63, jm_64, jiz, jcl, sG_u0, sG_u1, sG_u2, sG_u3, true_or]
    rw [s154_40, jn_1, ih (k + 1) _ (by omega)]
    · exact ⟨fun z => z.2, fun z => ⟨⟨trivial, jn_pos (by omega), by omega⟩, z⟩⟩
    · intro r s hr hs
      rcases (show r = 0 ∨ r = 1 ∨ r = 2 ∨ r = 3 by omega) with rfl | rfl | rfl | rfl
      · rw [nset_ne (by decide), nset_ne (by decide), nset_ne (by decide), nset_at]
        unfold upd
        by_cases e : s = k
        · rw [if_pos e]; rfl
        · rw [if_neg e]; exact hg 0 s (by omega) (by omega)
      · rw [nset_ne (by decide), nset_ne (by decide), nset_at]
        unfold upd
        by_cases e : s = k
        · rw [if_pos e]; rfl
        · rw [if_neg e, nset_ne (by decide)]; exact hg 1 s (by omega) (by omega)
      · rw [nset_ne (by decide), nset_at]
        unfold upd
        by_cases e : s = k
        · rw [if_pos e]; rfl
        · rw [if_neg e, nset_ne (by decide), nset_ne (by decide)]; exact hg 2 s (by omega) (by omega)
      · rw [nset_at]
        unfold upd
        by_cases e : s = k
        · rw [if_pos e]; rfl
        · rw [if_neg e, nset_ne (by decide), nset_ne (by decide), nset_ne (by decide)]; exact hg 3 s (by omega) (by omega)
theorem r154_watch (w : rO K a b l f M h) {i : Nat} {a3 : Option jV} : ∀ (m k : Nat) (g : jH), k + m = b → (jE d 154 62 [some (.inr (.inr (some (11, (0, 0))))), some (.inr (.inr (some (12, (f, 0))))), some (.inl (jn i)), a3, some (.inl (jn k))] [] (n, ([], sG M g)) v σ' ↔ jE d 154 118 [some (.inr (.inr (some (11, (0, 0))))), some (.inr (.inr (some (12, (f, 0))))), some (.inl (jn i)), a3, some (.inl (jn b))] [] (n, ([], sG M (jfor (mWatch1 i) m k g))) v σ') := by
  have w1 := w.1.1
  intro m
  induction m with
  | zero =>
    intro k g hk
    simp only [s154_62, s154_64, s154_65, s154_68, s154_69, s154_70, jm_46, jk0, ji0 (show 0 < 2 by decide), sG_r M g (f := 46) (by decide), w.2.1.1.2]
    rw [if_pos ((jn_le (by omega) (by omega)).mpr (by omega)), show k = b by omega]
    rfl
  | succ m ih =>
    intro k g hk
    simp only [s154_62, s154_64, s154_65, s154_68, s154_69, s154_70, jm_46, jk0, ji0 (show 0 < 2 by decide), sG_r M g (f := 46) (by decide), w.2.1.1.2]
    rw [if_neg (fun z => absurd ((jn_le (by omega) (by omega)).mp z) (by omega))]
    simp (disch := omega) only [s154_73, s154_74, s154_77, s154_79, s154_80, s154_81, s154_82, s154_85, s154_87, s154_88, s154_90, s154_93, s154_94, s154_97, s154_99, s154_100, s154_103, s154_104, s154_105, s154_106, s154_109, s154_110, s154_111, s154_112, jm_61, jm_62, jm_63, jm_64, jiz, jcl, sG_0, sG_2, sG_3, sG_u3, jifN]
    rw [s154_115, s154_115, jn_1, jfor]
    unfold mWatch1
    by_cases h1 : g 0 k = -4
    · rw [if_pos h1]
      by_cases h2 : g 2 k = 0
      · rw [if_pos h2, if_pos ⟨h1, h2⟩]
        exact ih (k + 1) _ (by omega)
      · rw [if_neg h2, if_neg (fun z => h2 z.2)]
        exact ih (k + 1) _ (by omega)
    · rw [if_neg h1, if_neg (fun z => h1 z.1)]
      exact ih (k + 1) _ (by omega)
theorem r154_cough (w : rO K a b l f M h) (hy : M 11 (0, 0) 25 = y) {a3 : Option jV} : ∀ (m k : Nat) (g : jH), k + m = b → (jE d 154 121 [some (.inr (.inr (some (11, (0, 0))))), some (.inr (.inr (some (12, (f, 0))))), some (.inl 0), a3, some (.inl (jn k))] [] (n, ([], sG M g)) v σ' ↔ jE d 154 168 [some (.inr (.inr (some (11, (0, 0))))), some (.inr (.inr (some (12, (f, 0))))), some (.inl 0), a3, some (.inl (jn b))] [] (n, ([], sG M (jfor (mCough1 y) m k g))) v σ') := by
  have w1 := w.1.1
  intro m
  induction m with
  | zero =>
    intro k g hk
    simp only [s154_121, s154_123, s154_124, s154_127, s154_128, s154_129, jm_46, jk0, ji0 (show 0 < 2 by decide), sG_r M g (f := 46) (by decide), w.2.1.1.2]
    rw [if_pos ((jn_le (by omega) (by omega)).mpr (by omega)), show k = b by omega]
    rfl
  | succ m ih =>
    intro k g hk
    simp only [s154_121, s154_123, s154_124, s154_127, s154_128, s154_129, jm_46, jk0, ji0 (show 0 < 2 by decide), sG_r M g (f := 46) (by decide), w.2.1.1.2]
    rw [if_neg (fun z => absurd ((jn_le (by omega) (by omega)).mp z) (by omega))]
    simp (disch := omega) only [s154_132, s154_133, s154_136, s154_137, s154_140, s154_142, s154_143, s154_146, s154_148, s154_149, s154_150, s154_151, s154_152, s154_155, s154_156, s154_159, s154_161, s154_162, jm_61, jiz, jcl, sG_k M g (show (11 : Nat) ≠ 12 by decide) (show (11 : Nat) ≠ 13 by decide), hy, sG_u0, jifN, if_true]
    rw [s154_165, s154_165, jn_1, jfor]
    unfold mCough1
    by_cases h1 : y >>> (jn k &&& 31) &&& 1 = 1
    · rw [if_pos h1, if_pos h1]
      exact ih (k + 1) _ (by omega)
    · rw [if_neg h1, if_neg h1]
      exact ih (k + 1) _ (by omega)
theorem r154_skip (w : rO K a b l f M h) {i : Nat} (hi : ¬ jn i = 0) {a3 : Option jV} : jE d 154 121 [some (.inr (.inr (some (11, (0, 0))))), some (.inr (.inr (some (12, (f, 0))))), some (.inl (jn i)), a3, some (.inl 0)] [] (n, ([], sG M g)) v σ' ↔ jE d 154 168 [some (.inr (.inr (some (11, (0, 0))))), some (.inr (.inr (some (12, (f, 0))))), some (.inl (jn i)), a3, some (.inl 0)] [] (n, ([], sG M g)) v σ' := by
  have w1 := w.1.1
  simp only [s154_121, s154_123, s154_124, s154_127, s154_128, s154_129, jm_46, jk0, ji0 (show 0 < 2 by decide), sG_r M g (f := 46) (by decide), w.2.1.1.2]
  rw [if_neg (show ¬ jn b ≤ 0 from fun z => absurd ((jn_le (k := b) (l := 0) (by omega) (by omega)).mp z) (by omega)), s154_132, s154_133, if_pos hi]
theorem r154_place (w : rO K a b l f M h) {i : Nat} (hi : i < l) : ∀ (m k : Nat) (g : jH), k + m = b → (jE (d + 3) 154 171 [some (.inr (.inr (some (11, (0, 0))))), some (.inr (.inr (some (12, (f, 0))))), some (.inl (jn i)), some (.inl (h 4 i)), some (.inl (jn k))] [] (n, ([], sG M g)) v σ' ↔ jE (d + 3) 154 226 [some (.inr (.inr (some (11, (0, 0))))), some (.inr (.inr (some (12, (f, 0))))), some (.inl (jn i)), some (.inl (h 4 i)), some (.inl (jn b))] [] (n, ([], sG M (jfor (mStep1 h i) m k g))) v σ') := by
  have w1 := w.1.1
  have hL := rO_len w
  obtain ⟨hb1, hb2⟩ := rO_bl w.1 hi
  intro m
  induction m with
  | zero =>
    intro k g hk
    simp only [s154_171, s154_173, s154_174, s154_177, s154_178, s154_179, jm_46, jk0, ji0 (show 0 < 2 by decide), sG_r M g (f := 46) (by decide), w.2.1.1.2]
    rw [if_pos ((jn_le (by omega) (by omega)).mpr (by omega)), show k = b by omega]
    rfl
  | succ m ih =>
    intro k g hk
    obtain ⟨hq1, hq2⟩ := rO_ln w.1 (show k < b by omega)
    have hr := sG_r M g (f := f) (by have := w.2.2.2; omega)
    simp only [s154_171, s154_173, s154_174, s154_177, s154_178, s154_179, jm_46, jk0, ji0 (show 0 < 2 by decide), sG_r M g (f := 46) (by decide), w.2.1.1.2]
    rw [if_neg (fun z => absurd ((jn_le (by omega) (by omega)).mp z) (by omega)), hb2]
    rw [hb2] at ih
    simp (disch := omega) only [s154_182, s154_183, s154_186, s154_187, s154_189, s154_191, s154_192, s154_193, s154_194, s154_196, s154_199, s154_200, s154_201, s154_202, s154_204, s154_206, s154_207, s154_208, s154_209, s154_212, s154_213, s154_214, s154_216, s154_217, s154_220, hL, hr, jnA18, jm_61, jiz, jcl, (w.2.2.1.2.2.1 k (by omega)).2.1, hq2, sG_0, r151 w hq1 hb1, r153 w (show k < b by omega) hq2 hq1, jcall_eq, Option.toList_some, Option.toList_none, List.cons_append, List.nil_append, jifN]
    rw [s154_223, s154_223, jn_1, jfor]
    unfold mStep1
    by_cases h1 : g 0 (ln h k) = -4
    · rw [if_pos h1, if_pos h1]
      exact ih (k + 1) _ (by omega)
    · rw [if_neg h1, if_neg h1]
      exact ih (k + 1) _ (by omega)
theorem r154_count (w : rO K a b l f M h) {a4 : Option jV} : ∀ (m k : Nat) (r : Int32), k + m = b → (jE d 154 236 [some (.inr (.inr (some (11, (0, 0))))), some (.inr (.inr (some (12, (f, 0))))), some (.inl r), some (.inl (jn k)), a4] [] (n, ([], sG M g)) v σ' ↔ v = some (.inl (jfor (fun k r => if g 0 k = -4 then r + 1 else r) m k r)) ∧ σ' = (n, ([], sG M g))) := by
  have w1 := w.1.1
  intro m
  induction m with
  | zero =>
    intro k r hk
    simp only [s154_236, s154_237, s154_238, s154_241, s154_242, s154_243, jm_46, jk0, ji0 (show 0 < 2 by decide), sG_r M g (f := 46) (by decide), w.2.1.1.2]
    rw [if_pos ((jn_le (by omega) (by omega)).mpr (by omega)), s154_271, s154_272]
    rfl
  | succ m ih =>
    intro k r hk
    simp only [s154_236, s154_237, s154_238, s154_241, s154_242, s154_243, jm_46, jk0, ji0 (show 0 < 2 by decide), sG_r M g (f := 46) (by decide), w.2.1.1.2]
    rw [if_neg (fun z => absurd ((jn_le (by omega) (by omega)).mp z) (by omega))]
    simp (disch := omega) only [s154_246, s154_247, s154_248, s154_251, s154_252, s154_253, s154_255, s154_258, s154_259, s154_262, s154_263, s154_264, s154_265, jm_61, jiz, jcl, sG_0, jifN]
    rw [s154_268, s154_268, jn_1, ih (k + 1) _ (by omega), ih (k + 1) _ (by omega), jfor]
    by_cases h1 : g 0 k = -4
    · rw [if_pos h1, if_pos h1]
    · rw [if_neg h1, if_neg h1, Int32.add_zero]
theorem r154_loop (w : rO K a b l f M h) (hy : M 11 (0, 0) 25 = y) : ∀ (m i : Nat) (g : jH) (a3 a4 : Option jV), i + m = l → (jE (d + 3) 154 45 [some (.inr (.inr (some (11, (0, 0))))), some (.inr (.inr (some (12, (f, 0))))), some (.inl (jn i)), a3, a4] [] (n, ([], sG M g)) v σ' ↔ v = some (.inl (mCnt b (jfor (fun i g => mStage h b i y g) m i g))) ∧ σ' = (n, ([], sG M (jfor (fun i g => mStage h b i y g) m i g)))) := by
  have w1 := w.1.1
  have hL := rO_len w
  intro m
  induction m with
  | zero =>
    intro i g a3 a4 hk
    have hr := sG_r M g (f := f) (by have := w.2.2.2; omega)
    simp only [s154_45, s154_46, s154_47, s154_49, s154_50, hL, hr, jk7, ji7 (show 7 < 39 by decide), w.2.2.1.2.1.1, w.1.2.1.2.2]
    rw [if_pos ((jn_le (by omega) (by omega)).mpr (by omega)), s154_232, s154_233, s154_234, s154_235]
    exact r154_count w b 0 0 (by omega)
  | succ m ih =>
    intro i g a3 a4 hk
    obtain ⟨hb1, hb2⟩ := rO_bl w.1 (show i < l by omega)
    have hr := sG_r M g (f := f) (by have := w.2.2.2; omega)
    simp only [s154_45, s154_46, s154_47, s154_49, s154_50, hL, hr, jk7, ji7 (show 7 < 39 by decide), w.2.2.1.2.1.1, w.1.2.1.2.2]
    rw [if_neg (fun z => absurd ((jn_le (by omega) (by omega)).mp z) (by omega))]
    simp (disch := omega) only [s154_53, s154_54, s154_55, s154_56, s154_57, s154_58, s154_59, s154_60, hL, hr, jnA0, jiz, jcl, w.2.2.1.1 i (by omega)]
    refine (r154_watch w b 0 g (by omega)).trans ?_
    rw [s154_118, s154_119, jfor]
    unfold mStage
    by_cases h0 : i = 0
    · rw [if_pos h0]
      subst h0
      refine (r154_cough w hy b 0 _ (by omega)).trans ?_
      rw [s154_168, s154_169]
      refine (r154_place (i := 0) w (show 0 < l by omega) b 0 _ (by omega)).trans ?_
      rw [s154_226, s154_229, jn_1]
      exact ih (0 + 1) _ _ _ (by omega)
    · rw [if_neg h0, r154_skip w (fun z => h0 (jn_inj (a := i) (b := 0) (by omega) (by omega) z)), s154_168, s154_169]
      refine (r154_place w (by omega) b 0 _ (by omega)).trans ?_
      rw [s154_226, s154_229, jn_1]
      exact ih (i + 1) _ _ _ (by omega)
/-- go -/
theorem r154 (w : rO K a b l f M h) (hy : M 11 (0, 0) 25 = y) : jE (d + 3) 154 0 [some (.inr (.inr (some (11, (0, 0))))), some (.inr (.inr (some (12, (f, 0))))), none, none, none] [] (n, ([], M)) v σ' ↔ v = some (.inl (mCnt b (mGo h b l y))) ∧ σ' = (n, ([], sG M (mGo h b l y))) := by
  have key : jE (d + 3) 154 0 [some (.inr (.inr (some (11, (0, 0))))), some (.inr (.inr (some (12, (f, 0))))), none, none, none] [] (n, ([], sG M (gG M))) v σ' ↔ v = some (.inl (mCnt b (mGo h b l y))) ∧ σ' = (n, ([], sG M (mGo h b l y))) := by
    rw [s154_0, s154_1]
    refine (r154_init 7 0 (gG M) (by omega) (fun r s _ hs => absurd hs (by omega))).trans ?_
    exact r154_loop w hy l 0 mGo0 none none (by omega)
  rw [sG_self] at key
  exact key
/-- doesPass -/
theorem r155_no (w : rO K a 0 l f M h ∨ ∃ b, rO K a b 0 f M h) : jE (d + 4) 155 0 [some (.inr (.inr (some (11, (0, 0))))), some (.inr (.inr (some (12, (f, 0)))))] [] (n, ([], M)) v σ' ↔ v = some (.inl 0) ∧ σ' = (n, ([], M)) := by
  rcases w with w | ⟨b, w⟩
  · have := w.1.1; omega
  · have hL := rO_len w
    simp only [s155_0, s155_1, s155_3, s155_4, s155_29, s155_30, hL, jk7, ji7 (show 7 < 39 by decide), w.2.2.1.2.1.1, w.1.2.1.2.2]
    rw [if_pos (by decide)]
    exact ⟨fun z => z.2, fun z => ⟨by simp, z⟩⟩
theorem r155_yes (w : rO K a b l f M h) (hl : 0 < l) (hy : M 11 (0, 0) 25 = y) : jE (d + 4) 155 0 [some (.inr (.inr (some (11, (0, 0))))), some (.inr (.inr (some (12, (f, 0)))))] [] (n, ([], M)) v σ' ↔ v = some (.inl (jb (mPass h b l y))) ∧ σ' = (n, ([], sG M (mGo h b l y))) := by
  have w1 := w.1.1
  have hL := rO_len w
  simp only [s155_0, s155_1, s155_3, s155_4, hL, jk7, ji7 (show 7 < 39 by decide), w.2.2.1.2.1.1, w.1.2.1.2.2]
  rw [if_neg (show ¬ jn l ≤ 0 from fun z => absurd ((jn_le (k := l) (l := 0) (by omega) (by omega)).mp z) (by omega))]
  simp only [s155_7, s155_8, s155_9, s155_10, s155_13, s155_14, s155_15, s155_16, s155_19, s155_20, s155_21, s155_22, s155_25, s155_26, s155_29, s155_30, r154 w hy, jcall_eq, Option.toList_some, Option.toList_none, List.cons_append, List.nil_append, jm_46, jk0, ji0 (show 0 < 2 by decide), sG_r M _ (show (46 : Nat) ≠ 61 ∧ (46 : Nat) ≠ 62 ∧ (46 : Nat) ≠ 64 by decide), w.2.1.1.2]
  unfold jb mPass
  by_cases h1 : 2 * jn b ≤ 3 * mCnt b (mGo h b l y)
  · rw [if_neg (Int32.not_lt.mpr h1), if_pos ⟨hl, h1⟩]
    exact ⟨fun z => z.2, fun z => ⟨by simp, z⟩⟩
  · rw [if_pos (Int32.not_le.mp h1), if_neg (fun z => h1 z.2)]
    exact ⟨fun z => z.2, fun z => ⟨by simp, z⟩⟩
end JRG
