/-! the reference: binding, a night played -/
def mB1 (h g : jH) (p k : Nat) (c : Nat → Int32) : Nat → Int32 :=
  if (g 3 k >>> (jn p &&& 31) &&& 1 = 1) ∧ (¬ h 0 (bl h p) = 1 ∨ h 6 k = 1) then upd c (25 + k) (if h 0 (bl h p) = 3 then c (25 + k) &&& (1 <<< (h 2 (bl h p) &&& 31) ^^^ -1) else c (25 + k) ||| 1 <<< (h 2 (bl h p) &&& 31)) else c
def mB2 (b : Nat) (h g : jH) (p : Nat) (c : Nat → Int32) : Nat → Int32 := if h 2 (bl h p) < 8 then jfor (mB1 h g p) b 0 c else c
section JRP
variable {d n K a b l f : Nat} {v : Option jV} {σ' : jS} {M : jM} {x y z : Int32} {h g nv : jH} {c : Nat → Int32}
theorem mC_sG (hf : f = 55 ∨ f = 60) : mC (sG M g) (f, 0) c = sG (mC M (f, 0) c) g := by
  funext k a s
  unfold mC
  by_cases e : k = 12 ∧ a = (f, 0)
  · rw [if_pos e, e.1, e.2, sG_r _ _ (by omega)]
    exact (if_pos ⟨rfl, rfl⟩).symm
  · rw [if_neg e]
    unfold sG
    simp only [if_neg e]
/-- doesPass -/
theorem r155 (w : rO K a b l f M h) (hK : K ≤ 1000000) (hy : M 11 (0, 0) 25 = y) : ∃ g, (0 < l → g = mGo h b l y) ∧ ∀ (v : Option jV) (σ' : jS), jE (d + 4) 155 0 [some (.inr (.inr (some (11, (0, 0))))), some (.inr (.inr (some (12, (f, 0)))))] [] (n, ([], M)) v σ' ↔ v = some (.inl (jb (nCarry h (nUnfold h y)))) ∧ σ' = (n, ([], sG M g)) := by
  have w1 := w.1.1
  have e := same_pass (y := y) w.1 hK
  by_cases hl : 0 < l
  · refine ⟨mGo h b l y, fun _ => rfl, fun v σ' => ?_⟩
    rw [r155_yes w hl hy]
    by_cases c1 : mPass h b l y
    · rw [jb_t c1, jb_t (e.mp c1)]
    · rw [jb_f c1, jb_f (fun z => c1 (e.mpr z))]
  · refine ⟨gG M, fun z => absurd z hl, fun v σ' => ?_⟩
    have e0 : l = 0 := by omega
    subst e0
    rw [r155_no (l := 0) (Or.inr ⟨b, w⟩), sG_self, jb_f (fun z => absurd (e.mpr z).1 (by omega))]
theorem r156_in (hs : rS a b M h) (w : hOk K a b l h) (hf : f = 55 ∨ f = 60) {p : Nat} (hp : p < l) (h8 : h 2 (bl h p) < 8) : ∀ (m k : Nat) (c : Nat → Int32) (a5 : Option jV), k + m = b → ∃ a5', ∀ (v : Option jV) (σ' : jS), jE d 156 19 [some (.inr (.inr (some (11, (0, 0))))), some (.inr (.inr (some (12, (f, 0))))), some (.inl (jn p)), some (.inl (jn (bl h p))), some (.inl (jn k)), a5] [] (n, ([], sG (mC M (f, 0) c) g)) v σ' ↔ jE d 156 149 [some (.inr (.inr (some (11, (0, 0))))), some (.inr (.inr (some (12, (f, 0))))), some (.inl (jn p)), some (.inl (jn (bl h p))), some (.inl (jn b)), a5'] [] (n, ([], sG (mC M (f, 0) (jfor (mB1 h g p) m k c)) g)) v σ' := by
  have w1 := w.1
  have hL : jLen 12 (f, 0) = 39 := by rcases hf with rfl | rfl <;> rfl
  have hbl := (rO_bl w hp).1
  intro m
  induction m with
  | zero =>
    intro k c a5 hk
    refine ⟨a5, fun v σ' => ?_⟩
    have hs2 := rS_sG g (rS_mC (c := c) hf hs)
    simp only [s156_19, s156_21, s156_22, s156_25, s156_26, s156_27, jm_46, jk0, ji0 (show 0 < 2 by decide), hs2.1.2]
    rw [if_pos ((jn_le (by omega) (by omega)).mpr (by omega)), show k = b by omega]
    rfl
  | succ m ih =>
    intro k c a5 hk
    have hs2 := rS_sG g (rS_mC (c := c) hf hs)
    have hr := sG_r (mC M (f, 0) c) g (f := f) (by omega)
    have up : ∀ x, mC (sG (mC M (f, 0) c) g) (f, 0) (upd c (25 + k) x) = sG (mC M (f, 0) (upd c (25 + k) x)) g := fun x => by rw [mC_sG hf, mC_mC]
    have hgo : ∀ (v : Option jV) (σ' : jS) (x : Int32), (jE d 156 84 [some (.inr (.inr (some (11, (0, 0))))), some (.inr (.inr (some (12, (f, 0))))), some (.inl (jn p)), some (.inl (jn (bl h p))), some (.inl (jn k)), some (.inl x)] [] (n, ([], sG (mC M (f, 0) c) g)) v σ' ↔ jE d 156 19 [some (.inr (.inr (some (11, (0, 0))))), some (.inr (.inr (some (12, (f, 0))))), some (.inl (jn p)), some (.inl (jn (bl h p))), some (.inl (jn (k + 1))), some (.inl x)] [] (n, ([], sG (mC M (f, 0) (if x = 0 then c else upd c (25 + k) (if h 0 (bl h p) = 3 then c (25 + k) &&& (1 <<< (h 2 (bl h p) &&& 31) ^^^ -1) else c (25 + k) ||| 1 <<< (h 2 (bl h p) &&& 31)))) g)) v σ') := by
      intro v σ' x
      by_cases hx : x = 0
      · rw [if_pos hx]
        rw [s156_84, s156_86, if_pos hx, s156_143, s156_146, jn_1]
      · rw [if_neg hx]
        rw [s156_84, s156_86, if_neg hx]
        simp (disch := omega) only [s156_89, s156_90, s156_92, s156_94, s156_95, s156_96, s156_99, s156_100, s156_101, s156_102, s156_105, s156_106, s156_108, s156_110, s156_111, s156_112, s156_113, s156_114, s156_117, s156_118, s156_119, s156_120, s156_121, s156_122, s156_123, s156_126, s156_127, s156_129, s156_131, s156_132, s156_133, s156_134, s156_135, s156_138, s156_139, s156_140, s156_141, s156_142, s156_143, hL, hr, mC_at, jm_43, jm_45, jnA25, jiz, jcl, (hs2.2.1 _ hbl).1, (hs2.2.1 _ hbl).2.2, mC_up, up, jifN]
        rw [s156_146, s156_146, jn_1]
        by_cases h3 : h 0 (bl h p) = 3
        · rw [if_pos h3, if_pos h3]
        · rw [if_neg h3, if_neg h3]
    have head : ∀ (v : Option jV) (σ' : jS), (jE d 156 19 [some (.inr (.inr (some (11, (0, 0))))), some (.inr (.inr (some (12, (f, 0))))), some (.inl (jn p)), some (.inl (jn (bl h p))), some (.inl (jn k)), a5] [] (n, ([], sG (mC M (f, 0) c) g)) v σ' ↔ jE d 156 84 [some (.inr (.inr (some (11, (0, 0))))), some (.inr (.inr (some (12, (f, 0))))), some (.inl (jn p)), some (.inl (jn (bl h p))), some (.inl (jn k)), some (.inl (jb ((g 3 k >>> (jn p &&& 31) &&& 1 = 1) ∧ (¬ h 0 (bl h p) = 1 ∨ h 6 k = 1))))] [] (n, ([], sG (mC M (f, 0) c) g)) v σ') := by
      intro v σ'
      simp only [s156_19, s156_21, s156_22, s156_25, s156_26, s156_27, jm_46, jk0, ji0 (show 0 < 2 by decide), hs2.1.2]
      rw [if_neg (fun z => absurd ((jn_le (by omega) (by omega)).mp z) (by omega))]
      simp (disch := omega) only [s156_30, s156_31, s156_34, s156_35, s156_36, s156_38, s156_41, s156_42, s156_45, s156_47, s156_48, s156_49, s156_50, s156_51, s156_52, s156_53, s156_56, s156_57, s156_60, s156_61, s156_62, s156_63, s156_66, s156_67, s156_70, s156_72, s156_73, s156_74, s156_77, s156_78, s156_81, s156_82, jm_43, jm_45, jm_48, jm_64, jiz, jcl, (hs2.2.1 _ hbl).1, (hs2.2.1 _ hbl).2.2, (hs2.2.2 k (by omega)).1, sG_3, jifN]
      rw [if_neg (Int32.not_le.mpr h8)]
      by_cases c1 : g 3 k >>> (jn p &&& 31) &&& 1 = 1
      · rw [if_pos c1]
        by_cases c2 : h 0 (bl h p) = 1
        · rw [if_pos c2]
          by_cases c3 : h 6 k = 1
          · rw [if_pos c3, jb_t ⟨c1, Or.inr c3⟩]
          · rw [if_neg c3, jb_f (fun z => z.2.elim (fun q => q c2) c3)]
        · rw [if_neg c2, jb_t ⟨c1, Or.inl c2⟩]
      · rw [if_neg c1, jb_f (fun z => c1 z.1)]
    obtain ⟨a5', e⟩ := ih (k + 1) (mB1 h g p k c) (some (.inl (jb ((g 3 k >>> (jn p &&& 31) &&& 1 = 1) ∧ (¬ h 0 (bl h p) = 1 ∨ h 6 k = 1))))) (by omega)
    refine ⟨a5', fun v σ' => ?_⟩
    rw [head, hgo, jfor]
    refine Iff.trans (iff_of_eq ?_) (e v σ')
    unfold mB1
    by_cases c1 : (g 3 k >>> (jn p &&& 31) &&& 1 = 1) ∧ (¬ h 0 (bl h p) = 1 ∨ h 6 k = 1)
    · rw [jb_t c1, if_pos c1, if_neg (show ¬ (1 : Int32) = 0 by decide)]
    · rw [jb_f c1, if_neg c1, if_pos rfl]
theorem r156_loop (hs : rS a b M h) (w : hOk K a b l h) (hf : f = 55 ∨ f = 60) : ∀ (m p : Nat) (c : Nat → Int32) (a3 a4 a5 : Option jV), p + m = l → c 7 = jn l → (∀ i, i < l → c i = h 4 i) → (∀ p k c, mB1 h g p k c 7 = c 7 ∧ ∀ i, i < 7 → mB1 h g p k c i = c i) → (jE d 156 2 [some (.inr (.inr (some (11, (0, 0))))), some (.inr (.inr (some (12, (f, 0))))), some (.inl (jn p)), a3, a4, a5] [] (n, ([], sG (mC M (f, 0) c) g)) v σ' ↔ v = none ∧ σ' = (n, ([], sG (mC M (f, 0) (jfor (mB2 b h g) m p c)) g))) := by
  have w1 := w.1
  have hL : jLen 12 (f, 0) = 39 := by rcases hf with rfl | rfl <;> rfl
  intro m
  induction m with
  | zero =>
    intro p c a3 a4 a5 hp h7 hc hk
    have hr := sG_r (mC M (f, 0) c) g (f := f) (by omega)
    simp only [s156_2, s156_3, s156_4, s156_6, s156_7, s156_155, hL, jk7, ji7 (show 7 < 39 by decide), hr, mC_at, h7]
    rw [if_pos ((jn_le (by omega) (by omega)).mpr (by omega))]
    rfl
  | succ m ih =>
    intro p c a3 a4 a5 hp h7 hc hk
    have hr := sG_r (mC M (f, 0) c) g (f := f) (by omega)
    have hs2 := rS_sG g (rS_mC (c := c) hf hs)
    obtain ⟨hb1, hb2⟩ := rO_bl w (show p < l by omega)
    simp only [s156_2, s156_3, s156_4, s156_6, s156_7, hL, jk7, ji7 (show 7 < 39 by decide), hr, mC_at, h7]
    rw [if_neg (fun z => absurd ((jn_le (by omega) (by omega)).mp z) (by omega))]
    simp (disch := omega) only [s156_10, s156_11, s156_12, s156_13, s156_14, s156_15, s156_16, s156_17, hL, hr, mC_at, jnA0, jiz, jcl, hc p (by omega), hb2]
    rw [jfor]
    have fin : ∀ (c' : Nat → Int32), c' 7 = jn l → (∀ i, i < l → c' i = h 4 i) → ∀ a3 a4 a5, (jE d 156 149 [some (.inr (.inr (some (11, (0, 0))))), some (.inr (.inr (some (12, (f, 0))))), some (.inl (jn p)), a3, a4, a5] [] (n, ([], sG (mC M (f, 0) c') g)) v σ' ↔ v = none ∧ σ' = (n, ([], sG (mC M (f, 0) (jfor (mB2 b h g) m (p + 1) c')) g))) := by
      intro c' h7' hc' a3 a4 a5
      rw [s156_149, s156_152, jn_1]
      exact ih (p + 1) c' a3 a4 a5 (by omega) h7' hc' hk
    by_cases h8 : h 2 (bl h p) < 8
    · obtain ⟨a5', e⟩ := r156_in (d := d) (n := n) (g := g) hs w hf (show p < l by omega) h8 b 0 c a5 (by omega)
      refine (e v σ').trans ?_
      have e2 : mB2 b h g p c = jfor (mB1 h g p) b 0 c := if_pos h8
      rw [e2]
      have inv := jfor_inv (P := fun c' => c' 7 = jn l ∧ ∀ i, i < l → c' i = h 4 i) (f := mB1 h g p) b 0 c (fun j y _ _ hy => ⟨(hk p j y).1.trans hy.1, fun i hi => ((hk p j y).2 i (by omega)).trans (hy.2 i hi)⟩) ⟨h7, hc⟩
      exact fin _ inv.1 inv.2 _ _ _
    · have e2 : mB2 b h g p c = c := if_neg h8
      rw [e2]
      simp only [s156_19, s156_21, s156_22, s156_25, s156_26, s156_27, jm_46, jk0, ji0 (show 0 < 2 by decide), hs2.1.2]
      rw [if_neg (show ¬ jn b ≤ 0 from fun z => absurd ((jn_le (k := b) (l := 0) (by omega) (by omega)).mp z) (by omega))]
      simp (disch := omega) only [s156_30, s156_31, s156_34, s156_35, s156_36, s156_38, jm_45, jiz, jcl, (hs2.2.1 _ hb1).2.2]
      rw [if_pos (Int32.not_lt.mp h8)]
      exact fin c h7 hc _ _ _
theorem mB1_k (p k : Nat) (c : Nat → Int32) : mB1 h g p k c 7 = c 7 ∧ ∀ i, i < 7 → mB1 h g p k c i = c i := by
  unfold mB1
  by_cases e : (g 3 k >>> (jn p &&& 31) &&& 1 = 1) ∧ (¬ h 0 (bl h p) = 1 ∨ h 6 k = 1)
  · rw [if_pos e]
    exact ⟨if_neg (by omega), fun i hi => if_neg (by omega)⟩
  · rw [if_neg e]
    exact ⟨rfl, fun _ _ => rfl⟩
/-- what binding does here and there -/
def sameB (b : Nat) (h h' : jH) : Prop := (∀ f, f ≠ 8 → h' f = h f)
theorem and_neg1 (x : Int32) : x &&& -1 = x := by
  apply Int32.toBitVec_inj.mp
  rw [Int32.toBitVec_and]
  show x.toBitVec &&& (BitVec.allOnes 32) = x.toBitVec
  exact BitVec.and_allOnes
theorem same_bind2 (w : hOk K a b l h) {seen : Nat → Int32} (hg : ∀ s, s < b → g 3 s = seen s) {p : Nat} (hp : p < l) {h' : jH} (r : rD a b l c h') (hf : ∀ f, f ≠ 8 → h' f = h f) : rD a b l (mB2 b h g p c) (hBA2 seen b p h') ∧ ∀ f, f ≠ 8 → hBA2 seen b p h' f = h f := by
  have w1 := w.1
  obtain ⟨hb1, hb2⟩ := rO_bl w hp
  obtain ⟨cl, _, hc2, hc3⟩ := w.2.2.2.2.1.2.2.1 _ hb1
  unfold hBA2
  rw [hf 4 (by decide), hf 0 (by decide), hf 2 (by decide), rg_in (by omega) (show p < 7 by omega), hb2, rg_in (by omega) (show bl h p < 7 by omega), rg_in (by omega) (show bl h p < 7 by omega), hc3]
  have key : ∀ (k : Nat) (h1 : jH) (c1 : Nat → Int32), k < b → rD a b l c1 h1 → (∀ f, f ≠ 8 → h1 f = h f) → rD a b l (if h 2 (bl h p) < 8 then mB1 h g p k c1 else c1) (hBA1 seen (jn p) (h 0 (bl h p)) (clb (jn cl)) k h1) ∧ ∀ f, f ≠ 8 → hBA1 seen (jn p) (h 0 (bl h p)) (clb (jn cl)) k h1 f = h f := by
    intro k h1 c1 hk r1 f1
    have c8 : c1 (25 + k) = h1 8 k := (r1.2.2.1 k hk).2.2
    constructor
    · unfold hBA1 mB1
      rw [rg_in (by omega) (show k < 7 by omega), hg k hk]
      by_cases e1 : seen k >>> (jn p &&& 31) &&& 1 = 0
      · have ex : ¬ ((seen k >>> (jn p &&& 31) &&& 1 = 1) ∧ (¬ h 0 (bl h p) = 1 ∨ h 6 k = 1)) := fun z => absurd ((and1' _).mp z.1) (fun q => q e1)
        rw [if_pos e1, if_neg ex]
        by_cases e8 : h 2 (bl h p) < 8
        · rw [if_pos e8]; exact r1
        · rw [if_neg e8]; exact r1
      · rw [if_neg e1]
        unfold hBind
        rw [f1 6 (by decide), rg_in (by omega) (show k < 7 by omega), rg_in (by omega) (show k < 7 by omega), rs_in (by omega) (show k < 7 by omega), rs_in (by omega) (show k < 7 by omega), hc3]
        have e1' := (and1' (seen k >>> (jn p &&& 31))).mpr e1
        have same : ∀ x, x = h1 8 k → nset h1 8 (upd (h1 8) k x) = h1 := fun x hx => by
          funext r
          unfold nset upd
          by_cases er : r = 8
          · rw [if_pos er, er]
            funext i
            by_cases ei : i = k
            · rw [if_pos ei, ei, hx]
            · rw [if_neg ei]
          · rw [if_neg er]
        by_cases e8 : cl < 8
        · have e8' : jn cl < 8 := (jn_lt (k := cl) (l := 8) (by omega) (by omega)).mpr e8
          have ecl : clb (jn cl) = 1 <<< (jn cl &&& 31) := by
            unfold clb
            rw [if_neg (fun z => by have := jn_inj (a := cl) (b := 8) (by omega) (by omega) z; omega)]
          rw [if_pos e8', ecl]
          by_cases e3 : h 0 (bl h p) = 3
          · rw [if_pos e3, if_pos ⟨e1', Or.inl (by rw [e3]; decide)⟩, if_pos e3, c8]
            exact rD_row (o := 25) (by omega) (by omega) r1 (by omega) hk
          · rw [if_neg e3]
            by_cases e4 : ¬ h 0 (bl h p) = 1 ∨ h 6 k = 1
            · rw [if_pos e4, if_pos ⟨e1', e4⟩, if_neg e3, c8]
              exact rD_row (o := 25) (by omega) (by omega) r1 (by omega) hk
            · rw [if_neg e4, if_neg (fun z => e4 z.2), if_neg e3]
              exact r1
        · have ecl2 : cl = 8 := by omega
          subst ecl2
          rw [if_neg (show ¬ jn 8 < 8 by decide), show clb (jn 8) = 0 from rfl]
          by_cases e3 : h 0 (bl h p) = 3
          · rw [if_pos e3, same _ (by rw [show (0 ^^^ -1 : Int32) = -1 by decide]; exact and_neg1 _)]
            exact r1
          · rw [if_neg e3]
            by_cases e4 : ¬ h 0 (bl h p) = 1 ∨ h 6 k = 1
            · rw [if_pos e4, same _ (Int32.or_zero)]
              exact r1
            · rw [if_neg e4]
              exact r1
    · intro r hr
      unfold hBA1
      by_cases e1 : rg 7 seen (jn k) >>> (jn p &&& 31) &&& 1 = 0
      · rw [if_pos e1]; exact f1 r hr
      · rw [if_neg e1, hBind_f hr]; exact f1 r hr
  have e := jfor_two (R := fun k (h1 : jH) (c1 : Nat → Int32) => rD a b l c1 h1 ∧ ∀ f, f ≠ 8 → h1 f = h f) (f := hBA1 seen (jn p) (h 0 (bl h p)) (clb (jn cl))) (f' := fun k c1 => if h 2 (bl h p) < 8 then mB1 h g p k c1 else c1) b 0 h' c (fun j h1 c1 _ hj z => key j h1 c1 (by omega) z.1 z.2) ⟨r, hf⟩
  have e2 : mB2 b h g p c = jfor (fun k c1 => if h 2 (bl h p) < 8 then mB1 h g p k c1 else c1) b 0 c := by
    unfold mB2
    by_cases e8 : h 2 (bl h p) < 8
    · simp only [if_pos e8]
    · rw [if_neg e8, jfor_id b 0 c (fun j x => if_neg e8)]
  rw [e2]
  exact e
theorem same_bind (w : hOk K a b l h) {seen : Nat → Int32} (hg : ∀ s, s < b → g 3 s = seen s) (r : rD a b l c h) : rD a b l (jfor (mB2 b h g) l 0 c) (hBindAll seen h) ∧ ∀ f, f ≠ 8 → hBindAll seen h f = h f := by
  unfold hBindAll
  rw [hOk_B w, hOk_S w]
  exact jfor_two (R := fun k (h1 : jH) (c1 : Nat → Int32) => rD a b l c1 h1 ∧ ∀ f, f ≠ 8 → h1 f = h f) (f := hBA2 seen b) (f' := mB2 b h g) l 0 h c (fun j h1 c1 _ hj z => same_bind2 w hg (by omega) z.1 z.2) ⟨r, fun _ _ => rfl⟩
/-- bind -/
theorem r156 (hs : rS a b M h) (w : hOk K a b l h) (hf : f = 55 ∨ f = 60) (r : rD a b l c h) {seen : Nat → Int32} (hg : ∀ s, s < b → g 3 s = seen s) : ∃ c', rD a b l c' (hBindAll seen h) ∧ ∀ (v : Option jV) (σ' : jS), jE d 156 0 [some (.inr (.inr (some (11, (0, 0))))), some (.inr (.inr (some (12, (f, 0))))), none, none, none, none] [] (n, ([], sG (mC M (f, 0) c) g)) v σ' ↔ v = none ∧ σ' = (n, ([], sG (mC M (f, 0) c') g)) := by
  refine ⟨jfor (mB2 b h g) l 0 c, (same_bind w hg r).1, fun v σ' => ?_⟩
  rw [s156_0, s156_1]
  exact r156_loop hs w hf l 0 c none none none (by omega) (r.2.1.1.trans w.2.1.2.2) r.1 (fun p k c => mB1_k p k c)
/-- canPlay -/
theorem r157 (w : rO K a b l f M h) : jE (d + 1) 157 0 [some (.inr (.inr (some (11, (0, 0))))), some (.inr (.inr (some (12, (f, 0)))))] [] (n, ([], M)) v σ' ↔ v = some (.inl (jb (hCanOpen h))) ∧ σ' = (n, ([], M)) := by
  have w1 := w.1.1
  have hL := rO_len w
  simp only [s157_0, s157_1, s157_3, s157_4, s157_7, s157_8, s157_10, s157_11, s157_12, s157_13, s157_16, s157_19, s157_20, s157_23, s157_24, hL, jk7, jk8, ji7 (show 7 < 39 by decide), ji8 (show 8 < 39 by decide), r148 w, jcall_eq, Option.toList_some, Option.toList_none, List.cons_append, List.nil_append, w.2.2.1.2.1.1, w.2.2.1.2.1.2.1]
  unfold jb hCanOpen
  by_cases h1 : h 10 12 ≤ 0
  · rw [if_pos h1, if_neg (fun z => absurd z.1 (Int32.not_lt.mpr h1))]
    exact ⟨fun z => z.2, fun z => ⟨by simp, z⟩⟩
  · rw [if_neg h1]
    by_cases h2 : hClq h ≤ h 10 13
    · rw [if_neg (Int32.not_lt.mpr h2), if_pos ⟨Int32.not_le.mp h1, h2⟩]
      exact ⟨fun z => z.2, fun z => ⟨by simp, z⟩⟩
    · rw [if_pos (Int32.not_le.mp h2), if_neg (fun z => h2 z.2)]
      exact ⟨fun z => z.2, fun z => ⟨by simp, z⟩⟩
end JRP
