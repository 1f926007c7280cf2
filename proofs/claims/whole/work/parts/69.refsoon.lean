/-! the reference: the next bill -/
noncomputable def fF (c : Nat → Int32) (d : Nat) : Nat → Nat → Option Nat
  | 0, _ => none
  | m + 1, k => @ite _ (inB c d k) (Classical.propDecidable _) (fF c d m (k + 1)) (some k)
def cutB (c : Nat → Int32) (d : Nat) : Nat → Int32 := fun i => if i < d then c i else 0
noncomputable def nbB (a : Nat) : Nat → (Nat → Int32) → Nat → Option ((Nat → Int32) × Nat)
  | 0, c, k => match fF c 0 (a - k) k with
    | some s => some (upd c 0 (jn s), 1)
    | none => none
  | d + 1, c, k => match fF c (d + 1) (a - k) k with
    | some s => some (upd c (d + 1) (jn s), d + 2)
    | none => nbB a d (cutB c d) ((c d).toNatClampNeg + 1)
section JRX
variable {n K a b l f d : Nat} {v : Option jV} {σ' : jS} {M M' : jM} {x y z : Int32} {h g nv H : jH} {c : Nat → Int32}
theorem fF_some {D : Nat} : ∀ (m k s : Nat), fF c D m k = some s → k ≤ s ∧ s < k + m ∧ ¬ inB c D s
  | 0, _, _, h => by cases h
  | m + 1, k, s, h => by
    rw [fF] at h
    by_cases e : inB c D k
    · rw [if_pos e] at h
      obtain ⟨h1, h2, h3⟩ := fF_some m (k + 1) s h
      exact ⟨by omega, by omega, h3⟩
    · rw [if_neg e] at h
      cases h
      exact ⟨by omega, by omega, e⟩
theorem cut_in {D D' : Nat} (hD : D' ≤ D) (w : cIn D a c) : cIn D' a (cutB c D') := by
  have e : ∀ i, i < D' → cutB c D' i = c i := fun i hi => if_pos hi
  exact ⟨fun i hi => by rw [e i hi]; exact w.1 i (by omega), fun i j hi hj => by rw [e i hi, e j hj]; exact w.2 i j (by omega) (by omega)⟩
theorem rO_hb {D : Nat} (w : rO K a b D 60 M (hb H c D)) : cIn D a c := by
  have := w.1.2.2.1
  rw [hb_4] at this
  exact this
theorem bl_hb {D i : Nat} : bl (hb H c D) i = (c i).toNatClampNeg := by
  unfold bl
  rw [hb_4]
/-- minutesTried -/
theorem r176 {D : Nat} (wH : hOk K a b l H) (w : rO K a b D 60 M (hb H c D)) : jE d 176 0 [some (.inr (.inr (some (11, (0, 0))))), none, none] [] (n, ([], M)) v σ' ↔ v = some (.inl (jn (mnS H c D))) ∧ σ' = (n, ([], M)) := by
  have w1 := w.1.1
  have wH1 := wH.1
  have loop : ∀ (m k : Nat), k + m = D → (jE d 176 4 [some (.inr (.inr (some (11, (0, 0))))), some (.inl (jn (mnS H c k))), some (.inl (jn k))] [] (n, ([], M)) v σ' ↔ v = some (.inl (jn (mnS H c D))) ∧ σ' = (n, ([], M))) := by
    intro m
    induction m with
    | zero =>
      intro k hk
      simp only [s176_4, s176_5, s176_6, s176_9, s176_11, s176_12, jm_60, jk7, ji7 (show 7 < 39 by decide), w.2.2.1.2.1.1, w.1.2.1.2.2]
      rw [if_pos ((jn_le (by omega) (by omega)).mpr (by omega)), s176_37, s176_38, show k = D by omega]
    | succ m ih =>
      intro k hk
      obtain ⟨s1, s2⟩ := rO_bl w.1 (show k < D by omega)
      rw [bl_hb] at s1 s2
      obtain ⟨m1, m2, m3⟩ := mnt_le wH s1
      have ec : M 12 (60, 0) k = jn (c k).toNatClampNeg := (w.2.2.1.1 k (by omega)).trans s2
      have e1 : M 12 (44, 0) (c k).toNatClampNeg = jn (mnt H (c k).toNatClampNeg) := by
        rw [(w.2.1.2.1 _ s1).2.1, hb_f (by decide) (by decide)]
        exact m3
      simp only [s176_4, s176_5, s176_6, s176_9, s176_11, s176_12, jm_60, jk7, ji7 (show 7 < 39 by decide), w.2.2.1.2.1.1, w.1.2.1.2.2]
      rw [if_neg (fun z => absurd ((jn_le (by omega) (by omega)).mp z) (by omega))]
      simp (disch := omega) only [s176_15, s176_16, s176_17, s176_20, s176_21, s176_24, s176_25, s176_26, s176_27, s176_28, s176_29, s176_30, s176_31, jm_60, jm_44, jnA0, jiz, jcl, ec, e1, jn_add]
      rw [s176_34, jn_1]
      exact ih (k + 1) (by omega)
  rw [s176_0, s176_1, s176_2, s176_3]
  exact loop D 0 (by omega)
/-- clausesTried -/
theorem r175 {D : Nat} (wH : hOk K a b l H) (w : rO K a b D 60 M (hb H c D)) : jE d 175 0 [some (.inr (.inr (some (11, (0, 0))))), none, none, none] [] (n, ([], M)) v σ' ↔ v = some (.inl (clS H c D)) ∧ σ' = (n, ([], M)) := by
  have w1 := w.1.1
  have wH1 := wH.1
  have loop : ∀ (m k : Nat) (r : Int32) (a3 : Option jV), k + m = D → (jE d 175 4 [some (.inr (.inr (some (11, (0, 0))))), some (.inl r), some (.inl (jn k)), a3] [] (n, ([], M)) v σ' ↔ v = some (.inl (jfor (fun i r => r ||| (if ¬ H 0 (c i).toNatClampNeg = 3 ∧ H 2 (c i).toNatClampNeg < 8 then 1 <<< (H 2 (c i).toNatClampNeg &&& 31) else 0)) m k r)) ∧ σ' = (n, ([], M))) := by
    intro m
    induction m with
    | zero =>
      intro k r a3 hk
      simp only [s175_4, s175_5, s175_6, s175_9, s175_11, s175_12, jm_60, jk7, ji7 (show 7 < 39 by decide), w.2.2.1.2.1.1, w.1.2.1.2.2]
      rw [if_pos ((jn_le (by omega) (by omega)).mpr (by omega)), s175_66, s175_67]
      rfl
    | succ m ih =>
      intro k r a3 hk
      obtain ⟨s1, s2⟩ := rO_bl w.1 (show k < D by omega)
      rw [bl_hb] at s1 s2
      have ec : M 12 (60, 0) k = jn (c k).toNatClampNeg := (w.2.2.1.1 k (by omega)).trans s2
      have e0 : M 12 (43, 0) (c k).toNatClampNeg = H 0 (c k).toNatClampNeg := by
        rw [(w.2.1.2.1 _ s1).1, hb_f (by decide) (by decide)]
      have e2 : M 12 (45, 0) (c k).toNatClampNeg = H 2 (c k).toNatClampNeg := by
        rw [(w.2.1.2.1 _ s1).2.2, hb_f (by decide) (by decide)]
      simp only [s175_4, s175_5, s175_6, s175_9, s175_11, s175_12, jm_60, jk7, ji7 (show 7 < 39 by decide), w.2.2.1.2.1.1, w.1.2.1.2.2]
      rw [if_neg (fun z => absurd ((jn_le (by omega) (by omega)).mp z) (by omega))]
      simp (disch := omega) only [s175_15, s175_16, s175_19, s175_20, s175_21, s175_22, s175_23, s175_24, s175_25, s175_26, s175_29, s175_30, s175_31, s175_32, s175_35, s175_36, s175_39, s175_40, s175_41, s175_43, s175_46, s175_47, s175_48, s175_51, s175_52, s175_53, s175_54, s175_57, s175_58, s175_59, s175_60, jm_60, jm_43, jm_45, jnA0, jiz, jcl, ec, e0, e2]
      rw [s175_63, s175_63, jn_1, ih (k + 1) _ _ (by omega), ih (k + 1) _ _ (by omega), jfor]
      by_cases q0 : H 0 (c k).toNatClampNeg = 3
      · rw [if_pos q0, if_neg (fun z => z.1 q0)]
      · rw [if_neg q0]
        by_cases q2 : H 2 (c k).toNatClampNeg < 8
        · rw [if_neg (Int32.not_le.mpr q2), if_pos ⟨q0, q2⟩]
        · rw [if_pos (Int32.not_lt.mp q2), if_neg (fun z => q2 z.2)]
  rw [s175_0, s175_1, s175_2, s175_3]
  exact loop D 0 0 none (by omega)
theorem onB {D k : Nat} (w : hOk K a b D (hb H c D)) : hOnBill (hb H c D) (jn k) = -4 ↔ ¬ inB c D k := by
  have e : hBilled (hb H c D) (jn k) ↔ inB c D k := by
    rw [hOk_billed w, hb_4]
  constructor
  · exact fun z z2 => (e.mpr z2) z
  · exact fun z => Classical.not_not.mp (fun z2 => z (e.mp z2))
theorem r177_find {D : Nat} (w : rO K a b D 60 M (hb H c D)) : ∀ (m k : Nat), k + m = a → (jE (d + 1) 177 2 [some (.inr (.inr (some (11, (0, 0))))), some (.inl (jn k))] [] (n, ([], M)) v σ' ↔ jE (d + 1) 177 31 [some (.inr (.inr (some (11, (0, 0))))), some (.inl (jn ((fF c D m k).getD a)))] [] (n, ([], M)) v σ') := by
  have w1 := w.1.1
  intro m
  induction m with
  | zero =>
    intro k hk
    simp only [s177_2, s177_3, s177_4, s177_7, s177_8, s177_9, jm_42, jk0, ji0 (show 0 < 2 by decide), w.2.1.1.1]
    rw [if_pos ((jn_le (by omega) (by omega)).mpr (by omega)), show k = a by omega]
    rfl
  | succ m ih =>
    intro k hk
    simp only [s177_2, s177_3, s177_4, s177_7, s177_8, s177_9, jm_42, jk0, ji0 (show 0 < 2 by decide), w.2.1.1.1]
    rw [if_neg (fun z => absurd ((jn_le (by omega) (by omega)).mp z) (by omega))]
    simp only [s177_12, s177_13, s177_16, s177_17, s177_20, s177_22, r145 w, jcall_eq, Option.toList_some, Option.toList_none, List.cons_append, List.nil_append]
    rw [fF]
    by_cases e : inB c D k
    · rw [if_neg (fun z => (onB w.1).mp z e), if_pos e, s177_25, s177_28, jn_1]
      exact ih (k + 1) (by omega)
    · rw [if_pos ((onB w.1).mpr e), if_neg e]
      rfl
/-- nextBill, under way -/
theorem r177_from (wH : hOk K a b l H) : ∀ (D : Nat) (c : Nat → Int32) (k : Nat) (M : jM), k ≤ a → rO K a b D 60 M (hb H c D) → ∃ c2, (∀ c' D', nbB a D c k = some (c', D') → rD a b D' c2 (hb H c' D') ∧ cIn D' a c') ∧ ∀ (v : Option jV) (σ' : jS), jE (d + 1) 177 2 [some (.inr (.inr (some (11, (0, 0))))), some (.inl (jn k))] [] (n, ([], M)) v σ' ↔ v = some (.inl (jb (¬ nbB a D c k = none))) ∧ σ' = (n, ([], mC M (60, 0) c2)) := by
  have wH1 := wH.1
  intro D
  -- found: it is put on
  have put : ∀ (D : Nat) (c : Nat → Int32) (k s : Nat) (M : jM), k ≤ a → rO K a b D 60 M (hb H c D) → fF c D (a - k) k = some s → ∃ c2, rD a b (D + 1) c2 (hb H (upd c D (jn s)) (D + 1)) ∧ cIn (D + 1) a (upd c D (jn s)) ∧ ∀ (v : Option jV) (σ' : jS), jE (d + 1) 177 2 [some (.inr (.inr (some (11, (0, 0))))), some (.inl (jn k))] [] (n, ([], M)) v σ' ↔ v = some (.inl 1) ∧ σ' = (n, ([], mC M (60, 0) c2)) := by
    intro D c k s M hk w hs
    have w1 := w.1.1
    obtain ⟨s1, s2, s3⟩ := fF_some _ _ _ hs
    have hc := rO_hb w
    have hc2 := cIn_ext (by omega) hc (show s < a by omega) s3
    have hD2 := cIn_le (by omega) hc2
    obtain ⟨c2, r2, e⟩ := r164 (d := d) (n := n) (x := jn s) w (show D < 7 by omega) (Nat.le_refl D)
    refine ⟨c2, ?_, hc2, fun v σ' => ?_⟩
    · refine rD_E r2 (fun i hi => ?_) (fun t h1 h2 => ?_) (fun t ht => ⟨?_, ?_, ?_⟩) (fun t ht => ?_)
      · rw [hb_4]
        unfold hMount
        rw [hSc_f (by decide), nset_at, hb_4]
        unfold rins upd
        by_cases e1 : i = D
        · rw [if_pos e1, if_neg (by omega), if_pos e1]
        · rw [if_neg e1, if_pos (by omega)]
      · unfold hMount hb
        by_cases e1 : t = 12
        · rw [e1, hSc_10, hSc_10]
          unfold hB
          rw [hSc_10, jn_clamp (by omega)]
        · rw [hSc_10' e1, hSc_10' e1, nset_ne (by decide), nset_ne (by decide), hSc_10' e1, nset_ne (by decide)]
      · rw [hMount_f (by decide) (by decide), hb_f (by decide) (by decide), hb_f (by decide) (by decide)]
      · rw [hMount_f (by decide) (by decide), hb_f (by decide) (by decide), hb_f (by decide) (by decide)]
      · rw [hMount_f (by decide) (by decide), hb_f (by decide) (by decide), hb_f (by decide) (by decide)]
      · rw [hMount_f (by decide) (by decide), hb_f (by decide) (by decide), hb_f (by decide) (by decide)]
    · refine (r177_find w (a - k) k (by omega)).trans ?_
      rw [hs]
      simp only [Option.getD_some, s177_31, s177_32, s177_33, s177_36, s177_37, s177_38, jm_42, jk0, ji0 (show 0 < 2 by decide), w.2.1.1.1]
      rw [if_neg (fun z => absurd ((jn_le (by omega) (by omega)).mp z) (by omega))]
      simp only [s177_41, s177_42, s177_45, s177_46, s177_47, s177_50, s177_52, s177_53, s177_56, s177_57, jm_60, jk7, ji7 (show 7 < 39 by decide), w.2.2.1.2.1.1, w.1.2.1.2.2, e, jcall_eq, Option.toList_some, Option.toList_none, List.cons_append, List.nil_append]
      exact ⟨fun z => z.2, fun z => ⟨by simp, z⟩⟩
  induction D with
  | zero =>
    intro c k M hk w
    have w1 := w.1.1
    cases hs : fF c 0 (a - k) k with
    | some s =>
      obtain ⟨c2, r2, i2, e⟩ := put 0 c k s M hk w hs
      have en : nbB a 0 c k = some (upd c 0 (jn s), 1) := by rw [nbB, hs]
      refine ⟨c2, fun c' D' z => ?_, fun v σ' => ?_⟩
      · rw [en] at z
        cases z
        exact ⟨r2, i2⟩
      · rw [e, en, jb_t (fun z => by cases z)]
    | none =>
      have en : nbB a 0 c k = none := by rw [nbB, hs]
      refine ⟨M 12 (60, 0), fun c' D' z => (by rw [en] at z; cases z), fun v σ' => ?_⟩
      refine (r177_find w (a - k) k (by omega)).trans ?_
      rw [hs, en, mC_self]
      simp only [Option.getD_none, s177_31, s177_32, s177_33, s177_36, s177_37, s177_38, jm_42, jk0, ji0 (show 0 < 2 by decide), w.2.1.1.1]
      rw [if_pos ((jn_le (by omega) (by omega)).mpr (by omega))]
      simp only [s177_58, s177_59, s177_62, s177_64, s177_65, s177_68, s177_69, jm_60, jk7, ji7 (show 7 < 39 by decide), w.2.2.1.2.1.1, w.1.2.1.2.2]
      rw [if_neg (show ¬ ¬ jn 0 = 0 from fun z => z rfl), jb_f (fun z => z trivial)]
      exact ⟨fun z => z.2, fun z => ⟨by simp, z⟩⟩
  | succ D ih =>
    intro c k M hk w
    have w1 := w.1.1
    cases hs : fF c (D + 1) (a - k) k with
    | some s =>
      obtain ⟨c2, r2, i2, e⟩ := put (D + 1) c k s M hk w hs
      have en : nbB a (D + 1) c k = some (upd c (D + 1) (jn s), D + 2) := by rw [nbB, hs]
      refine ⟨c2, fun c' D' z => ?_, fun v σ' => ?_⟩
      · rw [en] at z
        cases z
        exact ⟨r2, i2⟩
      · rw [e, en, jb_t (fun z => by cases z)]
    | none =>
      have en : nbB a (D + 1) c k = nbB a D (cutB c D) ((c D).toNatClampNeg + 1) := by rw [nbB, hs]
      obtain ⟨s1, s2⟩ := rO_bl w.1 (show D < D + 1 by omega)
      rw [bl_hb] at s1 s2
      have hc := rO_hb w
      have hci := cut_in (show D ≤ D + 1 by omega) hc
      have wn : rO K a b D 60 (mC M (60, 0) (upd (M 12 (60, 0)) 7 (jn D))) (hb H (cutB c D) D) := by
        refine rO_mC (Or.inr rfl) (hOk_b wH hci) (rS_rows w.2.1 ?_ ?_ ?_ ?_ ?_) ?_
        · rw [hb_f (by decide) (by decide), hb_f (by decide) (by decide)]
        · rw [hb_f (by decide) (by decide), hb_f (by decide) (by decide)]
        · rw [hb_f (by decide) (by decide), hb_f (by decide) (by decide)]
        · rw [hb_f (by decide) (by decide), hb_f (by decide) (by decide)]
        · rw [hb_f (by decide) (by decide), hb_f (by decide) (by decide)]
        · have r := w.2.2.1
          have u : ∀ t, t ≠ 7 → upd (M 12 (60, 0)) 7 (jn D) t = M 12 (60, 0) t := fun t ht => if_neg ht
          refine ⟨fun i hi => ?_, ⟨?_, ?_, ?_, ?_⟩, fun t ht => ⟨?_, ?_, ?_⟩, fun t ht => ?_⟩
          · rw [u _ (by omega), r.1 i (by omega), hb_4, hb_4]
            exact (if_pos hi).symm
          · unfold hb
            rw [hSc_10]
            exact if_pos rfl
          · rw [u _ (by omega), r.2.1.2.1]; unfold hb; rw [hSc_10' (by decide), hSc_10' (by decide), nset_ne (by decide), nset_ne (by decide)]
          · rw [u _ (by omega), r.2.1.2.2.1]; unfold hb; rw [hSc_10' (by decide), hSc_10' (by decide), nset_ne (by decide), nset_ne (by decide)]
          · rw [u _ (by omega), r.2.1.2.2.2]; unfold hb; rw [hSc_10' (by decide), hSc_10' (by decide), nset_ne (by decide), nset_ne (by decide)]
          · rw [u _ (by omega), (r.2.2.1 t ht).1, hb_f (by decide) (by decide), hb_f (by decide) (by decide)]
          · rw [u _ (by omega), (r.2.2.1 t ht).2.1, hb_f (by decide) (by decide), hb_f (by decide) (by decide)]
          · rw [u _ (by omega), (r.2.2.1 t ht).2.2, hb_f (by decide) (by decide), hb_f (by decide) (by decide)]
          · rw [u _ (by omega), r.2.2.2 t ht, hb_f (by decide) (by decide), hb_f (by decide) (by decide)]
      obtain ⟨c2, r2, e⟩ := ih (cutB c D) ((c D).toNatClampNeg + 1) _ (by omega) wn
      refine ⟨c2, fun c' D' z => r2 c' D' (by rw [← en]; exact z), fun v σ' => ?_⟩
      refine (r177_find w (a - k) k (by omega)).trans ?_
      rw [hs, en]
      simp only [Option.getD_none, s177_31, s177_32, s177_33, s177_36, s177_37, s177_38, jm_42, jk0, ji0 (show 0 < 2 by decide), w.2.1.1.1]
      rw [if_pos ((jn_le (by omega) (by omega)).mpr (by omega))]
      have e7 : M 12 (60, 0) 7 = jn (D + 1) := w.2.2.1.2.1.1.trans w.1.2.1.2.2
      simp only [s177_58, s177_59, s177_62, s177_64, s177_65, jm_60, jk7, ji7 (show 7 < 39 by decide), e7]
      rw [if_pos (show ¬ jn (D + 1) = 0 from fun z => by have := jn_inj (a := D + 1) (b := 0) (by omega) (by omega) z; omega)]
      have u7 : upd (M 12 (60, 0)) 7 (jn D) 7 = jn D := if_pos rfl
      have uD : upd (M 12 (60, 0)) 7 (jn D) D = jn (c D).toNatClampNeg := (if_neg (by omega)).trans ((w.2.2.1.1 D (by omega)).trans s2)
      simp (disch := omega) only [s177_70, s177_71, s177_74, s177_76, s177_77, s177_78, s177_79, s177_80, s177_81, s177_82, s177_85, s177_86, s177_87, s177_90, s177_92, s177_93, s177_94, s177_95, s177_96, s177_97, jm_60, jk7, ji7 (show 7 < 39 by decide), e7, jn_sub1, mC_up, mC_at, u7, jnA0, jiz, jcl, uD]
      rw [s177_98, jn_1, e, mC_mC]
/-- nextBill -/
theorem r177 (wH : hOk K a b l H) {D : Nat} (w : rO K a b D 60 M (hb H c D)) : ∃ c2, (∀ c' D', nbB a D c 0 = some (c', D') → rD a b D' c2 (hb H c' D') ∧ cIn D' a c') ∧ ∀ (v : Option jV) (σ' : jS), jE (d + 1) 177 0 [some (.inr (.inr (some (11, (0, 0))))), none] [] (n, ([], M)) v σ' ↔ v = some (.inl (jb (¬ nbB a D c 0 = none))) ∧ σ' = (n, ([], mC M (60, 0) c2)) := by
  obtain ⟨c2, r2, e⟩ := r177_from (d := d) (n := n) wH D c 0 M (by omega) w
  refine ⟨c2, r2, fun v σ' => ?_⟩
  rw [s177_0, s177_1]
  exact e v σ'
end JRX
