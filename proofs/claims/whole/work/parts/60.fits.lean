/-! the reference: fits -/
def fM (M : jM) (g : jH) (P T : Nat → Int32) : jM := sG (mC (mC M (49, 0) P) (48, 0) T) g
def fpH (h : jH) (c1 c2 : Nat → Int32) (m f q N : Nat) : Int32 := jfor (fun k o => if sgAgree c1 c2 (jn q) (nUnfold (nset h f (upd (h f) q (jn k))) 0 1 q) m 0 = true then o ||| 1 <<< (jn k &&& 31) else o) N 0 0
theorem mC_comm {M : jM} {a b : jA} {c c' : Nat → Int32} (h : a ≠ b) : mC (mC M a c) b c' = mC (mC M b c') a c := by
  funext k y s
  unfold mC
  by_cases e1 : k = 12 ∧ y = b
  · rw [if_pos e1, if_neg (fun z => h (z.2.symm.trans e1.2)), if_pos e1]
  · rw [if_neg e1]
    by_cases e2 : k = 12 ∧ y = a
    · rw [if_pos e2, if_pos e2]
    · rw [if_neg e2, if_neg e2, if_neg e1]
theorem mC_sG2 {M : jM} {g : jH} {f : Nat} {c : Nat → Int32} (hf : f ≠ 61 ∧ f ≠ 62 ∧ f ≠ 64) : mC (sG M g) (f, 0) c = sG (mC M (f, 0) c) g := by
  funext k a s
  unfold mC
  by_cases e : k = 12 ∧ a = (f, 0)
  · rw [if_pos e, e.1, e.2, sG_r _ _ hf]
    exact (if_pos ⟨rfl, rfl⟩).symm
  · rw [if_neg e]
    unfold sG
    simp only [if_neg e]
theorem upd_upd {c : Nat → Int32} {q : Nat} {x y : Int32} : upd (upd c q x) q y = upd c q y := by
  funext i
  unfold upd
  by_cases e : i = q
  · rw [if_pos e, if_pos e]
  · rw [if_neg e, if_neg e, if_neg e]
theorem upd_self {c : Nat → Int32} {q : Nat} : upd c q (c q) = c := by
  funext i
  unfold upd
  by_cases e : i = q
  · rw [if_pos e, e]
  · rw [if_neg e]
theorem upd_c {c c' : Nat → Int32} {q s : Nat} {x : Int32} (e : c s = c' s) : upd c q x s = upd c' q x s := by
  unfold upd
  by_cases k : s = q
  · rw [if_pos k, if_pos k]
  · rw [if_neg k, if_neg k, e]
theorem nset_nset {h : jH} {f : Nat} {c c' : Nat → Int32} : nset (nset h f c) f c' = nset h f c' := by
  funext r
  unfold nset
  by_cases e : r = f
  · rw [if_pos e, if_pos e]
  · rw [if_neg e, if_neg e, if_neg e]
section JRF1
variable {d n K a b l f : Nat} {v : Option jV} {σ' : jS} {M M' : jM} {x y z : Int32} {h g nv : jH} {c P T : Nat → Int32}
theorem fM_49 : fM M g P T 12 (49, 0) = P := by
  unfold fM
  rw [sG_r _ _ (by decide), mC_ne (by decide), mC_at]
theorem fM_48 : fM M g P T 12 (48, 0) = T := by
  unfold fM
  rw [sG_r _ _ (by decide), mC_at]
theorem fM_r {r : Nat} (h : r ≠ 48 ∧ r ≠ 49 ∧ r ≠ 61 ∧ r ≠ 62 ∧ r ≠ 64) : fM M g P T 12 (r, 0) = M 12 (r, 0) := by
  unfold fM
  rw [sG_r _ _ h.2.2, mC_ne (fun z => h.1 (Prod.mk.inj z).1), mC_ne (fun z => h.2.1 (Prod.mk.inj z).1)]
theorem fM_k {k : Nat} (h : k ≠ 12) (h3 : k ≠ 13) : fM M g P T k = M k := by
  unfold fM
  rw [sG_k _ _ h h3, mC_k h, mC_k h]
theorem fM_p49 {c : Nat → Int32} : mC (fM M g P T) (49, 0) c = fM M g c T := by
  unfold fM
  rw [mC_sG2 (by decide), mC_comm (show ((48, 0) : jA) ≠ (49, 0) by decide), mC_mC]
theorem fM_p48 {c : Nat → Int32} : mC (fM M g P T) (48, 0) c = fM M g P c := by
  unfold fM
  rw [mC_sG2 (by decide), mC_mC]
theorem fM_self : fM M (gG M) (M 12 (49, 0)) (M 12 (48, 0)) = M := by
  unfold fM
  rw [mC_self, mC_self, sG_self]
theorem fM_back : fM M g (M 12 (49, 0)) (M 12 (48, 0)) = sG M g := by
  unfold fM
  rw [mC_self, mC_self]
theorem fM_sG {g' : jH} : sG (fM M g P T) g' = fM M g' P T := by
  unfold fM
  rw [sG_sG]
theorem fp_class {q N : Nat} (hq : q < 7) (f : Nat) {m : Nat} (hm : (M 8 (0, 0) 2) = jn m) (h6 : m ≤ 6) : fpBest M f (jn q) N = fpH (gH M 1) (M 12 (31, 0)) (M 12 (32, 0)) m f q N := by
  unfold fpBest fpH
  have a1 := jfor_two (R := fun k (o : Int32 × jH) (o' : Int32) => o.1 = o' ∧ ((k = 0 ∧ o.2 = gH M 1) ∨ ∃ x, o.2 = nset (gH M 1) f (upd (gH M 1 f) q x))) (f := fpStep M f (jn q)) (f' := fun k o => if sgAgree (M 12 (31, 0)) (M 12 (32, 0)) (jn q) (nUnfold (nset (gH M 1) f (upd (gH M 1 f) q (jn k))) 0 1 q) m 0 = true then o ||| 1 <<< (jn k &&& 31) else o) N 0 (0, gH M 1) 0 (fun j o o' h1 h2 z => by
    obtain ⟨z1, z2⟩ := z
    have e : nset o.2 f (rs 7 (o.2 f) (jn q) (jn j)) = nset (gH M 1) f (upd (gH M 1 f) q (jn j)) := by
      rw [rs_in (by omega) hq]
      rcases z2 with ⟨_, z2⟩ | ⟨x, z2⟩
      · rw [z2]
      · rw [z2, nset_at, upd_upd, nset_nset]
    unfold fpStep
    rw [e, rg_in (by omega) hq]
    refine ⟨?_, Or.inr ⟨jn j, rfl⟩⟩
    show (if sgOk M (jn q) _ then o.1 ||| _ else o.1) = _
    unfold sgOk
    rw [hm, jn_clamp (by omega), z1]) ⟨rfl, Or.inl ⟨rfl, rfl⟩⟩
  exact a1.1
theorem sgAgree_E {c1 c2 c1' c2' : Nat → Int32} {x y : Int32} {m : Nat} (hm : m ≤ 6) (e : ∀ j, j < m → c1 j = c1' j ∧ c2 j = c2' j) : ∀ (g k : Nat), k + g = m → sgAgree c1 c2 x y g k = sgAgree c1' c2' x y g k
  | 0, _, _ => rfl
  | g + 1, k, hk => by
    rw [sgAgree, sgAgree, rg_in (by omega) (by omega), rg_in (by omega) (by omega), rg_in (by omega) (by omega), rg_in (by omega) (by omega), (e k (by omega)).1, (e k (by omega)).2, sgAgree_E hm e g (k + 1) (by omega)]
theorem fpH_E {c1 c2 c1' c2' : Nat → Int32} {m f q N : Nat} (hm : m ≤ 6) (e : ∀ j, j < m → c1 j = c1' j ∧ c2 j = c2' j) : fpH h c1 c2 m f q N = fpH h c1' c2' m f q N := by
  unfold fpH
  congr 1
  funext k o
  rw [sgAgree_E hm e m 0 (by omega)]
theorem hOk_set7 {c : Nat → Int32} (w : hOk K a b l h) (hc : cBd b 0 30 c) : hOk K a b l (nset h 7 c) := by
  refine ⟨w.1, ?_, ?_, ?_, ?_, ?_⟩
  · rw [nset_ne (by decide)]; exact w.2.1
  · rw [nset_ne (by decide)]; exact w.2.2.1
  · rw [nset_ne (by decide)]; exact w.2.2.2.1
  · rw [nset_ne (by decide), nset_ne (by decide), nset_ne (by decide), nset_ne (by decide)]; exact w.2.2.2.2.1
  · rw [nset_ne (by decide), nset_ne (by decide), nset_at, nset_ne (by decide)]
    exact ⟨w.2.2.2.2.2.1, w.2.2.2.2.2.2.1, hc, w.2.2.2.2.2.2.2.2⟩
theorem hOk_set6 {c : Nat → Int32} (w : hOk K a b l h) (hc : cBd b 0 3 c) : hOk K a b l (nset h 6 c) := by
  refine ⟨w.1, ?_, ?_, ?_, ?_, ?_⟩
  · rw [nset_ne (by decide)]; exact w.2.1
  · rw [nset_ne (by decide)]; exact w.2.2.1
  · rw [nset_ne (by decide)]; exact w.2.2.2.1
  · rw [nset_ne (by decide), nset_ne (by decide), nset_ne (by decide), nset_ne (by decide)]; exact w.2.2.2.2.1
  · rw [nset_ne (by decide), nset_at, nset_ne (by decide), nset_ne (by decide)]
    exact ⟨w.2.2.2.2.2.1, hc, w.2.2.2.2.2.2.2.1, w.2.2.2.2.2.2.2.2⟩
theorem cBd_upd {m lo hi k q : Nat} {c : Nat → Int32} (hc : cBd m lo hi c) (h1 : lo ≤ k) (h2 : k ≤ hi) : cBd m lo hi (upd c q (jn k)) := by
  intro i hi
  unfold upd
  by_cases e : i = q
  · rw [if_pos e]; exact ⟨k, h1, h2, rfl⟩
  · rw [if_neg e]; exact hc i hi

theorem rO_fM0 (w : rO K a b l 55 M h) (hP : P = M 12 (49, 0)) (hT : T = M 12 (48, 0)) {q k : Nat} (hq : q < b) (hk : k ≤ 30) : rO K a b l 55 (fM M g (upd P q (jn k)) (upd T q (T q))) (nset h 7 (upd (h 7) q (jn k))) := by
  have w1 := w.1.1
  refine ⟨hOk_set7 w.1 (cBd_upd w.1.2.2.2.2.2.2.2.1 (by omega) hk), ⟨⟨?_, ?_⟩, fun s hs => ⟨?_, ?_, ?_⟩, fun s hs => ⟨?_, ?_⟩⟩, ?_, Or.inl rfl⟩
  · rw [fM_r (by decide)]; exact w.2.1.1.1
  · rw [fM_r (by decide)]; exact w.2.1.1.2
  · rw [fM_r (by decide), nset_ne (by decide)]; exact (w.2.1.2.1 s hs).1
  · rw [fM_r (by decide), nset_ne (by decide)]; exact (w.2.1.2.1 s hs).2.1
  · rw [fM_r (by decide), nset_ne (by decide)]; exact (w.2.1.2.1 s hs).2.2
  · rw [fM_48, nset_ne (by decide), upd_self, hT]; exact (w.2.1.2.2 s hs).1
  · rw [fM_49, nset_at, hP]; exact upd_c (w.2.1.2.2 s hs).2
  · rw [fM_r (by decide)]
    exact rD_E w.2.2.1 (fun i _ => by rw [nset_ne (by decide)]) (fun s _ _ => by rw [nset_ne (by decide)]) (fun s _ => by rw [nset_ne (by decide), nset_ne (by decide), nset_ne (by decide)]; exact ⟨rfl, rfl, rfl⟩) (fun s _ => by rw [nset_ne (by decide)])
theorem m188_loop0 (w : rO K a b l 55 M h) (hK : K ≤ 1000000) (hy : M 11 (0, 0) 25 = 0) (hP : P = M 12 (49, 0)) (hT : T = M 12 (48, 0)) {q m : Nat} (hq : q < b) (hm : M 11 (0, 0) 29 = jn m) (h6 : m ≤ 6) : ∀ (i k : Nat) (o : Int32) (g : jH) (pv tv : Int32), k + i = 31 → ∃ g' pv' tv' a6', ∀ (v : Option jV) (σ' : jS), jE (d + 20) 188 40 [some (.inr (.inr (some (11, (0, 0))))), some (.inl (jn q)), some (.inl 0), some (.inl (P q)), some (.inl (T q)), some (.inl o), some (.inl (jn k))] [] (n, ([], fM M g (upd P q pv) (upd T q tv))) v σ' ↔ jE (d + 20) 188 115 [some (.inr (.inr (some (11, (0, 0))))), some (.inl (jn q)), some (.inl 0), some (.inl (P q)), some (.inl (T q)), some (.inl (jfor (fun k o => if sgAgree (M 12 (67, 0)) (M 12 (68, 0)) (jn q) (nUnfold (nset h 7 (upd (h 7) q (jn k))) 0 1 q) m 0 = true then o ||| 1 <<< (jn k &&& 31) else o) i k o)), a6'] [] (n, ([], fM M g' (upd P q pv') (upd T q tv'))) v σ' := by
  have w1 := w.1.1
  intro i
  induction i with
  | zero =>
    intro k o g pv tv hk
    refine ⟨g, pv, tv, some (.inl (jn k)), fun v σ' => ?_⟩
    simp only [s188_40, s188_42, s188_43, s188_46, s188_48, s188_52, not_true_eq_false, if_false]
    rw [if_pos (show (30 : Int32) < jn k from (jn_lt (k := 30) (by omega) (by omega)).mpr (by omega))]
    rfl
  | succ i ih =>
    intro k o g pv tv hk
    have wk := rO_fM0 (g := g) w hP hT hq (show k ≤ 30 by omega)
    have r := fun (v : Option jV) (σ' : jS) => r187 (d := d + 15) (n := n) (v := v) (σ' := σ') wk hK (by rw [fM_k (by decide) (by decide)]; exact hy) hq (by rw [fM_k (by decide) (by decide)]; exact hm) h6
    simp only [fM_r (show (67 : Nat) ≠ 48 ∧ (67 : Nat) ≠ 49 ∧ (67 : Nat) ≠ 61 ∧ (67 : Nat) ≠ 62 ∧ (67 : Nat) ≠ 64 by decide), fM_r (show (68 : Nat) ≠ 48 ∧ (68 : Nat) ≠ 49 ∧ (68 : Nat) ≠ 61 ∧ (68 : Nat) ≠ 62 ∧ (68 : Nat) ≠ 64 by decide), fM_sG] at r
    obtain ⟨g', pv', tv', a6', e⟩ := ih (k + 1) (if sgAgree (M 12 (67, 0)) (M 12 (68, 0)) (jn q) (nUnfold (nset h 7 (upd (h 7) q (jn k))) 0 1 q) m 0 = true then o ||| 1 <<< (jn k &&& 31) else o) (mGo (nset h 7 (upd (h 7) q (jn k))) b l 0) (jn k) (T q) (by omega)
    refine ⟨g', pv', tv', a6', fun v σ' => ?_⟩
    rw [jfor]
    have one : jE (d + 20) 188 40 [some (.inr (.inr (some (11, (0, 0))))), some (.inl (jn q)), some (.inl 0), some (.inl (P q)), some (.inl (T q)), some (.inl o), some (.inl (jn k))] [] (n, ([], fM M g (upd P q pv) (upd T q tv))) v σ' ↔ jE (d + 20) 188 112 [some (.inr (.inr (some (11, (0, 0))))), some (.inl (jn q)), some (.inl 0), some (.inl (P q)), some (.inl (T q)), some (.inl (if sgAgree (M 12 (67, 0)) (M 12 (68, 0)) (jn q) (nUnfold (nset h 7 (upd (h 7) q (jn k))) 0 1 q) m 0 = true then o ||| 1 <<< (jn k &&& 31) else o)), some (.inl (jn k + 1))] [] (n, ([], fM M (mGo (nset h 7 (upd (h 7) q (jn k))) b l 0) (upd P q (jn k)) (upd T q (T q)))) v σ' := by
      simp (disch := omega) only [s188_40, s188_42, s188_43, s188_46, s188_48, s188_52, s188_55, s188_56, s188_59, s188_60, s188_61, s188_64, s188_66, s188_70, s188_71, s188_72, s188_75, s188_76, s188_77, s188_80, s188_82, s188_87, s188_88, s188_90, s188_91, s188_92, s188_95, s188_98, s188_99, s188_101, s188_102, s188_105, s188_106, s188_107, s188_109, jm_48, jm_49, jiz, jcl, mC_up, fM_49, fM_48, fM_p49, fM_p48, upd_upd, r, jcall_eq, Option.toList_some, Option.toList_none, List.cons_append, List.nil_append, jb_0, jifN, not_true_eq_false, if_false]
      rw [if_neg (show ¬ (30 : Int32) < jn k from fun z => absurd ((jn_lt (k := 30) (by omega) (by omega)).mp z) (by omega))]
      by_cases c : sgAgree (M 12 (67, 0)) (M 12 (68, 0)) (jn q) (nUnfold (nset h 7 (upd (h 7) q (jn k))) 0 1 q) m 0 = true
      · rw [if_pos c, if_pos c]
      · rw [if_neg c, if_neg c, Int32.or_zero]
    rw [one, s188_112, jn_1]
    exact e v σ'

theorem rO_fM1 (w : rO K a b l 55 M h) (hP : P = M 12 (49, 0)) (hT : T = M 12 (48, 0)) {q k : Nat} (hq : q < b) (hk : k ≤ 3) : rO K a b l 55 (fM M g (upd P q (P q)) (upd T q (jn k))) (nset h 6 (upd (h 6) q (jn k))) := by
  have w1 := w.1.1
  refine ⟨hOk_set6 w.1 (cBd_upd w.1.2.2.2.2.2.2.1 (by omega) hk), ⟨⟨?_, ?_⟩, fun s hs => ⟨?_, ?_, ?_⟩, fun s hs => ⟨?_, ?_⟩⟩, ?_, Or.inl rfl⟩
  · rw [fM_r (by decide)]; exact w.2.1.1.1
  · rw [fM_r (by decide)]; exact w.2.1.1.2
  · rw [fM_r (by decide), nset_ne (by decide)]; exact (w.2.1.2.1 s hs).1
  · rw [fM_r (by decide), nset_ne (by decide)]; exact (w.2.1.2.1 s hs).2.1
  · rw [fM_r (by decide), nset_ne (by decide)]; exact (w.2.1.2.1 s hs).2.2
  · rw [fM_48, nset_at, hT]; exact upd_c (w.2.1.2.2 s hs).1
  · rw [fM_49, nset_ne (by decide), upd_self, hP]; exact (w.2.1.2.2 s hs).2
  · rw [fM_r (by decide)]
    exact rD_E w.2.2.1 (fun i _ => by rw [nset_ne (by decide)]) (fun s _ _ => by rw [nset_ne (by decide)]) (fun s _ => by rw [nset_ne (by decide), nset_ne (by decide), nset_ne (by decide)]; exact ⟨rfl, rfl, rfl⟩) (fun s _ => by rw [nset_ne (by decide)])
theorem m188_loop1 (w : rO K a b l 55 M h) (hK : K ≤ 1000000) (hy : M 11 (0, 0) 25 = 0) (hP : P = M 12 (49, 0)) (hT : T = M 12 (48, 0)) {q m : Nat} (hq : q < b) (hm : M 11 (0, 0) 29 = jn m) (h6 : m ≤ 6) : ∀ (i k : Nat) (o : Int32) (g : jH) (pv tv : Int32), k + i = 4 → ∃ g' pv' tv' a6', ∀ (v : Option jV) (σ' : jS), jE (d + 20) 188 40 [some (.inr (.inr (some (11, (0, 0))))), some (.inl (jn q)), some (.inl 1), some (.inl (P q)), some (.inl (T q)), some (.inl o), some (.inl (jn k))] [] (n, ([], fM M g (upd P q pv) (upd T q tv))) v σ' ↔ jE (d + 20) 188 115 [some (.inr (.inr (some (11, (0, 0))))), some (.inl (jn q)), some (.inl 1), some (.inl (P q)), some (.inl (T q)), some (.inl (jfor (fun k o => if sgAgree (M 12 (67, 0)) (M 12 (68, 0)) (jn q) (nUnfold (nset h 6 (upd (h 6) q (jn k))) 0 1 q) m 0 = true then o ||| 1 <<< (jn k &&& 31) else o) i k o)), a6'] [] (n, ([], fM M g' (upd P q pv') (upd T q tv'))) v σ' := by
  have w1 := w.1.1
  intro i
  induction i with
  | zero =>
    intro k o g pv tv hk
    refine ⟨g, pv, tv, some (.inl (jn k)), fun v σ' => ?_⟩
    simp only [s188_40, s188_42, s188_43, s188_51, s188_52, not_true_eq_false, show ¬ (1 : Int32) = 0 by decide, not_false_eq_true, if_true]
    rw [if_pos (show (3 : Int32) < jn k from (jn_lt (k := 3) (by omega) (by omega)).mpr (by omega))]
    rfl
  | succ i ih =>
    intro k o g pv tv hk
    have wk := rO_fM1 (g := g) w hP hT hq (show k ≤ 3 by omega)
    have r := fun (v : Option jV) (σ' : jS) => r187 (d := d + 15) (n := n) (v := v) (σ' := σ') wk hK (by rw [fM_k (by decide) (by decide)]; exact hy) hq (by rw [fM_k (by decide) (by decide)]; exact hm) h6
    simp only [fM_r (show (67 : Nat) ≠ 48 ∧ (67 : Nat) ≠ 49 ∧ (67 : Nat) ≠ 61 ∧ (67 : Nat) ≠ 62 ∧ (67 : Nat) ≠ 64 by decide), fM_r (show (68 : Nat) ≠ 48 ∧ (68 : Nat) ≠ 49 ∧ (68 : Nat) ≠ 61 ∧ (68 : Nat) ≠ 62 ∧ (68 : Nat) ≠ 64 by decide), fM_sG] at r
    obtain ⟨g', pv', tv', a6', e⟩ := ih (k + 1) (if sgAgree (M 12 (67, 0)) (M 12 (68, 0)) (jn q) (nUnfold (nset h 6 (upd (h 6) q (jn k))) 0 1 q) m 0 = true then o ||| 1 <<< (jn k &&& 31) else o) (mGo (nset h 6 (upd (h 6) q (jn k))) b l 0) (P q) (jn k) (by omega)
    refine ⟨g', pv', tv', a6', fun v σ' => ?_⟩
    rw [jfor]
    have one : jE (d + 20) 188 40 [some (.inr (.inr (some (11, (0, 0))))), some (.inl (jn q)), some (.inl 1), some (.inl (P q)), some (.inl (T q)), some (.inl o), some (.inl (jn k))] [] (n, ([], fM M g (upd P q pv) (upd T q tv))) v σ' ↔ jE (d + 20) 188 112 [some (.inr (.inr (some (11, (0, 0))))), some (.inl (jn q)), some (.inl 1), some (.inl (P q)), some (.inl (T q)), some (.inl (if sgAgree (M 12 (67, 0)) (M 12 (68, 0)) (jn q) (nUnfold (nset h 6 (upd (h 6) q (jn k))) 0 1 q) m 0 = true then o ||| 1 <<< (jn k &&& 31) else o)), some (.inl (jn k + 1))] [] (n, ([], fM M (mGo (nset h 6 (upd (h 6) q (jn k))) b l 0) (upd P q (P q)) (upd T q (jn k)))) v σ' := by
      simp (disch := omega) only [s188_40, s188_42, s188_43, s188_51, s188_52, s188_55, s188_56, s188_59, s188_60, s188_61, s188_69, s188_70, s188_71, s188_72, s188_75, s188_76, s188_77, s188_85, s188_87, s188_88, s188_90, s188_91, s188_92, s188_95, s188_98, s188_99, s188_101, s188_102, s188_105, s188_106, s188_107, s188_109, jm_48, jm_49, jiz, jcl, mC_up, fM_49, fM_48, fM_p49, fM_p48, upd_upd, r, jcall_eq, Option.toList_some, Option.toList_none, List.cons_append, List.nil_append, jb_0, jifN, not_true_eq_false, show ¬ (1 : Int32) = 0 by decide, not_false_eq_true, if_true, if_false]
      rw [if_neg (show ¬ (3 : Int32) < jn k from fun z => absurd ((jn_lt (k := 3) (by omega) (by omega)).mp z) (by omega))]
      by_cases c : sgAgree (M 12 (67, 0)) (M 12 (68, 0)) (jn q) (nUnfold (nset h 6 (upd (h 6) q (jn k))) 0 1 q) m 0 = true
      · rw [if_pos c, if_pos c]
      · rw [if_neg c, if_neg c, Int32.or_zero]
    rw [one, s188_112, jn_1]
    exact e v σ'
/-- fits -/
def lwFitsH (h : jH) (c1 c2 : Nat → Int32) (m : Nat) (x y : Int32) : Int32 := if (0 ≤ x ∧ x ≤ h 10 11 - 1) ∧ (0 ≤ y ∧ y ≤ 1) then (if y = 0 then fpH h c1 c2 m 7 x.toNatClampNeg 31 else fpH h c1 c2 m 6 x.toNatClampNeg 4) else -1
theorem m188 (w : rO K a b l 55 M h) (hK : K ≤ 1000000) (hy : M 11 (0, 0) 25 = 0) {m : Nat} (hm : M 11 (0, 0) 29 = jn m) (h6 : m ≤ 6) : ∃ M2, iEq M M2 ∧ jE (d + 20) 188 0 (lm [.inl x, .inl y] ++ [none, none, none, none]) [] (n, ([], M)) (some (.inl (lwFitsH h (M 12 (67, 0)) (M 12 (68, 0)) m x y))) (n, ([], M2)) := by
  have w1 := w.1.1
  unfold lwFitsH
  by_cases h1 : 0 ≤ x ∧ x ≤ h 10 11 - 1
  · by_cases h2 : 0 ≤ y ∧ y ≤ 1
    · rw [if_pos ⟨h1, h2⟩]
      obtain ⟨q, hq, rfl⟩ := (lw_seat w.1).mp h1
      rw [jn_clamp (by omega)]
      have y01 : y = 0 ∨ y = 1 := by
        have e0 := jx_of h2.1
        have e1 := jx_le h2.1 (k := 1) (by omega) h2.2
        rcases (show y.toNatClampNeg = 0 ∨ y.toNatClampNeg = 1 by omega) with q | q
        · left; rw [← e0, q]; rfl
        · right; rw [← e0, q]; rfl
      rcases y01 with rfl | rfl
      · obtain ⟨g', pv', tv', a6', e⟩ := m188_loop0 (d := d) (n := n) w hK hy rfl rfl hq hm h6 31 0 0 (gG M) (M 12 (49, 0) q) (M 12 (48, 0) q) (by omega)
        rw [upd_self, upd_self, fM_self] at e
        refine ⟨sG M g', iEq_sG, jE_of (fun v σ' => ?_)⟩
        rw [if_pos rfl]
        simp (disch := omega) only [lm, List.map_cons, List.map_nil, s188_0, s188_1, s188_2, s188_5, s188_8, s188_9, s188_10, s188_11, s188_14, s188_19, s188_20, s188_23, s188_24, s188_25, s188_26, s188_27, s188_30, s188_31, s188_32, s188_34, s188_35, s188_37, s188_38, r144 w.2.1 w.1.2.1.2.1, r123, jcall_eq, Option.toList_some, Option.toList_none, List.cons_append, List.nil_append, jb_0, Classical.not_not, jifN, if_pos h1, if_pos h2, jm_48, jm_49, jiz, jcl]
        refine (e v σ').trans ?_
        simp (disch := omega) only [s188_115, s188_116, s188_119, s188_120, s188_121, s188_122, s188_123, s188_126, s188_127, s188_129, s188_130, s188_132, jm_48, jm_49, jiz, jcl, mC_up, fM_49, fM_48, fM_p49, fM_p48, upd_upd, upd_self, fM_back]
        rfl
      · obtain ⟨g', pv', tv', a6', e⟩ := m188_loop1 (d := d) (n := n) w hK hy rfl rfl hq hm h6 4 0 0 (gG M) (M 12 (49, 0) q) (M 12 (48, 0) q) (by omega)
        rw [upd_self, upd_self, fM_self] at e
        refine ⟨sG M g', iEq_sG, jE_of (fun v σ' => ?_)⟩
        rw [if_neg (by decide)]
        simp (disch := omega) only [lm, List.map_cons, List.map_nil, s188_0, s188_1, s188_2, s188_5, s188_8, s188_9, s188_10, s188_11, s188_14, s188_19, s188_20, s188_23, s188_24, s188_25, s188_26, s188_27, s188_30, s188_31, s188_32, s188_34, s188_35, s188_37, s188_38, r144 w.2.1 w.1.2.1.2.1, r123, jcall_eq, Option.toList_some, Option.toList_none, List.cons_append, List.nil_append, jb_0, Classical.not_not, jifN, if_pos h1, if_pos h2, jm_48, jm_49, jiz, jcl]
        refine (e v σ').trans ?_
        simp (disch := omega) only [s188_115, s188_116, s188_119, s188_120, s188_121, s188_122, s188_123, s188_126, s188_127, s188_129, s188_130, s188_132, jm_48, jm_49, jiz, jcl, mC_up, fM_49, fM_48, fM_p49, fM_p48, upd_upd, upd_self, fM_back]
        rfl
    · refine ⟨M, iEq_rfl M, jE_of (fun v σ' => ?_)⟩
      rw [if_neg (fun z => h2 z.2)]
      simp only [lm, List.map_cons, List.map_nil, s188_0, s188_1, s188_2, s188_5, s188_8, s188_9, s188_10, s188_11, s188_14, s188_17, s188_18, r144 w.2.1 w.1.2.1.2.1, r123, jcall_eq, Option.toList_some, Option.toList_none, List.cons_append, List.nil_append, jb_0, Classical.not_not, jifN, if_pos h1, if_neg h2]
  · refine ⟨M, iEq_rfl M, jE_of (fun v σ' => ?_)⟩
    rw [if_neg (fun z => h1 z.1)]
    simp only [lm, List.map_cons, List.map_nil, s188_0, s188_1, s188_2, s188_5, s188_17, s188_18, r144 w.2.1 w.1.2.1.2.1, jcall_eq, Option.toList_some, Option.toList_none, List.cons_append, List.nil_append, jb_0, Classical.not_not, jifN, if_neg h1]
end JRF1
