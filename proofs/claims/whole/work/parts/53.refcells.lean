/-! the reference: what it does to a house's cells -/
section JRC
variable {d n K a b l f : Nat} {v : Option jV} {σ' : jS} {M : jM} {x y z : Int32} {h g : jH} {c : Nat → Int32}
theorem rD_E {h' : jH} (w : rD a b l c h) (e4 : ∀ i, i < l → h' 4 i = h 4 i) (e10 : ∀ s, 12 ≤ s → s < 16 → h' 10 s = h 10 s) (eb : ∀ s, s < b → h' 5 s = h 5 s ∧ h' 9 s = h 9 s ∧ h' 8 s = h 8 s) (ea : ∀ s, s < a → h' 3 s = h 3 s) : rD a b l c h' := by
  refine ⟨fun i hi => by rw [e4 i hi]; exact w.1 i hi, ?_, fun s hs => ?_, fun s hs => by rw [ea s hs]; exact w.2.2.2 s hs⟩
  · rw [e10 12 (by omega) (by omega), e10 13 (by omega) (by omega), e10 14 (by omega) (by omega), e10 15 (by omega) (by omega)]
    exact w.2.1
  · rw [(eb s hs).1, (eb s hs).2.1, (eb s hs).2.2]
    exact w.2.2.1 s hs
theorem rD_hEq {h' : jH} (hl : l ≤ 7) (ha : a ≤ 7) (hb : b ≤ 7) (e : hEq h' h) (w : rD a b l c h) : rD a b l c h' :=
  rD_E w (fun i hi => e.1 4 (by decide) i (by omega)) (fun s h1 h2 => e.2 s (by omega) h2) (fun s hs => ⟨e.1 5 (by decide) s (by omega), e.1 9 (by decide) s (by omega), e.1 8 (by decide) s (by omega)⟩) (fun s hs => e.1 3 (by decide) s (by omega))
theorem rS_E {h' : jH} (w : rS a b M h) (ea : ∀ s, s < a → h' 0 s = h 0 s ∧ h' 1 s = h 1 s ∧ h' 2 s = h 2 s) (eb : ∀ s, s < b → h' 6 s = h 6 s ∧ h' 7 s = h 7 s) : rS a b M h' := by
  refine ⟨w.1, fun s hs => ?_, fun s hs => ?_⟩
  · rw [(ea s hs).1, (ea s hs).2.1, (ea s hs).2.2]; exact w.2.1 s hs
  · rw [(eb s hs).1, (eb s hs).2]; exact w.2.2 s hs
theorem rS_hEq {h' : jH} (ha : a ≤ 7) (hb : b ≤ 7) (e : hEq h' h) (w : rS a b M h) : rS a b M h' :=
  rS_E w (fun s hs => ⟨e.1 0 (by decide) s (by omega), e.1 1 (by decide) s (by omega), e.1 2 (by decide) s (by omega)⟩) (fun s hs => ⟨e.1 6 (by decide) s (by omega), e.1 7 (by decide) s (by omega)⟩)
theorem rS_rows {h' : jH} (w : rS a b M h) (e0 : h' 0 = h 0) (e1 : h' 1 = h 1) (e2 : h' 2 = h 2) (e6 : h' 6 = h 6) (e7 : h' 7 = h 7) : rS a b M h' :=
  rS_E w (fun s _ => by rw [e0, e1, e2]; exact ⟨rfl, rfl, rfl⟩) (fun s _ => by rw [e6, e7]; exact ⟨rfl, rfl⟩)
theorem rS_mC {c : Nat → Int32} (hf : f = 55 ∨ f = 60) (w : rS a b M h) : rS a b (mC M (f, 0) c) h := by
  unfold rS
  rw [mC_ne (fun z => by have := (Prod.mk.inj z).1; omega), mC_ne (fun z => by have := (Prod.mk.inj z).1; omega), mC_ne (fun z => by have := (Prod.mk.inj z).1; omega), mC_ne (fun z => by have := (Prod.mk.inj z).1; omega), mC_ne (fun z => by have := (Prod.mk.inj z).1; omega), mC_ne (fun z => by have := (Prod.mk.inj z).1; omega), mC_ne (fun z => by have := (Prod.mk.inj z).1; omega)]
  exact w
theorem rO_mC (hf : f = 55 ∨ f = 60) (w : hOk K a b l h) (s : rS a b M h) (r : rD a b l c h) : rO K a b l f (mC M (f, 0) c) h := ⟨w, rS_mC hf s, by rw [mC_at]; exact r, hf⟩
/-- one cell -/
theorem rD_sc {s : Nat} (hl : l ≤ 7) (w : rD a b l c h) (hs : 13 ≤ s) (hs2 : s < 16) : rD a b l (upd c (s - 5) x) (hSc h s x) := by
  have e : ∀ f, f ≠ 10 → hSc h s x f = h f := fun f hf => hSc_f hf
  have e2 : ∀ t, hSc h s x 10 t = if t = s then x else h 10 t := fun t => by
    by_cases et : t = s
    · rw [if_pos et, et, hSc_10]
    · rw [if_neg et, hSc_10' et]
  refine ⟨fun i hi => ?_, ⟨?_, ?_, ?_, ?_⟩, fun t ht => ?_, fun t ht => ?_⟩
  · rw [e 4 (by decide)]; unfold upd; rw [if_neg (by omega)]; exact w.1 i hi
  · rw [e2]; unfold upd; rw [if_neg (by omega), if_neg (by omega)]; exact w.2.1.1
  · rw [e2]; unfold upd
    by_cases et : 13 = s
    · rw [if_pos (by omega), if_pos et]
    · rw [if_neg (by omega), if_neg et]; exact w.2.1.2.1
  · rw [e2]; unfold upd
    by_cases et : 14 = s
    · rw [if_pos (by omega), if_pos et]
    · rw [if_neg (by omega), if_neg et]; exact w.2.1.2.2.1
  · rw [e2]; unfold upd
    by_cases et : 15 = s
    · rw [if_pos (by omega), if_pos et]
    · rw [if_neg (by omega), if_neg et]; exact w.2.1.2.2.2
  · rw [e 5 (by decide), e 9 (by decide), e 8 (by decide)]; unfold upd
    rw [if_neg (by omega), if_neg (by omega), if_neg (by omega)]; exact w.2.2.1 t ht
  · rw [e 3 (by decide)]; unfold upd; rw [if_neg (by omega)]; exact w.2.2.2 t ht
theorem rD_row {r o k : Nat} (hb : b ≤ 7) (hl : l ≤ 7) (w : rD a b l c h) (hr : (r = 5 ∧ o = 11) ∨ (r = 9 ∧ o = 18) ∨ (r = 8 ∧ o = 25)) (hk : k < b) : rD a b l (upd c (o + k) x) (nset h r (upd (h r) k x)) := by
  have e : ∀ f t, nset h r (upd (h r) k x) f t = if f = r ∧ t = k then x else h f t := fun f t => by
    unfold nset upd
    by_cases e1 : f = r
    · rw [if_pos e1, e1]
      by_cases e2 : t = k
      · rw [if_pos e2, if_pos ⟨rfl, e2⟩]
      · rw [if_neg e2, if_neg (fun z => e2 z.2)]
    · rw [if_neg e1, if_neg (fun z => e1 z.1)]
  have u : ∀ t, upd c (o + k) x t = if t = o + k then x else c t := fun t => rfl
  refine ⟨fun i hi => ?_, ⟨?_, ?_, ?_, ?_⟩, fun t ht => ⟨?_, ?_, ?_⟩, fun t ht => ?_⟩
  · rw [e, u, if_neg (by omega), if_neg (by omega)]; exact w.1 i hi
  · rw [e, u, if_neg (by omega), if_neg (by omega)]; exact w.2.1.1
  · rw [e, u, if_neg (by omega), if_neg (by omega)]; exact w.2.1.2.1
  · rw [e, u, if_neg (by omega), if_neg (by omega)]; exact w.2.1.2.2.1
  · rw [e, u, if_neg (by omega), if_neg (by omega)]; exact w.2.1.2.2.2
  · rw [e, u]
    by_cases et : 5 = r ∧ t = k
    · rw [if_pos (by omega), if_pos et]
    · rw [if_neg (by omega), if_neg et]; exact (w.2.2.1 t ht).1
  · rw [e, u]
    by_cases et : 9 = r ∧ t = k
    · rw [if_pos (by omega), if_pos et]
    · rw [if_neg (by omega), if_neg et]; exact (w.2.2.1 t ht).2.1
  · rw [e, u]
    by_cases et : 8 = r ∧ t = k
    · rw [if_pos (by omega), if_pos et]
    · rw [if_neg (by omega), if_neg et]; exact (w.2.2.1 t ht).2.2
  · rw [e, u, if_neg (by omega), if_neg (by omega)]; exact w.2.2.2 t ht
theorem rD_3 {k : Nat} (hb : b ≤ 7) (hl : l ≤ 7) (w : rD a b l c h) (hk : k < a) : rD a b l (upd c (32 + k) x) (nset h 3 (upd (h 3) k x)) := by
  have u : ∀ t, upd c (32 + k) x t = if t = 32 + k then x else c t := fun t => rfl
  refine ⟨fun i hi => ?_, ⟨?_, ?_, ?_, ?_⟩, fun t ht => ⟨?_, ?_, ?_⟩, fun t ht => ?_⟩
  · rw [u, if_neg (by omega), nset_ne (by decide)]; exact w.1 i hi
  · rw [u, if_neg (by omega), nset_ne (by decide)]; exact w.2.1.1
  · rw [u, if_neg (by omega), nset_ne (by decide)]; exact w.2.1.2.1
  · rw [u, if_neg (by omega), nset_ne (by decide)]; exact w.2.1.2.2.1
  · rw [u, if_neg (by omega), nset_ne (by decide)]; exact w.2.1.2.2.2
  · rw [u, if_neg (by omega), nset_ne (by decide)]; exact (w.2.2.1 t ht).1
  · rw [u, if_neg (by omega), nset_ne (by decide)]; exact (w.2.2.1 t ht).2.1
  · rw [u, if_neg (by omega), nset_ne (by decide)]; exact (w.2.2.1 t ht).2.2
  · rw [u, nset_at]
    unfold upd
    by_cases et : t = k
    · rw [if_pos (by omega), if_pos et]
    · rw [if_neg (by omega), if_neg et]; exact w.2.2.2 t ht
/-- take -/
theorem r142_loop {c0 : Nat → Int32} : ∀ (g k : Nat) (c : Nat → Int32), k + g = 39 → (∀ j, c j = if j < k then M 12 (55, 0) j else c0 j) → (jE d 142 2 [some (.inr (.inr (some (11, (0, 0))))), some (.inl (jn k))] [] (n, ([], mC M (60, 0) c)) v σ' ↔ v = none ∧ σ' = (n, ([], mC M (60, 0) (fun j => if j < 39 then M 12 (55, 0) j else c0 j)))) := by
  intro g
  induction g with
  | zero =>
    intro k c hk hc
    rw [s142_2, s142_3, s142_5, if_pos (show (39 : Int32) ≤ jn k from (jn_le (k := 39) (by omega) (by omega)).mpr (by omega)), s142_26]
    rw [show c = fun j => if j < 39 then M 12 (55, 0) j else c0 j from funext fun j => by rw [hc, show k = 39 by omega]]
  | succ g ih =>
    intro k c hk hc
    rw [s142_2, s142_3, s142_5, if_neg (show ¬ (39 : Int32) ≤ jn k from fun z => absurd ((jn_le (k := 39) (by omega) (by omega)).mp z) (by omega))]
    simp (disch := omega) only [s142_8, s142_9, s142_12, s142_13, s142_14, s142_17, s142_18, s142_19, s142_20, jm_55, jm_60, jiz, jcl, mC_ne (show ((55, 0) : jA) ≠ (60, 0) by decide), mC_up, mC_at, mC_mC]
    rw [s142_23, jn_1]
    refine ih (k + 1) _ (by omega) (fun j => ?_)
    unfold upd
    by_cases e : j = k
    · rw [if_pos e, if_pos (by omega), e]
    · rw [if_neg e, hc]
      by_cases e2 : j < k
      · rw [if_pos e2, if_pos (by omega)]
      · rw [if_neg e2, if_neg (by omega)]
theorem r142 : jE d 142 0 [some (.inr (.inr (some (11, (0, 0))))), none] [] (n, ([], M)) v σ' ↔ v = none ∧ σ' = (n, ([], mC M (60, 0) (fun j => if j < 39 then M 12 (55, 0) j else M 12 (60, 0) j))) := by
  rw [s142_0, s142_1]
  have e := r142_loop (d := d) (n := n) (v := v) (σ' := σ') (M := M) (c0 := M 12 (60, 0)) 39 0 (M 12 (60, 0)) (by omega) (fun j => by rw [if_neg (by omega)])
  rw [mC_self] at e
  exact e
theorem rD_take (ha : a ≤ 7) (hb : b ≤ 7) (hl : l ≤ 7) {c' : Nat → Int32} (w : rD a b l c h) : rD a b l (fun j => if j < 39 then c j else c' j) h := by
  refine ⟨fun i hi => ?_, ⟨?_, ?_, ?_, ?_⟩, fun t ht => ⟨?_, ?_, ?_⟩, fun t ht => ?_⟩
  · show (if i < 39 then c i else c' i) = _; rw [if_pos (by omega)]; exact w.1 i hi
  · exact w.2.1.1
  · exact w.2.1.2.1
  · exact w.2.1.2.2.1
  · exact w.2.1.2.2.2
  · show (if 11 + t < 39 then c (11 + t) else c' (11 + t)) = _; rw [if_pos (by omega)]; exact (w.2.2.1 t ht).1
  · show (if 18 + t < 39 then c (18 + t) else c' (18 + t)) = _; rw [if_pos (by omega)]; exact (w.2.2.1 t ht).2.1
  · show (if 25 + t < 39 then c (25 + t) else c' (25 + t)) = _; rw [if_pos (by omega)]; exact (w.2.2.1 t ht).2.2
  · show (if 32 + t < 39 then c (32 + t) else c' (32 + t)) = _; rw [if_pos (by omega)]; exact w.2.2.2 t ht
/-- putOn -/
theorem r164_loop (hL : jLen 12 (f, 0) = 39) {p : Nat} (hl : l < 7) (hp : p ≤ l) : ∀ (i : Nat) (c : Nat → Int32), p + i ≤ l → (∀ k, c k = if p + i < k ∧ k ≤ l then M 12 (f, 0) (k - 1) else M 12 (f, 0) k) → (jE d 164 5 [some (.inr (.inr (some (12, (f, 0))))), some (.inl x), some (.inl (jn p)), some (.inl (jn (p + i)))] [] (n, ([], mC M (f, 0) c)) v σ' ↔ v = none ∧ σ' = (n, ([], mC M (f, 0) (upd (rins (M 12 (f, 0)) p l x) 7 (M 12 (f, 0) 7 + 1))))) := by
  intro i
  induction i with
  | zero =>
    intro c hi hc
    rw [s164_5, s164_6, s164_7, if_pos ((jn_le (by omega) (by omega)).mpr (by omega))]
    simp (disch := omega) only [s164_28, s164_29, s164_30, s164_31, s164_32, s164_33, s164_34, s164_35, s164_37, s164_38, s164_39, s164_40, s164_41, s164_42, hL, jnA0, jiz, jcl, jk7, ji7 (show 7 < 39 by decide), mC_up, mC_at, mC_mC]
    have e1 : upd c p x = rins (M 12 (f, 0)) p l x := by
      funext k
      unfold upd rins
      by_cases h1 : k = p
      · rw [if_pos h1, if_neg (by omega), if_pos h1]
      · rw [if_neg h1, hc]
        by_cases h2 : k < p
        · rw [if_pos h2, if_neg (by omega)]
        · rw [if_neg h2, if_neg h1]
          by_cases h3 : k ≤ l
          · rw [if_pos h3, if_pos (by omega)]
          · rw [if_neg h3, if_neg (by omega)]
    have e2 : upd c p x 7 = M 12 (f, 0) 7 := by
      unfold upd
      rw [if_neg (by omega), hc, if_neg (by omega)]
    rw [e2, e1]
  | succ i ih =>
    intro c hi hc
    rw [s164_5, s164_6, s164_7, if_neg (fun z => absurd ((jn_le (by omega) (by omega)).mp z) (by omega))]
    have e1 : jn (p + (i + 1)) - 1 = jn (p + i) := jn_sub1 (p + i)
    have e2 : jn (p + (i + 1)) + (-1) = jn (p + i) := by
      rw [← e1]
      exact (Int32.sub_eq_add_neg _ _).symm
    simp (disch := omega) only [s164_10, s164_11, s164_12, s164_13, s164_14, s164_15, s164_16, s164_17, s164_18, s164_19, s164_20, s164_21, s164_22, hL, jnA0, e1, e2, jiz, jcl, mC_up, mC_at, mC_mC]
    rw [s164_25]
    refine ih _ (by omega) (fun k => ?_)
    unfold upd
    by_cases h1 : k = p + (i + 1)
    · rw [if_pos h1, if_pos (by omega), hc, if_neg (by omega), h1]
      rfl
    · rw [if_neg h1, hc]
      by_cases h2 : p + (i + 1) < k ∧ k ≤ l
      · rw [if_pos h2, if_pos (by omega)]
      · rw [if_neg h2, if_neg (by omega)]
theorem r164 (w : rO K a b l f M h) {p : Nat} (hl : l < 7) (hp : p ≤ l) : ∃ c', rD a b (l + 1) c' (hMount h x p) ∧ ∀ (v : Option jV) (σ' : jS), jE d 164 0 [some (.inr (.inr (some (12, (f, 0))))), some (.inl x), some (.inl (jn p)), none] [] (n, ([], M)) v σ' ↔ v = none ∧ σ' = (n, ([], mC M (f, 0) c')) := by
  have w1 := w.1.1
  have hL := rO_len w
  have w7 : M 12 (f, 0) 7 = jn l := w.2.2.1.2.1.1.trans w.1.2.1.2.2
  refine ⟨upd (rins (M 12 (f, 0)) p l x) 7 (M 12 (f, 0) 7 + 1), ?_, fun v σ' => ?_⟩
  · unfold hMount
    rw [hOk_B w.1]
    have u : ∀ t, t ≠ 7 → 7 ≤ t → upd (rins (M 12 (f, 0)) p l x) 7 (M 12 (f, 0) 7 + 1) t = M 12 (f, 0) t := fun t h1 h2 => by
      unfold upd rins
      rw [if_neg h1, if_neg (by omega), if_neg (by omega), if_neg (by omega)]
    refine ⟨fun i hi => ?_, ⟨?_, ?_, ?_, ?_⟩, fun t ht => ⟨?_, ?_, ?_⟩, fun t ht => ?_⟩
    · rw [hSc_f (by decide), nset_at]
      unfold upd
      rw [if_neg (by omega)]
      unfold rins
      by_cases h1 : i < p
      · rw [if_pos h1, if_pos h1]; exact w.2.2.1.1 i (by omega)
      · rw [if_neg h1, if_neg h1]
        by_cases h2 : i = p
        · rw [if_pos h2, if_pos h2]
        · rw [if_neg h2, if_neg h2, if_pos (by omega), if_pos (by omega)]; exact w.2.2.1.1 (i - 1) (by omega)
    · rw [hSc_10, w7, jn_1]; exact if_pos rfl
    · rw [hSc_10' (by decide), nset_ne (by decide), u 8 (by omega) (by omega)]; exact w.2.2.1.2.1.2.1
    · rw [hSc_10' (by decide), nset_ne (by decide), u 9 (by omega) (by omega)]; exact w.2.2.1.2.1.2.2.1
    · rw [hSc_10' (by decide), nset_ne (by decide), u 10 (by omega) (by omega)]; exact w.2.2.1.2.1.2.2.2
    · rw [hSc_f (by decide), nset_ne (by decide), u _ (by omega) (by omega)]; exact (w.2.2.1.2.2.1 t ht).1
    · rw [hSc_f (by decide), nset_ne (by decide), u _ (by omega) (by omega)]; exact (w.2.2.1.2.2.1 t ht).2.1
    · rw [hSc_f (by decide), nset_ne (by decide), u _ (by omega) (by omega)]; exact (w.2.2.1.2.2.1 t ht).2.2
    · rw [hSc_f (by decide), nset_ne (by decide), u _ (by omega) (by omega)]; exact w.2.2.1.2.2.2 t ht
  · simp only [s164_0, s164_1, s164_3, s164_4, hL, jk7, ji7 (show 7 < 39 by decide), w7]
    have e := r164_loop (d := d) (n := n) (v := v) (σ' := σ') (M := M) (x := x) hL hl hp (l - p) (M 12 (f, 0)) (by omega) (fun k => by rw [if_neg (by omega)])
    rw [mC_self, show p + (l - p) = l by omega, w7] at e
    exact e
/-- takeOff -/
theorem r165_loop (hL : jLen 12 (f, 0) = 39) {p : Nat} (hl : l ≤ 7) (h7 : M 12 (f, 0) 7 = jn l) : ∀ (g i : Nat) (c : Nat → Int32), p ≤ i → i + g + 1 = l → (∀ k, c k = if p ≤ k ∧ k < i then M 12 (f, 0) (k + 1) else M 12 (f, 0) k) → (jE d 165 2 [some (.inr (.inr (some (12, (f, 0))))), some (.inl (jn p)), some (.inl (jn i))] [] (n, ([], mC M (f, 0) c)) v σ' ↔ v = none ∧ σ' = (n, ([], mC M (f, 0) (upd (rrem (M 12 (f, 0)) p l) 7 (jn l - 1))))) := by
  intro g
  induction g with
  | zero =>
    intro i c hp hi hc
    have e7 : c 7 = jn l := by rw [hc, if_neg (by omega), h7]
    simp (disch := omega) only [s165_2, s165_3, s165_4, s165_5, s165_6, s165_8, s165_9, s165_30, s165_31, s165_33, s165_34, s165_35, s165_36, s165_37, s165_38, hL, jk7, ji7 (show 7 < 39 by decide), mC_at, mC_up, mC_mC, e7, jn_1]
    rw [if_pos ((jn_le (by omega) (by omega)).mpr (by omega))]
    have e : c = rrem (M 12 (f, 0)) p l := by
      funext k
      rw [hc]
      unfold rrem
      by_cases h : p ≤ k ∧ k < i
      · rw [if_pos h, if_pos (by omega)]
      · rw [if_neg h, if_neg (by omega)]
    rw [e]
  | succ g ih =>
    intro i c hp hi hc
    have e7 : c 7 = jn l := by rw [hc, if_neg (by omega), h7]
    simp (disch := omega) only [s165_2, s165_3, s165_4, s165_5, s165_6, s165_8, s165_9, hL, jk7, ji7 (show 7 < 39 by decide), mC_at, e7, jn_1]
    rw [if_neg (fun z => absurd ((jn_le (by omega) (by omega)).mp z) (by omega))]
    simp (disch := omega) only [s165_12, s165_13, s165_14, s165_15, s165_16, s165_17, s165_18, s165_19, s165_20, s165_21, s165_22, s165_23, s165_24, hL, jnA0, jn_1, jiz, jcl, mC_up, mC_at, mC_mC]
    rw [s165_27]
    refine ih (i + 1) _ (by omega) (by omega) (fun k => ?_)
    unfold upd
    by_cases h1 : k = i
    · rw [if_pos h1, if_pos (by omega), hc, if_neg (by omega), h1]
    · rw [if_neg h1, hc]
      by_cases h2 : p ≤ k ∧ k < i
      · rw [if_pos h2, if_pos (by omega)]
      · rw [if_neg h2, if_neg (by omega)]
theorem r165 (w : rO K a b l f M h) {p : Nat} (hp : p < l) (hx : h 4 p = x) : ∃ c', rD a b (l - 1) c' (hStrike h x) ∧ ∀ (v : Option jV) (σ' : jS), jE d 165 0 [some (.inr (.inr (some (12, (f, 0))))), some (.inl (jn p)), none] [] (n, ([], M)) v σ' ↔ v = none ∧ σ' = (n, ([], mC M (f, 0) c')) := by
  have w1 := w.1.1
  have hL := rO_len w
  have w7 : M 12 (f, 0) 7 = jn l := w.2.2.1.2.1.1.trans w.1.2.1.2.2
  refine ⟨upd (rrem (M 12 (f, 0)) p l) 7 (jn l - 1), ?_, fun v σ' => ?_⟩
  · unfold hStrike
    rw [hOk_B w.1, hOk_at w.1 hp hx, jn_clamp (by omega), w.1.2.1.2.2]
    have u : ∀ t, t ≠ 7 → 7 ≤ t → upd (rrem (M 12 (f, 0)) p l) 7 (jn l - 1) t = M 12 (f, 0) t := fun t h1 h2 => by
      unfold upd rrem
      rw [if_neg h1, if_neg (by omega)]
    refine ⟨fun i hi => ?_, ⟨?_, ?_, ?_, ?_⟩, fun t ht => ⟨?_, ?_, ?_⟩, fun t ht => ?_⟩
    · rw [hSc_f (by decide), nset_at]
      unfold upd
      rw [if_neg (by omega)]
      unfold rrem
      by_cases h1 : p ≤ i ∧ i + 1 < l
      · rw [if_pos h1, if_pos h1]; exact w.2.2.1.1 (i + 1) (by omega)
      · rw [if_neg h1, if_neg h1]; exact w.2.2.1.1 i (by omega)
    · rw [hSc_10]; exact if_pos rfl
    · rw [hSc_10' (by decide), nset_ne (by decide), u 8 (by omega) (by omega)]; exact w.2.2.1.2.1.2.1
    · rw [hSc_10' (by decide), nset_ne (by decide), u 9 (by omega) (by omega)]; exact w.2.2.1.2.1.2.2.1
    · rw [hSc_10' (by decide), nset_ne (by decide), u 10 (by omega) (by omega)]; exact w.2.2.1.2.1.2.2.2
    · rw [hSc_f (by decide), nset_ne (by decide), u _ (by omega) (by omega)]; exact (w.2.2.1.2.2.1 t ht).1
    · rw [hSc_f (by decide), nset_ne (by decide), u _ (by omega) (by omega)]; exact (w.2.2.1.2.2.1 t ht).2.1
    · rw [hSc_f (by decide), nset_ne (by decide), u _ (by omega) (by omega)]; exact (w.2.2.1.2.2.1 t ht).2.2
    · rw [hSc_f (by decide), nset_ne (by decide), u _ (by omega) (by omega)]; exact w.2.2.1.2.2.2 t ht
  · rw [s165_0, s165_1]
    have e := r165_loop (d := d) (n := n) (v := v) (σ' := σ') (M := M) (p := p) hL (show l ≤ 7 by omega) w7 (l - 1 - p) p (M 12 (f, 0)) (by omega) (by omega) (fun k => by rw [if_neg (by omega)])
    rw [mC_self] at e
    exact e
/-- change -/
theorem r166 (w : rO K a b l f M h) {s t : Nat} (hs : s < b) (ht : t < b) : ∃ c', rD a b l c' (hTrade h (jn s) (jn t)) ∧ ∀ (v : Option jV) (σ' : jS), jE (d + 1) 166 0 [some (.inr (.inr (some (11, (0, 0))))), some (.inr (.inr (some (12, (f, 0))))), some (.inl (jn s)), some (.inl (jn t)), none, none] [] (n, ([], M)) v σ' ↔ v = none ∧ σ' = (n, ([], mC M (f, 0) c')) := by
  have w1 := w.1.1
  have hL := rO_len w
  obtain ⟨p, hp, e1⟩ := cIn_all (by omega) w.1.2.2.2.1 hs
  obtain ⟨q, hq, e2⟩ := cIn_all (by omega) w.1.2.2.2.1 ht
  refine ⟨upd (upd (M 12 (f, 0)) (18 + p) (jn t)) (18 + q) (jn s), ?_, fun v σ' => ?_⟩
  · rw [hTrade_eq w.1 hp hq e1 e2]
    have k1 := rD_row (x := jn t) (r := 9) (o := 18) (k := p) (by omega) (by omega) w.2.2.1 (by omega) hp
    have k2 := rD_row (x := jn s) (r := 9) (o := 18) (k := q) (by omega) (by omega) k1 (by omega) hq
    have e3 : nset (nset h 9 (upd (h 9) p (jn t))) 9 (upd (nset h 9 (upd (h 9) p (jn t)) 9) q (jn s)) = nset h 9 (swp (h 9) p q) := by
      rw [nset_at]
      funext r
      unfold nset
      by_cases er : r = 9
      · rw [if_pos er, if_pos er]
        funext i
        unfold upd swp upd
        rw [e1, e2]
      · rw [if_neg er, if_neg er, if_neg er]
    rw [e3] at k2
    exact k2
  · simp (disch := omega) only [s166_0, s166_1, s166_2, s166_3, s166_6, s166_8, s166_9, s166_10, s166_11, s166_14, s166_16, s166_17, s166_19, s166_21, s166_22, s166_23, s166_24, s166_25, s166_27, s166_29, s166_30, s166_31, s166_32, r146 w hs, r146 w ht, jcall_eq, Option.toList_some, Option.toList_none, List.cons_append, List.nil_append, hOk_line w.1 hp e1, hOk_line w.1 hq e2, hL, jnA18, jiz, jcl, mC_up, mC_at, mC_mC]
/-- canHire, hireFor -/
theorem r167 (w : rO K a b l f M h) {q : Nat} (hq : q < b) : jE d 167 0 [some (.inr (.inr (some (12, (f, 0))))), some (.inl (jn q))] [] (n, ([], M)) v σ' ↔ v = some (.inl (jb (hCanEng h (jn q)))) ∧ σ' = (n, ([], M)) := by
  have w1 := w.1.1
  have hL := rO_len w
  simp (disch := omega) only [s167_0, s167_1, s167_3, s167_4, s167_5, s167_6, s167_7, s167_10, s167_11, s167_13, s167_14, s167_15, s167_18, s167_19, s167_22, s167_23, hL, jnA11, jiz, jcl, jk8, ji8 (show 8 < 39 by decide), (w.2.2.1.2.2.1 q hq).1, w.2.2.1.2.1.2.1]
  unfold jb hCanEng
  rw [rg_in (by omega) (by omega)]
  by_cases h1 : h 5 q = 3
  · rw [if_pos h1, if_neg (fun z => z.1 h1)]
    exact ⟨fun q => q.2, fun q => ⟨by simp, q⟩⟩
  · rw [if_neg h1]
    by_cases h2 : 5 ≤ h 10 13
    · rw [if_neg (Int32.not_lt.mpr h2), if_pos ⟨h1, h2⟩]
      exact ⟨fun q => q.2, fun q => ⟨by simp, q⟩⟩
    · rw [if_pos (Int32.not_le.mp h2), if_neg (fun z => h2 z.2)]
      exact ⟨fun q => q.2, fun q => ⟨by simp, q⟩⟩
theorem r168 (w : rO K a b l f M h) {q : Nat} (hq : q < b) : ∃ c', rD a b l c' (hEng h (jn q)) ∧ ∀ (v : Option jV) (σ' : jS), jE d 168 0 [some (.inr (.inr (some (12, (f, 0))))), some (.inl (jn q))] [] (n, ([], M)) v σ' ↔ v = none ∧ σ' = (n, ([], mC M (f, 0) c')) := by
  have w1 := w.1.1
  have hL := rO_len w
  have u8 : upd (M 12 (f, 0)) (11 + q) 3 8 = M 12 (f, 0) 8 := if_neg (by omega)
  refine ⟨upd (upd (M 12 (f, 0)) (11 + q) 3) 8 (M 12 (f, 0) 8 - 5), ?_, fun v σ' => ?_⟩
  · have k1 := rD_row (x := 3) (r := 5) (o := 11) (k := q) (by omega) (by omega) w.2.2.1 (by omega) hq
    have k2 := rD_sc (x := M 12 (f, 0) 8 - 5) (s := 13) (by omega) k1 (by omega) (by omega)
    unfold hEng
    rw [rs_in (by omega) (by omega), ← w.2.2.1.2.1.2.1]
    exact k2
  · simp (disch := omega) only [s168_0, s168_1, s168_3, s168_4, s168_5, s168_6, s168_7, s168_8, s168_10, s168_11, s168_12, s168_13, s168_14, s168_15, hL, jnA11, jiz, jcl, jk8, ji8 (show 8 < 39 by decide), mC_up, mC_at, mC_mC, u8]
end JRC
