/-! what is scratch; how the class and the reference stand together -/
abbrev jH : Type := Nat → Nat → Int32
def scr (k : Nat) (a : jA) (s : Nat) : Prop :=
  (k = 12 ∧ a.1 < 10 ∧ (a.2 = 0 ∨ 12 ≤ a.2)) ∨ (k = 1 ∧ (a.2 = 0 ∨ 12 ≤ a.2)) ∨ (k = 12 ∧ (16 ≤ a.1 ∧ a.1 < 21) ∧ a.2 ≠ 1) ∨ (k = 4 ∧ a.2 ≠ 1) ∨ k = 5 ∨ k = 0 ∨ (k = 9 ∧ s = 3) ∨ (k = 11 ∧ 11 ≤ s ∧ s ≤ 14) ∨ k = 13 ∨ (k = 12 ∧ (a.1 = 47 ∨ a.1 = 50 ∨ (60 ≤ a.1 ∧ a.1 ≤ 66))) ∨ (k = 12 ∧ (a.1 = 42 ∨ a.1 = 46) ∧ 1 ≤ s) ∨ (k = 12 ∧ (a.1 = 43 ∨ a.1 = 44 ∨ a.1 = 45 ∨ a.1 = 48 ∨ a.1 = 49) ∧ 7 ≤ s)
/-- alike but for scratch -/
def iEq (M M' : jM) : Prop := ∀ k a s, ¬ scr k a s → M' k a s = M k a s
theorem iEq_rfl (M : jM) : iEq M M := fun _ _ _ _ => rfl
theorem iEq_tr {M M' M'' : jM} (h : iEq M M') (h' : iEq M' M'') : iEq M M'' := fun k a s w => (h' k a s w).trans (h k a s w)
theorem iEq_sy {M M' : jM} (h : iEq M M') : iEq M' M := fun k a s w => (h k a s w).symm
theorem iEq_sH {M : jM} {i : Nat} {h : jH} (hi : i = 0 ∨ 12 ≤ i) : iEq M (sH M i h) := by
  intro k a s w
  unfold sH
  rw [if_neg (fun z => w (Or.inl ⟨z.1, z.2.2.1, by omega⟩)), if_neg (fun z => w (Or.inr (Or.inl ⟨z.1, by rw [z.2.1]; exact hi⟩)))]
theorem iEq_sN {M : jM} {q : Nat} {h : jH} (hq : q ≠ 1) : iEq M (sN M q h) := by
  intro k a s w
  unfold sN
  rw [if_neg (fun z => w (Or.inr (Or.inr (Or.inl ⟨z.1, z.2.2.1, by rw [z.2.1]; exact hq⟩)))), if_neg (fun z => w (Or.inr (Or.inr (Or.inr (Or.inl ⟨z.1, by rw [z.2.1]; exact hq⟩)))))]
theorem iEq_up {M : jM} {k : Nat} {a : jA} {s : Nat} {x : Int32} (h : scr k a s) : iEq M (jUp M k a s x) := by
  intro k' a' s' w
  unfold jUp
  rw [if_neg (fun z => w (by rw [z.1, z.2.1, z.2.2]; exact h))]
theorem iEq_mC {M : jM} {a : jA} {c : Nat → Int32} (h : ∀ s, scr 12 a s ∨ c s = M 12 a s) : iEq M (mC M a c) := by
  intro k' a' s' w
  unfold mC
  by_cases e : k' = 12 ∧ a' = a
  · rw [if_pos e, e.1, e.2]
    rcases h s' with q | q
    · exact absurd (by rw [e.1, e.2]; exact q) w
    · exact q
  · rw [if_neg e]
theorem iEq_mO {M : jM} {x y : Int32} : iEq M (mO M x y) := by
  intro k a s w
  unfold mO
  rw [if_neg (fun z => w (by unfold scr; omega)), if_neg (fun z => w (by unfold scr; omega))]
theorem iEq_mA {M : jM} {x y : Int32} : iEq M (mA M x y) := by
  intro k a s w
  unfold mA
  rw [if_neg (fun z => w (by unfold scr; omega)), if_neg (fun z => w (by unfold scr; omega))]
theorem iEq_tX {M : jM} {h : jH} {s : Nat} : iEq M (tX M h s) := by
  unfold tX
  exact iEq_tr (iEq_up (by unfold scr; omega)) (iEq_sH (Or.inl rfl))
/-- alike where P says so -/
def eqO (P : Nat → jA → Nat → Prop) (M M' : jM) : Prop := ∀ k a s, P k a s → M' k a s = M k a s
theorem eqO_rfl (P : Nat → jA → Nat → Prop) (M : jM) : eqO P M M := fun _ _ _ _ => rfl
theorem eqO_tr {P : Nat → jA → Nat → Prop} {M M' M'' : jM} (h : eqO P M M') (h' : eqO P M' M'') : eqO P M M'' := fun k a s w => (h' k a s w).trans (h k a s w)
theorem eqO_le {P Q : Nat → jA → Nat → Prop} {M M' : jM} (h : eqO P M M') (w : ∀ k a s, Q k a s → P k a s) : eqO Q M M' := fun k a s z => h k a s (w k a s z)
theorem eqO_up {P : Nat → jA → Nat → Prop} {M : jM} {k : Nat} {a : jA} {s : Nat} {x : Int32} (h : ¬ P k a s) : eqO P M (jUp M k a s x) := by
  intro k' a' s' w
  unfold jUp
  rw [if_neg (fun z => h (by rw [← z.1, ← z.2.1, ← z.2.2]; exact w))]
theorem eqO_mC {P : Nat → jA → Nat → Prop} {M : jM} {a : jA} {c : Nat → Int32} (h : ∀ s, ¬ P 12 a s ∨ c s = M 12 a s) : eqO P M (mC M a c) := by
  intro k' a' s' w
  unfold mC
  by_cases e : k' = 12 ∧ a' = a
  · rw [if_pos e, e.1, e.2]
    rcases h s' with q | q
    · exact absurd (by rw [← e.1, ← e.2]; exact w) q
    · exact q
  · rw [if_neg e]
theorem eqO_sH {P : Nat → jA → Nat → Prop} {M : jM} {i : Nat} {h : jH} (h1 : ∀ f s, f < 10 → ¬ P 12 (f, i) s) (h2 : ∀ s, ¬ P 1 (0, i) s) : eqO P M (sH M i h) := by
  intro k a s w
  unfold sH
  rw [if_neg (fun z => h1 a.1 s z.2.2.1 (by rw [← z.1, ← z.2.1]; exact w)), if_neg (fun z => h2 s (by rw [← z.1, ← z.2.1]; exact w))]
theorem eqO_sN {P : Nat → jA → Nat → Prop} {M : jM} {q : Nat} {h : jH} (h1 : ∀ f s, 16 ≤ f → f < 21 → ¬ P 12 (f, q) s) (h2 : ∀ s, ¬ P 4 (0, q) s) : eqO P M (sN M q h) := by
  intro k a s w
  unfold sN
  rw [if_neg (fun z => h1 a.1 s z.2.2.1.1 z.2.2.1.2 (by rw [← z.1, ← z.2.1]; exact w)), if_neg (fun z => h2 s (by rw [← z.1, ← z.2.1]; exact w))]
theorem eqO_gH {P : Nat → jA → Nat → Prop} {M M' : jM} {i : Nat} (e : eqO P M M') (h1 : ∀ f s, f < 10 → P 12 (f, i) s) (h2 : ∀ s, P 1 (0, i) s) : gH M' i = gH M i := by
  funext f s
  unfold gH
  by_cases hf : f < 10
  · rw [if_pos hf, if_pos hf]
    exact e _ _ _ (h1 f s hf)
  · rw [if_neg hf, if_neg hf]
    exact e _ _ _ (h2 s)
def fS (k : Nat) (a : jA) (s : Nat) : Prop := k = 12 ∧ a.2 = 0 ∧ ((s = 0 ∧ (a.1 = 42 ∨ a.1 = 46)) ∨ (s < 7 ∧ (a.1 = 43 ∨ a.1 = 44 ∨ a.1 = 45 ∨ a.1 = 48 ∨ a.1 = 49)))
def f1 (k : Nat) (a : jA) (s : Nat) : Prop := (k = 12 ∧ a.1 < 10 ∧ a.2 = 1) ∨ (k = 1 ∧ a.1 = 0 ∧ a.2 = 1) ∨ fS k a s ∨ (k = 12 ∧ a.1 = 55 ∧ a.2 = 0)
def f2 (R base u row k : Nat) (a : jA) (s : Nat) : Prop := (k = 2 ∧ a.1 = 0 ∧ a.2 = u) ∨ (k = 12 ∧ a.1 < 10 ∧ base ≤ a.2 ∧ a.2 < base + R) ∨ (k = 1 ∧ a.1 = 0 ∧ base ≤ a.2 ∧ a.2 < base + R) ∨ fS k a s ∨ (k = 12 ∧ a.1 = row ∧ a.2 = 0)
def f4 (k : Nat) (a : jA) (s : Nat) : Prop := (k = 8 ∧ s = 2) ∨ (k = 11 ∧ s = 29) ∨ (k = 12 ∧ (a.1 = 31 ∨ a.1 = 32 ∨ a.1 = 67 ∨ a.1 = 68) ∧ a.2 = 0)
def f5 (k : Nat) (a : jA) (s : Nat) : Prop := (k = 9 ∧ s = 2) ∨ (k = 11 ∧ s = 1) ∨ k = 14 ∨ (k = 12 ∧ a.1 = 30 ∧ a.2 = 0)
def f6 (k : Nat) (a : jA) (s : Nat) : Prop := k = 10 ∨ (k = 11 ∧ s = 25) ∨ (k = 12 ∧ 16 ≤ a.1 ∧ a.1 < 21 ∧ a.2 = 1) ∨ (k = 4 ∧ a.1 = 0 ∧ a.2 = 1) ∨ k = 7 ∨ k = 3 ∨ (k = 12 ∧ (a.1 = 33 ∨ a.1 = 34) ∧ a.2 = 0) ∨ (k = 12 ∧ a.1 < 10 ∧ a.2 = 1) ∨ (k = 1 ∧ a.1 = 0 ∧ a.2 = 1)
theorem iEq_gH {M M' : jM} {i : Nat} (e : iEq M M') (h1 : 1 ≤ i) (h2 : i ≤ 11) : gH M' i = gH M i :=
  eqO_gH (P := fun k a s => ¬ scr k a s) e (fun f s hf => by unfold scr; simp; omega) (fun s => by unfold scr; simp; omega)
/-- the reference's cells of a house -/
def rD (a b l : Nat) (c : Nat → Int32) (h : jH) : Prop :=
  (∀ i, i < l → c i = h 4 i) ∧ (c 7 = h 10 12 ∧ c 8 = h 10 13 ∧ c 9 = h 10 14 ∧ c 10 = h 10 15) ∧ (∀ s, s < b → c (11 + s) = h 5 s ∧ c (18 + s) = h 9 s ∧ c (25 + s) = h 8 s) ∧ ∀ s, s < a → c (32 + s) = h 3 s
/-- the reference's scenes and seats -/
def rS (a b : Nat) (M : jM) (h : jH) : Prop :=
  (M 12 (42, 0) 0 = jn a ∧ M 12 (46, 0) 0 = jn b) ∧ (∀ s, s < a → M 12 (43, 0) s = h 0 s ∧ M 12 (44, 0) s = h 1 s ∧ M 12 (45, 0) s = h 2 s) ∧ ∀ s, s < b → M 12 (48, 0) s = h 6 s ∧ M 12 (49, 0) s = h 7 s
def I1 (K a b l : Nat) (M : jM) : Prop := hOk K a b l (gH M 1) ∧ rS a b M (gH M 1) ∧ rD a b l (M 12 (55, 0)) (gH M 1)
def ringAt (R base p c j : Nat) : Nat := base + (p + R - c + j) % R
/-- houses laid aside: a ring here, a row there -/
def I2 (K a b R base u row p c : Nat) (M : jM) : Prop :=
  (p < R ∧ c ≤ R) ∧ (M 2 (0, u) 1 = jn p ∧ M 2 (0, u) 2 = jn c) ∧ ∀ j, j < c → ∃ l', hOk K a b l' (gH M (ringAt R base p c j)) ∧ rS a b M (gH M (ringAt R base p c j)) ∧ rD a b l' (fun k => M 12 (row, 0) (39 * j + k)) (gH M (ringAt R base p c j))
def I4 (m : Nat) (M : jM) : Prop := m ≤ 6 ∧ M 8 (0, 0) 2 = jn m ∧ M 11 (0, 0) 29 = jn m ∧ ∀ j, j < m → M 12 (67, 0) j = M 12 (31, 0) j ∧ M 12 (68, 0) j = M 12 (32, 0) j
def I5 (L : Nat) (M : jM) : Prop := L ≤ 200 ∧ M 9 (0, 0) 2 = jn L ∧ M 11 (0, 0) 1 = jn L ∧ ∀ i, i < L → M 14 (40, 0) i = M 12 (30, 0) i ∧ ∃ k, 32 ≤ k ∧ k ≤ 126 ∧ M 12 (30, 0) i = jn k
/-- what was searched for holds while the stamp is the same -/
def I6 (t a b : Nat) (M : jM) : Prop :=
  (M 10 (0, 0) 10 = jn t ∧ nvEq (gN M 1) (fun _ _ => 0) ∧ M 11 (0, 0) 25 = 0) ∧
  (M 7 (0, 0) 6 = -4 ∨ ∃ t', t' ≤ t ∧ M 7 (0, 0) 6 = jn t' ∧ (t' = t → sR M (exBest (gH M 1) a (M 7 (0, 0) 5)))) ∧
  (M 3 (0, 0) 4 = -4 ∨ ∃ t', t' ≤ t ∧ M 3 (0, 0) 4 = jn t' ∧ (t' = t → ∃ c0, M 3 (0, 0) 3 = (lfBest (gH M 1) c0 b).2 ∧ ∀ i, i < b → M 12 (34, 0) i = (lfBest (gH M 1) c0 b).1 i))
def Inv (K t a b l p c q e m L : Nat) (M : jM) : Prop :=
  I1 K a b l M ∧ (I2 K a b 8 2 0 56 p c M ∧ M 11 (0, 0) 17 = jn c) ∧ (I2 K a b 2 10 1 58 q e M ∧ M 11 (0, 0) 19 = jn e) ∧ I4 m M ∧ I5 L M ∧ I6 t a b M
section JINV
variable {K t a b l p c q e m L R base u row : Nat} {M M' : jM}
theorem rS_eq {h : jH} (x : eqO fS M M') (ha : a ≤ 7) (hb : b ≤ 7) (w : rS a b M h) : rS a b M' h := by
  refine ⟨⟨?_, ?_⟩, fun s hs => ⟨?_, ?_, ?_⟩, fun s hs => ⟨?_, ?_⟩⟩
  · rw [x 12 (42, 0) 0 (by unfold fS; simp)]; exact w.1.1
  · rw [x 12 (46, 0) 0 (by unfold fS; simp)]; exact w.1.2
  · rw [x 12 (43, 0) s (by unfold fS; simp; omega)]; exact (w.2.1 s hs).1
  · rw [x 12 (44, 0) s (by unfold fS; simp; omega)]; exact (w.2.1 s hs).2.1
  · rw [x 12 (45, 0) s (by unfold fS; simp; omega)]; exact (w.2.1 s hs).2.2
  · rw [x 12 (48, 0) s (by unfold fS; simp; omega)]; exact (w.2.2 s hs).1
  · rw [x 12 (49, 0) s (by unfold fS; simp; omega)]; exact (w.2.2 s hs).2
theorem eqO_f1S (x : eqO f1 M M') : eqO fS M M' := eqO_le x (fun _ _ _ z => Or.inr (Or.inr (Or.inl z)))
theorem I1_eq (x : eqO f1 M M') (w : I1 K a b l M) : I1 K a b l M' := by
  have w1 := w.1.1
  have e1 : gH M' 1 = gH M 1 := eqO_gH x (fun f s hf => Or.inl ⟨rfl, hf, rfl⟩) (fun s => Or.inr (Or.inl ⟨rfl, rfl, rfl⟩))
  have e2 : M' 12 (55, 0) = M 12 (55, 0) := funext fun s => x 12 (55, 0) s (Or.inr (Or.inr (Or.inr ⟨rfl, rfl, rfl⟩)))
  unfold I1
  rw [e1, e2]
  exact ⟨w.1, rS_eq (eqO_f1S x) (by omega) (by omega) w.2.1, w.2.2⟩
theorem ringAt_le {j : Nat} (hR : 0 < R) : base ≤ ringAt R base p c j ∧ ringAt R base p c j < base + R := by
  unfold ringAt
  have := Nat.mod_lt (p + R - c + j) hR
  omega
theorem I2_eq (x : eqO (f2 R base u row) M M') (hR : 0 < R) (w : I2 K a b R base u row p c M) : I2 K a b R base u row p c M' := by
  refine ⟨w.1, ⟨?_, ?_⟩, fun j hj => ?_⟩
  · rw [x 2 (0, u) 1 (Or.inl ⟨rfl, rfl, rfl⟩)]; exact w.2.1.1
  · rw [x 2 (0, u) 2 (Or.inl ⟨rfl, rfl, rfl⟩)]; exact w.2.1.2
  · obtain ⟨l', h1, h2, h3⟩ := w.2.2 j hj
    have h0 := ringAt_le (R := R) (base := base) (p := p) (c := c) (j := j) hR
    have w1 := h1.1
    have e1 : gH M' (ringAt R base p c j) = gH M (ringAt R base p c j) := eqO_gH x (fun f s hf => Or.inr (Or.inl ⟨rfl, hf, h0⟩)) (fun s => Or.inr (Or.inr (Or.inl ⟨rfl, rfl, h0⟩)))
    have e2 : M' 12 (row, 0) = M 12 (row, 0) := funext fun s => x 12 (row, 0) s (Or.inr (Or.inr (Or.inr (Or.inr ⟨rfl, rfl, rfl⟩))))
    rw [e1, e2]
    exact ⟨l', h1, rS_eq (eqO_le x (fun _ _ _ z => Or.inr (Or.inr (Or.inr (Or.inl z))))) (by omega) (by omega) h2, h3⟩
theorem I4_eq (x : eqO f4 M M') (w : I4 m M) : I4 m M' := by
  have e : ∀ r, r = 31 ∨ r = 32 ∨ r = 67 ∨ r = 68 → M' 12 (r, 0) = M 12 (r, 0) := fun r hr => funext fun s => x 12 (r, 0) s (Or.inr (Or.inr ⟨rfl, hr, rfl⟩))
  unfold I4
  rw [x 8 (0, 0) 2 (Or.inl ⟨rfl, rfl⟩), x 11 (0, 0) 29 (Or.inr (Or.inl ⟨rfl, rfl⟩)), e 31 (by omega), e 32 (by omega), e 67 (by omega), e 68 (by omega)]
  exact w
theorem I5_eq (x : eqO f5 M M') (w : I5 L M) : I5 L M' := by
  have e1 : M' 14 (40, 0) = M 14 (40, 0) := funext fun s => x 14 (40, 0) s (Or.inr (Or.inr (Or.inl rfl)))
  have e2 : M' 12 (30, 0) = M 12 (30, 0) := funext fun s => x 12 (30, 0) s (Or.inr (Or.inr (Or.inr ⟨rfl, rfl, rfl⟩)))
  unfold I5
  rw [x 9 (0, 0) 2 (Or.inl ⟨rfl, rfl⟩), x 11 (0, 0) 1 (Or.inr (Or.inl ⟨rfl, rfl⟩)), e1, e2]
  exact w
theorem gN_eq {P : Nat → jA → Nat → Prop} {q : Nat} (x : eqO P M M') (h1 : ∀ f s, 16 ≤ f → f < 21 → P 12 (f, q) s) (h2 : P 4 (0, q) 5) : gN M' q = gN M q := by
  funext f s
  unfold gN
  by_cases hf : f < 5
  · rw [if_pos hf, if_pos hf]
    exact x _ _ _ (h1 _ _ (by omega) (by omega))
  · rw [if_neg hf, if_neg hf]
    exact x _ _ _ h2
theorem sR_eq {o : (Nat → Int32) × (Nat × Int32)} (e1 : M' 7 (0, 0) 3 = M 7 (0, 0) 3) (e2 : M' 7 (0, 0) 4 = M 7 (0, 0) 4) (e3 : M' 12 (33, 0) = M 12 (33, 0)) (w : sR M o) : sR M' o := by
  unfold sR
  rw [e1, e2, e3]
  exact w
theorem I6_eq (x : eqO f6 M M') (w : I6 t a b M) : I6 t a b M' := by
  have e1 : gH M' 1 = gH M 1 := eqO_gH x (fun f s hf => by unfold f6; simp; omega) (fun s => by unfold f6; simp)
  have e2 : gN M' 1 = gN M 1 := gN_eq x (fun f s h1 h2 => by unfold f6; simp; omega) (by unfold f6; simp)
  have e3 : M' 12 (34, 0) = M 12 (34, 0) := funext fun s => x 12 (34, 0) s (by unfold f6; simp)
  have e4 : M' 12 (33, 0) = M 12 (33, 0) := funext fun s => x 12 (33, 0) s (by unfold f6; simp)
  unfold I6
  rw [x 10 (0, 0) 10 (by unfold f6; simp), x 11 (0, 0) 25 (by unfold f6; simp), x 7 (0, 0) 6 (by unfold f6; simp), x 7 (0, 0) 5 (by unfold f6; simp), x 3 (0, 0) 4 (by unfold f6; simp), x 3 (0, 0) 3 (by unfold f6; simp), e1, e2, e3]
  refine ⟨w.1, ?_, w.2.2⟩
  rcases w.2.1 with h | ⟨t', h1, h2, h3⟩
  · exact Or.inl h
  · exact Or.inr ⟨t', h1, h2, fun z => sR_eq (x 7 (0, 0) 3 (by unfold f6; simp)) (x 7 (0, 0) 4 (by unfold f6; simp)) e4 (h3 z)⟩
theorem Inv_eq (x : iEq M M') (w : Inv K t a b l p c q e m L M) : Inv K t a b l p c q e m L M' := by
  unfold Inv
  rw [x 11 (0, 0) 17 (by unfold scr; simp), x 11 (0, 0) 19 (by unfold scr; simp)]
  have y : eqO (fun k a s => ¬ scr k a s) M M' := x
  exact ⟨I1_eq (eqO_le y (fun k a s z => by unfold f1 fS at z; unfold scr; omega)) w.1, ⟨I2_eq (eqO_le y (fun k a s z => by unfold f2 fS at z; unfold scr; omega)) (by omega) w.2.1.1, w.2.1.2⟩, ⟨I2_eq (eqO_le y (fun k a s z => by unfold f2 fS at z; unfold scr; omega)) (by omega) w.2.2.1.1, w.2.2.1.2⟩, I4_eq (eqO_le y (fun k a s z => by unfold f4 at z; unfold scr; omega)) w.2.2.2.1, I5_eq (eqO_le y (fun k a s z => by unfold f5 at z; unfold scr; omega)) w.2.2.2.2.1, I6_eq (eqO_le y (fun k a s z => by unfold f6 at z; unfold scr; omega)) w.2.2.2.2.2⟩
end JINV
