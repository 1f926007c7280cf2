/-! small methods of a house, over a house as one value -/
theorem rfind_rg {L : Nat} {c c' : Nat → Int32} (h : ∀ x, rg L c x = rg L c' x) (x : Int32) : ∀ f k, rfind L c x f k = rfind L c' x f k
  | 0, _ => rfl
  | f + 1, k => by rw [rfind, rfind, h, rfind_rg h x f (k + 1)]
def hOnBill (h : Nat → Nat → Int32) (x : Int32) : Int32 := rfind 7 (h 4) x (hB h) 0
def hInLine (h : Nat → Nat → Int32) (x : Int32) : Int32 := rfind 7 (h 9) x (hS h) 0
abbrev hBilled (h : Nat → Nat → Int32) (x : Int32) : Prop := ¬ hOnBill h x = -4
def hMount (h : Nat → Nat → Int32) (x : Int32) (p : Nat) : Nat → Nat → Int32 := hSc (nset h 4 (rins (h 4) p (hB h) x)) 12 (jn (hB h + 1))
def hStrike (h : Nat → Nat → Int32) (x : Int32) : Nat → Nat → Int32 := hSc (nset h 4 (rrem (h 4) (hOnBill h x).toNatClampNeg (hB h))) 12 (h 10 12 - 1)
def hTrade (h : Nat → Nat → Int32) (x y : Int32) : Nat → Nat → Int32 := nset h 9 (rs 7 (rs 7 (h 9) (hInLine h x) (rg 7 (h 9) (hInLine h y))) (hInLine h y) (rg 7 (h 9) (hInLine h x)))
abbrev hCanEng (h : Nat → Nat → Int32) (x : Int32) : Prop := ¬ rg 7 (h 5) x = 3 ∧ 5 ≤ h 10 13
def hEng (h : Nat → Nat → Int32) (x : Int32) : Nat → Nat → Int32 := hSc (nset h 5 (rs 7 (h 5) x 3)) 13 (h 10 13 - 5)
section JHF
variable {d n i q : Nat} {v : Option jV} {σ' : jS} {M : jM} {x y z : Int32} {h : Nat → Nat → Int32}
theorem sH_f4 (M : jM) (i : Nat) (h : Nat → Nat → Int32) (x : Int32) (f k : Nat) : rfind 7 (sH M i h 12 (4, i)) x f k = rfind 7 (h 4) x f k := rfind_rg (sH_g4 M i h) x f k
theorem sH_f9 (M : jM) (i : Nat) (h : Nat → Nat → Int32) (x : Int32) (f k : Nat) : rfind 7 (sH M i h 12 (9, i)) x f k = rfind 7 (h 9) x f k := rfind_rg (sH_g9 M i h) x f k
theorem b12 : jE (d + 1) 12 0 [some (.inr (.inr (some (1, (0, i))))), some (.inl x)] [] (n, ([], sH M i h)) v σ' ↔ v = some (.inl (jb (0 ≤ x ∧ x ≤ h 10 10 - 1))) ∧ σ' = (n, ([], sH M i h)) := by
  simp only [c12, sH_g0, sH_g1, sH_g2, sH_g3, sH_g4, sH_g5, sH_g6, sH_g7, sH_g8, sH_g9, sH_p0, sH_p1, sH_p2, sH_p3, sH_p4, sH_p5, sH_p6, sH_p7, sH_p8, sH_p9, sH_s10, sH_s11, sH_s12, sH_s13, sH_s14, sH_s15, sH_u10, sH_u11, sH_u12, sH_u13, sH_u14, sH_u15]
theorem b13 : jE (d + 1) 13 0 [some (.inr (.inr (some (1, (0, i))))), some (.inl x)] [] (n, ([], sH M i h)) v σ' ↔ v = some (.inl (jb (0 ≤ x ∧ x ≤ h 10 11 - 1))) ∧ σ' = (n, ([], sH M i h)) := by
  simp only [c13, sH_g0, sH_g1, sH_g2, sH_g3, sH_g4, sH_g5, sH_g6, sH_g7, sH_g8, sH_g9, sH_p0, sH_p1, sH_p2, sH_p3, sH_p4, sH_p5, sH_p6, sH_p7, sH_p8, sH_p9, sH_s10, sH_s11, sH_s12, sH_s13, sH_s14, sH_s15, sH_u10, sH_u11, sH_u12, sH_u13, sH_u14, sH_u15]
theorem b14 : jE (d + 2) 14 0 [some (.inr (.inr (some (1, (0, i))))), some (.inl x)] [] (n, ([], sH M i h)) v σ' ↔ v = some (.inl (hOnBill h x)) ∧ σ' = (n, ([], sH M i h)) := by
  simp only [c14, sH_g0, sH_g1, sH_g2, sH_g3, sH_g4, sH_g5, sH_g6, sH_g7, sH_g8, sH_g9, sH_p0, sH_p1, sH_p2, sH_p3, sH_p4, sH_p5, sH_p6, sH_p7, sH_p8, sH_p9, sH_s10, sH_s11, sH_s12, sH_s13, sH_s14, sH_s15, sH_u10, sH_u11, sH_u12, sH_u13, sH_u14, sH_u15, sH_f4]
  rfl
theorem b15 : jE (d + 2) 15 0 [some (.inr (.inr (some (1, (0, i))))), some (.inl x)] [] (n, ([], sH M i h)) v σ' ↔ v = some (.inl (hInLine h x)) ∧ σ' = (n, ([], sH M i h)) := by
  simp only [c15, sH_g0, sH_g1, sH_g2, sH_g3, sH_g4, sH_g5, sH_g6, sH_g7, sH_g8, sH_g9, sH_p0, sH_p1, sH_p2, sH_p3, sH_p4, sH_p5, sH_p6, sH_p7, sH_p8, sH_p9, sH_s10, sH_s11, sH_s12, sH_s13, sH_s14, sH_s15, sH_u10, sH_u11, sH_u12, sH_u13, sH_u14, sH_u15, sH_f9]
  rfl
theorem b16 : jE (d + 2) 16 0 [some (.inr (.inr (some (1, (0, i))))), some (.inl x)] [] (n, ([], sH M i h)) v σ' ↔ v = some (.inl (jb (hBilled h x))) ∧ σ' = (n, ([], sH M i h)) := by
  simp only [c16, sH_g0, sH_g1, sH_g2, sH_g3, sH_g4, sH_g5, sH_g6, sH_g7, sH_g8, sH_g9, sH_p0, sH_p1, sH_p2, sH_p3, sH_p4, sH_p5, sH_p6, sH_p7, sH_p8, sH_p9, sH_s10, sH_s11, sH_s12, sH_s13, sH_s14, sH_s15, sH_u10, sH_u11, sH_u12, sH_u13, sH_u14, sH_u15, sH_f4]
  rfl
theorem b17 {p l : Nat} (hb : h 10 12 = jn l) (hl : l < 7) (hp : p ≤ l) : jE (d + 2) 17 0 [some (.inr (.inr (some (1, (0, i))))), some (.inl x), some (.inl (jn p))] [] (n, ([], sH M i h)) v σ' ↔ v = none ∧ σ' = (n, ([], sH M i (hMount h x p))) := by
  have e : hB h = l := by
    unfold hB
    rw [hb]
    exact jn_clamp (by omega)
  rw [c17 (l := l) (by rw [sH_s12]; exact hb) hl hp]
  rw [sH_cells (f := 4) (c' := rins (h 4) p l x) (by decide) (fun s hs => ?_) (fun s hs => ?_), sH_u12]
  · unfold hMount hSc
    rw [e]
  · unfold rins
    by_cases h1 : s < p
    · rw [if_pos h1, if_pos h1, sH_row (by decide) hs]
    · rw [if_neg h1, if_neg h1]
      by_cases h2 : s = p
      · rw [if_pos h2, if_pos h2]
      · rw [if_neg h2, if_neg h2]
        by_cases h3 : s ≤ l
        · rw [if_pos h3, if_pos h3, sH_row (by decide) (by omega)]
        · rw [if_neg h3, if_neg h3, sH_row (by decide) hs]
  · unfold rins
    rw [if_neg (by omega), if_neg (by omega), if_neg (by omega), sH_row7 hs]
theorem rfind_pos {L : Nat} {c : Nat → Int32} {x : Int32} : ∀ f k, k + f < 2147483648 → ¬ rfind L c x f k = -4 → ∃ p, k ≤ p ∧ p < k + f ∧ rfind L c x f k = jn p ∧ rg L c (jn p) = x
  | 0, k, _, h => absurd rfl h
  | f + 1, k, hk, h => by
    rw [rfind] at h ⊢
    by_cases h1 : rg L c (jn k) = x
    · rw [if_pos h1]
      exact ⟨k, by omega, by omega, rfl, h1⟩
    · rw [if_neg h1] at h ⊢
      obtain ⟨p, h2, h3, h4, h5⟩ := rfind_pos f (k + 1) (by omega) h
      exact ⟨p, by omega, by omega, h4, h5⟩
theorem b18 {l : Nat} (hb : h 10 12 = jn l) (hl : l ≤ 7) (hx : hBilled h x) : jE (d + 3) 18 0 [some (.inr (.inr (some (1, (0, i))))), some (.inl x)] [] (n, ([], sH M i h)) v σ' ↔ v = none ∧ σ' = (n, ([], sH M i (hStrike h x))) := by
  have e : hB h = l := by
    unfold hB
    rw [hb]
    exact jn_clamp (by omega)
  obtain ⟨p, h1, h2, h3, _⟩ := rfind_pos (hB h) 0 (by omega) hx
  rw [e] at h3 h2
  rw [c18 (l := l) (p := p) (by rw [sH_s12]; exact hb) hl (by omega) (by rw [sH_f4]; exact h3)]
  rw [sH_cells (f := 4) (c' := rrem (h 4) p l) (by decide) (fun s hs => ?_) (fun s hs => ?_), sH_u12]
  · unfold hStrike hSc hOnBill
    rw [e, h3, jn_clamp (by omega), hb]
  · unfold rrem
    by_cases h1 : p ≤ s ∧ s + 1 < l
    · rw [if_pos h1, if_pos h1, sH_row (by decide) (by omega)]
    · rw [if_neg h1, if_neg h1, sH_row (by decide) hs]
  · unfold rrem
    rw [if_neg (by omega), sH_row7 hs]
theorem b19 : jE (d + 3) 19 0 [some (.inr (.inr (some (1, (0, i))))), some (.inl x), some (.inl y)] [] (n, ([], sH M i h)) v σ' ↔ v = none ∧ σ' = (n, ([], sH M i (hTrade h x y))) := by
  simp only [c19, sH_g0, sH_g1, sH_g2, sH_g3, sH_g4, sH_g5, sH_g6, sH_g7, sH_g8, sH_g9, sH_p0, sH_p1, sH_p2, sH_p3, sH_p4, sH_p5, sH_p6, sH_p7, sH_p8, sH_p9, sH_s10, sH_s11, sH_s12, sH_s13, sH_s14, sH_s15, sH_u10, sH_u11, sH_u12, sH_u13, sH_u14, sH_u15, sH_f9]
  rw [sH_cells (f := 9) (c' := rs 7 (rs 7 (h 9) (rfind 7 (h 9) x (hS h) 0) (rg 7 (h 9) (rfind 7 (h 9) y (hS h) 0))) (rfind 7 (h 9) y (hS h) 0) (rg 7 (h 9) (rfind 7 (h 9) x (hS h) 0))) (by decide) (fun s hs => rs7c (fun s hs => rs7c (fun s hs => sH_row (by decide) hs) hs) hs) (fun s hs => by rw [rs7 hs, rs7 hs, sH_row7 hs])]
  rfl
theorem b20 : jE (d + 1) 20 0 [some (.inr (.inr (some (1, (0, i))))), some (.inl x)] [] (n, ([], sH M i h)) v σ' ↔ v = some (.inl (jb (hCanEng h x))) ∧ σ' = (n, ([], sH M i h)) := by
  simp only [c20, sH_g0, sH_g1, sH_g2, sH_g3, sH_g4, sH_g5, sH_g6, sH_g7, sH_g8, sH_g9, sH_p0, sH_p1, sH_p2, sH_p3, sH_p4, sH_p5, sH_p6, sH_p7, sH_p8, sH_p9, sH_s10, sH_s11, sH_s12, sH_s13, sH_s14, sH_s15, sH_u10, sH_u11, sH_u12, sH_u13, sH_u14, sH_u15]
theorem b21 : jE (d + 1) 21 0 [some (.inr (.inr (some (1, (0, i))))), some (.inl x)] [] (n, ([], sH M i h)) v σ' ↔ v = none ∧ σ' = (n, ([], sH M i (hEng h x))) := by
  simp only [c21, sH_g0, sH_g1, sH_g2, sH_g3, sH_g4, sH_g5, sH_g6, sH_g7, sH_g8, sH_g9, sH_p0, sH_p1, sH_p2, sH_p3, sH_p4, sH_p5, sH_p6, sH_p7, sH_p8, sH_p9, sH_s10, sH_s11, sH_s12, sH_s13, sH_s14, sH_s15, sH_u10, sH_u11, sH_u12, sH_u13, sH_u14, sH_u15]
  rfl
end JHF
