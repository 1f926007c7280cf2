/-! a night: its numbers as one value, the house that it reads as another -/
/-- a house's rows (0..9) and its own numbers (10: by slot) -/
def gH (M : jM) (i : Nat) : Nat → Nat → Int32 := fun f => if f < 10 then M 12 (f, i) else M 1 (0, i)
/-- a night's rows (0 boredom, 1 left, 2 asleep, 3 seen, 4 emptyPlaces), and how many are gone (5) -/
def gN (M : jM) (q : Nat) : Nat → Nat → Int32 := fun f => if f < 5 then M 12 (16 + f, q) else fun _ => M 4 (0, q) 5
def sN (M : jM) (q : Nat) (nv : Nat → Nat → Int32) : jM := fun k a s => if k = 12 ∧ a.2 = q ∧ (16 ≤ a.1 ∧ a.1 < 21) ∧ s < 7 then nv (a.1 - 16) s else if k = 4 ∧ a = (0, q) ∧ s = 5 then nv 5 0 else M k a s
def nset (nv : Nat → Nat → Int32) (f : Nat) (c : Nat → Int32) : Nat → Nat → Int32 := fun f' => if f' = f then c else nv f'
theorem nset_at (nv : Nat → Nat → Int32) (f : Nat) (c : Nat → Int32) : nset nv f c f = c := if_pos rfl
theorem nset_ne {nv : Nat → Nat → Int32} {f f' : Nat} {c : Nat → Int32} (h : f' ≠ f) : nset nv f c f' = nv f' := if_neg h
theorem sN_self (M : jM) (q : Nat) : sN M q (gN M q) = M := by
  funext k a s
  obtain ⟨f, j⟩ := a
  unfold sN gN
  by_cases h : k = 12 ∧ j = q ∧ (16 ≤ f ∧ f < 21) ∧ s < 7
  · rw [if_pos h, if_pos (by omega), h.1, h.2.1, show 16 + (f - 16) = f by omega]
  · rw [if_neg h]
    by_cases h2 : k = 4 ∧ (f, j) = (0, q) ∧ s = 5
    · rw [if_pos h2, if_neg (by omega), h2.1, h2.2.1, h2.2.2]
    · rw [if_neg h2]
theorem sN_ext {M : jM} {q : Nat} {nv nv' : Nat → Nat → Int32} (h : ∀ f, f < 5 → ∀ s, s < 7 → nv f s = nv' f s) (h5 : nv 5 0 = nv' 5 0) : sN M q nv = sN M q nv' := by
  funext k a s
  unfold sN
  by_cases h1 : k = 12 ∧ a.2 = q ∧ (16 ≤ a.1 ∧ a.1 < 21) ∧ s < 7
  · rw [if_pos h1, if_pos h1]
    exact h _ (by omega) _ h1.2.2.2
  · rw [if_neg h1, if_neg h1, h5]
theorem sN_H (M : jM) (q : Nat) (nv : Nat → Nat → Int32) {f i : Nat} (h : f < 16) : sN M q nv 12 (f, i) = M 12 (f, i) := by
  funext s
  unfold sN
  rw [if_neg (fun z => by have := z.2.2.1.1; simp at this; omega), if_neg (fun z => by cases z.1)]
theorem sN_k (M : jM) (q : Nat) (nv : Nat → Nat → Int32) {k : Nat} (h : k ≠ 12) (h4 : k ≠ 4) : sN M q nv k = M k := by
  funext a s
  unfold sN
  rw [if_neg (fun z => h z.1), if_neg (fun z => h4 z.1)]
theorem sN_gone (M : jM) (q : Nat) (nv : Nat → Nat → Int32) : sN M q nv 4 (0, q) 5 = nv 5 0 := by
  unfold sN
  rw [if_neg (fun z => by cases z.1), if_pos ⟨rfl, rfl, rfl⟩]
theorem sN_other {M : jM} {q q' : Nat} {nv : Nat → Nat → Int32} (h : q' ≠ q) (k f : Nat) : sN M q nv k (f, q') = M k (f, q') := by
  funext s
  unfold sN
  rw [if_neg (fun z => h z.2.1), if_neg (fun z => h (Prod.mk.inj z.2.1).2)]
theorem gH_sN (M : jM) (q i : Nat) (nv : Nat → Nat → Int32) : gH (sN M q nv) i = gH M i := by
  funext f
  unfold gH
  by_cases h : f < 10
  · rw [if_pos h, if_pos h, sN_H M q nv (by omega)]
  · rw [if_neg h, if_neg h, sN_k M q nv (by decide) (by decide)]
theorem sN_sN (M : jM) (q : Nat) (nv nv' : Nat → Nat → Int32) : sN (sN M q nv) q nv' = sN M q nv' := by
  funext k a s
  unfold sN
  by_cases h1 : k = 12 ∧ a.2 = q ∧ (16 ≤ a.1 ∧ a.1 < 21) ∧ s < 7
  · rw [if_pos h1, if_pos h1]
  · rw [if_neg h1, if_neg h1, if_neg h1]
    by_cases h2 : k = 4 ∧ a = (0, q) ∧ s = 5
    · rw [if_pos h2, if_pos h2]
    · rw [if_neg h2, if_neg h2, if_neg h2]
theorem rg7 {c c' : Nat → Int32} (h : ∀ s, s < 7 → c s = c' s) (x : Int32) : rg 7 c x = rg 7 c' x := by
  unfold rg
  by_cases h1 : x < 0
  · rw [if_pos h1, if_pos h1]
  · rw [if_neg h1, if_neg h1]
    by_cases h2 : jn 7 ≤ x
    · rw [if_pos h2, if_pos h2]
    · rw [if_neg h2, if_neg h2]
      apply h
      rw [← jx_of (Int32.not_lt.mp h1), jn_le (by omega) (jx_lt x)] at h2
      omega
theorem rs7 {c : Nat → Int32} {x y : Int32} {s : Nat} (h : 7 ≤ s) : rs 7 c x y s = c s := by
  unfold rs
  by_cases h1 : x < 0
  · rw [if_pos h1]
  · rw [if_neg h1]
    by_cases h2 : jn 7 ≤ x
    · rw [if_pos h2]
    · rw [if_neg h2]
      rw [← jx_of (Int32.not_lt.mp h1), jn_le (by omega) (jx_lt x)] at h2
      unfold upd
      rw [if_neg (by omega)]
theorem rs7c {c c' : Nat → Int32} (h : ∀ s, s < 7 → c s = c' s) {x y : Int32} {s : Nat} (hs : s < 7) : rs 7 c x y s = rs 7 c' x y s := by
  unfold rs
  by_cases h1 : x < 0
  · rw [if_pos h1, if_pos h1, h s hs]
  · rw [if_neg h1, if_neg h1]
    by_cases h2 : jn 7 ≤ x
    · rw [if_pos h2, if_pos h2, h s hs]
    · rw [if_neg h2, if_neg h2]
      unfold upd
      by_cases h3 : s = x.toNatClampNeg
      · rw [if_pos h3, if_pos h3]
      · rw [if_neg h3, if_neg h3, h s hs]
theorem sN_row {M : jM} {q f s : Nat} {nv : Nat → Nat → Int32} (hf : f < 5) (hs : s < 7) : sN M q nv 12 (16 + f, q) s = nv f s := by
  unfold sN
  rw [if_pos ⟨rfl, rfl, ⟨by simp, by simp; omega⟩, hs⟩]
  simp
theorem sN_row7 {M : jM} {q f s : Nat} {nv : Nat → Nat → Int32} (hs : 7 ≤ s) : sN M q nv 12 (16 + f, q) s = M 12 (16 + f, q) s := by
  unfold sN
  rw [if_neg (fun z => by have := z.2.2.2; omega), if_neg (fun z => by cases z.1)]
theorem sN_cells {M : jM} {q f : Nat} {nv : Nat → Nat → Int32} {c c' : Nat → Int32} (hf : f < 5) (h : ∀ s, s < 7 → c s = c' s) (h7 : ∀ s, 7 ≤ s → c s = M 12 (16 + f, q) s) : mC (sN M q nv) (16 + f, q) c = sN M q (nset nv f c') := by
  funext k a s
  obtain ⟨g, j⟩ := a
  unfold mC
  by_cases h1 : k = 12 ∧ (g, j) = (16 + f, q)
  · rw [if_pos h1]
    obtain ⟨h1, h2⟩ := h1
    obtain ⟨h2, h3⟩ := Prod.mk.inj h2
    subst h1; subst h2; subst h3
    by_cases hs : s < 7
    · rw [sN_row hf hs, nset_at, h s hs]
    · rw [sN_row7 (by omega), h7 s (by omega)]
  · rw [if_neg h1]
    unfold sN
    by_cases h2 : k = 12 ∧ j = q ∧ (16 ≤ g ∧ g < 21) ∧ s < 7
    · rw [if_pos h2, if_pos h2, nset_ne (fun z => h1 ⟨h2.1, by rw [h2.2.1, show g = 16 + f by have := h2.2.2.1.1; simp at z; omega]⟩)]
    · rw [if_neg h2, if_neg h2]
      by_cases h3 : k = 4 ∧ (g, j) = (0, q) ∧ s = 5
      · rw [if_pos h3, if_pos h3, nset_ne (by omega)]
      · rw [if_neg h3, if_neg h3]
theorem sN_up {M : jM} {q : Nat} {nv : Nat → Nat → Int32} {x : Int32} : jUp (sN M q nv) 4 (0, q) 5 x = sN M q (nset nv 5 (fun _ => x)) := by
  funext k a s
  unfold jUp
  by_cases h1 : k = 4 ∧ a = (0, q) ∧ s = 5
  · rw [if_pos h1]
    obtain ⟨rfl, rfl, rfl⟩ := h1
    rw [sN_gone, nset_at]
  · rw [if_neg h1]
    unfold sN
    by_cases h2 : k = 12 ∧ a.2 = q ∧ (16 ≤ a.1 ∧ a.1 < 21) ∧ s < 7
    · rw [if_pos h2, if_pos h2, nset_ne (by have := h2.2.2.1; omega)]
    · rw [if_neg h2, if_neg h2, if_neg h1, if_neg h1]

theorem sN_g0 (M : jM) (q : Nat) (nv : Nat → Nat → Int32) (x : Int32) : rg 7 (sN M q nv 12 (16, q)) x = rg 7 (nv 0) x := rg7 (fun _ hs => sN_row (f := 0) (by decide) hs) x
theorem sN_p0 (M : jM) (q : Nat) (nv : Nat → Nat → Int32) (x y : Int32) : mC (sN M q nv) (16, q) (rs 7 (sN M q nv 12 (16, q)) x y) = sN M q (nset nv 0 (rs 7 (nv 0) x y)) := sN_cells (f := 0) (by decide) (fun _ hs => rs7c (fun _ hs => sN_row (f := 0) (by decide) hs) hs) (fun s hs => by rw [rs7 hs]; exact sN_row7 (f := 0) hs)
theorem sN_c0 (M : jM) (q : Nat) (nv : Nat → Nat → Int32) (c : Nat → Int32) : mC (sN M q nv) (16, q) (rfill 7 (sN M q nv 12 (16, q)) c) = sN M q (nset nv 0 c) := sN_cells (f := 0) (by decide) (fun s hs => if_pos hs) (fun s hs => by unfold rfill; rw [if_neg (by omega)]; exact sN_row7 (f := 0) hs)
theorem sN_g1 (M : jM) (q : Nat) (nv : Nat → Nat → Int32) (x : Int32) : rg 7 (sN M q nv 12 (17, q)) x = rg 7 (nv 1) x := rg7 (fun _ hs => sN_row (f := 1) (by decide) hs) x
theorem sN_p1 (M : jM) (q : Nat) (nv : Nat → Nat → Int32) (x y : Int32) : mC (sN M q nv) (17, q) (rs 7 (sN M q nv 12 (17, q)) x y) = sN M q (nset nv 1 (rs 7 (nv 1) x y)) := sN_cells (f := 1) (by decide) (fun _ hs => rs7c (fun _ hs => sN_row (f := 1) (by decide) hs) hs) (fun s hs => by rw [rs7 hs]; exact sN_row7 (f := 1) hs)
theorem sN_c1 (M : jM) (q : Nat) (nv : Nat → Nat → Int32) (c : Nat → Int32) : mC (sN M q nv) (17, q) (rfill 7 (sN M q nv 12 (17, q)) c) = sN M q (nset nv 1 c) := sN_cells (f := 1) (by decide) (fun s hs => if_pos hs) (fun s hs => by unfold rfill; rw [if_neg (by omega)]; exact sN_row7 (f := 1) hs)
theorem sN_g2 (M : jM) (q : Nat) (nv : Nat → Nat → Int32) (x : Int32) : rg 7 (sN M q nv 12 (18, q)) x = rg 7 (nv 2) x := rg7 (fun _ hs => sN_row (f := 2) (by decide) hs) x
theorem sN_p2 (M : jM) (q : Nat) (nv : Nat → Nat → Int32) (x y : Int32) : mC (sN M q nv) (18, q) (rs 7 (sN M q nv 12 (18, q)) x y) = sN M q (nset nv 2 (rs 7 (nv 2) x y)) := sN_cells (f := 2) (by decide) (fun _ hs => rs7c (fun _ hs => sN_row (f := 2) (by decide) hs) hs) (fun s hs => by rw [rs7 hs]; exact sN_row7 (f := 2) hs)
theorem sN_c2 (M : jM) (q : Nat) (nv : Nat → Nat → Int32) (c : Nat → Int32) : mC (sN M q nv) (18, q) (rfill 7 (sN M q nv 12 (18, q)) c) = sN M q (nset nv 2 c) := sN_cells (f := 2) (by decide) (fun s hs => if_pos hs) (fun s hs => by unfold rfill; rw [if_neg (by omega)]; exact sN_row7 (f := 2) hs)
theorem sN_g3 (M : jM) (q : Nat) (nv : Nat → Nat → Int32) (x : Int32) : rg 7 (sN M q nv 12 (19, q)) x = rg 7 (nv 3) x := rg7 (fun _ hs => sN_row (f := 3) (by decide) hs) x
theorem sN_p3 (M : jM) (q : Nat) (nv : Nat → Nat → Int32) (x y : Int32) : mC (sN M q nv) (19, q) (rs 7 (sN M q nv 12 (19, q)) x y) = sN M q (nset nv 3 (rs 7 (nv 3) x y)) := sN_cells (f := 3) (by decide) (fun _ hs => rs7c (fun _ hs => sN_row (f := 3) (by decide) hs) hs) (fun s hs => by rw [rs7 hs]; exact sN_row7 (f := 3) hs)
theorem sN_c3 (M : jM) (q : Nat) (nv : Nat → Nat → Int32) (c : Nat → Int32) : mC (sN M q nv) (19, q) (rfill 7 (sN M q nv 12 (19, q)) c) = sN M q (nset nv 3 c) := sN_cells (f := 3) (by decide) (fun s hs => if_pos hs) (fun s hs => by unfold rfill; rw [if_neg (by omega)]; exact sN_row7 (f := 3) hs)
theorem sN_g4 (M : jM) (q : Nat) (nv : Nat → Nat → Int32) (x : Int32) : rg 7 (sN M q nv 12 (20, q)) x = rg 7 (nv 4) x := rg7 (fun _ hs => sN_row (f := 4) (by decide) hs) x
theorem sN_p4 (M : jM) (q : Nat) (nv : Nat → Nat → Int32) (x y : Int32) : mC (sN M q nv) (20, q) (rs 7 (sN M q nv 12 (20, q)) x y) = sN M q (nset nv 4 (rs 7 (nv 4) x y)) := sN_cells (f := 4) (by decide) (fun _ hs => rs7c (fun _ hs => sN_row (f := 4) (by decide) hs) hs) (fun s hs => by rw [rs7 hs]; exact sN_row7 (f := 4) hs)
theorem sN_c4 (M : jM) (q : Nat) (nv : Nat → Nat → Int32) (c : Nat → Int32) : mC (sN M q nv) (20, q) (rfill 7 (sN M q nv 12 (20, q)) c) = sN M q (nset nv 4 c) := sN_cells (f := 4) (by decide) (fun s hs => if_pos hs) (fun s hs => by unfold rfill; rw [if_neg (by omega)]; exact sN_row7 (f := 4) hs)
theorem sN_h0 (M : jM) (q i : Nat) (nv : Nat → Nat → Int32) : sN M q nv 12 (0, i) = M 12 (0, i) := sN_H M q nv (by decide)
theorem sN_h1 (M : jM) (q i : Nat) (nv : Nat → Nat → Int32) : sN M q nv 12 (1, i) = M 12 (1, i) := sN_H M q nv (by decide)
theorem sN_h2 (M : jM) (q i : Nat) (nv : Nat → Nat → Int32) : sN M q nv 12 (2, i) = M 12 (2, i) := sN_H M q nv (by decide)
theorem sN_h3 (M : jM) (q i : Nat) (nv : Nat → Nat → Int32) : sN M q nv 12 (3, i) = M 12 (3, i) := sN_H M q nv (by decide)
theorem sN_h4 (M : jM) (q i : Nat) (nv : Nat → Nat → Int32) : sN M q nv 12 (4, i) = M 12 (4, i) := sN_H M q nv (by decide)
theorem sN_h5 (M : jM) (q i : Nat) (nv : Nat → Nat → Int32) : sN M q nv 12 (5, i) = M 12 (5, i) := sN_H M q nv (by decide)
theorem sN_h6 (M : jM) (q i : Nat) (nv : Nat → Nat → Int32) : sN M q nv 12 (6, i) = M 12 (6, i) := sN_H M q nv (by decide)
theorem sN_h7 (M : jM) (q i : Nat) (nv : Nat → Nat → Int32) : sN M q nv 12 (7, i) = M 12 (7, i) := sN_H M q nv (by decide)
theorem sN_h8 (M : jM) (q i : Nat) (nv : Nat → Nat → Int32) : sN M q nv 12 (8, i) = M 12 (8, i) := sN_H M q nv (by decide)
theorem sN_h9 (M : jM) (q i : Nat) (nv : Nat → Nat → Int32) : sN M q nv 12 (9, i) = M 12 (9, i) := sN_H M q nv (by decide)
theorem sN_1 (M : jM) (q : Nat) (nv : Nat → Nat → Int32) : sN M q nv 1 = M 1 := sN_k M q nv (by decide) (by decide)
/-- a counted loop's steps, from k on -/
def jfor {α : Type} (f : Nat → α → α) : Nat → Nat → α → α
  | 0, _, x => x
  | m + 1, k, x => jfor f m (k + 1) (f k x)
def jmax (x y : Int32) : Int32 := if x < y then y else x
def jmin (x y : Int32) : Int32 := if y < x then y else x
section JN
variable {d n i q : Nat} {v : Option jV} {σ' : jS} {M : jM} {x y z : Int32} {nv : Nat → Nat → Int32}
/-- Night.begin -/
theorem c39 : jE (d + 2) 39 0 [some (.inr (.inr (some (4, (0, q)))))] [] (n, ([], M)) v σ' ↔ v = none ∧ σ' = (n, ([], sN M q (fun _ _ => 0))) := by
  have key : sN M q (nset (nset (nset (nset (nset (nset (gN M q) 0 (fun _ => 0)) 1 (fun _ => 0)) 2 (fun _ => 0)) 3 (fun _ => 0)) 4 (fun _ => 0)) 5 (fun _ => 0)) = sN M q (fun _ _ => 0) := by
    refine sN_ext (fun f hf s hs => ?_) rfl
    rcases (show f = 0 ∨ f = 1 ∨ f = 2 ∨ f = 3 ∨ f = 4 by omega) with rfl | rfl | rfl | rfl | rfl <;> rfl
  have h : jE (d + 2) 39 0 [some (.inr (.inr (some (4, (0, q)))))] [] (n, ([], sN M q (gN M q))) v σ' ↔ v = none ∧ σ' = (n, ([], sN M q (fun _ _ => 0))) := by
    simp only [s39_0, s39_1, s39_4, s39_7, s39_8, s39_11, s39_14, s39_15, s39_18, s39_21, s39_22, s39_25, s39_28, s39_29, s39_32, s39_35, s39_36, s39_37, s39_40, c65, jcall_eq, Option.toList_some, Option.toList_none, List.cons_append, List.nil_append, jl_0, jl_1, jl_2, jl_3, jl_4, jl_5, jl_6, jl_7, jl_8, jl_9, jl_16, jl_17, jl_18, jl_19, jl_20, sN_c0, sN_c1, sN_c2, sN_c3, sN_c4, sN_up, key]
  rw [sN_self] at h
  exact h
/-- Night.copy -/
theorem c40 {q' : Nat} (hq : q' ≠ q) : jE (d + 1) 40 0 [some (.inr (.inr (some (4, (0, q))))), some (.inr (.inr (some (4, (0, q')))))] [] (n, ([], M)) v σ' ↔ v = none ∧ σ' = (n, ([], sN M q (gN M q'))) := by
  have key : sN M q (nset (nset (nset (nset (nset (nset (gN M q) 0 (M 12 (16, q'))) 1 (M 12 (17, q'))) 2 (M 12 (18, q'))) 3 (M 12 (19, q'))) 4 (M 12 (20, q'))) 5 (fun _ => M 4 (0, q') 5)) = sN M q (gN M q') := by
    refine sN_ext (fun f hf s hs => ?_) rfl
    rcases (show f = 0 ∨ f = 1 ∨ f = 2 ∨ f = 3 ∨ f = 4 by omega) with rfl | rfl | rfl | rfl | rfl <;> rfl
  have h : jE (d + 1) 40 0 [some (.inr (.inr (some (4, (0, q))))), some (.inr (.inr (some (4, (0, q')))))] [] (n, ([], sN M q (gN M q))) v σ' ↔ v = none ∧ σ' = (n, ([], sN M q (gN M q'))) := by
    simp only [s40_0, s40_1, s40_4, s40_5, s40_8, s40_11, s40_12, s40_15, s40_16, s40_19, s40_22, s40_23, s40_26, s40_27, s40_30, s40_33, s40_34, s40_37, s40_38, s40_41, s40_44, s40_45, s40_48, s40_49, s40_52, s40_55, s40_56, s40_57, s40_60, s40_63, c67 (show jLen 12 (16, q') = jLen 12 (16, q) from rfl), c67 (show jLen 12 (17, q') = jLen 12 (17, q) from rfl), c67 (show jLen 12 (18, q') = jLen 12 (18, q) from rfl), c67 (show jLen 12 (19, q') = jLen 12 (19, q) from rfl), c67 (show jLen 12 (20, q') = jLen 12 (20, q) from rfl), jcall_eq, Option.toList_some, Option.toList_none, List.cons_append, List.nil_append, jl_0, jl_1, jl_2, jl_3, jl_4, jl_5, jl_6, jl_7, jl_8, jl_9, jl_16, jl_17, jl_18, jl_19, jl_20, sN_c0, sN_c1, sN_c2, sN_c3, sN_c4, sN_up, sN_other hq, key]
  rw [sN_self] at h
  exact h
end JN
