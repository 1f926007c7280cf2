/-! a house as one value -/
def sH (M : jM) (i : Nat) (h : Nat → Nat → Int32) : jM := fun k a s => if k = 12 ∧ a.2 = i ∧ a.1 < 10 ∧ s < 7 then h a.1 s else if k = 1 ∧ a = (0, i) ∧ (10 ≤ s ∧ s < 16) then h 10 s else M k a s
theorem sH_self (M : jM) (i : Nat) : sH M i (gH M i) = M := by
  funext k a s
  obtain ⟨f, j⟩ := a
  unfold sH gH
  by_cases h : k = 12 ∧ j = i ∧ f < 10 ∧ s < 7
  · rw [if_pos h, if_pos h.2.2.1, h.1, h.2.1]
  · rw [if_neg h]
    by_cases h2 : k = 1 ∧ (f, j) = (0, i) ∧ (10 ≤ s ∧ s < 16)
    · rw [if_pos h2, if_neg (by omega), h2.1, h2.2.1]
    · rw [if_neg h2]
/-- alike as houses -/
def hEq (h h' : Nat → Nat → Int32) : Prop := (∀ f, f < 10 → ∀ s, s < 7 → h f s = h' f s) ∧ ∀ s, 10 ≤ s → s < 16 → h 10 s = h' 10 s
theorem sH_ext {M : jM} {i : Nat} {h h' : Nat → Nat → Int32} (e : hEq h h') : sH M i h = sH M i h' := by
  funext k a s
  unfold sH
  by_cases h1 : k = 12 ∧ a.2 = i ∧ a.1 < 10 ∧ s < 7
  · rw [if_pos h1, if_pos h1]
    exact e.1 _ h1.2.2.1 _ h1.2.2.2
  · rw [if_neg h1, if_neg h1]
    by_cases h2 : k = 1 ∧ a = (0, i) ∧ (10 ≤ s ∧ s < 16)
    · rw [if_pos h2, if_pos h2]
      exact e.2 _ h2.2.2.1 h2.2.2.2
    · rw [if_neg h2, if_neg h2]
theorem sH_sH (M : jM) (i : Nat) (h h' : Nat → Nat → Int32) : sH (sH M i h) i h' = sH M i h' := by
  funext k a s
  unfold sH
  by_cases h1 : k = 12 ∧ a.2 = i ∧ a.1 < 10 ∧ s < 7
  · rw [if_pos h1, if_pos h1]
  · rw [if_neg h1, if_neg h1, if_neg h1]
    by_cases h2 : k = 1 ∧ a = (0, i) ∧ (10 ≤ s ∧ s < 16)
    · rw [if_pos h2, if_pos h2]
    · rw [if_neg h2, if_neg h2, if_neg h2]
theorem sH_row {M : jM} {i f s : Nat} {h : Nat → Nat → Int32} (hf : f < 10) (hs : s < 7) : sH M i h 12 (f, i) s = h f s := by
  unfold sH
  rw [if_pos ⟨rfl, rfl, hf, hs⟩]
theorem sH_row7 {M : jM} {i f s : Nat} {h : Nat → Nat → Int32} (hs : 7 ≤ s) : sH M i h 12 (f, i) s = M 12 (f, i) s := by
  unfold sH
  rw [if_neg (fun z => by have := z.2.2.2; omega), if_neg (fun z => by cases z.1)]
theorem sH_num {M : jM} {i s : Nat} {h : Nat → Nat → Int32} (h1 : 10 ≤ s) (h2 : s < 16) : sH M i h 1 (0, i) s = h 10 s := by
  unfold sH
  rw [if_neg (fun z => by cases z.1), if_pos ⟨rfl, rfl, h1, h2⟩]
theorem sH_other {M : jM} {i j : Nat} {h : Nat → Nat → Int32} (hj : j ≠ i) (k f : Nat) : sH M i h k (f, j) = M k (f, j) := by
  funext s
  unfold sH
  rw [if_neg (fun z => hj z.2.1), if_neg (fun z => hj (Prod.mk.inj z.2.1).2)]
theorem sH_k {M : jM} {i k : Nat} {h : Nat → Nat → Int32} (h1 : k ≠ 12) (h2 : k ≠ 1) : sH M i h k = M k := by
  funext a s
  unfold sH
  rw [if_neg (fun z => h1 z.1), if_neg (fun z => h2 z.1)]
theorem sH_N {M : jM} {i f q : Nat} {h : Nat → Nat → Int32} (hf : 10 ≤ f) : sH M i h 12 (f, q) = M 12 (f, q) := by
  funext s
  unfold sH
  rw [if_neg (fun z => by have := z.2.2.1; simp at this; omega), if_neg (fun z => by cases z.1)]
theorem sH_cells {M : jM} {i f : Nat} {h : Nat → Nat → Int32} {c c' : Nat → Int32} (hf : f < 10) (e : ∀ s, s < 7 → c s = c' s) (e7 : ∀ s, 7 ≤ s → c s = M 12 (f, i) s) : mC (sH M i h) (f, i) c = sH M i (nset h f c') := by
  funext k a s
  obtain ⟨g, j⟩ := a
  unfold mC
  by_cases h1 : k = 12 ∧ (g, j) = (f, i)
  · rw [if_pos h1]
    obtain ⟨h1, h2⟩ := h1
    obtain ⟨h2, h3⟩ := Prod.mk.inj h2
    subst h1; subst h2; subst h3
    by_cases hs : s < 7
    · rw [sH_row hf hs, nset_at, e s hs]
    · rw [sH_row7 (by omega), e7 s (by omega)]
  · rw [if_neg h1]
    unfold sH
    by_cases h2 : k = 12 ∧ j = i ∧ g < 10 ∧ s < 7
    · rw [if_pos h2, if_pos h2, nset_ne (fun z => h1 ⟨h2.1, by rw [h2.2.1]; exact congrArg (fun u => (u, i)) z⟩)]
    · rw [if_neg h2, if_neg h2]
      by_cases h3 : k = 1 ∧ (g, j) = (0, i) ∧ (10 ≤ s ∧ s < 16)
      · rw [if_pos h3, if_pos h3, nset_ne (by omega)]
      · rw [if_neg h3, if_neg h3]
theorem sH_up {M : jM} {i s : Nat} {h : Nat → Nat → Int32} {x : Int32} (h1 : 10 ≤ s) (h2 : s < 16) : jUp (sH M i h) 1 (0, i) s x = sH M i (nset h 10 (upd (h 10) s x)) := by
  funext k a s'
  unfold jUp
  by_cases h3 : k = 1 ∧ a = (0, i) ∧ s' = s
  · rw [if_pos h3]
    obtain ⟨rfl, rfl, rfl⟩ := h3
    rw [sH_num h1 h2, nset_at]
    unfold upd
    rw [if_pos rfl]
  · rw [if_neg h3]
    unfold sH
    by_cases h4 : k = 12 ∧ a.2 = i ∧ a.1 < 10 ∧ s' < 7
    · rw [if_pos h4, if_pos h4, nset_ne (by have := h4.2.2.1; omega)]
    · rw [if_neg h4, if_neg h4]
      by_cases h5 : k = 1 ∧ a = (0, i) ∧ (10 ≤ s' ∧ s' < 16)
      · rw [if_pos h5, if_pos h5, nset_at]
        unfold upd
        rw [if_neg (fun z => h3 ⟨h5.1, h5.2.1, z⟩)]
      · rw [if_neg h5, if_neg h5]
theorem gN_sH (M : jM) (i q : Nat) (h : Nat → Nat → Int32) : gN (sH M i h) q = gN M q := by
  funext f
  unfold gN
  by_cases e : f < 5
  · rw [if_pos e, if_pos e, sH_N (by omega)]
  · rw [if_neg e, if_neg e, sH_k (by decide) (by decide)]
theorem hEq_gH (M : jM) (i : Nat) (h : Nat → Nat → Int32) : hEq (gH (sH M i h) i) h := by
  refine ⟨fun f hf s hs => ?_, fun s h1 h2 => ?_⟩
  · show (if f < 10 then _ else _ : Nat → Int32) s = _
    rw [if_pos hf, sH_row hf hs]
  · exact sH_num h1 h2
theorem gH_other {M : jM} {i j : Nat} {h : Nat → Nat → Int32} (hj : j ≠ i) : gH (sH M i h) j = gH M j := by
  funext f
  unfold gH
  by_cases e : f < 10
  · rw [if_pos e, if_pos e, sH_other hj]
  · rw [if_neg e, if_neg e, sH_other hj]
theorem sH_g0 (M : jM) (i : Nat) (h : Nat → Nat → Int32) (x : Int32) : rg 7 (sH M i h 12 (0, i)) x = rg 7 (h 0) x := rg7 (fun _ hs => sH_row (by decide) hs) x
theorem sH_p0 (M : jM) (i : Nat) (h : Nat → Nat → Int32) (x y : Int32) : mC (sH M i h) (0, i) (rs 7 (sH M i h 12 (0, i)) x y) = sH M i (nset h 0 (rs 7 (h 0) x y)) := sH_cells (by decide) (fun _ hs => rs7c (fun _ hs => sH_row (by decide) hs) hs) (fun s hs => by rw [rs7 hs]; exact sH_row7 hs)
theorem sH_c0 (M : jM) (i : Nat) (h : Nat → Nat → Int32) (c : Nat → Int32) : mC (sH M i h) (0, i) (rfill 7 (sH M i h 12 (0, i)) c) = sH M i (nset h 0 c) := sH_cells (by decide) (fun s hs => if_pos hs) (fun s hs => by unfold rfill; rw [if_neg (by omega)]; exact sH_row7 hs)
theorem sH_g1 (M : jM) (i : Nat) (h : Nat → Nat → Int32) (x : Int32) : rg 7 (sH M i h 12 (1, i)) x = rg 7 (h 1) x := rg7 (fun _ hs => sH_row (by decide) hs) x
theorem sH_p1 (M : jM) (i : Nat) (h : Nat → Nat → Int32) (x y : Int32) : mC (sH M i h) (1, i) (rs 7 (sH M i h 12 (1, i)) x y) = sH M i (nset h 1 (rs 7 (h 1) x y)) := sH_cells (by decide) (fun _ hs => rs7c (fun _ hs => sH_row (by decide) hs) hs) (fun s hs => by rw [rs7 hs]; exact sH_row7 hs)
theorem sH_c1 (M : jM) (i : Nat) (h : Nat → Nat → Int32) (c : Nat → Int32) : mC (sH M i h) (1, i) (rfill 7 (sH M i h 12 (1, i)) c) = sH M i (nset h 1 c) := sH_cells (by decide) (fun s hs => if_pos hs) (fun s hs => by unfold rfill; rw [if_neg (by omega)]; exact sH_row7 hs)
theorem sH_g2 (M : jM) (i : Nat) (h : Nat → Nat → Int32) (x : Int32) : rg 7 (sH M i h 12 (2, i)) x = rg 7 (h 2) x := rg7 (fun _ hs => sH_row (by decide) hs) x
theorem sH_p2 (M : jM) (i : Nat) (h : Nat → Nat → Int32) (x y : Int32) : mC (sH M i h) (2, i) (rs 7 (sH M i h 12 (2, i)) x y) = sH M i (nset h 2 (rs 7 (h 2) x y)) := sH_cells (by decide) (fun _ hs => rs7c (fun _ hs => sH_row (by decide) hs) hs) (fun s hs => by rw [rs7 hs]; exact sH_row7 hs)
theorem sH_c2 (M : jM) (i : Nat) (h : Nat → Nat → Int32) (c : Nat → Int32) : mC (sH M i h) (2, i) (rfill 7 (sH M i h 12 (2, i)) c) = sH M i (nset h 2 c) := sH_cells (by decide) (fun s hs => if_pos hs) (fun s hs => by unfold rfill; rw [if_neg (by omega)]; exact sH_row7 hs)
theorem sH_g3 (M : jM) (i : Nat) (h : Nat → Nat → Int32) (x : Int32) : rg 7 (sH M i h 12 (3, i)) x = rg 7 (h 3) x := rg7 (fun _ hs => sH_row (by decide) hs) x
theorem sH_p3 (M : jM) (i : Nat) (h : Nat → Nat → Int32) (x y : Int32) : mC (sH M i h) (3, i) (rs 7 (sH M i h 12 (3, i)) x y) = sH M i (nset h 3 (rs 7 (h 3) x y)) := sH_cells (by decide) (fun _ hs => rs7c (fun _ hs => sH_row (by decide) hs) hs) (fun s hs => by rw [rs7 hs]; exact sH_row7 hs)
theorem sH_c3 (M : jM) (i : Nat) (h : Nat → Nat → Int32) (c : Nat → Int32) : mC (sH M i h) (3, i) (rfill 7 (sH M i h 12 (3, i)) c) = sH M i (nset h 3 c) := sH_cells (by decide) (fun s hs => if_pos hs) (fun s hs => by unfold rfill; rw [if_neg (by omega)]; exact sH_row7 hs)
theorem sH_g4 (M : jM) (i : Nat) (h : Nat → Nat → Int32) (x : Int32) : rg 7 (sH M i h 12 (4, i)) x = rg 7 (h 4) x := rg7 (fun _ hs => sH_row (by decide) hs) x
theorem sH_p4 (M : jM) (i : Nat) (h : Nat → Nat → Int32) (x y : Int32) : mC (sH M i h) (4, i) (rs 7 (sH M i h 12 (4, i)) x y) = sH M i (nset h 4 (rs 7 (h 4) x y)) := sH_cells (by decide) (fun _ hs => rs7c (fun _ hs => sH_row (by decide) hs) hs) (fun s hs => by rw [rs7 hs]; exact sH_row7 hs)
theorem sH_c4 (M : jM) (i : Nat) (h : Nat → Nat → Int32) (c : Nat → Int32) : mC (sH M i h) (4, i) (rfill 7 (sH M i h 12 (4, i)) c) = sH M i (nset h 4 c) := sH_cells (by decide) (fun s hs => if_pos hs) (fun s hs => by unfold rfill; rw [if_neg (by omega)]; exact sH_row7 hs)
theorem sH_g5 (M : jM) (i : Nat) (h : Nat → Nat → Int32) (x : Int32) : rg 7 (sH M i h 12 (5, i)) x = rg 7 (h 5) x := rg7 (fun _ hs => sH_row (by decide) hs) x
theorem sH_p5 (M : jM) (i : Nat) (h : Nat → Nat → Int32) (x y : Int32) : mC (sH M i h) (5, i) (rs 7 (sH M i h 12 (5, i)) x y) = sH M i (nset h 5 (rs 7 (h 5) x y)) := sH_cells (by decide) (fun _ hs => rs7c (fun _ hs => sH_row (by decide) hs) hs) (fun s hs => by rw [rs7 hs]; exact sH_row7 hs)
theorem sH_c5 (M : jM) (i : Nat) (h : Nat → Nat → Int32) (c : Nat → Int32) : mC (sH M i h) (5, i) (rfill 7 (sH M i h 12 (5, i)) c) = sH M i (nset h 5 c) := sH_cells (by decide) (fun s hs => if_pos hs) (fun s hs => by unfold rfill; rw [if_neg (by omega)]; exact sH_row7 hs)
theorem sH_g6 (M : jM) (i : Nat) (h : Nat → Nat → Int32) (x : Int32) : rg 7 (sH M i h 12 (6, i)) x = rg 7 (h 6) x := rg7 (fun _ hs => sH_row (by decide) hs) x
theorem sH_p6 (M : jM) (i : Nat) (h : Nat → Nat → Int32) (x y : Int32) : mC (sH M i h) (6, i) (rs 7 (sH M i h 12 (6, i)) x y) = sH M i (nset h 6 (rs 7 (h 6) x y)) := sH_cells (by decide) (fun _ hs => rs7c (fun _ hs => sH_row (by decide) hs) hs) (fun s hs => by rw [rs7 hs]; exact sH_row7 hs)
theorem sH_c6 (M : jM) (i : Nat) (h : Nat → Nat → Int32) (c : Nat → Int32) : mC (sH M i h) (6, i) (rfill 7 (sH M i h 12 (6, i)) c) = sH M i (nset h 6 c) := sH_cells (by decide) (fun s hs => if_pos hs) (fun s hs => by unfold rfill; rw [if_neg (by omega)]; exact sH_row7 hs)
theorem sH_g7 (M : jM) (i : Nat) (h : Nat → Nat → Int32) (x : Int32) : rg 7 (sH M i h 12 (7, i)) x = rg 7 (h 7) x := rg7 (fun _ hs => sH_row (by decide) hs) x
theorem sH_p7 (M : jM) (i : Nat) (h : Nat → Nat → Int32) (x y : Int32) : mC (sH M i h) (7, i) (rs 7 (sH M i h 12 (7, i)) x y) = sH M i (nset h 7 (rs 7 (h 7) x y)) := sH_cells (by decide) (fun _ hs => rs7c (fun _ hs => sH_row (by decide) hs) hs) (fun s hs => by rw [rs7 hs]; exact sH_row7 hs)
theorem sH_c7 (M : jM) (i : Nat) (h : Nat → Nat → Int32) (c : Nat → Int32) : mC (sH M i h) (7, i) (rfill 7 (sH M i h 12 (7, i)) c) = sH M i (nset h 7 c) := sH_cells (by decide) (fun s hs => if_pos hs) (fun s hs => by unfold rfill; rw [if_neg (by omega)]; exact sH_row7 hs)
theorem sH_g8 (M : jM) (i : Nat) (h : Nat → Nat → Int32) (x : Int32) : rg 7 (sH M i h 12 (8, i)) x = rg 7 (h 8) x := rg7 (fun _ hs => sH_row (by decide) hs) x
theorem sH_p8 (M : jM) (i : Nat) (h : Nat → Nat → Int32) (x y : Int32) : mC (sH M i h) (8, i) (rs 7 (sH M i h 12 (8, i)) x y) = sH M i (nset h 8 (rs 7 (h 8) x y)) := sH_cells (by decide) (fun _ hs => rs7c (fun _ hs => sH_row (by decide) hs) hs) (fun s hs => by rw [rs7 hs]; exact sH_row7 hs)
theorem sH_c8 (M : jM) (i : Nat) (h : Nat → Nat → Int32) (c : Nat → Int32) : mC (sH M i h) (8, i) (rfill 7 (sH M i h 12 (8, i)) c) = sH M i (nset h 8 c) := sH_cells (by decide) (fun s hs => if_pos hs) (fun s hs => by unfold rfill; rw [if_neg (by omega)]; exact sH_row7 hs)
theorem sH_g9 (M : jM) (i : Nat) (h : Nat → Nat → Int32) (x : Int32) : rg 7 (sH M i h 12 (9, i)) x = rg 7 (h 9) x := rg7 (fun _ hs => sH_row (by decide) hs) x
theorem sH_p9 (M : jM) (i : Nat) (h : Nat → Nat → Int32) (x y : Int32) : mC (sH M i h) (9, i) (rs 7 (sH M i h 12 (9, i)) x y) = sH M i (nset h 9 (rs 7 (h 9) x y)) := sH_cells (by decide) (fun _ hs => rs7c (fun _ hs => sH_row (by decide) hs) hs) (fun s hs => by rw [rs7 hs]; exact sH_row7 hs)
theorem sH_c9 (M : jM) (i : Nat) (h : Nat → Nat → Int32) (c : Nat → Int32) : mC (sH M i h) (9, i) (rfill 7 (sH M i h 12 (9, i)) c) = sH M i (nset h 9 c) := sH_cells (by decide) (fun s hs => if_pos hs) (fun s hs => by unfold rfill; rw [if_neg (by omega)]; exact sH_row7 hs)
theorem sH_s10 (M : jM) (i : Nat) (h : Nat → Nat → Int32) : sH M i h 1 (0, i) 10 = h 10 10 := sH_num (by decide) (by decide)
theorem sH_u10 (M : jM) (i : Nat) (h : Nat → Nat → Int32) (x : Int32) : jUp (sH M i h) 1 (0, i) 10 x = sH M i (nset h 10 (upd (h 10) 10 x)) := sH_up (by decide) (by decide)
theorem sH_s11 (M : jM) (i : Nat) (h : Nat → Nat → Int32) : sH M i h 1 (0, i) 11 = h 10 11 := sH_num (by decide) (by decide)
theorem sH_u11 (M : jM) (i : Nat) (h : Nat → Nat → Int32) (x : Int32) : jUp (sH M i h) 1 (0, i) 11 x = sH M i (nset h 10 (upd (h 10) 11 x)) := sH_up (by decide) (by decide)
theorem sH_s12 (M : jM) (i : Nat) (h : Nat → Nat → Int32) : sH M i h 1 (0, i) 12 = h 10 12 := sH_num (by decide) (by decide)
theorem sH_u12 (M : jM) (i : Nat) (h : Nat → Nat → Int32) (x : Int32) : jUp (sH M i h) 1 (0, i) 12 x = sH M i (nset h 10 (upd (h 10) 12 x)) := sH_up (by decide) (by decide)
theorem sH_s13 (M : jM) (i : Nat) (h : Nat → Nat → Int32) : sH M i h 1 (0, i) 13 = h 10 13 := sH_num (by decide) (by decide)
theorem sH_u13 (M : jM) (i : Nat) (h : Nat → Nat → Int32) (x : Int32) : jUp (sH M i h) 1 (0, i) 13 x = sH M i (nset h 10 (upd (h 10) 13 x)) := sH_up (by decide) (by decide)
theorem sH_s14 (M : jM) (i : Nat) (h : Nat → Nat → Int32) : sH M i h 1 (0, i) 14 = h 10 14 := sH_num (by decide) (by decide)
theorem sH_u14 (M : jM) (i : Nat) (h : Nat → Nat → Int32) (x : Int32) : jUp (sH M i h) 1 (0, i) 14 x = sH M i (nset h 10 (upd (h 10) 14 x)) := sH_up (by decide) (by decide)
theorem sH_s15 (M : jM) (i : Nat) (h : Nat → Nat → Int32) : sH M i h 1 (0, i) 15 = h 10 15 := sH_num (by decide) (by decide)
theorem sH_u15 (M : jM) (i : Nat) (h : Nat → Nat → Int32) (x : Int32) : jUp (sH M i h) 1 (0, i) 15 x = sH M i (nset h 10 (upd (h 10) 15 x)) := sH_up (by decide) (by decide)
section JH2
variable {d n i : Nat} {v : Option jV} {σ' : jS} {M : jM} {x y z : Int32}
set_option maxHeartbeats 1000000 in
/-- House.copy -/
theorem c9 {j : Nat} (hj : j ≠ i) : jE (d + 1) 9 0 [some (.inr (.inr (some (1, (0, i))))), some (.inr (.inr (some (1, (0, j)))))] [] (n, ([], M)) v σ' ↔ v = none ∧ σ' = (n, ([], sH M i (gH M j))) := by
  have h : jE (d + 1) 9 0 [some (.inr (.inr (some (1, (0, i))))), some (.inr (.inr (some (1, (0, j)))))] [] (n, ([], sH M i (gH M i))) v σ' ↔ v = none ∧ σ' = (n, ([], sH M i (gH M j))) := by
    simp only [s9_0, s9_1, s9_4, s9_5, s9_8, s9_11, s9_12, s9_15, s9_16, s9_19, s9_22, s9_23, s9_26, s9_27, s9_30, s9_33, s9_34, s9_37, s9_38, s9_41, s9_44, s9_45, s9_48, s9_49, s9_52, s9_55, s9_56, s9_59, s9_60, s9_63, s9_66, s9_67, s9_70, s9_71, s9_74, s9_77, s9_78, s9_81, s9_82, s9_85, s9_88, s9_89, s9_92, s9_93, s9_96, s9_99, s9_100, s9_103, s9_104, s9_107, s9_110, s9_111, s9_112, s9_115, s9_118, s9_119, s9_120, s9_123, s9_126, s9_127, s9_128, s9_131, s9_134, s9_135, s9_136, s9_139, s9_142, s9_143, s9_144, s9_147, s9_150, s9_151, s9_152, s9_155, s9_158, c67 (show jLen 12 (0, j) = jLen 12 (0, i) from rfl), c67 (show jLen 12 (1, j) = jLen 12 (1, i) from rfl), c67 (show jLen 12 (2, j) = jLen 12 (2, i) from rfl), c67 (show jLen 12 (3, j) = jLen 12 (3, i) from rfl), c67 (show jLen 12 (4, j) = jLen 12 (4, i) from rfl), c67 (show jLen 12 (5, j) = jLen 12 (5, i) from rfl), c67 (show jLen 12 (6, j) = jLen 12 (6, i) from rfl), c67 (show jLen 12 (7, j) = jLen 12 (7, i) from rfl), c67 (show jLen 12 (8, j) = jLen 12 (8, i) from rfl), c67 (show jLen 12 (9, j) = jLen 12 (9, i) from rfl), jcall_eq, Option.toList_some, Option.toList_none, List.cons_append, List.nil_append, jl_0, jl_1, jl_2, jl_3, jl_4, jl_5, jl_6, jl_7, jl_8, jl_9, jl_16, jl_17, jl_18, jl_19, jl_20, sH_c0, sH_c1, sH_c2, sH_c3, sH_c4, sH_c5, sH_c6, sH_c7, sH_c8, sH_c9, sH_u10, sH_u11, sH_u12, sH_u13, sH_u14, sH_u15, sH_other hj, nset_at]
    rw [sH_ext (h' := gH M j)]
    refine ⟨fun f hf s hs => ?_, fun s h1 h2 => ?_⟩
    · rcases (show f = 0 ∨ f = 1 ∨ f = 2 ∨ f = 3 ∨ f = 4 ∨ f = 5 ∨ f = 6 ∨ f = 7 ∨ f = 8 ∨ f = 9 by omega) with rfl | rfl | rfl | rfl | rfl | rfl | rfl | rfl | rfl | rfl <;> rfl
    · rcases (show s = 10 ∨ s = 11 ∨ s = 12 ∨ s = 13 ∨ s = 14 ∨ s = 15 by omega) with rfl | rfl | rfl | rfl | rfl | rfl <;> rfl
  rw [sH_self] at h
  exact h
/-- a house told anew -/
def hNew (h : Nat → Nat → Int32) : Nat → Nat → Int32 := fun f s => if f = 3 then 0 else if f = 8 then 0 else if f = 9 then jn s else if f = 10 then (if s = 13 then 20 else 0) else h f s
/-- House.empty -/
theorem c8 : jE (d + 2) 8 0 [some (.inr (.inr (some (1, (0, i)))))] [] (n, ([], M)) v σ' ↔ v = none ∧ σ' = (n, ([], sH M i (hNew (gH M i)))) := by
  have h : jE (d + 2) 8 0 [some (.inr (.inr (some (1, (0, i)))))] [] (n, ([], sH M i (gH M i))) v σ' ↔ v = none ∧ σ' = (n, ([], sH M i (hNew (gH M i)))) := by
    simp only [s8_0, s8_1, s8_4, s8_7, s8_8, s8_11, s8_14, s8_15, s8_18, s8_21, s8_22, s8_23, s8_26, s8_27, s8_28, s8_31, s8_32, s8_33, s8_36, s8_37, s8_39, s8_42, s8_43, s8_44, s8_47, s8_48, s8_49, s8_52, c65, c66, jcall_eq, Option.toList_some, Option.toList_none, List.cons_append, List.nil_append, jl_0, jl_1, jl_2, jl_3, jl_4, jl_5, jl_6, jl_7, jl_8, jl_9, jl_16, jl_17, jl_18, jl_19, jl_20, sH_c0, sH_c1, sH_c2, sH_c3, sH_c4, sH_c5, sH_c6, sH_c7, sH_c8, sH_c9, sH_u10, sH_u11, sH_u12, sH_u13, sH_u14, sH_u15, nset_at]
    rw [sH_ext (h' := hNew (gH M i))]
    refine ⟨fun f hf s hs => ?_, fun s h1 h2 => ?_⟩
    · rcases (show f = 0 ∨ f = 1 ∨ f = 2 ∨ f = 3 ∨ f = 4 ∨ f = 5 ∨ f = 6 ∨ f = 7 ∨ f = 8 ∨ f = 9 by omega) with rfl | rfl | rfl | rfl | rfl | rfl | rfl | rfl | rfl | rfl <;> rfl
    · rcases (show s = 10 ∨ s = 11 ∨ s = 12 ∨ s = 13 ∨ s = 14 ∨ s = 15 by omega) with rfl | rfl | rfl | rfl | rfl | rfl <;> rfl
  rw [sH_self] at h
  exact h
end JH2
