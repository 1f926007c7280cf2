/-! all lines, one behind the other: at most 5040 -/
def dg (code i : Nat) : Nat := code / 8 ^ i % 8
def lowN (c : Nat → Nat) : Nat → Nat
  | 0 => 0
  | l + 1 => if c (l + 1) < c l then lowN c l else l + 1
def highN (c : Nat → Nat) (lo : Nat) : Nat → Nat
  | 0 => 0
  | h + 1 => if lo < h + 1 ∧ c (h + 1) < c lo then highN c lo h else h + 1
def swpN (c : Nat → Nat) (i j : Nat) : Nat → Nat := fun k => if k = j then c i else if k = i then c j else c k
def revN : Nat → Nat → Nat → (Nat → Nat) → (Nat → Nat)
  | 0, _, _, c => c
  | f + 1, i, j, c => if i < j then revN f (i + 1) (j - 1) (swpN c i j) else c
def nextN (n : Nat) (c : Nat → Nat) : Nat → Nat :=
  if lowN c (n - 1) = 0 then c else revN 7 (lowN c (n - 1)) (n - 1) (swpN c (lowN c (n - 1) - 1) (highN c (lowN c (n - 1) - 1) (n - 1)))
def encN (c : Nat → Nat) : Nat := c 0 + 8 * (c 1 + 8 * (c 2 + 8 * (c 3 + 8 * (c 4 + 8 * (c 5 + 8 * c 6)))))
def runN (n : Nat) : Nat → Nat → Bool
  | 0, _ => false
  | f + 1, code => if lowN (dg code) (n - 1) = 0 then true else match encN (nextN n (dg code)) with
    | 0 => false
    | k + 1 => runN n f (k + 1)
def Term (b : Nat) : Nat → (Nat → Int32) → Prop
  | 0, _ => False
  | f + 1, r => nlLow r (b - 1) = 0 ∨ Term b f (nlNext b r)
theorem run_all : ∀ n : Fin 8, runN n.1 5040 (encN id) = true := by decide +kernel
def RepN (r : Nat → Int32) (c : Nat → Nat) : Prop := ∀ i, i < 7 → r i = jn (c i) ∧ c i < 8
theorem rep_lt {r : Nat → Int32} {c : Nat → Nat} (w : RepN r c) {i j : Nat} (hi : i < 7) (hj : j < 7) : r i < r j ↔ c i < c j := by
  rw [(w i hi).1, (w j hj).1, jn_lt (by have := (w i hi).2; omega) (by have := (w j hj).2; omega)]
theorem rep_low {r : Nat → Int32} {c : Nat → Nat} (w : RepN r c) : ∀ l, l < 7 → nlLow r l = lowN c l
  | 0, _ => rfl
  | l + 1, h => by
    rw [nlLow, lowN, rep_low w l (by omega)]
    by_cases e : r (l + 1) < r l
    · rw [if_pos e, if_pos ((rep_lt w h (by omega)).mp e)]
    · rw [if_neg e, if_neg (fun z => e ((rep_lt w h (by omega)).mpr z))]
theorem rep_high {r : Nat → Int32} {c : Nat → Nat} (w : RepN r c) {lo : Nat} (hlo : lo < 7) : ∀ h, h < 7 → nlHigh r lo h = highN c lo h
  | 0, _ => rfl
  | h + 1, hh => by
    rw [nlHigh, highN, rep_high w hlo h (by omega)]
    by_cases e : lo < h + 1 ∧ r (h + 1) < r lo
    · rw [if_pos e, if_pos ⟨e.1, (rep_lt w hh hlo).mp e.2⟩]
    · rw [if_neg e, if_neg (fun z => e ⟨z.1, (rep_lt w hh hlo).mpr z.2⟩)]
theorem rep_swp {r : Nat → Int32} {c : Nat → Nat} (w : RepN r c) {i j : Nat} (hi : i < 7) (hj : j < 7) : RepN (swp r i j) (swpN c i j) := by
  intro k hk
  rw [swp_at]
  unfold swpN
  by_cases e : k = j
  · rw [if_pos e, if_pos e]; exact w i hi
  · rw [if_neg e, if_neg e]
    by_cases e2 : k = i
    · rw [if_pos e2, if_pos e2]; exact w j hj
    · rw [if_neg e2, if_neg e2]; exact w k hk
theorem rep_rev : ∀ (f i j : Nat) (r : Nat → Int32) (c : Nat → Nat), RepN r c → j < 7 → RepN (nlRev f i j r) (revN f i j c)
  | 0, _, _, _, _, w, _ => w
  | f + 1, i, j, r, c, w, hj => by
    rw [nlRev, revN]
    by_cases e : i < j
    · rw [if_pos e, if_pos e]
      exact rep_rev f (i + 1) (j - 1) _ _ (rep_swp w (by omega) hj) (by omega)
    · rw [if_neg e, if_neg e]
      exact w
theorem rep_next {b : Nat} (hb : b ≤ 7) {r : Nat → Int32} {c : Nat → Nat} (w : RepN r c) : RepN (nlNext b r) (nextN b c) := by
  unfold nlNext nextN
  rw [rep_low w (b - 1) (by omega)]
  have hl : lowN c (b - 1) ≤ b - 1 := by rw [← rep_low w (b - 1) (by omega)]; exact nlLow_le r _
  by_cases e : lowN c (b - 1) = 0
  · rw [if_pos e, if_pos e]; exact w
  · rw [if_neg e, if_neg e, rep_high w (by omega) (b - 1) (by omega)]
    have hh : highN c (lowN c (b - 1) - 1) (b - 1) ≤ b - 1 := by rw [← rep_high w (by omega) (b - 1) (by omega)]; exact nlHigh_le r _ _
    exact rep_rev 7 _ _ _ _ (rep_swp w (by omega) (by omega)) (by omega)
theorem rep_enc {r : Nat → Int32} {c : Nat → Nat} (w : RepN r c) : RepN r (dg (encN c)) := by
  intro i hi
  have h0 := (w 0 (by omega)).2
  have h1 := (w 1 (by omega)).2
  have h2 := (w 2 (by omega)).2
  have h3 := (w 3 (by omega)).2
  have h4 := (w 4 (by omega)).2
  have h5 := (w 5 (by omega)).2
  have h6 := (w 6 (by omega)).2
  have e : dg (encN c) i = c i := by
    unfold dg encN
    rcases (show i = 0 ∨ i = 1 ∨ i = 2 ∨ i = 3 ∨ i = 4 ∨ i = 5 ∨ i = 6 by omega) with rfl | rfl | rfl | rfl | rfl | rfl | rfl
    · rw [show 8 ^ 0 = 1 by decide]; omega
    · rw [show 8 ^ 1 = 8 by decide]; omega
    · rw [show 8 ^ 2 = 64 by decide]; omega
    · rw [show 8 ^ 3 = 512 by decide]; omega
    · rw [show 8 ^ 4 = 4096 by decide]; omega
    · rw [show 8 ^ 5 = 32768 by decide]; omega
    · rw [show 8 ^ 6 = 262144 by decide]; omega
  rw [e]
  exact w i hi
theorem run_term {b : Nat} (hb : b ≤ 7) : ∀ (f code : Nat) (r : Nat → Int32), RepN r (dg code) → runN b f code = true → Term b f r
  | 0, _, _, _, h => by cases h
  | f + 1, code, r, w, h => by
    rw [runN] at h
    by_cases e : lowN (dg code) (b - 1) = 0
    · exact Or.inl (by rw [rep_low w (b - 1) (by omega)]; exact e)
    · rw [if_neg e] at h
      right
      have w2 := rep_enc (rep_next hb w)
      generalize encN (nextN b (dg code)) = k at h w2
      cases k with
      | zero => cases h
      | succ k => exact run_term hb f (k + 1) _ w2 h
theorem term_all {b : Nat} (hb : b ≤ 7) : Term b 5040 jn := by
  refine run_term hb 5040 (encN id) jn ?_ (run_all ⟨b, by omega⟩)
  intro i hi
  have e : ∀ i : Fin 7, dg (encN id) i.1 = i.1 := by decide +kernel
  have := e ⟨i, hi⟩
  simp only at this
  rw [this]
  exact ⟨rfl, by omega⟩
section JOR
variable {K a b l : Nat} {h H : jH}
theorem cIn_rev : ∀ (f i j : Nat) (r : Nat → Int32), cIn b b r → j < b → cIn b b (nlRev f i j r)
  | 0, _, _, _, w, _ => w
  | f + 1, i, j, r, w, hj => by
    rw [nlRev]
    by_cases e : i < j
    · rw [if_pos e]
      exact cIn_rev f (i + 1) (j - 1) _ (cIn_swp w (by omega) hj) (by omega)
    · rw [if_neg e]
      exact w
theorem cIn_next {r : Nat → Int32} (hb : 1 ≤ b) (w : cIn b b r) : cIn b b (nlNext b r) := by
  unfold nlNext
  have hl := nlLow_le r (b - 1)
  by_cases e : nlLow r (b - 1) = 0
  · rw [if_pos e]; exact w
  · rw [if_neg e]
    have hh := nlHigh_le r (nlLow r (b - 1) - 1) (b - 1)
    exact cIn_rev 7 _ _ _ (cIn_swp w (by omega) (by omega)) (by omega)
theorem hOk_next (w : hOk K a b l h) : hOk K a b l (nset h 9 (nlNext b (h 9))) := hOk_set9 w (cIn_next (by have := w.1; omega) w.2.2.2.1)
theorem hOk_line0 (w : hOk K a b l H) : hOk K a b l (hLine0 H) := by
  have w1 := w.1
  exact hOk_set9 w ⟨fun i hi => ⟨i, hi, rfl⟩, fun i j hi hj z => jn_inj (by omega) (by omega) z⟩
/-- the reference's way through all lines -/
def mdRun (b : Nat) : Nat → jH → (Nat → Int32) × Int32 → (Nat → Int32) × Int32
  | 0, _, o => o
  | f + 1, h, o => if nlLow (h 9) (b - 1) = 0 then tlStep h o else mdRun b f (nset h 9 (nlNext b (h 9))) (tlStep h o)
theorem md_stuck (wH : hOk K a b l H) (hK : K ≤ 1000000) : ∀ (f : Nat) (h : jH) (o : (Nat → Int32) × Int32), hOk K a b l h → (∀ r, r ≠ 9 → h r = H r) → hPatient H ≤ o.2 → mdRun b f h o = o := by
  intro f
  induction f with
  | zero => intro h o _ _ _; rfl
  | succ f ih =>
    intro h o w eh ho
    obtain ⟨s, t, s1, s2, s3, s4⟩ := stay_le wH w hK eh
    have e1 : tlStep h o = o := by
      unfold tlStep
      rw [if_neg]
      rw [s3]
      rw [s4] at ho
      exact fun z => absurd (Int32.lt_of_le_of_lt ho z) (fun z2 => by have := (jn_lt (by omega) (by omega)).mp z2; omega)
    rw [mdRun, e1]
    by_cases c : nlLow (h 9) (b - 1) = 0
    · rw [if_pos c]
    · rw [if_neg c]
      exact ih _ o (hOk_next w) (fun r hr => by rw [nset_ne hr]; exact eh r hr) ho
def mdR (b : Nat) (o o' : (Nat → Int32) × Int32) : Prop := (o.2 = -4 ∧ o'.2 = -1) ∨ (o.2 = o'.2 ∧ ∀ i, i < b → o.1 i = o'.1 i)
theorem md_step (wH : hOk K a b l H) (w : hOk K a b l h) (hK : K ≤ 1000000) (eh : ∀ r, r ≠ 9 → h r = H r) {o o' : (Nat → Int32) × Int32} (r : mdR b o o') : (tlStep h o).2 = (tlStep h o').2 ∧ ∀ i, i < b → (tlStep h o).1 i = (tlStep h o').1 i := by
  obtain ⟨s, t, s1, s2, s3, s4⟩ := stay_le wH w hK eh
  unfold tlStep
  rw [s3]
  rcases r with ⟨r1, r2⟩ | ⟨r1, r2⟩
  · have hp : (0 : Int32) ≤ jn s := jn_pos (by omega)
    rw [r1, r2, if_pos (Int32.lt_of_lt_of_le (show (-4 : Int32) < 0 by decide) hp), if_pos (Int32.lt_of_lt_of_le (show (-1 : Int32) < 0 by decide) hp)]
    exact ⟨rfl, fun _ _ => rfl⟩
  · rw [r1]
    by_cases c : o'.2 < jn s
    · rw [if_pos c, if_pos c]; exact ⟨rfl, fun _ _ => rfl⟩
    · rw [if_neg c, if_neg c]; exact ⟨r1, r2⟩
theorem md_same (wH : hOk K a b l H) (hK : K ≤ 1000000) : ∀ (f : Nat) (h : jH) (o o' : (Nat → Int32) × Int32), hOk K a b l h → (∀ r, r ≠ 9 → h r = H r) → Term b f (h 9) → mdR b o o' → (lfRun b (hPatient H) f 1 h o).2 = (mdRun b f h o').2 ∧ ∀ i, i < b → (lfRun b (hPatient H) f 1 h o).1 i = (mdRun b f h o').1 i := by
  intro f
  induction f with
  | zero => intro h o o' _ _ t _; exact absurd t (fun z => z)
  | succ f ih =>
    intro h o o' w eh t r
    by_cases ho : hPatient H ≤ o.2
    · have ho' : hPatient H ≤ o'.2 ∧ o.2 = o'.2 ∧ ∀ i, i < b → o.1 i = o'.1 i := by
        rcases r with ⟨r1, r2⟩ | ⟨r1, r2⟩
        · obtain ⟨s, t, s1, s2, s3, s4⟩ := stay_le wH w hK eh
          rw [r1, s4] at ho
          exact absurd (Int32.lt_of_le_of_lt ho (show (-4 : Int32) < 0 by decide)) (jn_npos (by omega))
        · exact ⟨by rw [← r1]; exact ho, r1, r2⟩
      rw [md_stuck wH hK (f + 1) h o' w eh ho'.1, lfRun, if_neg (by decide), if_pos ho]
      exact ho'.2
    · rw [lfRun, if_neg (by decide), if_neg ho, mdRun]
      have st := md_step wH w hK eh r
      by_cases c : nlLow (h 9) (b - 1) = 0
      · rw [if_pos c, jb_f (fun z => z c)]
        have e0 : ∀ f (h : jH) o, lfRun b (hPatient H) f 0 h o = o := fun f h o => by
          cases f with
          | zero => rfl
          | succ f => rw [lfRun, if_pos rfl]
        rw [e0]
        exact st
      · rw [if_neg c, jb_t c]
        exact ih _ _ _ (hOk_next w) (fun r hr => by rw [nset_ne hr]; exact eh r hr) (by rw [nset_at]; exact t.resolve_left c) (Or.inr st)
theorem lf_md (wH : hOk K a b l H) (hK : K ≤ 1000000) (c c' : Nat → Int32) : (lfBest H c b).2 = (mdRun b 5040 (hLine0 H) (c', -1)).2 ∧ ∀ i, i < b → (lfBest H c b).1 i = (mdRun b 5040 (hLine0 H) (c', -1)).1 i := by
  have w1 := wH.1
  unfold lfBest
  exact md_same wH hK 5040 (hLine0 H) (c, -4) (c', -1) (hOk_line0 wH) (fun r hr => nset_ne hr) (by unfold hLine0; rw [nset_at]; exact term_all (by omega)) (Or.inl ⟨rfl, rfl⟩)
end JOR
