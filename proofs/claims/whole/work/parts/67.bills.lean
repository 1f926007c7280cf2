/-! all bills, one behind the other; what the search leaves out -/
/-- the house with another bill -/
def hb (H : jH) (c : Nat → Int32) (d : Nat) : jH := hSc (nset H 4 c) 12 (jn d)
def mnt (H : jH) (k : Nat) : Nat := (H 1 k).toNatClampNeg
def mnS (H : jH) (c : Nat → Int32) (d : Nat) : Nat := sumF (fun i => mnt H (c i).toNatClampNeg) d
def clS (H : jH) (c : Nat → Int32) (d : Nat) : Int32 := jfor (fun i r => r ||| (if ¬ H 0 (c i).toNatClampNeg = 3 ∧ H 2 (c i).toNatClampNeg < 8 then 1 <<< (H 2 (c i).toNatClampNeg &&& 31) else 0)) d 0 0
abbrev inB (c : Nat → Int32) (d k : Nat) : Prop := ∃ i, i < d ∧ c i = jn k
/-- a bill is looked at -/
def viB (H : jH) (set : Int32) (c : Nat → Int32) (d : Nat) (o : (Nat → Int32) × (Nat × Int32)) : (Nat → Int32) × (Nat × Int32) :=
  if jn (mnS H c d) < o.2.2 ∧ set &&& (clS H c d ^^^ -1) = 0 ∧ hPass (hb H c d) then (c, (d, jn (mnS H c d))) else o
noncomputable def msRun (H : jH) (a : Nat) (set : Int32) : Nat → Nat → (Nat → Int32) → (Nat → Int32) × (Nat × Int32) → (Nat → Int32) × (Nat × Int32)
  | 0, _, _, o => o
  | f + 1, d, c, o => jfor (fun k o => @ite _ (inB c d k) (Classical.propDecidable _) o (msRun H a set f (d + 1) (upd c d (jn k)) (viB H set (upd c d (jn k)) (d + 1) o))) a 0 o
theorem jfor_congr {α : Type} {f g : Nat → α → α} : ∀ (m k : Nat) (x : α), (∀ j x, k ≤ j → j < k + m → f j x = g j x) → jfor f m k x = jfor g m k x
  | 0, _, _, _ => by simp only [jfor]
  | m + 1, k, x, h => by
    rw [jfor, jfor, h k x (by omega) (by omega)]
    exact jfor_congr m (k + 1) _ (fun j x h1 h2 => h j x (by omega) (by omega))
theorem jfor_1 {α : Type} (f : Nat → α → α) (k : Nat) (x : α) : jfor f 1 k x = f k x := by simp only [jfor]
section JBI
variable {K a b l : Nat} {set : Int32} {H h nv : jH} {c : Nat → Int32} {d : Nat}
theorem hOk_b (w : hOk K a b l H) (hc : cIn d a c) : hOk K a b d (hb H c d) := by
  have w1 := w.1
  have hd := cIn_le (by omega) hc
  unfold hb
  refine ⟨⟨w1.1, w1.2.1, w1.2.2.1, w1.2.2.2.1, hd⟩, ⟨?_, ?_, ?_⟩, ?_, ?_, ?_, ?_⟩
  · rw [hSc_10' (by decide), nset_ne (by decide)]; exact w.2.1.1
  · rw [hSc_10' (by decide), nset_ne (by decide)]; exact w.2.1.2.1
  · rw [hSc_10]
  · rw [hSc_f (by decide), nset_at]; exact hc
  · rw [hSc_f (by decide), nset_ne (by decide)]; exact w.2.2.2.1
  · rw [hSc_f (by decide), hSc_f (by decide), hSc_f (by decide), hSc_f (by decide), nset_ne (by decide), nset_ne (by decide), nset_ne (by decide), nset_ne (by decide)]
    exact w.2.2.2.2.1
  · rw [hSc_f (by decide), hSc_f (by decide), hSc_f (by decide), hSc_f (by decide), nset_ne (by decide), nset_ne (by decide), nset_ne (by decide), nset_ne (by decide)]
    exact w.2.2.2.2.2
theorem hb_f {r : Nat} (h4 : r ≠ 4) (h10 : r ≠ 10) : hb H c d r = H r := by
  unfold hb
  rw [hSc_f h10, nset_ne h4]
theorem hb_4 : hb H c d 4 = c := by
  unfold hb
  rw [hSc_f (by decide), nset_at]
theorem hb_11 : hb H c d 10 11 = H 10 11 := by
  unfold hb
  rw [hSc_10' (by decide), nset_ne (by decide)]
theorem cIn_ext {k : Nat} (ha : a ≤ 7) (hc : cIn d a c) (hk : k < a) (hx : ¬ inB c d k) : cIn (d + 1) a (upd c d (jn k)) := by
  have u : ∀ i, upd c d (jn k) i = if i = d then jn k else c i := fun i => rfl
  constructor
  · intro i hi
    rw [u]
    by_cases e : i = d
    · rw [if_pos e]; exact ⟨k, hk, rfl⟩
    · rw [if_neg e]; exact hc.1 i (by omega)
  · intro i j hi hj
    rw [u, u]
    by_cases e : i = d
    · rw [if_pos e]
      by_cases e2 : j = d
      · intro _; omega
      · rw [if_neg e2]; exact fun z => absurd ⟨j, by omega, z.symm⟩ hx
    · rw [if_neg e]
      by_cases e2 : j = d
      · rw [if_pos e2]; exact fun z => absurd ⟨i, by omega, z⟩ hx
      · rw [if_neg e2]; exact hc.2 i j (by omega) (by omega)
/-- the night goes on by a scene -/
theorem ex_night (hd : d < 7) (k : Nat) : exNight H (nUnfold (hb H c d) 0) d k = nUnfold (hb H (upd c d (jn k)) (d + 1)) 0 := by
  have eB : ∀ c d, d ≤ 7 → hB (hb H c d) = d := fun c d hd => by
    unfold hB hb
    rw [hSc_10, jn_clamp (by omega)]
  unfold nUnfold exNight
  rw [eB c d (by omega), eB _ (d + 1) (by omega), jfor_add d 1 0, Nat.zero_add]
  have st : ∀ (c c' : Nat → Int32) (d d' i : Nat) (nv : jH), i < 7 → c i = c' i → nStage (hb H c d) (jn i) 0 nv = nStage (hb H c' d') (jn i) 0 nv := by
    intro c c' d d' i nv hi e
    refine nStage_E (fun f hf h4 => by rw [hb_f h4 (by omega), hb_f h4 (by omega)]) ?_ (by rw [hb_11, hb_11])
    rw [hb_4, hb_4, rg_in (by omega) hi, rg_in (by omega) hi, e]
  rw [jfor_1, if_c]
  rw [jfor_congr (f := fun i nv => nStage (hb H c d) (jn i) (if jn i = 0 then 0 else 0) nv) (g := fun i nv => nStage (hb H (upd c d (jn k)) (d + 1)) (jn i) (if jn i = 0 then 0 else 0) nv) d 0 _ (fun i x _ hi => by
    simp only [if_c]
    exact st c (upd c d (jn k)) d (d + 1) i x (by omega) (by unfold upd; rw [if_neg (by omega)]))]
  refine nStage_E (fun f hf h4 => ?_) ?_ ?_
  · rw [hb_f h4 (by omega)]
    unfold hOne
    rw [nset_ne h4]
  · rw [hb_4]
    unfold hOne
    rw [nset_at, rg_in (by omega) hd, rg_in (by omega) hd]
    exact (if_pos rfl).symm
  · rw [hb_11]
    unfold hOne
    rw [nset_ne (by decide)]
theorem hb_gone (w : hOk K a b l H) (hK : K ≤ 1000000) (hc : cIn d a c) : ∃ g, g ≤ b ∧ nUnfold (hb H c d) 0 5 0 = jn g ∧ (hPass (hb H c d) ↔ 0 < d ∧ 2 * b ≤ 3 * (b - g)) := by
  have w1 := w.1
  have wb := hOk_b w hc
  obtain ⟨e1, g, g1, g2⟩ := same_cnt (y := 0) wb hK
  refine ⟨g, g1, g2, ?_⟩
  show (0 < hb H c d 10 12 ∧ 2 * hb H c d 10 11 ≤ 3 * (hb H c d 10 11 - nUnfold (hb H c d) 0 5 0)) ↔ _
  rw [g2, wb.2.1.2.2, wb.2.1.2.1, jn_sub g1, show (2 : Int32) = jn 2 from rfl, show (3 : Int32) = jn 3 from rfl, jn_mul, jn_mul, jn_le (by omega) (by omega)]
  have wd := wb.1
  exact ⟨fun z => ⟨(jn_lt (k := 0) (by omega) (by omega)).mp z.1, z.2⟩, fun z => ⟨(jn_lt (k := 0) (by omega) (by omega)).mpr z.1, z.2⟩⟩
theorem ex_pass (w : hOk K a b l H) (hK : K ≤ 1000000) (hc : cIn d a c) (hd : 0 < d) : exPass H (nUnfold (hb H c d) 0) ↔ hPass (hb H c d) := by
  show _ ↔ (0 < hb H c d 10 12 ∧ 2 * hb H c d 10 11 ≤ 3 * (hb H c d 10 11 - nUnfold (hb H c d) 0 5 0))
  have wd := (hOk_b w hc).1
  rw [hb_11, (hOk_b w hc).2.1.2.2]
  exact ⟨fun z => ⟨(jn_lt (k := 0) (by omega) (by omega)).mpr hd, z⟩, fun z => z.2⟩
/-- who has left stays away -/
theorem gone_mono (w : hOk K a b l H) (hK : K ≤ 1000000) {k : Nat} (hc : cIn d a c) (hd : d < 7) (hc2 : cIn (d + 1) a (upd c d (jn k))) (hd0 : 0 < d) (h0 : ¬ hPass (hb H c d)) : ¬ hPass (hb H (upd c d (jn k)) (d + 1)) := by
  have w1 := w.1
  obtain ⟨g, g1, g2, g3⟩ := hb_gone w hK hc
  obtain ⟨g', g1', g2', g3'⟩ := hb_gone w hK hc2
  have wb := hOk_b w hc
  have wb2 := hOk_b w hc2
  obtain ⟨r, n⟩ := same_go (y := 0) wb hK
  obtain ⟨r2, n2⟩ := same_go (y := 0) wb2 hK
  have eN := ex_night (H := H) (c := c) hd k
  -- the night as it stood is one of the longer bill
  have rr : RG b (nUnfold (hb H c d) 0) (mGo (hb H c d) b d 0) := r
  have nn : NI b 4000 0 (hb H (upd c d (jn k)) (d + 1)) (nUnfold (hb H c d) 0) := by
    have e5 : hb H (upd c d (jn k)) (d + 1) 5 = hb H c d 5 := by rw [hb_f (by decide) (by decide), hb_f (by decide) (by decide)]
    have e9 : ∀ p, ln (hb H (upd c d (jn k)) (d + 1)) p = ln (hb H c d) p := fun p => by unfold ln; rw [hb_f (by decide) (by decide), hb_f (by decide) (by decide)]
    unfold NI at n ⊢
    simp only [e5, e9]
    exact n
  have st : nUnfold (hb H (upd c d (jn k)) (d + 1)) 0 = nStage (hb H (upd c d (jn k)) (d + 1)) (jn d) 0 (nUnfold (hb H c d) 0) := by
    rw [← eN]
    unfold exNight
    refine nStage_E (fun f hf h4 => ?_) ?_ ?_
    · rw [hb_f h4 (by omega)]; unfold hOne; rw [nset_ne h4]
    · rw [hb_4]; unfold hOne; rw [nset_at, rg_in (by omega) hd, rg_in (by omega) hd]; exact (if_pos rfl).symm
    · rw [hb_11]; unfold hOne; rw [nset_ne (by decide)]
  have mono : sumF (lf (nUnfold (hb H c d) 0)) b ≤ sumF (lf (nUnfold (hb H (upd c d (jn k)) (d + 1)) 0)) b := by
    refine sumF_mono b (fun s hs => ?_)
    unfold lf
    by_cases e : nUnfold (hb H (upd c d (jn k)) (d + 1)) 0 1 s = 0
    · obtain ⟨p, hp, ep⟩ := ln_all wb2 hs
      rw [st, ← ep] at e
      have := (stage_seat wb2 hK (B := 4000) (by omega) (show d < d + 1 by omega) hp rr nn e).1
      rw [ep] at this
      rw [if_pos this]
      exact Nat.zero_le _
    · rw [if_neg e]
      by_cases e2 : nUnfold (hb H c d) 0 1 s = 0
      · rw [if_pos e2]; exact Nat.zero_le _
      · rw [if_neg e2]; exact Nat.le_refl _
  have f1 : sumF (lf (nUnfold (hb H c d) 0)) b = g := jn_inj (by have := lf_sum r (fun s hs => (n.1 s hs).2.1); omega) (by omega) (n.2.2.2.symm.trans g2)
  have f2 : sumF (lf (nUnfold (hb H (upd c d (jn k)) (d + 1)) 0)) b = g' := jn_inj (by have := lf_sum r2 (fun s hs => (n2.1 s hs).2.1); omega) (by omega) (n2.2.2.2.symm.trans g2')
  rw [g3] at h0
  rw [g3']
  omega
theorem mnS_ext {k : Nat} (hk : k < 7) : mnS H (upd c d (jn k)) (d + 1) = mnS H c d + mnt H k := by
  unfold mnS
  rw [sumF]
  congr 1
  · exact sumF_congr d (fun i hi => by unfold upd; rw [if_neg (by omega)])
  · unfold upd
    rw [if_pos rfl, jn_clamp (by omega)]
theorem mnt_le (w : hOk K a b l H) {k : Nat} (hk : k < a) : 1 ≤ mnt H k ∧ mnt H k ≤ 20 ∧ H 1 k = jn (mnt H k) := by
  obtain ⟨m, h1, h2, h3⟩ := w.2.2.2.2.1.2.1 k hk
  unfold mnt
  rw [h3, jn_clamp (by omega)]
  exact ⟨h1, h2, rfl⟩
theorem mnS_le (w : hOk K a b l H) (hc : cIn d a c) : mnS H c d ≤ 20 * d := by
  have w1 := w.1
  refine sumF_le d (fun i hi => ?_)
  obtain ⟨s, hs, e⟩ := hc.1 i hi
  rw [e, jn_clamp (by omega)]
  exact (mnt_le w hs).2.1
def oOk (o : (Nat → Int32) × (Nat × Int32)) : Prop := ∃ m, m ≤ 141 ∧ o.2.2 = jn m
theorem viB_ok (w : hOk K a b l H) (hc : cIn d a c) {o : (Nat → Int32) × (Nat × Int32)} (ho : oOk o) : oOk (viB H set c d o) := by
  have w1 := w.1
  have hd := cIn_le (by omega) hc
  unfold viB
  by_cases e : jn (mnS H c d) < o.2.2 ∧ set &&& (clS H c d ^^^ -1) = 0 ∧ hPass (hb H c d)
  · rw [if_pos e]
    exact ⟨_, by have := mnS_le w hc; omega, rfl⟩
  · rw [if_neg e]; exact ho
/-- a bill too long: nothing behind it is shorter -/
theorem ms_long (w : hOk K a b l H) : ∀ (f d : Nat) (c : Nat → Int32) (o : (Nat → Int32) × (Nat × Int32)), cIn d a c → d + f = 7 → o.2.2 ≤ jn (mnS H c d) → msRun H a set f d c o = o := by
  have w1 := w.1
  intro f
  induction f with
  | zero => intro d c o _ _ _; rfl
  | succ f ih =>
    intro d c o hc hf ho
    rw [msRun]
    refine jfor_inv (P := fun o' => o' = o) a 0 o (fun k o' _ hk e => ?_) rfl
    rw [e]
    by_cases hx : inB c d k
    · rw [if_pos hx]
    · rw [if_neg hx]
      have hc2 := cIn_ext (by omega) hc (show k < a by omega) hx
      have hm := mnS_ext (H := H) (c := c) (d := d) (k := k) (by omega)
      have hm1 := mnS_le w hc2
      have hd := cIn_le (by omega) hc2
      have ho2 : o.2.2 ≤ jn (mnS H (upd c d (jn k)) (d + 1)) := Int32.le_trans ho ((jn_le (by omega) (by omega)).mpr (by omega))
      have ev : viB H set (upd c d (jn k)) (d + 1) o = o := if_neg (fun z => absurd z.1 (Int32.not_lt.mpr ho2))
      rw [ev]
      exact ih (d + 1) _ o hc2 (by omega) ho2
/-- a bill that fails: nothing behind it passes -/
theorem ms_fail (w : hOk K a b l H) (hK : K ≤ 1000000) : ∀ (f d : Nat) (c : Nat → Int32) (o : (Nat → Int32) × (Nat × Int32)), cIn d a c → d + f = 7 → 0 < d → ¬ hPass (hb H c d) → msRun H a set f d c o = o := by
  have w1 := w.1
  intro f
  induction f with
  | zero => intro d c o _ _ _ _; rfl
  | succ f ih =>
    intro d c o hc hf hd hp
    rw [msRun]
    refine jfor_inv (P := fun o' => o' = o) a 0 o (fun k o' _ hk e => ?_) rfl
    rw [e]
    by_cases hx : inB c d k
    · rw [if_pos hx]
    · rw [if_neg hx]
      have hc2 := cIn_ext (by omega) hc (show k < a by omega) hx
      have hp2 := gone_mono w hK hc (by omega) hc2 hd hp
      have ev : viB H set (upd c d (jn k)) (d + 1) o = o := if_neg (fun z => hp2 z.2.2)
      rw [ev]
      exact ih (d + 1) _ o hc2 (by omega) (by omega) hp2
theorem used_bits : ∀ (u : Fin 128) (k : Fin 7), (jn u.1 ||| 1 <<< (jn k.1 &&& 31)) = jn (u.1 ||| 2 ^ k.1) ∧ (u.1 ||| 2 ^ k.1) < 128 ∧ ∀ j : Fin 7, (bit (jn (u.1 ||| 2 ^ k.1)) j.1 ↔ bit (jn u.1) j.1 ∨ j = k) := by decide +kernel
end JBI
