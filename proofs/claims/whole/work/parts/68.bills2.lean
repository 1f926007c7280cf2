/-! the search finds what looking at all bills finds -/
section JBJ
variable {K a b l : Nat} {set : Int32} {H h nv : jH} {c : Nat → Int32} {d : Nat}
theorem ms_ok (w : hOk K a b l H) : ∀ (f d : Nat) (c : Nat → Int32) (o : (Nat → Int32) × (Nat × Int32)), cIn d a c → d + f = 7 → oOk o → oOk (msRun H a set f d c o) := by
  have w1 := w.1
  intro f
  induction f with
  | zero => intro d c o _ _ h; exact h
  | succ f ih =>
    intro d c o hc hf ho
    rw [msRun]
    refine jfor_inv (P := oOk) a 0 o (fun k o' _ hk e => ?_) ho
    by_cases hx : inB c d k
    · rw [if_pos hx]; exact e
    · rw [if_neg hx]
      have hc2 := cIn_ext (by omega) hc (show k < a by omega) hx
      exact ih (d + 1) _ _ hc2 (by omega) (viB_ok w hc2 e)
theorem clS_ext (w : hOk K a b l H) {k : Nat} (hk : k < a) : clS H (upd c d (jn k)) (d + 1) = clS H c d ||| bnd H k := by
  have w1 := w.1
  unfold clS
  rw [jfor_add d 1 0, Nat.zero_add, jfor_1]
  rw [jfor_congr (f := fun i r => r ||| (if ¬ H 0 (upd c d (jn k) i).toNatClampNeg = 3 ∧ H 2 (upd c d (jn k) i).toNatClampNeg < 8 then 1 <<< (H 2 (upd c d (jn k) i).toNatClampNeg &&& 31) else 0)) (g := fun i r => r ||| (if ¬ H 0 (c i).toNatClampNeg = 3 ∧ H 2 (c i).toNatClampNeg < 8 then 1 <<< (H 2 (c i).toNatClampNeg &&& 31) else 0)) d 0 0 (fun i x _ hi => by
    have e : upd c d (jn k) i = c i := if_neg (by omega)
    simp only [e])]
  congr 1
  have e : upd c d (jn k) d = jn k := if_pos rfl
  rw [e, jn_clamp (by omega)]
  unfold bnd
  obtain ⟨cl, _, c2, c3⟩ := w.2.2.2.2.1.2.2.1 k hk
  rw [rg_in (by omega) (show k < 7 by omega), rg_in (by omega) (show k < 7 by omega), c3]
  by_cases e1 : H 0 k = 3
  · rw [if_pos e1, if_neg (fun z => z.1 e1)]
  · rw [if_neg e1]
    unfold clb
    by_cases e2 : cl = 8
    · subst e2
      rw [if_neg (fun z => absurd z.2 (by decide)), if_pos (by rfl)]
    · rw [if_pos ⟨e1, (jn_lt (k := cl) (l := 8) (by omega) (by omega)).mpr (by omega)⟩, if_neg (show ¬ jn cl = 8 from fun z => e2 (jn_inj (a := cl) (b := 8) (by omega) (by omega) z))]
theorem ex_ms (w : hOk K a b l H) (hK : K ≤ 1000000) : ∀ (f d : Nat) (c : Nat → Int32) (u : Nat) (o : (Nat → Int32) × (Nat × Int32)), d + f = 7 → cIn d a c → u < 128 → (∀ j, j < 7 → (bit (jn u) j ↔ inB c d j)) → oOk o → exRun H a f d c (nUnfold (hb H c d) 0) (jn u) (jn (mnS H c d)) (set &&& (clS H c d ^^^ -1)) o = msRun H a set f d c o := by
  have w1 := w.1
  intro f
  induction f with
  | zero => intro d c u o _ _ _ _ _; rfl
  | succ f ih =>
    intro d c u o hf hc hu hU ho
    rw [exRun, msRun]
    have e := jfor_two (R := fun k x y => x = y ∧ oOk x) (f := exStep H (exRun H a f) d c (nUnfold (hb H c d) 0) (jn u) (jn (mnS H c d)) (set &&& (clS H c d ^^^ -1))) (f' := fun k o => @ite _ (inB c d k) (Classical.propDecidable _) o (msRun H a set f (d + 1) (upd c d (jn k)) (viB H set (upd c d (jn k)) (d + 1) o))) a 0 o o (fun k x y _ hk z => by
      obtain ⟨rfl, hx⟩ := z
      show exStep H (exRun H a f) d c (nUnfold (hb H c d) 0) (jn u) (jn (mnS H c d)) (set &&& (clS H c d ^^^ -1)) k x = _ ∧ oOk (exStep H (exRun H a f) d c (nUnfold (hb H c d) 0) (jn u) (jn (mnS H c d)) (set &&& (clS H c d ^^^ -1)) k x)
      have hk7 : k < 7 := by omega
      unfold exStep
      by_cases e1 : inB c d k
      · have e1' : ¬ jn u >>> (jn k &&& 31) &&& 1 = 0 := (hU k hk7).mpr e1
        rw [if_pos e1', if_pos e1]
        exact ⟨rfl, hx⟩
      · have e1' : ¬ ¬ jn u >>> (jn k &&& 31) &&& 1 = 0 := fun z => e1 ((hU k hk7).mp z)
        rw [if_neg e1', if_neg e1]
        have hc2 := cIn_ext (by omega) hc (show k < a by omega) e1
        have hd2 := cIn_le (by omega) hc2
        have et : jn (mnS H c d) + rg 7 (H 1) (jn k) = jn (mnS H (upd c d (jn k)) (d + 1)) := by
          rw [mnS_ext hk7, rg_in (by omega) hk7, (mnt_le w (show k < a by omega)).2.2, jn_add]
        rw [et]
        by_cases e2 : x.2.2 ≤ jn (mnS H (upd c d (jn k)) (d + 1))
        · rw [if_pos e2]
          have ev : viB H set (upd c d (jn k)) (d + 1) x = x := if_neg (fun z => absurd z.1 (Int32.not_lt.mpr e2))
          rw [ev, ms_long w f (d + 1) _ x hc2 (by omega) e2]
          exact ⟨rfl, hx⟩
        · rw [if_neg e2, ex_night (by omega) k]
          have ep := ex_pass w hK hc2 (by omega)
          by_cases e3 : exPass H (nUnfold (hb H (upd c d (jn k)) (d + 1)) 0)
          · rw [if_pos e3]
            have em : (set &&& (clS H c d ^^^ -1)) &&& (bnd H k ^^^ -1) = set &&& (clS H (upd c d (jn k)) (d + 1) ^^^ -1) := by
              rw [and_not_or, clS_ext w (show k < a by omega)]
            rw [em]
            have ev : (if set &&& (clS H (upd c d (jn k)) (d + 1) ^^^ -1) = 0 then (upd c d (jn k), (d + 1, jn (mnS H (upd c d (jn k)) (d + 1)))) else x) = viB H set (upd c d (jn k)) (d + 1) x := by
              unfold viB
              by_cases e4 : set &&& (clS H (upd c d (jn k)) (d + 1) ^^^ -1) = 0
              · rw [if_pos e4, if_pos ⟨Int32.not_le.mp e2, e4, ep.mp e3⟩]
              · rw [if_neg e4, if_neg (fun z => e4 z.2.1)]
            rw [ev]
            obtain ⟨u1, u2, u3⟩ := used_bits ⟨u, hu⟩ ⟨k, hk7⟩
            simp only at u1 u2 u3
            rw [u1]
            have hv := viB_ok (set := set) w hc2 hx
            rw [ih (d + 1) (upd c d (jn k)) (u ||| 2 ^ k) _ (by omega) hc2 u2 (fun j hj => by
              rw [u3 ⟨j, hj⟩, hU j hj]
              constructor
              · rintro (⟨i, hi, ei⟩ | z)
                · exact ⟨i, by omega, (if_neg (by omega)).trans ei⟩
                · have : j = k := congrArg (fun t : Fin 7 => t.1) z
                  exact ⟨d, by omega, by rw [this]; exact if_pos rfl⟩
              · rintro ⟨i, hi, ei⟩
                by_cases ed : i = d
                · right
                  rw [ed, show upd c d (jn k) d = jn k from if_pos rfl] at ei
                  have := jn_inj (by omega) (by omega) ei
                  exact Fin.ext this.symm
                · left
                  exact ⟨i, by omega, (if_neg ed : upd c d (jn k) i = c i).symm.trans ei⟩) hv]
            exact ⟨rfl, ms_ok w f (d + 1) _ _ hc2 (by omega) hv⟩
          · rw [if_neg e3]
            have ev : viB H set (upd c d (jn k)) (d + 1) x = x := if_neg (fun z => e3 (ep.mpr z.2.2))
            rw [ev, ms_fail w hK f (d + 1) _ x hc2 (by omega) (by omega) (fun z => e3 (ep.mpr z))]
            exact ⟨rfl, hx⟩) ⟨rfl, ho⟩
    exact e.1
theorem ex_best (w : hOk K a b l H) (hK : K ≤ 1000000) : exBest H a set = msRun H a set 7 0 (fun _ => 0) exZ := by
  have e := ex_ms (set := set) w hK 7 0 (fun _ => 0) 0 exZ (by omega) ⟨fun i hi => absurd hi (by omega), fun i j hi => absurd hi (by omega)⟩ (by omega) (fun j hj => ⟨fun z => absurd z (bit_0 j), fun z => by obtain ⟨i, hi, _⟩ := z; omega⟩) ⟨141, by omega, rfl⟩
  rw [← e]
  unfold exBest
  have e1 : nUnfold (hb H (fun _ => 0) 0) 0 = fun _ _ => 0 := by
    unfold nUnfold hB hb
    rw [hSc_10]
    rfl
  have e2 : set &&& (clS H (fun _ => 0) 0 ^^^ -1) = set := by
    rw [show clS H (fun _ => 0) 0 = 0 from rfl, show (0 ^^^ -1 : Int32) = -1 by decide]
    exact and_neg1 set
  rw [e1, e2]
  rfl
end JBJ
