/-! the law at its entry -/
def jG (b base ks : Nat) (r : jR) : Nat := if r = (17, (0, 0)) then b else if r = (18, (0, 0)) then ks else base + jRefs.idxOf r
theorem jG_ok {b base ks : Nat} (h : b < base) : jGd (jG b base ks) b base := by
  refine ⟨fun j r hj => ?_, if_pos rfl, h⟩
  have h0 : (jRefs.all fun r => Nat.blt r.1 17) = true := by decide +kernel
  have h1 : r.1 < 17 := by
    have := List.all_eq_true.mp h0 r (List.mem_of_getElem? hj)
    simpa [Nat.blt_eq] using this
  unfold jG
  rw [if_neg (fun z => by rw [z] at h1; omega), if_neg (fun z => by rw [z] at h1; omega)]
  have hm : r ∈ jRefs := List.mem_of_getElem? hj
  have hl := List.idxOf_lt_length_of_mem hm
  have hg : jRefs[jRefs.idxOf r]? = some r := by
    rw [List.getElem?_eq_getElem hl]
    exact congrArg some (List.getElem_idxOf hl)
  rw [jRefs_inj hg hj]
theorem jclo_0 {M : jM} : jclo (0, ([], M)) := by
  intro r s h hp _
  rcases h with ⟨j, hj, _⟩ | rfl | rfl
  · exact absurd hj (Nat.not_lt_zero j)
  · rcases hp with ⟨h1, _⟩ | ⟨h1, _⟩
    · exact absurd h1 (by decide)
    · exact absurd h1 (by decide)
  · rcases hp with ⟨h1, _⟩ | ⟨h1, _⟩
    · exact absurd h1 (by decide)
    · exact absurd h1 (by decide)
/-- the script -/
def jX (L : Nat) (xs : Nat → Int32) : jM := fun _ a s => if a = (0, 1) then Int32.ofNat L else xs s
theorem jX_len {L : Nat} {xs : Nat → Int32} : jSL (jX L xs) = jn L := rfl
/-- the run of the pure machine -/
theorem law_jrun {L : Nat} (xs : Nat → Int32) (h2 : L ≤ 256) : ∃ f M2, jrun f 21 198 (0, ([some (.inr (.inr (some (17, (0, 0))))), none, none, none], ([], (0, ([], mrg Q17 (jX L xs) (wM [])))))) = some (some (.inl 1), (512, ([], M2))) := by
  obtain ⟨M2, f, h⟩ := law_true (X := jX L xs) jX_len h2
  exact ⟨f, M2, h⟩
theorem jinst_in : ((List.range 12).all fun k => decide (Cond.instantiable (jC k) (jN k) ∈ lw_tbl)) = true := by decide +kernel
/-- the classes, known at the entry -/
theorem jK_cls {s : State} {args : Array Value} (hts : ∀ w ∈ lw_tbl, w.before args s = true) : ∃ (dC : Nat → ClassId) (dI : Nat → Nat → Nat), ∀ (c : Nat) (q : vw_C), jCl[c]? = some q → u_Kn s q.1 q.2.1 q.2.2 (dC c) (dI c) := by
  have ht : ∀ w ∈ jTs, w.before args s = true := fun w h => hts w (List.mem_filter.mp h).1
  have h : ∀ c : Nat, ∃ x : ClassId × (Nat → Nat), ∀ q : vw_C, jCl[c]? = some q → u_Kn s q.1 q.2.1 q.2.2 x.1 x.2 := by
    intro c
    by_cases hc : c < 12
    · have hi : Cond.instantiable (jC c) (jN c) ∈ lw_tbl := of_decide_eq_true (List.all_eq_true.mp jinst_in c (List.mem_range.mpr hc))
      obtain ⟨cC, iS, hk⟩ := u_known (C := jC c) (T := jT c) (N := jN c) ht (juws hc) (hts _ hi)
      refine ⟨(cC, iS), fun q hq => ?_⟩
      rw [jcl_at c hc] at hq
      cases hq
      exact hk
    · refine ⟨(default, fun _ => 0), fun q hq => ?_⟩
      rw [List.getElem?_eq_none (by rw [show jCl.length = 12 by decide +kernel]; omega)] at hq
      cases hq
  obtain ⟨f, hf⟩ := Classical.axiomOfChoice h
  exact ⟨fun c => (f c).1, fun c => (f c).2, hf⟩
/-- the classes of arrays -/
theorem jArr_obj {s : State} {args : Array Value} {C : String} (h : (Cond.arrayOver (.object C)).before args s = true) : ∃ cA : ClassId, ArrOfT s cA (.object C) ∧ va_RA s cA (.object C) := by
  obtain ⟨comp, c, k, h1, h2, h3, h4, h5⟩ := Cond.arrayOver_spec h
  exact ⟨c, fun N z => ⟨(fun k h => by cases h), k, h3, comp, h4⟩, k, comp, h3, h4, h1, h5⟩
theorem jArr_int {s : State} {args : Array Value} (h : (Cond.arrayClass .int).before args s = true) : ∃ cA : ClassId, ArrOfT s cA .int ∧ va_RA s cA .int := by
  obtain ⟨c, k, comp, h1, h2, h3⟩ := Cond.arrayClass_spec h
  exact ⟨c, fun N z => ⟨(fun k h => by cases h), k, h2, comp, h3⟩, h1⟩
theorem jArr_boolean {s : State} {args : Array Value} (h : (Cond.arrayClass .boolean).before args s = true) : ∃ cA : ClassId, ArrOfT s cA .boolean ∧ va_RA s cA .boolean := by
  obtain ⟨c, k, comp, h1, h2, h3⟩ := Cond.arrayClass_spec h
  exact ⟨c, fun N z => ⟨(fun k h => by cases h), k, h2, comp, h3⟩, h1⟩
theorem jArr_byte {s : State} {args : Array Value} (h : (Cond.arrayClass .byte).before args s = true) : ∃ cA : ClassId, ArrOfT s cA .byte ∧ va_RA s cA .byte := by
  obtain ⟨c, k, comp, h1, h2, h3⟩ := Cond.arrayClass_spec h
  exact ⟨c, fun N z => ⟨(fun k h => by cases h), k, h2, comp, h3⟩, h1⟩
/-- all that is known of classes -/
theorem jK_all {s : State} {args : Array Value} (hts : ∀ w ∈ lw_tbl, w.before args s = true) : ∃ (dC : Nat → ClassId) (dI : Nat → Nat → Nat) (cA : Nat → ClassId), va_K (dC, dI) jCl (jtys cA) s := by
  obtain ⟨dC, dI, h⟩ := jK_cls hts
  obtain ⟨c12, a12⟩ := jArr_int (hts (.arrayClass .int) (by decide +kernel))
  obtain ⟨c13, a13⟩ := jArr_boolean (hts (.arrayClass .boolean) (by decide +kernel))
  obtain ⟨c14, a14⟩ := jArr_byte (hts (.arrayClass .byte) (by decide +kernel))
  obtain ⟨c15, a15⟩ := jArr_obj (hts (.arrayOver (.object "PlayedLaws$House")) (by decide +kernel))
  obtain ⟨c16, a16⟩ := jArr_obj (hts (.arrayOver (.object "PlayedLaws$Night")) (by decide +kernel))
  refine ⟨dC, dI, fun k => if k = 12 then c12 else if k = 13 then c13 else if k = 14 then c14 else if k = 15 then c15 else c16, h, fun k q hq => ?_⟩
  match k, hq with
  | 0, hq => cases hq; exact a12
  | 1, hq => cases hq; exact a13
  | 2, hq => cases hq; exact a14
  | 3, hq => cases hq; exact a15
  | 4, hq => cases hq; exact a16
  | n + 5, hq => cases hq
theorem jNest_tbl {w : Cond} (h : w ∈ jNest) : w ∈ lw_tbl := List.mem_append_right _ (List.mem_filter.mp h).1
theorem jCar_0 {s : State} {args : Array Value} (hts : ∀ w ∈ lw_tbl, w.before args s = true) : jCar s := by
  refine ⟨fun w hw => ?_, va_AO.of (hts (.arrayOver (.object "PlayedLaws$House")) (by decide +kernel)), va_AO.of (hts (.arrayOver (.object "PlayedLaws$Night")) (by decide +kernel))⟩
  have h1 := hts w (jNest_tbl hw)
  have h2 : jIsNest w = true := (List.mem_filter.mp hw).2
  cases w with
  | fieldLinkNest => exact va_Nw.of rfl h1
  | methodLinkNest => exact va_Nw.of rfl h1
  | _ => cases h2
theorem jel_in : ((List.range 93).all fun j => decide (Cond.eq (.elem (.field (.string "PlayedLaws" 77) "java/lang/String" "value" "[B") (.int (Int32.ofNat j))) (.int (jstr.getD j 0)) ∈ flatC (given_1.and narrow_1))) = true := by decide +kernel
/-- the string and the JDK's statics at the entry -/
theorem jXt_0 {s : State} {args : Array Value} (hts : ∀ w ∈ lw_tbl, w.before args s = true) (hg : (Jvm.Cond.and given_1 narrow_1).before args s = true) : ∃ ks : Nat, ∀ g : jR → Nat, g (18, (0, 0)) = ks → jXt g s.heap.size s s.heap := by
  have hs := flat_of_before _ hg
  have hA : ∀ a : Nat, a < s.heap.size → ¬ s.heap.size ≤ a := fun a h h2 => by omega
  obtain ⟨adK, adV, h1, h2⟩ := vk_Sof (s := s) (args := args) (N := 1) (tm := fun _ => .string "PlayedLaws" 77) (len := [jstr.length]) (byt := [jstr]) (A := fun q => s.heap.size ≤ q) (fun i hi => by
      obtain rfl : i = 0 := by omega
      show jstr.length < 2 ^ 31
      rw [jstr_93]
      decide) (fun i _ => hs _ (by decide +kernel)) (fun i _ => hs _ (by decide +kernel)) (fun i _ => hs _ (by decide +kernel)) (fun i hi => by
      obtain rfl : i = 0 := by omega
      show (Cond.eq _ (.int (Int32.ofNat jstr.length))).before args s = true
      rw [jstr_93]
      exact hs _ (by decide +kernel)) (fun i hi j hj => by
      obtain rfl : i = 0 := by omega
      have hj2 : j < 93 := by
        rw [← jstr_93]
        exact hj
      exact hs _ (of_decide_eq_true (List.all_eq_true.mp jel_in j (List.mem_range.mpr hj2)))) (fun i j hi hj h => absurd (show i = j by omega) h) hA
  refine ⟨adK 0, fun g hgk => ⟨?_, ⟨adV 0, ?_⟩, ?_, ?_⟩⟩
  · rw [hgk]
    exact vk_R.of (hts (.stringRef "PlayedLaws" 77 jTxt) (by decide +kernel)) (h2 0 (by omega))
  · refine ⟨fun i hi => ?_, fun i j hi hj _ => by omega⟩
    obtain rfl : i = 0 := by omega
    show va_O _ (g (18, (0, 0))) _ _ _ ∧ va_OF _ _ _ _ (g (18, (0, 0))) _ _ _ ∧ va_OF _ _ _ _ (g (18, (0, 0))) _ _ _ ∧ _
    rw [hgk]
    exact h1.1 0 (by omega)
  · exact va_Zof (args := args) (hts _ (by decide +kernel)) (hts _ (by decide +kernel)) (va_eqt (hs _ (by decide +kernel))) hA
  · exact va_Zqof (args := args) (hts _ (by decide +kernel)) (hts _ (by decide +kernel)) (hs _ (by decide +kernel)) hA
/-- how the machine stands at the entry -/
theorem jRel_0 {s : State} {args : Array Value} {b L : Nat} {xs : Nat → Int32} (hts : ∀ w ∈ lw_tbl, w.before args s = true) (hg : (Jvm.Cond.and given_1 narrow_1).before args s = true) (hX : va_X b L xs s s.heap) (hL : L ≤ 256) (hb : b < s.heap.size) : ∃ (g : jR → Nat) (dC : Nat → ClassId) (dI : Nat → Nat → Nat) (cA : Nat → ClassId), jGd g b s.heap.size ∧ jRel g b s.heap.size dC dI cA (0, ([], mrg Q17 (jX L xs) (wM []))) s s.heap := by
  obtain ⟨dC, dI, cA, hK⟩ := jK_all hts
  obtain ⟨ks, hk⟩ := jXt_0 hts hg
  have e : (jSL (mrg Q17 (jX L xs) (wM []))).toNatClampNeg = L := jn_clamp (k := L) (by omega)
  refine ⟨jG b s.heap.size ks, dC, dI, cA, jG_ok hb, Nat.zero_le _, fun k q hq => ?_, hK, jCar_0 hts, ⟨?_, hk _ rfl⟩, ?_, jclo_0⟩
  · cases hq
  · show va_X b (jSL (mrg Q17 (jX L xs) (wM []))).toNatClampNeg xs s s.heap
    rw [e]
    exact hX
  · show Int32.ofNat (jSL (mrg Q17 (jX L xs) (wM []))).toNatClampNeg = _
    rw [e]
    rfl
