/-! calls; every run -/
section JRUN
variable {p : Program} {l : Launch} {e : Env} {R : Room} {s : State} {m : MethodId} {args : Array Value} {below : List Frame} {meth : Method} {c : Code} {Q : State → Prop}
variable {g : jR → Nat} {b base : Nat} {dC : Nat → ClassId} {dI : Nat → Nat → Nat} {cA : Nat → ClassId}
theorem jPc_blind {as : List jV} {σ : jS} : FrameBlind (jPc g b base dC dI cA as σ) := by
  intro a U f mk h
  obtain ⟨h1, h2, h3⟩ := h
  exact ⟨h1, h2, jRel_same (u := U) (U := U.calling f mk a) rfl h3⟩
theorem jrun_W {H : Heap} {locs : List Loc} {cells slots mc ms pc : Nat} {ls : Array Slot} {stk rest : List Value} {Qa : State → Outcome → State → Prop} {free : Addr → Prop}
    (run : va_Run p l e R s m args below meth c H locs cells slots mc ms (F0 m pc ls stk) rest Qa free)
    (kk : ∀ (v : Option Value) (st₀ t : State) (L : List Loc), st₀.heap = H → Qa st₀ (.returned v) t → t.vm.Alike s.vm → (∀ q ∈ L, free q.base) → W p l e R s m args below meth c t.heap (locs ++ L) (cells + mc) (slots + ms) Q (F0 m (pc + 3) ls (v.toList ++ rest))) : W p l e R s m args below meth c H locs cells slots Q (F0 m pc ls stk) := by
  intro T hT X
  obtain ⟨v, st₀, t, T', L, h0, X', hL, e1, e2, hQ, go⟩ := run T hT X
  obtain ⟨tt, a1, b1⟩ := kk v st₀ t L h0 hQ (by rw [← e2]; exact X'.warmed.alike.symm) hL T' e1 X'
  exact ⟨tt, go tt a1, b1⟩
theorem jinit_ret {m' : Nat} (h : jInitT.getD m' false = true) : jRetT.getD m' none = none := by
  have h0 : ((List.range 200).all fun k => !(jInitT.getD k false) || decide (jRetT.getD k none = none)) = true := by decide +kernel
  by_cases hm : m' < 200
  · have h1 := List.all_eq_true.mp h0 m' (List.mem_range.mpr hm)
    rw [h] at h1
    simpa using h1
  · rw [List.getD_eq_getElem?_getD, List.getElem?_eq_none (by rw [show jRetT.length = 200 by decide +kernel]; omega)]
    rfl
set_option maxHeartbeats 8000000 in
set_option maxRecDepth 20000 in
theorem jcall {f d mm pc i n m' : Nat} {al : jL} {st as rest : List jV} {σ σ1 : jS} {v1 : Option jV} {I : Instr} {cells slots : Nat} {ls : Array Slot} {H : Heap} {locs : List Loc} (hS : jSnd g b base dC dI cA l f) (hG : jGd g b base)
    (hI : I = .invokespecial i ∨ I = .invokevirtual i ∨ I = .invokestatic i) (hF : jF mm pc = some (I, n)) (hinv : jinv mm i n st I = some (.inr (.inl (m', (as, rest))))) (hr1 : jrun f d m' (0, (jent m' as, ([], σ))) = some (v1, σ1))
    (C0 : jStat p R s m args meth c base mm) (hfr : d + 1 + 10 ≤ R.frames) (hlo : 1000 + 100 * (d + 1) ≤ R.locals) (N : jNow g b base dC dI cA s mm al st σ ls H locs) (hc : s.heap.size + cells = base + σ.1) (hcR : cells + (σ1.1 - σ.1) ≤ R.cells) (hsR : slots + (jsz σ1.1 - jsz σ.1) ≤ R.slots)
    (K : ∀ (H1 : Heap) (locs1 : List Loc), jNow g b base dC dI cA s mm al (v1.toList ++ rest) σ1 ls H1 locs1 → W p l e R s m args below meth c H1 locs1 (cells + (σ1.1 - σ.1)) (slots + (jsz σ1.1 - jsz σ.1)) Q (F0 m (pc + 3) ls ((v1.toList ++ rest).map (jcv g)))) :
    W p l e R s m args below meth c H locs cells slots Q (F0 m pc ls (st.map (jcv g))) := by
  obtain ⟨hlk, hpop, hrl, hm, hlen, hsm, hkind⟩ := jinv_spec hinv
  obtain ⟨hx, hb, hml, hown, hts, hlocks, hin, hbs, hfr1, hlo1⟩ := C0
  obtain ⟨hR, hl, hva, hvs, hSS⟩ := id N
  obtain ⟨h512, hP, hK, hC, hX, hL, hcl⟩ := id hR
  obtain ⟨w1, w2, w3, w4, w5, w6, w7, w8, w9⟩ := jmeth hm
  have hd0 := jF_dec hF
  have hn0 := jF_ln hF
  refine jW_le (fun hsz => ?_)
  have hsz2 : H.size = base + σ.1 := by
    have := jHsize (dC := dC) (dI := dI) h512 hP (Nat.le_trans hbs hSS.1)
    omega
  have has : jvs σ.1 as := by
    rcases jpop_spec hpop with ⟨-, e1, -⟩ | ⟨-, r, As, e1, e2, -, -⟩
    · intro w hw
      exact hvs w (by rw [e1]; exact List.mem_append_left _ (List.mem_reverse.mpr hw))
    · intro w hw
      rw [e1] at hw
      rcases List.mem_cons.mp hw with rfl | hw
      · exact hvs _ (by rw [e2]; exact List.mem_append_right _ List.mem_cons_self)
      · exact hvs w (by rw [e2]; exact List.mem_append_left _ (List.mem_reverse.mpr hw))
  have hrest : jvs σ.1 rest := by
    rcases jpop_spec hpop with ⟨-, e1, -⟩ | ⟨-, r, As, e1, e2, -, -⟩
    · exact fun w hw => hvs w (by rw [e1]; exact List.mem_append_right _ hw)
    · exact fun w hw => hvs w (by rw [e2]; exact List.mem_append_right _ (List.mem_cons_of_mem _ hw))
  have hmono : σ.1 ≤ σ1.1 := jrun_mono _ _ _ _ _ _ _ _ _ hr1
  have hM := jmet hS hm hr1 has hlen hsm
  have hmax : jMaxT.getD m' 0 ≤ 12 := by
    have h0 : (jMaxT.all fun k => Nat.ble k 12) = true := by decide +kernel
    rw [List.getD_eq_getElem?_getD]
    cases hq : jMaxT[m']? with
    | none => simp
    | some k => exact Nat.le_of_ble_eq_true (List.all_eq_true.mp h0 k (List.mem_of_getElem? hq))
  have pay : ∀ w ∈ jwc m', ∀ (a' : Array Value) (U : State), s.WarmedH U.vm → w.before a' U = true := by
    intro w hw a' U hW
    rcases List.mem_cons.mp hw with rfl | hw
    · exact word_at hW (good_of_word (jTs_good _ w1)) (hts _ w1)
    · exact word_at hW (good_of_word (jTs_good _ hw)) (hts _ hw)
  have hpar : ∀ (k : Nat), k = jParT.getD m' 0 → ∀ sig, parseMethodDescriptor (jYT.getD m' objectInit).desc = some sig → k = sig.parameters.length := by
    intro k hk sig hsig
    rw [hsig] at w5
    rw [hk]
    exact (Option.some.inj w5).symm
  have hroom : (jrm d (σ1.1 - σ.1) (jsz σ1.1 - jsz σ.1)).frames + 1 ≤ R.frames ∧ 8 + (jMaxT.getD m' 0 + 11) + (jrm d (σ1.1 - σ.1) (jsz σ1.1 - jsz σ.1)).locals ≤ R.locals := ⟨by show d + 10 + 1 ≤ R.frames; omega, by show 8 + (jMaxT.getD m' 0 + 11) + (1000 + 100 * d) ≤ R.locals; omega⟩
  have hPU : ∀ U : State, U.heap = H → s.WarmedH U.vm → jPc g b base dC dI cA as σ (as.map (jcv g)).toArray U := fun U hU hW => ⟨rfl, by rw [hU]; exact hsz2, by rw [hU]; exact jRel_warm hW hR⟩
  have hw8 := jlt4 g hrl
  have CF : CallFix p m c (jBytesT.getD mm .empty) (jMaxT.getD mm 0) s args jTs (jC (jOwn mm)) := ⟨hx, hb, hml, hown, hts⟩
  -- behind the call
  have fin : ∀ (stk : List Value), va_Run p l e R s m args below meth c H locs cells slots (σ1.1 - σ.1) (jsz σ1.1 - jsz σ.1) (F0 m pc ls stk) (rest.map (jcv g)) (jQc g b base dC dI cA v1 σ1 (as.map (jcv g)).toArray) (fun q => base ≤ q) → W p l e R s m args below meth c H locs cells slots Q (F0 m pc ls stk) := by
    intro stk run
    refine jrun_W run (fun w st₀ t L h0 hQ hal hLL => ?_)
    obtain ⟨q1, q2, q3, q4⟩ := hQ
    have q1 : w = v1.map (jcv g) := Outcome.returned.inj q1
    subst q1
    have N1 : jNow g b base dC dI cA s mm al (v1.toList ++ rest) σ1 ls t.heap (locs ++ L) := by
      refine ⟨jRel_back hal hR q2, hl, fun i v h => jokv_mono (hva i v h) hmono, ?_, ?_⟩
      · intro v hv
        rcases List.mem_append.mp hv with hv | hv
        · exact q4 v (by cases v1 with
            | none => cases hv
            | some z => rw [List.mem_singleton.mp hv])
        · exact jokv_mono (hrest v hv) hmono
      · obtain ⟨f1, f2⟩ := q3
        rw [h0] at f1 f2
        refine ⟨Nat.le_trans hSS.1 f1, fun q g1 g2 => ?_, fun q hq => ?_⟩
        · exact (f2 q (Nat.lt_of_lt_of_le g1 hSS.1) g2).trans (hSS.2.1 q g1 g2)
        · rcases List.mem_append.mp hq with hq | hq
          · exact hSS.2.2 q hq
          · exact hLL q hq
    have kk := K t.heap (locs ++ L) N1
    have e1 : (v1.toList ++ rest).map (jcv g) = (v1.map (jcv g)).toList ++ rest.map (jcv g) := by
      cases v1 <;> simp
    rw [e1] at kk
    exact kk
  rcases jpop_spec hpop with ⟨hst, e1, e2⟩ | ⟨hst, r, As, e1, e2, e3, e4⟩
  · -- static
    have hI2 : I = .invokestatic i := by
      rcases hI with rfl | rfl | rfl
      · simp only [jkind, hst] at hkind
        exact absurd hkind (by simp)
      · simp only [jkind, hst] at hkind
        exact absurd hkind (by simp)
      · rfl
    subst hI2
    rw [if_pos hst] at w3
    simp only [jln] at hn0
    obtain rfl : n = 3 := by omega
    have hstk : st.map (jcv g) = (as.map (jcv g)).reverse ++ rest.map (jcv g) := by rw [e1, List.map_append, List.map_reverse]
    rw [hstk]
    refine fin _ ?_
    rcases jlnk (Or.inl hm) hlk with hl1 | hl1
    · exact va_runS CF hM ⟨⟨rfl, rfl, hroom.1, hroom.2, pay, List.mem_cons_self, hts _ w1, hts _ w2, w8, hpar _ (by rw [List.length_map]; exact e2), hts _ hl1⟩, hts _ w3⟩ ⟨jPc_blind, hPU⟩ rfl rfl hl.2.1 rfl (by show 2 * 0 + _ ≤ 8; omega) hd0 ⟨hcR, hsR⟩
    · exact va_runSN CF hM ⟨⟨⟨rfl, rfl, hroom.1, hroom.2, pay, List.mem_cons_self⟩, hts _ w1, hts _ w2, w8, hpar _ (by rw [List.length_map]; exact e2), va_Nw.use rfl (hC.1 _ hl1)⟩, hts _ w3, trivial⟩ ⟨jPc_blind, hPU⟩ rfl rfl hl.2.1 rfl (by show 2 * 0 + _ ≤ 8; omega) hd0 ⟨hcR, hsR⟩
  · rw [if_neg (by rw [hst]; decide)] at w3
    have hstk : st.map (jcv g) = (As.map (jcv g)).reverse ++ .ref (g r) :: rest.map (jcv g) := by
      rw [e2, List.map_append, List.map_reverse]
      rfl
    have has2 : (as.map (jcv g)).toArray = (Value.ref (g r) :: As.map (jcv g)).toArray := by rw [e1]; rfl
    rw [has2] at hPU fin
    rw [hstk]
    refine fin _ ?_
    have hnum : (As.map (jcv g)).length = jParT.getD m' 0 := by rw [List.length_map]; exact e3
    rcases hI with rfl | rfl | rfl
    · -- a constructor
      have hini : jInitT.getD m' false = true := by
        simp only [jkind, hst, Bool.not_false, Bool.true_and] at hkind
        exact hkind
      simp only [jln] at hn0
      obtain rfl : n = 3 := by omega
      have hret := jinit_ret hini
      have w1' := w1
      rw [hret] at w1'
      have mem' : Cond.code (jYT.getD m' objectInit) (jBytesT.getD m' .empty) (jMaxT.getD m' 0) none ∈ jwc m' := by
        rw [← hret]
        exact List.mem_cons_self
      rcases jlnk (Or.inl hm) hlk with hl1 | hl1
      · exact va_runI CF hM ⟨⟨rfl, rfl, hroom.1, hroom.2, pay, mem', hts _ w1', hts _ w2, w8, hpar _ hnum, hts _ hl1⟩, w6 hini, hts _ w3⟩ ⟨jPc_blind, hPU⟩ rfl rfl hl.2.1 rfl (by show 2 * 0 + _ ≤ 8; omega) hd0 ⟨hcR, hsR⟩
      · exact va_runIN CF hM ⟨⟨⟨rfl, rfl, hroom.1, hroom.2, pay, mem'⟩, hts _ w1', hts _ w2, w8, hpar _ hnum, va_Nw.use rfl (hC.1 _ hl1)⟩, w6 hini, hts _ w3⟩ ⟨jPc_blind, hPU⟩ rfl rfl hl.2.1 rfl (by show 2 * 0 + _ ≤ 8; omega) hd0 ⟨hcR, hsR⟩
    · -- a method of an object
      have hini : jInitT.getD m' false = false := by
        have := hkind
        simp only [jkind, hst, Bool.not_false, Bool.true_and, Bool.not_eq_true'] at this
        exact this
      simp only [jln] at hn0
      obtain rfl : n = 3 := by omega
      have hro : jok σ.1 r := hvs (jRf r) (by rw [e2]; exact List.mem_append_right _ List.mem_cons_self)
      have hk12 : r.1 < 12 := by
        rw [e4]
        have h0 : ((List.range 198).all fun k => jStatT.getD k false || Nat.blt (jOwn k) 12) = true := by decide +kernel
        have h1 := List.all_eq_true.mp h0 m' (List.mem_range.mpr hm)
        rw [hst] at h1
        simpa [Nat.blt_eq] using h1
      obtain ⟨j, j1, j2, j3, j4⟩ := jRel_at hG hR hro rfl (by omega)
      rw [jEn_obj hk12] at j4
      have hrecv := va_recv hK hP (jcl_at r.1 hk12) j4
      rw [← j3, e4] at hrecv
      have hPV : PreV s H (jC (jOwn m')) (g r) (jPc g b base dC dI cA as σ) (As.map (jcv g)) := ⟨jPc_blind, hrecv, hPU⟩
      rcases jlnk (Or.inl hm) hlk with hl1 | hl1
      · exact va_runV CF hM ⟨⟨rfl, rfl, hroom.1, hroom.2, pay, List.mem_cons_self, hts _ w1, hts _ w2, w8, hpar _ hnum, hts _ hl1⟩, hts _ w3, hts _ (w4 hst hini)⟩ hPV rfl rfl hl.2.1 rfl (by show 2 * 0 + _ ≤ 8; omega) hd0 ⟨hcR, hsR⟩
      · exact va_runVN CF hM ⟨⟨⟨rfl, rfl, hroom.1, hroom.2, pay, List.mem_cons_self⟩, hts _ w1, hts _ w2, w8, hpar _ hnum, va_Nw.use rfl (hC.1 _ hl1)⟩, hts _ w3, hts _ (w4 hst hini)⟩ hPV rfl rfl hl.2.1 rfl (by show 2 * 0 + _ ≤ 8; omega) hd0 ⟨hcR, hsR⟩
    · simp only [jkind, hst] at hkind
      exact absurd hkind (by simp)
set_option maxHeartbeats 4000000 in
/-- every run of the pure machine is the machine's -/
theorem jsnd (hStr : jStrOk g b base dC dI cA l) (hG : jGd g b base) : ∀ f, jSnd g b base dC dI cA l f := by
  intro f
  induction f with
  | zero => intro d mm pc al st σ v σ' h; simp [jrun] at h
  | succ f ih =>
    intro d mm pc al st σ v σ' h p e R s m args below meth c Q cells slots ls H locs C0 hfr hlo N hc hcR hsR K
    rw [jrun] at h
    unfold jstep at h
    cases hF : jF mm pc with
    | none => rw [hF] at h; cases h
    | some q =>
      obtain ⟨I, n⟩ := q
      rw [hF] at h
      dsimp only at h
      cases hx : jexe mm pc n al st σ I with
      | none => rw [hx] at h; cases h
      | some o =>
        rw [hx] at h
        rcases o with ⟨pc1, al1, st1, σ1⟩ | ⟨m', as, rest⟩ | v1
        · have m1 := jexe_mono hx
          have m2 := jrun_mono _ _ _ _ _ _ _ _ _ h
          have z1 := jsz_mono m1
          have z2 := jsz_mono m2
          refine jsim hStr C0 hG hF hx N hc (by omega) (by omega) (by omega) (fun H1 ls1 locs1 N1 => ?_)
          refine ih d mm pc1 al1 st1 σ1 v σ' h C0 hfr hlo N1 (by omega) (by omega) (by omega) (fun H2 ls2 locs2 pc2 n2 al2 st2 I2 f1 f2 f3 => ?_)
          have kk := K H2 ls2 locs2 pc2 n2 al2 st2 I2 f1 f2 f3
          rw [show cells + (σ1.1 - σ.1) + (σ'.1 - σ1.1) = cells + (σ'.1 - σ.1) by omega, show slots + (jsz σ1.1 - jsz σ.1) + (jsz σ'.1 - jsz σ1.1) = slots + (jsz σ'.1 - jsz σ.1) by omega]
          exact kk
        · cases d with
          | zero => cases h
          | succ d =>
            dsimp only at h
            split at h
            · cases h
            · rename_i v2 σ2 q
              obtain ⟨i, hI, hinv⟩ := jexe_call hx
              have m1 := jrun_mono _ _ _ _ _ _ _ _ _ q
              have m2 := jrun_mono _ _ _ _ _ _ _ _ _ h
              have z1 := jsz_mono m1
              have z2 := jsz_mono m2
              refine jcall ih hG hI hF hinv q C0 hfr hlo N hc (by omega) (by omega) (fun H1 locs1 N1 => ?_)
              refine ih (d + 1) mm (pc + 3) al _ σ2 v σ' h C0 hfr hlo N1 (by omega) (by omega) (by omega) (fun H2 ls2 locs2 pc2 n2 al2 st2 I2 f1 f2 f3 => ?_)
              have kk := K H2 ls2 locs2 pc2 n2 al2 st2 I2 f1 f2 f3
              rw [show cells + (σ2.1 - σ.1) + (σ'.1 - σ2.1) = cells + (σ'.1 - σ.1) by omega, show slots + (jsz σ2.1 - jsz σ.1) + (jsz σ'.1 - jsz σ2.1) = slots + (jsz σ'.1 - jsz σ.1) by omega]
              exact kk
        · cases h
          have kk := K H ls locs pc n al st I hF hx N
          rw [Nat.sub_self, Nat.sub_self] at kk
          exact kk
end JRUN
