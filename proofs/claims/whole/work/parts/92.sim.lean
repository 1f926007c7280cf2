/-! one instruction: locals, stack, numbers, branches -/
section JSIM
variable {p : Program} {l : Launch} {e : Env} {R : Room} {s : State} {m : MethodId} {args : Array Value} {below : List Frame} {meth : Method} {c : Code} {Q : State → Prop}
variable {g : jR → Nat} {b base : Nat} {dC : Nat → ClassId} {dI : Nat → Nat → Nat} {cA : Nat → ClassId}
/-- the method's own: machine, code, class, words, room for natives -/
def jStat (p : Program) (R : Room) (s : State) (m : MethodId) (args : Array Value) (meth : Method) (c : Code) (base mm : Nat) : Prop :=
  p.tables.exec = Jvm.exec ∧ c.code = jBytesT.getD mm .empty ∧ c.maxLocals = jMaxT.getD mm 0 ∧ s.vm.findClass (jC (jOwn mm)) = some m.cls ∧ (∀ w ∈ jTs, w.before args s = true) ∧ meth.locks = false ∧ (jInitT.getD mm false = true → meth.name = "<init>") ∧ base ≤ s.heap.size ∧ 1 ≤ R.frames ∧ 1000 ≤ R.locals
/-- the state at a frame -/
def jNow (g : jR → Nat) (b base : Nat) (dC : Nat → ClassId) (dI : Nat → Nat → Nat) (cA : Nat → ClassId) (s : State) (mm : Nat) (al : jL) (st : List jV) (σ : jS) (ls : Array Slot) (H : Heap) (locs : List Loc) : Prop :=
  jRel g b base dC dI cA σ s H ∧ jlr g mm ls al ∧ jva σ.1 al ∧ jvs σ.1 st ∧ va_S (fun q => base ≤ q) s.heap H locs
theorem jlr_at {mm : Nat} {ls : Array Slot} {al : jL} {i : Nat} {v : jV} (h : jlr g mm ls al) (ha : al[i]? = some (some v)) : ls[i]? = some (.val (jcv g v)) := h.2.2.2.1 i v ha
theorem jnow_st {mm : Nat} {al : jL} {st st' : List jV} {σ : jS} {ls : Array Slot} {H : Heap} {locs : List Loc} (h : jNow g b base dC dI cA s mm al st σ ls H locs) (h' : jvs σ.1 st') : jNow g b base dC dI cA s mm al st' σ ls H locs :=
  ⟨h.1, h.2.1, h.2.2.1, h', h.2.2.2.2⟩
theorem jnow_lo {mm i : Nat} {al al' : jL} {v : jV} {st st' : List jV} {σ : jS} {ls ls' : Array Slot} {H : Heap} {locs : List Loc} (h : jNow g b base dC dI cA s mm al st σ ls H locs) (h' : jvs σ.1 st') (hv : (jcv g v).category = 1) (ho : jokv σ.1 v) (hs : jst mm al i v = some al')
    (hh : lv_has ls' (jMaxT.getD mm 0) ((i, jcv g v) :: (jlv g al).filter (fun q => !(q.1 == i) && !(q.1 + 1 == i && q.2.category == 2)))) : jNow g b base dC dI cA s mm al' st' σ ls' H locs :=
  ⟨h.1, jlr_store hv h.2.1 hs hh, jva_st hs h.2.2.1 ho, h', h.2.2.2.2⟩
theorem jst_lt {mm i : Nat} {al al' : jL} {v : jV} {ls : Array Slot} (h : jlr g mm ls al) (hs : jst mm al i v = some al') : i < jMaxT.getD mm 0 := by
  rw [← h.1]
  exact (jst_spec hs).1
def jNum : Instr → Bool
  | .iconst _ | .bipush _ | .sipush _ | .lconst _ | .aconst_null | .ldc_w _ | .ldc2_w _ | .iload _ | .iload_n _ | .lload _ | .lload_n _ | .aload _ | .aload_n _ | .istore _ | .istore_n _ | .astore _ | .astore_n _ | .lstore _ | .iinc .. | .pop | .dup | .dup2 => true
  | .iadd | .isub | .imul | .idiv | .irem | .iand | .ior | .ixor | .ishl | .ishr | .iushr | .ineg | .i2b | .i2l | .l2i | .ladd | .lmul | .lrem => true
  | .goto _ | .ifCond .. | .if_icmp .. | .ifnull _ | .ifnonnull _ | .tableswitch .. | .lookupswitch .. => true
  | _ => false
theorem jval_st {n : Nat} {i : Nat} {al : jL} {v : jV} (h : jva n al) (ha : al[i]? = some (some v)) : jokv n v := h i v ha
set_option maxHeartbeats 8000000 in
set_option maxRecDepth 20000 in
theorem jsim_num {cells slots mm pc n : Nat} {al al' : jL} {st st' : List jV} {σ σ' : jS} {pc' : Nat} {I : Instr} {ls : Array Slot} {H : Heap} {locs : List Loc} (hI : jNum I = true)
    (C0 : jStat p R s m args meth c base mm) (hF : jF mm pc = some (I, n)) (h : jexe mm pc n al st σ I = some (.inl (pc', (al', (st', σ'))))) (N : jNow g b base dC dI cA s mm al st σ ls H locs)
    (K : σ' = σ → ∀ ls' : Array Slot, jNow g b base dC dI cA s mm al' st' σ ls' H locs → W p l e R s m args below meth c H locs cells slots Q (F0 m pc' ls' (st'.map (jcv g)))) :
    W p l e R s m args below meth c H locs cells slots Q (F0 m pc ls (st.map (jcv g))) := by
  obtain ⟨hx, hb, hml, hown, hts, hlk, hin, hbs, hfr, hlo⟩ := C0
  have hd := jF_dec hF
  have hn := jF_ln hF
  have hl := N.2.1
  have hva := N.2.2.1
  have hvs := N.2.2.2.1
  cases I with
  | iconst i =>
    simp only [jln] at hn
    obtain rfl : n = 1 := by omega
    simp only [jexe] at h
    cases h
    exact lv_iconst hx hb hd rfl (K rfl ls (jnow_st N (jvs_cons trivial hvs)))
  | bipush i =>
    simp only [jln] at hn
    obtain rfl : n = 2 := by omega
    simp only [jexe] at h
    split at h
    · rename_i q
      cases h
      exact lv_bipush hx hb hd (jbip q) (K rfl ls (jnow_st N (jvs_cons trivial hvs)))
    · cases h
  | sipush i =>
    simp only [jln] at hn
    obtain rfl : n = 3 := by omega
    simp only [jexe] at h
    split at h
    · rename_i q
      cases h
      exact lv_sipush hx hb hd (jsip q) (K rfl ls (jnow_st N (jvs_cons trivial hvs)))
    · cases h
  | lconst i =>
    simp only [jln] at hn
    obtain rfl : n = 1 := by omega
    simp only [jexe] at h
    cases h
    exact lv_lconst hx hb hd rfl (K rfl ls (jnow_st N (jvs_cons trivial hvs)))
  | aconst_null =>
    simp only [jln] at hn
    obtain rfl : n = 1 := by omega
    simp only [jexe] at h
    cases h
    exact lv_null hx hb hd (K rfl ls (jnow_st N (jvs_cons trivial hvs)))
  | ldc_w i =>
    simp only [jln] at hn
    obtain rfl : n = 3 := by omega
    simp only [jexe] at h
    split at h
    · rename_i x q
      cases h
      exact lv_ldcw hx hb hown (hts _ (jcst q)) hd (K rfl ls (jnow_st N (jvs_cons trivial hvs)))
    · cases h
  | ldc2_w i =>
    simp only [jln] at hn
    obtain rfl : n = 3 := by omega
    simp only [jexe] at h
    split at h
    · rename_i x q
      cases h
      exact lv_ldc2 hx hb hown (hts _ (jlng q)) hd (K rfl ls (jnow_st N (jvs_cons trivial hvs)))
    · cases h
  | iload i =>
    simp only [jln] at hn
    obtain rfl : n = 2 := by omega
    simp only [jexe] at h
    split at h
    · rename_i x q
      cases h
      exact lv_iload hx hb hd (jlr_at hl q) (K rfl ls (jnow_st N (jvs_cons trivial hvs)))
    · cases h
  | iload_n i =>
    simp only [jln] at hn
    obtain rfl : n = 1 := by omega
    simp only [jexe] at h
    split at h
    · rename_i x q
      cases h
      exact lv_iload_n hx hb hd rfl (jlr_at hl q) (K rfl ls (jnow_st N (jvs_cons trivial hvs)))
    · cases h
  | lload i =>
    simp only [jln] at hn
    obtain rfl : n = 2 := by omega
    simp only [jexe] at h
    split at h
    · rename_i x q
      cases h
      exact lv_lload hx hb hd (jlr_at hl q) (K rfl ls (jnow_st N (jvs_cons trivial hvs)))
    · cases h
  | lload_n i =>
    simp only [jln] at hn
    obtain rfl : n = 1 := by omega
    simp only [jexe] at h
    split at h
    · rename_i x q
      cases h
      exact lv_lload_n hx hb hd rfl (jlr_at hl q) (K rfl ls (jnow_st N (jvs_cons trivial hvs)))
    · cases h
  | aload i =>
    simp only [jln] at hn
    obtain rfl : n = 2 := by omega
    simp only [jexe] at h
    split at h
    · rename_i x q
      cases h
      rcases x with _ | r
      · exact lv_aloadN hx hb hd (jlr_at hl q) (K rfl ls (jnow_st N (jvs_cons trivial hvs)))
      · exact lv_aload hx hb hd (jlr_at hl q) (K rfl ls (jnow_st N (jvs_cons (jval_st hva q) hvs)))
    · cases h
  | aload_n i =>
    simp only [jln] at hn
    obtain rfl : n = 1 := by omega
    simp only [jexe] at h
    split at h
    · rename_i x q
      cases h
      rcases x with _ | r
      · exact lv_aload_nN hx hb hd rfl (jlr_at hl q) (K rfl ls (jnow_st N (jvs_cons trivial hvs)))
      · exact lv_aload_n hx hb hd rfl (jlr_at hl q) (K rfl ls (jnow_st N (jvs_cons (jval_st hva q) hvs)))
    · cases h
  | istore i =>
    simp only [jln] at hn
    obtain rfl : n = 2 := by omega
    simp only [jexe] at h
    split at h
    · split at h
      · rename_i q
        cases h
        exact lv_istore hx hb hd (jlr_has hl) (jst_lt hl q) rfl (fun ls' hh => K rfl ls' (jnow_lo (v := .inl _) N (jvs_tl hvs) rfl trivial q hh))
      · cases h
    · cases h
  | istore_n i =>
    simp only [jln] at hn
    obtain rfl : n = 1 := by omega
    simp only [jexe] at h
    split at h
    · split at h
      · rename_i q
        cases h
        exact lv_istore_n hx hb hd rfl (jlr_has hl) (jst_lt hl q) rfl (fun ls' hh => K rfl ls' (jnow_lo (v := .inl _) N (jvs_tl hvs) rfl trivial q hh))
      · cases h
    · cases h
  | astore i =>
    simp only [jln] at hn
    obtain rfl : n = 2 := by omega
    simp only [jexe] at h
    split at h
    · rename_i x st0
      split at h
      · rename_i q
        cases h
        rcases x with _ | r
        · exact lv_astoreN hx hb hd (jlr_has hl) (jst_lt hl q) rfl (fun ls' hh => K rfl ls' (jnow_lo (v := jNl) N (jvs_tl hvs) rfl trivial q hh))
        · exact lv_astore hx hb hd (jlr_has hl) (jst_lt hl q) rfl (fun ls' hh => K rfl ls' (jnow_lo (v := jRf r) N (jvs_tl hvs) rfl (hvs _ List.mem_cons_self) q hh))
      · cases h
    · cases h
  | astore_n i =>
    simp only [jln] at hn
    obtain rfl : n = 1 := by omega
    simp only [jexe] at h
    split at h
    · rename_i x st0
      split at h
      · rename_i q
        cases h
        rcases x with _ | r
        · exact lv_astore_nN hx hb hd rfl (jlr_has hl) (jst_lt hl q) rfl (fun ls' hh => K rfl ls' (jnow_lo (v := jNl) N (jvs_tl hvs) rfl trivial q hh))
        · exact lv_astore_n hx hb hd rfl (jlr_has hl) (jst_lt hl q) rfl (fun ls' hh => K rfl ls' (jnow_lo (v := jRf r) N (jvs_tl hvs) rfl (hvs _ List.mem_cons_self) q hh))
      · cases h
    · cases h
  | lstore i =>
    simp only [jln] at hn
    obtain rfl : n = 2 := by omega
    simp only [jexe] at h
    split at h
    · rename_i x st0
      split at h
      · rename_i q
        cases h
        refine lv_lstore hx hb hd (jlr_has hl) (by rw [← hl.1]; exact q.2) rfl (fun ls' hh => K rfl ls' ⟨N.1, ?_, ?_, jvs_tl hvs, N.2.2.2.2⟩)
        · refine ⟨by simp [hl.1], hh.1, hh.2.1, fun k w hk => ?_, fun k x' hk => ?_⟩
          · by_cases e : i = k
            · subst e
              rw [List.getElem?_set_self (by rw [List.length_set]; omega)] at hk
              cases hk
              exact hh.2.2 _ List.mem_cons_self
            · rw [List.getElem?_set_ne e] at hk
              by_cases e1 : i + 1 = k
              · subst e1
                rw [List.getElem?_set_self q.2] at hk
                cases hk
              · rw [List.getElem?_set_ne e1] at hk
                refine hh.2.2 (k, jcv g w) (List.mem_cons_of_mem _ (List.mem_filter.mpr ⟨jlv_mem.mpr ⟨w, hk, rfl⟩, ?_⟩))
                have f1 : (k == i) = false := by simp; exact fun z => e z.symm
                have f2 : (k == i + 1) = false := by simp; exact fun z => e1 z.symm
                have f3 : ((jcv g w).category == 2 && k + 1 == i) = false := by
                  by_cases e3 : (jcv g w).category = 2
                  · obtain ⟨y, rfl⟩ := jcv_cat e3
                    have := hl.2.2.2.2 k y hk
                    rw [q.1] at this
                    exact absurd (List.mem_singleton.mp this) (fun z => e z.symm)
                  · simp [e3]
                simp only [f1, f2, Bool.not_false, Bool.true_and, Bool.not_eq_true']
                rw [Bool.and_comm]
                exact f3
          · by_cases e : i = k
            · subst e
              rw [q.1]
              exact List.mem_singleton.mpr rfl
            · rw [List.getElem?_set_ne e] at hk
              by_cases e1 : i + 1 = k
              · subst e1
                rw [List.getElem?_set_self q.2] at hk
                cases hk
              · rw [List.getElem?_set_ne e1] at hk
                exact hl.2.2.2.2 k x' hk
        · intro k w hk
          by_cases e : i = k
          · subst e
            rw [List.getElem?_set_self (by rw [List.length_set]; omega)] at hk
            cases hk
            trivial
          · rw [List.getElem?_set_ne e] at hk
            by_cases e1 : i + 1 = k
            · subst e1
              rw [List.getElem?_set_self q.2] at hk
              cases hk
            · rw [List.getElem?_set_ne e1] at hk
              exact hva k w hk
      · cases h
    · cases h
  | iinc i k =>
    simp only [jexe] at h
    split at h
    · rename_i x q0
      split at h
      · rename_i al1 q
        split at h
        · rename_i q3
          subst q3
          cases h
          have hh0 : lv_has ls (jMaxT.getD mm 0) ((i, .int x) :: jlv g al) := ⟨(jlr_has hl).1, (jlr_has hl).2.1, fun w hw => by
            rcases List.mem_cons.mp hw with rfl | hw
            · exact jlr_at hl q0
            · exact (jlr_has hl).2.2 w hw⟩
          refine lv_iinc (k := 0) hx hb hd hh0 rfl rfl (jst_lt hl q) rfl (fun ls' hh => K rfl ls' (jnow_lo (v := jI (x + Int32.ofInt k)) N hvs rfl trivial q ?_))
          refine ⟨hh.1, hh.2.1, fun w hw => hh.2.2 w ?_⟩
          rcases List.mem_cons.mp hw with rfl | hw
          · exact List.mem_cons_self
          · refine List.mem_cons_of_mem _ (List.mem_filter.mpr ⟨List.mem_cons_of_mem _ (List.mem_filter.mp hw).1, (List.mem_filter.mp hw).2⟩)
        · cases h
      · cases h
    · cases h
  | pop =>
    simp only [jln] at hn
    obtain rfl : n = 1 := by omega
    simp only [jexe] at h
    split at h
    · cases h
      exact lv_pop hx hb hd rfl (K rfl ls (jnow_st N (jvs_tl hvs)))
    · cases h
  | dup =>
    simp only [jln] at hn
    obtain rfl : n = 1 := by omega
    simp only [jexe] at h
    split at h
    · cases h
      exact lv_dup hx hb hd rfl (K rfl ls (jnow_st N (jvs_cons trivial hvs)))
    · rename_i x st0
      cases h
      rcases x with _ | r
      · exact lv_dup hx hb hd rfl (K rfl ls (jnow_st N (jvs_cons trivial hvs)))
      · exact lv_dup hx hb hd rfl (K rfl ls (jnow_st N (jvs_cons (hvs _ List.mem_cons_self) hvs)))
    · cases h
  | dup2 =>
    simp only [jln] at hn
    obtain rfl : n = 1 := by omega
    simp only [jexe] at h
    split at h
    · rename_i x y st0
      cases h
      rcases y with _ | r
      · exact lv_dup2_11 hx hb hd rfl rfl (K rfl ls (jnow_st N (jvs_cons trivial (jvs_cons trivial hvs))))
      · exact lv_dup2_11 hx hb hd rfl rfl (K rfl ls (jnow_st N (jvs_cons trivial (jvs_cons (hvs _ (List.mem_cons_of_mem _ List.mem_cons_self)) hvs))))
    · cases h
  | iadd =>
    simp only [jln] at hn
    obtain rfl : n = 1 := by omega
    simp only [jexe] at h
    split at h
    · cases h
      exact lv_iadd hx hb hd (K rfl ls (jnow_st N (jvs_cons trivial (jvs_tl (jvs_tl hvs)))))
    · cases h
  | isub =>
    simp only [jln] at hn
    obtain rfl : n = 1 := by omega
    simp only [jexe] at h
    split at h
    · cases h
      exact lv_isub hx hb hd (K rfl ls (jnow_st N (jvs_cons trivial (jvs_tl (jvs_tl hvs)))))
    · cases h
  | imul =>
    simp only [jln] at hn
    obtain rfl : n = 1 := by omega
    simp only [jexe] at h
    split at h
    · cases h
      exact lv_imul hx hb hd (K rfl ls (jnow_st N (jvs_cons trivial (jvs_tl (jvs_tl hvs)))))
    · cases h
  | iand =>
    simp only [jln] at hn
    obtain rfl : n = 1 := by omega
    simp only [jexe] at h
    split at h
    · cases h
      exact lv_iand hx hb hd (K rfl ls (jnow_st N (jvs_cons trivial (jvs_tl (jvs_tl hvs)))))
    · cases h
  | ior =>
    simp only [jln] at hn
    obtain rfl : n = 1 := by omega
    simp only [jexe] at h
    split at h
    · cases h
      exact lv_ior hx hb hd (K rfl ls (jnow_st N (jvs_cons trivial (jvs_tl (jvs_tl hvs)))))
    · cases h
  | ixor =>
    simp only [jln] at hn
    obtain rfl : n = 1 := by omega
    simp only [jexe] at h
    split at h
    · cases h
      exact lv_ixor hx hb hd (K rfl ls (jnow_st N (jvs_cons trivial (jvs_tl (jvs_tl hvs)))))
    · cases h
  | ishl =>
    simp only [jln] at hn
    obtain rfl : n = 1 := by omega
    simp only [jexe] at h
    split at h
    · cases h
      exact lv_ishl hx hb hd (K rfl ls (jnow_st N (jvs_cons trivial (jvs_tl (jvs_tl hvs)))))
    · cases h
  | ishr =>
    simp only [jln] at hn
    obtain rfl : n = 1 := by omega
    simp only [jexe] at h
    split at h
    · cases h
      exact lv_ishr hx hb hd (K rfl ls (jnow_st N (jvs_cons trivial (jvs_tl (jvs_tl hvs)))))
    · cases h
  | ladd =>
    simp only [jln] at hn
    obtain rfl : n = 1 := by omega
    simp only [jexe] at h
    split at h
    · cases h
      exact lv_ladd hx hb hd (K rfl ls (jnow_st N (jvs_cons trivial (jvs_tl (jvs_tl hvs)))))
    · cases h
  | lmul =>
    simp only [jln] at hn
    obtain rfl : n = 1 := by omega
    simp only [jexe] at h
    split at h
    · cases h
      exact lv_lmul hx hb hd (K rfl ls (jnow_st N (jvs_cons trivial (jvs_tl (jvs_tl hvs)))))
    · cases h
  | iushr =>
    simp only [jln] at hn
    obtain rfl : n = 1 := by omega
    simp only [jexe] at h
    split at h
    · cases h
      exact lv_iushr hx hb hd rfl (K rfl ls (jnow_st N (jvs_cons trivial (jvs_tl (jvs_tl hvs)))))
    · cases h
  | idiv =>
    simp only [jln] at hn
    obtain rfl : n = 1 := by omega
    simp only [jexe] at h
    split at h
    · split at h
      · cases h
      · rename_i q
        cases h
        exact lv_idiv hx hb hd q (K rfl ls (jnow_st N (jvs_cons trivial (jvs_tl (jvs_tl hvs)))))
    · cases h
  | irem =>
    simp only [jln] at hn
    obtain rfl : n = 1 := by omega
    simp only [jexe] at h
    split at h
    · rename_i y x st0
      split at h
      · cases h
      · rename_i q
        cases h
        have hk := K rfl ls (jnow_st N (jvs_cons trivial (jvs_tl (jvs_tl hvs))))
        refine lv_irem hx hb hd q ?_
        rw [irem_eq_mod]
        exact hk
    · cases h
  | lrem =>
    simp only [jln] at hn
    obtain rfl : n = 1 := by omega
    simp only [jexe] at h
    split at h
    · rename_i y x st0
      split at h
      · cases h
      · rename_i q
        cases h
        have hk := K rfl ls (jnow_st N (jvs_cons trivial (jvs_tl (jvs_tl hvs))))
        refine lv_lrem hx hb hd q ?_
        rw [lrem_eq_mod]
        exact hk
    · cases h
  | ineg =>
    simp only [jln] at hn
    obtain rfl : n = 1 := by omega
    simp only [jexe] at h
    split at h
    · cases h
      exact lv_ineg hx hb hd (K rfl ls (jnow_st N (jvs_cons trivial (jvs_tl hvs))))
    · cases h
  | i2b =>
    simp only [jln] at hn
    obtain rfl : n = 1 := by omega
    simp only [jexe] at h
    split at h
    · cases h
      exact lv_i2b hx hb hd rfl (K rfl ls (jnow_st N (jvs_cons trivial (jvs_tl hvs))))
    · cases h
  | i2l =>
    simp only [jln] at hn
    obtain rfl : n = 1 := by omega
    simp only [jexe] at h
    split at h
    · cases h
      exact lv_i2l hx hb hd rfl (K rfl ls (jnow_st N (jvs_cons trivial (jvs_tl hvs))))
    · cases h
  | l2i =>
    simp only [jln] at hn
    obtain rfl : n = 1 := by omega
    simp only [jexe] at h
    split at h
    · cases h
      exact lv_l2i hx hb hd rfl (K rfl ls (jnow_st N (jvs_cons trivial (jvs_tl hvs))))
    · cases h
  | goto off =>
    simp only [jexe] at h
    split at h
    · rename_i q
      obtain ⟨q, rfl⟩ := q
      cases h
      exact lv_goto hx hb hd (jTg_eq q) (K rfl ls N)
    · cases h
  | ifCond k off =>
    simp only [jexe] at h
    split at h
    · cases k
      · simp only [jbr] at h
        split at h
        · rename_i q
          obtain ⟨q, rfl⟩ := q
          cases h
          refine lv_if_eq hx hb hd (jTg_eq q) (fun z => ?_) (fun z => ?_)
          · have hk := K rfl ls (jnow_st N (jvs_tl hvs))
            first | rwa [if_pos z] at hk
          · have hk := K rfl ls (jnow_st N (jvs_tl hvs))
            first | rwa [if_neg z] at hk | rwa [if_neg (fun w => w z)] at hk
        · cases h
      · simp only [jbr] at h
        split at h
        · rename_i q
          obtain ⟨q, rfl⟩ := q
          cases h
          refine lv_if_ne hx hb hd (jTg_eq q) (fun z => ?_) (fun z => ?_)
          · have hk := K rfl ls (jnow_st N (jvs_tl hvs))
            first | rwa [if_pos z] at hk
          · have hk := K rfl ls (jnow_st N (jvs_tl hvs))
            first | rwa [if_neg z] at hk | rwa [if_neg (fun w => w z)] at hk
        · cases h
      · simp only [jbr] at h
        split at h
        · rename_i q
          obtain ⟨q, rfl⟩ := q
          cases h
          refine lv_if_lt hx hb hd (jTg_eq q) (fun z => ?_) (fun z => ?_)
          · have hk := K rfl ls (jnow_st N (jvs_tl hvs))
            first | rwa [if_pos z] at hk
          · have hk := K rfl ls (jnow_st N (jvs_tl hvs))
            first | rwa [if_neg z] at hk | rwa [if_neg (fun w => w z)] at hk
        · cases h
      · simp only [jbr] at h
        split at h
        · rename_i q
          obtain ⟨q, rfl⟩ := q
          cases h
          refine lv_if_ge hx hb hd (jTg_eq q) (fun z => ?_) (fun z => ?_)
          · have hk := K rfl ls (jnow_st N (jvs_tl hvs))
            first | rwa [if_pos z] at hk
          · have hk := K rfl ls (jnow_st N (jvs_tl hvs))
            first | rwa [if_neg z] at hk | rwa [if_neg (fun w => w z)] at hk
        · cases h
      · simp only [jbr] at h
        split at h
        · rename_i q
          obtain ⟨q, rfl⟩ := q
          cases h
          refine lv_if_gt hx hb hd (jTg_eq q) (fun z => ?_) (fun z => ?_)
          · have hk := K rfl ls (jnow_st N (jvs_tl hvs))
            first | rwa [if_pos z] at hk
          · have hk := K rfl ls (jnow_st N (jvs_tl hvs))
            first | rwa [if_neg z] at hk | rwa [if_neg (fun w => w z)] at hk
        · cases h
      · simp only [jbr] at h
        split at h
        · rename_i q
          obtain ⟨q, rfl⟩ := q
          cases h
          refine lv_if_le hx hb hd (jTg_eq q) (fun z => ?_) (fun z => ?_)
          · have hk := K rfl ls (jnow_st N (jvs_tl hvs))
            first | rwa [if_pos z] at hk
          · have hk := K rfl ls (jnow_st N (jvs_tl hvs))
            first | rwa [if_neg z] at hk | rwa [if_neg (fun w => w z)] at hk
        · cases h
    · cases h
  | if_icmp k off =>
    simp only [jexe] at h
    split at h
    · cases k
      · simp only [jbr] at h
        split at h
        · rename_i q
          obtain ⟨q, rfl⟩ := q
          cases h
          refine lv_icmp_eq hx hb hd (jTg_eq q) (fun z => ?_) (fun z => ?_)
          · have hk := K rfl ls (jnow_st N (jvs_tl (jvs_tl hvs)))
            first | rwa [if_pos z] at hk
          · have hk := K rfl ls (jnow_st N (jvs_tl (jvs_tl hvs)))
            first | rwa [if_neg z] at hk | rwa [if_neg (fun w => w z)] at hk
        · cases h
      · simp only [jbr] at h
        split at h
        · rename_i q
          obtain ⟨q, rfl⟩ := q
          cases h
          refine lv_icmp_ne hx hb hd (jTg_eq q) (fun z => ?_) (fun z => ?_)
          · have hk := K rfl ls (jnow_st N (jvs_tl (jvs_tl hvs)))
            first | rwa [if_pos z] at hk
          · have hk := K rfl ls (jnow_st N (jvs_tl (jvs_tl hvs)))
            first | rwa [if_neg z] at hk | rwa [if_neg (fun w => w z)] at hk
        · cases h
      · simp only [jbr] at h
        split at h
        · rename_i q
          obtain ⟨q, rfl⟩ := q
          cases h
          refine lv_icmp_lt hx hb hd (jTg_eq q) (fun z => ?_) (fun z => ?_)
          · have hk := K rfl ls (jnow_st N (jvs_tl (jvs_tl hvs)))
            first | rwa [if_pos z] at hk
          · have hk := K rfl ls (jnow_st N (jvs_tl (jvs_tl hvs)))
            first | rwa [if_neg z] at hk | rwa [if_neg (fun w => w z)] at hk
        · cases h
      · simp only [jbr] at h
        split at h
        · rename_i q
          obtain ⟨q, rfl⟩ := q
          cases h
          refine lv_icmp_ge hx hb hd (jTg_eq q) (fun z => ?_) (fun z => ?_)
          · have hk := K rfl ls (jnow_st N (jvs_tl (jvs_tl hvs)))
            first | rwa [if_pos z] at hk
          · have hk := K rfl ls (jnow_st N (jvs_tl (jvs_tl hvs)))
            first | rwa [if_neg z] at hk | rwa [if_neg (fun w => w z)] at hk
        · cases h
      · simp only [jbr] at h
        split at h
        · rename_i q
          obtain ⟨q, rfl⟩ := q
          cases h
          refine lv_icmp_gt hx hb hd (jTg_eq q) (fun z => ?_) (fun z => ?_)
          · have hk := K rfl ls (jnow_st N (jvs_tl (jvs_tl hvs)))
            first | rwa [if_pos z] at hk
          · have hk := K rfl ls (jnow_st N (jvs_tl (jvs_tl hvs)))
            first | rwa [if_neg z] at hk | rwa [if_neg (fun w => w z)] at hk
        · cases h
      · simp only [jbr] at h
        split at h
        · rename_i q
          obtain ⟨q, rfl⟩ := q
          cases h
          refine lv_icmp_le hx hb hd (jTg_eq q) (fun z => ?_) (fun z => ?_)
          · have hk := K rfl ls (jnow_st N (jvs_tl (jvs_tl hvs)))
            first | rwa [if_pos z] at hk
          · have hk := K rfl ls (jnow_st N (jvs_tl (jvs_tl hvs)))
            first | rwa [if_neg z] at hk | rwa [if_neg (fun w => w z)] at hk
        · cases h
    · cases h
  | ifnull off =>
    simp only [jexe] at h
    split at h
    · simp only [jbr, if_true] at h
      split at h
      · rename_i q
        obtain ⟨q, rfl⟩ := q
        cases h
        exact lv_ifnullN hx hb hd (jTg_eq q) (K rfl ls (jnow_st N (jvs_tl hvs)))
      · cases h
    · simp only [jbr, if_false] at h
      split at h
      · rename_i q
        obtain ⟨q, rfl⟩ := q
        cases h
        exact lv_ifnull hx hb hd (K rfl ls (jnow_st N (jvs_tl hvs)))
      · cases h
    · cases h
  | ifnonnull off =>
    simp only [jexe] at h
    split at h
    · simp only [jbr, if_false] at h
      split at h
      · rename_i q
        obtain ⟨q, rfl⟩ := q
        cases h
        exact lv_ifnonnullN hx hb hd (K rfl ls (jnow_st N (jvs_tl hvs)))
      · cases h
    · simp only [jbr, if_true] at h
      split at h
      · rename_i q
        obtain ⟨q, rfl⟩ := q
        cases h
        exact lv_ifnonnull hx hb hd (jTg_eq q) (K rfl ls (jnow_st N (jvs_tl hvs)))
      · cases h
    · cases h
  | tableswitch dflt lo hi offs =>
    simp only [jexe] at h
    split at h
    · rename_i x st0
      split at h
      · rename_i q
        obtain ⟨⟨q1, q2⟩, q3⟩ := q
        cases h
        have hk := K rfl ls (jnow_st N (jvs_tl hvs))
        by_cases z : x.toInt < lo ∨ hi < x.toInt
        · have e1 := jsw_out (pc := pc) (x := x) (dflt := dflt) offs.toList lo (by omega)
          rw [e1] at hk
          exact lv_tableOut hx hb hd z (jTg_eq q1) hk
        · obtain ⟨o, e1, e2⟩ := jsw_in (pc := pc) (x := x) (dflt := dflt) offs.toList lo (by omega) (by omega)
          rw [e2] at hk
          have q4 : 0 ≤ (pc : Int) + o := by
            have := List.all_eq_true.mp q2 o (List.mem_of_getElem? e1)
            exact of_decide_eq_true this
          exact lv_tableIn hx hb hd (fun w => z (Or.inl w)) (fun w => z (Or.inr w)) (by rw [← Array.getElem?_toList]; exact e1) (jTg_eq q4) hk
      · cases h
    · cases h
  | lookupswitch dflt ps =>
    simp only [jexe] at h
    split at h
    · rename_i x st0
      split at h
      · rename_i q
        obtain ⟨⟨q1, q2⟩, q3⟩ := q
        cases h
        have hk := K rfl ls (jnow_st N (jvs_tl hvs))
        obtain ⟨e1, e2⟩ := jlk_eq (pc := pc) (x := x) (dflt := dflt) ps.toList
        rw [e1] at hk
        have q4 : 0 ≤ (pc : Int) + Op.lookupswitch.offset ps.toList dflt x.toInt := by
          rcases e2 with e2 | ⟨w, hw, e2⟩
          · rw [e2]; exact q1
          · rw [e2]
            exact of_decide_eq_true (List.all_eq_true.mp q2 w hw)
        exact lv_lookup hx hb hd q3 rfl (jTg_eq q4) hk
      · cases h
    · cases h
  | _ => exact absurd hI (by simp [jNum])
end JSIM
