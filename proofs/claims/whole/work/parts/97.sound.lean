/-! a run of the pure machine is a run of the machine -/
set_option maxHeartbeats 8000000 in
theorem jexe_mono {mm pc n : Nat} {al al' : jL} {st st' : List jV} {σ σ' : jS} {pc' : Nat} {I : Instr} (h : jexe mm pc n al st σ I = some (.inl (pc', (al', (st', σ'))))) : σ.1 ≤ σ'.1 := by
  cases I <;> simp only [jexe, jbr] at h <;> (repeat' split at h) <;> first
    | (cases h; first | exact Nat.le_refl _ | exact Nat.le_succ _)
    | cases h
    | exact (jinv_no h).elim
set_option maxHeartbeats 8000000 in
theorem jexe_call {mm pc n : Nat} {al : jL} {st as rest : List jV} {σ : jS} {m' : Nat} {I : Instr} (h : jexe mm pc n al st σ I = some (.inr (.inl (m', (as, rest))))) : ∃ i, (I = .invokespecial i ∨ I = .invokevirtual i ∨ I = .invokestatic i) ∧ jinv mm i n st I = some (.inr (.inl (m', (as, rest)))) := by
  cases I <;> simp only [jexe, jbr] at h <;> (repeat' split at h) <;> first
    | cases h
    | exact ⟨_, Or.inl rfl, h⟩
    | exact ⟨_, Or.inr (Or.inl rfl), h⟩
    | exact ⟨_, Or.inr (Or.inr rfl), h⟩
set_option maxHeartbeats 8000000 in
theorem jexe_noret {mm pc n : Nat} {al : jL} {st : List jV} {σ : jS} {I : Instr} {v : Option jV} (h1 : I ≠ .ireturn) (h2 : I ≠ .areturn) (h3 : I ≠ .return_) : jexe mm pc n al st σ I ≠ some (.inr (.inr v)) := by
  intro h
  cases I <;> first
    | exact h1 rfl
    | exact h2 rfl
    | exact h3 rfl
    | (simp only [jexe, jbr, jinv] at h; (repeat' split at h) <;> cases h)
theorem jinv_spec {mm i n m' : Nat} {st as rest : List jV} {I : Instr} (h : jinv mm i n st I = some (.inr (.inl (m', (as, rest))))) : (jMthT.getD (jOwn mm) []).lookup i = some m' ∧ jpop m' st = some (as, rest) ∧ rest.length ≤ 4 ∧ m' < 198 ∧ as.length ≤ jMaxT.getD m' 0 ∧ as.all jsm = true ∧ jkind I m' = true := by
  unfold jinv at h
  split at h
  · rename_i m1 q
    split at h
    · rename_i as1 rest1 q1
      split at h
      · rename_i q2
        cases h
        exact ⟨q, q1, q2.1.1, q2.1.2.2, q2.2.1, q2.2.2.1, q2.2.2.2⟩
      · cases h
    · cases h
  · cases h
theorem jpop_spec {m' : Nat} {st as rest : List jV} (h : jpop m' st = some (as, rest)) : (jStatT.getD m' false = true ∧ st = as.reverse ++ rest ∧ as.length = jParT.getD m' 0) ∨ (jStatT.getD m' false = false ∧ ∃ (r : jR) (As : List jV), as = jRf r :: As ∧ st = As.reverse ++ jRf r :: rest ∧ As.length = jParT.getD m' 0 ∧ r.1 = jOwn m') := by
  unfold jpop at h
  split at h
  · rename_i hl
    split at h
    · rename_i hs
      obtain ⟨e1, e2⟩ := Prod.mk.inj (Option.some.inj h)
      subst e1; subst e2
      refine Or.inl ⟨hs, ?_, ?_⟩
      · rw [List.reverse_reverse, List.take_append_drop]
      · rw [List.length_reverse, List.length_take]
        omega
    · rename_i hs
      have hs : jStatT.getD m' false = false := by simpa using hs
      split at h
      · rename_i r rest1 q
        split at h
        · rename_i hr
          obtain ⟨e1, e2⟩ := Prod.mk.inj (Option.some.inj h)
          subst e1; subst e2
          refine Or.inr ⟨hs, r, _, rfl, ?_, ?_, hr⟩
          · rw [List.reverse_reverse, ← q, List.take_append_drop]
          · rw [List.length_reverse, List.length_take]
            omega
        · cases h
      · cases h
  · cases h
section JSND
variable {p : Program} {l : Launch} {e : Env} {R : Room} {s : State} {m : MethodId} {args : Array Value} {below : List Frame} {meth : Method} {c : Code} {Q : State → Prop}
variable {g : jR → Nat} {b base : Nat} {dC : Nat → ClassId} {dI : Nat → Nat → Nat} {cA : Nat → ClassId}
set_option maxHeartbeats 8000000 in
theorem jsim {cells slots mm pc n : Nat} {al al' : jL} {st st' : List jV} {σ σ' : jS} {pc' : Nat} {I : Instr} {ls : Array Slot} {H : Heap} {locs : List Loc} (hStr : jStrOk g b base dC dI cA l)
    (C0 : jStat p R s m args meth c base mm) (hG : jGd g b base) (hF : jF mm pc = some (I, n)) (h : jexe mm pc n al st σ I = some (.inl (pc', (al', (st', σ'))))) (N : jNow g b base dC dI cA s mm al st σ ls H locs)
    (hc : s.heap.size + cells = base + σ.1) (h10 : 10 ≤ R.frames) (hcR : cells + (σ'.1 - σ.1) ≤ R.cells) (hsR : slots + (jsz σ'.1 - jsz σ.1) ≤ R.slots)
    (K : ∀ (H1 : Heap) (ls1 : Array Slot) (locs1 : List Loc), jNow g b base dC dI cA s mm al' st' σ' ls1 H1 locs1 → W p l e R s m args below meth c H1 locs1 (cells + (σ'.1 - σ.1)) (slots + (jsz σ'.1 - jsz σ.1)) Q (F0 m pc' ls1 (st'.map (jcv g)))) :
    W p l e R s m args below meth c H locs cells slots Q (F0 m pc ls (st.map (jcv g))) := by
  by_cases h1 : jNum I = true
  · refine jsim_num h1 C0 hF h N (fun e ls1 hN => ?_)
    subst e
    have kk := K H ls1 locs hN
    rw [Nat.sub_self, Nat.sub_self] at kk
    exact kk
  · by_cases h2 : jMem I = true
    · refine jsim_mem h2 C0 hG hF h N (fun e H1 locs1 hN => ?_)
      have kk := K H1 ls locs1 hN
      rw [e, Nat.sub_self, Nat.sub_self] at kk
      exact kk
    · by_cases h3 : jNew I = true
      · exact jsim_new h3 C0 hG hF h N hc hcR hsR (fun H1 locs1 hN => K H1 ls locs1 hN)
      · by_cases h4 : jNat I = true
        · refine jsim_nat hStr h4 C0 hG hF h N h10 (by omega) (by omega) (fun e H1 locs1 hN => ?_)
          have kk := K H1 ls locs1 hN
          rw [e, Nat.sub_self, Nat.sub_self] at kk
          exact kk
        · exfalso
          cases I <;> first
            | exact h1 rfl
            | exact h2 rfl
            | exact h3 rfl
            | exact h4 rfl
            | (simp only [jexe] at h; (repeat' split at h) <;> cases h)
theorem jrun_mono : ∀ (f d mm : Nat) (pc : Nat) (al : jL) (st : List jV) (σ : jS) (v : Option jV) (σ' : jS), jrun f d mm (pc, (al, (st, σ))) = some (v, σ') → σ.1 ≤ σ'.1 := by
  intro f
  induction f with
  | zero => intro d mm pc al st σ v σ' h; simp [jrun] at h
  | succ f ih =>
    intro d mm pc al st σ v σ' h
    rw [jrun] at h
    unfold jstep at h
    cases hF : jF mm pc with
    | none => rw [hF] at h; cases h
    | some q =>
      obtain ⟨I, n⟩ := q
      rw [hF] at h
      dsimp only at h
      cases hx : jexe mm pc n al st σ I with
      | none => rw [hx] at h; cases h
      | some o =>
        rw [hx] at h
        rcases o with ⟨pc1, al1, st1, σ1⟩ | ⟨m', as, rest⟩ | v1
        · exact Nat.le_trans (jexe_mono hx) (ih _ _ _ _ _ _ _ _ h)
        · cases d with
          | zero => cases h
          | succ d =>
            dsimp only at h
            split at h
            · cases h
            · rename_i v2 σ2 q
              exact Nat.le_trans (ih _ _ _ _ _ _ _ _ q) (ih _ _ _ _ _ _ _ _ h)
        · cases h
          exact Nat.le_refl _
theorem jsz_mono {n n' : Nat} (h : n ≤ n') : jsz n ≤ jsz n' := by
  induction n' with
  | zero => rw [show n = 0 by omega]; exact Nat.le_refl _
  | succ k ih =>
    by_cases e : n = k + 1
    · rw [e]; exact Nat.le_refl _
    · have h1 := ih (by omega)
      cases hr : jRefs[k]? with
      | none =>
        have e2 : jsz (k + 1) = jsz k := by
          unfold jsz
          rw [List.take_add_one, hr]
          simp
        omega
      | some r =>
        rw [jsz_succ hr]
        omega
/-- what a run of f steps says of the machine -/
def jSnd (g : jR → Nat) (b base : Nat) (dC : Nat → ClassId) (dI : Nat → Nat → Nat) (cA : Nat → ClassId) (l : Launch) (f : Nat) : Prop :=
  ∀ (d mm pc : Nat) (al : jL) (st : List jV) (σ : jS) (v : Option jV) (σ' : jS), jrun f d mm (pc, (al, (st, σ))) = some (v, σ') →
    ∀ {p : Program} {e : Env} {R : Room} {s : State} {m : MethodId} {args : Array Value} {below : List Frame} {meth : Method} {c : Code} {Q : State → Prop} {cells slots : Nat} {ls : Array Slot} {H : Heap} {locs : List Loc},
      jStat p R s m args meth c base mm → d + 10 ≤ R.frames → 1000 + 100 * d ≤ R.locals → jNow g b base dC dI cA s mm al st σ ls H locs → s.heap.size + cells = base + σ.1 → cells + (σ'.1 - σ.1) ≤ R.cells → slots + (jsz σ'.1 - jsz σ.1) ≤ R.slots →
      (∀ (H1 : Heap) (ls1 : Array Slot) (locs1 : List Loc) (pc1 n1 : Nat) (al1 : jL) (st1 : List jV) (I1 : Instr), jF mm pc1 = some (I1, n1) → jexe mm pc1 n1 al1 st1 σ' I1 = some (.inr (.inr v)) → jNow g b base dC dI cA s mm al1 st1 σ' ls1 H1 locs1 →
        W p l e R s m args below meth c H1 locs1 (cells + (σ'.1 - σ.1)) (slots + (jsz σ'.1 - jsz σ.1)) Q (F0 m pc1 ls1 (st1.map (jcv g)))) →
      W p l e R s m args below meth c H locs cells slots Q (F0 m pc ls (st.map (jcv g)))
abbrev jrm (d k n : Nat) : Room := { frames := d + 10, cells := k, slots := n, locals := 1000 + 100 * d }
abbrev jwc (m' : Nat) : List Jvm.Cond := Cond.code (jYT.getD m' objectInit) (jBytesT.getD m' .empty) (jMaxT.getD m' 0) (jRetT.getD m' none) :: jTs
def jPc (g : jR → Nat) (b base : Nat) (dC : Nat → ClassId) (dI : Nat → Nat → Nat) (cA : Nat → ClassId) (as : List jV) (σ : jS) : Array Value → State → Prop := fun a U => a = (as.map (jcv g)).toArray ∧ U.heap.size = base + σ.1 ∧ jRel g b base dC dI cA σ U U.heap
def jQc (g : jR → Nat) (b base : Nat) (dC : Nat → ClassId) (dI : Nat → Nat → Nat) (cA : Nat → ClassId) (v1 : Option jV) (σ1 : jS) : Array Value → State → Outcome → State → Prop := fun _ st o t => o = .returned (v1.map (jcv g)) ∧ jRel g b base dC dI cA σ1 t t.heap ∧ va_F (fun q => base ≤ q) st t ∧ ∀ w, v1 = some w → jokv σ1.1 w
theorem jargs_at : ∀ (vs : List Value) (k i : Nat) (w : Value), (∀ v ∈ vs, v.category = 1) → vs[i]? = some w → (k + i, w) ∈ lv_args k vs
  | [], k, i, w, _, h => by simp at h
  | v :: vs, k, i, w, hc, h => by
    have h1 : ¬ v.category = 2 := by rw [hc v List.mem_cons_self]; decide
    unfold lv_args
    rw [if_neg h1]
    cases i with
    | zero =>
      rw [List.getElem?_cons_zero] at h
      cases h
      exact List.mem_cons_self
    | succ i =>
      rw [List.getElem?_cons_succ] at h
      have := jargs_at vs (k + 1) i w (fun v hv => hc v (List.mem_cons_of_mem _ hv)) h
      rw [show k + 1 + i = k + (i + 1) by omega] at this
      exact List.mem_cons_of_mem _ this
theorem jsm_cat {v : jV} (h : jsm v = true) : (jcv g v).category = 1 := by
  rcases v with x | x | _ | r
  · rfl
  · cases h
  · rfl
  · rfl
theorem jsl_len : ∀ (vs : List Value), (∀ v ∈ vs, v.category = 1) → (lg_sl vs).length = vs.length
  | [], _ => rfl
  | v :: vs, h => by
    have h1 : ¬ v.category = 2 := by rw [h v List.mem_cons_self]; decide
    have h2 := jsl_len vs (fun v hv => h v (List.mem_cons_of_mem _ hv))
    unfold lg_sl at h2 ⊢
    rw [List.flatMap_cons, if_neg h1, List.length_append, h2]
    simp
    omega
theorem jent_lr {m' : Nat} {as : List jV} {ls : Array Slot} (hlen : as.length ≤ jMaxT.getD m' 0) (hsm : as.all jsm = true) (h : lv_has ls (jMaxT.getD m' 0) (lv_args 0 (as.map (jcv g)))) : jlr g m' ls (jent m' as) := by
  have hcat : ∀ v ∈ as.map (jcv g), v.category = 1 := by
    intro v hv
    obtain ⟨w, hw, rfl⟩ := List.mem_map.mp hv
    exact jsm_cat (List.all_eq_true.mp hsm w hw)
  have key : ∀ (i : Nat) (v : jV), (jent m' as)[i]? = some (some v) → as[i]? = some v := by
    intro i v hv
    unfold jent at hv
    by_cases hi : i < as.length
    · rw [List.getElem?_append_left (by rw [List.length_map]; exact hi), List.getElem?_map] at hv
      cases hq : as[i]? with
      | none => rw [hq] at hv; cases hv
      | some w => rw [hq] at hv; cases hv; rfl
    · rw [List.getElem?_append_right (by rw [List.length_map]; omega)] at hv
      have := List.eq_of_mem_replicate (List.mem_of_getElem? hv)
      cases this
  refine ⟨?_, h.1, h.2.1, fun i v hv => ?_, fun i x hv => ?_⟩
  · unfold jent
    rw [List.length_append, List.length_map, List.length_replicate]
    omega
  · have h1 := key i v hv
    have h2 := jargs_at (as.map (jcv g)) 0 i (jcv g v) hcat (by rw [List.getElem?_map, h1]; rfl)
    rw [Nat.zero_add] at h2
    exact h.2.2 _ h2
  · have h1 := key i _ hv
    have := List.all_eq_true.mp hsm _ (List.mem_of_getElem? h1)
    cases this
theorem jent_va {m' n : Nat} {as : List jV} (h : jvs n as) : jva n (jent m' as) := by
  intro i v hv
  unfold jent at hv
  rcases List.mem_append.mp (List.mem_of_getElem? hv) with z | z
  · obtain ⟨w, hw, e⟩ := List.mem_map.mp z
    cases e
    exact h _ hw
  · have := List.eq_of_mem_replicate z
    cases this
theorem jHsize {σ : jS} {H : Heap} (h512 : σ.1 ≤ 512) (hP : va_P (dC, dI) jCl (jWs g base cA σ) H) (hb : base ≤ H.size) : base + σ.1 ≤ H.size := by
  by_cases h : σ.1 = 0
  · omega
  · have hi : σ.1 - 1 < σ.1 := by omega
    have hl : σ.1 - 1 < jRefs.length := by rw [jRefs_len]; omega
    have := (hP _ _ (jWs_get (g := g) (base := base) (cA := cA) hi (List.getElem?_eq_getElem hl))).lt
    dsimp only at this
    omega
set_option maxHeartbeats 4000000 in
set_option maxRecDepth 20000 in
/-- a method's contract out of its run -/
theorem jmet {f d' m' : Nat} {as : List jV} {σ σ1 : jS} {v1 : Option jV} (hS : jSnd g b base dC dI cA l f) (hm : m' < 198) (hrun : jrun f d' m' (0, (jent m' as, ([], σ))) = some (v1, σ1)) (has : jvs σ.1 as) (hlen : as.length ≤ jMaxT.getD m' 0) (hsm : as.all jsm = true) :
    Met l (jYT.getD m' objectInit) (jwc m') (jrm d' (σ1.1 - σ.1) (jsz σ1.1 - jsz σ.1)) (jPc g b base dC dI cA as σ) (jQc g b base dC dI cA v1 σ1) (σ1.1 - σ.1) (jsz σ1.1 - jsz σ.1) (fun q => base ≤ q) := by
  obtain ⟨-, -, -, -, -, hini, hcls, -, hpl⟩ := jmeth hm
  refine Met.ofW (cc := jBytesT.getD m' .empty) (maxL := jMaxT.getD m' 0) (ret := jRetT.getD m' none) hpl rfl ?_
  intro p e s m args below meth c s₁ B hml hPc
  obtain ⟨ha, hsz, hR⟩ := hPc
  subst ha
  have hts0 := atoms_spec (ws := jwc m') B.pre
  have hts : ∀ w ∈ jTs, w.before (as.map (jcv g)).toArray s = true := fun w hw => hts0 w (List.mem_cons_of_mem _ hw)
  have C0 : jStat p (headSpec (jwc m') (jrm d' (σ1.1 - σ.1) (jsz σ1.1 - jsz σ.1))).room s m (as.map (jcv g)).toArray meth c base m' := by
    refine ⟨B.exec, B.bytes, hml, ?_, hts, B.notSynchronized, fun h => ?_, by omega, ?_, ?_⟩
    · rw [← hcls]
      exact findClass_of_methodNamed B.named
    · rw [(name_of_methodNamed B.named B.method).1]
      exact hini h
    · show 1 ≤ d' + 10
      omega
    · show 1000 ≤ 1000 + 100 * d'
      omega
  have hcat : ∀ v ∈ as.map (jcv g), v.category = 1 := by
    intro v hv
    obtain ⟨w, hw, rfl⟩ := List.mem_map.mp hv
    exact jsm_cat (List.all_eq_true.mp hsm w hw)
  have hl := lv_entry (as.map (jcv g)) (n := jMaxT.getD m' 0) (by rw [jsl_len _ hcat, List.length_map]; exact hlen)
  rw [lg_entry_eq]
  generalize (lg_sl (as.map (jcv g)) ++ List.replicate (jMaxT.getD m' 0 - (lg_sl (as.map (jcv g))).length) Slot.unset).toArray = ls at hl ⊢
  have N : jNow g b base dC dI cA s m' (jent m' as) [] σ ls s.heap [] := ⟨hR, jent_lr hlen hsm hl, jent_va has, fun _ h => absurd h List.not_mem_nil, va_S.rf⟩
  refine hS d' m' 0 (jent m' as) [] σ v1 σ1 hrun C0 (Nat.le_refl _) (Nat.le_refl _) N hsz (by show 0 + (σ1.1 - σ.1) ≤ σ1.1 - σ.1; omega) (by show 0 + (jsz σ1.1 - jsz σ.1) ≤ jsz σ1.1 - jsz σ.1; omega) ?_
  intro H1 ls1 locs1 pc1 n1 al1 st1 I1 hF1 hx1 N1
  rw [Nat.zero_add, Nat.zero_add]
  have hd := jF_dec hF1
  have hn := jF_ln hF1
  have hq : ∀ t : State, t.heap = H1 → s.WarmedH t.vm → (∀ w, v1 = some w → jokv σ1.1 w) → jQc g b base dC dI cA v1 σ1 (as.map (jcv g)).toArray s (.returned (v1.map (jcv g))) t := fun t ht hW hv => ⟨rfl, by rw [ht]; exact jRel_warm hW N1.1, N1.2.2.2.2.F ht, hv⟩
  have hf : ∀ q ∈ locs1, (fun q => base ≤ q) q.base := N1.2.2.2.2.2.2
  have hx := B.exec
  have hb := B.bytes
  have hr := B.returns
  cases I1 with
  | ireturn =>
    simp only [jln] at hn
    obtain rfl : n1 = 1 := by omega
    simp only [jexe] at hx1
    split at hx1
    · rename_i x
      split at hx1
      · rename_i hnar
        cases hx1
        have hq' := fun t ht hW => hq t ht hW (fun w hw => by cases hw; trivial)
        cases hret : jRetT.getD m' none with
        | none => rw [hret] at hnar; cases hnar
        | some ty =>
          rw [hret] at hnar hr
          have hnr : narrow ty (.int x) = .int x := by
            revert hnar
            cases ty <;> intro hnar <;> first
              | rfl
              | exact (jnb (of_decide_eq_true hnar)).1
              | cases hnar
          exact W.zret hx hb hr hnr hq' hf hd B.notSynchronized
      · cases hx1
    · cases hx1
  | areturn =>
    simp only [jln] at hn
    obtain rfl : n1 = 1 := by omega
    simp only [jexe] at hx1
    split at hx1
    · rename_i x
      split at hx1
      · rename_i hnar
        cases hx1
        have hq' := fun t ht hW => hq t ht hW (fun w hw => by cases hw; exact N1.2.2.2.1 _ List.mem_cons_self)
        cases hret : jRetT.getD m' none with
        | none => rw [hret] at hnar; cases hnar
        | some ty =>
          rw [hret] at hnar hr
          have hob : (∃ n, ty = .object n) ∨ ∃ t, ty = .array t := by
            revert hnar
            cases ty <;> intro hnar <;> first
              | exact Or.inl ⟨_, rfl⟩
              | cases hnar
          have hv : jcv g (.inr (.inr x)) = .null ∨ ∃ a, jcv g (.inr (.inr x)) = .ref a := by
            rcases x with _ | r
            · exact Or.inl rfl
            · exact Or.inr ⟨_, rfl⟩
          exact W.aret hx hb hr hob hv hq' hf hd B.notSynchronized
      · cases hx1
    · cases hx1
  | return_ =>
    simp only [jln] at hn
    obtain rfl : n1 = 1 := by omega
    simp only [jexe] at hx1
    split at hx1
    · split at hx1
      · rename_i hret
        cases hx1
        rw [hret] at hr
        have hq' := fun t ht hW => hq t ht hW (fun w hw => by cases hw)
        exact W.vret hx hb hr hq' hf hd B.notSynchronized
      · cases hx1
    · cases hx1
  | _ => exact absurd hx1 (jexe_noret (fun h => by cases h) (fun h => by cases h) (fun h => by cases h))
end JSND
