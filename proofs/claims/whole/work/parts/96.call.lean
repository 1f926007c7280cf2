/-! members that are stepped over at once; what a state keeps -/
theorem jlt4 {st : List jV} (g : jR → Nat) (h : st.length ≤ 4) : ((st.map (jcv g)).map fun v => v.category).sum ≤ 8 := by
  have key : ∀ (l : List jV), ((l.map (jcv g)).map fun v => v.category).sum ≤ 2 * l.length := by
    intro l
    induction l with
    | nil => simp
    | cons v l ih =>
      have : (jcv g v).category ≤ 2 := by rcases lv_cat (jcv g v) with h | h <;> omega
      simp only [List.map_cons, List.sum_cons, List.length_cons]
      omega
  have := key st
  omega
theorem jRel_same {g : jR → Nat} {b base : Nat} {dC : Nat → ClassId} {dI : Nat → Nat → Nat} {cA : Nat → ClassId} {σ : jS} {u U : State} {H : Heap} (h : u.vm = U.vm) (hR : jRel g b base dC dI cA σ u H) : jRel g b base dC dI cA σ U H := by
  have ha : u.vm.Alike U.vm := h ▸ Vm.Alike.refl u.vm
  obtain ⟨h1, h2, h3, ⟨c1, c2, c3⟩, ⟨x1, t1, ⟨adV, t2⟩, t3, t4⟩, h6, h7⟩ := hR
  refine ⟨h1, h2, h3.moved ha, ⟨fun w hw => ?_, c2.moved ha, c3.moved ha⟩, ⟨x1.moved ha, vk_R.same h.symm t1, ⟨adV, t2.moved ha⟩, t3.moved ha, t4.moved ha⟩, h6, h7⟩
  have e : w.onTables = true := by
    have h2 : jIsNest w = true := (List.mem_filter.mp hw).2
    cases w <;> first
      | rfl
      | (simp [jIsNest] at h2)
  exact va_Nw.same e h (c1 w hw)
theorem jRel_warm {g : jR → Nat} {b base : Nat} {dC : Nat → ClassId} {dI : Nat → Nat → Nat} {cA : Nat → ClassId} {σ : jS} {s U : State} {H : Heap} (hW : s.WarmedH U.vm) (hR : jRel g b base dC dI cA σ s H) : jRel g b base dC dI cA σ U H := by
  have ha := hW.alike
  obtain ⟨h1, h2, h3, h4, ⟨x1, x2⟩, h6, h7⟩ := hR
  exact ⟨h1, h2, h3.moved ha, jCar_warm hW h4, ⟨x1.moved ha, jXt_warm hW x2⟩, h6, h7⟩
/-- back from a call: the caller's tables, the callee's world -/
theorem jRel_back {g : jR → Nat} {b base : Nat} {dC : Nat → ClassId} {dI : Nat → Nat → Nat} {cA : Nat → ClassId} {σ σ1 : jS} {s t : State} {H H1 : Heap} (ha : t.vm.Alike s.vm) (hR : jRel g b base dC dI cA σ s H) (hT : jRel g b base dC dI cA σ1 t H1) : jRel g b base dC dI cA σ1 s H1 := by
  obtain ⟨-, -, k3, k4, ⟨-, t1, -⟩, -, -⟩ := hR
  obtain ⟨h1, h2, -, -, ⟨x1, -, ⟨adV, t2⟩, t3, t4⟩, h6, h7⟩ := hT
  exact ⟨h1, h2, k3, k4, ⟨x1.moved ha, t1, ⟨adV, t2.moved ha⟩, t3.moved ha, t4.moved ha⟩, h6, h7⟩
theorem jstr_own {own i : Nat} {u : Unit} (h : (jStrT.getD own []).lookup i = some u) : jC own = "PlayedLaws" ∧ i = 77 := by
  have h1 := jlookup_mem _ _ _ h
  have h0 : (jStrT.zipIdx.all fun q => q.1.all fun x => decide (jC q.2 = "PlayedLaws") && x.1 == 77) = true := by decide +kernel
  have h2 := List.all_eq_true.mp (List.all_eq_true.mp h0 _ (jmem_getD h1)) _ h1
  simp only [Bool.and_eq_true, decide_eq_true_eq, beq_iff_eq] at h2
  exact h2
theorem jCp_other {M : jM} {x y : jA} {sp dp n k j : Nat} {a : jA} (h : ¬ (k = 12 ∧ a = y)) : jCp M x y sp dp n k a j = M k a j := by
  unfold jCp
  rw [if_neg h]
theorem jcopy_words : nativeFrameWords "java/lang/System" "arraycopy" 5 ≤ 900 := by decide +kernel
theorem jok_str {n : Nat} {a : jA} (h : jok n (18, a)) : a = (0, 0) := by
  rcases h with ⟨j, -, h2⟩ | h | h
  · have h0 : (jRefs.all fun r => decide (r.1 < 17)) = true := by decide +kernel
    have := of_decide_eq_true (List.all_eq_true.mp h0 _ (List.mem_of_getElem? h2))
    simp at this
  · cases h
  · cases h
    rfl
theorem jno_onest {own h : String} {i : Nat} (hm : Cond.methodLinkNest own i (jYT.getD 199 objectInit) h ∈ jNest) : False := by
  have h0 : (jNest.all fun w => match w with
    | .methodLinkNest _ _ y _ => decide (y.cls ≠ "java/lang/Object")
    | _ => true) = true := by decide +kernel
  have := of_decide_eq_true (List.all_eq_true.mp h0 _ hm)
  exact this (by decide +kernel)
section JCALL
variable {p : Program} {l : Launch} {e : Env} {R : Room} {s : State} {m : MethodId} {args : Array Value} {below : List Frame} {meth : Method} {c : Code} {Q : State → Prop}
variable {g : jR → Nat} {b base : Nat} {dC : Nat → ClassId} {dI : Nat → Nat → Nat} {cA : Nat → ClassId}
/-- the string's length and signs, at a call: W steps over them -/
def jStrOk (g : jR → Nat) (b base : Nat) (dC : Nat → ClassId) (dI : Nat → Nat → Nat) (cA : Nat → ClassId) (l : Launch) : Prop :=
  ∀ {p : Program} {e : Env} {R : Room} {s : State} {m : MethodId} {args : Array Value} {below : List Frame} {meth : Method} {c : Code} {Q : State → Prop} {cells slots mm pc i : Nat} {al : jL} {st st0 : List jV} {σ : jS} {ls : Array Slot} {H : Heap} {locs : List Loc},
    jStat p R s m args meth c base mm → jGd g b base → 10 ≤ R.frames → cells ≤ R.cells → slots ≤ R.slots → jF mm pc = some (.invokevirtual i, 3) → jNow g b base dC dI cA s mm al st σ ls H locs → st0.length ≤ 4 →
    ((jMthT.getD (jOwn mm) []).lookup i = some 901 → W p l e R s m args below meth c H locs cells slots Q (F0 m (pc + 3) ls (.int (Int32.ofNat jstr.length) :: st0.map (jcv g))) → W p l e R s m args below meth c H locs cells slots Q (F0 m pc ls (.ref (g (18, (0, 0))) :: st0.map (jcv g)))) ∧
    ((jMthT.getD (jOwn mm) []).lookup i = some 902 → ∀ x : Int32, 0 ≤ x → x.toNatClampNeg < jstr.length → W p l e R s m args below meth c H locs cells slots Q (F0 m (pc + 3) ls (.int (jstr.getD x.toNatClampNeg 0) :: st0.map (jcv g))) → W p l e R s m args below meth c H locs cells slots Q (F0 m pc ls (.int x :: .ref (g (18, (0, 0))) :: st0.map (jcv g))))
theorem jinv_no {mm i n : Nat} {st : List jV} {I : Instr} {x : jFr} (h : jinv mm i n st I = some (.inl x)) : False := by
  unfold jinv at h
  split at h
  · split at h
    · split at h
      · cases h
      · cases h
    · cases h
  · cases h
def jNat : Instr → Bool
  | .ldc _ | .invokespecial _ | .invokestatic _ | .invokevirtual _ => true
  | _ => false
set_option maxHeartbeats 8000000 in
set_option maxRecDepth 20000 in
theorem jsim_nat {cells slots mm pc n : Nat} {al al' : jL} {st st' : List jV} {σ σ' : jS} {pc' : Nat} {I : Instr} {ls : Array Slot} {H : Heap} {locs : List Loc} (hStr : jStrOk g b base dC dI cA l) (hI : jNat I = true)
    (C0 : jStat p R s m args meth c base mm) (hG : jGd g b base) (hF : jF mm pc = some (I, n)) (h : jexe mm pc n al st σ I = some (.inl (pc', (al', (st', σ'))))) (N : jNow g b base dC dI cA s mm al st σ ls H locs)
    (h10 : 10 ≤ R.frames) (hcR : cells ≤ R.cells) (hsR : slots ≤ R.slots)
    (K : σ'.1 = σ.1 → ∀ (H1 : Heap) (locs1 : List Loc), jNow g b base dC dI cA s mm al' st' σ' ls H1 locs1 → W p l e R s m args below meth c H1 locs1 cells slots Q (F0 m pc' ls (st'.map (jcv g)))) :
    W p l e R s m args below meth c H locs cells slots Q (F0 m pc ls (st.map (jcv g))) := by
  have C0' := C0
  obtain ⟨hx, hb, hml, hown, hts, hlk, hin, hbs, hfr, hlo⟩ := C0
  have hd := jF_dec hF
  have hn := jF_ln hF
  obtain ⟨hR, hl, hva, hvs, hS⟩ := id N
  obtain ⟨h512, hP, hK, hC, hX, hL, hcl⟩ := id hR
  have hD := jWs_D (g := g) (base := base) (cA := cA) h512
  have hms : c.maxLocals = ls.size := by rw [hml, hl.2.1]
  cases I with
  | ldc i =>
    simp only [jln] at hn
    obtain rfl : n = 2 := by omega
    simp only [jexe] at h
    split at h
    · rename_i x q
      cases h
      exact lv_ldc hx hb hown (hts _ (jcst q)) hd (K rfl H locs (jnow_st N (jvs_cons trivial hvs)))
    · split at h
      · rename_i q
        obtain ⟨q1, q2⟩ := jstr_own q
        cases h
        subst q2
        have kk := K rfl H locs (jnow_st N (jvs_cons (show jok σ.1 (18, (0, 0)) from Or.inr (Or.inr rfl)) hvs))
        rw [q1] at hown
        exact va_ldcS hx hb hown hX.2.1 hd kk
      · cases h
  | invokespecial i =>
    simp only [jln] at hn
    obtain rfl : n = 3 := by omega
    simp only [jexe] at h
    split at h
    · rename_i q
      split at h
      · rename_i r st0
        split at h
        · rename_i q2
          cases h
          have hlink : Cond.methodLink (jC (jOwn mm)) i objectInit ∈ jTs := by
            rcases jlnk (Or.inr rfl) q with z | z
            · exact z
            · exact absurd z jno_onest
          have h4 := jlt4 g q2.2
          exact W.objInit hx hb hown (hts _ hlink) (hts _ jw_oinst) (hts _ jw_ocode) rfl (by rw [hml]; exact hl.2.1) rfl hd hfr (by show 2 * 0 + _ + 12 ≤ _; omega) (K rfl H locs (jnow_st N (jvs_tl hvs)))
        · cases h
      · cases h
    · exact (jinv_no h).elim
  | invokestatic i =>
    simp only [jln] at hn
    obtain rfl : n = 3 := by omega
    simp only [jexe] at h
    split at h
    · rename_i q
      split at h
      · rename_i cn d r sp u st0
        split at h
        · rename_i q2
          obtain ⟨⟨hr12, hq12, -, h4⟩, hs0, hd0, hc0, hle1, hle2⟩ := q2
          obtain ⟨j, j1, j2, j3, j4⟩ := jRel_at hG hR (hvs (jRf r) (List.mem_cons_of_mem _ (List.mem_cons_of_mem _ List.mem_cons_self))) hr12 (by omega)
          obtain ⟨j', k1, k2, k3, k4⟩ := jRel_at hG hR (hvs (jRf u) (List.mem_cons_of_mem _ (List.mem_cons_of_mem _ (List.mem_cons_of_mem _ (List.mem_cons_of_mem _ List.mem_cons_self))))) hq12 (by omega)
          rw [jEn_ints (Or.inl hr12), hr12] at j4
          rw [jEn_ints (Or.inl hq12), hq12] at k4
          have h4 := jlt4 g h4
          have hw := jcopy_words
          cases h
          show W p l e R s m args below meth c H locs cells slots Q (F0 m pc ls (.int cn :: .int d :: .ref (g r) :: .int sp :: .ref (g u) :: st'.map (jcv g)))
          rw [j3, k3]
          refine va_copyi hx hb hms hown (hts _ (jlnk_copy q)) (hts _ jw_nat) (hts _ jw_cst) (hts _ jw_sys) hK hP hD hS j' j 0 0 k4 j4 (jtys_at cA).1 (jtys_at cA).1 rfl (Int32.not_lt.mpr hs0) (Int32.not_lt.mpr hd0) (Int32.not_lt.mpr hc0) hle1 hle2 (fun _ _ => rfl) hfr (by omega) hd (fun H1 locs1 hP1 _ hS1 => K rfl H1 locs1 ?_)
          have e17 : ∀ a j, jCp σ.2.2 u.2 r.2 sp.toNatClampNeg d.toNatClampNeg cn.toNatClampNeg 17 a j = σ.2.2 17 a j := fun a j => jCp_other (fun z => by omega)
          obtain ⟨n1, n2, n3, n4, n5⟩ := N
          refine ⟨⟨h512, ?_, hK, hC, ?_, ?_, hcl⟩, n2, n3, fun v hv => hvs v (List.mem_cons_of_mem _ (List.mem_cons_of_mem _ (List.mem_cons_of_mem _ (List.mem_cons_of_mem _ (List.mem_cons_of_mem _ hv))))), hS1⟩
          · have e := jWs_set (g := g) (base := base) (cA := cA) (σ := σ) (σ' := (σ.1, (σ.2.1, jCp σ.2.2 u.2 r.2 sp.toNatClampNeg d.toNatClampNeg cn.toNatClampNeg))) rfl j1 j2 h512 (fun r' hr' => ?_)
            · rw [e, jEn_ints (Or.inl hr12), hr12]
              have e1 : (fun j => jCp σ.2.2 u.2 r.2 sp.toNatClampNeg d.toNatClampNeg cn.toNatClampNeg 12 r.2 j) = va_cpy (σ.2.2 12 u.2) (σ.2.2 12 r.2) sp.toNatClampNeg d.toNatClampNeg cn.toNatClampNeg := by
                funext j
                unfold jCp
                rw [if_pos ⟨rfl, rfl⟩]
              show va_P (dC, dI) jCl ((jWs g base cA σ).set j (base + j, .inl (cA 12, (jLen 12 r.2, .inl (fun j => jCp σ.2.2 u.2 r.2 sp.toNatClampNeg d.toNatClampNeg cn.toNatClampNeg 12 r.2 j))))) H1
              rw [e1]
              exact hP1
            · have key : ∀ j, jCp σ.2.2 u.2 r.2 sp.toNatClampNeg d.toNatClampNeg cn.toNatClampNeg r'.1 r'.2 j = σ.2.2 r'.1 r'.2 j := fun j => jCp_other (fun z => hr' (Prod.ext (z.1.trans hr12.symm) z.2))
              have e3 : jfs g (σ.1, (σ.2.1, jCp σ.2.2 u.2 r.2 sp.toNatClampNeg d.toNatClampNeg cn.toNatClampNeg)) r'.1 r'.2 = jfs g σ r'.1 r'.2 := by
                unfold jfs
                simp only [key]
              unfold jEn
              rw [e3]
              simp only [key]
          · have e2 : jCp σ.2.2 u.2 r.2 sp.toNatClampNeg d.toNatClampNeg cn.toNatClampNeg 17 (0, 0) = σ.2.2 17 (0, 0) := funext fun j => e17 _ j
            show jXs g b base (jCp σ.2.2 u.2 r.2 sp.toNatClampNeg d.toNatClampNeg cn.toNatClampNeg 17 (0, 1) 0).toNatClampNeg (jCp σ.2.2 u.2 r.2 sp.toNatClampNeg d.toNatClampNeg cn.toNatClampNeg 17 (0, 0)) s H1
            rw [e17, e2]
            exact jX_keep hG hbs hX hS hS1
          · show Int32.ofNat (jCp σ.2.2 u.2 r.2 sp.toNatClampNeg d.toNatClampNeg cn.toNatClampNeg 17 (0, 1) 0).toNatClampNeg = jCp σ.2.2 u.2 r.2 sp.toNatClampNeg d.toNatClampNeg cn.toNatClampNeg 17 (0, 1) 0
            rw [e17]
            exact hL
        · cases h
      · cases h
    · rename_i q
      split at h
      · rename_i y x st0
        split at h
        · rename_i q2
          have h4 := jlt4 g q2.2
          cases h
          exact va_mmax hx hb hms hown (hts _ (jlnk_max q)) (hts _ jw_maxS) (hts _ jw_math) (hts _ jw_maxC) hfr (by omega) hcR hsR hd (K rfl H locs (jnow_st N (jvs_cons trivial (jvs_tl (jvs_tl hvs)))))
        · cases h
      · cases h
    · rename_i q
      split at h
      · rename_i y x st0
        split at h
        · rename_i q2
          have h4 := jlt4 g q2.2
          cases h
          exact va_mmin hx hb hms hown (hts _ (jlnk_min q)) (hts _ jw_minS) (hts _ jw_math) (hts _ jw_minC) hfr (by omega) hcR hsR hd (K rfl H locs (jnow_st N (jvs_cons trivial (jvs_tl (jvs_tl hvs)))))
        · cases h
      · cases h
    · exact (jinv_no h).elim
  | invokevirtual i =>
    simp only [jln] at hn
    obtain rfl : n = 3 := by omega
    simp only [jexe] at h
    split at h
    · rename_i q
      split at h
      · rename_i a st0
        split at h
        · rename_i q2
          cases h
          have ha : a = (0, 0) := jok_str (hvs _ List.mem_cons_self)
          subst ha
          exact (hStr C0' hG h10 hcR hsR hF N q2.2).1 q (K rfl H locs (jnow_st N (jvs_cons trivial (jvs_tl hvs))))
        · cases h
      · cases h
    · rename_i q
      split at h
      · rename_i x a st0
        split at h
        · rename_i q2
          cases h
          have ha : a = (0, 0) := jok_str (hvs _ (List.mem_cons_of_mem _ List.mem_cons_self))
          subst ha
          exact (hStr C0' hG h10 hcR hsR hF N q2.1.2).2 q x q2.2.1 q2.2.2 (K rfl H locs (jnow_st N (jvs_cons trivial (jvs_tl (jvs_tl hvs)))))
        · cases h
      · cases h
    · exact (jinv_no h).elim
  | _ => exact absurd hI (by simp [jNat])
end JCALL
