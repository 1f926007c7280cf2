/-! one instruction: fields and arrays -/
section JMEM
variable {p : Program} {l : Launch} {e : Env} {R : Room} {s : State} {m : MethodId} {args : Array Value} {below : List Frame} {meth : Method} {c : Code} {Q : State → Prop}
variable {g : jR → Nat} {b base : Nat} {dC : Nat → ClassId} {dI : Nat → Nat → Nat} {cA : Nat → ClassId}
theorem jPd_eq (P : List (jR × Nat)) (r : jR) (k : Nat) : jPd P r k = P.contains (r, k) := by
  cases P <;> rfl
theorem jfs_up {σ : jS} {k i : Nat} {a : jA} {x : Int32} (hi : i < jN k) (hr : (jIsRefT.getD k []).getD i false = false) : jfs g (σ.1, (σ.2.1, jUp σ.2.2 k a i x)) k a = (jfs g σ k a).set i (.int x) := by
  apply List.ext_getElem?
  intro j
  by_cases hj : j < jN k
  · by_cases e : i = j
    · subst e
      rw [List.getElem?_set_self (by rw [jfs_len]; exact hi), jfs_at hi]
      simp only [hr, jUp]
      simp
    · rw [List.getElem?_set_ne e, jfs_at hj, jfs_at hj]
      have e2 : ¬ j = i := fun z => e z.symm
      simp [jUp, e2]
  · rw [List.getElem?_eq_none (by rw [jfs_len]; omega), List.getElem?_eq_none (by rw [List.length_set, jfs_len]; omega)]
theorem jEn_up {σ : jS} {k i : Nat} {a : jA} {x : Int32} {r' : jR} (h : r' ≠ (k, a)) : jEn g cA (σ.1, (σ.2.1, jUp σ.2.2 k a i x)) r' = jEn g cA σ r' := by
  have key : ∀ j, jUp σ.2.2 k a i x r'.1 r'.2 j = σ.2.2 r'.1 r'.2 j := by
    intro j
    unfold jUp
    rw [if_neg]
    rintro ⟨h1, h2, -⟩
    exact h (Prod.ext h1 h2)
  have e : jfs g (σ.1, (σ.2.1, jUp σ.2.2 k a i x)) r'.1 r'.2 = jfs g σ r'.1 r'.2 := by
    unfold jfs
    simp only [key]
  unfold jEn
  rw [e]
  simp only [key]
theorem jRel_at {σ : jS} {H : Heap} {r : jR} {k : Nat} (hG : jGd g b base) (h : jRel g b base dC dI cA σ s H) (hr : jok σ.1 r) (hk : r.1 = k) (h17 : k < 17) : ∃ j, j < σ.1 ∧ jRefs[j]? = some r ∧ g r = base + j ∧ (jWs g base cA σ)[j]? = some (base + j, jEn g cA σ r) := by
  obtain ⟨j, h1, h2⟩ := jok_get hr (by omega)
  exact ⟨j, h1, h2, hG.1 j r h2, jWs_get h1 h2⟩
theorem jX_keep {L : Nat} {xs : Nat → Int32} {H H1 : Heap} {locs locs1 : List Loc} (hG : jGd g b base) (hb : base ≤ s.heap.size) (h : jXs g b base L xs s H) (h1 : va_S (fun q => base ≤ q) s.heap H locs) (h2 : va_S (fun q => base ≤ q) s.heap H1 locs1) : jXs g b base L xs s H1 := by
  have key : ∀ a : Nat, ¬ base ≤ a → H1[a]? = H[a]? := fun a ha => by
    rw [h2.2.1 a (by omega) ha, h1.2.1 a (by omega) ha]
  exact ⟨h.1.kept (key b (Nat.not_le.mpr hG.2.2)), jXt_kept h.2 (fun a _ ha => key a ha)⟩
theorem jRel_up {σ : jS} {H H1 : Heap} {locs locs1 : List Loc} {k i : Nat} {a : jA} {x : Int32} (hG : jGd g b base) (hb : base ≤ s.heap.size) (hk : k ≠ 17) (h : jRel g b base dC dI cA σ s H) (h1 : va_S (fun q => base ≤ q) s.heap H locs) (h2 : va_S (fun q => base ≤ q) s.heap H1 locs1)
    (hP : va_P (dC, dI) jCl (jWs g base cA (σ.1, (σ.2.1, jUp σ.2.2 k a i x))) H1) : jRel g b base dC dI cA (σ.1, (σ.2.1, jUp σ.2.2 k a i x)) s H1 := by
  have e : ∀ a' j, jUp σ.2.2 k a i x 17 a' j = σ.2.2 17 a' j := fun a' j => by
    unfold jUp
    rw [if_neg (fun z => hk z.1.symm)]
  obtain ⟨g1, g2, g3, g4, g5, g6, g7⟩ := h
  refine ⟨g1, hP, g3, g4, ?_, ?_, g7⟩
  · have e1 : (jUp σ.2.2 k a i x) 17 (0, 0) = σ.2.2 17 (0, 0) := funext fun j => e _ j
    show jXs g b base (jUp σ.2.2 k a i x 17 (0, 1) 0).toNatClampNeg (jUp σ.2.2 k a i x 17 (0, 0)) s H1
    rw [e, e1]
    exact jX_keep hG hb g5 h1 h2
  · show Int32.ofNat (jUp σ.2.2 k a i x 17 (0, 1) 0).toNatClampNeg = jUp σ.2.2 k a i x 17 (0, 1) 0
    rw [e]
    exact g6
theorem jin_of {i : Int32} {n : Nat} (h : 0 ≤ i) (h2 : i.toNatClampNeg < n) : vp_in i n := by
  rintro (z | z)
  · exact absurd h (Int32.not_le.mpr z)
  · omega
theorem jnb {x : Int32} (h : x = 0 ∨ x = 1) : narrow .boolean (.int x) = .int x ∧ fits .boolean (.int x) = true ∧ vp_nar .boolean x = x := by
  rcases h with rfl | rfl <;> exact ⟨by decide, by decide, by decide⟩
/-- behind a write of a number: the world -/
theorem jnow_up {σ : jS} {H H1 : Heap} {locs locs1 : List Loc} {k i j mm : Nat} {a : jA} {x : Int32} {al : jL} {st st' : List jV} {ls : Array Slot} {w : va_E} (hG : jGd g b base) (hb : base ≤ s.heap.size) (hk : k ≠ 17) (hj : j < σ.1) (hr : jRefs[j]? = some (k, a))
    (N : jNow g b base dC dI cA s mm al st σ ls H locs) (h2 : va_S (fun q => base ≤ q) s.heap H1 locs1) (hw : jEn g cA (σ.1, (σ.2.1, jUp σ.2.2 k a i x)) (k, a) = w) (hP : va_P (dC, dI) jCl ((jWs g base cA σ).set j (base + j, w)) H1) (hst : jvs σ.1 st') :
    jNow g b base dC dI cA s mm al st' (σ.1, (σ.2.1, jUp σ.2.2 k a i x)) ls H1 locs1 := by
  obtain ⟨n1, n2, n3, n4, n5⟩ := N
  refine ⟨jRel_up hG hb hk n1 n5 h2 ?_, n2, n3, hst, h2⟩
  have e := jWs_set (g := g) (base := base) (cA := cA) (σ := σ) (σ' := (σ.1, (σ.2.1, jUp σ.2.2 k a i x))) rfl hj hr n1.1 (fun r' h => jEn_up h)
  rw [e, hw]
  exact hP
def jMem : Instr → Bool
  | .getfield _ | .putfield _ | .iaload | .baload | .iastore | .bastore | .aaload | .aastore | .arraylength => true
  | _ => false
theorem jtys_at (cA : Nat → ClassId) : (jtys cA)[0]? = some (cA 12, .int) ∧ (jtys cA)[1]? = some (cA 13, .boolean) ∧ (jtys cA)[2]? = some (cA 14, .byte) ∧ (jtys cA)[3]? = some (cA 15, .object "PlayedLaws$House") ∧ (jtys cA)[4]? = some (cA 16, .object "PlayedLaws$Night") := ⟨rfl, rfl, rfl, rfl, rfl⟩
set_option maxHeartbeats 8000000 in
set_option maxRecDepth 20000 in
theorem jsim_mem {cells slots mm pc n : Nat} {al al' : jL} {st st' : List jV} {σ σ' : jS} {pc' : Nat} {I : Instr} {ls : Array Slot} {H : Heap} {locs : List Loc} (hI : jMem I = true)
    (C0 : jStat p R s m args meth c base mm) (hG : jGd g b base) (hF : jF mm pc = some (I, n)) (h : jexe mm pc n al st σ I = some (.inl (pc', (al', (st', σ'))))) (N : jNow g b base dC dI cA s mm al st σ ls H locs)
    (K : σ'.1 = σ.1 → ∀ (H1 : Heap) (locs1 : List Loc), jNow g b base dC dI cA s mm al' st' σ' ls H1 locs1 → W p l e R s m args below meth c H1 locs1 cells slots Q (F0 m pc' ls (st'.map (jcv g)))) :
    W p l e R s m args below meth c H locs cells slots Q (F0 m pc ls (st.map (jcv g))) := by
  obtain ⟨hx, hb, hml, hown, hts, hlk, hin, hbs, hfr, hlo⟩ := C0
  have hd := jF_dec hF
  have hn := jF_ln hF
  obtain ⟨hR, hl, hva, hvs, hS⟩ := id N
  obtain ⟨h512, hP, hK, hC, hX, hL, hcl⟩ := id hR
  have hD := jWs_D (g := g) (base := base) (cA := cA) h512
  cases I with
  | getfield i =>
    simp only [jln] at hn
    obtain rfl : n = 3 := by omega
    simp only [jexe] at h
    split at h
    · rename_i k t q
      obtain ⟨hk, ht, hlink⟩ := jfld q
      split at h
      · rename_i r st0
        split at h
        · rename_i hrk
          obtain ⟨j, j1, j2, j3, j4⟩ := jRel_at hG hR (hvs _ List.mem_cons_self) hrk (by omega)
          rw [jEn_obj (by omega), hrk] at j4
          have hv := jfs_at (g := g) (σ := σ) (k := k) (s := t) (a := r.2) ht
          have go : ∀ v : jV, (jfs g σ k r.2)[t]? = some (jcv g v) → jokv σ.1 v → al' = al → pc' = pc + 3 → st' = v :: st0 → σ' = σ → W p l e R s m args below meth c H locs cells slots Q (F0 m pc ls ((.inr (.inr (some r)) :: st0 : List jV).map (jcv g))) := by
            intro v hv hov e1 e2 e3 e4
            subst e1; subst e2; subst e3; subst e4
            have kk := K rfl H locs (jnow_st N (jvs_cons hov (jvs_tl hvs)))
            show W p l e R s m args below meth c H locs cells slots Q (F0 m pc ls (.ref (g r) :: st0.map (jcv g)))
            rw [j3]
            rcases hlink with hlink | hlink
            · exact va_get (D := (dC, dI)) (ci := k) hx hb hts (juws hk) hown hK hP j j4 (jcl_at k hk) t ht (hts _ hlink) (fun _ z => z) hv hd kk
            · exact va_getN (D := (dC, dI)) (ci := k) hx hb hts (juws hk) hown hK hP j j4 (jcl_at k hk) t ht (va_Nw.use rfl (hC.1 _ hlink)) (fun _ z => z) hv hd kk
          split at h
          · rename_i hir
            split at h
            · cases h
            · rename_i hpd
              rw [jPd_eq] at hpd
              have hpd : σ.2.1.contains ((k, r.2), t) = false := by simpa using hpd
              cases h
              refine go (jRf (jrf k r.2 t)) ?_ ?_ rfl rfl rfl rfl
              · rw [hv, if_pos hir, hpd]
                rfl
              · have := hcl (k, r.2) t (by rw [← hrk]; exact hvs _ List.mem_cons_self) (Or.inl ⟨hk, hir⟩) (fun z => by
                  rw [← List.contains_iff_mem, hpd] at z
                  cases z)
                exact this
          · rename_i hir
            cases h
            refine go (jI (σ.2.2 k r.2 t)) ?_ trivial rfl rfl rfl rfl
            rw [hv, if_neg hir]
            rfl
        · cases h
      · cases h
    · cases h
  | putfield i =>
    simp only [jln] at hn
    obtain rfl : n = 3 := by omega
    simp only [jexe] at h
    split at h
    · rename_i k t q
      obtain ⟨hk, ht, hlink⟩ := jfld q
      split at h
      · rename_i x r st0
        split at h
        · rename_i hc
          obtain ⟨hrk, hir, hbo⟩ := hc
          obtain ⟨j, j1, j2, j3, j4⟩ := jRel_at hG hR (hvs _ (List.mem_cons_of_mem _ List.mem_cons_self)) hrk (by omega)
          rw [jEn_obj (by omega), hrk] at j4
          have j2' : jRefs[j]? = some (k, r.2) := by rw [← hrk]; exact j2
          obtain ⟨f1, f2⟩ := jfin_num hk ht hir
          have f3 : narrow (jTy k t) (.int x) = .int x ∧ fits (jTy k t) (.int x) = true := by
            rcases f2 with f2 | ⟨f2, f4, f5⟩
            · rw [f2]; exact ⟨rfl, rfl⟩
            · rw [f2]
              have := jnb (hbo ⟨f4, f5⟩)
              exact ⟨this.1, this.2.1⟩
          cases h
          show W p l e R s m args below meth c H locs cells slots Q (F0 m pc ls (.int x :: .ref (g r) :: st'.map (jcv g)))
          rw [j3]
          have kk : ∀ (H1 : Heap) (locs1 : List Loc), va_P (dC, dI) jCl ((jWs g base cA σ).set j (base + j, .inr (k, (jfs g σ k r.2).set t (.int x)))) H1 → va_D (fun q => base ≤ q) ((jWs g base cA σ).set j (base + j, .inr (k, (jfs g σ k r.2).set t (.int x)))) → va_S (fun q => base ≤ q) s.heap H1 locs1 → W p l e R s m args below meth c H1 locs1 cells slots Q (F0 m (pc + 3) ls (st'.map (jcv g))) :=
            fun H1 locs1 hP1 _ hS1 => K rfl H1 locs1 (jnow_up hG hbs (by omega) j1 j2' N hS1 (by rw [jEn_obj (by exact hk), jfs_up ht hir]) hP1 (jvs_tl (jvs_tl hvs)))
          rcases hlink with hlink | hlink
          · exact va_put (D := (dC, dI)) (ci := k) hx hb hts (juws hk) (jTy k) (jty_ok k hk) (jnm_ok k hk) hown hK hP hD hS j j4 (jcl_at k hk) t ht (hts _ hlink) (fun _ z => z) f1 (jty_ok k hk t ht) f3.1 f3.2 (by rw [jfs_len]; exact ht) hd kk
          · exact va_putN (D := (dC, dI)) (ci := k) hx hb hts (juws hk) (jTy k) (jty_ok k hk) (jnm_ok k hk) hown hK hP hD hS j j4 (jcl_at k hk) t ht (va_Nw.use rfl (hC.1 _ hlink)) (fun _ z => z) f1 (jty_ok k hk t ht) f3.1 f3.2 (by rw [jfs_len]; exact ht) hd kk
        · cases h
      · rename_i v r st0
        split at h
        · rename_i hc
          obtain ⟨⟨hrk, hir, hii, hio⟩, hvr, hct, her⟩ := hc
          subst hio
          obtain ⟨j, j1, j2, j3, j4⟩ := jRel_at hG hR (hvs _ (List.mem_cons_of_mem _ List.mem_cons_self)) hrk (by omega)
          rw [jEn_obj (by omega), hrk] at j4
          have j2' : jRefs[j]? = some ((jOwn mm), r.2) := by rw [← hrk]; exact j2
          obtain ⟨f1, f2, f3, f4⟩ := jfin_ref hk ht hir (g v)
          cases h
          show W p l e R s m args below meth c H locs cells slots Q (F0 m pc ls (.ref (g v) :: .ref (g r) :: st'.map (jcv g)))
          rw [j3]
          have hlink' := hts _ (jfld_own q)
          refine va_putF (D := (dC, dI)) (ci := (jOwn mm)) hx hb hts (juws hk) (jTy (jOwn mm)) (jty_ok (jOwn mm) hk) (jnm_ok (jOwn mm) hk) hown hK hP hD hS j j4 (jcl_at (jOwn mm) hk) t ht hlink' (fun _ z => z) f1 (hin hii) f2 (jty_ok (jOwn mm) hk t ht) f3 f4 (by rw [jfs_len]; exact ht) hd (fun H1 locs1 hP1 _ hS1 => K rfl H1 locs1 ?_)
          obtain ⟨n1, n2, n3, n4, n5⟩ := N
          refine ⟨⟨h512, ?_, hK, hC, jX_keep hG hbs hX hS hS1, hL, ?_⟩, n2, n3, jvs_tl (jvs_tl hvs), hS1⟩
          · have hne : ∀ q : jR × Nat, q ≠ (((jOwn mm), r.2), t) → (σ.2.1.erase (((jOwn mm), r.2), t)).contains q = σ.2.1.contains q := fun q hq => by
              rw [Bool.eq_iff_iff, List.contains_iff_mem, List.contains_iff_mem, List.mem_erase_of_ne hq]
            rw [jWs_set (g := g) (base := base) (cA := cA) (σ := σ) (σ' := (σ.1, (σ.2.1.erase (((jOwn mm), r.2), t), σ.2.2))) (r := ((jOwn mm), r.2)) rfl j1 j2' h512 (fun r' hr' => ?_)]
            · rw [jEn_obj (by exact hk)]
              have e1 : jfs g (σ.1, (σ.2.1.erase (((jOwn mm), r.2), t), σ.2.2)) (jOwn mm) r.2 = (jfs g σ (jOwn mm) r.2).set t (.ref (g v)) := by
                apply List.ext_getElem?
                intro u
                by_cases hu : u < jN (jOwn mm)
                · by_cases e : t = u
                  · subst e
                    rw [List.getElem?_set_self (by rw [jfs_len]; exact hu), jfs_at hu, if_pos hir]
                    simp only [her, hvr]
                    rfl
                  · rw [List.getElem?_set_ne e, jfs_at hu, jfs_at hu]
                    have := hne (((jOwn mm), r.2), u) (fun z => e (Prod.mk.inj z).2.symm)
                    simp only [this]
                · rw [List.getElem?_eq_none (by rw [jfs_len]; omega), List.getElem?_eq_none (by rw [List.length_set, jfs_len]; omega)]
              show va_P (dC, dI) jCl ((jWs g base cA σ).set j (base + j, .inr ((jOwn mm), jfs g (σ.1, (σ.2.1.erase (((jOwn mm), r.2), t), σ.2.2)) (jOwn mm) r.2))) H1
              rw [e1]
              exact hP1
            · have e2 : ∀ u, (σ.2.1.erase (((jOwn mm), r.2), t)).contains (r', u) = σ.2.1.contains (r', u) := fun u => hne (r', u) (fun z => hr' (Prod.mk.inj z).1)
              have e3 : jfs g (σ.1, (σ.2.1.erase (((jOwn mm), r.2), t), σ.2.2)) r'.1 r'.2 = jfs g σ r'.1 r'.2 := by
                unfold jfs
                simp only [show ∀ u, (σ.2.1.erase (((jOwn mm), r.2), t)).contains ((r'.1, r'.2), u) = σ.2.1.contains ((r'.1, r'.2), u) from e2]
              unfold jEn
              rw [e3]
              simp only [e2]
          · intro r' u ho hp hm
            by_cases e : (r', u) = (((jOwn mm), r.2), t)
            · obtain ⟨e1, e2⟩ := Prod.mk.inj e
              subst e1; subst e2
              show jok σ.1 (jrf (jOwn mm) r.2 u)
              rw [← hvr]
              exact hvs _ List.mem_cons_self
            · exact hcl r' u ho hp (fun z => hm ((List.mem_erase_of_ne e).mpr z))
        · cases h
      · cases h
    · cases h
  | iaload =>
    simp only [jln] at hn
    obtain rfl : n = 1 := by omega
    simp only [jexe] at h
    split at h
    · rename_i i r st0
      split at h
      · rename_i hrk
        split at h
        · rename_i q
          obtain ⟨j, j1, j2, j3, j4⟩ := jRel_at hG hR (hvs _ (List.mem_cons_of_mem _ List.mem_cons_self)) hrk (by omega)
          rw [jEn_ints (Or.inl hrk), hrk] at j4
          cases h
          show W p l e R s m args below meth c H locs cells slots Q (F0 m pc ls (.int i :: .ref (g r) :: st0.map (jcv g)))
          rw [j3]
          exact va_iald hx hb hK hP j 0 j4 (jtys_at cA).1 (jin_of q.1 q.2) hd (K rfl H locs (jnow_st N (jvs_cons trivial (jvs_tl (jvs_tl hvs)))))
        · cases h
      · split at h
        · rename_i hr
          subst hr
          split at h
          · rename_i q
            cases h
            show W p l e R s m args below meth c H locs cells slots Q (F0 m pc ls (.int i :: .ref (g (17, (0, 0))) :: st0.map (jcv g)))
            rw [hG.2.1]
            obtain ⟨scr, h1, h2, h3, h4, h5⟩ := hX.1
            exact W.iald (v := .int (σ.2.2 17 (0, 0) i.toNatClampNeg)) hx hb h1 h2 h3 (by rw [h4]; exact jin_of q.1 q.2) (h5 _ q.2) rfl rfl hd (K rfl H locs (jnow_st N (jvs_cons trivial (jvs_tl (jvs_tl hvs)))))
          · cases h
        · cases h
    · cases h
  | baload =>
    simp only [jln] at hn
    obtain rfl : n = 1 := by omega
    simp only [jexe] at h
    split at h
    · rename_i i r st0
      split at h
      · rename_i q
        obtain ⟨hrk, q⟩ := q
        obtain ⟨j, j1, j2, j3, j4⟩ := jRel_at hG hR (hvs _ (List.mem_cons_of_mem _ List.mem_cons_self)) rfl (by omega)
        rw [jEn_ints (Or.inr hrk)] at j4
        cases h
        have kk := K rfl H locs (jnow_st N (jvs_cons trivial (jvs_tl (jvs_tl hvs))))
        show W p l e R s m args below meth c H locs cells slots Q (F0 m pc ls (.int i :: .ref (g r) :: st0.map (jcv g)))
        rw [j3]
        rcases hrk with hrk | hrk
        · rw [hrk] at j4 q kk
          exact va_zald hx hb hK hP j 1 j4 (jtys_at cA).2.1 (jin_of q.1 q.2) hd kk
        · rw [hrk] at j4 q kk
          exact va_bald hx hb hK hP j 2 j4 (jtys_at cA).2.2.1 (jin_of q.1 q.2) hd kk
      · cases h
    · cases h
  | iastore =>
    simp only [jln] at hn
    obtain rfl : n = 1 := by omega
    simp only [jexe] at h
    split at h
    · rename_i x i r st0
      split at h
      · rename_i q
        obtain ⟨hrk, q⟩ := q
        obtain ⟨j, j1, j2, j3, j4⟩ := jRel_at hG hR (hvs _ (List.mem_cons_of_mem _ (List.mem_cons_of_mem _ List.mem_cons_self))) hrk (by omega)
        have j2' : jRefs[j]? = some (12, r.2) := by rw [← hrk]; exact j2
        rw [jEn_ints (Or.inl hrk), hrk] at j4
        cases h
        show W p l e R s m args below meth c H locs cells slots Q (F0 m pc ls (.int x :: .int i :: .ref (g r) :: st'.map (jcv g)))
        rw [j3]
        refine va_iast hx hb hK hP hD hS j 0 j4 (jtys_at cA).1 (jin_of q.1 q.2) hd (fun H1 locs1 hP1 _ hS1 => K rfl H1 locs1 (jnow_up hG hbs (by omega) j1 j2' N hS1 ?_ hP1 (jvs_tl (jvs_tl (jvs_tl hvs)))))
        rw [jEn_ints (Or.inl rfl)]
        congr 4
        funext u
        by_cases hu : u = i.toNatClampNeg <;> simp [jUp, upd, hu]
      · cases h
    · cases h
  | bastore =>
    simp only [jln] at hn
    obtain rfl : n = 1 := by omega
    simp only [jexe] at h
    split at h
    · rename_i x i r st0
      split at h
      · rename_i q
        obtain ⟨hrk, q⟩ := q
        cases h
        rcases hrk with ⟨hrk, hx01⟩ | ⟨hrk, hx8⟩
        · obtain ⟨j, j1, j2, j3, j4⟩ := jRel_at hG hR (hvs _ (List.mem_cons_of_mem _ (List.mem_cons_of_mem _ List.mem_cons_self))) hrk (by omega)
          have j2' : jRefs[j]? = some (13, r.2) := by rw [← hrk]; exact j2
          rw [jEn_ints (Or.inr (Or.inl hrk)), hrk] at j4
          rw [hrk] at q K
          show W p l e R s m args below meth c H locs cells slots Q (F0 m pc ls (.int x :: .int i :: .ref (g r) :: st'.map (jcv g)))
          rw [j3]
          refine va_zast hx hb hK hP hD hS j 1 j4 (jtys_at cA).2.1 (jin_of q.1 q.2) hd (fun H1 locs1 hP1 _ hS1 => K rfl H1 locs1 (jnow_up hG hbs (by omega) j1 j2' N hS1 ?_ hP1 (jvs_tl (jvs_tl (jvs_tl hvs)))))
          rw [jEn_ints (Or.inr (Or.inl rfl)), (jnb hx01).2.2]
          congr 4
          funext u
          by_cases hu : u = i.toNatClampNeg <;> simp [jUp, upd, hu]
        · obtain ⟨j, j1, j2, j3, j4⟩ := jRel_at hG hR (hvs _ (List.mem_cons_of_mem _ (List.mem_cons_of_mem _ List.mem_cons_self))) hrk (by omega)
          have j2' : jRefs[j]? = some (14, r.2) := by rw [← hrk]; exact j2
          rw [jEn_ints (Or.inr (Or.inr hrk)), hrk] at j4
          rw [hrk] at q K
          show W p l e R s m args below meth c H locs cells slots Q (F0 m pc ls (.int x :: .int i :: .ref (g r) :: st'.map (jcv g)))
          rw [j3]
          refine va_bast hx hb hK hP hD hS j 2 j4 (jtys_at cA).2.2.1 (jin_of q.1 q.2) hd (fun H1 locs1 hP1 _ hS1 => K rfl H1 locs1 (jnow_up hG hbs (by omega) j1 j2' N hS1 ?_ hP1 (jvs_tl (jvs_tl (jvs_tl hvs)))))
          rw [jEn_ints (Or.inr (Or.inr rfl)), show vp_nar .byte x = x from (show vp_nar .byte x = x.toInt8.toInt32 from rfl).trans hx8]
          congr 4
          funext u
          by_cases hu : u = i.toNatClampNeg <;> simp [jUp, upd, hu]
      · cases h
    · cases h
  | aaload =>
    simp only [jln] at hn
    obtain rfl : n = 1 := by omega
    simp only [jexe] at h
    split at h
    · rename_i i r st0
      split at h
      · rename_i q
        obtain ⟨hrk, q⟩ := q
        split at h
        · cases h
        · rename_i hpd
          rw [jPd_eq] at hpd
          have hpd : σ.2.1.contains (r, i.toNatClampNeg) = false := by simpa using hpd
          have hro := hvs _ (List.mem_cons_of_mem _ List.mem_cons_self)
          obtain ⟨j, j1, j2, j3, j4⟩ := jRel_at hG hR hro rfl (by omega)
          rw [jEn_refs hrk] at j4
          cases h
          have kk := K rfl H locs (jnow_st N (jvs_cons (show jok σ.1 (jrf r.1 r.2 i.toNatClampNeg) from hcl r _ hro (Or.inr ⟨hrk, q.2⟩) (fun z => by
            rw [← List.contains_iff_mem, hpd] at z
            cases z)) (jvs_tl (jvs_tl hvs))))
          show W p l e R s m args below meth c H locs cells slots Q (F0 m pc ls (.int i :: .ref (g r) :: st0.map (jcv g)))
          rw [j3]
          have e1 : va_rf ((fun u => if σ.2.1.contains (r, u) then none else some (g (jrf r.1 r.2 u))) i.toNatClampNeg) = .ref (g (jrf r.1 r.2 i.toNatClampNeg)) := by
            simp only [hpd]
            rfl
          rcases hrk with hrk | hrk
          · have ht : (jtys cA)[3]? = some (cA r.1, .object "PlayedLaws$House") := by rw [hrk]; rfl
            exact va_aldq hx hb hK hP j 3 j4 ht (jin_of q.1 q.2) hd (by rw [e1]; exact kk)
          · have ht : (jtys cA)[4]? = some (cA r.1, .object "PlayedLaws$Night") := by rw [hrk]; rfl
            exact va_aldq hx hb hK hP j 4 j4 ht (jin_of q.1 q.2) hd (by rw [e1]; exact kk)
      · cases h
    · cases h
  | aastore =>
    simp only [jln] at hn
    obtain rfl : n = 1 := by omega
    simp only [jexe] at h
    split at h
    · rename_i v i r st0
      split at h
      · rename_i q
        obtain ⟨⟨hrk, q⟩, hvr, hct, her⟩ := q
        obtain ⟨j, j1, j2, j3, j4⟩ := jRel_at hG hR (hvs _ (List.mem_cons_of_mem _ (List.mem_cons_of_mem _ List.mem_cons_self))) rfl (by omega)
        rw [jEn_refs hrk] at j4
        have hvo : jok σ.1 v := hvs _ List.mem_cons_self
        have hv1 : v.1 = 1 ∨ v.1 = 4 := by
          rw [hvr]
          rcases hrk with hrk | hrk <;> rw [hrk]
          · exact Or.inl rfl
          · exact Or.inr rfl
        obtain ⟨jv', k1, k2, k3, k4⟩ := jRel_at hG hR hvo rfl (by omega)
        rw [jEn_obj (by omega)] at k4
        cases h
        have kk : ∀ (H1 : Heap) (locs1 : List Loc), va_P (dC, dI) jCl ((jWs g base cA σ).set j (base + j, .inl (cA r.1, jLen r.1 r.2, .inr (.inr (.inr (.inr (va_up (fun u => if σ.2.1.contains (r, u) then none else some (g (jrf r.1 r.2 u))) i.toNatClampNeg (some (base + jv'))))))))) H1 → va_D (fun q => base ≤ q) ((jWs g base cA σ).set j (base + j, .inl (cA r.1, jLen r.1 r.2, .inr (.inr (.inr (.inr (va_up (fun u => if σ.2.1.contains (r, u) then none else some (g (jrf r.1 r.2 u))) i.toNatClampNeg (some (base + jv'))))))))) → va_S (fun q => base ≤ q) s.heap H1 locs1 → W p l e R s m args below meth c H1 locs1 cells slots Q (F0 m (pc + 1) ls (st'.map (jcv g))) := by
          intro H1 locs1 hP1 _ hS1
          refine K rfl H1 locs1 ?_
          obtain ⟨n1, n2, n3, n4, n5⟩ := N
          refine ⟨⟨h512, ?_, hK, hC, jX_keep hG hbs hX hS hS1, hL, ?_⟩, n2, n3, jvs_tl (jvs_tl (jvs_tl hvs)), hS1⟩
          · have hne : ∀ q : jR × Nat, q ≠ (r, i.toNatClampNeg) → (σ.2.1.erase (r, i.toNatClampNeg)).contains q = σ.2.1.contains q := fun q hq => by
              rw [Bool.eq_iff_iff, List.contains_iff_mem, List.contains_iff_mem, List.mem_erase_of_ne hq]
            rw [jWs_set (g := g) (base := base) (cA := cA) (σ := σ) (σ' := (σ.1, (σ.2.1.erase (r, i.toNatClampNeg), σ.2.2))) (r := r) rfl j1 j2 h512 (fun r' hr' => ?_)]
            · rw [jEn_refs hrk]
              have e1 : (fun u => if (σ.2.1.erase (r, i.toNatClampNeg)).contains (r, u) then none else some (g (jrf r.1 r.2 u))) = va_up (fun u => if σ.2.1.contains (r, u) then none else some (g (jrf r.1 r.2 u))) i.toNatClampNeg (some (base + jv')) := by
                funext u
                by_cases hu : u = i.toNatClampNeg
                · subst hu
                  simp only [her, va_up, if_pos, ← hvr, k3]
                  simp
                · simp only [hne (r, u) (fun z => hu (Prod.mk.inj z).2), va_up, if_neg hu]
              show va_P (dC, dI) jCl ((jWs g base cA σ).set j (base + j, .inl (cA r.1, (jLen r.1 r.2, .inr (.inr (.inr (.inr (fun u => if (σ.2.1.erase (r, i.toNatClampNeg)).contains (r, u) then none else some (g (jrf r.1 r.2 u)))))))))) H1
              rw [e1]
              exact hP1
            · have e2 : ∀ u, (σ.2.1.erase (r, i.toNatClampNeg)).contains (r', u) = σ.2.1.contains (r', u) := fun u => hne (r', u) (fun z => hr' (Prod.mk.inj z).1)
              have e3 : jfs g (σ.1, (σ.2.1.erase (r, i.toNatClampNeg), σ.2.2)) r'.1 r'.2 = jfs g σ r'.1 r'.2 := by
                unfold jfs
                simp only [show ∀ u, (σ.2.1.erase (r, i.toNatClampNeg)).contains ((r'.1, r'.2), u) = σ.2.1.contains ((r'.1, r'.2), u) from e2]
              unfold jEn
              rw [e3]
              simp only [e2]
          · intro r' u ho hp hm
            by_cases e : (r', u) = (r, i.toNatClampNeg)
            · obtain ⟨e1, e2⟩ := Prod.mk.inj e
              subst e1; subst e2
              show jok σ.1 (jrf r'.1 r'.2 i.toNatClampNeg)
              rw [← hvr]
              exact hvo
            · exact hcl r' u ho hp (fun z => hm ((List.mem_erase_of_ne e).mpr z))
        show W p l e R s m args below meth c H locs cells slots Q (F0 m pc ls (.ref (g v) :: .int i :: .ref (g r) :: st'.map (jcv g)))
        rw [j3, k3]
        rcases hrk with hrk | hrk
        · have ht : (jtys cA)[3]? = some (cA r.1, .object "PlayedLaws$House") := by rw [hrk]; rfl
          have hv2 : v.1 = 1 := by rw [hvr, hrk]; rfl
          rw [hv2] at k4
          exact va_astq (r := (jC 1, jT 1, jN 1)) hx hb hK hP hD hS j 3 jv' 1 j4 ht k4 (jcl_at 1 (by omega)) (jin_of q.1 q.2) hd kk
        · have ht : (jtys cA)[4]? = some (cA r.1, .object "PlayedLaws$Night") := by rw [hrk]; rfl
          have hv2 : v.1 = 4 := by rw [hvr, hrk]; rfl
          rw [hv2] at k4
          exact va_astq (r := (jC 4, jT 4, jN 4)) hx hb hK hP hD hS j 4 jv' 4 j4 ht k4 (jcl_at 4 (by omega)) (jin_of q.1 q.2) hd kk
      · cases h
    · cases h
  | arraylength =>
    simp only [jln] at hn
    obtain rfl : n = 1 := by omega
    simp only [jexe] at h
    split at h
    · rename_i r st0
      split at h
      · rename_i q
        obtain ⟨j, j1, j2, j3, j4⟩ := jRel_at hG hR (hvs _ List.mem_cons_self) rfl (by omega)
        cases h
        have kk := K rfl H locs (jnow_st N (jvs_cons trivial (jvs_tl hvs)))
        show W p l e R s m args below meth c H locs cells slots Q (F0 m pc ls (.ref (g r) :: st0.map (jcv g)))
        rw [j3]
        rcases (show r.1 = 12 ∨ r.1 = 13 ∨ r.1 = 14 ∨ r.1 = 15 ∨ r.1 = 16 by omega) with hrk | hrk | hrk | hrk | hrk
        · rw [jEn_ints (by omega)] at j4
          exact va_alen hx hb hK hP j 0 j4 (by rw [hrk]; rfl) rfl hd kk
        · rw [jEn_ints (by omega)] at j4
          exact va_alen hx hb hK hP j 1 j4 (by rw [hrk]; rfl) rfl hd kk
        · rw [jEn_ints (by omega)] at j4
          exact va_alen hx hb hK hP j 2 j4 (by rw [hrk]; rfl) rfl hd kk
        · rw [jEn_refs (by omega)] at j4
          exact va_alen hx hb hK hP j 3 j4 (by rw [hrk]; rfl) rfl hd kk
        · rw [jEn_refs (by omega)] at j4
          exact va_alen hx hb hK hP j 4 j4 (by rw [hrk]; rfl) rfl hd kk
      · split at h
        · rename_i hr
          subst hr
          cases h
          have kk := K rfl H locs (jnow_st N (jvs_cons trivial (jvs_tl hvs)))
          show W p l e R s m args below meth c H locs cells slots Q (F0 m pc ls (.ref (g (17, (0, 0))) :: st0.map (jcv g)))
          rw [hG.2.1]
          obtain ⟨scr, h1, h2, h3, h4, h5⟩ := hX.1
          exact W.alen (n := jSL σ.2.2) hx hb h1 h2 (by rw [h4]; exact hL) rfl rfl hd kk
        · cases h
    · cases h
  | _ => exact absurd hI (by simp [jMem])
end JMEM
