/-! one instruction: new objects and arrays; the members that are stepped over at once -/
theorem arrV_congr {cI : ClassId} {n : Nat} {f f' : Nat → Value} (h : ∀ j, j < n → f j = f' j) : arrV cI n f = arrV cI n f' := by
  unfold arrV
  congr 1
  congr 1
  funext j
  exact h j.1 j.2
def jsize (r : jR) : Nat := if r.1 < 12 then jN r.1 else jLen r.1 r.2
def jsz (n : Nat) : Nat := ((jRefs.take n).map jsize).sum
theorem jsz_succ {n : Nat} {r : jR} (h : jRefs[n]? = some r) : jsz (n + 1) = jsz n + jsize r := by
  unfold jsz
  rw [List.take_add_one, h]
  simp
theorem jzero_at {M : jM} {k n j : Nat} {a : jA} (h : jzero M k a n = true) (hj : j < n) : M k a j = 0 := by
  have := List.all_eq_true.mp h j (List.mem_range.mpr hj)
  exact eq_of_beq this
theorem jisref_lt {k s : Nat} (hk : k < 12) (h : (jIsRefT.getD k []).getD s false = true) : s < jN k := by
  have h0 : ((List.range 12).all fun k => (jIsRefT.getD k []).length == jN k) = true := by decide +kernel
  have h1 := eq_of_beq (List.all_eq_true.mp h0 k (List.mem_range.mpr hk))
  rcases Nat.lt_or_ge s (jN k) with z | z
  · exact z
  · rw [List.getD_eq_getElem?_getD, List.getElem?_eq_none (by omega)] at h
    cases h
theorem jSlots_mem {k s : Nat} {a : jA} (hk : k < 12) (h : (jIsRefT.getD k []).getD s false = true) : ((k, a), s) ∈ jSlots k a := by
  unfold jSlots
  refine List.mem_map.mpr ⟨s, List.mem_filter.mpr ⟨List.mem_range.mpr (jisref_lt hk h), h⟩, rfl⟩
theorem jSlots_own {k : Nat} {a : jA} {q : jR × Nat} (h : q ∈ jSlots k a) : q.1 = (k, a) := by
  unfold jSlots at h
  obtain ⟨s, -, rfl⟩ := List.mem_map.mp h
  rfl
theorem jok_mono {n n' : Nat} {r : jR} (h : jok n r) (hn : n ≤ n') : jok n' r := by
  rcases h with ⟨j, h1, h2⟩ | h
  · exact Or.inl ⟨j, by omega, h2⟩
  · exact Or.inr h
theorem jokv_mono {n n' : Nat} {v : jV} (h : jokv n v) (hn : n ≤ n') : jokv n' v := by
  rcases v with x | x | _ | r
  · trivial
  · trivial
  · trivial
  · exact jok_mono h hn
theorem jok_succ {n : Nat} {r r' : jR} (hr : jRefs[n]? = some r) (h : jok (n + 1) r') : r' = r ∨ jok n r' := by
  rcases h with ⟨j, h1, h2⟩ | h
  · by_cases e : j = n
    · subst e
      exact Or.inl (Option.some.inj (h2.symm.trans hr))
    · exact Or.inr (Or.inl ⟨j, by omega, h2⟩)
  · exact Or.inr (Or.inr h)
section JNEW
variable {p : Program} {l : Launch} {e : Env} {R : Room} {s : State} {m : MethodId} {args : Array Value} {below : List Frame} {meth : Method} {c : Code} {Q : State → Prop}
variable {g : jR → Nat} {b base : Nat} {dC : Nat → ClassId} {dI : Nat → Nat → Nat} {cA : Nat → ClassId}
theorem jW_le {H : Heap} {locs : List Loc} {cells slots : Nat} {f : JFrame} (k : H.size ≤ s.heap.size + cells → W p l e R s m args below meth c H locs cells slots Q f) : W p l e R s m args below meth c H locs cells slots Q f := fun T hT X => k (by rw [← hT]; exact X.heapSize) T hT X
/-- the new cell's address -/
theorem jnew_q {σ : jS} {q cells : Nat} {w : va_E} {H1 : Heap} (h512 : σ.1 ≤ 512) (hP : va_P (dC, dI) jCl (jWs g base cA σ ++ [(q, w)]) H1) (hD : va_D (fun q => base ≤ q) (jWs g base cA σ ++ [(q, w)])) (hs : H1.size ≤ s.heap.size + (cells + 1)) (hc : s.heap.size + cells = base + σ.1) : q = base + σ.1 := by
  have e1 : (jWs g base cA σ ++ [(q, w)])[σ.1]? = some (q, w) := by
    rw [List.getElem?_append_right (by rw [jWs_len]; exact Nat.le_refl _), jWs_len]
    simp
  have h1 : q < H1.size := (hP _ _ e1).lt
  have h2 : base ≤ q := hD.2 _ _ e1
  rcases Nat.lt_or_ge q (base + σ.1) with z | z
  · exfalso
    obtain ⟨i, rfl⟩ : ∃ i, q = base + i := ⟨q - base, by omega⟩
    have hi : i < σ.1 := by omega
    have hl : i < jRefs.length := by rw [jRefs_len]; omega
    have e2 : (jWs g base cA σ ++ [(base + i, w)])[i]? = some (base + i, jEn g cA σ jRefs[i]) := by
      rw [List.getElem?_append_left (by rw [jWs_len]; exact hi)]
      exact jWs_get hi (List.getElem?_eq_getElem hl)
    have := hD.1 _ _ _ _ e1 e2 rfl
    omega
  · omega
theorem jfit_nm {ty : FieldType} {c1 c2 : ClassId} (h1 : va_RA s c1 ty) (h2 : va_RA s c2 ty) : c1 = c2 := by
  cases ty with
  | object C =>
    obtain ⟨_, _, _, _, _, h3⟩ := h1
    obtain ⟨_, _, _, _, _, h4⟩ := h2
    exact Option.some.inj (h3.symm.trans h4)
  | _ => exact Option.some.inj (Eq.trans (Eq.symm h1) h2)
/-- the world behind a making -/
theorem jnow_new {σ : jS} {P' : List (jR × Nat)} {H H1 : Heap} {locs locs1 : List Loc} {mm : Nat} {r : jR} {al : jL} {st st' : List jV} {ls : Array Slot} (hG : jGd g b base) (hb : base ≤ s.heap.size) (hr : jRefs[σ.1]? = some r)
    (N : jNow g b base dC dI cA s mm al st σ ls H locs) (h2 : va_S (fun q => base ≤ q) s.heap H1 locs1)
    (hP : va_P (dC, dI) jCl (jWs g base cA σ ++ [(base + σ.1, jEn g cA (σ.1 + 1, (P', σ.2.2)) r)]) H1) (ho : ∀ (r' : jR) (u : Nat), r' ≠ r → P'.contains (r', u) = σ.2.1.contains (r', u)) (hp : ∀ u, jPl r u → (r, u) ∈ P') (hst : jvs (σ.1 + 1) st') :
    jNow g b base dC dI cA s mm al st' (σ.1 + 1, (P', σ.2.2)) ls H1 locs1 := by
  obtain ⟨⟨h512, n1, hK, hC, hX, hL, hcl⟩, n2, n3, n4, n5⟩ := N
  have hl : σ.1 < 512 := by
    have := (List.getElem?_eq_some_iff.mp hr).1
    rw [jRefs_len] at this
    exact this
  refine ⟨⟨hl, ?_, hK, hC, jX_keep hG hb hX n5 h2, hL, ?_⟩, n2, fun i v h => jokv_mono (n3 i v h) (Nat.le_succ _), hst, h2⟩
  · rw [jWs_app (σ := σ) rfl hr (fun r' hr' => ?_)]
    · exact hP
    · have e3 : jfs g (σ.1 + 1, (P', σ.2.2)) r'.1 r'.2 = jfs g σ r'.1 r'.2 := by
        unfold jfs
        simp only [show ∀ u, P'.contains ((r'.1, r'.2), u) = σ.2.1.contains ((r'.1, r'.2), u) from fun u => ho r' u hr']
      unfold jEn
      rw [e3]
      simp only [fun u => ho r' u hr']
  · intro r' u h1 h3 h4
    rcases jok_succ hr h1 with rfl | h5
    · exact absurd (hp u h3) h4
    · by_cases e : r' = r
      · subst e
        exact absurd (hp u h3) h4
      · have h6 : (r', u) ∉ σ.2.1 := fun z => h4 (by
          rw [← List.contains_iff_mem, ho r' u e, List.contains_iff_mem]
          exact z)
        exact jok_mono (hcl r' u h5 h3 h6) (Nat.le_succ _)
def jNew : Instr → Bool
  | .new _ | .newarray _ | .anewarray _ => true
  | _ => false
theorem jdef_num {k s : Nat} (hk : k < 12) (hs : s < jN k) (h : (jIsRefT.getD k []).getD s false = false) : defaultValue (jTy k s) = .int 0 := by
  rcases (jfin_num hk hs h).2 with q | ⟨q, -⟩ <;> rw [q] <;> rfl
theorem jdef_ref {k s : Nat} (hk : k < 12) (hs : s < jN k) (h : (jIsRefT.getD k []).getD s false = true) : defaultValue (jTy k s) = .null := by
  have h1 := (jfin_ref hk hs h 0).2.2.2
  revert h1
  cases jTy k s <;> intro h1 <;> first | rfl | cases h1
set_option maxHeartbeats 8000000 in
set_option maxRecDepth 20000 in
theorem jsim_new {cells slots mm pc n : Nat} {al al' : jL} {st st' : List jV} {σ σ' : jS} {pc' : Nat} {I : Instr} {ls : Array Slot} {H : Heap} {locs : List Loc} (hI : jNew I = true)
    (C0 : jStat p R s m args meth c base mm) (hG : jGd g b base) (hF : jF mm pc = some (I, n)) (h : jexe mm pc n al st σ I = some (.inl (pc', (al', (st', σ'))))) (N : jNow g b base dC dI cA s mm al st σ ls H locs)
    (hc : s.heap.size + cells = base + σ.1) (hcR : cells + (σ'.1 - σ.1) ≤ R.cells) (hsR : slots + (jsz σ'.1 - jsz σ.1) ≤ R.slots)
    (K : ∀ (H1 : Heap) (locs1 : List Loc), jNow g b base dC dI cA s mm al' st' σ' ls H1 locs1 → W p l e R s m args below meth c H1 locs1 (cells + (σ'.1 - σ.1)) (slots + (jsz σ'.1 - jsz σ.1)) Q (F0 m pc' ls (st'.map (jcv g)))) :
    W p l e R s m args below meth c H locs cells slots Q (F0 m pc ls (st.map (jcv g))) := by
  obtain ⟨hx, hb, hml, hown, hts, hlk, hin, hbs, hfr, hlo⟩ := C0
  have hd := jF_dec hF
  have hn := jF_ln hF
  obtain ⟨hR, hl, hva, hvs, hS⟩ := id N
  obtain ⟨h512, hP, hK, hC, hX, hL, hcl⟩ := id hR
  have hD := jWs_D (g := g) (base := base) (cA := cA) h512
  have hA : ∀ q, s.heap.size ≤ q → (fun q => base ≤ q) q := fun q hq => Nat.le_trans hbs hq
  cases I with
  | new i =>
    simp only [jln] at hn
    obtain rfl : n = 3 := by omega
    simp only [jexe] at h
    split at h
    · rename_i k r hq hr
      split at h
      · rename_i q
        obtain ⟨hrk, hk, hz⟩ := q
        obtain ⟨-, c1, c2, c3⟩ := jcls hq
        cases h
        have e0 : σ.1 + 1 - σ.1 = 1 := by omega
        have e1 : jsz (σ.1 + 1) - jsz σ.1 = jN k := by
          rw [jsz_succ hr, jsize, hrk, if_pos hk]
          omega
        rw [e0] at K hcR
        rw [e1] at K hsR
        have hr0 : r = (k, r.2) := Prod.ext hrk rfl
        refine va_new (D := (dC, dI)) (ci := k) (fs := jfs g (σ.1 + 1, (jSlots k r.2 ++ σ.2.1, σ.2.2)) k r.2) hx hb hts (juws hk) (jTy k) (jty_ok k hk) hown (hts _ c1) (hts _ c3) (hts _ c2) hK hP hD hS hA (jcl_at k hk) (fun j hj => ?_) hcR hsR hd (fun q H1 hP1 hD1 hS1 => ?_)
        · have e2 := jfs_at (g := g) (σ := (σ.1 + 1, (jSlots k r.2 ++ σ.2.1, σ.2.2))) (k := k) (s := j) (a := r.2) hj
          unfold vp_V
          rw [List.getD_eq_getElem?_getD, e2]
          by_cases hir : (jIsRefT.getD k []).getD j false = true
          · have e3 : (jSlots k r.2 ++ σ.2.1).contains ((k, r.2), j) = true := List.contains_iff_mem.mpr (List.mem_append_left _ (jSlots_mem hk hir))
            rw [if_pos hir, if_pos e3]
            exact jdef_ref hk hj hir
          · have hir : (jIsRefT.getD k []).getD j false = false := by simpa using hir
            rw [hir, jdef_num hk hj hir]
            simp [jzero_at hz hj]
        · refine jW_le (fun hsz => ?_)
          obtain rfl := jnew_q h512 hP1 hD1 hsz hc
          have hgr : g r = base + σ.1 := hG.1 σ.1 r hr
          have kk := K H1 locs (jnow_new (P' := jSlots k r.2 ++ σ.2.1) (st' := jRf r :: st) hG hbs hr N hS1 ?_ ?_ ?_ ?_)
          · have e4 : ((jRf r :: st).map (jcv g)) = Value.ref (base + σ.1) :: st.map (jcv g) := by
              rw [← hgr]
              rfl
            rw [e4] at kk
            exact kk
          · rw [jEn_obj (by omega), hrk]
            exact hP1
          · intro r' u hr'
            rw [Bool.eq_iff_iff, List.contains_iff_mem, List.contains_iff_mem, List.mem_append]
            constructor
            · rintro (z | z)
              · exact absurd ((jSlots_own z).trans hr0.symm) hr'
              · exact z
            · exact Or.inr
          · intro u hu
            rcases hu with ⟨-, hu⟩ | ⟨hu, -⟩
            · rw [hrk] at hu
              rw [hr0]
              exact List.mem_append_left _ (jSlots_mem hk hu)
            · omega
          · exact jvs_cons (Or.inl ⟨σ.1, Nat.lt_succ_self _, hr⟩) (fun v hv => jokv_mono (hvs v hv) (Nat.le_succ _))
      · cases h
    · cases h
  | newarray t =>
    simp only [jln] at hn
    obtain rfl : n = 2 := by omega
    simp only [jexe] at h
    split at h
    · rename_i x st0 r hr
      split at h
      · rename_i q
        obtain ⟨htk, hx0, hxl, hz⟩ := q
        cases h
        have e0 : σ.1 + 1 - σ.1 = 1 := by omega
        have e1 : jsz (σ.1 + 1) - jsz σ.1 = jLen r.1 r.2 := by
          rw [jsz_succ hr, jsize, if_neg (by omega)]
          omega
        rw [e0] at K hcR
        rw [e1] at K hsR
        have hlen : jLen r.1 r.2 ≤ 100000 := by
          have h0 : (jRefs.all fun r => Nat.ble (jLen r.1 r.2) 100000) = true := by decide +kernel
          exact Nat.le_of_ble_eq_true (List.all_eq_true.mp h0 r (List.mem_of_getElem? hr))
        have hgr : g r = base + σ.1 := hG.1 σ.1 r hr
        have fin : ∀ (ty : FieldType) (t0 : Nat), (jtys cA)[t0]? = some (cA r.1, ty) → newarray.typeOf t = ty → componentBytes ty ≤ 8 → defaultValue ty = .int 0 → Cond.arrayClass ty ∈ jTs → W p l e R s m args below meth c H locs cells slots Q (F0 m pc ls (.int x :: st0.map (jcv g))) := by
          intro ty t0 ht0 hty hcb hdv hac
          refine va_newa (atype := t) (a0 := (jLen r.1 r.2, .inl (fun j => σ.2.2 r.1 r.2 j))) hx hb (by rw [hty]; exact hts _ hac) hty hK hP hD hS hA (fun cA' => ?_) (Int32.not_lt.mpr hx0) hxl (by
            have : jLen r.1 r.2 * componentBytes ty ≤ 100000 * 8 := Nat.mul_le_mul hlen hcb
            omega) hcR hsR hd (fun q cA' H1 hK1 hP1 hD1 hS1 => ?_)
          · rw [vp_cell_i, hdv]
            exact arrV_congr (fun j hj => by rw [jzero_at hz hj])
          · have hcA : cA' = cA r.1 := by
              have h1 := (hK1.2 5 (cA', ty) rfl).2
              have h2 := (hK.2 t0 _ ht0).2
              exact jfit_nm h1 h2
            subst hcA
            refine jW_le (fun hsz => ?_)
            obtain rfl := jnew_q h512 hP1 hD1 hsz hc
            have kk := K H1 locs (jnow_new (P' := σ.2.1) (st' := jRf r :: st0) hG hbs hr N hS1 ?_ ?_ ?_ ?_)
            · have e4 : ((jRf r :: st0).map (jcv g)) = Value.ref (base + σ.1) :: st0.map (jcv g) := by
                rw [← hgr]
                rfl
              rw [e4] at kk
              exact kk
            · rw [jEn_ints (by omega)]
              exact hP1
            · intro r' u hr'
              rfl
            · intro u hu
              rcases hu with ⟨hu, -⟩ | ⟨hu, -⟩ <;> omega
            · exact jvs_cons (Or.inl ⟨σ.1, Nat.lt_succ_self _, hr⟩) (fun v hv => jokv_mono (hvs v (List.mem_cons_of_mem _ hv)) (Nat.le_succ _))
        rcases htk with ⟨h1, h2⟩ | ⟨h1, h2⟩ | ⟨h1, h2⟩
        · subst h1
          exact fin .int 0 (by rw [h2]; rfl) rfl (by decide) rfl jw_Aint
        · subst h1
          exact fin .boolean 1 (by rw [h2]; rfl) rfl (by decide) rfl jw_Aboolean
        · subst h1
          exact fin .byte 2 (by rw [h2]; rfl) rfl (by decide) rfl jw_Abyte
      · cases h
    · cases h
  | anewarray i =>
    simp only [jln] at hn
    obtain rfl : n = 3 := by omega
    simp only [jexe] at h
    split at h
    · rename_i x st0 k r hq hr
      split at h
      · rename_i q
        obtain ⟨htk, hx0, hxl⟩ := q
        obtain ⟨-, c1, c2, c3⟩ := jcls hq
        cases h
        have e0 : σ.1 + 1 - σ.1 = 1 := by omega
        have e1 : jsz (σ.1 + 1) - jsz σ.1 = jLen r.1 r.2 := by
          rw [jsz_succ hr, jsize, if_neg (by omega)]
          omega
        rw [e0] at K hcR
        rw [e1] at K hsR
        have hlen : jLen r.1 r.2 ≤ 100000 := by
          have h0 : (jRefs.all fun r => Nat.ble (jLen r.1 r.2) 100000) = true := by decide +kernel
          exact Nat.le_of_ble_eq_true (List.all_eq_true.mp h0 r (List.mem_of_getElem? hr))
        have hgr : g r = base + σ.1 := hG.1 σ.1 r hr
        have fin : ∀ (t0 : Nat), (jtys cA)[t0]? = some (cA r.1, .object (jC k)) → va_AO (jC k) s → W p l e R s m args below meth c H locs cells slots Q (F0 m pc ls (.int x :: st0.map (jcv g))) := by
          intro t0 ht0 hao
          refine va_newq hx hb hown (hts _ c1) hao hK hP hD hS hA (Int32.not_lt.mpr hx0) hxl (by omega) hcR hsR hd (fun q cA' H1 hK1 hP1 hD1 hS1 => ?_)
          have hcA : cA' = cA r.1 := by
            have h1 := (hK1.2 5 (cA', .object (jC k)) rfl).2
            have h2 := (hK.2 t0 _ ht0).2
            exact jfit_nm h1 h2
          subst hcA
          refine jW_le (fun hsz => ?_)
          obtain rfl := jnew_q h512 hP1 hD1 hsz hc
          have kk := K H1 locs (jnow_new (P' := (List.range (jLen r.1 r.2)).map (fun j => (r, j)) ++ σ.2.1) (st' := jRf r :: st0) hG hbs hr N hS1 ?_ ?_ ?_ ?_)
          · have e4 : ((jRf r :: st0).map (jcv g)) = Value.ref (base + σ.1) :: st0.map (jcv g) := by
              rw [← hgr]
              rfl
            rw [e4] at kk
            exact kk
          · rw [jEn_refs (by omega)]
            refine va_P.app (fun k' x' hx' => hP1 k' x' (by rw [List.getElem?_append_left (List.getElem?_eq_some_iff.mp hx').1]; exact hx')) (fun k' x' hx' => ?_)
            · have hz : k' < 1 := (List.getElem?_eq_some_iff.mp hx').1
              rw [show k' = 0 by omega] at hx'
              cases hx'
              have h1 := hP1 σ.1 (base + σ.1, .inl (cA r.1, jLen r.1 r.2, .inr (.inr (.inr (.inr (fun _ => none)))))) (by
                rw [List.getElem?_append_right (by rw [jWs_len]; exact Nat.le_refl _), jWs_len]
                simp)
              show H1[base + σ.1]? = some (vp_cell _ _)
              refine Eq.trans h1 ?_
              show some (vp_cell _ _) = some (vp_cell _ _)
              rw [vp_cell_q, vp_cell_q]
              congr 1
              refine arrV_congr (fun j hj => ?_)
              have e5 : ((List.range (jLen r.1 r.2)).map (fun j => (r, j)) ++ σ.2.1).contains (r, j) = true := List.contains_iff_mem.mpr (List.mem_append_left _ (List.mem_map.mpr ⟨j, List.mem_range.mpr hj, rfl⟩))
              simp only [e5, if_true]
          · intro r' u hr'
            rw [Bool.eq_iff_iff, List.contains_iff_mem, List.contains_iff_mem, List.mem_append]
            constructor
            · rintro (z | z)
              · obtain ⟨w, -, hw⟩ := List.mem_map.mp z
                exact absurd (Prod.mk.inj hw).1.symm hr'
              · exact z
            · exact Or.inr
          · intro u hu
            rcases hu with ⟨hu, -⟩ | ⟨-, hu⟩
            · omega
            · exact List.mem_append_left _ (List.mem_map.mpr ⟨u, List.mem_range.mpr hu, rfl⟩)
          · exact jvs_cons (Or.inl ⟨σ.1, Nat.lt_succ_self _, hr⟩) (fun v hv => jokv_mono (hvs v (List.mem_cons_of_mem _ hv)) (Nat.le_succ _))
        rcases htk with ⟨h1, h2⟩ | ⟨h1, h2⟩
        · subst h1
          exact fin 3 (by rw [h2]; rfl) hC.2.1
        · subst h1
          exact fin 4 (by rw [h2]; rfl) hC.2.2
      · cases h
    · cases h
  | _ => exact absurd hI (by simp [jNew])
end JNEW
