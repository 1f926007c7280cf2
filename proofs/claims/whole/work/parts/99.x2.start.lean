/-! the law from its entry to its end -/
theorem jret_end {p : Program} {l : Launch} {e : Env} {s : State} {m : MethodId} {below : List Frame} {meth : Method} {c : Code} {b : Nat} (hx : p.tables.exec = Jvm.exec) (hb : c.code = code) (hr : meth.sig.returnType = ret) (hlocks : meth.locks = false) {pc cells slots : Nat} {H : Heap} {ls : Array Slot} {locs : List Loc} (h1 : cells ≤ 685172) (h2 : slots ≤ 7046733) (hf : ∀ q ∈ locs, s.heap.size ≤ q.base) (hdg : decode code pc = .ok (.ireturn, 1)) : W p l e room_1 s m #[Value.ref b] below meth c H locs cells slots (lw_Z below #[Value.ref b] s) (F0 m pc ls [.int 1]) := by
  intro T hT X
  exact lw_ret hx hb hr hlocks hdg T hT { X with same := X.same.weaken (l' := []) (fun x a c => absurd (hf x a) (Nat.not_le.mpr c)) h1 h2 }
theorem jsz_512 : jsz 512 ≤ 7046733 := by decide +kernel
theorem jlaw_ent {L : Nat} : jent 198 [.inr (.inr (some (17, (0, 0))))] = [some (.inr (.inr (some (17, (0, 0))))), none, none, none] := by
  unfold jent
  rw [show jMaxT.getD 198 0 = 4 by decide +kernel]
  rfl
set_option maxHeartbeats 4000000 in
set_option maxRecDepth 20000 in
theorem whole_start {p : Program} {e : Env} {s : State} {m : MethodId} {below : List Frame} {meth : Method} {c : Code} (l : Launch) (hflags : l.flags = flags0) {b L : Nat} {xs : Nat → Int32} (hL : L ≤ 256) (C0 : lw_At p s m meth c b L xs) : W p l e room_1 s m #[Value.ref b] below meth c s.heap [] 0 0 (lw_Z below #[Value.ref b] s) (entryFrame m ([Value.ref b] : List Value).toArray 4) := by
  obtain ⟨hx, hb, hr, hml, hown, hts, hX, hbl, hlocks, hgv⟩ := id C0
  obtain ⟨g, dC, dI, cA, hG, hR⟩ := jRel_0 hts hgv hX hL hbl
  obtain ⟨f, M2, hrun⟩ := law_jrun (L := L) xs hL
  have hJ : jSnd g b s.heap.size dC dI cA l f := jsnd jStr_ok hG f
  have hby : code = jBytesT.getD 198 .empty := rfl
  have C1 : jStat p room_1 s m #[Value.ref b] meth c s.heap.size 198 := ⟨hx, hb.trans hby, hml, hown, fun w hw => hts w (List.mem_filter.mp hw).1, hlocks, fun h => absurd h (by decide +kernel), Nat.le_refl _, Nat.le_of_ble_eq_true rfl, Nat.le_of_ble_eq_true rfl⟩
  have hgb : g (17, (0, 0)) = b := hG.2.1
  have hl := lv_entry ([Value.ref b]) (n := 4) (Nat.le_of_ble_eq_true rfl)
  rw [lg_entry_eq]
  generalize (lg_sl ([Value.ref b]) ++ List.replicate (4 - (lg_sl ([Value.ref b])).length) Slot.unset).toArray = ls at hl ⊢
  have hmap : ([.inr (.inr (some (17, (0, 0))))] : List jV).map (jcv g) = [Value.ref b] := by rw [← hgb]; rfl
  have hjl : jlr g 198 ls [some (.inr (.inr (some (17, (0, 0))))), none, none, none] := by
    rw [← jlaw_ent (L := L)]
    refine jent_lr (by rw [show jMaxT.getD 198 0 = 4 by decide +kernel]; decide) rfl ?_
    rw [hmap, show jMaxT.getD 198 0 = 4 by decide +kernel]
    exact hl
  have hja : jva 0 [some (.inr (.inr (some (17, (0, 0))))), none, none, none] := by
    rw [← jlaw_ent (L := L)]
    exact jent_va (fun w hw => by
      rw [List.mem_singleton.mp hw]
      exact Or.inr (Or.inl rfl))
  have N : jNow g b s.heap.size dC dI cA s 198 [some (.inr (.inr (some (17, (0, 0))))), none, none, none] [] (0, ([], mrg Q17 (jX L xs) (wM []))) ls s.heap [] := ⟨hR, hjl, hja, fun _ h => absurd h List.not_mem_nil, va_S.rf⟩
  refine hJ 21 198 0 _ [] _ _ _ hrun C1 (Nat.le_of_ble_eq_true rfl) (Nat.le_of_ble_eq_true rfl) N rfl (Nat.le_of_ble_eq_true rfl) (by
    have := jsz_512
    show 0 + (jsz 512 - jsz 0) ≤ 7046733
    omega) ?_
  intro H1 ls1 locs1 pc1 n1 al1 st1 I1 hF1 hx1 N1
  have hd := jF_dec hF1
  have hn := jF_ln hF1
  have hf : ∀ q ∈ locs1, s.heap.size ≤ q.base := N1.2.2.2.2.2.2
  cases I1 with
  | ireturn =>
    simp only [jln] at hn
    obtain rfl : n1 = 1 := by omega
    simp only [jexe] at hx1
    split at hx1
    · rename_i x
      split at hx1
      · cases hx1
        exact jret_end hx hb hr hlocks (Nat.le_of_ble_eq_true rfl) (by
          have := jsz_512
          show 0 + (jsz 512 - jsz 0) ≤ 7046733
          omega) hf (by rw [hby]; exact hd)
      · cases hx1
    · cases hx1
  | areturn =>
    simp only [jexe] at hx1
    split at hx1
    · split at hx1
      · cases hx1
      · cases hx1
    · cases hx1
  | return_ =>
    simp only [jexe] at hx1
    split at hx1
    · split at hx1
      · cases hx1
      · cases hx1
    · cases hx1
  | _ => exact absurd hx1 (jexe_noret (fun h => by cases h) (fun h => by cases h) (fun h => by cases h))
