/-! the string's length and signs: the JDK's own methods -/
def jXv (g : jR → Nat) (base v : Nat) (U : State) (H : Heap) : Prop := vk_S 1 [jstr.length] [jstr] (fun _ => g (18, (0, 0))) (fun _ => v) (fun q => base ≤ q) U H ∧ va_Z "java/lang/String" "COMPACT_STRINGS" "Z" (.int 1) (fun q => base ≤ q) U H ∧ va_Zq "jdk/internal/util/Preconditions" "SIOOBE_FORMATTER" "Ljava/util/function/BiFunction;" (fun q => base ≤ q) U H
def jSb (g : jR → Nat) (base v : Nat) (as : List Value) : Array Value → State → Prop := fun a U => a = as.toArray ∧ jXv g base v U U.heap
def jSq (x : Option Value) : Array Value → State → Outcome → State → Prop := fun _ st o t => o = .returned x ∧ t.heap = st.heap
abbrev jw (y : MethodName) (cc : ByteArray) (n : Nat) (r : Option FieldType) : List Cond := Cond.code y cc n r :: jTs
theorem jTs_of {w : Cond} (h : w ∈ lw_tbl) (h2 : goodWord w = true) : w ∈ jTs := List.mem_filter.mpr ⟨h, h2⟩
abbrev jrn (n : Nat) : Room := { frames := n, cells := 0, slots := 0, locals := 100 * n }
section JSTR
variable {p : Program} {l : Launch} {e : Env} {R : Room} {s : State} {m : MethodId} {args : Array Value} {below : List Frame} {meth : Method} {c : Code} {Q : State → Prop}
variable {g : jR → Nat} {base v : Nat}
theorem jXv_alike {U U' : State} {H : Heap} (ha : U.vm.Alike U'.vm) (h : jXv g base v U H) : jXv g base v U' H := ⟨vk_S.moved ha h.1, va_Z.moved ha h.2.1, va_Zq.moved ha h.2.2⟩
theorem jSb_blind {as : List Value} : FrameBlind (jSb g base v as) := by
  intro a U f mk h
  obtain ⟨h1, h2⟩ := h
  exact ⟨h1, h2⟩
theorem js_call {H : Heap} {locs : List Loc} {cells slots pc : Nat} {ls : Array Slot} {stk rest : List Value} {x : Option Value} {a0 : Array Value} (run : va_Run p l e R s m args below meth c H locs cells slots 0 0 (F0 m pc ls stk) rest (jSq x a0) (fun _ => False)) (K : W p l e R s m args below meth c H locs cells slots Q (F0 m (pc + 3) ls (x.toList ++ rest))) : W p l e R s m args below meth c H locs cells slots Q (F0 m pc ls stk) := by
  refine jrun_W run (fun v st₀ t L h0 hQ _ hL => ?_)
  obtain ⟨q1, q2⟩ := hQ
  cases Outcome.returned.inj q1
  have e : L = [] := by
    cases L with
    | nil => rfl
    | cons a L => exact (hL a List.mem_cons_self).elim
  subst e
  rw [q2, h0, List.append_nil]
  exact K
theorem mt_coder : Met l yJ0_coder_7d493 (jw yJ0_coder_7d493 cJ0_coder_7d493 1 (some .byte)) (jrn 0) (jSb g base v [.ref (g (18, (0, 0)))]) (jSq (some (.int 0))) 0 0 (fun _ => False) := by
  refine Met.ofW (cc := cJ0_coder_7d493) (maxL := 1) (ret := some .byte) (by decide +kernel) rfl ?_
  intro p e s m args below meth c s₁ B hml hP
  obtain ⟨rfl, hS, hZ, _⟩ := hP
  have hts := atoms_spec (ws := (jw yJ0_coder_7d493 cJ0_coder_7d493 1 (some .byte))) B.pre
  have ht : ∀ w : Cond, w ∈ lw_tbl → goodWord w = true → w.before _ s = true := fun w h1 h2 => hts w (List.mem_cons_of_mem _ (jTs_of h1 h2))
  have hown : s.vm.findClass RJ0 = some m.cls := findClass_of_methodNamed B.named
  have hx := B.exec
  have hb := B.bytes
  have hr := B.returns
  have hE := (hS.1 0 (by omega)).2.1
  have hl := lv_entry [Value.ref (g (18, (0, 0)))] (n := 1) (Nat.le_refl 1)
  rw [lg_entry_eq]
  generalize (lg_sl [Value.ref (g (18, (0, 0)))] ++ List.replicate (1 - (lg_sl [Value.ref (g (18, (0, 0)))]).length) Slot.unset).toArray = ls at hl ⊢
  refine va_gets hx hb hZ va_S.rf hown (ht (.fieldLink RJ0 38 "java/lang/String" "COMPACT_STRINGS" "Z") (by decide +kernel) (by decide +kernel)) (fun _ h => h) (by decide +kernel : decode cJ0_coder_7d493 0 = .ok (.getstatic 38, 3)) ?_
  refine lv_if_eq hx hb (tgt := 13) (by decide +kernel : decode cJ0_coder_7d493 3 = .ok (.ifCond .eq 10, 3)) (by decide) (fun z => absurd z (by decide)) (fun _ => ?_)
  refine lv_aload_n hx hb (by decide +kernel : decode cJ0_coder_7d493 6 = .ok (.aload_n 0, 1)) rfl (lv_at hl 0 rfl) ?_
  refine vk_getf hx hb hE va_S.rf hown (ht (.fieldLink RJ0 15 "java/lang/String" "coder" "B") (by decide +kernel) (by decide +kernel)) (fun _ h => h) (by decide +kernel : decode cJ0_coder_7d493 7 = .ok (.getfield 15, 3)) ?_
  refine lv_goto hx hb (tgt := 14) (by decide +kernel : decode cJ0_coder_7d493 10 = .ok (.goto 4, 3)) (by decide) ?_
  exact W.zret hx hb hr rfl (fun t ht _ => ⟨rfl, ht⟩) (fun q hq => by cases hq) (by decide +kernel : decode cJ0_coder_7d493 14 = .ok (.ireturn, 1)) B.notSynchronized
theorem mt_isLatin1 : Met l yJ0_isLatin1_aae02 (jw yJ0_isLatin1_aae02 cJ0_isLatin1_aae02 1 (some .boolean)) (jrn 0) (jSb g base v [.ref (g (18, (0, 0)))]) (jSq (some (.int 1))) 0 0 (fun _ => False) := by
  refine Met.ofW (cc := cJ0_isLatin1_aae02) (maxL := 1) (ret := some .boolean) (by decide +kernel) rfl ?_
  intro p e s m args below meth c s₁ B hml hP
  obtain ⟨rfl, hS, hZ, _⟩ := hP
  have hts := atoms_spec (ws := (jw yJ0_isLatin1_aae02 cJ0_isLatin1_aae02 1 (some .boolean))) B.pre
  have ht : ∀ w : Cond, w ∈ lw_tbl → goodWord w = true → w.before _ s = true := fun w h1 h2 => hts w (List.mem_cons_of_mem _ (jTs_of h1 h2))
  have hown : s.vm.findClass RJ0 = some m.cls := findClass_of_methodNamed B.named
  have hx := B.exec
  have hb := B.bytes
  have hr := B.returns
  have hE := (hS.1 0 (by omega)).2.1
  have hl := lv_entry [Value.ref (g (18, (0, 0)))] (n := 1) (Nat.le_refl 1)
  rw [lg_entry_eq]
  generalize (lg_sl [Value.ref (g (18, (0, 0)))] ++ List.replicate (1 - (lg_sl [Value.ref (g (18, (0, 0)))]).length) Slot.unset).toArray = ls at hl ⊢
  refine va_gets hx hb hZ va_S.rf hown (ht (.fieldLink RJ0 38 "java/lang/String" "COMPACT_STRINGS" "Z") (by decide +kernel) (by decide +kernel)) (fun _ h => h) (by decide +kernel : decode cJ0_isLatin1_aae02 0 = .ok (.getstatic 38, 3)) ?_
  refine lv_if_eq hx hb (tgt := 17) (by decide +kernel : decode cJ0_isLatin1_aae02 3 = .ok (.ifCond .eq 14, 3)) (by decide) (fun z => absurd z (by decide)) (fun _ => ?_)
  refine lv_aload_n hx hb (by decide +kernel : decode cJ0_isLatin1_aae02 6 = .ok (.aload_n 0, 1)) rfl (lv_at hl 0 rfl) ?_
  refine vk_getf hx hb hE va_S.rf hown (ht (.fieldLink RJ0 15 "java/lang/String" "coder" "B") (by decide +kernel) (by decide +kernel)) (fun _ h => h) (by decide +kernel : decode cJ0_isLatin1_aae02 7 = .ok (.getfield 15, 3)) ?_
  refine lv_if_ne hx hb (tgt := 17) (by decide +kernel : decode cJ0_isLatin1_aae02 10 = .ok (.ifCond .ne 7, 3)) (by decide) (fun z => absurd rfl z) (fun _ => ?_)
  refine lv_iconst hx hb (by decide +kernel : decode cJ0_isLatin1_aae02 13 = .ok (.iconst 1, 1)) rfl ?_
  refine lv_goto hx hb (tgt := 18) (by decide +kernel : decode cJ0_isLatin1_aae02 14 = .ok (.goto 4, 3)) (by decide) ?_
  exact W.zret hx hb hr (jnb (Or.inr rfl)).1 (fun t ht _ => ⟨rfl, ht⟩) (fun q hq => by cases hq) (by decide +kernel : decode cJ0_isLatin1_aae02 18 = .ok (.ireturn, 1)) B.notSynchronized
theorem mt_pre {x y : Int32} {q : Value} (h0 : ¬ x < 0) (h1 : x < y) (hq : q.category = 1) : Met l yJ3_checkIndex_8e157 (jw yJ3_checkIndex_8e157 cJ3_checkIndex_8e157 3 (some .int)) (jrn 0) (jSb g base v [.int x, .int y, q]) (jSq (some (.int x))) 0 0 (fun _ => False) := by
  refine Met.ofW (cc := cJ3_checkIndex_8e157) (maxL := 3) (ret := some .int) (by decide +kernel) rfl ?_
  intro p e s m args below meth c s₁ B hml hP
  obtain ⟨rfl, hS, hZ, _⟩ := hP
  have hx := B.exec
  have hb := B.bytes
  have hr := B.returns
  have hcat : ∀ w ∈ [Value.int x, Value.int y, q], w.category = 1 := by
    intro w hw
    rcases List.mem_cons.mp hw with rfl | hw
    · rfl
    · rcases List.mem_cons.mp hw with rfl | hw
      · rfl
      · rw [List.mem_singleton.mp hw]; exact hq
  have hl := lv_entry [Value.int x, Value.int y, q] (n := 3) (by rw [jsl_len _ hcat]; exact Nat.le_refl 3)
  rw [lg_entry_eq]
  generalize (lg_sl [Value.int x, Value.int y, q] ++ List.replicate (3 - (lg_sl [Value.int x, Value.int y, q]).length) Slot.unset).toArray = ls at hl ⊢
  have a0 : ls[0]? = some (.val (.int x)) := lv_at hl 0 rfl
  have a1 : ls[1]? = some (.val (.int y)) := lv_at hl 1 rfl
  refine lv_iload_n hx hb (by decide +kernel : decode cJ3_checkIndex_8e157 0 = .ok (.iload_n 0, 1)) rfl a0 ?_
  refine lv_if_lt hx hb (tgt := 9) (by decide +kernel : decode cJ3_checkIndex_8e157 1 = .ok (.ifCond .lt 8, 3)) (by decide) (fun z => absurd z h0) (fun _ => ?_)
  refine lv_iload_n hx hb (by decide +kernel : decode cJ3_checkIndex_8e157 4 = .ok (.iload_n 0, 1)) rfl a0 ?_
  refine lv_iload_n hx hb (by decide +kernel : decode cJ3_checkIndex_8e157 5 = .ok (.iload_n 1, 1)) rfl a1 ?_
  refine lv_icmp_lt hx hb (tgt := 16) (by decide +kernel : decode cJ3_checkIndex_8e157 6 = .ok (.if_icmp .lt 10, 3)) (by decide) (fun _ => ?_) (fun z => absurd h1 z)
  refine lv_iload_n hx hb (by decide +kernel : decode cJ3_checkIndex_8e157 16 = .ok (.iload_n 0, 1)) rfl a0 ?_
  exact W.zret hx hb hr rfl (fun t ht _ => ⟨rfl, ht⟩) (fun q hq => by cases hq) (by decide +kernel : decode cJ3_checkIndex_8e157 17 = .ok (.ireturn, 1)) B.notSynchronized
theorem js_cb {own : String} {index nL n k : Nat} {y : MethodName} {cc : ByteArray} {ret : Option FieldType} (hts : ∀ w ∈ jTs, w.before args s = true) (hfr : k + 1 ≤ R.frames) (hlo : 8 + (nL + 11) + 100 * k ≤ R.locals) (hc : Cond.code y cc nL ret ∈ jTs) (hi : Cond.initialized y.cls ∈ jTs) (hcl : y.cls ≠ "java/lang/invoke/MethodHandle" ∧ y.cls ≠ "java/lang/invoke/VarHandle") (hp : (parseMethodDescriptor y.desc).map (fun x => x.parameters.length) = some n) (hl : Cond.methodLink own index y ∈ jTs) : CallB R s args own index y cc nL ret (jw y cc nL ret) (jrn k) 0 0 n := by
  refine ⟨rfl, rfl, hfr, hlo, ?_, List.mem_cons_self, hts _ hc, hts _ hi, hcl, ?_, hts _ hl⟩
  · intro w hw a' U hW
    rcases List.mem_cons.mp hw with rfl | hw
    · exact word_at hW (good_of_word (jTs_good _ hc)) (hts _ hc)
    · exact word_at hW (good_of_word (jTs_good _ hw)) (hts _ hw)
  · intro sig hsig
    rw [hsig] at hp
    exact (Option.some.inj hp).symm
theorem jSb_at {as : List Value} {H : Heap} (hX : jXv g base v s H) : ∀ U : State, U.heap = H → s.WarmedH U.vm → jSb g base v as as.toArray U := by
  intro U hU hW
  refine ⟨rfl, ?_⟩
  rw [hU]
  exact jXv_alike hW.alike hX
theorem mt_index {x y : Int32} (h0 : ¬ x < 0) (h1 : x < y) : Met l yJ0_checkIndex_df160 (jw yJ0_checkIndex_df160 cJ0_checkIndex_df160 2 none) (jrn 1) (jSb g base v [.int x, .int y]) (jSq none) 0 0 (fun _ => False) := by
  refine Met.ofW (cc := cJ0_checkIndex_df160) (maxL := 2) (ret := none) (by decide +kernel) rfl ?_
  intro p e s m args below meth c s₁ B hml hP
  obtain ⟨rfl, hX⟩ := hP
  have hts0 := atoms_spec (ws := (jw yJ0_checkIndex_df160 cJ0_checkIndex_df160 2 none)) B.pre
  have hts : ∀ w ∈ jTs, w.before _ s = true := fun w h => hts0 w (List.mem_cons_of_mem _ h)
  have ht : ∀ w : Cond, w ∈ lw_tbl → goodWord w = true → w.before _ s = true := fun w h1 h2 => hts w (jTs_of h1 h2)
  have hown : s.vm.findClass RJ0 = some m.cls := findClass_of_methodNamed B.named
  have hx := B.exec
  have hb := B.bytes
  have hr := B.returns
  have hl := lv_entry [Value.int x, Value.int y] (n := 2) (Nat.le_refl 2)
  rw [lg_entry_eq]
  generalize (lg_sl [Value.int x, Value.int y] ++ List.replicate (2 - (lg_sl [Value.int x, Value.int y]).length) Slot.unset).toArray = ls at hl ⊢
  have a0 : ls[0]? = some (.val (.int x)) := lv_at hl 0 rfl
  have a1 : ls[1]? = some (.val (.int y)) := lv_at hl 1 rfl
  have CF : CallFix p m c cJ0_checkIndex_df160 2 s _ jTs RJ0 := ⟨hx, hb, hml, hown, hts⟩
  have fin : ∀ q : Value, q.category = 1 → va_Z "jdk/internal/util/Preconditions" "SIOOBE_FORMATTER" "Ljava/util/function/BiFunction;" q (fun q => base ≤ q) s s.heap → W p l e (headSpec (jw yJ0_checkIndex_df160 cJ0_checkIndex_df160 2 none) (jrn 1)).room s m [Value.int x, Value.int y].toArray below meth c s.heap [] 0 0 (MQ below (jSq none) [Value.int x, Value.int y].toArray s 0 0 (fun _ => False)) (F0 m 0 ls []) := by
    intro q hq hZ
    refine lv_iload_n hx hb (by decide +kernel : decode cJ0_checkIndex_df160 0 = .ok (.iload_n 0, 1)) rfl a0 ?_
    refine lv_iload_n hx hb (by decide +kernel : decode cJ0_checkIndex_df160 1 = .ok (.iload_n 1, 1)) rfl a1 ?_
    refine va_gets hx hb hZ va_S.rf hown (ht (.fieldLink RJ0 1053 "jdk/internal/util/Preconditions" "SIOOBE_FORMATTER" "Ljava/util/function/BiFunction;") (by decide +kernel) (by decide +kernel)) (fun _ h => h) (by decide +kernel : decode cJ0_checkIndex_df160 2 = .ok (.getstatic 1053, 3)) ?_
    refine js_call (x := some (.int x)) (rest := []) (va_runS CF (mt_pre (v := v) h0 h1 hq) ⟨js_cb (n := 3) hts (by show 0 + 1 ≤ 1; omega) (by show 8 + (3 + 11) + 100 * 0 ≤ 100 * 1; omega) (jTs_of (by decide +kernel) (by decide +kernel)) (jTs_of (by decide +kernel) (by decide +kernel)) (by decide +kernel) (by decide +kernel) (jTs_of (by decide +kernel) (by decide +kernel)), ht _ (by decide +kernel) (by decide +kernel)⟩ ⟨jSb_blind, jSb_at hX⟩ rfl rfl hl.1 rfl (by show 2 * 0 + 0 ≤ 8; omega) (by decide +kernel : decode cJ0_checkIndex_df160 5 = .ok (.invokestatic 1059, 3)) ⟨by show 0 + 0 ≤ _; omega, by show 0 + 0 ≤ _; omega⟩) ?_
    refine lv_pop hx hb (by decide +kernel : decode cJ0_checkIndex_df160 8 = .ok (.pop, 1)) rfl ?_
    exact W.vret hx hb hr (fun t ht _ => ⟨rfl, ht⟩) (fun q hq => by cases hq) (by decide +kernel : decode cJ0_checkIndex_df160 9 = .ok (.return_, 1)) B.notSynchronized
  rcases hX.2.2 with hZ | ⟨t, hZ⟩
  · exact fin _ rfl hZ
  · exact fin _ rfl hZ
theorem jS_let : ∀ i, i < 93 → ((jstr.getD i 0 &&& 255).toUInt32 % 65536).toInt32 = jstr.getD i 0 ∧ narrow .char (.int (jstr.getD i 0)) = .int (jstr.getD i 0) := by decide +kernel
theorem mt_latin {x : Int32} (h0 : 0 ≤ x) (h1 : x.toNatClampNeg < jstr.length) : Met l yJ1_charAt_3b067 (jw yJ1_charAt_3b067 cJ1_charAt_3b067 2 (some .char)) (jrn 2) (jSb g base v [.ref v, .int x]) (jSq (some (.int (jstr.getD x.toNatClampNeg 0)))) 0 0 (fun _ => False) := by
  refine Met.ofW (cc := cJ1_charAt_3b067) (maxL := 2) (ret := some .char) (by decide +kernel) rfl ?_
  intro p e s m args below meth c s₁ B hml hP
  obtain ⟨rfl, hX⟩ := hP
  have hts0 := atoms_spec (ws := (jw yJ1_charAt_3b067 cJ1_charAt_3b067 2 (some .char))) B.pre
  have hts : ∀ w ∈ jTs, w.before _ s = true := fun w h => hts0 w (List.mem_cons_of_mem _ h)
  have ht : ∀ w : Cond, w ∈ lw_tbl → goodWord w = true → w.before _ s = true := fun w h1 h2 => hts w (jTs_of h1 h2)
  have hown : s.vm.findClass RJ1 = some m.cls := findClass_of_methodNamed B.named
  have hx := B.exec
  have hb := B.bytes
  have hr := B.returns
  have hl := lv_entry [Value.ref v, Value.int x] (n := 2) (Nat.le_refl 2)
  rw [lg_entry_eq]
  generalize (lg_sl [Value.ref v, Value.int x] ++ List.replicate (2 - (lg_sl [Value.ref v, Value.int x]).length) Slot.unset).toArray = ls at hl ⊢
  have a0 : ls[0]? = some (.val (.ref v)) := lv_at hl 0 rfl
  have a1 : ls[1]? = some (.val (.int x)) := lv_at hl 1 rfl
  have CF : CallFix p m c cJ1_charAt_3b067 2 s _ jTs RJ1 := ⟨hx, hb, hml, hown, hts⟩
  have hT := (hX.1.1 0 (by omega)).2.2.2
  have g0 : ¬ x < 0 := Int32.not_lt.mpr h0
  have h93 : x.toNatClampNeg < 93 := by rw [← jstr_93]; exact h1
  have g1 : x < Int32.ofNat jstr.length := by
    rw [jstr_93, ← jx_of h0]
    exact (jn_lt (jx_lt _) (by omega)).mpr h93
  obtain ⟨k1, k2⟩ := jS_let _ h93
  refine lv_iload_n hx hb (by decide +kernel : decode cJ1_charAt_3b067 0 = .ok (.iload_n 1, 1)) rfl a1 ?_
  refine lv_aload_n hx hb (by decide +kernel : decode cJ1_charAt_3b067 1 = .ok (.aload_n 0, 1)) rfl a0 ?_
  refine va_tlen hx hb hT va_S.rf (v := Int32.ofNat jstr.length) rfl (by decide +kernel : decode cJ1_charAt_3b067 2 = .ok (.arraylength, 1)) ?_
  refine js_call (x := none) (rest := []) (va_runS CF (mt_index (v := v) g0 g1) ⟨js_cb (n := 2) hts (by show 1 + 1 ≤ 2; omega) (by show 8 + (2 + 11) + 100 * 1 ≤ 100 * 2; omega) (jTs_of (by decide +kernel) (by decide +kernel)) (jTs_of (by decide +kernel) (by decide +kernel)) (by decide +kernel) (by decide +kernel) (jTs_of (by decide +kernel) (by decide +kernel)), ht _ (by decide +kernel) (by decide +kernel)⟩ ⟨jSb_blind, jSb_at hX⟩ rfl rfl hl.1 rfl (by show 2 * 0 + 0 ≤ 8; omega) (by decide +kernel : decode cJ1_charAt_3b067 3 = .ok (.invokestatic 9, 3)) ⟨by show 0 + 0 ≤ _; omega, by show 0 + 0 ≤ _; omega⟩) ?_
  refine lv_aload_n hx hb (by decide +kernel : decode cJ1_charAt_3b067 6 = .ok (.aload_n 0, 1)) rfl a0 ?_
  refine lv_iload_n hx hb (by decide +kernel : decode cJ1_charAt_3b067 7 = .ok (.iload_n 1, 1)) rfl a1 ?_
  refine va_tb hx hb hT va_S.rf (jin_of h0 h1) (v := .int (jstr.getD x.toNatClampNeg 0)) rfl (by decide +kernel : decode cJ1_charAt_3b067 8 = .ok (.baload, 1)) ?_
  refine lv_sipush hx hb (by decide +kernel : decode cJ1_charAt_3b067 9 = .ok (.sipush 255, 3)) (v := 255) (by decide) ?_
  refine lv_iand hx hb (by decide +kernel : decode cJ1_charAt_3b067 12 = .ok (.iand, 1)) ?_
  refine lv_i2c hx hb (by decide +kernel : decode cJ1_charAt_3b067 13 = .ok (.i2c, 1)) k1 ?_
  exact W.zret hx hb hr k2 (fun t ht _ => ⟨rfl, ht⟩) (fun q hq => by cases hq) (by decide +kernel : decode cJ1_charAt_3b067 14 = .ok (.ireturn, 1)) B.notSynchronized
theorem mt_length : Met l yJ0_length_8abf5 (jw yJ0_length_8abf5 cJ0_length_8abf5 1 (some .int)) (jrn 1) (jSb g base v [.ref (g (18, (0, 0)))]) (jSq (some (.int (Int32.ofNat jstr.length)))) 0 0 (fun _ => False) := by
  refine Met.ofW (cc := cJ0_length_8abf5) (maxL := 1) (ret := some .int) (by decide +kernel) rfl ?_
  intro p e s m args below meth c s₁ B hml hP
  obtain ⟨rfl, hX⟩ := hP
  have hts0 := atoms_spec (ws := (jw yJ0_length_8abf5 cJ0_length_8abf5 1 (some .int))) B.pre
  have hts : ∀ w ∈ jTs, w.before _ s = true := fun w h => hts0 w (List.mem_cons_of_mem _ h)
  have ht : ∀ w : Cond, w ∈ lw_tbl → goodWord w = true → w.before _ s = true := fun w h1 h2 => hts w (jTs_of h1 h2)
  have hown : s.vm.findClass RJ0 = some m.cls := findClass_of_methodNamed B.named
  have hx := B.exec
  have hb := B.bytes
  have hr := B.returns
  have hl := lv_entry [Value.ref (g (18, (0, 0)))] (n := 1) (Nat.le_refl 1)
  rw [lg_entry_eq]
  generalize (lg_sl [Value.ref (g (18, (0, 0)))] ++ List.replicate (1 - (lg_sl [Value.ref (g (18, (0, 0)))]).length) Slot.unset).toArray = ls at hl ⊢
  have a0 : ls[0]? = some (.val (.ref (g (18, (0, 0))))) := lv_at hl 0 rfl
  have CF : CallFix p m c cJ0_length_8abf5 1 s _ jTs RJ0 := ⟨hx, hb, hml, hown, hts⟩
  have hE := (hX.1.1 0 (by omega)).2.2.1
  have hT := (hX.1.1 0 (by omega)).2.2.2
  refine lv_aload_n hx hb (by decide +kernel : decode cJ0_length_8abf5 0 = .ok (.aload_n 0, 1)) rfl a0 ?_
  refine vk_getf hx hb hE va_S.rf hown (ht (.fieldLink RJ0 9 "java/lang/String" "value" "[B") (by decide +kernel) (by decide +kernel)) (fun _ h => h) (by decide +kernel : decode cJ0_length_8abf5 1 = .ok (.getfield 9, 3)) ?_
  refine va_tlen hx hb hT va_S.rf (v := Int32.ofNat jstr.length) rfl (by decide +kernel : decode cJ0_length_8abf5 4 = .ok (.arraylength, 1)) ?_
  refine lv_aload_n hx hb (by decide +kernel : decode cJ0_length_8abf5 5 = .ok (.aload_n 0, 1)) rfl a0 ?_
  refine js_call (x := some (.int 0)) (rest := [.int (Int32.ofNat jstr.length)]) (va_runV CF (C := RJ0) (mt_coder (v := v)) ⟨js_cb (n := 0) hts (by show 0 + 1 ≤ 1; omega) (by show 8 + (1 + 11) + 100 * 0 ≤ 100 * 1; omega) (jTs_of (by decide +kernel) (by decide +kernel)) (jTs_of (by decide +kernel) (by decide +kernel)) (by decide +kernel) (by decide +kernel) (jTs_of (by decide +kernel) (by decide +kernel)), ht _ (by decide +kernel) (by decide +kernel), ht _ (by decide +kernel) (by decide +kernel)⟩ (As := []) ⟨jSb_blind, vk_recv (i := 0) hX.1 (by omega) va_S.rf, jSb_at hX⟩ rfl rfl hl.1 rfl (by show 2 * 0 + 1 ≤ 8; omega) (by decide +kernel : decode cJ0_length_8abf5 6 = .ok (.invokevirtual 335, 3)) ⟨by show 0 + 0 ≤ _; omega, by show 0 + 0 ≤ _; omega⟩) ?_
  refine lv_ishr hx hb (by decide +kernel : decode cJ0_length_8abf5 9 = .ok (.ishr, 1)) ?_
  rw [show Int32.ofNat jstr.length >>> ((0 : Int32) &&& 31) = Int32.ofNat jstr.length by rw [jstr_93]; decide]
  exact W.zret hx hb hr rfl (fun t ht _ => ⟨rfl, ht⟩) (fun q hq => by cases hq) (by decide +kernel : decode cJ0_length_8abf5 10 = .ok (.ireturn, 1)) B.notSynchronized
theorem mt_charAt {x : Int32} (h0 : 0 ≤ x) (h1 : x.toNatClampNeg < jstr.length) : Met l yJ0_charAt_5068e (jw yJ0_charAt_5068e cJ0_charAt_5068e 2 (some .char)) (jrn 3) (jSb g base v [.ref (g (18, (0, 0))), .int x]) (jSq (some (.int (jstr.getD x.toNatClampNeg 0)))) 0 0 (fun _ => False) := by
  refine Met.ofW (cc := cJ0_charAt_5068e) (maxL := 2) (ret := some .char) (by decide +kernel) rfl ?_
  intro p e s m args below meth c s₁ B hml hP
  obtain ⟨rfl, hX⟩ := hP
  have hts0 := atoms_spec (ws := (jw yJ0_charAt_5068e cJ0_charAt_5068e 2 (some .char))) B.pre
  have hts : ∀ w ∈ jTs, w.before _ s = true := fun w h => hts0 w (List.mem_cons_of_mem _ h)
  have ht : ∀ w : Cond, w ∈ lw_tbl → goodWord w = true → w.before _ s = true := fun w h1 h2 => hts w (jTs_of h1 h2)
  have hown : s.vm.findClass RJ0 = some m.cls := findClass_of_methodNamed B.named
  have hx := B.exec
  have hb := B.bytes
  have hr := B.returns
  have hl := lv_entry [Value.ref (g (18, (0, 0))), Value.int x] (n := 2) (Nat.le_refl 2)
  rw [lg_entry_eq]
  generalize (lg_sl [Value.ref (g (18, (0, 0))), Value.int x] ++ List.replicate (2 - (lg_sl [Value.ref (g (18, (0, 0))), Value.int x]).length) Slot.unset).toArray = ls at hl ⊢
  have a0 : ls[0]? = some (.val (.ref (g (18, (0, 0))))) := lv_at hl 0 rfl
  have a1 : ls[1]? = some (.val (.int x)) := lv_at hl 1 rfl
  have CF : CallFix p m c cJ0_charAt_5068e 2 s _ jTs RJ0 := ⟨hx, hb, hml, hown, hts⟩
  have hE := (hX.1.1 0 (by omega)).2.2.1
  have h93 : x.toNatClampNeg < 93 := by rw [← jstr_93]; exact h1
  refine lv_aload_n hx hb (by decide +kernel : decode cJ0_charAt_5068e 0 = .ok (.aload_n 0, 1)) rfl a0 ?_
  refine js_call (x := some (.int 1)) (rest := []) (va_runV CF (C := RJ0) (mt_isLatin1 (v := v)) ⟨js_cb (n := 0) hts (by show 0 + 1 ≤ 3; omega) (by show 8 + (1 + 11) + 100 * 0 ≤ 100 * 3; omega) (jTs_of (by decide +kernel) (by decide +kernel)) (jTs_of (by decide +kernel) (by decide +kernel)) (by decide +kernel) (by decide +kernel) (jTs_of (by decide +kernel) (by decide +kernel)), ht _ (by decide +kernel) (by decide +kernel), ht _ (by decide +kernel) (by decide +kernel)⟩ (As := []) ⟨jSb_blind, vk_recv (i := 0) hX.1 (by omega) va_S.rf, jSb_at hX⟩ rfl rfl hl.1 rfl (by show 2 * 0 + 0 ≤ 8; omega) (by decide +kernel : decode cJ0_charAt_5068e 1 = .ok (.invokevirtual 492, 3)) ⟨by show 0 + 0 ≤ _; omega, by show 0 + 0 ≤ _; omega⟩) ?_
  refine lv_if_eq hx hb (tgt := 16) (by decide +kernel : decode cJ0_charAt_5068e 4 = .ok (.ifCond .eq 12, 3)) (by decide) (fun z => absurd z (by decide)) (fun _ => ?_)
  refine lv_aload_n hx hb (by decide +kernel : decode cJ0_charAt_5068e 7 = .ok (.aload_n 0, 1)) rfl a0 ?_
  refine vk_getf hx hb hE va_S.rf hown (ht (.fieldLink RJ0 9 "java/lang/String" "value" "[B") (by decide +kernel) (by decide +kernel)) (fun _ h => h) (by decide +kernel : decode cJ0_charAt_5068e 8 = .ok (.getfield 9, 3)) ?_
  refine lv_iload_n hx hb (by decide +kernel : decode cJ0_charAt_5068e 11 = .ok (.iload_n 1, 1)) rfl a1 ?_
  refine js_call (x := some (.int (jstr.getD x.toNatClampNeg 0))) (rest := []) (va_runS CF (mt_latin (g := g) (base := base) (v := v) h0 h1) ⟨js_cb (n := 2) hts (by show 2 + 1 ≤ 3; omega) (by show 8 + (2 + 11) + 100 * 2 ≤ 100 * 3; omega) (jTs_of (by decide +kernel) (by decide +kernel)) (jTs_of (by decide +kernel) (by decide +kernel)) (by decide +kernel) (by decide +kernel) (jTs_of (by decide +kernel) (by decide +kernel)), ht _ (by decide +kernel) (by decide +kernel)⟩ ⟨jSb_blind, jSb_at hX⟩ rfl rfl hl.1 rfl (by show 2 * 0 + 0 ≤ 8; omega) (by decide +kernel : decode cJ0_charAt_5068e 12 = .ok (.invokestatic 495, 3)) ⟨by show 0 + 0 ≤ _; omega, by show 0 + 0 ≤ _; omega⟩) ?_
  exact W.zret hx hb hr (jS_let _ h93).2 (fun t ht _ => ⟨rfl, ht⟩) (fun q hq => by cases hq) (by decide +kernel : decode cJ0_charAt_5068e 15 = .ok (.ireturn, 1)) B.notSynchronized
theorem jstr901 {own i : Nat} (h : (jMthT.getD own []).lookup i = some 901) : own = 10 ∧ i = 79 := by
  have h0 : (jMthT.zipIdx.all fun q => q.1.all fun x => !(Nat.beq x.2 901) || (Nat.beq q.2 10 && Nat.beq x.1 79)) = true := by decide +kernel
  have h1 := jlookup_mem _ _ _ h
  have h2 := List.all_eq_true.mp h0 _ (jmem_getD h1)
  have h3 := List.all_eq_true.mp h2 _ h1
  have h4 : (!(Nat.beq 901 901) || (Nat.beq own 10 && Nat.beq i 79)) = true := h3
  rw [show Nat.beq 901 901 = true from rfl, Bool.not_true, Bool.false_or, Bool.and_eq_true] at h4
  exact ⟨Nat.eq_of_beq_eq_true h4.1, Nat.eq_of_beq_eq_true h4.2⟩
theorem jstr902 {own i : Nat} (h : (jMthT.getD own []).lookup i = some 902) : own = 10 ∧ i = 85 := by
  have h0 : (jMthT.zipIdx.all fun q => q.1.all fun x => !(Nat.beq x.2 902) || (Nat.beq q.2 10 && Nat.beq x.1 85)) = true := by decide +kernel
  have h1 := jlookup_mem _ _ _ h
  have h2 := List.all_eq_true.mp h0 _ (jmem_getD h1)
  have h3 := List.all_eq_true.mp h2 _ h1
  have h4 : (!(Nat.beq 902 902) || (Nat.beq own 10 && Nat.beq i 85)) = true := h3
  rw [show Nat.beq 902 902 = true from rfl, Bool.not_true, Bool.false_or, Bool.and_eq_true] at h4
  exact ⟨Nat.eq_of_beq_eq_true h4.1, Nat.eq_of_beq_eq_true h4.2⟩
theorem jStr_ok {b : Nat} {dC : Nat → ClassId} {dI : Nat → Nat → Nat} {cA : Nat → ClassId} : jStrOk g b base dC dI cA l := by
  intro p e R s m args below meth c Q cells slots mm pc i al st st0 σ ls H locs C0 hG hR hcells hslots hF N hst
  obtain ⟨hx, hb, hml, hown, hts, hlocks, hin, hbs, hfr, hlo⟩ := C0
  obtain ⟨hRel, hl, hva, hvs, hSS⟩ := id N
  obtain ⟨h512, hP, hK, hC, hX, hL, hcl⟩ := id hRel
  obtain ⟨_, _, ⟨v, hS⟩, hZ, hZq⟩ := hX
  have hXv : jXv g base v s H := ⟨hS, hZ, hZq⟩
  have hd := jF_dec hF
  have CF : CallFix p m c (jBytesT.getD mm .empty) (jMaxT.getD mm 0) s args jTs (jC (jOwn mm)) := ⟨hx, hb, hml, hown, hts⟩
  have hw8 := jlt4 g hst
  have ht : ∀ w : Cond, w ∈ lw_tbl → goodWord w = true → w.before args s = true := fun w h1 h2 => hts w (jTs_of h1 h2)
  have hrecv : ∃ cell : Cell, H[g (18, (0, 0))]? = some cell ∧ cell.vm.isStatics = false ∧ s.vm.findClass RJ0 = some cell.cls := by
    obtain ⟨cell, h1, h2, h3, _⟩ := (hS.1 0 (by omega)).1
    exact ⟨cell, h1, h2, h3⟩
  constructor
  · intro hlk K
    obtain ⟨eo, rfl⟩ := jstr901 hlk
    exact js_call (x := some (.int (Int32.ofNat jstr.length))) (rest := st0.map (jcv g)) (va_runV CF (C := RJ0) (mt_length (v := v)) ⟨js_cb (k := 1) (n := 0) hts (by omega) (by omega) (jTs_of (by decide +kernel) (by decide +kernel)) (jTs_of (by decide +kernel) (by decide +kernel)) (by decide +kernel) (by decide +kernel) (by rw [eo]; exact jTs_of (by decide +kernel) (by decide +kernel)), ht _ (by decide +kernel) (by decide +kernel), ht _ (by decide +kernel) (by decide +kernel)⟩ (As := []) ⟨jSb_blind, hrecv, jSb_at hXv⟩ rfl rfl hl.2.1 rfl (by show 2 * 0 + _ ≤ 8; omega) hd ⟨by omega, by omega⟩) K
  · intro hlk x h0 h1 K
    obtain ⟨eo, rfl⟩ := jstr902 hlk
    exact js_call (x := some (.int (jstr.getD x.toNatClampNeg 0))) (rest := st0.map (jcv g)) (va_runV CF (C := RJ0) (mt_charAt (v := v) h0 h1) ⟨js_cb (k := 3) (n := 1) hts (by omega) (by omega) (jTs_of (by decide +kernel) (by decide +kernel)) (jTs_of (by decide +kernel) (by decide +kernel)) (by decide +kernel) (by decide +kernel) (by rw [eo]; exact jTs_of (by decide +kernel) (by decide +kernel)), ht _ (by decide +kernel) (by decide +kernel), ht _ (by decide +kernel) (by decide +kernel)⟩ (As := [.int x]) ⟨jSb_blind, hrecv, jSb_at hXv⟩ rfl rfl hl.2.1 rfl (by show 2 * 0 + _ ≤ 8; omega) hd ⟨by omega, by omega⟩) K
end JSTR
