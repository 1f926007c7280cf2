/-! the pure machine's state against the heap, the locals -/
def jcv (g : jR → Nat) : jV → Value
  | .inl x => .int x
  | .inr (.inl x) => .long x
  | .inr (.inr none) => .null
  | .inr (.inr (some r)) => .ref (g r)
def jfs (g : jR → Nat) (σ : jS) (k : Nat) (a : jA) : List Value :=
  (List.range (jNT.getD k 0)).map (fun s => if (jIsRefT.getD k []).getD s false then (if σ.2.1.contains ((k, a), s) then .null else .ref (g (jrf k a s))) else .int (σ.2.2 k a s))
def jEn (g : jR → Nat) (cA : Nat → ClassId) (σ : jS) (r : jR) : va_E :=
  if r.1 < 12 then .inr (r.1, jfs g σ r.1 r.2)
  else if r.1 = 15 ∨ r.1 = 16 then .inl (cA r.1, (jLen r.1 r.2, .inr (.inr (.inr (.inr (fun j => if σ.2.1.contains (r, j) then none else some (g (jrf r.1 r.2 j))))))))
  else .inl (cA r.1, (jLen r.1 r.2, .inl (fun j => σ.2.2 r.1 r.2 j)))
def jWs (g : jR → Nat) (base : Nat) (cA : Nat → ClassId) (σ : jS) : va_W := (List.range σ.1).map (fun j => (base + j, jEn g cA σ (jRefs.getD j (99, (0, 0)))))
theorem jWs_len (g : jR → Nat) (base : Nat) (cA : Nat → ClassId) (σ : jS) : (jWs g base cA σ).length = σ.1 := by simp [jWs]
theorem jWs_get {g : jR → Nat} {base : Nat} {cA : Nat → ClassId} {σ : jS} {j : Nat} {r : jR} (h : j < σ.1) (hr : jRefs[j]? = some r) : (jWs g base cA σ)[j]? = some (base + j, jEn g cA σ r) := by
  simp [jWs, h, List.getD_eq_getElem?_getD, hr]
theorem jnd_inj {α : Type} {l : List α} (h : l.Nodup) {i j : Nat} (hi : i < l.length) (hj : j < l.length) (e : l[i] = l[j]) : i = j := by
  have hp := List.pairwise_iff_getElem.mp h
  rcases Nat.lt_trichotomy i j with z | z | z
  · exact absurd e (hp i j hi hj z)
  · exact z
  · exact absurd e.symm (hp j i hj hi z)
theorem jRefs_inj {i j : Nat} {r : jR} (hi : jRefs[i]? = some r) (hj : jRefs[j]? = some r) : i = j := by
  obtain ⟨h1, e1⟩ := List.getElem?_eq_some_iff.mp hi
  obtain ⟨h2, e2⟩ := List.getElem?_eq_some_iff.mp hj
  exact jnd_inj jRefs_nodup h1 h2 (e1.trans e2.symm)
theorem jWs_set {g : jR → Nat} {base : Nat} {cA : Nat → ClassId} {σ σ' : jS} {j : Nat} {r : jR} (hn : σ'.1 = σ.1) (hj : j < σ.1) (hr : jRefs[j]? = some r) (h512 : σ.1 ≤ 512)
    (ho : ∀ r' : jR, r' ≠ r → jEn g cA σ' r' = jEn g cA σ r') : jWs g base cA σ' = (jWs g base cA σ).set j (base + j, jEn g cA σ' r) := by
  apply List.ext_getElem?
  intro i
  by_cases hi : i < σ.1
  · obtain ⟨r', hr'⟩ : ∃ r', jRefs[i]? = some r' := by
      have : i < jRefs.length := by rw [jRefs_len]; omega
      exact ⟨_, List.getElem?_eq_getElem this⟩
    rw [jWs_get (by omega) hr']
    by_cases e : j = i
    · subst e
      cases hr.symm.trans hr'
      rw [List.getElem?_set_self (by rw [jWs_len]; exact hi)]
    · rw [List.getElem?_set_ne e, jWs_get hi hr', ho r' (fun z => e (jRefs_inj hr (z ▸ hr')))]
  · rw [List.getElem?_eq_none (by rw [jWs_len]; omega), List.getElem?_eq_none (by simp [jWs_len]; omega)]
theorem jWs_app {g : jR → Nat} {base : Nat} {cA : Nat → ClassId} {σ σ' : jS} {r : jR} (hn : σ'.1 = σ.1 + 1) (hr : jRefs[σ.1]? = some r)
    (ho : ∀ r' : jR, r' ≠ r → jEn g cA σ' r' = jEn g cA σ r') : jWs g base cA σ' = jWs g base cA σ ++ [(base + σ.1, jEn g cA σ' r)] := by
  have hl : σ.1 < jRefs.length := (List.getElem?_eq_some_iff.mp hr).1
  apply List.ext_getElem?
  intro i
  by_cases hi : i < σ.1
  · have hr' : jRefs[i]? = some jRefs[i] := List.getElem?_eq_getElem (by omega)
    rw [jWs_get (by omega) hr', List.getElem?_append_left (by rw [jWs_len]; exact hi), jWs_get hi hr', ho _ (fun z => by
      have := jRefs_inj hr (z ▸ hr')
      omega)]
  · rw [List.getElem?_append_right (by rw [jWs_len]; omega), jWs_len]
    by_cases e : i = σ.1
    · subst e
      rw [jWs_get (by omega) hr]
      simp
    · rw [List.getElem?_eq_none (by rw [jWs_len]; omega), List.getElem?_eq_none (by simp; omega)]
def jtys (cA : Nat → ClassId) : List (ClassId × FieldType) := [(cA 12, .int), (cA 13, .boolean), (cA 14, .byte), (cA 15, .object "PlayedLaws$House"), (cA 16, .object "PlayedLaws$Night")]
def jCar (U : State) : Prop := (∀ w ∈ jNest, va_Nw w U) ∧ va_AO "PlayedLaws$House" U ∧ va_AO "PlayedLaws$Night" U
theorem jCar_warm {s U : State} (hW : s.WarmedH U.vm) (h : jCar s) : jCar U := by
  refine ⟨fun w hw => ?_, h.2.1.moved hW.alike, h.2.2.moved hW.alike⟩
  have h1 := h.1 w hw
  have h2 : jIsNest w = true := (List.mem_filter.mp hw).2
  cases w <;> first
    | exact va_Nw.warmF hW h1
    | exact va_Nw.warmM hW h1
    | (simp [jIsNest] at h2)
def jPl (r : jR) (s : Nat) : Prop := (r.1 < 12 ∧ (jIsRefT.getD r.1 []).getD s false = true) ∨ ((r.1 = 15 ∨ r.1 = 16) ∧ s < jLen r.1 r.2)
def jok (n : Nat) (r : jR) : Prop := (∃ j, j < n ∧ jRefs[j]? = some r) ∨ r = (17, (0, 0)) ∨ r = (18, (0, 0))
def jokv (n : Nat) : jV → Prop
  | .inr (.inr (some r)) => jok n r
  | _ => True
def jclo (σ : jS) : Prop := ∀ r s, jok σ.1 r → jPl r s → (r, s) ∉ σ.2.1 → jok σ.1 (jrf r.1 r.2 s)
def jTxt : String := "s0,8,0;s2,6,1;s1,4,8;s3,12,2;s0,10,3;h0,2,9;h1,0,6;h0,1,14;h2,3,20;h0,0,5;h0,2,11;b01423;g25;"
/-- the string constant, and the statics that its methods read -/
def jXt (g : jR → Nat) (base : Nat) (U : State) (H : Heap) : Prop := vk_R "PlayedLaws" 77 jTxt (g (18, (0, 0))) U ∧ (∃ adV : Nat, vk_S 1 [jstr.length] [jstr] (fun _ => g (18, (0, 0))) (fun _ => adV) (fun q => base ≤ q) U H) ∧ va_Z "java/lang/String" "COMPACT_STRINGS" "Z" (.int 1) (fun q => base ≤ q) U H ∧ va_Zq "jdk/internal/util/Preconditions" "SIOOBE_FORMATTER" "Ljava/util/function/BiFunction;" (fun q => base ≤ q) U H
theorem jXt_warm {g : jR → Nat} {base : Nat} {s U : State} {H : Heap} (hW : s.WarmedH U.vm) (h : jXt g base s H) : jXt g base U H := by
  obtain ⟨h1, ⟨adV, h2⟩, h3, h4⟩ := h
  exact ⟨vk_R.warm hW h1, ⟨adV, h2.moved hW.alike⟩, h3.moved hW.alike, h4.moved hW.alike⟩
theorem jXt_kept {g : jR → Nat} {base : Nat} {U : State} {H H1 : Heap} (h : jXt g base U H) (hq : ∀ a : Nat, a < H.size → ¬ base ≤ a → H1[a]? = H[a]?) : jXt g base U H1 := by
  obtain ⟨h1, ⟨adV, h2⟩, h3, h4⟩ := h
  exact ⟨h1, ⟨adV, h2.kept hq⟩, h3.kept hq, h4.kept hq⟩
def jXs (g : jR → Nat) (b base L : Nat) (xs : Nat → Int32) (U : State) (H : Heap) : Prop := va_X b L xs U H ∧ jXt g base U H
def jRel (g : jR → Nat) (b base : Nat) (dC : Nat → ClassId) (dI : Nat → Nat → Nat) (cA : Nat → ClassId) (σ : jS) (U : State) (H : Heap) : Prop :=
  σ.1 ≤ 512 ∧ va_P (dC, dI) jCl (jWs g base cA σ) H ∧ va_K (dC, dI) jCl (jtys cA) U ∧ jCar U ∧ jXs g b base (jSL σ.2.2).toNatClampNeg (σ.2.2 17 (0, 0)) U H ∧ Int32.ofNat (jSL σ.2.2).toNatClampNeg = jSL σ.2.2 ∧ jclo σ
def jlr (g : jR → Nat) (mm : Nat) (ls : Array Slot) (al : jL) : Prop :=
  al.length = jMaxT.getD mm 0 ∧ ls.size = jMaxT.getD mm 0 ∧ lv_wf ls ∧ (∀ (i : Nat) (v : jV), al[i]? = some (some v) → ls[i]? = some (.val (jcv g v))) ∧ ∀ (i : Nat) (x : Int64), al[i]? = some (some (.inr (.inl x))) → i ∈ jLong mm
def jlv (g : jR → Nat) (al : jL) : List (Nat × Value) := al.zipIdx.filterMap (fun q => q.1.map (fun v => (q.2, jcv g v)))
theorem jlv_mem {g : jR → Nat} {al : jL} {i : Nat} {w : Value} : (i, w) ∈ jlv g al ↔ ∃ v, al[i]? = some (some v) ∧ w = jcv g v := by
  unfold jlv
  rw [List.mem_filterMap]
  constructor
  · rintro ⟨⟨x, k⟩, h1, h2⟩
    have h3 := List.mem_zipIdx_iff_getElem?.mp h1
    cases x with
    | none => simp at h2
    | some v =>
      simp at h2
      obtain ⟨e1, e2⟩ := h2
      subst e1
      exact ⟨v, h3, e2.symm⟩
  · rintro ⟨v, h1, h2⟩
    exact ⟨(some v, i), List.mem_zipIdx_iff_getElem?.mpr h1, by simp [h2]⟩
theorem jlr_has {g : jR → Nat} {mm : Nat} {ls : Array Slot} {al : jL} (h : jlr g mm ls al) : lv_has ls (jMaxT.getD mm 0) (jlv g al) :=
  ⟨h.2.1, h.2.2.1, fun q hq => by
    obtain ⟨v, h1, h2⟩ := jlv_mem.mp (show (q.1, q.2) ∈ jlv g al from hq)
    rw [h2]
    exact h.2.2.2.1 _ _ h1⟩
theorem jcv_cat {g : jR → Nat} {v : jV} (h : (jcv g v).category = 2) : ∃ x, v = .inr (.inl x) := by
  rcases v with x | x | _ | r
  · simp [jcv, Value.category] at h
  · exact ⟨x, rfl⟩
  · simp [jcv, Value.category] at h
  · simp [jcv, Value.category] at h
theorem jst_spec {mm : Nat} {al al' : jL} {i : Nat} {v : jV} (h : jst mm al i v = some al') : i < al.length ∧ i ∉ jLong mm ∧ (∀ j, i = j + 1 → j ∉ jLong mm) ∧ al' = al.set i (some v) := by
  unfold jst at h
  split at h
  · cases h
  · rename_i h1
    simp only [Bool.or_eq_true, Bool.and_eq_true, not_or, not_and, Nat.ble_eq, List.contains_iff_mem] at h1
    refine ⟨by omega, h1.1.2, fun j hj => ?_, (Option.some.inj h).symm⟩
    subst hj
    exact h1.2 (by omega)
/-- behind a store of one slot -/
theorem jlr_store {g : jR → Nat} {mm : Nat} {ls ls' : Array Slot} {al al' : jL} {i : Nat} {v : jV} (hv : (jcv g v).category = 1) (h : jlr g mm ls al) (hs : jst mm al i v = some al')
    (h' : lv_has ls' (jMaxT.getD mm 0) ((i, jcv g v) :: (jlv g al).filter (fun q => !(q.1 == i) && !(q.1 + 1 == i && q.2.category == 2)))) : jlr g mm ls' al' := by
  obtain ⟨h1, h2, h3, rfl⟩ := jst_spec hs
  refine ⟨by rw [List.length_set]; exact h.1, h'.1, h'.2.1, fun k w hk => ?_, fun k x hk => ?_⟩
  · by_cases e : i = k
    · subst e
      rw [List.getElem?_set_self h1] at hk
      cases hk
      exact h'.2.2 _ List.mem_cons_self
    · rw [List.getElem?_set_ne e] at hk
      refine h'.2.2 (k, jcv g w) (List.mem_cons_of_mem _ (List.mem_filter.mpr ⟨jlv_mem.mpr ⟨w, hk, rfl⟩, ?_⟩))
      have e1 : (k == i) = false := by simp; exact fun z => e z.symm
      simp only [e1, Bool.not_false, Bool.true_and, Bool.not_eq_true', Bool.and_eq_false_iff]
      by_cases e2 : k + 1 = i
      · right
        by_cases e3 : (jcv g w).category = 2
        · obtain ⟨x, rfl⟩ := jcv_cat e3
          exact absurd (h.2.2.2.2 k x hk) (h3 k e2.symm)
        · simp [e3]
      · left
        simp [e2]
  · by_cases e : i = k
    · subst e
      rw [List.getElem?_set_self h1] at hk
      cases hk
      simp [jcv, Value.category] at hv
    · rw [List.getElem?_set_ne e] at hk
      exact h.2.2.2.2 k x hk
