/-! the reference's night -/
def sG (M : jM) (g : jH) : jM := fun k a s => if k = 12 ∧ a = (61, 0) ∧ s < 7 then g 0 s else if k = 12 ∧ a = (62, 0) ∧ s < 7 then g 1 s else if k = 13 ∧ a = (63, 0) ∧ s < 7 then g 2 s else if k = 12 ∧ a = (64, 0) ∧ s < 7 then g 3 s else M k a s
def gG (M : jM) : jH := fun f => if f = 0 then M 12 (61, 0) else if f = 1 then M 12 (62, 0) else if f = 2 then M 13 (63, 0) else M 12 (64, 0)
theorem sG_self (M : jM) : sG M (gG M) = M := by
  funext k a s
  unfold sG
  by_cases h1 : k = 12 ∧ a = (61, 0) ∧ s < 7
  · rw [if_pos h1, h1.1, h1.2.1]; rfl
  · rw [if_neg h1]
    by_cases h2 : k = 12 ∧ a = (62, 0) ∧ s < 7
    · rw [if_pos h2, h2.1, h2.2.1]; rfl
    · rw [if_neg h2]
      by_cases h3 : k = 13 ∧ a = (63, 0) ∧ s < 7
      · rw [if_pos h3, h3.1, h3.2.1]; rfl
      · rw [if_neg h3]
        by_cases h4 : k = 12 ∧ a = (64, 0) ∧ s < 7
        · rw [if_pos h4, h4.1, h4.2.1]; rfl
        · rw [if_neg h4]
theorem sG_sG (M : jM) (g g' : jH) : sG (sG M g) g' = sG M g' := by
  funext k a s
  unfold sG
  by_cases h1 : k = 12 ∧ a = (61, 0) ∧ s < 7
  · rw [if_pos h1, if_pos h1]
  · rw [if_neg h1, if_neg h1, if_neg h1]
    by_cases h2 : k = 12 ∧ a = (62, 0) ∧ s < 7
    · rw [if_pos h2, if_pos h2]
    · rw [if_neg h2, if_neg h2, if_neg h2]
      by_cases h3 : k = 13 ∧ a = (63, 0) ∧ s < 7
      · rw [if_pos h3, if_pos h3]
      · rw [if_neg h3, if_neg h3, if_neg h3]
        by_cases h4 : k = 12 ∧ a = (64, 0) ∧ s < 7
        · rw [if_pos h4, if_pos h4]
        · rw [if_neg h4, if_neg h4, if_neg h4]
theorem sG_r (M : jM) (g : jH) {f : Nat} (h : f ≠ 61 ∧ f ≠ 62 ∧ f ≠ 64) : sG M g 12 (f, 0) = M 12 (f, 0) := by
  funext s
  unfold sG
  rw [if_neg (fun z => h.1 (Prod.mk.inj z.2.1).1), if_neg (fun z => h.2.1 (Prod.mk.inj z.2.1).1), if_neg (fun z => by cases z.1), if_neg (fun z => h.2.2 (Prod.mk.inj z.2.1).1)]
theorem sG_k (M : jM) (g : jH) {k : Nat} (h : k ≠ 12) (h3 : k ≠ 13) : sG M g k = M k := by
  funext a s
  unfold sG
  rw [if_neg (fun z => h z.1), if_neg (fun z => h z.1), if_neg (fun z => h3 z.1), if_neg (fun z => h z.1)]
theorem sG_0 (M : jM) (g : jH) {s : Nat} (h : s < 7) : sG M g 12 (61, 0) s = g 0 s := if_pos ⟨rfl, rfl, h⟩
theorem sG_1 (M : jM) (g : jH) {s : Nat} (h : s < 7) : sG M g 12 (62, 0) s = g 1 s := by
  unfold sG
  rw [if_neg (fun z => by cases z.2.1), if_pos ⟨rfl, rfl, h⟩]
theorem sG_2 (M : jM) (g : jH) {s : Nat} (h : s < 7) : sG M g 13 (63, 0) s = g 2 s := by
  unfold sG
  rw [if_neg (fun z => by cases z.1), if_neg (fun z => by cases z.1), if_pos ⟨rfl, rfl, h⟩]
theorem sG_3 (M : jM) (g : jH) {s : Nat} (h : s < 7) : sG M g 12 (64, 0) s = g 3 s := by
  unfold sG
  rw [if_neg (fun z => by cases z.2.1), if_neg (fun z => by cases z.2.1), if_neg (fun z => by cases z.1), if_pos ⟨rfl, rfl, h⟩]
theorem sG_u (M : jM) (g : jH) {k f r s : Nat} {x : Int32} (h : s < 7) (hk : (r = 0 ∧ k = 12 ∧ f = 61) ∨ (r = 1 ∧ k = 12 ∧ f = 62) ∨ (r = 2 ∧ k = 13 ∧ f = 63) ∨ (r = 3 ∧ k = 12 ∧ f = 64)) : jUp (sG M g) k (f, 0) s x = sG M (nset g r (upd (g r) s x)) := by
  funext k' a' s'
  unfold jUp
  by_cases e : k' = k ∧ a' = (f, 0) ∧ s' = s
  · obtain ⟨rfl, rfl, rfl⟩ := e
    rw [if_pos ⟨rfl, rfl, rfl⟩]
    rcases hk with ⟨rfl, rfl, rfl⟩ | ⟨rfl, rfl, rfl⟩ | ⟨rfl, rfl, rfl⟩ | ⟨rfl, rfl, rfl⟩
    · rw [sG_0 _ _ h, nset_at]; exact (if_pos rfl).symm
    · rw [sG_1 _ _ h, nset_at]; exact (if_pos rfl).symm
    · rw [sG_2 _ _ h, nset_at]; exact (if_pos rfl).symm
    · rw [sG_3 _ _ h, nset_at]; exact (if_pos rfl).symm
  · rw [if_neg e]
    have key : ∀ r', (r' = r → ¬ s' = s) → nset g r (upd (g r) s x) r' s' = g r' s' := by
      intro r' hr
      unfold nset upd
      by_cases e2 : r' = r
      · rw [if_pos e2, if_neg (hr e2), e2]
      · rw [if_neg e2]
    unfold sG
    by_cases h1 : k' = 12 ∧ a' = (61, 0) ∧ s' < 7
    · rw [if_pos h1, if_pos h1, key 0 (fun hr z => e ⟨by omega, by rw [h1.2.1]; congr 1; omega, z⟩)]
    · rw [if_neg h1, if_neg h1]
      by_cases h2 : k' = 12 ∧ a' = (62, 0) ∧ s' < 7
      · rw [if_pos h2, if_pos h2, key 1 (fun hr z => e ⟨by omega, by rw [h2.2.1]; congr 1; omega, z⟩)]
      · rw [if_neg h2, if_neg h2]
        by_cases h3 : k' = 13 ∧ a' = (63, 0) ∧ s' < 7
        · rw [if_pos h3, if_pos h3, key 2 (fun hr z => e ⟨by omega, by rw [h3.2.1]; congr 1; omega, z⟩)]
        · rw [if_neg h3, if_neg h3]
          by_cases h4 : k' = 12 ∧ a' = (64, 0) ∧ s' < 7
          · rw [if_pos h4, if_pos h4, key 3 (fun hr z => e ⟨by omega, by rw [h4.2.1]; congr 1; omega, z⟩)]
          · rw [if_neg h4, if_neg h4]
theorem sG_u0 (M : jM) (g : jH) {s : Nat} {x : Int32} (h : s < 7) : jUp (sG M g) 12 (61, 0) s x = sG M (nset g 0 (upd (g 0) s x)) := sG_u M g h (Or.inl ⟨rfl, rfl, rfl⟩)
theorem sG_u1 (M : jM) (g : jH) {s : Nat} {x : Int32} (h : s < 7) : jUp (sG M g) 12 (62, 0) s x = sG M (nset g 1 (upd (g 1) s x)) := sG_u M g h (Or.inr (Or.inl ⟨rfl, rfl, rfl⟩))
theorem sG_u2 (M : jM) (g : jH) {s : Nat} {x : Int32} (h : s < 7) : jUp (sG M g) 13 (63, 0) s x = sG M (nset g 2 (upd (g 2) s x)) := sG_u M g h (Or.inr (Or.inr (Or.inl ⟨rfl, rfl, rfl⟩)))
theorem sG_u3 (M : jM) (g : jH) {s : Nat} {x : Int32} (h : s < 7) : jUp (sG M g) 12 (64, 0) s x = sG M (nset g 3 (upd (g 3) s x)) := sG_u M g h (Or.inr (Or.inr (Or.inr ⟨rfl, rfl, rfl⟩)))
theorem rS_sG {a b : Nat} {M : jM} {h : jH} (g : jH) (w : rS a b M h) : rS a b (sG M g) h := by
  unfold rS
  rw [sG_r M g (by decide), sG_r M g (by decide), sG_r M g (by decide), sG_r M g (by decide), sG_r M g (by decide), sG_r M g (by decide), sG_r M g (by decide)]
  exact w
theorem rO_sG {K a b l f : Nat} {M : jM} {h : jH} (g : jH) (w : rO K a b l f M h) : rO K a b l f (sG M g) h := by
  refine ⟨w.1, rS_sG g w.2.1, ?_, w.2.2.2⟩
  rw [sG_r M g (by have := w.2.2.2; omega)]
  exact w.2.2.1
def ln (h : jH) (k : Nat) : Nat := (h 9 k).toNatClampNeg
def bl (h : jH) (i : Nat) : Nat := (h 4 i).toNatClampNeg
abbrev mGn (h g : jH) (x : Int32) : Prop := (0 ≤ x ∧ x ≤ h 10 11 - 1) ∧ ¬ g 0 (ln h x.toNatClampNeg) = -4
def mSum (h : jH) (s : Nat) : Int32 := h 1 s + 2 * (if h 3 s < 3 then h 3 s else 3)
def mMore (h : jH) (q s : Nat) : Int32 := if h 0 s = h 6 q then -(h 1 s / 2) else if h 5 q = 2 then 2 * mSum h s else mSum h s
def mBore (h : jH) (q s : Nat) (g : jH) : jH := nset g 1 (upd (g 1) q (if g 1 q + mMore h q s < 0 then 0 else g 1 q + mMore h q s))
def mLeft (h g : jH) (k q : Nat) : Int32 := h 7 q - (if mGn h g (jn k - 1) then 3 else 0) - (if mGn h g (jn k + 1) then 3 else 0)
abbrev mCan (h : jH) (q : Nat) : Prop := h 5 q = 0 ∨ h 5 q = 2
def mSettle1 (h g : jH) (k i q : Nat) : jH := if mCan h q ∧ (if mLeft h g k q < 0 then 0 else mLeft h g k q) < g 1 q then nset g 0 (upd (g 0) q (jn i + 1)) else g
def mSettle (h g : jH) (k i q : Nat) : jH := nset (mSettle1 h g k i q) 2 (upd (mSettle1 h g k i q 2) q (jb (h 5 q = 1 ∧ h 7 q < g 1 q)))
def mStep1 (h : jH) (i k : Nat) (g : jH) : jH := if g 0 (ln h k) = -4 then mSettle h (mBore h (ln h k) (bl h i) g) k i (ln h k) else g
def mWatch1 (i k : Nat) (g : jH) : jH := nset g 3 (upd (g 3) k (g 3 k ||| if g 0 k = -4 ∧ g 2 k = 0 then 1 <<< (jn i &&& 31) else 0))
def mCough1 (y : Int32) (k : Nat) (g : jH) : jH := nset g 0 (upd (g 0) k (if y >>> (jn k &&& 31) &&& 1 = 1 then 1 else -4))
def mStage (h : jH) (b i : Nat) (y : Int32) (g : jH) : jH := jfor (mStep1 h i) b 0 (if i = 0 then jfor (mCough1 y) b 0 (jfor (mWatch1 i) b 0 g) else jfor (mWatch1 i) b 0 g)
def mGo0 : jH := fun f _ => if f = 0 then -4 else 0
def mGo (h : jH) (b l : Nat) (y : Int32) : jH := jfor (fun i g => mStage h b i y g) l 0 mGo0
def mCnt (b : Nat) (g : jH) : Int32 := jfor (fun k r => if g 0 k = -4 then r + 1 else r) b 0 0
section JRN
variable {d n K a b l f : Nat} {v : Option jV} {σ' : jS} {M : jM} {x y z : Int32} {h g : jH}
theorem rO_ln (w : hOk K a b l h) {k : Nat} (hk : k < b) : ln h k < b ∧ h 9 k = jn (ln h k) := by
  obtain ⟨q, h1, h2⟩ := w.2.2.2.1.1 k hk
  have w1 := w.1
  unfold ln
  rw [h2, jn_clamp (by omega)]
  exact ⟨h1, rfl⟩
theorem rO_bl (w : hOk K a b l h) {i : Nat} (hi : i < l) : bl h i < a ∧ h 4 i = jn (bl h i) := by
  obtain ⟨q, h1, h2⟩ := w.2.2.1.1 i hi
  have w1 := w.1
  unfold bl
  rw [h2, jn_clamp (by omega)]
  exact ⟨h1, rfl⟩
/-- isGone -/
theorem r150 (w : rO K a b l f M h) : jE (d + 1) 150 0 [some (.inr (.inr (some (11, (0, 0))))), some (.inr (.inr (some (12, (f, 0))))), some (.inl x)] [] (n, ([], sG M g)) v σ' ↔ v = some (.inl (jb (mGn h g x))) ∧ σ' = (n, ([], sG M g)) := by
  have w1 := w.1.1
  have hL := rO_len w
  have hr := sG_r M g (f := f) (by have := w.2.2.2; omega)
  simp only [s150_0, s150_1, s150_2, s150_3, s150_6, s150_7, s150_8, s150_9, s150_10, s150_13, s150_36, jm_46, jk0, ji0 (show 0 < 2 by decide), sG_r M g (f := 46) (by decide), w.2.1.1.2, r123, jcall_eq, Option.toList_some, Option.toList_none, List.cons_append, List.nil_append, jb_0, jifN]
  unfold jb mGn
  rw [w.1.2.1.2.1]
  by_cases h1 : 0 ≤ x ∧ x ≤ jn b - 1
  · rw [if_pos h1]
    obtain ⟨q, hq, e⟩ := (lw_seat (x := x) w.1).mp (by rw [w.1.2.1.2.1]; exact h1)
    have hl := rO_ln w.1 hq
    rw [e]
    simp (disch := omega) only [s150_16, s150_17, s150_20, s150_21, s150_23, s150_24, s150_25, s150_26, s150_27, s150_29, s150_32, s150_33, s150_36, hL, hr, jnA18, jiz, jcl, (w.2.2.1.2.2.1 q hq).2.1, hl.2, jm_61, sG_0]
    by_cases h2 : g 0 (ln h q) = -4
    · rw [if_pos h2, if_neg (fun z => z.2 h2), s150_37]
      exact ⟨fun q => q.2, fun q => ⟨by simp, q⟩⟩
    · rw [if_neg h2, if_pos ⟨by rw [← e]; exact h1, h2⟩, s150_37]
      exact ⟨fun q => q.2, fun q => ⟨by simp, q⟩⟩
  · rw [if_neg h1, if_neg (fun z => h1 z.1), s150_37]
    exact ⟨fun q => q.2, fun q => ⟨by simp, q⟩⟩
/-- bore -/
theorem r151 (w : rO K a b l f M h) {q s : Nat} (hq : q < b) (hs : s < a) : jE d 151 0 [some (.inr (.inr (some (11, (0, 0))))), some (.inr (.inr (some (12, (f, 0))))), some (.inl (jn q)), some (.inl (jn s)), none, none] [] (n, ([], sG M g)) v σ' ↔ v = none ∧ σ' = (n, ([], sG M (mBore h q s g))) := by
  have w1 := w.1.1
  have hL := rO_len w
  have hr := sG_r M g (f := f) (by have := w.2.2.2; omega)
  have key : ∀ (a4 : Option jV) (y : Int32), jE d 151 77 [some (.inr (.inr (some (11, (0, 0))))), some (.inr (.inr (some (12, (f, 0))))), some (.inl (jn q)), some (.inl (jn s)), a4, none] [.inl y] (n, ([], sG M g)) v σ' ↔ v = none ∧ σ' = (n, ([], sG M (nset g 1 (upd (g 1) q (if g 1 q + y < 0 then 0 else g 1 q + y))))) := by
    intro a4 y
    simp (disch := omega) only [s151_77, s151_79, s151_80, s151_83, s151_84, s151_85, s151_88, s151_89, s151_90, s151_92, s151_93, s151_96, s151_97, s151_100, s151_101, s151_104, s151_105, s151_106, s151_108, s151_109, s151_110, jm_62, jiz, jcl, sG_1, sG_u1]
    by_cases h1 : g 1 q + y < 0
    · rw [if_neg (Int32.not_le.mpr h1), if_pos h1]
    · rw [if_pos (Int32.not_lt.mp h1), if_neg h1]
  have hn : ¬ (2 : Int32) = 0 := by decide
  simp (disch := omega) only [s151_0, s151_1, s151_4, s151_5, s151_6, s151_7, s151_8, s151_10, s151_11, s151_12, s151_13, s151_14, s151_17, s151_18, s151_20, s151_21, s151_22, s151_23, s151_26, s151_27, s151_28, s151_29, s151_31, s151_32, s151_35, s151_36, s151_37, s151_38, s151_41, s151_42, s151_43, s151_46, s151_47, s151_50, s151_51, s151_52, s151_53, s151_54, s151_55, s151_58, s151_59, s151_61, s151_62, s151_63, s151_64, s151_65, s151_68, s151_69, s151_71, s151_72, s151_75, hL, hr, jm_43, jm_44, jm_48, jnA11, jnA32, jiz, jcl, sG_r M g (f := 43) (by decide), sG_r M g (f := 44) (by decide), sG_r M g (f := 48) (by decide), w.2.1.2.1 s hs, (w.2.1.2.2 q hq).1, w.2.2.1.2.2.2 s hs, (w.2.2.1.2.2.1 q hq).1, key, jifN, hn, not_false_eq_true, true_and]
  unfold mBore mMore mSum
  by_cases h3 : h 3 s < 3
  · rw [if_neg (Int32.not_le.mpr h3), if_pos h3]
    by_cases h1 : h 0 s = h 6 q
    · rw [if_pos h1, if_pos h1]
    · rw [if_neg h1, if_neg h1]
      by_cases h2 : h 5 q = 2
      · rw [if_pos h2, if_pos h2]
      · rw [if_neg h2, if_neg h2]
  · rw [if_pos (Int32.not_lt.mp h3), if_neg h3]
    by_cases h1 : h 0 s = h 6 q
    · rw [if_pos h1, if_pos h1]
    · rw [if_neg h1, if_neg h1]
      by_cases h2 : h 5 q = 2
      · rw [if_pos h2, if_pos h2]
      · rw [if_neg h2, if_neg h2]
/-- canLeave -/
theorem r152 (w : rO K a b l f M h) {q : Nat} (hq : q < b) : jE d 152 0 [some (.inr (.inr (some (11, (0, 0))))), some (.inr (.inr (some (12, (f, 0))))), some (.inl (jn q))] [] (n, ([], M)) v σ' ↔ v = some (.inl (jb (mCan h q))) ∧ σ' = (n, ([], M)) := by
  have w1 := w.1.1
  have hL := rO_len w
  simp (disch := omega) only [s152_0, s152_1, s152_3, s152_4, s152_5, s152_6, s152_9, s152_10, s152_12, s152_13, s152_14, s152_15, s152_16, s152_19, s152_20, s152_23, s152_24, hL, jnA11, jiz, jcl, (w.2.2.1.2.2.1 q hq).1, jifN]
  unfold jb mCan
  by_cases h1 : h 5 q = 0
  · rw [if_pos h1, if_pos (Or.inl h1)]
    exact ⟨fun q => q.2, fun q => ⟨by simp, q⟩⟩
  · rw [if_neg h1]
    by_cases h2 : h 5 q = 2
    · rw [if_pos h2, if_pos (Or.inr h2)]
      exact ⟨fun q => q.2, fun q => ⟨by simp, q⟩⟩
    · rw [if_neg h2, if_neg (fun z => z.elim h1 h2)]
      exact ⟨fun q => q.2, fun q => ⟨by simp, q⟩⟩
/-- settle -/
theorem r153 (w : rO K a b l f M h) {k i q : Nat} (hk : k < b) (e : h 9 k = jn q) (hq : q < b) : jE (d + 2) 153 0 [some (.inr (.inr (some (11, (0, 0))))), some (.inr (.inr (some (12, (f, 0))))), some (.inl (jn k)), some (.inl (jn i)), none, none] [] (n, ([], sG M g)) v σ' ↔ v = none ∧ σ' = (n, ([], sG M (mSettle h g k i q))) := by
  have w1 := w.1.1
  have hL := rO_len w
  have hr := fun g => sG_r M g (f := f) (by have := w.2.2.2; omega)
  have key : ∀ (a5 : Option jV) (g' : jH), g' 1 = g 1 → (jE (d + 2) 153 92 [some (.inr (.inr (some (11, (0, 0))))), some (.inr (.inr (some (12, (f, 0))))), some (.inl (jn k)), some (.inl (jn i)), some (.inl (jn q)), a5] [] (n, ([], sG M g')) v σ' ↔ v = none ∧ σ' = (n, ([], sG M (nset g' 2 (upd (g' 2) q (jb (h 5 q = 1 ∧ h 7 q < g 1 q))))))) := by
    intro a5 g' hg
    simp (disch := omega) only [s153_92, s153_93, s153_96, s153_98, s153_99, s153_101, s153_103, s153_104, s153_105, s153_106, s153_109, s153_110, s153_113, s153_115, s153_116, s153_117, s153_120, s153_122, s153_123, s153_126, s153_127, s153_130, s153_131, s153_132, hL, hr g', jnA11, jiz, jcl, (w.2.2.1.2.2.1 q hq).1, jm_49, jm_62, jm_63, sG_r M g' (f := 49) (by decide), (w.2.1.2.2 q hq).2, sG_1, sG_u2, hg, jifN]
    unfold jb
    by_cases h1 : h 5 q = 1
    · rw [if_pos h1]
      by_cases h2 : h 7 q < g 1 q
      · rw [if_neg (Int32.not_le.mpr h2), if_pos ⟨h1, h2⟩]
        exact ⟨fun z => z.2, fun z => ⟨⟨by simp, jn_pos (by omega), by omega⟩, z⟩⟩
      · rw [if_pos (Int32.not_lt.mp h2), if_neg (fun z => h2 z.2)]
        exact ⟨fun z => z.2, fun z => ⟨⟨by simp, jn_pos (by omega), by omega⟩, z⟩⟩
    · rw [if_neg h1, if_neg (fun z => h1 z.1)]
      exact ⟨fun z => z.2, fun z => ⟨⟨by simp, jn_pos (by omega), by omega⟩, z⟩⟩
  have k2 : ∀ (y : Int32), jE (d + 2) 153 49 [some (.inr (.inr (some (11, (0, 0))))), some (.inr (.inr (some (12, (f, 0))))), some (.inl (jn k)), some (.inl (jn i)), some (.inl (jn q)), none] [.inl y] (n, ([], sG M g)) v σ' ↔ v = none ∧ σ' = (n, ([], sG M (nset (if mCan h q ∧ (if y < 0 then 0 else y) < g 1 q then nset g 0 (upd (g 0) q (jn i + 1)) else g) 2 (upd ((if mCan h q ∧ (if y < 0 then 0 else y) < g 1 q then nset g 0 (upd (g 0) q (jn i + 1)) else g) 2) q (jb (h 5 q = 1 ∧ h 7 q < g 1 q)))))) := by
    intro y
    simp (disch := omega) only [s153_49, s153_51, s153_52, s153_53, s153_55, s153_58, s153_61, s153_62, s153_65, s153_67, s153_68, s153_70, s153_73, s153_74, s153_77, s153_79, s153_82, s153_83, s153_86, s153_88, s153_89, s153_90, s153_91, r152 (rO_sG g w) hq, jcall_eq, Option.toList_some, Option.toList_none, List.cons_append, List.nil_append, jb_0, jm_61, jm_62, jiz, jcl, sG_1, sG_u0, jifN]
    by_cases h1 : mCan h q
    · rw [if_pos h1]
      by_cases h2 : y < 0
      · rw [if_neg (Int32.not_le.mpr h2), if_pos h2]
        by_cases h3 : 0 < g 1 q
        · rw [if_neg (Int32.not_le.mpr h3), if_pos ⟨h1, h3⟩]
          exact key _ _ (nset_ne (by decide))
        · rw [if_pos (Int32.not_lt.mp h3), if_neg (fun z => h3 z.2)]
          exact key _ _ rfl
      · rw [if_pos (Int32.not_lt.mp h2), if_neg h2]
        by_cases h3 : y < g 1 q
        · rw [if_neg (Int32.not_le.mpr h3), if_pos ⟨h1, h3⟩]
          exact key _ _ (nset_ne (by decide))
        · rw [if_pos (Int32.not_lt.mp h3), if_neg (fun z => h3 z.2)]
          exact key _ _ rfl
    · rw [if_neg h1, if_neg (fun z => h1 z.1)]
      exact key _ _ rfl
  unfold mSettle mSettle1 mLeft
  simp (disch := omega) only [s153_0, s153_1, s153_3, s153_4, s153_5, s153_6, s153_8, s153_9, s153_12, s153_14, s153_15, s153_16, s153_17, s153_18, s153_19, s153_20, s153_23, s153_26, s153_27, s153_30, s153_31, s153_32, s153_33, s153_34, s153_35, s153_36, s153_37, s153_40, s153_43, s153_44, s153_47, s153_48, hL, hr g, jnA18, jiz, jcl, (w.2.2.1.2.2.1 k hk).2.1, e, jm_49, sG_r M g (f := 49) (by decide), (w.2.1.2.2 q hq).2, r150 w, jcall_eq, Option.toList_some, Option.toList_none, List.cons_append, List.nil_append, jb_0, jifN]
  by_cases h1 : mGn h g (jn k - 1)
  · rw [if_pos h1, if_pos h1]
    by_cases h2 : mGn h g (jn k + 1)
    · rw [if_pos h2, if_pos h2]
      exact k2 _
    · rw [if_neg h2, if_neg h2]
      exact k2 _
  · rw [if_neg h1, if_neg h1]
    by_cases h2 : mGn h g (jn k + 1)
    · rw [if_pos h2, if_pos h2]
      exact k2 _
    · rw [if_neg h2, if_neg h2]
      exact k2 _
end JRN
