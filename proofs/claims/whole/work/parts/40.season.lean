/-! a season: draws, one behind the other -/
theorem jfor_inv {α : Type} {P : α → Prop} {f : Nat → α → α} : ∀ (m k : Nat) (x : α), (∀ j y, k ≤ j → j < k + m → P y → P (f j y)) → P x → P (jfor f m k x)
  | 0, _, _, _, h => h
  | m + 1, k, x, hf, h => jfor_inv m (k + 1) (f k x) (fun j y h1 h2 => hf j y (by omega) (by omega)) (hf k x (by omega) (by omega) h)
theorem jn_of255 : ∀ x : Int32, x &&& 255 = x → ∃ k, k ≤ 255 ∧ x = jn k := by
  intro x h
  have h1 : (x &&& 255).toBitVec.toNat ≤ 255 := by
    rw [Int32.toBitVec_and, BitVec.toNat_and]
    exact Nat.and_le_right
  rw [h] at h1
  refine ⟨x.toBitVec.toNat, h1, ?_⟩
  apply Int32.toBitVec_inj.mp
  show x.toBitVec = BitVec.ofNat 32 _
  exact BitVec.eq_of_toNat_eq (by simp)
theorem jn_255 : ∀ k, k ≤ 255 → jn k &&& 255 = jn k := by
  intro k hk
  have h : ∀ k : Fin 256, jn k.1 &&& 255 = jn k.1 := by decide +kernel
  exact h ⟨k, by omega⟩
theorem jn_and {k : Nat} (hk : k ≤ 255) (y : Int32) : ∃ j, j ≤ 255 ∧ jn k &&& y = jn j := by
  apply jn_of255
  rw [Int32.and_assoc, Int32.and_comm y, ← Int32.and_assoc, jn_255 k hk]
theorem jn_or {k j : Nat} (hk : k ≤ 255) (hj : j ≤ 255) : ∃ i, i ≤ 255 ∧ jn k ||| jn j = jn i := by
  apply jn_of255
  have e : ∀ x y z : Int32, (x ||| y) &&& z = (x &&& z) ||| (y &&& z) := fun x y z => by
    apply Int32.toBitVec_inj.mp
    simp only [Int32.toBitVec_and, Int32.toBitVec_or]
    ext i hi
    simp only [BitVec.getElem_and, BitVec.getElem_or]
    cases x.toBitVec[i] <;> cases y.toBitVec[i] <;> cases z.toBitVec[i] <;> rfl
  rw [e, jn_255 k hk, jn_255 j hj]
theorem clb_255 {k : Nat} (hk : k ≤ 8) : ∃ j, j ≤ 255 ∧ clb (jn k) = jn j := by
  have h : ∀ k : Fin 9, clb (jn k.1) = jn (if k.1 = 8 then 0 else 2 ^ k.1) := by decide +kernel
  have h2 : ∀ k : Fin 9, (if k.1 = 8 then 0 else 2 ^ k.1) ≤ 255 := by decide +kernel
  exact ⟨_, h2 ⟨k, by omega⟩, h ⟨k, by omega⟩⟩
section JS1
variable {K a b l : Nat} {h : Nat → Nat → Int32}
theorem hOk_set8 {c : Nat → Int32} (w : hOk K a b l h) (hc : cBd b 0 255 c) : hOk K a b l (nset h 8 c) := by
  refine ⟨w.1, ?_, ?_, ?_, ?_, ?_⟩
  · rw [nset_ne (by decide)]; exact w.2.1
  · rw [nset_ne (by decide)]; exact w.2.2.1
  · rw [nset_ne (by decide)]; exact w.2.2.2.1
  · rw [nset_ne (by decide), nset_ne (by decide), nset_ne (by decide), nset_ne (by decide)]; exact w.2.2.2.2.1
  · rw [nset_ne (by decide), nset_ne (by decide), nset_ne (by decide), nset_at]
    exact ⟨w.2.2.2.2.2.1, w.2.2.2.2.2.2.1, w.2.2.2.2.2.2.2.1, hc⟩
theorem hOk_set3 {K' : Nat} {c : Nat → Int32} (w : hOk K a b l h) (hc : cBd a 0 K' c) : hOk K' a b l (nset h 3 c) := by
  refine ⟨w.1, ?_, ?_, ?_, ?_, ?_⟩
  · rw [nset_ne (by decide)]; exact w.2.1
  · rw [nset_ne (by decide)]; exact w.2.2.1
  · rw [nset_ne (by decide)]; exact w.2.2.2.1
  · rw [nset_ne (by decide), nset_ne (by decide), nset_ne (by decide), nset_at]
    exact ⟨w.2.2.2.2.1.1, w.2.2.2.2.1.2.1, w.2.2.2.2.1.2.2.1, hc⟩
  · rw [nset_ne (by decide), nset_ne (by decide), nset_ne (by decide), nset_ne (by decide)]; exact w.2.2.2.2.2
theorem hOk_sc {s : Nat} {x : Int32} (w : hOk K a b l h) (hs : 13 ≤ s) : hOk K a b l (hSc h s x) := by
  refine ⟨w.1, ⟨?_, ?_, ?_⟩, ?_, ?_, ?_, ?_⟩
  · rw [hSc_10' (by omega)]; exact w.2.1.1
  · rw [hSc_10' (by omega)]; exact w.2.1.2.1
  · rw [hSc_10' (by omega)]; exact w.2.1.2.2
  · rw [hSc_f (by decide)]; exact w.2.2.1
  · rw [hSc_f (by decide)]; exact w.2.2.2.1
  · rw [hSc_f (by decide), hSc_f (by decide), hSc_f (by decide), hSc_f (by decide)]; exact w.2.2.2.2.1
  · rw [hSc_f (by decide), hSc_f (by decide), hSc_f (by decide), hSc_f (by decide)]; exact w.2.2.2.2.2
theorem hOk_bind {s cl : Nat} {x : Int32} (w : hOk K a b l h) (hs : s < b) (hc : cl ≤ 255) : hOk K a b l (hBind (jn s) x (jn cl) h) := by
  have w1 := w.1
  obtain ⟨k, _, h2, h3⟩ := w.2.2.2.2.2.2.2.2 s hs
  unfold hBind
  rw [rg_in (by omega) (show s < 7 by omega), h3]
  by_cases e1 : x = 3
  · rw [if_pos e1]
    obtain ⟨j, h4, h5⟩ := jn_and h2 (jn cl ^^^ -1)
    rw [h5]
    exact hOk_set8 w (cBd_put w.2.2.2.2.2.2.2.2 (by omega) h4)
  · rw [if_neg e1]
    by_cases e2 : ¬ x = 1 ∨ rg 7 (h 6) (jn s) = 1
    · rw [if_pos e2]
      obtain ⟨j, h4, h5⟩ := jn_or h2 hc
      rw [h5]
      exact hOk_set8 w (cBd_put w.2.2.2.2.2.2.2.2 (by omega) h4)
    · rw [if_neg e2]
      exact w
theorem hBind_f {x y z : Int32} {f : Nat} (e : f ≠ 8) : hBind x y z h f = h f := by
  unfold hBind
  by_cases h1 : y = 3
  · rw [if_pos h1, nset_ne e]
  · rw [if_neg h1]
    by_cases h2 : ¬ y = 1 ∨ rg 7 (h 6) x = 1
    · rw [if_pos h2, nset_ne e]
    · rw [if_neg h2]
theorem hOk_bindAll {seen : Nat → Int32} (w : hOk K a b l h) : hOk K a b l (hBindAll seen h) := by
  unfold hBindAll
  rw [hOk_B w, hOk_S w]
  refine jfor_inv (P := hOk K a b l) l 0 h (fun p g _ hp wg => ?_) w
  have w1 := wg.1
  unfold hBA2
  obtain ⟨s, hs, e1⟩ := wg.2.2.1.1 p (by omega)
  obtain ⟨c, _, h2, h3⟩ := wg.2.2.2.2.1.2.2.1 s hs
  obtain ⟨j, h4, h5⟩ := clb_255 h2
  rw [rg_in (by omega) (show p < 7 by omega), e1, rg_in (by omega) (show s < 7 by omega), rg_in (by omega) (show s < 7 by omega), h3, h5]
  refine jfor_inv (P := hOk K a b l) b 0 g (fun q g2 _ hq wg2 => ?_) wg
  unfold hBA1
  by_cases e2 : rg 7 seen (jn q) >>> (jn p &&& 31) &&& 1 = 0
  · rw [if_pos e2]; exact wg2
  · rw [if_neg e2]; exact hOk_bind wg2 (by omega) h4
theorem hOk_tire1 {p : Nat} (w : hOk K a b l h) (hp : p < l) : hOk (K + 1) a b l (hTire1 p h) := by
  have w1 := w.1
  obtain ⟨s, hs, e1⟩ := w.2.2.1.1 p hp
  obtain ⟨c, _, h2, h3⟩ := w.2.2.2.2.1.2.2.2 s hs
  unfold hTire1
  rw [rg_in (by omega) (show p < 7 by omega), e1, rg_in (by omega) (show s < 7 by omega), h3, jn_1]
  exact hOk_set3 w (cBd_put (fun i hi => by obtain ⟨k, h1, h2, h3⟩ := w.2.2.2.2.1.2.2.2 i hi; exact ⟨k, h1, by omega, h3⟩) (by omega) (by omega))
theorem hOk_tireL : ∀ (m k K : Nat) (h : Nat → Nat → Int32), hOk K a b l h → k + m ≤ l → hOk (K + m) a b l (jfor hTire1 m k h)
  | 0, _, _, _, w, _ => w
  | m + 1, k, K, h, w, hk => by
    have := hOk_tireL m (k + 1) (K + 1) (hTire1 k h) (hOk_tire1 w (by omega)) (by omega)
    rw [show K + 1 + m = K + (m + 1) by omega] at this
    exact this
theorem hOk_tire (w : hOk K a b l h) : hOk (K + 7) a b l (hTire h) := by
  unfold hTire
  rw [hOk_B w]
  exact hOk_K (hOk_tireL l 0 K h w (by omega)) (by have := w.1; omega)
theorem hOk_settle {nv : Nat → Nat → Int32} (w : hOk K a b l h) : hOk (K + 7) a b l (hSettle nv h) := by
  unfold hSettle
  apply hOk_tire
  unfold hSettle3 hSettle2
  apply hOk_sc _ (by omega)
  apply hOk_sc _ (by omega)
  unfold hSettle1
  by_cases e : nCarry h nv
  · rw [if_pos e]
    exact hOk_sc (hOk_bindAll w) (by omega)
  · rw [if_neg e]
    exact w
end JS1
abbrev hCanOpen (h : Nat → Nat → Int32) : Prop := 0 < h 10 12 ∧ hClq h ≤ h 10 13
def dS (h : Nat → Nat → Int32) (x : Int32) : Int32 := x / 8 % h 10 10
def dH (h : Nat → Nat → Int32) (x : Int32) : Int32 := x / 8 % h 10 11
def dG (h : Nat → Nat → Int32) (x : Int32) : Int32 := x / 64 % h 10 11
def cDraw (h : Nat → Nat → Int32) (x : Int32) : Nat → Nat → Int32 :=
  if (x % 8).toInt = 0 ∨ (x % 8).toInt = 1 then (if hBilled h (dS h x) then h else hMount h (dS h x) (hB h))
  else if (x % 8).toInt = 2 then (if hBilled h (dS h x) then hStrike h (dS h x) else h)
  else if (x % 8).toInt = 3 then (if dH h x = dG h x then h else hTrade h (dH h x) (dG h x))
  else if (x % 8).toInt = 4 then (if hCanEng h (dH h x) then hEng h (dH h x) else h)
  else (if hCanOpen h then hSettle (nUnfold h 0) h else h)
theorem jn_div {a b : Nat} (ha : a < 2147483648) (hb : b < 2147483648) : jn a / jn b = jn (a / b) := by
  apply Int32.toInt_inj.mp
  rw [jn_int (Nat.lt_of_le_of_lt (Nat.div_le_self a b) ha), Int32.toInt_div, jn_int ha, jn_int hb]
  rw [Int.tdiv_eq_ediv_of_nonneg (by omega), ← Int.natCast_ediv]
  have hq := Nat.div_le_self a b
  generalize a / b = q at hq
  exact Int.bmod_eq_of_le (by omega) (by omega)
theorem jn_mod {a b : Nat} (ha : a < 2147483648) (hb : b < 2147483648) : jn a % jn b = jn (a % b) := by
  apply Int32.toInt_inj.mp
  rw [jn_int (Nat.lt_of_le_of_lt (Nat.mod_le a b) ha), Int32.toInt_mod, jn_int ha, jn_int hb]
  rw [Int.tmod_eq_emod_of_nonneg (by omega), ← Int.natCast_emod]
section JS2
variable {K a b l : Nat} {h : Nat → Nat → Int32} {r : Nat}
theorem dS_of (w : hOk K a b l h) (hr : r < 2147483648) : dS h (jn r) = jn (r / 8 % a) := by
  have w1 := w.1
  unfold dS
  rw [w.2.1.1, show (8 : Int32) = jn 8 from rfl, jn_div hr (by omega), jn_mod (by have := Nat.div_le_self r 8; omega) (by omega)]
theorem dH_of (w : hOk K a b l h) (hr : r < 2147483648) : dH h (jn r) = jn (r / 8 % b) := by
  have w1 := w.1
  unfold dH
  rw [w.2.1.2.1, show (8 : Int32) = jn 8 from rfl, jn_div hr (by omega), jn_mod (by have := Nat.div_le_self r 8; omega) (by omega)]
theorem dG_of (w : hOk K a b l h) (hr : r < 2147483648) : dG h (jn r) = jn (r / 64 % b) := by
  have w1 := w.1
  unfold dG
  rw [w.2.1.2.1, show (64 : Int32) = jn 64 from rfl, jn_div hr (by omega), jn_mod (by have := Nat.div_le_self r 64; omega) (by omega)]
theorem hOk_draw (w : hOk K a b l h) (hr : r < 2147483648) : ∃ l', hOk (K + 7) a b l' (cDraw h (jn r)) := by
  have w1 := w.1
  unfold cDraw
  by_cases h0 : (jn r % 8).toInt = 0 ∨ (jn r % 8).toInt = 1
  · rw [if_pos h0]
    by_cases e : hBilled h (dS h (jn r))
    · rw [if_pos e]; exact ⟨l, hOk_K w (by omega)⟩
    · rw [if_neg e, hOk_B w]
      rw [dS_of w hr] at e ⊢
      exact ⟨l + 1, hOk_K (hOk_mount w (Nat.mod_lt _ (by omega)) (by omega) e) (by omega)⟩
  · rw [if_neg h0]
    by_cases h2 : (jn r % 8).toInt = 2
    · rw [if_pos h2]
      by_cases e : hBilled h (dS h (jn r))
      · rw [if_pos e]; exact ⟨l - 1, hOk_K (hOk_strike w e) (by omega)⟩
      · rw [if_neg e]; exact ⟨l, hOk_K w (by omega)⟩
    · rw [if_neg h2]
      by_cases h3 : (jn r % 8).toInt = 3
      · rw [if_pos h3]
        by_cases e : dH h (jn r) = dG h (jn r)
        · rw [if_pos e]; exact ⟨l, hOk_K w (by omega)⟩
        · rw [if_neg e, dH_of w hr, dG_of w hr]
          exact ⟨l, hOk_K (hOk_trade w (Nat.mod_lt _ (by omega)) (Nat.mod_lt _ (by omega))) (by omega)⟩
      · rw [if_neg h3]
        by_cases h4 : (jn r % 8).toInt = 4
        · rw [if_pos h4]
          by_cases e : hCanEng h (dH h (jn r))
          · rw [if_pos e]; exact ⟨l, hOk_K (hOk_eng w) (by omega)⟩
          · rw [if_neg e]; exact ⟨l, hOk_K w (by omega)⟩
        · rw [if_neg h4]
          by_cases e : hCanOpen h
          · rw [if_pos e]; exact ⟨l, hOk_settle w⟩
          · rw [if_neg e]; exact ⟨l, hOk_K w (by omega)⟩
end JS2
def drX (z k : Int32) : Int64 := 7919 * z.toInt64 + 6151 * k.toInt64 + 1
def drw (z k : Int32) : Int32 := (drX z k * drX z k % 65521).toInt32
theorem jn_64 {k : Nat} (h : k < 2147483648) : (jn k).toInt64.toInt = (k : Int) := by
  rw [Int32.toInt_toInt64, jn_int h]
theorem drw_ok {z k : Nat} (hz : z ≤ 9999) (hk : k ≤ 40) : ∃ r, r < 65521 ∧ drw (jn z) (jn k) = jn r := by
  have h1 : (drX (jn z) (jn k)).toInt = 7919 * (z : Int) + 6151 * (k : Int) + 1 := by
    unfold drX
    rw [Int64.toInt_add, Int64.toInt_add, Int64.toInt_mul, Int64.toInt_mul, jn_64 (by omega), jn_64 (by omega)]
    rw [show (7919 : Int64).toInt = 7919 from rfl, show (6151 : Int64).toInt = 6151 from rfl, show (1 : Int64).toInt = 1 from rfl]
    rw [Int.bmod_eq_of_le (n := 7919 * (z : Int)) (by omega) (by omega), Int.bmod_eq_of_le (n := 6151 * (k : Int)) (by omega) (by omega), Int.bmod_eq_of_le (n := 7919 * (z : Int) + 6151 * (k : Int)) (by omega) (by omega), Int.bmod_eq_of_le (by omega) (by omega)]
  have h2 : (drX (jn z) (jn k) * drX (jn z) (jn k)).toInt = (7919 * (z : Int) + 6151 * (k : Int) + 1) * (7919 * (z : Int) + 6151 * (k : Int) + 1) := by
    rw [Int64.toInt_mul, h1]
    have h3 : (0 : Int) ≤ 7919 * (z : Int) + 6151 * (k : Int) + 1 := by omega
    have h4 : 7919 * (z : Int) + 6151 * (k : Int) + 1 ≤ 80000000 := by omega
    generalize 7919 * (z : Int) + 6151 * (k : Int) + 1 = y at h3 h4
    have h5 : y * y ≤ 80000000 * 80000000 := Int.mul_le_mul h4 h4 h3 (by omega)
    have h6 : 0 ≤ y * y := Int.mul_nonneg h3 h3
    exact Int.bmod_eq_of_le (by omega) (by omega)
  have h3 : (0 : Int) ≤ (7919 * (z : Int) + 6151 * (k : Int) + 1) * (7919 * (z : Int) + 6151 * (k : Int) + 1) := Int.mul_nonneg (by omega) (by omega)
  have h4 : (drX (jn z) (jn k) * drX (jn z) (jn k) % 65521).toInt = (7919 * (z : Int) + 6151 * (k : Int) + 1) * (7919 * (z : Int) + 6151 * (k : Int) + 1) % 65521 := by
    rw [Int64.toInt_mod, h2, show (65521 : Int64).toInt = 65521 from rfl, Int.tmod_eq_emod_of_nonneg h3]
  generalize (7919 * (z : Int) + 6151 * (k : Int) + 1) * (7919 * (z : Int) + 6151 * (k : Int) + 1) = y at h3 h4
  have h5 := Int.emod_nonneg y (show (65521 : Int) ≠ 0 by decide)
  have h6 := Int.emod_lt_of_pos y (show (0 : Int) < 65521 by decide)
  refine ⟨(y % 65521).toNat, by omega, ?_⟩
  apply Int32.toInt_inj.mp
  rw [jn_int (by omega)]
  unfold drw
  rw [Int64.toInt_toInt32, h4, Int.bmod_eq_of_le (by omega) (by omega)]
  omega
def csRun (z : Int32) : Nat → Nat → (Nat → Nat → Int32) → (Nat → Nat → Int32) := fun f k h => jfor (fun k h => cDraw h (drw z (jn k))) f k h
theorem hBindAll_N (M : jM) (q : Nat) (nv g : Nat → Nat → Int32) : hBindAll (gN (sN M q nv) q 3) g = hBindAll (nv 3) g := by
  have e1 : ∀ p kd cl, hBA1 (sN M q nv 12 (19, q)) p kd cl = hBA1 (nv 3) p kd cl := fun p kd cl => by
    funext k h
    unfold hBA1
    rw [sN_g3]
  rw [gN_3]
  unfold hBindAll
  congr 1
  funext k h
  unfold hBA2
  rw [e1]
theorem hSettle_N (M : jM) (q : Nat) (nv h : Nat → Nat → Int32) : hSettle (gN (sN M q nv) q) h = hSettle nv h := by
  unfold hSettle hSettle1 hSettle2
  simp only [nCarry_N, hBindAll_N, show gN (sN M q nv) q 5 0 = nv 5 0 from sN_gone M q nv]
section JS3
variable {d n i q K a b l r : Nat} {v : Option jV} {σ' : jS} {M : jM} {x y z : Int32} {h nv : Nat → Nat → Int32}
/-- Chances.takeDraw -/
theorem c6 (w : hOk K a b l h) (hr : r < 2147483648) : ∃ nv', ∀ (v : Option jV) (σ' : jS), jE (d + 4) 6 0 [some (.inr (.inr (some (0, (0, 0))))), some (.inl (jn r)), none, none, none] [] (n, ([], sH (sN M 11 nv) 15 h)) v σ' ↔ v = none ∧ σ' = (n, ([], sH (sN M 11 nv') 15 (cDraw h (jn r)))) := by
  have w1 := w.1
  have e8 : ∀ x : Int32, (¬ (8 : Int32) = 0 ∧ x = x) = True := fun x => by simp
  have e10 : h 10 10 < 1 ↔ False := by
    rw [w.2.1.1]
    exact ⟨fun z => by have := (jn_lt (k := a) (l := 1) (by omega) (by omega)).mp z; omega, False.elim⟩
  have e11 : 1 ≤ h 10 11 ↔ True := by
    rw [w.2.1.2.1]
    exact ⟨fun _ => trivial, fun _ => (jn_le (k := 1) (by omega) (by omega)).mpr (by omega)⟩
  have n10 : ¬ h 10 10 = 0 := by
    rw [w.2.1.1]
    exact fun z => by have := jn_inj (a := a) (b := 0) (by omega) (by omega) z; omega
  have n11 : ¬ h 10 11 = 0 := by
    rw [w.2.1.2.1]
    exact fun z => by have := jn_inj (a := b) (b := 0) (by omega) (by omega) z; omega
  have head : ∀ (v : Option jV) (σ' : jS), jE (d + 4) 6 0 [some (.inr (.inr (some (0, (0, 0))))), some (.inl (jn r)), none, none, none] [] (n, ([], sH (sN M 11 nv) 15 h)) v σ' ↔ jE (d + 4) 6 67 [some (.inr (.inr (some (0, (0, 0))))), some (.inl (jn r)), some (.inl (dS h (jn r))), some (.inl (dH h (jn r))), some (.inl (dG h (jn r)))] [.inl (jn r % 8)] (n, ([], sH (sN M 11 nv) 15 h)) v σ' := by
    intro v σ'
    have e8 : (¬ (8 : Int32) = 0) = True := by simp
    have e64 : (¬ (64 : Int32) = 0) = True := by simp
    simp only [s6_0, s6_1, s6_4, s6_7, s6_8, s6_11, s6_12, s6_15, s6_18, s6_19, s6_23, s6_24, s6_26, s6_27, s6_28, s6_31, s6_34, s6_35, s6_36, s6_37, s6_39, s6_40, s6_41, s6_44, s6_47, s6_48, s6_49, s6_50, s6_52, s6_53, s6_54, s6_57, s6_60, s6_61, s6_63, s6_64, s6_66, sH_g0, sH_g1, sH_g2, sH_g3, sH_g4, sH_g5, sH_g6, sH_g7, sH_g8, sH_g9, sH_p0, sH_p1, sH_p2, sH_p3, sH_p4, sH_p5, sH_p6, sH_p7, sH_p8, sH_p9, sH_s10, sH_s11, sH_s12, sH_s13, sH_s14, sH_s15, sH_u10, sH_u11, sH_u12, sH_u13, sH_u14, sH_u15, e10, e11, n10, n11, e8, e64, if_false, if_true, not_false_eq_true, true_and]
    rfl
  have hm : ¬ hBilled h (dS h (jn r)) → ∀ (v : Option jV) (σ' : jS), jE (d + 3) 17 0 [some (.inr (.inr (some (1, (0, 15))))), some (.inl (dS h (jn r))), some (.inl (h 10 12))] [] (n, ([], sH (sN M 11 nv) 15 h)) v σ' ↔ v = none ∧ σ' = (n, ([], sH (sN M 11 nv) 15 (hMount h (dS h (jn r)) (hB h)))) := by
    intro e v σ'
    rw [hOk_B w, w.2.1.2.2]
    have e2 := e
    rw [dS_of w hr] at e2
    exact b17 (d := d + 1) w.2.1.2.2 (by have := hOk_room w (Nat.mod_lt _ (by omega)) e2; omega) (Nat.le_refl l)
  have hs : hBilled h (dS h (jn r)) → ∀ (v : Option jV) (σ' : jS), jE (d + 3) 18 0 [some (.inr (.inr (some (1, (0, 15))))), some (.inl (dS h (jn r)))] [] (n, ([], sH (sN M 11 nv) 15 h)) v σ' ↔ v = none ∧ σ' = (n, ([], sH (sN M 11 nv) 15 (hStrike h (dS h (jn r))))) := fun e v σ' => b18 (d := d) w.2.1.2.2 (by omega) e
  by_cases h0 : (jn r % 8).toInt = 0 ∨ (jn r % 8).toInt = 1
  · refine ⟨nv, fun v σ' => ?_⟩
    rw [head, s6_67]
    have hh : ∀ (X Y : Prop), (if (jn r % 8).toInt = 0 then X else if (jn r % 8).toInt = 1 then X else Y) ↔ X := by
      intro X Y
      by_cases h00 : (jn r % 8).toInt = 0
      · rw [if_pos h00]
      · rw [if_neg h00, if_pos (h0.resolve_left h00)]
    rw [hh]
    unfold cDraw
    rw [if_pos h0]
    by_cases e : hBilled h (dS h (jn r))
    · rw [if_pos e]
      simp only [s6_100, s6_101, s6_104, s6_105, s6_108, b16, jcall_eq, Option.toList_some, Option.toList_none, List.cons_append, List.nil_append, jb_0]
      rw [if_pos (fun z => z e), s6_228]
    · rw [if_neg e]
      have hm2 := hm e
      simp only [s6_100, s6_101, s6_104, s6_105, s6_108, s6_111, s6_112, s6_115, s6_116, s6_117, s6_120, s6_123, s6_126, b16, hm2, jcall_eq, Option.toList_some, Option.toList_none, List.cons_append, List.nil_append, sH_g0, sH_g1, sH_g2, sH_g3, sH_g4, sH_g5, sH_g6, sH_g7, sH_g8, sH_g9, sH_p0, sH_p1, sH_p2, sH_p3, sH_p4, sH_p5, sH_p6, sH_p7, sH_p8, sH_p9, sH_s10, sH_s11, sH_s12, sH_s13, sH_s14, sH_s15, sH_u10, sH_u11, sH_u12, sH_u13, sH_u14, sH_u15, jb_0]
      rw [if_neg (fun z => z e), s6_228]
  · by_cases h2 : (jn r % 8).toInt = 2
    · refine ⟨nv, fun v σ' => ?_⟩
      rw [head, s6_67]
      unfold cDraw
      rw [if_neg (fun z => h0 (Or.inl z)), if_neg (fun z => h0 (Or.inr z)), if_pos h2, if_neg h0, if_pos h2]
      by_cases e : hBilled h (dS h (jn r))
      · rw [if_pos e]
        have hs2 := hs e
        simp only [s6_129, s6_130, s6_133, s6_134, s6_137, s6_140, s6_141, s6_144, s6_145, s6_148, b16, hs2, jcall_eq, Option.toList_some, Option.toList_none, List.cons_append, List.nil_append, sH_g0, sH_g1, sH_g2, sH_g3, sH_g4, sH_g5, sH_g6, sH_g7, sH_g8, sH_g9, sH_p0, sH_p1, sH_p2, sH_p3, sH_p4, sH_p5, sH_p6, sH_p7, sH_p8, sH_p9, sH_s10, sH_s11, sH_s12, sH_s13, sH_s14, sH_s15, sH_u10, sH_u11, sH_u12, sH_u13, sH_u14, sH_u15, jb_0]
        rw [if_neg (fun z => z e), s6_228]
      · rw [if_neg e]
        simp only [s6_129, s6_130, s6_133, s6_134, s6_137, b16, jcall_eq, Option.toList_some, Option.toList_none, List.cons_append, List.nil_append, sH_g0, sH_g1, sH_g2, sH_g3, sH_g4, sH_g5, sH_g6, sH_g7, sH_g8, sH_g9, sH_p0, sH_p1, sH_p2, sH_p3, sH_p4, sH_p5, sH_p6, sH_p7, sH_p8, sH_p9, sH_s10, sH_s11, sH_s12, sH_s13, sH_s14, sH_s15, sH_u10, sH_u11, sH_u12, sH_u13, sH_u14, sH_u15, jb_0]
        rw [if_pos e, s6_228]
    · by_cases h3 : (jn r % 8).toInt = 3
      · refine ⟨nv, fun v σ' => ?_⟩
        rw [head, s6_67]
        unfold cDraw
        rw [if_neg (fun z => h0 (Or.inl z)), if_neg (fun z => h0 (Or.inr z)), if_neg h2, if_pos h3, if_neg h0, if_neg h2, if_pos h3]
        simp only [s6_151, s6_152, s6_154, s6_157, s6_158, s6_161, s6_162, s6_164, s6_167, s6_228, b19, jcall_eq, Option.toList_some, Option.toList_none, List.cons_append, List.nil_append, sH_g0, sH_g1, sH_g2, sH_g3, sH_g4, sH_g5, sH_g6, sH_g7, sH_g8, sH_g9, sH_p0, sH_p1, sH_p2, sH_p3, sH_p4, sH_p5, sH_p6, sH_p7, sH_p8, sH_p9, sH_s10, sH_s11, sH_s12, sH_s13, sH_s14, sH_s15, sH_u10, sH_u11, sH_u12, sH_u13, sH_u14, sH_u15]
        by_cases e : dH h (jn r) = dG h (jn r)
        · rw [if_pos e, if_pos e]
        · rw [if_neg e, if_neg e]
      · by_cases h4 : (jn r % 8).toInt = 4
        · refine ⟨nv, fun v σ' => ?_⟩
          rw [head, s6_67]
          unfold cDraw
          rw [if_neg (fun z => h0 (Or.inl z)), if_neg (fun z => h0 (Or.inr z)), if_neg h2, if_neg h3, if_pos h4, if_neg h0, if_neg h2, if_neg h3, if_pos h4]
          simp only [s6_170, s6_171, s6_174, s6_175, s6_178, s6_181, s6_182, s6_185, s6_186, s6_189, s6_228, b20, b21, jcall_eq, Option.toList_some, Option.toList_none, List.cons_append, List.nil_append, sH_g0, sH_g1, sH_g2, sH_g3, sH_g4, sH_g5, sH_g6, sH_g7, sH_g8, sH_g9, sH_p0, sH_p1, sH_p2, sH_p3, sH_p4, sH_p5, sH_p6, sH_p7, sH_p8, sH_p9, sH_s10, sH_s11, sH_s12, sH_s13, sH_s14, sH_s15, sH_u10, sH_u11, sH_u12, sH_u13, sH_u14, sH_u15, jb_0]
          by_cases e : hCanEng h (dH h (jn r))
          · rw [if_pos e, if_neg (fun z => z e)]
          · rw [if_neg e, if_pos e]
        · by_cases e : hCanOpen h
          · refine ⟨nUnfold h 0, fun v σ' => ?_⟩
            rw [head, s6_67]
            unfold cDraw
            rw [if_neg (fun z => h0 (Or.inl z)), if_neg (fun z => h0 (Or.inr z)), if_neg h2, if_neg h3, if_neg h4, if_neg h0, if_neg h2, if_neg h3, if_neg h4, if_pos e]
            simp only [s6_192, s6_193, s6_196, s6_199, s6_202, s6_205, s6_206, s6_209, s6_210, s6_213, s6_214, s6_217, s6_218, s6_221, s6_222, s6_225, s6_228, c25, c41, c26, jcall_eq, Option.toList_some, Option.toList_none, List.cons_append, List.nil_append, sH_g0, sH_g1, sH_g2, sH_g3, sH_g4, sH_g5, sH_g6, sH_g7, sH_g8, sH_g9, sH_p0, sH_p1, sH_p2, sH_p3, sH_p4, sH_p5, sH_p6, sH_p7, sH_p8, sH_p9, sH_s10, sH_s11, sH_s12, sH_s13, sH_s14, sH_s15, sH_u10, sH_u11, sH_u12, sH_u13, sH_u14, sH_u15, jb_0, sT_comm, sN_sN, nUnfold_T, hSettle_N]
            rw [if_pos (fun z => z e)]
          · refine ⟨nv, fun v σ' => ?_⟩
            rw [head, s6_67]
            unfold cDraw
            rw [if_neg (fun z => h0 (Or.inl z)), if_neg (fun z => h0 (Or.inr z)), if_neg h2, if_neg h3, if_neg h4, if_neg h0, if_neg h2, if_neg h3, if_neg h4, if_neg e]
            simp only [s6_192, s6_193, s6_196, s6_199, s6_202, s6_228, c25, jcall_eq, Option.toList_some, Option.toList_none, List.cons_append, List.nil_append, sH_g0, sH_g1, sH_g2, sH_g3, sH_g4, sH_g5, sH_g6, sH_g7, sH_g8, sH_g9, sH_p0, sH_p1, sH_p2, sH_p3, sH_p4, sH_p5, sH_p6, sH_p7, sH_p8, sH_p9, sH_s10, sH_s11, sH_s12, sH_s13, sH_s14, sH_s15, sH_u10, sH_u11, sH_u12, sH_u13, sH_u14, sH_u15, jb_0]
            rw [if_neg (fun z => z e)]
theorem c5_loop {m : Nat} {z : Nat} (hz : z ≤ 9999) (hm : m ≤ 40) : ∀ (f k : Nat) (l K : Nat) (h nv : Nat → Nat → Int32) (a5 a6 : Option jV), k + f = m → hOk K a b l h → ∃ nv', jE (d + 5) 5 11 [some (.inr (.inr (some (0, (0, 0))))), some (.inr (.inr (some (1, (0, 1))))), some (.inl (jn z)), some (.inl (jn m)), some (.inl (jn k)), a5, a6] [] (n, ([], sH (sN M 11 nv) 15 h)) none (n, ([], sH (sN M 11 nv') 15 (csRun (jn z) f k h))) := by
  intro f
  induction f with
  | zero =>
    intro k l K h nv a5 a6 hk w
    refine ⟨nv, ?_⟩
    rw [s5_11, s5_13, s5_14, if_pos ((jn_le (by omega) (by omega)).mpr (by omega)), s5_55]
    exact ⟨rfl, rfl⟩
  | succ f ih =>
    intro k l K h nv a5 a6 hk w
    obtain ⟨r, hr, er⟩ := drw_ok hz (show k ≤ 40 by omega)
    obtain ⟨nv1, e1⟩ := c6 (d := d) (n := n) (M := M) (nv := nv) w (show r < 2147483648 by omega)
    obtain ⟨l', w'⟩ := hOk_draw w (show r < 2147483648 by omega)
    rw [← er] at e1 w'
    obtain ⟨nv', e⟩ := ih (k + 1) l' (K + 7) (cDraw h (drw (jn z) (jn k))) nv1 (some (.inr (.inl (drX (jn z) (jn k))))) none (by omega) w'
    refine ⟨nv', ?_⟩
    rw [s5_11, s5_13, s5_14, if_neg (fun z => absurd ((jn_le (by omega) (by omega)).mp z) (by omega))]
    have en : ¬ (65521 : Int64) = 0 := by decide
    simp only [s5_17, s5_20, s5_21, s5_22, s5_23, s5_26, s5_28, s5_29, s5_30, s5_31, s5_32, s5_33, s5_35, s5_36, s5_38, s5_40, s5_41, s5_44, s5_45, s5_46, s5_49]
    refine ⟨en, ?_⟩
    refine ⟨none, _, (e1 none _).mpr ⟨rfl, rfl⟩, ?_⟩
    simp only [Option.toList_none, List.nil_append, s5_49]
    rw [s5_52, jn_1]
    exact e
/-- Chances.playSeason -/
theorem c5 {m z : Nat} (hz : z ≤ 9999) (hm : m ≤ 40) (w : hOk K a b l (gH M 1)) : ∃ nv', jE (d + 5) 5 0 [some (.inr (.inr (some (0, (0, 0))))), some (.inr (.inr (some (1, (0, 1))))), some (.inl (jn z)), some (.inl (jn m)), none, none, none] [] (n, ([], M)) none (n, ([], sH (sN M 11 nv') 15 (csRun (jn z) m 0 (gH M 1)))) := by
  obtain ⟨nv', e⟩ := c5_loop (d := d) (n := n) (M := M) hz hm m 0 l K (gH M 1) (gN M 11) none none (by omega) w
  refine ⟨nv', ?_⟩
  rw [sN_self] at e
  simp only [s5_0, s5_1, s5_4, s5_5, s5_8, s5_9, c9 (show (1 : Nat) ≠ 15 by decide), jcall_eq, Option.toList_some, Option.toList_none, List.cons_append, List.nil_append]
  exact e
end JS3
