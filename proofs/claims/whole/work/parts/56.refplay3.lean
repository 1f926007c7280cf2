/-! the reference: playOn -/
theorem if_c {α : Type} {c : Prop} [Decidable c] {x : α} : (if c then x else x) = x := by
  by_cases h : c
  · rw [if_pos h]
  · rw [if_neg h]
section JRR
variable {d n K a b l f : Nat} {v : Option jV} {σ' : jS} {M : jM} {x y z : Int32} {h g nv : jH} {c : Nat → Int32}
theorem hSettle_10 (s : Nat) : hSettle nv h 10 s = if s = 14 then h 10 14 + 1 else if s = 13 then jmin 999 (h 10 13 - hClq h + (h 10 11 - hClq h - nv 5 0)) else if s = 15 ∧ nCarry h nv then h 10 15 + 1 else h 10 s := by
  unfold hSettle
  rw [hTire_f (by decide)]
  unfold hSettle3
  have e1 : ∀ t, hSettle1 nv h 10 t = if t = 15 ∧ nCarry h nv then h 10 15 + 1 else h 10 t := by
    intro t
    unfold hSettle1
    by_cases c : nCarry h nv
    · rw [if_pos c, hBindAll_f (by decide)]
      by_cases et : t = 15
      · rw [et, hSc_10, if_pos ⟨rfl, c⟩]
      · rw [hSc_10' et, if_neg (fun z => et z.1), hBindAll_f (by decide)]
    · rw [if_neg c, if_neg (fun z => c z.2)]
  have e5 : hSettle1 nv h 5 = h 5 := by
    unfold hSettle1
    by_cases c : nCarry h nv
    · rw [if_pos c, hSc_f (by decide), hBindAll_f (by decide)]
    · rw [if_neg c]
  have e2 : ∀ t, hSettle2 nv (hSettle1 nv h) 10 t = if t = 13 then jmin 999 (h 10 13 - hClq h + (h 10 11 - hClq h - nv 5 0)) else if t = 15 ∧ nCarry h nv then h 10 15 + 1 else h 10 t := by
    intro t
    unfold hSettle2
    rw [e1, e1, hClq_E e5 (by rw [e1, if_neg (fun z => absurd z.1 (by decide))]), if_neg (fun z => absurd z.1 (by decide)), if_neg (fun z => absurd z.1 (by decide))]
    by_cases et : t = 13
    · rw [et, hSc_10, if_pos rfl]
    · rw [hSc_10' et, if_neg et, e1]
  by_cases et : s = 14
  · rw [et, hSc_10, if_pos rfl, e2, if_neg (by decide), if_neg (fun z => absurd z.1 (by decide))]
  · rw [hSc_10' et, if_neg et, e2]
theorem hSettle_row {r : Nat} (h3 : r ≠ 3) (h10 : r ≠ 10) : hSettle nv h r = if nCarry h nv then hBindAll (nv 3) h r else h r := by
  unfold hSettle
  rw [hTire_f h3]
  unfold hSettle3 hSettle2
  rw [hSc_f h10, hSc_f h10]
  unfold hSettle1
  by_cases c : nCarry h nv
  · rw [if_pos c, if_pos c, hSc_f h10]
  · rw [if_neg c, if_neg c]
theorem hSettle_3 : hSettle nv h 3 = tireR (h 4) (hB h) 0 (h 3) := by
  unfold hSettle
  rw [hTire_3]
  unfold hB hSettle3 hSettle2
  rw [hSc_f (by decide), hSc_f (by decide), hSc_10' (by decide), hSc_10' (by decide), hSc_f (by decide), hSc_f (by decide)]
  unfold hSettle1
  by_cases c : nCarry h nv
  · rw [if_pos c, hSc_f (by decide), hSc_10' (by decide), hSc_f (by decide), hBindAll_f (by decide), hBindAll_f (by decide), hBindAll_f (by decide)]
  · rw [if_neg c]
set_option maxHeartbeats 1000000 in
/-- playOn -/
theorem r158 (w : rO K a b l f M h) (hK : K ≤ 1000000) (hl : 0 < l) (hy : M 11 (0, 0) 25 = 0) : ∃ c' g, rD a b l c' (hSettle (nUnfold h 0) h) ∧ ∀ (v : Option jV) (σ' : jS), jE (d + 5) 158 0 [some (.inr (.inr (some (11, (0, 0))))), some (.inr (.inr (some (12, (f, 0))))), none, none, none] [] (n, ([], M)) v σ' ↔ v = some (.inl (jb (hPass h))) ∧ σ' = (n, ([], sG (mC M (f, 0) c') g)) := by
  have w1 := w.1.1
  have hf := w.2.2.2
  have hL := rO_len w
  obtain ⟨hr, hn⟩ := same_go (y := 0) w.1 hK
  have hS3 : ∀ s, s < b → mGo h b l 0 3 s = nUnfold h 0 3 s := fun s hs => (hr s hs).2.2.2
  obtain ⟨g, hg, e1⟩ := r155 (d := d) (n := n) w hK hy
  have hg := hg hl
  subst hg
  obtain ⟨cb, rb, eb⟩ := r156 (d := d + 4) (n := n) (g := mGo h b l 0) (M := M) w.2.1 w.1 hf w.2.2.1 hS3
  rw [mC_self] at eb
  -- what binding leaves
  have hh1 : ∃ (h1 : jH) (c1 : Nat → Int32), rD a b l c1 h1 ∧ (∀ r, r ≠ 8 → h1 r = h r) ∧ h1 8 = (if hPass h then hBindAll (nUnfold h 0 3) h 8 else h 8) ∧ ∀ (v : Option jV) (σ' : jS), jE (d + 5) 158 0 [some (.inr (.inr (some (11, (0, 0))))), some (.inr (.inr (some (12, (f, 0))))), none, none, none] [] (n, ([], M)) v σ' ↔ jE (d + 5) 158 15 [some (.inr (.inr (some (11, (0, 0))))), some (.inr (.inr (some (12, (f, 0))))), some (.inl (jb (hPass h))), none, none] [] (n, ([], sG (mC M (f, 0) c1) (mGo h b l 0))) v σ' := by
    by_cases c : hPass h
    · refine ⟨hBindAll (nUnfold h 0 3) h, cb, rb, fun r hr => hBindAll_f hr, (if_pos c).symm, fun v σ' => ?_⟩
      simp only [s158_0, s158_1, s158_2, s158_5, s158_6, s158_7, s158_10, s158_11, s158_12, e1, eb, jcall_eq, Option.toList_some, Option.toList_none, List.cons_append, List.nil_append, jb_0]
      rw [if_neg (fun z => z c)]
    · refine ⟨h, M 12 (f, 0), w.2.2.1, fun r _ => rfl, (if_neg c).symm, fun v σ' => ?_⟩
      simp only [s158_0, s158_1, s158_2, s158_5, s158_6, s158_7, e1, jcall_eq, Option.toList_some, Option.toList_none, List.cons_append, List.nil_append, jb_0]
      rw [if_pos c, mC_self]
  obtain ⟨h1, c1, r1, f1, f8, e2⟩ := hh1
  have w2 : hOk K a b l h1 := by
    by_cases c : hPass h
    · have e : h1 = hBindAll (nUnfold h 0 3) h := by
        funext r
        by_cases er : r = 8
        · rw [er, f8, if_pos c]
        · rw [f1 r er, hBindAll_f er]
      rw [e]
      exact hOk_bindAll w.1
    · have e : h1 = h := by
        funext r
        by_cases er : r = 8
        · rw [er, f8, if_neg c]
        · rw [f1 r er]
      rw [e]
      exact w.1
  have s1 : rS a b M h1 := rS_rows w.2.1 (f1 0 (by decide)) (f1 1 (by decide)) (f1 2 (by decide)) (f1 6 (by decide)) (f1 7 (by decide))
  have o1 : rO K a b l f (sG (mC M (f, 0) c1) (mGo h b l 0)) h1 := rO_sG _ (rO_mC hf w2 s1 r1)
  have hc5 : ∀ s, s < b → c1 (11 + s) = h 5 s := fun s hs => ((r1.2.2.1 s hs).1).trans (by rw [f1 5 (by decide)])
  have q1 : hClq h1 = hClq h := hClq_E (f1 5 (by decide)) (by rw [f1 10 (by decide)])
  -- the till
  have ht := same_till w.1 hK (h 10 13)
  generalize hT : h 10 13 - hClq h + (h 10 11 - hClq h - nUnfold h 0 5 0) = T at ht
  have r2 : rD a b l (upd c1 8 (jmin 999 T)) (hSc h1 13 (jmin 999 T)) := rD_sc (s := 13) (by omega) r1 (by omega) (by omega)
  have rS2 : rS a b M h := w.2.1
  have eB : hB (hSc h1 13 (jmin 999 T)) = l := by
    unfold hB
    rw [hSc_10' (by decide), f1 10 (by decide)]
    exact hOk_B w.1
  have r3 := same_tire w.1 r2 (by rw [hSc_f (by decide), f1 4 (by decide)]) eB
  generalize hc3 : jfor (mT1 h) l 0 (upd c1 8 (jmin 999 T)) = c3 at r3
  have r4 := rD_sc (s := 14) (x := c3 9 + 1) (by omega) r3 (by omega) (by omega)
  have r5 := rD_sc (s := 15) (x := c3 10 + jb (hPass h)) (by omega) r4 (by omega) (by omega)
  refine ⟨upd (upd c3 9 (c3 9 + 1)) 10 (c3 10 + jb (hPass h)), mGo h b l 0, ?_, fun v σ' => ?_⟩
  · have c9 : c3 9 = h 10 14 := by rw [r3.2.1.2.2.1, hTire_f (by decide), hSc_10' (by decide), f1 10 (by decide)]
    have c10 : c3 10 = h 10 15 := by rw [r3.2.1.2.2.2, hTire_f (by decide), hSc_10' (by decide), f1 10 (by decide)]
    refine rD_E r5 (fun i hi => ?_) (fun s hs1 hs2 => ?_) (fun s hs => ⟨?_, ?_, ?_⟩) (fun s hs => ?_)
    · rw [hSettle_row (by decide) (by decide), hSc_f (by decide), hSc_f (by decide), hTire_f (by decide), hSc_f (by decide), f1 4 (by decide), hBindAll_f (by decide), if_c]
    · rw [hSettle_10]
      rcases (show s = 12 ∨ s = 13 ∨ s = 14 ∨ s = 15 by omega) with rfl | rfl | rfl | rfl
      · rw [if_neg (by decide), if_neg (by decide), if_neg (fun z => absurd z.1 (by decide)), hSc_10' (by decide), hSc_10' (by decide), hTire_f (by decide), hSc_10' (by decide), f1 10 (by decide)]
      · rw [if_neg (by decide), if_pos rfl, hSc_10' (by decide), hSc_10' (by decide), hTire_f (by decide), hSc_10, hT]
      · rw [if_pos rfl, hSc_10' (by decide), hSc_10, c9]
      · rw [if_neg (by decide), if_neg (by decide), hSc_10, c10]
        by_cases c : hPass h
        · rw [if_pos ⟨rfl, c⟩, jb_t c]
        · rw [if_neg (fun z => c z.2), jb_f c, Int32.add_zero]
    · rw [hSettle_row (by decide) (by decide), hSc_f (by decide), hSc_f (by decide), hTire_f (by decide), hSc_f (by decide), f1 5 (by decide), hBindAll_f (by decide), if_c]
    · rw [hSettle_row (by decide) (by decide), hSc_f (by decide), hSc_f (by decide), hTire_f (by decide), hSc_f (by decide), f1 9 (by decide), hBindAll_f (by decide), if_c]
    · rw [hSettle_row (by decide) (by decide), hSc_f (by decide), hSc_f (by decide), hTire_f (by decide), hSc_f (by decide), f8]
    · rw [hSettle_3, hSc_f (by decide), hSc_f (by decide), hTire_3, eB, hSc_f (by decide), hSc_f (by decide), f1 3 (by decide), f1 4 (by decide), hOk_B w.1]
  · rw [e2]
    have hr1 := sG_r (mC M (f, 0) c1) (mGo h b l 0) (f := f) (by omega)
    simp (disch := omega) only [s158_15, s158_16, s158_18, s158_19, s158_20, s158_21, s158_24, s158_25, s158_26, s158_27, hL, hr1, mC_at, jk8, ji8 (show 8 < 39 by decide), r148 o1, jcall_eq, Option.toList_some, Option.toList_none, List.cons_append, List.nil_append, q1, r1.2.1.2.1, f1 10 (by decide)]
    have t1 := r158_till (d := d + 5) (n := n) (v := v) (σ' := σ') (x := h 10 13 - hClq h) (g := mGo h b l 0) (a2 := some (.inl (jb (hPass h)))) w.2.1 w.1 hf hc5 b 0 0 (by omega) rfl
    rw [ht] at t1
    rw [show h 10 13 - hClq h + jn 0 = h 10 13 - hClq h from Int32.add_zero _] at t1
    refine t1.trans ?_
    have up : ∀ (c : Nat → Int32) (i : Nat) (x : Int32), mC (sG (mC M (f, 0) c) (mGo h b l 0)) (f, 0) (upd c i x) = sG (mC M (f, 0) (upd c i x)) (mGo h b l 0) := fun c i x => by rw [mC_sG hf, mC_mC]
    have e94 : (if T ≤ 999 then jE (d + 5) 158 94 [some (.inr (.inr (some (11, (0, 0))))), some (.inr (.inr (some (12, (f, 0))))), some (.inl (jb (hPass h))), some (.inl T), some (.inl (jn b))] [.inl T, .inl 8, .inr (.inr (some (12, (f, 0))))] (n, ([], sG (mC M (f, 0) c1) (mGo h b l 0))) v σ' else jE (d + 5) 158 94 [some (.inr (.inr (some (11, (0, 0))))), some (.inr (.inr (some (12, (f, 0))))), some (.inl (jb (hPass h))), some (.inl T), some (.inl (jn b))] [.inl 999, .inl 8, .inr (.inr (some (12, (f, 0))))] (n, ([], sG (mC M (f, 0) c1) (mGo h b l 0))) v σ') ↔ jE (d + 5) 158 94 [some (.inr (.inr (some (11, (0, 0))))), some (.inr (.inr (some (12, (f, 0))))), some (.inl (jb (hPass h))), some (.inl T), some (.inl (jn b))] [.inl (jmin 999 T), .inl 8, .inr (.inr (some (12, (f, 0))))] (n, ([], sG (mC M (f, 0) c1) (mGo h b l 0))) v σ' := by
      unfold jmin
      by_cases c : T ≤ 999
      · rw [if_pos c]
        by_cases c2 : T < 999
        · rw [if_pos c2]
        · rw [if_neg c2, show T = 999 from Int32.le_antisymm c (Int32.not_lt.mp c2)]
      · rw [if_neg c, if_neg (fun z => c (Int32.le_of_lt z))]
    simp only [s158_77, s158_78, s158_80, s158_81, s158_84, s158_87, s158_90, s158_93]
    refine e94.trans ?_
    simp (disch := omega) only [s158_94, s158_95, s158_96, hL, jk8, ji8 (show 8 < 39 by decide), mC_up, hr1, mC_at, up]
    refine (r158_tire (d := d + 5) (n := n) (v := v) (σ' := σ') (M := M) (g := mGo h b l 0) w.1 hf l 0 (upd c1 8 (jmin 999 T)) (by omega) ?_ (fun i hi => ?_)).trans ?_
    · exact (if_neg (by omega)).trans (r1.2.1.1.trans (by rw [f1 10 (by decide)]; exact w.1.2.1.2.2))
    · exact (if_neg (by omega)).trans ((r1.1 i hi).trans (by rw [f1 4 (by decide)]))
    rw [hc3]
    have hr3 := fun c => sG_r (mC M (f, 0) c) (mGo h b l 0) (f := f) (by omega)
    have u10 : upd c3 9 (c3 9 + 1) 10 = c3 10 := if_neg (by decide)
    simp (disch := omega) only [s158_128, s158_129, s158_131, s158_132, s158_133, s158_134, s158_135, s158_136, s158_137, s158_139, s158_140, s158_141, s158_142, s158_145, s158_146, s158_149, s158_150, s158_151, s158_152, s158_153, hL, hr3, mC_at, jk9, jk10, ji9 (show 9 < 39 by decide), ji10 (show 10 < 39 by decide), mC_up, up, jb_0, u10]
    by_cases c : hPass h
    · rw [if_neg (fun z => z c), jb_t c]
      exact ⟨fun z => z.2, fun z => ⟨Or.inr rfl, z⟩⟩
    · rw [if_pos c, jb_f c]
      exact ⟨fun z => z.2, fun z => ⟨Or.inl c, z⟩⟩
end JRR
