/-! the law: a script of calls -/
theorem jcl_of {d m pc : Nat} {al : jL} {st : List jV} {σ s0 : jS} {v0 : Option jV} {Q : Option jV → jS → Prop} (j : jE d m pc al st σ v0 s0) : (∃ (v1 : Option jV) (s1 : jS), jE d m pc al st σ v1 s1 ∧ Q v1 s1) ↔ Q v0 s0 := by
  constructor
  · rintro ⟨v1, s1, h, q⟩
    obtain ⟨rfl, rfl⟩ := jE_det h j
    exact q
  · intro q
    exact ⟨v0, s0, j, q⟩
theorem jnP2 (k : Nat) : jn k + 2 = jn (k + 2) := jn_add k 2
theorem jnP3 (k : Nat) : jn k + 3 = jn (k + 3) := jn_add k 3
theorem jnP4 (k : Nat) : jn k + 4 = jn (k + 4) := jn_add k 4
section JLAW
variable {d n K T L k : Nat} {M : jM}
theorem law_write (S : StI K T M) (hK : K ≤ 900000) (hT : T ≤ 900000) (hL : jSL M = jn L) (h1 : k + 4 ≤ L) (h2 : L ≤ 256) : ∃ M2, StI (K + 7) (T + 1) M2 ∧ s17 M M2 ∧ ∀ (v : Option jV) (σ' : jS), jE (d + 20 + 1) 198 160 [some (.inr (.inr (some (17, (0, 0))))), some (.inr (.inr (some (10, (0, 0))))), some (.inr (.inr (some (11, (0, 0))))), some (.inl (jn k))] [] (n, ([], M)) v σ' ↔ jE (d + 20 + 1) 198 807 [some (.inr (.inr (some (17, (0, 0))))), some (.inr (.inr (some (10, (0, 0))))), some (.inr (.inr (some (11, (0, 0))))), some (.inl (jn (k + 4)))] [] (n, ([], M2)) v σ' := by
  obtain ⟨M1, M2, w, j1, j2, S2, q1, q2⟩ := (ok_write S : okC d n K T M 90 124 (lw [.inl (M 17 (0, 0) (k + 1))]) (lm [.inl (M 17 (0, 0) (k + 1))]))
  refine ⟨M2, S2, q2, fun v σ' => ?_⟩
  have hL1 : jSL M1 = jn L := (q1 _ _).trans hL
  have q1' : ∀ i, M1 17 (0, 0) i = M 17 (0, 0) i := fun i => q1 _ _
  simp only [lw, lm, List.map_cons, List.map_nil, List.cons_append, List.nil_append] at j1 j2
  simp (disch := omega) only [s198_160, s198_161, s198_162, s198_163, s198_164, s198_165, s198_166, hL, jn_1, jnP2, jnP3, jiz, jcl]
  rw [jcl_of j1]
  simp (disch := omega) only [s198_169, s198_170, s198_171, s198_172, s198_173, s198_174, s198_175, Option.toList_some, List.cons_append, List.nil_append, hL1, q1', jn_1, jnP2, jnP3, jiz, jcl]
  rw [jcl_of j2]
  simp only [s198_178, Option.toList_some, List.cons_append, List.nil_append]
  rw [if_pos trivial, s198_804, jnP4]
theorem law_wipe (S : StI K T M) (hK : K ≤ 900000) (hT : T ≤ 900000) (hL : jSL M = jn L) (h1 : k + 4 ≤ L) (h2 : L ≤ 256) : ∃ M2, StI (K + 7) (T + 1) M2 ∧ s17 M M2 ∧ ∀ (v : Option jV) (σ' : jS), jE (d + 20 + 1) 198 183 [some (.inr (.inr (some (17, (0, 0))))), some (.inr (.inr (some (10, (0, 0))))), some (.inr (.inr (some (11, (0, 0))))), some (.inl (jn k))] [] (n, ([], M)) v σ' ↔ jE (d + 20 + 1) 198 807 [some (.inr (.inr (some (17, (0, 0))))), some (.inr (.inr (some (10, (0, 0))))), some (.inr (.inr (some (11, (0, 0))))), some (.inl (jn (k + 4)))] [] (n, ([], M2)) v σ' := by
  obtain ⟨M1, M2, w, j1, j2, S2, q1, q2⟩ := (ok_wipe S : okC d n K T M 91 125 (lw [] ++ [none]) (lm [] ++ [none]))
  refine ⟨M2, S2, q2, fun v σ' => ?_⟩
  have hL1 : jSL M1 = jn L := (q1 _ _).trans hL
  have q1' : ∀ i, M1 17 (0, 0) i = M 17 (0, 0) i := fun i => q1 _ _
  simp only [lw, lm, List.map_cons, List.map_nil, List.cons_append, List.nil_append] at j1 j2
  simp (disch := omega) only [s198_183, s198_184, hL, jn_1, jnP2, jnP3, jiz, jcl]
  rw [jcl_of j1]
  simp (disch := omega) only [s198_187, s198_188, Option.toList_some, List.cons_append, List.nil_append, hL1, q1', jn_1, jnP2, jnP3, jiz, jcl]
  rw [jcl_of j2]
  simp only [s198_191, Option.toList_some, List.cons_append, List.nil_append]
  rw [if_pos trivial, s198_804, jnP4]
theorem law_fault (S : StI K T M) (hK : K ≤ 900000) (hT : T ≤ 900000) (hL : jSL M = jn L) (h1 : k + 4 ≤ L) (h2 : L ≤ 256) : ∃ M2, StI (K + 7) (T + 1) M2 ∧ s17 M M2 ∧ ∀ (v : Option jV) (σ' : jS), jE (d + 20 + 1) 198 196 [some (.inr (.inr (some (17, (0, 0))))), some (.inr (.inr (some (10, (0, 0))))), some (.inr (.inr (some (11, (0, 0))))), some (.inl (jn k))] [] (n, ([], M)) v σ' ↔ jE (d + 20 + 1) 198 807 [some (.inr (.inr (some (17, (0, 0))))), some (.inr (.inr (some (10, (0, 0))))), some (.inr (.inr (some (11, (0, 0))))), some (.inl (jn (k + 4)))] [] (n, ([], M2)) v σ' := by
  obtain ⟨M1, M2, w, j1, j2, S2, q1, q2⟩ := (ok_fault S : okC d n K T M 92 135 (lw []) (lm []))
  refine ⟨M2, S2, q2, fun v σ' => ?_⟩
  have hL1 : jSL M1 = jn L := (q1 _ _).trans hL
  have q1' : ∀ i, M1 17 (0, 0) i = M 17 (0, 0) i := fun i => q1 _ _
  simp only [lw, lm, List.map_cons, List.map_nil, List.cons_append, List.nil_append] at j1 j2
  simp (disch := omega) only [s198_196, s198_197, hL, jn_1, jnP2, jnP3, jiz, jcl]
  rw [jcl_of j1]
  simp (disch := omega) only [s198_200, s198_201, Option.toList_some, List.cons_append, List.nil_append, hL1, q1', jn_1, jnP2, jnP3, jiz, jcl]
  rw [jcl_of j2]
  simp only [s198_204, Option.toList_some, List.cons_append, List.nil_append]
  rw [if_pos trivial, s198_804, jnP4]
theorem law_lay (S : StI K T M) (hK : K ≤ 900000) (hT : T ≤ 900000) (hL : jSL M = jn L) (h1 : k + 4 ≤ L) (h2 : L ≤ 256) : ∃ M2, StI (K + 7) (T + 1) M2 ∧ s17 M M2 ∧ ∀ (v : Option jV) (σ' : jS), jE (d + 20 + 1) 198 209 [some (.inr (.inr (some (17, (0, 0))))), some (.inr (.inr (some (10, (0, 0))))), some (.inr (.inr (some (11, (0, 0))))), some (.inl (jn k))] [] (n, ([], M)) v σ' ↔ jE (d + 20 + 1) 198 807 [some (.inr (.inr (some (17, (0, 0))))), some (.inr (.inr (some (10, (0, 0))))), some (.inr (.inr (some (11, (0, 0))))), some (.inl (jn (k + 4)))] [] (n, ([], M2)) v σ' := by
  obtain ⟨M1, M2, w, j1, j2, S2, q1, q2⟩ := (ok_lay S : okC d n K T M 93 141 (lw []) (lm []))
  refine ⟨M2, S2, q2, fun v σ' => ?_⟩
  have hL1 : jSL M1 = jn L := (q1 _ _).trans hL
  have q1' : ∀ i, M1 17 (0, 0) i = M 17 (0, 0) i := fun i => q1 _ _
  simp only [lw, lm, List.map_cons, List.map_nil, List.cons_append, List.nil_append] at j1 j2
  simp (disch := omega) only [s198_209, s198_210, hL, jn_1, jnP2, jnP3, jiz, jcl]
  rw [jcl_of j1]
  simp (disch := omega) only [s198_213, s198_214, Option.toList_some, List.cons_append, List.nil_append, hL1, q1', jn_1, jnP2, jnP3, jiz, jcl]
  rw [jcl_of j2]
  simp only [s198_217, Option.toList_some, List.cons_append, List.nil_append]
  rw [if_pos trivial, s198_804, jnP4]
theorem law_scene (S : StI K T M) (hK : K ≤ 900000) (hT : T ≤ 900000) (hL : jSL M = jn L) (h1 : k + 4 ≤ L) (h2 : L ≤ 256) : ∃ M2, StI (K + 7) (T + 1) M2 ∧ s17 M M2 ∧ ∀ (v : Option jV) (σ' : jS), jE (d + 20 + 1) 198 222 [some (.inr (.inr (some (17, (0, 0))))), some (.inr (.inr (some (10, (0, 0))))), some (.inr (.inr (some (11, (0, 0))))), some (.inl (jn k))] [] (n, ([], M)) v σ' ↔ jE (d + 20 + 1) 198 807 [some (.inr (.inr (some (17, (0, 0))))), some (.inr (.inr (some (10, (0, 0))))), some (.inr (.inr (some (11, (0, 0))))), some (.inl (jn (k + 4)))] [] (n, ([], M2)) v σ' := by
  obtain ⟨M1, M2, w, j1, j2, S2, q1, q2⟩ := (ok_scene S : okC d n K T M 94 159 (lw [.inl (M 17 (0, 0) (k + 1)), .inl (M 17 (0, 0) (k + 2))]) (lm [.inl (M 17 (0, 0) (k + 1)), .inl (M 17 (0, 0) (k + 2))]))
  refine ⟨M2, S2, q2, fun v σ' => ?_⟩
  have hL1 : jSL M1 = jn L := (q1 _ _).trans hL
  have q1' : ∀ i, M1 17 (0, 0) i = M 17 (0, 0) i := fun i => q1 _ _
  simp only [lw, lm, List.map_cons, List.map_nil, List.cons_append, List.nil_append] at j1 j2
  simp (disch := omega) only [s198_222, s198_223, s198_224, s198_225, s198_226, s198_227, s198_228, s198_229, s198_230, s198_231, s198_232, s198_233, hL, jn_1, jnP2, jnP3, jiz, jcl]
  rw [jcl_of j1]
  simp (disch := omega) only [s198_236, s198_237, s198_238, s198_239, s198_240, s198_241, s198_242, s198_243, s198_244, s198_245, s198_246, s198_247, Option.toList_some, List.cons_append, List.nil_append, hL1, q1', jn_1, jnP2, jnP3, jiz, jcl]
  rw [jcl_of j2]
  simp only [s198_250, Option.toList_some, List.cons_append, List.nil_append]
  rw [if_pos trivial, s198_804, jnP4]
theorem law_seat (S : StI K T M) (hK : K ≤ 900000) (hT : T ≤ 900000) (hL : jSL M = jn L) (h1 : k + 4 ≤ L) (h2 : L ≤ 256) : ∃ M2, StI (K + 7) (T + 1) M2 ∧ s17 M M2 ∧ ∀ (v : Option jV) (σ' : jS), jE (d + 20 + 1) 198 255 [some (.inr (.inr (some (17, (0, 0))))), some (.inr (.inr (some (10, (0, 0))))), some (.inr (.inr (some (11, (0, 0))))), some (.inl (jn k))] [] (n, ([], M)) v σ' ↔ jE (d + 20 + 1) 198 807 [some (.inr (.inr (some (17, (0, 0))))), some (.inr (.inr (some (10, (0, 0))))), some (.inr (.inr (some (11, (0, 0))))), some (.inl (jn (k + 4)))] [] (n, ([], M2)) v σ' := by
  obtain ⟨M1, M2, w, j1, j2, S2, q1, q2⟩ := (ok_seat S : okC d n K T M 95 160 (lw [.inl (M 17 (0, 0) (k + 1)), .inl (M 17 (0, 0) (k + 2))]) (lm [.inl (M 17 (0, 0) (k + 1)), .inl (M 17 (0, 0) (k + 2))]))
  refine ⟨M2, S2, q2, fun v σ' => ?_⟩
  have hL1 : jSL M1 = jn L := (q1 _ _).trans hL
  have q1' : ∀ i, M1 17 (0, 0) i = M 17 (0, 0) i := fun i => q1 _ _
  simp only [lw, lm, List.map_cons, List.map_nil, List.cons_append, List.nil_append] at j1 j2
  simp (disch := omega) only [s198_255, s198_256, s198_257, s198_258, s198_259, s198_260, s198_261, s198_262, s198_263, s198_264, s198_265, s198_266, hL, jn_1, jnP2, jnP3, jiz, jcl]
  rw [jcl_of j1]
  simp (disch := omega) only [s198_269, s198_270, s198_271, s198_272, s198_273, s198_274, s198_275, s198_276, s198_277, s198_278, s198_279, s198_280, Option.toList_some, List.cons_append, List.nil_append, hL1, q1', jn_1, jnP2, jnP3, jiz, jcl]
  rw [jcl_of j2]
  simp only [s198_283, Option.toList_some, List.cons_append, List.nil_append]
  rw [if_pos trivial, s198_804, jnP4]
theorem law_tonight (S : StI K T M) (hK : K ≤ 900000) (hT : T ≤ 900000) (hL : jSL M = jn L) (h1 : k + 4 ≤ L) (h2 : L ≤ 256) : ∃ M2, StI (K + 7) (T + 1) M2 ∧ s17 M M2 ∧ ∀ (v : Option jV) (σ' : jS), jE (d + 20 + 1) 198 288 [some (.inr (.inr (some (17, (0, 0))))), some (.inr (.inr (some (10, (0, 0))))), some (.inr (.inr (some (11, (0, 0))))), some (.inl (jn k))] [] (n, ([], M)) v σ' ↔ jE (d + 20 + 1) 198 807 [some (.inr (.inr (some (17, (0, 0))))), some (.inr (.inr (some (10, (0, 0))))), some (.inr (.inr (some (11, (0, 0))))), some (.inl (jn (k + 4)))] [] (n, ([], M2)) v σ' := by
  obtain ⟨M1, M2, w, j1, j2, S2, q1, q2⟩ := (ok_tonight S (by omega) : okC d n K T M 96 161 (lw [.inl (M 17 (0, 0) (k + 1)), .inl (M 17 (0, 0) (k + 2))]) (lm [.inl (M 17 (0, 0) (k + 1)), .inl (M 17 (0, 0) (k + 2))]))
  refine ⟨M2, S2, q2, fun v σ' => ?_⟩
  have hL1 : jSL M1 = jn L := (q1 _ _).trans hL
  have q1' : ∀ i, M1 17 (0, 0) i = M 17 (0, 0) i := fun i => q1 _ _
  simp only [lw, lm, List.map_cons, List.map_nil, List.cons_append, List.nil_append] at j1 j2
  simp (disch := omega) only [s198_288, s198_289, s198_290, s198_291, s198_292, s198_293, s198_294, s198_295, s198_296, s198_297, s198_298, s198_299, hL, jn_1, jnP2, jnP3, jiz, jcl]
  rw [jcl_of j1]
  simp (disch := omega) only [s198_302, s198_303, s198_304, s198_305, s198_306, s198_307, s198_308, s198_309, s198_310, s198_311, s198_312, s198_313, Option.toList_some, List.cons_append, List.nil_append, hL1, q1', jn_1, jnP2, jnP3, jiz, jcl]
  rw [jcl_of j2]
  simp only [s198_316, Option.toList_some, List.cons_append, List.nil_append]
  rw [if_pos trivial, s198_804, jnP4]
theorem law_passes (S : StI K T M) (hK : K ≤ 900000) (hT : T ≤ 900000) (hL : jSL M = jn L) (h1 : k + 4 ≤ L) (h2 : L ≤ 256) : ∃ M2, StI (K + 7) (T + 1) M2 ∧ s17 M M2 ∧ ∀ (v : Option jV) (σ' : jS), jE (d + 20 + 1) 198 321 [some (.inr (.inr (some (17, (0, 0))))), some (.inr (.inr (some (10, (0, 0))))), some (.inr (.inr (some (11, (0, 0))))), some (.inl (jn k))] [] (n, ([], M)) v σ' ↔ jE (d + 20 + 1) 198 807 [some (.inr (.inr (some (17, (0, 0))))), some (.inr (.inr (some (10, (0, 0))))), some (.inr (.inr (some (11, (0, 0))))), some (.inl (jn (k + 4)))] [] (n, ([], M2)) v σ' := by
  obtain ⟨M1, M2, w, j1, j2, S2, q1, q2⟩ := (ok_passes S (by omega) : okC d n K T M 97 162 (lw [.inl (M 17 (0, 0) (k + 1))]) (lm [.inl (M 17 (0, 0) (k + 1))]))
  refine ⟨M2, S2, q2, fun v σ' => ?_⟩
  have hL1 : jSL M1 = jn L := (q1 _ _).trans hL
  have q1' : ∀ i, M1 17 (0, 0) i = M 17 (0, 0) i := fun i => q1 _ _
  simp only [lw, lm, List.map_cons, List.map_nil, List.cons_append, List.nil_append] at j1 j2
  simp (disch := omega) only [s198_321, s198_322, s198_323, s198_324, s198_325, s198_326, s198_327, hL, jn_1, jnP2, jnP3, jiz, jcl]
  rw [jcl_of j1]
  simp (disch := omega) only [s198_330, s198_331, s198_332, s198_333, s198_334, s198_335, s198_336, Option.toList_some, List.cons_append, List.nil_append, hL1, q1', jn_1, jnP2, jnP3, jiz, jcl]
  rw [jcl_of j2]
  simp only [s198_339, Option.toList_some, List.cons_append, List.nil_append]
  rw [if_pos trivial, s198_804, jnP4]
theorem law_add (S : StI K T M) (hK : K ≤ 900000) (hT : T ≤ 900000) (hL : jSL M = jn L) (h1 : k + 4 ≤ L) (h2 : L ≤ 256) : ∃ M2, StI (K + 7) (T + 1) M2 ∧ s17 M M2 ∧ ∀ (v : Option jV) (σ' : jS), jE (d + 20 + 1) 198 344 [some (.inr (.inr (some (17, (0, 0))))), some (.inr (.inr (some (10, (0, 0))))), some (.inr (.inr (some (11, (0, 0))))), some (.inl (jn k))] [] (n, ([], M)) v σ' ↔ jE (d + 20 + 1) 198 807 [some (.inr (.inr (some (17, (0, 0))))), some (.inr (.inr (some (10, (0, 0))))), some (.inr (.inr (some (11, (0, 0))))), some (.inl (jn (k + 4)))] [] (n, ([], M2)) v σ' := by
  obtain ⟨M1, M2, w, j1, j2, S2, q1, q2⟩ := (ok_add S : okC d n K T M 98 169 (lw [.inl (M 17 (0, 0) (k + 1))]) (lm [.inl (M 17 (0, 0) (k + 1))]))
  refine ⟨M2, S2, q2, fun v σ' => ?_⟩
  have hL1 : jSL M1 = jn L := (q1 _ _).trans hL
  have q1' : ∀ i, M1 17 (0, 0) i = M 17 (0, 0) i := fun i => q1 _ _
  simp only [lw, lm, List.map_cons, List.map_nil, List.cons_append, List.nil_append] at j1 j2
  simp (disch := omega) only [s198_344, s198_345, s198_346, s198_347, s198_348, s198_349, s198_350, hL, jn_1, jnP2, jnP3, jiz, jcl]
  rw [jcl_of j1]
  simp (disch := omega) only [s198_353, s198_354, s198_355, s198_356, s198_357, s198_358, s198_359, Option.toList_some, List.cons_append, List.nil_append, hL1, q1', jn_1, jnP2, jnP3, jiz, jcl]
  rw [jcl_of j2]
  simp only [s198_362, Option.toList_some, List.cons_append, List.nil_append]
  rw [if_pos trivial, s198_804, jnP4]
theorem law_cut (S : StI K T M) (hK : K ≤ 900000) (hT : T ≤ 900000) (hL : jSL M = jn L) (h1 : k + 4 ≤ L) (h2 : L ≤ 256) : ∃ M2, StI (K + 7) (T + 1) M2 ∧ s17 M M2 ∧ ∀ (v : Option jV) (σ' : jS), jE (d + 20 + 1) 198 367 [some (.inr (.inr (some (17, (0, 0))))), some (.inr (.inr (some (10, (0, 0))))), some (.inr (.inr (some (11, (0, 0))))), some (.inl (jn k))] [] (n, ([], M)) v σ' ↔ jE (d + 20 + 1) 198 807 [some (.inr (.inr (some (17, (0, 0))))), some (.inr (.inr (some (10, (0, 0))))), some (.inr (.inr (some (11, (0, 0))))), some (.inl (jn (k + 4)))] [] (n, ([], M2)) v σ' := by
  obtain ⟨M1, M2, w, j1, j2, S2, q1, q2⟩ := (ok_cut S : okC d n K T M 99 170 (lw [.inl (M 17 (0, 0) (k + 1))]) (lm [.inl (M 17 (0, 0) (k + 1))] ++ [none]))
  refine ⟨M2, S2, q2, fun v σ' => ?_⟩
  have hL1 : jSL M1 = jn L := (q1 _ _).trans hL
  have q1' : ∀ i, M1 17 (0, 0) i = M 17 (0, 0) i := fun i => q1 _ _
  simp only [lw, lm, List.map_cons, List.map_nil, List.cons_append, List.nil_append] at j1 j2
  simp (disch := omega) only [s198_367, s198_368, s198_369, s198_370, s198_371, s198_372, s198_373, hL, jn_1, jnP2, jnP3, jiz, jcl]
  rw [jcl_of j1]
  simp (disch := omega) only [s198_376, s198_377, s198_378, s198_379, s198_380, s198_381, s198_382, Option.toList_some, List.cons_append, List.nil_append, hL1, q1', jn_1, jnP2, jnP3, jiz, jcl]
  rw [jcl_of j2]
  simp only [s198_385, Option.toList_some, List.cons_append, List.nil_append]
  rw [if_pos trivial, s198_804, jnP4]
theorem law_play (S : StI K T M) (hK : K ≤ 900000) (hT : T ≤ 900000) (hL : jSL M = jn L) (h1 : k + 4 ≤ L) (h2 : L ≤ 256) : ∃ M2, StI (K + 7) (T + 1) M2 ∧ s17 M M2 ∧ ∀ (v : Option jV) (σ' : jS), jE (d + 20 + 1) 198 390 [some (.inr (.inr (some (17, (0, 0))))), some (.inr (.inr (some (10, (0, 0))))), some (.inr (.inr (some (11, (0, 0))))), some (.inl (jn k))] [] (n, ([], M)) v σ' ↔ jE (d + 20 + 1) 198 807 [some (.inr (.inr (some (17, (0, 0))))), some (.inr (.inr (some (10, (0, 0))))), some (.inr (.inr (some (11, (0, 0))))), some (.inl (jn (k + 4)))] [] (n, ([], M2)) v σ' := by
  obtain ⟨M1, M2, w, j1, j2, S2, q1, q2⟩ := (ok_play S (by omega) : okC d n K T M 100 171 (lw []) (lm []))
  refine ⟨M2, S2, q2, fun v σ' => ?_⟩
  have hL1 : jSL M1 = jn L := (q1 _ _).trans hL
  have q1' : ∀ i, M1 17 (0, 0) i = M 17 (0, 0) i := fun i => q1 _ _
  simp only [lw, lm, List.map_cons, List.map_nil, List.cons_append, List.nil_append] at j1 j2
  simp (disch := omega) only [s198_390, s198_391, hL, jn_1, jnP2, jnP3, jiz, jcl]
  rw [jcl_of j1]
  simp (disch := omega) only [s198_394, s198_395, Option.toList_some, List.cons_append, List.nil_append, hL1, q1', jn_1, jnP2, jnP3, jiz, jcl]
  rw [jcl_of j2]
  simp only [s198_398, Option.toList_some, List.cons_append, List.nil_append]
  rw [if_pos trivial, s198_804, jnP4]
theorem law_swap (S : StI K T M) (hK : K ≤ 900000) (hT : T ≤ 900000) (hL : jSL M = jn L) (h1 : k + 4 ≤ L) (h2 : L ≤ 256) : ∃ M2, StI (K + 7) (T + 1) M2 ∧ s17 M M2 ∧ ∀ (v : Option jV) (σ' : jS), jE (d + 20 + 1) 198 403 [some (.inr (.inr (some (17, (0, 0))))), some (.inr (.inr (some (10, (0, 0))))), some (.inr (.inr (some (11, (0, 0))))), some (.inl (jn k))] [] (n, ([], M)) v σ' ↔ jE (d + 20 + 1) 198 807 [some (.inr (.inr (some (17, (0, 0))))), some (.inr (.inr (some (10, (0, 0))))), some (.inr (.inr (some (11, (0, 0))))), some (.inl (jn (k + 4)))] [] (n, ([], M2)) v σ' := by
  obtain ⟨M1, M2, w, j1, j2, S2, q1, q2⟩ := (ok_swap S : okC d n K T M 101 172 (lw [.inl (M 17 (0, 0) (k + 1)), .inl (M 17 (0, 0) (k + 2))]) (lm [.inl (M 17 (0, 0) (k + 1)), .inl (M 17 (0, 0) (k + 2))]))
  refine ⟨M2, S2, q2, fun v σ' => ?_⟩
  have hL1 : jSL M1 = jn L := (q1 _ _).trans hL
  have q1' : ∀ i, M1 17 (0, 0) i = M 17 (0, 0) i := fun i => q1 _ _
  simp only [lw, lm, List.map_cons, List.map_nil, List.cons_append, List.nil_append] at j1 j2
  simp (disch := omega) only [s198_403, s198_404, s198_405, s198_406, s198_407, s198_408, s198_409, s198_410, s198_411, s198_412, s198_413, s198_414, hL, jn_1, jnP2, jnP3, jiz, jcl]
  rw [jcl_of j1]
  simp (disch := omega) only [s198_417, s198_418, s198_419, s198_420, s198_421, s198_422, s198_423, s198_424, s198_425, s198_426, s198_427, s198_428, Option.toList_some, List.cons_append, List.nil_append, hL1, q1', jn_1, jnP2, jnP3, jiz, jcl]
  rw [jcl_of j2]
  simp only [s198_431, Option.toList_some, List.cons_append, List.nil_append]
  rw [if_pos trivial, s198_804, jnP4]
theorem law_hire (S : StI K T M) (hK : K ≤ 900000) (hT : T ≤ 900000) (hL : jSL M = jn L) (h1 : k + 4 ≤ L) (h2 : L ≤ 256) : ∃ M2, StI (K + 7) (T + 1) M2 ∧ s17 M M2 ∧ ∀ (v : Option jV) (σ' : jS), jE (d + 20 + 1) 198 436 [some (.inr (.inr (some (17, (0, 0))))), some (.inr (.inr (some (10, (0, 0))))), some (.inr (.inr (some (11, (0, 0))))), some (.inl (jn k))] [] (n, ([], M)) v σ' ↔ jE (d + 20 + 1) 198 807 [some (.inr (.inr (some (17, (0, 0))))), some (.inr (.inr (some (10, (0, 0))))), some (.inr (.inr (some (11, (0, 0))))), some (.inl (jn (k + 4)))] [] (n, ([], M2)) v σ' := by
  obtain ⟨M1, M2, w, j1, j2, S2, q1, q2⟩ := (ok_hire S : okC d n K T M 102 173 (lw [.inl (M 17 (0, 0) (k + 1))]) (lm [.inl (M 17 (0, 0) (k + 1))]))
  refine ⟨M2, S2, q2, fun v σ' => ?_⟩
  have hL1 : jSL M1 = jn L := (q1 _ _).trans hL
  have q1' : ∀ i, M1 17 (0, 0) i = M 17 (0, 0) i := fun i => q1 _ _
  simp only [lw, lm, List.map_cons, List.map_nil, List.cons_append, List.nil_append] at j1 j2
  simp (disch := omega) only [s198_436, s198_437, s198_438, s198_439, s198_440, s198_441, s198_442, hL, jn_1, jnP2, jnP3, jiz, jcl]
  rw [jcl_of j1]
  simp (disch := omega) only [s198_445, s198_446, s198_447, s198_448, s198_449, s198_450, s198_451, Option.toList_some, List.cons_append, List.nil_append, hL1, q1', jn_1, jnP2, jnP3, jiz, jcl]
  rw [jcl_of j2]
  simp only [s198_454, Option.toList_some, List.cons_append, List.nil_append]
  rw [if_pos trivial, s198_804, jnP4]
theorem law_undo (S : StI K T M) (hK : K ≤ 900000) (hT : T ≤ 900000) (hL : jSL M = jn L) (h1 : k + 4 ≤ L) (h2 : L ≤ 256) : ∃ M2, StI (K + 7) (T + 1) M2 ∧ s17 M M2 ∧ ∀ (v : Option jV) (σ' : jS), jE (d + 20 + 1) 198 459 [some (.inr (.inr (some (17, (0, 0))))), some (.inr (.inr (some (10, (0, 0))))), some (.inr (.inr (some (11, (0, 0))))), some (.inl (jn k))] [] (n, ([], M)) v σ' ↔ jE (d + 20 + 1) 198 807 [some (.inr (.inr (some (17, (0, 0))))), some (.inr (.inr (some (10, (0, 0))))), some (.inr (.inr (some (11, (0, 0))))), some (.inl (jn (k + 4)))] [] (n, ([], M2)) v σ' := by
  obtain ⟨M1, M2, w, j1, j2, S2, q1, q2⟩ := (ok_undo S : okC d n K T M 103 174 (lw []) (lm [] ++ [none]))
  refine ⟨M2, S2, q2, fun v σ' => ?_⟩
  have hL1 : jSL M1 = jn L := (q1 _ _).trans hL
  have q1' : ∀ i, M1 17 (0, 0) i = M 17 (0, 0) i := fun i => q1 _ _
  simp only [lw, lm, List.map_cons, List.map_nil, List.cons_append, List.nil_append] at j1 j2
  simp (disch := omega) only [s198_459, s198_460, hL, jn_1, jnP2, jnP3, jiz, jcl]
  rw [jcl_of j1]
  simp (disch := omega) only [s198_463, s198_464, Option.toList_some, List.cons_append, List.nil_append, hL1, q1', jn_1, jnP2, jnP3, jiz, jcl]
  rw [jcl_of j2]
  simp only [s198_467, Option.toList_some, List.cons_append, List.nil_append]
  rw [if_pos trivial, s198_804, jnP4]
theorem law_soonest (S : StI K T M) (hK : K ≤ 900000) (hT : T ≤ 900000) (hL : jSL M = jn L) (h1 : k + 4 ≤ L) (h2 : L ≤ 256) : ∃ M2, StI (K + 7) (T + 1) M2 ∧ s17 M M2 ∧ ∀ (v : Option jV) (σ' : jS), jE (d + 20 + 1) 198 472 [some (.inr (.inr (some (17, (0, 0))))), some (.inr (.inr (some (10, (0, 0))))), some (.inr (.inr (some (11, (0, 0))))), some (.inl (jn k))] [] (n, ([], M)) v σ' ↔ jE (d + 20 + 1) 198 807 [some (.inr (.inr (some (17, (0, 0))))), some (.inr (.inr (some (10, (0, 0))))), some (.inr (.inr (some (11, (0, 0))))), some (.inl (jn (k + 4)))] [] (n, ([], M2)) v σ' := by
  obtain ⟨M1, M2, w, j1, j2, S2, q1, q2⟩ := (ok_soonest S (by omega) (by omega) : okC d n K T M 104 178 (lw [.inl (M 17 (0, 0) (k + 1)), .inl (M 17 (0, 0) (k + 2))]) (lm [.inl (M 17 (0, 0) (k + 1)), .inl (M 17 (0, 0) (k + 2))] ++ [none, none, none, none]))
  refine ⟨M2, S2, q2, fun v σ' => ?_⟩
  have hL1 : jSL M1 = jn L := (q1 _ _).trans hL
  have q1' : ∀ i, M1 17 (0, 0) i = M 17 (0, 0) i := fun i => q1 _ _
  simp only [lw, lm, List.map_cons, List.map_nil, List.cons_append, List.nil_append] at j1 j2
  simp (disch := omega) only [s198_472, s198_473, s198_474, s198_475, s198_476, s198_477, s198_478, s198_479, s198_480, s198_481, s198_482, s198_483, hL, jn_1, jnP2, jnP3, jiz, jcl]
  rw [jcl_of j1]
  simp (disch := omega) only [s198_486, s198_487, s198_488, s198_489, s198_490, s198_491, s198_492, s198_493, s198_494, s198_495, s198_496, s198_497, Option.toList_some, List.cons_append, List.nil_append, hL1, q1', jn_1, jnP2, jnP3, jiz, jcl]
  rw [jcl_of j2]
  simp only [s198_500, Option.toList_some, List.cons_append, List.nil_append]
  rw [if_pos trivial, s198_804, jnP4]
theorem law_seating (S : StI K T M) (hK : K ≤ 900000) (hT : T ≤ 900000) (hL : jSL M = jn L) (h1 : k + 4 ≤ L) (h2 : L ≤ 256) : ∃ M2, StI (K + 7) (T + 1) M2 ∧ s17 M M2 ∧ ∀ (v : Option jV) (σ' : jS), jE (d + 20 + 1) 198 505 [some (.inr (.inr (some (17, (0, 0))))), some (.inr (.inr (some (10, (0, 0))))), some (.inr (.inr (some (11, (0, 0))))), some (.inl (jn k))] [] (n, ([], M)) v σ' ↔ jE (d + 20 + 1) 198 807 [some (.inr (.inr (some (17, (0, 0))))), some (.inr (.inr (some (10, (0, 0))))), some (.inr (.inr (some (11, (0, 0))))), some (.inl (jn (k + 4)))] [] (n, ([], M2)) v σ' := by
  obtain ⟨M1, M2, w, j1, j2, S2, q1, q2⟩ := (ok_seating S (by omega) (by omega) : okC d n K T M 105 180 (lw [.inl (M 17 (0, 0) (k + 1))]) (lm [.inl (M 17 (0, 0) (k + 1))] ++ [none, none, none, none]))
  refine ⟨M2, S2, q2, fun v σ' => ?_⟩
  have hL1 : jSL M1 = jn L := (q1 _ _).trans hL
  have q1' : ∀ i, M1 17 (0, 0) i = M 17 (0, 0) i := fun i => q1 _ _
  simp only [lw, lm, List.map_cons, List.map_nil, List.cons_append, List.nil_append] at j1 j2
  simp (disch := omega) only [s198_505, s198_506, s198_507, s198_508, s198_509, s198_510, s198_511, hL, jn_1, jnP2, jnP3, jiz, jcl]
  rw [jcl_of j1]
  simp (disch := omega) only [s198_514, s198_515, s198_516, s198_517, s198_518, s198_519, s198_520, Option.toList_some, List.cons_append, List.nil_append, hL1, q1', jn_1, jnP2, jnP3, jiz, jcl]
  rw [jcl_of j2]
  simp only [s198_523, Option.toList_some, List.cons_append, List.nil_append]
  rw [if_pos trivial, s198_804, jnP4]
theorem law_claques (S : StI K T M) (hK : K ≤ 900000) (hT : T ≤ 900000) (hL : jSL M = jn L) (h1 : k + 4 ≤ L) (h2 : L ≤ 256) : ∃ M2, StI (K + 7) (T + 1) M2 ∧ s17 M M2 ∧ ∀ (v : Option jV) (σ' : jS), jE (d + 20 + 1) 198 528 [some (.inr (.inr (some (17, (0, 0))))), some (.inr (.inr (some (10, (0, 0))))), some (.inr (.inr (some (11, (0, 0))))), some (.inl (jn k))] [] (n, ([], M)) v σ' ↔ jE (d + 20 + 1) 198 807 [some (.inr (.inr (some (17, (0, 0))))), some (.inr (.inr (some (10, (0, 0))))), some (.inr (.inr (some (11, (0, 0))))), some (.inl (jn (k + 4)))] [] (n, ([], M2)) v σ' := by
  obtain ⟨M1, M2, w, j1, j2, S2, q1, q2⟩ := (ok_claques S (by omega) : okC d n K T M 106 181 (lw [.inl (M 17 (0, 0) (k + 1))] ++ [none]) (lm [.inl (M 17 (0, 0) (k + 1))] ++ [none, none, none]))
  refine ⟨M2, S2, q2, fun v σ' => ?_⟩
  have hL1 : jSL M1 = jn L := (q1 _ _).trans hL
  have q1' : ∀ i, M1 17 (0, 0) i = M 17 (0, 0) i := fun i => q1 _ _
  simp only [lw, lm, List.map_cons, List.map_nil, List.cons_append, List.nil_append] at j1 j2
  simp (disch := omega) only [s198_528, s198_529, s198_530, s198_531, s198_532, s198_533, s198_534, hL, jn_1, jnP2, jnP3, jiz, jcl]
  rw [jcl_of j1]
  simp (disch := omega) only [s198_537, s198_538, s198_539, s198_540, s198_541, s198_542, s198_543, Option.toList_some, List.cons_append, List.nil_append, hL1, q1', jn_1, jnP2, jnP3, jiz, jcl]
  rw [jcl_of j2]
  simp only [s198_546, Option.toList_some, List.cons_append, List.nil_append]
  rw [if_pos trivial, s198_804, jnP4]
theorem law_falls (S : StI K T M) (hK : K ≤ 900000) (hT : T ≤ 900000) (hL : jSL M = jn L) (h1 : k + 4 ≤ L) (h2 : L ≤ 256) : ∃ M2, StI (K + 7) (T + 1) M2 ∧ s17 M M2 ∧ ∀ (v : Option jV) (σ' : jS), jE (d + 20 + 1) 198 551 [some (.inr (.inr (some (17, (0, 0))))), some (.inr (.inr (some (10, (0, 0))))), some (.inr (.inr (some (11, (0, 0))))), some (.inl (jn k))] [] (n, ([], M)) v σ' ↔ jE (d + 20 + 1) 198 807 [some (.inr (.inr (some (17, (0, 0))))), some (.inr (.inr (some (10, (0, 0))))), some (.inr (.inr (some (11, (0, 0))))), some (.inl (jn (k + 4)))] [] (n, ([], M2)) v σ' := by
  obtain ⟨M1, M2, w, j1, j2, S2, q1, q2⟩ := (ok_falls S (by omega) : okC d n K T M 107 182 (lw []) (lm [] ++ [none, none]))
  refine ⟨M2, S2, q2, fun v σ' => ?_⟩
  have hL1 : jSL M1 = jn L := (q1 _ _).trans hL
  have q1' : ∀ i, M1 17 (0, 0) i = M 17 (0, 0) i := fun i => q1 _ _
  simp only [lw, lm, List.map_cons, List.map_nil, List.cons_append, List.nil_append] at j1 j2
  simp (disch := omega) only [s198_551, s198_552, hL, jn_1, jnP2, jnP3, jiz, jcl]
  rw [jcl_of j1]
  simp (disch := omega) only [s198_555, s198_556, Option.toList_some, List.cons_append, List.nil_append, hL1, q1', jn_1, jnP2, jnP3, jiz, jcl]
  rw [jcl_of j2]
  simp only [s198_559, Option.toList_some, List.cons_append, List.nil_append]
  rw [if_pos trivial, s198_804, jnP4]
theorem law_run (S : StI K T M) (hK : K ≤ 900000) (hT : T ≤ 900000) (hL : jSL M = jn L) (h1 : k + 4 ≤ L) (h2 : L ≤ 256) : ∃ M2, StI (K + 7) (T + 1) M2 ∧ s17 M M2 ∧ ∀ (v : Option jV) (σ' : jS), jE (d + 20 + 1) 198 564 [some (.inr (.inr (some (17, (0, 0))))), some (.inr (.inr (some (10, (0, 0))))), some (.inr (.inr (some (11, (0, 0))))), some (.inl (jn k))] [] (n, ([], M)) v σ' ↔ jE (d + 20 + 1) 198 807 [some (.inr (.inr (some (17, (0, 0))))), some (.inr (.inr (some (10, (0, 0))))), some (.inr (.inr (some (11, (0, 0))))), some (.inl (jn (k + 4)))] [] (n, ([], M2)) v σ' := by
  obtain ⟨M1, M2, w, j1, j2, S2, q1, q2⟩ := (ok_run S (by omega) : okC d n K T M 108 183 (lw []) (lm [] ++ [none, none]))
  refine ⟨M2, S2, q2, fun v σ' => ?_⟩
  have hL1 : jSL M1 = jn L := (q1 _ _).trans hL
  have q1' : ∀ i, M1 17 (0, 0) i = M 17 (0, 0) i := fun i => q1 _ _
  simp only [lw, lm, List.map_cons, List.map_nil, List.cons_append, List.nil_append] at j1 j2
  simp (disch := omega) only [s198_564, s198_565, hL, jn_1, jnP2, jnP3, jiz, jcl]
  rw [jcl_of j1]
  simp (disch := omega) only [s198_568, s198_569, Option.toList_some, List.cons_append, List.nil_append, hL1, q1', jn_1, jnP2, jnP3, jiz, jcl]
  rw [jcl_of j2]
  simp only [s198_572, Option.toList_some, List.cons_append, List.nil_append]
  rw [if_pos trivial, s198_804, jnP4]
theorem law_most (S : StI K T M) (hK : K ≤ 900000) (hT : T ≤ 900000) (hL : jSL M = jn L) (h1 : k + 4 ≤ L) (h2 : L ≤ 256) : ∃ M2, StI (K + 7) (T + 1) M2 ∧ s17 M M2 ∧ ∀ (v : Option jV) (σ' : jS), jE (d + 20 + 1) 198 577 [some (.inr (.inr (some (17, (0, 0))))), some (.inr (.inr (some (10, (0, 0))))), some (.inr (.inr (some (11, (0, 0))))), some (.inl (jn k))] [] (n, ([], M)) v σ' ↔ jE (d + 20 + 1) 198 807 [some (.inr (.inr (some (17, (0, 0))))), some (.inr (.inr (some (10, (0, 0))))), some (.inr (.inr (some (11, (0, 0))))), some (.inl (jn (k + 4)))] [] (n, ([], M2)) v σ' := by
  obtain ⟨M1, M2, w, j1, j2, S2, q1, q2⟩ := (ok_most S (by omega) : okC d n K T M 109 184 (lw [.inl (M 17 (0, 0) (k + 1))]) (lm [.inl (M 17 (0, 0) (k + 1))] ++ [none, none, none, none, none]))
  refine ⟨M2, S2, q2, fun v σ' => ?_⟩
  have hL1 : jSL M1 = jn L := (q1 _ _).trans hL
  have q1' : ∀ i, M1 17 (0, 0) i = M 17 (0, 0) i := fun i => q1 _ _
  simp only [lw, lm, List.map_cons, List.map_nil, List.cons_append, List.nil_append] at j1 j2
  simp (disch := omega) only [s198_577, s198_578, s198_579, s198_580, s198_581, s198_582, s198_583, hL, jn_1, jnP2, jnP3, jiz, jcl]
  rw [jcl_of j1]
  simp (disch := omega) only [s198_586, s198_587, s198_588, s198_589, s198_590, s198_591, s198_592, Option.toList_some, List.cons_append, List.nil_append, hL1, q1', jn_1, jnP2, jnP3, jiz, jcl]
  rw [jcl_of j2]
  simp only [s198_595, Option.toList_some, List.cons_append, List.nil_append]
  rw [if_pos trivial, s198_804, jnP4]
theorem law_see (S : StI K T M) (hK : K ≤ 900000) (hT : T ≤ 900000) (hL : jSL M = jn L) (h1 : k + 4 ≤ L) (h2 : L ≤ 256) : ∃ M2, StI (K + 7) (T + 1) M2 ∧ s17 M M2 ∧ ∀ (v : Option jV) (σ' : jS), jE (d + 20 + 1) 198 600 [some (.inr (.inr (some (17, (0, 0))))), some (.inr (.inr (some (10, (0, 0))))), some (.inr (.inr (some (11, (0, 0))))), some (.inl (jn k))] [] (n, ([], M)) v σ' ↔ jE (d + 20 + 1) 198 807 [some (.inr (.inr (some (17, (0, 0))))), some (.inr (.inr (some (10, (0, 0))))), some (.inr (.inr (some (11, (0, 0))))), some (.inl (jn (k + 4)))] [] (n, ([], M2)) v σ' := by
  obtain ⟨M1, M2, w, j1, j2, S2, q1, q2⟩ := (ok_see S : okC d n K T M 110 185 (lw [.inl (M 17 (0, 0) (k + 1)), .inl (M 17 (0, 0) (k + 2))]) (lm [.inl (M 17 (0, 0) (k + 1)), .inl (M 17 (0, 0) (k + 2))]))
  refine ⟨M2, S2, q2, fun v σ' => ?_⟩
  have hL1 : jSL M1 = jn L := (q1 _ _).trans hL
  have q1' : ∀ i, M1 17 (0, 0) i = M 17 (0, 0) i := fun i => q1 _ _
  simp only [lw, lm, List.map_cons, List.map_nil, List.cons_append, List.nil_append] at j1 j2
  simp (disch := omega) only [s198_600, s198_601, s198_602, s198_603, s198_604, s198_605, s198_606, s198_607, s198_608, s198_609, s198_610, s198_611, hL, jn_1, jnP2, jnP3, jiz, jcl]
  rw [jcl_of j1]
  simp (disch := omega) only [s198_614, s198_615, s198_616, s198_617, s198_618, s198_619, s198_620, s198_621, s198_622, s198_623, s198_624, s198_625, Option.toList_some, List.cons_append, List.nil_append, hL1, q1', jn_1, jnP2, jnP3, jiz, jcl]
  rw [jcl_of j2]
  simp only [s198_628, Option.toList_some, List.cons_append, List.nil_append]
  rw [if_pos trivial, s198_804, jnP4]
theorem law_forget (S : StI K T M) (hK : K ≤ 900000) (hT : T ≤ 900000) (hL : jSL M = jn L) (h1 : k + 4 ≤ L) (h2 : L ≤ 256) : ∃ M2, StI (K + 7) (T + 1) M2 ∧ s17 M M2 ∧ ∀ (v : Option jV) (σ' : jS), jE (d + 20 + 1) 198 633 [some (.inr (.inr (some (17, (0, 0))))), some (.inr (.inr (some (10, (0, 0))))), some (.inr (.inr (some (11, (0, 0))))), some (.inl (jn k))] [] (n, ([], M)) v σ' ↔ jE (d + 20 + 1) 198 807 [some (.inr (.inr (some (17, (0, 0))))), some (.inr (.inr (some (10, (0, 0))))), some (.inr (.inr (some (11, (0, 0))))), some (.inl (jn (k + 4)))] [] (n, ([], M2)) v σ' := by
  obtain ⟨M1, M2, w, j1, j2, S2, q1, q2⟩ := (ok_forget S : okC d n K T M 111 186 (lw [] ++ [none]) (lm [] ++ [none]))
  refine ⟨M2, S2, q2, fun v σ' => ?_⟩
  have hL1 : jSL M1 = jn L := (q1 _ _).trans hL
  have q1' : ∀ i, M1 17 (0, 0) i = M 17 (0, 0) i := fun i => q1 _ _
  simp only [lw, lm, List.map_cons, List.map_nil, List.cons_append, List.nil_append] at j1 j2
  simp (disch := omega) only [s198_633, s198_634, hL, jn_1, jnP2, jnP3, jiz, jcl]
  rw [jcl_of j1]
  simp (disch := omega) only [s198_637, s198_638, Option.toList_some, List.cons_append, List.nil_append, hL1, q1', jn_1, jnP2, jnP3, jiz, jcl]
  rw [jcl_of j2]
  simp only [s198_641, Option.toList_some, List.cons_append, List.nil_append]
  rw [if_pos trivial, s198_804, jnP4]
theorem law_fits (S : StI K T M) (hK : K ≤ 900000) (hT : T ≤ 900000) (hL : jSL M = jn L) (h1 : k + 4 ≤ L) (h2 : L ≤ 256) : ∃ M2, StI (K + 7) (T + 1) M2 ∧ s17 M M2 ∧ ∀ (v : Option jV) (σ' : jS), jE (d + 20 + 1) 198 646 [some (.inr (.inr (some (17, (0, 0))))), some (.inr (.inr (some (10, (0, 0))))), some (.inr (.inr (some (11, (0, 0))))), some (.inl (jn k))] [] (n, ([], M)) v σ' ↔ jE (d + 20 + 1) 198 807 [some (.inr (.inr (some (17, (0, 0))))), some (.inr (.inr (some (10, (0, 0))))), some (.inr (.inr (some (11, (0, 0))))), some (.inl (jn (k + 4)))] [] (n, ([], M2)) v σ' := by
  obtain ⟨M1, M2, w, j1, j2, S2, q1, q2⟩ := (ok_fits S (by omega) : okC d n K T M 112 188 (lw [.inl (M 17 (0, 0) (k + 1)), .inl (M 17 (0, 0) (k + 2))]) (lm [.inl (M 17 (0, 0) (k + 1)), .inl (M 17 (0, 0) (k + 2))] ++ [none, none, none, none]))
  refine ⟨M2, S2, q2, fun v σ' => ?_⟩
  have hL1 : jSL M1 = jn L := (q1 _ _).trans hL
  have q1' : ∀ i, M1 17 (0, 0) i = M 17 (0, 0) i := fun i => q1 _ _
  simp only [lw, lm, List.map_cons, List.map_nil, List.cons_append, List.nil_append] at j1 j2
  simp (disch := omega) only [s198_646, s198_647, s198_648, s198_649, s198_650, s198_651, s198_652, s198_653, s198_654, s198_655, s198_656, s198_657, hL, jn_1, jnP2, jnP3, jiz, jcl]
  rw [jcl_of j1]
  simp (disch := omega) only [s198_660, s198_661, s198_662, s198_663, s198_664, s198_665, s198_666, s198_667, s198_668, s198_669, s198_670, s198_671, Option.toList_some, List.cons_append, List.nil_append, hL1, q1', jn_1, jnP2, jnP3, jiz, jcl]
  rw [jcl_of j2]
  simp only [s198_674, Option.toList_some, List.cons_append, List.nil_append]
  rw [if_pos trivial, s198_804, jnP4]
theorem law_coughs (S : StI K T M) (hK : K ≤ 900000) (hT : T ≤ 900000) (hL : jSL M = jn L) (h1 : k + 4 ≤ L) (h2 : L ≤ 256) : ∃ M2, StI (K + 7) (T + 1) M2 ∧ s17 M M2 ∧ ∀ (v : Option jV) (σ' : jS), jE (d + 20 + 1) 198 679 [some (.inr (.inr (some (17, (0, 0))))), some (.inr (.inr (some (10, (0, 0))))), some (.inr (.inr (some (11, (0, 0))))), some (.inl (jn k))] [] (n, ([], M)) v σ' ↔ jE (d + 20 + 1) 198 807 [some (.inr (.inr (some (17, (0, 0))))), some (.inr (.inr (some (10, (0, 0))))), some (.inr (.inr (some (11, (0, 0))))), some (.inl (jn (k + 4)))] [] (n, ([], M2)) v σ' := by
  obtain ⟨M1, M2, w, j1, j2, S2, q1, q2⟩ := (ok_coughs S (by omega) : okC d n K T M 113 189 (lw [.inl (M 17 (0, 0) (k + 1)), .inl (M 17 (0, 0) (k + 2))]) (lm [.inl (M 17 (0, 0) (k + 1)), .inl (M 17 (0, 0) (k + 2))] ++ [none, none, none, none, none, none]))
  refine ⟨M2, S2, q2, fun v σ' => ?_⟩
  have hL1 : jSL M1 = jn L := (q1 _ _).trans hL
  have q1' : ∀ i, M1 17 (0, 0) i = M 17 (0, 0) i := fun i => q1 _ _
  simp only [lw, lm, List.map_cons, List.map_nil, List.cons_append, List.nil_append] at j1 j2
  simp (disch := omega) only [s198_679, s198_680, s198_681, s198_682, s198_683, s198_684, s198_685, s198_686, s198_687, s198_688, s198_689, s198_690, hL, jn_1, jnP2, jnP3, jiz, jcl]
  rw [jcl_of j1]
  simp (disch := omega) only [s198_693, s198_694, s198_695, s198_696, s198_697, s198_698, s198_699, s198_700, s198_701, s198_702, s198_703, s198_704, Option.toList_some, List.cons_append, List.nil_append, hL1, q1', jn_1, jnP2, jnP3, jiz, jcl]
  rw [jcl_of j2]
  simp only [s198_707, Option.toList_some, List.cons_append, List.nil_append]
  rw [if_pos trivial, s198_804, jnP4]
theorem law_season (S : StI K T M) (hK : K ≤ 900000) (hT : T ≤ 900000) (hL : jSL M = jn L) (h1 : k + 4 ≤ L) (h2 : L ≤ 256) : ∃ M2, StI (K + 7) (T + 1) M2 ∧ s17 M M2 ∧ ∀ (v : Option jV) (σ' : jS), jE (d + 20 + 1) 198 712 [some (.inr (.inr (some (17, (0, 0))))), some (.inr (.inr (some (10, (0, 0))))), some (.inr (.inr (some (11, (0, 0))))), some (.inl (jn k))] [] (n, ([], M)) v σ' ↔ jE (d + 20 + 1) 198 807 [some (.inr (.inr (some (17, (0, 0))))), some (.inr (.inr (some (10, (0, 0))))), some (.inr (.inr (some (11, (0, 0))))), some (.inl (jn (k + 4)))] [] (n, ([], M2)) v σ' := by
  obtain ⟨M1, M2, w, j1, j2, S2, q1, q2⟩ := (ok_season S (by omega) : okC d n K T M 114 191 (lw [.inl (M 17 (0, 0) (k + 1)), .inl (M 17 (0, 0) (k + 2)), .inl (M 17 (0, 0) (k + 3))]) (lm [.inl (M 17 (0, 0) (k + 1)), .inl (M 17 (0, 0) (k + 2)), .inl (M 17 (0, 0) (k + 3))] ++ [none, none, none, none]))
  refine ⟨M2, S2, q2, fun v σ' => ?_⟩
  have hL1 : jSL M1 = jn L := (q1 _ _).trans hL
  have q1' : ∀ i, M1 17 (0, 0) i = M 17 (0, 0) i := fun i => q1 _ _
  simp only [lw, lm, List.map_cons, List.map_nil, List.cons_append, List.nil_append] at j1 j2
  simp (disch := omega) only [s198_712, s198_713, s198_714, s198_715, s198_716, s198_717, s198_718, s198_719, s198_720, s198_721, s198_722, s198_723, s198_724, s198_725, s198_726, s198_727, s198_728, hL, jn_1, jnP2, jnP3, jiz, jcl]
  rw [jcl_of j1]
  simp (disch := omega) only [s198_731, s198_732, s198_733, s198_734, s198_735, s198_736, s198_737, s198_738, s198_739, s198_740, s198_741, s198_742, s198_743, s198_744, s198_745, s198_746, s198_747, Option.toList_some, List.cons_append, List.nil_append, hL1, q1', jn_1, jnP2, jnP3, jiz, jcl]
  rw [jcl_of j2]
  simp only [s198_750, Option.toList_some, List.cons_append, List.nil_append]
  rw [if_pos trivial, s198_804, jnP4]
theorem law_keep (S : StI K T M) (hK : K ≤ 900000) (hT : T ≤ 900000) (hL : jSL M = jn L) (h1 : k + 4 ≤ L) (h2 : L ≤ 256) : ∃ M2, StI (K + 7) (T + 1) M2 ∧ s17 M M2 ∧ ∀ (v : Option jV) (σ' : jS), jE (d + 20 + 1) 198 755 [some (.inr (.inr (some (17, (0, 0))))), some (.inr (.inr (some (10, (0, 0))))), some (.inr (.inr (some (11, (0, 0))))), some (.inl (jn k))] [] (n, ([], M)) v σ' ↔ jE (d + 20 + 1) 198 807 [some (.inr (.inr (some (17, (0, 0))))), some (.inr (.inr (some (10, (0, 0))))), some (.inr (.inr (some (11, (0, 0))))), some (.inl (jn (k + 4)))] [] (n, ([], M2)) v σ' := by
  obtain ⟨M1, M2, w, j1, j2, S2, q1, q2⟩ := (ok_keep S : okC d n K T M 115 192 (lw []) (lm [] ++ [none]))
  refine ⟨M2, S2, q2, fun v σ' => ?_⟩
  have hL1 : jSL M1 = jn L := (q1 _ _).trans hL
  have q1' : ∀ i, M1 17 (0, 0) i = M 17 (0, 0) i := fun i => q1 _ _
  simp only [lw, lm, List.map_cons, List.map_nil, List.cons_append, List.nil_append] at j1 j2
  simp (disch := omega) only [s198_755, s198_756, hL, jn_1, jnP2, jnP3, jiz, jcl]
  rw [jcl_of j1]
  simp (disch := omega) only [s198_759, s198_760, Option.toList_some, List.cons_append, List.nil_append, hL1, q1', jn_1, jnP2, jnP3, jiz, jcl]
  rw [jcl_of j2]
  simp only [s198_763, Option.toList_some, List.cons_append, List.nil_append]
  rw [if_pos trivial, s198_804, jnP4]
theorem law_back (S : StI K T M) (hK : K ≤ 900000) (hT : T ≤ 900000) (hL : jSL M = jn L) (h1 : k + 4 ≤ L) (h2 : L ≤ 256) : ∃ M2, StI (K + 7) (T + 1) M2 ∧ s17 M M2 ∧ ∀ (v : Option jV) (σ' : jS), jE (d + 20 + 1) 198 768 [some (.inr (.inr (some (17, (0, 0))))), some (.inr (.inr (some (10, (0, 0))))), some (.inr (.inr (some (11, (0, 0))))), some (.inl (jn k))] [] (n, ([], M)) v σ' ↔ jE (d + 20 + 1) 198 807 [some (.inr (.inr (some (17, (0, 0))))), some (.inr (.inr (some (10, (0, 0))))), some (.inr (.inr (some (11, (0, 0))))), some (.inl (jn (k + 4)))] [] (n, ([], M2)) v σ' := by
  obtain ⟨M1, M2, w, j1, j2, S2, q1, q2⟩ := (ok_back S : okC d n K T M 116 193 (lw []) (lm [] ++ [none]))
  refine ⟨M2, S2, q2, fun v σ' => ?_⟩
  have hL1 : jSL M1 = jn L := (q1 _ _).trans hL
  have q1' : ∀ i, M1 17 (0, 0) i = M 17 (0, 0) i := fun i => q1 _ _
  simp only [lw, lm, List.map_cons, List.map_nil, List.cons_append, List.nil_append] at j1 j2
  simp (disch := omega) only [s198_768, s198_769, hL, jn_1, jnP2, jnP3, jiz, jcl]
  rw [jcl_of j1]
  simp (disch := omega) only [s198_772, s198_773, Option.toList_some, List.cons_append, List.nil_append, hL1, q1', jn_1, jnP2, jnP3, jiz, jcl]
  rw [jcl_of j2]
  simp only [s198_776, Option.toList_some, List.cons_append, List.nil_append]
  rw [if_pos trivial, s198_804, jnP4]
theorem law_count (S : StI K T M) (hK : K ≤ 900000) (hT : T ≤ 900000) (hL : jSL M = jn L) (h1 : k + 4 ≤ L) (h2 : L ≤ 256) : ∃ M2, StI (K + 7) (T + 1) M2 ∧ s17 M M2 ∧ ∀ (v : Option jV) (σ' : jS), jE (d + 20 + 1) 198 781 [some (.inr (.inr (some (17, (0, 0))))), some (.inr (.inr (some (10, (0, 0))))), some (.inr (.inr (some (11, (0, 0))))), some (.inl (jn k))] [] (n, ([], M)) v σ' ↔ jE (d + 20 + 1) 198 807 [some (.inr (.inr (some (17, (0, 0))))), some (.inr (.inr (some (10, (0, 0))))), some (.inr (.inr (some (11, (0, 0))))), some (.inl (jn (k + 4)))] [] (n, ([], M2)) v σ' := by
  obtain ⟨M1, M2, w, j1, j2, S2, q1, q2⟩ := (ok_count S : okC d n K T M 117 194 (lw [.inl (M 17 (0, 0) (k + 1))]) (lm [.inl (M 17 (0, 0) (k + 1))]))
  refine ⟨M2, S2, q2, fun v σ' => ?_⟩
  have hL1 : jSL M1 = jn L := (q1 _ _).trans hL
  have q1' : ∀ i, M1 17 (0, 0) i = M 17 (0, 0) i := fun i => q1 _ _
  simp only [lw, lm, List.map_cons, List.map_nil, List.cons_append, List.nil_append] at j1 j2
  simp (disch := omega) only [s198_781, s198_782, s198_783, s198_784, s198_785, s198_786, s198_787, hL, jn_1, jnP2, jnP3, jiz, jcl]
  rw [jcl_of j1]
  simp (disch := omega) only [s198_790, s198_791, s198_792, s198_793, s198_794, s198_795, s198_796, Option.toList_some, List.cons_append, List.nil_append, hL1, q1', jn_1, jnP2, jnP3, jiz, jcl]
  rw [jcl_of j2]
  simp only [s198_799, Option.toList_some, List.cons_append, List.nil_append]
  rw [if_pos trivial, s198_804, jnP4]
theorem law_step (S : StI K T M) (hK : K ≤ 900000) (hT : T ≤ 900000) (hL : jSL M = jn L) (h1 : k + 4 ≤ L) (h2 : L ≤ 256) : ∃ M2, StI (K + 7) (T + 1) M2 ∧ s17 M M2 ∧ ∀ (v : Option jV) (σ' : jS), jE (d + 20 + 1) 198 26 [some (.inr (.inr (some (17, (0, 0))))), some (.inr (.inr (some (10, (0, 0))))), some (.inr (.inr (some (11, (0, 0))))), some (.inl (jn k))] [] (n, ([], M)) v σ' ↔ jE (d + 20 + 1) 198 807 [some (.inr (.inr (some (17, (0, 0))))), some (.inr (.inr (some (10, (0, 0))))), some (.inr (.inr (some (11, (0, 0))))), some (.inl (jn (k + 4)))] [] (n, ([], M2)) v σ' := by
  have hd : ∀ (v : Option jV) (σ' : jS), jE (d + 20 + 1) 198 26 [some (.inr (.inr (some (17, (0, 0))))), some (.inr (.inr (some (10, (0, 0))))), some (.inr (.inr (some (11, (0, 0))))), some (.inl (jn k))] [] (n, ([], M)) v σ' ↔ jE (d + 20 + 1) 198 32 [some (.inr (.inr (some (17, (0, 0))))), some (.inr (.inr (some (10, (0, 0))))), some (.inr (.inr (some (11, (0, 0))))), some (.inl (jn k))] [.inl (M 17 (0, 0) k &&& 31)] (n, ([], M)) v σ' := by
    intro v σ'
    simp (disch := omega) only [s198_26, s198_27, s198_28, s198_29, s198_31, hL, jiz, jcl]
  generalize M 17 (0, 0) k &&& 31 = x at hd
  by_cases e0 : x.toInt = 0
  · obtain ⟨M2, y1, y2, y3⟩ := law_write (d := d) (n := n) S hK hT hL h1 h2
    refine ⟨M2, y1, y2, fun v σ' => ?_⟩
    rw [hd, s198_32, if_pos e0]
    exact y3 v σ'
  by_cases e1 : x.toInt = 1
  · obtain ⟨M2, y1, y2, y3⟩ := law_wipe (d := d) (n := n) S hK hT hL h1 h2
    refine ⟨M2, y1, y2, fun v σ' => ?_⟩
    rw [hd, s198_32, if_neg e0, if_pos e1]
    exact y3 v σ'
  by_cases e2 : x.toInt = 2
  · obtain ⟨M2, y1, y2, y3⟩ := law_fault (d := d) (n := n) S hK hT hL h1 h2
    refine ⟨M2, y1, y2, fun v σ' => ?_⟩
    rw [hd, s198_32, if_neg e0, if_neg e1, if_pos e2]
    exact y3 v σ'
  by_cases e3 : x.toInt = 3
  · obtain ⟨M2, y1, y2, y3⟩ := law_lay (d := d) (n := n) S hK hT hL h1 h2
    refine ⟨M2, y1, y2, fun v σ' => ?_⟩
    rw [hd, s198_32, if_neg e0, if_neg e1, if_neg e2, if_pos e3]
    exact y3 v σ'
  by_cases e4 : x.toInt = 4
  · obtain ⟨M2, y1, y2, y3⟩ := law_scene (d := d) (n := n) S hK hT hL h1 h2
    refine ⟨M2, y1, y2, fun v σ' => ?_⟩
    rw [hd, s198_32, if_neg e0, if_neg e1, if_neg e2, if_neg e3, if_pos e4]
    exact y3 v σ'
  by_cases e5 : x.toInt = 5
  · obtain ⟨M2, y1, y2, y3⟩ := law_seat (d := d) (n := n) S hK hT hL h1 h2
    refine ⟨M2, y1, y2, fun v σ' => ?_⟩
    rw [hd, s198_32, if_neg e0, if_neg e1, if_neg e2, if_neg e3, if_neg e4, if_pos e5]
    exact y3 v σ'
  by_cases e6 : x.toInt = 6
  · obtain ⟨M2, y1, y2, y3⟩ := law_tonight (d := d) (n := n) S hK hT hL h1 h2
    refine ⟨M2, y1, y2, fun v σ' => ?_⟩
    rw [hd, s198_32, if_neg e0, if_neg e1, if_neg e2, if_neg e3, if_neg e4, if_neg e5, if_pos e6]
    exact y3 v σ'
  by_cases e7 : x.toInt = 7
  · obtain ⟨M2, y1, y2, y3⟩ := law_passes (d := d) (n := n) S hK hT hL h1 h2
    refine ⟨M2, y1, y2, fun v σ' => ?_⟩
    rw [hd, s198_32, if_neg e0, if_neg e1, if_neg e2, if_neg e3, if_neg e4, if_neg e5, if_neg e6, if_pos e7]
    exact y3 v σ'
  by_cases e8 : x.toInt = 8
  · obtain ⟨M2, y1, y2, y3⟩ := law_add (d := d) (n := n) S hK hT hL h1 h2
    refine ⟨M2, y1, y2, fun v σ' => ?_⟩
    rw [hd, s198_32, if_neg e0, if_neg e1, if_neg e2, if_neg e3, if_neg e4, if_neg e5, if_neg e6, if_neg e7, if_pos e8]
    exact y3 v σ'
  by_cases e9 : x.toInt = 9
  · obtain ⟨M2, y1, y2, y3⟩ := law_cut (d := d) (n := n) S hK hT hL h1 h2
    refine ⟨M2, y1, y2, fun v σ' => ?_⟩
    rw [hd, s198_32, if_neg e0, if_neg e1, if_neg e2, if_neg e3, if_neg e4, if_neg e5, if_neg e6, if_neg e7, if_neg e8, if_pos e9]
    exact y3 v σ'
  by_cases e10 : x.toInt = 10
  · obtain ⟨M2, y1, y2, y3⟩ := law_play (d := d) (n := n) S hK hT hL h1 h2
    refine ⟨M2, y1, y2, fun v σ' => ?_⟩
    rw [hd, s198_32, if_neg e0, if_neg e1, if_neg e2, if_neg e3, if_neg e4, if_neg e5, if_neg e6, if_neg e7, if_neg e8, if_neg e9, if_pos e10]
    exact y3 v σ'
  by_cases e11 : x.toInt = 11
  · obtain ⟨M2, y1, y2, y3⟩ := law_swap (d := d) (n := n) S hK hT hL h1 h2
    refine ⟨M2, y1, y2, fun v σ' => ?_⟩
    rw [hd, s198_32, if_neg e0, if_neg e1, if_neg e2, if_neg e3, if_neg e4, if_neg e5, if_neg e6, if_neg e7, if_neg e8, if_neg e9, if_neg e10, if_pos e11]
    exact y3 v σ'
  by_cases e12 : x.toInt = 12
  · obtain ⟨M2, y1, y2, y3⟩ := law_hire (d := d) (n := n) S hK hT hL h1 h2
    refine ⟨M2, y1, y2, fun v σ' => ?_⟩
    rw [hd, s198_32, if_neg e0, if_neg e1, if_neg e2, if_neg e3, if_neg e4, if_neg e5, if_neg e6, if_neg e7, if_neg e8, if_neg e9, if_neg e10, if_neg e11, if_pos e12]
    exact y3 v σ'
  by_cases e13 : x.toInt = 13
  · obtain ⟨M2, y1, y2, y3⟩ := law_undo (d := d) (n := n) S hK hT hL h1 h2
    refine ⟨M2, y1, y2, fun v σ' => ?_⟩
    rw [hd, s198_32, if_neg e0, if_neg e1, if_neg e2, if_neg e3, if_neg e4, if_neg e5, if_neg e6, if_neg e7, if_neg e8, if_neg e9, if_neg e10, if_neg e11, if_neg e12, if_pos e13]
    exact y3 v σ'
  by_cases e14 : x.toInt = 14
  · obtain ⟨M2, y1, y2, y3⟩ := law_soonest (d := d) (n := n) S hK hT hL h1 h2
    refine ⟨M2, y1, y2, fun v σ' => ?_⟩
    rw [hd, s198_32, if_neg e0, if_neg e1, if_neg e2, if_neg e3, if_neg e4, if_neg e5, if_neg e6, if_neg e7, if_neg e8, if_neg e9, if_neg e10, if_neg e11, if_neg e12, if_neg e13, if_pos e14]
    exact y3 v σ'
  by_cases e15 : x.toInt = 15
  · obtain ⟨M2, y1, y2, y3⟩ := law_seating (d := d) (n := n) S hK hT hL h1 h2
    refine ⟨M2, y1, y2, fun v σ' => ?_⟩
    rw [hd, s198_32, if_neg e0, if_neg e1, if_neg e2, if_neg e3, if_neg e4, if_neg e5, if_neg e6, if_neg e7, if_neg e8, if_neg e9, if_neg e10, if_neg e11, if_neg e12, if_neg e13, if_neg e14, if_pos e15]
    exact y3 v σ'
  by_cases e16 : x.toInt = 16
  · obtain ⟨M2, y1, y2, y3⟩ := law_claques (d := d) (n := n) S hK hT hL h1 h2
    refine ⟨M2, y1, y2, fun v σ' => ?_⟩
    rw [hd, s198_32, if_neg e0, if_neg e1, if_neg e2, if_neg e3, if_neg e4, if_neg e5, if_neg e6, if_neg e7, if_neg e8, if_neg e9, if_neg e10, if_neg e11, if_neg e12, if_neg e13, if_neg e14, if_neg e15, if_pos e16]
    exact y3 v σ'
  by_cases e17 : x.toInt = 17
  · obtain ⟨M2, y1, y2, y3⟩ := law_falls (d := d) (n := n) S hK hT hL h1 h2
    refine ⟨M2, y1, y2, fun v σ' => ?_⟩
    rw [hd, s198_32, if_neg e0, if_neg e1, if_neg e2, if_neg e3, if_neg e4, if_neg e5, if_neg e6, if_neg e7, if_neg e8, if_neg e9, if_neg e10, if_neg e11, if_neg e12, if_neg e13, if_neg e14, if_neg e15, if_neg e16, if_pos e17]
    exact y3 v σ'
  by_cases e18 : x.toInt = 18
  · obtain ⟨M2, y1, y2, y3⟩ := law_run (d := d) (n := n) S hK hT hL h1 h2
    refine ⟨M2, y1, y2, fun v σ' => ?_⟩
    rw [hd, s198_32, if_neg e0, if_neg e1, if_neg e2, if_neg e3, if_neg e4, if_neg e5, if_neg e6, if_neg e7, if_neg e8, if_neg e9, if_neg e10, if_neg e11, if_neg e12, if_neg e13, if_neg e14, if_neg e15, if_neg e16, if_neg e17, if_pos e18]
    exact y3 v σ'
  by_cases e19 : x.toInt = 19
  · obtain ⟨M2, y1, y2, y3⟩ := law_most (d := d) (n := n) S hK hT hL h1 h2
    refine ⟨M2, y1, y2, fun v σ' => ?_⟩
    rw [hd, s198_32, if_neg e0, if_neg e1, if_neg e2, if_neg e3, if_neg e4, if_neg e5, if_neg e6, if_neg e7, if_neg e8, if_neg e9, if_neg e10, if_neg e11, if_neg e12, if_neg e13, if_neg e14, if_neg e15, if_neg e16, if_neg e17, if_neg e18, if_pos e19]
    exact y3 v σ'
  by_cases e20 : x.toInt = 20
  · obtain ⟨M2, y1, y2, y3⟩ := law_see (d := d) (n := n) S hK hT hL h1 h2
    refine ⟨M2, y1, y2, fun v σ' => ?_⟩
    rw [hd, s198_32, if_neg e0, if_neg e1, if_neg e2, if_neg e3, if_neg e4, if_neg e5, if_neg e6, if_neg e7, if_neg e8, if_neg e9, if_neg e10, if_neg e11, if_neg e12, if_neg e13, if_neg e14, if_neg e15, if_neg e16, if_neg e17, if_neg e18, if_neg e19, if_pos e20]
    exact y3 v σ'
  by_cases e21 : x.toInt = 21
  · obtain ⟨M2, y1, y2, y3⟩ := law_forget (d := d) (n := n) S hK hT hL h1 h2
    refine ⟨M2, y1, y2, fun v σ' => ?_⟩
    rw [hd, s198_32, if_neg e0, if_neg e1, if_neg e2, if_neg e3, if_neg e4, if_neg e5, if_neg e6, if_neg e7, if_neg e8, if_neg e9, if_neg e10, if_neg e11, if_neg e12, if_neg e13, if_neg e14, if_neg e15, if_neg e16, if_neg e17, if_neg e18, if_neg e19, if_neg e20, if_pos e21]
    exact y3 v σ'
  by_cases e22 : x.toInt = 22
  · obtain ⟨M2, y1, y2, y3⟩ := law_fits (d := d) (n := n) S hK hT hL h1 h2
    refine ⟨M2, y1, y2, fun v σ' => ?_⟩
    rw [hd, s198_32, if_neg e0, if_neg e1, if_neg e2, if_neg e3, if_neg e4, if_neg e5, if_neg e6, if_neg e7, if_neg e8, if_neg e9, if_neg e10, if_neg e11, if_neg e12, if_neg e13, if_neg e14, if_neg e15, if_neg e16, if_neg e17, if_neg e18, if_neg e19, if_neg e20, if_neg e21, if_pos e22]
    exact y3 v σ'
  by_cases e23 : x.toInt = 23
  · obtain ⟨M2, y1, y2, y3⟩ := law_coughs (d := d) (n := n) S hK hT hL h1 h2
    refine ⟨M2, y1, y2, fun v σ' => ?_⟩
    rw [hd, s198_32, if_neg e0, if_neg e1, if_neg e2, if_neg e3, if_neg e4, if_neg e5, if_neg e6, if_neg e7, if_neg e8, if_neg e9, if_neg e10, if_neg e11, if_neg e12, if_neg e13, if_neg e14, if_neg e15, if_neg e16, if_neg e17, if_neg e18, if_neg e19, if_neg e20, if_neg e21, if_neg e22, if_pos e23]
    exact y3 v σ'
  by_cases e24 : x.toInt = 24
  · obtain ⟨M2, y1, y2, y3⟩ := law_season (d := d) (n := n) S hK hT hL h1 h2
    refine ⟨M2, y1, y2, fun v σ' => ?_⟩
    rw [hd, s198_32, if_neg e0, if_neg e1, if_neg e2, if_neg e3, if_neg e4, if_neg e5, if_neg e6, if_neg e7, if_neg e8, if_neg e9, if_neg e10, if_neg e11, if_neg e12, if_neg e13, if_neg e14, if_neg e15, if_neg e16, if_neg e17, if_neg e18, if_neg e19, if_neg e20, if_neg e21, if_neg e22, if_neg e23, if_pos e24]
    exact y3 v σ'
  by_cases e25 : x.toInt = 25
  · obtain ⟨M2, y1, y2, y3⟩ := law_keep (d := d) (n := n) S hK hT hL h1 h2
    refine ⟨M2, y1, y2, fun v σ' => ?_⟩
    rw [hd, s198_32, if_neg e0, if_neg e1, if_neg e2, if_neg e3, if_neg e4, if_neg e5, if_neg e6, if_neg e7, if_neg e8, if_neg e9, if_neg e10, if_neg e11, if_neg e12, if_neg e13, if_neg e14, if_neg e15, if_neg e16, if_neg e17, if_neg e18, if_neg e19, if_neg e20, if_neg e21, if_neg e22, if_neg e23, if_neg e24, if_pos e25]
    exact y3 v σ'
  by_cases e26 : x.toInt = 26
  · obtain ⟨M2, y1, y2, y3⟩ := law_back (d := d) (n := n) S hK hT hL h1 h2
    refine ⟨M2, y1, y2, fun v σ' => ?_⟩
    rw [hd, s198_32, if_neg e0, if_neg e1, if_neg e2, if_neg e3, if_neg e4, if_neg e5, if_neg e6, if_neg e7, if_neg e8, if_neg e9, if_neg e10, if_neg e11, if_neg e12, if_neg e13, if_neg e14, if_neg e15, if_neg e16, if_neg e17, if_neg e18, if_neg e19, if_neg e20, if_neg e21, if_neg e22, if_neg e23, if_neg e24, if_neg e25, if_pos e26]
    exact y3 v σ'
  by_cases e27 : x.toInt = 27
  · obtain ⟨M2, y1, y2, y3⟩ := law_count (d := d) (n := n) S hK hT hL h1 h2
    refine ⟨M2, y1, y2, fun v σ' => ?_⟩
    rw [hd, s198_32, if_neg e0, if_neg e1, if_neg e2, if_neg e3, if_neg e4, if_neg e5, if_neg e6, if_neg e7, if_neg e8, if_neg e9, if_neg e10, if_neg e11, if_neg e12, if_neg e13, if_neg e14, if_neg e15, if_neg e16, if_neg e17, if_neg e18, if_neg e19, if_neg e20, if_neg e21, if_neg e22, if_neg e23, if_neg e24, if_neg e25, if_neg e26, if_pos e27]
    exact y3 v σ'
  refine ⟨M, St_K S (by omega) (by omega), s17_r, fun v σ' => ?_⟩
  rw [hd, s198_32, if_neg e0, if_neg e1, if_neg e2, if_neg e3, if_neg e4, if_neg e5, if_neg e6, if_neg e7, if_neg e8, if_neg e9, if_neg e10, if_neg e11, if_neg e12, if_neg e13, if_neg e14, if_neg e15, if_neg e16, if_neg e17, if_neg e18, if_neg e19, if_neg e20, if_neg e21, if_neg e22, if_neg e23, if_neg e24, if_neg e25, if_neg e26, if_neg e27, s198_804, jnP4]
theorem law_head (hL : jSL M = jn L) (hk : k ≤ 1000) (h2 : L ≤ 256) (v : Option jV) (σ' : jS) : jE (d + 20 + 1) 198 18 [some (.inr (.inr (some (17, (0, 0))))), some (.inr (.inr (some (10, (0, 0))))), some (.inr (.inr (some (11, (0, 0))))), some (.inl (jn k))] [] (n, ([], M)) v σ' ↔ if L < k + 4 then v = some (.inl 1) ∧ σ' = (n, ([], M)) else jE (d + 20 + 1) 198 26 [some (.inr (.inr (some (17, (0, 0))))), some (.inr (.inr (some (10, (0, 0))))), some (.inr (.inr (some (11, (0, 0))))), some (.inl (jn k))] [] (n, ([], M)) v σ' := by
  simp only [s198_18, s198_19, s198_20, s198_21, s198_22, s198_23, s198_810, s198_811, hL]
  by_cases h : L < k + 4
  · rw [if_pos h, if_pos]
    · exact ⟨fun q => q.2, fun q => ⟨by simp, q⟩⟩
    · show jn L - jn 4 < jn k
      by_cases h4 : L < 4
      · exact Int32.lt_of_lt_of_le (jn_sub_neg h4 (by omega)) (jn_pos (by omega))
      · rw [jn_sub (by omega)]
        exact (jn_lt (by omega) (by omega)).mpr (by omega)
  · rw [if_neg h, if_neg]
    show ¬ jn L - jn 4 < jn k
    rw [jn_sub (by omega)]
    exact fun z => absurd ((jn_lt (by omega) (by omega)).mp z) (by omega)
theorem law_loop : ∀ (m i : Nat) (M : jM), m + i = 65 → StI (7 * i) (i + 1) M → jSL M = jn L → L ≤ 256 → ∃ M2, ∀ (v : Option jV) (σ' : jS), jE (d + 20 + 1) 198 18 [some (.inr (.inr (some (17, (0, 0))))), some (.inr (.inr (some (10, (0, 0))))), some (.inr (.inr (some (11, (0, 0))))), some (.inl (jn (4 * i)))] [] (n, ([], M)) v σ' ↔ v = some (.inl 1) ∧ σ' = (n, ([], M2)) := by
  intro m
  induction m with
  | zero =>
    intro i M hm S hL h2
    refine ⟨M, fun v σ' => ?_⟩
    rw [law_head hL (by omega) h2, if_pos (by omega)]
  | succ m ih =>
    intro i M hm S hL h2
    by_cases h : L < 4 * i + 4
    · refine ⟨M, fun v σ' => ?_⟩
      rw [law_head hL (by omega) h2, if_pos h]
    · obtain ⟨M1, S1, q1, y1⟩ := law_step (d := d) (n := n) S (by omega) (by omega) hL (show 4 * i + 4 ≤ L by omega) h2
      obtain ⟨M2, y2⟩ := ih (i + 1) M1 (by omega) S1 ((q1 _ _).trans hL) h2
      refine ⟨M2, fun v σ' => ?_⟩
      rw [law_head hL (by omega) h2, if_neg h, y1, s198_807, show 4 * i + 4 = 4 * (i + 1) by omega]
      exact y2 v σ'
/-- the law from its loop on -/
theorem law_all (S : StI 0 1 M) (hL : jSL M = jn L) (h2 : L ≤ 256) : ∃ M2, jE (d + 20 + 1) 198 18 [some (.inr (.inr (some (17, (0, 0))))), some (.inr (.inr (some (10, (0, 0))))), some (.inr (.inr (some (11, (0, 0))))), some (.inl (jn 0))] [] (n, ([], M)) (some (.inl 1)) (n, ([], M2)) := by
  obtain ⟨M2, y⟩ := law_loop (d := d) (n := n) 65 0 M rfl S hL h2
  exact ⟨M2, (y _ _).mpr ⟨rfl, rfl⟩⟩
end JLAW
