/-! the law: a script of calls -/
theorem jcl_of {d m pc : Nat} {al : jL} {st : List jV} {σ s0 : jS} {v0 : Option jV} {Q : Option jV → jS → Prop} (j : jE d m pc al st σ v0 s0) : (∃ (v1 : Option jV) (s1 : jS), jE d m pc al st σ v1 s1 ∧ Q v1 s1) ↔ Q v0 s0 := by
  constructor
  · rintro ⟨v1, s1, h, q⟩
    obtain ⟨rfl, rfl⟩ := jE_det h j
    exact q
  · intro q
    exact ⟨v0, s0, j, q⟩
theorem jnP2 (k : Nat) : jn k + 2 = jn (k + 2) := jn_add k 2
theorem jnP3 (k : Nat) : jn k + 3 = jn (k + 3) := jn_add k 3
theorem jnP4 (k : Nat) : jn k + 4 = jn (k + 4) := jn_add k 4
section JLAW
variable {d n K T L k : Nat} {M : jM}
theorem law_write (S : StI K T M) (hK : K ≤ 900000) (hT : T ≤ 900000) (hL : jSL M = jn L) (h1 : k + 4 ≤ L) (h2 : L ≤ 256) : ∃ M2, StI (K + 7) (T + 1) M2 ∧ s17 M M2 ∧ ∀ (v : Option jV) (σ' : jS), jE (d + 20 + 1) 197 160 [some (.inr (.inr (some (17, (0, 0))))), some (.inr (.inr (some (10, (0, 0))))), some (.inr (.inr (some (11, (0, 0))))), some (.inl (jn k))] [] (n, ([], M)) v σ' ↔ jE (d + 20 + 1) 197 807 [some (.inr (.inr (some (17, (0, 0))))), some (.inr (.inr (some (10, (0, 0))))), some (.inr (.inr (some (11, (0, 0))))), some (.inl (jn (k + 4)))] [] (n, ([], M2)) v σ' := by
  obtain ⟨M1, M2, w, j1, j2, S2, q1, q2⟩ := (ok_write S : okC d n K T M 90 124 (lw [.inl (M 17 (0, 0) (k + 1))]) (lm [.inl (M 17 (0, 0) (k + 1))]))
  refine ⟨M2, S2, q2, fun v σ' => ?_⟩
  have hL1 : jSL M1 = jn L := (q1 _ _).trans hL
  have q1' : ∀ i, M1 17 (0, 0) i = M 17 (0, 0) i := fun i => q1 _ _
  simp only [lw, lm, List.map_cons, List.map_nil, List.cons_append, List.nil_append] at j1 j2
  simp (disch := omega) only [s197_160, s197_161, s197_162, s197_163, s197_164, s197_165, s197_166, hL, jn_1, jnP2, jnP3, jiz, jcl]
  rw [jcl_of j1]
  simp (disch := omega) only [s197_169, s197_170, s197_171, s197_172, s197_173, s197_174, s197_175, Option.toList_some, List.cons_append, List.nil_append, hL1, q1', jn_1, jnP2, jnP3, jiz, jcl]
  rw [jcl_of j2]
  simp only [s197_178, Option.toList_some, List.cons_append, List.nil_append]
  rw [if_pos trivial, s197_804, jnP4]
theorem law_wipe (S : StI K T M) (hK : K ≤ 900000) (hT : T ≤ 900000) (hL : jSL M = jn L) (h1 : k + 4 ≤ L) (h2 : L ≤ 256) : ∃ M2, StI (K + 7) (T + 1) M2 ∧ s17 M M2 ∧ ∀ (v : Option jV) (σ' : jS), jE (d + 20 + 1) 197 183 [some (.inr (.inr (some (17, (0, 0))))), some (.inr (.inr (some (10, (0, 0))))), some (.inr (.inr (some (11, (0, 0))))), some (.inl (jn k))] [] (n, ([], M)) v σ' ↔ jE (d + 20 + 1) 197 807 [some (.inr (.inr (some (17, (0, 0))))), some (.inr (.inr (some (10, (0, 0))))), some (.inr (.inr (some (11, (0, 0))))), some (.inl (jn (k + 4)))] [] (n, ([], M2)) v σ' := by
  obtain ⟨M1, M2, w, j1, j2, S2, q1, q2⟩ := (ok_wipe S : okC d n K T M 91 125 (lw [] ++ [none]) (lm [] ++ [none]))
  refine ⟨M2, S2, q2, fun v σ' => ?_⟩
  have hL1 : jSL M1 = jn L := (q1 _ _).trans hL
  have q1' : ∀ i, M1 17 (0, 0) i = M 17 (0, 0) i := fun i => q1 _ _
  simp only [lw, lm, List.map_cons, List.map_nil, List.cons_append, List.nil_append] at j1 j2
  simp (disch := omega) only [s197_183, s197_184, hL, jn_1, jnP2, jnP3, jiz, jcl]
  rw [jcl_of j1]
  simp (disch := omega) only [s197_187, s197_188, Option.toList_some, List.cons_append, List.nil_append, hL1, q1', jn_1, jnP2, jnP3, jiz, jcl]
  rw [jcl_of j2]
  simp only [s197_191, Option.toList_some, List.cons_append, List.nil_append]
  rw [if_pos trivial, s197_804, jnP4]
theorem law_fault (S : StI K T M) (hK : K ≤ 900000) (hT : T ≤ 900000) (hL : jSL M = jn L) (h1 : k + 4 ≤ L) (h2 : L ≤ 256) : ∃ M2, StI (K + 7) (T + 1) M2 ∧ s17 M M2 ∧ ∀ (v : Option jV) (σ' : jS), jE (d + 20 + 1) 197 196 [some (.inr (.inr (some (17, (0, 0))))), some (.inr (.inr (some (10, (0, 0))))), some (.inr (.inr (some (11, (0, 0))))), some (.inl (jn k))] [] (n, ([], M)) v σ' ↔ jE (d + 20 + 1) 197 807 [some (.inr (.inr (some (17, (0, 0))))), some (.inr (.inr (some (10, (0, 0))))), some (.inr (.inr (some (11, (0, 0))))), some (.inl (jn (k + 4)))] [] (n, ([], M2)) v σ' := by
  obtain ⟨M1, M2, w, j1, j2, S2, q1, q2⟩ := (ok_fault S : okC d n K T M 92 135 (lw []) (lm []))
  refine ⟨M2, S2, q2, fun v σ' => ?_⟩
  have hL1 : jSL M1 = jn L := (q1 _ _).trans hL
  have q1' : ∀ i, M1 17 (0, 0) i = M 17 (0, 0) i := fun i => q1 _ _
  simp only [lw, lm, List.map_cons, List.map_nil, List.cons_append, List.nil_append] at j1 j2
  simp (disch := omega) only [s197_196, s197_197, hL, jn_1, jnP2, jnP3, jiz, jcl]
  rw [jcl_of j1]
  simp (disch := omega) only [s197_200, s197_201, Option.toList_some, List.cons_append, List.nil_append, hL1, q1', jn_1, jnP2, jnP3, jiz, jcl]
  rw [jcl_of j2]
  simp only [s197_204, Option.toList_some, List.cons_append, List.nil_append]
  rw [if_pos trivial, s197_804, jnP4]
theorem law_lay (S : StI K T M) (hK : K ≤ 900000) (hT : T ≤ 900000) (hL : jSL M = jn L) (h1 : k + 4 ≤ L) (h2 : L ≤ 256) : ∃ M2, StI (K + 7) (T + 1) M2 ∧ s17 M M2 ∧ ∀ (v : Option jV) (σ' : jS), jE (d + 20 + 1) 197 209 [some (.inr (.inr (some (17, (0, 0))))), some (.inr (.inr (some (10, (0, 0))))), some (.inr (.inr (some (11, (0, 0))))), some (.inl (jn k))] [] (n, ([], M)) v σ' ↔ jE (d + 20 + 1) 197 807 [some (.inr (.inr (some (17, (0, 0))))), some (.inr (.inr (some (10, (0, 0))))), some (.inr (.inr (some (11, (0, 0))))), some (.inl (jn (k + 4)))] [] (n, ([], M2)) v σ' := by
  obtain ⟨M1, M2, w, j1, j2, S2, q1, q2⟩ := (ok_lay S : okC d n K T M 93 141 (lw []) (lm []))
  refine ⟨M2, S2, q2, fun v σ' => ?_⟩
  have hL1 : jSL M1 = jn L := (q1 _ _).trans hL
  have q1' : ∀ i, M1 17 (0, 0) i = M 17 (0, 0) i := fun i => q1 _ _
  simp only [lw, lm, List.map_cons, List.map_nil, List.cons_append, List.nil_append] at j1 j2
  simp (disch := omega) only [s197_209, s197_210, hL, jn_1, jnP2, jnP3, jiz, jcl]
  rw [jcl_of j1]
  simp (disch := omega) only [s197_213, s197_214, Option.toList_some, List.cons_append, List.nil_append, hL1, q1', jn_1, jnP2, jnP3, jiz, jcl]
  rw [jcl_of j2]
  simp only [s197_217, Option.toList_some, List.cons_append, List.nil_append]
  rw [if_pos trivial, s197_804, jnP4]
theorem law_scene (S : StI K T M) (hK : K ≤ 900000) (hT : T ≤ 900000) (hL : jSL M = jn L) (h1 : k + 4 ≤ L) (h2 : L ≤ 256) : ∃ M2, StI (K + 7) (T + 1) M2 ∧ s17 M M2 ∧ ∀ (v : Option jV) (σ' : jS), jE (d + 20 + 1) 197 222 [some (.inr (.inr (some (17, (0, 0))))), some (.inr (.inr (some (10, (0, 0))))), some (.inr (.inr (some (11, (0, 0))))), some (.inl (jn k))] [] (n, ([], M)) v σ' ↔ jE (d + 20 + 1) 197 807 [some (.inr (.inr (some (17, (0, 0))))), some (.inr (.inr (some (10, (0, 0))))), some (.inr (.inr (some (11, (0, 0))))), some (.inl (jn (k + 4)))] [] (n, ([], M2)) v σ' := by
  obtain ⟨M1, M2, w, j1, j2, S2, q1, q2⟩ := (ok_scene S : okC d n K T M 94 159 (lw [.inl (M 17 (0, 0) (k + 1)), .inl (M 17 (0, 0) (k + 2))]) (lm [.inl (M 17 (0, 0) (k + 1)), .inl (M 17 (0, 0) (k + 2))]))
  refine ⟨M2, S2, q2, fun v σ' => ?_⟩
  have hL1 : jSL M1 = jn L := (q1 _ _).trans hL
  have q1' : ∀ i, M1 17 (0, 0) i = M 17 (0, 0) i := fun i => q1 _ _
  simp only [lw, lm, List.map_cons, List.map_nil, List.cons_append, List.nil_append] at j1 j2
  simp (disch := omega) only [s197_222, s197_223, s197_224, s197_225, s197_226, s197_227, s197_228, s197_229, s197_230, s197_231, s197_232, s197_233, hL, jn_1, jnP2, jnP3, jiz, jcl]
  rw [jcl_of j1]
  simp (disch := omega) only [s197_236, s197_237, s197_238, s197_239, s197_240, s197_241, s197_242, s197_243, s197_244, s197_245, s197_246, s197_247, Option.toList_some, List.cons_append, List.nil_append, hL1, q1', jn_1, jnP2, jnP3, jiz, jcl]
  rw [jcl_of j2]
  simp only [s197_250, Option.toList_some, List.cons_append, List.nil_append]
  rw [if_pos trivial, s197_804, jnP4]
theorem law_seat (S : StI K T M) (hK : K ≤ 900000) (hT : T ≤ 900000) (hL : jSL M = jn L) (h1 : k + 4 ≤ L) (h2 : L ≤ 256) : ∃ M2, StI (K + 7) (T + 1) M2 ∧ s17 M M2 ∧ ∀ (v : Option jV) (σ' : jS), jE (d + 20 + 1) 197 255 [some (.inr (.inr (some (17, (0, 0))))), some (.inr (.inr (some (10, (0, 0))))), some (.inr (.inr (some (11, (0, 0))))), some (.inl (jn k))] [] (n, ([], M)) v σ' ↔ jE (d + 20 + 1) 197 807 [some (.inr (.inr (some (17, (0, 0))))), some (.inr (.inr (some (10, (0, 0))))), some (.inr (.inr (some (11, (0, 0))))), some (.inl (jn (k + 4)))] [] (n, ([], M2)) v σ' := by
  obtain ⟨M1, M2, w, j1, j2, S2, q1, q2⟩ := (ok_seat S : okC d n K T M 95 160 (lw [.inl (M 17 (0, 0) (k + 1)), .inl (M 17 (0, 0) (k + 2))]) (lm [.inl (M 17 (0, 0) (k + 1)), .inl (M 17 (0, 0) (k + 2))]))
  refine ⟨M2, S2, q2, fun v σ' => ?_⟩
  have hL1 : jSL M1 = jn L := (q1 _ _).trans hL
  have q1' : ∀ i, M1 17 (0, 0) i = M 17 (0, 0) i := fun i => q1 _ _
  simp only [lw, lm, List.map_cons, List.map_nil, List.cons_append, List.nil_append] at j1 j2
  simp (disch := omega) only [s197_255, s197_256, s197_257, s197_258, s197_259, s197_260, s197_261, s197_262, s197_263, s197_264, s197_265, s197_266, hL, jn_1, jnP2, jnP3, jiz, jcl]
  rw [jcl_of j1]
  simp (disch := omega) only [s197_269, s197_270, s197_271, s197_272, s197_273, s197_274, s197_275, s197_276, s197_277, s197_278, s197_279, s197_280, Option.toList_some, List.cons_append, List.nil_append, hL1, q1', jn_1, jnP2, jnP3, jiz, jcl]
  rw [jcl_of j2]
  simp only [s197_283, Option.toList_some, List.cons_append, List.nil_append]
  rw [if_pos trivial, s197_804, jnP4]
theorem law_tonight (S : StI K T M) (hK : K ≤ 900000) (hT : T ≤ 900000) (hL : jSL M = jn L) (h1 : k + 4 ≤ L) (h2 : L ≤ 256) : ∃ M2, StI (K + 7) (T + 1) M2 ∧ s17 M M2 ∧ ∀ (v : Option jV) (σ' : jS), jE (d + 20 + 1) 197 288 [some (.inr (.inr (some (17, (0, 0))))), some (.inr (.inr (some (10, (0, 0))))), some (.inr (.inr (some (11, (0, 0))))), some (.inl (jn k))] [] (n, ([], M)) v σ' ↔ jE (d + 20 + 1) 197 807 [some (.inr (.inr (some (17, (0, 0))))), some (.inr (.inr (some (10, (0, 0))))), some (.inr (.inr (some (11, (0, 0))))), some (.inl (jn (k + 4)))] [] (n, ([], M2)) v σ' := by
  obtain ⟨M1, M2, w, j1, j2, S2, q1, q2⟩ := (ok_tonight S (by omega) : okC d n K T M 96 161 (lw [.inl (M 17 (0, 0) (k + 1)), .inl (M 17 (0, 0) (k + 2))]) (lm [.inl (M 17 (0, 0) (k + 1)), .inl (M 17 (0, 0) (k + 2))]))
  refine ⟨M2, S2, q2, fun v σ' => ?_⟩
  have hL1 : jSL M1 = jn L := (q1 _ _).trans hL
  have q1' : ∀ i, M1 17 (0, 0) i = M 17 (0, 0) i := fun i => q1 _ _
  simp only [lw, lm, List.map_cons, List.map_nil, List.cons_append, List.nil_append] at j1 j2
  simp (disch := omega) only [s197_288, s197_289, s197_290, s197_291, s197_292, s197_293, s197_294, s197_295, s197_296, s197_297, s197_298, s197_299, hL, jn_1, jnP2, jnP3, jiz, jcl]
  rw [jcl_of j1]
  simp (disch := omega) only [s197_302, s197_303, s197_304, s197_305, s197_306, s197_307, s197_308, s197_309, s197_310, s197_311, s197_312, s197_313, Option.toList_some, List.cons_append, List.nil_append, hL1, q1', jn_1, jnP2, jnP3, jiz, jcl]
  rw [jcl_of j2]
  simp only [s197_316, Option.toList_some, List.cons_append, List.nil_append]
  rw [if_pos trivial, s197_804, jnP4]
theorem law_passes (S : StI K T M) (hK : K ≤ 900000) (hT : T ≤ 900000) (hL : jSL M = jn L) (h1 : k + 4 ≤ L) (h2 : L ≤ 256) : ∃ M2, StI (K + 7) (T + 1) M2 ∧ s17 M M2 ∧ ∀ (v : Option jV) (σ' : jS), jE (d + 20 + 1) 197 321 [some (.inr (.inr (some (17, (0, 0))))), some (.inr (.inr (some (10, (0, 0))))), some (.inr (.inr (some (11, (0, 0))))), some (.inl (jn k))] [] (n, ([], M)) v σ' ↔ jE (d + 20 + 1) 197 807 [some (.inr (.inr (some (17, (0, 0))))), some (.inr (.inr (some (10, (0, 0))))), some (.inr (.inr (some (11, (0, 0))))), some (.inl (jn (k + 4)))] [] (n, ([], M2)) v σ' := by
  obtain ⟨M1, M2, w, j1, j2, S2, q1, q2⟩ := (ok_passes S (by omega) : okC d n K T M 97 162 (lw [.inl (M 17 (0, 0) (k + 1))]) (lm [.inl (M 17 (0, 0) (k + 1))]))
  refine ⟨M2, S2, q2, fun v σ' => ?_⟩
  have hL1 : jSL M1 = jn L := (q1 _ _).trans hL
  have q1' : ∀ i, M1 17 (0, 0) i = M 17 (0, 0) i := fun i => q1 _ _
  simp only [lw, lm, List.map_cons, List.map_nil, List.cons_append, List.nil_append] at j1 j2
  simp (disch := omega) only [s197_321, s197_322, s197_323, s197_324, s197_325, s197_326, s197_327, hL, jn_1, jnP2, jnP3, jiz, jcl]
  rw [jcl_of j1]
  simp (disch := omega) only [s197_330, s197_331, s197_332, s197_333, s197_334, s197_335, s197_336, Option.toList_some, List.cons_append, List.nil_append, hL1, q1', jn_1, jnP2, jnP3, jiz, jcl]
  rw [jcl_of j2]
  simp only [s197_339, Option.toList_some, List.cons_append, List.nil_append]
  rw [if_pos trivial, s197_804, jnP4]
theorem law_add (S : StI K T M) (hK : K ≤ 900000) (hT : T ≤ 900000) (hL : jSL M = jn L) (h1 : k + 4 ≤ L) (h2 : L ≤ 256) : ∃ M2, StI (K + 7) (T + 1) M2 ∧ s17 M M2 ∧ ∀ (v : Option jV) (σ' : jS), jE (d + 20 + 1) 197 344 [some (.inr (.inr (some (17, (0, 0))))), some (.inr (.inr (some (10, (0, 0))))), some (.inr (.inr (some (11, (0, 0))))), some (.inl (jn k))] [] (n, ([], M)) v σ' ↔ jE (d + 20 + 1) 197 807 [some (.inr (.inr (some (17, (0, 0))))), some (.inr (.inr (some (10, (0, 0))))), some (.inr (.inr (some (11, (0, 0))))), some (.inl (jn (k + 4)))] [] (n, ([], M2)) v σ' := by
  obtain ⟨M1, M2, w, j1, j2, S2, q1, q2⟩ := (ok_add S : okC d n K T M 98 169 (lw [.inl (M 17 (0, 0) (k + 1))]) (lm [.inl (M 17 (0, 0) (k + 1))]))
  refine ⟨M2, S2, q2, fun v σ' => ?_⟩
  have hL1 : jSL M1 = jn L := (q1 _ _).trans hL
  have q1' : ∀ i, M1 17 (0, 0) i = M 17 (0, 0) i := fun i => q1 _ _
  simp only [lw, lm, List.map_cons, List.map_nil, List.cons_append, List.nil_append] at j1 j2
  simp (disch := omega) only [s197_344, s197_345, s197_346, s197_347, s197_348, s197_349, s197_350, hL, jn_1, jnP2, jnP3, jiz, jcl]
  rw [jcl_of j1]
  simp (disch := omega) only [s197_353, s197_354, s197_355, s197_356, s197_357, s197_358, s197_359, Option.toList_some, List.cons_append, List.nil_append, hL1, q1', jn_1, jnP2, jnP3, jiz, jcl]
  rw [jcl_of j2]
  simp only [s197_362, Option.toList_some, List.cons_append, List.nil_append]
  rw [if_pos trivial, s197_804, jnP4]
theorem law_cut (S : StI K T M) (hK : K ≤ 900000) (hT : T ≤ 900000) (hL : jSL M = jn L) (h1 : k + 4 ≤ L) (h2 : L ≤ 256) : ∃ M2, StI (K + 7) (T + 1) M2 ∧ s17 M M2 ∧ ∀ (v : Option jV) (σ' : jS), jE (d + 20 + 1) 197 367 [some (.inr (.inr (some (17, (0, 0))))), some (.inr (.inr (some (10, (0, 0))))), some (.inr (.inr (some (11, (0, 0))))), some (.inl (jn k))] [] (n, ([], M)) v σ' ↔ jE (d + 20 + 1) 197 807 [some (.inr (.inr (some (17, (0, 0))))), some (.inr (.inr (some (10, (0, 0))))), some (.inr (.inr (some (11, (0, 0))))), some (.inl (jn (k + 4)))] [] (n, ([], M2)) v σ' := by
  obtain ⟨M1, M2, w, j1, j2, S2, q1, q2⟩ := (ok_cut S : okC d n K T M 99 170 (lw [.inl (M 17 (0, 0) (k + 1))]) (lm [.inl (M 17 (0, 0) (k + 1))] ++ [none]))
  refine ⟨M2, S2, q2, fun v σ' => ?_⟩
  have hL1 : jSL M1 = jn L := (q1 _ _).trans hL
  have q1' : ∀ i, M1 17 (0, 0) i = M 17 (0, 0) i := fun i => q1 _ _
  simp only [lw, lm, List.map_cons, List.map_nil, List.cons_append, List.nil_append] at j1 j2
  simp (disch := omega) only [s197_367, s197_368, s197_369, s197_370, s197_371, s197_372, s197_373, hL, jn_1, jnP2, jnP3, jiz, jcl]
  rw [jcl_of j1]
  simp (disch := omega) only [s197_376, s197_377, s197_378, s197_379, s197_380, s197_381, s197_382, Option.toList_some, List.cons_append, List.nil_append, hL1, q1', jn_1, jnP2, jnP3, jiz, jcl]
  rw [jcl_of j2]
  simp only [s197_385, Option.toList_some, List.cons_append, List.nil_append]
  rw [if_pos trivial, s197_804, jnP4]
theorem law_play (S : StI K T M) (hK : K ≤ 900000) (hT : T ≤ 900000) (hL : jSL M = jn L) (h1 : k + 4 ≤ L) (h2 : L ≤ 256) : ∃ M2, StI (K + 7) (T + 1) M2 ∧ s17 M M2 ∧ ∀ (v : Option jV) (σ' : jS), jE (d + 20 + 1) 197 390 [some (.inr (.inr (some (17, (0, 0))))), some (.inr (.inr (some (10, (0, 0))))), some (.inr (.inr (some (11, (0, 0))))), some (.inl (jn k))] [] (n, ([], M)) v σ' ↔ jE (d + 20 + 1) 197 807 [some (.inr (.inr (some (17, (0, 0))))), some (.inr (.inr (some (10, (0, 0))))), some (.inr (.inr (some (11, (0, 0))))), some (.inl (jn (k + 4)))] [] (n, ([], M2)) v σ' := by
  obtain ⟨M1, M2, w, j1, j2, S2, q1, q2⟩ := (ok_play S (by omega) : okC d n K T M 100 171 (lw []) (lm []))
  refine ⟨M2, S2, q2, fun v σ' => ?_⟩
  have hL1 : jSL M1 = jn L := (q1 _ _).trans hL
  have q1' : ∀ i, M1 17 (0, 0) i = M 17 (0, 0) i := fun i => q1 _ _
  simp only [lw, lm, List.map_cons, List.map_nil, List.cons_append, List.nil_append] at j1 j2
  simp (disch := omega) only [s197_390, s197_391, hL, jn_1, jnP2, jnP3, jiz, jcl]
  rw [jcl_of j1]
  simp (disch := omega) only [s197_394, s197_395, Option.toList_some, List.cons_append, List.nil_append, hL1, q1', jn_1, jnP2, jnP3, jiz, jcl]
  rw [jcl_of j2]
  simp only [s197_398, Option.toList_some, List.cons_append, List.nil_append]
  rw [if_pos trivial, s197_804, jnP4]
theorem law_swap (S : StI K T M) (hK : K ≤ 900000) (hT : T ≤ 900000) (hL : jSL M = jn L) (h1 : k + 4 ≤ L) (h2 : L ≤ 256) : ∃ M2, StI (K + 7) (T + 1) M2 ∧ s17 M M2 ∧ ∀ (v : Option jV) (σ' : jS), jE (d + 20 + 1) 197 403 [some (.inr (.inr (some (17, (0, 0))))), some (.inr (.inr (some (10, (0, 0))))), some (.inr (.inr (some (11, (0, 0))))), some (.inl (jn k))] [] (n, ([], M)) v σ' ↔ jE (d + 20 + 1) 197 807 [some (.inr (.inr (some (17, (0, 0))))), some (.inr (.inr (some (10, (0, 0))))), some (.inr (.inr (some (11, (0, 0))))), some (.inl (jn (k + 4)))] [] (n, ([], M2)) v σ' := by
  obtain ⟨M1, M2, w, j1, j2, S2, q1, q2⟩ := (ok_swap S : okC d n K T M 101 172 (lw [.inl (M 17 (0, 0) (k + 1)), .inl (M 17 (0, 0) (k + 2))]) (lm [.inl (M 17 (0, 0) (k + 1)), .inl (M 17 (0, 0) (k + 2))]))
  refine ⟨M2, S2, q2, fun v σ' => ?_⟩
  have hL1 : jSL M1 = jn L := (q1 _ _).trans hL
  have q1' : ∀ i, M1 17 (0, 0) i = M 17 (0, 0) i := fun i => q1 _ _
  simp only [lw, lm, List.map_cons, List.map_nil, List.cons_append, List.nil_append] at j1 j2
  simp (disch := omega) only [s197_403, s197_404, s197_405, s197_406, s197_407, s197_408, s197_409, s197_410, s197_411, s197_412, s197_413, s197_414, hL, jn_1, jnP2, jnP3, jiz, jcl]
  rw [jcl_of j1]
  simp (disch := omega) only [s197_417, s197_418, s197_419, s197_420, s197_421, s197_422, s197_423, s197_424, s197_425, s197_426, s197_427, s197_428, Option.toList_some, List.cons_append, List.nil_append, hL1, q1', jn_1, jnP2, jnP3, jiz, jcl]
  rw [jcl_of j2]
  simp only [s197_431, Option.toList_some, List.cons_append, List.nil_append]
  rw [if_pos trivial, s197_804, jnP4]
theorem law_hire (S : StI K T M) (hK : K ≤ 900000) (hT : T ≤ 900000) (hL : jSL M = jn L) (h1 : k + 4 ≤ L) (h2 : L ≤ 256) : ∃ M2, StI (K + 7) (T + 1) M2 ∧ s17 M M2 ∧ ∀ (v : Option jV) (σ' : jS), jE (d + 20 + 1) 197 436 [some (.inr (.inr (some (17, (0, 0))))), some (.inr (.inr (some (10, (0, 0))))), some (.inr (.inr (some (11, (0, 0))))), some (.inl (jn k))] [] (n, ([], M)) v σ' ↔ jE (d + 20 + 1) 197 807 [some (.inr (.inr (some (17, (0, 0))))), some (.inr (.inr (some (10, (0, 0))))), some (.inr (.inr (some (11, (0, 0))))), some (.inl (jn (k + 4)))] [] (n, ([], M2)) v σ' := by
  obtain ⟨M1, M2, w, j1, j2, S2, q1, q2⟩ := (ok_hire S : okC d n K T M 102 173 (lw [.inl (M 17 (0, 0) (k + 1))]) (lm [.inl (M 17 (0, 0) (k + 1))]))
  refine ⟨M2, S2, q2, fun v σ' => ?_⟩
  have hL1 : jSL M1 = jn L := (q1 _ _).trans hL
  have q1' : ∀ i, M1 17 (0, 0) i = M 17 (0, 0) i := fun i => q1 _ _
  simp only [lw, lm, List.map_cons, List.map_nil, List.cons_append, List.nil_append] at j1 j2
  simp (disch := omega) only [s197_436, s197_437, s197_438, s197_439, s197_440, s197_441, s197_442, hL, jn_1, jnP2, jnP3, jiz, jcl]
  rw [jcl_of j1]
  simp (disch := omega) only [s197_445, s197_446, s197_447, s197_448, s197_449, s197_450, s197_451, Option.toList_some, List.cons_append, List.nil_append, hL1, q1', jn_1, jnP2, jnP3, jiz, jcl]
  rw [jcl_of j2]
  simp only [s197_454, Option.toList_some, List.cons_append, List.nil_append]
  rw [if_pos trivial, s197_804, jnP4]
theorem law_undo (S : StI K T M) (hK : K ≤ 900000) (hT : T ≤ 900000) (hL : jSL M = jn L) (h1 : k + 4 ≤ L) (h2 : L ≤ 256) : ∃ M2, StI (K + 7) (T + 1) M2 ∧ s17 M M2 ∧ ∀ (v : Option jV) (σ' : jS), jE (d + 20 + 1) 197 459 [some (.inr (.inr (some (17, (0, 0))))), some (.inr (.inr (some (10, (0, 0))))), some (.inr (.inr (some (11, (0, 0))))), some (.inl (jn k))] [] (n, ([], M)) v σ' ↔ jE (d + 20 + 1) 197 807 [some (.inr (.inr (some (17, (0, 0))))), some (.inr (.inr (some (10, (0, 0))))), some (.inr (.inr (some (11, (0, 0))))), some (.inl (jn (k + 4)))] [] (n, ([], M2)) v σ' := by
  obtain ⟨M1, M2, w, j1, j2, S2, q1, q2⟩ := (ok_undo S : okC d n K T M 103 174 (lw []) (lm [] ++ [none]))
  refine ⟨M2, S2, q2, fun v σ' => ?_⟩
  have hL1 : jSL M1 = jn L := (q1 _ _).trans hL
  have q1' : ∀ i, M1 17 (0, 0) i = M 17 (0, 0) i := fun i => q1 _ _
  simp only [lw, lm, List.map_cons, List.map_nil, List.cons_append, List.nil_append] at j1 j2
  simp (disch := omega) only [s197_459, s197_460, hL, jn_1, jnP2, jnP3, jiz, jcl]
  rw [jcl_of j1]
  simp (disch := omega) only [s197_463, s197_464, Option.toList_some, List.cons_append, List.nil_append, hL1, q1', jn_1, jnP2, jnP3, jiz, jcl]
  rw [jcl_of j2]
  simp only [s197_467, Option.toList_some, List.cons_append, List.nil_append]
  rw [if_pos trivial, s197_804, jnP4]
theorem law_soonest (S : StI K T M) (hK : K ≤ 900000) (hT : T ≤ 900000) (hL : jSL M = jn L) (h1 : k + 4 ≤ L) (h2 : L ≤ 256) : ∃ M2, StI (K + 7) (T + 1) M2 ∧ s17 M M2 ∧ ∀ (v : Option jV) (σ' : jS), jE (d + 20 + 1) 197 472 [some (.inr (.inr (some (17, (0, 0))))), some (.inr (.inr (some (10, (0, 0))))), some (.inr (.inr (some (11, (0, 0))))), some (.inl (jn k))] [] (n, ([], M)) v σ' ↔ jE (d + 20 + 1) 197 807 [some (.inr (.inr (some (17, (0, 0))))), some (.inr (.inr (some (10, (0, 0))))), some (.inr (.inr (some (11, (0, 0))))), some (.inl (jn (k + 4)))] [] (n, ([], M2)) v σ' := by
  obtain ⟨M1, M2, w, j1, j2, S2, q1, q2⟩ := (ok_soonest S (by omega) (by omega) : okC d n K T M 104 178 (lw [.inl (M 17 (0, 0) (k + 1)), .inl (M 17 (0, 0) (k + 2))]) (lm [.inl (M 17 (0, 0) (k + 1)), .inl (M 17 (0, 0) (k + 2))] ++ [none, none, none, none]))
  refine ⟨M2, S2, q2, fun v σ' => ?_⟩
  have hL1 : jSL M1 = jn L := (q1 _ _).trans hL
  have q1' : ∀ i, M1 17 (0, 0) i = M 17 (0, 0) i := fun i => q1 _ _
  simp only [lw, lm, List.map_cons, List.map_nil, List.cons_append, List.nil_append] at j1 j2
  simp (disch := omega) only [s197_472, s197_473, s197_474, s197_475, s197_476, s197_477, s197_478, s197_479, s197_480, s197_481, s197_482, s197_483, hL, jn_1, jnP2, jnP3, jiz, jcl]
  rw [jcl_of j1]
  simp (disch := omega) only [s197_486, s197_487, s197_488, s197_489, s197_490, s197_491, s197_492, s197_493, s197_494, s197_495, s197_496, s197_497, Option.toList_some, List.cons_append, List.nil_append, hL1, q1', jn_1, jnP2, jnP3, jiz, jcl]
  rw [jcl_of j2]
  simp only [s197_500, Option.toList_some, List.cons_append, List.nil_append]
  rw [if_pos trivial, s197_804, jnP4]
theorem law_seating (S : StI K T M) (hK : K ≤ 900000) (hT : T ≤ 900000) (hL : jSL M = jn L) (h1 : k + 4 ≤ L) (h2 : L ≤ 256) : ∃ M2, StI (K + 7) (T + 1) M2 ∧ s17 M M2 ∧ ∀ (v : Option jV) (σ' : jS), jE (d + 20 + 1) 197 505 [some (.inr (.inr (some (17, (0, 0))))), some (.inr (.inr (some (10, (0, 0))))), some (.inr (.inr (some (11, (0, 0))))), some (.inl (jn k))] [] (n, ([], M)) v σ' ↔ jE (d + 20 + 1) 197 807 [some (.inr (.inr (some (17, (0, 0))))), some (.inr (.inr (some (10, (0, 0))))), some (.inr (.inr (some (11, (0, 0))))), some (.inl (jn (k + 4)))] [] (n, ([], M2)) v σ' := by
  obtain ⟨M1, M2, w, j1, j2, S2, q1, q2⟩ := (ok_seating S (by omega) (by omega) : okC d n K T M 105 180 (lw [.inl (M 17 (0, 0) (k + 1))]) (lm [.inl (M 17 (0, 0) (k + 1))] ++ [none, none, none, none]))
  refine ⟨M2, S2, q2, fun v σ' => ?_⟩
  have hL1 : jSL M1 = jn L := (q1 _ _).trans hL
  have q1' : ∀ i, M1 17 (0, 0) i = M 17 (0, 0) i := fun i => q1 _ _
  simp only [lw, lm, List.map_cons, List.map_nil, List.cons_append, List.nil_append] at j1 j2
  simp (disch := omega) only [s197_505, s197_506, s197_507, s197_508, s197_509, s197_510, s197_511, hL, jn_1, jnP2, jnP3, jiz, jcl]
  rw [jcl_of j1]
  simp (disch := omega) only [s197_514, s197_515, s197_516, s197_517, s197_518, s197_519, s197_520, Option.toList_some, List.cons_append, List.nil_append, hL1, q1', jn_1, jnP2, jnP3, jiz, jcl]
  rw [jcl_of j2]
  simp only [s197_523, Option.toList_some, List.cons_append, List.nil_append]
  rw [if_pos trivial, s197_804, jnP4]
theorem law_claques (S : StI K T M) (hK : K ≤ 900000) (hT : T ≤ 900000) (hL : jSL M = jn L) (h1 : k + 4 ≤ L) (h2 : L ≤ 256) : ∃ M2, StI (K + 7) (T + 1) M2 ∧ s17 M M2 ∧ ∀ (v : Option jV) (σ' : jS), jE (d + 20 + 1) 197 528 [some (.inr (.inr (some (17, (0, 0))))), some (.inr (.inr (some (10, (0, 0))))), some (.inr (.inr (some (11, (0, 0))))), some (.inl (jn k))] [] (n, ([], M)) v σ' ↔ jE (d + 20 + 1) 197 807 [some (.inr (.inr (some (17, (0, 0))))), some (.inr (.inr (some (10, (0, 0))))), some (.inr (.inr (some (11, (0, 0))))), some (.inl (jn (k + 4)))] [] (n, ([], M2)) v σ' := by
  obtain ⟨M1, M2, w, j1, j2, S2, q1, q2⟩ := (ok_claques S (by omega) : okC d n K T M 106 181 (lw [.inl (M 17 (0, 0) (k + 1))] ++ [none]) (lm [.inl (M 17 (0, 0) (k + 1))] ++ [none, none, none]))
  refine ⟨M2, S2, q2, fun v σ' => ?_⟩
  have hL1 : jSL M1 = jn L := (q1 _ _).trans hL
  have q1' : ∀ i, M1 17 (0, 0) i = M 17 (0, 0) i := fun i => q1 _ _
  simp only [lw, lm, List.map_cons, List.map_nil, List.cons_append, List.nil_append] at j1 j2
  simp (disch := omega) only [s197_528, s197_529, s197_530, s197_531, s197_532, s197_533, s197_534, hL, jn_1, jnP2, jnP3, jiz, jcl]
  rw [jcl_of j1]
  simp (disch := omega) only [s197_537, s197_538, s197_539, s197_540, s197_541, s197_542, s197_543, Option.toList_some, List.cons_append, List.nil_append, hL1, q1', jn_1, jnP2, jnP3, jiz, jcl]
  rw [jcl_of j2]
  simp only [s197_546, Option.toList_some, List.cons_append, List.nil_append]
  rw [if_pos trivial, s197_804, jnP4]
theorem law_falls (S : StI K T M) (hK : K ≤ 900000) (hT : T ≤ 900000) (hL : jSL M = jn L) (h1 : k + 4 ≤ L) (h2 : L ≤ 256) : ∃ M2, StI (K + 7) (T + 1) M2 ∧ s17 M M2 ∧ ∀ (v : Option jV) (σ' : jS), jE (d + 20 + 1) 197 551 [some (.inr (.inr (some (17, (0, 0))))), some (.inr (.inr (some (10, (0, 0))))), some (.inr (.inr (some (11, (0, 0))))), some (.inl (jn k))] [] (n, ([], M)) v σ' ↔ jE (d + 20 + 1) 197 807 [some (.inr (.inr (some (17, (0, 0))))), some (.inr (.inr (some (10, (0, 0))))), some (.inr (.inr (some (11, (0, 0))))), some (.inl (jn (k + 4)))] [] (n, ([], M2)) v σ' := by
  obtain ⟨M1, M2, w, j1, j2, S2, q1, q2⟩ := (ok_falls S (by omega) : okC d n K T M 107 182 (lw []) (lm [] ++ [none, none]))
  refine ⟨M2, S2, q2, fun v σ' => ?_⟩
  have hL1 : jSL M1 = jn L := (q1 _ _).trans hL
  have q1' : ∀ i, M1 17 (0, 0) i = M 17 (0, 0) i := fun i => q1 _ _
  simp only [lw, lm, List.map_cons, List.map_nil, List.cons_append, List.nil_append] at j1 j2
  simp (disch := omega) only [s197_551, s197_552, hL, jn_1, jnP2, jnP3, jiz, jcl]
  rw [jcl_of j1]
  simp (disch := omega) only [s197_555, s197_556, Option.toList_some, List.cons_append, List.nil_append, hL1, q1', jn_1, jnP2, jnP3, jiz, jcl]
  rw [jcl_of j2]
  simp only [s197_559, Option.toList_some, List.cons_append, List.nil_append]
  rw [if_pos trivial, s197_804, jnP4]
theorem law_run (S : StI K T M) (hK : K ≤ 900000) (hT : T ≤ 900000) (hL : jSL M = jn L) (h1 : k + 4 ≤ L) (h2 : L ≤ 256) : ∃ M2, StI (K + 7) (T + 1) M2 ∧ s17 M M2 ∧ ∀ (v : Option jV) (σ' : jS), jE (d + 20 + 1) 197 564 [some (.inr (.inr (some (17, (0, 0))))), some (.inr (.inr (some (10, (0, 0))))), some (.inr (.inr (some (11, (0, 0))))), some (.inl (jn k))] [] (n, ([], M)) v σ' ↔ jE (d + 20 + 1) 197 807 [some (.inr (.inr (some (17, (0, 0))))), some (.inr (.inr (some (10, (0, 0))))), some (.inr (.inr (some (11, (0, 0))))), some (.inl (jn (k + 4)))] [] (n, ([], M2)) v σ' := by
  obtain ⟨M1, M2, w, j1, j2, S2, q1, q2⟩ := (ok_run S (by omega) : okC d n K T M 108 183 (lw []) (lm [] ++ [none, none]))
  refine ⟨M2, S2, q2, fun v σ' => ?_⟩
  have hL1 : jSL M1 = jn L := (q1 _ _).trans hL
  have q1' : ∀ i, M1 17 (0, 0) i = M 17 (0, 0) i := fun i => q1 _ _
  simp only [lw, lm, List.map_cons, List.map_nil, List.cons_append, List.nil_append] at j1 j2
  simp (disch := omega) only [s197_564, s197_565, hL, jn_1, jnP2, jnP3, jiz, jcl]
  rw [jcl_of j1]
  simp (disch := omega) only [s197_568, s197_569, Option.toList_some, List.cons_append, List.nil_append, hL1, q1', jn_1, jnP2, jnP3, jiz, jcl]
  rw [jcl_of j2]
  simp only [s197_572, Option.toList_some, List.cons_append, List.nil_append]
  rw [if_pos trivial, s197_804, jnP4]
theorem law_most (S : StI K T M) (hK : K ≤ 900000) (hT : T ≤ 900000) (hL : jSL M = jn L) (h1 : k + 4 ≤ L) (h2 : L ≤ 256) : ∃ M2, StI (K + 7) (T + 1) M2 ∧ s17 M M2 ∧ ∀ (v : Option jV) (σ' : jS), jE (d + 20 + 1) 197 577 [some (.inr (.inr (some (17, (0, 0))))), some (.inr (.inr (some (10, (0, 0))))), some (.inr (.inr (some (11, (0, 0))))), some (.inl (jn k))] [] (n, ([], M)) v σ' ↔ jE (d + 20 + 1) 197 807 [some (.inr (.inr (some (17, (0, 0))))), some (.inr (.inr (some (10, (0, 0))))), some (.inr (.inr (some (11, (0, 0))))), some (.inl (jn (k + 4)))] [] (n, ([], M2)) v σ' := by
  obtain ⟨M1, M2, w, j1, j2, S2, q1, q2⟩ := (ok_most S (by omega) : okC d n K T M 109 184 (lw [.inl (M 17 (0, 0) (k + 1))]) (lm [.inl (M 17 (0, 0) (k + 1))] ++ [none, none, none, none, none]))
  refine ⟨M2, S2, q2, fun v σ' => ?_⟩
  have hL1 : jSL M1 = jn L := (q1 _ _).trans hL
  have q1' : ∀ i, M1 17 (0, 0) i = M 17 (0, 0) i := fun i => q1 _ _
  simp only [lw, lm, List.map_cons, List.map_nil, List.cons_append, List.nil_append] at j1 j2
  simp (disch := omega) only [s197_577, s197_578, s197_579, s197_580, s197_581, s197_582, s197_583, hL, jn_1, jnP2, jnP3, jiz, jcl]
  rw [jcl_of j1]
  simp (disch := omega) only [s197_586, s197_587, s197_588, s197_589, s197_590, s197_591, s197_592, Option.toList_some, List.cons_append, List.nil_append, hL1, q1', jn_1, jnP2, jnP3, jiz, jcl]
  rw [jcl_of j2]
  simp only [s197_595, Option.toList_some, List.cons_append, List.nil_append]
  rw [if_pos trivial, s197_804, jnP4]
theorem law_see (S : StI K T M) (hK : K ≤ 900000) (hT : T ≤ 900000) (hL : jSL M = jn L) (h1 : k + 4 ≤ L) (h2 : L ≤ 256) : ∃ M2, StI (K + 7) (T + 1) M2 ∧ s17 M M2 ∧ ∀ (v : Option jV) (σ' : jS), jE (d + 20 + 1) 197 600 [some (.inr (.inr (some (17, (0, 0))))), some (.inr (.inr (some (10, (0, 0))))), some (.inr (.inr (some (11, (0, 0))))), some (.inl (jn k))] [] (n, ([], M)) v σ' ↔ jE (d + 20 + 1) 197 807 [some (.inr (.inr (some (17, (0, 0))))), some (.inr (.inr (some (10, (0, 0))))), some (.inr (.inr (some (11, (0, 0))))), some (.inl (jn (k + 4)))] [] (n, ([], M2)) v σ' := by
  obtain ⟨M1, M2, w, j1, j2, S2, q1, q2⟩ := (ok_see S : okC d n K T M 110 185 (lw [.inl (M 17 (0, 0) (k + 1)), .inl (M 17 (0, 0) (k + 2))]) (lm [.inl (M 17 (0, 0) (k + 1)), .inl (M 17 (0, 0) (k + 2))]))
  refine ⟨M2, S2, q2, fun v σ' => ?_⟩
  have hL1 : jSL M1 = jn L := (q1 _ _).trans hL
  have q1' : ∀ i, M1 17 (0, 0) i = M 17 (0, 0) i := fun i => q1 _ _
  simp only [lw, lm, List.map_cons, List.map_nil, List.cons_append, List.nil_append] at j1 j2
  simp (disch := omega) only [s197_600, s197_601, s197_602, s197_603, s197_604, s197_605, s197_606, s197_607, s197_608, s197_609, s197_610, s197_611, hL, jn_1, jnP2, jnP3, jiz, jcl]
  rw [jcl_of j1]
  simp (disch := omega) only [s197_614, s197_615, s197_616, s197_617, s197_618, s197_619, s197_620, s197_621, s197_622, s197_623, s197_624, s197_625, Option.toList_some, List.cons_append, List.nil_append, hL1, q1', jn_1, jnP2, jnP3, jiz, jcl]
  rw [jcl_of j2]
  simp only [s197_628, Option.toList_some, List.cons_append, List.nil_append]
  rw [if_pos trivial, s197_804, jnP4]
theorem law_forget (S : StI K T M) (hK : K ≤ 900000) (hT : T ≤ 900000) (hL : jSL M = jn L) (h1 : k + 4 ≤ L) (h2 : L ≤ 256) : ∃ M2, StI (K + 7) (T + 1) M2 ∧ s17 M M2 ∧ ∀ (v : Option jV) (σ' : jS), jE (d + 20 + 1) 197 633 [some (.inr (.inr (some (17, (0, 0))))), some (.inr (.inr (some (10, (0, 0))))), some (.inr (.inr (some (11, (0, 0))))), some (.inl (jn k))] [] (n, ([], M)) v σ' ↔ jE (d + 20 + 1) 197 807 [some (.inr (.inr (some (17, (0, 0))))), some (.inr (.inr (some (10, (0, 0))))), some (.inr (.inr (some (11, (0, 0))))), some (.inl (jn (k + 4)))] [] (n, ([], M2)) v σ' := by
  obtain ⟨M1, M2, w, j1, j2, S2, q1, q2⟩ := (ok_forget S : okC d n K T M 111 186 (lw [] ++ [none]) (lm [] ++ [none]))
  refine ⟨M2, S2, q2, fun v σ' => ?_⟩
  have hL1 : jSL M1 = jn L := (q1 _ _).trans hL
  have q1' : ∀ i, M1 17 (0, 0) i = M 17 (0, 0) i := fun i => q1 _ _
  simp only [lw, lm, List.map_cons, List.map_nil, List.cons_append, List.nil_append] at j1 j2
  simp (disch := omega) only [s197_633, s197_634, hL, jn_1, jnP2, jnP3, jiz, jcl]
  rw [jcl_of j1]
  simp (disch := omega) only [s197_637, s197_638, Option.toList_some, List.cons_append, List.nil_append, hL1, q1', jn_1, jnP2, jnP3, jiz, jcl]
  rw [jcl_of j2]
  simp only [s197_641, Option.toList_some, List.cons_append, List.nil_append]
  rw [if_pos trivial, s197_804, jnP4]
theorem law_fits (S : StI K T M) (hK : K ≤ 900000) (hT : T ≤ 900000) (hL : jSL M = jn L) (h1 : k + 4 ≤ L) (h2 : L ≤ 256) : ∃ M2, StI (K + 7) (T + 1) M2 ∧ s17 M M2 ∧ ∀ (v : Option jV) (σ' : jS), jE (d + 20 + 1) 197 646 [some (.inr (.inr (some (17, (0, 0))))), some (.inr (.inr (some (10, (0, 0))))), some (.inr (.inr (some (11, (0, 0))))), some (.inl (jn k))] [] (n, ([], M)) v σ' ↔ jE (d + 20 + 1) 197 807 [some (.inr (.inr (some (17, (0, 0))))), some (.inr (.inr (some (10, (0, 0))))), some (.inr (.inr (some (11, (0, 0))))), some (.inl (jn (k + 4)))] [] (n, ([], M2)) v σ' := by
  obtain ⟨M1, M2, w, j1, j2, S2, q1, q2⟩ := (ok_fits S (by omega) : okC d n K T M 112 188 (lw [.inl (M 17 (0, 0) (k + 1)), .inl (M 17 (0, 0) (k + 2))]) (lm [.inl (M 17 (0, 0) (k + 1)), .inl (M 17 (0, 0) (k + 2))] ++ [none, none, none, none]))
  refine ⟨M2, S2, q2, fun v σ' => ?_⟩
  have hL1 : jSL M1 = jn L := (q1 _ _).trans hL
  have q1' : ∀ i, M1 17 (0, 0) i = M 17 (0, 0) i := fun i => q1 _ _
  simp only [lw, lm, List.map_cons, List.map_nil, List.cons_append, List.nil_append] at j1 j2
  simp (disch := omega) only [s197_646, s197_647, s197_648, s197_649, s197_650, s197_651, s197_652, s197_653, s197_654, s197_655, s197_656, s197_657, hL, jn_1, jnP2, jnP3, jiz, jcl]
  rw [jcl_of j1]
  simp (disch := omega) only [s197_660, s197_661, s197_662, s197_663, s197_664, s197_665, s197_666, s197_667, s197_668, s197_669, s197_670, s197_671, Option.toList_some, List.cons_append, List.nil_append, hL1, q1', jn_1, jnP2, jnP3, jiz, jcl]
  rw [jcl_of j2]
  simp only [s197_674, Option.toList_some, List.cons_append, List.nil_append]
  rw [if_pos trivial, s197_804, jnP4]
theorem law_coughs (S : StI K T M) (hK : K ≤ 900000) (hT : T ≤ 900000) (hL : jSL M = jn L) (h1 : k + 4 ≤ L) (h2 : L ≤ 256) : ∃ M2, StI (K + 7) (T + 1) M2 ∧ s17 M M2 ∧ ∀ (v : Option jV) (σ' : jS), jE (d + 20 + 1) 197 679 [some (.inr (.inr (some (17, (0, 0))))), some (.inr (.inr (some (10, (0, 0))))), some (.inr (.inr (some (11, (0, 0))))), some (.inl (jn k))] [] (n, ([], M)) v σ' ↔ jE (d + 20 + 1) 197 807 [some (.inr (.inr (some (17, (0, 0))))), some (.inr (.inr (some (10, (0, 0))))), some (.inr (.inr (some (11, (0, 0))))), some (.inl (jn (k + 4)))] [] (n, ([], M2)) v σ' := by
  obtain ⟨M1, M2, w, j1, j2, S2, q1, q2⟩ := (ok_coughs S (by omega) : okC d n K T M 113 189 (lw [.inl (M 17 (0, 0) (k + 1)), .inl (M 17 (0, 0) (k + 2))]) (lm [.inl (M 17 (0, 0) (k + 1)), .inl (M 17 (0, 0) (k + 2))] ++ [none, none, none, none, none, none]))
  refine ⟨M2, S2, q2, fun v σ' => ?_⟩
  have hL1 : jSL M1 = jn L := (q1 _ _).trans hL
  have q1' : ∀ i, M1 17 (0, 0) i = M 17 (0, 0) i := fun i => q1 _ _
  simp only [lw, lm, List.map_cons, List.map_nil, List.cons_append, List.nil_append] at j1 j2
  simp (disch := omega) only [s197_679, s197_680, s197_681, s197_682, s197_683, s197_684, s197_685, s197_686, s197_687, s197_688, s197_689, s197_690, hL, jn_1, jnP2, jnP3, jiz, jcl]
  rw [jcl_of j1]
  simp (disch := omega) only [s197_693, s197_694, s197_695, s197_696, s197_697, s197_698, s197_699, s197_700, s197_701, s197_702, s197_703, s197_704, Option.toList_some, List.cons_append, List.nil_append, hL1, q1', jn_1, jnP2, jnP3, jiz, jcl]
  rw [jcl_of j2]
  simp only [s197_707, Option.toList_some, List.cons_append, List.nil_append]
  rw [if_pos trivial, s197_804, jnP4]
theorem law_season (S : StI K T M) (hK : K ≤ 900000) (hT : T ≤ 900000) (hL : jSL M = jn L) (h1 : k + 4 ≤ L) (h2 : L ≤ 256) : ∃ M2, StI (K + 7) (T + 1) M2 ∧ s17 M M2 ∧ ∀ (v : Option jV) (σ' : jS), jE (d + 20 + 1) 197 712 [some (.inr (.inr (some (17, (0, 0))))), some (.inr (.inr (some (10, (0, 0))))), some (.inr (.inr (some (11, (0, 0))))), some (.inl (jn k))] [] (n, ([], M)) v σ' ↔ jE (d + 20 + 1) 197 807 [some (.inr (.inr (some (17, (0, 0))))), some (.inr (.inr (some (10, (0, 0))))), some (.inr (.inr (some (11, (0, 0))))), some (.inl (jn (k + 4)))] [] (n, ([], M2)) v σ' := by
  obtain ⟨M1, M2, w, j1, j2, S2, q1, q2⟩ := (ok_season S (by omega) : okC d n K T M 114 191 (lw [.inl (M 17 (0, 0) (k + 1)), .inl (M 17 (0, 0) (k + 2)), .inl (M 17 (0, 0) (k + 3))]) (lm [.inl (M 17 (0, 0) (k + 1)), .inl (M 17 (0, 0) (k + 2)), .inl (M 17 (0, 0) (k + 3))] ++ [none, none, none, none]))
  refine ⟨M2, S2, q2, fun v σ' => ?_⟩
  have hL1 : jSL M1 = jn L := (q1 _ _).trans hL
  have q1' : ∀ i, M1 17 (0, 0) i = M 17 (0, 0) i := fun i => q1 _ _
  simp only [lw, lm, List.map_cons, List.map_nil, List.cons_append, List.nil_append] at j1 j2
  simp (disch := omega) only [s197_712, s197_713, s197_714, s197_715, s197_716, s197_717, s197_718, s197_719, s197_720, s197_721, s197_722, s197_723, s197_724, s197_725, s197_726, s197_727, s197_728, hL, jn_1, jnP2, jnP3, jiz, jcl]
  rw [jcl_of j1]
  simp (disch := omega) only [s197_731, s197_732, s197_733, s197_734, s197_735, s197_736, s197_737, s197_738, s197_739, s197_740, s197_741, s197_742, s197_743, s197_744, s197_745, s197_746, s197_747, Option.toList_some, List.cons_append, List.nil_append, hL1, q1', jn_1, jnP2, jnP3, jiz, jcl]
  rw [jcl_of j2]
  simp only [s197_750, Option.toList_some, List.cons_append, List.nil_append]
  rw [if_pos trivial, s197_804, jnP4]
theorem law_keep (S : StI K T M) (hK : K ≤ 900000) (hT : T ≤ 900000) (hL : jSL M = jn L) (h1 : k + 4 ≤ L) (h2 : L ≤ 256) : ∃ M2, StI (K + 7) (T + 1) M2 ∧ s17 M M2 ∧ ∀ (v : Option jV) (σ' : jS), jE (d + 20 + 1) 197 755 [some (.inr (.inr (some (17, (0, 0))))), some (.inr (.inr (some (10, (0, 0))))), some (.inr (.inr (some (11, (0, 0))))), some (.inl (jn k))] [] (n, ([], M)) v σ' ↔ jE (d + 20 + 1) 197 807 [some (.inr (.inr (some (17, (0, 0))))), some (.inr (.inr (some (10, (0, 0))))), some (.inr (.inr (some (11, (0, 0))))), some (.inl (jn (k + 4)))] [] (n, ([], M2)) v σ' := by
  obtain ⟨M1, M2, w, j1, j2, S2, q1, q2⟩ := (ok_keep S : okC d n K T M 115 192 (lw []) (lm [] ++ [none]))
  refine ⟨M2, S2, q2, fun v σ' => ?_⟩
  have hL1 : jSL M1 = jn L := (q1 _ _).trans hL
  have q1' : ∀ i, M1 17 (0, 0) i = M 17 (0, 0) i := fun i => q1 _ _
  simp only [lw, lm, List.map_cons, List.map_nil, List.cons_append, List.nil_append] at j1 j2
  simp (disch := omega) only [s197_755, s197_756, hL, jn_1, jnP2, jnP3, jiz, jcl]
  rw [jcl_of j1]
  simp (disch := omega) only [s197_759, s197_760, Option.toList_some, List.cons_append, List.nil_append, hL1, q1', jn_1, jnP2, jnP3, jiz, jcl]
  rw [jcl_of j2]
  simp only [s197_763, Option.toList_some, List.cons_append, List.nil_append]
  rw [if_pos trivial, s197_804, jnP4]
theorem law_back (S : StI K T M) (hK : K ≤ 900000) (hT : T ≤ 900000) (hL : jSL M = jn L) (h1 : k + 4 ≤ L) (h2 : L ≤ 256) : ∃ M2, StI (K + 7) (T + 1) M2 ∧ s17 M M2 ∧ ∀ (v : Option jV) (σ' : jS), jE (d + 20 + 1) 197 768 [some (.inr (.inr (some (17, (0, 0))))), some (.inr (.inr (some (10, (0, 0))))), some (.inr (.inr (some (11, (0, 0))))), some (.inl (jn k))] [] (n, ([], M)) v σ' ↔ jE (d + 20 + 1) 197 807 [some (.inr (.inr (some (17, (0, 0))))), some (.inr (.inr (some (10, (0, 0))))), some (.inr (.inr (some (11, (0, 0))))), some (.inl (jn (k + 4)))] [] (n, ([], M2)) v σ' := by
  obtain ⟨M1, M2, w, j1, j2, S2, q1, q2⟩ := (ok_back S : okC d n K T M 116 193 (lw []) (lm [] ++ [none]))
  refine ⟨M2, S2, q2, fun v σ' => ?_⟩
  have hL1 : jSL M1 = jn L := (q1 _ _).trans hL
  have q1' : ∀ i, M1 17 (0, 0) i = M 17 (0, 0) i := fun i => q1 _ _
  simp only [lw, lm, List.map_cons, List.map_nil, List.cons_append, List.nil_append] at j1 j2
  simp (disch := omega) only [s197_768, s197_769, hL, jn_1, jnP2, jnP3, jiz, jcl]
  rw [jcl_of j1]
  simp (disch := omega) only [s197_772, s197_773, Option.toList_some, List.cons_append, List.nil_append, hL1, q1', jn_1, jnP2, jnP3, jiz, jcl]
  rw [jcl_of j2]
  simp only [s197_776, Option.toList_some, List.cons_append, List.nil_append]
  rw [if_pos trivial, s197_804, jnP4]
theorem law_count (S : StI K T M) (hK : K ≤ 900000) (hT : T ≤ 900000) (hL : jSL M = jn L) (h1 : k + 4 ≤ L) (h2 : L ≤ 256) : ∃ M2, StI (K + 7) (T + 1) M2 ∧ s17 M M2 ∧ ∀ (v : Option jV) (σ' : jS), jE (d + 20 + 1) 197 781 [some (.inr (.inr (some (17, (0, 0))))), some (.inr (.inr (some (10, (0, 0))))), some (.inr (.inr (some (11, (0, 0))))), some (.inl (jn k))] [] (n, ([], M)) v σ' ↔ jE (d + 20 + 1) 197 807 [some (.inr (.inr (some (17, (0, 0))))), some (.inr (.inr (some (10, (0, 0))))), some (.inr (.inr (some (11, (0, 0))))), some (.inl (jn (k + 4)))] [] (n, ([], M2)) v σ' := by
  obtain ⟨M1, M2, w, j1, j2, S2, q1, q2⟩ := (ok_count S : okC d n K T M 117 194 (lw [.inl (M 17 (0, 0) (k + 1))]) (lm [.inl (M 17 (0, 0) (k + 1))]))
  refine ⟨M2, S2, q2, fun v σ' => ?_⟩
  have hL1 : jSL M1 = jn L := (q1 _ _).trans hL
  have q1' : ∀ i, M1 17 (0, 0) i = M 17 (0, 0) i := fun i => q1 _ _
  simp only [lw, lm, List.map_cons, List.map_nil, List.cons_append, List.nil_append] at j1 j2
  simp (disch := omega) only [s197_781, s197_782, s197_783, s197_784, s197_785, s197_786, s197_787, hL, jn_1, jnP2, jnP3, jiz, jcl]
  rw [jcl_of j1]
  simp (disch := omega) only [s197_790, s197_791, s197_792, s197_793, s197_794, s197_795, s197_796, Option.toList_some, List.cons_append, List.nil_append, hL1, q1', jn_1, jnP2, jnP3, jiz, jcl]
  rw [jcl_of j2]
  simp only [s197_799, Option.toList_some, List.cons_append, List.nil_append]
  rw [if_pos trivial, s197_804, jnP4]
theorem law_step (S : StI K T M) (hK : K ≤ 900000) (hT : T ≤ 900000) (hL : jSL M = jn L) (h1 : k + 4 ≤ L) (h2 : L ≤ 256) : ∃ M2, StI (K + 7) (T + 1) M2 ∧ s17 M M2 ∧ ∀ (v : Option jV) (σ' : jS), jE (d + 20 + 1) 197 26 [some (.inr (.inr (some (17, (0, 0))))), some (.inr (.inr (some (10, (0, 0))))), some (.inr (.inr (some (11, (0, 0))))), some (.inl (jn k))] [] (n, ([], M)) v σ' ↔ jE (d + 20 + 1) 197 807 [some (.inr (.inr (some (17, (0, 0))))), some (.inr (.inr (some (10, (0, 0))))), some (.inr (.inr (some (11, (0, 0))))), some (.inl (jn (k + 4)))] [] (n, ([], M2)) v σ' := by
  have hd : ∀ (v : Option jV) (σ' : jS), jE (d + 20 + 1) 197 26 [some (.inr (.inr (some (17, (0, 0))))), some (.inr (.inr (some (10, (0, 0))))), some (.inr (.inr (some (11, (0, 0))))), some (.inl (jn k))] [] (n, ([], M)) v σ' ↔ jE (d + 20 + 1) 197 32 [some (.inr (.inr (some (17, (0, 0))))), some (.inr (.inr (some (10, (0, 0))))), some (.inr (.inr (some (11, (0, 0))))), some (.inl (jn k))] [.inl (M 17 (0, 0) k &&& 31)] (n, ([], M)) v σ' := by
    intro v σ'
    simp (disch := omega) only [s197_26, s197_27, s197_28, s197_29, s197_31, hL, jiz, jcl]
  generalize M 17 (0, 0) k &&& 31 = x at hd
  by_cases e0 : x.toInt = 0
  · obtain ⟨M2, y1, y2, y3⟩ := law_write (d := d) (n := n) S hK hT hL h1 h2
    refine ⟨M2, y1, y2, fun v σ' => ?_⟩
    rw [hd, s197_32, if_pos e0]
    exact y3 v σ'
  by_cases e1 : x.toInt = 1
  · obtain ⟨M2, y1, y2, y3⟩ := law_wipe (d := d) (n := n) S hK hT hL h1 h2
    refine ⟨M2, y1, y2, fun v σ' => ?_⟩
    rw [hd, s197_32, if_neg e0, if_pos e1]
    exact y3 v σ'
  by_cases e2 : x.toInt = 2
  · obtain ⟨M2, y1, y2, y3⟩ := law_fault (d := d) (n := n) S hK hT hL h1 h2
    refine ⟨M2, y1, y2, fun v σ' => ?_⟩
    rw [hd, s197_32, if_neg e0, if_neg e1, if_pos e2]
    exact y3 v σ'
  by_cases e3 : x.toInt = 3
  · obtain ⟨M2, y1, y2, y3⟩ := law_lay (d := d) (n := n) S hK hT hL h1 h2
    refine ⟨M2, y1, y2, fun v σ' => ?_⟩
    rw [hd, s197_32, if_neg e0, if_neg e1, if_neg e2, if_pos e3]
    exact y3 v σ'
  by_cases e4 : x.toInt = 4
  · obtain ⟨M2, y1, y2, y3⟩ := law_scene (d := d) (n := n) S hK hT hL h1 h2
    refine ⟨M2, y1, y2, fun v σ' => ?_⟩
    rw [hd, s197_32, if_neg e0, if_neg e1, if_neg e2, if_neg e3, if_pos e4]
    exact y3 v σ'
  by_cases e5 : x.toInt = 5
  · obtain ⟨M2, y1, y2, y3⟩ := law_seat (d := d) (n := n) S hK hT hL h1 h2
    refine ⟨M2, y1, y2, fun v σ' => ?_⟩
    rw [hd, s197_32, if_neg e0, if_neg e1, if_neg e2, if_neg e3, if_neg e4, if_pos e5]
    exact y3 v σ'
  by_cases e6 : x.toInt = 6
  · obtain ⟨M2, y1, y2, y3⟩ := law_tonight (d := d) (n := n) S hK hT hL h1 h2
    refine ⟨M2, y1, y2, fun v σ' => ?_⟩
    rw [hd, s197_32, if_neg e0, if_neg e1, if_neg e2, if_neg e3, if_neg e4, if_neg e5, if_pos e6]
    exact y3 v σ'
  by_cases e7 : x.toInt = 7
  · obtain ⟨M2, y1, y2, y3⟩ := law_passes (d := d) (n := n) S hK hT hL h1 h2
    refine ⟨M2, y1, y2, fun v σ' => ?_⟩
    rw [hd, s197_32, if_neg e0, if_neg e1, if_neg e2, if_neg e3, if_neg e4, if_neg e5, if_neg e6, if_pos e7]
    exact y3 v σ'
  by_cases e8 : x.toInt = 8
  · obtain ⟨M2, y1, y2, y3⟩ := law_add (d := d) (n := n) S hK hT hL h1 h2
    refine ⟨M2, y1, y2, fun v σ' => ?_⟩
    rw [hd, s197_32, if_neg e0, if_neg e1, if_neg e2, if_neg e3, if_neg e4, if_neg e5, if_neg e6, if_neg e7, if_pos e8]
    exact y3 v σ'
  by_cases e9 : x.toInt = 9
  · obtain ⟨M2, y1, y2, y3⟩ := law_cut (d := d) (n := n) S hK hT hL h1 h2
    refine ⟨M2, y1, y2, fun v σ' => ?_⟩
    rw [hd, s197_32, if_neg e0, if_neg e1, if_neg e2, if_neg e3, if_neg e4, if_neg e5, if_neg e6, if_neg e7, if_neg e8, if_pos e9]
    exact y3 v σ'
  by_cases e10 : x.toInt = 10
  · obtain ⟨M2, y1, y2, y3⟩ := law_play (d := d) (n := n) S hK hT hL h1 h2
    refine ⟨M2, y1, y2, fun v σ' => ?_⟩
    rw [hd, s197_32, if_neg e0, if_neg e1, if_neg e2, if_neg e3, if_neg e4, if_neg e5, if_neg e6, if_neg e7, if_neg e8, if_neg e9, if_pos e10]
    exact y3 v σ'
  by_cases e11 : x.toInt = 11
  · obtain ⟨M2, y1, y2, y3⟩ := law_swap (d := d) (n := n) S hK hT hL h1 h2
    refine ⟨M2, y1, y2, fun v σ' => ?_⟩
    rw [hd, s197_32, if_neg e0, if_neg e1, if_neg e2, if_neg e3, if_neg e4, if_neg e5, if_neg e6, if_neg e7, if_neg e8, if_neg e9, if_neg e10, if_pos e11]
    exact y3 v σ'
  by_cases e12 : x.toInt = 12
  · obtain ⟨M2, y1, y2, y3⟩ := law_hire (d := d) (n := n) S hK hT hL h1 h2
    refine ⟨M2, y1, y2, fun v σ' => ?_⟩
    rw [hd, s197_32, if_neg e0, if_neg e1, if_neg e2, if_neg e3, if_neg e4, if_neg e5, if_neg e6, if_neg e7, if_neg e8, if_neg e9, if_neg e10, if_neg e11, if_pos e12]
    exact y3 v σ'
  by_cases e13 : x.toInt = 13
  · obtain ⟨M2, y1, y2, y3⟩ := law_undo (d := d) (n := n) S hK hT hL h1 h2
    refine ⟨M2, y1, y2, fun v σ' => ?_⟩
    rw [hd, s197_32, if_neg e0, if_neg e1, if_neg e2, if_neg e3, if_neg e4, if_neg e5, if_neg e6, if_neg e7, if_neg e8, if_neg e9, if_neg e10, if_neg e11, if_neg e12, if_pos e13]
    exact y3 v σ'
  by_cases e14 : x.toInt = 14
  · obtain ⟨M2, y1, y2, y3⟩ := law_soonest (d := d) (n := n) S hK hT hL h1 h2
    refine ⟨M2, y1, y2, fun v σ' => ?_⟩
    rw [hd, s197_32, if_neg e0, if_neg e1, if_neg e2, if_neg e3, if_neg e4, if_neg e5, if_neg e6, if_neg e7, if_neg e8, if_neg e9, if_neg e10, if_neg e11, if_neg e12, if_neg e13, if_pos e14]
    exact y3 v σ'
  by_cases e15 : x.toInt = 15
  · obtain ⟨M2, y1, y2, y3⟩ := law_seating (d := d) (n := n) S hK hT hL h1 h2
    refine ⟨M2, y1, y2, fun v σ' => ?_⟩
    rw [hd, s197_32, if_neg e0, if_neg e1, if_neg e2, if_neg e3, if_neg e4, if_neg e5, if_neg e6, if_neg e7, if_neg e8, if_neg e9, if_neg e10, if_neg e11, if_neg e12, if_neg e13, if_neg e14, if_pos e15]
    exact y3 v σ'
  by_cases e16 : x.toInt = 16
  · obtain ⟨M2, y1, y2, y3⟩ := law_claques (d := d) (n := n) S hK hT hL h1 h2
    refine ⟨M2, y1, y2, fun v σ' => ?_⟩
    rw [hd, s197_32, if_neg e0, if_neg e1, if_neg e2, if_neg e3, if_neg e4, if_neg e5, if_neg e6, if_neg e7, if_neg e8, if_neg e9, if_neg e10, if_neg e11, if_neg e12, if_neg e13, if_neg e14, if_neg e15, if_pos e16]
    exact y3 v σ'
  by_cases e17 : x.toInt = 17
  · obtain ⟨M2, y1, y2, y3⟩ := law_falls (d := d) (n := n) S hK hT hL h1 h2
    refine ⟨M2, y1, y2, fun v σ' => ?_⟩
    rw [hd, s197_32, if_neg e0, if_neg e1, if_neg e2, if_neg e3, if_neg e4, if_neg e5, if_neg e6, if_neg e7, if_neg e8, if_neg e9, if_neg e10, if_neg e11, if_neg e12, if_neg e13, if_neg e14, if_neg e15, if_neg e16, if_pos e17]
    exact y3 v σ'
  by_cases e18 : x.toInt = 18
  · obtain ⟨M2, y1, y2, y3⟩ := law_run (d := d) (n := n) S hK hT hL h1 h2
    refine ⟨M2, y1, y2, fun v σ' => ?_⟩
    rw [hd, s197_32, if_neg e0, if_neg e1, if_neg e2, if_neg e3, if_neg e4, if_neg e5, if_neg e6, if_neg e7, if_neg e8, if_neg e9, if_neg e10, if_neg e11, if_neg e12, if_neg e13, if_neg e14, if_neg e15, if_neg e16, if_neg e17, if_pos e18]
    exact y3 v σ'
  by_cases e19 : x.toInt = 19
  · obtain ⟨M2, y1, y2, y3⟩ := law_most (d := d) (n := n) S hK hT hL h1 h2
    refine ⟨M2, y1, y2, fun v σ' => ?_⟩
    rw [hd, s197_32, if_neg e0, if_neg e1, if_neg e2, if_neg e3, if_neg e4, if_neg e5, if_neg e6, if_neg e7, if_neg e8, if_neg e9, if_neg e10, if_neg e11, if_neg e12, if_neg e13, if_neg e14, if_neg e15, if_neg e16, if_neg e17, if_neg e18, if_pos e19]
    exact y3 v σ'
  by_cases e20 : x.toInt = 20
  · obtain ⟨M2, y1, y2, y3⟩ := law_see (d := d) (n := n) S hK hT hL h1 h2
    refine ⟨M2, y1, y2, fun v σ' => ?_⟩
    rw [hd, s197_32, if_neg e0, if_neg e1, if_neg e2, if_neg e3, if_neg e4, if_neg e5, if_neg e6, if_neg e7, if_neg e8, if_neg e9, if_neg e10, if_neg e11, if_neg e12, if_neg e13, if_neg e14, if_neg e15, if_neg e16, if_neg e17, if_neg e18, if_neg e19, if_pos e20]
    exact y3 v σ'
  by_cases e21 : x.toInt = 21
  · obtain ⟨M2, y1, y2, y3⟩ := law_forget (d := d) (n := n) S hK hT hL h1 h2
    refine ⟨M2, y1, y2, fun v σ' => ?_⟩
    rw [hd, s197_32, if_neg e0, if_neg e1, if_neg e2, if_neg e3, if_neg e4, if_neg e5, if_neg e6, if_neg e7, if_neg e8, if_neg e9, if_neg e10, if_neg e11, if_neg e12, if_neg e13, if_neg e14, if_neg e15, if_neg e16, if_neg e17, if_neg e18, if_neg e19, if_neg e20, if_pos e21]
    exact y3 v σ'
  by_cases e22 : x.toInt = 22
  · obtain ⟨M2, y1, y2, y3⟩ := law_fits (d := d) (n := n) S hK hT hL h1 h2
    refine ⟨M2, y1, y2, fun v σ' => ?_⟩
    rw [hd, s197_32, if_neg e0, if_neg e1, if_neg e2, if_neg e3, if_neg e4, if_neg e5, if_neg e6, if_neg e7, if_neg e8, if_neg e9, if_neg e10, if_neg e11, if_neg e12, if_neg e13, if_neg e14, if_neg e15, if_neg e16, if_neg e17, if_neg e18, if_neg e19, if_neg e20, if_neg e21, if_pos e22]
    exact y3 v σ'
  by_cases e23 : x.toInt = 23
  · obtain ⟨M2, y1, y2, y3⟩ := law_coughs (d := d) (n := n) S hK hT hL h1 h2
    refine ⟨M2, y1, y2, fun v σ' => ?_⟩
    rw [hd, s197_32, if_neg e0, if_neg e1, if_neg e2, if_neg e3, if_neg e4, if_neg e5, if_neg e6, if_neg e7, if_neg e8, if_neg e9, if_neg e10, if_neg e11, if_neg e12, if_neg e13, if_neg e14, if_neg e15, if_neg e16, if_neg e17, if_neg e18, if_neg e19, if_neg e20, if_neg e21, if_neg e22, if_pos e23]
    exact y3 v σ'
  by_cases e24 : x.toInt = 24
  · obtain ⟨M2, y1, y2, y3⟩ := law_season (d := d) (n := n) S hK hT hL h1 h2
    refine ⟨M2, y1, y2, fun v σ' => ?_⟩
    rw [hd, s197_32, if_neg e0, if_neg e1, if_neg e2, if_neg e3, if_neg e4, if_neg e5, if_neg e6, if_neg e7, if_neg e8, if_neg e9, if_neg e10, if_neg e11, if_neg e12, if_neg e13, if_neg e14, if_neg e15, if_neg e16, if_neg e17, if_neg e18, if_neg e19, if_neg e20, if_neg e21, if_neg e22, if_neg e23, if_pos e24]
    exact y3 v σ'
  by_cases e25 : x.toInt = 25
  · obtain ⟨M2, y1, y2, y3⟩ := law_keep (d := d) (n := n) S hK hT hL h1 h2
    refine ⟨M2, y1, y2, fun v σ' => ?_⟩
    rw [hd, s197_32, if_neg e0, if_neg e1, if_neg e2, if_neg e3, if_neg e4, if_neg e5, if_neg e6, if_neg e7, if_neg e8, if_neg e9, if_neg e10, if_neg e11, if_neg e12, if_neg e13, if_neg e14, if_neg e15, if_neg e16, if_neg e17, if_neg e18, if_neg e19, if_neg e20, if_neg e21, if_neg e22, if_neg e23, if_neg e24, if_pos e25]
    exact y3 v σ'
  by_cases e26 : x.toInt = 26
  · obtain ⟨M2, y1, y2, y3⟩ := law_back (d := d) (n := n) S hK hT hL h1 h2
    refine ⟨M2, y1, y2, fun v σ' => ?_⟩
    rw [hd, s197_32, if_neg e0, if_neg e1, if_neg e2, if_neg e3, if_neg e4, if_neg e5, if_neg e6, if_neg e7, if_neg e8, if_neg e9, if_neg e10, if_neg e11, if_neg e12, if_neg e13, if_neg e14, if_neg e15, if_neg e16, if_neg e17, if_neg e18, if_neg e19, if_neg e20, if_neg e21, if_neg e22, if_neg e23, if_neg e24, if_neg e25, if_pos e26]
    exact y3 v σ'
  by_cases e27 : x.toInt = 27
  · obtain ⟨M2, y1, y2, y3⟩ := law_count (d := d) (n := n) S hK hT hL h1 h2
    refine ⟨M2, y1, y2, fun v σ' => ?_⟩
    rw [hd, s197_32, if_neg e0, if_neg e1, if_neg e2, if_neg e3, if_neg e4, if_neg e5, if_neg e6, if_neg e7, if_neg e8, if_neg e9, if_neg e10, if_neg e11, if_neg e12, if_neg e13, if_neg e14, if_neg e15, if_neg e16, if_neg e17, if_neg e18, if_neg e19, if_neg e20, if_neg e21, if_neg e22, if_neg e23, if_neg e24, if_neg e25, if_neg e26, if_pos e27]
    exact y3 v σ'
  refine ⟨M, St_K S (by omega) (by omega), s17_r, fun v σ' => ?_⟩
  rw [hd, s197_32, if_neg e0, if_neg e1, if_neg e2, if_neg e3, if_neg e4, if_neg e5, if_neg e6, if_neg e7, if_neg e8, if_neg e9, if_neg e10, if_neg e11, if_neg e12, if_neg e13, if_neg e14, if_neg e15, if_neg e16, if_neg e17, if_neg e18, if_neg e19, if_neg e20, if_neg e21, if_neg e22, if_neg e23, if_neg e24, if_neg e25, if_neg e26, if_neg e27, s197_804, jnP4]
theorem law_head (hL : jSL M = jn L) (hk : k ≤ 1000) (h2 : L ≤ 256) (v : Option jV) (σ' : jS) : jE (d + 20 + 1) 197 18 [some (.inr (.inr (some (17, (0, 0))))), some (.inr (.inr (some (10, (0, 0))))), some (.inr (.inr (some (11, (0, 0))))), some (.inl (jn k))] [] (n, ([], M)) v σ' ↔ if L < k + 4 then v = some (.inl 1) ∧ σ' = (n, ([], M)) else jE (d + 20 + 1) 197 26 [some (.inr (.inr (some (17, (0, 0))))), some (.inr (.inr (some (10, (0, 0))))), some (.inr (.inr (some (11, (0, 0))))), some (.inl (jn k))] [] (n, ([], M)) v σ' := by
  simp only [s197_18, s197_19, s197_20, s197_21, s197_22, s197_23, s197_810, s197_811, hL]
  by_cases h : L < k + 4
  · rw [if_pos h, if_pos]
    · exact ⟨fun q => q.2, fun q => ⟨by simp, q⟩⟩
    · show jn L - jn 4 < jn k
      by_cases h4 : L < 4
      · exact Int32.lt_of_lt_of_le (jn_sub_neg h4 (by omega)) (jn_pos (by omega))
      · rw [jn_sub (by omega)]
        exact (jn_lt (by omega) (by omega)).mpr (by omega)
  · rw [if_neg h, if_neg]
    show ¬ jn L - jn 4 < jn k
    rw [jn_sub (by omega)]
    exact fun z => absurd ((jn_lt (by omega) (by omega)).mp z) (by omega)
theorem law_loop : ∀ (m i : Nat) (M : jM), m + i = 65 → StI (7 * i) (i + 1) M → jSL M = jn L → L ≤ 256 → ∃ M2, ∀ (v : Option jV) (σ' : jS), jE (d + 20 + 1) 197 18 [some (.inr (.inr (some (17, (0, 0))))), some (.inr (.inr (some (10, (0, 0))))), some (.inr (.inr (some (11, (0, 0))))), some (.inl (jn (4 * i)))] [] (n, ([], M)) v σ' ↔ v = some (.inl 1) ∧ σ' = (n, ([], M2)) := by
  intro m
  induction m with
  | zero =>
    intro i M hm S hL h2
    refine ⟨M, fun v σ' => ?_⟩
    rw [law_head hL (by omega) h2, if_pos (by omega)]
  | succ m ih =>
    intro i M hm S hL h2
    by_cases h : L < 4 * i + 4
    · refine ⟨M, fun v σ' => ?_⟩
      rw [law_head hL (by omega) h2, if_pos h]
    · obtain ⟨M1, S1, q1, y1⟩ := law_step (d := d) (n := n) S (by omega) (by omega) hL (show 4 * i + 4 ≤ L by omega) h2
      obtain ⟨M2, y2⟩ := ih (i + 1) M1 (by omega) S1 ((q1 _ _).trans hL) h2
      refine ⟨M2, fun v σ' => ?_⟩
      rw [law_head hL (by omega) h2, if_neg h, y1, s197_807, show 4 * i + 4 = 4 * (i + 1) by omega]
      exact y2 v σ'
/-- the law from its loop on -/
theorem law_all (S : StI 0 1 M) (hL : jSL M = jn L) (h2 : L ≤ 256) : ∃ M2, jE (d + 20 + 1) 197 18 [some (.inr (.inr (some (17, (0, 0))))), some (.inr (.inr (some (10, (0, 0))))), some (.inr (.inr (some (11, (0, 0))))), some (.inl (jn 0))] [] (n, ([], M)) (some (.inl 1)) (n, ([], M2)) := by
  obtain ⟨M2, y⟩ := law_loop (d := d) (n := n) 65 0 M rfl S hL h2
  exact ⟨M2, (y _ _).mpr ⟨rfl, rfl⟩⟩
end JLAW
