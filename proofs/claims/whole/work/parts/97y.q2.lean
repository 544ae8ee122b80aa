/-! the law, case by case -/
section Y1
variable {G : MG} {b L : Nat} {xs : Nat → Int} {h : MH} {i : Int}
theorem LC_feed {s si im bd : Int → Int} {hi rn : Int} (z : LK G b L xs s si im hi rn bd h) (hX : ∀ k : Int, iR (xs (i + k).toNat)) (i0 : 0 ≤ i ∧ i + 4 ≤ L) (hL : L ≤ 2048) (hr : h.1 + 200 ≤ maxC ∧ h.2.1 + 1000 ≤ maxS) : ∃ h2 : MH, LE G b L xs h2 ∧ (h2.1 ≤ h.1 + 100 ∧ h2.2.1 ≤ h.2.1 + 400) ∧ ∀ Q : KQ, wp G 250 226 188 [some (vR b), some (vR G.1), some (vR (G.1 + 70)), some (vI i)] [] h Q = wp G 250 226 1211 [some (vR b), some (vR G.1), some (vR (G.1 + 70)), some (vI i)] [] h2 Q := by
  obtain ⟨⟨Bs, ad, vn, vi, vt, st, zK⟩, zM, ⟨zs, zi⟩, zh, zS, hb, hxs⟩ := id z
  have okp := K_p zK
  have hh : hi = 0 ∨ hi = 1 := zK.2.2.2.1.2
  have hrn : 0 ≤ rn ∧ rn ≤ 100 := ⟨zK.2.2.2.2.2.2.2.2.2.1, zK.2.2.2.2.2.2.2.2.2.2.1⟩
  obtain ⟨h1, h2, e, k, ⟨t1, t2, s1, s2⟩, wA, wM⟩ := L_step (kA := 250) (kM := 250) (yA := 1) (yM := 138) z (A_feed (d := 247) zK (x := (xs (i + 1).toNat))) (fun h1 z1 zS1 => N_feed (G := G) (d := 247) okp z1 (x := (xs (i + 1).toNat))) ⟨zO_feed okp zs, zi⟩ zh
  refine ⟨h2, e, k, fun Q => ?_⟩
  simp (disch := omega) only [KK, Int.reduceEq, not_false_iff, ↓reduceIte, ↓if_pos, ↓if_neg, xt_o, true_and, nlO_i, nlO_n, nlO_r, List.length_nil, List.length_cons, Nat.reduceAdd, Nat.reduceLeDiff, Nat.zero_le, u226_188, u226_189, u226_190, u226_191, u226_192, u226_193, u226_194, u226_197, u226_198, u226_199, u226_200, u226_201, u226_202, u226_203, u226_206, u226_209, u226_210, t1, t2, s1, s2, wA, wM, VS12, VS13, xa_s, ar_add, eq_self, true_or, or_true]
theorem LC_valley {s si im bd : Int → Int} {hi rn : Int} (z : LK G b L xs s si im hi rn bd h) (hX : ∀ k : Int, iR (xs (i + k).toNat)) (i0 : 0 ≤ i ∧ i + 4 ≤ L) (hL : L ≤ 2048) (hr : h.1 + 200 ≤ maxC ∧ h.2.1 + 1000 ≤ maxS) : ∃ h2 : MH, LE G b L xs h2 ∧ (h2.1 ≤ h.1 + 100 ∧ h2.2.1 ≤ h.2.1 + 400) ∧ ∀ Q : KQ, wp G 250 226 211 [some (vR b), some (vR G.1), some (vR (G.1 + 70)), some (vI i)] [] h Q = wp G 250 226 1211 [some (vR b), some (vR G.1), some (vR (G.1 + 70)), some (vI i)] [] h2 Q := by
  obtain ⟨⟨Bs, ad, vn, vi, vt, st, zK⟩, zM, ⟨zs, zi⟩, zh, zS, hb, hxs⟩ := id z
  have okp := K_p zK
  have hh : hi = 0 ∨ hi = 1 := zK.2.2.2.1.2
  have hrn : 0 ≤ rn ∧ rn ≤ 100 := ⟨zK.2.2.2.2.2.2.2.2.2.1, zK.2.2.2.2.2.2.2.2.2.2.1⟩
  obtain ⟨h1, h2, e, k, ⟨t1, t2, s1, s2⟩, wA, wM⟩ := L_step (kA := 250) (kM := 250) (yA := 2) (yM := 140) z (A_valley (d := 224) zK zS ⟨by omega, by omega⟩) (fun h1 z1 zS1 => N_valley (G := G) (d := 224) okp z1 zS1 (by omega)) ⟨zO_val okp zs, zi⟩ zh
  refine ⟨h2, e, k, fun Q => ?_⟩
  simp (disch := omega) only [KK, Int.reduceEq, not_false_iff, ↓reduceIte, ↓if_pos, ↓if_neg, xt_o, true_and, nlO_i, nlO_n, nlO_r, List.length_nil, List.length_cons, Nat.reduceAdd, Nat.reduceLeDiff, Nat.zero_le, u226_211, u226_212, u226_215, u226_216, u226_219, u226_222, u226_223, t1, t2, s1, s2, wA, wM, VS12, VS13, xa_s, ar_add, eq_self, true_or, or_true]
theorem LC_aunt {s si im bd : Int → Int} {hi rn : Int} (z : LK G b L xs s si im hi rn bd h) (hX : ∀ k : Int, iR (xs (i + k).toNat)) (i0 : 0 ≤ i ∧ i + 4 ≤ L) (hL : L ≤ 2048) (hr : h.1 + 200 ≤ maxC ∧ h.2.1 + 1000 ≤ maxS) : ∃ h2 : MH, LE G b L xs h2 ∧ (h2.1 ≤ h.1 + 100 ∧ h2.2.1 ≤ h.2.1 + 400) ∧ ∀ Q : KQ, wp G 250 226 224 [some (vR b), some (vR G.1), some (vR (G.1 + 70)), some (vI i)] [] h Q = wp G 250 226 1211 [some (vR b), some (vR G.1), some (vR (G.1 + 70)), some (vI i)] [] h2 Q := by
  obtain ⟨⟨Bs, ad, vn, vi, vt, st, zK⟩, zM, ⟨zs, zi⟩, zh, zS, hb, hxs⟩ := id z
  have okp := K_p zK
  have hh : hi = 0 ∨ hi = 1 := zK.2.2.2.1.2
  have hrn : 0 ≤ rn ∧ rn ≤ 100 := ⟨zK.2.2.2.2.2.2.2.2.2.1, zK.2.2.2.2.2.2.2.2.2.2.1⟩
  obtain ⟨h1, h2, e, k, ⟨t1, t2, s1, s2⟩, wA, wM⟩ := L_step (kA := 250) (kM := 250) (yA := 4) (yM := 153) z (A_aunt (d := 243) zK ⟨by omega, by omega⟩ (k := (xs (i + 1).toNat)) (v := (xs (i + 2).toNat)) (kn := (xs (i + 3).toNat))) (fun h1 z1 zS1 => N_aunt (G := G) (d := 247) okp z1 (k := (xs (i + 1).toNat)) (v := (xs (i + 2).toNat)) (kn := (xs (i + 3).toNat))) ⟨zO_aunt okp zs, zi⟩ zh
  refine ⟨h2, e, k, fun Q => ?_⟩
  simp (disch := omega) only [KK, Int.reduceEq, not_false_iff, ↓reduceIte, ↓if_pos, ↓if_neg, xt_o, true_and, nlO_i, nlO_n, nlO_r, List.length_nil, List.length_cons, Nat.reduceAdd, Nat.reduceLeDiff, Nat.zero_le, u226_224, u226_225, u226_226, u226_227, u226_228, u226_229, u226_230, u226_231, u226_232, u226_233, u226_234, u226_235, u226_236, u226_237, u226_238, u226_239, u226_240, u226_243, u226_244, u226_245, u226_246, u226_247, u226_248, u226_249, u226_250, u226_251, u226_252, u226_253, u226_254, u226_255, u226_256, u226_257, u226_258, u226_259, u226_262, u226_265, u226_266, t1, t2, s1, s2, wA, wM, VS12, VS13, xa_s, ar_add, eq_self, true_or, or_true]
theorem LC_of {s si im bd : Int → Int} {hi rn : Int} (z : LK G b L xs s si im hi rn bd h) (hX : ∀ k : Int, iR (xs (i + k).toNat)) (i0 : 0 ≤ i ∧ i + 4 ≤ L) (hL : L ≤ 2048) (hr : h.1 + 200 ≤ maxC ∧ h.2.1 + 1000 ≤ maxS) : ∃ h2 : MH, LE G b L xs h2 ∧ (h2.1 ≤ h.1 + 100 ∧ h2.2.1 ≤ h.2.1 + 400) ∧ ∀ Q : KQ, wp G 250 226 267 [some (vR b), some (vR G.1), some (vR (G.1 + 70)), some (vI i)] [] h Q = wp G 250 226 1211 [some (vR b), some (vR G.1), some (vR (G.1 + 70)), some (vI i)] [] h2 Q := by
  obtain ⟨⟨Bs, ad, vn, vi, vt, st, zK⟩, zM, ⟨zs, zi⟩, zh, zS, hb, hxs⟩ := id z
  have okp := K_p zK
  have hh : hi = 0 ∨ hi = 1 := zK.2.2.2.1.2
  have hrn : 0 ≤ rn ∧ rn ≤ 100 := ⟨zK.2.2.2.2.2.2.2.2.2.1, zK.2.2.2.2.2.2.2.2.2.2.1⟩
  obtain ⟨h1, h2, e, k, ⟨t1, t2, s1, s2⟩, wA, wM⟩ := L_step (kA := 250) (kM := 250) (yA := 7) (yM := 155) z (cQ_S (A_of (d := 245) zK (p := (xs (i + 1).toNat)) (what := (xs (i + 2).toNat)))) (fun h1 z1 zS1 => N_of (G := G) (d := 247) okp z1 (p := (xs (i + 1).toNat)) (w := (xs (i + 2).toNat))) ⟨zs, zi⟩ zh
  refine ⟨h2, e, k, fun Q => ?_⟩
  simp (disch := omega) only [KK, Int.reduceEq, not_false_iff, ↓reduceIte, ↓if_pos, ↓if_neg, xt_o, true_and, nlO_i, nlO_n, nlO_r, List.length_nil, List.length_cons, Nat.reduceAdd, Nat.reduceLeDiff, Nat.zero_le, u226_267, u226_268, u226_269, u226_270, u226_271, u226_272, u226_273, u226_274, u226_275, u226_276, u226_277, u226_278, u226_281, u226_282, u226_283, u226_284, u226_285, u226_286, u226_287, u226_288, u226_289, u226_290, u226_291, u226_292, u226_295, u226_298, u226_299, t1, t2, s1, s2, wA, wM, VS12, VS13, xa_s, ar_add, eq_self, true_or, or_true]
theorem LC_says {s si im bd : Int → Int} {hi rn : Int} (z : LK G b L xs s si im hi rn bd h) (hX : ∀ k : Int, iR (xs (i + k).toNat)) (i0 : 0 ≤ i ∧ i + 4 ≤ L) (hL : L ≤ 2048) (hr : h.1 + 200 ≤ maxC ∧ h.2.1 + 1000 ≤ maxS) : ∃ h2 : MH, LE G b L xs h2 ∧ (h2.1 ≤ h.1 + 100 ∧ h2.2.1 ≤ h.2.1 + 400) ∧ ∀ Q : KQ, wp G 250 226 300 [some (vR b), some (vR G.1), some (vR (G.1 + 70)), some (vI i)] [] h Q = wp G 250 226 1211 [some (vR b), some (vR G.1), some (vR (G.1 + 70)), some (vI i)] [] h2 Q := by
  obtain ⟨⟨Bs, ad, vn, vi, vt, st, zK⟩, zM, ⟨zs, zi⟩, zh, zS, hb, hxs⟩ := id z
  have okp := K_p zK
  have hh : hi = 0 ∨ hi = 1 := zK.2.2.2.1.2
  have hrn : 0 ≤ rn ∧ rn ≤ 100 := ⟨zK.2.2.2.2.2.2.2.2.2.1, zK.2.2.2.2.2.2.2.2.2.2.1⟩
  obtain ⟨h1, h2, e, k, ⟨t1, t2, s1, s2⟩, wA, wM⟩ := L_step (kA := 250) (kM := 250) (yA := 8) (yM := 157) z (cQ_S (A_says (d := 243) zK (p := (xs (i + 1).toNat)) (hd := (xs (i + 2).toNat)) (what := (xs (i + 3).toNat)))) (fun h1 z1 zS1 => N_says (G := G) (d := 246) okp z1 (p := (xs (i + 1).toNat)) (hd := (xs (i + 2).toNat)) (w := (xs (i + 3).toNat))) ⟨zs, zi⟩ zh
  refine ⟨h2, e, k, fun Q => ?_⟩
  simp (disch := omega) only [KK, Int.reduceEq, not_false_iff, ↓reduceIte, ↓if_pos, ↓if_neg, xt_o, true_and, nlO_i, nlO_n, nlO_r, List.length_nil, List.length_cons, Nat.reduceAdd, Nat.reduceLeDiff, Nat.zero_le, u226_300, u226_301, u226_302, u226_303, u226_304, u226_305, u226_306, u226_307, u226_308, u226_309, u226_310, u226_311, u226_312, u226_313, u226_314, u226_315, u226_316, u226_319, u226_320, u226_321, u226_322, u226_323, u226_324, u226_325, u226_326, u226_327, u226_328, u226_329, u226_330, u226_331, u226_332, u226_333, u226_334, u226_335, u226_338, u226_341, u226_342, t1, t2, s1, s2, wA, wM, VS12, VS13, xa_s, ar_add, eq_self, true_or, or_true]
theorem LC_row {s si im bd : Int → Int} {hi rn : Int} (z : LK G b L xs s si im hi rn bd h) (hX : ∀ k : Int, iR (xs (i + k).toNat)) (i0 : 0 ≤ i ∧ i + 4 ≤ L) (hL : L ≤ 2048) (hr : h.1 + 200 ≤ maxC ∧ h.2.1 + 1000 ≤ maxS) : ∃ h2 : MH, LE G b L xs h2 ∧ (h2.1 ≤ h.1 + 100 ∧ h2.2.1 ≤ h.2.1 + 400) ∧ ∀ Q : KQ, wp G 250 226 343 [some (vR b), some (vR G.1), some (vR (G.1 + 70)), some (vI i)] [] h Q = wp G 250 226 1211 [some (vR b), some (vR G.1), some (vR (G.1 + 70)), some (vI i)] [] h2 Q := by
  obtain ⟨⟨Bs, ad, vn, vi, vt, st, zK⟩, zM, ⟨zs, zi⟩, zh, zS, hb, hxs⟩ := id z
  have okp := K_p zK
  have hh : hi = 0 ∨ hi = 1 := zK.2.2.2.1.2
  have hrn : 0 ≤ rn ∧ rn ≤ 100 := ⟨zK.2.2.2.2.2.2.2.2.2.1, zK.2.2.2.2.2.2.2.2.2.2.1⟩
  obtain ⟨h1, h2, e, k, ⟨t1, t2, s1, s2⟩, wA, wM⟩ := L_step (kA := 250) (kM := 250) (yA := 9) (yM := 164) z (A_row (d := 245) zK (p := (xs (i + 1).toNat)) (k := (xs (i + 2).toNat)) (n := (xs (i + 3).toNat))) (fun h1 z1 zS1 => N_row (G := G) (d := 247) okp z1 (p := (xs (i + 1).toNat)) (k := (xs (i + 2).toNat)) (n := (xs (i + 3).toNat))) ⟨zO_row okp zs, zi⟩ zh
  refine ⟨h2, e, k, fun Q => ?_⟩
  simp (disch := omega) only [KK, Int.reduceEq, not_false_iff, ↓reduceIte, ↓if_pos, ↓if_neg, xt_o, true_and, nlO_i, nlO_n, nlO_r, List.length_nil, List.length_cons, Nat.reduceAdd, Nat.reduceLeDiff, Nat.zero_le, u226_343, u226_344, u226_345, u226_346, u226_347, u226_348, u226_349, u226_350, u226_351, u226_352, u226_353, u226_354, u226_355, u226_356, u226_357, u226_358, u226_359, u226_362, u226_363, u226_364, u226_365, u226_366, u226_367, u226_368, u226_369, u226_370, u226_371, u226_372, u226_373, u226_374, u226_375, u226_376, u226_377, u226_378, u226_381, u226_384, u226_385, t1, t2, s1, s2, wA, wM, VS12, VS13, xa_s, ar_add, eq_self, true_or, or_true]
theorem LC_learn {s si im bd : Int → Int} {hi rn : Int} (z : LK G b L xs s si im hi rn bd h) (hX : ∀ k : Int, iR (xs (i + k).toNat)) (i0 : 0 ≤ i ∧ i + 4 ≤ L) (hL : L ≤ 2048) (hr : h.1 + 200 ≤ maxC ∧ h.2.1 + 1000 ≤ maxS) : ∃ h2 : MH, LE G b L xs h2 ∧ (h2.1 ≤ h.1 + 100 ∧ h2.2.1 ≤ h.2.1 + 400) ∧ ∀ Q : KQ, wp G 250 226 386 [some (vR b), some (vR G.1), some (vR (G.1 + 70)), some (vI i)] [] h Q = wp G 250 226 1211 [some (vR b), some (vR G.1), some (vR (G.1 + 70)), some (vI i)] [] h2 Q := by
  obtain ⟨⟨Bs, ad, vn, vi, vt, st, zK⟩, zM, ⟨zs, zi⟩, zh, zS, hb, hxs⟩ := id z
  have okp := K_p zK
  have hh : hi = 0 ∨ hi = 1 := zK.2.2.2.1.2
  have hrn : 0 ≤ rn ∧ rn ≤ 100 := ⟨zK.2.2.2.2.2.2.2.2.2.1, zK.2.2.2.2.2.2.2.2.2.2.1⟩
  obtain ⟨h1, h2, e, k, ⟨t1, t2, s1, s2⟩, wA, wM⟩ := L_step (kA := 250) (kM := 250) (yA := 10) (yM := 166) z (A_learn (d := 245) zK (p := (xs (i + 1).toNat)) (x := (xs (i + 2).toNat))) (fun h1 z1 zS1 => N_learn (G := G) (d := 247) okp z1 (p := (xs (i + 1).toNat)) (x := (xs (i + 2).toNat))) ⟨zO_learn okp zs, zi⟩ zh
  refine ⟨h2, e, k, fun Q => ?_⟩
  simp (disch := omega) only [KK, Int.reduceEq, not_false_iff, ↓reduceIte, ↓if_pos, ↓if_neg, xt_o, true_and, nlO_i, nlO_n, nlO_r, List.length_nil, List.length_cons, Nat.reduceAdd, Nat.reduceLeDiff, Nat.zero_le, u226_386, u226_387, u226_388, u226_389, u226_390, u226_391, u226_392, u226_393, u226_394, u226_395, u226_396, u226_397, u226_400, u226_401, u226_402, u226_403, u226_404, u226_405, u226_406, u226_407, u226_408, u226_409, u226_410, u226_411, u226_414, u226_417, u226_418, t1, t2, s1, s2, wA, wM, VS12, VS13, xa_s, ar_add, eq_self, true_or, or_true]
theorem LC_away {s si im bd : Int → Int} {hi rn : Int} (z : LK G b L xs s si im hi rn bd h) (hX : ∀ k : Int, iR (xs (i + k).toNat)) (i0 : 0 ≤ i ∧ i + 4 ≤ L) (hL : L ≤ 2048) (hr : h.1 + 200 ≤ maxC ∧ h.2.1 + 1000 ≤ maxS) : ∃ h2 : MH, LE G b L xs h2 ∧ (h2.1 ≤ h.1 + 100 ∧ h2.2.1 ≤ h.2.1 + 400) ∧ ∀ Q : KQ, wp G 250 226 419 [some (vR b), some (vR G.1), some (vR (G.1 + 70)), some (vI i)] [] h Q = wp G 250 226 1211 [some (vR b), some (vR G.1), some (vR (G.1 + 70)), some (vI i)] [] h2 Q := by
  obtain ⟨⟨Bs, ad, vn, vi, vt, st, zK⟩, zM, ⟨zs, zi⟩, zh, zS, hb, hxs⟩ := id z
  have okp := K_p zK
  have hh : hi = 0 ∨ hi = 1 := zK.2.2.2.1.2
  have hrn : 0 ≤ rn ∧ rn ≤ 100 := ⟨zK.2.2.2.2.2.2.2.2.2.1, zK.2.2.2.2.2.2.2.2.2.2.1⟩
  by_cases c : xs (i + 2).toNat = 0
  · obtain ⟨h1, h2, e, k, ⟨t1, t2, s1, s2⟩, wA, wM⟩ := L_step (kA := 250) (kM := 250) (yA := 11) (yM := 167) z (A_away (d := 246) zK (p := (xs (i + 1).toNat)) (v := 0) (by decide)) (fun h1 z1 zS1 => N_away (G := G) (d := 247) okp z1 (p := (xs (i + 1).toNat)) (v := 0) (by decide)) ⟨zO_away okp zs, zi⟩ zh
    refine ⟨h2, e, k, fun Q => ?_⟩
    simp (disch := omega) only [KK, Int.reduceEq, not_false_iff, ↓reduceIte, ↓if_pos, ↓if_neg, xt_o, true_and, nlO_i, nlO_n, nlO_r, List.length_nil, List.length_cons, Nat.reduceAdd, Nat.reduceLeDiff, Nat.zero_le, u226_419, u226_420, u226_421, u226_422, u226_423, u226_424, u226_425, u226_426, u226_427, u226_428, u226_429, u226_430, u226_433, u226_434, u226_437, u226_438, u226_441, u226_442, u226_443, u226_444, u226_445, u226_446, u226_447, u226_448, u226_449, u226_450, u226_451, u226_452, u226_455, u226_456, u226_459, u226_460, u226_463, u226_466, u226_467, t1, t2, s1, s2, wA, wM, VS12, VS13, xa_s, ar_add, eq_self, true_or, or_true, c]
  · obtain ⟨h1, h2, e, k, ⟨t1, t2, s1, s2⟩, wA, wM⟩ := L_step (kA := 250) (kM := 250) (yA := 11) (yM := 167) z (A_away (d := 246) zK (p := (xs (i + 1).toNat)) (v := 1) (by decide)) (fun h1 z1 zS1 => N_away (G := G) (d := 247) okp z1 (p := (xs (i + 1).toNat)) (v := 1) (by decide)) ⟨zO_away okp zs, zi⟩ zh
    refine ⟨h2, e, k, fun Q => ?_⟩
    simp (disch := omega) only [KK, Int.reduceEq, not_false_iff, ↓reduceIte, ↓if_pos, ↓if_neg, xt_o, true_and, nlO_i, nlO_n, nlO_r, List.length_nil, List.length_cons, Nat.reduceAdd, Nat.reduceLeDiff, Nat.zero_le, u226_419, u226_420, u226_421, u226_422, u226_423, u226_424, u226_425, u226_426, u226_427, u226_428, u226_429, u226_430, u226_433, u226_434, u226_437, u226_438, u226_441, u226_442, u226_443, u226_444, u226_445, u226_446, u226_447, u226_448, u226_449, u226_450, u226_451, u226_452, u226_455, u226_456, u226_459, u226_460, u226_463, u226_466, u226_467, t1, t2, s1, s2, wA, wM, VS12, VS13, xa_s, ar_add, eq_self, true_or, or_true, c]
theorem LC_weigh {s si im bd : Int → Int} {hi rn : Int} (z : LK G b L xs s si im hi rn bd h) (hX : ∀ k : Int, iR (xs (i + k).toNat)) (i0 : 0 ≤ i ∧ i + 4 ≤ L) (hL : L ≤ 2048) (hr : h.1 + 200 ≤ maxC ∧ h.2.1 + 1000 ≤ maxS) : ∃ h2 : MH, LE G b L xs h2 ∧ (h2.1 ≤ h.1 + 100 ∧ h2.2.1 ≤ h.2.1 + 400) ∧ ∀ Q : KQ, wp G 250 226 468 [some (vR b), some (vR G.1), some (vR (G.1 + 70)), some (vI i)] [] h Q = wp G 250 226 1211 [some (vR b), some (vR G.1), some (vR (G.1 + 70)), some (vI i)] [] h2 Q := by
  obtain ⟨⟨Bs, ad, vn, vi, vt, st, zK⟩, zM, ⟨zs, zi⟩, zh, zS, hb, hxs⟩ := id z
  have okp := K_p zK
  have hh : hi = 0 ∨ hi = 1 := zK.2.2.2.1.2
  have hrn : 0 ≤ rn ∧ rn ≤ 100 := ⟨zK.2.2.2.2.2.2.2.2.2.1, zK.2.2.2.2.2.2.2.2.2.2.1⟩
  obtain ⟨h1, h2, e, k, ⟨t1, t2, s1, s2⟩, wA, wM⟩ := L_step (kA := 250) (kM := 250) (yA := 12) (yM := 168) z (A_weigh (d := 248) zK (f := (xs (i + 1).toNat)) (n := (xs (i + 2).toNat))) (fun h1 z1 zS1 => N_weigh (G := G) (d := 247) z1 (f := (xs (i + 1).toNat)) (n := (xs (i + 2).toNat))) ⟨zO_weigh zs, zi⟩ zh
  refine ⟨h2, e, k, fun Q => ?_⟩
  simp (disch := omega) only [KK, Int.reduceEq, not_false_iff, ↓reduceIte, ↓if_pos, ↓if_neg, xt_o, true_and, nlO_i, nlO_n, nlO_r, List.length_nil, List.length_cons, Nat.reduceAdd, Nat.reduceLeDiff, Nat.zero_le, u226_468, u226_469, u226_470, u226_471, u226_472, u226_473, u226_474, u226_475, u226_476, u226_477, u226_478, u226_479, u226_482, u226_483, u226_484, u226_485, u226_486, u226_487, u226_488, u226_489, u226_490, u226_491, u226_492, u226_493, u226_496, u226_499, u226_500, t1, t2, s1, s2, wA, wM, VS12, VS13, xa_s, ar_add, eq_self, true_or, or_true]
theorem LC_asker {s si im bd : Int → Int} {hi rn : Int} (z : LK G b L xs s si im hi rn bd h) (hX : ∀ k : Int, iR (xs (i + k).toNat)) (i0 : 0 ≤ i ∧ i + 4 ≤ L) (hL : L ≤ 2048) (hr : h.1 + 200 ≤ maxC ∧ h.2.1 + 1000 ≤ maxS) : ∃ h2 : MH, LE G b L xs h2 ∧ (h2.1 ≤ h.1 + 100 ∧ h2.2.1 ≤ h.2.1 + 400) ∧ ∀ Q : KQ, wp G 250 226 501 [some (vR b), some (vR G.1), some (vR (G.1 + 70)), some (vI i)] [] h Q = wp G 250 226 1211 [some (vR b), some (vR G.1), some (vR (G.1 + 70)), some (vI i)] [] h2 Q := by
  obtain ⟨⟨Bs, ad, vn, vi, vt, st, zK⟩, zM, ⟨zs, zi⟩, zh, zS, hb, hxs⟩ := id z
  have okp := K_p zK
  have hh : hi = 0 ∨ hi = 1 := zK.2.2.2.1.2
  have hrn : 0 ≤ rn ∧ rn ≤ 100 := ⟨zK.2.2.2.2.2.2.2.2.2.1, zK.2.2.2.2.2.2.2.2.2.2.1⟩
  obtain ⟨h1, h2, e, k, ⟨t1, t2, s1, s2⟩, wA, wM⟩ := L_step (kA := 250) (kM := 250) (yA := 14) (yM := 169) z (A_asker (d := 243) zK ⟨by omega, by omega⟩) (fun h1 z1 zS1 => N_asker (G := G) (d := 247) okp z1) ⟨zO_asker okp zs, zi⟩ zh
  refine ⟨h2, e, k, fun Q => ?_⟩
  simp (disch := omega) only [KK, Int.reduceEq, not_false_iff, ↓reduceIte, ↓if_pos, ↓if_neg, xt_o, true_and, nlO_i, nlO_n, nlO_r, List.length_nil, List.length_cons, Nat.reduceAdd, Nat.reduceLeDiff, Nat.zero_le, u226_501, u226_502, u226_505, u226_506, u226_509, u226_512, u226_513, t1, t2, s1, s2, wA, wM, VS12, VS13, xa_s, ar_add, eq_self, true_or, or_true]
theorem LC_at {s si im bd : Int → Int} {hi rn : Int} (z : LK G b L xs s si im hi rn bd h) (hX : ∀ k : Int, iR (xs (i + k).toNat)) (i0 : 0 ≤ i ∧ i + 4 ≤ L) (hL : L ≤ 2048) (hr : h.1 + 200 ≤ maxC ∧ h.2.1 + 1000 ≤ maxS) : ∃ h2 : MH, LE G b L xs h2 ∧ (h2.1 ≤ h.1 + 100 ∧ h2.2.1 ≤ h.2.1 + 400) ∧ ∀ Q : KQ, wp G 250 226 514 [some (vR b), some (vR G.1), some (vR (G.1 + 70)), some (vI i)] [] h Q = wp G 250 226 1211 [some (vR b), some (vR G.1), some (vR (G.1 + 70)), some (vI i)] [] h2 Q := by
  obtain ⟨⟨Bs, ad, vn, vi, vt, st, zK⟩, zM, ⟨zs, zi⟩, zh, zS, hb, hxs⟩ := id z
  have okp := K_p zK
  have hh : hi = 0 ∨ hi = 1 := zK.2.2.2.1.2
  have hrn : 0 ≤ rn ∧ rn ≤ 100 := ⟨zK.2.2.2.2.2.2.2.2.2.1, zK.2.2.2.2.2.2.2.2.2.2.1⟩
  obtain ⟨h1, h2, e, k, ⟨t1, t2, s1, s2⟩, wA, wM⟩ := L_step (kA := 250) (kM := 250) (yA := 15) (yM := 171) z (A_at (d := 240) zK ⟨by omega, by omega⟩ (a := (xs (i + 1).toNat)) (w := (xs (i + 2).toNat))) (fun h1 z1 zS1 => N_at (G := G) (d := 243) okp z1 (a := (xs (i + 1).toNat)) (w := (xs (i + 2).toNat))) ⟨zs, zi⟩ zh
  refine ⟨h2, e, k, fun Q => ?_⟩
  simp (disch := omega) only [KK, Int.reduceEq, not_false_iff, ↓reduceIte, ↓if_pos, ↓if_neg, xt_o, true_and, nlO_i, nlO_n, nlO_r, List.length_nil, List.length_cons, Nat.reduceAdd, Nat.reduceLeDiff, Nat.zero_le, u226_514, u226_515, u226_516, u226_517, u226_518, u226_519, u226_520, u226_521, u226_522, u226_523, u226_524, u226_525, u226_528, u226_529, u226_530, u226_531, u226_532, u226_533, u226_534, u226_535, u226_536, u226_537, u226_538, u226_539, u226_542, u226_545, u226_546, t1, t2, s1, s2, wA, wM, VS12, VS13, xa_s, ar_add, eq_self, true_or, or_true]
theorem LC_begin {s si im bd : Int → Int} {hi rn : Int} (z : LK G b L xs s si im hi rn bd h) (hX : ∀ k : Int, iR (xs (i + k).toNat)) (i0 : 0 ≤ i ∧ i + 4 ≤ L) (hL : L ≤ 2048) (hr : h.1 + 200 ≤ maxC ∧ h.2.1 + 1000 ≤ maxS) : ∃ h2 : MH, LE G b L xs h2 ∧ (h2.1 ≤ h.1 + 100 ∧ h2.2.1 ≤ h.2.1 + 400) ∧ ∀ Q : KQ, wp G 250 226 547 [some (vR b), some (vR G.1), some (vR (G.1 + 70)), some (vI i)] [] h Q = wp G 250 226 1211 [some (vR b), some (vR G.1), some (vR (G.1 + 70)), some (vI i)] [] h2 Q := by
  obtain ⟨⟨Bs, ad, vn, vi, vt, st, zK⟩, zM, ⟨zs, zi⟩, zh, zS, hb, hxs⟩ := id z
  have okp := K_p zK
  have hh : hi = 0 ∨ hi = 1 := zK.2.2.2.1.2
  have hrn : 0 ≤ rn ∧ rn ≤ 100 := ⟨zK.2.2.2.2.2.2.2.2.2.1, zK.2.2.2.2.2.2.2.2.2.2.1⟩
  obtain ⟨h1, h2, e, k, ⟨t1, t2, s1, s2⟩, wA, wM⟩ := L_step (kA := 250) (kM := 250) (yA := 17) (yM := 180) z (A_begin (d := 245) zK (a := (xs (i + 1).toNat)) (x := (xs (i + 2).toNat))) (fun h1 z1 zS1 => N_begin (G := G) (d := 247) okp z1 (a := (xs (i + 1).toNat)) (x := (xs (i + 2).toNat))) ⟨zO_begin okp zs, zi⟩ zh
  refine ⟨h2, e, k, fun Q => ?_⟩
  simp (disch := omega) only [KK, Int.reduceEq, not_false_iff, ↓reduceIte, ↓if_pos, ↓if_neg, xt_o, true_and, nlO_i, nlO_n, nlO_r, List.length_nil, List.length_cons, Nat.reduceAdd, Nat.reduceLeDiff, Nat.zero_le, u226_547, u226_548, u226_549, u226_550, u226_551, u226_552, u226_553, u226_554, u226_555, u226_556, u226_557, u226_558, u226_561, u226_562, u226_563, u226_564, u226_565, u226_566, u226_567, u226_568, u226_569, u226_570, u226_571, u226_572, u226_575, u226_578, u226_579, t1, t2, s1, s2, wA, wM, VS12, VS13, xa_s, ar_add, eq_self, true_or, or_true]
theorem LC_told {s si im bd : Int → Int} {hi rn : Int} (z : LK G b L xs s si im hi rn bd h) (hX : ∀ k : Int, iR (xs (i + k).toNat)) (i0 : 0 ≤ i ∧ i + 4 ≤ L) (hL : L ≤ 2048) (hr : h.1 + 200 ≤ maxC ∧ h.2.1 + 1000 ≤ maxS) : ∃ h2 : MH, LE G b L xs h2 ∧ (h2.1 ≤ h.1 + 100 ∧ h2.2.1 ≤ h.2.1 + 400) ∧ ∀ Q : KQ, wp G 250 226 580 [some (vR b), some (vR G.1), some (vR (G.1 + 70)), some (vI i)] [] h Q = wp G 250 226 1211 [some (vR b), some (vR G.1), some (vR (G.1 + 70)), some (vI i)] [] h2 Q := by
  obtain ⟨⟨Bs, ad, vn, vi, vt, st, zK⟩, zM, ⟨zs, zi⟩, zh, zS, hb, hxs⟩ := id z
  have okp := K_p zK
  have hh : hi = 0 ∨ hi = 1 := zK.2.2.2.1.2
  have hrn : 0 ≤ rn ∧ rn ≤ 100 := ⟨zK.2.2.2.2.2.2.2.2.2.1, zK.2.2.2.2.2.2.2.2.2.2.1⟩
  obtain ⟨h1, h2, e, k, ⟨t1, t2, s1, s2⟩, wA, wM⟩ := L_step (kA := 250) (kM := 250) (yA := 18) (yM := 181) z (cQ_S (A_told (d := 244) zK (w := (xs (i + 1).toNat)) (hX 1).2)) (fun h1 z1 zS1 => N_told (G := G) (d := 247) okp z1 (w := (xs (i + 1).toNat))) ⟨zs, zi⟩ zh
  refine ⟨h2, e, k, fun Q => ?_⟩
  simp (disch := omega) only [KK, Int.reduceEq, not_false_iff, ↓reduceIte, ↓if_pos, ↓if_neg, xt_o, true_and, nlO_i, nlO_n, nlO_r, List.length_nil, List.length_cons, Nat.reduceAdd, Nat.reduceLeDiff, Nat.zero_le, u226_580, u226_581, u226_582, u226_583, u226_584, u226_585, u226_586, u226_589, u226_590, u226_591, u226_592, u226_593, u226_594, u226_595, u226_598, u226_601, u226_602, t1, t2, s1, s2, wA, wM, VS12, VS13, xa_s, ar_add, eq_self, true_or, or_true]
theorem LC_pass {s si im bd : Int → Int} {hi rn : Int} (z : LK G b L xs s si im hi rn bd h) (hX : ∀ k : Int, iR (xs (i + k).toNat)) (i0 : 0 ≤ i ∧ i + 4 ≤ L) (hL : L ≤ 2048) (hr : h.1 + 200 ≤ maxC ∧ h.2.1 + 1000 ≤ maxS) : ∃ h2 : MH, LE G b L xs h2 ∧ (h2.1 ≤ h.1 + 100 ∧ h2.2.1 ≤ h.2.1 + 400) ∧ ∀ Q : KQ, wp G 250 226 603 [some (vR b), some (vR G.1), some (vR (G.1 + 70)), some (vI i)] [] h Q = wp G 250 226 1211 [some (vR b), some (vR G.1), some (vR (G.1 + 70)), some (vI i)] [] h2 Q := by
  obtain ⟨⟨Bs, ad, vn, vi, vt, st, zK⟩, zM, ⟨zs, zi⟩, zh, zS, hb, hxs⟩ := id z
  have okp := K_p zK
  have hh : hi = 0 ∨ hi = 1 := zK.2.2.2.1.2
  have hrn : 0 ≤ rn ∧ rn ≤ 100 := ⟨zK.2.2.2.2.2.2.2.2.2.1, zK.2.2.2.2.2.2.2.2.2.2.1⟩
  obtain ⟨h1, h2, e, k, ⟨t1, t2, s1, s2⟩, wA, wM⟩ := L_step (kA := 250) (kM := 250) (yA := 19) (yM := 185) z (A_pass (d := 241) zK (n := (xs (i + 1).toNat))) (fun h1 z1 zS1 => N_pass (G := G) (d := 243) okp z1 (n := (xs (i + 1).toNat))) ⟨zO_pass okp zs, zi⟩ zh
  refine ⟨h2, e, k, fun Q => ?_⟩
  simp (disch := omega) only [KK, Int.reduceEq, not_false_iff, ↓reduceIte, ↓if_pos, ↓if_neg, xt_o, true_and, nlO_i, nlO_n, nlO_r, List.length_nil, List.length_cons, Nat.reduceAdd, Nat.reduceLeDiff, Nat.zero_le, u226_603, u226_604, u226_605, u226_606, u226_607, u226_608, u226_609, u226_612, u226_613, u226_614, u226_615, u226_616, u226_617, u226_618, u226_621, u226_624, u226_625, t1, t2, s1, s2, wA, wM, VS12, VS13, xa_s, ar_add, eq_self, true_or, or_true]
theorem LC_on {s si im bd : Int → Int} {hi rn : Int} (z : LK G b L xs s si im hi rn bd h) (hX : ∀ k : Int, iR (xs (i + k).toNat)) (i0 : 0 ≤ i ∧ i + 4 ≤ L) (hL : L ≤ 2048) (hr : h.1 + 200 ≤ maxC ∧ h.2.1 + 1000 ≤ maxS) : ∃ h2 : MH, LE G b L xs h2 ∧ (h2.1 ≤ h.1 + 100 ∧ h2.2.1 ≤ h.2.1 + 400) ∧ ∀ Q : KQ, wp G 250 226 626 [some (vR b), some (vR G.1), some (vR (G.1 + 70)), some (vI i)] [] h Q = wp G 250 226 1211 [some (vR b), some (vR G.1), some (vR (G.1 + 70)), some (vI i)] [] h2 Q := by
  obtain ⟨⟨Bs, ad, vn, vi, vt, st, zK⟩, zM, ⟨zs, zi⟩, zh, zS, hb, hxs⟩ := id z
  have okp := K_p zK
  have hh : hi = 0 ∨ hi = 1 := zK.2.2.2.1.2
  have hrn : 0 ≤ rn ∧ rn ≤ 100 := ⟨zK.2.2.2.2.2.2.2.2.2.1, zK.2.2.2.2.2.2.2.2.2.2.1⟩
  obtain ⟨h1, h2, e, k, ⟨t1, t2, s1, s2⟩, wA, wM⟩ := L_step (kA := 250) (kM := 250) (yA := 21) (yM := 187) z (A_on (d := 241) zK ⟨by omega, by omega⟩ (n := (xs (i + 1).toNat)) (w := (xs (i + 2).toNat)) (hX 2).2) (fun h1 z1 zS1 => N_on (G := G) (d := 243) okp z1 (n := (xs (i + 1).toNat)) (w := (xs (i + 2).toNat)) (hX 2)) ⟨zs, zi⟩ zh
  refine ⟨h2, e, k, fun Q => ?_⟩
  simp (disch := omega) only [KK, Int.reduceEq, not_false_iff, ↓reduceIte, ↓if_pos, ↓if_neg, xt_o, true_and, nlO_i, nlO_n, nlO_r, List.length_nil, List.length_cons, Nat.reduceAdd, Nat.reduceLeDiff, Nat.zero_le, u226_626, u226_627, u226_628, u226_629, u226_630, u226_631, u226_632, u226_633, u226_634, u226_635, u226_636, u226_637, u226_640, u226_641, u226_642, u226_643, u226_644, u226_645, u226_646, u226_647, u226_648, u226_649, u226_650, u226_651, u226_654, u226_657, u226_658, t1, t2, s1, s2, wA, wM, VS12, VS13, xa_s, ar_add, eq_self, true_or, or_true]
theorem LC_climb {s si im bd : Int → Int} {hi rn : Int} (z : LK G b L xs s si im hi rn bd h) (hX : ∀ k : Int, iR (xs (i + k).toNat)) (i0 : 0 ≤ i ∧ i + 4 ≤ L) (hL : L ≤ 2048) (hr : h.1 + 200 ≤ maxC ∧ h.2.1 + 1000 ≤ maxS) : ∃ h2 : MH, LE G b L xs h2 ∧ (h2.1 ≤ h.1 + 100 ∧ h2.2.1 ≤ h.2.1 + 400) ∧ ∀ Q : KQ, wp G 250 226 659 [some (vR b), some (vR G.1), some (vR (G.1 + 70)), some (vI i)] [] h Q = wp G 250 226 1211 [some (vR b), some (vR G.1), some (vR (G.1 + 70)), some (vI i)] [] h2 Q := by
  obtain ⟨⟨Bs, ad, vn, vi, vt, st, zK⟩, zM, ⟨zs, zi⟩, zh, zS, hb, hxs⟩ := id z
  have okp := K_p zK
  have hh : hi = 0 ∨ hi = 1 := zK.2.2.2.1.2
  have hrn : 0 ≤ rn ∧ rn ≤ 100 := ⟨zK.2.2.2.2.2.2.2.2.2.1, zK.2.2.2.2.2.2.2.2.2.2.1⟩
  obtain ⟨h1, h2, e, k, ⟨t1, t2, s1, s2⟩, wA, wM⟩ := L_step (kA := 250) (kM := 250) (yA := 22) (yM := 188) z (cQ_S (A_climb (d := 242) zK (way := (xs (i + 1).toNat)) (hd := (xs (i + 2).toNat)) (w := (xs (i + 3).toNat)))) (fun h1 z1 zS1 => N_climb (G := G) (d := 244) okp z1 (way := (xs (i + 1).toNat)) (hd := (xs (i + 2).toNat)) (w := (xs (i + 3).toNat))) ⟨zs, zi⟩ zh
  refine ⟨h2, e, k, fun Q => ?_⟩
  simp (disch := omega) only [KK, Int.reduceEq, not_false_iff, ↓reduceIte, ↓if_pos, ↓if_neg, xt_o, true_and, nlO_i, nlO_n, nlO_r, List.length_nil, List.length_cons, Nat.reduceAdd, Nat.reduceLeDiff, Nat.zero_le, u226_659, u226_660, u226_661, u226_662, u226_663, u226_664, u226_665, u226_666, u226_667, u226_668, u226_669, u226_670, u226_671, u226_672, u226_673, u226_674, u226_675, u226_678, u226_679, u226_680, u226_681, u226_682, u226_683, u226_684, u226_685, u226_686, u226_687, u226_688, u226_689, u226_690, u226_691, u226_692, u226_693, u226_694, u226_697, u226_700, u226_701, t1, t2, s1, s2, wA, wM, VS12, VS13, xa_s, ar_add, eq_self, true_or, or_true]
theorem LC_order {s si im bd : Int → Int} {hi rn : Int} (z : LK G b L xs s si im hi rn bd h) (hX : ∀ k : Int, iR (xs (i + k).toNat)) (i0 : 0 ≤ i ∧ i + 4 ≤ L) (hL : L ≤ 2048) (hr : h.1 + 200 ≤ maxC ∧ h.2.1 + 1000 ≤ maxS) : ∃ h2 : MH, LE G b L xs h2 ∧ (h2.1 ≤ h.1 + 100 ∧ h2.2.1 ≤ h.2.1 + 400) ∧ ∀ Q : KQ, wp G 250 226 702 [some (vR b), some (vR G.1), some (vR (G.1 + 70)), some (vI i)] [] h Q = wp G 250 226 1211 [some (vR b), some (vR G.1), some (vR (G.1 + 70)), some (vI i)] [] h2 Q := by
  obtain ⟨⟨Bs, ad, vn, vi, vt, st, zK⟩, zM, ⟨zs, zi⟩, zh, zS, hb, hxs⟩ := id z
  have okp := K_p zK
  have hh : hi = 0 ∨ hi = 1 := zK.2.2.2.1.2
  have hrn : 0 ≤ rn ∧ rn ≤ 100 := ⟨zK.2.2.2.2.2.2.2.2.2.1, zK.2.2.2.2.2.2.2.2.2.2.1⟩
  obtain ⟨h1, h2, e, k, ⟨t1, t2, s1, s2⟩, wA, wM⟩ := L_step (kA := 250) (kM := 250) (yA := 23) (yM := 191) z (cQ_S (A_order (d := 233) zK (kn := (xs (i + 1).toNat)) (what := (xs (i + 2).toNat)) (hX 2).2)) (fun h1 z1 zS1 => N_order (G := G) (d := 238) okp z1 (kn := (xs (i + 1).toNat)) (what := (xs (i + 2).toNat))) ⟨zs, zi⟩ zh
  refine ⟨h2, e, k, fun Q => ?_⟩
  simp (disch := omega) only [KK, Int.reduceEq, not_false_iff, ↓reduceIte, ↓if_pos, ↓if_neg, xt_o, true_and, nlO_i, nlO_n, nlO_r, List.length_nil, List.length_cons, Nat.reduceAdd, Nat.reduceLeDiff, Nat.zero_le, u226_702, u226_703, u226_704, u226_705, u226_706, u226_707, u226_708, u226_709, u226_710, u226_711, u226_712, u226_713, u226_716, u226_717, u226_718, u226_719, u226_720, u226_721, u226_722, u226_723, u226_724, u226_725, u226_726, u226_727, u226_730, u226_733, u226_734, t1, t2, s1, s2, wA, wM, VS12, VS13, xa_s, ar_add, eq_self, true_or, or_true]
theorem LC_hush {s si im bd : Int → Int} {hi rn : Int} (z : LK G b L xs s si im hi rn bd h) (hX : ∀ k : Int, iR (xs (i + k).toNat)) (i0 : 0 ≤ i ∧ i + 4 ≤ L) (hL : L ≤ 2048) (hr : h.1 + 200 ≤ maxC ∧ h.2.1 + 1000 ≤ maxS) : ∃ h2 : MH, LE G b L xs h2 ∧ (h2.1 ≤ h.1 + 100 ∧ h2.2.1 ≤ h.2.1 + 400) ∧ ∀ Q : KQ, wp G 250 226 735 [some (vR b), some (vR G.1), some (vR (G.1 + 70)), some (vI i)] [] h Q = wp G 250 226 1211 [some (vR b), some (vR G.1), some (vR (G.1 + 70)), some (vI i)] [] h2 Q := by
  obtain ⟨⟨Bs, ad, vn, vi, vt, st, zK⟩, zM, ⟨zs, zi⟩, zh, zS, hb, hxs⟩ := id z
  have okp := K_p zK
  have hh : hi = 0 ∨ hi = 1 := zK.2.2.2.1.2
  have hrn : 0 ≤ rn ∧ rn ≤ 100 := ⟨zK.2.2.2.2.2.2.2.2.2.1, zK.2.2.2.2.2.2.2.2.2.2.1⟩
  obtain ⟨h1, h2, e, k, ⟨t1, t2, s1, s2⟩, wA, wM⟩ := L_step (kA := 250) (kM := 250) (yA := 24) (yM := 194) z (cQ_S (A_hush (d := 241) zK (f := (xs (i + 1).toNat)))) (fun h1 z1 zS1 => m_hush (G := G) (d := 243) okp.1 z1 (f := (xs (i + 1).toNat))) ⟨zs, zi⟩ zh
  refine ⟨h2, e, k, fun Q => ?_⟩
  simp (disch := omega) only [KK, Int.reduceEq, not_false_iff, ↓reduceIte, ↓if_pos, ↓if_neg, xt_o, true_and, nlO_i, nlO_n, nlO_r, List.length_nil, List.length_cons, Nat.reduceAdd, Nat.reduceLeDiff, Nat.zero_le, u226_735, u226_736, u226_737, u226_738, u226_739, u226_740, u226_741, u226_744, u226_745, u226_746, u226_747, u226_748, u226_749, u226_750, u226_753, u226_756, u226_757, t1, t2, s1, s2, wA, wM, VS12, VS13, xa_s, ar_add, eq_self, true_or, or_true]
theorem LC_whole {s si im bd : Int → Int} {hi rn : Int} (z : LK G b L xs s si im hi rn bd h) (hX : ∀ k : Int, iR (xs (i + k).toNat)) (i0 : 0 ≤ i ∧ i + 4 ≤ L) (hL : L ≤ 2048) (hr : h.1 + 200 ≤ maxC ∧ h.2.1 + 1000 ≤ maxS) : ∃ h2 : MH, LE G b L xs h2 ∧ (h2.1 ≤ h.1 + 100 ∧ h2.2.1 ≤ h.2.1 + 400) ∧ ∀ Q : KQ, wp G 250 226 758 [some (vR b), some (vR G.1), some (vR (G.1 + 70)), some (vI i)] [] h Q = wp G 250 226 1211 [some (vR b), some (vR G.1), some (vR (G.1 + 70)), some (vI i)] [] h2 Q := by
  obtain ⟨⟨Bs, ad, vn, vi, vt, st, zK⟩, zM, ⟨zs, zi⟩, zh, zS, hb, hxs⟩ := id z
  have okp := K_p zK
  have hh : hi = 0 ∨ hi = 1 := zK.2.2.2.1.2
  have hrn : 0 ≤ rn ∧ rn ≤ 100 := ⟨zK.2.2.2.2.2.2.2.2.2.1, zK.2.2.2.2.2.2.2.2.2.2.1⟩
  obtain ⟨h1, h2, e, k, ⟨t1, t2, s1, s2⟩, wA, wM⟩ := L_step (kA := 250) (kM := 250) (yA := 25) (yM := 196) z (cQ_S (A_whole (d := 244) zK (f := (xs (i + 1).toNat)))) (fun h1 z1 zS1 => N_whole (G := G) (d := 248) okp z1 (f := (xs (i + 1).toNat))) ⟨zs, zi⟩ zh
  refine ⟨h2, e, k, fun Q => ?_⟩
  simp (disch := omega) only [KK, Int.reduceEq, not_false_iff, ↓reduceIte, ↓if_pos, ↓if_neg, xt_o, true_and, nlO_i, nlO_n, nlO_r, List.length_nil, List.length_cons, Nat.reduceAdd, Nat.reduceLeDiff, Nat.zero_le, u226_758, u226_759, u226_760, u226_761, u226_762, u226_763, u226_764, u226_767, u226_768, u226_769, u226_770, u226_771, u226_772, u226_773, u226_776, u226_779, u226_780, t1, t2, s1, s2, wA, wM, VS12, VS13, xa_s, ar_add, eq_self, true_or, or_true]
theorem LC_say {s si im bd : Int → Int} {hi rn : Int} (z : LK G b L xs s si im hi rn bd h) (hX : ∀ k : Int, iR (xs (i + k).toNat)) (i0 : 0 ≤ i ∧ i + 4 ≤ L) (hL : L ≤ 2048) (hr : h.1 + 200 ≤ maxC ∧ h.2.1 + 1000 ≤ maxS) : ∃ h2 : MH, LE G b L xs h2 ∧ (h2.1 ≤ h.1 + 100 ∧ h2.2.1 ≤ h.2.1 + 400) ∧ ∀ Q : KQ, wp G 250 226 781 [some (vR b), some (vR G.1), some (vR (G.1 + 70)), some (vI i)] [] h Q = wp G 250 226 1211 [some (vR b), some (vR G.1), some (vR (G.1 + 70)), some (vI i)] [] h2 Q := by
  obtain ⟨⟨Bs, ad, vn, vi, vt, st, zK⟩, zM, ⟨zs, zi⟩, zh, zS, hb, hxs⟩ := id z
  have okp := K_p zK
  have hh : hi = 0 ∨ hi = 1 := zK.2.2.2.1.2
  have hrn : 0 ≤ rn ∧ rn ≤ 100 := ⟨zK.2.2.2.2.2.2.2.2.2.1, zK.2.2.2.2.2.2.2.2.2.2.1⟩
  obtain ⟨h1, h2, e, k, ⟨t1, t2, s1, s2⟩, wA, wM⟩ := L_step (kA := 250) (kM := 250) (yA := 26) (yM := 198) z (A_say (d := 245) zK (x := (xs (i + 1).toNat)) (y := (xs (i + 2).toNat))) (fun h1 z1 zS1 => N_say (G := G) (d := 247) okp z1 (x := (xs (i + 1).toNat)) (y := (xs (i + 2).toNat))) ⟨zO_say okp zs, zi⟩ zh
  refine ⟨h2, e, k, fun Q => ?_⟩
  simp (disch := omega) only [KK, Int.reduceEq, not_false_iff, ↓reduceIte, ↓if_pos, ↓if_neg, xt_o, true_and, nlO_i, nlO_n, nlO_r, List.length_nil, List.length_cons, Nat.reduceAdd, Nat.reduceLeDiff, Nat.zero_le, u226_781, u226_782, u226_783, u226_784, u226_785, u226_786, u226_787, u226_788, u226_789, u226_790, u226_791, u226_792, u226_795, u226_796, u226_797, u226_798, u226_799, u226_800, u226_801, u226_802, u226_803, u226_804, u226_805, u226_806, u226_809, u226_812, u226_813, t1, t2, s1, s2, wA, wM, VS12, VS13, xa_s, ar_add, eq_self, true_or, or_true]
theorem LC_knew {s si im bd : Int → Int} {hi rn : Int} (z : LK G b L xs s si im hi rn bd h) (hX : ∀ k : Int, iR (xs (i + k).toNat)) (i0 : 0 ≤ i ∧ i + 4 ≤ L) (hL : L ≤ 2048) (hr : h.1 + 200 ≤ maxC ∧ h.2.1 + 1000 ≤ maxS) : ∃ h2 : MH, LE G b L xs h2 ∧ (h2.1 ≤ h.1 + 100 ∧ h2.2.1 ≤ h.2.1 + 400) ∧ ∀ Q : KQ, wp G 250 226 814 [some (vR b), some (vR G.1), some (vR (G.1 + 70)), some (vI i)] [] h Q = wp G 250 226 1211 [some (vR b), some (vR G.1), some (vR (G.1 + 70)), some (vI i)] [] h2 Q := by
  obtain ⟨⟨Bs, ad, vn, vi, vt, st, zK⟩, zM, ⟨zs, zi⟩, zh, zS, hb, hxs⟩ := id z
  have okp := K_p zK
  have hh : hi = 0 ∨ hi = 1 := zK.2.2.2.1.2
  have hrn : 0 ≤ rn ∧ rn ≤ 100 := ⟨zK.2.2.2.2.2.2.2.2.2.1, zK.2.2.2.2.2.2.2.2.2.2.1⟩
  obtain ⟨h1, h2, e, k, ⟨t1, t2, s1, s2⟩, wA, wM⟩ := L_step (kA := 250) (kM := 250) (yA := 27) (yM := 199) z (cQ_S (A_knew (d := 242) zK ⟨by omega, by omega⟩ (p := (xs (i + 1).toNat)) (what := (xs (i + 2).toNat)))) (fun h1 z1 zS1 => N_knew (G := G) (d := 243) okp z1 (p := (xs (i + 1).toNat)) (what := (xs (i + 2).toNat))) ⟨zs, zi⟩ zh
  refine ⟨h2, e, k, fun Q => ?_⟩
  simp (disch := omega) only [KK, Int.reduceEq, not_false_iff, ↓reduceIte, ↓if_pos, ↓if_neg, xt_o, true_and, nlO_i, nlO_n, nlO_r, List.length_nil, List.length_cons, Nat.reduceAdd, Nat.reduceLeDiff, Nat.zero_le, u226_814, u226_815, u226_816, u226_817, u226_818, u226_819, u226_820, u226_821, u226_822, u226_823, u226_824, u226_825, u226_828, u226_829, u226_830, u226_831, u226_832, u226_833, u226_834, u226_835, u226_836, u226_837, u226_838, u226_839, u226_842, u226_845, u226_846, t1, t2, s1, s2, wA, wM, VS12, VS13, xa_s, ar_add, eq_self, true_or, or_true]
theorem LC_firm {s si im bd : Int → Int} {hi rn : Int} (z : LK G b L xs s si im hi rn bd h) (hX : ∀ k : Int, iR (xs (i + k).toNat)) (i0 : 0 ≤ i ∧ i + 4 ≤ L) (hL : L ≤ 2048) (hr : h.1 + 200 ≤ maxC ∧ h.2.1 + 1000 ≤ maxS) : ∃ h2 : MH, LE G b L xs h2 ∧ (h2.1 ≤ h.1 + 100 ∧ h2.2.1 ≤ h.2.1 + 400) ∧ ∀ Q : KQ, wp G 250 226 847 [some (vR b), some (vR G.1), some (vR (G.1 + 70)), some (vI i)] [] h Q = wp G 250 226 1211 [some (vR b), some (vR G.1), some (vR (G.1 + 70)), some (vI i)] [] h2 Q := by
  obtain ⟨⟨Bs, ad, vn, vi, vt, st, zK⟩, zM, ⟨zs, zi⟩, zh, zS, hb, hxs⟩ := id z
  have okp := K_p zK
  have hh : hi = 0 ∨ hi = 1 := zK.2.2.2.1.2
  have hrn : 0 ≤ rn ∧ rn ≤ 100 := ⟨zK.2.2.2.2.2.2.2.2.2.1, zK.2.2.2.2.2.2.2.2.2.2.1⟩
  obtain ⟨h1, h2, e, k, ⟨t1, t2, s1, s2⟩, wA, wM⟩ := L_step (kA := 250) (kM := 250) (yA := 28) (yM := 202) z (cQ_S (A_firm (d := 242) zK ⟨by omega, by omega⟩ (p := (xs (i + 1).toNat)) (what := (xs (i + 2).toNat)))) (fun h1 z1 zS1 => N_firm (G := G) (d := 243) okp z1 (p := (xs (i + 1).toNat)) (what := (xs (i + 2).toNat))) ⟨zs, zi⟩ zh
  refine ⟨h2, e, k, fun Q => ?_⟩
  simp (disch := omega) only [KK, Int.reduceEq, not_false_iff, ↓reduceIte, ↓if_pos, ↓if_neg, xt_o, true_and, nlO_i, nlO_n, nlO_r, List.length_nil, List.length_cons, Nat.reduceAdd, Nat.reduceLeDiff, Nat.zero_le, u226_847, u226_848, u226_849, u226_850, u226_851, u226_852, u226_853, u226_854, u226_855, u226_856, u226_857, u226_858, u226_861, u226_862, u226_863, u226_864, u226_865, u226_866, u226_867, u226_868, u226_869, u226_870, u226_871, u226_872, u226_875, u226_878, u226_879, t1, t2, s1, s2, wA, wM, VS12, VS13, xa_s, ar_add, eq_self, true_or, or_true]
theorem LC_who {s si im bd : Int → Int} {hi rn : Int} (z : LK G b L xs s si im hi rn bd h) (hX : ∀ k : Int, iR (xs (i + k).toNat)) (i0 : 0 ≤ i ∧ i + 4 ≤ L) (hL : L ≤ 2048) (hr : h.1 + 200 ≤ maxC ∧ h.2.1 + 1000 ≤ maxS) : ∃ h2 : MH, LE G b L xs h2 ∧ (h2.1 ≤ h.1 + 100 ∧ h2.2.1 ≤ h.2.1 + 400) ∧ ∀ Q : KQ, wp G 250 226 880 [some (vR b), some (vR G.1), some (vR (G.1 + 70)), some (vI i)] [] h Q = wp G 250 226 1211 [some (vR b), some (vR G.1), some (vR (G.1 + 70)), some (vI i)] [] h2 Q := by
  obtain ⟨⟨Bs, ad, vn, vi, vt, st, zK⟩, zM, ⟨zs, zi⟩, zh, zS, hb, hxs⟩ := id z
  have okp := K_p zK
  have hh : hi = 0 ∨ hi = 1 := zK.2.2.2.1.2
  have hrn : 0 ≤ rn ∧ rn ≤ 100 := ⟨zK.2.2.2.2.2.2.2.2.2.1, zK.2.2.2.2.2.2.2.2.2.2.1⟩
  obtain ⟨h1, h2, e, k, ⟨t1, t2, s1, s2⟩, wA, wM⟩ := L_step (kA := 250) (kM := 250) (yA := 29) (yM := 203) z (cQ_S (A_who (d := 242) zK)) (fun h1 z1 zS1 => N_who (G := G) (d := 245) okp z1) ⟨zs, zi⟩ zh
  refine ⟨h2, e, k, fun Q => ?_⟩
  simp (disch := omega) only [KK, Int.reduceEq, not_false_iff, ↓reduceIte, ↓if_pos, ↓if_neg, xt_o, true_and, nlO_i, nlO_n, nlO_r, List.length_nil, List.length_cons, Nat.reduceAdd, Nat.reduceLeDiff, Nat.zero_le, u226_880, u226_881, u226_884, u226_885, u226_888, u226_891, u226_892, t1, t2, s1, s2, wA, wM, VS12, VS13, xa_s, ar_add, eq_self, true_or, or_true]
theorem LC_odds {s si im bd : Int → Int} {hi rn : Int} (z : LK G b L xs s si im hi rn bd h) (hX : ∀ k : Int, iR (xs (i + k).toNat)) (i0 : 0 ≤ i ∧ i + 4 ≤ L) (hL : L ≤ 2048) (hr : h.1 + 200 ≤ maxC ∧ h.2.1 + 1000 ≤ maxS) : ∃ h2 : MH, LE G b L xs h2 ∧ (h2.1 ≤ h.1 + 100 ∧ h2.2.1 ≤ h.2.1 + 400) ∧ ∀ Q : KQ, wp G 250 226 893 [some (vR b), some (vR G.1), some (vR (G.1 + 70)), some (vI i)] [] h Q = wp G 250 226 1211 [some (vR b), some (vR G.1), some (vR (G.1 + 70)), some (vI i)] [] h2 Q := by
  obtain ⟨⟨Bs, ad, vn, vi, vt, st, zK⟩, zM, ⟨zs, zi⟩, zh, zS, hb, hxs⟩ := id z
  have okp := K_p zK
  have hh : hi = 0 ∨ hi = 1 := zK.2.2.2.1.2
  have hrn : 0 ≤ rn ∧ rn ≤ 100 := ⟨zK.2.2.2.2.2.2.2.2.2.1, zK.2.2.2.2.2.2.2.2.2.2.1⟩
  obtain ⟨h1, h2, e, k, ⟨t1, t2, s1, s2⟩, wA, wM⟩ := L_step (kA := 250) (kM := 250) (yA := 30) (yM := 204) z (cQ_S (A_odds (d := 242) zK (hd := (xs (i + 1).toNat)) (f := (xs (i + 2).toNat)) (part := (xs (i + 3).toNat)))) (fun h1 z1 zS1 => N_odds (G := G) (d := 244) okp z1 (hd := (xs (i + 1).toNat)) (f := (xs (i + 2).toNat)) (part := (xs (i + 3).toNat))) ⟨zs, zi⟩ zh
  refine ⟨h2, e, k, fun Q => ?_⟩
  simp (disch := omega) only [KK, Int.reduceEq, not_false_iff, ↓reduceIte, ↓if_pos, ↓if_neg, xt_o, true_and, nlO_i, nlO_n, nlO_r, List.length_nil, List.length_cons, Nat.reduceAdd, Nat.reduceLeDiff, Nat.zero_le, u226_893, u226_894, u226_895, u226_896, u226_897, u226_898, u226_899, u226_900, u226_901, u226_902, u226_903, u226_904, u226_905, u226_906, u226_907, u226_908, u226_909, u226_912, u226_913, u226_914, u226_915, u226_916, u226_917, u226_918, u226_919, u226_920, u226_921, u226_922, u226_923, u226_924, u226_925, u226_926, u226_927, u226_928, u226_931, u226_932, u226_935, u226_936, t1, t2, s1, s2, wA, wM, VS12, VS13, xa_s, ar_add, eq_self, true_or, or_true, lCmp_s]
theorem LC_mean {s si im bd : Int → Int} {hi rn : Int} (z : LK G b L xs s si im hi rn bd h) (hX : ∀ k : Int, iR (xs (i + k).toNat)) (i0 : 0 ≤ i ∧ i + 4 ≤ L) (hL : L ≤ 2048) (hr : h.1 + 200 ≤ maxC ∧ h.2.1 + 1000 ≤ maxS) : ∃ h2 : MH, LE G b L xs h2 ∧ (h2.1 ≤ h.1 + 100 ∧ h2.2.1 ≤ h.2.1 + 400) ∧ ∀ Q : KQ, wp G 250 226 937 [some (vR b), some (vR G.1), some (vR (G.1 + 70)), some (vI i)] [] h Q = wp G 250 226 1211 [some (vR b), some (vR G.1), some (vR (G.1 + 70)), some (vI i)] [] h2 Q := by
  obtain ⟨⟨Bs, ad, vn, vi, vt, st, zK⟩, zM, ⟨zs, zi⟩, zh, zS, hb, hxs⟩ := id z
  have okp := K_p zK
  have hh : hi = 0 ∨ hi = 1 := zK.2.2.2.1.2
  have hrn : 0 ≤ rn ∧ rn ≤ 100 := ⟨zK.2.2.2.2.2.2.2.2.2.1, zK.2.2.2.2.2.2.2.2.2.2.1⟩
  obtain ⟨h1, h2, e, k, ⟨t1, t2, s1, s2⟩, wA, wM⟩ := L_step (kA := 250) (kM := 250) (yA := 32) (yM := 206) z (cQ_S (A_mean (d := 245) zK (part := (xs (i + 1).toNat)))) (fun h1 z1 zS1 => N_mean (G := G) (d := 248) okp z1 (part := (xs (i + 1).toNat))) ⟨zs, zi⟩ zh
  refine ⟨h2, e, k, fun Q => ?_⟩
  simp (disch := omega) only [KK, Int.reduceEq, not_false_iff, ↓reduceIte, ↓if_pos, ↓if_neg, xt_o, true_and, nlO_i, nlO_n, nlO_r, List.length_nil, List.length_cons, Nat.reduceAdd, Nat.reduceLeDiff, Nat.zero_le, u226_937, u226_938, u226_939, u226_940, u226_941, u226_942, u226_943, u226_946, u226_947, u226_948, u226_949, u226_950, u226_951, u226_952, u226_955, u226_956, u226_959, u226_960, t1, t2, s1, s2, wA, wM, VS12, VS13, xa_s, ar_add, eq_self, true_or, or_true, lCmp_s]
theorem LC_plan {s si im bd : Int → Int} {hi rn : Int} (z : LK G b L xs s si im hi rn bd h) (hX : ∀ k : Int, iR (xs (i + k).toNat)) (i0 : 0 ≤ i ∧ i + 4 ≤ L) (hL : L ≤ 2048) (hr : h.1 + 200 ≤ maxC ∧ h.2.1 + 1000 ≤ maxS) : ∃ h2 : MH, LE G b L xs h2 ∧ (h2.1 ≤ h.1 + 100 ∧ h2.2.1 ≤ h.2.1 + 400) ∧ ∀ Q : KQ, wp G 250 226 961 [some (vR b), some (vR G.1), some (vR (G.1 + 70)), some (vI i)] [] h Q = wp G 250 226 1211 [some (vR b), some (vR G.1), some (vR (G.1 + 70)), some (vI i)] [] h2 Q := by
  obtain ⟨⟨Bs, ad, vn, vi, vt, st, zK⟩, zM, ⟨zs, zi⟩, zh, zS, hb, hxs⟩ := id z
  have okp := K_p zK
  have hh : hi = 0 ∨ hi = 1 := zK.2.2.2.1.2
  have hrn : 0 ≤ rn ∧ rn ≤ 100 := ⟨zK.2.2.2.2.2.2.2.2.2.1, zK.2.2.2.2.2.2.2.2.2.2.1⟩
  obtain ⟨h1, h2, e, k, ⟨t1, t2, s1, s2⟩, wA, wM⟩ := L_step (kA := 250) (kM := 250) (yA := 33) (yM := 207) z (A_plan (d := 245) zK (x := (xs (i + 1).toNat)) (y := (xs (i + 2).toNat))) (fun h1 z1 zS1 => N_plan (G := G) (d := 247) okp z1 (w := (xs (i + 1).toNat)) (n := (xs (i + 2).toNat))) ⟨zO_plan okp zs, zi⟩ zh
  refine ⟨h2, e, k, fun Q => ?_⟩
  simp (disch := omega) only [KK, Int.reduceEq, not_false_iff, ↓reduceIte, ↓if_pos, ↓if_neg, xt_o, true_and, nlO_i, nlO_n, nlO_r, List.length_nil, List.length_cons, Nat.reduceAdd, Nat.reduceLeDiff, Nat.zero_le, u226_961, u226_962, u226_963, u226_964, u226_965, u226_966, u226_967, u226_968, u226_969, u226_970, u226_971, u226_972, u226_975, u226_976, u226_977, u226_978, u226_979, u226_980, u226_981, u226_982, u226_983, u226_984, u226_985, u226_986, u226_989, u226_992, u226_993, t1, t2, s1, s2, wA, wM, VS12, VS13, xa_s, ar_add, eq_self, true_or, or_true]
theorem LC_done {s si im bd : Int → Int} {hi rn : Int} (z : LK G b L xs s si im hi rn bd h) (hX : ∀ k : Int, iR (xs (i + k).toNat)) (i0 : 0 ≤ i ∧ i + 4 ≤ L) (hL : L ≤ 2048) (hr : h.1 + 200 ≤ maxC ∧ h.2.1 + 1000 ≤ maxS) : ∃ h2 : MH, LE G b L xs h2 ∧ (h2.1 ≤ h.1 + 100 ∧ h2.2.1 ≤ h.2.1 + 400) ∧ ∀ Q : KQ, wp G 250 226 994 [some (vR b), some (vR G.1), some (vR (G.1 + 70)), some (vI i)] [] h Q = wp G 250 226 1211 [some (vR b), some (vR G.1), some (vR (G.1 + 70)), some (vI i)] [] h2 Q := by
  obtain ⟨⟨Bs, ad, vn, vi, vt, st, zK⟩, zM, ⟨zs, zi⟩, zh, zS, hb, hxs⟩ := id z
  have okp := K_p zK
  have hh : hi = 0 ∨ hi = 1 := zK.2.2.2.1.2
  have hrn : 0 ≤ rn ∧ rn ≤ 100 := ⟨zK.2.2.2.2.2.2.2.2.2.1, zK.2.2.2.2.2.2.2.2.2.2.1⟩
  obtain ⟨h1, h2, e, k, ⟨t1, t2, s1, s2⟩, wA, wM⟩ := L_step (kA := 250) (kM := 250) (yA := 34) (yM := 208) z (A_done (d := 241) zK ⟨by omega, by omega⟩ (w := (xs (i + 1).toNat))) (fun h1 z1 zS1 => N_done (G := G) (d := 243) okp z1 (w := (xs (i + 1).toNat))) ⟨zs, zi⟩ zh
  refine ⟨h2, e, k, fun Q => ?_⟩
  simp (disch := omega) only [KK, Int.reduceEq, not_false_iff, ↓reduceIte, ↓if_pos, ↓if_neg, xt_o, true_and, nlO_i, nlO_n, nlO_r, List.length_nil, List.length_cons, Nat.reduceAdd, Nat.reduceLeDiff, Nat.zero_le, u226_994, u226_995, u226_996, u226_997, u226_998, u226_999, u226_1000, u226_1003, u226_1004, u226_1005, u226_1006, u226_1007, u226_1008, u226_1009, u226_1012, u226_1015, u226_1016, t1, t2, s1, s2, wA, wM, VS12, VS13, xa_s, ar_add, eq_self, true_or, or_true]
theorem LC_book {s si im bd : Int → Int} {hi rn : Int} (z : LK G b L xs s si im hi rn bd h) (hX : ∀ k : Int, iR (xs (i + k).toNat)) (i0 : 0 ≤ i ∧ i + 4 ≤ L) (hL : L ≤ 2048) (hr : h.1 + 200 ≤ maxC ∧ h.2.1 + 1000 ≤ maxS) : ∃ h2 : MH, LE G b L xs h2 ∧ (h2.1 ≤ h.1 + 100 ∧ h2.2.1 ≤ h.2.1 + 400) ∧ ∀ Q : KQ, wp G 250 226 1017 [some (vR b), some (vR G.1), some (vR (G.1 + 70)), some (vI i)] [] h Q = wp G 250 226 1211 [some (vR b), some (vR G.1), some (vR (G.1 + 70)), some (vI i)] [] h2 Q := by
  obtain ⟨⟨Bs, ad, vn, vi, vt, st, zK⟩, zM, ⟨zs, zi⟩, zh, zS, hb, hxs⟩ := id z
  have okp := K_p zK
  have hh : hi = 0 ∨ hi = 1 := zK.2.2.2.1.2
  have hrn : 0 ≤ rn ∧ rn ≤ 100 := ⟨zK.2.2.2.2.2.2.2.2.2.1, zK.2.2.2.2.2.2.2.2.2.2.1⟩
  obtain ⟨h1, h2, e, k, ⟨t1, t2, s1, s2⟩, wA, wM⟩ := L_step (kA := 250) (kM := 250) (yA := 35) (yM := 210) z (A_book (d := 245) zK (x := (xs (i + 1).toNat)) (y := (xs (i + 2).toNat))) (fun h1 z1 zS1 => N_book (G := G) (d := 247) okp z1 (x := (xs (i + 1).toNat)) (y := (xs (i + 2).toNat))) ⟨zO_book okp zs, zi⟩ zh
  refine ⟨h2, e, k, fun Q => ?_⟩
  simp (disch := omega) only [KK, Int.reduceEq, not_false_iff, ↓reduceIte, ↓if_pos, ↓if_neg, xt_o, true_and, nlO_i, nlO_n, nlO_r, List.length_nil, List.length_cons, Nat.reduceAdd, Nat.reduceLeDiff, Nat.zero_le, u226_1017, u226_1018, u226_1019, u226_1020, u226_1021, u226_1022, u226_1023, u226_1024, u226_1025, u226_1026, u226_1027, u226_1028, u226_1031, u226_1032, u226_1033, u226_1034, u226_1035, u226_1036, u226_1037, u226_1038, u226_1039, u226_1040, u226_1041, u226_1042, u226_1045, u226_1048, u226_1049, t1, t2, s1, s2, wA, wM, VS12, VS13, xa_s, ar_add, eq_self, true_or, or_true]
theorem LC_looked {s si im bd : Int → Int} {hi rn : Int} (z : LK G b L xs s si im hi rn bd h) (hX : ∀ k : Int, iR (xs (i + k).toNat)) (i0 : 0 ≤ i ∧ i + 4 ≤ L) (hL : L ≤ 2048) (hr : h.1 + 200 ≤ maxC ∧ h.2.1 + 1000 ≤ maxS) : ∃ h2 : MH, LE G b L xs h2 ∧ (h2.1 ≤ h.1 + 100 ∧ h2.2.1 ≤ h.2.1 + 400) ∧ ∀ Q : KQ, wp G 250 226 1050 [some (vR b), some (vR G.1), some (vR (G.1 + 70)), some (vI i)] [] h Q = wp G 250 226 1211 [some (vR b), some (vR G.1), some (vR (G.1 + 70)), some (vI i)] [] h2 Q := by
  obtain ⟨⟨Bs, ad, vn, vi, vt, st, zK⟩, zM, ⟨zs, zi⟩, zh, zS, hb, hxs⟩ := id z
  have okp := K_p zK
  have hh : hi = 0 ∨ hi = 1 := zK.2.2.2.1.2
  have hrn : 0 ≤ rn ∧ rn ≤ 100 := ⟨zK.2.2.2.2.2.2.2.2.2.1, zK.2.2.2.2.2.2.2.2.2.2.1⟩
  obtain ⟨h1, h2, e, k, ⟨t1, t2, s1, s2⟩, wA, wM⟩ := L_step (kA := 250) (kM := 250) (yA := 36) (yM := 211) z (cQ_S (A_looked (d := 245) zK)) (fun h1 z1 zS1 => N_looked (G := G) (d := 249) okp z1) ⟨zs, zi⟩ zh
  refine ⟨h2, e, k, fun Q => ?_⟩
  simp (disch := omega) only [KK, Int.reduceEq, not_false_iff, ↓reduceIte, ↓if_pos, ↓if_neg, xt_o, true_and, nlO_i, nlO_n, nlO_r, List.length_nil, List.length_cons, Nat.reduceAdd, Nat.reduceLeDiff, Nat.zero_le, u226_1050, u226_1051, u226_1054, u226_1055, u226_1058, u226_1061, u226_1062, t1, t2, s1, s2, wA, wM, VS12, VS13, xa_s, ar_add, eq_self, true_or, or_true]
theorem LC_act {s si im bd : Int → Int} {hi rn : Int} (z : LK G b L xs s si im hi rn bd h) (hX : ∀ k : Int, iR (xs (i + k).toNat)) (i0 : 0 ≤ i ∧ i + 4 ≤ L) (hL : L ≤ 2048) (hr : h.1 + 200 ≤ maxC ∧ h.2.1 + 1000 ≤ maxS) : ∃ h2 : MH, LE G b L xs h2 ∧ (h2.1 ≤ h.1 + 100 ∧ h2.2.1 ≤ h.2.1 + 400) ∧ ∀ Q : KQ, wp G 250 226 1063 [some (vR b), some (vR G.1), some (vR (G.1 + 70)), some (vI i)] [] h Q = wp G 250 226 1211 [some (vR b), some (vR G.1), some (vR (G.1 + 70)), some (vI i)] [] h2 Q := by
  obtain ⟨⟨Bs, ad, vn, vi, vt, st, zK⟩, zM, ⟨zs, zi⟩, zh, zS, hb, hxs⟩ := id z
  have okp := K_p zK
  have hh : hi = 0 ∨ hi = 1 := zK.2.2.2.1.2
  have hrn : 0 ≤ rn ∧ rn ≤ 100 := ⟨zK.2.2.2.2.2.2.2.2.2.1, zK.2.2.2.2.2.2.2.2.2.2.1⟩
  obtain ⟨h1, h2, e, k, ⟨t1, t2, s1, s2⟩, wA, wM⟩ := L_step (kA := 250) (kM := 250) (yA := 37) (yM := 212) z (A_act (d := 242) zK (a := (xs (i + 1).toNat)) (k := (xs (i + 2).toNat)) (x := (xs (i + 3).toNat))) (fun h1 z1 zS1 => N_act (G := G) (d := 242) okp z1 (a := (xs (i + 1).toNat)) (k := (xs (i + 2).toNat)) (x := (xs (i + 3).toNat))) ⟨zs, zi⟩ zh
  refine ⟨h2, e, k, fun Q => ?_⟩
  simp (disch := omega) only [KK, Int.reduceEq, not_false_iff, ↓reduceIte, ↓if_pos, ↓if_neg, xt_o, true_and, nlO_i, nlO_n, nlO_r, List.length_nil, List.length_cons, Nat.reduceAdd, Nat.reduceLeDiff, Nat.zero_le, u226_1063, u226_1064, u226_1065, u226_1066, u226_1067, u226_1068, u226_1069, u226_1070, u226_1071, u226_1072, u226_1073, u226_1074, u226_1075, u226_1076, u226_1077, u226_1078, u226_1079, u226_1082, u226_1083, u226_1084, u226_1085, u226_1086, u226_1087, u226_1088, u226_1089, u226_1090, u226_1091, u226_1092, u226_1093, u226_1094, u226_1095, u226_1096, u226_1097, u226_1098, u226_1101, u226_1104, u226_1105, t1, t2, s1, s2, wA, wM, VS12, VS13, xa_s, ar_add, eq_self, true_or, or_true]
theorem LC_trace {s si im bd : Int → Int} {hi rn : Int} (z : LK G b L xs s si im hi rn bd h) (hX : ∀ k : Int, iR (xs (i + k).toNat)) (i0 : 0 ≤ i ∧ i + 4 ≤ L) (hL : L ≤ 2048) (hr : h.1 + 200 ≤ maxC ∧ h.2.1 + 1000 ≤ maxS) : ∃ h2 : MH, LE G b L xs h2 ∧ (h2.1 ≤ h.1 + 100 ∧ h2.2.1 ≤ h.2.1 + 400) ∧ ∀ Q : KQ, wp G 250 226 1106 [some (vR b), some (vR G.1), some (vR (G.1 + 70)), some (vI i)] [] h Q = wp G 250 226 1211 [some (vR b), some (vR G.1), some (vR (G.1 + 70)), some (vI i)] [] h2 Q := by
  obtain ⟨⟨Bs, ad, vn, vi, vt, st, zK⟩, zM, ⟨zs, zi⟩, zh, zS, hb, hxs⟩ := id z
  have okp := K_p zK
  have hh : hi = 0 ∨ hi = 1 := zK.2.2.2.1.2
  have hrn : 0 ≤ rn ∧ rn ≤ 100 := ⟨zK.2.2.2.2.2.2.2.2.2.1, zK.2.2.2.2.2.2.2.2.2.2.1⟩
  obtain ⟨h1, h2, e, k, ⟨t1, t2, s1, s2⟩, wA, wM⟩ := L_step (kA := 250) (kM := 250) (yA := 38) (yM := 221) z (cQ_S (A_trace (d := 245) zK (i := (xs (i + 1).toNat)))) (fun h1 z1 zS1 => N_trace (G := G) (d := 247) z1 hrn (i := (xs (i + 1).toNat))) ⟨zs, zi⟩ zh
  refine ⟨h2, e, k, fun Q => ?_⟩
  simp (disch := omega) only [KK, Int.reduceEq, not_false_iff, ↓reduceIte, ↓if_pos, ↓if_neg, xt_o, true_and, nlO_i, nlO_n, nlO_r, List.length_nil, List.length_cons, Nat.reduceAdd, Nat.reduceLeDiff, Nat.zero_le, u226_1106, u226_1107, u226_1108, u226_1109, u226_1110, u226_1111, u226_1112, u226_1115, u226_1116, u226_1117, u226_1118, u226_1119, u226_1120, u226_1121, u226_1124, u226_1127, u226_1128, t1, t2, s1, s2, wA, wM, VS12, VS13, xa_s, ar_add, eq_self, true_or, or_true]
theorem LC_as {s si im bd : Int → Int} {hi rn : Int} (z : LK G b L xs s si im hi rn bd h) (hX : ∀ k : Int, iR (xs (i + k).toNat)) (i0 : 0 ≤ i ∧ i + 4 ≤ L) (hL : L ≤ 2048) (hr : h.1 + 200 ≤ maxC ∧ h.2.1 + 1000 ≤ maxS) : ∃ h2 : MH, LE G b L xs h2 ∧ (h2.1 ≤ h.1 + 100 ∧ h2.2.1 ≤ h.2.1 + 400) ∧ ∀ Q : KQ, wp G 250 226 1129 [some (vR b), some (vR G.1), some (vR (G.1 + 70)), some (vI i)] [] h Q = wp G 250 226 1211 [some (vR b), some (vR G.1), some (vR (G.1 + 70)), some (vI i)] [] h2 Q := by
  obtain ⟨⟨Bs, ad, vn, vi, vt, st, zK⟩, zM, ⟨zs, zi⟩, zh, zS, hb, hxs⟩ := id z
  have okp := K_p zK
  have hh : hi = 0 ∨ hi = 1 := zK.2.2.2.1.2
  have hrn : 0 ≤ rn ∧ rn ≤ 100 := ⟨zK.2.2.2.2.2.2.2.2.2.1, zK.2.2.2.2.2.2.2.2.2.2.1⟩
  obtain ⟨h1, h2, e, k, ⟨t1, t2, s1, s2⟩, wA, wM⟩ := L_step (kA := 250) (kM := 250) (yA := 39) (yM := 222) z (cQ_S (A_as (d := 245) zK (p := (xs (i + 1).toNat)) (k := (xs (i + 2).toNat)))) (fun h1 z1 zS1 => N_as (G := G) (d := 247) okp z1 (p := (xs (i + 1).toNat)) (k := (xs (i + 2).toNat))) ⟨zs, zi⟩ zh
  refine ⟨h2, e, k, fun Q => ?_⟩
  simp (disch := omega) only [KK, Int.reduceEq, not_false_iff, ↓reduceIte, ↓if_pos, ↓if_neg, xt_o, true_and, nlO_i, nlO_n, nlO_r, List.length_nil, List.length_cons, Nat.reduceAdd, Nat.reduceLeDiff, Nat.zero_le, u226_1129, u226_1130, u226_1131, u226_1132, u226_1133, u226_1134, u226_1135, u226_1136, u226_1137, u226_1138, u226_1139, u226_1140, u226_1143, u226_1144, u226_1145, u226_1146, u226_1147, u226_1148, u226_1149, u226_1150, u226_1151, u226_1152, u226_1153, u226_1154, u226_1157, u226_1160, u226_1161, t1, t2, s1, s2, wA, wM, VS12, VS13, xa_s, ar_add, eq_self, true_or, or_true]
theorem LC_image {s si im bd : Int → Int} {hi rn : Int} (z : LK G b L xs s si im hi rn bd h) (hX : ∀ k : Int, iR (xs (i + k).toNat)) (i0 : 0 ≤ i ∧ i + 4 ≤ L) (hL : L ≤ 2048) (hr : h.1 + 200 ≤ maxC ∧ h.2.1 + 1000 ≤ maxS) : ∃ h2 : MH, LE G b L xs h2 ∧ (h2.1 ≤ h.1 + 100 ∧ h2.2.1 ≤ h.2.1 + 400) ∧ ∀ Q : KQ, wp G 250 226 1162 [some (vR b), some (vR G.1), some (vR (G.1 + 70)), some (vI i)] [] h Q = wp G 250 226 1211 [some (vR b), some (vR G.1), some (vR (G.1 + 70)), some (vI i)] [] h2 Q := by
  obtain ⟨⟨Bs, ad, vn, vi, vt, st, zK⟩, zM, ⟨zs, zi⟩, zh, zS, hb, hxs⟩ := id z
  have okp := K_p zK
  have hh : hi = 0 ∨ hi = 1 := zK.2.2.2.1.2
  have hrn : 0 ≤ rn ∧ rn ≤ 100 := ⟨zK.2.2.2.2.2.2.2.2.2.1, zK.2.2.2.2.2.2.2.2.2.2.1⟩
  have eI : cp im s 0 937 = s := zO_cp zs zi
  obtain ⟨h1, h2, e, k, ⟨t1, t2, s1, s2⟩, wA, wM⟩ := L_step (kA := 250) (kM := 250) (yA := 41) (yM := 223) z (A_image (d := 242) zK ⟨by omega, by omega⟩) (fun h1 z1 zS1 => N_image (G := G) (d := 249) z1) ⟨zs, by rw [eI]; exact zs⟩ (fun _ => eI)
  refine ⟨h2, e, k, fun Q => ?_⟩
  simp (disch := omega) only [KK, Int.reduceEq, not_false_iff, ↓reduceIte, ↓if_pos, ↓if_neg, xt_o, true_and, nlO_i, nlO_n, nlO_r, List.length_nil, List.length_cons, Nat.reduceAdd, Nat.reduceLeDiff, Nat.zero_le, u226_1162, u226_1163, u226_1166, u226_1167, u226_1170, u226_1173, u226_1174, t1, t2, s1, s2, wA, wM, VS12, VS13, xa_s, ar_add, eq_self, true_or, or_true]
theorem LC_undo {s si im bd : Int → Int} {hi rn : Int} (z : LK G b L xs s si im hi rn bd h) (hX : ∀ k : Int, iR (xs (i + k).toNat)) (i0 : 0 ≤ i ∧ i + 4 ≤ L) (hL : L ≤ 2048) (hr : h.1 + 200 ≤ maxC ∧ h.2.1 + 1000 ≤ maxS) : ∃ h2 : MH, LE G b L xs h2 ∧ (h2.1 ≤ h.1 + 100 ∧ h2.2.1 ≤ h.2.1 + 400) ∧ ∀ Q : KQ, wp G 250 226 1175 [some (vR b), some (vR G.1), some (vR (G.1 + 70)), some (vI i)] [] h Q = wp G 250 226 1211 [some (vR b), some (vR G.1), some (vR (G.1 + 70)), some (vI i)] [] h2 Q := by
  obtain ⟨⟨Bs, ad, vn, vi, vt, st, zK⟩, zM, ⟨zs, zi⟩, zh, zS, hb, hxs⟩ := id z
  have okp := K_p zK
  have hh : hi = 0 ∨ hi = 1 := zK.2.2.2.1.2
  have hrn : 0 ≤ rn ∧ rn ≤ 100 := ⟨zK.2.2.2.2.2.2.2.2.2.1, zK.2.2.2.2.2.2.2.2.2.2.1⟩
  have eU : (if hi = 0 then s else cp s im 0 937) = (if hi = 0 then s else si) := by
    by_cases c : hi = 0
    · rw [if_pos c, if_pos c]
    · rw [if_neg c, if_neg c, zO_cp zi zs]; exact zh (by omega)
  have eA : (if hi = 0 then -3 else im 27) = (if hi = 0 then -3 else si 27) := by
    by_cases c : hi = 0
    · rw [if_pos c, if_pos c]
    · rw [if_neg c, if_neg c, zh (by omega)]
  have zu : zOut (if hi = 0 then s else si) := by
    by_cases c : hi = 0
    · rw [if_pos c]; exact zs
    · rw [if_neg c, ← zh (by omega)]; exact zi
  obtain ⟨h1, h2, e, k, ⟨t1, t2, s1, s2⟩, wA, wM⟩ := L_step (kA := 250) (kM := 250) (yA := 42) (yM := 224) z (A_undo (d := 242) zK ⟨by omega, by omega⟩) (fun h1 z1 zS1 => by have q := N_undo (G := G) (d := 249) z1 hh; rw [eU, eA] at q; exact q) ⟨zu, zi⟩ zh
  refine ⟨h2, e, k, fun Q => ?_⟩
  simp (disch := omega) only [KK, Int.reduceEq, not_false_iff, ↓reduceIte, ↓if_pos, ↓if_neg, xt_o, true_and, nlO_i, nlO_n, nlO_r, List.length_nil, List.length_cons, Nat.reduceAdd, Nat.reduceLeDiff, Nat.zero_le, u226_1175, u226_1176, u226_1179, u226_1180, u226_1183, u226_1186, u226_1187, t1, t2, s1, s2, wA, wM, VS12, VS13, xa_s, ar_add, eq_self, true_or, or_true]
theorem LC_count {s si im bd : Int → Int} {hi rn : Int} (z : LK G b L xs s si im hi rn bd h) (hX : ∀ k : Int, iR (xs (i + k).toNat)) (i0 : 0 ≤ i ∧ i + 4 ≤ L) (hL : L ≤ 2048) (hr : h.1 + 200 ≤ maxC ∧ h.2.1 + 1000 ≤ maxS) : ∃ h2 : MH, LE G b L xs h2 ∧ (h2.1 ≤ h.1 + 100 ∧ h2.2.1 ≤ h.2.1 + 400) ∧ ∀ Q : KQ, wp G 250 226 1188 [some (vR b), some (vR G.1), some (vR (G.1 + 70)), some (vI i)] [] h Q = wp G 250 226 1211 [some (vR b), some (vR G.1), some (vR (G.1 + 70)), some (vI i)] [] h2 Q := by
  obtain ⟨⟨Bs, ad, vn, vi, vt, st, zK⟩, zM, ⟨zs, zi⟩, zh, zS, hb, hxs⟩ := id z
  have okp := K_p zK
  have hh : hi = 0 ∨ hi = 1 := zK.2.2.2.1.2
  have hrn : 0 ≤ rn ∧ rn ≤ 100 := ⟨zK.2.2.2.2.2.2.2.2.2.1, zK.2.2.2.2.2.2.2.2.2.2.1⟩
  obtain ⟨h1, h2, e, k, ⟨t1, t2, s1, s2⟩, wA, wM⟩ := L_step (kA := 250) (kM := 250) (yA := 43) (yM := 225) z (cQ_S (A_count (d := 247) zK (w := (xs (i + 1).toNat)))) (fun h1 z1 zS1 => N_count (G := G) (d := 247) z1 (w := (xs (i + 1).toNat))) ⟨zs, zi⟩ zh
  refine ⟨h2, e, k, fun Q => ?_⟩
  simp (disch := omega) only [KK, Int.reduceEq, not_false_iff, ↓reduceIte, ↓if_pos, ↓if_neg, xt_o, true_and, nlO_i, nlO_n, nlO_r, List.length_nil, List.length_cons, Nat.reduceAdd, Nat.reduceLeDiff, Nat.zero_le, u226_1188, u226_1189, u226_1190, u226_1191, u226_1192, u226_1193, u226_1194, u226_1197, u226_1198, u226_1199, u226_1200, u226_1201, u226_1202, u226_1203, u226_1206, u226_1209, u226_1210, t1, t2, s1, s2, wA, wM, VS12, VS13, xa_s, ar_add, eq_self, true_or, or_true]
end Y1
