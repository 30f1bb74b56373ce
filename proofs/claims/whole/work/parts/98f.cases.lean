/-! the law, case by case -/
theorem LI.x0 {hh : aH} {b x s0 L n : Nat} {xs : Nat → Int32} {g S K T : Nat → Nat} (H : LI hh b x s0 L xs g S K T n) : hget hh x = some (.inr (6, [.ref (x + 1), .ref (x + 135), .ref (x + 136), .ref (x + 140), .ref (x + 143), .int (nI n), .ref (x + 144)])) := by
  obtain ⟨_, _, ⟨z, c0, _⟩, _⟩ := H
  exact c0
theorem lg_self (a : Int64) : lg_cmp a a = 0 := (lg_cmp_eq a a).mpr rfl
section LC
variable {hh : aH} {b x s0 L n i : Nat} {xs : Nat → Int32} {g S K T : Nat → Nat}
theorem l_setPackets (H : LI hh b x s0 L xs g S K T n) (hi : i + 4 ≤ L) (hL : L ≤ 2048) : ∃ hh', run 189 216 [.ref b, .ref x, .ref (x + 145), .int (nI i)] [] hh = run 189 1239 [.ref b, .ref x, .ref (x + 145), .int (nI i)] [] hh' ∧ ∃ g S K T n, LI hh' b x s0 L xs g S K T n := by
  have b0 := H.1
  have x0 := H.x0
  obtain ⟨h1, h2, r1, s1, ⟨fs, m1⟩, r2, L2⟩ := op_setPackets H (xs (i + 1))
  refine ⟨h2, ?_, L2⟩
  simp (disch := omega) only [s189_216, s189_217, s189_218, s189_219, s189_220, s189_221, s189_222, s189_225, s189_226, s189_227, s189_228, s189_229, s189_230, s189_231, s189_234, s189_237, s189_238, gf0, gf1, gf2, gf3, gf4, gf5, gf6, gf7, gf8, gf9, gf10, gf11, gf12, gf13, gf14, pu0, pu1, pu2, pu3, pu4, pu5, pu6, pu7, pu8, pu9, pu10, pu11, pu12, pu13, pu14, rc_at, bK_some, Option.toList_some, Option.toList_none, List.cons_append, List.nil_append, b0, x0, s1, m1, nI_adds, al_S, r1, r2, if_true]
theorem l_setPayload (H : LI hh b x s0 L xs g S K T n) (hi : i + 4 ≤ L) (hL : L ≤ 2048) : ∃ hh', run 189 239 [.ref b, .ref x, .ref (x + 145), .int (nI i)] [] hh = run 189 1239 [.ref b, .ref x, .ref (x + 145), .int (nI i)] [] hh' ∧ ∃ g S K T n, LI hh' b x s0 L xs g S K T n := by
  have b0 := H.1
  have x0 := H.x0
  obtain ⟨h1, h2, r1, s1, ⟨fs, m1⟩, r2, L2⟩ := op_setPayload H (xs (i + 1)) (xs (i + 2))
  refine ⟨h2, ?_, L2⟩
  simp (disch := omega) only [s189_239, s189_240, s189_241, s189_242, s189_243, s189_244, s189_245, s189_246, s189_247, s189_248, s189_249, s189_250, s189_253, s189_254, s189_255, s189_256, s189_257, s189_258, s189_259, s189_260, s189_261, s189_262, s189_263, s189_264, s189_267, s189_270, s189_271, gf0, gf1, gf2, gf3, gf4, gf5, gf6, gf7, gf8, gf9, gf10, gf11, gf12, gf13, gf14, pu0, pu1, pu2, pu3, pu4, pu5, pu6, pu7, pu8, pu9, pu10, pu11, pu12, pu13, pu14, rc_at, bK_some, Option.toList_some, Option.toList_none, List.cons_append, List.nil_append, b0, x0, s1, m1, nI_adds, al_S, r1, r2, if_true]
theorem l_setNodes (H : LI hh b x s0 L xs g S K T n) (hi : i + 4 ≤ L) (hL : L ≤ 2048) : ∃ hh', run 189 272 [.ref b, .ref x, .ref (x + 145), .int (nI i)] [] hh = run 189 1239 [.ref b, .ref x, .ref (x + 145), .int (nI i)] [] hh' ∧ ∃ g S K T n, LI hh' b x s0 L xs g S K T n := by
  have b0 := H.1
  have x0 := H.x0
  obtain ⟨h1, h2, r1, s1, ⟨fs, m1⟩, r2, L2⟩ := op_setNodes H (xs (i + 1))
  refine ⟨h2, ?_, L2⟩
  simp (disch := omega) only [s189_272, s189_273, s189_274, s189_275, s189_276, s189_277, s189_278, s189_281, s189_282, s189_283, s189_284, s189_285, s189_286, s189_287, s189_290, s189_293, s189_294, gf0, gf1, gf2, gf3, gf4, gf5, gf6, gf7, gf8, gf9, gf10, gf11, gf12, gf13, gf14, pu0, pu1, pu2, pu3, pu4, pu5, pu6, pu7, pu8, pu9, pu10, pu11, pu12, pu13, pu14, rc_at, bK_some, Option.toList_some, Option.toList_none, List.cons_append, List.nil_append, b0, x0, s1, m1, nI_adds, al_S, r1, r2, if_true]
theorem l_addLink (H : LI hh b x s0 L xs g S K T n) (hi : i + 4 ≤ L) (hL : L ≤ 2048) : ∃ hh', run 189 295 [.ref b, .ref x, .ref (x + 145), .int (nI i)] [] hh = run 189 1239 [.ref b, .ref x, .ref (x + 145), .int (nI i)] [] hh' ∧ ∃ g S K T n, LI hh' b x s0 L xs g S K T n := by
  have b0 := H.1
  have x0 := H.x0
  obtain ⟨h1, h2, r1, s1, ⟨fs, m1⟩, r2, L2⟩ := op_addLink H (xs (i + 1)) (xs (i + 2)) (xs (i + 3))
  refine ⟨h2, ?_, L2⟩
  simp (disch := omega) only [s189_295, s189_296, s189_297, s189_298, s189_299, s189_300, s189_301, s189_302, s189_303, s189_304, s189_305, s189_306, s189_307, s189_308, s189_309, s189_310, s189_311, s189_314, s189_315, s189_316, s189_317, s189_318, s189_319, s189_320, s189_321, s189_322, s189_323, s189_324, s189_325, s189_326, s189_327, s189_328, s189_329, s189_330, s189_333, s189_336, s189_337, gf0, gf1, gf2, gf3, gf4, gf5, gf6, gf7, gf8, gf9, gf10, gf11, gf12, gf13, gf14, pu0, pu1, pu2, pu3, pu4, pu5, pu6, pu7, pu8, pu9, pu10, pu11, pu12, pu13, pu14, rc_at, bK_some, Option.toList_some, Option.toList_none, List.cons_append, List.nil_append, b0, x0, s1, m1, nI_adds, al_S, r1, r2, if_true]
theorem l_removeLink (H : LI hh b x s0 L xs g S K T n) (hi : i + 4 ≤ L) (hL : L ≤ 2048) : ∃ hh', run 189 338 [.ref b, .ref x, .ref (x + 145), .int (nI i)] [] hh = run 189 1239 [.ref b, .ref x, .ref (x + 145), .int (nI i)] [] hh' ∧ ∃ g S K T n, LI hh' b x s0 L xs g S K T n := by
  have b0 := H.1
  have x0 := H.x0
  obtain ⟨h1, h2, r1, s1, ⟨fs, m1⟩, r2, L2⟩ := op_removeLink H
  refine ⟨h2, ?_, L2⟩
  simp (disch := omega) only [s189_338, s189_339, s189_342, s189_343, s189_346, s189_349, s189_350, gf0, gf1, gf2, gf3, gf4, gf5, gf6, gf7, gf8, gf9, gf10, gf11, gf12, gf13, gf14, pu0, pu1, pu2, pu3, pu4, pu5, pu6, pu7, pu8, pu9, pu10, pu11, pu12, pu13, pu14, rc_at, bK_some, Option.toList_some, Option.toList_none, List.cons_append, List.nil_append, b0, x0, s1, m1, nI_adds, al_S, r1, r2, if_true]
theorem l_setBehavior (H : LI hh b x s0 L xs g S K T n) (hi : i + 4 ≤ L) (hL : L ≤ 2048) : ∃ hh', run 189 351 [.ref b, .ref x, .ref (x + 145), .int (nI i)] [] hh = run 189 1239 [.ref b, .ref x, .ref (x + 145), .int (nI i)] [] hh' ∧ ∃ g S K T n, LI hh' b x s0 L xs g S K T n := by
  have b0 := H.1
  have x0 := H.x0
  obtain ⟨h1, h2, r1, s1, ⟨fs, m1⟩, r2, L2⟩ := op_setBehavior H (xs (i + 1)) (xs (i + 2))
  refine ⟨h2, ?_, L2⟩
  simp (disch := omega) only [s189_351, s189_352, s189_353, s189_354, s189_355, s189_356, s189_357, s189_358, s189_359, s189_360, s189_361, s189_362, s189_365, s189_366, s189_367, s189_368, s189_369, s189_370, s189_371, s189_372, s189_373, s189_374, s189_375, s189_376, s189_379, s189_382, s189_383, gf0, gf1, gf2, gf3, gf4, gf5, gf6, gf7, gf8, gf9, gf10, gf11, gf12, gf13, gf14, pu0, pu1, pu2, pu3, pu4, pu5, pu6, pu7, pu8, pu9, pu10, pu11, pu12, pu13, pu14, rc_at, bK_some, Option.toList_some, Option.toList_none, List.cons_append, List.nil_append, b0, x0, s1, m1, nI_adds, al_S, r1, r2, if_true]
theorem l_setState (H : LI hh b x s0 L xs g S K T n) (hi : i + 4 ≤ L) (hL : L ≤ 2048) : ∃ hh', run 189 384 [.ref b, .ref x, .ref (x + 145), .int (nI i)] [] hh = run 189 1239 [.ref b, .ref x, .ref (x + 145), .int (nI i)] [] hh' ∧ ∃ g S K T n, LI hh' b x s0 L xs g S K T n := by
  have b0 := H.1
  have x0 := H.x0
  obtain ⟨h1, h2, r1, s1, ⟨fs, m1⟩, r2, L2⟩ := op_setState H (xs (i + 1))
  refine ⟨h2, ?_, L2⟩
  simp (disch := omega) only [s189_384, s189_385, s189_386, s189_387, s189_388, s189_389, s189_390, s189_393, s189_394, s189_395, s189_396, s189_397, s189_398, s189_399, s189_402, s189_405, s189_406, gf0, gf1, gf2, gf3, gf4, gf5, gf6, gf7, gf8, gf9, gf10, gf11, gf12, gf13, gf14, pu0, pu1, pu2, pu3, pu4, pu5, pu6, pu7, pu8, pu9, pu10, pu11, pu12, pu13, pu14, rc_at, bK_some, Option.toList_some, Option.toList_none, List.cons_append, List.nil_append, b0, x0, s1, m1, nI_adds, al_S, r1, r2, if_true]
theorem l_setLimit (H : LI hh b x s0 L xs g S K T n) (hi : i + 4 ≤ L) (hL : L ≤ 2048) : ∃ hh', run 189 407 [.ref b, .ref x, .ref (x + 145), .int (nI i)] [] hh = run 189 1239 [.ref b, .ref x, .ref (x + 145), .int (nI i)] [] hh' ∧ ∃ g S K T n, LI hh' b x s0 L xs g S K T n := by
  have b0 := H.1
  have x0 := H.x0
  obtain ⟨h1, h2, r1, s1, ⟨fs, m1⟩, r2, L2⟩ := op_setLimit H (xs (i + 1))
  refine ⟨h2, ?_, L2⟩
  simp (disch := omega) only [s189_407, s189_408, s189_409, s189_410, s189_411, s189_412, s189_413, s189_416, s189_417, s189_418, s189_419, s189_420, s189_421, s189_422, s189_425, s189_428, s189_429, gf0, gf1, gf2, gf3, gf4, gf5, gf6, gf7, gf8, gf9, gf10, gf11, gf12, gf13, gf14, pu0, pu1, pu2, pu3, pu4, pu5, pu6, pu7, pu8, pu9, pu10, pu11, pu12, pu13, pu14, rc_at, bK_some, Option.toList_some, Option.toList_none, List.cons_append, List.nil_append, b0, x0, s1, m1, nI_adds, al_S, r1, r2, if_true]
theorem l_run (H : LI hh b x s0 L xs g S K T n) (hi : i + 4 ≤ L) (hL : L ≤ 2048) : ∃ hh', run 189 430 [.ref b, .ref x, .ref (x + 145), .int (nI i)] [] hh = run 189 1239 [.ref b, .ref x, .ref (x + 145), .int (nI i)] [] hh' ∧ ∃ g S K T n, LI hh' b x s0 L xs g S K T n := by
  have b0 := H.1
  have x0 := H.x0
  obtain ⟨h1, h2, r1, s1, ⟨fs, m1⟩, r2, L2⟩ := op_run H (xs (i + 1))
  refine ⟨h2, ?_, L2⟩
  simp (disch := omega) only [s189_430, s189_431, s189_432, s189_433, s189_434, s189_435, s189_436, s189_439, s189_440, s189_441, s189_442, s189_443, s189_444, s189_445, s189_448, s189_451, s189_452, gf0, gf1, gf2, gf3, gf4, gf5, gf6, gf7, gf8, gf9, gf10, gf11, gf12, gf13, gf14, pu0, pu1, pu2, pu3, pu4, pu5, pu6, pu7, pu8, pu9, pu10, pu11, pu12, pu13, pu14, rc_at, bK_some, Option.toList_some, Option.toList_none, List.cons_append, List.nil_append, b0, x0, s1, m1, nI_adds, al_S, r1, r2, if_true]
theorem l_runUntil (H : LI hh b x s0 L xs g S K T n) (hi : i + 4 ≤ L) (hL : L ≤ 2048) : ∃ hh', run 189 453 [.ref b, .ref x, .ref (x + 145), .int (nI i)] [] hh = run 189 1239 [.ref b, .ref x, .ref (x + 145), .int (nI i)] [] hh' ∧ ∃ g S K T n, LI hh' b x s0 L xs g S K T n := by
  have b0 := H.1
  have x0 := H.x0
  obtain ⟨h1, h2, r1, s1, ⟨fs, m1⟩, r2, L2⟩ := op_runUntil H (xs (i + 1))
  refine ⟨h2, ?_, L2⟩
  simp (disch := omega) only [s189_453, s189_454, s189_455, s189_456, s189_457, s189_458, s189_459, s189_462, s189_463, s189_464, s189_465, s189_466, s189_467, s189_468, s189_471, s189_474, s189_475, gf0, gf1, gf2, gf3, gf4, gf5, gf6, gf7, gf8, gf9, gf10, gf11, gf12, gf13, gf14, pu0, pu1, pu2, pu3, pu4, pu5, pu6, pu7, pu8, pu9, pu10, pu11, pu12, pu13, pu14, rc_at, bK_some, Option.toList_some, Option.toList_none, List.cons_append, List.nil_append, b0, x0, s1, m1, nI_adds, al_S, r1, r2, if_true]
theorem l_rounds (H : LI hh b x s0 L xs g S K T n) (hi : i + 4 ≤ L) (hL : L ≤ 2048) : ∃ hh', run 189 476 [.ref b, .ref x, .ref (x + 145), .int (nI i)] [] hh = run 189 1239 [.ref b, .ref x, .ref (x + 145), .int (nI i)] [] hh' ∧ ∃ g S K T n, LI hh' b x s0 L xs g S K T n := by
  have b0 := H.1
  have x0 := H.x0
  obtain ⟨h1, h2, r1, s1, ⟨fs, m1⟩, r2, L2⟩ := op_rounds H
  refine ⟨h2, ?_, L2⟩
  simp (disch := omega) only [s189_476, s189_477, s189_480, s189_481, s189_484, s189_487, s189_488, gf0, gf1, gf2, gf3, gf4, gf5, gf6, gf7, gf8, gf9, gf10, gf11, gf12, gf13, gf14, pu0, pu1, pu2, pu3, pu4, pu5, pu6, pu7, pu8, pu9, pu10, pu11, pu12, pu13, pu14, rc_at, bK_some, Option.toList_some, Option.toList_none, List.cons_append, List.nil_append, b0, x0, s1, m1, nI_adds, al_S, r1, r2, if_true]
theorem l_nodes (H : LI hh b x s0 L xs g S K T n) (hi : i + 4 ≤ L) (hL : L ≤ 2048) : ∃ hh', run 189 489 [.ref b, .ref x, .ref (x + 145), .int (nI i)] [] hh = run 189 1239 [.ref b, .ref x, .ref (x + 145), .int (nI i)] [] hh' ∧ ∃ g S K T n, LI hh' b x s0 L xs g S K T n := by
  have b0 := H.1
  have x0 := H.x0
  obtain ⟨h1, h2, r1, s1, ⟨fs, m1⟩, r2, L2⟩ := op_nodes H
  refine ⟨h2, ?_, L2⟩
  simp (disch := omega) only [s189_489, s189_490, s189_493, s189_494, s189_497, s189_500, s189_501, gf0, gf1, gf2, gf3, gf4, gf5, gf6, gf7, gf8, gf9, gf10, gf11, gf12, gf13, gf14, pu0, pu1, pu2, pu3, pu4, pu5, pu6, pu7, pu8, pu9, pu10, pu11, pu12, pu13, pu14, rc_at, bK_some, Option.toList_some, Option.toList_none, List.cons_append, List.nil_append, b0, x0, s1, m1, nI_adds, al_S, r1, r2, if_true]
theorem l_links (H : LI hh b x s0 L xs g S K T n) (hi : i + 4 ≤ L) (hL : L ≤ 2048) : ∃ hh', run 189 502 [.ref b, .ref x, .ref (x + 145), .int (nI i)] [] hh = run 189 1239 [.ref b, .ref x, .ref (x + 145), .int (nI i)] [] hh' ∧ ∃ g S K T n, LI hh' b x s0 L xs g S K T n := by
  have b0 := H.1
  have x0 := H.x0
  obtain ⟨h1, h2, r1, s1, ⟨fs, m1⟩, r2, L2⟩ := op_links H
  refine ⟨h2, ?_, L2⟩
  simp (disch := omega) only [s189_502, s189_503, s189_506, s189_507, s189_510, s189_513, s189_514, gf0, gf1, gf2, gf3, gf4, gf5, gf6, gf7, gf8, gf9, gf10, gf11, gf12, gf13, gf14, pu0, pu1, pu2, pu3, pu4, pu5, pu6, pu7, pu8, pu9, pu10, pu11, pu12, pu13, pu14, rc_at, bK_some, Option.toList_some, Option.toList_none, List.cons_append, List.nil_append, b0, x0, s1, m1, nI_adds, al_S, r1, r2, if_true]
theorem l_link (H : LI hh b x s0 L xs g S K T n) (hi : i + 4 ≤ L) (hL : L ≤ 2048) : ∃ hh', run 189 515 [.ref b, .ref x, .ref (x + 145), .int (nI i)] [] hh = run 189 1239 [.ref b, .ref x, .ref (x + 145), .int (nI i)] [] hh' ∧ ∃ g S K T n, LI hh' b x s0 L xs g S K T n := by
  have b0 := H.1
  have x0 := H.x0
  obtain ⟨h1, h2, r1, s1, ⟨fs, m1⟩, r2, L2⟩ := op_link H (xs (i + 1)) (xs (i + 2))
  refine ⟨h2, ?_, L2⟩
  simp (disch := omega) only [s189_515, s189_516, s189_517, s189_518, s189_519, s189_520, s189_521, s189_522, s189_523, s189_524, s189_525, s189_526, s189_529, s189_530, s189_531, s189_532, s189_533, s189_534, s189_535, s189_536, s189_537, s189_538, s189_539, s189_540, s189_543, s189_546, s189_547, gf0, gf1, gf2, gf3, gf4, gf5, gf6, gf7, gf8, gf9, gf10, gf11, gf12, gf13, gf14, pu0, pu1, pu2, pu3, pu4, pu5, pu6, pu7, pu8, pu9, pu10, pu11, pu12, pu13, pu14, rc_at, bK_some, Option.toList_some, Option.toList_none, List.cons_append, List.nil_append, b0, x0, s1, m1, nI_adds, al_S, r1, r2, if_true]
theorem l_rank (H : LI hh b x s0 L xs g S K T n) (hi : i + 4 ≤ L) (hL : L ≤ 2048) : ∃ hh', run 189 548 [.ref b, .ref x, .ref (x + 145), .int (nI i)] [] hh = run 189 1239 [.ref b, .ref x, .ref (x + 145), .int (nI i)] [] hh' ∧ ∃ g S K T n, LI hh' b x s0 L xs g S K T n := by
  have b0 := H.1
  have x0 := H.x0
  obtain ⟨h1, h2, r1, s1, ⟨fs, m1⟩, r2, L2⟩ := op_rank H (xs (i + 1))
  refine ⟨h2, ?_, L2⟩
  simp (disch := omega) only [s189_548, s189_549, s189_550, s189_551, s189_552, s189_553, s189_554, s189_557, s189_558, s189_559, s189_560, s189_561, s189_562, s189_563, s189_566, s189_569, s189_570, gf0, gf1, gf2, gf3, gf4, gf5, gf6, gf7, gf8, gf9, gf10, gf11, gf12, gf13, gf14, pu0, pu1, pu2, pu3, pu4, pu5, pu6, pu7, pu8, pu9, pu10, pu11, pu12, pu13, pu14, rc_at, bK_some, Option.toList_some, Option.toList_none, List.cons_append, List.nil_append, b0, x0, s1, m1, nI_adds, al_S, r1, r2, if_true]
theorem l_vector (H : LI hh b x s0 L xs g S K T n) (hi : i + 4 ≤ L) (hL : L ≤ 2048) : ∃ hh', run 189 571 [.ref b, .ref x, .ref (x + 145), .int (nI i)] [] hh = run 189 1239 [.ref b, .ref x, .ref (x + 145), .int (nI i)] [] hh' ∧ ∃ g S K T n, LI hh' b x s0 L xs g S K T n := by
  have b0 := H.1
  have x0 := H.x0
  obtain ⟨h1, h2, r1, s1, ⟨fs, m1⟩, r2, L2⟩ := op_vector H (xs (i + 1)) (xs (i + 2))
  refine ⟨h2, ?_, L2⟩
  simp (disch := omega) only [s189_571, s189_572, s189_573, s189_574, s189_575, s189_576, s189_577, s189_578, s189_579, s189_580, s189_581, s189_582, s189_585, s189_586, s189_587, s189_588, s189_589, s189_590, s189_591, s189_592, s189_593, s189_594, s189_595, s189_596, s189_599, s189_602, s189_603, gf0, gf1, gf2, gf3, gf4, gf5, gf6, gf7, gf8, gf9, gf10, gf11, gf12, gf13, gf14, pu0, pu1, pu2, pu3, pu4, pu5, pu6, pu7, pu8, pu9, pu10, pu11, pu12, pu13, pu14, rc_at, bK_some, Option.toList_some, Option.toList_none, List.cons_append, List.nil_append, b0, x0, s1, m1, nI_adds, al_S, r1, r2, if_true]
theorem l_payload (H : LI hh b x s0 L xs g S K T n) (hi : i + 4 ≤ L) (hL : L ≤ 2048) : ∃ hh', run 189 604 [.ref b, .ref x, .ref (x + 145), .int (nI i)] [] hh = run 189 1239 [.ref b, .ref x, .ref (x + 145), .int (nI i)] [] hh' ∧ ∃ g S K T n, LI hh' b x s0 L xs g S K T n := by
  have b0 := H.1
  have x0 := H.x0
  obtain ⟨h1, h2, r1, s1, ⟨fs, m1⟩, r2, L2⟩ := op_payload H (xs (i + 1)) (xs (i + 2))
  refine ⟨h2, ?_, L2⟩
  simp (disch := omega) only [s189_604, s189_605, s189_606, s189_607, s189_608, s189_609, s189_610, s189_611, s189_612, s189_613, s189_614, s189_615, s189_618, s189_619, s189_620, s189_621, s189_622, s189_623, s189_624, s189_625, s189_626, s189_627, s189_628, s189_629, s189_632, s189_635, s189_636, gf0, gf1, gf2, gf3, gf4, gf5, gf6, gf7, gf8, gf9, gf10, gf11, gf12, gf13, gf14, pu0, pu1, pu2, pu3, pu4, pu5, pu6, pu7, pu8, pu9, pu10, pu11, pu12, pu13, pu14, rc_at, bK_some, Option.toList_some, Option.toList_none, List.cons_append, List.nil_append, b0, x0, s1, m1, nI_adds, al_S, r1, r2, if_true]
theorem l_fates (H : LI hh b x s0 L xs g S K T n) (hi : i + 4 ≤ L) (hL : L ≤ 2048) : ∃ hh', run 189 637 [.ref b, .ref x, .ref (x + 145), .int (nI i)] [] hh = run 189 1239 [.ref b, .ref x, .ref (x + 145), .int (nI i)] [] hh' ∧ ∃ g S K T n, LI hh' b x s0 L xs g S K T n := by
  have b0 := H.1
  have x0 := H.x0
  obtain ⟨h1, h2, r1, s1, ⟨fs, m1⟩, r2, L2⟩ := op_fates H (xs (i + 1)) (xs (i + 2))
  refine ⟨h2, ?_, L2⟩
  simp (disch := omega) only [s189_637, s189_638, s189_639, s189_640, s189_641, s189_642, s189_643, s189_644, s189_645, s189_646, s189_647, s189_648, s189_651, s189_652, s189_653, s189_654, s189_655, s189_656, s189_657, s189_658, s189_659, s189_660, s189_661, s189_662, s189_665, s189_668, s189_669, gf0, gf1, gf2, gf3, gf4, gf5, gf6, gf7, gf8, gf9, gf10, gf11, gf12, gf13, gf14, pu0, pu1, pu2, pu3, pu4, pu5, pu6, pu7, pu8, pu9, pu10, pu11, pu12, pu13, pu14, rc_at, bK_some, Option.toList_some, Option.toList_none, List.cons_append, List.nil_append, b0, x0, s1, m1, nI_adds, al_S, r1, r2, if_true]
theorem l_lastSent (H : LI hh b x s0 L xs g S K T n) (hi : i + 4 ≤ L) (hL : L ≤ 2048) : ∃ hh', run 189 670 [.ref b, .ref x, .ref (x + 145), .int (nI i)] [] hh = run 189 1239 [.ref b, .ref x, .ref (x + 145), .int (nI i)] [] hh' ∧ ∃ g S K T n, LI hh' b x s0 L xs g S K T n := by
  have b0 := H.1
  have x0 := H.x0
  obtain ⟨h1, h2, r1, s1, ⟨fs, m1⟩, r2, L2⟩ := op_lastSent H (xs (i + 1))
  refine ⟨h2, ?_, L2⟩
  simp (disch := omega) only [s189_670, s189_671, s189_672, s189_673, s189_674, s189_675, s189_676, s189_679, s189_680, s189_681, s189_682, s189_683, s189_684, s189_685, s189_688, s189_691, s189_692, gf0, gf1, gf2, gf3, gf4, gf5, gf6, gf7, gf8, gf9, gf10, gf11, gf12, gf13, gf14, pu0, pu1, pu2, pu3, pu4, pu5, pu6, pu7, pu8, pu9, pu10, pu11, pu12, pu13, pu14, rc_at, bK_some, Option.toList_some, Option.toList_none, List.cons_append, List.nil_append, b0, x0, s1, m1, nI_adds, al_S, r1, r2, if_true]
theorem l_endSum (H : LI hh b x s0 L xs g S K T n) (hi : i + 4 ≤ L) (hL : L ≤ 2048) : ∃ hh', run 189 693 [.ref b, .ref x, .ref (x + 145), .int (nI i)] [] hh = run 189 1239 [.ref b, .ref x, .ref (x + 145), .int (nI i)] [] hh' ∧ ∃ g S K T n, LI hh' b x s0 L xs g S K T n := by
  have b0 := H.1
  have x0 := H.x0
  by_cases z : xs (i + 2) = 0
  · obtain ⟨h1, h2, r1, s1, ⟨fs, m1⟩, r2, L2⟩ := op_endSum H (xs (i + 1)) (nI 0)
    refine ⟨h2, ?_, L2⟩
    simp (disch := omega) only [s189_693, s189_694, s189_695, s189_696, s189_697, s189_698, s189_699, s189_700, s189_701, s189_702, s189_703, s189_704, s189_707, s189_708, s189_711, s189_712, s189_715, s189_716, s189_717, s189_718, s189_719, s189_720, s189_721, s189_722, s189_723, s189_724, s189_725, s189_726, s189_729, s189_730, s189_733, s189_734, s189_737, s189_740, s189_741, gf0, gf1, gf2, gf3, gf4, gf5, gf6, gf7, gf8, gf9, gf10, gf11, gf12, gf13, gf14, pu0, pu1, pu2, pu3, pu4, pu5, pu6, pu7, pu8, pu9, pu10, pu11, pu12, pu13, pu14, rc_at, bK_some, Option.toList_some, Option.toList_none, List.cons_append, List.nil_append, b0, x0, s1, m1, nI_adds, al_S, z, r1, r2, if_true, if_false]
  · obtain ⟨h1, h2, r1, s1, ⟨fs, m1⟩, r2, L2⟩ := op_endSum H (xs (i + 1)) (nI 1)
    refine ⟨h2, ?_, L2⟩
    simp (disch := omega) only [s189_693, s189_694, s189_695, s189_696, s189_697, s189_698, s189_699, s189_700, s189_701, s189_702, s189_703, s189_704, s189_707, s189_708, s189_711, s189_712, s189_715, s189_716, s189_717, s189_718, s189_719, s189_720, s189_721, s189_722, s189_723, s189_724, s189_725, s189_726, s189_729, s189_730, s189_733, s189_734, s189_737, s189_740, s189_741, gf0, gf1, gf2, gf3, gf4, gf5, gf6, gf7, gf8, gf9, gf10, gf11, gf12, gf13, gf14, pu0, pu1, pu2, pu3, pu4, pu5, pu6, pu7, pu8, pu9, pu10, pu11, pu12, pu13, pu14, rc_at, bK_some, Option.toList_some, Option.toList_none, List.cons_append, List.nil_append, b0, x0, s1, m1, nI_adds, al_S, z, r1, r2, if_true, if_false]
theorem l_differing (H : LI hh b x s0 L xs g S K T n) (hi : i + 4 ≤ L) (hL : L ≤ 2048) : ∃ hh', run 189 742 [.ref b, .ref x, .ref (x + 145), .int (nI i)] [] hh = run 189 1239 [.ref b, .ref x, .ref (x + 145), .int (nI i)] [] hh' ∧ ∃ g S K T n, LI hh' b x s0 L xs g S K T n := by
  have b0 := H.1
  have x0 := H.x0
  obtain ⟨h1, h2, r1, s1, ⟨fs, m1⟩, r2, L2⟩ := op_differing H
  refine ⟨h2, ?_, L2⟩
  simp (disch := omega) only [s189_742, s189_743, s189_746, s189_747, s189_750, s189_753, s189_754, gf0, gf1, gf2, gf3, gf4, gf5, gf6, gf7, gf8, gf9, gf10, gf11, gf12, gf13, gf14, pu0, pu1, pu2, pu3, pu4, pu5, pu6, pu7, pu8, pu9, pu10, pu11, pu12, pu13, pu14, rc_at, bK_some, Option.toList_some, Option.toList_none, List.cons_append, List.nil_append, b0, x0, s1, m1, nI_adds, al_S, r1, r2, if_true]
theorem l_knows (H : LI hh b x s0 L xs g S K T n) (hi : i + 4 ≤ L) (hL : L ≤ 2048) : ∃ hh', run 189 755 [.ref b, .ref x, .ref (x + 145), .int (nI i)] [] hh = run 189 1239 [.ref b, .ref x, .ref (x + 145), .int (nI i)] [] hh' ∧ ∃ g S K T n, LI hh' b x s0 L xs g S K T n := by
  have b0 := H.1
  have x0 := H.x0
  obtain ⟨h1, h2, r1, s1, ⟨fs, m1⟩, r2, L2⟩ := op_knows H (xs (i + 1))
  refine ⟨h2, ?_, L2⟩
  simp (disch := omega) only [s189_755, s189_756, s189_757, s189_758, s189_759, s189_760, s189_761, s189_764, s189_765, s189_766, s189_767, s189_768, s189_769, s189_770, s189_773, s189_776, s189_777, gf0, gf1, gf2, gf3, gf4, gf5, gf6, gf7, gf8, gf9, gf10, gf11, gf12, gf13, gf14, pu0, pu1, pu2, pu3, pu4, pu5, pu6, pu7, pu8, pu9, pu10, pu11, pu12, pu13, pu14, rc_at, bK_some, Option.toList_some, Option.toList_none, List.cons_append, List.nil_append, b0, x0, s1, m1, nI_adds, al_S, r1, r2, if_true]
theorem l_solve (H : LI hh b x s0 L xs g S K T n) (hi : i + 4 ≤ L) (hL : L ≤ 2048) : ∃ hh', run 189 778 [.ref b, .ref x, .ref (x + 145), .int (nI i)] [] hh = run 189 1239 [.ref b, .ref x, .ref (x + 145), .int (nI i)] [] hh' ∧ ∃ g S K T n, LI hh' b x s0 L xs g S K T n := by
  have b0 := H.1
  have x0 := H.x0
  obtain ⟨h1, h2, r1, s1, ⟨fs, m1⟩, r2, L2⟩ := op_solve H (xs (i + 1)) (xs (i + 2))
  refine ⟨h2, ?_, L2⟩
  simp (disch := omega) only [s189_778, s189_779, s189_780, s189_781, s189_782, s189_783, s189_784, s189_785, s189_786, s189_787, s189_788, s189_789, s189_792, s189_793, s189_794, s189_795, s189_796, s189_797, s189_798, s189_799, s189_800, s189_801, s189_802, s189_803, s189_806, s189_809, s189_810, gf0, gf1, gf2, gf3, gf4, gf5, gf6, gf7, gf8, gf9, gf10, gf11, gf12, gf13, gf14, pu0, pu1, pu2, pu3, pu4, pu5, pu6, pu7, pu8, pu9, pu10, pu11, pu12, pu13, pu14, rc_at, bK_some, Option.toList_some, Option.toList_none, List.cons_append, List.nil_append, b0, x0, s1, m1, nI_adds, al_S, r1, r2, if_true]
theorem l_wrong (H : LI hh b x s0 L xs g S K T n) (hi : i + 4 ≤ L) (hL : L ≤ 2048) : ∃ hh', run 189 811 [.ref b, .ref x, .ref (x + 145), .int (nI i)] [] hh = run 189 1239 [.ref b, .ref x, .ref (x + 145), .int (nI i)] [] hh' ∧ ∃ g S K T n, LI hh' b x s0 L xs g S K T n := by
  have b0 := H.1
  have x0 := H.x0
  obtain ⟨h1, h2, r1, s1, ⟨fs, m1⟩, r2, L2⟩ := op_wrong H
  refine ⟨h2, ?_, L2⟩
  simp (disch := omega) only [s189_811, s189_812, s189_815, s189_816, s189_819, s189_822, s189_823, gf0, gf1, gf2, gf3, gf4, gf5, gf6, gf7, gf8, gf9, gf10, gf11, gf12, gf13, gf14, pu0, pu1, pu2, pu3, pu4, pu5, pu6, pu7, pu8, pu9, pu10, pu11, pu12, pu13, pu14, rc_at, bK_some, Option.toList_some, Option.toList_none, List.cons_append, List.nil_append, b0, x0, s1, m1, nI_adds, al_S, r1, r2, if_true]
theorem l_combination (H : LI hh b x s0 L xs g S K T n) (hi : i + 4 ≤ L) (hL : L ≤ 2048) : ∃ hh', run 189 824 [.ref b, .ref x, .ref (x + 145), .int (nI i)] [] hh = run 189 1239 [.ref b, .ref x, .ref (x + 145), .int (nI i)] [] hh' ∧ ∃ g S K T n, LI hh' b x s0 L xs g S K T n := by
  have b0 := H.1
  have x0 := H.x0
  obtain ⟨h1, h2, r1, s1, ⟨fs, m1⟩, r2, L2⟩ := op_combination H (xs (i + 1)) (xs (i + 2))
  refine ⟨h2, ?_, L2⟩
  simp (disch := omega) only [s189_824, s189_825, s189_826, s189_827, s189_828, s189_829, s189_830, s189_831, s189_832, s189_833, s189_834, s189_835, s189_838, s189_839, s189_840, s189_841, s189_842, s189_843, s189_844, s189_845, s189_846, s189_847, s189_848, s189_849, s189_852, s189_855, s189_856, gf0, gf1, gf2, gf3, gf4, gf5, gf6, gf7, gf8, gf9, gf10, gf11, gf12, gf13, gf14, pu0, pu1, pu2, pu3, pu4, pu5, pu6, pu7, pu8, pu9, pu10, pu11, pu12, pu13, pu14, rc_at, bK_some, Option.toList_some, Option.toList_none, List.cons_append, List.nil_append, b0, x0, s1, m1, nI_adds, al_S, r1, r2, if_true]
theorem l_commonRank (H : LI hh b x s0 L xs g S K T n) (hi : i + 4 ≤ L) (hL : L ≤ 2048) : ∃ hh', run 189 857 [.ref b, .ref x, .ref (x + 145), .int (nI i)] [] hh = run 189 1239 [.ref b, .ref x, .ref (x + 145), .int (nI i)] [] hh' ∧ ∃ g S K T n, LI hh' b x s0 L xs g S K T n := by
  have b0 := H.1
  have x0 := H.x0
  obtain ⟨h1, h2, r1, s1, ⟨fs, m1⟩, r2, L2⟩ := op_commonRank H (xs (i + 1)) (xs (i + 2))
  refine ⟨h2, ?_, L2⟩
  simp (disch := omega) only [s189_857, s189_858, s189_859, s189_860, s189_861, s189_862, s189_863, s189_864, s189_865, s189_866, s189_867, s189_868, s189_871, s189_872, s189_873, s189_874, s189_875, s189_876, s189_877, s189_878, s189_879, s189_880, s189_881, s189_882, s189_885, s189_888, s189_889, gf0, gf1, gf2, gf3, gf4, gf5, gf6, gf7, gf8, gf9, gf10, gf11, gf12, gf13, gf14, pu0, pu1, pu2, pu3, pu4, pu5, pu6, pu7, pu8, pu9, pu10, pu11, pu12, pu13, pu14, rc_at, bK_some, Option.toList_some, Option.toList_none, List.cons_append, List.nil_append, b0, x0, s1, m1, nI_adds, al_S, r1, r2, if_true]
theorem l_suspect (H : LI hh b x s0 L xs g S K T n) (hi : i + 4 ≤ L) (hL : L ≤ 2048) : ∃ hh', run 189 890 [.ref b, .ref x, .ref (x + 145), .int (nI i)] [] hh = run 189 1239 [.ref b, .ref x, .ref (x + 145), .int (nI i)] [] hh' ∧ ∃ g S K T n, LI hh' b x s0 L xs g S K T n := by
  have b0 := H.1
  have x0 := H.x0
  obtain ⟨h1, h2, r1, s1, ⟨fs, m1⟩, r2, L2⟩ := op_suspect H (xs (i + 1)) (xs (i + 2))
  refine ⟨h2, ?_, L2⟩
  simp (disch := omega) only [s189_890, s189_891, s189_892, s189_893, s189_894, s189_895, s189_896, s189_897, s189_898, s189_899, s189_900, s189_901, s189_904, s189_905, s189_906, s189_907, s189_908, s189_909, s189_910, s189_911, s189_912, s189_913, s189_914, s189_915, s189_918, s189_921, s189_922, gf0, gf1, gf2, gf3, gf4, gf5, gf6, gf7, gf8, gf9, gf10, gf11, gf12, gf13, gf14, pu0, pu1, pu2, pu3, pu4, pu5, pu6, pu7, pu8, pu9, pu10, pu11, pu12, pu13, pu14, rc_at, bK_some, Option.toList_some, Option.toList_none, List.cons_append, List.nil_append, b0, x0, s1, m1, nI_adds, al_S, r1, r2, if_true]
theorem l_suspicions (H : LI hh b x s0 L xs g S K T n) (hi : i + 4 ≤ L) (hL : L ≤ 2048) : ∃ hh', run 189 923 [.ref b, .ref x, .ref (x + 145), .int (nI i)] [] hh = run 189 1239 [.ref b, .ref x, .ref (x + 145), .int (nI i)] [] hh' ∧ ∃ g S K T n, LI hh' b x s0 L xs g S K T n := by
  have b0 := H.1
  have x0 := H.x0
  obtain ⟨h1, h2, r1, s1, ⟨fs, m1⟩, r2, L2⟩ := op_suspicions H (xs (i + 1))
  refine ⟨h2, ?_, L2⟩
  simp (disch := omega) only [s189_923, s189_924, s189_925, s189_926, s189_927, s189_928, s189_929, s189_932, s189_933, s189_934, s189_935, s189_936, s189_937, s189_938, s189_941, s189_944, s189_945, gf0, gf1, gf2, gf3, gf4, gf5, gf6, gf7, gf8, gf9, gf10, gf11, gf12, gf13, gf14, pu0, pu1, pu2, pu3, pu4, pu5, pu6, pu7, pu8, pu9, pu10, pu11, pu12, pu13, pu14, rc_at, bK_some, Option.toList_some, Option.toList_none, List.cons_append, List.nil_append, b0, x0, s1, m1, nI_adds, al_S, r1, r2, if_true]
theorem l_check (H : LI hh b x s0 L xs g S K T n) (hi : i + 4 ≤ L) (hL : L ≤ 2048) : ∃ hh', run 189 946 [.ref b, .ref x, .ref (x + 145), .int (nI i)] [] hh = run 189 1239 [.ref b, .ref x, .ref (x + 145), .int (nI i)] [] hh' ∧ ∃ g S K T n, LI hh' b x s0 L xs g S K T n := by
  have b0 := H.1
  have x0 := H.x0
  obtain ⟨h1, h2, r1, s1, ⟨fs, m1⟩, r2, L2⟩ := op_check H (xs (i + 1)) (xs (i + 2))
  refine ⟨h2, ?_, L2⟩
  simp (disch := omega) only [s189_946, s189_947, s189_948, s189_949, s189_950, s189_951, s189_952, s189_953, s189_954, s189_955, s189_956, s189_957, s189_960, s189_961, s189_962, s189_963, s189_964, s189_965, s189_966, s189_967, s189_968, s189_969, s189_970, s189_971, s189_974, s189_977, s189_978, gf0, gf1, gf2, gf3, gf4, gf5, gf6, gf7, gf8, gf9, gf10, gf11, gf12, gf13, gf14, pu0, pu1, pu2, pu3, pu4, pu5, pu6, pu7, pu8, pu9, pu10, pu11, pu12, pu13, pu14, rc_at, bK_some, Option.toList_some, Option.toList_none, List.cons_append, List.nil_append, b0, x0, s1, m1, nI_adds, al_S, r1, r2, if_true]
theorem l_checkRandomly (H : LI hh b x s0 L xs g S K T n) (hi : i + 4 ≤ L) (hL : L ≤ 2048) : ∃ hh', run 189 979 [.ref b, .ref x, .ref (x + 145), .int (nI i)] [] hh = run 189 1239 [.ref b, .ref x, .ref (x + 145), .int (nI i)] [] hh' ∧ ∃ g S K T n, LI hh' b x s0 L xs g S K T n := by
  have b0 := H.1
  have x0 := H.x0
  obtain ⟨h1, h2, r1, s1, ⟨fs, m1⟩, r2, L2⟩ := op_checkRandomly H (xs (i + 1))
  refine ⟨h2, ?_, L2⟩
  simp (disch := omega) only [s189_979, s189_980, s189_981, s189_982, s189_983, s189_984, s189_985, s189_988, s189_989, s189_990, s189_991, s189_992, s189_993, s189_994, s189_997, s189_1000, s189_1001, gf0, gf1, gf2, gf3, gf4, gf5, gf6, gf7, gf8, gf9, gf10, gf11, gf12, gf13, gf14, pu0, pu1, pu2, pu3, pu4, pu5, pu6, pu7, pu8, pu9, pu10, pu11, pu12, pu13, pu14, rc_at, bK_some, Option.toList_some, Option.toList_none, List.cons_append, List.nil_append, b0, x0, s1, m1, nI_adds, al_S, r1, r2, if_true]
theorem l_marks (H : LI hh b x s0 L xs g S K T n) (hi : i + 4 ≤ L) (hL : L ≤ 2048) : ∃ hh', run 189 1002 [.ref b, .ref x, .ref (x + 145), .int (nI i)] [] hh = run 189 1239 [.ref b, .ref x, .ref (x + 145), .int (nI i)] [] hh' ∧ ∃ g S K T n, LI hh' b x s0 L xs g S K T n := by
  have b0 := H.1
  have x0 := H.x0
  obtain ⟨h1, h2, r1, s1, ⟨fs, m1⟩, r2, L2⟩ := op_marks H (xs (i + 1))
  refine ⟨h2, ?_, L2⟩
  simp (disch := omega) only [s189_1002, s189_1003, s189_1004, s189_1005, s189_1006, s189_1007, s189_1008, s189_1011, s189_1012, s189_1013, s189_1014, s189_1015, s189_1016, s189_1017, s189_1020, s189_1023, s189_1024, gf0, gf1, gf2, gf3, gf4, gf5, gf6, gf7, gf8, gf9, gf10, gf11, gf12, gf13, gf14, pu0, pu1, pu2, pu3, pu4, pu5, pu6, pu7, pu8, pu9, pu10, pu11, pu12, pu13, pu14, rc_at, bK_some, Option.toList_some, Option.toList_none, List.cons_append, List.nil_append, b0, x0, s1, m1, nI_adds, al_S, r1, r2, if_true]
theorem l_isCutOff (H : LI hh b x s0 L xs g S K T n) (hi : i + 4 ≤ L) (hL : L ≤ 2048) : ∃ hh', run 189 1025 [.ref b, .ref x, .ref (x + 145), .int (nI i)] [] hh = run 189 1239 [.ref b, .ref x, .ref (x + 145), .int (nI i)] [] hh' ∧ ∃ g S K T n, LI hh' b x s0 L xs g S K T n := by
  have b0 := H.1
  have x0 := H.x0
  obtain ⟨h1, h2, r1, s1, ⟨fs, m1⟩, r2, L2⟩ := op_isCutOff H (xs (i + 1))
  refine ⟨h2, ?_, L2⟩
  simp (disch := omega) only [s189_1025, s189_1026, s189_1027, s189_1028, s189_1029, s189_1030, s189_1031, s189_1034, s189_1035, s189_1036, s189_1037, s189_1038, s189_1039, s189_1040, s189_1043, s189_1046, s189_1047, gf0, gf1, gf2, gf3, gf4, gf5, gf6, gf7, gf8, gf9, gf10, gf11, gf12, gf13, gf14, pu0, pu1, pu2, pu3, pu4, pu5, pu6, pu7, pu8, pu9, pu10, pu11, pu12, pu13, pu14, rc_at, bK_some, Option.toList_some, Option.toList_none, List.cons_append, List.nil_append, b0, x0, s1, m1, nI_adds, al_S, r1, r2, if_true]
theorem l_sentRank (H : LI hh b x s0 L xs g S K T n) (hi : i + 4 ≤ L) (hL : L ≤ 2048) : ∃ hh', run 189 1048 [.ref b, .ref x, .ref (x + 145), .int (nI i)] [] hh = run 189 1239 [.ref b, .ref x, .ref (x + 145), .int (nI i)] [] hh' ∧ ∃ g S K T n, LI hh' b x s0 L xs g S K T n := by
  have b0 := H.1
  have x0 := H.x0
  obtain ⟨h1, h2, r1, s1, ⟨fs, m1⟩, r2, L2⟩ := op_sentRank H (xs (i + 1))
  refine ⟨h2, ?_, L2⟩
  simp (disch := omega) only [s189_1048, s189_1049, s189_1050, s189_1051, s189_1052, s189_1053, s189_1054, s189_1057, s189_1058, s189_1059, s189_1060, s189_1061, s189_1062, s189_1063, s189_1066, s189_1069, s189_1070, gf0, gf1, gf2, gf3, gf4, gf5, gf6, gf7, gf8, gf9, gf10, gf11, gf12, gf13, gf14, pu0, pu1, pu2, pu3, pu4, pu5, pu6, pu7, pu8, pu9, pu10, pu11, pu12, pu13, pu14, rc_at, bK_some, Option.toList_some, Option.toList_none, List.cons_append, List.nil_append, b0, x0, s1, m1, nI_adds, al_S, r1, r2, if_true]
theorem l_flow (H : LI hh b x s0 L xs g S K T n) (hi : i + 4 ≤ L) (hL : L ≤ 2048) : ∃ hh', run 189 1071 [.ref b, .ref x, .ref (x + 145), .int (nI i)] [] hh = run 189 1239 [.ref b, .ref x, .ref (x + 145), .int (nI i)] [] hh' ∧ ∃ g S K T n, LI hh' b x s0 L xs g S K T n := by
  have b0 := H.1
  have x0 := H.x0
  obtain ⟨h1, h2, r1, s1, ⟨fs, m1⟩, r2, L2⟩ := op_flow H (xs (i + 1))
  refine ⟨h2, ?_, L2⟩
  simp (disch := omega) only [s189_1071, s189_1072, s189_1073, s189_1074, s189_1075, s189_1076, s189_1077, s189_1080, s189_1081, s189_1082, s189_1083, s189_1084, s189_1085, s189_1086, s189_1089, s189_1092, s189_1093, gf0, gf1, gf2, gf3, gf4, gf5, gf6, gf7, gf8, gf9, gf10, gf11, gf12, gf13, gf14, pu0, pu1, pu2, pu3, pu4, pu5, pu6, pu7, pu8, pu9, pu10, pu11, pu12, pu13, pu14, rc_at, bK_some, Option.toList_some, Option.toList_none, List.cons_append, List.nil_append, b0, x0, s1, m1, nI_adds, al_S, r1, r2, if_true]
theorem l_neededLink (H : LI hh b x s0 L xs g S K T n) (hi : i + 4 ≤ L) (hL : L ≤ 2048) : ∃ hh', run 189 1094 [.ref b, .ref x, .ref (x + 145), .int (nI i)] [] hh = run 189 1239 [.ref b, .ref x, .ref (x + 145), .int (nI i)] [] hh' ∧ ∃ g S K T n, LI hh' b x s0 L xs g S K T n := by
  have b0 := H.1
  have x0 := H.x0
  obtain ⟨h1, h2, r1, s1, ⟨fs, m1⟩, r2, L2⟩ := op_neededLink H (xs (i + 1))
  refine ⟨h2, ?_, L2⟩
  simp (disch := omega) only [s189_1094, s189_1095, s189_1096, s189_1097, s189_1098, s189_1099, s189_1100, s189_1103, s189_1104, s189_1105, s189_1106, s189_1107, s189_1108, s189_1109, s189_1112, s189_1115, s189_1116, gf0, gf1, gf2, gf3, gf4, gf5, gf6, gf7, gf8, gf9, gf10, gf11, gf12, gf13, gf14, pu0, pu1, pu2, pu3, pu4, pu5, pu6, pu7, pu8, pu9, pu10, pu11, pu12, pu13, pu14, rc_at, bK_some, Option.toList_some, Option.toList_none, List.cons_append, List.nil_append, b0, x0, s1, m1, nI_adds, al_S, r1, r2, if_true]
theorem l_append (H : LI hh b x s0 L xs g S K T n) (hi : i + 4 ≤ L) (hL : L ≤ 2048) : ∃ hh', run 189 1117 [.ref b, .ref x, .ref (x + 145), .int (nI i)] [] hh = run 189 1239 [.ref b, .ref x, .ref (x + 145), .int (nI i)] [] hh' ∧ ∃ g S K T n, LI hh' b x s0 L xs g S K T n := by
  have b0 := H.1
  have x0 := H.x0
  obtain ⟨h1, h2, r1, s1, ⟨fs, m1⟩, r2, L2⟩ := op_append H (xs (i + 1))
  refine ⟨h2, ?_, L2⟩
  simp (disch := omega) only [s189_1117, s189_1118, s189_1119, s189_1120, s189_1121, s189_1122, s189_1123, s189_1126, s189_1127, s189_1128, s189_1129, s189_1130, s189_1131, s189_1132, s189_1135, s189_1138, s189_1139, gf0, gf1, gf2, gf3, gf4, gf5, gf6, gf7, gf8, gf9, gf10, gf11, gf12, gf13, gf14, pu0, pu1, pu2, pu3, pu4, pu5, pu6, pu7, pu8, pu9, pu10, pu11, pu12, pu13, pu14, rc_at, bK_some, Option.toList_some, Option.toList_none, List.cons_append, List.nil_append, b0, x0, s1, m1, nI_adds, al_S, r1, r2, if_true]
theorem l_clearText (H : LI hh b x s0 L xs g S K T n) (hi : i + 4 ≤ L) (hL : L ≤ 2048) : ∃ hh', run 189 1140 [.ref b, .ref x, .ref (x + 145), .int (nI i)] [] hh = run 189 1239 [.ref b, .ref x, .ref (x + 145), .int (nI i)] [] hh' ∧ ∃ g S K T n, LI hh' b x s0 L xs g S K T n := by
  have b0 := H.1
  have x0 := H.x0
  obtain ⟨h1, h2, r1, s1, ⟨fs, m1⟩, r2, L2⟩ := op_clearText H
  refine ⟨h2, ?_, L2⟩
  simp (disch := omega) only [s189_1140, s189_1141, s189_1144, s189_1145, s189_1148, s189_1151, s189_1152, gf0, gf1, gf2, gf3, gf4, gf5, gf6, gf7, gf8, gf9, gf10, gf11, gf12, gf13, gf14, pu0, pu1, pu2, pu3, pu4, pu5, pu6, pu7, pu8, pu9, pu10, pu11, pu12, pu13, pu14, rc_at, bK_some, Option.toList_some, Option.toList_none, List.cons_append, List.nil_append, b0, x0, s1, m1, nI_adds, al_S, r1, r2, if_true]
theorem l_faultPosition (H : LI hh b x s0 L xs g S K T n) (hi : i + 4 ≤ L) (hL : L ≤ 2048) : ∃ hh', run 189 1153 [.ref b, .ref x, .ref (x + 145), .int (nI i)] [] hh = run 189 1239 [.ref b, .ref x, .ref (x + 145), .int (nI i)] [] hh' ∧ ∃ g S K T n, LI hh' b x s0 L xs g S K T n := by
  have b0 := H.1
  have x0 := H.x0
  obtain ⟨h1, h2, r1, s1, ⟨fs, m1⟩, r2, L2⟩ := op_faultPosition H
  refine ⟨h2, ?_, L2⟩
  simp (disch := omega) only [s189_1153, s189_1154, s189_1157, s189_1158, s189_1161, s189_1164, s189_1165, gf0, gf1, gf2, gf3, gf4, gf5, gf6, gf7, gf8, gf9, gf10, gf11, gf12, gf13, gf14, pu0, pu1, pu2, pu3, pu4, pu5, pu6, pu7, pu8, pu9, pu10, pu11, pu12, pu13, pu14, rc_at, bK_some, Option.toList_some, Option.toList_none, List.cons_append, List.nil_append, b0, x0, s1, m1, nI_adds, al_S, r1, r2, if_true]
theorem l_read (H : LI hh b x s0 L xs g S K T n) (hi : i + 4 ≤ L) (hL : L ≤ 2048) : ∃ hh', run 189 1166 [.ref b, .ref x, .ref (x + 145), .int (nI i)] [] hh = run 189 1239 [.ref b, .ref x, .ref (x + 145), .int (nI i)] [] hh' ∧ ∃ g S K T n, LI hh' b x s0 L xs g S K T n := by
  have b0 := H.1
  have x0 := H.x0
  obtain ⟨h1, h2, r1, s1, ⟨fs, m1⟩, r2, L2⟩ := op_read H
  refine ⟨h2, ?_, L2⟩
  simp (disch := omega) only [s189_1166, s189_1167, s189_1170, s189_1171, s189_1174, s189_1177, s189_1178, gf0, gf1, gf2, gf3, gf4, gf5, gf6, gf7, gf8, gf9, gf10, gf11, gf12, gf13, gf14, pu0, pu1, pu2, pu3, pu4, pu5, pu6, pu7, pu8, pu9, pu10, pu11, pu12, pu13, pu14, rc_at, bK_some, Option.toList_some, Option.toList_none, List.cons_append, List.nil_append, b0, x0, s1, m1, nI_adds, al_S, r1, r2, if_true]
theorem l_keep (H : LI hh b x s0 L xs g S K T n) (hi : i + 4 ≤ L) (hL : L ≤ 2048) : ∃ hh', run 189 1179 [.ref b, .ref x, .ref (x + 145), .int (nI i)] [] hh = run 189 1239 [.ref b, .ref x, .ref (x + 145), .int (nI i)] [] hh' ∧ ∃ g S K T n, LI hh' b x s0 L xs g S K T n := by
  have b0 := H.1
  have x0 := H.x0
  obtain ⟨h1, h2, r1, s1, ⟨fs, m1⟩, r2, L2⟩ := op_keep H (xs (i + 1))
  refine ⟨h2, ?_, L2⟩
  simp (disch := omega) only [s189_1179, s189_1180, s189_1181, s189_1182, s189_1183, s189_1184, s189_1185, s189_1188, s189_1189, s189_1190, s189_1191, s189_1192, s189_1193, s189_1194, s189_1197, s189_1200, s189_1201, gf0, gf1, gf2, gf3, gf4, gf5, gf6, gf7, gf8, gf9, gf10, gf11, gf12, gf13, gf14, pu0, pu1, pu2, pu3, pu4, pu5, pu6, pu7, pu8, pu9, pu10, pu11, pu12, pu13, pu14, rc_at, bK_some, Option.toList_some, Option.toList_none, List.cons_append, List.nil_append, b0, x0, s1, m1, nI_adds, al_S, r1, r2, if_true]
theorem l_restore (H : LI hh b x s0 L xs g S K T n) (hi : i + 4 ≤ L) (hL : L ≤ 2048) : ∃ hh', run 189 1202 [.ref b, .ref x, .ref (x + 145), .int (nI i)] [] hh = run 189 1239 [.ref b, .ref x, .ref (x + 145), .int (nI i)] [] hh' ∧ ∃ g S K T n, LI hh' b x s0 L xs g S K T n := by
  have b0 := H.1
  have x0 := H.x0
  obtain ⟨h1, h2, r1, s1, ⟨fs, m1⟩, r2, L2⟩ := op_restore H (xs (i + 1))
  refine ⟨h2, ?_, L2⟩
  simp (disch := omega) only [s189_1202, s189_1203, s189_1204, s189_1205, s189_1206, s189_1207, s189_1208, s189_1211, s189_1212, s189_1213, s189_1214, s189_1215, s189_1216, s189_1217, s189_1220, s189_1223, s189_1224, gf0, gf1, gf2, gf3, gf4, gf5, gf6, gf7, gf8, gf9, gf10, gf11, gf12, gf13, gf14, pu0, pu1, pu2, pu3, pu4, pu5, pu6, pu7, pu8, pu9, pu10, pu11, pu12, pu13, pu14, rc_at, bK_some, Option.toList_some, Option.toList_none, List.cons_append, List.nil_append, b0, x0, s1, m1, nI_adds, al_S, r1, r2, if_true]
theorem l_checksum (H : LI hh b x s0 L xs g S K T n) (hi : i + 4 ≤ L) (hL : L ≤ 2048) : ∃ hh', run 189 1225 [.ref b, .ref x, .ref (x + 145), .int (nI i)] [] hh = run 189 1239 [.ref b, .ref x, .ref (x + 145), .int (nI i)] [] hh' ∧ ∃ g S K T n, LI hh' b x s0 L xs g S K T n := by
  have b0 := H.1
  have x0 := H.x0
  obtain ⟨h1, h2, r1, s1, ⟨fs, m1⟩, r2, L2⟩ := op_checksum H
  refine ⟨h2, ?_, L2⟩
  simp (disch := omega) only [s189_1225, s189_1226, s189_1229, s189_1230, s189_1233, s189_1234, s189_1237, s189_1238, gf0, gf1, gf2, gf3, gf4, gf5, gf6, gf7, gf8, gf9, gf10, gf11, gf12, gf13, gf14, pu0, pu1, pu2, pu3, pu4, pu5, pu6, pu7, pu8, pu9, pu10, pu11, pu12, pu13, pu14, rc_at, bK_some, Option.toList_some, Option.toList_none, List.cons_append, List.nil_append, b0, x0, s1, m1, nI_adds, al_S, r1, r2, if_true, lg_self]
end LC
