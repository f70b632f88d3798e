def R0L : List (List Nat) := [[], [2, 42, 0, 82, 85, 88, 293, 364, 366, 0, 372, 0, 378, 0, 381, 0], [3, 5, 6, 7, 8, 0], [4], [], [10, 14, 18, 22, 26, 30], [12, 16, 20, 24, 28, 32], [34, 36, 38, 40], [9, 0], [], [11, 0], [], [13, 0], [], [15, 0], [], [17, 0], [], [19, 0], [], [21, 0], [], [23, 0], [], [25, 0], [], [27, 0], [], [29, 0], [], [31, 0], [], [33, 0], [], [35, 0], [], [37, 0], [], [39, 0], [], [41, 0], [], [43, 45, 46, 47, 48, 0], [44], [], [50, 54, 58, 62, 66, 70], [52, 56, 60, 64, 68, 72], [74, 76, 78, 80], [49, 0], [], [51, 0], [], [53, 0], [], [55, 0], [], [57, 0], [], [59, 0], [], [61, 0], [], [63, 0], [], [65, 0], [], [67, 0], [], [69, 0], [], [71, 0], [], [73, 0], [], [75, 0], [], [77, 0], [], [79, 0], [], [81, 0], [], [83, 84, 0, 0], [], [], [86, 87, 0, 0], [], [], [89, 90], [], [91, 93, 95, 97, 99, 101, 103, 105, 107, 109, 111, 113, 115, 117, 119, 121, 123, 125, 127, 129, 131, 133, 135, 137, 139, 141, 143, 145, 147, 149, 151, 153, 155, 157, 159, 161, 163, 165, 167, 169, 171, 173, 175, 177, 179, 181, 183, 185, 187, 189, 191, 193, 195, 197, 199, 201, 203, 205, 207, 209, 211, 213, 215, 217, 219, 221, 223, 225, 227, 229, 231, 233, 235, 237, 239, 241, 243, 245, 247, 249, 251, 253, 255, 257, 259, 261, 263, 265, 267, 269, 271, 273, 275, 277, 279, 281, 283, 285, 287, 289, 291], [92, 0], [], [94, 0], [], [96, 0], [], [98, 0], [], [100, 0], [], [102, 0], [], [104, 0], [], [106, 0], [], [108, 0], [], [110, 0], [], [112, 0], [], [114, 0], [], [116, 0], [], [118, 0], [], [120, 0], [], [122, 0], [], [124, 0], [], [126, 0], [], [128, 0], [], [130, 0], [], [132, 0], [], [134, 0], [], [136, 0], [], [138, 0], [], [140, 0], [], [142, 0], [], [144, 0], [], [146, 0], [], [148, 0], [], [150, 0], [], [152, 0], [], [154, 0], [], [156, 0], [], [158, 0], [], [160, 0], [], [162, 0], [], [164, 0], [], [166, 0], [], [168, 0], [], [170, 0], [], [172, 0], [], [174, 0], [], [176, 0], [], [178, 0], [], [180, 0], [], [182, 0], [], [184, 0], [], [186, 0], [], [188, 0], [], [190, 0], [], [192, 0], [], [194, 0], [], [196, 0], [], [198, 0], [], [200, 0], [], [202, 0], [], [204, 0], [], [206, 0], [], [208, 0], [], [210, 0], [], [212, 0], [], [214, 0], [], [216, 0], [], [218, 0], [], [220, 0], [], [222, 0], [], [224, 0], [], [226, 0], [], [228, 0], [], [230, 0], [], [232, 0], [], [234, 0], [], [236, 0], [], [238, 0], [], [240, 0], [], [242, 0], [], [244, 0], [], [246, 0], [], [248, 0], [], [250, 0], [], [252, 0], [], [254, 0], [], [256, 0], [], [258, 0], [], [260, 0], [], [262, 0], [], [264, 0], [], [266, 0], [], [268, 0], [], [270, 0], [], [272, 0], [], [274, 0], [], [276, 0], [], [278, 0], [], [280, 0], [], [282, 0], [], [284, 0], [], [286, 0], [], [288, 0], [], [290, 0], [], [292, 0], [], [294, 295, 296, 298, 300, 0, 0, 0], [302, 304, 306, 308, 310, 312, 314, 316, 318, 320, 322, 324, 326, 328, 330, 332, 334, 336, 338, 340, 342, 344, 346, 348, 350, 352, 354, 356, 358, 360, 362], [], [297, 0], [], [299, 0], [], [301, 0], [], [303, 0], [], [305, 0], [], [307, 0], [], [309, 0], [], [311, 0], [], [313, 0], [], [315, 0], [], [317, 0], [], [319, 0], [], [321, 0], [], [323, 0], [], [325, 0], [], [327, 0], [], [329, 0], [], [331, 0], [], [333, 0], [], [335, 0], [], [337, 0], [], [339, 0], [], [341, 0], [], [343, 0], [], [345, 0], [], [347, 0], [], [349, 0], [], [351, 0], [], [353, 0], [], [355, 0], [], [357, 0], [], [359, 0], [], [361, 0], [], [363, 0], [], [365, 0], [], [367, 368, 369, 370, 0], [], [], [], [371], [], [373, 375, 377, 0, 0], [374], [], [376], [], [], [379, 380, 0, 0, 0, 0], [], [], [382, 388, 389, 0], [383, 385, 387, 0, 0], [384], [], [386], [], [], [], [], [391, 392, 393, 394, 395, 396, 0, 0, 0, 397, 398, 399, 400, 401, 402, 0, 0, 403, 404, 405, 406, 407, 408, 0, 0, 409, 410, 411, 412, 0, 413, 414, 415, 416, 417, 0, 418, 419, 0, 0, 0], [], [], [], [], [], [], [], [], [], [], [], [], [], [], [], [], [], [], [], [], [], [], [], [], [], [], [], [], []]
def R0_ (o j : Nat) : Nat := (R0L.getD o []).getD j 0
/-- the references of the ids below 390, but for the row of found terms -/
def lx_ (r : Nat → Nat → Nat) : Prop := ∀ o j, o < 390 → o ≠ 294 → r o j = R0_ o j
def lm_ (r : Nat → Nat → Nat) : Prop := ∀ j, r 390 j = R0_ 390 j
theorem lx_1_0 {r : Nat → Nat → Nat} (h : lx_ r) : r 1 0 = 2 := (h 1 0 (by decide) (by decide)).trans (by decide +kernel)
theorem lx_1_1 {r : Nat → Nat → Nat} (h : lx_ r) : r 1 1 = 42 := (h 1 1 (by decide) (by decide)).trans (by decide +kernel)
theorem lx_1_3 {r : Nat → Nat → Nat} (h : lx_ r) : r 1 3 = 82 := (h 1 3 (by decide) (by decide)).trans (by decide +kernel)
theorem lx_1_4 {r : Nat → Nat → Nat} (h : lx_ r) : r 1 4 = 85 := (h 1 4 (by decide) (by decide)).trans (by decide +kernel)
theorem lx_1_5 {r : Nat → Nat → Nat} (h : lx_ r) : r 1 5 = 88 := (h 1 5 (by decide) (by decide)).trans (by decide +kernel)
theorem lx_1_6 {r : Nat → Nat → Nat} (h : lx_ r) : r 1 6 = 293 := (h 1 6 (by decide) (by decide)).trans (by decide +kernel)
theorem lx_1_7 {r : Nat → Nat → Nat} (h : lx_ r) : r 1 7 = 364 := (h 1 7 (by decide) (by decide)).trans (by decide +kernel)
theorem lx_1_8 {r : Nat → Nat → Nat} (h : lx_ r) : r 1 8 = 366 := (h 1 8 (by decide) (by decide)).trans (by decide +kernel)
theorem lx_1_10 {r : Nat → Nat → Nat} (h : lx_ r) : r 1 10 = 372 := (h 1 10 (by decide) (by decide)).trans (by decide +kernel)
theorem lx_1_12 {r : Nat → Nat → Nat} (h : lx_ r) : r 1 12 = 378 := (h 1 12 (by decide) (by decide)).trans (by decide +kernel)
theorem lx_1_14 {r : Nat → Nat → Nat} (h : lx_ r) : r 1 14 = 381 := (h 1 14 (by decide) (by decide)).trans (by decide +kernel)
theorem lx_2_0 {r : Nat → Nat → Nat} (h : lx_ r) : r 2 0 = 3 := (h 2 0 (by decide) (by decide)).trans (by decide +kernel)
theorem lx_2_1 {r : Nat → Nat → Nat} (h : lx_ r) : r 2 1 = 5 := (h 2 1 (by decide) (by decide)).trans (by decide +kernel)
theorem lx_2_2 {r : Nat → Nat → Nat} (h : lx_ r) : r 2 2 = 6 := (h 2 2 (by decide) (by decide)).trans (by decide +kernel)
theorem lx_2_3 {r : Nat → Nat → Nat} (h : lx_ r) : r 2 3 = 7 := (h 2 3 (by decide) (by decide)).trans (by decide +kernel)
theorem lx_2_4 {r : Nat → Nat → Nat} (h : lx_ r) : r 2 4 = 8 := (h 2 4 (by decide) (by decide)).trans (by decide +kernel)
theorem lx_3_0 {r : Nat → Nat → Nat} (h : lx_ r) : r 3 0 = 4 := (h 3 0 (by decide) (by decide)).trans (by decide +kernel)
theorem lx_42_0 {r : Nat → Nat → Nat} (h : lx_ r) : r 42 0 = 43 := (h 42 0 (by decide) (by decide)).trans (by decide +kernel)
theorem lx_42_1 {r : Nat → Nat → Nat} (h : lx_ r) : r 42 1 = 45 := (h 42 1 (by decide) (by decide)).trans (by decide +kernel)
theorem lx_42_2 {r : Nat → Nat → Nat} (h : lx_ r) : r 42 2 = 46 := (h 42 2 (by decide) (by decide)).trans (by decide +kernel)
theorem lx_42_3 {r : Nat → Nat → Nat} (h : lx_ r) : r 42 3 = 47 := (h 42 3 (by decide) (by decide)).trans (by decide +kernel)
theorem lx_42_4 {r : Nat → Nat → Nat} (h : lx_ r) : r 42 4 = 48 := (h 42 4 (by decide) (by decide)).trans (by decide +kernel)
theorem lx_43_0 {r : Nat → Nat → Nat} (h : lx_ r) : r 43 0 = 44 := (h 43 0 (by decide) (by decide)).trans (by decide +kernel)
theorem lx_82_0 {r : Nat → Nat → Nat} (h : lx_ r) : r 82 0 = 83 := (h 82 0 (by decide) (by decide)).trans (by decide +kernel)
theorem lx_82_1 {r : Nat → Nat → Nat} (h : lx_ r) : r 82 1 = 84 := (h 82 1 (by decide) (by decide)).trans (by decide +kernel)
theorem lx_85_0 {r : Nat → Nat → Nat} (h : lx_ r) : r 85 0 = 86 := (h 85 0 (by decide) (by decide)).trans (by decide +kernel)
theorem lx_85_1 {r : Nat → Nat → Nat} (h : lx_ r) : r 85 1 = 87 := (h 85 1 (by decide) (by decide)).trans (by decide +kernel)
theorem lx_88_0 {r : Nat → Nat → Nat} (h : lx_ r) : r 88 0 = 89 := (h 88 0 (by decide) (by decide)).trans (by decide +kernel)
theorem lx_88_1 {r : Nat → Nat → Nat} (h : lx_ r) : r 88 1 = 90 := (h 88 1 (by decide) (by decide)).trans (by decide +kernel)
theorem lx_293_0 {r : Nat → Nat → Nat} (h : lx_ r) : r 293 0 = 294 := (h 293 0 (by decide) (by decide)).trans (by decide +kernel)
theorem lx_293_1 {r : Nat → Nat → Nat} (h : lx_ r) : r 293 1 = 295 := (h 293 1 (by decide) (by decide)).trans (by decide +kernel)
theorem lx_293_2 {r : Nat → Nat → Nat} (h : lx_ r) : r 293 2 = 296 := (h 293 2 (by decide) (by decide)).trans (by decide +kernel)
theorem lx_293_3 {r : Nat → Nat → Nat} (h : lx_ r) : r 293 3 = 298 := (h 293 3 (by decide) (by decide)).trans (by decide +kernel)
theorem lx_293_4 {r : Nat → Nat → Nat} (h : lx_ r) : r 293 4 = 300 := (h 293 4 (by decide) (by decide)).trans (by decide +kernel)
theorem lx_366_0 {r : Nat → Nat → Nat} (h : lx_ r) : r 366 0 = 367 := (h 366 0 (by decide) (by decide)).trans (by decide +kernel)
theorem lx_366_1 {r : Nat → Nat → Nat} (h : lx_ r) : r 366 1 = 368 := (h 366 1 (by decide) (by decide)).trans (by decide +kernel)
theorem lx_366_2 {r : Nat → Nat → Nat} (h : lx_ r) : r 366 2 = 369 := (h 366 2 (by decide) (by decide)).trans (by decide +kernel)
theorem lx_366_3 {r : Nat → Nat → Nat} (h : lx_ r) : r 366 3 = 370 := (h 366 3 (by decide) (by decide)).trans (by decide +kernel)
theorem lx_370_0 {r : Nat → Nat → Nat} (h : lx_ r) : r 370 0 = 371 := (h 370 0 (by decide) (by decide)).trans (by decide +kernel)
theorem lx_372_0 {r : Nat → Nat → Nat} (h : lx_ r) : r 372 0 = 373 := (h 372 0 (by decide) (by decide)).trans (by decide +kernel)
theorem lx_372_1 {r : Nat → Nat → Nat} (h : lx_ r) : r 372 1 = 375 := (h 372 1 (by decide) (by decide)).trans (by decide +kernel)
theorem lx_372_2 {r : Nat → Nat → Nat} (h : lx_ r) : r 372 2 = 377 := (h 372 2 (by decide) (by decide)).trans (by decide +kernel)
theorem lx_373_0 {r : Nat → Nat → Nat} (h : lx_ r) : r 373 0 = 374 := (h 373 0 (by decide) (by decide)).trans (by decide +kernel)
theorem lx_375_0 {r : Nat → Nat → Nat} (h : lx_ r) : r 375 0 = 376 := (h 375 0 (by decide) (by decide)).trans (by decide +kernel)
theorem lx_378_0 {r : Nat → Nat → Nat} (h : lx_ r) : r 378 0 = 379 := (h 378 0 (by decide) (by decide)).trans (by decide +kernel)
theorem lx_378_1 {r : Nat → Nat → Nat} (h : lx_ r) : r 378 1 = 380 := (h 378 1 (by decide) (by decide)).trans (by decide +kernel)
theorem lx_381_0 {r : Nat → Nat → Nat} (h : lx_ r) : r 381 0 = 382 := (h 381 0 (by decide) (by decide)).trans (by decide +kernel)
theorem lx_381_1 {r : Nat → Nat → Nat} (h : lx_ r) : r 381 1 = 388 := (h 381 1 (by decide) (by decide)).trans (by decide +kernel)
theorem lx_381_2 {r : Nat → Nat → Nat} (h : lx_ r) : r 381 2 = 389 := (h 381 2 (by decide) (by decide)).trans (by decide +kernel)
theorem lx_382_0 {r : Nat → Nat → Nat} (h : lx_ r) : r 382 0 = 383 := (h 382 0 (by decide) (by decide)).trans (by decide +kernel)
theorem lx_382_1 {r : Nat → Nat → Nat} (h : lx_ r) : r 382 1 = 385 := (h 382 1 (by decide) (by decide)).trans (by decide +kernel)
theorem lx_382_2 {r : Nat → Nat → Nat} (h : lx_ r) : r 382 2 = 387 := (h 382 2 (by decide) (by decide)).trans (by decide +kernel)
theorem lx_383_0 {r : Nat → Nat → Nat} (h : lx_ r) : r 383 0 = 384 := (h 383 0 (by decide) (by decide)).trans (by decide +kernel)
theorem lx_385_0 {r : Nat → Nat → Nat} (h : lx_ r) : r 385 0 = 386 := (h 385 0 (by decide) (by decide)).trans (by decide +kernel)
theorem lx_364_0 {r : Nat → Nat → Nat} (h : lx_ r) : r 364 0 = 365 := (h 364 0 (by decide) (by decide)).trans (by decide +kernel)
theorem lx_296_0 {r : Nat → Nat → Nat} (h : lx_ r) : r 296 0 = 297 := (h 296 0 (by decide) (by decide)).trans (by decide +kernel)
theorem lx_298_0 {r : Nat → Nat → Nat} (h : lx_ r) : r 298 0 = 299 := (h 298 0 (by decide) (by decide)).trans (by decide +kernel)
theorem lx_300_0 {r : Nat → Nat → Nat} (h : lx_ r) : r 300 0 = 301 := (h 300 0 (by decide) (by decide)).trans (by decide +kernel)
theorem lm_0 {r : Nat → Nat → Nat} (h : lm_ r) : r 390 0 = 391 := (h 0).trans (by decide +kernel)
theorem lm_1 {r : Nat → Nat → Nat} (h : lm_ r) : r 390 1 = 392 := (h 1).trans (by decide +kernel)
theorem lm_2 {r : Nat → Nat → Nat} (h : lm_ r) : r 390 2 = 393 := (h 2).trans (by decide +kernel)
theorem lm_3 {r : Nat → Nat → Nat} (h : lm_ r) : r 390 3 = 394 := (h 3).trans (by decide +kernel)
theorem lm_4 {r : Nat → Nat → Nat} (h : lm_ r) : r 390 4 = 395 := (h 4).trans (by decide +kernel)
theorem lm_5 {r : Nat → Nat → Nat} (h : lm_ r) : r 390 5 = 396 := (h 5).trans (by decide +kernel)
theorem lm_9 {r : Nat → Nat → Nat} (h : lm_ r) : r 390 9 = 397 := (h 9).trans (by decide +kernel)
theorem lm_10 {r : Nat → Nat → Nat} (h : lm_ r) : r 390 10 = 398 := (h 10).trans (by decide +kernel)
theorem lm_11 {r : Nat → Nat → Nat} (h : lm_ r) : r 390 11 = 399 := (h 11).trans (by decide +kernel)
theorem lm_12 {r : Nat → Nat → Nat} (h : lm_ r) : r 390 12 = 400 := (h 12).trans (by decide +kernel)
theorem lm_13 {r : Nat → Nat → Nat} (h : lm_ r) : r 390 13 = 401 := (h 13).trans (by decide +kernel)
theorem lm_14 {r : Nat → Nat → Nat} (h : lm_ r) : r 390 14 = 402 := (h 14).trans (by decide +kernel)
theorem lm_17 {r : Nat → Nat → Nat} (h : lm_ r) : r 390 17 = 403 := (h 17).trans (by decide +kernel)
theorem lm_18 {r : Nat → Nat → Nat} (h : lm_ r) : r 390 18 = 404 := (h 18).trans (by decide +kernel)
theorem lm_19 {r : Nat → Nat → Nat} (h : lm_ r) : r 390 19 = 405 := (h 19).trans (by decide +kernel)
theorem lm_20 {r : Nat → Nat → Nat} (h : lm_ r) : r 390 20 = 406 := (h 20).trans (by decide +kernel)
theorem lm_21 {r : Nat → Nat → Nat} (h : lm_ r) : r 390 21 = 407 := (h 21).trans (by decide +kernel)
theorem lm_22 {r : Nat → Nat → Nat} (h : lm_ r) : r 390 22 = 408 := (h 22).trans (by decide +kernel)
theorem lm_25 {r : Nat → Nat → Nat} (h : lm_ r) : r 390 25 = 409 := (h 25).trans (by decide +kernel)
theorem lm_26 {r : Nat → Nat → Nat} (h : lm_ r) : r 390 26 = 410 := (h 26).trans (by decide +kernel)
theorem lm_27 {r : Nat → Nat → Nat} (h : lm_ r) : r 390 27 = 411 := (h 27).trans (by decide +kernel)
theorem lm_28 {r : Nat → Nat → Nat} (h : lm_ r) : r 390 28 = 412 := (h 28).trans (by decide +kernel)
theorem lm_30 {r : Nat → Nat → Nat} (h : lm_ r) : r 390 30 = 413 := (h 30).trans (by decide +kernel)
theorem lm_31 {r : Nat → Nat → Nat} (h : lm_ r) : r 390 31 = 414 := (h 31).trans (by decide +kernel)
theorem lm_32 {r : Nat → Nat → Nat} (h : lm_ r) : r 390 32 = 415 := (h 32).trans (by decide +kernel)
theorem lm_33 {r : Nat → Nat → Nat} (h : lm_ r) : r 390 33 = 416 := (h 33).trans (by decide +kernel)
theorem lm_34 {r : Nat → Nat → Nat} (h : lm_ r) : r 390 34 = 417 := (h 34).trans (by decide +kernel)
theorem lm_36 {r : Nat → Nat → Nat} (h : lm_ r) : r 390 36 = 418 := (h 36).trans (by decide +kernel)
theorem lm_37 {r : Nat → Nat → Nat} (h : lm_ r) : r 390 37 = 419 := (h 37).trans (by decide +kernel)
theorem lx_5 {r : Nat → Nat → Nat} (h : lx_ r) {i : Nat} (hi : i < 6) : r 5 i = 10 + 4 * i := (h 5 i (by decide) (by decide)).trans ((by decide +kernel : ∀ i, i < 6 → R0_ 5 i = 10 + 4 * i) i hi)
theorem lx_6 {r : Nat → Nat → Nat} (h : lx_ r) {i : Nat} (hi : i < 6) : r 6 i = 12 + 4 * i := (h 6 i (by decide) (by decide)).trans ((by decide +kernel : ∀ i, i < 6 → R0_ 6 i = 12 + 4 * i) i hi)
theorem lx_7 {r : Nat → Nat → Nat} (h : lx_ r) {i : Nat} (hi : i < 4) : r 7 i = 34 + 2 * i := (h 7 i (by decide) (by decide)).trans ((by decide +kernel : ∀ i, i < 4 → R0_ 7 i = 34 + 2 * i) i hi)
theorem lx_45 {r : Nat → Nat → Nat} (h : lx_ r) {i : Nat} (hi : i < 6) : r 45 i = 50 + 4 * i := (h 45 i (by decide) (by decide)).trans ((by decide +kernel : ∀ i, i < 6 → R0_ 45 i = 50 + 4 * i) i hi)
theorem lx_46 {r : Nat → Nat → Nat} (h : lx_ r) {i : Nat} (hi : i < 6) : r 46 i = 52 + 4 * i := (h 46 i (by decide) (by decide)).trans ((by decide +kernel : ∀ i, i < 6 → R0_ 46 i = 52 + 4 * i) i hi)
theorem lx_47 {r : Nat → Nat → Nat} (h : lx_ r) {i : Nat} (hi : i < 4) : r 47 i = 74 + 2 * i := (h 47 i (by decide) (by decide)).trans ((by decide +kernel : ∀ i, i < 4 → R0_ 47 i = 74 + 2 * i) i hi)
theorem lx_90 {r : Nat → Nat → Nat} (h : lx_ r) {i : Nat} (hi : i < 101) : r 90 i = 91 + 2 * i := (h 90 i (by decide) (by decide)).trans ((by decide +kernel : ∀ i, i < 101 → R0_ 90 i = 91 + 2 * i) i hi)
theorem lx_T0 : ∀ o, o < 390 → kd_ o = 9 → R0_ o 0 = o + 1 ∧ kd_ (o + 1) = 20 ∧ ln_ (o + 1) = 40 ∧ o ≠ 294 ∧ o + 1 < 390 := by decide +kernel
theorem lx_T {r : Nat → Nat → Nat} (h : lx_ r) {o : Nat} (h1 : o < 390) (h2 : kd_ o = 9) : r o 0 = o + 1 := (h o 0 h1 (lx_T0 o h1 h2).2.2.2.1).trans (lx_T0 o h1 h2).1
theorem ln_4 : ln_ 4 = 128 := by decide +kernel
theorem ln_5 : ln_ 5 = 6 := by decide +kernel
theorem ln_6 : ln_ 6 = 6 := by decide +kernel
theorem ln_7 : ln_ 7 = 4 := by decide +kernel
theorem ln_44 : ln_ 44 = 128 := by decide +kernel
theorem ln_45 : ln_ 45 = 6 := by decide +kernel
theorem ln_46 : ln_ 46 = 6 := by decide +kernel
theorem ln_47 : ln_ 47 = 4 := by decide +kernel
theorem ln_83 : ln_ 83 = 80 := by decide +kernel
theorem ln_84 : ln_ 84 = 80 := by decide +kernel
theorem ln_86 : ln_ 86 = 160 := by decide +kernel
theorem ln_87 : ln_ 87 = 160 := by decide +kernel
theorem ln_89 : ln_ 89 = 3 := by decide +kernel
theorem ln_90 : ln_ 90 = 101 := by decide +kernel
theorem ln_294 : ln_ 294 = 31 := by decide +kernel
theorem ln_295 : ln_ 295 = 31 := by decide +kernel
theorem ln_367 : ln_ 367 = 240 := by decide +kernel
theorem ln_368 : ln_ 368 = 240 := by decide +kernel
theorem ln_369 : ln_ 369 = 240 := by decide +kernel
theorem ln_371 : ln_ 371 = 960 := by decide +kernel
theorem ln_374 : ln_ 374 = 960 := by decide +kernel
theorem ln_376 : ln_ 376 = 960 := by decide +kernel
theorem ln_377 : ln_ 377 = 240 := by decide +kernel
theorem ln_379 : ln_ 379 = 400 := by decide +kernel
theorem ln_380 : ln_ 380 = 1024 := by decide +kernel
theorem ln_384 : ln_ 384 = 960 := by decide +kernel
theorem ln_386 : ln_ 386 = 960 := by decide +kernel
theorem ln_387 : ln_ 387 = 240 := by decide +kernel
theorem ln_388 : ln_ 388 = 3 := by decide +kernel
theorem ln_389 : ln_ 389 = 3 := by decide +kernel
theorem ln_391 : ln_ 391 = 3 := by decide +kernel
theorem ln_392 : ln_ 392 = 3 := by decide +kernel
theorem ln_393 : ln_ 393 = 1152 := by decide +kernel
theorem ln_394 : ln_ 394 = 1152 := by decide +kernel
theorem ln_395 : ln_ 395 = 384 := by decide +kernel
theorem ln_396 : ln_ 396 = 384 := by decide +kernel
theorem ln_397 : ln_ 397 = 3 := by decide +kernel
theorem ln_398 : ln_ 398 = 3 := by decide +kernel
theorem ln_399 : ln_ 399 = 96 := by decide +kernel
theorem ln_400 : ln_ 400 = 80 := by decide +kernel
theorem ln_401 : ln_ 401 = 96 := by decide +kernel
theorem ln_402 : ln_ 402 = 96 := by decide +kernel
theorem ln_403 : ln_ 403 = 240 := by decide +kernel
theorem ln_404 : ln_ 404 = 240 := by decide +kernel
theorem ln_405 : ln_ 405 = 960 := by decide +kernel
theorem ln_406 : ln_ 406 = 960 := by decide +kernel
theorem ln_407 : ln_ 407 = 240 := by decide +kernel
theorem ln_408 : ln_ 408 = 240 := by decide +kernel
theorem ln_409 : ln_ 409 = 401 := by decide +kernel
theorem ln_410 : ln_ 410 = 9 := by decide +kernel
theorem ln_411 : ln_ 411 = 9 := by decide +kernel
theorem ln_412 : ln_ 412 = 177147 := by decide +kernel
theorem ln_413 : ln_ 413 = 9 := by decide +kernel
theorem ln_414 : ln_ 414 = 3 := by decide +kernel
theorem ln_415 : ln_ 415 = 3 := by decide +kernel
theorem ln_416 : ln_ 416 = 240 := by decide +kernel
theorem ln_417 : ln_ 417 = 160 := by decide +kernel
theorem ln_418 : ln_ 418 = 115296 := by decide +kernel
theorem ln_419 : ln_ 419 = 1201 := by decide +kernel
