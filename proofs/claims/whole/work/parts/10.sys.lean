/-! the two systems: the class (cells by tabC) and the reference (tabM) -/
def tabC : List (Nat × Nat × Nat) := [(0, 1, 9), (1, 1, 4), (2, 1, 8), (3, 1, 8), (4, 1, 6), (5, 1, 6), (6, 1, 6), (7, 1, 3), (8, 1, 0), (9, 1, 5), (10, 1, 7), (11, 1, 1), (12, 1, 2), (13, 1, 2), (32, 3, 700), (43, 2, 4), (44, 2, 4), (45, 2, 4), (46, 2, 4), (97, 2, 8), (98, 2, 8), (99, 2, 8), (100, 2, 8), (101, 2, 8), (104, 2, 4), (105, 2, 4), (106, 2, 4), (107, 2, 4), (108, 2, 4), (129, 2, 8), (130, 2, 8), (131, 2, 8), (132, 2, 8), (133, 2, 8), (136, 2, 4), (137, 2, 4), (138, 2, 4), (139, 2, 4), (140, 2, 4), (162, 2, 8), (163, 2, 8), (164, 2, 8), (165, 2, 8), (166, 2, 8), (167, 2, 8), (168, 2, 8), (194, 2, 8), (195, 2, 8), (196, 2, 8), (197, 2, 8), (198, 2, 8), (199, 2, 8), (200, 2, 8), (226, 2, 8), (227, 2, 8), (228, 2, 8), (229, 2, 8), (230, 2, 8), (231, 2, 8), (232, 2, 8), (262, 5, 7), (263, 2, 8), (288, 2, 20), (289, 2, 20), (290, 2, 20), (320, 2, 24), (321, 2, 24), (322, 2, 24), (352, 2, 20), (385, 2, 72), (388, 4, 9), (416, 2, 64), (417, 2, 64), (418, 2, 3), (419, 2, 3), (420, 5, 64), (448, 2, 64), (449, 2, 64), (450, 2, 3), (451, 2, 3), (452, 5, 64)]
def tabM : List (Nat × Nat × Nat) := [(0, 1, 10), (33, 2, 700), (35, 2, 14), (36, 2, 16), (37, 2, 16), (38, 2, 16), (39, 2, 16), (40, 2, 8), (41, 2, 8), (42, 2, 8), (43, 2, 8), (44, 2, 8), (45, 2, 16), (46, 2, 16), (47, 2, 6), (48, 2, 6), (49, 2, 128), (50, 2, 128), (64, 5, 7), (65, 5, 64), (67, 2, 23), (68, 2, 23), (69, 2, 23), (70, 2, 184), (71, 2, 184), (72, 2, 184), (73, 2, 184), (74, 2, 184), (75, 2, 184), (76, 2, 184), (82, 2, 8), (84, 2, 4), (85, 2, 4), (87, 2, 4), (88, 2, 4), (92, 2, 24), (93, 2, 24), (94, 4, 24), (95, 2, 24), (96, 4, 24)]
def kdC (n : Nat) : Nat × Nat := (tabC.lookup n).getD (0, 0)
def kdM (n : Nat) : Nat × Nat := (tabM.lookup n).getD (0, 0)
def frC (M : Mem) (ci n f : Nat) : Option Nat := match ci, f with
  | 1, 0 => some 10
  | 3, 0 => some (M n 0).toNat
  | 3, 1 => some (M n 1).toNat
  | 4, 0 => some 10
  | 4, 1 => some 11
  | 4, 2 => some (M n 2).toNat
  | 7, 1 => some 32
  | 8, 16 => some (n + 10)
  | 9, 2 => some 1
  | 9, 3 => some (M n 3).toNat
  | 9, 4 => some 4
  | 9, 5 => some 5
  | 9, 6 => some 6
  | 9, 8 => some 7
  | 9, 9 => some 8
  | 9, 10 => some 9
  | 0, 0 => some (32 * (n + 1) + 0)
  | 0, 1 => some (32 * (n + 1) + 1)
  | 0, 2 => some (32 * (n + 1) + 2)
  | 1, 1 => some (32 * (n + 1) + 1)
  | 1, 4 => some (32 * (n + 1) + 4)
  | 2, 0 => some (32 * (n + 1) + 0)
  | 2, 1 => some (32 * (n + 1) + 1)
  | 2, 2 => some (32 * (n + 1) + 2)
  | 2, 3 => some (32 * (n + 1) + 3)
  | 2, 4 => some (32 * (n + 1) + 4)
  | 3, 6 => some (32 * (n + 1) + 6)
  | 3, 7 => some (32 * (n + 1) + 7)
  | 5, 0 => some (32 * (n + 1) + 0)
  | 5, 1 => some (32 * (n + 1) + 1)
  | 5, 2 => some (32 * (n + 1) + 2)
  | 6, 2 => some (32 * (n + 1) + 2)
  | 6, 3 => some (32 * (n + 1) + 3)
  | 6, 4 => some (32 * (n + 1) + 4)
  | 6, 5 => some (32 * (n + 1) + 5)
  | 6, 6 => some (32 * (n + 1) + 6)
  | 6, 7 => some (32 * (n + 1) + 7)
  | 6, 8 => some (32 * (n + 1) + 8)
  | 7, 0 => some (32 * (n + 1) + 0)
  | 8, 1 => some (32 * (n + 1) + 1)
  | 8, 2 => some (32 * (n + 1) + 2)
  | 8, 3 => some (32 * (n + 1) + 3)
  | 8, 4 => some (32 * (n + 1) + 4)
  | 8, 5 => some (32 * (n + 1) + 5)
  | 8, 8 => some (32 * (n + 1) + 8)
  | 8, 9 => some (32 * (n + 1) + 9)
  | 8, 10 => some (32 * (n + 1) + 10)
  | 8, 11 => some (32 * (n + 1) + 11)
  | 8, 12 => some (32 * (n + 1) + 12)
  | 9, 0 => some (32 * (n + 1) + 0)
  | 9, 11 => some (32 * (n + 1) + 11)
  | 9, 12 => some (32 * (n + 1) + 12)
  | 9, 13 => some (32 * (n + 1) + 13)
  | 9, 14 => some (32 * (n + 1) + 14)
  | _, _ => none
def frM (_ : Mem) (ci n f : Nat) : Option Nat := match ci, f with
  | 10, 1 => some (32 * (n + 1) + 1)
  | 10, 3 => some (32 * (n + 1) + 3)
  | 10, 4 => some (32 * (n + 1) + 4)
  | 10, 5 => some (32 * (n + 1) + 5)
  | 10, 6 => some (32 * (n + 1) + 6)
  | 10, 7 => some (32 * (n + 1) + 7)
  | 10, 8 => some (32 * (n + 1) + 8)
  | 10, 9 => some (32 * (n + 1) + 9)
  | 10, 10 => some (32 * (n + 1) + 10)
  | 10, 11 => some (32 * (n + 1) + 11)
  | 10, 12 => some (32 * (n + 1) + 12)
  | 10, 13 => some (32 * (n + 1) + 13)
  | 10, 14 => some (32 * (n + 1) + 14)
  | 10, 15 => some (32 * (n + 1) + 15)
  | 10, 16 => some (32 * (n + 1) + 16)
  | 10, 17 => some (32 * (n + 1) + 17)
  | 10, 18 => some (32 * (n + 1) + 18)
  | 10, 32 => some (32 * (n + 1) + 32)
  | 10, 33 => some (32 * (n + 1) + 33)
  | 10, 35 => some (32 * (n + 1) + 35)
  | 10, 36 => some (32 * (n + 1) + 36)
  | 10, 37 => some (32 * (n + 1) + 37)
  | 10, 38 => some (32 * (n + 1) + 38)
  | 10, 39 => some (32 * (n + 1) + 39)
  | 10, 40 => some (32 * (n + 1) + 40)
  | 10, 41 => some (32 * (n + 1) + 41)
  | 10, 42 => some (32 * (n + 1) + 42)
  | 10, 43 => some (32 * (n + 1) + 43)
  | 10, 44 => some (32 * (n + 1) + 44)
  | 10, 50 => some (32 * (n + 1) + 50)
  | 10, 52 => some (32 * (n + 1) + 52)
  | 10, 53 => some (32 * (n + 1) + 53)
  | 10, 55 => some (32 * (n + 1) + 55)
  | 10, 56 => some (32 * (n + 1) + 56)
  | 10, 60 => some (32 * (n + 1) + 60)
  | 10, 61 => some (32 * (n + 1) + 61)
  | 10, 62 => some (32 * (n + 1) + 62)
  | 10, 63 => some (32 * (n + 1) + 63)
  | 10, 64 => some (32 * (n + 1) + 64)
  | _, _ => none
def isT (t : Nat) : Prop := t = 2 ∨ t = 3
def isS (t : Nat) : Prop := t = 4 ∨ t = 5 ∨ t = 6
def isL (t : Nat) : Prop := t = 12 ∨ t = 13
def tyC (M : Mem) : Prop := isT (M 0 3).toNat ∧ isT (M 1 2).toNat ∧ isT (M 7 0).toNat ∧ isS (M 7 1).toNat
def syC : Sys := (kdC, frC, tyC)
def syM : Sys := (kdM, frM, fun _ => True)
theorem kc_0 : syC.1 0 = (1, 9) := by decide +kernel
theorem kc_1 : syC.1 1 = (1, 4) := by decide +kernel
theorem kc_2 : syC.1 2 = (1, 8) := by decide +kernel
theorem kc_3 : syC.1 3 = (1, 8) := by decide +kernel
theorem kc_4 : syC.1 4 = (1, 6) := by decide +kernel
theorem kc_5 : syC.1 5 = (1, 6) := by decide +kernel
theorem kc_6 : syC.1 6 = (1, 6) := by decide +kernel
theorem kc_7 : syC.1 7 = (1, 3) := by decide +kernel
theorem kc_8 : syC.1 8 = (1, 0) := by decide +kernel
theorem kc_9 : syC.1 9 = (1, 5) := by decide +kernel
theorem kc_10 : syC.1 10 = (1, 7) := by decide +kernel
theorem kc_11 : syC.1 11 = (1, 1) := by decide +kernel
theorem kc_12 : syC.1 12 = (1, 2) := by decide +kernel
theorem kc_13 : syC.1 13 = (1, 2) := by decide +kernel
theorem kc_32 : syC.1 32 = (3, 700) := by decide +kernel
theorem kc_43 : syC.1 43 = (2, 4) := by decide +kernel
theorem kc_44 : syC.1 44 = (2, 4) := by decide +kernel
theorem kc_45 : syC.1 45 = (2, 4) := by decide +kernel
theorem kc_46 : syC.1 46 = (2, 4) := by decide +kernel
theorem kc_97 : syC.1 97 = (2, 8) := by decide +kernel
theorem kc_98 : syC.1 98 = (2, 8) := by decide +kernel
theorem kc_99 : syC.1 99 = (2, 8) := by decide +kernel
theorem kc_100 : syC.1 100 = (2, 8) := by decide +kernel
theorem kc_101 : syC.1 101 = (2, 8) := by decide +kernel
theorem kc_104 : syC.1 104 = (2, 4) := by decide +kernel
theorem kc_105 : syC.1 105 = (2, 4) := by decide +kernel
theorem kc_106 : syC.1 106 = (2, 4) := by decide +kernel
theorem kc_107 : syC.1 107 = (2, 4) := by decide +kernel
theorem kc_108 : syC.1 108 = (2, 4) := by decide +kernel
theorem kc_129 : syC.1 129 = (2, 8) := by decide +kernel
theorem kc_130 : syC.1 130 = (2, 8) := by decide +kernel
theorem kc_131 : syC.1 131 = (2, 8) := by decide +kernel
theorem kc_132 : syC.1 132 = (2, 8) := by decide +kernel
theorem kc_133 : syC.1 133 = (2, 8) := by decide +kernel
theorem kc_136 : syC.1 136 = (2, 4) := by decide +kernel
theorem kc_137 : syC.1 137 = (2, 4) := by decide +kernel
theorem kc_138 : syC.1 138 = (2, 4) := by decide +kernel
theorem kc_139 : syC.1 139 = (2, 4) := by decide +kernel
theorem kc_140 : syC.1 140 = (2, 4) := by decide +kernel
theorem kc_162 : syC.1 162 = (2, 8) := by decide +kernel
theorem kc_163 : syC.1 163 = (2, 8) := by decide +kernel
theorem kc_164 : syC.1 164 = (2, 8) := by decide +kernel
theorem kc_165 : syC.1 165 = (2, 8) := by decide +kernel
theorem kc_166 : syC.1 166 = (2, 8) := by decide +kernel
theorem kc_167 : syC.1 167 = (2, 8) := by decide +kernel
theorem kc_168 : syC.1 168 = (2, 8) := by decide +kernel
theorem kc_194 : syC.1 194 = (2, 8) := by decide +kernel
theorem kc_195 : syC.1 195 = (2, 8) := by decide +kernel
theorem kc_196 : syC.1 196 = (2, 8) := by decide +kernel
theorem kc_197 : syC.1 197 = (2, 8) := by decide +kernel
theorem kc_198 : syC.1 198 = (2, 8) := by decide +kernel
theorem kc_199 : syC.1 199 = (2, 8) := by decide +kernel
theorem kc_200 : syC.1 200 = (2, 8) := by decide +kernel
theorem kc_226 : syC.1 226 = (2, 8) := by decide +kernel
theorem kc_227 : syC.1 227 = (2, 8) := by decide +kernel
theorem kc_228 : syC.1 228 = (2, 8) := by decide +kernel
theorem kc_229 : syC.1 229 = (2, 8) := by decide +kernel
theorem kc_230 : syC.1 230 = (2, 8) := by decide +kernel
theorem kc_231 : syC.1 231 = (2, 8) := by decide +kernel
theorem kc_232 : syC.1 232 = (2, 8) := by decide +kernel
theorem kc_262 : syC.1 262 = (5, 7) := by decide +kernel
theorem kc_263 : syC.1 263 = (2, 8) := by decide +kernel
theorem kc_288 : syC.1 288 = (2, 20) := by decide +kernel
theorem kc_289 : syC.1 289 = (2, 20) := by decide +kernel
theorem kc_290 : syC.1 290 = (2, 20) := by decide +kernel
theorem kc_320 : syC.1 320 = (2, 24) := by decide +kernel
theorem kc_321 : syC.1 321 = (2, 24) := by decide +kernel
theorem kc_322 : syC.1 322 = (2, 24) := by decide +kernel
theorem kc_352 : syC.1 352 = (2, 20) := by decide +kernel
theorem kc_385 : syC.1 385 = (2, 72) := by decide +kernel
theorem kc_388 : syC.1 388 = (4, 9) := by decide +kernel
theorem kc_416 : syC.1 416 = (2, 64) := by decide +kernel
theorem kc_417 : syC.1 417 = (2, 64) := by decide +kernel
theorem kc_418 : syC.1 418 = (2, 3) := by decide +kernel
theorem kc_419 : syC.1 419 = (2, 3) := by decide +kernel
theorem kc_420 : syC.1 420 = (5, 64) := by decide +kernel
theorem kc_448 : syC.1 448 = (2, 64) := by decide +kernel
theorem kc_449 : syC.1 449 = (2, 64) := by decide +kernel
theorem kc_450 : syC.1 450 = (2, 3) := by decide +kernel
theorem kc_451 : syC.1 451 = (2, 3) := by decide +kernel
theorem kc_452 : syC.1 452 = (5, 64) := by decide +kernel
theorem km_0 : syM.1 0 = (1, 10) := by decide +kernel
theorem km_33 : syM.1 33 = (2, 700) := by decide +kernel
theorem km_35 : syM.1 35 = (2, 14) := by decide +kernel
theorem km_36 : syM.1 36 = (2, 16) := by decide +kernel
theorem km_37 : syM.1 37 = (2, 16) := by decide +kernel
theorem km_38 : syM.1 38 = (2, 16) := by decide +kernel
theorem km_39 : syM.1 39 = (2, 16) := by decide +kernel
theorem km_40 : syM.1 40 = (2, 8) := by decide +kernel
theorem km_41 : syM.1 41 = (2, 8) := by decide +kernel
theorem km_42 : syM.1 42 = (2, 8) := by decide +kernel
theorem km_43 : syM.1 43 = (2, 8) := by decide +kernel
theorem km_44 : syM.1 44 = (2, 8) := by decide +kernel
theorem km_45 : syM.1 45 = (2, 16) := by decide +kernel
theorem km_46 : syM.1 46 = (2, 16) := by decide +kernel
theorem km_47 : syM.1 47 = (2, 6) := by decide +kernel
theorem km_48 : syM.1 48 = (2, 6) := by decide +kernel
theorem km_49 : syM.1 49 = (2, 128) := by decide +kernel
theorem km_50 : syM.1 50 = (2, 128) := by decide +kernel
theorem km_64 : syM.1 64 = (5, 7) := by decide +kernel
theorem km_65 : syM.1 65 = (5, 64) := by decide +kernel
theorem km_67 : syM.1 67 = (2, 23) := by decide +kernel
theorem km_68 : syM.1 68 = (2, 23) := by decide +kernel
theorem km_69 : syM.1 69 = (2, 23) := by decide +kernel
theorem km_70 : syM.1 70 = (2, 184) := by decide +kernel
theorem km_71 : syM.1 71 = (2, 184) := by decide +kernel
theorem km_72 : syM.1 72 = (2, 184) := by decide +kernel
theorem km_73 : syM.1 73 = (2, 184) := by decide +kernel
theorem km_74 : syM.1 74 = (2, 184) := by decide +kernel
theorem km_75 : syM.1 75 = (2, 184) := by decide +kernel
theorem km_76 : syM.1 76 = (2, 184) := by decide +kernel
theorem km_82 : syM.1 82 = (2, 8) := by decide +kernel
theorem km_84 : syM.1 84 = (2, 4) := by decide +kernel
theorem km_85 : syM.1 85 = (2, 4) := by decide +kernel
theorem km_87 : syM.1 87 = (2, 4) := by decide +kernel
theorem km_88 : syM.1 88 = (2, 4) := by decide +kernel
theorem km_92 : syM.1 92 = (2, 24) := by decide +kernel
theorem km_93 : syM.1 93 = (2, 24) := by decide +kernel
theorem km_94 : syM.1 94 = (4, 24) := by decide +kernel
theorem km_95 : syM.1 95 = (2, 24) := by decide +kernel
theorem km_96 : syM.1 96 = (4, 24) := by decide +kernel
theorem kT {t : Nat} (h : isT t) : syC.1 t = (1, 8) := by rcases h with rfl | rfl <;> decide +kernel
theorem kT_1 {t : Nat} (h : isT t) : syC.1 (32 * (t + 1) + 1) = (2, 8) := by rcases h with rfl | rfl <;> decide +kernel
theorem kT_2 {t : Nat} (h : isT t) : syC.1 (32 * (t + 1) + 2) = (2, 8) := by rcases h with rfl | rfl <;> decide +kernel
theorem kT_3 {t : Nat} (h : isT t) : syC.1 (32 * (t + 1) + 3) = (2, 8) := by rcases h with rfl | rfl <;> decide +kernel
theorem kT_4 {t : Nat} (h : isT t) : syC.1 (32 * (t + 1) + 4) = (2, 8) := by rcases h with rfl | rfl <;> decide +kernel
theorem kT_5 {t : Nat} (h : isT t) : syC.1 (32 * (t + 1) + 5) = (2, 8) := by rcases h with rfl | rfl <;> decide +kernel
theorem kT_8 {t : Nat} (h : isT t) : syC.1 (32 * (t + 1) + 8) = (2, 4) := by rcases h with rfl | rfl <;> decide +kernel
theorem kT_9 {t : Nat} (h : isT t) : syC.1 (32 * (t + 1) + 9) = (2, 4) := by rcases h with rfl | rfl <;> decide +kernel
theorem kT_10 {t : Nat} (h : isT t) : syC.1 (32 * (t + 1) + 10) = (2, 4) := by rcases h with rfl | rfl <;> decide +kernel
theorem kT_11 {t : Nat} (h : isT t) : syC.1 (32 * (t + 1) + 11) = (2, 4) := by rcases h with rfl | rfl <;> decide +kernel
theorem kT_12 {t : Nat} (h : isT t) : syC.1 (32 * (t + 1) + 12) = (2, 4) := by rcases h with rfl | rfl <;> decide +kernel
theorem kS {t : Nat} (h : isS t) : syC.1 t = (1, 6) := by rcases h with rfl | rfl | rfl <;> decide +kernel
theorem kS_2 {t : Nat} (h : isS t) : syC.1 (32 * (t + 1) + 2) = (2, 8) := by rcases h with rfl | rfl | rfl <;> decide +kernel
theorem kS_3 {t : Nat} (h : isS t) : syC.1 (32 * (t + 1) + 3) = (2, 8) := by rcases h with rfl | rfl | rfl <;> decide +kernel
theorem kS_4 {t : Nat} (h : isS t) : syC.1 (32 * (t + 1) + 4) = (2, 8) := by rcases h with rfl | rfl | rfl <;> decide +kernel
theorem kS_5 {t : Nat} (h : isS t) : syC.1 (32 * (t + 1) + 5) = (2, 8) := by rcases h with rfl | rfl | rfl <;> decide +kernel
theorem kS_6 {t : Nat} (h : isS t) : syC.1 (32 * (t + 1) + 6) = (2, 8) := by rcases h with rfl | rfl | rfl <;> decide +kernel
theorem kS_7 {t : Nat} (h : isS t) : syC.1 (32 * (t + 1) + 7) = (2, 8) := by rcases h with rfl | rfl | rfl <;> decide +kernel
theorem kS_8 {t : Nat} (h : isS t) : syC.1 (32 * (t + 1) + 8) = (2, 8) := by rcases h with rfl | rfl | rfl <;> decide +kernel
theorem kL {t : Nat} (h : isL t) : syC.1 t = (1, 2) := by rcases h with rfl | rfl <;> decide +kernel
theorem kL_0 {t : Nat} (h : isL t) : syC.1 (32 * (t + 1) + 0) = (2, 64) := by rcases h with rfl | rfl <;> decide +kernel
theorem kL_1 {t : Nat} (h : isL t) : syC.1 (32 * (t + 1) + 1) = (2, 64) := by rcases h with rfl | rfl <;> decide +kernel
theorem kL_2 {t : Nat} (h : isL t) : syC.1 (32 * (t + 1) + 2) = (2, 3) := by rcases h with rfl | rfl <;> decide +kernel
theorem kL_3 {t : Nat} (h : isL t) : syC.1 (32 * (t + 1) + 3) = (2, 3) := by rcases h with rfl | rfl <;> decide +kernel
theorem kL_4 {t : Nat} (h : isL t) : syC.1 (32 * (t + 1) + 4) = (5, 64) := by rcases h with rfl | rfl <;> decide +kernel
theorem kTL {t : Nat} (h : isT t) : isL (t + 10) := by rcases h with rfl | rfl; exact Or.inl rfl; exact Or.inr rfl
theorem clX0 : q_cl 0 RX0 TX0 4 := ⟨rfl, iqX0, ⟨tyX0, tyX0_ok⟩, nmX0⟩
theorem clX1 : q_cl 1 RX1 TX1 7 := ⟨rfl, iqX1, ⟨tyX1, tyX1_ok⟩, nmX1⟩
theorem clX2 : q_cl 2 RX2 TX2 7 := ⟨rfl, iqX2, ⟨tyX2, tyX2_ok⟩, nmX2⟩
theorem clX3 : q_cl 3 RX3 TX3 8 := ⟨rfl, iqX3, ⟨tyX3, tyX3_ok⟩, nmX3⟩
theorem clX4 : q_cl 4 RX4 TX4 6 := ⟨rfl, iqX4, ⟨tyX4, tyX4_ok⟩, nmX4⟩
theorem clX5 : q_cl 5 RX5 TX5 5 := ⟨rfl, iqX5, ⟨tyX5, tyX5_ok⟩, nmX5⟩
theorem clX6 : q_cl 6 RX6 TX6 10 := ⟨rfl, iqX6, ⟨tyX6, tyX6_ok⟩, nmX6⟩
theorem clX7 : q_cl 7 RX7 TX7 7 := ⟨rfl, iqX7, ⟨tyX7, tyX7_ok⟩, nmX7⟩
theorem clX8 : q_cl 8 RX8 TX8 17 := ⟨rfl, iqX8, ⟨tyX8, tyX8_ok⟩, nmX8⟩
theorem clX9 : q_cl 9 RX9 TX9 15 := ⟨rfl, iqX9, ⟨tyX9, tyX9_ok⟩, nmX9⟩
theorem clX10 : q_cl 10 RX10 TX10 65 := ⟨rfl, iqX10, ⟨tyX10, tyX10_ok⟩, nmX10⟩
theorem q_dI : parseFieldDescriptor "I" = some .int := by decide +kernel
theorem q_dZ : parseFieldDescriptor "Z" = some .boolean := by decide +kernel
theorem lookup_mem {n : Nat} {x : Nat × Nat} : ∀ {t : List (Nat × Nat × Nat)}, t.lookup n = some x → (n, x) ∈ t
  | [], h => by cases h
  | (k, v) :: r, h => by
    unfold List.lookup at h
    by_cases hk : n = k
    · subst hk
      simp at h
      subst h
      exact List.mem_cons_self
    · have : (n == k) = false := by simp [hk]
      rw [this] at h
      exact List.mem_cons_of_mem _ (lookup_mem h)
theorem kdC_mem {n a b : Nat} (h : kdC n = (a, b)) (ha : a ≠ 0) : (n, a, b) ∈ tabC := by
  unfold kdC at h
  cases hq : tabC.lookup n with
  | none => rw [hq] at h; simp at h; omega
  | some x => rw [hq] at h; exact lookup_mem (by rw [hq]; simpa using h)
theorem tabC_obj : ∀ q ∈ tabC, q.2.1 = 1 → (q.2.2 = 9 → q.1 = 0) ∧ (q.2.2 = 4 → q.1 = 1) ∧ (q.2.2 = 3 → q.1 = 7) := by decide +kernel
theorem okC : q_ok syC := by
  intro M n i v hw
  have key : ∀ (n' f' : Nat), (n' = 0 ∧ f' = 3) ∨ (n' = 1 ∧ f' = 2) ∨ (n' = 7 ∧ f' = 0) ∨ (n' = 7 ∧ f' = 1) → up M n i v n' (f' : Int) = M n' (f' : Int) := by
    intro n' f' h
    apply up_ne
    rintro ⟨e1, e2⟩
    subst e1
    rcases hw with hw | ⟨hw, f, e3, e4⟩
    · rcases h with ⟨rfl, -⟩ | ⟨rfl, -⟩ | ⟨rfl, -⟩ | ⟨rfl, -⟩ <;> exact absurd hw (by decide +kernel)
    · have e5 : f = f' := by omega
      subst e5
      rcases h with ⟨rfl, rfl⟩ | ⟨rfl, rfl⟩ | ⟨rfl, rfl⟩ | ⟨rfl, rfl⟩ <;> cases e4
  constructor
  · intro ci n' f hk
    have hm := kdC_mem hk Nat.one_ne_zero
    have ho := tabC_obj _ hm rfl
    show frC (up M n i v) ci n' f = frC M ci n' f
    by_cases h1 : ci = 9 ∧ f = 3
    · obtain ⟨rfl, rfl⟩ := h1
      show some _ = some _
      rw [show up M n i v n' 3 = M n' 3 from key n' 3 (Or.inl ⟨ho.1 rfl, rfl⟩)]
    by_cases h2 : ci = 4 ∧ f = 2
    · obtain ⟨rfl, rfl⟩ := h2
      show some _ = some _
      rw [show up M n i v n' 2 = M n' 2 from key n' 2 (Or.inr (Or.inl ⟨ho.2.1 rfl, rfl⟩))]
    by_cases h3 : ci = 3 ∧ f = 0
    · obtain ⟨rfl, rfl⟩ := h3
      show some _ = some _
      rw [show up M n i v n' 0 = M n' 0 from key n' 0 (Or.inr (Or.inr (Or.inl ⟨ho.2.2 rfl, rfl⟩)))]
    by_cases h4 : ci = 3 ∧ f = 1
    · obtain ⟨rfl, rfl⟩ := h4
      show some _ = some _
      rw [show up M n i v n' 1 = M n' 1 from key n' 1 (Or.inr (Or.inr (Or.inr ⟨ho.2.2 rfl, rfl⟩)))]
    unfold frC
    split <;> first | rfl | (exfalso; simp_all)
  · intro hT
    show tyC (up M n i v)
    unfold tyC
    rw [show up M n i v 0 3 = M 0 3 from key 0 3 (by simp), show up M n i v 1 2 = M 1 2 from key 1 2 (by simp), show up M n i v 7 0 = M 7 0 from key 7 0 (by simp), show up M n i v 7 1 = M 7 1 from key 7 1 (by simp)]
    exact hT
theorem okM : q_ok syM := fun M n i v _ => ⟨fun ci n' f _ => rfl, fun h => h⟩
