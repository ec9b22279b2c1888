def wsQ : List Cond := lw_tbl.filter goodWord
theorem wq_t {w : Cond} (h : w ∈ tables_1) (g : goodWord w = true) : w ∈ wsQ := List.mem_filter.mpr ⟨List.mem_append_right _ h, g⟩
theorem wq_1 {w : Cond} (h : w ∈ tables_1_1) (g : goodWord w = true) : w ∈ wsQ := wq_t (List.mem_append_left _ h) g
theorem wq_2 {w : Cond} (h : w ∈ tables_1_2) (g : goodWord w = true) : w ∈ wsQ := wq_t (List.mem_append_right _ (List.mem_append_left _ h)) g
theorem wq_3 {w : Cond} (h : w ∈ tables_1_3) (g : goodWord w = true) : w ∈ wsQ := wq_t (List.mem_append_right _ (List.mem_append_right _ (List.mem_append_left _ h))) g
theorem wq_4 {w : Cond} (h : w ∈ tables_1_4) (g : goodWord w = true) : w ∈ wsQ := wq_t (List.mem_append_right _ (List.mem_append_right _ (List.mem_append_right _ (List.mem_append_left _ h)))) g
theorem wq_5 {w : Cond} (h : w ∈ tables_1_5) (g : goodWord w = true) : w ∈ wsQ := wq_t (List.mem_append_right _ (List.mem_append_right _ (List.mem_append_right _ (List.mem_append_right _ (List.mem_append_left _ h))))) g
theorem wq_6 {w : Cond} (h : w ∈ tables_1_6) (g : goodWord w = true) : w ∈ wsQ := wq_t (List.mem_append_right _ (List.mem_append_right _ (List.mem_append_right _ (List.mem_append_right _ (List.mem_append_right _ (List.mem_append_left _ h)))))) g
theorem wq_7 {w : Cond} (h : w ∈ tables_1_7) (g : goodWord w = true) : w ∈ wsQ := wq_t (List.mem_append_right _ (List.mem_append_right _ (List.mem_append_right _ (List.mem_append_right _ (List.mem_append_right _ (List.mem_append_right _ (List.mem_append_left _ h))))))) g
theorem wq_8 {w : Cond} (h : w ∈ tables_1_8) (g : goodWord w = true) : w ∈ wsQ := wq_t (List.mem_append_right _ (List.mem_append_right _ (List.mem_append_right _ (List.mem_append_right _ (List.mem_append_right _ (List.mem_append_right _ (List.mem_append_right _ h))))))) g
theorem wq_p {q : MethodName × Nat} (h : q ∈ lw_privs) (g : goodWord (Cond.selects q.1.cls q.1 q.1) = true) : Cond.selects q.1.cls q.1 q.1 ∈ wsQ := List.mem_filter.mpr ⟨List.mem_append_left _ (List.mem_map.mpr ⟨q, h, rfl⟩), g⟩
theorem wq_p1 {q : MethodName × Nat} (h : q ∈ lw_privs_1) (g : goodWord (Cond.selects q.1.cls q.1 q.1) = true) : Cond.selects q.1.cls q.1 q.1 ∈ wsQ := wq_p (List.mem_append_left _ h) g
theorem wq_p2 {q : MethodName × Nat} (h : q ∈ lw_privs_2) (g : goodWord (Cond.selects q.1.cls q.1 q.1) = true) : Cond.selects q.1.cls q.1 q.1 ∈ wsQ := wq_p (List.mem_append_right _ (List.mem_append_left _ h)) g
theorem wq_p3 {q : MethodName × Nat} (h : q ∈ lw_privs_3) (g : goodWord (Cond.selects q.1.cls q.1 q.1) = true) : Cond.selects q.1.cls q.1 q.1 ∈ wsQ := wq_p (List.mem_append_right _ (List.mem_append_right _ (List.mem_append_left _ h))) g
theorem wq_p4 {q : MethodName × Nat} (h : q ∈ lw_privs_4) (g : goodWord (Cond.selects q.1.cls q.1 q.1) = true) : Cond.selects q.1.cls q.1 q.1 ∈ wsQ := wq_p (List.mem_append_right _ (List.mem_append_right _ (List.mem_append_right _ (List.mem_append_left _ h)))) g
theorem wq_p5 {q : MethodName × Nat} (h : q ∈ lw_privs_5) (g : goodWord (Cond.selects q.1.cls q.1 q.1) = true) : Cond.selects q.1.cls q.1 q.1 ∈ wsQ := wq_p (List.mem_append_right _ (List.mem_append_right _ (List.mem_append_right _ (List.mem_append_right _ (List.mem_append_left _ h))))) g
theorem wq_p6 {q : MethodName × Nat} (h : q ∈ lw_privs_6) (g : goodWord (Cond.selects q.1.cls q.1 q.1) = true) : Cond.selects q.1.cls q.1 q.1 ∈ wsQ := wq_p (List.mem_append_right _ (List.mem_append_right _ (List.mem_append_right _ (List.mem_append_right _ (List.mem_append_right _ (List.mem_append_left _ h)))))) g
theorem wq_p7 {q : MethodName × Nat} (h : q ∈ lw_privs_7) (g : goodWord (Cond.selects q.1.cls q.1 q.1) = true) : Cond.selects q.1.cls q.1 q.1 ∈ wsQ := wq_p (List.mem_append_right _ (List.mem_append_right _ (List.mem_append_right _ (List.mem_append_right _ (List.mem_append_right _ (List.mem_append_right _ h)))))) g
theorem wsQ_good : ∀ w ∈ wsQ, ((w.onTables && w.keeps) = true ∨ ∃ ty, w = .arrayClass ty) := fun w h => good_of_word (List.mem_filter.mp h).2
theorem wsQ_tbl : ∀ w ∈ wsQ, w ∈ lw_tbl := fun w h => (List.mem_filter.mp h).1
theorem tn_RL : Cond.initialized RL ∈ wsQ := wq_1 (List.mem_of_getElem? (i := 0) rfl) rfl
theorem tn_RX9 : Cond.initialized RX9 ∈ wsQ := wq_1 (List.mem_of_getElem? (i := 1) rfl) rfl
theorem tn_RX4 : Cond.initialized RX4 ∈ wsQ := wq_1 (List.mem_of_getElem? (i := 2) rfl) rfl
theorem tn_RX8 : Cond.initialized RX8 ∈ wsQ := wq_1 (List.mem_of_getElem? (i := 3) rfl) rfl
theorem tn_RX2 : Cond.initialized RX2 ∈ wsQ := wq_1 (List.mem_of_getElem? (i := 4) rfl) rfl
theorem tn_RX7 : Cond.initialized RX7 ∈ wsQ := wq_1 (List.mem_of_getElem? (i := 5) rfl) rfl
theorem tn_RJ0 : Cond.initialized RJ0 ∈ wsQ := wq_1 (List.mem_of_getElem? (i := 6) rfl) rfl
theorem tn_RJ1 : Cond.initialized RJ1 ∈ wsQ := wq_1 (List.mem_of_getElem? (i := 7) rfl) rfl
theorem tn_RJ3 : Cond.initialized RJ3 ∈ wsQ := wq_1 (List.mem_of_getElem? (i := 8) rfl) rfl
theorem tn_RJ2 : Cond.initialized RJ2 ∈ wsQ := wq_1 (List.mem_of_getElem? (i := 9) rfl) rfl
theorem tn_RX1 : Cond.initialized RX1 ∈ wsQ := wq_1 (List.mem_of_getElem? (i := 10) rfl) rfl
theorem tn_RX6 : Cond.initialized RX6 ∈ wsQ := wq_1 (List.mem_of_getElem? (i := 11) rfl) rfl
theorem tn_RX3 : Cond.initialized RX3 ∈ wsQ := wq_1 (List.mem_of_getElem? (i := 12) rfl) rfl
theorem tn_RX0 : Cond.initialized RX0 ∈ wsQ := wq_1 (List.mem_of_getElem? (i := 13) rfl) rfl
theorem tn_RX5 : Cond.initialized RX5 ∈ wsQ := wq_1 (List.mem_of_getElem? (i := 14) rfl) rfl
theorem tn_RX10 : Cond.initialized RX10 ∈ wsQ := wq_1 (List.mem_of_getElem? (i := 15) rfl) rfl
theorem tn_RJ9 : Cond.initialized RJ9 ∈ wsQ := wq_1 (List.mem_of_getElem? (i := 16) rfl) rfl
theorem tn_RJ10 : Cond.initialized RJ10 ∈ wsQ := wq_1 (List.mem_of_getElem? (i := 22) rfl) rfl
theorem tn_RJ6 : Cond.initialized RJ6 ∈ wsQ := wq_1 (List.mem_of_getElem? (i := 23) rfl) rfl
theorem tk_RL_8 : Cond.classLink RL 8 RX9 ∈ wsQ := wq_1 (List.mem_of_getElem? (i := 24) rfl) rfl
theorem tz_RX9 : Cond.instantiable RX9 15 ∈ wsQ := wq_1 (List.mem_of_getElem? (i := 25) rfl) rfl
theorem tm_RL_17 : Cond.methodLink RL 17 yX9_init ∈ wsQ := wq_1 (List.mem_of_getElem? (i := 26) rfl) rfl
theorem ti_X9_init : Cond.instanceMethod yX9_init ∈ wsQ := wq_1 (List.mem_of_getElem? (i := 27) rfl) rfl
theorem td_X9_init : Cond.code yX9_init cX9_init 1 none ∈ wsQ := wq_1 (List.mem_of_getElem? (i := 28) rfl) rfl
theorem tm_RX9_3 : Cond.methodLink RX9 3 ⟨"java/lang/Object", "<init>", "()V"⟩ ∈ wsQ := wq_1 (List.mem_of_getElem? (i := 29) rfl) rfl
theorem tk_RX9_19 : Cond.classLink RX9 19 RX4 ∈ wsQ := wq_1 (List.mem_of_getElem? (i := 32) rfl) rfl
theorem tz_RX4 : Cond.instantiable RX4 6 ∈ wsQ := wq_1 (List.mem_of_getElem? (i := 33) rfl) rfl
theorem tm_RX9_21 : Cond.methodLink RX9 21 yX4_init ∈ wsQ := wq_1 (List.mem_of_getElem? (i := 34) rfl) rfl
theorem ti_X4_init : Cond.instanceMethod yX4_init ∈ wsQ := wq_1 (List.mem_of_getElem? (i := 35) rfl) rfl
theorem td_X4_init : Cond.code yX4_init cX4_init 2 none ∈ wsQ := wq_1 (List.mem_of_getElem? (i := 36) rfl) rfl
theorem tm_RX4_3 : Cond.methodLink RX4 3 ⟨"java/lang/Object", "<init>", "()V"⟩ ∈ wsQ := wq_1 (List.mem_of_getElem? (i := 37) rfl) rfl
theorem tk_RX4_9 : Cond.classLink RX4 9 RX8 ∈ wsQ := wq_1 (List.mem_of_getElem? (i := 38) rfl) rfl
theorem tz_RX8 : Cond.instantiable RX8 17 ∈ wsQ := wq_1 (List.mem_of_getElem? (i := 39) rfl) rfl
theorem ti_X8_init : Cond.instanceMethod yX8_init ∈ wsQ := wq_1 (List.mem_of_getElem? (i := 41) rfl) rfl
theorem td_X8_init : Cond.code yX8_init cX8_init 1 none ∈ wsQ := wq_1 (List.mem_of_getElem? (i := 42) rfl) rfl
theorem tm_RX8_3 : Cond.methodLink RX8 3 ⟨"java/lang/Object", "<init>", "()V"⟩ ∈ wsQ := wq_1 (List.mem_of_getElem? (i := 43) rfl) rfl
theorem tk_RX8_61 : Cond.classLink RX8 61 RX2 ∈ wsQ := wq_1 (List.mem_of_getElem? (i := 44) rfl) rfl
theorem tz_RX2 : Cond.instantiable RX2 7 ∈ wsQ := wq_1 (List.mem_of_getElem? (i := 45) rfl) rfl
theorem ti_X2_init : Cond.instanceMethod yX2_init ∈ wsQ := wq_1 (List.mem_of_getElem? (i := 47) rfl) rfl
theorem td_X2_init : Cond.code yX2_init cX2_init 1 none ∈ wsQ := wq_1 (List.mem_of_getElem? (i := 48) rfl) rfl
theorem tm_RX2_3 : Cond.methodLink RX2 3 ⟨"java/lang/Object", "<init>", "()V"⟩ ∈ wsQ := wq_1 (List.mem_of_getElem? (i := 49) rfl) rfl
theorem tf_RX2_9 : Cond.fieldLink RX2 9 "HeavenStop$Laws" "tokens" "[I" ∈ wsQ := wq_1 (List.mem_of_getElem? (i := 50) rfl) rfl
theorem tf_RX2_15 : Cond.fieldLink RX2 15 "HeavenStop$Laws" "numbers" "[I" ∈ wsQ := wq_1 (List.mem_of_getElem? (i := 51) rfl) rfl
theorem tf_RX2_18 : Cond.fieldLink RX2 18 "HeavenStop$Laws" "from" "[I" ∈ wsQ := wq_1 (List.mem_of_getElem? (i := 52) rfl) rfl
theorem tf_RX2_21 : Cond.fieldLink RX2 21 "HeavenStop$Laws" "to" "[I" ∈ wsQ := wq_1 (List.mem_of_getElem? (i := 53) rfl) rfl
theorem tf_RX2_24 : Cond.fieldLink RX2 24 "HeavenStop$Laws" "stack" "[J" ∈ wsQ := wq_1 (List.mem_of_getElem? (i := 54) rfl) rfl
theorem tf_RX2_28 : Cond.fieldLink RX2 28 "HeavenStop$Laws" "length" "I" ∈ wsQ := wq_1 (List.mem_of_getElem? (i := 55) rfl) rfl
theorem tf_RX2_32 : Cond.fieldLink RX2 32 "HeavenStop$Laws" "knots" "I" ∈ wsQ := wq_1 (List.mem_of_getElem? (i := 56) rfl) rfl
theorem tf_RX1_80 : Cond.fieldLink RX1 80 "HeavenStop$Laws" "knots" "I" ∈ wsQ := wq_1 (List.mem_of_getElem? (i := 57) rfl) rfl
theorem tf_RX9_387 : Cond.fieldLink RX9 387 "HeavenStop$Laws" "knots" "I" ∈ wsQ := wq_1 (List.mem_of_getElem? (i := 58) rfl) rfl
theorem ta_byte : Cond.arrayClass .byte ∈ wsQ := wq_1 (List.mem_of_getElem? (i := 74) rfl) rfl
theorem ta_int : Cond.arrayClass .int ∈ wsQ := wq_1 (List.mem_of_getElem? (i := 75) rfl) rfl
theorem ta_long : Cond.arrayClass .long ∈ wsQ := wq_1 (List.mem_of_getElem? (i := 76) rfl) rfl
theorem tf_RX8_9 : Cond.fieldLink RX8 9 "HeavenStop$Told" "souls" "I" ∈ wsQ := wq_1 (List.mem_of_getElem? (i := 77) rfl) rfl
theorem tf_RX3_75 : Cond.fieldLink RX3 75 "HeavenStop$Told" "souls" "I" ∈ wsQ := wq_1 (List.mem_of_getElem? (i := 78) rfl) rfl
theorem tf_RX4_83 : Cond.fieldLink RX4 83 "HeavenStop$Told" "souls" "I" ∈ wsQ := wq_1 (List.mem_of_getElem? (i := 79) rfl) rfl
theorem tf_RX9_125 : Cond.fieldLink RX9 125 "HeavenStop$Told" "souls" "I" ∈ wsQ := wq_1 (List.mem_of_getElem? (i := 80) rfl) rfl
theorem tf_RX8_15 : Cond.fieldLink RX8 15 "HeavenStop$Told" "soulNames" "[I" ∈ wsQ := wq_1 (List.mem_of_getElem? (i := 81) rfl) rfl
theorem tf_RX4_86 : Cond.fieldLink RX4 86 "HeavenStop$Told" "soulNames" "[I" ∈ wsQ := wq_1 (List.mem_of_getElem? (i := 82) rfl) rfl
theorem tf_RX9_122 : Cond.fieldLink RX9 122 "HeavenStop$Told" "soulNames" "[I" ∈ wsQ := wq_1 (List.mem_of_getElem? (i := 83) rfl) rfl
theorem tf_RX8_19 : Cond.fieldLink RX8 19 "HeavenStop$Told" "died" "[I" ∈ wsQ := wq_1 (List.mem_of_getElem? (i := 84) rfl) rfl
theorem tf_RX3_78 : Cond.fieldLink RX3 78 "HeavenStop$Told" "died" "[I" ∈ wsQ := wq_1 (List.mem_of_getElem? (i := 85) rfl) rfl
theorem tf_RX4_94 : Cond.fieldLink RX4 94 "HeavenStop$Told" "died" "[I" ∈ wsQ := wq_1 (List.mem_of_getElem? (i := 86) rfl) rfl
theorem tf_RX8_22 : Cond.fieldLink RX8 22 "HeavenStop$Told" "kindness" "[I" ∈ wsQ := wq_1 (List.mem_of_getElem? (i := 87) rfl) rfl
theorem tf_RX4_101 : Cond.fieldLink RX4 101 "HeavenStop$Told" "kindness" "[I" ∈ wsQ := wq_1 (List.mem_of_getElem? (i := 88) rfl) rfl
theorem tf_RX9_152 : Cond.fieldLink RX9 152 "HeavenStop$Told" "kindness" "[I" ∈ wsQ := wq_1 (List.mem_of_getElem? (i := 89) rfl) rfl
theorem tf_RX3_186 : Cond.fieldLink RX3 186 "HeavenStop$Told" "kindness" "[I" ∈ wsQ := wq_1 (List.mem_of_getElem? (i := 90) rfl) rfl
theorem tf_RX8_25 : Cond.fieldLink RX8 25 "HeavenStop$Told" "coins" "[I" ∈ wsQ := wq_1 (List.mem_of_getElem? (i := 91) rfl) rfl
theorem tf_RX9_88 : Cond.fieldLink RX9 88 "HeavenStop$Told" "coins" "[I" ∈ wsQ := wq_1 (List.mem_of_getElem? (i := 92) rfl) rfl
theorem tf_RX4_104 : Cond.fieldLink RX4 104 "HeavenStop$Told" "coins" "[I" ∈ wsQ := wq_1 (List.mem_of_getElem? (i := 93) rfl) rfl
theorem tf_RX8_28 : Cond.fieldLink RX8 28 "HeavenStop$Told" "lets" "[I" ∈ wsQ := wq_1 (List.mem_of_getElem? (i := 94) rfl) rfl
theorem tf_RX3_160 : Cond.fieldLink RX3 160 "HeavenStop$Told" "lets" "[I" ∈ wsQ := wq_1 (List.mem_of_getElem? (i := 95) rfl) rfl
theorem tf_RX4_135 : Cond.fieldLink RX4 135 "HeavenStop$Told" "lets" "[I" ∈ wsQ := wq_1 (List.mem_of_getElem? (i := 96) rfl) rfl
theorem tf_RX9_203 : Cond.fieldLink RX9 203 "HeavenStop$Told" "lets" "[I" ∈ wsQ := wq_1 (List.mem_of_getElem? (i := 97) rfl) rfl
theorem tf_RX8_31 : Cond.fieldLink RX8 31 "HeavenStop$Told" "letsTold" "I" ∈ wsQ := wq_1 (List.mem_of_getElem? (i := 98) rfl) rfl
theorem tf_RX4_132 : Cond.fieldLink RX4 132 "HeavenStop$Told" "letsTold" "I" ∈ wsQ := wq_1 (List.mem_of_getElem? (i := 99) rfl) rfl
theorem tf_RX8_34 : Cond.fieldLink RX8 34 "HeavenStop$Told" "buses" "I" ∈ wsQ := wq_1 (List.mem_of_getElem? (i := 100) rfl) rfl
theorem tf_RX3_44 : Cond.fieldLink RX3 44 "HeavenStop$Told" "buses" "I" ∈ wsQ := wq_1 (List.mem_of_getElem? (i := 101) rfl) rfl
theorem tf_RX9_135 : Cond.fieldLink RX9 135 "HeavenStop$Told" "buses" "I" ∈ wsQ := wq_1 (List.mem_of_getElem? (i := 102) rfl) rfl
theorem tf_RX4_107 : Cond.fieldLink RX4 107 "HeavenStop$Told" "buses" "I" ∈ wsQ := wq_1 (List.mem_of_getElem? (i := 103) rfl) rfl
theorem tf_RX8_37 : Cond.fieldLink RX8 37 "HeavenStop$Told" "busNames" "[I" ∈ wsQ := wq_1 (List.mem_of_getElem? (i := 104) rfl) rfl
theorem tf_RX9_132 : Cond.fieldLink RX9 132 "HeavenStop$Told" "busNames" "[I" ∈ wsQ := wq_1 (List.mem_of_getElem? (i := 105) rfl) rfl
theorem tf_RX4_110 : Cond.fieldLink RX4 110 "HeavenStop$Told" "busNames" "[I" ∈ wsQ := wq_1 (List.mem_of_getElem? (i := 106) rfl) rfl
theorem tf_RX8_40 : Cond.fieldLink RX8 40 "HeavenStop$Told" "first" "[I" ∈ wsQ := wq_1 (List.mem_of_getElem? (i := 107) rfl) rfl
theorem tf_RX3_91 : Cond.fieldLink RX3 91 "HeavenStop$Told" "first" "[I" ∈ wsQ := wq_1 (List.mem_of_getElem? (i := 108) rfl) rfl
theorem tf_RX4_113 : Cond.fieldLink RX4 113 "HeavenStop$Told" "first" "[I" ∈ wsQ := wq_1 (List.mem_of_getElem? (i := 109) rfl) rfl
theorem tf_RX9_182 : Cond.fieldLink RX9 182 "HeavenStop$Told" "first" "[I" ∈ wsQ := wq_1 (List.mem_of_getElem? (i := 110) rfl) rfl
theorem tf_RX8_43 : Cond.fieldLink RX8 43 "HeavenStop$Told" "every" "[I" ∈ wsQ := wq_1 (List.mem_of_getElem? (i := 111) rfl) rfl
theorem tf_RX3_88 : Cond.fieldLink RX3 88 "HeavenStop$Told" "every" "[I" ∈ wsQ := wq_1 (List.mem_of_getElem? (i := 112) rfl) rfl
theorem tf_RX4_116 : Cond.fieldLink RX4 116 "HeavenStop$Told" "every" "[I" ∈ wsQ := wq_1 (List.mem_of_getElem? (i := 113) rfl) rfl
theorem tf_RX9_185 : Cond.fieldLink RX9 185 "HeavenStop$Told" "every" "[I" ∈ wsQ := wq_1 (List.mem_of_getElem? (i := 114) rfl) rfl
theorem tf_RX8_46 : Cond.fieldLink RX8 46 "HeavenStop$Told" "room" "[I" ∈ wsQ := wq_1 (List.mem_of_getElem? (i := 115) rfl) rfl
theorem tf_RX3_101 : Cond.fieldLink RX3 101 "HeavenStop$Told" "room" "[I" ∈ wsQ := wq_1 (List.mem_of_getElem? (i := 116) rfl) rfl
theorem tf_RX4_119 : Cond.fieldLink RX4 119 "HeavenStop$Told" "room" "[I" ∈ wsQ := wq_1 (List.mem_of_getElem? (i := 117) rfl) rfl
theorem tf_RX9_188 : Cond.fieldLink RX9 188 "HeavenStop$Told" "room" "[I" ∈ wsQ := wq_1 (List.mem_of_getElem? (i := 118) rfl) rfl
theorem tf_RX8_49 : Cond.fieldLink RX8 49 "HeavenStop$Told" "fare" "[I" ∈ wsQ := wq_1 (List.mem_of_getElem? (i := 119) rfl) rfl
theorem tf_RX4_122 : Cond.fieldLink RX4 122 "HeavenStop$Told" "fare" "[I" ∈ wsQ := wq_1 (List.mem_of_getElem? (i := 120) rfl) rfl
theorem tf_RX3_122 : Cond.fieldLink RX3 122 "HeavenStop$Told" "fare" "[I" ∈ wsQ := wq_1 (List.mem_of_getElem? (i := 121) rfl) rfl
theorem tf_RX9_191 : Cond.fieldLink RX9 191 "HeavenStop$Told" "fare" "[I" ∈ wsQ := wq_1 (List.mem_of_getElem? (i := 122) rfl) rfl
theorem tf_RX8_52 : Cond.fieldLink RX8 52 "HeavenStop$Told" "seats" "I" ∈ wsQ := wq_1 (List.mem_of_getElem? (i := 123) rfl) rfl
theorem tf_RX4_139 : Cond.fieldLink RX4 139 "HeavenStop$Told" "seats" "I" ∈ wsQ := wq_1 (List.mem_of_getElem? (i := 124) rfl) rfl
theorem tf_RX3_176 : Cond.fieldLink RX3 176 "HeavenStop$Told" "seats" "I" ∈ wsQ := wq_1 (List.mem_of_getElem? (i := 125) rfl) rfl
theorem tf_RX9_384 : Cond.fieldLink RX9 384 "HeavenStop$Told" "seats" "I" ∈ wsQ := wq_1 (List.mem_of_getElem? (i := 126) rfl) rfl
theorem tf_RX8_55 : Cond.fieldLink RX8 55 "HeavenStop$Told" "rain" "I" ∈ wsQ := wq_1 (List.mem_of_getElem? (i := 127) rfl) rfl
theorem tf_RX3_163 : Cond.fieldLink RX3 163 "HeavenStop$Told" "rain" "I" ∈ wsQ := wq_1 (List.mem_of_getElem? (i := 128) rfl) rfl
theorem tf_RX4_142 : Cond.fieldLink RX4 142 "HeavenStop$Told" "rain" "I" ∈ wsQ := wq_1 (List.mem_of_getElem? (i := 129) rfl) rfl
theorem tf_RX9_332 : Cond.fieldLink RX9 332 "HeavenStop$Told" "rain" "I" ∈ wsQ := wq_1 (List.mem_of_getElem? (i := 130) rfl) rfl
theorem tf_RX8_58 : Cond.fieldLink RX8 58 "HeavenStop$Told" "seed" "I" ∈ wsQ := wq_1 (List.mem_of_getElem? (i := 131) rfl) rfl
theorem tf_RX9_91 : Cond.fieldLink RX9 91 "HeavenStop$Told" "seed" "I" ∈ wsQ := wq_1 (List.mem_of_getElem? (i := 132) rfl) rfl
theorem tf_RX4_145 : Cond.fieldLink RX4 145 "HeavenStop$Told" "seed" "I" ∈ wsQ := wq_1 (List.mem_of_getElem? (i := 133) rfl) rfl
theorem tf_RX8_64 : Cond.fieldLink RX8 64 "HeavenStop$Told" "laws" "LHeavenStop$Laws;" ∈ wsQ := wq_1 (List.mem_of_getElem? (i := 134) rfl) rfl
theorem tf_RX3_138 : Cond.fieldLink RX3 138 "HeavenStop$Told" "laws" "LHeavenStop$Laws;" ∈ wsQ := wq_1 (List.mem_of_getElem? (i := 135) rfl) rfl
theorem tf_RX4_148 : Cond.fieldLink RX4 148 "HeavenStop$Told" "laws" "LHeavenStop$Laws;" ∈ wsQ := wq_1 (List.mem_of_getElem? (i := 136) rfl) rfl
theorem tf_RX9_215 : Cond.fieldLink RX9 215 "HeavenStop$Told" "laws" "LHeavenStop$Laws;" ∈ wsQ := wq_1 (List.mem_of_getElem? (i := 137) rfl) rfl
theorem tk_RX4_28 : Cond.classLink RX4 28 RX7 ∈ wsQ := wq_1 (List.mem_of_getElem? (i := 173) rfl) rfl
theorem tz_RX7 : Cond.instantiable RX7 7 ∈ wsQ := wq_1 (List.mem_of_getElem? (i := 174) rfl) rfl
theorem tm_RX4_30 : Cond.methodLink RX4 30 yX7_init ∈ wsQ := wq_1 (List.mem_of_getElem? (i := 175) rfl) rfl
theorem ti_X7_init : Cond.instanceMethod yX7_init ∈ wsQ := wq_1 (List.mem_of_getElem? (i := 176) rfl) rfl
theorem td_X7_init : Cond.code yX7_init cX7_init 5 none ∈ wsQ := wq_1 (List.mem_of_getElem? (i := 177) rfl) rfl
theorem tm_RX7_3 : Cond.methodLink RX7 3 ⟨"java/lang/Object", "<init>", "()V"⟩ ∈ wsQ := wq_1 (List.mem_of_getElem? (i := 178) rfl) rfl
theorem tm_RX7_37 : Cond.methodLink RX7 37 yJ0_length_8abf5 ∈ wsQ := wq_1 (List.mem_of_getElem? (i := 180) rfl) rfl
theorem ti_J0_length_8abf5 : Cond.instanceMethod yJ0_length_8abf5 ∈ wsQ := wq_1 (List.mem_of_getElem? (i := 181) rfl) rfl
theorem tl_J0_length_8abf5 : Cond.selects RJ0 yJ0_length_8abf5 yJ0_length_8abf5 ∈ wsQ := wq_1 (List.mem_of_getElem? (i := 182) rfl) rfl
theorem td_J0_length_8abf5 : Cond.code yJ0_length_8abf5 cJ0_length_8abf5 1 (some .int) ∈ wsQ := wq_1 (List.mem_of_getElem? (i := 183) rfl) rfl
theorem tm_RJ0_335 : Cond.methodLink RJ0 335 yJ0_coder_7d493 ∈ wsQ := wq_1 (List.mem_of_getElem? (i := 184) rfl) rfl
theorem ti_J0_coder_7d493 : Cond.instanceMethod yJ0_coder_7d493 ∈ wsQ := wq_1 (List.mem_of_getElem? (i := 185) rfl) rfl
theorem tl_J0_coder_7d493 : Cond.selects RJ0 yJ0_coder_7d493 yJ0_coder_7d493 ∈ wsQ := wq_1 (List.mem_of_getElem? (i := 186) rfl) rfl
theorem td_J0_coder_7d493 : Cond.code yJ0_coder_7d493 cJ0_coder_7d493 1 (some .byte) ∈ wsQ := wq_1 (List.mem_of_getElem? (i := 187) rfl) rfl
theorem tf_RJ0_38 : Cond.fieldLink RJ0 38 "java/lang/String" "COMPACT_STRINGS" "Z" ∈ wsQ := wq_1 (List.mem_of_getElem? (i := 188) rfl) rfl
theorem tm_RX7_42 : Cond.methodLink RX7 42 yJ0_charAt_5068e ∈ wsQ := wq_1 (List.mem_of_getElem? (i := 190) rfl) rfl
theorem ti_J0_charAt_5068e : Cond.instanceMethod yJ0_charAt_5068e ∈ wsQ := wq_1 (List.mem_of_getElem? (i := 191) rfl) rfl
theorem tl_J0_charAt_5068e : Cond.selects RJ0 yJ0_charAt_5068e yJ0_charAt_5068e ∈ wsQ := wq_1 (List.mem_of_getElem? (i := 192) rfl) rfl
theorem td_J0_charAt_5068e : Cond.code yJ0_charAt_5068e cJ0_charAt_5068e 2 (some .char) ∈ wsQ := wq_1 (List.mem_of_getElem? (i := 193) rfl) rfl
theorem tm_RJ0_492 : Cond.methodLink RJ0 492 yJ0_isLatin1_aae02 ∈ wsQ := wq_1 (List.mem_of_getElem? (i := 194) rfl) rfl
theorem ti_J0_isLatin1_aae02 : Cond.instanceMethod yJ0_isLatin1_aae02 ∈ wsQ := wq_1 (List.mem_of_getElem? (i := 195) rfl) rfl
theorem tl_J0_isLatin1_aae02 : Cond.selects RJ0 yJ0_isLatin1_aae02 yJ0_isLatin1_aae02 ∈ wsQ := wq_1 (List.mem_of_getElem? (i := 196) rfl) rfl
theorem td_J0_isLatin1_aae02 : Cond.code yJ0_isLatin1_aae02 cJ0_isLatin1_aae02 1 (some .boolean) ∈ wsQ := wq_1 (List.mem_of_getElem? (i := 197) rfl) rfl
theorem tm_RJ0_495 : Cond.methodLink RJ0 495 yJ1_charAt_3b067 ∈ wsQ := wq_1 (List.mem_of_getElem? (i := 198) rfl) rfl
theorem ts_J1_charAt_3b067 : Cond.static yJ1_charAt_3b067 ∈ wsQ := wq_1 (List.mem_of_getElem? (i := 199) rfl) rfl
theorem td_J1_charAt_3b067 : Cond.code yJ1_charAt_3b067 cJ1_charAt_3b067 2 (some .char) ∈ wsQ := wq_1 (List.mem_of_getElem? (i := 200) rfl) rfl
theorem tm_RJ1_9 : Cond.methodLink RJ1 9 yJ0_checkIndex_df160 ∈ wsQ := wq_1 (List.mem_of_getElem? (i := 201) rfl) rfl
theorem ts_J0_checkIndex_df160 : Cond.static yJ0_checkIndex_df160 ∈ wsQ := wq_1 (List.mem_of_getElem? (i := 202) rfl) rfl
theorem td_J0_checkIndex_df160 : Cond.code yJ0_checkIndex_df160 cJ0_checkIndex_df160 2 none ∈ wsQ := wq_1 (List.mem_of_getElem? (i := 203) rfl) rfl
theorem tf_RJ0_1053 : Cond.fieldLink RJ0 1053 "jdk/internal/util/Preconditions" "SIOOBE_FORMATTER" "Ljava/util/function/BiFunction;" ∈ wsQ := wq_1 (List.mem_of_getElem? (i := 204) rfl) rfl
theorem tm_RJ0_1059 : Cond.methodLink RJ0 1059 yJ3_checkIndex_8e157 ∈ wsQ := wq_1 (List.mem_of_getElem? (i := 206) rfl) rfl
theorem ts_J3_checkIndex_8e157 : Cond.static yJ3_checkIndex_8e157 ∈ wsQ := wq_1 (List.mem_of_getElem? (i := 207) rfl) rfl
theorem td_J3_checkIndex_8e157 : Cond.code yJ3_checkIndex_8e157 cJ3_checkIndex_8e157 3 (some .int) ∈ wsQ := wq_1 (List.mem_of_getElem? (i := 208) rfl) rfl
theorem tm_RJ0_498 : Cond.methodLink RJ0 498 yJ2_charAt_3b067 ∈ wsQ := wq_1 (List.mem_of_getElem? (i := 209) rfl) rfl
theorem ts_J2_charAt_3b067 : Cond.static yJ2_charAt_3b067 ∈ wsQ := wq_1 (List.mem_of_getElem? (i := 210) rfl) rfl
theorem td_J2_charAt_3b067 : Cond.code yJ2_charAt_3b067 cJ2_charAt_3b067 2 (some .char) ∈ wsQ := wq_1 (List.mem_of_getElem? (i := 211) rfl) rfl
theorem tm_RJ2_67 : Cond.methodLink RJ2 67 yJ2_checkIndex_2214a ∈ wsQ := wq_1 (List.mem_of_getElem? (i := 212) rfl) rfl
theorem ts_J2_checkIndex_2214a : Cond.static yJ2_checkIndex_2214a ∈ wsQ := wq_1 (List.mem_of_getElem? (i := 213) rfl) rfl
theorem td_J2_checkIndex_2214a : Cond.code yJ2_checkIndex_2214a cJ2_checkIndex_2214a 2 none ∈ wsQ := wq_1 (List.mem_of_getElem? (i := 214) rfl) rfl
theorem tm_RJ2_48 : Cond.methodLink RJ2 48 yJ2_length_9d52b ∈ wsQ := wq_1 (List.mem_of_getElem? (i := 215) rfl) rfl
theorem ts_J2_length_9d52b : Cond.static yJ2_length_9d52b ∈ wsQ := wq_1 (List.mem_of_getElem? (i := 216) rfl) rfl
theorem td_J2_length_9d52b : Cond.code yJ2_length_9d52b cJ2_length_9d52b 1 (some .int) ∈ wsQ := wq_1 (List.mem_of_getElem? (i := 217) rfl) rfl
theorem tm_RJ2_414 : Cond.methodLink RJ2 414 yJ0_checkIndex_df160 ∈ wsQ := wq_1 (List.mem_of_getElem? (i := 218) rfl) rfl
theorem tm_RJ2_71 : Cond.methodLink RJ2 71 yJ2_getChar_3b067 ∈ wsQ := wq_1 (List.mem_of_getElem? (i := 219) rfl) rfl
theorem ts_J2_getChar_3b067 : Cond.static yJ2_getChar_3b067 ∈ wsQ := wq_1 (List.mem_of_getElem? (i := 220) rfl) rfl
theorem td_J2_getChar_3b067 : Cond.code yJ2_getChar_3b067 cJ2_getChar_3b067 2 (some .char) ∈ wsQ := wq_1 (List.mem_of_getElem? (i := 221) rfl) rfl
theorem tf_RJ2_44 : Cond.fieldLink RJ2 44 "java/lang/StringUTF16" "$assertionsDisabled" "Z" ∈ wsQ := wq_1 (List.mem_of_getElem? (i := 222) rfl) rfl
theorem tf_RJ2_59 : Cond.fieldLink RJ2 59 "java/lang/StringUTF16" "HI_BYTE_SHIFT" "I" ∈ wsQ := wq_1 (List.mem_of_getElem? (i := 224) rfl) rfl
theorem tf_RJ2_63 : Cond.fieldLink RJ2 63 "java/lang/StringUTF16" "LO_BYTE_SHIFT" "I" ∈ wsQ := wq_1 (List.mem_of_getElem? (i := 226) rfl) rfl
theorem tf_RX7_9 : Cond.fieldLink RX7 9 "HeavenStop$Tokens" "words" "[I" ∈ wsQ := wq_1 (List.mem_of_getElem? (i := 228) rfl) rfl
theorem tf_RX7_31 : Cond.fieldLink RX7 31 "HeavenStop$Tokens" "bytes" "[B" ∈ wsQ := wq_1 (List.mem_of_getElem? (i := 229) rfl) rfl
theorem tf_RX7_15 : Cond.fieldLink RX7 15 "HeavenStop$Tokens" "length" "I" ∈ wsQ := wq_1 (List.mem_of_getElem? (i := 230) rfl) rfl
theorem tf_RX7_19 : Cond.fieldLink RX7 19 "HeavenStop$Tokens" "at" "I" ∈ wsQ := wq_1 (List.mem_of_getElem? (i := 231) rfl) rfl
theorem tf_RX7_22 : Cond.fieldLink RX7 22 "HeavenStop$Tokens" "token" "I" ∈ wsQ := wq_1 (List.mem_of_getElem? (i := 232) rfl) rfl
theorem tf_RX4_53 : Cond.fieldLink RX4 53 "HeavenStop$Tokens" "token" "I" ∈ wsQ := wq_1 (List.mem_of_getElem? (i := 233) rfl) rfl
theorem tf_RX1_37 : Cond.fieldLink RX1 37 "HeavenStop$Tokens" "token" "I" ∈ wsQ := wq_1 (List.mem_of_getElem? (i := 234) rfl) rfl
theorem tf_RX7_25 : Cond.fieldLink RX7 25 "HeavenStop$Tokens" "place" "I" ∈ wsQ := wq_1 (List.mem_of_getElem? (i := 235) rfl) rfl
theorem tf_RX4_60 : Cond.fieldLink RX4 60 "HeavenStop$Tokens" "place" "I" ∈ wsQ := wq_1 (List.mem_of_getElem? (i := 236) rfl) rfl
theorem tf_RX7_28 : Cond.fieldLink RX7 28 "HeavenStop$Tokens" "worth" "I" ∈ wsQ := wq_1 (List.mem_of_getElem? (i := 237) rfl) rfl
theorem tf_RX1_68 : Cond.fieldLink RX1 68 "HeavenStop$Tokens" "worth" "I" ∈ wsQ := wq_1 (List.mem_of_getElem? (i := 238) rfl) rfl
theorem tf_RX4_125 : Cond.fieldLink RX4 125 "HeavenStop$Tokens" "worth" "I" ∈ wsQ := wq_1 (List.mem_of_getElem? (i := 239) rfl) rfl
theorem tk_RX4_37 : Cond.classLink RX4 37 RX1 ∈ wsQ := wq_2 (List.mem_of_getElem? (i := 15) rfl) rfl
theorem tz_RX1 : Cond.instantiable RX1 7 ∈ wsQ := wq_2 (List.mem_of_getElem? (i := 16) rfl) rfl
theorem tm_RX4_39 : Cond.methodLink RX4 39 yX1_init ∈ wsQ := wq_2 (List.mem_of_getElem? (i := 17) rfl) rfl
theorem ti_X1_init : Cond.instanceMethod yX1_init ∈ wsQ := wq_2 (List.mem_of_getElem? (i := 18) rfl) rfl
theorem td_X1_init : Cond.code yX1_init cX1_init 2 none ∈ wsQ := wq_2 (List.mem_of_getElem? (i := 19) rfl) rfl
theorem tm_RX1_3 : Cond.methodLink RX1 3 ⟨"java/lang/Object", "<init>", "()V"⟩ ∈ wsQ := wq_2 (List.mem_of_getElem? (i := 20) rfl) rfl
theorem tf_RX1_33 : Cond.fieldLink RX1 33 "HeavenStop$LawReader" "tokens" "LHeavenStop$Tokens;" ∈ wsQ := wq_2 (List.mem_of_getElem? (i := 21) rfl) rfl
theorem tf_RX1_9 : Cond.fieldLink RX1 9 "HeavenStop$LawReader" "openSigns" "[I" ∈ wsQ := wq_2 (List.mem_of_getElem? (i := 22) rfl) rfl
theorem tf_RX1_15 : Cond.fieldLink RX1 15 "HeavenStop$LawReader" "top" "I" ∈ wsQ := wq_2 (List.mem_of_getElem? (i := 23) rfl) rfl
theorem tf_RX1_19 : Cond.fieldLink RX1 19 "HeavenStop$LawReader" "depth" "I" ∈ wsQ := wq_2 (List.mem_of_getElem? (i := 24) rfl) rfl
theorem tf_RX1_22 : Cond.fieldLink RX1 22 "HeavenStop$LawReader" "hasCompared" "[Z" ∈ wsQ := wq_2 (List.mem_of_getElem? (i := 25) rfl) rfl
theorem tf_RX1_26 : Cond.fieldLink RX1 26 "HeavenStop$LawReader" "wantsValue" "Z" ∈ wsQ := wq_2 (List.mem_of_getElem? (i := 26) rfl) rfl
theorem tf_RX1_30 : Cond.fieldLink RX1 30 "HeavenStop$LawReader" "isAtB" "Z" ∈ wsQ := wq_2 (List.mem_of_getElem? (i := 27) rfl) rfl
theorem ta_boolean : Cond.arrayClass .boolean ∈ wsQ := wq_2 (List.mem_of_getElem? (i := 43) rfl) rfl
theorem tf_RX4_33 : Cond.fieldLink RX4 33 "HeavenStop$Reader" "tokens" "LHeavenStop$Tokens;" ∈ wsQ := wq_2 (List.mem_of_getElem? (i := 44) rfl) rfl
theorem tf_RX4_42 : Cond.fieldLink RX4 42 "HeavenStop$Reader" "laws" "LHeavenStop$LawReader;" ∈ wsQ := wq_2 (List.mem_of_getElem? (i := 45) rfl) rfl
theorem tf_RX4_12 : Cond.fieldLink RX4 12 "HeavenStop$Reader" "told" "LHeavenStop$Told;" ∈ wsQ := wq_2 (List.mem_of_getElem? (i := 46) rfl) rfl
theorem tf_RX4_18 : Cond.fieldLink RX4 18 "HeavenStop$Reader" "toldOnce" "I" ∈ wsQ := wq_2 (List.mem_of_getElem? (i := 47) rfl) rfl
theorem tf_RX4_22 : Cond.fieldLink RX4 22 "HeavenStop$Reader" "fault" "I" ∈ wsQ := wq_2 (List.mem_of_getElem? (i := 48) rfl) rfl
theorem tf_RX9_116 : Cond.fieldLink RX9 116 "HeavenStop$Reader" "fault" "I" ∈ wsQ := wq_2 (List.mem_of_getElem? (i := 49) rfl) rfl
theorem tf_RX4_25 : Cond.fieldLink RX4 25 "HeavenStop$Reader" "place" "I" ∈ wsQ := wq_2 (List.mem_of_getElem? (i := 50) rfl) rfl
theorem tf_RX9_119 : Cond.fieldLink RX9 119 "HeavenStop$Reader" "place" "I" ∈ wsQ := wq_2 (List.mem_of_getElem? (i := 51) rfl) rfl
theorem tk_RX9_28 : Cond.classLink RX9 28 RX8 ∈ wsQ := wq_2 (List.mem_of_getElem? (i := 65) rfl) rfl
theorem tk_RX9_35 : Cond.classLink RX9 35 RX6 ∈ wsQ := wq_2 (List.mem_of_getElem? (i := 67) rfl) rfl
theorem tz_RX6 : Cond.instantiable RX6 10 ∈ wsQ := wq_2 (List.mem_of_getElem? (i := 68) rfl) rfl
theorem ti_X6_init : Cond.instanceMethod yX6_init ∈ wsQ := wq_2 (List.mem_of_getElem? (i := 70) rfl) rfl
theorem td_X6_init : Cond.code yX6_init cX6_init 1 none ∈ wsQ := wq_2 (List.mem_of_getElem? (i := 71) rfl) rfl
theorem tm_RX6_3 : Cond.methodLink RX6 3 ⟨"java/lang/Object", "<init>", "()V"⟩ ∈ wsQ := wq_2 (List.mem_of_getElem? (i := 72) rfl) rfl
theorem tf_RX6_9 : Cond.fieldLink RX6 9 "HeavenStop$Stand" "minute" "I" ∈ wsQ := wq_2 (List.mem_of_getElem? (i := 73) rfl) rfl
theorem tf_RX3_64 : Cond.fieldLink RX3 64 "HeavenStop$Stand" "minute" "I" ∈ wsQ := wq_2 (List.mem_of_getElem? (i := 74) rfl) rfl
theorem tf_RX9_245 : Cond.fieldLink RX9 245 "HeavenStop$Stand" "minute" "I" ∈ wsQ := wq_2 (List.mem_of_getElem? (i := 75) rfl) rfl
theorem tf_RX6_15 : Cond.fieldLink RX6 15 "HeavenStop$Stand" "number" "I" ∈ wsQ := wq_2 (List.mem_of_getElem? (i := 76) rfl) rfl
theorem tf_RX3_166 : Cond.fieldLink RX3 166 "HeavenStop$Stand" "number" "I" ∈ wsQ := wq_2 (List.mem_of_getElem? (i := 77) rfl) rfl
theorem tf_RX9_372 : Cond.fieldLink RX9 372 "HeavenStop$Stand" "number" "I" ∈ wsQ := wq_2 (List.mem_of_getElem? (i := 78) rfl) rfl
theorem tf_RX6_18 : Cond.fieldLink RX6 18 "HeavenStop$Stand" "where" "[I" ∈ wsQ := wq_2 (List.mem_of_getElem? (i := 79) rfl) rfl
theorem tf_RX3_69 : Cond.fieldLink RX3 69 "HeavenStop$Stand" "where" "[I" ∈ wsQ := wq_2 (List.mem_of_getElem? (i := 80) rfl) rfl
theorem tf_RX9_149 : Cond.fieldLink RX9 149 "HeavenStop$Stand" "where" "[I" ∈ wsQ := wq_2 (List.mem_of_getElem? (i := 81) rfl) rfl
theorem tf_RX6_22 : Cond.fieldLink RX6 22 "HeavenStop$Stand" "coins" "[I" ∈ wsQ := wq_2 (List.mem_of_getElem? (i := 82) rfl) rfl
theorem tf_RX0_28 : Cond.fieldLink RX0 28 "HeavenStop$Stand" "coins" "[I" ∈ wsQ := wq_2 (List.mem_of_getElem? (i := 83) rfl) rfl
theorem tf_RX3_119 : Cond.fieldLink RX3 119 "HeavenStop$Stand" "coins" "[I" ∈ wsQ := wq_2 (List.mem_of_getElem? (i := 84) rfl) rfl
theorem tf_RX9_155 : Cond.fieldLink RX9 155 "HeavenStop$Stand" "coins" "[I" ∈ wsQ := wq_2 (List.mem_of_getElem? (i := 85) rfl) rfl
theorem tf_RX6_25 : Cond.fieldLink RX6 25 "HeavenStop$Stand" "wet" "[I" ∈ wsQ := wq_2 (List.mem_of_getElem? (i := 86) rfl) rfl
theorem tf_RX9_156 : Cond.fieldLink RX9 156 "HeavenStop$Stand" "wet" "[I" ∈ wsQ := wq_2 (List.mem_of_getElem? (i := 87) rfl) rfl
theorem tf_RX3_181 : Cond.fieldLink RX3 181 "HeavenStop$Stand" "wet" "[I" ∈ wsQ := wq_2 (List.mem_of_getElem? (i := 88) rfl) rfl
theorem tf_RX6_28 : Cond.fieldLink RX6 28 "HeavenStop$Stand" "passed" "[I" ∈ wsQ := wq_2 (List.mem_of_getElem? (i := 89) rfl) rfl
theorem tf_RX3_131 : Cond.fieldLink RX3 131 "HeavenStop$Stand" "passed" "[I" ∈ wsQ := wq_2 (List.mem_of_getElem? (i := 90) rfl) rfl
theorem tf_RX9_162 : Cond.fieldLink RX9 162 "HeavenStop$Stand" "passed" "[I" ∈ wsQ := wq_2 (List.mem_of_getElem? (i := 91) rfl) rfl
theorem tf_RX6_31 : Cond.fieldLink RX6 31 "HeavenStop$Stand" "goneBy" "[I" ∈ wsQ := wq_2 (List.mem_of_getElem? (i := 92) rfl) rfl
theorem tf_RX3_113 : Cond.fieldLink RX3 113 "HeavenStop$Stand" "goneBy" "[I" ∈ wsQ := wq_2 (List.mem_of_getElem? (i := 93) rfl) rfl
theorem tf_RX9_165 : Cond.fieldLink RX9 165 "HeavenStop$Stand" "goneBy" "[I" ∈ wsQ := wq_2 (List.mem_of_getElem? (i := 94) rfl) rfl
theorem tf_RX6_34 : Cond.fieldLink RX6 34 "HeavenStop$Stand" "goneAt" "[I" ∈ wsQ := wq_2 (List.mem_of_getElem? (i := 95) rfl) rfl
theorem tf_RX3_116 : Cond.fieldLink RX3 116 "HeavenStop$Stand" "goneAt" "[I" ∈ wsQ := wq_2 (List.mem_of_getElem? (i := 96) rfl) rfl
theorem tf_RX9_176 : Cond.fieldLink RX9 176 "HeavenStop$Stand" "goneAt" "[I" ∈ wsQ := wq_2 (List.mem_of_getElem? (i := 97) rfl) rfl
theorem tf_RX6_37 : Cond.fieldLink RX6 37 "HeavenStop$Stand" "row" "[I" ∈ wsQ := wq_2 (List.mem_of_getElem? (i := 98) rfl) rfl
theorem tf_RX3_107 : Cond.fieldLink RX3 107 "HeavenStop$Stand" "row" "[I" ∈ wsQ := wq_2 (List.mem_of_getElem? (i := 99) rfl) rfl
theorem tf_RX9_200 : Cond.fieldLink RX9 200 "HeavenStop$Stand" "row" "[I" ∈ wsQ := wq_2 (List.mem_of_getElem? (i := 100) rfl) rfl
theorem tf_RX6_40 : Cond.fieldLink RX6 40 "HeavenStop$Stand" "waiting" "I" ∈ wsQ := wq_2 (List.mem_of_getElem? (i := 101) rfl) rfl
theorem tf_RX3_81 : Cond.fieldLink RX3 81 "HeavenStop$Stand" "waiting" "I" ∈ wsQ := wq_2 (List.mem_of_getElem? (i := 102) rfl) rfl
theorem tf_RX9_197 : Cond.fieldLink RX9 197 "HeavenStop$Stand" "waiting" "I" ∈ wsQ := wq_2 (List.mem_of_getElem? (i := 103) rfl) rfl
theorem tk_RX9_52 : Cond.classLink RX9 52 RX3 ∈ wsQ := wq_2 (List.mem_of_getElem? (i := 125) rfl) rfl
theorem tz_RX3 : Cond.instantiable RX3 8 ∈ wsQ := wq_2 (List.mem_of_getElem? (i := 126) rfl) rfl
theorem tm_RX9_54 : Cond.methodLink RX9 54 yX3_init ∈ wsQ := wq_2 (List.mem_of_getElem? (i := 127) rfl) rfl
theorem ti_X3_init : Cond.instanceMethod yX3_init ∈ wsQ := wq_2 (List.mem_of_getElem? (i := 128) rfl) rfl
theorem td_X3_init : Cond.code yX3_init cX3_init 3 none ∈ wsQ := wq_2 (List.mem_of_getElem? (i := 129) rfl) rfl
theorem tm_RX3_3 : Cond.methodLink RX3 3 ⟨"java/lang/Object", "<init>", "()V"⟩ ∈ wsQ := wq_2 (List.mem_of_getElem? (i := 130) rfl) rfl
theorem tf_RX3_33 : Cond.fieldLink RX3 33 "HeavenStop$Minutes" "told" "LHeavenStop$Told;" ∈ wsQ := wq_2 (List.mem_of_getElem? (i := 131) rfl) rfl
theorem tf_RX3_37 : Cond.fieldLink RX3 37 "HeavenStop$Minutes" "stand" "LHeavenStop$Stand;" ∈ wsQ := wq_2 (List.mem_of_getElem? (i := 132) rfl) rfl
theorem tf_RX3_9 : Cond.fieldLink RX3 9 "HeavenStop$Minutes" "draws" "Z" ∈ wsQ := wq_2 (List.mem_of_getElem? (i := 133) rfl) rfl
theorem tf_RX9_248 : Cond.fieldLink RX9 248 "HeavenStop$Minutes" "draws" "Z" ∈ wsQ := wq_2 (List.mem_of_getElem? (i := 134) rfl) rfl
theorem tf_RX3_15 : Cond.fieldLink RX3 15 "HeavenStop$Minutes" "otherwise" "I" ∈ wsQ := wq_2 (List.mem_of_getElem? (i := 135) rfl) rfl
theorem tf_RX9_375 : Cond.fieldLink RX9 375 "HeavenStop$Minutes" "otherwise" "I" ∈ wsQ := wq_2 (List.mem_of_getElem? (i := 136) rfl) rfl
theorem tf_RX3_19 : Cond.fieldLink RX3 19 "HeavenStop$Minutes" "otherBus" "I" ∈ wsQ := wq_2 (List.mem_of_getElem? (i := 137) rfl) rfl
theorem tf_RX9_353 : Cond.fieldLink RX9 353 "HeavenStop$Minutes" "otherBus" "I" ∈ wsQ := wq_2 (List.mem_of_getElem? (i := 138) rfl) rfl
theorem tf_RX3_22 : Cond.fieldLink RX3 22 "HeavenStop$Minutes" "otherEvery" "I" ∈ wsQ := wq_2 (List.mem_of_getElem? (i := 139) rfl) rfl
theorem tf_RX9_356 : Cond.fieldLink RX9 356 "HeavenStop$Minutes" "otherEvery" "I" ∈ wsQ := wq_2 (List.mem_of_getElem? (i := 140) rfl) rfl
theorem tf_RX3_25 : Cond.fieldLink RX3 25 "HeavenStop$Minutes" "values" "[J" ∈ wsQ := wq_2 (List.mem_of_getElem? (i := 141) rfl) rfl
theorem tf_RX9_219 : Cond.fieldLink RX9 219 "HeavenStop$Minutes" "values" "[J" ∈ wsQ := wq_2 (List.mem_of_getElem? (i := 142) rfl) rfl
theorem tf_RX3_29 : Cond.fieldLink RX3 29 "HeavenStop$Minutes" "turns" "[I" ∈ wsQ := wq_2 (List.mem_of_getElem? (i := 143) rfl) rfl
theorem tk_RX9_61 : Cond.classLink RX9 61 RX0 ∈ wsQ := wq_2 (List.mem_of_getElem? (i := 161) rfl) rfl
theorem tz_RX0 : Cond.instantiable RX0 4 ∈ wsQ := wq_2 (List.mem_of_getElem? (i := 162) rfl) rfl
theorem ti_X0_init : Cond.instanceMethod yX0_init ∈ wsQ := wq_2 (List.mem_of_getElem? (i := 164) rfl) rfl
theorem td_X0_init : Cond.code yX0_init cX0_init 1 none ∈ wsQ := wq_2 (List.mem_of_getElem? (i := 165) rfl) rfl
theorem tm_RX0_3 : Cond.methodLink RX0 3 ⟨"java/lang/Object", "<init>", "()V"⟩ ∈ wsQ := wq_2 (List.mem_of_getElem? (i := 166) rfl) rfl
theorem tf_RX0_9 : Cond.fieldLink RX0 9 "HeavenStop$Deeds" "kinds" "[I" ∈ wsQ := wq_2 (List.mem_of_getElem? (i := 167) rfl) rfl
theorem tf_RX0_15 : Cond.fieldLink RX0 15 "HeavenStop$Deeds" "souls" "[I" ∈ wsQ := wq_2 (List.mem_of_getElem? (i := 168) rfl) rfl
theorem tf_RX0_18 : Cond.fieldLink RX0 18 "HeavenStop$Deeds" "formers" "[I" ∈ wsQ := wq_2 (List.mem_of_getElem? (i := 169) rfl) rfl
theorem tf_RX0_21 : Cond.fieldLink RX0 21 "HeavenStop$Deeds" "size" "I" ∈ wsQ := wq_2 (List.mem_of_getElem? (i := 170) rfl) rfl
theorem tf_RX9_110 : Cond.fieldLink RX9 110 "HeavenStop$Deeds" "size" "I" ∈ wsQ := wq_2 (List.mem_of_getElem? (i := 171) rfl) rfl
theorem tk_RX9_68 : Cond.classLink RX9 68 RX5 ∈ wsQ := wq_2 (List.mem_of_getElem? (i := 181) rfl) rfl
theorem tz_RX5 : Cond.instantiable RX5 5 ∈ wsQ := wq_2 (List.mem_of_getElem? (i := 182) rfl) rfl
theorem ti_X5_init : Cond.instanceMethod yX5_init ∈ wsQ := wq_2 (List.mem_of_getElem? (i := 184) rfl) rfl
theorem td_X5_init : Cond.code yX5_init cX5_init 1 none ∈ wsQ := wq_2 (List.mem_of_getElem? (i := 185) rfl) rfl
theorem tm_RX5_3 : Cond.methodLink RX5 3 ⟨"java/lang/Object", "<init>", "()V"⟩ ∈ wsQ := wq_2 (List.mem_of_getElem? (i := 186) rfl) rfl
theorem tf_RX5_9 : Cond.fieldLink RX5 9 "HeavenStop$Sightings" "minutes" "[I" ∈ wsQ := wq_2 (List.mem_of_getElem? (i := 187) rfl) rfl
theorem tf_RX5_15 : Cond.fieldLink RX5 15 "HeavenStop$Sightings" "whom" "[I" ∈ wsQ := wq_2 (List.mem_of_getElem? (i := 188) rfl) rfl
theorem tf_RX5_18 : Cond.fieldLink RX5 18 "HeavenStop$Sightings" "kinds" "[I" ∈ wsQ := wq_2 (List.mem_of_getElem? (i := 189) rfl) rfl
theorem tf_RX5_21 : Cond.fieldLink RX5 21 "HeavenStop$Sightings" "size" "I" ∈ wsQ := wq_2 (List.mem_of_getElem? (i := 190) rfl) rfl
theorem tf_RX9_342 : Cond.fieldLink RX9 342 "HeavenStop$Sightings" "size" "I" ∈ wsQ := wq_2 (List.mem_of_getElem? (i := 191) rfl) rfl
theorem tf_RX5_25 : Cond.fieldLink RX5 25 "HeavenStop$Sightings" "knownBy" "I" ∈ wsQ := wq_2 (List.mem_of_getElem? (i := 192) rfl) rfl
theorem tf_RX9_343 : Cond.fieldLink RX9 343 "HeavenStop$Sightings" "knownBy" "I" ∈ wsQ := wq_2 (List.mem_of_getElem? (i := 193) rfl) rfl
theorem tm_RX9_94 : Cond.methodLink RX9 94 yX6_begin ∈ wsQ := wq_2 (List.mem_of_getElem? (i := 205) rfl) rfl
theorem ti_X6_begin : Cond.instanceMethod yX6_begin ∈ wsQ := wq_2 (List.mem_of_getElem? (i := 206) rfl) rfl
theorem tl_X6_begin : Cond.selects RX6 yX6_begin yX6_begin ∈ wsQ := wq_2 (List.mem_of_getElem? (i := 207) rfl) rfl
theorem td_X6_begin : Cond.code yX6_begin cX6_begin 4 none ∈ wsQ := wq_2 (List.mem_of_getElem? (i := 208) rfl) rfl
theorem tf_RX9_11 : Cond.fieldLink RX9 11 "HeavenStop" "tape" "[B" ∈ wsQ := wq_2 (List.mem_of_getElem? (i := 209) rfl) rfl
theorem tf_RX9_15 : Cond.fieldLink RX9 15 "HeavenStop" "fed" "I" ∈ wsQ := wq_2 (List.mem_of_getElem? (i := 210) rfl) rfl
theorem tf_RX9_24 : Cond.fieldLink RX9 24 "HeavenStop" "reader" "LHeavenStop$Reader;" ∈ wsQ := wq_2 (List.mem_of_getElem? (i := 211) rfl) rfl
theorem tf_RX9_31 : Cond.fieldLink RX9 31 "HeavenStop" "told" "LHeavenStop$Told;" ∈ wsQ := wq_2 (List.mem_of_getElem? (i := 212) rfl) rfl
theorem tf_RX9_38 : Cond.fieldLink RX9 38 "HeavenStop" "now" "LHeavenStop$Stand;" ∈ wsQ := wq_2 (List.mem_of_getElem? (i := 213) rfl) rfl
theorem tf_RX9_42 : Cond.fieldLink RX9 42 "HeavenStop" "trial" "LHeavenStop$Stand;" ∈ wsQ := wq_2 (List.mem_of_getElem? (i := 214) rfl) rfl
theorem tf_RX9_45 : Cond.fieldLink RX9 45 "HeavenStop" "image" "LHeavenStop$Stand;" ∈ wsQ := wq_2 (List.mem_of_getElem? (i := 215) rfl) rfl
theorem tf_RX9_48 : Cond.fieldLink RX9 48 "HeavenStop" "hasImage" "Z" ∈ wsQ := wq_2 (List.mem_of_getElem? (i := 216) rfl) rfl
theorem tf_RX9_57 : Cond.fieldLink RX9 57 "HeavenStop" "minutes" "LHeavenStop$Minutes;" ∈ wsQ := wq_2 (List.mem_of_getElem? (i := 217) rfl) rfl
theorem tf_RX9_64 : Cond.fieldLink RX9 64 "HeavenStop" "deeds" "LHeavenStop$Deeds;" ∈ wsQ := wq_2 (List.mem_of_getElem? (i := 218) rfl) rfl
theorem tf_RX9_71 : Cond.fieldLink RX9 71 "HeavenStop" "sightings" "LHeavenStop$Sightings;" ∈ wsQ := wq_2 (List.mem_of_getElem? (i := 219) rfl) rfl
theorem tf_RX9_75 : Cond.fieldLink RX9 75 "HeavenStop" "firstOnes" "[I" ∈ wsQ := wq_2 (List.mem_of_getElem? (i := 220) rfl) rfl
theorem tf_RX9_79 : Cond.fieldLink RX9 79 "HeavenStop" "picks" "[I" ∈ wsQ := wq_2 (List.mem_of_getElem? (i := 221) rfl) rfl
theorem tf_RX9_82 : Cond.fieldLink RX9 82 "HeavenStop" "bestPicks" "[I" ∈ wsQ := wq_2 (List.mem_of_getElem? (i := 222) rfl) rfl
theorem tf_RX9_85 : Cond.fieldLink RX9 85 "HeavenStop" "mayOf" "[I" ∈ wsQ := wq_2 (List.mem_of_getElem? (i := 223) rfl) rfl
theorem tm_RL_21 : Cond.methodLink RL 21 yX9_feed ∈ wsQ := wq_3 (List.mem_of_getElem? (i := 15) rfl) rfl
theorem ti_X9_feed : Cond.instanceMethod yX9_feed ∈ wsQ := wq_3 (List.mem_of_getElem? (i := 16) rfl) rfl
theorem tl_X9_feed : Cond.selects RX9 yX9_feed yX9_feed ∈ wsQ := wq_3 (List.mem_of_getElem? (i := 17) rfl) rfl
theorem td_X9_feed : Cond.code yX9_feed cX9_feed 6 (some .int) ∈ wsQ := wq_3 (List.mem_of_getElem? (i := 18) rfl) rfl
theorem tm_RX9_98 : Cond.methodLink RX9 98 yX9_putNumber ∈ wsQ := wq_3 (List.mem_of_getElem? (i := 19) rfl) rfl
theorem ti_X9_putNumber : Cond.instanceMethod yX9_putNumber ∈ wsQ := wq_3 (List.mem_of_getElem? (i := 21) rfl) rfl
theorem td_X9_putNumber : Cond.code yX9_putNumber cX9_putNumber 3 none ∈ wsQ := wq_3 (List.mem_of_getElem? (i := 22) rfl) rfl
theorem tm_RL_26 : Cond.methodLink RL 26 yX9_text ∈ wsQ := wq_3 (List.mem_of_getElem? (i := 23) rfl) rfl
theorem ti_X9_text : Cond.instanceMethod yX9_text ∈ wsQ := wq_3 (List.mem_of_getElem? (i := 24) rfl) rfl
theorem tl_X9_text : Cond.selects RX9 yX9_text yX9_text ∈ wsQ := wq_3 (List.mem_of_getElem? (i := 25) rfl) rfl
theorem td_X9_text : Cond.code yX9_text cX9_text 3 (some .int) ∈ wsQ := wq_3 (List.mem_of_getElem? (i := 26) rfl) rfl
theorem tm_RX9_102 : Cond.methodLink RX9 102 yX4_read ∈ wsQ := wq_3 (List.mem_of_getElem? (i := 27) rfl) rfl
theorem ti_X4_read : Cond.instanceMethod yX4_read ∈ wsQ := wq_3 (List.mem_of_getElem? (i := 28) rfl) rfl
theorem tl_X4_read : Cond.selects RX4 yX4_read yX4_read ∈ wsQ := wq_3 (List.mem_of_getElem? (i := 29) rfl) rfl
theorem td_X4_read : Cond.code yX4_read cX4_read 3 (some .int) ∈ wsQ := wq_3 (List.mem_of_getElem? (i := 30) rfl) rfl
theorem tm_RX4_46 : Cond.methodLink RX4 46 yX8_clear ∈ wsQ := wq_3 (List.mem_of_getElem? (i := 31) rfl) rfl
theorem ti_X8_clear : Cond.instanceMethod yX8_clear ∈ wsQ := wq_3 (List.mem_of_getElem? (i := 32) rfl) rfl
theorem tl_X8_clear : Cond.selects RX8 yX8_clear yX8_clear ∈ wsQ := wq_3 (List.mem_of_getElem? (i := 33) rfl) rfl
theorem td_X8_clear : Cond.code yX8_clear cX8_clear 2 none ∈ wsQ := wq_3 (List.mem_of_getElem? (i := 34) rfl) rfl
theorem tm_RX8_68 : Cond.methodLink RX8 68 yX2_clear ∈ wsQ := wq_3 (List.mem_of_getElem? (i := 35) rfl) rfl
theorem ti_X2_clear : Cond.instanceMethod yX2_clear ∈ wsQ := wq_3 (List.mem_of_getElem? (i := 36) rfl) rfl
theorem tl_X2_clear : Cond.selects RX2 yX2_clear yX2_clear ∈ wsQ := wq_3 (List.mem_of_getElem? (i := 37) rfl) rfl
theorem td_X2_clear : Cond.code yX2_clear cX2_clear 2 none ∈ wsQ := wq_3 (List.mem_of_getElem? (i := 38) rfl) rfl
theorem tm_RX4_49 : Cond.methodLink RX4 49 yX7_start ∈ wsQ := wq_3 (List.mem_of_getElem? (i := 39) rfl) rfl
theorem ti_X7_start : Cond.instanceMethod yX7_start ∈ wsQ := wq_3 (List.mem_of_getElem? (i := 40) rfl) rfl
theorem tl_X7_start : Cond.selects RX7 yX7_start yX7_start ∈ wsQ := wq_3 (List.mem_of_getElem? (i := 41) rfl) rfl
theorem td_X7_start : Cond.code yX7_start cX7_start 2 none ∈ wsQ := wq_3 (List.mem_of_getElem? (i := 42) rfl) rfl
theorem tm_RX7_46 : Cond.methodLink RX7 46 yJ9_min_7cf53 ∈ wsQ := wq_3 (List.mem_of_getElem? (i := 43) rfl) rfl
theorem ts_J9_min_7cf53 : Cond.static yJ9_min_7cf53 ∈ wsQ := wq_3 (List.mem_of_getElem? (i := 44) rfl) rfl
theorem td_J9_min_7cf53 : Cond.code yJ9_min_7cf53 cJ9_min_7cf53 2 (some .int) ∈ wsQ := wq_3 (List.mem_of_getElem? (i := 45) rfl) rfl
theorem tm_RX7_52 : Cond.methodLink RX7 52 yX7_advance ∈ wsQ := wq_3 (List.mem_of_getElem? (i := 46) rfl) rfl
theorem ti_X7_advance : Cond.instanceMethod yX7_advance ∈ wsQ := wq_3 (List.mem_of_getElem? (i := 47) rfl) rfl
theorem tl_X7_advance : Cond.selects RX7 yX7_advance yX7_advance ∈ wsQ := wq_3 (List.mem_of_getElem? (i := 48) rfl) rfl
theorem td_X7_advance : Cond.code yX7_advance cX7_advance 1 none ∈ wsQ := wq_3 (List.mem_of_getElem? (i := 49) rfl) rfl
theorem tm_RX7_55 : Cond.methodLink RX7 55 yX7_readWord ∈ wsQ := wq_3 (List.mem_of_getElem? (i := 50) rfl) rfl
theorem ti_X7_readWord : Cond.instanceMethod yX7_readWord ∈ wsQ := wq_3 (List.mem_of_getElem? (i := 52) rfl) rfl
theorem td_X7_readWord : Cond.code yX7_readWord cX7_readWord 3 none ∈ wsQ := wq_3 (List.mem_of_getElem? (i := 53) rfl) rfl
theorem ts_X9_find : Cond.static yX9_find ∈ wsQ := wq_3 (List.mem_of_getElem? (i := 55) rfl) rfl
theorem td_X9_find : Cond.code yX9_find cX9_find 4 (some .int) ∈ wsQ := wq_3 (List.mem_of_getElem? (i := 56) rfl) rfl
theorem tm_RX7_58 : Cond.methodLink RX7 58 yX7_readNumber ∈ wsQ := wq_3 (List.mem_of_getElem? (i := 57) rfl) rfl
theorem ti_X7_readNumber : Cond.instanceMethod yX7_readNumber ∈ wsQ := wq_3 (List.mem_of_getElem? (i := 59) rfl) rfl
theorem td_X7_readNumber : Cond.code yX7_readNumber cX7_readNumber 1 none ∈ wsQ := wq_3 (List.mem_of_getElem? (i := 60) rfl) rfl
theorem tc_RX7_68 : Cond.constant RX7 68 (1000000) ∈ wsQ := wq_3 (List.mem_of_getElem? (i := 61) rfl) rfl
theorem tm_RX7_61 : Cond.methodLink RX7 61 yX7_readSign ∈ wsQ := wq_3 (List.mem_of_getElem? (i := 62) rfl) rfl
theorem ti_X7_readSign : Cond.instanceMethod yX7_readSign ∈ wsQ := wq_3 (List.mem_of_getElem? (i := 64) rfl) rfl
theorem td_X7_readSign : Cond.code yX7_readSign cX7_readSign 3 none ∈ wsQ := wq_3 (List.mem_of_getElem? (i := 65) rfl) rfl
theorem tm_RX4_56 : Cond.methodLink RX4 56 yX4_readLine ∈ wsQ := wq_3 (List.mem_of_getElem? (i := 66) rfl) rfl
theorem ti_X4_readLine : Cond.instanceMethod yX4_readLine ∈ wsQ := wq_3 (List.mem_of_getElem? (i := 68) rfl) rfl
theorem td_X4_readLine : Cond.code yX4_readLine cX4_readLine 2 (some .boolean) ∈ wsQ := wq_3 (List.mem_of_getElem? (i := 69) rfl) rfl
theorem tm_RX4_61 : Cond.methodLink RX4 61 yX4_readSoul ∈ wsQ := wq_3 (List.mem_of_getElem? (i := 70) rfl) rfl
theorem ti_X4_readSoul : Cond.instanceMethod yX4_readSoul ∈ wsQ := wq_3 (List.mem_of_getElem? (i := 72) rfl) rfl
theorem td_X4_readSoul : Cond.code yX4_readSoul cX4_readSoul 2 (some .boolean) ∈ wsQ := wq_3 (List.mem_of_getElem? (i := 73) rfl) rfl
theorem tm_RX4_77 : Cond.methodLink RX4 77 yX4_refuse ∈ wsQ := wq_3 (List.mem_of_getElem? (i := 74) rfl) rfl
theorem ti_X4_refuse : Cond.instanceMethod yX4_refuse ∈ wsQ := wq_3 (List.mem_of_getElem? (i := 76) rfl) rfl
theorem td_X4_refuse : Cond.code yX4_refuse cX4_refuse 2 (some .boolean) ∈ wsQ := wq_3 (List.mem_of_getElem? (i := 77) rfl) rfl
theorem tm_RX4_80 : Cond.methodLink RX4 80 yX7_advance ∈ wsQ := wq_3 (List.mem_of_getElem? (i := 78) rfl) rfl
theorem tm_RX4_90 : Cond.methodLink RX4 90 yX4_readNewName ∈ wsQ := wq_3 (List.mem_of_getElem? (i := 79) rfl) rfl
theorem ti_X4_readNewName : Cond.instanceMethod yX4_readNewName ∈ wsQ := wq_3 (List.mem_of_getElem? (i := 81) rfl) rfl
theorem td_X4_readNewName : Cond.code yX4_readNewName cX4_readNewName 3 (some .boolean) ∈ wsQ := wq_3 (List.mem_of_getElem? (i := 82) rfl) rfl
theorem tm_RX4_97 : Cond.methodLink RX4 97 yX4_readNumber ∈ wsQ := wq_3 (List.mem_of_getElem? (i := 84) rfl) rfl
theorem ti_X4_readNumber : Cond.instanceMethod yX4_readNumber ∈ wsQ := wq_3 (List.mem_of_getElem? (i := 86) rfl) rfl
theorem td_X4_readNumber : Cond.code yX4_readNumber cX4_readNumber 5 (some .boolean) ∈ wsQ := wq_3 (List.mem_of_getElem? (i := 87) rfl) rfl
theorem tm_RX4_64 : Cond.methodLink RX4 64 yX4_readBus ∈ wsQ := wq_3 (List.mem_of_getElem? (i := 88) rfl) rfl
theorem ti_X4_readBus : Cond.instanceMethod yX4_readBus ∈ wsQ := wq_3 (List.mem_of_getElem? (i := 90) rfl) rfl
theorem td_X4_readBus : Cond.code yX4_readBus cX4_readBus 2 (some .boolean) ∈ wsQ := wq_3 (List.mem_of_getElem? (i := 91) rfl) rfl
theorem tm_RX4_67 : Cond.methodLink RX4 67 yX4_readLets ∈ wsQ := wq_3 (List.mem_of_getElem? (i := 92) rfl) rfl
theorem ti_X4_readLets : Cond.instanceMethod yX4_readLets ∈ wsQ := wq_3 (List.mem_of_getElem? (i := 94) rfl) rfl
theorem td_X4_readLets : Cond.code yX4_readLets cX4_readLets 3 (some .boolean) ∈ wsQ := wq_3 (List.mem_of_getElem? (i := 95) rfl) rfl
theorem tm_RX4_70 : Cond.methodLink RX4 70 yX4_readOnce ∈ wsQ := wq_3 (List.mem_of_getElem? (i := 96) rfl) rfl
theorem ti_X4_readOnce : Cond.instanceMethod yX4_readOnce ∈ wsQ := wq_3 (List.mem_of_getElem? (i := 98) rfl) rfl
theorem td_X4_readOnce : Cond.code yX4_readOnce cX4_readOnce 3 (some .boolean) ∈ wsQ := wq_3 (List.mem_of_getElem? (i := 99) rfl) rfl
theorem tc_RX4_138 : Cond.constant RX4 138 (99999) ∈ wsQ := wq_3 (List.mem_of_getElem? (i := 100) rfl) rfl
theorem tm_RX4_74 : Cond.methodLink RX4 74 yX4_readLaw ∈ wsQ := wq_3 (List.mem_of_getElem? (i := 101) rfl) rfl
theorem ti_X4_readLaw : Cond.instanceMethod yX4_readLaw ∈ wsQ := wq_3 (List.mem_of_getElem? (i := 103) rfl) rfl
theorem td_X4_readLaw : Cond.code yX4_readLaw cX4_readLaw 3 (some .boolean) ∈ wsQ := wq_3 (List.mem_of_getElem? (i := 104) rfl) rfl
theorem tm_RX4_151 : Cond.methodLink RX4 151 yX2_isTold ∈ wsQ := wq_3 (List.mem_of_getElem? (i := 105) rfl) rfl
theorem ti_X2_isTold : Cond.instanceMethod yX2_isTold ∈ wsQ := wq_3 (List.mem_of_getElem? (i := 106) rfl) rfl
theorem tl_X2_isTold : Cond.selects RX2 yX2_isTold yX2_isTold ∈ wsQ := wq_3 (List.mem_of_getElem? (i := 107) rfl) rfl
theorem td_X2_isTold : Cond.code yX2_isTold cX2_isTold 2 (some .boolean) ∈ wsQ := wq_3 (List.mem_of_getElem? (i := 108) rfl) rfl
theorem tm_RX4_156 : Cond.methodLink RX4 156 yX2_start ∈ wsQ := wq_3 (List.mem_of_getElem? (i := 109) rfl) rfl
theorem ti_X2_start : Cond.instanceMethod yX2_start ∈ wsQ := wq_3 (List.mem_of_getElem? (i := 110) rfl) rfl
theorem tl_X2_start : Cond.selects RX2 yX2_start yX2_start ∈ wsQ := wq_3 (List.mem_of_getElem? (i := 111) rfl) rfl
theorem td_X2_start : Cond.code yX2_start cX2_start 2 none ∈ wsQ := wq_3 (List.mem_of_getElem? (i := 112) rfl) rfl
theorem tm_RX4_157 : Cond.methodLink RX4 157 yX1_read ∈ wsQ := wq_3 (List.mem_of_getElem? (i := 113) rfl) rfl
theorem ti_X1_read : Cond.instanceMethod yX1_read ∈ wsQ := wq_3 (List.mem_of_getElem? (i := 114) rfl) rfl
theorem tl_X1_read : Cond.selects RX1 yX1_read yX1_read ∈ wsQ := wq_3 (List.mem_of_getElem? (i := 115) rfl) rfl
theorem td_X1_read : Cond.code yX1_read cX1_read 4 (some .int) ∈ wsQ := wq_3 (List.mem_of_getElem? (i := 116) rfl) rfl
theorem tm_RX1_42 : Cond.methodLink RX1 42 yX1_putSigns ∈ wsQ := wq_3 (List.mem_of_getElem? (i := 117) rfl) rfl
theorem ti_X1_putSigns : Cond.instanceMethod yX1_putSigns ∈ wsQ := wq_3 (List.mem_of_getElem? (i := 119) rfl) rfl
theorem td_X1_putSigns : Cond.code yX1_putSigns cX1_putSigns 3 none ∈ wsQ := wq_3 (List.mem_of_getElem? (i := 120) rfl) rfl
theorem tm_RX1_77 : Cond.methodLink RX1 77 yX1_levelOf ∈ wsQ := wq_3 (List.mem_of_getElem? (i := 121) rfl) rfl
theorem ts_X1_levelOf : Cond.static yX1_levelOf ∈ wsQ := wq_3 (List.mem_of_getElem? (i := 122) rfl) rfl
theorem td_X1_levelOf : Cond.code yX1_levelOf cX1_levelOf 1 (some .int) ∈ wsQ := wq_3 (List.mem_of_getElem? (i := 123) rfl) rfl
theorem tm_RX1_71 : Cond.methodLink RX1 71 yX2_put ∈ wsQ := wq_3 (List.mem_of_getElem? (i := 124) rfl) rfl
theorem ti_X2_put : Cond.instanceMethod yX2_put ∈ wsQ := wq_3 (List.mem_of_getElem? (i := 125) rfl) rfl
theorem tl_X2_put : Cond.selects RX2 yX2_put yX2_put ∈ wsQ := wq_3 (List.mem_of_getElem? (i := 126) rfl) rfl
theorem td_X2_put : Cond.code yX2_put cX2_put 3 none ∈ wsQ := wq_3 (List.mem_of_getElem? (i := 127) rfl) rfl
theorem tm_RX1_46 : Cond.methodLink RX1 46 yX1_takeValue ∈ wsQ := wq_3 (List.mem_of_getElem? (i := 128) rfl) rfl
theorem ti_X1_takeValue : Cond.instanceMethod yX1_takeValue ∈ wsQ := wq_3 (List.mem_of_getElem? (i := 130) rfl) rfl
theorem td_X1_takeValue : Cond.code yX1_takeValue cX1_takeValue 3 (some .int) ∈ wsQ := wq_3 (List.mem_of_getElem? (i := 131) rfl) rfl
theorem tm_RX1_56 : Cond.methodLink RX1 56 yX1_takeOpen ∈ wsQ := wq_3 (List.mem_of_getElem? (i := 132) rfl) rfl
theorem ti_X1_takeOpen : Cond.instanceMethod yX1_takeOpen ∈ wsQ := wq_3 (List.mem_of_getElem? (i := 134) rfl) rfl
theorem td_X1_takeOpen : Cond.code yX1_takeOpen cX1_takeOpen 1 (some .int) ∈ wsQ := wq_3 (List.mem_of_getElem? (i := 135) rfl) rfl
theorem tm_RX1_64 : Cond.methodLink RX1 64 yX1_push ∈ wsQ := wq_3 (List.mem_of_getElem? (i := 136) rfl) rfl
theorem ti_X1_push : Cond.instanceMethod yX1_push ∈ wsQ := wq_3 (List.mem_of_getElem? (i := 138) rfl) rfl
theorem td_X1_push : Cond.code yX1_push cX1_push 2 (some .int) ∈ wsQ := wq_3 (List.mem_of_getElem? (i := 139) rfl) rfl
theorem tm_RX1_60 : Cond.methodLink RX1 60 yX1_takeKnot ∈ wsQ := wq_3 (List.mem_of_getElem? (i := 140) rfl) rfl
theorem ts_X1_takeKnot : Cond.static yX1_takeKnot ∈ wsQ := wq_3 (List.mem_of_getElem? (i := 141) rfl) rfl
theorem td_X1_takeKnot : Cond.code yX1_takeKnot cX1_takeKnot 1 (some .boolean) ∈ wsQ := wq_3 (List.mem_of_getElem? (i := 142) rfl) rfl
theorem tm_RX1_50 : Cond.methodLink RX1 50 yX1_takeSign ∈ wsQ := wq_3 (List.mem_of_getElem? (i := 143) rfl) rfl
theorem ti_X1_takeSign : Cond.instanceMethod yX1_takeSign ∈ wsQ := wq_3 (List.mem_of_getElem? (i := 145) rfl) rfl
theorem td_X1_takeSign : Cond.code yX1_takeSign cX1_takeSign 5 (some .int) ∈ wsQ := wq_3 (List.mem_of_getElem? (i := 146) rfl) rfl
theorem tm_RX1_53 : Cond.methodLink RX1 53 yX7_advance ∈ wsQ := wq_3 (List.mem_of_getElem? (i := 147) rfl) rfl
theorem tm_RX4_161 : Cond.methodLink RX4 161 yX2_end ∈ wsQ := wq_3 (List.mem_of_getElem? (i := 148) rfl) rfl
theorem ti_X2_end : Cond.instanceMethod yX2_end ∈ wsQ := wq_3 (List.mem_of_getElem? (i := 149) rfl) rfl
theorem tl_X2_end : Cond.selects RX2 yX2_end yX2_end ∈ wsQ := wq_3 (List.mem_of_getElem? (i := 150) rfl) rfl
theorem td_X2_end : Cond.code yX2_end cX2_end 2 none ∈ wsQ := wq_3 (List.mem_of_getElem? (i := 151) rfl) rfl
theorem tm_RX9_106 : Cond.methodLink RX9 106 yX4_exchange ∈ wsQ := wq_3 (List.mem_of_getElem? (i := 152) rfl) rfl
theorem ti_X4_exchange : Cond.instanceMethod yX4_exchange ∈ wsQ := wq_3 (List.mem_of_getElem? (i := 153) rfl) rfl
theorem tl_X4_exchange : Cond.selects RX4 yX4_exchange yX4_exchange ∈ wsQ := wq_3 (List.mem_of_getElem? (i := 154) rfl) rfl
theorem td_X4_exchange : Cond.code yX4_exchange cX4_exchange 3 (some (.object "HeavenStop$Told")) ∈ wsQ := wq_3 (List.mem_of_getElem? (i := 155) rfl) rfl
theorem tm_RX9_113 : Cond.methodLink RX9 113 yX5_clear ∈ wsQ := wq_3 (List.mem_of_getElem? (i := 156) rfl) rfl
theorem ti_X5_clear : Cond.instanceMethod yX5_clear ∈ wsQ := wq_3 (List.mem_of_getElem? (i := 157) rfl) rfl
theorem tl_X5_clear : Cond.selects RX5 yX5_clear yX5_clear ∈ wsQ := wq_3 (List.mem_of_getElem? (i := 158) rfl) rfl
theorem td_X5_clear : Cond.code yX5_clear cX5_clear 1 none ∈ wsQ := wq_3 (List.mem_of_getElem? (i := 159) rfl) rfl
theorem tm_RL_31 : Cond.methodLink RL 31 yX9_fault ∈ wsQ := wq_3 (List.mem_of_getElem? (i := 160) rfl) rfl
theorem ti_X9_fault : Cond.instanceMethod yX9_fault ∈ wsQ := wq_3 (List.mem_of_getElem? (i := 161) rfl) rfl
theorem tl_X9_fault : Cond.selects RX9 yX9_fault yX9_fault ∈ wsQ := wq_3 (List.mem_of_getElem? (i := 162) rfl) rfl
theorem td_X9_fault : Cond.code yX9_fault cX9_fault 2 (some .int) ∈ wsQ := wq_3 (List.mem_of_getElem? (i := 163) rfl) rfl
theorem tm_RL_35 : Cond.methodLink RL 35 yX9_named ∈ wsQ := wq_3 (List.mem_of_getElem? (i := 164) rfl) rfl
theorem ti_X9_named : Cond.instanceMethod yX9_named ∈ wsQ := wq_3 (List.mem_of_getElem? (i := 165) rfl) rfl
theorem tl_X9_named : Cond.selects RX9 yX9_named yX9_named ∈ wsQ := wq_3 (List.mem_of_getElem? (i := 166) rfl) rfl
theorem td_X9_named : Cond.code yX9_named cX9_named 3 (some .int) ∈ wsQ := wq_3 (List.mem_of_getElem? (i := 167) rfl) rfl
theorem tm_RX9_128 : Cond.methodLink RX9 128 yX9_find ∈ wsQ := wq_3 (List.mem_of_getElem? (i := 168) rfl) rfl
theorem tm_RL_49 : Cond.methodLink RL 49 yX9_bus ∈ wsQ := wq_3 (List.mem_of_getElem? (i := 169) rfl) rfl
theorem ti_X9_bus : Cond.instanceMethod yX9_bus ∈ wsQ := wq_3 (List.mem_of_getElem? (i := 170) rfl) rfl
theorem tl_X9_bus : Cond.selects RX9 yX9_bus yX9_bus ∈ wsQ := wq_3 (List.mem_of_getElem? (i := 171) rfl) rfl
theorem td_X9_bus : Cond.code yX9_bus cX9_bus 3 (some .int) ∈ wsQ := wq_3 (List.mem_of_getElem? (i := 172) rfl) rfl
theorem tm_RX9_179 : Cond.methodLink RX9 179 yX9_isBus ∈ wsQ := wq_3 (List.mem_of_getElem? (i := 173) rfl) rfl
theorem ti_X9_isBus : Cond.instanceMethod yX9_isBus ∈ wsQ := wq_3 (List.mem_of_getElem? (i := 175) rfl) rfl
theorem td_X9_isBus : Cond.code yX9_isBus cX9_isBus 2 (some .boolean) ∈ wsQ := wq_3 (List.mem_of_getElem? (i := 176) rfl) rfl
theorem tm_RX9_194 : Cond.methodLink RX9 194 yX9_goneByBus ∈ wsQ := wq_3 (List.mem_of_getElem? (i := 177) rfl) rfl
theorem ti_X9_goneByBus : Cond.instanceMethod yX9_goneByBus ∈ wsQ := wq_3 (List.mem_of_getElem? (i := 179) rfl) rfl
theorem td_X9_goneByBus : Cond.code yX9_goneByBus cX9_goneByBus 4 (some .int) ∈ wsQ := wq_3 (List.mem_of_getElem? (i := 180) rfl) rfl
theorem tm_RL_53 : Cond.methodLink RL 53 yX9_queue ∈ wsQ := wq_3 (List.mem_of_getElem? (i := 181) rfl) rfl
theorem ti_X9_queue : Cond.instanceMethod yX9_queue ∈ wsQ := wq_3 (List.mem_of_getElem? (i := 182) rfl) rfl
theorem tl_X9_queue : Cond.selects RX9 yX9_queue yX9_queue ∈ wsQ := wq_3 (List.mem_of_getElem? (i := 183) rfl) rfl
theorem td_X9_queue : Cond.code yX9_queue cX9_queue 2 (some .int) ∈ wsQ := wq_3 (List.mem_of_getElem? (i := 184) rfl) rfl
theorem tm_RL_57 : Cond.methodLink RL 57 yX9_lets ∈ wsQ := wq_3 (List.mem_of_getElem? (i := 185) rfl) rfl
theorem ti_X9_lets : Cond.instanceMethod yX9_lets ∈ wsQ := wq_3 (List.mem_of_getElem? (i := 186) rfl) rfl
theorem tl_X9_lets : Cond.selects RX9 yX9_lets yX9_lets ∈ wsQ := wq_3 (List.mem_of_getElem? (i := 187) rfl) rfl
theorem td_X9_lets : Cond.code yX9_lets cX9_lets 2 (some .int) ∈ wsQ := wq_3 (List.mem_of_getElem? (i := 188) rfl) rfl
theorem tm_RX9_138 : Cond.methodLink RX9 138 yX9_isSoul ∈ wsQ := wq_3 (List.mem_of_getElem? (i := 189) rfl) rfl
theorem ti_X9_isSoul : Cond.instanceMethod yX9_isSoul ∈ wsQ := wq_3 (List.mem_of_getElem? (i := 191) rfl) rfl
theorem td_X9_isSoul : Cond.code yX9_isSoul cX9_isSoul 2 (some .boolean) ∈ wsQ := wq_3 (List.mem_of_getElem? (i := 192) rfl) rfl
theorem tm_RL_61 : Cond.methodLink RL 61 yX9_law ∈ wsQ := wq_3 (List.mem_of_getElem? (i := 193) rfl) rfl
theorem ti_X9_law : Cond.instanceMethod yX9_law ∈ wsQ := wq_3 (List.mem_of_getElem? (i := 194) rfl) rfl
theorem tl_X9_law : Cond.selects RX9 yX9_law yX9_law ∈ wsQ := wq_3 (List.mem_of_getElem? (i := 195) rfl) rfl
theorem td_X9_law : Cond.code yX9_law cX9_law 5 (some .long) ∈ wsQ := wq_3 (List.mem_of_getElem? (i := 196) rfl) rfl
theorem tc_RX9_206 : Cond.constantLong RX9 206 (-9223372036854775808) ∈ wsQ := wq_3 (List.mem_of_getElem? (i := 197) rfl) rfl
theorem tm_RX9_159 : Cond.methodLink RX9 159 yX6_placeOf ∈ wsQ := wq_3 (List.mem_of_getElem? (i := 198) rfl) rfl
theorem ti_X6_placeOf : Cond.instanceMethod yX6_placeOf ∈ wsQ := wq_3 (List.mem_of_getElem? (i := 199) rfl) rfl
theorem tl_X6_placeOf : Cond.selects RX6 yX6_placeOf yX6_placeOf ∈ wsQ := wq_3 (List.mem_of_getElem? (i := 200) rfl) rfl
theorem td_X6_placeOf : Cond.code yX6_placeOf cX6_placeOf 3 (some .int) ∈ wsQ := wq_3 (List.mem_of_getElem? (i := 201) rfl) rfl
theorem tm_RX9_208 : Cond.methodLink RX9 208 yX3_ready ∈ wsQ := wq_3 (List.mem_of_getElem? (i := 202) rfl) rfl
theorem ti_X3_ready : Cond.instanceMethod yX3_ready ∈ wsQ := wq_3 (List.mem_of_getElem? (i := 203) rfl) rfl
theorem tl_X3_ready : Cond.selects RX3 yX3_ready yX3_ready ∈ wsQ := wq_3 (List.mem_of_getElem? (i := 204) rfl) rfl
theorem td_X3_ready : Cond.code yX3_ready cX3_ready 3 none ∈ wsQ := wq_3 (List.mem_of_getElem? (i := 205) rfl) rfl
theorem tm_RX9_211 : Cond.methodLink RX9 211 yX3_look ∈ wsQ := wq_3 (List.mem_of_getElem? (i := 206) rfl) rfl
theorem ti_X3_look : Cond.instanceMethod yX3_look ∈ wsQ := wq_3 (List.mem_of_getElem? (i := 207) rfl) rfl
theorem tl_X3_look : Cond.selects RX3 yX3_look yX3_look ∈ wsQ := wq_3 (List.mem_of_getElem? (i := 208) rfl) rfl
theorem td_X3_look : Cond.code yX3_look cX3_look 4 none ∈ wsQ := wq_3 (List.mem_of_getElem? (i := 209) rfl) rfl
theorem tm_RX9_223 : Cond.methodLink RX9 223 yX2_worth ∈ wsQ := wq_3 (List.mem_of_getElem? (i := 210) rfl) rfl
theorem ti_X2_worth : Cond.instanceMethod yX2_worth ∈ wsQ := wq_3 (List.mem_of_getElem? (i := 211) rfl) rfl
theorem tl_X2_worth : Cond.selects RX2 yX2_worth yX2_worth ∈ wsQ := wq_3 (List.mem_of_getElem? (i := 212) rfl) rfl
theorem td_X2_worth : Cond.code yX2_worth cX2_worth 6 (some .long) ∈ wsQ := wq_3 (List.mem_of_getElem? (i := 213) rfl) rfl
theorem tm_RX2_35 : Cond.methodLink RX2 35 yX2_isTold ∈ wsQ := wq_3 (List.mem_of_getElem? (i := 214) rfl) rfl
theorem tc_RX2_39 : Cond.constantLong RX2 39 (-9223372036854775808) ∈ wsQ := wq_3 (List.mem_of_getElem? (i := 215) rfl) rfl
theorem tm_RX2_41 : Cond.methodLink RX2 41 yX2_joined ∈ wsQ := wq_3 (List.mem_of_getElem? (i := 216) rfl) rfl
theorem ts_X2_joined : Cond.static yX2_joined ∈ wsQ := wq_3 (List.mem_of_getElem? (i := 217) rfl) rfl
theorem td_X2_joined : Cond.code yX2_joined cX2_joined 9 (some .long) ∈ wsQ := wq_3 (List.mem_of_getElem? (i := 218) rfl) rfl
theorem tc_RX2_45 : Cond.constantLong RX2 45 (1000000000000) ∈ wsQ := wq_3 (List.mem_of_getElem? (i := 219) rfl) rfl
theorem tc_RX2_47 : Cond.constantLong RX2 47 (-1000000000000) ∈ wsQ := wq_3 (List.mem_of_getElem? (i := 220) rfl) rfl
theorem tm_RL_66 : Cond.methodLink RL 66 yX9_move ∈ wsQ := wq_3 (List.mem_of_getElem? (i := 221) rfl) rfl
theorem ti_X9_move : Cond.instanceMethod yX9_move ∈ wsQ := wq_3 (List.mem_of_getElem? (i := 222) rfl) rfl
theorem tl_X9_move : Cond.selects RX9 yX9_move yX9_move ∈ wsQ := wq_3 (List.mem_of_getElem? (i := 223) rfl) rfl
theorem td_X9_move : Cond.code yX9_move cX9_move 4 (some .boolean) ∈ wsQ := wq_3 (List.mem_of_getElem? (i := 224) rfl) rfl
theorem tm_RX9_229 : Cond.methodLink RX9 229 yX6_takeOut ∈ wsQ := wq_3 (List.mem_of_getElem? (i := 225) rfl) rfl
theorem ti_X6_takeOut : Cond.instanceMethod yX6_takeOut ∈ wsQ := wq_3 (List.mem_of_getElem? (i := 226) rfl) rfl
theorem tl_X6_takeOut : Cond.selects RX6 yX6_takeOut yX6_takeOut ∈ wsQ := wq_3 (List.mem_of_getElem? (i := 227) rfl) rfl
theorem td_X6_takeOut : Cond.code yX6_takeOut cX6_takeOut 3 none ∈ wsQ := wq_3 (List.mem_of_getElem? (i := 228) rfl) rfl
theorem tm_RX9_232 : Cond.methodLink RX9 232 yX6_putIn ∈ wsQ := wq_3 (List.mem_of_getElem? (i := 229) rfl) rfl
theorem ti_X6_putIn : Cond.instanceMethod yX6_putIn ∈ wsQ := wq_3 (List.mem_of_getElem? (i := 230) rfl) rfl
theorem tl_X6_putIn : Cond.selects RX6 yX6_putIn yX6_putIn ∈ wsQ := wq_3 (List.mem_of_getElem? (i := 231) rfl) rfl
theorem td_X6_putIn : Cond.code yX6_putIn cX6_putIn 4 none ∈ wsQ := wq_3 (List.mem_of_getElem? (i := 232) rfl) rfl
theorem tm_RX9_236 : Cond.methodLink RX9 236 yX0_note ∈ wsQ := wq_3 (List.mem_of_getElem? (i := 233) rfl) rfl
theorem ti_X0_note : Cond.instanceMethod yX0_note ∈ wsQ := wq_3 (List.mem_of_getElem? (i := 234) rfl) rfl
theorem tl_X0_note : Cond.selects RX0 yX0_note yX0_note ∈ wsQ := wq_3 (List.mem_of_getElem? (i := 235) rfl) rfl
theorem td_X0_note : Cond.code yX0_note cX0_note 4 none ∈ wsQ := wq_3 (List.mem_of_getElem? (i := 236) rfl) rfl
theorem tm_RX0_25 : Cond.methodLink RX0 25 yX0_forgetOldest ∈ wsQ := wq_3 (List.mem_of_getElem? (i := 237) rfl) rfl
theorem ti_X0_forgetOldest : Cond.instanceMethod yX0_forgetOldest ∈ wsQ := wq_3 (List.mem_of_getElem? (i := 239) rfl) rfl
theorem td_X0_forgetOldest : Cond.code yX0_forgetOldest cX0_forgetOldest 2 none ∈ wsQ := wq_4 (List.mem_of_getElem? (i := 0) rfl) rfl
theorem tm_RL_71 : Cond.methodLink RL 71 yX9_give ∈ wsQ := wq_4 (List.mem_of_getElem? (i := 1) rfl) rfl
theorem ti_X9_give : Cond.instanceMethod yX9_give ∈ wsQ := wq_4 (List.mem_of_getElem? (i := 2) rfl) rfl
theorem tl_X9_give : Cond.selects RX9 yX9_give yX9_give ∈ wsQ := wq_4 (List.mem_of_getElem? (i := 3) rfl) rfl
theorem td_X9_give : Cond.code yX9_give cX9_give 3 (some .int) ∈ wsQ := wq_4 (List.mem_of_getElem? (i := 4) rfl) rfl
theorem tm_RX9_239 : Cond.methodLink RX9 239 yJ9_min_7cf53 ∈ wsQ := wq_4 (List.mem_of_getElem? (i := 5) rfl) rfl
theorem tm_RL_75 : Cond.methodLink RL 75 yX9_off ∈ wsQ := wq_4 (List.mem_of_getElem? (i := 6) rfl) rfl
theorem ti_X9_off : Cond.instanceMethod yX9_off ∈ wsQ := wq_4 (List.mem_of_getElem? (i := 7) rfl) rfl
theorem tl_X9_off : Cond.selects RX9 yX9_off yX9_off ∈ wsQ := wq_4 (List.mem_of_getElem? (i := 8) rfl) rfl
theorem td_X9_off : Cond.code yX9_off cX9_off 3 (some .int) ∈ wsQ := wq_4 (List.mem_of_getElem? (i := 9) rfl) rfl
theorem tm_RL_79 : Cond.methodLink RL 79 yX9_go ∈ wsQ := wq_4 (List.mem_of_getElem? (i := 10) rfl) rfl
theorem ti_X9_go : Cond.instanceMethod yX9_go ∈ wsQ := wq_4 (List.mem_of_getElem? (i := 11) rfl) rfl
theorem tl_X9_go : Cond.selects RX9 yX9_go yX9_go ∈ wsQ := wq_4 (List.mem_of_getElem? (i := 12) rfl) rfl
theorem td_X9_go : Cond.code yX9_go cX9_go 2 (some .int) ∈ wsQ := wq_4 (List.mem_of_getElem? (i := 13) rfl) rfl
theorem tm_RX9_251 : Cond.methodLink RX9 251 yX3_pass ∈ wsQ := wq_4 (List.mem_of_getElem? (i := 14) rfl) rfl
theorem ti_X3_pass : Cond.instanceMethod yX3_pass ∈ wsQ := wq_4 (List.mem_of_getElem? (i := 15) rfl) rfl
theorem tl_X3_pass : Cond.selects RX3 yX3_pass yX3_pass ∈ wsQ := wq_4 (List.mem_of_getElem? (i := 16) rfl) rfl
theorem td_X3_pass : Cond.code yX3_pass cX3_pass 4 none ∈ wsQ := wq_4 (List.mem_of_getElem? (i := 17) rfl) rfl
theorem tm_RX3_41 : Cond.methodLink RX3 41 yX3_letCome ∈ wsQ := wq_4 (List.mem_of_getElem? (i := 18) rfl) rfl
theorem ti_X3_letCome : Cond.instanceMethod yX3_letCome ∈ wsQ := wq_4 (List.mem_of_getElem? (i := 20) rfl) rfl
theorem td_X3_letCome : Cond.code yX3_letCome cX3_letCome 2 none ∈ wsQ := wq_4 (List.mem_of_getElem? (i := 21) rfl) rfl
theorem tm_RX3_84 : Cond.methodLink RX3 84 yX6_putIn ∈ wsQ := wq_4 (List.mem_of_getElem? (i := 22) rfl) rfl
theorem tm_RX3_49 : Cond.methodLink RX3 49 yX3_comes ∈ wsQ := wq_4 (List.mem_of_getElem? (i := 23) rfl) rfl
theorem ti_X3_comes : Cond.instanceMethod yX3_comes ∈ wsQ := wq_4 (List.mem_of_getElem? (i := 25) rfl) rfl
theorem td_X3_comes : Cond.code yX3_comes cX3_comes 4 (some .boolean) ∈ wsQ := wq_4 (List.mem_of_getElem? (i := 26) rfl) rfl
theorem tm_RX3_53 : Cond.methodLink RX3 53 yX3_board ∈ wsQ := wq_4 (List.mem_of_getElem? (i := 27) rfl) rfl
theorem ti_X3_board : Cond.instanceMethod yX3_board ∈ wsQ := wq_4 (List.mem_of_getElem? (i := 29) rfl) rfl
theorem td_X3_board : Cond.code yX3_board cX3_board 6 none ∈ wsQ := wq_4 (List.mem_of_getElem? (i := 30) rfl) rfl
theorem tm_RX3_94 : Cond.methodLink RX3 94 yX3_whoMay ∈ wsQ := wq_4 (List.mem_of_getElem? (i := 31) rfl) rfl
theorem ti_X3_whoMay : Cond.instanceMethod yX3_whoMay ∈ wsQ := wq_4 (List.mem_of_getElem? (i := 32) rfl) rfl
theorem tl_X3_whoMay : Cond.selects RX3 yX3_whoMay yX3_whoMay ∈ wsQ := wq_4 (List.mem_of_getElem? (i := 33) rfl) rfl
theorem td_X3_whoMay : Cond.code yX3_whoMay cX3_whoMay 8 (some .int) ∈ wsQ := wq_4 (List.mem_of_getElem? (i := 34) rfl) rfl
theorem tm_RX3_134 : Cond.methodLink RX3 134 yX3_look ∈ wsQ := wq_4 (List.mem_of_getElem? (i := 35) rfl) rfl
theorem tm_RX3_142 : Cond.methodLink RX3 142 yX2_worth ∈ wsQ := wq_4 (List.mem_of_getElem? (i := 36) rfl) rfl
theorem tc_RX3_148 : Cond.constantLong RX3 148 (-9223372036854775808) ∈ wsQ := wq_4 (List.mem_of_getElem? (i := 37) rfl) rfl
theorem tm_RX3_98 : Cond.methodLink RX3 98 yX3_findTurns ∈ wsQ := wq_4 (List.mem_of_getElem? (i := 38) rfl) rfl
theorem ti_X3_findTurns : Cond.instanceMethod yX3_findTurns ∈ wsQ := wq_4 (List.mem_of_getElem? (i := 40) rfl) rfl
theorem td_X3_findTurns : Cond.code yX3_findTurns cX3_findTurns 7 none ∈ wsQ := wq_4 (List.mem_of_getElem? (i := 41) rfl) rfl
theorem tc_RX3_150 : Cond.constantLong RX3 150 (-9999) ∈ wsQ := wq_4 (List.mem_of_getElem? (i := 42) rfl) rfl
theorem tc_RX3_152 : Cond.constantLong RX3 152 (9999) ∈ wsQ := wq_4 (List.mem_of_getElem? (i := 43) rfl) rfl
theorem tm_RX3_154 : Cond.methodLink RX3 154 yJ9_min_f86c9 ∈ wsQ := wq_4 (List.mem_of_getElem? (i := 44) rfl) rfl
theorem ts_J9_min_f86c9 : Cond.static yJ9_min_f86c9 ∈ wsQ := wq_4 (List.mem_of_getElem? (i := 45) rfl) rfl
theorem td_J9_min_f86c9 : Cond.code yJ9_min_f86c9 cJ9_min_f86c9 4 (some .long) ∈ wsQ := wq_4 (List.mem_of_getElem? (i := 46) rfl) rfl
theorem tm_RX3_158 : Cond.methodLink RX3 158 yJ9_max_f86c9 ∈ wsQ := wq_4 (List.mem_of_getElem? (i := 47) rfl) rfl
theorem ts_J9_max_f86c9 : Cond.static yJ9_max_f86c9 ∈ wsQ := wq_4 (List.mem_of_getElem? (i := 48) rfl) rfl
theorem td_J9_max_f86c9 : Cond.code yJ9_max_f86c9 cJ9_max_f86c9 4 (some .long) ∈ wsQ := wq_4 (List.mem_of_getElem? (i := 49) rfl) rfl
theorem tm_RX3_104 : Cond.methodLink RX3 104 yX3_firstToBoard ∈ wsQ := wq_4 (List.mem_of_getElem? (i := 50) rfl) rfl
theorem ti_X3_firstToBoard : Cond.instanceMethod yX3_firstToBoard ∈ wsQ := wq_4 (List.mem_of_getElem? (i := 52) rfl) rfl
theorem td_X3_firstToBoard : Cond.code yX3_firstToBoard cX3_firstToBoard 7 (some .int) ∈ wsQ := wq_4 (List.mem_of_getElem? (i := 53) rfl) rfl
theorem tm_RX3_110 : Cond.methodLink RX3 110 yX6_takeOut ∈ wsQ := wq_4 (List.mem_of_getElem? (i := 54) rfl) rfl
theorem tm_RX3_125 : Cond.methodLink RX3 125 yJ9_max_7cf53 ∈ wsQ := wq_4 (List.mem_of_getElem? (i := 55) rfl) rfl
theorem ts_J9_max_7cf53 : Cond.static yJ9_max_7cf53 ∈ wsQ := wq_4 (List.mem_of_getElem? (i := 56) rfl) rfl
theorem td_J9_max_7cf53 : Cond.code yJ9_max_7cf53 cJ9_max_7cf53 2 (some .int) ∈ wsQ := wq_4 (List.mem_of_getElem? (i := 57) rfl) rfl
theorem tm_RX3_57 : Cond.methodLink RX3 57 yX3_rains ∈ wsQ := wq_4 (List.mem_of_getElem? (i := 58) rfl) rfl
theorem ti_X3_rains : Cond.instanceMethod yX3_rains ∈ wsQ := wq_4 (List.mem_of_getElem? (i := 60) rfl) rfl
theorem td_X3_rains : Cond.code yX3_rains cX3_rains 1 (some .boolean) ∈ wsQ := wq_4 (List.mem_of_getElem? (i := 61) rfl) rfl
theorem tc_RX3_169 : Cond.constantLong RX3 169 (1103515245) ∈ wsQ := wq_4 (List.mem_of_getElem? (i := 62) rfl) rfl
theorem tc_RX3_171 : Cond.constantLong RX3 171 (12345) ∈ wsQ := wq_4 (List.mem_of_getElem? (i := 63) rfl) rfl
theorem tc_RX3_173 : Cond.constantLong RX3 173 (2147483647) ∈ wsQ := wq_4 (List.mem_of_getElem? (i := 64) rfl) rfl
theorem tc_RX3_175 : Cond.constant RX3 175 (65536) ∈ wsQ := wq_4 (List.mem_of_getElem? (i := 65) rfl) rfl
theorem tm_RX3_61 : Cond.methodLink RX3 61 yX3_soak ∈ wsQ := wq_4 (List.mem_of_getElem? (i := 66) rfl) rfl
theorem ti_X3_soak : Cond.instanceMethod yX3_soak ∈ wsQ := wq_4 (List.mem_of_getElem? (i := 68) rfl) rfl
theorem td_X3_soak : Cond.code yX3_soak cX3_soak 6 none ∈ wsQ := wq_4 (List.mem_of_getElem? (i := 69) rfl) rfl
theorem tc_RX3_179 : Cond.constantLong RX3 179 (99) ∈ wsQ := wq_4 (List.mem_of_getElem? (i := 70) rfl) rfl
theorem tm_RX3_184 : Cond.methodLink RX3 184 yJ9_min_7cf53 ∈ wsQ := wq_4 (List.mem_of_getElem? (i := 71) rfl) rfl
theorem tm_RL_83 : Cond.methodLink RL 83 yX9_ahead ∈ wsQ := wq_4 (List.mem_of_getElem? (i := 72) rfl) rfl
theorem ti_X9_ahead : Cond.instanceMethod yX9_ahead ∈ wsQ := wq_4 (List.mem_of_getElem? (i := 73) rfl) rfl
theorem tl_X9_ahead : Cond.selects RX9 yX9_ahead yX9_ahead ∈ wsQ := wq_4 (List.mem_of_getElem? (i := 74) rfl) rfl
theorem td_X9_ahead : Cond.code yX9_ahead cX9_ahead 4 (some .int) ∈ wsQ := wq_4 (List.mem_of_getElem? (i := 75) rfl) rfl
theorem tm_RX9_258 : Cond.methodLink RX9 258 yX9_tryFromNow ∈ wsQ := wq_4 (List.mem_of_getElem? (i := 76) rfl) rfl
theorem ti_X9_tryFromNow : Cond.instanceMethod yX9_tryFromNow ∈ wsQ := wq_4 (List.mem_of_getElem? (i := 78) rfl) rfl
theorem td_X9_tryFromNow : Cond.code yX9_tryFromNow cX9_tryFromNow 1 none ∈ wsQ := wq_4 (List.mem_of_getElem? (i := 79) rfl) rfl
theorem tm_RX9_254 : Cond.methodLink RX9 254 yX6_copy ∈ wsQ := wq_4 (List.mem_of_getElem? (i := 80) rfl) rfl
theorem ti_X6_copy : Cond.instanceMethod yX6_copy ∈ wsQ := wq_4 (List.mem_of_getElem? (i := 81) rfl) rfl
theorem tl_X6_copy : Cond.selects RX6 yX6_copy yX6_copy ∈ wsQ := wq_4 (List.mem_of_getElem? (i := 82) rfl) rfl
theorem td_X6_copy : Cond.code yX6_copy cX6_copy 3 none ∈ wsQ := wq_4 (List.mem_of_getElem? (i := 83) rfl) rfl
theorem tm_RX9_261 : Cond.methodLink RX9 261 yX6_howMany ∈ wsQ := wq_4 (List.mem_of_getElem? (i := 84) rfl) rfl
theorem ti_X6_howMany : Cond.instanceMethod yX6_howMany ∈ wsQ := wq_4 (List.mem_of_getElem? (i := 85) rfl) rfl
theorem tl_X6_howMany : Cond.selects RX6 yX6_howMany yX6_howMany ∈ wsQ := wq_4 (List.mem_of_getElem? (i := 86) rfl) rfl
theorem td_X6_howMany : Cond.code yX6_howMany cX6_howMany 5 (some .int) ∈ wsQ := wq_4 (List.mem_of_getElem? (i := 87) rfl) rfl
theorem tm_RX9_264 : Cond.methodLink RX9 264 yX9_kindnessGone ∈ wsQ := wq_4 (List.mem_of_getElem? (i := 88) rfl) rfl
theorem ti_X9_kindnessGone : Cond.instanceMethod yX9_kindnessGone ∈ wsQ := wq_4 (List.mem_of_getElem? (i := 90) rfl) rfl
theorem td_X9_kindnessGone : Cond.code yX9_kindnessGone cX9_kindnessGone 4 (some .int) ∈ wsQ := wq_4 (List.mem_of_getElem? (i := 91) rfl) rfl
theorem tm_RX9_268 : Cond.methodLink RX9 268 yX9_sum ∈ wsQ := wq_4 (List.mem_of_getElem? (i := 92) rfl) rfl
theorem ti_X9_sum : Cond.instanceMethod yX9_sum ∈ wsQ := wq_4 (List.mem_of_getElem? (i := 94) rfl) rfl
theorem td_X9_sum : Cond.code yX9_sum cX9_sum 4 (some .int) ∈ wsQ := wq_4 (List.mem_of_getElem? (i := 95) rfl) rfl
theorem tm_RL_88 : Cond.methodLink RL 88 yX9_next ∈ wsQ := wq_4 (List.mem_of_getElem? (i := 96) rfl) rfl
theorem ti_X9_next : Cond.instanceMethod yX9_next ∈ wsQ := wq_4 (List.mem_of_getElem? (i := 97) rfl) rfl
theorem tl_X9_next : Cond.selects RX9 yX9_next yX9_next ∈ wsQ := wq_4 (List.mem_of_getElem? (i := 98) rfl) rfl
theorem td_X9_next : Cond.code yX9_next cX9_next 2 (some .int) ∈ wsQ := wq_4 (List.mem_of_getElem? (i := 99) rfl) rfl
theorem tm_RX9_272 : Cond.methodLink RX9 272 yX9_firstFrom ∈ wsQ := wq_4 (List.mem_of_getElem? (i := 100) rfl) rfl
theorem ti_X9_firstFrom : Cond.instanceMethod yX9_firstFrom ∈ wsQ := wq_4 (List.mem_of_getElem? (i := 102) rfl) rfl
theorem td_X9_firstFrom : Cond.code yX9_firstFrom cX9_firstFrom 5 (some .int) ∈ wsQ := wq_4 (List.mem_of_getElem? (i := 103) rfl) rfl
theorem tm_RL_92 : Cond.methodLink RL 92 yX9_meet ∈ wsQ := wq_4 (List.mem_of_getElem? (i := 104) rfl) rfl
theorem ti_X9_meet : Cond.instanceMethod yX9_meet ∈ wsQ := wq_4 (List.mem_of_getElem? (i := 105) rfl) rfl
theorem tl_X9_meet : Cond.selects RX9 yX9_meet yX9_meet ∈ wsQ := wq_4 (List.mem_of_getElem? (i := 106) rfl) rfl
theorem td_X9_meet : Cond.code yX9_meet cX9_meet 6 (some .int) ∈ wsQ := wq_4 (List.mem_of_getElem? (i := 107) rfl) rfl
theorem tm_RX9_275 : Cond.methodLink RX9 275 yJ9_max_7cf53 ∈ wsQ := wq_4 (List.mem_of_getElem? (i := 108) rfl) rfl
theorem tm_RL_96 : Cond.methodLink RL 96 yX9_goes ∈ wsQ := wq_4 (List.mem_of_getElem? (i := 109) rfl) rfl
theorem ti_X9_goes : Cond.instanceMethod yX9_goes ∈ wsQ := wq_4 (List.mem_of_getElem? (i := 110) rfl) rfl
theorem tl_X9_goes : Cond.selects RX9 yX9_goes yX9_goes ∈ wsQ := wq_4 (List.mem_of_getElem? (i := 111) rfl) rfl
theorem td_X9_goes : Cond.code yX9_goes cX9_goes 2 (some .int) ∈ wsQ := wq_4 (List.mem_of_getElem? (i := 112) rfl) rfl
theorem tm_RX9_278 : Cond.methodLink RX9 278 yX3_tillGone ∈ wsQ := wq_4 (List.mem_of_getElem? (i := 113) rfl) rfl
theorem ti_X3_tillGone : Cond.instanceMethod yX3_tillGone ∈ wsQ := wq_4 (List.mem_of_getElem? (i := 114) rfl) rfl
theorem tl_X3_tillGone : Cond.selects RX3 yX3_tillGone yX3_tillGone ∈ wsQ := wq_4 (List.mem_of_getElem? (i := 115) rfl) rfl
theorem td_X3_tillGone : Cond.code yX3_tillGone cX3_tillGone 4 (some .int) ∈ wsQ := wq_4 (List.mem_of_getElem? (i := 116) rfl) rfl
theorem tm_RX3_72 : Cond.methodLink RX3 72 yX3_pass ∈ wsQ := wq_4 (List.mem_of_getElem? (i := 117) rfl) rfl
theorem tm_RL_100 : Cond.methodLink RL 100 yX9_empty ∈ wsQ := wq_4 (List.mem_of_getElem? (i := 118) rfl) rfl
theorem ti_X9_empty : Cond.instanceMethod yX9_empty ∈ wsQ := wq_4 (List.mem_of_getElem? (i := 119) rfl) rfl
theorem tl_X9_empty : Cond.selects RX9 yX9_empty yX9_empty ∈ wsQ := wq_4 (List.mem_of_getElem? (i := 120) rfl) rfl
theorem td_X9_empty : Cond.code yX9_empty cX9_empty 2 (some .int) ∈ wsQ := wq_4 (List.mem_of_getElem? (i := 121) rfl) rfl
theorem tm_RX9_281 : Cond.methodLink RX9 281 yX9_isEmpty ∈ wsQ := wq_4 (List.mem_of_getElem? (i := 122) rfl) rfl
theorem ti_X9_isEmpty : Cond.instanceMethod yX9_isEmpty ∈ wsQ := wq_4 (List.mem_of_getElem? (i := 124) rfl) rfl
theorem td_X9_isEmpty : Cond.code yX9_isEmpty cX9_isEmpty 2 (some .boolean) ∈ wsQ := wq_4 (List.mem_of_getElem? (i := 125) rfl) rfl
theorem tm_RL_104 : Cond.methodLink RL 104 yX9_order ∈ wsQ := wq_4 (List.mem_of_getElem? (i := 126) rfl) rfl
theorem ti_X9_order : Cond.instanceMethod yX9_order ∈ wsQ := wq_4 (List.mem_of_getElem? (i := 127) rfl) rfl
theorem tl_X9_order : Cond.selects RX9 yX9_order yX9_order ∈ wsQ := wq_4 (List.mem_of_getElem? (i := 128) rfl) rfl
theorem td_X9_order : Cond.code yX9_order cX9_order 4 (some .int) ∈ wsQ := wq_4 (List.mem_of_getElem? (i := 129) rfl) rfl
theorem tm_RX9_285 : Cond.methodLink RX9 285 yX9_bestOrder ∈ wsQ := wq_4 (List.mem_of_getElem? (i := 130) rfl) rfl
theorem ti_X9_bestOrder : Cond.instanceMethod yX9_bestOrder ∈ wsQ := wq_4 (List.mem_of_getElem? (i := 132) rfl) rfl
theorem td_X9_bestOrder : Cond.code yX9_bestOrder cX9_bestOrder 6 (some .int) ∈ wsQ := wq_4 (List.mem_of_getElem? (i := 133) rfl) rfl
theorem tm_RX9_288 : Cond.methodLink RX9 288 yX9_sortFirst ∈ wsQ := wq_4 (List.mem_of_getElem? (i := 134) rfl) rfl
theorem ti_X9_sortFirst : Cond.instanceMethod yX9_sortFirst ∈ wsQ := wq_4 (List.mem_of_getElem? (i := 136) rfl) rfl
theorem td_X9_sortFirst : Cond.code yX9_sortFirst cX9_sortFirst 5 none ∈ wsQ := wq_4 (List.mem_of_getElem? (i := 137) rfl) rfl
theorem tm_RX9_291 : Cond.methodLink RX9 291 yX9_power ∈ wsQ := wq_4 (List.mem_of_getElem? (i := 138) rfl) rfl
theorem ts_X9_power : Cond.static yX9_power ∈ wsQ := wq_4 (List.mem_of_getElem? (i := 139) rfl) rfl
theorem td_X9_power : Cond.code yX9_power cX9_power 4 (some .int) ∈ wsQ := wq_4 (List.mem_of_getElem? (i := 140) rfl) rfl
theorem tm_RX9_294 : Cond.methodLink RX9 294 yX9_pickRow ∈ wsQ := wq_4 (List.mem_of_getElem? (i := 141) rfl) rfl
theorem ti_X9_pickRow : Cond.instanceMethod yX9_pickRow ∈ wsQ := wq_4 (List.mem_of_getElem? (i := 143) rfl) rfl
theorem td_X9_pickRow : Cond.code yX9_pickRow cX9_pickRow 7 (some .boolean) ∈ wsQ := wq_4 (List.mem_of_getElem? (i := 144) rfl) rfl
theorem tm_RX9_298 : Cond.methodLink RX9 298 yX9_kindnessBehindRow ∈ wsQ := wq_4 (List.mem_of_getElem? (i := 145) rfl) rfl
theorem ti_X9_kindnessBehindRow : Cond.instanceMethod yX9_kindnessBehindRow ∈ wsQ := wq_4 (List.mem_of_getElem? (i := 147) rfl) rfl
theorem td_X9_kindnessBehindRow : Cond.code yX9_kindnessBehindRow cX9_kindnessBehindRow 3 (some .int) ∈ wsQ := wq_4 (List.mem_of_getElem? (i := 148) rfl) rfl
theorem tm_RX9_301 : Cond.methodLink RX9 301 ⟨"java/lang/System", "arraycopy", "(Ljava/lang/Object;ILjava/lang/Object;II)V"⟩ ∈ wsQ := wq_4 (List.mem_of_getElem? (i := 149) rfl) rfl
theorem tm_RL_108 : Cond.methodLink RL 108 yX9_trips ∈ wsQ := wq_4 (List.mem_of_getElem? (i := 152) rfl) rfl
theorem ti_X9_trips : Cond.instanceMethod yX9_trips ∈ wsQ := wq_4 (List.mem_of_getElem? (i := 153) rfl) rfl
theorem tl_X9_trips : Cond.selects RX9 yX9_trips yX9_trips ∈ wsQ := wq_4 (List.mem_of_getElem? (i := 154) rfl) rfl
theorem td_X9_trips : Cond.code yX9_trips cX9_trips 4 (some .int) ∈ wsQ := wq_4 (List.mem_of_getElem? (i := 155) rfl) rfl
theorem tm_RX9_307 : Cond.methodLink RX9 307 yX3_whoMay ∈ wsQ := wq_4 (List.mem_of_getElem? (i := 156) rfl) rfl
theorem tm_RX9_310 : Cond.methodLink RX9 310 yJ6_bitCount_0f7a4 ∈ wsQ := wq_4 (List.mem_of_getElem? (i := 157) rfl) rfl
theorem ts_J6_bitCount_0f7a4 : Cond.static yJ6_bitCount_0f7a4 ∈ wsQ := wq_4 (List.mem_of_getElem? (i := 158) rfl) rfl
theorem td_J6_bitCount_0f7a4 : Cond.code yJ6_bitCount_0f7a4 cJ6_bitCount_0f7a4 1 (some .int) ∈ wsQ := wq_4 (List.mem_of_getElem? (i := 159) rfl) rfl
theorem tc_RJ6_265 : Cond.constant RJ6 265 (1431655765) ∈ wsQ := wq_4 (List.mem_of_getElem? (i := 160) rfl) rfl
theorem tc_RJ6_266 : Cond.constant RJ6 266 (858993459) ∈ wsQ := wq_4 (List.mem_of_getElem? (i := 161) rfl) rfl
theorem tc_RJ6_267 : Cond.constant RJ6 267 (252645135) ∈ wsQ := wq_4 (List.mem_of_getElem? (i := 162) rfl) rfl
theorem tm_RL_112 : Cond.methodLink RL 112 yX9_match ∈ wsQ := wq_4 (List.mem_of_getElem? (i := 163) rfl) rfl
theorem ti_X9_match : Cond.instanceMethod yX9_match ∈ wsQ := wq_4 (List.mem_of_getElem? (i := 164) rfl) rfl
theorem tl_X9_match : Cond.selects RX9 yX9_match yX9_match ∈ wsQ := wq_4 (List.mem_of_getElem? (i := 165) rfl) rfl
theorem td_X9_match : Cond.code yX9_match cX9_match 3 (some .int) ∈ wsQ := wq_4 (List.mem_of_getElem? (i := 166) rfl) rfl
theorem tm_RX9_315 : Cond.methodLink RX9 315 yX9_bestMatch ∈ wsQ := wq_4 (List.mem_of_getElem? (i := 167) rfl) rfl
theorem ti_X9_bestMatch : Cond.instanceMethod yX9_bestMatch ∈ wsQ := wq_4 (List.mem_of_getElem? (i := 169) rfl) rfl
theorem td_X9_bestMatch : Cond.code yX9_bestMatch cX9_bestMatch 5 (some .int) ∈ wsQ := wq_4 (List.mem_of_getElem? (i := 170) rfl) rfl
theorem tm_RX9_319 : Cond.methodLink RX9 319 yX9_pickMatch ∈ wsQ := wq_4 (List.mem_of_getElem? (i := 171) rfl) rfl
theorem ti_X9_pickMatch : Cond.instanceMethod yX9_pickMatch ∈ wsQ := wq_4 (List.mem_of_getElem? (i := 173) rfl) rfl
theorem td_X9_pickMatch : Cond.code yX9_pickMatch cX9_pickMatch 8 (some .int) ∈ wsQ := wq_4 (List.mem_of_getElem? (i := 174) rfl) rfl
theorem tm_RL_116 : Cond.methodLink RL 116 yX9_coins ∈ wsQ := wq_4 (List.mem_of_getElem? (i := 175) rfl) rfl
theorem ti_X9_coins : Cond.instanceMethod yX9_coins ∈ wsQ := wq_4 (List.mem_of_getElem? (i := 176) rfl) rfl
theorem tl_X9_coins : Cond.selects RX9 yX9_coins yX9_coins ∈ wsQ := wq_4 (List.mem_of_getElem? (i := 177) rfl) rfl
theorem td_X9_coins : Cond.code yX9_coins cX9_coins 3 (some .int) ∈ wsQ := wq_4 (List.mem_of_getElem? (i := 178) rfl) rfl
theorem tm_RL_120 : Cond.methodLink RL 120 yX9_rests ∈ wsQ := wq_4 (List.mem_of_getElem? (i := 179) rfl) rfl
theorem ti_X9_rests : Cond.instanceMethod yX9_rests ∈ wsQ := wq_4 (List.mem_of_getElem? (i := 180) rfl) rfl
theorem tl_X9_rests : Cond.selects RX9 yX9_rests yX9_rests ∈ wsQ := wq_4 (List.mem_of_getElem? (i := 181) rfl) rfl
theorem td_X9_rests : Cond.code yX9_rests cX9_rests 5 (some .int) ∈ wsQ := wq_4 (List.mem_of_getElem? (i := 182) rfl) rfl
theorem tm_RX9_322 : Cond.methodLink RX9 322 yX9_isRest ∈ wsQ := wq_4 (List.mem_of_getElem? (i := 183) rfl) rfl
theorem ti_X9_isRest : Cond.instanceMethod yX9_isRest ∈ wsQ := wq_4 (List.mem_of_getElem? (i := 185) rfl) rfl
theorem td_X9_isRest : Cond.code yX9_isRest cX9_isRest 5 (some .boolean) ∈ wsQ := wq_4 (List.mem_of_getElem? (i := 186) rfl) rfl
theorem tm_RX9_326 : Cond.methodLink RX9 326 yX9_windowFor ∈ wsQ := wq_4 (List.mem_of_getElem? (i := 187) rfl) rfl
theorem ti_X9_windowFor : Cond.instanceMethod yX9_windowFor ∈ wsQ := wq_4 (List.mem_of_getElem? (i := 189) rfl) rfl
theorem td_X9_windowFor : Cond.code yX9_windowFor cX9_windowFor 5 (some .int) ∈ wsQ := wq_4 (List.mem_of_getElem? (i := 190) rfl) rfl
theorem tm_RL_124 : Cond.methodLink RL 124 yX9_rest ∈ wsQ := wq_4 (List.mem_of_getElem? (i := 191) rfl) rfl
theorem ti_X9_rest : Cond.instanceMethod yX9_rest ∈ wsQ := wq_4 (List.mem_of_getElem? (i := 192) rfl) rfl
theorem tl_X9_rest : Cond.selects RX9 yX9_rest yX9_rest ∈ wsQ := wq_4 (List.mem_of_getElem? (i := 193) rfl) rfl
theorem td_X9_rest : Cond.code yX9_rest cX9_rest 6 (some .int) ∈ wsQ := wq_4 (List.mem_of_getElem? (i := 194) rfl) rfl
theorem tm_RL_128 : Cond.methodLink RL 128 yX9_dry ∈ wsQ := wq_4 (List.mem_of_getElem? (i := 195) rfl) rfl
theorem ti_X9_dry : Cond.instanceMethod yX9_dry ∈ wsQ := wq_4 (List.mem_of_getElem? (i := 196) rfl) rfl
theorem tl_X9_dry : Cond.selects RX9 yX9_dry yX9_dry ∈ wsQ := wq_4 (List.mem_of_getElem? (i := 197) rfl) rfl
theorem td_X9_dry : Cond.code yX9_dry cX9_dry 8 (some .long) ∈ wsQ := wq_4 (List.mem_of_getElem? (i := 198) rfl) rfl
theorem tc_RX9_330 : Cond.constantLong RX9 330 (-1) ∈ wsQ := wq_4 (List.mem_of_getElem? (i := 199) rfl) rfl
theorem tm_RX9_335 : Cond.methodLink RX9 335 yX9_commonDivisor ∈ wsQ := wq_4 (List.mem_of_getElem? (i := 200) rfl) rfl
theorem ts_X9_commonDivisor : Cond.static yX9_commonDivisor ∈ wsQ := wq_4 (List.mem_of_getElem? (i := 201) rfl) rfl
theorem td_X9_commonDivisor : Cond.code yX9_commonDivisor cX9_commonDivisor 6 (some .int) ∈ wsQ := wq_4 (List.mem_of_getElem? (i := 202) rfl) rfl
theorem tm_RL_133 : Cond.methodLink RL 133 yX9_see ∈ wsQ := wq_4 (List.mem_of_getElem? (i := 203) rfl) rfl
theorem ti_X9_see : Cond.instanceMethod yX9_see ∈ wsQ := wq_4 (List.mem_of_getElem? (i := 204) rfl) rfl
theorem tl_X9_see : Cond.selects RX9 yX9_see yX9_see ∈ wsQ := wq_4 (List.mem_of_getElem? (i := 205) rfl) rfl
theorem td_X9_see : Cond.code yX9_see cX9_see 4 (some .int) ∈ wsQ := wq_4 (List.mem_of_getElem? (i := 206) rfl) rfl
theorem tm_RX9_338 : Cond.methodLink RX9 338 yX5_add ∈ wsQ := wq_4 (List.mem_of_getElem? (i := 207) rfl) rfl
theorem ti_X5_add : Cond.instanceMethod yX5_add ∈ wsQ := wq_4 (List.mem_of_getElem? (i := 208) rfl) rfl
theorem tl_X5_add : Cond.selects RX5 yX5_add yX5_add ∈ wsQ := wq_4 (List.mem_of_getElem? (i := 209) rfl) rfl
theorem td_X5_add : Cond.code yX5_add cX5_add 4 (some .int) ∈ wsQ := wq_4 (List.mem_of_getElem? (i := 210) rfl) rfl
theorem tm_RL_138 : Cond.methodLink RL 138 yX9_strike ∈ wsQ := wq_4 (List.mem_of_getElem? (i := 211) rfl) rfl
theorem ti_X9_strike : Cond.instanceMethod yX9_strike ∈ wsQ := wq_4 (List.mem_of_getElem? (i := 212) rfl) rfl
theorem tl_X9_strike : Cond.selects RX9 yX9_strike yX9_strike ∈ wsQ := wq_4 (List.mem_of_getElem? (i := 213) rfl) rfl
theorem td_X9_strike : Cond.code yX9_strike cX9_strike 2 (some .int) ∈ wsQ := wq_4 (List.mem_of_getElem? (i := 214) rfl) rfl
theorem tm_RL_142 : Cond.methodLink RL 142 yX9_known ∈ wsQ := wq_4 (List.mem_of_getElem? (i := 215) rfl) rfl
theorem ti_X9_known : Cond.instanceMethod yX9_known ∈ wsQ := wq_4 (List.mem_of_getElem? (i := 216) rfl) rfl
theorem tl_X9_known : Cond.selects RX9 yX9_known yX9_known ∈ wsQ := wq_4 (List.mem_of_getElem? (i := 217) rfl) rfl
theorem td_X9_known : Cond.code yX9_known cX9_known 2 (some .boolean) ∈ wsQ := wq_4 (List.mem_of_getElem? (i := 218) rfl) rfl
theorem tm_RL_147 : Cond.methodLink RL 147 yX9_everies ∈ wsQ := wq_4 (List.mem_of_getElem? (i := 219) rfl) rfl
theorem ti_X9_everies : Cond.instanceMethod yX9_everies ∈ wsQ := wq_4 (List.mem_of_getElem? (i := 220) rfl) rfl
theorem tl_X9_everies : Cond.selects RX9 yX9_everies yX9_everies ∈ wsQ := wq_4 (List.mem_of_getElem? (i := 221) rfl) rfl
theorem td_X9_everies : Cond.code yX9_everies cX9_everies 5 (some .int) ∈ wsQ := wq_4 (List.mem_of_getElem? (i := 222) rfl) rfl
theorem tm_RX9_346 : Cond.methodLink RX9 346 yX5_knownBits ∈ wsQ := wq_4 (List.mem_of_getElem? (i := 223) rfl) rfl
theorem ti_X5_knownBits : Cond.instanceMethod yX5_knownBits ∈ wsQ := wq_4 (List.mem_of_getElem? (i := 224) rfl) rfl
theorem tl_X5_knownBits : Cond.selects RX5 yX5_knownBits yX5_knownBits ∈ wsQ := wq_4 (List.mem_of_getElem? (i := 225) rfl) rfl
theorem td_X5_knownBits : Cond.code yX5_knownBits cX5_knownBits 4 (some .int) ∈ wsQ := wq_4 (List.mem_of_getElem? (i := 226) rfl) rfl
theorem tm_RX5_28 : Cond.methodLink RX5 28 yX5_knownMany ∈ wsQ := wq_4 (List.mem_of_getElem? (i := 227) rfl) rfl
theorem ti_X5_knownMany : Cond.instanceMethod yX5_knownMany ∈ wsQ := wq_4 (List.mem_of_getElem? (i := 228) rfl) rfl
theorem tl_X5_knownMany : Cond.selects RX5 yX5_knownMany yX5_knownMany ∈ wsQ := wq_4 (List.mem_of_getElem? (i := 229) rfl) rfl
theorem td_X5_knownMany : Cond.code yX5_knownMany cX5_knownMany 1 (some .int) ∈ wsQ := wq_4 (List.mem_of_getElem? (i := 230) rfl) rfl
theorem tm_RX5_32 : Cond.methodLink RX5 32 yJ9_min_7cf53 ∈ wsQ := wq_4 (List.mem_of_getElem? (i := 231) rfl) rfl
theorem tm_RX9_349 : Cond.methodLink RX9 349 yX9_isAllSo ∈ wsQ := wq_4 (List.mem_of_getElem? (i := 232) rfl) rfl
theorem ti_X9_isAllSo : Cond.instanceMethod yX9_isAllSo ∈ wsQ := wq_4 (List.mem_of_getElem? (i := 234) rfl) rfl
theorem td_X9_isAllSo : Cond.code yX9_isAllSo cX9_isAllSo 6 (some .boolean) ∈ wsQ := wq_4 (List.mem_of_getElem? (i := 235) rfl) rfl
theorem tm_RX9_359 : Cond.methodLink RX9 359 yX5_lastMinutes ∈ wsQ := wq_4 (List.mem_of_getElem? (i := 236) rfl) rfl
theorem ti_X5_lastMinutes : Cond.instanceMethod yX5_lastMinutes ∈ wsQ := wq_4 (List.mem_of_getElem? (i := 237) rfl) rfl
theorem tl_X5_lastMinutes : Cond.selects RX5 yX5_lastMinutes yX5_lastMinutes ∈ wsQ := wq_4 (List.mem_of_getElem? (i := 238) rfl) rfl
theorem td_X5_lastMinutes : Cond.code yX5_lastMinutes cX5_lastMinutes 4 (some .int) ∈ wsQ := wq_4 (List.mem_of_getElem? (i := 239) rfl) rfl
theorem tm_RX5_38 : Cond.methodLink RX5 38 yJ9_max_7cf53 ∈ wsQ := wq_5 (List.mem_of_getElem? (i := 0) rfl) rfl
theorem tm_RX9_362 : Cond.methodLink RX9 362 yX5_areSo ∈ wsQ := wq_5 (List.mem_of_getElem? (i := 1) rfl) rfl
theorem ti_X5_areSo : Cond.instanceMethod yX5_areSo ∈ wsQ := wq_5 (List.mem_of_getElem? (i := 2) rfl) rfl
theorem tl_X5_areSo : Cond.selects RX5 yX5_areSo yX5_areSo ∈ wsQ := wq_5 (List.mem_of_getElem? (i := 3) rfl) rfl
theorem td_X5_areSo : Cond.code yX5_areSo cX5_areSo 6 (some .boolean) ∈ wsQ := wq_5 (List.mem_of_getElem? (i := 4) rfl) rfl
theorem tm_RL_151 : Cond.methodLink RL 151 yX9_ask ∈ wsQ := wq_5 (List.mem_of_getElem? (i := 5) rfl) rfl
theorem ti_X9_ask : Cond.instanceMethod yX9_ask ∈ wsQ := wq_5 (List.mem_of_getElem? (i := 6) rfl) rfl
theorem tl_X9_ask : Cond.selects RX9 yX9_ask yX9_ask ∈ wsQ := wq_5 (List.mem_of_getElem? (i := 7) rfl) rfl
theorem td_X9_ask : Cond.code yX9_ask cX9_ask 8 (some .int) ∈ wsQ := wq_5 (List.mem_of_getElem? (i := 8) rfl) rfl
theorem tm_RX9_366 : Cond.methodLink RX9 366 yX9_everies ∈ wsQ := wq_5 (List.mem_of_getElem? (i := 9) rfl) rfl
theorem tm_RX9_369 : Cond.methodLink RX9 369 yX9_leftAtWorst ∈ wsQ := wq_5 (List.mem_of_getElem? (i := 10) rfl) rfl
theorem ts_X9_leftAtWorst : Cond.static yX9_leftAtWorst ∈ wsQ := wq_5 (List.mem_of_getElem? (i := 11) rfl) rfl
theorem td_X9_leftAtWorst : Cond.code yX9_leftAtWorst cX9_leftAtWorst 4 (some .int) ∈ wsQ := wq_5 (List.mem_of_getElem? (i := 12) rfl) rfl
theorem tm_RL_155 : Cond.methodLink RL 155 yX9_chance ∈ wsQ := wq_5 (List.mem_of_getElem? (i := 13) rfl) rfl
theorem ti_X9_chance : Cond.instanceMethod yX9_chance ∈ wsQ := wq_5 (List.mem_of_getElem? (i := 14) rfl) rfl
theorem tl_X9_chance : Cond.selects RX9 yX9_chance yX9_chance ∈ wsQ := wq_5 (List.mem_of_getElem? (i := 15) rfl) rfl
theorem td_X9_chance : Cond.code yX9_chance cX9_chance 8 (some .int) ∈ wsQ := wq_5 (List.mem_of_getElem? (i := 16) rfl) rfl
theorem tm_RL_160 : Cond.methodLink RL 160 yX9_tried ∈ wsQ := wq_5 (List.mem_of_getElem? (i := 17) rfl) rfl
theorem ti_X9_tried : Cond.instanceMethod yX9_tried ∈ wsQ := wq_5 (List.mem_of_getElem? (i := 18) rfl) rfl
theorem tl_X9_tried : Cond.selects RX9 yX9_tried yX9_tried ∈ wsQ := wq_5 (List.mem_of_getElem? (i := 19) rfl) rfl
theorem td_X9_tried : Cond.code yX9_tried cX9_tried 5 (some .int) ∈ wsQ := wq_5 (List.mem_of_getElem? (i := 20) rfl) rfl
theorem tm_RX9_378 : Cond.methodLink RX9 378 yX9_sendAway ∈ wsQ := wq_5 (List.mem_of_getElem? (i := 21) rfl) rfl
theorem ti_X9_sendAway : Cond.instanceMethod yX9_sendAway ∈ wsQ := wq_5 (List.mem_of_getElem? (i := 23) rfl) rfl
theorem td_X9_sendAway : Cond.code yX9_sendAway cX9_sendAway 3 none ∈ wsQ := wq_5 (List.mem_of_getElem? (i := 24) rfl) rfl
theorem tm_RL_164 : Cond.methodLink RL 164 yX9_undo ∈ wsQ := wq_5 (List.mem_of_getElem? (i := 25) rfl) rfl
theorem ti_X9_undo : Cond.instanceMethod yX9_undo ∈ wsQ := wq_5 (List.mem_of_getElem? (i := 26) rfl) rfl
theorem tl_X9_undo : Cond.selects RX9 yX9_undo yX9_undo ∈ wsQ := wq_5 (List.mem_of_getElem? (i := 27) rfl) rfl
theorem td_X9_undo : Cond.code yX9_undo cX9_undo 1 (some .int) ∈ wsQ := wq_5 (List.mem_of_getElem? (i := 28) rfl) rfl
theorem tm_RX9_381 : Cond.methodLink RX9 381 yX0_undoLast ∈ wsQ := wq_5 (List.mem_of_getElem? (i := 29) rfl) rfl
theorem ti_X0_undoLast : Cond.instanceMethod yX0_undoLast ∈ wsQ := wq_5 (List.mem_of_getElem? (i := 30) rfl) rfl
theorem tl_X0_undoLast : Cond.selects RX0 yX0_undoLast yX0_undoLast ∈ wsQ := wq_5 (List.mem_of_getElem? (i := 31) rfl) rfl
theorem td_X0_undoLast : Cond.code yX0_undoLast cX0_undoLast 3 none ∈ wsQ := wq_5 (List.mem_of_getElem? (i := 32) rfl) rfl
theorem tm_RX0_33 : Cond.methodLink RX0 33 yX6_placeOf ∈ wsQ := wq_5 (List.mem_of_getElem? (i := 33) rfl) rfl
theorem tm_RX0_37 : Cond.methodLink RX0 37 yX6_takeOut ∈ wsQ := wq_5 (List.mem_of_getElem? (i := 34) rfl) rfl
theorem tm_RX0_41 : Cond.methodLink RX0 41 yX6_putIn ∈ wsQ := wq_5 (List.mem_of_getElem? (i := 35) rfl) rfl
theorem tm_RL_168 : Cond.methodLink RL 168 yX9_keep ∈ wsQ := wq_5 (List.mem_of_getElem? (i := 36) rfl) rfl
theorem ti_X9_keep : Cond.instanceMethod yX9_keep ∈ wsQ := wq_5 (List.mem_of_getElem? (i := 37) rfl) rfl
theorem tl_X9_keep : Cond.selects RX9 yX9_keep yX9_keep ∈ wsQ := wq_5 (List.mem_of_getElem? (i := 38) rfl) rfl
theorem td_X9_keep : Cond.code yX9_keep cX9_keep 1 (some .int) ∈ wsQ := wq_5 (List.mem_of_getElem? (i := 39) rfl) rfl
theorem tm_RL_172 : Cond.methodLink RL 172 yX9_back ∈ wsQ := wq_5 (List.mem_of_getElem? (i := 40) rfl) rfl
theorem ti_X9_back : Cond.instanceMethod yX9_back ∈ wsQ := wq_5 (List.mem_of_getElem? (i := 41) rfl) rfl
theorem tl_X9_back : Cond.selects RX9 yX9_back yX9_back ∈ wsQ := wq_5 (List.mem_of_getElem? (i := 42) rfl) rfl
theorem td_X9_back : Cond.code yX9_back cX9_back 1 (some .int) ∈ wsQ := wq_5 (List.mem_of_getElem? (i := 43) rfl) rfl
theorem tm_RL_176 : Cond.methodLink RL 176 yX9_count ∈ wsQ := wq_5 (List.mem_of_getElem? (i := 44) rfl) rfl
theorem ti_X9_count : Cond.instanceMethod yX9_count ∈ wsQ := wq_5 (List.mem_of_getElem? (i := 45) rfl) rfl
theorem tl_X9_count : Cond.selects RX9 yX9_count yX9_count ∈ wsQ := wq_5 (List.mem_of_getElem? (i := 46) rfl) rfl
theorem td_X9_count : Cond.code yX9_count cX9_count 2 (some .int) ∈ wsQ := wq_5 (List.mem_of_getElem? (i := 47) rfl) rfl
theorem tm_RX9_390 : Cond.methodLink RX9 390 yX5_knownMany ∈ wsQ := wq_5 (List.mem_of_getElem? (i := 48) rfl) rfl
theorem tm_RL_39 : Cond.methodLink RL 39 yL_soul ∈ wsQ := wq_5 (List.mem_of_getElem? (i := 49) rfl) rfl
theorem ts_L_soul : Cond.static yL_soul ∈ wsQ := wq_5 (List.mem_of_getElem? (i := 50) rfl) rfl
theorem tk_RL_13 : Cond.classLink RL 13 "java/lang/IndexOutOfBoundsException" ∈ wsQ := wq_5 (List.mem_of_getElem? (i := 52) rfl) rfl
theorem tk_RL_15 : Cond.classLink RL 15 "java/util/NoSuchElementException" ∈ wsQ := wq_5 (List.mem_of_getElem? (i := 53) rfl) rfl
theorem tm_RL_7 : Cond.methodLink RL 7 yX9_soul ∈ wsQ := wq_5 (List.mem_of_getElem? (i := 54) rfl) rfl
theorem ti_X9_soul : Cond.instanceMethod yX9_soul ∈ wsQ := wq_5 (List.mem_of_getElem? (i := 55) rfl) rfl
theorem tl_X9_soul : Cond.selects RX9 yX9_soul yX9_soul ∈ wsQ := wq_5 (List.mem_of_getElem? (i := 56) rfl) rfl
theorem td_X9_soul : Cond.code yX9_soul cX9_soul 3 (some .int) ∈ wsQ := wq_5 (List.mem_of_getElem? (i := 57) rfl) rfl
theorem tk_RX9_142 : Cond.classLink RX9 142 "java/lang/IndexOutOfBoundsException" ∈ wsQ := wq_5 (List.mem_of_getElem? (i := 58) rfl) rfl
theorem tm_RX9_146 : Cond.methodLink RX9 146 ⟨"java/lang/IndexOutOfBoundsException", "<init>", "(Ljava/lang/String;)V"⟩ ∈ wsQ := wq_5 (List.mem_of_getElem? (i := 99) rfl) rfl
theorem tm_RX9_168 : Cond.methodLink RX9 168 yX9_goneWith ∈ wsQ := wq_5 (List.mem_of_getElem? (i := 124) rfl) rfl
theorem ti_X9_goneWith : Cond.instanceMethod yX9_goneWith ∈ wsQ := wq_5 (List.mem_of_getElem? (i := 126) rfl) rfl
theorem td_X9_goneWith : Cond.code yX9_goneWith cX9_goneWith 4 (some .int) ∈ wsQ := wq_5 (List.mem_of_getElem? (i := 127) rfl) rfl
theorem tk_RX9_171 : Cond.classLink RX9 171 "java/util/NoSuchElementException" ∈ wsQ := wq_5 (List.mem_of_getElem? (i := 128) rfl) rfl
theorem tm_RX9_175 : Cond.methodLink RX9 175 ⟨"java/util/NoSuchElementException", "<init>", "(Ljava/lang/String;)V"⟩ ∈ wsQ := wq_5 (List.mem_of_getElem? (i := 138) rfl) rfl
theorem tk_RL_18 : Cond.classLink RL 18 RX10 ∈ wsQ := wq_5 (List.mem_of_getElem? (i := 144) rfl) rfl
theorem tz_RX10 : Cond.instantiable RX10 65 ∈ wsQ := wq_5 (List.mem_of_getElem? (i := 145) rfl) rfl
theorem tm_RL_20 : Cond.methodLink RL 20 yX10_init ∈ wsQ := wq_5 (List.mem_of_getElem? (i := 146) rfl) rfl
theorem ti_X10_init : Cond.instanceMethod yX10_init ∈ wsQ := wq_5 (List.mem_of_getElem? (i := 147) rfl) rfl
theorem td_X10_init : Cond.code yX10_init cX10_init 1 none ∈ wsQ := wq_5 (List.mem_of_getElem? (i := 148) rfl) rfl
theorem tm_RX10_1 : Cond.methodLink RX10 1 ⟨"java/lang/Object", "<init>", "()V"⟩ ∈ wsQ := wq_5 (List.mem_of_getElem? (i := 149) rfl) rfl
theorem tm_RX10_139 : Cond.methodLink RX10 139 yX10_begins ∈ wsQ := wq_5 (List.mem_of_getElem? (i := 150) rfl) rfl
theorem ti_X10_begins : Cond.instanceMethod yX10_begins ∈ wsQ := wq_5 (List.mem_of_getElem? (i := 152) rfl) rfl
theorem td_X10_begins : Cond.code yX10_begins cX10_begins 1 none ∈ wsQ := wq_5 (List.mem_of_getElem? (i := 153) rfl) rfl
theorem tm_RX10_325 : Cond.methodLink RX10 325 yX10_starts ∈ wsQ := wq_5 (List.mem_of_getElem? (i := 154) rfl) rfl
theorem ti_X10_starts : Cond.instanceMethod yX10_starts ∈ wsQ := wq_5 (List.mem_of_getElem? (i := 156) rfl) rfl
theorem td_X10_starts : Cond.code yX10_starts cX10_starts 4 none ∈ wsQ := wq_5 (List.mem_of_getElem? (i := 157) rfl) rfl
theorem tf_RX10_142 : Cond.fieldLink RX10 142 "HeavenStopModel" "thrown" "I" ∈ wsQ := wq_5 (List.mem_of_getElem? (i := 158) rfl) rfl
theorem tf_RX10_7 : Cond.fieldLink RX10 7 "HeavenStopModel" "tape" "[I" ∈ wsQ := wq_5 (List.mem_of_getElem? (i := 159) rfl) rfl
theorem tf_RX10_145 : Cond.fieldLink RX10 145 "HeavenStopModel" "taped" "I" ∈ wsQ := wq_5 (List.mem_of_getElem? (i := 160) rfl) rfl
theorem tf_RX10_13 : Cond.fieldLink RX10 13 "HeavenStopModel" "number" "[I" ∈ wsQ := wq_5 (List.mem_of_getElem? (i := 161) rfl) rfl
theorem tf_RX10_16 : Cond.fieldLink RX10 16 "HeavenStopModel" "soulName" "[I" ∈ wsQ := wq_5 (List.mem_of_getElem? (i := 162) rfl) rfl
theorem tf_RX10_19 : Cond.fieldLink RX10 19 "HeavenStopModel" "diedAt" "[I" ∈ wsQ := wq_5 (List.mem_of_getElem? (i := 163) rfl) rfl
theorem tf_RX10_22 : Cond.fieldLink RX10 22 "HeavenStopModel" "kindOf" "[I" ∈ wsQ := wq_5 (List.mem_of_getElem? (i := 164) rfl) rfl
theorem tf_RX10_25 : Cond.fieldLink RX10 25 "HeavenStopModel" "coinsAs" "[I" ∈ wsQ := wq_5 (List.mem_of_getElem? (i := 165) rfl) rfl
theorem tf_RX10_28 : Cond.fieldLink RX10 28 "HeavenStopModel" "busName" "[I" ∈ wsQ := wq_5 (List.mem_of_getElem? (i := 166) rfl) rfl
theorem tf_RX10_31 : Cond.fieldLink RX10 31 "HeavenStopModel" "firstAt" "[I" ∈ wsQ := wq_5 (List.mem_of_getElem? (i := 167) rfl) rfl
theorem tf_RX10_34 : Cond.fieldLink RX10 34 "HeavenStopModel" "everyAs" "[I" ∈ wsQ := wq_5 (List.mem_of_getElem? (i := 168) rfl) rfl
theorem tf_RX10_37 : Cond.fieldLink RX10 37 "HeavenStopModel" "roomOf" "[I" ∈ wsQ := wq_5 (List.mem_of_getElem? (i := 169) rfl) rfl
theorem tf_RX10_40 : Cond.fieldLink RX10 40 "HeavenStopModel" "fareOf" "[I" ∈ wsQ := wq_5 (List.mem_of_getElem? (i := 170) rfl) rfl
theorem tf_RX10_43 : Cond.fieldLink RX10 43 "HeavenStopModel" "letsWho" "[I" ∈ wsQ := wq_5 (List.mem_of_getElem? (i := 171) rfl) rfl
theorem tf_RX10_46 : Cond.fieldLink RX10 46 "HeavenStopModel" "letsWhom" "[I" ∈ wsQ := wq_5 (List.mem_of_getElem? (i := 172) rfl) rfl
theorem tf_RX10_49 : Cond.fieldLink RX10 49 "HeavenStopModel" "sumFrom" "[I" ∈ wsQ := wq_5 (List.mem_of_getElem? (i := 173) rfl) rfl
theorem tf_RX10_52 : Cond.fieldLink RX10 52 "HeavenStopModel" "sumTo" "[I" ∈ wsQ := wq_5 (List.mem_of_getElem? (i := 174) rfl) rfl
theorem tf_RX10_55 : Cond.fieldLink RX10 55 "HeavenStopModel" "knotSort" "[I" ∈ wsQ := wq_5 (List.mem_of_getElem? (i := 175) rfl) rfl
theorem tf_RX10_58 : Cond.fieldLink RX10 58 "HeavenStopModel" "knotValue" "[I" ∈ wsQ := wq_5 (List.mem_of_getElem? (i := 176) rfl) rfl
theorem tf_RX10_219 : Cond.fieldLink RX10 219 "HeavenStopModel" "told" "I" ∈ wsQ := wq_5 (List.mem_of_getElem? (i := 177) rfl) rfl
theorem tf_RX10_243 : Cond.fieldLink RX10 243 "HeavenStopModel" "lines" "I" ∈ wsQ := wq_5 (List.mem_of_getElem? (i := 178) rfl) rfl
theorem tf_RX10_151 : Cond.fieldLink RX10 151 "HeavenStopModel" "size" "I" ∈ wsQ := wq_5 (List.mem_of_getElem? (i := 179) rfl) rfl
theorem tf_RX10_148 : Cond.fieldLink RX10 148 "HeavenStopModel" "at" "I" ∈ wsQ := wq_5 (List.mem_of_getElem? (i := 180) rfl) rfl
theorem tf_RX10_158 : Cond.fieldLink RX10 158 "HeavenStopModel" "place" "I" ∈ wsQ := wq_5 (List.mem_of_getElem? (i := 181) rfl) rfl
theorem tf_RX10_161 : Cond.fieldLink RX10 161 "HeavenStopModel" "sort" "I" ∈ wsQ := wq_5 (List.mem_of_getElem? (i := 182) rfl) rfl
theorem tf_RX10_171 : Cond.fieldLink RX10 171 "HeavenStopModel" "value" "I" ∈ wsQ := wq_5 (List.mem_of_getElem? (i := 183) rfl) rfl
theorem tf_RX10_196 : Cond.fieldLink RX10 196 "HeavenStopModel" "fault" "I" ∈ wsQ := wq_5 (List.mem_of_getElem? (i := 184) rfl) rfl
theorem tf_RX10_199 : Cond.fieldLink RX10 199 "HeavenStopModel" "faultPlace" "I" ∈ wsQ := wq_5 (List.mem_of_getElem? (i := 185) rfl) rfl
theorem tf_RX10_288 : Cond.fieldLink RX10 288 "HeavenStopModel" "lastFault" "I" ∈ wsQ := wq_5 (List.mem_of_getElem? (i := 186) rfl) rfl
theorem tf_RX10_61 : Cond.fieldLink RX10 61 "HeavenStopModel" "lastPlace" "I" ∈ wsQ := wq_5 (List.mem_of_getElem? (i := 187) rfl) rfl
theorem tf_RX10_282 : Cond.fieldLink RX10 282 "HeavenStopModel" "open" "I" ∈ wsQ := wq_5 (List.mem_of_getElem? (i := 188) rfl) rfl
theorem tf_RX10_255 : Cond.fieldLink RX10 255 "HeavenStopModel" "counted" "I" ∈ wsQ := wq_5 (List.mem_of_getElem? (i := 189) rfl) rfl
theorem tf_RX10_65 : Cond.fieldLink RX10 65 "HeavenStopModel" "names" "[J" ∈ wsQ := wq_5 (List.mem_of_getElem? (i := 190) rfl) rfl
theorem tf_RX10_69 : Cond.fieldLink RX10 69 "HeavenStopModel" "worked" "[J" ∈ wsQ := wq_5 (List.mem_of_getElem? (i := 191) rfl) rfl
theorem tf_RX10_305 : Cond.fieldLink RX10 305 "HeavenStopModel" "workedMany" "I" ∈ wsQ := wq_5 (List.mem_of_getElem? (i := 192) rfl) rfl
theorem tf_RX10_72 : Cond.fieldLink RX10 72 "HeavenStopModel" "minute" "[I" ∈ wsQ := wq_5 (List.mem_of_getElem? (i := 193) rfl) rfl
theorem tf_RX10_75 : Cond.fieldLink RX10 75 "HeavenStopModel" "drawn" "[I" ∈ wsQ := wq_5 (List.mem_of_getElem? (i := 194) rfl) rfl
theorem tf_RX10_78 : Cond.fieldLink RX10 78 "HeavenStopModel" "waiting" "[I" ∈ wsQ := wq_5 (List.mem_of_getElem? (i := 195) rfl) rfl
theorem tf_RX10_81 : Cond.fieldLink RX10 81 "HeavenStopModel" "standsAt" "[I" ∈ wsQ := wq_5 (List.mem_of_getElem? (i := 196) rfl) rfl
theorem tf_RX10_84 : Cond.fieldLink RX10 84 "HeavenStopModel" "howOf" "[I" ∈ wsQ := wq_5 (List.mem_of_getElem? (i := 197) rfl) rfl
theorem tf_RX10_87 : Cond.fieldLink RX10 87 "HeavenStopModel" "coinsOf" "[I" ∈ wsQ := wq_5 (List.mem_of_getElem? (i := 198) rfl) rfl
theorem tf_RX10_90 : Cond.fieldLink RX10 90 "HeavenStopModel" "wetOf" "[I" ∈ wsQ := wq_5 (List.mem_of_getElem? (i := 199) rfl) rfl
theorem tf_RX10_93 : Cond.fieldLink RX10 93 "HeavenStopModel" "passedOf" "[I" ∈ wsQ := wq_5 (List.mem_of_getElem? (i := 200) rfl) rfl
theorem tf_RX10_96 : Cond.fieldLink RX10 96 "HeavenStopModel" "busOf" "[I" ∈ wsQ := wq_5 (List.mem_of_getElem? (i := 201) rfl) rfl
theorem tf_RX10_99 : Cond.fieldLink RX10 99 "HeavenStopModel" "wentAt" "[I" ∈ wsQ := wq_5 (List.mem_of_getElem? (i := 202) rfl) rfl
theorem tf_RX10_298 : Cond.fieldLink RX10 298 "HeavenStopModel" "hasImage" "Z" ∈ wsQ := wq_5 (List.mem_of_getElem? (i := 203) rfl) rfl
theorem tf_RX10_302 : Cond.fieldLink RX10 302 "HeavenStopModel" "undoMany" "I" ∈ wsQ := wq_5 (List.mem_of_getElem? (i := 204) rfl) rfl
theorem tf_RX10_349 : Cond.fieldLink RX10 349 "HeavenStopModel" "tryWhat" "I" ∈ wsQ := wq_5 (List.mem_of_getElem? (i := 205) rfl) rfl
theorem tf_RX10_102 : Cond.fieldLink RX10 102 "HeavenStopModel" "everyOne" "I" ∈ wsQ := wq_5 (List.mem_of_getElem? (i := 206) rfl) rfl
theorem tf_RX10_331 : Cond.fieldLink RX10 331 "HeavenStopModel" "everyTried" "I" ∈ wsQ := wq_5 (List.mem_of_getElem? (i := 207) rfl) rfl
theorem tf_RX10_105 : Cond.fieldLink RX10 105 "HeavenStopModel" "turnOf" "[I" ∈ wsQ := wq_5 (List.mem_of_getElem? (i := 208) rfl) rfl
theorem tf_RX10_356 : Cond.fieldLink RX10 356 "HeavenStopModel" "mays" "I" ∈ wsQ := wq_5 (List.mem_of_getElem? (i := 209) rfl) rfl
theorem tf_RX10_108 : Cond.fieldLink RX10 108 "HeavenStopModel" "rowNow" "[I" ∈ wsQ := wq_5 (List.mem_of_getElem? (i := 210) rfl) rfl
theorem tf_RX10_111 : Cond.fieldLink RX10 111 "HeavenStopModel" "rowBest" "[I" ∈ wsQ := wq_5 (List.mem_of_getElem? (i := 211) rfl) rfl
theorem tf_RX10_449 : Cond.fieldLink RX10 449 "HeavenStopModel" "rowMost" "I" ∈ wsQ := wq_5 (List.mem_of_getElem? (i := 212) rfl) rfl
theorem tf_RX10_114 : Cond.fieldLink RX10 114 "HeavenStopModel" "matchNow" "[I" ∈ wsQ := wq_5 (List.mem_of_getElem? (i := 213) rfl) rfl
theorem tf_RX10_117 : Cond.fieldLink RX10 117 "HeavenStopModel" "matchBest" "[I" ∈ wsQ := wq_5 (List.mem_of_getElem? (i := 214) rfl) rfl
theorem tf_RX10_452 : Cond.fieldLink RX10 452 "HeavenStopModel" "matchMost" "I" ∈ wsQ := wq_5 (List.mem_of_getElem? (i := 215) rfl) rfl
theorem tf_RX10_295 : Cond.fieldLink RX10 295 "HeavenStopModel" "notes" "I" ∈ wsQ := wq_5 (List.mem_of_getElem? (i := 216) rfl) rfl
theorem tf_RX10_120 : Cond.fieldLink RX10 120 "HeavenStopModel" "knownBy" "I" ∈ wsQ := wq_5 (List.mem_of_getElem? (i := 217) rfl) rfl
theorem tf_RX10_123 : Cond.fieldLink RX10 123 "HeavenStopModel" "noteMinutes" "[I" ∈ wsQ := wq_5 (List.mem_of_getElem? (i := 218) rfl) rfl
theorem tf_RX10_126 : Cond.fieldLink RX10 126 "HeavenStopModel" "noteSoul" "[I" ∈ wsQ := wq_5 (List.mem_of_getElem? (i := 219) rfl) rfl
theorem tf_RX10_129 : Cond.fieldLink RX10 129 "HeavenStopModel" "noteGone" "[Z" ∈ wsQ := wq_5 (List.mem_of_getElem? (i := 220) rfl) rfl
theorem tf_RX10_133 : Cond.fieldLink RX10 133 "HeavenStopModel" "outs" "[I" ∈ wsQ := wq_5 (List.mem_of_getElem? (i := 221) rfl) rfl
theorem tf_RX10_136 : Cond.fieldLink RX10 136 "HeavenStopModel" "isOut" "[Z" ∈ wsQ := wq_5 (List.mem_of_getElem? (i := 222) rfl) rfl
theorem tm_RL_45 : Cond.methodLink RL 45 yX10_thrown ∈ wsQ := wq_6 (List.mem_of_getElem? (i := 114) rfl) rfl
theorem ti_X10_thrown : Cond.instanceMethod yX10_thrown ∈ wsQ := wq_6 (List.mem_of_getElem? (i := 115) rfl) rfl
theorem tl_X10_thrown : Cond.selects RX10 yX10_thrown yX10_thrown ∈ wsQ := wq_6 (List.mem_of_getElem? (i := 116) rfl) rfl
theorem td_X10_thrown : Cond.code yX10_thrown cX10_thrown 1 (some .int) ∈ wsQ := wq_6 (List.mem_of_getElem? (i := 117) rfl) rfl
theorem tm_RL_25 : Cond.methodLink RL 25 yX10_feed ∈ wsQ := wq_6 (List.mem_of_getElem? (i := 118) rfl) rfl
theorem ti_X10_feed : Cond.instanceMethod yX10_feed ∈ wsQ := wq_6 (List.mem_of_getElem? (i := 119) rfl) rfl
theorem tl_X10_feed : Cond.selects RX10 yX10_feed yX10_feed ∈ wsQ := wq_6 (List.mem_of_getElem? (i := 120) rfl) rfl
theorem td_X10_feed : Cond.code yX10_feed cX10_feed 8 (some .int) ∈ wsQ := wq_6 (List.mem_of_getElem? (i := 121) rfl) rfl
theorem tm_RL_30 : Cond.methodLink RL 30 yX10_text ∈ wsQ := wq_6 (List.mem_of_getElem? (i := 122) rfl) rfl
theorem ti_X10_text : Cond.instanceMethod yX10_text ∈ wsQ := wq_6 (List.mem_of_getElem? (i := 123) rfl) rfl
theorem tl_X10_text : Cond.selects RX10 yX10_text yX10_text ∈ wsQ := wq_6 (List.mem_of_getElem? (i := 124) rfl) rfl
theorem td_X10_text : Cond.code yX10_text cX10_text 3 (some .int) ∈ wsQ := wq_6 (List.mem_of_getElem? (i := 125) rfl) rfl
theorem tm_RX10_230 : Cond.methodLink RX10 230 yX10_reads ∈ wsQ := wq_6 (List.mem_of_getElem? (i := 126) rfl) rfl
theorem ti_X10_reads : Cond.instanceMethod yX10_reads ∈ wsQ := wq_6 (List.mem_of_getElem? (i := 128) rfl) rfl
theorem td_X10_reads : Cond.code yX10_reads cX10_reads 3 none ∈ wsQ := wq_6 (List.mem_of_getElem? (i := 129) rfl) rfl
theorem tm_RX10_202 : Cond.methodLink RX10 202 yX10_token ∈ wsQ := wq_6 (List.mem_of_getElem? (i := 130) rfl) rfl
theorem ti_X10_token : Cond.instanceMethod yX10_token ∈ wsQ := wq_6 (List.mem_of_getElem? (i := 132) rfl) rfl
theorem td_X10_token : Cond.code yX10_token cX10_token 2 none ∈ wsQ := wq_6 (List.mem_of_getElem? (i := 133) rfl) rfl
theorem tm_RX10_154 : Cond.methodLink RX10 154 yX10_here ∈ wsQ := wq_6 (List.mem_of_getElem? (i := 134) rfl) rfl
theorem ti_X10_here : Cond.instanceMethod yX10_here ∈ wsQ := wq_6 (List.mem_of_getElem? (i := 136) rfl) rfl
theorem td_X10_here : Cond.code yX10_here cX10_here 1 (some .int) ∈ wsQ := wq_6 (List.mem_of_getElem? (i := 137) rfl) rfl
theorem tm_RX10_164 : Cond.methodLink RX10 164 yX10_isSmall ∈ wsQ := wq_6 (List.mem_of_getElem? (i := 138) rfl) rfl
theorem ts_X10_isSmall : Cond.static yX10_isSmall ∈ wsQ := wq_6 (List.mem_of_getElem? (i := 139) rfl) rfl
theorem td_X10_isSmall : Cond.code yX10_isSmall cX10_isSmall 1 (some .boolean) ∈ wsQ := wq_6 (List.mem_of_getElem? (i := 140) rfl) rfl
theorem tm_RX10_168 : Cond.methodLink RX10 168 yX10_word ∈ wsQ := wq_6 (List.mem_of_getElem? (i := 141) rfl) rfl
theorem ti_X10_word : Cond.instanceMethod yX10_word ∈ wsQ := wq_6 (List.mem_of_getElem? (i := 143) rfl) rfl
theorem td_X10_word : Cond.code yX10_word cX10_word 4 (some .int) ∈ wsQ := wq_6 (List.mem_of_getElem? (i := 144) rfl) rfl
theorem tm_RX10_187 : Cond.methodLink RX10 187 yJ0_length_8abf5 ∈ wsQ := wq_6 (List.mem_of_getElem? (i := 146) rfl) rfl
theorem tm_RX10_192 : Cond.methodLink RX10 192 yJ0_charAt_5068e ∈ wsQ := wq_6 (List.mem_of_getElem? (i := 147) rfl) rfl
theorem tm_RX10_174 : Cond.methodLink RX10 174 yX10_name ∈ wsQ := wq_6 (List.mem_of_getElem? (i := 148) rfl) rfl
theorem ti_X10_name : Cond.instanceMethod yX10_name ∈ wsQ := wq_6 (List.mem_of_getElem? (i := 150) rfl) rfl
theorem td_X10_name : Cond.code yX10_name cX10_name 2 none ∈ wsQ := wq_6 (List.mem_of_getElem? (i := 151) rfl) rfl
theorem tm_RX10_177 : Cond.methodLink RX10 177 yX10_isDigit ∈ wsQ := wq_6 (List.mem_of_getElem? (i := 152) rfl) rfl
theorem ts_X10_isDigit : Cond.static yX10_isDigit ∈ wsQ := wq_6 (List.mem_of_getElem? (i := 153) rfl) rfl
theorem td_X10_isDigit : Cond.code yX10_isDigit cX10_isDigit 1 (some .boolean) ∈ wsQ := wq_6 (List.mem_of_getElem? (i := 154) rfl) rfl
theorem tc_RX10_180 : Cond.constant RX10 180 (99999) ∈ wsQ := wq_6 (List.mem_of_getElem? (i := 155) rfl) rfl
theorem tm_RX10_181 : Cond.methodLink RX10 181 yX10_sign ∈ wsQ := wq_6 (List.mem_of_getElem? (i := 156) rfl) rfl
theorem ti_X10_sign : Cond.instanceMethod yX10_sign ∈ wsQ := wq_6 (List.mem_of_getElem? (i := 158) rfl) rfl
theorem td_X10_sign : Cond.code yX10_sign cX10_sign 2 none ∈ wsQ := wq_6 (List.mem_of_getElem? (i := 159) rfl) rfl
theorem tm_RX10_285 : Cond.methodLink RX10 285 yX10_line ∈ wsQ := wq_6 (List.mem_of_getElem? (i := 160) rfl) rfl
theorem ti_X10_line : Cond.instanceMethod yX10_line ∈ wsQ := wq_6 (List.mem_of_getElem? (i := 162) rfl) rfl
theorem td_X10_line : Cond.code yX10_line cX10_line 4 none ∈ wsQ := wq_6 (List.mem_of_getElem? (i := 163) rfl) rfl
theorem tm_RX10_205 : Cond.methodLink RX10 205 yX10_wrong ∈ wsQ := wq_6 (List.mem_of_getElem? (i := 164) rfl) rfl
theorem ti_X10_wrong : Cond.instanceMethod yX10_wrong ∈ wsQ := wq_6 (List.mem_of_getElem? (i := 166) rfl) rfl
theorem td_X10_wrong : Cond.code yX10_wrong cX10_wrong 2 none ∈ wsQ := wq_6 (List.mem_of_getElem? (i := 167) rfl) rfl
theorem tm_RX10_216 : Cond.methodLink RX10 216 yX10_isFull ∈ wsQ := wq_6 (List.mem_of_getElem? (i := 168) rfl) rfl
theorem ti_X10_isFull : Cond.instanceMethod yX10_isFull ∈ wsQ := wq_6 (List.mem_of_getElem? (i := 170) rfl) rfl
theorem td_X10_isFull : Cond.code yX10_isFull cX10_isFull 2 (some .boolean) ∈ wsQ := wq_6 (List.mem_of_getElem? (i := 171) rfl) rfl
theorem tm_RX10_212 : Cond.methodLink RX10 212 yX10_fresher ∈ wsQ := wq_6 (List.mem_of_getElem? (i := 172) rfl) rfl
theorem ti_X10_fresher : Cond.instanceMethod yX10_fresher ∈ wsQ := wq_6 (List.mem_of_getElem? (i := 174) rfl) rfl
theorem td_X10_fresher : Cond.code yX10_fresher cX10_fresher 2 (some .int) ∈ wsQ := wq_6 (List.mem_of_getElem? (i := 175) rfl) rfl
theorem tm_RX10_222 : Cond.methodLink RX10 222 yX10_fresh ∈ wsQ := wq_6 (List.mem_of_getElem? (i := 176) rfl) rfl
theorem ti_X10_fresh : Cond.instanceMethod yX10_fresh ∈ wsQ := wq_6 (List.mem_of_getElem? (i := 178) rfl) rfl
theorem td_X10_fresh : Cond.code yX10_fresh cX10_fresh 5 (some .int) ∈ wsQ := wq_6 (List.mem_of_getElem? (i := 179) rfl) rfl
theorem tm_RX10_208 : Cond.methodLink RX10 208 yX10_found ∈ wsQ := wq_6 (List.mem_of_getElem? (i := 180) rfl) rfl
theorem ts_X10_found : Cond.static yX10_found ∈ wsQ := wq_6 (List.mem_of_getElem? (i := 181) rfl) rfl
theorem td_X10_found : Cond.code yX10_found cX10_found 5 (some .int) ∈ wsQ := wq_6 (List.mem_of_getElem? (i := 182) rfl) rfl
theorem tm_RX10_226 : Cond.methodLink RX10 226 yX10_numeral ∈ wsQ := wq_6 (List.mem_of_getElem? (i := 183) rfl) rfl
theorem ti_X10_numeral : Cond.instanceMethod yX10_numeral ∈ wsQ := wq_6 (List.mem_of_getElem? (i := 185) rfl) rfl
theorem td_X10_numeral : Cond.code yX10_numeral cX10_numeral 4 (some .int) ∈ wsQ := wq_6 (List.mem_of_getElem? (i := 186) rfl) rfl
theorem tm_RX10_234 : Cond.methodLink RX10 234 yX10_letsLine ∈ wsQ := wq_6 (List.mem_of_getElem? (i := 187) rfl) rfl
theorem ti_X10_letsLine : Cond.instanceMethod yX10_letsLine ∈ wsQ := wq_6 (List.mem_of_getElem? (i := 189) rfl) rfl
theorem td_X10_letsLine : Cond.code yX10_letsLine cX10_letsLine 3 none ∈ wsQ := wq_6 (List.mem_of_getElem? (i := 190) rfl) rfl
theorem tm_RX10_246 : Cond.methodLink RX10 246 yX10_soulAtHand ∈ wsQ := wq_6 (List.mem_of_getElem? (i := 191) rfl) rfl
theorem ti_X10_soulAtHand : Cond.instanceMethod yX10_soulAtHand ∈ wsQ := wq_6 (List.mem_of_getElem? (i := 193) rfl) rfl
theorem td_X10_soulAtHand : Cond.code yX10_soulAtHand cX10_soulAtHand 2 (some .int) ∈ wsQ := wq_6 (List.mem_of_getElem? (i := 194) rfl) rfl
theorem tm_RX10_249 : Cond.methodLink RX10 249 yX10_goOn ∈ wsQ := wq_6 (List.mem_of_getElem? (i := 195) rfl) rfl
theorem ti_X10_goOn : Cond.instanceMethod yX10_goOn ∈ wsQ := wq_6 (List.mem_of_getElem? (i := 197) rfl) rfl
theorem td_X10_goOn : Cond.code yX10_goOn cX10_goOn 1 none ∈ wsQ := wq_6 (List.mem_of_getElem? (i := 198) rfl) rfl
theorem tm_RX10_237 : Cond.methodLink RX10 237 yX10_lawLine ∈ wsQ := wq_6 (List.mem_of_getElem? (i := 199) rfl) rfl
theorem ti_X10_lawLine : Cond.instanceMethod yX10_lawLine ∈ wsQ := wq_6 (List.mem_of_getElem? (i := 201) rfl) rfl
theorem td_X10_lawLine : Cond.code yX10_lawLine cX10_lawLine 2 none ∈ wsQ := wq_6 (List.mem_of_getElem? (i := 202) rfl) rfl
theorem tm_RX10_252 : Cond.methodLink RX10 252 yX10_expression ∈ wsQ := wq_6 (List.mem_of_getElem? (i := 203) rfl) rfl
theorem ti_X10_expression : Cond.instanceMethod yX10_expression ∈ wsQ := wq_6 (List.mem_of_getElem? (i := 205) rfl) rfl
theorem td_X10_expression : Cond.code yX10_expression cX10_expression 1 none ∈ wsQ := wq_6 (List.mem_of_getElem? (i := 206) rfl) rfl
theorem tm_RX10_258 : Cond.methodLink RX10 258 yX10_conjunction ∈ wsQ := wq_6 (List.mem_of_getElem? (i := 207) rfl) rfl
theorem ti_X10_conjunction : Cond.instanceMethod yX10_conjunction ∈ wsQ := wq_6 (List.mem_of_getElem? (i := 209) rfl) rfl
theorem td_X10_conjunction : Cond.code yX10_conjunction cX10_conjunction 1 none ∈ wsQ := wq_6 (List.mem_of_getElem? (i := 210) rfl) rfl
theorem tm_RX10_270 : Cond.methodLink RX10 270 yX10_negation ∈ wsQ := wq_6 (List.mem_of_getElem? (i := 211) rfl) rfl
theorem ti_X10_negation : Cond.instanceMethod yX10_negation ∈ wsQ := wq_6 (List.mem_of_getElem? (i := 213) rfl) rfl
theorem td_X10_negation : Cond.code yX10_negation cX10_negation 2 none ∈ wsQ := wq_6 (List.mem_of_getElem? (i := 214) rfl) rfl
theorem tm_RX10_261 : Cond.methodLink RX10 261 yX10_isWord ∈ wsQ := wq_6 (List.mem_of_getElem? (i := 215) rfl) rfl
theorem ti_X10_isWord : Cond.instanceMethod yX10_isWord ∈ wsQ := wq_6 (List.mem_of_getElem? (i := 217) rfl) rfl
theorem td_X10_isWord : Cond.code yX10_isWord cX10_isWord 2 (some .boolean) ∈ wsQ := wq_6 (List.mem_of_getElem? (i := 218) rfl) rfl
theorem tm_RX10_264 : Cond.methodLink RX10 264 yX10_knot ∈ wsQ := wq_6 (List.mem_of_getElem? (i := 219) rfl) rfl
theorem ti_X10_knot : Cond.instanceMethod yX10_knot ∈ wsQ := wq_6 (List.mem_of_getElem? (i := 221) rfl) rfl
theorem td_X10_knot : Cond.code yX10_knot cX10_knot 1 none ∈ wsQ := wq_6 (List.mem_of_getElem? (i := 222) rfl) rfl
theorem tm_RX10_267 : Cond.methodLink RX10 267 yX10_puts ∈ wsQ := wq_6 (List.mem_of_getElem? (i := 223) rfl) rfl
theorem ti_X10_puts : Cond.instanceMethod yX10_puts ∈ wsQ := wq_6 (List.mem_of_getElem? (i := 225) rfl) rfl
theorem td_X10_puts : Cond.code yX10_puts cX10_puts 3 none ∈ wsQ := wq_6 (List.mem_of_getElem? (i := 226) rfl) rfl
theorem tm_RX10_273 : Cond.methodLink RX10 273 yX10_sum ∈ wsQ := wq_6 (List.mem_of_getElem? (i := 227) rfl) rfl
theorem ti_X10_sum : Cond.instanceMethod yX10_sum ∈ wsQ := wq_6 (List.mem_of_getElem? (i := 229) rfl) rfl
theorem td_X10_sum : Cond.code yX10_sum cX10_sum 2 none ∈ wsQ := wq_6 (List.mem_of_getElem? (i := 230) rfl) rfl
theorem tm_RX10_276 : Cond.methodLink RX10 276 yX10_product ∈ wsQ := wq_6 (List.mem_of_getElem? (i := 231) rfl) rfl
theorem ti_X10_product : Cond.instanceMethod yX10_product ∈ wsQ := wq_6 (List.mem_of_getElem? (i := 233) rfl) rfl
theorem td_X10_product : Cond.code yX10_product cX10_product 2 none ∈ wsQ := wq_6 (List.mem_of_getElem? (i := 234) rfl) rfl
theorem tm_RX10_279 : Cond.methodLink RX10 279 yX10_primary ∈ wsQ := wq_6 (List.mem_of_getElem? (i := 235) rfl) rfl
theorem ti_X10_primary : Cond.instanceMethod yX10_primary ∈ wsQ := wq_6 (List.mem_of_getElem? (i := 237) rfl) rfl
theorem td_X10_primary : Cond.code yX10_primary cX10_primary 2 none ∈ wsQ := wq_6 (List.mem_of_getElem? (i := 238) rfl) rfl
theorem tm_RX10_240 : Cond.methodLink RX10 240 yX10_isSign ∈ wsQ := wq_6 (List.mem_of_getElem? (i := 239) rfl) rfl
theorem ti_X10_isSign : Cond.instanceMethod yX10_isSign ∈ wsQ := wq_7 (List.mem_of_getElem? (i := 1) rfl) rfl
theorem td_X10_isSign : Cond.code yX10_isSign cX10_isSign 2 (some .boolean) ∈ wsQ := wq_7 (List.mem_of_getElem? (i := 2) rfl) rfl
theorem tm_RX10_291 : Cond.methodLink RX10 291 yX10_half ∈ wsQ := wq_7 (List.mem_of_getElem? (i := 3) rfl) rfl
theorem ts_X10_half : Cond.static yX10_half ∈ wsQ := wq_7 (List.mem_of_getElem? (i := 4) rfl) rfl
theorem td_X10_half : Cond.code yX10_half cX10_half 3 none ∈ wsQ := wq_7 (List.mem_of_getElem? (i := 5) rfl) rfl
theorem tm_RL_34 : Cond.methodLink RL 34 yX10_fault ∈ wsQ := wq_7 (List.mem_of_getElem? (i := 6) rfl) rfl
theorem ti_X10_fault : Cond.instanceMethod yX10_fault ∈ wsQ := wq_7 (List.mem_of_getElem? (i := 7) rfl) rfl
theorem tl_X10_fault : Cond.selects RX10 yX10_fault yX10_fault ∈ wsQ := wq_7 (List.mem_of_getElem? (i := 8) rfl) rfl
theorem td_X10_fault : Cond.code yX10_fault cX10_fault 2 (some .int) ∈ wsQ := wq_7 (List.mem_of_getElem? (i := 9) rfl) rfl
theorem tm_RL_38 : Cond.methodLink RL 38 yX10_named ∈ wsQ := wq_7 (List.mem_of_getElem? (i := 10) rfl) rfl
theorem ti_X10_named : Cond.instanceMethod yX10_named ∈ wsQ := wq_7 (List.mem_of_getElem? (i := 11) rfl) rfl
theorem tl_X10_named : Cond.selects RX10 yX10_named yX10_named ∈ wsQ := wq_7 (List.mem_of_getElem? (i := 12) rfl) rfl
theorem td_X10_named : Cond.code yX10_named cX10_named 3 (some .int) ∈ wsQ := wq_7 (List.mem_of_getElem? (i := 13) rfl) rfl
theorem tm_RL_44 : Cond.methodLink RL 44 yX10_soul ∈ wsQ := wq_7 (List.mem_of_getElem? (i := 14) rfl) rfl
theorem ti_X10_soul : Cond.instanceMethod yX10_soul ∈ wsQ := wq_7 (List.mem_of_getElem? (i := 15) rfl) rfl
theorem tl_X10_soul : Cond.selects RX10 yX10_soul yX10_soul ∈ wsQ := wq_7 (List.mem_of_getElem? (i := 16) rfl) rfl
theorem td_X10_soul : Cond.code yX10_soul cX10_soul 3 (some .int) ∈ wsQ := wq_7 (List.mem_of_getElem? (i := 17) rfl) rfl
theorem tm_RX10_411 : Cond.methodLink RX10 411 yX10_isSoul ∈ wsQ := wq_7 (List.mem_of_getElem? (i := 18) rfl) rfl
theorem ti_X10_isSoul : Cond.instanceMethod yX10_isSoul ∈ wsQ := wq_7 (List.mem_of_getElem? (i := 20) rfl) rfl
theorem td_X10_isSoul : Cond.code yX10_isSoul cX10_isSoul 2 (some .boolean) ∈ wsQ := wq_7 (List.mem_of_getElem? (i := 21) rfl) rfl
theorem tm_RX10_328 : Cond.methodLink RX10 328 yX10_placeOf ∈ wsQ := wq_7 (List.mem_of_getElem? (i := 22) rfl) rfl
theorem ti_X10_placeOf : Cond.instanceMethod yX10_placeOf ∈ wsQ := wq_7 (List.mem_of_getElem? (i := 24) rfl) rfl
theorem td_X10_placeOf : Cond.code yX10_placeOf cX10_placeOf 4 (some .int) ∈ wsQ := wq_7 (List.mem_of_getElem? (i := 25) rfl) rfl
theorem tm_RX10_414 : Cond.methodLink RX10 414 yX10_orNone ∈ wsQ := wq_7 (List.mem_of_getElem? (i := 26) rfl) rfl
theorem ts_X10_orNone : Cond.static yX10_orNone ∈ wsQ := wq_7 (List.mem_of_getElem? (i := 27) rfl) rfl
theorem td_X10_orNone : Cond.code yX10_orNone cX10_orNone 1 (some .int) ∈ wsQ := wq_7 (List.mem_of_getElem? (i := 28) rfl) rfl
theorem tm_RX10_417 : Cond.methodLink RX10 417 yX10_withSoul ∈ wsQ := wq_7 (List.mem_of_getElem? (i := 29) rfl) rfl
theorem ti_X10_withSoul : Cond.instanceMethod yX10_withSoul ∈ wsQ := wq_7 (List.mem_of_getElem? (i := 31) rfl) rfl
theorem td_X10_withSoul : Cond.code yX10_withSoul cX10_withSoul 4 (some .int) ∈ wsQ := wq_7 (List.mem_of_getElem? (i := 32) rfl) rfl
theorem tm_RL_52 : Cond.methodLink RL 52 yX10_bus ∈ wsQ := wq_7 (List.mem_of_getElem? (i := 33) rfl) rfl
theorem ti_X10_bus : Cond.instanceMethod yX10_bus ∈ wsQ := wq_7 (List.mem_of_getElem? (i := 34) rfl) rfl
theorem tl_X10_bus : Cond.selects RX10 yX10_bus yX10_bus ∈ wsQ := wq_7 (List.mem_of_getElem? (i := 35) rfl) rfl
theorem td_X10_bus : Cond.code yX10_bus cX10_bus 3 (some .int) ∈ wsQ := wq_7 (List.mem_of_getElem? (i := 36) rfl) rfl
theorem tm_RX10_420 : Cond.methodLink RX10 420 yX10_isBus ∈ wsQ := wq_7 (List.mem_of_getElem? (i := 37) rfl) rfl
theorem ti_X10_isBus : Cond.instanceMethod yX10_isBus ∈ wsQ := wq_7 (List.mem_of_getElem? (i := 39) rfl) rfl
theorem td_X10_isBus : Cond.code yX10_isBus cX10_isBus 2 (some .boolean) ∈ wsQ := wq_7 (List.mem_of_getElem? (i := 40) rfl) rfl
theorem tm_RX10_423 : Cond.methodLink RX10 423 yX10_goneWith ∈ wsQ := wq_7 (List.mem_of_getElem? (i := 41) rfl) rfl
theorem ti_X10_goneWith : Cond.instanceMethod yX10_goneWith ∈ wsQ := wq_7 (List.mem_of_getElem? (i := 43) rfl) rfl
theorem td_X10_goneWith : Cond.code yX10_goneWith cX10_goneWith 4 (some .int) ∈ wsQ := wq_7 (List.mem_of_getElem? (i := 44) rfl) rfl
theorem tm_RL_56 : Cond.methodLink RL 56 yX10_queue ∈ wsQ := wq_7 (List.mem_of_getElem? (i := 45) rfl) rfl
theorem ti_X10_queue : Cond.instanceMethod yX10_queue ∈ wsQ := wq_7 (List.mem_of_getElem? (i := 46) rfl) rfl
theorem tl_X10_queue : Cond.selects RX10 yX10_queue yX10_queue ∈ wsQ := wq_7 (List.mem_of_getElem? (i := 47) rfl) rfl
theorem td_X10_queue : Cond.code yX10_queue cX10_queue 2 (some .int) ∈ wsQ := wq_7 (List.mem_of_getElem? (i := 48) rfl) rfl
theorem tm_RL_60 : Cond.methodLink RL 60 yX10_lets ∈ wsQ := wq_7 (List.mem_of_getElem? (i := 49) rfl) rfl
theorem ti_X10_lets : Cond.instanceMethod yX10_lets ∈ wsQ := wq_7 (List.mem_of_getElem? (i := 50) rfl) rfl
theorem tl_X10_lets : Cond.selects RX10 yX10_lets yX10_lets ∈ wsQ := wq_7 (List.mem_of_getElem? (i := 51) rfl) rfl
theorem td_X10_lets : Cond.code yX10_lets cX10_lets 4 (some .int) ∈ wsQ := wq_7 (List.mem_of_getElem? (i := 52) rfl) rfl
theorem tm_RL_65 : Cond.methodLink RL 65 yX10_law ∈ wsQ := wq_7 (List.mem_of_getElem? (i := 53) rfl) rfl
theorem ti_X10_law : Cond.instanceMethod yX10_law ∈ wsQ := wq_7 (List.mem_of_getElem? (i := 54) rfl) rfl
theorem tl_X10_law : Cond.selects RX10 yX10_law yX10_law ∈ wsQ := wq_7 (List.mem_of_getElem? (i := 55) rfl) rfl
theorem td_X10_law : Cond.code yX10_law cX10_law 4 (some .long) ∈ wsQ := wq_7 (List.mem_of_getElem? (i := 56) rfl) rfl
theorem tm_RX10_336 : Cond.methodLink RX10 336 yX10_hasLaw ∈ wsQ := wq_7 (List.mem_of_getElem? (i := 57) rfl) rfl
theorem ti_X10_hasLaw : Cond.instanceMethod yX10_hasLaw ∈ wsQ := wq_7 (List.mem_of_getElem? (i := 59) rfl) rfl
theorem td_X10_hasLaw : Cond.code yX10_hasLaw cX10_hasLaw 2 (some .boolean) ∈ wsQ := wq_7 (List.mem_of_getElem? (i := 60) rfl) rfl
theorem tc_RX10_428 : Cond.constantLong RX10 428 (-9223372036854775808) ∈ wsQ := wq_7 (List.mem_of_getElem? (i := 61) rfl) rfl
theorem tm_RX10_352 : Cond.methodLink RX10 352 yX10_calls ∈ wsQ := wq_7 (List.mem_of_getElem? (i := 62) rfl) rfl
theorem ti_X10_calls : Cond.instanceMethod yX10_calls ∈ wsQ := wq_7 (List.mem_of_getElem? (i := 64) rfl) rfl
theorem td_X10_calls : Cond.code yX10_calls cX10_calls 5 none ∈ wsQ := wq_7 (List.mem_of_getElem? (i := 65) rfl) rfl
theorem tc_RX10_334 : Cond.constantLong RX10 334 (9) ∈ wsQ := wq_7 (List.mem_of_getElem? (i := 66) rfl) rfl
theorem tm_RX10_339 : Cond.methodLink RX10 339 yX10_comesOut ∈ wsQ := wq_7 (List.mem_of_getElem? (i := 67) rfl) rfl
theorem ti_X10_comesOut : Cond.instanceMethod yX10_comesOut ∈ wsQ := wq_7 (List.mem_of_getElem? (i := 69) rfl) rfl
theorem td_X10_comesOut : Cond.code yX10_comesOut cX10_comesOut 3 (some .boolean) ∈ wsQ := wq_7 (List.mem_of_getElem? (i := 70) rfl) rfl
theorem tm_RX10_322 : Cond.methodLink RX10 322 yX10_works ∈ wsQ := wq_7 (List.mem_of_getElem? (i := 71) rfl) rfl
theorem ti_X10_works : Cond.instanceMethod yX10_works ∈ wsQ := wq_7 (List.mem_of_getElem? (i := 73) rfl) rfl
theorem td_X10_works : Cond.code yX10_works cX10_works 8 (some .boolean) ∈ wsQ := wq_7 (List.mem_of_getElem? (i := 74) rfl) rfl
theorem tm_RX10_308 : Cond.methodLink RX10 308 yX10_is ∈ wsQ := wq_7 (List.mem_of_getElem? (i := 75) rfl) rfl
theorem ts_X10_is : Cond.static yX10_is ∈ wsQ := wq_7 (List.mem_of_getElem? (i := 76) rfl) rfl
theorem td_X10_is : Cond.code yX10_is cX10_is 1 (some .long) ∈ wsQ := wq_7 (List.mem_of_getElem? (i := 77) rfl) rfl
theorem tm_RX10_312 : Cond.methodLink RX10 312 yJ9_abs_067f4 ∈ wsQ := wq_7 (List.mem_of_getElem? (i := 78) rfl) rfl
theorem ts_J9_abs_067f4 : Cond.static yJ9_abs_067f4 ∈ wsQ := wq_7 (List.mem_of_getElem? (i := 79) rfl) rfl
theorem td_J9_abs_067f4 : Cond.code yJ9_abs_067f4 cJ9_abs_067f4 2 (some .long) ∈ wsQ := wq_7 (List.mem_of_getElem? (i := 80) rfl) rfl
theorem tc_RX10_318 : Cond.constantLong RX10 318 (1000000000000) ∈ wsQ := wq_7 (List.mem_of_getElem? (i := 81) rfl) rfl
theorem tc_RX10_320 : Cond.constantLong RX10 320 (-1000000000000) ∈ wsQ := wq_7 (List.mem_of_getElem? (i := 82) rfl) rfl
theorem tm_RL_70 : Cond.methodLink RL 70 yX10_move ∈ wsQ := wq_7 (List.mem_of_getElem? (i := 83) rfl) rfl
theorem ti_X10_move : Cond.instanceMethod yX10_move ∈ wsQ := wq_7 (List.mem_of_getElem? (i := 84) rfl) rfl
theorem tl_X10_move : Cond.selects RX10 yX10_move yX10_move ∈ wsQ := wq_7 (List.mem_of_getElem? (i := 85) rfl) rfl
theorem td_X10_move : Cond.code yX10_move cX10_move 6 (some .boolean) ∈ wsQ := wq_7 (List.mem_of_getElem? (i := 86) rfl) rfl
theorem tm_RX10_430 : Cond.methodLink RX10 430 yX10_keepNow ∈ wsQ := wq_7 (List.mem_of_getElem? (i := 87) rfl) rfl
theorem ti_X10_keepNow : Cond.instanceMethod yX10_keepNow ∈ wsQ := wq_7 (List.mem_of_getElem? (i := 89) rfl) rfl
theorem td_X10_keepNow : Cond.code yX10_keepNow cX10_keepNow 2 none ∈ wsQ := wq_7 (List.mem_of_getElem? (i := 90) rfl) rfl
theorem tm_RX10_405 : Cond.methodLink RX10 405 yX10_copies ∈ wsQ := wq_7 (List.mem_of_getElem? (i := 91) rfl) rfl
theorem ti_X10_copies : Cond.instanceMethod yX10_copies ∈ wsQ := wq_7 (List.mem_of_getElem? (i := 93) rfl) rfl
theorem td_X10_copies : Cond.code yX10_copies cX10_copies 6 none ∈ wsQ := wq_7 (List.mem_of_getElem? (i := 94) rfl) rfl
theorem tm_RL_74 : Cond.methodLink RL 74 yX10_give ∈ wsQ := wq_7 (List.mem_of_getElem? (i := 95) rfl) rfl
theorem ti_X10_give : Cond.instanceMethod yX10_give ∈ wsQ := wq_7 (List.mem_of_getElem? (i := 96) rfl) rfl
theorem tl_X10_give : Cond.selects RX10 yX10_give yX10_give ∈ wsQ := wq_7 (List.mem_of_getElem? (i := 97) rfl) rfl
theorem td_X10_give : Cond.code yX10_give cX10_give 3 (some .int) ∈ wsQ := wq_7 (List.mem_of_getElem? (i := 98) rfl) rfl
theorem tm_RX10_399 : Cond.methodLink RX10 399 yJ9_min_7cf53 ∈ wsQ := wq_7 (List.mem_of_getElem? (i := 99) rfl) rfl
theorem tm_RL_78 : Cond.methodLink RL 78 yX10_off ∈ wsQ := wq_7 (List.mem_of_getElem? (i := 100) rfl) rfl
theorem ti_X10_off : Cond.instanceMethod yX10_off ∈ wsQ := wq_7 (List.mem_of_getElem? (i := 101) rfl) rfl
theorem tl_X10_off : Cond.selects RX10 yX10_off yX10_off ∈ wsQ := wq_7 (List.mem_of_getElem? (i := 102) rfl) rfl
theorem td_X10_off : Cond.code yX10_off cX10_off 2 (some .int) ∈ wsQ := wq_7 (List.mem_of_getElem? (i := 103) rfl) rfl
theorem tm_RX10_373 : Cond.methodLink RX10 373 yX10_leaves ∈ wsQ := wq_7 (List.mem_of_getElem? (i := 104) rfl) rfl
theorem ti_X10_leaves : Cond.instanceMethod yX10_leaves ∈ wsQ := wq_7 (List.mem_of_getElem? (i := 106) rfl) rfl
theorem td_X10_leaves : Cond.code yX10_leaves cX10_leaves 6 none ∈ wsQ := wq_7 (List.mem_of_getElem? (i := 107) rfl) rfl
theorem tm_RL_82 : Cond.methodLink RL 82 yX10_go ∈ wsQ := wq_7 (List.mem_of_getElem? (i := 108) rfl) rfl
theorem ti_X10_go : Cond.instanceMethod yX10_go ∈ wsQ := wq_7 (List.mem_of_getElem? (i := 109) rfl) rfl
theorem tl_X10_go : Cond.selects RX10 yX10_go yX10_go ∈ wsQ := wq_7 (List.mem_of_getElem? (i := 110) rfl) rfl
theorem td_X10_go : Cond.code yX10_go cX10_go 3 (some .int) ∈ wsQ := wq_7 (List.mem_of_getElem? (i := 111) rfl) rfl
theorem tm_RX10_401 : Cond.methodLink RX10 401 yX10_passes ∈ wsQ := wq_7 (List.mem_of_getElem? (i := 112) rfl) rfl
theorem ti_X10_passes : Cond.instanceMethod yX10_passes ∈ wsQ := wq_7 (List.mem_of_getElem? (i := 114) rfl) rfl
theorem td_X10_passes : Cond.code yX10_passes cX10_passes 6 none ∈ wsQ := wq_7 (List.mem_of_getElem? (i := 115) rfl) rfl
theorem tm_RX10_385 : Cond.methodLink RX10 385 yX10_joins ∈ wsQ := wq_7 (List.mem_of_getElem? (i := 116) rfl) rfl
theorem ti_X10_joins : Cond.instanceMethod yX10_joins ∈ wsQ := wq_7 (List.mem_of_getElem? (i := 118) rfl) rfl
theorem td_X10_joins : Cond.code yX10_joins cX10_joins 3 none ∈ wsQ := wq_7 (List.mem_of_getElem? (i := 119) rfl) rfl
theorem tm_RX10_388 : Cond.methodLink RX10 388 yX10_isComing ∈ wsQ := wq_7 (List.mem_of_getElem? (i := 120) rfl) rfl
theorem ti_X10_isComing : Cond.instanceMethod yX10_isComing ∈ wsQ := wq_7 (List.mem_of_getElem? (i := 122) rfl) rfl
theorem td_X10_isComing : Cond.code yX10_isComing cX10_isComing 3 (some .boolean) ∈ wsQ := wq_7 (List.mem_of_getElem? (i := 123) rfl) rfl
theorem tm_RX10_378 : Cond.methodLink RX10 378 yX10_everyOf ∈ wsQ := wq_7 (List.mem_of_getElem? (i := 124) rfl) rfl
theorem ti_X10_everyOf : Cond.instanceMethod yX10_everyOf ∈ wsQ := wq_7 (List.mem_of_getElem? (i := 126) rfl) rfl
theorem td_X10_everyOf : Cond.code yX10_everyOf cX10_everyOf 2 (some .int) ∈ wsQ := wq_7 (List.mem_of_getElem? (i := 127) rfl) rfl
theorem tm_RX10_392 : Cond.methodLink RX10 392 yX10_stops ∈ wsQ := wq_7 (List.mem_of_getElem? (i := 128) rfl) rfl
theorem ti_X10_stops : Cond.instanceMethod yX10_stops ∈ wsQ := wq_7 (List.mem_of_getElem? (i := 130) rfl) rfl
theorem td_X10_stops : Cond.code yX10_stops cX10_stops 5 none ∈ wsQ := wq_7 (List.mem_of_getElem? (i := 131) rfl) rfl
theorem tm_RX10_362 : Cond.methodLink RX10 362 yX10_mayRide ∈ wsQ := wq_7 (List.mem_of_getElem? (i := 132) rfl) rfl
theorem ti_X10_mayRide : Cond.instanceMethod yX10_mayRide ∈ wsQ := wq_7 (List.mem_of_getElem? (i := 134) rfl) rfl
theorem td_X10_mayRide : Cond.code yX10_mayRide cX10_mayRide 4 (some .boolean) ∈ wsQ := wq_7 (List.mem_of_getElem? (i := 135) rfl) rfl
theorem tm_RX10_366 : Cond.methodLink RX10 366 yX10_within ∈ wsQ := wq_7 (List.mem_of_getElem? (i := 136) rfl) rfl
theorem ti_X10_within : Cond.instanceMethod yX10_within ∈ wsQ := wq_7 (List.mem_of_getElem? (i := 138) rfl) rfl
theorem td_X10_within : Cond.code yX10_within cX10_within 5 (some .int) ∈ wsQ := wq_7 (List.mem_of_getElem? (i := 139) rfl) rfl
theorem tm_RX10_342 : Cond.methodLink RX10 342 yJ9_min_f86c9 ∈ wsQ := wq_7 (List.mem_of_getElem? (i := 140) rfl) rfl
theorem tm_RX10_346 : Cond.methodLink RX10 346 yJ9_max_f86c9 ∈ wsQ := wq_7 (List.mem_of_getElem? (i := 141) rfl) rfl
theorem tm_RX10_370 : Cond.methodLink RX10 370 yX10_nextOn ∈ wsQ := wq_7 (List.mem_of_getElem? (i := 142) rfl) rfl
theorem ti_X10_nextOn : Cond.instanceMethod yX10_nextOn ∈ wsQ := wq_7 (List.mem_of_getElem? (i := 144) rfl) rfl
theorem td_X10_nextOn : Cond.code yX10_nextOn cX10_nextOn 5 (some .int) ∈ wsQ := wq_7 (List.mem_of_getElem? (i := 145) rfl) rfl
theorem tm_RX10_359 : Cond.methodLink RX10 359 yX10_doesLet ∈ wsQ := wq_7 (List.mem_of_getElem? (i := 146) rfl) rfl
theorem ti_X10_doesLet : Cond.instanceMethod yX10_doesLet ∈ wsQ := wq_7 (List.mem_of_getElem? (i := 148) rfl) rfl
theorem td_X10_doesLet : Cond.code yX10_doesLet cX10_doesLet 3 (some .boolean) ∈ wsQ := wq_7 (List.mem_of_getElem? (i := 149) rfl) rfl
theorem tm_RX10_376 : Cond.methodLink RX10 376 yJ9_max_7cf53 ∈ wsQ := wq_7 (List.mem_of_getElem? (i := 150) rfl) rfl
theorem tm_RX10_395 : Cond.methodLink RX10 395 yX10_doesRain ∈ wsQ := wq_7 (List.mem_of_getElem? (i := 151) rfl) rfl
theorem ti_X10_doesRain : Cond.instanceMethod yX10_doesRain ∈ wsQ := wq_7 (List.mem_of_getElem? (i := 153) rfl) rfl
theorem td_X10_doesRain : Cond.code yX10_doesRain cX10_doesRain 4 (some .boolean) ∈ wsQ := wq_7 (List.mem_of_getElem? (i := 154) rfl) rfl
theorem tc_RX10_381 : Cond.constant RX10 381 (1103515245) ∈ wsQ := wq_7 (List.mem_of_getElem? (i := 155) rfl) rfl
theorem tc_RX10_384 : Cond.constant RX10 384 (2147483647) ∈ wsQ := wq_7 (List.mem_of_getElem? (i := 156) rfl) rfl
theorem tm_RL_87 : Cond.methodLink RL 87 yX10_ahead ∈ wsQ := wq_7 (List.mem_of_getElem? (i := 157) rfl) rfl
theorem ti_X10_ahead : Cond.instanceMethod yX10_ahead ∈ wsQ := wq_7 (List.mem_of_getElem? (i := 158) rfl) rfl
theorem tl_X10_ahead : Cond.selects RX10 yX10_ahead yX10_ahead ∈ wsQ := wq_7 (List.mem_of_getElem? (i := 159) rfl) rfl
theorem td_X10_ahead : Cond.code yX10_ahead cX10_ahead 4 (some .int) ∈ wsQ := wq_7 (List.mem_of_getElem? (i := 160) rfl) rfl
theorem tm_RX10_433 : Cond.methodLink RX10 433 yX10_runs ∈ wsQ := wq_7 (List.mem_of_getElem? (i := 161) rfl) rfl
theorem ti_X10_runs : Cond.instanceMethod yX10_runs ∈ wsQ := wq_7 (List.mem_of_getElem? (i := 163) rfl) rfl
theorem td_X10_runs : Cond.code yX10_runs cX10_runs 2 none ∈ wsQ := wq_7 (List.mem_of_getElem? (i := 164) rfl) rfl
theorem tm_RX10_408 : Cond.methodLink RX10 408 yX10_goesOn ∈ wsQ := wq_7 (List.mem_of_getElem? (i := 165) rfl) rfl
theorem ti_X10_goesOn : Cond.instanceMethod yX10_goesOn ∈ wsQ := wq_7 (List.mem_of_getElem? (i := 167) rfl) rfl
theorem td_X10_goesOn : Cond.code yX10_goesOn cX10_goesOn 3 none ∈ wsQ := wq_7 (List.mem_of_getElem? (i := 168) rfl) rfl
theorem tm_RX10_436 : Cond.methodLink RX10 436 yX10_soulsOf ∈ wsQ := wq_7 (List.mem_of_getElem? (i := 169) rfl) rfl
theorem ti_X10_soulsOf : Cond.instanceMethod yX10_soulsOf ∈ wsQ := wq_7 (List.mem_of_getElem? (i := 171) rfl) rfl
theorem td_X10_soulsOf : Cond.code yX10_soulsOf cX10_soulsOf 5 (some .int) ∈ wsQ := wq_7 (List.mem_of_getElem? (i := 172) rfl) rfl
theorem tm_RX10_439 : Cond.methodLink RX10 439 yX10_kindness ∈ wsQ := wq_7 (List.mem_of_getElem? (i := 173) rfl) rfl
theorem ti_X10_kindness : Cond.instanceMethod yX10_kindness ∈ wsQ := wq_7 (List.mem_of_getElem? (i := 175) rfl) rfl
theorem td_X10_kindness : Cond.code yX10_kindness cX10_kindness 4 (some .int) ∈ wsQ := wq_7 (List.mem_of_getElem? (i := 176) rfl) rfl
theorem tm_RX10_442 : Cond.methodLink RX10 442 yX10_allOf ∈ wsQ := wq_7 (List.mem_of_getElem? (i := 177) rfl) rfl
theorem ti_X10_allOf : Cond.instanceMethod yX10_allOf ∈ wsQ := wq_7 (List.mem_of_getElem? (i := 179) rfl) rfl
theorem td_X10_allOf : Cond.code yX10_allOf cX10_allOf 5 (some .int) ∈ wsQ := wq_7 (List.mem_of_getElem? (i := 180) rfl) rfl
theorem tm_RL_91 : Cond.methodLink RL 91 yX10_next ∈ wsQ := wq_7 (List.mem_of_getElem? (i := 181) rfl) rfl
theorem ti_X10_next : Cond.instanceMethod yX10_next ∈ wsQ := wq_7 (List.mem_of_getElem? (i := 182) rfl) rfl
theorem tl_X10_next : Cond.selects RX10 yX10_next yX10_next ∈ wsQ := wq_7 (List.mem_of_getElem? (i := 183) rfl) rfl
theorem td_X10_next : Cond.code yX10_next cX10_next 3 (some .int) ∈ wsQ := wq_7 (List.mem_of_getElem? (i := 184) rfl) rfl
theorem tm_RL_95 : Cond.methodLink RL 95 yX10_meet ∈ wsQ := wq_7 (List.mem_of_getElem? (i := 185) rfl) rfl
theorem ti_X10_meet : Cond.instanceMethod yX10_meet ∈ wsQ := wq_7 (List.mem_of_getElem? (i := 186) rfl) rfl
theorem tl_X10_meet : Cond.selects RX10 yX10_meet yX10_meet ∈ wsQ := wq_7 (List.mem_of_getElem? (i := 187) rfl) rfl
theorem td_X10_meet : Cond.code yX10_meet cX10_meet 4 (some .int) ∈ wsQ := wq_7 (List.mem_of_getElem? (i := 188) rfl) rfl
theorem tm_RL_99 : Cond.methodLink RL 99 yX10_goes ∈ wsQ := wq_7 (List.mem_of_getElem? (i := 189) rfl) rfl
theorem ti_X10_goes : Cond.instanceMethod yX10_goes ∈ wsQ := wq_7 (List.mem_of_getElem? (i := 190) rfl) rfl
theorem tl_X10_goes : Cond.selects RX10 yX10_goes yX10_goes ∈ wsQ := wq_7 (List.mem_of_getElem? (i := 191) rfl) rfl
theorem td_X10_goes : Cond.code yX10_goes cX10_goes 3 (some .int) ∈ wsQ := wq_7 (List.mem_of_getElem? (i := 192) rfl) rfl
theorem tm_RL_103 : Cond.methodLink RL 103 yX10_empty ∈ wsQ := wq_7 (List.mem_of_getElem? (i := 193) rfl) rfl
theorem ti_X10_empty : Cond.instanceMethod yX10_empty ∈ wsQ := wq_7 (List.mem_of_getElem? (i := 194) rfl) rfl
theorem tl_X10_empty : Cond.selects RX10 yX10_empty yX10_empty ∈ wsQ := wq_7 (List.mem_of_getElem? (i := 195) rfl) rfl
theorem td_X10_empty : Cond.code yX10_empty cX10_empty 2 (some .int) ∈ wsQ := wq_7 (List.mem_of_getElem? (i := 196) rfl) rfl
theorem tm_RL_107 : Cond.methodLink RL 107 yX10_order ∈ wsQ := wq_7 (List.mem_of_getElem? (i := 197) rfl) rfl
theorem ti_X10_order : Cond.instanceMethod yX10_order ∈ wsQ := wq_7 (List.mem_of_getElem? (i := 198) rfl) rfl
theorem tl_X10_order : Cond.selects RX10 yX10_order yX10_order ∈ wsQ := wq_7 (List.mem_of_getElem? (i := 199) rfl) rfl
theorem td_X10_order : Cond.code yX10_order cX10_order 5 (some .int) ∈ wsQ := wq_7 (List.mem_of_getElem? (i := 200) rfl) rfl
theorem tm_RX10_446 : Cond.methodLink RX10 446 yX10_rows ∈ wsQ := wq_7 (List.mem_of_getElem? (i := 201) rfl) rfl
theorem ti_X10_rows : Cond.instanceMethod yX10_rows ∈ wsQ := wq_7 (List.mem_of_getElem? (i := 203) rfl) rfl
theorem td_X10_rows : Cond.code yX10_rows cX10_rows 5 none ∈ wsQ := wq_7 (List.mem_of_getElem? (i := 204) rfl) rfl
theorem tm_RL_111 : Cond.methodLink RL 111 yX10_trips ∈ wsQ := wq_7 (List.mem_of_getElem? (i := 205) rfl) rfl
theorem ti_X10_trips : Cond.instanceMethod yX10_trips ∈ wsQ := wq_7 (List.mem_of_getElem? (i := 206) rfl) rfl
theorem tl_X10_trips : Cond.selects RX10 yX10_trips yX10_trips ∈ wsQ := wq_7 (List.mem_of_getElem? (i := 207) rfl) rfl
theorem td_X10_trips : Cond.code yX10_trips cX10_trips 4 (some .int) ∈ wsQ := wq_7 (List.mem_of_getElem? (i := 208) rfl) rfl
theorem tm_RL_115 : Cond.methodLink RL 115 yX10_match ∈ wsQ := wq_7 (List.mem_of_getElem? (i := 209) rfl) rfl
theorem ti_X10_match : Cond.instanceMethod yX10_match ∈ wsQ := wq_7 (List.mem_of_getElem? (i := 210) rfl) rfl
theorem tl_X10_match : Cond.selects RX10 yX10_match yX10_match ∈ wsQ := wq_7 (List.mem_of_getElem? (i := 211) rfl) rfl
theorem td_X10_match : Cond.code yX10_match cX10_match 2 (some .int) ∈ wsQ := wq_7 (List.mem_of_getElem? (i := 212) rfl) rfl
theorem tm_RX10_455 : Cond.methodLink RX10 455 yX10_matches ∈ wsQ := wq_7 (List.mem_of_getElem? (i := 213) rfl) rfl
theorem ti_X10_matches : Cond.instanceMethod yX10_matches ∈ wsQ := wq_7 (List.mem_of_getElem? (i := 215) rfl) rfl
theorem td_X10_matches : Cond.code yX10_matches cX10_matches 5 none ∈ wsQ := wq_7 (List.mem_of_getElem? (i := 216) rfl) rfl
theorem tm_RL_119 : Cond.methodLink RL 119 yX10_coins ∈ wsQ := wq_7 (List.mem_of_getElem? (i := 217) rfl) rfl
theorem ti_X10_coins : Cond.instanceMethod yX10_coins ∈ wsQ := wq_7 (List.mem_of_getElem? (i := 218) rfl) rfl
theorem tl_X10_coins : Cond.selects RX10 yX10_coins yX10_coins ∈ wsQ := wq_7 (List.mem_of_getElem? (i := 219) rfl) rfl
theorem td_X10_coins : Cond.code yX10_coins cX10_coins 3 (some .int) ∈ wsQ := wq_7 (List.mem_of_getElem? (i := 220) rfl) rfl
theorem tm_RX10_458 : Cond.methodLink RX10 458 yX10_isGoneBy ∈ wsQ := wq_7 (List.mem_of_getElem? (i := 221) rfl) rfl
theorem ti_X10_isGoneBy : Cond.instanceMethod yX10_isGoneBy ∈ wsQ := wq_7 (List.mem_of_getElem? (i := 223) rfl) rfl
theorem td_X10_isGoneBy : Cond.code yX10_isGoneBy cX10_isGoneBy 3 (some .boolean) ∈ wsQ := wq_7 (List.mem_of_getElem? (i := 224) rfl) rfl
theorem tm_RL_123 : Cond.methodLink RL 123 yX10_rests ∈ wsQ := wq_7 (List.mem_of_getElem? (i := 225) rfl) rfl
theorem ti_X10_rests : Cond.instanceMethod yX10_rests ∈ wsQ := wq_7 (List.mem_of_getElem? (i := 226) rfl) rfl
theorem tl_X10_rests : Cond.selects RX10 yX10_rests yX10_rests ∈ wsQ := wq_7 (List.mem_of_getElem? (i := 227) rfl) rfl
theorem td_X10_rests : Cond.code yX10_rests cX10_rests 3 (some .int) ∈ wsQ := wq_7 (List.mem_of_getElem? (i := 228) rfl) rfl
theorem tm_RX10_467 : Cond.methodLink RX10 467 yX10_areTwo ∈ wsQ := wq_7 (List.mem_of_getElem? (i := 229) rfl) rfl
theorem ti_X10_areTwo : Cond.instanceMethod yX10_areTwo ∈ wsQ := wq_7 (List.mem_of_getElem? (i := 231) rfl) rfl
theorem td_X10_areTwo : Cond.code yX10_areTwo cX10_areTwo 3 (some .boolean) ∈ wsQ := wq_7 (List.mem_of_getElem? (i := 232) rfl) rfl
theorem tm_RX10_470 : Cond.methodLink RX10 470 yX10_restOf ∈ wsQ := wq_7 (List.mem_of_getElem? (i := 233) rfl) rfl
theorem ti_X10_restOf : Cond.instanceMethod yX10_restOf ∈ wsQ := wq_7 (List.mem_of_getElem? (i := 235) rfl) rfl
theorem td_X10_restOf : Cond.code yX10_restOf cX10_restOf 6 (some .int) ∈ wsQ := wq_7 (List.mem_of_getElem? (i := 236) rfl) rfl
theorem tm_RX10_464 : Cond.methodLink RX10 464 yX10_isRest ∈ wsQ := wq_7 (List.mem_of_getElem? (i := 237) rfl) rfl
theorem ti_X10_isRest : Cond.instanceMethod yX10_isRest ∈ wsQ := wq_7 (List.mem_of_getElem? (i := 239) rfl) rfl
theorem td_X10_isRest : Cond.code yX10_isRest cX10_isRest 6 (some .boolean) ∈ wsQ := wq_8 (List.mem_of_getElem? (i := 0) rfl) rfl
theorem tm_RX10_461 : Cond.methodLink RX10 461 yX10_hasOf ∈ wsQ := wq_8 (List.mem_of_getElem? (i := 1) rfl) rfl
theorem ti_X10_hasOf : Cond.instanceMethod yX10_hasOf ∈ wsQ := wq_8 (List.mem_of_getElem? (i := 3) rfl) rfl
theorem td_X10_hasOf : Cond.code yX10_hasOf cX10_hasOf 5 (some .int) ∈ wsQ := wq_8 (List.mem_of_getElem? (i := 4) rfl) rfl
theorem tm_RL_127 : Cond.methodLink RL 127 yX10_rest ∈ wsQ := wq_8 (List.mem_of_getElem? (i := 5) rfl) rfl
theorem ti_X10_rest : Cond.instanceMethod yX10_rest ∈ wsQ := wq_8 (List.mem_of_getElem? (i := 6) rfl) rfl
theorem tl_X10_rest : Cond.selects RX10 yX10_rest yX10_rest ∈ wsQ := wq_8 (List.mem_of_getElem? (i := 7) rfl) rfl
theorem td_X10_rest : Cond.code yX10_rest cX10_rest 4 (some .int) ∈ wsQ := wq_8 (List.mem_of_getElem? (i := 8) rfl) rfl
theorem tm_RL_132 : Cond.methodLink RL 132 yX10_dry ∈ wsQ := wq_8 (List.mem_of_getElem? (i := 9) rfl) rfl
theorem ti_X10_dry : Cond.instanceMethod yX10_dry ∈ wsQ := wq_8 (List.mem_of_getElem? (i := 10) rfl) rfl
theorem tl_X10_dry : Cond.selects RX10 yX10_dry yX10_dry ∈ wsQ := wq_8 (List.mem_of_getElem? (i := 11) rfl) rfl
theorem td_X10_dry : Cond.code yX10_dry cX10_dry 9 (some .long) ∈ wsQ := wq_8 (List.mem_of_getElem? (i := 12) rfl) rfl
theorem tc_RX10_474 : Cond.constantLong RX10 474 (-1) ∈ wsQ := wq_8 (List.mem_of_getElem? (i := 13) rfl) rfl
theorem tc_RX10_476 : Cond.constantLong RX10 476 (100) ∈ wsQ := wq_8 (List.mem_of_getElem? (i := 14) rfl) rfl
theorem tm_RX10_478 : Cond.methodLink RX10 478 yX10_common ∈ wsQ := wq_8 (List.mem_of_getElem? (i := 15) rfl) rfl
theorem ts_X10_common : Cond.static yX10_common ∈ wsQ := wq_8 (List.mem_of_getElem? (i := 16) rfl) rfl
theorem td_X10_common : Cond.code yX10_common cX10_common 10 (some .long) ∈ wsQ := wq_8 (List.mem_of_getElem? (i := 17) rfl) rfl
theorem tm_RL_137 : Cond.methodLink RL 137 yX10_see ∈ wsQ := wq_8 (List.mem_of_getElem? (i := 18) rfl) rfl
theorem ti_X10_see : Cond.instanceMethod yX10_see ∈ wsQ := wq_8 (List.mem_of_getElem? (i := 19) rfl) rfl
theorem tl_X10_see : Cond.selects RX10 yX10_see yX10_see ∈ wsQ := wq_8 (List.mem_of_getElem? (i := 20) rfl) rfl
theorem td_X10_see : Cond.code yX10_see cX10_see 4 (some .int) ∈ wsQ := wq_8 (List.mem_of_getElem? (i := 21) rfl) rfl
theorem tm_RL_141 : Cond.methodLink RL 141 yX10_strike ∈ wsQ := wq_8 (List.mem_of_getElem? (i := 22) rfl) rfl
theorem ti_X10_strike : Cond.instanceMethod yX10_strike ∈ wsQ := wq_8 (List.mem_of_getElem? (i := 23) rfl) rfl
theorem tl_X10_strike : Cond.selects RX10 yX10_strike yX10_strike ∈ wsQ := wq_8 (List.mem_of_getElem? (i := 24) rfl) rfl
theorem td_X10_strike : Cond.code yX10_strike cX10_strike 2 (some .int) ∈ wsQ := wq_8 (List.mem_of_getElem? (i := 25) rfl) rfl
theorem tm_RL_146 : Cond.methodLink RL 146 yX10_known ∈ wsQ := wq_8 (List.mem_of_getElem? (i := 26) rfl) rfl
theorem ti_X10_known : Cond.instanceMethod yX10_known ∈ wsQ := wq_8 (List.mem_of_getElem? (i := 27) rfl) rfl
theorem tl_X10_known : Cond.selects RX10 yX10_known yX10_known ∈ wsQ := wq_8 (List.mem_of_getElem? (i := 28) rfl) rfl
theorem td_X10_known : Cond.code yX10_known cX10_known 2 (some .boolean) ∈ wsQ := wq_8 (List.mem_of_getElem? (i := 29) rfl) rfl
theorem tm_RL_150 : Cond.methodLink RL 150 yX10_everies ∈ wsQ := wq_8 (List.mem_of_getElem? (i := 30) rfl) rfl
theorem ti_X10_everies : Cond.instanceMethod yX10_everies ∈ wsQ := wq_8 (List.mem_of_getElem? (i := 31) rfl) rfl
theorem tl_X10_everies : Cond.selects RX10 yX10_everies yX10_everies ∈ wsQ := wq_8 (List.mem_of_getElem? (i := 32) rfl) rfl
theorem td_X10_everies : Cond.code yX10_everies cX10_everies 2 (some .int) ∈ wsQ := wq_8 (List.mem_of_getElem? (i := 33) rfl) rfl
theorem tm_RX10_490 : Cond.methodLink RX10 490 yX10_everiesOf ∈ wsQ := wq_8 (List.mem_of_getElem? (i := 34) rfl) rfl
theorem ti_X10_everiesOf : Cond.instanceMethod yX10_everiesOf ∈ wsQ := wq_8 (List.mem_of_getElem? (i := 36) rfl) rfl
theorem td_X10_everiesOf : Cond.code yX10_everiesOf cX10_everiesOf 5 (some .int) ∈ wsQ := wq_8 (List.mem_of_getElem? (i := 37) rfl) rfl
theorem tm_RX10_481 : Cond.methodLink RX10 481 yX10_knownMany ∈ wsQ := wq_8 (List.mem_of_getElem? (i := 38) rfl) rfl
theorem ti_X10_knownMany : Cond.instanceMethod yX10_knownMany ∈ wsQ := wq_8 (List.mem_of_getElem? (i := 40) rfl) rfl
theorem td_X10_knownMany : Cond.code yX10_knownMany cX10_knownMany 1 (some .int) ∈ wsQ := wq_8 (List.mem_of_getElem? (i := 41) rfl) rfl
theorem tm_RX10_487 : Cond.methodLink RX10 487 yX10_fitsEvery ∈ wsQ := wq_8 (List.mem_of_getElem? (i := 42) rfl) rfl
theorem ti_X10_fitsEvery : Cond.instanceMethod yX10_fitsEvery ∈ wsQ := wq_8 (List.mem_of_getElem? (i := 44) rfl) rfl
theorem td_X10_fitsEvery : Cond.code yX10_fitsEvery cX10_fitsEvery 3 (some .boolean) ∈ wsQ := wq_8 (List.mem_of_getElem? (i := 45) rfl) rfl
theorem tm_RX10_484 : Cond.methodLink RX10 484 yX10_isSo ∈ wsQ := wq_8 (List.mem_of_getElem? (i := 46) rfl) rfl
theorem ti_X10_isSo : Cond.instanceMethod yX10_isSo ∈ wsQ := wq_8 (List.mem_of_getElem? (i := 48) rfl) rfl
theorem td_X10_isSo : Cond.code yX10_isSo cX10_isSo 3 (some .boolean) ∈ wsQ := wq_8 (List.mem_of_getElem? (i := 49) rfl) rfl
theorem tm_RL_154 : Cond.methodLink RL 154 yX10_ask ∈ wsQ := wq_8 (List.mem_of_getElem? (i := 50) rfl) rfl
theorem ti_X10_ask : Cond.instanceMethod yX10_ask ∈ wsQ := wq_8 (List.mem_of_getElem? (i := 51) rfl) rfl
theorem tl_X10_ask : Cond.selects RX10 yX10_ask yX10_ask ∈ wsQ := wq_8 (List.mem_of_getElem? (i := 52) rfl) rfl
theorem td_X10_ask : Cond.code yX10_ask cX10_ask 10 (some .int) ∈ wsQ := wq_8 (List.mem_of_getElem? (i := 53) rfl) rfl
theorem tm_RL_159 : Cond.methodLink RL 159 yX10_chance ∈ wsQ := wq_8 (List.mem_of_getElem? (i := 54) rfl) rfl
theorem ti_X10_chance : Cond.instanceMethod yX10_chance ∈ wsQ := wq_8 (List.mem_of_getElem? (i := 55) rfl) rfl
theorem tl_X10_chance : Cond.selects RX10 yX10_chance yX10_chance ∈ wsQ := wq_8 (List.mem_of_getElem? (i := 56) rfl) rfl
theorem td_X10_chance : Cond.code yX10_chance cX10_chance 9 (some .int) ∈ wsQ := wq_8 (List.mem_of_getElem? (i := 57) rfl) rfl
theorem tm_RL_163 : Cond.methodLink RL 163 yX10_tried ∈ wsQ := wq_8 (List.mem_of_getElem? (i := 58) rfl) rfl
theorem ti_X10_tried : Cond.instanceMethod yX10_tried ∈ wsQ := wq_8 (List.mem_of_getElem? (i := 59) rfl) rfl
theorem tl_X10_tried : Cond.selects RX10 yX10_tried yX10_tried ∈ wsQ := wq_8 (List.mem_of_getElem? (i := 60) rfl) rfl
theorem td_X10_tried : Cond.code yX10_tried cX10_tried 6 (some .int) ∈ wsQ := wq_8 (List.mem_of_getElem? (i := 61) rfl) rfl
theorem tm_RL_167 : Cond.methodLink RL 167 yX10_undo ∈ wsQ := wq_8 (List.mem_of_getElem? (i := 62) rfl) rfl
theorem ti_X10_undo : Cond.instanceMethod yX10_undo ∈ wsQ := wq_8 (List.mem_of_getElem? (i := 63) rfl) rfl
theorem tl_X10_undo : Cond.selects RX10 yX10_undo yX10_undo ∈ wsQ := wq_8 (List.mem_of_getElem? (i := 64) rfl) rfl
theorem td_X10_undo : Cond.code yX10_undo cX10_undo 1 (some .int) ∈ wsQ := wq_8 (List.mem_of_getElem? (i := 65) rfl) rfl
theorem tm_RL_171 : Cond.methodLink RL 171 yX10_keep ∈ wsQ := wq_8 (List.mem_of_getElem? (i := 66) rfl) rfl
theorem ti_X10_keep : Cond.instanceMethod yX10_keep ∈ wsQ := wq_8 (List.mem_of_getElem? (i := 67) rfl) rfl
theorem tl_X10_keep : Cond.selects RX10 yX10_keep yX10_keep ∈ wsQ := wq_8 (List.mem_of_getElem? (i := 68) rfl) rfl
theorem td_X10_keep : Cond.code yX10_keep cX10_keep 1 (some .int) ∈ wsQ := wq_8 (List.mem_of_getElem? (i := 69) rfl) rfl
theorem tm_RL_175 : Cond.methodLink RL 175 yX10_back ∈ wsQ := wq_8 (List.mem_of_getElem? (i := 70) rfl) rfl
theorem ti_X10_back : Cond.instanceMethod yX10_back ∈ wsQ := wq_8 (List.mem_of_getElem? (i := 71) rfl) rfl
theorem tl_X10_back : Cond.selects RX10 yX10_back yX10_back ∈ wsQ := wq_8 (List.mem_of_getElem? (i := 72) rfl) rfl
theorem td_X10_back : Cond.code yX10_back cX10_back 1 (some .int) ∈ wsQ := wq_8 (List.mem_of_getElem? (i := 73) rfl) rfl
theorem tm_RL_179 : Cond.methodLink RL 179 yX10_count ∈ wsQ := wq_8 (List.mem_of_getElem? (i := 74) rfl) rfl
theorem ti_X10_count : Cond.instanceMethod yX10_count ∈ wsQ := wq_8 (List.mem_of_getElem? (i := 75) rfl) rfl
theorem tl_X10_count : Cond.selects RX10 yX10_count yX10_count ∈ wsQ := wq_8 (List.mem_of_getElem? (i := 76) rfl) rfl
theorem td_X10_count : Cond.code yX10_count cX10_count 2 (some .int) ∈ wsQ := wq_8 (List.mem_of_getElem? (i := 77) rfl) rfl
theorem tf_RJ0_9 : Cond.fieldLink RJ0 9 "java/lang/String" "value" "[B" ∈ wsQ := wq_8 (List.mem_of_getElem? (i := 94) rfl) rfl
theorem tf_RJ0_15 : Cond.fieldLink RJ0 15 "java/lang/String" "coder" "B" ∈ wsQ := wq_8 (List.mem_of_getElem? (i := 95) rfl) rfl
theorem tl_X9_putNumber : Cond.selects RX9 yX9_putNumber yX9_putNumber ∈ wsQ := wq_p1 (List.mem_of_getElem? (i := 0) rfl) rfl
theorem tl_X7_readWord : Cond.selects RX7 yX7_readWord yX7_readWord ∈ wsQ := wq_p1 (List.mem_of_getElem? (i := 1) rfl) rfl
theorem tl_X7_readNumber : Cond.selects RX7 yX7_readNumber yX7_readNumber ∈ wsQ := wq_p1 (List.mem_of_getElem? (i := 2) rfl) rfl
theorem tl_X7_readSign : Cond.selects RX7 yX7_readSign yX7_readSign ∈ wsQ := wq_p1 (List.mem_of_getElem? (i := 3) rfl) rfl
theorem tl_X4_readLine : Cond.selects RX4 yX4_readLine yX4_readLine ∈ wsQ := wq_p1 (List.mem_of_getElem? (i := 4) rfl) rfl
theorem tl_X4_readSoul : Cond.selects RX4 yX4_readSoul yX4_readSoul ∈ wsQ := wq_p1 (List.mem_of_getElem? (i := 5) rfl) rfl
theorem tl_X4_refuse : Cond.selects RX4 yX4_refuse yX4_refuse ∈ wsQ := wq_p1 (List.mem_of_getElem? (i := 6) rfl) rfl
theorem tl_X4_readNewName : Cond.selects RX4 yX4_readNewName yX4_readNewName ∈ wsQ := wq_p1 (List.mem_of_getElem? (i := 7) rfl) rfl
theorem tl_X4_readNumber : Cond.selects RX4 yX4_readNumber yX4_readNumber ∈ wsQ := wq_p1 (List.mem_of_getElem? (i := 8) rfl) rfl
theorem tl_X4_readBus : Cond.selects RX4 yX4_readBus yX4_readBus ∈ wsQ := wq_p1 (List.mem_of_getElem? (i := 9) rfl) rfl
theorem tl_X4_readLets : Cond.selects RX4 yX4_readLets yX4_readLets ∈ wsQ := wq_p1 (List.mem_of_getElem? (i := 10) rfl) rfl
theorem tl_X4_readOnce : Cond.selects RX4 yX4_readOnce yX4_readOnce ∈ wsQ := wq_p1 (List.mem_of_getElem? (i := 11) rfl) rfl
theorem tl_X4_readLaw : Cond.selects RX4 yX4_readLaw yX4_readLaw ∈ wsQ := wq_p1 (List.mem_of_getElem? (i := 12) rfl) rfl
theorem tl_X1_putSigns : Cond.selects RX1 yX1_putSigns yX1_putSigns ∈ wsQ := wq_p1 (List.mem_of_getElem? (i := 13) rfl) rfl
theorem tl_X1_takeValue : Cond.selects RX1 yX1_takeValue yX1_takeValue ∈ wsQ := wq_p1 (List.mem_of_getElem? (i := 14) rfl) rfl
theorem tl_X1_takeOpen : Cond.selects RX1 yX1_takeOpen yX1_takeOpen ∈ wsQ := wq_p1 (List.mem_of_getElem? (i := 15) rfl) rfl
theorem tl_X1_push : Cond.selects RX1 yX1_push yX1_push ∈ wsQ := wq_p2 (List.mem_of_getElem? (i := 0) rfl) rfl
theorem tl_X1_takeSign : Cond.selects RX1 yX1_takeSign yX1_takeSign ∈ wsQ := wq_p2 (List.mem_of_getElem? (i := 1) rfl) rfl
theorem tl_X9_isBus : Cond.selects RX9 yX9_isBus yX9_isBus ∈ wsQ := wq_p2 (List.mem_of_getElem? (i := 2) rfl) rfl
theorem tl_X9_goneByBus : Cond.selects RX9 yX9_goneByBus yX9_goneByBus ∈ wsQ := wq_p2 (List.mem_of_getElem? (i := 3) rfl) rfl
theorem tl_X9_isSoul : Cond.selects RX9 yX9_isSoul yX9_isSoul ∈ wsQ := wq_p2 (List.mem_of_getElem? (i := 4) rfl) rfl
theorem tl_X0_forgetOldest : Cond.selects RX0 yX0_forgetOldest yX0_forgetOldest ∈ wsQ := wq_p2 (List.mem_of_getElem? (i := 5) rfl) rfl
theorem tl_X3_letCome : Cond.selects RX3 yX3_letCome yX3_letCome ∈ wsQ := wq_p2 (List.mem_of_getElem? (i := 6) rfl) rfl
theorem tl_X3_comes : Cond.selects RX3 yX3_comes yX3_comes ∈ wsQ := wq_p2 (List.mem_of_getElem? (i := 7) rfl) rfl
theorem tl_X3_board : Cond.selects RX3 yX3_board yX3_board ∈ wsQ := wq_p2 (List.mem_of_getElem? (i := 8) rfl) rfl
theorem tl_X3_findTurns : Cond.selects RX3 yX3_findTurns yX3_findTurns ∈ wsQ := wq_p2 (List.mem_of_getElem? (i := 9) rfl) rfl
theorem tl_X3_firstToBoard : Cond.selects RX3 yX3_firstToBoard yX3_firstToBoard ∈ wsQ := wq_p2 (List.mem_of_getElem? (i := 10) rfl) rfl
theorem tl_X3_rains : Cond.selects RX3 yX3_rains yX3_rains ∈ wsQ := wq_p2 (List.mem_of_getElem? (i := 11) rfl) rfl
theorem tl_X3_soak : Cond.selects RX3 yX3_soak yX3_soak ∈ wsQ := wq_p2 (List.mem_of_getElem? (i := 12) rfl) rfl
theorem tl_X9_tryFromNow : Cond.selects RX9 yX9_tryFromNow yX9_tryFromNow ∈ wsQ := wq_p2 (List.mem_of_getElem? (i := 13) rfl) rfl
theorem tl_X9_kindnessGone : Cond.selects RX9 yX9_kindnessGone yX9_kindnessGone ∈ wsQ := wq_p2 (List.mem_of_getElem? (i := 14) rfl) rfl
theorem tl_X9_sum : Cond.selects RX9 yX9_sum yX9_sum ∈ wsQ := wq_p2 (List.mem_of_getElem? (i := 15) rfl) rfl
theorem tl_X9_firstFrom : Cond.selects RX9 yX9_firstFrom yX9_firstFrom ∈ wsQ := wq_p3 (List.mem_of_getElem? (i := 0) rfl) rfl
theorem tl_X9_isEmpty : Cond.selects RX9 yX9_isEmpty yX9_isEmpty ∈ wsQ := wq_p3 (List.mem_of_getElem? (i := 1) rfl) rfl
theorem tl_X9_bestOrder : Cond.selects RX9 yX9_bestOrder yX9_bestOrder ∈ wsQ := wq_p3 (List.mem_of_getElem? (i := 2) rfl) rfl
theorem tl_X9_sortFirst : Cond.selects RX9 yX9_sortFirst yX9_sortFirst ∈ wsQ := wq_p3 (List.mem_of_getElem? (i := 3) rfl) rfl
theorem tl_X9_pickRow : Cond.selects RX9 yX9_pickRow yX9_pickRow ∈ wsQ := wq_p3 (List.mem_of_getElem? (i := 4) rfl) rfl
theorem tl_X9_kindnessBehindRow : Cond.selects RX9 yX9_kindnessBehindRow yX9_kindnessBehindRow ∈ wsQ := wq_p3 (List.mem_of_getElem? (i := 5) rfl) rfl
theorem tl_X9_bestMatch : Cond.selects RX9 yX9_bestMatch yX9_bestMatch ∈ wsQ := wq_p3 (List.mem_of_getElem? (i := 6) rfl) rfl
theorem tl_X9_pickMatch : Cond.selects RX9 yX9_pickMatch yX9_pickMatch ∈ wsQ := wq_p3 (List.mem_of_getElem? (i := 7) rfl) rfl
theorem tl_X9_isRest : Cond.selects RX9 yX9_isRest yX9_isRest ∈ wsQ := wq_p3 (List.mem_of_getElem? (i := 8) rfl) rfl
theorem tl_X9_windowFor : Cond.selects RX9 yX9_windowFor yX9_windowFor ∈ wsQ := wq_p3 (List.mem_of_getElem? (i := 9) rfl) rfl
theorem tl_X9_isAllSo : Cond.selects RX9 yX9_isAllSo yX9_isAllSo ∈ wsQ := wq_p3 (List.mem_of_getElem? (i := 10) rfl) rfl
theorem tl_X9_sendAway : Cond.selects RX9 yX9_sendAway yX9_sendAway ∈ wsQ := wq_p3 (List.mem_of_getElem? (i := 11) rfl) rfl
theorem tl_X9_goneWith : Cond.selects RX9 yX9_goneWith yX9_goneWith ∈ wsQ := wq_p3 (List.mem_of_getElem? (i := 13) rfl) rfl
theorem tl_X10_begins : Cond.selects RX10 yX10_begins yX10_begins ∈ wsQ := wq_p3 (List.mem_of_getElem? (i := 14) rfl) rfl
theorem tl_X10_starts : Cond.selects RX10 yX10_starts yX10_starts ∈ wsQ := wq_p3 (List.mem_of_getElem? (i := 15) rfl) rfl
theorem tl_X10_reads : Cond.selects RX10 yX10_reads yX10_reads ∈ wsQ := wq_p4 (List.mem_of_getElem? (i := 0) rfl) rfl
theorem tl_X10_token : Cond.selects RX10 yX10_token yX10_token ∈ wsQ := wq_p4 (List.mem_of_getElem? (i := 1) rfl) rfl
theorem tl_X10_here : Cond.selects RX10 yX10_here yX10_here ∈ wsQ := wq_p4 (List.mem_of_getElem? (i := 2) rfl) rfl
theorem tl_X10_word : Cond.selects RX10 yX10_word yX10_word ∈ wsQ := wq_p4 (List.mem_of_getElem? (i := 3) rfl) rfl
theorem tl_X10_name : Cond.selects RX10 yX10_name yX10_name ∈ wsQ := wq_p4 (List.mem_of_getElem? (i := 4) rfl) rfl
theorem tl_X10_sign : Cond.selects RX10 yX10_sign yX10_sign ∈ wsQ := wq_p4 (List.mem_of_getElem? (i := 5) rfl) rfl
theorem tl_X10_line : Cond.selects RX10 yX10_line yX10_line ∈ wsQ := wq_p4 (List.mem_of_getElem? (i := 6) rfl) rfl
theorem tl_X10_wrong : Cond.selects RX10 yX10_wrong yX10_wrong ∈ wsQ := wq_p4 (List.mem_of_getElem? (i := 7) rfl) rfl
theorem tl_X10_isFull : Cond.selects RX10 yX10_isFull yX10_isFull ∈ wsQ := wq_p4 (List.mem_of_getElem? (i := 8) rfl) rfl
theorem tl_X10_fresher : Cond.selects RX10 yX10_fresher yX10_fresher ∈ wsQ := wq_p4 (List.mem_of_getElem? (i := 9) rfl) rfl
theorem tl_X10_fresh : Cond.selects RX10 yX10_fresh yX10_fresh ∈ wsQ := wq_p4 (List.mem_of_getElem? (i := 10) rfl) rfl
theorem tl_X10_numeral : Cond.selects RX10 yX10_numeral yX10_numeral ∈ wsQ := wq_p4 (List.mem_of_getElem? (i := 11) rfl) rfl
theorem tl_X10_letsLine : Cond.selects RX10 yX10_letsLine yX10_letsLine ∈ wsQ := wq_p4 (List.mem_of_getElem? (i := 12) rfl) rfl
theorem tl_X10_soulAtHand : Cond.selects RX10 yX10_soulAtHand yX10_soulAtHand ∈ wsQ := wq_p4 (List.mem_of_getElem? (i := 13) rfl) rfl
theorem tl_X10_goOn : Cond.selects RX10 yX10_goOn yX10_goOn ∈ wsQ := wq_p4 (List.mem_of_getElem? (i := 14) rfl) rfl
theorem tl_X10_lawLine : Cond.selects RX10 yX10_lawLine yX10_lawLine ∈ wsQ := wq_p4 (List.mem_of_getElem? (i := 15) rfl) rfl
theorem tl_X10_expression : Cond.selects RX10 yX10_expression yX10_expression ∈ wsQ := wq_p5 (List.mem_of_getElem? (i := 0) rfl) rfl
theorem tl_X10_conjunction : Cond.selects RX10 yX10_conjunction yX10_conjunction ∈ wsQ := wq_p5 (List.mem_of_getElem? (i := 1) rfl) rfl
theorem tl_X10_negation : Cond.selects RX10 yX10_negation yX10_negation ∈ wsQ := wq_p5 (List.mem_of_getElem? (i := 2) rfl) rfl
theorem tl_X10_isWord : Cond.selects RX10 yX10_isWord yX10_isWord ∈ wsQ := wq_p5 (List.mem_of_getElem? (i := 3) rfl) rfl
theorem tl_X10_knot : Cond.selects RX10 yX10_knot yX10_knot ∈ wsQ := wq_p5 (List.mem_of_getElem? (i := 4) rfl) rfl
theorem tl_X10_puts : Cond.selects RX10 yX10_puts yX10_puts ∈ wsQ := wq_p5 (List.mem_of_getElem? (i := 5) rfl) rfl
theorem tl_X10_sum : Cond.selects RX10 yX10_sum yX10_sum ∈ wsQ := wq_p5 (List.mem_of_getElem? (i := 6) rfl) rfl
theorem tl_X10_product : Cond.selects RX10 yX10_product yX10_product ∈ wsQ := wq_p5 (List.mem_of_getElem? (i := 7) rfl) rfl
theorem tl_X10_primary : Cond.selects RX10 yX10_primary yX10_primary ∈ wsQ := wq_p5 (List.mem_of_getElem? (i := 8) rfl) rfl
theorem tl_X10_isSign : Cond.selects RX10 yX10_isSign yX10_isSign ∈ wsQ := wq_p5 (List.mem_of_getElem? (i := 9) rfl) rfl
theorem tl_X10_isSoul : Cond.selects RX10 yX10_isSoul yX10_isSoul ∈ wsQ := wq_p5 (List.mem_of_getElem? (i := 10) rfl) rfl
theorem tl_X10_placeOf : Cond.selects RX10 yX10_placeOf yX10_placeOf ∈ wsQ := wq_p5 (List.mem_of_getElem? (i := 11) rfl) rfl
theorem tl_X10_withSoul : Cond.selects RX10 yX10_withSoul yX10_withSoul ∈ wsQ := wq_p5 (List.mem_of_getElem? (i := 12) rfl) rfl
theorem tl_X10_isBus : Cond.selects RX10 yX10_isBus yX10_isBus ∈ wsQ := wq_p5 (List.mem_of_getElem? (i := 13) rfl) rfl
theorem tl_X10_goneWith : Cond.selects RX10 yX10_goneWith yX10_goneWith ∈ wsQ := wq_p5 (List.mem_of_getElem? (i := 14) rfl) rfl
theorem tl_X10_hasLaw : Cond.selects RX10 yX10_hasLaw yX10_hasLaw ∈ wsQ := wq_p5 (List.mem_of_getElem? (i := 15) rfl) rfl
theorem tl_X10_calls : Cond.selects RX10 yX10_calls yX10_calls ∈ wsQ := wq_p6 (List.mem_of_getElem? (i := 0) rfl) rfl
theorem tl_X10_comesOut : Cond.selects RX10 yX10_comesOut yX10_comesOut ∈ wsQ := wq_p6 (List.mem_of_getElem? (i := 1) rfl) rfl
theorem tl_X10_works : Cond.selects RX10 yX10_works yX10_works ∈ wsQ := wq_p6 (List.mem_of_getElem? (i := 2) rfl) rfl
theorem tl_X10_keepNow : Cond.selects RX10 yX10_keepNow yX10_keepNow ∈ wsQ := wq_p6 (List.mem_of_getElem? (i := 3) rfl) rfl
theorem tl_X10_copies : Cond.selects RX10 yX10_copies yX10_copies ∈ wsQ := wq_p6 (List.mem_of_getElem? (i := 4) rfl) rfl
theorem tl_X10_leaves : Cond.selects RX10 yX10_leaves yX10_leaves ∈ wsQ := wq_p6 (List.mem_of_getElem? (i := 5) rfl) rfl
theorem tl_X10_passes : Cond.selects RX10 yX10_passes yX10_passes ∈ wsQ := wq_p6 (List.mem_of_getElem? (i := 6) rfl) rfl
theorem tl_X10_joins : Cond.selects RX10 yX10_joins yX10_joins ∈ wsQ := wq_p6 (List.mem_of_getElem? (i := 7) rfl) rfl
theorem tl_X10_isComing : Cond.selects RX10 yX10_isComing yX10_isComing ∈ wsQ := wq_p6 (List.mem_of_getElem? (i := 8) rfl) rfl
theorem tl_X10_everyOf : Cond.selects RX10 yX10_everyOf yX10_everyOf ∈ wsQ := wq_p6 (List.mem_of_getElem? (i := 9) rfl) rfl
theorem tl_X10_stops : Cond.selects RX10 yX10_stops yX10_stops ∈ wsQ := wq_p6 (List.mem_of_getElem? (i := 10) rfl) rfl
theorem tl_X10_mayRide : Cond.selects RX10 yX10_mayRide yX10_mayRide ∈ wsQ := wq_p6 (List.mem_of_getElem? (i := 11) rfl) rfl
theorem tl_X10_within : Cond.selects RX10 yX10_within yX10_within ∈ wsQ := wq_p6 (List.mem_of_getElem? (i := 12) rfl) rfl
theorem tl_X10_nextOn : Cond.selects RX10 yX10_nextOn yX10_nextOn ∈ wsQ := wq_p6 (List.mem_of_getElem? (i := 13) rfl) rfl
theorem tl_X10_doesLet : Cond.selects RX10 yX10_doesLet yX10_doesLet ∈ wsQ := wq_p6 (List.mem_of_getElem? (i := 14) rfl) rfl
theorem tl_X10_doesRain : Cond.selects RX10 yX10_doesRain yX10_doesRain ∈ wsQ := wq_p6 (List.mem_of_getElem? (i := 15) rfl) rfl
theorem tl_X10_runs : Cond.selects RX10 yX10_runs yX10_runs ∈ wsQ := wq_p7 (List.mem_of_getElem? (i := 0) rfl) rfl
theorem tl_X10_goesOn : Cond.selects RX10 yX10_goesOn yX10_goesOn ∈ wsQ := wq_p7 (List.mem_of_getElem? (i := 1) rfl) rfl
theorem tl_X10_soulsOf : Cond.selects RX10 yX10_soulsOf yX10_soulsOf ∈ wsQ := wq_p7 (List.mem_of_getElem? (i := 2) rfl) rfl
theorem tl_X10_kindness : Cond.selects RX10 yX10_kindness yX10_kindness ∈ wsQ := wq_p7 (List.mem_of_getElem? (i := 3) rfl) rfl
theorem tl_X10_allOf : Cond.selects RX10 yX10_allOf yX10_allOf ∈ wsQ := wq_p7 (List.mem_of_getElem? (i := 4) rfl) rfl
theorem tl_X10_rows : Cond.selects RX10 yX10_rows yX10_rows ∈ wsQ := wq_p7 (List.mem_of_getElem? (i := 5) rfl) rfl
theorem tl_X10_matches : Cond.selects RX10 yX10_matches yX10_matches ∈ wsQ := wq_p7 (List.mem_of_getElem? (i := 6) rfl) rfl
theorem tl_X10_isGoneBy : Cond.selects RX10 yX10_isGoneBy yX10_isGoneBy ∈ wsQ := wq_p7 (List.mem_of_getElem? (i := 7) rfl) rfl
theorem tl_X10_areTwo : Cond.selects RX10 yX10_areTwo yX10_areTwo ∈ wsQ := wq_p7 (List.mem_of_getElem? (i := 8) rfl) rfl
theorem tl_X10_restOf : Cond.selects RX10 yX10_restOf yX10_restOf ∈ wsQ := wq_p7 (List.mem_of_getElem? (i := 9) rfl) rfl
theorem tl_X10_isRest : Cond.selects RX10 yX10_isRest yX10_isRest ∈ wsQ := wq_p7 (List.mem_of_getElem? (i := 10) rfl) rfl
theorem tl_X10_hasOf : Cond.selects RX10 yX10_hasOf yX10_hasOf ∈ wsQ := wq_p7 (List.mem_of_getElem? (i := 11) rfl) rfl
theorem tl_X10_everiesOf : Cond.selects RX10 yX10_everiesOf yX10_everiesOf ∈ wsQ := wq_p7 (List.mem_of_getElem? (i := 12) rfl) rfl
theorem tl_X10_knownMany : Cond.selects RX10 yX10_knownMany yX10_knownMany ∈ wsQ := wq_p7 (List.mem_of_getElem? (i := 13) rfl) rfl
theorem tl_X10_fitsEvery : Cond.selects RX10 yX10_fitsEvery yX10_fitsEvery ∈ wsQ := wq_p7 (List.mem_of_getElem? (i := 14) rfl) rfl
theorem tl_X10_isSo : Cond.selects RX10 yX10_isSo yX10_isSo ∈ wsQ := wq_p7 (List.mem_of_getElem? (i := 15) rfl) rfl
set_option maxRecDepth 20000 in
theorem iqX0 : ∀ w ∈ u_ws RX0 TX0 4, w ∈ wsQ := fun w h => by
  have h0 : u_ws RX0 TX0 4 = [524, 526, 528, 530].filterMap (fun i => lw_tbl[i]?) := by decide +kernel
  have h1 : (u_ws RX0 TX0 4).all goodWord = true := by decide +kernel
  have h2 := List.all_eq_true.mp h1 w h
  rw [h0] at h
  obtain ⟨i, -, hi⟩ := List.mem_filterMap.mp h
  exact List.mem_filter.mpr ⟨List.mem_of_getElem? hi, h2⟩
set_option maxRecDepth 20000 in
theorem iqX1 : ∀ w ∈ u_ws RX1 TX1 7, w ∈ wsQ := fun w h => by
  have h0 : u_ws RX1 TX1 7 = [380, 382, 384, 386, 388, 390, 392].filterMap (fun i => lw_tbl[i]?) := by decide +kernel
  have h1 : (u_ws RX1 TX1 7).all goodWord = true := by decide +kernel
  have h2 := List.all_eq_true.mp h1 w h
  rw [h0] at h
  obtain ⟨i, -, hi⟩ := List.mem_filterMap.mp h
  exact List.mem_filter.mpr ⟨List.mem_of_getElem? hi, h2⟩
set_option maxRecDepth 20000 in
theorem iqX2 : ∀ w ∈ u_ws RX2 TX2 7, w ∈ wsQ := fun w h => by
  have h0 : u_ws RX2 TX2 7 = [171, 173, 175, 177, 179, 181, 183].filterMap (fun i => lw_tbl[i]?) := by decide +kernel
  have h1 : (u_ws RX2 TX2 7).all goodWord = true := by decide +kernel
  have h2 := List.all_eq_true.mp h1 w h
  rw [h0] at h
  obtain ⟨i, -, hi⟩ := List.mem_filterMap.mp h
  exact List.mem_filter.mpr ⟨List.mem_of_getElem? hi, h2⟩
set_option maxRecDepth 20000 in
theorem iqX3 : ∀ w ∈ u_ws RX3 TX3 8, w ∈ wsQ := fun w h => by
  have h0 : u_ws RX3 TX3 8 = [496, 498, 500, 502, 504, 506, 508, 510].filterMap (fun i => lw_tbl[i]?) := by decide +kernel
  have h1 : (u_ws RX3 TX3 8).all goodWord = true := by decide +kernel
  have h2 := List.all_eq_true.mp h1 w h
  rw [h0] at h
  obtain ⟨i, -, hi⟩ := List.mem_filterMap.mp h
  exact List.mem_filter.mpr ⟨List.mem_of_getElem? hi, h2⟩
set_option maxRecDepth 20000 in
theorem iqX4 : ∀ w ∈ u_ws RX4 TX4 6, w ∈ wsQ := fun w h => by
  have h0 : u_ws RX4 TX4 6 = [404, 406, 408, 410, 412, 414].filterMap (fun i => lw_tbl[i]?) := by decide +kernel
  have h1 : (u_ws RX4 TX4 6).all goodWord = true := by decide +kernel
  have h2 := List.all_eq_true.mp h1 w h
  rw [h0] at h
  obtain ⟨i, -, hi⟩ := List.mem_filterMap.mp h
  exact List.mem_filter.mpr ⟨List.mem_of_getElem? hi, h2⟩
set_option maxRecDepth 20000 in
theorem iqX5 : ∀ w ∈ u_ws RX5 TX5 5, w ∈ wsQ := fun w h => by
  have h0 : u_ws RX5 TX5 5 = [546, 548, 550, 552, 554].filterMap (fun i => lw_tbl[i]?) := by decide +kernel
  have h1 : (u_ws RX5 TX5 5).all goodWord = true := by decide +kernel
  have h2 := List.all_eq_true.mp h1 w h
  rw [h0] at h
  obtain ⟨i, -, hi⟩ := List.mem_filterMap.mp h
  exact List.mem_filter.mpr ⟨List.mem_of_getElem? hi, h2⟩
set_option maxRecDepth 20000 in
theorem iqX6 : ∀ w ∈ u_ws RX6 TX6 10, w ∈ wsQ := fun w h => by
  have h0 : u_ws RX6 TX6 10 = [456, 458, 460, 462, 464, 466, 468, 470, 472, 474].filterMap (fun i => lw_tbl[i]?) := by decide +kernel
  have h1 : (u_ws RX6 TX6 10).all goodWord = true := by decide +kernel
  have h2 := List.all_eq_true.mp h1 w h
  rw [h0] at h
  obtain ⟨i, -, hi⟩ := List.mem_filterMap.mp h
  exact List.mem_filter.mpr ⟨List.mem_of_getElem? hi, h2⟩
set_option maxRecDepth 20000 in
theorem iqX7 : ∀ w ∈ u_ws RX7 TX7 7, w ∈ wsQ := fun w h => by
  have h0 : u_ws RX7 TX7 7 = [352, 354, 356, 358, 360, 362, 364].filterMap (fun i => lw_tbl[i]?) := by decide +kernel
  have h1 : (u_ws RX7 TX7 7).all goodWord = true := by decide +kernel
  have h2 := List.all_eq_true.mp h1 w h
  rw [h0] at h
  obtain ⟨i, -, hi⟩ := List.mem_filterMap.mp h
  exact List.mem_filter.mpr ⟨List.mem_of_getElem? hi, h2⟩
set_option maxRecDepth 20000 in
theorem iqX8 : ∀ w ∈ u_ws RX8 TX8 17, w ∈ wsQ := fun w h => by
  have h0 : u_ws RX8 TX8 17 = [250, 252, 254, 256, 258, 260, 262, 264, 266, 268, 270, 272, 274, 276, 278, 280, 282].filterMap (fun i => lw_tbl[i]?) := by decide +kernel
  have h1 : (u_ws RX8 TX8 17).all goodWord = true := by decide +kernel
  have h2 := List.all_eq_true.mp h1 w h
  rw [h0] at h
  obtain ⟨i, -, hi⟩ := List.mem_filterMap.mp h
  exact List.mem_filter.mpr ⟨List.mem_of_getElem? hi, h2⟩
set_option maxRecDepth 20000 in
theorem iqX9 : ∀ w ∈ u_ws RX9 TX9 15, w ∈ wsQ := fun w h => by
  have h0 : u_ws RX9 TX9 15 = [576, 578, 580, 582, 584, 586, 588, 590, 592, 594, 596, 598, 600, 602, 604].filterMap (fun i => lw_tbl[i]?) := by decide +kernel
  have h1 : (u_ws RX9 TX9 15).all goodWord = true := by decide +kernel
  have h2 := List.all_eq_true.mp h1 w h
  rw [h0] at h
  obtain ⟨i, -, hi⟩ := List.mem_filterMap.mp h
  exact List.mem_filter.mpr ⟨List.mem_of_getElem? hi, h2⟩
set_option maxRecDepth 20000 in
theorem iqX10 : ∀ w ∈ u_ws RX10 TX10 65, w ∈ wsQ := fun w h => by
  have h0 : u_ws RX10 TX10 65 = [1295, 1297, 1299, 1301, 1303, 1305, 1307, 1309, 1311, 1313, 1315, 1317, 1319, 1321, 1323, 1325, 1327, 1329, 1331, 1333, 1335, 1337, 1339, 1341, 1343, 1345, 1347, 1349, 1351, 1353, 1355, 1357, 1359, 1361, 1363, 1365, 1367, 1369, 1371, 1373, 1375, 1377, 1379, 1381, 1383, 1385, 1387, 1389, 1391, 1393, 1395, 1397, 1399, 1401, 1403, 1405, 1407, 1409, 1411, 1413, 1415, 1417, 1419, 1421, 1423].filterMap (fun i => lw_tbl[i]?) := by decide +kernel
  have h1 : (u_ws RX10 TX10 65).all goodWord = true := by decide +kernel
  have h2 := List.all_eq_true.mp h1 w h
  rw [h0] at h
  obtain ⟨i, -, hi⟩ := List.mem_filterMap.mp h
  exact List.mem_filter.mpr ⟨List.mem_of_getElem? hi, h2⟩
