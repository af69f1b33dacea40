/-! the words that the walks use, by their places in the printed tables -/
abbrev TT : List Cond := lw_tbl.filter goodWord
theorem tt_of {w : Cond} (h : w ∈ lw_tbl) (hg : goodWord w = true) : w ∈ TT := List.mem_filter.mpr ⟨h, hg⟩
theorem t1 {w : Cond} (k : Nat) (hk : tables_1_1[k]? = some w) (hg : goodWord w = true) : w ∈ TT := tt_of (List.mem_append_right _ (List.mem_append_left _ (List.mem_of_getElem? hk))) hg
theorem t2 {w : Cond} (k : Nat) (hk : tables_1_2[k]? = some w) (hg : goodWord w = true) : w ∈ TT := tt_of (List.mem_append_right _ (List.mem_append_right _ (List.mem_append_left _ (List.mem_of_getElem? hk)))) hg
theorem t3 {w : Cond} (k : Nat) (hk : tables_1_3[k]? = some w) (hg : goodWord w = true) : w ∈ TT := tt_of (List.mem_append_right _ (List.mem_append_right _ (List.mem_append_right _ (List.mem_append_left _ (List.mem_of_getElem? hk))))) hg
theorem t4 {w : Cond} (k : Nat) (hk : tables_1_4[k]? = some w) (hg : goodWord w = true) : w ∈ TT := tt_of (List.mem_append_right _ (List.mem_append_right _ (List.mem_append_right _ (List.mem_append_right _ (List.mem_of_getElem? hk))))) hg
theorem t0 {w : Cond} (q : MethodName × Nat) (k : Nat) (hk : lw_privs[k]? = some q) (hw : w = Cond.selects q.1.cls q.1 q.1) (hg : goodWord w = true) : w ∈ TT := tt_of (List.mem_append_left _ (by rw [hw]; exact List.mem_map.mpr ⟨q, List.mem_of_getElem? hk, rfl⟩)) hg
theorem tt_tbl {w : Cond} (h : w ∈ TT) : w ∈ lw_tbl := (List.mem_filter.mp h).1
theorem tt_good {w : Cond} (h : w ∈ TT) : goodWord w = true := (List.mem_filter.mp h).2
theorem tZL : Cond.initialized RL ∈ TT := t1 0 (by decide +kernel) (by decide +kernel)
theorem tZX6 : Cond.initialized RX6 ∈ TT := t1 1 (by decide +kernel) (by decide +kernel)
theorem tZX5 : Cond.initialized RX5 ∈ TT := t1 2 (by decide +kernel) (by decide +kernel)
theorem tZX1 : Cond.initialized RX1 ∈ TT := t1 3 (by decide +kernel) (by decide +kernel)
theorem tZX3 : Cond.initialized RX3 ∈ TT := t1 4 (by decide +kernel) (by decide +kernel)
theorem tZX2 : Cond.initialized RX2 ∈ TT := t1 5 (by decide +kernel) (by decide +kernel)
theorem tZX0 : Cond.initialized RX0 ∈ TT := t1 6 (by decide +kernel) (by decide +kernel)
theorem tZX4 : Cond.initialized RX4 ∈ TT := t1 7 (by decide +kernel) (by decide +kernel)
theorem tZX7 : Cond.initialized RX7 ∈ TT := t1 8 (by decide +kernel) (by decide +kernel)
theorem tZJ10 : Cond.initialized RJ10 ∈ TT := t1 9 (by decide +kernel) (by decide +kernel)
theorem tZJ9 : Cond.initialized RJ9 ∈ TT := t1 10 (by decide +kernel) (by decide +kernel)
theorem tZJ6 : Cond.initialized RJ6 ∈ TT := t1 11 (by decide +kernel) (by decide +kernel)
theorem tZJ7 : Cond.initialized RJ7 ∈ TT := t1 12 (by decide +kernel) (by decide +kernel)
theorem tCL_7 : Cond.classLink RL 7 RX6 ∈ TT := t1 13 (by decide +kernel) (by decide +kernel)
theorem tIX6 : Cond.instantiable RX6 10 ∈ TT := t1 14 (by decide +kernel) (by decide +kernel)
theorem tML_9 : Cond.methodLink RL 9 yX6_init ∈ TT := t1 15 (by decide +kernel) (by decide +kernel)
theorem tMX6_5 : Cond.methodLink RX6 5 objectInit ∈ TT := t1 18 (by decide +kernel) (by decide +kernel)
theorem tCX6_11 : Cond.classLink RX6 11 RX4 ∈ TT := t1 21 (by decide +kernel) (by decide +kernel)
theorem tCX6_17 : Cond.classLink RX6 17 RX5 ∈ TT := t1 23 (by decide +kernel) (by decide +kernel)
theorem tIX5 : Cond.instantiable RX5 4 ∈ TT := t1 24 (by decide +kernel) (by decide +kernel)
theorem tMX5_3 : Cond.methodLink RX5 3 objectInit ∈ TT := t1 28 (by decide +kernel) (by decide +kernel)
theorem tFX5_9 : Cond.fieldLink RX5 9 RX5 "codes" "[I" ∈ TT := t1 29 (by decide +kernel) (by decide +kernel)
theorem tFX5_15 : Cond.fieldLink RX5 15 RX5 "length" "I" ∈ TT := t1 30 (by decide +kernel) (by decide +kernel)
theorem tFX5_19 : Cond.fieldLink RX5 19 RX5 "place" "I" ∈ TT := t1 31 (by decide +kernel) (by decide +kernel)
theorem tFX5_22 : Cond.fieldLink RX5 22 RX5 "isWrong" "Z" ∈ TT := t1 33 (by decide +kernel) (by decide +kernel)
theorem tCX6_24 : Cond.classLink RX6 24 RX1 ∈ TT := t1 45 (by decide +kernel) (by decide +kernel)
theorem tIX1 : Cond.instantiable RX1 4 ∈ TT := t1 46 (by decide +kernel) (by decide +kernel)
theorem tMX1_3 : Cond.methodLink RX1 3 objectInit ∈ TT := t1 50 (by decide +kernel) (by decide +kernel)
theorem tFX1_9 : Cond.fieldLink RX1 9 RX1 "strengths" "[I" ∈ TT := t1 51 (by decide +kernel) (by decide +kernel)
theorem tFX1_15 : Cond.fieldLink RX1 15 RX1 "at" "I" ∈ TT := t1 53 (by decide +kernel) (by decide +kernel)
theorem tFX1_19 : Cond.fieldLink RX1 19 RX1 "cut" "I" ∈ TT := t1 55 (by decide +kernel) (by decide +kernel)
theorem tFX1_22 : Cond.fieldLink RX1 22 RX1 "firstWrong" "I" ∈ TT := t1 57 (by decide +kernel) (by decide +kernel)
theorem tCX6_31 : Cond.classLink RX6 31 RX3 ∈ TT := t1 68 (by decide +kernel) (by decide +kernel)
theorem tIX3 : Cond.instantiable RX3 4 ∈ TT := t1 69 (by decide +kernel) (by decide +kernel)
theorem tMX3_3 : Cond.methodLink RX3 3 objectInit ∈ TT := t1 73 (by decide +kernel) (by decide +kernel)
theorem tFX3_9 : Cond.fieldLink RX3 9 RX3 "skaters" "[I" ∈ TT := t1 74 (by decide +kernel) (by decide +kernel)
theorem tFX3_15 : Cond.fieldLink RX3 15 RX3 "cells" "[I" ∈ TT := t1 75 (by decide +kernel) (by decide +kernel)
theorem tFX3_18 : Cond.fieldLink RX3 18 RX3 "bore" "[Z" ∈ TT := t1 76 (by decide +kernel) (by decide +kernel)
theorem tFX3_22 : Cond.fieldLink RX3 22 RX3 "count" "I" ∈ TT := t1 77 (by decide +kernel) (by decide +kernel)
theorem tCX6_38 : Cond.classLink RX6 38 RX2 ∈ TT := t1 89 (by decide +kernel) (by decide +kernel)
theorem tIX2 : Cond.instantiable RX2 6 ∈ TT := t1 90 (by decide +kernel) (by decide +kernel)
theorem tMX2_3 : Cond.methodLink RX2 3 objectInit ∈ TT := t1 94 (by decide +kernel) (by decide +kernel)
theorem tFX2_9 : Cond.fieldLink RX2 9 RX2 "strengths" "[I" ∈ TT := t1 95 (by decide +kernel) (by decide +kernel)
theorem tFX2_15 : Cond.fieldLink RX2 15 RX2 "high" "I" ∈ TT := t1 99 (by decide +kernel) (by decide +kernel)
theorem tFX2_19 : Cond.fieldLink RX2 19 RX2 "wide" "I" ∈ TT := t1 100 (by decide +kernel) (by decide +kernel)
theorem tFX2_22 : Cond.fieldLink RX2 22 RX2 "frost" "I" ∈ TT := t1 102 (by decide +kernel) (by decide +kernel)
theorem tFX2_25 : Cond.fieldLink RX2 25 RX2 "firstColumn" "I" ∈ TT := t1 104 (by decide +kernel) (by decide +kernel)
theorem tFX2_28 : Cond.fieldLink RX2 28 RX2 "lastColumn" "I" ∈ TT := t1 105 (by decide +kernel) (by decide +kernel)
theorem tCX6_45 : Cond.classLink RX6 45 RX0 ∈ TT := t1 119 (by decide +kernel) (by decide +kernel)
theorem tIX0 : Cond.instantiable RX0 3 ∈ TT := t1 120 (by decide +kernel) (by decide +kernel)
theorem tMX0_3 : Cond.methodLink RX0 3 objectInit ∈ TT := t1 124 (by decide +kernel) (by decide +kernel)
theorem tFX0_9 : Cond.fieldLink RX0 9 RX0 "kinds" "[I" ∈ TT := t1 125 (by decide +kernel) (by decide +kernel)
theorem tFX0_15 : Cond.fieldLink RX0 15 RX0 "weights" "[I" ∈ TT := t1 127 (by decide +kernel) (by decide +kernel)
theorem tFX0_18 : Cond.fieldLink RX0 18 RX0 "count" "I" ∈ TT := t1 129 (by decide +kernel) (by decide +kernel)
theorem tIX4 : Cond.instantiable RX4 3 ∈ TT := t1 138 (by decide +kernel) (by decide +kernel)
theorem tMX4_3 : Cond.methodLink RX4 3 objectInit ∈ TT := t1 142 (by decide +kernel) (by decide +kernel)
theorem tFX4_9 : Cond.fieldLink RX4 9 RX4 "numbers" "[I" ∈ TT := t1 143 (by decide +kernel) (by decide +kernel)
theorem tFX4_15 : Cond.fieldLink RX4 15 RX4 "lane" "I" ∈ TT := t1 146 (by decide +kernel) (by decide +kernel)
theorem tFX4_19 : Cond.fieldLink RX4 19 RX4 "length" "I" ∈ TT := t1 148 (by decide +kernel) (by decide +kernel)
theorem tFX6_13 : Cond.fieldLink RX6 13 RX6 "sheets" "[LSkateBonds$Sheet;" ∈ TT := t1 156 (by decide +kernel) (by decide +kernel)
theorem tFX6_20 : Cond.fieldLink RX6 20 RX6 "text" "LSkateBonds$Text;" ∈ TT := t1 157 (by decide +kernel) (by decide +kernel)
theorem tFX6_27 : Cond.fieldLink RX6 27 RX6 "trial" "LSkateBonds$Deed;" ∈ TT := t1 158 (by decide +kernel) (by decide +kernel)
theorem tFX6_34 : Cond.fieldLink RX6 34 RX6 "readings" "LSkateBonds$Readings;" ∈ TT := t1 159 (by decide +kernel) (by decide +kernel)
theorem tFX6_41 : Cond.fieldLink RX6 41 RX6 "ice" "LSkateBonds$Ice;" ∈ TT := t1 160 (by decide +kernel) (by decide +kernel)
theorem tFX6_48 : Cond.fieldLink RX6 48 RX6 "crew" "LSkateBonds$Crew;" ∈ TT := t1 161 (by decide +kernel) (by decide +kernel)
theorem tFX6_52 : Cond.fieldLink RX6 52 RX6 "draftIce" "LSkateBonds$Ice;" ∈ TT := t1 162 (by decide +kernel) (by decide +kernel)
theorem tFX6_55 : Cond.fieldLink RX6 55 RX6 "draftCrew" "LSkateBonds$Crew;" ∈ TT := t1 163 (by decide +kernel) (by decide +kernel)
theorem tFX6_58 : Cond.fieldLink RX6 58 RX6 "latestFault" "I" ∈ TT := t1 164 (by decide +kernel) (by decide +kernel)
theorem tFX6_62 : Cond.fieldLink RX6 62 RX6 "traced" "I" ∈ TT := t1 165 (by decide +kernel) (by decide +kernel)
theorem tML_13 : Cond.methodLink RL 13 yX6_canal ∈ TT := t1 187 (by decide +kernel) (by decide +kernel)
theorem tMX6_66 : Cond.methodLink RX6 66 yX6_takeText ∈ TT := t1 191 (by decide +kernel) (by decide +kernel)
theorem tMX6_182 : Cond.methodLink RX6 182 yX6_sheetAt ∈ TT := t1 195 (by decide +kernel) (by decide +kernel)
theorem tMX6_96 : Cond.methodLink RX6 96 yX6_isWithin ∈ TT := t1 199 (by decide +kernel) (by decide +kernel)
theorem tMX6_228 : Cond.methodLink RX6 228 yX6_refusalOfLane ∈ TT := t1 202 (by decide +kernel) (by decide +kernel)
theorem tMX5_31 : Cond.methodLink RX5 31 arraycopyName ∈ TT := t1 218 (by decide +kernel) (by decide +kernel)
theorem tMX5_45 : Cond.methodLink RX5 45 yX5_take ∈ TT := t1 229 (by decide +kernel) (by decide +kernel)
theorem tMX5_37 : Cond.methodLink RX5 37 yX5_goesOn ∈ TT := t1 233 (by decide +kernel) (by decide +kernel)
theorem tMX5_49 : Cond.methodLink RX5 49 yX5_sign ∈ TT := t2 12 (by decide +kernel) (by decide +kernel)
theorem tMX6_254 : Cond.methodLink RX6 254 yX6_changeToDraft ∈ TT := t2 18 (by decide +kernel) (by decide +kernel)
theorem tMX6_70 : Cond.methodLink RX6 70 yX6_keepFault ∈ TT := t2 22 (by decide +kernel) (by decide +kernel)
theorem tML_18 : Cond.methodLink RL 18 yX6_ofSkater ∈ TT := t2 26 (by decide +kernel) (by decide +kernel)
theorem tMX2_41 : Cond.methodLink RX2 41 yX2_cells ∈ TT := t2 43 (by decide +kernel) (by decide +kernel)
theorem tML_23 : Cond.methodLink RL 23 yX6_strength ∈ TT := t2 47 (by decide +kernel) (by decide +kernel)
theorem tML_28 : Cond.methodLink RL 28 yX6_freeze ∈ TT := t2 56 (by decide +kernel) (by decide +kernel)
theorem tML_32 : Cond.methodLink RL 32 yX6_frost ∈ TT := t2 60 (by decide +kernel) (by decide +kernel)
theorem tMX6_100 : Cond.methodLink RX6 100 yX6_refusalOfWeather ∈ TT := t2 64 (by decide +kernel) (by decide +kernel)
theorem tML_36 : Cond.methodLink RL 36 yX6_deed ∈ TT := t2 69 (by decide +kernel) (by decide +kernel)
theorem tMX6_106 : Cond.methodLink RX6 106 yX6_isDeedKnown ∈ TT := t2 73 (by decide +kernel) (by decide +kernel)
theorem tMX6_257 : Cond.methodLink RX6 257 yX6_isPair ∈ TT := t2 77 (by decide +kernel) (by decide +kernel)
theorem tMX6_110 : Cond.methodLink RX6 110 yX6_tryDeed ∈ TT := t2 81 (by decide +kernel) (by decide +kernel)
theorem tMX6_196 : Cond.methodLink RX6 196 yX6_refusalOfPart ∈ TT := t2 85 (by decide +kernel) (by decide +kernel)
theorem tMX1_28 : Cond.methodLink RX1 28 arraycopyName ∈ TT := t2 92 (by decide +kernel) (by decide +kernel)
theorem tMX6_114 : Cond.methodLink RX6 114 yX6_ofTrial ∈ TT := t2 104 (by decide +kernel) (by decide +kernel)
theorem tML_41 : Cond.methodLink RL 41 yX6_write ∈ TT := t2 108 (by decide +kernel) (by decide +kernel)
theorem tMX6_121 : Cond.methodLink RX6 121 arraycopyName ∈ TT := t2 112 (by decide +kernel) (by decide +kernel)
theorem tML_46 : Cond.methodLink RL 46 yX6_nights ∈ TT := t2 113 (by decide +kernel) (by decide +kernel)
theorem tMX2_49 : Cond.methodLink RX2 49 yJ9_min_7cf53 ∈ TT := t2 121 (by decide +kernel) (by decide +kernel)
theorem tMX2_54 : Cond.methodLink RX2 54 yJ9_max_7cf53 ∈ TT := t2 124 (by decide +kernel) (by decide +kernel)
theorem tML_50 : Cond.methodLink RL 50 yX6_thaw ∈ TT := t2 131 (by decide +kernel) (by decide +kernel)
theorem tML_54 : Cond.methodLink RL 54 yX6_bond ∈ TT := t2 135 (by decide +kernel) (by decide +kernel)
theorem tMX6_134 : Cond.methodLink RX6 134 yX6_isBondKnown ∈ TT := t2 139 (by decide +kernel) (by decide +kernel)
theorem tMX2_64 : Cond.methodLink RX2 64 yX2_nextTo ∈ TT := t2 147 (by decide +kernel) (by decide +kernel)
theorem tMX2_61 : Cond.methodLink RX2 61 yX2_all ∈ TT := t2 151 (by decide +kernel) (by decide +kernel)
theorem tMX2_68 : Cond.methodLink RX2 68 yX2_beginOfBond ∈ TT := t2 159 (by decide +kernel) (by decide +kernel)
theorem tMX2_75 : Cond.methodLink RX2 75 yX2_shortest ∈ TT := t2 163 (by decide +kernel) (by decide +kernel)
theorem tMX2_72 : Cond.methodLink RX2 72 yX2_led ∈ TT := t2 164 (by decide +kernel) (by decide +kernel)
theorem tML_59 : Cond.methodLink RL 59 yX6_holds ∈ TT := t2 165 (by decide +kernel) (by decide +kernel)
theorem tML_63 : Cond.methodLink RL 63 yX6_alone ∈ TT := t2 169 (by decide +kernel) (by decide +kernel)
theorem tML_67 : Cond.methodLink RL 67 yX6_neck ∈ TT := t2 177 (by decide +kernel) (by decide +kernel)
theorem tMX6_147 : Cond.methodLink RX6 147 yX6_isBond ∈ TT := t2 181 (by decide +kernel) (by decide +kernel)
theorem tML_71 : Cond.methodLink RL 71 yX6_reading ∈ TT := t2 185 (by decide +kernel) (by decide +kernel)
theorem tML_76 : Cond.methodLink RL 76 yX6_back ∈ TT := t2 193 (by decide +kernel) (by decide +kernel)
theorem tML_80 : Cond.methodLink RL 80 yX6_weights ∈ TT := t2 197 (by decide +kernel) (by decide +kernel)
theorem tML_84 : Cond.methodLink RL 84 yX6_kinds ∈ TT := t2 206 (by decide +kernel) (by decide +kernel)
theorem tML_88 : Cond.methodLink RL 88 yX6_strengths ∈ TT := t2 210 (by decide +kernel) (by decide +kernel)
theorem tML_92 : Cond.methodLink RL 92 yX6_odds ∈ TT := t2 214 (by decide +kernel) (by decide +kernel)
theorem tLX6_165 : Cond.constantLong RX6 165 (-9223372036854775808) ∈ TT := t2 218 (by decide +kernel) (by decide +kernel)
theorem tMX6_170 : Cond.methodLink RX6 170 yJ6_bitCount_0f7a4 ∈ TT := t2 220 (by decide +kernel) (by decide +kernel)
theorem tKJ6_265 : Cond.constant RJ6 265 (1431655765) ∈ TT := t2 223 (by decide +kernel) (by decide +kernel)
theorem tKJ6_266 : Cond.constant RJ6 266 (858993459) ∈ TT := t2 224 (by decide +kernel) (by decide +kernel)
theorem tKJ6_267 : Cond.constant RJ6 267 (252645135) ∈ TT := t2 225 (by decide +kernel) (by decide +kernel)
theorem tMX6_175 : Cond.methodLink RX6 175 yX6_bondsAsBreaking ∈ TT := t2 226 (by decide +kernel) (by decide +kernel)
theorem tML_97 : Cond.methodLink RL 97 yX6_sheet ∈ TT := t2 230 (by decide +kernel) (by decide +kernel)
theorem tMX6_178 : Cond.methodLink RX6 178 yX6_newRow ∈ TT := t2 234 (by decide +kernel) (by decide +kernel)
theorem tMX4_22 : Cond.methodLink RX4 22 yJ7_fill_53178 ∈ TT := t3 2 (by decide +kernel) (by decide +kernel)
theorem tML_102 : Cond.methodLink RL 102 yX6_lose ∈ TT := t3 5 (by decide +kernel) (by decide +kernel)
theorem tML_106 : Cond.methodLink RL 106 yX6_put ∈ TT := t3 13 (by decide +kernel) (by decide +kernel)
theorem tMX6_193 : Cond.methodLink RX6 193 yX6_putNumber ∈ TT := t3 17 (by decide +kernel) (by decide +kernel)
theorem tML_110 : Cond.methodLink RL 110 yX6_cell ∈ TT := t3 25 (by decide +kernel) (by decide +kernel)
theorem tML_115 : Cond.methodLink RL 115 yX6_copy ∈ TT := t3 29 (by decide +kernel) (by decide +kernel)
theorem tMX6_203 : Cond.methodLink RX6 203 yX6_copyNumbers ∈ TT := t3 33 (by decide +kernel) (by decide +kernel)
theorem tML_119 : Cond.methodLink RL 119 yX6_tell ∈ TT := t3 37 (by decide +kernel) (by decide +kernel)
theorem tMX6_206 : Cond.methodLink RX6 206 yX6_bankerGives ∈ TT := t3 41 (by decide +kernel) (by decide +kernel)
theorem tMX6_215 : Cond.methodLink RX6 215 yX6_leave ∈ TT := t3 45 (by decide +kernel) (by decide +kernel)
theorem tMX6_209 : Cond.methodLink RX6 209 yX6_clerkGives ∈ TT := t3 49 (by decide +kernel) (by decide +kernel)
theorem tMX6_212 : Cond.methodLink RX6 212 yX6_skaterGives ∈ TT := t3 53 (by decide +kernel) (by decide +kernel)
theorem tML_123 : Cond.methodLink RL 123 yX6_signed ∈ TT := t3 57 (by decide +kernel) (by decide +kernel)
theorem tML_127 : Cond.methodLink RL 127 yX6_as ∈ TT := t3 61 (by decide +kernel) (by decide +kernel)
theorem tMX6_218 : Cond.methodLink RX6 218 yX6_takeAs ∈ TT := t3 65 (by decide +kernel) (by decide +kernel)
theorem tML_131 : Cond.methodLink RL 131 yX6_trace ∈ TT := t3 69 (by decide +kernel) (by decide +kernel)
theorem tML_136 : Cond.methodLink RL 136 yX6_fault ∈ TT := t3 73 (by decide +kernel) (by decide +kernel)
theorem tML_140 : Cond.methodLink RL 140 yX6_many ∈ TT := t3 77 (by decide +kernel) (by decide +kernel)
theorem tCL_10 : Cond.classLink RL 10 RX7 ∈ TT := t3 81 (by decide +kernel) (by decide +kernel)
theorem tIX7 : Cond.instantiable RX7 32 ∈ TT := t3 82 (by decide +kernel) (by decide +kernel)
theorem tML_12 : Cond.methodLink RL 12 yX7_init ∈ TT := t3 83 (by decide +kernel) (by decide +kernel)
theorem tMX7_1 : Cond.methodLink RX7 1 objectInit ∈ TT := t3 86 (by decide +kernel) (by decide +kernel)
theorem tFX7_58 : Cond.fieldLink RX7 58 RX7 "fault" "I" ∈ TT := t3 87 (by decide +kernel) (by decide +kernel)
theorem tFX7_66 : Cond.fieldLink RX7 66 RX7 "high" "I" ∈ TT := t3 88 (by decide +kernel) (by decide +kernel)
theorem tFX7_69 : Cond.fieldLink RX7 69 RX7 "wide" "I" ∈ TT := t3 89 (by decide +kernel) (by decide +kernel)
theorem tFX7_141 : Cond.fieldLink RX7 141 RX7 "frostNow" "I" ∈ TT := t3 90 (by decide +kernel) (by decide +kernel)
theorem tFX7_7 : Cond.fieldLink RX7 7 RX7 "strengthOf" "[I" ∈ TT := t3 91 (by decide +kernel) (by decide +kernel)
theorem tFX7_80 : Cond.fieldLink RX7 80 RX7 "skaters" "I" ∈ TT := t3 92 (by decide +kernel) (by decide +kernel)
theorem tFX7_13 : Cond.fieldLink RX7 13 RX7 "kindOf" "[I" ∈ TT := t3 93 (by decide +kernel) (by decide +kernel)
theorem tFX7_16 : Cond.fieldLink RX7 16 RX7 "weightOf" "[I" ∈ TT := t3 94 (by decide +kernel) (by decide +kernel)
theorem tFX7_150 : Cond.fieldLink RX7 150 RX7 "broken" "I" ∈ TT := t3 95 (by decide +kernel) (by decide +kernel)
theorem tFX7_147 : Cond.fieldLink RX7 147 RX7 "thawed" "I" ∈ TT := t3 96 (by decide +kernel) (by decide +kernel)
theorem tFX7_87 : Cond.fieldLink RX7 87 RX7 "readAt" "I" ∈ TT := t3 97 (by decide +kernel) (by decide +kernel)
theorem tFX7_104 : Cond.fieldLink RX7 104 RX7 "readHigh" "I" ∈ TT := t3 98 (by decide +kernel) (by decide +kernel)
theorem tFX7_94 : Cond.fieldLink RX7 94 RX7 "readWide" "I" ∈ TT := t3 99 (by decide +kernel) (by decide +kernel)
theorem tFX7_107 : Cond.fieldLink RX7 107 RX7 "readFrost" "I" ∈ TT := t3 100 (by decide +kernel) (by decide +kernel)
theorem tFX7_101 : Cond.fieldLink RX7 101 RX7 "readSkaters" "I" ∈ TT := t3 101 (by decide +kernel) (by decide +kernel)
theorem tFX7_19 : Cond.fieldLink RX7 19 RX7 "readStrength" "[I" ∈ TT := t3 102 (by decide +kernel) (by decide +kernel)
theorem tFX7_22 : Cond.fieldLink RX7 22 RX7 "readKind" "[I" ∈ TT := t3 103 (by decide +kernel) (by decide +kernel)
theorem tFX7_25 : Cond.fieldLink RX7 25 RX7 "readWeight" "[I" ∈ TT := t3 104 (by decide +kernel) (by decide +kernel)
theorem tFX7_170 : Cond.fieldLink RX7 170 RX7 "firstWrong" "I" ∈ TT := t3 105 (by decide +kernel) (by decide +kernel)
theorem tFX7_173 : Cond.fieldLink RX7 173 RX7 "endsAt" "I" ∈ TT := t3 106 (by decide +kernel) (by decide +kernel)
theorem tFX7_176 : Cond.fieldLink RX7 176 RX7 "cutNow" "I" ∈ TT := t3 107 (by decide +kernel) (by decide +kernel)
theorem tFX7_28 : Cond.fieldLink RX7 28 RX7 "kept" "[I" ∈ TT := t3 108 (by decide +kernel) (by decide +kernel)
theorem tFX7_31 : Cond.fieldLink RX7 31 RX7 "leftOf" "[I" ∈ TT := t3 109 (by decide +kernel) (by decide +kernel)
theorem tFX7_144 : Cond.fieldLink RX7 144 RX7 "readings" "I" ∈ TT := t3 110 (by decide +kernel) (by decide +kernel)
theorem tFX7_34 : Cond.fieldLink RX7 34 RX7 "readingOf" "[I" ∈ TT := t3 111 (by decide +kernel) (by decide +kernel)
theorem tFX7_37 : Cond.fieldLink RX7 37 RX7 "readingAt" "[I" ∈ TT := t3 112 (by decide +kernel) (by decide +kernel)
theorem tFX7_40 : Cond.fieldLink RX7 40 RX7 "readingBore" "[Z" ∈ TT := t3 113 (by decide +kernel) (by decide +kernel)
theorem tFX7_44 : Cond.fieldLink RX7 44 RX7 "sheetSize" "[I" ∈ TT := t3 114 (by decide +kernel) (by decide +kernel)
theorem tFX7_47 : Cond.fieldLink RX7 47 RX7 "sheetLane" "[I" ∈ TT := t3 115 (by decide +kernel) (by decide +kernel)
theorem tFX7_50 : Cond.fieldLink RX7 50 RX7 "sheet" "[I" ∈ TT := t3 116 (by decide +kernel) (by decide +kernel)
theorem tFX7_53 : Cond.fieldLink RX7 53 RX7 "hands" "[I" ∈ TT := t3 117 (by decide +kernel) (by decide +kernel)
theorem tFX7_244 : Cond.fieldLink RX7 244 RX7 "traceNow" "I" ∈ TT := t3 118 (by decide +kernel) (by decide +kernel)
theorem tML_17 : Cond.methodLink RL 17 yX7_canal ∈ TT := t3 184 (by decide +kernel) (by decide +kernel)
theorem tMX7_126 : Cond.methodLink RX7 126 yX7_noSheet ∈ TT := t3 188 (by decide +kernel) (by decide +kernel)
theorem tLX7_182 : Cond.constantLong RX7 182 (3) ∈ TT := t3 191 (by decide +kernel) (by decide +kernel)
theorem tMX7_76 : Cond.methodLink RX7 76 yX7_in ∈ TT := t3 192 (by decide +kernel) (by decide +kernel)
theorem tMX7_129 : Cond.methodLink RX7 129 yX7_refused ∈ TT := t3 195 (by decide +kernel) (by decide +kernel)
theorem tLX7_132 : Cond.constantLong RX7 132 (2) ∈ TT := t3 199 (by decide +kernel) (by decide +kernel)
theorem tMX7_134 : Cond.methodLink RX7 134 yX7_cellsBarred ∈ TT := t3 200 (by decide +kernel) (by decide +kernel)
theorem tMX7_118 : Cond.methodLink RX7 118 yX7_failed ∈ TT := t3 204 (by decide +kernel) (by decide +kernel)
theorem tMX7_122 : Cond.methodLink RX7 122 yX7_isBeyond ∈ TT := t3 208 (by decide +kernel) (by decide +kernel)
theorem tMX7_138 : Cond.methodLink RX7 138 yX7_readsCanal ∈ TT := t3 211 (by decide +kernel) (by decide +kernel)
theorem tMX7_90 : Cond.methodLink RX7 90 yX7_codeAt ∈ TT := t3 215 (by decide +kernel) (by decide +kernel)
theorem tMX7_97 : Cond.methodLink RX7 97 yX7_figure ∈ TT := t3 219 (by decide +kernel) (by decide +kernel)
theorem tMX7_110 : Cond.methodLink RX7 110 yX7_readsPlace ∈ TT := t3 223 (by decide +kernel) (by decide +kernel)
theorem tMX7_114 : Cond.methodLink RX7 114 yX7_readsSkater ∈ TT := t3 227 (by decide +kernel) (by decide +kernel)
theorem tMX7_72 : Cond.methodLink RX7 72 yX7_cells ∈ TT := t3 231 (by decide +kernel) (by decide +kernel)
theorem tML_22 : Cond.methodLink RL 22 yX7_ofSkater ∈ TT := t3 235 (by decide +kernel) (by decide +kernel)
theorem tMX7_83 : Cond.methodLink RX7 83 yX7_noSkater ∈ TT := t3 239 (by decide +kernel) (by decide +kernel)
theorem tMX7_156 : Cond.methodLink RX7 156 yX7_loadOf ∈ TT := t4 3 (by decide +kernel) (by decide +kernel)
theorem tMX7_162 : Cond.methodLink RX7 162 yX7_bearingOf ∈ TT := t4 7 (by decide +kernel) (by decide +kernel)
theorem tMX7_159 : Cond.methodLink RX7 159 yX7_bears ∈ TT := t4 11 (by decide +kernel) (by decide +kernel)
theorem tMX7_153 : Cond.methodLink RX7 153 yX7_isIn ∈ TT := t4 15 (by decide +kernel) (by decide +kernel)
theorem tML_27 : Cond.methodLink RL 27 yX7_strength ∈ TT := t4 18 (by decide +kernel) (by decide +kernel)
theorem tMX7_165 : Cond.methodLink RX7 165 yX7_noPlace ∈ TT := t4 22 (by decide +kernel) (by decide +kernel)
theorem tML_31 : Cond.methodLink RL 31 yX7_freeze ∈ TT := t4 26 (by decide +kernel) (by decide +kernel)
theorem tLX7_168 : Cond.constantLong RX7 168 (9) ∈ TT := t4 30 (by decide +kernel) (by decide +kernel)
theorem tML_35 : Cond.methodLink RL 35 yX7_frost ∈ TT := t4 31 (by decide +kernel) (by decide +kernel)
theorem tML_40 : Cond.methodLink RL 40 yX7_deed ∈ TT := t4 35 (by decide +kernel) (by decide +kernel)
theorem tMX7_184 : Cond.methodLink RX7 184 yX7_noTwo ∈ TT := t4 39 (by decide +kernel) (by decide +kernel)
theorem tLX7_187 : Cond.constantLong RX7 187 (40) ∈ TT := t4 43 (by decide +kernel) (by decide +kernel)
theorem tLX7_189 : Cond.constantLong RX7 189 (4) ∈ TT := t4 44 (by decide +kernel) (by decide +kernel)
theorem tMX7_191 : Cond.methodLink RX7 191 yX7_strokesBarred ∈ TT := t4 45 (by decide +kernel) (by decide +kernel)
theorem tMX7_194 : Cond.methodLink RX7 194 yX7_keep ∈ TT := t4 49 (by decide +kernel) (by decide +kernel)
theorem tMX7_197 : Cond.methodLink RX7 197 yX7_goDeed ∈ TT := t4 53 (by decide +kernel) (by decide +kernel)
theorem tMX7_179 : Cond.methodLink RX7 179 yX7_beside ∈ TT := t4 57 (by decide +kernel) (by decide +kernel)
theorem tMX7_201 : Cond.methodLink RX7 201 yX7_putBack ∈ TT := t4 61 (by decide +kernel) (by decide +kernel)
theorem tML_45 : Cond.methodLink RL 45 yX7_write ∈ TT := t4 65 (by decide +kernel) (by decide +kernel)
theorem tML_49 : Cond.methodLink RL 49 yX7_nights ∈ TT := t4 69 (by decide +kernel) (by decide +kernel)
theorem tMX7_204 : Cond.methodLink RX7 204 yX7_countOf ∈ TT := t4 73 (by decide +kernel) (by decide +kernel)
theorem tML_53 : Cond.methodLink RL 53 yX7_thaw ∈ TT := t4 77 (by decide +kernel) (by decide +kernel)
theorem tML_58 : Cond.methodLink RL 58 yX7_bond ∈ TT := t4 81 (by decide +kernel) (by decide +kernel)
theorem tLX7_215 : Cond.constantLong RX7 215 (-1) ∈ TT := t4 85 (by decide +kernel) (by decide +kernel)
theorem tLX7_217 : Cond.constantLong RX7 217 (39) ∈ TT := t4 86 (by decide +kernel) (by decide +kernel)
theorem tMX7_211 : Cond.methodLink RX7 211 yX7_goBond ∈ TT := t4 87 (by decide +kernel) (by decide +kernel)
theorem tMX7_207 : Cond.methodLink RX7 207 yX7_leftBy ∈ TT := t4 91 (by decide +kernel) (by decide +kernel)
theorem tMX7_219 : Cond.methodLink RX7 219 yX7_strokeBy ∈ TT := t4 95 (by decide +kernel) (by decide +kernel)
theorem tML_62 : Cond.methodLink RL 62 yX7_holds ∈ TT := t4 99 (by decide +kernel) (by decide +kernel)
theorem tMX7_222 : Cond.methodLink RX7 222 yX7_isBond ∈ TT := t4 103 (by decide +kernel) (by decide +kernel)
theorem tML_66 : Cond.methodLink RL 66 yX7_alone ∈ TT := t4 107 (by decide +kernel) (by decide +kernel)
theorem tML_70 : Cond.methodLink RL 70 yX7_neck ∈ TT := t4 111 (by decide +kernel) (by decide +kernel)
theorem tML_75 : Cond.methodLink RL 75 yX7_reading ∈ TT := t4 115 (by decide +kernel) (by decide +kernel)
theorem tML_79 : Cond.methodLink RL 79 yX7_back ∈ TT := t4 119 (by decide +kernel) (by decide +kernel)
theorem tML_83 : Cond.methodLink RL 83 yX7_weights ∈ TT := t4 123 (by decide +kernel) (by decide +kernel)
theorem tMX7_226 : Cond.methodLink RX7 226 yX7_areSo ∈ TT := t4 127 (by decide +kernel) (by decide +kernel)
theorem tML_87 : Cond.methodLink RL 87 yX7_kinds ∈ TT := t4 131 (by decide +kernel) (by decide +kernel)
theorem tML_91 : Cond.methodLink RL 91 yX7_strengths ∈ TT := t4 135 (by decide +kernel) (by decide +kernel)
theorem tML_96 : Cond.methodLink RL 96 yX7_odds ∈ TT := t4 139 (by decide +kernel) (by decide +kernel)
theorem tMX7_62 : Cond.methodLink RX7 62 yX7_lost ∈ TT := t4 143 (by decide +kernel) (by decide +kernel)
theorem tLX7_56 : Cond.constantLong RX7 56 (-9223372036854775808) ∈ TT := t4 146 (by decide +kernel) (by decide +kernel)
theorem tMX7_230 : Cond.methodLink RX7 230 yX7_bits ∈ TT := t4 147 (by decide +kernel) (by decide +kernel)
theorem tMX7_233 : Cond.methodLink RX7 233 yX7_share ∈ TT := t4 150 (by decide +kernel) (by decide +kernel)
theorem tML_101 : Cond.methodLink RL 101 yX7_sheet ∈ TT := t4 153 (by decide +kernel) (by decide +kernel)
theorem tML_105 : Cond.methodLink RL 105 yX7_lose ∈ TT := t4 157 (by decide +kernel) (by decide +kernel)
theorem tML_109 : Cond.methodLink RL 109 yX7_put ∈ TT := t4 161 (by decide +kernel) (by decide +kernel)
theorem tMX7_237 : Cond.methodLink RX7 237 yX7_noCell ∈ TT := t4 165 (by decide +kernel) (by decide +kernel)
theorem tML_114 : Cond.methodLink RL 114 yX7_cell ∈ TT := t4 169 (by decide +kernel) (by decide +kernel)
theorem tMX7_240 : Cond.methodLink RX7 240 yX7_failedLong ∈ TT := t4 173 (by decide +kernel) (by decide +kernel)
theorem tML_118 : Cond.methodLink RL 118 yX7_copy ∈ TT := t4 177 (by decide +kernel) (by decide +kernel)
theorem tML_122 : Cond.methodLink RL 122 yX7_tell ∈ TT := t4 181 (by decide +kernel) (by decide +kernel)
theorem tMX7_247 : Cond.methodLink RX7 247 yX7_traced ∈ TT := t4 185 (by decide +kernel) (by decide +kernel)
theorem tML_126 : Cond.methodLink RL 126 yX7_signed ∈ TT := t4 189 (by decide +kernel) (by decide +kernel)
theorem tML_130 : Cond.methodLink RL 130 yX7_as ∈ TT := t4 193 (by decide +kernel) (by decide +kernel)
theorem tML_135 : Cond.methodLink RL 135 yX7_trace ∈ TT := t4 197 (by decide +kernel) (by decide +kernel)
theorem tML_139 : Cond.methodLink RL 139 yX7_fault ∈ TT := t4 201 (by decide +kernel) (by decide +kernel)
theorem tML_143 : Cond.methodLink RL 143 yX7_many ∈ TT := t4 205 (by decide +kernel) (by decide +kernel)
theorem tAI : Cond.arrayClass .int ∈ lw_tbl := List.mem_append_right _ (List.mem_of_getElem? (i := 44) (by decide +kernel))
theorem tAZ : Cond.arrayClass .boolean ∈ lw_tbl := List.mem_append_right _ (List.mem_of_getElem? (i := 88) (by decide +kernel))
theorem tAS : Cond.arrayOver (.object "SkateBonds$Sheet") ∈ lw_tbl := List.mem_append_right _ (List.mem_of_getElem? (i := 22) (by decide +kernel))
theorem kC_X6_init : Cond.code yX6_init cX6_init 2 none ∈ TT := t1 17 (by decide +kernel) (by decide +kernel)
theorem yJ_X6_init : Cond.instanceMethod yX6_init ∈ TT := t1 16 (by decide +kernel) (by decide +kernel)
theorem kC_X5_init : Cond.code yX5_init cX5_init 1 none ∈ TT := t1 27 (by decide +kernel) (by decide +kernel)
theorem yJ_X5_init : Cond.instanceMethod yX5_init ∈ TT := t1 26 (by decide +kernel) (by decide +kernel)
theorem kC_X1_init : Cond.code yX1_init cX1_init 1 none ∈ TT := t1 49 (by decide +kernel) (by decide +kernel)
theorem yJ_X1_init : Cond.instanceMethod yX1_init ∈ TT := t1 48 (by decide +kernel) (by decide +kernel)
theorem kC_X3_init : Cond.code yX3_init cX3_init 1 none ∈ TT := t1 72 (by decide +kernel) (by decide +kernel)
theorem yJ_X3_init : Cond.instanceMethod yX3_init ∈ TT := t1 71 (by decide +kernel) (by decide +kernel)
theorem kC_X2_init : Cond.code yX2_init cX2_init 1 none ∈ TT := t1 93 (by decide +kernel) (by decide +kernel)
theorem yJ_X2_init : Cond.instanceMethod yX2_init ∈ TT := t1 92 (by decide +kernel) (by decide +kernel)
theorem kC_X0_init : Cond.code yX0_init cX0_init 1 none ∈ TT := t1 123 (by decide +kernel) (by decide +kernel)
theorem yJ_X0_init : Cond.instanceMethod yX0_init ∈ TT := t1 122 (by decide +kernel) (by decide +kernel)
theorem kC_X4_init : Cond.code yX4_init cX4_init 1 none ∈ TT := t1 141 (by decide +kernel) (by decide +kernel)
theorem yJ_X4_init : Cond.instanceMethod yX4_init ∈ TT := t1 140 (by decide +kernel) (by decide +kernel)
theorem kC_X6_canal : Cond.code yX6_canal cX6_canal 5 (some .int) ∈ TT := t1 190 (by decide +kernel) (by decide +kernel)
theorem yJ_X6_canal : Cond.instanceMethod yX6_canal ∈ TT := t1 188 (by decide +kernel) (by decide +kernel)
theorem yY_X6_canal : Cond.selects RX6 yX6_canal yX6_canal ∈ TT := t1 189 (by decide +kernel) (by decide +kernel)
theorem kC_X6_takeText : Cond.code yX6_takeText cX6_takeText 7 (some .int) ∈ TT := t1 194 (by decide +kernel) (by decide +kernel)
theorem yJ_X6_takeText : Cond.instanceMethod yX6_takeText ∈ TT := t1 193 (by decide +kernel) (by decide +kernel)
theorem yY_X6_takeText : Cond.selects RX6 yX6_takeText yX6_takeText ∈ TT := t0 (yX6_takeText, 10) 0 (by decide +kernel) rfl (by decide +kernel)
theorem kC_X6_sheetAt : Cond.code yX6_sheetAt cX6_sheetAt 2 (some (.object "SkateBonds$Sheet")) ∈ TT := t1 198 (by decide +kernel) (by decide +kernel)
theorem yJ_X6_sheetAt : Cond.instanceMethod yX6_sheetAt ∈ TT := t1 197 (by decide +kernel) (by decide +kernel)
theorem yY_X6_sheetAt : Cond.selects RX6 yX6_sheetAt yX6_sheetAt ∈ TT := t0 (yX6_sheetAt, 10) 1 (by decide +kernel) rfl (by decide +kernel)
theorem kC_X6_isWithin : Cond.code yX6_isWithin cX6_isWithin 3 (some .boolean) ∈ TT := t1 201 (by decide +kernel) (by decide +kernel)
theorem yY_X6_isWithin : Cond.static yX6_isWithin ∈ TT := t1 200 (by decide +kernel) (by decide +kernel)
theorem kC_X6_refusalOfLane : Cond.code yX6_refusalOfLane cX6_refusalOfLane 2 (some .int) ∈ TT := t1 204 (by decide +kernel) (by decide +kernel)
theorem yY_X6_refusalOfLane : Cond.static yX6_refusalOfLane ∈ TT := t1 203 (by decide +kernel) (by decide +kernel)
theorem kC_X4_isNothing : Cond.code yX4_isNothing cX4_isNothing 1 (some .boolean) ∈ TT := t1 208 (by decide +kernel) (by decide +kernel)
theorem yJ_X4_isNothing : Cond.instanceMethod yX4_isNothing ∈ TT := t1 207 (by decide +kernel) (by decide +kernel)
theorem yY_X4_isNothing : Cond.selects RX4 yX4_isNothing yX4_isNothing ∈ TT := t0 (yX4_isNothing, 3) 2 (by decide +kernel) rfl (by decide +kernel)
theorem kC_X4_has : Cond.code yX4_has cX4_has 3 (some .boolean) ∈ TT := t1 212 (by decide +kernel) (by decide +kernel)
theorem yJ_X4_has : Cond.instanceMethod yX4_has ∈ TT := t1 211 (by decide +kernel) (by decide +kernel)
theorem yY_X4_has : Cond.selects RX4 yX4_has yX4_has ∈ TT := t0 (yX4_has, 3) 3 (by decide +kernel) rfl (by decide +kernel)
theorem kC_X5_begin : Cond.code yX5_begin cX5_begin 4 none ∈ TT := t1 217 (by decide +kernel) (by decide +kernel)
theorem yJ_X5_begin : Cond.instanceMethod yX5_begin ∈ TT := t1 216 (by decide +kernel) (by decide +kernel)
theorem yY_X5_begin : Cond.selects RX5 yX5_begin yX5_begin ∈ TT := t0 (yX5_begin, 4) 4 (by decide +kernel) rfl (by decide +kernel)
theorem kC_X2_take : Cond.code yX2_take cX2_take 4 none ∈ TT := t1 224 (by decide +kernel) (by decide +kernel)
theorem yJ_X2_take : Cond.instanceMethod yX2_take ∈ TT := t1 223 (by decide +kernel) (by decide +kernel)
theorem yY_X2_take : Cond.selects RX2 yX2_take yX2_take ∈ TT := t0 (yX2_take, 6) 5 (by decide +kernel) rfl (by decide +kernel)
theorem kC_X5_sign : Cond.code yX5_sign cX5_sign 2 none ∈ TT := t1 228 (by decide +kernel) (by decide +kernel)
theorem yJ_X5_sign : Cond.instanceMethod yX5_sign ∈ TT := t1 227 (by decide +kernel) (by decide +kernel)
theorem yY_X5_sign : Cond.selects RX5 yX5_sign yX5_sign ∈ TT := t0 (yX5_sign, 4) 6 (by decide +kernel) rfl (by decide +kernel)
theorem kC_X5_take : Cond.code yX5_take cX5_take 3 (some .int) ∈ TT := t1 232 (by decide +kernel) (by decide +kernel)
theorem yJ_X5_take : Cond.instanceMethod yX5_take ∈ TT := t1 231 (by decide +kernel) (by decide +kernel)
theorem yY_X5_take : Cond.selects RX5 yX5_take yX5_take ∈ TT := t0 (yX5_take, 4) 7 (by decide +kernel) rfl (by decide +kernel)
theorem kC_X5_goesOn : Cond.code yX5_goesOn cX5_goesOn 1 (some .boolean) ∈ TT := t1 236 (by decide +kernel) (by decide +kernel)
theorem yJ_X5_goesOn : Cond.instanceMethod yX5_goesOn ∈ TT := t1 235 (by decide +kernel) (by decide +kernel)
theorem yY_X5_goesOn : Cond.selects RX5 yX5_goesOn yX5_goesOn ∈ TT := t0 (yX5_goesOn, 4) 8 (by decide +kernel) rfl (by decide +kernel)
theorem kC_X5_digit : Cond.code yX5_digit cX5_digit 3 (some .int) ∈ TT := t2 1 (by decide +kernel) (by decide +kernel)
theorem yJ_X5_digit : Cond.instanceMethod yX5_digit ∈ TT := t2 0 (by decide +kernel) (by decide +kernel)
theorem yY_X5_digit : Cond.selects RX5 yX5_digit yX5_digit ∈ TT := t0 (yX5_digit, 4) 9 (by decide +kernel) rfl (by decide +kernel)
theorem kC_X0_take : Cond.code yX0_take cX0_take 3 none ∈ TT := t2 5 (by decide +kernel) (by decide +kernel)
theorem yJ_X0_take : Cond.instanceMethod yX0_take ∈ TT := t2 4 (by decide +kernel) (by decide +kernel)
theorem yY_X0_take : Cond.selects RX0 yX0_take yX0_take ∈ TT := t0 (yX0_take, 3) 10 (by decide +kernel) rfl (by decide +kernel)
theorem kC_X5_kind : Cond.code yX5_kind cX5_kind 2 (some .int) ∈ TT := t2 11 (by decide +kernel) (by decide +kernel)
theorem yJ_X5_kind : Cond.instanceMethod yX5_kind ∈ TT := t2 10 (by decide +kernel) (by decide +kernel)
theorem yY_X5_kind : Cond.selects RX5 yX5_kind yX5_kind ∈ TT := t0 (yX5_kind, 4) 11 (by decide +kernel) rfl (by decide +kernel)
theorem kC_X5_end : Cond.code yX5_end cX5_end 1 none ∈ TT := t2 17 (by decide +kernel) (by decide +kernel)
theorem yJ_X5_end : Cond.instanceMethod yX5_end ∈ TT := t2 16 (by decide +kernel) (by decide +kernel)
theorem yY_X5_end : Cond.selects RX5 yX5_end yX5_end ∈ TT := t0 (yX5_end, 4) 12 (by decide +kernel) rfl (by decide +kernel)
theorem kC_X6_changeToDraft : Cond.code yX6_changeToDraft cX6_changeToDraft 3 none ∈ TT := t2 21 (by decide +kernel) (by decide +kernel)
theorem yJ_X6_changeToDraft : Cond.instanceMethod yX6_changeToDraft ∈ TT := t2 20 (by decide +kernel) (by decide +kernel)
theorem yY_X6_changeToDraft : Cond.selects RX6 yX6_changeToDraft yX6_changeToDraft ∈ TT := t0 (yX6_changeToDraft, 10) 13 (by decide +kernel) rfl (by decide +kernel)
theorem kC_X6_keepFault : Cond.code yX6_keepFault cX6_keepFault 2 (some .int) ∈ TT := t2 25 (by decide +kernel) (by decide +kernel)
theorem yJ_X6_keepFault : Cond.instanceMethod yX6_keepFault ∈ TT := t2 24 (by decide +kernel) (by decide +kernel)
theorem yY_X6_keepFault : Cond.selects RX6 yX6_keepFault yX6_keepFault ∈ TT := t0 (yX6_keepFault, 10) 14 (by decide +kernel) rfl (by decide +kernel)
theorem kC_X6_ofSkater : Cond.code yX6_ofSkater cX6_ofSkater 3 (some .int) ∈ TT := t2 29 (by decide +kernel) (by decide +kernel)
theorem yJ_X6_ofSkater : Cond.instanceMethod yX6_ofSkater ∈ TT := t2 27 (by decide +kernel) (by decide +kernel)
theorem yY_X6_ofSkater : Cond.selects RX6 yX6_ofSkater yX6_ofSkater ∈ TT := t2 28 (by decide +kernel) (by decide +kernel)
theorem kC_X0_has : Cond.code yX0_has cX0_has 2 (some .boolean) ∈ TT := t2 33 (by decide +kernel) (by decide +kernel)
theorem yJ_X0_has : Cond.instanceMethod yX0_has ∈ TT := t2 32 (by decide +kernel) (by decide +kernel)
theorem yY_X0_has : Cond.selects RX0 yX0_has yX0_has ∈ TT := t0 (yX0_has, 3) 15 (by decide +kernel) rfl (by decide +kernel)
theorem kC_X0_load : Cond.code yX0_load cX0_load 2 (some .int) ∈ TT := t2 38 (by decide +kernel) (by decide +kernel)
theorem yJ_X0_load : Cond.instanceMethod yX0_load ∈ TT := t2 37 (by decide +kernel) (by decide +kernel)
theorem yY_X0_load : Cond.selects RX0 yX0_load yX0_load ∈ TT := t0 (yX0_load, 3) 16 (by decide +kernel) rfl (by decide +kernel)
theorem kC_X2_bearing : Cond.code yX2_bearing cX2_bearing 5 (some .int) ∈ TT := t2 42 (by decide +kernel) (by decide +kernel)
theorem yJ_X2_bearing : Cond.instanceMethod yX2_bearing ∈ TT := t2 41 (by decide +kernel) (by decide +kernel)
theorem yY_X2_bearing : Cond.selects RX2 yX2_bearing yX2_bearing ∈ TT := t0 (yX2_bearing, 6) 17 (by decide +kernel) rfl (by decide +kernel)
theorem kC_X2_cells : Cond.code yX2_cells cX2_cells 1 (some .int) ∈ TT := t2 46 (by decide +kernel) (by decide +kernel)
theorem yJ_X2_cells : Cond.instanceMethod yX2_cells ∈ TT := t2 45 (by decide +kernel) (by decide +kernel)
theorem yY_X2_cells : Cond.selects RX2 yX2_cells yX2_cells ∈ TT := t0 (yX2_cells, 6) 18 (by decide +kernel) rfl (by decide +kernel)
theorem kC_X6_strength : Cond.code yX6_strength cX6_strength 2 (some .int) ∈ TT := t2 50 (by decide +kernel) (by decide +kernel)
theorem yJ_X6_strength : Cond.instanceMethod yX6_strength ∈ TT := t2 48 (by decide +kernel) (by decide +kernel)
theorem yY_X6_strength : Cond.selects RX6 yX6_strength yX6_strength ∈ TT := t2 49 (by decide +kernel) (by decide +kernel)
theorem kC_X2_has : Cond.code yX2_has cX2_has 2 (some .boolean) ∈ TT := t2 54 (by decide +kernel) (by decide +kernel)
theorem yJ_X2_has : Cond.instanceMethod yX2_has ∈ TT := t2 53 (by decide +kernel) (by decide +kernel)
theorem yY_X2_has : Cond.selects RX2 yX2_has yX2_has ∈ TT := t0 (yX2_has, 6) 19 (by decide +kernel) rfl (by decide +kernel)
theorem kC_X6_freeze : Cond.code yX6_freeze cX6_freeze 4 (some .int) ∈ TT := t2 59 (by decide +kernel) (by decide +kernel)
theorem yJ_X6_freeze : Cond.instanceMethod yX6_freeze ∈ TT := t2 57 (by decide +kernel) (by decide +kernel)
theorem yY_X6_freeze : Cond.selects RX6 yX6_freeze yX6_freeze ∈ TT := t2 58 (by decide +kernel) (by decide +kernel)
theorem kC_X6_frost : Cond.code yX6_frost cX6_frost 4 (some .int) ∈ TT := t2 63 (by decide +kernel) (by decide +kernel)
theorem yJ_X6_frost : Cond.instanceMethod yX6_frost ∈ TT := t2 61 (by decide +kernel) (by decide +kernel)
theorem yY_X6_frost : Cond.selects RX6 yX6_frost yX6_frost ∈ TT := t2 62 (by decide +kernel) (by decide +kernel)
theorem kC_X6_refusalOfWeather : Cond.code yX6_refusalOfWeather cX6_refusalOfWeather 2 (some .int) ∈ TT := t2 67 (by decide +kernel) (by decide +kernel)
theorem yJ_X6_refusalOfWeather : Cond.instanceMethod yX6_refusalOfWeather ∈ TT := t2 66 (by decide +kernel) (by decide +kernel)
theorem yY_X6_refusalOfWeather : Cond.selects RX6 yX6_refusalOfWeather yX6_refusalOfWeather ∈ TT := t0 (yX6_refusalOfWeather, 10) 20 (by decide +kernel) rfl (by decide +kernel)
theorem kC_X6_deed : Cond.code yX6_deed cX6_deed 10 (some .int) ∈ TT := t2 72 (by decide +kernel) (by decide +kernel)
theorem yJ_X6_deed : Cond.instanceMethod yX6_deed ∈ TT := t2 70 (by decide +kernel) (by decide +kernel)
theorem yY_X6_deed : Cond.selects RX6 yX6_deed yX6_deed ∈ TT := t2 71 (by decide +kernel) (by decide +kernel)
theorem kC_X6_isDeedKnown : Cond.code yX6_isDeedKnown cX6_isDeedKnown 5 (some .boolean) ∈ TT := t2 76 (by decide +kernel) (by decide +kernel)
theorem yJ_X6_isDeedKnown : Cond.instanceMethod yX6_isDeedKnown ∈ TT := t2 75 (by decide +kernel) (by decide +kernel)
theorem yY_X6_isDeedKnown : Cond.selects RX6 yX6_isDeedKnown yX6_isDeedKnown ∈ TT := t0 (yX6_isDeedKnown, 10) 21 (by decide +kernel) rfl (by decide +kernel)
theorem kC_X6_isPair : Cond.code yX6_isPair cX6_isPair 3 (some .boolean) ∈ TT := t2 80 (by decide +kernel) (by decide +kernel)
theorem yJ_X6_isPair : Cond.instanceMethod yX6_isPair ∈ TT := t2 79 (by decide +kernel) (by decide +kernel)
theorem yY_X6_isPair : Cond.selects RX6 yX6_isPair yX6_isPair ∈ TT := t0 (yX6_isPair, 10) 22 (by decide +kernel) rfl (by decide +kernel)
theorem kC_X6_tryDeed : Cond.code yX6_tryDeed cX6_tryDeed 11 (some .int) ∈ TT := t2 84 (by decide +kernel) (by decide +kernel)
theorem yJ_X6_tryDeed : Cond.instanceMethod yX6_tryDeed ∈ TT := t2 83 (by decide +kernel) (by decide +kernel)
theorem yY_X6_tryDeed : Cond.selects RX6 yX6_tryDeed yX6_tryDeed ∈ TT := t0 (yX6_tryDeed, 10) 23 (by decide +kernel) rfl (by decide +kernel)
theorem kC_X6_refusalOfPart : Cond.code yX6_refusalOfPart cX6_refusalOfPart 5 (some .int) ∈ TT := t2 87 (by decide +kernel) (by decide +kernel)
theorem yY_X6_refusalOfPart : Cond.static yX6_refusalOfPart ∈ TT := t2 86 (by decide +kernel) (by decide +kernel)
theorem kC_X1_begin : Cond.code yX1_begin cX1_begin 3 none ∈ TT := t2 91 (by decide +kernel) (by decide +kernel)
theorem yJ_X1_begin : Cond.instanceMethod yX1_begin ∈ TT := t2 90 (by decide +kernel) (by decide +kernel)
theorem yY_X1_begin : Cond.selects RX1 yX1_begin yX1_begin ∈ TT := t0 (yX1_begin, 4) 24 (by decide +kernel) rfl (by decide +kernel)
theorem kC_X1_stroke : Cond.code yX1_stroke cX1_stroke 6 none ∈ TT := t2 96 (by decide +kernel) (by decide +kernel)
theorem yJ_X1_stroke : Cond.instanceMethod yX1_stroke ∈ TT := t2 95 (by decide +kernel) (by decide +kernel)
theorem yY_X1_stroke : Cond.selects RX1 yX1_stroke yX1_stroke ∈ TT := t0 (yX1_stroke, 4) 25 (by decide +kernel) rfl (by decide +kernel)
theorem kC_X2_led : Cond.code yX2_led cX2_led 3 (some .int) ∈ TT := t2 100 (by decide +kernel) (by decide +kernel)
theorem yJ_X2_led : Cond.instanceMethod yX2_led ∈ TT := t2 99 (by decide +kernel) (by decide +kernel)
theorem yY_X2_led : Cond.selects RX2 yX2_led yX2_led ∈ TT := t0 (yX2_led, 6) 26 (by decide +kernel) rfl (by decide +kernel)
theorem kC_X6_isIn : Cond.code yX6_isIn cX6_isIn 2 (some .boolean) ∈ TT := t2 103 (by decide +kernel) (by decide +kernel)
theorem yY_X6_isIn : Cond.static yX6_isIn ∈ TT := t2 102 (by decide +kernel) (by decide +kernel)
theorem kC_X6_ofTrial : Cond.code yX6_ofTrial cX6_ofTrial 3 (some .int) ∈ TT := t2 107 (by decide +kernel) (by decide +kernel)
theorem yJ_X6_ofTrial : Cond.instanceMethod yX6_ofTrial ∈ TT := t2 106 (by decide +kernel) (by decide +kernel)
theorem yY_X6_ofTrial : Cond.selects RX6 yX6_ofTrial yX6_ofTrial ∈ TT := t0 (yX6_ofTrial, 10) 27 (by decide +kernel) rfl (by decide +kernel)
theorem kC_X6_write : Cond.code yX6_write cX6_write 9 (some .int) ∈ TT := t2 111 (by decide +kernel) (by decide +kernel)
theorem yJ_X6_write : Cond.instanceMethod yX6_write ∈ TT := t2 109 (by decide +kernel) (by decide +kernel)
theorem yY_X6_write : Cond.selects RX6 yX6_write yX6_write ∈ TT := t2 110 (by decide +kernel) (by decide +kernel)
theorem kC_X6_nights : Cond.code yX6_nights cX6_nights 3 (some .int) ∈ TT := t2 116 (by decide +kernel) (by decide +kernel)
theorem yJ_X6_nights : Cond.instanceMethod yX6_nights ∈ TT := t2 114 (by decide +kernel) (by decide +kernel)
theorem yY_X6_nights : Cond.selects RX6 yX6_nights yX6_nights ∈ TT := t2 115 (by decide +kernel) (by decide +kernel)
theorem kC_X2_strengthen : Cond.code yX2_strengthen cX2_strengthen 3 none ∈ TT := t2 120 (by decide +kernel) (by decide +kernel)
theorem yJ_X2_strengthen : Cond.instanceMethod yX2_strengthen ∈ TT := t2 119 (by decide +kernel) (by decide +kernel)
theorem yY_X2_strengthen : Cond.selects RX2 yX2_strengthen yX2_strengthen ∈ TT := t0 (yX2_strengthen, 6) 28 (by decide +kernel) rfl (by decide +kernel)
theorem kC_J9_min_7cf53 : Cond.code yJ9_min_7cf53 cJ9_min_7cf53 2 (some .int) ∈ TT := t2 123 (by decide +kernel) (by decide +kernel)
theorem yY_J9_min_7cf53 : Cond.static yJ9_min_7cf53 ∈ TT := t2 122 (by decide +kernel) (by decide +kernel)
theorem kC_J9_max_7cf53 : Cond.code yJ9_max_7cf53 cJ9_max_7cf53 2 (some .int) ∈ TT := t2 126 (by decide +kernel) (by decide +kernel)
theorem yY_J9_max_7cf53 : Cond.static yJ9_max_7cf53 ∈ TT := t2 125 (by decide +kernel) (by decide +kernel)
theorem kC_X2_count : Cond.code yX2_count cX2_count 4 (some .int) ∈ TT := t2 130 (by decide +kernel) (by decide +kernel)
theorem yJ_X2_count : Cond.instanceMethod yX2_count ∈ TT := t2 129 (by decide +kernel) (by decide +kernel)
theorem yY_X2_count : Cond.selects RX2 yX2_count yX2_count ∈ TT := t0 (yX2_count, 6) 29 (by decide +kernel) rfl (by decide +kernel)
theorem kC_X6_thaw : Cond.code yX6_thaw cX6_thaw 3 (some .int) ∈ TT := t2 134 (by decide +kernel) (by decide +kernel)
theorem yJ_X6_thaw : Cond.instanceMethod yX6_thaw ∈ TT := t2 132 (by decide +kernel) (by decide +kernel)
theorem yY_X6_thaw : Cond.selects RX6 yX6_thaw yX6_thaw ∈ TT := t2 133 (by decide +kernel) (by decide +kernel)
theorem kC_X6_bond : Cond.code yX6_bond cX6_bond 9 (some .int) ∈ TT := t2 138 (by decide +kernel) (by decide +kernel)
theorem yJ_X6_bond : Cond.instanceMethod yX6_bond ∈ TT := t2 136 (by decide +kernel) (by decide +kernel)
theorem yY_X6_bond : Cond.selects RX6 yX6_bond yX6_bond ∈ TT := t2 137 (by decide +kernel) (by decide +kernel)
theorem kC_X6_isBondKnown : Cond.code yX6_isBondKnown cX6_isBondKnown 5 (some .boolean) ∈ TT := t2 142 (by decide +kernel) (by decide +kernel)
theorem yJ_X6_isBondKnown : Cond.instanceMethod yX6_isBondKnown ∈ TT := t2 141 (by decide +kernel) (by decide +kernel)
theorem yY_X6_isBondKnown : Cond.selects RX6 yX6_isBondKnown yX6_isBondKnown ∈ TT := t0 (yX6_isBondKnown, 10) 30 (by decide +kernel) rfl (by decide +kernel)
theorem kC_X2_shortest : Cond.code yX2_shortest cX2_shortest 8 (some .int) ∈ TT := t2 146 (by decide +kernel) (by decide +kernel)
theorem yJ_X2_shortest : Cond.instanceMethod yX2_shortest ∈ TT := t2 145 (by decide +kernel) (by decide +kernel)
theorem yY_X2_shortest : Cond.selects RX2 yX2_shortest yX2_shortest ∈ TT := t0 (yX2_shortest, 6) 31 (by decide +kernel) rfl (by decide +kernel)
theorem kC_X2_nextTo : Cond.code yX2_nextTo cX2_nextTo 4 (some .int) ∈ TT := t2 150 (by decide +kernel) (by decide +kernel)
theorem yJ_X2_nextTo : Cond.instanceMethod yX2_nextTo ∈ TT := t2 149 (by decide +kernel) (by decide +kernel)
theorem yY_X2_nextTo : Cond.selects RX2 yX2_nextTo yX2_nextTo ∈ TT := t0 (yX2_nextTo, 6) 32 (by decide +kernel) rfl (by decide +kernel)
theorem kC_X2_all : Cond.code yX2_all cX2_all 1 (some .int) ∈ TT := t2 154 (by decide +kernel) (by decide +kernel)
theorem yJ_X2_all : Cond.instanceMethod yX2_all ∈ TT := t2 153 (by decide +kernel) (by decide +kernel)
theorem yY_X2_all : Cond.selects RX2 yX2_all yX2_all ∈ TT := t0 (yX2_all, 6) 33 (by decide +kernel) rfl (by decide +kernel)
theorem kC_X2_strokeOfBond : Cond.code yX2_strokeOfBond cX2_strokeOfBond 10 (some .int) ∈ TT := t2 158 (by decide +kernel) (by decide +kernel)
theorem yJ_X2_strokeOfBond : Cond.instanceMethod yX2_strokeOfBond ∈ TT := t2 157 (by decide +kernel) (by decide +kernel)
theorem yY_X2_strokeOfBond : Cond.selects RX2 yX2_strokeOfBond yX2_strokeOfBond ∈ TT := t0 (yX2_strokeOfBond, 6) 34 (by decide +kernel) rfl (by decide +kernel)
theorem kC_X2_beginOfBond : Cond.code yX2_beginOfBond cX2_beginOfBond 8 (some .int) ∈ TT := t2 162 (by decide +kernel) (by decide +kernel)
theorem yJ_X2_beginOfBond : Cond.instanceMethod yX2_beginOfBond ∈ TT := t2 161 (by decide +kernel) (by decide +kernel)
theorem yY_X2_beginOfBond : Cond.selects RX2 yX2_beginOfBond yX2_beginOfBond ∈ TT := t0 (yX2_beginOfBond, 6) 35 (by decide +kernel) rfl (by decide +kernel)
theorem kC_X6_holds : Cond.code yX6_holds cX6_holds 8 (some .int) ∈ TT := t2 168 (by decide +kernel) (by decide +kernel)
theorem yJ_X6_holds : Cond.instanceMethod yX6_holds ∈ TT := t2 166 (by decide +kernel) (by decide +kernel)
theorem yY_X6_holds : Cond.selects RX6 yX6_holds yX6_holds ∈ TT := t2 167 (by decide +kernel) (by decide +kernel)
theorem kC_X6_alone : Cond.code yX6_alone cX6_alone 3 (some .int) ∈ TT := t2 172 (by decide +kernel) (by decide +kernel)
theorem yJ_X6_alone : Cond.instanceMethod yX6_alone ∈ TT := t2 170 (by decide +kernel) (by decide +kernel)
theorem yY_X6_alone : Cond.selects RX6 yX6_alone yX6_alone ∈ TT := t2 171 (by decide +kernel) (by decide +kernel)
theorem kC_X2_reach : Cond.code yX2_reach cX2_reach 5 (some .int) ∈ TT := t2 176 (by decide +kernel) (by decide +kernel)
theorem yJ_X2_reach : Cond.instanceMethod yX2_reach ∈ TT := t2 175 (by decide +kernel) (by decide +kernel)
theorem yY_X2_reach : Cond.selects RX2 yX2_reach yX2_reach ∈ TT := t0 (yX2_reach, 6) 36 (by decide +kernel) rfl (by decide +kernel)
theorem kC_X6_neck : Cond.code yX6_neck cX6_neck 6 (some .int) ∈ TT := t2 180 (by decide +kernel) (by decide +kernel)
theorem yJ_X6_neck : Cond.instanceMethod yX6_neck ∈ TT := t2 178 (by decide +kernel) (by decide +kernel)
theorem yY_X6_neck : Cond.selects RX6 yX6_neck yX6_neck ∈ TT := t2 179 (by decide +kernel) (by decide +kernel)
theorem kC_X6_isBond : Cond.code yX6_isBond cX6_isBond 8 (some .boolean) ∈ TT := t2 184 (by decide +kernel) (by decide +kernel)
theorem yJ_X6_isBond : Cond.instanceMethod yX6_isBond ∈ TT := t2 183 (by decide +kernel) (by decide +kernel)
theorem yY_X6_isBond : Cond.selects RX6 yX6_isBond yX6_isBond ∈ TT := t0 (yX6_isBond, 10) 37 (by decide +kernel) rfl (by decide +kernel)
theorem kC_X6_reading : Cond.code yX6_reading cX6_reading 4 (some .int) ∈ TT := t2 188 (by decide +kernel) (by decide +kernel)
theorem yJ_X6_reading : Cond.instanceMethod yX6_reading ∈ TT := t2 186 (by decide +kernel) (by decide +kernel)
theorem yY_X6_reading : Cond.selects RX6 yX6_reading yX6_reading ∈ TT := t2 187 (by decide +kernel) (by decide +kernel)
theorem kC_X3_add : Cond.code yX3_add cX3_add 4 (some .int) ∈ TT := t2 192 (by decide +kernel) (by decide +kernel)
theorem yJ_X3_add : Cond.instanceMethod yX3_add ∈ TT := t2 191 (by decide +kernel) (by decide +kernel)
theorem yY_X3_add : Cond.selects RX3 yX3_add yX3_add ∈ TT := t0 (yX3_add, 4) 38 (by decide +kernel) rfl (by decide +kernel)
theorem kC_X6_back : Cond.code yX6_back cX6_back 2 (some .int) ∈ TT := t2 196 (by decide +kernel) (by decide +kernel)
theorem yJ_X6_back : Cond.instanceMethod yX6_back ∈ TT := t2 194 (by decide +kernel) (by decide +kernel)
theorem yY_X6_back : Cond.selects RX6 yX6_back yX6_back ∈ TT := t2 195 (by decide +kernel) (by decide +kernel)
theorem kC_X6_weights : Cond.code yX6_weights cX6_weights 5 (some .int) ∈ TT := t2 200 (by decide +kernel) (by decide +kernel)
theorem yJ_X6_weights : Cond.instanceMethod yX6_weights ∈ TT := t2 198 (by decide +kernel) (by decide +kernel)
theorem yY_X6_weights : Cond.selects RX6 yX6_weights yX6_weights ∈ TT := t2 199 (by decide +kernel) (by decide +kernel)
theorem kC_X3_areSo : Cond.code yX3_areSo cX3_areSo 5 (some .boolean) ∈ TT := t2 204 (by decide +kernel) (by decide +kernel)
theorem yJ_X3_areSo : Cond.instanceMethod yX3_areSo ∈ TT := t2 203 (by decide +kernel) (by decide +kernel)
theorem yY_X3_areSo : Cond.selects RX3 yX3_areSo yX3_areSo ∈ TT := t0 (yX3_areSo, 4) 39 (by decide +kernel) rfl (by decide +kernel)
theorem kC_X6_kinds : Cond.code yX6_kinds cX6_kinds 5 (some .int) ∈ TT := t2 209 (by decide +kernel) (by decide +kernel)
theorem yJ_X6_kinds : Cond.instanceMethod yX6_kinds ∈ TT := t2 207 (by decide +kernel) (by decide +kernel)
theorem yY_X6_kinds : Cond.selects RX6 yX6_kinds yX6_kinds ∈ TT := t2 208 (by decide +kernel) (by decide +kernel)
theorem kC_X6_strengths : Cond.code yX6_strengths cX6_strengths 5 (some .int) ∈ TT := t2 213 (by decide +kernel) (by decide +kernel)
theorem yJ_X6_strengths : Cond.instanceMethod yX6_strengths ∈ TT := t2 211 (by decide +kernel) (by decide +kernel)
theorem yY_X6_strengths : Cond.selects RX6 yX6_strengths yX6_strengths ∈ TT := t2 212 (by decide +kernel) (by decide +kernel)
theorem kC_X6_odds : Cond.code yX6_odds cX6_odds 11 (some .long) ∈ TT := t2 217 (by decide +kernel) (by decide +kernel)
theorem yJ_X6_odds : Cond.instanceMethod yX6_odds ∈ TT := t2 215 (by decide +kernel) (by decide +kernel)
theorem yY_X6_odds : Cond.selects RX6 yX6_odds yX6_odds ∈ TT := t2 216 (by decide +kernel) (by decide +kernel)
theorem kC_J6_bitCount_0f7a4 : Cond.code yJ6_bitCount_0f7a4 cJ6_bitCount_0f7a4 1 (some .int) ∈ TT := t2 222 (by decide +kernel) (by decide +kernel)
theorem yY_J6_bitCount_0f7a4 : Cond.static yJ6_bitCount_0f7a4 ∈ TT := t2 221 (by decide +kernel) (by decide +kernel)
theorem kC_X6_bondsAsBreaking : Cond.code yX6_bondsAsBreaking cX6_bondsAsBreaking 9 (some .int) ∈ TT := t2 229 (by decide +kernel) (by decide +kernel)
theorem yJ_X6_bondsAsBreaking : Cond.instanceMethod yX6_bondsAsBreaking ∈ TT := t2 228 (by decide +kernel) (by decide +kernel)
theorem yY_X6_bondsAsBreaking : Cond.selects RX6 yX6_bondsAsBreaking yX6_bondsAsBreaking ∈ TT := t0 (yX6_bondsAsBreaking, 10) 40 (by decide +kernel) rfl (by decide +kernel)
theorem kC_X6_sheet : Cond.code yX6_sheet cX6_sheet 4 (some .int) ∈ TT := t2 233 (by decide +kernel) (by decide +kernel)
theorem yJ_X6_sheet : Cond.instanceMethod yX6_sheet ∈ TT := t2 231 (by decide +kernel) (by decide +kernel)
theorem yY_X6_sheet : Cond.selects RX6 yX6_sheet yX6_sheet ∈ TT := t2 232 (by decide +kernel) (by decide +kernel)
theorem kC_X6_newRow : Cond.code yX6_newRow cX6_newRow 5 (some .int) ∈ TT := t2 237 (by decide +kernel) (by decide +kernel)
theorem yJ_X6_newRow : Cond.instanceMethod yX6_newRow ∈ TT := t2 236 (by decide +kernel) (by decide +kernel)
theorem yY_X6_newRow : Cond.selects RX6 yX6_newRow yX6_newRow ∈ TT := t0 (yX6_newRow, 10) 41 (by decide +kernel) rfl (by decide +kernel)
theorem kC_X4_begin : Cond.code yX4_begin cX4_begin 3 none ∈ TT := t3 1 (by decide +kernel) (by decide +kernel)
theorem yJ_X4_begin : Cond.instanceMethod yX4_begin ∈ TT := t3 0 (by decide +kernel) (by decide +kernel)
theorem yY_X4_begin : Cond.selects RX4 yX4_begin yX4_begin ∈ TT := t0 (yX4_begin, 3) 42 (by decide +kernel) rfl (by decide +kernel)
theorem kC_J7_fill_53178 : Cond.code yJ7_fill_53178 cJ7_fill_53178 4 none ∈ TT := t3 4 (by decide +kernel) (by decide +kernel)
theorem yY_J7_fill_53178 : Cond.static yJ7_fill_53178 ∈ TT := t3 3 (by decide +kernel) (by decide +kernel)
theorem kC_X6_lose : Cond.code yX6_lose cX6_lose 4 (some .int) ∈ TT := t3 8 (by decide +kernel) (by decide +kernel)
theorem yJ_X6_lose : Cond.instanceMethod yX6_lose ∈ TT := t3 6 (by decide +kernel) (by decide +kernel)
theorem yY_X6_lose : Cond.selects RX6 yX6_lose yX6_lose ∈ TT := t3 7 (by decide +kernel) (by decide +kernel)
theorem kC_X4_clear : Cond.code yX4_clear cX4_clear 1 none ∈ TT := t3 12 (by decide +kernel) (by decide +kernel)
theorem yJ_X4_clear : Cond.instanceMethod yX4_clear ∈ TT := t3 11 (by decide +kernel) (by decide +kernel)
theorem yY_X4_clear : Cond.selects RX4 yX4_clear yX4_clear ∈ TT := t0 (yX4_clear, 3) 43 (by decide +kernel) rfl (by decide +kernel)
theorem kC_X6_put : Cond.code yX6_put cX6_put 4 (some .int) ∈ TT := t3 16 (by decide +kernel) (by decide +kernel)
theorem yJ_X6_put : Cond.instanceMethod yX6_put ∈ TT := t3 14 (by decide +kernel) (by decide +kernel)
theorem yY_X6_put : Cond.selects RX6 yX6_put yX6_put ∈ TT := t3 15 (by decide +kernel) (by decide +kernel)
theorem kC_X6_putNumber : Cond.code yX6_putNumber cX6_putNumber 5 (some .int) ∈ TT := t3 20 (by decide +kernel) (by decide +kernel)
theorem yJ_X6_putNumber : Cond.instanceMethod yX6_putNumber ∈ TT := t3 19 (by decide +kernel) (by decide +kernel)
theorem yY_X6_putNumber : Cond.selects RX6 yX6_putNumber yX6_putNumber ∈ TT := t0 (yX6_putNumber, 10) 44 (by decide +kernel) rfl (by decide +kernel)
theorem kC_X4_set : Cond.code yX4_set cX4_set 3 none ∈ TT := t3 24 (by decide +kernel) (by decide +kernel)
theorem yJ_X4_set : Cond.instanceMethod yX4_set ∈ TT := t3 23 (by decide +kernel) (by decide +kernel)
theorem yY_X4_set : Cond.selects RX4 yX4_set yX4_set ∈ TT := t0 (yX4_set, 3) 45 (by decide +kernel) rfl (by decide +kernel)
theorem kC_X6_cell : Cond.code yX6_cell cX6_cell 6 (some .long) ∈ TT := t3 28 (by decide +kernel) (by decide +kernel)
theorem yJ_X6_cell : Cond.instanceMethod yX6_cell ∈ TT := t3 26 (by decide +kernel) (by decide +kernel)
theorem yY_X6_cell : Cond.selects RX6 yX6_cell yX6_cell ∈ TT := t3 27 (by decide +kernel) (by decide +kernel)
theorem kC_X6_copy : Cond.code yX6_copy cX6_copy 6 (some .int) ∈ TT := t3 32 (by decide +kernel) (by decide +kernel)
theorem yJ_X6_copy : Cond.instanceMethod yX6_copy ∈ TT := t3 30 (by decide +kernel) (by decide +kernel)
theorem yY_X6_copy : Cond.selects RX6 yX6_copy yX6_copy ∈ TT := t3 31 (by decide +kernel) (by decide +kernel)
theorem kC_X6_copyNumbers : Cond.code yX6_copyNumbers cX6_copyNumbers 8 (some .int) ∈ TT := t3 36 (by decide +kernel) (by decide +kernel)
theorem yJ_X6_copyNumbers : Cond.instanceMethod yX6_copyNumbers ∈ TT := t3 35 (by decide +kernel) (by decide +kernel)
theorem yY_X6_copyNumbers : Cond.selects RX6 yX6_copyNumbers yX6_copyNumbers ∈ TT := t0 (yX6_copyNumbers, 10) 46 (by decide +kernel) rfl (by decide +kernel)
theorem kC_X6_tell : Cond.code yX6_tell cX6_tell 3 (some .int) ∈ TT := t3 40 (by decide +kernel) (by decide +kernel)
theorem yJ_X6_tell : Cond.instanceMethod yX6_tell ∈ TT := t3 38 (by decide +kernel) (by decide +kernel)
theorem yY_X6_tell : Cond.selects RX6 yX6_tell yX6_tell ∈ TT := t3 39 (by decide +kernel) (by decide +kernel)
theorem kC_X6_bankerGives : Cond.code yX6_bankerGives cX6_bankerGives 3 (some .int) ∈ TT := t3 44 (by decide +kernel) (by decide +kernel)
theorem yJ_X6_bankerGives : Cond.instanceMethod yX6_bankerGives ∈ TT := t3 43 (by decide +kernel) (by decide +kernel)
theorem yY_X6_bankerGives : Cond.selects RX6 yX6_bankerGives yX6_bankerGives ∈ TT := t0 (yX6_bankerGives, 10) 47 (by decide +kernel) rfl (by decide +kernel)
theorem kC_X6_leave : Cond.code yX6_leave cX6_leave 2 none ∈ TT := t3 48 (by decide +kernel) (by decide +kernel)
theorem yJ_X6_leave : Cond.instanceMethod yX6_leave ∈ TT := t3 47 (by decide +kernel) (by decide +kernel)
theorem yY_X6_leave : Cond.selects RX6 yX6_leave yX6_leave ∈ TT := t0 (yX6_leave, 10) 48 (by decide +kernel) rfl (by decide +kernel)
theorem kC_X6_clerkGives : Cond.code yX6_clerkGives cX6_clerkGives 2 (some .int) ∈ TT := t3 52 (by decide +kernel) (by decide +kernel)
theorem yJ_X6_clerkGives : Cond.instanceMethod yX6_clerkGives ∈ TT := t3 51 (by decide +kernel) (by decide +kernel)
theorem yY_X6_clerkGives : Cond.selects RX6 yX6_clerkGives yX6_clerkGives ∈ TT := t0 (yX6_clerkGives, 10) 49 (by decide +kernel) rfl (by decide +kernel)
theorem kC_X6_skaterGives : Cond.code yX6_skaterGives cX6_skaterGives 2 (some .int) ∈ TT := t3 56 (by decide +kernel) (by decide +kernel)
theorem yJ_X6_skaterGives : Cond.instanceMethod yX6_skaterGives ∈ TT := t3 55 (by decide +kernel) (by decide +kernel)
theorem yY_X6_skaterGives : Cond.selects RX6 yX6_skaterGives yX6_skaterGives ∈ TT := t0 (yX6_skaterGives, 10) 50 (by decide +kernel) rfl (by decide +kernel)
theorem kC_X6_signed : Cond.code yX6_signed cX6_signed 2 (some .int) ∈ TT := t3 60 (by decide +kernel) (by decide +kernel)
theorem yJ_X6_signed : Cond.instanceMethod yX6_signed ∈ TT := t3 58 (by decide +kernel) (by decide +kernel)
theorem yY_X6_signed : Cond.selects RX6 yX6_signed yX6_signed ∈ TT := t3 59 (by decide +kernel) (by decide +kernel)
theorem kC_X6_as : Cond.code yX6_as cX6_as 3 (some .int) ∈ TT := t3 64 (by decide +kernel) (by decide +kernel)
theorem yJ_X6_as : Cond.instanceMethod yX6_as ∈ TT := t3 62 (by decide +kernel) (by decide +kernel)
theorem yY_X6_as : Cond.selects RX6 yX6_as yX6_as ∈ TT := t3 63 (by decide +kernel) (by decide +kernel)
theorem kC_X6_takeAs : Cond.code yX6_takeAs cX6_takeAs 3 (some .int) ∈ TT := t3 68 (by decide +kernel) (by decide +kernel)
theorem yJ_X6_takeAs : Cond.instanceMethod yX6_takeAs ∈ TT := t3 67 (by decide +kernel) (by decide +kernel)
theorem yY_X6_takeAs : Cond.selects RX6 yX6_takeAs yX6_takeAs ∈ TT := t0 (yX6_takeAs, 10) 51 (by decide +kernel) rfl (by decide +kernel)
theorem kC_X6_trace : Cond.code yX6_trace cX6_trace 1 (some .int) ∈ TT := t3 72 (by decide +kernel) (by decide +kernel)
theorem yJ_X6_trace : Cond.instanceMethod yX6_trace ∈ TT := t3 70 (by decide +kernel) (by decide +kernel)
theorem yY_X6_trace : Cond.selects RX6 yX6_trace yX6_trace ∈ TT := t3 71 (by decide +kernel) (by decide +kernel)
theorem kC_X6_fault : Cond.code yX6_fault cX6_fault 1 (some .int) ∈ TT := t3 76 (by decide +kernel) (by decide +kernel)
theorem yJ_X6_fault : Cond.instanceMethod yX6_fault ∈ TT := t3 74 (by decide +kernel) (by decide +kernel)
theorem yY_X6_fault : Cond.selects RX6 yX6_fault yX6_fault ∈ TT := t3 75 (by decide +kernel) (by decide +kernel)
theorem kC_X6_many : Cond.code yX6_many cX6_many 2 (some .int) ∈ TT := t3 80 (by decide +kernel) (by decide +kernel)
theorem yJ_X6_many : Cond.instanceMethod yX6_many ∈ TT := t3 78 (by decide +kernel) (by decide +kernel)
theorem yY_X6_many : Cond.selects RX6 yX6_many yX6_many ∈ TT := t3 79 (by decide +kernel) (by decide +kernel)
theorem kC_X7_init : Cond.code yX7_init cX7_init 2 none ∈ TT := t3 85 (by decide +kernel) (by decide +kernel)
theorem yJ_X7_init : Cond.instanceMethod yX7_init ∈ TT := t3 84 (by decide +kernel) (by decide +kernel)
theorem kC_X7_canal : Cond.code yX7_canal cX7_canal 7 (some .int) ∈ TT := t3 187 (by decide +kernel) (by decide +kernel)
theorem yJ_X7_canal : Cond.instanceMethod yX7_canal ∈ TT := t3 185 (by decide +kernel) (by decide +kernel)
theorem yY_X7_canal : Cond.selects RX7 yX7_canal yX7_canal ∈ TT := t3 186 (by decide +kernel) (by decide +kernel)
theorem kC_X7_noSheet : Cond.code yX7_noSheet cX7_noSheet 1 (some .boolean) ∈ TT := t3 190 (by decide +kernel) (by decide +kernel)
theorem yY_X7_noSheet : Cond.static yX7_noSheet ∈ TT := t3 189 (by decide +kernel) (by decide +kernel)
theorem kC_X7_in : Cond.code yX7_in cX7_in 6 (some .boolean) ∈ TT := t3 194 (by decide +kernel) (by decide +kernel)
theorem yY_X7_in : Cond.static yX7_in ∈ TT := t3 193 (by decide +kernel) (by decide +kernel)
theorem kC_X7_refused : Cond.code yX7_refused cX7_refused 2 (some .int) ∈ TT := t3 198 (by decide +kernel) (by decide +kernel)
theorem yJ_X7_refused : Cond.instanceMethod yX7_refused ∈ TT := t3 197 (by decide +kernel) (by decide +kernel)
theorem yY_X7_refused : Cond.selects RX7 yX7_refused yX7_refused ∈ TT := t0 (yX7_refused, 32) 52 (by decide +kernel) rfl (by decide +kernel)
theorem kC_X7_cellsBarred : Cond.code yX7_cellsBarred cX7_cellsBarred 6 (some .int) ∈ TT := t3 203 (by decide +kernel) (by decide +kernel)
theorem yJ_X7_cellsBarred : Cond.instanceMethod yX7_cellsBarred ∈ TT := t3 202 (by decide +kernel) (by decide +kernel)
theorem yY_X7_cellsBarred : Cond.selects RX7 yX7_cellsBarred yX7_cellsBarred ∈ TT := t0 (yX7_cellsBarred, 32) 53 (by decide +kernel) rfl (by decide +kernel)
theorem kC_X7_failed : Cond.code yX7_failed cX7_failed 2 (some .int) ∈ TT := t3 207 (by decide +kernel) (by decide +kernel)
theorem yJ_X7_failed : Cond.instanceMethod yX7_failed ∈ TT := t3 206 (by decide +kernel) (by decide +kernel)
theorem yY_X7_failed : Cond.selects RX7 yX7_failed yX7_failed ∈ TT := t0 (yX7_failed, 32) 54 (by decide +kernel) rfl (by decide +kernel)
theorem kC_X7_isBeyond : Cond.code yX7_isBeyond cX7_isBeyond 4 (some .boolean) ∈ TT := t3 210 (by decide +kernel) (by decide +kernel)
theorem yY_X7_isBeyond : Cond.static yX7_isBeyond ∈ TT := t3 209 (by decide +kernel) (by decide +kernel)
theorem kC_X7_readsCanal : Cond.code yX7_readsCanal cX7_readsCanal 5 (some .boolean) ∈ TT := t3 214 (by decide +kernel) (by decide +kernel)
theorem yJ_X7_readsCanal : Cond.instanceMethod yX7_readsCanal ∈ TT := t3 213 (by decide +kernel) (by decide +kernel)
theorem yY_X7_readsCanal : Cond.selects RX7 yX7_readsCanal yX7_readsCanal ∈ TT := t0 (yX7_readsCanal, 32) 55 (by decide +kernel) rfl (by decide +kernel)
theorem kC_X7_codeAt : Cond.code yX7_codeAt cX7_codeAt 3 (some .int) ∈ TT := t3 218 (by decide +kernel) (by decide +kernel)
theorem yJ_X7_codeAt : Cond.instanceMethod yX7_codeAt ∈ TT := t3 217 (by decide +kernel) (by decide +kernel)
theorem yY_X7_codeAt : Cond.selects RX7 yX7_codeAt yX7_codeAt ∈ TT := t0 (yX7_codeAt, 32) 56 (by decide +kernel) rfl (by decide +kernel)
theorem kC_X7_figure : Cond.code yX7_figure cX7_figure 7 (some .int) ∈ TT := t3 222 (by decide +kernel) (by decide +kernel)
theorem yJ_X7_figure : Cond.instanceMethod yX7_figure ∈ TT := t3 221 (by decide +kernel) (by decide +kernel)
theorem yY_X7_figure : Cond.selects RX7 yX7_figure yX7_figure ∈ TT := t0 (yX7_figure, 32) 57 (by decide +kernel) rfl (by decide +kernel)
theorem kC_X7_readsPlace : Cond.code yX7_readsPlace cX7_readsPlace 4 (some .boolean) ∈ TT := t3 226 (by decide +kernel) (by decide +kernel)
theorem yJ_X7_readsPlace : Cond.instanceMethod yX7_readsPlace ∈ TT := t3 225 (by decide +kernel) (by decide +kernel)
theorem yY_X7_readsPlace : Cond.selects RX7 yX7_readsPlace yX7_readsPlace ∈ TT := t0 (yX7_readsPlace, 32) 58 (by decide +kernel) rfl (by decide +kernel)
theorem kC_X7_readsSkater : Cond.code yX7_readsSkater cX7_readsSkater 5 (some .boolean) ∈ TT := t3 230 (by decide +kernel) (by decide +kernel)
theorem yJ_X7_readsSkater : Cond.instanceMethod yX7_readsSkater ∈ TT := t3 229 (by decide +kernel) (by decide +kernel)
theorem yY_X7_readsSkater : Cond.selects RX7 yX7_readsSkater yX7_readsSkater ∈ TT := t0 (yX7_readsSkater, 32) 59 (by decide +kernel) rfl (by decide +kernel)
theorem kC_X7_cells : Cond.code yX7_cells cX7_cells 1 (some .int) ∈ TT := t3 234 (by decide +kernel) (by decide +kernel)
theorem yJ_X7_cells : Cond.instanceMethod yX7_cells ∈ TT := t3 233 (by decide +kernel) (by decide +kernel)
theorem yY_X7_cells : Cond.selects RX7 yX7_cells yX7_cells ∈ TT := t0 (yX7_cells, 32) 60 (by decide +kernel) rfl (by decide +kernel)
theorem kC_X7_ofSkater : Cond.code yX7_ofSkater cX7_ofSkater 3 (some .int) ∈ TT := t3 238 (by decide +kernel) (by decide +kernel)
theorem yJ_X7_ofSkater : Cond.instanceMethod yX7_ofSkater ∈ TT := t3 236 (by decide +kernel) (by decide +kernel)
theorem yY_X7_ofSkater : Cond.selects RX7 yX7_ofSkater yX7_ofSkater ∈ TT := t3 237 (by decide +kernel) (by decide +kernel)
theorem kC_X7_noSkater : Cond.code yX7_noSkater cX7_noSkater 2 (some .boolean) ∈ TT := t4 2 (by decide +kernel) (by decide +kernel)
theorem yJ_X7_noSkater : Cond.instanceMethod yX7_noSkater ∈ TT := t4 1 (by decide +kernel) (by decide +kernel)
theorem yY_X7_noSkater : Cond.selects RX7 yX7_noSkater yX7_noSkater ∈ TT := t0 (yX7_noSkater, 32) 61 (by decide +kernel) rfl (by decide +kernel)
theorem kC_X7_loadOf : Cond.code yX7_loadOf cX7_loadOf 3 (some .int) ∈ TT := t4 6 (by decide +kernel) (by decide +kernel)
theorem yJ_X7_loadOf : Cond.instanceMethod yX7_loadOf ∈ TT := t4 5 (by decide +kernel) (by decide +kernel)
theorem yY_X7_loadOf : Cond.selects RX7 yX7_loadOf yX7_loadOf ∈ TT := t0 (yX7_loadOf, 32) 62 (by decide +kernel) rfl (by decide +kernel)
theorem kC_X7_bearingOf : Cond.code yX7_bearingOf cX7_bearingOf 4 (some .int) ∈ TT := t4 10 (by decide +kernel) (by decide +kernel)
theorem yJ_X7_bearingOf : Cond.instanceMethod yX7_bearingOf ∈ TT := t4 9 (by decide +kernel) (by decide +kernel)
theorem yY_X7_bearingOf : Cond.selects RX7 yX7_bearingOf yX7_bearingOf ∈ TT := t0 (yX7_bearingOf, 32) 63 (by decide +kernel) rfl (by decide +kernel)
theorem kC_X7_bears : Cond.code yX7_bears cX7_bears 4 (some .boolean) ∈ TT := t4 14 (by decide +kernel) (by decide +kernel)
theorem yJ_X7_bears : Cond.instanceMethod yX7_bears ∈ TT := t4 13 (by decide +kernel) (by decide +kernel)
theorem yY_X7_bears : Cond.selects RX7 yX7_bears yX7_bears ∈ TT := t0 (yX7_bears, 32) 64 (by decide +kernel) rfl (by decide +kernel)
theorem kC_X7_isIn : Cond.code yX7_isIn cX7_isIn 2 (some .boolean) ∈ TT := t4 17 (by decide +kernel) (by decide +kernel)
theorem yY_X7_isIn : Cond.static yX7_isIn ∈ TT := t4 16 (by decide +kernel) (by decide +kernel)
theorem kC_X7_strength : Cond.code yX7_strength cX7_strength 2 (some .int) ∈ TT := t4 21 (by decide +kernel) (by decide +kernel)
theorem yJ_X7_strength : Cond.instanceMethod yX7_strength ∈ TT := t4 19 (by decide +kernel) (by decide +kernel)
theorem yY_X7_strength : Cond.selects RX7 yX7_strength yX7_strength ∈ TT := t4 20 (by decide +kernel) (by decide +kernel)
theorem kC_X7_noPlace : Cond.code yX7_noPlace cX7_noPlace 2 (some .boolean) ∈ TT := t4 25 (by decide +kernel) (by decide +kernel)
theorem yJ_X7_noPlace : Cond.instanceMethod yX7_noPlace ∈ TT := t4 24 (by decide +kernel) (by decide +kernel)
theorem yY_X7_noPlace : Cond.selects RX7 yX7_noPlace yX7_noPlace ∈ TT := t0 (yX7_noPlace, 32) 65 (by decide +kernel) rfl (by decide +kernel)
theorem kC_X7_freeze : Cond.code yX7_freeze cX7_freeze 4 (some .int) ∈ TT := t4 29 (by decide +kernel) (by decide +kernel)
theorem yJ_X7_freeze : Cond.instanceMethod yX7_freeze ∈ TT := t4 27 (by decide +kernel) (by decide +kernel)
theorem yY_X7_freeze : Cond.selects RX7 yX7_freeze yX7_freeze ∈ TT := t4 28 (by decide +kernel) (by decide +kernel)
theorem kC_X7_frost : Cond.code yX7_frost cX7_frost 3 (some .int) ∈ TT := t4 34 (by decide +kernel) (by decide +kernel)
theorem yJ_X7_frost : Cond.instanceMethod yX7_frost ∈ TT := t4 32 (by decide +kernel) (by decide +kernel)
theorem yY_X7_frost : Cond.selects RX7 yX7_frost yX7_frost ∈ TT := t4 33 (by decide +kernel) (by decide +kernel)
theorem kC_X7_deed : Cond.code yX7_deed cX7_deed 11 (some .int) ∈ TT := t4 38 (by decide +kernel) (by decide +kernel)
theorem yJ_X7_deed : Cond.instanceMethod yX7_deed ∈ TT := t4 36 (by decide +kernel) (by decide +kernel)
theorem yY_X7_deed : Cond.selects RX7 yX7_deed yX7_deed ∈ TT := t4 37 (by decide +kernel) (by decide +kernel)
theorem kC_X7_noTwo : Cond.code yX7_noTwo cX7_noTwo 3 (some .boolean) ∈ TT := t4 42 (by decide +kernel) (by decide +kernel)
theorem yJ_X7_noTwo : Cond.instanceMethod yX7_noTwo ∈ TT := t4 41 (by decide +kernel) (by decide +kernel)
theorem yY_X7_noTwo : Cond.selects RX7 yX7_noTwo yX7_noTwo ∈ TT := t0 (yX7_noTwo, 32) 66 (by decide +kernel) rfl (by decide +kernel)
theorem kC_X7_strokesBarred : Cond.code yX7_strokesBarred cX7_strokesBarred 7 (some .int) ∈ TT := t4 48 (by decide +kernel) (by decide +kernel)
theorem yJ_X7_strokesBarred : Cond.instanceMethod yX7_strokesBarred ∈ TT := t4 47 (by decide +kernel) (by decide +kernel)
theorem yY_X7_strokesBarred : Cond.selects RX7 yX7_strokesBarred yX7_strokesBarred ∈ TT := t0 (yX7_strokesBarred, 32) 67 (by decide +kernel) rfl (by decide +kernel)
theorem kC_X7_keep : Cond.code yX7_keep cX7_keep 2 none ∈ TT := t4 52 (by decide +kernel) (by decide +kernel)
theorem yJ_X7_keep : Cond.instanceMethod yX7_keep ∈ TT := t4 51 (by decide +kernel) (by decide +kernel)
theorem yY_X7_keep : Cond.selects RX7 yX7_keep yX7_keep ∈ TT := t0 (yX7_keep, 32) 68 (by decide +kernel) rfl (by decide +kernel)
theorem kC_X7_goDeed : Cond.code yX7_goDeed cX7_goDeed 8 none ∈ TT := t4 56 (by decide +kernel) (by decide +kernel)
theorem yJ_X7_goDeed : Cond.instanceMethod yX7_goDeed ∈ TT := t4 55 (by decide +kernel) (by decide +kernel)
theorem yY_X7_goDeed : Cond.selects RX7 yX7_goDeed yX7_goDeed ∈ TT := t0 (yX7_goDeed, 32) 69 (by decide +kernel) rfl (by decide +kernel)
theorem kC_X7_beside : Cond.code yX7_beside cX7_beside 5 (some .int) ∈ TT := t4 60 (by decide +kernel) (by decide +kernel)
theorem yJ_X7_beside : Cond.instanceMethod yX7_beside ∈ TT := t4 59 (by decide +kernel) (by decide +kernel)
theorem yY_X7_beside : Cond.selects RX7 yX7_beside yX7_beside ∈ TT := t0 (yX7_beside, 32) 70 (by decide +kernel) rfl (by decide +kernel)
theorem kC_X7_putBack : Cond.code yX7_putBack cX7_putBack 2 none ∈ TT := t4 64 (by decide +kernel) (by decide +kernel)
theorem yJ_X7_putBack : Cond.instanceMethod yX7_putBack ∈ TT := t4 63 (by decide +kernel) (by decide +kernel)
theorem yY_X7_putBack : Cond.selects RX7 yX7_putBack yX7_putBack ∈ TT := t0 (yX7_putBack, 32) 71 (by decide +kernel) rfl (by decide +kernel)
theorem kC_X7_write : Cond.code yX7_write cX7_write 9 (some .int) ∈ TT := t4 68 (by decide +kernel) (by decide +kernel)
theorem yJ_X7_write : Cond.instanceMethod yX7_write ∈ TT := t4 66 (by decide +kernel) (by decide +kernel)
theorem yY_X7_write : Cond.selects RX7 yX7_write yX7_write ∈ TT := t4 67 (by decide +kernel) (by decide +kernel)
theorem kC_X7_nights : Cond.code yX7_nights cX7_nights 4 (some .int) ∈ TT := t4 72 (by decide +kernel) (by decide +kernel)
theorem yJ_X7_nights : Cond.instanceMethod yX7_nights ∈ TT := t4 70 (by decide +kernel) (by decide +kernel)
theorem yY_X7_nights : Cond.selects RX7 yX7_nights yX7_nights ∈ TT := t4 71 (by decide +kernel) (by decide +kernel)
theorem kC_X7_countOf : Cond.code yX7_countOf cX7_countOf 4 (some .int) ∈ TT := t4 76 (by decide +kernel) (by decide +kernel)
theorem yJ_X7_countOf : Cond.instanceMethod yX7_countOf ∈ TT := t4 75 (by decide +kernel) (by decide +kernel)
theorem yY_X7_countOf : Cond.selects RX7 yX7_countOf yX7_countOf ∈ TT := t0 (yX7_countOf, 32) 72 (by decide +kernel) rfl (by decide +kernel)
theorem kC_X7_thaw : Cond.code yX7_thaw cX7_thaw 4 (some .int) ∈ TT := t4 80 (by decide +kernel) (by decide +kernel)
theorem yJ_X7_thaw : Cond.instanceMethod yX7_thaw ∈ TT := t4 78 (by decide +kernel) (by decide +kernel)
theorem yY_X7_thaw : Cond.selects RX7 yX7_thaw yX7_thaw ∈ TT := t4 79 (by decide +kernel) (by decide +kernel)
theorem kC_X7_bond : Cond.code yX7_bond cX7_bond 9 (some .int) ∈ TT := t4 84 (by decide +kernel) (by decide +kernel)
theorem yJ_X7_bond : Cond.instanceMethod yX7_bond ∈ TT := t4 82 (by decide +kernel) (by decide +kernel)
theorem yY_X7_bond : Cond.selects RX7 yX7_bond yX7_bond ∈ TT := t4 83 (by decide +kernel) (by decide +kernel)
theorem kC_X7_goBond : Cond.code yX7_goBond cX7_goBond 8 none ∈ TT := t4 90 (by decide +kernel) (by decide +kernel)
theorem yJ_X7_goBond : Cond.instanceMethod yX7_goBond ∈ TT := t4 89 (by decide +kernel) (by decide +kernel)
theorem yY_X7_goBond : Cond.selects RX7 yX7_goBond yX7_goBond ∈ TT := t0 (yX7_goBond, 32) 73 (by decide +kernel) rfl (by decide +kernel)
theorem kC_X7_leftBy : Cond.code yX7_leftBy cX7_leftBy 11 (some .int) ∈ TT := t4 94 (by decide +kernel) (by decide +kernel)
theorem yJ_X7_leftBy : Cond.instanceMethod yX7_leftBy ∈ TT := t4 93 (by decide +kernel) (by decide +kernel)
theorem yY_X7_leftBy : Cond.selects RX7 yX7_leftBy yX7_leftBy ∈ TT := t0 (yX7_leftBy, 32) 74 (by decide +kernel) rfl (by decide +kernel)
theorem kC_X7_strokeBy : Cond.code yX7_strokeBy cX7_strokeBy 10 (some .int) ∈ TT := t4 98 (by decide +kernel) (by decide +kernel)
theorem yJ_X7_strokeBy : Cond.instanceMethod yX7_strokeBy ∈ TT := t4 97 (by decide +kernel) (by decide +kernel)
theorem yY_X7_strokeBy : Cond.selects RX7 yX7_strokeBy yX7_strokeBy ∈ TT := t0 (yX7_strokeBy, 32) 75 (by decide +kernel) rfl (by decide +kernel)
theorem kC_X7_holds : Cond.code yX7_holds cX7_holds 7 (some .int) ∈ TT := t4 102 (by decide +kernel) (by decide +kernel)
theorem yJ_X7_holds : Cond.instanceMethod yX7_holds ∈ TT := t4 100 (by decide +kernel) (by decide +kernel)
theorem yY_X7_holds : Cond.selects RX7 yX7_holds yX7_holds ∈ TT := t4 101 (by decide +kernel) (by decide +kernel)
theorem kC_X7_isBond : Cond.code yX7_isBond cX7_isBond 5 (some .boolean) ∈ TT := t4 106 (by decide +kernel) (by decide +kernel)
theorem yJ_X7_isBond : Cond.instanceMethod yX7_isBond ∈ TT := t4 105 (by decide +kernel) (by decide +kernel)
theorem yY_X7_isBond : Cond.selects RX7 yX7_isBond yX7_isBond ∈ TT := t0 (yX7_isBond, 32) 76 (by decide +kernel) rfl (by decide +kernel)
theorem kC_X7_alone : Cond.code yX7_alone cX7_alone 7 (some .int) ∈ TT := t4 110 (by decide +kernel) (by decide +kernel)
theorem yJ_X7_alone : Cond.instanceMethod yX7_alone ∈ TT := t4 108 (by decide +kernel) (by decide +kernel)
theorem yY_X7_alone : Cond.selects RX7 yX7_alone yX7_alone ∈ TT := t4 109 (by decide +kernel) (by decide +kernel)
theorem kC_X7_neck : Cond.code yX7_neck cX7_neck 8 (some .int) ∈ TT := t4 114 (by decide +kernel) (by decide +kernel)
theorem yJ_X7_neck : Cond.instanceMethod yX7_neck ∈ TT := t4 112 (by decide +kernel) (by decide +kernel)
theorem yY_X7_neck : Cond.selects RX7 yX7_neck yX7_neck ∈ TT := t4 113 (by decide +kernel) (by decide +kernel)
theorem kC_X7_reading : Cond.code yX7_reading cX7_reading 4 (some .int) ∈ TT := t4 118 (by decide +kernel) (by decide +kernel)
theorem yJ_X7_reading : Cond.instanceMethod yX7_reading ∈ TT := t4 116 (by decide +kernel) (by decide +kernel)
theorem yY_X7_reading : Cond.selects RX7 yX7_reading yX7_reading ∈ TT := t4 117 (by decide +kernel) (by decide +kernel)
theorem kC_X7_back : Cond.code yX7_back cX7_back 2 (some .int) ∈ TT := t4 122 (by decide +kernel) (by decide +kernel)
theorem yJ_X7_back : Cond.instanceMethod yX7_back ∈ TT := t4 120 (by decide +kernel) (by decide +kernel)
theorem yY_X7_back : Cond.selects RX7 yX7_back yX7_back ∈ TT := t4 121 (by decide +kernel) (by decide +kernel)
theorem kC_X7_weights : Cond.code yX7_weights cX7_weights 5 (some .int) ∈ TT := t4 126 (by decide +kernel) (by decide +kernel)
theorem yJ_X7_weights : Cond.instanceMethod yX7_weights ∈ TT := t4 124 (by decide +kernel) (by decide +kernel)
theorem yY_X7_weights : Cond.selects RX7 yX7_weights yX7_weights ∈ TT := t4 125 (by decide +kernel) (by decide +kernel)
theorem kC_X7_areSo : Cond.code yX7_areSo cX7_areSo 3 (some .boolean) ∈ TT := t4 130 (by decide +kernel) (by decide +kernel)
theorem yJ_X7_areSo : Cond.instanceMethod yX7_areSo ∈ TT := t4 129 (by decide +kernel) (by decide +kernel)
theorem yY_X7_areSo : Cond.selects RX7 yX7_areSo yX7_areSo ∈ TT := t0 (yX7_areSo, 32) 77 (by decide +kernel) rfl (by decide +kernel)
theorem kC_X7_kinds : Cond.code yX7_kinds cX7_kinds 5 (some .int) ∈ TT := t4 134 (by decide +kernel) (by decide +kernel)
theorem yJ_X7_kinds : Cond.instanceMethod yX7_kinds ∈ TT := t4 132 (by decide +kernel) (by decide +kernel)
theorem yY_X7_kinds : Cond.selects RX7 yX7_kinds yX7_kinds ∈ TT := t4 133 (by decide +kernel) (by decide +kernel)
theorem kC_X7_strengths : Cond.code yX7_strengths cX7_strengths 5 (some .int) ∈ TT := t4 138 (by decide +kernel) (by decide +kernel)
theorem yJ_X7_strengths : Cond.instanceMethod yX7_strengths ∈ TT := t4 136 (by decide +kernel) (by decide +kernel)
theorem yY_X7_strengths : Cond.selects RX7 yX7_strengths yX7_strengths ∈ TT := t4 137 (by decide +kernel) (by decide +kernel)
theorem kC_X7_odds : Cond.code yX7_odds cX7_odds 11 (some .long) ∈ TT := t4 142 (by decide +kernel) (by decide +kernel)
theorem yJ_X7_odds : Cond.instanceMethod yX7_odds ∈ TT := t4 140 (by decide +kernel) (by decide +kernel)
theorem yY_X7_odds : Cond.selects RX7 yX7_odds yX7_odds ∈ TT := t4 141 (by decide +kernel) (by decide +kernel)
theorem kC_X7_lost : Cond.code yX7_lost cX7_lost 0 (some .long) ∈ TT := t4 145 (by decide +kernel) (by decide +kernel)
theorem yY_X7_lost : Cond.static yX7_lost ∈ TT := t4 144 (by decide +kernel) (by decide +kernel)
theorem kC_X7_bits : Cond.code yX7_bits cX7_bits 3 (some .int) ∈ TT := t4 149 (by decide +kernel) (by decide +kernel)
theorem yY_X7_bits : Cond.static yX7_bits ∈ TT := t4 148 (by decide +kernel) (by decide +kernel)
theorem kC_X7_share : Cond.code yX7_share cX7_share 11 (some .long) ∈ TT := t4 152 (by decide +kernel) (by decide +kernel)
theorem yY_X7_share : Cond.static yX7_share ∈ TT := t4 151 (by decide +kernel) (by decide +kernel)
theorem kC_X7_sheet : Cond.code yX7_sheet cX7_sheet 5 (some .int) ∈ TT := t4 156 (by decide +kernel) (by decide +kernel)
theorem yJ_X7_sheet : Cond.instanceMethod yX7_sheet ∈ TT := t4 154 (by decide +kernel) (by decide +kernel)
theorem yY_X7_sheet : Cond.selects RX7 yX7_sheet yX7_sheet ∈ TT := t4 155 (by decide +kernel) (by decide +kernel)
theorem kC_X7_lose : Cond.code yX7_lose cX7_lose 3 (some .int) ∈ TT := t4 160 (by decide +kernel) (by decide +kernel)
theorem yJ_X7_lose : Cond.instanceMethod yX7_lose ∈ TT := t4 158 (by decide +kernel) (by decide +kernel)
theorem yY_X7_lose : Cond.selects RX7 yX7_lose yX7_lose ∈ TT := t4 159 (by decide +kernel) (by decide +kernel)
theorem kC_X7_put : Cond.code yX7_put cX7_put 4 (some .int) ∈ TT := t4 164 (by decide +kernel) (by decide +kernel)
theorem yJ_X7_put : Cond.instanceMethod yX7_put ∈ TT := t4 162 (by decide +kernel) (by decide +kernel)
theorem yY_X7_put : Cond.selects RX7 yX7_put yX7_put ∈ TT := t4 163 (by decide +kernel) (by decide +kernel)
theorem kC_X7_noCell : Cond.code yX7_noCell cX7_noCell 3 (some .int) ∈ TT := t4 168 (by decide +kernel) (by decide +kernel)
theorem yJ_X7_noCell : Cond.instanceMethod yX7_noCell ∈ TT := t4 167 (by decide +kernel) (by decide +kernel)
theorem yY_X7_noCell : Cond.selects RX7 yX7_noCell yX7_noCell ∈ TT := t0 (yX7_noCell, 32) 78 (by decide +kernel) rfl (by decide +kernel)
theorem kC_X7_cell : Cond.code yX7_cell cX7_cell 4 (some .long) ∈ TT := t4 172 (by decide +kernel) (by decide +kernel)
theorem yJ_X7_cell : Cond.instanceMethod yX7_cell ∈ TT := t4 170 (by decide +kernel) (by decide +kernel)
theorem yY_X7_cell : Cond.selects RX7 yX7_cell yX7_cell ∈ TT := t4 171 (by decide +kernel) (by decide +kernel)
theorem kC_X7_failedLong : Cond.code yX7_failedLong cX7_failedLong 2 (some .long) ∈ TT := t4 176 (by decide +kernel) (by decide +kernel)
theorem yJ_X7_failedLong : Cond.instanceMethod yX7_failedLong ∈ TT := t4 175 (by decide +kernel) (by decide +kernel)
theorem yY_X7_failedLong : Cond.selects RX7 yX7_failedLong yX7_failedLong ∈ TT := t0 (yX7_failedLong, 32) 79 (by decide +kernel) rfl (by decide +kernel)
theorem kC_X7_copy : Cond.code yX7_copy cX7_copy 7 (some .int) ∈ TT := t4 180 (by decide +kernel) (by decide +kernel)
theorem yJ_X7_copy : Cond.instanceMethod yX7_copy ∈ TT := t4 178 (by decide +kernel) (by decide +kernel)
theorem yY_X7_copy : Cond.selects RX7 yX7_copy yX7_copy ∈ TT := t4 179 (by decide +kernel) (by decide +kernel)
theorem kC_X7_tell : Cond.code yX7_tell cX7_tell 4 (some .int) ∈ TT := t4 184 (by decide +kernel) (by decide +kernel)
theorem yJ_X7_tell : Cond.instanceMethod yX7_tell ∈ TT := t4 182 (by decide +kernel) (by decide +kernel)
theorem yY_X7_tell : Cond.selects RX7 yX7_tell yX7_tell ∈ TT := t4 183 (by decide +kernel) (by decide +kernel)
theorem kC_X7_traced : Cond.code yX7_traced cX7_traced 2 none ∈ TT := t4 188 (by decide +kernel) (by decide +kernel)
theorem yJ_X7_traced : Cond.instanceMethod yX7_traced ∈ TT := t4 187 (by decide +kernel) (by decide +kernel)
theorem yY_X7_traced : Cond.selects RX7 yX7_traced yX7_traced ∈ TT := t0 (yX7_traced, 32) 80 (by decide +kernel) rfl (by decide +kernel)
theorem kC_X7_signed : Cond.code yX7_signed cX7_signed 2 (some .int) ∈ TT := t4 192 (by decide +kernel) (by decide +kernel)
theorem yJ_X7_signed : Cond.instanceMethod yX7_signed ∈ TT := t4 190 (by decide +kernel) (by decide +kernel)
theorem yY_X7_signed : Cond.selects RX7 yX7_signed yX7_signed ∈ TT := t4 191 (by decide +kernel) (by decide +kernel)
theorem kC_X7_as : Cond.code yX7_as cX7_as 3 (some .int) ∈ TT := t4 196 (by decide +kernel) (by decide +kernel)
theorem yJ_X7_as : Cond.instanceMethod yX7_as ∈ TT := t4 194 (by decide +kernel) (by decide +kernel)
theorem yY_X7_as : Cond.selects RX7 yX7_as yX7_as ∈ TT := t4 195 (by decide +kernel) (by decide +kernel)
theorem kC_X7_trace : Cond.code yX7_trace cX7_trace 1 (some .int) ∈ TT := t4 200 (by decide +kernel) (by decide +kernel)
theorem yJ_X7_trace : Cond.instanceMethod yX7_trace ∈ TT := t4 198 (by decide +kernel) (by decide +kernel)
theorem yY_X7_trace : Cond.selects RX7 yX7_trace yX7_trace ∈ TT := t4 199 (by decide +kernel) (by decide +kernel)
theorem kC_X7_fault : Cond.code yX7_fault cX7_fault 1 (some .int) ∈ TT := t4 204 (by decide +kernel) (by decide +kernel)
theorem yJ_X7_fault : Cond.instanceMethod yX7_fault ∈ TT := t4 202 (by decide +kernel) (by decide +kernel)
theorem yY_X7_fault : Cond.selects RX7 yX7_fault yX7_fault ∈ TT := t4 203 (by decide +kernel) (by decide +kernel)
theorem kC_X7_many : Cond.code yX7_many cX7_many 2 (some .int) ∈ TT := t4 208 (by decide +kernel) (by decide +kernel)
theorem yJ_X7_many : Cond.instanceMethod yX7_many ∈ TT := t4 206 (by decide +kernel) (by decide +kernel)
theorem yY_X7_many : Cond.selects RX7 yX7_many yX7_many ∈ TT := t4 207 (by decide +kernel) (by decide +kernel)
theorem tU0_0 : u_lay RX0 TX0 0 ∈ TT := t1 131 (by decide +kernel) (by decide +kernel)
theorem tU0_1 : u_lay RX0 TX0 1 ∈ TT := t1 133 (by decide +kernel) (by decide +kernel)
theorem tU0_2 : u_lay RX0 TX0 2 ∈ TT := t1 135 (by decide +kernel) (by decide +kernel)
theorem inT0 : ∀ w ∈ u_ws RX0 TX0 3, w ∈ TT := by
  intro w hw
  obtain ⟨k, hk, rfl⟩ := List.mem_map.mp hw
  have hk := List.mem_range.mp hk
  match k, hk with
  | 0, _ => exact tU0_0
  | 1, _ => exact tU0_1
  | 2, _ => exact tU0_2
  | k + 3, hk => exact absurd hk (by omega)
theorem tU1_0 : u_lay RX1 TX1 0 ∈ TT := t1 59 (by decide +kernel) (by decide +kernel)
theorem tU1_1 : u_lay RX1 TX1 1 ∈ TT := t1 61 (by decide +kernel) (by decide +kernel)
theorem tU1_2 : u_lay RX1 TX1 2 ∈ TT := t1 63 (by decide +kernel) (by decide +kernel)
theorem tU1_3 : u_lay RX1 TX1 3 ∈ TT := t1 65 (by decide +kernel) (by decide +kernel)
theorem inT1 : ∀ w ∈ u_ws RX1 TX1 4, w ∈ TT := by
  intro w hw
  obtain ⟨k, hk, rfl⟩ := List.mem_map.mp hw
  have hk := List.mem_range.mp hk
  match k, hk with
  | 0, _ => exact tU1_0
  | 1, _ => exact tU1_1
  | 2, _ => exact tU1_2
  | 3, _ => exact tU1_3
  | k + 4, hk => exact absurd hk (by omega)
theorem tU2_0 : u_lay RX2 TX2 0 ∈ TT := t1 106 (by decide +kernel) (by decide +kernel)
theorem tU2_1 : u_lay RX2 TX2 1 ∈ TT := t1 108 (by decide +kernel) (by decide +kernel)
theorem tU2_2 : u_lay RX2 TX2 2 ∈ TT := t1 110 (by decide +kernel) (by decide +kernel)
theorem tU2_3 : u_lay RX2 TX2 3 ∈ TT := t1 112 (by decide +kernel) (by decide +kernel)
theorem tU2_4 : u_lay RX2 TX2 4 ∈ TT := t1 114 (by decide +kernel) (by decide +kernel)
theorem tU2_5 : u_lay RX2 TX2 5 ∈ TT := t1 116 (by decide +kernel) (by decide +kernel)
theorem inT2 : ∀ w ∈ u_ws RX2 TX2 6, w ∈ TT := by
  intro w hw
  obtain ⟨k, hk, rfl⟩ := List.mem_map.mp hw
  have hk := List.mem_range.mp hk
  match k, hk with
  | 0, _ => exact tU2_0
  | 1, _ => exact tU2_1
  | 2, _ => exact tU2_2
  | 3, _ => exact tU2_3
  | 4, _ => exact tU2_4
  | 5, _ => exact tU2_5
  | k + 6, hk => exact absurd hk (by omega)
theorem tU3_0 : u_lay RX3 TX3 0 ∈ TT := t1 79 (by decide +kernel) (by decide +kernel)
theorem tU3_1 : u_lay RX3 TX3 1 ∈ TT := t1 81 (by decide +kernel) (by decide +kernel)
theorem tU3_2 : u_lay RX3 TX3 2 ∈ TT := t1 83 (by decide +kernel) (by decide +kernel)
theorem tU3_3 : u_lay RX3 TX3 3 ∈ TT := t1 85 (by decide +kernel) (by decide +kernel)
theorem inT3 : ∀ w ∈ u_ws RX3 TX3 4, w ∈ TT := by
  intro w hw
  obtain ⟨k, hk, rfl⟩ := List.mem_map.mp hw
  have hk := List.mem_range.mp hk
  match k, hk with
  | 0, _ => exact tU3_0
  | 1, _ => exact tU3_1
  | 2, _ => exact tU3_2
  | 3, _ => exact tU3_3
  | k + 4, hk => exact absurd hk (by omega)
theorem tU4_0 : u_lay RX4 TX4 0 ∈ TT := t1 149 (by decide +kernel) (by decide +kernel)
theorem tU4_1 : u_lay RX4 TX4 1 ∈ TT := t1 151 (by decide +kernel) (by decide +kernel)
theorem tU4_2 : u_lay RX4 TX4 2 ∈ TT := t1 153 (by decide +kernel) (by decide +kernel)
theorem inT4 : ∀ w ∈ u_ws RX4 TX4 3, w ∈ TT := by
  intro w hw
  obtain ⟨k, hk, rfl⟩ := List.mem_map.mp hw
  have hk := List.mem_range.mp hk
  match k, hk with
  | 0, _ => exact tU4_0
  | 1, _ => exact tU4_1
  | 2, _ => exact tU4_2
  | k + 3, hk => exact absurd hk (by omega)
theorem tU5_0 : u_lay RX5 TX5 0 ∈ TT := t1 35 (by decide +kernel) (by decide +kernel)
theorem tU5_1 : u_lay RX5 TX5 1 ∈ TT := t1 37 (by decide +kernel) (by decide +kernel)
theorem tU5_2 : u_lay RX5 TX5 2 ∈ TT := t1 39 (by decide +kernel) (by decide +kernel)
theorem tU5_3 : u_lay RX5 TX5 3 ∈ TT := t1 41 (by decide +kernel) (by decide +kernel)
theorem inT5 : ∀ w ∈ u_ws RX5 TX5 4, w ∈ TT := by
  intro w hw
  obtain ⟨k, hk, rfl⟩ := List.mem_map.mp hw
  have hk := List.mem_range.mp hk
  match k, hk with
  | 0, _ => exact tU5_0
  | 1, _ => exact tU5_1
  | 2, _ => exact tU5_2
  | 3, _ => exact tU5_3
  | k + 4, hk => exact absurd hk (by omega)
theorem tU6_0 : u_lay RX6 TX6 0 ∈ TT := t1 166 (by decide +kernel) (by decide +kernel)
theorem tU6_1 : u_lay RX6 TX6 1 ∈ TT := t1 168 (by decide +kernel) (by decide +kernel)
theorem tU6_2 : u_lay RX6 TX6 2 ∈ TT := t1 170 (by decide +kernel) (by decide +kernel)
theorem tU6_3 : u_lay RX6 TX6 3 ∈ TT := t1 172 (by decide +kernel) (by decide +kernel)
theorem tU6_4 : u_lay RX6 TX6 4 ∈ TT := t1 174 (by decide +kernel) (by decide +kernel)
theorem tU6_5 : u_lay RX6 TX6 5 ∈ TT := t1 176 (by decide +kernel) (by decide +kernel)
theorem tU6_6 : u_lay RX6 TX6 6 ∈ TT := t1 178 (by decide +kernel) (by decide +kernel)
theorem tU6_7 : u_lay RX6 TX6 7 ∈ TT := t1 180 (by decide +kernel) (by decide +kernel)
theorem tU6_8 : u_lay RX6 TX6 8 ∈ TT := t1 182 (by decide +kernel) (by decide +kernel)
theorem tU6_9 : u_lay RX6 TX6 9 ∈ TT := t1 184 (by decide +kernel) (by decide +kernel)
theorem inT6 : ∀ w ∈ u_ws RX6 TX6 10, w ∈ TT := by
  intro w hw
  obtain ⟨k, hk, rfl⟩ := List.mem_map.mp hw
  have hk := List.mem_range.mp hk
  match k, hk with
  | 0, _ => exact tU6_0
  | 1, _ => exact tU6_1
  | 2, _ => exact tU6_2
  | 3, _ => exact tU6_3
  | 4, _ => exact tU6_4
  | 5, _ => exact tU6_5
  | 6, _ => exact tU6_6
  | 7, _ => exact tU6_7
  | 8, _ => exact tU6_8
  | 9, _ => exact tU6_9
  | k + 10, hk => exact absurd hk (by omega)
theorem tU7_0 : u_lay RX7 TX7 0 ∈ TT := t3 119 (by decide +kernel) (by decide +kernel)
theorem tU7_1 : u_lay RX7 TX7 1 ∈ TT := t3 121 (by decide +kernel) (by decide +kernel)
theorem tU7_2 : u_lay RX7 TX7 2 ∈ TT := t3 123 (by decide +kernel) (by decide +kernel)
theorem tU7_3 : u_lay RX7 TX7 3 ∈ TT := t3 125 (by decide +kernel) (by decide +kernel)
theorem tU7_4 : u_lay RX7 TX7 4 ∈ TT := t3 127 (by decide +kernel) (by decide +kernel)
theorem tU7_5 : u_lay RX7 TX7 5 ∈ TT := t3 129 (by decide +kernel) (by decide +kernel)
theorem tU7_6 : u_lay RX7 TX7 6 ∈ TT := t3 131 (by decide +kernel) (by decide +kernel)
theorem tU7_7 : u_lay RX7 TX7 7 ∈ TT := t3 133 (by decide +kernel) (by decide +kernel)
theorem tU7_8 : u_lay RX7 TX7 8 ∈ TT := t3 135 (by decide +kernel) (by decide +kernel)
theorem tU7_9 : u_lay RX7 TX7 9 ∈ TT := t3 137 (by decide +kernel) (by decide +kernel)
theorem tU7_10 : u_lay RX7 TX7 10 ∈ TT := t3 139 (by decide +kernel) (by decide +kernel)
theorem tU7_11 : u_lay RX7 TX7 11 ∈ TT := t3 141 (by decide +kernel) (by decide +kernel)
theorem tU7_12 : u_lay RX7 TX7 12 ∈ TT := t3 143 (by decide +kernel) (by decide +kernel)
theorem tU7_13 : u_lay RX7 TX7 13 ∈ TT := t3 145 (by decide +kernel) (by decide +kernel)
theorem tU7_14 : u_lay RX7 TX7 14 ∈ TT := t3 147 (by decide +kernel) (by decide +kernel)
theorem tU7_15 : u_lay RX7 TX7 15 ∈ TT := t3 149 (by decide +kernel) (by decide +kernel)
theorem tU7_16 : u_lay RX7 TX7 16 ∈ TT := t3 151 (by decide +kernel) (by decide +kernel)
theorem tU7_17 : u_lay RX7 TX7 17 ∈ TT := t3 153 (by decide +kernel) (by decide +kernel)
theorem tU7_18 : u_lay RX7 TX7 18 ∈ TT := t3 155 (by decide +kernel) (by decide +kernel)
theorem tU7_19 : u_lay RX7 TX7 19 ∈ TT := t3 157 (by decide +kernel) (by decide +kernel)
theorem tU7_20 : u_lay RX7 TX7 20 ∈ TT := t3 159 (by decide +kernel) (by decide +kernel)
theorem tU7_21 : u_lay RX7 TX7 21 ∈ TT := t3 161 (by decide +kernel) (by decide +kernel)
theorem tU7_22 : u_lay RX7 TX7 22 ∈ TT := t3 163 (by decide +kernel) (by decide +kernel)
theorem tU7_23 : u_lay RX7 TX7 23 ∈ TT := t3 165 (by decide +kernel) (by decide +kernel)
theorem tU7_24 : u_lay RX7 TX7 24 ∈ TT := t3 167 (by decide +kernel) (by decide +kernel)
theorem tU7_25 : u_lay RX7 TX7 25 ∈ TT := t3 169 (by decide +kernel) (by decide +kernel)
theorem tU7_26 : u_lay RX7 TX7 26 ∈ TT := t3 171 (by decide +kernel) (by decide +kernel)
theorem tU7_27 : u_lay RX7 TX7 27 ∈ TT := t3 173 (by decide +kernel) (by decide +kernel)
theorem tU7_28 : u_lay RX7 TX7 28 ∈ TT := t3 175 (by decide +kernel) (by decide +kernel)
theorem tU7_29 : u_lay RX7 TX7 29 ∈ TT := t3 177 (by decide +kernel) (by decide +kernel)
theorem tU7_30 : u_lay RX7 TX7 30 ∈ TT := t3 179 (by decide +kernel) (by decide +kernel)
theorem tU7_31 : u_lay RX7 TX7 31 ∈ TT := t3 181 (by decide +kernel) (by decide +kernel)
theorem inT7 : ∀ w ∈ u_ws RX7 TX7 32, w ∈ TT := by
  intro w hw
  obtain ⟨k, hk, rfl⟩ := List.mem_map.mp hw
  have hk := List.mem_range.mp hk
  match k, hk with
  | 0, _ => exact tU7_0
  | 1, _ => exact tU7_1
  | 2, _ => exact tU7_2
  | 3, _ => exact tU7_3
  | 4, _ => exact tU7_4
  | 5, _ => exact tU7_5
  | 6, _ => exact tU7_6
  | 7, _ => exact tU7_7
  | 8, _ => exact tU7_8
  | 9, _ => exact tU7_9
  | 10, _ => exact tU7_10
  | 11, _ => exact tU7_11
  | 12, _ => exact tU7_12
  | 13, _ => exact tU7_13
  | 14, _ => exact tU7_14
  | 15, _ => exact tU7_15
  | 16, _ => exact tU7_16
  | 17, _ => exact tU7_17
  | 18, _ => exact tU7_18
  | 19, _ => exact tU7_19
  | 20, _ => exact tU7_20
  | 21, _ => exact tU7_21
  | 22, _ => exact tU7_22
  | 23, _ => exact tU7_23
  | 24, _ => exact tU7_24
  | 25, _ => exact tU7_25
  | 26, _ => exact tU7_26
  | 27, _ => exact tU7_27
  | 28, _ => exact tU7_28
  | 29, _ => exact tU7_29
  | 30, _ => exact tU7_30
  | 31, _ => exact tU7_31
  | k + 32, hk => exact absurd hk (by omega)
theorem tnat : Cond.native arraycopyName ∈ TT := t1 220 (by decide +kernel) (by decide +kernel)
theorem tsac : Cond.static arraycopyName ∈ TT := t1 219 (by decide +kernel) (by decide +kernel)
theorem tobj : Cond.instanceMethod objectInit ∈ TT := t1 19 (by decide +kernel) (by decide +kernel)
theorem tobjc : Cond.code objectInit ⟨#[0xb1]⟩ 1 none ∈ TT := t1 20 (by decide +kernel) (by decide +kernel)
/-- the words for what nest mates have of one another -/
def nestL : List Cond := [.fieldLinkNest RX6 251 RX5 "place" "I" RX6,
  .fieldLinkNest RX6 247 RX5 "isWrong" "Z" RX6,
  .fieldLinkNest RX6 120 RX1 "strengths" "[I" RX6,
  .fieldLinkNest RX6 267 RX1 "at" "I" RX6,
  .fieldLinkNest RX6 270 RX1 "cut" "I" RX6,
  .fieldLinkNest RX6 117 RX1 "firstWrong" "I" RX6,
  .fieldLinkNest RX6 159 RX3 "count" "I" RX6,
  .fieldLinkNest RX1 25 RX2 "strengths" "[I" RX6,
  .fieldLinkNest RX3 32 RX2 "strengths" "[I" RX6,
  .fieldLinkNest RX6 93 RX2 "strengths" "[I" RX6,
  .fieldLinkNest RX6 222 RX2 "wide" "I" RX6,
  .fieldLinkNest RX6 103 RX2 "frost" "I" RX6,
  .fieldLinkNest RX6 78 RX0 "kinds" "[I" RX6,
  .fieldLinkNest RX6 82 RX0 "weights" "[I" RX6,
  .fieldLinkNest RX6 221 RX0 "count" "I" RX6,
  .fieldLinkNest RX5 26 RX4 "numbers" "[I" RX6,
  .fieldLinkNest RX6 200 RX4 "numbers" "[I" RX6,
  .fieldLinkNest RX6 225 RX4 "lane" "I" RX6,
  .methodLinkNest RX6 19 yX5_init RX6,
  .methodLinkNest RX6 26 yX1_init RX6,
  .methodLinkNest RX6 33 yX3_init RX6,
  .methodLinkNest RX6 40 yX2_init RX6,
  .methodLinkNest RX6 47 yX0_init RX6,
  .methodLinkNest RX6 65 yX4_init RX6,
  .methodLinkNest RX6 186 yX4_isNothing RX6,
  .methodLinkNest RX6 232 yX4_has RX6,
  .methodLinkNest RX4 28 yX6_isWithin RX6,
  .methodLinkNest RX6 235 yX5_begin RX6,
  .methodLinkNest RX6 239 yX2_take RX6,
  .methodLinkNest RX2 31 yX5_sign RX6,
  .methodLinkNest RX5 41 yX6_isWithin RX6,
  .methodLinkNest RX2 37 yX5_digit RX6,
  .methodLinkNest RX6 243 yX0_take RX6,
  .methodLinkNest RX0 22 yX5_goesOn RX6,
  .methodLinkNest RX0 28 yX5_sign RX6,
  .methodLinkNest RX0 32 yX5_kind RX6,
  .methodLinkNest RX0 36 yX5_digit RX6,
  .methodLinkNest RX6 244 yX5_end RX6,
  .methodLinkNest RX6 74 yX0_has RX6,
  .methodLinkNest RX0 40 yX6_isWithin RX6,
  .methodLinkNest RX6 85 yX0_load RX6,
  .methodLinkNest RX6 88 yX2_bearing RX6,
  .methodLinkNest RX6 92 yX2_has RX6,
  .methodLinkNest RX2 45 yX6_isWithin RX6,
  .methodLinkNest RX6 151 yX2_cells RX6,
  .methodLinkNest RX6 260 yX1_begin RX6,
  .methodLinkNest RX6 263 yX1_stroke RX6,
  .methodLinkNest RX1 34 yX2_led RX6,
  .methodLinkNest RX2 57 yX6_isIn RX6,
  .methodLinkNest RX6 127 yX2_strengthen RX6,
  .methodLinkNest RX6 131 yX2_count RX6,
  .methodLinkNest RX6 137 yX2_shortest RX6,
  .methodLinkNest RX6 140 yX2_strokeOfBond RX6,
  .methodLinkNest RX6 144 yX2_reach RX6,
  .methodLinkNest RX6 155 yX3_add RX6,
  .methodLinkNest RX6 161 yX3_areSo RX6,
  .methodLinkNest RX3 26 yX0_load RX6,
  .methodLinkNest RX6 167 yX2_all RX6,
  .methodLinkNest RX6 273 yX4_begin RX6,
  .methodLinkNest RX6 190 yX4_clear RX6,
  .methodLinkNest RX6 276 yX4_set RX6]
theorem nFX6_251 : Cond.fieldLinkNest RX6 251 RX5 "place" "I" RX6 ∈ nestL := List.mem_of_getElem? (i := 0) rfl
theorem nFX6_247 : Cond.fieldLinkNest RX6 247 RX5 "isWrong" "Z" RX6 ∈ nestL := List.mem_of_getElem? (i := 1) rfl
theorem nFX6_120 : Cond.fieldLinkNest RX6 120 RX1 "strengths" "[I" RX6 ∈ nestL := List.mem_of_getElem? (i := 2) rfl
theorem nFX6_267 : Cond.fieldLinkNest RX6 267 RX1 "at" "I" RX6 ∈ nestL := List.mem_of_getElem? (i := 3) rfl
theorem nFX6_270 : Cond.fieldLinkNest RX6 270 RX1 "cut" "I" RX6 ∈ nestL := List.mem_of_getElem? (i := 4) rfl
theorem nFX6_117 : Cond.fieldLinkNest RX6 117 RX1 "firstWrong" "I" RX6 ∈ nestL := List.mem_of_getElem? (i := 5) rfl
theorem nFX6_159 : Cond.fieldLinkNest RX6 159 RX3 "count" "I" RX6 ∈ nestL := List.mem_of_getElem? (i := 6) rfl
theorem nFX1_25 : Cond.fieldLinkNest RX1 25 RX2 "strengths" "[I" RX6 ∈ nestL := List.mem_of_getElem? (i := 7) rfl
theorem nFX3_32 : Cond.fieldLinkNest RX3 32 RX2 "strengths" "[I" RX6 ∈ nestL := List.mem_of_getElem? (i := 8) rfl
theorem nFX6_93 : Cond.fieldLinkNest RX6 93 RX2 "strengths" "[I" RX6 ∈ nestL := List.mem_of_getElem? (i := 9) rfl
theorem nFX6_222 : Cond.fieldLinkNest RX6 222 RX2 "wide" "I" RX6 ∈ nestL := List.mem_of_getElem? (i := 10) rfl
theorem nFX6_103 : Cond.fieldLinkNest RX6 103 RX2 "frost" "I" RX6 ∈ nestL := List.mem_of_getElem? (i := 11) rfl
theorem nFX6_78 : Cond.fieldLinkNest RX6 78 RX0 "kinds" "[I" RX6 ∈ nestL := List.mem_of_getElem? (i := 12) rfl
theorem nFX6_82 : Cond.fieldLinkNest RX6 82 RX0 "weights" "[I" RX6 ∈ nestL := List.mem_of_getElem? (i := 13) rfl
theorem nFX6_221 : Cond.fieldLinkNest RX6 221 RX0 "count" "I" RX6 ∈ nestL := List.mem_of_getElem? (i := 14) rfl
theorem nFX5_26 : Cond.fieldLinkNest RX5 26 RX4 "numbers" "[I" RX6 ∈ nestL := List.mem_of_getElem? (i := 15) rfl
theorem nFX6_200 : Cond.fieldLinkNest RX6 200 RX4 "numbers" "[I" RX6 ∈ nestL := List.mem_of_getElem? (i := 16) rfl
theorem nFX6_225 : Cond.fieldLinkNest RX6 225 RX4 "lane" "I" RX6 ∈ nestL := List.mem_of_getElem? (i := 17) rfl
theorem nMX6_19 : Cond.methodLinkNest RX6 19 yX5_init RX6 ∈ nestL := List.mem_of_getElem? (i := 18) rfl
theorem nMX6_26 : Cond.methodLinkNest RX6 26 yX1_init RX6 ∈ nestL := List.mem_of_getElem? (i := 19) rfl
theorem nMX6_33 : Cond.methodLinkNest RX6 33 yX3_init RX6 ∈ nestL := List.mem_of_getElem? (i := 20) rfl
theorem nMX6_40 : Cond.methodLinkNest RX6 40 yX2_init RX6 ∈ nestL := List.mem_of_getElem? (i := 21) rfl
theorem nMX6_47 : Cond.methodLinkNest RX6 47 yX0_init RX6 ∈ nestL := List.mem_of_getElem? (i := 22) rfl
theorem nMX6_65 : Cond.methodLinkNest RX6 65 yX4_init RX6 ∈ nestL := List.mem_of_getElem? (i := 23) rfl
theorem nMX6_186 : Cond.methodLinkNest RX6 186 yX4_isNothing RX6 ∈ nestL := List.mem_of_getElem? (i := 24) rfl
theorem nMX6_232 : Cond.methodLinkNest RX6 232 yX4_has RX6 ∈ nestL := List.mem_of_getElem? (i := 25) rfl
theorem nMX4_28 : Cond.methodLinkNest RX4 28 yX6_isWithin RX6 ∈ nestL := List.mem_of_getElem? (i := 26) rfl
theorem nMX6_235 : Cond.methodLinkNest RX6 235 yX5_begin RX6 ∈ nestL := List.mem_of_getElem? (i := 27) rfl
theorem nMX6_239 : Cond.methodLinkNest RX6 239 yX2_take RX6 ∈ nestL := List.mem_of_getElem? (i := 28) rfl
theorem nMX2_31 : Cond.methodLinkNest RX2 31 yX5_sign RX6 ∈ nestL := List.mem_of_getElem? (i := 29) rfl
theorem nMX5_41 : Cond.methodLinkNest RX5 41 yX6_isWithin RX6 ∈ nestL := List.mem_of_getElem? (i := 30) rfl
theorem nMX2_37 : Cond.methodLinkNest RX2 37 yX5_digit RX6 ∈ nestL := List.mem_of_getElem? (i := 31) rfl
theorem nMX6_243 : Cond.methodLinkNest RX6 243 yX0_take RX6 ∈ nestL := List.mem_of_getElem? (i := 32) rfl
theorem nMX0_22 : Cond.methodLinkNest RX0 22 yX5_goesOn RX6 ∈ nestL := List.mem_of_getElem? (i := 33) rfl
theorem nMX0_28 : Cond.methodLinkNest RX0 28 yX5_sign RX6 ∈ nestL := List.mem_of_getElem? (i := 34) rfl
theorem nMX0_32 : Cond.methodLinkNest RX0 32 yX5_kind RX6 ∈ nestL := List.mem_of_getElem? (i := 35) rfl
theorem nMX0_36 : Cond.methodLinkNest RX0 36 yX5_digit RX6 ∈ nestL := List.mem_of_getElem? (i := 36) rfl
theorem nMX6_244 : Cond.methodLinkNest RX6 244 yX5_end RX6 ∈ nestL := List.mem_of_getElem? (i := 37) rfl
theorem nMX6_74 : Cond.methodLinkNest RX6 74 yX0_has RX6 ∈ nestL := List.mem_of_getElem? (i := 38) rfl
theorem nMX0_40 : Cond.methodLinkNest RX0 40 yX6_isWithin RX6 ∈ nestL := List.mem_of_getElem? (i := 39) rfl
theorem nMX6_85 : Cond.methodLinkNest RX6 85 yX0_load RX6 ∈ nestL := List.mem_of_getElem? (i := 40) rfl
theorem nMX6_88 : Cond.methodLinkNest RX6 88 yX2_bearing RX6 ∈ nestL := List.mem_of_getElem? (i := 41) rfl
theorem nMX6_92 : Cond.methodLinkNest RX6 92 yX2_has RX6 ∈ nestL := List.mem_of_getElem? (i := 42) rfl
theorem nMX2_45 : Cond.methodLinkNest RX2 45 yX6_isWithin RX6 ∈ nestL := List.mem_of_getElem? (i := 43) rfl
theorem nMX6_151 : Cond.methodLinkNest RX6 151 yX2_cells RX6 ∈ nestL := List.mem_of_getElem? (i := 44) rfl
theorem nMX6_260 : Cond.methodLinkNest RX6 260 yX1_begin RX6 ∈ nestL := List.mem_of_getElem? (i := 45) rfl
theorem nMX6_263 : Cond.methodLinkNest RX6 263 yX1_stroke RX6 ∈ nestL := List.mem_of_getElem? (i := 46) rfl
theorem nMX1_34 : Cond.methodLinkNest RX1 34 yX2_led RX6 ∈ nestL := List.mem_of_getElem? (i := 47) rfl
theorem nMX2_57 : Cond.methodLinkNest RX2 57 yX6_isIn RX6 ∈ nestL := List.mem_of_getElem? (i := 48) rfl
theorem nMX6_127 : Cond.methodLinkNest RX6 127 yX2_strengthen RX6 ∈ nestL := List.mem_of_getElem? (i := 49) rfl
theorem nMX6_131 : Cond.methodLinkNest RX6 131 yX2_count RX6 ∈ nestL := List.mem_of_getElem? (i := 50) rfl
theorem nMX6_137 : Cond.methodLinkNest RX6 137 yX2_shortest RX6 ∈ nestL := List.mem_of_getElem? (i := 51) rfl
theorem nMX6_140 : Cond.methodLinkNest RX6 140 yX2_strokeOfBond RX6 ∈ nestL := List.mem_of_getElem? (i := 52) rfl
theorem nMX6_144 : Cond.methodLinkNest RX6 144 yX2_reach RX6 ∈ nestL := List.mem_of_getElem? (i := 53) rfl
theorem nMX6_155 : Cond.methodLinkNest RX6 155 yX3_add RX6 ∈ nestL := List.mem_of_getElem? (i := 54) rfl
theorem nMX6_161 : Cond.methodLinkNest RX6 161 yX3_areSo RX6 ∈ nestL := List.mem_of_getElem? (i := 55) rfl
theorem nMX3_26 : Cond.methodLinkNest RX3 26 yX0_load RX6 ∈ nestL := List.mem_of_getElem? (i := 56) rfl
theorem nMX6_167 : Cond.methodLinkNest RX6 167 yX2_all RX6 ∈ nestL := List.mem_of_getElem? (i := 57) rfl
theorem nMX6_273 : Cond.methodLinkNest RX6 273 yX4_begin RX6 ∈ nestL := List.mem_of_getElem? (i := 58) rfl
theorem nMX6_190 : Cond.methodLinkNest RX6 190 yX4_clear RX6 ∈ nestL := List.mem_of_getElem? (i := 59) rfl
theorem nMX6_276 : Cond.methodLinkNest RX6 276 yX4_set RX6 ∈ nestL := List.mem_of_getElem? (i := 60) rfl
set_option maxRecDepth 100000 in
theorem nestL_in : ∀ w ∈ nestL, w ∈ lw_tbl := by
  intro w hw
  have h : nestL = [32, 34, 52, 54, 56, 58, 78, 96, 97, 98, 101, 103, 126, 128, 130, 144, 145, 147, 25, 47, 70, 91, 121, 139, 205, 209, 213, 214, 221, 225, 237, 238, 242, 246, 247, 248, 253, 254, 270, 274, 275, 279, 291, 295, 308, 328, 333, 337, 341, 357, 367, 383, 395, 413, 429, 441, 445, 459, 478, 489, 501].filterMap (fun i => tables_1[i]?) := by decide +kernel
  rw [h] at hw
  obtain ⟨i, -, hi⟩ := List.mem_filterMap.mp hw
  exact List.mem_append_right _ (List.mem_of_getElem? hi)
