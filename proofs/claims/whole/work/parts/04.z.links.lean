/-! links: printed by program -/
theorem lf_Rows_13 : Lf "StuckRecord$Rows" 13 4 0 := ⟨R_Rows, F_Rows, 4, rfl, by decide, i_Rows, mW_at 188 (by decide +kernel) rfl⟩
theorem lp_Rows_13 : Lp "StuckRecord$Rows" 13 4 0 (.int) true := ⟨R_Rows, F_Rows, 4, y_Rows, rfl, by decide, i_Rows, mW_at 188 (by decide +kernel) rfl, y_Rows_ok, n_Rows, rfl, fun _ => rfl, rfl⟩
theorem lf_Rows_16 : Lf "StuckRecord$Rows" 16 4 1 := ⟨R_Rows, F_Rows, 4, rfl, by decide, i_Rows, mW_at 189 (by decide +kernel) rfl⟩
theorem lp_Rows_16 : Lp "StuckRecord$Rows" 16 4 1 (.int) true := ⟨R_Rows, F_Rows, 4, y_Rows, rfl, by decide, i_Rows, mW_at 189 (by decide +kernel) rfl, y_Rows_ok, n_Rows, rfl, fun _ => rfl, rfl⟩
theorem lf_Rows_19 : Lf "StuckRecord$Rows" 19 4 2 := ⟨R_Rows, F_Rows, 4, rfl, by decide, i_Rows, mW_at 190 (by decide +kernel) rfl⟩
theorem lp_Rows_19 : Lp "StuckRecord$Rows" 19 4 2 (.array .int) true := ⟨R_Rows, F_Rows, 4, y_Rows, rfl, by decide, i_Rows, mW_at 190 (by decide +kernel) rfl, y_Rows_ok, n_Rows, rfl, fun _ => rfl, rfl⟩
theorem lf_Rows_7 : Lf "StuckRecord$Rows" 7 4 3 := ⟨R_Rows, F_Rows, 4, rfl, by decide, i_Rows, mW_at 191 (by decide +kernel) rfl⟩
theorem lp_Rows_7 : Lp "StuckRecord$Rows" 7 4 3 (.int) false := ⟨R_Rows, F_Rows, 4, y_Rows, rfl, by decide, i_Rows, mW_at 191 (by decide +kernel) rfl, y_Rows_ok, n_Rows, rfl, fun h => absurd h Bool.false_ne_true, rfl⟩
theorem lf_Layers_24 : Lf "StuckRecord$Layers" 24 4 3 := ⟨R_Rows, F_Rows, 4, rfl, by decide, i_Rows, mW_at 192 (by decide +kernel) rfl⟩
theorem lf_Wings_39 : Lf "StuckRecord$Wings" 39 4 3 := ⟨R_Rows, F_Rows, 4, rfl, by decide, i_Rows, mW_at 193 (by decide +kernel) rfl⟩
theorem lf_Reader_58 : Lf "StuckRecord$Reader" 58 4 3 := ⟨R_Rows, F_Rows, 4, rfl, by decide, i_Rows, mW_at 194 (by decide +kernel) rfl⟩
theorem lp_Reader_58 : Lp "StuckRecord$Reader" 58 4 3 (.int) false := ⟨R_Rows, F_Rows, 4, y_Rows, rfl, by decide, i_Rows, mW_at 194 (by decide +kernel) rfl, y_Rows_ok, n_Rows, rfl, fun h => absurd h Bool.false_ne_true, rfl⟩
theorem lf_Law_51 : Lf "StuckRecord$Law" 51 4 3 := ⟨R_Rows, F_Rows, 4, rfl, by decide, i_Rows, mW_at 195 (by decide +kernel) rfl⟩
theorem lf_Asker_54 : Lf "StuckRecord$Asker" 54 4 3 := ⟨R_Rows, F_Rows, 4, rfl, by decide, i_Rows, mW_at 196 (by decide +kernel) rfl⟩
theorem lf_World_142 : Lf "StuckRecord$World" 142 4 3 := ⟨R_Rows, F_Rows, 4, rfl, by decide, i_Rows, mW_at 197 (by decide +kernel) rfl⟩
theorem lf_Rec_202 : Lf "StuckRecord" 202 4 3 := ⟨R_Rows, F_Rows, 4, rfl, by decide, i_Rows, mW_at 198 (by decide +kernel) rfl⟩
theorem lp_Rec_202 : Lp "StuckRecord" 202 4 3 (.int) false := ⟨R_Rows, F_Rows, 4, y_Rows, rfl, by decide, i_Rows, mW_at 198 (by decide +kernel) rfl, y_Rows_ok, n_Rows, rfl, fun h => absurd h Bool.false_ne_true, rfl⟩
theorem lf_Thing_7 : Lf "StuckRecord$Thing" 7 5 0 := ⟨R_Thing, F_Thing, 7, rfl, by decide, i_Thing, mW_at 217 (by decide +kernel) rfl⟩
theorem lp_Thing_7 : Lp "StuckRecord$Thing" 7 5 0 (.int) false := ⟨R_Thing, F_Thing, 7, y_Thing, rfl, by decide, i_Thing, mW_at 217 (by decide +kernel) rfl, y_Thing_ok, n_Thing, rfl, fun h => absurd h Bool.false_ne_true, rfl⟩
theorem lf_World_85 : Lf "StuckRecord$World" 85 5 0 := ⟨R_Thing, F_Thing, 7, rfl, by decide, i_Thing, mW_at 218 (by decide +kernel) rfl⟩
theorem lp_World_85 : Lp "StuckRecord$World" 85 5 0 (.int) false := ⟨R_Thing, F_Thing, 7, y_Thing, rfl, by decide, i_Thing, mW_at 218 (by decide +kernel) rfl, y_Thing_ok, n_Thing, rfl, fun h => absurd h Bool.false_ne_true, rfl⟩
theorem lf_Asker_110 : Lf "StuckRecord$Asker" 110 5 0 := ⟨R_Thing, F_Thing, 7, rfl, by decide, i_Thing, mW_at 219 (by decide +kernel) rfl⟩
theorem lf_Rec_223 : Lf "StuckRecord" 223 5 0 := ⟨R_Thing, F_Thing, 7, rfl, by decide, i_Thing, mW_at 220 (by decide +kernel) rfl⟩
theorem lf_Thing_13 : Lf "StuckRecord$Thing" 13 5 1 := ⟨R_Thing, F_Thing, 7, rfl, by decide, i_Thing, mW_at 221 (by decide +kernel) rfl⟩
theorem lp_Thing_13 : Lp "StuckRecord$Thing" 13 5 1 (.int) false := ⟨R_Thing, F_Thing, 7, y_Thing, rfl, by decide, i_Thing, mW_at 221 (by decide +kernel) rfl, y_Thing_ok, n_Thing, rfl, fun h => absurd h Bool.false_ne_true, rfl⟩
theorem lf_Asker_63 : Lf "StuckRecord$Asker" 63 5 1 := ⟨R_Thing, F_Thing, 7, rfl, by decide, i_Thing, mW_at 222 (by decide +kernel) rfl⟩
theorem lf_Law_93 : Lf "StuckRecord$Law" 93 5 1 := ⟨R_Thing, F_Thing, 7, rfl, by decide, i_Thing, mW_at 223 (by decide +kernel) rfl⟩
theorem lf_World_102 : Lf "StuckRecord$World" 102 5 1 := ⟨R_Thing, F_Thing, 7, rfl, by decide, i_Thing, mW_at 224 (by decide +kernel) rfl⟩
theorem lp_World_102 : Lp "StuckRecord$World" 102 5 1 (.int) false := ⟨R_Thing, F_Thing, 7, y_Thing, rfl, by decide, i_Thing, mW_at 224 (by decide +kernel) rfl, y_Thing_ok, n_Thing, rfl, fun h => absurd h Bool.false_ne_true, rfl⟩
theorem lf_Rec_176 : Lf "StuckRecord" 176 5 1 := ⟨R_Thing, F_Thing, 7, rfl, by decide, i_Thing, mW_at 225 (by decide +kernel) rfl⟩
theorem lf_Thing_16 : Lf "StuckRecord$Thing" 16 5 2 := ⟨R_Thing, F_Thing, 7, rfl, by decide, i_Thing, mW_at 226 (by decide +kernel) rfl⟩
theorem lp_Thing_16 : Lp "StuckRecord$Thing" 16 5 2 (.int) false := ⟨R_Thing, F_Thing, 7, y_Thing, rfl, by decide, i_Thing, mW_at 226 (by decide +kernel) rfl, y_Thing_ok, n_Thing, rfl, fun h => absurd h Bool.false_ne_true, rfl⟩
theorem lf_Rec_110 : Lf "StuckRecord" 110 5 2 := ⟨R_Thing, F_Thing, 7, rfl, by decide, i_Thing, mW_at 227 (by decide +kernel) rfl⟩
theorem lp_Rec_110 : Lp "StuckRecord" 110 5 2 (.int) false := ⟨R_Thing, F_Thing, 7, y_Thing, rfl, by decide, i_Thing, mW_at 227 (by decide +kernel) rfl, y_Thing_ok, n_Thing, rfl, fun h => absurd h Bool.false_ne_true, rfl⟩
theorem lf_Asker_88 : Lf "StuckRecord$Asker" 88 5 2 := ⟨R_Thing, F_Thing, 7, rfl, by decide, i_Thing, mW_at 228 (by decide +kernel) rfl⟩
theorem lf_Law_96 : Lf "StuckRecord$Law" 96 5 2 := ⟨R_Thing, F_Thing, 7, rfl, by decide, i_Thing, mW_at 229 (by decide +kernel) rfl⟩
theorem lf_World_105 : Lf "StuckRecord$World" 105 5 2 := ⟨R_Thing, F_Thing, 7, rfl, by decide, i_Thing, mW_at 230 (by decide +kernel) rfl⟩
theorem lp_World_105 : Lp "StuckRecord$World" 105 5 2 (.int) false := ⟨R_Thing, F_Thing, 7, y_Thing, rfl, by decide, i_Thing, mW_at 230 (by decide +kernel) rfl, y_Thing_ok, n_Thing, rfl, fun h => absurd h Bool.false_ne_true, rfl⟩
theorem lf_Thing_19 : Lf "StuckRecord$Thing" 19 5 3 := ⟨R_Thing, F_Thing, 7, rfl, by decide, i_Thing, mW_at 231 (by decide +kernel) rfl⟩
theorem lp_Thing_19 : Lp "StuckRecord$Thing" 19 5 3 (.int) false := ⟨R_Thing, F_Thing, 7, y_Thing, rfl, by decide, i_Thing, mW_at 231 (by decide +kernel) rfl, y_Thing_ok, n_Thing, rfl, fun h => absurd h Bool.false_ne_true, rfl⟩
theorem lf_Law_77 : Lf "StuckRecord$Law" 77 5 3 := ⟨R_Thing, F_Thing, 7, rfl, by decide, i_Thing, mW_at 232 (by decide +kernel) rfl⟩
theorem lf_Rec_115 : Lf "StuckRecord" 115 5 3 := ⟨R_Thing, F_Thing, 7, rfl, by decide, i_Thing, mW_at 233 (by decide +kernel) rfl⟩
theorem lp_Rec_115 : Lp "StuckRecord" 115 5 3 (.int) false := ⟨R_Thing, F_Thing, 7, y_Thing, rfl, by decide, i_Thing, mW_at 233 (by decide +kernel) rfl, y_Thing_ok, n_Thing, rfl, fun h => absurd h Bool.false_ne_true, rfl⟩
theorem lf_World_108 : Lf "StuckRecord$World" 108 5 3 := ⟨R_Thing, F_Thing, 7, rfl, by decide, i_Thing, mW_at 234 (by decide +kernel) rfl⟩
theorem lp_World_108 : Lp "StuckRecord$World" 108 5 3 (.int) false := ⟨R_Thing, F_Thing, 7, y_Thing, rfl, by decide, i_Thing, mW_at 234 (by decide +kernel) rfl, y_Thing_ok, n_Thing, rfl, fun h => absurd h Bool.false_ne_true, rfl⟩
theorem lf_Thing_22 : Lf "StuckRecord$Thing" 22 5 4 := ⟨R_Thing, F_Thing, 7, rfl, by decide, i_Thing, mW_at 235 (by decide +kernel) rfl⟩
theorem lp_Thing_22 : Lp "StuckRecord$Thing" 22 5 4 (.int) false := ⟨R_Thing, F_Thing, 7, y_Thing, rfl, by decide, i_Thing, mW_at 235 (by decide +kernel) rfl, y_Thing_ok, n_Thing, rfl, fun h => absurd h Bool.false_ne_true, rfl⟩
theorem lf_Law_69 : Lf "StuckRecord$Law" 69 5 4 := ⟨R_Thing, F_Thing, 7, rfl, by decide, i_Thing, mW_at 236 (by decide +kernel) rfl⟩
theorem lf_World_111 : Lf "StuckRecord$World" 111 5 4 := ⟨R_Thing, F_Thing, 7, rfl, by decide, i_Thing, mW_at 237 (by decide +kernel) rfl⟩
theorem lp_World_111 : Lp "StuckRecord$World" 111 5 4 (.int) false := ⟨R_Thing, F_Thing, 7, y_Thing, rfl, by decide, i_Thing, mW_at 237 (by decide +kernel) rfl, y_Thing_ok, n_Thing, rfl, fun h => absurd h Bool.false_ne_true, rfl⟩
theorem lf_Rec_179 : Lf "StuckRecord" 179 5 4 := ⟨R_Thing, F_Thing, 7, rfl, by decide, i_Thing, mW_at 238 (by decide +kernel) rfl⟩
theorem lf_Thing_25 : Lf "StuckRecord$Thing" 25 5 5 := ⟨R_Thing, F_Thing, 7, rfl, by decide, i_Thing, mW_at 239 (by decide +kernel) rfl⟩
theorem lp_Thing_25 : Lp "StuckRecord$Thing" 25 5 5 (.int) false := ⟨R_Thing, F_Thing, 7, y_Thing, rfl, by decide, i_Thing, mW_at 239 (by decide +kernel) rfl, y_Thing_ok, n_Thing, rfl, fun h => absurd h Bool.false_ne_true, rfl⟩
theorem lf_Asker_74 : Lf "StuckRecord$Asker" 74 5 5 := ⟨R_Thing, F_Thing, 7, rfl, by decide, i_Thing, mW_at 240 (by decide +kernel) rfl⟩
theorem lf_Law_97 : Lf "StuckRecord$Law" 97 5 5 := ⟨R_Thing, F_Thing, 7, rfl, by decide, i_Thing, mW_at 241 (by decide +kernel) rfl⟩
theorem lf_World_114 : Lf "StuckRecord$World" 114 5 5 := ⟨R_Thing, F_Thing, 7, rfl, by decide, i_Thing, mW_at 242 (by decide +kernel) rfl⟩
theorem lp_World_114 : Lp "StuckRecord$World" 114 5 5 (.int) false := ⟨R_Thing, F_Thing, 7, y_Thing, rfl, by decide, i_Thing, mW_at 242 (by decide +kernel) rfl, y_Thing_ok, n_Thing, rfl, fun h => absurd h Bool.false_ne_true, rfl⟩
theorem lf_Rec_182 : Lf "StuckRecord" 182 5 5 := ⟨R_Thing, F_Thing, 7, rfl, by decide, i_Thing, mW_at 243 (by decide +kernel) rfl⟩
theorem lf_Thing_28 : Lf "StuckRecord$Thing" 28 5 6 := ⟨R_Thing, F_Thing, 7, rfl, by decide, i_Thing, mW_at 244 (by decide +kernel) rfl⟩
theorem lp_Thing_28 : Lp "StuckRecord$Thing" 28 5 6 (.int) false := ⟨R_Thing, F_Thing, 7, y_Thing, rfl, by decide, i_Thing, mW_at 244 (by decide +kernel) rfl, y_Thing_ok, n_Thing, rfl, fun h => absurd h Bool.false_ne_true, rfl⟩
theorem lf_Rec_118 : Lf "StuckRecord" 118 5 6 := ⟨R_Thing, F_Thing, 7, rfl, by decide, i_Thing, mW_at 245 (by decide +kernel) rfl⟩
theorem lp_Rec_118 : Lp "StuckRecord" 118 5 6 (.int) false := ⟨R_Thing, F_Thing, 7, y_Thing, rfl, by decide, i_Thing, mW_at 245 (by decide +kernel) rfl, y_Thing_ok, n_Thing, rfl, fun h => absurd h Bool.false_ne_true, rfl⟩
theorem lf_Law_100 : Lf "StuckRecord$Law" 100 5 6 := ⟨R_Thing, F_Thing, 7, rfl, by decide, i_Thing, mW_at 246 (by decide +kernel) rfl⟩
theorem lf_World_117 : Lf "StuckRecord$World" 117 5 6 := ⟨R_Thing, F_Thing, 7, rfl, by decide, i_Thing, mW_at 247 (by decide +kernel) rfl⟩
theorem lp_World_117 : Lp "StuckRecord$World" 117 5 6 (.int) false := ⟨R_Thing, F_Thing, 7, y_Thing, rfl, by decide, i_Thing, mW_at 247 (by decide +kernel) rfl, y_Thing_ok, n_Thing, rfl, fun h => absurd h Bool.false_ne_true, rfl⟩
theorem lf_World_9 : Lf "StuckRecord$World" 9 8 0 := ⟨R_World, F_World, 13, rfl, by decide, i_World, mW_at 263 (by decide +kernel) rfl⟩
theorem lp_World_9 : Lp "StuckRecord$World" 9 8 0 (.array .int) true := ⟨R_World, F_World, 13, y_World, rfl, by decide, i_World, mW_at 263 (by decide +kernel) rfl, y_World_ok, n_World, rfl, fun _ => rfl, rfl⟩
theorem lf_Rec_100 : Lf "StuckRecord" 100 8 0 := ⟨R_World, F_World, 13, rfl, by decide, i_World, mW_at 264 (by decide +kernel) rfl⟩
theorem lf_Law_64 : Lf "StuckRecord$Law" 64 8 0 := ⟨R_World, F_World, 13, rfl, by decide, i_World, mW_at 265 (by decide +kernel) rfl⟩
theorem lf_World_15 : Lf "StuckRecord$World" 15 8 1 := ⟨R_World, F_World, 13, rfl, by decide, i_World, mW_at 266 (by decide +kernel) rfl⟩
theorem lp_World_15 : Lp "StuckRecord$World" 15 8 1 (.array .int) true := ⟨R_World, F_World, 13, y_World, rfl, by decide, i_World, mW_at 266 (by decide +kernel) rfl, y_World_ok, n_World, rfl, fun _ => rfl, rfl⟩
theorem lf_Rec_170 : Lf "StuckRecord" 170 8 1 := ⟨R_World, F_World, 13, rfl, by decide, i_World, mW_at 267 (by decide +kernel) rfl⟩
theorem lf_World_18 : Lf "StuckRecord$World" 18 8 2 := ⟨R_World, F_World, 13, rfl, by decide, i_World, mW_at 268 (by decide +kernel) rfl⟩
theorem lp_World_18 : Lp "StuckRecord$World" 18 8 2 (.array .int) true := ⟨R_World, F_World, 13, y_World, rfl, by decide, i_World, mW_at 268 (by decide +kernel) rfl, y_World_ok, n_World, rfl, fun _ => rfl, rfl⟩
theorem lf_Rec_173 : Lf "StuckRecord" 173 8 2 := ⟨R_World, F_World, 13, rfl, by decide, i_World, mW_at 269 (by decide +kernel) rfl⟩
theorem lf_World_23 : Lf "StuckRecord$World" 23 8 3 := ⟨R_World, F_World, 13, rfl, by decide, i_World, mW_at 270 (by decide +kernel) rfl⟩
theorem lp_World_23 : Lp "StuckRecord$World" 23 8 3 (.array (.object "StuckRecord$Thing")) true := ⟨R_World, F_World, 13, y_World, rfl, by decide, i_World, mW_at 270 (by decide +kernel) rfl, y_World_ok, n_World, rfl, fun _ => rfl, rfl⟩
theorem lf_Asker_100 : Lf "StuckRecord$Asker" 100 8 3 := ⟨R_World, F_World, 13, rfl, by decide, i_World, mW_at 271 (by decide +kernel) rfl⟩
theorem lf_Rec_319 : Lf "StuckRecord" 319 8 3 := ⟨R_World, F_World, 13, rfl, by decide, i_World, mW_at 272 (by decide +kernel) rfl⟩
theorem lf_World_32 : Lf "StuckRecord$World" 32 8 4 := ⟨R_World, F_World, 13, rfl, by decide, i_World, mW_at 273 (by decide +kernel) rfl⟩
theorem lp_World_32 : Lp "StuckRecord$World" 32 8 4 (.object "StuckRecord$Rows") true := ⟨R_World, F_World, 13, y_World, rfl, by decide, i_World, mW_at 273 (by decide +kernel) rfl, y_World_ok, n_World, rfl, fun _ => rfl, rfl⟩
theorem lf_Rec_198 : Lf "StuckRecord" 198 8 4 := ⟨R_World, F_World, 13, rfl, by decide, i_World, mW_at 274 (by decide +kernel) rfl⟩
theorem lf_World_36 : Lf "StuckRecord$World" 36 8 5 := ⟨R_World, F_World, 13, rfl, by decide, i_World, mW_at 275 (by decide +kernel) rfl⟩
theorem lp_World_36 : Lp "StuckRecord$World" 36 8 5 (.int) false := ⟨R_World, F_World, 13, y_World, rfl, by decide, i_World, mW_at 275 (by decide +kernel) rfl, y_World_ok, n_World, rfl, fun h => absurd h Bool.false_ne_true, rfl⟩
theorem lf_Asker_97 : Lf "StuckRecord$Asker" 97 8 5 := ⟨R_World, F_World, 13, rfl, by decide, i_World, mW_at 276 (by decide +kernel) rfl⟩
theorem lf_Rec_213 : Lf "StuckRecord" 213 8 5 := ⟨R_World, F_World, 13, rfl, by decide, i_World, mW_at 277 (by decide +kernel) rfl⟩
theorem lf_World_40 : Lf "StuckRecord$World" 40 8 6 := ⟨R_World, F_World, 13, rfl, by decide, i_World, mW_at 278 (by decide +kernel) rfl⟩
theorem lp_World_40 : Lp "StuckRecord$World" 40 8 6 (.int) false := ⟨R_World, F_World, 13, y_World, rfl, by decide, i_World, mW_at 278 (by decide +kernel) rfl, y_World_ok, n_World, rfl, fun h => absurd h Bool.false_ne_true, rfl⟩
theorem lf_Rec_75 : Lf "StuckRecord" 75 8 6 := ⟨R_World, F_World, 13, rfl, by decide, i_World, mW_at 279 (by decide +kernel) rfl⟩
theorem lp_Rec_75 : Lp "StuckRecord" 75 8 6 (.int) false := ⟨R_World, F_World, 13, y_World, rfl, by decide, i_World, mW_at 279 (by decide +kernel) rfl, y_World_ok, n_World, rfl, fun h => absurd h Bool.false_ne_true, rfl⟩
theorem lf_World_43 : Lf "StuckRecord$World" 43 8 7 := ⟨R_World, F_World, 13, rfl, by decide, i_World, mW_at 280 (by decide +kernel) rfl⟩
theorem lp_World_43 : Lp "StuckRecord$World" 43 8 7 (.int) false := ⟨R_World, F_World, 13, y_World, rfl, by decide, i_World, mW_at 280 (by decide +kernel) rfl, y_World_ok, n_World, rfl, fun h => absurd h Bool.false_ne_true, rfl⟩
theorem lf_Law_74 : Lf "StuckRecord$Law" 74 8 7 := ⟨R_World, F_World, 13, rfl, by decide, i_World, mW_at 281 (by decide +kernel) rfl⟩
theorem lf_Rec_104 : Lf "StuckRecord" 104 8 7 := ⟨R_World, F_World, 13, rfl, by decide, i_World, mW_at 282 (by decide +kernel) rfl⟩
theorem lp_Rec_104 : Lp "StuckRecord" 104 8 7 (.int) false := ⟨R_World, F_World, 13, y_World, rfl, by decide, i_World, mW_at 282 (by decide +kernel) rfl, y_World_ok, n_World, rfl, fun h => absurd h Bool.false_ne_true, rfl⟩
theorem lf_World_46 : Lf "StuckRecord$World" 46 8 8 := ⟨R_World, F_World, 13, rfl, by decide, i_World, mW_at 283 (by decide +kernel) rfl⟩
theorem lp_World_46 : Lp "StuckRecord$World" 46 8 8 (.int) false := ⟨R_World, F_World, 13, y_World, rfl, by decide, i_World, mW_at 283 (by decide +kernel) rfl, y_World_ok, n_World, rfl, fun h => absurd h Bool.false_ne_true, rfl⟩
theorem lf_Law_80 : Lf "StuckRecord$Law" 80 8 8 := ⟨R_World, F_World, 13, rfl, by decide, i_World, mW_at 284 (by decide +kernel) rfl⟩
theorem lf_Rec_107 : Lf "StuckRecord" 107 8 8 := ⟨R_World, F_World, 13, rfl, by decide, i_World, mW_at 285 (by decide +kernel) rfl⟩
theorem lp_Rec_107 : Lp "StuckRecord" 107 8 8 (.int) false := ⟨R_World, F_World, 13, y_World, rfl, by decide, i_World, mW_at 285 (by decide +kernel) rfl, y_World_ok, n_World, rfl, fun h => absurd h Bool.false_ne_true, rfl⟩
theorem lf_World_49 : Lf "StuckRecord$World" 49 8 9 := ⟨R_World, F_World, 13, rfl, by decide, i_World, mW_at 286 (by decide +kernel) rfl⟩
theorem lp_World_49 : Lp "StuckRecord$World" 49 8 9 (.int) false := ⟨R_World, F_World, 13, y_World, rfl, by decide, i_World, mW_at 286 (by decide +kernel) rfl, y_World_ok, n_World, rfl, fun h => absurd h Bool.false_ne_true, rfl⟩
theorem lf_Rec_336 : Lf "StuckRecord" 336 8 9 := ⟨R_World, F_World, 13, rfl, by decide, i_World, mW_at 287 (by decide +kernel) rfl⟩
theorem lf_World_52 : Lf "StuckRecord$World" 52 8 10 := ⟨R_World, F_World, 13, rfl, by decide, i_World, mW_at 288 (by decide +kernel) rfl⟩
theorem lp_World_52 : Lp "StuckRecord$World" 52 8 10 (.int) false := ⟨R_World, F_World, 13, y_World, rfl, by decide, i_World, mW_at 288 (by decide +kernel) rfl, y_World_ok, n_World, rfl, fun h => absurd h Bool.false_ne_true, rfl⟩
theorem lf_Rec_143 : Lf "StuckRecord" 143 8 10 := ⟨R_World, F_World, 13, rfl, by decide, i_World, mW_at 289 (by decide +kernel) rfl⟩
theorem lf_World_55 : Lf "StuckRecord$World" 55 8 11 := ⟨R_World, F_World, 13, rfl, by decide, i_World, mW_at 290 (by decide +kernel) rfl⟩
theorem lp_World_55 : Lp "StuckRecord$World" 55 8 11 (.int) false := ⟨R_World, F_World, 13, y_World, rfl, by decide, i_World, mW_at 290 (by decide +kernel) rfl, y_World_ok, n_World, rfl, fun h => absurd h Bool.false_ne_true, rfl⟩
theorem lf_Rec_339 : Lf "StuckRecord" 339 8 11 := ⟨R_World, F_World, 13, rfl, by decide, i_World, mW_at 291 (by decide +kernel) rfl⟩
theorem lf_World_58 : Lf "StuckRecord$World" 58 8 12 := ⟨R_World, F_World, 13, rfl, by decide, i_World, mW_at 292 (by decide +kernel) rfl⟩
theorem lp_World_58 : Lp "StuckRecord$World" 58 8 12 (.int) false := ⟨R_World, F_World, 13, y_World, rfl, by decide, i_World, mW_at 292 (by decide +kernel) rfl, y_World_ok, n_World, rfl, fun h => absurd h Bool.false_ne_true, rfl⟩
theorem lf_Law_107 : Lf "StuckRecord$Law" 107 8 12 := ⟨R_World, F_World, 13, rfl, by decide, i_World, mW_at 293 (by decide +kernel) rfl⟩
theorem lf_Rec_140 : Lf "StuckRecord" 140 8 12 := ⟨R_World, F_World, 13, rfl, by decide, i_World, mW_at 294 (by decide +kernel) rfl⟩
theorem lf_Law_14 : Lf "StuckRecord$Law" 14 1 0 := ⟨R_Law, F_Law, 4, rfl, by decide, i_Law, mW_at 336 (by decide +kernel) rfl⟩
theorem lp_Law_14 : Lp "StuckRecord$Law" 14 1 0 (.object "StuckRecord$Rows") true := ⟨R_Law, F_Law, 4, y_Law, rfl, by decide, i_Law, mW_at 336 (by decide +kernel) rfl, y_Law_ok, n_Law, rfl, fun _ => rfl, rfl⟩
theorem lf_Told_69 : Lf "StuckRecord$Told" 69 1 0 := ⟨R_Law, F_Law, 4, rfl, by decide, i_Law, mW_at 337 (by decide +kernel) rfl⟩
theorem lf_Rec_341 : Lf "StuckRecord" 341 1 0 := ⟨R_Law, F_Law, 4, rfl, by decide, i_Law, mW_at 338 (by decide +kernel) rfl⟩
theorem lf_Law_20 : Lf "StuckRecord$Law" 20 1 1 := ⟨R_Law, F_Law, 4, rfl, by decide, i_Law, mW_at 339 (by decide +kernel) rfl⟩
theorem lp_Law_20 : Lp "StuckRecord$Law" 20 1 1 (.array .int) true := ⟨R_Law, F_Law, 4, y_Law, rfl, by decide, i_Law, mW_at 339 (by decide +kernel) rfl, y_Law_ok, n_Law, rfl, fun _ => rfl, rfl⟩
theorem lf_Told_72 : Lf "StuckRecord$Told" 72 1 1 := ⟨R_Law, F_Law, 4, rfl, by decide, i_Law, mW_at 340 (by decide +kernel) rfl⟩
theorem lf_Law_24 : Lf "StuckRecord$Law" 24 1 2 := ⟨R_Law, F_Law, 4, rfl, by decide, i_Law, mW_at 341 (by decide +kernel) rfl⟩
theorem lp_Law_24 : Lp "StuckRecord$Law" 24 1 2 (.int) false := ⟨R_Law, F_Law, 4, y_Law, rfl, by decide, i_Law, mW_at 341 (by decide +kernel) rfl, y_Law_ok, n_Law, rfl, fun h => absurd h Bool.false_ne_true, rfl⟩
theorem lf_Told_73 : Lf "StuckRecord$Told" 73 1 2 := ⟨R_Law, F_Law, 4, rfl, by decide, i_Law, mW_at 342 (by decide +kernel) rfl⟩
theorem lf_Law_28 : Lf "StuckRecord$Law" 28 1 3 := ⟨R_Law, F_Law, 4, rfl, by decide, i_Law, mW_at 343 (by decide +kernel) rfl⟩
theorem lp_Law_28 : Lp "StuckRecord$Law" 28 1 3 (.array .int) true := ⟨R_Law, F_Law, 4, y_Law, rfl, by decide, i_Law, mW_at 343 (by decide +kernel) rfl, y_Law_ok, n_Law, rfl, fun _ => rfl, rfl⟩
theorem lf_Told_12 : Lf "StuckRecord$Told" 12 6 0 := ⟨R_Told, F_Told, 9, rfl, by decide, i_Told, mW_at 355 (by decide +kernel) rfl⟩
theorem lp_Told_12 : Lp "StuckRecord$Told" 12 6 0 (.object "StuckRecord$Law") true := ⟨R_Told, F_Told, 9, y_Told, rfl, by decide, i_Told, mW_at 355 (by decide +kernel) rfl, y_Told_ok, n_Told, rfl, fun _ => rfl, rfl⟩
theorem lf_Rec_185 : Lf "StuckRecord" 185 6 0 := ⟨R_Told, F_Told, 9, rfl, by decide, i_Told, mW_at 356 (by decide +kernel) rfl⟩
theorem lf_World_152 : Lf "StuckRecord$World" 152 6 0 := ⟨R_Told, F_Told, 9, rfl, by decide, i_Told, mW_at 357 (by decide +kernel) rfl⟩
theorem lf_Told_23 : Lf "StuckRecord$Told" 23 6 1 := ⟨R_Told, F_Told, 9, rfl, by decide, i_Told, mW_at 358 (by decide +kernel) rfl⟩
theorem lp_Told_23 : Lp "StuckRecord$Told" 23 6 1 (.object "StuckRecord$Rows") true := ⟨R_Told, F_Told, 9, y_Told, rfl, by decide, i_Told, mW_at 358 (by decide +kernel) rfl, y_Told_ok, n_Told, rfl, fun _ => rfl, rfl⟩
theorem lf_World_149 : Lf "StuckRecord$World" 149 6 1 := ⟨R_Told, F_Told, 9, rfl, by decide, i_Told, mW_at 359 (by decide +kernel) rfl⟩
theorem lf_Rec_344 : Lf "StuckRecord" 344 6 1 := ⟨R_Told, F_Told, 9, rfl, by decide, i_Told, mW_at 360 (by decide +kernel) rfl⟩
theorem lf_Told_27 : Lf "StuckRecord$Told" 27 6 2 := ⟨R_Told, F_Told, 9, rfl, by decide, i_Told, mW_at 361 (by decide +kernel) rfl⟩
theorem lp_Told_27 : Lp "StuckRecord$Told" 27 6 2 (.object "StuckRecord$Rows") true := ⟨R_Told, F_Told, 9, y_Told, rfl, by decide, i_Told, mW_at 361 (by decide +kernel) rfl, y_Told_ok, n_Told, rfl, fun _ => rfl, rfl⟩
theorem lf_World_137 : Lf "StuckRecord$World" 137 6 2 := ⟨R_Told, F_Told, 9, rfl, by decide, i_Told, mW_at 362 (by decide +kernel) rfl⟩
theorem lf_Rec_347 : Lf "StuckRecord" 347 6 2 := ⟨R_Told, F_Told, 9, rfl, by decide, i_Told, mW_at 363 (by decide +kernel) rfl⟩
theorem lf_Told_30 : Lf "StuckRecord$Told" 30 6 3 := ⟨R_Told, F_Told, 9, rfl, by decide, i_Told, mW_at 364 (by decide +kernel) rfl⟩
theorem lp_Told_30 : Lp "StuckRecord$Told" 30 6 3 (.object "StuckRecord$Rows") true := ⟨R_Told, F_Told, 9, y_Told, rfl, by decide, i_Told, mW_at 364 (by decide +kernel) rfl, y_Told_ok, n_Told, rfl, fun _ => rfl, rfl⟩
theorem lf_Rec_257 : Lf "StuckRecord" 257 6 3 := ⟨R_Told, F_Told, 9, rfl, by decide, i_Told, mW_at 365 (by decide +kernel) rfl⟩
theorem lf_Told_33 : Lf "StuckRecord$Told" 33 6 4 := ⟨R_Told, F_Told, 9, rfl, by decide, i_Told, mW_at 366 (by decide +kernel) rfl⟩
theorem lp_Told_33 : Lp "StuckRecord$Told" 33 6 4 (.object "StuckRecord$Rows") true := ⟨R_Told, F_Told, 9, y_Told, rfl, by decide, i_Told, mW_at 366 (by decide +kernel) rfl, y_Told_ok, n_Told, rfl, fun _ => rfl, rfl⟩
theorem lf_Rec_230 : Lf "StuckRecord" 230 6 4 := ⟨R_Told, F_Told, 9, rfl, by decide, i_Told, mW_at 367 (by decide +kernel) rfl⟩
theorem lf_Told_36 : Lf "StuckRecord$Told" 36 6 5 := ⟨R_Told, F_Told, 9, rfl, by decide, i_Told, mW_at 368 (by decide +kernel) rfl⟩
theorem lp_Told_36 : Lp "StuckRecord$Told" 36 6 5 (.object "StuckRecord$Rows") true := ⟨R_Told, F_Told, 9, y_Told, rfl, by decide, i_Told, mW_at 368 (by decide +kernel) rfl, y_Told_ok, n_Told, rfl, fun _ => rfl, rfl⟩
theorem lf_Rec_248 : Lf "StuckRecord" 248 6 5 := ⟨R_Told, F_Told, 9, rfl, by decide, i_Told, mW_at 369 (by decide +kernel) rfl⟩
theorem lf_Told_39 : Lf "StuckRecord$Told" 39 6 6 := ⟨R_Told, F_Told, 9, rfl, by decide, i_Told, mW_at 370 (by decide +kernel) rfl⟩
theorem lp_Told_39 : Lp "StuckRecord$Told" 39 6 6 (.object "StuckRecord$Rows") true := ⟨R_Told, F_Told, 9, y_Told, rfl, by decide, i_Told, mW_at 370 (by decide +kernel) rfl, y_Told_ok, n_Told, rfl, fun _ => rfl, rfl⟩
theorem lf_Rec_280 : Lf "StuckRecord" 280 6 6 := ⟨R_Told, F_Told, 9, rfl, by decide, i_Told, mW_at 371 (by decide +kernel) rfl⟩
theorem lf_Told_42 : Lf "StuckRecord$Told" 42 6 7 := ⟨R_Told, F_Told, 9, rfl, by decide, i_Told, mW_at 372 (by decide +kernel) rfl⟩
theorem lp_Told_42 : Lp "StuckRecord$Told" 42 6 7 (.object "StuckRecord$Rows") true := ⟨R_Told, F_Told, 9, y_Told, rfl, by decide, i_Told, mW_at 372 (by decide +kernel) rfl, y_Told_ok, n_Told, rfl, fun _ => rfl, rfl⟩
theorem lf_Rec_294 : Lf "StuckRecord" 294 6 7 := ⟨R_Told, F_Told, 9, rfl, by decide, i_Told, mW_at 373 (by decide +kernel) rfl⟩
theorem lf_Told_45 : Lf "StuckRecord$Told" 45 6 8 := ⟨R_Told, F_Told, 9, rfl, by decide, i_Told, mW_at 374 (by decide +kernel) rfl⟩
theorem lp_Told_45 : Lp "StuckRecord$Told" 45 6 8 (.object "StuckRecord$Rows") true := ⟨R_Told, F_Told, 9, y_Told, rfl, by decide, i_Told, mW_at 374 (by decide +kernel) rfl, y_Told_ok, n_Told, rfl, fun _ => rfl, rfl⟩
theorem lf_Rec_297 : Lf "StuckRecord" 297 6 8 := ⟨R_Told, F_Told, 9, rfl, by decide, i_Told, mW_at 375 (by decide +kernel) rfl⟩
theorem lf_Reader_9 : Lf "StuckRecord$Reader" 9 3 0 := ⟨R_Reader, F_Reader, 13, rfl, by decide, i_Reader, mW_at 404 (by decide +kernel) rfl⟩
theorem lp_Reader_9 : Lp "StuckRecord$Reader" 9 3 0 (.array .int) true := ⟨R_Reader, F_Reader, 13, y_Reader, rfl, by decide, i_Reader, mW_at 404 (by decide +kernel) rfl, y_Reader_ok, n_Reader, rfl, fun _ => rfl, rfl⟩
theorem lf_Reader_15 : Lf "StuckRecord$Reader" 15 3 1 := ⟨R_Reader, F_Reader, 13, rfl, by decide, i_Reader, mW_at 405 (by decide +kernel) rfl⟩
theorem lp_Reader_15 : Lp "StuckRecord$Reader" 15 3 1 (.int) false := ⟨R_Reader, F_Reader, 13, y_Reader, rfl, by decide, i_Reader, mW_at 405 (by decide +kernel) rfl, y_Reader_ok, n_Reader, rfl, fun h => absurd h Bool.false_ne_true, rfl⟩
theorem lf_Rec_150 : Lf "StuckRecord" 150 3 1 := ⟨R_Reader, F_Reader, 13, rfl, by decide, i_Reader, mW_at 406 (by decide +kernel) rfl⟩
theorem lp_Rec_150 : Lp "StuckRecord" 150 3 1 (.int) false := ⟨R_Reader, F_Reader, 13, y_Reader, rfl, by decide, i_Reader, mW_at 406 (by decide +kernel) rfl, y_Reader_ok, n_Reader, rfl, fun h => absurd h Bool.false_ne_true, rfl⟩
theorem lf_Reader_19 : Lf "StuckRecord$Reader" 19 3 2 := ⟨R_Reader, F_Reader, 13, rfl, by decide, i_Reader, mW_at 407 (by decide +kernel) rfl⟩
theorem lp_Reader_19 : Lp "StuckRecord$Reader" 19 3 2 (.int) false := ⟨R_Reader, F_Reader, 13, y_Reader, rfl, by decide, i_Reader, mW_at 407 (by decide +kernel) rfl, y_Reader_ok, n_Reader, rfl, fun h => absurd h Bool.false_ne_true, rfl⟩
theorem lf_Rec_164 : Lf "StuckRecord" 164 3 2 := ⟨R_Reader, F_Reader, 13, rfl, by decide, i_Reader, mW_at 408 (by decide +kernel) rfl⟩
theorem lf_Reader_22 : Lf "StuckRecord$Reader" 22 3 3 := ⟨R_Reader, F_Reader, 13, rfl, by decide, i_Reader, mW_at 409 (by decide +kernel) rfl⟩
theorem lp_Reader_22 : Lp "StuckRecord$Reader" 22 3 3 (.int) false := ⟨R_Reader, F_Reader, 13, y_Reader, rfl, by decide, i_Reader, mW_at 409 (by decide +kernel) rfl, y_Reader_ok, n_Reader, rfl, fun h => absurd h Bool.false_ne_true, rfl⟩
theorem lf_Rec_167 : Lf "StuckRecord" 167 3 3 := ⟨R_Reader, F_Reader, 13, rfl, by decide, i_Reader, mW_at 410 (by decide +kernel) rfl⟩
theorem lf_Reader_30 : Lf "StuckRecord$Reader" 30 3 4 := ⟨R_Reader, F_Reader, 13, rfl, by decide, i_Reader, mW_at 411 (by decide +kernel) rfl⟩
theorem lp_Reader_30 : Lp "StuckRecord$Reader" 30 3 4 (.object "StuckRecord$Rows") true := ⟨R_Reader, F_Reader, 13, y_Reader, rfl, by decide, i_Reader, mW_at 411 (by decide +kernel) rfl, y_Reader_ok, n_Reader, rfl, fun _ => rfl, rfl⟩
theorem lf_Told_48 : Lf "StuckRecord$Told" 48 3 4 := ⟨R_Reader, F_Reader, 13, rfl, by decide, i_Reader, mW_at 412 (by decide +kernel) rfl⟩
theorem lf_Reader_34 : Lf "StuckRecord$Reader" 34 3 5 := ⟨R_Reader, F_Reader, 13, rfl, by decide, i_Reader, mW_at 413 (by decide +kernel) rfl⟩
theorem lp_Reader_34 : Lp "StuckRecord$Reader" 34 3 5 (.array .int) true := ⟨R_Reader, F_Reader, 13, y_Reader, rfl, by decide, i_Reader, mW_at 413 (by decide +kernel) rfl, y_Reader_ok, n_Reader, rfl, fun _ => rfl, rfl⟩
theorem lf_Told_53 : Lf "StuckRecord$Told" 53 3 5 := ⟨R_Reader, F_Reader, 13, rfl, by decide, i_Reader, mW_at 414 (by decide +kernel) rfl⟩
theorem lf_Reader_37 : Lf "StuckRecord$Reader" 37 3 6 := ⟨R_Reader, F_Reader, 13, rfl, by decide, i_Reader, mW_at 415 (by decide +kernel) rfl⟩
theorem lp_Reader_37 : Lp "StuckRecord$Reader" 37 3 6 (.int) false := ⟨R_Reader, F_Reader, 13, y_Reader, rfl, by decide, i_Reader, mW_at 415 (by decide +kernel) rfl, y_Reader_ok, n_Reader, rfl, fun h => absurd h Bool.false_ne_true, rfl⟩
theorem lf_Told_57 : Lf "StuckRecord$Told" 57 3 6 := ⟨R_Reader, F_Reader, 13, rfl, by decide, i_Reader, mW_at 416 (by decide +kernel) rfl⟩
theorem lf_Reader_40 : Lf "StuckRecord$Reader" 40 3 7 := ⟨R_Reader, F_Reader, 13, rfl, by decide, i_Reader, mW_at 417 (by decide +kernel) rfl⟩
theorem lp_Reader_40 : Lp "StuckRecord$Reader" 40 3 7 (.array .int) true := ⟨R_Reader, F_Reader, 13, y_Reader, rfl, by decide, i_Reader, mW_at 417 (by decide +kernel) rfl, y_Reader_ok, n_Reader, rfl, fun _ => rfl, rfl⟩
theorem lf_Reader_43 : Lf "StuckRecord$Reader" 43 3 8 := ⟨R_Reader, F_Reader, 13, rfl, by decide, i_Reader, mW_at 418 (by decide +kernel) rfl⟩
theorem lp_Reader_43 : Lp "StuckRecord$Reader" 43 3 8 (.array .int) true := ⟨R_Reader, F_Reader, 13, y_Reader, rfl, by decide, i_Reader, mW_at 418 (by decide +kernel) rfl, y_Reader_ok, n_Reader, rfl, fun _ => rfl, rfl⟩
theorem lf_Reader_46 : Lf "StuckRecord$Reader" 46 3 9 := ⟨R_Reader, F_Reader, 13, rfl, by decide, i_Reader, mW_at 419 (by decide +kernel) rfl⟩
theorem lp_Reader_46 : Lp "StuckRecord$Reader" 46 3 9 (.array .int) true := ⟨R_Reader, F_Reader, 13, y_Reader, rfl, by decide, i_Reader, mW_at 419 (by decide +kernel) rfl, y_Reader_ok, n_Reader, rfl, fun _ => rfl, rfl⟩
theorem lf_Reader_49 : Lf "StuckRecord$Reader" 49 3 10 := ⟨R_Reader, F_Reader, 13, rfl, by decide, i_Reader, mW_at 420 (by decide +kernel) rfl⟩
theorem lp_Reader_49 : Lp "StuckRecord$Reader" 49 3 10 (.int) false := ⟨R_Reader, F_Reader, 13, y_Reader, rfl, by decide, i_Reader, mW_at 420 (by decide +kernel) rfl, y_Reader_ok, n_Reader, rfl, fun h => absurd h Bool.false_ne_true, rfl⟩
theorem lf_Reader_52 : Lf "StuckRecord$Reader" 52 3 11 := ⟨R_Reader, F_Reader, 13, rfl, by decide, i_Reader, mW_at 421 (by decide +kernel) rfl⟩
theorem lp_Reader_52 : Lp "StuckRecord$Reader" 52 3 11 (.int) false := ⟨R_Reader, F_Reader, 13, y_Reader, rfl, by decide, i_Reader, mW_at 421 (by decide +kernel) rfl, y_Reader_ok, n_Reader, rfl, fun h => absurd h Bool.false_ne_true, rfl⟩
theorem lf_Reader_55 : Lf "StuckRecord$Reader" 55 3 12 := ⟨R_Reader, F_Reader, 13, rfl, by decide, i_Reader, mW_at 422 (by decide +kernel) rfl⟩
theorem lp_Reader_55 : Lp "StuckRecord$Reader" 55 3 12 (.array .int) true := ⟨R_Reader, F_Reader, 13, y_Reader, rfl, by decide, i_Reader, mW_at 422 (by decide +kernel) rfl, y_Reader_ok, n_Reader, rfl, fun _ => rfl, rfl⟩
theorem lf_Asker_9 : Lf "StuckRecord$Asker" 9 0 0 := ⟨R_Asker, F_Asker, 7, rfl, by decide, i_Asker, mW_at 456 (by decide +kernel) rfl⟩
theorem lp_Asker_9 : Lp "StuckRecord$Asker" 9 0 0 (.array .int) true := ⟨R_Asker, F_Asker, 7, y_Asker, rfl, by decide, i_Asker, mW_at 456 (by decide +kernel) rfl, y_Asker_ok, n_Asker, rfl, fun _ => rfl, rfl⟩
theorem lf_Asker_15 : Lf "StuckRecord$Asker" 15 0 1 := ⟨R_Asker, F_Asker, 7, rfl, by decide, i_Asker, mW_at 457 (by decide +kernel) rfl⟩
theorem lp_Asker_15 : Lp "StuckRecord$Asker" 15 0 1 (.array .int) true := ⟨R_Asker, F_Asker, 7, y_Asker, rfl, by decide, i_Asker, mW_at 457 (by decide +kernel) rfl, y_Asker_ok, n_Asker, rfl, fun _ => rfl, rfl⟩
theorem lf_Asker_18 : Lf "StuckRecord$Asker" 18 0 2 := ⟨R_Asker, F_Asker, 7, rfl, by decide, i_Asker, mW_at 458 (by decide +kernel) rfl⟩
theorem lp_Asker_18 : Lp "StuckRecord$Asker" 18 0 2 (.array .int) true := ⟨R_Asker, F_Asker, 7, y_Asker, rfl, by decide, i_Asker, mW_at 458 (by decide +kernel) rfl, y_Asker_ok, n_Asker, rfl, fun _ => rfl, rfl⟩
theorem lf_Asker_21 : Lf "StuckRecord$Asker" 21 0 3 := ⟨R_Asker, F_Asker, 7, rfl, by decide, i_Asker, mW_at 459 (by decide +kernel) rfl⟩
theorem lp_Asker_21 : Lp "StuckRecord$Asker" 21 0 3 (.array .int) true := ⟨R_Asker, F_Asker, 7, y_Asker, rfl, by decide, i_Asker, mW_at 459 (by decide +kernel) rfl, y_Asker_ok, n_Asker, rfl, fun _ => rfl, rfl⟩
theorem lf_Asker_24 : Lf "StuckRecord$Asker" 24 0 4 := ⟨R_Asker, F_Asker, 7, rfl, by decide, i_Asker, mW_at 460 (by decide +kernel) rfl⟩
theorem lp_Asker_24 : Lp "StuckRecord$Asker" 24 0 4 (.array .int) true := ⟨R_Asker, F_Asker, 7, y_Asker, rfl, by decide, i_Asker, mW_at 460 (by decide +kernel) rfl, y_Asker_ok, n_Asker, rfl, fun _ => rfl, rfl⟩
theorem lf_Asker_27 : Lf "StuckRecord$Asker" 27 0 5 := ⟨R_Asker, F_Asker, 7, rfl, by decide, i_Asker, mW_at 461 (by decide +kernel) rfl⟩
theorem lp_Asker_27 : Lp "StuckRecord$Asker" 27 0 5 (.array .int) true := ⟨R_Asker, F_Asker, 7, y_Asker, rfl, by decide, i_Asker, mW_at 461 (by decide +kernel) rfl, y_Asker_ok, n_Asker, rfl, fun _ => rfl, rfl⟩
theorem lf_Asker_30 : Lf "StuckRecord$Asker" 30 0 6 := ⟨R_Asker, F_Asker, 7, rfl, by decide, i_Asker, mW_at 462 (by decide +kernel) rfl⟩
theorem lp_Asker_30 : Lp "StuckRecord$Asker" 30 0 6 (.int) false := ⟨R_Asker, F_Asker, 7, y_Asker, rfl, by decide, i_Asker, mW_at 462 (by decide +kernel) rfl, y_Asker_ok, n_Asker, rfl, fun h => absurd h Bool.false_ne_true, rfl⟩
theorem lf_Layers_9 : Lf "StuckRecord$Layers" 9 2 0 := ⟨R_Layers, F_Layers, 2, rfl, by decide, i_Layers, mW_at 484 (by decide +kernel) rfl⟩
theorem lp_Layers_9 : Lp "StuckRecord$Layers" 9 2 0 (.array .int) true := ⟨R_Layers, F_Layers, 2, y_Layers, rfl, by decide, i_Layers, mW_at 484 (by decide +kernel) rfl, y_Layers_ok, n_Layers, rfl, fun _ => rfl, rfl⟩
theorem lf_Layers_15 : Lf "StuckRecord$Layers" 15 2 1 := ⟨R_Layers, F_Layers, 2, rfl, by decide, i_Layers, mW_at 485 (by decide +kernel) rfl⟩
theorem lp_Layers_15 : Lp "StuckRecord$Layers" 15 2 1 (.array .int) true := ⟨R_Layers, F_Layers, 2, y_Layers, rfl, by decide, i_Layers, mW_at 485 (by decide +kernel) rfl, y_Layers_ok, n_Layers, rfl, fun _ => rfl, rfl⟩
theorem lf_Wings_9 : Lf "StuckRecord$Wings" 9 7 0 := ⟨R_Wings, F_Wings, 3, rfl, by decide, i_Wings, mW_at 497 (by decide +kernel) rfl⟩
theorem lp_Wings_9 : Lp "StuckRecord$Wings" 9 7 0 (.array .int) true := ⟨R_Wings, F_Wings, 3, y_Wings, rfl, by decide, i_Wings, mW_at 497 (by decide +kernel) rfl, y_Wings_ok, n_Wings, rfl, fun _ => rfl, rfl⟩
theorem lf_Wings_15 : Lf "StuckRecord$Wings" 15 7 1 := ⟨R_Wings, F_Wings, 3, rfl, by decide, i_Wings, mW_at 498 (by decide +kernel) rfl⟩
theorem lp_Wings_15 : Lp "StuckRecord$Wings" 15 7 1 (.array .int) true := ⟨R_Wings, F_Wings, 3, y_Wings, rfl, by decide, i_Wings, mW_at 498 (by decide +kernel) rfl, y_Wings_ok, n_Wings, rfl, fun _ => rfl, rfl⟩
theorem lf_Wings_18 : Lf "StuckRecord$Wings" 18 7 2 := ⟨R_Wings, F_Wings, 3, rfl, by decide, i_Wings, mW_at 499 (by decide +kernel) rfl⟩
theorem lp_Wings_18 : Lp "StuckRecord$Wings" 18 7 2 (.array .int) true := ⟨R_Wings, F_Wings, 3, y_Wings, rfl, by decide, i_Wings, mW_at 499 (by decide +kernel) rfl, y_Wings_ok, n_Wings, rfl, fun _ => rfl, rfl⟩
theorem lf_Rec_12 : Lf "StuckRecord" 12 9 0 := ⟨R_Rec, F_Rec, 13, rfl, by decide, i_Rec, mW_at 507 (by decide +kernel) rfl⟩
theorem lp_Rec_12 : Lp "StuckRecord" 12 9 0 (.object "StuckRecord$World") true := ⟨R_Rec, F_Rec, 13, y_Rec, rfl, by decide, i_Rec, mW_at 507 (by decide +kernel) rfl, y_Rec_ok, n_Rec, rfl, fun _ => rfl, rfl⟩
theorem lf_Rec_19 : Lf "StuckRecord" 19 9 1 := ⟨R_Rec, F_Rec, 13, rfl, by decide, i_Rec, mW_at 508 (by decide +kernel) rfl⟩
theorem lp_Rec_19 : Lp "StuckRecord" 19 9 1 (.object "StuckRecord$Told") true := ⟨R_Rec, F_Rec, 13, y_Rec, rfl, by decide, i_Rec, mW_at 508 (by decide +kernel) rfl, y_Rec_ok, n_Rec, rfl, fun _ => rfl, rfl⟩
theorem lf_Rec_23 : Lf "StuckRecord" 23 9 2 := ⟨R_Rec, F_Rec, 13, rfl, by decide, i_Rec, mW_at 509 (by decide +kernel) rfl⟩
theorem lp_Rec_23 : Lp "StuckRecord" 23 9 2 (.object "StuckRecord$World") true := ⟨R_Rec, F_Rec, 13, y_Rec, rfl, by decide, i_Rec, mW_at 509 (by decide +kernel) rfl, y_Rec_ok, n_Rec, rfl, fun _ => rfl, rfl⟩
theorem lf_Rec_26 : Lf "StuckRecord" 26 9 3 := ⟨R_Rec, F_Rec, 13, rfl, by decide, i_Rec, mW_at 510 (by decide +kernel) rfl⟩
theorem lp_Rec_26 : Lp "StuckRecord" 26 9 3 (.object "StuckRecord$Told") true := ⟨R_Rec, F_Rec, 13, y_Rec, rfl, by decide, i_Rec, mW_at 510 (by decide +kernel) rfl, y_Rec_ok, n_Rec, rfl, fun _ => rfl, rfl⟩
theorem lf_Rec_29 : Lf "StuckRecord" 29 9 4 := ⟨R_Rec, F_Rec, 13, rfl, by decide, i_Rec, mW_at 511 (by decide +kernel) rfl⟩
theorem lp_Rec_29 : Lp "StuckRecord" 29 9 4 (.boolean) false := ⟨R_Rec, F_Rec, 13, y_Rec, rfl, by decide, i_Rec, mW_at 511 (by decide +kernel) rfl, y_Rec_ok, n_Rec, rfl, fun h => absurd h Bool.false_ne_true, rfl⟩
theorem lf_Rec_33 : Lf "StuckRecord" 33 9 5 := ⟨R_Rec, F_Rec, 13, rfl, by decide, i_Rec, mW_at 512 (by decide +kernel) rfl⟩
theorem lp_Rec_33 : Lp "StuckRecord" 33 9 5 (.array (.object "StuckRecord$World")) true := ⟨R_Rec, F_Rec, 13, y_Rec, rfl, by decide, i_Rec, mW_at 512 (by decide +kernel) rfl, y_Rec_ok, n_Rec, rfl, fun _ => rfl, rfl⟩
theorem lf_Rec_37 : Lf "StuckRecord" 37 9 6 := ⟨R_Rec, F_Rec, 13, rfl, by decide, i_Rec, mW_at 513 (by decide +kernel) rfl⟩
theorem lp_Rec_37 : Lp "StuckRecord" 37 9 6 (.int) false := ⟨R_Rec, F_Rec, 13, y_Rec, rfl, by decide, i_Rec, mW_at 513 (by decide +kernel) rfl, y_Rec_ok, n_Rec, rfl, fun h => absurd h Bool.false_ne_true, rfl⟩
theorem lf_Rec_41 : Lf "StuckRecord" 41 9 7 := ⟨R_Rec, F_Rec, 13, rfl, by decide, i_Rec, mW_at 514 (by decide +kernel) rfl⟩
theorem lp_Rec_41 : Lp "StuckRecord" 41 9 7 (.int) false := ⟨R_Rec, F_Rec, 13, y_Rec, rfl, by decide, i_Rec, mW_at 514 (by decide +kernel) rfl, y_Rec_ok, n_Rec, rfl, fun h => absurd h Bool.false_ne_true, rfl⟩
theorem lf_Rec_47 : Lf "StuckRecord" 47 9 8 := ⟨R_Rec, F_Rec, 13, rfl, by decide, i_Rec, mW_at 515 (by decide +kernel) rfl⟩
theorem lp_Rec_47 : Lp "StuckRecord" 47 9 8 (.object "StuckRecord$Reader") true := ⟨R_Rec, F_Rec, 13, y_Rec, rfl, by decide, i_Rec, mW_at 515 (by decide +kernel) rfl, y_Rec_ok, n_Rec, rfl, fun _ => rfl, rfl⟩
theorem lf_Rec_51 : Lf "StuckRecord" 51 9 9 := ⟨R_Rec, F_Rec, 13, rfl, by decide, i_Rec, mW_at 516 (by decide +kernel) rfl⟩
theorem lp_Rec_51 : Lp "StuckRecord" 51 9 9 (.object "StuckRecord$World") true := ⟨R_Rec, F_Rec, 13, y_Rec, rfl, by decide, i_Rec, mW_at 516 (by decide +kernel) rfl, y_Rec_ok, n_Rec, rfl, fun _ => rfl, rfl⟩
theorem lf_Rec_57 : Lf "StuckRecord" 57 9 10 := ⟨R_Rec, F_Rec, 13, rfl, by decide, i_Rec, mW_at 517 (by decide +kernel) rfl⟩
theorem lp_Rec_57 : Lp "StuckRecord" 57 9 10 (.object "StuckRecord$Asker") true := ⟨R_Rec, F_Rec, 13, y_Rec, rfl, by decide, i_Rec, mW_at 517 (by decide +kernel) rfl, y_Rec_ok, n_Rec, rfl, fun _ => rfl, rfl⟩
theorem lf_Rec_64 : Lf "StuckRecord" 64 9 11 := ⟨R_Rec, F_Rec, 13, rfl, by decide, i_Rec, mW_at 518 (by decide +kernel) rfl⟩
theorem lp_Rec_64 : Lp "StuckRecord" 64 9 11 (.object "StuckRecord$Layers") true := ⟨R_Rec, F_Rec, 13, y_Rec, rfl, by decide, i_Rec, mW_at 518 (by decide +kernel) rfl, y_Rec_ok, n_Rec, rfl, fun _ => rfl, rfl⟩
theorem lf_Rec_71 : Lf "StuckRecord" 71 9 12 := ⟨R_Rec, F_Rec, 13, rfl, by decide, i_Rec, mW_at 519 (by decide +kernel) rfl⟩
theorem lp_Rec_71 : Lp "StuckRecord" 71 9 12 (.object "StuckRecord$Wings") true := ⟨R_Rec, F_Rec, 13, y_Rec, rfl, by decide, i_Rec, mW_at 519 (by decide +kernel) rfl, y_Rec_ok, n_Rec, rfl, fun _ => rfl, rfl⟩
theorem lf_Mod_107 : Lf "StuckRecordModel" 107 10 0 := ⟨R_Mod, F_Mod, 56, rfl, by decide, i_Mod, mW_at 1256 (by decide +kernel) rfl⟩
theorem lp_Mod_107 : Lp "StuckRecordModel" 107 10 0 (.int) false := ⟨R_Mod, F_Mod, 56, y_Mod, rfl, by decide, i_Mod, mW_at 1256 (by decide +kernel) rfl, y_Mod_ok, n_Mod, rfl, fun h => absurd h Bool.false_ne_true, rfl⟩
theorem lf_Mod_7 : Lf "StuckRecordModel" 7 10 1 := ⟨R_Mod, F_Mod, 56, rfl, by decide, i_Mod, mW_at 1257 (by decide +kernel) rfl⟩
theorem lp_Mod_7 : Lp "StuckRecordModel" 7 10 1 (.array .int) true := ⟨R_Mod, F_Mod, 56, y_Mod, rfl, by decide, i_Mod, mW_at 1257 (by decide +kernel) rfl, y_Mod_ok, n_Mod, rfl, fun _ => rfl, rfl⟩
theorem lf_Mod_13 : Lf "StuckRecordModel" 13 10 2 := ⟨R_Mod, F_Mod, 56, rfl, by decide, i_Mod, mW_at 1258 (by decide +kernel) rfl⟩
theorem lp_Mod_13 : Lp "StuckRecordModel" 13 10 2 (.array .int) true := ⟨R_Mod, F_Mod, 56, y_Mod, rfl, by decide, i_Mod, mW_at 1258 (by decide +kernel) rfl, y_Mod_ok, n_Mod, rfl, fun _ => rfl, rfl⟩
theorem lf_Mod_111 : Lf "StuckRecordModel" 111 10 3 := ⟨R_Mod, F_Mod, 56, rfl, by decide, i_Mod, mW_at 1259 (by decide +kernel) rfl⟩
theorem lp_Mod_111 : Lp "StuckRecordModel" 111 10 3 (.int) false := ⟨R_Mod, F_Mod, 56, y_Mod, rfl, by decide, i_Mod, mW_at 1259 (by decide +kernel) rfl, y_Mod_ok, n_Mod, rfl, fun h => absurd h Bool.false_ne_true, rfl⟩
theorem lf_Mod_16 : Lf "StuckRecordModel" 16 10 4 := ⟨R_Mod, F_Mod, 56, rfl, by decide, i_Mod, mW_at 1260 (by decide +kernel) rfl⟩
theorem lp_Mod_16 : Lp "StuckRecordModel" 16 10 4 (.array .int) true := ⟨R_Mod, F_Mod, 56, y_Mod, rfl, by decide, i_Mod, mW_at 1260 (by decide +kernel) rfl, y_Mod_ok, n_Mod, rfl, fun _ => rfl, rfl⟩
theorem lf_Mod_114 : Lf "StuckRecordModel" 114 10 5 := ⟨R_Mod, F_Mod, 56, rfl, by decide, i_Mod, mW_at 1261 (by decide +kernel) rfl⟩
theorem lp_Mod_114 : Lp "StuckRecordModel" 114 10 5 (.boolean) false := ⟨R_Mod, F_Mod, 56, y_Mod, rfl, by decide, i_Mod, mW_at 1261 (by decide +kernel) rfl, y_Mod_ok, n_Mod, rfl, fun h => absurd h Bool.false_ne_true, rfl⟩
theorem lf_Mod_19 : Lf "StuckRecordModel" 19 10 6 := ⟨R_Mod, F_Mod, 56, rfl, by decide, i_Mod, mW_at 1262 (by decide +kernel) rfl⟩
theorem lp_Mod_19 : Lp "StuckRecordModel" 19 10 6 (.array .int) true := ⟨R_Mod, F_Mod, 56, y_Mod, rfl, by decide, i_Mod, mW_at 1262 (by decide +kernel) rfl, y_Mod_ok, n_Mod, rfl, fun _ => rfl, rfl⟩
theorem lf_Mod_22 : Lf "StuckRecordModel" 22 10 7 := ⟨R_Mod, F_Mod, 56, rfl, by decide, i_Mod, mW_at 1263 (by decide +kernel) rfl⟩
theorem lp_Mod_22 : Lp "StuckRecordModel" 22 10 7 (.array .int) true := ⟨R_Mod, F_Mod, 56, y_Mod, rfl, by decide, i_Mod, mW_at 1263 (by decide +kernel) rfl, y_Mod_ok, n_Mod, rfl, fun _ => rfl, rfl⟩
theorem lf_Mod_149 : Lf "StuckRecordModel" 149 10 8 := ⟨R_Mod, F_Mod, 56, rfl, by decide, i_Mod, mW_at 1264 (by decide +kernel) rfl⟩
theorem lp_Mod_149 : Lp "StuckRecordModel" 149 10 8 (.int) false := ⟨R_Mod, F_Mod, 56, y_Mod, rfl, by decide, i_Mod, mW_at 1264 (by decide +kernel) rfl, y_Mod_ok, n_Mod, rfl, fun h => absurd h Bool.false_ne_true, rfl⟩
theorem lf_Mod_156 : Lf "StuckRecordModel" 156 10 9 := ⟨R_Mod, F_Mod, 56, rfl, by decide, i_Mod, mW_at 1265 (by decide +kernel) rfl⟩
theorem lp_Mod_156 : Lp "StuckRecordModel" 156 10 9 (.int) false := ⟨R_Mod, F_Mod, 56, y_Mod, rfl, by decide, i_Mod, mW_at 1265 (by decide +kernel) rfl, y_Mod_ok, n_Mod, rfl, fun h => absurd h Bool.false_ne_true, rfl⟩
theorem lf_Mod_162 : Lf "StuckRecordModel" 162 10 10 := ⟨R_Mod, F_Mod, 56, rfl, by decide, i_Mod, mW_at 1266 (by decide +kernel) rfl⟩
theorem lp_Mod_162 : Lp "StuckRecordModel" 162 10 10 (.int) false := ⟨R_Mod, F_Mod, 56, y_Mod, rfl, by decide, i_Mod, mW_at 1266 (by decide +kernel) rfl, y_Mod_ok, n_Mod, rfl, fun h => absurd h Bool.false_ne_true, rfl⟩
theorem lf_Mod_165 : Lf "StuckRecordModel" 165 10 11 := ⟨R_Mod, F_Mod, 56, rfl, by decide, i_Mod, mW_at 1267 (by decide +kernel) rfl⟩
theorem lp_Mod_165 : Lp "StuckRecordModel" 165 10 11 (.int) false := ⟨R_Mod, F_Mod, 56, y_Mod, rfl, by decide, i_Mod, mW_at 1267 (by decide +kernel) rfl, y_Mod_ok, n_Mod, rfl, fun h => absurd h Bool.false_ne_true, rfl⟩
theorem lf_Mod_168 : Lf "StuckRecordModel" 168 10 12 := ⟨R_Mod, F_Mod, 56, rfl, by decide, i_Mod, mW_at 1268 (by decide +kernel) rfl⟩
theorem lp_Mod_168 : Lp "StuckRecordModel" 168 10 12 (.int) false := ⟨R_Mod, F_Mod, 56, y_Mod, rfl, by decide, i_Mod, mW_at 1268 (by decide +kernel) rfl, y_Mod_ok, n_Mod, rfl, fun h => absurd h Bool.false_ne_true, rfl⟩
theorem lf_Mod_25 : Lf "StuckRecordModel" 25 10 13 := ⟨R_Mod, F_Mod, 56, rfl, by decide, i_Mod, mW_at 1269 (by decide +kernel) rfl⟩
theorem lp_Mod_25 : Lp "StuckRecordModel" 25 10 13 (.array .int) true := ⟨R_Mod, F_Mod, 56, y_Mod, rfl, by decide, i_Mod, mW_at 1269 (by decide +kernel) rfl, y_Mod_ok, n_Mod, rfl, fun _ => rfl, rfl⟩
theorem lf_Mod_28 : Lf "StuckRecordModel" 28 10 14 := ⟨R_Mod, F_Mod, 56, rfl, by decide, i_Mod, mW_at 1270 (by decide +kernel) rfl⟩
theorem lp_Mod_28 : Lp "StuckRecordModel" 28 10 14 (.array .int) true := ⟨R_Mod, F_Mod, 56, y_Mod, rfl, by decide, i_Mod, mW_at 1270 (by decide +kernel) rfl, y_Mod_ok, n_Mod, rfl, fun _ => rfl, rfl⟩
theorem lf_Mod_31 : Lf "StuckRecordModel" 31 10 15 := ⟨R_Mod, F_Mod, 56, rfl, by decide, i_Mod, mW_at 1271 (by decide +kernel) rfl⟩
theorem lp_Mod_31 : Lp "StuckRecordModel" 31 10 15 (.array .int) true := ⟨R_Mod, F_Mod, 56, y_Mod, rfl, by decide, i_Mod, mW_at 1271 (by decide +kernel) rfl, y_Mod_ok, n_Mod, rfl, fun _ => rfl, rfl⟩
theorem lf_Mod_34 : Lf "StuckRecordModel" 34 10 16 := ⟨R_Mod, F_Mod, 56, rfl, by decide, i_Mod, mW_at 1272 (by decide +kernel) rfl⟩
theorem lp_Mod_34 : Lp "StuckRecordModel" 34 10 16 (.array .int) true := ⟨R_Mod, F_Mod, 56, y_Mod, rfl, by decide, i_Mod, mW_at 1272 (by decide +kernel) rfl, y_Mod_ok, n_Mod, rfl, fun _ => rfl, rfl⟩
theorem lf_Mod_37 : Lf "StuckRecordModel" 37 10 17 := ⟨R_Mod, F_Mod, 56, rfl, by decide, i_Mod, mW_at 1273 (by decide +kernel) rfl⟩
theorem lp_Mod_37 : Lp "StuckRecordModel" 37 10 17 (.array .int) true := ⟨R_Mod, F_Mod, 56, y_Mod, rfl, by decide, i_Mod, mW_at 1273 (by decide +kernel) rfl, y_Mod_ok, n_Mod, rfl, fun _ => rfl, rfl⟩
theorem lf_Mod_40 : Lf "StuckRecordModel" 40 10 18 := ⟨R_Mod, F_Mod, 56, rfl, by decide, i_Mod, mW_at 1274 (by decide +kernel) rfl⟩
theorem lp_Mod_40 : Lp "StuckRecordModel" 40 10 18 (.array .int) true := ⟨R_Mod, F_Mod, 56, y_Mod, rfl, by decide, i_Mod, mW_at 1274 (by decide +kernel) rfl, y_Mod_ok, n_Mod, rfl, fun _ => rfl, rfl⟩
theorem lf_Mod_43 : Lf "StuckRecordModel" 43 10 19 := ⟨R_Mod, F_Mod, 56, rfl, by decide, i_Mod, mW_at 1275 (by decide +kernel) rfl⟩
theorem lp_Mod_43 : Lp "StuckRecordModel" 43 10 19 (.array .int) true := ⟨R_Mod, F_Mod, 56, y_Mod, rfl, by decide, i_Mod, mW_at 1275 (by decide +kernel) rfl, y_Mod_ok, n_Mod, rfl, fun _ => rfl, rfl⟩
theorem lf_Mod_46 : Lf "StuckRecordModel" 46 10 20 := ⟨R_Mod, F_Mod, 56, rfl, by decide, i_Mod, mW_at 1276 (by decide +kernel) rfl⟩
theorem lp_Mod_46 : Lp "StuckRecordModel" 46 10 20 (.array .int) true := ⟨R_Mod, F_Mod, 56, y_Mod, rfl, by decide, i_Mod, mW_at 1276 (by decide +kernel) rfl, y_Mod_ok, n_Mod, rfl, fun _ => rfl, rfl⟩
theorem lf_Mod_243 : Lf "StuckRecordModel" 243 10 21 := ⟨R_Mod, F_Mod, 56, rfl, by decide, i_Mod, mW_at 1277 (by decide +kernel) rfl⟩
theorem lp_Mod_243 : Lp "StuckRecordModel" 243 10 21 (.int) false := ⟨R_Mod, F_Mod, 56, y_Mod, rfl, by decide, i_Mod, mW_at 1277 (by decide +kernel) rfl, y_Mod_ok, n_Mod, rfl, fun h => absurd h Bool.false_ne_true, rfl⟩
theorem lf_Mod_190 : Lf "StuckRecordModel" 190 10 22 := ⟨R_Mod, F_Mod, 56, rfl, by decide, i_Mod, mW_at 1278 (by decide +kernel) rfl⟩
theorem lp_Mod_190 : Lp "StuckRecordModel" 190 10 22 (.int) false := ⟨R_Mod, F_Mod, 56, y_Mod, rfl, by decide, i_Mod, mW_at 1278 (by decide +kernel) rfl, y_Mod_ok, n_Mod, rfl, fun h => absurd h Bool.false_ne_true, rfl⟩
theorem lf_Mod_221 : Lf "StuckRecordModel" 221 10 23 := ⟨R_Mod, F_Mod, 56, rfl, by decide, i_Mod, mW_at 1279 (by decide +kernel) rfl⟩
theorem lp_Mod_221 : Lp "StuckRecordModel" 221 10 23 (.int) false := ⟨R_Mod, F_Mod, 56, y_Mod, rfl, by decide, i_Mod, mW_at 1279 (by decide +kernel) rfl, y_Mod_ok, n_Mod, rfl, fun h => absurd h Bool.false_ne_true, rfl⟩
theorem lf_Mod_49 : Lf "StuckRecordModel" 49 10 24 := ⟨R_Mod, F_Mod, 56, rfl, by decide, i_Mod, mW_at 1280 (by decide +kernel) rfl⟩
theorem lp_Mod_49 : Lp "StuckRecordModel" 49 10 24 (.array .int) true := ⟨R_Mod, F_Mod, 56, y_Mod, rfl, by decide, i_Mod, mW_at 1280 (by decide +kernel) rfl, y_Mod_ok, n_Mod, rfl, fun _ => rfl, rfl⟩
theorem lf_Mod_218 : Lf "StuckRecordModel" 218 10 25 := ⟨R_Mod, F_Mod, 56, rfl, by decide, i_Mod, mW_at 1281 (by decide +kernel) rfl⟩
theorem lp_Mod_218 : Lp "StuckRecordModel" 218 10 25 (.int) false := ⟨R_Mod, F_Mod, 56, y_Mod, rfl, by decide, i_Mod, mW_at 1281 (by decide +kernel) rfl, y_Mod_ok, n_Mod, rfl, fun h => absurd h Bool.false_ne_true, rfl⟩
theorem lf_Mod_184 : Lf "StuckRecordModel" 184 10 26 := ⟨R_Mod, F_Mod, 56, rfl, by decide, i_Mod, mW_at 1282 (by decide +kernel) rfl⟩
theorem lp_Mod_184 : Lp "StuckRecordModel" 184 10 26 (.int) false := ⟨R_Mod, F_Mod, 56, y_Mod, rfl, by decide, i_Mod, mW_at 1282 (by decide +kernel) rfl, y_Mod_ok, n_Mod, rfl, fun h => absurd h Bool.false_ne_true, rfl⟩
theorem lf_Mod_187 : Lf "StuckRecordModel" 187 10 27 := ⟨R_Mod, F_Mod, 56, rfl, by decide, i_Mod, mW_at 1283 (by decide +kernel) rfl⟩
theorem lp_Mod_187 : Lp "StuckRecordModel" 187 10 27 (.int) false := ⟨R_Mod, F_Mod, 56, y_Mod, rfl, by decide, i_Mod, mW_at 1283 (by decide +kernel) rfl, y_Mod_ok, n_Mod, rfl, fun h => absurd h Bool.false_ne_true, rfl⟩
theorem lf_Mod_288 : Lf "StuckRecordModel" 288 10 28 := ⟨R_Mod, F_Mod, 56, rfl, by decide, i_Mod, mW_at 1284 (by decide +kernel) rfl⟩
theorem lp_Mod_288 : Lp "StuckRecordModel" 288 10 28 (.int) false := ⟨R_Mod, F_Mod, 56, y_Mod, rfl, by decide, i_Mod, mW_at 1284 (by decide +kernel) rfl, y_Mod_ok, n_Mod, rfl, fun h => absurd h Bool.false_ne_true, rfl⟩
theorem lf_Mod_52 : Lf "StuckRecordModel" 52 10 29 := ⟨R_Mod, F_Mod, 56, rfl, by decide, i_Mod, mW_at 1285 (by decide +kernel) rfl⟩
theorem lp_Mod_52 : Lp "StuckRecordModel" 52 10 29 (.int) false := ⟨R_Mod, F_Mod, 56, y_Mod, rfl, by decide, i_Mod, mW_at 1285 (by decide +kernel) rfl, y_Mod_ok, n_Mod, rfl, fun h => absurd h Bool.false_ne_true, rfl⟩
theorem lf_Mod_282 : Lf "StuckRecordModel" 282 10 30 := ⟨R_Mod, F_Mod, 56, rfl, by decide, i_Mod, mW_at 1286 (by decide +kernel) rfl⟩
theorem lp_Mod_282 : Lp "StuckRecordModel" 282 10 30 (.int) false := ⟨R_Mod, F_Mod, 56, y_Mod, rfl, by decide, i_Mod, mW_at 1286 (by decide +kernel) rfl, y_Mod_ok, n_Mod, rfl, fun h => absurd h Bool.false_ne_true, rfl⟩
theorem lf_Mod_56 : Lf "StuckRecordModel" 56 10 31 := ⟨R_Mod, F_Mod, 56, rfl, by decide, i_Mod, mW_at 1287 (by decide +kernel) rfl⟩
theorem lp_Mod_56 : Lp "StuckRecordModel" 56 10 31 (.array .int) true := ⟨R_Mod, F_Mod, 56, y_Mod, rfl, by decide, i_Mod, mW_at 1287 (by decide +kernel) rfl, y_Mod_ok, n_Mod, rfl, fun _ => rfl, rfl⟩
theorem lf_Mod_285 : Lf "StuckRecordModel" 285 10 32 := ⟨R_Mod, F_Mod, 56, rfl, by decide, i_Mod, mW_at 1288 (by decide +kernel) rfl⟩
theorem lp_Mod_285 : Lp "StuckRecordModel" 285 10 32 (.int) false := ⟨R_Mod, F_Mod, 56, y_Mod, rfl, by decide, i_Mod, mW_at 1288 (by decide +kernel) rfl, y_Mod_ok, n_Mod, rfl, fun h => absurd h Bool.false_ne_true, rfl⟩
theorem lf_Mod_59 : Lf "StuckRecordModel" 59 10 33 := ⟨R_Mod, F_Mod, 56, rfl, by decide, i_Mod, mW_at 1289 (by decide +kernel) rfl⟩
theorem lp_Mod_59 : Lp "StuckRecordModel" 59 10 33 (.array .int) true := ⟨R_Mod, F_Mod, 56, y_Mod, rfl, by decide, i_Mod, mW_at 1289 (by decide +kernel) rfl, y_Mod_ok, n_Mod, rfl, fun _ => rfl, rfl⟩
theorem lf_Mod_279 : Lf "StuckRecordModel" 279 10 34 := ⟨R_Mod, F_Mod, 56, rfl, by decide, i_Mod, mW_at 1290 (by decide +kernel) rfl⟩
theorem lp_Mod_279 : Lp "StuckRecordModel" 279 10 34 (.int) false := ⟨R_Mod, F_Mod, 56, y_Mod, rfl, by decide, i_Mod, mW_at 1290 (by decide +kernel) rfl, y_Mod_ok, n_Mod, rfl, fun h => absurd h Bool.false_ne_true, rfl⟩
theorem lf_Mod_62 : Lf "StuckRecordModel" 62 10 35 := ⟨R_Mod, F_Mod, 56, rfl, by decide, i_Mod, mW_at 1291 (by decide +kernel) rfl⟩
theorem lp_Mod_62 : Lp "StuckRecordModel" 62 10 35 (.array .int) true := ⟨R_Mod, F_Mod, 56, y_Mod, rfl, by decide, i_Mod, mW_at 1291 (by decide +kernel) rfl, y_Mod_ok, n_Mod, rfl, fun _ => rfl, rfl⟩
theorem lf_Mod_65 : Lf "StuckRecordModel" 65 10 36 := ⟨R_Mod, F_Mod, 56, rfl, by decide, i_Mod, mW_at 1292 (by decide +kernel) rfl⟩
theorem lp_Mod_65 : Lp "StuckRecordModel" 65 10 36 (.array .int) true := ⟨R_Mod, F_Mod, 56, y_Mod, rfl, by decide, i_Mod, mW_at 1292 (by decide +kernel) rfl, y_Mod_ok, n_Mod, rfl, fun _ => rfl, rfl⟩
theorem lf_Mod_68 : Lf "StuckRecordModel" 68 10 37 := ⟨R_Mod, F_Mod, 56, rfl, by decide, i_Mod, mW_at 1293 (by decide +kernel) rfl⟩
theorem lp_Mod_68 : Lp "StuckRecordModel" 68 10 37 (.array .int) true := ⟨R_Mod, F_Mod, 56, y_Mod, rfl, by decide, i_Mod, mW_at 1293 (by decide +kernel) rfl, y_Mod_ok, n_Mod, rfl, fun _ => rfl, rfl⟩
theorem lf_Mod_71 : Lf "StuckRecordModel" 71 10 38 := ⟨R_Mod, F_Mod, 56, rfl, by decide, i_Mod, mW_at 1294 (by decide +kernel) rfl⟩
theorem lp_Mod_71 : Lp "StuckRecordModel" 71 10 38 (.array .int) true := ⟨R_Mod, F_Mod, 56, y_Mod, rfl, by decide, i_Mod, mW_at 1294 (by decide +kernel) rfl, y_Mod_ok, n_Mod, rfl, fun _ => rfl, rfl⟩
theorem lf_Mod_404 : Lf "StuckRecordModel" 404 10 39 := ⟨R_Mod, F_Mod, 56, rfl, by decide, i_Mod, mW_at 1295 (by decide +kernel) rfl⟩
theorem lp_Mod_404 : Lp "StuckRecordModel" 404 10 39 (.int) false := ⟨R_Mod, F_Mod, 56, y_Mod, rfl, by decide, i_Mod, mW_at 1295 (by decide +kernel) rfl, y_Mod_ok, n_Mod, rfl, fun h => absurd h Bool.false_ne_true, rfl⟩
theorem lf_Mod_74 : Lf "StuckRecordModel" 74 10 40 := ⟨R_Mod, F_Mod, 56, rfl, by decide, i_Mod, mW_at 1296 (by decide +kernel) rfl⟩
theorem lp_Mod_74 : Lp "StuckRecordModel" 74 10 40 (.array .int) true := ⟨R_Mod, F_Mod, 56, y_Mod, rfl, by decide, i_Mod, mW_at 1296 (by decide +kernel) rfl, y_Mod_ok, n_Mod, rfl, fun _ => rfl, rfl⟩
theorem lf_Mod_77 : Lf "StuckRecordModel" 77 10 41 := ⟨R_Mod, F_Mod, 56, rfl, by decide, i_Mod, mW_at 1297 (by decide +kernel) rfl⟩
theorem lp_Mod_77 : Lp "StuckRecordModel" 77 10 41 (.array .int) true := ⟨R_Mod, F_Mod, 56, y_Mod, rfl, by decide, i_Mod, mW_at 1297 (by decide +kernel) rfl, y_Mod_ok, n_Mod, rfl, fun _ => rfl, rfl⟩
theorem lf_Mod_419 : Lf "StuckRecordModel" 419 10 42 := ⟨R_Mod, F_Mod, 56, rfl, by decide, i_Mod, mW_at 1298 (by decide +kernel) rfl⟩
theorem lp_Mod_419 : Lp "StuckRecordModel" 419 10 42 (.int) false := ⟨R_Mod, F_Mod, 56, y_Mod, rfl, by decide, i_Mod, mW_at 1298 (by decide +kernel) rfl, y_Mod_ok, n_Mod, rfl, fun h => absurd h Bool.false_ne_true, rfl⟩
theorem lf_Mod_80 : Lf "StuckRecordModel" 80 10 43 := ⟨R_Mod, F_Mod, 56, rfl, by decide, i_Mod, mW_at 1299 (by decide +kernel) rfl⟩
theorem lp_Mod_80 : Lp "StuckRecordModel" 80 10 43 (.array .int) true := ⟨R_Mod, F_Mod, 56, y_Mod, rfl, by decide, i_Mod, mW_at 1299 (by decide +kernel) rfl, y_Mod_ok, n_Mod, rfl, fun _ => rfl, rfl⟩
theorem lf_Mod_83 : Lf "StuckRecordModel" 83 10 44 := ⟨R_Mod, F_Mod, 56, rfl, by decide, i_Mod, mW_at 1300 (by decide +kernel) rfl⟩
theorem lp_Mod_83 : Lp "StuckRecordModel" 83 10 44 (.array .int) true := ⟨R_Mod, F_Mod, 56, y_Mod, rfl, by decide, i_Mod, mW_at 1300 (by decide +kernel) rfl, y_Mod_ok, n_Mod, rfl, fun _ => rfl, rfl⟩
theorem lf_Mod_441 : Lf "StuckRecordModel" 441 10 45 := ⟨R_Mod, F_Mod, 56, rfl, by decide, i_Mod, mW_at 1301 (by decide +kernel) rfl⟩
theorem lp_Mod_441 : Lp "StuckRecordModel" 441 10 45 (.int) false := ⟨R_Mod, F_Mod, 56, y_Mod, rfl, by decide, i_Mod, mW_at 1301 (by decide +kernel) rfl, y_Mod_ok, n_Mod, rfl, fun h => absurd h Bool.false_ne_true, rfl⟩
theorem lf_Mod_86 : Lf "StuckRecordModel" 86 10 46 := ⟨R_Mod, F_Mod, 56, rfl, by decide, i_Mod, mW_at 1302 (by decide +kernel) rfl⟩
theorem lp_Mod_86 : Lp "StuckRecordModel" 86 10 46 (.array .int) true := ⟨R_Mod, F_Mod, 56, y_Mod, rfl, by decide, i_Mod, mW_at 1302 (by decide +kernel) rfl, y_Mod_ok, n_Mod, rfl, fun _ => rfl, rfl⟩
theorem lf_Mod_89 : Lf "StuckRecordModel" 89 10 47 := ⟨R_Mod, F_Mod, 56, rfl, by decide, i_Mod, mW_at 1303 (by decide +kernel) rfl⟩
theorem lp_Mod_89 : Lp "StuckRecordModel" 89 10 47 (.array .int) true := ⟨R_Mod, F_Mod, 56, y_Mod, rfl, by decide, i_Mod, mW_at 1303 (by decide +kernel) rfl, y_Mod_ok, n_Mod, rfl, fun _ => rfl, rfl⟩
theorem lf_Mod_92 : Lf "StuckRecordModel" 92 10 48 := ⟨R_Mod, F_Mod, 56, rfl, by decide, i_Mod, mW_at 1304 (by decide +kernel) rfl⟩
theorem lp_Mod_92 : Lp "StuckRecordModel" 92 10 48 (.array .int) true := ⟨R_Mod, F_Mod, 56, y_Mod, rfl, by decide, i_Mod, mW_at 1304 (by decide +kernel) rfl, y_Mod_ok, n_Mod, rfl, fun _ => rfl, rfl⟩
theorem lf_Mod_95 : Lf "StuckRecordModel" 95 10 49 := ⟨R_Mod, F_Mod, 56, rfl, by decide, i_Mod, mW_at 1305 (by decide +kernel) rfl⟩
theorem lp_Mod_95 : Lp "StuckRecordModel" 95 10 49 (.array .int) true := ⟨R_Mod, F_Mod, 56, y_Mod, rfl, by decide, i_Mod, mW_at 1305 (by decide +kernel) rfl, y_Mod_ok, n_Mod, rfl, fun _ => rfl, rfl⟩
theorem lf_Mod_98 : Lf "StuckRecordModel" 98 10 50 := ⟨R_Mod, F_Mod, 56, rfl, by decide, i_Mod, mW_at 1306 (by decide +kernel) rfl⟩
theorem lp_Mod_98 : Lp "StuckRecordModel" 98 10 50 (.array .int) true := ⟨R_Mod, F_Mod, 56, y_Mod, rfl, by decide, i_Mod, mW_at 1306 (by decide +kernel) rfl, y_Mod_ok, n_Mod, rfl, fun _ => rfl, rfl⟩
theorem lf_Mod_101 : Lf "StuckRecordModel" 101 10 51 := ⟨R_Mod, F_Mod, 56, rfl, by decide, i_Mod, mW_at 1307 (by decide +kernel) rfl⟩
theorem lp_Mod_101 : Lp "StuckRecordModel" 101 10 51 (.array .int) true := ⟨R_Mod, F_Mod, 56, y_Mod, rfl, by decide, i_Mod, mW_at 1307 (by decide +kernel) rfl, y_Mod_ok, n_Mod, rfl, fun _ => rfl, rfl⟩
theorem lf_Mod_473 : Lf "StuckRecordModel" 473 10 52 := ⟨R_Mod, F_Mod, 56, rfl, by decide, i_Mod, mW_at 1308 (by decide +kernel) rfl⟩
theorem lp_Mod_473 : Lp "StuckRecordModel" 473 10 52 (.boolean) false := ⟨R_Mod, F_Mod, 56, y_Mod, rfl, by decide, i_Mod, mW_at 1308 (by decide +kernel) rfl, y_Mod_ok, n_Mod, rfl, fun h => absurd h Bool.false_ne_true, rfl⟩
theorem lf_Mod_479 : Lf "StuckRecordModel" 479 10 53 := ⟨R_Mod, F_Mod, 56, rfl, by decide, i_Mod, mW_at 1309 (by decide +kernel) rfl⟩
theorem lp_Mod_479 : Lp "StuckRecordModel" 479 10 53 (.boolean) false := ⟨R_Mod, F_Mod, 56, y_Mod, rfl, by decide, i_Mod, mW_at 1309 (by decide +kernel) rfl, y_Mod_ok, n_Mod, rfl, fun h => absurd h Bool.false_ne_true, rfl⟩
theorem lf_Mod_470 : Lf "StuckRecordModel" 470 10 54 := ⟨R_Mod, F_Mod, 56, rfl, by decide, i_Mod, mW_at 1310 (by decide +kernel) rfl⟩
theorem lp_Mod_470 : Lp "StuckRecordModel" 470 10 54 (.int) false := ⟨R_Mod, F_Mod, 56, y_Mod, rfl, by decide, i_Mod, mW_at 1310 (by decide +kernel) rfl, y_Mod_ok, n_Mod, rfl, fun h => absurd h Bool.false_ne_true, rfl⟩
theorem lf_Mod_104 : Lf "StuckRecordModel" 104 10 55 := ⟨R_Mod, F_Mod, 56, rfl, by decide, i_Mod, mW_at 1311 (by decide +kernel) rfl⟩
theorem lp_Mod_104 : Lp "StuckRecordModel" 104 10 55 (.array .int) true := ⟨R_Mod, F_Mod, 56, y_Mod, rfl, by decide, i_Mod, mW_at 1311 (by decide +kernel) rfl, y_Mod_ok, n_Mod, rfl, fun _ => rfl, rfl⟩
theorem lc_Asker_init : Lc f_Asker_init 0 := ⟨mW_at 454 (by decide +kernel) rfl, mW_at 153 (by decide +kernel) rfl, ⟨by decide, by decide, by decide +kernel⟩, by decide⟩
theorem lc_Asker_heap : Lc f_Asker_heap 2 := ⟨mW_at 1013 (by decide +kernel) rfl, mW_at 153 (by decide +kernel) rfl, ⟨by decide, by decide, by decide +kernel⟩, by decide⟩
theorem lc_Asker_reach : Lc f_Asker_reach 2 := ⟨mW_at 1018 (by decide +kernel) rfl, mW_at 153 (by decide +kernel) rfl, ⟨by decide, by decide, by decide +kernel⟩, by decide⟩
theorem lc_Asker_ways : Lc f_Asker_ways 3 := ⟨mW_at 1036 (by decide +kernel) rfl, mW_at 153 (by decide +kernel) rfl, ⟨by decide, by decide, by decide +kernel⟩, by decide⟩
theorem lc_Asker_longest : Lc f_Asker_longest 1 := ⟨mW_at 1044 (by decide +kernel) rfl, mW_at 153 (by decide +kernel) rfl, ⟨by decide, by decide, by decide +kernel⟩, by decide⟩
theorem lc_Asker_longestBelow : Lc f_Asker_longestBelow 3 := ⟨mW_at 1048 (by decide +kernel) rfl, mW_at 153 (by decide +kernel) rfl, ⟨by decide, by decide, by decide +kernel⟩, by decide⟩
theorem lc_Asker_lean : Lc f_Asker_lean 2 := ⟨mW_at 1179 (by decide +kernel) rfl, mW_at 153 (by decide +kernel) rfl, ⟨by decide, by decide, by decide +kernel⟩, by decide⟩
theorem lc_Asker_sizeAt : Lc f_Asker_sizeAt 2 := ⟨mW_at 1182 (by decide +kernel) rfl, mW_at 153 (by decide +kernel) rfl, ⟨by decide, by decide, by decide +kernel⟩, by decide⟩
theorem lc_Asker_balance : Lc f_Asker_balance 2 := ⟨mW_at 1202 (by decide +kernel) rfl, mW_at 153 (by decide +kernel) rfl, ⟨by decide, by decide, by decide +kernel⟩, by decide⟩
theorem lc_Asker_weighWasps : Lc f_Asker_weighWasps 1 := ⟨mW_at 1206 (by decide +kernel) rfl, mW_at 153 (by decide +kernel) rfl, ⟨by decide, by decide, by decide +kernel⟩, by decide⟩
theorem lc_Asker_fingers : Lc f_Asker_fingers 3 := ⟨mW_at 1217 (by decide +kernel) rfl, mW_at 153 (by decide +kernel) rfl, ⟨by decide, by decide, by decide +kernel⟩, by decide⟩
theorem lc_Asker_bestTake : Lc f_Asker_bestTake 2 := ⟨mW_at 1225 (by decide +kernel) rfl, mW_at 153 (by decide +kernel) rfl, ⟨by decide, by decide, by decide +kernel⟩, by decide⟩
theorem lc_Asker_takeFrom : Lc f_Asker_takeFrom 2 := ⟨mW_at 1233 (by decide +kernel) rfl, mW_at 153 (by decide +kernel) rfl, ⟨by decide, by decide, by decide +kernel⟩, by decide⟩
theorem lc_Asker_worth : Lc f_Asker_worth 1 := ⟨mW_at 1228 (by decide +kernel) rfl, mW_at 153 (by decide +kernel) rfl, ⟨by decide, by decide, by decide +kernel⟩, by decide⟩
theorem lc_Dates_dayNumber : Lc f_Dates_dayNumber 1 := ⟨mW_at 1160 (by decide +kernel) rfl, mW_at 165 (by decide +kernel) rfl, ⟨by decide, by decide, by decide +kernel⟩, by decide⟩
theorem lc_Dates_monthDays : Lc f_Dates_monthDays 2 := ⟨mW_at 1164 (by decide +kernel) rfl, mW_at 165 (by decide +kernel) rfl, ⟨by decide, by decide, by decide +kernel⟩, by decide⟩
theorem lc_Law_init : Lc f_Law_init 0 := ⟨mW_at 332 (by decide +kernel) rfl, mW_at 151 (by decide +kernel) rfl, ⟨by decide, by decide, by decide +kernel⟩, by decide⟩
theorem lc_Law_take : Lc f_Law_take 3 := ⟨mW_at 966 (by decide +kernel) rfl, mW_at 151 (by decide +kernel) rfl, ⟨by decide, by decide, by decide +kernel⟩, by decide⟩
theorem lc_Law_tells : Lc f_Law_tells 3 := ⟨mW_at 678 (by decide +kernel) rfl, mW_at 151 (by decide +kernel) rfl, ⟨by decide, by decide, by decide +kernel⟩, by decide⟩
theorem lc_Law_usual : Lc f_Law_usual 3 := ⟨mW_at 682 (by decide +kernel) rfl, mW_at 151 (by decide +kernel) rfl, ⟨by decide, by decide, by decide +kernel⟩, by decide⟩
theorem lc_Law_value : Lc f_Law_value 4 := ⟨mW_at 687 (by decide +kernel) rfl, mW_at 151 (by decide +kernel) rfl, ⟨by decide, by decide, by decide +kernel⟩, by decide⟩
theorem lc_Law_changed : Lc f_Law_changed 2 := ⟨mW_at 702 (by decide +kernel) rfl, mW_at 151 (by decide +kernel) rfl, ⟨by decide, by decide, by decide +kernel⟩, by decide⟩
theorem lc_Law_joined : Lc f_Law_joined 3 := ⟨mW_at 705 (by decide +kernel) rfl, mW_at 151 (by decide +kernel) rfl, ⟨by decide, by decide, by decide +kernel⟩, by decide⟩
theorem lc_Law_variable : Lc f_Law_variable 3 := ⟨mW_at 691 (by decide +kernel) rfl, mW_at 151 (by decide +kernel) rfl, ⟨by decide, by decide, by decide +kernel⟩, by decide⟩
theorem lc_Layers_init : Lc f_Layers_init 0 := ⟨mW_at 482 (by decide +kernel) rfl, mW_at 154 (by decide +kernel) rfl, ⟨by decide, by decide, by decide +kernel⟩, by decide⟩
theorem lc_Layers_learn : Lc f_Layers_learn 1 := ⟨mW_at 1079 (by decide +kernel) rfl, mW_at 154 (by decide +kernel) rfl, ⟨by decide, by decide, by decide +kernel⟩, by decide⟩
theorem lc_Layers_firsts : Lc f_Layers_firsts 0 := ⟨mW_at 1104 (by decide +kernel) rfl, mW_at 154 (by decide +kernel) rfl, ⟨by decide, by decide, by decide +kernel⟩, by decide⟩
theorem lc_Layers_rounds : Lc f_Layers_rounds 0 := ⟨mW_at 1090 (by decide +kernel) rfl, mW_at 154 (by decide +kernel) rfl, ⟨by decide, by decide, by decide +kernel⟩, by decide⟩
theorem lc_Layers_tops : Lc f_Layers_tops 0 := ⟨mW_at 1109 (by decide +kernel) rfl, mW_at 154 (by decide +kernel) rfl, ⟨by decide, by decide, by decide +kernel⟩, by decide⟩
theorem lc_Layers_earliest : Lc f_Layers_earliest 1 := ⟨mW_at 1086 (by decide +kernel) rfl, mW_at 154 (by decide +kernel) rfl, ⟨by decide, by decide, by decide +kernel⟩, by decide⟩
theorem lc_Layers_above : Lc f_Layers_above 1 := ⟨mW_at 1100 (by decide +kernel) rfl, mW_at 154 (by decide +kernel) rfl, ⟨by decide, by decide, by decide +kernel⟩, by decide⟩
theorem lc_Reader_init : Lc f_Reader_init 0 := ⟨mW_at 400 (by decide +kernel) rfl, mW_at 152 (by decide +kernel) rfl, ⟨by decide, by decide, by decide +kernel⟩, by decide⟩
theorem lc_Reader_append : Lc f_Reader_append 1 := ⟨mW_at 737 (by decide +kernel) rfl, mW_at 152 (by decide +kernel) rfl, ⟨by decide, by decide, by decide +kernel⟩, by decide⟩
theorem lc_Reader_read : Lc f_Reader_read 1 := ⟨mW_at 749 (by decide +kernel) rfl, mW_at 152 (by decide +kernel) rfl, ⟨by decide, by decide, by decide +kernel⟩, by decide⟩
theorem lc_Reader_split : Lc f_Reader_split 0 := ⟨mW_at 753 (by decide +kernel) rfl, mW_at 152 (by decide +kernel) rfl, ⟨by decide, by decide, by decide +kernel⟩, by decide⟩
theorem lc_Reader_token : Lc f_Reader_token 1 := ⟨mW_at 757 (by decide +kernel) rfl, mW_at 152 (by decide +kernel) rfl, ⟨by decide, by decide, by decide +kernel⟩, by decide⟩
theorem lc_Reader_addToken : Lc f_Reader_addToken 3 := ⟨mW_at 821 (by decide +kernel) rfl, mW_at 152 (by decide +kernel) rfl, ⟨by decide, by decide, by decide +kernel⟩, by decide⟩
theorem lc_Reader_isLetter : Lc f_Reader_isLetter 1 := ⟨mW_at 760 (by decide +kernel) rfl, mW_at 152 (by decide +kernel) rfl, ⟨by decide, by decide, by decide +kernel⟩, by decide⟩
theorem lc_Reader_isDigit : Lc f_Reader_isDigit 1 := ⟨mW_at 824 (by decide +kernel) rfl, mW_at 152 (by decide +kernel) rfl, ⟨by decide, by decide, by decide +kernel⟩, by decide⟩
theorem lc_Reader_wordAt : Lc f_Reader_wordAt 2 := ⟨mW_at 764 (by decide +kernel) rfl, mW_at 152 (by decide +kernel) rfl, ⟨by decide, by decide, by decide +kernel⟩, by decide⟩
theorem lc_Reader_stands : Lc f_Reader_stands 3 := ⟨mW_at 817 (by decide +kernel) rfl, mW_at 152 (by decide +kernel) rfl, ⟨by decide, by decide, by decide +kernel⟩, by decide⟩
theorem lc_Reader_fail : Lc f_Reader_fail 1 := ⟨mW_at 897 (by decide +kernel) rfl, mW_at 152 (by decide +kernel) rfl, ⟨by decide, by decide, by decide +kernel⟩, by decide⟩
theorem lc_Reader_isWord : Lc f_Reader_isWord 2 := ⟨mW_at 892 (by decide +kernel) rfl, mW_at 152 (by decide +kernel) rfl, ⟨by decide, by decide, by decide +kernel⟩, by decide⟩
theorem lc_Reader_isSign : Lc f_Reader_isSign 1 := ⟨mW_at 925 (by decide +kernel) rfl, mW_at 152 (by decide +kernel) rfl, ⟨by decide, by decide, by decide +kernel⟩, by decide⟩
theorem lc_Reader_takeFirst : Lc f_Reader_takeFirst 2 := ⟨mW_at 888 (by decide +kernel) rfl, mW_at 152 (by decide +kernel) rfl, ⟨by decide, by decide, by decide +kernel⟩, by decide⟩
theorem lc_Reader_takeWord : Lc f_Reader_takeWord 3 := ⟨mW_at 901 (by decide +kernel) rfl, mW_at 152 (by decide +kernel) rfl, ⟨by decide, by decide, by decide +kernel⟩, by decide⟩
theorem lc_Reader_takeNumber : Lc f_Reader_takeNumber 3 := ⟨mW_at 949 (by decide +kernel) rfl, mW_at 152 (by decide +kernel) rfl, ⟨by decide, by decide, by decide +kernel⟩, by decide⟩
theorem lc_Reader_takeSign : Lc f_Reader_takeSign 1 := ⟨mW_at 941 (by decide +kernel) rfl, mW_at 152 (by decide +kernel) rfl, ⟨by decide, by decide, by decide +kernel⟩, by decide⟩
theorem lc_Reader_keep : Lc f_Reader_keep 1 := ⟨mW_at 905 (by decide +kernel) rfl, mW_at 152 (by decide +kernel) rfl, ⟨by decide, by decide, by decide +kernel⟩, by decide⟩
theorem lc_Reader_step : Lc f_Reader_step 0 := ⟨mW_at 909 (by decide +kernel) rfl, mW_at 152 (by decide +kernel) rfl, ⟨by decide, by decide, by decide +kernel⟩, by decide⟩
theorem lc_Reader_readFlight : Lc f_Reader_readFlight 0 := ⟨mW_at 945 (by decide +kernel) rfl, mW_at 152 (by decide +kernel) rfl, ⟨by decide, by decide, by decide +kernel⟩, by decide⟩
theorem lc_Reader_readSky : Lc f_Reader_readSky 0 := ⟨mW_at 953 (by decide +kernel) rfl, mW_at 152 (by decide +kernel) rfl, ⟨by decide, by decide, by decide +kernel⟩, by decide⟩
theorem lc_Reader_readStrips : Lc f_Reader_readStrips 0 := ⟨mW_at 957 (by decide +kernel) rfl, mW_at 152 (by decide +kernel) rfl, ⟨by decide, by decide, by decide +kernel⟩, by decide⟩
theorem lc_Reader_readLaw : Lc f_Reader_readLaw 0 := ⟨mW_at 884 (by decide +kernel) rfl, mW_at 152 (by decide +kernel) rfl, ⟨by decide, by decide, by decide +kernel⟩, by decide⟩
theorem lc_Reader_condition : Lc f_Reader_condition 1 := ⟨mW_at 933 (by decide +kernel) rfl, mW_at 152 (by decide +kernel) rfl, ⟨by decide, by decide, by decide +kernel⟩, by decide⟩
theorem lc_Reader_single : Lc f_Reader_single 1 := ⟨mW_at 937 (by decide +kernel) rfl, mW_at 152 (by decide +kernel) rfl, ⟨by decide, by decide, by decide +kernel⟩, by decide⟩
theorem lc_Reader_expression : Lc f_Reader_expression 0 := ⟨mW_at 913 (by decide +kernel) rfl, mW_at 152 (by decide +kernel) rfl, ⟨by decide, by decide, by decide +kernel⟩, by decide⟩
theorem lc_Reader_unit : Lc f_Reader_unit 0 := ⟨mW_at 917 (by decide +kernel) rfl, mW_at 152 (by decide +kernel) rfl, ⟨by decide, by decide, by decide +kernel⟩, by decide⟩
theorem lc_Reader_divisor : Lc f_Reader_divisor 0 := ⟨mW_at 929 (by decide +kernel) rfl, mW_at 152 (by decide +kernel) rfl, ⟨by decide, by decide, by decide +kernel⟩, by decide⟩
theorem lc_Reader_emit : Lc f_Reader_emit 1 := ⟨mW_at 921 (by decide +kernel) rfl, mW_at 152 (by decide +kernel) rfl, ⟨by decide, by decide, by decide +kernel⟩, by decide⟩
theorem lc_Rows_init_0 : Lc (f_Rows_init 0) 2 := ⟨mW_at 186 (by decide +kernel) rfl, mW_at 147 (by decide +kernel) rfl, ⟨by decide, by decide, by decide +kernel⟩, by decide⟩
theorem lc_Rows_init (ms : Nat) : Lc (f_Rows_init ms) 2 := lc_Rows_init_0
theorem lc_Rows_isFull : Lc f_Rows_isFull 0 := ⟨mW_at 633 (by decide +kernel) rfl, mW_at 147 (by decide +kernel) rfl, ⟨by decide, by decide, by decide +kernel⟩, by decide⟩
theorem lc_Rows_add : Lc f_Rows_add 5 := ⟨mW_at 629 (by decide +kernel) rfl, mW_at 147 (by decide +kernel) rfl, ⟨by decide, by decide, by decide +kernel⟩, by decide⟩
theorem lc_Rows_write : Lc f_Rows_write 2 := ⟨mW_at 637 (by decide +kernel) rfl, mW_at 147 (by decide +kernel) rfl, ⟨by decide, by decide, by decide +kernel⟩, by decide⟩
theorem lc_Rows_get : Lc f_Rows_get 2 := ⟨mW_at 661 (by decide +kernel) rfl, mW_at 147 (by decide +kernel) rfl, ⟨by decide, by decide, by decide +kernel⟩, by decide⟩
theorem lc_Rows_sumOf : Lc f_Rows_sumOf 2 := ⟨mW_at 1070 (by decide +kernel) rfl, mW_at 147 (by decide +kernel) rfl, ⟨by decide, by decide, by decide +kernel⟩, by decide⟩
theorem lc_Rows_unionOf : Lc f_Rows_unionOf 1 := ⟨mW_at 1125 (by decide +kernel) rfl, mW_at 147 (by decide +kernel) rfl, ⟨by decide, by decide, by decide +kernel⟩, by decide⟩
theorem lc_Rows_copyFrom : Lc f_Rows_copyFrom 1 := ⟨mW_at 607 (by decide +kernel) rfl, mW_at 147 (by decide +kernel) rfl, ⟨by decide, by decide, by decide +kernel⟩, by decide⟩
theorem lc_Thing_init : Lc f_Thing_init 0 := ⟨mW_at 215 (by decide +kernel) rfl, mW_at 149 (by decide +kernel) rfl, ⟨by decide, by decide, by decide +kernel⟩, by decide⟩
theorem lc_Thing_copyFrom : Lc f_Thing_copyFrom 1 := ⟨mW_at 603 (by decide +kernel) rfl, mW_at 149 (by decide +kernel) rfl, ⟨by decide, by decide, by decide +kernel⟩, by decide⟩
theorem lc_Told_init : Lc f_Told_init 0 := ⟨mW_at 326 (by decide +kernel) rfl, mW_at 150 (by decide +kernel) rfl, ⟨by decide, by decide, by decide +kernel⟩, by decide⟩
theorem lc_Told_take : Lc f_Told_take 2 := ⟨mW_at 962 (by decide +kernel) rfl, mW_at 150 (by decide +kernel) rfl, ⟨by decide, by decide, by decide +kernel⟩, by decide⟩
theorem lc_Told_copyFrom : Lc f_Told_copyFrom 1 := ⟨mW_at 1245 (by decide +kernel) rfl, mW_at 150 (by decide +kernel) rfl, ⟨by decide, by decide, by decide +kernel⟩, by decide⟩
theorem lc_Wings_init : Lc f_Wings_init 0 := ⟨mW_at 495 (by decide +kernel) rfl, mW_at 155 (by decide +kernel) rfl, ⟨by decide, by decide, by decide +kernel⟩, by decide⟩
theorem lc_Wings_numberings : Lc f_Wings_numberings 2 := ⟨mW_at 1138 (by decide +kernel) rfl, mW_at 155 (by decide +kernel) rfl, ⟨by decide, by decide, by decide +kernel⟩, by decide⟩
theorem lc_Wings_learn : Lc f_Wings_learn 2 := ⟨mW_at 1141 (by decide +kernel) rfl, mW_at 155 (by decide +kernel) rfl, ⟨by decide, by decide, by decide +kernel⟩, by decide⟩
theorem lc_Wings_bare : Lc f_Wings_bare 1 := ⟨mW_at 1146 (by decide +kernel) rfl, mW_at 155 (by decide +kernel) rfl, ⟨by decide, by decide, by decide +kernel⟩, by decide⟩
theorem lc_Wings_tried : Lc f_Wings_tried 5 := ⟨mW_at 1149 (by decide +kernel) rfl, mW_at 155 (by decide +kernel) rfl, ⟨by decide, by decide, by decide +kernel⟩, by decide⟩
theorem lc_Wings_fits : Lc f_Wings_fits 5 := ⟨mW_at 1152 (by decide +kernel) rfl, mW_at 155 (by decide +kernel) rfl, ⟨by decide, by decide, by decide +kernel⟩, by decide⟩
theorem lc_World_init : Lc f_World_init 0 := ⟨mW_at 178 (by decide +kernel) rfl, mW_at 146 (by decide +kernel) rfl, ⟨by decide, by decide, by decide +kernel⟩, by decide⟩
theorem lc_World_copyFrom : Lc f_World_copyFrom 1 := ⟨mW_at 596 (by decide +kernel) rfl, mW_at 146 (by decide +kernel) rfl, ⟨by decide, by decide, by decide +kernel⟩, by decide⟩
theorem lc_World_isTaken : Lc f_World_isTaken 1 := ⟨mW_at 699 (by decide +kernel) rfl, mW_at 146 (by decide +kernel) rfl, ⟨by decide, by decide, by decide +kernel⟩, by decide⟩
theorem lc_World_hasRoom : Lc f_World_hasRoom 1 := ⟨mW_at 588 (by decide +kernel) rfl, mW_at 146 (by decide +kernel) rfl, ⟨by decide, by decide, by decide +kernel⟩, by decide⟩
theorem lc_World_near : Lc f_World_near 1 := ⟨mW_at 695 (by decide +kernel) rfl, mW_at 146 (by decide +kernel) rfl, ⟨by decide, by decide, by decide +kernel⟩, by decide⟩
theorem lc_World_slotOf : Lc f_World_slotOf 1 := ⟨mW_at 577 (by decide +kernel) rfl, mW_at 146 (by decide +kernel) rfl, ⟨by decide, by decide, by decide +kernel⟩, by decide⟩
theorem lc_World_find : Lc f_World_find 1 := ⟨mW_at 573 (by decide +kernel) rfl, mW_at 146 (by decide +kernel) rfl, ⟨by decide, by decide, by decide +kernel⟩, by decide⟩
theorem lc_World_thingAt : Lc f_World_thingAt 1 := ⟨mW_at 1004 (by decide +kernel) rfl, mW_at 146 (by decide +kernel) rfl, ⟨by decide, by decide, by decide +kernel⟩, by decide⟩
theorem lc_World_newcomer : Lc f_World_newcomer 4 := ⟨mW_at 616 (by decide +kernel) rfl, mW_at 146 (by decide +kernel) rfl, ⟨by decide, by decide, by decide +kernel⟩, by decide⟩
theorem lc_World_settle : Lc f_World_settle 1 := ⟨mW_at 621 (by decide +kernel) rfl, mW_at 146 (by decide +kernel) rfl, ⟨by decide, by decide, by decide +kernel⟩, by decide⟩
theorem lc_World_tweeze : Lc f_World_tweeze 1 := ⟨mW_at 645 (by decide +kernel) rfl, mW_at 146 (by decide +kernel) rfl, ⟨by decide, by decide, by decide +kernel⟩, by decide⟩
theorem lc_World_remove : Lc f_World_remove 1 := ⟨mW_at 649 (by decide +kernel) rfl, mW_at 146 (by decide +kernel) rfl, ⟨by decide, by decide, by decide +kernel⟩, by decide⟩
theorem lc_World_write : Lc f_World_write 3 := ⟨mW_at 625 (by decide +kernel) rfl, mW_at 146 (by decide +kernel) rfl, ⟨by decide, by decide, by decide +kernel⟩, by decide⟩
theorem lc_World_draw : Lc f_World_draw 1 := ⟨mW_at 714 (by decide +kernel) rfl, mW_at 146 (by decide +kernel) rfl, ⟨by decide, by decide, by decide +kernel⟩, by decide⟩
theorem lc_World_happens : Lc f_World_happens 2 := ⟨mW_at 710 (by decide +kernel) rfl, mW_at 146 (by decide +kernel) rfl, ⟨by decide, by decide, by decide +kernel⟩, by decide⟩
theorem lc_World_liveDay : Lc f_World_liveDay 2 := ⟨mW_at 657 (by decide +kernel) rfl, mW_at 146 (by decide +kernel) rfl, ⟨by decide, by decide, by decide +kernel⟩, by decide⟩
theorem lc_World_weather : Lc f_World_weather 3 := ⟨mW_at 665 (by decide +kernel) rfl, mW_at 146 (by decide +kernel) rfl, ⟨by decide, by decide, by decide +kernel⟩, by decide⟩
theorem lc_World_comeUp : Lc f_World_comeUp 4 := ⟨mW_at 672 (by decide +kernel) rfl, mW_at 146 (by decide +kernel) rfl, ⟨by decide, by decide, by decide +kernel⟩, by decide⟩
theorem lc_World_struggle : Lc f_World_struggle 3 := ⟨mW_at 721 (by decide +kernel) rfl, mW_at 146 (by decide +kernel) rfl, ⟨by decide, by decide, by decide +kernel⟩, by decide⟩
theorem lc_World_slide : Lc f_World_slide 2 := ⟨mW_at 725 (by decide +kernel) rfl, mW_at 146 (by decide +kernel) rfl, ⟨by decide, by decide, by decide +kernel⟩, by decide⟩
theorem lc_World_growOld : Lc f_World_growOld 0 := ⟨mW_at 729 (by decide +kernel) rfl, mW_at 146 (by decide +kernel) rfl, ⟨by decide, by decide, by decide +kernel⟩, by decide⟩
theorem lc_Rec_init : Lc f_Rec_init 0 := ⟨mW_at 170 (by decide +kernel) rfl, mW_at 145 (by decide +kernel) rfl, ⟨by decide, by decide, by decide +kernel⟩, by decide⟩
theorem lc_Rec_state : Lc f_Rec_state 1 := ⟨mW_at 550 (by decide +kernel) rfl, mW_at 145 (by decide +kernel) rfl, ⟨by decide, by decide, by decide +kernel⟩, by decide⟩
theorem lc_Rec_set : Lc f_Rec_set 3 := ⟨mW_at 558 (by decide +kernel) rfl, mW_at 145 (by decide +kernel) rfl, ⟨by decide, by decide, by decide +kernel⟩, by decide⟩
theorem lc_Rec_setGlue : Lc f_Rec_setGlue 2 := ⟨mW_at 562 (by decide +kernel) rfl, mW_at 145 (by decide +kernel) rfl, ⟨by decide, by decide, by decide +kernel⟩, by decide⟩
theorem lc_Rec_setSky : Lc f_Rec_setSky 2 := ⟨mW_at 569 (by decide +kernel) rfl, mW_at 145 (by decide +kernel) rfl, ⟨by decide, by decide, by decide +kernel⟩, by decide⟩
theorem lc_Rec_setThing : Lc f_Rec_setThing 3 := ⟨mW_at 580 (by decide +kernel) rfl, mW_at 145 (by decide +kernel) rfl, ⟨by decide, by decide, by decide +kernel⟩, by decide⟩
theorem lc_Rec_put : Lc f_Rec_put 4 := ⟨mW_at 584 (by decide +kernel) rfl, mW_at 145 (by decide +kernel) rfl, ⟨by decide, by decide, by decide +kernel⟩, by decide⟩
theorem lc_Rec_act : Lc f_Rec_act 3 := ⟨mW_at 641 (by decide +kernel) rfl, mW_at 145 (by decide +kernel) rfl, ⟨by decide, by decide, by decide +kernel⟩, by decide⟩
theorem lc_Rec_days : Lc f_Rec_days 1 := ⟨mW_at 653 (by decide +kernel) rfl, mW_at 145 (by decide +kernel) rfl, ⟨by decide, by decide, by decide +kernel⟩, by decide⟩
theorem lc_Rec_feed : Lc f_Rec_feed 5 := ⟨mW_at 733 (by decide +kernel) rfl, mW_at 145 (by decide +kernel) rfl, ⟨by decide, by decide, by decide +kernel⟩, by decide⟩
theorem lc_Rec_end : Lc f_Rec_end 1 := ⟨mW_at 741 (by decide +kernel) rfl, mW_at 145 (by decide +kernel) rfl, ⟨by decide, by decide, by decide +kernel⟩, by decide⟩
theorem lc_Rec_text : Lc f_Rec_text 1 := ⟨mW_at 745 (by decide +kernel) rfl, mW_at 145 (by decide +kernel) rfl, ⟨by decide, by decide, by decide +kernel⟩, by decide⟩
theorem lc_Rec_fault : Lc f_Rec_fault 1 := ⟨mW_at 974 (by decide +kernel) rfl, mW_at 145 (by decide +kernel) rfl, ⟨by decide, by decide, by decide +kernel⟩, by decide⟩
theorem lc_Rec_inch : Lc f_Rec_inch 2 := ⟨mW_at 978 (by decide +kernel) rfl, mW_at 145 (by decide +kernel) rfl, ⟨by decide, by decide, by decide +kernel⟩, by decide⟩
theorem lc_Rec_of : Lc f_Rec_of 2 := ⟨mW_at 982 (by decide +kernel) rfl, mW_at 145 (by decide +kernel) rfl, ⟨by decide, by decide, by decide +kernel⟩, by decide⟩
theorem lc_Rec_book : Lc f_Rec_book 2 := ⟨mW_at 988 (by decide +kernel) rfl, mW_at 145 (by decide +kernel) rfl, ⟨by decide, by decide, by decide +kernel⟩, by decide⟩
theorem lc_Rec_goes : Lc f_Rec_goes 2 := ⟨mW_at 993 (by decide +kernel) rfl, mW_at 145 (by decide +kernel) rfl, ⟨by decide, by decide, by decide +kernel⟩, by decide⟩
theorem lc_Rec_nearest : Lc f_Rec_nearest 1 := ⟨mW_at 1000 (by decide +kernel) rfl, mW_at 145 (by decide +kernel) rfl, ⟨by decide, by decide, by decide +kernel⟩, by decide⟩
theorem lc_Rec_heaps : Lc f_Rec_heaps 1 := ⟨mW_at 1009 (by decide +kernel) rfl, mW_at 145 (by decide +kernel) rfl, ⟨by decide, by decide, by decide +kernel⟩, by decide⟩
theorem lc_Rec_kind : Lc f_Rec_kind 1 := ⟨mW_at 1023 (by decide +kernel) rfl, mW_at 145 (by decide +kernel) rfl, ⟨by decide, by decide, by decide +kernel⟩, by decide⟩
theorem lc_Rec_says : Lc f_Rec_says 1 := ⟨mW_at 1032 (by decide +kernel) rfl, mW_at 145 (by decide +kernel) rfl, ⟨by decide, by decide, by decide +kernel⟩, by decide⟩
theorem lc_Rec_pass : Lc f_Rec_pass 2 := ⟨mW_at 1053 (by decide +kernel) rfl, mW_at 145 (by decide +kernel) rfl, ⟨by decide, by decide, by decide +kernel⟩, by decide⟩
theorem lc_Rec_words : Lc f_Rec_words 2 := ⟨mW_at 1058 (by decide +kernel) rfl, mW_at 145 (by decide +kernel) rfl, ⟨by decide, by decide, by decide +kernel⟩, by decide⟩
theorem lc_Rec_legs : Lc f_Rec_legs 1 := ⟨mW_at 1062 (by decide +kernel) rfl, mW_at 145 (by decide +kernel) rfl, ⟨by decide, by decide, by decide +kernel⟩, by decide⟩
theorem lc_Rec_bestWords : Lc f_Rec_bestWords 1 := ⟨mW_at 1066 (by decide +kernel) rfl, mW_at 145 (by decide +kernel) rfl, ⟨by decide, by decide, by decide +kernel⟩, by decide⟩
theorem lc_Rec_order : Lc f_Rec_order 1 := ⟨mW_at 1075 (by decide +kernel) rfl, mW_at 145 (by decide +kernel) rfl, ⟨by decide, by decide, by decide +kernel⟩, by decide⟩
theorem lc_Rec_sight : Lc f_Rec_sight 1 := ⟨mW_at 1113 (by decide +kernel) rfl, mW_at 145 (by decide +kernel) rfl, ⟨by decide, by decide, by decide +kernel⟩, by decide⟩
theorem lc_Rec_cover : Lc f_Rec_cover 1 := ⟨mW_at 1117 (by decide +kernel) rfl, mW_at 145 (by decide +kernel) rfl, ⟨by decide, by decide, by decide +kernel⟩, by decide⟩
theorem lc_Rec_fewestLooks : Lc f_Rec_fewestLooks 1 := ⟨mW_at 1121 (by decide +kernel) rfl, mW_at 145 (by decide +kernel) rfl, ⟨by decide, by decide, by decide +kernel⟩, by decide⟩
theorem lc_Rec_vein : Lc f_Rec_vein 3 := ⟨mW_at 1130 (by decide +kernel) rfl, mW_at 145 (by decide +kernel) rfl, ⟨by decide, by decide, by decide +kernel⟩, by decide⟩
theorem lc_Rec_wings : Lc f_Rec_wings 1 := ⟨mW_at 1134 (by decide +kernel) rfl, mW_at 145 (by decide +kernel) rfl, ⟨by decide, by decide, by decide +kernel⟩, by decide⟩
theorem lc_Rec_weekday : Lc f_Rec_weekday 1 := ⟨mW_at 1157 (by decide +kernel) rfl, mW_at 145 (by decide +kernel) rfl, ⟨by decide, by decide, by decide +kernel⟩, by decide⟩
theorem lc_Rec_between : Lc f_Rec_between 2 := ⟨mW_at 1170 (by decide +kernel) rfl, mW_at 145 (by decide +kernel) rfl, ⟨by decide, by decide, by decide +kernel⟩, by decide⟩
theorem lc_Rec_leans : Lc f_Rec_leans 1 := ⟨mW_at 1175 (by decide +kernel) rfl, mW_at 145 (by decide +kernel) rfl, ⟨by decide, by decide, by decide +kernel⟩, by decide⟩
theorem lc_Rec_go : Lc f_Rec_go 1 := ⟨mW_at 1186 (by decide +kernel) rfl, mW_at 145 (by decide +kernel) rfl, ⟨by decide, by decide, by decide +kernel⟩, by decide⟩
theorem lc_Rec_leastWind : Lc f_Rec_leastWind 0 := ⟨mW_at 1190 (by decide +kernel) rfl, mW_at 145 (by decide +kernel) rfl, ⟨by decide, by decide, by decide +kernel⟩, by decide⟩
theorem lc_Rec_freeBy : Lc f_Rec_freeBy 1 := ⟨mW_at 1194 (by decide +kernel) rfl, mW_at 145 (by decide +kernel) rfl, ⟨by decide, by decide, by decide +kernel⟩, by decide⟩
theorem lc_Rec_squires : Lc f_Rec_squires 1 := ⟨mW_at 1198 (by decide +kernel) rfl, mW_at 145 (by decide +kernel) rfl, ⟨by decide, by decide, by decide +kernel⟩, by decide⟩
theorem lc_Rec_held : Lc f_Rec_held 3 := ⟨mW_at 1213 (by decide +kernel) rfl, mW_at 145 (by decide +kernel) rfl, ⟨by decide, by decide, by decide +kernel⟩, by decide⟩
theorem lc_Rec_game : Lc f_Rec_game 1 := ⟨mW_at 1221 (by decide +kernel) rfl, mW_at 145 (by decide +kernel) rfl, ⟨by decide, by decide, by decide +kernel⟩, by decide⟩
theorem lc_Rec_undo : Lc f_Rec_undo 0 := ⟨mW_at 1237 (by decide +kernel) rfl, mW_at 145 (by decide +kernel) rfl, ⟨by decide, by decide, by decide +kernel⟩, by decide⟩
theorem lc_Rec_image : Lc f_Rec_image 1 := ⟨mW_at 1241 (by decide +kernel) rfl, mW_at 145 (by decide +kernel) rfl, ⟨by decide, by decide, by decide +kernel⟩, by decide⟩
theorem lc_Rec_look : Lc f_Rec_look 1 := ⟨mW_at 1249 (by decide +kernel) rfl, mW_at 145 (by decide +kernel) rfl, ⟨by decide, by decide, by decide +kernel⟩, by decide⟩
theorem lc_Rec_remember : Lc f_Rec_remember 0 := ⟨mW_at 592 (by decide +kernel) rfl, mW_at 145 (by decide +kernel) rfl, ⟨by decide, by decide, by decide +kernel⟩, by decide⟩
theorem lc_Rec_forget : Lc f_Rec_forget 0 := ⟨mW_at 554 (by decide +kernel) rfl, mW_at 145 (by decide +kernel) rfl, ⟨by decide, by decide, by decide +kernel⟩, by decide⟩
theorem lc_Rec_tell : Lc f_Rec_tell 5 := ⟨mW_at 1026 (by decide +kernel) rfl, mW_at 145 (by decide +kernel) rfl, ⟨by decide, by decide, by decide +kernel⟩, by decide⟩
theorem lc_Rec_within : Lc f_Rec_within 3 := ⟨mW_at 565 (by decide +kernel) rfl, mW_at 145 (by decide +kernel) rfl, ⟨by decide, by decide, by decide +kernel⟩, by decide⟩
theorem lc_Rec_sum : Lc f_Rec_sum 1 := ⟨mW_at 996 (by decide +kernel) rfl, mW_at 145 (by decide +kernel) rfl, ⟨by decide, by decide, by decide +kernel⟩, by decide⟩
set_option maxRecDepth 1000000 in
theorem lc_Mod_init : Lc f_Mod_init 0 := ⟨mW_at 1254 rfl rfl, mW_at 156 (by decide +kernel) rfl, ⟨by decide, by decide, by decide +kernel⟩, by decide⟩
theorem lc_Mod_isIn : Lc f_Mod_isIn 3 := ⟨mW_at 1448 (by decide +kernel) rfl, mW_at 156 (by decide +kernel) rfl, ⟨by decide, by decide, by decide +kernel⟩, by decide⟩
theorem lc_Mod_within : Lc f_Mod_within 3 := ⟨mW_at 1464 (by decide +kernel) rfl, mW_at 156 (by decide +kernel) rfl, ⟨by decide, by decide, by decide +kernel⟩, by decide⟩
theorem lc_Mod_greater : Lc f_Mod_greater 2 := ⟨mW_at 1722 (by decide +kernel) rfl, mW_at 156 (by decide +kernel) rfl, ⟨by decide, by decide, by decide +kernel⟩, by decide⟩
theorem lc_Mod_lesser : Lc f_Mod_lesser 2 := ⟨mW_at 1738 (by decide +kernel) rfl, mW_at 156 (by decide +kernel) rfl, ⟨by decide, by decide, by decide +kernel⟩, by decide⟩
theorem lc_Mod_apart : Lc f_Mod_apart 2 := ⟨mW_at 1680 (by decide +kernel) rfl, mW_at 156 (by decide +kernel) rfl, ⟨by decide, by decide, by decide +kernel⟩, by decide⟩
theorem lc_Mod_added : Lc f_Mod_added 2 := ⟨mW_at 1810 (by decide +kernel) rfl, mW_at 156 (by decide +kernel) rfl, ⟨by decide, by decide, by decide +kernel⟩, by decide⟩
theorem lc_Mod_onesOf : Lc f_Mod_onesOf 1 := ⟨mW_at 1855 (by decide +kernel) rfl, mW_at 156 (by decide +kernel) rfl, ⟨by decide, by decide, by decide +kernel⟩, by decide⟩
theorem lc_Mod_has : Lc f_Mod_has 2 := ⟨mW_at 1835 (by decide +kernel) rfl, mW_at 156 (by decide +kernel) rfl, ⟨by decide, by decide, by decide +kernel⟩, by decide⟩
theorem lc_Mod_keepsAhead : Lc f_Mod_keepsAhead 0 := ⟨mW_at 1632 (by decide +kernel) rfl, mW_at 156 (by decide +kernel) rfl, ⟨by decide, by decide, by decide +kernel⟩, by decide⟩
theorem lc_Mod_undo : Lc f_Mod_undo 0 := ⟨mW_at 1428 (by decide +kernel) rfl, mW_at 156 (by decide +kernel) rfl, ⟨by decide, by decide, by decide +kernel⟩, by decide⟩
theorem lc_Mod_thinks : Lc f_Mod_thinks 0 := ⟨mW_at 1758 (by decide +kernel) rfl, mW_at 156 (by decide +kernel) rfl, ⟨by decide, by decide, by decide +kernel⟩, by decide⟩
theorem lc_Mod_endsThought : Lc f_Mod_endsThought 0 := ⟨mW_at 1770 (by decide +kernel) rfl, mW_at 156 (by decide +kernel) rfl, ⟨by decide, by decide, by decide +kernel⟩, by decide⟩
theorem lc_Mod_state : Lc f_Mod_state 1 := ⟨mW_at 1432 (by decide +kernel) rfl, mW_at 156 (by decide +kernel) rfl, ⟨by decide, by decide, by decide +kernel⟩, by decide⟩
theorem lc_Mod_draw : Lc f_Mod_draw 1 := ⟨mW_at 1704 (by decide +kernel) rfl, mW_at 156 (by decide +kernel) rfl, ⟨by decide, by decide, by decide +kernel⟩, by decide⟩
theorem lc_Mod_isInch : Lc f_Mod_isInch 1 := ⟨mW_at 1444 (by decide +kernel) rfl, mW_at 156 (by decide +kernel) rfl, ⟨by decide, by decide, by decide +kernel⟩, by decide⟩
theorem lc_Mod_glue : Lc f_Mod_glue 1 := ⟨mW_at 1664 (by decide +kernel) rfl, mW_at 156 (by decide +kernel) rfl, ⟨by decide, by decide, by decide +kernel⟩, by decide⟩
theorem lc_Mod_hasGlue : Lc f_Mod_hasGlue 2 := ⟨mW_at 1460 (by decide +kernel) rfl, mW_at 156 (by decide +kernel) rfl, ⟨by decide, by decide, by decide +kernel⟩, by decide⟩
theorem lc_Mod_thingAt : Lc f_Mod_thingAt 1 := ⟨mW_at 1456 (by decide +kernel) rfl, mW_at 156 (by decide +kernel) rfl, ⟨by decide, by decide, by decide +kernel⟩, by decide⟩
theorem lc_Mod_thingOf : Lc f_Mod_thingOf 1 := ⟨mW_at 1452 (by decide +kernel) rfl, mW_at 156 (by decide +kernel) rfl, ⟨by decide, by decide, by decide +kernel⟩, by decide⟩
theorem lc_Mod_stuckAt : Lc f_Mod_stuckAt 1 := ⟨mW_at 1628 (by decide +kernel) rfl, mW_at 156 (by decide +kernel) rfl, ⟨by decide, by decide, by decide +kernel⟩, by decide⟩
theorem lc_Mod_isTaken : Lc f_Mod_isTaken 1 := ⟨mW_at 1624 (by decide +kernel) rfl, mW_at 156 (by decide +kernel) rfl, ⟨by decide, by decide, by decide +kernel⟩, by decide⟩
theorem lc_Mod_legsOfAll : Lc f_Mod_legsOfAll 0 := ⟨mW_at 1762 (by decide +kernel) rfl, mW_at 156 (by decide +kernel) rfl, ⟨by decide, by decide, by decide +kernel⟩, by decide⟩
theorem lc_Mod_canSet : Lc f_Mod_canSet 3 := ⟨mW_at 1440 (by decide +kernel) rfl, mW_at 156 (by decide +kernel) rfl, ⟨by decide, by decide, by decide +kernel⟩, by decide⟩
theorem lc_Mod_set : Lc f_Mod_set 3 := ⟨mW_at 1436 (by decide +kernel) rfl, mW_at 156 (by decide +kernel) rfl, ⟨by decide, by decide, by decide +kernel⟩, by decide⟩
theorem lc_Mod_types : Lc f_Mod_types 1 := ⟨mW_at 1472 (by decide +kernel) rfl, mW_at 156 (by decide +kernel) rfl, ⟨by decide, by decide, by decide +kernel⟩, by decide⟩
theorem lc_Mod_feed : Lc f_Mod_feed 5 := ⟨mW_at 1468 (by decide +kernel) rfl, mW_at 156 (by decide +kernel) rfl, ⟨by decide, by decide, by decide +kernel⟩, by decide⟩
theorem lc_Mod_end : Lc f_Mod_end 1 := ⟨mW_at 1476 (by decide +kernel) rfl, mW_at 156 (by decide +kernel) rfl, ⟨by decide, by decide, by decide +kernel⟩, by decide⟩
theorem lc_Mod_raw : Lc f_Mod_raw 1 := ⟨mW_at 1492 (by decide +kernel) rfl, mW_at 156 (by decide +kernel) rfl, ⟨by decide, by decide, by decide +kernel⟩, by decide⟩
theorem lc_Mod_isLetter : Lc f_Mod_isLetter 1 := ⟨mW_at 1496 (by decide +kernel) rfl, mW_at 156 (by decide +kernel) rfl, ⟨by decide, by decide, by decide +kernel⟩, by decide⟩
theorem lc_Mod_isDigit : Lc f_Mod_isDigit 1 := ⟨mW_at 1504 (by decide +kernel) rfl, mW_at 156 (by decide +kernel) rfl, ⟨by decide, by decide, by decide +kernel⟩, by decide⟩
theorem lc_Mod_isMarkSign : Lc f_Mod_isMarkSign 1 := ⟨mW_at 1508 (by decide +kernel) rfl, mW_at 156 (by decide +kernel) rfl, ⟨by decide, by decide, by decide +kernel⟩, by decide⟩
theorem lc_Mod_wordAt : Lc f_Mod_wordAt 2 := ⟨mW_at 1500 (by decide +kernel) rfl, mW_at 156 (by decide +kernel) rfl, ⟨by decide, by decide, by decide +kernel⟩, by decide⟩
theorem lc_Mod_reads : Lc f_Mod_reads 0 := ⟨mW_at 1488 (by decide +kernel) rfl, mW_at 156 (by decide +kernel) rfl, ⟨by decide, by decide, by decide +kernel⟩, by decide⟩
theorem lc_Mod_errs : Lc f_Mod_errs 1 := ⟨mW_at 1520 (by decide +kernel) rfl, mW_at 156 (by decide +kernel) rfl, ⟨by decide, by decide, by decide +kernel⟩, by decide⟩
theorem lc_Mod_isWord : Lc f_Mod_isWord 1 := ⟨mW_at 1516 (by decide +kernel) rfl, mW_at 156 (by decide +kernel) rfl, ⟨by decide, by decide, by decide +kernel⟩, by decide⟩
theorem lc_Mod_isSign : Lc f_Mod_isSign 1 := ⟨mW_at 1540 (by decide +kernel) rfl, mW_at 156 (by decide +kernel) rfl, ⟨by decide, by decide, by decide +kernel⟩, by decide⟩
theorem lc_Mod_emits : Lc f_Mod_emits 2 := ⟨mW_at 1588 (by decide +kernel) rfl, mW_at 156 (by decide +kernel) rfl, ⟨by decide, by decide, by decide +kernel⟩, by decide⟩
theorem lc_Mod_canAsk : Lc f_Mod_canAsk 1 := ⟨mW_at 1584 (by decide +kernel) rfl, mW_at 156 (by decide +kernel) rfl, ⟨by decide, by decide, by decide +kernel⟩, by decide⟩
theorem lc_Mod_readUnit : Lc f_Mod_readUnit 0 := ⟨mW_at 1580 (by decide +kernel) rfl, mW_at 156 (by decide +kernel) rfl, ⟨by decide, by decide, by decide +kernel⟩, by decide⟩
theorem lc_Mod_readProduct : Lc f_Mod_readProduct 0 := ⟨mW_at 1576 (by decide +kernel) rfl, mW_at 156 (by decide +kernel) rfl, ⟨by decide, by decide, by decide +kernel⟩, by decide⟩
theorem lc_Mod_readSum : Lc f_Mod_readSum 0 := ⟨mW_at 1572 (by decide +kernel) rfl, mW_at 156 (by decide +kernel) rfl, ⟨by decide, by decide, by decide +kernel⟩, by decide⟩
theorem lc_Mod_readCompared : Lc f_Mod_readCompared 0 := ⟨mW_at 1600 (by decide +kernel) rfl, mW_at 156 (by decide +kernel) rfl, ⟨by decide, by decide, by decide +kernel⟩, by decide⟩
theorem lc_Mod_waits : Lc f_Mod_waits 1 := ⟨mW_at 1596 (by decide +kernel) rfl, mW_at 156 (by decide +kernel) rfl, ⟨by decide, by decide, by decide +kernel⟩, by decide⟩
theorem lc_Mod_settles : Lc f_Mod_settles 1 := ⟨mW_at 1604 (by decide +kernel) rfl, mW_at 156 (by decide +kernel) rfl, ⟨by decide, by decide, by decide +kernel⟩, by decide⟩
theorem lc_Mod_readAny : Lc f_Mod_readAny 0 := ⟨mW_at 1592 (by decide +kernel) rfl, mW_at 156 (by decide +kernel) rfl, ⟨by decide, by decide, by decide +kernel⟩, by decide⟩
theorem lc_Mod_isLineWord : Lc f_Mod_isLineWord 0 := ⟨mW_at 1568 (by decide +kernel) rfl, mW_at 156 (by decide +kernel) rfl, ⟨by decide, by decide, by decide +kernel⟩, by decide⟩
theorem lc_Mod_readLaw : Lc f_Mod_readLaw 0 := ⟨mW_at 1564 (by decide +kernel) rfl, mW_at 156 (by decide +kernel) rfl, ⟨by decide, by decide, by decide +kernel⟩, by decide⟩
theorem lc_Mod_takesLaw : Lc f_Mod_takesLaw 1 := ⟨mW_at 1608 (by decide +kernel) rfl, mW_at 156 (by decide +kernel) rfl, ⟨by decide, by decide, by decide +kernel⟩, by decide⟩
theorem lc_Mod_readNumber : Lc f_Mod_readNumber 2 := ⟨mW_at 1532 (by decide +kernel) rfl, mW_at 156 (by decide +kernel) rfl, ⟨by decide, by decide, by decide +kernel⟩, by decide⟩
theorem lc_Mod_readMark : Lc f_Mod_readMark 1 := ⟨mW_at 1536 (by decide +kernel) rfl, mW_at 156 (by decide +kernel) rfl, ⟨by decide, by decide, by decide +kernel⟩, by decide⟩
theorem lc_Mod_readTold : Lc f_Mod_readTold 3 := ⟨mW_at 1528 (by decide +kernel) rfl, mW_at 156 (by decide +kernel) rfl, ⟨by decide, by decide, by decide +kernel⟩, by decide⟩
theorem lc_Mod_readFlightLine : Lc f_Mod_readFlightLine 1 := ⟨mW_at 1524 (by decide +kernel) rfl, mW_at 156 (by decide +kernel) rfl, ⟨by decide, by decide, by decide +kernel⟩, by decide⟩
theorem lc_Mod_readFlight : Lc f_Mod_readFlight 0 := ⟨mW_at 1512 (by decide +kernel) rfl, mW_at 156 (by decide +kernel) rfl, ⟨by decide, by decide, by decide +kernel⟩, by decide⟩
theorem lc_Mod_kindOfDeed : Lc f_Mod_kindOfDeed 0 := ⟨mW_at 1552 (by decide +kernel) rfl, mW_at 156 (by decide +kernel) rfl, ⟨by decide, by decide, by decide +kernel⟩, by decide⟩
theorem lc_Mod_readDeed : Lc f_Mod_readDeed 1 := ⟨mW_at 1548 (by decide +kernel) rfl, mW_at 156 (by decide +kernel) rfl, ⟨by decide, by decide, by decide +kernel⟩, by decide⟩
theorem lc_Mod_readSky : Lc f_Mod_readSky 0 := ⟨mW_at 1544 (by decide +kernel) rfl, mW_at 156 (by decide +kernel) rfl, ⟨by decide, by decide, by decide +kernel⟩, by decide⟩
theorem lc_Mod_readStrip : Lc f_Mod_readStrip 0 := ⟨mW_at 1560 (by decide +kernel) rfl, mW_at 156 (by decide +kernel) rfl, ⟨by decide, by decide, by decide +kernel⟩, by decide⟩
theorem lc_Mod_readStrips : Lc f_Mod_readStrips 0 := ⟨mW_at 1556 (by decide +kernel) rfl, mW_at 156 (by decide +kernel) rfl, ⟨by decide, by decide, by decide +kernel⟩, by decide⟩
theorem lc_Mod_readsText : Lc f_Mod_readsText 1 := ⟨mW_at 1484 (by decide +kernel) rfl, mW_at 156 (by decide +kernel) rfl, ⟨by decide, by decide, by decide +kernel⟩, by decide⟩
theorem lc_Mod_takesOther : Lc f_Mod_takesOther 2 := ⟨mW_at 1612 (by decide +kernel) rfl, mW_at 156 (by decide +kernel) rfl, ⟨by decide, by decide, by decide +kernel⟩, by decide⟩
theorem lc_Mod_text : Lc f_Mod_text 1 := ⟨mW_at 1480 (by decide +kernel) rfl, mW_at 156 (by decide +kernel) rfl, ⟨by decide, by decide, by decide +kernel⟩, by decide⟩
theorem lc_Mod_fault : Lc f_Mod_fault 1 := ⟨mW_at 1616 (by decide +kernel) rfl, mW_at 156 (by decide +kernel) rfl, ⟨by decide, by decide, by decide +kernel⟩, by decide⟩
theorem lc_Mod_twoOf : Lc f_Mod_twoOf 3 := ⟨mW_at 1700 (by decide +kernel) rfl, mW_at 156 (by decide +kernel) rfl, ⟨by decide, by decide, by decide +kernel⟩, by decide⟩
theorem lc_Mod_runs : Lc f_Mod_runs 3 := ⟨mW_at 1696 (by decide +kernel) rfl, mW_at 156 (by decide +kernel) rfl, ⟨by decide, by decide, by decide +kernel⟩, by decide⟩
theorem lc_Mod_lineOf : Lc f_Mod_lineOf 1 := ⟨mW_at 1692 (by decide +kernel) rfl, mW_at 156 (by decide +kernel) rfl, ⟨by decide, by decide, by decide +kernel⟩, by decide⟩
theorem lc_Mod_nearTo : Lc f_Mod_nearTo 1 := ⟨mW_at 1676 (by decide +kernel) rfl, mW_at 156 (by decide +kernel) rfl, ⟨by decide, by decide, by decide +kernel⟩, by decide⟩
theorem lc_Mod_asks : Lc f_Mod_asks 6 := ⟨mW_at 1672 (by decide +kernel) rfl, mW_at 156 (by decide +kernel) rfl, ⟨by decide, by decide, by decide +kernel⟩, by decide⟩
theorem lc_Mod_asksOf : Lc f_Mod_asksOf 1 := ⟨mW_at 1718 (by decide +kernel) rfl, mW_at 156 (by decide +kernel) rfl, ⟨by decide, by decide, by decide +kernel⟩, by decide⟩
theorem lc_Mod_lawTells : Lc f_Mod_lawTells 3 := ⟨mW_at 1688 (by decide +kernel) rfl, mW_at 156 (by decide +kernel) rfl, ⟨by decide, by decide, by decide +kernel⟩, by decide⟩
theorem lc_Mod_sticksNow : Lc f_Mod_sticksNow 0 := ⟨mW_at 1684 (by decide +kernel) rfl, mW_at 156 (by decide +kernel) rfl, ⟨by decide, by decide, by decide +kernel⟩, by decide⟩
theorem lc_Mod_freesOf : Lc f_Mod_freesOf 1 := ⟨mW_at 1714 (by decide +kernel) rfl, mW_at 156 (by decide +kernel) rfl, ⟨by decide, by decide, by decide +kernel⟩, by decide⟩
theorem lc_Mod_slidesOf : Lc f_Mod_slidesOf 1 := ⟨mW_at 1730 (by decide +kernel) rfl, mW_at 156 (by decide +kernel) rfl, ⟨by decide, by decide, by decide +kernel⟩, by decide⟩
theorem lc_Mod_notes : Lc f_Mod_notes 3 := ⟨mW_at 1640 (by decide +kernel) rfl, mW_at 156 (by decide +kernel) rfl, ⟨by decide, by decide, by decide +kernel⟩, by decide⟩
theorem lc_Mod_isStuck : Lc f_Mod_isStuck 4 := ⟨mW_at 1636 (by decide +kernel) rfl, mW_at 156 (by decide +kernel) rfl, ⟨by decide, by decide, by decide +kernel⟩, by decide⟩
theorem lc_Mod_isGone : Lc f_Mod_isGone 1 := ⟨mW_at 1648 (by decide +kernel) rfl, mW_at 156 (by decide +kernel) rfl, ⟨by decide, by decide, by decide +kernel⟩, by decide⟩
theorem lc_Mod_comesUp : Lc f_Mod_comesUp 4 := ⟨mW_at 1668 (by decide +kernel) rfl, mW_at 156 (by decide +kernel) rfl, ⟨by decide, by decide, by decide +kernel⟩, by decide⟩
theorem lc_Mod_put : Lc f_Mod_put 4 := ⟨mW_at 1620 (by decide +kernel) rfl, mW_at 156 (by decide +kernel) rfl, ⟨by decide, by decide, by decide +kernel⟩, by decide⟩
theorem lc_Mod_act : Lc f_Mod_act 3 := ⟨mW_at 1644 (by decide +kernel) rfl, mW_at 156 (by decide +kernel) rfl, ⟨by decide, by decide, by decide +kernel⟩, by decide⟩
theorem lc_Mod_does : Lc f_Mod_does 1 := ⟨mW_at 1660 (by decide +kernel) rfl, mW_at 156 (by decide +kernel) rfl, ⟨by decide, by decide, by decide +kernel⟩, by decide⟩
theorem lc_Mod_isFreed : Lc f_Mod_isFreed 1 := ⟨mW_at 1710 (by decide +kernel) rfl, mW_at 156 (by decide +kernel) rfl, ⟨by decide, by decide, by decide +kernel⟩, by decide⟩
theorem lc_Mod_fallsOff : Lc f_Mod_fallsOff 1 := ⟨mW_at 1726 (by decide +kernel) rfl, mW_at 156 (by decide +kernel) rfl, ⟨by decide, by decide, by decide +kernel⟩, by decide⟩
theorem lc_Mod_evening : Lc f_Mod_evening 0 := ⟨mW_at 1734 (by decide +kernel) rfl, mW_at 156 (by decide +kernel) rfl, ⟨by decide, by decide, by decide +kernel⟩, by decide⟩
theorem lc_Mod_goesBy : Lc f_Mod_goesBy 0 := ⟨mW_at 1656 (by decide +kernel) rfl, mW_at 156 (by decide +kernel) rfl, ⟨by decide, by decide, by decide +kernel⟩, by decide⟩
theorem lc_Mod_days : Lc f_Mod_days 1 := ⟨mW_at 1652 (by decide +kernel) rfl, mW_at 156 (by decide +kernel) rfl, ⟨by decide, by decide, by decide +kernel⟩, by decide⟩
theorem lc_Mod_inch : Lc f_Mod_inch 2 := ⟨mW_at 1742 (by decide +kernel) rfl, mW_at 156 (by decide +kernel) rfl, ⟨by decide, by decide, by decide +kernel⟩, by decide⟩
theorem lc_Mod_of : Lc f_Mod_of 2 := ⟨mW_at 1746 (by decide +kernel) rfl, mW_at 156 (by decide +kernel) rfl, ⟨by decide, by decide, by decide +kernel⟩, by decide⟩
theorem lc_Mod_book : Lc f_Mod_book 2 := ⟨mW_at 1750 (by decide +kernel) rfl, mW_at 156 (by decide +kernel) rfl, ⟨by decide, by decide, by decide +kernel⟩, by decide⟩
theorem lc_Mod_glueOfAll : Lc f_Mod_glueOfAll 0 := ⟨mW_at 1766 (by decide +kernel) rfl, mW_at 156 (by decide +kernel) rfl, ⟨by decide, by decide, by decide +kernel⟩, by decide⟩
theorem lc_Mod_goes : Lc f_Mod_goes 2 := ⟨mW_at 1754 (by decide +kernel) rfl, mW_at 156 (by decide +kernel) rfl, ⟨by decide, by decide, by decide +kernel⟩, by decide⟩
theorem lc_Mod_nearest : Lc f_Mod_nearest 1 := ⟨mW_at 1774 (by decide +kernel) rfl, mW_at 156 (by decide +kernel) rfl, ⟨by decide, by decide, by decide +kernel⟩, by decide⟩
theorem lc_Mod_areNear : Lc f_Mod_areNear 2 := ⟨mW_at 1786 (by decide +kernel) rfl, mW_at 156 (by decide +kernel) rfl, ⟨by decide, by decide, by decide +kernel⟩, by decide⟩
theorem lc_Mod_findsParts : Lc f_Mod_findsParts 0 := ⟨mW_at 1782 (by decide +kernel) rfl, mW_at 156 (by decide +kernel) rfl, ⟨by decide, by decide, by decide +kernel⟩, by decide⟩
theorem lc_Mod_partOf : Lc f_Mod_partOf 1 := ⟨mW_at 1790 (by decide +kernel) rfl, mW_at 156 (by decide +kernel) rfl, ⟨by decide, by decide, by decide +kernel⟩, by decide⟩
theorem lc_Mod_heaps : Lc f_Mod_heaps 1 := ⟨mW_at 1778 (by decide +kernel) rfl, mW_at 156 (by decide +kernel) rfl, ⟨by decide, by decide, by decide +kernel⟩, by decide⟩
theorem lc_Mod_kind : Lc f_Mod_kind 1 := ⟨mW_at 1794 (by decide +kernel) rfl, mW_at 156 (by decide +kernel) rfl, ⟨by decide, by decide, by decide +kernel⟩, by decide⟩
theorem lc_Mod_sayingWays : Lc f_Mod_sayingWays 0 := ⟨mW_at 1806 (by decide +kernel) rfl, mW_at 156 (by decide +kernel) rfl, ⟨by decide, by decide, by decide +kernel⟩, by decide⟩
theorem lc_Mod_doesSay : Lc f_Mod_doesSay 0 := ⟨mW_at 1802 (by decide +kernel) rfl, mW_at 156 (by decide +kernel) rfl, ⟨by decide, by decide, by decide +kernel⟩, by decide⟩
theorem lc_Mod_longest : Lc f_Mod_longest 0 := ⟨mW_at 1815 (by decide +kernel) rfl, mW_at 156 (by decide +kernel) rfl, ⟨by decide, by decide, by decide +kernel⟩, by decide⟩
theorem lc_Mod_says : Lc f_Mod_says 1 := ⟨mW_at 1798 (by decide +kernel) rfl, mW_at 156 (by decide +kernel) rfl, ⟨by decide, by decide, by decide +kernel⟩, by decide⟩
theorem lc_Mod_pass : Lc f_Mod_pass 2 := ⟨mW_at 1819 (by decide +kernel) rfl, mW_at 156 (by decide +kernel) rfl, ⟨by decide, by decide, by decide +kernel⟩, by decide⟩
theorem lc_Mod_words : Lc f_Mod_words 2 := ⟨mW_at 1823 (by decide +kernel) rfl, mW_at 156 (by decide +kernel) rfl, ⟨by decide, by decide, by decide +kernel⟩, by decide⟩
theorem lc_Mod_wordsOf : Lc f_Mod_wordsOf 2 := ⟨mW_at 1831 (by decide +kernel) rfl, mW_at 156 (by decide +kernel) rfl, ⟨by decide, by decide, by decide +kernel⟩, by decide⟩
theorem lc_Mod_legs : Lc f_Mod_legs 1 := ⟨mW_at 1827 (by decide +kernel) rfl, mW_at 156 (by decide +kernel) rfl, ⟨by decide, by decide, by decide +kernel⟩, by decide⟩
theorem lc_Mod_aheadOf : Lc f_Mod_aheadOf 1 := ⟨mW_at 1847 (by decide +kernel) rfl, mW_at 156 (by decide +kernel) rfl, ⟨by decide, by decide, by decide +kernel⟩, by decide⟩
theorem lc_Mod_roundSet : Lc f_Mod_roundSet 0 := ⟨mW_at 1851 (by decide +kernel) rfl, mW_at 156 (by decide +kernel) rfl, ⟨by decide, by decide, by decide +kernel⟩, by decide⟩
theorem lc_Mod_underOf : Lc f_Mod_underOf 1 := ⟨mW_at 1843 (by decide +kernel) rfl, mW_at 156 (by decide +kernel) rfl, ⟨by decide, by decide, by decide +kernel⟩, by decide⟩
theorem lc_Mod_order : Lc f_Mod_order 1 := ⟨mW_at 1839 (by decide +kernel) rfl, mW_at 156 (by decide +kernel) rfl, ⟨by decide, by decide, by decide +kernel⟩, by decide⟩
theorem lc_Mod_sight : Lc f_Mod_sight 1 := ⟨mW_at 1859 (by decide +kernel) rfl, mW_at 156 (by decide +kernel) rfl, ⟨by decide, by decide, by decide +kernel⟩, by decide⟩
theorem lc_Mod_seenBy : Lc f_Mod_seenBy 1 := ⟨mW_at 1867 (by decide +kernel) rfl, mW_at 156 (by decide +kernel) rfl, ⟨by decide, by decide, by decide +kernel⟩, by decide⟩
theorem lc_Mod_cover : Lc f_Mod_cover 1 := ⟨mW_at 1863 (by decide +kernel) rfl, mW_at 156 (by decide +kernel) rfl, ⟨by decide, by decide, by decide +kernel⟩, by decide⟩
theorem lc_Mod_vein : Lc f_Mod_vein 3 := ⟨mW_at 1871 (by decide +kernel) rfl, mW_at 156 (by decide +kernel) rfl, ⟨by decide, by decide, by decide +kernel⟩, by decide⟩
theorem lc_Mod_isAlike : Lc f_Mod_isAlike 0 := ⟨mW_at 1879 (by decide +kernel) rfl, mW_at 156 (by decide +kernel) rfl, ⟨by decide, by decide, by decide +kernel⟩, by decide⟩
theorem lc_Mod_goesToNextNumbering : Lc f_Mod_goesToNextNumbering 0 := ⟨mW_at 1883 (by decide +kernel) rfl, mW_at 156 (by decide +kernel) rfl, ⟨by decide, by decide, by decide +kernel⟩, by decide⟩
theorem lc_Mod_wings : Lc f_Mod_wings 1 := ⟨mW_at 1875 (by decide +kernel) rfl, mW_at 156 (by decide +kernel) rfl, ⟨by decide, by decide, by decide +kernel⟩, by decide⟩
theorem lc_Mod_isLeap : Lc f_Mod_isLeap 1 := ⟨mW_at 1899 (by decide +kernel) rfl, mW_at 156 (by decide +kernel) rfl, ⟨by decide, by decide, by decide +kernel⟩, by decide⟩
theorem lc_Mod_daysIn : Lc f_Mod_daysIn 2 := ⟨mW_at 1895 (by decide +kernel) rfl, mW_at 156 (by decide +kernel) rfl, ⟨by decide, by decide, by decide +kernel⟩, by decide⟩
theorem lc_Mod_dayOf : Lc f_Mod_dayOf 1 := ⟨mW_at 1891 (by decide +kernel) rfl, mW_at 156 (by decide +kernel) rfl, ⟨by decide, by decide, by decide +kernel⟩, by decide⟩
theorem lc_Mod_weekday : Lc f_Mod_weekday 1 := ⟨mW_at 1887 (by decide +kernel) rfl, mW_at 156 (by decide +kernel) rfl, ⟨by decide, by decide, by decide +kernel⟩, by decide⟩
theorem lc_Mod_between : Lc f_Mod_between 2 := ⟨mW_at 1903 (by decide +kernel) rfl, mW_at 156 (by decide +kernel) rfl, ⟨by decide, by decide, by decide +kernel⟩, by decide⟩
theorem lc_Mod_leans : Lc f_Mod_leans 1 := ⟨mW_at 1908 (by decide +kernel) rfl, mW_at 156 (by decide +kernel) rfl, ⟨by decide, by decide, by decide +kernel⟩, by decide⟩
theorem lc_Mod_goingBy : Lc f_Mod_goingBy 1 := ⟨mW_at 1916 (by decide +kernel) rfl, mW_at 156 (by decide +kernel) rfl, ⟨by decide, by decide, by decide +kernel⟩, by decide⟩
theorem lc_Mod_go : Lc f_Mod_go 1 := ⟨mW_at 1912 (by decide +kernel) rfl, mW_at 156 (by decide +kernel) rfl, ⟨by decide, by decide, by decide +kernel⟩, by decide⟩
theorem lc_Mod_squires : Lc f_Mod_squires 1 := ⟨mW_at 1920 (by decide +kernel) rfl, mW_at 156 (by decide +kernel) rfl, ⟨by decide, by decide, by decide +kernel⟩, by decide⟩
theorem lc_Mod_held : Lc f_Mod_held 3 := ⟨mW_at 1925 (by decide +kernel) rfl, mW_at 156 (by decide +kernel) rfl, ⟨by decide, by decide, by decide +kernel⟩, by decide⟩
theorem lc_Mod_nimber : Lc f_Mod_nimber 1 := ⟨mW_at 1933 (by decide +kernel) rfl, mW_at 156 (by decide +kernel) rfl, ⟨by decide, by decide, by decide +kernel⟩, by decide⟩
theorem lc_Mod_game : Lc f_Mod_game 1 := ⟨mW_at 1929 (by decide +kernel) rfl, mW_at 156 (by decide +kernel) rfl, ⟨by decide, by decide, by decide +kernel⟩, by decide⟩
theorem lc_Mod_keeps : Lc f_Mod_keeps 1 := ⟨mW_at 1941 (by decide +kernel) rfl, mW_at 156 (by decide +kernel) rfl, ⟨by decide, by decide, by decide +kernel⟩, by decide⟩
theorem lc_Mod_keepsLaw : Lc f_Mod_keepsLaw 0 := ⟨mW_at 1949 (by decide +kernel) rfl, mW_at 156 (by decide +kernel) rfl, ⟨by decide, by decide, by decide +kernel⟩, by decide⟩
theorem lc_Mod_keepsTold : Lc f_Mod_keepsTold 0 := ⟨mW_at 1945 (by decide +kernel) rfl, mW_at 156 (by decide +kernel) rfl, ⟨by decide, by decide, by decide +kernel⟩, by decide⟩
theorem lc_Mod_image : Lc f_Mod_image 1 := ⟨mW_at 1937 (by decide +kernel) rfl, mW_at 156 (by decide +kernel) rfl, ⟨by decide, by decide, by decide +kernel⟩, by decide⟩
theorem lc_Mod_look : Lc f_Mod_look 1 := ⟨mW_at 1953 (by decide +kernel) rfl, mW_at 156 (by decide +kernel) rfl, ⟨by decide, by decide, by decide +kernel⟩, by decide⟩
theorem lc_Integer_bitCount : Lc f_Integer_bitCount 1 := ⟨mW_at 1093 (by decide +kernel) rfl, mW_at 164 (by decide +kernel) rfl, ⟨by decide, by decide, by decide +kernel⟩, by decide⟩
theorem lc_Math_abs : Lc f_Math_abs 1 := ⟨mW_at 1209 (by decide +kernel) rfl, mW_at 158 (by decide +kernel) rfl, ⟨by decide, by decide, by decide +kernel⟩, by decide⟩
theorem lc_Math_max : Lc f_Math_max 2 := ⟨mW_at 668 (by decide +kernel) rfl, mW_at 158 (by decide +kernel) rfl, ⟨by decide, by decide, by decide +kernel⟩, by decide⟩
theorem lc_Math_min : Lc f_Math_min 2 := ⟨mW_at 610 (by decide +kernel) rfl, mW_at 158 (by decide +kernel) rfl, ⟨by decide, by decide, by decide +kernel⟩, by decide⟩
theorem lc_String_length : Lc f_String_length 0 := ⟨mW_at 769 (by decide +kernel) rfl, mW_at 159 (by decide +kernel) rfl, ⟨by decide, by decide, by decide +kernel⟩, by decide⟩
theorem lc_String_charAt : Lc f_String_charAt 1 := ⟨mW_at 779 (by decide +kernel) rfl, mW_at 159 (by decide +kernel) rfl, ⟨by decide, by decide, by decide +kernel⟩, by decide⟩
theorem lc_String_indexOf_0f7a4 : Lc f_String_indexOf_0f7a4 1 := ⟨mW_at 829 (by decide +kernel) rfl, mW_at 159 (by decide +kernel) rfl, ⟨by decide, by decide, by decide +kernel⟩, by decide⟩
theorem lc_String_indexOf_7cf53 : Lc f_String_indexOf_7cf53 2 := ⟨mW_at 833 (by decide +kernel) rfl, mW_at 159 (by decide +kernel) rfl, ⟨by decide, by decide, by decide +kernel⟩, by decide⟩
theorem lc_String_coder : Lc f_String_coder 0 := ⟨mW_at 773 (by decide +kernel) rfl, mW_at 159 (by decide +kernel) rfl, ⟨by decide, by decide, by decide +kernel⟩, by decide⟩
theorem lc_String_isLatin1 : Lc f_String_isLatin1 0 := ⟨mW_at 783 (by decide +kernel) rfl, mW_at 159 (by decide +kernel) rfl, ⟨by decide, by decide, by decide +kernel⟩, by decide⟩
theorem lc_String_checkIndex : Lc f_String_checkIndex 2 := ⟨mW_at 789 (by decide +kernel) rfl, mW_at 159 (by decide +kernel) rfl, ⟨by decide, by decide, by decide +kernel⟩, by decide⟩
theorem lc_String_checkBoundsBeginEnd : Lc f_String_checkBoundsBeginEnd 3 := ⟨mW_at 860 (by decide +kernel) rfl, mW_at 159 (by decide +kernel) rfl, ⟨by decide, by decide, by decide +kernel⟩, by decide⟩
theorem lc_StringLatin1_charAt : Lc f_StringLatin1_charAt 2 := ⟨mW_at 786 (by decide +kernel) rfl, mW_at 160 (by decide +kernel) rfl, ⟨by decide, by decide, by decide +kernel⟩, by decide⟩
theorem lc_StringLatin1_canEncode : Lc f_StringLatin1_canEncode 1 := ⟨mW_at 840 (by decide +kernel) rfl, mW_at 160 (by decide +kernel) rfl, ⟨by decide, by decide, by decide +kernel⟩, by decide⟩
theorem lc_StringLatin1_indexOf : Lc f_StringLatin1_indexOf 4 := ⟨mW_at 837 (by decide +kernel) rfl, mW_at 160 (by decide +kernel) rfl, ⟨by decide, by decide, by decide +kernel⟩, by decide⟩
theorem lc_StringLatin1_indexOfChar : Lc f_StringLatin1_indexOfChar 4 := ⟨mW_at 845 (by decide +kernel) rfl, mW_at 160 (by decide +kernel) rfl, ⟨by decide, by decide, by decide +kernel⟩, by decide⟩
theorem lc_Arrays_fill : Lc f_Arrays_fill 2 := ⟨mW_at 211 (by decide +kernel) rfl, mW_at 148 (by decide +kernel) rfl, ⟨by decide, by decide, by decide +kernel⟩, by decide⟩
theorem lc_Preconditions_checkIndex : Lc f_Preconditions_checkIndex 3 := ⟨mW_at 794 (by decide +kernel) rfl, mW_at 161 (by decide +kernel) rfl, ⟨by decide, by decide, by decide +kernel⟩, by decide⟩
theorem lc_Preconditions_checkFromToIndex : Lc f_Preconditions_checkFromToIndex 4 := ⟨mW_at 863 (by decide +kernel) rfl, mW_at 161 (by decide +kernel) rfl, ⟨by decide, by decide, by decide +kernel⟩, by decide⟩
theorem li_law_9 : Li "StuckRecordLaw" 9 f_Rec_init := ⟨mW_at 168 (by decide +kernel) rfl, mW_at 169 (by decide +kernel) rfl, rfl, rfl⟩
theorem li_Rec_11 : Li "StuckRecord" 11 f_World_init := ⟨mW_at 176 (by decide +kernel) rfl, mW_at 177 (by decide +kernel) rfl, rfl, rfl⟩
theorem li_World_29_0 : Li "StuckRecord$World" 29 (f_Rows_init 0) := ⟨mW_at 184 (by decide +kernel) rfl, mW_at 185 (by decide +kernel) rfl, rfl, rfl⟩
theorem li_World_29 (ms : Nat) : Li "StuckRecord$World" 29 (f_Rows_init ms) := li_World_29_0
theorem ls_World_61 : Lst "StuckRecord$World" 61 f_Arrays_fill := ⟨mW_at 209 (by decide +kernel) rfl, mW_at 210 (by decide +kernel) rfl⟩
theorem lin_World_67 : LiN "StuckRecord$World" 67 f_Thing_init "StuckRecord" := ⟨List.mem_of_getElem? (i := 0) rfl, mW_at 214 (by decide +kernel) rfl, rfl, rfl⟩
theorem lin_Rec_18 : LiN "StuckRecord" 18 f_Told_init "StuckRecord" := ⟨List.mem_of_getElem? (i := 1) rfl, mW_at 325 (by decide +kernel) rfl, rfl, rfl⟩
theorem lin_Told_11 : LiN "StuckRecord$Told" 11 f_Law_init "StuckRecord" := ⟨List.mem_of_getElem? (i := 2) rfl, mW_at 331 (by decide +kernel) rfl, rfl, rfl⟩
theorem li_Law_11_0 : Li "StuckRecord$Law" 11 (f_Rows_init 0) := ⟨mW_at 335 (by decide +kernel) rfl, mW_at 185 (by decide +kernel) rfl, rfl, rfl⟩
theorem li_Law_11 (ms : Nat) : Li "StuckRecord$Law" 11 (f_Rows_init ms) := li_Law_11_0
theorem li_Told_20_0 : Li "StuckRecord$Told" 20 (f_Rows_init 0) := ⟨mW_at 354 (by decide +kernel) rfl, mW_at 185 (by decide +kernel) rfl, rfl, rfl⟩
theorem li_Told_20 (ms : Nat) : Li "StuckRecord$Told" 20 (f_Rows_init ms) := li_Told_20_0
theorem lin_Rec_46 : LiN "StuckRecord" 46 f_Reader_init "StuckRecord" := ⟨List.mem_of_getElem? (i := 3) rfl, mW_at 399 (by decide +kernel) rfl, rfl, rfl⟩
theorem li_Reader_27_0 : Li "StuckRecord$Reader" 27 (f_Rows_init 0) := ⟨mW_at 403 (by decide +kernel) rfl, mW_at 185 (by decide +kernel) rfl, rfl, rfl⟩
theorem li_Reader_27 (ms : Nat) : Li "StuckRecord$Reader" 27 (f_Rows_init ms) := li_Reader_27_0
theorem lin_Rec_56 : LiN "StuckRecord" 56 f_Asker_init "StuckRecord" := ⟨List.mem_of_getElem? (i := 4) rfl, mW_at 453 (by decide +kernel) rfl, rfl, rfl⟩
theorem lin_Rec_63 : LiN "StuckRecord" 63 f_Layers_init "StuckRecord" := ⟨List.mem_of_getElem? (i := 5) rfl, mW_at 481 (by decide +kernel) rfl, rfl, rfl⟩
theorem lin_Rec_70 : LiN "StuckRecord" 70 f_Wings_init "StuckRecord" := ⟨List.mem_of_getElem? (i := 6) rfl, mW_at 494 (by decide +kernel) rfl, rfl, rfl⟩
theorem lv_law_13 : Lv "StuckRecordLaw" 13 f_Rec_state := ⟨mW_at 547 (by decide +kernel) rfl, mW_at 548 (by decide +kernel) rfl, mW_at 549 (by decide +kernel) rfl⟩
theorem lv_Rec_78 : Lv "StuckRecord" 78 f_Rec_forget := ⟨mW_at 551 (by decide +kernel) rfl, mW_at 553 (by decide +kernel) rfl, mW_at 0 (by decide +kernel) rfl⟩
theorem lv_law_18 : Lv "StuckRecordLaw" 18 f_Rec_set := ⟨mW_at 555 (by decide +kernel) rfl, mW_at 556 (by decide +kernel) rfl, mW_at 557 (by decide +kernel) rfl⟩
theorem lv_Rec_81 : Lv "StuckRecord" 81 f_Rec_setGlue := ⟨mW_at 559 (by decide +kernel) rfl, mW_at 561 (by decide +kernel) rfl, mW_at 1 (by decide +kernel) rfl⟩
theorem ls_Rec_96 : Lst "StuckRecord" 96 f_Rec_within := ⟨mW_at 563 (by decide +kernel) rfl, mW_at 564 (by decide +kernel) rfl⟩
theorem lv_Rec_85 : Lv "StuckRecord" 85 f_Rec_setSky := ⟨mW_at 566 (by decide +kernel) rfl, mW_at 568 (by decide +kernel) rfl, mW_at 2 (by decide +kernel) rfl⟩
theorem lv_Rec_88 : Lv "StuckRecord" 88 f_World_find := ⟨mW_at 570 (by decide +kernel) rfl, mW_at 571 (by decide +kernel) rfl, mW_at 572 (by decide +kernel) rfl⟩
theorem lv_World_88 : Lv "StuckRecord$World" 88 f_World_slotOf := ⟨mW_at 574 (by decide +kernel) rfl, mW_at 576 (by decide +kernel) rfl, mW_at 3 (by decide +kernel) rfl⟩
theorem ls_Rec_92 : Lst "StuckRecord" 92 f_Rec_setThing := ⟨mW_at 578 (by decide +kernel) rfl, mW_at 579 (by decide +kernel) rfl⟩
theorem lv_law_23 : Lv "StuckRecordLaw" 23 f_Rec_put := ⟨mW_at 581 (by decide +kernel) rfl, mW_at 582 (by decide +kernel) rfl, mW_at 583 (by decide +kernel) rfl⟩
theorem lv_Rec_121 : Lv "StuckRecord" 121 f_World_hasRoom := ⟨mW_at 585 (by decide +kernel) rfl, mW_at 586 (by decide +kernel) rfl, mW_at 587 (by decide +kernel) rfl⟩
theorem lv_Rec_125 : Lv "StuckRecord" 125 f_Rec_remember := ⟨mW_at 589 (by decide +kernel) rfl, mW_at 591 (by decide +kernel) rfl, mW_at 4 (by decide +kernel) rfl⟩
theorem lv_Rec_209 : Lv "StuckRecord" 209 f_World_copyFrom := ⟨mW_at 593 (by decide +kernel) rfl, mW_at 594 (by decide +kernel) rfl, mW_at 595 (by decide +kernel) rfl⟩
theorem lv_World_74 : Lv "StuckRecord$World" 74 f_Thing_copyFrom := ⟨mW_at 600 (by decide +kernel) rfl, mW_at 601 (by decide +kernel) rfl, mW_at 602 (by decide +kernel) rfl⟩
theorem lv_World_78 : Lv "StuckRecord$World" 78 f_Rows_copyFrom := ⟨mW_at 604 (by decide +kernel) rfl, mW_at 605 (by decide +kernel) rfl, mW_at 606 (by decide +kernel) rfl⟩
theorem ls_Rows_35 : Lst "StuckRecord$Rows" 35 f_Math_min := ⟨mW_at 608 (by decide +kernel) rfl, mW_at 609 (by decide +kernel) rfl⟩
theorem ls_Rec_350 : Lst "StuckRecord" 350 f_Math_min := ⟨mW_at 612 (by decide +kernel) rfl, mW_at 609 (by decide +kernel) rfl⟩
theorem lv_Rec_128 : Lv "StuckRecord" 128 f_World_newcomer := ⟨mW_at 613 (by decide +kernel) rfl, mW_at 614 (by decide +kernel) rfl, mW_at 615 (by decide +kernel) rfl⟩
theorem ls_World_96 : Lst "StuckRecord$World" 96 f_Math_min := ⟨mW_at 617 (by decide +kernel) rfl, mW_at 609 (by decide +kernel) rfl⟩
theorem lv_Rec_132 : Lv "StuckRecord" 132 f_World_settle := ⟨mW_at 618 (by decide +kernel) rfl, mW_at 619 (by decide +kernel) rfl, mW_at 620 (by decide +kernel) rfl⟩
theorem lv_World_120 : Lv "StuckRecord$World" 120 f_World_write := ⟨mW_at 622 (by decide +kernel) rfl, mW_at 624 (by decide +kernel) rfl, mW_at 5 (by decide +kernel) rfl⟩
theorem lv_World_128 : Lv "StuckRecord$World" 128 f_Rows_add := ⟨mW_at 626 (by decide +kernel) rfl, mW_at 627 (by decide +kernel) rfl, mW_at 628 (by decide +kernel) rfl⟩
theorem lv_Rows_23 : Lv "StuckRecord$Rows" 23 f_Rows_isFull := ⟨mW_at 630 (by decide +kernel) rfl, mW_at 631 (by decide +kernel) rfl, mW_at 632 (by decide +kernel) rfl⟩
theorem lv_Rows_27 : Lv "StuckRecord$Rows" 27 f_Rows_write := ⟨mW_at 634 (by decide +kernel) rfl, mW_at 636 (by decide +kernel) rfl, mW_at 6 (by decide +kernel) rfl⟩
theorem lv_law_28 : Lv "StuckRecordLaw" 28 f_Rec_act := ⟨mW_at 638 (by decide +kernel) rfl, mW_at 639 (by decide +kernel) rfl, mW_at 640 (by decide +kernel) rfl⟩
theorem lv_Rec_136 : Lv "StuckRecord" 136 f_World_tweeze := ⟨mW_at 642 (by decide +kernel) rfl, mW_at 643 (by decide +kernel) rfl, mW_at 644 (by decide +kernel) rfl⟩
theorem lv_World_124 : Lv "StuckRecord$World" 124 f_World_remove := ⟨mW_at 646 (by decide +kernel) rfl, mW_at 648 (by decide +kernel) rfl, mW_at 7 (by decide +kernel) rfl⟩
theorem lv_law_32 : Lv "StuckRecordLaw" 32 f_Rec_days := ⟨mW_at 650 (by decide +kernel) rfl, mW_at 651 (by decide +kernel) rfl, mW_at 652 (by decide +kernel) rfl⟩
theorem lv_Rec_146 : Lv "StuckRecord" 146 f_World_liveDay := ⟨mW_at 654 (by decide +kernel) rfl, mW_at 655 (by decide +kernel) rfl, mW_at 656 (by decide +kernel) rfl⟩
theorem lv_World_143 : Lv "StuckRecord$World" 143 f_Rows_get := ⟨mW_at 658 (by decide +kernel) rfl, mW_at 659 (by decide +kernel) rfl, mW_at 660 (by decide +kernel) rfl⟩
theorem lv_World_146 : Lv "StuckRecord$World" 146 f_World_weather := ⟨mW_at 662 (by decide +kernel) rfl, mW_at 664 (by decide +kernel) rfl, mW_at 8 (by decide +kernel) rfl⟩
theorem ls_World_171 : Lst "StuckRecord$World" 171 f_Math_max := ⟨mW_at 666 (by decide +kernel) rfl, mW_at 667 (by decide +kernel) rfl⟩
theorem lv_World_156 : Lv "StuckRecord$World" 156 f_World_comeUp := ⟨mW_at 669 (by decide +kernel) rfl, mW_at 671 (by decide +kernel) rfl, mW_at 9 (by decide +kernel) rfl⟩
theorem lv_World_174 : Lv "StuckRecord$World" 174 f_World_hasRoom := ⟨mW_at 673 (by decide +kernel) rfl, mW_at 586 (by decide +kernel) rfl, mW_at 587 (by decide +kernel) rfl⟩
theorem lv_World_177 : Lv "StuckRecord$World" 177 f_World_newcomer := ⟨mW_at 674 (by decide +kernel) rfl, mW_at 614 (by decide +kernel) rfl, mW_at 615 (by decide +kernel) rfl⟩
theorem lv_World_181 : Lv "StuckRecord$World" 181 f_Law_tells := ⟨mW_at 675 (by decide +kernel) rfl, mW_at 676 (by decide +kernel) rfl, mW_at 677 (by decide +kernel) rfl⟩
theorem lv_Law_47 : Lv "StuckRecord$Law" 47 f_Law_usual := ⟨mW_at 679 (by decide +kernel) rfl, mW_at 681 (by decide +kernel) rfl, mW_at 10 (by decide +kernel) rfl⟩
theorem lv_Law_54 : Lv "StuckRecord$Law" 54 f_Rows_get := ⟨mW_at 683 (by decide +kernel) rfl, mW_at 659 (by decide +kernel) rfl, mW_at 660 (by decide +kernel) rfl⟩
theorem lv_Law_57 : Lv "StuckRecord$Law" 57 f_Law_value := ⟨mW_at 684 (by decide +kernel) rfl, mW_at 686 (by decide +kernel) rfl, mW_at 11 (by decide +kernel) rfl⟩
theorem ls_Law_61 : Lst "StuckRecord$Law" 61 f_Math_max := ⟨mW_at 688 (by decide +kernel) rfl, mW_at 667 (by decide +kernel) rfl⟩
theorem ls_Law_83 : Lst "StuckRecord$Law" 83 f_Law_variable := ⟨mW_at 689 (by decide +kernel) rfl, mW_at 690 (by decide +kernel) rfl⟩
theorem lv_Law_103 : Lv "StuckRecord$Law" 103 f_World_near := ⟨mW_at 692 (by decide +kernel) rfl, mW_at 693 (by decide +kernel) rfl, mW_at 694 (by decide +kernel) rfl⟩
theorem lv_World_81 : Lv "StuckRecord$World" 81 f_World_isTaken := ⟨mW_at 696 (by decide +kernel) rfl, mW_at 697 (by decide +kernel) rfl, mW_at 698 (by decide +kernel) rfl⟩
theorem ls_Law_86 : Lst "StuckRecord$Law" 86 f_Law_changed := ⟨mW_at 700 (by decide +kernel) rfl, mW_at 701 (by decide +kernel) rfl⟩
theorem ls_Law_89 : Lst "StuckRecord$Law" 89 f_Law_joined := ⟨mW_at 703 (by decide +kernel) rfl, mW_at 704 (by decide +kernel) rfl⟩
theorem ls_Law_35 : Lst "StuckRecord$Law" 35 f_Math_min := ⟨mW_at 706 (by decide +kernel) rfl, mW_at 609 (by decide +kernel) rfl⟩
theorem lv_World_187 : Lv "StuckRecord$World" 187 f_World_happens := ⟨mW_at 707 (by decide +kernel) rfl, mW_at 709 (by decide +kernel) rfl, mW_at 12 (by decide +kernel) rfl⟩
theorem lv_World_134 : Lv "StuckRecord$World" 134 f_World_draw := ⟨mW_at 711 (by decide +kernel) rfl, mW_at 713 (by decide +kernel) rfl, mW_at 13 (by decide +kernel) rfl⟩
theorem lv_World_191 : Lv "StuckRecord$World" 191 f_World_settle := ⟨mW_at 717 (by decide +kernel) rfl, mW_at 619 (by decide +kernel) rfl, mW_at 620 (by decide +kernel) rfl⟩
theorem lv_World_160 : Lv "StuckRecord$World" 160 f_World_struggle := ⟨mW_at 718 (by decide +kernel) rfl, mW_at 720 (by decide +kernel) rfl, mW_at 14 (by decide +kernel) rfl⟩
theorem lv_World_164 : Lv "StuckRecord$World" 164 f_World_slide := ⟨mW_at 722 (by decide +kernel) rfl, mW_at 724 (by decide +kernel) rfl, mW_at 15 (by decide +kernel) rfl⟩
theorem lv_World_168 : Lv "StuckRecord$World" 168 f_World_growOld := ⟨mW_at 726 (by decide +kernel) rfl, mW_at 728 (by decide +kernel) rfl, mW_at 16 (by decide +kernel) rfl⟩
theorem lv_law_36 : Lv "StuckRecordLaw" 36 f_Rec_feed := ⟨mW_at 730 (by decide +kernel) rfl, mW_at 731 (by decide +kernel) rfl, mW_at 732 (by decide +kernel) rfl⟩
theorem lv_Rec_153 : Lv "StuckRecord" 153 f_Reader_append := ⟨mW_at 734 (by decide +kernel) rfl, mW_at 735 (by decide +kernel) rfl, mW_at 736 (by decide +kernel) rfl⟩
theorem lv_law_41 : Lv "StuckRecordLaw" 41 f_Rec_end := ⟨mW_at 738 (by decide +kernel) rfl, mW_at 739 (by decide +kernel) rfl, mW_at 740 (by decide +kernel) rfl⟩
theorem lv_law_46 : Lv "StuckRecordLaw" 46 f_Rec_text := ⟨mW_at 742 (by decide +kernel) rfl, mW_at 743 (by decide +kernel) rfl, mW_at 744 (by decide +kernel) rfl⟩
theorem lv_Rec_156 : Lv "StuckRecord" 156 f_Reader_read := ⟨mW_at 746 (by decide +kernel) rfl, mW_at 747 (by decide +kernel) rfl, mW_at 748 (by decide +kernel) rfl⟩
theorem lv_Reader_61 : Lv "StuckRecord$Reader" 61 f_Reader_split := ⟨mW_at 750 (by decide +kernel) rfl, mW_at 752 (by decide +kernel) rfl, mW_at 17 (by decide +kernel) rfl⟩
theorem lv_Reader_81 : Lv "StuckRecord$Reader" 81 f_Reader_token := ⟨mW_at 754 (by decide +kernel) rfl, mW_at 756 (by decide +kernel) rfl, mW_at 18 (by decide +kernel) rfl⟩
theorem ls_Reader_89 : Lst "StuckRecord$Reader" 89 f_Reader_isLetter := ⟨mW_at 758 (by decide +kernel) rfl, mW_at 759 (by decide +kernel) rfl⟩
theorem lv_Reader_93 : Lv "StuckRecord$Reader" 93 f_Reader_wordAt := ⟨mW_at 761 (by decide +kernel) rfl, mW_at 763 (by decide +kernel) rfl, mW_at 19 (by decide +kernel) rfl⟩
theorem lv_Reader_109 : Lv "StuckRecord$Reader" 109 f_String_length := ⟨mW_at 766 (by decide +kernel) rfl, mW_at 767 (by decide +kernel) rfl, mW_at 768 (by decide +kernel) rfl⟩
theorem lv_String_335 : Lv "java/lang/String" 335 f_String_coder := ⟨mW_at 770 (by decide +kernel) rfl, mW_at 771 (by decide +kernel) rfl, mW_at 772 (by decide +kernel) rfl⟩
theorem lv_Reader_112 : Lv "StuckRecord$Reader" 112 f_String_charAt := ⟨mW_at 776 (by decide +kernel) rfl, mW_at 777 (by decide +kernel) rfl, mW_at 778 (by decide +kernel) rfl⟩
theorem lv_String_492 : Lv "java/lang/String" 492 f_String_isLatin1 := ⟨mW_at 780 (by decide +kernel) rfl, mW_at 781 (by decide +kernel) rfl, mW_at 782 (by decide +kernel) rfl⟩
theorem ls_String_495 : Lst "java/lang/String" 495 f_StringLatin1_charAt := ⟨mW_at 784 (by decide +kernel) rfl, mW_at 785 (by decide +kernel) rfl⟩
theorem ls_StringLatin1_9 : Lst "java/lang/StringLatin1" 9 f_String_checkIndex := ⟨mW_at 787 (by decide +kernel) rfl, mW_at 788 (by decide +kernel) rfl⟩
theorem ls_String_1059 : Lst "java/lang/String" 1059 f_Preconditions_checkIndex := ⟨mW_at 792 (by decide +kernel) rfl, mW_at 793 (by decide +kernel) rfl⟩
theorem lv_Reader_116 : Lv "StuckRecord$Reader" 116 f_Reader_stands := ⟨mW_at 814 (by decide +kernel) rfl, mW_at 816 (by decide +kernel) rfl, mW_at 20 (by decide +kernel) rfl⟩
theorem lv_Reader_85 : Lv "StuckRecord$Reader" 85 f_Reader_addToken := ⟨mW_at 818 (by decide +kernel) rfl, mW_at 820 (by decide +kernel) rfl, mW_at 21 (by decide +kernel) rfl⟩
theorem ls_Reader_97 : Lst "StuckRecord$Reader" 97 f_Reader_isDigit := ⟨mW_at 822 (by decide +kernel) rfl, mW_at 823 (by decide +kernel) rfl⟩
theorem lv_Reader_102 : Lv "StuckRecord$Reader" 102 f_String_indexOf_0f7a4 := ⟨mW_at 826 (by decide +kernel) rfl, mW_at 827 (by decide +kernel) rfl, mW_at 828 (by decide +kernel) rfl⟩
theorem lv_String_633 : Lv "java/lang/String" 633 f_String_indexOf_7cf53 := ⟨mW_at 830 (by decide +kernel) rfl, mW_at 831 (by decide +kernel) rfl, mW_at 832 (by decide +kernel) rfl⟩
theorem lv_String_505 : Lv "java/lang/String" 505 f_String_length := ⟨mW_at 834 (by decide +kernel) rfl, mW_at 767 (by decide +kernel) rfl, mW_at 768 (by decide +kernel) rfl⟩
theorem ls_String_637 : Lst "java/lang/String" 637 f_StringLatin1_indexOf := ⟨mW_at 835 (by decide +kernel) rfl, mW_at 836 (by decide +kernel) rfl⟩
theorem ls_StringLatin1_88 : Lst "java/lang/StringLatin1" 88 f_StringLatin1_canEncode := ⟨mW_at 838 (by decide +kernel) rfl, mW_at 839 (by decide +kernel) rfl⟩
theorem ls_StringLatin1_92 : Lst "java/lang/StringLatin1" 92 f_Math_max := ⟨mW_at 841 (by decide +kernel) rfl, mW_at 667 (by decide +kernel) rfl⟩
theorem ls_StringLatin1_38 : Lst "java/lang/StringLatin1" 38 f_Math_min := ⟨mW_at 842 (by decide +kernel) rfl, mW_at 609 (by decide +kernel) rfl⟩
theorem ls_StringLatin1_95 : Lst "java/lang/StringLatin1" 95 f_StringLatin1_indexOfChar := ⟨mW_at 843 (by decide +kernel) rfl, mW_at 844 (by decide +kernel) rfl⟩
theorem ls_String_1062 : Lst "java/lang/String" 1062 f_Preconditions_checkFromToIndex := ⟨mW_at 861 (by decide +kernel) rfl, mW_at 862 (by decide +kernel) rfl⟩
theorem lv_Reader_64 : Lv "StuckRecord$Reader" 64 f_Reader_readLaw := ⟨mW_at 881 (by decide +kernel) rfl, mW_at 883 (by decide +kernel) rfl, mW_at 22 (by decide +kernel) rfl⟩
theorem lv_Reader_143 : Lv "StuckRecord$Reader" 143 f_Reader_takeFirst := ⟨mW_at 885 (by decide +kernel) rfl, mW_at 887 (by decide +kernel) rfl, mW_at 23 (by decide +kernel) rfl⟩
theorem lv_Reader_120 : Lv "StuckRecord$Reader" 120 f_Reader_isWord := ⟨mW_at 889 (by decide +kernel) rfl, mW_at 891 (by decide +kernel) rfl, mW_at 24 (by decide +kernel) rfl⟩
theorem lv_Reader_124 : Lv "StuckRecord$Reader" 124 f_Rows_isFull := ⟨mW_at 893 (by decide +kernel) rfl, mW_at 631 (by decide +kernel) rfl, mW_at 632 (by decide +kernel) rfl⟩
theorem lv_Reader_127 : Lv "StuckRecord$Reader" 127 f_Reader_fail := ⟨mW_at 894 (by decide +kernel) rfl, mW_at 896 (by decide +kernel) rfl, mW_at 25 (by decide +kernel) rfl⟩
theorem lv_Reader_130 : Lv "StuckRecord$Reader" 130 f_Reader_takeWord := ⟨mW_at 898 (by decide +kernel) rfl, mW_at 900 (by decide +kernel) rfl, mW_at 26 (by decide +kernel) rfl⟩
theorem lv_Reader_133 : Lv "StuckRecord$Reader" 133 f_Reader_keep := ⟨mW_at 902 (by decide +kernel) rfl, mW_at 904 (by decide +kernel) rfl, mW_at 27 (by decide +kernel) rfl⟩
theorem lv_Reader_140 : Lv "StuckRecord$Reader" 140 f_Reader_step := ⟨mW_at 906 (by decide +kernel) rfl, mW_at 908 (by decide +kernel) rfl, mW_at 28 (by decide +kernel) rfl⟩
theorem lv_Reader_152 : Lv "StuckRecord$Reader" 152 f_Reader_expression := ⟨mW_at 910 (by decide +kernel) rfl, mW_at 912 (by decide +kernel) rfl, mW_at 29 (by decide +kernel) rfl⟩
theorem lv_Reader_166 : Lv "StuckRecord$Reader" 166 f_Reader_unit := ⟨mW_at 914 (by decide +kernel) rfl, mW_at 916 (by decide +kernel) rfl, mW_at 30 (by decide +kernel) rfl⟩
theorem lv_Reader_163 : Lv "StuckRecord$Reader" 163 f_Reader_emit := ⟨mW_at 918 (by decide +kernel) rfl, mW_at 920 (by decide +kernel) rfl, mW_at 31 (by decide +kernel) rfl⟩
theorem lv_Reader_136 : Lv "StuckRecord$Reader" 136 f_Reader_isSign := ⟨mW_at 922 (by decide +kernel) rfl, mW_at 924 (by decide +kernel) rfl, mW_at 32 (by decide +kernel) rfl⟩
theorem lv_Reader_169 : Lv "StuckRecord$Reader" 169 f_Reader_divisor := ⟨mW_at 926 (by decide +kernel) rfl, mW_at 928 (by decide +kernel) rfl, mW_at 33 (by decide +kernel) rfl⟩
theorem lv_Reader_155 : Lv "StuckRecord$Reader" 155 f_Reader_condition := ⟨mW_at 930 (by decide +kernel) rfl, mW_at 932 (by decide +kernel) rfl, mW_at 34 (by decide +kernel) rfl⟩
theorem lv_Reader_158 : Lv "StuckRecord$Reader" 158 f_Reader_single := ⟨mW_at 934 (by decide +kernel) rfl, mW_at 936 (by decide +kernel) rfl, mW_at 35 (by decide +kernel) rfl⟩
theorem lv_Reader_149 : Lv "StuckRecord$Reader" 149 f_Reader_takeSign := ⟨mW_at 938 (by decide +kernel) rfl, mW_at 940 (by decide +kernel) rfl, mW_at 36 (by decide +kernel) rfl⟩
theorem lv_Reader_68 : Lv "StuckRecord$Reader" 68 f_Reader_readFlight := ⟨mW_at 942 (by decide +kernel) rfl, mW_at 944 (by decide +kernel) rfl, mW_at 37 (by decide +kernel) rfl⟩
theorem lv_Reader_146 : Lv "StuckRecord$Reader" 146 f_Reader_takeNumber := ⟨mW_at 946 (by decide +kernel) rfl, mW_at 948 (by decide +kernel) rfl, mW_at 38 (by decide +kernel) rfl⟩
theorem lv_Reader_71 : Lv "StuckRecord$Reader" 71 f_Reader_readSky := ⟨mW_at 950 (by decide +kernel) rfl, mW_at 952 (by decide +kernel) rfl, mW_at 39 (by decide +kernel) rfl⟩
theorem lv_Reader_74 : Lv "StuckRecord$Reader" 74 f_Reader_readStrips := ⟨mW_at 954 (by decide +kernel) rfl, mW_at 956 (by decide +kernel) rfl, mW_at 40 (by decide +kernel) rfl⟩
theorem lv_Reader_77 : Lv "StuckRecord$Reader" 77 f_Rows_add := ⟨mW_at 958 (by decide +kernel) rfl, mW_at 627 (by decide +kernel) rfl, mW_at 628 (by decide +kernel) rfl⟩
theorem lv_Rec_160 : Lv "StuckRecord" 160 f_Told_take := ⟨mW_at 959 (by decide +kernel) rfl, mW_at 960 (by decide +kernel) rfl, mW_at 961 (by decide +kernel) rfl⟩
theorem lv_Told_61 : Lv "StuckRecord$Told" 61 f_Law_take := ⟨mW_at 963 (by decide +kernel) rfl, mW_at 964 (by decide +kernel) rfl, mW_at 965 (by decide +kernel) rfl⟩
theorem lv_Law_31 : Lv "StuckRecord$Law" 31 f_Rows_copyFrom := ⟨mW_at 967 (by decide +kernel) rfl, mW_at 605 (by decide +kernel) rfl, mW_at 606 (by decide +kernel) rfl⟩
theorem lv_Told_65 : Lv "StuckRecord$Told" 65 f_Rows_copyFrom := ⟨mW_at 969 (by decide +kernel) rfl, mW_at 605 (by decide +kernel) rfl, mW_at 606 (by decide +kernel) rfl⟩
theorem lv_law_50 : Lv "StuckRecordLaw" 50 f_Rec_fault := ⟨mW_at 971 (by decide +kernel) rfl, mW_at 972 (by decide +kernel) rfl, mW_at 973 (by decide +kernel) rfl⟩
theorem lv_law_54 : Lv "StuckRecordLaw" 54 f_Rec_inch := ⟨mW_at 975 (by decide +kernel) rfl, mW_at 976 (by decide +kernel) rfl, mW_at 977 (by decide +kernel) rfl⟩
theorem lv_law_59 : Lv "StuckRecordLaw" 59 f_Rec_of := ⟨mW_at 979 (by decide +kernel) rfl, mW_at 980 (by decide +kernel) rfl, mW_at 981 (by decide +kernel) rfl⟩
theorem lv_Rec_189 : Lv "StuckRecord" 189 f_Law_tells := ⟨mW_at 983 (by decide +kernel) rfl, mW_at 676 (by decide +kernel) rfl, mW_at 677 (by decide +kernel) rfl⟩
theorem lv_Rec_195 : Lv "StuckRecord" 195 f_World_near := ⟨mW_at 984 (by decide +kernel) rfl, mW_at 693 (by decide +kernel) rfl, mW_at 694 (by decide +kernel) rfl⟩
theorem lv_law_63 : Lv "StuckRecordLaw" 63 f_Rec_book := ⟨mW_at 985 (by decide +kernel) rfl, mW_at 986 (by decide +kernel) rfl, mW_at 987 (by decide +kernel) rfl⟩
theorem lv_Rec_205 : Lv "StuckRecord" 205 f_Rows_get := ⟨mW_at 989 (by decide +kernel) rfl, mW_at 659 (by decide +kernel) rfl, mW_at 660 (by decide +kernel) rfl⟩
theorem lv_law_67 : Lv "StuckRecordLaw" 67 f_Rec_goes := ⟨mW_at 990 (by decide +kernel) rfl, mW_at 991 (by decide +kernel) rfl, mW_at 992 (by decide +kernel) rfl⟩
theorem ls_Rec_216 : Lst "StuckRecord" 216 f_Rec_sum := ⟨mW_at 994 (by decide +kernel) rfl, mW_at 995 (by decide +kernel) rfl⟩
theorem lv_law_71 : Lv "StuckRecordLaw" 71 f_Rec_nearest := ⟨mW_at 997 (by decide +kernel) rfl, mW_at 998 (by decide +kernel) rfl, mW_at 999 (by decide +kernel) rfl⟩
theorem lv_Rec_220 : Lv "StuckRecord" 220 f_World_thingAt := ⟨mW_at 1001 (by decide +kernel) rfl, mW_at 1002 (by decide +kernel) rfl, mW_at 1003 (by decide +kernel) rfl⟩
theorem lv_World_92 : Lv "StuckRecord$World" 92 f_World_find := ⟨mW_at 1005 (by decide +kernel) rfl, mW_at 571 (by decide +kernel) rfl, mW_at 572 (by decide +kernel) rfl⟩
theorem lv_law_75 : Lv "StuckRecordLaw" 75 f_Rec_heaps := ⟨mW_at 1006 (by decide +kernel) rfl, mW_at 1007 (by decide +kernel) rfl, mW_at 1008 (by decide +kernel) rfl⟩
theorem lv_Rec_226 : Lv "StuckRecord" 226 f_Asker_heap := ⟨mW_at 1010 (by decide +kernel) rfl, mW_at 1011 (by decide +kernel) rfl, mW_at 1012 (by decide +kernel) rfl⟩
theorem ls_Asker_34 : Lst "StuckRecord$Asker" 34 f_Arrays_fill := ⟨mW_at 1014 (by decide +kernel) rfl, mW_at 210 (by decide +kernel) rfl⟩
theorem lv_Asker_40 : Lv "StuckRecord$Asker" 40 f_Asker_reach := ⟨mW_at 1015 (by decide +kernel) rfl, mW_at 1017 (by decide +kernel) rfl, mW_at 41 (by decide +kernel) rfl⟩
theorem lv_Asker_44 : Lv "StuckRecord$Asker" 44 f_World_isTaken := ⟨mW_at 1019 (by decide +kernel) rfl, mW_at 697 (by decide +kernel) rfl, mW_at 698 (by decide +kernel) rfl⟩
theorem lv_law_79 : Lv "StuckRecordLaw" 79 f_Rec_kind := ⟨mW_at 1020 (by decide +kernel) rfl, mW_at 1021 (by decide +kernel) rfl, mW_at 1022 (by decide +kernel) rfl⟩
theorem ls_Rec_233 : Lst "StuckRecord" 233 f_Rec_tell := ⟨mW_at 1024 (by decide +kernel) rfl, mW_at 1025 (by decide +kernel) rfl⟩
theorem lv_Rec_355 : Lv "StuckRecord" 355 f_Rows_isFull := ⟨mW_at 1027 (by decide +kernel) rfl, mW_at 631 (by decide +kernel) rfl, mW_at 632 (by decide +kernel) rfl⟩
theorem lv_Rec_359 : Lv "StuckRecord" 359 f_Rows_add := ⟨mW_at 1028 (by decide +kernel) rfl, mW_at 627 (by decide +kernel) rfl, mW_at 628 (by decide +kernel) rfl⟩
theorem lv_law_83 : Lv "StuckRecordLaw" 83 f_Rec_says := ⟨mW_at 1029 (by decide +kernel) rfl, mW_at 1030 (by decide +kernel) rfl, mW_at 1031 (by decide +kernel) rfl⟩
theorem lv_Rec_237 : Lv "StuckRecord" 237 f_Asker_ways := ⟨mW_at 1033 (by decide +kernel) rfl, mW_at 1034 (by decide +kernel) rfl, mW_at 1035 (by decide +kernel) rfl⟩
theorem lv_Asker_50 : Lv "StuckRecord$Asker" 50 f_World_thingAt := ⟨mW_at 1037 (by decide +kernel) rfl, mW_at 1002 (by decide +kernel) rfl, mW_at 1003 (by decide +kernel) rfl⟩
theorem lv_Asker_59 : Lv "StuckRecord$Asker" 59 f_Rows_get := ⟨mW_at 1038 (by decide +kernel) rfl, mW_at 659 (by decide +kernel) rfl, mW_at 660 (by decide +kernel) rfl⟩
theorem ls_Asker_69 : Lst "StuckRecord$Asker" 69 f_Math_min := ⟨mW_at 1040 (by decide +kernel) rfl, mW_at 609 (by decide +kernel) rfl⟩
theorem lv_Rec_241 : Lv "StuckRecord" 241 f_Asker_longest := ⟨mW_at 1041 (by decide +kernel) rfl, mW_at 1042 (by decide +kernel) rfl, mW_at 1043 (by decide +kernel) rfl⟩
theorem lv_Asker_77 : Lv "StuckRecord$Asker" 77 f_Asker_longestBelow := ⟨mW_at 1045 (by decide +kernel) rfl, mW_at 1047 (by decide +kernel) rfl, mW_at 42 (by decide +kernel) rfl⟩
theorem ls_Asker_81 : Lst "StuckRecord$Asker" 81 f_Math_max := ⟨mW_at 1049 (by decide +kernel) rfl, mW_at 667 (by decide +kernel) rfl⟩
theorem lv_law_87 : Lv "StuckRecordLaw" 87 f_Rec_pass := ⟨mW_at 1050 (by decide +kernel) rfl, mW_at 1051 (by decide +kernel) rfl, mW_at 1052 (by decide +kernel) rfl⟩
theorem lv_Rec_245 : Lv "StuckRecord" 245 f_World_isTaken := ⟨mW_at 1054 (by decide +kernel) rfl, mW_at 697 (by decide +kernel) rfl, mW_at 698 (by decide +kernel) rfl⟩
theorem lv_law_91 : Lv "StuckRecordLaw" 91 f_Rec_words := ⟨mW_at 1055 (by decide +kernel) rfl, mW_at 1056 (by decide +kernel) rfl, mW_at 1057 (by decide +kernel) rfl⟩
theorem lv_law_95 : Lv "StuckRecordLaw" 95 f_Rec_legs := ⟨mW_at 1059 (by decide +kernel) rfl, mW_at 1060 (by decide +kernel) rfl, mW_at 1061 (by decide +kernel) rfl⟩
theorem lv_Rec_251 : Lv "StuckRecord" 251 f_Rec_bestWords := ⟨mW_at 1063 (by decide +kernel) rfl, mW_at 1065 (by decide +kernel) rfl, mW_at 43 (by decide +kernel) rfl⟩
theorem lv_Rec_254 : Lv "StuckRecord" 254 f_Rows_sumOf := ⟨mW_at 1067 (by decide +kernel) rfl, mW_at 1068 (by decide +kernel) rfl, mW_at 1069 (by decide +kernel) rfl⟩
theorem lv_Rows_31 : Lv "StuckRecord$Rows" 31 f_Rows_get := ⟨mW_at 1071 (by decide +kernel) rfl, mW_at 659 (by decide +kernel) rfl, mW_at 660 (by decide +kernel) rfl⟩
theorem lv_law_99 : Lv "StuckRecordLaw" 99 f_Rec_order := ⟨mW_at 1072 (by decide +kernel) rfl, mW_at 1073 (by decide +kernel) rfl, mW_at 1074 (by decide +kernel) rfl⟩
theorem lv_Rec_260 : Lv "StuckRecord" 260 f_Layers_learn := ⟨mW_at 1076 (by decide +kernel) rfl, mW_at 1077 (by decide +kernel) rfl, mW_at 1078 (by decide +kernel) rfl⟩
theorem ls_Layers_18 : Lst "StuckRecord$Layers" 18 f_Arrays_fill := ⟨mW_at 1080 (by decide +kernel) rfl, mW_at 210 (by decide +kernel) rfl⟩
theorem lv_Layers_30 : Lv "StuckRecord$Layers" 30 f_Rows_get := ⟨mW_at 1081 (by decide +kernel) rfl, mW_at 659 (by decide +kernel) rfl, mW_at 660 (by decide +kernel) rfl⟩
theorem lv_Rec_264 : Lv "StuckRecord" 264 f_Layers_earliest := ⟨mW_at 1083 (by decide +kernel) rfl, mW_at 1084 (by decide +kernel) rfl, mW_at 1085 (by decide +kernel) rfl⟩
theorem lv_Layers_40 : Lv "StuckRecord$Layers" 40 f_Layers_rounds := ⟨mW_at 1087 (by decide +kernel) rfl, mW_at 1088 (by decide +kernel) rfl, mW_at 1089 (by decide +kernel) rfl⟩
theorem ls_Layers_44 : Lst "StuckRecord$Layers" 44 f_Integer_bitCount := ⟨mW_at 1091 (by decide +kernel) rfl, mW_at 1092 (by decide +kernel) rfl⟩
theorem lv_Rec_267 : Lv "StuckRecord" 267 f_Layers_above := ⟨mW_at 1097 (by decide +kernel) rfl, mW_at 1098 (by decide +kernel) rfl, mW_at 1099 (by decide +kernel) rfl⟩
theorem lv_Rec_270 : Lv "StuckRecord" 270 f_Layers_firsts := ⟨mW_at 1101 (by decide +kernel) rfl, mW_at 1102 (by decide +kernel) rfl, mW_at 1103 (by decide +kernel) rfl⟩
theorem lv_Rec_274 : Lv "StuckRecord" 274 f_Layers_rounds := ⟨mW_at 1105 (by decide +kernel) rfl, mW_at 1088 (by decide +kernel) rfl, mW_at 1089 (by decide +kernel) rfl⟩
theorem lv_Rec_277 : Lv "StuckRecord" 277 f_Layers_tops := ⟨mW_at 1106 (by decide +kernel) rfl, mW_at 1107 (by decide +kernel) rfl, mW_at 1108 (by decide +kernel) rfl⟩
theorem lv_law_103 : Lv "StuckRecordLaw" 103 f_Rec_sight := ⟨mW_at 1110 (by decide +kernel) rfl, mW_at 1111 (by decide +kernel) rfl, mW_at 1112 (by decide +kernel) rfl⟩
theorem lv_law_107 : Lv "StuckRecordLaw" 107 f_Rec_cover := ⟨mW_at 1114 (by decide +kernel) rfl, mW_at 1115 (by decide +kernel) rfl, mW_at 1116 (by decide +kernel) rfl⟩
theorem lv_Rec_283 : Lv "StuckRecord" 283 f_Rec_fewestLooks := ⟨mW_at 1118 (by decide +kernel) rfl, mW_at 1120 (by decide +kernel) rfl, mW_at 44 (by decide +kernel) rfl⟩
theorem lv_Rec_286 : Lv "StuckRecord" 286 f_Rows_unionOf := ⟨mW_at 1122 (by decide +kernel) rfl, mW_at 1123 (by decide +kernel) rfl, mW_at 1124 (by decide +kernel) rfl⟩
theorem ls_Rec_289 : Lst "StuckRecord" 289 f_Integer_bitCount := ⟨mW_at 1126 (by decide +kernel) rfl, mW_at 1092 (by decide +kernel) rfl⟩
theorem lv_law_111 : Lv "StuckRecordLaw" 111 f_Rec_vein := ⟨mW_at 1127 (by decide +kernel) rfl, mW_at 1128 (by decide +kernel) rfl, mW_at 1129 (by decide +kernel) rfl⟩
theorem lv_law_116 : Lv "StuckRecordLaw" 116 f_Rec_wings := ⟨mW_at 1131 (by decide +kernel) rfl, mW_at 1132 (by decide +kernel) rfl, mW_at 1133 (by decide +kernel) rfl⟩
theorem lv_Rec_300 : Lv "StuckRecord" 300 f_Wings_numberings := ⟨mW_at 1135 (by decide +kernel) rfl, mW_at 1136 (by decide +kernel) rfl, mW_at 1137 (by decide +kernel) rfl⟩
theorem ls_Wings_21 : Lst "StuckRecord$Wings" 21 f_Wings_learn := ⟨mW_at 1139 (by decide +kernel) rfl, mW_at 1140 (by decide +kernel) rfl⟩
theorem ls_Wings_33 : Lst "StuckRecord$Wings" 33 f_Arrays_fill := ⟨mW_at 1142 (by decide +kernel) rfl, mW_at 210 (by decide +kernel) rfl⟩
theorem lv_Wings_45 : Lv "StuckRecord$Wings" 45 f_Rows_get := ⟨mW_at 1143 (by decide +kernel) rfl, mW_at 659 (by decide +kernel) rfl, mW_at 660 (by decide +kernel) rfl⟩
theorem ls_Wings_25 : Lst "StuckRecord$Wings" 25 f_Wings_bare := ⟨mW_at 1144 (by decide +kernel) rfl, mW_at 1145 (by decide +kernel) rfl⟩
theorem ls_Wings_29 : Lst "StuckRecord$Wings" 29 f_Wings_tried := ⟨mW_at 1147 (by decide +kernel) rfl, mW_at 1148 (by decide +kernel) rfl⟩
theorem ls_Wings_49 : Lst "StuckRecord$Wings" 49 f_Wings_fits := ⟨mW_at 1150 (by decide +kernel) rfl, mW_at 1151 (by decide +kernel) rfl⟩
theorem ls_Wings_53 : Lst "StuckRecord$Wings" 53 f_Integer_bitCount := ⟨mW_at 1153 (by decide +kernel) rfl, mW_at 1092 (by decide +kernel) rfl⟩
theorem lv_law_120 : Lv "StuckRecordLaw" 120 f_Rec_weekday := ⟨mW_at 1154 (by decide +kernel) rfl, mW_at 1155 (by decide +kernel) rfl, mW_at 1156 (by decide +kernel) rfl⟩
theorem ls_Rec_304 : Lst "StuckRecord" 304 f_Dates_dayNumber := ⟨mW_at 1158 (by decide +kernel) rfl, mW_at 1159 (by decide +kernel) rfl⟩
theorem lsn_Dates_9 : LsN "StuckRecord$Dates" 9 f_Rec_within "StuckRecord" := ⟨List.mem_of_getElem? (i := 7) rfl, mW_at 564 (by decide +kernel) rfl⟩
theorem ls_Dates_13 : Lst "StuckRecord$Dates" 13 f_Dates_monthDays := ⟨mW_at 1162 (by decide +kernel) rfl, mW_at 1163 (by decide +kernel) rfl⟩
theorem lv_law_124 : Lv "StuckRecordLaw" 124 f_Rec_between := ⟨mW_at 1167 (by decide +kernel) rfl, mW_at 1168 (by decide +kernel) rfl, mW_at 1169 (by decide +kernel) rfl⟩
theorem lv_law_128 : Lv "StuckRecordLaw" 128 f_Rec_leans := ⟨mW_at 1172 (by decide +kernel) rfl, mW_at 1173 (by decide +kernel) rfl, mW_at 1174 (by decide +kernel) rfl⟩
theorem lv_Rec_310 : Lv "StuckRecord" 310 f_Asker_lean := ⟨mW_at 1176 (by decide +kernel) rfl, mW_at 1177 (by decide +kernel) rfl, mW_at 1178 (by decide +kernel) rfl⟩
theorem ls_Asker_84 : Lst "StuckRecord$Asker" 84 f_Asker_sizeAt := ⟨mW_at 1180 (by decide +kernel) rfl, mW_at 1181 (by decide +kernel) rfl⟩
theorem lv_law_132 : Lv "StuckRecordLaw" 132 f_Rec_go := ⟨mW_at 1183 (by decide +kernel) rfl, mW_at 1184 (by decide +kernel) rfl, mW_at 1185 (by decide +kernel) rfl⟩
theorem lv_Rec_313 : Lv "StuckRecord" 313 f_Rec_leastWind := ⟨mW_at 1187 (by decide +kernel) rfl, mW_at 1189 (by decide +kernel) rfl, mW_at 45 (by decide +kernel) rfl⟩
theorem lv_Rec_316 : Lv "StuckRecord" 316 f_Rec_freeBy := ⟨mW_at 1191 (by decide +kernel) rfl, mW_at 1193 (by decide +kernel) rfl, mW_at 46 (by decide +kernel) rfl⟩
theorem lv_law_136 : Lv "StuckRecordLaw" 136 f_Rec_squires := ⟨mW_at 1195 (by decide +kernel) rfl, mW_at 1196 (by decide +kernel) rfl, mW_at 1197 (by decide +kernel) rfl⟩
theorem lv_Rec_323 : Lv "StuckRecord" 323 f_Asker_balance := ⟨mW_at 1199 (by decide +kernel) rfl, mW_at 1200 (by decide +kernel) rfl, mW_at 1201 (by decide +kernel) rfl⟩
theorem lv_Asker_89 : Lv "StuckRecord$Asker" 89 f_Asker_weighWasps := ⟨mW_at 1203 (by decide +kernel) rfl, mW_at 1205 (by decide +kernel) rfl, mW_at 47 (by decide +kernel) rfl⟩
theorem ls_Asker_93 : Lst "StuckRecord$Asker" 93 f_Math_abs := ⟨mW_at 1207 (by decide +kernel) rfl, mW_at 1208 (by decide +kernel) rfl⟩
theorem lv_law_140 : Lv "StuckRecordLaw" 140 f_Rec_held := ⟨mW_at 1210 (by decide +kernel) rfl, mW_at 1211 (by decide +kernel) rfl, mW_at 1212 (by decide +kernel) rfl⟩
theorem lv_Rec_326 : Lv "StuckRecord" 326 f_Asker_fingers := ⟨mW_at 1214 (by decide +kernel) rfl, mW_at 1215 (by decide +kernel) rfl, mW_at 1216 (by decide +kernel) rfl⟩
theorem lv_law_144 : Lv "StuckRecordLaw" 144 f_Rec_game := ⟨mW_at 1218 (by decide +kernel) rfl, mW_at 1219 (by decide +kernel) rfl, mW_at 1220 (by decide +kernel) rfl⟩
theorem lv_Rec_330 : Lv "StuckRecord" 330 f_Asker_bestTake := ⟨mW_at 1222 (by decide +kernel) rfl, mW_at 1223 (by decide +kernel) rfl, mW_at 1224 (by decide +kernel) rfl⟩
theorem ls_Asker_104 : Lst "StuckRecord$Asker" 104 f_Asker_worth := ⟨mW_at 1226 (by decide +kernel) rfl, mW_at 1227 (by decide +kernel) rfl⟩
theorem ls_Asker_107 : Lst "StuckRecord$Asker" 107 f_Asker_takeFrom := ⟨mW_at 1231 (by decide +kernel) rfl, mW_at 1232 (by decide +kernel) rfl⟩
theorem lv_law_148 : Lv "StuckRecordLaw" 148 f_Rec_undo := ⟨mW_at 1234 (by decide +kernel) rfl, mW_at 1235 (by decide +kernel) rfl, mW_at 1236 (by decide +kernel) rfl⟩
theorem lv_law_153 : Lv "StuckRecordLaw" 153 f_Rec_image := ⟨mW_at 1238 (by decide +kernel) rfl, mW_at 1239 (by decide +kernel) rfl, mW_at 1240 (by decide +kernel) rfl⟩
theorem lv_Rec_333 : Lv "StuckRecord" 333 f_Told_copyFrom := ⟨mW_at 1242 (by decide +kernel) rfl, mW_at 1243 (by decide +kernel) rfl, mW_at 1244 (by decide +kernel) rfl⟩
theorem lv_law_158 : Lv "StuckRecordLaw" 158 f_Rec_look := ⟨mW_at 1246 (by decide +kernel) rfl, mW_at 1247 (by decide +kernel) rfl, mW_at 1248 (by decide +kernel) rfl⟩
theorem li_law_12 : Li "StuckRecordLaw" 12 f_Mod_init := ⟨mW_at 1252 (by decide +kernel) rfl, mW_at 1253 (by decide +kernel) rfl, rfl, rfl⟩
theorem lv_law_152 : Lv "StuckRecordLaw" 152 f_Mod_undo := ⟨mW_at 1425 (by decide +kernel) rfl, mW_at 1426 (by decide +kernel) rfl, mW_at 1427 (by decide +kernel) rfl⟩
theorem lv_law_17 : Lv "StuckRecordLaw" 17 f_Mod_state := ⟨mW_at 1429 (by decide +kernel) rfl, mW_at 1430 (by decide +kernel) rfl, mW_at 1431 (by decide +kernel) rfl⟩
theorem lv_law_22 : Lv "StuckRecordLaw" 22 f_Mod_set := ⟨mW_at 1433 (by decide +kernel) rfl, mW_at 1434 (by decide +kernel) rfl, mW_at 1435 (by decide +kernel) rfl⟩
theorem lv_Mod_142 : Lv "StuckRecordModel" 142 f_Mod_canSet := ⟨mW_at 1437 (by decide +kernel) rfl, mW_at 1439 (by decide +kernel) rfl, mW_at 48 (by decide +kernel) rfl⟩
theorem lv_Mod_131 : Lv "StuckRecordModel" 131 f_Mod_isInch := ⟨mW_at 1441 (by decide +kernel) rfl, mW_at 1443 (by decide +kernel) rfl, mW_at 49 (by decide +kernel) rfl⟩
theorem lv_Mod_135 : Lv "StuckRecordModel" 135 f_Mod_isIn := ⟨mW_at 1445 (by decide +kernel) rfl, mW_at 1447 (by decide +kernel) rfl, mW_at 50 (by decide +kernel) rfl⟩
theorem lv_Mod_139 : Lv "StuckRecordModel" 139 f_Mod_thingOf := ⟨mW_at 1449 (by decide +kernel) rfl, mW_at 1451 (by decide +kernel) rfl, mW_at 51 (by decide +kernel) rfl⟩
theorem lv_Mod_124 : Lv "StuckRecordModel" 124 f_Mod_thingAt := ⟨mW_at 1453 (by decide +kernel) rfl, mW_at 1455 (by decide +kernel) rfl, mW_at 52 (by decide +kernel) rfl⟩
theorem lv_Mod_145 : Lv "StuckRecordModel" 145 f_Mod_hasGlue := ⟨mW_at 1457 (by decide +kernel) rfl, mW_at 1459 (by decide +kernel) rfl, mW_at 53 (by decide +kernel) rfl⟩
theorem lv_Mod_120 : Lv "StuckRecordModel" 120 f_Mod_within := ⟨mW_at 1461 (by decide +kernel) rfl, mW_at 1463 (by decide +kernel) rfl, mW_at 54 (by decide +kernel) rfl⟩
theorem lv_law_40 : Lv "StuckRecordLaw" 40 f_Mod_feed := ⟨mW_at 1465 (by decide +kernel) rfl, mW_at 1466 (by decide +kernel) rfl, mW_at 1467 (by decide +kernel) rfl⟩
theorem lv_Mod_152 : Lv "StuckRecordModel" 152 f_Mod_types := ⟨mW_at 1469 (by decide +kernel) rfl, mW_at 1471 (by decide +kernel) rfl, mW_at 55 (by decide +kernel) rfl⟩
theorem lv_law_45 : Lv "StuckRecordLaw" 45 f_Mod_end := ⟨mW_at 1473 (by decide +kernel) rfl, mW_at 1474 (by decide +kernel) rfl, mW_at 1475 (by decide +kernel) rfl⟩
theorem lv_law_49 : Lv "StuckRecordLaw" 49 f_Mod_text := ⟨mW_at 1477 (by decide +kernel) rfl, mW_at 1478 (by decide +kernel) rfl, mW_at 1479 (by decide +kernel) rfl⟩
theorem lv_Mod_291 : Lv "StuckRecordModel" 291 f_Mod_readsText := ⟨mW_at 1481 (by decide +kernel) rfl, mW_at 1483 (by decide +kernel) rfl, mW_at 56 (by decide +kernel) rfl⟩
theorem lv_Mod_202 : Lv "StuckRecordModel" 202 f_Mod_reads := ⟨mW_at 1485 (by decide +kernel) rfl, mW_at 1487 (by decide +kernel) rfl, mW_at 57 (by decide +kernel) rfl⟩
theorem lv_Mod_159 : Lv "StuckRecordModel" 159 f_Mod_raw := ⟨mW_at 1489 (by decide +kernel) rfl, mW_at 1491 (by decide +kernel) rfl, mW_at 58 (by decide +kernel) rfl⟩
theorem lv_Mod_171 : Lv "StuckRecordModel" 171 f_Mod_isLetter := ⟨mW_at 1493 (by decide +kernel) rfl, mW_at 1495 (by decide +kernel) rfl, mW_at 59 (by decide +kernel) rfl⟩
theorem lv_Mod_174 : Lv "StuckRecordModel" 174 f_Mod_wordAt := ⟨mW_at 1497 (by decide +kernel) rfl, mW_at 1499 (by decide +kernel) rfl, mW_at 60 (by decide +kernel) rfl⟩
theorem lv_Mod_178 : Lv "StuckRecordModel" 178 f_Mod_isDigit := ⟨mW_at 1501 (by decide +kernel) rfl, mW_at 1503 (by decide +kernel) rfl, mW_at 61 (by decide +kernel) rfl⟩
theorem lv_Mod_181 : Lv "StuckRecordModel" 181 f_Mod_isMarkSign := ⟨mW_at 1505 (by decide +kernel) rfl, mW_at 1507 (by decide +kernel) rfl, mW_at 62 (by decide +kernel) rfl⟩
theorem lv_Mod_267 : Lv "StuckRecordModel" 267 f_Mod_readFlight := ⟨mW_at 1509 (by decide +kernel) rfl, mW_at 1511 (by decide +kernel) rfl, mW_at 63 (by decide +kernel) rfl⟩
theorem lv_Mod_224 : Lv "StuckRecordModel" 224 f_Mod_isWord := ⟨mW_at 1513 (by decide +kernel) rfl, mW_at 1515 (by decide +kernel) rfl, mW_at 64 (by decide +kernel) rfl⟩
theorem lv_Mod_196 : Lv "StuckRecordModel" 196 f_Mod_errs := ⟨mW_at 1517 (by decide +kernel) rfl, mW_at 1519 (by decide +kernel) rfl, mW_at 65 (by decide +kernel) rfl⟩
theorem lv_Mod_255 : Lv "StuckRecordModel" 255 f_Mod_readFlightLine := ⟨mW_at 1521 (by decide +kernel) rfl, mW_at 1523 (by decide +kernel) rfl, mW_at 66 (by decide +kernel) rfl⟩
theorem lv_Mod_249 : Lv "StuckRecordModel" 249 f_Mod_readTold := ⟨mW_at 1525 (by decide +kernel) rfl, mW_at 1527 (by decide +kernel) rfl, mW_at 67 (by decide +kernel) rfl⟩
theorem lv_Mod_246 : Lv "StuckRecordModel" 246 f_Mod_readNumber := ⟨mW_at 1529 (by decide +kernel) rfl, mW_at 1531 (by decide +kernel) rfl, mW_at 68 (by decide +kernel) rfl⟩
theorem lv_Mod_252 : Lv "StuckRecordModel" 252 f_Mod_readMark := ⟨mW_at 1533 (by decide +kernel) rfl, mW_at 1535 (by decide +kernel) rfl, mW_at 69 (by decide +kernel) rfl⟩
theorem lv_Mod_209 : Lv "StuckRecordModel" 209 f_Mod_isSign := ⟨mW_at 1537 (by decide +kernel) rfl, mW_at 1539 (by decide +kernel) rfl, mW_at 70 (by decide +kernel) rfl⟩
theorem lv_Mod_270 : Lv "StuckRecordModel" 270 f_Mod_readSky := ⟨mW_at 1541 (by decide +kernel) rfl, mW_at 1543 (by decide +kernel) rfl, mW_at 71 (by decide +kernel) rfl⟩
theorem lv_Mod_261 : Lv "StuckRecordModel" 261 f_Mod_readDeed := ⟨mW_at 1545 (by decide +kernel) rfl, mW_at 1547 (by decide +kernel) rfl, mW_at 72 (by decide +kernel) rfl⟩
theorem lv_Mod_258 : Lv "StuckRecordModel" 258 f_Mod_kindOfDeed := ⟨mW_at 1549 (by decide +kernel) rfl, mW_at 1551 (by decide +kernel) rfl, mW_at 73 (by decide +kernel) rfl⟩
theorem lv_Mod_273 : Lv "StuckRecordModel" 273 f_Mod_readStrips := ⟨mW_at 1553 (by decide +kernel) rfl, mW_at 1555 (by decide +kernel) rfl, mW_at 74 (by decide +kernel) rfl⟩
theorem lv_Mod_264 : Lv "StuckRecordModel" 264 f_Mod_readStrip := ⟨mW_at 1557 (by decide +kernel) rfl, mW_at 1559 (by decide +kernel) rfl, mW_at 75 (by decide +kernel) rfl⟩
theorem lv_Mod_276 : Lv "StuckRecordModel" 276 f_Mod_readLaw := ⟨mW_at 1561 (by decide +kernel) rfl, mW_at 1563 (by decide +kernel) rfl, mW_at 76 (by decide +kernel) rfl⟩
theorem lv_Mod_236 : Lv "StuckRecordModel" 236 f_Mod_isLineWord := ⟨mW_at 1565 (by decide +kernel) rfl, mW_at 1567 (by decide +kernel) rfl, mW_at 77 (by decide +kernel) rfl⟩
theorem lv_Mod_215 : Lv "StuckRecordModel" 215 f_Mod_readSum := ⟨mW_at 1569 (by decide +kernel) rfl, mW_at 1571 (by decide +kernel) rfl, mW_at 78 (by decide +kernel) rfl⟩
theorem lv_Mod_212 : Lv "StuckRecordModel" 212 f_Mod_readProduct := ⟨mW_at 1573 (by decide +kernel) rfl, mW_at 1575 (by decide +kernel) rfl, mW_at 79 (by decide +kernel) rfl⟩
theorem lv_Mod_205 : Lv "StuckRecordModel" 205 f_Mod_readUnit := ⟨mW_at 1577 (by decide +kernel) rfl, mW_at 1579 (by decide +kernel) rfl, mW_at 80 (by decide +kernel) rfl⟩
theorem lv_Mod_193 : Lv "StuckRecordModel" 193 f_Mod_canAsk := ⟨mW_at 1581 (by decide +kernel) rfl, mW_at 1583 (by decide +kernel) rfl, mW_at 81 (by decide +kernel) rfl⟩
theorem lv_Mod_199 : Lv "StuckRecordModel" 199 f_Mod_emits := ⟨mW_at 1585 (by decide +kernel) rfl, mW_at 1587 (by decide +kernel) rfl, mW_at 82 (by decide +kernel) rfl⟩
theorem lv_Mod_240 : Lv "StuckRecordModel" 240 f_Mod_readAny := ⟨mW_at 1589 (by decide +kernel) rfl, mW_at 1591 (by decide +kernel) rfl, mW_at 83 (by decide +kernel) rfl⟩
theorem lv_Mod_227 : Lv "StuckRecordModel" 227 f_Mod_waits := ⟨mW_at 1593 (by decide +kernel) rfl, mW_at 1595 (by decide +kernel) rfl, mW_at 84 (by decide +kernel) rfl⟩
theorem lv_Mod_230 : Lv "StuckRecordModel" 230 f_Mod_readCompared := ⟨mW_at 1597 (by decide +kernel) rfl, mW_at 1599 (by decide +kernel) rfl, mW_at 85 (by decide +kernel) rfl⟩
theorem lv_Mod_233 : Lv "StuckRecordModel" 233 f_Mod_settles := ⟨mW_at 1601 (by decide +kernel) rfl, mW_at 1603 (by decide +kernel) rfl, mW_at 86 (by decide +kernel) rfl⟩
theorem lv_Mod_294 : Lv "StuckRecordModel" 294 f_Mod_takesLaw := ⟨mW_at 1605 (by decide +kernel) rfl, mW_at 1607 (by decide +kernel) rfl, mW_at 87 (by decide +kernel) rfl⟩
theorem lv_Mod_297 : Lv "StuckRecordModel" 297 f_Mod_takesOther := ⟨mW_at 1609 (by decide +kernel) rfl, mW_at 1611 (by decide +kernel) rfl, mW_at 88 (by decide +kernel) rfl⟩
theorem lv_law_53 : Lv "StuckRecordLaw" 53 f_Mod_fault := ⟨mW_at 1613 (by decide +kernel) rfl, mW_at 1614 (by decide +kernel) rfl, mW_at 1615 (by decide +kernel) rfl⟩
theorem lv_law_27 : Lv "StuckRecordLaw" 27 f_Mod_put := ⟨mW_at 1617 (by decide +kernel) rfl, mW_at 1618 (by decide +kernel) rfl, mW_at 1619 (by decide +kernel) rfl⟩
theorem lv_Mod_332 : Lv "StuckRecordModel" 332 f_Mod_isTaken := ⟨mW_at 1621 (by decide +kernel) rfl, mW_at 1623 (by decide +kernel) rfl, mW_at 89 (by decide +kernel) rfl⟩
theorem lv_Mod_128 : Lv "StuckRecordModel" 128 f_Mod_stuckAt := ⟨mW_at 1625 (by decide +kernel) rfl, mW_at 1627 (by decide +kernel) rfl, mW_at 90 (by decide +kernel) rfl⟩
theorem lv_Mod_345 : Lv "StuckRecordModel" 345 f_Mod_keepsAhead := ⟨mW_at 1629 (by decide +kernel) rfl, mW_at 1631 (by decide +kernel) rfl, mW_at 91 (by decide +kernel) rfl⟩
theorem lv_Mod_341 : Lv "StuckRecordModel" 341 f_Mod_isStuck := ⟨mW_at 1633 (by decide +kernel) rfl, mW_at 1635 (by decide +kernel) rfl, mW_at 92 (by decide +kernel) rfl⟩
theorem lv_Mod_328 : Lv "StuckRecordModel" 328 f_Mod_notes := ⟨mW_at 1637 (by decide +kernel) rfl, mW_at 1639 (by decide +kernel) rfl, mW_at 93 (by decide +kernel) rfl⟩
theorem lv_law_31 : Lv "StuckRecordLaw" 31 f_Mod_act := ⟨mW_at 1641 (by decide +kernel) rfl, mW_at 1642 (by decide +kernel) rfl, mW_at 1643 (by decide +kernel) rfl⟩
theorem lv_Mod_348 : Lv "StuckRecordModel" 348 f_Mod_isGone := ⟨mW_at 1645 (by decide +kernel) rfl, mW_at 1647 (by decide +kernel) rfl, mW_at 94 (by decide +kernel) rfl⟩
theorem lv_law_35 : Lv "StuckRecordLaw" 35 f_Mod_days := ⟨mW_at 1649 (by decide +kernel) rfl, mW_at 1650 (by decide +kernel) rfl, mW_at 1651 (by decide +kernel) rfl⟩
theorem lv_Mod_379 : Lv "StuckRecordModel" 379 f_Mod_goesBy := ⟨mW_at 1653 (by decide +kernel) rfl, mW_at 1655 (by decide +kernel) rfl, mW_at 95 (by decide +kernel) rfl⟩
theorem lv_Mod_363 : Lv "StuckRecordModel" 363 f_Mod_does := ⟨mW_at 1657 (by decide +kernel) rfl, mW_at 1659 (by decide +kernel) rfl, mW_at 96 (by decide +kernel) rfl⟩
theorem lv_Mod_309 : Lv "StuckRecordModel" 309 f_Mod_glue := ⟨mW_at 1661 (by decide +kernel) rfl, mW_at 1663 (by decide +kernel) rfl, mW_at 97 (by decide +kernel) rfl⟩
theorem lv_Mod_366 : Lv "StuckRecordModel" 366 f_Mod_comesUp := ⟨mW_at 1665 (by decide +kernel) rfl, mW_at 1667 (by decide +kernel) rfl, mW_at 98 (by decide +kernel) rfl⟩
theorem lv_Mod_315 : Lv "StuckRecordModel" 315 f_Mod_asks := ⟨mW_at 1669 (by decide +kernel) rfl, mW_at 1671 (by decide +kernel) rfl, mW_at 99 (by decide +kernel) rfl⟩
theorem lv_Mod_312 : Lv "StuckRecordModel" 312 f_Mod_nearTo := ⟨mW_at 1673 (by decide +kernel) rfl, mW_at 1675 (by decide +kernel) rfl, mW_at 100 (by decide +kernel) rfl⟩
theorem lv_Mod_306 : Lv "StuckRecordModel" 306 f_Mod_apart := ⟨mW_at 1677 (by decide +kernel) rfl, mW_at 1679 (by decide +kernel) rfl, mW_at 101 (by decide +kernel) rfl⟩
theorem lv_Mod_335 : Lv "StuckRecordModel" 335 f_Mod_sticksNow := ⟨mW_at 1681 (by decide +kernel) rfl, mW_at 1683 (by decide +kernel) rfl, mW_at 102 (by decide +kernel) rfl⟩
theorem lv_Mod_322 : Lv "StuckRecordModel" 322 f_Mod_lawTells := ⟨mW_at 1685 (by decide +kernel) rfl, mW_at 1687 (by decide +kernel) rfl, mW_at 103 (by decide +kernel) rfl⟩
theorem lv_Mod_319 : Lv "StuckRecordModel" 319 f_Mod_lineOf := ⟨mW_at 1689 (by decide +kernel) rfl, mW_at 1691 (by decide +kernel) rfl, mW_at 104 (by decide +kernel) rfl⟩
theorem lv_Mod_303 : Lv "StuckRecordModel" 303 f_Mod_runs := ⟨mW_at 1693 (by decide +kernel) rfl, mW_at 1695 (by decide +kernel) rfl, mW_at 105 (by decide +kernel) rfl⟩
theorem lv_Mod_300 : Lv "StuckRecordModel" 300 f_Mod_twoOf := ⟨mW_at 1697 (by decide +kernel) rfl, mW_at 1699 (by decide +kernel) rfl, mW_at 106 (by decide +kernel) rfl⟩
theorem lv_Mod_338 : Lv "StuckRecordModel" 338 f_Mod_draw := ⟨mW_at 1701 (by decide +kernel) rfl, mW_at 1703 (by decide +kernel) rfl, mW_at 107 (by decide +kernel) rfl⟩
theorem lv_Mod_370 : Lv "StuckRecordModel" 370 f_Mod_isFreed := ⟨mW_at 1707 (by decide +kernel) rfl, mW_at 1709 (by decide +kernel) rfl, mW_at 108 (by decide +kernel) rfl⟩
theorem lv_Mod_351 : Lv "StuckRecordModel" 351 f_Mod_freesOf := ⟨mW_at 1711 (by decide +kernel) rfl, mW_at 1713 (by decide +kernel) rfl, mW_at 109 (by decide +kernel) rfl⟩
theorem lv_Mod_325 : Lv "StuckRecordModel" 325 f_Mod_asksOf := ⟨mW_at 1715 (by decide +kernel) rfl, mW_at 1717 (by decide +kernel) rfl, mW_at 110 (by decide +kernel) rfl⟩
theorem lv_Mod_354 : Lv "StuckRecordModel" 354 f_Mod_greater := ⟨mW_at 1719 (by decide +kernel) rfl, mW_at 1721 (by decide +kernel) rfl, mW_at 111 (by decide +kernel) rfl⟩
theorem lv_Mod_373 : Lv "StuckRecordModel" 373 f_Mod_fallsOff := ⟨mW_at 1723 (by decide +kernel) rfl, mW_at 1725 (by decide +kernel) rfl, mW_at 112 (by decide +kernel) rfl⟩
theorem lv_Mod_357 : Lv "StuckRecordModel" 357 f_Mod_slidesOf := ⟨mW_at 1727 (by decide +kernel) rfl, mW_at 1729 (by decide +kernel) rfl, mW_at 113 (by decide +kernel) rfl⟩
theorem lv_Mod_376 : Lv "StuckRecordModel" 376 f_Mod_evening := ⟨mW_at 1731 (by decide +kernel) rfl, mW_at 1733 (by decide +kernel) rfl, mW_at 114 (by decide +kernel) rfl⟩
theorem lv_Mod_360 : Lv "StuckRecordModel" 360 f_Mod_lesser := ⟨mW_at 1735 (by decide +kernel) rfl, mW_at 1737 (by decide +kernel) rfl, mW_at 115 (by decide +kernel) rfl⟩
theorem lv_law_58 : Lv "StuckRecordLaw" 58 f_Mod_inch := ⟨mW_at 1739 (by decide +kernel) rfl, mW_at 1740 (by decide +kernel) rfl, mW_at 1741 (by decide +kernel) rfl⟩
theorem lv_law_62 : Lv "StuckRecordLaw" 62 f_Mod_of := ⟨mW_at 1743 (by decide +kernel) rfl, mW_at 1744 (by decide +kernel) rfl, mW_at 1745 (by decide +kernel) rfl⟩
theorem lv_law_66 : Lv "StuckRecordLaw" 66 f_Mod_book := ⟨mW_at 1747 (by decide +kernel) rfl, mW_at 1748 (by decide +kernel) rfl, mW_at 1749 (by decide +kernel) rfl⟩
theorem lv_law_70 : Lv "StuckRecordLaw" 70 f_Mod_goes := ⟨mW_at 1751 (by decide +kernel) rfl, mW_at 1752 (by decide +kernel) rfl, mW_at 1753 (by decide +kernel) rfl⟩
theorem lv_Mod_382 : Lv "StuckRecordModel" 382 f_Mod_thinks := ⟨mW_at 1755 (by decide +kernel) rfl, mW_at 1757 (by decide +kernel) rfl, mW_at 116 (by decide +kernel) rfl⟩
theorem lv_Mod_385 : Lv "StuckRecordModel" 385 f_Mod_legsOfAll := ⟨mW_at 1759 (by decide +kernel) rfl, mW_at 1761 (by decide +kernel) rfl, mW_at 117 (by decide +kernel) rfl⟩
theorem lv_Mod_388 : Lv "StuckRecordModel" 388 f_Mod_glueOfAll := ⟨mW_at 1763 (by decide +kernel) rfl, mW_at 1765 (by decide +kernel) rfl, mW_at 118 (by decide +kernel) rfl⟩
theorem lv_Mod_391 : Lv "StuckRecordModel" 391 f_Mod_endsThought := ⟨mW_at 1767 (by decide +kernel) rfl, mW_at 1769 (by decide +kernel) rfl, mW_at 119 (by decide +kernel) rfl⟩
theorem lv_law_74 : Lv "StuckRecordLaw" 74 f_Mod_nearest := ⟨mW_at 1771 (by decide +kernel) rfl, mW_at 1772 (by decide +kernel) rfl, mW_at 1773 (by decide +kernel) rfl⟩
theorem lv_law_78 : Lv "StuckRecordLaw" 78 f_Mod_heaps := ⟨mW_at 1775 (by decide +kernel) rfl, mW_at 1776 (by decide +kernel) rfl, mW_at 1777 (by decide +kernel) rfl⟩
theorem lv_Mod_398 : Lv "StuckRecordModel" 398 f_Mod_findsParts := ⟨mW_at 1779 (by decide +kernel) rfl, mW_at 1781 (by decide +kernel) rfl, mW_at 120 (by decide +kernel) rfl⟩
theorem lv_Mod_394 : Lv "StuckRecordModel" 394 f_Mod_areNear := ⟨mW_at 1783 (by decide +kernel) rfl, mW_at 1785 (by decide +kernel) rfl, mW_at 121 (by decide +kernel) rfl⟩
theorem lv_Mod_401 : Lv "StuckRecordModel" 401 f_Mod_partOf := ⟨mW_at 1787 (by decide +kernel) rfl, mW_at 1789 (by decide +kernel) rfl, mW_at 122 (by decide +kernel) rfl⟩
theorem lv_law_82 : Lv "StuckRecordLaw" 82 f_Mod_kind := ⟨mW_at 1791 (by decide +kernel) rfl, mW_at 1792 (by decide +kernel) rfl, mW_at 1793 (by decide +kernel) rfl⟩
theorem lv_law_86 : Lv "StuckRecordLaw" 86 f_Mod_says := ⟨mW_at 1795 (by decide +kernel) rfl, mW_at 1796 (by decide +kernel) rfl, mW_at 1797 (by decide +kernel) rfl⟩
theorem lv_Mod_410 : Lv "StuckRecordModel" 410 f_Mod_doesSay := ⟨mW_at 1799 (by decide +kernel) rfl, mW_at 1801 (by decide +kernel) rfl, mW_at 123 (by decide +kernel) rfl⟩
theorem lv_Mod_413 : Lv "StuckRecordModel" 413 f_Mod_sayingWays := ⟨mW_at 1803 (by decide +kernel) rfl, mW_at 1805 (by decide +kernel) rfl, mW_at 124 (by decide +kernel) rfl⟩
theorem lv_Mod_407 : Lv "StuckRecordModel" 407 f_Mod_added := ⟨mW_at 1807 (by decide +kernel) rfl, mW_at 1809 (by decide +kernel) rfl, mW_at 125 (by decide +kernel) rfl⟩
theorem lv_Mod_416 : Lv "StuckRecordModel" 416 f_Mod_longest := ⟨mW_at 1812 (by decide +kernel) rfl, mW_at 1814 (by decide +kernel) rfl, mW_at 126 (by decide +kernel) rfl⟩
theorem lv_law_90 : Lv "StuckRecordLaw" 90 f_Mod_pass := ⟨mW_at 1816 (by decide +kernel) rfl, mW_at 1817 (by decide +kernel) rfl, mW_at 1818 (by decide +kernel) rfl⟩
theorem lv_law_94 : Lv "StuckRecordLaw" 94 f_Mod_words := ⟨mW_at 1820 (by decide +kernel) rfl, mW_at 1821 (by decide +kernel) rfl, mW_at 1822 (by decide +kernel) rfl⟩
theorem lv_law_98 : Lv "StuckRecordLaw" 98 f_Mod_legs := ⟨mW_at 1824 (by decide +kernel) rfl, mW_at 1825 (by decide +kernel) rfl, mW_at 1826 (by decide +kernel) rfl⟩
theorem lv_Mod_425 : Lv "StuckRecordModel" 425 f_Mod_wordsOf := ⟨mW_at 1828 (by decide +kernel) rfl, mW_at 1830 (by decide +kernel) rfl, mW_at 127 (by decide +kernel) rfl⟩
theorem lv_Mod_422 : Lv "StuckRecordModel" 422 f_Mod_has := ⟨mW_at 1832 (by decide +kernel) rfl, mW_at 1834 (by decide +kernel) rfl, mW_at 128 (by decide +kernel) rfl⟩
theorem lv_law_102 : Lv "StuckRecordLaw" 102 f_Mod_order := ⟨mW_at 1836 (by decide +kernel) rfl, mW_at 1837 (by decide +kernel) rfl, mW_at 1838 (by decide +kernel) rfl⟩
theorem lv_Mod_432 : Lv "StuckRecordModel" 432 f_Mod_underOf := ⟨mW_at 1840 (by decide +kernel) rfl, mW_at 1842 (by decide +kernel) rfl, mW_at 129 (by decide +kernel) rfl⟩
theorem lv_Mod_429 : Lv "StuckRecordModel" 429 f_Mod_aheadOf := ⟨mW_at 1844 (by decide +kernel) rfl, mW_at 1846 (by decide +kernel) rfl, mW_at 130 (by decide +kernel) rfl⟩
theorem lv_Mod_435 : Lv "StuckRecordModel" 435 f_Mod_roundSet := ⟨mW_at 1848 (by decide +kernel) rfl, mW_at 1850 (by decide +kernel) rfl, mW_at 131 (by decide +kernel) rfl⟩
theorem lv_Mod_438 : Lv "StuckRecordModel" 438 f_Mod_onesOf := ⟨mW_at 1852 (by decide +kernel) rfl, mW_at 1854 (by decide +kernel) rfl, mW_at 132 (by decide +kernel) rfl⟩
theorem lv_law_106 : Lv "StuckRecordLaw" 106 f_Mod_sight := ⟨mW_at 1856 (by decide +kernel) rfl, mW_at 1857 (by decide +kernel) rfl, mW_at 1858 (by decide +kernel) rfl⟩
theorem lv_law_110 : Lv "StuckRecordLaw" 110 f_Mod_cover := ⟨mW_at 1860 (by decide +kernel) rfl, mW_at 1861 (by decide +kernel) rfl, mW_at 1862 (by decide +kernel) rfl⟩
theorem lv_Mod_444 : Lv "StuckRecordModel" 444 f_Mod_seenBy := ⟨mW_at 1864 (by decide +kernel) rfl, mW_at 1866 (by decide +kernel) rfl, mW_at 133 (by decide +kernel) rfl⟩
theorem lv_law_115 : Lv "StuckRecordLaw" 115 f_Mod_vein := ⟨mW_at 1868 (by decide +kernel) rfl, mW_at 1869 (by decide +kernel) rfl, mW_at 1870 (by decide +kernel) rfl⟩
theorem lv_law_119 : Lv "StuckRecordLaw" 119 f_Mod_wings := ⟨mW_at 1872 (by decide +kernel) rfl, mW_at 1873 (by decide +kernel) rfl, mW_at 1874 (by decide +kernel) rfl⟩
theorem lv_Mod_447 : Lv "StuckRecordModel" 447 f_Mod_isAlike := ⟨mW_at 1876 (by decide +kernel) rfl, mW_at 1878 (by decide +kernel) rfl, mW_at 134 (by decide +kernel) rfl⟩
theorem lv_Mod_450 : Lv "StuckRecordModel" 450 f_Mod_goesToNextNumbering := ⟨mW_at 1880 (by decide +kernel) rfl, mW_at 1882 (by decide +kernel) rfl, mW_at 135 (by decide +kernel) rfl⟩
theorem lv_law_123 : Lv "StuckRecordLaw" 123 f_Mod_weekday := ⟨mW_at 1884 (by decide +kernel) rfl, mW_at 1885 (by decide +kernel) rfl, mW_at 1886 (by decide +kernel) rfl⟩
theorem lv_Mod_459 : Lv "StuckRecordModel" 459 f_Mod_dayOf := ⟨mW_at 1888 (by decide +kernel) rfl, mW_at 1890 (by decide +kernel) rfl, mW_at 136 (by decide +kernel) rfl⟩
theorem lv_Mod_456 : Lv "StuckRecordModel" 456 f_Mod_daysIn := ⟨mW_at 1892 (by decide +kernel) rfl, mW_at 1894 (by decide +kernel) rfl, mW_at 137 (by decide +kernel) rfl⟩
theorem lv_Mod_453 : Lv "StuckRecordModel" 453 f_Mod_isLeap := ⟨mW_at 1896 (by decide +kernel) rfl, mW_at 1898 (by decide +kernel) rfl, mW_at 138 (by decide +kernel) rfl⟩
theorem lv_law_127 : Lv "StuckRecordLaw" 127 f_Mod_between := ⟨mW_at 1900 (by decide +kernel) rfl, mW_at 1901 (by decide +kernel) rfl, mW_at 1902 (by decide +kernel) rfl⟩
theorem lv_law_131 : Lv "StuckRecordLaw" 131 f_Mod_leans := ⟨mW_at 1905 (by decide +kernel) rfl, mW_at 1906 (by decide +kernel) rfl, mW_at 1907 (by decide +kernel) rfl⟩
theorem lv_law_135 : Lv "StuckRecordLaw" 135 f_Mod_go := ⟨mW_at 1909 (by decide +kernel) rfl, mW_at 1910 (by decide +kernel) rfl, mW_at 1911 (by decide +kernel) rfl⟩
theorem lv_Mod_463 : Lv "StuckRecordModel" 463 f_Mod_goingBy := ⟨mW_at 1913 (by decide +kernel) rfl, mW_at 1915 (by decide +kernel) rfl, mW_at 139 (by decide +kernel) rfl⟩
theorem lv_law_139 : Lv "StuckRecordLaw" 139 f_Mod_squires := ⟨mW_at 1917 (by decide +kernel) rfl, mW_at 1918 (by decide +kernel) rfl, mW_at 1919 (by decide +kernel) rfl⟩
theorem lv_law_143 : Lv "StuckRecordLaw" 143 f_Mod_held := ⟨mW_at 1922 (by decide +kernel) rfl, mW_at 1923 (by decide +kernel) rfl, mW_at 1924 (by decide +kernel) rfl⟩
theorem lv_law_147 : Lv "StuckRecordLaw" 147 f_Mod_game := ⟨mW_at 1926 (by decide +kernel) rfl, mW_at 1927 (by decide +kernel) rfl, mW_at 1928 (by decide +kernel) rfl⟩
theorem lv_Mod_467 : Lv "StuckRecordModel" 467 f_Mod_nimber := ⟨mW_at 1930 (by decide +kernel) rfl, mW_at 1932 (by decide +kernel) rfl, mW_at 140 (by decide +kernel) rfl⟩
theorem lv_law_157 : Lv "StuckRecordLaw" 157 f_Mod_image := ⟨mW_at 1934 (by decide +kernel) rfl, mW_at 1935 (by decide +kernel) rfl, mW_at 1936 (by decide +kernel) rfl⟩
theorem lv_Mod_476 : Lv "StuckRecordModel" 476 f_Mod_keeps := ⟨mW_at 1938 (by decide +kernel) rfl, mW_at 1940 (by decide +kernel) rfl, mW_at 141 (by decide +kernel) rfl⟩
theorem lv_Mod_482 : Lv "StuckRecordModel" 482 f_Mod_keepsTold := ⟨mW_at 1942 (by decide +kernel) rfl, mW_at 1944 (by decide +kernel) rfl, mW_at 142 (by decide +kernel) rfl⟩
theorem lv_Mod_485 : Lv "StuckRecordModel" 485 f_Mod_keepsLaw := ⟨mW_at 1946 (by decide +kernel) rfl, mW_at 1948 (by decide +kernel) rfl, mW_at 143 (by decide +kernel) rfl⟩
theorem lv_law_161 : Lv "StuckRecordLaw" 161 f_Mod_look := ⟨mW_at 1950 (by decide +kernel) rfl, mW_at 1951 (by decide +kernel) rfl, mW_at 1952 (by decide +kernel) rfl⟩
theorem lk_World_132 : Cond.constant "StuckRecord$World" 132 (1664525) ∈ mW := mW_at 715 (by decide +kernel) rfl
theorem lk_World_133 : Cond.constant "StuckRecord$World" 133 (1013904223) ∈ mW := mW_at 716 (by decide +kernel) rfl
theorem lk_StringUTF16_227 : Cond.constant "java/lang/StringUTF16" 227 (65536) ∈ mW := mW_at 851 (by decide +kernel) rfl
theorem lk_Character_110 : Cond.constant "java/lang/Character" 110 (55232) ∈ mW := mW_at 876 (by decide +kernel) rfl
theorem lk_Character_76 : Cond.constant "java/lang/Character" 76 (56320) ∈ mW := mW_at 880 (by decide +kernel) rfl
theorem lk_Asker_68 : Cond.constant "StuckRecord$Asker" 68 (1000000007) ∈ mW := mW_at 1039 (by decide +kernel) rfl
theorem lk_Integer_265 : Cond.constant "java/lang/Integer" 265 (1431655765) ∈ mW := mW_at 1094 (by decide +kernel) rfl
theorem lk_Integer_266 : Cond.constant "java/lang/Integer" 266 (858993459) ∈ mW := mW_at 1095 (by decide +kernel) rfl
theorem lk_Integer_267 : Cond.constant "java/lang/Integer" 267 (252645135) ∈ mW := mW_at 1096 (by decide +kernel) rfl
theorem lk_Rec_309 : Cond.constant "StuckRecord" 309 (-1000000) ∈ mW := mW_at 1171 (by decide +kernel) rfl
theorem lk_Mod_118 : Cond.constant "StuckRecordModel" 118 (1664525) ∈ mW := mW_at 1705 (by decide +kernel) rfl
theorem lk_Mod_119 : Cond.constant "StuckRecordModel" 119 (1013904223) ∈ mW := mW_at 1706 (by decide +kernel) rfl
theorem lk_Mod_110 : Cond.constant "StuckRecordModel" 110 (1000000007) ∈ mW := mW_at 1811 (by decide +kernel) rfl
theorem lk_Mod_462 : Cond.constant "StuckRecordModel" 462 (-1000000) ∈ mW := mW_at 1904 (by decide +kernel) rfl
theorem lk_Mod_466 : Cond.constant "StuckRecordModel" 466 (100000000) ∈ mW := mW_at 1921 (by decide +kernel) rfl
