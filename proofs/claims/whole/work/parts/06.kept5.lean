theorem k213_0 : t213_0.all (chk 213) = true := by decide +kernel
theorem k213_1 : t213_1.all (chk 213) = true := by decide +kernel
theorem k213 : t213.all (chk 213) = true := by
  unfold t213
  simp only [List.all_append, Bool.and_eq_true]
  exact ⟨k213_0, k213_1⟩
theorem k214 : t214.all (chk 214) = true := by decide +kernel
theorem k215_0 : t215_0.all (chk 215) = true := by decide +kernel
theorem k215_1 : t215_1.all (chk 215) = true := by decide +kernel
theorem k215 : t215.all (chk 215) = true := by
  unfold t215
  simp only [List.all_append, Bool.and_eq_true]
  exact ⟨k215_0, k215_1⟩
theorem k216 : t216.all (chk 216) = true := by decide +kernel
theorem k217 : t217.all (chk 217) = true := by decide +kernel
theorem k218 : t218.all (chk 218) = true := by decide +kernel
theorem k219 : t219.all (chk 219) = true := by decide +kernel
theorem k220_0 : t220_0.all (chk 220) = true := by decide +kernel
theorem k220_1 : t220_1.all (chk 220) = true := by decide +kernel
theorem k220 : t220.all (chk 220) = true := by
  unfold t220
  simp only [List.all_append, Bool.and_eq_true]
  exact ⟨k220_0, k220_1⟩
theorem k221 : t221.all (chk 221) = true := by decide +kernel
theorem k222 : t222.all (chk 222) = true := by decide +kernel
theorem k223_0 : t223_0.all (chk 223) = true := by decide +kernel
theorem k223_1 : t223_1.all (chk 223) = true := by decide +kernel
theorem k223 : t223.all (chk 223) = true := by
  unfold t223
  simp only [List.all_append, Bool.and_eq_true]
  exact ⟨k223_0, k223_1⟩
theorem k224_0 : t224_0.all (chk 224) = true := by decide +kernel
theorem k224_1 : t224_1.all (chk 224) = true := by decide +kernel
theorem k224 : t224.all (chk 224) = true := by
  unfold t224
  simp only [List.all_append, Bool.and_eq_true]
  exact ⟨k224_0, k224_1⟩
theorem k225 : t225.all (chk 225) = true := by decide +kernel
theorem k226 : t226.all (chk 226) = true := by decide +kernel
theorem k227 : t227.all (chk 227) = true := by decide +kernel
theorem k228 : t228.all (chk 228) = true := by decide +kernel
theorem k229_0 : t229_0.all (chk 229) = true := by decide +kernel
theorem k229_1 : t229_1.all (chk 229) = true := by decide +kernel
theorem k229 : t229.all (chk 229) = true := by
  unfold t229
  simp only [List.all_append, Bool.and_eq_true]
  exact ⟨k229_0, k229_1⟩
theorem k230_0 : t230_0.all (chk 230) = true := by decide +kernel
theorem k230_1 : t230_1.all (chk 230) = true := by decide +kernel
theorem k230 : t230.all (chk 230) = true := by
  unfold t230
  simp only [List.all_append, Bool.and_eq_true]
  exact ⟨k230_0, k230_1⟩
theorem k231 : t231.all (chk 231) = true := by decide +kernel
theorem k232 : t232.all (chk 232) = true := by decide +kernel
theorem k233 : t233.all (chk 233) = true := by decide +kernel
theorem k234 : t234.all (chk 234) = true := by decide +kernel
theorem k235_0 : t235_0.all (chk 235) = true := by decide +kernel
theorem k235_1 : t235_1.all (chk 235) = true := by decide +kernel
theorem k235 : t235.all (chk 235) = true := by
  unfold t235
  simp only [List.all_append, Bool.and_eq_true]
  exact ⟨k235_0, k235_1⟩
theorem k236 : t236.all (chk 236) = true := by decide +kernel
theorem k237_0 : t237_0.all (chk 237) = true := by decide +kernel
theorem k237_1 : t237_1.all (chk 237) = true := by decide +kernel
theorem k237 : t237.all (chk 237) = true := by
  unfold t237
  simp only [List.all_append, Bool.and_eq_true]
  exact ⟨k237_0, k237_1⟩
theorem k238_0 : t238_0.all (chk 238) = true := by decide +kernel
theorem k238_1 : t238_1.all (chk 238) = true := by decide +kernel
theorem k238_2 : t238_2.all (chk 238) = true := by decide +kernel
theorem k238_3 : t238_3.all (chk 238) = true := by decide +kernel
theorem k238 : t238.all (chk 238) = true := by
  unfold t238
  simp only [List.all_append, Bool.and_eq_true]
  exact ⟨k238_0, ⟨k238_1, ⟨k238_2, k238_3⟩⟩⟩
theorem k239 : t239.all (chk 239) = true := by decide +kernel
theorem k240 : t240.all (chk 240) = true := by decide +kernel
theorem k241_0 : t241_0.all (chk 241) = true := by decide +kernel
theorem k241_1 : t241_1.all (chk 241) = true := by decide +kernel
theorem k241 : t241.all (chk 241) = true := by
  unfold t241
  simp only [List.all_append, Bool.and_eq_true]
  exact ⟨k241_0, k241_1⟩
theorem k242 : t242.all (chk 242) = true := by decide +kernel
theorem k243_0 : t243_0.all (chk 243) = true := by decide +kernel
theorem k243_1 : t243_1.all (chk 243) = true := by decide +kernel
theorem k243 : t243.all (chk 243) = true := by
  unfold t243
  simp only [List.all_append, Bool.and_eq_true]
  exact ⟨k243_0, k243_1⟩
theorem k244_0 : t244_0.all (chk 244) = true := by decide +kernel
theorem k244_1 : t244_1.all (chk 244) = true := by decide +kernel
theorem k244_2 : t244_2.all (chk 244) = true := by decide +kernel
theorem k244 : t244.all (chk 244) = true := by
  unfold t244
  simp only [List.all_append, Bool.and_eq_true]
  exact ⟨k244_0, ⟨k244_1, k244_2⟩⟩
theorem k245 : t245.all (chk 245) = true := by decide +kernel
theorem k246_0 : t246_0.all (chk 246) = true := by decide +kernel
theorem k246_1 : t246_1.all (chk 246) = true := by decide +kernel
theorem k246_2 : t246_2.all (chk 246) = true := by decide +kernel
theorem k246 : t246.all (chk 246) = true := by
  unfold t246
  simp only [List.all_append, Bool.and_eq_true]
  exact ⟨k246_0, ⟨k246_1, k246_2⟩⟩
theorem k247 : t247.all (chk 247) = true := by decide +kernel
theorem k248 : t248.all (chk 248) = true := by decide +kernel
theorem k249 : t249.all (chk 249) = true := by decide +kernel
theorem k250 : t250.all (chk 250) = true := by decide +kernel
theorem k251 : t251.all (chk 251) = true := by decide +kernel
theorem k252 : t252.all (chk 252) = true := by decide +kernel
theorem k253_0 : t253_0.all (chk 253) = true := by decide +kernel
theorem k253_1 : t253_1.all (chk 253) = true := by decide +kernel
theorem k253 : t253.all (chk 253) = true := by
  unfold t253
  simp only [List.all_append, Bool.and_eq_true]
  exact ⟨k253_0, k253_1⟩
theorem k254_0 : t254_0.all (chk 254) = true := by decide +kernel
theorem k254_1 : t254_1.all (chk 254) = true := by decide +kernel
theorem k254_2 : t254_2.all (chk 254) = true := by decide +kernel
theorem k254_3 : t254_3.all (chk 254) = true := by decide +kernel
theorem k254_4 : t254_4.all (chk 254) = true := by decide +kernel
theorem k254_5 : t254_5.all (chk 254) = true := by decide +kernel
theorem k254_6 : t254_6.all (chk 254) = true := by decide +kernel
theorem k254_7 : t254_7.all (chk 254) = true := by decide +kernel
theorem k254_8 : t254_8.all (chk 254) = true := by decide +kernel
theorem k254_9 : t254_9.all (chk 254) = true := by decide +kernel
theorem k254_10 : t254_10.all (chk 254) = true := by decide +kernel
theorem k254_11 : t254_11.all (chk 254) = true := by decide +kernel
theorem k254_12 : t254_12.all (chk 254) = true := by decide +kernel
theorem k254_13 : t254_13.all (chk 254) = true := by decide +kernel
theorem k254_14 : t254_14.all (chk 254) = true := by decide +kernel
theorem k254_15 : t254_15.all (chk 254) = true := by decide +kernel
theorem k254_16 : t254_16.all (chk 254) = true := by decide +kernel
theorem k254_17 : t254_17.all (chk 254) = true := by decide +kernel
theorem k254_18 : t254_18.all (chk 254) = true := by decide +kernel
theorem k254_19 : t254_19.all (chk 254) = true := by decide +kernel
theorem k254_20 : t254_20.all (chk 254) = true := by decide +kernel
theorem k254_21 : t254_21.all (chk 254) = true := by decide +kernel
theorem k254_22 : t254_22.all (chk 254) = true := by decide +kernel
theorem k254_23 : t254_23.all (chk 254) = true := by decide +kernel
theorem k254_24 : t254_24.all (chk 254) = true := by decide +kernel
theorem k254_25 : t254_25.all (chk 254) = true := by decide +kernel
theorem k254_26 : t254_26.all (chk 254) = true := by decide +kernel
theorem k254_27 : t254_27.all (chk 254) = true := by decide +kernel
theorem k254_28 : t254_28.all (chk 254) = true := by decide +kernel
theorem k254 : t254.all (chk 254) = true := by
  unfold t254
  simp only [List.all_append, Bool.and_eq_true]
  exact ⟨k254_0, ⟨k254_1, ⟨k254_2, ⟨k254_3, ⟨k254_4, ⟨k254_5, ⟨k254_6, ⟨k254_7, ⟨k254_8, ⟨k254_9, ⟨k254_10, ⟨k254_11, ⟨k254_12, ⟨k254_13, ⟨k254_14, ⟨k254_15, ⟨k254_16, ⟨k254_17, ⟨k254_18, ⟨k254_19, ⟨k254_20, ⟨k254_21, ⟨k254_22, ⟨k254_23, ⟨k254_24, ⟨k254_25, ⟨k254_26, ⟨k254_27, k254_28⟩⟩⟩⟩⟩⟩⟩⟩⟩⟩⟩⟩⟩⟩⟩⟩⟩⟩⟩⟩⟩⟩⟩⟩⟩⟩⟩⟩
