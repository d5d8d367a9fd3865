theorem k215_0 : t215_0.all (chk 215) = true := by decide +kernel
theorem k215_1 : t215_1.all (chk 215) = true := by decide +kernel
theorem k215 : t215.all (chk 215) = true := by
  unfold t215
  simp only [List.all_append, Bool.and_eq_true]
  exact ⟨k215_0, k215_1⟩
theorem k216 : t216.all (chk 216) = true := by decide +kernel
theorem k217 : t217.all (chk 217) = true := by decide +kernel
theorem k218 : t218.all (chk 218) = true := by decide +kernel
theorem k219 : t219.all (chk 219) = true := by decide +kernel
theorem k220_0 : t220_0.all (chk 220) = true := by decide +kernel
theorem k220_1 : t220_1.all (chk 220) = true := by decide +kernel
theorem k220 : t220.all (chk 220) = true := by
  unfold t220
  simp only [List.all_append, Bool.and_eq_true]
  exact ⟨k220_0, k220_1⟩
theorem k221 : t221.all (chk 221) = true := by decide +kernel
theorem k222 : t222.all (chk 222) = true := by decide +kernel
theorem k223_0 : t223_0.all (chk 223) = true := by decide +kernel
theorem k223_1 : t223_1.all (chk 223) = true := by decide +kernel
theorem k223 : t223.all (chk 223) = true := by
  unfold t223
  simp only [List.all_append, Bool.and_eq_true]
  exact ⟨k223_0, k223_1⟩
theorem k224_0 : t224_0.all (chk 224) = true := by decide +kernel
theorem k224_1 : t224_1.all (chk 224) = true := by decide +kernel
theorem k224 : t224.all (chk 224) = true := by
  unfold t224
  simp only [List.all_append, Bool.and_eq_true]
  exact ⟨k224_0, k224_1⟩
theorem k225 : t225.all (chk 225) = true := by decide +kernel
theorem k226 : t226.all (chk 226) = true := by decide +kernel
theorem k227 : t227.all (chk 227) = true := by decide +kernel
theorem k228 : t228.all (chk 228) = true := by decide +kernel
theorem k229_0 : t229_0.all (chk 229) = true := by decide +kernel
theorem k229_1 : t229_1.all (chk 229) = true := by decide +kernel
theorem k229 : t229.all (chk 229) = true := by
  unfold t229
  simp only [List.all_append, Bool.and_eq_true]
  exact ⟨k229_0, k229_1⟩
theorem k230_0 : t230_0.all (chk 230) = true := by decide +kernel
theorem k230_1 : t230_1.all (chk 230) = true := by decide +kernel
theorem k230 : t230.all (chk 230) = true := by
  unfold t230
  simp only [List.all_append, Bool.and_eq_true]
  exact ⟨k230_0, k230_1⟩
theorem k231 : t231.all (chk 231) = true := by decide +kernel
theorem k232 : t232.all (chk 232) = true := by decide +kernel
theorem k233 : t233.all (chk 233) = true := by decide +kernel
theorem k234 : t234.all (chk 234) = true := by decide +kernel
theorem k235_0 : t235_0.all (chk 235) = true := by decide +kernel
theorem k235_1 : t235_1.all (chk 235) = true := by decide +kernel
theorem k235 : t235.all (chk 235) = true := by
  unfold t235
  simp only [List.all_append, Bool.and_eq_true]
  exact ⟨k235_0, k235_1⟩
theorem k236 : t236.all (chk 236) = true := by decide +kernel
theorem k237_0 : t237_0.all (chk 237) = true := by decide +kernel
theorem k237_1 : t237_1.all (chk 237) = true := by decide +kernel
theorem k237 : t237.all (chk 237) = true := by
  unfold t237
  simp only [List.all_append, Bool.and_eq_true]
  exact ⟨k237_0, k237_1⟩
theorem k238_0 : t238_0.all (chk 238) = true := by decide +kernel
theorem k238_1 : t238_1.all (chk 238) = true := by decide +kernel
theorem k238_2 : t238_2.all (chk 238) = true := by decide +kernel
theorem k238_3 : t238_3.all (chk 238) = true := by decide +kernel
theorem k238 : t238.all (chk 238) = true := by
  unfold t238
  simp only [List.all_append, Bool.and_eq_true]
  exact ⟨k238_0, ⟨k238_1, ⟨k238_2, k238_3⟩⟩⟩
theorem k239 : t239.all (chk 239) = true := by decide +kernel
theorem k240 : t240.all (chk 240) = true := by decide +kernel
theorem k241_0 : t241_0.all (chk 241) = true := by decide +kernel
theorem k241_1 : t241_1.all (chk 241) = true := by decide +kernel
theorem k241 : t241.all (chk 241) = true := by
  unfold t241
  simp only [List.all_append, Bool.and_eq_true]
  exact ⟨k241_0, k241_1⟩
theorem k242 : t242.all (chk 242) = true := by decide +kernel
theorem k243_0 : t243_0.all (chk 243) = true := by decide +kernel
theorem k243_1 : t243_1.all (chk 243) = true := by decide +kernel
theorem k243 : t243.all (chk 243) = true := by
  unfold t243
  simp only [List.all_append, Bool.and_eq_true]
  exact ⟨k243_0, k243_1⟩
theorem k244_0 : t244_0.all (chk 244) = true := by decide +kernel
theorem k244_1 : t244_1.all (chk 244) = true := by decide +kernel
theorem k244_2 : t244_2.all (chk 244) = true := by decide +kernel
theorem k244 : t244.all (chk 244) = true := by
  unfold t244
  simp only [List.all_append, Bool.and_eq_true]
  exact ⟨k244_0, ⟨k244_1, k244_2⟩⟩
theorem k245 : t245.all (chk 245) = true := by decide +kernel
theorem k246_0 : t246_0.all (chk 246) = true := by decide +kernel
theorem k246_1 : t246_1.all (chk 246) = true := by decide +kernel
theorem k246_2 : t246_2.all (chk 246) = true := by decide +kernel
theorem k246 : t246.all (chk 246) = true := by
  unfold t246
  simp only [List.all_append, Bool.and_eq_true]
  exact ⟨k246_0, ⟨k246_1, k246_2⟩⟩
theorem k247 : t247.all (chk 247) = true := by decide +kernel
theorem k248 : t248.all (chk 248) = true := by decide +kernel
theorem k249 : t249.all (chk 249) = true := by decide +kernel
theorem k250 : t250.all (chk 250) = true := by decide +kernel
theorem k251 : t251.all (chk 251) = true := by decide +kernel
theorem k252 : t252.all (chk 252) = true := by decide +kernel
theorem k253_0 : t253_0.all (chk 253) = true := by decide +kernel
theorem k253_1 : t253_1.all (chk 253) = true := by decide +kernel
theorem k253 : t253.all (chk 253) = true := by
  unfold t253
  simp only [List.all_append, Bool.and_eq_true]
  exact ⟨k253_0, k253_1⟩
theorem k254 : t254.all (chk 254) = true := by decide +kernel
theorem k255 : t255.all (chk 255) = true := by decide +kernel
theorem k256_0 : t256_0.all (chk 256) = true := by decide +kernel
theorem k256_1 : t256_1.all (chk 256) = true := by decide +kernel
theorem k256_2 : t256_2.all (chk 256) = true := by decide +kernel
theorem k256_3 : t256_3.all (chk 256) = true := by decide +kernel
theorem k256_4 : t256_4.all (chk 256) = true := by decide +kernel
theorem k256_5 : t256_5.all (chk 256) = true := by decide +kernel
theorem k256_6 : t256_6.all (chk 256) = true := by decide +kernel
theorem k256_7 : t256_7.all (chk 256) = true := by decide +kernel
theorem k256_8 : t256_8.all (chk 256) = true := by decide +kernel
theorem k256_9 : t256_9.all (chk 256) = true := by decide +kernel
theorem k256_10 : t256_10.all (chk 256) = true := by decide +kernel
theorem k256_11 : t256_11.all (chk 256) = true := by decide +kernel
theorem k256_12 : t256_12.all (chk 256) = true := by decide +kernel
theorem k256_13 : t256_13.all (chk 256) = true := by decide +kernel
theorem k256_14 : t256_14.all (chk 256) = true := by decide +kernel
theorem k256_15 : t256_15.all (chk 256) = true := by decide +kernel
theorem k256_16 : t256_16.all (chk 256) = true := by decide +kernel
theorem k256_17 : t256_17.all (chk 256) = true := by decide +kernel
theorem k256_18 : t256_18.all (chk 256) = true := by decide +kernel
theorem k256_19 : t256_19.all (chk 256) = true := by decide +kernel
theorem k256_20 : t256_20.all (chk 256) = true := by decide +kernel
theorem k256_21 : t256_21.all (chk 256) = true := by decide +kernel
theorem k256_22 : t256_22.all (chk 256) = true := by decide +kernel
theorem k256_23 : t256_23.all (chk 256) = true := by decide +kernel
theorem k256_24 : t256_24.all (chk 256) = true := by decide +kernel
theorem k256_25 : t256_25.all (chk 256) = true := by decide +kernel
theorem k256_26 : t256_26.all (chk 256) = true := by decide +kernel
theorem k256_27 : t256_27.all (chk 256) = true := by decide +kernel
theorem k256_28 : t256_28.all (chk 256) = true := by decide +kernel
theorem k256 : t256.all (chk 256) = true := by
  unfold t256
  simp only [List.all_append, Bool.and_eq_true]
  exact ⟨k256_0, ⟨k256_1, ⟨k256_2, ⟨k256_3, ⟨k256_4, ⟨k256_5, ⟨k256_6, ⟨k256_7, ⟨k256_8, ⟨k256_9, ⟨k256_10, ⟨k256_11, ⟨k256_12, ⟨k256_13, ⟨k256_14, ⟨k256_15, ⟨k256_16, ⟨k256_17, ⟨k256_18, ⟨k256_19, ⟨k256_20, ⟨k256_21, ⟨k256_22, ⟨k256_23, ⟨k256_24, ⟨k256_25, ⟨k256_26, ⟨k256_27, k256_28⟩⟩⟩⟩⟩⟩⟩⟩⟩⟩⟩⟩⟩⟩⟩⟩⟩⟩⟩⟩⟩⟩⟩⟩⟩⟩⟩⟩
