theorem k170 : t170.all (chk 170) = true := by decide +kernel
theorem k171 : t171.all (chk 171) = true := by decide +kernel
theorem k172 : t172.all (chk 172) = true := by decide +kernel
theorem k173 : t173.all (chk 173) = true := by decide +kernel
theorem k174 : t174.all (chk 174) = true := by decide +kernel
theorem k175_0 : t175_0.all (chk 175) = true := by decide +kernel
theorem k175_1 : t175_1.all (chk 175) = true := by decide +kernel
theorem k175_2 : t175_2.all (chk 175) = true := by decide +kernel
theorem k175_3 : t175_3.all (chk 175) = true := by decide +kernel
theorem k175 : t175.all (chk 175) = true := by
  unfold t175
  simp only [List.all_append, Bool.and_eq_true]
  exact ⟨k175_0, ⟨k175_1, ⟨k175_2, k175_3⟩⟩⟩
theorem k176 : t176.all (chk 176) = true := by decide +kernel
theorem k177 : t177.all (chk 177) = true := by decide +kernel
theorem k178_0 : t178_0.all (chk 178) = true := by decide +kernel
theorem k178_1 : t178_1.all (chk 178) = true := by decide +kernel
theorem k178_2 : t178_2.all (chk 178) = true := by decide +kernel
theorem k178_3 : t178_3.all (chk 178) = true := by decide +kernel
theorem k178 : t178.all (chk 178) = true := by
  unfold t178
  simp only [List.all_append, Bool.and_eq_true]
  exact ⟨k178_0, ⟨k178_1, ⟨k178_2, k178_3⟩⟩⟩
theorem k179 : t179.all (chk 179) = true := by decide +kernel
theorem k180 : t180.all (chk 180) = true := by decide +kernel
theorem k181_0 : t181_0.all (chk 181) = true := by decide +kernel
theorem k181_1 : t181_1.all (chk 181) = true := by decide +kernel
theorem k181 : t181.all (chk 181) = true := by
  unfold t181
  simp only [List.all_append, Bool.and_eq_true]
  exact ⟨k181_0, k181_1⟩
theorem k182 : t182.all (chk 182) = true := by decide +kernel
theorem k183_0 : t183_0.all (chk 183) = true := by decide +kernel
theorem k183_1 : t183_1.all (chk 183) = true := by decide +kernel
theorem k183 : t183.all (chk 183) = true := by
  unfold t183
  simp only [List.all_append, Bool.and_eq_true]
  exact ⟨k183_0, k183_1⟩
theorem k184 : t184.all (chk 184) = true := by decide +kernel
theorem k185 : t185.all (chk 185) = true := by decide +kernel
theorem k186_0 : t186_0.all (chk 186) = true := by decide +kernel
theorem k186_1 : t186_1.all (chk 186) = true := by decide +kernel
theorem k186_2 : t186_2.all (chk 186) = true := by decide +kernel
theorem k186 : t186.all (chk 186) = true := by
  unfold t186
  simp only [List.all_append, Bool.and_eq_true]
  exact ⟨k186_0, ⟨k186_1, k186_2⟩⟩
theorem k187_0 : t187_0.all (chk 187) = true := by decide +kernel
theorem k187_1 : t187_1.all (chk 187) = true := by decide +kernel
theorem k187_2 : t187_2.all (chk 187) = true := by decide +kernel
theorem k187 : t187.all (chk 187) = true := by
  unfold t187
  simp only [List.all_append, Bool.and_eq_true]
  exact ⟨k187_0, ⟨k187_1, k187_2⟩⟩
theorem k188 : t188.all (chk 188) = true := by decide +kernel
theorem k189_0 : t189_0.all (chk 189) = true := by decide +kernel
theorem k189_1 : t189_1.all (chk 189) = true := by decide +kernel
theorem k189 : t189.all (chk 189) = true := by
  unfold t189
  simp only [List.all_append, Bool.and_eq_true]
  exact ⟨k189_0, k189_1⟩
theorem k190_0 : t190_0.all (chk 190) = true := by decide +kernel
theorem k190_1 : t190_1.all (chk 190) = true := by decide +kernel
theorem k190_2 : t190_2.all (chk 190) = true := by decide +kernel
theorem k190 : t190.all (chk 190) = true := by
  unfold t190
  simp only [List.all_append, Bool.and_eq_true]
  exact ⟨k190_0, ⟨k190_1, k190_2⟩⟩
theorem k191 : t191.all (chk 191) = true := by decide +kernel
theorem k192_0 : t192_0.all (chk 192) = true := by decide +kernel
theorem k192_1 : t192_1.all (chk 192) = true := by decide +kernel
theorem k192 : t192.all (chk 192) = true := by
  unfold t192
  simp only [List.all_append, Bool.and_eq_true]
  exact ⟨k192_0, k192_1⟩
theorem k193_0 : t193_0.all (chk 193) = true := by decide +kernel
theorem k193_1 : t193_1.all (chk 193) = true := by decide +kernel
theorem k193_2 : t193_2.all (chk 193) = true := by decide +kernel
theorem k193_3 : t193_3.all (chk 193) = true := by decide +kernel
theorem k193 : t193.all (chk 193) = true := by
  unfold t193
  simp only [List.all_append, Bool.and_eq_true]
  exact ⟨k193_0, ⟨k193_1, ⟨k193_2, k193_3⟩⟩⟩
theorem k194 : t194.all (chk 194) = true := by decide +kernel
theorem k195 : t195.all (chk 195) = true := by decide +kernel
theorem k196_0 : t196_0.all (chk 196) = true := by decide +kernel
theorem k196_1 : t196_1.all (chk 196) = true := by decide +kernel
theorem k196 : t196.all (chk 196) = true := by
  unfold t196
  simp only [List.all_append, Bool.and_eq_true]
  exact ⟨k196_0, k196_1⟩
theorem k197_0 : t197_0.all (chk 197) = true := by decide +kernel
theorem k197_1 : t197_1.all (chk 197) = true := by decide +kernel
theorem k197_2 : t197_2.all (chk 197) = true := by decide +kernel
theorem k197 : t197.all (chk 197) = true := by
  unfold t197
  simp only [List.all_append, Bool.and_eq_true]
  exact ⟨k197_0, ⟨k197_1, k197_2⟩⟩
theorem k198 : t198.all (chk 198) = true := by decide +kernel
theorem k199 : t199.all (chk 199) = true := by decide +kernel
theorem k200 : t200.all (chk 200) = true := by decide +kernel
theorem k201 : t201.all (chk 201) = true := by decide +kernel
theorem k202 : t202.all (chk 202) = true := by decide +kernel
theorem k203 : t203.all (chk 203) = true := by decide +kernel
theorem k204 : t204.all (chk 204) = true := by decide +kernel
theorem k205 : t205.all (chk 205) = true := by decide +kernel
theorem k206 : t206.all (chk 206) = true := by decide +kernel
theorem k207_0 : t207_0.all (chk 207) = true := by decide +kernel
theorem k207_1 : t207_1.all (chk 207) = true := by decide +kernel
theorem k207 : t207.all (chk 207) = true := by
  unfold t207
  simp only [List.all_append, Bool.and_eq_true]
  exact ⟨k207_0, k207_1⟩
theorem k208_0 : t208_0.all (chk 208) = true := by decide +kernel
theorem k208_1 : t208_1.all (chk 208) = true := by decide +kernel
theorem k208 : t208.all (chk 208) = true := by
  unfold t208
  simp only [List.all_append, Bool.and_eq_true]
  exact ⟨k208_0, k208_1⟩
theorem k209_0 : t209_0.all (chk 209) = true := by decide +kernel
theorem k209_1 : t209_1.all (chk 209) = true := by decide +kernel
theorem k209 : t209.all (chk 209) = true := by
  unfold t209
  simp only [List.all_append, Bool.and_eq_true]
  exact ⟨k209_0, k209_1⟩
theorem k210_0 : t210_0.all (chk 210) = true := by decide +kernel
theorem k210_1 : t210_1.all (chk 210) = true := by decide +kernel
theorem k210_2 : t210_2.all (chk 210) = true := by decide +kernel
theorem k210 : t210.all (chk 210) = true := by
  unfold t210
  simp only [List.all_append, Bool.and_eq_true]
  exact ⟨k210_0, ⟨k210_1, k210_2⟩⟩
theorem k211_0 : t211_0.all (chk 211) = true := by decide +kernel
theorem k211_1 : t211_1.all (chk 211) = true := by decide +kernel
theorem k211 : t211.all (chk 211) = true := by
  unfold t211
  simp only [List.all_append, Bool.and_eq_true]
  exact ⟨k211_0, k211_1⟩
theorem k212 : t212.all (chk 212) = true := by decide +kernel
