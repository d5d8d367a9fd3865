theorem k128 : t128.all (chk 128) = true := by decide +kernel
theorem k129_0 : t129_0.all (chk 129) = true := by decide +kernel
theorem k129_1 : t129_1.all (chk 129) = true := by decide +kernel
theorem k129 : t129.all (chk 129) = true := by
  unfold t129
  simp only [List.all_append, Bool.and_eq_true]
  exact ⟨k129_0, k129_1⟩
theorem k130 : t130.all (chk 130) = true := by decide +kernel
theorem k131_0 : t131_0.all (chk 131) = true := by decide +kernel
theorem k131_1 : t131_1.all (chk 131) = true := by decide +kernel
theorem k131 : t131.all (chk 131) = true := by
  unfold t131
  simp only [List.all_append, Bool.and_eq_true]
  exact ⟨k131_0, k131_1⟩
theorem k132 : t132.all (chk 132) = true := by decide +kernel
theorem k133 : t133.all (chk 133) = true := by decide +kernel
theorem k134 : t134.all (chk 134) = true := by decide +kernel
theorem k135 : t135.all (chk 135) = true := by decide +kernel
theorem k136 : t136.all (chk 136) = true := by decide +kernel
theorem k137 : t137.all (chk 137) = true := by decide +kernel
theorem k138 : t138.all (chk 138) = true := by decide +kernel
theorem k139 : t139.all (chk 139) = true := by decide +kernel
theorem k140 : t140.all (chk 140) = true := by decide +kernel
theorem k141 : t141.all (chk 141) = true := by decide +kernel
theorem k142_0 : t142_0.all (chk 142) = true := by decide +kernel
theorem k142_1 : t142_1.all (chk 142) = true := by decide +kernel
theorem k142 : t142.all (chk 142) = true := by
  unfold t142
  simp only [List.all_append, Bool.and_eq_true]
  exact ⟨k142_0, k142_1⟩
theorem k143 : t143.all (chk 143) = true := by decide +kernel
theorem k144 : t144.all (chk 144) = true := by decide +kernel
theorem k145 : t145.all (chk 145) = true := by decide +kernel
theorem k146 : t146.all (chk 146) = true := by decide +kernel
theorem k147_0 : t147_0.all (chk 147) = true := by decide +kernel
theorem k147_1 : t147_1.all (chk 147) = true := by decide +kernel
theorem k147 : t147.all (chk 147) = true := by
  unfold t147
  simp only [List.all_append, Bool.and_eq_true]
  exact ⟨k147_0, k147_1⟩
theorem k148 : t148.all (chk 148) = true := by decide +kernel
theorem k149 : t149.all (chk 149) = true := by decide +kernel
theorem k150 : t150.all (chk 150) = true := by decide +kernel
theorem k151 : t151.all (chk 151) = true := by decide +kernel
theorem k152 : t152.all (chk 152) = true := by decide +kernel
theorem k153 : t153.all (chk 153) = true := by decide +kernel
theorem k154 : t154.all (chk 154) = true := by decide +kernel
theorem k155 : t155.all (chk 155) = true := by decide +kernel
theorem k156 : t156.all (chk 156) = true := by decide +kernel
theorem k157 : t157.all (chk 157) = true := by decide +kernel
theorem k158_0 : t158_0.all (chk 158) = true := by decide +kernel
theorem k158_1 : t158_1.all (chk 158) = true := by decide +kernel
theorem k158_2 : t158_2.all (chk 158) = true := by decide +kernel
theorem k158 : t158.all (chk 158) = true := by
  unfold t158
  simp only [List.all_append, Bool.and_eq_true]
  exact ⟨k158_0, ⟨k158_1, k158_2⟩⟩
theorem k159 : t159.all (chk 159) = true := by decide +kernel
theorem k160 : t160.all (chk 160) = true := by decide +kernel
theorem k161 : t161.all (chk 161) = true := by decide +kernel
theorem k162 : t162.all (chk 162) = true := by decide +kernel
theorem k163 : t163.all (chk 163) = true := by decide +kernel
theorem k164 : t164.all (chk 164) = true := by decide +kernel
theorem k165 : t165.all (chk 165) = true := by decide +kernel
theorem k166 : t166.all (chk 166) = true := by decide +kernel
theorem k167 : t167.all (chk 167) = true := by decide +kernel
theorem k168 : t168.all (chk 168) = true := by decide +kernel
theorem k169 : t169.all (chk 169) = true := by decide +kernel
