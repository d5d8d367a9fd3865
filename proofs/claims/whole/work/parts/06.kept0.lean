theorem k0 : t0.all (chk 0) = true := by decide +kernel
theorem k1 : t1.all (chk 1) = true := by decide +kernel
theorem k2 : t2.all (chk 2) = true := by decide +kernel
theorem k3 : t3.all (chk 3) = true := by decide +kernel
theorem k4 : t4.all (chk 4) = true := by decide +kernel
theorem k5 : t5.all (chk 5) = true := by decide +kernel
theorem k6 : t6.all (chk 6) = true := by decide +kernel
theorem k7 : t7.all (chk 7) = true := by decide +kernel
theorem k8 : t8.all (chk 8) = true := by decide +kernel
theorem k9 : t9.all (chk 9) = true := by decide +kernel
theorem k10 : t10.all (chk 10) = true := by decide +kernel
theorem k11 : t11.all (chk 11) = true := by decide +kernel
theorem k12 : t12.all (chk 12) = true := by decide +kernel
theorem k13 : t13.all (chk 13) = true := by decide +kernel
theorem k14 : t14.all (chk 14) = true := by decide +kernel
theorem k15 : t15.all (chk 15) = true := by decide +kernel
theorem k16 : t16.all (chk 16) = true := by decide +kernel
theorem k17 : t17.all (chk 17) = true := by decide +kernel
theorem k18 : t18.all (chk 18) = true := by decide +kernel
theorem k19 : t19.all (chk 19) = true := by decide +kernel
theorem k20 : t20.all (chk 20) = true := by decide +kernel
theorem k21 : t21.all (chk 21) = true := by decide +kernel
theorem k22_0 : t22_0.all (chk 22) = true := by decide +kernel
theorem k22_1 : t22_1.all (chk 22) = true := by decide +kernel
theorem k22 : t22.all (chk 22) = true := by
  unfold t22
  simp only [List.all_append, Bool.and_eq_true]
  exact ⟨k22_0, k22_1⟩
theorem k23 : t23.all (chk 23) = true := by decide +kernel
theorem k24_0 : t24_0.all (chk 24) = true := by decide +kernel
theorem k24_1 : t24_1.all (chk 24) = true := by decide +kernel
theorem k24 : t24.all (chk 24) = true := by
  unfold t24
  simp only [List.all_append, Bool.and_eq_true]
  exact ⟨k24_0, k24_1⟩
theorem k25 : t25.all (chk 25) = true := by decide +kernel
theorem k26 : t26.all (chk 26) = true := by decide +kernel
theorem k27 : t27.all (chk 27) = true := by decide +kernel
theorem k28 : t28.all (chk 28) = true := by decide +kernel
theorem k29 : t29.all (chk 29) = true := by decide +kernel
theorem k30 : t30.all (chk 30) = true := by decide +kernel
theorem k31 : t31.all (chk 31) = true := by decide +kernel
theorem k32 : t32.all (chk 32) = true := by decide +kernel
theorem k33 : t33.all (chk 33) = true := by decide +kernel
theorem k34_0 : t34_0.all (chk 34) = true := by decide +kernel
theorem k34_1 : t34_1.all (chk 34) = true := by decide +kernel
theorem k34 : t34.all (chk 34) = true := by
  unfold t34
  simp only [List.all_append, Bool.and_eq_true]
  exact ⟨k34_0, k34_1⟩
theorem k35 : t35.all (chk 35) = true := by decide +kernel
theorem k36 : t36.all (chk 36) = true := by decide +kernel
theorem k37_0 : t37_0.all (chk 37) = true := by decide +kernel
theorem k37_1 : t37_1.all (chk 37) = true := by decide +kernel
theorem k37 : t37.all (chk 37) = true := by
  unfold t37
  simp only [List.all_append, Bool.and_eq_true]
  exact ⟨k37_0, k37_1⟩
theorem k38_0 : t38_0.all (chk 38) = true := by decide +kernel
theorem k38_1 : t38_1.all (chk 38) = true := by decide +kernel
theorem k38 : t38.all (chk 38) = true := by
  unfold t38
  simp only [List.all_append, Bool.and_eq_true]
  exact ⟨k38_0, k38_1⟩
theorem k39 : t39.all (chk 39) = true := by decide +kernel
theorem k40 : t40.all (chk 40) = true := by decide +kernel
theorem k41 : t41.all (chk 41) = true := by decide +kernel
theorem k42 : t42.all (chk 42) = true := by decide +kernel
