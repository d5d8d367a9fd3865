theorem k43 : t43.all (chk 43) = true := by decide +kernel
theorem k44 : t44.all (chk 44) = true := by decide +kernel
theorem k45 : t45.all (chk 45) = true := by decide +kernel
theorem k46 : t46.all (chk 46) = true := by decide +kernel
theorem k47 : t47.all (chk 47) = true := by decide +kernel
theorem k48 : t48.all (chk 48) = true := by decide +kernel
theorem k49 : t49.all (chk 49) = true := by decide +kernel
theorem k50_0 : t50_0.all (chk 50) = true := by decide +kernel
theorem k50_1 : t50_1.all (chk 50) = true := by decide +kernel
theorem k50 : t50.all (chk 50) = true := by
  unfold t50
  simp only [List.all_append, Bool.and_eq_true]
  exact ⟨k50_0, k50_1⟩
theorem k51 : t51.all (chk 51) = true := by decide +kernel
theorem k52 : t52.all (chk 52) = true := by decide +kernel
theorem k53_0 : t53_0.all (chk 53) = true := by decide +kernel
theorem k53_1 : t53_1.all (chk 53) = true := by decide +kernel
theorem k53 : t53.all (chk 53) = true := by
  unfold t53
  simp only [List.all_append, Bool.and_eq_true]
  exact ⟨k53_0, k53_1⟩
theorem k54 : t54.all (chk 54) = true := by decide +kernel
theorem k55 : t55.all (chk 55) = true := by decide +kernel
theorem k56 : t56.all (chk 56) = true := by decide +kernel
theorem k57 : t57.all (chk 57) = true := by decide +kernel
theorem k58 : t58.all (chk 58) = true := by decide +kernel
theorem k59 : t59.all (chk 59) = true := by decide +kernel
theorem k60 : t60.all (chk 60) = true := by decide +kernel
theorem k61 : t61.all (chk 61) = true := by decide +kernel
theorem k62 : t62.all (chk 62) = true := by decide +kernel
theorem k63 : t63.all (chk 63) = true := by decide +kernel
theorem k64 : t64.all (chk 64) = true := by decide +kernel
theorem k65 : t65.all (chk 65) = true := by decide +kernel
theorem k66 : t66.all (chk 66) = true := by decide +kernel
theorem k67_0 : t67_0.all (chk 67) = true := by decide +kernel
theorem k67_1 : t67_1.all (chk 67) = true := by decide +kernel
theorem k67 : t67.all (chk 67) = true := by
  unfold t67
  simp only [List.all_append, Bool.and_eq_true]
  exact ⟨k67_0, k67_1⟩
theorem k68_0 : t68_0.all (chk 68) = true := by decide +kernel
theorem k68_1 : t68_1.all (chk 68) = true := by decide +kernel
theorem k68_2 : t68_2.all (chk 68) = true := by decide +kernel
theorem k68 : t68.all (chk 68) = true := by
  unfold t68
  simp only [List.all_append, Bool.and_eq_true]
  exact ⟨k68_0, ⟨k68_1, k68_2⟩⟩
theorem k69 : t69.all (chk 69) = true := by decide +kernel
theorem k70 : t70.all (chk 70) = true := by decide +kernel
theorem k71 : t71.all (chk 71) = true := by decide +kernel
theorem k72 : t72.all (chk 72) = true := by decide +kernel
theorem k73 : t73.all (chk 73) = true := by decide +kernel
theorem k74 : t74.all (chk 74) = true := by decide +kernel
theorem k75 : t75.all (chk 75) = true := by decide +kernel
theorem k76_0 : t76_0.all (chk 76) = true := by decide +kernel
theorem k76_1 : t76_1.all (chk 76) = true := by decide +kernel
theorem k76 : t76.all (chk 76) = true := by
  unfold t76
  simp only [List.all_append, Bool.and_eq_true]
  exact ⟨k76_0, k76_1⟩
theorem k77 : t77.all (chk 77) = true := by decide +kernel
theorem k78_0 : t78_0.all (chk 78) = true := by decide +kernel
theorem k78_1 : t78_1.all (chk 78) = true := by decide +kernel
theorem k78 : t78.all (chk 78) = true := by
  unfold t78
  simp only [List.all_append, Bool.and_eq_true]
  exact ⟨k78_0, k78_1⟩
theorem k79_0 : t79_0.all (chk 79) = true := by decide +kernel
theorem k79_1 : t79_1.all (chk 79) = true := by decide +kernel
theorem k79 : t79.all (chk 79) = true := by
  unfold t79
  simp only [List.all_append, Bool.and_eq_true]
  exact ⟨k79_0, k79_1⟩
theorem k80 : t80.all (chk 80) = true := by decide +kernel
theorem k81 : t81.all (chk 81) = true := by decide +kernel
theorem k82 : t82.all (chk 82) = true := by decide +kernel
theorem k83_0 : t83_0.all (chk 83) = true := by decide +kernel
theorem k83_1 : t83_1.all (chk 83) = true := by decide +kernel
theorem k83 : t83.all (chk 83) = true := by
  unfold t83
  simp only [List.all_append, Bool.and_eq_true]
  exact ⟨k83_0, k83_1⟩
theorem k84 : t84.all (chk 84) = true := by decide +kernel
