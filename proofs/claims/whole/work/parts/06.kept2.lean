theorem k85 : t85.all (chk 85) = true := by decide +kernel
theorem k86_0 : t86_0.all (chk 86) = true := by decide +kernel
theorem k86_1 : t86_1.all (chk 86) = true := by decide +kernel
theorem k86 : t86.all (chk 86) = true := by
  unfold t86
  simp only [List.all_append, Bool.and_eq_true]
  exact ⟨k86_0, k86_1⟩
theorem k87 : t87.all (chk 87) = true := by decide +kernel
theorem k88 : t88.all (chk 88) = true := by decide +kernel
theorem k89 : t89.all (chk 89) = true := by decide +kernel
theorem k90_0 : t90_0.all (chk 90) = true := by decide +kernel
theorem k90_1 : t90_1.all (chk 90) = true := by decide +kernel
theorem k90 : t90.all (chk 90) = true := by
  unfold t90
  simp only [List.all_append, Bool.and_eq_true]
  exact ⟨k90_0, k90_1⟩
theorem k91_0 : t91_0.all (chk 91) = true := by decide +kernel
theorem k91_1 : t91_1.all (chk 91) = true := by decide +kernel
theorem k91 : t91.all (chk 91) = true := by
  unfold t91
  simp only [List.all_append, Bool.and_eq_true]
  exact ⟨k91_0, k91_1⟩
theorem k92 : t92.all (chk 92) = true := by decide +kernel
theorem k93 : t93.all (chk 93) = true := by decide +kernel
theorem k94 : t94.all (chk 94) = true := by decide +kernel
theorem k95_0 : t95_0.all (chk 95) = true := by decide +kernel
theorem k95_1 : t95_1.all (chk 95) = true := by decide +kernel
theorem k95 : t95.all (chk 95) = true := by
  unfold t95
  simp only [List.all_append, Bool.and_eq_true]
  exact ⟨k95_0, k95_1⟩
theorem k96 : t96.all (chk 96) = true := by decide +kernel
theorem k97 : t97.all (chk 97) = true := by decide +kernel
theorem k98 : t98.all (chk 98) = true := by decide +kernel
theorem k99 : t99.all (chk 99) = true := by decide +kernel
theorem k100 : t100.all (chk 100) = true := by decide +kernel
theorem k101_0 : t101_0.all (chk 101) = true := by decide +kernel
theorem k101_1 : t101_1.all (chk 101) = true := by decide +kernel
theorem k101 : t101.all (chk 101) = true := by
  unfold t101
  simp only [List.all_append, Bool.and_eq_true]
  exact ⟨k101_0, k101_1⟩
theorem k102_0 : t102_0.all (chk 102) = true := by decide +kernel
theorem k102_1 : t102_1.all (chk 102) = true := by decide +kernel
theorem k102 : t102.all (chk 102) = true := by
  unfold t102
  simp only [List.all_append, Bool.and_eq_true]
  exact ⟨k102_0, k102_1⟩
theorem k103 : t103.all (chk 103) = true := by decide +kernel
theorem k104_0 : t104_0.all (chk 104) = true := by decide +kernel
theorem k104_1 : t104_1.all (chk 104) = true := by decide +kernel
theorem k104 : t104.all (chk 104) = true := by
  unfold t104
  simp only [List.all_append, Bool.and_eq_true]
  exact ⟨k104_0, k104_1⟩
theorem k105_0 : t105_0.all (chk 105) = true := by decide +kernel
theorem k105_1 : t105_1.all (chk 105) = true := by decide +kernel
theorem k105 : t105.all (chk 105) = true := by
  unfold t105
  simp only [List.all_append, Bool.and_eq_true]
  exact ⟨k105_0, k105_1⟩
theorem k106 : t106.all (chk 106) = true := by decide +kernel
theorem k107 : t107.all (chk 107) = true := by decide +kernel
theorem k108 : t108.all (chk 108) = true := by decide +kernel
theorem k109_0 : t109_0.all (chk 109) = true := by decide +kernel
theorem k109_1 : t109_1.all (chk 109) = true := by decide +kernel
theorem k109 : t109.all (chk 109) = true := by
  unfold t109
  simp only [List.all_append, Bool.and_eq_true]
  exact ⟨k109_0, k109_1⟩
theorem k110 : t110.all (chk 110) = true := by decide +kernel
theorem k111 : t111.all (chk 111) = true := by decide +kernel
theorem k112 : t112.all (chk 112) = true := by decide +kernel
theorem k113_0 : t113_0.all (chk 113) = true := by decide +kernel
theorem k113_1 : t113_1.all (chk 113) = true := by decide +kernel
theorem k113 : t113.all (chk 113) = true := by
  unfold t113
  simp only [List.all_append, Bool.and_eq_true]
  exact ⟨k113_0, k113_1⟩
theorem k114 : t114.all (chk 114) = true := by decide +kernel
theorem k115 : t115.all (chk 115) = true := by decide +kernel
theorem k116 : t116.all (chk 116) = true := by decide +kernel
theorem k117 : t117.all (chk 117) = true := by decide +kernel
theorem k118 : t118.all (chk 118) = true := by decide +kernel
theorem k119 : t119.all (chk 119) = true := by decide +kernel
theorem k120 : t120.all (chk 120) = true := by decide +kernel
theorem k121 : t121.all (chk 121) = true := by decide +kernel
theorem k122 : t122.all (chk 122) = true := by decide +kernel
theorem k123 : t123.all (chk 123) = true := by decide +kernel
theorem k124 : t124.all (chk 124) = true := by decide +kernel
theorem k125 : t125.all (chk 125) = true := by decide +kernel
theorem k126 : t126.all (chk 126) = true := by decide +kernel
theorem k127_0 : t127_0.all (chk 127) = true := by decide +kernel
theorem k127_1 : t127_1.all (chk 127) = true := by decide +kernel
theorem k127 : t127.all (chk 127) = true := by
  unfold t127
  simp only [List.all_append, Bool.and_eq_true]
  exact ⟨k127_0, k127_1⟩
