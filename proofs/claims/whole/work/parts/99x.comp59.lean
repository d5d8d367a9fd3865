/-! THE LAW: its loop, and the whole. -/
theorem and63 (x : Int32) : ∃ n, n < 64 ∧ x &&& nI 63 = nI n := by
  refine ⟨(x.toBitVec &&& BitVec.ofNat 32 63).toNat, ?_, ?_⟩
  · rw [BitVec.toNat_and]
    have h : x.toBitVec.toNat &&& (BitVec.ofNat 32 63).toNat ≤ (BitVec.ofNat 32 63).toNat := Nat.and_le_right
    have e : (BitVec.ofNat 32 63).toNat = 63 := by decide
    omega
  · apply Int32.toBitVec_inj.1
    show x.toBitVec &&& BitVec.ofNat 32 63 = BitVec.ofNat 32 _
    rw [BitVec.ofNat_toNat, BitVec.setWidth_eq]
theorem gt_6 {i L : Nat} (hi : i < 2 ^ 20) (hL : L < 2 ^ 20) : nI L - nI 6 < nI i ↔ L < i + 6 := by
  by_cases h : 6 ≤ L
  · rw [nI_subE rfl rfl h]
    constructor
    · intro z
      rcases Nat.lt_or_ge L (i + 6) with h1 | h1
      · exact h1
      · exact absurd z (nI_nlt (by omega) (by omega))
    · intro z
      exact nI_lt (by omega) (by omega)
  · have hneg : nI L - nI 6 < 0 := by
      rcases (show L = 0 ∨ L = 1 ∨ L = 2 ∨ L = 3 ∨ L = 4 ∨ L = 5 by omega) with rfl | rfl | rfl | rfl | rfl | rfl <;> decide
    refine ⟨fun _ => by omega, fun _ => ?_⟩
    have h0 : ¬ nI i < 0 := nI_pos (by omega)
    rw [Int32.lt_iff_toInt_lt] at hneg h0 ⊢
    omega
section LAWL
variable {E : Nat × Nat} {b s0 L N0 U0' : Nat} {sc : Nat → Int32} {Q : Option Value → Mm → Prop}
set_option maxRecDepth 40000 in
theorem law_loop (hL : L ≤ 3072) : ∀ (d i k T : Nat) (M : Mm) (S : St), LI E b s0 L sc N0 U0' T k M S → i + 6 * d ≤ L → L < i + 6 * d + 6 → T + 99 * d + 200 < 2 ^ 20 → (∀ (M2 : Mm) (S2 : St) (T2 k2 : Nat), LI E b s0 L sc N0 U0' T2 k2 M2 S2 → k2 = k + d → Q (some (.int (nI 1))) M2) → J E 254 18 [.ref s0, .ref b, .ref (b + 277), .int (nI i)] [] M Q
  | 0, i, k, T, M, S, hLI, h1, h2, hT, K => by
    obtain ⟨_, _, _, _, _, _, ⟨c1, c2, c3, c4⟩, _⟩ := id hLI
    refine J_p 2 (ls' := [_, _, _, _]) rfl ?_
    refine J_len rfl (Or.inl c1) c2 ?_
    refine J_p 2 (ls' := [_, _, _, _]) rfl ?_
    refine J_igt rfl (fun _ => ?_) (fun y => absurd ((gt_6 (by omega) (by omega)).mpr (by omega)) y)
    refine J_p 1 (ls' := [_, _, _, _]) rfl ?_
    exact J_retB rfl (by decide) (K M S T k hLI rfl)
  | d + 1, i, k, T, M, S, hLI, h1, h2, hT, K => by
    obtain ⟨_, _, _, _, _, _, ⟨c1, c2, c3, c4⟩, _⟩ := id hLI
    have hi6 : i + 6 ≤ L := by omega
    have back : ∀ (M2 : Mm) (S2 : St), LI E b s0 L sc N0 U0' (T + 99) (k + 1) M2 S2 → J E 254 1604 [.ref s0, .ref b, .ref (b + 277), .int (nI i)] [] M2 Q := fun M2 S2 h => by
      refine J_p 2 (ls' := [_, _, _, .int (nI i + nI 6)]) rfl ?_
      rw [nI_add i 6]
      exact law_loop hL d (i + 6) (k + 1) (T + 99) M2 S2 h (by omega) (by omega) (by omega) (fun M3 S3 T3 k3 h3 e3 => K M3 S3 T3 k3 h3 (by omega))
    refine J_p 2 (ls' := [_, _, _, _]) rfl ?_
    refine J_len rfl (Or.inl c1) c2 ?_
    refine J_p 2 (ls' := [_, _, _, _]) rfl ?_
    refine J_igt rfl (fun y => absurd ((gt_6 (by omega) (by omega)).mp y) (by omega)) (fun _ => ?_)
    refine J_p 2 (ls' := [_, _, _, _]) rfl ?_
    refine J_ia (n := i) (L := L) rfl rfl (Or.inr c1) c2 (by omega) (by omega) (congrFun c4 i) ?_
    refine J_p 2 (ls' := [_, _, _, _]) rfl ?_
    obtain ⟨n, n64, en⟩ := and63 (sc i)
    rw [en]
    by_cases c45 : n < 45
    · rcases (show n = 0 ∨ n = 1 ∨ n = 2 ∨ n = 3 ∨ n = 4 ∨ n = 5 ∨ n = 6 ∨ n = 7 ∨ n = 8 ∨ n = 9 ∨ n = 10 ∨ n = 11 ∨ n = 12 ∨ n = 13 ∨ n = 14 ∨ n = 15 ∨ n = 16 ∨ n = 17 ∨ n = 18 ∨ n = 19 ∨ n = 20 ∨ n = 21 ∨ n = 22 ∨ n = 23 ∨ n = 24 ∨ n = 25 ∨ n = 26 ∨ n = 27 ∨ n = 28 ∨ n = 29 ∨ n = 30 ∨ n = 31 ∨ n = 32 ∨ n = 33 ∨ n = 34 ∨ n = 35 ∨ n = 36 ∨ n = 37 ∨ n = 38 ∨ n = 39 ∨ n = 40 ∨ n = 41 ∨ n = 42 ∨ n = 43 ∨ n = 44 by omega) with rfl | rfl | rfl | rfl | rfl | rfl | rfl | rfl | rfl | rfl | rfl | rfl | rfl | rfl | rfl | rfl | rfl | rfl | rfl | rfl | rfl | rfl | rfl | rfl | rfl | rfl | rfl | rfl | rfl | rfl | rfl | rfl | rfl | rfl | rfl | rfl | rfl | rfl | rfl | rfl | rfl | rfl | rfl | rfl | rfl
      · refine J_sw1 rfl rfl rfl ?_
        exact law_0 hLI hi6 hL (by omega) back
      · refine J_sw1 rfl rfl rfl ?_
        exact law_1 hLI hi6 hL (by omega) back
      · refine J_sw1 rfl rfl rfl ?_
        exact law_2 hLI hi6 hL (by omega) back
      · refine J_sw1 rfl rfl rfl ?_
        exact law_3 hLI hi6 hL (by omega) back
      · refine J_sw1 rfl rfl rfl ?_
        exact law_4 hLI hi6 hL (by omega) back
      · refine J_sw1 rfl rfl rfl ?_
        exact law_5 hLI hi6 hL (by omega) back
      · refine J_sw1 rfl rfl rfl ?_
        exact law_6 hLI hi6 hL (by omega) back
      · refine J_sw1 rfl rfl rfl ?_
        exact law_7 hLI hi6 hL (by omega) back
      · refine J_sw1 rfl rfl rfl ?_
        exact law_8 hLI hi6 hL (by omega) back
      · refine J_sw1 rfl rfl rfl ?_
        exact law_9 hLI hi6 hL (by omega) back
      · refine J_sw1 rfl rfl rfl ?_
        exact law_10 hLI hi6 hL (by omega) back
      · refine J_sw1 rfl rfl rfl ?_
        exact law_11 hLI hi6 hL (by omega) back
      · refine J_sw1 rfl rfl rfl ?_
        exact law_12 hLI hi6 hL (by omega) back
      · refine J_sw1 rfl rfl rfl ?_
        exact law_13 hLI hi6 hL (by omega) back
      · refine J_sw1 rfl rfl rfl ?_
        exact law_14 hLI hi6 hL (by omega) back
      · refine J_sw1 rfl rfl rfl ?_
        exact law_15 hLI hi6 hL (by omega) back
      · refine J_sw1 rfl rfl rfl ?_
        exact law_16 hLI hi6 hL (by omega) back
      · refine J_sw1 rfl rfl rfl ?_
        exact law_17 hLI hi6 hL (by omega) back
      · refine J_sw1 rfl rfl rfl ?_
        exact law_18 hLI hi6 hL (by omega) back
      · refine J_sw1 rfl rfl rfl ?_
        exact law_19 hLI hi6 hL (by omega) back
      · refine J_sw1 rfl rfl rfl ?_
        exact law_20 hLI hi6 hL (by omega) back
      · refine J_sw1 rfl rfl rfl ?_
        exact law_21 hLI hi6 hL (by omega) back
      · refine J_sw1 rfl rfl rfl ?_
        exact law_22 hLI hi6 hL (by omega) back
      · refine J_sw1 rfl rfl rfl ?_
        exact law_23 hLI hi6 hL (by omega) back
      · refine J_sw1 rfl rfl rfl ?_
        exact law_24 hLI hi6 hL (by omega) back
      · refine J_sw1 rfl rfl rfl ?_
        exact law_25 hLI hi6 hL (by omega) back
      · refine J_sw1 rfl rfl rfl ?_
        exact law_26 hLI hi6 hL (by omega) back
      · refine J_sw1 rfl rfl rfl ?_
        exact law_27 hLI hi6 hL (by omega) back
      · refine J_sw1 rfl rfl rfl ?_
        exact law_28 hLI hi6 hL (by omega) back
      · refine J_sw1 rfl rfl rfl ?_
        exact law_29 hLI hi6 hL (by omega) back
      · refine J_sw1 rfl rfl rfl ?_
        exact law_30 hLI hi6 hL (by omega) back
      · refine J_sw1 rfl rfl rfl ?_
        exact law_31 hLI hi6 hL (by omega) back
      · refine J_sw1 rfl rfl rfl ?_
        exact law_32 hLI hi6 hL (by omega) back
      · refine J_sw1 rfl rfl rfl ?_
        exact law_33 hLI hi6 hL (by omega) back
      · refine J_sw1 rfl rfl rfl ?_
        exact law_34 hLI hi6 hL (by omega) back
      · refine J_sw1 rfl rfl rfl ?_
        exact law_35 hLI hi6 hL (by omega) back
      · refine J_sw1 rfl rfl rfl ?_
        exact law_36 hLI hi6 hL (by omega) back
      · refine J_sw1 rfl rfl rfl ?_
        exact law_37 hLI hi6 hL (by omega) back
      · refine J_sw1 rfl rfl rfl ?_
        exact law_38 hLI hi6 hL (by omega) back
      · refine J_sw1 rfl rfl rfl ?_
        exact law_39 hLI hi6 hL (by omega) back
      · refine J_sw1 rfl rfl rfl ?_
        exact law_40 hLI hi6 hL (by omega) back
      · refine J_sw1 rfl rfl rfl ?_
        exact law_41 hLI hi6 hL (by omega) back
      · refine J_sw1 rfl rfl rfl ?_
        exact law_42 hLI hi6 hL (by omega) back
      · refine J_sw1 rfl rfl rfl ?_
        exact law_43 hLI hi6 hL (by omega) back
      · refine J_sw1 rfl rfl rfl ?_
        exact law_44 hLI hi6 hL (by omega) back
    · refine J_swD (n := 45) rfl ?_ rfl rfl ?_
      · unfold ixN
        rw [nI_toInt (by omega), if_neg (by omega)]
      · exact back M S (hLI.same (by omega))
set_option maxRecDepth 40000 in
theorem law_J {M : Mm} (hE : STa E M) (h1 : mT M s0 = 19) (h2 : mS M s0 = L) (h3 : s0 < mN M) (hL : L ≤ 3072) (K : ∀ M2 : Mm, mN M2 ≤ mN M + 247000 → mU M2 ≤ mU M + 1600000 → Q (some (.int (nI 1))) M2) : J E 254 0 [.ref s0, U0, U0, U0] [] M Q := by
  obtain ⟨b, hb⟩ : ∃ b, mN M = b := ⟨_, rfl⟩
  refine J_p 0 rfl ?_
  refine J_new rfl ?_
  rw [hb]
  refine J_p 1 (ls' := [_, _, _, _]) rfl ?_
  have x0 : Nx M (nC M 10 6) b := Nx.nC (by omega)
  refine J_call rfl rfl rfl rfl rfl (c_brokerNew (by rw [nC_T, if_pos hb.symm]) (by rw [nC_I, if_pos hb.symm]) (by rw [nC_R, if_pos hb.symm]) (by show mN M + 1 = _; omega) (fun M1 hN1 hU1 hX1 hCR => ?_))
  show J _ _ _ _ _ _ _
  have u1 : mU M1 = mU M + 4351 := by
    rw [hU1]
    show mU M + 6 + 4345 = _
    omega
  have x1 : Nx M M1 b := x0.trans hX1
  refine J_p 1 (ls' := [_, .ref b, _, _]) rfl ?_
  refine J_new rfl ?_
  rw [hN1]
  refine J_p 1 (ls' := [_, _, _, _]) rfl ?_
  have x2 : Nx M1 (nC M1 11 17) (b + 277) := Nx.nC (by omega)
  refine J_call rfl rfl rfl rfl rfl (s_init (by rw [nC_T, if_pos hN1.symm]) (by rw [nC_I, if_pos hN1.symm]) (by show mN M1 + 1 = _; omega) (fun M2 hRR hS2 hN2 hU2 => ?_))
  show J _ _ _ _ _ _ _
  have u2 : mU M2 = mU M + 28778 := by
    rw [hU2]
    show mU M1 + 17 + 24410 = _
    omega
  clear hU1 hU2
  have x3 : Nx M1 M2 (b + 277) := x2.trans hS2
  have hR : CR M2 b S00 := hCR M2 x3 (by omega)
  have x4 : Nx M M2 b := x1.trans (x3.le (by omega))
  have hF : Fm (fun _ => False) M M2 := by
    rw [← hb] at x4
    exact x4.fm (by omega)
  have e0 := x4 s0 (by omega)
  refine J_p 3 (ls' := [_, _, .ref (b + 277), .int (nI 0)]) rfl ?_
  have hlen : L < 0 + 6 * (L / 6) + 6 := by omega
  refine law_loop (L := L) (N0 := b + 537) (U0' := mU M + 31778) (sc := mI M s0) hL (L / 6) 0 0 0 M2 S00 ⟨hR, hRR, hE.fr hF, Wf00, fun K h => (by cases h), ⟨fun q x l hx => (by cases hx), fun K h => (by cases h)⟩, ⟨by rw [(x4.T (by omega)).1]; exact h1, by rw [(x4.T (by omega)).2]; exact h2, by omega, e0.2.1⟩, ?_, ?_⟩ (by omega) hlen (by omega) (fun M3 S3 T3 k3 h e3 => ?_)
  · have e : pNS S00 = 247 := rfl
    rw [e, hN2]
    omega
  · have e : pUS S00 = 1000 := rfl
    rw [e, hN2, u2]
    omega
  · obtain ⟨_, _, _, _, _, _, _, b1, b2⟩ := h
    refine K M3 ?_ ?_
    · rw [hb]
      omega
    · omega
end LAWL