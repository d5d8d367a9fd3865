/-! THE COMPONENT: the next is given. -/
theorem rrB_lt {P : Nat → Bool} {nc l1 c : Nat} : ∀ d k, rrB P nc l1 d k = some c → P c = true
  | 0, _, h => by cases h
  | d + 1, k, h => by
    unfold rrB at h
    cases e : P ((l1 + k) % nc) with
    | true =>
      rw [e] at h
      cases h
      exact e
    | false =>
      rw [e] at h
      exact rrB_lt d (k + 1) h
theorem whoA_k {C : List Co} {q ex l1 c : Nat} (h : whoA C q ex l1 = some c) : ∃ k : Co, C[c]? = some k ∧ k_lf k = 0 ∧ k_q k = q ∧ 0 < k_cr k := by
  have fin : atA C q c = true → 0 < crA C c → ∃ k : Co, C[c]? = some k ∧ k_lf k = 0 ∧ k_q k = q ∧ 0 < k_cr k := fun h1 h2 => by
    obtain ⟨k, e1, e2, e3⟩ := atA_of h1
    unfold crA at h2
    rw [getD_of e1] at h2
    exact ⟨k, e1, e2, e3, h2⟩
  unfold whoA at h
  split at h
  · cases e : fcA C q C.length 0 with
    | none => rw [e] at h; cases h
    | some c' =>
      rw [e] at h
      simp only at h
      by_cases z : 0 < crA C c'
      · rw [if_pos z] at h
        cases h
        exact fin (fcA_at _ _ _ _ _ e) z
      · rw [if_neg z] at h
        cases h
  · rw [rrB_A] at h
    have := rrB_lt _ _ h
    rw [Bool.and_eq_true, decide_eq_true_eq] at this
    exact fin this.1 this.2
section COMP22
variable {E : Nat × Nat} {M M' : Mm} {W : Nat → Prop} {Q : Option Value → Mm → Prop} {w t g a c q p i b m : Nat} {o o' f f' : Nat → Nat} {F F' : Nat → Nat → Nat} {A : Ab} {k : Co} {d : Da} {x x' : Qa} {ms : List Ma} {l l' : La} {cs : List Ca} {what : Int32}
theorem c_give1 (hS : OS M w t g o F) (hC : OC M w t g o F A) (hx : (a_q A)[q]? = some x) (hl : (q_ls x)[i]? = some l) (hk : (a_c A)[c]? = some k) (h0 : 0 < k_cr k) (h9 : k_cr k ≤ 9) (K : ∀ (M' : Mm) (F' : Nat → Nat → Nat), Fm (Ww w t) M M' → Nw M M' → OS M' w t g o F' → OC M' w t g o F' (aGive A q x i l c k) → Q (some (.int (nI (l_m l)))) M') : J E 78 30 [.ref w, .ref (t + 4 + 25 * q), .ref (t + 4 + 25 * q + 5 + F q i), .ref (t + 205 + c)] [] M Q := by
  have q8 : q < 8 := Nat.lt_of_lt_of_le (li hx) hC.2.1.2
  have c10 : c < 10 := Nat.lt_of_lt_of_le (li hk) hC.2.2.1.2
  have il := li hl
  have n20 := (hC.qc hx).n20
  have hQ := hS.qs q8
  have hQC := hC.qc hx
  have hL := hQC.l hl
  have fl := hQ.lt (i := i) (by omega)
  have hK := hC.kc hk
  obtain ⟨y1, y2, y3⟩ := hS.2.2.2.2.2.2.1
  have hn := hS.2.2.2.2.2.2.2
  have t3 := hQ.t3 (i := i) (by omega)
  have t1 := hS.tk c10
  refine J_p 2 (ls' := [_, _, _, _]) rfl ?_
  refine J_gi rfl t1 (hS.2.2.2.1.2.2 c c10).2.2 ?_
  refine J_p 1 (ls' := [_, _, _, _]) rfl ?_
  refine J_gi rfl hS.1.1 hC.2.2.2.2.1 ?_
  refine J_p 1 (ls' := [_, _, _, _]) rfl ?_
  refine J_gi rfl hQ.1 hQC.2.2.2.2.1 ?_
  refine J_p 1 (ls' := [_, _, _, _]) rfl ?_
  refine J_t0 (nI_add (a_n A) (q_le x)) ?_
  refine J_call rfl rfl rfl (decide_eq_true t3) rfl (c_goOut t3 ?_)
  show J _ _ _ _ _ _ _
  obtain ⟨pl, hpl⟩ : ∃ pl, pl = t + 4 + 25 * q + 5 + F q i := ⟨_, rfl⟩
  rw [← hpl] at hL t3
  rw [← hpl]
  have np : ¬ rO (mT M pl) := by rw [t3]; unfold rO; omega
  obtain ⟨M1, hM1⟩ : ∃ X, X = sI (sI (sI M pl 4 (nI 2)) pl 6 (nI c)) pl 7 (nI (a_n A + q_le x)) := ⟨_, rfl⟩
  rw [← hM1]
  have e1 : M1.1 = M.1 := by rw [hM1]; rfl
  have T1 : mT M1 = mT M := by unfold mT; rw [e1]
  have i1 : ∀ z, z ≠ pl → mI M1 z = mI M z := fun z hz => by rw [hM1, mI_s1 _ _ _ hz, mI_s1 _ _ _ hz, mI_s1 _ _ _ hz]
  have r1 : mR M1 = mR M := by rw [hM1]; rfl
  have hFp : Fm (fun z => z = pl) M M1 := by
    rw [hM1]
    exact ((Fm.sI (W := fun z => z = pl) rfl np).trans (Fm.sI rfl np)).trans (Fm.sI rfl np)
  have hF1 : Fm (Qw (t + 4 + 25 * q)) M M1 := hFp.mono (fun z (e : z = pl) => ⟨by omega, by omega⟩)
  have hL1 : CL M1 pl (outL l c (a_n A + q_le x)) (a_m A) := by
    obtain ⟨z0, z1, z2, z3, z4, z5, z6, z7, z8⟩ := hL
    refine ⟨?_, ?_, ?_, ?_, ?_, ?_, ?_, ?_, ?_⟩
    · rw [hM1]; simp only [mI_s0]; exact z0
    · rw [hM1]; simp only [mI_s0]; exact z1
    · rw [hM1]; simp only [mI_s0]; exact z2
    · rw [hM1]; simp only [mI_s0]; exact z3
    · rw [hM1]; simp only [mI_s0]; rfl
    · rw [hM1]; simp only [mI_s0]; exact z5
    · rw [hM1]; simp only [mI_s0]; rfl
    · rw [hM1]; simp only [mI_s0]; rfl
    · rw [r1]; exact z8.fr hFp
  have hQ1 : QS M1 (t + 4 + 25 * q) q (F q) := hQ.sm e1 (by rw [i1 _ (by omega)]) (fun z _ _ => by rw [r1])
  have hQC1 : QC M1 (t + 4 + 25 * q) (F q) (x_ls x ((q_ls x).set i (outL l c (a_n A + q_le x)))) (a_m A) := QC.lx hQ hQC hl hFp (fun z _ _ h3 => ⟨i1 z (by omega), by rw [r1]⟩) (by rw [← hpl]; exact hL1)
  have hS1 := hS.setq hF1 q8 hQ1
  have hC1 := OC.setq hS hC hF1 q8 hQC1
  have hK1 := hC1.kc (c := c) (k := k) hk
  have t11 := hS1.tk c10
  refine J_p 2 (ls' := [_, _, _, _]) rfl ?_
  refine J_gi rfl t11 hK1.2.1 ?_
  refine J_p 2 (ls' := [_, _, _, _]) rfl ?_
  refine J_t0 (nI_subE (m := k_cr k) (n := 1) rfl rfl h0) ?_
  refine J_putI rfl t11 (Or.inl rfl) ?_
  refine J_p 2 (ls' := [_, _, _, _]) rfl ?_
  refine J_gi (z := k_gt k) rfl (show mT M1 (t + 205 + c) = 1 from t11) (by rw [mI_s0, if_neg (by omega)]; exact hK1.2.2.1) ?_
  refine J_p 2 (ls' := [_, _, _, _]) rfl ?_
  refine J_putI rfl (show mT M1 (t + 205 + c) = 1 from t11) (Or.inl rfl) ?_
  obtain ⟨M3, hM3⟩ : ∃ X, X = sI (sI M1 (t + 205 + c) 2 (nI (k_cr k - 1))) (t + 205 + c) 3 (k_gt k + nI 1) := ⟨_, rfl⟩
  rw [← hM3]
  have n1 : ¬ rO (mT M1 (t + 205 + c)) := by rw [t11]; unfold rO; omega
  have hF3 : Fm (fun z => z = t + 205 + c) M1 M3 := by
    rw [hM3]
    exact (Fm.sI (W := fun z => z = t + 205 + c) rfl n1).trans (Fm.sI rfl n1)
  have hS3 := hS1.setk hF3 c10 (by rw [hM3, mI_s0, if_neg (by omega), mI_s0, if_neg (by omega)])
  have hC3 := OC.setk (k := (k_q k, k_cr k - 1, k_lf k, k_gt k + nI 1)) hS1 hC1 hF3 c10 ⟨by rw [hM3, mI_s0, if_neg (by omega), mI_s0, if_neg (by omega)]; exact hK1.1, by rw [hM3, mI_s0, if_neg (by omega), mI_s0, if_pos rfl], by rw [hM3, mI_s0, if_pos rfl], by rw [hM3, mI_s0, if_neg (by omega), mI_s0, if_neg (by omega)]; exact hK1.2.2.2⟩
  have hQ3 := hS3.qs q8
  have hx3 : (a_q (w_c (w_q A ((a_q A).set q (x_ls x ((q_ls x).set i (outL l c (a_n A + q_le x)))))) ((a_c A).set c (k_q k, k_cr k - 1, k_lf k, k_gt k + nI 1))))[q]? = some (x_ls x ((q_ls x).set i (outL l c (a_n A + q_le x)))) := set_get hx
  have hQC3 := hC3.qc hx3
  refine J_p 2 (ls' := [_, _, _, _]) rfl ?_
  refine J_gi rfl (hS3.tk c10) (hS3.2.2.2.1.2.2 c c10).2.2 ?_
  refine J_t0 (nI_subE (m := c + 1) (n := 1) rfl rfl (by omega)).symm ?_
  refine J_putI rfl hQ3.1 (Or.inl rfl) ?_
  have hQC4 := QC.s_l1 hQ3 hQC3 (v := c + 1)
  have hQ4 : QS (sI M3 (t + 4 + 25 * q) 9 (nI (c + 1) - nI 1)) (t + 4 + 25 * q) q _ := hQ3.sm rfl (by rw [mI_s0, if_neg (by omega)]) (fun z _ _ => rfl)
  have n6 : ¬ rO (mT M3 (t + 4 + 25 * q)) := by rw [hQ3.1]; unfold rO; omega
  refine J_p 2 (ls' := [_, _, _, _]) rfl ?_
  refine J_gi rfl hQ4.1 hQC4.2.2.2.2.2.2.2.2.1 ?_
  refine J_p 2 (ls' := [_, _, _, _]) rfl ?_
  refine J_putI rfl hQ4.1 (Or.inl rfl) ?_
  have hQC5 := QC.s_gv hQ4 hQC4 (v := q_gv x + nI 1)
  have hQ5 := hQ4.sm (M' := sI (sI M3 (t + 4 + 25 * q) 9 (nI (c + 1) - nI 1)) (t + 4 + 25 * q) 10 (q_gv x + nI 1)) rfl (by rw [mI_s0, if_neg (by omega)]) (fun z _ _ => rfl)
  have hF5 : Fm (Qw (t + 4 + 25 * q)) M3 (sI (sI M3 (t + 4 + 25 * q) 9 (nI (c + 1) - nI 1)) (t + 4 + 25 * q) 10 (q_gv x + nI 1)) := (Fm.sI (W := Qw (t + 4 + 25 * q)) ⟨by omega, by omega⟩ n6).trans (Fm.sI ⟨by omega, by omega⟩ n6)
  have hS5 := hS3.setq hF5 q8 hQ5
  have hC5 := OC.setq hS3 hC3 hF5 q8 hQC5
  have T3 : mT M3 = mT M1 := by rw [hM3]; rfl
  refine J_p 1 (ls' := [_, _, _, _]) rfl ?_
  refine J_gi (z := nI (l_m l)) rfl (show mT M3 pl = 3 by rw [T3, T1]; exact t3) (by rw [mI_s1 _ _ _ (by omega), mI_s1 _ _ _ (by omega), hM3, mI_s1 _ _ _ (by omega), mI_s1 _ _ _ (by omega)]; exact hL1.1) ?_
  refine J_ret rfl rfl rfl (K _ _ ((hF1.mono (fun z e => e.ww q8)).trans ((hF3.mono (fun z (e : z = _) => by unfold Ww; omega)).trans (hF5.mono (fun z e => e.ww q8)))) ⟨?_, ?_, ?_⟩ hS5 ?_)
  · show M3.1 = M.1
    rw [hM3]
    exact e1
  · show mN M3 = mN M
    rw [hM3, hM1]
    rfl
  · show mU M3 = mU M
    rw [hM3, hM1]
    rfl
  · have ea : aGive A q x i l c k = w_q (w_c (w_q A ((a_q A).set q (x_ls x ((q_ls x).set i (outL l c (a_n A + q_le x)))))) ((a_c A).set c (k_q k, k_cr k - 1, k_lf k, k_gt k + nI 1))) (((a_q A).set q (x_ls x ((q_ls x).set i (outL l c (a_n A + q_le x))))).set q (x_gv (x_l1 (x_ls x ((q_ls x).set i (outL l c (a_n A + q_le x)))) (c + 1)) (q_gv x + nI 1))) := by
      rw [List.set_set]
      rfl
    rw [ea]
    exact hC5
theorem c_giveNext (hS : OS M w t g o F) (hC : OC M w t g o F A) (hw : okK A) (hx : (a_q A)[q]? = some x) (ho : okL (a_m A) (q_ls x)) (he : q_ex x ≤ 1) (h1 : q_l1 x ≤ (a_c A).length) (kf : giveA A q = none → Q (some (.int (-1))) M) (kt : ∀ (B : Ab) (m : Nat) (M' : Mm) (F' : Nat → Nat → Nat), giveA A q = some (B, m) → Fm (Ww w t) M M' → Nw M M' → OS M' w t g o F' → OC M' w t g o F' B → Q (some (.int (nI m))) M') : J E 78 0 [.ref w, .ref (t + 4 + 25 * q), U0, U0] [] M Q := by
  have q8 : q < 8 := Nat.lt_of_lt_of_le (li hx) hC.2.1.2
  have n10 := hC.2.2.1.2
  have n20 := (hC.qc hx).n20
  have hQ := hS.qs q8
  have hQC := hC.qc hx
  have m1 : ¬ 0 ≤ (-1 : Int32).toInt := by decide
  have F28 : giveA A q = none → ∀ v2 v3 : Value, J E 78 28 [.ref w, .ref (t + 4 + 25 * q), v2, v3] [] M Q := fun h v2 v3 => by
    refine J_p 1 (ls' := [_, _, _, _]) rfl ?_
    exact J_ret rfl rfl rfl (kf h)
  refine J_p 3 (ls' := [_, _, _, _]) rfl ?_
  refine J_call rfl rfl rfl (decide_eq_true hQ.1) rfl (c_nextBut (G := 0) hQ hQC ho (by omega) ?_)
  show J _ _ _ _ _ _ _
  rw [nxG_0]
  cases en : nxA (a_m A) (q_ls x) (q_ls x).length with
  | none =>
    have eg : giveA A q = none := by
      unfold giveA
      rw [hx]
      simp only [en]
    refine J_call rfl rfl rfl (decide_eq_true hQ.1) rfl (c_letterAt hQ hQC (fun j l' g1 g2 g3 g4 => ?_) (fun _ => ?_))
    · exact absurd (ixN_some g1).2.2.1 m1
    · show J _ _ _ _ _ _ _
      refine J_p 4 (ls' := [_, _, .null, _]) rfl ?_
      refine J_call rfl rfl rfl (decide_eq_true hS.1.1) rfl (c_receiverIn hS hC hw hx he h1 ?_)
      show J _ _ _ _ _ _ _
      refine J_call rfl rfl rfl (decide_eq_true hS.1.1) rfl (c_consumerAt hS hC (fun c' k g1 g2 g3 g4 => ?_) (fun g1 => ?_))
      · show J _ _ _ _ _ _ _
        refine J_p 2 (ls' := [_, _, _, .ref (t + 205 + c')]) rfl ?_
        exact J_brT rfl rfl rfl (F28 eg _ _)
      · show J _ _ _ _ _ _ _
        refine J_p 2 (ls' := [_, _, _, .null]) rfl ?_
        exact J_brT rfl rfl rfl (F28 eg _ _)
  | some i =>
    obtain ⟨il, _⟩ := nxA_lt _ _ _ _ en
    obtain ⟨l, hl⟩ := get_of (l := q_ls x) (i := i) il
    refine J_call rfl rfl rfl (decide_eq_true hQ.1) rfl (c_letterAt hQ hQC (fun j l' g1 g2 g3 g4 => ?_) (fun g1 => ?_))
    · show J _ _ _ _ _ _ _
      have e : i = j := (nI_eq (by omega) (by omega)).mp g4
      subst e
      refine J_p 4 (ls' := [_, _, .ref (t + 4 + 25 * q + 5 + F q i), _]) rfl ?_
      refine J_call rfl rfl rfl (decide_eq_true hS.1.1) rfl (c_receiverIn hS hC hw hx he h1 ?_)
      show J _ _ _ _ _ _ _
      cases ew : whoA (a_c A) q (q_ex x) (q_l1 x) with
      | none =>
        have eg : giveA A q = none := by
          unfold giveA
          rw [hx]
          simp only [en, ew]
        refine J_call rfl rfl rfl (decide_eq_true hS.1.1) rfl (c_consumerAt hS hC (fun c' k g1 g2 g3 g4 => ?_) (fun g1 => ?_))
        · exact absurd (ixN_some g1).2.2.1 m1
        · show J _ _ _ _ _ _ _
          refine J_p 2 (ls' := [_, _, _, .null]) rfl ?_
          refine J_brF rfl rfl rfl ?_
          refine J_p 1 (ls' := [_, _, _, _]) rfl ?_
          exact J_brF rfl rfl rfl (F28 eg _ _)
      | some c =>
        obtain ⟨k, hk, k1, k2, k3⟩ := whoA_k ew
        have hkl := li hk
        obtain ⟨w1, w2, w3⟩ := hw c k hk
        have eg : giveA A q = some (aGive A q x i l c k, l_m l) := by
          unfold giveA
          rw [hx]
          simp only [en, ew, hl, hk]
        refine J_call rfl rfl rfl (decide_eq_true hS.1.1) rfl (c_consumerAt hS hC (fun c' k' g1 g2 g3 g4 => ?_) (fun g1 => ?_))
        · show J _ _ _ _ _ _ _
          have ec : c = c' := (nI_eq (by omega) (by omega)).mp g4
          subst ec
          refine J_p 2 (ls' := [_, _, _, .ref (t + 205 + c)]) rfl ?_
          refine J_brF rfl rfl rfl ?_
          refine J_p 1 (ls' := [_, _, _, _]) rfl ?_
          refine J_brT rfl rfl rfl ?_
          exact c_give1 hS hC hx hl hk k3 w3 (fun M' F' z1 z2 z3 z4 => kt _ _ M' F' eg z1 z2 z3 z4)
        · rw [show oI (some c) = nI c from rfl, ixN_nI hkl (by omega)] at g1
          cases g1
    · rw [show oI (some i) = nI i from rfl, ixN_nI il (by omega)] at g1
      cases g1
end COMP22