/-! THE COMPONENT: a letter dies, a delivery fails. -/
theorem STa.fr {E : Nat × Nat} {M M' : Mm} {W : Nat → Prop} (h : STa E M) (hF : Fm W M M') : STa E M' := by
  obtain ⟨⟨a1, a2, a3, a4⟩, b1, b2, b3, b4⟩ := h
  have s1 := hF.2.2 E.1 a3 (Or.inr (Or.inr a1))
  have s2 := hF.2.2 E.2 b3 (Or.inr (Or.inr b1))
  unfold STa mT mS
  rw [s1.1, s1.2.1, s2.1, s2.2.1]
  exact ⟨⟨a1, a2, Nat.lt_of_lt_of_le a3 hF.1, a4⟩, b1, b2, Nat.lt_of_lt_of_le b3 hF.1, b4⟩
theorem J_getO {E : Nat × Nat} {M : Mm} {Q : Option Value → Mm → Prop} {mi pc nx tg x y idx a : Nat} {ls rr : List Value} (hq : tb mi pc = some (.getfield idx, nx, tg, x, y, .null)) (ht : mT M a = x) (k : J E mi nx ls (rvO (mR M a y) :: rr) M Q) : J E mi pc ls (.ref a :: rr) M Q := by
  cases e : mR M a y with
  | none =>
    rw [e] at k
    exact J_getN hq ht e k
  | some b =>
    rw [e] at k
    exact J_getR hq ht e k
section COMP20
variable {E : Nat × Nat} {M M' : Mm} {W : Nat → Prop} {Q : Option Value → Mm → Prop} {w t g a c q p i b m : Nat} {o o' f f' : Nat → Nat} {F F' : Nat → Nat → Nat} {A : Ab} {k : Co} {d : Da} {x x' : Qa} {ms : List Ma} {l l' : La} {cs : List Ca} {what : Int32}
theorem QC.lx (hS : QS M a q f) (hC : QC M a f x ms) (hl : (q_ls x)[i]? = some l) (hF : Fm W M M') (e : ∀ b, a ≤ b → b < a + 25 → b ≠ a + 5 + f i → mI M' b = mI M b ∧ mR M' b = mR M b) (hL : CL M' (a + 5 + f i) l' ms) : QC M' a f (x_ls x ((q_ls x).set i l')) ms := by
  have n20 := hC.n20
  have il := li hl
  obtain ⟨c1, c2, c3, c4, c5, c6, c7, c8, c9, c10, c11, c12⟩ := hC
  have ea := (e a (by omega) (by omega) (by omega)).1
  refine ⟨c1.fr (e _ (by omega) (by omega) (by omega)).1 (e _ (by omega) (by omega) (by omega)).1 (e _ (by omega) (by omega) (by omega)).1, ⟨by show _ = nI ((q_ls x).set i l').length; rw [List.length_set, ea]; exact c2.1, by show ((q_ls x).set i l').length ≤ 20; rw [List.length_set]; exact c2.2⟩, by rw [ea]; exact c3, by rw [ea]; exact c4, by rw [ea]; exact c5, by rw [ea]; exact c6, by rw [ea]; exact c7, by rw [ea]; exact c8, by rw [ea]; exact c9, by rw [ea]; exact c10, by rw [ea]; exact c11, fun j z hj => ?_⟩
  rcases set_or hj with ⟨rfl, rfl⟩ | ⟨hne, hj⟩
  · exact hL
  · have jl := li hj
    have fj := hS.lt (i := j) (by omega)
    have ne : a + 5 + f j ≠ a + 5 + f i := fun e2 => hne (hS.2.2.2.2.2.2.2.2.1 j i (by omega) (by omega) (by omega))
    exact (c12 j z hj).fr hF (e _ (by omega) (by omega) ne).1 (e _ (by omega) (by omega) ne).2
theorem c_die (hS : OS M w t g o F) (hC : OC M w t g o F A) (hx : (a_q A)[q]? = some x) (hl : (q_ls x)[i]? = some l) (hcs : CaR M cs (some b)) (k : ∀ (M' : Mm) (o' : Nat → Nat) (F' : Nat → Nat → Nat), Fm (Ww w t) M M' → Nw M M' → OS M' w t g o' F' → OC M' w t g o' F' (aDie A q x i (l_m l) cs) → Q none M') : J E 84 0 [.ref w, .ref (t + 4 + 25 * q), .int (nI i), .ref b, U0] [] M Q := by
  have q8 : q < 8 := Nat.lt_of_lt_of_le (li hx) hC.2.1.2
  have il := li hl
  have n20 := (hC.qc hx).n20
  have hQ := hS.qs q8
  have hQC := hC.qc hx
  refine J_p 2 (ls' := [_, _, _, _, _]) rfl ?_
  refine J_call rfl rfl rfl (decide_eq_true hQ.1) rfl (c_letterAt hQ hQC (fun j l' h1 g2 g3 g4 => ?_) (fun h => ?_))
  · show J _ _ _ _ _ _ _
    have e : i = j := (nI_eq (by omega) (by omega)).mp g4
    subst e
    have hL := hQC.l hl
    refine J_p 2 (ls' := [_, _, _, _, .ref (t + 4 + 25 * q + 5 + F q i)]) rfl ?_
    refine J_brF rfl rfl rfl ?_
    refine J_p 2 (ls' := [_, _, _, _, _]) rfl ?_
    refine J_gi rfl (hQ.t3 (by omega)) hL.1 ?_
    refine J_p 2 (ls' := [_, _, _, _, _]) rfl ?_
    refine J_call rfl rfl rfl (decide_eq_true hS.1.1) rfl (c_addDead hS hC hx hcs (fun M1 o1 hF1 hN1 _ hS1 hC1 => ?_))
    show J _ _ _ _ _ _ _
    have hx1 : (a_q (w_d (w_q A ((a_q A).set q (x_di x (q_di x + nI 1)))) (roomD (a_d A) ++ [(l_m l, q, a_n A, cs)])))[q]? = some (x_di x (q_di x + nI 1)) := set_get hx
    refine J_p 2 (ls' := [_, _, _, _, _]) rfl ?_
    refine J_call rfl rfl rfl (decide_eq_true (hS1.qs q8).1) rfl (c_removeAt (hS1.qs q8) (hC1.qc hx1) il (fun M2 f2 hF2 hN2 hQ2 hQC2 => ?_))
    show J _ _ _ _ _ _ _
    have ea : aDie A q x i (l_m l) cs = w_q (w_d (w_q A ((a_q A).set q (x_di x (q_di x + nI 1)))) (roomD (a_d A) ++ [(l_m l, q, a_n A, cs)])) (((a_q A).set q (x_di x (q_di x + nI 1))).set q (x_ls (x_di x (q_di x + nI 1)) ((q_ls x).eraseIdx i))) := by
      rw [List.set_set]
      rfl
    refine J_ret rfl rfl rfl (k M2 o1 (upF F q f2) (hF1.trans (hF2.mono (fun z e => e.ww q8))) (hN1.trans hN2) (hS1.setq hF2 q8 hQ2) ?_)
    rw [ea]
    exact OC.setq hS1 hC1 hF2 q8 hQC2
  · rw [ixN_nI il (by omega)] at h
    cases h
theorem c_fail (hE : STa E M) (hS : OS M w t g o F) (hC : OC M w t g o F A) (hx : (a_q A)[q]? = some x) (hl : (q_ls x)[i]? = some l) (h2 : l_s l = 2) (hk : (a_c A)[l_x l]? = some k) (h9 : k_cr k ≤ 9) (hw : what = nI 3 ∨ what = nI 4) (htr : (l_c l).length < q_tr x) (h5 : q_tr x ≤ 5) (K : ∀ (M' : Mm) (o' : Nat → Nat) (F' : Nat → Nat → Nat), Fm (Ww w t) M M' → mN M' = mN M + 1 → mU M' = mU M + 6 → OS M' w t g o' F' → OC M' w t g o' F' (failL A q x i l (l_x l) what) → Q (some (.int (nI ((l_c l).length + 1)))) M') : J E 83 0 [.ref w, .ref (t + 4 + 25 * q), .int (nI i), .int what, U0, U0] [] M Q := by
  have q8 : q < 8 := Nat.lt_of_lt_of_le (li hx) hC.2.1.2
  have il := li hl
  have n20 := (hC.qc hx).n20
  have hQ := hS.qs q8
  have hQC := hC.qc hx
  refine J_p 2 (ls' := [_, _, _, _, _, _]) rfl ?_
  refine J_call rfl rfl rfl (decide_eq_true hQ.1) rfl (c_letterAt hQ hQC (fun j l' h1 g2 g3 g4 => ?_) (fun h => ?_))
  · show J _ _ _ _ _ _ _
    have e : i = j := (nI_eq (by omega) (by omega)).mp g4
    subst e
    have hL := hQC.l hl
    have fl := hQ.lt (i := i) (by omega)
    have ew : mI M (t + 4 + 25 * q + 5 + F q i) 6 = nI (l_x l) := by
      rw [hL.2.2.2.2.2.2.1]
      exact if_pos h2
    refine J_p 2 (ls' := [_, _, _, _, .ref (t + 4 + 25 * q + 5 + F q i), _]) rfl ?_
    refine J_brT rfl rfl rfl ?_
    refine J_p 2 (ls' := [_, _, _, _, _, _]) rfl ?_
    refine J_gi rfl (hQ.t3 (by omega)) ew ?_
    refine J_call rfl rfl rfl (decide_eq_true hS.1.1) rfl (c_returnCredit hS hC hk h9 (fun M1 hF1 hN1 hS1 hC1 => ?_))
    show J _ _ _ _ _ _ _
    have hx1 : (a_q (w_c A ((a_c A).set (l_x l) (kMore k))))[q]? = some x := hx
    have c10 : l_x l < 10 := Nat.lt_of_lt_of_le (li hk) hC.2.2.1.2
    have hQ1 := hS1.qs q8
    have hQC1 := hC1.qc hx1
    have hL1 := hQC1.l hl
    have hn1 := hS1.2.2.2.2.2.2.2
    obtain ⟨y1, y2, y3⟩ := hS1.2.2.2.2.2.2.1
    obtain ⟨pl, hpl⟩ : ∃ pl, pl = t + 4 + 25 * q + 5 + F q i := ⟨_, rfl⟩
    have t3 : mT M1 pl = 3 := by rw [hpl]; exact hQ1.t3 (by omega)
    rw [← hpl] at hL1
    rw [← hpl]
    have np : ¬ rO (mT M1 pl) := by rw [t3]; unfold rO; omega
    refine J_p 2 (ls' := [_, _, _, _, _, _]) rfl ?_
    refine J_gi rfl t3 hL1.2.2.2.2.2.1 ?_
    refine J_p 2 (ls' := [_, _, _, _, _, _]) rfl ?_
    refine J_t0 (nI_add (l_c l).length 1) ?_
    refine J_putI rfl t3 (Or.inl rfl) ?_
    obtain ⟨M2, hM2⟩ : ∃ X, X = sI M1 pl 5 (nI ((l_c l).length + 1)) := ⟨_, rfl⟩
    rw [← hM2]
    have N2 : mN M2 = mN M1 := by rw [hM2]; rfl
    have e2 : M2.1 = M1.1 := by rw [hM2]; rfl
    have T2 : mT M2 = mT M1 := by unfold mT; rw [e2]
    have i2 : ∀ z, z ≠ pl → mI M2 z = mI M1 z := fun z hz => by rw [hM2, mI_s1 _ _ _ hz]
    have ip2 : ∀ j, j ≠ 5 → mI M2 pl j = mI M1 pl j := fun j hj => by rw [hM2, mI_s0, if_neg hj]
    have ip5 : mI M2 pl 5 = nI ((l_c l).length + 1) := by rw [hM2, mI_s0, if_pos rfl]
    have r2 : mR M2 = mR M1 := by rw [hM2]; rfl
    have hc2 : CaR M2 (l_c l) (mR M2 pl 8) := by
      rw [r2]
      refine hL1.2.2.2.2.2.2.2.2.fr (W := fun z => z = pl) ?_
      rw [hM2]
      exact Fm.sI rfl np
    have cont : ∀ M3 : Mm, (∀ W : Nat → Prop, Fm W M2 M3) → mN M3 = mN M2 + 1 → mU M3 = mU M2 + 6 → CaR M3 ((what, nI (a_n A), nI (l_x l), nI ((l_c l).length + 1)) :: l_c l) (some (mN M2)) → J E 83 63 [.ref w, .ref (t + 4 + 25 * q), .int (nI i), .int what, .ref pl, U0] [.ref (mN M2), .ref pl] M3 Q := by
      intro M3 hF3 hN3 hU3 hc3
      have s3 : ∀ z, z < mN M1 → Sm M2 M3 z := fun z hz => (hF3 (fun _ => False)).2.2 z (by omega) (Or.inl id)
      have T3 : ∀ z, z < mN M1 → mT M3 z = mT M1 z := fun z hz => by unfold mT; rw [(s3 z hz).1, e2]
      refine J_putR rfl (by rw [T3 pl (by omega)]; exact t3) ?_
      obtain ⟨M4, hM4⟩ : ∃ X, X = sR M3 pl 8 (some (mN M2)) := ⟨_, rfl⟩
      rw [← hM4]
      have e4 : M4.1 = M3.1 := by rw [hM4]; rfl
      have T4 : ∀ z, z < mN M1 → mT M4 z = mT M1 z := fun z hz => by unfold mT; rw [e4]; exact T3 z hz
      have hF14 : Fm (fun z => z = pl) M1 M4 := by
        have f1 : Fm (fun z => z = pl) M1 M2 := by rw [hM2]; exact Fm.sI rfl np
        refine (f1.trans (hF3 _)).trans ?_
        rw [hM4]
        exact Fm.sR rfl (by rw [T3 pl (by omega)]; exact np)
      have i4 : ∀ z, z < mN M1 → mI M4 z = mI M2 z := fun z hz => by rw [hM4, mI_sR]; exact (s3 z hz).2.1
      have r4 : mR M4 pl 8 = some (mN M2) := by rw [hM4, mR_s0, if_pos rfl]
      have hN4 : mN M4 = mN M + 1 := by
        have e1 : mN M4 = mN M3 := by rw [hM4]; rfl
        rw [e1, hN3, N2, hN1.2.1]
      have hU4 : mU M4 = mU M + 6 := by
        have e1 : mU M4 = mU M3 := by rw [hM4]; rfl
        have e2 : mU M2 = mU M1 := by rw [hM2]; rfl
        rw [e1, hU3, e2, hN1.2.2]
      have hc4 : CaR M4 (failC A l (l_x l) what) (some (mN M2)) := by
        refine CaR.fr (W := fun z => z = pl) ?_ hc3
        rw [hM4]
        exact Fm.sR rfl (by rw [T3 pl (by omega)]; exact np)
      have Wq : ∀ z, z = pl → Qw (t + 4 + 25 * q) z := fun z e => ⟨by omega, by omega⟩
      have hF1' : Fm (Ww w t) M M1 := hF1.mono (fun z (e : z = _) => by unfold Ww; omega)
      refine J_p 1 (ls' := [_, _, _, _, _, _]) rfl ?_
      refine J_gi (z := nI ((l_c l).length + 1)) rfl (by rw [T4 pl (by omega)]; exact t3) (by rw [i4 pl (by omega)]; exact ip5) ?_
      refine J_p 3 (ls' := [_, _, _, _, _, .int (nI ((l_c l).length + 1))]) rfl ?_
      refine J_gi (z := nI (q_tr x)) rfl (by rw [T4 _ (by omega)]; exact hQ1.1) (by rw [i4 _ (by omega), i2 _ (by omega)]; exact hQC1.2.2.2.1) ?_
      refine J_ilt rfl (fun c => ?_) (fun c => ?_)
      · have hlt := (nI_ltI (by omega) (by omega)).mp c
        refine J_p 2 (ls' := [_, _, _, _, _, _]) rfl ?_
        refine J_gi (z := nI (a_n A)) rfl (by rw [T4 w (by omega)]; exact hS1.1.1) (by rw [i4 w (by omega), i2 w (by omega)]; exact hC1.2.2.2.2.1) ?_
        refine J_p 1 (ls' := [_, _, _, _, _, _]) rfl ?_
        refine J_call rfl rfl rfl rfl rfl (c_waitAfter ((hE.fr hF1').fr hF14) (n := (l_c l).length + 1) (by omega) (by omega) ?_)
        show J _ _ _ _ _ _ _
        refine J_p 1 (ls' := [_, _, _, _, _, _]) rfl ?_
        refine J_t0 (nI_add (a_n A) (wt ((l_c l).length + 1))) ?_
        have t34 : mT M4 pl = 3 := by rw [T4 pl (by omega)]; exact t3
        refine J_call rfl rfl rfl (decide_eq_true t34) rfl (c_rest t34 ?_)
        show J _ _ _ _ _ _ _
        obtain ⟨M5, hM5⟩ : ∃ X, X = sI (sI (sI M4 pl 4 (nI 1)) pl 6 (-1)) pl 7 (nI (a_n A + wt ((l_c l).length + 1))) := ⟨_, rfl⟩
        rw [← hM5]
        have n4 : ¬ rO (mT M4 pl) := by rw [t34]; unfold rO; omega
        have hF45 : Fm (fun z => z = pl) M4 M5 := by
          rw [hM5]
          exact ((Fm.sI (W := fun z => z = pl) rfl n4).trans (Fm.sI rfl n4)).trans (Fm.sI rfl n4)
        have hF15 := hF14.trans hF45
        have hF15q := hF15.mono Wq
        have e5 : ∀ z, z < mN M1 → z ≠ pl → mI M5 z = mI M1 z ∧ mR M5 z = mR M1 z := fun z h1 h2 => ⟨(hF15.2.2 z h1 (Or.inl h2)).2.1, (hF15.2.2 z h1 (Or.inl h2)).2.2.2⟩
        have ip : ∀ j, j ≠ 4 → j ≠ 6 → j ≠ 7 → mI M5 pl j = mI M2 pl j := fun j h1 h2 h3 => by rw [hM5, mI_s0, if_neg h3, mI_s0, if_neg h2, mI_s0, if_neg h1, i4 pl (by omega)]
        have hL5 : CL M5 pl (restL A l (l_x l) what) (a_m A) := by
          refine ⟨?_, ?_, ?_, ?_, ?_, ?_, ?_, ?_, ?_⟩
          · rw [ip 0 (by omega) (by omega) (by omega), ip2 0 (by omega)]; exact hL1.1
          · rw [ip 1 (by omega) (by omega) (by omega), ip2 1 (by omega)]; exact hL1.2.1
          · rw [ip 2 (by omega) (by omega) (by omega), ip2 2 (by omega)]; exact hL1.2.2.1
          · rw [ip 3 (by omega) (by omega) (by omega), ip2 3 (by omega)]; exact hL1.2.2.2.1
          · rw [hM5]; simp only [mI_s0]; rfl
          · rw [ip 5 (by omega) (by omega) (by omega)]; exact ip5
          · rw [hM5]; simp only [mI_s0]; rfl
          · rw [hM5]; simp only [mI_s0]; rfl
          · have er : mR M5 pl 8 = some (mN M2) := by rw [hM5]; exact r4
            rw [er]
            exact hc4.fr hF45
        have hQ5 : QS M5 (t + 4 + 25 * q) q (F q) := hQ1.fr (fun z h1 h2 => hF15.2.1 z (by omega)) (by rw [(e5 _ (by omega) (by omega)).1]) (fun z h1 h2 => (e5 z (by omega) (by omega)).2)
        have hQC5 : QC M5 (t + 4 + 25 * q) (F q) (x_ls x ((q_ls x).set i (restL A l (l_x l) what))) (a_m A) := QC.lx hQ1 hQC1 hl hF15 (fun z h1 h2 h3 => e5 z (by omega) (by omega)) (by rw [← hpl]; exact hL5)
        refine J_p 1 (ls' := [_, _, _, _, _, _]) rfl ?_
        refine J_ret rfl rfl rfl (K M5 o (upF F q (F q)) (hF1'.trans (hF15q.mono (fun z e => e.ww q8))) (by rw [← hN4, hM5]; rfl) (by rw [← hU4, hM5]; rfl) (hS1.setq hF15q q8 hQ5) ?_)
        have ef : failL A q x i l (l_x l) what = w_q (w_c A ((a_c A).set (l_x l) (kMore k))) ((a_q A).set q (x_ls x ((q_ls x).set i (restL A l (l_x l) what)))) := by
          unfold failL
          rw [if_neg (by omega), crM_eq hk]
          rfl
        rw [ef]
        exact OC.setq hS1 hC1 hF15q q8 hQC5
      · have heq : (l_c l).length + 1 = q_tr x := by
          rcases Nat.lt_or_ge ((l_c l).length + 1) (q_tr x) with z | z
          · exact absurd (nI_lt z (by omega)) c
          · omega
        obtain ⟨l4, hl4⟩ : ∃ l4 : La, l4 = (l_m l, l_s l, l_x l, l_t l, failC A l (l_x l) what) := ⟨_, rfl⟩
        have hF14q := hF14.mono Wq
        have e5 : ∀ z, z < mN M1 → z ≠ pl → mI M4 z = mI M1 z ∧ mR M4 z = mR M1 z := fun z h1 h2 => ⟨(hF14.2.2 z h1 (Or.inl h2)).2.1, (hF14.2.2 z h1 (Or.inl h2)).2.2.2⟩
        have hL4 : CL M4 pl l4 (a_m A) := by
          rw [hl4]
          refine ⟨?_, ?_, ?_, ?_, ?_, ?_, ?_, ?_, ?_⟩
          · rw [i4 pl (by omega), ip2 0 (by omega)]; exact hL1.1
          · rw [i4 pl (by omega), ip2 1 (by omega)]; exact hL1.2.1
          · rw [i4 pl (by omega), ip2 2 (by omega)]; exact hL1.2.2.1
          · rw [i4 pl (by omega), ip2 3 (by omega)]; exact hL1.2.2.2.1
          · rw [i4 pl (by omega), ip2 4 (by omega)]; exact hL1.2.2.2.2.1
          · rw [i4 pl (by omega)]; exact ip5
          · rw [i4 pl (by omega), ip2 6 (by omega)]; exact hL1.2.2.2.2.2.2.1
          · rw [i4 pl (by omega), ip2 7 (by omega)]; exact hL1.2.2.2.2.2.2.2.1
          · rw [r4]; exact hc4
        have hQ4 : QS M4 (t + 4 + 25 * q) q (F q) := hQ1.fr (fun z h1 h2 => hF14.2.1 z (by omega)) (by rw [(e5 _ (by omega) (by omega)).1]) (fun z h1 h2 => (e5 z (by omega) (by omega)).2)
        have hQC4 : QC M4 (t + 4 + 25 * q) (F q) (x_ls x ((q_ls x).set i l4)) (a_m A) := QC.lx hQ1 hQC1 hl hF14 (fun z h1 h2 h3 => e5 z (by omega) (by omega)) (by rw [← hpl]; exact hL4)
        have hS4 := hS1.setq hF14q q8 hQ4
        have hC4 := OC.setq hS1 hC1 hF14q q8 hQC4
        refine J_p 4 (ls' := [_, _, _, _, _, _]) rfl ?_
        refine J_getR rfl (by rw [T4 pl (by omega)]; exact t3) r4 ?_
        refine J_call rfl rfl rfl (decide_eq_true hS4.1.1) rfl (c_die hS4 hC4 (x := x_ls x ((q_ls x).set i l4)) (set_get hx1) (set_get hl) hc4 (fun M5 o5 F5 hF5 hN5 hS5 hC5 => ?_))
        show J _ _ _ _ _ _ _
        refine J_p 2 (ls' := [_, _, _, _, _, _]) rfl ?_
        refine J_ret rfl rfl rfl (K M5 o5 F5 ((hF1'.trans (hF14q.mono (fun z e => e.ww q8))).trans hF5) (by rw [hN5.2.1]; exact hN4) (by rw [hN5.2.2]; exact hU4) hS5 ?_)
        have ef : failL A q x i l (l_x l) what = aDie (aSetL (w_c A ((a_c A).set (l_x l) (kMore k))) q x i l4) q (x_ls x ((q_ls x).set i l4)) i (l_m l4) (failC A l (l_x l) what) := by
          rw [aDie_set]
          unfold failL
          rw [if_pos heq, crM_eq hk, hl4]
        rw [ef]
        exact hC5
    refine J_p 1 (ls' := [_, _, _, _, _, _]) rfl ?_
    refine J_new rfl ?_
    have TN : ∀ z, z < mN M1 → mT (nC M2 0 6) z = mT M1 z := fun z hz => by rw [nC_T, if_neg (by omega), T2]
    have IN : ∀ z, z < mN M1 → mI (nC M2 0 6) z = mI M2 z := fun z hz => by rw [nC_I, if_neg (by omega)]
    have RN : ∀ z, z < mN M1 → mR (nC M2 0 6) z = mR M2 z := fun z hz => by rw [nC_R, if_neg (by omega)]
    refine J_p 3 (ls' := [_, _, _, _, _, _]) rfl ?_
    refine J_gi (z := nI (a_n A)) rfl (by rw [TN w (by omega)]; exact hS1.1.1) (by rw [IN w (by omega), i2 w (by omega)]; exact hC1.2.2.2.2.1) ?_
    refine J_p 1 (ls' := [_, _, _, _, _, _]) rfl ?_
    refine J_gi (z := nI ((l_c l).length + 1)) rfl (by rw [TN pl (by omega)]; exact t3) (by rw [IN pl (by omega)]; exact ip5) ?_
    refine J_p 1 (ls' := [_, _, _, _, _, _]) rfl ?_
    refine J_gi (z := nI (l_x l)) rfl (by rw [TN pl (by omega)]; exact t3) (by rw [IN pl (by omega), ip2 6 (by omega), hL1.2.2.2.2.2.2.1]; exact if_pos h2) ?_
    refine J_p 1 (ls' := [_, _, _, _, _, _]) rfl ?_
    refine J_getO rfl (by rw [TN pl (by omega)]; exact t3) ?_
    rw [RN pl (by omega)]
    obtain ⟨pr, hpr⟩ : ∃ pr, mR M2 pl 8 = pr := ⟨_, rfl⟩
    rw [hpr] at hc2 ⊢
    cases pr with
    | none =>
      refine J_call rfl rfl rfl rfl rfl (c_causeNew hc2 (v := nI ((l_c l).length + 1)) (fun _ => rfl) (fun z => absurd z (show ¬ (what = nI 5 ∨ what = nI 6) by rcases hw with e | e <;> rw [e] <;> decide)) (fun M3 hF3 hN3 hU3 hc3 => ?_))
      exact cont M3 hF3 hN3 hU3 hc3
    | some e =>
      refine J_call rfl rfl rfl rfl rfl (c_causeNew hc2 (v := nI ((l_c l).length + 1)) (fun _ => rfl) (fun z => absurd z (show ¬ (what = nI 5 ∨ what = nI 6) by rcases hw with e | e <;> rw [e] <;> decide)) (fun M3 hF3 hN3 hU3 hc3 => ?_))
      exact cont M3 hF3 hN3 hU3 hc3
  · rw [ixN_nI il (by omega)] at h
    cases h
end COMP20