/-! THE COMPONENT: a dead one comes; a letter dies. -/
section COMP19
variable {E : Nat × Nat} {M M' : Mm} {W : Nat → Prop} {Q : Option Value → Mm → Prop} {w t g a c q p i b m : Nat} {o o' f f' : Nat → Nat} {F F' : Nat → Nat → Nat} {A : Ab} {k : Co} {d : Da} {x x' : Qa} {ms : List Ma} {l : La} {cs : List Ca}
theorem roomD_l {D : List Da} (h : D.length ≤ 30) : (roomD D).length < 30 := by
  unfold roomD
  split
  · rw [List.length_drop]; omega
  · omega
theorem roomD_k {D : List Da} (h : D.length < 30) : roomD D = D := by
  unfold roomD
  exact if_neg (by omega)
theorem roomD_30 {D : List Da} (h : D.length = 30) : roomD D = D.eraseIdx 0 := by
  unfold roomD
  rw [if_pos h, List.eraseIdx_zero, List.drop_one]
theorem c_addDead (hS : OS M w t g o F) (hC : OC M w t g o F A) (hx : (a_q A)[q]? = some x) (hcs : CaR M cs (some b)) (k : ∀ (M' : Mm) (o' : Nat → Nat), Fm (Ww w t) M M' → Nw M M' → (∀ z, t + 4 ≤ z → z < t + 204 → z ≠ t + 4 + 25 * q → mI M' z = mI M z ∧ mR M' z = mR M z) → OS M' w t g o' F → OC M' w t g o' F (w_d (w_q A ((a_q A).set q (x_di x (q_di x + nI 1)))) (roomD (a_d A) ++ [(m, q, a_n A, cs)])) → Q none M') : J E 85 0 [.ref w, .int (nI m), .ref (t + 4 + 25 * q), .ref b] [] M Q := by
  have q8 : q < 8 := Nat.lt_of_lt_of_le (li hx) hC.2.1.2
  have hn := hS.2.2.2.2.2.2.2
  obtain ⟨y1, y2, y3⟩ := hS.2.2.2.2.2.2.1
  have main : ∀ (M1 : Mm) (o1 : Nat → Nat) (D1 : List Da), Fm (Dw w t) M M1 → Nw M M1 → OS M1 w t g o1 F → OC M1 w t g o1 F (w_d A D1) → D1.length < 30 → roomD (a_d A) = D1 → J E 85 14 [.ref w, .int (nI m), .ref (t + 4 + 25 * q), .ref b] [] M1 Q := by
    intro M1 o1 D1 hF1 hN1 hS1 hC1 hD hr
    obtain ⟨⟨s1, s2, s3, s4, s5, s6⟩, sb, sd, sk, ⟨x1, x2, x3, x4, x5⟩, sm, sy, sn⟩ := id hS1
    have ol := (x3 D1.length hD).2
    have t2 : mT M1 (t + 216 + o1 D1.length) = 2 := x5 _ ol
    have hQ := hS1.qs q8
    have hQC : QC M1 (t + 4 + 25 * q) (F q) x (a_m A) := hC1.qc (A := w_d A D1) hx
    have h7 : mI M1 w 7 = nI D1.length := hC1.2.2.2.1.1
    have h9 : mI M1 w 9 = nI (a_n A) := hC1.2.2.2.2.1
    refine J_p 1 (ls' := [_, _, _, _]) rfl ?_
    refine J_getR rfl s1 s5 ?_
    refine J_p 1 (ls' := [_, _, _, _]) rfl ?_
    refine J_gi rfl s1 h7 ?_
    refine J_aald (n := D1.length) rfl rfl (by rw [x1]; rfl) x2 (by omega) (by omega) (x3 _ hD).1 ?_
    refine J_p 2 (ls' := [_, _, _, _]) rfl ?_
    refine J_gi rfl hQ.1 hQ.2.1 ?_
    refine J_p 1 (ls' := [_, _, _, _]) rfl ?_
    refine J_gi rfl s1 h9 ?_
    refine J_p 1 (ls' := [_, _, _, _]) rfl ?_
    refine J_call rfl rfl rfl (decide_eq_true t2) rfl (c_deadBegin t2 ?_)
    show J _ _ _ _ _ _ _
    obtain ⟨e, he⟩ : ∃ e, e = t + 216 + o1 D1.length := ⟨_, rfl⟩
    rw [← he] at t2
    rw [← he]
    obtain ⟨M2, hM2⟩ : ∃ X, X = sR (sI (sI (sI M1 e 0 (nI m)) e 1 (nI q)) e 2 (nI (a_n A))) e 3 (some b) := ⟨_, rfl⟩
    rw [← hM2]
    have i2 : ∀ z, z ≠ e → mI M2 z = mI M1 z := fun z hz => by rw [hM2, mI_sR, mI_s1 _ _ _ hz, mI_s1 _ _ _ hz, mI_s1 _ _ _ hz]
    have r2 : ∀ z, z ≠ e → mR M2 z = mR M1 z := fun z hz => by rw [hM2, mR_s1 _ _ _ hz]; rfl
    have e2 : M2.1 = M1.1 := by rw [hM2]; rfl
    have T2 : mT M2 = mT M1 := by unfold mT; rw [e2]
    refine J_p 2 (ls' := [_, _, _, _]) rfl ?_
    refine J_gi (z := nI D1.length) rfl (by rw [T2]; exact s1) (by rw [i2 w (by omega)]; exact h7) ?_
    refine J_p 2 (ls' := [_, _, _, _]) rfl ?_
    refine J_t0 (nI_add D1.length 1) ?_
    refine J_putI rfl (by rw [T2]; exact s1) (Or.inl rfl) ?_
    refine J_p 2 (ls' := [_, _, _, _]) rfl ?_
    refine J_gi (z := q_di x) rfl (show mT M2 (t + 4 + 25 * q) = 6 by rw [T2]; exact hQ.1) (by rw [mI_s1 _ _ _ (by omega), i2 _ (by omega)]; exact hQC.2.2.2.2.2.2.2.2.2.2.1) ?_
    refine J_p 2 (ls' := [_, _, _, _]) rfl ?_
    refine J_putI rfl (show mT M2 (t + 4 + 25 * q) = 6 by rw [T2]; exact hQ.1) (Or.inl rfl) ?_
    obtain ⟨M3, hM3⟩ : ∃ X, X = sI (sI M2 w 7 (nI (D1.length + 1))) (t + 4 + 25 * q) 12 (q_di x + nI 1) := ⟨_, rfl⟩
    rw [← hM3]
    have e3 : M3.1 = M1.1 := by rw [hM3]; exact e2
    have i3 : ∀ z, z ≠ e → z ≠ w → z ≠ t + 4 + 25 * q → mI M3 z = mI M1 z := fun z h1 h2 h3 => by rw [hM3, mI_s1 _ _ _ h3, mI_s1 _ _ _ h2, i2 z h1]
    have r3 : ∀ z, z ≠ e → mR M3 z = mR M1 z := fun z h1 => by rw [hM3, mR_sI, mR_sI]; exact r2 z h1
    have iw : ∀ j, j ≠ 7 → mI M3 w j = mI M1 w j := fun j hj => by rw [hM3, mI_s1 _ _ _ (by omega), mI_s0, if_neg hj, i2 w (by omega)]
    have iw7 : mI M3 w 7 = nI (D1.length + 1) := by rw [hM3, mI_s1 _ _ _ (by omega), mI_s0, if_pos rfl]
    have n2 : ¬ rO (mT M1 e) := by rw [t2]; unfold rO; omega
    have n9 : ¬ rO (mT M2 w) := by rw [T2, s1]; unfold rO; omega
    have n6 : ¬ rO (mT M2 (t + 4 + 25 * q)) := by rw [T2, hQ.1]; unfold rO; omega
    have hF12 : Fm (Ww w t) M1 M2 := by
      rw [hM2]
      have we : Ww w t e := by unfold Ww; omega
      exact (((Fm.sI we n2).trans (Fm.sI we n2)).trans (Fm.sI we n2)).trans (Fm.sR we n2)
    have hF23 : Fm (Ww w t) M2 M3 := by
      rw [hM3]
      exact (Fm.sI (Or.inl rfl) n9).trans (Fm.sI (by unfold Ww; omega) n6)
    have hF13 := hF12.trans hF23
    have hFa : Fm (Ww w t) M M3 := (hF1.mono (fun z (h : z = w ∨ z = t + 215) => by unfold Ww; omega)).trans hF13
    have hN : Nw M M3 := hN1.trans ⟨e3, by rw [hM3, hM2]; rfl, by rw [hM3, hM2]; rfl⟩
    have hS3 : OS M3 w t g o1 F := by
      refine hS1.gen hF13.1 hF13.2.1 (r3 _ (by omega)) (r3 _ (by omega)) (r3 _ (by omega)) (r3 _ (by omega)) (r3 _ (by omega)) (fun c hc => by rw [i3 _ (by omega) (by omega) (by omega)]) (fun i hi => by rw [r3 _ (by omega)]; exact x3 i hi) x4 (fun z hz => ?_)
      refine (hS1.qs hz).fr (fun b h1 h2 => by rw [e3]) ?_ (fun b h1 h2 => r3 b (by omega))
      by_cases c : z = q
      · rw [c, hM3, mI_s0, if_neg (by omega), mI_s1 _ _ _ (by omega), i2 _ (by omega)]
      · rw [i3 _ (by omega) (by omega) (by omega)]
    have hoth : ∀ z, t + 4 ≤ z → z < t + 204 → z ≠ t + 4 + 25 * q → mI M3 z = mI M z ∧ mR M3 z = mR M z := fun z h1 h2 h3 => by
      have := hF1.2.2 z (by omega) (Or.inl (by unfold Dw; omega))
      exact ⟨(i3 z (by omega) (by omega) h3).trans this.2.1, (r3 z (by omega)).trans this.2.2.2⟩
    refine J_ret rfl rfl rfl (k M3 o1 hFa hN hoth hS3 ?_)
    rw [hr]
    obtain ⟨c1, c2, c3, c4, c5, c6, ⟨txt, c7⟩, c8, c9, c10, c11⟩ := hC1
    refine ⟨(iw 1 (by omega)).trans c1, ⟨?_, ?_⟩, ⟨(iw 5 (by omega)).trans c3.1, c3.2⟩, ⟨?_, ?_⟩, (iw 9 (by omega)).trans c5, (iw 10 (by omega)).trans c6, ⟨txt, c7.fr (i3 _ (by omega) (by omega) (by omega)) (i3 _ (by omega) (by omega) (by omega)) (i3 _ (by omega) (by omega) (by omega))⟩, fun z y hy => ?_, fun c k hk => ?_, fun i d hd => ?_, c11.fr (fun j hj => i3 _ (by omega) (by omega) (by omega))⟩
    · show _ = nI ((a_q A).set q (x_di x (q_di x + nI 1))).length
      rw [List.length_set, iw 3 (by omega)]
      exact c2.1
    · show ((a_q A).set q (x_di x (q_di x + nI 1))).length ≤ 8
      rw [List.length_set]
      exact c2.2
    · show _ = nI (D1 ++ [(m, q, a_n A, cs)]).length
      rw [List.length_append]
      exact iw7
    · show (D1 ++ [(m, q, a_n A, cs)]).length ≤ 30
      rw [List.length_append]
      show D1.length + 1 ≤ 30
      omega
    · rcases set_or hy with ⟨rfl, rfl⟩ | ⟨hne, hy⟩
      · have hq2 : QC (sI M2 w 7 (nI (D1.length + 1))) (t + 4 + 25 * z) (F z) x (a_m A) := hQC.fr (hF12.trans (Fm.sI (W := Ww w t) (Or.inl rfl) n9)) (fun i hi => hQ.lt hi) (fun b h1 h2 => ⟨by rw [mI_s1 _ _ _ (by omega), i2 _ (by omega)], by rw [mR_sI]; exact r2 b (by omega)⟩)
        have hs2 : QS (sI M2 w 7 (nI (D1.length + 1))) (t + 4 + 25 * z) z (F z) := hQ.fr (fun b _ _ => by show M2.1 b = _; rw [e2]) (by rw [mI_s1 _ _ _ (by omega), i2 _ (by omega)]) (fun b h1 h2 => by rw [mR_sI]; exact r2 b (by omega))
        rw [hM3]
        exact QC.s_di hs2 hq2
      · have zl : z < (a_q A).length := li hy
        have q8' : (a_q A).length ≤ 8 := c2.2
        exact (c8 z y hy).fr hF13 (fun i hi => (hS1.qs (q := z) (by omega)).lt hi) (fun b h1 h2 => ⟨i3 b (by omega) (by omega) (by omega), r3 b (by omega)⟩)
    · have cl : c < (a_c A).length := li hk
      have c10' : (a_c A).length ≤ 10 := c3.2
      exact (c9 c k hk).fr (i3 _ (by omega) (by omega) (by omega))
    · rcases app_or hd with ⟨rfl, rfl⟩ | ⟨hlt, hd⟩
      · rw [← he]
        refine ⟨?_, ?_, ?_, ?_⟩
        · rw [hM3, mI_s1 _ _ _ (by omega), mI_s1 _ _ _ (by omega), hM2]
          simp only [mI_sR, mI_s0]; rfl
        · rw [hM3, mI_s1 _ _ _ (by omega), mI_s1 _ _ _ (by omega), hM2]
          simp only [mI_sR, mI_s0]; rfl
        · rw [hM3, mI_s1 _ _ _ (by omega), mI_s1 _ _ _ (by omega), hM2]
          simp only [mI_sR, mI_s0]; rfl
        · have er : mR M3 e 3 = some b := by rw [hM3, mR_sI, mR_sI, hM2, mR_s0, if_pos rfl]
          rw [er]
          exact hcs.fr hFa
      · have ne : o1 i ≠ o1 D1.length := fun h => by
          have := x4 i D1.length (by omega) hD h
          omega
        have := (x3 i (by omega)).2
        exact (c10 i d hd).fr hF13 (i3 _ (by omega) (by omega) (by omega)) (r3 _ (by omega))
  have d30 := hC.2.2.2.1.2
  refine J_p 1 (ls' := [_, _, _, _]) rfl ?_
  refine J_gi rfl hS.1.1 hC.2.2.2.1.1 ?_
  refine J_p 1 (ls' := [_, _, _, _]) rfl ?_
  refine J_ilt rfl (fun c => ?_) (fun c => ?_)
  · have hlt := (nI_ltI (by omega) (by omega)).mp c
    exact main M o (a_d A) (Fm.refl _ M) ⟨rfl, rfl, rfl⟩ hS hC hlt (roomD_k hlt)
  · have e30 : (a_d A).length = 30 := by
      rcases Nat.lt_or_ge (a_d A).length 30 with z | z
      · exact absurd (nI_lt z (by omega)) c
      · omega
    refine J_p 2 (ls' := [_, _, _, _]) rfl ?_
    refine J_call rfl rfl rfl (decide_eq_true hS.1.1) rfl (c_removeDead (p := 0) hS hC (by omega) (fun M1 o1 hF1 hN1 hS1 hC1 => ?_))
    show J _ _ _ _ _ _ _
    exact main M1 o1 _ hF1 hN1 hS1 hC1 (by rw [List.length_eraseIdx_of_lt (by omega)]; omega) (roomD_30 e30)
end COMP19