/-! THE COMPONENT: time reaches a letter. -/
def agN (A : Ab) (x : Qa) (l : La) : Nat := if l_s l = 2 ∧ l_t l ≤ a_n A then 1 else if l_s (rdyA (a_n A) l) = 0 ∧ 0 < q_ag x ∧ q_ag x ≤ a_n A - pbA (a_m A) l then 1 else 0
section COMP23
variable {E : Nat × Nat} {M M' : Mm} {W : Nat → Prop} {Q : Option Value → Mm → Prop} {w t g a c q p i b m : Nat} {o o' f f' : Nat → Nat} {F F' : Nat → Nat → Nat} {A : Ab} {k : Co} {d : Da} {x x' : Qa} {ms : List Ma} {l l' : La} {cs : List Ca} {what : Int32}
theorem c_age2 (hS : OS M w t g o F) (hC : OC M w t g o F A) (hx : (a_q A)[q]? = some x) (hl : (q_ls x)[i]? = some l) (hs : l_s l ≤ 2) (hn : a_n A < 2 ^ 31) (hp : pbA (a_m A) l ≤ a_n A) (ha : q_ag x ≤ 999) (kd : l_s l = 0 ∧ 0 < q_ag x ∧ q_ag x ≤ a_n A - pbA (a_m A) l → ∀ (M' : Mm) (o' : Nat → Nat) (F' : Nat → Nat → Nat), Fm (Ww w t) M M' → mN M' = mN M + 1 → mU M' = mU M + 6 → OS M' w t g o' F' → OC M' w t g o' F' (aDie A q x i (l_m l) ((nI 5, nI (a_n A), nI (a_n A - pbA (a_m A) l), nI (l_c l).length) :: l_c l)) → Q none M') (kn : ¬ (l_s l = 0 ∧ 0 < q_ag x ∧ q_ag x ≤ a_n A - pbA (a_m A) l) → Q none M) (v4 : Int32) : J E 91 67 [.ref w, .ref (t + 4 + 25 * q), .int (nI i), .ref (t + 4 + 25 * q + 5 + F q i), .int v4, U0] [] M Q := by
  have q8 : q < 8 := Nat.lt_of_lt_of_le (li hx) hC.2.1.2
  have il := li hl
  have n20 := (hC.qc hx).n20
  have hQ := hS.qs q8
  have hQC := hC.qc hx
  have hL := hQC.l hl
  have fl := hQ.lt (i := i) (by omega)
  have t3 := hQ.t3 (i := i) (by omega)
  obtain ⟨y1, y2, y3⟩ := hS.2.2.2.2.2.2.1
  have hmn := hS.2.2.2.2.2.2.2
  have N : ¬ (l_s l = 0 ∧ 0 < q_ag x ∧ q_ag x ≤ a_n A - pbA (a_m A) l) → ∀ v : Value, J E 91 129 [.ref w, .ref (t + 4 + 25 * q), .int (nI i), .ref (t + 4 + 25 * q + 5 + F q i), .int v4, v] [] M Q := fun h v => J_ret rfl rfl rfl (kn h)
  refine J_p 1 (ls' := [_, _, _, _, _, _]) rfl ?_
  refine J_gi rfl hS.1.1 hC.2.2.2.2.1 ?_
  refine J_p 1 (ls' := [_, _, _, _, _, _]) rfl ?_
  refine J_gi rfl t3 hL.2.2.2.1 ?_
  refine J_p 1 (ls' := [_, _, _, _, _, _]) rfl ?_
  refine J_t0 (nI_subE (m := a_n A) (n := pbA (a_m A) l) rfl rfl hp) ?_
  refine J_p 2 (ls' := [_, _, _, _, _, .int (nI (a_n A - pbA (a_m A) l))]) rfl ?_
  refine J_gi rfl t3 hL.2.2.2.2.1 ?_
  refine J_zne rfl (fun c => N (fun z => c (by rw [z.1]; rfl)) _) (fun c => ?_)
  have s0 : l_s l = 0 := (nI_eq (b := 0) (by omega) (by omega)).mp c
  refine J_p 1 (ls' := [_, _, _, _, _, _]) rfl ?_
  refine J_gi rfl hQ.1 hQC.2.2.2.2.2.1 ?_
  refine J_zle rfl (fun c => N (fun z => absurd c (nI_ge (a := 0) z.2.1 (by omega))) _) (fun c => ?_)
  have a0 : 0 < q_ag x := by
    rcases Nat.eq_zero_or_pos (q_ag x) with z | z
    · rw [z] at c
      exact absurd (by decide) c
    · exact z
  refine J_p 2 (ls' := [_, _, _, _, _, _]) rfl ?_
  refine J_gi rfl hQ.1 hQC.2.2.2.2.2.1 ?_
  refine J_ilt rfl (fun c => N (fun z => nI_nlt z.2.2 (by omega) c) _) (fun c => ?_)
  have ale : q_ag x ≤ a_n A - pbA (a_m A) l := by
    rcases Nat.lt_or_ge (a_n A - pbA (a_m A) l) (q_ag x) with z | z
    · exact absurd (nI_lt z (by omega)) c
    · exact z
  obtain ⟨pl, hpl⟩ : ∃ pl, pl = t + 4 + 25 * q + 5 + F q i := ⟨_, rfl⟩
  rw [← hpl] at hL t3
  rw [← hpl]
  have TN : ∀ z, z < mN M → mT (nC M 0 6) z = mT M z := fun z hz => by rw [nC_T, if_neg (by omega)]
  have IN : ∀ z, z < mN M → mI (nC M 0 6) z = mI M z := fun z hz => by rw [nC_I, if_neg (by omega)]
  have RN : ∀ z, z < mN M → mR (nC M 0 6) z = mR M z := fun z hz => by rw [nC_R, if_neg (by omega)]
  have cont : ∀ M3 : Mm, (∀ W : Nat → Prop, Fm W M M3) → mN M3 = mN M + 1 → mU M3 = mU M + 6 → CaR M3 ((nI 5, nI (a_n A), nI (a_n A - pbA (a_m A) l), nI (l_c l).length) :: l_c l) (some (mN M)) → J E 91 126 [.ref w, .ref (t + 4 + 25 * q), .int (nI i), .ref pl, .int v4, .int (nI (a_n A - pbA (a_m A) l))] [.ref (mN M), .int (nI i), .ref (t + 4 + 25 * q), .ref w] M3 Q := by
    intro M3 hF3 hN3 hU3 hc3
    have hF := hF3 (Qw (t + 4 + 25 * q))
    have s3 : ∀ z, z < mN M → Sm M M3 z := fun z hz => (hF3 (fun _ => False)).2.2 z hz (Or.inl id)
    have hQ3 : QS M3 (t + 4 + 25 * q) q (F q) := hQ.fr (fun z h1 h2 => (s3 z (by omega)).1) (by rw [(s3 _ (by omega)).2.1]) (fun z h1 h2 => (s3 z (by omega)).2.2.2)
    have hQC3 : QC M3 (t + 4 + 25 * q) (F q) x (a_m A) := hQC.fr hF (fun j hj => hQ.lt hj) (fun z h1 h2 => ⟨(s3 z (by omega)).2.1, (s3 z (by omega)).2.2.2⟩)
    have hS3 := hS.setq hF q8 hQ3
    have hC3 := OC.setq hS hC hF q8 hQC3
    have ex : w_q A ((a_q A).set q x) = A := by
      rw [set_id hx]
      rfl
    rw [ex] at hC3
    refine J_call rfl rfl rfl (decide_eq_true hS3.1.1) rfl (c_die hS3 hC3 hx hl hc3 (fun M5 o5 F5 hF5 hN5 hS5 hC5 => ?_))
    show J _ _ _ _ _ _ _
    exact J_ret rfl rfl rfl (kd ⟨s0, a0, ale⟩ M5 o5 F5 ((hF3 _).trans hF5) (by rw [hN5.2.1]; exact hN3) (by rw [hN5.2.2]; exact hU3) hS5 hC5)
  refine J_p 3 (ls' := [_, _, _, _, _, _]) rfl ?_
  refine J_new rfl ?_
  refine J_p 3 (ls' := [_, _, _, _, _, _]) rfl ?_
  refine J_gi (z := nI (a_n A)) rfl (by rw [TN w (by omega)]; exact hS.1.1) (by rw [IN w (by omega)]; exact hC.2.2.2.2.1) ?_
  refine J_p 1 (ls' := [_, _, _, _, _, _]) rfl ?_
  refine J_gi (z := nI (l_c l).length) rfl (by rw [TN pl (by omega)]; exact t3) (by rw [IN pl (by omega)]; exact hL.2.2.2.2.2.1) ?_
  refine J_p 2 (ls' := [_, _, _, _, _, _]) rfl ?_
  refine J_getO rfl (by rw [TN pl (by omega)]; exact t3) ?_
  rw [RN pl (by omega)]
  have hc2 : CaR M (l_c l) (mR M pl 8) := hL.2.2.2.2.2.2.2.2
  obtain ⟨pr, hpr⟩ : ∃ pr, mR M pl 8 = pr := ⟨_, rfl⟩
  rw [hpr] at hc2 ⊢
  cases pr with
  | none =>
    refine J_call rfl rfl rfl rfl rfl (c_causeNew hc2 (v := nI (l_c l).length) (fun _ => rfl) (fun _ => rfl) (fun M3 hF3 hN3 hU3 hc3 => ?_))
    exact cont M3 hF3 hN3 hU3 hc3
  | some e =>
    refine J_call rfl rfl rfl rfl rfl (c_causeNew hc2 (v := nI (l_c l).length) (fun _ => rfl) (fun _ => rfl) (fun M3 hF3 hN3 hU3 hc3 => ?_))
    exact cont M3 hF3 hN3 hU3 hc3
theorem c_letTimeReach (hE : STa E M) (hS : OS M w t g o F) (hC : OC M w t g o F A) (hx : (a_q A)[q]? = some x) (hl : (q_ls x)[i]? = some l) (hs : l_s l ≤ 2) (hn : a_n A < 2 ^ 31) (ht : l_t l < 2 ^ 31) (hp : pbA (a_m A) l ≤ a_n A) (ha : q_ag x ≤ 999) (hk : l_s l = 2 → ∃ k : Co, (a_c A)[l_x l]? = some k ∧ k_cr k ≤ 9) (htr : (l_c l).length < q_tr x) (h5 : q_tr x ≤ 5) (K : ∀ (M' : Mm) (o' : Nat → Nat) (F' : Nat → Nat → Nat), Fm (Ww w t) M M' → mN M' = mN M + agN A x l → mU M' = mU M + 6 * agN A x l → OS M' w t g o' F' → OC M' w t g o' F' (ageL A q x i l).1 → Q none M') : J E 91 0 [.ref w, .ref (t + 4 + 25 * q), .int (nI i), U0, U0, U0] [] M Q := by
  have q8 : q < 8 := Nat.lt_of_lt_of_le (li hx) hC.2.1.2
  have il := li hl
  have n20 := (hC.qc hx).n20
  have hQ := hS.qs q8
  have hQC := hC.qc hx
  have hL := hQC.l hl
  have fl := hQ.lt (i := i) (by omega)
  have t3 := hQ.t3 (i := i) (by omega)
  -- not due
  have ND : ¬ (¬ l_s l = 0 ∧ l_t l ≤ a_n A) → J E 91 67 [.ref w, .ref (t + 4 + 25 * q), .int (nI i), .ref (t + 4 + 25 * q + 5 + F q i), .int (nI 0), U0] [] M Q := fun nd => by
    have er : rdyA (a_n A) l = l := by
      unfold rdyA
      exact if_neg (fun z => nd ⟨by omega, z.2⟩)
    have n2 : ¬ (l_s l = 2 ∧ l_t l ≤ a_n A) := fun z => nd ⟨by omega, z.2⟩
    refine c_age2 hS hC hx hl hs hn hp ha (fun z M' o' F' h1 h2 h3 h4 h5 => ?_) (fun z => ?_) _
    · have eN : agN A x l = 1 := by unfold agN; rw [if_neg n2, er, if_pos z]
      refine K M' o' F' h1 (by rw [eN]; exact h2) (by rw [eN]; exact h3) h4 ?_
      unfold ageL
      rw [if_neg n2, er, if_pos z]
      exact h5
    · have eN : agN A x l = 0 := by unfold agN; rw [if_neg n2, er, if_neg z]
      refine K M o F (Fm.refl _ M) (by rw [eN]; rfl) (by rw [eN]; rfl) hS ?_
      unfold ageL
      rw [if_neg n2, er, if_neg z]
      have ex : aSetL A q x i l = A := by
        unfold aSetL
        rw [set_id hl]
        show w_q A ((a_q A).set q x) = A
        rw [set_id hx]
        rfl
      show OC M w t g o F (aSetL A q x i l)
      rw [ex]
      exact hC
  have D58 : ¬ (¬ l_s l = 0 ∧ l_t l ≤ a_n A) → J E 91 33 [.ref w, .ref (t + 4 + 25 * q), .int (nI i), .ref (t + 4 + 25 * q + 5 + F q i), U0, U0] [] M Q := fun nd => by
    refine J_p 3 (ls' := [_, _, _, _, .int (nI 0), _]) rfl ?_
    refine J_zeq rfl (fun _ => ?_) (fun b => absurd rfl b)
    refine J_p 1 (ls' := [_, _, _, _, _, _]) rfl ?_
    exact J_zeq rfl (fun _ => ND nd) (fun b => absurd rfl b)
  refine J_p 2 (ls' := [_, _, _, _, _, _]) rfl ?_
  refine J_call rfl rfl rfl (decide_eq_true hQ.1) rfl (c_letterAt hQ hQC (fun j l' h1 g2 g3 g4 => ?_) (fun h => ?_))
  · show J _ _ _ _ _ _ _
    have e : i = j := (nI_eq (by omega) (by omega)).mp g4
    subst e
    refine J_p 2 (ls' := [_, _, _, .ref (t + 4 + 25 * q + 5 + F q i), _, _]) rfl ?_
    refine J_brT rfl rfl rfl ?_
    refine J_p 1 (ls' := [_, _, _, _, _, _]) rfl ?_
    refine J_gi rfl t3 hL.2.2.2.2.1 ?_
    refine J_zeq rfl (fun b => D58 (fun z => z.1 ((nI_eq (b := 0) (by omega) (by omega)).mp b))) (fun b => ?_)
    have s0 : ¬ l_s l = 0 := fun z => b (by rw [z]; rfl)
    have et : mI M (t + 4 + 25 * q + 5 + F q i) 7 = nI (l_t l) := by
      rw [hL.2.2.2.2.2.2.2.1]
      exact if_neg s0
    refine J_p 1 (ls' := [_, _, _, _, _, _]) rfl ?_
    refine J_gi rfl t3 et ?_
    refine J_p 1 (ls' := [_, _, _, _, _, _]) rfl ?_
    refine J_gi rfl hS.1.1 hC.2.2.2.2.1 ?_
    refine J_igt rfl (fun b => D58 (fun z => nI_nlt z.2 (by omega) b)) (fun b => ?_)
    have tle : l_t l ≤ a_n A := by
      rcases Nat.lt_or_ge (a_n A) (l_t l) with z | z
      · exact absurd (nI_lt z (by omega)) b
      · exact z
    refine J_p 4 (ls' := [_, _, _, _, .int (nI 1), _]) rfl ?_
    refine J_zeq rfl (fun b => absurd b (by decide)) (fun _ => ?_)
    refine J_p 1 (ls' := [_, _, _, _, _, _]) rfl ?_
    refine J_gi rfl t3 hL.2.2.2.2.1 ?_
    refine J_p 1 (ls' := [_, _, _, _, _, _]) rfl ?_
    refine J_ine rfl (fun b => ?_) (fun b => ?_)
    · have s2 : ¬ l_s l = 2 := fun z => b (by rw [z])
      have s1 : l_s l = 1 := by omega
      have er : rdyA (a_n A) l = rdL l := by
        unfold rdyA
        exact if_pos ⟨s1, tle⟩
      have n2 : ¬ (l_s l = 2 ∧ l_t l ≤ a_n A) := fun z => s2 z.1
      refine J_p 1 (ls' := [_, _, _, _, _, _]) rfl ?_
      refine J_zeq rfl (fun b => absurd b (by decide)) (fun _ => ?_)
      refine J_p 1 (ls' := [_, _, _, _, _, _]) rfl ?_
      refine J_call rfl rfl rfl (decide_eq_true t3) rfl (c_makeReady t3 ?_)
      show J _ _ _ _ _ _ _
      obtain ⟨pl, hpl⟩ : ∃ pl, pl = t + 4 + 25 * q + 5 + F q i := ⟨_, rfl⟩
      rw [← hpl] at hL t3
      obtain ⟨M1, hM1⟩ : ∃ X, X = sI (sI (sI M pl 4 (nI 0)) pl 6 (-1)) pl 7 (-1) := ⟨_, rfl⟩
      have np : ¬ rO (mT M pl) := by rw [t3]; unfold rO; omega
      have hFp : Fm (fun z => z = pl) M M1 := by
        rw [hM1]
        exact ((Fm.sI (W := fun z => z = pl) rfl np).trans (Fm.sI rfl np)).trans (Fm.sI rfl np)
      have hF1 : Fm (Qw (t + 4 + 25 * q)) M M1 := hFp.mono (fun z (e : z = pl) => ⟨by omega, by omega⟩)
      have i1 : ∀ z, z ≠ pl → mI M1 z = mI M z := fun z hz => by rw [hM1, mI_s1 _ _ _ hz, mI_s1 _ _ _ hz, mI_s1 _ _ _ hz]
      have r1 : mR M1 = mR M := by rw [hM1]; rfl
      have hL1 : CL M1 pl (rdL l) (a_m A) := by
        rw [hM1] at hFp ⊢
        exact hL.rd hFp
      have hQ1 : QS M1 (t + 4 + 25 * q) q (F q) := hQ.sm (by rw [hM1]; rfl) (by rw [i1 _ (by omega)]) (fun z _ _ => by rw [r1])
      have hQC1 := QC.lx (l' := rdL l) hQ hQC hl hFp (fun z _ _ h3 => ⟨i1 z (by omega), by rw [r1]⟩) (by rw [← hpl]; exact hL1)
      have hS1 := hS.setq hF1 q8 hQ1
      have hC1 : OC M1 w t g o (upF F q (F q)) (aSetL A q x i (rdL l)) := OC.setq hS hC hF1 q8 hQC1
      have ef : upF F q (F q) q = F q := upF_s F q (F q)
      rw [← hpl, ← hM1, hpl, ← ef]
      have hF1w := hF1.mono (fun z (e : Qw (t + 4 + 25 * q) z) => (e.ww q8 : Ww w t z))
      have hN1 : mN M1 = mN M ∧ mU M1 = mU M := by rw [hM1]; exact ⟨rfl, rfl⟩
      refine c_age2 hS1 hC1 (set_get hx) (set_get hl) (show 0 ≤ 2 by omega) hn hp ha (fun z M' o' F' h1 h2 h3 h4 h5 => ?_) (fun z => ?_) _
      · have z' : l_s (rdyA (a_n A) l) = 0 ∧ 0 < q_ag x ∧ q_ag x ≤ a_n A - pbA (a_m A) l := by rw [er]; exact z
        have eN : agN A x l = 1 := by unfold agN; rw [if_neg n2, if_pos z']
        refine K M' o' F' (hF1w.trans h1) (by rw [eN, h2, hN1.1]) (by rw [eN, h3, hN1.2]) h4 ?_
        unfold ageL
        rw [if_neg n2, if_pos z']
        have ed := aDie_set (A := A) (q := q) (i := i) (m := l_m l) (x := x) (l' := rdL l) (cs := (nI 5, nI (a_n A), nI (a_n A - pbA (a_m A) l), nI (l_c l).length) :: l_c l)
        show OC M' w t g o' F' (aDie A q x i (l_m l) _)
        rw [← ed]
        exact h5
      · have z' : ¬ (l_s (rdyA (a_n A) l) = 0 ∧ 0 < q_ag x ∧ q_ag x ≤ a_n A - pbA (a_m A) l) := by rw [er]; exact z
        have eN : agN A x l = 0 := by unfold agN; rw [if_neg n2, if_neg z']
        refine K M1 o _ hF1w (by rw [eN]; exact hN1.1) (by rw [eN]; exact hN1.2) hS1 ?_
        unfold ageL
        rw [if_neg n2, if_neg z', er]
        exact hC1
    · have s2 : l_s l = 2 := (nI_eq (by omega) (by omega)).mp b
      obtain ⟨k, k1, k2⟩ := hk s2
      have y2 : l_s l = 2 ∧ l_t l ≤ a_n A := ⟨s2, tle⟩
      have eN : agN A x l = 1 := by unfold agN; rw [if_pos y2]
      refine J_p 4 (ls' := [_, _, _, _, _, _]) rfl ?_
      refine J_call rfl rfl rfl (decide_eq_true hS.1.1) rfl (c_fail hE hS hC hx hl s2 k1 k2 (Or.inr rfl) htr h5 (fun M' o' F' h1 h2 h3 h4 h5 => ?_))
      show J _ _ _ _ _ _ _
      refine J_p 1 (ls' := [_, _, _, _, _, _]) rfl ?_
      refine J_ret rfl rfl rfl (K M' o' F' h1 (by rw [eN]; exact h2) (by rw [eN]; exact h3) h4 ?_)
      unfold ageL
      rw [if_pos y2]
      exact h5
  · rw [ixN_nI il (by omega)] at h
    cases h
end COMP23