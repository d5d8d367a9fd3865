/-! THE COMPONENT'S PUBLIC METHODS: pass, revive, bury, seed, days. -/
section COMP44
variable {E : Nat × Nat} {M M' : Mm} {W : Nat → Prop} {Q : Option Value → Mm → Prop} {a b w t g i m q T : Nat} {S S' : St} {A B : Ab} {v : Sh} {o : Nat → Nat} {F : Nat → Nat → Nat} {x : Qa} {k : Co} {l : La}
theorem bObj (hF : Fm (Wm (b + 1) (b + 8) (b + 2)) M M') (hn : b + 254 ≤ mN M) (hb : mT M b = 10) (hb0 : mR M b 0 = some (b + 1)) : b + 254 ≤ mN M' ∧ mT M' b = 10 ∧ mR M' b 0 = some (b + 1) := by
  refine ⟨by have := hF.1; omega, by rw [(hF.T (by omega)).1]; exact hb, ?_⟩
  rw [(hF.2.2 b (by omega) (Or.inl (by unfold Wm Ww; omega))).2.2.2]
  exact hb0
theorem passA_m : ∀ (d : Nat) (A : Ab), a_m (passA d A).1 = a_m A
  | 0, _ => rfl
  | d + 1, A => (passA_m d _).trans (tickA_m A)
theorem daysA_m : ∀ (d : Nat) (A : Ab), ∃ R, a_m (daysA d A).1 = a_m A ++ R
  | 0, A => ⟨[], (List.append_nil _).symm⟩
  | d + 1, A => by
    obtain ⟨R1, h1⟩ := dayB_m A
    obtain ⟨R2, h2⟩ := daysA_m d (tickA (dayB A).1).1
    exact ⟨R1 ++ R2, by
      show a_m (daysA d (tickA (dayB A).1).1).1 = _
      rw [h2, tickA_m, h1, List.append_assoc]⟩

theorem c_passL {n : Nat} (hn31 : n < 2 ^ 31) : ∀ (d kk died T : Nat) (A : Ab) (M : Mm) (o : Nat → Nat) (F : Nat → Nat → Nat), b + 254 ≤ mN M → mT M b = 10 → mR M b 0 = some (b + 1) → kk + d = n → STa E M → OS M (b + 1) (b + 8) (b + 2) o F → OC M (b + 1) (b + 8) (b + 2) o F A → Wf T A → T + d < 2 ^ 20 →
    (∀ (M2 : Mm) (o2 : Nat → Nat) (F2 : Nat → Nat → Nat), Fm (Ww (b + 1) (b + 8)) M M2 → Gw M M2 A (passA d A).1 0 → OS M2 (b + 1) (b + 8) (b + 2) o2 F2 → OC M2 (b + 1) (b + 8) (b + 2) o2 F2 (passA d A).1 → Q (some (.int (nI (died + (passA d A).2)))) M2) →
    J E 123 21 [.ref b, .int (nI n), .int (nI died), .int (nI kk)] [] M Q
  | 0, kk, died, T, A, M, o, F, hn, hb, hb0, hk, hE, hS, hC, hW, hT, K => by
    obtain rfl : kk = n := by omega
    refine J_p 2 (ls' := [_, _, _, _]) rfl ?_
    refine J_ige rfl (fun _ => ?_) (fun y => absurd (nI_le (by omega) (by omega)) y)
    refine J_p 1 (ls' := [_, _, _, _]) rfl ?_
    exact J_ret rfl rfl rfl (K M o F (Fm.refl _ M) (Gw.refl M A) hS hC)
  | d + 1, kk, died, T, A, M, o, F, hn, hb, hb0, hk, hE, hS, hC, hW, hT, K => by
    refine J_p 2 (ls' := [_, _, _, _]) rfl ?_
    refine J_ige rfl (fun y => absurd y (nI_ge (by omega) (by omega))) (fun _ => ?_)
    refine J_p 2 (ls' := [_, _, _, _]) rfl ?_
    refine J_getR rfl hb hb0 ?_
    refine J_call rfl rfl rfl (decide_eq_true hS.1.1) rfl (c_tick hE hS hC hW (by omega) (fun M2 o2 F2 hE2 hF2 hG2 hS2 hC2 hW2 => ?_))
    show J _ _ _ _ _ _ _
    refine J_p 1 (ls' := [_, _, _, _]) rfl ?_
    refine J_t0 (nI_add died (tickA A).2) ?_
    refine J_p 3 (ls' := [_, _, _, _]) rfl ?_
    rw [nI_add kk 1]
    obtain ⟨b1, b2, b3⟩ := bObj (hF2.mono (fun z e => Or.inl e)) hn hb hb0
    refine c_passL hn31 d (kk + 1) (died + (tickA A).2) (T + 1) (tickA A).1 M2 o2 F2 b1 b2 b3 (by omega) hE2 hS2 hC2 hW2 (by omega) (fun M3 o3 F3 h1 h2 h3 h4 => ?_)
    have e : died + (tickA A).2 + (passA d (tickA A).1).2 = died + ((tickA A).2 + (passA d (tickA A).1).2) := Nat.add_assoc ..
    rw [e]
    exact K M3 o3 F3 (hF2.trans h1) (hG2.trans h2) h3 h4
theorem c_daysL {n : Nat} (hn31 : n < 2 ^ 31) : ∀ (d kk did T : Nat) (A : Ab) (M : Mm) (o : Nat → Nat) (F : Nat → Nat → Nat), b + 254 ≤ mN M → mT M b = 10 → mR M b 0 = some (b + 1) → kk + d = n → STa E M → OS M (b + 1) (b + 8) (b + 2) o F → OC M (b + 1) (b + 8) (b + 2) o F A → Wf T A → T + d < 2 ^ 20 →
    (∀ (M2 : Mm) (o2 : Nat → Nat) (F2 : Nat → Nat → Nat), Fm (Wm (b + 1) (b + 8) (b + 2)) M M2 → Gw M M2 A (daysA d A).1 (8 * d) → OS M2 (b + 1) (b + 8) (b + 2) o2 F2 → OC M2 (b + 1) (b + 8) (b + 2) o2 F2 (daysA d A).1 → Q (some (.int (nI (did + (daysA d A).2)))) M2) →
    J E 143 21 [.ref b, .int (nI n), .int (nI did), .int (nI kk)] [] M Q
  | 0, kk, did, T, A, M, o, F, hn, hb, hb0, hk, hE, hS, hC, hW, hT, K => by
    obtain rfl : kk = n := by omega
    refine J_p 2 (ls' := [_, _, _, _]) rfl ?_
    refine J_ige rfl (fun _ => ?_) (fun y => absurd (nI_le (by omega) (by omega)) y)
    refine J_p 1 (ls' := [_, _, _, _]) rfl ?_
    exact J_ret rfl rfl rfl (K M o F (Fm.refl _ M) (Gw.refl M A) hS hC)
  | d + 1, kk, did, T, A, M, o, F, hn, hb, hb0, hk, hE, hS, hC, hW, hT, K => by
    have es : (daysA (d + 1) A).2 = (if (dayB A).2 = true then 1 else 0) + (daysA d (tickA (dayB A).1).1).2 := rfl
    rw [es] at K
    refine J_p 2 (ls' := [_, _, _, _]) rfl ?_
    refine J_ige rfl (fun y => absurd y (nI_ge (by omega) (by omega))) (fun _ => ?_)
    refine J_p 2 (ls' := [_, _, _, _]) rfl ?_
    refine J_getR rfl hb hb0 ?_
    refine J_call rfl rfl rfl (decide_eq_true hS.1.1) rfl (c_actByDraws hE hS hC hW (fun M1 o1 F1 hF1 hG1 hS1 hC1 hW1 => ?_))
    show J _ _ _ _ _ _ _
    obtain ⟨b1, b2, b3⟩ := bObj hF1 hn hb hb0
    have rest : ∀ (z : Nat), z = (if (dayB A).2 = true then 1 else 0) → J E 143 37 [.ref b, .int (nI n), .int (nI did), .int (nI kk)] [.int (nI z), .int (nI did)] M1 Q := fun z ez => by
      rw [← ez] at K
      refine J_p 1 (ls' := [_, _, _, _]) rfl ?_
      refine J_t0 (nI_add did z) ?_
      refine J_p 2 (ls' := [_, _, .int (nI (did + z)), _]) rfl ?_
      refine J_getR rfl b2 b3 ?_
      refine J_call rfl rfl rfl (decide_eq_true hS1.1.1) rfl (c_tick (hE.fr hF1) hS1 hC1 hW1 (by omega) (fun M2 o2 F2 hE2 hF2 hG2 hS2 hC2 hW2 => ?_))
      show J _ _ _ _ _ _ _
      refine J_p 3 (ls' := [_, _, _, _]) rfl ?_
      rw [nI_add kk 1]
      have hF2' : Fm (Wm (b + 1) (b + 8) (b + 2)) M1 M2 := hF2.mono (fun z e => Or.inl e)
      obtain ⟨b4, b5, b6⟩ := bObj hF2' b1 b2 b3
      refine c_daysL hn31 d (kk + 1) (did + z) (T + 1) (tickA (dayB A).1).1 M2 o2 F2 b4 b5 b6 (by omega) hE2 hS2 hC2 hW2 (by omega) (fun M3 o3 F3 h1 h2 h3 h4 => ?_)
      rw [Nat.add_assoc]
      exact K M3 o3 F3 ((hF1.trans hF2').trans h1) (((hG1.trans hG2).trans h2).up (by omega)) h3 h4
    cases ed : (dayB A).2 with
    | true =>
      refine J_call rfl rfl rfl rfl rfl (c_asBit1 ?_)
      show J _ _ _ _ _ _ _
      exact rest 1 (by rw [ed]; rfl)
    | false =>
      refine J_call rfl rfl rfl rfl rfl (c_asBit0 ?_)
      show J _ _ _ _ _ _ _
      exact rest 0 (by rw [ed]; rfl)

theorem k_pass (hR : CR M b S) (hE : STa E M) (hW : WfS T S) (hT : T + 100 < 2 ^ 20) (hV : PrS S) (n : Int32) {P : Int32 × St} (hP : lfS (fun A => fPass A n) S = P) (K : ∀ M' : Mm, Ck b M M' S P.2 → CR M' b P.2 → Q (some (.int P.1)) M') : J E 123 0 [.ref b, .int n, U0, U0] [] M Q := by
  have hr := hR.1.1
  obtain ⟨o, F, hS, hC⟩ := hR.2.1
  have hA := hW.1
  have n8 := hC.2.1.2
  have n10 := hC.2.2.1.2
  have n30 := hC.2.2.2.1.2
  have m3 := hC.mc.1
  have hn := hR.1.2.2.2.2.2
  refine J_p 3 (ls' := [_, _, _, _]) rfl ?_
  refine J_call rfl rfl rfl rfl rfl (c_isWithin (by omega) (by omega) (fun j e1 ej n0 n1 => ?_) (fun e1 => ?_))
  · show J _ _ _ _ _ _ _
    rw [inNB_ix] at e1
    subst ej
    obtain rfl : P = (nI (passA j (s_a S)).2, z_a S (passA j (s_a S)).1) := hP.symm.trans (lfS_r (by simp only [fPass, e1]))
    refine J_zne rfl (fun _ => ?_) (fun y => absurd y (by decide))
    refine J_p 4 (ls' := [_, _, .int (nI 0), .int (nI 0)]) rfl ?_
    refine c_passL (b := b) (by omega) j 0 0 T (s_a S) M o F (by omega) hr.1 hr.2.1 (by omega) hE hS hC hA (by omega) (fun M2 o2 F2 h1 h2 h3 h4 => ?_)
    rw [Nat.zero_add]
    obtain ⟨g1, g2⟩ := hR.actG hV (h1.mono (fun z e => Or.inl e)) h2 (by omega) h3 h4 ⟨[], by rw [List.append_nil]; exact passA_m _ _⟩
    exact K _ g1 g2
  · show J _ _ _ _ _ _ _
    rw [inNB_ix] at e1
    refine J_zne rfl (fun y => absurd rfl y) (fun _ => ?_)
    obtain rfl : P = (rfN 0, z_f S 0) := hP.symm.trans (lfS_l (by simp only [fPass, e1]))
    refine J_p 2 (ls' := [_, _, _, _]) rfl ?_
    refine J_call rfl rfl rfl (decide_eq_true hr.1) rfl (c_refuse hR (w := 0) (by omega) (by first | rfl | decide) (fun M1 h1 h2 => ?_))
    show J _ _ _ _ _ _ _
    exact J_ret rfl rfl rfl (K M1 h1 h2)

theorem k_days (hR : CR M b S) (hE : STa E M) (hW : WfS T S) (hT : T + 100 < 2 ^ 20) (hV : PrS S) (n : Int32) {P : Int32 × St} (hP : lfS (fun A => fDays A n) S = P) (K : ∀ M' : Mm, Ck b M M' S P.2 → CR M' b P.2 → Q (some (.int P.1)) M') : J E 143 0 [.ref b, .int n, U0, U0] [] M Q := by
  have hr := hR.1.1
  obtain ⟨o, F, hS, hC⟩ := hR.2.1
  have hA := hW.1
  have n8 := hC.2.1.2
  have n10 := hC.2.2.1.2
  have n30 := hC.2.2.2.1.2
  have m3 := hC.mc.1
  have hn := hR.1.2.2.2.2.2
  refine J_p 3 (ls' := [_, _, _, _]) rfl ?_
  refine J_call rfl rfl rfl rfl rfl (c_isWithin (by omega) (by omega) (fun j e1 ej n0 n1 => ?_) (fun e1 => ?_))
  · show J _ _ _ _ _ _ _
    subst ej
    obtain rfl : P = (nI (daysA j (s_a S)).2, z_a S (daysA j (s_a S)).1) := hP.symm.trans (lfS_r (by simp only [fDays, e1]))
    refine J_zne rfl (fun _ => ?_) (fun y => absurd y (by decide))
    refine J_p 4 (ls' := [_, _, .int (nI 0), .int (nI 0)]) rfl ?_
    refine c_daysL (b := b) (by omega) j 0 0 T (s_a S) M o F (by omega) hr.1 hr.2.1 (by omega) hE hS hC hA (by omega) (fun M2 o2 F2 h1 h2 h3 h4 => ?_)
    rw [Nat.zero_add]
    obtain ⟨g1, g2⟩ := hR.actG hV h1 h2 (by omega) h3 h4 (daysA_m _ _)
    exact K _ g1 g2
  · show J _ _ _ _ _ _ _
    refine J_zne rfl (fun y => absurd rfl y) (fun _ => ?_)
    obtain rfl : P = (rfN 0, z_f S 0) := hP.symm.trans (lfS_l (by simp only [fDays, e1]))
    refine J_p 2 (ls' := [_, _, _, _]) rfl ?_
    refine J_call rfl rfl rfl (decide_eq_true hr.1) rfl (c_refuse hR (w := 0) (by omega) (by first | rfl | decide) (fun M1 h1 h2 => ?_))
    show J _ _ _ _ _ _ _
    exact J_ret rfl rfl rfl (K M1 h1 h2)

theorem k_revive (hR : CR M b S) (hE : STa E M) (hW : WfS T S) (hT : T + 100 < 2 ^ 20) (hV : PrS S) (i : Int32) {P : Int32 × St} (hP : lfS (fun A => fRevive A i) S = P) (K : ∀ M' : Mm, Ck b M M' S P.2 → CR M' b P.2 → Q (some (.int P.1)) M') : J E 124 0 [.ref b, .int i, U0, U0] [] M Q := by
  have hr := hR.1.1
  obtain ⟨o, F, hS, hC⟩ := hR.2.1
  have hA := hW.1
  have n8 := hC.2.1.2
  have n10 := hC.2.2.1.2
  have n30 := hC.2.2.2.1.2
  have m3 := hC.mc.1
  refine J_p 1 (ls' := [_, _, _, _]) rfl ?_
  refine J_getR rfl hr.1 hr.2.1 ?_
  refine J_p 1 (ls' := [_, _, _, _]) rfl ?_
  refine J_call rfl rfl rfl (decide_eq_true hS.1.1) rfl (c_deadAt hS hC (fun j d e1 hd j30 eq => ?_) (fun e1 => ?_))
  · show J _ _ _ _ _ _ _
    have ol := (hS.2.2.2.2.1.2.2.1 j j30).2
    have td := hS.2.2.2.2.1.2.2.2.2 (o j) ol
    have hD := hC.dc hd
    obtain ⟨d1, d2, d3, d4, d5, d6⟩ := hA.2.2.2.2.1 j d hd
    subst eq
    refine J_p 2 (ls' := [_, _, .ref (b + 8 + 216 + o j), _]) rfl ?_
    refine J_brT rfl rfl rfl ?_
    refine J_p 1 (ls' := [_, _, _, _]) rfl ?_
    refine J_getR rfl hr.1 hr.2.1 ?_
    refine J_p 1 (ls' := [_, _, _, _]) rfl ?_
    refine J_gi rfl td hD.2.1 ?_
    refine J_call rfl rfl rfl (decide_eq_true hS.1.1) rfl (c_queueAt hS hC (fun q x e2 hx q8 eq2 => ?_) (fun e2 => ?_))
    · show J _ _ _ _ _ _ _
      have edq : d_q d = q := (nI_eq (by omega) (by omega)).mp eq2
      have hQ := hS.qs q8
      have hQC := hC.qc hx
      obtain ⟨_, ⟨_, li20⟩, _, _, _, _, _, len, _⟩ := hA.2.1 q x hx
      have ok := hA.okL m3 n10 hx
      refine J_p 2 (ls' := [_, _, _, .ref (b + 8 + 4 + 25 * q)]) rfl ?_
      refine J_brT rfl rfl rfl ?_
      refine J_p 1 (ls' := [_, _, _, _]) rfl ?_
      refine J_call rfl rfl rfl (decide_eq_true hQ.1) rfl (c_isFull hQ hQC li20 len (fun y => ?_) (fun y => ?_))
      · show J _ _ _ _ _ _ _
        refine J_zeq rfl (fun z => absurd z (by decide)) (fun _ => ?_)
        obtain rfl : P = (rfN 4, z_f S 4) := hP.symm.trans (lfS_l (by simp only [fRevive, e1, hd, edq, hx, if_pos y]))
        refine J_p 2 (ls' := [_, _, _, _]) rfl ?_
        refine J_call rfl rfl rfl (decide_eq_true hr.1) rfl (c_refuse hR (w := 4) (by omega) (by first | rfl | decide) (fun M1 h1 h2 => ?_))
        show J _ _ _ _ _ _ _
        exact J_ret rfl rfl rfl (K M1 h1 h2)
      · show J _ _ _ _ _ _ _
        refine J_zeq rfl (fun _ => ?_) (fun z => absurd rfl z)
        refine J_p 1 (ls' := [_, _, _, _]) rfl ?_
        refine J_getR rfl hr.1 hr.2.1 ?_
        refine J_p 2 (ls' := [_, _, _, _]) rfl ?_
        obtain rfl : P = (nI ((a_d (s_a S)).length - 1), z_a S (w_d (comeA (s_a S) q x (d_m d)) ((a_d (s_a S)).eraseIdx j))) := hP.symm.trans (lfS_r (by simp only [fRevive, e1, hd, edq, hx, if_neg y]))
        refine J_call rfl rfl rfl (decide_eq_true hS.1.1) rfl (c_reviveDead hS hC hd hx li20 (by omega) d1 (fun i l hl => (ok i l hl).2.2.2.1) (fun M2 o2 F2 hF2 hN2 hS2 hC2 => ?_))
        show J _ _ _ _ _ _ _
        have hn := hR.1.2.2.2.2.2
        obtain ⟨b1, b2, b3⟩ := bObj (hF2.mono (fun z e => Or.inl e)) (by omega) hr.1 hr.2.1
        have jl := li hd
        have ed : (a_d (w_d (comeA (s_a S) q x (d_m d)) ((a_d (s_a S)).eraseIdx j))).length = (a_d (s_a S)).length - 1 := by
          show ((a_d (s_a S)).eraseIdx j).length = _
          rw [List.length_eraseIdx, if_pos jl]
        refine J_p 1 (ls' := [_, _, _, _]) rfl ?_
        refine J_getR rfl b2 b3 ?_
        refine J_gi (z := nI ((a_d (s_a S)).length - 1)) rfl hS2.1.1 (by rw [hC2.2.2.2.1.1, ed]) ?_
        have ep : phA (w_d (comeA (s_a S) q x (d_m d)) ((a_d (s_a S)).eraseIdx j)) = phA (s_a S) + 1 := ph_come (m := d_m d) hx
        obtain ⟨g1, g2⟩ := hR.act hV hF2 hN2 hS2 hC2 rfl (by omega)
        exact J_ret rfl rfl rfl (K _ g1 g2)
    · rw [ixN_nI d2 (by omega)] at e2
      cases e2
  · show J _ _ _ _ _ _ _
    refine J_p 2 (ls' := [_, _, .null, _]) rfl ?_
    refine J_brF rfl rfl rfl ?_
    refine J_p 4 (ls' := [_, _, _, .null]) rfl ?_
    refine J_brF rfl rfl rfl ?_
    obtain rfl : P = (rfN 0, z_f S 0) := hP.symm.trans (lfS_l (by simp only [fRevive, e1]))
    refine J_p 2 (ls' := [_, _, _, _]) rfl ?_
    refine J_call rfl rfl rfl (decide_eq_true hr.1) rfl (c_refuse hR (w := 0) (by omega) (by first | rfl | decide) (fun M1 h1 h2 => ?_))
    show J _ _ _ _ _ _ _
    exact J_ret rfl rfl rfl (K M1 h1 h2)

theorem k_bury (hR : CR M b S) (hE : STa E M) (hW : WfS T S) (hT : T + 100 < 2 ^ 20) (hV : PrS S) (q : Int32) {P : Int32 × St} (hP : lfS (fun A => fBury2 A q) S = P) (K : ∀ M' : Mm, Ck b M M' S P.2 → CR M' b P.2 → Q (some (.int P.1)) M') : J E 125 0 [.ref b, .int q] [] M Q := by
  have hr := hR.1.1
  obtain ⟨o, F, hS, hC⟩ := hR.2.1
  have hA := hW.1
  have n8 := hC.2.1.2
  have n10 := hC.2.2.1.2
  have n30 := hC.2.2.2.1.2
  have m3 := hC.mc.1
  have d8 : ∀ (i : Nat) (d : Da), (a_d (s_a S))[i]? = some d → d_q d < 8 := fun i d hd => by have := (hA.2.2.2.2.1 i d hd).2.1; omega
  have G : ∀ jo : Option Nat, ((q = -1 ∧ jo = none) ∨ ∃ j, q = nI j ∧ j < 8 ∧ jo = some j) → buO (s_a S) q = some jo → J E 125 23 [.ref b, .int q] [] M Q := fun jo h1 h2 => by
    obtain rfl : P = (nI (buA jo (a_d (s_a S)).length (a_d (s_a S))).2, z_a S (w_d (s_a S) (buA jo (a_d (s_a S)).length (a_d (s_a S))).1)) := hP.symm.trans (lfS_r (by simp only [fBury2, h2]))
    refine J_p 1 (ls' := [_, _]) rfl ?_
    refine J_getR rfl hr.1 hr.2.1 ?_
    refine J_p 1 (ls' := [_, _]) rfl ?_
    refine J_call rfl rfl rfl (decide_eq_true hS.1.1) rfl (c_forgetDead hS hC h1 d8 (fun M2 o2 hF2 hN2 hS2 hC2 => ?_))
    show J _ _ _ _ _ _ _
    obtain ⟨g1, g2⟩ := hR.act hV (hF2.mono (fun z e => by unfold Dw at e; unfold Ww; omega)) hN2 hS2 hC2 rfl (show phA (s_a S) ≤ phA (s_a S) + 480 by omega)
    exact J_ret rfl rfl rfl (K _ g1 g2)
  refine J_p 2 (ls' := [_, _]) rfl ?_
  refine J_ieq rfl (fun y => G none (Or.inl ⟨y, rfl⟩) (by unfold buO; rw [if_pos y])) (fun y => ?_)
  refine J_p 1 (ls' := [_, _]) rfl ?_
  refine J_getR rfl hr.1 hr.2.1 ?_
  refine J_p 1 (ls' := [_, _]) rfl ?_
  refine J_call rfl rfl rfl (decide_eq_true hS.1.1) rfl (c_queueAt hS hC (fun j x e1 hx j8 eq => ?_) (fun e1 => ?_))
  · show J _ _ _ _ _ _ _
    refine J_brT rfl rfl rfl ?_
    exact G (some j) (Or.inr ⟨j, eq, j8, rfl⟩) (by unfold buO; rw [if_neg y, e1])
  · show J _ _ _ _ _ _ _
    refine J_brF rfl rfl rfl ?_
    obtain rfl : P = (rfN 0, z_f S 0) := hP.symm.trans (lfS_l (by simp only [fBury2, buO, if_neg y, e1]))
    refine J_p 2 (ls' := [_, _]) rfl ?_
    refine J_call rfl rfl rfl (decide_eq_true hr.1) rfl (c_refuse hR (w := 0) (by omega) (by first | rfl | decide) (fun M1 h1 h2 => ?_))
    show J _ _ _ _ _ _ _
    exact J_ret rfl rfl rfl (K M1 h1 h2)

theorem k_seed (hR : CR M b S) (hE : STa E M) (hW : WfS T S) (hT : T + 100 < 2 ^ 20) (hV : PrS S) (v : Int32) {P : Int32 × St} (hP : lfS (fun A => fSeed A v) S = P) (K : ∀ M' : Mm, Ck b M M' S P.2 → CR M' b P.2 → Q (some (.int P.1)) M') : J E 144 0 [.ref b, .int v, U0] [] M Q := by
  have hr := hR.1.1
  obtain ⟨o, F, hS, hC⟩ := hR.2.1
  have hA := hW.1
  have n8 := hC.2.1.2
  have n10 := hC.2.2.1.2
  have n30 := hC.2.2.2.1.2
  have m3 := hC.mc.1
  obtain rfl : P = (a_s (s_a S), z_a S (w_s (s_a S) v)) := hP.symm.trans (lfS_r rfl)
  have n9 : ¬ rO (mT M (b + 1)) := by rw [hS.1.1]; unfold rO; omega
  refine J_p 1 (ls' := [_, _, _]) rfl ?_
  refine J_getR rfl hr.1 hr.2.1 ?_
  refine J_gi rfl hS.1.1 hC.2.2.2.2.2.1 ?_
  refine J_p 2 (ls' := [_, _, .int (a_s (s_a S))]) rfl ?_
  refine J_getR rfl hr.1 hr.2.1 ?_
  refine J_p 1 (ls' := [_, _, _]) rfl ?_
  refine J_putI rfl hS.1.1 (Or.inl rfl) ?_
  refine J_p 1 (ls' := [_, _, _]) rfl ?_
  obtain ⟨g1, g2⟩ := hR.act (M' := sI M (b + 1) 10 v) hV (Fm.sI (Or.inl rfl) n9) ⟨rfl, rfl, rfl⟩ hS.seti (OC.seti hS hC (z := v) rfl) rfl (show phA (s_a S) ≤ phA (s_a S) + 480 by omega)
  exact J_ret rfl rfl rfl (K _ g1 g2)

end COMP44