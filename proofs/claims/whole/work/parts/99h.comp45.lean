/-! THE COMPONENT'S PUBLIC METHODS: what is told. -/
section COMP45
variable {E : Nat × Nat} {M M' : Mm} {W : Nat → Prop} {Q : Option Value → Mm → Prop} {a b w t g m q T : Nat} {S S' : St} {A B : Ab} {o : Nat → Nat} {F : Nat → Nat → Nat} {x : Qa} {k : Co} {l : La}
theorem J_swD {mi pc nx tg x y n dpc : Nat} {vv : Value} {d hi : Int} {offs : Array Int} {v : Int32} {ls r : List Value} (hq : tb mi pc = some (.tableswitch d 0 hi offs, nx, tg, x, y, vv)) (hv : ixN v n = none) (hn : hi + 1 = (n : Int)) (hd : ((pc : Int) + d).toNat = dpc) (k : J E mi dpc ls r M Q) : J E mi pc ls (.int v :: r) M Q := by
  have h0 := ixN_none hv
  refine J_sw1 hq rfl (pc' := dpc) (r := r) ?_ k
  show some (swt pc d 0 hi offs v, r) = some (dpc, r)
  unfold swt
  rw [if_pos (by omega), hd]

theorem c_asBitN {n : Nat} (h : n ≤ 1) (k : Q (some (.int (nI n))) M) : J E 156 0 [.int (nI n)] [] M Q := by
  rcases (show n = 0 ∨ n = 1 by omega) with rfl | rfl
  · exact c_asBit0 k
  · exact c_asBit1 k

theorem k_queueOf (hR : CR M b S) (hE : STa E M) (hW : WfS T S) (hT : T + 100 < 2 ^ 20) (hV : PrS S) (q v : Int32) {P : Int32 × St} (hP : lfS (fun A => fQueueOf A q v) S = P) (K : ∀ M' : Mm, Ck b M M' S P.2 → CR M' b P.2 → Q (some (.int P.1)) M') : J E 127 0 [.ref b, .int q, .int v, U0] [] M Q := by
  have hr := hR.1.1
  obtain ⟨o, F, hS, hC⟩ := hR.2.1
  have hA := hW.1
  have n8 := hC.2.1.2
  have n10 := hC.2.2.1.2
  have n30 := hC.2.2.2.1.2
  have m3 := hC.mc.1
  refine J_p 1 (ls' := [_, _, _, _]) rfl ?_
  refine J_getR rfl hr.1 hr.2.1 ?_
  refine J_p 1 (ls' := [_, _, _, _]) rfl ?_
  refine J_call rfl rfl rfl (decide_eq_true hS.1.1) rfl (c_queueAt hS hC (fun j x e1 hx j8 eq => ?_) (fun e1 => ?_))
  · show J _ _ _ _ _ _ _
    have hQ := hS.qs j8
    have hQC := hC.qc hx
    have ok := hA.okL m3 n10 hx
    have x6 := (hA.2.1 j x hx).2.2.2.2.2.1
    have hsu : ∀ (c : Nat) (k : Co), (a_c (s_a S))[c]? = some k → (if atA (a_c (s_a S)) j c = true then crA (a_c (s_a S)) c else 0) = if (nI j = -1 ∨ nI (k_q k) = nI j) then k_cr k else 0 := fun c k hk => by
      have k4 := (hA.2.2.1 c k hk)
      have ec : crA (a_c (s_a S)) c = k_cr k := by unfold crA; rw [getD_of hk]
      have e2 : nI (k_q k) = nI j ↔ k_q k = j := nI_eq (by have := k4.1; omega) (by omega)
      have e3 : ¬ nI j = -1 := nI_m1 (by omega)
      rw [ec]
      by_cases c1 : k_q k = j
      · rw [if_pos (Or.inr (e2.mpr c1))]
        by_cases c0 : k_lf k = 0
        · rw [if_pos ((atA_iff hk).mpr ⟨c0, c1⟩)]
        · rw [if_neg (fun h => c0 ((atA_iff hk).mp h).1)]
          have := k4.2.2.2 (by have := k4.2.2.1; omega)
          omega
      · have hA1 : ¬ (nI j = -1 ∨ nI (k_q k) = nI j) := fun h => by
          rcases h with h | h
          · exact e3 h
          · exact c1 (e2.mp h)
        have hB1 : ¬ atA (a_c (s_a S)) j c = true := fun h => c1 ((atA_iff hk).mp h).2
        rw [if_neg hA1, if_neg hB1]
    refine J_p 2 (ls' := [_, _, _, .ref (b + 8 + 4 + 25 * j)]) rfl ?_
    refine J_brT rfl rfl rfl ?_
    refine J_p 1 (ls' := [_, _, _, _]) rfl ?_
    subst eq
    cases e2 : ixN v 11 with
    | none =>
      refine J_swD (n := 11) rfl e2 rfl rfl ?_
      obtain rfl : P = (rfN 0, z_f S 0) := hP.symm.trans (lfS_l (by simp only [fQueueOf, e1, e2]))
      refine J_p 2 (ls' := [_, _, _, _]) rfl ?_
      refine J_call rfl rfl rfl (decide_eq_true hr.1) rfl (c_refuse hR (w := 0) (by omega) (by first | rfl | decide) (fun M1 h1 h2 => ?_))
      show J _ _ _ _ _ _ _
      exact J_ret rfl rfl rfl (K M1 h1 h2)
    | some n =>
      obtain ⟨n11, ev, _⟩ := ixN_some e2
      subst ev
      rcases (show n = 0 ∨ n = 1 ∨ n = 2 ∨ n = 3 ∨ n = 4 ∨ n = 5 ∨ n = 6 ∨ n = 7 ∨ n = 8 ∨ n = 9 ∨ n = 10 by omega) with rfl | rfl | rfl | rfl | rfl | rfl | rfl | rfl | rfl | rfl | rfl
      · refine J_sw1 rfl rfl rfl ?_
        refine J_p 1 (ls' := [_, _, _, _]) rfl ?_
        refine J_gi rfl hQ.1 hQC.n ?_
        obtain rfl : P = (nI (q_ls x).length, S) := hP.symm.trans (lfS_r (B := s_a S) (by simp only [fQueueOf, e1, e2, hx]; rfl))
        exact J_ret rfl rfl rfl (K M (Ck.refl b M S) hR)
      · refine J_sw1 rfl rfl rfl ?_
        refine J_p 2 (ls' := [_, _, _, _]) rfl ?_
        refine J_call rfl rfl rfl (decide_eq_true hQ.1) rfl (c_countIn hQ hQC (s := 0) (by omega) (fun i l hl => (ok i l hl).1) ?_)
        show J _ _ _ _ _ _ _
        obtain rfl : P = (nI (cnA (stB (q_ls x) 0) (q_ls x).length), S) := hP.symm.trans (lfS_r (B := s_a S) (by simp only [fQueueOf, e1, e2, hx]; rfl))
        exact J_ret rfl rfl rfl (K M (Ck.refl b M S) hR)
      · refine J_sw1 rfl rfl rfl ?_
        refine J_p 2 (ls' := [_, _, _, _]) rfl ?_
        refine J_call rfl rfl rfl (decide_eq_true hQ.1) rfl (c_countIn hQ hQC (s := 1) (by omega) (fun i l hl => (ok i l hl).1) ?_)
        show J _ _ _ _ _ _ _
        obtain rfl : P = (nI (cnA (stB (q_ls x) 1) (q_ls x).length), S) := hP.symm.trans (lfS_r (B := s_a S) (by simp only [fQueueOf, e1, e2, hx]; rfl))
        exact J_ret rfl rfl rfl (K M (Ck.refl b M S) hR)
      · refine J_sw1 rfl rfl rfl ?_
        refine J_p 2 (ls' := [_, _, _, _]) rfl ?_
        refine J_call rfl rfl rfl (decide_eq_true hQ.1) rfl (c_countIn hQ hQC (s := 2) (by omega) (fun i l hl => (ok i l hl).1) ?_)
        show J _ _ _ _ _ _ _
        obtain rfl : P = (nI (cnA (stB (q_ls x) 2) (q_ls x).length), S) := hP.symm.trans (lfS_r (B := s_a S) (by simp only [fQueueOf, e1, e2, hx]; rfl))
        exact J_ret rfl rfl rfl (K M (Ck.refl b M S) hR)
      · refine J_sw1 rfl rfl rfl ?_
        refine J_p 1 (ls' := [_, _, _, _]) rfl ?_
        refine J_call rfl rfl rfl (decide_eq_true hQ.1) rfl (c_countMayGo hQ hQC ok ?_)
        show J _ _ _ _ _ _ _
        obtain rfl : P = (nI (cnA (mayA (a_m (s_a S)) (q_ls x)) (q_ls x).length), S) := hP.symm.trans (lfS_r (B := s_a S) (by simp only [fQueueOf, e1, e2, hx]; rfl))
        exact J_ret rfl rfl rfl (K M (Ck.refl b M S) hR)
      · refine J_sw1 rfl rfl rfl ?_
        refine J_p 1 (ls' := [_, _, _, _]) rfl ?_
        refine J_getR rfl hr.1 hr.2.1 ?_
        refine J_p 1 (ls' := [_, _, _, _]) rfl ?_
        refine J_call rfl rfl rfl (decide_eq_true hS.1.1) rfl (c_countPresent hS hC (hA.okK n8) j8 ?_)
        show J _ _ _ _ _ _ _
        obtain rfl : P = (nI (cnA (atA (a_c (s_a S)) j) (a_c (s_a S)).length), S) := hP.symm.trans (lfS_r (B := s_a S) (by simp only [fQueueOf, e1, e2, hx]; rfl))
        exact J_ret rfl rfl rfl (K M (Ck.refl b M S) hR)
      · refine J_sw1 rfl rfl rfl ?_
        refine J_p 1 (ls' := [_, _, _, _]) rfl ?_
        refine J_getR rfl hr.1 hr.2.1 ?_
        refine J_p 1 (ls' := [_, _, _, _]) rfl ?_
        refine J_call rfl rfl rfl (decide_eq_true hS.1.1) rfl (c_creditsAt hS hC (h := fun c => if atA (a_c (s_a S)) j c = true then crA (a_c (s_a S)) c else 0) hsu ?_)
        show J _ _ _ _ _ _ _
        obtain rfl : P = (nI (suA (fun c => if atA (a_c (s_a S)) j c = true then crA (a_c (s_a S)) c else 0) (a_c (s_a S)).length), S) := hP.symm.trans (lfS_r (B := s_a S) (by simp only [fQueueOf, e1, e2, hx]; rfl))
        exact J_ret rfl rfl rfl (K M (Ck.refl b M S) hR)
      · refine J_sw1 rfl rfl rfl ?_
        refine J_p 1 (ls' := [_, _, _, _]) rfl ?_
        refine J_gi rfl hQ.1 hQC.2.2.2.2.2.2.1 ?_
        refine J_call rfl rfl rfl rfl rfl (c_asBitN x6 ?_)
        show J _ _ _ _ _ _ _
        obtain rfl : P = (nI (q_ex x), S) := hP.symm.trans (lfS_r (B := s_a S) (by simp only [fQueueOf, e1, e2, hx]; rfl))
        exact J_ret rfl rfl rfl (K M (Ck.refl b M S) hR)
      · refine J_sw1 rfl rfl rfl ?_
        refine J_p 1 (ls' := [_, _, _, _]) rfl ?_
        refine J_gi rfl hQ.1 hQC.2.2.2.2.2.2.2.2.1 ?_
        obtain rfl : P = (q_gv x, S) := hP.symm.trans (lfS_r (B := s_a S) (by simp only [fQueueOf, e1, e2, hx]; rfl))
        exact J_ret rfl rfl rfl (K M (Ck.refl b M S) hR)
      · refine J_sw1 rfl rfl rfl ?_
        refine J_p 1 (ls' := [_, _, _, _]) rfl ?_
        refine J_gi rfl hQ.1 hQC.2.2.2.2.2.2.2.2.2.1 ?_
        obtain rfl : P = (q_ak x, S) := hP.symm.trans (lfS_r (B := s_a S) (by simp only [fQueueOf, e1, e2, hx]; rfl))
        exact J_ret rfl rfl rfl (K M (Ck.refl b M S) hR)
      · refine J_sw1 rfl rfl rfl ?_
        refine J_p 1 (ls' := [_, _, _, _]) rfl ?_
        refine J_gi rfl hQ.1 hQC.2.2.2.2.2.2.2.2.2.2.1 ?_
        obtain rfl : P = (q_di x, S) := hP.symm.trans (lfS_r (B := s_a S) (by simp only [fQueueOf, e1, e2, hx]; rfl))
        exact J_ret rfl rfl rfl (K M (Ck.refl b M S) hR)
  · show J _ _ _ _ _ _ _
    refine J_p 2 (ls' := [_, _, _, .null]) rfl ?_
    refine J_brF rfl rfl rfl ?_
    obtain rfl : P = (rfN 0, z_f S 0) := hP.symm.trans (lfS_l (by simp only [fQueueOf, e1]))
    refine J_p 2 (ls' := [_, _, _, _]) rfl ?_
    refine J_call rfl rfl rfl (decide_eq_true hr.1) rfl (c_refuse hR (w := 0) (by omega) (by first | rfl | decide) (fun M1 h1 h2 => ?_))
    show J _ _ _ _ _ _ _
    exact J_ret rfl rfl rfl (K M1 h1 h2)

theorem k_letter (hR : CR M b S) (hE : STa E M) (hW : WfS T S) (hT : T + 100 < 2 ^ 20) (hV : PrS S) (q i v : Int32) {P : Int32 × St} (hP : lfS (fun A => fLetter A q i v) S = P) (K : ∀ M' : Mm, Ck b M M' S P.2 → CR M' b P.2 → Q (some (.int P.1)) M') : J E 128 0 [.ref b, .int q, .int i, .int v, U0, U0] [] M Q := by
  have hr := hR.1.1
  obtain ⟨o, F, hS, hC⟩ := hR.2.1
  have hA := hW.1
  have n8 := hC.2.1.2
  have n10 := hC.2.2.1.2
  have n30 := hC.2.2.2.1.2
  have m3 := hC.mc.1
  have R0 : fLetter (s_a S) q i v = .inl 0 → ∀ v4 : Value, J E 128 29 [.ref b, .int q, .int i, .int v, v4, .null] [.null] M Q := fun h0 v4 => by
    refine J_brF rfl rfl rfl ?_
    obtain rfl : P = (rfN 0, z_f S 0) := hP.symm.trans (lfS_l (by exact h0))
    refine J_p 2 (ls' := [_, _, _, _, _, _]) rfl ?_
    refine J_call rfl rfl rfl (decide_eq_true hr.1) rfl (c_refuse hR (w := 0) (by omega) (by first | rfl | decide) (fun M1 h1 h2 => ?_))
    show J _ _ _ _ _ _ _
    exact J_ret rfl rfl rfl (K M1 h1 h2)
  refine J_p 1 (ls' := [_, _, _, _, _, _]) rfl ?_
  refine J_getR rfl hr.1 hr.2.1 ?_
  refine J_p 1 (ls' := [_, _, _, _, _, _]) rfl ?_
  refine J_call rfl rfl rfl (decide_eq_true hS.1.1) rfl (c_queueAt hS hC (fun j x e1 hx j8 eq => ?_) (fun e1 => ?_))
  · show J _ _ _ _ _ _ _
    have hQ := hS.qs j8
    have hQC := hC.qc hx
    have n20 := hQC.n20
    have eX : ∀ n, ixN v 5 = some n → fLetter (s_a S) q i v = match ixN i (q_ls x).length with
        | none => .inl 0
        | some n' => match (q_ls x)[n']? with
          | none => .inl 0
          | some l => .inr (loA l n, (s_a S)) := fun n e2 => by
      simp only [fLetter, e1, e2, hx]
      all_goals rfl
    have eN : ixN v 5 = none → fLetter (s_a S) q i v = .inl 0 := fun e2 => by simp only [fLetter, e1, e2]
    refine J_p 2 (ls' := [_, _, _, _, .ref (b + 8 + 4 + 25 * j), _]) rfl ?_
    refine J_brT rfl rfl rfl ?_
    refine J_p 2 (ls' := [_, _, _, _, _, _]) rfl ?_
    refine J_call rfl rfl rfl (decide_eq_true hQ.1) rfl (c_letterAt hQ hQC (fun n' l e3 hl l20 ei => ?_) (fun e3 => ?_))
    · show J _ _ _ _ _ _ _
      have t3 := hQ.t3 (i := n') (by omega)
      have hL := hQC.l hl
      refine J_p 2 (ls' := [_, _, _, _, _, .ref (b + 8 + 4 + 25 * j + 5 + F j n')]) rfl ?_
      refine J_brT rfl rfl rfl ?_
      refine J_p 1 (ls' := [_, _, _, _, _, _]) rfl ?_
      cases e2 : ixN v 5 with
      | none =>
        refine J_swD (n := 5) rfl e2 rfl rfl ?_
        obtain rfl : P = (rfN 0, z_f S 0) := hP.symm.trans (lfS_l (by exact eN e2))
        refine J_p 2 (ls' := [_, _, _, _, _, _]) rfl ?_
        refine J_call rfl rfl rfl (decide_eq_true hr.1) rfl (c_refuse hR (w := 0) (by omega) (by first | rfl | decide) (fun M1 h1 h2 => ?_))
        show J _ _ _ _ _ _ _
        exact J_ret rfl rfl rfl (K M1 h1 h2)
      | some n =>
        obtain ⟨n5, ev, _⟩ := ixN_some e2
        have eF := eX n e2
        rw [e3] at eF
        simp only [hl] at eF
        subst ev
        rcases (show n = 0 ∨ n = 1 ∨ n = 2 ∨ n = 3 ∨ n = 4 by omega) with rfl | rfl | rfl | rfl | rfl
        · refine J_sw1 rfl rfl rfl ?_
          refine J_p 1 (ls' := [_, _, _, _, _, _]) rfl ?_
          refine J_gi rfl t3 hL.1 ?_
          obtain rfl : P = (nI (l_m l), S) := hP.symm.trans (lfS_r (B := s_a S) (by exact eF))
          exact J_ret rfl rfl rfl (K M (Ck.refl b M S) hR)
        · refine J_sw1 rfl rfl rfl ?_
          refine J_p 1 (ls' := [_, _, _, _, _, _]) rfl ?_
          refine J_gi rfl t3 hL.2.2.2.2.1 ?_
          obtain rfl : P = (nI (l_s l), S) := hP.symm.trans (lfS_r (B := s_a S) (by exact eF))
          exact J_ret rfl rfl rfl (K M (Ck.refl b M S) hR)
        · refine J_sw1 rfl rfl rfl ?_
          refine J_p 1 (ls' := [_, _, _, _, _, _]) rfl ?_
          refine J_gi rfl t3 hL.2.2.2.2.2.1 ?_
          obtain rfl : P = (nI (l_c l).length, S) := hP.symm.trans (lfS_r (B := s_a S) (by exact eF))
          exact J_ret rfl rfl rfl (K M (Ck.refl b M S) hR)
        · refine J_sw1 rfl rfl rfl ?_
          refine J_p 1 (ls' := [_, _, _, _, _, _]) rfl ?_
          refine J_gi rfl t3 hL.2.2.2.2.2.2.1 ?_
          obtain rfl : P = (whoI l, S) := hP.symm.trans (lfS_r (B := s_a S) (by exact eF))
          exact J_ret rfl rfl rfl (K M (Ck.refl b M S) hR)
        · refine J_sw1 rfl rfl rfl ?_
          refine J_p 1 (ls' := [_, _, _, _, _, _]) rfl ?_
          refine J_gi rfl t3 hL.2.2.2.2.2.2.2.1 ?_
          obtain rfl : P = (tillI l, S) := hP.symm.trans (lfS_r (B := s_a S) (by exact eF))
          exact J_ret rfl rfl rfl (K M (Ck.refl b M S) hR)
    · show J _ _ _ _ _ _ _
      refine J_p 2 (ls' := [_, _, _, _, _, .null]) rfl ?_
      refine R0 ?_ _
      cases e2 : ixN v 5 with
      | none => exact eN e2
      | some n =>
        have eF := eX n e2
        rw [e3] at eF
        exact eF
  · show J _ _ _ _ _ _ _
    refine J_p 2 (ls' := [_, _, _, _, .null, _]) rfl ?_
    refine J_brF rfl rfl rfl ?_
    refine J_p 4 (ls' := [_, _, _, _, _, .null]) rfl ?_
    exact R0 (by simp only [fLetter, e1]) _

theorem k_consumerOf (hR : CR M b S) (hE : STa E M) (hW : WfS T S) (hT : T + 100 < 2 ^ 20) (hV : PrS S) (q v : Int32) {P : Int32 × St} (hP : lfS (fun A => fConsumerOf A q v) S = P) (K : ∀ M' : Mm, Ck b M M' S P.2 → CR M' b P.2 → Q (some (.int P.1)) M') : J E 129 0 [.ref b, .int q, .int v, U0, U0] [] M Q := by
  have hr := hR.1.1
  obtain ⟨o, F, hS, hC⟩ := hR.2.1
  have hA := hW.1
  have n8 := hC.2.1.2
  have n10 := hC.2.2.1.2
  have n30 := hC.2.2.2.1.2
  have m3 := hC.mc.1
  refine J_p 1 (ls' := [_, _, _, _, _]) rfl ?_
  refine J_getR rfl hr.1 hr.2.1 ?_
  refine J_p 1 (ls' := [_, _, _, _, _]) rfl ?_
  refine J_call rfl rfl rfl (decide_eq_true hS.1.1) rfl (c_consumerAt hS hC (fun c k e1 hk c10 eq => ?_) (fun e1 => ?_))
  · show J _ _ _ _ _ _ _
    have hK := hC.kc hk
    have tk := hS.tk c10
    have k1 := (hA.2.2.1 c k hk).2.2.1
    refine J_p 2 (ls' := [_, _, _, .ref (b + 8 + 205 + c), _]) rfl ?_
    refine J_getR rfl hr.1 hr.2.1 ?_
    refine J_p 1 (ls' := [_, _, _, _, _]) rfl ?_
    refine J_call rfl rfl rfl (decide_eq_true hS.1.1) rfl (c_homeOf hS hC (fun c k hk => (hA.2.2.1 c k hk).1) (fun c' k' x e1' hk' hx hq8 eq' => ?_) (fun e1' => ?_))
    · show J _ _ _ _ _ _ _
      rw [e1] at e1'
      cases e1'
      rw [hk] at hk'
      cases hk'
      have hQ := hS.qs hq8
      have hQC := hC.qc hx
      have ok := hA.okL m3 n10 hx
      subst eq
      refine J_p 2 (ls' := [_, _, _, _, .ref (b + 8 + 4 + 25 * k_q k)]) rfl ?_
      refine J_brF rfl rfl rfl ?_
      refine J_p 1 (ls' := [_, _, _, _, _]) rfl ?_
      refine J_brT rfl rfl rfl ?_
      refine J_p 1 (ls' := [_, _, _, _, _]) rfl ?_
      cases e2 : ixN v 5 with
      | none =>
        refine J_swD (n := 5) rfl e2 rfl rfl ?_
        obtain rfl : P = (rfN 0, z_f S 0) := hP.symm.trans (lfS_l (by simp only [fConsumerOf, e1, e2]))
        refine J_p 2 (ls' := [_, _, _, _, _]) rfl ?_
        refine J_call rfl rfl rfl (decide_eq_true hr.1) rfl (c_refuse hR (w := 0) (by omega) (by first | rfl | decide) (fun M1 h1 h2 => ?_))
        show J _ _ _ _ _ _ _
        exact J_ret rfl rfl rfl (K M1 h1 h2)
      | some n =>
        obtain ⟨n5, ev, _⟩ := ixN_some e2
        subst ev
        rcases (show n = 0 ∨ n = 1 ∨ n = 2 ∨ n = 3 ∨ n = 4 by omega) with rfl | rfl | rfl | rfl | rfl
        · refine J_sw1 rfl rfl rfl ?_
          refine J_p 1 (ls' := [_, _, _, _, _]) rfl ?_
          refine J_gi rfl tk hK.1 ?_
          obtain rfl : P = (nI (k_q k), S) := hP.symm.trans (lfS_r (B := s_a S) (by simp only [fConsumerOf, e1, e2, hk, hx]; rfl))
          exact J_ret rfl rfl rfl (K M (Ck.refl b M S) hR)
        · refine J_sw1 rfl rfl rfl ?_
          refine J_p 1 (ls' := [_, _, _, _, _]) rfl ?_
          refine J_gi rfl tk hK.2.1 ?_
          obtain rfl : P = (nI (k_cr k), S) := hP.symm.trans (lfS_r (B := s_a S) (by simp only [fConsumerOf, e1, e2, hk, hx]; rfl))
          exact J_ret rfl rfl rfl (K M (Ck.refl b M S) hR)
        · refine J_sw1 rfl rfl rfl ?_
          refine J_p 2 (ls' := [_, _, _, _, _]) rfl ?_
          refine J_call rfl rfl rfl (decide_eq_true hQ.1) rfl (c_countOut hQ hQC (c := c) (by omega) (fun i l hl => ⟨(ok i l hl).1, fun e => by have := (ok i l hl).2.2.2.2 e; omega⟩) ?_)
          show J _ _ _ _ _ _ _
          obtain rfl : P = (nI (cnA (outB (q_ls x) c) (q_ls x).length), S) := hP.symm.trans (lfS_r (B := s_a S) (by simp only [fConsumerOf, e1, e2, hk, hx]; rfl))
          exact J_ret rfl rfl rfl (K M (Ck.refl b M S) hR)
        · refine J_sw1 rfl rfl rfl ?_
          refine J_p 1 (ls' := [_, _, _, _, _]) rfl ?_
          refine J_gi rfl tk hK.2.2.2 ?_
          refine J_call rfl rfl rfl rfl rfl (c_asBitN k1 ?_)
          show J _ _ _ _ _ _ _
          obtain rfl : P = (nI (k_lf k), S) := hP.symm.trans (lfS_r (B := s_a S) (by simp only [fConsumerOf, e1, e2, hk, hx]; rfl))
          exact J_ret rfl rfl rfl (K M (Ck.refl b M S) hR)
        · refine J_sw1 rfl rfl rfl ?_
          refine J_p 1 (ls' := [_, _, _, _, _]) rfl ?_
          refine J_gi rfl tk hK.2.2.1 ?_
          obtain rfl : P = (k_gt k, S) := hP.symm.trans (lfS_r (B := s_a S) (by simp only [fConsumerOf, e1, e2, hk, hx]; rfl))
          exact J_ret rfl rfl rfl (K M (Ck.refl b M S) hR)
    · rw [e1] at e1'
      cases e1'
  · show J _ _ _ _ _ _ _
    refine J_p 2 (ls' := [_, _, _, .null, _]) rfl ?_
    refine J_getR rfl hr.1 hr.2.1 ?_
    refine J_p 1 (ls' := [_, _, _, _, _]) rfl ?_
    refine J_call rfl rfl rfl (decide_eq_true hS.1.1) rfl (c_homeOf hS hC (fun c k hk => (hA.2.2.1 c k hk).1) (fun c' k' x e1' hk' hx hq8 eq' => ?_) (fun e1' => ?_))
    · rw [e1] at e1'
      cases e1'
    · show J _ _ _ _ _ _ _
      refine J_p 2 (ls' := [_, _, _, _, .null]) rfl ?_
      refine J_brT rfl rfl rfl ?_
      obtain rfl : P = (rfN 0, z_f S 0) := hP.symm.trans (lfS_l (by simp only [fConsumerOf, e1]))
      refine J_p 2 (ls' := [_, _, _, _, _]) rfl ?_
      refine J_call rfl rfl rfl (decide_eq_true hr.1) rfl (c_refuse hR (w := 0) (by omega) (by first | rfl | decide) (fun M1 h1 h2 => ?_))
      show J _ _ _ _ _ _ _
      exact J_ret rfl rfl rfl (K M1 h1 h2)

theorem k_held (hR : CR M b S) (hE : STa E M) (hW : WfS T S) (hT : T + 100 < 2 ^ 20) (hV : PrS S) (q v : Int32) {P : Int32 × St} (hP : lfS (fun A => fHeld A q v) S = P) (K : ∀ M' : Mm, Ck b M M' S P.2 → CR M' b P.2 → Q (some (.int P.1)) M') : J E 130 0 [.ref b, .int q, .int v, U0, U0] [] M Q := by
  have hr := hR.1.1
  obtain ⟨o, F, hS, hC⟩ := hR.2.1
  have hA := hW.1
  have n8 := hC.2.1.2
  have n10 := hC.2.2.1.2
  have n30 := hC.2.2.2.1.2
  have m3 := hC.mc.1
  have R0 : fHeld (s_a S) q v = .inl 0 → ∀ v3 : Value, J E 130 31 [.ref b, .int q, .int v, v3, .null] [.null] M Q := fun h0 v3 => by
    refine J_brF rfl rfl rfl ?_
    obtain rfl : P = (rfN 0, z_f S 0) := hP.symm.trans (lfS_l (by exact h0))
    refine J_p 2 (ls' := [_, _, _, _, _]) rfl ?_
    refine J_call rfl rfl rfl (decide_eq_true hr.1) rfl (c_refuse hR (w := 0) (by omega) (by first | rfl | decide) (fun M1 h1 h2 => ?_))
    show J _ _ _ _ _ _ _
    refine J_p 1 (ls' := [_, _, _, _, _]) rfl ?_
    exact J_ret rfl rfl rfl (K M1 h1 h2)
  refine J_p 1 (ls' := [_, _, _, _, _]) rfl ?_
  refine J_getR rfl hr.1 hr.2.1 ?_
  refine J_p 1 (ls' := [_, _, _, _, _]) rfl ?_
  refine J_call rfl rfl rfl (decide_eq_true hS.1.1) rfl (c_homeOf hS hC (fun c k hk => (hA.2.2.1 c k hk).1) (fun c k x e1 hk hx hq8 eq => ?_) (fun e1 => ?_))
  · show J _ _ _ _ _ _ _
    have c10 : c < 10 := by have := li hk; omega
    have hQ := hS.qs hq8
    have hQC := hC.qc hx
    have n20 := hQC.n20
    have ok := hA.okL m3 n10 hx
    subst eq
    refine J_p 2 (ls' := [_, _, _, .ref (b + 8 + 4 + 25 * k_q k), _]) rfl ?_
    refine J_brT rfl rfl rfl ?_
    refine J_p 4 (ls' := [_, _, _, _, _]) rfl ?_
    refine J_call rfl rfl rfl (decide_eq_true hQ.1) rfl (c_nthOut hQ hQC (c := c) (by omega) (fun i l hl => ⟨(ok i l hl).1, fun e => by have := (ok i l hl).2.2.2.2 e; omega⟩) ?_)
    show J _ _ _ _ _ _ _
    cases hi : htA (q_ls x) c v (q_ls x).length 0 0 with
    | none =>
      refine J_call rfl rfl rfl (decide_eq_true hQ.1) rfl (c_letterAt hQ hQC (s := -1) (fun n' l e3 hl l20 ei => absurd ei.symm (nI_m1 (by omega))) (fun e3 => ?_))
      show J _ _ _ _ _ _ _
      refine J_p 2 (ls' := [_, _, _, _, .null]) rfl ?_
      exact R0 (by simp only [fHeld, e1, hk, hx, hi]) _
    | some p =>
      have hp := (htA_lt _ _ _ _ _ _ _ hi).1
      refine J_call rfl rfl rfl (decide_eq_true hQ.1) rfl (c_letterAt hQ hQC (s := nI p) (fun n' l e3 hl l20 ei => ?_) (fun e3 => ?_))
      · show J _ _ _ _ _ _ _
        have : p = n' := (nI_eq (by omega) (by omega)).mp ei
        subst this
        refine J_p 2 (ls' := [_, _, _, _, .ref (b + 8 + 4 + 25 * k_q k + 5 + F (k_q k) p)]) rfl ?_
        refine J_brT rfl rfl rfl ?_
        refine J_p 1 (ls' := [_, _, _, _, _]) rfl ?_
        refine J_gi rfl (hQ.t3 (by omega)) (hQC.l hl).1 ?_
        obtain rfl : P = (nI (l_m l), S) := hP.symm.trans (lfS_r (B := s_a S) (by simp only [fHeld, e1, hk, hx, hi, hl]))
        exact J_ret rfl rfl rfl (K M (Ck.refl b M S) hR)
      · rw [ixN_nI (by omega) (by omega)] at e3
        cases e3
  · show J _ _ _ _ _ _ _
    refine J_p 2 (ls' := [_, _, _, .null, _]) rfl ?_
    refine J_brF rfl rfl rfl ?_
    refine J_p 4 (ls' := [_, _, _, _, .null]) rfl ?_
    exact R0 (by simp only [fHeld, e1]) _

theorem k_messageOf (hR : CR M b S) (hE : STa E M) (hW : WfS T S) (hT : T + 100 < 2 ^ 20) (hV : PrS S) (m v : Int32) {P : Int32 × St} (hP : lfS (fun A => fMessageOf A m v) S = P) (K : ∀ M' : Mm, Ck b M M' S P.2 → CR M' b P.2 → Q (some (.int P.1)) M') : J E 131 0 [.ref b, .int m, .int v, U0] [] M Q := by
  have hr := hR.1.1
  obtain ⟨o, F, hS, hC⟩ := hR.2.1
  have hA := hW.1
  have n8 := hC.2.1.2
  have n10 := hC.2.2.1.2
  have n30 := hC.2.2.2.1.2
  have m3 := hC.mc.1
  have R0 : fMessageOf (s_a S) m v = .inl 0 → J E 131 24 [.ref b, .int m, .int v, U0] [] M Q := fun h0 => by
    obtain rfl : P = (rfN 0, z_f S 0) := hP.symm.trans (lfS_l (by exact h0))
    refine J_p 2 (ls' := [_, _, _, _]) rfl ?_
    refine J_call rfl rfl rfl (decide_eq_true hr.1) rfl (c_refuse hR (w := 0) (by omega) (by first | rfl | decide) (fun M1 h1 h2 => ?_))
    show J _ _ _ _ _ _ _
    exact J_ret rfl rfl rfl (K M1 h1 h2)
  have gS := hS.2.2.2.2.2.1
  refine J_p 2 (ls' := [_, _, _, _]) rfl ?_
  refine J_getR rfl hr.1 hr.2.1 ?_
  refine J_gi rfl hS.1.1 hC.1 ?_
  refine J_call rfl rfl rfl rfl rfl (c_isBelow (by omega) (fun j e1 jl ej => ?_) (fun e1 => ?_))
  · show J _ _ _ _ _ _ _
    subst ej
    obtain ⟨y, hy⟩ := get_of jl
    obtain ⟨y0, y1, y2, y3, y4⟩ := hC.mc.2 j y hy
    refine J_zeq rfl (fun z => absurd z (by decide)) (fun _ => ?_)
    refine J_p 2 (ls' := [_, _, _, _]) rfl ?_
    refine J_call rfl rfl rfl rfl rfl (c_isBelow (by omega) (fun _ _ _ _ => ?_) (fun e2 => ?_))
    · show J _ _ _ _ _ _ _
      refine J_zne rfl (fun _ => ?_) (fun z => absurd z (by decide))
      refine J_p 1 (ls' := [_, _, _, _]) rfl ?_
      refine J_getR rfl hr.1 hr.2.1 ?_
      refine J_getR rfl hS.1.1 hS.1.2.1 ?_
      refine J_p 2 (ls' := [_, _, _, .ref (b + 2)]) rfl ?_
      cases e2 : ixN v 6 with
      | none =>
        refine J_swD (n := 6) rfl e2 rfl rfl ?_
        obtain rfl : P = (rfN 0, z_f S 0) := hP.symm.trans (lfS_l (by simp only [fMessageOf, e1, e2]))
        refine J_p 2 (ls' := [_, _, _, _]) rfl ?_
        refine J_call rfl rfl rfl (decide_eq_true hr.1) rfl (c_refuse hR (w := 0) (by omega) (by first | rfl | decide) (fun M1 h1 h2 => ?_))
        show J _ _ _ _ _ _ _
        exact J_ret rfl rfl rfl (K M1 h1 h2)
      | some n =>
        obtain ⟨n6, ev, _⟩ := ixN_some e2
        subst ev
        rcases (show n = 0 ∨ n = 1 ∨ n = 2 ∨ n = 3 ∨ n = 4 ∨ n = 5 by omega) with rfl | rfl | rfl | rfl | rfl | rfl
        · refine J_sw1 rfl rfl rfl ?_
          refine J_p 1 (ls' := [_, _, _, _]) rfl ?_
          refine J_getR rfl gS.1 (gS.2 0 (by omega)).1 ?_
          refine J_p 1 (ls' := [_, _, _, _]) rfl ?_
          refine J_ia (n := j) (L := 300) rfl rfl (Or.inl (gS.2 0 (by omega)).2.1) (gS.2 0 (by omega)).2.2 (by omega) (by omega) y0 ?_
          obtain rfl : P = (nI (g_k y), S) := hP.symm.trans (lfS_r (B := s_a S) (by simp only [fMessageOf, e1, e2, hy]; rfl))
          exact J_ret rfl rfl rfl (K M (Ck.refl b M S) hR)
        · refine J_sw1 rfl rfl rfl ?_
          refine J_p 1 (ls' := [_, _, _, _]) rfl ?_
          refine J_getR rfl gS.1 (gS.2 1 (by omega)).1 ?_
          refine J_p 1 (ls' := [_, _, _, _]) rfl ?_
          refine J_ia (n := j) (L := 300) rfl rfl (Or.inl (gS.2 1 (by omega)).2.1) (gS.2 1 (by omega)).2.2 (by omega) (by omega) y1 ?_
          obtain rfl : P = (nI (g_r y), S) := hP.symm.trans (lfS_r (B := s_a S) (by simp only [fMessageOf, e1, e2, hy]; rfl))
          exact J_ret rfl rfl rfl (K M (Ck.refl b M S) hR)
        · refine J_sw1 rfl rfl rfl ?_
          refine J_p 1 (ls' := [_, _, _, _]) rfl ?_
          refine J_getR rfl gS.1 (gS.2 2 (by omega)).1 ?_
          refine J_p 1 (ls' := [_, _, _, _]) rfl ?_
          refine J_ia (n := j) (L := 300) rfl rfl (Or.inl (gS.2 2 (by omega)).2.1) (gS.2 2 (by omega)).2.2 (by omega) (by omega) y2 ?_
          obtain rfl : P = (g_v y, S) := hP.symm.trans (lfS_r (B := s_a S) (by simp only [fMessageOf, e1, e2, hy]; rfl))
          exact J_ret rfl rfl rfl (K M (Ck.refl b M S) hR)
        · refine J_sw1 rfl rfl rfl ?_
          refine J_p 1 (ls' := [_, _, _, _]) rfl ?_
          refine J_getR rfl gS.1 (gS.2 3 (by omega)).1 ?_
          refine J_p 1 (ls' := [_, _, _, _]) rfl ?_
          refine J_ia (n := j) (L := 300) rfl rfl (Or.inl (gS.2 3 (by omega)).2.1) (gS.2 3 (by omega)).2.2 (by omega) (by omega) y3 ?_
          obtain rfl : P = (nI (g_t y), S) := hP.symm.trans (lfS_r (B := s_a S) (by simp only [fMessageOf, e1, e2, hy]; rfl))
          exact J_ret rfl rfl rfl (K M (Ck.refl b M S) hR)
        · refine J_sw1 rfl rfl rfl ?_
          refine J_p 1 (ls' := [_, _, _, _]) rfl ?_
          refine J_getR rfl hr.1 hr.2.1 ?_
          refine J_p 1 (ls' := [_, _, _, _]) rfl ?_
          refine J_call rfl rfl rfl (decide_eq_true hS.1.1) rfl (c_countQueuesWith hS hC (by omega) (fun q x i l hx hl => (hA.okL m3 n10 hx i l hl).2.2.2.1) ?_)
          show J _ _ _ _ _ _ _
          obtain rfl : P = (nI (cnA (hmQ (s_a S) j) (a_q (s_a S)).length), S) := hP.symm.trans (lfS_r (B := s_a S) (by simp only [fMessageOf, e1, e2, hy]; rfl))
          exact J_ret rfl rfl rfl (K M (Ck.refl b M S) hR)
        · refine J_sw1 rfl rfl rfl ?_
          refine J_p 1 (ls' := [_, _, _, _]) rfl ?_
          refine J_getR rfl gS.1 (gS.2 4 (by omega)).1 ?_
          refine J_p 1 (ls' := [_, _, _, _]) rfl ?_
          refine J_ia (n := j) (L := 300) rfl rfl (Or.inl (gS.2 4 (by omega)).2.1) (gS.2 4 (by omega)).2.2 (by omega) (by omega) y4 ?_
          obtain rfl : P = (nI (g_p y), S) := hP.symm.trans (lfS_r (B := s_a S) (by simp only [fMessageOf, e1, e2, hy]; rfl))
          exact J_ret rfl rfl rfl (K M (Ck.refl b M S) hR)
    · rw [ixN_nI (by omega) (by omega)] at e2
      cases e2
  · show J _ _ _ _ _ _ _
    refine J_zeq rfl (fun _ => ?_) (fun z => absurd rfl z)
    exact R0 (by simp only [fMessageOf, e1])

theorem k_dead (hR : CR M b S) (hE : STa E M) (hW : WfS T S) (hT : T + 100 < 2 ^ 20) (hV : PrS S) (i v : Int32) {P : Int32 × St} (hP : lfS (fun A => fDead A i v) S = P) (K : ∀ M' : Mm, Ck b M M' S P.2 → CR M' b P.2 → Q (some (.int P.1)) M') : J E 132 0 [.ref b, .int i, .int v, U0] [] M Q := by
  have hr := hR.1.1
  obtain ⟨o, F, hS, hC⟩ := hR.2.1
  have hA := hW.1
  have n8 := hC.2.1.2
  have n10 := hC.2.2.1.2
  have n30 := hC.2.2.2.1.2
  have m3 := hC.mc.1
  refine J_p 1 (ls' := [_, _, _, _]) rfl ?_
  refine J_getR rfl hr.1 hr.2.1 ?_
  refine J_p 1 (ls' := [_, _, _, _]) rfl ?_
  refine J_call rfl rfl rfl (decide_eq_true hS.1.1) rfl (c_deadAt hS hC (fun j d e1 hd j30 eq => ?_) (fun e1 => ?_))
  · show J _ _ _ _ _ _ _
    have ol := (hS.2.2.2.2.1.2.2.1 j j30).2
    have td := hS.2.2.2.2.1.2.2.2.2 (o j) ol
    have hD := hC.dc hd
    refine J_p 2 (ls' := [_, _, _, .ref (b + 8 + 216 + o j)]) rfl ?_
    refine J_brT rfl rfl rfl ?_
    refine J_p 1 (ls' := [_, _, _, _]) rfl ?_
    cases e2 : ixN v 4 with
    | none =>
      refine J_swD (n := 4) rfl e2 rfl rfl ?_
      obtain rfl : P = (rfN 0, z_f S 0) := hP.symm.trans (lfS_l (by simp only [fDead, e1, e2]))
      refine J_p 2 (ls' := [_, _, _, _]) rfl ?_
      refine J_call rfl rfl rfl (decide_eq_true hr.1) rfl (c_refuse hR (w := 0) (by omega) (by first | rfl | decide) (fun M1 h1 h2 => ?_))
      show J _ _ _ _ _ _ _
      exact J_ret rfl rfl rfl (K M1 h1 h2)
    | some n =>
      obtain ⟨n4, ev, _⟩ := ixN_some e2
      subst ev
      rcases (show n = 0 ∨ n = 1 ∨ n = 2 ∨ n = 3 by omega) with rfl | rfl | rfl | rfl
      · refine J_sw1 rfl rfl rfl ?_
        refine J_p 1 (ls' := [_, _, _, _]) rfl ?_
        refine J_gi rfl td hD.1 ?_
        obtain rfl : P = (nI (d_m d), S) := hP.symm.trans (lfS_r (B := s_a S) (by simp only [fDead, e1, e2, hd]))
        exact J_ret rfl rfl rfl (K M (Ck.refl b M S) hR)
      · refine J_sw1 rfl rfl rfl ?_
        refine J_p 1 (ls' := [_, _, _, _]) rfl ?_
        refine J_gi rfl td hD.2.1 ?_
        obtain rfl : P = (nI (d_q d), S) := hP.symm.trans (lfS_r (B := s_a S) (by simp only [fDead, e1, e2, hd]))
        exact J_ret rfl rfl rfl (K M (Ck.refl b M S) hR)
      · refine J_sw1 rfl rfl rfl ?_
        refine J_p 1 (ls' := [_, _, _, _]) rfl ?_
        refine J_gi rfl td hD.2.2.1 ?_
        obtain rfl : P = (nI (d_t d), S) := hP.symm.trans (lfS_r (B := s_a S) (by simp only [fDead, e1, e2, hd]))
        exact J_ret rfl rfl rfl (K M (Ck.refl b M S) hR)
      · refine J_sw1 rfl rfl rfl ?_
        refine J_p 1 (ls' := [_, _, _, _]) rfl ?_
        refine J_call rfl rfl rfl (decide_eq_true td) rfl (c_countCauses td hD ?_)
        show J _ _ _ _ _ _ _
        obtain rfl : P = (nI (d_c d).length, S) := hP.symm.trans (lfS_r (B := s_a S) (by simp only [fDead, e1, e2, hd]))
        exact J_ret rfl rfl rfl (K M (Ck.refl b M S) hR)
  · show J _ _ _ _ _ _ _
    refine J_p 2 (ls' := [_, _, _, .null]) rfl ?_
    refine J_brF rfl rfl rfl ?_
    obtain rfl : P = (rfN 0, z_f S 0) := hP.symm.trans (lfS_l (by simp only [fDead, e1]))
    refine J_p 2 (ls' := [_, _, _, _]) rfl ?_
    refine J_call rfl rfl rfl (decide_eq_true hr.1) rfl (c_refuse hR (w := 0) (by omega) (by first | rfl | decide) (fun M1 h1 h2 => ?_))
    show J _ _ _ _ _ _ _
    exact J_ret rfl rfl rfl (K M1 h1 h2)

end COMP45