/-! THE COMPONENT'S PUBLIC METHODS: what is asked; causes. -/
section COMP46
variable {E : Nat × Nat} {M M' : Mm} {W : Nat → Prop} {Q : Option Value → Mm → Prop} {a b w t g m q T : Nat} {S S' : St} {A B : Ab} {o : Nat → Nat} {F : Nat → Nat → Nat} {x : Qa} {k : Co} {l : La}
theorem fDr_eq {q i : Int32} {j : Nat} (e1 : ixN q (a_q A).length = some j) (hx : (a_q A)[j]? = some x) : fDrained A q i = .inr (drI (a_m A) (q_ls x) i, A) := by
  have hl : (drQ A x).length ≤ (q_ls x).length := drA_len _ _ _
  have e0 : fDrained A q i = match ixN i (drQ A x).length with
      | none => .inr (-1, A)
      | some n => match (drQ A x)[n]? with
        | none => .inl 0
        | some m => .inr (nI m, A) := by
    simp only [fDrained, e1, hx]
    all_goals rfl
  rw [e0]
  cases e2 : ixN i (drQ A x).length with
  | none =>
    have h2 := ixN_none e2
    unfold drI
    cases e3 : ixN i (q_ls x).length with
    | none => rfl
    | some n =>
      obtain ⟨n1, n2, n3⟩ := ixN_some e3
      have : (drA (a_m A) (q_ls x).length (q_ls x))[n]? = none := by
        refine List.getElem?_eq_none ?_
        have hn : i.toInt = (n : Int) ∨ True := Or.inr trivial
        show (drQ A x).length ≤ n
        by_cases c : (drQ A x).length ≤ n
        · exact c
        · refine absurd ⟨n3.1, ?_⟩ h2
          have e4 : i.toInt.toNat = n := by
            unfold ixN at e3
            rw [if_pos n3] at e3
            cases e3
            rfl
          omega
      show (Sum.inr (-1, A) : Rs) = Sum.inr (oI (drA (a_m A) (q_ls x).length (q_ls x))[n]?, A)
      rw [this]
      rfl
  | some n =>
    obtain ⟨n1, n2, n3⟩ := ixN_some e2
    obtain ⟨m, hm⟩ := get_of n1
    have e3 : ixN i (q_ls x).length = some n := by
      unfold ixN at e2 ⊢
      rw [if_pos n3] at e2
      rw [if_pos ⟨n3.1, by omega⟩]
      exact e2
    show (match (drQ A x)[n]? with
        | none => (Sum.inl 0 : Rs)
        | some m => Sum.inr (nI m, A)) = _
    rw [hm]
    unfold drI
    rw [e3]
    show _ = Sum.inr (oI (drQ A x)[n]?, A)
    rw [hm]
    rfl
theorem c_causeAt (hR : CR M b S) (hA : Wf T (s_a S)) (h5 : ∀ (i : Nat) (d : Da), (a_d (s_a S))[i]? = some d → (d_c d).length ≤ 5) {i k : Int32} (kt : ∀ (c : Ca) (p n : Nat), causeA (s_a S) i k = some c → mT M p = 0 → p < mN M → CaF M p c → (3 ≤ n ∧ n ≤ 6) → c.1 = nI n → Q (some (.ref p)) M) (kf : causeA (s_a S) i k = none → Q (some .null) M) : J E 153 0 [.ref b, .int i, .int k, U0, U0, U0] [] M Q := by
  have hr := hR.1.1
  obtain ⟨o, F, hS, hC⟩ := hR.2.1
  refine J_p 1 (ls' := [_, _, _, _, _, _]) rfl ?_
  refine J_getR rfl hr.1 hr.2.1 ?_
  refine J_p 1 (ls' := [_, _, _, _, _, _]) rfl ?_
  refine J_call rfl rfl rfl (decide_eq_true hS.1.1) rfl (c_deadAt hS hC (fun j d e1 hd j30 eq => ?_) (fun e1 => ?_))
  · show J _ _ _ _ _ _ _
    have ol := (hS.2.2.2.2.1.2.2.1 j j30).2
    have td := hS.2.2.2.2.1.2.2.2.2 (o j) ol
    have hD := hC.dc hd
    have d5 := h5 j d hd
    obtain ⟨_, _, d1, dW, _⟩ := hA.2.2.2.2.1 j d hd
    refine J_p 2 (ls' := [_, _, _, .ref (b + 8 + 216 + o j), _, _]) rfl ?_
    refine J_brF rfl rfl rfl ?_
    refine J_p 2 (ls' := [_, _, _, _, _, _]) rfl ?_
    refine J_call rfl rfl rfl (decide_eq_true td) rfl (c_countCauses td hD ?_)
    show J _ _ _ _ _ _ _
    refine J_call rfl rfl rfl rfl rfl (c_isBelow (by omega) (fun n e2 nl en => ?_) (fun e2 => ?_))
    · show J _ _ _ _ _ _ _
      subst en
      obtain ⟨c, hc⟩ := get_of nl
      have eF : causeA (s_a S) i (nI n) = some c := by simp only [causeA, e1, hd, e2]; exact hc
      have loop : ∀ (dd kk : Nat) (cs : List Ca) (p : Nat), kk + dd = n → CaR M cs (some p) → cs[dd]? = some c → J E 153 35 [.ref b, .int i, .int (nI n), .ref (b + 8 + 216 + o j), .ref p, .int (nI kk)] [] M Q := by
        intro dd
        induction dd with
        | zero =>
          intro kk cs p hk hcs hc0
          obtain rfl : kk = n := by omega
          cases cs with
          | nil => cases hc0
          | cons c0 cs =>
            cases hc0
            obtain ⟨a, ea, a1, a2, a3, _⟩ := hcs
            cases ea
            refine J_p 2 (ls' := [_, _, _, _, _, _]) rfl ?_
            refine J_ige rfl (fun _ => ?_) (fun y => absurd (nI_le (by omega) (by omega)) y)
            refine J_p 1 (ls' := [_, _, _, _, _, _]) rfl ?_
            rcases dW _ _ hc with ⟨h, _⟩ | ⟨h, _⟩
            · rcases h with h | h
              · exact J_ret rfl rfl rfl (kt _ p 3 eF a1 a2 a3 (by omega) h)
              · exact J_ret rfl rfl rfl (kt _ p 4 eF a1 a2 a3 (by omega) h)
            · rcases h with h | h
              · exact J_ret rfl rfl rfl (kt _ p 5 eF a1 a2 a3 (by omega) h)
              · exact J_ret rfl rfl rfl (kt _ p 6 eF a1 a2 a3 (by omega) h)
        | succ dd ih =>
          intro kk cs p hk hcs hc0
          cases cs with
          | nil => cases hc0
          | cons c0 cs =>
            have hc1 : cs[dd]? = some c := hc0
            obtain ⟨a, ea, a1, a2, a3, a4, a5⟩ := hcs
            cases ea
            have hne : ∃ p', mR M p 5 = some p' := by
              cases cs with
              | nil => cases hc1
              | cons c2 cs2 =>
                obtain ⟨a', ea', _⟩ := a5
                exact ⟨a', ea'⟩
            obtain ⟨p', hp'⟩ := hne
            rw [hp'] at a5
            refine J_p 2 (ls' := [_, _, _, _, _, _]) rfl ?_
            refine J_ige rfl (fun y => absurd y (nI_ge (by omega) (by omega))) (fun _ => ?_)
            refine J_p 1 (ls' := [_, _, _, _, _, _]) rfl ?_
            refine J_brF rfl rfl rfl ?_
            refine J_p 1 (ls' := [_, _, _, _, _, _]) rfl ?_
            refine J_getR rfl a1 hp' ?_
            refine J_p 3 (ls' := [_, _, _, _, .ref p', .int (nI kk + nI 1)]) rfl ?_
            rw [nI_add kk 1]
            exact ih (kk + 1) cs p' (by omega) a5 hc1
      refine J_zne rfl (fun _ => ?_) (fun y => absurd y (by decide))
      refine J_p 1 (ls' := [_, _, _, _, _, _]) rfl ?_
      have hcr := hD.2.2.2
      cases ecs : d_c d with
      | nil => rw [ecs] at d1; exact absurd d1 (by decide)
      | cons c0 cs0 =>
        rw [ecs] at hcr hc
        obtain ⟨p, ep, _⟩ := hcr
        have hcr' := hD.2.2.2
        rw [ecs, ep] at hcr'
        refine J_getR rfl td ep ?_
        refine J_p 3 (ls' := [_, _, _, _, .ref p, .int (nI 0)]) rfl ?_
        exact loop n 0 (c0 :: cs0) p (by omega) hcr' hc
    · show J _ _ _ _ _ _ _
      refine J_zne rfl (fun y => absurd rfl y) (fun _ => ?_)
      refine J_p 1 (ls' := [_, _, _, _, _, _]) rfl ?_
      exact J_ret rfl rfl rfl (kf (by simp only [causeA, e1, hd, e2]))
  · show J _ _ _ _ _ _ _
    refine J_p 2 (ls' := [_, _, _, .null, _, _]) rfl ?_
    refine J_brT rfl rfl rfl ?_
    refine J_p 1 (ls' := [_, _, _, _, _, _]) rfl ?_
    exact J_ret rfl rfl rfl (kf (by simp only [causeA, e1]))

theorem k_cause (hR : CR M b S) (hE : STa E M) (hW : WfS T S) (hT : T + 100 < 2 ^ 20) (hV : PrS S) (h5 : ∀ (i : Nat) (d : Da), (a_d (s_a S))[i]? = some d → (d_c d).length ≤ 5) (i kk v : Int32) {P : Int32 × St} (hP : lfS (fun A => fCause A i kk v) S = P) (K : ∀ M' : Mm, Ck b M M' S P.2 → CR M' b P.2 → Q (some (.int P.1)) M') : J E 133 0 [.ref b, .int i, .int kk, .int v, U0] [] M Q := by
  have hr := hR.1.1
  obtain ⟨o, F, hS, hC⟩ := hR.2.1
  have hA := hW.1
  have n8 := hC.2.1.2
  have n10 := hC.2.2.1.2
  have n30 := hC.2.2.2.1.2
  have m3 := hC.mc.1
  have R0 : fCause (s_a S) i kk v = .inl 0 → ∀ v4 : Value, J E 133 22 [.ref b, .int i, .int kk, .int v, v4] [] M Q := fun h0 v4 => by
    obtain rfl : P = (rfN 0, z_f S 0) := hP.symm.trans (lfS_l (by exact h0))
    refine J_p 2 (ls' := [_, _, _, _, _]) rfl ?_
    refine J_call rfl rfl rfl (decide_eq_true hr.1) rfl (c_refuse hR (w := 0) (by omega) (by first | rfl | decide) (fun M1 h1 h2 => ?_))
    show J _ _ _ _ _ _ _
    exact J_ret rfl rfl rfl (K M1 h1 h2)
  refine J_p 3 (ls' := [_, _, _, _, _]) rfl ?_
  refine J_call rfl rfl rfl (decide_eq_true hr.1) rfl (c_causeAt hR hA h5 (fun c p n e1 tp pl hc n36 en => ?_) (fun e1 => ?_))
  · show J _ _ _ _ _ _ _
    refine J_p 2 (ls' := [_, _, _, _, .ref p]) rfl ?_
    refine J_brF rfl rfl rfl ?_
    refine J_p 3 (ls' := [_, _, _, _, _]) rfl ?_
    refine J_call rfl rfl rfl rfl rfl (c_isWithin (by omega) (by omega) (fun j e2 ev n0 n1 => ?_) (fun e2 => ?_))
    · show J _ _ _ _ _ _ _
      rw [inNB_ix] at e2
      subst ev
      refine J_zne rfl (fun _ => ?_) (fun y => absurd y (by decide))
      refine J_p 1 (ls' := [_, _, _, _, _]) rfl ?_
      rcases (show j = 0 ∨ j = 1 by omega) with rfl | rfl
      · refine J_zne rfl (fun y => absurd rfl y) (fun _ => ?_)
        refine J_p 1 (ls' := [_, _, _, _, _]) rfl ?_
        refine J_gi rfl tp hc.1 ?_
        refine J_p 1 (ls' := [_, _, _, _, _]) rfl ?_
        obtain rfl : P = (c.1, S) := hP.symm.trans (lfS_r (B := s_a S) (by simp only [fCause, e1, e2]; first | done | rfl))
        exact J_ret rfl rfl rfl (K M (Ck.refl b M S) hR)
      · refine J_zne rfl (fun _ => ?_) (fun y => absurd y (by decide))
        refine J_p 1 (ls' := [_, _, _, _, _]) rfl ?_
        refine J_gi rfl tp hc.2.1 ?_
        obtain rfl : P = (c.2.1, S) := hP.symm.trans (lfS_r (B := s_a S) (by simp only [fCause, e1, e2]; first | done | rfl))
        exact J_ret rfl rfl rfl (K M (Ck.refl b M S) hR)
    · show J _ _ _ _ _ _ _
      rw [inNB_ix] at e2
      refine J_zne rfl (fun y => absurd rfl y) (fun _ => ?_)
      exact R0 (by simp only [fCause, e1, e2]) _
  · show J _ _ _ _ _ _ _
    refine J_p 2 (ls' := [_, _, _, _, .null]) rfl ?_
    refine J_brT rfl rfl rfl ?_
    exact R0 (by simp only [fCause, e1]) _

theorem k_fits (hR : CR M b S) (hE : STa E M) (hW : WfS T S) (hT : T + 100 < 2 ^ 20) (hV : PrS S)  {P : Int32 × St} (hP : lfS (fun A => fFits A) S = P) (K : ∀ M' : Mm, Ck b M M' S P.2 → CR M' b P.2 → Q (some (.int P.1)) M') : J E 134 0 [.ref b] [] M Q := by
  have hr := hR.1.1
  obtain ⟨o, F, hS, hC⟩ := hR.2.1
  have hA := hW.1
  have n8 := hC.2.1.2
  have n10 := hC.2.2.1.2
  have n30 := hC.2.2.2.1.2
  have m3 := hC.mc.1
  obtain ⟨txt, hTC⟩ := hC.2.2.2.2.2.2.1
  have t4 := hTC.2.1.2
  refine J_p 1 (ls' := [_]) rfl ?_
  refine J_getR rfl hr.1 hr.2.1 ?_
  refine J_getR rfl hS.1.1 hS.1.2.2.2.2.2 ?_
  refine J_gi rfl hS.2.1.1 hTC.2.1.1 ?_
  refine J_zne rfl (fun y => ?_) (fun y => ?_)
  · have e0 : ¬ (a_t (s_a S)).length = 0 := fun e => y (by rw [e]; rfl)
    refine J_p 1 (ls' := [_]) rfl ?_
    refine J_getR rfl hr.1 hr.2.1 ?_
    refine J_call rfl rfl rfl (decide_eq_true hS.1.1) rfl (c_fitting hS hC hA (by omega) ?_)
    show J _ _ _ _ _ _ _
    obtain rfl : P = (fbI (s_a S) (a_q (s_a S)).length, S) := hP.symm.trans (lfS_r (B := s_a S) (by simp only [fFits, if_neg e0]))
    exact J_ret rfl rfl rfl (K M (Ck.refl b M S) hR)
  · have e0 : (a_t (s_a S)).length = 0 := (nI_eq (b := 0) (by omega) (by omega)).mp y
    obtain rfl : P = (rfN 3, z_f S 3) := hP.symm.trans (lfS_l (by simp only [fFits, if_pos e0]))
    refine J_p 2 (ls' := [_]) rfl ?_
    refine J_call rfl rfl rfl (decide_eq_true hr.1) rfl (c_refuse hR (w := 3) (by omega) (by first | rfl | decide) (fun M1 h1 h2 => ?_))
    show J _ _ _ _ _ _ _
    refine J_p 1 (ls' := [_]) rfl ?_
    exact J_ret rfl rfl rfl (K M1 h1 h2)

theorem k_covers (hR : CR M b S) (hE : STa E M) (hW : WfS T S) (hT : T + 100 < 2 ^ 20) (hV : PrS S) (q v : Int32) {P : Int32 × St} (hP : lfS (fun A => fCovers A q v) S = P) (K : ∀ M' : Mm, Ck b M M' S P.2 → CR M' b P.2 → Q (some (.int P.1)) M') : J E 135 0 [.ref b, .int q, .int v, U0, U0] [] M Q := by
  have hr := hR.1.1
  obtain ⟨o, F, hS, hC⟩ := hR.2.1
  have hA := hW.1
  have n8 := hC.2.1.2
  have n10 := hC.2.2.1.2
  have n30 := hC.2.2.2.1.2
  have m3 := hC.mc.1
  refine J_p 1 (ls' := [_, _, _, _, _]) rfl ?_
  refine J_getR rfl hr.1 hr.2.1 ?_
  refine J_p 1 (ls' := [_, _, _, _, _]) rfl ?_
  refine J_call rfl rfl rfl (decide_eq_true hS.1.1) rfl (c_queueAt hS hC (fun j x e1 hx j8 eq => ?_) (fun e1 => ?_))
  · show J _ _ _ _ _ _ _
    refine J_p 2 (ls' := [_, _, _, .ref (b + 8 + 4 + 25 * j), _]) rfl ?_
    refine J_getR rfl hr.1 hr.2.1 ?_
    refine J_p 1 (ls' := [_, _, _, _, _]) rfl ?_
    refine J_call rfl rfl rfl (decide_eq_true hS.1.1) rfl (c_queueAt hS hC (fun n y e2 hy n8' eq' => ?_) (fun e2 => ?_))
    · show J _ _ _ _ _ _ _
      have hQ := hS.qs j8
      have hQC := hC.qc hx
      have hQ' := hS.qs n8'
      have hQC' := hC.qc hy
      obtain ⟨⟨p1, p2⟩, _⟩ := hA.2.1 j x hx
      obtain ⟨⟨p1', p2'⟩, _⟩ := hA.2.1 n y hy
      refine J_p 2 (ls' := [_, _, _, _, .ref (b + 8 + 4 + 25 * n)]) rfl ?_
      refine J_brF rfl rfl rfl ?_
      refine J_p 1 (ls' := [_, _, _, _, _]) rfl ?_
      refine J_brT rfl rfl rfl ?_
      refine J_p 1 (ls' := [_, _, _, _, _]) rfl ?_
      refine J_getR rfl hQ.1 hQ.2.2.1 ?_
      refine J_p 1 (ls' := [_, _, _, _, _]) rfl ?_
      refine J_getR rfl hQ'.1 hQ'.2.2.1 ?_
      refine J_call rfl rfl rfl (decide_eq_true hQ.2.2.2.2.1.1) rfl (c_takesAll hQ.2.2.2.2.1 hQC.1 hQ'.2.2.2.2.1 hQC'.1 p2 p2' p1 p1' (fun z => ?_) (fun z => ?_))
      · show J _ _ _ _ _ _ _
        refine J_call rfl rfl rfl rfl rfl (c_asBit1 ?_)
        show J _ _ _ _ _ _ _
        obtain rfl : P = (nI 1, S) := hP.symm.trans (lfS_r (B := s_a S) (by simp only [fCovers, e1, e2, hx, hy, if_pos z]))
        exact J_ret rfl rfl rfl (K M (Ck.refl b M S) hR)
      · show J _ _ _ _ _ _ _
        refine J_call rfl rfl rfl rfl rfl (c_asBit0 ?_)
        show J _ _ _ _ _ _ _
        have z1 : ¬ covA (q_p x) (q_p y) = true := by rw [z]; decide
        obtain rfl : P = (nI 0, S) := hP.symm.trans (lfS_r (B := s_a S) (by simp only [fCovers, e1, e2, hx, hy, if_neg z1]))
        exact J_ret rfl rfl rfl (K M (Ck.refl b M S) hR)
    · show J _ _ _ _ _ _ _
      refine J_p 2 (ls' := [_, _, _, _, .null]) rfl ?_
      refine J_brF rfl rfl rfl ?_
      refine J_p 1 (ls' := [_, _, _, _, _]) rfl ?_
      refine J_brF rfl rfl rfl ?_
      obtain rfl : P = (rfN 0, z_f S 0) := hP.symm.trans (lfS_l (by simp only [fCovers, e1, e2]))
      refine J_p 2 (ls' := [_, _, _, _, _]) rfl ?_
      refine J_call rfl rfl rfl (decide_eq_true hr.1) rfl (c_refuse hR (w := 0) (by omega) (by first | rfl | decide) (fun M1 h1 h2 => ?_))
      show J _ _ _ _ _ _ _
      exact J_ret rfl rfl rfl (K M1 h1 h2)
  · show J _ _ _ _ _ _ _
    have G : ∀ v4 : Value, J E 135 19 [.ref b, .int q, .int v, .null, v4] [] M Q := fun v4 => by
      refine J_p 1 (ls' := [_, _, _, _, _]) rfl ?_
      refine J_brT rfl rfl rfl ?_
      obtain rfl : P = (rfN 0, z_f S 0) := hP.symm.trans (lfS_l (by simp only [fCovers, e1]))
      refine J_p 2 (ls' := [_, _, _, _, _]) rfl ?_
      refine J_call rfl rfl rfl (decide_eq_true hr.1) rfl (c_refuse hR (w := 0) (by omega) (by first | rfl | decide) (fun M1 h1 h2 => ?_))
      show J _ _ _ _ _ _ _
      exact J_ret rfl rfl rfl (K M1 h1 h2)
    refine J_p 2 (ls' := [_, _, _, .null, _]) rfl ?_
    refine J_getR rfl hr.1 hr.2.1 ?_
    refine J_p 1 (ls' := [_, _, _, _, _]) rfl ?_
    refine J_call rfl rfl rfl (decide_eq_true hS.1.1) rfl (c_queueAt hS hC (fun n y e2 hy n8' eq' => ?_) (fun e2 => ?_))
    · show J _ _ _ _ _ _ _
      refine J_p 1 (ls' := [_, _, _, _, .ref (b + 8 + 4 + 25 * n)]) rfl ?_
      exact G _
    · show J _ _ _ _ _ _ _
      refine J_p 1 (ls' := [_, _, _, _, .null]) rfl ?_
      exact G _

theorem k_pattern (hR : CR M b S) (hE : STa E M) (hW : WfS T S) (hT : T + 100 < 2 ^ 20) (hV : PrS S) (q v : Int32) {P : Int32 × St} (hP : lfS (fun A => fPattern A q v) S = P) (K : ∀ M' : Mm, Ck b M M' S P.2 → CR M' b P.2 → Q (some (.int P.1)) M') : J E 136 0 [.ref b, .int q, .int v, U0] [] M Q := by
  have hr := hR.1.1
  obtain ⟨o, F, hS, hC⟩ := hR.2.1
  have hA := hW.1
  have n8 := hC.2.1.2
  have n10 := hC.2.2.1.2
  have n30 := hC.2.2.2.1.2
  have m3 := hC.mc.1
  refine J_p 1 (ls' := [_, _, _, _]) rfl ?_
  refine J_getR rfl hr.1 hr.2.1 ?_
  refine J_p 1 (ls' := [_, _, _, _]) rfl ?_
  refine J_call rfl rfl rfl (decide_eq_true hS.1.1) rfl (c_queueAt hS hC (fun j x e1 hx j8 eq => ?_) (fun e1 => ?_))
  · show J _ _ _ _ _ _ _
    have hQ := hS.qs j8
    have hQC := hC.qc hx
    refine J_p 2 (ls' := [_, _, _, .ref (b + 8 + 4 + 25 * j)]) rfl ?_
    refine J_brT rfl rfl rfl ?_
    refine J_p 1 (ls' := [_, _, _, _]) rfl ?_
    refine J_getR rfl hQ.1 hQ.2.2.1 ?_
    refine J_p 1 (ls' := [_, _, _, _]) rfl ?_
    refine J_call rfl rfl rfl (decide_eq_true hQ.2.2.2.2.1.1) rfl (c_textAt hQ.2.2.2.2.1 hQC.1 (fun n c e2 hc => ?_) (fun e2 => ?_))
    · show J _ _ _ _ _ _ _
      obtain rfl : P = (c, S) := hP.symm.trans (lfS_r (B := s_a S) (by simp only [fPattern, e1, hx, e2, hc]))
      exact J_ret rfl rfl rfl (K M (Ck.refl b M S) hR)
    · show J _ _ _ _ _ _ _
      obtain rfl : P = (-1, S) := hP.symm.trans (lfS_r (B := s_a S) (by simp only [fPattern, e1, hx, e2]))
      exact J_ret rfl rfl rfl (K M (Ck.refl b M S) hR)
  · show J _ _ _ _ _ _ _
    refine J_p 2 (ls' := [_, _, _, .null]) rfl ?_
    refine J_brF rfl rfl rfl ?_
    obtain rfl : P = (rfN 0, z_f S 0) := hP.symm.trans (lfS_l (by simp only [fPattern, e1]))
    refine J_p 2 (ls' := [_, _, _, _]) rfl ?_
    refine J_call rfl rfl rfl (decide_eq_true hr.1) rfl (c_refuse hR (w := 0) (by omega) (by first | rfl | decide) (fun M1 h1 h2 => ?_))
    show J _ _ _ _ _ _ _
    refine J_p 1 (ls' := [_, _, _, _]) rfl ?_
    exact J_ret rfl rfl rfl (K M1 h1 h2)

theorem k_blocked (hR : CR M b S) (hE : STa E M) (hW : WfS T S) (hT : T + 100 < 2 ^ 20) (hV : PrS S) (q : Int32) {P : Int32 × St} (hP : lfS (fun A => fBlocked A q) S = P) (K : ∀ M' : Mm, Ck b M M' S P.2 → CR M' b P.2 → Q (some (.int P.1)) M') : J E 138 0 [.ref b, .int q, U0] [] M Q := by
  have hr := hR.1.1
  obtain ⟨o, F, hS, hC⟩ := hR.2.1
  have hA := hW.1
  have n8 := hC.2.1.2
  have n10 := hC.2.2.1.2
  have n30 := hC.2.2.2.1.2
  have m3 := hC.mc.1
  refine J_p 1 (ls' := [_, _, _]) rfl ?_
  refine J_getR rfl hr.1 hr.2.1 ?_
  refine J_p 1 (ls' := [_, _, _]) rfl ?_
  refine J_call rfl rfl rfl (decide_eq_true hS.1.1) rfl (c_queueAt hS hC (fun j x e1 hx j8 eq => ?_) (fun e1 => ?_))
  · show J _ _ _ _ _ _ _
    have hQ := hS.qs j8
    have hQC := hC.qc hx
    have ok := hA.okL m3 n10 hx
    refine J_p 2 (ls' := [_, _, .ref (b + 8 + 4 + 25 * j)]) rfl ?_
    refine J_brT rfl rfl rfl ?_
    refine J_p 1 (ls' := [_, _, _]) rfl ?_
    refine J_call rfl rfl rfl (decide_eq_true hQ.1) rfl (c_blockedKeys hQ hQC ok ?_)
    show J _ _ _ _ _ _ _
    obtain rfl : P = (rdI (a_m (s_a S)) (q_ls x) (q_ls x).length &&& (opI (a_m (s_a S)) (q_ls x) (q_ls x).length ^^^ (-1)), S) := hP.symm.trans (lfS_r (B := s_a S) (by simp only [fBlocked, e1, hx]))
    exact J_ret rfl rfl rfl (K M (Ck.refl b M S) hR)
  · show J _ _ _ _ _ _ _
    refine J_p 2 (ls' := [_, _, .null]) rfl ?_
    refine J_brF rfl rfl rfl ?_
    obtain rfl : P = (rfN 0, z_f S 0) := hP.symm.trans (lfS_l (by simp only [fBlocked, e1]))
    refine J_p 2 (ls' := [_, _, _]) rfl ?_
    refine J_call rfl rfl rfl (decide_eq_true hr.1) rfl (c_refuse hR (w := 0) (by omega) (by first | rfl | decide) (fun M1 h1 h2 => ?_))
    show J _ _ _ _ _ _ _
    refine J_p 1 (ls' := [_, _, _]) rfl ?_
    exact J_ret rfl rfl rfl (K M1 h1 h2)

theorem k_drained (hR : CR M b S) (hE : STa E M) (hW : WfS T S) (hT : T + 100 < 2 ^ 20) (hV : PrS S) (q v : Int32) {P : Int32 × St} (hP : lfS (fun A => fDrained A q v) S = P) (K : ∀ M' : Mm, Ck b M M' S P.2 → CR M' b P.2 → Q (some (.int P.1)) M') : J E 139 0 [.ref b, .int q, .int v, U0] [] M Q := by
  have hr := hR.1.1
  obtain ⟨o, F, hS, hC⟩ := hR.2.1
  have hA := hW.1
  have n8 := hC.2.1.2
  have n10 := hC.2.2.1.2
  have n30 := hC.2.2.2.1.2
  have m3 := hC.mc.1
  refine J_p 1 (ls' := [_, _, _, _]) rfl ?_
  refine J_getR rfl hr.1 hr.2.1 ?_
  refine J_p 1 (ls' := [_, _, _, _]) rfl ?_
  refine J_call rfl rfl rfl (decide_eq_true hS.1.1) rfl (c_queueAt hS hC (fun j x e1 hx j8 eq => ?_) (fun e1 => ?_))
  · show J _ _ _ _ _ _ _
    have hQ := hS.qs j8
    have hQC := hC.qc hx
    have ok := hA.okL m3 n10 hx
    refine J_p 2 (ls' := [_, _, _, .ref (b + 8 + 4 + 25 * j)]) rfl ?_
    refine J_brT rfl rfl rfl ?_
    refine J_p 2 (ls' := [_, _, _, _]) rfl ?_
    refine J_call rfl rfl rfl (decide_eq_true hQ.1) rfl (c_drainedAt hQ hQC ok ?_)
    show J _ _ _ _ _ _ _
    obtain rfl : P = (drI (a_m (s_a S)) (q_ls x) v, S) := hP.symm.trans (lfS_r (B := s_a S) (by exact fDr_eq e1 hx))
    exact J_ret rfl rfl rfl (K M (Ck.refl b M S) hR)
  · show J _ _ _ _ _ _ _
    refine J_p 2 (ls' := [_, _, _, .null]) rfl ?_
    refine J_brF rfl rfl rfl ?_
    obtain rfl : P = (rfN 0, z_f S 0) := hP.symm.trans (lfS_l (by simp only [fDrained, e1]))
    refine J_p 2 (ls' := [_, _, _, _]) rfl ?_
    refine J_call rfl rfl rfl (decide_eq_true hr.1) rfl (c_refuse hR (w := 0) (by omega) (by first | rfl | decide) (fun M1 h1 h2 => ?_))
    show J _ _ _ _ _ _ _
    refine J_p 1 (ls' := [_, _, _, _]) rfl ?_
    exact J_ret rfl rfl rfl (K M1 h1 h2)

theorem k_next (hR : CR M b S) (hE : STa E M) (hW : WfS T S) (hT : T + 100 < 2 ^ 20) (hV : PrS S) (q v : Int32) {P : Int32 × St} (hP : lfS (fun A => fNext A q v) S = P) (K : ∀ M' : Mm, Ck b M M' S P.2 → CR M' b P.2 → Q (some (.int P.1)) M') : J E 137 0 [.ref b, .int q, .int v, U0, U0] [] M Q := by
  have hr := hR.1.1
  obtain ⟨o, F, hS, hC⟩ := hR.2.1
  have hA := hW.1
  have n8 := hC.2.1.2
  have n10 := hC.2.2.1.2
  have n30 := hC.2.2.2.1.2
  have m3 := hC.mc.1
  have R0 : fNext (s_a S) q v = .inl 0 → ∀ v3 : Value, J E 137 22 [.ref b, .int q, .int v, v3, U0] [] M Q := fun h0 v3 => by
    obtain rfl : P = (rfN 0, z_f S 0) := hP.symm.trans (lfS_l (by exact h0))
    refine J_p 2 (ls' := [_, _, _, _, _]) rfl ?_
    refine J_call rfl rfl rfl (decide_eq_true hr.1) rfl (c_refuse hR (w := 0) (by omega) (by first | rfl | decide) (fun M1 h1 h2 => ?_))
    show J _ _ _ _ _ _ _
    exact J_ret rfl rfl rfl (K M1 h1 h2)
  refine J_p 1 (ls' := [_, _, _, _, _]) rfl ?_
  refine J_getR rfl hr.1 hr.2.1 ?_
  refine J_p 1 (ls' := [_, _, _, _, _]) rfl ?_
  refine J_call rfl rfl rfl (decide_eq_true hS.1.1) rfl (c_queueAt hS hC (fun j x e1 hx j8 eq => ?_) (fun e1 => ?_))
  · show J _ _ _ _ _ _ _
    have hQ := hS.qs j8
    have hQC := hC.qc hx
    have n20 := hQC.n20
    have ok := hA.okL m3 n10 hx
    obtain ⟨_, _, _, _, _, x6, x7, _⟩ := hA.2.1 j x hx
    refine J_p 2 (ls' := [_, _, _, .ref (b + 8 + 4 + 25 * j), _]) rfl ?_
    refine J_brF rfl rfl rfl ?_
    refine J_p 3 (ls' := [_, _, _, _, _]) rfl ?_
    refine J_call rfl rfl rfl rfl rfl (c_isWithin (by omega) (by omega) (fun n e2 ev n0 n1 => ?_) (fun e2 => ?_))
    · show J _ _ _ _ _ _ _
      rw [inNB_ix] at e2
      subst ev
      refine J_zne rfl (fun _ => ?_) (fun y => absurd y (by decide))
      refine J_p 3 (ls' := [_, _, _, _, _]) rfl ?_
      refine J_call rfl rfl rfl (decide_eq_true hQ.1) rfl (c_nextBut (G := 0) hQ hQC ok (by omega) ?_)
      show J _ _ _ _ _ _ _
      rw [nxG_0]
      cases hi : nxA (a_m (s_a S)) (q_ls x) (q_ls x).length with
      | none =>
        refine J_call rfl rfl rfl (decide_eq_true hQ.1) rfl (c_letterAt hQ hQC (s := -1) (fun n' l e3 hl l20 ei => absurd ei.symm (nI_m1 (by omega))) (fun e3 => ?_))
        show J _ _ _ _ _ _ _
        refine J_p 2 (ls' := [_, _, _, _, .null]) rfl ?_
        refine J_brF rfl rfl rfl ?_
        refine J_p 1 (ls' := [_, _, _, _, _]) rfl ?_
        obtain rfl : P = (-1, S) := hP.symm.trans (lfS_r (B := s_a S) (by simp only [fNext, e1, e2, hx, hi]))
        exact J_ret rfl rfl rfl (K M (Ck.refl b M S) hR)
      | some p =>
        have hp := (nxA_lt _ _ _ _ hi).1
        refine J_call rfl rfl rfl (decide_eq_true hQ.1) rfl (c_letterAt hQ hQC (s := nI p) (fun n' l e3 hl l20 ei => ?_) (fun e3 => ?_))
        · show J _ _ _ _ _ _ _
          have : p = n' := (nI_eq (by omega) (by omega)).mp ei
          subst this
          refine J_p 2 (ls' := [_, _, _, _, .ref (b + 8 + 4 + 25 * j + 5 + F j p)]) rfl ?_
          refine J_brT rfl rfl rfl ?_
          refine J_p 1 (ls' := [_, _, _, _, _]) rfl ?_
          rcases (show n = 0 ∨ n = 1 by omega) with rfl | rfl
          · refine J_zne rfl (fun y => absurd rfl y) (fun _ => ?_)
            refine J_p 1 (ls' := [_, _, _, _, _]) rfl ?_
            refine J_gi rfl (hQ.t3 (by omega)) (hQC.l hl).1 ?_
            refine J_p 1 (ls' := [_, _, _, _, _]) rfl ?_
            obtain rfl : P = (nI (l_m l), S) := hP.symm.trans (lfS_r (B := s_a S) (by simp only [fNext, e1, e2, hx, hi, hl]; first | done | rfl))
            exact J_ret rfl rfl rfl (K M (Ck.refl b M S) hR)
          · refine J_zne rfl (fun _ => ?_) (fun y => absurd y (by decide))
            refine J_p 1 (ls' := [_, _, _, _, _]) rfl ?_
            refine J_getR rfl hr.1 hr.2.1 ?_
            refine J_p 1 (ls' := [_, _, _, _, _]) rfl ?_
            refine J_call rfl rfl rfl (decide_eq_true hS.1.1) rfl (c_receiverIn hS hC (hA.okK n8) hx x6 x7 ?_)
            show J _ _ _ _ _ _ _
            obtain rfl : P = (oI (whoA (a_c (s_a S)) j (q_ex x) (q_l1 x)), S) := hP.symm.trans (lfS_r (B := s_a S) (by simp only [fNext, e1, e2, hx, hi, hl]; first | done | rfl))
            exact J_ret rfl rfl rfl (K M (Ck.refl b M S) hR)
        · rw [ixN_nI (by omega) (by omega)] at e3
          cases e3
    · show J _ _ _ _ _ _ _
      rw [inNB_ix] at e2
      refine J_zne rfl (fun y => absurd rfl y) (fun _ => ?_)
      exact R0 (by simp only [fNext, e1, e2]) _
  · show J _ _ _ _ _ _ _
    refine J_p 2 (ls' := [_, _, _, .null, _]) rfl ?_
    refine J_brT rfl rfl rfl ?_
    exact R0 (by simp only [fNext, e1]) _

end COMP46