/-! THE COMPONENT'S PUBLIC METHODS. -/
/-- the image's messages come first among the present ones -/
def PrS (S : St) : Prop := ∀ K, s_k S = some K → ∃ R, a_m (s_a S) = a_m K ++ R
theorem inNB_ix {x : Int32} {m : Nat} : inNB x 0 m = ixN x (m + 1) := by
  unfold inNB ixN
  by_cases h : ((0 : Nat) : Int) ≤ x.toInt ∧ x.toInt ≤ (m : Int)
  · rw [if_pos h, if_pos ⟨by omega, by omega⟩]
  · rw [if_neg h, if_neg (fun e => h ⟨by omega, by omega⟩)]
theorem Ww.cw {b z : Nat} (h : Ww (b + 1) (b + 8) z) : Cw b z := by unfold Ww at h; unfold Cw; omega
theorem Wm.cw {b z : Nat} (h : Wm (b + 1) (b + 8) (b + 2) z) : Cw b z := by unfold Wm Ww at h; unfold Cw; omega
theorem oa_no {L : List La} {c : Nat} {m : Option Nat} : ∀ (d i : Nat), oaA L c m d i = none → ∀ j, i ≤ j → j < i + d → isA L c m j = false
  | 0, i, _, j, h1, h2 => absurd h2 (by omega)
  | d + 1, i, h, j, h1, h2 => by
    unfold oaA at h
    by_cases c1 : isA L c m i = true
    · rw [if_pos c1] at h; cases h
    · rw [if_neg c1] at h
      by_cases e : j = i
      · subst e
        exact Bool.not_eq_true _ ▸ c1
      · exact oa_no d (i + 1) h j (by omega) (by omega)
theorem po_oa {L : List La} {c n : Nat} (hn : n < 2 ^ 31) (h3 : ∀ (i : Nat) (l : La), L[i]? = some l → l_m l < 300) (hs : ∀ (i j : Nat) (l l' : La), i < j → L[i]? = some l → L[j]? = some l' → l_m l < l_m l') : poA L c (nI n) = oaA L c (some n) L.length 0 := by
  unfold poA
  have key : ∀ p, isA L c (some n) p = true → ∃ l, L[p]? = some l ∧ l_m l = n ∧ outB L c p = true := fun p h => by
    obtain ⟨l, hl, s2, x2, e⟩ := isA_iff.mp h
    refine ⟨l, hl, ?_, (outB_iff hl).mpr ⟨s2, x2⟩⟩
    rcases e with e | e
    · cases e
    · cases e
      rfl
  cases hp : plA L (nI n) L.length 0 with
  | none =>
    cases ho : oaA L c (some n) L.length 0 with
    | none => rfl
    | some p =>
      obtain ⟨l, hl, e, _⟩ := key p (oaA_at _ _ _ _ _ _ ho)
      exact absurd (by rw [e]) (plA_no _ _ hp (by omega) p l (by omega) (by have := li hl; omega) hl)
  | some i =>
    obtain ⟨_, l, hl, e⟩ := plA_at _ _ _ hp
    have l3 := h3 i l hl
    have em : l_m l = n := (nI_eq (by omega) hn).mp e
    show (if outB L c i = true then some i else none) = _
    cases ho : oaA L c (some n) L.length 0 with
    | none =>
      have h0 := oa_no _ _ ho i (by omega) (by have := li hl; omega)
      refine if_neg (fun h => ?_)
      obtain ⟨s2, x2⟩ := (outB_iff hl).mp h
      have : isA L c (some n) i = true := isA_iff.mpr ⟨l, hl, s2, x2, Or.inr (by rw [em])⟩
      rw [h0] at this
      cases this
    | some p =>
      obtain ⟨l', hl', e', ho'⟩ := key p (oaA_at _ _ _ _ _ _ ho)
      have epi : p = i := by
        rcases Nat.lt_trichotomy p i with h | h | h
        · have := hs p i l' l h hl' hl; omega
        · exact h
        · have := hs i p l l' h hl hl'; omega
      rw [← epi, if_pos ho']
theorem po_neg {L : List La} {c : Nat} {m : Int32} (hm : ixN m 2147483648 = none) (h3 : ∀ (i : Nat) (l : La), L[i]? = some l → l_m l < 300) : poA L c m = none := by
  unfold poA
  cases hp : plA L m L.length 0 with
  | none => rfl
  | some i =>
    obtain ⟨_, l, hl, e⟩ := plA_at _ _ _ hp
    have := h3 i l hl
    rw [← e] at hm
    unfold ixN at hm
    rw [nI_toInt (by omega), if_pos ⟨by omega, by omega⟩] at hm
    cases hm
theorem gaA_more {q : Nat} : ∀ (f : Nat) (A : Ab) (x : Qa), (a_q A)[q]? = some x → rdyN x ≤ f → giveAllA (f + 1) A q = giveAllA f A q
  | 0, A, x, hx, h => by
    cases hg : giveA A q with
    | none => unfold giveAllA; rw [hg]
    | some p =>
      obtain ⟨x', _, h2⟩ := give_rdy (B := p.1) (m := p.2) hg hx
      omega
  | f + 1, A, x, hx, h => by
    have e1 : giveAllA (f + 1 + 1) A q = match giveA A q with
      | none => (A, 0)
      | some p => ((giveAllA (f + 1) p.1 q).1, (giveAllA (f + 1) p.1 q).2 + 1) := rfl
    have e2 : giveAllA (f + 1) A q = match giveA A q with
      | none => (A, 0)
      | some p => ((giveAllA f p.1 q).1, (giveAllA f p.1 q).2 + 1) := rfl
    rw [e1, e2]
    cases hg : giveA A q with
    | none => rfl
    | some p =>
      obtain ⟨x', hx', h2⟩ := give_rdy (B := p.1) (m := p.2) hg hx
      show ((giveAllA (f + 1) p.1 q).1, (giveAllA (f + 1) p.1 q).2 + 1) = _
      rw [gaA_more f p.1 x' hx' (by omega)]
section COMP42
variable {E : Nat × Nat} {M M' : Mm} {W : Nat → Prop} {Q : Option Value → Mm → Prop} {a b w t g i n m q T : Nat} {S S' : St} {A B : Ab} {v : Sh} {o : Nat → Nat} {F : Nat → Nat → Nat} {x : Qa} {k : Co} {l : La}
theorem CR.actG {c : Nat} (hR : CR M b S) (hV : PrS S) (hF : Fm (Wm (b + 1) (b + 8) (b + 2)) M M') (hG : Gw M M' (s_a S) B c) (hc : c ≤ 480) (hS : OS M' (b + 1) (b + 8) (b + 2) o F) (hC : OC M' (b + 1) (b + 8) (b + 2) o F B) (hm : ∃ R, a_m B = a_m (s_a S) ++ R) : Ck b M M' S (z_a S B) ∧ CR M' b (z_a S B) := by
  refine ⟨⟨hF.mono (fun z e => e.cw), ?_, ?_⟩, hR.wld hF hS hC (fun K ek => ?_)⟩
  · obtain ⟨g1, g2, g3⟩ := hG
    obtain ⟨z, z1, z2⟩ : ∃ z, pNS S = phA (s_a S) + z ∧ pNS (z_a S B) = phA B + z := ⟨_, rfl, rfl⟩
    omega
  · obtain ⟨g1, g2, g3⟩ := hG
    have : pUS (z_a S B) = pUS S := rfl
    omega
  · obtain ⟨R, hr⟩ := hV K ek
    obtain ⟨R2, hr2⟩ := hm
    exact ⟨R ++ R2, by rw [hr2, hr, List.append_assoc]⟩
theorem CR.act (hR : CR M b S) (hV : PrS S) (hF : Fm (Ww (b + 1) (b + 8)) M M') (hN : Nw M M') (hS : OS M' (b + 1) (b + 8) (b + 2) o F) (hC : OC M' (b + 1) (b + 8) (b + 2) o F B) (em : a_m B = a_m (s_a S)) (ep : phA B ≤ phA (s_a S) + 480) : Ck b M M' S (z_a S B) ∧ CR M' b (z_a S B) :=
  hR.actG hV (hF.mono (fun z e => Or.inl e)) (Gw.nw hN ep) (Nat.le_refl _) hS hC ⟨[], by rw [List.append_nil]; exact em⟩

theorem k_exclusive (hR : CR M b S) (hE : STa E M) (hW : WfS T S) (hT : T + 100 < 2 ^ 20) (hV : PrS S) (q v : Int32) {P : Int32 × St} (hP : lfS (fun A => fExclusive A q v) S = P) (K : ∀ M' : Mm, Ck b M M' S P.2 → CR M' b P.2 → Q (some (.int P.1)) M') : J E 114 0 [.ref b, .int q, .int v, U0, U0] [] M Q := by
  have hr := hR.1.1
  obtain ⟨o, F, hS, hC⟩ := hR.2.1
  have hA := hW.1
  have n8 := hC.2.1.2
  have n10 := hC.2.2.1.2
  have n30 := hC.2.2.2.1.2
  have m3 := hC.mc.1
  have R0 : fExclusive (s_a S) q v = .inl 0 → ∀ v3 : Value, J E 114 22 [.ref b, .int q, .int v, v3, U0] [] M Q := fun h0 v3 => by
    obtain rfl : P = (rfN 0, z_f S 0) := hP.symm.trans (lfS_l (by exact h0))
    refine J_p 2 (ls' := [_, _, _, _, _]) rfl ?_
    refine J_call rfl rfl rfl (decide_eq_true hr.1) rfl (c_refuse hR (w := 0) (by omega) (by first | rfl | decide) (fun M1 h1 h2 => ?_))
    show J _ _ _ _ _ _ _
    exact J_ret rfl rfl rfl (K M1 h1 h2)
  refine J_p 1 (ls' := [_, _, _, _, _]) rfl ?_
  refine J_getR rfl hr.1 hr.2.1 ?_
  refine J_p 1 (ls' := [_, _, _, _, _]) rfl ?_
  refine J_call rfl rfl rfl (decide_eq_true hS.1.1) rfl (c_queueAt hS hC (fun j x e1 hx j8 eq => ?_) (fun e1 => ?_))
  · show J _ _ _ _ _ _ _
    have hQ := hS.qs j8
    have hQC := hC.qc hx
    have x6 := (hA.2.1 j x hx).2.2.2.2.2.1
    refine J_p 2 (ls' := [_, _, _, .ref (b + 8 + 4 + 25 * j), _]) rfl ?_
    refine J_brF rfl rfl rfl ?_
    refine J_p 3 (ls' := [_, _, _, _, _]) rfl ?_
    refine J_call rfl rfl rfl rfl rfl (c_isWithin (by omega) (by omega) (fun n e2 ev n0 n1 => ?_) (fun e2 => ?_))
    · show J _ _ _ _ _ _ _
      rw [inNB_ix] at e2
      have eF : fExclusive (s_a S) q v = .inr (nI (q_ex x), w_q (s_a S) ((a_q (s_a S)).set j (x_ex x n))) := by simp only [fExclusive, e1, e2, hx]
      obtain rfl : P = (nI (q_ex x), z_a S (w_q (s_a S) ((a_q (s_a S)).set j (x_ex x n)))) := hP.symm.trans (lfS_r eF)
      refine J_zne rfl (fun _ => ?_) (fun y => absurd y (by decide))
      refine J_p 1 (ls' := [_, _, _, _, _]) rfl ?_
      refine J_gi rfl hQ.1 hQC.2.2.2.2.2.2.1 ?_
      have fin : ∀ (z : Int32), z = nI n → (z = 0 ∨ z = 1) → J E 114 49 [.ref b, .int q, .int v, .ref (b + 8 + 4 + 25 * j), .int (nI (q_ex x))] [.int z, .ref (b + 8 + 4 + 25 * j)] M Q := fun z ez hz => by
        subst ez
        refine J_putI rfl hQ.1 (Or.inr hz) ?_
        refine J_p 1 (ls' := [_, _, _, _, _]) rfl ?_
        have n6 : ¬ rO (mT M (b + 8 + 4 + 25 * j)) := by rw [hQ.1]; unfold rO; omega
        have hF : Fm (Qw (b + 8 + 4 + 25 * j)) M (sI M (b + 8 + 4 + 25 * j) 8 (nI n)) := Fm.sI ⟨by omega, by omega⟩ n6
        have hQ2 : QS (sI M (b + 8 + 4 + 25 * j) 8 (nI n)) (b + 8 + 4 + 25 * j) j (F j) := hQ.sm rfl (by rw [mI_s0, if_neg (by decide)]) (fun _ _ _ => rfl)
        have hC2 := OC.setq hS hC hF j8 (hQC.s_ex hQ (v := n))
        have ep : phA (w_q (s_a S) ((a_q (s_a S)).set j (x_ex x n))) + phQ (q_ls x) = phA (s_a S) + phQ (q_ls x) := phA_set hx
        obtain ⟨h1, h2⟩ := hR.act hV (hF.mono (fun z e => e.ww j8)) ⟨rfl, rfl, rfl⟩ (hS.setq hF j8 hQ2) hC2 rfl (by omega)
        exact J_ret rfl rfl rfl (K _ h1 h2)
      have rest : J E 114 36 [.ref b, .int q, .int v, .ref (b + 8 + 4 + 25 * j), U0] [.int (nI (q_ex x))] M Q := by
        refine J_p 4 (ls' := [_, _, _, _, .int (nI (q_ex x))]) rfl ?_
        refine J_ine rfl (fun y => ?_) (fun y => ?_)
        · refine J_p 1 (ls' := [_, _, _, _, _]) rfl ?_
          have : n = 0 := by
            rcases (show n = 0 ∨ n = 1 by omega) with h | h
            · exact h
            · exact absurd (by rw [ev, h]) y
          exact fin _ (by rw [this]) (Or.inl rfl)
        · refine J_p 2 (ls' := [_, _, _, _, _]) rfl ?_
          exact fin _ (by rw [← ev]; exact y.symm) (Or.inr rfl)
      rcases (show q_ex x = 0 ∨ q_ex x = 1 by omega) with e | e
      · rw [e] at rest ⊢
        refine J_call rfl rfl rfl rfl rfl (c_asBit0 ?_)
        show J _ _ _ _ _ _ _
        exact rest
      · rw [e] at rest ⊢
        refine J_call rfl rfl rfl rfl rfl (c_asBit1 ?_)
        show J _ _ _ _ _ _ _
        exact rest
    · show J _ _ _ _ _ _ _
      rw [inNB_ix] at e2
      refine J_zne rfl (fun y => absurd rfl y) (fun _ => ?_)
      exact R0 (by simp only [fExclusive, e1, e2]) _
  · show J _ _ _ _ _ _ _
    refine J_p 2 (ls' := [_, _, _, .null, _]) rfl ?_
    refine J_brT rfl rfl rfl ?_
    exact R0 (by simp only [fExclusive, e1]) _

theorem k_consumer (hR : CR M b S) (hE : STa E M) (hW : WfS T S) (hT : T + 100 < 2 ^ 20) (hV : PrS S) (q : Int32) {P : Int32 × St} (hP : lfS (fun A => fConsumer A q) S = P) (K : ∀ M' : Mm, Ck b M M' S P.2 → CR M' b P.2 → Q (some (.int P.1)) M') : J E 115 0 [.ref b, .int q, U0] [] M Q := by
  have hr := hR.1.1
  obtain ⟨o, F, hS, hC⟩ := hR.2.1
  have hA := hW.1
  have n8 := hC.2.1.2
  have n10 := hC.2.2.1.2
  have n30 := hC.2.2.2.1.2
  have m3 := hC.mc.1
  refine J_p 1 (ls' := [_, _, _]) rfl ?_
  refine J_getR rfl hr.1 hr.2.1 ?_
  refine J_p 1 (ls' := [_, _, _]) rfl ?_
  refine J_call rfl rfl rfl (decide_eq_true hS.1.1) rfl (c_queueAt hS hC (fun j x e1 hx j8 eq => ?_) (fun e1 => ?_))
  · show J _ _ _ _ _ _ _
    refine J_brT rfl rfl rfl ?_
    refine J_p 1 (ls' := [_, _, _]) rfl ?_
    refine J_getR rfl hr.1 hr.2.1 ?_
    refine J_p 1 (ls' := [_, _, _]) rfl ?_
    subst eq
    refine J_call rfl rfl rfl (decide_eq_true hS.1.1) rfl (c_newConsumer hS hC (fun M1 hF1 hN1 hS1 hC1 => ?_) (fun h10 => ?_))
    · show J _ _ _ _ _ _ _
      have hl : (a_c (s_a S)).length ≠ 10 := fun e => by
        have := hC1.2.2.1.2
        rw [show a_c (w_c (s_a S) (a_c (s_a S) ++ [(j, 0, 0, nI 0)])) = a_c (s_a S) ++ [(j, 0, 0, nI 0)] from rfl, List.length_append] at this
        have e2 : [((j, 0, 0, nI 0) : Co)].length = 1 := rfl
        omega
      have eF : fConsumer (s_a S) (nI j) = .inr (nI (a_c (s_a S)).length, w_c (s_a S) (a_c (s_a S) ++ [(j, 0, 0, nI 0)])) := by simp only [fConsumer, e1, if_neg hl]
      obtain rfl : P = (nI (a_c (s_a S)).length, z_a S (w_c (s_a S) (a_c (s_a S) ++ [(j, 0, 0, nI 0)]))) := hP.symm.trans (lfS_r eF)
      refine J_p 3 (ls' := [_, _, .int (nI (a_c (s_a S)).length)]) rfl ?_
      refine J_ine rfl (fun _ => ?_) (fun y => absurd y (nI_m1 (by omega)))
      refine J_p 1 (ls' := [_, _, _]) rfl ?_
      obtain ⟨h1, h2⟩ := hR.act hV hF1 hN1 hS1 hC1 rfl (show phA (s_a S) ≤ phA (s_a S) + 480 by omega)
      exact J_ret rfl rfl rfl (K _ h1 h2)
    · show J _ _ _ _ _ _ _
      refine J_p 3 (ls' := [_, _, .int (-1)]) rfl ?_
      refine J_ine rfl (fun y => absurd rfl y) (fun _ => ?_)
      obtain rfl : P = (rfN 4, z_f S 4) := hP.symm.trans (lfS_l (by simp only [fConsumer, e1, if_pos h10]))
      refine J_p 2 (ls' := [_, _, _]) rfl ?_
      refine J_call rfl rfl rfl (decide_eq_true hr.1) rfl (c_refuse hR (w := 4) (by omega) (by first | rfl | decide) (fun M1 h1 h2 => ?_))
      show J _ _ _ _ _ _ _
      refine J_p 1 (ls' := [_, _, _]) rfl ?_
      exact J_ret rfl rfl rfl (K M1 h1 h2)
  · show J _ _ _ _ _ _ _
    refine J_brF rfl rfl rfl ?_
    obtain rfl : P = (rfN 0, z_f S 0) := hP.symm.trans (lfS_l (by simp only [fConsumer, e1]))
    refine J_p 2 (ls' := [_, _, _]) rfl ?_
    refine J_call rfl rfl rfl (decide_eq_true hr.1) rfl (c_refuse hR (w := 0) (by omega) (by first | rfl | decide) (fun M1 h1 h2 => ?_))
    show J _ _ _ _ _ _ _
    exact J_ret rfl rfl rfl (K M1 h1 h2)

theorem ph_back (c : Nat) : ∀ L : List La, phQ (backL L c) ≤ phQ L
  | [] => Nat.le_refl _
  | y :: L => by
    have h := ph_back c L
    have e1 : phQ (backL (y :: L) c) = phL (bkL c y) + phQ (backL L c) := rfl
    have e2 : phQ (y :: L) = phL y + phQ L := rfl
    have h3 : phL (bkL c y) ≤ phL y := by
      unfold bkL
      split
      · have e : phL (rdL y) = 1 := rfl
        have := phL_1 y
        omega
      · exact Nat.le_refl _
    omega
theorem k_leave (hR : CR M b S) (hE : STa E M) (hW : WfS T S) (hT : T + 100 < 2 ^ 20) (hV : PrS S) (q : Int32) {P : Int32 × St} (hP : lfS (fun A => fLeave A q) S = P) (K : ∀ M' : Mm, Ck b M M' S P.2 → CR M' b P.2 → Q (some (.int P.1)) M') : J E 116 0 [.ref b, .int q, U0] [] M Q := by
  have hr := hR.1.1
  obtain ⟨o, F, hS, hC⟩ := hR.2.1
  have hA := hW.1
  have n8 := hC.2.1.2
  have n10 := hC.2.2.1.2
  have n30 := hC.2.2.2.1.2
  have m3 := hC.mc.1
  refine J_p 1 (ls' := [_, _, _]) rfl ?_
  refine J_getR rfl hr.1 hr.2.1 ?_
  refine J_p 1 (ls' := [_, _, _]) rfl ?_
  refine J_call rfl rfl rfl (decide_eq_true hS.1.1) rfl (c_present hS hC (fun c k hk => (hA.2.2.1 c k hk).2.2.1) (fun c k e1 hk k0 c10 eq => ?_) (fun e1 => ?_))
  · show J _ _ _ _ _ _ _
    obtain ⟨x, hx⟩ := get_of (hA.2.2.1 c k hk).1
    have eF : fLeave (s_a S) q = .inr (nI (cnA (outB (q_ls x) c) (q_ls x).length), leaveA (s_a S) c k x) := by simp only [fLeave, e1, hk, hx]
    obtain rfl : P = (nI (cnA (outB (q_ls x) c) (q_ls x).length), z_a S (leaveA (s_a S) c k x)) := hP.symm.trans (lfS_r eF)
    refine J_p 2 (ls' := [_, _, .ref (b + 8 + 205 + c)]) rfl ?_
    refine J_brT rfl rfl rfl ?_
    refine J_p 1 (ls' := [_, _, _]) rfl ?_
    refine J_getR rfl hr.1 hr.2.1 ?_
    refine J_p 1 (ls' := [_, _, _]) rfl ?_
    have ok := hA.okL m3 n10 hx
    refine J_call rfl rfl rfl (decide_eq_true hS.1.1) rfl (c_letGo hS hC hk hx (fun i l hl => ⟨(ok i l hl).1, fun e => by have := (ok i l hl).2.2.2.2 e; omega⟩) (fun M1 F1 hF1 hN1 hS1 hC1 => ?_))
    show J _ _ _ _ _ _ _
    have ep : phA (leaveA (s_a S) c k x) ≤ phA (s_a S) + 480 := by
      have h1 := phA_set (x' := x_ls x (backL (q_ls x) c)) hx
      have h2 : phQ (backL (q_ls x) c) ≤ phQ (q_ls x) := ph_back c (q_ls x)
      have h3 : phA (leaveA (s_a S) c k x) + phQ (q_ls x) = phA (s_a S) + phQ (backL (q_ls x) c) := h1
      omega
    obtain ⟨h1, h2⟩ := hR.act hV hF1 hN1 hS1 hC1 rfl ep
    exact J_ret rfl rfl rfl (K _ h1 h2)
  · show J _ _ _ _ _ _ _
    refine J_p 2 (ls' := [_, _, .null]) rfl ?_
    refine J_brF rfl rfl rfl ?_
    obtain rfl : P = (rfN 0, z_f S 0) := hP.symm.trans (lfS_l (by simp only [fLeave, e1]))
    refine J_p 2 (ls' := [_, _, _]) rfl ?_
    refine J_call rfl rfl rfl (decide_eq_true hr.1) rfl (c_refuse hR (w := 0) (by omega) (by first | rfl | decide) (fun M1 h1 h2 => ?_))
    show J _ _ _ _ _ _ _
    exact J_ret rfl rfl rfl (K M1 h1 h2)

theorem k_credit (hR : CR M b S) (hE : STa E M) (hW : WfS T S) (hT : T + 100 < 2 ^ 20) (hV : PrS S) (q v : Int32) {P : Int32 × St} (hP : lfS (fun A => fCredit2 A q v) S = P) (K : ∀ M' : Mm, Ck b M M' S P.2 → CR M' b P.2 → Q (some (.int P.1)) M') : J E 117 0 [.ref b, .int q, .int v, U0] [] M Q := by
  have hr := hR.1.1
  obtain ⟨o, F, hS, hC⟩ := hR.2.1
  have hA := hW.1
  have n8 := hC.2.1.2
  have n10 := hC.2.2.1.2
  have n30 := hC.2.2.2.1.2
  have m3 := hC.mc.1
  have R0 : fCredit2 (s_a S) q v = .inl 0 → ∀ v3 : Value, J E 117 23 [.ref b, .int q, .int v, v3] [] M Q := fun h0 v3 => by
    obtain rfl : P = (rfN 0, z_f S 0) := hP.symm.trans (lfS_l (by exact h0))
    refine J_p 2 (ls' := [_, _, _, _]) rfl ?_
    refine J_call rfl rfl rfl (decide_eq_true hr.1) rfl (c_refuse hR (w := 0) (by omega) (by first | rfl | decide) (fun M1 h1 h2 => ?_))
    show J _ _ _ _ _ _ _
    exact J_ret rfl rfl rfl (K M1 h1 h2)
  refine J_p 1 (ls' := [_, _, _, _]) rfl ?_
  refine J_getR rfl hr.1 hr.2.1 ?_
  refine J_p 1 (ls' := [_, _, _, _]) rfl ?_
  refine J_call rfl rfl rfl (decide_eq_true hS.1.1) rfl (c_present hS hC (fun c k hk => (hA.2.2.1 c k hk).2.2.1) (fun c k e1 hk k0 c10 eq => ?_) (fun e1 => ?_))
  · show J _ _ _ _ _ _ _
    have k9 := (hA.2.2.1 c k hk).2.1
    have hK := hC.kc hk
    have tk := hS.tk c10
    refine J_p 2 (ls' := [_, _, _, .ref (b + 8 + 205 + c)]) rfl ?_
    refine J_brF rfl rfl rfl ?_
    refine J_p 3 (ls' := [_, _, _, _]) rfl ?_
    refine J_call rfl rfl rfl rfl rfl (c_isWithin (by omega) (by omega) (fun n e2 ev n0 n1 => ?_) (fun e2 => ?_))
    · show J _ _ _ _ _ _ _
      subst ev
      refine J_zne rfl (fun _ => ?_) (fun y => absurd y (by decide))
      refine J_p 1 (ls' := [_, _, _, _]) rfl ?_
      refine J_gi rfl tk hK.2.1 ?_
      refine J_p 3 (ls' := [_, _, _, _]) rfl ?_
      rw [nI_add (k_cr k) n]
      refine J_ile rfl (fun y => ?_) (fun y => ?_)
      · have c9 : k_cr k + n ≤ 9 := by
          by_cases e : k_cr k + n ≤ 9
          · exact e
          · exact absurd y (nI_ge (by omega) (by omega))
        have eF : fCredit2 (s_a S) q (nI n) = .inr (nI (k_cr k + n), w_c (s_a S) ((a_c (s_a S)).set c (k_q k, k_cr k + n, k_lf k, k_gt k))) := by simp only [fCredit2, e1, e2, hk, if_pos c9]
        obtain rfl : P = (nI (k_cr k + n), z_a S (w_c (s_a S) ((a_c (s_a S)).set c (k_q k, k_cr k + n, k_lf k, k_gt k)))) := hP.symm.trans (lfS_r eF)
        refine J_p 2 (ls' := [_, _, _, _]) rfl ?_
        refine J_gi rfl tk hK.2.1 ?_
        refine J_p 2 (ls' := [_, _, _, _]) rfl ?_
        rw [nI_add (k_cr k) n]
        refine J_putI rfl tk (Or.inl rfl) ?_
        have n1' : ¬ rO (mT M (b + 8 + 205 + c)) := by rw [tk]; unfold rO; omega
        have hF : Fm (fun z => z = b + 8 + 205 + c) M (sI M (b + 8 + 205 + c) 2 (nI (k_cr k + n))) := Fm.sI rfl n1'
        have hS2 := hS.setk hF c10 (by rw [mI_s0, if_neg (by decide)])
        have hC2 := OC.setk (k := (k_q k, k_cr k + n, k_lf k, k_gt k)) hS hC hF c10 ⟨by rw [mI_s0, if_neg (by decide)]; exact hK.1, by rw [mI_s0, if_pos rfl], by rw [mI_s0, if_neg (by decide)]; exact hK.2.2.1, by rw [mI_s0, if_neg (by decide)]; exact hK.2.2.2⟩
        refine J_p 1 (ls' := [_, _, _, _]) rfl ?_
        refine J_gi (z := nI (k_cr k + n)) rfl tk (by rw [mI_s0, if_pos rfl]) ?_
        obtain ⟨h1, h2⟩ := hR.act hV (hF.mono (fun z e => Or.inr ⟨by omega, by omega⟩)) ⟨rfl, rfl, rfl⟩ hS2 hC2 rfl (show phA (s_a S) ≤ phA (s_a S) + 480 by omega)
        exact J_ret rfl rfl rfl (K _ h1 h2)
      · have c9 : ¬ k_cr k + n ≤ 9 := fun e => y (nI_le e (by omega))
        obtain rfl : P = (rfN 4, z_f S 4) := hP.symm.trans (lfS_l (by simp only [fCredit2, e1, e2, hk, if_neg c9]))
        refine J_p 2 (ls' := [_, _, _, _]) rfl ?_
        refine J_call rfl rfl rfl (decide_eq_true hr.1) rfl (c_refuse hR (w := 4) (by omega) (by first | rfl | decide) (fun M1 h1 h2 => ?_))
        show J _ _ _ _ _ _ _
        exact J_ret rfl rfl rfl (K M1 h1 h2)
    · show J _ _ _ _ _ _ _
      refine J_zne rfl (fun y => absurd rfl y) (fun _ => ?_)
      exact R0 (by simp only [fCredit2, e1, e2]) _
  · show J _ _ _ _ _ _ _
    refine J_p 2 (ls' := [_, _, _, .null]) rfl ?_
    refine J_brT rfl rfl rfl ?_
    exact R0 (by simp only [fCredit2, e1]) _

theorem k_give (hR : CR M b S) (hE : STa E M) (hW : WfS T S) (hT : T + 100 < 2 ^ 20) (hV : PrS S) (q : Int32) {P : Int32 × St} (hP : lfS (fun A => fGive A q) S = P) (K : ∀ M' : Mm, Ck b M M' S P.2 → CR M' b P.2 → Q (some (.int P.1)) M') : J E 119 0 [.ref b, .int q, U0] [] M Q := by
  have hr := hR.1.1
  obtain ⟨o, F, hS, hC⟩ := hR.2.1
  have hA := hW.1
  have n8 := hC.2.1.2
  have n10 := hC.2.2.1.2
  have n30 := hC.2.2.2.1.2
  have m3 := hC.mc.1
  refine J_p 1 (ls' := [_, _, _]) rfl ?_
  refine J_getR rfl hr.1 hr.2.1 ?_
  refine J_p 1 (ls' := [_, _, _]) rfl ?_
  refine J_call rfl rfl rfl (decide_eq_true hS.1.1) rfl (c_queueAt hS hC (fun j x e1 hx j8 eq => ?_) (fun e1 => ?_))
  · show J _ _ _ _ _ _ _
    obtain ⟨_, _, _, _, _, x6, x7, _⟩ := hA.2.1 j x hx
    refine J_p 2 (ls' := [_, _, .ref (b + 8 + 4 + 25 * j)]) rfl ?_
    refine J_brT rfl rfl rfl ?_
    refine J_p 1 (ls' := [_, _, _]) rfl ?_
    refine J_getR rfl hr.1 hr.2.1 ?_
    refine J_p 1 (ls' := [_, _, _]) rfl ?_
    refine J_call rfl rfl rfl (decide_eq_true hS.1.1) rfl (c_giveNext hS hC (hA.okK n8) hx (hA.okL m3 n10 hx) x6 x7 (fun hg => ?_) (fun B m M2 F2 hg hF2 hN2 hS2 hC2 => ?_))
    · show J _ _ _ _ _ _ _
      obtain rfl : P = (-1, S) := hP.symm.trans (lfS_r (B := s_a S) (by simp only [fGive, e1, hg]))
      exact J_ret rfl rfl rfl (K M (Ck.refl b M S) hR)
    · show J _ _ _ _ _ _ _
      obtain rfl : P = (nI m, z_a S B) := hP.symm.trans (lfS_r (by simp only [fGive, e1, hg]))
      have em : a_m B = a_m (s_a S) := by
        obtain ⟨i, l, c, k, _, _, _, _, _, _, _, _, e⟩ := giveA_some hg hx
        rw [e.1]
        rfl
      obtain ⟨h1, h2⟩ := hR.act hV hF2 hN2 hS2 hC2 em (by have := ph_giv hg hx; omega)
      exact J_ret rfl rfl rfl (K _ h1 h2)
  · show J _ _ _ _ _ _ _
    refine J_p 2 (ls' := [_, _, .null]) rfl ?_
    refine J_brF rfl rfl rfl ?_
    obtain rfl : P = (rfN 0, z_f S 0) := hP.symm.trans (lfS_l (by simp only [fGive, e1]))
    refine J_p 2 (ls' := [_, _, _]) rfl ?_
    refine J_call rfl rfl rfl (decide_eq_true hr.1) rfl (c_refuse hR (w := 0) (by omega) (by first | rfl | decide) (fun M1 h1 h2 => ?_))
    show J _ _ _ _ _ _ _
    refine J_p 1 (ls' := [_, _, _]) rfl ?_
    exact J_ret rfl rfl rfl (K M1 h1 h2)

end COMP42