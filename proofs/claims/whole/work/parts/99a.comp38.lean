/-! THE COMPONENT: what a day does. -/
theorem ht_oa {L : List La} {c : Nat} : ∀ d i, htA L c (nI 0) d i 0 = oaA L c none d i
  | 0, _ => rfl
  | d + 1, i => by
    have e : isA L c none i = outB L c i := by
      rw [Bool.eq_iff_iff]
      constructor
      · intro h
        obtain ⟨l, hl, h1, h2, _⟩ := isA_iff.mp h
        exact (outB_iff hl).mpr ⟨h1, h2⟩
      · intro h
        cases hl : L[i]? with
        | none => unfold outB at h; rw [hl] at h; cases h
        | some l =>
          obtain ⟨h1, h2⟩ := (outB_iff hl).mp h
          exact isA_iff.mpr ⟨l, hl, h1, h2, Or.inl rfl⟩
    show (if outB L c i = true then (if nI 0 = nI 0 then some i else htA L c (nI 0) d (i + 1) (0 + 1)) else htA L c (nI 0) d (i + 1) 0) = if isA L c none i = true then some i else oaA L c none d (i + 1)
    rw [e, ht_oa d (i + 1), if_pos (rfl : nI 0 = nI 0)]
section COMP38
variable {E : Nat × Nat} {M M' : Mm} {W : Nat → Prop} {Q : Option Value → Mm → Prop} {w t g a c q p i b m T : Nat} {o o' f f' : Nat → Nat} {F F' : Nat → Nat → Nat} {A B : Ab} {x : Qa} {d : Da} {ms : List Ma} {l : La} {k : Co}
theorem Gw.nw (h : Nw M M') (e : phA B ≤ phA A + c) : Gw M M' A B c := by
  obtain ⟨_, h2, h3⟩ := h
  exact ⟨by omega, by omega, by omega⟩
theorem Gw.up {c' : Nat} (h : Gw M M' A B c) (hc : c ≤ c') : Gw M M' A B c' := ⟨by have := h.1; omega, h.2⟩
theorem ph_give (hx : (a_q A)[q]? = some x) (hl : (q_ls x)[i]? = some l) : phA (aGive A q x i l c k) ≤ phA A + 1 := by
  have h1 := phA_set (x' := x_gv (x_l1 (x_ls x ((q_ls x).set i (outL l c (a_n A + q_le x)))) (c + 1)) (q_gv x + nI 1)) hx
  have h2 : phQ ((q_ls x).set i (outL l c (a_n A + q_le x))) + phL l = phQ (q_ls x) + phL (outL l c (a_n A + q_le x)) := sm_set phL _ (q_ls x) i l hl
  have h3 : phA (aGive A q x i l c k) + phQ (q_ls x) = phA A + phQ ((q_ls x).set i (outL l c (a_n A + q_le x))) := h1
  have := phL_1 l
  have := phL_1 (outL l c (a_n A + q_le x))
  omega
theorem ph_giv (h : giveA A q = some (B, m)) (hx : (a_q A)[q]? = some x) : phA B ≤ phA A + 1 := by
  obtain ⟨i, l, c, k, _, _, hl, _, _, _, _, _, e⟩ := giveA_some h hx
  rw [show B = aGive A q x i l c k from e.1]
  exact ph_give hx hl
theorem ph_ack (hx : (a_q A)[q]? = some x) (hl : (q_ls x)[i]? = some l) : phA (aAck A q x i c k) ≤ phA A := by
  have h1 := phA_set (x' := x_ak (x_ls x ((q_ls x).eraseIdx i)) (q_ak x + nI 1)) hx
  have h2 : phQ ((q_ls x).eraseIdx i) + phL l = phQ (q_ls x) := sm_er phL (q_ls x) i l hl
  have h3 : phA (aAck A q x i c k) + phQ (q_ls x) = phA A + phQ ((q_ls x).eraseIdx i) := h1
  omega
theorem Wf.okK (hW : Wf T A) (h8 : (a_q A).length ≤ 8) : okK A := fun c k hk => by
  have := hW.2.2.1 c k hk
  exact ⟨this.2.2.1, by have := this.1; omega, this.2.1⟩
theorem Wf.okL (hW : Wf T A) (h3 : (a_m A).length ≤ 300) (h10 : (a_c A).length ≤ 10) (hx : (a_q A)[q]? = some x) : okL (a_m A) (q_ls x) := fun i l hl => by
  obtain ⟨l1, l2, _, _, _, _, l7⟩ := (hW.2.1 q x hx).2.2.2.2.2.2.2.2.1 i l hl
  obtain ⟨y, hy⟩ := get_of (l := a_m A) (i := l_m l) l1
  obtain ⟨_, _, m3, m4, _⟩ := hW.2.2.2.1 (l_m l) y hy
  refine ⟨l2, ?_, ?_, by omega, fun h => ?_⟩
  · unfold kyA
    rw [getD_of hy]
    exact m3
  · unfold prA
    rw [getD_of hy]
    exact m4
  · obtain ⟨k, hk, _⟩ := l7 h
    have := li hk
    omega
theorem wf_sendQ : ∀ (d : Nat) (A : Ab) (q : Nat), Wf T A → noM A q m → m < (a_m A).length → Wf T (sendQ m d A q).1
  | 0, A, q, hW, _, _ => hW
  | d + 1, A, q, hW, hn, hm => by
    show Wf T (match (a_q A)[q]? with
        | none => (A, 0)
        | some x => if fitQ A q = true then ((sendQ m d (intoA A q x m) (q + 1)).1, (sendQ m d (intoA A q x m) (q + 1)).2 + 1) else sendQ m d A (q + 1)).1
    cases hx : (a_q A)[q]? with
    | none => exact hW
    | some x =>
      show Wf T (if fitQ A q = true then ((sendQ m d (intoA A q x m) (q + 1)).1, (sendQ m d (intoA A q x m) (q + 1)).2 + 1) else sendQ m d A (q + 1)).1
      by_cases c : fitQ A q = true
      · rw [if_pos c]
        have hw2 := hW.into hn hx hm
        refine wf_sendQ d _ (q + 1) hw2 (noM_into hn hx) ?_
        rw [into_len.2]
        exact hm
      · rw [if_neg c]
        exact wf_sendQ d A (q + 1) hW (noM_skip hn) hm
theorem Wf.send {key pr : Nat} {v : Int32} (hW : Wf T A) (hk : key < 8) (hp : pr < 4) (h1 : 1 ≤ (a_t A).length) (h4 : (a_t A).length ≤ 4) : Wf T (sendA A key pr v).1 := by
  refine wf_sendQ _ _ 0 (hW.newM hk hp h1 h4) (noM_new hW rfl) ?_
  show _ < (a_m A ++ [_]).length
  rw [List.length_append]
  exact Nat.lt_succ_self _
theorem c_sendByDraws (hS : OS M w t g o F) (hC : OC M w t g o F A) (hW : Wf T A) (K : ∀ (M2 : Mm) (o2 : Nat → Nat) (F2 : Nat → Nat → Nat), Fm (Wm w t g) M M2 → Gw M M2 A (dayS A).1 8 → OS M2 w t g o2 F2 → OC M2 w t g o2 F2 (dayS A).1 → Wf T (dayS A).1 → Q (some (.int (if (dayS A).2 = true then nI 1 else nI 0))) M2) : J E 93 0 [.ref w, U0, U0] [] M Q := by
  obtain ⟨txt, hTC⟩ := hC.2.2.2.2.2.2.1
  have t4 := hTC.2.1.2
  have m3 := hC.mc.1
  have n8 := hC.2.1.2
  have F0 : (a_t A).length = 0 ∨ (a_m A).length = 300 → J E 93 20 [.ref w, U0, U0] [] M Q := fun h => by
    have e : dayS A = (A, false) := by unfold dayS; rw [if_pos h]
    rw [e] at K
    refine J_p 1 (ls' := [_, _, _]) rfl ?_
    exact J_rt rfl (by decide) rfl (K M o F (Fm.refl _ M) ((Gw.refl M A).up (by omega)) hS hC hW)
  refine J_p 1 (ls' := [_, _, _]) rfl ?_
  refine J_getR rfl hS.1.1 hS.1.2.2.2.2.2 ?_
  refine J_gi rfl hS.2.1.1 hTC.2.1.1 ?_
  refine J_zeq rfl (fun z => F0 (Or.inl ((nI_eq (b := 0) (by omega) (by omega)).mp z))) (fun z => ?_)
  have e0 : ¬ (a_t A).length = 0 := fun y => z (by rw [y]; rfl)
  refine J_p 1 (ls' := [_, _, _]) rfl ?_
  refine J_gi rfl hS.1.1 hC.1 ?_
  refine J_p 1 (ls' := [_, _, _]) rfl ?_
  refine J_ilt rfl (fun y => ?_) (fun y => F0 (Or.inr ?_))
  · have e3 : ¬ (a_m A).length = 300 := fun e => nI_nlt (a := (a_m A).length) (b := 300) (by omega) (by omega) y
    have e : dayS A = ((sendA (drawA (drawA (drawA A 8).1 4).1 100).1 (drawA A 8).2 (drawA (drawA A 8).1 4).2 (nI (drawA (drawA (drawA A 8).1 4).1 100).2)).1, true) := by unfold dayS; rw [if_neg (by omega)]
    rw [e] at K
    refine J_p 2 (ls' := [_, _, _]) rfl ?_
    refine J_call rfl rfl rfl (decide_eq_true hS.1.1) rfl (c_drawW hS hC (n := 8) (by omega) (by omega) (fun M1 hF1 hN1 hS1 hC1 => ?_))
    show J _ _ _ _ _ _ _
    refine J_p 3 (ls' := [_, _, _]) rfl ?_
    refine J_call rfl rfl rfl (decide_eq_true hS1.1.1) rfl (c_drawW hS1 hC1 (n := 4) (by omega) (by omega) (fun M2 hF2 hN2 hS2 hC2 => ?_))
    show J _ _ _ _ _ _ _
    refine J_p 6 (ls' := [_, _, _]) rfl ?_
    refine J_call rfl rfl rfl (decide_eq_true hS2.1.1) rfl (c_drawW hS2 hC2 (n := 100) (by omega) (by omega) (fun M3 hF3 hN3 hS3 hC3 => ?_))
    show J _ _ _ _ _ _ _
    have hw3 : Wf T (drawA (drawA (drawA A 8).1 4).1 100).1 := ((hW.seed _).seed _).seed _
    refine J_call rfl rfl rfl (decide_eq_true hS3.1.1) rfl (c_send hS3 hC3 hw3 (show 1 ≤ (a_t A).length by omega) (show (a_m A).length < 300 by omega) (fun M4 o4 F4 hF4 hG4 hS4 hC4 => ?_))
    show J _ _ _ _ _ _ _
    refine J_p 2 (ls' := [_, _, _]) rfl ?_
    refine J_rt rfl (by decide) rfl (K M4 o4 F4 ((((hF1.trans hF2).trans hF3).mono (fun z e => Or.inl e)).trans hF4) ?_ hS4 hC4 (hw3.send (Nat.mod_lt _ (by omega)) (Nat.mod_lt _ (by omega)) (show 1 ≤ (a_t A).length by omega) t4))
    have g0 : Gw M M3 A (drawA (drawA (drawA A 8).1 4).1 100).1 0 := Gw.nw ((hN1.trans hN2).trans hN3) (Nat.le_refl _)
    exact (g0.trans hG4).up (by show 0 + (a_q A).length ≤ 8; omega)
  · by_cases e : (a_m A).length = 300
    · exact e
    · exact absurd (nI_lt (by omega) (by omega)) y
theorem c_giveByDraw (hS : OS M w t g o F) (hC : OC M w t g o F A) (hW : Wf T A) (K : ∀ (M2 : Mm) (F2 : Nat → Nat → Nat), Fm (Ww w t) M M2 → Gw M M2 A (dayG A).1 8 → OS M2 w t g o F2 → OC M2 w t g o F2 (dayG A).1 → Wf T (dayG A).1 → Q (some (.int (if (dayG A).2 = true then nI 1 else nI 0))) M2) : J E 94 0 [.ref w, U0] [] M Q := by
  have n8 := hC.2.1.2
  refine J_p 1 (ls' := [_, _]) rfl ?_
  refine J_gi rfl hS.1.1 hC.2.1.1 ?_
  refine J_zne rfl (fun z => ?_) (fun z => ?_)
  · have e0 : ¬ (a_q A).length = 0 := fun y => z (by rw [y]; rfl)
    refine J_p 3 (ls' := [_, _]) rfl ?_
    refine J_gi rfl hS.1.1 hC.2.1.1 ?_
    refine J_call rfl rfl rfl (decide_eq_true hS.1.1) rfl (c_drawW hS hC (n := (a_q A).length) (by omega) (by omega) (fun M1 hF1 hN1 hS1 hC1 => ?_))
    show J _ _ _ _ _ _ _
    have dlt : (drawA A (a_q A).length).2 < (a_q A).length := Nat.mod_lt _ (by omega)
    have hw1 : Wf T (drawA A (a_q A).length).1 := hW.seed _
    obtain ⟨x, hx⟩ := get_of (l := a_q (drawA A (a_q A).length).1) (i := (drawA A (a_q A).length).2) dlt
    obtain ⟨_, _, _, _, _, x6, x7, _⟩ := hw1.2.1 _ x hx
    have g0 : Gw M M1 A (drawA A (a_q A).length).1 0 := Gw.nw hN1 (Nat.le_refl _)
    refine J_call rfl rfl rfl (decide_eq_true hS1.1.1) rfl (c_queueAt hS1 hC1 (fun i x' h1 h2 h3 h4 => ?_) (fun h => ?_))
    · show J _ _ _ _ _ _ _
      have ei : (drawA A (a_q A).length).2 = i := (nI_eq (by omega) (by omega)).mp h4
      rw [← ei] at h2 ⊢
      rw [hx] at h2
      cases h2
      refine J_p 2 (ls' := [_, .ref _]) rfl ?_
      refine J_brF rfl rfl rfl ?_
      refine J_p 2 (ls' := [_, _]) rfl ?_
      refine J_call rfl rfl rfl (decide_eq_true hS1.1.1) rfl (c_giveNext hS1 hC1 (hw1.okK n8) hx (hw1.okL hC1.mc.1 hC1.2.2.1.2 hx) x6 x7 (fun hg => ?_) (fun B m M2 F2 hg hF2 hN2 hS2 hC2 => ?_))
      · show J _ _ _ _ _ _ _
        have e : dayG A = ((drawA A (a_q A).length).1, false) := by unfold dayG; rw [if_neg e0, hg]
        rw [e] at K
        refine J_p 1 (ls' := [_, _]) rfl ?_
        refine J_ieq rfl (fun _ => ?_) (fun y => absurd rfl y)
        refine J_p 1 (ls' := [_, _]) rfl ?_
        exact J_rt rfl (by decide) rfl (K M1 F hF1 (g0.up (by omega)) hS1 hC1 hw1)
      · show J _ _ _ _ _ _ _
        have e : dayG A = (B, true) := by unfold dayG; rw [if_neg e0, hg]
        rw [e] at K
        have hm : m < 300 := by
          obtain ⟨i, l, c, k, _, _, hl, _, _, _, _, _, e⟩ := giveA_some hg hx
          have := (hw1.okL hC1.mc.1 hC1.2.2.1.2 hx i l hl).2.2.2.1
          rw [e.2]
          exact this
        refine J_p 1 (ls' := [_, _]) rfl ?_
        refine J_ieq rfl (fun y => absurd y (nI_m1 (by omega))) (fun y => ?_)
        refine J_p 2 (ls' := [_, _]) rfl ?_
        exact J_rt rfl (by decide) rfl (K M2 F2 (hF1.trans hF2) ((g0.trans (Gw.nw (c := 1) hN2 (ph_giv hg hx))).up (by omega)) hS2 hC2 (hw1.giv hg hx))
    · rw [show a_q (drawA A (a_q A).length).1 = a_q A from rfl, ixN_nI dlt (by omega)] at h
      cases h
  · have e0 : (a_q A).length = 0 := (nI_eq (b := 0) (by omega) (by omega)).mp z
    have e : dayG A = (A, false) := by unfold dayG; rw [if_pos e0]
    rw [e] at K
    refine J_p 4 (ls' := [_, .null]) rfl ?_
    refine J_brT rfl rfl rfl ?_
    refine J_p 1 (ls' := [_, _]) rfl ?_
    exact J_rt rfl (by decide) rfl (K M F (Fm.refl _ M) ((Gw.refl M A).up (by omega)) hS hC hW)
theorem c_answerByDraw {good : Bool} {gv : Int32} (hg : gv = 0 ↔ good = false) (hE : STa E M) (hS : OS M w t g o F) (hC : OC M w t g o F A) (hW : Wf T A) (K : ∀ (M2 : Mm) (o2 : Nat → Nat) (F2 : Nat → Nat → Nat), Fm (Ww w t) M M2 → Gw M M2 A (dayX A good).1 8 → OS M2 w t g o2 F2 → OC M2 w t g o2 F2 (dayX A good).1 → Wf T (dayX A good).1 → Q (some (.int (if (dayX A good).2 = true then nI 1 else nI 0))) M2) : J E 95 0 [.ref w, .int gv, U0, U0, U0] [] M Q := by
  have n10 := hC.2.2.1.2
  have n8 := hC.2.1.2
  have hkq : ∀ (c : Nat) (k : Co), (a_c A)[c]? = some k → k_q k < (a_q A).length := fun c k h => (hW.2.2.1 c k h).1
  refine J_p 1 (ls' := [_, _, _, _, _]) rfl ?_
  refine J_gi rfl hS.1.1 hC.2.2.1.1 ?_
  refine J_zne rfl (fun z => ?_) (fun z => ?_)
  · have e0 : ¬ (a_c A).length = 0 := fun y => z (by rw [y]; rfl)
    refine J_p 2 (ls' := [_, _, _, _, _]) rfl ?_
    refine J_gi rfl hS.1.1 hC.2.2.1.1 ?_
    refine J_call rfl rfl rfl (decide_eq_true hS.1.1) rfl (c_drawW hS hC (n := (a_c A).length) (by omega) (by omega) (fun M1 hF1 hN1 hS1 hC1 => ?_))
    show J _ _ _ _ _ _ _
    have dlt : (drawA A (a_c A).length).2 < (a_c A).length := Nat.mod_lt _ (by omega)
    have hw1 : Wf T (drawA A (a_c A).length).1 := hW.seed _
    have g0 : Gw M M1 A (drawA A (a_c A).length).1 0 := Gw.nw hN1 (Nat.le_refl _)
    have eX : dayX A good = dayY (drawA A (a_c A).length).1 (drawA A (a_c A).length).2 good := by unfold dayX; rw [if_neg e0]
    have eac : a_c (drawA A (a_c A).length).1 = a_c A := rfl
    have eaq : a_q (drawA A (a_c A).length).1 = a_q A := rfl
    obtain ⟨B, hB⟩ : ∃ B, (drawA A (a_c A).length).1 = B := ⟨_, rfl⟩
    obtain ⟨c, hc⟩ : ∃ c, (drawA A (a_c A).length).2 = c := ⟨_, rfl⟩
    rw [hB] at hw1 g0 eX hC1 eac eaq
    rw [hc] at eX dlt ⊢
    refine J_p 3 (ls' := [_, _, .int (nI c), _, _]) rfl ?_
    refine J_call rfl rfl rfl (decide_eq_true hS1.1.1) rfl (c_homeOf hS1 hC1 (fun c k h => (hw1.2.2.1 c k h).1) (fun c' k x h1 hk hx hq8 h4 => ?_) (fun h => ?_))
    · show J _ _ _ _ _ _ _
      have ec : c = c' := (nI_eq (by omega) (by have := li hk; rw [eac] at this; omega)).mp h4
      subst ec
      have hQ1 := hS1.qs hq8
      have hQC1 := hC1.qc hx
      have ok1 := hw1.okL hC1.mc.1 hC1.2.2.1.2 hx
      refine J_p 2 (ls' := [_, _, _, .ref _, _]) rfl ?_
      refine J_brT rfl rfl rfl ?_
      refine J_p 3 (ls' := [_, _, _, _, _]) rfl ?_
      refine J_call rfl rfl rfl (decide_eq_true hQ1.1) rfl (c_nthOut hQ1 hQC1 (by omega) (fun i l hl => ⟨(ok1 i l hl).1, fun h => by have := (ok1 i l hl).2.2.2.2 h; omega⟩) ?_)
      rw [ht_oa]
      cases hi : oaA (q_ls x) c none (q_ls x).length 0 with
      | none =>
        show J _ _ _ _ _ _ _
        have e : dayX A good = (B, false) := by rw [eX]; simp only [dayY, hk, hx, hi]
        rw [e] at K
        refine J_p 3 (ls' := [_, _, _, _, .int (oI none)]) rfl ?_
        refine J_ine rfl (fun y => absurd rfl y) (fun _ => ?_)
        refine J_p 1 (ls' := [_, _, _, _, _]) rfl ?_
        exact J_rt rfl (by decide) rfl (K M1 o F hF1 (g0.up (by omega)) hS1 hC1 hw1)
      | some i =>
        show J _ _ _ _ _ _ _
        obtain ⟨l, hl, s2, x2, _⟩ := isA_iff.mp (oaA_at _ _ _ _ _ _ hi)
        have il := li hl
        have n20 := hQC1.n20
        obtain ⟨k2, hk2, hf, _⟩ := (hw1.ls hx hl).2.2.2.2.2.2 s2
        rw [x2, hk] at hk2
        cases hk2
        have hk' : (a_c B)[l_x l]? = some k := by rw [x2]; exact hk
        have k9 := (hw1.2.2.1 c k hk).2.1
        refine J_p 3 (ls' := [_, _, _, _, .int (nI i)]) rfl ?_
        refine J_ine rfl (fun _ => ?_) (fun y => absurd y (nI_m1 (by omega)))
        refine J_p 1 (ls' := [_, _, _, _, _]) rfl ?_
        refine J_zeq rfl (fun y => ?_) (fun y => ?_)
        · have eg := hg.mp y
          have e : dayX A good = (failL B (k_q k) x i l c (nI 3), true) := by rw [eX, eg]; simp only [dayY, hk, hx, hi, hl]; rfl
          rw [e] at K
          obtain ⟨_, _, ⟨tr1, tr5⟩, _⟩ := hw1.2.1 _ x hx
          refine J_p 4 (ls' := [_, _, _, _, _]) rfl ?_
          refine J_call rfl rfl rfl (decide_eq_true hS1.1.1) rfl (c_fail (hE.fr hF1) hS1 hC1 hx hl s2 hk' k9 (Or.inl rfl) (hw1.ls hx hl).2.2.1 tr5 (fun M2 o2 F2 hF2 hN2 hU2 hS2 hC2 => ?_))
          show J _ _ _ _ _ _ _
          refine J_p 2 (ls' := [_, _, _, _, _]) rfl ?_
          have hp := ph_fail (c := c) (what := nI 3) hx hl s2
          rw [x2] at hC2
          exact J_rt rfl (by decide) rfl (K M2 o2 F2 (hF1.trans hF2) ((g0.trans (show Gw M1 M2 B (failL B (k_q k) x i l c (nI 3)) 0 from ⟨by omega, by omega, by omega⟩)).up (by omega)) hS2 hC2 (hw1.fail hx hl hk hf (Or.inl rfl)))
        · have eg : good = true := by
            cases good with
            | true => rfl
            | false => exact absurd (hg.mpr rfl) y
          have e : dayX A good = (aAck B (k_q k) x i c k, true) := by rw [eX, eg]; simp only [dayY, hk, hx, hi]; rfl
          rw [e] at K
          refine J_p 3 (ls' := [_, _, _, _, _]) rfl ?_
          refine J_call rfl rfl rfl (decide_eq_true hS1.1.1) rfl (c_ackL hS1 hC1 hx hl s2 hk' k9 (fun M2 F2 hF2 hN2 hS2 hC2 => ?_))
          show J _ _ _ _ _ _ _
          refine J_p 2 (ls' := [_, _, _, _, _]) rfl ?_
          rw [x2] at hC2
          exact J_rt rfl (by decide) rfl (K M2 o F2 (hF1.trans hF2) ((g0.trans (Gw.nw (c := 0) hN2 (ph_ack hx hl))).up (by omega)) hS2 hC2 (hw1.ack hx il hk hf))
    · rw [eac, ixN_nI dlt (by omega)] at h
      cases h
  · have e0 : (a_c A).length = 0 := (nI_eq (b := 0) (by omega) (by omega)).mp z
    have e : dayX A good = (A, false) := by unfold dayX; rw [if_pos e0]
    rw [e] at K
    refine J_p 5 (ls' := [_, _, .int (-1), _, _]) rfl ?_
    refine J_call rfl rfl rfl (decide_eq_true hS.1.1) rfl (c_homeOf hS hC hkq (fun c' k x h1 hk hx hq8 h4 => ?_) (fun h => ?_))
    · have := li hk
      omega
    · show J _ _ _ _ _ _ _
      refine J_p 2 (ls' := [_, _, _, .null, _]) rfl ?_
      refine J_brF rfl rfl rfl ?_
      refine J_p 5 (ls' := [_, _, _, _, .int (-1)]) rfl ?_
      refine J_ine rfl (fun y => absurd rfl y) (fun _ => ?_)
      refine J_p 1 (ls' := [_, _, _, _, _]) rfl ?_
      exact J_rt rfl (by decide) rfl (K M o F (Fm.refl _ M) ((Gw.refl M A).up (by omega)) hS hC hW)
theorem c_actByDraws (hE : STa E M) (hS : OS M w t g o F) (hC : OC M w t g o F A) (hW : Wf T A) (K : ∀ (M2 : Mm) (o2 : Nat → Nat) (F2 : Nat → Nat → Nat), Fm (Wm w t g) M M2 → Gw M M2 A (dayB A).1 8 → OS M2 w t g o2 F2 → OC M2 w t g o2 F2 (dayB A).1 → Wf T (dayB A).1 → Q (some (.int (if (dayB A).2 = true then nI 1 else nI 0))) M2) : J E 92 0 [.ref w] [] M Q := by
  have eB : dayB A = dayA (drawA A 6).1 (drawA A 6).2 := rfl
  rw [eB] at K
  refine J_p 2 (ls' := [_]) rfl ?_
  refine J_call rfl rfl rfl (decide_eq_true hS.1.1) rfl (c_drawW hS hC (n := 6) (by omega) (by omega) (fun M1 hF1 hN1 hS1 hC1 => ?_))
  show J _ _ _ _ _ _ _
  have g0 : Gw M M1 A (drawA A 6).1 0 := Gw.nw hN1 (Nat.le_refl _)
  have hw1 : Wf T (drawA A 6).1 := hW.seed _
  have dlt : (drawA A 6).2 < 6 := Nat.mod_lt _ (by omega)
  obtain ⟨B, hB⟩ : ∃ B, (drawA A 6).1 = B := ⟨_, rfl⟩
  obtain ⟨n, hn⟩ : ∃ c, (drawA A 6).2 = c := ⟨_, rfl⟩
  rw [hB] at hw1 g0 hC1 K
  rw [hn] at dlt K ⊢
  have hF1' : Fm (Wm w t g) M M1 := hF1.mono (fun z e => Or.inl e)
  have S : (dayA B n = dayS B) → J E 92 40 [.ref w] [] M1 Q := fun e => by
    rw [e] at K
    refine J_p 1 (ls' := [_]) rfl ?_
    refine J_call rfl rfl rfl (decide_eq_true hS1.1.1) rfl (c_sendByDraws hS1 hC1 hw1 (fun M2 o2 F2 hF2 hG2 hS2 hC2 hW2 => ?_))
    show J _ _ _ _ _ _ _
    exact J_rt rfl (by split <;> decide) rfl (K M2 o2 F2 (hF1'.trans hF2) ((g0.trans hG2).up (by omega)) hS2 hC2 hW2)
  have G : (dayA B n = dayG B) → J E 92 45 [.ref w] [] M1 Q := fun e => by
    rw [e] at K
    refine J_p 1 (ls' := [_]) rfl ?_
    refine J_call rfl rfl rfl (decide_eq_true hS1.1.1) rfl (c_giveByDraw hS1 hC1 hw1 (fun M2 F2 hF2 hG2 hS2 hC2 hW2 => ?_))
    show J _ _ _ _ _ _ _
    exact J_rt rfl (by split <;> decide) rfl (K M2 o F2 (hF1'.trans (hF2.mono (fun z e => Or.inl e))) ((g0.trans hG2).up (by omega)) hS2 hC2 hW2)
  have eA : dayA B n = if n < 2 then dayS B else if n < 4 then dayG B else dayX B (decide (n = 4)) := rfl
  rcases (show n = 0 ∨ n = 1 ∨ n = 2 ∨ n = 3 ∨ n = 4 ∨ n = 5 by omega) with rfl | rfl | rfl | rfl | rfl | rfl
  · refine J_sw1 rfl rfl rfl ?_
    exact S rfl
  · refine J_sw1 rfl rfl rfl ?_
    exact S rfl
  · refine J_sw1 rfl rfl rfl ?_
    exact G rfl
  · refine J_sw1 rfl rfl rfl ?_
    exact G rfl
  · rw [show dayA B 4 = dayX B true from rfl] at K
    refine J_sw1 rfl rfl rfl ?_
    refine J_p 2 (ls' := [_]) rfl ?_
    refine J_call rfl rfl rfl (decide_eq_true hS1.1.1) rfl (c_answerByDraw (good := true) (by decide) (hE.fr hF1) hS1 hC1 hw1 (fun M2 o2 F2 hF2 hG2 hS2 hC2 hW2 => ?_))
    show J _ _ _ _ _ _ _
    exact J_rt rfl (by split <;> decide) rfl (K M2 o2 F2 (hF1'.trans (hF2.mono (fun z e => Or.inl e))) ((g0.trans hG2).up (by omega)) hS2 hC2 hW2)
  · rw [show dayA B 5 = dayX B false from rfl] at K
    refine J_sw1 rfl rfl rfl ?_
    refine J_p 2 (ls' := [_]) rfl ?_
    refine J_call rfl rfl rfl (decide_eq_true hS1.1.1) rfl (c_answerByDraw (good := false) (by decide) (hE.fr hF1) hS1 hC1 hw1 (fun M2 o2 F2 hF2 hG2 hS2 hC2 hW2 => ?_))
    show J _ _ _ _ _ _ _
    exact J_rt rfl (by split <;> decide) rfl (K M2 o2 F2 (hF1'.trans (hF2.mono (fun z e => Or.inl e))) ((g0.trans hG2).up (by omega)) hS2 hC2 hW2)
end COMP38