/-! THE COMPONENT: a tick. -/
section COMP25
variable {E : Nat × Nat} {M M' : Mm} {W : Nat → Prop} {Q : Option Value → Mm → Prop} {w t g a c q p i b m T : Nat} {o o' f f' : Nat → Nat} {F F' : Nat → Nat → Nat} {A : Ab} {k : Co} {d : Da} {x x' : Qa} {ms : List Ma} {l l' : La} {cs : List Ca} {what : Int32}
def lnA (A : Ab) : Nat := ((a_q A).map (fun x => (q_ls x).length)).sum
theorem lnS_take (L : List Qa) : ∀ k, k ≤ L.length → lnS L k = ((L.take k).map (fun x => (q_ls x).length)).sum
  | 0, _ => rfl
  | k + 1, h => by
    have h1 := lnS_take L k (by omega)
    obtain ⟨x, hx⟩ := get_of (l := L) (i := k) (by omega)
    rw [List.take_add_one, hx, List.map_append, List.sum_append, ← h1]
    show lnS L k + (q_ls (L.getD k _)).length = _
    rw [getD_of hx]
    rfl
theorem lnS_A (A : Ab) : lnS (a_q A) (a_q A).length = lnA A := by
  rw [lnS_take (a_q A) _ (Nat.le_refl _), List.take_length]
  rfl
theorem age_set (hx : (a_q A)[q]? = some x) (hl : (q_ls x)[i]? = some l) : ∃ x', a_q (ageL A q x i l).1 = (a_q A).set q x' ∧ (q_ls x').length + (if (ageL A q x i l).2 = true then 1 else 0) = (q_ls x).length := by
  have hi := li hl
  have e1 : ((q_ls x).eraseIdx i).length + 1 = (q_ls x).length := by rw [List.length_eraseIdx_of_lt hi]; omega
  unfold ageL failL
  obtain ⟨c1, _, _⟩ := crM_q A (l_x l)
  split
  · by_cases c : (l_c l).length + 1 = q_tr x
    · simp only [c, if_true, decide_true]
      refine ⟨x_ls (x_di x (q_di x + nI 1)) ((q_ls x).eraseIdx i), ?_, e1⟩
      show (a_q (crM A (l_x l))).set q _ = _
      rw [c1]
    · simp only [if_neg c, decide_eq_false c]
      refine ⟨x_ls x ((q_ls x).set i (restL A l (l_x l) (nI 4))), ?_, ?_⟩
      · show (a_q (crM A (l_x l))).set q _ = _
        rw [c1]
      · show ((q_ls x).set i _).length + (if false = true then 1 else 0) = _
        rw [List.length_set]
        rfl
  · split
    · exact ⟨x_ls (x_di x (q_di x + nI 1)) ((q_ls x).eraseIdx i), rfl, e1⟩
    · refine ⟨x_ls x ((q_ls x).set i (rdyA (a_n A) l)), rfl, ?_⟩
      show ((q_ls x).set i _).length + (if false = true then 1 else 0) = _
      rw [List.length_set]
      rfl
theorem lnA_age (hx : (a_q A)[q]? = some x) (hl : (q_ls x)[i]? = some l) : lnA (ageL A q x i l).1 + (if (ageL A q x i l).2 = true then 1 else 0) = lnA A := by
  obtain ⟨x', e1, e2⟩ := age_set hx hl
  have := sm_set (fun x => (q_ls x).length) x' (a_q A) q x hx
  unfold lnA
  rw [e1]
  have h2 : (((a_q A).set q x').map (fun x => (q_ls x).length)).sum + (q_ls x).length = ((a_q A).map (fun x => (q_ls x).length)).sum + (q_ls x').length := this
  omega
theorem lnA_ageQ : ∀ (f : Nat) (A : Ab) (i : Nat), lnA (ageQ f A q i).1 + (ageQ f A q i).2 = lnA A
  | 0, _, _ => rfl
  | f + 1, A, i => by
    unfold ageQ
    cases hx : (a_q A)[q]? with
    | none => rfl
    | some x =>
      simp only
      cases hl : (q_ls x)[i]? with
      | none => rfl
      | some l =>
        simp only
        have h1 := lnA_age hx hl
        by_cases c : (ageL A q x i l).2 = true
        · rw [if_pos c] at h1 ⊢
          have := lnA_ageQ f (ageL A q x i l).1 i
          simp only
          omega
        · rw [if_neg c] at h1 ⊢
          have := lnA_ageQ f (ageL A q x i l).1 (i + 1)
          omega
theorem lnA_tickQ : ∀ (d : Nat) (A : Ab) (q : Nat), lnA (tickQ d A q).1 + (tickQ d A q).2 = lnA A
  | 0, _, _ => rfl
  | d + 1, A, q => by
    have h1 := lnA_ageQ (q := q) (lenQ A q) A 0
    have h2 := lnA_tickQ d (ageQ (lenQ A q) A q 0).1 (q + 1)
    show lnA (tickQ d (ageQ (lenQ A q) A q 0).1 (q + 1)).1 + ((ageQ (lenQ A q) A q 0).2 + (tickQ d (ageQ (lenQ A q) A q 0).1 (q + 1)).2) = _
    omega
theorem c_tick_q (hw : w < t) {s : Int32} (q8 : q < 8) : ∀ (f : Nat) (A : Ab) (M : Mm) (o : Nat → Nat) (F : Nat → Nat → Nat) (kk : Nat) (x : Qa) (v6 : Value), STa E M → OS M w t g o F → OC M w t g o F A → Wf T A → (a_q A)[q]? = some x → kk + f = (q_ls x).length →
    (∀ (M2 : Mm) (o2 : Nat → Nat) (F2 : Nat → Nat → Nat) (k2 : Int32) (v : Value), STa E M2 → Fm (Ww w t) M M2 → Gw M M2 A (ageQ f A q kk).1 0 → OS M2 w t g o2 F2 → OC M2 w t g o2 F2 (ageQ f A q kk).1 → Wf T (ageQ f A q kk).1 → J E 90 87 [.ref w, .int s, .int (nI q), .ref (t + 4 + 25 * q), .int k2, .int (nI 0), v] [] M2 Q) →
    J E 90 41 [.ref w, .int s, .int (nI q), .ref (t + 4 + 25 * q), .int (nI kk), .int (nI f), v6] [] M Q
  | 0, A, M, o, F, kk, x, v6, hE, hS, hC, hW, hx, hk, K => by
    refine J_p 1 (ls' := [_, _, _, _, _, _, _]) rfl ?_
    exact J_zle rfl (fun _ => K M o F (nI kk) v6 hE (Fm.refl _ M) (Gw.refl M A) hS hC hW) (fun b => absurd (by decide) b)
  | f + 1, A, M, o, F, kk, x, v6, hE, hS, hC, hW, hx, hk, K => by
    obtain ⟨l, hl⟩ := get_of (l := q_ls x) (i := kk) (by omega)
    have n20 := (hC.qc hx).n20
    have hQ := hS.qs q8
    have wq := hW.2.1 q x hx
    obtain ⟨_, _, ⟨_, tr5⟩, _, ag9, _, _, _, wl, _⟩ := wq
    obtain ⟨l1, l2, l3, l4, _, _, l7⟩ := wl kk l hl
    have hT := hW.1
    have pb : pbA (a_m A) l ≤ a_n A := by
      obtain ⟨y, hy⟩ := get_of (l := a_m A) (i := l_m l) l1
      have := (hW.2.2.2.1 (l_m l) y hy).2.2.2.2
      unfold pbA
      rw [getD_of hy]
      exact this
    have ho : l_s l = 2 → ∃ k : Co, (a_c A)[l_x l]? = some k ∧ k_cr k ≤ 9 := fun h => by
      obtain ⟨k, k1, _⟩ := l7 h
      exact ⟨k, k1, (hW.2.2.1 _ k k1).2.1⟩
    refine J_p 1 (ls' := [_, _, _, _, _, _, _]) rfl ?_
    refine J_zle rfl (fun b => absurd b (nI_ge (a := 0) (by omega) (by omega))) (fun _ => ?_)
    refine J_p 1 (ls' := [_, _, _, _, _, _, _]) rfl ?_
    refine J_gi rfl hQ.1 (hC.qc hx).n ?_
    refine J_p 4 (ls' := [_, _, _, _, _, _, .int (nI (q_ls x).length)]) rfl ?_
    refine J_call rfl rfl rfl (decide_eq_true hS.1.1) rfl (c_letTimeReach hE hS hC hx hl l2 (by omega) (by omega) pb ag9 ho l3 tr5 (fun M1 o1 F1 hF1 hN1 hU1 hS1 hC1 => ?_))
    show J _ _ _ _ _ _ _
    obtain ⟨x1, hx1, hlen, _, _⟩ := age_len hx hl
    have hph := ph_age hx hl
    have hG1 : Gw M M1 A (ageL A q x kk l).1 0 := ⟨by omega, by omega, by omega⟩
    have hW1 := hW.age hx hl
    have hE1 := hE.fr hF1
    have hQ1 := hS1.qs q8
    have eA : ageQ (f + 1) A q kk = if (ageL A q x kk l).2 = true then ((ageQ f (ageL A q x kk l).1 q kk).1, (ageQ f (ageL A q x kk l).1 q kk).2 + 1) else ageQ f (ageL A q x kk l).1 q (kk + 1) := by
      show (match (a_q A)[q]? with
        | none => (A, 0)
        | some x => match (q_ls x)[kk]? with
          | none => (A, 0)
          | some l => if (ageL A q x kk l).2 = true then ((ageQ f (ageL A q x kk l).1 q kk).1, (ageQ f (ageL A q x kk l).1 q kk).2 + 1) else ageQ f (ageL A q x kk l).1 q (kk + 1)) = _
      rw [hx]
      simp only [hl]
    rw [eA] at K
    refine J_p 2 (ls' := [_, _, _, _, _, _, _]) rfl ?_
    refine J_gi rfl hQ1.1 (hC1.qc hx1).n ?_
    refine J_p 1 (ls' := [_, _, _, _, _, _, _]) rfl ?_
    have edec : nI (f + 1) + (-1) = nI f := nI_decE rfl
    refine J_ine rfl (fun b => ?_) (fun b => ?_)
    · have c : (ageL A q x kk l).2 = true := by
        cases e : (ageL A q x kk l).2 with
        | true => rfl
        | false =>
          rw [e] at hlen
          exact absurd (by rw [← hlen]; rfl) b
      rw [if_pos c] at K hlen
      refine J_p 1 (ls' := [_, _, _, _, _, _, _]) rfl ?_
      refine J_call rfl rfl rfl rfl rfl (c_asBit0 ?_)
      show J _ _ _ _ _ _ _
      refine J_p 1 (ls' := [_, _, _, _, _, _, _]) rfl ?_
      refine J_t0 (nI_add kk 0) ?_
      refine J_p 3 (ls' := [_, _, _, _, .int (nI kk), .int (nI (f + 1) + (-1)), _]) rfl ?_
      rw [edec]
      exact c_tick_q hw q8 f _ M1 o1 F1 kk x1 _ hE1 hS1 hC1 hW1 hx1 (by omega) (fun M2 o2 F2 k2 v h1 h2 h3 h4 h5 h6 => K M2 o2 F2 k2 v h1 (hF1.trans h2) (hG1.trans h3) h4 h5 h6)
    · have c : ¬ (ageL A q x kk l).2 = true := fun z => by
        rw [if_pos z] at hlen
        have := (nI_eq (by omega) (by omega)).mp b
        omega
      rw [if_neg c] at K hlen
      refine J_p 2 (ls' := [_, _, _, _, _, _, _]) rfl ?_
      refine J_call rfl rfl rfl rfl rfl (c_asBit1 ?_)
      show J _ _ _ _ _ _ _
      refine J_p 1 (ls' := [_, _, _, _, _, _, _]) rfl ?_
      refine J_t0 (nI_add kk 1) ?_
      refine J_p 3 (ls' := [_, _, _, _, .int (nI (kk + 1)), .int (nI (f + 1) + (-1)), _]) rfl ?_
      rw [edec]
      exact c_tick_q hw q8 f _ M1 o1 F1 (kk + 1) x1 _ hE1 hS1 hC1 hW1 hx1 (by omega) (fun M2 o2 F2 k2 v h1 h2 h3 h4 h5 h6 => K M2 o2 F2 k2 v h1 (hF1.trans h2) (hG1.trans h3) h4 h5 h6)
end COMP25