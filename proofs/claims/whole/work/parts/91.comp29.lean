/-! THE COMPONENT: a message is sent. -/
theorem sm_ins {α : Type} (f : α → Nat) (v : α) : ∀ (L : List α) (i : Nat), i ≤ L.length → ((L.insertIdx i v).map f).sum = (L.map f).sum + f v
  | L, 0, _ => by
    rw [List.insertIdx_zero]
    show f v + (L.map f).sum = _
    omega
  | [], i + 1, h => absurd h (by show ¬ i + 1 ≤ 0; omega)
  | y :: L, i + 1, h => by
    have h' : i ≤ L.length := by
      have : i + 1 ≤ L.length + 1 := h
      omega
    have := sm_ins f v L i h'
    rw [List.insertIdx_succ_cons]
    show f y + ((L.insertIdx i v).map f).sum = (f y + (L.map f).sum) + f v
    omega
/-- what the sending needs of a queue -/
def sdQ (x : Qa) : Prop := (1 ≤ (q_p x).length ∧ WfP (q_p x)) ∧ q_li x ≤ 20 ∧ (q_ls x).length ≤ q_li x ∧ ∀ (i : Nat) (l : La), (q_ls x)[i]? = some l → l_m l < 300
section COMP29
variable {E : Nat × Nat} {M M' : Mm} {W : Nat → Prop} {Q : Option Value → Mm → Prop} {w t g a c q p i b m T : Nat} {o o' f f' : Nat → Nat} {F F' : Nat → Nat → Nat} {A : Ab} {x : Qa} {ms : List Ma}
theorem ph_come (hx : (a_q A)[q]? = some x) : phA (comeA A q x m) = phA A + 1 := by
  have h1 := phA_set (x' := x_ls x ((q_ls x).insertIdx (plcA m (q_ls x) (q_ls x).length) (m, 0, 0, 0, []))) hx
  have h2 : phQ ((q_ls x).insertIdx (plcA m (q_ls x) (q_ls x).length) (m, 0, 0, 0, [])) = phQ (q_ls x) + 1 := sm_ins phL _ (q_ls x) _ (plcA_le _ _ _)
  have h3 : phA (comeA A q x m) + phQ (q_ls x) = phA A + phQ ((q_ls x).insertIdx (plcA m (q_ls x) (q_ls x).length) (m, 0, 0, 0, [])) := h1
  omega
theorem ph_full (hx : (a_q A)[q]? = some x) : phA (fullA A q x m) = phA A := by
  have h1 : phA (fullA A q x m) + phQ (q_ls x) = phA A + phQ (q_ls x) := phA_set (x' := x_di x (q_di x + nI 1)) hx
  omega
theorem c_sendAll {key pr v : Int32} (K8 : w < t) : ∀ (d : Nat) (A : Ab) (M : Mm) (o : Nat → Nat) (F : Nat → Nat → Nat) (q cnt : Nat) (v7 : Value), OS M w t g o F → OC M w t g o F A → q + d = (a_q A).length → (∀ (p : Nat) (x : Qa), q ≤ p → (a_q A)[p]? = some x → sdQ x) → (WfT (a_t A) ∧ 1 ≤ (a_t A).length ∧ (a_t A).length ≤ 4) → m < (a_m A).length → cnt + d ≤ 8 →
    (∀ (M2 : Mm) (o2 : Nat → Nat) (F2 : Nat → Nat → Nat), Fm (Ww w t) M M2 → Gw M M2 A (sendQ m d A q).1 d → OS M2 w t g o2 F2 → OC M2 w t g o2 F2 (sendQ m d A q).1 → Q (some (.int (nI (cnt + (sendQ m d A q).2)))) M2) →
    J E 76 45 [.ref w, .int key, .int pr, .int v, .int (nI m), .int (nI cnt), .int (nI q), v7] [] M Q
  | 0, A, M, o, F, q, cnt, v7, hS, hC, hk, hq, hT, hm, h8, K => by
    have n8 := hC.2.1.2
    refine J_p 2 (ls' := [_, _, _, _, _, _, _, _]) rfl ?_
    refine J_gi rfl hS.1.1 hC.2.1.1 ?_
    refine J_ige rfl (fun _ => ?_) (fun b => absurd (nI_le (by omega) (by omega)) b)
    refine J_p 1 (ls' := [_, _, _, _, _, _, _, _]) rfl ?_
    exact J_ret rfl rfl rfl (K M o F (Fm.refl _ M) (Gw.refl M A) hS hC)
  | d + 1, A, M, o, F, q, cnt, v7, hS, hC, hk, hq, hT, hm, h8, K => by
    have n8 := hC.2.1.2
    have q8 : q < 8 := by omega
    obtain ⟨x, hx⟩ := get_of (l := a_q A) (i := q) (by omega)
    obtain ⟨⟨s1, s2⟩, s3, s4, s5⟩ := hq q x (Nat.le_refl _) hx
    have hQ := hS.qs q8
    have hQC := hC.qc hx
    obtain ⟨txt, hTC⟩ := hC.2.2.2.2.2.2.1
    obtain ⟨y1, y2, y3⟩ := hS.2.2.2.2.2.2.1
    have hmn := hS.2.2.2.2.2.2.2
    have hcf : covA (q_p x) (a_t A) = fitQ A q := by
      rw [cov_fit hT.1 hT.2.1 hT.2.2]
      unfold fitQ
      rw [hx]
    have es : sendQ m (d + 1) A q = if fitQ A q = true then ((sendQ m d (intoA A q x m) (q + 1)).1, (sendQ m d (intoA A q x m) (q + 1)).2 + 1) else sendQ m d A (q + 1) := by
      show (match (a_q A)[q]? with
        | none => (A, 0)
        | some x => if fitQ A q = true then ((sendQ m d (intoA A q x m) (q + 1)).1, (sendQ m d (intoA A q x m) (q + 1)).2 + 1) else sendQ m d A (q + 1)) = _
      rw [hx]
    rw [es] at K
    refine J_p 2 (ls' := [_, _, _, _, _, _, _, _]) rfl ?_
    refine J_gi rfl hS.1.1 hC.2.1.1 ?_
    refine J_ige rfl (fun b => absurd b (nI_ge (by omega) (by omega))) (fun _ => ?_)
    refine J_p 1 (ls' := [_, _, _, _, _, _, _, _]) rfl ?_
    refine J_getR rfl hS.1.1 hS.1.2.2.1 ?_
    refine J_p 1 (ls' := [_, _, _, _, _, _, _, _]) rfl ?_
    refine J_aald (n := q) rfl rfl (by rw [hS.2.2.1.1]; rfl) hS.2.2.1.2.1 (by omega) (by omega) (hS.2.2.1.2.2 q q8).1 ?_
    refine J_p 2 (ls' := [_, _, _, _, _, _, _, .ref (t + 4 + 25 * q)]) rfl ?_
    refine J_getR rfl hQ.1 hQ.2.2.1 ?_
    refine J_p 1 (ls' := [_, _, _, _, _, _, _, _]) rfl ?_
    refine J_getR rfl hS.1.1 hS.1.2.2.2.2.2 ?_
    refine J_call rfl rfl rfl (decide_eq_true hQ.2.2.2.2.1.1) rfl (c_takesAll hQ.2.2.2.2.1 hQC.1 hS.2.1 hTC s2 hT.1.p s1 hT.2.1 (fun z => ?_) (fun z => ?_))
    · show J _ _ _ _ _ _ _
      rw [hcf] at z
      rw [if_pos z] at K
      refine J_zne rfl (fun _ => ?_) (fun b => absurd b (by decide))
      have nxt : ∀ (M2 : Mm) (o2 : Nat → Nat) (F2 : Nat → Nat → Nat), Fm (Ww w t) M M2 → Gw M M2 A (intoA A q x m) 1 → OS M2 w t g o2 F2 → OC M2 w t g o2 F2 (intoA A q x m) → J E 76 45 [.ref w, .int key, .int pr, .int v, .int (nI m), .int (nI (cnt + 1)), .int (nI (q + 1)), .ref (t + 4 + 25 * q)] [] M2 Q := fun M2 o2 F2 h1 h2 h3 h4 => by
        have e1 : (a_q (intoA A q x m)).length = (a_q A).length ∧ a_t (intoA A q x m) = a_t A ∧ a_m (intoA A q x m) = a_m A ∧ ∀ p, q + 1 ≤ p → (a_q (intoA A q x m))[p]? = (a_q A)[p]? := by
          unfold intoA
          split
          · refine ⟨List.length_set .., rfl, rfl, fun p hp => ?_⟩
            show ((a_q A).set q _)[p]? = _
            exact List.getElem?_set_ne (by omega)
          · refine ⟨List.length_set .., rfl, rfl, fun p hp => ?_⟩
            show ((a_q A).set q _)[p]? = _
            exact List.getElem?_set_ne (by omega)
        obtain ⟨e1, e2, e3, e4⟩ := e1
        refine c_sendAll K8 d _ M2 o2 F2 (q + 1) (cnt + 1) _ h3 h4 (by omega) (fun p y hp hy => hq p y (by omega) (by rw [← e4 p hp]; exact hy)) (by rw [e2]; exact hT) (by rw [e3]; exact hm) (by omega) (fun M3 o3 F3 g1 g2 g3 g4 => ?_)
        have eg : cnt + 1 + (sendQ m d (intoA A q x m) (q + 1)).2 = cnt + ((sendQ m d (intoA A q x m) (q + 1)).2 + 1) := by omega
        rw [eg]
        refine K M3 o3 F3 (h1.trans g1) ?_ g3 g4
        have := h2.trans g2
        rw [Nat.add_comm 1 d] at this
        exact this
      refine J_p 2 (ls' := [_, _, _, _, _, .int (nI cnt + nI 1), _, _]) rfl ?_
      rw [nI_add cnt 1]
      refine J_call rfl rfl rfl (decide_eq_true hQ.1) rfl (c_isFull hQ hQC s3 s4 (fun z2 => ?_) (fun z2 => ?_))
      · show J _ _ _ _ _ _ _
        refine J_zeq rfl (fun b => absurd b (by decide)) (fun _ => ?_)
        have ei : intoA A q x m = fullA A q x m := if_pos z2
        rw [ei] at nxt
        have TN : ∀ z, z < mN M → mT (nC M 0 6) z = mT M z := fun z hz => by rw [nC_T, if_neg (by omega)]
        have IN : ∀ z, z < mN M → mI (nC M 0 6) z = mI M z := fun z hz => by rw [nC_I, if_neg (by omega)]
        refine J_p 3 (ls' := [_, _, _, _, _, _, _, _]) rfl ?_
        refine J_new rfl ?_
        refine J_p 3 (ls' := [_, _, _, _, _, _, _, _]) rfl ?_
        refine J_gi (z := nI (a_n A)) rfl (by rw [TN w (by omega)]; exact hS.1.1) (by rw [IN w (by omega)]; exact hC.2.2.2.2.1) ?_
        refine J_p 2 (ls' := [_, _, _, _, _, _, _, _]) rfl ?_
        refine J_gi (z := nI (q_li x)) rfl (by rw [TN _ (by omega)]; exact hQ.1) (by rw [IN _ (by omega)]; exact hQC.2.2.1) ?_
        refine J_p 1 (ls' := [_, _, _, _, _, _, _, _]) rfl ?_
        refine J_call rfl rfl rfl rfl rfl (c_causeNew (cs := []) (pr := none) rfl (v := nI 0) (fun _ => rfl) (fun _ => rfl) (fun M3 hF3 hN3 hU3 hc3 => ?_))
        show J _ _ _ _ _ _ _
        have hF := hF3 (Qw (t + 4 + 25 * q))
        have s6 : ∀ z, z < mN M → Sm M M3 z := fun z hz => (hF3 (fun _ => False)).2.2 z hz (Or.inl id)
        have hQ3 : QS M3 (t + 4 + 25 * q) q (F q) := hQ.fr (fun z h1 h2 => (s6 z (by omega)).1) (by rw [(s6 _ (by omega)).2.1]) (fun z h1 h2 => (s6 z (by omega)).2.2.2)
        have hQC3 : QC M3 (t + 4 + 25 * q) (F q) x (a_m A) := hQC.fr hF (fun j hj => hQ.lt hj) (fun z h1 h2 => ⟨(s6 z (by omega)).2.1, (s6 z (by omega)).2.2.2⟩)
        have hS3 := hS.setq hF q8 hQ3
        have hC3 := OC.setq hS hC hF q8 hQC3
        have ex : w_q A ((a_q A).set q x) = A := by
          rw [set_id hx]
          rfl
        rw [ex] at hC3
        refine J_call rfl rfl rfl (decide_eq_true hS3.1.1) rfl (c_addDead (m := m) hS3 hC3 hx hc3 (fun M4 o4 hF4 hN4 _ hS4 hC4 => ?_))
        show J _ _ _ _ _ _ _
        refine J_p 3 (ls' := [_, _, _, _, _, _, _, _]) rfl ?_
        rw [nI_add q 1]
        refine nxt M4 o4 _ ((hF3 _).trans hF4) ⟨?_, ?_, ?_⟩ hS4 hC4
        · rw [hN4.2.1, hN3, ph_full hx]
          omega
        · rw [hN4.2.1, hN4.2.2, hN3, hU3]
          omega
        · rw [hN4.2.1, hN3]
          omega
      · show J _ _ _ _ _ _ _
        refine J_zeq rfl (fun _ => ?_) (fun b => absurd rfl b)
        have ei : intoA A q x m = comeA A q x m := if_neg z2
        rw [ei] at nxt
        obtain ⟨y, hy⟩ := get_of (l := a_m A) (i := m) hm
        refine J_p 2 (ls' := [_, _, _, _, _, _, _, _]) rfl ?_
        refine J_getR rfl hS.1.1 hS.1.2.1 ?_
        refine J_p 1 (ls' := [_, _, _, _, _, _, _, _]) rfl ?_
        refine J_call rfl rfl rfl (decide_eq_true hQ.1) rfl (c_insert hQ hQC hS.2.2.2.2.2.1 hC.mc s3 (by omega) hy s5 (fun M4 f4 hF4 hN4 hQ4 hQC4 => ?_))
        show J _ _ _ _ _ _ _
        refine J_p 2 (ls' := [_, _, _, _, _, _, _, _]) rfl ?_
        rw [nI_add q 1]
        refine nxt M4 o _ (hF4.mono (fun z e => e.ww q8)) ⟨?_, ?_, ?_⟩ (hS.setq hF4 q8 hQ4) (OC.setq hS hC hF4 q8 hQC4)
        · rw [hN4.2.1, ph_come hx]
          omega
        · rw [hN4.2.1, hN4.2.2]
        · rw [hN4.2.1]
          omega
    · show J _ _ _ _ _ _ _
      rw [hcf] at z
      rw [if_neg (by rw [z]; decide)] at K
      refine J_zne rfl (fun b => absurd rfl b) (fun _ => ?_)
      refine J_p 3 (ls' := [_, _, _, _, _, _, _, _]) rfl ?_
      rw [nI_add q 1]
      refine c_sendAll K8 d A M o F (q + 1) cnt _ hS hC (by omega) (fun p y hp hy => hq p y (by omega) hy) hT hm (by omega) (fun M3 o3 F3 g1 g2 g3 g4 => K M3 o3 F3 g1 ⟨?_, g2.2.1, g2.2.2⟩ g3 g4)
      have := g2.1
      omega
end COMP29