/-! THE COMPONENT: a credit comes back, an acknowledgement, a dead one goes. -/
theorem sgD_lx {p n i b : Nat} (hp : p < n) (hn : n ≤ b) (hi : i < b) : sgD p n i < b := by
  unfold sgD
  split
  · omega
  · split <;> omega
section COMP17
variable {E : Nat × Nat} {M M' : Mm} {W : Nat → Prop} {Q : Option Value → Mm → Prop} {w t g a c q p i : Nat} {o o' f f' : Nat → Nat} {F F' : Nat → Nat → Nat} {A : Ab} {k : Co} {d : Da} {x x' : Qa} {ms : List Ma} {l : La}
theorem OS.tk (h : OS M w t g o F) (hc : c < 10) : mT M (t + 205 + c) = 1 := (h.2.2.2.1.2.2 c hc).2.1
theorem c_returnCredit (hS : OS M w t g o F) (hC : OC M w t g o F A) (hk : (a_c A)[c]? = some k) (h9 : k_cr k ≤ 9) (K : ∀ M' : Mm, Fm (fun z => z = t + 205 + c) M M' → Nw M M' → OS M' w t g o F → OC M' w t g o F (w_c A ((a_c A).set c (kMore k))) → Q none M') : J E 82 0 [.ref w, .int (nI c), U0] [] M Q := by
  have c10 : c < 10 := Nat.lt_of_lt_of_le (li hk) hC.2.2.1.2
  refine J_p 2 (ls' := [_, _, _]) rfl ?_
  refine J_call rfl rfl rfl (decide_eq_true hS.1.1) rfl (c_consumerAt hS hC (fun c' k' h1 h2 h3 h4 => ?_) (fun h => ?_))
  · show J _ _ _ _ _ _ _
    have e : c = c' := (nI_eq (by omega) (by omega)).mp h4
    subst e
    have hK := hC.kc hk
    refine J_p 2 (ls' := [_, _, .ref (t + 205 + c)]) rfl ?_
    refine J_brF rfl rfl rfl ?_
    refine J_p 2 (ls' := [_, _, _]) rfl ?_
    refine J_gi rfl (hS.tk c10) hK.2.1 ?_
    refine J_p 2 (ls' := [_, _, _]) rfl ?_
    refine J_t0 (nI_add (k_cr k) 1) ?_
    refine J_p 1 (ls' := [_, _, _]) rfl ?_
    refine J_min rfl rfl ?_
    rw [min_I (m := k_cr k + 1) (n := 9) (by omega) (by omega), Nat.min_comm]
    refine J_putI rfl (hS.tk c10) (Or.inl rfl) ?_
    have nr : ¬ rO (mT M (t + 205 + c)) := by rw [hS.tk c10]; unfold rO; omega
    have hF : Fm (fun z => z = t + 205 + c) M (sI M (t + 205 + c) 2 (nI (min 9 (k_cr k + 1)))) := Fm.sI rfl nr
    refine J_ret rfl rfl rfl (K _ hF ⟨rfl, rfl, rfl⟩ (hS.setk hF c10 (by rw [mI_s0, if_neg (by omega)])) (OC.setk hS hC hF c10 ⟨?_, ?_, ?_, ?_⟩))
    · rw [mI_s0, if_neg (by omega)]; exact hK.1
    · rw [mI_s0, if_pos rfl]; rfl
    · rw [mI_s0, if_neg (by omega)]; exact hK.2.2.1
    · rw [mI_s0, if_neg (by omega)]; exact hK.2.2.2
  · rw [ixN_nI (li hk) (by have := hC.2.2.1.2; omega)] at h
    cases h
theorem Qw.ww (hq : q < 8) {z : Nat} (h : Qw (t + 4 + 25 * q) z) : Ww w t z := by
  unfold Qw at h
  unfold Ww
  omega
theorem c_ackL (hS : OS M w t g o F) (hC : OC M w t g o F A) (hx : (a_q A)[q]? = some x) (hl : (q_ls x)[i]? = some l) (h2 : l_s l = 2) (hk : (a_c A)[l_x l]? = some k) (h9 : k_cr k ≤ 9) (K : ∀ (M' : Mm) (F' : Nat → Nat → Nat), Fm (Ww w t) M M' → Nw M M' → OS M' w t g o F' → OC M' w t g o F' (aAck A q x i (l_x l) k) → Q none M') : J E 81 0 [.ref w, .ref (t + 4 + 25 * q), .int (nI i), U0] [] M Q := by
  have q8 : q < 8 := Nat.lt_of_lt_of_le (li hx) hC.2.1.2
  have il := li hl
  have n20 := (hC.qc hx).n20
  have hQ := hS.qs q8
  have hQC := hC.qc hx
  refine J_p 2 (ls' := [_, _, _, _]) rfl ?_
  refine J_call rfl rfl rfl (decide_eq_true hQ.1) rfl (c_letterAt hQ hQC (fun j l' h1 g2 g3 g4 => ?_) (fun h => ?_))
  · show J _ _ _ _ _ _ _
    have e : i = j := (nI_eq (by omega) (by omega)).mp g4
    subst e
    have hL := hQC.l hl
    have ew : mI M (t + 4 + 25 * q + 5 + F q i) 6 = nI (l_x l) := by
      rw [hL.2.2.2.2.2.2.1]
      exact if_pos h2
    refine J_p 2 (ls' := [_, _, _, .ref (t + 4 + 25 * q + 5 + F q i)]) rfl ?_
    refine J_brF rfl rfl rfl ?_
    refine J_p 2 (ls' := [_, _, _, _]) rfl ?_
    refine J_gi rfl (hQ.t3 (by omega)) ew ?_
    refine J_call rfl rfl rfl (decide_eq_true hS.1.1) rfl (c_returnCredit hS hC hk h9 (fun M1 hF1 hN1 hS1 hC1 => ?_))
    show J _ _ _ _ _ _ _
    have hx1 : (a_q (w_c A ((a_c A).set (l_x l) (kMore k))))[q]? = some x := hx
    have c10 : l_x l < 10 := Nat.lt_of_lt_of_le (li hk) hC.2.2.1.2
    refine J_p 2 (ls' := [_, _, _, _]) rfl ?_
    refine J_call rfl rfl rfl (decide_eq_true (hS1.qs q8).1) rfl (c_removeAt (hS1.qs q8) (hC1.qc hx1) il (fun M2 f2 hF2 hN2 hQ2 hQC2 => ?_))
    show J _ _ _ _ _ _ _
    refine J_p 2 (ls' := [_, _, _, _]) rfl ?_
    refine J_gi rfl hQ2.1 hQC2.2.2.2.2.2.2.2.2.2.1 ?_
    refine J_p 2 (ls' := [_, _, _, _]) rfl ?_
    refine J_putI rfl hQ2.1 (Or.inl rfl) ?_
    have hQC3 := QC.s_ak hQ2 hQC2 (v := q_ak x + nI 1)
    have hF3 : Fm (Qw (t + 4 + 25 * q)) M2 (sI M2 (t + 4 + 25 * q) 11 (q_ak x + nI 1)) := Fm.sI ⟨by omega, by omega⟩ (hQ2.ty ⟨by omega, by omega⟩)
    have hQ3 : QS (sI M2 (t + 4 + 25 * q) 11 (q_ak x + nI 1)) (t + 4 + 25 * q) q f2 := hQ2.sm rfl (by rw [mI_s0, if_neg (by omega)]) (fun b h1 h2 => rfl)
    have hF13 := hF2.trans hF3
    have hN13 : Nw M1 (sI M2 (t + 4 + 25 * q) 11 (q_ak x + nI 1)) := hN2.trans ⟨rfl, rfl, rfl⟩
    refine J_ret rfl rfl rfl (K _ (upF F q f2) ((hF1.mono (fun z (e : z = _) => ?_)).trans (hF13.mono (fun z e => e.ww q8))) (hN1.trans hN13) (hS1.setq hF13 q8 hQ3) ?_)
    · unfold Ww
      omega
    · exact OC.setq hS1 hC1 hF13 q8 hQC3
  · rw [ixN_nI il (by omega)] at h
    cases h
end COMP17