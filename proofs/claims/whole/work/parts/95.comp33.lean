/-! THE COMPONENT: which queues the topic fits. -/
section COMP33
variable {E : Nat × Nat} {M M' : Mm} {Q : Option Value → Mm → Prop} {w t g a c q p i b m T : Nat} {o o' f f' : Nat → Nat} {F F' : Nat → Nat → Nat} {A : Ab} {x : Qa}
theorem c_fitting (hS : OS M w t g o F) (hC : OC M w t g o F A) (hW : Wf T A) (hT1 : 1 ≤ (a_t A).length) (K : Q (some (.int (fbI A (a_q A).length))) M) : J E 77 0 [.ref w, U0, U0] [] M Q := by
  have n8 := hC.2.1.2
  obtain ⟨txt, hTC⟩ := hC.2.2.2.2.2.2.1
  have t4 := hTC.2.1.2
  have hT := hW.2.2.2.2.2.2
  have loop : ∀ (d kk : Nat), kk + d = (a_q A).length → J E 77 4 [.ref w, .int (fbI A kk), .int (nI kk)] [] M Q := by
    intro d
    induction d with
    | zero =>
      intro kk hk
      obtain rfl : kk = (a_q A).length := by omega
      refine J_p 2 (ls' := [_, _, _]) rfl ?_
      refine J_gi rfl hS.1.1 hC.2.1.1 ?_
      refine J_ige rfl (fun _ => ?_) (fun b => absurd (nI_le (by omega) (by omega)) b)
      refine J_p 1 (ls' := [_, _, _]) rfl ?_
      exact J_ret rfl rfl rfl K
    | succ d ih =>
      intro kk hk
      obtain ⟨x, hx⟩ := get_of (l := a_q A) (i := kk) (by omega)
      obtain ⟨s1, _⟩ := hW.2.1 kk x hx
      have hQ := hS.qs (q := kk) (by omega)
      have hQC := hC.qc hx
      have hcf : covA (q_p x) (a_t A) = fitQ A kk := by
        rw [cov_fit hT hT1 t4]
        unfold fitQ
        rw [hx]
      have ef : fbI A (kk + 1) = fbI A kk ||| (if fitQ A kk = true then nI 1 <<< (nI kk &&& 31) else nI 0) := rfl
      refine J_p 2 (ls' := [_, _, _]) rfl ?_
      refine J_gi rfl hS.1.1 hC.2.1.1 ?_
      refine J_ige rfl (fun b => absurd b (nI_ge (by omega) (by omega))) (fun _ => ?_)
      refine J_p 1 (ls' := [_, _, _]) rfl ?_
      refine J_getR rfl hS.1.1 hS.1.2.2.1 ?_
      refine J_p 1 (ls' := [_, _, _]) rfl ?_
      refine J_aald (n := kk) rfl rfl (by rw [hS.2.2.1.1]; rfl) hS.2.2.1.2.1 (by omega) (by omega) (hS.2.2.1.2.2 kk (by omega)).1 ?_
      refine J_getR rfl hQ.1 hQ.2.2.1 ?_
      refine J_p 1 (ls' := [_, _, _]) rfl ?_
      refine J_getR rfl hS.1.1 hS.1.2.2.2.2.2 ?_
      refine J_call rfl rfl rfl (decide_eq_true hQ.2.2.2.2.1.1) rfl (c_takesAll hQ.2.2.2.2.1 hQC.1 hS.2.1 hTC s1.2 hT.p s1.1 hT1 (fun z => ?_) (fun z => ?_))
      · show J _ _ _ _ _ _ _
        rw [hcf] at z
        rw [if_pos z] at ef
        refine J_zeq rfl (fun b => absurd b (by decide)) (fun _ => ?_)
        refine J_p 5 (ls' := [_, _, _]) rfl ?_
        refine J_t0 ef.symm ?_
        refine J_p 3 (ls' := [_, _, _]) rfl ?_
        rw [nI_add kk 1]
        exact ih (kk + 1) (by omega)
      · show J _ _ _ _ _ _ _
        rw [hcf] at z
        rw [if_neg (by rw [z]; decide)] at ef
        have e0 : fbI A (kk + 1) = fbI A kk := ef.trans Int32.or_zero
        refine J_zeq rfl (fun _ => ?_) (fun b => absurd rfl b)
        refine J_p 2 (ls' := [_, _, _]) rfl ?_
        rw [nI_add kk 1, ← e0]
        exact ih (kk + 1) (by omega)
  refine J_p 4 (ls' := [_, _, _]) rfl ?_
  exact loop (a_q A).length 0 (by omega)
end COMP33