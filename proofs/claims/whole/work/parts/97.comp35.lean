/-! THE COMPONENT: room for a new queue. -/
section COMP35
variable {E : Nat × Nat} {M M' : Mm} {Q : Option Value → Mm → Prop} {w t g a c q p i b m T : Nat} {o o' f f' : Nat → Nat} {F F' : Nat → Nat → Nat} {A : Ab} {x : Qa}
theorem c_newQueue (hS : OS M w t g o F) (hC : OC M w t g o F A) (hlt : (a_q A).length < 8) (K : Q (some (.ref (t + 4 + 25 * (a_q A).length))) (sI M w 3 (nI ((a_q A).length + 1)))) : J E 74 0 [.ref w] [] M Q := by
  refine J_p 1 (ls' := [_]) rfl ?_
  refine J_gi rfl hS.1.1 hC.2.1.1 ?_
  refine J_p 1 (ls' := [_]) rfl ?_
  refine J_ilt rfl (fun _ => ?_) (fun b => absurd (nI_lt hlt (by omega)) b)
  refine J_p 2 (ls' := [_]) rfl ?_
  refine J_gi rfl hS.1.1 hC.2.1.1 ?_
  refine J_p 2 (ls' := [_]) rfl ?_
  refine J_t0 (nI_add (a_q A).length 1) ?_
  refine J_putI rfl hS.1.1 (Or.inl rfl) ?_
  have hS1 : OS (sI M w 3 (nI ((a_q A).length + 1))) w t g o F := hS.seti
  refine J_p 1 (ls' := [_]) rfl ?_
  refine J_getR rfl hS1.1.1 hS1.1.2.2.1 ?_
  refine J_p 1 (ls' := [_]) rfl ?_
  refine J_gi (z := nI ((a_q A).length + 1)) rfl hS1.1.1 (by rw [mI_s0, if_pos rfl]) ?_
  refine J_p 2 (ls' := [_]) rfl ?_
  refine J_aald (n := (a_q A).length) rfl (nI_subE (m := (a_q A).length + 1) (n := 1) rfl rfl (by omega)) (by rw [hS1.2.2.1.1]; rfl) hS1.2.2.1.2.1 (by omega) (by omega) (hS1.2.2.1.2.2 _ hlt).1 ?_
  exact J_ret rfl rfl rfl K
theorem c_newQueue8 (hS : OS M w t g o F) (hC : OC M w t g o F A) (h8 : (a_q A).length = 8) (K : Q (some .null) M) : J E 74 0 [.ref w] [] M Q := by
  refine J_p 1 (ls' := [_]) rfl ?_
  refine J_gi rfl hS.1.1 hC.2.1.1 ?_
  refine J_p 1 (ls' := [_]) rfl ?_
  refine J_ilt rfl (fun b => absurd b (nI_nlt (by omega) (by omega))) (fun _ => ?_)
  refine J_p 1 (ls' := [_]) rfl ?_
  exact J_ret rfl rfl rfl K
end COMP35