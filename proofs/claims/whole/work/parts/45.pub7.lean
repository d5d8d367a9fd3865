/-! THE REFERENCE: is there such a cause. -/
section PUB7
variable {E : Nat × Nat} {M : Mm} {r T : Nat} {g : Nat → Int32} {A : Ab} {Q : Option Value → Mm → Prop}
theorem c_isCause (hS : RS M r) (h : Rep g A) (i k : Int32) (kt : ∀ (n m : Nat) (d : Da) (c : Ca), (a_d A)[n]? = some d → (d_c d)[m]? = some c → i = nI n → k = nI m → causeA A i k = some c → Q (some (.int (nI 1))) (wI M (r + 1) g)) (kf : causeA A i k = none → Q (some (.int (nI 0))) (wI M (r + 1) g)) : J E 226 0 [.ref r, .int i, .int k] [] (wI M (r + 1) g) Q := by
  have d30 := h.2.2.2.1.1
  refine J_p 4 (ls' := [_, _, _]) rfl ?_
  refine J_getR rfl hS.t hS.f0 ?_
  refine J_p 1 (ls' := [_, _, _]) rfl ?_
  refine J_gld (n := 3) rfl (by repeat' (first | with_reducible rfl | assumption | with_reducible refine nI_decE ?_ | with_reducible refine nI_addE ?_ ?_ | with_reducible refine nI_mulE ?_ ?_ | with_reducible refine nI_subE ?_ ?_ ?_ | omega | (with_reducible refine congrArg nI ?_; omega))) hS (by omega) h.2.2.2.1.2.1 ?_
  refine J_p 3 (ls' := [_, _, _]) rfl ?_
  refine J_call rfl rfl rfl rfl rfl (c_inX (x := i) (n := (a_d A).length) (by omega) (fun n h12 l12 e12 => ?_) (fun h12 => ?_))
  · skip
    subst e12
    obtain ⟨d, hd⟩ := get_of l12
    have hD := h.2.2.2.1.2.2 n d hd
    have hD5 := hD.1
    show J _ _ _ _ _ _ _
    refine J_zeq rfl (fun b => absurd b (by decide)) (fun _ => ?_)
    refine J_p 4 (ls' := [_, _, _]) rfl ?_
    refine J_getR rfl hS.t hS.f0 ?_
    refine J_p 7 (ls' := [_, _, _]) rfl ?_
    refine J_gld (n := 2751 + 24 * n + 3) rfl (by repeat' (first | with_reducible rfl | assumption | with_reducible refine nI_decE ?_ | with_reducible refine nI_addE ?_ ?_ | with_reducible refine nI_mulE ?_ ?_ | with_reducible refine nI_subE ?_ ?_ ?_ | omega | (with_reducible refine congrArg nI ?_; omega))) hS (by omega) hD.2.2.2.2.1 ?_
    refine J_p 3 (ls' := [_, _, _]) rfl ?_
    refine J_call rfl rfl rfl rfl rfl (c_inX (x := k) (n := (d_c d).length) (by omega) (fun m h39 l39 e39 => ?_) (fun h39 => ?_))
    · skip
      subst e39
      obtain ⟨c, hc⟩ := get_of l39
      show J _ _ _ _ _ _ _
      refine J_zeq rfl (fun b => absurd b (by decide)) (fun _ => ?_)
      refine J_p 2 (ls' := [_, _, _]) rfl ?_
      exact J_retB rfl (by decide) (kt n m d c hd hc rfl rfl (by simp only [causeA, h12, hd, h39, hc]))
    · skip
      show J _ _ _ _ _ _ _
      refine J_zeq rfl (fun _ => ?_) (fun b => absurd rfl b)
      refine J_p 1 (ls' := [_, _, _]) rfl ?_
      exact J_retB rfl (by decide) (kf (by simp only [causeA, h12, hd, h39]))
  · skip
    show J _ _ _ _ _ _ _
    refine J_zeq rfl (fun _ => ?_) (fun b => absurd rfl b)
    refine J_p 1 (ls' := [_, _, _]) rfl ?_
    exact J_retB rfl (by decide) (kf (by simp only [causeA, h12]))

end PUB7