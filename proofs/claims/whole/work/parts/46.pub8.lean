/-! THE REFERENCE'S PUBLIC METHOD cause. -/
def fCause (A : Ab) (i k v : Int32) : Rs := match causeA A i k with
  | none => .inl 0
  | some c => match ixN v 2 with
    | none => .inl 0
    | some b => .inr ((match b with
      | 0 => c.1
      | _ => c.2.1), A)
section PUB8
variable {E : Nat × Nat} {M : Mm} {r T : Nat} {g : Nat → Int32} {A : Ab} {Q : Option Value → Mm → Prop}
theorem p_cause (hS : RS M r) (hW : WS M r) (h : Rep g A) (w : Wf T A) (hT : T + 99 < 2 ^ 20) (i k v : Int32) (kR : ∀ (rw_ : Nat) (v_ : Int32), fCause A i k v = .inl rw_ → v_ = rfN rw_ → Q (some (.int v_)) (wI (rfM M r rw_) (r + 1) g)) (kO : ∀ (a : Int32) (B : Ab), fCause A i k v = .inr (a, B) → ∀ g' : Nat → Int32, Rep g' B → Wf (T + 99) B → Q (some (.int a)) (wI M (r + 1) g')) : J E 227 0 [.ref r, .int i, .int k, .int v] [] (wI M (r + 1) g) Q := by
  have d30 := h.2.2.2.1.1
  refine J_p 3 (ls' := [_, _, _, _]) rfl ?_
  refine J_call rfl rfl rfl (decide_eq_true hS.t) rfl (c_isCause hS h i k (fun n m d c hd hc e1 e2 h3 => ?_) (fun h3 => ?_))
  · skip
    subst e1
    subst e2
    have hD := h.2.2.2.1.2.2 n d hd
    have hD5 := hD.1
    have hm5 := li hc
    have hn30 := li hd
    have hC := hD.2.2.2.2.2 m c hc
    show J _ _ _ _ _ _ _
    refine J_zeq rfl (fun b => absurd b (by decide)) (fun _ => ?_)
    refine J_p 4 (ls' := [_, _, _, _]) rfl ?_
    refine J_call rfl rfl rfl rfl rfl (c_inZ0 (x := v) (b := 1) (b1 := 2) (by decide) rfl (fun b h13 l13 e13 => ?_) (fun h13 => ?_))
    · skip
      subst e13
      show J _ _ _ _ _ _ _
      refine J_zeq rfl (fun b => absurd b (by decide)) (fun _ => ?_)
      rcases (show b = 0 ∨ b = 1 from by omega) with rfl | rfl
      · skip
        refine J_p 1 (ls' := [_, _, _, _]) rfl ?_
        refine J_getR rfl hS.t hS.f0 ?_
        refine J_p 13 (ls' := [_, _, _, _]) rfl ?_
        refine J_gld (n := 2751 + 24 * n + 4 + 4 * m + 0) rfl (by repeat' (first | with_reducible rfl | assumption | with_reducible refine nI_decE ?_ | with_reducible refine nI_addE ?_ ?_ | with_reducible refine nI_mulE ?_ ?_ | with_reducible refine nI_subE ?_ ?_ ?_ | omega | (with_reducible refine congrArg nI ?_; omega))) hS (by omega) hC.1 ?_
        refine J_p 1 (ls' := [_, _, _, _]) rfl ?_
        exact J_ret rfl rfl rfl (kO _ _ (by simp only [fCause, h3, h13, if_true, if_false, reduceIte]) g h (w.mono (by omega) hT))
      · skip
        refine J_p 1 (ls' := [_, _, _, _]) rfl ?_
        refine J_getR rfl hS.t hS.f0 ?_
        refine J_p 13 (ls' := [_, _, _, _]) rfl ?_
        refine J_gld (n := 2751 + 24 * n + 4 + 4 * m + 1) rfl (by repeat' (first | with_reducible rfl | assumption | with_reducible refine nI_decE ?_ | with_reducible refine nI_addE ?_ ?_ | with_reducible refine nI_mulE ?_ ?_ | with_reducible refine nI_subE ?_ ?_ ?_ | omega | (with_reducible refine congrArg nI ?_; omega))) hS (by omega) hC.2.1 ?_
        refine J_p 1 (ls' := [_, _, _, _]) rfl ?_
        exact J_ret rfl rfl rfl (kO _ _ (by simp only [fCause, h3, h13, if_true, if_false, reduceIte]) g h (w.mono (by omega) hT))
    · skip
      show J _ _ _ _ _ _ _
      refine J_zeq rfl (fun _ => ?_) (fun b => absurd rfl b)
      refine J_p 2 (ls' := [_, _, _, _]) rfl ?_
      refine J_call rfl rfl rfl (decide_eq_true hS.t) rfl (c_refused hS 0 (by decide) (by decide) ?_)
      show J _ _ _ _ _ _ _
      exact J_ret rfl rfl rfl (kR 0 _ (by simp only [fCause, h3, h13, if_true, if_false, reduceIte]) (by decide))
  · skip
    show J _ _ _ _ _ _ _
    refine J_zeq rfl (fun _ => ?_) (fun b => absurd rfl b)
    refine J_p 2 (ls' := [_, _, _, _]) rfl ?_
    refine J_call rfl rfl rfl (decide_eq_true hS.t) rfl (c_refused hS 0 (by decide) (by decide) ?_)
    show J _ _ _ _ _ _ _
    exact J_ret rfl rfl rfl (kR 0 _ (by simp only [fCause, h3, if_true, if_false, reduceIte]) (by decide))

end PUB8