/-! THE REFERENCE'S PUBLIC METHOD consumerOf. -/
def coA (k : Co) (x : Qa) (j : Nat) : Nat → Int32
  | 0 => nI (k_q k)
  | 1 => nI (k_cr k)
  | 2 => nI (cnA (outB (q_ls x) j) (q_ls x).length)
  | 3 => nI (k_lf k)
  | _ => k_gt k
def fConsumerOf (A : Ab) (c v : Int32) : Rs := match ixN c (a_c A).length with
  | none => .inl 0
  | some j => match ixN v 5 with
    | none => .inl 0
    | some b => match (a_c A)[j]? with
      | none => .inl 0
      | some k => match (a_q A)[k_q k]? with
        | none => .inl 0
        | some x => .inr (coA k x j b, A)
section PUB9
variable {E : Nat × Nat} {M : Mm} {r T : Nat} {g : Nat → Int32} {A : Ab} {Q : Option Value → Mm → Prop}
theorem p_consumerOf (hS : RS M r) (hW : WS M r) (h : Rep g A) (w : Wf T A) (hT : T + 99 < 2 ^ 20) (c v : Int32) (kR : ∀ (rw_ : Nat) (v_ : Int32), fConsumerOf A c v = .inl rw_ → v_ = rfN rw_ → Q (some (.int v_)) (wI (rfM M r rw_) (r + 1) g)) (kO : ∀ (a : Int32) (B : Ab), fConsumerOf A c v = .inr (a, B) → ∀ g' : Nat → Int32, Rep g' B → Wf (T + 99) B → Q (some (.int a)) (wI M (r + 1) g')) : J E 222 0 [.ref r, .int c, .int v] [] (wI M (r + 1) g) Q := by
  refine J_p 2 (ls' := [_, _, _]) rfl ?_
  refine J_call rfl rfl rfl (decide_eq_true hS.t) rfl (c_isC hS h c (fun j h2 l2 e2 => ?_) (fun h2 => ?_))
  · skip
    subst e2
    obtain ⟨k, hk⟩ := get_of l2
    have c10 : j < 10 := Nat.lt_of_lt_of_le l2 h.2.1.1
    have hK := h.2.1.2.2 j k hk
    obtain ⟨x, hx⟩ := get_of (w.2.2.1 j k hk).1
    have q8 : k_q k < 8 := Nat.lt_of_lt_of_le (li hx) h.1.1
    show J _ _ _ _ _ _ _
    refine J_zeq rfl (fun b => absurd b (by decide)) (fun _ => ?_)
    refine J_p 4 (ls' := [_, _, _]) rfl ?_
    refine J_call rfl rfl rfl rfl rfl (c_inZ0 (x := v) (b := 4) (b1 := 5) (by decide) rfl (fun b h14 l14 e14 => ?_) (fun h14 => ?_))
    · skip
      subst e14
      show J _ _ _ _ _ _ _
      refine J_zne rfl (fun _ => ?_) (fun b => absurd b (by decide))
      rcases (show b = 0 ∨ b = 1 ∨ b = 2 ∨ b = 3 ∨ b = 4 from by omega) with rfl | rfl | rfl | rfl | rfl
      · skip
        refine J_p 1 (ls' := [_, _, _]) rfl ?_
        refine J_sw1 rfl rfl rfl ?_
        refine J_p 3 (ls' := [_, _, _]) rfl ?_
        refine J_call rfl rfl rfl (decide_eq_true hS.t) rfl (c_ofConsumer hS j 0 (by omega) hK.1 ?_)
        show J _ _ _ _ _ _ _
        exact J_ret rfl rfl rfl (kO _ _ (by simp only [fConsumerOf, h2, hk, hx, h14, if_true, if_false, reduceIte, coA]) g h (w.mono (by omega) hT))
      · skip
        refine J_p 1 (ls' := [_, _, _]) rfl ?_
        refine J_sw1 rfl rfl rfl ?_
        refine J_p 3 (ls' := [_, _, _]) rfl ?_
        refine J_call rfl rfl rfl (decide_eq_true hS.t) rfl (c_ofConsumer hS j 1 (by omega) hK.2.1 ?_)
        show J _ _ _ _ _ _ _
        exact J_ret rfl rfl rfl (kO _ _ (by simp only [fConsumerOf, h2, hk, hx, h14, if_true, if_false, reduceIte, coA]) g h (w.mono (by omega) hT))
      · skip
        refine J_p 1 (ls' := [_, _, _]) rfl ?_
        refine J_sw1 rfl rfl rfl ?_
        refine J_p 2 (ls' := [_, _, _]) rfl ?_
        have e0 := h.outN w hx c10
        refine J_call rfl rfl rfl (decide_eq_true hS.t) rfl (c_outOf hS c10 q8 (h.1.2.2 _ x hx).2.2.2.2.1 (h.1.2.2 _ x hx).2.2.2.2.2.1 hK.1 ?_)
        rw [e0]
        show J _ _ _ _ _ _ _
        exact J_ret rfl rfl rfl (kO _ _ (by simp only [fConsumerOf, h2, hk, hx, h14, if_true, if_false, reduceIte, coA]) g h (w.mono (by omega) hT))
      · skip
        refine J_p 1 (ls' := [_, _, _]) rfl ?_
        refine J_sw1 rfl rfl rfl ?_
        refine J_p 3 (ls' := [_, _, _]) rfl ?_
        refine J_call rfl rfl rfl (decide_eq_true hS.t) rfl (c_ofConsumer hS j 2 (by omega) hK.2.2.1 ?_)
        show J _ _ _ _ _ _ _
        exact J_ret rfl rfl rfl (kO _ _ (by simp only [fConsumerOf, h2, hk, hx, h14, if_true, if_false, reduceIte, coA]) g h (w.mono (by omega) hT))
      · skip
        refine J_p 1 (ls' := [_, _, _]) rfl ?_
        refine J_sw1 rfl rfl rfl ?_
        refine J_p 3 (ls' := [_, _, _]) rfl ?_
        refine J_call rfl rfl rfl (decide_eq_true hS.t) rfl (c_ofConsumer hS j 3 (by omega) hK.2.2.2 ?_)
        show J _ _ _ _ _ _ _
        exact J_ret rfl rfl rfl (kO _ _ (by simp only [fConsumerOf, h2, hk, hx, h14, if_true, if_false, reduceIte, coA]) g h (w.mono (by omega) hT))
    · skip
      show J _ _ _ _ _ _ _
      refine J_zne rfl (fun b => absurd rfl b) (fun _ => ?_)
      refine J_p 2 (ls' := [_, _, _]) rfl ?_
      refine J_call rfl rfl rfl (decide_eq_true hS.t) rfl (c_refused hS 0 (by decide) (by decide) ?_)
      show J _ _ _ _ _ _ _
      exact J_ret rfl rfl rfl (kR 0 _ (by simp only [fConsumerOf, h2, hk, hx, h14, if_true, if_false, reduceIte]) (by decide))
  · skip
    show J _ _ _ _ _ _ _
    refine J_zeq rfl (fun _ => ?_) (fun b => absurd rfl b)
    refine J_p 2 (ls' := [_, _, _]) rfl ?_
    refine J_call rfl rfl rfl (decide_eq_true hS.t) rfl (c_refused hS 0 (by decide) (by decide) ?_)
    show J _ _ _ _ _ _ _
    exact J_ret rfl rfl rfl (kR 0 _ (by simp only [fConsumerOf, h2, if_true, if_false, reduceIte]) (by decide))

end PUB9