/-! THE REFERENCE'S PUBLIC METHODS: giveAll, dead. -/
def fGiveAll (A : Ab) (q : Int32) : Rs := match ixN q (a_q A).length with
  | none => .inl 0
  | some j => .inr (nI (giveAllA 21 A j).2, (giveAllA 21 A j).1)
section PUB6
variable {E : Nat × Nat} {M : Mm} {r T : Nat} {g : Nat → Int32} {A : Ab} {Q : Option Value → Mm → Prop}
theorem p_giveAll (hS : RS M r) (hW : WS M r) (h : Rep g A) (w : Wf T A) (hT : T + 99 < 2 ^ 20) (q : Int32) (kR : ∀ (rw_ : Nat) (v_ : Int32), fGiveAll A q = .inl rw_ → v_ = rfN rw_ → Q (some (.int v_)) (wI (rfM M r rw_) (r + 1) g)) (kO : ∀ (a : Int32) (B : Ab), fGiveAll A q = .inr (a, B) → ∀ g' : Nat → Int32, Rep g' B → Wf (T + 99) B → Q (some (.int a)) (wI M (r + 1) g')) : J E 199 0 [.ref r, .int q, U0] [] (wI M (r + 1) g) Q := by
  refine J_p 2 (ls' := [_, _, _]) rfl ?_
  refine J_call rfl rfl rfl (decide_eq_true hS.t) rfl (c_isQ hS h q (fun j h2 l2 e2 => ?_) (fun h2 => ?_))
  · skip
    subst e2
    obtain ⟨xj, hxj⟩ := get_of l2
    have q8j : j < 8 := Nat.lt_of_lt_of_le l2 h.1.1
    have n20j := (h.1.2.2 j xj hxj).2.2.2.2.1
    have x20j := (h.1.2.2 j xj hxj).2.1.1
    have q35j := (h.1.2.2 j xj hxj).2.2.2.2.2.1
    show J _ _ _ _ _ _ _
    refine J_zne rfl (fun _ => ?_) (fun b => absurd b (by decide))
    refine J_p 2 (ls' := [_, _, _]) rfl ?_
    refine c_giveAll_l (E := E) hS 21 A g 0 xj h w hxj (Nat.lt_succ_of_le (rdyN_le h hxj)) (fun g' hr w' => ?_)
    rw [Nat.zero_add]
    exact kO _ _ (by simp only [fGiveAll, h2]) g' hr (w'.mono (by omega) hT)
  · skip
    show J _ _ _ _ _ _ _
    refine J_zne rfl (fun b => absurd rfl b) (fun _ => ?_)
    refine J_p 2 (ls' := [_, _, _]) rfl ?_
    refine J_call rfl rfl rfl (decide_eq_true hS.t) rfl (c_refused hS 0 (by decide) (by decide) ?_)
    show J _ _ _ _ _ _ _
    exact J_ret rfl rfl rfl (kR 0 _ (by simp only [fGiveAll, h2, if_true, if_false, reduceIte]) (by decide))

theorem p_dead (hS : RS M r) (hW : WS M r) (h : Rep g A) (w : Wf T A) (hT : T + 99 < 2 ^ 20) (i v : Int32) (kR : ∀ (rw_ : Nat) (v_ : Int32), fDead A i v = .inl rw_ → v_ = rfN rw_ → Q (some (.int v_)) (wI (rfM M r rw_) (r + 1) g)) (kO : ∀ (a : Int32) (B : Ab), fDead A i v = .inr (a, B) → ∀ g' : Nat → Int32, Rep g' B → Wf (T + 99) B → Q (some (.int a)) (wI M (r + 1) g')) : J E 225 0 [.ref r, .int i, .int v] [] (wI M (r + 1) g) Q := by
  have d30 := h.2.2.2.1.1
  refine J_p 4 (ls' := [_, _, _]) rfl ?_
  refine J_getR rfl hS.t hS.f0 ?_
  refine J_p 1 (ls' := [_, _, _]) rfl ?_
  refine J_gld (n := 3) rfl (by repeat' (first | with_reducible rfl | assumption | with_reducible refine nI_decE ?_ | with_reducible refine nI_addE ?_ ?_ | with_reducible refine nI_mulE ?_ ?_ | with_reducible refine nI_subE ?_ ?_ ?_ | omega | (with_reducible refine congrArg nI ?_; omega))) hS (by omega) h.2.2.2.1.2.1 ?_
  refine J_p 3 (ls' := [_, _, _]) rfl ?_
  refine J_call rfl rfl rfl rfl rfl (c_inX (x := i) (n := (a_d A).length) (by omega) (fun n h12 l12 e12 => ?_) (fun h12 => ?_))
  · skip
    subst e12
    obtain ⟨d, hd⟩ := get_of l12
    have hD := h.2.2.2.1.2.2 n d hd
    show J _ _ _ _ _ _ _
    refine J_zeq rfl (fun b => absurd b (by decide)) (fun _ => ?_)
    refine J_p 4 (ls' := [_, _, _]) rfl ?_
    refine J_call rfl rfl rfl rfl rfl (c_inZ0 (x := v) (b := 3) (b1 := 4) (by decide) rfl (fun b h24 l24 e24 => ?_) (fun h24 => ?_))
    · skip
      subst e24
      show J _ _ _ _ _ _ _
      refine J_zeq rfl (fun b => absurd b (by decide)) (fun _ => ?_)
      rcases (show b = 0 ∨ b = 1 ∨ b = 2 ∨ b = 3 from by omega) with rfl | rfl | rfl | rfl
      · skip
        refine J_p 1 (ls' := [_, _, _]) rfl ?_
        refine J_getR rfl hS.t hS.f0 ?_
        refine J_p 7 (ls' := [_, _, _]) rfl ?_
        refine J_gld (n := 2751 + 24 * n + 0) rfl (by repeat' (first | with_reducible rfl | assumption | with_reducible refine nI_decE ?_ | with_reducible refine nI_addE ?_ ?_ | with_reducible refine nI_mulE ?_ ?_ | with_reducible refine nI_subE ?_ ?_ ?_ | omega | (with_reducible refine congrArg nI ?_; omega))) hS (by omega) hD.2.1 ?_
        refine J_p 1 (ls' := [_, _, _]) rfl ?_
        exact J_ret rfl rfl rfl (kO _ _ (by simp only [fDead, h12, hd, h24, if_true, if_false, reduceIte]) g h (w.mono (by omega) hT))
      · skip
        refine J_p 1 (ls' := [_, _, _]) rfl ?_
        refine J_getR rfl hS.t hS.f0 ?_
        refine J_p 7 (ls' := [_, _, _]) rfl ?_
        refine J_gld (n := 2751 + 24 * n + 1) rfl (by repeat' (first | with_reducible rfl | assumption | with_reducible refine nI_decE ?_ | with_reducible refine nI_addE ?_ ?_ | with_reducible refine nI_mulE ?_ ?_ | with_reducible refine nI_subE ?_ ?_ ?_ | omega | (with_reducible refine congrArg nI ?_; omega))) hS (by omega) hD.2.2.1 ?_
        refine J_p 1 (ls' := [_, _, _]) rfl ?_
        exact J_ret rfl rfl rfl (kO _ _ (by simp only [fDead, h12, hd, h24, if_true, if_false, reduceIte]) g h (w.mono (by omega) hT))
      · skip
        refine J_p 1 (ls' := [_, _, _]) rfl ?_
        refine J_getR rfl hS.t hS.f0 ?_
        refine J_p 7 (ls' := [_, _, _]) rfl ?_
        refine J_gld (n := 2751 + 24 * n + 2) rfl (by repeat' (first | with_reducible rfl | assumption | with_reducible refine nI_decE ?_ | with_reducible refine nI_addE ?_ ?_ | with_reducible refine nI_mulE ?_ ?_ | with_reducible refine nI_subE ?_ ?_ ?_ | omega | (with_reducible refine congrArg nI ?_; omega))) hS (by omega) hD.2.2.2.1 ?_
        refine J_p 1 (ls' := [_, _, _]) rfl ?_
        exact J_ret rfl rfl rfl (kO _ _ (by simp only [fDead, h12, hd, h24, if_true, if_false, reduceIte]) g h (w.mono (by omega) hT))
      · skip
        refine J_p 1 (ls' := [_, _, _]) rfl ?_
        refine J_getR rfl hS.t hS.f0 ?_
        refine J_p 7 (ls' := [_, _, _]) rfl ?_
        refine J_gld (n := 2751 + 24 * n + 3) rfl (by repeat' (first | with_reducible rfl | assumption | with_reducible refine nI_decE ?_ | with_reducible refine nI_addE ?_ ?_ | with_reducible refine nI_mulE ?_ ?_ | with_reducible refine nI_subE ?_ ?_ ?_ | omega | (with_reducible refine congrArg nI ?_; omega))) hS (by omega) hD.2.2.2.2.1 ?_
        refine J_p 1 (ls' := [_, _, _]) rfl ?_
        exact J_ret rfl rfl rfl (kO _ _ (by simp only [fDead, h12, hd, h24, if_true, if_false, reduceIte]) g h (w.mono (by omega) hT))
    · skip
      show J _ _ _ _ _ _ _
      refine J_zeq rfl (fun _ => ?_) (fun b => absurd rfl b)
      refine J_p 2 (ls' := [_, _, _]) rfl ?_
      refine J_call rfl rfl rfl (decide_eq_true hS.t) rfl (c_refused hS 0 (by decide) (by decide) ?_)
      show J _ _ _ _ _ _ _
      exact J_ret rfl rfl rfl (kR 0 _ (by simp only [fDead, h12, hd, h24, if_true, if_false, reduceIte]) (by decide))
  · skip
    show J _ _ _ _ _ _ _
    refine J_zeq rfl (fun _ => ?_) (fun b => absurd rfl b)
    refine J_p 2 (ls' := [_, _, _]) rfl ?_
    refine J_call rfl rfl rfl (decide_eq_true hS.t) rfl (c_refused hS 0 (by decide) (by decide) ?_)
    show J _ _ _ _ _ _ _
    exact J_ret rfl rfl rfl (kR 0 _ (by simp only [fDead, h12, if_true, if_false, reduceIte]) (by decide))

end PUB6