/-! THE REFERENCE'S PUBLIC METHODS: consumer, seed. -/
section PUB4
variable {E : Nat × Nat} {M : Mm} {r T : Nat} {g : Nat → Int32} {A : Ab} {Q : Option Value → Mm → Prop}
theorem p_consumer (hS : RS M r) (hW : WS M r) (h : Rep g A) (w : Wf T A) (hT : T + 99 < 2 ^ 20) (q : Int32) (kR : ∀ (rw_ : Nat) (v_ : Int32), fConsumer A q = .inl rw_ → v_ = rfN rw_ → Q (some (.int v_)) (wI (rfM M r rw_) (r + 1) g)) (kO : ∀ (a : Int32) (B : Ab), fConsumer A q = .inr (a, B) → ∀ g' : Nat → Int32, Rep g' B → Wf (T + 99) B → Q (some (.int a)) (wI M (r + 1) g')) : J E 207 0 [.ref r, .int q, U0] [] (wI M (r + 1) g) Q := by
  obtain ⟨n, hn⟩ : ∃ n, (a_c A).length = n := ⟨_, rfl⟩
  have h1 : g 1 = nI n := by rw [← hn]; exact h.2.1.2.1
  have n10 : n ≤ 10 := by rw [← hn]; exact h.2.1.1
  refine J_p 2 (ls' := [_, _, _]) rfl ?_
  refine J_call rfl rfl rfl (decide_eq_true hS.t) rfl (c_isQ hS h q (fun j h2 l2 e2 => ?_) (fun h2 => ?_))
  · skip
    subst e2
    obtain ⟨xj, hxj⟩ := get_of l2
    have q8j : j < 8 := Nat.lt_of_lt_of_le l2 h.1.1
    have n20j := (h.1.2.2 j xj hxj).2.2.2.2.1
    have x20j := (h.1.2.2 j xj hxj).2.1.1
    have q35j := (h.1.2.2 j xj hxj).2.2.2.2.2.1
    show J _ _ _ _ _ _ _
    refine J_zne rfl (fun _ => ?_) (fun b => absurd b (by decide))
    refine J_p 1 (ls' := [_, _, _]) rfl ?_
    refine J_getR rfl hS.t hS.f0 ?_
    refine J_p 1 (ls' := [_, _, _]) rfl ?_
    refine J_gld (n := 1) rfl (by repeat' (first | with_reducible rfl | assumption | with_reducible refine nI_decE ?_ | with_reducible refine nI_addE ?_ ?_ | with_reducible refine nI_mulE ?_ ?_ | with_reducible refine nI_subE ?_ ?_ ?_ | omega | (with_reducible refine congrArg nI ?_; omega))) hS (by omega) h1 ?_
    refine J_p 3 (ls' := [_, _, _]) rfl ?_
    refine J_ine rfl (fun b25 => ?_) (fun b25 => ?_)
    · skip
      have e10 : ¬ n = 10 := fun y => b25 (by rw [y])
      refine J_p 1 (ls' := [_, _, _]) rfl ?_
      refine J_getR rfl hS.t hS.f0 ?_
      refine J_p 6 (ls' := [_, _, _]) rfl ?_
      refine J_gst (n := 11 + 4 * n) rfl (by repeat' (first | with_reducible rfl | assumption | with_reducible refine nI_decE ?_ | with_reducible refine nI_addE ?_ ?_ | with_reducible refine nI_mulE ?_ ?_ | with_reducible refine nI_subE ?_ ?_ ?_ | omega | (with_reducible refine congrArg nI ?_; omega))) hS (by omega) ?_
      refine J_p 1 (ls' := [_, _, _]) rfl ?_
      refine J_getR rfl hS.t hS.f0 ?_
      refine J_p 8 (ls' := [_, _, _]) rfl ?_
      refine J_gst (n := 11 + 4 * n + 1) rfl (by repeat' (first | with_reducible rfl | assumption | with_reducible refine nI_decE ?_ | with_reducible refine nI_addE ?_ ?_ | with_reducible refine nI_mulE ?_ ?_ | with_reducible refine nI_subE ?_ ?_ ?_ | omega | (with_reducible refine congrArg nI ?_; omega))) hS (by omega) ?_
      refine J_p 1 (ls' := [_, _, _]) rfl ?_
      refine J_getR rfl hS.t hS.f0 ?_
      refine J_p 8 (ls' := [_, _, _]) rfl ?_
      refine J_gst (n := 11 + 4 * n + 2) rfl (by repeat' (first | with_reducible rfl | assumption | with_reducible refine nI_decE ?_ | with_reducible refine nI_addE ?_ ?_ | with_reducible refine nI_mulE ?_ ?_ | with_reducible refine nI_subE ?_ ?_ ?_ | omega | (with_reducible refine congrArg nI ?_; omega))) hS (by omega) ?_
      refine J_p 1 (ls' := [_, _, _]) rfl ?_
      refine J_getR rfl hS.t hS.f0 ?_
      refine J_p 8 (ls' := [_, _, _]) rfl ?_
      refine J_gst (n := 11 + 4 * n + 3) rfl (by repeat' (first | with_reducible rfl | assumption | with_reducible refine nI_decE ?_ | with_reducible refine nI_addE ?_ ?_ | with_reducible refine nI_mulE ?_ ?_ | with_reducible refine nI_subE ?_ ?_ ?_ | omega | (with_reducible refine congrArg nI ?_; omega))) hS (by omega) ?_
      refine J_p 1 (ls' := [_, _, _]) rfl ?_
      refine J_getR rfl hS.t hS.f0 ?_
      refine J_p 4 (ls' := [_, _, _]) rfl ?_
      refine J_gst (n := 1) rfl (by repeat' (first | with_reducible rfl | assumption | with_reducible refine nI_decE ?_ | with_reducible refine nI_addE ?_ ?_ | with_reducible refine nI_mulE ?_ ?_ | with_reducible refine nI_subE ?_ ?_ ?_ | omega | (with_reducible refine congrArg nI ?_; omega))) hS (by omega) ?_
      refine J_p 1 (ls' := [_, _, _]) rfl ?_
      exact J_ret rfl rfl rfl (kO _ _ (by simp only [fConsumer, h2, hxj, hn, e10, if_true, if_false, reduceIte]) _ (by have hN := h.newC (j := j) hn (by omega); rw [← nI_add n 1] at hN; exact hN) ((w.newC l2).mono (by omega) hT))
    · skip
      have e10 : n = 10 := (nI_eq (by omega) (by omega)).mp b25
      refine J_p 2 (ls' := [_, _, _]) rfl ?_
      refine J_call rfl rfl rfl (decide_eq_true hS.t) rfl (c_refused hS 4 (by decide) (by decide) ?_)
      show J _ _ _ _ _ _ _
      exact J_ret rfl rfl rfl (kR 4 _ (by simp only [fConsumer, h2, hxj, hn, e10, if_true, if_false, reduceIte]) (by decide))
  · skip
    show J _ _ _ _ _ _ _
    refine J_zne rfl (fun b => absurd rfl b) (fun _ => ?_)
    refine J_p 2 (ls' := [_, _, _]) rfl ?_
    refine J_call rfl rfl rfl (decide_eq_true hS.t) rfl (c_refused hS 0 (by decide) (by decide) ?_)
    show J _ _ _ _ _ _ _
    exact J_ret rfl rfl rfl (kR 0 _ (by simp only [fConsumer, h2, if_true, if_false, reduceIte]) (by decide))

theorem p_seed (hS : RS M r) (hW : WS M r) (h : Rep g A) (w : Wf T A) (hT : T + 99 < 2 ^ 20) (v : Int32) (kR : ∀ (rw_ : Nat) (v_ : Int32), fSeed A v = .inl rw_ → v_ = rfN rw_ → Q (some (.int v_)) (wI (rfM M r rw_) (r + 1) g)) (kO : ∀ (a : Int32) (B : Ab), fSeed A v = .inr (a, B) → ∀ g' : Nat → Int32, Rep g' B → Wf (T + 99) B → Q (some (.int a)) (wI M (r + 1) g')) : J E 248 0 [.ref r, .int v, U0] [] (wI M (r + 1) g) Q := by
  refine J_p 1 (ls' := [_, _, _]) rfl ?_
  refine J_getR rfl hS.t hS.f0 ?_
  refine J_p 1 (ls' := [_, _, _]) rfl ?_
  refine J_gld (n := 5) rfl (by repeat' (first | with_reducible rfl | assumption | with_reducible refine nI_decE ?_ | with_reducible refine nI_addE ?_ ?_ | with_reducible refine nI_mulE ?_ ?_ | with_reducible refine nI_subE ?_ ?_ ?_ | omega | (with_reducible refine congrArg nI ?_; omega))) hS (by omega) h.2.2.2.2.2.1 ?_
  refine J_p 2 (ls' := [_, _, _]) rfl ?_
  refine J_getR rfl hS.t hS.f0 ?_
  refine J_p 2 (ls' := [_, _, _]) rfl ?_
  refine J_gst (n := 5) rfl (by repeat' (first | with_reducible rfl | assumption | with_reducible refine nI_decE ?_ | with_reducible refine nI_addE ?_ ?_ | with_reducible refine nI_mulE ?_ ?_ | with_reducible refine nI_subE ?_ ?_ ?_ | omega | (with_reducible refine congrArg nI ?_; omega))) hS (by omega) ?_
  refine J_p 1 (ls' := [_, _, _]) rfl ?_
  exact J_ret rfl rfl rfl (kO _ _ rfl _ (h.s (t := v)) (Wf.mono (Wf.seed w v) (by omega) hT))

end PUB4