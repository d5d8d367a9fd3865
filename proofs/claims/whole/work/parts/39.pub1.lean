/-! THE REFERENCE'S PUBLIC METHODS: give, pass. -/
def fGive (A : Ab) (q : Int32) : Rs := match ixN q (a_q A).length with
  | none => .inl 0
  | some j => match giveA A j with
    | none => .inr (-1, A)
    | some p => .inr (nI p.2, p.1)
def fPass (A : Ab) (n : Int32) : Rs := match ixN n 100 with
  | none => .inl 0
  | some j => .inr (nI (passA j A).2, (passA j A).1)
section PUB1
variable {E : Nat × Nat} {M : Mm} {r T : Nat} {g : Nat → Int32} {A : Ab} {Q : Option Value → Mm → Prop}
theorem p_give (hS : RS M r) (hW : WS M r) (h : Rep g A) (w : Wf T A) (hT : T + 99 < 2 ^ 20) (q : Int32) (kR : ∀ (rw_ : Nat) (v_ : Int32), fGive A q = .inl rw_ → v_ = rfN rw_ → Q (some (.int v_)) (wI (rfM M r rw_) (r + 1) g)) (kO : ∀ (a : Int32) (B : Ab), fGive A q = .inr (a, B) → ∀ g' : Nat → Int32, Rep g' B → Wf (T + 99) B → Q (some (.int a)) (wI M (r + 1) g')) : J E 198 0 [.ref r, .int q] [] (wI M (r + 1) g) Q := by
  refine J_p 2 (ls' := [_, _]) rfl ?_
  refine J_call rfl rfl rfl (decide_eq_true hS.t) rfl (c_isQ hS h q (fun j h2 l2 e2 => ?_) (fun h2 => ?_))
  · skip
    subst e2
    obtain ⟨xj, hxj⟩ := get_of l2
    have q8j : j < 8 := Nat.lt_of_lt_of_le l2 h.1.1
    have n20j := (h.1.2.2 j xj hxj).2.2.2.2.1
    have x20j := (h.1.2.2 j xj hxj).2.1.1
    have q35j := (h.1.2.2 j xj hxj).2.2.2.2.2.1
    show J _ _ _ _ _ _ _
    refine J_zeq rfl (fun b => absurd b (by decide)) (fun _ => ?_)
    refine J_p 2 (ls' := [_, _]) rfl ?_
    refine J_call rfl rfl rfl (decide_eq_true hS.t) rfl (c_givesA hS h w hxj (fun hg => ?_) (fun B m hg hm g' hr => ?_))
    · skip
      show J _ _ _ _ _ _ _
      refine J_p 1 (ls' := [_, _]) rfl ?_
      exact J_ret rfl rfl rfl (kO _ _ (by simp only [fGive, h2, hxj, hg, if_true, if_false, reduceIte]) g h (w.mono (by omega) hT))
    · skip
      show J _ _ _ _ _ _ _
      refine J_p 1 (ls' := [_, _]) rfl ?_
      exact J_ret rfl rfl rfl (kO _ _ (by simp only [fGive, h2, hxj, hg, if_true, if_false, reduceIte]) g' hr ((w.giv hg hxj).mono (by omega) hT))
  · skip
    show J _ _ _ _ _ _ _
    refine J_zeq rfl (fun _ => ?_) (fun b => absurd rfl b)
    refine J_p 2 (ls' := [_, _]) rfl ?_
    refine J_call rfl rfl rfl (decide_eq_true hS.t) rfl (c_refused hS 0 (by decide) (by decide) ?_)
    show J _ _ _ _ _ _ _
    exact J_ret rfl rfl rfl (kR 0 _ (by simp only [fGive, h2, if_true, if_false, reduceIte]) (by decide))

theorem c_inZ0 {x : Int32} {b b1 : Nat} {M : Mm} (hb : b < 2 ^ 31) (hb1 : b1 = b + 1) (kt : ∀ j, ixN x b1 = some j → j < b1 → x = nI j → Q (some (.int (nI 1))) M) (kf : ixN x b1 = none → Q (some (.int (nI 0))) M) : J E 159 0 [.long x.toInt64, U0, .long (lN 0), U0, .long (lN b), U0] [] M Q := by
  subst hb1
  refine c_inZ (by decide) hb (fun e => ?_) (fun e => ?_)
  · unfold inZ at e
    cases e' : ixN x (b + 1) with
    | none => exact absurd (ixN_none e') (fun y => y ⟨by omega, by omega⟩)
    | some j =>
      obtain ⟨h1, h2, _⟩ := ixN_some e'
      exact kt j e' h1 h2
  · unfold inZ at e
    cases e' : ixN x (b + 1) with
    | none => exact kf e'
    | some j =>
      obtain ⟨h1, h2, h3⟩ := ixN_some e'
      exact absurd (show _ ∧ _ from ⟨by omega, by omega⟩) e
theorem p_pass (hS : RS M r) (hW : WS M r) (h : Rep g A) (w : Wf T A) (hT : T + 99 < 2 ^ 20) (n : Int32) (kR : ∀ (rw_ : Nat) (v_ : Int32), fPass A n = .inl rw_ → v_ = rfN rw_ → Q (some (.int v_)) (wI (rfM M r rw_) (r + 1) g)) (kO : ∀ (a : Int32) (B : Ab), fPass A n = .inr (a, B) → ∀ g' : Nat → Int32, Rep g' B → Wf (T + 99) B → Q (some (.int a)) (wI M (r + 1) g')) : J E 212 0 [.ref r, .int n] [] (wI M (r + 1) g) Q := by
  refine J_p 4 (ls' := [_, _]) rfl ?_
  refine J_call rfl rfl rfl rfl rfl (c_inZ0 (x := n) (b := 99) (b1 := 100) (by decide) rfl (fun j h6 l6 e6 => ?_) (fun h6 => ?_))
  · skip
    subst e6
    show J _ _ _ _ _ _ _
    refine J_zeq rfl (fun b => absurd b (by decide)) (fun _ => ?_)
    refine J_p 2 (ls' := [_, _]) rfl ?_
    refine J_call rfl rfl rfl (decide_eq_true hS.t) rfl (c_passes hS hW (n := j) (by omega) h w (by omega) (fun g' hr w' => ?_))
    show J _ _ _ _ _ _ _
    refine J_p 1 (ls' := [_, _]) rfl ?_
    exact J_ret rfl rfl rfl (kO _ _ (by simp only [fPass, h6, if_true, if_false, reduceIte]) g' hr (w'.mono (by omega) hT))
  · skip
    show J _ _ _ _ _ _ _
    refine J_zeq rfl (fun _ => ?_) (fun b => absurd rfl b)
    refine J_p 2 (ls' := [_, _]) rfl ?_
    refine J_call rfl rfl rfl (decide_eq_true hS.t) rfl (c_refused hS 0 (by decide) (by decide) ?_)
    show J _ _ _ _ _ _ _
    exact J_ret rfl rfl rfl (kR 0 _ (by simp only [fPass, h6, if_true, if_false, reduceIte]) (by decide))

end PUB1