/-! THE REFERENCE'S PUBLIC METHODS: exclusive, queueOf, letter, pattern, next. -/
def fExclusive (A : Ab) (q v : Int32) : Rs := match ixN q (a_q A).length with
  | none => .inl 0
  | some j => match ixN v 2 with
    | none => .inl 0
    | some b => match (a_q A)[j]? with
      | none => .inl 0
      | some x => .inr (nI (q_ex x), w_q A ((a_q A).set j (x_ex x b)))
def qoA (A : Ab) (j : Nat) (x : Qa) : Nat → Int32
  | 0 => nI (q_ls x).length
  | 1 => nI (cnA (stB (q_ls x) 0) (q_ls x).length)
  | 2 => nI (cnA (stB (q_ls x) 1) (q_ls x).length)
  | 3 => nI (cnA (stB (q_ls x) 2) (q_ls x).length)
  | 4 => nI (cnA (mayA (a_m A) (q_ls x)) (q_ls x).length)
  | 5 => nI (cnA (atA (a_c A) j) (a_c A).length)
  | 6 => nI (suA (fun c => if atA (a_c A) j c = true then crA (a_c A) c else 0) (a_c A).length)
  | 7 => nI (q_ex x)
  | 8 => q_gv x
  | 9 => q_ak x
  | _ => q_di x
def fQueueOf (A : Ab) (q v : Int32) : Rs := match ixN q (a_q A).length with
  | none => .inl 0
  | some j => match ixN v 11 with
    | none => .inl 0
    | some b => match (a_q A)[j]? with
      | none => .inl 0
      | some x => .inr (qoA A j x b, A)
def loA (l : La) : Nat → Int32
  | 0 => nI (l_m l)
  | 1 => nI (l_s l)
  | 2 => nI (l_c l).length
  | 3 => whoI l
  | _ => tillI l
def fLetter (A : Ab) (q i v : Int32) : Rs := match ixN q (a_q A).length with
  | none => .inl 0
  | some j => match ixN v 5 with
    | none => .inl 0
    | some b => match (a_q A)[j]? with
      | none => .inl 0
      | some x => match ixN i (q_ls x).length with
        | none => .inl 0
        | some n => match (q_ls x)[n]? with
          | none => .inl 0
          | some l => .inr (loA l b, A)
def fPattern (A : Ab) (q i : Int32) : Rs := match ixN q (a_q A).length with
  | none => .inl 0
  | some j => match (a_q A)[j]? with
    | none => .inl 0
    | some x => match ixN i (q_x x).length with
      | none => .inr (-1, A)
      | some n => match (q_x x)[n]? with
        | none => .inl 0
        | some c => .inr (c, A)
section PUB2
variable {E : Nat × Nat} {M : Mm} {r T : Nat} {g : Nat → Int32} {A : Ab} {Q : Option Value → Mm → Prop}
theorem p_exclusive (hS : RS M r) (hW : WS M r) (h : Rep g A) (w : Wf T A) (hT : T + 99 < 2 ^ 20) (q v : Int32) (kR : ∀ (rw_ : Nat) (v_ : Int32), fExclusive A q v = .inl rw_ → v_ = rfN rw_ → Q (some (.int v_)) (wI (rfM M r rw_) (r + 1) g)) (kO : ∀ (a : Int32) (B : Ab), fExclusive A q v = .inr (a, B) → ∀ g' : Nat → Int32, Rep g' B → Wf (T + 99) B → Q (some (.int a)) (wI M (r + 1) g')) : J E 206 0 [.ref r, .int q, .int v, U0] [] (wI M (r + 1) g) Q := by
  refine J_p 2 (ls' := [_, _, _, _]) rfl ?_
  refine J_call rfl rfl rfl (decide_eq_true hS.t) rfl (c_isQ hS h q (fun j h2 l2 e2 => ?_) (fun h2 => ?_))
  · skip
    subst e2
    obtain ⟨xj, hxj⟩ := get_of l2
    have q8j : j < 8 := Nat.lt_of_lt_of_le l2 h.1.1
    have n20j := (h.1.2.2 j xj hxj).2.2.2.2.1
    have x20j := (h.1.2.2 j xj hxj).2.1.1
    have q35j := (h.1.2.2 j xj hxj).2.2.2.2.2.1
    show J _ _ _ _ _ _ _
    refine J_zeq rfl (fun b => absurd b (by decide)) (fun _ => ?_)
    refine J_p 4 (ls' := [_, _, _, _]) rfl ?_
    refine J_call rfl rfl rfl rfl rfl (c_inZ0 (x := v) (b := 1) (b1 := 2) (by decide) rfl (fun b h12 l12 e12 => ?_) (fun h12 => ?_))
    · skip
      subst e12
      show J _ _ _ _ _ _ _
      refine J_zne rfl (fun _ => ?_) (fun b => absurd b (by decide))
      refine J_p 3 (ls' := [_, _, _, _]) rfl ?_
      refine J_call rfl rfl rfl (decide_eq_true hS.t) rfl (c_of hS j 30 (by omega) (h.1.2.2 j xj hxj).2.2.1.2.2.2.2.1 ?_)
      show J _ _ _ _ _ _ _
      refine J_p 5 (ls' := [_, _, _, _]) rfl ?_
      refine J_call rfl rfl rfl (decide_eq_true hS.t) rfl (c_is hS j 30 _ (by omega) ?_)
      show J _ _ _ _ _ _ _
      refine J_p 1 (ls' := [_, _, _, _]) rfl ?_
      exact J_ret rfl rfl rfl (kO _ _ (by simp only [fExclusive, h2, hxj, h12, if_true, if_false, reduceIte]) _ (h.ex hxj b) ((w.ex hxj (by omega)).mono (by omega) hT))
    · skip
      show J _ _ _ _ _ _ _
      refine J_zne rfl (fun b => absurd rfl b) (fun _ => ?_)
      refine J_p 2 (ls' := [_, _, _, _]) rfl ?_
      refine J_call rfl rfl rfl (decide_eq_true hS.t) rfl (c_refused hS 0 (by decide) (by decide) ?_)
      show J _ _ _ _ _ _ _
      exact J_ret rfl rfl rfl (kR 0 _ (by simp only [fExclusive, h2, hxj, h12, if_true, if_false, reduceIte]) (by decide))
  · skip
    show J _ _ _ _ _ _ _
    refine J_zeq rfl (fun _ => ?_) (fun b => absurd rfl b)
    refine J_p 2 (ls' := [_, _, _, _]) rfl ?_
    refine J_call rfl rfl rfl (decide_eq_true hS.t) rfl (c_refused hS 0 (by decide) (by decide) ?_)
    show J _ _ _ _ _ _ _
    exact J_ret rfl rfl rfl (kR 0 _ (by simp only [fExclusive, h2, if_true, if_false, reduceIte]) (by decide))

theorem p_queueOf (hS : RS M r) (hW : WS M r) (h : Rep g A) (w : Wf T A) (hT : T + 99 < 2 ^ 20) (q v : Int32) (kR : ∀ (rw_ : Nat) (v_ : Int32), fQueueOf A q v = .inl rw_ → v_ = rfN rw_ → Q (some (.int v_)) (wI (rfM M r rw_) (r + 1) g)) (kO : ∀ (a : Int32) (B : Ab), fQueueOf A q v = .inr (a, B) → ∀ g' : Nat → Int32, Rep g' B → Wf (T + 99) B → Q (some (.int a)) (wI M (r + 1) g')) : J E 220 0 [.ref r, .int q, .int v] [] (wI M (r + 1) g) Q := by
  refine J_p 2 (ls' := [_, _, _]) rfl ?_
  refine J_call rfl rfl rfl (decide_eq_true hS.t) rfl (c_isQ hS h q (fun j h2 l2 e2 => ?_) (fun h2 => ?_))
  · skip
    subst e2
    obtain ⟨xj, hxj⟩ := get_of l2
    have q8j : j < 8 := Nat.lt_of_lt_of_le l2 h.1.1
    have n20j := (h.1.2.2 j xj hxj).2.2.2.2.1
    have x20j := (h.1.2.2 j xj hxj).2.1.1
    have q35j := (h.1.2.2 j xj hxj).2.2.2.2.2.1
    show J _ _ _ _ _ _ _
    refine J_zeq rfl (fun b => absurd b (by decide)) (fun _ => ?_)
    refine J_p 4 (ls' := [_, _, _]) rfl ?_
    refine J_call rfl rfl rfl rfl rfl (c_inZ0 (x := v) (b := 10) (b1 := 11) (by decide) rfl (fun b h14 l14 e14 => ?_) (fun h14 => ?_))
    · skip
      subst e14
      show J _ _ _ _ _ _ _
      refine J_zne rfl (fun _ => ?_) (fun b => absurd b (by decide))
      rcases (show b = 0 ∨ b = 1 ∨ b = 2 ∨ b = 3 ∨ b = 4 ∨ b = 5 ∨ b = 6 ∨ b = 7 ∨ b = 8 ∨ b = 9 ∨ b = 10 from by omega) with rfl | rfl | rfl | rfl | rfl | rfl | rfl | rfl | rfl | rfl | rfl
      · skip
        refine J_p 1 (ls' := [_, _, _]) rfl ?_
        refine J_sw1 rfl rfl rfl ?_
        refine J_p 3 (ls' := [_, _, _]) rfl ?_
        refine J_call rfl rfl rfl (decide_eq_true hS.t) rfl (c_of hS j 35 (by omega) q35j ?_)
        show J _ _ _ _ _ _ _
        exact J_ret rfl rfl rfl (kO _ _ (by simp only [fQueueOf, h2, hxj, h14, if_true, if_false, reduceIte, qoA]) g h (w.mono (by omega) hT))
      · skip
        refine J_p 1 (ls' := [_, _, _]) rfl ?_
        refine J_sw1 rfl rfl rfl ?_
        refine J_p 5 (ls' := [_, _, _]) rfl ?_
        refine J_n0 (n := 1 - 1) (by repeat' (first | with_reducible rfl | assumption | with_reducible refine nI_decE ?_ | with_reducible refine nI_addE ?_ ?_ | with_reducible refine nI_mulE ?_ ?_ | with_reducible refine nI_subE ?_ ?_ ?_ | omega | (with_reducible refine congrArg nI ?_; omega))) ?_
        have e0 := h.stN w hxj (s := 0) (by decide)
        refine J_n0 (n := 0) (by decide) ?_
        refine J_call rfl rfl rfl (decide_eq_true hS.t) rfl (c_lettersOf hS q8j n20j q35j ?_)
        rw [e0]
        show J _ _ _ _ _ _ _
        exact J_ret rfl rfl rfl (kO _ _ (by simp only [fQueueOf, h2, hxj, h14, if_true, if_false, reduceIte, qoA]) g h (w.mono (by omega) hT))
      · skip
        refine J_p 1 (ls' := [_, _, _]) rfl ?_
        refine J_sw1 rfl rfl rfl ?_
        refine J_p 5 (ls' := [_, _, _]) rfl ?_
        refine J_n0 (n := 2 - 1) (by repeat' (first | with_reducible rfl | assumption | with_reducible refine nI_decE ?_ | with_reducible refine nI_addE ?_ ?_ | with_reducible refine nI_mulE ?_ ?_ | with_reducible refine nI_subE ?_ ?_ ?_ | omega | (with_reducible refine congrArg nI ?_; omega))) ?_
        have e0 := h.stN w hxj (s := 1) (by decide)
        refine J_n0 (n := 1) (by decide) ?_
        refine J_call rfl rfl rfl (decide_eq_true hS.t) rfl (c_lettersOf hS q8j n20j q35j ?_)
        rw [e0]
        show J _ _ _ _ _ _ _
        exact J_ret rfl rfl rfl (kO _ _ (by simp only [fQueueOf, h2, hxj, h14, if_true, if_false, reduceIte, qoA]) g h (w.mono (by omega) hT))
      · skip
        refine J_p 1 (ls' := [_, _, _]) rfl ?_
        refine J_sw1 rfl rfl rfl ?_
        refine J_p 5 (ls' := [_, _, _]) rfl ?_
        refine J_n0 (n := 3 - 1) (by repeat' (first | with_reducible rfl | assumption | with_reducible refine nI_decE ?_ | with_reducible refine nI_addE ?_ ?_ | with_reducible refine nI_mulE ?_ ?_ | with_reducible refine nI_subE ?_ ?_ ?_ | omega | (with_reducible refine congrArg nI ?_; omega))) ?_
        have e0 := h.stN w hxj (s := 2) (by decide)
        refine J_n0 (n := 2) (by decide) ?_
        refine J_call rfl rfl rfl (decide_eq_true hS.t) rfl (c_lettersOf hS q8j n20j q35j ?_)
        rw [e0]
        show J _ _ _ _ _ _ _
        exact J_ret rfl rfl rfl (kO _ _ (by simp only [fQueueOf, h2, hxj, h14, if_true, if_false, reduceIte, qoA]) g h (w.mono (by omega) hT))
      · skip
        refine J_p 1 (ls' := [_, _, _]) rfl ?_
        refine J_sw1 rfl rfl rfl ?_
        refine J_p 2 (ls' := [_, _, _]) rfl ?_
        have e0 := h.mayN w hxj
        refine J_call rfl rfl rfl (decide_eq_true hS.t) rfl (c_mayMany hS q8j n20j (h.LM w hxj) q35j ?_)
        rw [e0]
        show J _ _ _ _ _ _ _
        exact J_ret rfl rfl rfl (kO _ _ (by simp only [fQueueOf, h2, hxj, h14, if_true, if_false, reduceIte, qoA]) g h (w.mono (by omega) hT))
      · skip
        refine J_p 1 (ls' := [_, _, _]) rfl ?_
        refine J_sw1 rfl rfl rfl ?_
        refine J_p 3 (ls' := [_, _, _]) rfl ?_
        have e0 := Rep.atN h w q8j
        refine J_call rfl rfl rfl (decide_eq_true hS.t) rfl (c_consumersOf (b := nI 0) hS q8j h.2.1.1 h.2.1.2.1 ?_)
        rw [e0]
        show J _ _ _ _ _ _ _
        exact J_ret rfl rfl rfl (kO _ _ (by simp only [fQueueOf, h2, hxj, h14, if_true, if_false, reduceIte, qoA]) g h (w.mono (by omega) hT))
      · skip
        refine J_p 1 (ls' := [_, _, _]) rfl ?_
        refine J_sw1 rfl rfl rfl ?_
        refine J_p 3 (ls' := [_, _, _]) rfl ?_
        have e0 := Rep.crN h w q8j
        refine J_call rfl rfl rfl (decide_eq_true hS.t) rfl (c_consumersOf (b := nI 1) hS q8j h.2.1.1 h.2.1.2.1 ?_)
        rw [e0]
        show J _ _ _ _ _ _ _
        exact J_ret rfl rfl rfl (kO _ _ (by simp only [fQueueOf, h2, hxj, h14, if_true, if_false, reduceIte, qoA]) g h (w.mono (by omega) hT))
      · skip
        refine J_p 1 (ls' := [_, _, _]) rfl ?_
        refine J_sw1 rfl rfl rfl ?_
        refine J_p 3 (ls' := [_, _, _]) rfl ?_
        refine J_call rfl rfl rfl (decide_eq_true hS.t) rfl (c_of hS j 30 (by omega) (h.1.2.2 j xj hxj).2.2.1.2.2.2.2.1 ?_)
        show J _ _ _ _ _ _ _
        exact J_ret rfl rfl rfl (kO _ _ (by simp only [fQueueOf, h2, hxj, h14, if_true, if_false, reduceIte, qoA]) g h (w.mono (by omega) hT))
      · skip
        refine J_p 1 (ls' := [_, _, _]) rfl ?_
        refine J_sw1 rfl rfl rfl ?_
        refine J_p 7 (ls' := [_, _, _]) rfl ?_
        refine J_n0 (n := (32 + 8) - 8) (by repeat' (first | with_reducible rfl | assumption | with_reducible refine nI_decE ?_ | with_reducible refine nI_addE ?_ ?_ | with_reducible refine nI_mulE ?_ ?_ | with_reducible refine nI_subE ?_ ?_ ?_ | omega | (with_reducible refine congrArg nI ?_; omega))) ?_
        refine J_n0 (n := 32) (by decide) ?_
        refine J_call rfl rfl rfl (decide_eq_true hS.t) rfl (c_of hS j 32 (by omega) (h.1.2.2 j xj hxj).2.2.2.1.1 ?_)
        show J _ _ _ _ _ _ _
        exact J_ret rfl rfl rfl (kO _ _ (by simp only [fQueueOf, h2, hxj, h14, if_true, if_false, reduceIte, qoA]) g h (w.mono (by omega) hT))
      · skip
        refine J_p 1 (ls' := [_, _, _]) rfl ?_
        refine J_sw1 rfl rfl rfl ?_
        refine J_p 7 (ls' := [_, _, _]) rfl ?_
        refine J_n0 (n := (32 + 9) - 8) (by repeat' (first | with_reducible rfl | assumption | with_reducible refine nI_decE ?_ | with_reducible refine nI_addE ?_ ?_ | with_reducible refine nI_mulE ?_ ?_ | with_reducible refine nI_subE ?_ ?_ ?_ | omega | (with_reducible refine congrArg nI ?_; omega))) ?_
        refine J_n0 (n := 33) (by decide) ?_
        refine J_call rfl rfl rfl (decide_eq_true hS.t) rfl (c_of hS j 33 (by omega) (h.1.2.2 j xj hxj).2.2.2.1.2.1 ?_)
        show J _ _ _ _ _ _ _
        exact J_ret rfl rfl rfl (kO _ _ (by simp only [fQueueOf, h2, hxj, h14, if_true, if_false, reduceIte, qoA]) g h (w.mono (by omega) hT))
      · skip
        refine J_p 1 (ls' := [_, _, _]) rfl ?_
        refine J_sw1 rfl rfl rfl ?_
        refine J_p 7 (ls' := [_, _, _]) rfl ?_
        refine J_n0 (n := (32 + 10) - 8) (by repeat' (first | with_reducible rfl | assumption | with_reducible refine nI_decE ?_ | with_reducible refine nI_addE ?_ ?_ | with_reducible refine nI_mulE ?_ ?_ | with_reducible refine nI_subE ?_ ?_ ?_ | omega | (with_reducible refine congrArg nI ?_; omega))) ?_
        refine J_n0 (n := 34) (by decide) ?_
        refine J_call rfl rfl rfl (decide_eq_true hS.t) rfl (c_of hS j 34 (by omega) (h.1.2.2 j xj hxj).2.2.2.1.2.2 ?_)
        show J _ _ _ _ _ _ _
        exact J_ret rfl rfl rfl (kO _ _ (by simp only [fQueueOf, h2, hxj, h14, if_true, if_false, reduceIte, qoA]) g h (w.mono (by omega) hT))
    · skip
      show J _ _ _ _ _ _ _
      refine J_zne rfl (fun b => absurd rfl b) (fun _ => ?_)
      refine J_p 2 (ls' := [_, _, _]) rfl ?_
      refine J_call rfl rfl rfl (decide_eq_true hS.t) rfl (c_refused hS 0 (by decide) (by decide) ?_)
      show J _ _ _ _ _ _ _
      exact J_ret rfl rfl rfl (kR 0 _ (by simp only [fQueueOf, h2, hxj, h14, if_true, if_false, reduceIte]) (by decide))
  · skip
    show J _ _ _ _ _ _ _
    refine J_zeq rfl (fun _ => ?_) (fun b => absurd rfl b)
    refine J_p 2 (ls' := [_, _, _]) rfl ?_
    refine J_call rfl rfl rfl (decide_eq_true hS.t) rfl (c_refused hS 0 (by decide) (by decide) ?_)
    show J _ _ _ _ _ _ _
    exact J_ret rfl rfl rfl (kR 0 _ (by simp only [fQueueOf, h2, if_true, if_false, reduceIte]) (by decide))

theorem p_letter (hS : RS M r) (hW : WS M r) (h : Rep g A) (w : Wf T A) (hT : T + 99 < 2 ^ 20) (q i v : Int32) (kR : ∀ (rw_ : Nat) (v_ : Int32), fLetter A q i v = .inl rw_ → v_ = rfN rw_ → Q (some (.int v_)) (wI (rfM M r rw_) (r + 1) g)) (kO : ∀ (a : Int32) (B : Ab), fLetter A q i v = .inr (a, B) → ∀ g' : Nat → Int32, Rep g' B → Wf (T + 99) B → Q (some (.int a)) (wI M (r + 1) g')) : J E 221 0 [.ref r, .int q, .int i, .int v] [] (wI M (r + 1) g) Q := by
  refine J_p 2 (ls' := [_, _, _, _]) rfl ?_
  refine J_call rfl rfl rfl (decide_eq_true hS.t) rfl (c_isQ hS h q (fun j h2 l2 e2 => ?_) (fun h2 => ?_))
  · skip
    subst e2
    obtain ⟨xj, hxj⟩ := get_of l2
    have q8j : j < 8 := Nat.lt_of_lt_of_le l2 h.1.1
    have n20j := (h.1.2.2 j xj hxj).2.2.2.2.1
    have x20j := (h.1.2.2 j xj hxj).2.1.1
    have q35j := (h.1.2.2 j xj hxj).2.2.2.2.2.1
    show J _ _ _ _ _ _ _
    refine J_zeq rfl (fun b => absurd b (by decide)) (fun _ => ?_)
    refine J_p 4 (ls' := [_, _, _, _]) rfl ?_
    refine J_call rfl rfl rfl rfl rfl (c_inZ0 (x := v) (b := 4) (b1 := 5) (by decide) rfl (fun b h14 l14 e14 => ?_) (fun h14 => ?_))
    · skip
      subst e14
      show J _ _ _ _ _ _ _
      refine J_zeq rfl (fun b => absurd b (by decide)) (fun _ => ?_)
      refine J_p 6 (ls' := [_, _, _, _]) rfl ?_
      refine J_call rfl rfl rfl (decide_eq_true hS.t) rfl (c_of hS j 35 (by omega) q35j ?_)
      show J _ _ _ _ _ _ _
      refine J_p 3 (ls' := [_, _, _, _]) rfl ?_
      refine J_call rfl rfl rfl rfl rfl (c_inX (x := i) (n := (q_ls xj).length) (by omega) (fun n h33 l33 e33 => ?_) (fun h33 => ?_))
      · skip
        subst e33
        obtain ⟨l, hl⟩ := get_of l33
        have hL := h.letter hxj hl
        show J _ _ _ _ _ _ _
        refine J_zne rfl (fun _ => ?_) (fun b => absurd b (by decide))
        rcases (show b = 0 ∨ b = 1 ∨ b = 2 ∨ b = 3 ∨ b = 4 from by omega) with rfl | rfl | rfl | rfl | rfl
        · skip
          refine J_p 4 (ls' := [_, _, _, _]) rfl ?_
          refine J_call rfl rfl rfl (decide_eq_true hS.t) rfl (c_letterOf hS j n 0 (by omega) hL.2.1 ?_)
          show J _ _ _ _ _ _ _
          exact J_ret rfl rfl rfl (kO _ _ (by simp only [fLetter, h2, hxj, h14, h33, hl, if_true, if_false, reduceIte, loA]) g h (w.mono (by omega) hT))
        · skip
          refine J_p 4 (ls' := [_, _, _, _]) rfl ?_
          refine J_call rfl rfl rfl (decide_eq_true hS.t) rfl (c_letterOf hS j n 1 (by omega) hL.2.2.1 ?_)
          show J _ _ _ _ _ _ _
          exact J_ret rfl rfl rfl (kO _ _ (by simp only [fLetter, h2, hxj, h14, h33, hl, if_true, if_false, reduceIte, loA]) g h (w.mono (by omega) hT))
        · skip
          refine J_p 4 (ls' := [_, _, _, _]) rfl ?_
          refine J_call rfl rfl rfl (decide_eq_true hS.t) rfl (c_letterOf hS j n 2 (by omega) hL.2.2.2.1 ?_)
          show J _ _ _ _ _ _ _
          exact J_ret rfl rfl rfl (kO _ _ (by simp only [fLetter, h2, hxj, h14, h33, hl, if_true, if_false, reduceIte, loA]) g h (w.mono (by omega) hT))
        · skip
          refine J_p 4 (ls' := [_, _, _, _]) rfl ?_
          refine J_call rfl rfl rfl (decide_eq_true hS.t) rfl (c_letterOf hS j n 3 (by omega) hL.2.2.2.2.1 ?_)
          show J _ _ _ _ _ _ _
          exact J_ret rfl rfl rfl (kO _ _ (by simp only [fLetter, h2, hxj, h14, h33, hl, if_true, if_false, reduceIte, loA]) g h (w.mono (by omega) hT))
        · skip
          refine J_p 4 (ls' := [_, _, _, _]) rfl ?_
          refine J_call rfl rfl rfl (decide_eq_true hS.t) rfl (c_letterOf hS j n 4 (by omega) hL.2.2.2.2.2.1 ?_)
          show J _ _ _ _ _ _ _
          exact J_ret rfl rfl rfl (kO _ _ (by simp only [fLetter, h2, hxj, h14, h33, hl, if_true, if_false, reduceIte, loA]) g h (w.mono (by omega) hT))
      · skip
        show J _ _ _ _ _ _ _
        refine J_zne rfl (fun b => absurd rfl b) (fun _ => ?_)
        refine J_p 2 (ls' := [_, _, _, _]) rfl ?_
        refine J_call rfl rfl rfl (decide_eq_true hS.t) rfl (c_refused hS 0 (by decide) (by decide) ?_)
        show J _ _ _ _ _ _ _
        exact J_ret rfl rfl rfl (kR 0 _ (by simp only [fLetter, h2, hxj, h14, h33, if_true, if_false, reduceIte]) (by decide))
    · skip
      show J _ _ _ _ _ _ _
      refine J_zeq rfl (fun _ => ?_) (fun b => absurd rfl b)
      refine J_p 2 (ls' := [_, _, _, _]) rfl ?_
      refine J_call rfl rfl rfl (decide_eq_true hS.t) rfl (c_refused hS 0 (by decide) (by decide) ?_)
      show J _ _ _ _ _ _ _
      exact J_ret rfl rfl rfl (kR 0 _ (by simp only [fLetter, h2, hxj, h14, if_true, if_false, reduceIte]) (by decide))
  · skip
    show J _ _ _ _ _ _ _
    refine J_zeq rfl (fun _ => ?_) (fun b => absurd rfl b)
    refine J_p 2 (ls' := [_, _, _, _]) rfl ?_
    refine J_call rfl rfl rfl (decide_eq_true hS.t) rfl (c_refused hS 0 (by decide) (by decide) ?_)
    show J _ _ _ _ _ _ _
    exact J_ret rfl rfl rfl (kR 0 _ (by simp only [fLetter, h2, if_true, if_false, reduceIte]) (by decide))

theorem p_pattern (hS : RS M r) (hW : WS M r) (h : Rep g A) (w : Wf T A) (hT : T + 99 < 2 ^ 20) (q i : Int32) (kR : ∀ (rw_ : Nat) (v_ : Int32), fPattern A q i = .inl rw_ → v_ = rfN rw_ → Q (some (.int v_)) (wI (rfM M r rw_) (r + 1) g)) (kO : ∀ (a : Int32) (B : Ab), fPattern A q i = .inr (a, B) → ∀ g' : Nat → Int32, Rep g' B → Wf (T + 99) B → Q (some (.int a)) (wI M (r + 1) g')) : J E 184 0 [.ref r, .int q, .int i] [] (wI M (r + 1) g) Q := by
  refine J_p 2 (ls' := [_, _, _]) rfl ?_
  refine J_call rfl rfl rfl (decide_eq_true hS.t) rfl (c_isQ hS h q (fun j h2 l2 e2 => ?_) (fun h2 => ?_))
  · skip
    subst e2
    obtain ⟨xj, hxj⟩ := get_of l2
    have q8j : j < 8 := Nat.lt_of_lt_of_le l2 h.1.1
    have n20j := (h.1.2.2 j xj hxj).2.2.2.2.1
    have x20j := (h.1.2.2 j xj hxj).2.1.1
    have q35j := (h.1.2.2 j xj hxj).2.2.2.2.2.1
    show J _ _ _ _ _ _ _
    refine J_zne rfl (fun _ => ?_) (fun b => absurd b (by decide))
    refine J_p 6 (ls' := [_, _, _]) rfl ?_
    refine J_call rfl rfl rfl (decide_eq_true hS.t) rfl (c_of hS j 5 (by omega) (h.1.2.2 j xj hxj).2.1.2.1 ?_)
    show J _ _ _ _ _ _ _
    refine J_p 3 (ls' := [_, _, _]) rfl ?_
    refine J_call rfl rfl rfl rfl rfl (c_inX (x := i) (n := (q_x xj).length) (by omega) (fun n h27 l27 e27 => ?_) (fun h27 => ?_))
    · skip
      subst e27
      obtain ⟨c, hc⟩ := get_of l27
      show J _ _ _ _ _ _ _
      refine J_zeq rfl (fun b => absurd b (by decide)) (fun _ => ?_)
      refine J_p 5 (ls' := [_, _, _]) rfl ?_
      refine J_n0 (n := 6 + n) (by repeat' (first | with_reducible rfl | assumption | with_reducible refine nI_decE ?_ | with_reducible refine nI_addE ?_ ?_ | with_reducible refine nI_mulE ?_ ?_ | with_reducible refine nI_subE ?_ ?_ ?_ | omega | (with_reducible refine congrArg nI ?_; omega))) ?_
      refine J_call rfl rfl rfl (decide_eq_true hS.t) rfl (c_of hS j (6 + n) (by omega) ((h.1.2.2 j xj hxj).2.1.2.2 n c hc) ?_)
      show J _ _ _ _ _ _ _
      refine J_p 1 (ls' := [_, _, _]) rfl ?_
      exact J_ret rfl rfl rfl (kO _ _ (by simp only [fPattern, h2, hxj, h27, hc, if_true, if_false, reduceIte]) g h (w.mono (by omega) hT))
    · skip
      show J _ _ _ _ _ _ _
      refine J_zeq rfl (fun _ => ?_) (fun b => absurd rfl b)
      refine J_p 1 (ls' := [_, _, _]) rfl ?_
      exact J_ret rfl rfl rfl (kO _ _ (by simp only [fPattern, h2, hxj, h27, if_true, if_false, reduceIte]) g h (w.mono (by omega) hT))
  · skip
    show J _ _ _ _ _ _ _
    refine J_zne rfl (fun b => absurd rfl b) (fun _ => ?_)
    refine J_p 2 (ls' := [_, _, _]) rfl ?_
    refine J_call rfl rfl rfl (decide_eq_true hS.t) rfl (c_refused hS 0 (by decide) (by decide) ?_)
    show J _ _ _ _ _ _ _
    exact J_ret rfl rfl rfl (kR 0 _ (by simp only [fPattern, h2, if_true, if_false, reduceIte]) (by decide))

end PUB2