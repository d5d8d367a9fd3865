/-! THE REFERENCE: status, image, back. -/
def crQ (A : Ab) (q : Nat) : Nat := suA (fun c => if atA (a_c A) q c = true then crA (a_c A) c else 0) (a_c A).length
def fStatus (S : St) (v : Int32) : Int32 := match ixN v 17 with
  | none => -1
  | some 0 => nI (a_q (s_a S)).length
  | some 1 => nI (a_c (s_a S)).length
  | some 2 => nI (a_m (s_a S)).length
  | some 3 => nI (a_d (s_a S)).length
  | some 4 => nI (a_n (s_a S))
  | some 5 => nI (suA (lenQ (s_a S)) (a_q (s_a S)).length)
  | some 6 => nI (suA (crQ (s_a S)) (a_q (s_a S)).length)
  | some 7 => nI (a_t (s_a S)).length
  | some 8 => nI (s_t S).length
  | some 9 => a_s (s_a S)
  | some 10 => nI (cnA (fun s => (s_h S s).isSome) 8)
  | some 11 => -1
  | some (n + 12) => s_f S n
def fImage (S : St) : Int32 × St := (nI 1, z_k S (some (s_a S)))
def fBack (S : St) : Int32 × St := match s_k S with
  | none => rfS S 3
  | some B => (nI 1, z_a S B)
section PUB23
variable {E : Nat × Nat} {M : Mm} {r T : Nat} {g : Nat → Int32} {S : St} {Q : Option Value → Mm → Prop} {A : Ab}

theorem c_sum_l (hS : RS M r) (h : Rep g A) (w : Wf T A) {wv : Int32} {f : Nat → Nat} (h0 : wv = 0 → f = crQ A) (h1 : ¬ wv = 0 → f = lenQ A) : ∀ (d kk : Nat), kk + d = (a_q A).length → Q (some (.int (nI (suA f (a_q A).length)))) (wI M (r + 1) g) → J E 251 4 [.ref r, .int wv, .int (nI (suA f kk)), .int (nI kk)] [] (wI M (r + 1) g) Q := by
  intro d
  induction d with
  | zero =>
    intro kk hk k
    have h8 := h.1.1
    refine J_p 2 (ls' := [_, _, _, _]) rfl ?_
    refine J_getR rfl hS.t hS.f0 ?_
    refine J_p 1 (ls' := [_, _, _, _]) rfl ?_
    refine J_gld (n := 0) rfl (by repeat' (first | with_reducible rfl | assumption | with_reducible refine nI_decE ?_ | with_reducible refine nI_addE ?_ ?_ | with_reducible refine nI_mulE ?_ ?_ | with_reducible refine nI_subE ?_ ?_ ?_ | omega | (with_reducible refine congrArg nI ?_; omega))) hS (by omega) h.1.2.1 ?_
    refine J_ige rfl (fun b11 => ?_) (fun b11 => ?_)
    · skip
      refine J_p 1 (ls' := [_, _, _, _]) rfl ?_
      obtain rfl : kk = (a_q A).length := by omega
      exact J_ret rfl rfl rfl k
    · skip
      exact absurd (nI_le (a := (a_q A).length) (b := kk) (by omega) (by omega)) b11
  | succ d ih =>
    intro kk hk k
    have h8 := h.1.1
    obtain ⟨x, hx⟩ := get_of (l := a_q A) (i := kk) (by omega)
    have hQ := h.1.2.2 kk x hx
    refine J_p 2 (ls' := [_, _, _, _]) rfl ?_
    refine J_getR rfl hS.t hS.f0 ?_
    refine J_p 1 (ls' := [_, _, _, _]) rfl ?_
    refine J_gld (n := 0) rfl (by repeat' (first | with_reducible rfl | assumption | with_reducible refine nI_decE ?_ | with_reducible refine nI_addE ?_ ?_ | with_reducible refine nI_mulE ?_ ?_ | with_reducible refine nI_subE ?_ ?_ ?_ | omega | (with_reducible refine congrArg nI ?_; omega))) hS (by omega) h.1.2.1 ?_
    refine J_ige rfl (fun b11 => ?_) (fun b11 => ?_)
    · skip
      exact absurd b11 (nI_ge (a := kk) (b := (a_q A).length) (by omega) (by omega))
    · skip
      refine J_p 2 (ls' := [_, _, _, _]) rfl ?_
      refine J_zeq rfl (fun b16 => ?_) (fun b16 => ?_)
      · skip
        have ef : suA f (kk + 1) = suA f kk + crQ A kk := by rw [h0 b16]; rfl
        refine J_p 3 (ls' := [_, _, _, _]) rfl ?_
        have ec : _ = nI (crQ A kk) := h.crN w (q := kk) (by omega)
        refine J_call rfl rfl rfl (decide_eq_true hS.t) rfl (c_consumersOf (b := nI 1) hS (by omega) h.2.1.1 h.2.1.2.1 ?_)
        rw [ec]
        show J _ _ _ _ _ _ _
        refine J_p 1 (ls' := [_, _, _, _]) rfl ?_
        refine J_n0 (n := (suA f kk) + (crQ A kk)) (by repeat' (first | with_reducible rfl | assumption | with_reducible refine nI_decE ?_ | with_reducible refine nI_addE ?_ ?_ | with_reducible refine nI_mulE ?_ ?_ | with_reducible refine nI_subE ?_ ?_ ?_ | omega | (with_reducible refine congrArg nI ?_; omega))) ?_
        refine J_p 3 (ls' := [_, _, _, _]) rfl ?_
        rw [nI_add kk 1]
        rw [← ef]
        exact ih (kk + 1) (by omega) k
      · skip
        have ef : suA f (kk + 1) = suA f kk + (q_ls x).length := by rw [h1 b16]; show suA (lenQ A) kk + lenQ A kk = _; unfold lenQ; rw [hx]
        refine J_p 3 (ls' := [_, _, _, _]) rfl ?_
        refine J_call rfl rfl rfl (decide_eq_true hS.t) rfl (c_of hS kk 35 (by omega) hQ.2.2.2.2.2.1 ?_)
        show J _ _ _ _ _ _ _
        refine J_p 2 (ls' := [_, _, _, _]) rfl ?_
        refine J_n0 (n := (suA f kk) + ((q_ls x).length)) (by repeat' (first | with_reducible rfl | assumption | with_reducible refine nI_decE ?_ | with_reducible refine nI_addE ?_ ?_ | with_reducible refine nI_mulE ?_ ?_ | with_reducible refine nI_subE ?_ ?_ ?_ | omega | (with_reducible refine congrArg nI ?_; omega))) ?_
        refine J_p 3 (ls' := [_, _, _, _]) rfl ?_
        rw [nI_add kk 1]
        rw [← ef]
        exact ih (kk + 1) (by omega) k

theorem c_held_s (hS : RS M r) (h : RR M r S) : ∀ (d kk : Nat), kk + d = 8 → Q (some (.int (nI (cnA (fun s => (s_h S s).isSome) 8)))) (wI M (r + 1) g) → J E 252 4 [.ref r, .int (nI (cnA (fun s => (s_h S s).isSome) kk)), .int (nI kk)] [] (wI M (r + 1) g) Q := by
  intro d
  induction d with
  | zero =>
    intro kk hk k
    refine J_p 2 (ls' := [_, _, _]) rfl ?_
    refine J_ige rfl (fun b7 => ?_) (fun b7 => ?_)
    · skip
      refine J_p 1 (ls' := [_, _, _]) rfl ?_
      obtain rfl : kk = 8 := by omega
      exact J_ret rfl rfl rfl k
    · skip
      exact absurd (nI_le (a := 8) (b := kk) (by omega) (by omega)) b7
  | succ d ih =>
    intro kk hk k
    have hk8 : kk < 8 := by omega
    refine J_p 2 (ls' := [_, _, _]) rfl ?_
    refine J_ige rfl (fun b7 => ?_) (fun b7 => ?_)
    · skip
      exact absurd b7 (nI_ge (a := kk) (b := 8) (by omega) (by omega))
    · skip
      have hs := h.s kk hk8
      cases hsh : s_h S kk with
      | none =>
        rw [hsh] at hs
        have hs9 : mI M (r + 9) kk = -1 := hs
        refine J_p 2 (ls' := [_, _, _]) rfl ?_
        refine J_getR rfl hS.t hS.f13 ?_
        refine J_p 1 (ls' := [_, _, _]) rfl ?_
        refine J_old (n := kk) rfl (by repeat' (first | with_reducible rfl | assumption | with_reducible refine nI_decE ?_ | with_reducible refine nI_addE ?_ ?_ | with_reducible refine nI_mulE ?_ ?_ | with_reducible refine nI_subE ?_ ?_ ?_ | omega | (with_reducible refine congrArg nI ?_; omega))) (by omega) hS.t9 hS.l9 (by omega) (by omega) hs9 ?_
        refine J_zlt rfl (fun b17 => ?_) (fun b17 => ?_)
        · skip
          refine J_p 2 (ls' := [_, _, _]) rfl ?_
          refine J_n0 (n := (cnA (fun s => (s_h S s).isSome) kk) + 0) (by repeat' (first | with_reducible rfl | assumption | with_reducible refine nI_decE ?_ | with_reducible refine nI_addE ?_ ?_ | with_reducible refine nI_mulE ?_ ?_ | with_reducible refine nI_subE ?_ ?_ ?_ | omega | (with_reducible refine congrArg nI ?_; omega))) ?_
          refine J_p 3 (ls' := [_, _, _]) rfl ?_
          rw [nI_add kk 1]
          refine J_L (ls' := [.ref r, .int (nI (cnA (fun s => (s_h S s).isSome) (kk + 1))), .int (nI (kk + 1))]) ?_ (ih (kk + 1) (by omega) k)
          simp only [cnA, hsh, Option.isSome, if_true, if_false, reduceIte]
          first | done | rfl
        · skip
          exact absurd (by decide) b17
      | some v =>
        cases v with
        | inl p =>
          obtain ⟨so, els⟩ := p
          rw [hsh] at hs
          obtain ⟨o4, el40, hs9, hs10, hs11⟩ := hs
          refine J_p 2 (ls' := [_, _, _]) rfl ?_
          refine J_getR rfl hS.t hS.f13 ?_
          refine J_p 1 (ls' := [_, _, _]) rfl ?_
          refine J_old (n := kk) rfl (by repeat' (first | with_reducible rfl | assumption | with_reducible refine nI_decE ?_ | with_reducible refine nI_addE ?_ ?_ | with_reducible refine nI_mulE ?_ ?_ | with_reducible refine nI_subE ?_ ?_ ?_ | omega | (with_reducible refine congrArg nI ?_; omega))) (by omega) hS.t9 hS.l9 (by omega) (by omega) hs9 ?_
          refine J_zlt rfl (fun b17 => ?_) (fun b17 => ?_)
          · skip
            exact absurd b17 (nI_pos (by omega))
          · skip
            refine J_p 3 (ls' := [_, _, _]) rfl ?_
            refine J_n0 (n := (cnA (fun s => (s_h S s).isSome) kk) + 1) (by repeat' (first | with_reducible rfl | assumption | with_reducible refine nI_decE ?_ | with_reducible refine nI_addE ?_ ?_ | with_reducible refine nI_mulE ?_ ?_ | with_reducible refine nI_subE ?_ ?_ ?_ | omega | (with_reducible refine congrArg nI ?_; omega))) ?_
            refine J_p 3 (ls' := [_, _, _]) rfl ?_
            rw [nI_add kk 1]
            refine J_L (ls' := [.ref r, .int (nI (cnA (fun s => (s_h S s).isSome) (kk + 1))), .int (nI (kk + 1))]) ?_ (ih (kk + 1) (by omega) k)
            simp only [cnA, hsh, Option.isSome, if_true, if_false, reduceIte]
            first | done | rfl
        | inr c =>
          rw [hsh] at hs
          obtain ⟨n, ⟨n3, n6⟩, hc1, hs9, c0, c1, c2, c3⟩ := hs
          refine J_p 2 (ls' := [_, _, _]) rfl ?_
          refine J_getR rfl hS.t hS.f13 ?_
          refine J_p 1 (ls' := [_, _, _]) rfl ?_
          refine J_old (n := kk) rfl (by repeat' (first | with_reducible rfl | assumption | with_reducible refine nI_decE ?_ | with_reducible refine nI_addE ?_ ?_ | with_reducible refine nI_mulE ?_ ?_ | with_reducible refine nI_subE ?_ ?_ ?_ | omega | (with_reducible refine congrArg nI ?_; omega))) (by omega) hS.t9 hS.l9 (by omega) (by omega) hs9 ?_
          refine J_zlt rfl (fun b17 => ?_) (fun b17 => ?_)
          · skip
            exact absurd b17 (nI_pos (by omega))
          · skip
            refine J_p 3 (ls' := [_, _, _]) rfl ?_
            refine J_n0 (n := (cnA (fun s => (s_h S s).isSome) kk) + 1) (by repeat' (first | with_reducible rfl | assumption | with_reducible refine nI_decE ?_ | with_reducible refine nI_addE ?_ ?_ | with_reducible refine nI_mulE ?_ ?_ | with_reducible refine nI_subE ?_ ?_ ?_ | omega | (with_reducible refine congrArg nI ?_; omega))) ?_
            refine J_p 3 (ls' := [_, _, _]) rfl ?_
            rw [nI_add kk 1]
            refine J_L (ls' := [.ref r, .int (nI (cnA (fun s => (s_h S s).isSome) (kk + 1))), .int (nI (kk + 1))]) ?_ (ih (kk + 1) (by omega) k)
            simp only [cnA, hsh, Option.isSome, if_true, if_false, reduceIte]
            first | done | rfl

theorem s_status (h : RR M r S) (w : WfS T S) (v : Int32) (k : Q (some (.int (fStatus S v))) M) : J E 253 0 [.ref r, .int v] [] M Q := by
  obtain ⟨g, hg⟩ : ∃ g, mI M (r + 1) = g := ⟨_, rfl⟩
  have hS := h.1
  have hA := h.a
  rw [hg] at hA
  have kO : ∀ x, fStatus S v = x → Q (some (.int x)) (wI M (r + 1) g) := fun x e => by
    rw [e] at k; rw [← hg, wI_id]; exact k
  rw [show M = wI M (r + 1) g by rw [← hg, wI_id]]
  cases hv : ixN v 17 with
  | none =>
    have hne : ∀ n : Nat, n < 17 → ¬ v = nI n := fun n hn e => by rw [e, ixN_nI hn (by omega)] at hv; cases hv
    have hno := ixN_none hv
    refine J_p 1 (ls' := [_, _]) rfl ?_
    refine J_sw1 (pc' := 104) (r := []) rfl rfl ?_ ?_
    · simp only [sw, swt]; rw [if_pos (by omega)]; rfl
    · refine J_p 4 (ls' := [_, _]) rfl ?_
      refine J_call rfl rfl rfl rfl rfl (c_inZ (x := v) (a := 12) (b := 16) (by decide) (by decide) (fun hz => ?_) (fun hz => ?_))
      · exact absurd hz (fun y => hno (by unfold inZ at y; omega))
      · show J _ _ _ _ _ _ _
        refine J_zeq rfl (fun _ => ?_) (fun b => absurd rfl b)
        refine J_p 1 (ls' := [_, _]) rfl ?_
        exact J_ret rfl rfl rfl (kO _ (by simp only [fStatus, hv]))
  | some b =>
    obtain ⟨b17, eb, _⟩ := ixN_some hv
    subst eb
    refine J_p 1 (ls' := [_, _]) rfl ?_
    rcases (show b = 0 ∨ b = 1 ∨ b = 2 ∨ b = 3 ∨ b = 4 ∨ b = 5 ∨ b = 6 ∨ b = 7 ∨ b = 8 ∨ b = 9 ∨ b = 10 ∨ b = 11 ∨ b = 12 ∨ b = 13 ∨ b = 14 ∨ b = 15 ∨ b = 16 from by omega) with rfl | rfl | rfl | rfl | rfl | rfl | rfl | rfl | rfl | rfl | rfl | rfl | rfl | rfl | rfl | rfl | rfl
    · refine J_sw1 rfl rfl rfl ?_
      refine J_p 1 (ls' := [_, _]) rfl ?_
      refine J_getR rfl hS.t hS.f0 ?_
      refine J_p 1 (ls' := [_, _]) rfl ?_
      refine J_gld (n := 0) rfl rfl hS (by omega) hA.1.2.1 ?_
      exact J_ret rfl rfl rfl (kO _ (by simp only [fStatus, hv]))
    · refine J_sw1 rfl rfl rfl ?_
      refine J_p 1 (ls' := [_, _]) rfl ?_
      refine J_getR rfl hS.t hS.f0 ?_
      refine J_p 1 (ls' := [_, _]) rfl ?_
      refine J_gld (n := 1) rfl rfl hS (by omega) hA.2.1.2.1 ?_
      exact J_ret rfl rfl rfl (kO _ (by simp only [fStatus, hv]))
    · refine J_sw1 rfl rfl rfl ?_
      refine J_p 1 (ls' := [_, _]) rfl ?_
      refine J_getR rfl hS.t hS.f0 ?_
      refine J_p 1 (ls' := [_, _]) rfl ?_
      refine J_gld (n := 2) rfl rfl hS (by omega) hA.2.2.1.2.1 ?_
      exact J_ret rfl rfl rfl (kO _ (by simp only [fStatus, hv]))
    · refine J_sw1 rfl rfl rfl ?_
      refine J_p 1 (ls' := [_, _]) rfl ?_
      refine J_getR rfl hS.t hS.f0 ?_
      refine J_p 1 (ls' := [_, _]) rfl ?_
      refine J_gld (n := 3) rfl rfl hS (by omega) hA.2.2.2.1.2.1 ?_
      exact J_ret rfl rfl rfl (kO _ (by simp only [fStatus, hv]))
    · refine J_sw1 rfl rfl rfl ?_
      refine J_p 1 (ls' := [_, _]) rfl ?_
      refine J_getR rfl hS.t hS.f0 ?_
      refine J_p 1 (ls' := [_, _]) rfl ?_
      refine J_gld (n := 4) rfl rfl hS (by omega) hA.2.2.2.2.1 ?_
      exact J_ret rfl rfl rfl (kO _ (by simp only [fStatus, hv]))
    · refine J_sw1 rfl rfl rfl ?_
      refine J_p 2 (ls' := [_, _]) rfl ?_
      refine J_call rfl rfl rfl (decide_eq_true hS.t) rfl (J_p (ls' := [_, _, _, _]) 4 rfl (c_sum_l hS hA w.1 (f := lenQ (s_a S)) (fun y => absurd y (by decide)) (fun _ => rfl) (a_q (s_a S)).length 0 (by omega) ?_))
      show J _ _ _ _ _ _ _
      exact J_ret rfl rfl rfl (kO _ (by simp only [fStatus, hv]))
    · refine J_sw1 rfl rfl rfl ?_
      refine J_p 2 (ls' := [_, _]) rfl ?_
      refine J_call rfl rfl rfl (decide_eq_true hS.t) rfl (J_p (ls' := [_, _, _, _]) 4 rfl (c_sum_l hS hA w.1 (f := crQ (s_a S)) (fun _ => rfl) (fun y => absurd rfl y) (a_q (s_a S)).length 0 (by omega) ?_))
      show J _ _ _ _ _ _ _
      exact J_ret rfl rfl rfl (kO _ (by simp only [fStatus, hv]))
    · refine J_sw1 rfl rfl rfl ?_
      refine J_p 1 (ls' := [_, _]) rfl ?_
      refine J_getR rfl hS.t hS.f0 ?_
      refine J_p 1 (ls' := [_, _]) rfl ?_
      refine J_gld (n := 6) rfl rfl hS (by omega) hA.2.2.2.2.2.2.1.2.1 ?_
      exact J_ret rfl rfl rfl (kO _ (by simp only [fStatus, hv]))
    · refine J_sw1 rfl rfl rfl ?_
      refine J_p 1 (ls' := [_, _]) rfl ?_
      refine J_oget rfl hS.t ⟨by omega, h.t.2.1⟩ ?_
      exact J_ret rfl rfl rfl (kO _ (by simp only [fStatus, hv]))
    · refine J_sw1 rfl rfl rfl ?_
      refine J_p 1 (ls' := [_, _]) rfl ?_
      refine J_getR rfl hS.t hS.f0 ?_
      refine J_p 1 (ls' := [_, _]) rfl ?_
      refine J_gld (n := 5) rfl rfl hS (by omega) hA.2.2.2.2.2.1 ?_
      exact J_ret rfl rfl rfl (kO _ (by simp only [fStatus, hv]))
    · refine J_sw1 rfl rfl rfl ?_
      refine J_p 1 (ls' := [_, _]) rfl ?_
      refine J_call rfl rfl rfl (decide_eq_true hS.t) rfl (J_p (ls' := [_, _, _]) 4 rfl (c_held_s hS h 8 0 rfl ?_))
      show J _ _ _ _ _ _ _
      exact J_ret rfl rfl rfl (kO _ (by simp only [fStatus, hv]))
    · refine J_sw1 rfl rfl rfl ?_
      refine J_p 4 (ls' := [_, _]) rfl ?_
      refine J_call rfl rfl rfl rfl rfl (c_inZ (x := nI 11) (a := 12) (b := 16) (by decide) (by decide) (fun hz => ?_) (fun hz => ?_))
      · exact absurd hz (by unfold inZ; decide)
      · show J _ _ _ _ _ _ _
        refine J_zeq rfl (fun _ => ?_) (fun b => absurd rfl b)
        refine J_p 1 (ls' := [_, _]) rfl ?_
        exact J_ret rfl rfl rfl (kO _ (by simp only [fStatus, hv]))
    · refine J_sw1 rfl rfl rfl ?_
      refine J_p 4 (ls' := [_, _]) rfl ?_
      refine J_call rfl rfl rfl rfl rfl (c_inZ (x := nI 12) (a := 12) (b := 16) (by decide) (by decide) (fun hz => ?_) (fun hz => ?_))
      · show J _ _ _ _ _ _ _
        refine J_zeq rfl (fun b => absurd b (by decide)) (fun _ => ?_)
        refine J_p 1 (ls' := [_, _]) rfl ?_
        refine J_getR rfl hS.t hS.f4 ?_
        refine J_p 3 (ls' := [_, _]) rfl ?_
        refine J_old (n := 0) rfl rfl (by omega) hS.t4 hS.l4 (by omega) (by omega) (h.f 0 (by omega)) ?_
        refine J_p 1 (ls' := [_, _]) rfl ?_
        exact J_ret rfl rfl rfl (kO _ (by simp only [fStatus, hv]))
      · exact absurd (show inZ _ _ _ by unfold inZ; decide) hz
    · refine J_sw1 rfl rfl rfl ?_
      refine J_p 4 (ls' := [_, _]) rfl ?_
      refine J_call rfl rfl rfl rfl rfl (c_inZ (x := nI 13) (a := 12) (b := 16) (by decide) (by decide) (fun hz => ?_) (fun hz => ?_))
      · show J _ _ _ _ _ _ _
        refine J_zeq rfl (fun b => absurd b (by decide)) (fun _ => ?_)
        refine J_p 1 (ls' := [_, _]) rfl ?_
        refine J_getR rfl hS.t hS.f4 ?_
        refine J_p 3 (ls' := [_, _]) rfl ?_
        refine J_old (n := 1) rfl rfl (by omega) hS.t4 hS.l4 (by omega) (by omega) (h.f 1 (by omega)) ?_
        refine J_p 1 (ls' := [_, _]) rfl ?_
        exact J_ret rfl rfl rfl (kO _ (by simp only [fStatus, hv]))
      · exact absurd (show inZ _ _ _ by unfold inZ; decide) hz
    · refine J_sw1 rfl rfl rfl ?_
      refine J_p 4 (ls' := [_, _]) rfl ?_
      refine J_call rfl rfl rfl rfl rfl (c_inZ (x := nI 14) (a := 12) (b := 16) (by decide) (by decide) (fun hz => ?_) (fun hz => ?_))
      · show J _ _ _ _ _ _ _
        refine J_zeq rfl (fun b => absurd b (by decide)) (fun _ => ?_)
        refine J_p 1 (ls' := [_, _]) rfl ?_
        refine J_getR rfl hS.t hS.f4 ?_
        refine J_p 3 (ls' := [_, _]) rfl ?_
        refine J_old (n := 2) rfl rfl (by omega) hS.t4 hS.l4 (by omega) (by omega) (h.f 2 (by omega)) ?_
        refine J_p 1 (ls' := [_, _]) rfl ?_
        exact J_ret rfl rfl rfl (kO _ (by simp only [fStatus, hv]))
      · exact absurd (show inZ _ _ _ by unfold inZ; decide) hz
    · refine J_sw1 rfl rfl rfl ?_
      refine J_p 4 (ls' := [_, _]) rfl ?_
      refine J_call rfl rfl rfl rfl rfl (c_inZ (x := nI 15) (a := 12) (b := 16) (by decide) (by decide) (fun hz => ?_) (fun hz => ?_))
      · show J _ _ _ _ _ _ _
        refine J_zeq rfl (fun b => absurd b (by decide)) (fun _ => ?_)
        refine J_p 1 (ls' := [_, _]) rfl ?_
        refine J_getR rfl hS.t hS.f4 ?_
        refine J_p 3 (ls' := [_, _]) rfl ?_
        refine J_old (n := 3) rfl rfl (by omega) hS.t4 hS.l4 (by omega) (by omega) (h.f 3 (by omega)) ?_
        refine J_p 1 (ls' := [_, _]) rfl ?_
        exact J_ret rfl rfl rfl (kO _ (by simp only [fStatus, hv]))
      · exact absurd (show inZ _ _ _ by unfold inZ; decide) hz
    · refine J_sw1 rfl rfl rfl ?_
      refine J_p 4 (ls' := [_, _]) rfl ?_
      refine J_call rfl rfl rfl rfl rfl (c_inZ (x := nI 16) (a := 12) (b := 16) (by decide) (by decide) (fun hz => ?_) (fun hz => ?_))
      · show J _ _ _ _ _ _ _
        refine J_zeq rfl (fun b => absurd b (by decide)) (fun _ => ?_)
        refine J_p 1 (ls' := [_, _]) rfl ?_
        refine J_getR rfl hS.t hS.f4 ?_
        refine J_p 3 (ls' := [_, _]) rfl ?_
        refine J_old (n := 4) rfl rfl (by omega) hS.t4 hS.l4 (by omega) (by omega) (h.f 4 (by omega)) ?_
        refine J_p 1 (ls' := [_, _]) rfl ?_
        exact J_ret rfl rfl rfl (kO _ (by simp only [fStatus, hv]))
      · exact absurd (show inZ _ _ _ by unfold inZ; decide) hz

theorem s_image (h : RR M r S) (w : WfS T S) (hT : T + 100 < 2 ^ 20) (k : ∀ M' : Mm, Fr r M M' → RR M' r (fImage S).2 → WfS (T + 99) (fImage S).2 → Q (some (.int (fImage S).1)) M') : J E 249 0 [.ref r] [] M Q := by
  have hS := h.1
  have hA := h.a
  refine J_p 1 (ls' := [_]) rfl ?_
  refine J_getR rfl hS.t hS.f0 ?_
  refine J_p 1 (ls' := [_]) rfl ?_
  refine J_getR rfl hS.t hS.f2 ?_
  refine J_call rfl rfl rfl rfl rfl (c_copies (f0 := mI M (r + 1)) (h0 := mI M (r + 3)) hS.t1 hS.l1 hS.t3 hS.l3 (by omega) rfl rfl hA.2.2.2.2.2.2.2 h.k.1 ?_)
  show J _ _ _ _ _ _ _
  have hS1 : RS (wI M (r + 3) (mI M (r + 1))) r := hS
  refine J_p 2 (ls' := [_]) rfl ?_
  refine J_putI rfl hS1.t (Or.inr (Or.inr rfl)) ?_
  refine J_p 1 (ls' := [_]) rfl ?_
  have e : ∀ a, a ≠ r → a ≠ r + 3 → mI (sI (wI M (r + 3) (mI M (r + 1))) r 3 (nI 1)) a = mI M a := fun a z1 z2 => by rw [mI_s1 _ _ _ z1, mI_oth _ _ z2]
  have e0 : ∀ j, j ≠ 3 → mI (sI (wI M (r + 3) (mI M (r + 1))) r 3 (nI 1)) r j = mI M r j := fun j hj => by rw [mI_s0, if_neg hj, mI_oth _ _ (by omega)]
  have e3 : mI (sI (wI M (r + 3) (mI M (r + 1))) r 3 (nI 1)) (r + 3) = mI M (r + 1) := by rw [mI_s1 _ _ _ (by omega), mI_same]
  refine J_ret rfl rfl rfl (k _ ((Fr.wix M _ (by omega) (by omega)).trans (Fr.six _ _ _ (by omega) (by omega))) ?_ ?_)
  · obtain ⟨h1, h2, h3, h4, h5, h6, h7, h8⟩ := h
    refine ⟨h1, fun j hj => ?_, fun z hz => ?_, ?_, ⟨fun z hz => ?_, fun y => (by cases y), fun B hB => ?_⟩, ⟨h6.1, ?_, fun j b hj => ?_⟩, fun s hs => (h7 s hs).fr ?_ ?_ (fun j _ => ?_) (fun _ _ => rfl), fun j hj => ?_⟩
    · rw [e _ (by omega) (by omega)]; exact h2 j hj
    · rw [e _ (by omega) (by omega)]; exact h3 z hz
    · rw [e _ (by omega) (by omega)]; exact h4
    · rw [e3]; exact hA.2.2.2.2.2.2.2 z hz
    · obtain rfl := Option.some.inj hB
      exact ⟨by rw [mI_s0, if_pos rfl], by rw [e3]; exact h4⟩
    · rw [e0 _ (by omega)]; exact h6.2.1
    · rw [e _ (by omega) (by omega)]; exact h6.2.2 j b hj
    · rw [e _ (by omega) (by omega)]
    · rw [e _ (by omega) (by omega)]
    · rw [e _ (by omega) (by omega)]
    · rw [e _ (by omega) (by omega)]; exact h8 j hj
  · refine ⟨w.1.mono (by omega) (by omega), fun B hB => ?_⟩
    obtain rfl := Option.some.inj hB
    exact ⟨w.1.mono (by omega) (by omega), Nat.le_refl _⟩
theorem s_back (h : RR M r S) (w : WfS T S) (hT : T + 100 < 2 ^ 20) (k : ∀ M' : Mm, Fr r M M' → RR M' r (fBack S).2 → WfS (T + 99) (fBack S).2 → Q (some (.int (fBack S).1)) M') : J E 250 0 [.ref r] [] M Q := by
  have hS := h.1
  have hA := h.a
  cases hk : s_k S with
  | none =>
    have e : fBack S = rfS S 3 := by simp only [fBack, hk]
    rw [e] at k
    refine J_p 1 (ls' := [_]) rfl ?_
    refine J_getI rfl hS.t ?_
    rw [h.k.2.1 hk]
    refine J_zne rfl (fun b => absurd rfl b) (fun _ => ?_)
    refine J_p 2 (ls' := [_]) rfl ?_
    rw [show M = wI M (r + 1) (mI M (r + 1)) by rw [wI_id]]
    refine J_call rfl rfl rfl (decide_eq_true hS.t) rfl (c_refused hS 3 (by decide) (by decide) ?_)
    show J _ _ _ _ _ _ _
    refine J_ret rfl rfl rfl ?_
    rw [show (-85 : Int32) = rfN 3 from by decide]
    exact k _ (Fr.rf rfl) (h.rf rfl 3) (w.rf hT)
  | some B =>
    have e : fBack S = (nI 1, z_a S B) := by simp only [fBack, hk]
    rw [e] at k
    obtain ⟨k1, k2⟩ := h.k.2.2 B hk
    refine J_p 1 (ls' := [_]) rfl ?_
    refine J_getI rfl hS.t ?_
    rw [k1]
    refine J_zne rfl (fun _ => ?_) (fun b => absurd b (by decide))
    refine J_p 1 (ls' := [_]) rfl ?_
    refine J_getR rfl hS.t hS.f2 ?_
    refine J_p 1 (ls' := [_]) rfl ?_
    refine J_getR rfl hS.t hS.f0 ?_
    refine J_call rfl rfl rfl rfl rfl (c_copies (f0 := mI M (r + 3)) (h0 := mI M (r + 1)) hS.t3 hS.l3 hS.t1 hS.l1 (by omega) rfl rfl h.k.1 hA.2.2.2.2.2.2.2 ?_)
    show J _ _ _ _ _ _ _
    refine J_p 1 (ls' := [_]) rfl ?_
    refine J_ret rfl rfl rfl (k _ (Fr.wix M _ (by omega) (by omega)) (h.gg k2) ⟨((w.2 B hk).1).mono (by omega) (by omega), fun B' hB' => ?_⟩)
    have hB2 : s_k S = some B' := hB'
    rw [hk] at hB2
    obtain rfl := Option.some.inj hB2
    exact ⟨((w.2 B hk).1).mono (by omega) (by omega), Nat.le_refl _⟩
end PUB23