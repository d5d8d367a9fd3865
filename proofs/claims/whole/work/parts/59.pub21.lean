/-! THE REFERENCE: element, holds, show, says. -/
section PUB21
variable {E : Nat × Nat} {M : Mm} {r T : Nat} {g : Nat → Int32} {S : St} {Q : Option Value → Mm → Prop} {A : Ab}
theorem c_isUnder {n k : Nat} {M : Mm} (hn : n < 2 ^ 31) (hk : k < 2 ^ 31) (kt : udA n k = true → Q (some (.int (nI 1))) M) (kf : udA n k = false → Q (some (.int (nI 0))) M) : J E 242 0 [.int (nI n), .int (nI k)] [] M Q := by
  have e0 : nI k = 0 ↔ k = 0 := nI_eq (b := 0) hk (by omega)
  have ek : ∀ c : Nat, c < 2 ^ 31 → (nI k = nI c ↔ k = c) := fun c hc => nI_eq hk hc
  have en : ∀ c : Nat, c < 2 ^ 31 → (nI n = nI c ↔ n = c) := fun c hc => nI_eq hn hc
  have T1 : udA n k = true → J E 242 40 [.int (nI n), .int (nI k)] [] M Q := fun hu => by
    refine J_p 2 (ls' := [_, _]) rfl ?_
    exact J_retB rfl (by decide) (kt hu)
  have T0 : ¬ udA n k = true → J E 242 44 [.int (nI n), .int (nI k)] [] M Q := fun hu => by
    refine J_p 1 (ls' := [_, _]) rfl ?_
    exact J_retB rfl (by decide) (kf (by cases h : udA n k with
      | true => exact absurd h hu
      | false => rfl))
  have uu : udA n k = true ↔ (k = 0 ∨ n = k ∨ (k = 1 ∧ (n = 3 ∨ n = 4)) ∨ (k = 2 ∧ (n = 5 ∨ n = 6))) := by
    unfold udA
    simp only [Bool.or_eq_true, Bool.and_eq_true, decide_eq_true_eq, or_assoc]
  refine J_p 1 (ls' := [_, _]) rfl ?_
  refine J_zeq rfl (fun b => T1 (uu.mpr (Or.inl (e0.mp b)))) (fun b1 => ?_)
  refine J_p 2 (ls' := [_, _]) rfl ?_
  refine J_ieq rfl (fun b => T1 (uu.mpr (Or.inr (Or.inl ((nI_eq hn hk).mp b))))) (fun b2 => ?_)
  refine J_p 2 (ls' := [_, _]) rfl ?_
  have at24 : ¬ (k = 1 ∧ (n = 3 ∨ n = 4)) → J E 242 24 [.int (nI n), .int (nI k)] [] M Q := fun h1 => by
    have no : ¬ (k = 2 ∧ (n = 5 ∨ n = 6)) → ¬ udA n k = true := fun h2 hu => by
      rcases uu.mp hu with h | h | h | h
      · exact b1 (e0.mpr h)
      · exact b2 (by rw [h])
      · exact h1 h
      · exact h2 h
    refine J_p 2 (ls' := [_, _]) rfl ?_
    refine J_ine rfl (fun b => T0 (no (fun h => b ((ek 2 (by omega)).mpr h.1)))) (fun b3 => ?_)
    refine J_p 2 (ls' := [_, _]) rfl ?_
    refine J_ieq rfl (fun b => T1 (uu.mpr (Or.inr (Or.inr (Or.inr ⟨(ek 2 (by omega)).mp b3, Or.inl ((en 5 (by omega)).mp b)⟩))))) (fun b4 => ?_)
    refine J_p 2 (ls' := [_, _]) rfl ?_
    refine J_ine rfl (fun b => T0 (no (fun h => h.2.elim (fun y => b4 ((en 5 (by omega)).mpr y)) (fun y => b ((en 6 (by omega)).mpr y))))) (fun b5 => ?_)
    exact T1 (uu.mpr (Or.inr (Or.inr (Or.inr ⟨(ek 2 (by omega)).mp b3, Or.inr ((en 6 (by omega)).mp b5)⟩))))
  refine J_ine rfl (fun b => at24 (fun h => b ((ek 1 (by omega)).mpr h.1))) (fun b3 => ?_)
  refine J_p 2 (ls' := [_, _]) rfl ?_
  refine J_ieq rfl (fun b => T1 (uu.mpr (Or.inr (Or.inr (Or.inl ⟨(ek 1 (by omega)).mp b3, Or.inl ((en 3 (by omega)).mp b)⟩))))) (fun b4 => ?_)
  refine J_p 2 (ls' := [_, _]) rfl ?_
  refine J_ieq rfl (fun b => T1 (uu.mpr (Or.inr (Or.inr (Or.inl ⟨(ek 1 (by omega)).mp b3, Or.inr ((en 4 (by omega)).mp b)⟩))))) (fun b5 => ?_)
  exact at24 (fun h => h.2.elim (fun y => b4 ((en 3 (by omega)).mpr y)) (fun y => b5 ((en 4 (by omega)).mpr y)))

theorem s_element (h : RR M r S) (s i : Int32) (k : Q (some (.long (fElement S s i))) M) : J E 239 0 [.ref r, .int s, .int i] [] M Q := by
  obtain ⟨g, hg⟩ : ∃ g, mI M (r + 1) = g := ⟨_, rfl⟩
  have hS := h.1
  have hA := h.a
  rw [hg] at hA
  have kO : ∀ x, fElement S s i = x → Q (some (.long x)) (wI M (r + 1) g) := fun x e => by
    rw [e] at k; rw [← hg, wI_id]; exact k
  rw [show M = wI M (r + 1) g by rw [← hg, wI_id]]
  refine J_p 1 (ls' := [_, _, _]) rfl ?_
  refine J_call rfl rfl rfl rfl rfl (c_isShelf (s := s) (fun j h1 l1 e1 => ?_) (fun h1 => ?_))
  · skip
    subst e1
    show J _ _ _ _ _ _ _
    refine J_zeq rfl (fun b => absurd b (by decide)) (fun _ => ?_)
    have hs := h.s j l1
    cases hsh : s_h S j with
    | none =>
      rw [hsh] at hs
      have hs9 : mI M (r + 9) j = -1 := hs
      refine J_p 1 (ls' := [_, _, _]) rfl ?_
      refine J_getR rfl hS.t hS.f13 ?_
      refine J_p 1 (ls' := [_, _, _]) rfl ?_
      refine J_old (n := j) rfl (by repeat' (first | with_reducible rfl | assumption | with_reducible refine nI_decE ?_ | with_reducible refine nI_addE ?_ ?_ | with_reducible refine nI_mulE ?_ ?_ | with_reducible refine nI_subE ?_ ?_ ?_ | omega | (with_reducible refine congrArg nI ?_; omega))) (by omega) hS.t9 hS.l9 (by omega) (by omega) hs9 ?_
      refine J_p 3 (ls' := [_, _, _]) rfl ?_
      refine J_call rfl rfl rfl rfl rfl (c_inZ (x := -1) (a := 0) (b := 4) (by decide) (by decide) (fun hz => ?_) (fun hz => ?_))
      · skip
        exact absurd hz inZ_n1
      · skip
        show J _ _ _ _ _ _ _
        refine J_zeq rfl (fun _ => ?_) (fun b => absurd rfl b)
        refine J_p 1 (ls' := [_, _, _]) rfl ?_
        exact J_ret rfl rfl rfl (kO _ (by simp only [fElement, h1, hsh, if_true, if_false, reduceIte]))
    | some v =>
      cases v with
      | inl p =>
        obtain ⟨so, els⟩ := p
        rw [hsh] at hs
        obtain ⟨o4, el40, hs9, hs10, hs11⟩ := hs
        refine J_p 1 (ls' := [_, _, _]) rfl ?_
        refine J_getR rfl hS.t hS.f13 ?_
        refine J_p 1 (ls' := [_, _, _]) rfl ?_
        refine J_old (n := j) rfl (by repeat' (first | with_reducible rfl | assumption | with_reducible refine nI_decE ?_ | with_reducible refine nI_addE ?_ ?_ | with_reducible refine nI_mulE ?_ ?_ | with_reducible refine nI_subE ?_ ?_ ?_ | omega | (with_reducible refine congrArg nI ?_; omega))) (by omega) hS.t9 hS.l9 (by omega) (by omega) hs9 ?_
        refine J_p 3 (ls' := [_, _, _]) rfl ?_
        refine J_call rfl rfl rfl rfl rfl (c_inZ (x := nI so) (a := 0) (b := 4) (by decide) (by decide) (fun hz => ?_) (fun hz => ?_))
        · skip
          show J _ _ _ _ _ _ _
          refine J_zeq rfl (fun b => absurd b (by decide)) (fun _ => ?_)
          refine J_p 4 (ls' := [_, _, _]) rfl ?_
          refine J_getR rfl hS.t hS.f14 ?_
          refine J_p 1 (ls' := [_, _, _]) rfl ?_
          refine J_old (n := j) rfl (by repeat' (first | with_reducible rfl | assumption | with_reducible refine nI_decE ?_ | with_reducible refine nI_addE ?_ ?_ | with_reducible refine nI_mulE ?_ ?_ | with_reducible refine nI_subE ?_ ?_ ?_ | omega | (with_reducible refine congrArg nI ?_; omega))) (by omega) hS.t10 hS.l10 (by omega) (by omega) hs10 ?_
          refine J_p 3 (ls' := [_, _, _]) rfl ?_
          refine J_call rfl rfl rfl rfl rfl (c_inX (x := i) (n := els.length) (by omega) (fun m h36 l36 e36 => ?_) (fun h36 => ?_))
          · skip
            subst e36
            obtain ⟨y, hy⟩ := get_of l36
            show J _ _ _ _ _ _ _
            refine J_zeq rfl (fun b => absurd b (by decide)) (fun _ => ?_)
            refine J_p 1 (ls' := [_, _, _]) rfl ?_
            refine J_getR rfl hS.t hS.f15 ?_
            refine J_p 5 (ls' := [_, _, _]) rfl ?_
            refine J_lald (n := 40 * j + m) rfl (by repeat' (first | with_reducible rfl | assumption | with_reducible refine nI_decE ?_ | with_reducible refine nI_addE ?_ ?_ | with_reducible refine nI_mulE ?_ ?_ | with_reducible refine nI_subE ?_ ?_ ?_ | omega | (with_reducible refine congrArg nI ?_; omega))) hS.t11 hS.l11 (by omega) (by omega) ?_
            refine J_p 1 (ls' := [_, _, _]) rfl ?_
            refine J_ret rfl rfl rfl (kO _ ?_)
            simp only [fElement, h1, hsh, h36, if_true, if_false, reduceIte]
            exact (getD_of hy).trans (hs11 m y hy).symm
          · skip
            show J _ _ _ _ _ _ _
            refine J_zeq rfl (fun _ => ?_) (fun b => absurd rfl b)
            refine J_p 1 (ls' := [_, _, _]) rfl ?_
            exact J_ret rfl rfl rfl (kO _ (by simp only [fElement, h1, hsh, h36, if_true, if_false, reduceIte]))
        · skip
          exact absurd (inZ_so (by omega)) hz
      | inr c =>
        rw [hsh] at hs
        obtain ⟨n, ⟨n3, n6⟩, hc1, hs9, c0, c1, c2, c3⟩ := hs
        refine J_p 1 (ls' := [_, _, _]) rfl ?_
        refine J_getR rfl hS.t hS.f13 ?_
        refine J_p 1 (ls' := [_, _, _]) rfl ?_
        refine J_old (n := j) rfl (by repeat' (first | with_reducible rfl | assumption | with_reducible refine nI_decE ?_ | with_reducible refine nI_addE ?_ ?_ | with_reducible refine nI_mulE ?_ ?_ | with_reducible refine nI_subE ?_ ?_ ?_ | omega | (with_reducible refine congrArg nI ?_; omega))) (by omega) hS.t9 hS.l9 (by omega) (by omega) hs9 ?_
        refine J_p 3 (ls' := [_, _, _]) rfl ?_
        refine J_call rfl rfl rfl rfl rfl (c_inZ (x := nI (10 + n)) (a := 0) (b := 4) (by decide) (by decide) (fun hz => ?_) (fun hz => ?_))
        · skip
          exact absurd hz (inZ_10 (by omega))
        · skip
          show J _ _ _ _ _ _ _
          refine J_zeq rfl (fun _ => ?_) (fun b => absurd rfl b)
          refine J_p 1 (ls' := [_, _, _]) rfl ?_
          exact J_ret rfl rfl rfl (kO _ (by simp only [fElement, h1, hsh, if_true, if_false, reduceIte]))
  · skip
    show J _ _ _ _ _ _ _
    refine J_zeq rfl (fun _ => ?_) (fun b => absurd rfl b)
    refine J_p 1 (ls' := [_, _, _]) rfl ?_
    exact J_ret rfl rfl rfl (kO _ (by simp only [fElement, h1, if_true, if_false, reduceIte]))

theorem s_holds (h : RR M r S) (s : Int32) (k : Q (some (.int (fHolds S s))) M) : J E 240 0 [.ref r, .int s] [] M Q := by
  obtain ⟨g, hg⟩ : ∃ g, mI M (r + 1) = g := ⟨_, rfl⟩
  have hS := h.1
  have hA := h.a
  rw [hg] at hA
  have kO : ∀ x, fHolds S s = x → Q (some (.int x)) (wI M (r + 1) g) := fun x e => by
    rw [e] at k; rw [← hg, wI_id]; exact k
  rw [show M = wI M (r + 1) g by rw [← hg, wI_id]]
  refine J_p 1 (ls' := [_, _]) rfl ?_
  refine J_call rfl rfl rfl rfl rfl (c_isShelf (s := s) (fun j h1 l1 e1 => ?_) (fun h1 => ?_))
  · skip
    subst e1
    show J _ _ _ _ _ _ _
    refine J_zeq rfl (fun b => absurd b (by decide)) (fun _ => ?_)
    have hs := h.s j l1
    cases hsh : s_h S j with
    | none =>
      rw [hsh] at hs
      have hs9 : mI M (r + 9) j = -1 := hs
      refine J_p 1 (ls' := [_, _]) rfl ?_
      refine J_getR rfl hS.t hS.f13 ?_
      refine J_p 1 (ls' := [_, _]) rfl ?_
      refine J_old (n := j) rfl (by repeat' (first | with_reducible rfl | assumption | with_reducible refine nI_decE ?_ | with_reducible refine nI_addE ?_ ?_ | with_reducible refine nI_mulE ?_ ?_ | with_reducible refine nI_subE ?_ ?_ ?_ | omega | (with_reducible refine congrArg nI ?_; omega))) (by omega) hS.t9 hS.l9 (by omega) (by omega) hs9 ?_
      refine J_p 1 (ls' := [_, _]) rfl ?_
      exact J_ret rfl rfl rfl (kO _ (by simp only [fHolds, h1, hsh, if_true, if_false, reduceIte, hoA]))
    | some v =>
      cases v with
      | inl p =>
        obtain ⟨so, els⟩ := p
        rw [hsh] at hs
        obtain ⟨o4, el40, hs9, hs10, hs11⟩ := hs
        refine J_p 1 (ls' := [_, _]) rfl ?_
        refine J_getR rfl hS.t hS.f13 ?_
        refine J_p 1 (ls' := [_, _]) rfl ?_
        refine J_old (n := j) rfl (by repeat' (first | with_reducible rfl | assumption | with_reducible refine nI_decE ?_ | with_reducible refine nI_addE ?_ ?_ | with_reducible refine nI_mulE ?_ ?_ | with_reducible refine nI_subE ?_ ?_ ?_ | omega | (with_reducible refine congrArg nI ?_; omega))) (by omega) hS.t9 hS.l9 (by omega) (by omega) hs9 ?_
        refine J_p 1 (ls' := [_, _]) rfl ?_
        exact J_ret rfl rfl rfl (kO _ (by simp only [fHolds, h1, hsh, if_true, if_false, reduceIte, hoA]))
      | inr c =>
        rw [hsh] at hs
        obtain ⟨n, ⟨n3, n6⟩, hc1, hs9, c0, c1, c2, c3⟩ := hs
        refine J_p 1 (ls' := [_, _]) rfl ?_
        refine J_getR rfl hS.t hS.f13 ?_
        refine J_p 1 (ls' := [_, _]) rfl ?_
        refine J_old (n := j) rfl (by repeat' (first | with_reducible rfl | assumption | with_reducible refine nI_decE ?_ | with_reducible refine nI_addE ?_ ?_ | with_reducible refine nI_mulE ?_ ?_ | with_reducible refine nI_subE ?_ ?_ ?_ | omega | (with_reducible refine congrArg nI ?_; omega))) (by omega) hS.t9 hS.l9 (by omega) (by omega) hs9 ?_
        refine J_p 1 (ls' := [_, _]) rfl ?_
        exact J_ret rfl rfl rfl (kO _ (by simp only [fHolds, h1, hsh, if_true, if_false, reduceIte, hoA]; rw [hc1, nI_add]))
  · skip
    show J _ _ _ _ _ _ _
    refine J_zeq rfl (fun _ => ?_) (fun b => absurd rfl b)
    refine J_p 1 (ls' := [_, _]) rfl ?_
    exact J_ret rfl rfl rfl (kO _ (by simp only [fHolds, h1, if_true, if_false, reduceIte, hoA]))

theorem s_says (h : RR M r S) (w : WfS T S) (hT : T + 100 < 2 ^ 20) (s kd : Int32) (k : ∀ M' : Mm, Fr r M M' → RR M' r (fSays S s kd).2 → WfS (T + 99) (fSays S s kd).2 → Q (some (.int (fSays S s kd).1)) M') : J E 243 0 [.ref r, .int s, .int kd] [] M Q := by
  obtain ⟨g, hg⟩ : ∃ g, mI M (r + 1) = g := ⟨_, rfl⟩
  have hS := h.1
  have hA := h.a
  rw [hg] at hA
  rw [show M = wI M (r + 1) g by rw [← hg, wI_id]]
  have kR : ∀ (v : Nat) (x : Int32), fSays S s kd = rfS S v → x = rfN v → Q (some (.int x)) (wI (rfM M r v) (r + 1) g) := fun v x e ex => by
    rw [e] at k; rw [ex]; exact k _ (Fr.rf hg) (h.rf hg v) (w.rf hT)
  have kO : ∀ (a : Int32) (S' : St) (M' : Mm), fSays S s kd = (a, S') → Fr r M M' → RR M' r S' → WfS (T + 99) S' → Q (some (.int a)) M' := fun a S' M' e => by
    rw [e] at k; exact k M'
  refine J_p 1 (ls' := [_, _, _]) rfl ?_
  refine J_call rfl rfl rfl rfl rfl (c_isShelf (s := s) (fun j h1 l1 e1 => ?_) (fun h1 => ?_))
  · skip
    subst e1
    show J _ _ _ _ _ _ _
    refine J_zeq rfl (fun b => absurd b (by decide)) (fun _ => ?_)
    refine J_p 4 (ls' := [_, _, _]) rfl ?_
    refine J_call rfl rfl rfl rfl rfl (c_inZ0 (x := kd) (b := 6) (b1 := 7) (by decide) rfl (fun b h13 l13 e13 => ?_) (fun h13 => ?_))
    · skip
      subst e13
      show J _ _ _ _ _ _ _
      refine J_zne rfl (fun _ => ?_) (fun b => absurd b (by decide))
      have hs := h.s j l1
      cases hsh : s_h S j with
      | none =>
        rw [hsh] at hs
        have hs9 : mI M (r + 9) j = -1 := hs
        refine J_p 1 (ls' := [_, _, _]) rfl ?_
        refine J_getR rfl hS.t hS.f13 ?_
        refine J_p 1 (ls' := [_, _, _]) rfl ?_
        refine J_old (n := j) rfl (by repeat' (first | with_reducible rfl | assumption | with_reducible refine nI_decE ?_ | with_reducible refine nI_addE ?_ ?_ | with_reducible refine nI_mulE ?_ ?_ | with_reducible refine nI_subE ?_ ?_ ?_ | omega | (with_reducible refine congrArg nI ?_; omega))) (by omega) hS.t9 hS.l9 (by omega) (by omega) hs9 ?_
        refine J_p 3 (ls' := [_, _, _]) rfl ?_
        refine J_call rfl rfl rfl rfl rfl (c_inZ (x := -1) (a := 0) (b := 4) (by decide) (by decide) (fun hz => ?_) (fun hz => ?_))
        · skip
          exact absurd hz inZ_n1
        · skip
          show J _ _ _ _ _ _ _
          refine J_zeq rfl (fun _ => ?_) (fun b => absurd rfl b)
          refine J_p 1 (ls' := [_, _, _]) rfl ?_
          refine J_getR rfl hS.t hS.f13 ?_
          refine J_p 1 (ls' := [_, _, _]) rfl ?_
          refine J_old (n := j) rfl (by repeat' (first | with_reducible rfl | assumption | with_reducible refine nI_decE ?_ | with_reducible refine nI_addE ?_ ?_ | with_reducible refine nI_mulE ?_ ?_ | with_reducible refine nI_subE ?_ ?_ ?_ | omega | (with_reducible refine congrArg nI ?_; omega))) (by omega) hS.t9 hS.l9 (by omega) (by omega) hs9 ?_
          refine J_zge rfl (fun b => absurd b (by decide)) (fun _ => ?_)
          refine J_p 2 (ls' := [_, _, _]) rfl ?_
          refine J_call rfl rfl rfl (decide_eq_true hS.t) rfl (c_refused hS 2 (by decide) (by decide) ?_)
          show J _ _ _ _ _ _ _
          exact J_ret rfl rfl rfl (kR 2 _ (by simp only [fSays, h1, h13, hsh, if_true, if_false, reduceIte]; first | done | rfl) (by decide))
      | some v =>
        cases v with
        | inl p =>
          obtain ⟨so, els⟩ := p
          rw [hsh] at hs
          obtain ⟨o4, el40, hs9, hs10, hs11⟩ := hs
          refine J_p 1 (ls' := [_, _, _]) rfl ?_
          refine J_getR rfl hS.t hS.f13 ?_
          refine J_p 1 (ls' := [_, _, _]) rfl ?_
          refine J_old (n := j) rfl (by repeat' (first | with_reducible rfl | assumption | with_reducible refine nI_decE ?_ | with_reducible refine nI_addE ?_ ?_ | with_reducible refine nI_mulE ?_ ?_ | with_reducible refine nI_subE ?_ ?_ ?_ | omega | (with_reducible refine congrArg nI ?_; omega))) (by omega) hS.t9 hS.l9 (by omega) (by omega) hs9 ?_
          refine J_p 3 (ls' := [_, _, _]) rfl ?_
          refine J_call rfl rfl rfl rfl rfl (c_inZ (x := nI so) (a := 0) (b := 4) (by decide) (by decide) (fun hz => ?_) (fun hz => ?_))
          · skip
            show J _ _ _ _ _ _ _
            refine J_zeq rfl (fun b => absurd b (by decide)) (fun _ => ?_)
            refine J_p 2 (ls' := [_, _, _]) rfl ?_
            refine J_call rfl rfl rfl (decide_eq_true hS.t) rfl (c_refused hS 1 (by decide) (by decide) ?_)
            show J _ _ _ _ _ _ _
            exact J_ret rfl rfl rfl (kR 1 _ (by simp only [fSays, h1, h13, hsh, if_true, if_false, reduceIte]; first | done | rfl) (by decide))
          · skip
            exact absurd (inZ_so (by omega)) hz
        | inr c =>
          rw [hsh] at hs
          obtain ⟨n, ⟨n3, n6⟩, hc1, hs9, c0, c1, c2, c3⟩ := hs
          refine J_p 1 (ls' := [_, _, _]) rfl ?_
          refine J_getR rfl hS.t hS.f13 ?_
          refine J_p 1 (ls' := [_, _, _]) rfl ?_
          refine J_old (n := j) rfl (by repeat' (first | with_reducible rfl | assumption | with_reducible refine nI_decE ?_ | with_reducible refine nI_addE ?_ ?_ | with_reducible refine nI_mulE ?_ ?_ | with_reducible refine nI_subE ?_ ?_ ?_ | omega | (with_reducible refine congrArg nI ?_; omega))) (by omega) hS.t9 hS.l9 (by omega) (by omega) hs9 ?_
          refine J_p 3 (ls' := [_, _, _]) rfl ?_
          refine J_call rfl rfl rfl rfl rfl (c_inZ (x := nI (10 + n)) (a := 0) (b := 4) (by decide) (by decide) (fun hz => ?_) (fun hz => ?_))
          · skip
            exact absurd hz (inZ_10 (by omega))
          · skip
            show J _ _ _ _ _ _ _
            refine J_zeq rfl (fun _ => ?_) (fun b => absurd rfl b)
            refine J_p 1 (ls' := [_, _, _]) rfl ?_
            refine J_getR rfl hS.t hS.f13 ?_
            refine J_p 1 (ls' := [_, _, _]) rfl ?_
            refine J_old (n := j) rfl (by repeat' (first | with_reducible rfl | assumption | with_reducible refine nI_decE ?_ | with_reducible refine nI_addE ?_ ?_ | with_reducible refine nI_mulE ?_ ?_ | with_reducible refine nI_subE ?_ ?_ ?_ | omega | (with_reducible refine congrArg nI ?_; omega))) (by omega) hS.t9 hS.l9 (by omega) (by omega) hs9 ?_
            refine J_zge rfl (fun _ => ?_) (fun b => absurd (nI_pos' (by omega)) b)
            rcases (show b = 0 ∨ b = 1 ∨ b = 2 ∨ b = 3 ∨ b = 4 ∨ b = 5 ∨ b = 6 from by omega) with rfl | rfl | rfl | rfl | rfl | rfl | rfl
            · skip
              refine J_p 1 (ls' := [_, _, _]) rfl ?_
              refine J_getR rfl hS.t hS.f13 ?_
              refine J_p 1 (ls' := [_, _, _]) rfl ?_
              refine J_old (n := j) rfl (by repeat' (first | with_reducible rfl | assumption | with_reducible refine nI_decE ?_ | with_reducible refine nI_addE ?_ ?_ | with_reducible refine nI_mulE ?_ ?_ | with_reducible refine nI_subE ?_ ?_ ?_ | omega | (with_reducible refine congrArg nI ?_; omega))) (by omega) hS.t9 hS.l9 (by omega) (by omega) hs9 ?_
              refine J_p 3 (ls' := [_, _, _]) rfl ?_
              refine J_n1 (n := (10 + n) - 10) (by repeat' (first | with_reducible rfl | assumption | with_reducible refine nI_decE ?_ | with_reducible refine nI_addE ?_ ?_ | with_reducible refine nI_mulE ?_ ?_ | with_reducible refine nI_subE ?_ ?_ ?_ | omega | (with_reducible refine congrArg nI ?_; omega))) ?_
              have e10 : 10 + n - 10 = n := by omega
              have eU : c.1.toInt.toNat = n := by rw [hc1, nI_toInt (by omega)]; rfl
              refine J_call rfl rfl rfl rfl rfl (c_isUnder (n := 10 + n - 10) (k := 0) (by omega) (by omega) (fun hu => ?_) (fun hu => ?_))
              · skip
                rw [e10] at hu
                show J _ _ _ _ _ _ _
                refine J_zne rfl (fun _ => ?_) (fun b => absurd b (by decide))
                refine J_p 1 (ls' := [_, _, _]) rfl ?_
                refine J_zne rfl (fun b => absurd rfl b) (fun _ => ?_)
                refine J_p 1 (ls' := [_, _, _]) rfl ?_
                refine J_getR rfl hS.t hS.f16 ?_
                refine J_p 5 (ls' := [_, _, _]) rfl ?_
                refine J_old (n := 4 * j + 1) rfl (by repeat' (first | with_reducible rfl | assumption | with_reducible refine nI_decE ?_ | with_reducible refine nI_addE ?_ ?_ | with_reducible refine nI_mulE ?_ ?_ | with_reducible refine nI_subE ?_ ?_ ?_ | omega | (with_reducible refine congrArg nI ?_; omega))) (by omega) hS.t12 hS.l12 (by omega) (by omega) c1 ?_
                refine J_p 1 (ls' := [_, _, _]) rfl ?_
                exact J_ret rfl rfl rfl (kO _ S _ (by simp only [fSays, h1, h13, hsh, eU, hu, if_true, if_false, reduceIte, saA]; first | done | rfl) (Fr.wix M _ (by omega) (by omega)) (h.gg hA) (WfS.mono w (by omega) (by omega)))
              · skip
                rw [e10] at hu
                show J _ _ _ _ _ _ _
                refine J_zne rfl (fun b => absurd rfl b) (fun _ => ?_)
                refine J_p 2 (ls' := [_, _, _]) rfl ?_
                refine J_call rfl rfl rfl (decide_eq_true hS.t) rfl (c_refused hS 1 (by decide) (by decide) ?_)
                show J _ _ _ _ _ _ _
                exact J_ret rfl rfl rfl (kR 1 _ (by simp only [fSays, h1, h13, hsh, eU, hu, if_true, if_false, reduceIte]; first | done | rfl) (by decide))
            · skip
              refine J_p 1 (ls' := [_, _, _]) rfl ?_
              refine J_getR rfl hS.t hS.f13 ?_
              refine J_p 1 (ls' := [_, _, _]) rfl ?_
              refine J_old (n := j) rfl (by repeat' (first | with_reducible rfl | assumption | with_reducible refine nI_decE ?_ | with_reducible refine nI_addE ?_ ?_ | with_reducible refine nI_mulE ?_ ?_ | with_reducible refine nI_subE ?_ ?_ ?_ | omega | (with_reducible refine congrArg nI ?_; omega))) (by omega) hS.t9 hS.l9 (by omega) (by omega) hs9 ?_
              refine J_p 3 (ls' := [_, _, _]) rfl ?_
              refine J_n1 (n := (10 + n) - 10) (by repeat' (first | with_reducible rfl | assumption | with_reducible refine nI_decE ?_ | with_reducible refine nI_addE ?_ ?_ | with_reducible refine nI_mulE ?_ ?_ | with_reducible refine nI_subE ?_ ?_ ?_ | omega | (with_reducible refine congrArg nI ?_; omega))) ?_
              have e10 : 10 + n - 10 = n := by omega
              have eU : c.1.toInt.toNat = n := by rw [hc1, nI_toInt (by omega)]; rfl
              refine J_call rfl rfl rfl rfl rfl (c_isUnder (n := 10 + n - 10) (k := 1) (by omega) (by omega) (fun hu => ?_) (fun hu => ?_))
              · skip
                rw [e10] at hu
                show J _ _ _ _ _ _ _
                refine J_zne rfl (fun _ => ?_) (fun b => absurd b (by decide))
                refine J_p 1 (ls' := [_, _, _]) rfl ?_
                refine J_zne rfl (fun _ => ?_) (fun b => absurd b (by decide))
                refine J_p 2 (ls' := [_, _, _]) rfl ?_
                refine J_ige rfl (fun b108 => ?_) (fun b108 => ?_)
                · skip
                  exact absurd b108 (by decide)
                · skip
                  refine J_p 1 (ls' := [_, _, _]) rfl ?_
                  refine J_getR rfl hS.t hS.f16 ?_
                  refine J_p 5 (ls' := [_, _, _]) rfl ?_
                  refine J_old (n := 4 * j + 3) rfl (by repeat' (first | with_reducible rfl | assumption | with_reducible refine nI_decE ?_ | with_reducible refine nI_addE ?_ ?_ | with_reducible refine nI_mulE ?_ ?_ | with_reducible refine nI_subE ?_ ?_ ?_ | omega | (with_reducible refine congrArg nI ?_; omega))) (by omega) hS.t12 hS.l12 (by omega) (by omega) c3 ?_
                  refine J_p 1 (ls' := [_, _, _]) rfl ?_
                  exact J_ret rfl rfl rfl (kO _ S _ (by simp only [fSays, h1, h13, hsh, eU, hu, if_true, if_false, reduceIte, saA]; first | done | rfl) (Fr.wix M _ (by omega) (by omega)) (h.gg hA) (WfS.mono w (by omega) (by omega)))
              · skip
                rw [e10] at hu
                show J _ _ _ _ _ _ _
                refine J_zne rfl (fun b => absurd rfl b) (fun _ => ?_)
                refine J_p 2 (ls' := [_, _, _]) rfl ?_
                refine J_call rfl rfl rfl (decide_eq_true hS.t) rfl (c_refused hS 1 (by decide) (by decide) ?_)
                show J _ _ _ _ _ _ _
                exact J_ret rfl rfl rfl (kR 1 _ (by simp only [fSays, h1, h13, hsh, eU, hu, if_true, if_false, reduceIte]; first | done | rfl) (by decide))
            · skip
              refine J_p 1 (ls' := [_, _, _]) rfl ?_
              refine J_getR rfl hS.t hS.f13 ?_
              refine J_p 1 (ls' := [_, _, _]) rfl ?_
              refine J_old (n := j) rfl (by repeat' (first | with_reducible rfl | assumption | with_reducible refine nI_decE ?_ | with_reducible refine nI_addE ?_ ?_ | with_reducible refine nI_mulE ?_ ?_ | with_reducible refine nI_subE ?_ ?_ ?_ | omega | (with_reducible refine congrArg nI ?_; omega))) (by omega) hS.t9 hS.l9 (by omega) (by omega) hs9 ?_
              refine J_p 3 (ls' := [_, _, _]) rfl ?_
              refine J_n1 (n := (10 + n) - 10) (by repeat' (first | with_reducible rfl | assumption | with_reducible refine nI_decE ?_ | with_reducible refine nI_addE ?_ ?_ | with_reducible refine nI_mulE ?_ ?_ | with_reducible refine nI_subE ?_ ?_ ?_ | omega | (with_reducible refine congrArg nI ?_; omega))) ?_
              have e10 : 10 + n - 10 = n := by omega
              have eU : c.1.toInt.toNat = n := by rw [hc1, nI_toInt (by omega)]; rfl
              refine J_call rfl rfl rfl rfl rfl (c_isUnder (n := 10 + n - 10) (k := 2) (by omega) (by omega) (fun hu => ?_) (fun hu => ?_))
              · skip
                rw [e10] at hu
                show J _ _ _ _ _ _ _
                refine J_zne rfl (fun _ => ?_) (fun b => absurd b (by decide))
                refine J_p 1 (ls' := [_, _, _]) rfl ?_
                refine J_zne rfl (fun b90 => ?_) (fun b90 => ?_)
                · skip
                  refine J_p 2 (ls' := [_, _, _]) rfl ?_
                  refine J_ige rfl (fun b108 => ?_) (fun b108 => ?_)
                  · skip
                    exact absurd b108 (by decide)
                  · skip
                    refine J_p 1 (ls' := [_, _, _]) rfl ?_
                    refine J_getR rfl hS.t hS.f16 ?_
                    refine J_p 5 (ls' := [_, _, _]) rfl ?_
                    refine J_old (n := 4 * j + 3) rfl (by repeat' (first | with_reducible rfl | assumption | with_reducible refine nI_decE ?_ | with_reducible refine nI_addE ?_ ?_ | with_reducible refine nI_mulE ?_ ?_ | with_reducible refine nI_subE ?_ ?_ ?_ | omega | (with_reducible refine congrArg nI ?_; omega))) (by omega) hS.t12 hS.l12 (by omega) (by omega) c3 ?_
                    refine J_p 1 (ls' := [_, _, _]) rfl ?_
                    exact J_ret rfl rfl rfl (kO _ S _ (by simp only [fSays, h1, h13, hsh, eU, hu, if_true, if_false, reduceIte, saA]; first | done | rfl) (Fr.wix M _ (by omega) (by omega)) (h.gg hA) (WfS.mono w (by omega) (by omega)))
                · skip
                  exact absurd b90 (by decide)
              · skip
                rw [e10] at hu
                show J _ _ _ _ _ _ _
                refine J_zne rfl (fun b => absurd rfl b) (fun _ => ?_)
                refine J_p 2 (ls' := [_, _, _]) rfl ?_
                refine J_call rfl rfl rfl (decide_eq_true hS.t) rfl (c_refused hS 1 (by decide) (by decide) ?_)
                show J _ _ _ _ _ _ _
                exact J_ret rfl rfl rfl (kR 1 _ (by simp only [fSays, h1, h13, hsh, eU, hu, if_true, if_false, reduceIte]; first | done | rfl) (by decide))
            · skip
              refine J_p 1 (ls' := [_, _, _]) rfl ?_
              refine J_getR rfl hS.t hS.f13 ?_
              refine J_p 1 (ls' := [_, _, _]) rfl ?_
              refine J_old (n := j) rfl (by repeat' (first | with_reducible rfl | assumption | with_reducible refine nI_decE ?_ | with_reducible refine nI_addE ?_ ?_ | with_reducible refine nI_mulE ?_ ?_ | with_reducible refine nI_subE ?_ ?_ ?_ | omega | (with_reducible refine congrArg nI ?_; omega))) (by omega) hS.t9 hS.l9 (by omega) (by omega) hs9 ?_
              refine J_p 3 (ls' := [_, _, _]) rfl ?_
              refine J_n1 (n := (10 + n) - 10) (by repeat' (first | with_reducible rfl | assumption | with_reducible refine nI_decE ?_ | with_reducible refine nI_addE ?_ ?_ | with_reducible refine nI_mulE ?_ ?_ | with_reducible refine nI_subE ?_ ?_ ?_ | omega | (with_reducible refine congrArg nI ?_; omega))) ?_
              have e10 : 10 + n - 10 = n := by omega
              have eU : c.1.toInt.toNat = n := by rw [hc1, nI_toInt (by omega)]; rfl
              refine J_call rfl rfl rfl rfl rfl (c_isUnder (n := 10 + n - 10) (k := 3) (by omega) (by omega) (fun hu => ?_) (fun hu => ?_))
              · skip
                rw [e10] at hu
                show J _ _ _ _ _ _ _
                refine J_zne rfl (fun _ => ?_) (fun b => absurd b (by decide))
                refine J_p 1 (ls' := [_, _, _]) rfl ?_
                refine J_zne rfl (fun b90 => ?_) (fun b90 => ?_)
                · skip
                  refine J_p 2 (ls' := [_, _, _]) rfl ?_
                  refine J_ige rfl (fun b108 => ?_) (fun b108 => ?_)
                  · skip
                    refine J_p 1 (ls' := [_, _, _]) rfl ?_
                    refine J_getR rfl hS.t hS.f16 ?_
                    refine J_p 5 (ls' := [_, _, _]) rfl ?_
                    refine J_old (n := 4 * j + 2) rfl (by repeat' (first | with_reducible rfl | assumption | with_reducible refine nI_decE ?_ | with_reducible refine nI_addE ?_ ?_ | with_reducible refine nI_mulE ?_ ?_ | with_reducible refine nI_subE ?_ ?_ ?_ | omega | (with_reducible refine congrArg nI ?_; omega))) (by omega) hS.t12 hS.l12 (by omega) (by omega) c2 ?_
                    exact J_ret rfl rfl rfl (kO _ S _ (by simp only [fSays, h1, h13, hsh, eU, hu, if_true, if_false, reduceIte, saA]; first | done | rfl) (Fr.wix M _ (by omega) (by omega)) (h.gg hA) (WfS.mono w (by omega) (by omega)))
                  · skip
                    exact absurd (by decide) b108
                · skip
                  exact absurd b90 (by decide)
              · skip
                rw [e10] at hu
                show J _ _ _ _ _ _ _
                refine J_zne rfl (fun b => absurd rfl b) (fun _ => ?_)
                refine J_p 2 (ls' := [_, _, _]) rfl ?_
                refine J_call rfl rfl rfl (decide_eq_true hS.t) rfl (c_refused hS 1 (by decide) (by decide) ?_)
                show J _ _ _ _ _ _ _
                exact J_ret rfl rfl rfl (kR 1 _ (by simp only [fSays, h1, h13, hsh, eU, hu, if_true, if_false, reduceIte]; first | done | rfl) (by decide))
            · skip
              refine J_p 1 (ls' := [_, _, _]) rfl ?_
              refine J_getR rfl hS.t hS.f13 ?_
              refine J_p 1 (ls' := [_, _, _]) rfl ?_
              refine J_old (n := j) rfl (by repeat' (first | with_reducible rfl | assumption | with_reducible refine nI_decE ?_ | with_reducible refine nI_addE ?_ ?_ | with_reducible refine nI_mulE ?_ ?_ | with_reducible refine nI_subE ?_ ?_ ?_ | omega | (with_reducible refine congrArg nI ?_; omega))) (by omega) hS.t9 hS.l9 (by omega) (by omega) hs9 ?_
              refine J_p 3 (ls' := [_, _, _]) rfl ?_
              refine J_n1 (n := (10 + n) - 10) (by repeat' (first | with_reducible rfl | assumption | with_reducible refine nI_decE ?_ | with_reducible refine nI_addE ?_ ?_ | with_reducible refine nI_mulE ?_ ?_ | with_reducible refine nI_subE ?_ ?_ ?_ | omega | (with_reducible refine congrArg nI ?_; omega))) ?_
              have e10 : 10 + n - 10 = n := by omega
              have eU : c.1.toInt.toNat = n := by rw [hc1, nI_toInt (by omega)]; rfl
              refine J_call rfl rfl rfl rfl rfl (c_isUnder (n := 10 + n - 10) (k := 4) (by omega) (by omega) (fun hu => ?_) (fun hu => ?_))
              · skip
                rw [e10] at hu
                show J _ _ _ _ _ _ _
                refine J_zne rfl (fun _ => ?_) (fun b => absurd b (by decide))
                refine J_p 1 (ls' := [_, _, _]) rfl ?_
                refine J_zne rfl (fun b90 => ?_) (fun b90 => ?_)
                · skip
                  refine J_p 2 (ls' := [_, _, _]) rfl ?_
                  refine J_ige rfl (fun b108 => ?_) (fun b108 => ?_)
                  · skip
                    refine J_p 1 (ls' := [_, _, _]) rfl ?_
                    refine J_getR rfl hS.t hS.f16 ?_
                    refine J_p 5 (ls' := [_, _, _]) rfl ?_
                    refine J_old (n := 4 * j + 2) rfl (by repeat' (first | with_reducible rfl | assumption | with_reducible refine nI_decE ?_ | with_reducible refine nI_addE ?_ ?_ | with_reducible refine nI_mulE ?_ ?_ | with_reducible refine nI_subE ?_ ?_ ?_ | omega | (with_reducible refine congrArg nI ?_; omega))) (by omega) hS.t12 hS.l12 (by omega) (by omega) c2 ?_
                    exact J_ret rfl rfl rfl (kO _ S _ (by simp only [fSays, h1, h13, hsh, eU, hu, if_true, if_false, reduceIte, saA]; first | done | rfl) (Fr.wix M _ (by omega) (by omega)) (h.gg hA) (WfS.mono w (by omega) (by omega)))
                  · skip
                    exact absurd (by decide) b108
                · skip
                  exact absurd b90 (by decide)
              · skip
                rw [e10] at hu
                show J _ _ _ _ _ _ _
                refine J_zne rfl (fun b => absurd rfl b) (fun _ => ?_)
                refine J_p 2 (ls' := [_, _, _]) rfl ?_
                refine J_call rfl rfl rfl (decide_eq_true hS.t) rfl (c_refused hS 1 (by decide) (by decide) ?_)
                show J _ _ _ _ _ _ _
                exact J_ret rfl rfl rfl (kR 1 _ (by simp only [fSays, h1, h13, hsh, eU, hu, if_true, if_false, reduceIte]; first | done | rfl) (by decide))
            · skip
              refine J_p 1 (ls' := [_, _, _]) rfl ?_
              refine J_getR rfl hS.t hS.f13 ?_
              refine J_p 1 (ls' := [_, _, _]) rfl ?_
              refine J_old (n := j) rfl (by repeat' (first | with_reducible rfl | assumption | with_reducible refine nI_decE ?_ | with_reducible refine nI_addE ?_ ?_ | with_reducible refine nI_mulE ?_ ?_ | with_reducible refine nI_subE ?_ ?_ ?_ | omega | (with_reducible refine congrArg nI ?_; omega))) (by omega) hS.t9 hS.l9 (by omega) (by omega) hs9 ?_
              refine J_p 3 (ls' := [_, _, _]) rfl ?_
              refine J_n1 (n := (10 + n) - 10) (by repeat' (first | with_reducible rfl | assumption | with_reducible refine nI_decE ?_ | with_reducible refine nI_addE ?_ ?_ | with_reducible refine nI_mulE ?_ ?_ | with_reducible refine nI_subE ?_ ?_ ?_ | omega | (with_reducible refine congrArg nI ?_; omega))) ?_
              have e10 : 10 + n - 10 = n := by omega
              have eU : c.1.toInt.toNat = n := by rw [hc1, nI_toInt (by omega)]; rfl
              refine J_call rfl rfl rfl rfl rfl (c_isUnder (n := 10 + n - 10) (k := 5) (by omega) (by omega) (fun hu => ?_) (fun hu => ?_))
              · skip
                rw [e10] at hu
                show J _ _ _ _ _ _ _
                refine J_zne rfl (fun _ => ?_) (fun b => absurd b (by decide))
                refine J_p 1 (ls' := [_, _, _]) rfl ?_
                refine J_zne rfl (fun b90 => ?_) (fun b90 => ?_)
                · skip
                  refine J_p 2 (ls' := [_, _, _]) rfl ?_
                  refine J_ige rfl (fun b108 => ?_) (fun b108 => ?_)
                  · skip
                    refine J_p 1 (ls' := [_, _, _]) rfl ?_
                    refine J_getR rfl hS.t hS.f16 ?_
                    refine J_p 5 (ls' := [_, _, _]) rfl ?_
                    refine J_old (n := 4 * j + 2) rfl (by repeat' (first | with_reducible rfl | assumption | with_reducible refine nI_decE ?_ | with_reducible refine nI_addE ?_ ?_ | with_reducible refine nI_mulE ?_ ?_ | with_reducible refine nI_subE ?_ ?_ ?_ | omega | (with_reducible refine congrArg nI ?_; omega))) (by omega) hS.t12 hS.l12 (by omega) (by omega) c2 ?_
                    exact J_ret rfl rfl rfl (kO _ S _ (by simp only [fSays, h1, h13, hsh, eU, hu, if_true, if_false, reduceIte, saA]; first | done | rfl) (Fr.wix M _ (by omega) (by omega)) (h.gg hA) (WfS.mono w (by omega) (by omega)))
                  · skip
                    exact absurd (by decide) b108
                · skip
                  exact absurd b90 (by decide)
              · skip
                rw [e10] at hu
                show J _ _ _ _ _ _ _
                refine J_zne rfl (fun b => absurd rfl b) (fun _ => ?_)
                refine J_p 2 (ls' := [_, _, _]) rfl ?_
                refine J_call rfl rfl rfl (decide_eq_true hS.t) rfl (c_refused hS 1 (by decide) (by decide) ?_)
                show J _ _ _ _ _ _ _
                exact J_ret rfl rfl rfl (kR 1 _ (by simp only [fSays, h1, h13, hsh, eU, hu, if_true, if_false, reduceIte]; first | done | rfl) (by decide))
            · skip
              refine J_p 1 (ls' := [_, _, _]) rfl ?_
              refine J_getR rfl hS.t hS.f13 ?_
              refine J_p 1 (ls' := [_, _, _]) rfl ?_
              refine J_old (n := j) rfl (by repeat' (first | with_reducible rfl | assumption | with_reducible refine nI_decE ?_ | with_reducible refine nI_addE ?_ ?_ | with_reducible refine nI_mulE ?_ ?_ | with_reducible refine nI_subE ?_ ?_ ?_ | omega | (with_reducible refine congrArg nI ?_; omega))) (by omega) hS.t9 hS.l9 (by omega) (by omega) hs9 ?_
              refine J_p 3 (ls' := [_, _, _]) rfl ?_
              refine J_n1 (n := (10 + n) - 10) (by repeat' (first | with_reducible rfl | assumption | with_reducible refine nI_decE ?_ | with_reducible refine nI_addE ?_ ?_ | with_reducible refine nI_mulE ?_ ?_ | with_reducible refine nI_subE ?_ ?_ ?_ | omega | (with_reducible refine congrArg nI ?_; omega))) ?_
              have e10 : 10 + n - 10 = n := by omega
              have eU : c.1.toInt.toNat = n := by rw [hc1, nI_toInt (by omega)]; rfl
              refine J_call rfl rfl rfl rfl rfl (c_isUnder (n := 10 + n - 10) (k := 6) (by omega) (by omega) (fun hu => ?_) (fun hu => ?_))
              · skip
                rw [e10] at hu
                show J _ _ _ _ _ _ _
                refine J_zne rfl (fun _ => ?_) (fun b => absurd b (by decide))
                refine J_p 1 (ls' := [_, _, _]) rfl ?_
                refine J_zne rfl (fun b90 => ?_) (fun b90 => ?_)
                · skip
                  refine J_p 2 (ls' := [_, _, _]) rfl ?_
                  refine J_ige rfl (fun b108 => ?_) (fun b108 => ?_)
                  · skip
                    refine J_p 1 (ls' := [_, _, _]) rfl ?_
                    refine J_getR rfl hS.t hS.f16 ?_
                    refine J_p 5 (ls' := [_, _, _]) rfl ?_
                    refine J_old (n := 4 * j + 2) rfl (by repeat' (first | with_reducible rfl | assumption | with_reducible refine nI_decE ?_ | with_reducible refine nI_addE ?_ ?_ | with_reducible refine nI_mulE ?_ ?_ | with_reducible refine nI_subE ?_ ?_ ?_ | omega | (with_reducible refine congrArg nI ?_; omega))) (by omega) hS.t12 hS.l12 (by omega) (by omega) c2 ?_
                    exact J_ret rfl rfl rfl (kO _ S _ (by simp only [fSays, h1, h13, hsh, eU, hu, if_true, if_false, reduceIte, saA]; first | done | rfl) (Fr.wix M _ (by omega) (by omega)) (h.gg hA) (WfS.mono w (by omega) (by omega)))
                  · skip
                    exact absurd (by decide) b108
                · skip
                  exact absurd b90 (by decide)
              · skip
                rw [e10] at hu
                show J _ _ _ _ _ _ _
                refine J_zne rfl (fun b => absurd rfl b) (fun _ => ?_)
                refine J_p 2 (ls' := [_, _, _]) rfl ?_
                refine J_call rfl rfl rfl (decide_eq_true hS.t) rfl (c_refused hS 1 (by decide) (by decide) ?_)
                show J _ _ _ _ _ _ _
                exact J_ret rfl rfl rfl (kR 1 _ (by simp only [fSays, h1, h13, hsh, eU, hu, if_true, if_false, reduceIte]; first | done | rfl) (by decide))
    · skip
      show J _ _ _ _ _ _ _
      refine J_zne rfl (fun b => absurd rfl b) (fun _ => ?_)
      refine J_p 2 (ls' := [_, _, _]) rfl ?_
      refine J_call rfl rfl rfl (decide_eq_true hS.t) rfl (c_refused hS 0 (by decide) (by decide) ?_)
      show J _ _ _ _ _ _ _
      exact J_ret rfl rfl rfl (kR 0 _ (by simp only [fSays, h1, h13, if_true, if_false, reduceIte]; first | done | rfl) (by decide))
  · skip
    show J _ _ _ _ _ _ _
    refine J_zeq rfl (fun _ => ?_) (fun b => absurd rfl b)
    refine J_p 2 (ls' := [_, _, _]) rfl ?_
    refine J_call rfl rfl rfl (decide_eq_true hS.t) rfl (c_refused hS 0 (by decide) (by decide) ?_)
    show J _ _ _ _ _ _ _
    exact J_ret rfl rfl rfl (kR 0 _ (by simp only [fSays, h1, if_true, if_false, reduceIte]; first | done | rfl) (by decide))

theorem s_show (h : RR M r S) (w : WfS T S) (hT : T + 100 < 2 ^ 20) (s i k0 : Int32) (k : ∀ M' : Mm, Fr r M M' → RR M' r (fShow S s i k0).2 → WfS (T + 99) (fShow S s i k0).2 → Q (some (.int (fShow S s i k0).1)) M') : J E 241 0 [.ref r, .int s, .int i, .int k0, U0] [] M Q := by
  obtain ⟨g, hg⟩ : ∃ g, mI M (r + 1) = g := ⟨_, rfl⟩
  have hS := h.1
  have hA := h.a
  rw [hg] at hA
  rw [show M = wI M (r + 1) g by rw [← hg, wI_id]]
  have kR : ∀ (v : Nat) (x : Int32), fShow S s i k0 = rfS S v → x = rfN v → Q (some (.int x)) (wI (rfM M r v) (r + 1) g) := fun v x e ex => by
    rw [e] at k; rw [ex]; exact k _ (Fr.rf hg) (h.rf hg v) (w.rf hT)
  have kO : ∀ (a : Int32) (S' : St) (M' : Mm), fShow S s i k0 = (a, S') → Fr r M M' → RR M' r S' → WfS (T + 99) S' → Q (some (.int a)) M' := fun a S' M' e => by
    rw [e] at k; exact k M'
  refine J_p 1 (ls' := [_, _, _, _, _]) rfl ?_
  refine J_call rfl rfl rfl rfl rfl (c_isShelf (s := s) (fun j h1 l1 e1 => ?_) (fun h1 => ?_))
  · skip
    subst e1
    show J _ _ _ _ _ _ _
    refine J_zeq rfl (fun b => absurd b (by decide)) (fun _ => ?_)
    refine J_p 2 (ls' := [_, _, _, _, _]) rfl ?_
    refine J_ieq rfl (fun b9 => ?_) (fun b9 => ?_)
    · skip
      refine J_p 2 (ls' := [_, _, _, _, _]) rfl ?_
      refine J_ine rfl (fun b30 => ?_) (fun b30 => ?_)
      · skip
        exact absurd b9 b30
      · skip
        refine J_p 1 (ls' := [_, _, _, _, _]) rfl ?_
        refine J_getR rfl hS.t hS.f13 ?_
        refine J_p 2 (ls' := [_, _, _, _, _]) rfl ?_
        refine J_ost (n := j) rfl (by repeat' (first | with_reducible rfl | assumption | with_reducible refine nI_decE ?_ | with_reducible refine nI_addE ?_ ?_ | with_reducible refine nI_mulE ?_ ?_ | with_reducible refine nI_subE ?_ ?_ ?_ | omega | (with_reducible refine congrArg nI ?_; omega))) (by omega) hS.t9 hS.l9 (by omega) (by omega) ?_
        refine J_p 1 (ls' := [_, _, _, _, _]) rfl ?_
        refine J_ret rfl rfl rfl (kO _ (z_h S j none) _ (by simp only [fShow, h1, if_true, if_false, reduceIte, b9]) ((Fr.six M _ _ (by omega) (by omega)).trans (Fr.wix _ _ (by omega) (by omega))) (h.shelf hg rfl rfl (fun a z1 z2 z3 z4 => mI_s1 _ _ _ z2) (fun i hi => ?_) (fun i hi => ?_) (fun i k hi hk => ?_) (fun i k hi hk => rfl) ?_) (WfS.mono w (by omega) (by omega)))
        · rw [mI_s0, if_neg hi]
        · rw [mI_s1 _ _ _ (by omega)]
        · rw [mI_s1 _ _ _ (by omega)]
        · show mI _ _ _ = -1
          rw [mI_s0, if_pos rfl]
    · skip
      refine J_p 3 (ls' := [_, _, _, _, _]) rfl ?_
      refine J_call rfl rfl rfl (decide_eq_true hS.t) rfl (c_isCause hS hA i k0 (fun n m d c hd hc e1x e2x hk => ?_) (fun hk => ?_))
      · skip
        subst e1x
        subst e2x
        have hD := hA.2.2.2.1.2.2 n d hd
        have d30 := hA.2.2.2.1.1
        have hD5 := hD.1
        have hm5 := li hc
        have hn30 := li hd
        have hC := hD.2.2.2.2.2 m c hc
        have hWc := (w.1.2.2.2.2.1 n d hd).2.2.2.1 m c hc
        show J _ _ _ _ _ _ _
        refine J_zne rfl (fun _ => ?_) (fun b => absurd b (by decide))
        refine J_p 2 (ls' := [_, _, _, _, _]) rfl ?_
        refine J_ine rfl (fun b30 => ?_) (fun b30 => ?_)
        · skip
          refine J_p 4 (ls' := [_, _, _, _, _]) rfl ?_
          refine J_ige rfl (fun b48 => ?_) (fun b48 => ?_)
          · skip
            exact absurd b48 (by decide)
          · skip
            refine J_p 1 (ls' := [_, _, _, _, _]) rfl ?_
            refine J_getR rfl hS.t hS.f16 ?_
            refine J_p 6 (ls' := [_, _, _, _, _]) rfl ?_
            refine J_getR rfl hS.t hS.f0 ?_
            refine J_p 13 (ls' := [_, _, _, _, _]) rfl ?_
            refine J_gld (n := 2751 + 24 * n + 4 + 4 * m + 0) rfl (by repeat' (first | with_reducible rfl | assumption | with_reducible refine nI_decE ?_ | with_reducible refine nI_addE ?_ ?_ | with_reducible refine nI_mulE ?_ ?_ | with_reducible refine nI_subE ?_ ?_ ?_ | omega | (with_reducible refine congrArg nI ?_; omega))) hS (by omega) hC.1 ?_
            refine J_ost (n := 4 * j + 0) rfl (by repeat' (first | with_reducible rfl | assumption | with_reducible refine nI_decE ?_ | with_reducible refine nI_addE ?_ ?_ | with_reducible refine nI_mulE ?_ ?_ | with_reducible refine nI_subE ?_ ?_ ?_ | omega | (with_reducible refine congrArg nI ?_; omega))) (by omega) hS.t12 hS.l12 (by omega) (by omega) ?_
            refine J_p 4 (ls' := [_, _, _, _, _]) rfl ?_
            refine J_n1 (n := 0 + 1) (by repeat' (first | with_reducible rfl | assumption | with_reducible refine nI_decE ?_ | with_reducible refine nI_addE ?_ ?_ | with_reducible refine nI_mulE ?_ ?_ | with_reducible refine nI_subE ?_ ?_ ?_ | omega | (with_reducible refine congrArg nI ?_; omega))) ?_
            refine J_ige rfl (fun b48 => ?_) (fun b48 => ?_)
            · skip
              exact absurd b48 (by decide)
            · skip
              refine J_p 1 (ls' := [_, _, _, _, _]) rfl ?_
              refine J_getR rfl hS.t hS.f16 ?_
              refine J_p 6 (ls' := [_, _, _, _, _]) rfl ?_
              refine J_getR rfl hS.t hS.f0 ?_
              refine J_p 13 (ls' := [_, _, _, _, _]) rfl ?_
              refine J_gld (n := 2751 + 24 * n + 4 + 4 * m + (0 + 1)) rfl (by repeat' (first | with_reducible rfl | assumption | with_reducible refine nI_decE ?_ | with_reducible refine nI_addE ?_ ?_ | with_reducible refine nI_mulE ?_ ?_ | with_reducible refine nI_subE ?_ ?_ ?_ | omega | (with_reducible refine congrArg nI ?_; omega))) hS (by omega) hC.2.1 ?_
              refine J_ost (n := 4 * j + (0 + 1)) rfl (by repeat' (first | with_reducible rfl | assumption | with_reducible refine nI_decE ?_ | with_reducible refine nI_addE ?_ ?_ | with_reducible refine nI_mulE ?_ ?_ | with_reducible refine nI_subE ?_ ?_ ?_ | omega | (with_reducible refine congrArg nI ?_; omega))) (by omega) hS.t12 hS.l12 (by omega) (by omega) ?_
              refine J_p 4 (ls' := [_, _, _, _, _]) rfl ?_
              refine J_n1 (n := 0 + 1 + 1) (by repeat' (first | with_reducible rfl | assumption | with_reducible refine nI_decE ?_ | with_reducible refine nI_addE ?_ ?_ | with_reducible refine nI_mulE ?_ ?_ | with_reducible refine nI_subE ?_ ?_ ?_ | omega | (with_reducible refine congrArg nI ?_; omega))) ?_
              refine J_ige rfl (fun b48 => ?_) (fun b48 => ?_)
              · skip
                exact absurd b48 (by decide)
              · skip
                refine J_p 1 (ls' := [_, _, _, _, _]) rfl ?_
                refine J_getR rfl hS.t hS.f16 ?_
                refine J_p 6 (ls' := [_, _, _, _, _]) rfl ?_
                refine J_getR rfl hS.t hS.f0 ?_
                refine J_p 13 (ls' := [_, _, _, _, _]) rfl ?_
                refine J_gld (n := 2751 + 24 * n + 4 + 4 * m + (0 + 1 + 1)) rfl (by repeat' (first | with_reducible rfl | assumption | with_reducible refine nI_decE ?_ | with_reducible refine nI_addE ?_ ?_ | with_reducible refine nI_mulE ?_ ?_ | with_reducible refine nI_subE ?_ ?_ ?_ | omega | (with_reducible refine congrArg nI ?_; omega))) hS (by omega) hC.2.2.1 ?_
                refine J_ost (n := 4 * j + (0 + 1 + 1)) rfl (by repeat' (first | with_reducible rfl | assumption | with_reducible refine nI_decE ?_ | with_reducible refine nI_addE ?_ ?_ | with_reducible refine nI_mulE ?_ ?_ | with_reducible refine nI_subE ?_ ?_ ?_ | omega | (with_reducible refine congrArg nI ?_; omega))) (by omega) hS.t12 hS.l12 (by omega) (by omega) ?_
                refine J_p 4 (ls' := [_, _, _, _, _]) rfl ?_
                refine J_n1 (n := 0 + 1 + 1 + 1) (by repeat' (first | with_reducible rfl | assumption | with_reducible refine nI_decE ?_ | with_reducible refine nI_addE ?_ ?_ | with_reducible refine nI_mulE ?_ ?_ | with_reducible refine nI_subE ?_ ?_ ?_ | omega | (with_reducible refine congrArg nI ?_; omega))) ?_
                refine J_ige rfl (fun b48 => ?_) (fun b48 => ?_)
                · skip
                  exact absurd b48 (by decide)
                · skip
                  refine J_p 1 (ls' := [_, _, _, _, _]) rfl ?_
                  refine J_getR rfl hS.t hS.f16 ?_
                  refine J_p 6 (ls' := [_, _, _, _, _]) rfl ?_
                  refine J_getR rfl hS.t hS.f0 ?_
                  refine J_p 13 (ls' := [_, _, _, _, _]) rfl ?_
                  refine J_gld (n := 2751 + 24 * n + 4 + 4 * m + (0 + 1 + 1 + 1)) rfl (by repeat' (first | with_reducible rfl | assumption | with_reducible refine nI_decE ?_ | with_reducible refine nI_addE ?_ ?_ | with_reducible refine nI_mulE ?_ ?_ | with_reducible refine nI_subE ?_ ?_ ?_ | omega | (with_reducible refine congrArg nI ?_; omega))) hS (by omega) hC.2.2.2 ?_
                  refine J_ost (n := 4 * j + (0 + 1 + 1 + 1)) rfl (by repeat' (first | with_reducible rfl | assumption | with_reducible refine nI_decE ?_ | with_reducible refine nI_addE ?_ ?_ | with_reducible refine nI_mulE ?_ ?_ | with_reducible refine nI_subE ?_ ?_ ?_ | omega | (with_reducible refine congrArg nI ?_; omega))) (by omega) hS.t12 hS.l12 (by omega) (by omega) ?_
                  refine J_p 4 (ls' := [_, _, _, _, _]) rfl ?_
                  refine J_n1 (n := 0 + 1 + 1 + 1 + 1) (by repeat' (first | with_reducible rfl | assumption | with_reducible refine nI_decE ?_ | with_reducible refine nI_addE ?_ ?_ | with_reducible refine nI_mulE ?_ ?_ | with_reducible refine nI_subE ?_ ?_ ?_ | omega | (with_reducible refine congrArg nI ?_; omega))) ?_
                  refine J_ige rfl (fun b48 => ?_) (fun b48 => ?_)
                  · skip
                    refine J_p 1 (ls' := [_, _, _, _, _]) rfl ?_
                    refine J_getR rfl hS.t hS.f13 ?_
                    refine J_p 3 (ls' := [_, _, _, _, _]) rfl ?_
                    refine J_getR rfl hS.t hS.f16 ?_
                    refine J_p 3 (ls' := [_, _, _, _, _]) rfl ?_
                    refine J_old (n := 4 * j) rfl (by repeat' (first | with_reducible rfl | assumption | with_reducible refine nI_decE ?_ | with_reducible refine nI_addE ?_ ?_ | with_reducible refine nI_mulE ?_ ?_ | with_reducible refine nI_subE ?_ ?_ ?_ | omega | (with_reducible refine congrArg nI ?_; omega))) (by omega) hS.t12 hS.l12 (by omega) (by omega) (show mI (sI (sI (sI (sI M (r + 12) (4 * j + 0) c.1) (r + 12) (4 * j + (0 + 1)) c.2.1) (r + 12) (4 * j + (0 + 1 + 1)) c.2.2.1) (r + 12) (4 * j + (0 + 1 + 1 + 1)) c.2.2.2) (r + 12) (4 * j) = c.1 from by rw [mI_s0, if_neg (by omega), mI_s0, if_neg (by omega), mI_s0, if_neg (by omega), mI_s0, if_pos (by omega)]) ?_
                    refine J_p 1 (ls' := [_, _, _, _, _]) rfl ?_
                    refine J_ost (n := j) rfl (by repeat' (first | with_reducible rfl | assumption | with_reducible refine nI_decE ?_ | with_reducible refine nI_addE ?_ ?_ | with_reducible refine nI_mulE ?_ ?_ | with_reducible refine nI_subE ?_ ?_ ?_ | omega | (with_reducible refine congrArg nI ?_; omega))) (by omega) hS.t9 hS.l9 (by omega) (by omega) ?_
                    refine J_p 1 (ls' := [_, _, _, _, _]) rfl ?_
                    obtain ⟨nn, ⟨nn3, nn6⟩, hcc⟩ : ∃ nn, (3 ≤ nn ∧ nn ≤ 6) ∧ c.1 = nI nn := by
                      rcases hWc with ⟨y | y, _⟩ | ⟨y | y, _⟩
                      · exact ⟨3, by omega, y⟩
                      · exact ⟨4, by omega, y⟩
                      · exact ⟨5, by omega, y⟩
                      · exact ⟨6, by omega, y⟩
                    refine J_ret rfl rfl rfl (kO _ (z_h S j (some (.inr c))) _ (by simp only [fShow, h1, b9, hk, if_true, if_false, reduceIte, b9]) (((((Fr.six M _ _ (by omega) (by omega)).trans (Fr.six _ _ _ (by omega) (by omega))).trans ((Fr.six _ _ _ (by omega) (by omega)).trans (Fr.six _ _ _ (by omega) (by omega)))).trans (Fr.six _ _ _ (by omega) (by omega))).trans (Fr.wix _ _ (by omega) (by omega))) (h.shelf hg rfl rfl (fun a z1 z2 z3 z4 => ?_) (fun i hi => ?_) (fun i hi => ?_) (fun i k hi hk => ?_) (fun i k hi hk => rfl) ⟨nn, ⟨nn3, nn6⟩, hcc, ?_, ?_, ?_, ?_, ?_⟩) (WfS.mono w (by omega) (by omega)))
                    · rw [mI_s1 _ _ _ z2, mI_s1 _ _ _ z4, mI_s1 _ _ _ z4, mI_s1 _ _ _ z4, mI_s1 _ _ _ z4]
                    · rw [mI_s0, if_neg hi, mI_s1 _ _ _ (by omega), mI_s1 _ _ _ (by omega), mI_s1 _ _ _ (by omega), mI_s1 _ _ _ (by omega)]
                    · rw [mI_s1 _ _ _ (by omega), mI_s1 _ _ _ (by omega), mI_s1 _ _ _ (by omega), mI_s1 _ _ _ (by omega), mI_s1 _ _ _ (by omega)]
                    · rw [mI_s1 _ _ _ (by omega), mI_s0, if_neg (by omega), mI_s0, if_neg (by omega), mI_s0, if_neg (by omega), mI_s0, if_neg (by omega)]
                    · rw [mI_s0, if_pos rfl, hcc, nI_add]
                    · rw [mI_s1 _ _ _ (by omega), mI_s0, if_neg (by omega), mI_s0, if_neg (by omega), mI_s0, if_neg (by omega), mI_s0, if_pos (by omega)]
                    · rw [mI_s1 _ _ _ (by omega), mI_s0, if_neg (by omega), mI_s0, if_neg (by omega), mI_s0, if_pos (by omega)]
                    · rw [mI_s1 _ _ _ (by omega), mI_s0, if_neg (by omega), mI_s0, if_pos (by omega)]
                    · rw [mI_s1 _ _ _ (by omega), mI_s0, if_pos (by omega)]
                  · skip
                    exact absurd (by decide) b48
        · skip
          exact absurd b30 b9
      · skip
        show J _ _ _ _ _ _ _
        refine J_zne rfl (fun b => absurd rfl b) (fun _ => ?_)
        refine J_p 2 (ls' := [_, _, _, _, _]) rfl ?_
        refine J_call rfl rfl rfl (decide_eq_true hS.t) rfl (c_refused hS 0 (by decide) (by decide) ?_)
        show J _ _ _ _ _ _ _
        exact J_ret rfl rfl rfl (kR 0 _ (by simp only [fShow, h1, b9, hk, if_true, if_false, reduceIte]; first | done | rfl) (by decide))
  · skip
    show J _ _ _ _ _ _ _
    refine J_zeq rfl (fun _ => ?_) (fun b => absurd rfl b)
    refine J_p 2 (ls' := [_, _, _, _, _]) rfl ?_
    refine J_call rfl rfl rfl (decide_eq_true hS.t) rfl (c_refused hS 0 (by decide) (by decide) ?_)
    show J _ _ _ _ _ _ _
    exact J_ret rfl rfl rfl (kR 0 _ (by simp only [fShow, h1, if_true, if_false, reduceIte]; first | done | rfl) (by decide))

end PUB21