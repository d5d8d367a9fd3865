/-! THE COMPONENT: room (what may still be made); letters counted. -/
def phL (l : La) : Nat := if l_s l = 2 then 2 else 1
def phQ (L : List La) : Nat := (L.map phL).sum
def phA (A : Ab) : Nat := ((a_q A).map (fun x => phQ (q_ls x))).sum
theorem phL_1 (l : La) : 1 ≤ phL l ∧ phL l ≤ 2 := by
  unfold phL
  split <;> omega
theorem sm_set {α : Type} (f : α → Nat) (v : α) : ∀ (L : List α) (i : Nat) (x : α), L[i]? = some x → ((L.set i v).map f).sum + f x = (L.map f).sum + f v
  | [], i, x, h => by cases h
  | y :: L, 0, x, h => by
    cases h
    show (f v + (L.map f).sum) + f y = (f y + (L.map f).sum) + f v
    omega
  | y :: L, i + 1, x, h => by
    have := sm_set f v L i x h
    show (f y + ((L.set i v).map f).sum) + f x = (f y + (L.map f).sum) + f v
    omega
theorem sm_er {α : Type} (f : α → Nat) : ∀ (L : List α) (i : Nat) (x : α), L[i]? = some x → ((L.eraseIdx i).map f).sum + f x = (L.map f).sum
  | [], i, x, h => by cases h
  | y :: L, 0, x, h => by
    cases h
    show (L.map f).sum + f y = f y + (L.map f).sum
    omega
  | y :: L, i + 1, x, h => by
    have := sm_er f L i x h
    show (f y + ((L.eraseIdx i).map f).sum) + f x = f y + (L.map f).sum
    omega
/-- letters of the first queues -/
def lnS (L : List Qa) : Nat → Nat
  | 0 => 0
  | k + 1 => lnS L k + (q_ls (L.getD k ([], [], (0, 0, 0, 0, 0, 0), (0, 0, 0), []))).length
/-- cells made, within what the potential allows -/
def Gw (M M' : Mm) (A B : Ab) (c : Nat) : Prop := mN M' + phA B ≤ mN M + phA A + c ∧ mU M' + 6 * mN M = mU M + 6 * mN M' ∧ mN M ≤ mN M'
theorem Gw.refl (M : Mm) (A : Ab) : Gw M M A A 0 := ⟨by omega, rfl, Nat.le_refl _⟩
theorem Gw.trans {M1 M2 M3 : Mm} {A B C : Ab} {c d : Nat} (h1 : Gw M1 M2 A B c) (h2 : Gw M2 M3 B C d) : Gw M1 M3 A C (c + d) := by
  obtain ⟨a1, a2, a3⟩ := h1
  obtain ⟨b1, b2, b3⟩ := h2
  exact ⟨by omega, by omega, by omega⟩
section COMP24
variable {E : Nat × Nat} {M M' : Mm} {W : Nat → Prop} {Q : Option Value → Mm → Prop} {w t g a c q p i b m : Nat} {o o' f f' : Nat → Nat} {F F' : Nat → Nat → Nat} {A : Ab} {k : Co} {d : Da} {x x' : Qa} {ms : List Ma} {l l' : La} {cs : List Ca} {what : Int32}
theorem phA_set (hx : (a_q A)[q]? = some x) : phA (w_q A ((a_q A).set q x')) + phQ (q_ls x) = phA A + phQ (q_ls x') := sm_set (fun x => phQ (q_ls x)) x' (a_q A) q x hx
theorem ph_setL (hx : (a_q A)[q]? = some x) (hl : (q_ls x)[i]? = some l) : phA (aSetL A q x i l') + phL l = phA A + phL l' := by
  have h1 := phA_set (x' := x_ls x ((q_ls x).set i l')) hx
  have h2 : phQ ((q_ls x).set i l') + phL l = phQ (q_ls x) + phL l' := sm_set phL l' (q_ls x) i l hl
  have h3 : phA (w_q A ((a_q A).set q (x_ls x ((q_ls x).set i l')))) + phQ (q_ls x) = phA A + phQ ((q_ls x).set i l') := h1
  unfold aSetL
  omega
theorem ph_die (hx : (a_q A)[q]? = some x) (hl : (q_ls x)[i]? = some l) : phA (aDie A q x i m cs) + phL l = phA A := by
  have h1 : phA (w_q A ((a_q A).set q (x_ls (x_di x (q_di x + nI 1)) ((q_ls x).eraseIdx i)))) + phQ (q_ls x) = phA A + phQ ((q_ls x).eraseIdx i) := phA_set (x' := x_ls (x_di x (q_di x + nI 1)) ((q_ls x).eraseIdx i)) hx
  have h2 : phQ ((q_ls x).eraseIdx i) + phL l = phQ (q_ls x) := sm_er phL (q_ls x) i l hl
  have h3 : phA (aDie A q x i m cs) = phA (w_q A ((a_q A).set q (x_ls (x_di x (q_di x + nI 1)) ((q_ls x).eraseIdx i)))) := rfl
  omega
theorem ph_crm (A : Ab) (c : Nat) : phA (crM A c) = phA A := by
  unfold phA
  rw [(crM_q A c).1]
theorem ph_fail (hx : (a_q A)[q]? = some x) (hl : (q_ls x)[i]? = some l) (h2 : l_s l = 2) : phA (failL A q x i l c what) + 1 ≤ phA A := by
  have hx' : (a_q (crM A c))[q]? = some x := by rw [(crM_q A c).1]; exact hx
  have e2 : phL l = 2 := if_pos h2
  unfold failL
  split
  · have := ph_die (m := l_m l) (cs := failC A l c what) hx' hl
    rw [ph_crm] at this
    omega
  · have := ph_setL (l' := restL A l c what) hx' hl
    have e1 : phL (restL A l c what) = 1 := if_neg (show ¬ 1 = 2 by omega)
    rw [ph_crm] at this
    omega
theorem ph_age (hx : (a_q A)[q]? = some x) (hl : (q_ls x)[i]? = some l) : agN A x l + phA (ageL A q x i l).1 ≤ phA A := by
  unfold agN ageL
  by_cases c1 : l_s l = 2 ∧ l_t l ≤ a_n A
  · rw [if_pos c1, if_pos c1]
    have := ph_fail (c := l_x l) (what := nI 4) hx hl c1.1
    show 1 + phA (failL A q x i l (l_x l) (nI 4)) ≤ _
    omega
  · rw [if_neg c1, if_neg c1]
    by_cases c2 : l_s (rdyA (a_n A) l) = 0 ∧ 0 < q_ag x ∧ q_ag x ≤ a_n A - pbA (a_m A) l
    · rw [if_pos c2, if_pos c2]
      have := ph_die (m := l_m l) (cs := (nI 5, nI (a_n A), nI (a_n A - pbA (a_m A) l), nI (l_c l).length) :: l_c l) hx hl
      have := phL_1 l
      show 1 + phA (aDie A q x i (l_m l) _) ≤ _
      omega
    · rw [if_neg c2, if_neg c2]
      have h1 := ph_setL (l' := rdyA (a_n A) l) hx hl
      have h2 : phL (rdyA (a_n A) l) ≤ phL l := by
        rcases rdyA_s (a_n A) l with e | e
        · unfold phL; rw [e]; exact Nat.le_refl _
        · have : phL (rdyA (a_n A) l) = 1 := by unfold phL; rw [e]; rfl
          have := phL_1 l
          omega
      show 0 + phA (aSetL A q x i (rdyA (a_n A) l)) ≤ _
      omega
theorem c_countLetters (hS : OS M w t g o F) (hC : OC M w t g o F A) (K : Q (some (.int (nI (lnS (a_q A) (a_q A).length)))) M) : J E 100 0 [.ref w, U0, U0] [] M Q := by
  have n8 := hC.2.1.2
  have loop : ∀ (d kk : Nat), kk + d = (a_q A).length → J E 100 4 [.ref w, .int (nI (lnS (a_q A) kk)), .int (nI kk)] [] M Q := by
    intro d
    induction d with
    | zero =>
      intro kk hk
      obtain rfl : kk = (a_q A).length := by omega
      refine J_p 2 (ls' := [_, _, _]) rfl ?_
      refine J_gi rfl hS.1.1 hC.2.1.1 ?_
      refine J_ige rfl (fun _ => ?_) (fun b => absurd (nI_le (by omega) (by omega)) b)
      refine J_p 1 (ls' := [_, _, _]) rfl ?_
      exact J_ret rfl rfl rfl K
    | succ d ih =>
      intro kk hk
      obtain ⟨x, hx⟩ := get_of (l := a_q A) (i := kk) (by omega)
      have hQ := hS.qs (q := kk) (by omega)
      refine J_p 2 (ls' := [_, _, _]) rfl ?_
      refine J_gi rfl hS.1.1 hC.2.1.1 ?_
      refine J_ige rfl (fun b => absurd b (nI_ge (by omega) (by omega))) (fun _ => ?_)
      refine J_p 2 (ls' := [_, _, _]) rfl ?_
      refine J_getR rfl hS.1.1 hS.1.2.2.1 ?_
      refine J_p 1 (ls' := [_, _, _]) rfl ?_
      refine J_aald (n := kk) rfl rfl (by rw [hS.2.2.1.1]; rfl) hS.2.2.1.2.1 (by omega) (by omega) (hS.2.2.1.2.2 kk (by omega)).1 ?_
      refine J_gi rfl hQ.1 (hC.qc hx).n ?_
      refine J_p 1 (ls' := [_, _, _]) rfl ?_
      have e1 : lnS (a_q A) (kk + 1) = lnS (a_q A) kk + (q_ls x).length := by
        show lnS (a_q A) kk + _ = _
        rw [getD_of hx]
      refine J_t0 ((nI_add (lnS (a_q A) kk) (q_ls x).length).trans (by rw [← e1])) ?_
      refine J_p 3 (ls' := [_, _, _]) rfl ?_
      rw [nI_add kk 1]
      exact ih (kk + 1) (by omega)
  refine J_p 4 (ls' := [_, _, _]) rfl ?_
  exact loop (a_q A).length 0 (by omega)
end COMP24