/-! THE ABSTRACT STATE: a tick is a one-letter step; how many are gone. -/
/-- what a tick does to a letter (the time is the new one) -/
def stp (A : Ab) (tr ag : Nat) (l : La) : Option La :=
  if l_s l = 2 ∧ l_t l ≤ a_n A then (if (l_c l).length + 1 = tr then none else some (restL A l (l_x l) (nI 4)))
  else if l_s (rdyA (a_n A) l) = 0 ∧ 0 < ag ∧ ag ≤ a_n A - pbA (a_m A) l then none else some (rdyA (a_n A) l)
theorem stp_cg {A B : Ab} (hn : a_n A = a_n B) (hm : a_m A = a_m B) (tr ag : Nat) : stp A tr ag = stp B tr ag := by
  funext l
  unfold stp restL failC
  rw [hn, hm]
section ABS20
variable {A : Ab} {q i T : Nat} {x : Qa} {l : La}
theorem set_self {α : Type} {L : List α} {i : Nat} {v : α} (h : i < L.length) : (L.set i v)[i]? = some v := by
  rw [List.getElem?_set_self h]
/-- the ageing of a letter -/
theorem age_stp (hx : (a_q A)[q]? = some x) (hl : (q_ls x)[i]? = some l) : ∃ x', a_q (ageL A q x i l).1 = (a_q A).set q x' ∧ q_tr x' = q_tr x ∧ q_ag x' = q_ag x ∧ a_n (ageL A q x i l).1 = a_n A ∧ a_m (ageL A q x i l).1 = a_m A ∧
    ((stp A (q_tr x) (q_ag x) l = none ∧ (ageL A q x i l).2 = true ∧ q_ls x' = (q_ls x).eraseIdx i) ∨ ∃ l', stp A (q_tr x) (q_ag x) l = some l' ∧ (ageL A q x i l).2 = false ∧ q_ls x' = (q_ls x).set i l') := by
  have em := ageL_m A q x i l
  unfold stp
  by_cases c1 : l_s l = 2 ∧ l_t l ≤ a_n A
  · rw [if_pos c1]
    have e1 : ageL A q x i l = (failL A q x i l (l_x l) (nI 4), decide ((l_c l).length + 1 = q_tr x)) := if_pos c1
    by_cases c2 : (l_c l).length + 1 = q_tr x
    · rw [if_pos c2]
      have e2 : failL A q x i l (l_x l) (nI 4) = aDie (crM A (l_x l)) q x i (l_m l) (failC A l (l_x l) (nI 4)) := if_pos c2
      refine ⟨x_ls (x_di x (q_di x + nI 1)) ((q_ls x).eraseIdx i), ?_, rfl, rfl, ?_, em, Or.inl ⟨rfl, ?_, rfl⟩⟩
      · rw [e1]
        show a_q (failL A q x i l (l_x l) (nI 4)) = _
        rw [e2]
        show (a_q (crM A (l_x l))).set q _ = _
        rw [(crM_q A (l_x l)).1]
      · rw [e1]
        show a_n (failL A q x i l (l_x l) (nI 4)) = _
        rw [e2]
        exact (crM_q A (l_x l)).2.1
      · rw [e1]
        exact decide_eq_true c2
    · rw [if_neg c2]
      have e2 : failL A q x i l (l_x l) (nI 4) = aSetL (crM A (l_x l)) q x i (restL A l (l_x l) (nI 4)) := if_neg c2
      refine ⟨x_ls x ((q_ls x).set i (restL A l (l_x l) (nI 4))), ?_, rfl, rfl, ?_, em, Or.inr ⟨_, rfl, ?_, rfl⟩⟩
      · rw [e1]
        show a_q (failL A q x i l (l_x l) (nI 4)) = _
        rw [e2]
        show (a_q (crM A (l_x l))).set q _ = _
        rw [(crM_q A (l_x l)).1]
      · rw [e1]
        show a_n (failL A q x i l (l_x l) (nI 4)) = _
        rw [e2]
        exact (crM_q A (l_x l)).2.1
      · rw [e1]
        exact decide_eq_false c2
  · rw [if_neg c1]
    by_cases c2 : l_s (rdyA (a_n A) l) = 0 ∧ 0 < q_ag x ∧ q_ag x ≤ a_n A - pbA (a_m A) l
    · rw [if_pos c2]
      have e1 : ageL A q x i l = (aDie A q x i (l_m l) ((nI 5, nI (a_n A), nI (a_n A - pbA (a_m A) l), nI (l_c l).length) :: l_c l), true) := (if_neg c1).trans (if_pos c2)
      refine ⟨x_ls (x_di x (q_di x + nI 1)) ((q_ls x).eraseIdx i), ?_, rfl, rfl, ?_, em, Or.inl ⟨rfl, ?_, rfl⟩⟩
      · rw [e1]; rfl
      · rw [e1]; rfl
      · rw [e1]
    · rw [if_neg c2]
      have e1 : ageL A q x i l = (aSetL A q x i (rdyA (a_n A) l), false) := (if_neg c1).trans (if_neg c2)
      refine ⟨x_ls x ((q_ls x).set i (rdyA (a_n A) l)), ?_, rfl, rfl, ?_, em, Or.inr ⟨_, rfl, ?_, rfl⟩⟩
      · rw [e1]; rfl
      · rw [e1]; rfl
      · rw [e1]
theorem ageQ_S (hx : (a_q A)[q]? = some x) (hl : (q_ls x)[i]? = some l) (f : Nat) : ageQ (f + 1) A q i = if (ageL A q x i l).2 = true then ((ageQ f (ageL A q x i l).1 q i).1, (ageQ f (ageL A q x i l).1 q i).2 + 1) else ageQ f (ageL A q x i l).1 q (i + 1) := by
  show (match (a_q A)[q]? with
    | none => (A, 0)
    | some x => match (q_ls x)[i]? with
      | none => (A, 0)
      | some l => if (ageL A q x i l).2 = true then ((ageQ f (ageL A q x i l).1 q i).1, (ageQ f (ageL A q x i l).1 q i).2 + 1) else ageQ f (ageL A q x i l).1 q (i + 1)) = _
  rw [hx]
  show (match (q_ls x)[i]? with
      | none => (A, 0)
      | some l => if (ageL A q x i l).2 = true then ((ageQ f (ageL A q x i l).1 q i).1, (ageQ f (ageL A q x i l).1 q i).2 + 1) else ageQ f (ageL A q x i l).1 q (i + 1)) = _
  rw [hl]
theorem ageQ_fm : ∀ (R P : List La) (A : Ab) (x : Qa), (a_q A)[q]? = some x → q_ls x = P ++ R → ∃ x', (a_q (ageQ R.length A q P.length).1)[q]? = some x' ∧ q_tr x' = q_tr x ∧ q_ag x' = q_ag x ∧ q_ls x' = P ++ R.filterMap (stp A (q_tr x) (q_ag x)) ∧ ∀ p, p ≠ q → (a_q (ageQ R.length A q P.length).1)[p]? = (a_q A)[p]?
  | [], P, A, x, hx, hL => ⟨x, hx, rfl, rfl, hL, fun _ _ => rfl⟩
  | l :: R, P, A, x, hx, hL => by
    have hl : (q_ls x)[P.length]? = some l := by
      rw [hL, List.getElem?_append_right (Nat.le_refl _), Nat.sub_self]
      rfl
    have hlt := li hx
    obtain ⟨x1, e1, e2, e3, e4, e5, e6⟩ := age_stp hx hl
    have hx1 : (a_q (ageL A q x P.length l).1)[q]? = some x1 := by rw [e1]; exact set_self hlt
    have oth : ∀ p, p ≠ q → (a_q (ageL A q x P.length l).1)[p]? = (a_q A)[p]? := fun p hp => by
      rw [e1]
      exact List.getElem?_set_ne (fun h => hp h.symm)
    have ec : stp (ageL A q x P.length l).1 (q_tr x1) (q_ag x1) = stp A (q_tr x) (q_ag x) := by rw [stp_cg e4 e5, e2, e3]
    have es : (l :: R).length = R.length + 1 := rfl
    rw [es, ageQ_S hx hl]
    rcases e6 with ⟨u1, u2, u3⟩ | ⟨l', u1, u2, u3⟩
    · rw [if_pos u2]
      have hL1 : q_ls x1 = P ++ R := by
        rw [u3, hL, List.eraseIdx_append_of_length_le (Nat.le_refl _), Nat.sub_self]
        rfl
      obtain ⟨x', g1, g2, g3, g4, g5⟩ := ageQ_fm R P _ x1 hx1 hL1
      refine ⟨x', g1, g2.trans e2, g3.trans e3, ?_, fun p hp => (g5 p hp).trans (oth p hp)⟩
      rw [g4, ec, List.filterMap_cons, u1]
    · rw [if_neg (by rw [u2]; decide)]
      have hL1 : q_ls x1 = (P ++ [l']) ++ R := by
        rw [u3, hL, List.set_append_right _ _ (Nat.le_refl _), Nat.sub_self, List.append_assoc]
        rfl
      have ep : P.length + 1 = (P ++ [l']).length := by
        rw [List.length_append]
        rfl
      rw [ep]
      obtain ⟨x', g1, g2, g3, g4, g5⟩ := ageQ_fm R (P ++ [l']) _ x1 hx1 hL1
      refine ⟨x', g1, g2.trans e2, g3.trans e3, ?_, fun p hp => (g5 p hp).trans (oth p hp)⟩
      rw [g4, ec, List.filterMap_cons, u1, List.append_assoc]
      rfl
theorem tickQ_fm : ∀ (d : Nat) (A : Ab) (q : Nat), q + d = (a_q A).length → ∀ (p : Nat) (x : Qa), (a_q A)[p]? = some x → ∃ x', (a_q (tickQ d A q).1)[p]? = some x' ∧ (p < q → x' = x) ∧ (q ≤ p → q_tr x' = q_tr x ∧ q_ag x' = q_ag x ∧ q_ls x' = (q_ls x).filterMap (stp A (q_tr x) (q_ag x)))
  | 0, A, q, hq, p, x, hp => ⟨x, hp, fun _ => rfl, fun h => by have := li hp; omega⟩
  | d + 1, A, q, hq, p, x, hp => by
    obtain ⟨y, hy⟩ := get_of (l := a_q A) (i := q) (by omega)
    obtain ⟨y', g1, g2, g3, g4, g5⟩ := ageQ_fm (q := q) (q_ls y) [] A y hy rfl
    have elen : lenQ A q = (q_ls y).length := by unfold lenQ; rw [hy]
    have e0 : ([] : List La).length = 0 := rfl
    rw [e0, ← elen] at g1 g5
    have hl := ageQ_len (lenQ A q) A q 0
    have hm := ageQ_m (lenQ A q) A q 0
    have et : tickQ (d + 1) A q = ((tickQ d (ageQ (lenQ A q) A q 0).1 (q + 1)).1, (ageQ (lenQ A q) A q 0).2 + (tickQ d (ageQ (lenQ A q) A q 0).1 (q + 1)).2) := rfl
    rw [et]
    by_cases c : p = q
    · subst c
      rw [hy] at hp
      cases hp
      obtain ⟨x', h1, h2, h3⟩ := tickQ_fm d (ageQ (lenQ A p) A p 0).1 (p + 1) (by rw [hl.1]; omega) p y' g1
      have := h2 (by omega)
      subst this
      exact ⟨x', h1, fun h => absurd h (by omega), fun _ => ⟨g2, g3, g4⟩⟩
    · obtain ⟨x', h1, h2, h3⟩ := tickQ_fm d (ageQ (lenQ A q) A q 0).1 (q + 1) (by rw [hl.1]; omega) p x (by rw [g5 p c]; exact hp)
      refine ⟨x', h1, fun h => h2 (by omega), fun h => ?_⟩
      obtain ⟨k1, k2, k3⟩ := h3 (by omega)
      rw [stp_cg hl.2 hm] at k3
      exact ⟨k1, k2, k3⟩
/-- the state at the new time -/
def nowA (A : Ab) : Ab := w_n A (a_n A + 1)
theorem tick_fm {p : Nat} (hp : (a_q A)[p]? = some x) : ∃ x', (a_q (tickA A).1)[p]? = some x' ∧ q_tr x' = q_tr x ∧ q_ag x' = q_ag x ∧ q_ls x' = (q_ls x).filterMap (stp (nowA A) (q_tr x) (q_ag x)) := by
  obtain ⟨x', h1, _, h3⟩ := tickQ_fm (a_q A).length (nowA A) 0 (Nat.zero_add _) p x hp
  exact ⟨x', h1, h3 (Nat.zero_le _)⟩
theorem tick_n (A : Ab) : a_n (tickA A).1 = a_n A + 1 := (tickQ_len _ (nowA A) 0).2
theorem tick_q (A : Ab) : (a_q (tickA A).1).length = (a_q A).length := (tickQ_len _ (nowA A) 0).1
/-- what holds of a letter's times -/
def okl (ms : List Ma) (tr ag now : Nat) (l : La) : Prop := l_s l ≤ 2 ∧ (l_s l ≠ 0 → now < l_t l) ∧ l_t l ≤ now + 99 ∧ pbA ms l ≤ now ∧ (l_c l).length < tr ∧ tr ≤ 5 ∧ ag ≤ 999 ∧ now < 2 ^ 20
theorem stp_none {ms : List Ma} {tr ag : Nat} (hm : a_m A = ms) (hk : okl ms tr ag (a_n A) l) (hs : stp (nowA A) tr ag l = none) : gnT tr ag (pbA ms l) (a_n A) l = a_n A + 1 := by
  obtain ⟨k1, k2, k3, k4, k5, k6, k7, k8⟩ := hk
  have nv := nv21
  have wl := wt_le ((l_c l).length + 1)
  have wp := wt_pos (k := (l_c l).length + 1) (by omega)
  have hms : a_m (nowA A) = ms := hm
  have hnn : a_n (nowA A) = a_n A + 1 := rfl
  unfold stp at hs
  rw [hms, hnn] at hs
  unfold gnT rdT
  by_cases c1 : l_s l = 2 ∧ l_t l ≤ a_n A + 1
  · rw [if_pos c1] at hs
    have k2' := k2 (by omega)
    by_cases c2 : (l_c l).length + 1 = tr
    · rw [if_neg (show ¬ l_s l = 0 by omega), if_neg (show ¬ l_s l = 1 by omega), if_pos (show tr ≤ (l_c l).length + 1 by omega), if_pos rfl]
      omega
    · rw [if_neg c2] at hs
      cases hs
  · rw [if_neg c1] at hs
    by_cases c2 : l_s (rdyA (a_n A + 1) l) = 0 ∧ 0 < ag ∧ ag ≤ a_n A + 1 - pbA ms l
    · obtain ⟨d1, d2, d3⟩ := c2
      unfold rdyA at d1
      by_cases c3 : l_s l = 1 ∧ l_t l ≤ a_n A + 1
      · have k2' := k2 (by omega)
        rw [if_neg (show ¬ l_s l = 0 by omega), if_pos c3.1, if_neg (show ¬ l_t l = NV by omega), if_neg (show ¬ ag = 0 by omega)]
        omega
      · rw [if_neg c3] at d1
        rw [if_pos d1, if_neg (show ¬ a_n A = NV by omega), if_neg (show ¬ ag = 0 by omega)]
        omega
    · rw [if_neg c2] at hs
      cases hs
theorem stp_some {ms : List Ma} {tr ag : Nat} {l' : La} (hm : a_m A = ms) (hk : okl ms tr ag (a_n A) l) (hs : stp (nowA A) tr ag l = some l') : gnT tr ag (pbA ms l') (a_n A + 1) l' = gnT tr ag (pbA ms l) (a_n A) l ∧ a_n A + 1 < gnT tr ag (pbA ms l) (a_n A) l ∧ rdT tr (a_n A + 1) l' = max (rdT tr (a_n A) l) (a_n A + 1) ∧ l_m l' = l_m l ∧ (l_s l' ≠ 0 → a_n A + 1 < l_t l') := by
  obtain ⟨k1, k2, k3, k4, k5, k6, k7, k8⟩ := hk
  have nv := nv21
  have wl := wt_le ((l_c l).length + 1)
  have wp := wt_pos (k := (l_c l).length + 1) (by omega)
  have hms : a_m (nowA A) = ms := hm
  have hnn : a_n (nowA A) = a_n A + 1 := rfl
  have pbm : ∀ y : La, l_m y = l_m l → pbA ms y = pbA ms l := fun y hy => by unfold pbA; rw [hy]
  unfold stp at hs
  rw [hms, hnn] at hs
  by_cases c1 : l_s l = 2 ∧ l_t l ≤ a_n A + 1
  · rw [if_pos c1] at hs
    have k2' := k2 (by omega)
    by_cases c2 : (l_c l).length + 1 = tr
    · rw [if_pos c2] at hs
      cases hs
    · rw [if_neg c2] at hs
      cases hs
      have et : l_t (restL (nowA A) l (l_x l) (nI 4)) = a_n A + 1 + wt ((l_c l).length + 1) := rfl
      have es : l_s (restL (nowA A) l (l_x l) (nI 4)) = 1 := rfl
      have er : rdT tr (a_n A) l = l_t l + wt ((l_c l).length + 1) := by
        unfold rdT
        rw [if_neg (show ¬ l_s l = 0 by omega), if_neg (show ¬ l_s l = 1 by omega), if_neg (show ¬ tr ≤ (l_c l).length + 1 by omega)]
      have er' : rdT tr (a_n A + 1) (restL (nowA A) l (l_x l) (nI 4)) = a_n A + 1 + wt ((l_c l).length + 1) := by
        unfold rdT
        rw [if_neg (show ¬ l_s (restL (nowA A) l (l_x l) (nI 4)) = 0 by rw [es]; omega), if_pos es, et]
      rw [pbm (restL (nowA A) l (l_x l) (nI 4)) rfl]
      unfold gnT
      rw [er, er']
      rw [if_neg (show ¬ a_n A + 1 + wt ((l_c l).length + 1) = NV by omega), if_neg (show ¬ l_t l + wt ((l_c l).length + 1) = NV by omega)]
      refine ⟨?_, ?_, by omega, rfl, fun _ => by rw [et]; omega⟩
      · by_cases ca : ag = 0
        · rw [if_pos ca, if_pos ca]
        · rw [if_neg ca, if_neg ca]
          omega
      · by_cases ca : ag = 0
        · rw [if_pos ca]
          omega
        · rw [if_neg ca]
          omega
  · rw [if_neg c1] at hs
    by_cases c2 : l_s (rdyA (a_n A + 1) l) = 0 ∧ 0 < ag ∧ ag ≤ a_n A + 1 - pbA ms l
    · rw [if_pos c2] at hs
      cases hs
    · rw [if_neg c2] at hs
      cases hs
      rw [pbm (rdyA (a_n A + 1) l) (rdyA_m _ _)]
      by_cases c3 : l_s l = 1 ∧ l_t l ≤ a_n A + 1
      · have k2' := k2 (by omega)
        have e0 : l_s (rdyA (a_n A + 1) l) = 0 := by unfold rdyA; rw [if_pos c3]
        have er : rdT tr (a_n A) l = l_t l := by
          unfold rdT
          rw [if_neg (show ¬ l_s l = 0 by omega), if_pos c3.1]
        have er' : rdT tr (a_n A + 1) (rdyA (a_n A + 1) l) = a_n A + 1 := by
          unfold rdT
          rw [if_pos e0]
        unfold gnT
        rw [er, er', if_neg (show ¬ a_n A + 1 = NV by omega), if_neg (show ¬ l_t l = NV by omega)]
        refine ⟨?_, ?_, by omega, rdyA_m _ _, fun h => absurd e0 h⟩
        · by_cases ca : ag = 0
          · rw [if_pos ca, if_pos ca]
          · rw [if_neg ca, if_neg ca]
            omega
        · by_cases ca : ag = 0
          · rw [if_pos ca]
            omega
          · rw [if_neg ca]
            omega
      · have el : rdyA (a_n A + 1) l = l := by unfold rdyA; rw [if_neg c3]
        rw [el] at c2 ⊢
        by_cases s0 : l_s l = 0
        · have er : ∀ n, rdT tr n l = n := fun n => by unfold rdT; rw [if_pos s0]
          unfold gnT
          rw [er, er, if_neg (show ¬ a_n A + 1 = NV by omega), if_neg (show ¬ a_n A = NV by omega)]
          refine ⟨?_, ?_, by omega, rfl, fun h => absurd s0 h⟩
          · by_cases ca : ag = 0
            · rw [if_pos ca, if_pos ca]
            · rw [if_neg ca, if_neg ca]
              omega
          · by_cases ca : ag = 0
            · rw [if_pos ca]
              omega
            · rw [if_neg ca]
              omega
        · have k2' := k2 s0
          have lt : a_n A + 1 < l_t l := by omega
          have er : rdT tr (a_n A + 1) l = rdT tr (a_n A) l := by
            unfold rdT
            rw [if_neg s0, if_neg s0]
          have ge : a_n A + 1 < rdT tr (a_n A) l := by
            unfold rdT
            rw [if_neg s0]
            split
            · exact lt
            · split <;> omega
          unfold gnT
          rw [er]
          refine ⟨?_, ?_, by omega, rfl, fun _ => lt⟩
          · by_cases cv : rdT tr (a_n A) l = NV
            · rw [if_pos cv, if_pos cv]
            · rw [if_neg cv, if_neg cv]
              by_cases ca : ag = 0
              · rw [if_pos ca, if_pos ca]
              · rw [if_neg ca, if_neg ca]
                omega
          · by_cases cv : rdT tr (a_n A) l = NV
            · rw [if_pos cv]
              exact lt
            · rw [if_neg cv]
              by_cases ca : ag = 0
              · rw [if_pos ca]
                omega
              · rw [if_neg ca]
                omega
theorem gn_now {ms : List Ma} {tr ag now : Nat} (hk : okl ms tr ag now l) : now < gnT tr ag (pbA ms l) now l := by
  obtain ⟨k1, k2, k3, k4, k5, k6, k7, k8⟩ := hk
  have nv := nv21
  unfold gnT rdT
  by_cases s0 : l_s l = 0
  · rw [if_pos s0, if_neg (show ¬ now = NV by omega)]
    split <;> omega
  · have k2' := k2 s0
    rw [if_neg s0]
    repeat' split
    all_goals omega
end ABS20