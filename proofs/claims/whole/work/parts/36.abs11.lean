/-! THE ABSTRACT STATE: time passes, in the reference. -/
def ageQ : Nat → Ab → Nat → Nat → Ab × Nat
  | 0, A, _, _ => (A, 0)
  | f + 1, A, q, i => match (a_q A)[q]? with
    | none => (A, 0)
    | some x => match (q_ls x)[i]? with
      | none => (A, 0)
      | some l => if (ageL A q x i l).2 = true then ((ageQ f (ageL A q x i l).1 q i).1, (ageQ f (ageL A q x i l).1 q i).2 + 1) else ageQ f (ageL A q x i l).1 q (i + 1)
def lenQ (A : Ab) (q : Nat) : Nat := match (a_q A)[q]? with
  | none => 0
  | some x => (q_ls x).length
def tickQ : Nat → Ab → Nat → Ab × Nat
  | 0, A, _ => (A, 0)
  | d + 1, A, q => ((tickQ d (ageQ (lenQ A q) A q 0).1 (q + 1)).1, (ageQ (lenQ A q) A q 0).2 + (tickQ d (ageQ (lenQ A q) A q 0).1 (q + 1)).2)
def tickA (A : Ab) : Ab × Nat := tickQ (a_q A).length (w_n A (a_n A + 1)) 0
def passA : Nat → Ab → Ab × Nat
  | 0, A => (A, 0)
  | n + 1, A => ((passA n (tickA A).1).1, (tickA A).2 + (passA n (tickA A).1).2)
section ABS11
variable {g : Nat → Int32} {A : Ab} {T q i : Nat} {x : Qa} {l : La}
theorem aSetL_q {l' : La} (hx : (a_q A)[q]? = some x) : (a_q (aSetL A q x i l'))[q]? = some (x_ls x ((q_ls x).set i l')) := set_get hx
theorem crM_q (A : Ab) (c : Nat) : a_q (crM A c) = a_q A ∧ a_n (crM A c) = a_n A ∧ a_m (crM A c) = a_m A ∧ (a_c (crM A c)).length = (a_c A).length := by
  unfold crM
  split
  · exact ⟨rfl, rfl, rfl, rfl⟩
  · exact ⟨rfl, rfl, rfl, List.length_set ..⟩
theorem age_len (hx : (a_q A)[q]? = some x) (hl : (q_ls x)[i]? = some l) : ∃ x', (a_q (ageL A q x i l).1)[q]? = some x' ∧ (q_ls x').length + (if (ageL A q x i l).2 = true then 1 else 0) = (q_ls x).length ∧ (a_q (ageL A q x i l).1).length = (a_q A).length ∧ a_n (ageL A q x i l).1 = a_n A := by
  have hi := li hl
  have e1 : ((q_ls x).eraseIdx i).length + 1 = (q_ls x).length := by rw [List.length_eraseIdx_of_lt hi]; omega
  unfold ageL failL
  obtain ⟨c1, c2, _⟩ := crM_q A (l_x l)
  split
  · by_cases c : (l_c l).length + 1 = q_tr x
    · simp only [c, if_true, decide_true]
      refine ⟨x_ls (x_di x (q_di x + nI 1)) ((q_ls x).eraseIdx i), ?_, e1, ?_, c2⟩
      · show ((a_q (crM A (l_x l))).set q _)[q]? = _
        rw [c1]; exact set_get hx
      · show ((a_q (crM A (l_x l))).set q _).length = _
        rw [c1, List.length_set]
    · simp only [if_neg c, decide_eq_false c]
      refine ⟨x_ls x ((q_ls x).set i (restL A l (l_x l) (nI 4))), ?_, ?_, ?_, c2⟩
      · show ((a_q (crM A (l_x l))).set q _)[q]? = _
        rw [c1]; exact set_get hx
      · show ((q_ls x).set i _).length + 0 = _
        rw [List.length_set, Nat.add_zero]
      · show ((a_q (crM A (l_x l))).set q _).length = _
        rw [c1, List.length_set]
  · split
    · refine ⟨_, set_get hx, e1, ?_, rfl⟩
      show ((a_q A).set q _).length = _
      rw [List.length_set]
    · refine ⟨_, set_get hx, ?_, ?_, rfl⟩
      · show ((q_ls x).set i _).length + 0 = _
        rw [List.length_set, Nat.add_zero]
      · show ((a_q A).set q _).length = _
        rw [List.length_set]
theorem ageQ_len : ∀ (f : Nat) (A : Ab) (q i : Nat), (a_q (ageQ f A q i).1).length = (a_q A).length ∧ a_n (ageQ f A q i).1 = a_n A
  | 0, _, _, _ => ⟨rfl, rfl⟩
  | f + 1, A, q, i => by
    cases hx : (a_q A)[q]? with
    | none => simp only [ageQ, hx, and_self]
    | some x =>
      cases hl : (q_ls x)[i]? with
      | none => simp only [ageQ, hx, hl, and_self]
      | some l =>
        obtain ⟨_, _, _, e1, e2⟩ := age_len hx hl
        have hu : ageQ (f + 1) A q i = if (ageL A q x i l).2 = true then ((ageQ f (ageL A q x i l).1 q i).1, (ageQ f (ageL A q x i l).1 q i).2 + 1) else ageQ f (ageL A q x i l).1 q (i + 1) := by
          simp only [ageQ, hx, hl]
        rw [hu]
        split
        · obtain ⟨h1, h2⟩ := ageQ_len f (ageL A q x i l).1 q i
          exact ⟨h1.trans e1, h2.trans e2⟩
        · obtain ⟨h1, h2⟩ := ageQ_len f (ageL A q x i l).1 q (i + 1)
          exact ⟨h1.trans e1, h2.trans e2⟩
theorem Wf.tick {t : Nat} (w : Wf T A) (h1 : t ≤ T + 1) (h2 : T + 1 < 2 ^ 20) (ht : a_n A ≤ t) : Wf (T + 1) (w_n A t) := by
  obtain ⟨w1, w2, w3, w4, w5, w6, w7⟩ := w
  refine ⟨⟨h1, h2⟩, fun q x hq => ?_, w3, fun m x hm => ?_, fun i d hi => ?_, w6, w7⟩
  · obtain ⟨a1, a2, a3, a4, a5, a6, a7, a8, a9, a10⟩ := w2 q x hq
    refine ⟨a1, a2, a3, a4, a5, a6, a7, a8, fun j y hj => ?_, a10⟩
    obtain ⟨b1, b2, b3, b4, b5⟩ := a9 j y hj
    exact ⟨b1, b2, b3, by show l_t y ≤ t + 99; omega, b5⟩
  · obtain ⟨b1, b2, b3, b4, b5⟩ := w4 m x hm
    exact ⟨b1, b2, b3, b4, Nat.le_trans b5 ht⟩
  · obtain ⟨b1, b2, b3, b4, b5, b6⟩ := w5 i d hi
    exact ⟨b1, b2, b3, b4, Nat.le_trans b5 ht, b6⟩
variable {E : Nat × Nat} {M : Mm} {r : Nat} {Q : Option Value → Mm → Prop}
theorem c_pass_q (hS : RS M r) (hW : WS M r) {nn tt : Int32} : ∀ (f : Nat) (A : Ab) (g : Nat → Int32) (i dd : Nat) (x : Qa), Rep g A → Wf T A → (a_q A)[q]? = some x → i + f = (q_ls x).length →
    (∀ (g' : Nat → Int32) (x5 : Value), Rep g' (ageQ f A q i).1 → Wf T (ageQ f A q i).1 → J E 211 72 [.ref r, .int nn, .int (nI (dd + (ageQ f A q i).2)), .int tt, .int (nI q), x5] [] (wI M (r + 1) g') Q) →
    J E 211 36 [.ref r, .int nn, .int (nI dd), .int tt, .int (nI q), .int (nI i)] [] (wI M (r + 1) g) Q
  | f, A, g, i, dd, x, h, w, hx, hf, k => by
    have hq : q < 8 := Nat.lt_of_lt_of_le (li hx) h.1.1
    have h20 := (h.1.2.2 q x hx).2.2.2.2.1
    have h35 := (h.1.2.2 q x hx).2.2.2.2.2.1
    refine J_p 4 (ls' := [_, _, _, _, _, _]) rfl ?_
    refine J_call rfl rfl rfl (decide_eq_true hS.t) rfl (c_of hS q 35 (by omega) h35 ?_)
    show J _ _ _ _ _ _ _
    cases f with
    | zero =>
      refine J_ige rfl (fun b => ?_) (fun b => ?_)
      · exact k g _ h w
      · exact absurd (nI_le (a := (q_ls x).length) (b := i) (by omega) (by omega)) b
    | succ f =>
      refine J_ige rfl (fun b => ?_) (fun b => ?_)
      · exact absurd b (nI_ge (a := i) (b := (q_ls x).length) (by omega) (by omega))
      · obtain ⟨l, hl⟩ := get_of (l := q_ls x) (i := i) (by omega)
        obtain ⟨x', hx', hlen, _⟩ := age_len hx hl
        have w' := w.age hx hl
        refine J_p 3 (ls' := [_, _, _, _, _, _]) rfl ?_
        refine J_call rfl rfl rfl (decide_eq_true hS.t) rfl (c_ages hS hW h w hx hl (fun g' hg => ?_))
        show J _ _ _ _ _ _ _
        have hu : ageQ (f + 1) A q i = if (ageL A q x i l).2 = true then ((ageQ f (ageL A q x i l).1 q i).1, (ageQ f (ageL A q x i l).1 q i).2 + 1) else ageQ f (ageL A q x i l).1 q (i + 1) := by
          simp only [ageQ, hx, hl]
        by_cases c : (ageL A q x i l).2 = true
        · rw [if_pos c] at hlen hu ⊢
          rw [hu] at k
          refine J_zeq rfl (fun b => absurd b (by decide)) (fun _ => ?_)
          refine J_p 2 (ls' := [_, _, _, _, _, _]) rfl ?_
          rw [nI_add dd 1]
          refine c_pass_q hS hW f (ageL A q x i l).1 g' i (dd + 1) x' hg w' hx' (by omega) (fun g2 x5 hg2 w2 => ?_)
          have := k g2 x5 hg2 w2
          rw [show dd + 1 + (ageQ f (ageL A q x i l).1 q i).2 = dd + ((ageQ f (ageL A q x i l).1 q i).2 + 1) by omega]
          exact this
        · rw [if_neg c] at hlen hu ⊢
          rw [hu] at k
          refine J_zeq rfl (fun _ => ?_) (fun b => absurd rfl b)
          refine J_p 2 (ls' := [_, _, _, _, _, _]) rfl ?_
          rw [nI_add i 1]
          exact c_pass_q hS hW f (ageL A q x i l).1 g' (i + 1) dd x' hg w' hx' (by omega) k
theorem c_pass_t (hS : RS M r) (hW : WS M r) {nn tt : Int32} : ∀ (d : Nat) (A : Ab) (g : Nat → Int32) (q dd : Nat) (x5 : Value), Rep g A → Wf T A → q + d = (a_q A).length →
    (∀ (g' : Nat → Int32) (x4 x5 : Value), Rep g' (tickQ d A q).1 → Wf T (tickQ d A q).1 → J E 211 78 [.ref r, .int nn, .int (nI (dd + (tickQ d A q).2)), .int tt, x4, x5] [] (wI M (r + 1) g') Q) →
    J E 211 22 [.ref r, .int nn, .int (nI dd), .int tt, .int (nI q), x5] [] (wI M (r + 1) g) Q
  | d, A, g, q, dd, x5, h, w, hd, k => by
    have h8 := h.1.1
    have h0 := h.1.2.1
    refine J_p 2 (ls' := [_, _, _, _, _, _]) rfl ?_
    refine J_getR rfl hS.t hS.f0 ?_
    refine J_p 1 (ls' := [_, _, _, _, _, _]) rfl ?_
    refine J_gld (n := 0) rfl rfl hS (by omega) h0 ?_
    cases d with
    | zero =>
      refine J_ige rfl (fun b => ?_) (fun b => ?_)
      · exact k g _ _ h w
      · exact absurd (nI_le (a := (a_q A).length) (b := q) (by omega) (by omega)) b
    | succ d =>
      refine J_ige rfl (fun b => ?_) (fun b => ?_)
      · exact absurd b (nI_ge (a := q) (b := (a_q A).length) (by omega) (by omega))
      · obtain ⟨x, hx⟩ := get_of (l := a_q A) (i := q) (by omega)
        have hlq : lenQ A q = (q_ls x).length := by unfold lenQ; rw [hx]
        obtain ⟨e1, e2⟩ := ageQ_len (lenQ A q) A q 0
        refine J_p 2 (ls' := [_, _, _, _, _, _]) rfl ?_
        refine c_pass_q hS hW (lenQ A q) A g 0 dd x h w hx (by omega) (fun g' y5 hg w' => ?_)
        refine J_p 2 (ls' := [_, _, _, _, _, _]) rfl ?_
        rw [nI_add q 1]
        refine c_pass_t hS hW d (ageQ (lenQ A q) A q 0).1 g' (q + 1) (dd + (ageQ (lenQ A q) A q 0).2) y5 hg w' (by omega) (fun g2 z4 z5 hg2 w2 => ?_)
        have := k g2 z4 z5 hg2 w2
        rw [Nat.add_assoc]
        exact this
theorem tickQ_len : ∀ (d : Nat) (A : Ab) (q : Nat), (a_q (tickQ d A q).1).length = (a_q A).length ∧ a_n (tickQ d A q).1 = a_n A
  | 0, _, _ => ⟨rfl, rfl⟩
  | d + 1, A, q => by
    obtain ⟨e1, e2⟩ := ageQ_len (lenQ A q) A q 0
    obtain ⟨h1, h2⟩ := tickQ_len d (ageQ (lenQ A q) A q 0).1 (q + 1)
    exact ⟨h1.trans e1, h2.trans e2⟩
theorem c_pass_n (hS : RS M r) (hW : WS M r) {n : Nat} (hn : n < 2 ^ 31) : ∀ (d : Nat) (A : Ab) (g : Nat → Int32) (T t dd : Nat) (x4 x5 : Value), Rep g A → Wf T A → T + d < 2 ^ 20 → t + d = n →
    (∀ g' : Nat → Int32, Rep g' (passA d A).1 → Wf (T + d) (passA d A).1 → Q (some (.int (nI (dd + (passA d A).2)))) (wI M (r + 1) g')) →
    J E 211 4 [.ref r, .int (nI n), .int (nI dd), .int (nI t), x4, x5] [] (wI M (r + 1) g) Q
  | d, A, g, T, t, dd, x4, x5, h, w, hT, hd, k => by
    refine J_p 2 (ls' := [_, _, _, _, _, _]) rfl ?_
    cases d with
    | zero =>
      refine J_ige rfl (fun b => ?_) (fun b => ?_)
      · refine J_p 1 (ls' := [_, _, _, _, _, _]) rfl ?_
        exact J_ret rfl rfl rfl (k g h w)
      · exact absurd (nI_le (a := n) (b := t) (by omega) (by omega)) b
    | succ d =>
      refine J_ige rfl (fun b => ?_) (fun b => ?_)
      · exact absurd b (nI_ge (a := t) (b := n) (by omega) (by omega))
      · have h4 := h.2.2.2.2.1
        refine J_p 1 (ls' := [_, _, _, _, _, _]) rfl ?_
        refine J_getR rfl hS.t hS.f0 ?_
        refine J_p 2 (ls' := [_, _, _, _, _, _]) rfl ?_
        refine J_gld (n := 4) rfl rfl hS (by omega) h4 ?_
        refine J_p 2 (ls' := [_, _, _, _, _, _]) rfl ?_
        refine J_gst (n := 4) rfl rfl hS (by omega) ?_
        rw [nI_add]
        refine J_p 2 (ls' := [_, _, _, _, _, _]) rfl ?_
        have ht := w.1.1
        refine c_pass_t hS hW (a_q A).length (w_n A (a_n A + 1)) _ 0 dd x5 h.n (w.tick (by omega) (by omega) (by omega)) (Nat.zero_add _) (fun g2 z4 z5 hg2 w2 => ?_)
        refine J_p 2 (ls' := [_, _, _, _, _, _]) rfl ?_
        rw [nI_add t 1]
        refine c_pass_n hS hW hn d (tickA A).1 g2 (T + 1) (t + 1) (dd + (tickA A).2) z4 z5 hg2 w2 (by omega) (by omega) (fun g3 hg3 w3 => ?_)
        rw [show T + 1 + d = T + (d + 1) by omega] at w3
        have := k g3 hg3 w3
        rw [Nat.add_assoc]
        exact this
theorem c_passes (hS : RS M r) (hW : WS M r) {n : Nat} (hn : n < 2 ^ 20) (h : Rep g A) (w : Wf T A) (hT : T + n < 2 ^ 20) (k : ∀ g' : Nat → Int32, Rep g' (passA n A).1 → Wf (T + n) (passA n A).1 → Q (some (.int (nI (passA n A).2))) (wI M (r + 1) g')) : J E 211 0 [.ref r, .int (nI n), U0, U0, U0, U0] [] (wI M (r + 1) g) Q := by
  refine J_p 4 (ls' := [_, _, _, _, _, _]) rfl ?_
  refine c_pass_n hS hW (n := n) (by omega) n A g T 0 0 _ _ h w hT (Nat.zero_add _) (fun g' hg w' => ?_)
  rw [Nat.zero_add]
  exact k g' hg w'
end ABS11
