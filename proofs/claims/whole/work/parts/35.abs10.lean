/-! THE ABSTRACT STATE: ageing of one letter, in the reference. -/
section ABS10
variable {g : Nat → Int32} {A : Ab} {T q i : Nat} {x : Qa} {l : La}
theorem WfL.rdy (h : WfL A q x l) (n : Nat) : WfL A q x (rdyA n l) := by
  unfold rdyA
  split
  · exact ⟨h.1, Nat.zero_le 2, h.2.2.1, h.2.2.2.1, h.2.2.2.2.1, h.2.2.2.2.2.1, fun e => by cases e⟩
  · exact h
theorem Wf.rdy (w : Wf T A) (hx : (a_q A)[q]? = some x) (hl : (q_ls x)[i]? = some l) (n : Nat) : Wf T (aSetL A q x i (rdyA n l)) := w.setL hx hl (rdyA_m n l) ((w.ls hx hl).rdy n)
theorem Rep.old (h : Rep g A) (w : Wf T A) (hx : (a_q A)[q]? = some x) (hl : (q_ls x)[i]? = some l) : oldS g q i = nI (a_n A - pbA (a_m A) l) ∧ (oldD g q i ↔ l_s l = 0 ∧ 0 < q_ag x ∧ q_ag x ≤ a_n A - pbA (a_m A) l) := by
  obtain ⟨_, _, _, _, p1, p2⟩ := h.ky w hx hl
  have hn : a_n A < 2 ^ 20 := by have := w.1; omega
  have hag := (w.2.1 q x hx).2.2.2.2.1
  have hs := (w.ls hx hl).2.1
  have e1 : oldS g q i = nI (a_n A - pbA (a_m A) l) := by
    show g 4 - pbS g q i = _
    rw [p1, h.2.2.2.2.1]
    exact nI_subE rfl rfl p2
  refine ⟨e1, ?_⟩
  unfold oldD
  rw [e1, (h.letter hx hl).2.2.1, (h.1.2.2 q x hx).2.2.1.2.2.2.1]
  rw [show ((nI (l_s l) = (0 : Int32)) ↔ l_s l = 0) from nI_eq (b := 0) (by omega) (by omega), show ((0 : Int32) < nI (q_ag x) ↔ 0 < q_ag x) from nI_ltI (a := 0) (by omega) (by omega), nI_leI (by omega) (by omega)]
variable {E : Nat × Nat} {M : Mm} {r : Nat} {Q : Option Value → Mm → Prop}
/-- from pc 53 on: what rests may be ready, what is old dies -/
theorem c_ages_b (hS : RS M r) (h : Rep g A) (w : Wf T A) (hx : (a_q A)[q]? = some x) (hl : (q_ls x)[i]? = some l) (h4 : (l_c l).length ≤ 4)
    (k1 : l_s (rdyA (a_n A) l) = 0 ∧ 0 < q_ag x ∧ q_ag x ≤ a_n A - pbA (a_m A) l → ∀ g', Rep g' (aDie A q x i (l_m l) ((nI 5, nI (a_n A), nI (a_n A - pbA (a_m A) l), nI (l_c l).length) :: l_c l)) → Q (some (.int (nI 1))) (wI M (r + 1) g'))
    (k2 : ¬ (l_s (rdyA (a_n A) l) = 0 ∧ 0 < q_ag x ∧ q_ag x ≤ a_n A - pbA (a_m A) l) → ∀ g', Rep g' (aSetL A q x i (rdyA (a_n A) l)) → Q (some (.int (nI 0))) (wI M (r + 1) g')) (x3 : Value) : J E 210 53 [.ref r, .int (nI q), .int (nI i), x3] [] (wI M (r + 1) g) Q := by
  have hi := li hl
  have h20 := (h.1.2.2 q x hx).2.2.2.2.1
  have hq : q < 8 := Nat.lt_of_lt_of_le (li hx) h.1.1
  have hL := w.ls hx hl
  have hn : a_n A < 2 ^ 20 := by have := w.1; omega
  obtain ⟨n, hn1⟩ : ∃ n, (q_ls x).length = n + 1 := ⟨(q_ls x).length - 1, by omega⟩
  obtain ⟨em, h300⟩ := h.msg w hx hl
  have hr := h.rdy hx hl hL.2.1 (by have := hL.2.2.2.1; omega) (by omega)
  have wr := w.rdy hx hl (a_n A)
  obtain ⟨o1, o2⟩ := hr.old (q := q) (i := i) (x := x_ls x ((q_ls x).set i (rdyA (a_n A) l))) (l := rdyA (a_n A) l) wr (set_get hx) (set_get hl)
  have ep : pbA (a_m A) (rdyA (a_n A) l) = pbA (a_m A) l := by unfold pbA; rw [rdyA_m]
  have o1' : oldS (gRdy g q i) q i = nI (a_n A - pbA (a_m A) l) := by rw [← ep]; exact o1
  have o2' : oldD (gRdy g q i) q i ↔ l_s (rdyA (a_n A) l) = 0 ∧ 0 < q_ag x ∧ q_ag x ≤ a_n A - pbA (a_m A) l := by rw [← ep]; exact o2
  refine c_ages_2 (n := n) (nd := (a_d A).length) (my := (l_c l).length) hS hq (by omega) (by omega) h.2.2.2.1.1 h4 ?_ h.2.2.2.1.2.1 (by rw [em]; exact h300) (by rw [em]; exact (h.letter hx hl).2.1) (h.letter hx hl).2.2.2.2.2.2.1 (fun o => ?_) (fun o => ?_) x3
  · rw [← hn1]; exact (h.1.2.2 q x hx).2.2.2.2.2.1
  · rw [o1', em]
    refine k1 (o2'.mp o) _ ?_
    have hd := hr.die1 (q := q) (i := i) (n := n) (x := x_ls x ((q_ls x).set i (rdyA (a_n A) l))) (l := rdyA (a_n A) l) (what := nI 5) (number := nI (a_n A - pbA (a_m A) l)) (set_get hx) (set_get hl) (by show ((q_ls x).set i _).length = n + 1; rw [List.length_set]; exact hn1) (by decide) (by rw [rdyA_c]; exact h4)
    rw [aDie_set, rdyA_m, rdyA_c] at hd
    exact hd
  · exact k2 (fun y => o (o2'.mpr y)) _ hr
theorem restL_rdy (l : La) (c : Nat) (what : Int32) : rdyA (a_n A) (restL A l c what) = restL A l c what := by
  unfold rdyA
  rw [if_neg]
  rintro ⟨_, h⟩
  have := wt_pos (k := (l_c l).length + 1) (by omega)
  have h' : a_n A + wt ((l_c l).length + 1) ≤ a_n A := h
  omega
theorem WfL.rest (h : WfL A q x l) (c : Nat) {what : Int32} (hw : what = nI 3 ∨ what = nI 4) (ht : (l_c l).length + 1 ≠ q_tr x) : WfL A q x (restL A l c what) := by
  have := wt_le ((l_c l).length + 1)
  refine ⟨h.1, by show 1 ≤ 2; decide, ?_, ?_, fun d hd => ?_, WfC_fail A l c h.2.2.2.2.2.1 hw, fun e => by cases e⟩
  · show (l_c l).length + 1 < q_tr x
    have := h.2.2.1
    omega
  · show a_n A + wt ((l_c l).length + 1) ≤ a_n A + 99
    omega
  · rcases List.mem_cons.mp hd with rfl | hd
    · exact hw
    · exact h.2.2.2.2.1 d hd
theorem Wf.fail {c : Nat} {what : Int32} {k : Co} (w : Wf T A) (hx : (a_q A)[q]? = some x) (hl : (q_ls x)[i]? = some l) (hk : (a_c A)[c]? = some k) (h0 : k_lf k = 0) (hw : what = nI 3 ∨ what = nI 4) : Wf T (failL A q x i l c what) := by
  have w1 := w.cr hk h0
  unfold failL
  rw [crM_eq hk]
  split
  · exact w1.die (q := q) (x := x) hx hl (WfC_fail A l c (w.ls hx hl).2.2.2.2.2.1 hw) (by show 1 ≤ (l_c l).length + 1; omega)
  · rename_i ht
    exact w1.setL (q := q) (x := x) (l := l) hx hl rfl (WfL.rest (A := w_c A ((a_c A).set c (kMore k))) (w1.ls (q := q) (x := x) hx hl) c hw ht)
theorem Wf.age (w : Wf T A) (hx : (a_q A)[q]? = some x) (hl : (q_ls x)[i]? = some l) : Wf T (ageL A q x i l).1 := by
  unfold ageL
  split
  · rename_i hc
    obtain ⟨k, hk, h0, _⟩ := (w.ls hx hl).2.2.2.2.2.2 hc.1
    exact w.fail hx hl hk h0 (Or.inr rfl)
  · split
    · refine w.die hx hl (fun k d hk => ?_) (by show 1 ≤ (l_c l).length + 1; omega)
      cases k with
      | zero =>
        obtain rfl : _ = d := Option.some.inj hk
        exact Or.inr ⟨Or.inl rfl, rfl⟩
      | succ k =>
        have := (w.ls hx hl).2.2.2.2.2.1 k d hk
        show (_ ∧ d.2.2.2 = nI ((l_c l).length + 1 - (k + 1))) ∨ (_ ∧ d.2.2.2 = nI ((l_c l).length + 1 - (k + 1) - 1))
        rw [Nat.add_sub_add_right]
        exact this
    · exact w.rdy hx hl _
theorem out_iff (h : Rep g A) (w : Wf T A) (hx : (a_q A)[q]? = some x) (hl : (q_ls x)[i]? = some l) : outD g q i ↔ l_s l = 2 ∧ l_t l ≤ a_n A := by
  have hL := h.letter hx hl
  have hW := w.ls hx hl
  have hn : a_n A < 2 ^ 20 := by have := w.1; omega
  unfold outD
  rw [hL.2.2.1, nI_eq (by have := hW.2.1; omega) (by omega)]
  refine and_congr_right (fun e => ?_)
  exact till_le hL h.2.2.2.2.1 (by omega) (by have := hW.2.2.2.1; omega) (by omega)
theorem c_ages (hS : RS M r) (hW : WS M r) (h : Rep g A) (w : Wf T A) (hx : (a_q A)[q]? = some x) (hl : (q_ls x)[i]? = some l)
    (k : ∀ g', Rep g' (ageL A q x i l).1 → Q (some (.int (nI (if (ageL A q x i l).2 = true then 1 else 0)))) (wI M (r + 1) g')) : J E 210 0 [.ref r, .int (nI q), .int (nI i), U0] [] (wI M (r + 1) g) Q := by
  have hi := li hl
  have h20 := (h.1.2.2 q x hx).2.2.2.2.1
  have hq : q < 8 := Nat.lt_of_lt_of_le (li hx) h.1.1
  have hL := h.letter hx hl
  have hWl := w.ls hx hl
  have htr := (w.2.1 q x hx).2.2.1.2
  have hlen := hWl.2.2.1
  obtain ⟨n, hn1⟩ : ∃ n, (q_ls x).length = n + 1 := ⟨(q_ls x).length - 1, by omega⟩
  have oi := out_iff h w hx hl
  have wtE : mI M (r + 5) ((l_c l).length + 1) = nI (wt ((l_c l).length + 1)) := hW _ (by omega)
  refine c_ages_1 (n := n) (nd := (a_d A).length) (my := (l_c l).length) (ff := (l_c l).length + 1) (c := l_x l) (m := nI (l_m l)) (w := nI (wt ((l_c l).length + 1))) hS hq (by omega) (by omega) h.2.2.2.1.1 (by rw [← hn1]; exact (h.1.2.2 q x hx).2.2.2.2.2.1) h.2.2.2.1.2.1 hL.2.1 (fun o => ?_) (fun o e => ?_) (fun o e => ?_) (fun o => ?_)
  · have o' := oi.mp o
    obtain ⟨k', hk', _⟩ := hWl.2.2.2.2.2.2 o'.1
    have hc : l_x l < 10 := Nat.lt_of_lt_of_le (li hk') h.2.1.1
    exact ⟨by omega, by omega, hc, wtE, by rw [hL.2.2.2.1, nI_add], hL.2.2.2.2.2.2.1, (whoI_eq h w hx hl hc).mpr ⟨o'.1, rfl⟩⟩
  · have o' := oi.mp o
    obtain ⟨k', hk', _⟩ := hWl.2.2.2.2.2.2 o'.1
    obtain ⟨f1, f2, f3⟩ := h.failT (what := nI 4) w hx hl hn1 hk'
    rw [f3] at e
    have e' := f2.mp e
    have ea : ageL A q x i l = (failL A q x i l (l_x l) (nI 4), decide ((l_c l).length + 1 = q_tr x)) := by unfold ageL; rw [if_pos o']
    rw [ea] at k
    simp only [decide_eq_true e', if_true] at k
    exact k _ f1
  · have o' := oi.mp o
    obtain ⟨k', hk', hk0, _⟩ := hWl.2.2.2.2.2.2 o'.1
    obtain ⟨f1, f2, f3⟩ := h.failT (what := nI 4) w hx hl hn1 hk'
    rw [f3] at e
    have e' : ¬ ((l_c l).length + 1 = q_tr x) := fun y => e (f2.mpr y)
    have ea : ageL A q x i l = (failL A q x i l (l_x l) (nI 4), decide ((l_c l).length + 1 = q_tr x)) := by unfold ageL; rw [if_pos o']
    rw [ea] at k
    simp only [decide_eq_false e'] at k
    have ef : failL A q x i l (l_x l) (nI 4) = aSetL (crM A (l_x l)) q x i (restL A l (l_x l) (nI 4)) := by unfold failL; rw [if_neg e']
    have w1 := w.fail hx hl hk' hk0 (what := nI 4) (Or.inr rfl)
    rw [ef] at f1 k w1
    rw [crM_eq hk'] at f1 k w1
    have er := restL_rdy (A := w_c A ((a_c A).set (l_x l) (kMore k'))) l (l_x l) (nI 4)
    refine c_ages_b (q := q) (i := i) (x := x_ls x ((q_ls x).set i (restL A l (l_x l) (nI 4)))) (l := restL A l (l_x l) (nI 4)) hS f1 w1 (set_get hx) (set_get hl) (by show (l_c l).length + 1 ≤ 4; omega) (fun y => ?_) (fun y g' hg => ?_) _
    · have y1 := y.1
      have : l_s (rdyA (a_n A) (restL A l (l_x l) (nI 4))) = 0 := y1
      rw [restL_rdy] at this
      cases this
    · refine k g' ?_
      have e2 : aSetL (aSetL (w_c A ((a_c A).set (l_x l) (kMore k'))) q x i (restL A l (l_x l) (nI 4))) q (x_ls x ((q_ls x).set i (restL A l (l_x l) (nI 4)))) i (restL A l (l_x l) (nI 4)) = aSetL (w_c A ((a_c A).set (l_x l) (kMore k'))) q x i (restL A l (l_x l) (nI 4)) := aSetL_id (A := aSetL (w_c A ((a_c A).set (l_x l) (kMore k'))) q x i (restL A l (l_x l) (nI 4))) (set_get hx) (set_get hl)
      rw [← e2]
      have hg' : Rep g' (aSetL (aSetL (w_c A ((a_c A).set (l_x l) (kMore k'))) q x i (restL A l (l_x l) (nI 4))) q (x_ls x ((q_ls x).set i (restL A l (l_x l) (nI 4)))) i (rdyA (a_n A) (restL A l (l_x l) (nI 4)))) := hg
      rw [restL_rdy] at hg'
      exact hg'
  · have o' : ¬ (l_s l = 2 ∧ l_t l ≤ a_n A) := fun y => o (oi.mpr y)
    unfold ageL at k
    rw [if_neg o'] at k
    refine c_ages_b hS h w hx hl (by omega) (fun y g' hg => ?_) (fun y g' hg => ?_) _
    · rw [if_pos y] at k
      exact k g' hg
    · rw [if_neg y] at k
      exact k g' hg
end ABS10
