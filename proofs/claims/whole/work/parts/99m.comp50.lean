/-! THE COMPONENT: the world's constructor, the messages'. -/
def WB (M : Mm) (w t g : Nat) : Prop := mT M w = 9 ∧ mR M w 0 = some g ∧ mR M w 8 = some t ∧ mI M w = (fun k => if k = 10 then nI 1 else 0) ∧ PS M t ∧ mI M t = fun _ => 0
def WQ (M : Mm) (w t n : Nat) : Prop := mR M w 2 = some (t + 3) ∧ mT M (t + 3) = 28 ∧ mS M (t + 3) = 8 ∧ ∀ q, q < n → mR M (t + 3) q = some (t + 4 + 25 * q) ∧ QS M (t + 4 + 25 * q) q (fun i => i)
def WC (M : Mm) (w t n : Nat) : Prop := mR M w 4 = some (t + 204) ∧ mT M (t + 204) = 23 ∧ mS M (t + 204) = 10 ∧ ∀ c, c < n → mR M (t + 204) c = some (t + 205 + c) ∧ mT M (t + 205 + c) = 1 ∧ mI M (t + 205 + c) 0 = nI c
def WD (M : Mm) (w t n : Nat) : Prop := mR M w 6 = some (t + 215) ∧ mT M (t + 215) = 24 ∧ mS M (t + 215) = 30 ∧ ∀ i, i < n → mR M (t + 215) i = some (t + 216 + i) ∧ mT M (t + 216 + i) = 2
section COMP50
variable {E : Nat × Nat} {M M' M1 M2 X Y : Mm} {W : Nat → Prop} {Q : Option Value → Mm → Prop} {a b w t g n q i : Nat} {f : Nat → Nat}
theorem Sm.T {z : Nat} (h : Sm X Y z) : mT Y z = mT X z ∧ mS Y z = mS X z := by
  unfold mT mS
  rw [h.1]
  exact ⟨rfl, rfl⟩
theorem WB.fr (h : WB X w t g) (e1 : Y.1 w = X.1 w) (eI : mI Y w = mI X w) (e0 : mR Y w 0 = mR X w 0) (e8 : mR Y w 8 = mR X w 8) (hS : ∀ z, t ≤ z → z < t + 3 → Sm X Y z) : WB Y w t g := by
  obtain ⟨h1, h2, h3, h4, h5, h6⟩ := h
  refine ⟨by unfold mT; rw [e1]; exact h1, by rw [e0]; exact h2, by rw [e8]; exact h3, by rw [eI]; exact h4, h5.fr (hS _ (by omega) (by omega)).1 (hS _ (by omega) (by omega)).1 (hS _ (by omega) (by omega)).1 (hS _ (by omega) (by omega)).2.2.2, by rw [(hS t (by omega) (by omega)).2.1]; exact h6⟩
theorem WQ.fr (h : WQ X w t n) (eR : mR Y w 2 = mR X w 2) (hS : ∀ z, t + 3 ≤ z → z < t + 4 + 25 * n → Sm X Y z) : WQ Y w t n := by
  obtain ⟨h1, h2, h3, h4⟩ := h
  have s3 := hS (t + 3) (by omega) (by omega)
  refine ⟨by rw [eR]; exact h1, by rw [s3.T.1]; exact h2, by rw [s3.T.2]; exact h3, fun q hq => ⟨by rw [s3.2.2.2]; exact (h4 q hq).1, (h4 q hq).2.fr (fun z h1 h2 => (hS z (by omega) (by omega)).1) (by rw [(hS _ (by omega) (by omega)).2.1]) (fun z h1 h2 => (hS z (by omega) (by omega)).2.2.2)⟩⟩
theorem WC.fr (h : WC X w t n) (eR : mR Y w 4 = mR X w 4) (hS : ∀ z, t + 204 ≤ z → z < t + 205 + n → Sm X Y z) : WC Y w t n := by
  obtain ⟨h1, h2, h3, h4⟩ := h
  have s3 := hS (t + 204) (by omega) (by omega)
  refine ⟨by rw [eR]; exact h1, by rw [s3.T.1]; exact h2, by rw [s3.T.2]; exact h3, fun c hc => ⟨by rw [s3.2.2.2]; exact (h4 c hc).1, by rw [(hS _ (by omega) (by omega)).T.1]; exact (h4 c hc).2.1, by rw [(hS _ (by omega) (by omega)).2.1]; exact (h4 c hc).2.2⟩⟩
theorem c_msgNew (ht : mT M g = 4) (hN : mN M = g + 1) (k : ∀ M' : Mm, mN M' = g + 6 → mU M' = mU M + 1500 → Nx M M' g → MsS M' g → Q none M') : J E 18 0 [.ref g] [] M Q := by
  refine J_p 1 (ls' := [_]) rfl ?_
  refine J_oin rfl rfl ?_
  have step : ∀ (j : Nat) (X : Mm), mN X = g + 1 + j → mT X g = 4 → (∀ i, i < j → mR X g i = some (g + 1 + i) ∧ mT X (g + 1 + i) = 20 ∧ mS X (g + 1 + i) = 300) → Nx M X g → mU X = mU M + 300 * j → mT (nC X 20 300) g = 4 ∧ (mN (sR (nC X 20 300) g j (some (mN X))) = g + 1 + (j + 1) ∧ mT (sR (nC X 20 300) g j (some (mN X))) g = 4 ∧ (∀ i, i < j + 1 → mR (sR (nC X 20 300) g j (some (mN X))) g i = some (g + 1 + i) ∧ mT (sR (nC X 20 300) g j (some (mN X))) (g + 1 + i) = 20 ∧ mS (sR (nC X 20 300) g j (some (mN X))) (g + 1 + i) = 300) ∧ Nx M (sR (nC X 20 300) g j (some (mN X))) g ∧ mU (sR (nC X 20 300) g j (some (mN X))) = mU M + 300 * (j + 1)) := fun j X h1 h2 h3 h4 h5 => by
    have x : Nx X (nC X 20 300) (g + 1 + j) := Nx.nC (by omega)
    have t4 : mT (nC X 20 300) g = 4 := by rw [(x.T (by omega)).1]; exact h2
    refine ⟨t4, by show mN X + 1 = _; omega, t4, fun i hi => ?_, (h4.trans (x.le (by omega))).trans (Nx.sR (Nat.le_refl _)), by show mU X + 300 = _; omega⟩
    by_cases c : i = j
    · subst c
      refine ⟨by rw [mR_s0, if_pos rfl, h1], ?_, ?_⟩
      · show mT (nC X 20 300) (g + 1 + i) = 20
        rw [nC_T, if_pos h1.symm]
      · show mS (nC X 20 300) (g + 1 + i) = 300
        rw [nC_S, if_pos h1.symm]
    · obtain ⟨u1, u2, u3⟩ := h3 i (by omega)
      refine ⟨by rw [mR_s0, if_neg c, (x g (by omega)).2.2.2]; exact u1, ?_, ?_⟩
      · show mT (nC X 20 300) (g + 1 + i) = 20
        rw [(x.T (by omega)).1]; exact u2
      · show mS (nC X 20 300) (g + 1 + i) = 300
        rw [(x.T (by omega)).2]; exact u3
  obtain ⟨p0, q1, q2, q3, q4, q5⟩ := step 0 M (by omega) ht (fun i hi => absurd hi (by omega)) (Nx.refl M g) (by omega)
  refine J_p 2 (ls' := [_]) rfl ?_
  refine J_newa (n := 300) rfl rfl (by omega) ?_
  refine J_putR rfl p0 ?_
  obtain ⟨M1, hM1⟩ : ∃ M1, sR (nC M 20 300) g 0 (some (mN M)) = M1 := ⟨_, rfl⟩
  rw [hM1] at q1 q2 q3 q4 q5 ⊢
  obtain ⟨p0, q1, q2, q3, q4, q5⟩ := step 1 M1 q1 q2 q3 q4 q5
  refine J_p 2 (ls' := [_]) rfl ?_
  refine J_newa (n := 300) rfl rfl (by omega) ?_
  refine J_putR rfl p0 ?_
  obtain ⟨M2, hM2⟩ : ∃ M2, sR (nC M1 20 300) g 1 (some (mN M1)) = M2 := ⟨_, rfl⟩
  rw [hM2] at q1 q2 q3 q4 q5 ⊢
  obtain ⟨p0, q1, q2, q3, q4, q5⟩ := step 2 M2 q1 q2 q3 q4 q5
  refine J_p 2 (ls' := [_]) rfl ?_
  refine J_newa (n := 300) rfl rfl (by omega) ?_
  refine J_putR rfl p0 ?_
  obtain ⟨M3, hM3⟩ : ∃ M3, sR (nC M2 20 300) g 2 (some (mN M2)) = M3 := ⟨_, rfl⟩
  rw [hM3] at q1 q2 q3 q4 q5 ⊢
  obtain ⟨p0, q1, q2, q3, q4, q5⟩ := step 3 M3 q1 q2 q3 q4 q5
  refine J_p 2 (ls' := [_]) rfl ?_
  refine J_newa (n := 300) rfl rfl (by omega) ?_
  refine J_putR rfl p0 ?_
  obtain ⟨M4, hM4⟩ : ∃ M4, sR (nC M3 20 300) g 3 (some (mN M3)) = M4 := ⟨_, rfl⟩
  rw [hM4] at q1 q2 q3 q4 q5 ⊢
  obtain ⟨p0, q1, q2, q3, q4, q5⟩ := step 4 M4 q1 q2 q3 q4 q5
  refine J_p 2 (ls' := [_]) rfl ?_
  refine J_newa (n := 300) rfl rfl (by omega) ?_
  refine J_putR rfl p0 ?_
  exact J_ret rfl rfl rfl (k _ q1 q5 q4 ⟨q2, q3⟩)
theorem c_worldNew (ht : mT M w = 9) (hI : mI M w = fun _ => 0) (hN : mN M = t) (hwt : w < t) (hg : g + 5 < t) (hgw : g + 5 < w ∨ w < g) (hG : MsS M g) (k : ∀ M' : Mm, mN M' = t + 246 → mU M' = mU M + 2183 → (∀ z, z < t → z ≠ w → Sm M M' z) → OS M' w t g (fun i => i) (fun _ i => i) → mI M' w = (fun k => if k = 10 then nI 1 else 0) → mI M' t = (fun _ => 0) → Q none M') : J E 67 0 [.ref w, .ref g, U0] [] M Q := by
  refine J_p 1 (ls' := [_, _, _]) rfl ?_
  refine J_oin rfl rfl ?_
  refine J_p 2 (ls' := [_, _, _]) rfl ?_
  refine J_putR rfl ht ?_
  refine J_p 1 (ls' := [_, _, _]) rfl ?_
  refine J_new rfl ?_
  have n0 : mN (sR M w 0 (some g)) = t := hN
  rw [n0]
  have x0 : Nx (sR M w 0 (some g)) (nC (sR M w 0 (some g)) 5 6) t := Nx.nC (by rw [n0]; exact Nat.le_refl _)
  refine J_p 1 (ls' := [_, _, _]) rfl ?_
  refine J_call rfl rfl rfl rfl rfl (c_patNew (by rw [nC_T, if_pos n0.symm]) (by rw [nC_I, if_pos n0.symm]) (by show mN M + 1 = _; omega) (fun M1 hN1 hU1 hX1 hP1 hI1 => ?_))
  show J _ _ _ _ _ _ _
  have x1 := x0.trans hX1
  have t1 : mT M1 w = 9 := by rw [(x1.T (by omega)).1]; exact ht
  refine J_putR rfl t1 ?_
  refine J_p 2 (ls' := [_, _, _]) rfl ?_
  refine J_putI rfl (show mT (sR M1 w 8 (some t)) w = 9 from t1) (Or.inl rfl) ?_
  refine J_p 2 (ls' := [_, _, _]) rfl ?_
  refine J_newq (n := 8) rfl rfl (by omega) ?_
  obtain ⟨X0, hX0⟩ : ∃ X0, sI (sR M1 w 8 (some t)) w 10 (nI 1) = X0 := ⟨_, rfl⟩
  have b0 : WB X0 w t g := by
    rw [← hX0]
    refine ⟨t1, ?_, ?_, ?_, hP1.fr rfl rfl rfl (by show mR (sR M1 w 8 (some t)) t = _; rw [mR_s1 _ _ _ (by omega)]), ?_⟩
    · show mR (sR M1 w 8 (some t)) w 0 = some g
      rw [mR_s0, if_neg (by decide), (x1 w hwt).2.2.2, mR_s0, if_pos rfl]
    · show mR (sR M1 w 8 (some t)) w 8 = some t
      rw [mR_s0, if_pos rfl]
    · funext j
      rw [mI_s0]
      by_cases c : j = 10
      · rw [if_pos c, if_pos c]
      · rw [if_neg c, if_neg c, mI_sR, (x1 w hwt).2.1, mI_sR, hI]
    · rw [mI_s1 _ _ _ (by omega), mI_sR]
      exact hI1 t (by omega) (by omega)
  have nX : mN X0 = t + 3 := by rw [← hX0]; exact hN1
  have uX : mU X0 = mU M + 29 := by rw [← hX0]; show mU M1 = _; rw [hU1]; show mU M + 6 + 23 = _; omega
  have oX : ∀ z, z < t → z ≠ w → Sm M X0 z := fun z h1 h2 => by
    rw [← hX0]
    have e1 : Sm M (sR M w 0 (some g)) z := ⟨rfl, rfl, rfl, by rw [mR_s1 _ _ _ h2]⟩
    have e2 : Sm M1 (sI (sR M1 w 8 (some t)) w 10 (nI 1)) z := ⟨rfl, by rw [mI_s1 _ _ _ h2, mI_sR], rfl, by show mR (sR M1 w 8 (some t)) z = _; rw [mR_s1 _ _ _ h2]⟩
    exact (e1.trans (x1 z h1)).trans e2
  rw [hX0]
  rw [nX]
  have xq : Nx X0 (nC X0 28 8) (t + 3) := Nx.nC (by omega)
  refine J_putR rfl (by rw [(xq.T (by omega)).1]; exact b0.1) ?_
  -- the dead
  have loopD : ∀ (d i : Nat) (X : Mm), i + d = 30 → mN X = t + 216 + i → WB X w t g → WQ X w t 8 → WC X w t 10 → WD X w t i → (∀ z, z < t → z ≠ w → Sm M X z) → mU X = mU M + 29 + 8 + 1936 + 60 + 30 + 4 * i → J E 67 110 [.ref w, .ref g, .int (nI i)] [] X Q := by
    intro d
    induction d with
    | zero =>
      intro i X hi h1 h2 h3 h4 h5 h6 h7
      obtain rfl : i = 30 := by omega
      refine J_p 2 (ls' := [_, _, _]) rfl ?_
      refine J_ige rfl (fun _ => ?_) (fun y => absurd (nI_le (by omega) (by omega)) y)
      obtain ⟨b1, b2, b3, b4, b5, b6⟩ := h2
      obtain ⟨q1, q2, q3, q4⟩ := h3
      obtain ⟨c1, c2, c3, c4⟩ := h4
      obtain ⟨d1, d2, d3, d4⟩ := h5
      refine J_ret rfl rfl rfl (k X (by omega) (by omega) h6 ⟨⟨b1, b2, q1, c1, d1, b3⟩, b5, ⟨q2, q3, q4⟩, ⟨c2, c3, c4⟩, ⟨d2, d3, fun i hi => ⟨(d4 i hi).1, hi⟩, fun i j _ _ e => e, fun i hi => (d4 i hi).2⟩, ?_, ⟨hwt, hg, hgw⟩, by omega⟩ b4 b6)
      exact hG.fp (fun z z1 z2 => (h6 z (by omega) (by omega)).1) (by rw [(h6 g (by omega) (by omega)).2.2.2])
    | succ d ih =>
      intro i X hi h1 h2 h3 h4 h5 h6 h7
      obtain ⟨d1, d2, d3, d4⟩ := h5
      refine J_p 2 (ls' := [_, _, _]) rfl ?_
      refine J_ige rfl (fun y => absurd y (nI_ge (by omega) (by omega))) (fun _ => ?_)
      refine J_p 1 (ls' := [_, _, _]) rfl ?_
      refine J_getR rfl h2.1 d1 ?_
      refine J_p 1 (ls' := [_, _, _]) rfl ?_
      refine J_new rfl ?_
      rw [h1]
      refine J_p 1 (ls' := [_, _, _]) rfl ?_
      refine J_call rfl rfl rfl rfl rfl (c_deadNew ?_)
      show J _ _ _ _ _ _ _
      have x : Nx X (nC X 2 4) (t + 216 + i) := Nx.nC (by omega)
      have e24 : mT (nC X 2 4) (t + 215) = 24 := by rw [(x.T (by omega)).1]; exact d2
      refine J_aast (n := i) (L := 30) rfl rfl (by rw [e24]; rfl) (by rw [e24, nC_T, if_pos h1.symm]) (by rw [(x.T (by omega)).2]; exact d3) (by omega) (by omega) ?_
      refine J_p 2 (ls' := [_, _, _]) rfl ?_
      rw [nI_add i 1]
      have sm : ∀ z, z < t + 216 + i → z ≠ t + 215 → Sm X (sR (nC X 2 4) (t + 215) i (some (t + 216 + i))) z := fun z z1 z2 => (x z z1).trans ⟨rfl, rfl, rfl, by rw [mR_s1 _ _ _ z2]⟩
      have sw := sm w (by omega) (by omega)
      refine ih (i + 1) _ (by omega) (by show mN X + 1 = _; omega) (h2.fr sw.1 sw.2.1 (by rw [sw.2.2.2]) (by rw [sw.2.2.2]) (fun z z1 z2 => sm z (by omega) (by omega))) (h3.fr (by rw [sw.2.2.2]) (fun z z1 z2 => sm z (by omega) (by omega))) (h4.fr (by rw [sw.2.2.2]) (fun z z1 z2 => sm z (by omega) (by omega))) ⟨by rw [sw.2.2.2]; exact d1, ?_, ?_, fun j hj => ⟨?_, ?_⟩⟩ (fun z z1 z2 => (h6 z z1 z2).trans (sm z (by omega) (by omega))) (by show mU X + 4 = _; omega)
      · show mT (nC X 2 4) (t + 215) = 24
        exact e24
      · show mS (nC X 2 4) (t + 215) = 30
        rw [(x.T (by omega)).2]; exact d3
      · rw [mR_s0]
        by_cases c : j = i
        · rw [if_pos c, c]
        · rw [if_neg c, (x (t + 215) (by omega)).2.2.2]
          exact (d4 j (by omega)).1
      · show mT (nC X 2 4) (t + 216 + j) = 2
        by_cases c : j = i
        · rw [nC_T, if_pos (by omega)]
        · rw [(x.T (by omega)).1]
          exact (d4 j (by omega)).2
  have loopC : ∀ (d i : Nat) (X : Mm), i + d = 10 → mN X = t + 205 + i → WB X w t g → WQ X w t 8 → WC X w t i → (∀ z, z < t → z ≠ w → Sm M X z) → mU X = mU M + 29 + 8 + 1936 + 10 + 5 * i → J E 67 73 [.ref w, .ref g, .int (nI i)] [] X Q := by
    intro d
    induction d with
    | zero =>
      intro i X hi h1 h2 h3 h4 h6 h7
      obtain rfl : i = 10 := by omega
      refine J_p 2 (ls' := [_, _, _]) rfl ?_
      refine J_ige rfl (fun _ => ?_) (fun y => absurd (nI_le (by omega) (by omega)) y)
      refine J_p 2 (ls' := [_, _, _]) rfl ?_
      refine J_newq (n := 30) rfl rfl (by omega) ?_
      rw [h1]
      have x : Nx X (nC X 24 30) (t + 205 + 10) := Nx.nC (by omega)
      refine J_putR rfl (by rw [(x.T (by omega)).1]; exact h2.1) ?_
      refine J_p 2 (ls' := [_, _, .int (nI 0)]) rfl ?_
      have sm : ∀ z, z < t + 215 → z ≠ w → Sm X (sR (nC X 24 30) w 6 (some (t + 205 + 10))) z := fun z z1 z2 => (x z (by omega)).trans ⟨rfl, rfl, rfl, by rw [mR_s1 _ _ _ z2]⟩
      have rw' : ∀ j, j ≠ 6 → mR (sR (nC X 24 30) w 6 (some (t + 205 + 10))) w j = mR X w j := fun j hj => by rw [mR_s0, if_neg hj, (x w (by omega)).2.2.2]
      refine loopD 30 0 _ (by omega) (by show mN X + 1 = _; omega) (h2.fr (x w (by omega)).1 (x w (by omega)).2.1 (rw' 0 (by decide)) (rw' 8 (by decide)) (fun z z1 z2 => sm z (by omega) (by omega))) (h3.fr (rw' 2 (by decide)) (fun z z1 z2 => sm z (by omega) (by omega))) (h4.fr (rw' 4 (by decide)) (fun z z1 z2 => sm z (by omega) (by omega))) ⟨by rw [mR_s0, if_pos rfl], ?_, ?_, fun j hj => absurd hj (by omega)⟩ (fun z z1 z2 => (h6 z z1 z2).trans (sm z (by omega) z2)) (by show mU X + 30 = _; omega)
      · show mT (nC X 24 30) (t + 215) = 24
        rw [nC_T, if_pos (by omega)]
      · show mS (nC X 24 30) (t + 215) = 30
        rw [nC_S, if_pos (by omega)]
    | succ d ih =>
      intro i X hi h1 h2 h3 h4 h6 h7
      obtain ⟨d1, d2, d3, d4⟩ := h4
      refine J_p 2 (ls' := [_, _, _]) rfl ?_
      refine J_ige rfl (fun y => absurd y (nI_ge (by omega) (by omega))) (fun _ => ?_)
      refine J_p 1 (ls' := [_, _, _]) rfl ?_
      refine J_getR rfl h2.1 d1 ?_
      refine J_p 1 (ls' := [_, _, _]) rfl ?_
      refine J_new rfl ?_
      rw [h1]
      refine J_p 2 (ls' := [_, _, _]) rfl ?_
      have x : Nx X (nC X 1 5) (t + 205 + i) := Nx.nC (by omega)
      refine J_call rfl rfl rfl rfl rfl (c_conNew (by rw [nC_T, if_pos h1.symm]) ?_)
      show J _ _ _ _ _ _ _
      have e24 : mT (nC X 1 5) (t + 204) = 23 := by rw [(x.T (by omega)).1]; exact d2
      refine J_aast (n := i) (L := 10) rfl rfl (by show aR (mT (nC X 1 5) (t + 204)) = true; rw [e24]; rfl) (by show mT (nC X 1 5) (t + 205 + i) + 22 = mT (nC X 1 5) (t + 204); rw [e24, nC_T, if_pos h1.symm]) (by show mS (nC X 1 5) (t + 204) = 10; rw [(x.T (by omega)).2]; exact d3) (by omega) (by omega) ?_
      refine J_p 2 (ls' := [_, _, _]) rfl ?_
      rw [nI_add i 1]
      have sm : ∀ z, z < t + 205 + i → z ≠ t + 204 → Sm X (sR (sI (nC X 1 5) (t + 205 + i) 0 (nI i)) (t + 204) i (some (t + 205 + i))) z := fun z z1 z2 => (x z z1).trans ⟨rfl, by rw [mI_sR, mI_s1 _ _ _ (by omega)], rfl, by rw [mR_s1 _ _ _ z2]; rfl⟩
      have sw := sm w (by omega) (by omega)
      refine ih (i + 1) _ (by omega) (by show mN X + 1 = _; omega) (h2.fr sw.1 sw.2.1 (by rw [sw.2.2.2]) (by rw [sw.2.2.2]) (fun z z1 z2 => sm z (by omega) (by omega))) (h3.fr (by rw [sw.2.2.2]) (fun z z1 z2 => sm z (by omega) (by omega))) ⟨by rw [sw.2.2.2]; exact d1, ?_, ?_, fun j hj => ⟨?_, ?_, ?_⟩⟩ (fun z z1 z2 => (h6 z z1 z2).trans (sm z (by omega) (by omega))) (by show mU X + 5 = _; omega)
      · show mT (nC X 1 5) (t + 204) = 23
        exact e24
      · show mS (nC X 1 5) (t + 204) = 10
        rw [(x.T (by omega)).2]; exact d3
      · rw [mR_s0]
        by_cases c : j = i
        · rw [if_pos c, c]
        · rw [if_neg c]
          show mR (nC X 1 5) (t + 204) j = _
          rw [(x (t + 204) (by omega)).2.2.2]
          exact (d4 j (by omega)).1
      · show mT (nC X 1 5) (t + 205 + j) = 1
        by_cases c : j = i
        · rw [nC_T, if_pos (by omega)]
        · rw [(x.T (by omega)).1]
          exact (d4 j (by omega)).2.1
      · rw [mI_sR]
        by_cases c : j = i
        · rw [c, mI_s0, if_pos rfl]
        · rw [mI_s1 _ _ _ (by omega), (x _ (by omega)).2.1]
          exact (d4 j (by omega)).2.2
  have loopQ : ∀ (d i : Nat) (X : Mm), i + d = 8 → mN X = t + 4 + 25 * i → WB X w t g → WQ X w t i → (∀ z, z < t → z ≠ w → Sm M X z) → mU X = mU M + 29 + 8 + 242 * i → J E 67 36 [.ref w, .ref g, .int (nI i)] [] X Q := by
    intro d
    induction d with
    | zero =>
      intro i X hi h1 h2 h3 h6 h7
      obtain rfl : i = 8 := by omega
      refine J_p 2 (ls' := [_, _, _]) rfl ?_
      refine J_ige rfl (fun _ => ?_) (fun y => absurd (nI_le (by omega) (by omega)) y)
      refine J_p 2 (ls' := [_, _, _]) rfl ?_
      refine J_newq (n := 10) rfl rfl (by omega) ?_
      have h1' : mN X = t + 204 := by omega
      rw [h1']
      have x : Nx X (nC X 23 10) (t + 204) := Nx.nC (by omega)
      refine J_putR rfl (by rw [(x.T (by omega)).1]; exact h2.1) ?_
      refine J_p 2 (ls' := [_, _, .int (nI 0)]) rfl ?_
      have sm : ∀ z, z < t + 204 → z ≠ w → Sm X (sR (nC X 23 10) w 4 (some (t + 204))) z := fun z z1 z2 => (x z (by omega)).trans ⟨rfl, rfl, rfl, by rw [mR_s1 _ _ _ z2]⟩
      have rw' : ∀ j, j ≠ 4 → mR (sR (nC X 23 10) w 4 (some (t + 204))) w j = mR X w j := fun j hj => by rw [mR_s0, if_neg hj, (x w (by omega)).2.2.2]
      refine loopC 10 0 _ (by omega) (by show mN X + 1 = _; omega) (h2.fr (x w (by omega)).1 (x w (by omega)).2.1 (rw' 0 (by decide)) (rw' 8 (by decide)) (fun z z1 z2 => sm z (by omega) (by omega))) (h3.fr (rw' 2 (by decide)) (fun z z1 z2 => sm z (by omega) (by omega))) ⟨by rw [mR_s0, if_pos rfl], ?_, ?_, fun j hj => absurd hj (by omega)⟩ (fun z z1 z2 => (h6 z z1 z2).trans (sm z (by omega) z2)) (by show mU X + 10 = _; omega)
      · show mT (nC X 23 10) (t + 204) = 23
        rw [nC_T, if_pos (by omega)]
      · show mS (nC X 23 10) (t + 204) = 10
        rw [nC_S, if_pos (by omega)]
    | succ d ih =>
      intro i X hi h1 h2 h3 h6 h7
      obtain ⟨d1, d2, d3, d4⟩ := h3
      refine J_p 2 (ls' := [_, _, _]) rfl ?_
      refine J_ige rfl (fun y => absurd y (nI_ge (by omega) (by omega))) (fun _ => ?_)
      refine J_p 1 (ls' := [_, _, _]) rfl ?_
      refine J_getR rfl h2.1 d1 ?_
      refine J_p 1 (ls' := [_, _, _]) rfl ?_
      refine J_new rfl ?_
      rw [h1]
      refine J_p 2 (ls' := [_, _, _]) rfl ?_
      have x0 : Nx X (nC X 6 13) (t + 4 + 25 * i) := Nx.nC (by omega)
      refine J_call rfl rfl rfl rfl rfl (c_queNew (by rw [nC_T, if_pos h1.symm]) (by show mN X + 1 = _; omega) (fun Y hN1 hU1 hX1 hQ1 => ?_))
      show J _ _ _ _ _ _ _
      have x := x0.trans hX1
      have hu : mU Y = mU X + 242 := by rw [hU1]; show mU X + 13 + 229 = _; omega
      have hu2 : mU Y = mU M + 29 + 8 + 242 * (i + 1) := by
        rw [hu, h7, Nat.mul_succ]
        exact Nat.add_assoc _ _ _
      have e24 : mT Y (t + 3) = 28 := by rw [(x.T (by omega)).1]; exact d2
      refine J_aast (n := i) (L := 8) rfl rfl (by rw [e24]; rfl) (by rw [e24, hQ1.1]) (by rw [(x.T (by omega)).2]; exact d3) (by omega) (by omega) ?_
      refine J_p 2 (ls' := [_, _, _]) rfl ?_
      rw [nI_add i 1]
      have sm : ∀ z, z < t + 4 + 25 * i → z ≠ t + 3 → Sm X (sR Y (t + 3) i (some (t + 4 + 25 * i))) z := fun z z1 z2 => (x z z1).trans ⟨rfl, rfl, rfl, by rw [mR_s1 _ _ _ z2]⟩
      have sw := sm w (by omega) (by omega)
      refine ih (i + 1) _ (by omega) (by show mN Y = _; omega) (h2.fr sw.1 sw.2.1 (by rw [sw.2.2.2]) (by rw [sw.2.2.2]) (fun z z1 z2 => sm z (by omega) (by omega))) ⟨by rw [sw.2.2.2]; exact d1, e24, by show mS Y (t + 3) = 8; rw [(x.T (by omega)).2]; exact d3, fun j hj => ⟨?_, ?_⟩⟩ (fun z z1 z2 => (h6 z z1 z2).trans (sm z (by omega) (by omega))) hu2
      · rw [mR_s0]
        by_cases c : j = i
        · rw [if_pos c, c]
        · rw [if_neg c, (x (t + 3) (by omega)).2.2.2]
          exact (d4 j (by omega)).1
      · have e : QS Y (t + 4 + 25 * j) j (fun i => i) := by
          by_cases c : j = i
          · subst c
            exact hQ1
          · exact (d4 j (by omega)).2.nx x (by omega)
        exact e.fr (fun z _ _ => rfl) rfl (fun z z1 z2 => by rw [mR_s1 _ _ _ (by omega)])
  refine J_p 2 (ls' := [_, _, .int (nI 0)]) rfl ?_
  have smq : ∀ z, z < t + 3 → z ≠ w → Sm X0 (sR (nC X0 28 8) w 2 (some (t + 3))) z := fun z z1 z2 => (xq z z1).trans ⟨rfl, rfl, rfl, by rw [mR_s1 _ _ _ z2]⟩
  have rwq : ∀ j, j ≠ 2 → mR (sR (nC X0 28 8) w 2 (some (t + 3))) w j = mR X0 w j := fun j hj => by rw [mR_s0, if_neg hj, (xq w (by omega)).2.2.2]
  refine loopQ 8 0 _ (by omega) (by show mN X0 + 1 = _; omega) (b0.fr (xq w (by omega)).1 (xq w (by omega)).2.1 (rwq 0 (by decide)) (rwq 8 (by decide)) (fun z z1 z2 => smq z (by omega) (by omega))) ⟨by rw [mR_s0, if_pos rfl], ?_, ?_, fun j hj => absurd hj (by omega)⟩ (fun z z1 z2 => (oX z z1 z2).trans (smq z (by omega) z2)) (by show mU X0 + 8 = _; omega)
  · show mT (nC X0 28 8) (t + 3) = 28
    rw [nC_T, if_pos nX.symm]
  · show mS (nC X0 28 8) (t + 3) = 8
    rw [nC_S, if_pos nX.symm]
end COMP50