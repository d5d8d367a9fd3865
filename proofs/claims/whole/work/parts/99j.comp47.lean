/-! THE COMPONENT'S PUBLIC METHODS: shelves. -/
section COMP47
variable {E : Nat × Nat} {M M' : Mm} {W : Nat → Prop} {Q : Option Value → Mm → Prop} {a b w t g m q T j : Nat} {S S' : St} {A B : Ab} {o : Nat → Nat} {F : Nat → Nat → Nat} {v : Sh}
theorem CR.shf (hR : CR M b S) (hj : j < 8) (hF : Fm (fun z => z = b + 261 + 2 * j ∨ z = b + 261 + 2 * j + 1) M M') (hN : Nw M M') (hr : ∀ k, k ≠ 3 → mR M' (b + 261 + 2 * j) k = mR M (b + 261 + 2 * j) k) (hr1 : ∀ k, mR M' (b + 261 + 2 * j + 1) k = mR M (b + 261 + 2 * j + 1) k) (hv : ShC M' (b + 261 + 2 * j) v) : Ck b M M' S (z_h S j v) ∧ CR M' b (z_h S j v) := by
  obtain ⟨h1, ⟨o, F, hS, hC⟩, h3, h4, h5, h6⟩ := hR
  have hn := h1.2.2.2.2.2
  have e : ∀ z, z < b + 290 → ¬ (z = b + 261 + 2 * j ∨ z = b + 261 + 2 * j + 1) → Sm M M' z := fun z hz h => hF.2.2 z (by omega) (Or.inl h)
  refine ⟨Ck.nw (hF.mono (fun z h => Or.inl ⟨by omega, by omega⟩)) hN (Nat.le_add_right _ _) rfl, h1.fm hF ?_ (fun z z1 z2 => ?_) ?_ ?_, ⟨o, F, hS.oth hF (fun z hz => by unfold Ww at hz; omega), OC.oth hS hC hF (fun z hz => by unfold Ww at hz; omega)⟩, ?_, fun w hw => ?_, fun s hs => ?_, h6.fm hn hF ?_ (fun z hz => by omega)⟩
  · rw [(e b (by omega) (by omega)).2.2.2]
    exact ⟨rfl, rfl, rfl, rfl, rfl⟩
  · by_cases c : z = b + 261 + 2 * j
    · subst c
      exact ⟨hr 0 (by decide), hr 1 (by decide)⟩
    · by_cases c2 : z = b + 261 + 2 * j + 1
      · subst c2
        exact ⟨hr1 0, hr1 1⟩
      · rw [(e z (by omega) (by omega)).2.2.2]
        exact ⟨rfl, rfl⟩
  · rw [(e _ (by omega) (by omega)).2.2.2]
  · rw [(e _ (by omega) (by omega)).2.2.2]
  · refine ⟨by rw [(e (b + 254) (by omega) (by omega)).2.1]; exact h3.1, h3.2.1, fun k y hk => ?_⟩
    rw [(e (b + 254 + 1) (by omega) (by omega)).2.1]
    exact h3.2.2 k y hk
  · rw [(e (b + 259) (by omega) (by omega)).2.1]
    exact h4 w hw
  · show ShC M' (b + 261 + 2 * s) (if s = j then v else s_h S s)
    by_cases c : s = j
    · rw [if_pos c, c]
      exact hv
    · rw [if_neg c]
      exact (h5 s hs).fm hF (by omega) (by omega) (by omega)
  · rw [(e b (by omega) (by omega)).2.2.2]
theorem c_isRow {z : Int32} (ht : mT M a = 7) (hz : mI M a 1 = z) (kt : ¬ z = -1 → Q (some (.int (nI 1))) M) (kf : z = -1 → Q (some (.int (nI 0))) M) : J E 60 0 [.ref a] [] M Q := by
  refine J_p 1 (ls' := [_]) rfl ?_
  refine J_gi rfl ht hz ?_
  refine J_p 1 (ls' := [_]) rfl ?_
  refine J_ieq rfl (fun y => ?_) (fun y => ?_)
  · refine J_p 1 (ls' := [_]) rfl ?_
    exact J_retB rfl (by decide) (kf y)
  · refine J_p 2 (ls' := [_]) rfl ?_
    exact J_retB rfl (by decide) (kt y)
theorem c_hasRun {len : Nat} {i n : Int32} (ht : mT M a = 7) (hz : mI M a 2 = nI len) (h40 : len ≤ 40) (kt : ∀ i' n', i = nI i' → n = nI n' → i' + n' ≤ len → Q (some (.int (nI 1))) M) (kf : (∀ i' n', ixN i (len + 1) = some i' → ixN n (len + 1) = some n' → ¬ i' + n' ≤ len) → Q (some (.int (nI 0))) M) : J E 64 0 [.ref a, .int i, .int n] [] M Q := by
  refine J_p 3 (ls' := [_, _, _]) rfl ?_
  refine J_gi rfl ht hz ?_
  refine J_call rfl rfl rfl rfl rfl (c_isWithin (by omega) (by omega) (fun n' e1 en n0 n1 => ?_) (fun e1 => ?_))
  · show J _ _ _ _ _ _ _
    subst en
    refine J_zeq rfl (fun y => absurd y (by decide)) (fun _ => ?_)
    refine J_p 3 (ls' := [_, _, _]) rfl ?_
    refine J_gi rfl ht hz ?_
    refine J_p 2 (ls' := [_, _, _]) rfl ?_
    refine J_t0 (nI_subE (m := len) (n := n') rfl rfl n1) ?_
    refine J_call rfl rfl rfl rfl rfl (c_isWithin (by omega) (by omega) (fun i' e2 ei i0 i1 => ?_) (fun e2 => ?_))
    · show J _ _ _ _ _ _ _
      refine J_zeq rfl (fun y => absurd y (by decide)) (fun _ => ?_)
      refine J_p 2 (ls' := [_, _, _]) rfl ?_
      exact J_retB rfl (by decide) (kt i' n' ei rfl (by omega))
    · show J _ _ _ _ _ _ _
      refine J_zeq rfl (fun _ => ?_) (fun y => absurd rfl y)
      refine J_p 1 (ls' := [_, _, _]) rfl ?_
      refine J_retB rfl (by decide) (kf (fun i' n2 h1 h2 h3 => ?_))
      rw [ixN_nI (by omega) (by omega)] at h2
      cases h2
      obtain ⟨u1, u2, _⟩ := ixN_some h1
      rw [u2, inNB_nI (by omega) (by omega) (by omega)] at e2
      cases e2
  · show J _ _ _ _ _ _ _
    refine J_zeq rfl (fun _ => ?_) (fun y => absurd rfl y)
    refine J_p 1 (ls' := [_, _, _]) rfl ?_
    refine J_retB rfl (by decide) (kf (fun i' n2 h1 h2 h3 => ?_))
    rw [inNB_ix, h2] at e1
    cases e1
theorem c_holdNothing (ht : mT M a = 7) (k : Q none (sR (sI (sI M a 1 (-1)) a 2 (nI 0)) a 3 none)) : J E 61 0 [.ref a] [] M Q := by
  refine J_p 2 (ls' := [_]) rfl ?_
  refine J_putI rfl ht (Or.inl rfl) ?_
  refine J_p 2 (ls' := [_]) rfl ?_
  refine J_putI rfl ht (Or.inl rfl) ?_
  refine J_p 2 (ls' := [_]) rfl ?_
  refine J_putN rfl ht ?_
  exact J_ret rfl rfl rfl k
theorem c_holdRow {so n : Int32} (hs : ShS M a) (k : ∀ M' : Mm, Fm (fun z => z = a ∨ z = a + 1) M M' → Nw M M' → (∀ k, k ≠ 3 → mR M' a k = mR M a k) → (∀ k, mR M' (a + 1) k = mR M (a + 1) k) → mI M' a 1 = so → mI M' a 2 = n → mR M' a 3 = none → (∀ k, k < 40 → mL M' (a + 1) k = lN 0) → Q none M') : J E 62 0 [.ref a, .int so, .int n, U0] [] M Q := by
  obtain ⟨s1, s2, s3, s4⟩ := hs
  have n7 : ¬ rO (mT M a) := by rw [s1]; unfold rO; omega
  have n21 : ¬ rO (mT M (a + 1)) := by rw [s3]; unfold rO; omega
  have loop : ∀ (d kk : Nat) (X : Mm), kk + d = 40 → X.1 = M.1 → mR X = mR M → Fm (fun z => z = a ∨ z = a + 1) M X → Nw M X → (∀ k, k < kk → mL X (a + 1) k = lN 0) → J E 62 2 [.ref a, .int so, .int n, .int (nI kk)] [] X Q := by
    intro d
    induction d with
    | zero =>
      intro kk X hk hT hR hF hN hL
      obtain rfl : kk = 40 := by omega
      have t7 : mT X a = 7 := by unfold mT; rw [hT]; exact s1
      have n7' : ¬ rO (mT X a) := by rw [t7]; unfold rO; omega
      refine J_p 2 (ls' := [_, _, _, _]) rfl ?_
      refine J_ige rfl (fun _ => ?_) (fun y => absurd (nI_le (by omega) (by omega)) y)
      refine J_p 2 (ls' := [_, _, _, _]) rfl ?_
      refine J_putI rfl t7 (Or.inl rfl) ?_
      refine J_p 2 (ls' := [_, _, _, _]) rfl ?_
      refine J_putI rfl t7 (Or.inl rfl) ?_
      refine J_p 2 (ls' := [_, _, _, _]) rfl ?_
      refine J_putN rfl t7 ?_
      refine J_ret rfl rfl rfl (k _ (((hF.trans (Fm.sI (Or.inl rfl) n7')).trans (Fm.sI (Or.inl rfl) n7')).trans (Fm.sR (Or.inl rfl) n7')) (hN.trans ⟨rfl, rfl, rfl⟩) (fun k hk => ?_) (fun k => by rw [mR_s1 _ _ _ (by omega)]; show mR X (a + 1) k = _; rw [hR]) ?_ ?_ ?_ (fun k hk => hL k hk))
      · rw [mR_s0, if_neg hk]
        show mR X a k = _
        rw [hR]
      · rw [mI_sR]; simp only [mI_s0]; rfl
      · rw [mI_sR]; simp only [mI_s0]; rfl
      · rw [mR_s0, if_pos rfl]
    | succ d ih =>
      intro kk X hk hT hR hF hN hL
      have t7 : mT X a = 7 := by unfold mT; rw [hT]; exact s1
      have t21 : mT X (a + 1) = 21 := by unfold mT; rw [hT]; exact s3
      have z40 : mS X (a + 1) = 40 := by unfold mS; rw [hT]; exact s4
      have n21' : ¬ rO (mT X (a + 1)) := by rw [t21]; unfold rO; omega
      refine J_p 2 (ls' := [_, _, _, _]) rfl ?_
      refine J_ige rfl (fun y => absurd y (nI_ge (by omega) (by omega))) (fun _ => ?_)
      refine J_p 1 (ls' := [_, _, _, _]) rfl ?_
      refine J_getR rfl t7 (by rw [hR]; exact s2) ?_
      refine J_p 2 (ls' := [_, _, _, _]) rfl ?_
      refine J_last (n := kk) (L := 40) rfl rfl t21 z40 (by omega) (by omega) ?_
      refine J_p 2 (ls' := [_, _, _, _]) rfl ?_
      rw [nI_add kk 1]
      refine ih (kk + 1) _ (by omega) hT hR (hF.trans (Fm.sL (Or.inr rfl) n21')) (hN.trans ⟨rfl, rfl, rfl⟩) (fun k hk2 => ?_)
      rw [mL_s0]
      by_cases c : k = kk
      · rw [if_pos c]
      · rw [if_neg c]
        exact hL k (by omega)
  refine J_p 2 (ls' := [_, _, _, _]) rfl ?_
  exact loop 40 0 M (by omega) rfl rfl (Fm.refl _ M) ⟨rfl, rfl, rfl⟩ (fun k hk => absurd hk (by omega))
theorem c_narrowed {so : Nat} {v : Int64} {M : Mm} (h : so ≤ 4) (k : Q (some (.long (loL so v))) M) : J E 157 0 [.int (nI so), .long v, U0] [] M Q := by
  refine J_p 1 (ls' := [_, _, _]) rfl ?_
  rcases (show so = 0 ∨ so = 1 ∨ so = 2 ∨ so = 3 ∨ so = 4 from by omega) with rfl | rfl | rfl | rfl | rfl
  · refine J_sw1 rfl rfl rfl ?_
    refine J_p 4 (ls' := [_, _, _]) rfl ?_
    exact J_ret rfl rfl rfl k
  · refine J_sw1 rfl rfl rfl ?_
    refine J_p 4 (ls' := [_, _, _]) rfl ?_
    exact J_ret rfl rfl rfl k
  · refine J_sw1 rfl rfl rfl ?_
    refine J_p 3 (ls' := [_, _, _]) rfl ?_
    exact J_ret rfl rfl rfl k
  · refine J_sw1 rfl rfl rfl ?_
    refine J_p 1 (ls' := [_, _, _]) rfl ?_
    exact J_ret rfl rfl rfl k
  · refine J_sw1 rfl rfl rfl ?_
    refine J_p 3 (ls' := [_, _, _]) rfl ?_
    refine J_zeq rfl (fun b => ?_) (fun b => ?_)
    · refine J_p 1 (ls' := [_, _, _]) rfl ?_
      have e : loL 4 v = lN 0 := if_pos (lg_cmpZ b)
      rw [e] at k
      exact J_ret rfl rfl rfl k
    · refine J_p 2 (ls' := [_, _, _]) rfl ?_
      have e : loL 4 v = lN 1 := if_neg (fun y => b (by rw [y]; decide))
      rw [e] at k
      exact J_ret rfl rfl rfl k
theorem c_isOf {p n k : Nat} {c : Ca} (hE : STa E M) (ht : mT M p = 0) (hc : CaF M p c) (hn : 3 ≤ n ∧ n ≤ 6) (en : c.1 = nI n) (hk : k < 7) (kt : udA n k = true → Q (some (.int (nI 1))) M) (kf : udA n k = false → Q (some (.int (nI 0))) M) : J E 1 0 [.ref p, .int (nI k), U0, U0] [] M Q := by
  obtain ⟨⟨e1, e2, _, k0, k1, k2, k3, k4, k5, k6⟩, _⟩ := hE
  have hit : ∀ (x kk : Nat), x < 7 → kk < 7 → (x = k → Q (some (.int (nI 1))) M) → (x ≠ k → J E 1 7 [.ref p, .int (nI k), .int (mI M E.1 x), .int (nI (kk + 1))] [] M Q) → J E 1 7 [.ref p, .int (nI k), .int (nI x), .int (nI kk)] [] M Q := fun x kk hx hkk h1 h2 => by
    refine J_p 1 (ls' := [_, _, _, _]) rfl ?_
    refine J_getS rfl ?_
    refine J_len rfl (Or.inl e1) e2 ?_
    refine J_ige rfl (fun y => absurd y (nI_ge (by omega) (by omega))) (fun _ => ?_)
    refine J_p 1 (ls' := [_, _, _, _]) rfl ?_
    refine J_getS rfl ?_
    refine J_len rfl (Or.inl e1) e2 ?_
    refine J_call rfl rfl rfl rfl rfl (c_isBelow (by omega) (fun j' f1 f2 f3 => ?_) (fun f1 => ?_))
    · show J _ _ _ _ _ _ _
      refine J_zeq rfl (fun y => absurd y (by decide)) (fun _ => ?_)
      refine J_p 2 (ls' := [_, _, _, _]) rfl ?_
      refine J_ine rfl (fun y => ?_) (fun y => ?_)
      · refine J_getS rfl ?_
        refine J_p 1 (ls' := [_, _, _, _]) rfl ?_
        refine J_ia (n := x) (z := mI M E.1 x) rfl rfl (Or.inr e1) e2 hx (by omega) rfl ?_
        refine J_p 3 (ls' := [_, _, .int (mI M E.1 x), .int (nI kk + nI 1)]) rfl ?_
        rw [nI_add kk 1]
        exact h2 (fun e => y (by rw [e]))
      · refine J_p 1 (ls' := [_, _, _, _]) rfl ?_
        exact J_retB rfl (by decide) (h1 ((nI_eq (by omega) (by omega)).mp y))
    · rw [ixN_nI hx (by omega)] at f1
      cases f1
  have fin : ∀ kk, kk < 7 → Q (some (.int (nI 0))) M → J E 1 7 [.ref p, .int (nI k), .int (-1), .int (nI kk)] [] M Q := fun kk hkk h1 => by
    refine J_p 1 (ls' := [_, _, _, _]) rfl ?_
    refine J_getS rfl ?_
    refine J_len rfl (Or.inl e1) e2 ?_
    refine J_ige rfl (fun y => absurd y (nI_ge (by omega) (by omega))) (fun _ => ?_)
    refine J_p 1 (ls' := [_, _, _, _]) rfl ?_
    refine J_getS rfl ?_
    refine J_len rfl (Or.inl e1) e2 ?_
    refine J_call rfl rfl rfl rfl rfl (c_isBelow (by omega) (fun j' f1 f2 f3 => absurd f3.symm (nI_m1 (by omega))) (fun f1 => ?_))
    show J _ _ _ _ _ _ _
    refine J_zeq rfl (fun _ => ?_) (fun y => absurd rfl y)
    refine J_p 1 (ls' := [_, _, _, _]) rfl ?_
    exact J_retB rfl (by decide) h1
  refine J_p 1 (ls' := [_, _, _, _]) rfl ?_
  refine J_gi (z := nI n) rfl ht (by rw [hc.1, en]) ?_
  refine J_p 3 (ls' := [_, _, .int (nI n), .int (nI 0)]) rfl ?_
  have z1 : mI M E.1 1 = nI 0 := k1
  have z2 : mI M E.1 2 = nI 0 := k2
  have z3 : mI M E.1 3 = nI 1 := k3
  have z4 : mI M E.1 4 = nI 1 := k4
  have z5 : mI M E.1 5 = nI 2 := k5
  have z6 : mI M E.1 6 = nI 2 := k6
  rcases (show n = 3 ∨ n = 4 ∨ n = 5 ∨ n = 6 by omega) with rfl | rfl | rfl | rfl
  · refine hit 3 0 (by omega) (by omega) (fun e => kt (by subst e; rfl)) (fun h1 => ?_)
    rw [z3]
    refine hit 1 1 (by omega) (by omega) (fun e => kt (by subst e; rfl)) (fun h2 => ?_)
    rw [z1]
    refine hit 0 2 (by omega) (by omega) (fun e => kt (by subst e; rfl)) (fun h3 => ?_)
    rw [k0]
    refine fin 3 (by omega) (kf ?_)
    rcases (show k = 2 ∨ k = 4 ∨ k = 5 ∨ k = 6 by omega) with rfl | rfl | rfl | rfl <;> rfl
  · refine hit 4 0 (by omega) (by omega) (fun e => kt (by subst e; rfl)) (fun h1 => ?_)
    rw [z4]
    refine hit 1 1 (by omega) (by omega) (fun e => kt (by subst e; rfl)) (fun h2 => ?_)
    rw [z1]
    refine hit 0 2 (by omega) (by omega) (fun e => kt (by subst e; rfl)) (fun h3 => ?_)
    rw [k0]
    refine fin 3 (by omega) (kf ?_)
    rcases (show k = 2 ∨ k = 3 ∨ k = 5 ∨ k = 6 by omega) with rfl | rfl | rfl | rfl <;> rfl
  · refine hit 5 0 (by omega) (by omega) (fun e => kt (by subst e; rfl)) (fun h1 => ?_)
    rw [z5]
    refine hit 2 1 (by omega) (by omega) (fun e => kt (by subst e; rfl)) (fun h2 => ?_)
    rw [z2]
    refine hit 0 2 (by omega) (by omega) (fun e => kt (by subst e; rfl)) (fun h3 => ?_)
    rw [k0]
    refine fin 3 (by omega) (kf ?_)
    rcases (show k = 1 ∨ k = 3 ∨ k = 4 ∨ k = 6 by omega) with rfl | rfl | rfl | rfl <;> rfl
  · refine hit 6 0 (by omega) (by omega) (fun e => kt (by subst e; rfl)) (fun h1 => ?_)
    rw [z6]
    refine hit 2 1 (by omega) (by omega) (fun e => kt (by subst e; rfl)) (fun h2 => ?_)
    rw [z2]
    refine hit 0 2 (by omega) (by omega) (fun e => kt (by subst e; rfl)) (fun h3 => ?_)
    rw [k0]
    refine fin 3 (by omega) (kf ?_)
    rcases (show k = 1 ∨ k = 3 ∨ k = 4 ∨ k = 5 by omega) with rfl | rfl | rfl | rfl <;> rfl
theorem c_toldAs {p n k : Nat} {c : Ca} (ht : mT M p = 0) (hc : CaF M p c) (hn : 3 ≤ n ∧ n ≤ 6) (en : c.1 = nI n) (hk : k < 7) (hu : udA n k = true) (K : Q (some (.int (saA c k))) M) : J E 2 0 [.ref p, .int (nI k)] [] M Q := by
  obtain ⟨c0, c1, c3, c34, c56⟩ := hc
  refine J_p 1 (ls' := [_, _]) rfl ?_
  have big : 3 ≤ k → J E 2 43 [.ref p, .int (nI k)] [] M Q := fun h => by
    have e : saA c k = c.2.2.1 := by unfold saA; rw [if_neg (by omega), if_neg (by omega)]
    rw [e] at K
    refine J_p 1 (ls' := [_, _]) rfl ?_
    refine J_gi rfl ht c3 ?_
    exact J_ret rfl rfl rfl K
  rcases (show k = 0 ∨ k = 1 ∨ k = 2 ∨ 3 ≤ k by omega) with rfl | rfl | rfl | h
  · refine J_sw1 rfl rfl rfl ?_
    refine J_p 1 (ls' := [_, _]) rfl ?_
    refine J_gi rfl ht c1 ?_
    exact J_ret rfl rfl rfl K
  · refine J_sw1 rfl rfl rfl ?_
    refine J_p 1 (ls' := [_, _]) rfl ?_
    have h34 : c.1 = nI 3 ∨ c.1 = nI 4 := by
      rw [en]
      rcases (show n = 3 ∨ n = 4 ∨ n = 5 ∨ n = 6 by omega) with rfl | rfl | rfl | rfl
      · exact Or.inl rfl
      · exact Or.inr rfl
      · cases hu
      · cases hu
    refine J_gi rfl ht (c34 h34) ?_
    exact J_ret rfl rfl rfl K
  · refine J_sw1 rfl rfl rfl ?_
    refine J_p 1 (ls' := [_, _]) rfl ?_
    have h56 : c.1 = nI 5 ∨ c.1 = nI 6 := by
      rw [en]
      rcases (show n = 3 ∨ n = 4 ∨ n = 5 ∨ n = 6 by omega) with rfl | rfl | rfl | rfl
      · cases hu
      · cases hu
      · exact Or.inl rfl
      · exact Or.inr rfl
    refine J_gi rfl ht (c56 h56) ?_
    exact J_ret rfl rfl rfl K
  · refine J_swD (n := 3) rfl ?_ rfl rfl ?_
    · unfold ixN
      rw [nI_toInt (by omega), if_neg (by omega)]
    · exact big h
end COMP47