/-! THE COMPONENT: a new broker. -/
section COMP51
variable {E : Nat × Nat} {M M' M1 M2 X Y : Mm} {W : Nat → Prop} {Q : Option Value → Mm → Prop} {a b w t g n q i : Nat} {o f : Nat → Nat} {F : Nat → Nat → Nat}
theorem OS.nx (hS : OS M w t g o F) (h : Nx M M' n) (hn : t + 246 ≤ n) (hm : mN M ≤ mN M') (hN : n = mN M) : OS M' w t g o F := by
  subst hN
  obtain ⟨y1, y2, y3⟩ := hS.2.2.2.2.2.2.1
  have e : ∀ z, z < mN M → mI M' z = mI M z ∧ mR M' z = mR M z := fun z hz => ⟨(h z hz).2.1, (h z hz).2.2.2⟩
  exact hS.gen hm (fun z hz => (h z hz).1) (e _ (by omega)).2 (e _ (by omega)).2 (e _ (by omega)).2 (e _ (by omega)).2 (e _ (by omega)).2 (fun c hc => by rw [(e _ (by omega)).1]) (fun i hi => by rw [(e _ (by omega)).2]; exact hS.2.2.2.2.1.2.2.1 i hi) hS.2.2.2.2.1.2.2.2.1 (fun z hz => (hS.qs hz).nx h (by omega))
theorem OC00 (h1 : mI M w = (fun k => if k = 10 then nI 1 else 0)) (h2 : mI M t = fun _ => 0) : OC M w t g o F A00 := by
  refine ⟨by rw [h1]; rfl, ⟨by rw [h1]; rfl, Nat.zero_le _⟩, ⟨by rw [h1]; rfl, Nat.zero_le _⟩, ⟨by rw [h1]; rfl, Nat.zero_le _⟩, by rw [h1]; rfl, by rw [h1]; rfl, ⟨[], ⟨by rw [h2]; rfl, Nat.zero_le _⟩, ⟨by rw [h2]; rfl, Nat.zero_le _⟩, by rw [h2]; rfl, fun k c hk => (by cases hk), fun k c hk => (by cases hk)⟩, fun q x hx => (by cases hx), fun c k hk => (by cases hk), fun i d hd => (by cases hd), Nat.zero_le _, fun m y hy => (by cases hy)⟩
theorem c_tapeNew (ht : mT M a = 8) (hN : mN M = a + 1) (hI : mI M a = fun _ => 0) (k : ∀ M' : Mm, mN M' = a + 2 → mU M' = mU M + 250 → Nx M M' a → TS M' a → mI M' a = (fun _ => 0) → Q none M') : J E 65 0 [.ref a] [] M Q := by
  refine J_p 1 (ls' := [_]) rfl ?_
  refine J_oin rfl rfl ?_
  refine J_p 2 (ls' := [_]) rfl ?_
  refine J_newa (n := 250) rfl rfl (by omega) ?_
  have x : Nx M (nC M 20 250) (a + 1) := Nx.nC (by omega)
  have t1 : mT (nC M 20 250) a = 8 := by rw [(x.T (by omega)).1]; exact ht
  refine J_putR rfl t1 ?_
  rw [hN]
  refine J_ret rfl rfl rfl (k _ (by show mN M + 1 = _; omega) rfl ((x.le (by omega)).trans (Nx.sR (Nat.le_refl _))) ⟨t1, by rw [mR_s0, if_pos rfl], ?_, ?_⟩ (by rw [mI_sR, (x a (by omega)).2.1]; exact hI))
  · show mT (nC M 20 250) (a + 1) = 20
    rw [nC_T, if_pos hN.symm]
  · show mS (nC M 20 250) (a + 1) = 250
    rw [nC_S, if_pos hN.symm]
theorem c_shelfNew (ht : mT M a = 7) (hN : mN M = a + 1) (hR : mR M a = fun _ => none) (k : ∀ M' : Mm, mN M' = a + 2 → mU M' = mU M + 40 → Nx M M' a → ShS M' a → ShC M' a none → Q none M') : J E 59 0 [.ref a] [] M Q := by
  refine J_p 1 (ls' := [_]) rfl ?_
  refine J_oin rfl rfl ?_
  refine J_p 2 (ls' := [_]) rfl ?_
  refine J_newa (n := 40) rfl rfl (by omega) ?_
  have x : Nx M (nC M 21 40) (a + 1) := Nx.nC (by omega)
  have t1 : mT (nC M 21 40) a = 7 := by rw [(x.T (by omega)).1]; exact ht
  refine J_putR rfl t1 ?_
  rw [hN]
  refine J_p 2 (ls' := [_]) rfl ?_
  refine J_putI rfl (show mT (sR (nC M 21 40) a 0 (some (a + 1))) a = 7 from t1) (Or.inl rfl) ?_
  refine J_ret rfl rfl rfl (k _ (by show mN M + 1 = _; omega) rfl (((x.le (by omega)).trans (Nx.sR (Nat.le_refl _))).trans (Nx.sI (Nat.le_refl _))) ⟨t1, ?_, ?_, ?_⟩ ⟨by rw [mI_s0, if_pos rfl], ?_⟩)
  · show mR (sR (nC M 21 40) a 0 (some (a + 1))) a 0 = _
    rw [mR_s0, if_pos rfl]
  · show mT (nC M 21 40) (a + 1) = 21
    rw [nC_T, if_pos hN.symm]
  · show mS (nC M 21 40) (a + 1) = 40
    rw [nC_S, if_pos hN.symm]
  · show mR (sR (nC M 21 40) a 0 (some (a + 1))) a 3 = none
    rw [mR_s0, if_neg (by decide), (x a (by omega)).2.2.2, hR]
theorem ShC.nx (h : ShC M a none) (x : Nx M M' n) (hn : a < n) : ShC M' a none := ⟨by rw [(x a hn).2.1]; exact h.1, by rw [(x a hn).2.2.2]; exact h.2⟩
theorem ShS.nx (h : ShS M a) (x : Nx M M' n) (hn : a + 1 < n) : ShS M' a := ⟨by rw [(x.T (by omega)).1]; exact h.1, by rw [(x a (by omega)).2.2.2]; exact h.2.1, by rw [(x.T (by omega)).1]; exact h.2.2.1, by rw [(x.T (by omega)).2]; exact h.2.2.2⟩
theorem c_brokerNew (ht : mT M b = 10) (hI : mI M b = fun _ => 0) (hR : mR M b = fun _ => none) (hN : mN M = b + 1) (k : ∀ M' : Mm, mN M' = b + 277 → mU M' = mU M + 4345 → Nx M M' b → (∀ M2 : Mm, Nx M' M2 (b + 277) → b + 290 ≤ mN M2 → CR M2 b S00) → Q none M') : J E 102 0 [.ref b, U0] [] M Q := by
  refine J_p 1 (ls' := [_, _]) rfl ?_
  refine J_oin rfl rfl ?_
  refine J_p 1 (ls' := [_, _]) rfl ?_
  refine J_new rfl ?_
  rw [hN]
  refine J_p 1 (ls' := [_, _]) rfl ?_
  refine J_new rfl ?_
  have n1 : mN (nC M 9 11) = b + 2 := by show mN M + 1 = _; omega
  rw [n1]
  refine J_p 1 (ls' := [_, _]) rfl ?_
  have xa : Nx M (nC M 9 11) (b + 1) := Nx.nC (by omega)
  have xb : Nx (nC M 9 11) (nC (nC M 9 11) 4 5) (b + 2) := Nx.nC (by omega)
  refine J_call rfl rfl rfl rfl rfl (c_msgNew (by rw [nC_T, if_pos n1.symm]) (by show mN M + 1 + 1 = _; omega) (fun X1 hN1 hU1 hX1 hG1 => ?_))
  show J _ _ _ _ _ _ _
  have x1 : Nx M X1 (b + 1) := (xa.trans (xb.le (by omega))).trans (hX1.le (by omega))
  have xw : Nx (nC M 9 11) X1 (b + 2) := xb.trans hX1
  have u1 : mU X1 = mU M + 1516 := by
    rw [hU1]
    show mU M + 11 + 5 + 1500 = _
    omega
  refine J_call rfl rfl rfl rfl rfl (c_worldNew (t := b + 8) (by rw [(xw.T (by omega)).1, nC_T, if_pos hN.symm]) (by rw [(xw _ (by omega)).2.1, nC_I, if_pos hN.symm]) (by omega) (by omega) (by omega) (Or.inr (by omega)) hG1 (fun X2 hN2 hU2 hX2 hS2 hw2 ht2 => ?_))
  show J _ _ _ _ _ _ _
  have x2 : Nx M X2 (b + 1) := fun z hz => (x1 z hz).trans (hX2 z (by omega) (by omega))
  have u2 : mU X2 = mU M + 3699 := by rw [hU2, u1]
  have t2 : mT X2 b = 10 := by rw [(x2.T (by omega)).1]; exact ht
  have r2 : mR X2 b = fun _ => none := by rw [(x2 b (by omega)).2.2.2]; exact hR
  refine J_putR rfl t2 ?_
  refine J_p 1 (ls' := [_, _]) rfl ?_
  refine J_new rfl ?_
  have n3 : mN (sR X2 b 0 (some (b + 1))) = b + 254 := by show mN X2 = _; omega
  rw [n3]
  refine J_p 1 (ls' := [_, _]) rfl ?_
  have xc : Nx (sR X2 b 0 (some (b + 1))) (nC (sR X2 b 0 (some (b + 1))) 8 2) (b + 254) := Nx.nC (by omega)
  refine J_call rfl rfl rfl rfl rfl (c_tapeNew (by rw [nC_T, if_pos n3.symm]) (by show mN X2 + 1 = _; omega) (by rw [nC_I, if_pos n3.symm]) (fun X3 hN3 hU3 hX3 hT3 hi3 => ?_))
  show J _ _ _ _ _ _ _
  have x3 := xc.trans hX3
  have t3 : mT X3 b = 10 := by rw [(x3.T (by omega)).1]; exact t2
  have u3 : mU X3 = mU M + 3951 := by
    rw [hU3]
    show mU X2 + 2 + 250 = _
    omega
  refine J_putR rfl t3 ?_
  refine J_p 1 (ls' := [_, _]) rfl ?_
  refine J_new rfl ?_
  have n4 : mN (sR X3 b 1 (some (b + 254))) = b + 256 := by show mN X3 = _; omega
  rw [n4]
  refine J_p 1 (ls' := [_, _]) rfl ?_
  have xd : Nx (sR X3 b 1 (some (b + 254))) (nC (sR X3 b 1 (some (b + 254))) 5 6) (b + 256) := Nx.nC (by omega)
  refine J_call rfl rfl rfl rfl rfl (c_patNew (by rw [nC_T, if_pos n4.symm]) (by rw [nC_I, if_pos n4.symm]) (by show mN X3 + 1 = _; omega) (fun X4 hN4 hU4 hX4 hP4 hI4 => ?_))
  show J _ _ _ _ _ _ _
  have x4 := xd.trans hX4
  have t4 : mT X4 b = 10 := by rw [(x4.T (by omega)).1]; exact t3
  have u4 : mU X4 = mU M + 3980 := by
    rw [hU4]
    show mU X3 + 6 + 23 = _
    omega
  refine J_putR rfl t4 ?_
  refine J_p 2 (ls' := [_, _]) rfl ?_
  refine J_newa (n := 5) rfl rfl (by omega) ?_
  have n5 : mN (sR X4 b 2 (some (b + 256))) = b + 259 := by show mN X4 = _; omega
  rw [n5]
  have x5 : Nx (sR X4 b 2 (some (b + 256))) (nC (sR X4 b 2 (some (b + 256))) 20 5) (b + 259) := Nx.nC (by omega)
  obtain ⟨X5, hX5⟩ : ∃ X5, nC (sR X4 b 2 (some (b + 256))) 20 5 = X5 := ⟨_, rfl⟩
  have c5 : mT X5 (b + 259) = 20 ∧ mS X5 (b + 259) = 5 ∧ mI X5 (b + 259) = (fun _ => 0) ∧ mN X5 = b + 260 ∧ mU X5 = mU M + 3985 := by
    rw [← hX5]
    refine ⟨by rw [nC_T, if_pos n5.symm], by rw [nC_S, if_pos n5.symm], by rw [nC_I, if_pos n5.symm], by show mN X4 + 1 = _; omega, ?_⟩
    show mU X4 + 5 = _
    omega
  rw [hX5] at x5 ⊢
  obtain ⟨c51, c52, c53, c54, c55⟩ := c5
  have t5 : mT X5 b = 10 := by rw [(x5.T (by omega)).1]; exact t4
  refine J_putR rfl t5 ?_
  refine J_p 2 (ls' := [_, _]) rfl ?_
  refine J_newq (n := 8) rfl rfl (by omega) ?_
  have n6 : mN (sR X5 b 4 (some (b + 259))) = b + 260 := c54
  rw [n6]
  have x6 : Nx (sR X5 b 4 (some (b + 259))) (nC (sR X5 b 4 (some (b + 259))) 29 8) (b + 260) := Nx.nC (by omega)
  obtain ⟨X6, hX6⟩ : ∃ X6, nC (sR X5 b 4 (some (b + 259))) 29 8 = X6 := ⟨_, rfl⟩
  have c6 : mT X6 (b + 260) = 29 ∧ mS X6 (b + 260) = 8 ∧ mN X6 = b + 261 ∧ mU X6 = mU M + 3993 := by
    rw [← hX6]
    refine ⟨by rw [nC_T, if_pos n6.symm], by rw [nC_S, if_pos n6.symm], by show mN X5 + 1 = _; omega, ?_⟩
    show mU X5 + 8 = _
    omega
  rw [hX6] at x6 ⊢
  obtain ⟨c61, c62, c63, c64⟩ := c6
  have t6 : mT X6 b = 10 := by rw [(x6.T (by omega)).1]; exact t5
  refine J_putR rfl t6 ?_
  obtain ⟨X7, hX7⟩ : ∃ X7, sR X6 b 3 (some (b + 260)) = X7 := ⟨_, rfl⟩
  rw [hX7]
  -- what stands below b + 260, b aside
  have n7 : mN X7 = b + 261 := by rw [← hX7]; exact c63
  have u7 : mU X7 = mU M + 3993 := by rw [← hX7]; exact c64
  clear n1 n3 n4 n5 n6 hU1 hU2 hU3 hU4 u1 u2 u3 u4 c54 c55 c63 c64
  have sm : ∀ (X Y : Mm) (k : Nat) (v : Option Nat) (m z : Nat), Nx (sR X b k v) Y m → z < m → z ≠ b → Sm X Y z := fun X Y k v m z h h1 h2 => Sm.trans (M2 := sR X b k v) ⟨rfl, rfl, rfl, by rw [mR_s1 _ _ _ h2]⟩ (h z h1)
  have s67 : ∀ z, z ≠ b → Sm X6 X7 z := fun z h => by rw [← hX7]; exact ⟨rfl, rfl, rfl, by rw [mR_s1 _ _ _ h]⟩
  have s57 : ∀ z, z < b + 260 → z ≠ b → Sm X5 X7 z := fun z h1 h2 => (sm X5 X6 4 _ _ z x6 h1 h2).trans (s67 z h2)
  have s47 : ∀ z, z < b + 259 → z ≠ b → Sm X4 X7 z := fun z h1 h2 => (sm X4 X5 2 _ _ z x5 h1 h2).trans (s57 z (by omega) h2)
  have s37 : ∀ z, z < b + 256 → z ≠ b → Sm X3 X7 z := fun z h1 h2 => (sm X3 X4 1 _ _ z x4 h1 h2).trans (s47 z (by omega) h2)
  have s27 : ∀ z, z < b + 254 → z ≠ b → Sm X2 X7 z := fun z h1 h2 => (sm X2 X3 0 _ _ z x3 h1 h2).trans (s37 z (by omega) h2)
  have t7 : mT X7 b = 10 := by rw [← hX7]; exact t6
  have R7 : mR X7 b 0 = some (b + 1) ∧ mR X7 b 1 = some (b + 254) ∧ mR X7 b 2 = some (b + 256) ∧ mR X7 b 3 = some (b + 260) ∧ mR X7 b 4 = some (b + 259) ∧ mR X7 b 5 = none := by
    have e7 : ∀ j, mR X7 b j = if j = 3 then some (b + 260) else if j = 4 then some (b + 259) else if j = 2 then some (b + 256) else if j = 1 then some (b + 254) else if j = 0 then some (b + 1) else none := fun j => by
      rw [← hX7, mR_s0, (x6 b (by omega)).2.2.2, mR_s0, (x5 b (by omega)).2.2.2, mR_s0, (x4 b (by omega)).2.2.2, mR_s0, (x3 b (by omega)).2.2.2, mR_s0, r2]
    refine ⟨?_, ?_, ?_, ?_, ?_, ?_⟩ <;> rw [e7] <;> rfl
  have S7 : OS X7 (b + 1) (b + 8) (b + 2) (fun i => i) (fun _ i => i) := by
    have e : ∀ z, z < mN X2 → z ≠ b → Sm X2 X7 z := fun z h1 h2 => s27 z (by omega) h2
    refine hS2.gen (by omega) (fun z hz => ?_) (e _ (by omega) (by omega)).2.2.2 (e _ (by omega) (by omega)).2.2.2 (e _ (by omega) (by omega)).2.2.2 (e _ (by omega) (by omega)).2.2.2 (e _ (by omega) (by omega)).2.2.2 (fun c hc => by rw [(e _ (by omega) (by omega)).2.1]) (fun i hi => by rw [(e _ (by omega) (by omega)).2.2.2]; exact hS2.2.2.2.2.1.2.2.1 i hi) hS2.2.2.2.2.1.2.2.2.1 (fun z hz => ?_)
    · by_cases c : z = b
      · subst c
        rw [← hX7]
        show X6.1 z = X2.1 z
        rw [(x6 z (by omega)).1]
        show X5.1 z = X2.1 z
        rw [(x5 z (by omega)).1]
        show X4.1 z = X2.1 z
        rw [(x4 z (by omega)).1]
        show X3.1 z = X2.1 z
        rw [(x3 z (by omega)).1]
        rfl
      · exact (e z hz c).1
    · exact (hS2.qs hz).fr (fun y h1 h2 => (e y (by omega) (by omega)).1) (by rw [(e _ (by omega) (by omega)).2.1]) (fun y h1 h2 => (e y (by omega) (by omega)).2.2.2)
  have xb7 : Nx M X7 b := fun z hz => (x2 z (by omega)).trans (s27 z (by omega) (by omega))
  have T7 : TS X7 (b + 254) := ⟨by rw [(s37 _ (by omega) (by omega)).T.1]; exact hT3.1, by rw [(s37 _ (by omega) (by omega)).2.2.2]; exact hT3.2.1, by rw [(s37 _ (by omega) (by omega)).T.1]; exact hT3.2.2.1, by rw [(s37 _ (by omega) (by omega)).T.2]; exact hT3.2.2.2⟩
  have P7 : PS X7 (b + 256) := hP4.fr (s47 _ (by omega) (by omega)).1 (s47 _ (by omega) (by omega)).1 (s47 _ (by omega) (by omega)).1 (s47 _ (by omega) (by omega)).2.2.2
  have f7 : mT X7 (b + 259) = 20 ∧ mS X7 (b + 259) = 5 ∧ mI X7 (b + 259) = fun _ => 0 := ⟨by rw [(s57 _ (by omega) (by omega)).T.1]; exact c51, by rw [(s57 _ (by omega) (by omega)).T.2]; exact c52, by rw [(s57 _ (by omega) (by omega)).2.1]; exact c53⟩
  have a7 : mT X7 (b + 260) = 29 ∧ mS X7 (b + 260) = 8 := ⟨by rw [(s67 _ (by omega)).T.1]; exact c61, by rw [(s67 _ (by omega)).T.2]; exact c62⟩
  have i7 : mI X7 (b + 254) = fun _ => 0 := by rw [(s37 _ (by omega) (by omega)).2.1]; exact hi3
  have w7 : mI X7 (b + 1) = fun k => if k = 10 then nI 1 else 0 := by rw [(s27 _ (by omega) (by omega)).2.1]; exact hw2
  have p7 : mI X7 (b + 8) = fun _ => 0 := by rw [(s27 _ (by omega) (by omega)).2.1]; exact ht2
  -- shelves
  have loop : ∀ (d s : Nat) (X : Mm), s + d = 8 → mN X = b + 261 + 2 * s → mU X = mU M + 3993 + 44 * s → (∀ z, z < b + 261 → z ≠ b + 260 → Sm X7 X z) → mT X (b + 260) = 29 → mS X (b + 260) = 8 → (∀ j, j < s → mR X (b + 260) j = some (b + 261 + 2 * j) ∧ ShS X (b + 261 + 2 * j) ∧ ShC X (b + 261 + 2 * j) none) → J E 102 62 [.ref b, .int (nI s)] [] X Q := by
    intro d
    induction d with
    | zero =>
      intro s X hs h1 h2 h3 h4 h5 h6
      obtain rfl : s = 8 := by omega
      refine J_p 2 (ls' := [_, _]) rfl ?_
      refine J_ige rfl (fun _ => ?_) (fun y => absurd (nI_le (by omega) (by omega)) y)
      refine J_ret rfl rfl rfl (k X (by omega) (by omega) (xb7.trans (fun z hz => h3 z (by omega) (by omega))) (fun M2 y hm => ?_))
      have e : ∀ z, z < b + 261 → z ≠ b + 260 → Sm X7 M2 z := fun z z1 z2 => (h3 z z1 z2).trans (y z (by omega))
      have eb := e b (by omega) (by omega)
      refine ⟨⟨⟨by rw [eb.T.1]; exact t7, by rw [eb.2.2.2]; exact R7.1, by rw [eb.2.2.2]; exact R7.2.1, by rw [eb.2.2.2]; exact R7.2.2.1, by rw [eb.2.2.2]; exact R7.2.2.2.1, by rw [eb.2.2.2]; exact R7.2.2.2.2.1⟩, ⟨by rw [(e _ (by omega) (by omega)).T.1]; exact T7.1, by rw [(e _ (by omega) (by omega)).2.2.2]; exact T7.2.1, by rw [(e _ (by omega) (by omega)).T.1]; exact T7.2.2.1, by rw [(e _ (by omega) (by omega)).T.2]; exact T7.2.2.2⟩, P7.fr (e _ (by omega) (by omega)).1 (e _ (by omega) (by omega)).1 (e _ (by omega) (by omega)).1 (e _ (by omega) (by omega)).2.2.2, ⟨by rw [(e _ (by omega) (by omega)).T.1]; exact f7.1, by rw [(e _ (by omega) (by omega)).T.2]; exact f7.2.1⟩, ⟨by rw [(y.T (by omega)).1]; exact h4, by rw [(y.T (by omega)).2]; exact h5, fun s hs => ⟨by rw [(y _ (by omega)).2.2.2]; exact (h6 s hs).1, (h6 s hs).2.1.nx y (by omega)⟩⟩, hm⟩, ⟨fun i => i, fun _ i => i, ?_, OC00 ?_ ?_⟩, ⟨?_, Nat.zero_le _, fun k c hk => (by cases hk)⟩, fun w hw => ?_, fun s hs => (h6 s hs).2.2.nx y (by omega), fun _ => ?_, fun B hB => (by cases hB)⟩
      · refine S7.gen (by omega) (fun z hz => ?_) (e _ (by omega) (by omega)).2.2.2 (e _ (by omega) (by omega)).2.2.2 (e _ (by omega) (by omega)).2.2.2 (e _ (by omega) (by omega)).2.2.2 (e _ (by omega) (by omega)).2.2.2 (fun c hc => by rw [(e _ (by omega) (by omega)).2.1]) (fun i hi => by rw [(e _ (by omega) (by omega)).2.2.2]; exact S7.2.2.2.2.1.2.2.1 i hi) S7.2.2.2.2.1.2.2.2.1 (fun z hz => ?_)
        · by_cases c : z = b + 260
          · subst c
            have e1 : M2.1 (b + 260) = X.1 (b + 260) := (y _ (by omega)).1
            rw [e1]
            have e2 : X.1 (b + 260) = (mT X (b + 260), mS X (b + 260)) := rfl
            have e3 : X7.1 (b + 260) = (mT X7 (b + 260), mS X7 (b + 260)) := rfl
            rw [e2, e3, h4, h5, a7.1, a7.2]
          · exact (e z (by omega) c).1
        · exact (S7.qs hz).fr (fun z z1 z2 => (e z (by omega) (by omega)).1) (by rw [(e _ (by omega) (by omega)).2.1]) (fun z z1 z2 => (e z (by omega) (by omega)).2.2.2)
      · rw [(e _ (by omega) (by omega)).2.1]; exact w7
      · rw [(e _ (by omega) (by omega)).2.1]; exact p7
      · rw [(e _ (by omega) (by omega)).2.1, i7]; rfl
      · rw [(e _ (by omega) (by omega)).2.1, f7.2.2]; rfl
      · rw [eb.2.2.2]; exact R7.2.2.2.2.2
    | succ d ih =>
      intro s X hs h1 h2 h3 h4 h5 h6
      have eb := h3 b (by omega) (by omega)
      refine J_p 2 (ls' := [_, _]) rfl ?_
      refine J_ige rfl (fun y => absurd y (nI_ge (by omega) (by omega))) (fun _ => ?_)
      refine J_p 1 (ls' := [_, _]) rfl ?_
      refine J_getR rfl (by rw [eb.T.1]; exact t7) (by rw [eb.2.2.2]; exact R7.2.2.2.1) ?_
      refine J_p 1 (ls' := [_, _]) rfl ?_
      refine J_new rfl ?_
      rw [h1]
      refine J_p 1 (ls' := [_, _]) rfl ?_
      have xn : Nx X (nC X 7 4) (b + 261 + 2 * s) := Nx.nC (by omega)
      refine J_call rfl rfl rfl rfl rfl (c_shelfNew (by rw [nC_T, if_pos h1.symm]) (by show mN X + 1 = _; omega) (by rw [nC_R, if_pos h1.symm]) (fun Y hN8 hU8 hX8 hS8 hC8 => ?_))
      show J _ _ _ _ _ _ _
      have x8 := xn.trans hX8
      have e29 : mT Y (b + 260) = 29 := by rw [(x8.T (by omega)).1]; exact h4
      have u8 : mU Y = mU X + 44 := by rw [hU8]; show mU X + 4 + 40 = _; omega
      refine J_aast (n := s) (L := 8) rfl rfl (by rw [e29]; rfl) (by rw [e29, hS8.1]) (by rw [(x8.T (by omega)).2]; exact h5) (by omega) (by omega) ?_
      refine J_p 2 (ls' := [_, _]) rfl ?_
      rw [nI_add s 1]
      refine ih (s + 1) _ (by omega) (by show mN Y = _; omega) (by show mU Y = _; rw [u8, h2, Nat.mul_succ]; exact Nat.add_assoc _ _ _) (fun z z1 z2 => ((h3 z z1 z2).trans (x8 z (by omega))).trans ⟨rfl, rfl, rfl, by rw [mR_s1 _ _ _ z2]⟩) e29 (by show mS Y (b + 260) = 8; rw [(x8.T (by omega)).2]; exact h5) (fun j hj => ?_)
      by_cases c : j = s
      · subst c
        exact ⟨by rw [mR_s0, if_pos rfl], ⟨hS8.1, by rw [mR_s1 _ _ _ (by omega)]; exact hS8.2.1, hS8.2.2.1, hS8.2.2.2⟩, hC8.1, by rw [mR_s1 _ _ _ (by omega)]; exact hC8.2⟩
      · obtain ⟨g1, g2, g3⟩ := h6 j (by omega)
        have g2' := g2.nx x8 (by omega)
        have g3' := g3.nx x8 (by omega)
        exact ⟨by rw [mR_s0, if_neg c, (x8 _ (by omega)).2.2.2]; exact g1, ⟨g2'.1, by rw [mR_s1 _ _ _ (by omega)]; exact g2'.2.1, g2'.2.2.1, g2'.2.2.2⟩, g3'.1, by rw [mR_s1 _ _ _ (by omega)]; exact g3'.2⟩
  refine J_p 2 (ls' := [_, .int (nI 0)]) rfl ?_
  exact loop 8 0 X7 (by omega) (by omega) (by omega) (fun z _ _ => Sm.refl X7 z) a7.1 a7.2 (fun j hj => absurd hj (by omega))
end COMP51