/-! THE COMPONENT: a new message. -/
theorem kyA_app {ms : List Ma} {y : Ma} {l : La} (h : l_m l < ms.length) : kyA (ms ++ [y]) l = kyA ms l ∧ prA (ms ++ [y]) l = prA ms l ∧ pbA (ms ++ [y]) l = pbA ms l := by
  have e : (ms ++ [y]).getD (l_m l) dM = ms.getD (l_m l) dM := by
    rw [List.getD_eq_getElem?_getD, List.getD_eq_getElem?_getD, List.getElem?_append_left h]
  unfold kyA prA pbA
  rw [e]
  exact ⟨rfl, rfl, rfl⟩
theorem QC.ms {M : Mm} {a : Nat} {f : Nat → Nat} {x : Qa} {ms : List Ma} {y : Ma} (h : QC M a f x ms) (hl : ∀ (i : Nat) (l : La), (q_ls x)[i]? = some l → l_m l < ms.length) : QC M a f x (ms ++ [y]) := by
  obtain ⟨c1, c2, c3, c4, c5, c6, c7, c8, c9, c10, c11, c12⟩ := h
  refine ⟨c1, c2, c3, c4, c5, c6, c7, c8, c9, c10, c11, fun i l hi => ?_⟩
  obtain ⟨e1, e2, e3⟩ := kyA_app (y := y) (hl i l hi)
  have := c12 i l hi
  unfold CL at this ⊢
  rw [e1, e2, e3]
  exact this
section COMP28
variable {E : Nat × Nat} {M M' : Mm} {W : Nat → Prop} {Q : Option Value → Mm → Prop} {w t g a c q p i b m T : Nat} {o o' f f' : Nat → Nat} {F F' : Nat → Nat → Nat} {A : Ab} {ms : List Ma}
theorem c_put {key pr tm np : Nat} {v : Int32} (hS : MsS M g) (hC : MsC M g ms) (h3 : ms.length < 300) (K : ∀ M' : Mm, Fm (fun z => g < z ∧ z ≤ g + 5) M M' → Nw M M' → mR M' = mR M → MsC M' g (ms ++ [(np, key, pr, v, tm)]) → Q none M') : J E 19 0 [.ref g, .int (nI ms.length), .int (nI key), .int (nI pr), .int v, .int (nI tm), .int (nI np)] [] M Q := by
  obtain ⟨g1, g2⟩ := id hS
  refine J_p 2 (ls' := [_, _, _, _, _, _, _]) rfl ?_
  refine J_call rfl rfl rfl rfl rfl (c_isBelow (s := nI ms.length) (n := 300) (by omega) (fun j z1 z2 z3 => ?_) (fun h1 => ?_))
  · show J _ _ _ _ _ _ _
    refine J_zeq rfl (fun b => absurd b (by decide)) (fun _ => ?_)
    refine J_p 1 (ls' := [_, _, _, _, _, _, _]) rfl ?_
    refine J_getR rfl g1 (g2 0 (by omega)).1 ?_
    refine J_p 2 (ls' := [_, _, _, _, _, _, _]) rfl ?_
    refine J_iast (n := ms.length) rfl rfl (g2 0 (by omega)).2.1 (g2 0 (by omega)).2.2 (by omega) (by omega) ?_
    refine J_p 1 (ls' := [_, _, _, _, _, _, _]) rfl ?_
    refine J_getR rfl g1 (g2 1 (by omega)).1 ?_
    refine J_p 2 (ls' := [_, _, _, _, _, _, _]) rfl ?_
    refine J_iast (n := ms.length) rfl rfl (g2 1 (by omega)).2.1 (g2 1 (by omega)).2.2 (by omega) (by omega) ?_
    refine J_p 1 (ls' := [_, _, _, _, _, _, _]) rfl ?_
    refine J_getR rfl g1 (g2 2 (by omega)).1 ?_
    refine J_p 2 (ls' := [_, _, _, _, _, _, _]) rfl ?_
    refine J_iast (n := ms.length) rfl rfl (g2 2 (by omega)).2.1 (g2 2 (by omega)).2.2 (by omega) (by omega) ?_
    refine J_p 1 (ls' := [_, _, _, _, _, _, _]) rfl ?_
    refine J_getR rfl g1 (g2 3 (by omega)).1 ?_
    refine J_p 2 (ls' := [_, _, _, _, _, _, _]) rfl ?_
    refine J_iast (n := ms.length) rfl rfl (g2 3 (by omega)).2.1 (g2 3 (by omega)).2.2 (by omega) (by omega) ?_
    refine J_p 1 (ls' := [_, _, _, _, _, _, _]) rfl ?_
    refine J_getR rfl g1 (g2 4 (by omega)).1 ?_
    refine J_p 2 (ls' := [_, _, _, _, _, _, _]) rfl ?_
    refine J_iast (n := ms.length) rfl rfl (g2 4 (by omega)).2.1 (g2 4 (by omega)).2.2 (by omega) (by omega) ?_
    obtain ⟨M5, hM5⟩ : ∃ X, X = sI (sI (sI (sI (sI M (g + 1 + 0) ms.length (nI key)) (g + 1 + 1) ms.length (nI pr)) (g + 1 + 2) ms.length v) (g + 1 + 3) ms.length (nI tm)) (g + 1 + 4) ms.length (nI np) := ⟨_, rfl⟩
    rw [← hM5]
    have nr : ∀ j, j < 5 → ¬ rO (mT M (g + 1 + j)) := fun j hj => by rw [(g2 j hj).2.1]; unfold rO; omega
    have hF : Fm (fun z => g < z ∧ z ≤ g + 5) M M5 := by
      rw [hM5]
      exact ((((Fm.sI (W := fun z => g < z ∧ z ≤ g + 5) ⟨by omega, by omega⟩ (nr 0 (by omega))).trans (Fm.sI ⟨by omega, by omega⟩ (nr 1 (by omega)))).trans (Fm.sI ⟨by omega, by omega⟩ (nr 2 (by omega)))).trans (Fm.sI ⟨by omega, by omega⟩ (nr 3 (by omega)))).trans (Fm.sI ⟨by omega, by omega⟩ (nr 4 (by omega)))
    refine J_ret rfl rfl rfl (K M5 hF (by rw [hM5]; exact ⟨rfl, rfl, rfl⟩) (by rw [hM5]; rfl) ⟨by rw [List.length_append]; show ms.length + 1 ≤ 300; omega, fun n y hy => ?_⟩)
    have i0 : mI M5 (g + 1 + 0) n = if n = ms.length then nI key else mI M (g + 1 + 0) n := by rw [hM5, mI_s1 _ _ _ (by omega), mI_s1 _ _ _ (by omega), mI_s1 _ _ _ (by omega), mI_s1 _ _ _ (by omega), mI_s0]
    have i1 : mI M5 (g + 1 + 1) n = if n = ms.length then nI pr else mI M (g + 1 + 1) n := by rw [hM5, mI_s1 _ _ _ (by omega), mI_s1 _ _ _ (by omega), mI_s1 _ _ _ (by omega), mI_s0, mI_s1 _ _ _ (by omega)]
    have i2 : mI M5 (g + 1 + 2) n = if n = ms.length then v else mI M (g + 1 + 2) n := by rw [hM5, mI_s1 _ _ _ (by omega), mI_s1 _ _ _ (by omega), mI_s0, mI_s1 _ _ _ (by omega), mI_s1 _ _ _ (by omega)]
    have i3 : mI M5 (g + 1 + 3) n = if n = ms.length then nI tm else mI M (g + 1 + 3) n := by rw [hM5, mI_s1 _ _ _ (by omega), mI_s0, mI_s1 _ _ _ (by omega), mI_s1 _ _ _ (by omega), mI_s1 _ _ _ (by omega)]
    have i4 : mI M5 (g + 1 + 4) n = if n = ms.length then nI np else mI M (g + 1 + 4) n := by rw [hM5, mI_s0, mI_s1 _ _ _ (by omega), mI_s1 _ _ _ (by omega), mI_s1 _ _ _ (by omega), mI_s1 _ _ _ (by omega)]
    rw [i0, i1, i2, i3, i4]
    rcases app_or hy with ⟨rfl, rfl⟩ | ⟨hlt, hy⟩
    · rw [if_pos rfl, if_pos rfl, if_pos rfl, if_pos rfl, if_pos rfl]
      exact ⟨rfl, rfl, rfl, rfl, rfl⟩
    · rw [if_neg (by omega), if_neg (by omega), if_neg (by omega), if_neg (by omega), if_neg (by omega)]
      exact hC.2 n y hy
  · rw [ixN_nI h3 (by omega)] at h1
    cases h1
/-- the world with the new message and its count -/
theorem OS.newM (hS : OS M w t g o F) (hF : Fm (fun z => g < z ∧ z ≤ g + 5) M M') (eR : mR M' = mR M) : OS (sI M' w 1 (nI m)) w t g o F := by
  obtain ⟨y1, y2, y3⟩ := hS.2.2.2.2.2.2.1
  have hn := hS.2.2.2.2.2.2.2
  have e : ∀ z, z < mN M → ¬ (g < z ∧ z ≤ g + 5) → mI M' z = mI M z := fun z h1 h2 => (hF.2.2 z h1 (Or.inl h2)).2.1
  refine hS.gen hF.1 hF.2.1 (by rw [mR_sI, eR]) (by rw [mR_sI, eR]) (by rw [mR_sI, eR]) (by rw [mR_sI, eR]) (by rw [mR_sI, eR]) (fun c hc => by rw [mI_s1 _ _ _ (by omega), e _ (by omega) (by omega)]) (fun i hi => by rw [mR_sI, eR]; exact hS.2.2.2.2.1.2.2.1 i hi) hS.2.2.2.2.1.2.2.2.1 (fun q hq => ?_)
  exact (hS.qs hq).fr (fun z h1 h2 => hF.2.1 z (by omega)) (by rw [mI_s1 _ _ _ (by omega), e _ (by omega) (by omega)]) (fun z _ _ => by rw [mR_sI, eR])
theorem OC.newM {key pr : Nat} {v : Int32} (hS : OS M w t g o F) (hC : OC M w t g o F A) (hF : Fm (fun z => g < z ∧ z ≤ g + 5) M M') (eR : mR M' = mR M) (hM : MsC M' g (a_m A ++ [((a_t A).length, key, pr, v, a_n A)])) (hl : ∀ (q : Nat) (x : Qa) (i : Nat) (l : La), (a_q A)[q]? = some x → (q_ls x)[i]? = some l → l_m l < (a_m A).length) : OC (sI M' w 1 (nI ((a_m A).length + 1))) w t g o F (newMs A key pr v) := by
  obtain ⟨y1, y2, y3⟩ := hS.2.2.2.2.2.2.1
  have hn := hS.2.2.2.2.2.2.2
  have n9 : ¬ rO (mT M' w) := by rw [(hF.T (show w < mN M by omega)).1, hS.1.1]; unfold rO; omega
  have hF2 : Fm (fun z => z = w ∨ (g < z ∧ z ≤ g + 5)) M (sI M' w 1 (nI ((a_m A).length + 1))) := (hF.mono (fun z h => Or.inr h)).trans (Fm.sI (Or.inl rfl) n9)
  have e : ∀ z, z < mN M → ¬ (g < z ∧ z ≤ g + 5) → z ≠ w → mI (sI M' w 1 (nI ((a_m A).length + 1))) z = mI M z := fun z h1 h2 h3 => by rw [mI_s1 _ _ _ h3]; exact (hF.2.2 z h1 (Or.inl h2)).2.1
  have ew : ∀ j, j ≠ 1 → mI (sI M' w 1 (nI ((a_m A).length + 1))) w j = mI M w j := fun j hj => by rw [mI_s0, if_neg hj, (hF.2.2 w (by omega) (Or.inl (by omega))).2.1]
  obtain ⟨c1, c2, c3, c4, c5, c6, ⟨txt, c7⟩, c8, c9, c10, c11⟩ := hC
  refine ⟨?_, ⟨(ew 3 (by omega)).trans c2.1, c2.2⟩, ⟨(ew 5 (by omega)).trans c3.1, c3.2⟩, ⟨(ew 7 (by omega)).trans c4.1, c4.2⟩, (ew 9 (by omega)).trans c5, (ew 10 (by omega)).trans c6, ⟨txt, c7.fr (e _ (by omega) (by omega) (by omega)) (e _ (by omega) (by omega) (by omega)) (e _ (by omega) (by omega) (by omega))⟩, fun z y hy => ?_, fun c k hk => ?_, fun i d hd => ?_, hM.fr (fun j hj => mI_s1 _ _ _ (by omega))⟩
  · show _ = nI (a_m A ++ [((a_t A).length, key, pr, v, a_n A)]).length
    rw [List.length_append, mI_s0, if_pos rfl]
    rfl
  · have zl : z < (a_q A).length := li hy
    have q8 := c2.2
    exact QC.ms ((c8 z y hy).fr hF2 (fun i hi => (hS.qs (q := z) (by omega)).lt hi) (fun b h1 h2 => ⟨e b (by omega) (by omega) (by omega), by rw [mR_sI, eR]⟩)) (fun i l hi => hl z y i l hy hi)
  · have cl : c < (a_c A).length := li hk
    have c10' := c3.2
    exact (c9 c k hk).fr (e _ (by omega) (by omega) (by omega))
  · have dl : i < (a_d A).length := li hd
    have d30 := c4.2
    have := (hS.2.2.2.2.1.2.2.1 i (by omega)).2
    exact (c10 i d hd).fr hF2 (e _ (by omega) (by omega) (by omega)) (by rw [mR_sI, eR])
end COMP28