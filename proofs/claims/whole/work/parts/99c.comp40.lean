/-! THE COMPONENT: a world is taken from another; a queue begins. -/
/-- a world's content, as far as it is there -/
def PO (M : Mm) (w t : Nat) (o : Nat → Nat) (F : Nat → Nat → Nat) (A : Ab) (nq nc nd : Nat) : Prop :=
  (mI M w 1 = nI (a_m A).length ∧ mI M w 3 = nI (a_q A).length ∧ mI M w 5 = nI (a_c A).length ∧ mI M w 7 = nI (a_d A).length ∧ mI M w 9 = nI (a_n A) ∧ mI M w 10 = a_s A) ∧ (∃ txt : List Int32, PC M t (a_t A) txt) ∧
  (∀ (q : Nat) (x : Qa), q < nq → (a_q A)[q]? = some x → QC M (t + 4 + 25 * q) (F q) x (a_m A)) ∧
  (∀ (c : Nat) (k : Co), c < nc → (a_c A)[c]? = some k → KC M (t + 205 + c) k) ∧
  (∀ (i : Nat) (d : Da), i < nd → (a_d A)[i]? = some d → DC M (t + 216 + o i) d)
section COMP40
variable {E : Nat × Nat} {M M' : Mm} {W : Nat → Prop} {Q : Option Value → Mm → Prop} {w t w' t' g a c q p i b m T nq nc nd : Nat} {o o' f f' : Nat → Nat} {F F' : Nat → Nat → Nat} {A B : Ab} {x : Qa} {d : Da} {ms : List Ma} {l : La} {k : Co}
/-- what is changed elsewhere -/
theorem OS.oth (hS : OS M w t g o F) (hF : Fm W M M') (hW : ∀ z, Ww w t z ∨ z = g → ¬ W z) : OS M' w t g o F := by
  have hn := hS.2.2.2.2.2.2.2
  obtain ⟨y1, y2, y3⟩ := hS.2.2.2.2.2.2.1
  have e : ∀ z, Ww w t z ∨ z = g → mI M' z = mI M z ∧ mR M' z = mR M z := fun z h => by
    have hz : z < mN M := by unfold Ww at h; omega
    exact ⟨(hF.2.2 z hz (Or.inl (hW z h))).2.1, (hF.2.2 z hz (Or.inl (hW z h))).2.2.2⟩
  refine hS.gen hF.1 hF.2.1 (e _ (by unfold Ww; omega)).2 (e _ (by unfold Ww; omega)).2 (e _ (by unfold Ww; omega)).2 (e _ (by unfold Ww; omega)).2 (e _ (by unfold Ww; omega)).2 (fun c hc => by rw [(e _ (by unfold Ww; omega)).1]) (fun i hi => by rw [(e _ (by unfold Ww; omega)).2]; exact hS.2.2.2.2.1.2.2.1 i hi) hS.2.2.2.2.1.2.2.2.1 (fun z hz => ?_)
  exact (hS.qs hz).fr (fun b h1 h2 => hF.2.1 b (by omega)) (by rw [(e _ (by unfold Ww; omega)).1]) (fun b h1 h2 => (e _ (by unfold Ww; omega)).2)
theorem PO.fr (hS : OS M w t g o F) (h : PO M w t o F A nq nc nd) (h8 : (a_q A).length ≤ 8) (h10 : (a_c A).length ≤ 10) (h30 : (a_d A).length ≤ 30) (hF : Fm W M M') (hw : ¬ W w) (ht : ∀ z, t ≤ z → z ≤ t + 2 → ¬ W z) (hq : ∀ q, q < nq → ∀ z, Qw (t + 4 + 25 * q) z → ¬ W z) (hc : ∀ c, c < nc → ¬ W (t + 205 + c)) (hd : ∀ i, i < nd → i < 30 → ¬ W (t + 216 + o i)) : PO M' w t o F A nq nc nd := by
  have hn := hS.2.2.2.2.2.2.2
  obtain ⟨y1, y2, y3⟩ := hS.2.2.2.2.2.2.1
  have e : ∀ z, Ww w t z → ¬ W z → mI M' z = mI M z ∧ mR M' z = mR M z := fun z h1 h2 => by
    have hz : z < mN M := by unfold Ww at h1; omega
    exact ⟨(hF.2.2 z hz (Or.inl h2)).2.1, (hF.2.2 z hz (Or.inl h2)).2.2.2⟩
  obtain ⟨a1, ⟨txt, a2⟩, a3, a4, a5⟩ := h
  have ew := (e w (Or.inl rfl) hw).1
  refine ⟨by rw [ew]; exact a1, ⟨txt, a2.fr (e _ (Or.inr ⟨by omega, by omega⟩) (ht _ (by omega) (by omega))).1 (e _ (Or.inr ⟨by omega, by omega⟩) (ht _ (by omega) (by omega))).1 (e _ (Or.inr ⟨by omega, by omega⟩) (ht _ (by omega) (by omega))).1⟩, fun q x h1 hx => ?_, fun c k h1 hk => ?_, fun i d h1 hd' => ?_⟩
  · have := li hx
    have q8 : q < 8 := by omega
    exact (a3 q x h1 hx).fr hF (fun j hj => (hS.qs q8).lt hj) (fun z z1 z2 => e z (Or.inr ⟨by omega, by omega⟩) (hq q h1 z ⟨z1, z2⟩))
  · have := li hk
    exact (a4 c k h1 hk).fr (e _ (Or.inr ⟨by omega, by omega⟩) (hc c h1)).1
  · have := li hd'
    have := (hS.2.2.2.2.1.2.2.1 i (by omega)).2
    exact (a5 i d h1 hd').fr hF (e _ (Or.inr ⟨by omega, by omega⟩) (hd i h1 (by omega))).1 (e _ (Or.inr ⟨by omega, by omega⟩) (hd i h1 (by omega))).2
theorem OC.po (hC : OC M w t g o F A) : PO M w t o F A nq nc nd := ⟨⟨hC.1, hC.2.1.1, hC.2.2.1.1, hC.2.2.2.1.1, hC.2.2.2.2.1, hC.2.2.2.2.2.1⟩, hC.2.2.2.2.2.2.1, fun q x _ hx => hC.qc hx, fun c k _ hk => hC.kc hk, fun i d _ hd => hC.dc hd⟩
theorem PO.oc (h : PO M w t o F A nq nc nd) (h8 : (a_q A).length ≤ 8) (h10 : (a_c A).length ≤ 10) (h30 : (a_d A).length ≤ 30) (h1 : (a_q A).length ≤ nq) (h2 : (a_c A).length ≤ nc) (h3 : (a_d A).length ≤ nd) (hM : MsC M g (a_m A)) : OC M w t g o F A := by
  obtain ⟨⟨a1, a2, a3, a4, a5, a6⟩, a7, a8, a9, a10⟩ := h
  exact ⟨a1, ⟨a2, h8⟩, ⟨a3, h10⟩, ⟨a4, h30⟩, a5, a6, a7, fun q x hx => a8 q x (by have := li hx; omega) hx, fun c k hk => a9 c k (by have := li hk; omega) hk, fun i d hd => a10 i d (by have := li hd; omega) hd, hM⟩
theorem OC.oth (hS : OS M w t g o F) (hC : OC M w t g o F A) (hF : Fm W M M') (hW : ∀ z, Ww w t z ∨ (g ≤ z ∧ z ≤ g + 5) → ¬ W z) : OC M' w t g o F A := by
  have hn := hS.2.2.2.2.2.2.2
  obtain ⟨y1, y2, y3⟩ := hS.2.2.2.2.2.2.1
  refine ((OC.po (nq := 8) (nc := 10) (nd := 30) hC).fr hS hC.2.1.2 hC.2.2.1.2 hC.2.2.2.1.2 hF (hW _ (Or.inl (Or.inl rfl))) (fun z h1 h2 => hW _ (Or.inl (Or.inr ⟨by omega, by omega⟩))) (fun q h1 z h2 => hW _ (Or.inl (Or.inr (by unfold Qw at h2; omega)))) (fun c h1 => hW _ (Or.inl (Or.inr (by omega)))) (fun i h1 h2 => hW _ (Or.inl (Or.inr (by have := (hS.2.2.2.2.1.2.2.1 i h2).2; omega))))).oc hC.2.1.2 hC.2.2.1.2 hC.2.2.2.1.2 hC.2.1.2 hC.2.2.1.2 hC.2.2.2.1.2 ?_
  exact hC.mc.fr (fun j hj => (hF.2.2 _ (by omega) (Or.inl (hW _ (Or.inr (by omega))))).2.1)
theorem upF_id (F : Nat → Nat → Nat) (q : Nat) : upF F q (F q) = F := by
  funext z
  unfold upF
  split
  · subst z
    rfl
  · rfl
theorem OS.setd (hS : OS M w t g o F) (hi : i < 30) (hF : Fm (fun z => z = t + 216 + o i) M M') : OS M' w t g o F := by
  have hn := hS.2.2.2.2.2.2.2
  obtain ⟨y1, y2, y3⟩ := hS.2.2.2.2.2.2.1
  have e : ∀ z, z < mN M → z ≠ t + 216 + o i → mI M' z = mI M z ∧ mR M' z = mR M z := fun z h1 h2 => ⟨(hF.2.2 z h1 (Or.inl h2)).2.1, (hF.2.2 z h1 (Or.inl h2)).2.2.2⟩
  refine hS.gen hF.1 hF.2.1 (e _ (by omega) (by omega)).2 (e _ (by omega) (by omega)).2 (e _ (by omega) (by omega)).2 (e _ (by omega) (by omega)).2 (e _ (by omega) (by omega)).2 (fun c hc => by rw [(e _ (by omega) (by omega)).1]) (fun i hi => by rw [(e _ (by omega) (by omega)).2]; exact hS.2.2.2.2.1.2.2.1 i hi) hS.2.2.2.2.1.2.2.2.1 (fun z hz => ?_)
  exact (hS.qs hz).fr (fun b h1 h2 => hF.2.1 b (by omega)) (by rw [(e _ (by omega) (by omega)).1]) (fun b h1 h2 => (e _ (by omega) (by omega)).2)
theorem c_worldTake (hS : OS M w t g o F) (hS' : OS M w' t' g o' F') (hC : OC M w' t' g o' F' B) (hW : Wf T B) (hD : ∀ z, Ww w t z → ¬ Ww w' t' z) (K : ∀ M' : Mm, Fm (Ww w t) M M' → Nw M M' → OS M' w t g o F → OC M' w t g o F B → Q none M') : J E 68 0 [.ref w, .ref w', U0] [] M Q := by
  have hn := hS.2.2.2.2.2.2.2
  obtain ⟨y1, y2, y3⟩ := hS.2.2.2.2.2.2.1
  have hn' := hS'.2.2.2.2.2.2.2
  obtain ⟨y1', y2', y3'⟩ := hS'.2.2.2.2.2.2.1
  have n8 := hC.2.1.2
  have n10 := hC.2.2.1.2
  have n30 := hC.2.2.2.1.2
  have hne : w' ≠ w := fun e => hD w (Or.inl rfl) (Or.inl e.symm)
  have hC0 := hC
  obtain ⟨c1, c2, c3, c4, c5, c6, ⟨txt, c7⟩, _⟩ := hC
  have dis : t + 246 ≤ t' ∨ t' + 246 ≤ t := by
    by_cases e : t ≤ t'
    · by_cases e2 : t' < t + 246
      · exact absurd (Or.inr ⟨by omega, by omega⟩) (hD t' (Or.inr ⟨e, e2⟩))
      · omega
    · by_cases e2 : t < t' + 246
      · exact absurd (Or.inr ⟨by omega, by omega⟩) (hD t (Or.inr ⟨by omega, by omega⟩))
      · omega
  have nw : ¬ rO (mT M w) := by rw [hS.1.1]; unfold rO; omega
  refine J_p 2 (ls' := [_, _, _]) rfl ?_
  refine J_gi (z := nI (a_m B).length) rfl hS'.1.1 (by exact c1) ?_
  refine J_putI rfl hS.1.1 (Or.inl rfl) ?_
  refine J_p 2 (ls' := [_, _, _]) rfl ?_
  refine J_gi (z := nI (a_q B).length) rfl hS'.1.1 (by rw [mI_s1 _ _ _ hne]; exact c2.1) ?_
  refine J_putI rfl hS.1.1 (Or.inl rfl) ?_
  refine J_p 2 (ls' := [_, _, _]) rfl ?_
  refine J_gi (z := nI (a_c B).length) rfl hS'.1.1 (by rw [mI_s1 _ _ _ hne]; rw [mI_s1 _ _ _ hne]; exact c3.1) ?_
  refine J_putI rfl hS.1.1 (Or.inl rfl) ?_
  refine J_p 2 (ls' := [_, _, _]) rfl ?_
  refine J_gi (z := nI (a_d B).length) rfl hS'.1.1 (by rw [mI_s1 _ _ _ hne]; rw [mI_s1 _ _ _ hne]; rw [mI_s1 _ _ _ hne]; exact c4.1) ?_
  refine J_putI rfl hS.1.1 (Or.inl rfl) ?_
  refine J_p 2 (ls' := [_, _, _]) rfl ?_
  refine J_gi (z := nI (a_n B)) rfl hS'.1.1 (by rw [mI_s1 _ _ _ hne]; rw [mI_s1 _ _ _ hne]; rw [mI_s1 _ _ _ hne]; rw [mI_s1 _ _ _ hne]; exact c5) ?_
  refine J_putI rfl hS.1.1 (Or.inl rfl) ?_
  refine J_p 2 (ls' := [_, _, _]) rfl ?_
  refine J_gi (z := a_s B) rfl hS'.1.1 (by rw [mI_s1 _ _ _ hne]; rw [mI_s1 _ _ _ hne]; rw [mI_s1 _ _ _ hne]; rw [mI_s1 _ _ _ hne]; rw [mI_s1 _ _ _ hne]; exact c6) ?_
  refine J_putI rfl hS.1.1 (Or.inl rfl) ?_
  obtain ⟨M1, hM1⟩ : ∃ M1, sI (sI (sI (sI (sI (sI (M) w 1 (nI (a_m B).length)) w 3 (nI (a_q B).length)) w 5 (nI (a_c B).length)) w 7 (nI (a_d B).length)) w 9 (nI (a_n B))) w 10 (a_s B) = M1 := ⟨_, rfl⟩
  have t1 : M1.1 = M.1 := by rw [← hM1]; rfl
  have r1 : mR M1 = mR M := by rw [← hM1]; rfl
  have i1 : ∀ z, z ≠ w → mI M1 z = mI M z := fun z hz => by rw [← hM1, mI_s1 _ _ _ hz, mI_s1 _ _ _ hz, mI_s1 _ _ _ hz, mI_s1 _ _ _ hz, mI_s1 _ _ _ hz, mI_s1 _ _ _ hz]
  have F1 : Fm (fun z => z = w) M M1 := by
    rw [← hM1]
    exact ((((((Fm.sI (W := fun z => z = w) rfl nw).trans (Fm.sI rfl nw)).trans (Fm.sI rfl nw)).trans (Fm.sI rfl nw)).trans (Fm.sI rfl nw)).trans (Fm.sI rfl nw))
  have N1 : Nw M M1 := by rw [← hM1]; exact ⟨rfl, rfl, rfl⟩
  have S1 : OS M1 w t g o F := by rw [← hM1]; exact (((((hS.seti).seti).seti).seti).seti).seti
  have v1 : mI M1 w 1 = nI (a_m B).length := by rw [← hM1]; simp only [mI_s0]; rfl
  have v2 : mI M1 w 3 = nI (a_q B).length := by rw [← hM1]; simp only [mI_s0]; rfl
  have v3 : mI M1 w 5 = nI (a_c B).length := by rw [← hM1]; simp only [mI_s0]; rfl
  have v4 : mI M1 w 7 = nI (a_d B).length := by rw [← hM1]; simp only [mI_s0]; rfl
  have v5 : mI M1 w 9 = nI (a_n B) := by rw [← hM1]; simp only [mI_s0]; rfl
  have v6 : mI M1 w 10 = a_s B := by rw [← hM1]; simp only [mI_s0]; rfl
  rw [hM1]
  -- another world stands
  have oth : ∀ (X : Mm), Fm (Ww w t) M X → OS X w' t' g o' F' ∧ OC X w' t' g o' F' B := fun X hX => by
    have h0 : ∀ z, Ww w' t' z ∨ (g ≤ z ∧ z ≤ g + 5) → ¬ Ww w t z := fun z h h2 => by
      rcases h with h | h
      · exact hD z h2 h
      · unfold Ww at h2
        omega
    exact ⟨hS'.oth hX (fun z h => h0 z (by rcases h with h | h; exact Or.inl h; exact Or.inr (by omega))), OC.oth hS' hC0 hX h0⟩
  have W1 : Fm (Ww w t) M M1 := F1.mono (fun z e => Or.inl e)
  obtain ⟨S1', C1'⟩ := oth M1 W1
  refine J_p 1 (ls' := [_, _, _]) rfl ?_
  refine J_getR rfl S1.1.1 S1.1.2.2.2.2.2 ?_
  refine J_p 1 (ls' := [_, _, _]) rfl ?_
  refine J_getR rfl S1'.1.1 S1'.1.2.2.2.2.2 ?_
  obtain ⟨txt1, p1⟩ := C1'.2.2.2.2.2.2.1
  refine J_call rfl rfl rfl (decide_eq_true S1.2.1.1) rfl (c_patTake S1.2.1 S1'.2.1 (by omega) p1 (fun M2 hF2 hN2 hR2 hI2 hP2 => ?_))
  show J _ _ _ _ _ _ _
  have W2 : Fm (Ww w t) M M2 := W1.trans (hF2.mono (fun z e => Or.inr ⟨by omega, by omega⟩))
  have S2 : OS M2 w t g o F := by
    have e : ∀ z, z < mN M1 → ¬ (t ≤ z ∧ z ≤ t + 2) → mI M2 z = mI M1 z ∧ mR M2 z = mR M1 z := fun z h1 h2 => ⟨hI2 z h2, by rw [hR2]⟩
    have hn1 := S1.2.2.2.2.2.2.2
    refine S1.gen hF2.1 hF2.2.1 (by rw [hR2]) (by rw [hR2]) (by rw [hR2]) (by rw [hR2]) (by rw [hR2]) (fun c hc => by rw [hI2 _ (by omega)]) (fun i hi => by rw [hR2]; exact S1.2.2.2.2.1.2.2.1 i hi) S1.2.2.2.2.1.2.2.2.1 (fun z hz => ?_)
    exact (S1.qs hz).fr (fun b h1 h2 => hF2.2.1 b (by omega)) (by rw [hI2 _ (by omega)]) (fun b h1 h2 => by rw [hR2])
  have iw : mI M2 w = mI M1 w := hI2 w (by omega)
  have P2 : PO M2 w t o F B 0 0 0 := ⟨⟨by rw [iw]; exact v1, by rw [iw]; exact v2, by rw [iw]; exact v3, by rw [iw]; exact v4, by rw [iw]; exact v5, by rw [iw]; exact v6⟩, ⟨txt1, hP2⟩, fun q x h => absurd h (by omega), fun q x h => absurd h (by omega), fun q x h => absurd h (by omega)⟩
  have N2 : Nw M M2 := N1.trans hN2
  have loop3 : ∀ (d kk : Nat) (X : Mm), kk + d = (a_d B).length → Fm (Ww w t) M X → Nw M X → OS X w t g o F → PO X w t o F B (a_q B).length (a_c B).length kk → J E 68 135 [.ref w, .ref w', .int (nI kk)] [] X Q := by
    intro d
    induction d with
    | zero =>
      intro kk X hk hX hN hSX hP
      obtain rfl : kk = (a_d B).length := by omega
      refine J_p 2 (ls' := [_, _, _]) rfl ?_
      refine J_gi rfl hSX.1.1 hP.1.2.2.2.1 ?_
      refine J_ige rfl (fun _ => ?_) (fun y => absurd (nI_le (by omega) (by omega)) y)
      exact J_ret rfl rfl rfl (K X hX hN hSX (hP.oc n8 n10 n30 (Nat.le_refl _) (Nat.le_refl _) (Nat.le_refl _) (oth X hX).2.mc))
    | succ d ih =>
      intro kk X hk hX hN hSX hP
      obtain ⟨SX', CX'⟩ := oth X hX
      obtain ⟨y, hy⟩ := get_of (l := a_d B) (i := kk) (by omega)
      have hok := hSX.2.2.2.2.1.2.2.1 kk (by omega)
      have hok' := SX'.2.2.2.2.1.2.2.1 kk (by omega)
      have tok := hSX.2.2.2.2.1.2.2.2.2 (o kk) hok.2
      have tok' := SX'.2.2.2.2.1.2.2.2.2 (o' kk) hok'.2
      refine J_p 2 (ls' := [_, _, _]) rfl ?_
      refine J_gi rfl hSX.1.1 hP.1.2.2.2.1 ?_
      refine J_ige rfl (fun y => absurd y (nI_ge (by omega) (by omega))) (fun _ => ?_)
      refine J_p 2 (ls' := [_, _, _]) rfl ?_
      refine J_ige rfl (fun y => absurd y (nI_ge (by omega) (by omega))) (fun _ => ?_)
      refine J_p 1 (ls' := [_, _, _]) rfl ?_
      refine J_getR rfl hSX.1.1 hSX.1.2.2.2.2.1 ?_
      refine J_p 1 (ls' := [_, _, _]) rfl ?_
      refine J_aald (n := kk) rfl rfl (by rw [hSX.2.2.2.2.1.1]; rfl) hSX.2.2.2.2.1.2.1 (by omega) (by omega) hok.1 ?_
      refine J_p 1 (ls' := [_, _, _]) rfl ?_
      refine J_getR rfl SX'.1.1 SX'.1.2.2.2.2.1 ?_
      refine J_p 1 (ls' := [_, _, _]) rfl ?_
      refine J_aald (n := kk) rfl rfl (by rw [SX'.2.2.2.2.1.1]; rfl) SX'.2.2.2.2.1.2.1 (by omega) (by omega) hok'.1 ?_
      refine J_call rfl rfl rfl (decide_eq_true tok) rfl (c_deadTake tok tok' (CX'.dc hy) (hW.2.2.2.2.1 kk y hy).2.2.1 (fun X2 hF3 hN3 hO3 hD3 => ?_))
      show J _ _ _ _ _ _ _
      refine J_p 2 (ls' := [_, _, _]) rfl ?_
      rw [nI_add kk 1]
      have hP3 := hP.fr hSX n8 n10 n30 hF3 (by omega) (fun z h1 h2 => by omega) (fun q h1 z h2 => by unfold Qw at h2; omega) (fun c h1 => by omega) (fun i h1 h2 e => by
        have := hSX.2.2.2.2.1.2.2.2.1 i kk h2 (by omega) (by omega)
        omega)
      refine ih (kk + 1) X2 (by omega) (hX.trans (hF3.mono (fun z e => Or.inr ⟨by omega, by omega⟩))) (hN.trans hN3) (hSX.setd (by omega) hF3) ⟨hP3.1, hP3.2.1, hP3.2.2.1, hP3.2.2.2.1, fun i dd hi hdd => ?_⟩
      by_cases c : i = kk
      · subst c
        rw [hy] at hdd
        cases hdd
        exact hD3
      · exact hP3.2.2.2.2 i dd (by omega) hdd
  have loop2 : ∀ (d kk : Nat) (X : Mm), kk + d = (a_c B).length → Fm (Ww w t) M X → Nw M X → OS X w t g o F → PO X w t o F B (a_q B).length kk 0 → J E 68 98 [.ref w, .ref w', .int (nI kk)] [] X Q := by
    intro d
    induction d with
    | zero =>
      intro kk X hk hX hN hSX hP
      obtain rfl : kk = (a_c B).length := by omega
      refine J_p 2 (ls' := [_, _, _]) rfl ?_
      refine J_gi rfl hSX.1.1 hP.1.2.2.1 ?_
      refine J_ige rfl (fun _ => ?_) (fun y => absurd (nI_le (by omega) (by omega)) y)
      refine J_p 2 (ls' := [_, _, _]) rfl ?_
      exact loop3 (a_d B).length 0 X (by omega) hX hN hSX hP
    | succ d ih =>
      intro kk X hk hX hN hSX hP
      obtain ⟨SX', CX'⟩ := oth X hX
      obtain ⟨y, hy⟩ := get_of (l := a_c B) (i := kk) (by omega)
      have hok := hSX.2.2.2.1.2.2 kk (by omega)
      have hok' := SX'.2.2.2.1.2.2 kk (by omega)
      refine J_p 2 (ls' := [_, _, _]) rfl ?_
      refine J_gi rfl hSX.1.1 hP.1.2.2.1 ?_
      refine J_ige rfl (fun y => absurd y (nI_ge (by omega) (by omega))) (fun _ => ?_)
      refine J_p 2 (ls' := [_, _, _]) rfl ?_
      refine J_ige rfl (fun y => absurd y (nI_ge (by omega) (by omega))) (fun _ => ?_)
      refine J_p 1 (ls' := [_, _, _]) rfl ?_
      refine J_getR rfl hSX.1.1 hSX.1.2.2.2.1 ?_
      refine J_p 1 (ls' := [_, _, _]) rfl ?_
      refine J_aald (n := kk) rfl rfl (by rw [hSX.2.2.2.1.1]; rfl) hSX.2.2.2.1.2.1 (by omega) (by omega) hok.1 ?_
      refine J_p 1 (ls' := [_, _, _]) rfl ?_
      refine J_getR rfl SX'.1.1 SX'.1.2.2.2.1 ?_
      refine J_p 1 (ls' := [_, _, _]) rfl ?_
      refine J_aald (n := kk) rfl rfl (by rw [SX'.2.2.2.1.1]; rfl) SX'.2.2.2.1.2.1 (by omega) (by omega) hok'.1 ?_
      refine J_call rfl rfl rfl (decide_eq_true hok.2.1) rfl (c_conTake hok.2.1 hok'.2.1 (by omega) (CX'.kc hy) (hW.2.2.1 kk y hy).2.2.1 (fun X2 hF3 hN3 hR3 hI3 hK3 => ?_))
      show J _ _ _ _ _ _ _
      refine J_p 2 (ls' := [_, _, _]) rfl ?_
      rw [nI_add kk 1]
      have hP3 := hP.fr hSX n8 n10 n30 hF3 (by omega) (fun z h1 h2 => by omega) (fun q h1 z h2 => by unfold Qw at h2; omega) (fun c h1 => by omega) (fun i h1 => by omega)
      refine ih (kk + 1) X2 (by omega) (hX.trans (hF3.mono (fun z e => Or.inr ⟨by omega, by omega⟩))) (hN.trans hN3) (hSX.setk hF3 (by omega) hI3) ⟨hP3.1, hP3.2.1, hP3.2.2.1, fun i dd hi hdd => ?_, hP3.2.2.2.2⟩
      by_cases c : i = kk
      · subst c
        rw [hy] at hdd
        cases hdd
        exact hK3
      · exact hP3.2.2.2.1 i dd (by omega) hdd
  have loop1 : ∀ (d kk : Nat) (X : Mm), kk + d = (a_q B).length → Fm (Ww w t) M X → Nw M X → OS X w t g o F → PO X w t o F B kk 0 0 → J E 68 61 [.ref w, .ref w', .int (nI kk)] [] X Q := by
    intro d
    induction d with
    | zero =>
      intro kk X hk hX hN hSX hP
      obtain rfl : kk = (a_q B).length := by omega
      refine J_p 2 (ls' := [_, _, _]) rfl ?_
      refine J_gi rfl hSX.1.1 hP.1.2.1 ?_
      refine J_ige rfl (fun _ => ?_) (fun y => absurd (nI_le (by omega) (by omega)) y)
      refine J_p 2 (ls' := [_, _, _]) rfl ?_
      exact loop2 (a_c B).length 0 X (by omega) hX hN hSX hP
    | succ d ih =>
      intro kk X hk hX hN hSX hP
      obtain ⟨SX', CX'⟩ := oth X hX
      obtain ⟨y, hy⟩ := get_of (l := a_q B) (i := kk) (by omega)
      have hok := hSX.2.2.1.2.2 kk (by omega)
      have hok' := SX'.2.2.1.2.2 kk (by omega)
      refine J_p 2 (ls' := [_, _, _]) rfl ?_
      refine J_gi rfl hSX.1.1 hP.1.2.1 ?_
      refine J_ige rfl (fun y => absurd y (nI_ge (by omega) (by omega))) (fun _ => ?_)
      refine J_p 2 (ls' := [_, _, _]) rfl ?_
      refine J_ige rfl (fun y => absurd y (nI_ge (by omega) (by omega))) (fun _ => ?_)
      refine J_p 1 (ls' := [_, _, _]) rfl ?_
      refine J_getR rfl hSX.1.1 hSX.1.2.2.1 ?_
      refine J_p 1 (ls' := [_, _, _]) rfl ?_
      refine J_aald (n := kk) rfl rfl (by rw [hSX.2.2.1.1]; rfl) hSX.2.2.1.2.1 (by omega) (by omega) hok.1 ?_
      refine J_p 1 (ls' := [_, _, _]) rfl ?_
      refine J_getR rfl SX'.1.1 SX'.1.2.2.1 ?_
      refine J_p 1 (ls' := [_, _, _]) rfl ?_
      refine J_aald (n := kk) rfl rfl (by rw [SX'.2.2.1.1]; rfl) SX'.2.2.1.2.1 (by omega) (by omega) hok'.1 ?_
      obtain ⟨_, _, _, _, _, x6, _⟩ := hW.2.1 kk y hy
      refine J_call rfl rfl rfl (decide_eq_true hok.2.1) rfl (c_queTake hok.2 hok'.2 (by omega) (CX'.qc hy) x6 (fun X2 hF3 hN3 hO3 hQ3 hK3 => ?_))
      show J _ _ _ _ _ _ _
      refine J_p 2 (ls' := [_, _, _]) rfl ?_
      rw [nI_add kk 1]
      have hP3 := hP.fr hSX n8 n10 n30 hF3 (by unfold Qw; omega) (fun z h1 h2 => by unfold Qw; omega) (fun q h1 z h2 => by unfold Qw at h2 ⊢; omega) (fun c h1 => by omega) (fun i h1 => by omega)
      have hS3 := hSX.setq hF3 (by omega) hQ3
      rw [upF_id] at hS3
      refine ih (kk + 1) X2 (by omega) (hX.trans (hF3.mono (fun z e => e.ww (by omega)))) (hN.trans hN3) hS3 ⟨hP3.1, hP3.2.1, fun i dd hi hdd => ?_, hP3.2.2.2.1, hP3.2.2.2.2⟩
      by_cases c : i = kk
      · subst c
        rw [hy] at hdd
        cases hdd
        exact hK3
      · exact hP3.2.2.1 i dd (by omega) hdd
  refine J_p 2 (ls' := [_, _, _]) rfl ?_
  exact loop1 (a_q B).length 0 M2 (by omega) W2 N2 S2 P2
end COMP40