/-! THE COMPONENT: letters and queues are written. -/
/-- a whole row of references -/
def wR (M : Mm) (a : Nat) (g : Nat → Option Nat) : Mm := (M.1, M.2.1, M.2.2.1, (fun b => if b = a then g else M.2.2.2.1 b), M.2.2.2.2)
theorem mR_wR (M : Mm) (a b : Nat) (g : Nat → Option Nat) : mR (wR M a g) b = if b = a then g else mR M b := rfl
theorem sR_wR (M : Mm) (a k : Nat) (x : Option Nat) : sR M a k x = wR M a (fun j => if j = k then x else mR M a j) := by
  have h : up2 M.2.2.2.1 a k x = fun b => if b = a then (fun j => if j = k then x else M.2.2.2.1 a j) else M.2.2.2.1 b := by
    funext b j
    by_cases h : b = a
    · subst h
      simp [up2]
    · simp [up2, h]
  exact congrArg (fun z => ((M.1, M.2.1, M.2.2.1, z, M.2.2.2.2) : Mm)) h
theorem wR_wR (M : Mm) (a : Nat) (f g : Nat → Option Nat) : wR (wR M a f) a g = wR M a g := by
  have h : (fun b => if b = a then g else if b = a then f else M.2.2.2.1 b) = fun b => if b = a then g else M.2.2.2.1 b := by
    funext b
    by_cases h : b = a <;> simp [h]
  exact congrArg (fun z => ((M.1, M.2.1, M.2.2.1, z, M.2.2.2.2) : Mm)) h
theorem wR_id (M : Mm) (a : Nat) : wR M a (mR M a) = M := by
  have h : (fun b => if b = a then mR M a else M.2.2.2.1 b) = M.2.2.2.1 := by
    funext b
    by_cases h : b = a
    · simp [h, mR]
    · simp [h]
  exact congrArg (fun z => ((M.1, M.2.1, M.2.2.1, z, M.2.2.2.2) : Mm)) h
theorem mI_sR (M : Mm) (a k : Nat) (x : Option Nat) : mI (sR M a k x) = mI M := rfl
theorem mR_sI (M : Mm) (a k : Nat) (x : Int32) : mR (sI M a k x) = mR M := rfl
theorem mR_s1 (M : Mm) {a b : Nat} (k : Nat) (x : Option Nat) (h : b ≠ a) : mR (sR M a k x) b = mR M b := by rw [sR_wR, mR_wR, if_neg h]
theorem mR_s0 (M : Mm) (a k j : Nat) (x : Option Nat) : mR (sR M a k x) a j = if j = k then x else mR M a j := by rw [sR_wR, mR_wR, if_pos rfl]
theorem Fm.wR {W : Nat → Prop} {M : Mm} {a : Nat} {g : Nat → Option Nat} (hw : W a) (ht : ¬ rO (mT M a)) : Fm W M (wR M a g) := by
  refine ⟨Nat.le_refl _, fun _ _ => rfl, fun b hb h => ⟨rfl, rfl, rfl, ?_⟩⟩
  rw [mR_wR, if_neg]
  rintro rfl
  rcases h with h | h
  · exact h hw
  · exact ht h
theorem CL.fr {W : Nat → Prop} {M M' : Mm} {p : Nat} {l : La} {ms : List Ma} (h : CL M p l ms) (hF : Fm W M M') (hI : mI M' p = mI M p) (hR : mR M' p = mR M p) : CL M' p l ms := by
  unfold CL at h ⊢
  rw [hI, hR]
  exact ⟨h.1, h.2.1, h.2.2.1, h.2.2.2.1, h.2.2.2.2.1, h.2.2.2.2.2.1, h.2.2.2.2.2.2.1, h.2.2.2.2.2.2.2.1, h.2.2.2.2.2.2.2.2.fr hF⟩
theorem PS.fr {M M' : Mm} {b : Nat} (h : PS M b) (h1 : M'.1 b = M.1 b) (h2 : M'.1 (b + 1) = M.1 (b + 1)) (h3 : M'.1 (b + 2) = M.1 (b + 2)) (hR : mR M' b = mR M b) : PS M' b := by
  unfold PS mT mS at h ⊢
  rw [h1, h2, h3, hR]
  exact h
theorem PC.fr {M M' : Mm} {b : Nat} {p txt : List Int32} (h : PC M b p txt) (h1 : mI M' b = mI M b) (h2 : mI M' (b + 1) = mI M (b + 1)) (h3 : mI M' (b + 2) = mI M (b + 2)) : PC M' b p txt := by
  unfold PC at h ⊢
  rw [h1, h2, h3]
  exact h
/-- a queue's cells -/
def Qw (a z : Nat) : Prop := a ≤ z ∧ z < a + 25
/-- no new cells -/
def Nw (M M' : Mm) : Prop := M'.1 = M.1 ∧ mN M' = mN M ∧ mU M' = mU M
theorem Nw.trans {M1 M2 M3 : Mm} (h1 : Nw M1 M2) (h2 : Nw M2 M3) : Nw M1 M3 := ⟨h2.1.trans h1.1, h2.2.1.trans h1.2.1, h2.2.2.trans h1.2.2⟩
theorem QS.ty {M : Mm} {a q z : Nat} {f : Nat → Nat} (h : QS M a q f) (hz : Qw a z) : ¬ rO (mT M z) := by
  obtain ⟨h1, _, _, _, h5, h6, _, _, _, h10⟩ := h
  obtain ⟨z1, z2⟩ := hz
  have : mT M z = 6 ∨ mT M z = 5 ∨ mT M z = 20 ∨ mT M z = 25 ∨ mT M z = 3 := by
    rcases (show z = a ∨ z = a + 1 ∨ z = a + 1 + 1 ∨ z = a + 1 + 2 ∨ z = a + 4 ∨ ∃ i, i < 20 ∧ z = a + 5 + i from by
      by_cases c : z < a + 5
      · omega
      · exact Or.inr (Or.inr (Or.inr (Or.inr (Or.inr ⟨z - (a + 5), by omega, by omega⟩))))) with e | e | e | e | e | ⟨i, i1, e⟩
    · rw [e, h1]; omega
    · rw [e, h5.1]; omega
    · rw [e, h5.2.2.2.1.1]; omega
    · rw [e, h5.2.2.2.2.1]; omega
    · rw [e, h6]; omega
    · rw [e, h10 i i1]; omega
  unfold rO
  omega
/-- messages' rows; what they hold -/
def MsS (M : Mm) (g : Nat) : Prop := mT M g = 4 ∧ ∀ j, j < 5 → mR M g j = some (g + 1 + j) ∧ mT M (g + 1 + j) = 20 ∧ mS M (g + 1 + j) = 300
def MsC (M : Mm) (g : Nat) (ms : List Ma) : Prop := ms.length ≤ 300 ∧ ∀ (m : Nat) (y : Ma), ms[m]? = some y → mI M (g + 1 + 0) m = nI (g_k y) ∧ mI M (g + 1 + 1) m = nI (g_r y) ∧ mI M (g + 1 + 2) m = g_v y ∧ mI M (g + 1 + 3) m = nI (g_t y) ∧ mI M (g + 1 + 4) m = nI (g_p y)
section COMP8
variable {E : Nat × Nat} {M : Mm} {Q : Option Value → Mm → Prop} {a q p g m : Nat} {f : Nat → Nat} {x : Qa} {ms : List Ma} {l : La} {y : Ma}
theorem c_makeReady (ht : mT M p = 3) (k : Q none (sI (sI (sI M p 4 (nI 0)) p 6 (-1)) p 7 (-1))) : J E 15 0 [.ref p] [] M Q := by
  refine J_p 2 (ls' := [_]) rfl ?_
  refine J_putI rfl ht (Or.inl rfl) ?_
  refine J_p 2 (ls' := [_]) rfl ?_
  refine J_putI rfl ht (Or.inl rfl) ?_
  refine J_p 2 (ls' := [_]) rfl ?_
  refine J_putI rfl ht (Or.inl rfl) ?_
  exact J_ret rfl rfl rfl k
theorem c_rest (ht : mT M p = 3) {t : Int32} (k : Q none (sI (sI (sI M p 4 (nI 1)) p 6 (-1)) p 7 t)) : J E 16 0 [.ref p, .int t] [] M Q := by
  refine J_p 2 (ls' := [_, _]) rfl ?_
  refine J_putI rfl ht (Or.inl rfl) ?_
  refine J_p 2 (ls' := [_, _]) rfl ?_
  refine J_putI rfl ht (Or.inl rfl) ?_
  refine J_p 2 (ls' := [_, _]) rfl ?_
  refine J_putI rfl ht (Or.inl rfl) ?_
  exact J_ret rfl rfl rfl k
theorem c_goOut (ht : mT M p = 3) {c t : Int32} (k : Q none (sI (sI (sI M p 4 (nI 2)) p 6 c) p 7 t)) : J E 17 0 [.ref p, .int c, .int t] [] M Q := by
  refine J_p 2 (ls' := [_, _, _]) rfl ?_
  refine J_putI rfl ht (Or.inl rfl) ?_
  refine J_p 2 (ls' := [_, _, _]) rfl ?_
  refine J_putI rfl ht (Or.inl rfl) ?_
  refine J_p 2 (ls' := [_, _, _]) rfl ?_
  refine J_putI rfl ht (Or.inl rfl) ?_
  exact J_ret rfl rfl rfl k
theorem c_begin (hMs : MsS M g) (hMc : MsC M g ms) (ht : mT M p = 3) (hy : ms[m]? = some y) (k : ∀ M' : Mm, Fm (fun z => z = p) M M' → Nw M M' → (∀ b, b ≠ p → mR M' b = mR M b ∧ mI M' b = mI M b) → CL M' p (m, 0, 0, 0, []) ms → Q none M') : J E 12 0 [.ref p, .ref g, .int (nI m)] [] M Q := by
  obtain ⟨g1, g2⟩ := hMs
  obtain ⟨h300, hm⟩ := hMc
  have hlt := li hy
  obtain ⟨m0, m1, m2, m3, m4⟩ := hm m y hy
  have ne : ∀ j, j < 5 → g + 1 + j ≠ p := fun j hj e => by
    have := (g2 j hj).2.1
    rw [e, ht] at this
    omega
  refine J_p 2 (ls' := [_, _, _]) rfl ?_
  refine J_putI rfl ht (Or.inl rfl) ?_
  refine J_p 2 (ls' := [_, _, _]) rfl ?_
  refine J_call rfl rfl rfl rfl rfl (c_isBelow (s := nI m) (n := 300) (by omega) (fun j h1 l1 e1 => ?_) (fun h1 => ?_))
  · show J _ _ _ _ _ _ _
    refine J_zeq rfl (fun b => absurd b (by decide)) (fun _ => ?_)
    refine J_p 2 (ls' := [_, _, _]) rfl ?_
    refine J_getR rfl g1 (g2 0 (by omega)).1 ?_
    refine J_p 1 (ls' := [_, _, _]) rfl ?_
    refine J_ia (n := m) rfl rfl (Or.inl (g2 0 (by omega)).2.1) (g2 0 (by omega)).2.2 (by omega) (by omega) (z := nI (g_k y)) (by rw [mI_s1 _ _ _ (ne 0 (by omega))]; exact m0) ?_
    refine J_putI rfl ht (Or.inl rfl) ?_
    refine J_p 2 (ls' := [_, _, _]) rfl ?_
    refine J_getR rfl g1 (g2 1 (by omega)).1 ?_
    refine J_p 1 (ls' := [_, _, _]) rfl ?_
    refine J_ia (n := m) rfl rfl (Or.inl (g2 1 (by omega)).2.1) (g2 1 (by omega)).2.2 (by omega) (by omega) (z := nI (g_r y)) (by rw [mI_s1 _ _ _ (ne 1 (by omega)), mI_s1 _ _ _ (ne 1 (by omega))]; exact m1) ?_
    refine J_putI rfl ht (Or.inl rfl) ?_
    refine J_p 2 (ls' := [_, _, _]) rfl ?_
    refine J_getR rfl g1 (g2 3 (by omega)).1 ?_
    refine J_p 1 (ls' := [_, _, _]) rfl ?_
    refine J_ia (n := m) rfl rfl (Or.inl (g2 3 (by omega)).2.1) (g2 3 (by omega)).2.2 (by omega) (by omega) (z := nI (g_t y)) (by rw [mI_s1 _ _ _ (ne 3 (by omega)), mI_s1 _ _ _ (ne 3 (by omega)), mI_s1 _ _ _ (ne 3 (by omega))]; exact m3) ?_
    refine J_putI rfl ht (Or.inl rfl) ?_
    refine J_p 2 (ls' := [_, _, _]) rfl ?_
    refine J_putI rfl ht (Or.inl rfl) ?_
    refine J_p 2 (ls' := [_, _, _]) rfl ?_
    refine J_putN rfl ht ?_
    refine J_p 1 (ls' := [_, _, _]) rfl ?_
    refine J_call rfl rfl rfl (decide_eq_true ht) rfl (c_makeReady ht ?_)
    show J _ _ _ _ _ _ _
    have nr : ¬ rO (mT M p) := by rw [ht]; unfold rO; omega
    have s : ∀ {X : Mm} {j : Nat} {z : Int32}, mT X p = mT M p → Fm (fun z => z = p) X (sI X p j z) := fun h => Fm.sI rfl (by rw [h]; exact nr)
    refine J_ret rfl rfl rfl (k _ ?_ ⟨rfl, rfl, rfl⟩ (fun b hb => ⟨?_, ?_⟩) ⟨?_, ?_, ?_, ?_, ?_, ?_, ?_, ?_, ?_⟩)
    · exact (((((((((s rfl).trans (s rfl)).trans (s rfl)).trans (s rfl)).trans (s rfl)).trans (Fm.sR rfl nr)).trans (s rfl)).trans (s rfl)).trans (s rfl))
    · simp only [mR_sI]
      rw [mR_s1 _ _ _ hb]
      simp only [mR_sI]
    · simp only [mI_s1 _ _ _ hb, mI_sR]
    all_goals first | (simp only [mI_s0, mI_sR]; done) | skip
    all_goals first | (simp only [mI_s0, mI_sR, kyA, prA, pbA, getD_of hy]; rfl) | skip
    show mR _ p 8 = none
    simp only [mR_sI]
    rw [mR_s0, if_pos rfl]
  · rw [ixN_nI (show m < 300 by omega) (by omega)] at h1; cases h1
/-- the letters' places behind a removal -/
def sgD (p n i : Nat) : Nat := if p ≤ i ∧ i + 1 < n then i + 1 else if i + 1 = n then p else i
theorem sgD_lt {p n i : Nat} (hp : p < n) (hn : n ≤ 20) (hi : i < 20) : sgD p n i < 20 := by
  unfold sgD
  split
  · omega
  · split <;> omega
theorem sgD_inj {p n i j : Nat} (hp : p < n) (h : sgD p n i = sgD p n j) : i = j := by
  unfold sgD at h
  split at h
  · split at h
    · omega
    · split at h <;> omega
  · split at h
    · split at h
      · omega
      · split at h <;> omega
    · split at h
      · omega
      · split at h <;> omega
/-- all but the letters' row and a queue's own ints as it was: the shape under a new order -/
theorem QS.re {M' : Mm} {s : Nat → Nat} (h : QS M a q f) (h1 : M'.1 = M.1) (h0 : mI M' a 0 = mI M a 0) (hR : ∀ b, b ≠ a + 4 → a ≤ b → b < a + 4 → mR M' b = mR M b) (hs : ∀ i, i < 20 → s i < 20) (hj : ∀ i j, s i = s j → i = j) (h4 : ∀ i, i < 20 → mR M' (a + 4) i = some (a + 5 + f (s i))) : QS M' a q (fun i => f (s i)) := by
  obtain ⟨a1, a2, a3, a4, a5, a6, a7, a8, a9, a10⟩ := h
  have eT : mT M' = mT M ∧ mS M' = mS M := by unfold mT mS; rw [h1]; exact ⟨rfl, rfl⟩
  refine ⟨by rw [eT.1]; exact a1, by rw [h0]; exact a2, by rw [hR a (by omega) (by omega) (by omega)]; exact a3, by rw [hR a (by omega) (by omega) (by omega)]; exact a4, ?_, by rw [eT.1]; exact a6, by rw [eT.2]; exact a7, fun i hi => ⟨h4 i hi, (a8 (s i) (hs i hi)).2⟩, fun i j hi hj' e => hj i j (a9 _ _ (hs i hi) (hs j hj') e), fun i hi => by rw [eT.1]; exact a10 i hi⟩
  exact a5.fr (by rw [h1]) (by rw [h1]) (by rw [h1]) (hR (a + 1) (by omega) (by omega) (by omega))
theorem c_removeAt (hS : QS M a q f) (hC : QC M a f x ms) {p : Nat} (hp : p < (q_ls x).length) (k : ∀ (M' : Mm) (f' : Nat → Nat), Fm (Qw a) M M' → Nw M M' → QS M' a q f' → QC M' a f' (x_ls x ((q_ls x).eraseIdx p)) ms → Q none M') : J E 38 0 [.ref a, .int (nI p), U0, U0] [] M Q := by
  have n20 := hC.n20
  obtain ⟨n, hn⟩ : ∃ n, (q_ls x).length = n := ⟨_, rfl⟩
  have hcn : mI M a 3 = nI n := by rw [← hn]; exact hC.n
  rw [hn] at hp n20
  obtain ⟨gD, hgD⟩ : ∃ gD : Nat → Nat → Option Nat, gD = fun kk j => if p ≤ j ∧ j < kk then some (a + 5 + f (j + 1)) else mR M (a + 4) j := ⟨_, rfl⟩
  have eg : ∀ kk j, gD kk j = if p ≤ j ∧ j < kk then some (a + 5 + f (j + 1)) else mR M (a + 4) j := fun kk j => by rw [hgD]
  have fin : J E 38 52 [.ref a, .int (nI p), .ref (a + 5 + f p), .int (nI (n - 1))] [] (wR M (a + 4) (gD (n - 1))) Q := by
    refine J_p 2 (ls' := [_, _, _, _]) rfl ?_
    refine J_gi rfl hS.1 hcn ?_
    refine J_p 2 (ls' := [_, _, _, _]) rfl ?_
    refine J_t0 (nI_subE (m := n) (n := 1) rfl rfl (by omega)) ?_
    refine J_putI rfl hS.1 (Or.inl rfl) ?_
    refine J_p 1 (ls' := [_, _, _, _]) rfl ?_
    refine J_getR rfl hS.1 (show mR (wR M (a + 4) (gD (n - 1))) a 2 = some (a + 4) by rw [mR_wR, if_neg (by omega)]; exact hS.2.2.2.1) ?_
    refine J_p 1 (ls' := [_, _, _, _]) rfl ?_
    refine J_gi rfl hS.1 (show mI (sI (wR M (a + 4) (gD (n - 1))) a 3 (nI (n - 1))) a 3 = nI (n - 1) by rw [mI_s0, if_pos rfl]) ?_
    refine J_p 1 (ls' := [_, _, _, _]) rfl ?_
    refine J_aast (n := n - 1) rfl rfl (by show aR (mT M (a + 4)) = true; rw [hS.2.2.2.2.2.1]; rfl) (by show mT M (a + 5 + f p) + 22 = mT M (a + 4); rw [hS.t3 (by omega), hS.2.2.2.2.2.1]) hS.2.2.2.2.2.2.1 (by omega) (by omega) ?_
    obtain ⟨M', hM'⟩ : ∃ X, X = sR (sI (wR M (a + 4) (gD (n - 1))) a 3 (nI (n - 1))) (a + 4) (n - 1) (some (a + 5 + f p)) := ⟨_, rfl⟩
    rw [← hM']
    have hF : Fm (Qw a) M M' := by
      rw [hM']
      exact ((Fm.wR (M := M) ⟨by omega, by omega⟩ (hS.ty ⟨by omega, by omega⟩)).trans (Fm.sI ⟨by omega, by omega⟩ (hS.ty ⟨by omega, by omega⟩))).trans (Fm.sR ⟨by omega, by omega⟩ (hS.ty ⟨by omega, by omega⟩))
    have e1 : M'.1 = M.1 := by rw [hM']; rfl
    have eI : ∀ b, b ≠ a → mI M' b = mI M b := fun b hb => by rw [hM', mI_sR, mI_s1 _ _ _ hb]; rfl
    have eI0 : ∀ j, j ≠ 3 → mI M' a j = mI M a j := fun j hj => by rw [hM', mI_sR, mI_s0, if_neg hj]; rfl
    have eI3 : mI M' a 3 = nI (n - 1) := by rw [hM', mI_sR, mI_s0, if_pos rfl]
    have eR : ∀ b, b ≠ a + 4 → mR M' b = mR M b := fun b hb => by rw [hM', mR_s1 _ _ _ hb, mR_sI, mR_wR, if_neg hb]
    have eR4 : ∀ i, i < 20 → mR M' (a + 4) i = some (a + 5 + f (sgD p n i)) := fun i hi => by
      rw [hM', mR_s0, mR_sI, mR_wR, if_pos rfl, eg]
      unfold sgD
      by_cases c1 : i = n - 1
      · rw [if_pos c1, if_neg (by omega), if_pos (by omega)]
      · rw [if_neg c1]
        by_cases c2 : p ≤ i ∧ i + 1 < n
        · rw [if_pos (show p ≤ i ∧ i < n - 1 by omega), if_pos c2]
        · rw [if_neg (show ¬ (p ≤ i ∧ i < n - 1) by omega), if_neg c2, if_neg (show ¬ i + 1 = n by omega)]
          exact hS.el hi
    have hS' : QS M' a q (fun i => f (sgD p n i)) := hS.re e1 (eI0 0 (by omega)) (fun b hb _ _ => eR b hb) (fun i hi => sgD_lt hp n20 hi) (fun i j h => sgD_inj hp h) eR4
    refine J_ret rfl rfl rfl (k M' _ hF ⟨e1, by rw [hM']; rfl, by rw [hM']; rfl⟩ hS' ?_)
    obtain ⟨c1, c2, c3, c4, c5, c6, c7, c8, c9, c10, c11, c12⟩ := hC
    have hlen : ((q_ls x).eraseIdx p).length = n - 1 := by rw [List.length_eraseIdx_of_lt (by omega), hn]
    refine ⟨c1.fr (eI _ (by omega)) (eI _ (by omega)) (eI _ (by omega)), ⟨by show _ = nI ((q_ls x).eraseIdx p).length; rw [hlen]; exact eI3, by show ((q_ls x).eraseIdx p).length ≤ 20; omega⟩, (eI0 _ (by omega)).trans c3, (eI0 _ (by omega)).trans c4, (eI0 _ (by omega)).trans c5, (eI0 _ (by omega)).trans c6, (eI0 _ (by omega)).trans c7, (eI0 _ (by omega)).trans c8, (eI0 _ (by omega)).trans c9, (eI0 _ (by omega)).trans c10, (eI0 _ (by omega)).trans c11, fun i l hl => ?_⟩
    have hl' : ((q_ls x).eraseIdx p)[i]? = some l := hl
    have hi := li hl'
    rw [hlen] at hi
    have key : ∀ j, (q_ls x)[j]? = some l → sgD p n i = j → CL M' (a + 5 + f (sgD p n i)) l ms := fun j hj e => by
      rw [e]
      exact (c12 j l hj).fr hF (eI _ (by omega)) (eR _ (by omega))
    rcases er_or hl' with ⟨z1, z2⟩ | ⟨z1, z2⟩
    · exact key i z2 (by unfold sgD; rw [if_neg (by omega), if_neg (by omega)])
    · exact key (i + 1) z2 (by unfold sgD; rw [if_pos (by omega)])
  have loop : ∀ (d kk : Nat), kk + d + 1 = n → p ≤ kk → J E 38 22 [.ref a, .int (nI p), .ref (a + 5 + f p), .int (nI kk)] [] (wR M (a + 4) (gD kk)) Q := by
    intro d
    induction d with
    | zero =>
      intro kk hk hpk
      refine J_p 2 (ls' := [_, _, _, _]) rfl ?_
      refine J_gi rfl hS.1 hcn ?_
      refine J_p 2 (ls' := [_, _, _, _]) rfl ?_
      refine J_t0 (nI_subE (m := n) (n := 1) rfl rfl (by omega)) ?_
      refine J_ige rfl (fun _ => ?_) (fun b => absurd (nI_le (by omega) (by omega)) b)
      obtain rfl : kk = n - 1 := by omega
      exact fin
    | succ d ih =>
      intro kk hk hpk
      refine J_p 2 (ls' := [_, _, _, _]) rfl ?_
      refine J_gi rfl hS.1 hcn ?_
      refine J_p 2 (ls' := [_, _, _, _]) rfl ?_
      refine J_t0 (nI_subE (m := n) (n := 1) rfl rfl (by omega)) ?_
      refine J_ige rfl (fun b => absurd b (nI_ge (by omega) (by omega))) (fun _ => ?_)
      have e2 : mR (wR M (a + 4) (gD kk)) a 2 = some (a + 4) := by rw [mR_wR, if_neg (by omega)]; exact hS.2.2.2.1
      refine J_p 1 (ls' := [_, _, _, _]) rfl ?_
      refine J_getR rfl hS.1 e2 ?_
      refine J_p 2 (ls' := [_, _, _, _]) rfl ?_
      refine J_getR rfl hS.1 e2 ?_
      refine J_p 3 (ls' := [_, _, _, _]) rfl ?_
      refine J_aald (n := kk + 1) (b := a + 5 + f (kk + 1)) rfl (nI_add kk 1) (by show aR (mT M (a + 4)) = true; rw [hS.2.2.2.2.2.1]; rfl) hS.2.2.2.2.2.2.1 (by omega) (by omega) (by rw [mR_wR, if_pos rfl, hgD]; show (if p ≤ kk + 1 ∧ kk + 1 < kk then _ else _) = _; rw [if_neg (by omega)]; exact hS.el (by omega)) ?_
      refine J_aast (n := kk) rfl rfl (by show aR (mT M (a + 4)) = true; rw [hS.2.2.2.2.2.1]; rfl) (by show mT M (a + 5 + f (kk + 1)) + 22 = mT M (a + 4); rw [hS.t3 (by omega), hS.2.2.2.2.2.1]) hS.2.2.2.2.2.2.1 (by omega) (by omega) ?_
      refine J_p 2 (ls' := [_, _, _, _]) rfl ?_
      rw [nI_add kk 1]
      have em : sR (wR M (a + 4) (gD kk)) (a + 4) kk (some (a + 5 + f (kk + 1))) = wR M (a + 4) (gD (kk + 1)) := by
        rw [sR_wR, wR_wR]
        congr 1
        funext j
        rw [mR_wR, if_pos rfl, hgD]
        by_cases c : j = kk
        · subst c
          rw [if_pos rfl]
          show _ = if p ≤ j ∧ j < j + 1 then _ else _
          rw [if_pos (by omega)]
        · rw [if_neg c]
          show (if p ≤ j ∧ j < kk then _ else _) = if p ≤ j ∧ j < kk + 1 then _ else _
          by_cases c2 : p ≤ j ∧ j < kk
          · rw [if_pos c2, if_pos (by omega)]
          · rw [if_neg c2, if_neg (by omega)]
      rw [em]
      exact ih (kk + 1) (by omega) (by omega)
  refine J_p 1 (ls' := [_, _, _, _]) rfl ?_
  refine J_zlt rfl (fun b => absurd b (nI_pos (by omega))) (fun _ => ?_)
  refine J_p 2 (ls' := [_, _, _, _]) rfl ?_
  refine J_gi rfl hS.1 hcn ?_
  refine J_ilt rfl (fun _ => ?_) (fun b => absurd (nI_lt hp (by omega)) b)
  refine J_p 1 (ls' := [_, _, _, _]) rfl ?_
  refine J_getR rfl hS.1 hS.2.2.2.1 ?_
  refine J_p 1 (ls' := [_, _, _, _]) rfl ?_
  refine J_aald (n := p) rfl rfl (by rw [hS.2.2.2.2.2.1]; rfl) hS.2.2.2.2.2.2.1 (by omega) (by omega) (hS.el (by omega)) ?_
  refine J_p 3 (ls' := [_, _, _, _]) rfl ?_
  have e0 : wR M (a + 4) (gD p) = M := by
    rw [show gD p = mR M (a + 4) from funext fun j => by rw [eg, if_neg (by omega)], wR_id]
  refine J_M e0.symm ?_
  exact loop (n - 1 - p) p (by omega) (Nat.le_refl p)
end COMP8