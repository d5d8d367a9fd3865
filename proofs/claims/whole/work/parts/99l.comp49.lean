/-! THE COMPONENT: constructors. -/
/-- cells below n are as they were -/
def Nx (M M' : Mm) (n : Nat) : Prop := ∀ z, z < n → Sm M M' z
section COMP49
variable {E : Nat × Nat} {M M' M1 M2 M3 : Mm} {W : Nat → Prop} {Q : Option Value → Mm → Prop} {a b w t g n q i : Nat} {f : Nat → Nat}
theorem Nx.refl (M : Mm) (n : Nat) : Nx M M n := fun z _ => Sm.refl M z
theorem Nx.trans (h1 : Nx M1 M2 n) (h2 : Nx M2 M3 n) : Nx M1 M3 n := fun z hz => (h1 z hz).trans (h2 z hz)
theorem Nx.le {m : Nat} (h : Nx M M' n) (hm : m ≤ n) : Nx M M' m := fun z hz => h z (by omega)
theorem Nx.nC {k l : Nat} (h : n ≤ mN M) : Nx M (nC M k l) n := fun z hz => ⟨by rw [nC_0, if_neg (by omega)], by rw [nC_I, if_neg (by omega)], by rw [nC_L, if_neg (by omega)], by rw [nC_R, if_neg (by omega)]⟩
theorem Nx.sR {k : Nat} {x : Option Nat} (h : n ≤ a) : Nx M (sR M a k x) n := fun z hz => ⟨rfl, rfl, rfl, by rw [mR_s1 _ _ _ (by omega)]⟩
theorem Nx.sI {k : Nat} {x : Int32} (h : n ≤ a) : Nx M (sI M a k x) n := fun z hz => ⟨rfl, by rw [mI_s1 _ _ _ (by omega)], rfl, rfl⟩
theorem Nx.fm (h : Nx M M' (mN M)) (hn : mN M ≤ mN M') : Fm W M M' := ⟨hn, fun z hz => (h z hz).1, fun z hz _ => h z hz⟩
theorem Nx.T (h : Nx M M' n) {z : Nat} (hz : z < n) : mT M' z = mT M z ∧ mS M' z = mS M z := by
  unfold mT mS
  rw [(h z hz).1]
  exact ⟨rfl, rfl⟩
theorem PS.nx (hP : PS M b) (h : Nx M M' n) (hb : b + 3 ≤ n) : PS M' b := hP.fr (h _ (by omega)).1 (h _ (by omega)).1 (h _ (by omega)).1 (h _ (by omega)).2.2.2
theorem QS.nx (hQ : QS M a q f) (h : Nx M M' n) (ha : a + 25 ≤ n) : QS M' a q f := hQ.fr (fun z h1 h2 => (h z (by omega)).1) (by rw [(h a (by omega)).2.1]) (fun z h1 h2 => (h z (by omega)).2.2.2)
/-- a new pattern -/
theorem c_patNew (ht : mT M a = 5) (hI : mI M a = fun _ => 0) (hN : mN M = a + 1) (k : ∀ M' : Mm, mN M' = a + 3 → mU M' = mU M + 23 → Nx M M' a → PS M' a → (∀ z, a ≤ z → z < a + 3 → mI M' z = fun _ => 0) → Q none M') : J E 20 0 [.ref a] [] M Q := by
  refine J_p 1 (ls' := [_]) rfl ?_
  refine J_oin rfl rfl ?_
  refine J_p 2 (ls' := [_]) rfl ?_
  refine J_newa (n := 4) rfl rfl (by omega) ?_
  have t1 : mT (nC M 20 4) a = 5 := by rw [nC_T, if_neg (by omega)]; exact ht
  refine J_putR rfl t1 ?_
  refine J_p 2 (ls' := [_]) rfl ?_
  refine J_newa (n := 19) rfl rfl (by omega) ?_
  have n1 : mN (sR (nC M 20 4) a 0 (some (mN M))) = a + 2 := by show mN M + 1 = _; omega
  have t2 : mT (nC (sR (nC M 20 4) a 0 (some (mN M))) 20 19) a = 5 := by rw [nC_T, if_neg (by omega)]; exact t1
  refine J_putR rfl t2 ?_
  rw [n1, hN]
  refine J_ret rfl rfl rfl (k _ (by show mN M + 1 + 1 = _; omega) (by show mU M + 4 + 19 = _; omega) ?_ ⟨t2, ?_, ?_, ⟨?_, ?_⟩, ⟨?_, ?_⟩⟩ (fun z z1 z2 => ?_))
  · exact (((Nx.nC (by omega)).trans (Nx.sR (Nat.le_refl _))).trans (Nx.nC (by show a ≤ mN M + 1; omega))).trans (Nx.sR (Nat.le_refl _))
  · rw [mR_s0, if_neg (by decide), nC_R, if_neg (by show ¬ a = mN M + 1; omega), mR_s0, if_pos rfl]
  · rw [mR_s0, if_pos rfl]
  · show mT (nC (sR (nC M 20 4) a 0 (some (a + 1))) 20 19) (a + 1) = 20
    rw [nC_T, if_neg (by show ¬ a + 1 = mN M + 1; omega)]
    show mT (nC M 20 4) (a + 1) = 20
    rw [nC_T, if_pos (by omega)]
  · show mS (nC (sR (nC M 20 4) a 0 (some (a + 1))) 20 19) (a + 1) = 4
    rw [nC_S, if_neg (by show ¬ a + 1 = mN M + 1; omega)]
    show mS (nC M 20 4) (a + 1) = 4
    rw [nC_S, if_pos (by omega)]
  · show mT (nC (sR (nC M 20 4) a 0 (some (a + 1))) 20 19) (a + 2) = 20
    rw [nC_T, if_pos (by show a + 2 = mN M + 1; omega)]
  · show mS (nC (sR (nC M 20 4) a 0 (some (a + 1))) 20 19) (a + 2) = 19
    rw [nC_S, if_pos (by show a + 2 = mN M + 1; omega)]
  · rw [mI_sR, nC_I, mI_sR, nC_I]
    by_cases c : z = mN (sR (nC M 20 4) a 0 (some (a + 1)))
    · rw [if_pos c]
    · rw [if_neg c]
      by_cases c2 : z = mN M
      · rw [if_pos c2]
      · rw [if_neg c2, show z = a by have : ¬ z = mN M + 1 := c; omega, hI]
theorem c_letNew (k : Q none M) : J E 11 0 [.ref a] [] M Q := by
  refine J_p 1 (ls' := [_]) rfl ?_
  refine J_oin rfl rfl ?_
  exact J_ret rfl rfl rfl k
theorem c_deadNew (k : Q none M) : J E 7 0 [.ref a] [] M Q := by
  refine J_p 1 (ls' := [_]) rfl ?_
  refine J_oin rfl rfl ?_
  exact J_ret rfl rfl rfl k
theorem c_conNew {z : Int32} (ht : mT M a = 1) (k : Q none (sI M a 0 z)) : J E 3 0 [.ref a, .int z] [] M Q := by
  refine J_p 1 (ls' := [_, _]) rfl ?_
  refine J_oin rfl rfl ?_
  refine J_p 2 (ls' := [_, _]) rfl ?_
  refine J_putI rfl ht (Or.inl rfl) ?_
  exact J_ret rfl rfl rfl k
/-- a queue under way: i letters made -/
def QI (M : Mm) (a q i : Nat) : Prop := mN M = a + 5 + i ∧ mT M a = 6 ∧ mI M a 0 = nI q ∧ mR M a 1 = some (a + 1) ∧ mR M a 2 = some (a + 4) ∧ PS M (a + 1) ∧ mT M (a + 4) = 25 ∧ mS M (a + 4) = 20 ∧ ∀ j, j < i → mR M (a + 4) j = some (a + 5 + j) ∧ mT M (a + 5 + j) = 3
theorem QI.step (h : QI M a q i) (hi : i < 20) : QI (sR (nC M 3 9) (a + 4) i (some (a + 5 + i))) a q (i + 1) := by
  obtain ⟨h1, h2, h3, h4, h5, h6, h7, h8, h9⟩ := h
  have x : Nx M (nC M 3 9) (a + 5 + i) := Nx.nC (by omega)
  refine ⟨by show mN M + 1 = _; omega, ?_, ?_, ?_, ?_, ?_, ?_, ?_, fun j hj => ⟨?_, ?_⟩⟩
  · show mT (nC M 3 9) a = 6
    rw [(x.T (by omega)).1]; exact h2
  · show mI (nC M 3 9) a 0 = _
    rw [(x a (by omega)).2.1]; exact h3
  · rw [mR_s1 _ _ _ (by omega), (x a (by omega)).2.2.2]; exact h4
  · rw [mR_s1 _ _ _ (by omega), (x a (by omega)).2.2.2]; exact h5
  · exact (h6.nx x (by omega)).fr rfl rfl rfl (by rw [mR_s1 _ _ _ (by omega)])
  · show mT (nC M 3 9) (a + 4) = 25
    rw [(x.T (by omega)).1]; exact h7
  · show mS (nC M 3 9) (a + 4) = 20
    rw [(x.T (by omega)).2]; exact h8
  · rw [mR_s0]
    by_cases c : j = i
    · rw [if_pos c, c]
    · rw [if_neg c, (x (a + 4) (by omega)).2.2.2]
      exact (h9 j (by omega)).1
  · show mT (nC M 3 9) (a + 5 + j) = 3
    by_cases c : j = i
    · rw [nC_T, if_pos (by omega)]
    · rw [(x.T (by omega)).1]
      exact (h9 j (by omega)).2
theorem c_queNew {q : Nat} (ht : mT M a = 6) (hN : mN M = a + 1) (k : ∀ M' : Mm, mN M' = a + 25 → mU M' = mU M + 229 → Nx M M' a → QS M' a q (fun i => i) → Q none M') : J E 32 0 [.ref a, .int (nI q), U0] [] M Q := by
  refine J_p 1 (ls' := [_, _, _]) rfl ?_
  refine J_oin rfl rfl ?_
  refine J_p 2 (ls' := [_, _, _]) rfl ?_
  refine J_putI rfl ht (Or.inl rfl) ?_
  refine J_p 1 (ls' := [_, _, _]) rfl ?_
  refine J_new rfl ?_
  have n0 : mN (sI M a 0 (nI q)) = a + 1 := hN
  rw [n0]
  refine J_p 1 (ls' := [_, _, _]) rfl ?_
  have xa : Nx (sI M a 0 (nI q)) (nC (sI M a 0 (nI q)) 5 6) (a + 1) := Nx.nC (by rw [n0]; exact Nat.le_refl _)
  refine J_call rfl rfl rfl rfl rfl (c_patNew (by rw [nC_T, if_pos n0.symm]) (by rw [nC_I, if_pos n0.symm]) (by show mN M + 1 = _; omega) (fun M1 hN1 hU1 hX1 hP1 hI1 => ?_))
  show J _ _ _ _ _ _ _
  have x1 := xa.trans hX1
  have t1 : mT M1 a = 6 := by rw [(x1.T (by omega)).1]; exact ht
  refine J_putR rfl t1 ?_
  refine J_p 2 (ls' := [_, _, _]) rfl ?_
  refine J_newq (n := 20) rfl rfl (by omega) ?_
  have n1 : mN (sR M1 a 1 (some (a + 1))) = a + 4 := by show mN M1 = _; omega
  rw [n1]
  have x2 : Nx (sR M1 a 1 (some (a + 1))) (nC (sR M1 a 1 (some (a + 1))) 25 20) (a + 4) := Nx.nC (by rw [n1]; exact Nat.le_refl _)
  have t2 : mT (nC (sR M1 a 1 (some (a + 1))) 25 20) a = 6 := by rw [(x2.T (by omega)).1]; exact t1
  refine J_putR rfl t2 ?_
  refine J_p 2 (ls' := [_, _, .int (nI 0)]) rfl ?_
  have q0 : QI (sR (nC (sR M1 a 1 (some (a + 1))) 25 20) a 2 (some (a + 4))) a q 0 := by
    refine ⟨by show mN M1 + 1 = _; omega, t2, ?_, ?_, by rw [mR_s0, if_pos rfl], ?_, ?_, ?_, fun j hj => absurd hj (by omega)⟩
    · rw [mI_sR, (x2 a (by omega)).2.1, mI_sR, (x1 a (by omega)).2.1, mI_s0, if_pos rfl]
    · rw [mR_s0, if_neg (by decide), (x2 a (by omega)).2.2.2, mR_s0, if_pos rfl]
    · have e1 : PS (sR M1 a 1 (some (a + 1))) (a + 1) := hP1.fr rfl rfl rfl (by rw [mR_s1 _ _ _ (by omega)])
      have e2 : PS (nC (sR M1 a 1 (some (a + 1))) 25 20) (a + 1) := e1.nx x2 (by omega)
      exact e2.fr rfl rfl rfl (by rw [mR_s1 _ _ _ (by omega)])
    · show mT (nC (sR M1 a 1 (some (a + 1))) 25 20) (a + 4) = 25
      rw [nC_T, if_pos n1.symm]
    · show mS (nC (sR M1 a 1 (some (a + 1))) 25 20) (a + 4) = 20
      rw [nC_S, if_pos n1.symm]
  have xs : Nx M (sR (nC (sR M1 a 1 (some (a + 1))) 25 20) a 2 (some (a + 4))) a := ((((Nx.sI (Nat.le_refl _)).trans (x1.le (by omega))).trans (Nx.sR (Nat.le_refl _))).trans (x2.le (by omega))).trans (Nx.sR (Nat.le_refl _))
  have us : mU (sR (nC (sR M1 a 1 (some (a + 1))) 25 20) a 2 (some (a + 4))) = mU M + 49 := by
    show mU M1 + 20 = _
    rw [hU1]
    show mU M + 6 + 23 + 20 = _
    omega
  have loop : ∀ (d i : Nat) (X : Mm), i + d = 20 → QI X a q i → Nx M X a → mU X = mU M + 49 + 9 * i → J E 32 31 [.ref a, .int (nI q), .int (nI i)] [] X Q := by
    intro d
    induction d with
    | zero =>
      intro i X hi hX hx hu
      obtain rfl : i = 20 := by omega
      obtain ⟨h1, h2, h3, h4, h5, h6, h7, h8, h9⟩ := hX
      refine J_p 2 (ls' := [_, _, _]) rfl ?_
      refine J_ige rfl (fun _ => ?_) (fun y => absurd (nI_le (by omega) (by omega)) y)
      exact J_ret rfl rfl rfl (k X (by omega) (by omega) hx ⟨h2, h3, h4, h5, h6, h7, h8, fun i hi => ⟨(h9 i hi).1, hi⟩, fun i j _ _ e => e, fun i hi => (h9 i hi).2⟩)
    | succ d ih =>
      intro i X hi hX hx hu
      have hX0 := hX
      obtain ⟨h1, h2, h3, h4, h5, h6, h7, h8, h9⟩ := hX
      refine J_p 2 (ls' := [_, _, _]) rfl ?_
      refine J_ige rfl (fun y => absurd y (nI_ge (by omega) (by omega))) (fun _ => ?_)
      refine J_p 1 (ls' := [_, _, _]) rfl ?_
      refine J_getR rfl h2 h5 ?_
      refine J_p 1 (ls' := [_, _, _]) rfl ?_
      refine J_new rfl ?_
      rw [h1]
      refine J_p 1 (ls' := [_, _, _]) rfl ?_
      refine J_call rfl rfl rfl rfl rfl (c_letNew ?_)
      show J _ _ _ _ _ _ _
      have x : Nx X (nC X 3 9) (a + 5 + i) := Nx.nC (by omega)
      have e25 : mT (nC X 3 9) (a + 4) = 25 := by rw [(x.T (by omega)).1]; exact h7
      refine J_aast (n := i) (L := 20) rfl rfl (by rw [e25]; rfl) (by rw [e25, nC_T, if_pos h1.symm]) (by rw [(x.T (by omega)).2]; exact h8) (by omega) (by omega) ?_
      refine J_p 2 (ls' := [_, _, _]) rfl ?_
      rw [nI_add i 1]
      refine ih (i + 1) _ (by omega) (hX0.step (by omega)) ((hx.trans (x.le (by omega))).trans (Nx.sR (by omega))) ?_
      show mU X + 9 = _
      omega
  exact loop 20 0 _ (by omega) q0 xs us
end COMP49