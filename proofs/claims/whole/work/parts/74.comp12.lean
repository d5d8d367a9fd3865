/-! THE COMPONENT: the pattern's reader. -/
def Pw (b z : Nat) : Prop := z = b ∨ z = b + 1 ∨ z = b + 2
def PB (M : Mm) (b : Nat) (s : List Int32 × Nat × Nat × Nat) : Prop := mI M b 3 = nI (s.1.length + 1) ∧ s.1.length < 4 ∧ mI M b 4 = (if s.2.2.2 = 3 then nI 1 else nI 0) ∧ mI M b 5 = nI s.2.1 ∧ s.2.1 ≤ 4 ∧ (∀ (k : Nat) (c : Int32), s.1[k]? = some c → mI M (b + 1) k = cvI c) ∧ mI M (b + 1) s.1.length = cvI (pvB s.2.2.1 s.2.2.2) ∧ (s.2.2.2 = 0 → s.2.2.1 < 27 ^ s.2.1) ∧ (¬ s.2.2.2 = 0 → s.2.1 = 4)
theorem cv_next {v d : Nat} (hv : v < 19683) (h1 : d < 27) : cv (27 * v + d) = cv v * 32 + d := by
  unfold cv
  omega
section COMP12
variable {E : Nat × Nat} {M M' : Mm} {Q : Option Value → Mm → Prop} {b y : Nat} {w : Bool} {s : List Int32 × Nat × Nat × Nat}
theorem c_patBegin (hP : PS M b) (k : ∀ M' : Mm, Fm (Pw b) M M' → Nw M M' → mR M' = mR M → PB M' b ([], 0, 0, 0) → mI M' b 2 = nI 0 → Q none M') : J E 23 0 [.ref b] [] M Q := by
  refine J_p 2 (ls' := [_]) rfl ?_
  refine J_putI rfl hP.1 (Or.inl rfl) ?_
  refine J_p 2 (ls' := [_]) rfl ?_
  refine J_putI rfl hP.1 (Or.inl rfl) ?_
  refine J_p 2 (ls' := [_]) rfl ?_
  refine J_putI rfl hP.1 (Or.inr (Or.inl rfl)) ?_
  refine J_p 2 (ls' := [_]) rfl ?_
  refine J_putI rfl hP.1 (Or.inl rfl) ?_
  refine J_p 1 (ls' := [_]) rfl ?_
  refine J_getR rfl hP.1 hP.2.1 ?_
  refine J_p 2 (ls' := [_]) rfl ?_
  refine J_iast (n := 0) rfl rfl hP.2.2.2.1.1 hP.2.2.2.1.2 (by omega) (by omega) ?_
  have n5 : ¬ rO (mT M b) := by rw [hP.1]; unfold rO; omega
  have n20 : ¬ rO (mT M (b + 1)) := by rw [hP.2.2.2.1.1]; unfold rO; omega
  refine J_ret rfl rfl rfl (k _ ?_ ⟨rfl, rfl, rfl⟩ rfl ⟨?_, ?_, ?_, ?_, ?_, ?_, ?_, ?_, ?_⟩ ?_)
  · exact ((((Fm.sI (W := Pw b) (Or.inl rfl) n5).trans (Fm.sI (Or.inl rfl) n5)).trans (Fm.sI (Or.inl rfl) n5)).trans (Fm.sI (Or.inl rfl) n5)).trans (Fm.sI (Or.inr (Or.inl rfl)) n20)
  · rw [mI_s1 _ _ _ (by omega), mI_s0, if_neg (by omega), mI_s0, if_neg (by omega), mI_s0, if_pos rfl]
    rfl
  · show 0 < 4
    omega
  · rw [mI_s1 _ _ _ (by omega), mI_s0, if_neg (by omega), mI_s0, if_pos rfl]
    rfl
  · rw [mI_s1 _ _ _ (by omega), mI_s0, if_pos rfl]
  · show 0 ≤ 4
    omega
  · intro k c h
    cases h
  · show _ = cvI (nI 0)
    rw [cvI_n (by omega)]
    show mI (sI _ (b + 1) 0 (nI 0)) (b + 1) 0 = _
    rw [mI_s0, if_pos rfl]
    rfl
  · intro _
    show 0 < 27 ^ 0
    omega
  · intro h
    exact absurd rfl h
  · rw [mI_s1 _ _ _ (by omega), mI_s0, if_neg (by omega), mI_s0, if_neg (by omega), mI_s0, if_neg (by omega), mI_s0, if_pos rfl]
theorem c_patLetter (hP : PS M b) (hB : PB M b s) (hy : 97 ≤ y ∧ y ≤ 122) (kf : byB w y s = none → Q (some (.int (nI 0))) M) (ks : ∀ (M' : Mm) (s' : List Int32 × Nat × Nat × Nat), byB w y s = some s' → Fm (Pw b) M M' → Nw M M' → mR M' = mR M → PB M' b s' → mI M' b 2 = mI M b 2 → mI M' (b + 2) = mI M (b + 2) → Q (some (.int (nI 1))) M') : J E 25 0 [.ref b, .int (nI y), U0] [] M Q := by
  obtain ⟨cs, n, v, h⟩ := s
  obtain ⟨b1, b2, b3, b4, b5, b6, b7, b8, b9⟩ := hB
  simp only at b1 b2 b3 b4 b5 b6 b7 b8 b9
  refine J_p 1 (ls' := [_, _, _]) rfl ?_
  refine J_gi rfl hP.1 b1 ?_
  refine J_p 2 (ls' := [_, _, _]) rfl ?_
  refine J_t0 (nI_subE (m := cs.length + 1) (n := 1) rfl rfl (by omega)) ?_
  rw [show cs.length + 1 - 1 = cs.length from rfl]
  refine J_p 2 (ls' := [_, _, .int (nI cs.length)]) rfl ?_
  refine J_gi rfl hP.1 b4 ?_
  refine J_p 1 (ls' := [_, _, _]) rfl ?_
  refine J_ige rfl (fun c => ?_) (fun c => ?_)
  · have h4 := (nI_leI (by omega) (by omega)).mp c
    refine J_p 1 (ls' := [_, _, _]) rfl ?_
    refine J_retB rfl (by decide) (kf ?_)
    unfold byB
    rw [if_pos hy, if_neg (show ¬ n < 4 by omega)]
  · have n4 : n < 4 := by
      rcases Nat.lt_or_ge n 4 with z | z
      · exact z
      · exact absurd (nI_le z (by omega)) c
    have h0 : h = 0 := by
      by_cases z : h = 0
      · exact z
      · have := b9 z
        omega
    subst h0
    have hv := b8 rfl
    have hv3 : v < 19683 := by
      have : 27 ^ n ≤ 27 ^ 3 := Nat.pow_le_pow_right (by omega) (by omega)
      omega
    have b7' : mI M (b + 1) cs.length = nI (cv v) := by
      rw [b7]
      show cvI (nI v) = _
      exact cvI_n (by omega)
    refine J_p 2 (ls' := [_, _, _]) rfl ?_
    refine J_call rfl rfl rfl rfl rfl (c_isBelow (s := nI cs.length) (n := 4) (by omega) (fun j h1 l1 e1 => ?_) (fun h1 => ?_))
    · show J _ _ _ _ _ _ _
      refine J_zne rfl (fun _ => ?_) (fun c => absurd c (by decide))
      refine J_p 1 (ls' := [_, _, _]) rfl ?_
      refine J_getR rfl hP.1 hP.2.1 ?_
      refine J_p 2 (ls' := [_, _, _]) rfl ?_
      refine J_getR rfl hP.1 hP.2.1 ?_
      refine J_p 1 (ls' := [_, _, _]) rfl ?_
      refine J_ia (n := cs.length) rfl rfl (Or.inl hP.2.2.2.1.1) hP.2.2.2.1.2 (by omega) (by omega) b7' ?_
      refine J_p 8 (ls' := [_, _, _]) rfl ?_
      have ez : nI (cv v) * nI 32 + (nI y - nI 97 + nI 1) = nI (cv (27 * v + (y - 97 + 1))) := by
        rw [cv_next hv3 (by omega)]
        exact nI_addE (nI_mulE rfl rfl) (nI_addE (nI_subE rfl rfl (by omega)) rfl)
      refine J_t0 ez ?_
      refine J_iast (n := cs.length) rfl rfl hP.2.2.2.1.1 hP.2.2.2.1.2 (by omega) (by omega) ?_
      refine J_p 2 (ls' := [_, _, _]) rfl ?_
      refine J_gi (z := nI n) rfl hP.1 (by rw [mI_s1 _ _ _ (by omega)]; exact b4) ?_
      refine J_p 2 (ls' := [_, _, _]) rfl ?_
      refine J_t0 (nI_add n 1) ?_
      refine J_putI rfl hP.1 (Or.inl rfl) ?_
      refine J_p 1 (ls' := [_, _, _]) rfl ?_
      have n5 : ¬ rO (mT M b) := by rw [hP.1]; unfold rO; omega
      have n20 : ¬ rO (mT M (b + 1)) := by rw [hP.2.2.2.1.1]; unfold rO; omega
      refine J_retB rfl (by decide) (ks _ (cs, n + 1, 27 * v + y - 97 + 1, 0) ?_ ?_ ⟨rfl, rfl, rfl⟩ rfl ⟨?_, b2, ?_, ?_, ?_, ?_, ?_, ?_, ?_⟩ ?_ ?_)
      · unfold byB
        rw [if_pos hy, if_pos (show n < 4 from n4)]
      · exact (Fm.sI (W := Pw b) (Or.inr (Or.inl rfl)) n20).trans (Fm.sI (Or.inl rfl) n5)
      · rw [mI_s0, if_neg (by omega), mI_s1 _ _ _ (by omega)]
        exact b1
      · rw [mI_s0, if_neg (by omega), mI_s1 _ _ _ (by omega)]
        exact b3
      · rw [mI_s0, if_pos rfl]
      · show n + 1 ≤ 4
        omega
      · intro k c hk
        have hk' : cs[k]? = some c := hk
        have := li hk'
        rw [mI_s1 _ _ _ (by omega), mI_s0, if_neg (by omega)]
        exact b6 k c hk
      · show mI _ (b + 1) cs.length = cvI (nI (27 * v + y - 97 + 1))
        rw [cvI_n (by omega), mI_s1 _ _ _ (by omega), mI_s0, if_pos rfl, show 27 * v + y - 97 + 1 = 27 * v + (y - 97 + 1) by omega]
      · intro _
        show 27 * v + y - 97 + 1 < 27 ^ (n + 1)
        rw [Nat.pow_succ]
        omega
      · intro z
        exact absurd rfl z
      · rw [mI_s0, if_neg (by omega), mI_s1 _ _ _ (by omega)]
      · rw [mI_s1 _ _ _ (by omega), mI_s1 _ _ _ (by omega)]
    · rw [ixN_nI (show cs.length < 4 by omega) (by omega)] at h1; cases h1
theorem c_patDot (hP : PS M b) (hB : PB M b s) (kf : byB w 46 s = none → Q (some (.int (nI 0))) M) (ks : ∀ (M' : Mm) (s' : List Int32 × Nat × Nat × Nat), byB w 46 s = some s' → Fm (Pw b) M M' → Nw M M' → mR M' = mR M → PB M' b s' → mI M' b 2 = mI M b 2 → mI M' (b + 2) = mI M (b + 2) → Q (some (.int (nI 1))) M') : J E 26 0 [.ref b] [] M Q := by
  obtain ⟨cs, n, v, h⟩ := s
  obtain ⟨b1, b2, b3, b4, b5, b6, b7, b8, b9⟩ := hB
  simp only at b1 b2 b3 b4 b5 b6 b7 b8 b9
  have eb : byB w 46 (cs, n, v, h) = if n = 0 ∨ h = 3 ∨ ¬ cs.length + 1 < 4 then none else some (cs ++ [pvB v h], 0, 0, 0) := by
    unfold byB
    rw [if_neg (by omega), if_pos rfl]
  rw [eb] at kf ks
  have F : (n = 0 ∨ h = 3 ∨ ¬ cs.length + 1 < 4) → J E 26 25 [.ref b] [] M Q := fun z => by
    refine J_p 1 (ls' := [_]) rfl ?_
    exact J_retB rfl (by decide) (kf (if_pos z))
  refine J_p 1 (ls' := [_]) rfl ?_
  refine J_gi rfl hP.1 b4 ?_
  refine J_zeq rfl (fun c => F (Or.inl ((nI_eq (b := 0) (by omega) (by omega)).mp c))) (fun c => ?_)
  have n0 : ¬ n = 0 := fun z => c (by rw [z]; rfl)
  refine J_p 1 (ls' := [_]) rfl ?_
  refine J_gi rfl hP.1 b3 ?_
  refine J_zne rfl (fun c2 => F (Or.inr (Or.inl ?_))) (fun c2 => ?_)
  · by_cases z : h = 3
    · exact z
    · rw [if_neg z] at c2
      exact absurd rfl c2
  · have h3 : ¬ h = 3 := fun z => by
      rw [if_pos z] at c2
      exact absurd c2 (by decide)
    refine J_p 1 (ls' := [_]) rfl ?_
    refine J_gi rfl hP.1 b1 ?_
    refine J_p 1 (ls' := [_]) rfl ?_
    refine J_call rfl rfl rfl rfl rfl (c_isBelow (s := nI (cs.length + 1)) (n := 4) (by omega) (fun j h1 l1 e1 => ?_) (fun h1 => ?_))
    · show J _ _ _ _ _ _ _
      have l4 : cs.length + 1 < 4 := by
        have := (nI_eq (a := cs.length + 1) (b := j) (by omega) (by omega)).mp e1
        omega
      refine J_zne rfl (fun _ => ?_) (fun c => absurd c (by decide))
      refine J_p 1 (ls' := [_]) rfl ?_
      refine J_getR rfl hP.1 hP.2.1 ?_
      refine J_p 1 (ls' := [_]) rfl ?_
      refine J_gi rfl hP.1 b1 ?_
      refine J_p 1 (ls' := [_]) rfl ?_
      refine J_iast (n := cs.length + 1) rfl rfl hP.2.2.2.1.1 hP.2.2.2.1.2 (by omega) (by omega) ?_
      refine J_p 2 (ls' := [_]) rfl ?_
      refine J_gi (z := nI (cs.length + 1)) rfl hP.1 (by rw [mI_s1 _ _ _ (by omega)]; exact b1) ?_
      refine J_p 2 (ls' := [_]) rfl ?_
      refine J_t0 (nI_add (cs.length + 1) 1) ?_
      refine J_putI rfl hP.1 (Or.inl rfl) ?_
      refine J_p 2 (ls' := [_]) rfl ?_
      refine J_putI rfl hP.1 (Or.inl rfl) ?_
      refine J_p 1 (ls' := [_]) rfl ?_
      have n5 : ¬ rO (mT M b) := by rw [hP.1]; unfold rO; omega
      have n20 : ¬ rO (mT M (b + 1)) := by rw [hP.2.2.2.1.1]; unfold rO; omega
      have el : (cs ++ [pvB v h]).length = cs.length + 1 := by rw [List.length_append]; rfl
      refine J_retB rfl (by decide) (ks _ (cs ++ [pvB v h], 0, 0, 0) (if_neg (fun z => ?_)) ?_ ⟨rfl, rfl, rfl⟩ rfl ⟨?_, ?_, ?_, ?_, ?_, ?_, ?_, ?_, ?_⟩ ?_ ?_)
      · rcases z with z | z | z
        · exact n0 z
        · exact h3 z
        · exact z l4
      · exact ((Fm.sI (W := Pw b) (Or.inr (Or.inl rfl)) n20).trans (Fm.sI (Or.inl rfl) n5)).trans (Fm.sI (Or.inl rfl) n5)
      · show _ = nI ((cs ++ [pvB v h]).length + 1)
        rw [el, mI_s0, if_neg (by omega), mI_s0, if_pos rfl]
      · show (cs ++ [pvB v h]).length < 4
        omega
      · rw [mI_s0, if_neg (by omega), mI_s0, if_neg (by omega), mI_s1 _ _ _ (by omega), b3, if_neg h3]
        rfl
      · rw [mI_s0, if_pos rfl]
      · show 0 ≤ 4
        omega
      · intro k c hk
        rw [mI_s1 _ _ _ (by omega), mI_s1 _ _ _ (by omega), mI_s0]
        rcases app_or hk with ⟨rfl, rfl⟩ | ⟨hlt, hk⟩
        · rw [if_neg (by omega)]
          exact b7
        · rw [if_neg (by omega)]
          exact b6 k c hk
      · show mI _ (b + 1) (cs ++ [pvB v h]).length = cvI (nI 0)
        rw [el, cvI_n (by omega), mI_s1 _ _ _ (by omega), mI_s1 _ _ _ (by omega), mI_s0, if_pos rfl]
        rfl
      · intro _
        show 0 < 27 ^ 0
        omega
      · intro z
        exact absurd rfl z
      · rw [mI_s0, if_neg (by omega), mI_s0, if_neg (by omega), mI_s1 _ _ _ (by omega)]
      · rw [mI_s1 _ _ _ (by omega), mI_s1 _ _ _ (by omega), mI_s1 _ _ _ (by omega)]
    · show J _ _ _ _ _ _ _
      refine J_zne rfl (fun c => absurd rfl c) (fun _ => F (Or.inr (Or.inr (fun z => ?_))))
      rw [ixN_nI z (by omega)] at h1
      cases h1
end COMP12