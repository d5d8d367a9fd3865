/-! THE COMPONENT: the pattern's reader, whole. -/
/-- the tape's cells -/
def TS (M : Mm) (p : Nat) : Prop := mT M p = 8 ∧ mR M p 0 = some (p + 1) ∧ mT M (p + 1) = 20 ∧ mS M (p + 1) = 250
def TC (M : Mm) (p : Nat) (t : List Nat) : Prop := mI M p 1 = nI t.length ∧ t.length ≤ 250 ∧ ∀ (k y : Nat), t[k]? = some y → mI M (p + 1) k = nI y ∧ y ≤ 255
section COMP13
variable {E : Nat × Nat} {M M' : Mm} {Q : Option Value → Mm → Prop} {b y p : Nat} {w : Bool} {t : List Nat} {s : List Int32 × Nat × Nat × Nat} {wv : Int32}
theorem c_patByte (hw0 : wv = 0 → w = false) (hw1 : ¬ wv = 0 → w = true) (hP : PS M b) (hB : PB M b s) (hy : y ≤ 255) (kf : byB w y s = none → Q (some (.int (nI 0))) M) (ks : ∀ (M' : Mm) (s' : List Int32 × Nat × Nat × Nat), byB w y s = some s' → Fm (Pw b) M M' → Nw M M' → mR M' = mR M → PB M' b s' → mI M' b 2 = mI M b 2 → mI M' (b + 2) = mI M (b + 2) → Q (some (.int (nI 1))) M') : J E 24 0 [.ref b, .int (nI y), .int wv] [] M Q := by
  have A18 : ¬ (97 ≤ y ∧ y ≤ 122) → J E 24 18 [.ref b, .int (nI y), .int wv] [] M Q := fun nl => by
    refine J_p 2 (ls' := [_, _, _]) rfl ?_
    refine J_ine rfl (fun c => ?_) (fun c => ?_)
    · have n46 : ¬ y = 46 := fun z => c (by rw [z])
      have eb : byB w y s = if w = true ∧ s.2.1 = 0 ∧ (y = 42 ∨ y = 35) then some (s.1, 4, 0, if y = 35 then 3 else 2) else none := by
        unfold byB
        rw [if_neg nl, if_neg n46]
      rw [eb] at kf ks
      have F : ¬ (w = true ∧ s.2.1 = 0 ∧ (y = 42 ∨ y = 35)) → J E 24 52 [.ref b, .int (nI y), .int wv] [] M Q := fun z => by
        refine J_p 1 (ls' := [_, _, _]) rfl ?_
        exact J_retB rfl (by decide) (kf (if_neg z))
      refine J_p 1 (ls' := [_, _, _]) rfl ?_
      refine J_zeq rfl (fun c0 => F (fun z => by rw [hw0 c0] at z; exact absurd z.1 (by decide))) (fun c0 => ?_)
      have hw := hw1 c0
      refine J_p 1 (ls' := [_, _, _]) rfl ?_
      refine J_gi rfl hP.1 hB.2.2.2.1 ?_
      have h4 := hB.2.2.2.2.1
      refine J_zne rfl (fun c1 => F (fun z => c1 (by rw [z.2.1]; rfl))) (fun c1 => ?_)
      have n0 : s.2.1 = 0 := (nI_eq (b := 0) (by omega) (by omega)).mp c1
      have G : ∀ h, (y = 42 ∧ h = 2) ∨ (y = 35 ∧ h = 3) → J E 24 54 [.ref b, .int (nI y), .int wv] [] M Q := fun h hh => by
        have n5 : ¬ rO (mT M b) := by rw [hP.1]; unfold rO; omega
        have fin : ∀ M2 : Mm, M2 = sI (sI M b 5 (nI 4)) b 4 (if h = 3 then nI 1 else nI 0) → Q (some (.int (nI 1))) M2 := fun M2 e2 => by
          subst e2
          obtain ⟨cs, n, v, h'⟩ := s
          obtain ⟨b1, b2, b3, b4, b5, b6, b7, b8, b9⟩ := hB
          simp only at b1 b2 b3 b4 b5 b6 b7 b8 b9 n0
          have hc0 : mI M (b + 1) cs.length = 0 := by
            have h0 : h' = 0 := by
              by_cases z : h' = 0
              · exact z
              · have := b9 z
                omega
            subst h0
            have := b8 rfl
            rw [n0] at this
            have v0 : v = 0 := by
              have e1 : 27 ^ 0 = 1 := rfl
              omega
            rw [b7, v0]
            show cvI (nI 0) = 0
            rw [cvI_n (by omega)]
            rfl
          refine ks _ (cs, 4, 0, if y = 35 then 3 else 2) (if_pos ⟨hw, n0, by omega⟩) ((Fm.sI (W := Pw b) (Or.inl rfl) n5).trans (Fm.sI (Or.inl rfl) n5)) ⟨rfl, rfl, rfl⟩ rfl ⟨?_, b2, ?_, ?_, ?_, ?_, ?_, ?_, ?_⟩ ?_ ?_
          · rw [mI_s0, if_neg (by omega), mI_s0, if_neg (by omega)]
            exact b1
          · show _ = if (if y = 35 then 3 else 2) = 3 then nI 1 else nI 0
            rw [mI_s0, if_pos rfl]
            rcases hh with ⟨e1, e2⟩ | ⟨e1, e2⟩
            · subst e1; subst e2; rfl
            · subst e1; subst e2; rfl
          · rw [mI_s0, if_neg (by omega), mI_s0, if_pos rfl]
          · show 4 ≤ 4
            omega
          · intro k c hk
            rw [mI_s1 _ _ _ (by omega), mI_s1 _ _ _ (by omega)]
            exact b6 k c hk
          · rw [mI_s1 _ _ _ (by omega), mI_s1 _ _ _ (by omega)]
            refine hc0.trans ?_
            rcases hh with ⟨e1, e2⟩ | ⟨e1, e2⟩
            · subst e1; rfl
            · subst e1; rfl
          · intro z
            have z' : (if y = 35 then 3 else 2) = 0 := z
            split at z' <;> omega
          · intro _
            rfl
          · rw [mI_s0, if_neg (by omega), mI_s0, if_neg (by omega)]
          · rw [mI_s1 _ _ _ (by omega), mI_s1 _ _ _ (by omega)]
        refine J_p 2 (ls' := [_, _, _]) rfl ?_
        refine J_putI rfl hP.1 (Or.inl rfl) ?_
        refine J_p 3 (ls' := [_, _, _]) rfl ?_
        refine J_ine rfl (fun c2 => ?_) (fun c2 => ?_)
        · have h2 : h = 2 := by
            rcases hh with z | z
            · exact z.2
            · exact absurd (by rw [z.1]) c2
          refine J_p 1 (ls' := [_, _, _]) rfl ?_
          refine J_putI rfl hP.1 (Or.inr (Or.inl rfl)) ?_
          refine J_p 1 (ls' := [_, _, _]) rfl ?_
          exact J_retB rfl (by decide) (fin _ (by rw [h2]; rfl))
        · have e35 : y = 35 := (nI_eq (by omega) (by omega)).mp c2
          have h3 : h = 3 := by omega
          refine J_p 2 (ls' := [_, _, _]) rfl ?_
          refine J_putI rfl hP.1 (Or.inr (Or.inr rfl)) ?_
          refine J_p 1 (ls' := [_, _, _]) rfl ?_
          exact J_retB rfl (by decide) (fin _ (by rw [h3]; rfl))
      refine J_p 2 (ls' := [_, _, _]) rfl ?_
      refine J_ieq rfl (fun c2 => G 2 (Or.inl ⟨(nI_eq (by omega) (by omega)).mp c2, rfl⟩)) (fun c2 => ?_)
      refine J_p 2 (ls' := [_, _, _]) rfl ?_
      refine J_ieq rfl (fun c3 => G 3 (Or.inr ⟨(nI_eq (by omega) (by omega)).mp c3, rfl⟩)) (fun c3 => F (fun z => ?_))
      rcases z.2.2 with z | z
      · exact c2 (by rw [z])
      · exact c3 (by rw [z])
    · have e46 : y = 46 := (nI_eq (by omega) (by omega)).mp c
      subst e46
      refine J_p 1 (ls' := [_, _, _]) rfl ?_
      refine J_call rfl rfl rfl (decide_eq_true hP.1) rfl (c_patDot (w := w) hP hB (fun z => ?_) (fun M' s' h1 h2 h3 h4 h5 h6 h7 => ?_))
      · show J _ _ _ _ _ _ _
        exact J_retB rfl (by decide) (kf z)
      · show J _ _ _ _ _ _ _
        exact J_retB rfl (by decide) (ks M' s' h1 h2 h3 h4 h5 h6 h7)
  refine J_p 2 (ls' := [_, _, _]) rfl ?_
  refine J_ilt rfl (fun c => A18 (fun z => nI_nlt z.1 (by omega) c)) (fun c => ?_)
  have h97 : 97 ≤ y := by
    rcases Nat.lt_or_ge y 97 with z | z
    · exact absurd (nI_lt z (by omega)) c
    · exact z
  refine J_p 2 (ls' := [_, _, _]) rfl ?_
  refine J_igt rfl (fun c => A18 (fun z => nI_nlt z.2 (by omega) c)) (fun c => ?_)
  have h122 : y ≤ 122 := by
    rcases Nat.lt_or_ge 122 y with z | z
    · exact absurd (nI_lt z (by omega)) c
    · exact z
  refine J_p 2 (ls' := [_, _, _]) rfl ?_
  refine J_call rfl rfl rfl (decide_eq_true hP.1) rfl (c_patLetter (w := w) hP hB ⟨h97, h122⟩ (fun z => ?_) (fun M' s' h1 h2 h3 h4 h5 h6 h7 => ?_))
  · show J _ _ _ _ _ _ _
    exact J_retB rfl (by decide) (kf z)
  · show J _ _ _ _ _ _ _
    exact J_retB rfl (by decide) (ks M' s' h1 h2 h3 h4 h5 h6 h7)
/-- where the reader stands -/
theorem by_pos {s' : List Int32 × Nat × Nat × Nat} (h : byB w y s = some s') (hp : p ≤ 5 * s.1.length + s.2.1) (h4 : s.2.1 ≤ 4) : p + 1 ≤ 5 * s'.1.length + s'.2.1 ∨ ¬ p ≤ 5 * s.1.length + s.2.1 := by
  unfold byB at h
  split at h
  · split at h
    · cases h
      exact Or.inl (by show p + 1 ≤ 5 * s.1.length + (s.2.1 + 1); omega)
    · cases h
  · split at h
    · split at h
      · cases h
      · cases h
        refine Or.inl ?_
        show p + 1 ≤ 5 * (s.1 ++ [pvB s.2.2.1 s.2.2.2]).length + 0
        rw [List.length_append]
        show p + 1 ≤ 5 * (s.1.length + 1) + 0
        omega
    · split at h
      · next c =>
        cases h
        refine Or.inl ?_
        show p + 1 ≤ 5 * s.1.length + 4
        have := c.2.1
        omega
      · cases h
theorem by_19 (h3 : s.1.length < 4) (h4 : s.2.1 ≤ 4) (hp : 19 ≤ 5 * s.1.length + s.2.1) : byB w y s = none := by
  unfold byB
  have e3 : s.1.length = 3 := by omega
  have e4 : s.2.1 = 4 := by omega
  split
  · exact if_neg (by omega)
  · split
    · exact if_pos (Or.inr (Or.inr (by omega)))
    · exact if_neg (fun z => by have := z.2.1; omega)
end COMP13