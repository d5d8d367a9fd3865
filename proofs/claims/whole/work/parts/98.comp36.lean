/-! THE COMPONENT: a consumer is taken from another. -/
section COMP36
variable {E : Nat × Nat} {M M' : Mm} {Q : Option Value → Mm → Prop} {a b : Nat} {k : Co}
theorem c_conTake (ha : mT M a = 1) (hb : mT M b = 1) (hab : b ≠ a) (hK : KC M b k) (hl : k_lf k ≤ 1) (K : ∀ M' : Mm, Fm (fun z => z = a) M M' → Nw M M' → mR M' = mR M → mI M' a 0 = mI M a 0 → KC M' a k → Q none M') : J E 5 0 [.ref a, .ref b] [] M Q := by
  have nr : ¬ rO (mT M a) := by rw [ha]; unfold rO; omega
  obtain ⟨k1, k2, k3, k4⟩ := hK
  refine J_p 2 (ls' := [_, _]) rfl ?_
  refine J_gi rfl hb k1 ?_
  refine J_putI rfl ha (Or.inl rfl) ?_
  refine J_p 2 (ls' := [_, _]) rfl ?_
  refine J_gi (z := nI (k_cr k)) rfl hb (by rw [mI_s1 _ _ _ hab]; exact k2) ?_
  refine J_putI rfl ha (Or.inl rfl) ?_
  refine J_p 2 (ls' := [_, _]) rfl ?_
  refine J_gi (z := k_gt k) rfl hb (by rw [mI_s1 _ _ _ hab, mI_s1 _ _ _ hab]; exact k3) ?_
  refine J_putI rfl ha (Or.inl rfl) ?_
  refine J_p 2 (ls' := [_, _]) rfl ?_
  refine J_gi (z := nI (k_lf k)) rfl hb (by rw [mI_s1 _ _ _ hab, mI_s1 _ _ _ hab, mI_s1 _ _ _ hab]; exact k4) ?_
  refine J_putI rfl ha (Or.inr (by
    rcases (show k_lf k = 0 ∨ k_lf k = 1 by omega) with e | e
    · exact Or.inl (by rw [e]; rfl)
    · exact Or.inr (by rw [e]; rfl))) ?_
  refine J_ret rfl rfl rfl (K _ ((((Fm.sI (W := fun z => z = a) rfl nr).trans (Fm.sI rfl nr)).trans (Fm.sI rfl nr)).trans (Fm.sI rfl nr)) ⟨rfl, rfl, rfl⟩ rfl ?_ ⟨?_, ?_, ?_, ?_⟩)
  all_goals simp only [mI_s0]
  all_goals rfl
end COMP36