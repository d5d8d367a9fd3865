/-! THE COMPONENT: draws; consumers counted. -/
section COMP32
variable {E : Nat × Nat} {M M' : Mm} {W : Nat → Prop} {Q : Option Value → Mm → Prop} {w t g a c q p i b m T : Nat} {o o' f f' : Nat → Nat} {F F' : Nat → Nat → Nat} {A : Ab} {x : Qa} {d : Da} {ms : List Ma}
theorem c_drawW (hS : OS M w t g o F) (hC : OC M w t g o F A) {n : Nat} (h0 : 0 < n) (hn : n < 2 ^ 31) (K : ∀ M' : Mm, Fm (Ww w t) M M' → Nw M M' → OS M' w t g o F → OC M' w t g o F (drawA A n).1 → Q (some (.int (nI (drawA A n).2))) M') : J E 96 0 [.ref w, .int (nI n)] [] M Q := by
  have hu := dwU_lt (dwS (a_s A))
  refine J_p 2 (ls' := [_, _]) rfl ?_
  refine J_gi rfl hS.1.1 hC.2.2.2.2.2.1 ?_
  refine J_p 4 (ls' := [_, _]) rfl ?_
  refine J_t0 (dwS_eq (a_s A)).symm ?_
  refine J_putI rfl hS.1.1 (Or.inl rfl) ?_
  have n9 : ¬ rO (mT M w) := by rw [hS.1.1]; unfold rO; omega
  have hS1 : OS (sI M w 10 (dwS (a_s A))) w t g o F := hS.seti
  have hC1 := OC.seti hS hC (z := dwS (a_s A)) rfl
  refine J_p 1 (ls' := [_, _]) rfl ?_
  refine J_zle rfl (fun b => absurd b (nI_ge (a := 0) h0 hn)) (fun _ => ?_)
  refine J_p 1 (ls' := [_, _]) rfl ?_
  refine J_gi (z := dwS (a_s A)) rfl hS1.1.1 (by rw [mI_s0, if_pos rfl]) ?_
  refine J_p 2 (ls' := [_, _]) rfl ?_
  refine J_t0 (dw_eq (dwS (a_s A))) ?_
  refine J_p 1 (ls' := [_, _]) rfl ?_
  refine J_rem rfl (fun y => absurd ((nI_eq (a := n) (b := 0) (by omega) (by omega)).mp y) (by omega)) ?_
  rw [pk_rem (show dwU (dwS (a_s A)) < 2 ^ 31 by omega) h0 hn]
  refine J_p 1 (ls' := [_, _]) rfl ?_
  exact J_ret rfl rfl rfl (K _ (Fm.sI (Or.inl rfl) n9) ⟨rfl, rfl, rfl⟩ hS1 hC1)
theorem c_countPresent (hS : OS M w t g o F) (hC : OC M w t g o F A) (hw : okK A) (hq : q < 8) (K : Q (some (.int (nI (cnA (atA (a_c A) q) (a_c A).length)))) M) : J E 97 0 [.ref w, .int (nI q), U0, U0] [] M Q := by
  have n10 := hC.2.2.1.2
  have hcn := hC.2.2.1.1
  have loop : ∀ (d kk : Nat), kk + d = (a_c A).length → J E 97 4 [.ref w, .int (nI q), .int (nI (cnA (atA (a_c A) q) kk)), .int (nI kk)] [] M Q := by
    intro d
    induction d with
    | zero =>
      intro kk hk
      obtain rfl : kk = (a_c A).length := by omega
      refine J_p 2 (ls' := [_, _, _, _]) rfl ?_
      refine J_gi rfl hS.1.1 hcn ?_
      refine J_ige rfl (fun _ => ?_) (fun b => absurd (nI_le (by omega) (by omega)) b)
      refine J_p 1 (ls' := [_, _, _, _]) rfl ?_
      exact J_ret rfl rfl rfl K
    | succ d ih =>
      intro kk hk
      obtain ⟨k, hk2⟩ := get_of (l := a_c A) (i := kk) (by omega)
      obtain ⟨w1, w2, w3⟩ := hw kk k hk2
      refine J_p 2 (ls' := [_, _, _, _]) rfl ?_
      refine J_gi rfl hS.1.1 hcn ?_
      refine J_ige rfl (fun b => absurd b (nI_ge (by omega) (by omega))) (fun _ => ?_)
      refine J_p 2 (ls' := [_, _, _, _]) rfl ?_
      refine J_getR rfl hS.1.1 hS.1.2.2.2.1 ?_
      refine J_p 1 (ls' := [_, _, _, _]) rfl ?_
      refine J_aald (n := kk) rfl rfl (by rw [hS.2.2.2.1.1]; rfl) hS.2.2.2.1.2.1 (by omega) (by omega) (hS.2.2.2.1.2.2 kk (by omega)).1 ?_
      refine J_p 1 (ls' := [_, _, _, _]) rfl ?_
      refine J_call rfl rfl rfl (decide_eq_true (hS.tk (c := kk) (by omega))) rfl (c_isAt (hS.tk (c := kk) (by omega)) (hC.kc hk2) w1 (fun z1 z2 => ?_) (fun z => ?_))
      · show J _ _ _ _ _ _ _
        refine J_call rfl rfl rfl rfl rfl (c_asBit1 ?_)
        show J _ _ _ _ _ _ _
        refine J_p 1 (ls' := [_, _, _, _]) rfl ?_
        refine J_t0 (nI_add _ 1) ?_
        refine J_p 3 (ls' := [_, _, _, _]) rfl ?_
        rw [nI_add kk 1, ← cnA_t ((atA_iff hk2).mpr ⟨z1, (nI_eq (by omega) (by omega)).mp z2⟩)]
        exact ih (kk + 1) (by omega)
      · show J _ _ _ _ _ _ _
        refine J_call rfl rfl rfl rfl rfl (c_asBit0 ?_)
        show J _ _ _ _ _ _ _
        refine J_p 1 (ls' := [_, _, _, _]) rfl ?_
        refine J_t0 (nI_add _ 0) ?_
        refine J_p 3 (ls' := [_, _, _, _]) rfl ?_
        rw [nI_add kk 1, Nat.add_zero, ← cnA_f (p := atA (a_c A) q) (n := kk) (fun y => z ⟨((atA_iff hk2).mp y).1, by rw [((atA_iff hk2).mp y).2]⟩)]
        exact ih (kk + 1) (by omega)
  refine J_p 4 (ls' := [_, _, _, _]) rfl ?_
  exact loop (a_c A).length 0 (by omega)
end COMP32