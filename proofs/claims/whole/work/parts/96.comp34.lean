/-! THE COMPONENT: credits summed. -/
section COMP34
variable {E : Nat × Nat} {M M' : Mm} {Q : Option Value → Mm → Prop} {w t g a c q p i b m T : Nat} {o o' f f' : Nat → Nat} {F F' : Nat → Nat → Nat} {A : Ab} {x : Qa}
theorem c_creditsAt (hS : OS M w t g o F) (hC : OC M w t g o F A) {s : Int32} {h : Nat → Nat} (hh : ∀ (c : Nat) (k : Co), (a_c A)[c]? = some k → h c = if s = -1 ∨ nI (k_q k) = s then k_cr k else 0) (K : Q (some (.int (nI (suA h (a_c A).length)))) M) : J E 98 0 [.ref w, .int s, U0, U0] [] M Q := by
  have n10 := hC.2.2.1.2
  have hcn := hC.2.2.1.1
  have loop : ∀ (d kk : Nat), kk + d = (a_c A).length → J E 98 4 [.ref w, .int s, .int (nI (suA h kk)), .int (nI kk)] [] M Q := by
    intro d
    induction d with
    | zero =>
      intro kk hk
      obtain rfl : kk = (a_c A).length := by omega
      refine J_p 2 (ls' := [_, _, _, _]) rfl ?_
      refine J_gi rfl hS.1.1 hcn ?_
      refine J_ige rfl (fun _ => ?_) (fun b => absurd (nI_le (by omega) (by omega)) b)
      refine J_p 1 (ls' := [_, _, _, _]) rfl ?_
      exact J_ret rfl rfl rfl K
    | succ d ih =>
      intro kk hk
      obtain ⟨k, hk2⟩ := get_of (l := a_c A) (i := kk) (by omega)
      have e := hh kk k hk2
      have es : suA h (kk + 1) = suA h kk + h kk := rfl
      have t1 := hS.tk (c := kk) (by omega)
      have go : (s = -1 ∨ nI (k_q k) = s) → J E 98 30 [.ref w, .int s, .int (nI (suA h kk)), .int (nI kk)] [] M Q := fun z => by
        rw [if_pos z] at e
        rw [e] at es
        refine J_p 2 (ls' := [_, _, _, _]) rfl ?_
        refine J_getR rfl hS.1.1 hS.1.2.2.2.1 ?_
        refine J_p 1 (ls' := [_, _, _, _]) rfl ?_
        refine J_aald (n := kk) rfl rfl (by rw [hS.2.2.2.1.1]; rfl) hS.2.2.2.1.2.1 (by omega) (by omega) (hS.2.2.2.1.2.2 kk (by omega)).1 ?_
        refine J_gi rfl t1 (hC.kc hk2).2.1 ?_
        refine J_p 1 (ls' := [_, _, _, _]) rfl ?_
        refine J_t0 ((nI_add (suA h kk) (k_cr k)).trans (by rw [← es])) ?_
        refine J_p 3 (ls' := [_, _, _, _]) rfl ?_
        rw [nI_add kk 1]
        exact ih (kk + 1) (by omega)
      refine J_p 2 (ls' := [_, _, _, _]) rfl ?_
      refine J_gi rfl hS.1.1 hcn ?_
      refine J_ige rfl (fun b => absurd b (nI_ge (by omega) (by omega))) (fun _ => ?_)
      refine J_p 2 (ls' := [_, _, _, _]) rfl ?_
      refine J_ieq rfl (fun b => go (Or.inl b)) (fun b => ?_)
      refine J_p 1 (ls' := [_, _, _, _]) rfl ?_
      refine J_getR rfl hS.1.1 hS.1.2.2.2.1 ?_
      refine J_p 1 (ls' := [_, _, _, _]) rfl ?_
      refine J_aald (n := kk) rfl rfl (by rw [hS.2.2.2.1.1]; rfl) hS.2.2.2.1.2.1 (by omega) (by omega) (hS.2.2.2.1.2.2 kk (by omega)).1 ?_
      refine J_gi rfl t1 (hC.kc hk2).1 ?_
      refine J_p 1 (ls' := [_, _, _, _]) rfl ?_
      refine J_ine rfl (fun b2 => ?_) (fun b2 => go (Or.inr b2))
      rw [if_neg (fun z => by rcases z with z | z; exact b z; exact b2 z)] at e
      have es2 : suA h (kk + 1) = suA h kk := by rw [es, e]; rfl
      refine J_p 2 (ls' := [_, _, _, _]) rfl ?_
      rw [nI_add kk 1, ← es2]
      exact ih (kk + 1) (by omega)
  refine J_p 4 (ls' := [_, _, _, _]) rfl ?_
  exact loop (a_c A).length 0 (by omega)
end COMP34