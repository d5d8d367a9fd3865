/-! THE REFERENCE'S PUBLIC METHODS: giveAll. -/
def giveAllA : Nat → Ab → Nat → Ab × Nat
  | 0, A, _ => (A, 0)
  | f + 1, A, q => match giveA A q with
    | none => (A, 0)
    | some p => ((giveAllA f p.1 q).1, (giveAllA f p.1 q).2 + 1)
def rdyN (x : Qa) : Nat := cnA (stB (q_ls x) 0) (q_ls x).length
theorem cnA_same {p p' : Nat → Bool} : ∀ n, (∀ j, j < n → p' j = p j) → cnA p' n = cnA p n
  | 0, _ => rfl
  | n + 1, h => by
    unfold cnA
    rw [cnA_same n (fun j hj => h j (by omega)), h n (by omega)]
theorem cnA_one {p p' : Nat → Bool} {i : Nat} (hp : p i = true) (hp' : p' i = false) (h : ∀ j, j ≠ i → p' j = p j) : ∀ n, i < n → cnA p' n + 1 = cnA p n
  | 0, hi => absurd hi (Nat.not_lt_zero _)
  | n + 1, hi => by
    by_cases e : i = n
    · subst e
      unfold cnA
      rw [cnA_same i (fun j hj => h j (by omega)), hp, hp', if_pos rfl, if_neg (by decide)]
    · have := cnA_one hp hp' h n (by omega)
      unfold cnA
      rw [h n (fun y => e y.symm)]
      omega
theorem rdyN_le {g : Nat → Int32} {A : Ab} {q : Nat} {x : Qa} (h : Rep g A) (hx : (a_q A)[q]? = some x) : rdyN x ≤ 20 := Nat.le_trans (cnA_le _ _) (h.1.2.2 q x hx).2.2.2.2.1
theorem give_rdy {A B : Ab} {q m : Nat} {x : Qa} (h : giveA A q = some (B, m)) (hx : (a_q A)[q]? = some x) : ∃ x', (a_q B)[q]? = some x' ∧ rdyN x' + 1 = rdyN x := by
  obtain ⟨i, l, c, k, _, _, hl, hk, h0, _, _, _, rfl, _⟩ := giveA_some h hx
  refine ⟨_, set_get hx, ?_⟩
  show cnA (stB ((q_ls x).set i (outL l c (a_n A + q_le x))) 0) ((q_ls x).set i (outL l c (a_n A + q_le x))).length + 1 = cnA (stB (q_ls x) 0) (q_ls x).length
  rw [List.length_set]
  refine cnA_one (i := i) ?_ ?_ (fun j hj => ?_) _ (li hl)
  · unfold stB; rw [hl]; exact decide_eq_true h0
  · unfold stB; rw [set_get hl]; rfl
  · unfold stB; rw [List.getElem?_set_ne (fun y => hj y.symm)]
section PUB5
variable {E : Nat × Nat} {M : Mm} {r T : Nat} {Q : Option Value → Mm → Prop}
theorem c_giveAll_l (hS : RS M r) {q : Nat} : ∀ (f : Nat) (A : Ab) (g : Nat → Int32) (n : Nat) (x : Qa), Rep g A → Wf T A → (a_q A)[q]? = some x → rdyN x < f →
    (∀ g' : Nat → Int32, Rep g' (giveAllA f A q).1 → Wf T (giveAllA f A q).1 → Q (some (.int (nI (n + (giveAllA f A q).2)))) (wI M (r + 1) g')) →
    J E 199 17 [.ref r, .int (nI q), .int (nI n)] [] (wI M (r + 1) g) Q
  | 0, _, _, _, _, _, _, _, hf, _ => absurd hf (Nat.not_lt_zero _)
  | f + 1, A, g, n, x, h, w, hx, hf, k => by
    refine J_p 2 (ls' := [_, _, _]) rfl ?_
    refine J_call rfl rfl rfl (decide_eq_true hS.t) rfl (c_givesA hS h w hx (fun hg => ?_) (fun B m hg hm g' hr => ?_))
    · show J _ _ _ _ _ _ _
      refine J_zlt rfl (fun _ => ?_) (fun b => absurd (by decide) b)
      refine J_p 1 (ls' := [_, _, _]) rfl ?_
      simp only [giveAllA, hg] at k
      exact J_ret rfl rfl rfl (k g h w)
    · show J _ _ _ _ _ _ _
      refine J_zlt rfl (fun b => absurd b (nI_pos (by omega))) (fun _ => ?_)
      refine J_p 2 (ls' := [_, _, _]) rfl ?_
      rw [nI_add n 1]
      obtain ⟨x', hx', hr'⟩ := give_rdy hg hx
      simp only [giveAllA, hg] at k
      refine c_giveAll_l hS f B g' (n + 1) x' hr (w.giv hg hx) hx' (by omega) (fun g2 h2 w2 => ?_)
      rw [show n + 1 + (giveAllA f B q).2 = n + ((giveAllA f B q).2 + 1) by omega]
      exact k g2 h2 w2
end PUB5
