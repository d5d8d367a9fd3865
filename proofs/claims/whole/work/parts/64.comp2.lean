/-! THE COMPONENT: patterns that take others. -/
theorem pt_nn {p : List Int32} {k : Nat} (hP : WfP p) (h : ¬ ptA p k = -2) : ∃ n, (1 ≤ n ∧ n < 27 ^ 4) ∧ p[k]? = some (nI n) ∧ ptA p k = nI n := by
  unfold ptA at h ⊢
  cases hc : p[k]? with
  | none => rw [hc] at h; exact absurd rfl h
  | some c =>
    rw [hc] at h
    simp only at h ⊢
    rcases hP k c hc with e | ⟨e, _⟩ | ⟨n, h1, h2, e⟩
    · subst e; exact absurd (if_neg (by decide)) h
    · subst e; exact absurd (if_pos rfl) h
    · subst e
      have := nI_n2 (n := n) (by omega)
      exact ⟨n, ⟨h1, h2⟩, rfl, if_neg (fun y => this (Or.inr y))⟩
theorem pt_cv {p : List Int32} {k : Nat} {c : Int32} (hP : WfP p) (hc : p[k]? = some c) : cvI c = 0 ↔ ptA p k = -2 := by
  by_cases h : ptA p k = -2
  · refine ⟨fun _ => h, fun _ => ?_⟩
    unfold ptA at h
    rw [hc] at h
    simp only at h
    unfold cvI
    by_cases e : c = -3
    · exact if_pos (Or.inr e)
    · rw [if_neg e] at h; exact if_pos (Or.inl h)
  · obtain ⟨n, ⟨h1, h2⟩, h3, h4⟩ := pt_nn hP h
    rw [hc] at h3
    obtain rfl := Option.some.inj h3
    refine ⟨fun y => ?_, fun y => absurd y h⟩
    rw [cvI_n (by omega)] at y
    have := cv_pos h1 (by omega)
    have l := cv_lt n
    have := (nI_eq (a := cv n) (b := 0) (by omega) (by omega)).mp y
    omega
theorem pt_end {p : List Int32} {k : Nat} (e : p.getD (p.length - 1) 0 = -3) (h : p.length - 1 ≤ k) : ptA p k = -2 := by
  unfold ptA
  cases hc : p[k]? with
  | none => rfl
  | some c =>
    have hk := li hc
    have : k = p.length - 1 := by omega
    subst this
    rw [getD_of hc] at e
    subst e
    rfl
section COMP2
variable {E : Nat × Nat} {M : Mm} {Q : Option Value → Mm → Prop} {mi pc nx tg x y : Nat} {v : Value} {ls rr : List Value}
theorem c_takesAny {b k : Nat} {p txt : List Int32} (hS : PS M b) (hC : PC M b p txt) (hP : WfP p) (hk4 : k < 4) (hk : k < p.length ∨ p.getD (p.length - 1) 0 = -3) (kt : ptA p k = -2 → Q (some (.int (nI 1))) M) (kf : ¬ ptA p k = -2 → Q (some (.int (nI 0))) M) : J E 31 0 [.ref b, .int (nI k)] [] M Q := by
  obtain ⟨_, ⟨c3, c4⟩, c5, c6, _⟩ := hC
  have A35 : ptA p k = -2 → J E 31 35 [.ref b, .int (nI k)] [] M Q := fun h => by
    refine J_p 2 (ls' := [_, _]) rfl ?_
    exact J_retB rfl (by decide) (kt h)
  have A17 : k < p.length → J E 31 17 [.ref b, .int (nI k)] [] M Q := fun hlt => by
    obtain ⟨c, hc⟩ := get_of hlt
    refine J_p 1 (ls' := [_, _]) rfl ?_
    refine J_zlt rfl (fun b => absurd b (nI_pos (by omega))) (fun _ => ?_)
    refine J_p 2 (ls' := [_, _]) rfl ?_
    refine J_ige rfl (fun b => absurd b (nI_ge (by omega) (by omega))) (fun _ => ?_)
    refine J_p 1 (ls' := [_, _]) rfl ?_
    refine J_getR rfl hS.1 hS.2.1 ?_
    refine J_p 1 (ls' := [_, _]) rfl ?_
    refine J_ia (n := k) rfl rfl (Or.inl hS.2.2.2.1.1) hS.2.2.2.1.2 hk4 (by omega) (c6 k c hc) ?_
    refine J_zne rfl (fun b => ?_) (fun b => A35 ((pt_cv hP hc).mp b))
    refine J_p 1 (ls' := [_, _]) rfl ?_
    exact J_retB rfl (by decide) (kf (fun y => b ((pt_cv hP hc).mpr y)))
  refine J_p 1 (ls' := [_, _]) rfl ?_
  refine J_gi rfl hS.1 c5 ?_
  by_cases e : p.getD (p.length - 1) 0 = -3
  · rw [if_pos e]
    refine J_zeq rfl (fun b => absurd b (by decide)) (fun _ => ?_)
    refine J_p 2 (ls' := [_, _]) rfl ?_
    refine J_gi rfl hS.1 c3 ?_
    refine J_p 2 (ls' := [_, _]) rfl ?_
    by_cases h1 : 1 ≤ p.length
    · refine J_t0 (nI_subE (n := 1) rfl rfl h1) ?_
      refine J_ige rfl (fun b1 => A35 (pt_end e ((nI_leI (by omega) (by omega)).mp b1))) (fun b1 => A17 ?_)
      rcases Nat.lt_or_ge k (p.length - 1) with z | z
      · omega
      · exact absurd (nI_le z (by omega)) b1
    · have : p = [] := List.length_eq_zero_iff.mp (by omega)
      subst this
      exact absurd e (by decide)
  · rw [if_neg e]
    refine J_zeq rfl (fun _ => ?_) (fun b => absurd rfl b)
    exact A17 (hk.elim (fun z => z) (fun z => absurd z e))
theorem lg_k {p : List Int32} {s k : Nat} (h : lgA p s = true) (hk : k < s) : k < p.length ∨ p.getD (p.length - 1) 0 = -3 := by
  unfold lgA at h
  split at h
  · exact Or.inr (by assumption)
  · have := of_decide_eq_true h
    exact Or.inl (by omega)
theorem c_takesOfSize {b b' s : Nat} {p txt p' txt' : List Int32} (hS : PS M b) (hC : PC M b p txt) (hS' : PS M b') (hC' : PC M b' p' txt') (hP : WfP p) (hP' : WfP p') (h1 : 1 ≤ p.length) (hs : s ≤ 4) (hl' : lgA p' s = true)
    (kt : lgA p s = true → (∀ k, k < s → okP p p' k) → Q (some (.int (nI 1))) M) (kf : ¬ (lgA p s = true ∧ ∀ k, k < s → okP p p' k) → Q (some (.int (nI 0))) M) : J E 29 0 [.ref b, .ref b', .int (nI s), U0] [] M Q := by
  refine J_p 2 (ls' := [_, _, _, _]) rfl ?_
  refine J_call rfl rfl rfl (decide_eq_true hS.1) rfl (c_takesSize hS hC h1 hs (fun hl => ?_) (fun hl => ?_))
  · have loop : ∀ (d k : Nat), k + d = s → (∀ j, j < k → okP p p' j) → J E 29 12 [.ref b, .ref b', .int (nI s), .int (nI k)] [] M Q := by
      intro d
      induction d with
      | zero =>
        intro k hk hacc
        refine J_p 2 (ls' := [_, _, _, _]) rfl ?_
        refine J_ige rfl (fun _ => ?_) (fun b => absurd (nI_le (by omega) (by omega)) b)
        refine J_p 1 (ls' := [_, _, _, _]) rfl ?_
        obtain rfl : k = s := by omega
        exact J_retB rfl (by decide) (kt hl hacc)
      | succ d ih =>
        intro k hk hacc
        have nxt : okP p p' k → J E 29 55 [.ref b, .ref b', .int (nI s), .int (nI k)] [] M Q := fun ho => by
          refine J_p 2 (ls' := [_, _, _, _]) rfl ?_
          rw [nI_add k 1]
          refine ih (k + 1) (by omega) (fun j hj => ?_)
          rcases Nat.lt_or_ge j k with z | z
          · exact hacc j z
          · obtain rfl : j = k := by omega
            exact ho
        have bad : ¬ okP p p' k → J E 29 53 [.ref b, .ref b', .int (nI s), .int (nI k)] [] M Q := fun ho => by
          refine J_p 1 (ls' := [_, _, _, _]) rfl ?_
          exact J_retB rfl (by decide) (kf (fun y => ho (y.2 k (by omega))))
        refine J_p 2 (ls' := [_, _, _, _]) rfl ?_
        refine J_ige rfl (fun b => absurd b (nI_ge (by omega) (by omega))) (fun _ => ?_)
        refine J_p 2 (ls' := [_, _, _, _]) rfl ?_
        refine J_ige rfl (fun b => absurd b (nI_ge (by omega) (by omega))) (fun _ => ?_)
        refine J_p 2 (ls' := [_, _, _, _]) rfl ?_
        refine J_call rfl rfl rfl (decide_eq_true hS.1) rfl (c_takesAny hS hC hP (k := k) (by omega) (lg_k hl (by omega)) (fun ha => ?_) (fun ha => ?_))
        · show J _ _ _ _ _ _ _
          refine J_zne rfl (fun _ => nxt (Or.inl ha)) (fun b => absurd b (by decide))
        · show J _ _ _ _ _ _ _
          obtain ⟨n, ⟨n1, n2⟩, hn, en⟩ := pt_nn hP ha
          refine J_zne rfl (fun b => absurd rfl b) (fun _ => ?_)
          refine J_p 2 (ls' := [_, _, _, _]) rfl ?_
          refine J_call rfl rfl rfl (decide_eq_true hS'.1) rfl (c_takesAny hS' hC' hP' (k := k) (by omega) (lg_k hl' (by omega)) (fun ha' => ?_) (fun ha' => ?_))
          · show J _ _ _ _ _ _ _
            refine J_zne rfl (fun _ => bad (fun y => ?_)) (fun b => absurd b (by decide))
            rcases y with y | y
            · exact ha y
            · exact ha (y.trans ha')
          · show J _ _ _ _ _ _ _
            obtain ⟨m, ⟨m1, m2⟩, hm, em⟩ := pt_nn hP' ha'
            refine J_zne rfl (fun b => absurd rfl b) (fun _ => ?_)
            refine J_p 1 (ls' := [_, _, _, _]) rfl ?_
            refine J_getR rfl hS.1 hS.2.1 ?_
            refine J_p 1 (ls' := [_, _, _, _]) rfl ?_
            refine J_ia (n := k) rfl rfl (Or.inl hS.2.2.2.1.1) hS.2.2.2.1.2 (by omega) (by omega) ((hC.2.2.2.1 k _ hn).trans (cvI_n (by omega))) ?_
            refine J_p 1 (ls' := [_, _, _, _]) rfl ?_
            refine J_getR rfl hS'.1 hS'.2.1 ?_
            refine J_p 1 (ls' := [_, _, _, _]) rfl ?_
            refine J_ia (n := k) rfl rfl (Or.inl hS'.2.2.2.1.1) hS'.2.2.2.1.2 (by omega) (by omega) ((hC'.2.2.2.1 k _ hm).trans (cvI_n (by omega))) ?_
            have l1 := cv_lt n
            have l2 := cv_lt m
            refine J_ieq rfl (fun b => nxt (Or.inr ?_)) (fun b => bad (fun y => ?_))
            · have := cv_inj (by omega) (by omega) ((nI_eq (by omega) (by omega)).mp b)
              rw [en, em, this]
            · rcases y with y | y
              · exact ha y
              · rw [en, em] at y
                have := (nI_eq (by omega) (by omega)).mp y
                exact b (by rw [this])
    show J _ _ _ _ _ _ _
    refine J_zne rfl (fun _ => ?_) (fun b => absurd b (by decide))
    refine J_p 2 (ls' := [_, _, _, _]) rfl ?_
    exact loop s 0 (by omega) (fun j hj => absurd hj (Nat.not_lt_zero _))
  · show J _ _ _ _ _ _ _
    refine J_zne rfl (fun b => absurd rfl b) (fun _ => ?_)
    refine J_p 1 (ls' := [_, _, _, _]) rfl ?_
    exact J_retB rfl (by decide) (kf (fun y => by rw [hl] at y; cases y.1))
theorem c_takesAll {b b' : Nat} {p txt p' txt' : List Int32} (hS : PS M b) (hC : PC M b p txt) (hS' : PS M b') (hC' : PC M b' p' txt') (hP : WfP p) (hP' : WfP p') (h1 : 1 ≤ p.length) (h1' : 1 ≤ p'.length)
    (kt : covA p p' = true → Q (some (.int (nI 1))) M) (kf : covA p p' = false → Q (some (.int (nI 0))) M) : J E 28 0 [.ref b, .ref b', U0] [] M Q := by
  have no : ¬ covA p p' = true → Q (some (.int (nI 0))) M := fun h => kf (by
    cases e : covA p p' with
    | false => rfl
    | true => exact absurd e h)
  have loop : ∀ (d n : Nat), n + d = 5 → 1 ≤ n → (∀ m, 1 ≤ m → m < n → lgA p' m = true → (lgA p m = true ∧ ∀ k, k < m → okP p p' k)) → J E 28 2 [.ref b, .ref b', .int (nI n)] [] M Q := by
    intro d
    induction d with
    | zero =>
      intro n hn _ hacc
      obtain rfl : n = 5 := by omega
      refine J_p 2 (ls' := [_, _, _]) rfl ?_
      refine J_igt rfl (fun _ => ?_) (fun b => absurd (by decide) b)
      refine J_p 1 (ls' := [_, _, _]) rfl ?_
      exact J_retB rfl (by decide) (kt (covA_iff.mpr hacc))
    | succ d ih =>
      intro n hn h1n hacc
      have nxt : (lgA p' n = true → (lgA p n = true ∧ ∀ k, k < n → okP p p' k)) → J E 28 26 [.ref b, .ref b', .int (nI n)] [] M Q := fun ho => by
        refine J_p 2 (ls' := [_, _, _]) rfl ?_
        rw [nI_add n 1]
        refine ih (n + 1) (by omega) (by omega) (fun m m1 m2 m3 => ?_)
        rcases Nat.lt_or_ge m n with z | z
        · exact hacc m m1 z m3
        · obtain rfl : m = n := by omega
          exact ho m3
      refine J_p 2 (ls' := [_, _, _]) rfl ?_
      refine J_igt rfl (fun b => absurd b (nI_nlt (by omega) (by omega))) (fun _ => ?_)
      refine J_p 2 (ls' := [_, _, _]) rfl ?_
      refine J_call rfl rfl rfl (decide_eq_true hS'.1) rfl (c_takesSize hS' hC' h1' (s := n) (by omega) (fun hl => ?_) (fun hl => ?_))
      · show J _ _ _ _ _ _ _
        refine J_zeq rfl (fun b => absurd b (by decide)) (fun _ => ?_)
        refine J_p 3 (ls' := [_, _, _]) rfl ?_
        refine J_call rfl rfl rfl (decide_eq_true hS.1) rfl (c_takesOfSize hS hC hS' hC' hP hP' h1 (s := n) (by omega) hl (fun a1 a2 => ?_) (fun a => ?_))
        · show J _ _ _ _ _ _ _
          refine J_zne rfl (fun _ => nxt (fun _ => ⟨a1, a2⟩)) (fun b => absurd b (by decide))
        · show J _ _ _ _ _ _ _
          refine J_zne rfl (fun b => absurd rfl b) (fun _ => ?_)
          refine J_p 1 (ls' := [_, _, _]) rfl ?_
          exact J_retB rfl (by decide) (no (fun y => a (covA_iff.mp y n h1n (by omega) hl)))
      · show J _ _ _ _ _ _ _
        refine J_zeq rfl (fun _ => nxt (fun y => by rw [hl] at y; cases y)) (fun b => absurd rfl b)
  refine J_p 2 (ls' := [_, _, _]) rfl ?_
  exact loop 4 1 rfl (Nat.le_refl 1) (fun m m1 m2 => absurd m2 (by omega))
theorem cov_fit {p t : List Int32} (ht : WfT t) (h1 : 1 ≤ t.length) (h4 : t.length ≤ 4) : covA p t = fitA p t := by
  have lg : ∀ n, lgA t n = true ↔ n = t.length := fun n => by
    unfold lgA
    obtain ⟨c, hc⟩ := get_of (l := t) (i := t.length - 1) (by omega)
    obtain ⟨m, m1, m2, e⟩ := ht _ c hc
    rw [getD_of hc, if_neg (by rw [e]; exact fun y => nI_n2 (by omega) (Or.inr y)), decide_eq_true_eq]
  have : covA p t = true ↔ fitA p t = true := by
    rw [covA_iff, fitA_iff]
    constructor
    · intro h
      exact h t.length h1 (by omega) ((lg _).mpr rfl)
    · intro h n _ _ hn
      have := (lg n).mp hn
      subst this
      exact h
  rw [Bool.eq_iff_iff]
  exact this
theorem WfT.p {t : List Int32} (h : WfT t) : WfP t := fun k c hk => Or.inr (Or.inr (h k c hk))
end COMP2