/-! THE COMPONENT: queues with a message counted; letters gone by a time. -/
theorem plA_no {L : List La} {m : Int32} : ∀ (d i : Nat), plA L m d i = none → i + d ≤ L.length → ∀ (j : Nat) (l : La), i ≤ j → j < i + d → L[j]? = some l → nI (l_m l) ≠ m
  | 0, i, _, _, j, l, h1, h2, _ => absurd h2 (by omega)
  | d + 1, i, h, hd, j, l, h1, h2, hl => by
    obtain ⟨l0, hl0⟩ := get_of (l := L) (i := i) (by omega)
    unfold plA at h
    rw [hl0] at h
    simp only at h
    by_cases c : nI (l_m l0) = m
    · rw [if_pos c] at h
      cases h
    · rw [if_neg c] at h
      by_cases e : j = i
      · subst e
        rw [hl0] at hl
        cases hl
        exact c
      · exact plA_no d (i + 1) h (by omega) j l (by omega) (by omega) hl
theorem hasM_iff {L : List La} {m : Nat} : ∀ n, hasM L m n = true ↔ ∃ (i : Nat) (l : La), i < n ∧ L[i]? = some l ∧ l_m l = m
  | 0 => by
    constructor
    · intro h
      cases h
    · rintro ⟨i, _, h, _⟩
      omega
  | n + 1 => by
    have e : hasM L m (n + 1) = (hasM L m n || isM L m n) := rfl
    rw [e, Bool.or_eq_true, hasM_iff n]
    constructor
    · rintro (⟨i, l, h1, h2, h3⟩ | h)
      · exact ⟨i, l, by omega, h2, h3⟩
      · unfold isM at h
        cases hl : L[n]? with
        | none => rw [hl] at h; cases h
        | some l =>
          rw [hl] at h
          exact ⟨n, l, by omega, hl, of_decide_eq_true h⟩
    · rintro ⟨i, l, h1, h2, h3⟩
      by_cases c : i = n
      · right
        subst c
        unfold isM
        rw [h2]
        exact decide_eq_true h3
      · exact Or.inl ⟨i, l, by omega, h2, h3⟩
theorem nI_m1 {n : Nat} (h : n < 2 ^ 31) : ¬ nI n = -1 := by
  intro e
  have h1 := congrArg Int32.toInt e
  rw [nI_toInt h, show (-1 : Int32).toInt = -1 by decide] at h1
  omega
/-- letters of a queue gone by a time -/
def gbL (A : Ab) (x : Qa) (till i : Nat) : Bool := match (q_ls x)[i]? with
  | none => false
  | some l => decide (gnX (a_m A) x (a_n A) l ≤ till)
def gbQ (A : Ab) (till q : Nat) : Nat := match (a_q A)[q]? with
  | none => 0
  | some x => cnA (gbL A x till) (q_ls x).length
theorem suA_le {f : Nat → Nat} {b : Nat} : ∀ n, (∀ i, i < n → f i ≤ b) → suA f n ≤ n * b
  | 0, _ => Nat.zero_le _
  | n + 1, h => by
    have h1 := suA_le n (fun i hi => h i (by omega))
    have h2 := h n (by omega)
    show suA f n + f n ≤ _
    rw [Nat.succ_mul]
    omega
section COMP37
variable {E : Nat × Nat} {M M' : Mm} {Q : Option Value → Mm → Prop} {w t g a c q p i b m T : Nat} {o o' f f' : Nat → Nat} {F F' : Nat → Nat → Nat} {A : Ab} {x : Qa} {l : La}
theorem pl_has (hm : m < 300) (h3 : ∀ (i : Nat) (l : La), (q_ls x)[i]? = some l → l_m l < 300) : plA (q_ls x) (nI m) (q_ls x).length 0 = none ↔ hasM (q_ls x) m (q_ls x).length = false := by
  constructor
  · intro h
    cases e : hasM (q_ls x) m (q_ls x).length with
    | false => rfl
    | true =>
      obtain ⟨i, l, h1, h2, h4⟩ := (hasM_iff _).mp e
      exact absurd (by rw [h4]) (plA_no _ _ h (by omega) i l (by omega) (by omega) h2)
  · intro h
    cases e : plA (q_ls x) (nI m) (q_ls x).length 0 with
    | none => rfl
    | some p =>
      obtain ⟨_, l, h2, h4⟩ := plA_at _ _ _ e
      have h5 := h3 p l h2
      have : hasM (q_ls x) m (q_ls x).length = true := (hasM_iff _).mpr ⟨p, l, li h2, h2, (nI_eq (by omega) (by omega)).mp h4⟩
      rw [h] at this
      cases this
theorem c_countQueuesWith (hS : OS M w t g o F) (hC : OC M w t g o F A) (hm : m < 300) (h3 : ∀ (q : Nat) (x : Qa) (i : Nat) (l : La), (a_q A)[q]? = some x → (q_ls x)[i]? = some l → l_m l < 300) (K : Q (some (.int (nI (cnA (hmQ A m) (a_q A).length)))) M) : J E 99 0 [.ref w, .int (nI m), U0, U0] [] M Q := by
  have n8 := hC.2.1.2
  have loop : ∀ (d kk : Nat), kk + d = (a_q A).length → J E 99 4 [.ref w, .int (nI m), .int (nI (cnA (hmQ A m) kk)), .int (nI kk)] [] M Q := by
    intro d
    induction d with
    | zero =>
      intro kk hk
      obtain rfl : kk = (a_q A).length := by omega
      refine J_p 2 (ls' := [_, _, _, _]) rfl ?_
      refine J_gi rfl hS.1.1 hC.2.1.1 ?_
      refine J_ige rfl (fun _ => ?_) (fun b => absurd (nI_le (by omega) (by omega)) b)
      refine J_p 1 (ls' := [_, _, _, _]) rfl ?_
      exact J_ret rfl rfl rfl K
    | succ d ih =>
      intro kk hk
      obtain ⟨x, hx⟩ := get_of (l := a_q A) (i := kk) (by omega)
      have hQ := hS.qs (q := kk) (by omega)
      have hQC := hC.qc hx
      have eh : hmQ A m kk = hasM (q_ls x) m (q_ls x).length := by
        unfold hmQ
        rw [hx]
      have hp := pl_has (x := x) hm (fun i l hl => h3 kk x i l hx hl)
      refine J_p 2 (ls' := [_, _, _, _]) rfl ?_
      refine J_gi rfl hS.1.1 hC.2.1.1 ?_
      refine J_ige rfl (fun b => absurd b (nI_ge (by omega) (by omega))) (fun _ => ?_)
      refine J_p 2 (ls' := [_, _, _, _]) rfl ?_
      refine J_getR rfl hS.1.1 hS.1.2.2.1 ?_
      refine J_p 1 (ls' := [_, _, _, _]) rfl ?_
      refine J_aald (n := kk) rfl rfl (by rw [hS.2.2.1.1]; rfl) hS.2.2.1.2.1 (by omega) (by omega) (hS.2.2.1.2.2 kk (by omega)).1 ?_
      refine J_p 1 (ls' := [_, _, _, _]) rfl ?_
      refine J_call rfl rfl rfl (decide_eq_true hQ.1) rfl (c_placeOf hQ hQC ?_)
      show J _ _ _ _ _ _ _
      refine J_p 1 (ls' := [_, _, _, _]) rfl ?_
      have B0 : ∀ (e : hmQ A m kk = true), J E 99 27 [.ref w, .int (nI m), .int (nI (cnA (hmQ A m) kk)), .int (nI kk)] [.int (nI (cnA (hmQ A m) kk))] M Q := fun e => by
        refine J_p 2 (ls' := [_, _, _, _]) rfl ?_
        refine J_call rfl rfl rfl rfl rfl (c_asBit1 ?_)
        show J _ _ _ _ _ _ _
        refine J_p 1 (ls' := [_, _, _, _]) rfl ?_
        refine J_t0 (nI_add _ 1) ?_
        refine J_p 3 (ls' := [_, _, _, _]) rfl ?_
        rw [nI_add kk 1, ← cnA_t e]
        exact ih (kk + 1) (by omega)
      have B1 : ∀ (e : ¬ hmQ A m kk = true), J E 99 31 [.ref w, .int (nI m), .int (nI (cnA (hmQ A m) kk)), .int (nI kk)] [.int (nI (cnA (hmQ A m) kk))] M Q := fun e => by
        refine J_p 1 (ls' := [_, _, _, _]) rfl ?_
        refine J_call rfl rfl rfl rfl rfl (c_asBit0 ?_)
        show J _ _ _ _ _ _ _
        refine J_p 1 (ls' := [_, _, _, _]) rfl ?_
        refine J_t0 (nI_add _ 0) ?_
        refine J_p 3 (ls' := [_, _, _, _]) rfl ?_
        rw [nI_add kk 1, Nat.add_zero, ← cnA_f e]
        exact ih (kk + 1) (by omega)
      cases e : plA (q_ls x) (nI m) (q_ls x).length 0 with
      | none =>
        refine J_ieq rfl (fun _ => B1 (by rw [eh, hp.mp e]; decide)) (fun b => absurd rfl b)
      | some p0 =>
        have hlt : p0 < 20 := by
          obtain ⟨_, l, h2, _⟩ := plA_at _ _ _ e
          have := li h2
          have := hQC.n20
          omega
        refine J_ieq rfl (fun b => absurd (show nI p0 = -1 from b) (nI_m1 (by omega))) (fun _ => B0 ?_)
        rw [eh]
        cases e2 : hasM (q_ls x) m (q_ls x).length with
        | true => rfl
        | false => rw [hp.mpr e2] at e; cases e
  refine J_p 4 (ls' := [_, _, _, _]) rfl ?_
  exact loop (a_q A).length 0 (by omega)
theorem c_countGoneBy (hE : STa E M) (hS : OS M w t g o F) (hC : OC M w t g o F A) (hW : Wf T A) {till : Nat} (ht : till < 2 ^ 31) (K : Q (some (.int (nI (suA (gbQ A till) (a_q A).length)))) M) : J E 101 0 [.ref w, .int (nI till), U0, U0, U0] [] M Q := by
  have n8 := hC.2.1.2
  have nv := nv31
  have loop : ∀ (d kk : Nat) (v4 : Value), kk + d = (a_q A).length → J E 101 4 [.ref w, .int (nI till), .int (nI (suA (gbQ A till) kk)), .int (nI kk), v4] [] M Q := by
    intro d
    induction d with
    | zero =>
      intro kk v4 hk
      obtain rfl : kk = (a_q A).length := by omega
      refine J_p 2 (ls' := [_, _, _, _, _]) rfl ?_
      refine J_gi rfl hS.1.1 hC.2.1.1 ?_
      refine J_ige rfl (fun _ => ?_) (fun b => absurd (nI_le (by omega) (by omega)) b)
      refine J_p 1 (ls' := [_, _, _, _, _]) rfl ?_
      exact J_ret rfl rfl rfl K
    | succ d ih =>
      intro kk v4 hk
      obtain ⟨x, hx⟩ := get_of (l := a_q A) (i := kk) (by omega)
      have hQ := hS.qs (q := kk) (by omega)
      have hQC := hC.qc hx
      have n20 := hQC.n20
      have eg : gbQ A till kk = cnA (gbL A x till) (q_ls x).length := by
        unfold gbQ
        rw [hx]
      have es : suA (gbQ A till) (kk + 1) = suA (gbQ A till) kk + cnA (gbL A x till) (q_ls x).length := by
        rw [← eg]
        rfl
      obtain ⟨_, _, ⟨tr1, tr5⟩, _, ag9, _, _, _, wl, _⟩ := hW.2.1 kk x hx
      have hT := hW.1
      have inner : ∀ (e j : Nat), j + e = (q_ls x).length → J E 101 15 [.ref w, .int (nI till), .int (nI (suA (gbQ A till) kk + cnA (gbL A x till) j)), .int (nI kk), .int (nI j)] [] M Q := by
        intro e
        induction e with
        | zero =>
          intro j hj
          obtain rfl : j = (q_ls x).length := by omega
          refine J_p 2 (ls' := [_, _, _, _, _]) rfl ?_
          refine J_getR rfl hS.1.1 hS.1.2.2.1 ?_
          refine J_p 1 (ls' := [_, _, _, _, _]) rfl ?_
          refine J_aald (n := kk) rfl rfl (by rw [hS.2.2.1.1]; rfl) hS.2.2.1.2.1 (by omega) (by omega) (hS.2.2.1.2.2 kk (by omega)).1 ?_
          refine J_gi rfl hQ.1 hQC.n ?_
          refine J_ige rfl (fun _ => ?_) (fun b => absurd (nI_le (by omega) (by omega)) b)
          refine J_p 2 (ls' := [_, _, _, _, _]) rfl ?_
          rw [nI_add kk 1, ← es]
          exact ih (kk + 1) _ (by omega)
        | succ e ih2 =>
          intro j hj
          obtain ⟨l, hl⟩ := get_of (l := q_ls x) (i := j) (by omega)
          obtain ⟨l1, l2, l3, l4, _, _, l7⟩ := wl j l hl
          have pb : pbA (a_m A) l ≤ a_n A := by
            obtain ⟨y, hy⟩ := get_of (l := a_m A) (i := l_m l) l1
            have := (hW.2.2.2.1 (l_m l) y hy).2.2.2.2
            unfold pbA
            rw [getD_of hy]
            exact this
          have eb : gbL A x till j = decide (gnX (a_m A) x (a_n A) l ≤ till) := by
            unfold gbL
            rw [hl]
          have hg : gnX (a_m A) x (a_n A) l ≤ NV := gnT_lt (by omega) (by omega) (by omega) ag9
          refine J_p 2 (ls' := [_, _, _, _, _]) rfl ?_
          refine J_getR rfl hS.1.1 hS.1.2.2.1 ?_
          refine J_p 1 (ls' := [_, _, _, _, _]) rfl ?_
          refine J_aald (n := kk) rfl rfl (by rw [hS.2.2.1.1]; rfl) hS.2.2.1.2.1 (by omega) (by omega) (hS.2.2.1.2.2 kk (by omega)).1 ?_
          refine J_gi rfl hQ.1 hQC.n ?_
          refine J_ige rfl (fun b => absurd b (nI_ge (by omega) (by omega))) (fun _ => ?_)
          refine J_p 2 (ls' := [_, _, _, _, _]) rfl ?_
          refine J_getR rfl hS.1.1 hS.1.2.2.1 ?_
          refine J_p 1 (ls' := [_, _, _, _, _]) rfl ?_
          refine J_aald (n := kk) rfl rfl (by rw [hS.2.2.1.1]; rfl) hS.2.2.1.2.1 (by omega) (by omega) (hS.2.2.1.2.2 kk (by omega)).1 ?_
          refine J_p 1 (ls' := [_, _, _, _, _]) rfl ?_
          refine J_getR rfl hS.1.1 hS.1.2.2.1 ?_
          refine J_p 1 (ls' := [_, _, _, _, _]) rfl ?_
          refine J_aald (n := kk) rfl rfl (by rw [hS.2.2.1.1]; rfl) hS.2.2.1.2.1 (by omega) (by omega) (hS.2.2.1.2.2 kk (by omega)).1 ?_
          refine J_getR rfl hQ.1 hQ.2.2.2.1 ?_
          refine J_p 1 (ls' := [_, _, _, _, _]) rfl ?_
          refine J_aald (n := j) rfl rfl (by rw [hQ.2.2.2.2.2.1]; rfl) hQ.2.2.2.2.2.2.1 (by omega) (by omega) (hQ.el (by omega)) ?_
          refine J_p 1 (ls' := [_, _, _, _, _]) rfl ?_
          refine J_gi rfl hS.1.1 hC.2.2.2.2.1 ?_
          refine J_call rfl rfl rfl (decide_eq_true hQ.1) rfl (c_goneTime hE hQ hQC (hQ.t3 (by omega)) (hQC.l hl) l2 (by omega) tr5 ag9 (by omega) (by omega) (by omega) (fun _ => tr1) ?_)
          show J _ _ _ _ _ _ _
          refine J_p 1 (ls' := [_, _, _, _, _]) rfl ?_
          refine J_igt rfl (fun z => ?_) (fun z => ?_)
          · have c : ¬ gbL A x till j = true := fun y => by
              rw [eb] at y
              have y2 := of_decide_eq_true y
              exact nI_nlt (b := gnX (a_m A) x (a_n A) l) (a := till) y2 (by omega) z
            refine J_p 1 (ls' := [_, _, _, _, _]) rfl ?_
            refine J_call rfl rfl rfl rfl rfl (c_asBit0 ?_)
            show J _ _ _ _ _ _ _
            refine J_p 1 (ls' := [_, _, _, _, _]) rfl ?_
            refine J_t0 (nI_add _ 0) ?_
            refine J_p 3 (ls' := [_, _, _, _, _]) rfl ?_
            rw [nI_add j 1, Nat.add_zero, ← cnA_f c]
            exact ih2 (j + 1) (by omega)
          · have c : gbL A x till j = true := by
              rw [eb]
              refine decide_eq_true ?_
              by_cases y : gnX (a_m A) x (a_n A) l ≤ till
              · exact y
              · exact absurd (nI_lt (by omega) (by omega)) z
            refine J_p 2 (ls' := [_, _, _, _, _]) rfl ?_
            refine J_call rfl rfl rfl rfl rfl (c_asBit1 ?_)
            show J _ _ _ _ _ _ _
            refine J_p 1 (ls' := [_, _, _, _, _]) rfl ?_
            refine J_t0 (nI_add _ 1) ?_
            refine J_p 3 (ls' := [_, _, _, _, _]) rfl ?_
            rw [nI_add j 1, Nat.add_assoc, ← cnA_t c]
            exact ih2 (j + 1) (by omega)
      refine J_p 2 (ls' := [_, _, _, _, _]) rfl ?_
      refine J_gi rfl hS.1.1 hC.2.1.1 ?_
      refine J_ige rfl (fun b => absurd b (nI_ge (by omega) (by omega))) (fun _ => ?_)
      refine J_p 2 (ls' := [_, _, _, _, .int (nI 0)]) rfl ?_
      exact inner (q_ls x).length 0 (by omega)
  refine J_p 4 (ls' := [_, _, _, _, _]) rfl ?_
  exact loop (a_q A).length 0 _ (by omega)
end COMP37