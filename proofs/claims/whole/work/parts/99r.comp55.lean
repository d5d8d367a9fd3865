/-! DOOMED AND UNTIL: told without trying. -/
/-- times lie ahead -/
def Ah (A : Ab) : Prop := ∀ (q : Nat) (x : Qa) (l : La), (a_q A)[q]? = some x → l ∈ q_ls x → l_s l ≠ 0 → a_n A < l_t l
section ABS21
variable {A : Ab} {p q i T : Nat} {x : Qa} {l : La} {ms : List Ma}
theorem Wf.okl (hW : Wf T A) (ha : Ah A) (hx : (a_q A)[q]? = some x) (hl : l ∈ q_ls x) : okl (a_m A) (q_tr x) (q_ag x) (a_n A) l := by
  obtain ⟨i, hi⟩ := List.getElem?_of_mem hl
  obtain ⟨_, _, ⟨_, tr5⟩, _, ag9, _, _, _, wl, _⟩ := hW.2.1 q x hx
  obtain ⟨l1, l2, l3, l4, _⟩ := wl i l hi
  have pb : pbA (a_m A) l ≤ a_n A := by
    obtain ⟨y, hy⟩ := get_of (l := a_m A) (i := l_m l) l1
    have := (hW.2.2.2.1 (l_m l) y hy).2.2.2.2
    unfold pbA
    rw [getD_of hy]
    exact this
  have := hW.1
  exact ⟨l2, ha q x l hx hl, l4, pb, l3, tr5, ag9, by omega⟩
theorem wf_ageQ : ∀ (f : Nat) (A : Ab) (q i : Nat), Wf T A → Wf T (ageQ f A q i).1
  | 0, _, _, _, h => h
  | f + 1, A, q, i, h => by
    cases hx : (a_q A)[q]? with
    | none =>
      have e : ageQ (f + 1) A q i = (A, 0) := by unfold ageQ; rw [hx]
      rw [e]
      exact h
    | some x =>
      cases hl : (q_ls x)[i]? with
      | none =>
        have e : ageQ (f + 1) A q i = (A, 0) := by unfold ageQ; rw [hx]; simp only; rw [hl]
        rw [e]
        exact h
      | some l =>
        rw [ageQ_S hx hl]
        split
        · exact wf_ageQ f _ _ _ (h.age hx hl)
        · exact wf_ageQ f _ _ _ (h.age hx hl)
theorem wf_tickQ : ∀ (d : Nat) (A : Ab) (q : Nat), Wf T A → Wf T (tickQ d A q).1
  | 0, _, _, h => h
  | d + 1, A, q, h => wf_tickQ d _ _ (wf_ageQ _ _ _ _ h)
theorem Wf.tk (h : Wf T A) (hT : T + 1 < 2 ^ 20) : Wf (T + 1) (tickA A).1 := wf_tickQ _ _ _ (h.tick (t := a_n A + 1) (by have := h.1; omega) hT (by omega))
theorem Ah.tk (ha : Ah A) (hW : Wf T A) : Ah (tickA A).1 := fun q x' l' hx' hl' hs => by
  have hlt := li hx'
  rw [tick_q] at hlt
  obtain ⟨x, hx⟩ := get_of hlt
  obtain ⟨x2, g1, g2, g3, g4⟩ := tick_fm hx
  rw [hx'] at g1
  cases g1
  rw [g4] at hl'
  obtain ⟨l, hl, hst⟩ := List.mem_filterMap.mp hl'
  rw [tick_n]
  exact (stp_some rfl (hW.okl ha hx hl) hst).2.2.2.2 hs
theorem fm_cnt {tr ag t : Nat} (ht : a_n A + 1 ≤ t) : ∀ L : List La, (∀ l, l ∈ L → okl (a_m A) tr ag (a_n A) l) → (L.filterMap (stp (nowA A) tr ag)).countP (fun l => decide (t < gnT tr ag (pbA (a_m A) l) (a_n A + 1) l)) = L.countP (fun l => decide (t < gnT tr ag (pbA (a_m A) l) (a_n A) l))
  | [], _ => rfl
  | l :: L, h => by
    have ih := fm_cnt ht L (fun y hy => h y (List.mem_cons_of_mem _ hy))
    have hk := h l (List.mem_cons_self ..)
    rw [List.filterMap_cons, List.countP_cons]
    cases hs : stp (nowA A) tr ag l with
    | none =>
      have e := stp_none rfl hk hs
      have hno : ¬ t < gnT tr ag (pbA (a_m A) l) (a_n A) l := by omega
      simp only [decide_eq_false hno]
      exact ih
    | some l' =>
      have e := (stp_some rfl hk hs).1
      simp only [List.countP_cons, e]
      rw [ih]
theorem pass_len : ∀ (n : Nat) (A : Ab) (T : Nat) (x : Qa), Wf T A → T + n < 2 ^ 20 → Ah A → (a_q A)[p]? = some x → ∃ x', (a_q (passA n A).1)[p]? = some x' ∧ (q_ls x').length = (q_ls x).countP (fun l => decide (a_n A + n < gnX (a_m A) x (a_n A) l))
  | 0, A, T, x, hW, _, ha, hx => ⟨x, hx, by
    refine (List.countP_eq_length.mpr (fun l hl => ?_)).symm
    exact decide_eq_true (gn_now (hW.okl ha hx hl))⟩
  | n + 1, A, T, x, hW, hT, ha, hx => by
    obtain ⟨x1, g1, g2, g3, g4⟩ := tick_fm hx
    obtain ⟨x', h1, h2⟩ := pass_len n (tickA A).1 (T + 1) x1 (hW.tk (by omega)) (by omega) (ha.tk hW) g1
    refine ⟨x', h1, h2.trans ?_⟩
    rw [g4, tick_n, tickA_m]
    have e := fm_cnt (A := A) (tr := q_tr x) (ag := q_ag x) (t := a_n A + (n + 1)) (by omega) (q_ls x) (fun l hl => hW.okl ha hx hl)
    have e2 : a_n A + 1 + n = a_n A + (n + 1) := by omega
    unfold gnX
    rw [g2, g3, e2]
    exact e
theorem lnA_pass : ∀ (n : Nat) (A : Ab), lnA (passA n A).1 + (passA n A).2 = lnA A
  | 0, _ => rfl
  | n + 1, A => by
    have h1 := lnA_pass n (tickA A).1
    have h2 : lnA (tickA A).1 + (tickA A).2 = lnA A := lnA_tickQ (a_q A).length (nowA A) 0
    show lnA (passA n (tickA A).1).1 + ((tickA A).2 + (passA n (tickA A).1).2) = lnA A
    omega
theorem pass_q : ∀ (n : Nat) (A : Ab), (a_q (passA n A).1).length = (a_q A).length
  | 0, _ => rfl
  | n + 1, A => (pass_q n _).trans (tick_q A)
theorem cn_cp {P : La → Bool} (L : List La) : ∀ n, n ≤ L.length → cnA (fun i => match L[i]? with
    | none => false
    | some l => P l) n + (L.take n).countP (fun l => !P l) = n
  | 0, _ => rfl
  | n + 1, h => by
    obtain ⟨l, hl⟩ := get_of (l := L) (i := n) (by omega)
    have ih := cn_cp (P := P) L n (by omega)
    rw [List.take_add_one, hl, List.countP_append]
    show (cnA _ n + (if (match L[n]? with
      | none => false
      | some l => P l) = true then 1 else 0)) + (_ + List.countP (fun l => !P l) [l]) = n + 1
    rw [hl]
    show (cnA _ n + (if P l = true then 1 else 0)) + (_ + List.countP (fun l => !P l) [l]) = n + 1
    cases hp : P l with
    | true =>
      have e : List.countP (fun l => !P l) [l] = 0 := by
        rw [List.countP_cons, hp]
        rfl
      rw [e, if_pos rfl]
      omega
    | false =>
      have e : List.countP (fun l => !P l) [l] = 1 := by
        rw [List.countP_cons, hp]
        rfl
      rw [e, if_neg (by decide)]
      omega
theorem doomed_eq {n : Nat} (hW : Wf T A) (hT : T + n < 2 ^ 20) (ha : Ah A) : (passA n A).2 = suA (gbQ A (a_n A + n)) (a_q A).length := by
  have h1 := lnA_pass n A
  have e1 : lnA A = suA (lenQ A) (a_q A).length := by rw [← lnS_A, ln_len]
  have e2 : lnA (passA n A).1 = suA (lenQ (passA n A).1) (a_q A).length := by rw [← lnS_A, ln_len, pass_q]
  have e3 : suA (fun q => gbQ A (a_n A + n) q + lenQ (passA n A).1 q) (a_q A).length = suA (lenQ A) (a_q A).length := suA_ext _ (fun q hq => by
    obtain ⟨x, hx⟩ := get_of hq
    obtain ⟨x', g1, g2⟩ := pass_len n A T x hW hT ha hx
    have u1 : gbQ A (a_n A + n) q = cnA (gbL A x (a_n A + n)) (q_ls x).length := by unfold gbQ; rw [hx]
    have u2 : lenQ (passA n A).1 q = (q_ls x').length := by unfold lenQ; rw [g1]
    have u3 : lenQ A q = (q_ls x).length := by unfold lenQ; rw [hx]
    have u4 := cn_cp (P := fun l => decide (gnX (a_m A) x (a_n A) l ≤ a_n A + n)) (q_ls x) (q_ls x).length (Nat.le_refl _)
    rw [List.take_length] at u4
    have u5 : (q_ls x).countP (fun l => !decide (gnX (a_m A) x (a_n A) l ≤ a_n A + n)) = (q_ls x).countP (fun l => decide (a_n A + n < gnX (a_m A) x (a_n A) l)) := by
      refine congrFun (congrArg List.countP (funext fun l => ?_)) _
      by_cases c : gnX (a_m A) x (a_n A) l ≤ a_n A + n
      · rw [decide_eq_true c, decide_eq_false (by omega)]
        rfl
      · rw [decide_eq_false c, decide_eq_true (by omega)]
        rfl
    rw [u1, u2, u3, g2, ← u5]
    exact u4)
  rw [suA_add] at e3
  omega
/-! until -/
/-- there is a next letter at time t -/
def NxP (A : Ab) (x : Qa) (t : Nat) : Prop := ∃ (P : List La) (l : La) (R : List La), q_ls x = P ++ l :: R ∧ rdT (q_tr x) (a_n A) l ≤ t ∧ t < gnX (a_m A) x (a_n A) l ∧ ∀ y, y ∈ P → kyA (a_m A) y = kyA (a_m A) l → gnX (a_m A) x (a_n A) y ≤ t
theorem sp_of : ∀ (L : List La) (i : Nat) (l : La), L[i]? = some l → ∃ P R, L = P ++ l :: R ∧ P.length = i
  | [], _, _, h => by cases h
  | y :: L, 0, l, h => by
    cases h
    exact ⟨[], L, rfl, rfl⟩
  | y :: L, i + 1, l, h => by
    obtain ⟨P, R, h1, h2⟩ := sp_of L i l h
    exact ⟨y :: P, R, by rw [h1]; rfl, by show P.length + 1 = _; rw [h2]⟩
theorem sp_get {P R : List La} : (P ++ l :: R)[P.length]? = some l := by
  rw [List.getElem?_append_right (Nat.le_refl _), Nat.sub_self]
  rfl
theorem sp_pre {P R : List La} {k : Nat} (h : k < P.length) : (P ++ l :: R)[k]? = P[k]? := List.getElem?_append_left h
theorem nxA_no {L : List La} : ∀ n, nxA ms L n = none → ∀ i, i < n → mayA ms L i = false
  | 0, _, i, h => absurd h (by omega)
  | n + 1, h, i, hi => by
    unfold nxA at h
    by_cases c : mayA ms L n = true
    · rw [if_pos c] at h
      split at h
      · cases h
      · split at h <;> cases h
    · rw [if_neg c] at h
      by_cases e : i = n
      · subst e
        exact Bool.not_eq_true _ ▸ c
      · exact nxA_no n h i (by omega)
theorem rd_now {tr ag now : Nat} (hk : okl ms tr ag now l) : rdT tr now l ≤ now ↔ l_s l = 0 := by
  obtain ⟨k1, k2, k3, k4, k5, k6, k7, k8⟩ := hk
  have nv := nv21
  unfold rdT
  by_cases s0 : l_s l = 0
  · rw [if_pos s0]
    exact ⟨fun _ => s0, fun _ => Nat.le_refl _⟩
  · have k2' := k2 s0
    rw [if_neg s0]
    constructor
    · intro h
      exfalso
      revert h
      repeat' split
      all_goals omega
    · intro h
      exact absurd h s0
theorem rd_ge {tr ag now : Nat} (hk : okl ms tr ag now l) : now ≤ rdT tr now l := by
  obtain ⟨k1, k2, k3, k4, k5, k6, k7, k8⟩ := hk
  have nv := nv21
  unfold rdT
  by_cases s0 : l_s l = 0
  · rw [if_pos s0]
    exact Nat.le_refl _
  · have k2' := k2 s0
    rw [if_neg s0]
    repeat' split
    all_goals omega
theorem nx_now (hW : Wf T A) (ha : Ah A) (hx : (a_q A)[q]? = some x) : nxA (a_m A) (q_ls x) (q_ls x).length = none ↔ ¬ NxP A x (a_n A) := by
  constructor
  · rintro h ⟨P, l, R, h1, h2, h3, h4⟩
    have hl : (q_ls x)[P.length]? = some l := by rw [h1]; exact sp_get
    have hm : l ∈ q_ls x := List.mem_of_getElem? hl
    have h0 := nxA_no _ h P.length (li hl)
    have : mayA (a_m A) (q_ls x) P.length = true := (mayA_iff hl).mpr ⟨(rd_now (hW.okl ha hx hm)).mp h2, fun k y hk hy e => by
      have hy2 : P[k]? = some y := by rw [← sp_pre (l := l) (R := R) hk, ← h1]; exact hy
      have h5 := h4 y (List.mem_of_getElem? hy2) e
      have h6 : a_n A < gnX (a_m A) x (a_n A) y := gn_now (hW.okl ha hx (List.mem_of_getElem? hy))
      omega⟩
    rw [h0] at this
    cases this
  · intro h
    cases hn : nxA (a_m A) (q_ls x) (q_ls x).length with
    | none => rfl
    | some b =>
      obtain ⟨b1, b2⟩ := nxA_lt _ _ _ _ hn
      obtain ⟨l, hl⟩ := get_of b1
      obtain ⟨s0, hky⟩ := (mayA_iff hl).mp b2
      obtain ⟨P, R, e1, e2⟩ := sp_of _ _ _ hl
      have hm : l ∈ q_ls x := List.mem_of_getElem? hl
      refine absurd ⟨P, l, R, e1, (rd_now (hW.okl ha hx hm)).mpr s0, gn_now (hW.okl ha hx hm), fun y hy e => ?_⟩ h
      obtain ⟨k, hk⟩ := List.getElem?_of_mem hy
      have hkl := li hk
      exact absurd e (hky k y (by omega) (by rw [e1, sp_pre hkl]; exact hk))
theorem fm_split {f : La → Option La} : ∀ (L P' : List La) (l' : La) (R' : List La), L.filterMap f = P' ++ l' :: R' → ∃ P l R, L = P ++ l :: R ∧ f l = some l' ∧ P.filterMap f = P'
  | [], P', l', R', h => by
    cases P' <;> cases h
  | y :: L, P', l', R', h => by
    rw [List.filterMap_cons] at h
    cases hf : f y with
    | none =>
      rw [hf] at h
      obtain ⟨P, l, R, h1, h2, h3⟩ := fm_split L P' l' R' h
      exact ⟨y :: P, l, R, by rw [h1]; rfl, h2, by rw [List.filterMap_cons, hf]; exact h3⟩
    | some y' =>
      rw [hf] at h
      cases P' with
      | nil =>
        have h' : y' :: L.filterMap f = l' :: R' := h
        injection h' with h1 h2
        exact ⟨[], y, L, rfl, by rw [hf, h1], rfl⟩
      | cons z P' =>
        have h' : y' :: L.filterMap f = z :: (P' ++ l' :: R') := h
        injection h' with h1 h2
        obtain ⟨P, l, R, g1, g2, g3⟩ := fm_split L P' l' R' h2
        exact ⟨y :: P, l, R, by rw [g1]; rfl, g2, by rw [List.filterMap_cons, hf, g3, h1]⟩
theorem tick_nx {t : Nat} {x' : Qa} (hW : Wf T A) (ha : Ah A) (hx : (a_q A)[q]? = some x) (hx' : (a_q (tickA A).1)[q]? = some x') (ht : a_n A + 1 ≤ t) : NxP (tickA A).1 x' t ↔ NxP A x t := by
  obtain ⟨x2, g1, g2, g3, g4⟩ := tick_fm hx
  rw [hx'] at g1
  cases g1
  have key : ∀ l l', l_m l' = l_m l → kyA (a_m A) l' = kyA (a_m A) l := fun l l' e => by unfold kyA; rw [e]
  unfold NxP gnX
  rw [tick_n, tickA_m, g2, g3, g4]
  constructor
  · rintro ⟨P', l', R', h1, h2, h3, h4⟩
    obtain ⟨P, l, R, e1, e2, e3⟩ := fm_split _ _ _ _ h1
    have hm : l ∈ q_ls x := by rw [e1]; exact List.mem_append_right _ (List.mem_cons_self ..)
    obtain ⟨s1, s2, s3, s4, _⟩ := stp_some rfl (hW.okl ha hx hm) e2
    refine ⟨P, l, R, e1, by omega, by omega, fun y hy ey => ?_⟩
    have hym : y ∈ q_ls x := by rw [e1]; exact List.mem_append_left _ hy
    cases hs : stp (nowA A) (q_tr x) (q_ag x) y with
    | none =>
      have := stp_none rfl (hW.okl ha hx hym) hs
      omega
    | some y' =>
      obtain ⟨u1, u2, u3, u4, _⟩ := stp_some rfl (hW.okl ha hx hym) hs
      have hy' : y' ∈ P' := by rw [← e3]; exact List.mem_filterMap.mpr ⟨y, hy, hs⟩
      have := h4 y' hy' (by rw [key y y' u4, key l l' s4]; exact ey)
      omega
  · rintro ⟨P, l, R, h1, h2, h3, h4⟩
    have hm : l ∈ q_ls x := by rw [h1]; exact List.mem_append_right _ (List.mem_cons_self ..)
    cases hs : stp (nowA A) (q_tr x) (q_ag x) l with
    | none =>
      have := stp_none rfl (hW.okl ha hx hm) hs
      omega
    | some l' =>
      obtain ⟨s1, s2, s3, s4, _⟩ := stp_some rfl (hW.okl ha hx hm) hs
      refine ⟨P.filterMap (stp (nowA A) (q_tr x) (q_ag x)), l', R.filterMap (stp (nowA A) (q_tr x) (q_ag x)), ?_, by omega, by omega, fun y' hy' ey => ?_⟩
      · rw [h1, List.filterMap_append, List.filterMap_cons, hs]
      · obtain ⟨y, hy, hsy⟩ := List.mem_filterMap.mp hy'
        have hym : y ∈ q_ls x := by rw [h1]; exact List.mem_append_left _ hy
        obtain ⟨u1, u2, u3, u4, _⟩ := stp_some rfl (hW.okl ha hx hym) hsy
        have := h4 y hy (by rw [← key y y' u4, ← key l l' s4]; exact ey)
        omega
theorem un_S (d : Nat) (A : Ab) : unA q (d + 1) A = match nxQ A q with
    | some _ => some 0
    | none => match unA q d (tickA A).1 with
      | none => none
      | some n => some (n + 1) := rfl
theorem un_eq : ∀ (d : Nat) (A : Ab) (T : Nat) (x : Qa), Wf T A → T + d < 2 ^ 20 → Ah A → (a_q A)[q]? = some x → (unA q d A = none → ∀ j, j < d → ¬ NxP A x (a_n A + j)) ∧ ∀ k, unA q d A = some k → k < d ∧ NxP A x (a_n A + k) ∧ ∀ j, j < k → ¬ NxP A x (a_n A + j)
  | 0, A, T, x, _, _, _, _ => ⟨fun _ j hj => absurd hj (by omega), fun k h => by cases h⟩
  | d + 1, A, T, x, hW, hT, ha, hx => by
    have hn := nx_now hW ha hx
    have eq0 : nxQ A q = nxA (a_m A) (q_ls x) (q_ls x).length := by unfold nxQ; rw [hx]
    rw [un_S, eq0]
    cases h0 : nxA (a_m A) (q_ls x) (q_ls x).length with
    | some b =>
      have h1 : NxP A x (a_n A) := by
        by_cases c : NxP A x (a_n A)
        · exact c
        · rw [hn.mpr c] at h0
          cases h0
      refine ⟨fun h => (by cases h), fun k h => ?_⟩
      cases h
      exact ⟨by omega, h1, fun j hj => absurd hj (by omega)⟩
    | none =>
      have hno := hn.mp h0
      obtain ⟨x1, g1, _⟩ := tick_fm hx
      obtain ⟨i1, i2⟩ := un_eq d (tickA A).1 (T + 1) x1 (hW.tk (by omega)) (by omega) (ha.tk hW) g1
      rw [tick_n] at i1 i2
      have tr : ∀ j, NxP (tickA A).1 x1 (a_n A + 1 + j) ↔ NxP A x (a_n A + (j + 1)) := fun j => by
        rw [tick_nx hW ha hx g1 (by omega), show a_n A + 1 + j = a_n A + (j + 1) by omega]
      cases hu : unA q d (tickA A).1 with
      | none =>
        refine ⟨fun _ j hj => ?_, fun k h => (by cases h)⟩
        cases j with
        | zero => exact hno
        | succ j => exact fun h => i1 hu j (by omega) ((tr j).mpr h)
      | some n =>
        refine ⟨fun h => (by cases h), fun k h => ?_⟩
        cases h
        obtain ⟨u1, u2, u3⟩ := i2 n hu
        refine ⟨by omega, (tr n).mp u2, fun j hj => ?_⟩
        cases j with
        | zero => exact hno
        | succ j => exact fun h => u3 j (by omega) ((tr j).mpr h)
theorem op_le {now t : Nat} : ∀ n, opX ms x now l n ≤ t ↔ rdT (q_tr x) now l ≤ t ∧ ∀ (k : Nat) (y : La), k < n → (q_ls x)[k]? = some y → kyA ms y = kyA ms l → gnX ms x now y ≤ t
  | 0 => ⟨fun h => ⟨h, fun k y hk => absurd hk (by omega)⟩, fun h => h.1⟩
  | n + 1 => by
    have ih := op_le (now := now) (t := t) n
    unfold opX
    cases hy : (q_ls x)[n]? with
    | none =>
      show opX ms x now l n ≤ t ↔ _
      rw [ih]
      refine ⟨fun h => ⟨h.1, fun k y hk hky => ?_⟩, fun h => ⟨h.1, fun k y hk => h.2 k y (by omega)⟩⟩
      have : k ≠ n := fun e => by rw [e, hy] at hky; cases hky
      exact h.2 k y (by omega) hky
    | some z =>
      show (if kyA ms z = kyA ms l then max (opX ms x now l n) (gnX ms x now z) else opX ms x now l n) ≤ t ↔ _
      by_cases c : kyA ms z = kyA ms l
      · rw [if_pos c, Nat.max_le, ih]
        refine ⟨fun h => ⟨h.1.1, fun k y hk hky e => ?_⟩, fun h => ⟨⟨h.1, fun k y hk => h.2 k y (by omega)⟩, h.2 n z (by omega) hy c⟩⟩
        by_cases ck : k = n
        · rw [ck, hy] at hky
          cases hky
          exact h.2
        · exact h.1.2 k y (by omega) hky e
      · rw [if_neg c, ih]
        refine ⟨fun h => ⟨h.1, fun k y hk hky e => ?_⟩, fun h => ⟨h.1, fun k y hk => h.2 k y (by omega)⟩⟩
        by_cases ck : k = n
        · rw [ck, hy] at hky
          cases hky
          exact absurd e c
        · exact h.2 k y (by omega) hky e
theorem nxT_1 {now : Nat} : ∀ (n i : Nat) (l : La), i < n → (q_ls x)[i]? = some l → opX ms x now l i < gnX ms x now l → nxT ms x now n ≤ opX ms x now l i
  | 0, i, l, h, _, _ => absurd h (by omega)
  | n + 1, i, l, h, hl, ho => by
    unfold nxT
    by_cases c : i = n
    · subst c
      rw [hl]
      show (if opX ms x now l i < gnX ms x now l then min (nxT ms x now i) (opX ms x now l i) else nxT ms x now i) ≤ _
      rw [if_pos ho]
      exact Nat.min_le_right _ _
    · have ih := nxT_1 (now := now) n i l (by omega) hl ho
      split
      · exact ih
      · split
        · exact Nat.le_trans (Nat.min_le_left _ _) ih
        · exact ih
theorem nxT_2 {now : Nat} : ∀ n, nxT ms x now n = NV ∨ ∃ (i : Nat) (l : La), i < n ∧ (q_ls x)[i]? = some l ∧ opX ms x now l i < gnX ms x now l ∧ nxT ms x now n = opX ms x now l i
  | 0 => Or.inl rfl
  | n + 1 => by
    have ih := nxT_2 (now := now) n
    have up : (nxT ms x now n = NV ∨ ∃ (i : Nat) (l : La), i < n ∧ (q_ls x)[i]? = some l ∧ opX ms x now l i < gnX ms x now l ∧ nxT ms x now n = opX ms x now l i) → (nxT ms x now n = NV ∨ ∃ (i : Nat) (l : La), i < n + 1 ∧ (q_ls x)[i]? = some l ∧ opX ms x now l i < gnX ms x now l ∧ nxT ms x now n = opX ms x now l i) := fun h => by
      rcases h with h | ⟨i, l, h1, h2, h3, h4⟩
      · exact Or.inl h
      · exact Or.inr ⟨i, l, by omega, h2, h3, h4⟩
    unfold nxT
    cases hl : (q_ls x)[n]? with
    | none => exact up ih
    | some l =>
      show (if opX ms x now l n < gnX ms x now l then min (nxT ms x now n) (opX ms x now l n) else nxT ms x now n) = NV ∨ ∃ (i : Nat) (l' : La), i < n + 1 ∧ (q_ls x)[i]? = some l' ∧ opX ms x now l' i < gnX ms x now l' ∧ (if opX ms x now l n < gnX ms x now l then min (nxT ms x now n) (opX ms x now l n) else nxT ms x now n) = opX ms x now l' i
      by_cases c : opX ms x now l n < gnX ms x now l
      · rw [if_pos c]
        by_cases c2 : nxT ms x now n ≤ opX ms x now l n
        · rw [Nat.min_eq_left c2]
          exact up ih
        · rw [Nat.min_eq_right (by omega)]
          exact Or.inr ⟨n, l, by omega, hl, c, rfl⟩
      · rw [if_neg c]
        exact up ih
theorem nxT_le {t : Nat} (h : NxP A x t) : nxT (a_m A) x (a_n A) (q_ls x).length ≤ t := by
  obtain ⟨P, l, R, h1, h2, h3, h4⟩ := h
  have hl : (q_ls x)[P.length]? = some l := by rw [h1]; exact sp_get
  have ho : opX (a_m A) x (a_n A) l P.length ≤ t := (op_le _).mpr ⟨h2, fun k y hk hy e => by
    have hy2 : P[k]? = some y := by rw [← sp_pre (l := l) (R := R) hk, ← h1]; exact hy
    exact h4 y (List.mem_of_getElem? hy2) e⟩
  exact Nat.le_trans (nxT_1 _ _ _ (li hl) hl (by omega)) ho
theorem nxT_at (hW : Wf T A) (ha : Ah A) (hx : (a_q A)[q]? = some x) (h : ¬ nxT (a_m A) x (a_n A) (q_ls x).length = NV) : NxP A x (nxT (a_m A) x (a_n A) (q_ls x).length) ∧ a_n A ≤ nxT (a_m A) x (a_n A) (q_ls x).length := by
  rcases nxT_2 (ms := a_m A) (x := x) (now := a_n A) (q_ls x).length with h0 | ⟨i, l, h1, h2, h3, h4⟩
  · exact absurd h0 h
  · rw [h4]
    obtain ⟨P, R, e1, e2⟩ := sp_of _ _ _ h2
    have ho := (op_le (ms := a_m A) (x := x) (l := l) (now := a_n A) (t := opX (a_m A) x (a_n A) l i) i).mp (Nat.le_refl _)
    have hm : l ∈ q_ls x := List.mem_of_getElem? h2
    refine ⟨⟨P, l, R, e1, ho.1, h3, fun y hy ey => ?_⟩, Nat.le_trans (rd_ge (hW.okl ha hx hm)) ho.1⟩
    obtain ⟨k, hk⟩ := List.getElem?_of_mem hy
    have hkl := li hk
    exact ho.2 k y (by omega) (by rw [e1, sp_pre hkl]; exact hk) ey
theorem until_eq (hW : Wf T A) (hT : T + 100 < 2 ^ 20) (ha : Ah A) (hx : (a_q A)[q]? = some x) : unA q 100 A = if nxT (a_m A) x (a_n A) (q_ls x).length = NV ∨ 99 < nxT (a_m A) x (a_n A) (q_ls x).length - a_n A then none else some (nxT (a_m A) x (a_n A) (q_ls x).length - a_n A) := by
  obtain ⟨i1, i2⟩ := un_eq 100 A T x hW hT ha hx
  have nv := nv21
  have hb := hW.1
  obtain ⟨N, hN⟩ : ∃ N, nxT (a_m A) x (a_n A) (q_ls x).length = N := ⟨_, rfl⟩
  have l1 : ∀ t, NxP A x t → N ≤ t := fun t h => by rw [← hN]; exact nxT_le h
  have l2 : ¬ N = NV → NxP A x N ∧ a_n A ≤ N := fun h => by
    have := nxT_at hW ha hx (by rw [hN]; exact h)
    rw [hN] at this
    exact this
  rw [hN]
  cases hu : unA q 100 A with
  | none =>
    by_cases c : N = NV ∨ 99 < N - a_n A
    · rw [if_pos c]
    · obtain ⟨u1, u2⟩ := l2 (fun e => c (Or.inl e))
      refine absurd u1 ?_
      have := i1 hu (N - a_n A) (by omega)
      rw [show a_n A + (N - a_n A) = N by omega] at this
      exact this
  | some k =>
    obtain ⟨u1, u2, u3⟩ := i2 k hu
    have hk := l1 _ u2
    have c1 : ¬ N = NV := by omega
    obtain ⟨v1, v2⟩ := l2 c1
    have c2 : ¬ 99 < N - a_n A := by omega
    rw [if_neg (fun h => h.elim c1 c2)]
    have : ¬ N - a_n A < k := fun h => by
      have := u3 (N - a_n A) h
      rw [show a_n A + (N - a_n A) = N by omega] at this
      exact this v1
    have e : k = N - a_n A := by omega
    rw [e]
end ABS21
section COMP55
variable {E : Nat × Nat} {M M' : Mm} {Q : Option Value → Mm → Prop} {b T : Nat} {S : St}

theorem k_doomed (hR : CR M b S) (hE : STa E M) (hW : WfS T S) (hT : T + 100 < 2 ^ 20) (hV : PrS S) (ha : Ah (s_a S)) (n : Int32) {P : Int32 × St} (hP : lfS (fun A => fDoomed A n) S = P) (K : ∀ M' : Mm, Ck b M M' S P.2 → CR M' b P.2 → Q (some (.int P.1)) M') : J E 141 0 [.ref b, .int n] [] M Q := by
  have hr := hR.1.1
  obtain ⟨o, F, hS, hC⟩ := hR.2.1
  have hA := hW.1
  have n8 := hC.2.1.2
  have n10 := hC.2.2.1.2
  have n30 := hC.2.2.2.1.2
  have m3 := hC.mc.1
  refine J_p 3 (ls' := [_, _]) rfl ?_
  refine J_call rfl rfl rfl rfl rfl (c_isWithin (by omega) (by omega) (fun j e1 ej n0 n1 => ?_) (fun e1 => ?_))
  · show J _ _ _ _ _ _ _
    rw [inNB_ix] at e1
    subst ej
    have hT1 := hA.1
    have eD := doomed_eq (n := j) hA (by omega) ha
    obtain rfl : P = (nI (suA (gbQ (s_a S) (a_n (s_a S) + j)) (a_q (s_a S)).length), S) := hP.symm.trans (lfS_r (B := s_a S) (by simp only [fDoomed, e1]; rw [eD]))
    refine J_zne rfl (fun _ => ?_) (fun y => absurd y (by decide))
    refine J_p 1 (ls' := [_, _]) rfl ?_
    refine J_getR rfl hr.1 hr.2.1 ?_
    refine J_p 1 (ls' := [_, _]) rfl ?_
    refine J_getR rfl hr.1 hr.2.1 ?_
    refine J_gi rfl hS.1.1 hC.2.2.2.2.1 ?_
    refine J_p 2 (ls' := [_, _]) rfl ?_
    rw [nI_add (a_n (s_a S)) j]
    refine J_call rfl rfl rfl (decide_eq_true hS.1.1) rfl (c_countGoneBy hE hS hC hA (by omega) ?_)
    show J _ _ _ _ _ _ _
    exact J_ret rfl rfl rfl (K M (Ck.refl b M S) hR)
  · show J _ _ _ _ _ _ _
    rw [inNB_ix] at e1
    refine J_zne rfl (fun y => absurd rfl y) (fun _ => ?_)
    obtain rfl : P = (rfN 0, z_f S 0) := hP.symm.trans (lfS_l (by simp only [fDoomed, e1]))
    refine J_p 2 (ls' := [_, _]) rfl ?_
    refine J_call rfl rfl rfl (decide_eq_true hr.1) rfl (c_refuse hR (w := 0) (by omega) (by first | rfl | decide) (fun M1 h1 h2 => ?_))
    show J _ _ _ _ _ _ _
    exact J_ret rfl rfl rfl (K M1 h1 h2)

theorem k_until (hR : CR M b S) (hE : STa E M) (hW : WfS T S) (hT : T + 100 < 2 ^ 20) (hV : PrS S) (ha : Ah (s_a S)) (q : Int32) {P : Int32 × St} (hP : lfS (fun A => fUntil A q) S = P) (K : ∀ M' : Mm, Ck b M M' S P.2 → CR M' b P.2 → Q (some (.int P.1)) M') : J E 140 0 [.ref b, .int q, U0, U0] [] M Q := by
  have hr := hR.1.1
  obtain ⟨o, F, hS, hC⟩ := hR.2.1
  have hA := hW.1
  have n8 := hC.2.1.2
  have n10 := hC.2.2.1.2
  have n30 := hC.2.2.2.1.2
  have m3 := hC.mc.1
  refine J_p 1 (ls' := [_, _, _, _]) rfl ?_
  refine J_getR rfl hr.1 hr.2.1 ?_
  refine J_p 1 (ls' := [_, _, _, _]) rfl ?_
  refine J_call rfl rfl rfl (decide_eq_true hS.1.1) rfl (c_queueAt hS hC (fun j x e1 hx j8 eq => ?_) (fun e1 => ?_))
  · show J _ _ _ _ _ _ _
    have hQ := hS.qs j8
    have hQC := hC.qc hx
    have ok := hA.okL m3 n10 hx
    have hT1 := hA.1
    obtain ⟨_, _, ⟨tr1, tr5⟩, _, ag9, _, _, _, wl, _⟩ := hA.2.1 j x hx
    have oT : okT (a_m (s_a S)) x (a_n (s_a S)) := ⟨by omega, tr5, ag9, fun i l hl => by
      obtain ⟨k1, k2, k3, k4, k5, k6, k7, k8⟩ := hA.okl ha hx (List.mem_of_getElem? hl)
      exact ⟨by omega, by omega, by omega⟩⟩
    have eU := until_eq hA hT ha hx
    have nN := nxT_lt oT (q_ls x).length
    have nv := nv31
    have nv2 := nv21
    have l2 := fun h => nxT_at hA ha hx h
    obtain ⟨N, hN⟩ : ∃ N, nxT (a_m (s_a S)) x (a_n (s_a S)) (q_ls x).length = N := ⟨_, rfl⟩
    rw [hN] at eU nN l2
    have none_ : (N = NV ∨ 99 < N - a_n (s_a S)) → J E 140 53 [.ref b, .int q, .ref (b + 8 + 4 + 25 * j), .int (nI N)] [] M Q := fun c => by
      rw [if_pos c] at eU
      obtain rfl : P = (-1, S) := hP.symm.trans (lfS_r (B := s_a S) (by simp only [fUntil, e1]; rw [eU]; rfl))
      refine J_p 1 (ls' := [_, _, _, _]) rfl ?_
      exact J_ret rfl rfl rfl (K M (Ck.refl b M S) hR)
    refine J_p 2 (ls' := [_, _, .ref (b + 8 + 4 + 25 * j), _]) rfl ?_
    refine J_brT rfl rfl rfl ?_
    refine J_p 2 (ls' := [_, _, _, _]) rfl ?_
    refine J_getR rfl hr.1 hr.2.1 ?_
    refine J_gi rfl hS.1.1 hC.2.2.2.2.1 ?_
    refine J_call rfl rfl rfl (decide_eq_true hQ.1) rfl (c_nextTime hE hQ hQC ok oT tr1 ?_)
    rw [hN]
    show J _ _ _ _ _ _ _
    refine J_p 3 (ls' := [_, _, _, .int (nI N)]) rfl ?_
    refine J_ieq rfl (fun y => none_ (Or.inl ((nI_eq (a := N) (b := NV) (by omega) (by omega)).mp y))) (fun y => ?_)
    have c1 : ¬ N = NV := fun e => y (by rw [e]; rfl)
    obtain ⟨_, v2⟩ := l2 c1
    refine J_p 2 (ls' := [_, _, _, _]) rfl ?_
    refine J_getR rfl hr.1 hr.2.1 ?_
    refine J_gi rfl hS.1.1 hC.2.2.2.2.1 ?_
    refine J_p 2 (ls' := [_, _, _, _]) rfl ?_
    rw [show nI N - nI (a_n (s_a S)) = nI (N - a_n (s_a S)) from nI_subE rfl rfl v2]
    refine J_ile rfl (fun z => ?_) (fun z => none_ (Or.inr ?_))
    · have c2 : ¬ 99 < N - a_n (s_a S) := fun h => nI_ge h (by omega) z
      rw [if_neg (fun h => h.elim c1 c2)] at eU
      obtain rfl : P = (nI (N - a_n (s_a S)), S) := hP.symm.trans (lfS_r (B := s_a S) (by simp only [fUntil, e1]; rw [eU]; rfl))
      refine J_p 2 (ls' := [_, _, _, _]) rfl ?_
      refine J_getR rfl hr.1 hr.2.1 ?_
      refine J_gi rfl hS.1.1 hC.2.2.2.2.1 ?_
      refine J_p 1 (ls' := [_, _, _, _]) rfl ?_
      rw [show nI N - nI (a_n (s_a S)) = nI (N - a_n (s_a S)) from nI_subE rfl rfl v2]
      exact J_ret rfl rfl rfl (K M (Ck.refl b M S) hR)
    · rcases Nat.lt_or_ge 99 (N - a_n (s_a S)) with h | h
      · exact h
      · exact absurd (nI_le h (by omega)) z
  · show J _ _ _ _ _ _ _
    refine J_p 2 (ls' := [_, _, .null, _]) rfl ?_
    refine J_brF rfl rfl rfl ?_
    obtain rfl : P = (rfN 0, z_f S 0) := hP.symm.trans (lfS_l (by simp only [fUntil, e1]))
    refine J_p 2 (ls' := [_, _, _, _]) rfl ?_
    refine J_call rfl rfl rfl (decide_eq_true hr.1) rfl (c_refuse hR (w := 0) (by omega) (by first | rfl | decide) (fun M1 h1 h2 => ?_))
    show J _ _ _ _ _ _ _
    exact J_ret rfl rfl rfl (K M1 h1 h2)

end COMP55