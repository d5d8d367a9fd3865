/-! WHAT EVERY ACT KEEPS: times ahead, messages in front. -/
theorem intoA_t {A : Ab} {q m : Nat} {x : Qa} : a_t (intoA A q x m) = a_t A := by
  unfold intoA
  split <;> rfl
theorem sendQ_t {m : Nat} : ∀ (d : Nat) (A : Ab) (q : Nat), a_t (sendQ m d A q).1 = a_t A
  | 0, _, _ => rfl
  | d + 1, A, q => by
    show a_t (match (a_q A)[q]? with
        | none => (A, 0)
        | some x => if fitQ A q = true then ((sendQ m d (intoA A q x m) (q + 1)).1, (sendQ m d (intoA A q x m) (q + 1)).2 + 1) else sendQ m d A (q + 1)).1 = _
    cases hx : (a_q A)[q]? with
    | none => rfl
    | some x =>
      show a_t (if fitQ A q = true then ((sendQ m d (intoA A q x m) (q + 1)).1, (sendQ m d (intoA A q x m) (q + 1)).2 + 1) else sendQ m d A (q + 1)).1 = _
      by_cases c : fitQ A q = true
      · rw [if_pos c]
        exact (sendQ_t d _ _).trans intoA_t
      · rw [if_neg c]
        exact sendQ_t d _ _
theorem crM_t (A : Ab) (c : Nat) : a_t (crM A c) = a_t A := by
  unfold crM
  split <;> rfl
theorem failL_t (A : Ab) (q : Nat) (x : Qa) (i : Nat) (l : La) (c : Nat) (what : Int32) : a_t (failL A q x i l c what) = a_t A := by
  unfold failL
  split
  · exact crM_t A c
  · exact crM_t A c
theorem ageL_tt (A : Ab) (q : Nat) (x : Qa) (i : Nat) (l : La) : a_t (ageL A q x i l).1 = a_t A := by
  unfold ageL
  split
  · exact failL_t ..
  · split
    · rfl
    · rfl
theorem ageQ_tt : ∀ (f : Nat) (A : Ab) (q i : Nat), a_t (ageQ f A q i).1 = a_t A
  | 0, _, _, _ => rfl
  | f + 1, A, q, i => by
    show a_t (match (a_q A)[q]? with
      | none => (A, 0)
      | some x => match (q_ls x)[i]? with
        | none => (A, 0)
        | some l => if (ageL A q x i l).2 = true then ((ageQ f (ageL A q x i l).1 q i).1, (ageQ f (ageL A q x i l).1 q i).2 + 1) else ageQ f (ageL A q x i l).1 q (i + 1)).1 = _
    split
    · rfl
    · split
      · rfl
      · split
        · exact (ageQ_tt f _ _ _).trans (ageL_tt ..)
        · exact (ageQ_tt f _ _ _).trans (ageL_tt ..)
theorem tickQ_t : ∀ (d : Nat) (A : Ab) (q : Nat), a_t (tickQ d A q).1 = a_t A
  | 0, _, _ => rfl
  | d + 1, A, q => (tickQ_t d _ _).trans (ageQ_tt ..)
theorem tickA_t (A : Ab) : a_t (tickA A).1 = a_t A := tickQ_t ..
theorem dayY_t (A : Ab) (c : Nat) (good : Bool) : a_t (dayY A c good).1 = a_t A := by
  unfold dayY
  split
  · rfl
  · split
    · rfl
    · split
      · rfl
      · split
        · rfl
        · split
          · rfl
          · exact failL_t ..
theorem giv_t {A B : Ab} {q m : Nat} (hg : giveA A q = some (B, m)) : a_t B = a_t A := by
  cases hx : (a_q A)[q]? with
  | none =>
    unfold giveA at hg
    rw [hx] at hg
    cases hg
  | some x =>
    obtain ⟨i, l, c, k, _, _, _, _, _, _, _, _, e⟩ := giveA_some hg hx
    rw [e.1]
    rfl
theorem dayB_t (A : Ab) : a_t (dayB A).1 = a_t A := by
  unfold dayB dayA
  split
  · unfold dayS
    split
    · rfl
    · exact sendQ_t _ _ _
  · split
    · unfold dayG
      split
      · rfl
      · split
        · rfl
        · rename_i p hg
          have h := giv_t (B := p.1) (m := p.2) hg
          exact h
    · unfold dayX
      split
      · rfl
      · exact dayY_t ..
section ABS22
variable {A B : Ab} {p q i m T c : Nat} {x x' : Qa} {l : La} {k : Co}
theorem Ah.cg (ha : Ah A) (hq : a_q B = a_q A) (hn : a_n B = a_n A) : Ah B := fun q x l hx hl hs => by
  rw [hq] at hx
  rw [hn]
  exact ha q x l hx hl hs
theorem Ah.qq (ha : Ah A) (h : ∀ l, l ∈ q_ls x' → l_s l ≠ 0 → a_n A < l_t l) (hq : a_q B = (a_q A).set q x') (hn : a_n B = a_n A) : Ah B := fun p y l hy hl hs => by
  rw [hq] at hy
  rw [hn]
  rcases set_or hy with ⟨rfl, rfl⟩ | ⟨_, hy⟩
  · exact h l hl hs
  · exact ha p y l hy hl hs
theorem mem_set {v : La} {L : List La} (h : l ∈ L.set i v) : l = v ∨ l ∈ L := by
  obtain ⟨j, hj⟩ := List.getElem?_of_mem h
  rcases set_or hj with ⟨_, e⟩ | ⟨_, hj⟩
  · exact Or.inl e
  · exact Or.inr (List.mem_of_getElem? hj)
theorem mem_er {L : List La} (h : l ∈ L.eraseIdx i) : l ∈ L := by
  obtain ⟨j, hj⟩ := List.getElem?_of_mem h
  obtain ⟨j0, _, h0⟩ := er_sub hj
  exact List.mem_of_getElem? h0
theorem mem_in {v : La} {L : List La} (hi : i ≤ L.length) (h : l ∈ L.insertIdx i v) : l = v ∨ l ∈ L := by
  obtain ⟨j, hj⟩ := List.getElem?_of_mem h
  rcases in_or hi hj with ⟨_, hj⟩ | ⟨_, e⟩ | ⟨_, hj⟩
  · exact Or.inr (List.mem_of_getElem? hj)
  · exact Or.inl e
  · exact Or.inr (List.mem_of_getElem? hj)
theorem Ah.giv (ha : Ah A) (hW : Wf T A) (hx : (a_q A)[q]? = some x) (hg : giveA A q = some (B, m)) : Ah B := by
  obtain ⟨i, l, c, k, _, _, hl, _, _, _, _, _, e⟩ := giveA_some hg hx
  have e1 := e.1
  subst e1
  obtain ⟨_, _, _, ⟨le1, _⟩, _⟩ := hW.2.1 q x hx
  refine ha.qq (x' := x_gv (x_l1 (x_ls x ((q_ls x).set i (outL l c (a_n A + q_le x)))) (c + 1)) (q_gv x + nI 1)) (fun y hy hs => ?_) rfl rfl
  rcases mem_set (show y ∈ (q_ls x).set i (outL l c (a_n A + q_le x)) from hy) with h | h
  · subst h
    show a_n A < a_n A + q_le x
    omega
  · exact ha q x y hx h hs
theorem Ah.give (ha : Ah A) (hW : Wf T A) (hg : giveA A q = some (B, m)) : Ah B := by
  cases hx : (a_q A)[q]? with
  | none =>
    unfold giveA at hg
    rw [hx] at hg
    cases hg
  | some x => exact ha.giv hW hx hg
theorem giv_m2 (hg : giveA A q = some (B, m)) : a_m B = a_m A := by
  cases hx : (a_q A)[q]? with
  | none =>
    unfold giveA at hg
    rw [hx] at hg
    cases hg
  | some x => exact giv_m hx hg
theorem Wf.give2 (hW : Wf T A) (hg : giveA A q = some (B, m)) : Wf T B := by
  cases hx : (a_q A)[q]? with
  | none =>
    unfold giveA at hg
    rw [hx] at hg
    cases hg
  | some x => exact hW.giv hg hx
theorem Ah.ack (ha : Ah A) (hx : (a_q A)[q]? = some x) : Ah (aAck A q x i c k) := ha.qq (x' := x_ak (x_ls x ((q_ls x).eraseIdx i)) (q_ak x + nI 1)) (fun y hy hs => ha q x y hx (mem_er hy) hs) rfl rfl
theorem Ah.fail {what : Int32} (ha : Ah A) (hx : (a_q A)[q]? = some x) : Ah (failL A q x i l c what) := by
  unfold failL
  split
  · refine ha.qq (q := q) (x' := x_ls (x_di x (q_di x + nI 1)) ((q_ls x).eraseIdx i)) (fun y hy hs => ha q x y hx (mem_er hy) hs) ?_ (crM_q A c).2.1
    show (a_q (crM A c)).set q _ = _
    rw [(crM_q A c).1]
  · refine ha.qq (q := q) (x' := x_ls x ((q_ls x).set i (restL A l c what))) (fun y hy hs => ?_) ?_ (crM_q A c).2.1
    · rcases mem_set (show y ∈ (q_ls x).set i (restL A l c what) from hy) with h | h
      · subst h
        have := wt_pos (k := (l_c l).length + 1) (by omega)
        show a_n A < a_n A + wt ((l_c l).length + 1)
        omega
      · exact ha q x y hx h hs
    · show (a_q (crM A c)).set q _ = _
      rw [(crM_q A c).1]
theorem Ah.into (ha : Ah A) (hx : (a_q A)[q]? = some x) : Ah (intoA A q x m) := by
  unfold intoA
  split
  · exact ha.qq (x' := x_di x (q_di x + nI 1)) (fun y hy hs => ha q x y hx hy hs) rfl rfl
  · refine ha.qq (x' := x_ls x ((q_ls x).insertIdx (plcA m (q_ls x) (q_ls x).length) (m, 0, 0, 0, []))) (fun y hy hs => ?_) rfl rfl
    rcases mem_in (plcA_le _ _ _) (show y ∈ (q_ls x).insertIdx (plcA m (q_ls x) (q_ls x).length) (m, 0, 0, 0, []) from hy) with h | h
    · subst h
      exact absurd rfl hs
    · exact ha q x y hx h hs
theorem ah_sendQ : ∀ (d : Nat) (A : Ab) (q : Nat), Ah A → Ah (sendQ m d A q).1
  | 0, _, _, h => h
  | d + 1, A, q, h => by
    show Ah (match (a_q A)[q]? with
        | none => (A, 0)
        | some x => if fitQ A q = true then ((sendQ m d (intoA A q x m) (q + 1)).1, (sendQ m d (intoA A q x m) (q + 1)).2 + 1) else sendQ m d A (q + 1)).1
    cases hx : (a_q A)[q]? with
    | none => exact h
    | some x =>
      show Ah (if fitQ A q = true then ((sendQ m d (intoA A q x m) (q + 1)).1, (sendQ m d (intoA A q x m) (q + 1)).2 + 1) else sendQ m d A (q + 1)).1
      by_cases c : fitQ A q = true
      · rw [if_pos c]
        exact ah_sendQ d _ _ (h.into hx)
      · rw [if_neg c]
        exact ah_sendQ d _ _ h
theorem Ah.send {key pr : Nat} {v : Int32} (ha : Ah A) : Ah (sendA A key pr v).1 := ah_sendQ _ _ _ (ha.cg (B := newMs A key pr v) rfl rfl)
theorem ah_dayY {good : Bool} (ha : Ah A) : Ah (dayY A c good).1 := by
  unfold dayY
  split
  · exact ha
  · split
    · exact ha
    · rename_i x hx
      split
      · exact ha
      · split
        · exact ha.ack hx
        · split
          · exact ha
          · exact ha.fail hx
theorem pu_mem : ∀ (i : Nat) (L : List La), l ∈ (puA i L).1 → l ∈ L
  | 0, _, h => h
  | i + 1, L, h => by
    unfold puA at h
    split at h
    · exact h
    · split at h
      · exact pu_mem i L h
      · exact mem_er (pu_mem i _ h)
theorem ah_pass : ∀ (n : Nat) (A : Ab) (T : Nat), Wf T A → T + n < 2 ^ 20 → Ah A → Ah (passA n A).1
  | 0, _, _, _, _, h => h
  | n + 1, A, T, hW, hT, h => ah_pass n (tickA A).1 (T + 1) (hW.tk (by omega)) (by omega) (h.tk hW)
theorem ah_giveAll : ∀ (f : Nat) (A : Ab), Wf T A → Ah A → Ah (giveAllA f A q).1 ∧ a_m (giveAllA f A q).1 = a_m A
  | 0, _, _, h => ⟨h, rfl⟩
  | f + 1, A, hW, h => by
    have e : giveAllA (f + 1) A q = match giveA A q with
      | none => (A, 0)
      | some p => ((giveAllA f p.1 q).1, (giveAllA f p.1 q).2 + 1) := rfl
    rw [e]
    cases hg : giveA A q with
    | none => exact ⟨h, rfl⟩
    | some p =>
      obtain ⟨h1, h2⟩ := ah_giveAll f p.1 (hW.give2 (B := p.1) (m := p.2) hg) (h.give (B := p.1) (m := p.2) hW hg)
      exact ⟨h1, h2.trans (giv_m2 (B := p.1) (m := p.2) hg)⟩
theorem ah_dayB (hW : Wf T A) (ha : Ah A) : Ah (dayB A).1 := by
  have h1 : Ah (drawA A 6).1 := ha
  have w1 : Wf T (drawA A 6).1 := hW.seed _
  unfold dayB dayA
  split
  · unfold dayS
    split
    · exact h1
    · exact Ah.send (A := (drawA (drawA (drawA (drawA A 6).1 8).1 4).1 100).1) ha
  · split
    · unfold dayG
      split
      · exact h1
      · split
        · exact h1
        · rename_i p hg
          exact Ah.give (T := T) (B := p.1) (m := p.2) (show Ah (drawA (drawA A 6).1 (a_q (drawA A 6).1).length).1 from ha) (hW.seed _) hg
    · unfold dayX
      split
      · exact h1
      · exact ah_dayY (show Ah (drawA (drawA A 6).1 (a_c (drawA A 6).1).length).1 from ha)
theorem wf_dayY {good : Bool} (hW : Wf T A) : Wf T (dayY A c good).1 := by
  unfold dayY
  split
  · exact hW
  · rename_i k hk
    split
    · exact hW
    · rename_i x hx
      split
      · exact hW
      · rename_i i hi
        obtain ⟨l, hl, s2, x2, _⟩ := isA_iff.mp (oaA_at _ _ _ _ _ _ hi)
        obtain ⟨k2, hk2, hf, _⟩ := (hW.ls hx hl).2.2.2.2.2.2 s2
        rw [x2, hk] at hk2
        cases hk2
        split
        · exact hW.ack hx (li hl) hk hf
        · split
          · exact hW
          · rename_i l' hl'
            exact hW.fail hx hl' hk hf (Or.inl rfl)
theorem wf_dayB (hW : Wf T A) (h4 : (a_t A).length ≤ 4) : Wf T (dayB A).1 := by
  have w1 : Wf T (drawA A 6).1 := hW.seed _
  unfold dayB dayA
  split
  · unfold dayS
    split
    · exact w1
    · rename_i hno
      exact Wf.send (A := (drawA (drawA (drawA (drawA A 6).1 8).1 4).1 100).1) hW (Nat.mod_lt _ (by omega)) (Nat.mod_lt _ (by omega)) (by
        have : ¬ (a_t A).length = 0 := fun e => hno (Or.inl e)
        show 1 ≤ (a_t A).length
        omega) h4
  · split
    · unfold dayG
      split
      · exact w1
      · split
        · exact w1
        · rename_i p hg
          exact Wf.give2 (B := p.1) (m := p.2) (show Wf T (drawA (drawA A 6).1 (a_q (drawA A 6).1).length).1 from hW.seed _) hg
    · unfold dayX
      split
      · exact w1
      · exact wf_dayY (show Wf T (drawA (drawA A 6).1 (a_c (drawA A 6).1).length).1 from hW.seed _)
theorem ah_days : ∀ (n : Nat) (A : Ab) (T : Nat), Wf T A → (a_t A).length ≤ 4 → T + n < 2 ^ 20 → Ah A → Ah (daysA n A).1
  | 0, _, _, _, _, _, h => h
  | n + 1, A, T, hW, h4, hT, h => by
    have w1 := wf_dayB hW h4
    exact ah_days n (tickA (dayB A).1).1 (T + 1) (w1.tk (by omega)) (by rw [tickA_t, dayB_t]; exact h4) (by omega) ((ah_dayB hW h).tk w1)
end ABS22