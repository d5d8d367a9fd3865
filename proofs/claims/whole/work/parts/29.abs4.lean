/-! THE ABSTRACT STATE: letters die, fail, are ready, given, acknowledged. -/
/-- letter i of queue q (which is x) dies as one of message m, its causes cs -/
def aDie (A : Ab) (q : Nat) (x : Qa) (i m : Nat) (cs : List Ca) : Ab :=
  w_d (w_q A ((a_q A).set q (x_ls (x_di x (q_di x + nI 1)) ((q_ls x).eraseIdx i)))) (roomD (a_d A) ++ [(m, q, a_n A, cs)])
def aSetL (A : Ab) (q : Nat) (x : Qa) (i : Nat) (l : La) : Ab := w_q A ((a_q A).set q (x_ls x ((q_ls x).set i l)))
theorem last_get {α : Type} {l : List α} {v : α} : (l ++ [v])[l.length]? = some v := by
  rw [List.getElem?_append_right (Nat.le_refl _), Nat.sub_self]; rfl
theorem nRoom_len {D : List Da} (h : D.length ≤ 30) : (roomD D).length ≤ 29 := by rw [roomD_len h]; exact nRoom_le h
/-- the end of each death: g1 as it stands when the dead one is there, its causes written in g2, the letter taken out -/
theorem Rep.dieE {g g2 : Nat → Int32} {A : Ab} {q i n : Nat} {x : Qa} {l : La} {cs : List Ca} (h : Rep g A) (hx : (a_q A)[q]? = some x) (hl : (q_ls x)[i]? = some l) (hn : (q_ls x).length = n + 1) (hcs : cs.length ≤ 5)
    (e2 : ∀ z, (z < 2751 + 24 * nRoom (a_d A).length + 3 ∨ 2751 + 24 * nRoom (a_d A).length + 24 ≤ z) → g2 z = gNewDead g q (a_d A).length (nI (l_m l)) z)
    (h3 : g2 (2751 + 24 * nRoom (a_d A).length + 3) = nI cs.length) (hc : RepC g2 (2751 + 24 * nRoom (a_d A).length + 4) cs) : Rep (gGo g2 q i n) (aDie A q x i (l_m l) cs) := by
  have h30 := h.2.2.2.1.1
  have h1 := h.newD hx (m := l_m l)
  have hr := roomD_len h30
  have hd := h1.2.2.2.1.2.2 (roomD (a_d A)).length (l_m l, q, a_n A, []) last_get
  have h2 := h1.lastD (g' := g2) (D := roomD (a_d A)) (d := (l_m l, q, a_n A, [])) (d' := (l_m l, q, a_n A, cs)) rfl rfl (by
    rw [hr] at hd ⊢
    exact ⟨hcs, by rw [e2 _ (by omega)]; exact hd.2.1, by rw [e2 _ (by omega)]; exact hd.2.2.1, by rw [e2 _ (by omega)]; exact hd.2.2.2.1, h3, hc⟩) (fun z hz => by
    rw [hr] at hz
    exact e2 z (by omega))
  have h4 := h2.go (q := q) (i := i) (n := n) (x := x_di x (q_di x + nI 1)) (set_get hx) (li hl) hn
  have e : (((a_q A).set q (x_di x (q_di x + nI 1))).set q (x_ls (x_di x (q_di x + nI 1)) ((q_ls x).eraseIdx i))) = (a_q A).set q (x_ls (x_di x (q_di x + nI 1)) ((q_ls x).eraseIdx i)) := List.set_set ..
  unfold aDie
  rw [← e]
  exact h4
theorem Rep.letter {g : Nat → Int32} {A : Ab} {q i : Nat} {x : Qa} {l : La} (h : Rep g A) (hx : (a_q A)[q]? = some x) (hl : (q_ls x)[i]? = some l) : RepL g (3471 + 556 * q + 36 + 26 * i) l := (h.1.2.2 q x hx).2.2.2.2.2.2 i l hl
theorem gND_L {g : Nat → Int32} {q q2 nd i z : Nat} {m : Int32} (hd : nd ≤ 30) (hq : q < 8) (hz : z < 26) : gNewDead g q2 nd m (3471 + 556 * q + 36 + 26 * i + z) = g (3471 + 556 * q + 36 + 26 * i + z) ∨ q2 ≠ q := by
  by_cases e : q2 = q
  · subst e
    left
    have := nRoom_le hd
    unfold gNewDead
    rw [gND_lt hq this (by omega) (by omega)]
    unfold gRoom
    split
    · exact gDrop_lt (by omega)
    · rfl
  · exact Or.inr e
theorem Rep.die0 {g : Nat → Int32} {A : Ab} {q i n : Nat} {x : Qa} {l : La} (h : Rep g A) (hx : (a_q A)[q]? = some x) (hl : (q_ls x)[i]? = some l) (hn : (q_ls x).length = n + 1) : Rep (gDie g q i n (a_d A).length (l_c l).length (nI (l_m l)) 0 0) (aDie A q x i (l_m l) (l_c l)) := by
  have h30 := h.2.2.2.1.1
  have hq : q < 8 := Nat.lt_of_lt_of_le (li hx) h.1.1
  have hL := h.letter hx hl
  have h29 := nRoom_le h30
  have h20 := (h.1.2.2 q x hx).2.2.2.2.1
  have hin := li hl
  have h5 := hL.1
  unfold gDie
  rw [if_pos rfl]
  unfold gDieB
  refine h.dieE hx hl hn h5 (fun z hz => ?_) (if_pos rfl) (hL.2.2.2.2.2.2.2.mv (fun z hz => ?_))
  · simp only [upd, gDieC]
    rw [if_neg (by omega), if_neg (by omega)]
  · simp only [upd, gDieC]
    rw [if_neg (by omega), if_pos (by omega)]
    have := gND_L (g := g) (q := q) (q2 := q) (nd := (a_d A).length) (i := i) (z := 6 + z) (m := nI (l_m l)) h30 hq (by omega)
    rcases this with t | t
    · rw [← Nat.add_assoc] at t
      rw [← t]
      congr 1
      omega
    · exact absurd rfl t
theorem Rep.die1 {g : Nat → Int32} {A : Ab} {q i n : Nat} {x : Qa} {l : La} {what number : Int32} (h : Rep g A) (hx : (a_q A)[q]? = some x) (hl : (q_ls x)[i]? = some l) (hn : (q_ls x).length = n + 1) (hw : what ≠ 0) (h4 : (l_c l).length ≤ 4) : Rep (gDie g q i n (a_d A).length (l_c l).length (nI (l_m l)) what number) (aDie A q x i (l_m l) ((what, nI (a_n A), number, nI (l_c l).length) :: l_c l)) := by
  have h30 := h.2.2.2.1.1
  have hq : q < 8 := Nat.lt_of_lt_of_le (li hx) h.1.1
  have hL := h.letter hx hl
  have h29 := nRoom_le h30
  have h20 := (h.1.2.2 q x hx).2.2.2.2.1
  have hin := li hl
  have hnow := (h.newD hx (m := l_m l)).2.2.2.2.1
  unfold gDie
  rw [if_neg hw]
  unfold gDieB
  refine h.dieE hx hl hn (by show (l_c l).length + 1 ≤ 5; omega) (fun z hz => ?_) (if_pos rfl) (fun k c hk => ?_)
  · simp only [upd, gDieC, gAhead]
    rw [if_neg (by omega), if_neg (by omega), if_neg (by omega), if_neg (by omega), if_neg (by omega), if_neg (by omega)]
  · cases k with
    | zero =>
      obtain rfl : _ = c := Option.some.inj hk
      refine ⟨?_, ?_, ?_, ?_⟩
      all_goals (simp only [upd, gDieC, gAhead]; repeat (first | rw [if_neg (by omega)] | rw [if_pos (by omega)]))
      all_goals first | done | exact hnow | rfl
    | succ k =>
      have hk' : (l_c l)[k]? = some c := hk
      have hlt := li hk'
      obtain ⟨a1, a2, a3, a4⟩ := hL.2.2.2.2.2.2.2 k c hk'
      have t : ∀ z, z < 20 → gAhead (gNewDead g q (a_d A).length (nI (l_m l))) (2751 + 24 * nRoom (a_d A).length + 4) (nI (l_c l).length) what number (3471 + 556 * q + 36 + 26 * i + 6 + z) = g (3471 + 556 * q + 36 + 26 * i + 6 + z) := by
        intro z hz
        simp only [gAhead, upd]
        rw [if_neg (by omega), if_neg (by omega), if_neg (by omega), if_neg (by omega)]
        rcases gND_L (g := g) (q := q) (q2 := q) (nd := (a_d A).length) (i := i) (z := 6 + z) (m := nI (l_m l)) h30 hq (by omega) with t | t
        · rw [← Nat.add_assoc] at t; exact t
        · exact absurd rfl t
      have s : ∀ z, z < 4 * (l_c l).length → upd (gDieC (gAhead (gNewDead g q (a_d A).length (nI (l_m l))) (2751 + 24 * nRoom (a_d A).length + 4) (nI (l_c l).length) what number) q i (2751 + 24 * nRoom (a_d A).length) 1 (4 * (l_c l).length)) (2751 + 24 * nRoom (a_d A).length + 3) (nI ((l_c l).length + 1)) (2751 + 24 * nRoom (a_d A).length + 8 + z) = g (3471 + 556 * q + 36 + 26 * i + 6 + z) := by
        intro z hz
        rw [← t z (by omega)]
        simp only [upd, gDieC]
        rw [if_neg (by omega), if_pos (by omega)]
        congr 1
        omega
      refine ⟨?_, ?_, ?_, ?_⟩
      · rw [← a1]; rw [← s (4 * k) (by omega)]; congr 1; omega
      · rw [← a2]; rw [Nat.add_assoc _ (4 * k) 1, ← s (4 * k + 1) (by omega)]; congr 1; omega
      · rw [← a3]; rw [Nat.add_assoc _ (4 * k) 2, ← s (4 * k + 2) (by omega)]; congr 1; omega
      · rw [← a4]; rw [Nat.add_assoc _ (4 * k) 3, ← s (4 * k + 3) (by omega)]; congr 1; omega
/-- a letter fails and rests -/
theorem Rep.failR {g : Nat → Int32} {A : Ab} {q i w : Nat} {x : Qa} {l : La} {what who : Int32} (h : Rep g A) (hx : (a_q A)[q]? = some x) (hl : (q_ls x)[i]? = some l) (h4 : (l_c l).length ≤ 4) : Rep (gFailR g q i (l_c l).length (nI ((l_c l).length + 1)) what who (g 4 + nI w)) (aSetL A q x i (l_m l, 1, l_x l, a_n A + w, (what, nI (a_n A), who, nI ((l_c l).length + 1)) :: l_c l)) := by
  have hL := h.letter hx hl
  have hnow := h.2.2.2.2.1
  refine h.lt hx hl ⟨by show (l_c l).length + 1 ≤ 5; omega, ?_, ?_, ?_, ?_, ?_, ?_, fun k c hk => ?_⟩ (fun z hz => gFailR_oth h4 (by omega))
  · rw [gFailR_oth h4 (by omega)]; exact hL.2.1
  · exact if_pos rfl
  · simp only [gFailR, upd]; repeat (first | rw [if_neg (by omega)] | rw [if_pos (by omega)])
    try rfl
  · simp only [gFailR, upd]; repeat (first | rw [if_neg (by omega)] | rw [if_pos (by omega)]); try rfl
  · rw [hnow, nI_add]; simp only [gFailR, upd]; repeat (first | rw [if_neg (by omega)] | rw [if_pos (by omega)]); try rfl
  · simp only [gFailR, upd]; repeat (first | rw [if_neg (by omega)] | rw [if_pos (by omega)]); try rfl
  · cases k with
    | zero =>
      obtain rfl : _ = c := Option.some.inj hk
      refine ⟨?_, ?_, ?_, ?_⟩
      all_goals (simp only [gFailR, upd, gAhead, gUp]; repeat (first | rw [if_neg (by omega)] | rw [if_pos (by omega)]))
      all_goals first | done | exact hnow | rfl
    | succ k =>
      have hk' : (l_c l)[k]? = some c := hk
      have hlt := li hk'
      obtain ⟨a1, a2, a3, a4⟩ := hL.2.2.2.2.2.2.2 k c hk'
      have s : ∀ z, z < 4 * (l_c l).length → gFailR g q i (l_c l).length (nI ((l_c l).length + 1)) what who (g 4 + nI w) (3471 + 556 * q + 36 + 26 * i + 10 + z) = g (3471 + 556 * q + 36 + 26 * i + 6 + z) := by
        intro z hz
        simp only [gFailR, upd, gAhead, gUp]
        rw [if_neg (by omega), if_neg (by omega), if_neg (by omega), if_neg (by omega), if_neg (by omega), if_neg (by omega), if_neg (by omega), if_neg (by omega), if_neg (by omega), if_pos (by omega)]
        congr 1
        omega
      refine ⟨?_, ?_, ?_, ?_⟩
      · rw [← a1]; rw [← s (4 * k) (by omega)]; congr 1; omega
      · rw [← a2]; rw [Nat.add_assoc _ (4 * k) 1, ← s (4 * k + 1) (by omega)]; congr 1; omega
      · rw [← a3]; rw [Nat.add_assoc _ (4 * k) 2, ← s (4 * k + 2) (by omega)]; congr 1; omega
      · rw [← a4]; rw [Nat.add_assoc _ (4 * k) 3, ← s (4 * k + 3) (by omega)]; congr 1; omega
