/-! THE ABSTRACT STATE: single numbers of a queue, the dead, letters in their places. -/
theorem RepQ.ex {g : Nat → Int32} {q : Nat} {x : Qa} (h : RepQ g q x) (v : Nat) : RepQ (upd g (3471 + 556 * q + 30) (nI v)) q (x_ex x v) := by
  have e : ∀ z, z ≠ 3471 + 556 * q + 30 → upd g (3471 + 556 * q + 30) (nI v) z = g z := fun z hz => if_neg hz
  have s : upd g (3471 + 556 * q + 30) (nI v) (3471 + 556 * q + 30) = nI v := if_pos rfl
  obtain ⟨⟨h1, h2, h3⟩, ⟨h4, h5, h6⟩, ⟨h7, h8, h9, h10, h11, h12⟩, ⟨h13, h14, h15⟩, ⟨h16, h17, h18⟩⟩ := h
  refine ⟨⟨h1, by rw [e _ (by omega)]; exact h2, fun k c hk => ?_⟩, ⟨h4, by rw [e _ (by omega)]; exact h5, fun k c hk => ?_⟩, ⟨by rw [e _ (by omega)]; exact h7, by rw [e _ (by omega)]; exact h8, by rw [e _ (by omega)]; exact h9, by rw [e _ (by omega)]; exact h10, s, by rw [e _ (by omega)]; exact h12⟩, ⟨by rw [e _ (by omega)]; exact h13, by rw [e _ (by omega)]; exact h14, by rw [e _ (by omega)]; exact h15⟩, ⟨h16, by rw [e _ (by omega)]; exact h17, fun i l hi => (h18 i l hi).fr (fun z _ _ => e z (by omega))⟩⟩
  · have : k < 4 := Nat.lt_of_lt_of_le (li hk) h1
    rw [e _ (by omega)]; exact h3 k c hk
  · have : k < 20 := Nat.lt_of_lt_of_le (li hk) h4
    rw [e _ (by omega)]; exact h6 k c hk
theorem Rep.ex {g : Nat → Int32} {A : Ab} {q : Nat} {x : Qa} (h : Rep g A) (hx : (a_q A)[q]? = some x) (v : Nat) : Rep (upd g (3471 + 556 * q + 30) (nI v)) (w_q A ((a_q A).set q (x_ex x v))) :=
  h.q hx ((h.1.2.2 q x hx).ex v) (fun z hz => if_neg (by omega))
theorem RepQ.l1 {g : Nat → Int32} {q : Nat} {x : Qa} (h : RepQ g q x) (v : Nat) : RepQ (upd g (3471 + 556 * q + 31) (nI v - nI 1)) q (x_l1 x v) := by
  have e : ∀ z, z ≠ 3471 + 556 * q + 31 → upd g (3471 + 556 * q + 31) (nI v - nI 1) z = g z := fun z hz => if_neg hz
  have s : upd g (3471 + 556 * q + 31) (nI v - nI 1) (3471 + 556 * q + 31) = nI v - nI 1 := if_pos rfl
  obtain ⟨⟨h1, h2, h3⟩, ⟨h4, h5, h6⟩, ⟨h7, h8, h9, h10, h11, h12⟩, ⟨h13, h14, h15⟩, ⟨h16, h17, h18⟩⟩ := h
  refine ⟨⟨h1, by rw [e _ (by omega)]; exact h2, fun k c hk => ?_⟩, ⟨h4, by rw [e _ (by omega)]; exact h5, fun k c hk => ?_⟩, ⟨by rw [e _ (by omega)]; exact h7, by rw [e _ (by omega)]; exact h8, by rw [e _ (by omega)]; exact h9, by rw [e _ (by omega)]; exact h10, by rw [e _ (by omega)]; exact h11, s⟩, ⟨by rw [e _ (by omega)]; exact h13, by rw [e _ (by omega)]; exact h14, by rw [e _ (by omega)]; exact h15⟩, ⟨h16, by rw [e _ (by omega)]; exact h17, fun i l hi => (h18 i l hi).fr (fun z _ _ => e z (by omega))⟩⟩
  · have : k < 4 := Nat.lt_of_lt_of_le (li hk) h1
    rw [e _ (by omega)]; exact h3 k c hk
  · have : k < 20 := Nat.lt_of_lt_of_le (li hk) h4
    rw [e _ (by omega)]; exact h6 k c hk
theorem Rep.l1 {g : Nat → Int32} {A : Ab} {q : Nat} {x : Qa} (h : Rep g A) (hx : (a_q A)[q]? = some x) (v : Nat) : Rep (upd g (3471 + 556 * q + 31) (nI v - nI 1)) (w_q A ((a_q A).set q (x_l1 x v))) :=
  h.q hx ((h.1.2.2 q x hx).l1 v) (fun z hz => if_neg (by omega))
theorem RepQ.gv {g : Nat → Int32} {q : Nat} {x : Qa} (h : RepQ g q x) (v : Int32) : RepQ (upd g (3471 + 556 * q + 32) (v)) q (x_gv x v) := by
  have e : ∀ z, z ≠ 3471 + 556 * q + 32 → upd g (3471 + 556 * q + 32) (v) z = g z := fun z hz => if_neg hz
  have s : upd g (3471 + 556 * q + 32) (v) (3471 + 556 * q + 32) = v := if_pos rfl
  obtain ⟨⟨h1, h2, h3⟩, ⟨h4, h5, h6⟩, ⟨h7, h8, h9, h10, h11, h12⟩, ⟨h13, h14, h15⟩, ⟨h16, h17, h18⟩⟩ := h
  refine ⟨⟨h1, by rw [e _ (by omega)]; exact h2, fun k c hk => ?_⟩, ⟨h4, by rw [e _ (by omega)]; exact h5, fun k c hk => ?_⟩, ⟨by rw [e _ (by omega)]; exact h7, by rw [e _ (by omega)]; exact h8, by rw [e _ (by omega)]; exact h9, by rw [e _ (by omega)]; exact h10, by rw [e _ (by omega)]; exact h11, by rw [e _ (by omega)]; exact h12⟩, ⟨s, by rw [e _ (by omega)]; exact h14, by rw [e _ (by omega)]; exact h15⟩, ⟨h16, by rw [e _ (by omega)]; exact h17, fun i l hi => (h18 i l hi).fr (fun z _ _ => e z (by omega))⟩⟩
  · have : k < 4 := Nat.lt_of_lt_of_le (li hk) h1
    rw [e _ (by omega)]; exact h3 k c hk
  · have : k < 20 := Nat.lt_of_lt_of_le (li hk) h4
    rw [e _ (by omega)]; exact h6 k c hk
theorem Rep.gv {g : Nat → Int32} {A : Ab} {q : Nat} {x : Qa} (h : Rep g A) (hx : (a_q A)[q]? = some x) (v : Int32) : Rep (upd g (3471 + 556 * q + 32) (v)) (w_q A ((a_q A).set q (x_gv x v))) :=
  h.q hx ((h.1.2.2 q x hx).gv v) (fun z hz => if_neg (by omega))
theorem RepQ.ak {g : Nat → Int32} {q : Nat} {x : Qa} (h : RepQ g q x) (v : Int32) : RepQ (upd g (3471 + 556 * q + 33) (v)) q (x_ak x v) := by
  have e : ∀ z, z ≠ 3471 + 556 * q + 33 → upd g (3471 + 556 * q + 33) (v) z = g z := fun z hz => if_neg hz
  have s : upd g (3471 + 556 * q + 33) (v) (3471 + 556 * q + 33) = v := if_pos rfl
  obtain ⟨⟨h1, h2, h3⟩, ⟨h4, h5, h6⟩, ⟨h7, h8, h9, h10, h11, h12⟩, ⟨h13, h14, h15⟩, ⟨h16, h17, h18⟩⟩ := h
  refine ⟨⟨h1, by rw [e _ (by omega)]; exact h2, fun k c hk => ?_⟩, ⟨h4, by rw [e _ (by omega)]; exact h5, fun k c hk => ?_⟩, ⟨by rw [e _ (by omega)]; exact h7, by rw [e _ (by omega)]; exact h8, by rw [e _ (by omega)]; exact h9, by rw [e _ (by omega)]; exact h10, by rw [e _ (by omega)]; exact h11, by rw [e _ (by omega)]; exact h12⟩, ⟨by rw [e _ (by omega)]; exact h13, s, by rw [e _ (by omega)]; exact h15⟩, ⟨h16, by rw [e _ (by omega)]; exact h17, fun i l hi => (h18 i l hi).fr (fun z _ _ => e z (by omega))⟩⟩
  · have : k < 4 := Nat.lt_of_lt_of_le (li hk) h1
    rw [e _ (by omega)]; exact h3 k c hk
  · have : k < 20 := Nat.lt_of_lt_of_le (li hk) h4
    rw [e _ (by omega)]; exact h6 k c hk
theorem Rep.ak {g : Nat → Int32} {A : Ab} {q : Nat} {x : Qa} (h : Rep g A) (hx : (a_q A)[q]? = some x) (v : Int32) : Rep (upd g (3471 + 556 * q + 33) (v)) (w_q A ((a_q A).set q (x_ak x v))) :=
  h.q hx ((h.1.2.2 q x hx).ak v) (fun z hz => if_neg (by omega))
theorem RepQ.di {g : Nat → Int32} {q : Nat} {x : Qa} (h : RepQ g q x) (v : Int32) : RepQ (upd g (3471 + 556 * q + 34) (v)) q (x_di x v) := by
  have e : ∀ z, z ≠ 3471 + 556 * q + 34 → upd g (3471 + 556 * q + 34) (v) z = g z := fun z hz => if_neg hz
  have s : upd g (3471 + 556 * q + 34) (v) (3471 + 556 * q + 34) = v := if_pos rfl
  obtain ⟨⟨h1, h2, h3⟩, ⟨h4, h5, h6⟩, ⟨h7, h8, h9, h10, h11, h12⟩, ⟨h13, h14, h15⟩, ⟨h16, h17, h18⟩⟩ := h
  refine ⟨⟨h1, by rw [e _ (by omega)]; exact h2, fun k c hk => ?_⟩, ⟨h4, by rw [e _ (by omega)]; exact h5, fun k c hk => ?_⟩, ⟨by rw [e _ (by omega)]; exact h7, by rw [e _ (by omega)]; exact h8, by rw [e _ (by omega)]; exact h9, by rw [e _ (by omega)]; exact h10, by rw [e _ (by omega)]; exact h11, by rw [e _ (by omega)]; exact h12⟩, ⟨by rw [e _ (by omega)]; exact h13, by rw [e _ (by omega)]; exact h14, s⟩, ⟨h16, by rw [e _ (by omega)]; exact h17, fun i l hi => (h18 i l hi).fr (fun z _ _ => e z (by omega))⟩⟩
  · have : k < 4 := Nat.lt_of_lt_of_le (li hk) h1
    rw [e _ (by omega)]; exact h3 k c hk
  · have : k < 20 := Nat.lt_of_lt_of_le (li hk) h4
    rw [e _ (by omega)]; exact h6 k c hk
theorem Rep.di {g : Nat → Int32} {A : Ab} {q : Nat} {x : Qa} (h : Rep g A) (hx : (a_q A)[q]? = some x) (v : Int32) : Rep (upd g (3471 + 556 * q + 34) (v)) (w_q A ((a_q A).set q (x_di x v))) :=
  h.q hx ((h.1.2.2 q x hx).di v) (fun z hz => if_neg (by omega))

theorem set_get {α : Type} {l : List α} {i : Nat} {x v : α} (h : l[i]? = some x) : (l.set i v)[i]? = some v := by
  have := li h
  rw [List.getElem?_set_self this]
/-- room among the dead -/
def roomD (D : List Da) : List Da := if D.length = 30 then D.drop 1 else D
theorem roomD_len {D : List Da} (h : D.length ≤ 30) : (roomD D).length = nRoom D.length := by
  unfold roomD nRoom
  split
  · rw [List.length_drop]; omega
  · rfl
theorem Rep.room {g : Nat → Int32} {A : Ab} {nd : Nat} (h : Rep g A) (hd : (a_d A).length = nd) : Rep (gRoom g nd) (w_d A (roomD (a_d A))) := by
  have h30 := h.2.2.2.1.1
  have h3 := h.2.2.2.1.2.1
  have hD := h.2.2.2.1.2.2
  by_cases e : nd = 30
  · have e2 : roomD (a_d A) = (a_d A).drop 1 := by unfold roomD; rw [if_pos (by omega)]
    have e3 : gRoom g nd = gDrop g := by unfold gRoom; rw [if_pos e]
    rw [e2, e3]
    refine h.d (by rw [List.length_drop]; omega) (by rw [List.length_drop, hd, e]; exact if_pos rfl) (fun i x hi => ?_) (fun z h1 h2 => ?_)
    · rw [List.getElem?_drop] at hi
      have := li hi
      refine (hD (1 + i) x hi).mv (fun z hz => ?_)
      simp only [gDrop]
      rw [if_neg (by omega), if_pos (by omega)]
      congr 1
      omega
    · simp only [gDrop]
      rw [if_neg h1, if_neg (by omega)]
  · have e2 : roomD (a_d A) = a_d A := by unfold roomD; rw [if_neg (by omega)]
    have e3 : gRoom g nd = g := by unfold gRoom; rw [if_neg e]
    rw [e2, e3]
    exact h


/-- one more of the dead, no causes yet -/
theorem Rep.nd {g : Nat → Int32} {A : Ab} {q m k : Nat} {x : Qa} (h : Rep g A) (hx : (a_q A)[q]? = some x) (hk : (a_d A).length = k) (h29 : k ≤ 29) : Rep (gND g q k (nI m)) (w_d (w_q A ((a_q A).set q (x_di x (q_di x + nI 1)))) (a_d A ++ [(m, q, a_n A, [])])) := by
  have hq : q < 8 := Nat.lt_of_lt_of_le (li hx) h.1.1
  have hdi := (h.1.2.2 q x hx).2.2.2.1.2.2
  have hn := h.2.2.2.2.1
  have h1 := h.di hx (q_di x + nI 1)
  refine h1.d (by rw [List.length_append, hk]; show k + 1 ≤ 30; omega) ?_ (fun i y hi => ?_) (fun z h2 h3 => ?_)
  · rw [List.length_append, hk]
    simp only [gND]
    rw [if_neg (by omega), if_neg (by omega), if_neg (by omega), if_neg (by omega), if_neg (by omega)]
    rfl
  · rcases app_or hi with ⟨rfl, rfl⟩ | ⟨hlt, hi⟩
    · subst hk
      refine ⟨Nat.zero_le 5, ?_, ?_, ?_, ?_, fun k c hk => by cases hk⟩
      · simp only [gND]; rw [if_neg (by omega), if_neg (by omega), if_neg (by omega), if_neg (by omega), if_pos (by omega)]
      · simp only [gND]; rw [if_neg (by omega), if_neg (by omega), if_neg (by omega)]; rfl
      · simp only [gND]; rw [if_neg (by omega), if_neg (by omega)]; exact hn
      · simp only [gND]; rw [if_neg (by omega)]; rfl
    · refine (h.2.2.2.1.2.2 i y hi).fr (fun z h4 h5 => ?_)
      simp only [gND]
      rw [if_neg (by omega), if_neg (by omega), if_neg (by omega), if_neg (by omega), if_neg (by omega), if_neg (by omega)]
  · simp only [gND, upd]
    by_cases e : z = 3471 + 556 * q + 34
    · rw [if_pos e, if_pos e, e, hdi]
    · rw [if_neg e, if_neg e, if_neg (by omega), if_neg (by omega), if_neg (by omega), if_neg (by omega), if_neg h2]
theorem Rep.newD {g : Nat → Int32} {A : Ab} {q m : Nat} {x : Qa} (h : Rep g A) (hx : (a_q A)[q]? = some x) : Rep (gNewDead g q (a_d A).length (nI m)) (w_d (w_q A ((a_q A).set q (x_di x (q_di x + nI 1)))) (roomD (a_d A) ++ [(m, q, a_n A, [])])) := by
  have h1 := h.room rfl
  exact h1.nd (A := w_d A (roomD (a_d A))) hx (roomD_len h.2.2.2.1.1) (nRoom_le h.2.2.2.1.1)
/-- the last of the dead changed -/
theorem Rep.lastD {g g' : Nat → Int32} {A : Ab} {D : List Da} {d d' : Da} {k : Nat} (h : Rep g A) (hD : a_d A = D ++ [d]) (hk : D.length = k) (h' : RepD g' k d') (e : ∀ z, (z < 2751 + 24 * k ∨ 2751 + 24 * k + 24 ≤ z) → g' z = g z) : Rep g' (w_d A (D ++ [d'])) := by
  have h30 := h.2.2.2.1.1
  rw [hD, List.length_append] at h30
  have h31 : D.length + 1 ≤ 30 := h30
  refine h.d (by rw [List.length_append]; exact h30) ?_ (fun i y hi => ?_) (fun z h1 h2 => e z (by omega))
  · have := h.2.2.2.1.2.1
    rw [hD, List.length_append] at this
    rw [List.length_append, e 3 (by omega)]; exact this
  · rcases app_or hi with ⟨rfl, rfl⟩ | ⟨hlt, hi⟩
    · rw [hk]; exact h'
    · refine (h.2.2.2.1.2.2 i y ?_).fr (fun z h4 h5 => e z (by omega))
      rw [hD, List.getElem?_append_left hlt]; exact hi
/-- a letter in its place changed -/
theorem RepQ.lt {g g' : Nat → Int32} {q i : Nat} {x : Qa} {l l' : La} (h : RepQ g q x) (hl : (q_ls x)[i]? = some l) (h' : RepL g' (3471 + 556 * q + 36 + 26 * i) l') (e : ∀ z, (z < 3471 + 556 * q + 36 + 26 * i ∨ 3471 + 556 * q + 36 + 26 * i + 26 ≤ z) → g' z = g z) : RepQ g' q (x_ls x ((q_ls x).set i l')) := by
  have h20 := h.2.2.2.2.1
  have hi := li hl
  refine h.ls (by rw [List.length_set]; exact h20) (by rw [List.length_set, e _ (by omega)]; exact h.2.2.2.2.2.1) (fun j y hj => ?_) (fun z hz => e _ (by omega))
  rcases set_or hj with ⟨rfl, rfl⟩ | ⟨hne, hj⟩
  · exact h'
  · exact (h.2.2.2.2.2.2 j y hj).fr (fun z h1 h2 => e z (by omega))
theorem Rep.lt {g g' : Nat → Int32} {A : Ab} {q i : Nat} {x : Qa} {l l' : La} (h : Rep g A) (hx : (a_q A)[q]? = some x) (hl : (q_ls x)[i]? = some l) (h' : RepL g' (3471 + 556 * q + 36 + 26 * i) l') (e : ∀ z, (z < 3471 + 556 * q + 36 + 26 * i ∨ 3471 + 556 * q + 36 + 26 * i + 26 ≤ z) → g' z = g z) : Rep g' (w_q A ((a_q A).set q (x_ls x ((q_ls x).set i l')))) := by
  have h20 := (h.1.2.2 q x hx).2.2.2.2.1
  have hi := li hl
  exact h.q hx ((h.1.2.2 q x hx).lt hl h' e) (fun z hz => e z (by omega))
