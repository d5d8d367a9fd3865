/-! AN ABSTRACT STATE: lists; how the reference's row g stands for one. -/
abbrev Ca := Int32 × Int32 × Int32 × Int32
abbrev La := Nat × Nat × Nat × Nat × List Ca
abbrev Qa := List Int32 × List Int32 × (Nat × Nat × Nat × Nat × Nat × Nat) × (Int32 × Int32 × Int32) × List La
abbrev Ma := Nat × Nat × Nat × Int32 × Nat
abbrev Co := Nat × Nat × Nat × Int32
abbrev Da := Nat × Nat × Nat × List Ca
abbrev Ab := List Qa × List Co × List Ma × List Da × Nat × Int32 × List Int32
abbrev l_m (l : La) : Nat := l.1
abbrev l_s (l : La) : Nat := l.2.1
abbrev l_x (l : La) : Nat := l.2.2.1
abbrev l_t (l : La) : Nat := l.2.2.2.1
abbrev l_c (l : La) : List Ca := l.2.2.2.2
abbrev q_p (x : Qa) : List Int32 := x.1
abbrev q_x (x : Qa) : List Int32 := x.2.1
abbrev q_li (x : Qa) : Nat := x.2.2.1.1
abbrev q_tr (x : Qa) : Nat := x.2.2.1.2.1
abbrev q_le (x : Qa) : Nat := x.2.2.1.2.2.1
abbrev q_ag (x : Qa) : Nat := x.2.2.1.2.2.2.1
abbrev q_ex (x : Qa) : Nat := x.2.2.1.2.2.2.2.1
abbrev q_l1 (x : Qa) : Nat := x.2.2.1.2.2.2.2.2
abbrev q_gv (x : Qa) : Int32 := x.2.2.2.1.1
abbrev q_ak (x : Qa) : Int32 := x.2.2.2.1.2.1
abbrev q_di (x : Qa) : Int32 := x.2.2.2.1.2.2
abbrev q_ls (x : Qa) : List La := x.2.2.2.2
abbrev g_p (x : Ma) : Nat := x.1
abbrev g_k (x : Ma) : Nat := x.2.1
abbrev g_r (x : Ma) : Nat := x.2.2.1
abbrev g_v (x : Ma) : Int32 := x.2.2.2.1
abbrev g_t (x : Ma) : Nat := x.2.2.2.2
abbrev k_q (x : Co) : Nat := x.1
abbrev k_cr (x : Co) : Nat := x.2.1
abbrev k_lf (x : Co) : Nat := x.2.2.1
abbrev k_gt (x : Co) : Int32 := x.2.2.2
abbrev d_m (x : Da) : Nat := x.1
abbrev d_q (x : Da) : Nat := x.2.1
abbrev d_t (x : Da) : Nat := x.2.2.1
abbrev d_c (x : Da) : List Ca := x.2.2.2
abbrev a_q (A : Ab) : List Qa := A.1
abbrev a_c (A : Ab) : List Co := A.2.1
abbrev a_m (A : Ab) : List Ma := A.2.2.1
abbrev a_d (A : Ab) : List Da := A.2.2.2.1
abbrev a_n (A : Ab) : Nat := A.2.2.2.2.1
abbrev a_s (A : Ab) : Int32 := A.2.2.2.2.2.1
abbrev a_t (A : Ab) : List Int32 := A.2.2.2.2.2.2
/-- changes of one field -/
def w_q (A : Ab) (v : List Qa) : Ab := (v, A.2)
def w_c (A : Ab) (v : List Co) : Ab := (A.1, v, A.2.2)
def w_m (A : Ab) (v : List Ma) : Ab := (A.1, A.2.1, v, A.2.2.2)
def w_d (A : Ab) (v : List Da) : Ab := (A.1, A.2.1, A.2.2.1, v, A.2.2.2.2)
def w_n (A : Ab) (v : Nat) : Ab := (A.1, A.2.1, A.2.2.1, A.2.2.2.1, v, A.2.2.2.2.2)
def w_s (A : Ab) (v : Int32) : Ab := (A.1, A.2.1, A.2.2.1, A.2.2.2.1, A.2.2.2.2.1, v, A.2.2.2.2.2.2)
def w_t (A : Ab) (v : List Int32) : Ab := (A.1, A.2.1, A.2.2.1, A.2.2.2.1, A.2.2.2.2.1, A.2.2.2.2.2.1, v)
def x_ls (x : Qa) (v : List La) : Qa := (x.1, x.2.1, x.2.2.1, x.2.2.2.1, v)
def x_ex (x : Qa) (v : Nat) : Qa := (x.1, x.2.1, (q_li x, q_tr x, q_le x, q_ag x, v, q_l1 x), x.2.2.2)
def x_l1 (x : Qa) (v : Nat) : Qa := (x.1, x.2.1, (q_li x, q_tr x, q_le x, q_ag x, q_ex x, v), x.2.2.2)
def x_gv (x : Qa) (v : Int32) : Qa := (x.1, x.2.1, x.2.2.1, (v, q_ak x, q_di x), x.2.2.2.2)
def x_ak (x : Qa) (v : Int32) : Qa := (x.1, x.2.1, x.2.2.1, (q_gv x, v, q_di x), x.2.2.2.2)
def x_di (x : Qa) (v : Int32) : Qa := (x.1, x.2.1, x.2.2.1, (q_gv x, q_ak x, v), x.2.2.2.2)
def whoI (l : La) : Int32 := if l_s l = 2 then nI (l_x l) else -1
def tillI (l : La) : Int32 := if l_s l = 0 then -1 else nI (l_t l)
def RepC (g : Nat → Int32) (a : Nat) (cs : List Ca) : Prop := ∀ k c, cs[k]? = some c → g (a + 4 * k) = c.1 ∧ g (a + 4 * k + 1) = c.2.1 ∧ g (a + 4 * k + 2) = c.2.2.1 ∧ g (a + 4 * k + 3) = c.2.2.2
def RepL (g : Nat → Int32) (a : Nat) (l : La) : Prop := (l_c l).length ≤ 5 ∧ g (a + 0) = nI (l_m l) ∧ g (a + 1) = nI (l_s l) ∧ g (a + 2) = nI (l_c l).length ∧ g (a + 3) = whoI l ∧ g (a + 4) = tillI l ∧ g (a + 5) = nI (l_c l).length ∧ RepC g (a + 6) (l_c l)
def RepQ (g : Nat → Int32) (q : Nat) (x : Qa) : Prop :=
  ((q_p x).length ≤ 4 ∧ g (3471 + 556 * q + 0) = nI (q_p x).length ∧ ∀ k c, (q_p x)[k]? = some c → g (3471 + 556 * q + (1 + k)) = c) ∧
  ((q_x x).length ≤ 20 ∧ g (3471 + 556 * q + 5) = nI (q_x x).length ∧ ∀ k c, (q_x x)[k]? = some c → g (3471 + 556 * q + (6 + k)) = c) ∧
  (g (3471 + 556 * q + 26) = nI (q_li x) ∧ g (3471 + 556 * q + 27) = nI (q_tr x) ∧ g (3471 + 556 * q + 28) = nI (q_le x) ∧ g (3471 + 556 * q + 29) = nI (q_ag x) ∧ g (3471 + 556 * q + 30) = nI (q_ex x) ∧ g (3471 + 556 * q + 31) = nI (q_l1 x) - nI 1) ∧
  (g (3471 + 556 * q + 32) = q_gv x ∧ g (3471 + 556 * q + 33) = q_ak x ∧ g (3471 + 556 * q + 34) = q_di x) ∧
  ((q_ls x).length ≤ 20 ∧ g (3471 + 556 * q + 35) = nI (q_ls x).length ∧ ∀ i l, (q_ls x)[i]? = some l → RepL g (3471 + 556 * q + 36 + 26 * i) l)
def RepM (g : Nat → Int32) (m : Nat) (x : Ma) : Prop := g (51 + 9 * m + 0) = nI (g_p x) ∧ g (51 + 9 * m + 5) = nI (g_k x) ∧ g (51 + 9 * m + 6) = nI (g_r x) ∧ g (51 + 9 * m + 7) = g_v x ∧ g (51 + 9 * m + 8) = nI (g_t x)
def RepK (g : Nat → Int32) (c : Nat) (x : Co) : Prop := g (11 + 4 * c + 0) = nI (k_q x) ∧ g (11 + 4 * c + 1) = nI (k_cr x) ∧ g (11 + 4 * c + 2) = nI (k_lf x) ∧ g (11 + 4 * c + 3) = k_gt x
def RepD (g : Nat → Int32) (i : Nat) (x : Da) : Prop := (d_c x).length ≤ 5 ∧ g (2751 + 24 * i + 0) = nI (d_m x) ∧ g (2751 + 24 * i + 1) = nI (d_q x) ∧ g (2751 + 24 * i + 2) = nI (d_t x) ∧ g (2751 + 24 * i + 3) = nI (d_c x).length ∧ RepC g (2751 + 24 * i + 4) (d_c x)
def Rep (g : Nat → Int32) (A : Ab) : Prop :=
  ((a_q A).length ≤ 8 ∧ g 0 = nI (a_q A).length ∧ ∀ q x, (a_q A)[q]? = some x → RepQ g q x) ∧
  ((a_c A).length ≤ 10 ∧ g 1 = nI (a_c A).length ∧ ∀ c x, (a_c A)[c]? = some x → RepK g c x) ∧
  ((a_m A).length ≤ 300 ∧ g 2 = nI (a_m A).length ∧ ∀ m x, (a_m A)[m]? = some x → RepM g m x) ∧
  ((a_d A).length ≤ 30 ∧ g 3 = nI (a_d A).length ∧ ∀ i x, (a_d A)[i]? = some x → RepD g i x) ∧
  g 4 = nI (a_n A) ∧ g 5 = a_s A ∧
  ((a_t A).length ≤ 4 ∧ g 6 = nI (a_t A).length ∧ ∀ k c, (a_t A)[k]? = some c → g (7 + k) = c) ∧
  (∀ z, 7919 ≤ z → g z = 0)
theorem li {α : Type} {l : List α} {i : Nat} {x : α} (h : l[i]? = some x) : i < l.length := by
  rw [List.getElem?_eq_some_iff] at h; exact h.1
/-- frames -/
theorem RepC.fr {g g' : Nat → Int32} {a : Nat} {cs : List Ca} (h : RepC g a cs) (e : ∀ z, a ≤ z → z < a + 4 * cs.length → g' z = g z) : RepC g' a cs := by
  intro k c hk
  have := li hk
  obtain ⟨h1, h2, h3, h4⟩ := h k c hk
  exact ⟨by rw [e _ (by omega) (by omega), h1], by rw [e _ (by omega) (by omega), h2], by rw [e _ (by omega) (by omega), h3], by rw [e _ (by omega) (by omega), h4]⟩
/-- moved -/
theorem RepC.mv {g g' : Nat → Int32} {a b : Nat} {cs : List Ca} (h : RepC g a cs) (e : ∀ z, z < 4 * cs.length → g' (b + z) = g (a + z)) : RepC g' b cs := by
  intro k c hk
  have := li hk
  obtain ⟨h1, h2, h3, h4⟩ := h k c hk
  refine ⟨?_, ?_, ?_, ?_⟩
  · rw [e (4 * k) (by omega), h1]
  · rw [Nat.add_assoc, e (4 * k + 1) (by omega), ← Nat.add_assoc, h2]
  · rw [Nat.add_assoc, e (4 * k + 2) (by omega), ← Nat.add_assoc, h3]
  · rw [Nat.add_assoc, e (4 * k + 3) (by omega), ← Nat.add_assoc, h4]
theorem RepL.mv {g g' : Nat → Int32} {a b : Nat} {l : La} (h : RepL g a l) (e : ∀ z, z < 26 → g' (b + z) = g (a + z)) : RepL g' b l := by
  obtain ⟨h0, h1, h2, h3, h4, h5, h6, h7⟩ := h
  refine ⟨h0, by rw [e 0 (by omega), h1], by rw [e 1 (by omega), h2], by rw [e 2 (by omega), h3], by rw [e 3 (by omega), h4], by rw [e 4 (by omega), h5], by rw [e 5 (by omega), h6], h7.mv (fun z hz => ?_)⟩
  rw [Nat.add_assoc, e (6 + z) (by omega), ← Nat.add_assoc]
theorem RepL.fr {g g' : Nat → Int32} {a : Nat} {l : La} (h : RepL g a l) (e : ∀ z, a ≤ z → z < a + 26 → g' z = g z) : RepL g' a l := h.mv (fun z hz => e _ (by omega) (by omega))
theorem RepD.mv {g g' : Nat → Int32} {i j : Nat} {x : Da} (h : RepD g i x) (e : ∀ z, z < 24 → g' (2751 + 24 * j + z) = g (2751 + 24 * i + z)) : RepD g' j x := by
  obtain ⟨h0, h1, h2, h3, h4, h5⟩ := h
  refine ⟨h0, by rw [e 0 (by omega), h1], by rw [e 1 (by omega), h2], by rw [e 2 (by omega), h3], by rw [e 3 (by omega), h4], h5.mv (fun z hz => ?_)⟩
  rw [Nat.add_assoc, e (4 + z) (by omega), ← Nat.add_assoc]
theorem RepD.fr {g g' : Nat → Int32} {i : Nat} {x : Da} (h : RepD g i x) (e : ∀ z, 2751 + 24 * i ≤ z → z < 2751 + 24 * i + 24 → g' z = g z) : RepD g' i x := h.mv (fun z hz => e _ (by omega) (by omega))
theorem RepQ.fr {g g' : Nat → Int32} {q : Nat} {x : Qa} (h : RepQ g q x) (e : ∀ z, 3471 + 556 * q ≤ z → z < 3471 + 556 * q + 556 → g' z = g z) : RepQ g' q x := by
  obtain ⟨⟨h1, h2, h3⟩, ⟨h4, h5, h6⟩, ⟨h7, h8, h9, h10, h11, h12⟩, ⟨h13, h14, h15⟩, ⟨h16, h17, h18⟩⟩ := h
  refine ⟨⟨h1, by rw [e _ (by omega) (by omega), h2], fun k c hk => ?_⟩, ⟨h4, by rw [e _ (by omega) (by omega), h5], fun k c hk => ?_⟩, ⟨by rw [e _ (by omega) (by omega), h7], by rw [e _ (by omega) (by omega), h8], by rw [e _ (by omega) (by omega), h9], by rw [e _ (by omega) (by omega), h10], by rw [e _ (by omega) (by omega), h11], by rw [e _ (by omega) (by omega), h12]⟩, ⟨by rw [e _ (by omega) (by omega), h13], by rw [e _ (by omega) (by omega), h14], by rw [e _ (by omega) (by omega), h15]⟩, ⟨h16, by rw [e _ (by omega) (by omega), h17], fun i l hi => ?_⟩⟩
  · have := li hk; rw [e _ (by omega) (by omega), h3 k c hk]
  · have := li hk; rw [e _ (by omega) (by omega), h6 k c hk]
  · have := li hi; exact (h18 i l hi).fr (fun z h1 h2 => e _ (by omega) (by omega))
theorem RepM.fr {g g' : Nat → Int32} {m : Nat} {x : Ma} (h : RepM g m x) (e : ∀ z, 51 + 9 * m ≤ z → z < 51 + 9 * m + 9 → g' z = g z) : RepM g' m x := by
  obtain ⟨h1, h2, h3, h4, h5⟩ := h
  exact ⟨by rw [e _ (by omega) (by omega), h1], by rw [e _ (by omega) (by omega), h2], by rw [e _ (by omega) (by omega), h3], by rw [e _ (by omega) (by omega), h4], by rw [e _ (by omega) (by omega), h5]⟩
theorem RepK.fr {g g' : Nat → Int32} {c : Nat} {x : Co} (h : RepK g c x) (e : ∀ z, 11 + 4 * c ≤ z → z < 11 + 4 * c + 4 → g' z = g z) : RepK g' c x := by
  obtain ⟨h1, h2, h3, h4⟩ := h
  exact ⟨by rw [e _ (by omega) (by omega), h1], by rw [e _ (by omega) (by omega), h2], by rw [e _ (by omega) (by omega), h3], by rw [e _ (by omega) (by omega), h4]⟩
/-- a list with one place changed -/
theorem set_or {α : Type} {l : List α} {i j : Nat} {v x : α} (h : (l.set i v)[j]? = some x) : (j = i ∧ x = v) ∨ (j ≠ i ∧ l[j]? = some x) := by
  by_cases e : i = j
  · subst e
    have := li h
    rw [List.length_set] at this
    rw [List.getElem?_set_self this] at h
    exact Or.inl ⟨rfl, (Option.some.inj h).symm⟩
  · rw [List.getElem?_set_ne e] at h
    exact Or.inr ⟨fun x => e x.symm, h⟩
theorem app_or {α : Type} {l : List α} {j : Nat} {v x : α} (h : (l ++ [v])[j]? = some x) : (j = l.length ∧ x = v) ∨ (j < l.length ∧ l[j]? = some x) := by
  have := li h
  rw [List.length_append] at this
  by_cases e : j < l.length
  · rw [List.getElem?_append_left e] at h; exact Or.inr ⟨e, h⟩
  · have e2 : j = l.length := by simp at this; omega
    subst e2
    rw [List.getElem?_append_right (Nat.le_refl _)] at h
    simp at h
    exact Or.inl ⟨rfl, h.symm⟩
theorem er_or {α : Type} {l : List α} {i j : Nat} {x : α} (h : (l.eraseIdx i)[j]? = some x) : (j < i ∧ l[j]? = some x) ∨ (i ≤ j ∧ l[j + 1]? = some x) := by
  rw [List.getElem?_eraseIdx] at h
  split at h
  · exact Or.inl ⟨by assumption, h⟩
  · exact Or.inr ⟨by omega, h⟩
theorem in_or {α : Type} {l : List α} {i j : Nat} {v x : α} (hi : i ≤ l.length) (h : (l.insertIdx i v)[j]? = some x) : (j < i ∧ l[j]? = some x) ∨ (j = i ∧ x = v) ∨ (i < j ∧ l[j - 1]? = some x) := by
  rw [List.getElem?_insertIdx] at h
  split at h
  · exact Or.inl ⟨by assumption, h⟩
  · split at h
    · rename_i h1 h2
      rw [if_pos (by omega)] at h
      exact Or.inr (Or.inl ⟨h2, (Option.some.inj h).symm⟩)
    · exact Or.inr (Or.inr ⟨by omega, h⟩)
