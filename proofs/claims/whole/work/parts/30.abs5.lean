/-! THE ABSTRACT STATE: ready, given, acknowledged, a credit more, the dead lost. -/
theorem set_id {α : Type} {l : List α} {i : Nat} {v : α} (h : l[i]? = some v) : l.set i v = l := by
  apply List.ext_getElem?
  intro j
  by_cases e : i = j
  · subst e; rw [set_get h, h]
  · rw [List.getElem?_set_ne e]
theorem w_q_id {A : Ab} {q : Nat} {x : Qa} (hx : (a_q A)[q]? = some x) : w_q A ((a_q A).set q x) = A := by
  rw [set_id hx]; rfl
theorem aSetL_id {A : Ab} {q i : Nat} {x : Qa} {l : La} (hx : (a_q A)[q]? = some x) (hl : (q_ls x)[i]? = some l) : aSetL A q x i l = A := by
  unfold aSetL
  have e : x_ls x ((q_ls x).set i l) = x := by rw [set_id hl]; rfl
  rw [e, w_q_id hx]
theorem RepC.upd {g : Nat → Int32} {a b : Nat} {cs : List Ca} {v : Int32} (h : RepC g a cs) (hb : b < a ∨ a + 4 * cs.length ≤ b) : RepC (upd g b v) a cs := h.fr (fun z h1 h2 => if_neg (by omega))
def rdyA (now : Nat) (l : La) : La := if l_s l = 1 ∧ l_t l ≤ now then (l_m l, 0, l_x l, l_t l, l_c l) else l
theorem till_le {g : Nat → Int32} {A : Ab} {a : Nat} {l : La} (h : RepL g a l) (h4 : g 4 = nI (a_n A)) (hs : l_s l ≠ 0) (ht : l_t l < 2 ^ 31) (hn : a_n A < 2 ^ 31) : g (a + 4) ≤ g 4 ↔ l_t l ≤ a_n A := by
  have e : g (a + 4) = nI (l_t l) := by rw [h.2.2.2.2.2.1]; exact if_neg hs
  rw [e, h4, nI_leI ht hn]
theorem Rep.rdy {g : Nat → Int32} {A : Ab} {q i : Nat} {x : Qa} {l : La} (h : Rep g A) (hx : (a_q A)[q]? = some x) (hl : (q_ls x)[i]? = some l) (hs : l_s l ≤ 2) (ht : l_t l < 2 ^ 31) (hn : a_n A < 2 ^ 31) : Rep (gRdy g q i) (aSetL A q x i (rdyA (a_n A) l)) := by
  have hL := h.letter hx hl
  have e1 : g (3471 + 556 * q + 36 + 26 * i + 1) = nI 1 ↔ l_s l = 1 := by rw [hL.2.2.1]; exact nI_eq (by omega) (by omega)
  unfold gRdy rdyA
  by_cases c : l_s l = 1 ∧ l_t l ≤ a_n A
  · rw [if_pos ⟨e1.mpr c.1, (till_le hL h.2.2.2.2.1 (by omega) ht hn).mpr c.2⟩, if_pos c]
    have h5 := hL.1
    refine h.lt hx hl ⟨hL.1, ?_, ?_, ?_, ?_, ?_, ?_, ?_⟩ (fun z hz => ?_)
    · simp only [upd]; repeat (first | rw [if_neg (by omega)] | rw [if_pos (by omega)])
      exact hL.2.1
    · simp only [upd]; repeat (first | rw [if_neg (by omega)] | rw [if_pos (by omega)])
      try rfl
    · simp only [upd]; repeat (first | rw [if_neg (by omega)] | rw [if_pos (by omega)])
      exact hL.2.2.2.1
    · simp only [upd]; repeat (first | rw [if_neg (by omega)] | rw [if_pos (by omega)])
      rw [hL.2.2.2.2.1]
      exact (if_neg (by show ¬ l_s l = 2; omega)).trans (if_neg (by show ¬ (0 : Nat) = 2; omega)).symm
    · simp only [upd]; repeat (first | rw [if_neg (by omega)] | rw [if_pos (by omega)])
      try rfl
    · simp only [upd]; repeat (first | rw [if_neg (by omega)] | rw [if_pos (by omega)])
      exact hL.2.2.2.2.2.2.1
    · exact (hL.2.2.2.2.2.2.2.upd (by omega)).upd (by omega)
    · simp only [upd]; rw [if_neg (by omega), if_neg (by omega)]
  · rw [if_neg (fun hh => c ⟨e1.mp hh.1, (till_le hL h.2.2.2.2.1 (by have := e1.mp hh.1; omega) ht hn).mp hh.2⟩), if_neg c, aSetL_id hx hl]
    exact h
/-- a credit more -/
def kMore (k : Co) : Co := (k_q k, min 9 (k_cr k + 1), k_lf k, k_gt k)
theorem cMore_nI {n : Nat} (h : n ≤ 9) : cMore (nI n) = nI (min 9 (n + 1)) := by
  unfold cMore
  rw [nI_add]
  by_cases e : n + 1 < 9
  · rw [if_pos (nI_lt e (by omega)), show min 9 (n + 1) = n + 1 by omega]
  · rw [if_neg (nI_nlt (by omega) (by omega)), show min 9 (n + 1) = 9 by omega]
theorem Rep.cr {g : Nat → Int32} {A : Ab} {c : Nat} {k : Co} (h : Rep g A) (hk : (a_c A)[c]? = some k) (h9 : k_cr k ≤ 9) : Rep (upd g (11 + 4 * c + 1) (cMore (g (11 + 4 * c + 1)))) (w_c A ((a_c A).set c (kMore k))) := by
  have hK := h.2.1.2.2 c k hk
  refine h.c hk ⟨?_, ?_, ?_, ?_⟩ (fun z hz => if_neg (by omega))
  · rw [show upd g (11 + 4 * c + 1) (cMore (g (11 + 4 * c + 1))) (11 + 4 * c + 0) = g (11 + 4 * c + 0) from if_neg (by omega)]; exact hK.1
  · rw [show upd g (11 + 4 * c + 1) (cMore (g (11 + 4 * c + 1))) (11 + 4 * c + 1) = cMore (g (11 + 4 * c + 1)) from if_pos rfl, hK.2.1, cMore_nI h9]; rfl
  · rw [show upd g (11 + 4 * c + 1) (cMore (g (11 + 4 * c + 1))) (11 + 4 * c + 2) = g (11 + 4 * c + 2) from if_neg (by omega)]; exact hK.2.2.1
  · rw [show upd g (11 + 4 * c + 1) (cMore (g (11 + 4 * c + 1))) (11 + 4 * c + 3) = g (11 + 4 * c + 3) from if_neg (by omega)]; exact hK.2.2.2
/-- given -/
def outL (l : La) (c t : Nat) : La := (l_m l, 2, c, t, l_c l)
def aGive (A : Ab) (q : Nat) (x : Qa) (i : Nat) (l : La) (c : Nat) (k : Co) : Ab :=
  w_c (w_q A ((a_q A).set q (x_gv (x_l1 (x_ls x ((q_ls x).set i (outL l c (a_n A + q_le x)))) (c + 1)) (q_gv x + nI 1)))) ((a_c A).set c (k_q k, k_cr k - 1, k_lf k, k_gt k + nI 1))
theorem Rep.give {g : Nat → Int32} {A : Ab} {q i c : Nat} {x : Qa} {l : La} {k : Co} (h : Rep g A) (hx : (a_q A)[q]? = some x) (hl : (q_ls x)[i]? = some l) (hk : (a_c A)[c]? = some k) (h0 : 0 < k_cr k) : Rep (gGive g q i c) (aGive A q x i l c k) := by
  have hL := h.letter hx hl
  have hQ := h.1.2.2 q x hx
  have hK := h.2.1.2.2 c k hk
  have hc : c < 10 := Nat.lt_of_lt_of_le (li hk) h.2.1.1
  have hq : q < 8 := Nat.lt_of_lt_of_le (li hx) h.1.1
  have hi : i < 20 := Nat.lt_of_lt_of_le (li hl) hQ.2.2.2.2.1
  have h5 := hL.1
  have hle : g (3471 + 556 * q + 28) = nI (q_le x) := hQ.2.2.1.2.2.1
  have hgv : g (3471 + 556 * q + 32) = q_gv x := hQ.2.2.2.1.1
  have g1 := h.lt (g' := upd (upd (upd g (3471 + 556 * q + 36 + 26 * i + 1) (nI 2)) (3471 + 556 * q + 36 + 26 * i + 3) (nI c)) (3471 + 556 * q + 36 + 26 * i + 4) (g 4 + g (3471 + 556 * q + 28))) (l' := outL l c (a_n A + q_le x)) hx hl (by
      refine ⟨hL.1, ?_, ?_, ?_, ?_, ?_, ?_, ?_⟩
      · simp only [upd]; repeat (first | rw [if_neg (by omega)] | rw [if_pos (by omega)])
        exact hL.2.1
      · simp only [upd]; repeat (first | rw [if_neg (by omega)] | rw [if_pos (by omega)])
        try rfl
      · simp only [upd]; repeat (first | rw [if_neg (by omega)] | rw [if_pos (by omega)])
        exact hL.2.2.2.1
      · simp only [upd]; repeat (first | rw [if_neg (by omega)] | rw [if_pos (by omega)])
        try rfl
      · simp only [upd, h.2.2.2.2.1, hle, nI_add]; repeat (first | rw [if_neg (by omega)] | rw [if_pos (by omega)])
        try rfl
      · simp only [upd]; repeat (first | rw [if_neg (by omega)] | rw [if_pos (by omega)])
        exact hL.2.2.2.2.2.2.1
      · exact ((hL.2.2.2.2.2.2.2.upd (by omega)).upd (by omega)).upd (by omega)) (fun z hz => by
      simp only [upd]; rw [if_neg (by omega), if_neg (by omega), if_neg (by omega)])
  have g2 := g1.c (c := c) (x := k) (x' := (k_q k, k_cr k - 1, k_lf k, k_gt k + nI 1)) (g' := upd (upd (upd (upd (upd g (3471 + 556 * q + 36 + 26 * i + 1) (nI 2)) (3471 + 556 * q + 36 + 26 * i + 3) (nI c)) (3471 + 556 * q + 36 + 26 * i + 4) (g 4 + g (3471 + 556 * q + 28))) (11 + 4 * c + 1) (g (11 + 4 * c + 1) - nI 1)) (11 + 4 * c + 3) (g (11 + 4 * c + 3) + nI 1)) hk (by
      refine ⟨?_, ?_, ?_, ?_⟩
      · simp only [upd]; repeat (first | rw [if_neg (by omega)] | rw [if_pos (by omega)])
        exact hK.1
      · simp only [upd]; repeat (first | rw [if_neg (by omega)] | rw [if_pos (by omega)])
        rw [hK.2.1]; exact nI_subE rfl rfl (by omega)
      · simp only [upd]; repeat (first | rw [if_neg (by omega)] | rw [if_pos (by omega)])
        exact hK.2.2.1
      · simp only [upd, hK.2.2.2]; repeat (first | rw [if_neg (by omega)] | rw [if_pos (by omega)])
        try rfl) (fun z hz => by
      simp only [upd]
      by_cases e : z = 3471 + 556 * q + 36 + 26 * i + 4
      · rw [if_neg (by omega), if_neg (by omega)]
      · rw [if_neg (by omega), if_neg (by omega)])
  have g3 := g2.l1 (q := q) (x := x_ls x ((q_ls x).set i (outL l c (a_n A + q_le x)))) (set_get hx) (c + 1)
  have g4 := g3.gv (q := q) (set_get (set_get hx)) (q_gv x + nI 1)
  have e1 : nI (c + 1) - nI 1 = nI c := nI_subE (m := c + 1) (n := 1) rfl rfl (by omega)
  have e2 : ∀ (L : List Qa) (a b d : Qa), ((L.set q a).set q b).set q d = L.set q d := fun L a b d => by rw [List.set_set, List.set_set]
  rw [e1] at g4
  unfold gGive aGive
  rw [hgv]
  have e3 := e2 (a_q A) (x_ls x ((q_ls x).set i (outL l c (a_n A + q_le x)))) (x_l1 (x_ls x ((q_ls x).set i (outL l c (a_n A + q_le x)))) (c + 1)) (x_gv (x_l1 (x_ls x ((q_ls x).set i (outL l c (a_n A + q_le x)))) (c + 1)) (q_gv x + nI 1))
  rw [← e3]
  exact g4
/-- acknowledged -/
def aAck (A : Ab) (q : Nat) (x : Qa) (i c : Nat) (k : Co) : Ab :=
  w_c (w_q A ((a_q A).set q (x_ak (x_ls x ((q_ls x).eraseIdx i)) (q_ak x + nI 1)))) ((a_c A).set c (kMore k))
theorem Rep.ack {g : Nat → Int32} {A : Ab} {q i c n : Nat} {x : Qa} {k : Co} (h : Rep g A) (hx : (a_q A)[q]? = some x) (hi : i < (q_ls x).length) (hn : (q_ls x).length = n + 1) (hk : (a_c A)[c]? = some k) (h9 : k_cr k ≤ 9) : Rep (gAck g q i n c) (aAck A q x i c k) := by
  have hQ := h.1.2.2 q x hx
  have hc : c < 10 := Nat.lt_of_lt_of_le (li hk) h.2.1.1
  have hq : q < 8 := Nat.lt_of_lt_of_le (li hx) h.1.1
  have h20 := hQ.2.2.2.2.1
  have hak : g (3471 + 556 * q + 33) = q_ak x := hQ.2.2.2.1.2.1
  have g1 := h.go hx hi hn
  have g2 := g1.cr (c := c) (k := k) hk h9
  have e0 : gGo g q i n (11 + 4 * c + 1) = g (11 + 4 * c + 1) := by
    simp only [gGo]; rw [if_neg (by omega), if_neg (by omega)]
  rw [e0] at g2
  have g3 := g2.ak (q := q) (set_get hx) (q_ak x + nI 1)
  have e1 : ∀ (L : List Qa) (a b : Qa), (L.set q a).set q b = L.set q b := fun L a b => by rw [List.set_set]
  unfold gAck aAck
  rw [hak]
  have e2 := e1 (a_q A) (x_ls x ((q_ls x).eraseIdx i)) (x_ak (x_ls x ((q_ls x).eraseIdx i)) (q_ak x + nI 1))
  rw [← e2]
  exact g3
/-- one of the dead lost -/
theorem Rep.lose {g : Nat → Int32} {A : Ab} {i n : Nat} (h : Rep g A) (hi : i < (a_d A).length) (hn : (a_d A).length = n + 1) : Rep (gLose g i n) (w_d A ((a_d A).eraseIdx i)) := by
  have h30 := h.2.2.2.1.1
  have hl : ((a_d A).eraseIdx i).length = n := by rw [List.length_eraseIdx_of_lt hi, hn]; rfl
  refine h.d (by omega) (by rw [hl]; exact if_pos rfl) (fun j x hj => ?_) (fun z h1 h2 => ?_)
  · have hjn := li hj
    rcases er_or hj with ⟨hji, hj⟩ | ⟨hji, hj⟩
    · refine (h.2.2.2.1.2.2 j x hj).fr (fun z h1 h2 => ?_)
      simp only [gLose]
      rw [if_neg (by omega), if_neg (by omega)]
    · refine (h.2.2.2.1.2.2 (j + 1) x hj).mv (fun z hz => ?_)
      simp only [gLose]
      rw [if_neg (by omega), if_pos (by omega)]
      congr 1
      omega
  · simp only [gLose]
    rw [if_neg h1, if_neg (by omega)]
