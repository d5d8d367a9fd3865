/-! THE ABSTRACT STATE: failing, ageing. -/
def wt : Nat → Nat
  | 0 => 0
  | 1 => 1
  | 2 => 2
  | 3 => 3
  | 4 => 5
  | _ => 8
def WS (M : Mm) (r : Nat) : Prop := ∀ k, k < 6 → mI M (r + 5) k = nI (wt k)
theorem wt_pos {k : Nat} (h : 1 ≤ k) : 1 ≤ wt k := by
  match k, h with
  | 1, _ => decide
  | 2, _ => decide
  | 3, _ => decide
  | 4, _ => decide
  | k + 5, _ => show 1 ≤ 8; decide
theorem wt_le (k : Nat) : wt k ≤ 8 := by
  match k with
  | 0 => decide
  | 1 => decide
  | 2 => decide
  | 3 => decide
  | 4 => decide
  | k + 5 => show 8 ≤ 8; decide
def crM (A : Ab) (c : Nat) : Ab := match (a_c A)[c]? with
  | none => A
  | some k => w_c A ((a_c A).set c (kMore k))
theorem crM_eq {A : Ab} {c : Nat} {k : Co} (h : (a_c A)[c]? = some k) : crM A c = w_c A ((a_c A).set c (kMore k)) := by
  unfold crM; rw [h]
def failC (A : Ab) (l : La) (c : Nat) (what : Int32) : List Ca := (what, nI (a_n A), nI c, nI ((l_c l).length + 1)) :: l_c l
def restL (A : Ab) (l : La) (c : Nat) (what : Int32) : La := (l_m l, 1, l_x l, a_n A + wt ((l_c l).length + 1), failC A l c what)
def failL (A : Ab) (q : Nat) (x : Qa) (i : Nat) (l : La) (c : Nat) (what : Int32) : Ab :=
  if (l_c l).length + 1 = q_tr x then aDie (crM A c) q x i (l_m l) (failC A l c what) else aSetL (crM A c) q x i (restL A l c what)
theorem er_set {α : Type} {L : List α} {i : Nat} {v : α} : (L.set i v).eraseIdx i = L.eraseIdx i := by
  apply List.ext_getElem?
  intro j
  rw [List.getElem?_eraseIdx, List.getElem?_eraseIdx]
  split
  · rw [List.getElem?_set_ne (by omega)]
  · rw [List.getElem?_set_ne (by omega)]
theorem aDie_set {A : Ab} {q i m : Nat} {x : Qa} {l' : La} {cs : List Ca} : aDie (aSetL A q x i l') q (x_ls x ((q_ls x).set i l')) i m cs = aDie A q x i m cs := by
  have e : ((a_q A).set q (x_ls x ((q_ls x).set i l'))).set q (x_ls (x_di x (q_di x + nI 1)) ((q_ls x).eraseIdx i)) = (a_q A).set q (x_ls (x_di x (q_di x + nI 1)) ((q_ls x).eraseIdx i)) := List.set_set ..
  show w_d (w_q A (((a_q A).set q (x_ls x ((q_ls x).set i l'))).set q (x_ls (x_di x (q_di x + nI 1)) (((q_ls x).set i l').eraseIdx i)))) (roomD (a_d A) ++ [(m, q, a_n A, cs)]) = _
  rw [er_set, e]
  rfl
section ABS9
variable {g : Nat → Int32} {A : Ab} {T q i : Nat} {x : Qa} {l : La}
theorem Rep.failT {n c : Nat} {what : Int32} {k : Co} (h : Rep g A) (w : Wf T A) (hx : (a_q A)[q]? = some x) (hl : (q_ls x)[i]? = some l) (hn : (q_ls x).length = n + 1) (hk : (a_c A)[c]? = some k) :
    Rep (gFailT (upd g (11 + 4 * c + 1) (cMore (g (11 + 4 * c + 1)))) q i n (a_d A).length (l_c l).length ((l_c l).length + 1) (nI (l_m l)) what (nI c) (nI (wt ((l_c l).length + 1)))) (failL A q x i l c what) ∧ (nI ((l_c l).length + 1) = g (3471 + 556 * q + 27) ↔ (l_c l).length + 1 = q_tr x) ∧ ((upd g (11 + 4 * c + 1) (cMore (g (11 + 4 * c + 1)))) (3471 + 556 * q + 27) = g (3471 + 556 * q + 27)) := by
  have hc : c < 10 := Nat.lt_of_lt_of_le (li hk) h.2.1.1
  have hL := w.ls hx hl
  have hQ := w.2.1 q x hx
  have hlen := hL.2.2.1
  have ht5 := hQ.2.2.1.2
  have htr : g (3471 + 556 * q + 27) = nI (q_tr x) := (h.1.2.2 q x hx).2.2.1.2.1
  have e0 : (nI ((l_c l).length + 1) = g (3471 + 556 * q + 27) ↔ (l_c l).length + 1 = q_tr x) := by rw [htr, nI_eq (by omega) (by omega)]
  have e1 : (upd g (11 + 4 * c + 1) (cMore (g (11 + 4 * c + 1)))) (3471 + 556 * q + 27) = g (3471 + 556 * q + 27) := if_neg (by omega)
  refine ⟨?_, e0, e1⟩
  have h1 := h.cr hk (w.2.2.1 c k hk).2.1
  have h2 := h1.failR (q := q) (i := i) (w := wt ((l_c l).length + 1)) (x := x) (l := l) (what := what) (who := nI c) hx hl (by omega)
  unfold gFailT failL
  rw [crM_eq hk, e1]
  by_cases e : (l_c l).length + 1 = q_tr x
  · rw [if_pos (e0.mpr e), if_pos e]
    have h3 := h2.die0 (q := q) (i := i) (n := n) (x := x_ls x ((q_ls x).set i (restL A l c what))) (l := restL A l c what) (set_get hx) (set_get hl) (by show ((q_ls x).set i _).length = n + 1; rw [List.length_set]; exact hn)
    have h4 := aDie_set (A := w_c A ((a_c A).set c (kMore k))) (q := q) (i := i) (m := l_m l) (x := x) (l' := restL A l c what) (cs := failC A l c what)
    rw [← h4]
    exact h3
  · rw [if_neg (fun y => e (e0.mp y)), if_neg e]
    exact h2
def ageL (A : Ab) (q : Nat) (x : Qa) (i : Nat) (l : La) : Ab × Bool :=
  if l_s l = 2 ∧ l_t l ≤ a_n A then (failL A q x i l (l_x l) (nI 4), decide ((l_c l).length + 1 = q_tr x))
  else if l_s (rdyA (a_n A) l) = 0 ∧ 0 < q_ag x ∧ q_ag x ≤ a_n A - pbA (a_m A) l then (aDie A q x i (l_m l) ((nI 5, nI (a_n A), nI (a_n A - pbA (a_m A) l), nI (l_c l).length) :: l_c l), true)
  else (aSetL A q x i (rdyA (a_n A) l), false)
theorem rdyA_m (n : Nat) (l : La) : l_m (rdyA n l) = l_m l := by unfold rdyA; split <;> rfl
theorem rdyA_c (n : Nat) (l : La) : l_c (rdyA n l) = l_c l := by unfold rdyA; split <;> rfl
theorem rdyA_x (n : Nat) (l : La) : l_x (rdyA n l) = l_x l := by unfold rdyA; split <;> rfl
theorem rdyA_s (n : Nat) (l : La) : l_s (rdyA n l) = l_s l ∨ l_s (rdyA n l) = 0 := by
  unfold rdyA
  split
  · exact Or.inr rfl
  · exact Or.inl rfl
theorem WfC_fail (A : Ab) (l : La) (c : Nat) {what : Int32} (h : WfC (l_c l)) (hw : what = nI 3 ∨ what = nI 4) : WfC (failC A l c what) := by
  intro k d hk
  cases k with
  | zero =>
    obtain rfl : _ = d := Option.some.inj hk
    exact Or.inl ⟨hw, rfl⟩
  | succ k =>
    have := h k d hk
    show (_ ∧ d.2.2.2 = nI ((l_c l).length + 1 - (k + 1))) ∨ (_ ∧ d.2.2.2 = nI ((l_c l).length + 1 - (k + 1) - 1))
    rw [Nat.add_sub_add_right]
    exact this
theorem Wf.crm {c : Nat} (w : Wf T A) (h0 : ∀ k : Co, (a_c A)[c]? = some k → k_lf k = 0) : Wf T (crM A c) := by
  unfold crM
  cases e : (a_c A)[c]? with
  | none => exact w
  | some k => exact w.cr e (h0 k e)
end ABS9
