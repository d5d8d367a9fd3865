/-! THE ABSTRACT STATE: what is well made; what is asked of it. -/
def WfC (cs : List Ca) : Prop := ∀ (k : Nat) (c : Ca), cs[k]? = some c → ((c.1 = nI 3 ∨ c.1 = nI 4) ∧ c.2.2.2 = nI (cs.length - k)) ∨ ((c.1 = nI 5 ∨ c.1 = nI 6) ∧ c.2.2.2 = nI (cs.length - k - 1))
def WfL (A : Ab) (q : Nat) (x : Qa) (l : La) : Prop :=
  l_m l < (a_m A).length ∧ l_s l ≤ 2 ∧ (l_c l).length < q_tr x ∧ l_t l ≤ a_n A + 99 ∧ (∀ c : Ca, c ∈ l_c l → c.1 = nI 3 ∨ c.1 = nI 4) ∧ WfC (l_c l) ∧
  (l_s l = 2 → ∃ k : Co, (a_c A)[l_x l]? = some k ∧ k_lf k = 0 ∧ k_q k = q)
def WfP (p : List Int32) : Prop := ∀ (k : Nat) (c : Int32), p[k]? = some c → (c = -2 ∨ (c = -3 ∧ k + 1 = p.length) ∨ ∃ n : Nat, 1 ≤ n ∧ n < 27 ^ 4 ∧ c = nI n)
def WfQ (A : Ab) (q : Nat) (x : Qa) : Prop :=
  (1 ≤ (q_p x).length ∧ WfP (q_p x)) ∧ (1 ≤ q_li x ∧ q_li x ≤ 20) ∧ (1 ≤ q_tr x ∧ q_tr x ≤ 5) ∧ (1 ≤ q_le x ∧ q_le x ≤ 99) ∧ q_ag x ≤ 999 ∧ q_ex x ≤ 1 ∧ q_l1 x ≤ (a_c A).length ∧ (q_ls x).length ≤ q_li x ∧
  (∀ (i : Nat) (l : La), (q_ls x)[i]? = some l → WfL A q x l) ∧
  (∀ (i j : Nat) (l l' : La), i < j → (q_ls x)[i]? = some l → (q_ls x)[j]? = some l' → l_m l < l_m l')
def WfK (A : Ab) (k : Co) : Prop := k_q k < (a_q A).length ∧ k_cr k ≤ 9 ∧ k_lf k ≤ 1 ∧ (k_lf k = 1 → k_cr k = 0)
def WfM (A : Ab) (x : Ma) : Prop := 1 ≤ g_p x ∧ g_p x ≤ 4 ∧ g_k x < 8 ∧ g_r x < 4 ∧ g_t x ≤ a_n A
def WfD (A : Ab) (d : Da) : Prop := d_m d < (a_m A).length ∧ d_q d < (a_q A).length ∧ 1 ≤ (d_c d).length ∧ WfC (d_c d) ∧ d_t d ≤ a_n A ∧
  (∀ (x : Qa) (j : Nat) (l : La), (a_q A)[d_q d]? = some x → (q_ls x)[j]? = some l → l_m l ≠ d_m d)
def WfT (t : List Int32) : Prop := ∀ (k : Nat) (c : Int32), t[k]? = some c → ∃ n : Nat, 1 ≤ n ∧ n < 27 ^ 4 ∧ c = nI n
def Wf (T : Nat) (A : Ab) : Prop :=
  (a_n A ≤ T ∧ T < 2 ^ 20) ∧ (∀ (q : Nat) (x : Qa), (a_q A)[q]? = some x → WfQ A q x) ∧ (∀ (c : Nat) (k : Co), (a_c A)[c]? = some k → WfK A k) ∧
  (∀ (m : Nat) (x : Ma), (a_m A)[m]? = some x → WfM A x) ∧ (∀ (i : Nat) (d : Da), (a_d A)[i]? = some d → WfD A d) ∧
  (∀ (i j : Nat) (d e : Da), i < j → (a_d A)[i]? = some d → (a_d A)[j]? = some e → ¬ (d_m d = d_m e ∧ d_q d = d_q e)) ∧ WfT (a_t A)
/-- key, priority, time of a letter's message -/
def dM : Ma := (0, 0, 0, 0, 0)
def kyA (ms : List Ma) (l : La) : Nat := g_k (ms.getD (l_m l) dM)
def prA (ms : List Ma) (l : La) : Nat := g_r (ms.getD (l_m l) dM)
def pbA (ms : List Ma) (l : La) : Nat := g_t (ms.getD (l_m l) dM)
/-- may letter i be given -/
def mayA (ms : List Ma) (L : List La) (i : Nat) : Bool := match L[i]? with
  | none => false
  | some l => decide (l_s l = 0) && (L.take i).all (fun k => decide (kyA ms k ≠ kyA ms l))
def nxA (ms : List Ma) (L : List La) : Nat → Option Nat
  | 0 => none
  | i + 1 => if mayA ms L i = true then (match nxA ms L i with
    | none => some i
    | some b => if prA ms (L.getD b (0, 0, 0, 0, [])) < prA ms (L.getD i (0, 0, 0, 0, [])) then some i else some b) else nxA ms L i
theorem getD_of {α : Type} {l : List α} {i : Nat} {x d : α} (h : l[i]? = some x) : l.getD i d = x := by
  rw [List.getD_eq_getElem?_getD, h]; rfl
theorem get_of {α : Type} {l : List α} {i : Nat} (h : i < l.length) : ∃ x, l[i]? = some x := ⟨l[i], List.getElem?_eq_getElem h⟩
theorem mayA_iff {ms : List Ma} {L : List La} {i : Nat} {l : La} (h : L[i]? = some l) : mayA ms L i = true ↔ l_s l = 0 ∧ ∀ (k : Nat) (y : La), k < i → L[k]? = some y → kyA ms y ≠ kyA ms l := by
  unfold mayA
  rw [h]
  simp only [Bool.and_eq_true, decide_eq_true_eq, List.all_eq_true]
  refine and_congr_right (fun _ => ⟨fun a k y hk hy => a y ?_, fun a y hy => ?_⟩)
  · rw [List.mem_iff_getElem?]
    exact ⟨k, by rw [List.getElem?_take, if_pos hk]; exact hy⟩
  · rw [List.mem_iff_getElem?] at hy
    obtain ⟨k, hk⟩ := hy
    rw [List.getElem?_take] at hk
    split at hk
    · exact a k y (by assumption) hk
    · cases hk
section ABS6
variable {g : Nat → Int32} {A : Ab} {T q : Nat} {x : Qa}
theorem Wf.ls (w : Wf T A) (hx : (a_q A)[q]? = some x) {i : Nat} {l : La} (hl : (q_ls x)[i]? = some l) : WfL A q x l := (w.2.1 q x hx).2.2.2.2.2.2.2.2.1 i l hl
theorem Rep.msg (h : Rep g A) (w : Wf T A) (hx : (a_q A)[q]? = some x) {i : Nat} {l : La} (hl : (q_ls x)[i]? = some l) : msgN g q i = l_m l ∧ l_m l < 300 := by
  have h1 := (w.ls hx hl).1
  have h300 := h.2.2.1.1
  have h2 := (h.letter hx hl).2.1
  refine ⟨?_, by omega⟩
  unfold msgN
  rw [h2, nI_clamp (by omega)]
theorem Rep.LM (h : Rep g A) (w : Wf T A) (hx : (a_q A)[q]? = some x) : LM g q (q_ls x).length := by
  intro i hi
  obtain ⟨l, hl⟩ := get_of hi
  obtain ⟨e, h3⟩ := h.msg w hx hl
  rw [e]
  exact ⟨h3, (h.letter hx hl).2.1⟩
theorem Rep.mm (h : Rep g A) (w : Wf T A) (hx : (a_q A)[q]? = some x) {i : Nat} {l : La} (hl : (q_ls x)[i]? = some l) : ∃ m : Ma, (a_m A)[l_m l]? = some m ∧ RepM g (l_m l) m ∧ WfM A m := by
  have h1 := (w.ls hx hl).1
  obtain ⟨m, hm⟩ := get_of h1
  exact ⟨m, hm, h.2.2.1.2.2 _ m hm, w.2.2.2.1 _ m hm⟩
theorem Rep.ky (h : Rep g A) (w : Wf T A) (hx : (a_q A)[q]? = some x) {i : Nat} {l : La} (hl : (q_ls x)[i]? = some l) : kyS g q i = nI (kyA (a_m A) l) ∧ kyA (a_m A) l < 8 ∧ prS g q i = nI (prA (a_m A) l) ∧ prA (a_m A) l < 4 ∧ pbS g q i = nI (pbA (a_m A) l) ∧ pbA (a_m A) l ≤ a_n A := by
  obtain ⟨m, hm, hM, hW⟩ := h.mm w hx hl
  have e := (h.msg w hx hl).1
  unfold kyS prS pbS kyA prA pbA
  rw [e, getD_of hm]
  exact ⟨hM.2.1, hW.2.2.1, hM.2.2.1, hW.2.2.2.1, hM.2.2.2.2, hW.2.2.2.2⟩
theorem Rep.may (h : Rep g A) (w : Wf T A) (hx : (a_q A)[q]? = some x) {i : Nat} (hi : i < (q_ls x).length) : mayB g q i = mayA (a_m A) (q_ls x) i := by
  obtain ⟨l, hl⟩ := get_of hi
  have hs := (w.ls hx hl).2.1
  obtain ⟨k1, k2, _⟩ := h.ky w hx hl
  have e1 : (g (3471 + 556 * q + 36 + 26 * i + 1) = 0) ↔ l_s l = 0 := by
    rw [(h.letter hx hl).2.2.1]
    exact nI_eq (b := 0) (by omega) (by omega)
  rw [Bool.eq_iff_iff, mayB_iff, mayA_iff hl, e1]
  refine and_congr_right (fun _ => ⟨fun a k y hk hy e => a k hk ?_, fun a k hk e => ?_⟩)
  · obtain ⟨j1, j2, _⟩ := h.ky w hx hy
    rw [j1, k1, e]
  · obtain ⟨y, hy⟩ := get_of (l := q_ls x) (i := k) (by omega)
    obtain ⟨j1, j2, _⟩ := h.ky w hx hy
    refine a k y hk hy ?_
    rw [j1, k1] at e
    exact (nI_eq (by omega) (by omega)).mp e
theorem Rep.nx (h : Rep g A) (w : Wf T A) (hx : (a_q A)[q]? = some x) : ∀ n, n ≤ (q_ls x).length → nxO g q n = nxA (a_m A) (q_ls x) n
  | 0, _ => rfl
  | n + 1, hn => by
    unfold nxO nxA
    rw [h.may w hx (i := n) (by omega), Rep.nx h w hx n (by omega)]
    by_cases c : mayA (a_m A) (q_ls x) n = true
    · rw [if_pos c, if_pos c]
      cases hb : nxA (a_m A) (q_ls x) n with
      | none => rfl
      | some b =>
        have hb' := nxO_lt g q n b (by rw [Rep.nx h w hx n (by omega)]; exact hb)
        obtain ⟨l, hl⟩ := get_of (l := q_ls x) (i := n) (by omega)
        obtain ⟨y, hy⟩ := get_of (l := q_ls x) (i := b) (by omega)
        obtain ⟨_, _, p1, p2, _⟩ := h.ky w hx hl
        obtain ⟨_, _, r1, r2, _⟩ := h.ky w hx hy
        simp only [getD_of hl, getD_of hy, p1, r1, nI_ltI (show prA (a_m A) y < 2 ^ 31 by omega) (show prA (a_m A) l < 2 ^ 31 by omega)]
    · rw [if_neg c, if_neg c]
end ABS6
