/-! THE REFERENCE: fits, covers, ack, nack. -/
def lgA (p : List Int32) (s : Nat) : Bool := if p.getD (p.length - 1) 0 = -3 then decide (p.length ≤ s + 1) else decide (s = p.length)
def ptA (p : List Int32) (k : Nat) : Int32 := match p[k]? with
  | none => -2
  | some c => if c = -3 then -2 else c
def okP (p p' : List Int32) (k : Nat) : Prop := ptA p k = -2 ∨ ptA p k = ptA p' k
def okB (p p' : List Int32) (k : Nat) : Bool := decide (ptA p k = -2) || decide (ptA p k = ptA p' k)
theorem okB_iff {p p' : List Int32} {k : Nat} : okB p p' k = true ↔ okP p p' k := by
  unfold okB okP
  rw [Bool.or_eq_true, decide_eq_true_eq, decide_eq_true_eq]
def covA (p p' : List Int32) : Bool := (List.range 4).all (fun n => !(lgA p' (n + 1)) || (lgA p (n + 1) && (List.range (n + 1)).all (fun k => okB p p' k)))
theorem covA_iff {p p' : List Int32} : covA p p' = true ↔ ∀ n, 1 ≤ n → n < 5 → lgA p' n = true → (lgA p n = true ∧ ∀ k, k < n → okP p p' k) := by
  unfold covA
  rw [List.all_eq_true]
  constructor
  · intro h n h1 h2 h3
    have := h (n - 1) (List.mem_range.mpr (by omega))
    rw [show n - 1 + 1 = n by omega, h3, Bool.not_true, Bool.false_or, Bool.and_eq_true, List.all_eq_true] at this
    exact ⟨this.1, fun k hk => okB_iff.mp (this.2 k (List.mem_range.mpr hk))⟩
  · intro h n hn
    have hn' := List.mem_range.mp hn
    cases e : lgA p' (n + 1) with
    | false => rfl
    | true =>
      obtain ⟨h1, h2⟩ := h (n + 1) (by omega) (by omega) e
      rw [h1, Bool.not_true, Bool.false_or, Bool.true_and, List.all_eq_true]
      exact fun k hk => okB_iff.mpr (h2 k (List.mem_range.mp hk))
def fitA (p t : List Int32) : Bool := lgA p t.length && (List.range t.length).all (fun k => okB p t k)
theorem fitA_iff {p t : List Int32} : fitA p t = true ↔ lgA p t.length = true ∧ ∀ k, k < t.length → okP p t k := by
  unfold fitA
  rw [Bool.and_eq_true, List.all_eq_true]
  exact and_congr_right (fun _ => ⟨fun h k hk => okB_iff.mp (h k (List.mem_range.mpr hk)), fun h k hk => okB_iff.mpr (h k (List.mem_range.mp hk))⟩)
def fitQ (A : Ab) (q : Nat) : Bool := match (a_q A)[q]? with
  | none => false
  | some x => fitA (q_p x) (a_t A)
def fbI (A : Ab) : Nat → Int32
  | 0 => nI 0
  | n + 1 => fbI A n ||| (if fitQ A n = true then nI 1 <<< (nI n &&& 31) else nI 0)
def fFits (A : Ab) : Rs := if (a_t A).length = 0 then .inl 3 else .inr (fbI A (a_q A).length, A)
def fCovers (A : Ab) (q p : Int32) : Rs := match ixN q (a_q A).length with
  | none => .inl 0
  | some j => match ixN p (a_q A).length with
    | none => .inl 0
    | some n => match (a_q A)[j]? with
      | none => .inl 0
      | some x => match (a_q A)[n]? with
        | none => .inl 0
        | some y => .inr (if covA (q_p x) (q_p y) = true then nI 1 else nI 0, A)
theorem oaA_at (L : List La) (c : Nat) (m : Option Nat) : ∀ (d i p : Nat), oaA L c m d i = some p → isA L c m p = true
  | 0, _, _, h => by cases h
  | d + 1, i, p, h => by
    unfold oaA at h
    split at h
    · rename_i c1
      cases h; exact c1
    · exact oaA_at L c m d (i + 1) p h
def fAck (A : Ab) (c m : Int32) : Rs := match hereN A c with
  | none => .inl 0
  | some j => match ixN m 2147483648 with
    | none => .inl 0
    | some n => match (a_c A)[j]? with
      | none => .inl 0
      | some k => match (a_q A)[k_q k]? with
        | none => .inl 0
        | some x => match oaA (q_ls x) j (some n) (q_ls x).length 0 with
          | none => .inl 0
          | some i => .inr (nI (cnA (outB ((q_ls x).eraseIdx i) j) ((q_ls x).eraseIdx i).length), aAck A (k_q k) x i j k)
def fNack (A : Ab) (c m : Int32) : Rs := match hereN A c with
  | none => .inl 0
  | some j => match ixN m 2147483648 with
    | none => .inl 0
    | some n => match (a_c A)[j]? with
      | none => .inl 0
      | some k => match (a_q A)[k_q k]? with
        | none => .inl 0
        | some x => match oaA (q_ls x) j (some n) (q_ls x).length 0 with
          | none => .inl 0
          | some i => match (q_ls x)[i]? with
            | none => .inl 0
            | some l => .inr (nI ((l_c l).length + 1), failL A (k_q k) x i l j (nI 3))
section PUB11
variable {E : Nat × Nat} {M : Mm} {r T : Nat} {g : Nat → Int32} {A : Ab} {Q : Option Value → Mm → Prop} {q c i : Nat} {x y : Qa} {k : Co} {l : La}
theorem Rep.lg (h : Rep g A) (w : Wf T A) (hx : (a_q A)[q]? = some x) (s : Nat) : lgS g q (q_p x).length s ↔ lgA (q_p x) s = true := by
  have h1 := (w.2.1 q x hx).1.1
  have hp := (h.1.2.2 q x hx).1.2.2
  obtain ⟨c, hc⟩ := get_of (l := q_p x) (i := (q_p x).length - 1) (by omega)
  have e := hp _ c hc
  rw [show 1 + ((q_p x).length - 1) = (q_p x).length by omega] at e
  unfold lgS lgA
  rw [e, getD_of hc]
  split
  · rename_i e3
    rw [decide_eq_true_eq]
    exact ⟨fun y => y.elim (fun z => z.2) (fun z => absurd e3 z.1), fun z => Or.inl ⟨e3, z⟩⟩
  · rename_i e3
    rw [decide_eq_true_eq]
    exact ⟨fun y => y.elim (fun z => absurd z.1 e3) (fun z => z.2), fun z => Or.inr ⟨e3, z⟩⟩
theorem Rep.pt (h : Rep g A) (hx : (a_q A)[q]? = some x) (s : Nat) : ptS g q (q_p x).length s = ptA (q_p x) s := by
  have hp := (h.1.2.2 q x hx).1.2.2
  unfold ptS ptA
  by_cases e : (q_p x).length ≤ s
  · rw [if_pos e, List.getElem?_eq_none e]
  · obtain ⟨c, hc⟩ := get_of (l := q_p x) (i := s) (by omega)
    rw [if_neg e, hc, hp s c hc]
theorem c_longA (hS : RS M r) (h : Rep g A) (w : Wf T A) (hx : (a_q A)[q]? = some x) {s : Nat} (hs : s ≤ 4) (kt : lgA (q_p x) s = true → Q (some (.int (nI 1))) (wI M (r + 1) g)) (kf : lgA (q_p x) s = false → Q (some (.int (nI 0))) (wI M (r + 1) g)) : J E 179 0 [.ref r, .int (nI q), .int (nI s), U0] [] (wI M (r + 1) g) Q := by
  have hq : q < 8 := Nat.lt_of_lt_of_le (li hx) h.1.1
  have hR := (h.1.2.2 q x hx).1
  exact c_isLong hS hq (w.2.1 q x hx).1.1 hR.1 hR.2.1 hs (fun e => kt ((h.lg w hx s).mp e)) (fun e => kf (by
    cases e' : lgA (q_p x) s with
    | false => rfl
    | true => exact absurd ((h.lg w hx s).mpr e') e))
theorem c_partA (hS : RS M r) (h : Rep g A) (w : Wf T A) (hx : (a_q A)[q]? = some x) {s : Nat} (hs : s ≤ 4) (k : Q (some (.int (ptA (q_p x) s))) (wI M (r + 1) g)) : J E 180 0 [.ref r, .int (nI q), .int (nI s)] [] (wI M (r + 1) g) Q := by
  have hq : q < 8 := Nat.lt_of_lt_of_le (li hx) h.1.1
  have hR := (h.1.2.2 q x hx).1
  refine c_partOf hS hq (w.2.1 q x hx).1.1 hR.1 hR.2.1 hs ?_
  rw [h.pt hx]
  exact k
theorem c_fitA (hS : RS M r) (h : Rep g A) (w : Wf T A) (hx : (a_q A)[q]? = some x) (k1 : fitA (q_p x) (a_t A) = true → Q (some (.int (nI 1))) (wI M (r + 1) g)) (k2 : fitA (q_p x) (a_t A) = false → Q (some (.int (nI 0))) (wI M (r + 1) g)) : J E 181 0 [.ref r, .int (nI q), U0] [] (wI M (r + 1) g) Q := by
  have hq : q < 8 := Nat.lt_of_lt_of_le (li hx) h.1.1
  have hR := (h.1.2.2 q x hx).1
  have hT := h.2.2.2.2.2.2.1
  have e : fitD g q (q_p x).length (a_t A).length ↔ fitA (q_p x) (a_t A) = true := by
    rw [fitA_iff]
    unfold fitD
    rw [h.lg w hx]
    refine and_congr_right (fun _ => forall_congr' (fun k => forall_congr' (fun hk => ?_)))
    obtain ⟨c, hc⟩ := get_of hk
    have e1 := hT.2.2 k c hc
    have e2 : ptA (a_t A) k = c := by
      obtain ⟨n, n1, n2, n3⟩ := w.2.2.2.2.2.2 k c hc
      unfold ptA
      rw [hc]
      simp only
      rw [if_neg (fun y => by
        rw [n3] at y
        have hh := congrArg Int32.toInt y
        rw [nI_toInt (by omega)] at hh
        have h3 : (-3 : Int32).toInt = -3 := by decide
        rw [h3] at hh
        omega)]
    unfold okP
    rw [h.pt hx, e1, e2]
  exact c_isFit hS hq (w.2.1 q x hx).1.1 hR.1 hR.2.1 hT.1 hT.2.1 (fun y => k1 (e.mp y)) (fun y => k2 (by
    cases e' : fitA (q_p x) (a_t A) with
    | false => rfl
    | true => exact absurd (e.mpr e') y))
theorem c_outAtA (hS : RS M r) (h : Rep g A) (w : Wf T A) (hk : (a_c A)[c]? = some k) (hx : (a_q A)[k_q k]? = some x) {m : Int32} {o : Option Nat} (hm : (m < 0 ∧ o = none) ∨ ∃ n, n < 2 ^ 31 ∧ m = nI n ∧ o = some n) (kk : Q (some (.int (oI (oaA (q_ls x) c o (q_ls x).length 0)))) (wI M (r + 1) g)) : J E 201 0 [.ref r, .int (nI c), .int m, U0, U0] [] (wI M (r + 1) g) Q := by
  have c10 : c < 10 := Nat.lt_of_lt_of_le (li hk) h.2.1.1
  have hq : k_q k < 8 := Nat.lt_of_lt_of_le (li hx) h.1.1
  have hL := (h.1.2.2 _ x hx).2.2.2.2
  refine c_outAt hS c10 hq hL.1 hL.2.1 (h.2.1.2.2 c k hk).1 ?_
  rw [h.oa w hx c10 hm (q_ls x).length 0 (by omega)]
  exact kk
theorem Wf.ack (w : Wf T A) (hx : (a_q A)[q]? = some x) (hi : i < (q_ls x).length) (hk : (a_c A)[c]? = some k) (h0 : k_lf k = 0) : Wf T (aAck A q x i c k) := by
  have w1 := w.er hx hi
  have w2 := w1.ak (q := q) (set_get hx) (q_ak x + nI 1)
  have w3 := w2.cr (c := c) (k := k) hk h0
  have e2 : ∀ (L : List Qa) (a b : Qa), ((L.set q a).set q b) = L.set q b := fun L a b => by rw [List.set_set]
  have e3 := e2 (a_q A) (x_ls x ((q_ls x).eraseIdx i)) (x_ak (x_ls x ((q_ls x).eraseIdx i)) (q_ak x + nI 1))
  unfold aAck
  rw [← e3]
  exact w3
theorem c_acksA (hS : RS M r) (h : Rep g A) (w : Wf T A) (hk : (a_c A)[c]? = some k) (hx : (a_q A)[k_q k]? = some x) (hi : i < (q_ls x).length) (kk : ∀ g' : Nat → Int32, Rep g' (aAck A (k_q k) x i c k) → Q none (wI M (r + 1) g')) : J E 202 0 [.ref r, .int (nI c), .int (nI i), U0] [] (wI M (r + 1) g) Q := by
  have c10 : c < 10 := Nat.lt_of_lt_of_le (li hk) h.2.1.1
  have hq : k_q k < 8 := Nat.lt_of_lt_of_le (li hx) h.1.1
  have hL := (h.1.2.2 _ x hx).2.2.2.2
  obtain ⟨n, hn⟩ : ∃ n, (q_ls x).length = n + 1 := ⟨(q_ls x).length - 1, by omega⟩
  have h20 := hL.1
  have h35 := hL.2.1
  rw [hn] at h35
  exact c_acks (n := n) hS c10 hq (by omega) (by omega) h35 (h.2.1.2.2 c k hk).1 (kk _ (h.ack hx hi hn hk (w.2.2.1 c k hk).2.1))
theorem c_refusesA (hS : RS M r) (hW : WS M r) (h : Rep g A) (w : Wf T A) (hk : (a_c A)[c]? = some k) (hx : (a_q A)[k_q k]? = some x) (hl : (q_ls x)[i]? = some l) (kk : ∀ g' : Nat → Int32, Rep g' (failL A (k_q k) x i l c (nI 3)) → Q (some (.int (nI ((l_c l).length + 1)))) (wI M (r + 1) g')) : J E 203 0 [.ref r, .int (nI c), .int (nI i), U0, U0, U0] [] (wI M (r + 1) g) Q := by
  have c10 : c < 10 := Nat.lt_of_lt_of_le (li hk) h.2.1.1
  have hq : k_q k < 8 := Nat.lt_of_lt_of_le (li hx) h.1.1
  have hL := (h.1.2.2 _ x hx).2.2.2.2
  have hi := li hl
  obtain ⟨n, hn⟩ : ∃ n, (q_ls x).length = n + 1 := ⟨(q_ls x).length - 1, by omega⟩
  have h20 := hL.1
  have h35 := hL.2.1
  rw [hn] at h35
  have hR := h.letter hx hl
  have hlen := (w.ls hx hl).2.2.1
  have htr := (w.2.1 _ x hx).2.2.1.2
  have hT := h.failT (what := nI 3) w hx hl hn hk
  exact c_refuses (w := nI (wt ((l_c l).length + 1))) (n := n) (nd := (a_d A).length) (my := (l_c l).length) (ff := (l_c l).length + 1) (m := nI (l_m l)) hS hq (by omega) (by omega) h.2.2.2.1.1 (by omega) (by omega) c10 h35 h.2.2.2.1.2.1 hR.2.1 (hW _ (by omega)) (by rw [hR.2.2.2.1, nI_add]) hR.2.2.2.2.2.2.1 (h.2.1.2.2 c k hk).1 (kk _ hT.1)

theorem c_fits_l (hS : RS M r) (h : Rep g A) (w : Wf T A) {len : Nat} (hlen : (a_q A).length = len) (h8 : len ≤ 8) (h0 : g 0 = nI len) : ∀ (d kk : Nat), kk + d = len → Q (some (.int (fbI A len))) (wI M (r + 1) g) → J E 182 21 [.ref r, .int (fbI A kk), .int (nI kk)] [] (wI M (r + 1) g) Q := by
  intro d
  induction d with
  | zero =>
    intro kk hk k
    refine J_p 2 (ls' := [_, _, _]) rfl ?_
    refine J_getR rfl hS.t hS.f0 ?_
    refine J_p 1 (ls' := [_, _, _]) rfl ?_
    refine J_gld (n := 0) rfl (by repeat' (first | with_reducible rfl | assumption | with_reducible refine nI_decE ?_ | with_reducible refine nI_addE ?_ ?_ | with_reducible refine nI_mulE ?_ ?_ | with_reducible refine nI_subE ?_ ?_ ?_ | omega | (with_reducible refine congrArg nI ?_; omega))) hS (by omega) h0 ?_
    refine J_ige rfl (fun b28 => ?_) (fun b28 => ?_)
    · skip
      refine J_p 1 (ls' := [_, _, _]) rfl ?_
      obtain rfl : kk = len := by omega
      exact J_ret rfl rfl rfl k
    · skip
      exact absurd (nI_le (a := len) (b := kk) (by omega) (by omega)) b28
  | succ d ih =>
    intro kk hk k
    obtain ⟨x, hx⟩ := get_of (l := a_q A) (i := kk) (by omega)
    refine J_p 2 (ls' := [_, _, _]) rfl ?_
    refine J_getR rfl hS.t hS.f0 ?_
    refine J_p 1 (ls' := [_, _, _]) rfl ?_
    refine J_gld (n := 0) rfl (by repeat' (first | with_reducible rfl | assumption | with_reducible refine nI_decE ?_ | with_reducible refine nI_addE ?_ ?_ | with_reducible refine nI_mulE ?_ ?_ | with_reducible refine nI_subE ?_ ?_ ?_ | omega | (with_reducible refine congrArg nI ?_; omega))) hS (by omega) h0 ?_
    refine J_ige rfl (fun b28 => ?_) (fun b28 => ?_)
    · skip
      exact absurd b28 (nI_ge (a := kk) (b := len) (by omega) (by omega))
    · skip
      refine J_p 3 (ls' := [_, _, _]) rfl ?_
      refine J_call rfl rfl rfl (decide_eq_true hS.t) rfl (c_fitA hS h w hx (fun hf => ?_) (fun hf => ?_))
      · skip
        show J _ _ _ _ _ _ _
        refine J_zeq rfl (fun b => absurd b (by decide)) (fun _ => ?_)
        refine J_p 8 (ls' := [_, _, _]) rfl ?_
        rw [nI_add kk 1]
        refine J_L (ls' := [.ref r, .int (fbI A (kk + 1)), .int (nI (kk + 1))]) ?_ (ih (kk + 1) (by omega) k)
        have e2 : fitQ A kk = fitA (q_p x) (a_t A) := by unfold fitQ; rw [hx]
        simp only [fbI, e2, hf, if_true, if_false, reduceIte]
        first | done | rfl
      · skip
        show J _ _ _ _ _ _ _
        refine J_zeq rfl (fun _ => ?_) (fun b => absurd rfl b)
        refine J_p 5 (ls' := [_, _, _]) rfl ?_
        rw [nI_add kk 1]
        refine J_L (ls' := [.ref r, .int (fbI A (kk + 1)), .int (nI (kk + 1))]) ?_ (ih (kk + 1) (by omega) k)
        have e2 : fitQ A kk = fitA (q_p x) (a_t A) := by unfold fitQ; rw [hx]
        simp only [fbI, e2, hf, if_true, if_false, reduceIte]
        first | done | rfl

theorem p_fits (hS : RS M r) (hW : WS M r) (h : Rep g A) (w : Wf T A) (hT : T + 99 < 2 ^ 20) (kR : ∀ (rw_ : Nat) (v_ : Int32), fFits A = .inl rw_ → v_ = rfN rw_ → Q (some (.int v_)) (wI (rfM M r rw_) (r + 1) g)) (kO : ∀ (a : Int32) (B : Ab), fFits A = .inr (a, B) → ∀ g' : Nat → Int32, Rep g' B → Wf (T + 99) B → Q (some (.int a)) (wI M (r + 1) g')) : J E 182 0 [.ref r, U0, U0] [] (wI M (r + 1) g) Q := by
  refine J_p 1 (ls' := [_, _, _]) rfl ?_
  refine J_getR rfl hS.t hS.f0 ?_
  refine J_p 1 (ls' := [_, _, _]) rfl ?_
  refine J_gld (n := 6) rfl (by repeat' (first | with_reducible rfl | assumption | with_reducible refine nI_decE ?_ | with_reducible refine nI_addE ?_ ?_ | with_reducible refine nI_mulE ?_ ?_ | with_reducible refine nI_subE ?_ ?_ ?_ | omega | (with_reducible refine congrArg nI ?_; omega))) hS (by omega) h.2.2.2.2.2.2.1.2.1 ?_
  refine J_zne rfl (fun b7 => ?_) (fun b7 => ?_)
  · skip
    have e0 : ¬ (a_t A).length = 0 := fun y => b7 (by rw [y]; rfl)
    refine J_p 4 (ls' := [_, _, _]) rfl ?_
    exact c_fits_l (E := E) hS h w rfl h.1.1 h.1.2.1 (a_q A).length 0 (by omega) (kO _ _ (by simp only [fFits, e0, if_false, reduceIte]) g h (w.mono (by omega) hT))
  · skip
    have t4 := h.2.2.2.2.2.2.1.1
    have e0 : (a_t A).length = 0 := (nI_eq (b := 0) (by omega) (by omega)).mp b7
    refine J_p 2 (ls' := [_, _, _]) rfl ?_
    refine J_call rfl rfl rfl (decide_eq_true hS.t) rfl (c_refused hS 3 (by decide) (by decide) ?_)
    show J _ _ _ _ _ _ _
    exact J_ret rfl rfl rfl (kR 3 _ (by simp only [fFits, e0, if_true, if_false, reduceIte]) (by decide))

theorem c_cov_i (hS : RS M r) (h : Rep g A) (w : Wf T A) {q qo : Nat} {x y : Qa} (hx : (a_q A)[q]? = some x) (hy : (a_q A)[qo]? = some y) {n : Nat} (h1n : 1 ≤ n) (hn : n < 5) (hl : lgA (q_p y) n = true) (k : Q (some (.int (if covA (q_p x) (q_p y) = true then nI 1 else nI 0))) (wI M (r + 1) g)) : ∀ (d kk : Nat), kk + d = n → (∀ k, k < kk → okP (q_p x) (q_p y) k) → ((∀ k, k < n → okP (q_p x) (q_p y) k) → J E 183 99 [.ref r, .int (nI q), .int (nI qo), .int (nI n), .int (nI n)] [] (wI M (r + 1) g) Q) → J E 183 56 [.ref r, .int (nI q), .int (nI qo), .int (nI n), .int (nI kk)] [] (wI M (r + 1) g) Q := by
  intro d
  induction d with
  | zero =>
    intro kk hk k1 k2
    refine J_p 2 (ls' := [_, _, _, _, _]) rfl ?_
    refine J_ige rfl (fun b59 => ?_) (fun b59 => ?_)
    · skip
      obtain rfl : kk = n := by omega
      exact k2 k1
    · skip
      exact absurd (nI_le (a := n) (b := kk) (by omega) (by omega)) b59
  | succ d ih =>
    intro kk hk k1 k2
    refine J_p 2 (ls' := [_, _, _, _, _]) rfl ?_
    refine J_ige rfl (fun b59 => ?_) (fun b59 => ?_)
    · skip
      exact absurd b59 (nI_ge (a := kk) (b := n) (by omega) (by omega))
    · skip
      refine J_p 3 (ls' := [_, _, _, _, _]) rfl ?_
      refine J_call rfl rfl rfl (decide_eq_true hS.t) rfl (c_partA hS h w hx (s := kk) (by omega) ?_)
      show J _ _ _ _ _ _ _
      refine J_p 1 (ls' := [_, _, _, _, _]) rfl ?_
      refine J_ieq rfl (fun b71 => ?_) (fun b71 => ?_)
      · skip
        have ho : okP (q_p x) (q_p y) kk := Or.inl b71
        refine J_p 2 (ls' := [_, _, _, _, _]) rfl ?_
        rw [nI_add kk 1]
        refine ih (kk + 1) (by omega) (fun k hk => ?_) k2
        rcases Nat.lt_or_ge k kk with h4 | h4
        · exact k1 k h4
        · obtain rfl : k = kk := by omega
          exact ho
      · skip
        refine J_p 3 (ls' := [_, _, _, _, _]) rfl ?_
        refine J_call rfl rfl rfl (decide_eq_true hS.t) rfl (c_partA hS h w hx (s := kk) (by omega) ?_)
        show J _ _ _ _ _ _ _
        refine J_p 3 (ls' := [_, _, _, _, _]) rfl ?_
        refine J_call rfl rfl rfl (decide_eq_true hS.t) rfl (c_partA hS h w hy (s := kk) (by omega) ?_)
        show J _ _ _ _ _ _ _
        refine J_ieq rfl (fun b88 => ?_) (fun b88 => ?_)
        · skip
          have ho : okP (q_p x) (q_p y) kk := Or.inr b88
          refine J_p 2 (ls' := [_, _, _, _, _]) rfl ?_
          rw [nI_add kk 1]
          refine ih (kk + 1) (by omega) (fun k hk => ?_) k2
          rcases Nat.lt_or_ge k kk with h4 | h4
          · exact k1 k h4
          · obtain rfl : k = kk := by omega
            exact ho
        · skip
          refine J_p 1 (ls' := [_, _, _, _, _]) rfl ?_
          rw [if_neg (fun y => by rcases ((covA_iff.mp y) n h1n hn hl).2 kk (by omega) with z | z; exact b71 z; exact b88 z)] at k
          exact J_ret rfl rfl rfl k

theorem c_cov_o (hS : RS M r) (h : Rep g A) (w : Wf T A) {q qo : Nat} {x y : Qa} (hx : (a_q A)[q]? = some x) (hy : (a_q A)[qo]? = some y) (k : Q (some (.int (if covA (q_p x) (q_p y) = true then nI 1 else nI 0))) (wI M (r + 1) g)) : ∀ (d n : Nat), n + d = 5 → 1 ≤ n → (∀ m, 1 ≤ m → m < n → lgA (q_p y) m = true → (lgA (q_p x) m = true ∧ ∀ k, k < m → okP (q_p x) (q_p y) k)) → ∀ x4 : Value, J E 183 25 [.ref r, .int (nI q), .int (nI qo), .int (nI n), x4] [] (wI M (r + 1) g) Q := by
  intro d
  induction d with
  | zero =>
    intro n hn h1n ka x4
    refine J_p 2 (ls' := [_, _, _, _, _]) rfl ?_
    refine J_igt rfl (fun b27 => ?_) (fun b27 => ?_)
    · skip
      refine J_p 1 (ls' := [_, _, _, _, _]) rfl ?_
      obtain rfl : n = 5 := by omega
      rw [if_pos (covA_iff.mpr ka)] at k
      exact J_ret rfl rfl rfl k
    · skip
      exact absurd (show nI 4 < nI n from nI_lt (by omega) (by omega)) b27
  | succ d ih =>
    intro n hn h1n ka x4
    refine J_p 2 (ls' := [_, _, _, _, _]) rfl ?_
    refine J_igt rfl (fun b27 => ?_) (fun b27 => ?_)
    · skip
      exact absurd b27 (nI_nlt (by omega) (by omega))
    · skip
      refine J_p 3 (ls' := [_, _, _, _, _]) rfl ?_
      refine J_call rfl rfl rfl (decide_eq_true hS.t) rfl (c_longA hS h w hy (s := n) (by omega) (fun hly => ?_) (fun hly => ?_))
      · skip
        show J _ _ _ _ _ _ _
        refine J_zne rfl (fun _ => ?_) (fun b => absurd b (by decide))
        refine J_p 3 (ls' := [_, _, _, _, _]) rfl ?_
        refine J_call rfl rfl rfl (decide_eq_true hS.t) rfl (c_longA hS h w hx (s := n) (by omega) (fun hlx => ?_) (fun hlx => ?_))
        · skip
          show J _ _ _ _ _ _ _
          refine J_zne rfl (fun _ => ?_) (fun b => absurd b (by decide))
          refine J_p 2 (ls' := [_, _, _, _, _]) rfl ?_
          refine c_cov_i (E := E) (n := n) hS h w hx hy (by omega) (by omega) hly k n 0 (by omega) (fun k hk => absurd hk (Nat.not_lt_zero _)) (fun ha => ?_)
          refine J_p 2 (ls' := [_, _, _, _, _]) rfl ?_
          rw [nI_add n 1]
          refine ih (n + 1) (by omega) (by omega) (fun m m1 m2 m3 => ?_) _
          rcases Nat.lt_or_ge m n with h4 | h4
          · exact ka m m1 h4 m3
          · obtain rfl : m = n := by omega
            exact ⟨hlx, ha⟩
        · skip
          show J _ _ _ _ _ _ _
          refine J_zne rfl (fun b => absurd rfl b) (fun _ => ?_)
          refine J_p 1 (ls' := [_, _, _, _, _]) rfl ?_
          rw [if_neg (fun y => by rw [((covA_iff.mp y) n (by omega) (by omega) hly).1] at hlx; cases hlx)] at k
          exact J_ret rfl rfl rfl k
      · skip
        show J _ _ _ _ _ _ _
        refine J_zne rfl (fun b => absurd rfl b) (fun _ => ?_)
        refine J_p 3 (ls' := [_, _, _, _, _]) rfl ?_
        rw [nI_add n 1]
        refine ih (n + 1) (by omega) (by omega) (fun m m1 m2 m3 => ?_) _
        rcases Nat.lt_or_ge m n with h4 | h4
        · exact ka m m1 h4 m3
        · obtain rfl : m = n := by omega
          rw [hly] at m3; cases m3

theorem p_covers (hS : RS M r) (hW : WS M r) (h : Rep g A) (w : Wf T A) (hT : T + 99 < 2 ^ 20) (q p : Int32) (kR : ∀ (rw_ : Nat) (v_ : Int32), fCovers A q p = .inl rw_ → v_ = rfN rw_ → Q (some (.int v_)) (wI (rfM M r rw_) (r + 1) g)) (kO : ∀ (a : Int32) (B : Ab), fCovers A q p = .inr (a, B) → ∀ g' : Nat → Int32, Rep g' B → Wf (T + 99) B → Q (some (.int a)) (wI M (r + 1) g')) : J E 183 0 [.ref r, .int q, .int p, U0, U0] [] (wI M (r + 1) g) Q := by
  refine J_p 2 (ls' := [_, _, _, _, _]) rfl ?_
  refine J_call rfl rfl rfl (decide_eq_true hS.t) rfl (c_isQ hS h q (fun j h2 l2 e2 => ?_) (fun h2 => ?_))
  · skip
    subst e2
    obtain ⟨xj, hxj⟩ := get_of l2
    have q8j : j < 8 := Nat.lt_of_lt_of_le l2 h.1.1
    have n20j := (h.1.2.2 j xj hxj).2.2.2.2.1
    have x20j := (h.1.2.2 j xj hxj).2.1.1
    have q35j := (h.1.2.2 j xj hxj).2.2.2.2.2.1
    show J _ _ _ _ _ _ _
    refine J_zeq rfl (fun b => absurd b (by decide)) (fun _ => ?_)
    refine J_p 2 (ls' := [_, _, _, _, _]) rfl ?_
    refine J_call rfl rfl rfl (decide_eq_true hS.t) rfl (c_isQ hS h p (fun n h10 l10 e10 => ?_) (fun h10 => ?_))
    · skip
      subst e10
      obtain ⟨xn, hxn⟩ := get_of l10
      have q8n : n < 8 := Nat.lt_of_lt_of_le l10 h.1.1
      have n20n := (h.1.2.2 n xn hxn).2.2.2.2.1
      have x20n := (h.1.2.2 n xn hxn).2.1.1
      have q35n := (h.1.2.2 n xn hxn).2.2.2.2.2.1
      show J _ _ _ _ _ _ _
      refine J_zne rfl (fun _ => ?_) (fun b => absurd b (by decide))
      refine J_p 2 (ls' := [_, _, _, _, _]) rfl ?_
      exact c_cov_o (E := E) hS h w hxj hxn (kO _ _ (by simp only [fCovers, h2, h10, hxj, hxn]) g h (w.mono (by omega) hT)) 4 1 (by omega) (by omega) (fun m m1 m2 => absurd m2 (by omega)) _
    · skip
      show J _ _ _ _ _ _ _
      refine J_zne rfl (fun b => absurd rfl b) (fun _ => ?_)
      refine J_p 2 (ls' := [_, _, _, _, _]) rfl ?_
      refine J_call rfl rfl rfl (decide_eq_true hS.t) rfl (c_refused hS 0 (by decide) (by decide) ?_)
      show J _ _ _ _ _ _ _
      exact J_ret rfl rfl rfl (kR 0 _ (by simp only [fCovers, h2, hxj, h10, if_true, if_false, reduceIte]) (by decide))
  · skip
    show J _ _ _ _ _ _ _
    refine J_zeq rfl (fun _ => ?_) (fun b => absurd rfl b)
    refine J_p 2 (ls' := [_, _, _, _, _]) rfl ?_
    refine J_call rfl rfl rfl (decide_eq_true hS.t) rfl (c_refused hS 0 (by decide) (by decide) ?_)
    show J _ _ _ _ _ _ _
    exact J_ret rfl rfl rfl (kR 0 _ (by simp only [fCovers, h2, if_true, if_false, reduceIte]) (by decide))

theorem ix31_n {m : Int32} (b : m < 0) : ixN m 2147483648 = none := by
  cases e : ixN m 2147483648 with
  | none => rfl
  | some n =>
    obtain ⟨_, _, e3⟩ := ixN_some e
    rw [Int32.lt_iff_toInt_lt] at b
    have h00 : (0 : Int32).toInt = 0 := by decide
    omega
theorem ix31_s {m : Int32} (b : ¬ m < 0) : ∃ n, ixN m 2147483648 = some n ∧ m = nI n ∧ n < 2147483648 := by
  cases e : ixN m 2147483648 with
  | none =>
    refine absurd ?_ (ixN_none e)
    rw [Int32.lt_iff_toInt_lt] at b
    have h00 : (0 : Int32).toInt = 0 := by decide
    have := m.toInt_lt
    omega
  | some n =>
    obtain ⟨e1, e2, _⟩ := ixN_some e
    exact ⟨n, rfl, e2, e1⟩

theorem p_ack (hS : RS M r) (hW : WS M r) (h : Rep g A) (w : Wf T A) (hT : T + 99 < 2 ^ 20) (c m : Int32) (kR : ∀ (rw_ : Nat) (v_ : Int32), fAck A c m = .inl rw_ → v_ = rfN rw_ → Q (some (.int v_)) (wI (rfM M r rw_) (r + 1) g)) (kO : ∀ (a : Int32) (B : Ab), fAck A c m = .inr (a, B) → ∀ g' : Nat → Int32, Rep g' B → Wf (T + 99) B → Q (some (.int a)) (wI M (r + 1) g')) : J E 204 0 [.ref r, .int c, .int m] [] (wI M (r + 1) g) Q := by
  refine J_p 2 (ls' := [_, _, _]) rfl ?_
  refine J_call rfl rfl rfl (decide_eq_true hS.t) rfl (c_hereA hS h w c (fun c k h2 hk hf e2 c10 => ?_) (fun h2 => ?_))
  · skip
    subst e2
    obtain ⟨x, hx⟩ := get_of (w.2.2.1 c k hk).1
    show J _ _ _ _ _ _ _
    refine J_zeq rfl (fun b => absurd b (by decide)) (fun _ => ?_)
    refine J_p 1 (ls' := [_, _, _]) rfl ?_
    refine J_zlt rfl (fun b9 => ?_) (fun b9 => ?_)
    · skip
      have h9 := ix31_n b9
      refine J_p 2 (ls' := [_, _, _]) rfl ?_
      refine J_call rfl rfl rfl (decide_eq_true hS.t) rfl (c_refused hS 0 (by decide) (by decide) ?_)
      show J _ _ _ _ _ _ _
      exact J_ret rfl rfl rfl (kR 0 _ (by simp only [fAck, h2, hk, hx, h9, if_true, if_false, reduceIte]) (by decide))
    · skip
      obtain ⟨n, h9, e9, n31⟩ := ix31_s b9
      subst e9
      refine J_p 3 (ls' := [_, _, _]) rfl ?_
      refine J_call rfl rfl rfl (decide_eq_true hS.t) rfl (c_outAtA hS h w hk hx (o := some n) (Or.inr ⟨n, by omega, rfl, rfl⟩) ?_)
      cases hi : oaA (q_ls x) c (some n) (q_ls x).length 0 with
      | none =>
        show J _ _ _ _ _ _ _
        refine J_zge rfl (fun b => absurd b (by decide)) (fun _ => ?_)
        refine J_p 2 (ls' := [_, _, _]) rfl ?_
        refine J_call rfl rfl rfl (decide_eq_true hS.t) rfl (c_refused hS 0 (by decide) (by decide) ?_)
        show J _ _ _ _ _ _ _
        exact J_ret rfl rfl rfl (kR 0 _ (by simp only [fAck, h2, hk, hx, h9, hi, if_true, if_false, reduceIte]) (by decide))
      | some i =>
        obtain ⟨l, hl, hl2⟩ := isA_iff.mp (oaA_at _ _ _ _ _ _ hi)
        have il := li hl
        have n20 := (h.1.2.2 _ x hx).2.2.2.2.1
        show J _ _ _ _ _ _ _
        refine J_n0 (n := i) rfl ?_
        refine J_zge rfl (fun _ => ?_) (fun b => absurd (nI_pos' (by omega)) b)
        refine J_p 5 (ls' := [_, _, _]) rfl ?_
        refine J_call rfl rfl rfl (decide_eq_true hS.t) rfl (c_outAtA hS h w hk hx (o := some n) (Or.inr ⟨n, by omega, rfl, rfl⟩) ?_)
        rw [hi]
        show J _ _ _ _ _ _ _
        refine J_n0 (n := i) rfl ?_
        refine J_call rfl rfl rfl (decide_eq_true hS.t) rfl (c_acksA hS h w hk hx il (fun g' hr => ?_))
        have w' := w.ack hx il hk hf
        show J _ _ _ _ _ _ _
        refine J_p 2 (ls' := [_, _, _]) rfl ?_
        have e0 := hr.outN w' (set_get hx) c10
        have hQ' := hr.1.2.2 (k_q k) _ (set_get hx)
        refine J_call rfl rfl rfl (decide_eq_true hS.t) rfl (c_outOf (n := ((q_ls x).eraseIdx i).length) hS c10 (Nat.lt_of_lt_of_le (li hx) h.1.1) hQ'.2.2.2.2.1 hQ'.2.2.2.2.2.1 (hr.2.1.2.2 c _ (set_get hk)).1 ?_)
        show J _ _ _ _ _ _ _
        refine J_t0 e0 ?_
        exact J_ret rfl rfl rfl (kO _ _ (by simp only [fAck, h2, hk, hx, h9, hi, hl]; first | done | rfl) g' hr (w'.mono (by omega) hT))
  · skip
    show J _ _ _ _ _ _ _
    refine J_zeq rfl (fun _ => ?_) (fun b => absurd rfl b)
    refine J_p 2 (ls' := [_, _, _]) rfl ?_
    refine J_call rfl rfl rfl (decide_eq_true hS.t) rfl (c_refused hS 0 (by decide) (by decide) ?_)
    show J _ _ _ _ _ _ _
    exact J_ret rfl rfl rfl (kR 0 _ (by simp only [fAck, h2, if_true, if_false, reduceIte]) (by decide))

theorem p_nack (hS : RS M r) (hW : WS M r) (h : Rep g A) (w : Wf T A) (hT : T + 99 < 2 ^ 20) (c m : Int32) (kR : ∀ (rw_ : Nat) (v_ : Int32), fNack A c m = .inl rw_ → v_ = rfN rw_ → Q (some (.int v_)) (wI (rfM M r rw_) (r + 1) g)) (kO : ∀ (a : Int32) (B : Ab), fNack A c m = .inr (a, B) → ∀ g' : Nat → Int32, Rep g' B → Wf (T + 99) B → Q (some (.int a)) (wI M (r + 1) g')) : J E 205 0 [.ref r, .int c, .int m] [] (wI M (r + 1) g) Q := by
  refine J_p 2 (ls' := [_, _, _]) rfl ?_
  refine J_call rfl rfl rfl (decide_eq_true hS.t) rfl (c_hereA hS h w c (fun c k h2 hk hf e2 c10 => ?_) (fun h2 => ?_))
  · skip
    subst e2
    obtain ⟨x, hx⟩ := get_of (w.2.2.1 c k hk).1
    show J _ _ _ _ _ _ _
    refine J_zeq rfl (fun b => absurd b (by decide)) (fun _ => ?_)
    refine J_p 1 (ls' := [_, _, _]) rfl ?_
    refine J_zlt rfl (fun b9 => ?_) (fun b9 => ?_)
    · skip
      have h9 := ix31_n b9
      refine J_p 2 (ls' := [_, _, _]) rfl ?_
      refine J_call rfl rfl rfl (decide_eq_true hS.t) rfl (c_refused hS 0 (by decide) (by decide) ?_)
      show J _ _ _ _ _ _ _
      exact J_ret rfl rfl rfl (kR 0 _ (by simp only [fNack, h2, hk, hx, h9, if_true, if_false, reduceIte]) (by decide))
    · skip
      obtain ⟨n, h9, e9, n31⟩ := ix31_s b9
      subst e9
      refine J_p 3 (ls' := [_, _, _]) rfl ?_
      refine J_call rfl rfl rfl (decide_eq_true hS.t) rfl (c_outAtA hS h w hk hx (o := some n) (Or.inr ⟨n, by omega, rfl, rfl⟩) ?_)
      cases hi : oaA (q_ls x) c (some n) (q_ls x).length 0 with
      | none =>
        show J _ _ _ _ _ _ _
        refine J_zge rfl (fun b => absurd b (by decide)) (fun _ => ?_)
        refine J_p 2 (ls' := [_, _, _]) rfl ?_
        refine J_call rfl rfl rfl (decide_eq_true hS.t) rfl (c_refused hS 0 (by decide) (by decide) ?_)
        show J _ _ _ _ _ _ _
        exact J_ret rfl rfl rfl (kR 0 _ (by simp only [fNack, h2, hk, hx, h9, hi, if_true, if_false, reduceIte]) (by decide))
      | some i =>
        obtain ⟨l, hl, hl2⟩ := isA_iff.mp (oaA_at _ _ _ _ _ _ hi)
        have il := li hl
        have n20 := (h.1.2.2 _ x hx).2.2.2.2.1
        show J _ _ _ _ _ _ _
        refine J_n0 (n := i) rfl ?_
        refine J_zge rfl (fun _ => ?_) (fun b => absurd (nI_pos' (by omega)) b)
        refine J_p 5 (ls' := [_, _, _]) rfl ?_
        refine J_call rfl rfl rfl (decide_eq_true hS.t) rfl (c_outAtA hS h w hk hx (o := some n) (Or.inr ⟨n, by omega, rfl, rfl⟩) ?_)
        rw [hi]
        show J _ _ _ _ _ _ _
        refine J_n0 (n := i) rfl ?_
        refine J_call rfl rfl rfl (decide_eq_true hS.t) rfl (c_refusesA hS hW h w hk hx hl (fun g' hr => ?_))
        have w' := w.fail hx hl hk hf (Or.inl rfl)
        show J _ _ _ _ _ _ _
        exact J_ret rfl rfl rfl (kO _ _ (by simp only [fNack, h2, hk, hx, h9, hi, hl]) g' hr (w'.mono (by omega) hT))
  · skip
    show J _ _ _ _ _ _ _
    refine J_zeq rfl (fun _ => ?_) (fun b => absurd rfl b)
    refine J_p 2 (ls' := [_, _, _]) rfl ?_
    refine J_call rfl rfl rfl (decide_eq_true hS.t) rfl (c_refused hS 0 (by decide) (by decide) ?_)
    show J _ _ _ _ _ _ _
    exact J_ret rfl rfl rfl (kR 0 _ (by simp only [fNack, h2, if_true, if_false, reduceIte]) (by decide))

end PUB11