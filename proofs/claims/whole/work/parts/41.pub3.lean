/-! THE REFERENCE'S PUBLIC METHODS: next, consumer, credit, consumerOf, dead, cause, seed. -/
def oN (o : Option Nat) : Int32 := match o with
  | none => -1
  | some c => nI c
def fNext (A : Ab) (q v : Int32) : Rs := match ixN q (a_q A).length with
  | none => .inl 0
  | some j => match ixN v 2 with
    | none => .inl 0
    | some b => match (a_q A)[j]? with
      | none => .inl 0
      | some x => match nxA (a_m A) (q_ls x) (q_ls x).length with
        | none => .inr (-1, A)
        | some i => match (q_ls x)[i]? with
          | none => .inl 0
          | some l => match b with
            | 0 => .inr (nI (l_m l), A)
            | _ => .inr (oI (whoA (a_c A) j (q_ex x) (q_l1 x)), A)
def fConsumer (A : Ab) (q : Int32) : Rs := match ixN q (a_q A).length with
  | none => .inl 0
  | some j => if (a_c A).length = 10 then .inl 4 else .inr (nI (a_c A).length, w_c A (a_c A ++ [(j, 0, 0, nI 0)]))
def fSeed (A : Ab) (v : Int32) : Rs := .inr (a_s A, w_s A v)
def hereN (A : Ab) (q : Int32) : Option Nat := match ixN q (a_c A).length with
  | none => none
  | some c => match (a_c A)[c]? with
    | none => none
    | some k => if k_lf k = 0 then some c else none
def fCredit (A : Ab) (q n : Int32) : Rs := match hereN A q with
  | none => .inl 0
  | some c => match (a_c A)[c]? with
    | none => .inl 0
    | some k => if 1 ≤ n.toInt ∧ n.toInt ≤ 9 then (if (k_cr k : Int) + n.toInt ≤ 9 then .inr (nI (k_cr k + n.toInt.toNat), w_c A ((a_c A).set c (k_q k, k_cr k + n.toInt.toNat, k_lf k, k_gt k))) else .inl 4) else .inl 0
def fDead (A : Ab) (i v : Int32) : Rs := match ixN i (a_d A).length with
  | none => .inl 0
  | some j => match ixN v 4 with
    | none => .inl 0
    | some b => match (a_d A)[j]? with
      | none => .inl 0
      | some d => .inr ((match b with
        | 0 => nI (d_m d)
        | 1 => nI (d_q d)
        | 2 => nI (d_t d)
        | _ => nI (d_c d).length), A)
def causeA (A : Ab) (i k : Int32) : Option Ca := match ixN i (a_d A).length with
  | none => none
  | some j => match (a_d A)[j]? with
    | none => none
    | some d => match ixN k (d_c d).length with
      | none => none
      | some n => (d_c d)[n]?
section PUB3
variable {E : Nat × Nat} {M : Mm} {r T : Nat} {g : Nat → Int32} {A : Ab} {Q : Option Value → Mm → Prop}
theorem Wf.newC {j : Nat} (w : Wf T A) (hj : j < (a_q A).length) : Wf T (w_c A (a_c A ++ [(j, 0, 0, nI 0)])) := by
  obtain ⟨w1, w2, w3, w4, w5, w6, w7⟩ := w
  refine ⟨w1, fun p y hp => ?_, fun d y hd => ?_, w4, w5, w6, w7⟩
  · obtain ⟨a1, a2, a3, a4, a5, a6, a7, a8, a9, a10⟩ := w2 p y hp
    refine ⟨a1, a2, a3, a4, a5, a6, by show q_l1 y ≤ (a_c A ++ [(j, 0, 0, nI 0)]).length; rw [List.length_append]; exact Nat.le_trans a7 (Nat.le_add_right _ _), a8, fun i l hi => ?_, a10⟩
    obtain ⟨b1, b2, b3, b4, b5, b6, b7⟩ := a9 i l hi
    refine ⟨b1, b2, b3, b4, b5, b6, fun hs => ?_⟩
    obtain ⟨z, hz, e⟩ := b7 hs
    refine ⟨z, ?_, e⟩
    show (a_c A ++ [(j, 0, 0, nI 0)])[l_x l]? = some z
    rw [List.getElem?_append_left (li hz)]; exact hz
  · rcases app_or hd with ⟨_, rfl⟩ | ⟨_, hd⟩
    · exact ⟨hj, Nat.zero_le 9, Nat.zero_le 1, fun _ => rfl⟩
    · exact w3 d y hd
theorem Rep.newC {j : Nat} {n : Nat} (h : Rep g A) (hn : (a_c A).length = n) (h10 : n < 10) : Rep (upd (upd (upd (upd (upd g (11 + 4 * n) (nI j)) (11 + 4 * n + 1) (nI 0)) (11 + 4 * n + 2) (nI 0)) (11 + 4 * n + 3) (nI 0)) 1 (nI (n + 1))) (w_c A (a_c A ++ [(j, 0, 0, nI 0)])) := by
  have e : ∀ z, z ≠ 1 → (z < 11 + 4 * n ∨ 11 + 4 * n + 4 ≤ z) → upd (upd (upd (upd (upd g (11 + 4 * n) (nI j)) (11 + 4 * n + 1) (nI 0)) (11 + 4 * n + 2) (nI 0)) (11 + 4 * n + 3) (nI 0)) 1 (nI (n + 1)) z = g z := fun z h1 h2 => by
    simp only [upd]
    rw [if_neg h1, if_neg (by omega), if_neg (by omega), if_neg (by omega), if_neg (by omega)]
  obtain ⟨⟨h1, h2, h3⟩, ⟨h4, h5, h6⟩, ⟨h7, h8, h9⟩, ⟨h10', h11, h12⟩, h13, h14, ⟨h15, h16, h17⟩, h18⟩ := h
  refine ⟨⟨h1, ?_, fun p y hp => ?_⟩, ⟨?_, ?_, fun c y hc => ?_⟩, ⟨h7, ?_, fun m y hm => ?_⟩, ⟨h10', ?_, fun i y hi => ?_⟩, ?_, ?_, ⟨h15, ?_, fun k c hk => ?_⟩, fun z hz => ?_⟩
  · rw [e 0 (by omega) (by omega)]; exact h2
  · exact (h3 p y hp).fr (fun z h1 h2 => e z (by omega) (by omega))
  · show (a_c A ++ [(j, 0, 0, nI 0)]).length ≤ 10
    rw [List.length_append, hn]; exact h10
  · show _ = nI (a_c A ++ [(j, 0, 0, nI 0)]).length
    rw [List.length_append, hn]; exact if_pos rfl
  · rcases app_or hc with ⟨rfl, rfl⟩ | ⟨hlt, hc⟩
    · rw [hn]
      refine ⟨?_, ?_, ?_, ?_⟩
      all_goals (simp only [upd]; repeat (first | rw [if_neg (by omega)] | rw [if_pos (by omega)]))
      all_goals first | done | rfl
    · exact (h6 c y hc).fr (fun z h1 h2 => e z (by omega) (by omega))
  · rw [e 2 (by omega) (by omega)]; exact h8
  · have : m < 300 := Nat.lt_of_lt_of_le (li hm) h7
    exact (h9 m y hm).fr (fun z h1 h2 => e z (by omega) (by omega))
  · rw [e 3 (by omega) (by omega)]; exact h11
  · exact (h12 i y hi).fr (fun z h1 h2 => e z (by omega) (by omega))
  · rw [e 4 (by omega) (by omega)]; exact h13
  · rw [e 5 (by omega) (by omega)]; exact h14
  · rw [e 6 (by omega) (by omega)]; exact h16
  · have : k < 4 := Nat.lt_of_lt_of_le (li hk) h15
    rw [e _ (by omega) (by omega)]; exact h17 k c hk
  · rw [e _ (by omega) (by omega)]; exact h18 z hz
theorem Wf.seed (w : Wf T A) (v : Int32) : Wf T (w_s A v) := w
theorem p_next (hS : RS M r) (hW : WS M r) (h : Rep g A) (w : Wf T A) (hT : T + 99 < 2 ^ 20) (q v : Int32) (kR : ∀ (rw_ : Nat) (v_ : Int32), fNext A q v = .inl rw_ → v_ = rfN rw_ → Q (some (.int v_)) (wI (rfM M r rw_) (r + 1) g)) (kO : ∀ (a : Int32) (B : Ab), fNext A q v = .inr (a, B) → ∀ g' : Nat → Int32, Rep g' B → Wf (T + 99) B → Q (some (.int a)) (wI M (r + 1) g')) : J E 228 0 [.ref r, .int q, .int v, U0] [] (wI M (r + 1) g) Q := by
  refine J_p 2 (ls' := [_, _, _, _]) rfl ?_
  refine J_call rfl rfl rfl (decide_eq_true hS.t) rfl (c_isQ hS h q (fun j h2 l2 e2 => ?_) (fun h2 => ?_))
  · skip
    subst e2
    obtain ⟨xj, hxj⟩ := get_of l2
    have q8j : j < 8 := Nat.lt_of_lt_of_le l2 h.1.1
    have n20j := (h.1.2.2 j xj hxj).2.2.2.2.1
    have x20j := (h.1.2.2 j xj hxj).2.1.1
    have q35j := (h.1.2.2 j xj hxj).2.2.2.2.2.1
    show J _ _ _ _ _ _ _
    refine J_zeq rfl (fun b => absurd b (by decide)) (fun _ => ?_)
    refine J_p 4 (ls' := [_, _, _, _]) rfl ?_
    refine J_call rfl rfl rfl rfl rfl (c_inZ0 (x := v) (b := 1) (b1 := 2) (by decide) rfl (fun b h12 l12 e12 => ?_) (fun h12 => ?_))
    · skip
      subst e12
      show J _ _ _ _ _ _ _
      refine J_zne rfl (fun _ => ?_) (fun b => absurd b (by decide))
      rcases (show b = 0 ∨ b = 1 from by omega) with rfl | rfl
      · skip
        refine J_p 2 (ls' := [_, _, _, _]) rfl ?_
        have en := h.nx w hxj (q_ls xj).length (Nat.le_refl _)
        refine J_call rfl rfl rfl (decide_eq_true hS.t) rfl (c_nextOf hS q8j n20j (h.LM w hxj) q35j ?_)
        rw [en]
        cases hi : nxA (a_m A) (q_ls xj) (q_ls xj).length with
        | none =>
          show J _ _ _ _ _ _ _
          refine J_p 2 (ls' := [_, _, _, _]) rfl ?_
          refine J_zge rfl (fun b => absurd b (by decide)) (fun _ => ?_)
          refine J_p 2 (ls' := [_, _, _, _]) rfl ?_
          exact J_ret rfl rfl rfl (kO _ _ (by simp only [fNext, h2, hxj, h12, hi, if_true, if_false, reduceIte]) g h (w.mono (by omega) hT))
        | some i =>
          obtain ⟨i1, i2⟩ := nxA_lt _ _ _ _ hi
          obtain ⟨l, hl⟩ := get_of i1
          show J _ _ _ _ _ _ _
          refine J_n0 (n := i) rfl ?_
          refine J_p 2 (ls' := [_, _, _, _]) rfl ?_
          refine J_zge rfl (fun _ => ?_) (fun b => absurd (nI_pos' (by omega)) b)
          refine J_p 1 (ls' := [_, _, _, _]) rfl ?_
          refine J_zne rfl (fun b => absurd rfl b) (fun _ => ?_)
          refine J_p 4 (ls' := [_, _, _, _]) rfl ?_
          refine J_call rfl rfl rfl (decide_eq_true hS.t) rfl (c_letterOf hS j i 0 (by omega) (h.letter hxj hl).2.1 ?_)
          show J _ _ _ _ _ _ _
          refine J_p 1 (ls' := [_, _, _, _]) rfl ?_
          exact J_ret rfl rfl rfl (kO _ _ (by simp only [fNext, h2, hxj, h12, hi, hl, if_true, if_false, reduceIte]) g h (w.mono (by omega) hT))
      · skip
        refine J_p 2 (ls' := [_, _, _, _]) rfl ?_
        have en := h.nx w hxj (q_ls xj).length (Nat.le_refl _)
        refine J_call rfl rfl rfl (decide_eq_true hS.t) rfl (c_nextOf hS q8j n20j (h.LM w hxj) q35j ?_)
        rw [en]
        cases hi : nxA (a_m A) (q_ls xj) (q_ls xj).length with
        | none =>
          show J _ _ _ _ _ _ _
          refine J_p 2 (ls' := [_, _, _, _]) rfl ?_
          refine J_zge rfl (fun b => absurd b (by decide)) (fun _ => ?_)
          refine J_p 2 (ls' := [_, _, _, _]) rfl ?_
          exact J_ret rfl rfl rfl (kO _ _ (by simp only [fNext, h2, hxj, h12, hi, if_true, if_false, reduceIte]) g h (w.mono (by omega) hT))
        | some i =>
          obtain ⟨i1, i2⟩ := nxA_lt _ _ _ _ hi
          obtain ⟨l, hl⟩ := get_of i1
          show J _ _ _ _ _ _ _
          refine J_n0 (n := i) rfl ?_
          refine J_p 2 (ls' := [_, _, _, _]) rfl ?_
          refine J_zge rfl (fun _ => ?_) (fun b => absurd (nI_pos' (by omega)) b)
          refine J_p 1 (ls' := [_, _, _, _]) rfl ?_
          refine J_zne rfl (fun _ => ?_) (fun b => absurd b (by decide))
          refine J_p 2 (ls' := [_, _, _, _]) rfl ?_
          have ew := h.who w hxj
          have hl1 := (w.2.1 j xj hxj).2.2.2.2.2.2.1
          have c10 := h.2.1.1
          refine J_call rfl rfl rfl (decide_eq_true hS.t) rfl (c_who (l1 := q_l1 xj) hS q8j h.2.1.1 (by omega) h.2.1.2.1 (h.1.2.2 j xj hxj).2.2.1.2.2.2.2.2 ?_)
          rw [ew]
          show J _ _ _ _ _ _ _
          exact J_ret rfl rfl rfl (kO _ _ (by simp only [fNext, h2, hxj, h12, hi, hl, if_true, if_false, reduceIte]) g h (w.mono (by omega) hT))
    · skip
      show J _ _ _ _ _ _ _
      refine J_zne rfl (fun b => absurd rfl b) (fun _ => ?_)
      refine J_p 2 (ls' := [_, _, _, _]) rfl ?_
      refine J_call rfl rfl rfl (decide_eq_true hS.t) rfl (c_refused hS 0 (by decide) (by decide) ?_)
      show J _ _ _ _ _ _ _
      exact J_ret rfl rfl rfl (kR 0 _ (by simp only [fNext, h2, hxj, h12, if_true, if_false, reduceIte]) (by decide))
  · skip
    show J _ _ _ _ _ _ _
    refine J_zeq rfl (fun _ => ?_) (fun b => absurd rfl b)
    refine J_p 2 (ls' := [_, _, _, _]) rfl ?_
    refine J_call rfl rfl rfl (decide_eq_true hS.t) rfl (c_refused hS 0 (by decide) (by decide) ?_)
    show J _ _ _ _ _ _ _
    exact J_ret rfl rfl rfl (kR 0 _ (by simp only [fNext, h2, if_true, if_false, reduceIte]) (by decide))

end PUB3