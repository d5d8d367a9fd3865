/-! THE REFERENCE: publish. -/
def fullA (A : Ab) (q : Nat) (x : Qa) (m : Nat) : Ab := w_d (w_q A ((a_q A).set q (x_di x (q_di x + nI 1)))) (roomD (a_d A) ++ [(m, q, a_n A, [(nI 6, nI (a_n A), nI (q_li x), nI 0)])])
def intoA (A : Ab) (q : Nat) (x : Qa) (m : Nat) : Ab := if (q_ls x).length = q_li x then fullA A q x m else comeA A q x m
def sendQ (m : Nat) : Nat → Ab → Nat → Ab × Nat
  | 0, A, _ => (A, 0)
  | d + 1, A, q => match (a_q A)[q]? with
    | none => (A, 0)
    | some x => if fitQ A q = true then ((sendQ m d (intoA A q x m) (q + 1)).1, (sendQ m d (intoA A q x m) (q + 1)).2 + 1) else sendQ m d A (q + 1)
def newMs (A : Ab) (key pr : Nat) (v : Int32) : Ab := w_m A (a_m A ++ [((a_t A).length, key, pr, v, a_n A)])
def sendA (A : Ab) (key pr : Nat) (v : Int32) : Ab × Nat := sendQ (a_m A).length (a_q A).length (newMs A key pr v) 0
def fPublish (A : Ab) (key pr v : Int32) : Rs := match ixN key 8 with
  | none => .inl 0
  | some k => match ixN pr 4 with
    | none => .inl 0
    | some p => if (a_t A).length = 0 then .inl 3 else if (a_m A).length = 300 then .inl 4 else .inr (nI (sendA A k p v).2, (sendA A k p v).1)
/-- no letter of queues from q on is message m, no dead one of it is of these -/
def noM (A : Ab) (q m : Nat) : Prop := (∀ (p : Nat) (x : Qa) (j : Nat) (l : La), q ≤ p → (a_q A)[p]? = some x → (q_ls x)[j]? = some l → l_m l ≠ m) ∧ (∀ (i : Nat) (d : Da), (a_d A)[i]? = some d → d_m d = m → d_q d < q)
section PUB13
variable {E : Nat × Nat} {M : Mm} {r T : Nat} {g : Nat → Int32} {A : Ab} {Q : Option Value → Mm → Prop} {q c i m : Nat} {x y : Qa} {k : Co} {l : La}
theorem Rep.newM {g' : Nat → Int32} {key pr : Nat} {v : Int32} (h : Rep g A) (hm : (a_m A).length = m) (h300 : m < 300) (e : ∀ z, z ≠ 2 → (z < 51 + 9 * m ∨ 51 + 9 * m + 9 ≤ z) → g' z = g z) (h2' : g' 2 = nI (m + 1)) (hM : RepM g' m ((a_t A).length, key, pr, v, a_n A)) : Rep g' (newMs A key pr v) := by
  obtain ⟨⟨h1, h2, h3⟩, ⟨h4, h5, h6⟩, ⟨h7, h8, h9⟩, ⟨h10, h11, h12⟩, h13, h14, ⟨h15, h16, h17⟩, h18⟩ := h
  refine ⟨⟨h1, ?_, fun p y hp => ?_⟩, ⟨h4, ?_, fun c y hc => ?_⟩, ⟨?_, ?_, fun j y hj => ?_⟩, ⟨h10, ?_, fun i y hi => ?_⟩, ?_, ?_, ⟨h15, ?_, fun k c hk => ?_⟩, fun z hz => ?_⟩
  · rw [e 0 (by omega) (by omega)]; exact h2
  · exact (h3 p y hp).fr (fun z h1 h2 => e z (by omega) (by omega))
  · rw [e 1 (by omega) (by omega)]; exact h5
  · have : c < 10 := Nat.lt_of_lt_of_le (li hc) h4
    exact (h6 c y hc).fr (fun z h1 h2 => e z (by omega) (by omega))
  · show (a_m A ++ [((a_t A).length, key, pr, v, a_n A)]).length ≤ 300
    rw [List.length_append, hm]; exact h300
  · show _ = nI (a_m A ++ [((a_t A).length, key, pr, v, a_n A)]).length
    rw [List.length_append, hm]; exact h2'
  · rcases app_or hj with ⟨rfl, rfl⟩ | ⟨hlt, hj⟩
    · rw [hm]; exact hM
    · exact (h9 j y hj).fr (fun z h1 h2 => e z (by omega) (by omega))
  · rw [e 3 (by omega) (by omega)]; exact h11
  · have : i < 30 := Nat.lt_of_lt_of_le (li hi) h10
    exact (h12 i y hi).fr (fun z h1 h2 => e z (by omega) (by omega))
  · rw [e 4 (by omega) (by omega)]; exact h13
  · rw [e 5 (by omega) (by omega)]; exact h14
  · rw [e 6 (by omega) (by omega)]; exact h16
  · have : k < 4 := Nat.lt_of_lt_of_le (li hk) h15
    rw [e _ (by omega) (by omega)]; exact h17 k c hk
  · rw [e _ (by omega) (by omega)]; exact h18 z hz
theorem Wf.newM {key pr : Nat} {v : Int32} (w : Wf T A) (hk : key < 8) (hp : pr < 4) (h1 : 1 ≤ (a_t A).length) (h4 : (a_t A).length ≤ 4) : Wf T (newMs A key pr v) := by
  obtain ⟨w1, w2, w3, w4, w5, w6, w7⟩ := w
  have hlen : (a_m (newMs A key pr v)).length = (a_m A).length + 1 := by
    show (a_m A ++ [((a_t A).length, key, pr, v, a_n A)]).length = _
    rw [List.length_append]; rfl
  refine ⟨w1, fun p y hp => ?_, w3, fun j y hj => ?_, fun j d hj => ?_, w6, w7⟩
  · obtain ⟨a1, a2, a3, a4, a5, a6, a7, a8, a9, a10⟩ := w2 p y hp
    refine ⟨a1, a2, a3, a4, a5, a6, a7, a8, fun i l hi => ?_, a10⟩
    obtain ⟨b1, b2, b3, b4, b5, b6, b7⟩ := a9 i l hi
    exact ⟨by rw [hlen]; omega, b2, b3, b4, b5, b6, b7⟩
  · rcases app_or hj with ⟨_, rfl⟩ | ⟨_, hj⟩
    · exact ⟨h1, h4, hk, hp, Nat.le_refl _⟩
    · exact w4 j y hj
  · obtain ⟨a1, a2⟩ := w5 j d hj
    exact ⟨by rw [hlen]; omega, a2⟩
theorem noM_new {key pr : Nat} {v : Int32} (w : Wf T A) (hm : (a_m A).length = m) : noM (newMs A key pr v) 0 m := by
  refine ⟨fun p x j l _ hx hl => ?_, fun i d hd e => ?_⟩
  · have := (w.ls (show (a_q A)[p]? = some x from hx) hl).1; omega
  · have := (w.2.2.2.2.1 i d hd).1; omega
theorem noM_skip (h : noM A q m) : noM A (q + 1) m := ⟨fun p x j l hp => h.1 p x j l (by omega), fun i d hd e => by have := h.2 i d hd e; omega⟩
theorem noM_come (h : noM A q m) (hx : (a_q A)[q]? = some x) : noM (comeA A q x m) (q + 1) m := by
  refine ⟨fun p z j l hp hz hl => ?_, fun i d hd e => by have := h.2 i d hd e; omega⟩
  rcases set_or hz with ⟨e, _⟩ | ⟨_, hz⟩
  · omega
  · exact h.1 p z j l (by omega) hz hl
theorem noM_full (h : noM A q m) (hx : (a_q A)[q]? = some x) : noM (fullA A q x m) (q + 1) m := by
  refine ⟨fun p z j l hp hz hl => ?_, fun i d hd e => ?_⟩
  · rcases set_or hz with ⟨e, _⟩ | ⟨_, hz⟩
    · omega
    · exact h.1 p z j l (by omega) hz hl
  · rcases app_or hd with ⟨_, rfl⟩ | ⟨_, hd⟩
    · exact Nat.lt_succ_self q
    · obtain ⟨j, hj⟩ := room_sub hd
      have := h.2 j d hj e; omega
theorem Wf.full (w : Wf T A) (h : noM A q m) (hx : (a_q A)[q]? = some x) (hm : m < (a_m A).length) : Wf T (fullA A q x m) := by
  have w1 := w.di hx (q_di x + nI 1)
  have w2 := w1.room
  refine w2.push (d := (m, q, a_n A, [(nI 6, nI (a_n A), nI (q_li x), nI 0)])) ⟨hm, ?_, Nat.le_refl 1, fun k c hk => ?_, Nat.le_refl _, fun z j l hz hl => ?_⟩ (fun i e he => ?_)
  · show q < ((a_q A).set q _).length
    rw [List.length_set]; exact li hx
  · cases k with
    | zero =>
      obtain rfl := Option.some.inj hk
      exact Or.inr ⟨Or.inr rfl, rfl⟩
    | succ k => cases hk
  · rcases set_or hz with ⟨_, rfl⟩ | ⟨hne, hz⟩
    · exact h.1 q x j l (Nat.le_refl _) hx hl
    · exact absurd rfl hne
  · obtain ⟨j, hj⟩ := room_sub he
    rintro ⟨e1, e2⟩
    have := h.2 j e hj e1
    have e3 : d_q e = q := e2
    omega
theorem Wf.into (w : Wf T A) (h : noM A q m) (hx : (a_q A)[q]? = some x) (hm : m < (a_m A).length) : Wf T (intoA A q x m) := by
  unfold intoA
  split
  · exact w.full h hx hm
  · rename_i hne
    have := (w.2.1 q x hx).2.2.2.2.2.2.2.1
    refine w.come hx hm (by omega) (fun j l hj => h.1 q x j l (Nat.le_refl _) hx hj) (fun j d hj => ?_)
    rintro ⟨e1, e2⟩
    have := h.2 j d hj e1
    omega
theorem noM_into (h : noM A q m) (hx : (a_q A)[q]? = some x) : noM (intoA A q x m) (q + 1) m := by
  unfold intoA
  split
  · exact noM_full h hx
  · exact noM_come h hx
theorem into_len : (a_q (intoA A q x m)).length = (a_q A).length ∧ (a_m (intoA A q x m)) = a_m A := by
  unfold intoA
  split
  · exact ⟨List.length_set .., rfl⟩
  · exact ⟨List.length_set .., rfl⟩
theorem Rep.full {nd : Nat} (h : Rep g A) (hx : (a_q A)[q]? = some x) (hnd : (a_d A).length = nd) : Rep (upd (gAhead (gNewDead g q nd (nI m)) (2751 + 24 * nRoom nd + 4) (nI 0) (nI 6) (nI (q_li x))) (2751 + 24 * nRoom nd + 3) (nI 1)) (fullA A q x m) := by
  have h1 := h.newD (m := m) hx
  rw [hnd] at h1
  have h30 := h.2.2.2.1.1
  have hk : (roomD (a_d A)).length = nRoom nd := by rw [roomD_len h30, hnd]
  have hn29 : nRoom nd ≤ 29 := nRoom_le (by omega)
  have hD := h1.2.2.2.1.2.2 _ _ (last_get (l := roomD (a_d A)) (v := (m, q, a_n A, [])))
  rw [hk] at hD
  have h4 : gNewDead g q nd (nI m) 4 = nI (a_n A) := h1.2.2.2.2.1
  show Rep _ (w_d (w_d (w_q A ((a_q A).set q (x_di x (q_di x + nI 1)))) (roomD (a_d A) ++ [(m, q, a_n A, [])])) (roomD (a_d A) ++ [(m, q, a_n A, [(nI 6, nI (a_n A), nI (q_li x), nI 0)])]))
  refine Rep.lastD (D := roomD (a_d A)) (d := (m, q, a_n A, [])) (k := nRoom nd) (d' := (m, q, a_n A, [(nI 6, nI (a_n A), nI (q_li x), nI 0)])) h1 rfl hk ⟨by show 1 ≤ 5; omega, ?_, ?_, ?_, ?_, fun k c hc => ?_⟩ (fun z hz => ?_)
  · simp only [upd, gAhead]; repeat (first | rw [if_pos trivial] | rw [if_neg (by omega)] | rw [if_pos (by omega)])
    exact hD.2.1
  · simp only [upd, gAhead]; repeat (first | rw [if_pos trivial] | rw [if_neg (by omega)] | rw [if_pos (by omega)])
    exact hD.2.2.1
  · simp only [upd, gAhead]; repeat (first | rw [if_pos trivial] | rw [if_neg (by omega)] | rw [if_pos (by omega)])
    exact hD.2.2.2.1
  · exact if_pos rfl
  · cases k with
    | succ k => cases hc
    | zero =>
      obtain rfl := Option.some.inj hc
      refine ⟨?_, ?_, ?_, ?_⟩
      all_goals (simp only [upd, gAhead]; repeat (first | rw [if_pos trivial] | rw [if_neg (by omega)] | rw [if_pos (by omega)]))
      all_goals first | done | exact h4 | rfl
  · simp only [upd, gAhead]
    repeat (first | rw [if_neg (by omega)] | rw [if_pos (by omega)])

theorem c_send_l (hS : RS M r) {m : Nat} {v1 v2 v3 : Value} {v5 : Int32} : ∀ (d q : Nat) (A : Ab) (g : Nat → Int32) (n : Nat) (x8 : Value), Rep g A → Wf T A → noM A q m → q + d = (a_q A).length → m < (a_m A).length →
    (∀ g' : Nat → Int32, Rep g' (sendQ m d A q).1 → Wf T (sendQ m d A q).1 → Q (some (.int (nI (n + (sendQ m d A q).2)))) (wI M (r + 1) g')) →
    J E 193 117 [.ref r, v1, v2, v3, .int (nI m), .int v5, .int (nI n), .int (nI q), x8] [] (wI M (r + 1) g) Q
  | 0, q, A, g, n, x8, h, w, hn, hq, hm, k => by
    have d30 := h.2.2.2.1.1
    have h8 := h.1.1
    have m300 := h.2.2.1.1
    refine J_p 2 (ls' := [_, _, _, _, _, _, _, _, _]) rfl ?_
    refine J_getR rfl hS.t hS.f0 ?_
    refine J_p 1 (ls' := [_, _, _, _, _, _, _, _, _]) rfl ?_
    refine J_gld (n := 0) rfl (by repeat' (first | with_reducible rfl | assumption | with_reducible refine nI_decE ?_ | with_reducible refine nI_addE ?_ ?_ | with_reducible refine nI_mulE ?_ ?_ | with_reducible refine nI_subE ?_ ?_ ?_ | omega | (with_reducible refine congrArg nI ?_; omega))) hS (by omega) h.1.2.1 ?_
    refine J_ige rfl (fun b125 => ?_) (fun b125 => ?_)
    · skip
      refine J_p 1 (ls' := [_, _, _, _, _, _, _, _, _]) rfl ?_
      exact J_ret rfl rfl rfl (k g h w)
    · skip
      exact absurd (nI_le (a := (a_q A).length) (b := q) (by omega) (by omega)) b125
  | d + 1, q, A, g, n, x8, h, w, hn, hq, hm, k => by
    have d30 := h.2.2.2.1.1
    have h8 := h.1.1
    have m300 := h.2.2.1.1
    obtain ⟨x, hx⟩ := get_of (l := a_q A) (i := q) (by omega)
    have hQ := h.1.2.2 q x hx
    have n20 := hQ.2.2.2.2.1
    have l20 := (w.2.1 q x hx).2.1.2
    refine J_p 2 (ls' := [_, _, _, _, _, _, _, _, _]) rfl ?_
    refine J_getR rfl hS.t hS.f0 ?_
    refine J_p 1 (ls' := [_, _, _, _, _, _, _, _, _]) rfl ?_
    refine J_gld (n := 0) rfl (by repeat' (first | with_reducible rfl | assumption | with_reducible refine nI_decE ?_ | with_reducible refine nI_addE ?_ ?_ | with_reducible refine nI_mulE ?_ ?_ | with_reducible refine nI_subE ?_ ?_ ?_ | omega | (with_reducible refine congrArg nI ?_; omega))) hS (by omega) h.1.2.1 ?_
    refine J_ige rfl (fun b125 => ?_) (fun b125 => ?_)
    · skip
      exact absurd b125 (nI_ge (a := q) (b := (a_q A).length) (by omega) (by omega))
    · skip
      refine J_p 2 (ls' := [_, _, _, _, _, _, _, _, _]) rfl ?_
      refine J_call rfl rfl rfl (decide_eq_true hS.t) rfl (c_fitA hS h w hx (fun hf => ?_) (fun hf => ?_))
      · skip
        have e2 : fitQ A q = true := by unfold fitQ; rw [hx]; exact hf
        show J _ _ _ _ _ _ _
        refine J_zeq rfl (fun b => absurd b (by decide)) (fun _ => ?_)
        refine J_p 4 (ls' := [_, _, _, _, _, _, _, _, _]) rfl ?_
        refine J_call rfl rfl rfl (decide_eq_true hS.t) rfl (c_of hS q 35 (by omega) hQ.2.2.2.2.2.1 ?_)
        show J _ _ _ _ _ _ _
        refine J_p 3 (ls' := [_, _, _, _, _, _, _, _, _]) rfl ?_
        refine J_call rfl rfl rfl (decide_eq_true hS.t) rfl (c_of hS q 26 (by omega) hQ.2.2.1.1 ?_)
        show J _ _ _ _ _ _ _
        refine J_ine rfl (fun b156 => ?_) (fun b156 => ?_)
        · skip
          have e4 : ¬ (q_ls x).length = q_li x := fun y => b156 (by rw [y])
          have e5 := (w.2.1 q x hx).2.2.2.2.2.2.2.1
          refine J_p 3 (ls' := [_, _, _, _, _, _, _, _, _]) rfl ?_
          refine J_call rfl rfl rfl (decide_eq_true hS.t) rfl (c_comesA (m := m) hS h w hx (by omega) (by omega) (fun g' h' => ?_))
          have hI : intoA A q x m = comeA A q x m := by unfold intoA; rw [if_neg e4]
          rw [← hI] at h'
          show J _ _ _ _ _ _ _
          refine J_p 2 (ls' := [_, _, _, _, _, _, _, _, _]) rfl ?_
          rw [nI_add q 1, nI_add n 1]
          have hw' := w.into hn hx hm
          have hn' := noM_into hn hx
          have hl' := into_len (A := A) (q := q) (x := x) (m := m)
          refine c_send_l hS d (q + 1) (intoA A q x m) _ (n + 1) _ h' hw' hn' (by rw [hl'.1]; omega) (by rw [hl'.2]; exact hm) (fun g2 h2 w2 => ?_)
          have es : sendQ m (d + 1) A q = ((sendQ m d (intoA A q x m) (q + 1)).1, (sendQ m d (intoA A q x m) (q + 1)).2 + 1) := by simp only [sendQ, hx, e2, if_true]
          rw [es] at k
          rw [show n + 1 + (sendQ m d (intoA A q x m) (q + 1)).2 = n + ((sendQ m d (intoA A q x m) (q + 1)).2 + 1) by omega]
          exact k g2 h2 w2
        · skip
          have e4 : (q_ls x).length = q_li x := (nI_eq (by omega) (by have := (w.2.1 q x hx).2.1.2; omega)).mp b156
          have nr := nRoom_le d30
          refine J_p 3 (ls' := [_, _, _, _, _, _, _, _, _]) rfl ?_
          refine J_call rfl rfl rfl (decide_eq_true hS.t) rfl (c_newDead (nd := (a_d A).length) (m := nI m) hS (by omega) d30 h.2.2.2.1.2.1 ?_)
          show J _ _ _ _ _ _ _
          refine J_p 10 (ls' := [_, _, _, _, _, _, _, _, _]) rfl ?_
          refine J_call rfl rfl rfl (decide_eq_true hS.t) rfl (c_of hS q 26 (z := nI (q_li x)) (by omega) (by rw [gNewDead_lt (by omega) (by omega) (by omega) (by omega)]; exact hQ.2.2.1.1) ?_)
          show J _ _ _ _ _ _ _
          refine J_n3 (n := 2751 + 24 * nRoom (a_d A).length + 4) (by repeat' (first | with_reducible rfl | assumption | with_reducible refine nI_decE ?_ | with_reducible refine nI_addE ?_ ?_ | with_reducible refine nI_mulE ?_ ?_ | with_reducible refine nI_subE ?_ ?_ ?_ | omega | (with_reducible refine congrArg nI ?_; omega))) ?_
          refine J_call rfl rfl rfl (decide_eq_true hS.t) rfl (c_ahead hS (a := 2751 + 24 * nRoom (a_d A).length + 4) _ _ _ (by omega) (by omega) ?_)
          show J _ _ _ _ _ _ _
          refine J_p 1 (ls' := [_, _, _, _, _, _, _, _, _]) rfl ?_
          refine J_getR rfl hS.t hS.f0 ?_
          refine J_p 4 (ls' := [_, _, _, _, _, _, _, _, _]) rfl ?_
          refine J_gst (n := 2751 + 24 * nRoom (a_d A).length + 3) rfl (by repeat' (first | with_reducible rfl | assumption | with_reducible refine nI_decE ?_ | with_reducible refine nI_addE ?_ ?_ | with_reducible refine nI_mulE ?_ ?_ | with_reducible refine nI_subE ?_ ?_ ?_ | omega | (with_reducible refine congrArg nI ?_; omega))) hS (by omega) ?_
          have h' := h.full (m := m) hx rfl
          have hI : intoA A q x m = fullA A q x m := by unfold intoA; rw [if_pos e4]
          rw [← hI] at h'
          refine J_p 1 (ls' := [_, _, _, _, _, _, _, _, _]) rfl ?_
          refine J_p 2 (ls' := [_, _, _, _, _, _, _, _, _]) rfl ?_
          rw [nI_add q 1, nI_add n 1]
          have hw' := w.into hn hx hm
          have hn' := noM_into hn hx
          have hl' := into_len (A := A) (q := q) (x := x) (m := m)
          refine c_send_l hS d (q + 1) (intoA A q x m) _ (n + 1) _ h' hw' hn' (by rw [hl'.1]; omega) (by rw [hl'.2]; exact hm) (fun g2 h2 w2 => ?_)
          have es : sendQ m (d + 1) A q = ((sendQ m d (intoA A q x m) (q + 1)).1, (sendQ m d (intoA A q x m) (q + 1)).2 + 1) := by simp only [sendQ, hx, e2, if_true]
          rw [es] at k
          rw [show n + 1 + (sendQ m d (intoA A q x m) (q + 1)).2 = n + ((sendQ m d (intoA A q x m) (q + 1)).2 + 1) by omega]
          exact k g2 h2 w2
      · skip
        have e2 : fitQ A q = false := by unfold fitQ; rw [hx]; exact hf
        show J _ _ _ _ _ _ _
        refine J_zeq rfl (fun _ => ?_) (fun b => absurd rfl b)
        refine J_p 2 (ls' := [_, _, _, _, _, _, _, _, _]) rfl ?_
        rw [nI_add q 1]
        have es : sendQ m (d + 1) A q = sendQ m d A (q + 1) := by simp only [sendQ, hx, e2, if_false, reduceIte]; rfl
        rw [es] at k
        exact c_send_l hS d (q + 1) A g n _ h w (noM_skip hn) (by omega) hm k

theorem c_publishesA (hS : RS M r) (h : Rep g A) (w : Wf T A) {key pr : Nat} {v : Int32} (hk8 : key < 8) (hp4 : pr < 4) (ht : 1 ≤ (a_t A).length) (hmm : (a_m A).length = m) (hm : m < 300) (k : ∀ g' : Nat → Int32, Rep g' (sendA A key pr v).1 → Wf T (sendA A key pr v).1 → Q (some (.int (nI (sendA A key pr v).2))) (wI M (r + 1) g')) : J E 193 0 [.ref r, .int (nI key), .int (nI pr), .int v, U0, U0, U0, U0, U0] [] (wI M (r + 1) g) Q := by
  have t4 := h.2.2.2.2.2.2.1.1
  have m2 : g 2 = nI m := by rw [← hmm]; exact h.2.2.1.2.1
  refine J_p 1 (ls' := [_, _, _, _, _, _, _, _, _]) rfl ?_
  refine J_getR rfl hS.t hS.f0 ?_
  refine J_p 1 (ls' := [_, _, _, _, _, _, _, _, _]) rfl ?_
  refine J_gld (n := 2) rfl (by repeat' (first | with_reducible rfl | assumption | with_reducible refine nI_decE ?_ | with_reducible refine nI_addE ?_ ?_ | with_reducible refine nI_mulE ?_ ?_ | with_reducible refine nI_subE ?_ ?_ ?_ | omega | (with_reducible refine congrArg nI ?_; omega))) hS (by omega) m2 ?_
  refine J_p 6 (ls' := [_, _, _, _, _, _, _, _, _]) rfl ?_
  refine J_n0 (n := 51 + 9 * m) (by repeat' (first | with_reducible rfl | assumption | with_reducible refine nI_decE ?_ | with_reducible refine nI_addE ?_ ?_ | with_reducible refine nI_mulE ?_ ?_ | with_reducible refine nI_subE ?_ ?_ ?_ | omega | (with_reducible refine congrArg nI ?_; omega))) ?_
  refine J_p 5 (ls' := [_, _, _, _, _, _, _, _, _]) rfl ?_
  refine J_ige rfl (fun b24 => ?_) (fun b24 => ?_)
  · skip
    exact absurd b24 (by decide)
  · skip
    refine J_p 1 (ls' := [_, _, _, _, _, _, _, _, _]) rfl ?_
    refine J_getR rfl hS.t hS.f0 ?_
    refine J_p 4 (ls' := [_, _, _, _, _, _, _, _, _]) rfl ?_
    refine J_getR rfl hS.t hS.f0 ?_
    refine J_p 3 (ls' := [_, _, _, _, _, _, _, _, _]) rfl ?_
    refine J_gld (n := 6 + 0) rfl (by repeat' (first | with_reducible rfl | assumption | with_reducible refine nI_decE ?_ | with_reducible refine nI_addE ?_ ?_ | with_reducible refine nI_mulE ?_ ?_ | with_reducible refine nI_subE ?_ ?_ ?_ | omega | (with_reducible refine congrArg nI ?_; omega))) hS (by omega) rfl ?_
    refine J_gst (n := 51 + 9 * m + 0) rfl (by repeat' (first | with_reducible rfl | assumption | with_reducible refine nI_decE ?_ | with_reducible refine nI_addE ?_ ?_ | with_reducible refine nI_mulE ?_ ?_ | with_reducible refine nI_subE ?_ ?_ ?_ | omega | (with_reducible refine congrArg nI ?_; omega))) hS (by omega) ?_
    refine J_p 4 (ls' := [_, _, _, _, _, _, _, _, _]) rfl ?_
    refine J_n1 (n := 0 + 1) (by repeat' (first | with_reducible rfl | assumption | with_reducible refine nI_decE ?_ | with_reducible refine nI_addE ?_ ?_ | with_reducible refine nI_mulE ?_ ?_ | with_reducible refine nI_subE ?_ ?_ ?_ | omega | (with_reducible refine congrArg nI ?_; omega))) ?_
    refine J_ige rfl (fun b24 => ?_) (fun b24 => ?_)
    · skip
      exact absurd b24 (by decide)
    · skip
      refine J_p 1 (ls' := [_, _, _, _, _, _, _, _, _]) rfl ?_
      refine J_getR rfl hS.t hS.f0 ?_
      refine J_p 4 (ls' := [_, _, _, _, _, _, _, _, _]) rfl ?_
      refine J_getR rfl hS.t hS.f0 ?_
      refine J_p 3 (ls' := [_, _, _, _, _, _, _, _, _]) rfl ?_
      refine J_gld (n := 6 + (0 + 1)) rfl (by repeat' (first | with_reducible rfl | assumption | with_reducible refine nI_decE ?_ | with_reducible refine nI_addE ?_ ?_ | with_reducible refine nI_mulE ?_ ?_ | with_reducible refine nI_subE ?_ ?_ ?_ | omega | (with_reducible refine congrArg nI ?_; omega))) hS (by omega) rfl ?_
      refine J_gst (n := 51 + 9 * m + (0 + 1)) rfl (by repeat' (first | with_reducible rfl | assumption | with_reducible refine nI_decE ?_ | with_reducible refine nI_addE ?_ ?_ | with_reducible refine nI_mulE ?_ ?_ | with_reducible refine nI_subE ?_ ?_ ?_ | omega | (with_reducible refine congrArg nI ?_; omega))) hS (by omega) ?_
      refine J_p 4 (ls' := [_, _, _, _, _, _, _, _, _]) rfl ?_
      refine J_n1 (n := 0 + 1 + 1) (by repeat' (first | with_reducible rfl | assumption | with_reducible refine nI_decE ?_ | with_reducible refine nI_addE ?_ ?_ | with_reducible refine nI_mulE ?_ ?_ | with_reducible refine nI_subE ?_ ?_ ?_ | omega | (with_reducible refine congrArg nI ?_; omega))) ?_
      refine J_ige rfl (fun b24 => ?_) (fun b24 => ?_)
      · skip
        exact absurd b24 (by decide)
      · skip
        refine J_p 1 (ls' := [_, _, _, _, _, _, _, _, _]) rfl ?_
        refine J_getR rfl hS.t hS.f0 ?_
        refine J_p 4 (ls' := [_, _, _, _, _, _, _, _, _]) rfl ?_
        refine J_getR rfl hS.t hS.f0 ?_
        refine J_p 3 (ls' := [_, _, _, _, _, _, _, _, _]) rfl ?_
        refine J_gld (n := 6 + (0 + 1 + 1)) rfl (by repeat' (first | with_reducible rfl | assumption | with_reducible refine nI_decE ?_ | with_reducible refine nI_addE ?_ ?_ | with_reducible refine nI_mulE ?_ ?_ | with_reducible refine nI_subE ?_ ?_ ?_ | omega | (with_reducible refine congrArg nI ?_; omega))) hS (by omega) rfl ?_
        refine J_gst (n := 51 + 9 * m + (0 + 1 + 1)) rfl (by repeat' (first | with_reducible rfl | assumption | with_reducible refine nI_decE ?_ | with_reducible refine nI_addE ?_ ?_ | with_reducible refine nI_mulE ?_ ?_ | with_reducible refine nI_subE ?_ ?_ ?_ | omega | (with_reducible refine congrArg nI ?_; omega))) hS (by omega) ?_
        refine J_p 4 (ls' := [_, _, _, _, _, _, _, _, _]) rfl ?_
        refine J_n1 (n := 0 + 1 + 1 + 1) (by repeat' (first | with_reducible rfl | assumption | with_reducible refine nI_decE ?_ | with_reducible refine nI_addE ?_ ?_ | with_reducible refine nI_mulE ?_ ?_ | with_reducible refine nI_subE ?_ ?_ ?_ | omega | (with_reducible refine congrArg nI ?_; omega))) ?_
        refine J_ige rfl (fun b24 => ?_) (fun b24 => ?_)
        · skip
          exact absurd b24 (by decide)
        · skip
          refine J_p 1 (ls' := [_, _, _, _, _, _, _, _, _]) rfl ?_
          refine J_getR rfl hS.t hS.f0 ?_
          refine J_p 4 (ls' := [_, _, _, _, _, _, _, _, _]) rfl ?_
          refine J_getR rfl hS.t hS.f0 ?_
          refine J_p 3 (ls' := [_, _, _, _, _, _, _, _, _]) rfl ?_
          refine J_gld (n := 6 + (0 + 1 + 1 + 1)) rfl (by repeat' (first | with_reducible rfl | assumption | with_reducible refine nI_decE ?_ | with_reducible refine nI_addE ?_ ?_ | with_reducible refine nI_mulE ?_ ?_ | with_reducible refine nI_subE ?_ ?_ ?_ | omega | (with_reducible refine congrArg nI ?_; omega))) hS (by omega) rfl ?_
          refine J_gst (n := 51 + 9 * m + (0 + 1 + 1 + 1)) rfl (by repeat' (first | with_reducible rfl | assumption | with_reducible refine nI_decE ?_ | with_reducible refine nI_addE ?_ ?_ | with_reducible refine nI_mulE ?_ ?_ | with_reducible refine nI_subE ?_ ?_ ?_ | omega | (with_reducible refine congrArg nI ?_; omega))) hS (by omega) ?_
          refine J_p 4 (ls' := [_, _, _, _, _, _, _, _, _]) rfl ?_
          refine J_n1 (n := 0 + 1 + 1 + 1 + 1) (by repeat' (first | with_reducible rfl | assumption | with_reducible refine nI_decE ?_ | with_reducible refine nI_addE ?_ ?_ | with_reducible refine nI_mulE ?_ ?_ | with_reducible refine nI_subE ?_ ?_ ?_ | omega | (with_reducible refine congrArg nI ?_; omega))) ?_
          refine J_ige rfl (fun b24 => ?_) (fun b24 => ?_)
          · skip
            exact absurd b24 (by decide)
          · skip
            refine J_p 1 (ls' := [_, _, _, _, _, _, _, _, _]) rfl ?_
            refine J_getR rfl hS.t hS.f0 ?_
            refine J_p 4 (ls' := [_, _, _, _, _, _, _, _, _]) rfl ?_
            refine J_getR rfl hS.t hS.f0 ?_
            refine J_p 3 (ls' := [_, _, _, _, _, _, _, _, _]) rfl ?_
            refine J_gld (n := 6 + (0 + 1 + 1 + 1 + 1)) rfl (by repeat' (first | with_reducible rfl | assumption | with_reducible refine nI_decE ?_ | with_reducible refine nI_addE ?_ ?_ | with_reducible refine nI_mulE ?_ ?_ | with_reducible refine nI_subE ?_ ?_ ?_ | omega | (with_reducible refine congrArg nI ?_; omega))) hS (by omega) rfl ?_
            refine J_gst (n := 51 + 9 * m + (0 + 1 + 1 + 1 + 1)) rfl (by repeat' (first | with_reducible rfl | assumption | with_reducible refine nI_decE ?_ | with_reducible refine nI_addE ?_ ?_ | with_reducible refine nI_mulE ?_ ?_ | with_reducible refine nI_subE ?_ ?_ ?_ | omega | (with_reducible refine congrArg nI ?_; omega))) hS (by omega) ?_
            refine J_p 4 (ls' := [_, _, _, _, _, _, _, _, _]) rfl ?_
            refine J_n1 (n := 0 + 1 + 1 + 1 + 1 + 1) (by repeat' (first | with_reducible rfl | assumption | with_reducible refine nI_decE ?_ | with_reducible refine nI_addE ?_ ?_ | with_reducible refine nI_mulE ?_ ?_ | with_reducible refine nI_subE ?_ ?_ ?_ | omega | (with_reducible refine congrArg nI ?_; omega))) ?_
            refine J_ige rfl (fun b24 => ?_) (fun b24 => ?_)
            · skip
              refine J_p 1 (ls' := [_, _, _, _, _, _, _, _, _]) rfl ?_
              refine J_getR rfl hS.t hS.f0 ?_
              refine J_p 4 (ls' := [_, _, _, _, _, _, _, _, _]) rfl ?_
              refine J_gst (n := 51 + 9 * m + 5) rfl (by repeat' (first | with_reducible rfl | assumption | with_reducible refine nI_decE ?_ | with_reducible refine nI_addE ?_ ?_ | with_reducible refine nI_mulE ?_ ?_ | with_reducible refine nI_subE ?_ ?_ ?_ | omega | (with_reducible refine congrArg nI ?_; omega))) hS (by omega) ?_
              refine J_p 1 (ls' := [_, _, _, _, _, _, _, _, _]) rfl ?_
              refine J_getR rfl hS.t hS.f0 ?_
              refine J_p 4 (ls' := [_, _, _, _, _, _, _, _, _]) rfl ?_
              refine J_gst (n := 51 + 9 * m + 6) rfl (by repeat' (first | with_reducible rfl | assumption | with_reducible refine nI_decE ?_ | with_reducible refine nI_addE ?_ ?_ | with_reducible refine nI_mulE ?_ ?_ | with_reducible refine nI_subE ?_ ?_ ?_ | omega | (with_reducible refine congrArg nI ?_; omega))) hS (by omega) ?_
              refine J_p 1 (ls' := [_, _, _, _, _, _, _, _, _]) rfl ?_
              refine J_getR rfl hS.t hS.f0 ?_
              refine J_p 4 (ls' := [_, _, _, _, _, _, _, _, _]) rfl ?_
              refine J_gst (n := 51 + 9 * m + 7) rfl (by repeat' (first | with_reducible rfl | assumption | with_reducible refine nI_decE ?_ | with_reducible refine nI_addE ?_ ?_ | with_reducible refine nI_mulE ?_ ?_ | with_reducible refine nI_subE ?_ ?_ ?_ | omega | (with_reducible refine congrArg nI ?_; omega))) hS (by omega) ?_
              refine J_p 1 (ls' := [_, _, _, _, _, _, _, _, _]) rfl ?_
              refine J_getR rfl hS.t hS.f0 ?_
              refine J_p 4 (ls' := [_, _, _, _, _, _, _, _, _]) rfl ?_
              refine J_getR rfl hS.t hS.f0 ?_
              refine J_p 1 (ls' := [_, _, _, _, _, _, _, _, _]) rfl ?_
              refine J_gld (n := 4) rfl (by repeat' (first | with_reducible rfl | assumption | with_reducible refine nI_decE ?_ | with_reducible refine nI_addE ?_ ?_ | with_reducible refine nI_mulE ?_ ?_ | with_reducible refine nI_subE ?_ ?_ ?_ | omega | (with_reducible refine congrArg nI ?_; omega))) hS (by omega) rfl ?_
              refine J_gst (n := 51 + 9 * m + 8) rfl (by repeat' (first | with_reducible rfl | assumption | with_reducible refine nI_decE ?_ | with_reducible refine nI_addE ?_ ?_ | with_reducible refine nI_mulE ?_ ?_ | with_reducible refine nI_subE ?_ ?_ ?_ | omega | (with_reducible refine congrArg nI ?_; omega))) hS (by omega) ?_
              refine J_p 1 (ls' := [_, _, _, _, _, _, _, _, _]) rfl ?_
              refine J_getR rfl hS.t hS.f0 ?_
              refine J_p 4 (ls' := [_, _, _, _, _, _, _, _, _]) rfl ?_
              refine J_gst (n := 2) rfl (by repeat' (first | with_reducible rfl | assumption | with_reducible refine nI_decE ?_ | with_reducible refine nI_addE ?_ ?_ | with_reducible refine nI_mulE ?_ ?_ | with_reducible refine nI_subE ?_ ?_ ?_ | omega | (with_reducible refine congrArg nI ?_; omega))) hS (by omega) ?_
              refine J_p 4 (ls' := [_, _, _, _, _, _, _, _, _]) rfl ?_
              refine c_send_l (E := E) hS (a_q A).length 0 (newMs A key pr v) _ 0 _ (h.newM hmm hm (fun z z1 z2 => ?_) ?_ ⟨?_, ?_, ?_, ?_, ?_⟩) (w.newM hk8 hp4 ht t4) (noM_new w hmm) (by show 0 + (a_q A).length = (a_q A).length; omega) (by show m < (a_m A ++ [_]).length; rw [List.length_append, hmm]; exact Nat.lt_succ_self m) (fun g2 h2 w2 => ?_)
              all_goals first | (rw [Nat.zero_add]; rw [← hmm] at h2 w2 ⊢; exact k g2 h2 w2) | skip
              all_goals (simp only [upd]; (repeat (first | rw [if_pos trivial] | rw [if_neg (by omega)] | rw [if_pos (by omega)])))
              all_goals first | done | exact h.2.2.2.2.2.2.1.2.1 | exact h.2.2.2.2.1 | exact nI_add m 1 | rfl
            · skip
              exact absurd (by decide) b24

end PUB13