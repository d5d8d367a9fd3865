/-! THE REFERENCE: leave, revive, bury, purge. -/
def rdL (l : La) : La := (l_m l, 0, l_x l, l_t l, l_c l)
def bkL (c : Nat) (l : La) : La := if l_s l = 2 ∧ l_x l = c then rdL l else l
def backL (L : List La) (c : Nat) : List La := L.map (bkL c)
def backA (A : Ab) (c q : Nat) (x : Qa) : Ab := w_q A ((a_q A).set q (x_ls x (backL (q_ls x) c)))
def leaveA (A : Ab) (c : Nat) (k : Co) (x : Qa) : Ab := w_c (backA A c (k_q k) x) ((a_c A).set c (k_q k, 0, 1, k_gt k))
def fLeave (A : Ab) (q : Int32) : Rs := match hereN A q with
  | none => .inl 0
  | some c => match (a_c A)[c]? with
    | none => .inl 0
    | some k => match (a_q A)[k_q k]? with
      | none => .inl 0
      | some x => .inr (nI (cnA (outB (q_ls x) c) (q_ls x).length), leaveA A c k x)
theorem oaA_none {L : List La} {c : Nat} : ∀ (d i : Nat), oaA L c none d i = none → ∀ j, i ≤ j → j < i + d → outB L c j = false
  | 0, _, _, _, h1, h2 => absurd h2 (by omega)
  | d + 1, i, h, j, h1, h2 => by
    unfold oaA at h
    split at h
    · cases h
    · rename_i c1
      by_cases e : j = i
      · subst e
        cases hb : outB L c j with
        | false => rfl
        | true =>
          refine absurd (isA_iff.mpr ?_) c1
          unfold outB at hb
          cases hl : L[j]? with
          | none => rw [hl] at hb; cases hb
          | some l =>
            rw [hl] at hb
            simp only [Bool.and_eq_true, decide_eq_true_eq] at hb
            exact ⟨l, rfl, hb.1, hb.2, Or.inl rfl⟩
      · exact oaA_none d (i + 1) h j (by omega) (by omega)
theorem cnA_zero {p : Nat → Bool} : ∀ n, (∀ i, i < n → p i = false) → cnA p n = 0
  | 0, _ => rfl
  | n + 1, h => by
    unfold cnA
    rw [cnA_zero n (fun i hi => h i (by omega)), h n (by omega)]
    rfl
theorem back_id {L : List La} {c : Nat} (h : ∀ j, j < L.length → outB L c j = false) : backL L c = L := by
  unfold backL
  apply List.ext_getElem?
  intro j
  rw [List.getElem?_map]
  cases hl : L[j]? with
  | none => rfl
  | some l =>
    have := h j (li hl)
    show some (bkL c l) = some l
    unfold bkL
    rw [if_neg (fun y => by rw [(outB_iff hl).mpr y] at this; cases this)]
theorem back_set {L : List La} {c i : Nat} {l : La} (hl : L[i]? = some l) (h1 : l_s l = 2) (h2 : l_x l = c) : backL (L.set i (rdL l)) c = backL L c := by
  unfold backL
  rw [List.map_set]
  have e1 : bkL c (rdL l) = rdL l := by
    unfold bkL
    rw [if_neg (fun y => by have : (0 : Nat) = 2 := y.1; omega)]
  have e2 : bkL c l = rdL l := by unfold bkL; rw [if_pos ⟨h1, h2⟩]
  rw [e1]
  refine set_id ?_
  rw [List.getElem?_map, hl]
  show some (bkL c l) = _
  rw [e2]
theorem back_cn {L : List La} {c i : Nat} {l : La} (hl : L[i]? = some l) (h1 : l_s l = 2) (h2 : l_x l = c) : cnA (outB (L.set i (rdL l)) c) (L.set i (rdL l)).length + 1 = cnA (outB L c) L.length := by
  rw [List.length_set]
  refine cnA_one (i := i) ((outB_iff hl).mpr ⟨h1, h2⟩) ?_ (fun j hj => ?_) _ (li hl)
  · cases e : outB (L.set i (rdL l)) c i with
    | false => rfl
    | true => have := ((outB_iff (set_get hl)).mp e).1; exact absurd (show (0 : Nat) = 2 from this) (by omega)
  · unfold outB; rw [List.getElem?_set_ne (fun y => hj y.symm)]
/-- a message comes into a queue -/
def comeA (A : Ab) (q : Nat) (x : Qa) (m : Nat) : Ab := w_q A ((a_q A).set q (x_ls x ((q_ls x).insertIdx (plcA m (q_ls x) (q_ls x).length) (m, 0, 0, 0, []))))
theorem plcA_lo {m : Nat} {L : List La} (hs : ∀ (i j : Nat) (l l' : La), i < j → L[i]? = some l → L[j]? = some l' → l_m l < l_m l') : ∀ n, n ≤ L.length → ∀ (j : Nat) (l : La), j < plcA m L n → L[j]? = some l → l_m l ≤ m
  | 0, _, _, _, h, _ => absurd h (Nat.not_lt_zero _)
  | n + 1, hn, j, l, h, hl => by
    obtain ⟨y, hy⟩ := get_of (l := L) (i := n) (by omega)
    unfold plcA at h
    rw [hy] at h
    simp only at h
    by_cases c : l_m y ≤ m
    · rw [if_pos c] at h
      rcases Nat.lt_or_ge j n with h2 | h2
      · have := hs j n l y h2 hl hy; omega
      · obtain rfl : j = n := by omega
        rw [hl] at hy; cases hy; exact c
    · rw [if_neg c] at h
      exact plcA_lo hs n (by omega) j l h hl
theorem plcA_hi {m : Nat} {L : List La} (hs : ∀ (i j : Nat) (l l' : La), i < j → L[i]? = some l → L[j]? = some l' → l_m l < l_m l') : ∀ n, n ≤ L.length → ∀ (j : Nat) (l : La), plcA m L n ≤ j → j < n → L[j]? = some l → m < l_m l
  | 0, _, _, _, _, h, _ => absurd h (Nat.not_lt_zero _)
  | n + 1, hn, j, l, h, hj, hl => by
    obtain ⟨y, hy⟩ := get_of (l := L) (i := n) (by omega)
    unfold plcA at h
    rw [hy] at h
    simp only at h
    by_cases c : l_m y ≤ m
    · rw [if_pos c] at h; omega
    · rw [if_neg c] at h
      rcases Nat.lt_or_ge j n with h2 | h2
      · exact plcA_hi hs n (by omega) j l h h2 hl
      · obtain rfl : j = n := by omega
        rw [hl] at hy; cases hy; omega
def fRevive (A : Ab) (i : Int32) : Rs := match ixN i (a_d A).length with
  | none => .inl 0
  | some j => match (a_d A)[j]? with
    | none => .inl 0
    | some d => match (a_q A)[d_q d]? with
      | none => .inl 0
      | some x => if (q_ls x).length = q_li x then .inl 4 else .inr (nI ((a_d A).length - 1), w_d (comeA A (d_q d) x (d_m d)) ((a_d A).eraseIdx j))
/-- the dead of a queue (none: all) are no more, from behind -/
def buA (o : Option Nat) : Nat → List Da → List Da × Nat
  | 0, D => (D, 0)
  | i + 1, D => match D[i]? with
    | none => (D, 0)
    | some d => if o = none ∨ o = some (d_q d) then ((buA o i (D.eraseIdx i)).1, (buA o i (D.eraseIdx i)).2 + 1) else buA o i D
def fBury (A : Ab) (q : Int32) : Rs := if q = -1 then .inr (nI (buA none (a_d A).length (a_d A)).2, w_d A (buA none (a_d A).length (a_d A)).1) else match ixN q (a_q A).length with
  | none => .inl 0
  | some j => .inr (nI (buA (some j) (a_d A).length (a_d A)).2, w_d A (buA (some j) (a_d A).length (a_d A)).1)
def puA : Nat → List La → List La × Nat
  | 0, L => (L, 0)
  | i + 1, L => match L[i]? with
    | none => (L, 0)
    | some l => if l_s l = 2 then puA i L else ((puA i (L.eraseIdx i)).1, (puA i (L.eraseIdx i)).2 + 1)
def fPurge (A : Ab) (q : Int32) : Rs := match ixN q (a_q A).length with
  | none => .inl 0
  | some j => match (a_q A)[j]? with
    | none => .inl 0
    | some x => .inr (nI (puA (q_ls x).length (q_ls x)).2, w_q A ((a_q A).set j (x_ls x (puA (q_ls x).length (q_ls x)).1)))
section PUB12
variable {E : Nat × Nat} {M : Mm} {r T : Nat} {g : Nat → Int32} {A : Ab} {Q : Option Value → Mm → Prop} {q c i : Nat} {x y : Qa} {k : Co} {l : La}
theorem Rep.rdO (h : Rep g A) (hx : (a_q A)[q]? = some x) (hl : (q_ls x)[i]? = some l) : Rep (upd (upd (upd g (3471 + 556 * q + 36 + 26 * i + 1) (nI 0)) (3471 + 556 * q + 36 + 26 * i + 3) (-1)) (3471 + 556 * q + 36 + 26 * i + 4) (-1)) (aSetL A q x i (rdL l)) := by
  obtain ⟨h0, h1, h2, h3, h4, h5, h6, h7⟩ := h.letter hx hl
  refine h.lt hx hl ⟨h0, ?_, ?_, ?_, ?_, ?_, ?_, h7.fr (fun z z1 z2 => ?_)⟩ (fun z hz => ?_)
  all_goals (simp only [upd]; repeat (first | rw [if_pos trivial] | rw [if_neg (by omega)] | rw [if_pos (by omega)]))
  · exact h1
  · rfl
  · exact h3
  · rfl
  · rfl
  · exact h6
theorem c_leave_l (hS : RS M r) {c : Nat} {k : Co} : ∀ (f : Nat) (A : Ab) (g : Nat → Int32) (n : Nat) (x : Qa), Rep g A → Wf T A → (a_c A)[c]? = some k → (a_q A)[k_q k]? = some x → cnA (outB (q_ls x) c) (q_ls x).length = f →
    (∀ (g' : Nat → Int32) (x3 : Value), Rep g' (backA A c (k_q k) x) → Wf T (backA A c (k_q k) x) → J E 208 80 [.ref r, .int (nI c), .int (nI (n + f)), x3] [] (wI M (r + 1) g') Q) →
    J E 208 24 [.ref r, .int (nI c), .int (nI n), .int (oI (oaA (q_ls x) c none (q_ls x).length 0))] [] (wI M (r + 1) g) Q
  | f, A, g, n, x, h, w, hk, hx, hf, kk => by
    have c10 : c < 10 := Nat.lt_of_lt_of_le (li hk) h.2.1.1
    have q8 : k_q k < 8 := Nat.lt_of_lt_of_le (li hx) h.1.1
    have n20 := (h.1.2.2 _ x hx).2.2.2.2.1
    have hcq := (h.2.1.2.2 c k hk).1
    cases ho : oaA (q_ls x) c none (q_ls x).length 0 with
    | none =>
      have hz := fun j (hj : j < (q_ls x).length) => oaA_none _ _ ho j (Nat.zero_le _) (by omega)
      have e0 : f = 0 := by rw [← hf]; exact cnA_zero _ hz
      have e1 : backA A c (k_q k) x = A := by
        unfold backA
        rw [back_id hz]
        exact w_q_id hx
      rw [e1, e0] at kk
      refine J_p 1 (ls' := [_, _, _, _]) rfl ?_
      refine J_zlt rfl (fun _ => ?_) (fun b => absurd (by decide) b)
      exact kk g _ h w
    | some i =>
      obtain ⟨l, hl, s2, x2, _⟩ := isA_iff.mp (oaA_at _ _ _ _ _ _ ho)
      have il := li hl
      refine J_L (ls' := [.ref r, .int (nI c), .int (nI n), .int (nI i)]) rfl ?_
      refine J_p 1 (ls' := [_, _, _, _]) rfl ?_
      refine J_zlt rfl (fun b => absurd b (nI_pos (by omega))) (fun _ => ?_)
      refine J_p 4 (ls' := [_, _, _, _]) rfl ?_
      refine J_call rfl rfl rfl (decide_eq_true hS.t) rfl (c_ofConsumer hS c 0 (z := nI (k_q k)) (by omega) (by first | exact hcq | (simp only [upd]; (repeat (rw [if_neg (by omega)])); exact hcq)) ?_)
      show J _ _ _ _ _ _ _
      refine J_p 3 (ls' := [_, _, _, _]) rfl ?_
      refine J_call rfl rfl rfl (decide_eq_true hS.t) rfl (c_letterIs hS (k_q k) i 1 _ (by omega) ?_)
      show J _ _ _ _ _ _ _
      refine J_p 4 (ls' := [_, _, _, _]) rfl ?_
      refine J_call rfl rfl rfl (decide_eq_true hS.t) rfl (c_ofConsumer hS c 0 (z := nI (k_q k)) (by omega) (by first | exact hcq | (simp only [upd]; (repeat (rw [if_neg (by omega)])); exact hcq)) ?_)
      show J _ _ _ _ _ _ _
      refine J_p 3 (ls' := [_, _, _, _]) rfl ?_
      refine J_call rfl rfl rfl (decide_eq_true hS.t) rfl (c_letterIs hS (k_q k) i 3 _ (by omega) ?_)
      show J _ _ _ _ _ _ _
      refine J_p 4 (ls' := [_, _, _, _]) rfl ?_
      refine J_call rfl rfl rfl (decide_eq_true hS.t) rfl (c_ofConsumer hS c 0 (z := nI (k_q k)) (by omega) (by first | exact hcq | (simp only [upd]; (repeat (rw [if_neg (by omega)])); exact hcq)) ?_)
      show J _ _ _ _ _ _ _
      refine J_p 3 (ls' := [_, _, _, _]) rfl ?_
      refine J_call rfl rfl rfl (decide_eq_true hS.t) rfl (c_letterIs hS (k_q k) i 4 _ (by omega) ?_)
      show J _ _ _ _ _ _ _
      have hr := h.rdO hx hl
      have w1 := w.setL hx hl (l' := rdL l) rfl ⟨(w.ls hx hl).1, Nat.zero_le 2, (w.ls hx hl).2.2.1, (w.ls hx hl).2.2.2.1, (w.ls hx hl).2.2.2.2.1, (w.ls hx hl).2.2.2.2.2.1, fun e => absurd (show (0 : Nat) = 2 from e) (by omega)⟩
      have hcn := back_cn hl s2 x2
      refine J_p 4 (ls' := [_, _, _, _]) rfl ?_
      rw [nI_add n 1]
      have hx1 : (a_q (aSetL A (k_q k) x i (rdL l)))[k_q k]? = some (x_ls x ((q_ls x).set i (rdL l))) := set_get hx
      refine J_call rfl rfl rfl (decide_eq_true hS.t) rfl (c_outAtA hS hr w1 (c := c) (k := k) hk hx1 (o := none) (Or.inl ⟨by decide, rfl⟩) ?_)
      show J _ _ _ _ _ _ _
      refine J_p 2 (ls' := [_, _, _, _]) rfl ?_
      cases f with
      | zero => omega
      | succ f =>
        refine c_leave_l hS f (aSetL A (k_q k) x i (rdL l)) _ (n + 1) (x_ls x ((q_ls x).set i (rdL l))) hr w1 hk hx1 (by show cnA (outB ((q_ls x).set i (rdL l)) c) ((q_ls x).set i (rdL l)).length = f; omega) (fun g' x3 h' w' => ?_)
        have e2 : backA (aSetL A (k_q k) x i (rdL l)) c (k_q k) (x_ls x ((q_ls x).set i (rdL l))) = backA A c (k_q k) x := by
          show w_q A (((a_q A).set (k_q k) _).set (k_q k) (x_ls x (backL ((q_ls x).set i (rdL l)) c))) = _
          rw [List.set_set, back_set hl s2 x2]
          rfl
        rw [e2] at h' w'
        rw [show n + 1 + f = n + (f + 1) by omega]
        exact kk g' x3 h' w'
theorem Wf.leave (w : Wf T (backA A c (k_q k) x)) (w0 : Wf T A) (hk : (a_c A)[c]? = some k) (hx : (a_q A)[k_q k]? = some x) : Wf T (leaveA A c k x) := by
  have hK := w.2.2.1 c k hk
  refine w.c hk ⟨hK.1, Nat.zero_le 9, Nat.le_refl 1, fun _ => rfl⟩ (fun p z j l hz hl h2 hc => ?_)
  exfalso
  rcases set_or hz with ⟨rfl, rfl⟩ | ⟨hne, hz⟩
  · have hl' : ((q_ls x).map (bkL c))[j]? = some l := hl
    rw [List.getElem?_map] at hl'
    cases hy : (q_ls x)[j]? with
    | none => rw [hy] at hl'; cases hl'
    | some y =>
      rw [hy] at hl'
      have e : bkL c y = l := Option.some.inj hl'
      unfold bkL at e
      split at e
      · rw [← e] at h2
        exact absurd (show (0 : Nat) = 2 from h2) (by omega)
      · rename_i hn
        rw [e] at hn
        exact hn ⟨h2, hc⟩
  · obtain ⟨k', hk', _, e2⟩ := (w0.ls hz hl).2.2.2.2.2.2 h2
    rw [hc, hk] at hk'
    cases hk'
    exact hne e2.symm
theorem Rep.left {k : Co} (h : Rep g A) (hk : (a_c A)[c]? = some k) : Rep (upd (upd g (11 + 4 * c + 2) (nI 1)) (11 + 4 * c + 1) (nI 0)) (w_c A ((a_c A).set c (k_q k, 0, 1, k_gt k))) := by
  have hK := h.2.1.2.2 c k hk
  refine h.c hk ⟨?_, ?_, ?_, ?_⟩ (fun z hz => ?_)
  all_goals (simp only [upd]; repeat (first | rw [if_pos trivial] | rw [if_neg (by omega)] | rw [if_pos (by omega)]))
  · exact hK.1
  · exact hK.2.2.2
theorem Wf.come {m : Nat} (w : Wf T A) (hx : (a_q A)[q]? = some x) (hm : m < (a_m A).length) (hlim : (q_ls x).length < q_li x) (hnot : ∀ (j : Nat) (l : La), (q_ls x)[j]? = some l → l_m l ≠ m) (hdead : ∀ (j : Nat) (d : Da), (a_d A)[j]? = some d → ¬ (d_m d = m ∧ d_q d = q)) : Wf T (comeA A q x m) := by
  have hQ := w.2.1 q x hx
  have hs := hQ.2.2.2.2.2.2.2.2.2
  have hp := plcA_le m (q_ls x) (q_ls x).length
  have hlo := plcA_lo (m := m) hs (q_ls x).length (Nat.le_refl _)
  have hhi := plcA_hi (m := m) hs (q_ls x).length (Nat.le_refl _)
  have hlo' : ∀ (j : Nat) (l : La), j < plcA m (q_ls x) (q_ls x).length → (q_ls x)[j]? = some l → l_m l < m := fun j l h1 h2 => by
    have h3 := hlo j l h1 h2
    have h4 := hnot j l h2
    omega
  have hQ' : WfQ A q (x_ls x ((q_ls x).insertIdx (plcA m (q_ls x) (q_ls x).length) (m, 0, 0, 0, []))) := by
    refine hQ.ls (by rw [List.length_insertIdx_of_le_length hp]; omega) (fun j y hj => ?_) (fun j j' y y' hjj hj hj' => ?_)
    · rcases in_or hp hj with ⟨_, hj⟩ | ⟨_, rfl⟩ | ⟨_, hj⟩
      · exact hQ.2.2.2.2.2.2.2.2.1 _ y hj
      · refine ⟨hm, Nat.zero_le 2, ?_, Nat.zero_le _, fun a ha => (by cases ha), fun a b hb => (by cases hb), fun e => absurd (show (0 : Nat) = 2 from e) (by omega)⟩
        have := hQ.2.2.1.1
        show 0 < q_tr x
        omega
      · exact hQ.2.2.2.2.2.2.2.2.1 _ y hj
    · rcases in_or hp hj with ⟨a, hj⟩ | ⟨a, rfl⟩ | ⟨a, hj⟩
      · rcases in_or hp hj' with ⟨b, hj'⟩ | ⟨b, rfl⟩ | ⟨b, hj'⟩
        · exact hs _ _ _ _ hjj hj hj'
        · exact hlo' _ _ a hj
        · exact hs _ _ _ _ (by omega) hj hj'
      · rcases in_or hp hj' with ⟨b, hj'⟩ | ⟨b, rfl⟩ | ⟨b, hj'⟩
        · omega
        · omega
        · exact hhi _ _ (by omega) (li hj') hj'
      · rcases in_or hp hj' with ⟨b, hj'⟩ | ⟨b, rfl⟩ | ⟨b, hj'⟩
        · omega
        · omega
        · exact hs _ _ _ _ (by omega) hj hj'
  obtain ⟨w1, w2, w3, w4, w5, w6, w7⟩ := w
  refine ⟨w1, fun p y hp => ?_, fun c k hc => ?_, w4, fun j d hj => ?_, w6, w7⟩
  · rcases set_or hp with ⟨rfl, rfl⟩ | ⟨_, hp⟩
    · exact hQ'
    · exact w2 p y hp
  · obtain ⟨a1, a2⟩ := w3 c k hc
    exact ⟨by show k_q k < ((a_q A).set q _).length; rw [List.length_set]; exact a1, a2⟩
  · obtain ⟨a1, a2, a3, a4, a5, a6⟩ := w5 j d hj
    refine ⟨a1, by show d_q d < ((a_q A).set q _).length; rw [List.length_set]; exact a2, a3, a4, a5, fun z j2 y hz hy => ?_⟩
    rcases set_or hz with ⟨e, rfl⟩ | ⟨_, hz⟩
    · rcases in_or hp hy with ⟨_, hy⟩ | ⟨_, rfl⟩ | ⟨_, hy⟩
      · exact a6 x _ y (by rw [e]; exact hx) hy
      · exact fun e2 => hdead j d hj ⟨e2.symm, e⟩
      · exact a6 x _ y (by rw [e]; exact hx) hy
    · exact a6 z j2 y hz hy
theorem c_comesA {m : Nat} (hS : RS M r) (h : Rep g A) (w : Wf T A) (hx : (a_q A)[q]? = some x) (hm : m < 300) (hl : (q_ls x).length < 20) (kk : ∀ g' : Nat → Int32, Rep g' (comeA A q x m) → Q none (wI M (r + 1) g')) : J E 186 0 [.ref r, .int (nI q), .int (nI m), U0, U0, U0] [] (wI M (r + 1) g) Q := by
  have q8 : q < 8 := Nat.lt_of_lt_of_le (li hx) h.1.1
  have hQ := h.1.2.2 q x hx
  refine c_comes hS q8 hl hQ.2.2.2.2.2.1 ?_
  rw [RepQ_plc hQ hm (fun j l hj => (h.msg w hx hj).2) _ (Nat.le_refl _)]
  exact kk _ (h.come hx (plcA_le _ _ _) hl)
theorem dec1 (x : Int32) : x + (-1) = x - nI 1 := by
  rw [Int32.sub_eq_add_neg]
  rfl
theorem buA_len (o : Option Nat) : ∀ (i : Nat) (D : List Da), i ≤ D.length → (buA o i D).1.length + (buA o i D).2 = D.length
  | 0, _, _ => rfl
  | i + 1, D, h => by
    obtain ⟨d, hd⟩ := get_of (l := D) (i := i) (by omega)
    unfold buA
    rw [hd]
    simp only
    split
    · have e := buA_len o i (D.eraseIdx i) (by rw [List.length_eraseIdx_of_lt (by omega)]; omega)
      rw [List.length_eraseIdx_of_lt (by omega)] at e
      show (buA o i (D.eraseIdx i)).1.length + ((buA o i (D.eraseIdx i)).2 + 1) = D.length
      omega
    · exact buA_len o i D (by omega)
theorem puA_len : ∀ (i : Nat) (L : List La), i ≤ L.length → (puA i L).1.length + (puA i L).2 = L.length
  | 0, _, _ => rfl
  | i + 1, L, h => by
    obtain ⟨d, hd⟩ := get_of (l := L) (i := i) (by omega)
    unfold puA
    rw [hd]
    simp only
    split
    · exact puA_len i L (by omega)
    · have e := puA_len i (L.eraseIdx i) (by rw [List.length_eraseIdx_of_lt (by omega)]; omega)
      rw [List.length_eraseIdx_of_lt (by omega)] at e
      show (puA i (L.eraseIdx i)).1.length + ((puA i (L.eraseIdx i)).2 + 1) = L.length
      omega

theorem p_leave (hS : RS M r) (hW : WS M r) (h : Rep g A) (w : Wf T A) (hT : T + 99 < 2 ^ 20) (q : Int32) (kR : ∀ (rw_ : Nat) (v_ : Int32), fLeave A q = .inl rw_ → v_ = rfN rw_ → Q (some (.int v_)) (wI (rfM M r rw_) (r + 1) g)) (kO : ∀ (a : Int32) (B : Ab), fLeave A q = .inr (a, B) → ∀ g' : Nat → Int32, Rep g' B → Wf (T + 99) B → Q (some (.int a)) (wI M (r + 1) g')) : J E 208 0 [.ref r, .int q, U0, U0] [] (wI M (r + 1) g) Q := by
  refine J_p 2 (ls' := [_, _, _, _]) rfl ?_
  refine J_call rfl rfl rfl (decide_eq_true hS.t) rfl (c_hereA hS h w q (fun c k h2 hk hf e2 c10 => ?_) (fun h2 => ?_))
  · skip
    subst e2
    obtain ⟨x, hx⟩ := get_of (w.2.2.1 c k hk).1
    show J _ _ _ _ _ _ _
    refine J_zne rfl (fun _ => ?_) (fun b => absurd b (by decide))
    refine J_p 5 (ls' := [_, _, _, _]) rfl ?_
    refine J_call rfl rfl rfl (decide_eq_true hS.t) rfl (c_outAtA hS h w hk hx (o := none) (Or.inl ⟨by decide, rfl⟩) ?_)
    show J _ _ _ _ _ _ _
    refine J_p 1 (ls' := [_, _, _, _]) rfl ?_
    refine c_leave_l (E := E) hS (cnA (outB (q_ls x) c) (q_ls x).length) A g 0 x h w hk hx rfl (fun g' x3 h' w' => ?_)
    rw [Nat.zero_add]
    have hr := h'.left (c := c) (k := k) hk
    have wl := w'.leave w hk hx
    refine J_p 1 (ls' := [_, _, _, _]) rfl ?_
    refine J_getR rfl hS.t hS.f0 ?_
    refine J_p 8 (ls' := [_, _, _, _]) rfl ?_
    refine J_gst (n := 11 + 4 * c + 2) rfl (by repeat' (first | with_reducible rfl | assumption | with_reducible refine nI_decE ?_ | with_reducible refine nI_addE ?_ ?_ | with_reducible refine nI_mulE ?_ ?_ | with_reducible refine nI_subE ?_ ?_ ?_ | omega | (with_reducible refine congrArg nI ?_; omega))) hS (by omega) ?_
    refine J_p 1 (ls' := [_, _, _, _]) rfl ?_
    refine J_getR rfl hS.t hS.f0 ?_
    refine J_p 8 (ls' := [_, _, _, _]) rfl ?_
    refine J_gst (n := 11 + 4 * c + 1) rfl (by repeat' (first | with_reducible rfl | assumption | with_reducible refine nI_decE ?_ | with_reducible refine nI_addE ?_ ?_ | with_reducible refine nI_mulE ?_ ?_ | with_reducible refine nI_subE ?_ ?_ ?_ | omega | (with_reducible refine congrArg nI ?_; omega))) hS (by omega) ?_
    refine J_p 1 (ls' := [_, _, _, _]) rfl ?_
    exact J_ret rfl rfl rfl (kO _ _ (by simp only [fLeave, h2, hk, hx]; first | done | rfl) _ hr (wl.mono (by omega) hT))
  · skip
    show J _ _ _ _ _ _ _
    refine J_zne rfl (fun b => absurd rfl b) (fun _ => ?_)
    refine J_p 2 (ls' := [_, _, _, _]) rfl ?_
    refine J_call rfl rfl rfl (decide_eq_true hS.t) rfl (c_refused hS 0 (by decide) (by decide) ?_)
    show J _ _ _ _ _ _ _
    exact J_ret rfl rfl rfl (kR 0 _ (by simp only [fLeave, h2, if_true, if_false, reduceIte]) (by decide))

theorem p_revive (hS : RS M r) (hW : WS M r) (h : Rep g A) (w : Wf T A) (hT : T + 99 < 2 ^ 20) (i : Int32) (kR : ∀ (rw_ : Nat) (v_ : Int32), fRevive A i = .inl rw_ → v_ = rfN rw_ → Q (some (.int v_)) (wI (rfM M r rw_) (r + 1) g)) (kO : ∀ (a : Int32) (B : Ab), fRevive A i = .inr (a, B) → ∀ g' : Nat → Int32, Rep g' B → Wf (T + 99) B → Q (some (.int a)) (wI M (r + 1) g')) : J E 213 0 [.ref r, .int i, U0, U0] [] (wI M (r + 1) g) Q := by
  have d30 := h.2.2.2.1.1
  refine J_p 4 (ls' := [_, _, _, _]) rfl ?_
  refine J_getR rfl hS.t hS.f0 ?_
  refine J_p 1 (ls' := [_, _, _, _]) rfl ?_
  refine J_gld (n := 3) rfl (by repeat' (first | with_reducible rfl | assumption | with_reducible refine nI_decE ?_ | with_reducible refine nI_addE ?_ ?_ | with_reducible refine nI_mulE ?_ ?_ | with_reducible refine nI_subE ?_ ?_ ?_ | omega | (with_reducible refine congrArg nI ?_; omega))) hS (by omega) h.2.2.2.1.2.1 ?_
  refine J_p 3 (ls' := [_, _, _, _]) rfl ?_
  refine J_call rfl rfl rfl rfl rfl (c_inX (x := i) (n := (a_d A).length) (by omega) (fun j h12 l12 e12 => ?_) (fun h12 => ?_))
  · skip
    subst e12
    obtain ⟨d, hd⟩ := get_of l12
    have hD := h.2.2.2.1.2.2 j d hd
    have hWd := w.2.2.2.2.1 j d hd
    obtain ⟨x, hx⟩ := get_of hWd.2.1
    have hQ := h.1.2.2 _ x hx
    have n20 := hQ.2.2.2.2.1
    have hWq := w.2.1 _ x hx
    have m300 := h.2.2.1.1
    have mlt := hWd.1
    have q8 := h.1.1
    have qlt := hWd.2.1
    obtain ⟨n, hn⟩ : ∃ n, (a_d A).length = n + 1 := ⟨(a_d A).length - 1, by omega⟩
    show J _ _ _ _ _ _ _
    refine J_zne rfl (fun _ => ?_) (fun b => absurd b (by decide))
    refine J_p 5 (ls' := [_, _, _, _]) rfl ?_
    refine J_n0 (n := 2751 + 24 * j) (by repeat' (first | with_reducible rfl | assumption | with_reducible refine nI_decE ?_ | with_reducible refine nI_addE ?_ ?_ | with_reducible refine nI_mulE ?_ ?_ | with_reducible refine nI_subE ?_ ?_ ?_ | omega | (with_reducible refine congrArg nI ?_; omega))) ?_
    refine J_p 2 (ls' := [_, _, _, _]) rfl ?_
    refine J_getR rfl hS.t hS.f0 ?_
    refine J_p 3 (ls' := [_, _, _, _]) rfl ?_
    refine J_gld (n := 2751 + 24 * j + 1) rfl (by repeat' (first | with_reducible rfl | assumption | with_reducible refine nI_decE ?_ | with_reducible refine nI_addE ?_ ?_ | with_reducible refine nI_mulE ?_ ?_ | with_reducible refine nI_subE ?_ ?_ ?_ | omega | (with_reducible refine congrArg nI ?_; omega))) hS (by omega) hD.2.2.1 ?_
    refine J_p 4 (ls' := [_, _, _, _]) rfl ?_
    refine J_call rfl rfl rfl (decide_eq_true hS.t) rfl (c_of hS (d_q d) 35 (by omega) hQ.2.2.2.2.2.1 ?_)
    show J _ _ _ _ _ _ _
    refine J_p 3 (ls' := [_, _, _, _]) rfl ?_
    refine J_call rfl rfl rfl (decide_eq_true hS.t) rfl (c_of hS (d_q d) 26 (by omega) hQ.2.2.1.1 ?_)
    show J _ _ _ _ _ _ _
    refine J_ine rfl (fun b57 => ?_) (fun b57 => ?_)
    · skip
      have e4 : ¬ (q_ls x).length = q_li x := fun y => b57 (by rw [y])
      refine J_p 3 (ls' := [_, _, _, _]) rfl ?_
      refine J_getR rfl hS.t hS.f0 ?_
      refine J_p 1 (ls' := [_, _, _, _]) rfl ?_
      refine J_gld (n := 2751 + 24 * j) rfl (by repeat' (first | with_reducible rfl | assumption | with_reducible refine nI_decE ?_ | with_reducible refine nI_addE ?_ ?_ | with_reducible refine nI_mulE ?_ ?_ | with_reducible refine nI_subE ?_ ?_ ?_ | omega | (with_reducible refine congrArg nI ?_; omega))) hS (by omega) hD.2.1 ?_
      have lt : (q_ls x).length < q_li x := by have := hWq.2.2.2.2.2.2.2.1; omega
      have l20 := hWq.2.1.2
      refine J_call rfl rfl rfl (decide_eq_true hS.t) rfl (c_comesA (m := d_m d) hS h w hx (by omega) (by omega) (fun g' h' => ?_))
      show J _ _ _ _ _ _ _
      refine J_p 2 (ls' := [_, _, _, _]) rfl ?_
      have h3' : g' 3 = nI (n + 1) := by rw [← hn]; exact h'.2.2.2.1.2.1
      have hl' := h'.lose (i := j) (n := n) (li hd) hn
      have wl := (w.lose (i := j)).come (q := d_q d) (x := x) (m := d_m d) hx mlt lt (fun p y hp => hWd.2.2.2.2.2 x p y hx hp) (fun p e hp => by obtain ⟨p0, n0, hp0⟩ := er_sub hp; rintro ⟨e1, e2⟩; rcases Nat.lt_or_ge p0 j with z | z; exact w.2.2.2.2.2.1 _ _ _ _ z hp0 hd ⟨e1, e2⟩; exact w.2.2.2.2.2.1 _ _ _ _ (show j < p0 by omega) hd hp0 ⟨e1.symm, e2.symm⟩)
      refine J_call rfl rfl rfl (decide_eq_true hS.t) rfl (c_losesDead hS (i := j) (nd := n) (by omega) (by omega) h3' ?_)
      show J _ _ _ _ _ _ _
      refine J_p 1 (ls' := [_, _, _, _]) rfl ?_
      refine J_getR rfl hS.t hS.f0 ?_
      refine J_p 1 (ls' := [_, _, _, _]) rfl ?_
      refine J_gld (n := 3) rfl (by repeat' (first | with_reducible rfl | assumption | with_reducible refine nI_decE ?_ | with_reducible refine nI_addE ?_ ?_ | with_reducible refine nI_mulE ?_ ?_ | with_reducible refine nI_subE ?_ ?_ ?_ | omega | (with_reducible refine congrArg nI ?_; omega))) hS (by omega) (if_pos rfl) ?_
      rw [hn] at h12
      exact J_ret rfl rfl rfl (kO _ _ (by simp only [fRevive, h12, hd, hx, e4, hn, if_false, reduceIte, Nat.add_sub_cancel]; first | done | rfl) _ hl' (wl.mono (by omega) hT))
    · skip
      have e4 : (q_ls x).length = q_li x := (nI_eq (by omega) (by have := hWq.2.1.2; omega)).mp b57
      refine J_p 2 (ls' := [_, _, _, _]) rfl ?_
      refine J_call rfl rfl rfl (decide_eq_true hS.t) rfl (c_refused hS 4 (by decide) (by decide) ?_)
      show J _ _ _ _ _ _ _
      exact J_ret rfl rfl rfl (kR 4 _ (by simp only [fRevive, h12, hd, hx, e4, if_true, if_false, reduceIte]) (by decide))
  · skip
    show J _ _ _ _ _ _ _
    refine J_zne rfl (fun b => absurd rfl b) (fun _ => ?_)
    refine J_p 2 (ls' := [_, _, _, _]) rfl ?_
    refine J_call rfl rfl rfl (decide_eq_true hS.t) rfl (c_refused hS 0 (by decide) (by decide) ?_)
    show J _ _ _ _ _ _ _
    exact J_ret rfl rfl rfl (kR 0 _ (by simp only [fRevive, h12, if_true, if_false, reduceIte]) (by decide))

theorem c_bury_l (hS : RS M r) {b : Int32} {o : Option Nat} (hb : (b = -1 ∧ o = none) ∨ ∃ j, j < 8 ∧ b = nI j ∧ o = some j) : ∀ (i : Nat) (A : Ab) (g : Nat → Int32) (n : Nat), Rep g A → Wf T A → i ≤ (a_d A).length →
    (∀ g' : Nat → Int32, Rep g' (w_d A (buA o i (a_d A)).1) → Wf T (w_d A (buA o i (a_d A)).1) → Q (some (.int (nI (n + (buA o i (a_d A)).2)))) (wI M (r + 1) g')) →
    J E 215 31 [.ref r, .int b, .int (nI n), .int (nI i - nI 1)] [] (wI M (r + 1) g) Q
  | 0, A, g, n, h, w, hi, k => by
    refine J_p 1 (ls' := [_, _, _, _]) rfl ?_
    refine J_zlt rfl (fun _ => ?_) (fun b => absurd (by decide) b)
    refine J_p 1 (ls' := [_, _, _, _]) rfl ?_
    exact J_ret rfl rfl rfl (k g h w)
  | i + 1, A, g, n, h, w, hi, k => by
    have d30 := h.2.2.2.1.1
    obtain ⟨d, hd⟩ := get_of (l := a_d A) (i := i) (by omega)
    have hD := h.2.2.2.1.2.2 i d hd
    have hWd := w.2.2.2.2.1 i d hd
    have q8 := h.1.1
    have qlt := hWd.2.1
    obtain ⟨nn, hn⟩ : ∃ nn, (a_d A).length = nn + 1 := ⟨(a_d A).length - 1, by omega⟩
    have h3 : g 3 = nI (nn + 1) := by rw [← hn]; exact h.2.2.2.1.2.1
    have e1 : nI (i + 1) - nI 1 = nI i := nI_subE (m := i + 1) (n := 1) rfl rfl (by omega)
    have ed : (a_d A)[i]? = some d := hd
    rw [e1]
    have main : (o = none ∨ o = some (d_q d)) → J E 215 59 [.ref r, .int b, .int (nI n), .int (nI i)] [] (wI M (r + 1) g) Q := fun ho => by
      have eb : buA o (i + 1) (a_d A) = ((buA o i ((a_d A).eraseIdx i)).1, (buA o i ((a_d A).eraseIdx i)).2 + 1) := by
        simp only [buA, hd, if_pos ho]
      rw [eb] at k
      refine J_p 2 (ls' := [_, _, _, _]) rfl ?_
      refine J_call rfl rfl rfl (decide_eq_true hS.t) rfl (c_losesDead hS (i := i) (nd := nn) (by omega) (by omega) h3 ?_)
      show J _ _ _ _ _ _ _
      refine J_p 3 (ls' := [_, _, _, _]) rfl ?_
      rw [nI_add n 1]
      have hl := h.lose (i := i) (n := nn) (li hd) hn
      rw [dec1]
      refine c_bury_l hS hb i (w_d A ((a_d A).eraseIdx i)) _ (n + 1) hl w.lose (by show i ≤ ((a_d A).eraseIdx i).length; rw [List.length_eraseIdx_of_lt (by omega)]; omega) (fun g' h' w' => ?_)
      show Q (some (.int (nI (n + 1 + (buA o i ((a_d A).eraseIdx i)).2)))) _
      rw [show n + 1 + (buA o i ((a_d A).eraseIdx i)).2 = n + ((buA o i ((a_d A).eraseIdx i)).2 + 1) by omega]
      exact k g' h' w'
    have skp : ¬ (o = none ∨ o = some (d_q d)) → J E 215 67 [.ref r, .int b, .int (nI n), .int (nI i)] [] (wI M (r + 1) g) Q := fun ho => by
      have eb : buA o (i + 1) (a_d A) = buA o i (a_d A) := by
        simp only [buA, hd, if_neg ho]
      rw [eb] at k
      refine J_p 2 (ls' := [_, _, _, _]) rfl ?_
      rw [dec1]
      exact c_bury_l hS hb i A g n h w (by omega) k
    refine J_p 1 (ls' := [_, _, _, _]) rfl ?_
    refine J_zlt rfl (fun b => absurd b (nI_pos (by omega))) (fun _ => ?_)
    refine J_p 2 (ls' := [_, _, _, _]) rfl ?_
    refine J_ieq rfl (fun b37 => ?_) (fun b37 => ?_)
    · refine main (Or.inl ?_)
      rcases hb with ⟨_, e⟩ | ⟨j, j8, e, _⟩
      · exact e
      · exact absurd (e.symm.trans b37) (fun y => by have hh := congrArg Int32.toInt y; rw [nI_toInt (by omega)] at hh; have h3 : (-1 : Int32).toInt = -1 := by decide
                                                     omega)
    · rcases hb with ⟨e, _⟩ | ⟨j, j8, e, eo⟩
      · exact absurd e b37
      · refine J_p 1 (ls' := [_, _, _, _]) rfl ?_
        refine J_getR rfl hS.t hS.f0 ?_
        refine J_p 7 (ls' := [_, _, _, _]) rfl ?_
        refine J_gld (n := 2751 + 24 * i + 1) rfl (by repeat' (first | with_reducible rfl | assumption | with_reducible refine nI_decE ?_ | with_reducible refine nI_addE ?_ ?_ | with_reducible refine nI_mulE ?_ ?_ | with_reducible refine nI_subE ?_ ?_ ?_ | omega | (with_reducible refine congrArg nI ?_; omega))) hS (by omega) hD.2.2.1 ?_
        refine J_p 1 (ls' := [_, _, _, _]) rfl ?_
        refine J_ine rfl (fun b56 => ?_) (fun b56 => ?_)
        · refine skp (fun y => b56 ?_)
          rcases y with y | y
          · rw [eo] at y; cases y
          · rw [eo] at y; cases y; rw [e]
        · refine main (Or.inr ?_)
          rw [e] at b56
          rw [eo, (nI_eq (by omega) (by omega)).mp b56]

def buO (A : Ab) (q : Int32) : Option (Option Nat) := if q = -1 then some none else match ixN q (a_q A).length with
  | none => none
  | some j => some (some j)
def fBury2 (A : Ab) (q : Int32) : Rs := match buO A q with
  | none => .inl 0
  | some o => .inr (nI (buA o (a_d A).length (a_d A)).2, w_d A (buA o (a_d A).length (a_d A)).1)

theorem p_bury (hS : RS M r) (hW : WS M r) (h : Rep g A) (w : Wf T A) (hT : T + 99 < 2 ^ 20) (q : Int32) (kR : ∀ (rw_ : Nat) (v_ : Int32), fBury2 A q = .inl rw_ → v_ = rfN rw_ → Q (some (.int v_)) (wI (rfM M r rw_) (r + 1) g)) (kO : ∀ (a : Int32) (B : Ab), fBury2 A q = .inr (a, B) → ∀ g' : Nat → Int32, Rep g' B → Wf (T + 99) B → Q (some (.int a)) (wI M (r + 1) g')) : J E 215 0 [.ref r, .int q, U0, U0] [] (wI M (r + 1) g) Q := by
  refine J_p 2 (ls' := [_, _, _, _]) rfl ?_
  refine J_ieq rfl (fun b2 => ?_) (fun b2 => ?_)
  · skip
    have hO : buO A q = some none := by unfold buO; rw [if_pos b2]
    have hb : (q = -1 ∧ (none : Option Nat) = none) ∨ ∃ j2, j2 < 8 ∧ q = nI j2 ∧ (none : Option Nat) = some j2 := Or.inl ⟨b2, rfl⟩
    refine J_p 2 (ls' := [_, _, _, _]) rfl ?_
    refine J_p 1 (ls' := [_, _, _, _]) rfl ?_
    refine J_getR rfl hS.t hS.f0 ?_
    refine J_p 1 (ls' := [_, _, _, _]) rfl ?_
    refine J_gld (n := 3) rfl rfl hS (by omega) h.2.2.2.1.2.1 ?_
    refine J_p 3 (ls' := [_, _, _, _]) rfl ?_
    refine c_bury_l (E := E) hS hb (a_d A).length A g 0 h w (Nat.le_refl _) (fun g' h' w' => ?_)
    rw [Nat.zero_add]
    exact kO _ _ (by simp only [fBury2, hO]) g' h' (w'.mono (by omega) hT)
  · skip
    refine J_p 2 (ls' := [_, _, _, _]) rfl ?_
    refine J_call rfl rfl rfl (decide_eq_true hS.t) rfl (c_isQ hS h q (fun j h7 l7 e7 => ?_) (fun h7 => ?_))
    · skip
      have hO : buO A q = some (some j) := by unfold buO; rw [if_neg b2, h7]
      have hb : (q = -1 ∧ (some j : Option Nat) = none) ∨ ∃ j2, j2 < 8 ∧ q = nI j2 ∧ (some j : Option Nat) = some j2 := Or.inr ⟨j, Nat.lt_of_lt_of_le l7 h.1.1, e7, rfl⟩
      show J _ _ _ _ _ _ _
      refine J_zne rfl (fun _ => ?_) (fun b => absurd b (by decide))
      refine J_p 2 (ls' := [_, _, _, _]) rfl ?_
      refine J_p 1 (ls' := [_, _, _, _]) rfl ?_
      refine J_getR rfl hS.t hS.f0 ?_
      refine J_p 1 (ls' := [_, _, _, _]) rfl ?_
      refine J_gld (n := 3) rfl rfl hS (by omega) h.2.2.2.1.2.1 ?_
      refine J_p 3 (ls' := [_, _, _, _]) rfl ?_
      refine c_bury_l (E := E) hS hb (a_d A).length A g 0 h w (Nat.le_refl _) (fun g' h' w' => ?_)
      rw [Nat.zero_add]
      exact kO _ _ (by simp only [fBury2, hO]) g' h' (w'.mono (by omega) hT)
    · skip
      have hO : buO A q = none := by unfold buO; rw [if_neg b2, h7]
      show J _ _ _ _ _ _ _
      refine J_zne rfl (fun b => absurd rfl b) (fun _ => ?_)
      refine J_p 2 (ls' := [_, _, _, _]) rfl ?_
      refine J_call rfl rfl rfl (decide_eq_true hS.t) rfl (c_refused hS 0 (by decide) (by decide) ?_)
      show J _ _ _ _ _ _ _
      exact J_ret rfl rfl rfl (kR 0 _ (by simp only [fBury2, hO, if_true, if_false, reduceIte]) (by decide))

theorem c_purge_l (hS : RS M r) {q : Nat} : ∀ (i : Nat) (A : Ab) (g : Nat → Int32) (n : Nat) (x : Qa), Rep g A → Wf T A → (a_q A)[q]? = some x → i ≤ (q_ls x).length →
    (∀ g' : Nat → Int32, Rep g' (w_q A ((a_q A).set q (x_ls x (puA i (q_ls x)).1))) → Wf T (w_q A ((a_q A).set q (x_ls x (puA i (q_ls x)).1))) → Q (some (.int (nI (n + (puA i (q_ls x)).2)))) (wI M (r + 1) g')) →
    J E 216 27 [.ref r, .int (nI q), .int (nI n), .int (nI i - nI 1)] [] (wI M (r + 1) g) Q
  | 0, A, g, n, x, h, w, hx, hi, k => by
    refine J_p 1 (ls' := [_, _, _, _]) rfl ?_
    refine J_zlt rfl (fun _ => ?_) (fun b => absurd (by decide) b)
    refine J_p 1 (ls' := [_, _, _, _]) rfl ?_
    have e : w_q A ((a_q A).set q (x_ls x (puA 0 (q_ls x)).1)) = A := w_q_id hx
    rw [e] at k
    exact J_ret rfl rfl rfl (k g h w)
  | i + 1, A, g, n, x, h, w, hx, hi, k => by
    have q8 : q < 8 := Nat.lt_of_lt_of_le (li hx) h.1.1
    have hQ := h.1.2.2 q x hx
    have n20 := hQ.2.2.2.2.1
    obtain ⟨l, hl⟩ := get_of (l := q_ls x) (i := i) (by omega)
    have hs2 := (w.ls hx hl).2.1
    obtain ⟨nn, hn⟩ : ∃ nn, (q_ls x).length = nn + 1 := ⟨(q_ls x).length - 1, by omega⟩
    have h35 : g (3471 + 556 * q + 35) = nI (nn + 1) := by rw [← hn]; exact hQ.2.2.2.2.2.1
    have e1 : nI (i + 1) - nI 1 = nI i := nI_subE (m := i + 1) (n := 1) rfl rfl (by omega)
    rw [e1]
    refine J_p 1 (ls' := [_, _, _, _]) rfl ?_
    refine J_zlt rfl (fun b => absurd b (nI_pos (by omega))) (fun _ => ?_)
    refine J_p 4 (ls' := [_, _, _, _]) rfl ?_
    refine J_call rfl rfl rfl (decide_eq_true hS.t) rfl (c_letterOf hS q i 1 (by omega) (h.letter hx hl).2.2.1 ?_)
    show J _ _ _ _ _ _ _
    refine J_p 1 (ls' := [_, _, _, _]) rfl ?_
    refine J_ieq rfl (fun b => ?_) (fun b => ?_)
    · have eb : puA (i + 1) (q_ls x) = puA i (q_ls x) := by
        simp only [puA, hl, if_pos ((nI_eq (by omega) (by omega)).mp b)]
      rw [eb] at k
      refine J_p 2 (ls' := [_, _, _, _]) rfl ?_
      rw [dec1]
      exact c_purge_l hS i A g n x h w hx (by omega) k
    · have eb : puA (i + 1) (q_ls x) = ((puA i ((q_ls x).eraseIdx i)).1, (puA i ((q_ls x).eraseIdx i)).2 + 1) := by
        simp only [puA, hl, if_neg (fun y : l_s l = 2 => b (by rw [y]))]
      rw [eb] at k
      refine J_p 3 (ls' := [_, _, _, _]) rfl ?_
      refine J_call rfl rfl rfl (decide_eq_true hS.t) rfl (c_goes hS q8 (i := i) (n := nn) (by omega) (by omega) h35 ?_)
      show J _ _ _ _ _ _ _
      refine J_p 3 (ls' := [_, _, _, _]) rfl ?_
      rw [nI_add n 1]
      rw [dec1]
      refine c_purge_l hS i (w_q A ((a_q A).set q (x_ls x ((q_ls x).eraseIdx i)))) _ (n + 1) (x_ls x ((q_ls x).eraseIdx i)) (h.go hx (li hl) hn) (w.er hx (li hl)) (set_get hx) (by show i ≤ ((q_ls x).eraseIdx i).length; rw [List.length_eraseIdx_of_lt (by omega)]; omega) (fun g' h' w' => ?_)
      have e2 : w_q (w_q A ((a_q A).set q (x_ls x ((q_ls x).eraseIdx i)))) ((a_q (w_q A ((a_q A).set q (x_ls x ((q_ls x).eraseIdx i))))).set q (x_ls (x_ls x ((q_ls x).eraseIdx i)) (puA i (q_ls (x_ls x ((q_ls x).eraseIdx i)))).1)) = w_q A ((a_q A).set q (x_ls x (puA i ((q_ls x).eraseIdx i)).1)) := by
        show w_q A (((a_q A).set q _).set q _) = _
        rw [List.set_set]
        rfl
      rw [e2] at h' w'
      show Q (some (.int (nI (n + 1 + (puA i ((q_ls x).eraseIdx i)).2)))) _
      rw [show n + 1 + (puA i ((q_ls x).eraseIdx i)).2 = n + ((puA i ((q_ls x).eraseIdx i)).2 + 1) by omega]
      exact k g' h' w'

theorem p_purge (hS : RS M r) (hW : WS M r) (h : Rep g A) (w : Wf T A) (hT : T + 99 < 2 ^ 20) (q : Int32) (kR : ∀ (rw_ : Nat) (v_ : Int32), fPurge A q = .inl rw_ → v_ = rfN rw_ → Q (some (.int v_)) (wI (rfM M r rw_) (r + 1) g)) (kO : ∀ (a : Int32) (B : Ab), fPurge A q = .inr (a, B) → ∀ g' : Nat → Int32, Rep g' B → Wf (T + 99) B → Q (some (.int a)) (wI M (r + 1) g')) : J E 216 0 [.ref r, .int q, U0, U0] [] (wI M (r + 1) g) Q := by
  refine J_p 2 (ls' := [_, _, _, _]) rfl ?_
  refine J_call rfl rfl rfl (decide_eq_true hS.t) rfl (c_isQ hS h q (fun j h2 l2 e2 => ?_) (fun h2 => ?_))
  · skip
    subst e2
    obtain ⟨xj, hxj⟩ := get_of l2
    have q8j : j < 8 := Nat.lt_of_lt_of_le l2 h.1.1
    have n20j := (h.1.2.2 j xj hxj).2.2.2.2.1
    have x20j := (h.1.2.2 j xj hxj).2.1.1
    have q35j := (h.1.2.2 j xj hxj).2.2.2.2.2.1
    show J _ _ _ _ _ _ _
    refine J_zne rfl (fun _ => ?_) (fun b => absurd b (by decide))
    refine J_p 5 (ls' := [_, _, _, _]) rfl ?_
    refine J_call rfl rfl rfl (decide_eq_true hS.t) rfl (c_of hS j 35 (by omega) q35j ?_)
    show J _ _ _ _ _ _ _
    refine J_p 3 (ls' := [_, _, _, _]) rfl ?_
    refine c_purge_l (E := E) hS (q_ls xj).length A g 0 xj h w hxj (Nat.le_refl _) (fun g' h' w' => ?_)
    rw [Nat.zero_add]
    exact kO _ _ (by simp only [fPurge, h2, hxj]) g' h' (w'.mono (by omega) hT)
  · skip
    show J _ _ _ _ _ _ _
    refine J_zne rfl (fun b => absurd rfl b) (fun _ => ?_)
    refine J_p 2 (ls' := [_, _, _, _]) rfl ?_
    refine J_call rfl rfl rfl (decide_eq_true hS.t) rfl (c_refused hS 0 (by decide) (by decide) ?_)
    show J _ _ _ _ _ _ _
    exact J_ret rfl rfl rfl (kR 0 _ (by simp only [fPurge, h2, if_true, if_false, reduceIte]) (by decide))

end PUB12