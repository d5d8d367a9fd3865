/-! THE ABSTRACT STATE: giving; answers; indices. -/
abbrev Rs := Nat ⊕ (Int32 × Ab)
def rfN (w : Nat) : Int32 := -nI (82 + w)
def ixN (q : Int32) (n : Nat) : Option Nat := if 0 ≤ q.toInt ∧ q.toInt < (n : Int) then some q.toInt.toNat else none
theorem ixN_some {q : Int32} {n j : Nat} (h : ixN q n = some j) : j < n ∧ q = nI j ∧ (0 ≤ q.toInt ∧ q.toInt < (n : Int)) := by
  unfold ixN at h
  split at h
  · rename_i c
    obtain rfl := Option.some.inj h
    refine ⟨by omega, ?_, c⟩
    apply Int32.toInt_inj.mp
    have := Int32.toInt_lt q
    rw [nI_toInt (by omega)]
    omega
  · cases h
theorem ixN_none {q : Int32} {n : Nat} (h : ixN q n = none) : ¬ (0 ≤ q.toInt ∧ q.toInt < (n : Int)) := by
  unfold ixN at h
  split at h
  · cases h
  · assumption
theorem ixN_nI {j n : Nat} (h : j < n) (hn : n < 2 ^ 31) : ixN (nI j) n = some j := by
  unfold ixN
  rw [nI_toInt (by omega), if_pos (by omega)]
  rfl
def giveA (A : Ab) (q : Nat) : Option (Ab × Nat) := match (a_q A)[q]? with
  | none => none
  | some x => match nxA (a_m A) (q_ls x) (q_ls x).length with
    | none => none
    | some i => match whoA (a_c A) q (q_ex x) (q_l1 x) with
      | none => none
      | some c => match (q_ls x)[i]? with
        | none => none
        | some l => match (a_c A)[c]? with
          | none => none
          | some k => some (aGive A q x i l c k, l_m l)
theorem nxA_lt (ms : List Ma) (L : List La) : ∀ (n b : Nat), nxA ms L n = some b → b < n ∧ mayA ms L b = true
  | 0, b, h => by cases h
  | n + 1, b, h => by
    unfold nxA at h
    by_cases c : mayA ms L n = true
    · rw [if_pos c] at h
      cases e : nxA ms L n with
      | none =>
        rw [e] at h
        obtain rfl := Option.some.inj h
        exact ⟨Nat.lt_succ_self _, c⟩
      | some b' =>
        rw [e] at h
        by_cases d : prA ms (L.getD b' (0, 0, 0, 0, [])) < prA ms (L.getD n (0, 0, 0, 0, []))
        · simp only [if_pos d] at h
          obtain rfl := Option.some.inj h
          exact ⟨Nat.lt_succ_self _, c⟩
        · simp only [if_neg d] at h
          obtain rfl := Option.some.inj h
          obtain ⟨h1, h2⟩ := nxA_lt ms L n b' e
          exact ⟨by omega, h2⟩
    · rw [if_neg c] at h
      obtain ⟨h1, h2⟩ := nxA_lt ms L n b h
      exact ⟨by omega, h2⟩
theorem atA_of {C : List Co} {q c : Nat} (h : atA C q c = true) : ∃ k, C[c]? = some k ∧ k_lf k = 0 ∧ k_q k = q := by
  unfold atA at h
  cases e : C[c]? with
  | none => rw [e] at h; cases h
  | some k =>
    rw [e] at h
    simp only [Bool.and_eq_true, decide_eq_true_eq] at h
    exact ⟨k, rfl, h.1, h.2⟩
theorem fcA_at (C : List Co) (q : Nat) : ∀ (d c x : Nat), fcA C q d c = some x → atA C q x = true
  | 0, _, _, h => by cases h
  | d + 1, c, x, h => by
    unfold fcA at h
    by_cases e : atA C q c = true
    · rw [if_pos e] at h
      obtain rfl := Option.some.inj h
      exact e
    · rw [if_neg e] at h
      exact fcA_at C q d (c + 1) x h
theorem rrA_at (C : List Co) (q nc l1 : Nat) : ∀ (d k x : Nat), rrA C q nc l1 d k = some x → atA C q x = true ∧ 0 < crA C x
  | 0, _, _, h => by cases h
  | d + 1, k, x, h => by
    unfold rrA at h
    by_cases e : atA C q ((l1 + k) % nc) = true ∧ 0 < crA C ((l1 + k) % nc)
    · rw [if_pos e] at h
      obtain rfl := Option.some.inj h
      exact e
    · rw [if_neg e] at h
      exact rrA_at C q nc l1 d (k + 1) x h
theorem whoA_at {C : List Co} {q ex l1 c : Nat} (h : whoA C q ex l1 = some c) : ∃ k, C[c]? = some k ∧ k_lf k = 0 ∧ k_q k = q ∧ 0 < k_cr k := by
  have : atA C q c = true ∧ 0 < crA C c := by
    unfold whoA at h
    split at h
    · cases e : fcA C q C.length 0 with
      | none => rw [e] at h; cases h
      | some c' =>
        rw [e] at h
        by_cases d : 0 < crA C c'
        · simp only [if_pos d] at h
          obtain rfl := Option.some.inj h
          exact ⟨fcA_at C q _ _ _ e, d⟩
        · simp only [if_neg d] at h
          cases h
    · exact rrA_at C q _ _ _ _ c h
  obtain ⟨k, hk, h1, h2⟩ := atA_of this.1
  refine ⟨k, hk, h1, h2, ?_⟩
  have := this.2
  unfold crA at this
  rw [getD_of hk] at this
  exact this
section ABS12
variable {g : Nat → Int32} {A : Ab} {T q i : Nat} {x : Qa} {l : La}
theorem Wf.give {c : Nat} {k : Co} (w : Wf T A) (hx : (a_q A)[q]? = some x) (hl : (q_ls x)[i]? = some l) (hk : (a_c A)[c]? = some k) (h0 : k_lf k = 0) (hq : k_q k = q) : Wf T (aGive A q x i l c k) := by
  have hL := w.ls hx hl
  have hQ := w.2.1 q x hx
  have hK := w.2.2.1 c k hk
  have hc := li hk
  have w1 := w.setL hx hl (l' := outL l c (a_n A + q_le x)) rfl ⟨hL.1, Nat.le_refl 2, hL.2.2.1, by show a_n A + q_le x ≤ a_n A + 99; have := hQ.2.2.2.1.2; omega, hL.2.2.2.2.1, hL.2.2.2.2.2.1, fun _ => ⟨k, hk, h0, hq⟩⟩
  have w2 := w1.l1 (q := q) (x := x_ls x ((q_ls x).set i (outL l c (a_n A + q_le x)))) (set_get hx) (v := c + 1) hc
  have w3 := w2.gv (q := q) (set_get (set_get hx)) (q_gv x + nI 1)
  have w4 := w3.cSame (c := c) (k := k) (k' := (k_q k, k_cr k - 1, k_lf k, k_gt k + nI 1)) hk ⟨by show k_q k < (((((a_q A).set q _).set q _).set q _)).length; rw [List.length_set, List.length_set, List.length_set]; exact hK.1, by show k_cr k - 1 ≤ 9; have := hK.2.1; omega, hK.2.2.1, fun e => by have : k_lf k = 1 := e; omega⟩ rfl rfl
  have e2 : ∀ (L : List Qa) (a b d : Qa), ((L.set q a).set q b).set q d = L.set q d := fun L a b d => by rw [List.set_set, List.set_set]
  have e3 := e2 (a_q A) (x_ls x ((q_ls x).set i (outL l c (a_n A + q_le x)))) (x_l1 (x_ls x ((q_ls x).set i (outL l c (a_n A + q_le x)))) (c + 1)) (x_gv (x_l1 (x_ls x ((q_ls x).set i (outL l c (a_n A + q_le x)))) (c + 1)) (q_gv x + nI 1))
  unfold aGive
  rw [← e3]
  exact w4
/-- what giving finds -/
theorem giveA_some {B : Ab} {m : Nat} (h : giveA A q = some (B, m)) (hx : (a_q A)[q]? = some x) : ∃ i l c k, nxA (a_m A) (q_ls x) (q_ls x).length = some i ∧ whoA (a_c A) q (q_ex x) (q_l1 x) = some c ∧ (q_ls x)[i]? = some l ∧ (a_c A)[c]? = some k ∧ l_s l = 0 ∧ k_lf k = 0 ∧ k_q k = q ∧ 0 < k_cr k ∧ B = aGive A q x i l c k ∧ m = l_m l := by
  unfold giveA at h
  rw [hx] at h
  simp only at h
  cases hi : nxA (a_m A) (q_ls x) (q_ls x).length with
  | none => rw [hi] at h; cases h
  | some i =>
    rw [hi] at h
    simp only at h
    cases hc : whoA (a_c A) q (q_ex x) (q_l1 x) with
    | none => rw [hc] at h; cases h
    | some c =>
      rw [hc] at h
      simp only at h
      obtain ⟨k, hk, k0, k1, k2⟩ := whoA_at hc
      obtain ⟨i1, i2⟩ := nxA_lt _ _ _ _ hi
      obtain ⟨l, hl⟩ := get_of i1
      rw [hl, hk] at h
      simp only [Option.some.injEq, Prod.mk.injEq] at h
      exact ⟨i, l, c, k, rfl, rfl, hl, hk, ((mayA_iff hl).mp i2).1, k0, k1, k2, h.1.symm, h.2.symm⟩
theorem Wf.giv {B : Ab} {m : Nat} (w : Wf T A) (h : giveA A q = some (B, m)) (hx : (a_q A)[q]? = some x) : Wf T B := by
  obtain ⟨i, l, c, k, _, _, hl, hk, _, k0, k1, _, e, _⟩ := giveA_some h hx
  rw [e]
  exact w.give hx hl hk k0 k1
variable {E : Nat × Nat} {M : Mm} {r : Nat} {Q : Option Value → Mm → Prop}
theorem c_givesA (hS : RS M r) (h : Rep g A) (w : Wf T A) (hx : (a_q A)[q]? = some x) (k1 : giveA A q = none → Q (some (.int (-1))) (wI M (r + 1) g)) (k2 : ∀ B m, giveA A q = some (B, m) → m < 300 → ∀ g', Rep g' B → Q (some (.int (nI m))) (wI M (r + 1) g')) : J E 197 0 [.ref r, .int (nI q), U0, U0] [] (wI M (r + 1) g) Q := by
  have hq : q < 8 := Nat.lt_of_lt_of_le (li hx) h.1.1
  have h20 := (h.1.2.2 q x hx).2.2.2.2.1
  have hQ := w.2.1 q x hx
  have hc := h.2.1.1
  have hl1 := hQ.2.2.2.2.2.2.1
  have hn := h.nx w hx (q_ls x).length (Nat.le_refl _)
  have hw := h.who w hx
  refine c_gives (n := (q_ls x).length) (nc := (a_c A).length) (l1 := q_l1 x) hS hq h20 (h.LM w hx) (h.1.2.2 q x hx).2.2.2.2.2.1 hc (by omega) h.2.1.2.1 (h.1.2.2 q x hx).2.2.1.2.2.2.2.2 (fun e => k1 ?_) (fun i c e => ?_)
  · unfold giveS at e
    rw [hn, hw] at e
    unfold giveA
    rw [hx]
    simp only
    cases hi : nxA (a_m A) (q_ls x) (q_ls x).length with
    | none => rfl
    | some i =>
      rw [hi] at e
      simp only at e ⊢
      cases hc : whoA (a_c A) q (q_ex x) (q_l1 x) with
      | none => rfl
      | some c => rw [hc] at e; cases e
  · unfold giveS at e
    rw [hn, hw] at e
    cases hi : nxA (a_m A) (q_ls x) (q_ls x).length with
    | none => rw [hi] at e; cases e
    | some i' =>
      rw [hi] at e
      simp only at e
      cases hc' : whoA (a_c A) q (q_ex x) (q_l1 x) with
      | none => rw [hc'] at e; cases e
      | some c' =>
        rw [hc'] at e
        simp only [Option.some.injEq, Prod.mk.injEq] at e
        obtain ⟨rfl, rfl⟩ := e
        obtain ⟨k, hk, k0, k1, kc⟩ := whoA_at hc'
        obtain ⟨i1, i2⟩ := nxA_lt _ _ _ _ hi
        obtain ⟨l, hl⟩ := get_of i1
        have eg : giveA A q = some (aGive A q x i' l c' k, l_m l) := by
          unfold giveA
          rw [hx]
          simp only
          rw [hi]
          simp only
          rw [hc']
          simp only
          rw [hl, hk]
        have hL := h.letter hx hl
        rw [hL.2.1]
        exact k2 _ _ eg (h.msg w hx hl).2 _ (h.give hx hl hk kc)
end ABS12
