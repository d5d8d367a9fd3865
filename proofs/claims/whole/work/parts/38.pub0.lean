/-! THE REFERENCE'S PUBLIC METHODS, over the abstract state: helpers. -/
def inZ (x : Int32) (a b : Nat) : Prop := (a : Int) ≤ x.toInt ∧ x.toInt ≤ (b : Int)
theorem Wf.mono {T T' : Nat} {A : Ab} (w : Wf T A) (h : T ≤ T') (h2 : T' < 2 ^ 20) : Wf T' A := by
  obtain ⟨w1, w2⟩ := w
  exact ⟨⟨by omega, h2⟩, w2⟩
section PUB0
variable {E : Nat × Nat} {M : Mm} {r T : Nat} {g : Nat → Int32} {A : Ab} {Q : Option Value → Mm → Prop}
theorem bI_1 {p : Prop} [Decidable p] (h : p) : bI p = nI 1 := if_pos h
theorem c_isQ (hS : RS M r) (h : Rep g A) (q : Int32) (kt : ∀ j, ixN q (a_q A).length = some j → j < (a_q A).length → q = nI j → Q (some (.int (nI 1))) (wI M (r + 1) g)) (kf : ixN q (a_q A).length = none → Q (some (.int (nI 0))) (wI M (r + 1) g)) : J E 164 0 [.ref r, .int q] [] (wI M (r + 1) g) Q := by
  refine c_isQueue hS q h.1.2.1 (by have := h.1.1; omega) ?_
  cases e : ixN q (a_q A).length with
  | none => rw [bI_f (ixN_none e)]; exact kf e
  | some j =>
    obtain ⟨h1, h2, h3⟩ := ixN_some e
    rw [bI_t h3]
    exact kt j e h1 h2
theorem c_isC (hS : RS M r) (h : Rep g A) (q : Int32) (kt : ∀ j, ixN q (a_c A).length = some j → j < (a_c A).length → q = nI j → Q (some (.int (nI 1))) (wI M (r + 1) g)) (kf : ixN q (a_c A).length = none → Q (some (.int (nI 0))) (wI M (r + 1) g)) : J E 166 0 [.ref r, .int q] [] (wI M (r + 1) g) Q := by
  refine c_isConsumer hS q h.2.1.2.1 (by have := h.2.1.1; omega) ?_
  cases e : ixN q (a_c A).length with
  | none => rw [bI_f (ixN_none e)]; exact kf e
  | some j =>
    obtain ⟨h1, h2, h3⟩ := ixN_some e
    rw [bI_t h3]
    exact kt j e h1 h2
theorem c_inZ {x : Int32} {a b : Nat} {M : Mm} (ha : a < 2 ^ 31) (hb : b < 2 ^ 31) (kt : inZ x a b → Q (some (.int (nI 1))) M) (kf : ¬ inZ x a b → Q (some (.int (nI 0))) M) : J E 159 0 [.long x.toInt64, U0, .long (lN a), U0, .long (lN b), U0] [] M Q := by
  refine c_in _ _ _ ?_
  by_cases e : inZ x a b
  · rw [bI_t ((in_iff ha hb).mpr e)]; exact kt e
  · rw [bI_f (fun y => e ((in_iff ha hb).mp y))]; exact kf e
/-- between 0 and a number less 1 -/
theorem c_inX {x : Int32} {n : Nat} {M : Mm} (hn : n < 2 ^ 31) (kt : ∀ j, ixN x n = some j → j < n → x = nI j → Q (some (.int (nI 1))) M) (kf : ixN x n = none → Q (some (.int (nI 0))) M) : J E 159 0 [.long x.toInt64, U0, .long (lN 0), U0, .long (nI n - nI 1).toInt64, U0] [] M Q := by
  refine c_in _ _ _ ?_
  cases e : ixN x n with
  | none => rw [bI_f (fun y => ixN_none e ((inq_iff hn).mp y))]; exact kf e
  | some j =>
    obtain ⟨h1, h2, h3⟩ := ixN_some e
    rw [bI_t ((inq_iff hn).mpr h3)]
    exact kt j e h1 h2
end PUB0