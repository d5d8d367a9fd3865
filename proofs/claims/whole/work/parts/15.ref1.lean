/-! THE REFERENCE: its cells, and its smallest methods. -/
def RS (M : Mm) (r : Nat) : Prop :=
  mT M r = 11 ∧
  (mR M r 0 = some (r + 1) ∧ mT M (r + 1) = 20 ∧ mS M (r + 1) = 7919) ∧
  (mR M r 1 = some (r + 2) ∧ mT M (r + 2) = 20 ∧ mS M (r + 2) = 7919) ∧
  (mR M r 2 = some (r + 3) ∧ mT M (r + 3) = 20 ∧ mS M (r + 3) = 7919) ∧
  (mR M r 4 = some (r + 4) ∧ mT M (r + 4) = 20 ∧ mS M (r + 4) = 5) ∧
  (mR M r 5 = some (r + 5) ∧ mT M (r + 5) = 20 ∧ mS M (r + 5) = 6) ∧
  (mR M r 6 = some (r + 6) ∧ mT M (r + 6) = 20 ∧ mS M (r + 6) = 250) ∧
  (mR M r 9 = some (r + 7) ∧ mT M (r + 7) = 20 ∧ mS M (r + 7) = 4) ∧
  (mR M r 11 = some (r + 8) ∧ mT M (r + 8) = 20 ∧ mS M (r + 8) = 20) ∧
  (mR M r 13 = some (r + 9) ∧ mT M (r + 9) = 20 ∧ mS M (r + 9) = 8) ∧
  (mR M r 14 = some (r + 10) ∧ mT M (r + 10) = 20 ∧ mS M (r + 10) = 8) ∧
  (mR M r 15 = some (r + 11) ∧ mT M (r + 11) = 21 ∧ mS M (r + 11) = 320) ∧
  (mR M r 16 = some (r + 12) ∧ mT M (r + 12) = 20 ∧ mS M (r + 12) = 32)
theorem RS.t {M : Mm} {r : Nat} (h : RS M r) : mT M r = 11 := h.1
theorem RS.f0 {M : Mm} {r : Nat} (h : RS M r) : mR M r 0 = some (r + 1) := h.2.1.1
theorem RS.t1 {M : Mm} {r : Nat} (h : RS M r) : mT M (r + 1) = 20 := h.2.1.2.1
theorem RS.l1 {M : Mm} {r : Nat} (h : RS M r) : mS M (r + 1) = 7919 := h.2.1.2.2
theorem RS.f1 {M : Mm} {r : Nat} (h : RS M r) : mR M r 1 = some (r + 2) := h.2.2.1.1
theorem RS.t2 {M : Mm} {r : Nat} (h : RS M r) : mT M (r + 2) = 20 := h.2.2.1.2.1
theorem RS.l2 {M : Mm} {r : Nat} (h : RS M r) : mS M (r + 2) = 7919 := h.2.2.1.2.2
theorem RS.f2 {M : Mm} {r : Nat} (h : RS M r) : mR M r 2 = some (r + 3) := h.2.2.2.1.1
theorem RS.t3 {M : Mm} {r : Nat} (h : RS M r) : mT M (r + 3) = 20 := h.2.2.2.1.2.1
theorem RS.l3 {M : Mm} {r : Nat} (h : RS M r) : mS M (r + 3) = 7919 := h.2.2.2.1.2.2
theorem RS.f4 {M : Mm} {r : Nat} (h : RS M r) : mR M r 4 = some (r + 4) := h.2.2.2.2.1.1
theorem RS.t4 {M : Mm} {r : Nat} (h : RS M r) : mT M (r + 4) = 20 := h.2.2.2.2.1.2.1
theorem RS.l4 {M : Mm} {r : Nat} (h : RS M r) : mS M (r + 4) = 5 := h.2.2.2.2.1.2.2
theorem RS.f5 {M : Mm} {r : Nat} (h : RS M r) : mR M r 5 = some (r + 5) := h.2.2.2.2.2.1.1
theorem RS.t5 {M : Mm} {r : Nat} (h : RS M r) : mT M (r + 5) = 20 := h.2.2.2.2.2.1.2.1
theorem RS.l5 {M : Mm} {r : Nat} (h : RS M r) : mS M (r + 5) = 6 := h.2.2.2.2.2.1.2.2
theorem RS.f6 {M : Mm} {r : Nat} (h : RS M r) : mR M r 6 = some (r + 6) := h.2.2.2.2.2.2.1.1
theorem RS.t6 {M : Mm} {r : Nat} (h : RS M r) : mT M (r + 6) = 20 := h.2.2.2.2.2.2.1.2.1
theorem RS.l6 {M : Mm} {r : Nat} (h : RS M r) : mS M (r + 6) = 250 := h.2.2.2.2.2.2.1.2.2
theorem RS.f9 {M : Mm} {r : Nat} (h : RS M r) : mR M r 9 = some (r + 7) := h.2.2.2.2.2.2.2.1.1
theorem RS.t7 {M : Mm} {r : Nat} (h : RS M r) : mT M (r + 7) = 20 := h.2.2.2.2.2.2.2.1.2.1
theorem RS.l7 {M : Mm} {r : Nat} (h : RS M r) : mS M (r + 7) = 4 := h.2.2.2.2.2.2.2.1.2.2
theorem RS.f11 {M : Mm} {r : Nat} (h : RS M r) : mR M r 11 = some (r + 8) := h.2.2.2.2.2.2.2.2.1.1
theorem RS.t8 {M : Mm} {r : Nat} (h : RS M r) : mT M (r + 8) = 20 := h.2.2.2.2.2.2.2.2.1.2.1
theorem RS.l8 {M : Mm} {r : Nat} (h : RS M r) : mS M (r + 8) = 20 := h.2.2.2.2.2.2.2.2.1.2.2
theorem RS.f13 {M : Mm} {r : Nat} (h : RS M r) : mR M r 13 = some (r + 9) := h.2.2.2.2.2.2.2.2.2.1.1
theorem RS.t9 {M : Mm} {r : Nat} (h : RS M r) : mT M (r + 9) = 20 := h.2.2.2.2.2.2.2.2.2.1.2.1
theorem RS.l9 {M : Mm} {r : Nat} (h : RS M r) : mS M (r + 9) = 8 := h.2.2.2.2.2.2.2.2.2.1.2.2
theorem RS.f14 {M : Mm} {r : Nat} (h : RS M r) : mR M r 14 = some (r + 10) := h.2.2.2.2.2.2.2.2.2.2.1.1
theorem RS.t10 {M : Mm} {r : Nat} (h : RS M r) : mT M (r + 10) = 20 := h.2.2.2.2.2.2.2.2.2.2.1.2.1
theorem RS.l10 {M : Mm} {r : Nat} (h : RS M r) : mS M (r + 10) = 8 := h.2.2.2.2.2.2.2.2.2.2.1.2.2
theorem RS.f15 {M : Mm} {r : Nat} (h : RS M r) : mR M r 15 = some (r + 11) := h.2.2.2.2.2.2.2.2.2.2.2.1.1
theorem RS.t11 {M : Mm} {r : Nat} (h : RS M r) : mT M (r + 11) = 21 := h.2.2.2.2.2.2.2.2.2.2.2.1.2.1
theorem RS.l11 {M : Mm} {r : Nat} (h : RS M r) : mS M (r + 11) = 320 := h.2.2.2.2.2.2.2.2.2.2.2.1.2.2
theorem RS.f16 {M : Mm} {r : Nat} (h : RS M r) : mR M r 16 = some (r + 12) := h.2.2.2.2.2.2.2.2.2.2.2.2.1
theorem RS.t12 {M : Mm} {r : Nat} (h : RS M r) : mT M (r + 12) = 20 := h.2.2.2.2.2.2.2.2.2.2.2.2.2.1
theorem RS.l12 {M : Mm} {r : Nat} (h : RS M r) : mS M (r + 12) = 32 := h.2.2.2.2.2.2.2.2.2.2.2.2.2.2
theorem RS.w {M : Mm} {r : Nat} (h : RS M r) (a : Nat) (f : Nat → Int32) : RS (wI M a f) r := h
theorem RS.wl {M : Mm} {r : Nat} (h : RS M r) (a : Nat) (f : Nat → Int64) : RS (wL M a f) r := h
/-- a truth as an int -/
def bI (p : Prop) [Decidable p] : Int32 := if p then nI 1 else nI 0
theorem bI_t {p : Prop} [Decidable p] (h : p) : bI p = nI 1 := if_pos h
theorem bI_f {p : Prop} [Decidable p] (h : ¬ p) : bI p = nI 0 := if_neg h
section REF1
variable {E : Nat × Nat} {M : Mm} {r : Nat} {Q : Option Value → Mm → Prop}
theorem c_in (v a b : Int64) (k : Q (some (.int (bI (a ≤ v ∧ v ≤ b)))) M) : J E 159 0 [.long v, U0, .long a, U0, .long b, U0] [] M Q := by
  refine J_p 3 (ls' := [_, _, _, _, _, _]) rfl ?_
  refine J_zlt rfl (fun b1 => ?_) (fun b1 => ?_)
  · refine J_p 1 (ls' := [_, _, _, _, _, _]) rfl ?_
    rw [bI_f (fun h => by rw [lg_cmp_lt] at b1; simp only [Int64.lt_iff_toInt_lt, Int64.le_iff_toInt_le] at b1 h; omega)] at k
    exact J_ret rfl rfl rfl k
  · refine J_p 3 (ls' := [_, _, _, _, _, _]) rfl ?_
    refine J_zgt rfl (fun b2 => ?_) (fun b2 => ?_)
    · refine J_p 1 (ls' := [_, _, _, _, _, _]) rfl ?_
      rw [bI_f (fun h => by rw [lg_cmp_gt] at b2; simp only [Int64.lt_iff_toInt_lt, Int64.le_iff_toInt_le] at b2 h; omega)] at k
      exact J_ret rfl rfl rfl k
    · refine J_p 2 (ls' := [_, _, _, _, _, _]) rfl ?_
      rw [bI_t ⟨by rw [lg_cmp_lt] at b1; simp only [Int64.lt_iff_toInt_lt, Int64.le_iff_toInt_le] at b1 ⊢; omega, by rw [lg_cmp_gt] at b2; simp only [Int64.lt_iff_toInt_lt, Int64.le_iff_toInt_le] at b2 ⊢; omega⟩] at k
      exact J_ret rfl rfl rfl k

theorem c_of (hS : RS M r) (q w : Nat) (h : 3471 + 556 * q + w < 7919) (k : Q (some (.int (mI M (r + 1) (3471 + 556 * q + w)))) M) : J E 162 0 [.ref r, .int (nI q), .int (nI w)] [] M Q := by
  refine J_p 1 (ls' := [_, _, _]) rfl ?_
  refine J_getR rfl hS.t hS.f0 ?_
  refine J_p 7 (ls' := [_, _, _]) rfl ?_
  refine J_iald rfl (by repeat' (first | with_reducible rfl | assumption | refine nI_addE ?_ ?_ | refine nI_mulE ?_ ?_)) (Or.inl hS.t1) hS.l1 (by omega) (by omega) ?_
  exact J_ret rfl rfl rfl k

theorem c_is (hS : RS M r) (q w : Nat) (z : Int32) (h : 3471 + 556 * q + w < 7919) (k : Q none (wI M (r + 1) (upd (mI M (r + 1)) (3471 + 556 * q + w) z))) : J E 163 0 [.ref r, .int (nI q), .int (nI w), .int z] [] M Q := by
  rw [← sI_wI] at k
  refine J_p 1 (ls' := [_, _, _, _]) rfl ?_
  refine J_getR rfl hS.t hS.f0 ?_
  refine J_p 8 (ls' := [_, _, _, _]) rfl ?_
  refine J_iast rfl (by repeat' (first | with_reducible rfl | assumption | refine nI_addE ?_ ?_ | refine nI_mulE ?_ ?_)) hS.t1 hS.l1 (by omega) (by omega) ?_
  exact J_ret rfl rfl rfl k

theorem c_ofConsumer (hS : RS M r) (c w : Nat) (h : 11 + 4 * c + w < 7919) (k : Q (some (.int (mI M (r + 1) (11 + 4 * c + w)))) M) : J E 165 0 [.ref r, .int (nI c), .int (nI w)] [] M Q := by
  refine J_p 1 (ls' := [_, _, _]) rfl ?_
  refine J_getR rfl hS.t hS.f0 ?_
  refine J_p 7 (ls' := [_, _, _]) rfl ?_
  refine J_iald rfl (by repeat' (first | with_reducible rfl | assumption | refine nI_addE ?_ ?_ | refine nI_mulE ?_ ?_)) (Or.inl hS.t1) hS.l1 (by omega) (by omega) ?_
  exact J_ret rfl rfl rfl k

theorem c_message (hS : RS M r) (m w : Nat) (h : 51 + 9 * m + w < 7919) (k : Q (some (.int (mI M (r + 1) (51 + 9 * m + w)))) M) : J E 168 0 [.ref r, .int (nI m), .int (nI w)] [] M Q := by
  refine J_p 1 (ls' := [_, _, _]) rfl ?_
  refine J_getR rfl hS.t hS.f0 ?_
  refine J_p 7 (ls' := [_, _, _]) rfl ?_
  refine J_iald rfl (by repeat' (first | with_reducible rfl | assumption | refine nI_addE ?_ ?_ | refine nI_mulE ?_ ?_)) (Or.inl hS.t1) hS.l1 (by omega) (by omega) ?_
  exact J_ret rfl rfl rfl k

end REF1