/-! THE REFERENCE: its cells, and its smallest methods. -/
def RS (M : Mm) (r : Nat) : Prop :=
  mT M r = 11 ∧
  (mR M r 0 = some (r + 1) ∧ mT M (r + 1) = 20 ∧ mS M (r + 1) = 7919) ∧
  (mR M r 1 = some (r + 2) ∧ mT M (r + 2) = 20 ∧ mS M (r + 2) = 7919) ∧
  (mR M r 2 = some (r + 3) ∧ mT M (r + 3) = 20 ∧ mS M (r + 3) = 7919) ∧
  (mR M r 4 = some (r + 4) ∧ mT M (r + 4) = 20 ∧ mS M (r + 4) = 5) ∧
  (mR M r 5 = some (r + 5) ∧ mT M (r + 5) = 20 ∧ mS M (r + 5) = 6) ∧
  (mR M r 6 = some (r + 6) ∧ mT M (r + 6) = 20 ∧ mS M (r + 6) = 250) ∧
  (mR M r 9 = some (r + 7) ∧ mT M (r + 7) = 20 ∧ mS M (r + 7) = 4) ∧
  (mR M r 11 = some (r + 8) ∧ mT M (r + 8) = 20 ∧ mS M (r + 8) = 20) ∧
  (mR M r 13 = some (r + 9) ∧ mT M (r + 9) = 20 ∧ mS M (r + 9) = 8) ∧
  (mR M r 14 = some (r + 10) ∧ mT M (r + 10) = 20 ∧ mS M (r + 10) = 8) ∧
  (mR M r 15 = some (r + 11) ∧ mT M (r + 11) = 21 ∧ mS M (r + 11) = 320) ∧
  (mR M r 16 = some (r + 12) ∧ mT M (r + 12) = 20 ∧ mS M (r + 12) = 32)
theorem RS.t {M : Mm} {r : Nat} (h : RS M r) : mT M r = 11 := h.1
theorem RS.f0 {M : Mm} {r : Nat} (h : RS M r) : mR M r 0 = some (r + 1) := h.2.1.1
theorem RS.t1 {M : Mm} {r : Nat} (h : RS M r) : mT M (r + 1) = 20 := h.2.1.2.1
theorem RS.l1 {M : Mm} {r : Nat} (h : RS M r) : mS M (r + 1) = 7919 := h.2.1.2.2
theorem RS.f1 {M : Mm} {r : Nat} (h : RS M r) : mR M r 1 = some (r + 2) := h.2.2.1.1
theorem RS.t2 {M : Mm} {r : Nat} (h : RS M r) : mT M (r + 2) = 20 := h.2.2.1.2.1
theorem RS.l2 {M : Mm} {r : Nat} (h : RS M r) : mS M (r + 2) = 7919 := h.2.2.1.2.2
theorem RS.f2 {M : Mm} {r : Nat} (h : RS M r) : mR M r 2 = some (r + 3) := h.2.2.2.1.1
theorem RS.t3 {M : Mm} {r : Nat} (h : RS M r) : mT M (r + 3) = 20 := h.2.2.2.1.2.1
theorem RS.l3 {M : Mm} {r : Nat} (h : RS M r) : mS M (r + 3) = 7919 := h.2.2.2.1.2.2
theorem RS.f4 {M : Mm} {r : Nat} (h : RS M r) : mR M r 4 = some (r + 4) := h.2.2.2.2.1.1
theorem RS.t4 {M : Mm} {r : Nat} (h : RS M r) : mT M (r + 4) = 20 := h.2.2.2.2.1.2.1
theorem RS.l4 {M : Mm} {r : Nat} (h : RS M r) : mS M (r + 4) = 5 := h.2.2.2.2.1.2.2
theorem RS.f5 {M : Mm} {r : Nat} (h : RS M r) : mR M r 5 = some (r + 5) := h.2.2.2.2.2.1.1
theorem RS.t5 {M : Mm} {r : Nat} (h : RS M r) : mT M (r + 5) = 20 := h.2.2.2.2.2.1.2.1
theorem RS.l5 {M : Mm} {r : Nat} (h : RS M r) : mS M (r + 5) = 6 := h.2.2.2.2.2.1.2.2
theorem RS.f6 {M : Mm} {r : Nat} (h : RS M r) : mR M r 6 = some (r + 6) := h.2.2.2.2.2.2.1.1
theorem RS.t6 {M : Mm} {r : Nat} (h : RS M r) : mT M (r + 6) = 20 := h.2.2.2.2.2.2.1.2.1
theorem RS.l6 {M : Mm} {r : Nat} (h : RS M r) : mS M (r + 6) = 250 := h.2.2.2.2.2.2.1.2.2
theorem RS.f9 {M : Mm} {r : Nat} (h : RS M r) : mR M r 9 = some (r + 7) := h.2.2.2.2.2.2.2.1.1
theorem RS.t7 {M : Mm} {r : Nat} (h : RS M r) : mT M (r + 7) = 20 := h.2.2.2.2.2.2.2.1.2.1
theorem RS.l7 {M : Mm} {r : Nat} (h : RS M r) : mS M (r + 7) = 4 := h.2.2.2.2.2.2.2.1.2.2
theorem RS.f11 {M : Mm} {r : Nat} (h : RS M r) : mR M r 11 = some (r + 8) := h.2.2.2.2.2.2.2.2.1.1
theorem RS.t8 {M : Mm} {r : Nat} (h : RS M r) : mT M (r + 8) = 20 := h.2.2.2.2.2.2.2.2.1.2.1
theorem RS.l8 {M : Mm} {r : Nat} (h : RS M r) : mS M (r + 8) = 20 := h.2.2.2.2.2.2.2.2.1.2.2
theorem RS.f13 {M : Mm} {r : Nat} (h : RS M r) : mR M r 13 = some (r + 9) := h.2.2.2.2.2.2.2.2.2.1.1
theorem RS.t9 {M : Mm} {r : Nat} (h : RS M r) : mT M (r + 9) = 20 := h.2.2.2.2.2.2.2.2.2.1.2.1
theorem RS.l9 {M : Mm} {r : Nat} (h : RS M r) : mS M (r + 9) = 8 := h.2.2.2.2.2.2.2.2.2.1.2.2
theorem RS.f14 {M : Mm} {r : Nat} (h : RS M r) : mR M r 14 = some (r + 10) := h.2.2.2.2.2.2.2.2.2.2.1.1
theorem RS.t10 {M : Mm} {r : Nat} (h : RS M r) : mT M (r + 10) = 20 := h.2.2.2.2.2.2.2.2.2.2.1.2.1
theorem RS.l10 {M : Mm} {r : Nat} (h : RS M r) : mS M (r + 10) = 8 := h.2.2.2.2.2.2.2.2.2.2.1.2.2
theorem RS.f15 {M : Mm} {r : Nat} (h : RS M r) : mR M r 15 = some (r + 11) := h.2.2.2.2.2.2.2.2.2.2.2.1.1
theorem RS.t11 {M : Mm} {r : Nat} (h : RS M r) : mT M (r + 11) = 21 := h.2.2.2.2.2.2.2.2.2.2.2.1.2.1
theorem RS.l11 {M : Mm} {r : Nat} (h : RS M r) : mS M (r + 11) = 320 := h.2.2.2.2.2.2.2.2.2.2.2.1.2.2
theorem RS.f16 {M : Mm} {r : Nat} (h : RS M r) : mR M r 16 = some (r + 12) := h.2.2.2.2.2.2.2.2.2.2.2.2.1
theorem RS.t12 {M : Mm} {r : Nat} (h : RS M r) : mT M (r + 12) = 20 := h.2.2.2.2.2.2.2.2.2.2.2.2.2.1
theorem RS.l12 {M : Mm} {r : Nat} (h : RS M r) : mS M (r + 12) = 32 := h.2.2.2.2.2.2.2.2.2.2.2.2.2.2
theorem RS.w {M : Mm} {r : Nat} (h : RS M r) (a : Nat) (f : Nat → Int32) : RS (wI M a f) r := h
theorem RS.wl {M : Mm} {r : Nat} (h : RS M r) (a : Nat) (f : Nat → Int64) : RS (wL M a f) r := h
/-- a truth as an int -/
def bI (p : Prop) [Decidable p] : Int32 := if p then nI 1 else nI 0
theorem bI_t {p : Prop} [Decidable p] (h : p) : bI p = nI 1 := if_pos h
theorem bI_f {p : Prop} [Decidable p] (h : ¬ p) : bI p = nI 0 := if_neg h
theorem bI_01 {p : Prop} [Decidable p] : bI p = 0 ∨ bI p = 1 := by
  by_cases h : p
  · rw [bI_t h]; exact Or.inr rfl
  · rw [bI_f h]; exact Or.inl rfl
theorem bI_z {p : Prop} [Decidable p] (h : bI p = 0) : ¬ p := fun q => by rw [bI_t q] at h; exact absurd h (by decide)
theorem bI_nz {p : Prop} [Decidable p] (h : ¬ bI p = 0) : p := by
  by_cases q : p
  · exact q
  · rw [bI_f q] at h; exact absurd rfl h
theorem bI_iff {p q : Prop} [Decidable p] [Decidable q] (h : p ↔ q) : bI p = bI q := by
  by_cases hp : p
  · rw [bI_t hp, bI_t (h.mp hp)]
  · rw [bI_f hp, bI_f (fun x => hp (h.mpr x))]
theorem nI_big {n : Nat} (h : n < 2 ^ 31) : (nI n).toInt = (n : Int) := nI_toInt h
theorem i64_le {x y : Int32} : x.toInt64 ≤ y.toInt64 ↔ x.toInt ≤ y.toInt := by rw [Int64.le_iff_toInt_le, Int32.toInt_toInt64, Int32.toInt_toInt64]
theorem lN_i64 {n : Nat} (h : n < 2 ^ 31) : lN n = (nI n).toInt64 := (nI_l h).symm
/-- the reference's test of a number against bounds -/
theorem in_iff {x : Int32} {a b : Nat} (ha : a < 2 ^ 31) (hb : b < 2 ^ 31) : (lN a ≤ x.toInt64 ∧ x.toInt64 ≤ lN b) ↔ ((a : Int) ≤ x.toInt ∧ x.toInt ≤ (b : Int)) := by
  rw [lN_i64 ha, lN_i64 hb, i64_le, i64_le, nI_toInt ha, nI_toInt hb]
theorem nI_pred1 {n : Nat} (h : n < 2 ^ 31) : (nI n - nI 1).toInt = (n : Int) - 1 := by
  cases n with
  | zero => decide
  | succ n =>
    have : nI (n + 1) - nI 1 = nI n := nI_subE (m := n + 1) (n := 1) rfl rfl (by omega)
    rw [this, nI_toInt (by omega)]; omega
theorem inq_iff {x : Int32} {n : Nat} (hn : n < 2 ^ 31) : (lN 0 ≤ x.toInt64 ∧ x.toInt64 ≤ (nI n - nI 1).toInt64) ↔ (0 ≤ x.toInt ∧ x.toInt < (n : Int)) := by
  rw [lN_i64 (by omega), i64_le, i64_le, nI_pred1 hn, nI_toInt (by omega)]
  omega
section REF1
variable {E : Nat × Nat} {M : Mm} {r : Nat} {g : Nat → Int32} {Q : Option Value → Mm → Prop}
variable {mi pc nx tg x y pc' : Nat} {v : Value} {i : Instr} {ls ls' st rr : List Value}
theorem J_retB {b : Int32} (hq : tb mi pc = some (.ireturn, nx, tg, x, y, v)) (hb : b = 0 ∨ b = 1) (hQ : Q (some (.int b)) M) : J E mi pc ls [.int b] M Q :=
  J_ret hq rfl (by simp only [rs]; rw [if_pos (Or.inr hb)]) hQ
/-- the top of the stack, the one below, .. under another name -/
theorem J_n0 {a : Int32} {n : Nat} (h : a = nI n) (k : J E mi pc ls (.int (nI n) :: st) M Q) : J E mi pc ls (.int a :: st) M Q := by rw [h]; exact k
theorem J_n1 {a : Int32} {n : Nat} {v0 : Value} (h : a = nI n) (k : J E mi pc ls (v0 :: .int (nI n) :: st) M Q) : J E mi pc ls (v0 :: .int a :: st) M Q := by rw [h]; exact k
theorem J_n2 {a : Int32} {n : Nat} {v0 v1 : Value} (h : a = nI n) (k : J E mi pc ls (v0 :: v1 :: .int (nI n) :: st) M Q) : J E mi pc ls (v0 :: v1 :: .int a :: st) M Q := by rw [h]; exact k
theorem J_n3 {a : Int32} {n : Nat} {v0 v1 v2 : Value} (h : a = nI n) (k : J E mi pc ls (v0 :: v1 :: v2 :: .int (nI n) :: st) M Q) : J E mi pc ls (v0 :: v1 :: v2 :: .int a :: st) M Q := by rw [h]; exact k
theorem J_t0 {a b : Int32} (h : a = b) (k : J E mi pc ls (.int b :: st) M Q) : J E mi pc ls (.int a :: st) M Q := by rw [h]; exact k
theorem J_t1 {a b : Int32} {v0 : Value} (h : a = b) (k : J E mi pc ls (v0 :: .int b :: st) M Q) : J E mi pc ls (v0 :: .int a :: st) M Q := by rw [h]; exact k
theorem J_t2 {a b : Int32} {v0 v1 : Value} (h : a = b) (k : J E mi pc ls (v0 :: v1 :: .int b :: st) M Q) : J E mi pc ls (v0 :: v1 :: .int a :: st) M Q := by rw [h]; exact k
theorem J_t3 {a b : Int32} {v0 v1 v2 : Value} (h : a = b) (k : J E mi pc ls (v0 :: v1 :: v2 :: .int b :: st) M Q) : J E mi pc ls (v0 :: v1 :: v2 :: .int a :: st) M Q := by rw [h]; exact k
theorem nI_decE {a : Int32} {m : Nat} (h : a = nI (m + 1)) : a + (-1) = nI m := by
  rw [h]
  have : nI (m + 1) = nI m + 1 := nI_succ m
  rw [this, Int32.add_assoc]
  have : (1 : Int32) + (-1) = 0 := by decide
  rw [this, Int32.add_zero]
theorem J_L {ls' : List Value} (h : ls = ls') (k : J E mi pc ls' st M Q) : J E mi pc ls st M Q := by rw [h]; exact k
theorem J_M {M' : Mm} (h : M = M') (k : J E mi pc ls st M' Q) : J E mi pc ls st M Q := by rw [h]; exact k
theorem sI_wg (M : Mm) (a k : Nat) (f : Nat → Int32) (z : Int32) : sI (wI M a f) a k z = wI M a (upd f k z) := by rw [sI_wI, mI_same, wI_wI]
/-- the reference's row g is read, written -/
theorem J_gld {n : Nat} {j z : Int32} (hq : tb mi pc = some (.iaload, nx, tg, x, y, v)) (hj : j = nI n) (hS : RS M r) (hn : n < 7919) (hz : g n = z) (k : J E mi nx ls (.int z :: rr) (wI M (r + 1) g) Q) : J E mi pc ls (.int j :: .ref (r + 1) :: rr) (wI M (r + 1) g) Q := by
  refine J_iald hq hj (Or.inl hS.t1) (hS.w (r + 1) g).l1 hn (by omega) ?_
  rw [mI_same, hz]
  exact k
theorem J_gst {n : Nat} {j z : Int32} (hq : tb mi pc = some (.iastore, nx, tg, x, y, v)) (hj : j = nI n) (hS : RS M r) (hn : n < 7919) (k : J E mi nx ls rr (wI M (r + 1) (upd g n z)) Q) : J E mi pc ls (.int z :: .int j :: .ref (r + 1) :: rr) (wI M (r + 1) g) Q := by
  refine J_iast hq hj (hS.w (r + 1) g).t1 (hS.w (r + 1) g).l1 hn (by omega) ?_
  rw [sI_wg]
  exact k

theorem c_in (v a b : Int64) (k : Q (some (.int (bI (a ≤ v ∧ v ≤ b)))) M) : J E 159 0 [.long v, U0, .long a, U0, .long b, U0] [] M Q := by
  refine J_p 3 (ls' := [_, _, _, _, _, _]) rfl ?_
  refine J_zlt rfl (fun b1 => ?_) (fun b1 => ?_)
  · refine J_p 1 (ls' := [_, _, _, _, _, _]) rfl ?_
    rw [bI_f (fun h => by rw [lg_cmp_lt] at b1; simp only [Int64.lt_iff_toInt_lt, Int64.le_iff_toInt_le] at b1 h; omega)] at k
    exact J_retB rfl (by decide) k
  · refine J_p 3 (ls' := [_, _, _, _, _, _]) rfl ?_
    refine J_zgt rfl (fun b2 => ?_) (fun b2 => ?_)
    · refine J_p 1 (ls' := [_, _, _, _, _, _]) rfl ?_
      rw [bI_f (fun h => by rw [lg_cmp_gt] at b2; simp only [Int64.lt_iff_toInt_lt, Int64.le_iff_toInt_le] at b2 h; omega)] at k
      exact J_retB rfl (by decide) k
    · refine J_p 2 (ls' := [_, _, _, _, _, _]) rfl ?_
      rw [bI_t ⟨by rw [lg_cmp_lt] at b1; simp only [Int64.lt_iff_toInt_lt, Int64.le_iff_toInt_le] at b1 ⊢; omega, by rw [lg_cmp_gt] at b2; simp only [Int64.lt_iff_toInt_lt, Int64.le_iff_toInt_le] at b2 ⊢; omega⟩] at k
      exact J_retB rfl (by decide) k

theorem c_of (hS : RS M r) (q w : Nat) {z : Int32} (h : 3471 + 556 * q + w < 7919) (hz : g (3471 + 556 * q + w) = z) (k : Q (some (.int z)) (wI M (r + 1) g)) : J E 162 0 [.ref r, .int (nI q), .int (nI w)] [] (wI M (r + 1) g) Q := by
  refine J_p 1 (ls' := [_, _, _]) rfl ?_
  refine J_getR rfl hS.t hS.f0 ?_
  refine J_p 7 (ls' := [_, _, _]) rfl ?_
  refine J_gld (n := 3471 + 556 * q + w) rfl (by repeat' (first | with_reducible rfl | assumption | with_reducible refine nI_decE ?_ | with_reducible refine nI_addE ?_ ?_ | with_reducible refine nI_mulE ?_ ?_ | with_reducible refine nI_subE ?_ ?_ ?_ | omega | (with_reducible refine congrArg nI ?_; omega))) hS (by omega) hz ?_
  exact J_ret rfl rfl rfl k

theorem c_is (hS : RS M r) (q w : Nat) (z : Int32) (h : 3471 + 556 * q + w < 7919) (k : Q none (wI M (r + 1) (upd g (3471 + 556 * q + w) z))) : J E 163 0 [.ref r, .int (nI q), .int (nI w), .int z] [] (wI M (r + 1) g) Q := by
  refine J_p 1 (ls' := [_, _, _, _]) rfl ?_
  refine J_getR rfl hS.t hS.f0 ?_
  refine J_p 8 (ls' := [_, _, _, _]) rfl ?_
  refine J_gst (n := 3471 + 556 * q + w) rfl (by repeat' (first | with_reducible rfl | assumption | with_reducible refine nI_decE ?_ | with_reducible refine nI_addE ?_ ?_ | with_reducible refine nI_mulE ?_ ?_ | with_reducible refine nI_subE ?_ ?_ ?_ | omega | (with_reducible refine congrArg nI ?_; omega))) hS (by omega) ?_
  exact J_ret rfl rfl rfl k

theorem c_ofConsumer (hS : RS M r) (c w : Nat) {z : Int32} (h : 11 + 4 * c + w < 7919) (hz : g (11 + 4 * c + w) = z) (k : Q (some (.int z)) (wI M (r + 1) g)) : J E 165 0 [.ref r, .int (nI c), .int (nI w)] [] (wI M (r + 1) g) Q := by
  refine J_p 1 (ls' := [_, _, _]) rfl ?_
  refine J_getR rfl hS.t hS.f0 ?_
  refine J_p 7 (ls' := [_, _, _]) rfl ?_
  refine J_gld (n := 11 + 4 * c + w) rfl (by repeat' (first | with_reducible rfl | assumption | with_reducible refine nI_decE ?_ | with_reducible refine nI_addE ?_ ?_ | with_reducible refine nI_mulE ?_ ?_ | with_reducible refine nI_subE ?_ ?_ ?_ | omega | (with_reducible refine congrArg nI ?_; omega))) hS (by omega) hz ?_
  exact J_ret rfl rfl rfl k

theorem c_message (hS : RS M r) (m w : Nat) {z : Int32} (h : 51 + 9 * m + w < 7919) (hz : g (51 + 9 * m + w) = z) (k : Q (some (.int z)) (wI M (r + 1) g)) : J E 168 0 [.ref r, .int (nI m), .int (nI w)] [] (wI M (r + 1) g) Q := by
  refine J_p 1 (ls' := [_, _, _]) rfl ?_
  refine J_getR rfl hS.t hS.f0 ?_
  refine J_p 7 (ls' := [_, _, _]) rfl ?_
  refine J_gld (n := 51 + 9 * m + w) rfl (by repeat' (first | with_reducible rfl | assumption | with_reducible refine nI_decE ?_ | with_reducible refine nI_addE ?_ ?_ | with_reducible refine nI_mulE ?_ ?_ | with_reducible refine nI_subE ?_ ?_ ?_ | omega | (with_reducible refine congrArg nI ?_; omega))) hS (by omega) hz ?_
  exact J_ret rfl rfl rfl k

theorem c_letterOf (hS : RS M r) (q i w : Nat) {z : Int32} (h : 3471 + 556 * q + 36 + 26 * i + w < 7919) (hz : g (3471 + 556 * q + 36 + 26 * i + w) = z) (k : Q (some (.int z)) (wI M (r + 1) g)) : J E 169 0 [.ref r, .int (nI q), .int (nI i), .int (nI w)] [] (wI M (r + 1) g) Q := by
  refine J_p 9 (ls' := [_, _, _, _]) rfl ?_
  refine J_n0 (n := 36 + 26 * i + w) (by repeat' (first | with_reducible rfl | assumption | with_reducible refine nI_decE ?_ | with_reducible refine nI_addE ?_ ?_ | with_reducible refine nI_mulE ?_ ?_ | with_reducible refine nI_subE ?_ ?_ ?_ | omega | (with_reducible refine congrArg nI ?_; omega))) ?_
  refine J_call rfl rfl rfl (decide_eq_true hS.t) rfl (c_of hS q (36 + 26 * i + w) (z := z) (by omega) (by rw [← hz]; exact congrArg g (by omega)) ?_)
  show J _ _ _ _ _ _ _
  exact J_ret rfl rfl rfl k

theorem c_letterIs (hS : RS M r) (q i w : Nat) (z : Int32) (h : 3471 + 556 * q + 36 + 26 * i + w < 7919) (k : Q none (wI M (r + 1) (upd g (3471 + 556 * q + 36 + 26 * i + w) z))) : J E 170 0 [.ref r, .int (nI q), .int (nI i), .int (nI w), .int z] [] (wI M (r + 1) g) Q := by
  refine J_p 10 (ls' := [_, _, _, _, _]) rfl ?_
  refine J_n1 (n := 36 + 26 * i + w) (by repeat' (first | with_reducible rfl | assumption | with_reducible refine nI_decE ?_ | with_reducible refine nI_addE ?_ ?_ | with_reducible refine nI_mulE ?_ ?_ | with_reducible refine nI_subE ?_ ?_ ?_ | omega | (with_reducible refine congrArg nI ?_; omega))) ?_
  rw [show 3471 + 556 * q + 36 + 26 * i + w = 3471 + 556 * q + (36 + 26 * i + w) by omega] at k
  refine J_call rfl rfl rfl (decide_eq_true hS.t) rfl (c_is hS q (36 + 26 * i + w) z (by omega) ?_)
  show J _ _ _ _ _ _ _
  exact J_ret rfl rfl rfl k

theorem c_keyOf (hS : RS M r) (q i m : Nat) {z : Int32} (hq : q < 8) (hi : i < 20) (hm : m < 300) (h0 : g (3471 + 556 * q + 36 + 26 * i + 0) = nI m) (hz : g (51 + 9 * m + 5) = z) (k : Q (some (.int z)) (wI M (r + 1) g)) : J E 171 0 [.ref r, .int (nI q), .int (nI i)] [] (wI M (r + 1) g) Q := by
  refine J_p 5 (ls' := [_, _, _]) rfl ?_
  refine J_call rfl rfl rfl (decide_eq_true hS.t) rfl (c_letterOf hS q i 0 (by omega) h0 ?_)
  show J _ _ _ _ _ _ _
  refine J_p 1 (ls' := [_, _, _]) rfl ?_
  refine J_call rfl rfl rfl (decide_eq_true hS.t) rfl (c_message hS m 5 (by omega) hz ?_)
  show J _ _ _ _ _ _ _
  exact J_ret rfl rfl rfl k

theorem c_isQueue (hS : RS M r) (q : Int32) {n : Nat} (h0 : g 0 = nI n) (hn : n < 2 ^ 31) (k : Q (some (.int (bI (0 ≤ q.toInt ∧ q.toInt < (n : Int))))) (wI M (r + 1) g)) : J E 164 0 [.ref r, .int q] [] (wI M (r + 1) g) Q := by
  refine J_p 4 (ls' := [_, _]) rfl ?_
  refine J_getR rfl hS.t hS.f0 ?_
  refine J_p 1 (ls' := [_, _]) rfl ?_
  refine J_gld (n := 0) rfl (by repeat' (first | with_reducible rfl | assumption | with_reducible refine nI_decE ?_ | with_reducible refine nI_addE ?_ ?_ | with_reducible refine nI_mulE ?_ ?_ | with_reducible refine nI_subE ?_ ?_ ?_ | omega | (with_reducible refine congrArg nI ?_; omega))) hS (by omega) h0 ?_
  refine J_p 3 (ls' := [_, _]) rfl ?_
  refine J_call rfl rfl rfl rfl rfl (c_in _ _ _ ?_)
  show J _ _ _ _ _ _ _
  rw [bI_iff (inq_iff hn)]
  exact J_retB rfl bI_01 k

end REF1