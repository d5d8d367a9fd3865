/-! THE REFERENCE: counts, who gets it, giving. -/
def sumS (f : Nat → Int32) : Nat → Int32
  | 0 => nI 0
  | n + 1 => sumS f n + f n
def o1 (p : Prop) [Decidable p] : Int32 := if p then nI 1 else nI 0
/-- does consumer c stand at the queue -/
def atS (g : Nat → Int32) (q c : Nat) : Bool := decide (g (11 + 4 * c + 2) = 0) && decide (g (11 + 4 * c + 0) = nI q)
def fcS (g : Nat → Int32) (q : Nat) : Nat → Nat → Option Nat
  | 0, _ => none
  | d + 1, c => if atS g q c = true then some c else fcS g q d (c + 1)
/-- who is next behind the latest (l1: the latest and 1), round about -/
def rrS (g : Nat → Int32) (q nc l1 : Nat) : Nat → Nat → Option Nat
  | 0, _ => none
  | d + 1, k => if atS g q ((l1 + k) % nc) = true ∧ 0 < g (11 + 4 * ((l1 + k) % nc) + 1) then some ((l1 + k) % nc) else rrS g q nc l1 d (k + 1)
def whoS (g : Nat → Int32) (q nc l1 : Nat) : Option Nat :=
  if g (3471 + 556 * q + 30) = nI 1 then (match fcS g q nc 0 with
    | none => none
    | some c => if 0 < g (11 + 4 * c + 1) then some c else none) else rrS g q nc l1 nc 0
theorem fcS_lt (g : Nat → Int32) (q : Nat) : ∀ (d c x : Nat), fcS g q d c = some x → x < c + d
  | 0, _, _, h => by cases h
  | d + 1, c, x, h => by
    unfold fcS at h
    split at h
    · cases h; omega
    · have := fcS_lt g q d (c + 1) x h; omega
theorem rrS_lt (g : Nat → Int32) (q nc l1 : Nat) (hn : 0 < nc) : ∀ (d k x : Nat), rrS g q nc l1 d k = some x → x < nc
  | 0, _, _, h => by cases h
  | d + 1, k, x, h => by
    unfold rrS at h
    split at h
    · cases h; exact Nat.mod_lt _ hn
    · exact rrS_lt g q nc l1 hn d (k + 1) x h
theorem whoS_lt {g : Nat → Int32} {q nc l1 c : Nat} (h : whoS g q nc l1 = some c) : c < nc := by
  unfold whoS at h
  split at h
  · split at h
    · cases h
    · rename_i x hx
      split at h
      · cases h; have := fcS_lt g q nc 0 c hx; omega
      · cases h
  · cases nc with
    | zero => cases h
    | succ n => exact rrS_lt g q _ l1 (by omega) _ _ c h
theorem ij0 {g : Nat → Int32} {q c : Nat} (h1 : g (11 + 4 * c + 2) = 0) (h2 : g (11 + 4 * c + 0) = nI q) : atS g q c = true := by
  unfold atS
  rw [decide_eq_true h1, decide_eq_true h2]
  rfl
theorem ijn2 {g : Nat → Int32} {q c : Nat} (h2 : ¬ g (11 + 4 * c + 0) = nI q) : ¬ atS g q c = true := by
  unfold atS
  rw [decide_eq_false h2, Bool.and_false]
  decide
theorem ijn1 {g : Nat → Int32} {q c : Nat} (h1 : ¬ g (11 + 4 * c + 2) = 0) : ¬ atS g q c = true := by
  unfold atS
  rw [decide_eq_false h1, Bool.false_and]
  decide
theorem pk1 (a k : Nat) : (nI a - nI 1) + nI (k + 1) = nI (a + k) := by
  have h1 : nI (k + 1) = nI k + nI 1 := (nI_add k 1).symm
  rw [h1, Int32.sub_eq_add_neg, Int32.add_assoc, Int32.add_comm (-nI 1), Int32.add_assoc, Int32.add_right_neg, Int32.add_zero, nI_add]
theorem z0lt {x : Int32} (h : ¬ x ≤ 0) : 0 < x := by
  rw [Int32.le_iff_toInt_le] at h; rw [Int32.lt_iff_toInt_lt]; omega
theorem z0le {x : Int32} (h : x ≤ 0) : ¬ 0 < x := by
  rw [Int32.le_iff_toInt_le] at h; rw [Int32.lt_iff_toInt_lt]; omega
section REF5
variable {E : Nat × Nat} {M : Mm} {r : Nat} {g : Nat → Int32} {Q : Option Value → Mm → Prop}
theorem c_outOf_l (hS : RS M r) {q c n : Nat} (hq : q < 8) (hn : n ≤ 20) (h0 : g (3471 + 556 * q + 35) = nI n) : ∀ (d kk : Nat), kk + d = n → Q (some (.int (sumS (fun i => o1 (g (3471 + 556 * q + 36 + 26 * i + 3) = nI c)) n))) (wI M (r + 1) g) → J E 200 12 [.ref r, .int (nI c), .int (nI q), .int (sumS (fun i => o1 (g (3471 + 556 * q + 36 + 26 * i + 3) = nI c)) kk), .int (nI kk)] [] (wI M (r + 1) g) Q := by
  intro d
  induction d with
  | zero =>
    intro kk hk k
    refine J_p 4 (ls' := [_, _, _, _, _]) rfl ?_
    refine J_call rfl rfl rfl (decide_eq_true hS.t) rfl (c_of hS q 35 (by omega) h0 ?_)
    show J _ _ _ _ _ _ _
    refine J_ige rfl (fun b21 => ?_) (fun b21 => ?_)
    · skip
      refine J_p 1 (ls' := [_, _, _, _, _]) rfl ?_
      obtain rfl : kk = n := by omega
      exact J_ret rfl rfl rfl k
    · skip
      exact absurd (nI_le (a := n) (b := kk) (by omega) (by omega)) b21
  | succ d ih =>
    intro kk hk k
    refine J_p 4 (ls' := [_, _, _, _, _]) rfl ?_
    refine J_call rfl rfl rfl (decide_eq_true hS.t) rfl (c_of hS q 35 (by omega) h0 ?_)
    show J _ _ _ _ _ _ _
    refine J_ige rfl (fun b21 => ?_) (fun b21 => ?_)
    · skip
      exact absurd b21 (nI_ge (a := kk) (b := n) (by omega) (by omega))
    · skip
      refine J_p 5 (ls' := [_, _, _, _, _]) rfl ?_
      refine J_call rfl rfl rfl (decide_eq_true hS.t) rfl (c_letterOf hS q kk 3 (by omega) rfl ?_)
      show J _ _ _ _ _ _ _
      refine J_p 1 (ls' := [_, _, _, _, _]) rfl ?_
      refine J_ine rfl (fun b34 => ?_) (fun b34 => ?_)
      · skip
        refine J_p 5 (ls' := [_, _, _, _, _]) rfl ?_
        rw [nI_add kk 1]
        refine J_L (ls' := [.ref r, .int (nI c), .int (nI q), .int (sumS (fun i => o1 (g (3471 + 556 * q + 36 + 26 * i + 3) = nI c)) (kk + 1)), .int (nI (kk + 1))]) ?_ (ih (kk + 1) (by omega) k)
        simp only [sumS, o1, b34]
        first | done | rfl
      · skip
        refine J_p 6 (ls' := [_, _, _, _, _]) rfl ?_
        rw [nI_add kk 1]
        refine J_L (ls' := [.ref r, .int (nI c), .int (nI q), .int (sumS (fun i => o1 (g (3471 + 556 * q + 36 + 26 * i + 3) = nI c)) (kk + 1)), .int (nI (kk + 1))]) ?_ (ih (kk + 1) (by omega) k)
        simp only [sumS, o1, b34]
        first | done | rfl

theorem c_outOf (hS : RS M r) {q c n : Nat} (hc : c < 10) (hq : q < 8) (hn : n ≤ 20) (h0 : g (3471 + 556 * q + 35) = nI n) (hcq : g (11 + 4 * c + 0) = nI q) (k : Q (some (.int (sumS (fun i => o1 (g (3471 + 556 * q + 36 + 26 * i + 3) = nI c)) n))) (wI M (r + 1) g)) : J E 200 0 [.ref r, .int (nI c), U0, U0, U0] [] (wI M (r + 1) g) Q := by
  refine J_p 3 (ls' := [_, _, _, _, _]) rfl ?_
  refine J_call rfl rfl rfl (decide_eq_true hS.t) rfl (c_ofConsumer hS c 0 (by omega) hcq ?_)
  show J _ _ _ _ _ _ _
  refine J_p 5 (ls' := [_, _, _, _, _]) rfl ?_
  exact c_outOf_l (E := E) (Q := Q) (g := g) hS hq hn h0 n 0 (by omega) k

def oaS (g : Nat → Int32) (q c : Nat) (m : Int32) : Nat → Nat → Option Nat
  | 0, _ => none
  | d + 1, i => if g (3471 + 556 * q + 36 + 26 * i + 3) = nI c ∧ (m < 0 ∨ g (3471 + 556 * q + 36 + 26 * i + 0) = m) then some i else oaS g q c m d (i + 1)

theorem c_outAt_l (hS : RS M r) {q c n : Nat} {m : Int32} (hq : q < 8) (hn : n ≤ 20) (h0 : g (3471 + 556 * q + 35) = nI n) : ∀ (d kk : Nat), kk + d = n → Q (some (.int (oI (oaS g q c m d kk)))) (wI M (r + 1) g) → J E 201 10 [.ref r, .int (nI c), .int m, .int (nI q), .int (nI kk)] [] (wI M (r + 1) g) Q := by
  intro d
  induction d with
  | zero =>
    intro kk hk k
    refine J_p 4 (ls' := [_, _, _, _, _]) rfl ?_
    refine J_call rfl rfl rfl (decide_eq_true hS.t) rfl (c_of hS q 35 (by omega) h0 ?_)
    show J _ _ _ _ _ _ _
    refine J_ige rfl (fun b19 => ?_) (fun b19 => ?_)
    · skip
      refine J_p 1 (ls' := [_, _, _, _, _]) rfl ?_
      exact J_ret rfl rfl rfl k
    · skip
      exact absurd (nI_le (a := n) (b := kk) (by omega) (by omega)) b19
  | succ d ih =>
    intro kk hk k
    refine J_p 4 (ls' := [_, _, _, _, _]) rfl ?_
    refine J_call rfl rfl rfl (decide_eq_true hS.t) rfl (c_of hS q 35 (by omega) h0 ?_)
    show J _ _ _ _ _ _ _
    refine J_ige rfl (fun b19 => ?_) (fun b19 => ?_)
    · skip
      exact absurd b19 (nI_ge (a := kk) (b := n) (by omega) (by omega))
    · skip
      refine J_p 4 (ls' := [_, _, _, _, _]) rfl ?_
      refine J_call rfl rfl rfl (decide_eq_true hS.t) rfl (c_letterOf hS q kk 3 (by omega) rfl ?_)
      show J _ _ _ _ _ _ _
      refine J_p 1 (ls' := [_, _, _, _, _]) rfl ?_
      refine J_ine rfl (fun b31 => ?_) (fun b31 => ?_)
      · skip
        rw [oaS, if_neg (fun h => b31 h.1)] at k
        refine J_p 2 (ls' := [_, _, _, _, _]) rfl ?_
        rw [nI_add kk 1]
        exact ih (kk + 1) (by omega) k
      · skip
        refine J_p 1 (ls' := [_, _, _, _, _]) rfl ?_
        refine J_zlt rfl (fun b35 => ?_) (fun b35 => ?_)
        · skip
          rw [oaS, if_pos ⟨b31, Or.inl b35⟩] at k
          refine J_p 1 (ls' := [_, _, _, _, _]) rfl ?_
          exact J_ret rfl rfl rfl k
        · skip
          refine J_p 4 (ls' := [_, _, _, _, _]) rfl ?_
          refine J_call rfl rfl rfl (decide_eq_true hS.t) rfl (c_letterOf hS q kk 0 (by omega) rfl ?_)
          show J _ _ _ _ _ _ _
          refine J_p 1 (ls' := [_, _, _, _, _]) rfl ?_
          refine J_ine rfl (fun b47 => ?_) (fun b47 => ?_)
          · skip
            rw [oaS, if_neg (fun h => h.2.elim b35 b47)] at k
            refine J_p 2 (ls' := [_, _, _, _, _]) rfl ?_
            rw [nI_add kk 1]
            exact ih (kk + 1) (by omega) k
          · skip
            rw [oaS, if_pos ⟨b31, Or.inr b47⟩] at k
            refine J_p 1 (ls' := [_, _, _, _, _]) rfl ?_
            exact J_ret rfl rfl rfl k

theorem c_outAt (hS : RS M r) {q c n : Nat} {m : Int32} (hc : c < 10) (hq : q < 8) (hn : n ≤ 20) (h0 : g (3471 + 556 * q + 35) = nI n) (hcq : g (11 + 4 * c + 0) = nI q) (k : Q (some (.int (oI (oaS g q c m n 0)))) (wI M (r + 1) g)) : J E 201 0 [.ref r, .int (nI c), .int m, U0, U0] [] (wI M (r + 1) g) Q := by
  refine J_p 3 (ls' := [_, _, _, _, _]) rfl ?_
  refine J_call rfl rfl rfl (decide_eq_true hS.t) rfl (c_ofConsumer hS c 0 (by omega) hcq ?_)
  show J _ _ _ _ _ _ _
  refine J_p 3 (ls' := [_, _, _, _, _]) rfl ?_
  exact c_outAt_l (E := E) (Q := Q) (g := g) hS hq hn h0 n 0 (by omega) k

theorem c_who_e (hS : RS M r) {q n : Nat} (hq : q < 8) (hn : n ≤ 10) (h1 : g 1 = nI n) : ∀ (d kk : Nat), kk + d = n → Q (some (.int (oI (match fcS g q d kk with
    | none => none
    | some c => if 0 < g (11 + 4 * c + 1) then some c else none)))) (wI M (r + 1) g) → J E 196 13 [.ref r, .int (nI q), .int (nI kk), U0] [] (wI M (r + 1) g) Q := by
  intro d
  induction d with
  | zero =>
    intro kk hk k
    refine J_p 2 (ls' := [_, _, _, _]) rfl ?_
    refine J_getR rfl hS.t hS.f0 ?_
    refine J_p 1 (ls' := [_, _, _, _]) rfl ?_
    refine J_gld (n := 1) rfl (by repeat' (first | with_reducible rfl | assumption | with_reducible refine nI_decE ?_ | with_reducible refine nI_addE ?_ ?_ | with_reducible refine nI_mulE ?_ ?_ | with_reducible refine nI_subE ?_ ?_ ?_ | omega | (with_reducible refine congrArg nI ?_; omega))) hS (by omega) h1 ?_
    refine J_ige rfl (fun b20 => ?_) (fun b20 => ?_)
    · skip
      refine J_p 1 (ls' := [_, _, _, _]) rfl ?_
      exact J_ret rfl rfl rfl k
    · skip
      exact absurd (nI_le (a := n) (b := kk) (by omega) (by omega)) b20
  | succ d ih =>
    intro kk hk k
    refine J_p 2 (ls' := [_, _, _, _]) rfl ?_
    refine J_getR rfl hS.t hS.f0 ?_
    refine J_p 1 (ls' := [_, _, _, _]) rfl ?_
    refine J_gld (n := 1) rfl (by repeat' (first | with_reducible rfl | assumption | with_reducible refine nI_decE ?_ | with_reducible refine nI_addE ?_ ?_ | with_reducible refine nI_mulE ?_ ?_ | with_reducible refine nI_subE ?_ ?_ ?_ | omega | (with_reducible refine congrArg nI ?_; omega))) hS (by omega) h1 ?_
    refine J_ige rfl (fun b20 => ?_) (fun b20 => ?_)
    · skip
      exact absurd b20 (nI_ge (a := kk) (b := n) (by omega) (by omega))
    · skip
      refine J_p 2 (ls' := [_, _, _, _]) rfl ?_
      refine J_call rfl rfl rfl (decide_eq_true hS.t) rfl (c_isHere hS kk h1 hn (by omega) ?_)
      show J _ _ _ _ _ _ _
      refine J_zeq rfl (fun b28 => ?_) (fun b28 => ?_)
      · skip
        rw [fcS, if_neg (ijn1 (bI_z b28))] at k
        refine J_p 2 (ls' := [_, _, _, _]) rfl ?_
        rw [nI_add kk 1]
        exact ih (kk + 1) (by omega) k
      · skip
        refine J_p 3 (ls' := [_, _, _, _]) rfl ?_
        refine J_call rfl rfl rfl (decide_eq_true hS.t) rfl (c_ofConsumer hS kk 0 (by omega) rfl ?_)
        show J _ _ _ _ _ _ _
        refine J_p 1 (ls' := [_, _, _, _]) rfl ?_
        refine J_ine rfl (fun b38 => ?_) (fun b38 => ?_)
        · skip
          rw [fcS, if_neg (ijn2 b38)] at k
          refine J_p 2 (ls' := [_, _, _, _]) rfl ?_
          rw [nI_add kk 1]
          exact ih (kk + 1) (by omega) k
        · skip
          rw [fcS, if_pos (ij0 (bI_nz b28) b38)] at k
          refine J_p 3 (ls' := [_, _, _, _]) rfl ?_
          refine J_call rfl rfl rfl (decide_eq_true hS.t) rfl (c_ofConsumer hS kk 1 (by omega) rfl ?_)
          show J _ _ _ _ _ _ _
          refine J_zle rfl (fun b47 => ?_) (fun b47 => ?_)
          · skip
            simp only [if_neg (z0le b47)] at k
            refine J_p 1 (ls' := [_, _, _, _]) rfl ?_
            exact J_ret rfl rfl rfl k
          · skip
            simp only [if_pos (z0lt b47)] at k
            refine J_p 2 (ls' := [_, _, _, _]) rfl ?_
            exact J_ret rfl rfl rfl k

theorem c_who_r (hS : RS M r) {q n l1 : Nat} (hq : q < 8) (hn : n ≤ 10) (hl1 : l1 ≤ 10) (h1 : g 1 = nI n) (hl : g (3471 + 556 * q + 31) = nI l1 - nI 1) : ∀ (d kk : Nat), kk + d = n → ∀ x3 : Value, Q (some (.int (oI (rrS g q n l1 d kk)))) (wI M (r + 1) g) → J E 196 66 [.ref r, .int (nI q), .int (nI (kk + 1)), x3] [] (wI M (r + 1) g) Q := by
  intro d
  induction d with
  | zero =>
    intro kk hk x3 k
    refine J_p 2 (ls' := [_, _, _, _]) rfl ?_
    refine J_getR rfl hS.t hS.f0 ?_
    refine J_p 1 (ls' := [_, _, _, _]) rfl ?_
    refine J_gld (n := 1) rfl (by repeat' (first | with_reducible rfl | assumption | with_reducible refine nI_decE ?_ | with_reducible refine nI_addE ?_ ?_ | with_reducible refine nI_mulE ?_ ?_ | with_reducible refine nI_subE ?_ ?_ ?_ | omega | (with_reducible refine congrArg nI ?_; omega))) hS (by omega) h1 ?_
    refine J_igt rfl (fun b73 => ?_) (fun b73 => ?_)
    · skip
      refine J_p 1 (ls' := [_, _, _, _]) rfl ?_
      exact J_ret rfl rfl rfl k
    · skip
      exact absurd (show nI n < nI (kk + 1) from nI_lt (by omega) (by omega)) b73
  | succ d ih =>
    intro kk hk x3 k
    refine J_p 2 (ls' := [_, _, _, _]) rfl ?_
    refine J_getR rfl hS.t hS.f0 ?_
    refine J_p 1 (ls' := [_, _, _, _]) rfl ?_
    refine J_gld (n := 1) rfl (by repeat' (first | with_reducible rfl | assumption | with_reducible refine nI_decE ?_ | with_reducible refine nI_addE ?_ ?_ | with_reducible refine nI_mulE ?_ ?_ | with_reducible refine nI_subE ?_ ?_ ?_ | omega | (with_reducible refine congrArg nI ?_; omega))) hS (by omega) h1 ?_
    refine J_igt rfl (fun b73 => ?_) (fun b73 => ?_)
    · skip
      exact absurd b73 (nI_nlt (by omega) (by omega))
    · skip
      refine J_p 3 (ls' := [_, _, _, _]) rfl ?_
      refine J_call rfl rfl rfl (decide_eq_true hS.t) rfl (c_of hS q 31 (by omega) hl ?_)
      show J _ _ _ _ _ _ _
      refine J_p 2 (ls' := [_, _, _, _]) rfl ?_
      rw [pk1 l1 kk]
      refine J_p 1 (ls' := [_, _, _, _]) rfl ?_
      refine J_getR rfl hS.t hS.f0 ?_
      refine J_p 1 (ls' := [_, _, _, _]) rfl ?_
      refine J_gld (n := 1) rfl (by repeat' (first | with_reducible rfl | assumption | with_reducible refine nI_decE ?_ | with_reducible refine nI_addE ?_ ?_ | with_reducible refine nI_mulE ?_ ?_ | with_reducible refine nI_subE ?_ ?_ ?_ | omega | (with_reducible refine congrArg nI ?_; omega))) hS (by omega) h1 ?_
      refine J_rem rfl (fun h => absurd ((nI_eq (a := n) (b := 0) (by omega) (by omega)).mp h) (by omega)) ?_
      rw [pk_rem (show l1 + kk < 2 ^ 31 by omega) (show 0 < n by omega) (show n < 2 ^ 31 by omega)]
      refine J_p 3 (ls' := [_, _, _, _]) rfl ?_
      refine J_call rfl rfl rfl (decide_eq_true hS.t) rfl (c_isHere hS ((l1 + kk) % n) h1 hn (Nat.mod_lt _ (by omega)) ?_)
      show J _ _ _ _ _ _ _
      refine J_zeq rfl (fun b98 => ?_) (fun b98 => ?_)
      · skip
        rw [rrS, if_neg (fun h => ijn1 (bI_z b98) h.1)] at k
        refine J_p 2 (ls' := [_, _, _, _]) rfl ?_
        rw [nI_add (kk + 1) 1]
        exact ih (kk + 1) (by omega) _ k
      · skip
        refine J_p 3 (ls' := [_, _, _, _]) rfl ?_
        refine J_call rfl rfl rfl (decide_eq_true hS.t) rfl (c_ofConsumer hS ((l1 + kk) % n) 0 (by have := Nat.mod_lt (l1 + kk) (show n > 0 by omega); omega) rfl ?_)
        show J _ _ _ _ _ _ _
        refine J_p 1 (ls' := [_, _, _, _]) rfl ?_
        refine J_ine rfl (fun b108 => ?_) (fun b108 => ?_)
        · skip
          rw [rrS, if_neg (fun h => ijn2 b108 h.1)] at k
          refine J_p 2 (ls' := [_, _, _, _]) rfl ?_
          rw [nI_add (kk + 1) 1]
          exact ih (kk + 1) (by omega) _ k
        · skip
          refine J_p 3 (ls' := [_, _, _, _]) rfl ?_
          refine J_call rfl rfl rfl (decide_eq_true hS.t) rfl (c_ofConsumer hS ((l1 + kk) % n) 1 (by have := Nat.mod_lt (l1 + kk) (show n > 0 by omega); omega) rfl ?_)
          show J _ _ _ _ _ _ _
          refine J_zle rfl (fun b117 => ?_) (fun b117 => ?_)
          · skip
            rw [rrS, if_neg (fun h => z0le b117 h.2)] at k
            refine J_p 2 (ls' := [_, _, _, _]) rfl ?_
            rw [nI_add (kk + 1) 1]
            exact ih (kk + 1) (by omega) _ k
          · skip
            rw [rrS, if_pos ⟨ij0 (bI_nz b98) b108, z0lt b117⟩] at k
            refine J_p 1 (ls' := [_, _, _, _]) rfl ?_
            exact J_ret rfl rfl rfl k

theorem c_who (hS : RS M r) {q n l1 : Nat} (hq : q < 8) (hn : n ≤ 10) (hl1 : l1 ≤ 10) (h1 : g 1 = nI n) (hl : g (3471 + 556 * q + 31) = nI l1 - nI 1) (k : Q (some (.int (oI (whoS g q n l1)))) (wI M (r + 1) g)) : J E 196 0 [.ref r, .int (nI q), U0, U0] [] (wI M (r + 1) g) Q := by
  refine J_p 3 (ls' := [_, _, _, _]) rfl ?_
  refine J_call rfl rfl rfl (decide_eq_true hS.t) rfl (c_of hS q 30 (by omega) rfl ?_)
  show J _ _ _ _ _ _ _
  refine J_p 1 (ls' := [_, _, _, _]) rfl ?_
  refine J_ine rfl (fun b8 => ?_) (fun b8 => ?_)
  · skip
    simp only [whoS, if_neg b8] at k
    refine J_p 2 (ls' := [_, _, _, _]) rfl ?_
    exact c_who_r (E := E) (Q := Q) (g := g) hS hq hn hl1 h1 hl n 0 (by omega) _ k
  · skip
    simp only [whoS, if_pos b8] at k
    refine J_p 2 (ls' := [_, _, _, _]) rfl ?_
    exact c_who_e (E := E) (Q := Q) (g := g) hS hq hn h1 n 0 (by omega) k

end REF5