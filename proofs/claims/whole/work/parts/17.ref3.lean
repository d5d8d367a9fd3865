/-! THE REFERENCE: which letters may go, who gets them. -/
/-- the message's number, its key, its priority, the time when it was published, of letter i of queue q -/
def msgN (g : Nat → Int32) (q i : Nat) : Nat := (g (3471 + 556 * q + 36 + 26 * i + 0)).toNatClampNeg
def kyS (g : Nat → Int32) (q i : Nat) : Int32 := g (51 + 9 * msgN g q i + 5)
def prS (g : Nat → Int32) (q i : Nat) : Int32 := g (51 + 9 * msgN g q i + 6)
def pbS (g : Nat → Int32) (q i : Nat) : Int32 := g (51 + 9 * msgN g q i + 8)
/-- the first n letters of queue q have messages -/
def LM (g : Nat → Int32) (q n : Nat) : Prop := ∀ i, i < n → msgN g q i < 300 ∧ g (3471 + 556 * q + 36 + 26 * i + 0) = nI (msgN g q i)
def mayB (g : Nat → Int32) (q i : Nat) : Bool := decide (g (3471 + 556 * q + 36 + 26 * i + 1) = 0) && (List.range i).all (fun k => decide (kyS g q k ≠ kyS g q i))
theorem mayB_iff (g : Nat → Int32) (q i : Nat) : mayB g q i = true ↔ g (3471 + 556 * q + 36 + 26 * i + 1) = 0 ∧ ∀ k, k < i → kyS g q k ≠ kyS g q i := by
  simp [mayB]
def oI (o : Option Nat) : Int32 := match o with
  | none => -1
  | some i => nI i
/-- the place of the next letter among the first i -/
def nxO (g : Nat → Int32) (q : Nat) : Nat → Option Nat
  | 0 => none
  | i + 1 => if mayB g q i = true then (match nxO g q i with
    | none => some i
    | some b => if prS g q b < prS g q i then some i else some b) else nxO g q i
theorem nxO_lt (g : Nat → Int32) (q : Nat) : ∀ (n b : Nat), nxO g q n = some b → b < n ∧ mayB g q b = true
  | 0, b, h => by cases h
  | n + 1, b, h => by
    unfold nxO at h
    split at h
    · rename_i hm
      split at h
      · cases h; exact ⟨Nat.lt_succ_self _, hm⟩
      · rename_i b' hb
        split at h
        · cases h; exact ⟨Nat.lt_succ_self _, hm⟩
        · cases h
          have := nxO_lt g q n _ hb
          exact ⟨Nat.lt_succ_of_lt this.1, this.2⟩
    · have := nxO_lt g q n b h
      exact ⟨Nat.lt_succ_of_lt this.1, this.2⟩
section REF3
variable {E : Nat × Nat} {M : Mm} {r : Nat} {g : Nat → Int32} {Q : Option Value → Mm → Prop}
theorem c_key (hS : RS M r) {q i n : Nat} (hq : q < 8) (hn : n ≤ 20) (hi : i < n) (hm : LM g q n) (k : Q (some (.int (kyS g q i))) (wI M (r + 1) g)) : J E 171 0 [.ref r, .int (nI q), .int (nI i)] [] (wI M (r + 1) g) Q :=
  c_keyOf hS q i (msgN g q i) hq (by omega) (hm i hi).1 (hm i hi).2 rfl k
theorem oI_lt {o : Option Nat} (h : ∀ b, o = some b → b < 2 ^ 31) : (oI o < 0) ↔ o = none := by
  cases o with
  | none => exact ⟨fun _ => rfl, fun _ => by decide⟩
  | some b => exact ⟨fun q => absurd q (nI_pos (h b rfl)), fun q => by cases q⟩

theorem c_may_l (hS : RS M r) {q i n : Nat} (hq : q < 8) (hn : n ≤ 20) (hi : i < n) (hm : LM g q n) (hr : g (3471 + 556 * q + 36 + 26 * i + 1) = 0) : ∀ (d kk : Nat), kk + d = i → (∀ k, k < kk → kyS g q k ≠ kyS g q i) → Q (some (.int (bI (mayB g q i = true)))) (wI M (r + 1) g) → J E 194 14 [.ref r, .int (nI q), .int (nI i), .int (nI kk)] [] (wI M (r + 1) g) Q := by
  intro d
  induction d with
  | zero =>
    intro kk hk hkk k
    refine J_p 2 (ls' := [_, _, _, _]) rfl ?_
    refine J_ige rfl (fun b16 => ?_) (fun b16 => ?_)
    · skip
      refine J_p 1 (ls' := [_, _, _, _]) rfl ?_
      rw [bI_t ((mayB_iff g q i).mpr ⟨hr, fun k hk => hkk k (by omega)⟩)] at k
      exact J_retB rfl (by decide) k
    · skip
      exact absurd (nI_le (a := i) (b := kk) (by omega) (by omega)) b16
  | succ d ih =>
    intro kk hk hkk k
    refine J_p 2 (ls' := [_, _, _, _]) rfl ?_
    refine J_ige rfl (fun b16 => ?_) (fun b16 => ?_)
    · skip
      exact absurd b16 (nI_ge (a := kk) (b := i) (by omega) (by omega))
    · skip
      refine J_p 3 (ls' := [_, _, _, _]) rfl ?_
      refine J_call rfl rfl rfl (decide_eq_true hS.t) rfl (c_key hS hq hn (i := kk) (by omega) hm ?_)
      show J _ _ _ _ _ _ _
      refine J_p 3 (ls' := [_, _, _, _]) rfl ?_
      refine J_call rfl rfl rfl (decide_eq_true hS.t) rfl (c_key hS hq hn hi hm ?_)
      show J _ _ _ _ _ _ _
      refine J_ine rfl (fun b31 => ?_) (fun b31 => ?_)
      · skip
        refine J_p 2 (ls' := [_, _, _, _]) rfl ?_
        rw [nI_add kk 1]
        refine ih (kk + 1) (by omega) (fun j hj => ?_) k
        by_cases h : j = kk
        · rw [h]; exact b31
        · exact hkk j (by omega)
      · skip
        refine J_p 1 (ls' := [_, _, _, _]) rfl ?_
        rw [bI_f (fun h => ((mayB_iff g q i).mp h).2 kk (by omega) b31)] at k
        exact J_retB rfl (by decide) k

theorem c_may (hS : RS M r) {q i n : Nat} (hq : q < 8) (hn : n ≤ 20) (hi : i < n) (hm : LM g q n) (k : Q (some (.int (bI (mayB g q i = true)))) (wI M (r + 1) g)) : J E 194 0 [.ref r, .int (nI q), .int (nI i), U0] [] (wI M (r + 1) g) Q := by
  refine J_p 4 (ls' := [_, _, _, _]) rfl ?_
  refine J_call rfl rfl rfl (decide_eq_true hS.t) rfl (c_letterOf hS q i 1 (by omega) rfl ?_)
  show J _ _ _ _ _ _ _
  refine J_zeq rfl (fun b7 => ?_) (fun b7 => ?_)
  · skip
    refine J_p 2 (ls' := [_, _, _, _]) rfl ?_
    exact c_may_l (E := E) (Q := Q) (g := g) hS hq hn hi hm b7 i 0 (by omega) (fun k hk => absurd hk (by omega)) k
  · skip
    refine J_p 1 (ls' := [_, _, _, _]) rfl ?_
    rw [bI_f (fun h => b7 ((mayB_iff g q i).mp h).1)] at k
    exact J_retB rfl (by decide) k

theorem c_nextOf_l (hS : RS M r) {q n : Nat} (hq : q < 8) (hn : n ≤ 20) (hm : LM g q n) (h0 : g (3471 + 556 * q + 35) = nI n) : ∀ (d kk : Nat), kk + d = n → Q (some (.int (oI (nxO g q n)))) (wI M (r + 1) g) → J E 195 4 [.ref r, .int (nI q), .int (oI (nxO g q kk)), .int (nI kk)] [] (wI M (r + 1) g) Q := by
  intro d
  induction d with
  | zero =>
    intro kk hk k
    refine J_p 4 (ls' := [_, _, _, _]) rfl ?_
    refine J_call rfl rfl rfl (decide_eq_true hS.t) rfl (c_of hS q 35 (by omega) h0 ?_)
    show J _ _ _ _ _ _ _
    refine J_ige rfl (fun b12 => ?_) (fun b12 => ?_)
    · skip
      refine J_p 1 (ls' := [_, _, _, _]) rfl ?_
      have e : kk = n := by omega
      subst e
      exact J_ret rfl rfl rfl k
    · skip
      exact absurd (nI_le (a := n) (b := kk) (by omega) (by omega)) b12
  | succ d ih =>
    intro kk hk k
    have hlt : ∀ b, nxO g q kk = some b → b < kk := fun b hb => (nxO_lt g q kk b hb).1
    refine J_p 4 (ls' := [_, _, _, _]) rfl ?_
    refine J_call rfl rfl rfl (decide_eq_true hS.t) rfl (c_of hS q 35 (by omega) h0 ?_)
    show J _ _ _ _ _ _ _
    refine J_ige rfl (fun b12 => ?_) (fun b12 => ?_)
    · skip
      exact absurd b12 (nI_ge (a := kk) (b := n) (by omega) (by omega))
    · skip
      refine J_p 3 (ls' := [_, _, _, _]) rfl ?_
      refine J_call rfl rfl rfl (decide_eq_true hS.t) rfl (c_may hS hq hn (i := kk) (by omega) hm ?_)
      show J _ _ _ _ _ _ _
      refine J_zeq rfl (fun b21 => ?_) (fun b21 => ?_)
      · skip
        have hf : nxO g q (kk + 1) = nxO g q kk := by rw [nxO, if_neg (bI_z b21)]
        refine J_p 2 (ls' := [_, _, _, _]) rfl ?_
        rw [nI_add kk 1]
        refine J_L (ls' := [.ref r, .int (nI q), .int (oI (nxO g q (kk + 1))), .int (nI (kk + 1))]) ?_ (ih (kk + 1) (by omega) k)
        first | (rw [hf]; done) | (rw [hf]; rfl)
      · skip
        have hmay := bI_nz b21
        refine J_p 1 (ls' := [_, _, _, _]) rfl ?_
        refine J_zlt rfl (fun b25 => ?_) (fun b25 => ?_)
        · skip
          have hz := (oI_lt (fun b hb => by have := hlt b hb; omega)).mp b25
          have hf : oI (nxO g q (kk + 1)) = nI kk := by rw [nxO, if_pos hmay, hz]; rfl
          refine J_p 4 (ls' := [_, _, _, _]) rfl ?_
          rw [nI_add kk 1]
          refine J_L (ls' := [.ref r, .int (nI q), .int (oI (nxO g q (kk + 1))), .int (nI (kk + 1))]) ?_ (ih (kk + 1) (by omega) k)
          first | (rw [hf]; done) | (rw [hf]; rfl)
        · skip
          obtain ⟨bb, hbb⟩ : ∃ bb, nxO g q kk = some bb := by
            cases hz : nxO g q kk with
            | none => exact absurd ((oI_lt (fun b hb => by have := hlt b hb; omega)).mpr hz) b25
            | some bb => exact ⟨bb, rfl⟩
          have hbk := hlt bb hbb
          rw [hbb]
          rw [show oI (some bb) = nI bb from rfl]
          refine J_p 5 (ls' := [_, _, _, _]) rfl ?_
          refine J_call rfl rfl rfl (decide_eq_true hS.t) rfl (c_letterOf hS q kk 0 (by omega) (hm kk (by omega)).2 ?_)
          show J _ _ _ _ _ _ _
          refine J_p 1 (ls' := [_, _, _, _]) rfl ?_
          refine J_call rfl rfl rfl (decide_eq_true hS.t) rfl (c_message hS (msgN g q kk) 6 (by have := (hm kk (by omega)).1; omega) rfl ?_)
          show J _ _ _ _ _ _ _
          refine J_p 5 (ls' := [_, _, _, _]) rfl ?_
          refine J_call rfl rfl rfl (decide_eq_true hS.t) rfl (c_letterOf hS q bb 0 (by omega) (hm bb (by omega)).2 ?_)
          show J _ _ _ _ _ _ _
          refine J_p 1 (ls' := [_, _, _, _]) rfl ?_
          refine J_call rfl rfl rfl (decide_eq_true hS.t) rfl (c_message hS (msgN g q bb) 6 (by have := (hm bb (by omega)).1; omega) rfl ?_)
          show J _ _ _ _ _ _ _
          refine J_ile rfl (fun b54 => ?_) (fun b54 => ?_)
          · skip
            have hf : nxO g q (kk + 1) = some bb := by
              rw [nxO, if_pos hmay, hbb]
              exact if_neg (fun h => by have h1 : prS g q kk ≤ prS g q bb := b54; rw [Int32.le_iff_toInt_le] at h1; rw [Int32.lt_iff_toInt_lt] at h; omega)
            refine J_p 2 (ls' := [_, _, _, _]) rfl ?_
            rw [nI_add kk 1]
            refine J_L (ls' := [.ref r, .int (nI q), .int (oI (nxO g q (kk + 1))), .int (nI (kk + 1))]) ?_ (ih (kk + 1) (by omega) k)
            first | (rw [hf]; done) | (rw [hf]; rfl)
          · skip
            have hf : oI (nxO g q (kk + 1)) = nI kk := by
              rw [nxO, if_pos hmay, hbb]
              have h2 : prS g q bb < prS g q kk := by have h1 : ¬ prS g q kk ≤ prS g q bb := b54; rw [Int32.le_iff_toInt_le] at h1; rw [Int32.lt_iff_toInt_lt]; omega
              show oI (if _ then _ else _) = _
              rw [if_pos h2]; rfl
            refine J_p 4 (ls' := [_, _, _, _]) rfl ?_
            rw [nI_add kk 1]
            refine J_L (ls' := [.ref r, .int (nI q), .int (oI (nxO g q (kk + 1))), .int (nI (kk + 1))]) ?_ (ih (kk + 1) (by omega) k)
            first | (rw [hf]; done) | (rw [hf]; rfl)

theorem c_nextOf (hS : RS M r) {q n : Nat} (hq : q < 8) (hn : n ≤ 20) (hm : LM g q n) (h0 : g (3471 + 556 * q + 35) = nI n) (k : Q (some (.int (oI (nxO g q n)))) (wI M (r + 1) g)) : J E 195 0 [.ref r, .int (nI q), U0, U0] [] (wI M (r + 1) g) Q := by
  refine J_p 4 (ls' := [_, _, _, _]) rfl ?_
  exact c_nextOf_l (E := E) (Q := Q) (g := g) hS hq hn hm h0 n 0 (by omega) k

theorem c_isConsumer (hS : RS M r) (c : Int32) {n : Nat} (h0 : g 1 = nI n) (hn : n < 2 ^ 31) (k : Q (some (.int (bI (0 ≤ c.toInt ∧ c.toInt < (n : Int))))) (wI M (r + 1) g)) : J E 166 0 [.ref r, .int c] [] (wI M (r + 1) g) Q := by
  refine J_p 4 (ls' := [_, _]) rfl ?_
  refine J_getR rfl hS.t hS.f0 ?_
  refine J_p 1 (ls' := [_, _]) rfl ?_
  refine J_gld (n := 1) rfl (by repeat' (first | with_reducible rfl | assumption | with_reducible refine nI_decE ?_ | with_reducible refine nI_addE ?_ ?_ | with_reducible refine nI_mulE ?_ ?_ | with_reducible refine nI_subE ?_ ?_ ?_ | omega | (with_reducible refine congrArg nI ?_; omega))) hS (by omega) h0 ?_
  refine J_p 3 (ls' := [_, _]) rfl ?_
  refine J_call rfl rfl rfl rfl rfl (c_in _ _ _ ?_)
  show J _ _ _ _ _ _ _
  rw [bI_iff (inq_iff hn)]
  exact J_retB rfl bI_01 k

theorem c_isHere_n (hS : RS M r) (c : Int32) {n : Nat} (h0 : g 1 = nI n) (hn : n ≤ 10) (hc : ¬ (0 ≤ c.toInt ∧ c.toInt < (n : Int))) (k : Q (some (.int (nI 0))) (wI M (r + 1) g)) : J E 167 0 [.ref r, .int c] [] (wI M (r + 1) g) Q := by
  refine J_p 2 (ls' := [_, _]) rfl ?_
  refine J_call rfl rfl rfl (decide_eq_true hS.t) rfl (c_isConsumer hS c h0 (by omega) ?_)
  show J _ _ _ _ _ _ _
  refine J_zeq rfl (fun b5 => ?_) (fun b5 => ?_)
  · skip
    refine J_p 1 (ls' := [_, _]) rfl ?_
    exact J_retB rfl (by decide) k
  · skip
    exact absurd (bI_nz b5) hc

theorem c_isHere (hS : RS M r) (c : Nat) {n : Nat} (h0 : g 1 = nI n) (hn : n ≤ 10) (hc : c < n) (k : Q (some (.int (bI (g (11 + 4 * c + 2) = 0)))) (wI M (r + 1) g)) : J E 167 0 [.ref r, .int (nI c)] [] (wI M (r + 1) g) Q := by
  refine J_p 2 (ls' := [_, _]) rfl ?_
  refine J_call rfl rfl rfl (decide_eq_true hS.t) rfl (c_isConsumer hS (nI c) h0 (by omega) ?_)
  show J _ _ _ _ _ _ _
  refine J_zeq rfl (fun b5 => ?_) (fun b5 => ?_)
  · skip
    exact absurd (by rw [nI_toInt (by omega)]; omega) (bI_z b5)
  · skip
    refine J_p 3 (ls' := [_, _]) rfl ?_
    refine J_call rfl rfl rfl (decide_eq_true hS.t) rfl (c_ofConsumer hS c 2 (by omega) rfl ?_)
    show J _ _ _ _ _ _ _
    refine J_zne rfl (fun b14 => ?_) (fun b14 => ?_)
    · skip
      rw [bI_f b14] at k
      refine J_p 1 (ls' := [_, _]) rfl ?_
      exact J_retB rfl (by decide) k
    · skip
      rw [bI_t b14] at k
      refine J_p 2 (ls' := [_, _]) rfl ?_
      exact J_retB rfl (by decide) k

end REF3