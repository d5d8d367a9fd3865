/-! THE REFERENCE: giving, acknowledging, refusing, time. -/
def gGive (g : Nat → Int32) (q i c : Nat) : Nat → Int32 :=
  upd (upd (upd (upd (upd (upd (upd g (3471 + 556 * q + 36 + 26 * i + 1) (nI 2)) (3471 + 556 * q + 36 + 26 * i + 3) (nI c)) (3471 + 556 * q + 36 + 26 * i + 4) (g 4 + g (3471 + 556 * q + 28))) (11 + 4 * c + 1) (g (11 + 4 * c + 1) - nI 1)) (11 + 4 * c + 3) (g (11 + 4 * c + 3) + nI 1)) (3471 + 556 * q + 31) (nI c)) (3471 + 556 * q + 32) (g (3471 + 556 * q + 32) + nI 1)
/-- a queue's next is given, if somebody gets it -/
def giveS (g : Nat → Int32) (q n nc l1 : Nat) : Option (Nat × Nat) := match nxO g q n with
  | none => none
  | some i => match whoS g q nc l1 with
    | none => none
    | some c => some (i, c)
section REF6
variable {E : Nat × Nat} {M : Mm} {r : Nat} {g : Nat → Int32} {Q : Option Value → Mm → Prop}
theorem c_gives_y (hS : RS M r) {q i c n : Nat} (hq : q < 8) (hn : n ≤ 20) (hi : i < n) (hc : c < 10) (k : Q (some (.int (g (3471 + 556 * q + 36 + 26 * i + 0)))) (wI M (r + 1) (gGive g q i c))) : J E 197 26 [.ref r, .int (nI q), .int (nI i), .int (nI c)] [] (wI M (r + 1) g) Q := by
  refine J_p 5 (ls' := [_, _, _, _]) rfl ?_
  refine J_call rfl rfl rfl (decide_eq_true hS.t) rfl (c_letterIs hS q i 1 _ (by omega) ?_)
  show J _ _ _ _ _ _ _
  refine J_p 5 (ls' := [_, _, _, _]) rfl ?_
  refine J_call rfl rfl rfl (decide_eq_true hS.t) rfl (c_letterIs hS q i 3 _ (by omega) ?_)
  show J _ _ _ _ _ _ _
  refine J_p 5 (ls' := [_, _, _, _]) rfl ?_
  refine J_getR rfl hS.t hS.f0 ?_
  refine J_p 1 (ls' := [_, _, _, _]) rfl ?_
  refine J_gld (n := 4) rfl (by repeat' (first | with_reducible rfl | assumption | with_reducible refine nI_decE ?_ | with_reducible refine nI_addE ?_ ?_ | with_reducible refine nI_mulE ?_ ?_ | with_reducible refine nI_subE ?_ ?_ ?_ | omega | (with_reducible refine congrArg nI ?_; omega))) hS (by omega) (show _ = g 4 by simp only [upd]; repeat rw [if_neg (by omega)]) ?_
  refine J_p 3 (ls' := [_, _, _, _]) rfl ?_
  refine J_call rfl rfl rfl (decide_eq_true hS.t) rfl (c_of hS q 28 (z := g (3471 + 556 * q + 28)) (by omega) (by simp only [upd]; repeat rw [if_neg (by omega)]) ?_)
  show J _ _ _ _ _ _ _
  refine J_p 1 (ls' := [_, _, _, _]) rfl ?_
  refine J_call rfl rfl rfl (decide_eq_true hS.t) rfl (c_letterIs hS q i 4 _ (by omega) ?_)
  show J _ _ _ _ _ _ _
  refine J_p 1 (ls' := [_, _, _, _]) rfl ?_
  refine J_getR rfl hS.t hS.f0 ?_
  refine J_p 8 (ls' := [_, _, _, _]) rfl ?_
  refine J_gld (n := 11 + 4 * c + 1) rfl (by repeat' (first | with_reducible rfl | assumption | with_reducible refine nI_decE ?_ | with_reducible refine nI_addE ?_ ?_ | with_reducible refine nI_mulE ?_ ?_ | with_reducible refine nI_subE ?_ ?_ ?_ | omega | (with_reducible refine congrArg nI ?_; omega))) hS (by omega) (show _ = g (11 + 4 * c + 1) by simp only [upd]; repeat rw [if_neg (by omega)]) ?_
  refine J_p 2 (ls' := [_, _, _, _]) rfl ?_
  refine J_gst (n := 11 + 4 * c + 1) rfl (by repeat' (first | with_reducible rfl | assumption | with_reducible refine nI_decE ?_ | with_reducible refine nI_addE ?_ ?_ | with_reducible refine nI_mulE ?_ ?_ | with_reducible refine nI_subE ?_ ?_ ?_ | omega | (with_reducible refine congrArg nI ?_; omega))) hS (by omega) ?_
  refine J_p 1 (ls' := [_, _, _, _]) rfl ?_
  refine J_getR rfl hS.t hS.f0 ?_
  refine J_p 8 (ls' := [_, _, _, _]) rfl ?_
  refine J_gld (n := 11 + 4 * c + 3) rfl (by repeat' (first | with_reducible rfl | assumption | with_reducible refine nI_decE ?_ | with_reducible refine nI_addE ?_ ?_ | with_reducible refine nI_mulE ?_ ?_ | with_reducible refine nI_subE ?_ ?_ ?_ | omega | (with_reducible refine congrArg nI ?_; omega))) hS (by omega) (show _ = g (11 + 4 * c + 3) by simp only [upd]; repeat rw [if_neg (by omega)]) ?_
  refine J_p 2 (ls' := [_, _, _, _]) rfl ?_
  refine J_gst (n := 11 + 4 * c + 3) rfl (by repeat' (first | with_reducible rfl | assumption | with_reducible refine nI_decE ?_ | with_reducible refine nI_addE ?_ ?_ | with_reducible refine nI_mulE ?_ ?_ | with_reducible refine nI_subE ?_ ?_ ?_ | omega | (with_reducible refine congrArg nI ?_; omega))) hS (by omega) ?_
  refine J_p 4 (ls' := [_, _, _, _]) rfl ?_
  refine J_call rfl rfl rfl (decide_eq_true hS.t) rfl (c_is hS q 31 _ (by omega) ?_)
  show J _ _ _ _ _ _ _
  refine J_p 6 (ls' := [_, _, _, _]) rfl ?_
  refine J_call rfl rfl rfl (decide_eq_true hS.t) rfl (c_of hS q 32 (z := g (3471 + 556 * q + 32)) (by omega) (by simp only [upd]; repeat rw [if_neg (by omega)]) ?_)
  show J _ _ _ _ _ _ _
  refine J_p 2 (ls' := [_, _, _, _]) rfl ?_
  refine J_call rfl rfl rfl (decide_eq_true hS.t) rfl (c_is hS q 32 _ (by omega) ?_)
  show J _ _ _ _ _ _ _
  refine J_p 4 (ls' := [_, _, _, _]) rfl ?_
  refine J_call rfl rfl rfl (decide_eq_true hS.t) rfl (c_letterOf hS q i 0 (z := g (3471 + 556 * q + 36 + 26 * i + 0)) (by omega) (by simp only [upd]; repeat rw [if_neg (by omega)]) ?_)
  show J _ _ _ _ _ _ _
  exact J_ret rfl rfl rfl k

theorem c_gives (hS : RS M r) {q n nc l1 : Nat} (hq : q < 8) (hn : n ≤ 20) (hm : LM g q n) (h0 : g (3471 + 556 * q + 35) = nI n) (hc : nc ≤ 10) (hl1 : l1 ≤ 10) (h1 : g 1 = nI nc) (hl : g (3471 + 556 * q + 31) = nI l1 - nI 1) (k1 : giveS g q n nc l1 = none → Q (some (.int (-1))) (wI M (r + 1) g)) (k2 : ∀ i c, giveS g q n nc l1 = some (i, c) → Q (some (.int (g (3471 + 556 * q + 36 + 26 * i + 0)))) (wI M (r + 1) (gGive g q i c))) : J E 197 0 [.ref r, .int (nI q), U0, U0] [] (wI M (r + 1) g) Q := by
  refine J_p 2 (ls' := [_, _, _, _]) rfl ?_
  refine J_call rfl rfl rfl (decide_eq_true hS.t) rfl (c_nextOf hS hq hn hm h0 ?_)
  show J _ _ _ _ _ _ _
  refine J_p 2 (ls' := [_, _, _, _]) rfl ?_
  refine J_zge rfl (fun b7 => ?_) (fun b7 => ?_)
  · skip
    obtain ⟨i, hi⟩ : ∃ i, nxO g q n = some i := by
      cases hz : nxO g q n with
      | none => rw [hz] at b7; exact absurd b7 (by decide)
      | some i => exact ⟨i, rfl⟩
    have hin := (nxO_lt g q n i hi).1
    rw [hi]
    rw [show oI (some i) = nI i from rfl]
    refine J_p 2 (ls' := [_, _, _, _]) rfl ?_
    refine J_call rfl rfl rfl (decide_eq_true hS.t) rfl (c_who hS hq hc hl1 h1 hl ?_)
    show J _ _ _ _ _ _ _
    refine J_p 2 (ls' := [_, _, _, _]) rfl ?_
    refine J_zge rfl (fun b21 => ?_) (fun b21 => ?_)
    · skip
      obtain ⟨c, hcw⟩ : ∃ c, whoS g q nc l1 = some c := by
        cases hz : whoS g q nc l1 with
        | none => rw [hz] at b21; exact absurd b21 (by decide)
        | some c => exact ⟨c, rfl⟩
      have hcl : c < 10 := by have := whoS_lt hcw; omega
      rw [hcw]
      rw [show oI (some c) = nI c from rfl]
      have k := k2 i c (by simp only [giveS, hi, hcw])
      exact c_gives_y hS hq hn hin hcl k
    · skip
      have hz : whoS g q nc l1 = none := by
        cases hz : whoS g q nc l1 with
        | none => rfl
        | some c => rw [hz] at b21; exact absurd (nI_pos' (by have := whoS_lt hz; omega)) b21
      have k := k1 (by simp only [giveS, hi, hz])
      refine J_p 1 (ls' := [_, _, _, _]) rfl ?_
      exact J_ret rfl rfl rfl k
  · skip
    have hz : nxO g q n = none := by
      cases hz : nxO g q n with
      | none => rfl
      | some i => rw [hz] at b7; exact absurd (nI_pos' (by have := (nxO_lt g q n i hz).1; omega)) b7
    have k := k1 (by simp only [giveS, hz])
    refine J_p 4 (ls' := [_, _, _, _]) rfl ?_
    refine J_zge rfl (fun b21 => ?_) (fun b21 => ?_)
    · skip
      exact absurd b21 (by decide)
    · skip
      refine J_p 1 (ls' := [_, _, _, _]) rfl ?_
      exact J_ret rfl rfl rfl k

def gAck (g : Nat → Int32) (q i n c : Nat) : Nat → Int32 := upd (upd (gGo g q i n) (11 + 4 * c + 1) (cMore (g (11 + 4 * c + 1)))) (3471 + 556 * q + 33) (g (3471 + 556 * q + 33) + nI 1)
theorem gGo_lo {g : Nat → Int32} {q i n z : Nat} (h1 : z ≠ 3471 + 556 * q + 35) (h2 : z < 3471 + 556 * q + 36) : gGo g q i n z = g z := by
  unfold gGo
  rw [if_neg h1, if_neg (by omega)]

theorem c_acks (hS : RS M r) {q i n c : Nat} (hc : c < 10) (hq : q < 8) (hn : n < 20) (hi : i ≤ n) (h0 : g (3471 + 556 * q + 35) = nI (n + 1)) (hcq : g (11 + 4 * c + 0) = nI q) (k : Q none (wI M (r + 1) (gAck g q i n c))) : J E 202 0 [.ref r, .int (nI c), .int (nI i), U0] [] (wI M (r + 1) g) Q := by
  refine J_p 3 (ls' := [_, _, _, _]) rfl ?_
  refine J_call rfl rfl rfl (decide_eq_true hS.t) rfl (c_ofConsumer hS c 0 (by omega) hcq ?_)
  show J _ _ _ _ _ _ _
  refine J_p 4 (ls' := [_, _, _, _]) rfl ?_
  refine J_call rfl rfl rfl (decide_eq_true hS.t) rfl (c_goes hS hq hn hi h0 ?_)
  show J _ _ _ _ _ _ _
  refine J_p 2 (ls' := [_, _, _, _]) rfl ?_
  refine J_call rfl rfl rfl (decide_eq_true hS.t) rfl (c_credits hS hc ?_)
  rw [gGo_lo (by omega) (by omega)]
  show J _ _ _ _ _ _ _
  refine J_p 6 (ls' := [_, _, _, _]) rfl ?_
  refine J_call rfl rfl rfl (decide_eq_true hS.t) rfl (c_of hS q 33 (z := g (3471 + 556 * q + 33)) (by omega) (by simp only [upd]; rw [if_neg (by omega)]; exact gGo_lo (by omega) (by omega)) ?_)
  show J _ _ _ _ _ _ _
  refine J_p 2 (ls' := [_, _, _, _]) rfl ?_
  refine J_call rfl rfl rfl (decide_eq_true hS.t) rfl (c_is hS q 33 _ (by omega) ?_)
  show J _ _ _ _ _ _ _
  exact J_ret rfl rfl rfl k

end REF6