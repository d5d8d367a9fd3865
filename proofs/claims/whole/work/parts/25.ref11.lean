/-! THE REFERENCE: refusals, what fits, what covers, a pattern's signs. -/
/-- memory: another row's slot, with g held apart -/
theorem sI_wo (M : Mm) {r b : Nat} (k : Nat) (g : Nat → Int32) (z : Int32) (h : b ≠ r + 1) : sI (wI M (r + 1) g) b k z = wI (sI M b k z) (r + 1) g := by
  rw [sI_wI, sI_wI, mI_oth _ _ h, wI_com _ _ _ (fun e => h e.symm)]
/-- the refusals' row counts one more at w -/
def rfM (M : Mm) (r w : Nat) : Mm := sI M (r + 4) w (mI M (r + 4) w + nI 1)
theorem rfM_RS {M : Mm} {r w : Nat} (h : RS M r) : RS (rfM M r w) r := h
def fitD (g : Nat → Int32) (q p t : Nat) : Prop := lgS g q p t ∧ ∀ k, k < t → (ptS g q p k = -2 ∨ ptS g q p k = g (7 + k))
section REF9
variable {E : Nat × Nat} {M : Mm} {r : Nat} {g : Nat → Int32} {Q : Option Value → Mm → Prop}
variable {mi pc nx tg x y : Nat} {v : Value} {ls rr : List Value}
theorem J_oget {idx a : Nat} {kk z : Int32} (hq : tb mi pc = some (.getfield idx, nx, tg, x, y, .int kk)) (ht : mT M a = x) (hz : a ≠ r + 1 ∧ mI M a y = z) (k : J E mi nx ls (.int z :: rr) (wI M (r + 1) g) Q) : J E mi pc ls (.ref a :: rr) (wI M (r + 1) g) Q := by
  refine J_getI hq ht ?_
  rw [mI_oth _ _ hz.1, hz.2]
  exact k
theorem J_oput {idx : Nat} {z kk : Int32} (hq : tb mi pc = some (.putfield idx, nx, tg, x, y, .int kk)) (ht : mT M r = x) (hz : kk = 0 ∨ z = 0 ∨ z = 1) (k : J E mi nx ls rr (wI (sI M r y z) (r + 1) g) Q) : J E mi pc ls (.int z :: .ref r :: rr) (wI M (r + 1) g) Q := by
  refine J_putI hq ht hz ?_
  rw [sI_wo _ _ _ _ (by omega)]
  exact k
theorem J_ost {n L b : Nat} {j z : Int32} (hq : tb mi pc = some (.iastore, nx, tg, x, y, v)) (hj : j = nI n) (hb : b ≠ r + 1) (ht : mT M b = 20) (hL : mS M b = L) (hn : n < L) (hL2 : L < 2 ^ 31) (k : J E mi nx ls rr (wI (sI M b n z) (r + 1) g) Q) : J E mi pc ls (.int z :: .int j :: .ref b :: rr) (wI M (r + 1) g) Q := by
  refine J_iast hq hj ht hL hn hL2 ?_
  rw [sI_wo _ _ _ _ hb]
  exact k

theorem c_refused (hS : RS M r) (w : Nat) {x : Int32} (hw : w < 5) (hx : -x - nI 82 = nI w) (k : Q (some (.int x)) (wI (rfM M r w) (r + 1) g)) : J E 160 0 [.ref r, .int x] [] (wI M (r + 1) g) Q := by
  refine J_p 1 (ls' := [_, _]) rfl ?_
  refine J_getR rfl hS.t hS.f4 ?_
  refine J_p 4 (ls' := [_, _]) rfl ?_
  refine J_n0 (n := w) hx ?_
  refine J_p 1 (ls' := [_, _]) rfl ?_
  refine J_old (n := w) rfl rfl (by omega) hS.t4 hS.l4 (by omega) (by omega) rfl ?_
  refine J_p 2 (ls' := [_, _]) rfl ?_
  refine J_ost (n := w) rfl rfl (by omega) hS.t4 hS.l4 (by omega) (by omega) ?_
  refine J_p 1 (ls' := [_, _]) rfl ?_
  exact J_ret rfl rfl rfl k

theorem c_isFit_l (hS : RS M r) {q p : Nat} (hq : q < 8) (h1p : 1 ≤ p) (hp : p ≤ 4) (h0 : g (3471 + 556 * q + 0) = nI p) {t : Nat} (ht : t ≤ 4) (h6 : g 6 = nI t) : ∀ (d kk : Nat), kk + d = t → ((∀ k, kk ≤ k → k < t → (ptS g q p k = -2 ∨ ptS g q p k = g (7 + k))) → Q (some (.int (nI 1))) (wI M (r + 1) g)) → (¬ (∀ k, kk ≤ k → k < t → (ptS g q p k = -2 ∨ ptS g q p k = g (7 + k))) → Q (some (.int (nI 0))) (wI M (r + 1) g)) → J E 181 19 [.ref r, .int (nI q), .int (nI kk)] [] (wI M (r + 1) g) Q := by
  intro d
  induction d with
  | zero =>
    intro kk hk k1 k2
    refine J_p 2 (ls' := [_, _, _]) rfl ?_
    refine J_getR rfl hS.t hS.f0 ?_
    refine J_p 1 (ls' := [_, _, _]) rfl ?_
    refine J_gld (n := 6) rfl (by repeat' (first | with_reducible rfl | assumption | with_reducible refine nI_decE ?_ | with_reducible refine nI_addE ?_ ?_ | with_reducible refine nI_mulE ?_ ?_ | with_reducible refine nI_subE ?_ ?_ ?_ | omega | (with_reducible refine congrArg nI ?_; omega))) hS (by omega) h6 ?_
    refine J_ige rfl (fun b27 => ?_) (fun b27 => ?_)
    · skip
      refine J_p 1 (ls' := [_, _, _]) rfl ?_
      exact J_retB rfl (by decide) (k1 (fun k h1 h2 => absurd h2 (by omega)))
    · skip
      exact absurd (nI_le (a := t) (b := kk) (by omega) (by omega)) b27
  | succ d ih =>
    intro kk hk k1 k2
    refine J_p 2 (ls' := [_, _, _]) rfl ?_
    refine J_getR rfl hS.t hS.f0 ?_
    refine J_p 1 (ls' := [_, _, _]) rfl ?_
    refine J_gld (n := 6) rfl (by repeat' (first | with_reducible rfl | assumption | with_reducible refine nI_decE ?_ | with_reducible refine nI_addE ?_ ?_ | with_reducible refine nI_mulE ?_ ?_ | with_reducible refine nI_subE ?_ ?_ ?_ | omega | (with_reducible refine congrArg nI ?_; omega))) hS (by omega) h6 ?_
    refine J_ige rfl (fun b27 => ?_) (fun b27 => ?_)
    · skip
      exact absurd b27 (nI_ge (a := kk) (b := t) (by omega) (by omega))
    · skip
      refine J_p 3 (ls' := [_, _, _]) rfl ?_
      refine J_call rfl rfl rfl (decide_eq_true hS.t) rfl (c_partOf hS hq h1p hp h0 (s := kk) (by omega) ?_)
      show J _ _ _ _ _ _ _
      refine J_p 1 (ls' := [_, _, _]) rfl ?_
      refine J_ieq rfl (fun b38 => ?_) (fun b38 => ?_)
      · skip
        have hh : ptS g q p kk = -2 ∨ ptS g q p kk = g (7 + kk) := Or.inl b38
        refine J_p 2 (ls' := [_, _, _]) rfl ?_
        rw [nI_add kk 1]
        refine ih (kk + 1) (by omega) (fun h => k1 (fun k h1 h2 => ?_)) (fun h => k2 (fun h3 => h (fun k h1 h2 => h3 k (by omega) h2)))
        rcases Nat.lt_or_ge kk k with h4 | h4
        · exact h k h4 h2
        · obtain rfl : k = kk := by omega
          exact hh
      · skip
        refine J_p 3 (ls' := [_, _, _]) rfl ?_
        refine J_call rfl rfl rfl (decide_eq_true hS.t) rfl (c_partOf hS hq h1p hp h0 (s := kk) (by omega) ?_)
        show J _ _ _ _ _ _ _
        refine J_p 1 (ls' := [_, _, _]) rfl ?_
        refine J_getR rfl hS.t hS.f0 ?_
        refine J_p 3 (ls' := [_, _, _]) rfl ?_
        refine J_gld (n := 7 + kk) rfl (by repeat' (first | with_reducible rfl | assumption | with_reducible refine nI_decE ?_ | with_reducible refine nI_addE ?_ ?_ | with_reducible refine nI_mulE ?_ ?_ | with_reducible refine nI_subE ?_ ?_ ?_ | omega | (with_reducible refine congrArg nI ?_; omega))) hS (by omega) rfl ?_
        refine J_ieq rfl (fun b56 => ?_) (fun b56 => ?_)
        · skip
          have hh : ptS g q p kk = -2 ∨ ptS g q p kk = g (7 + kk) := Or.inr b56
          refine J_p 2 (ls' := [_, _, _]) rfl ?_
          rw [nI_add kk 1]
          refine ih (kk + 1) (by omega) (fun h => k1 (fun k h1 h2 => ?_)) (fun h => k2 (fun h3 => h (fun k h1 h2 => h3 k (by omega) h2)))
          rcases Nat.lt_or_ge kk k with h4 | h4
          · exact h k h4 h2
          · obtain rfl : k = kk := by omega
            exact hh
        · skip
          refine J_p 1 (ls' := [_, _, _]) rfl ?_
          exact J_retB rfl (by decide) (k2 (fun h => by rcases h kk (by omega) (by omega) with h | h; exact b38 h; exact b56 h))

theorem c_isFit (hS : RS M r) {q p : Nat} (hq : q < 8) (h1p : 1 ≤ p) (hp : p ≤ 4) (h0 : g (3471 + 556 * q + 0) = nI p) {t : Nat} (ht : t ≤ 4) (h6 : g 6 = nI t) (k1 : fitD g q p t → Q (some (.int (nI 1))) (wI M (r + 1) g)) (k2 : ¬ fitD g q p t → Q (some (.int (nI 0))) (wI M (r + 1) g)) : J E 181 0 [.ref r, .int (nI q), U0] [] (wI M (r + 1) g) Q := by
  refine J_p 3 (ls' := [_, _, _]) rfl ?_
  refine J_getR rfl hS.t hS.f0 ?_
  refine J_p 1 (ls' := [_, _, _]) rfl ?_
  refine J_gld (n := 6) rfl (by repeat' (first | with_reducible rfl | assumption | with_reducible refine nI_decE ?_ | with_reducible refine nI_addE ?_ ?_ | with_reducible refine nI_mulE ?_ ?_ | with_reducible refine nI_subE ?_ ?_ ?_ | omega | (with_reducible refine congrArg nI ?_; omega))) hS (by omega) h6 ?_
  refine J_call rfl rfl rfl (decide_eq_true hS.t) rfl (c_isLong hS hq h1p hp h0 (s := t) (by omega) (fun hl => ?_) (fun hl => ?_))
  · show J _ _ _ _ _ _ _
    refine J_zne rfl (fun b12 => ?_) (fun b12 => absurd b12 (by decide))
    refine J_p 2 (ls' := [_, _, _]) rfl ?_
    exact c_isFit_l hS hq h1p hp h0 ht h6 t 0 (by omega) (fun h => k1 ⟨hl, fun k hk => h k (by omega) hk⟩) (fun h => k2 (fun f => h (fun k _ hk => f.2 k hk)))
  · show J _ _ _ _ _ _ _
    refine J_zne rfl (fun b12 => absurd rfl b12) (fun b12 => ?_)
    refine J_p 1 (ls' := [_, _, _]) rfl ?_
    exact J_retB rfl (by decide) (k2 (fun f => hl f.1))

end REF9