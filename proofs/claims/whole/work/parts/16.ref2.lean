/-! THE REFERENCE: letters come and go in its row. -/
section REF2
variable {E : Nat × Nat} {M : Mm} {r : Nat} {g : Nat → Int32} {Q : Option Value → Mm → Prop}
theorem c_copies_l {a b n : Nat} (f0 : Nat → Int32) (hn : n = 7919) (ha : mT M a = 20) (hla : mS M a = 7919) (hb : mT M b = 20) (hlb : mS M b = 7919) (hab : a ≠ b) (hf : mI M a = f0) (h0 : Nat → Int32) : ∀ (d kk : Nat), kk + d = n → Q none (wI M b (fun z => if z < n then f0 z else h0 z)) → J E 161 2 [.ref a, .ref b, .int (nI kk)] [] (wI M b (fun z => if z < kk then f0 z else h0 z)) Q := by
  intro d
  induction d with
  | zero =>
    intro kk hk k
    refine J_p 2 (ls' := [_, _, _]) rfl ?_
    refine J_ige rfl (fun b6 => ?_) (fun b6 => ?_)
    · skip
      have hkk : kk = n := by omega
      subst hkk
      exact J_ret rfl rfl rfl k
    · skip
      exact absurd (nI_le (a := 7919) (b := kk) (by omega) (by omega)) b6
  | succ d ih =>
    intro kk hk k
    refine J_p 2 (ls' := [_, _, _]) rfl ?_
    refine J_ige rfl (fun b6 => ?_) (fun b6 => ?_)
    · skip
      exact absurd b6 (nI_ge (a := kk) (b := 7919) (by omega) (by omega))
    · skip
      refine J_p 4 (ls' := [_, _, _]) rfl ?_
      refine J_iald rfl (by repeat' (first | with_reducible rfl | assumption | with_reducible refine nI_decE ?_ | with_reducible refine nI_addE ?_ ?_ | with_reducible refine nI_mulE ?_ ?_ | with_reducible refine nI_subE ?_ ?_ ?_ | omega)) (Or.inl ha) hla (by omega) (by omega) ?_
      refine J_iast rfl (by repeat' (first | with_reducible rfl | assumption | with_reducible refine nI_decE ?_ | with_reducible refine nI_addE ?_ ?_ | with_reducible refine nI_mulE ?_ ?_ | with_reducible refine nI_subE ?_ ?_ ?_ | omega)) (show mT (wI M b _) b = 20 from hb) (show mS (wI M b _) b = 7919 from hlb) (by omega) (by omega) ?_
      refine J_p 2 (ls' := [_, _, _]) rfl ?_
      rw [nI_add kk 1, mI_oth _ _ hab, hf, sI_wg]
      refine J_M (congrArg (wI M b) (funext fun z => ?_)) (ih (kk + 1) (by omega) k)
      simp only [upd]
      repeat' split
      all_goals first | rfl | (exfalso; omega) | (congr 1; omega)

theorem c_copies {a b : Nat} {f0 h0 : Nat → Int32} (ha : mT M a = 20) (hla : mS M a = 7919) (hb : mT M b = 20) (hlb : mS M b = 7919) (hab : a ≠ b) (hf : mI M a = f0) (hh : mI M b = h0) (z1 : ∀ z, 7919 ≤ z → f0 z = 0) (z2 : ∀ z, 7919 ≤ z → h0 z = 0) (k : Q none (wI M b f0)) : J E 161 0 [.ref a, .ref b, U0] [] M Q := by
  have e : (fun z => if z < 7919 then f0 z else h0 z) = f0 := by
    funext z
    split
    · rfl
    · rw [z1 z (by omega), z2 z (by omega)]
  refine J_p 2 (ls' := [_, _, _]) rfl ?_
  have := c_copies_l (E := E) (Q := Q) (n := 7919) f0 rfl ha hla hb hlb hab hf h0 7919 0 (by omega) (by rw [e]; exact k)
  have e2 : wI M b (fun z => if z < 0 then f0 z else h0 z) = M := by
    have : (fun z => if z < 0 then f0 z else h0 z) = mI M b := by rw [hh]; funext z; exact if_neg (by omega)
    rw [this, wI_id]
  rw [e2] at this
  exact this

def gGo (g : Nat → Int32) (q i n : Nat) : Nat → Int32 := fun z => if z = 3471 + 556 * q + 35 then nI n else if 3471 + 556 * q + 36 + 26 * i ≤ z ∧ z < 3471 + 556 * q + 36 + 26 * n then g (z + 26) else g z
def gGoL (g : Nat → Int32) (q i kk : Nat) : Nat → Int32 := fun z => if 3471 + 556 * q + 36 + 26 * i ≤ z ∧ z < 3471 + 556 * q + 36 + kk then g (z + 26) else g z

theorem c_goes_l (hS : RS M r) {q i n : Nat} (hq : q < 8) (hn : n < 20) : ∀ (d kk : Nat), kk + d = 26 * n → 26 * i ≤ kk → Q none (wI M (r + 1) (gGo g q i n)) → J E 185 16 [.ref r, .int (nI q), .int (nI i), .int (nI n), .int (nI kk)] [] (wI M (r + 1) (gGoL g q i kk)) Q := by
  intro d
  induction d with
  | zero =>
    intro kk hk hi k
    refine J_p 4 (ls' := [_, _, _, _, _]) rfl ?_
    refine J_t0 (by repeat' (first | with_reducible rfl | assumption | with_reducible refine nI_decE ?_ | with_reducible refine nI_addE ?_ ?_ | with_reducible refine nI_mulE ?_ ?_ | with_reducible refine nI_subE ?_ ?_ ?_ | omega)) ?_
    refine J_ige rfl (fun b22 => ?_) (fun b22 => ?_)
    · skip
      refine J_p 4 (ls' := [_, _, _, _, _]) rfl ?_
      refine J_call rfl rfl rfl (decide_eq_true hS.t) rfl (c_is hS q 35 _ (by omega) ?_)
      show J _ _ _ _ _ _ _
      refine J_ret rfl rfl rfl ?_
      have e : upd (gGoL g q i kk) (3471 + 556 * q + 35) (nI n) = gGo g q i n := by
        funext z
        simp only [upd, gGoL, gGo, show kk = 26 * n by omega]
      rw [e]; exact k
    · skip
      exact absurd (nI_le (a := 26 * n) (b := kk) (by omega) (by omega)) b22
  | succ d ih =>
    intro kk hk hi k
    refine J_p 4 (ls' := [_, _, _, _, _]) rfl ?_
    refine J_t0 (by repeat' (first | with_reducible rfl | assumption | with_reducible refine nI_decE ?_ | with_reducible refine nI_addE ?_ ?_ | with_reducible refine nI_mulE ?_ ?_ | with_reducible refine nI_subE ?_ ?_ ?_ | omega)) ?_
    refine J_ige rfl (fun b22 => ?_) (fun b22 => ?_)
    · skip
      exact absurd b22 (nI_ge (a := kk) (b := 26 * n) (by omega) (by omega))
    · skip
      refine J_p 12 (ls' := [_, _, _, _, _]) rfl ?_
      refine J_t0 (by repeat' (first | with_reducible rfl | assumption | with_reducible refine nI_decE ?_ | with_reducible refine nI_addE ?_ ?_ | with_reducible refine nI_mulE ?_ ?_ | with_reducible refine nI_subE ?_ ?_ ?_ | omega)) ?_
      refine J_call rfl rfl rfl (decide_eq_true hS.t) rfl (c_of hS q (36 + kk + 26) (z := g (3471 + 556 * q + 36 + kk + 26)) (by omega) (by simp only [gGoL]; rw [if_neg (by omega)]; congr 1) ?_)
      show J _ _ _ _ _ _ _
      refine J_t1 (by repeat' (first | with_reducible rfl | assumption | with_reducible refine nI_decE ?_ | with_reducible refine nI_addE ?_ ?_ | with_reducible refine nI_mulE ?_ ?_ | with_reducible refine nI_subE ?_ ?_ ?_ | omega)) ?_
      refine J_call rfl rfl rfl (decide_eq_true hS.t) rfl (c_is hS q (36 + kk) _ (by omega) ?_)
      show J _ _ _ _ _ _ _
      refine J_p 2 (ls' := [_, _, _, _, _]) rfl ?_
      rw [nI_add kk 1]
      refine J_M (congrArg (wI M (r + 1)) (funext fun z => ?_)) (ih (kk + 1) (by omega) (by omega) k)
      simp only [upd, gGoL]
      repeat' split
      all_goals first | rfl | (exfalso; omega) | (congr 1; omega)

theorem c_goes (hS : RS M r) {q i n : Nat} (hq : q < 8) (hn : n < 20) (hi : i ≤ n) (h0 : g (3471 + 556 * q + 35) = nI (n + 1)) (k : Q none (wI M (r + 1) (gGo g q i n))) : J E 185 0 [.ref r, .int (nI q), .int (nI i), U0, U0] [] (wI M (r + 1) g) Q := by
  refine J_p 3 (ls' := [_, _, _, _, _]) rfl ?_
  refine J_call rfl rfl rfl (decide_eq_true hS.t) rfl (c_of hS q 35 (by omega) h0 ?_)
  show J _ _ _ _ _ _ _
  refine J_p 2 (ls' := [_, _, _, _, _]) rfl ?_
  refine J_t0 (by repeat' (first | with_reducible rfl | assumption | with_reducible refine nI_decE ?_ | with_reducible refine nI_addE ?_ ?_ | with_reducible refine nI_mulE ?_ ?_ | with_reducible refine nI_subE ?_ ?_ ?_ | omega)) ?_
  refine J_p 4 (ls' := [_, _, _, _, _]) rfl ?_
  refine J_t0 (by repeat' (first | with_reducible rfl | assumption | with_reducible refine nI_decE ?_ | with_reducible refine nI_addE ?_ ?_ | with_reducible refine nI_mulE ?_ ?_ | with_reducible refine nI_subE ?_ ?_ ?_ | omega)) ?_
  refine J_p 1 (ls' := [_, _, _, _, _]) rfl ?_
  have := c_goes_l (E := E) (Q := Q) (g := g) hS (i := i) hq hn (26 * n - 26 * i) (26 * i) (by omega) (Nat.le_refl _) k
  refine J_M (congrArg (wI M (r + 1)) (funext fun z => ?_)) this
  simp only [gGoL]
  rw [if_neg (by omega)]

end REF2