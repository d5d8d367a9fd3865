/-! THE REFERENCE: the dead, failing. -/
/-- the dead but the first, moved down -/
def gDrop (g : Nat → Int32) : Nat → Int32 := fun z => if z = 3 then nI 29 else if 2751 ≤ z ∧ z < 3447 then g (z + 24) else g z
def gDropL (g : Nat → Int32) (kk : Nat) : Nat → Int32 := fun z => if 2751 ≤ z ∧ z < 2751 + kk then g (z + 24) else g z
/-- one more of the dead (nd there are): message m of queue q, no causes yet -/
def gND (g : Nat → Int32) (q nd : Nat) (m : Int32) : Nat → Int32 := fun z =>
  if z = 3471 + 556 * q + 34 then g z + nI 1
  else if z = 2751 + 24 * nd + 3 then nI 0
  else if z = 2751 + 24 * nd + 2 then g 4
  else if z = 2751 + 24 * nd + 1 then nI q
  else if z = 2751 + 24 * nd then m
  else if z = 3 then nI (nd + 1) else g z
/-- room for one more: the first goes, if there are 30 -/
def gRoom (g : Nat → Int32) (nd : Nat) : Nat → Int32 := if nd = 30 then gDrop g else g
def nRoom (nd : Nat) : Nat := if nd = 30 then 29 else nd
def gNewDead (g : Nat → Int32) (q nd : Nat) (m : Int32) : Nat → Int32 := gND (gRoom g nd) q (nRoom nd) m
section REF4
variable {E : Nat × Nat} {M : Mm} {r : Nat} {g : Nat → Int32} {Q : Option Value → Mm → Prop}
theorem c_newDead_2 (hS : RS M r) {q nd : Nat} {m : Int32} (hq : q < 8) (hd : nd < 30) (h3 : g 3 = nI nd) (x3 : Value) (k : Q (some (.int (nI (2751 + 24 * nd)))) (wI M (r + 1) (gND g q nd m))) : J E 187 51 [.ref r, .int (nI q), .int m, x3] [] (wI M (r + 1) g) Q := by
  refine J_p 3 (ls' := [_, _, _, _]) rfl ?_
  refine J_getR rfl hS.t hS.f0 ?_
  refine J_p 1 (ls' := [_, _, _, _]) rfl ?_
  refine J_gld (n := 3) rfl (by repeat' (first | with_reducible rfl | assumption | with_reducible refine nI_decE ?_ | with_reducible refine nI_addE ?_ ?_ | with_reducible refine nI_mulE ?_ ?_ | with_reducible refine nI_subE ?_ ?_ ?_ | omega | (with_reducible refine congrArg nI ?_; omega))) hS (by omega) h3 ?_
  refine J_p 2 (ls' := [_, _, _, _]) rfl ?_
  refine J_n0 (n := 2751 + 24 * nd) (by repeat' (first | with_reducible rfl | assumption | with_reducible refine nI_decE ?_ | with_reducible refine nI_addE ?_ ?_ | with_reducible refine nI_mulE ?_ ?_ | with_reducible refine nI_subE ?_ ?_ ?_ | omega | (with_reducible refine congrArg nI ?_; omega))) ?_
  refine J_p 2 (ls' := [_, _, _, _]) rfl ?_
  refine J_getR rfl hS.t hS.f0 ?_
  refine J_p 2 (ls' := [_, _, _, _]) rfl ?_
  refine J_gld (n := 3) rfl (by repeat' (first | with_reducible rfl | assumption | with_reducible refine nI_decE ?_ | with_reducible refine nI_addE ?_ ?_ | with_reducible refine nI_mulE ?_ ?_ | with_reducible refine nI_subE ?_ ?_ ?_ | omega | (with_reducible refine congrArg nI ?_; omega))) hS (by omega) h3 ?_
  refine J_p 2 (ls' := [_, _, _, _]) rfl ?_
  refine J_gst (n := 3) rfl (by repeat' (first | with_reducible rfl | assumption | with_reducible refine nI_decE ?_ | with_reducible refine nI_addE ?_ ?_ | with_reducible refine nI_mulE ?_ ?_ | with_reducible refine nI_subE ?_ ?_ ?_ | omega | (with_reducible refine congrArg nI ?_; omega))) hS (by omega) ?_
  refine J_p 1 (ls' := [_, _, _, _]) rfl ?_
  refine J_getR rfl hS.t hS.f0 ?_
  refine J_p 2 (ls' := [_, _, _, _]) rfl ?_
  refine J_gst (n := 2751 + 24 * nd) rfl (by repeat' (first | with_reducible rfl | assumption | with_reducible refine nI_decE ?_ | with_reducible refine nI_addE ?_ ?_ | with_reducible refine nI_mulE ?_ ?_ | with_reducible refine nI_subE ?_ ?_ ?_ | omega | (with_reducible refine congrArg nI ?_; omega))) hS (by omega) ?_
  refine J_p 1 (ls' := [_, _, _, _]) rfl ?_
  refine J_getR rfl hS.t hS.f0 ?_
  refine J_p 4 (ls' := [_, _, _, _]) rfl ?_
  refine J_gst (n := 2751 + 24 * nd + 1) rfl (by repeat' (first | with_reducible rfl | assumption | with_reducible refine nI_decE ?_ | with_reducible refine nI_addE ?_ ?_ | with_reducible refine nI_mulE ?_ ?_ | with_reducible refine nI_subE ?_ ?_ ?_ | omega | (with_reducible refine congrArg nI ?_; omega))) hS (by omega) ?_
  refine J_p 1 (ls' := [_, _, _, _]) rfl ?_
  refine J_getR rfl hS.t hS.f0 ?_
  refine J_p 4 (ls' := [_, _, _, _]) rfl ?_
  refine J_getR rfl hS.t hS.f0 ?_
  refine J_p 1 (ls' := [_, _, _, _]) rfl ?_
  refine J_gld (n := 4) rfl (by repeat' (first | with_reducible rfl | assumption | with_reducible refine nI_decE ?_ | with_reducible refine nI_addE ?_ ?_ | with_reducible refine nI_mulE ?_ ?_ | with_reducible refine nI_subE ?_ ?_ ?_ | omega | (with_reducible refine congrArg nI ?_; omega))) hS (by omega) (show _ = g 4 by simp only [upd]; repeat rw [if_neg (by omega)]) ?_
  refine J_gst (n := 2751 + 24 * nd + 2) rfl (by repeat' (first | with_reducible rfl | assumption | with_reducible refine nI_decE ?_ | with_reducible refine nI_addE ?_ ?_ | with_reducible refine nI_mulE ?_ ?_ | with_reducible refine nI_subE ?_ ?_ ?_ | omega | (with_reducible refine congrArg nI ?_; omega))) hS (by omega) ?_
  refine J_p 1 (ls' := [_, _, _, _]) rfl ?_
  refine J_getR rfl hS.t hS.f0 ?_
  refine J_p 4 (ls' := [_, _, _, _]) rfl ?_
  refine J_gst (n := 2751 + 24 * nd + 3) rfl (by repeat' (first | with_reducible rfl | assumption | with_reducible refine nI_decE ?_ | with_reducible refine nI_addE ?_ ?_ | with_reducible refine nI_mulE ?_ ?_ | with_reducible refine nI_subE ?_ ?_ ?_ | omega | (with_reducible refine congrArg nI ?_; omega))) hS (by omega) ?_
  refine J_p 6 (ls' := [_, _, _, _]) rfl ?_
  refine J_call rfl rfl rfl (decide_eq_true hS.t) rfl (c_of hS q 34 (z := g (3471 + 556 * q + 34)) (by omega) (by simp only [upd]; repeat rw [if_neg (by omega)]) ?_)
  show J _ _ _ _ _ _ _
  refine J_p 2 (ls' := [_, _, _, _]) rfl ?_
  refine J_call rfl rfl rfl (decide_eq_true hS.t) rfl (c_is hS q 34 _ (by omega) ?_)
  show J _ _ _ _ _ _ _
  refine J_p 1 (ls' := [_, _, _, _]) rfl ?_
  refine J_ret rfl rfl rfl ?_
  have e : upd (upd (upd (upd (upd (upd g 3 (nI nd + nI 1)) (2751 + 24 * nd) m) (2751 + 24 * nd + 1) (nI q)) (2751 + 24 * nd + 2) (g 4)) (2751 + 24 * nd + 3) (nI 0)) (3471 + 556 * q + 34) (g (3471 + 556 * q + 34) + nI 1) = gND g q nd m := by
    funext z
    simp only [upd, gND, nI_add]
    repeat' split
    all_goals first | rfl | (exfalso; omega) | (congr 1; omega) | (subst_vars; rfl)
  rw [e]; exact k

theorem c_newDead_1 (hS : RS M r) {q : Nat} {m : Int32} (hq : q < 8) : ∀ (d kk : Nat), kk + d = 696 → Q (some (.int (nI (2751 + 24 * 29)))) (wI M (r + 1) (gND (gDrop g) q 29 m)) → J E 187 15 [.ref r, .int (nI q), .int m, .int (nI (2751 + kk))] [] (wI M (r + 1) (gDropL g kk)) Q := by
  intro d
  induction d with
  | zero =>
    intro kk hk k
    refine J_p 2 (ls' := [_, _, _, _]) rfl ?_
    refine J_ige rfl (fun b19 => ?_) (fun b19 => ?_)
    · skip
      refine J_p 1 (ls' := [_, _, _, _]) rfl ?_
      refine J_getR rfl hS.t hS.f0 ?_
      refine J_p 2 (ls' := [_, _, _, _]) rfl ?_
      refine J_gst (n := 3) rfl (by repeat' (first | with_reducible rfl | assumption | with_reducible refine nI_decE ?_ | with_reducible refine nI_addE ?_ ?_ | with_reducible refine nI_mulE ?_ ?_ | with_reducible refine nI_subE ?_ ?_ ?_ | omega | (with_reducible refine congrArg nI ?_; omega))) hS (by omega) ?_
      have e : upd (gDropL g kk) 3 (nI 29) = gDrop g := by
        funext z
        simp only [upd, gDropL, gDrop, show kk = 696 by omega]
      rw [e]
      exact c_newDead_2 hS hq (by omega) (if_pos rfl) _ k
    · skip
      exact absurd (nI_le (a := 3447) (b := 2751 + kk) (by omega) (by omega)) b19
  | succ d ih =>
    intro kk hk k
    refine J_p 2 (ls' := [_, _, _, _]) rfl ?_
    refine J_ige rfl (fun b19 => ?_) (fun b19 => ?_)
    · skip
      exact absurd b19 (nI_ge (a := 2751 + kk) (b := 3447) (by omega) (by omega))
    · skip
      refine J_p 1 (ls' := [_, _, _, _]) rfl ?_
      refine J_getR rfl hS.t hS.f0 ?_
      refine J_p 2 (ls' := [_, _, _, _]) rfl ?_
      refine J_getR rfl hS.t hS.f0 ?_
      refine J_p 3 (ls' := [_, _, _, _]) rfl ?_
      refine J_gld (n := (2751 + kk) + 24) rfl (by repeat' (first | with_reducible rfl | assumption | with_reducible refine nI_decE ?_ | with_reducible refine nI_addE ?_ ?_ | with_reducible refine nI_mulE ?_ ?_ | with_reducible refine nI_subE ?_ ?_ ?_ | omega | (with_reducible refine congrArg nI ?_; omega))) hS (by omega) (show _ = g (2751 + kk + 24) by simp only [gDropL]; rw [if_neg (by omega)]) ?_
      refine J_gst (n := (2751 + kk)) rfl (by repeat' (first | with_reducible rfl | assumption | with_reducible refine nI_decE ?_ | with_reducible refine nI_addE ?_ ?_ | with_reducible refine nI_mulE ?_ ?_ | with_reducible refine nI_subE ?_ ?_ ?_ | omega | (with_reducible refine congrArg nI ?_; omega))) hS (by omega) ?_
      refine J_p 2 (ls' := [_, _, _, _]) rfl ?_
      rw [nI_add (2751 + kk) 1]
      refine J_M (congrArg (wI M (r + 1)) (funext fun z => ?_)) (ih (kk + 1) (by omega) k)
      simp only [upd, gDropL]
      repeat' split
      all_goals first | rfl | (exfalso; omega) | (congr 1; omega)

theorem c_newDead (hS : RS M r) {q nd : Nat} {m : Int32} (hq : q < 8) (hd : nd ≤ 30) (h3 : g 3 = nI nd) (k : Q (some (.int (nI (2751 + 24 * nRoom nd)))) (wI M (r + 1) (gNewDead g q nd m))) : J E 187 0 [.ref r, .int (nI q), .int m, U0] [] (wI M (r + 1) g) Q := by
  refine J_p 1 (ls' := [_, _, _, _]) rfl ?_
  refine J_getR rfl hS.t hS.f0 ?_
  refine J_p 1 (ls' := [_, _, _, _]) rfl ?_
  refine J_gld (n := 3) rfl (by repeat' (first | with_reducible rfl | assumption | with_reducible refine nI_decE ?_ | with_reducible refine nI_addE ?_ ?_ | with_reducible refine nI_mulE ?_ ?_ | with_reducible refine nI_subE ?_ ?_ ?_ | omega | (with_reducible refine congrArg nI ?_; omega))) hS (by omega) h3 ?_
  refine J_p 1 (ls' := [_, _, _, _]) rfl ?_
  refine J_ine rfl (fun b8 => ?_) (fun b8 => ?_)
  · skip
    have hne : nd ≠ 30 := fun h => b8 (by rw [h])
    simp only [gNewDead, gRoom, nRoom, if_neg hne] at k
    exact c_newDead_2 hS hq (by omega) h3 _ k
  · skip
    have hnd : nd = 30 := (nI_eq (by omega) (by omega)).mp b8
    simp only [gNewDead, gRoom, nRoom, if_pos hnd] at k
    refine J_p 2 (ls' := [_, _, _, _]) rfl ?_
    refine J_M (congrArg (wI M (r + 1)) (funext fun z => ?_)) (c_newDead_1 (g := g) hS hq 696 0 (by omega) k)
    simp only [gDropL]
    rw [if_neg (by omega)]

end REF4