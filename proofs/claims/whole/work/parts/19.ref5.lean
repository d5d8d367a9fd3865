section REF4
variable {E : Nat × Nat} {M : Mm} {r : Nat} {g : Nat → Int32} {Q : Option Value → Mm → Prop}
/-- letter i of queue q dies: the causes that it has behind 'one' of its own (what, number), if what > 0 -/
def gDieC (g : Nat → Int32) (q i at_ fr kk : Nat) : Nat → Int32 := fun z => if at_ + 4 + 4 * fr ≤ z ∧ z < at_ + 4 + 4 * fr + kk then g (3471 + 556 * q + 36 + 26 * i + 6 + (z - (at_ + 4 + 4 * fr))) else g z

theorem J_old {mi pc nx tg x y n L b : Nat} {v : Value} {ls rr : List Value} {j z : Int32} (hq : tb mi pc = some (.iaload, nx, tg, x, y, v)) (hj : j = nI n) (hb : b ≠ r + 1) (ht : mT M b = 20) (hL : mS M b = L) (hn : n < L) (hL2 : L < 2 ^ 31) (hz : mI M b n = z) (k : J E mi nx ls (.int z :: rr) (wI M (r + 1) g) Q) : J E mi pc ls (.int j :: .ref b :: rr) (wI M (r + 1) g) Q := by
  refine J_iald hq hj (Or.inl ht) hL hn hL2 ?_
  rw [mI_oth _ _ hb, hz]
  exact k
/-- what a letter's death leaves of the row: g as it stands when the dead one's place at_ is made (and its own cause is ahead) -/
def gDieB (g : Nat → Int32) (q i n at_ fr my : Nat) : Nat → Int32 := gGo (upd (gDieC g q i at_ fr (4 * my)) (at_ + 3) (nI (my + fr))) q i n
def gDie (g : Nat → Int32) (q i n nd my : Nat) (m what number : Int32) : Nat → Int32 :=
  if what = 0 then gDieB (gNewDead g q nd m) q i n (2751 + 24 * nRoom nd) 0 my
  else gDieB (gAhead (gNewDead g q nd m) (2751 + 24 * nRoom nd + 4) (nI my) what number) q i n (2751 + 24 * nRoom nd) 1 my
theorem nRoom_le {nd : Nat} (h : nd ≤ 30) : nRoom nd ≤ 29 := by unfold nRoom; split <;> omega
theorem gND_lt {g : Nat → Int32} {q nd z : Nat} {m : Int32} (hq : q < 8) (hd : nd ≤ 29) (hz : 3471 ≤ z) (h34 : z ≠ 3471 + 556 * q + 34) : gND g q nd m z = g z := by
  unfold gND
  repeat rw [if_neg (by omega)]
theorem gDrop_lt {g : Nat → Int32} {z : Nat} (hz : 3471 ≤ z) : gDrop g z = g z := by
  unfold gDrop
  repeat rw [if_neg (by omega)]
theorem gNewDead_lt {g : Nat → Int32} {q nd z : Nat} {m : Int32} (hq : q < 8) (hd : nd ≤ 30) (hz : 3471 ≤ z) (h34 : z ≠ 3471 + 556 * q + 34) : gNewDead g q nd m z = g z := by
  unfold gNewDead
  rw [gND_lt hq (nRoom_le hd) hz h34]
  unfold gRoom
  split
  · exact gDrop_lt hz
  · rfl

theorem c_dies_l (hS : RS M r) {q i n nd fr my : Nat} {what number : Int32} (hq : q < 8) (hn : n < 20) (hi : i ≤ n) (hd : nd ≤ 29) (hf : fr ≤ 1) (hy : my + fr ≤ 5) (h0 : g (3471 + 556 * q + 35) = nI (n + 1)) : ∀ (d kk : Nat), kk + d = 4 * my → Q none (wI M (r + 1) (gDieB g q i n (2751 + 24 * nd) fr my)) → J E 189 56 [.ref r, .int (nI q), .int (nI i), .int what, .int number, .int (nI (2751 + 24 * nd)), .int (nI my), .int (nI fr), .int (nI kk)] [] (wI M (r + 1) (gDieC g q i (2751 + 24 * nd) fr kk)) Q := by
  intro d
  induction d with
  | zero =>
    intro kk hk k
    refine J_p 4 (ls' := [_, _, _, _, _, _, _, _, _]) rfl ?_
    refine J_n0 (n := 4 * my) (by repeat' (first | with_reducible rfl | assumption | with_reducible refine nI_decE ?_ | with_reducible refine nI_addE ?_ ?_ | with_reducible refine nI_mulE ?_ ?_ | with_reducible refine nI_subE ?_ ?_ ?_ | omega | (with_reducible refine congrArg nI ?_; omega))) ?_
    refine J_ige rfl (fun b62 => ?_) (fun b62 => ?_)
    · skip
      obtain rfl : kk = 4 * my := by omega
      refine J_p 1 (ls' := [_, _, _, _, _, _, _, _, _]) rfl ?_
      refine J_getR rfl hS.t hS.f0 ?_
      refine J_p 6 (ls' := [_, _, _, _, _, _, _, _, _]) rfl ?_
      rw [nI_add my fr]
      refine J_gst (n := (2751 + 24 * nd) + 3) rfl (by repeat' (first | with_reducible rfl | assumption | with_reducible refine nI_decE ?_ | with_reducible refine nI_addE ?_ ?_ | with_reducible refine nI_mulE ?_ ?_ | with_reducible refine nI_subE ?_ ?_ ?_ | omega | (with_reducible refine congrArg nI ?_; omega))) hS (by omega) ?_
      refine J_p 3 (ls' := [_, _, _, _, _, _, _, _, _]) rfl ?_
      refine J_call rfl rfl rfl (decide_eq_true hS.t) rfl (c_goes hS hq hn (by omega) (by simp only [upd, gDieC]; rw [if_neg (by omega), if_neg (by omega)]; exact h0) ?_)
      show J _ _ _ _ _ _ _
      exact J_ret rfl rfl rfl k
    · skip
      exact absurd (nI_le (a := 4 * my) (b := kk) (by omega) (by omega)) b62
  | succ d ih =>
    intro kk hk k
    refine J_p 4 (ls' := [_, _, _, _, _, _, _, _, _]) rfl ?_
    refine J_n0 (n := 4 * my) (by repeat' (first | with_reducible rfl | assumption | with_reducible refine nI_decE ?_ | with_reducible refine nI_addE ?_ ?_ | with_reducible refine nI_mulE ?_ ?_ | with_reducible refine nI_subE ?_ ?_ ?_ | omega | (with_reducible refine congrArg nI ?_; omega))) ?_
    refine J_ige rfl (fun b62 => ?_) (fun b62 => ?_)
    · skip
      exact absurd b62 (nI_ge (a := kk) (b := 4 * my) (by omega) (by omega))
    · skip
      refine J_p 1 (ls' := [_, _, _, _, _, _, _, _, _]) rfl ?_
      refine J_getR rfl hS.t hS.f0 ?_
      refine J_p 15 (ls' := [_, _, _, _, _, _, _, _, _]) rfl ?_
      refine J_n0 (n := 6 + kk) (by repeat' (first | with_reducible rfl | assumption | with_reducible refine nI_decE ?_ | with_reducible refine nI_addE ?_ ?_ | with_reducible refine nI_mulE ?_ ?_ | with_reducible refine nI_subE ?_ ?_ ?_ | omega | (with_reducible refine congrArg nI ?_; omega))) ?_
      refine J_call rfl rfl rfl (decide_eq_true hS.t) rfl (c_letterOf hS q i (6 + kk) (z := g (3471 + 556 * q + 36 + 26 * i + 6 + kk)) (by omega) (by simp only [gDieC]; rw [if_neg (by omega)]; exact congrArg g (by omega)) ?_)
      show J _ _ _ _ _ _ _
      refine J_gst (n := (2751 + 24 * nd) + 4 + 4 * fr + kk) rfl (by repeat' (first | with_reducible rfl | assumption | with_reducible refine nI_decE ?_ | with_reducible refine nI_addE ?_ ?_ | with_reducible refine nI_mulE ?_ ?_ | with_reducible refine nI_subE ?_ ?_ ?_ | omega | (with_reducible refine congrArg nI ?_; omega))) hS (by omega) ?_
      refine J_p 2 (ls' := [_, _, _, _, _, _, _, _, _]) rfl ?_
      rw [nI_add kk 1]
      refine J_M (congrArg (wI M (r + 1)) (funext fun z => ?_)) (ih (kk + 1) (by omega) k)
      simp only [upd, gDieC]
      repeat' split
      all_goals first | rfl | (exfalso; omega) | (congr 1; omega)

theorem c_dies0 (hS : RS M r) {q i n nd my : Nat} {m what number : Int32} (hq : q < 8) (hn : n < 20) (hi : i ≤ n) (hd : nd ≤ 30) (hw : what = 0) (hy : my ≤ 5) (h0 : g (3471 + 556 * q + 35) = nI (n + 1)) (h3 : g 3 = nI nd) (hm : g (3471 + 556 * q + 36 + 26 * i + 0) = m) (h5 : g (3471 + 556 * q + 36 + 26 * i + 5) = nI my) (k : Q none (wI M (r + 1) (gDie g q i n nd my m what number))) : J E 189 0 [.ref r, .int (nI q), .int (nI i), .int what, .int number, U0, U0, U0, U0] [] (wI M (r + 1) g) Q := by
  have hr := nRoom_le hd
  simp only [gDie, if_pos hw] at k
  refine J_p 6 (ls' := [_, _, _, _, _, _, _, _, _]) rfl ?_
  refine J_call rfl rfl rfl (decide_eq_true hS.t) rfl (c_letterOf hS q i 0 (by omega) hm ?_)
  show J _ _ _ _ _ _ _
  refine J_call rfl rfl rfl (decide_eq_true hS.t) rfl (c_newDead hS hq hd h3 ?_)
  show J _ _ _ _ _ _ _
  refine J_p 5 (ls' := [_, _, _, _, _, _, _, _, _]) rfl ?_
  refine J_call rfl rfl rfl (decide_eq_true hS.t) rfl (c_letterOf hS q i 5 (z := nI my) (by omega) (by rw [gNewDead_lt hq hd (by omega) (by omega)]; exact h5) ?_)
  show J _ _ _ _ _ _ _
  refine J_p 2 (ls' := [_, _, _, _, _, _, _, _, _]) rfl ?_
  refine J_zle rfl (fun b24 => ?_) (fun b24 => ?_)
  · skip
    refine J_p 4 (ls' := [_, _, _, _, _, _, _, _, _]) rfl ?_
    refine J_ine rfl (fun b37 => ?_) (fun b37 => ?_)
    · skip
      refine J_p 2 (ls' := [_, _, _, _, _, _, _, _, _]) rfl ?_
      refine J_M (congrArg (wI M (r + 1)) (funext fun z => ?_)) (c_dies_l hS hq hn hi hr (fr := 0) (my := my) (by omega) (by omega) ?_ (4 * my) 0 (by omega) k)
      · simp only [gDieC]
        rw [if_neg (by omega)]
      · rw [gNewDead_lt hq hd (by omega) (by omega)]; exact h0
    · skip
      exact absurd b37 (by decide)
  · skip
    exact absurd (by rw [hw]; decide) b24

theorem c_dies1 (hS : RS M r) {q i n nd my : Nat} {m what number : Int32} (hq : q < 8) (hn : n < 20) (hi : i ≤ n) (hd : nd ≤ 30) (hw : 0 < what) (hy : my ≤ 4) (h0 : g (3471 + 556 * q + 35) = nI (n + 1)) (h3 : g 3 = nI nd) (hm : g (3471 + 556 * q + 36 + 26 * i + 0) = m) (h5 : g (3471 + 556 * q + 36 + 26 * i + 5) = nI my) (k : Q none (wI M (r + 1) (gDie g q i n nd my m what number))) : J E 189 0 [.ref r, .int (nI q), .int (nI i), .int what, .int number, U0, U0, U0, U0] [] (wI M (r + 1) g) Q := by
  have hr := nRoom_le hd
  have hw0 : ¬ what = 0 := fun h => by rw [h] at hw; exact absurd hw (by decide)
  simp only [gDie, if_neg hw0] at k
  refine J_p 6 (ls' := [_, _, _, _, _, _, _, _, _]) rfl ?_
  refine J_call rfl rfl rfl (decide_eq_true hS.t) rfl (c_letterOf hS q i 0 (by omega) hm ?_)
  show J _ _ _ _ _ _ _
  refine J_call rfl rfl rfl (decide_eq_true hS.t) rfl (c_newDead hS hq hd h3 ?_)
  show J _ _ _ _ _ _ _
  refine J_p 5 (ls' := [_, _, _, _, _, _, _, _, _]) rfl ?_
  refine J_call rfl rfl rfl (decide_eq_true hS.t) rfl (c_letterOf hS q i 5 (z := nI my) (by omega) (by rw [gNewDead_lt hq hd (by omega) (by omega)]; exact h5) ?_)
  show J _ _ _ _ _ _ _
  refine J_p 2 (ls' := [_, _, _, _, _, _, _, _, _]) rfl ?_
  refine J_zle rfl (fun b24 => ?_) (fun b24 => ?_)
  · skip
    exact absurd hw (by rw [Int32.lt_iff_toInt_lt]; rw [Int32.le_iff_toInt_le] at b24; omega)
  · skip
    refine J_p 5 (ls' := [_, _, _, _, _, _, _, _, _]) rfl ?_
    refine J_ine rfl (fun b37 => ?_) (fun b37 => ?_)
    · skip
      exact absurd rfl b37
    · skip
      refine J_p 7 (ls' := [_, _, _, _, _, _, _, _, _]) rfl ?_
      refine J_n3 (n := 2751 + 24 * nRoom nd + 4) (by repeat' (first | with_reducible rfl | assumption | with_reducible refine nI_decE ?_ | with_reducible refine nI_addE ?_ ?_ | with_reducible refine nI_mulE ?_ ?_ | with_reducible refine nI_subE ?_ ?_ ?_ | omega | (with_reducible refine congrArg nI ?_; omega))) ?_
      refine J_call rfl rfl rfl (decide_eq_true hS.t) rfl (c_ahead hS (a := 2751 + 24 * nRoom nd + 4) (nI my) what number (by omega) (by omega) ?_)
      show J _ _ _ _ _ _ _
      refine J_p 2 (ls' := [_, _, _, _, _, _, _, _, _]) rfl ?_
      refine J_M (congrArg (wI M (r + 1)) (funext fun z => ?_)) (c_dies_l hS hq hn hi hr (fr := 1) (my := my) (by omega) (by omega) ?_ (4 * my) 0 (by omega) k)
      · simp only [gDieC]
        rw [if_neg (by omega)]
      · simp only [gAhead, upd]
        repeat rw [if_neg (by omega)]
        rw [gNewDead_lt hq hd (by omega) (by omega)]; exact h0

end REF4