section REF4
variable {E : Nat × Nat} {M : Mm} {r : Nat} {g : Nat → Int32} {Q : Option Value → Mm → Prop}
/-- the causes of letter i of queue q, one place on -/
def gUp (g : Nat → Int32) (q i kk my : Nat) : Nat → Int32 := fun z => if 3471 + 556 * q + 36 + 26 * i + 10 + kk ≤ z ∧ z < 3471 + 556 * q + 36 + 26 * i + 10 + 4 * my then g (z - 4) else g z
/-- letter i of queue q fails: failed by now, what, who, its rest till -/
def gFailR (g : Nat → Int32) (q i my : Nat) (failed what who till : Int32) : Nat → Int32 :=
  upd (upd (upd (upd (upd (gAhead (gUp g q i 0 my) (3471 + 556 * q + 36 + 26 * i + 6) failed what who) (3471 + 556 * q + 36 + 26 * i + 5) (nI (my + 1))) (3471 + 556 * q + 36 + 26 * i + 2) failed) (3471 + 556 * q + 36 + 26 * i + 3) (-1)) (3471 + 556 * q + 36 + 26 * i + 4) till) (3471 + 556 * q + 36 + 26 * i + 1) (nI 1)
theorem gFailR_oth {g : Nat → Int32} {q i my z : Nat} {failed what who till : Int32} (hy : my ≤ 4) (h : ¬ (3471 + 556 * q + 36 + 26 * i + 1 ≤ z ∧ z < 3471 + 556 * q + 36 + 26 * i + 26)) : gFailR g q i my failed what who till z = g z := by
  simp only [gFailR, gAhead, gUp, upd]
  repeat rw [if_neg (by omega)]
def gFail (g : Nat → Int32) (q i n nd my : Nat) (m failed what who till : Int32) : Nat → Int32 :=
  if failed = g (3471 + 556 * q + 27) then gDie (gFailR g q i my failed what who till) q i n nd (my + 1) m 0 0 else gFailR g q i my failed what who till

theorem c_fails_l (hS : RS M r) {q i n nd my ff : Nat} {m what who w : Int32} (hq : q < 8) (hn : n < 20) (hi : i ≤ n) (hd : nd ≤ 30) (hy : my ≤ 4) (hf : ff < 6) (h0 : g (3471 + 556 * q + 35) = nI (n + 1)) (h3 : g 3 = nI nd) (hm : g (3471 + 556 * q + 36 + 26 * i + 0) = m) (hw : mI M (r + 5) ff = w) : ∀ (kk : Nat), kk ≤ 4 * my → (nI ff = g (3471 + 556 * q + 27) → Q (some (.int (nI 1))) (wI M (r + 1) (gDie (gFailR g q i my (nI ff) what who (g 4 + w)) q i n nd (my + 1) m 0 0))) → (¬ nI ff = g (3471 + 556 * q + 27) → Q (some (.int (nI 0))) (wI M (r + 1) (gFailR g q i my (nI ff) what who (g 4 + w)))) → J E 190 28 [.ref r, .int (nI q), .int (nI i), .int what, .int who, .int (nI ff), .int (nI my), .int (nI kk - nI 1)] [] (wI M (r + 1) (gUp g q i kk my)) Q := by
  intro kk
  induction kk with
  | zero =>
    intro hk k1 k2
    refine J_p 1 (ls' := [_, _, _, _, _, _, _, _]) rfl ?_
    refine J_zlt rfl (fun b30 => ?_) (fun b30 => ?_)
    · skip
      refine J_p 17 (ls' := [_, _, _, _, _, _, _, _]) rfl ?_
      refine J_n3 (n := 3471 + 556 * q + 36 + 26 * i + 6) (by repeat' (first | with_reducible rfl | assumption | with_reducible refine nI_decE ?_ | with_reducible refine nI_addE ?_ ?_ | with_reducible refine nI_mulE ?_ ?_ | with_reducible refine nI_subE ?_ ?_ ?_ | omega | (with_reducible refine congrArg nI ?_; omega))) ?_
      refine J_call rfl rfl rfl (decide_eq_true hS.t) rfl (c_ahead hS _ what who (by omega) (by omega) ?_)
      show J _ _ _ _ _ _ _
      refine J_p 7 (ls' := [_, _, _, _, _, _, _, _]) rfl ?_
      refine J_n0 (n := my + 1) (by repeat' (first | with_reducible rfl | assumption | with_reducible refine nI_decE ?_ | with_reducible refine nI_addE ?_ ?_ | with_reducible refine nI_mulE ?_ ?_ | with_reducible refine nI_subE ?_ ?_ ?_ | omega | (with_reducible refine congrArg nI ?_; omega))) ?_
      refine J_call rfl rfl rfl (decide_eq_true hS.t) rfl (c_letterIs hS q i 5 _ (by omega) ?_)
      show J _ _ _ _ _ _ _
      refine J_p 5 (ls' := [_, _, _, _, _, _, _, _]) rfl ?_
      refine J_call rfl rfl rfl (decide_eq_true hS.t) rfl (c_letterIs hS q i 2 _ (by omega) ?_)
      show J _ _ _ _ _ _ _
      refine J_p 5 (ls' := [_, _, _, _, _, _, _, _]) rfl ?_
      refine J_call rfl rfl rfl (decide_eq_true hS.t) rfl (c_letterIs hS q i 3 _ (by omega) ?_)
      show J _ _ _ _ _ _ _
      refine J_p 5 (ls' := [_, _, _, _, _, _, _, _]) rfl ?_
      refine J_getR rfl hS.t hS.f0 ?_
      refine J_p 1 (ls' := [_, _, _, _, _, _, _, _]) rfl ?_
      refine J_gld (n := 4) rfl (by repeat' (first | with_reducible rfl | assumption | with_reducible refine nI_decE ?_ | with_reducible refine nI_addE ?_ ?_ | with_reducible refine nI_mulE ?_ ?_ | with_reducible refine nI_subE ?_ ?_ ?_ | omega | (with_reducible refine congrArg nI ?_; omega))) hS (by omega) (show _ = g 4 by simp only [gAhead, gUp, upd]; repeat rw [if_neg (by omega)]) ?_
      refine J_p 1 (ls' := [_, _, _, _, _, _, _, _]) rfl ?_
      refine J_getR rfl hS.t hS.f5 ?_
      refine J_p 1 (ls' := [_, _, _, _, _, _, _, _]) rfl ?_
      refine J_old (n := ff) rfl (by repeat' (first | with_reducible rfl | assumption | with_reducible refine nI_decE ?_ | with_reducible refine nI_addE ?_ ?_ | with_reducible refine nI_mulE ?_ ?_ | with_reducible refine nI_subE ?_ ?_ ?_ | omega | (with_reducible refine congrArg nI ?_; omega))) (by omega) hS.t5 hS.l5 (by omega) (by omega) hw ?_
      refine J_p 1 (ls' := [_, _, _, _, _, _, _, _]) rfl ?_
      refine J_call rfl rfl rfl (decide_eq_true hS.t) rfl (c_letterIs hS q i 4 _ (by omega) ?_)
      show J _ _ _ _ _ _ _
      refine J_p 5 (ls' := [_, _, _, _, _, _, _, _]) rfl ?_
      refine J_call rfl rfl rfl (decide_eq_true hS.t) rfl (c_letterIs hS q i 1 _ (by omega) ?_)
      show J _ _ _ _ _ _ _
      refine J_p 4 (ls' := [_, _, _, _, _, _, _, _]) rfl ?_
      skip
      refine J_call rfl rfl rfl (decide_eq_true hS.t) rfl (c_of hS q 27 (z := g (3471 + 556 * q + 27)) (by omega) (gFailR_oth (failed := nI ff) (what := what) (who := who) (till := g 4 + w) hy (by omega)) ?_)
      show J _ _ _ _ _ _ _
      refine J_ine rfl (fun b156 => ?_) (fun b156 => ?_)
      · skip
        have k := k2 b156
        refine J_p 1 (ls' := [_, _, _, _, _, _, _, _]) rfl ?_
        exact J_retB rfl (by decide) k
      · skip
        have k := k1 b156
        refine J_p 5 (ls' := [_, _, _, _, _, _, _, _]) rfl ?_
        refine J_call rfl rfl rfl (decide_eq_true hS.t) rfl (c_dies0 (g := gFailR g q i my (nI ff) what who (g 4 + w)) (m := m) (nd := nd) (my := my + 1) hS hq hn hi hd rfl (by omega) (by rw [gFailR_oth hy (by omega)]; exact h0) (by rw [gFailR_oth hy (by omega)]; exact h3) (by rw [gFailR_oth hy (by omega)]; exact hm) (by simp only [gFailR, upd]; repeat first | rw [if_pos trivial] | rw [if_neg (by omega)]) ?_)
        show J _ _ _ _ _ _ _
        refine J_p 1 (ls' := [_, _, _, _, _, _, _, _]) rfl ?_
        exact J_retB rfl (by decide) k
    · skip
      exact absurd (show nI 0 - nI 1 < 0 by decide) b30
  | succ kk ih =>
    intro hk k1 k2
    refine J_p 1 (ls' := [_, _, _, _, _, _, _, _]) rfl ?_
    refine J_zlt rfl (fun b30 => ?_) (fun b30 => ?_)
    · skip
      exact absurd ((pr_lt (b := 0) (by omega) (by omega)).mp b30) (by omega)
    · skip
      refine J_p 12 (ls' := [_, _, _, _, _, _, _, _]) rfl ?_
      refine J_n0 (n := 6 + (kk + 1 - 1)) (by repeat' (first | with_reducible rfl | assumption | with_reducible refine nI_decE ?_ | with_reducible refine nI_addE ?_ ?_ | with_reducible refine nI_mulE ?_ ?_ | with_reducible refine nI_subE ?_ ?_ ?_ | omega | (with_reducible refine congrArg nI ?_; omega))) ?_
      refine J_call rfl rfl rfl (decide_eq_true hS.t) rfl (c_letterOf hS q i (6 + kk) (z := g (3471 + 556 * q + 36 + 26 * i + 6 + kk)) (by omega) (by simp only [gUp]; rw [if_neg (by omega)]; exact congrArg g (by omega)) ?_)
      show J _ _ _ _ _ _ _
      refine J_n1 (n := 10 + (kk + 1 - 1)) (by repeat' (first | with_reducible rfl | assumption | with_reducible refine nI_decE ?_ | with_reducible refine nI_addE ?_ ?_ | with_reducible refine nI_mulE ?_ ?_ | with_reducible refine nI_subE ?_ ?_ ?_ | omega | (with_reducible refine congrArg nI ?_; omega))) ?_
      refine J_call rfl rfl rfl (decide_eq_true hS.t) rfl (c_letterIs hS q i (10 + kk) _ (by omega) ?_)
      show J _ _ _ _ _ _ _
      refine J_p 2 (ls' := [_, _, _, _, _, _, _, _]) rfl ?_
      rw [pr_dec]
      refine J_M (congrArg (wI M (r + 1)) (funext fun z => ?_)) (ih (by omega) k1 k2)
      simp only [upd, gUp]
      repeat' split
      all_goals first | rfl | (exfalso; omega) | (congr 1; omega)

theorem c_fails (hS : RS M r) {q i n nd my ff : Nat} {m what who w : Int32} (hq : q < 8) (hn : n < 20) (hi : i ≤ n) (hd : nd ≤ 30) (hy : my ≤ 4) (hf : ff < 6) (h0 : g (3471 + 556 * q + 35) = nI (n + 1)) (h3 : g 3 = nI nd) (hm : g (3471 + 556 * q + 36 + 26 * i + 0) = m) (hw : mI M (r + 5) ff = w) (h2 : g (3471 + 556 * q + 36 + 26 * i + 2) + nI 1 = nI ff) (h5 : g (3471 + 556 * q + 36 + 26 * i + 5) = nI my) (k1 : nI ff = g (3471 + 556 * q + 27) → Q (some (.int (nI 1))) (wI M (r + 1) (gDie (gFailR g q i my (nI ff) what who (g 4 + w)) q i n nd (my + 1) m 0 0))) (k2 : ¬ nI ff = g (3471 + 556 * q + 27) → Q (some (.int (nI 0))) (wI M (r + 1) (gFailR g q i my (nI ff) what who (g 4 + w)))) : J E 190 0 [.ref r, .int (nI q), .int (nI i), .int what, .int who, U0, U0, U0] [] (wI M (r + 1) g) Q := by
  refine J_p 4 (ls' := [_, _, _, _, _, _, _, _]) rfl ?_
  refine J_call rfl rfl rfl (decide_eq_true hS.t) rfl (c_letterOf hS q i 2 (by omega) rfl ?_)
  show J _ _ _ _ _ _ _
  refine J_p 2 (ls' := [_, _, _, _, _, _, _, _]) rfl ?_
  rw [h2]
  refine J_p 5 (ls' := [_, _, _, _, _, _, _, _]) rfl ?_
  refine J_call rfl rfl rfl (decide_eq_true hS.t) rfl (c_letterOf hS q i 5 (by omega) h5 ?_)
  show J _ _ _ _ _ _ _
  refine J_p 5 (ls' := [_, _, _, _, _, _, _, _]) rfl ?_
  refine J_n1 (n := 4 * my) (nI_mulE rfl rfl) ?_
  refine J_p 2 (ls' := [_, _, _, _, _, _, _, _]) rfl ?_
  refine J_M (congrArg (wI M (r + 1)) (funext fun z => ?_)) (c_fails_l (g := g) hS hq hn hi hd hy hf h0 h3 hm hw (4 * my) (Nat.le_refl _) k1 k2)
  simp only [gUp]
  rw [if_neg (by omega)]

end REF4