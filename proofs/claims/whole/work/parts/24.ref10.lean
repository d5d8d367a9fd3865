/-! THE REFERENCE: ageing of a letter that is out, consumers of a queue, the dead moved down, patterns. -/
def outD (g : Nat → Int32) (q i : Nat) : Prop := g (3471 + 556 * q + 36 + 26 * i + 1) = nI 2 ∧ g (3471 + 556 * q + 36 + 26 * i + 4) ≤ g 4
/-- consumer i of the dead is lost: the others behind move down -/
def gLose (g : Nat → Int32) (i nd : Nat) : Nat → Int32 := fun z => if z = 3 then nI nd else if 2751 + 24 * i ≤ z ∧ z < 2751 + 24 * nd then g (z + 24) else g z
def gLoseL (g : Nat → Int32) (i nd kk : Nat) : Nat → Int32 := fun z => if z = 3 then nI nd else if 2751 + 24 * i ≤ z ∧ z < 2751 + kk then g (z + 24) else g z
section REF8
variable {E : Nat × Nat} {M : Mm} {r : Nat} {g : Nat → Int32} {Q : Option Value → Mm → Prop}
theorem c_ages_1 (hS : RS M r) {q i n nd my ff c : Nat} {m w : Int32} (hq : q < 8) (hn : n < 20) (hi : i ≤ n) (hd : nd ≤ 30) (h0 : g (3471 + 556 * q + 35) = nI (n + 1)) (h3 : g 3 = nI nd) (hm : g (3471 + 556 * q + 36 + 26 * i + 0) = m)
    (ho : outD g q i → my ≤ 4 ∧ ff < 6 ∧ c < 10 ∧ mI M (r + 5) ff = w ∧ g (3471 + 556 * q + 36 + 26 * i + 2) + nI 1 = nI ff ∧ g (3471 + 556 * q + 36 + 26 * i + 5) = nI my ∧ g (3471 + 556 * q + 36 + 26 * i + 3) = nI c)
    (kA : outD g q i → nI ff = (upd g (11 + 4 * c + 1) (cMore (g (11 + 4 * c + 1)))) (3471 + 556 * q + 27) → Q (some (.int (nI 1))) (wI M (r + 1) (gFailT (upd g (11 + 4 * c + 1) (cMore (g (11 + 4 * c + 1)))) q i n nd my ff m (nI 4) (nI c) w)))
    (kB : outD g q i → ¬ nI ff = (upd g (11 + 4 * c + 1) (cMore (g (11 + 4 * c + 1)))) (3471 + 556 * q + 27) → J E 210 53 [.ref r, .int (nI q), .int (nI i), .int (nI c)] [] (wI M (r + 1) (gFailT (upd g (11 + 4 * c + 1) (cMore (g (11 + 4 * c + 1)))) q i n nd my ff m (nI 4) (nI c) w)) Q)
    (kC : ¬ outD g q i → J E 210 53 [.ref r, .int (nI q), .int (nI i), U0] [] (wI M (r + 1) g) Q) : J E 210 0 [.ref r, .int (nI q), .int (nI i), U0] [] (wI M (r + 1) g) Q := by
  refine J_p 4 (ls' := [_, _, _, _]) rfl ?_
  refine J_call rfl rfl rfl (decide_eq_true hS.t) rfl (c_letterOf hS q i 1 (by omega) rfl ?_)
  show J _ _ _ _ _ _ _
  refine J_p 1 (ls' := [_, _, _, _]) rfl ?_
  refine J_ine rfl (fun b8 => ?_) (fun b8 => ?_)
  · skip
    have kk := kC (fun h => b8 h.1)
    exact kk
  · skip
    refine J_p 4 (ls' := [_, _, _, _]) rfl ?_
    refine J_call rfl rfl rfl (decide_eq_true hS.t) rfl (c_letterOf hS q i 4 (by omega) rfl ?_)
    show J _ _ _ _ _ _ _
    refine J_p 1 (ls' := [_, _, _, _]) rfl ?_
    refine J_getR rfl hS.t hS.f0 ?_
    refine J_p 1 (ls' := [_, _, _, _]) rfl ?_
    refine J_gld (n := 4) rfl (by repeat' (first | with_reducible rfl | assumption | with_reducible refine nI_decE ?_ | with_reducible refine nI_addE ?_ ?_ | with_reducible refine nI_mulE ?_ ?_ | with_reducible refine nI_subE ?_ ?_ ?_ | omega | (with_reducible refine congrArg nI ?_; omega))) hS (by omega) rfl ?_
    refine J_igt rfl (fun b24 => ?_) (fun b24 => ?_)
    · skip
      have kk := kC (fun h => by have h1 := h.2; have h2 : g 4 < g (3471 + 556 * q + 36 + 26 * i + 4) := b24; rw [Int32.le_iff_toInt_le] at h1; rw [Int32.lt_iff_toInt_lt] at h2; omega)
      exact kk
    · skip
      have hod : outD g q i := ⟨b8, by have h2 : ¬ g 4 < g (3471 + 556 * q + 36 + 26 * i + 4) := b24; rw [Int32.lt_iff_toInt_lt] at h2; rw [Int32.le_iff_toInt_le]; omega⟩
      obtain ⟨hy, hf, hc, hw, h2, h5, hcc⟩ := ho hod
      refine J_p 4 (ls' := [_, _, _, _]) rfl ?_
      refine J_call rfl rfl rfl (decide_eq_true hS.t) rfl (c_letterOf hS q i 3 (by omega) hcc ?_)
      show J _ _ _ _ _ _ _
      refine J_p 3 (ls' := [_, _, _, _]) rfl ?_
      refine J_call rfl rfl rfl (decide_eq_true hS.t) rfl (c_credits hS hc ?_)
      show J _ _ _ _ _ _ _
      refine J_p 5 (ls' := [_, _, _, _]) rfl ?_
      refine J_call rfl rfl rfl (decide_eq_true hS.t) rfl (c_fails (g := (upd g (11 + 4 * c + 1) (cMore (g (11 + 4 * c + 1))))) (w := w) (n := n) (nd := nd) (my := my) (ff := ff) (m := m) hS hq hn hi hd hy hf (by simp only [upd]; rw [if_neg (by omega)]; exact h0) (by simp only [upd]; rw [if_neg (by omega)]; exact h3) (by simp only [upd]; rw [if_neg (by omega)]; exact hm) hw (by simp only [upd]; rw [if_neg (by omega)]; exact h2) (by simp only [upd]; rw [if_neg (by omega)]; exact h5) (fun hz => ?_) (fun hz => ?_))
      · have k := kA hod hz
        simp only [gFailT, if_pos hz] at k
        show J _ _ _ _ _ _ _
        refine J_zeq rfl (fun b => absurd b (by decide)) (fun b => ?_)
        refine J_p 1 (ls' := [_, _, _, _]) rfl ?_
        exact J_retB rfl (by decide) k
      · have k := kB hod hz
        simp only [gFailT, if_neg hz] at k
        show J _ _ _ _ _ _ _
        refine J_zeq rfl (fun b => ?_) (fun b => absurd rfl b)
        exact k

theorem c_lose_l (hS : RS M r) {i nd : Nat} (hi : i ≤ nd) (hd : nd < 30) : ∀ (d kk : Nat), kk + d = 24 * nd → 24 * i ≤ kk → Q none (wI M (r + 1) (gLose g i nd)) → J E 214 19 [.ref r, .int (nI i), .int (nI (2751 + kk))] [] (wI M (r + 1) (gLoseL g i nd kk)) Q := by
  intro d
  induction d with
  | zero =>
    intro kk hk hki k
    refine J_p 4 (ls' := [_, _, _]) rfl ?_
    refine J_getR rfl hS.t hS.f0 ?_
    refine J_p 1 (ls' := [_, _, _]) rfl ?_
    refine J_gld (n := 3) rfl (by repeat' (first | with_reducible rfl | assumption | with_reducible refine nI_decE ?_ | with_reducible refine nI_addE ?_ ?_ | with_reducible refine nI_mulE ?_ ?_ | with_reducible refine nI_subE ?_ ?_ ?_ | omega | (with_reducible refine congrArg nI ?_; omega))) hS (by omega) (if_pos rfl) ?_
    refine J_p 2 (ls' := [_, _, _]) rfl ?_
    refine J_n0 (n := 2751 + 24 * nd) (by repeat' (first | with_reducible rfl | assumption | with_reducible refine nI_decE ?_ | with_reducible refine nI_addE ?_ ?_ | with_reducible refine nI_mulE ?_ ?_ | with_reducible refine nI_subE ?_ ?_ ?_ | omega | (with_reducible refine congrArg nI ?_; omega))) ?_
    refine J_ige rfl (fun b33 => ?_) (fun b33 => ?_)
    · skip
      obtain rfl : kk = 24 * nd := by omega
      exact J_ret rfl rfl rfl k
    · skip
      exact absurd (nI_le (a := 2751 + 24 * nd) (b := 2751 + kk) (by omega) (by omega)) b33
  | succ d ih =>
    intro kk hk hki k
    refine J_p 4 (ls' := [_, _, _]) rfl ?_
    refine J_getR rfl hS.t hS.f0 ?_
    refine J_p 1 (ls' := [_, _, _]) rfl ?_
    refine J_gld (n := 3) rfl (by repeat' (first | with_reducible rfl | assumption | with_reducible refine nI_decE ?_ | with_reducible refine nI_addE ?_ ?_ | with_reducible refine nI_mulE ?_ ?_ | with_reducible refine nI_subE ?_ ?_ ?_ | omega | (with_reducible refine congrArg nI ?_; omega))) hS (by omega) (if_pos rfl) ?_
    refine J_p 2 (ls' := [_, _, _]) rfl ?_
    refine J_n0 (n := 2751 + 24 * nd) (by repeat' (first | with_reducible rfl | assumption | with_reducible refine nI_decE ?_ | with_reducible refine nI_addE ?_ ?_ | with_reducible refine nI_mulE ?_ ?_ | with_reducible refine nI_subE ?_ ?_ ?_ | omega | (with_reducible refine congrArg nI ?_; omega))) ?_
    refine J_ige rfl (fun b33 => ?_) (fun b33 => ?_)
    · skip
      exact absurd b33 (nI_ge (a := 2751 + kk) (b := 2751 + 24 * nd) (by omega) (by omega))
    · skip
      refine J_p 1 (ls' := [_, _, _]) rfl ?_
      refine J_getR rfl hS.t hS.f0 ?_
      refine J_p 2 (ls' := [_, _, _]) rfl ?_
      refine J_getR rfl hS.t hS.f0 ?_
      refine J_p 3 (ls' := [_, _, _]) rfl ?_
      refine J_gld (n := (2751 + kk) + 24) rfl (by repeat' (first | with_reducible rfl | assumption | with_reducible refine nI_decE ?_ | with_reducible refine nI_addE ?_ ?_ | with_reducible refine nI_mulE ?_ ?_ | with_reducible refine nI_subE ?_ ?_ ?_ | omega | (with_reducible refine congrArg nI ?_; omega))) hS (by omega) (show _ = g (2751 + kk + 24) by simp only [gLoseL]; rw [if_neg (by omega), if_neg (by omega)]) ?_
      refine J_gst (n := (2751 + kk)) rfl (by repeat' (first | with_reducible rfl | assumption | with_reducible refine nI_decE ?_ | with_reducible refine nI_addE ?_ ?_ | with_reducible refine nI_mulE ?_ ?_ | with_reducible refine nI_subE ?_ ?_ ?_ | omega | (with_reducible refine congrArg nI ?_; omega))) hS (by omega) ?_
      refine J_p 2 (ls' := [_, _, _]) rfl ?_
      rw [nI_add (2751 + kk) 1]
      refine J_M (congrArg (wI M (r + 1)) (funext fun z => ?_)) (ih (kk + 1) (by omega) (by omega) k)
      simp only [upd, gLoseL]
      repeat' split
      all_goals first | rfl | (exfalso; omega) | (congr 1; omega)

theorem c_losesDead (hS : RS M r) {i nd : Nat} (hi : i ≤ nd) (hd : nd < 30) (h3 : g 3 = nI (nd + 1)) (k : Q none (wI M (r + 1) (gLose g i nd))) : J E 214 0 [.ref r, .int (nI i), U0] [] (wI M (r + 1) g) Q := by
  refine J_p 1 (ls' := [_, _, _]) rfl ?_
  refine J_getR rfl hS.t hS.f0 ?_
  refine J_p 2 (ls' := [_, _, _]) rfl ?_
  refine J_gld (n := 3) rfl (by repeat' (first | with_reducible rfl | assumption | with_reducible refine nI_decE ?_ | with_reducible refine nI_addE ?_ ?_ | with_reducible refine nI_mulE ?_ ?_ | with_reducible refine nI_subE ?_ ?_ ?_ | omega | (with_reducible refine congrArg nI ?_; omega))) hS (by omega) h3 ?_
  refine J_p 2 (ls' := [_, _, _]) rfl ?_
  refine J_gst (n := 3) rfl (by repeat' (first | with_reducible rfl | assumption | with_reducible refine nI_decE ?_ | with_reducible refine nI_addE ?_ ?_ | with_reducible refine nI_mulE ?_ ?_ | with_reducible refine nI_subE ?_ ?_ ?_ | omega | (with_reducible refine congrArg nI ?_; omega))) hS (by omega) ?_
  refine J_p 5 (ls' := [_, _, _]) rfl ?_
  refine J_n0 (n := 2751 + 24 * i) (by repeat' (first | with_reducible rfl | assumption | with_reducible refine nI_decE ?_ | with_reducible refine nI_addE ?_ ?_ | with_reducible refine nI_mulE ?_ ?_ | with_reducible refine nI_subE ?_ ?_ ?_ | omega | (with_reducible refine congrArg nI ?_; omega))) ?_
  refine J_p 1 (ls' := [_, _, _]) rfl ?_
  have := c_lose_l (E := E) (Q := Q) (g := g) hS hi hd (24 * nd - 24 * i) (24 * i) (by omega) (Nat.le_refl _) k
  refine J_M (congrArg (wI M (r + 1)) (funext fun z => ?_)) this
  have e1 : nI (nd + 1) - nI 1 = nI nd := nI_subE (m := nd + 1) (n := 1) rfl rfl (by omega)
  simp only [upd, gLoseL, e1]
  repeat' split
  all_goals first | rfl | (exfalso; omega) | (congr 1; omega)

def coS (g : Nat → Int32) (q : Nat) (cr : Prop) [Decidable cr] (c : Nat) : Int32 := if atS g q c = true then (if cr then g (11 + 4 * c + 1) else nI 1) else nI 0
theorem add_nI0 (x : Int32) : x + nI 0 = x := by
  have : nI 0 = 0 := by decide
  rw [this, Int32.add_zero]

theorem c_consumersOf_l (hS : RS M r) {q n : Nat} {b : Int32} (hq : q < 8) (hn : n ≤ 10) (h1 : g 1 = nI n) : ∀ (d kk : Nat), kk + d = n → Q (some (.int (sumS (coS g q (¬ b = 0)) n))) (wI M (r + 1) g) → J E 219 5 [.ref r, .int (nI q), .int b, .int (sumS (coS g q (¬ b = 0)) kk), .int (nI kk)] [] (wI M (r + 1) g) Q := by
  intro d
  induction d with
  | zero =>
    intro kk hk k
    refine J_p 2 (ls' := [_, _, _, _, _]) rfl ?_
    refine J_getR rfl hS.t hS.f0 ?_
    refine J_p 1 (ls' := [_, _, _, _, _]) rfl ?_
    refine J_gld (n := 1) rfl (by repeat' (first | with_reducible rfl | assumption | with_reducible refine nI_decE ?_ | with_reducible refine nI_addE ?_ ?_ | with_reducible refine nI_mulE ?_ ?_ | with_reducible refine nI_subE ?_ ?_ ?_ | omega | (with_reducible refine congrArg nI ?_; omega))) hS (by omega) h1 ?_
    refine J_ige rfl (fun b13 => ?_) (fun b13 => ?_)
    · skip
      refine J_p 1 (ls' := [_, _, _, _, _]) rfl ?_
      obtain rfl : kk = n := by omega
      exact J_ret rfl rfl rfl k
    · skip
      exact absurd (nI_le (a := n) (b := kk) (by omega) (by omega)) b13
  | succ d ih =>
    intro kk hk k
    refine J_p 2 (ls' := [_, _, _, _, _]) rfl ?_
    refine J_getR rfl hS.t hS.f0 ?_
    refine J_p 1 (ls' := [_, _, _, _, _]) rfl ?_
    refine J_gld (n := 1) rfl (by repeat' (first | with_reducible rfl | assumption | with_reducible refine nI_decE ?_ | with_reducible refine nI_addE ?_ ?_ | with_reducible refine nI_mulE ?_ ?_ | with_reducible refine nI_subE ?_ ?_ ?_ | omega | (with_reducible refine congrArg nI ?_; omega))) hS (by omega) h1 ?_
    refine J_ige rfl (fun b13 => ?_) (fun b13 => ?_)
    · skip
      exact absurd b13 (nI_ge (a := kk) (b := n) (by omega) (by omega))
    · skip
      refine J_p 2 (ls' := [_, _, _, _, _]) rfl ?_
      refine J_call rfl rfl rfl (decide_eq_true hS.t) rfl (c_isHere hS kk h1 hn (by omega) ?_)
      show J _ _ _ _ _ _ _
      refine J_zeq rfl (fun b22 => ?_) (fun b22 => ?_)
      · skip
        have hv : (coS g q (¬ b = 0)) kk = nI 0 := by unfold coS; rw [if_neg (ijn1 (bI_z b22))]
        refine J_p 2 (ls' := [_, _, _, _, _]) rfl ?_
        rw [nI_add kk 1]
        refine J_L (ls' := [.ref r, .int (nI q), .int b, .int (sumS (coS g q (¬ b = 0)) (kk + 1)), .int (nI (kk + 1))]) ?_ (ih (kk + 1) (by omega) k)
        simp only [sumS, hv]
        first | done | rfl | rw [add_nI0]
      · skip
        refine J_p 3 (ls' := [_, _, _, _, _]) rfl ?_
        refine J_call rfl rfl rfl (decide_eq_true hS.t) rfl (c_ofConsumer hS kk 0 (by omega) rfl ?_)
        show J _ _ _ _ _ _ _
        refine J_p 1 (ls' := [_, _, _, _, _]) rfl ?_
        refine J_ine rfl (fun b33 => ?_) (fun b33 => ?_)
        · skip
          have hv : (coS g q (¬ b = 0)) kk = nI 0 := by unfold coS; rw [if_neg (ijn2 b33)]
          refine J_p 2 (ls' := [_, _, _, _, _]) rfl ?_
          rw [nI_add kk 1]
          refine J_L (ls' := [.ref r, .int (nI q), .int b, .int (sumS (coS g q (¬ b = 0)) (kk + 1)), .int (nI (kk + 1))]) ?_ (ih (kk + 1) (by omega) k)
          simp only [sumS, hv]
          first | done | rfl | rw [add_nI0]
        · skip
          refine J_p 2 (ls' := [_, _, _, _, _]) rfl ?_
          refine J_zeq rfl (fun b38 => ?_) (fun b38 => ?_)
          · skip
            have hv : (coS g q (¬ b = 0)) kk = nI 1 := by unfold coS; rw [if_pos (ij0 (bI_nz b22) b33), if_neg (fun h => h b38)]
            refine J_p 5 (ls' := [_, _, _, _, _]) rfl ?_
            rw [nI_add kk 1]
            refine J_L (ls' := [.ref r, .int (nI q), .int b, .int (sumS (coS g q (¬ b = 0)) (kk + 1)), .int (nI (kk + 1))]) ?_ (ih (kk + 1) (by omega) k)
            simp only [sumS, hv]
            first | done | rfl | rw [add_nI0]
          · skip
            have hv : (coS g q (¬ b = 0)) kk = g (11 + 4 * kk + 1) := by unfold coS; rw [if_pos (ij0 (bI_nz b22) b33), if_pos b38]
            refine J_p 3 (ls' := [_, _, _, _, _]) rfl ?_
            refine J_call rfl rfl rfl (decide_eq_true hS.t) rfl (c_ofConsumer hS kk 1 (by omega) rfl ?_)
            show J _ _ _ _ _ _ _
            refine J_p 5 (ls' := [_, _, _, _, _]) rfl ?_
            rw [nI_add kk 1]
            refine J_L (ls' := [.ref r, .int (nI q), .int b, .int (sumS (coS g q (¬ b = 0)) (kk + 1)), .int (nI (kk + 1))]) ?_ (ih (kk + 1) (by omega) k)
            simp only [sumS, hv]
            first | done | rfl | rw [add_nI0]

theorem c_consumersOf (hS : RS M r) {q n : Nat} {b : Int32} (hq : q < 8) (hn : n ≤ 10) (h1 : g 1 = nI n) (k : Q (some (.int (sumS (coS g q (¬ b = 0)) n))) (wI M (r + 1) g)) : J E 219 0 [.ref r, .int (nI q), .int b, U0, U0] [] (wI M (r + 1) g) Q := by
  refine J_p 4 (ls' := [_, _, _, _, _]) rfl ?_
  exact c_consumersOf_l (E := E) (Q := Q) (g := g) hS hq hn h1 n 0 (by omega) k

/-- the parts of queue q's pattern, whether its last is open, whether topics of so many parts may fit, part k -/
def opS (g : Nat → Int32) (q p : Nat) : Prop := g (3471 + 556 * q + p) = -3
def lgS (g : Nat → Int32) (q p s : Nat) : Prop := (g (3471 + 556 * q + p) = -3 ∧ p ≤ s + 1) ∨ (¬ g (3471 + 556 * q + p) = -3 ∧ s = p)
def ptS (g : Nat → Int32) (q p k : Nat) : Int32 := if p ≤ k then -2 else if g (3471 + 556 * q + (1 + k)) = -3 then -2 else g (3471 + 556 * q + (1 + k))

theorem c_isLong (hS : RS M r) {q p : Nat} (hq : q < 8) (h1p : 1 ≤ p) (hp : p ≤ 4) (h0 : g (3471 + 556 * q + 0) = nI p) {s : Nat} (hs : s ≤ 4) (kt : lgS g q p s → Q (some (.int (nI 1))) (wI M (r + 1) g)) (kf : ¬ lgS g q p s → Q (some (.int (nI 0))) (wI M (r + 1) g)) : J E 179 0 [.ref r, .int (nI q), .int (nI s), U0] [] (wI M (r + 1) g) Q := by
  refine J_p 5 (ls' := [_, _, _, _]) rfl ?_
  refine J_call rfl rfl rfl (decide_eq_true hS.t) rfl (c_of hS q 0 (by omega) h0 ?_)
  show J _ _ _ _ _ _ _
  refine J_call rfl rfl rfl (decide_eq_true hS.t) rfl (c_of hS q p (by omega) rfl ?_)
  show J _ _ _ _ _ _ _
  refine J_p 1 (ls' := [_, _, _, _]) rfl ?_
  refine J_ine rfl (fun b13 => ?_) (fun b13 => ?_)
  · skip
    refine J_p 3 (ls' := [_, _, _, _]) rfl ?_
    refine J_zeq rfl (fun b23 => ?_) (fun b23 => ?_)
    · skip
      refine J_p 4 (ls' := [_, _, _, _]) rfl ?_
      refine J_call rfl rfl rfl (decide_eq_true hS.t) rfl (c_of hS q 0 (by omega) h0 ?_)
      show J _ _ _ _ _ _ _
      refine J_ine rfl (fun b53 => ?_) (fun b53 => ?_)
      · skip
        have k := kf (fun h => by
          rcases h with h | h
          · exact b13 h.1
          · exact b53 (by rw [h.2]))
        refine J_p 1 (ls' := [_, _, _, _]) rfl ?_
        exact J_retB rfl (by decide) k
      · skip
        have k := kt (Or.inr ⟨b13, (nI_eq (by omega) (by omega)).mp b53⟩)
        refine J_p 2 (ls' := [_, _, _, _]) rfl ?_
        exact J_retB rfl (by decide) k
    · skip
      exact absurd rfl b23
  · skip
    refine J_p 4 (ls' := [_, _, _, _]) rfl ?_
    refine J_zeq rfl (fun b23 => ?_) (fun b23 => ?_)
    · skip
      exact absurd b23 (by decide)
    · skip
      refine J_p 4 (ls' := [_, _, _, _]) rfl ?_
      refine J_call rfl rfl rfl (decide_eq_true hS.t) rfl (c_of hS q 0 (by omega) h0 ?_)
      show J _ _ _ _ _ _ _
      refine J_p 2 (ls' := [_, _, _, _]) rfl ?_
      refine J_n0 (n := p - 1) (by repeat' (first | with_reducible rfl | assumption | with_reducible refine nI_decE ?_ | with_reducible refine nI_addE ?_ ?_ | with_reducible refine nI_mulE ?_ ?_ | with_reducible refine nI_subE ?_ ?_ ?_ | omega | (with_reducible refine congrArg nI ?_; omega))) ?_
      refine J_ilt rfl (fun b35 => ?_) (fun b35 => ?_)
      · skip
        have k := kf (fun h => by
          rcases h with h | h
          · have := (nI_ltI (by omega) (by omega)).mp b35; omega
          · exact h.1 b13)
        refine J_p 2 (ls' := [_, _, _, _]) rfl ?_
        exact J_retB rfl (by decide) k
      · skip
        have k := kt (Or.inl ⟨b13, (fun hh : ¬ s < p - 1 => (by omega : p ≤ s + 1)) (fun h => b35 (nI_lt h (by omega)))⟩)
        refine J_p 2 (ls' := [_, _, _, _]) rfl ?_
        exact J_retB rfl (by decide) k

theorem c_partOf (hS : RS M r) {q p : Nat} (hq : q < 8) (h1p : 1 ≤ p) (hp : p ≤ 4) (h0 : g (3471 + 556 * q + 0) = nI p) {s : Nat} (hs : s ≤ 4) (k : Q (some (.int (ptS g q p s))) (wI M (r + 1) g)) : J E 180 0 [.ref r, .int (nI q), .int (nI s)] [] (wI M (r + 1) g) Q := by
  refine J_p 4 (ls' := [_, _, _]) rfl ?_
  refine J_call rfl rfl rfl (decide_eq_true hS.t) rfl (c_of hS q 0 (by omega) h0 ?_)
  show J _ _ _ _ _ _ _
  refine J_ige rfl (fun b7 => ?_) (fun b7 => ?_)
  · skip
    rw [ptS, if_pos ((nI_leI (by omega) (by omega)).mp b7)] at k
    refine J_p 2 (ls' := [_, _, _]) rfl ?_
    exact J_ret rfl rfl rfl k
  · skip
    have h7 : ¬ p ≤ s := fun h => b7 (nI_le h (by omega))
    refine J_p 5 (ls' := [_, _, _]) rfl ?_
    refine J_n0 (n := 1 + s) (by repeat' (first | with_reducible rfl | assumption | with_reducible refine nI_decE ?_ | with_reducible refine nI_addE ?_ ?_ | with_reducible refine nI_mulE ?_ ?_ | with_reducible refine nI_subE ?_ ?_ ?_ | omega | (with_reducible refine congrArg nI ?_; omega))) ?_
    refine J_call rfl rfl rfl (decide_eq_true hS.t) rfl (c_of hS q (1 + s) (by omega) rfl ?_)
    show J _ _ _ _ _ _ _
    refine J_p 1 (ls' := [_, _, _]) rfl ?_
    refine J_ine rfl (fun b20 => ?_) (fun b20 => ?_)
    · skip
      rw [ptS, if_neg h7, if_neg b20] at k
      refine J_p 5 (ls' := [_, _, _]) rfl ?_
      refine J_n0 (n := 1 + s) (by repeat' (first | with_reducible rfl | assumption | with_reducible refine nI_decE ?_ | with_reducible refine nI_addE ?_ ?_ | with_reducible refine nI_mulE ?_ ?_ | with_reducible refine nI_subE ?_ ?_ ?_ | omega | (with_reducible refine congrArg nI ?_; omega))) ?_
      refine J_call rfl rfl rfl (decide_eq_true hS.t) rfl (c_of hS q (1 + s) (by omega) rfl ?_)
      show J _ _ _ _ _ _ _
      exact J_ret rfl rfl rfl k
    · skip
      rw [ptS, if_neg h7, if_pos b20] at k
      refine J_p 2 (ls' := [_, _, _]) rfl ?_
      exact J_ret rfl rfl rfl k

end REF8