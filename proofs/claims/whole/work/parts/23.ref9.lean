/-! THE REFERENCE: refusing, ageing, counts. -/
/-- letter i of queue q fails: failed ff times now, w the wait -/
def gFailT (g : Nat → Int32) (q i n nd my ff : Nat) (m what who w : Int32) : Nat → Int32 :=
  if nI ff = g (3471 + 556 * q + 27) then gDie (gFailR g q i my (nI ff) what who (g 4 + w)) q i n nd (my + 1) m 0 0 else gFailR g q i my (nI ff) what who (g 4 + w)
/-- a letter that rests and whose time has come is ready -/
def gRdy (g : Nat → Int32) (q i : Nat) : Nat → Int32 :=
  if g (3471 + 556 * q + 36 + 26 * i + 1) = nI 1 ∧ g (3471 + 556 * q + 36 + 26 * i + 4) ≤ g 4 then upd (upd g (3471 + 556 * q + 36 + 26 * i + 1) (nI 0)) (3471 + 556 * q + 36 + 26 * i + 4) (-1) else g
theorem gRdy_oth {g : Nat → Int32} {q i z : Nat} (h1 : z ≠ 3471 + 556 * q + 36 + 26 * i + 1) (h4 : z ≠ 3471 + 556 * q + 36 + 26 * i + 4) : gRdy g q i z = g z := by
  unfold gRdy
  split
  · simp only [upd]
    rw [if_neg h4, if_neg h1]
  · rfl
/-- how long ago the message of letter i was published -/
def oldS (g : Nat → Int32) (q i : Nat) : Int32 := g 4 - g (51 + 9 * msgN g q i + 8)
def oldD (g : Nat → Int32) (q i : Nat) : Prop := g (3471 + 556 * q + 36 + 26 * i + 1) = 0 ∧ 0 < g (3471 + 556 * q + 29) ∧ g (3471 + 556 * q + 29) ≤ oldS g q i
section REF7
variable {E : Nat × Nat} {M : Mm} {r : Nat} {g : Nat → Int32} {Q : Option Value → Mm → Prop}
theorem c_refuses (hS : RS M r) {q i n nd my ff c : Nat} {m w : Int32} (hq : q < 8) (hn : n < 20) (hi : i ≤ n) (hd : nd ≤ 30) (hy : my ≤ 4) (hf : ff < 6) (hc : c < 10) (h0 : g (3471 + 556 * q + 35) = nI (n + 1)) (h3 : g 3 = nI nd) (hm : g (3471 + 556 * q + 36 + 26 * i + 0) = m) (hw : mI M (r + 5) ff = w) (h2 : g (3471 + 556 * q + 36 + 26 * i + 2) + nI 1 = nI ff) (h5 : g (3471 + 556 * q + 36 + 26 * i + 5) = nI my) (hcq : g (11 + 4 * c + 0) = nI q) (k : Q (some (.int (nI ff))) (wI M (r + 1) (gFailT (upd g (11 + 4 * c + 1) (cMore (g (11 + 4 * c + 1)))) q i n nd my ff m (nI 3) (nI c) w))) : J E 203 0 [.ref r, .int (nI c), .int (nI i), U0, U0, U0] [] (wI M (r + 1) g) Q := by
  refine J_p 3 (ls' := [_, _, _, _, _, _]) rfl ?_
  refine J_call rfl rfl rfl (decide_eq_true hS.t) rfl (c_ofConsumer hS c 0 (by omega) hcq ?_)
  show J _ _ _ _ _ _ _
  refine J_p 5 (ls' := [_, _, _, _, _, _]) rfl ?_
  refine J_call rfl rfl rfl (decide_eq_true hS.t) rfl (c_letterOf hS q i 2 (by omega) rfl ?_)
  show J _ _ _ _ _ _ _
  refine J_p 2 (ls' := [_, _, _, _, _, _]) rfl ?_
  rw [h2]
  refine J_p 3 (ls' := [_, _, _, _, _, _]) rfl ?_
  refine J_call rfl rfl rfl (decide_eq_true hS.t) rfl (c_credits hS hc ?_)
  show J _ _ _ _ _ _ _
  refine J_p 5 (ls' := [_, _, _, _, _, _]) rfl ?_
  refine J_call rfl rfl rfl (decide_eq_true hS.t) rfl (c_fails (g := (upd g (11 + 4 * c + 1) (cMore (g (11 + 4 * c + 1))))) (w := w) (n := n) (nd := nd) (my := my) (ff := ff) (m := m) hS hq hn hi hd hy hf (by simp only [upd]; rw [if_neg (by omega)]; exact h0) (by simp only [upd]; rw [if_neg (by omega)]; exact h3) (by simp only [upd]; rw [if_neg (by omega)]; exact hm) hw (by simp only [upd]; rw [if_neg (by omega)]; exact h2) (by simp only [upd]; rw [if_neg (by omega)]; exact h5) (fun hz => ?_) (fun hz => ?_))
  · simp only [gFailT, if_pos hz] at k
    show J _ _ _ _ _ _ _
    refine J_p 2 (ls' := [_, _, _, _, _, _]) rfl ?_
    exact J_ret rfl rfl rfl k
  · simp only [gFailT, if_neg hz] at k
    show J _ _ _ _ _ _ _
    refine J_p 2 (ls' := [_, _, _, _, _, _]) rfl ?_
    exact J_ret rfl rfl rfl k

theorem c_ages_3 (hS : RS M r) {q i n nd my : Nat} (hq : q < 8) (hn : n < 20) (hi : i ≤ n) (hd : nd ≤ 30) (hy : my ≤ 4) (h0 : g (3471 + 556 * q + 35) = nI (n + 1)) (h3 : g 3 = nI nd) (hmm : msgN g q i < 300) (hm : g (3471 + 556 * q + 36 + 26 * i + 0) = nI (msgN g q i)) (h5 : g (3471 + 556 * q + 36 + 26 * i + 5) = nI my) (k1 : oldD g q i → Q (some (.int (nI 1))) (wI M (r + 1) (gDie g q i n nd my (nI (msgN g q i)) (nI 5) (oldS g q i)))) (k2 : ¬ oldD g q i → Q (some (.int (nI 0))) (wI M (r + 1) g)) (x3 : Value) : J E 210 96 [.ref r, .int (nI q), .int (nI i), x3] [] (wI M (r + 1) g) Q := by
  refine J_p 1 (ls' := [_, _, _, _]) rfl ?_
  refine J_getR rfl hS.t hS.f0 ?_
  refine J_p 1 (ls' := [_, _, _, _]) rfl ?_
  refine J_gld (n := 4) rfl (by repeat' (first | with_reducible rfl | assumption | with_reducible refine nI_decE ?_ | with_reducible refine nI_addE ?_ ?_ | with_reducible refine nI_mulE ?_ ?_ | with_reducible refine nI_subE ?_ ?_ ?_ | omega | (with_reducible refine congrArg nI ?_; omega))) hS (by omega) rfl ?_
  refine J_p 5 (ls' := [_, _, _, _]) rfl ?_
  refine J_call rfl rfl rfl (decide_eq_true hS.t) rfl (c_letterOf hS q i 0 (by omega) hm ?_)
  show J _ _ _ _ _ _ _
  refine J_p 1 (ls' := [_, _, _, _]) rfl ?_
  refine J_call rfl rfl rfl (decide_eq_true hS.t) rfl (c_message hS (msgN g q i) 8 (by omega) rfl ?_)
  show J _ _ _ _ _ _ _
  refine J_p 6 (ls' := [_, _, _, _]) rfl ?_
  refine J_call rfl rfl rfl (decide_eq_true hS.t) rfl (c_letterOf hS q i 1 (by omega) rfl ?_)
  show J _ _ _ _ _ _ _
  refine J_zne rfl (fun b124 => ?_) (fun b124 => ?_)
  · skip
    have k := k2 (fun h => b124 h.1)
    refine J_p 1 (ls' := [_, _, _, _]) rfl ?_
    exact J_retB rfl (by decide) k
  · skip
    refine J_p 3 (ls' := [_, _, _, _]) rfl ?_
    refine J_call rfl rfl rfl (decide_eq_true hS.t) rfl (c_of hS q 29 (by omega) rfl ?_)
    show J _ _ _ _ _ _ _
    refine J_zle rfl (fun b134 => ?_) (fun b134 => ?_)
    · skip
      have k := k2 (fun h => z0le b134 h.2.1)
      refine J_p 1 (ls' := [_, _, _, _]) rfl ?_
      exact J_retB rfl (by decide) k
    · skip
      refine J_p 4 (ls' := [_, _, _, _]) rfl ?_
      refine J_call rfl rfl rfl (decide_eq_true hS.t) rfl (c_of hS q 29 (by omega) rfl ?_)
      show J _ _ _ _ _ _ _
      refine J_ilt rfl (fun b145 => ?_) (fun b145 => ?_)
      · skip
        have k := k2 (fun h => by have h1 := h.2.2; have h2 : oldS g q i < g (3471 + 556 * q + 29) := b145; rw [Int32.le_iff_toInt_le] at h1; rw [Int32.lt_iff_toInt_lt] at h2; omega)
        refine J_p 1 (ls' := [_, _, _, _]) rfl ?_
        exact J_retB rfl (by decide) k
      · skip
        have k := k1 ⟨b124, z0lt b134, by have h2 : ¬ oldS g q i < g (3471 + 556 * q + 29) := b145; rw [Int32.lt_iff_toInt_lt] at h2; rw [Int32.le_iff_toInt_le]; omega⟩
        refine J_p 5 (ls' := [_, _, _, _]) rfl ?_
        refine J_call rfl rfl rfl (decide_eq_true hS.t) rfl (c_dies1 (m := nI (msgN g q i)) (what := nI 5) (number := oldS g q i) (nd := nd) (my := my) hS hq hn hi hd (by decide) hy h0 h3 hm h5 ?_)
        show J _ _ _ _ _ _ _
        refine J_p 1 (ls' := [_, _, _, _]) rfl ?_
        exact J_retB rfl (by decide) k

theorem c_ages_2 (hS : RS M r) {q i n nd my : Nat} (hq : q < 8) (hn : n < 20) (hi : i ≤ n) (hd : nd ≤ 30) (hy : my ≤ 4) (h0 : g (3471 + 556 * q + 35) = nI (n + 1)) (h3 : g 3 = nI nd) (hmm : msgN g q i < 300) (hm : g (3471 + 556 * q + 36 + 26 * i + 0) = nI (msgN g q i)) (h5 : g (3471 + 556 * q + 36 + 26 * i + 5) = nI my) (k1 : oldD (gRdy g q i) q i → Q (some (.int (nI 1))) (wI M (r + 1) (gDie (gRdy g q i) q i n nd my (nI (msgN g q i)) (nI 5) (oldS (gRdy g q i) q i)))) (k2 : ¬ oldD (gRdy g q i) q i → Q (some (.int (nI 0))) (wI M (r + 1) (gRdy g q i))) (x3 : Value) : J E 210 53 [.ref r, .int (nI q), .int (nI i), x3] [] (wI M (r + 1) g) Q := by
  have em : msgN (gRdy g q i) q i = msgN g q i := by unfold msgN; rw [gRdy_oth (by omega) (by omega)]
  have fin : ∀ g', g' = gRdy g q i → J E 210 96 [.ref r, .int (nI q), .int (nI i), x3] [] (wI M (r + 1) g') Q := by
    rintro g' rfl
    exact c_ages_3 (my := my) (nd := nd) hS hq hn hi hd hy (by rw [gRdy_oth (by omega) (by omega)]; exact h0) (by rw [gRdy_oth (by omega) (by omega)]; exact h3) (by rw [em]; exact hmm) (by rw [em]; exact (by rw [gRdy_oth (by omega) (by omega)]; exact hm)) (by rw [gRdy_oth (by omega) (by omega)]; exact h5) (by rw [em]; exact k1) k2 x3
  refine J_p 4 (ls' := [_, _, _, _]) rfl ?_
  refine J_call rfl rfl rfl (decide_eq_true hS.t) rfl (c_letterOf hS q i 1 (by omega) rfl ?_)
  show J _ _ _ _ _ _ _
  refine J_p 1 (ls' := [_, _, _, _]) rfl ?_
  refine J_ine rfl (fun b61 => ?_) (fun b61 => ?_)
  · skip
    have e : g = gRdy g q i := by unfold gRdy; rw [if_neg (fun h => b61 h.1)]
    exact fin _ e
  · skip
    refine J_p 4 (ls' := [_, _, _, _]) rfl ?_
    refine J_call rfl rfl rfl (decide_eq_true hS.t) rfl (c_letterOf hS q i 4 (by omega) rfl ?_)
    show J _ _ _ _ _ _ _
    refine J_p 1 (ls' := [_, _, _, _]) rfl ?_
    refine J_getR rfl hS.t hS.f0 ?_
    refine J_p 1 (ls' := [_, _, _, _]) rfl ?_
    refine J_gld (n := 4) rfl (by repeat' (first | with_reducible rfl | assumption | with_reducible refine nI_decE ?_ | with_reducible refine nI_addE ?_ ?_ | with_reducible refine nI_mulE ?_ ?_ | with_reducible refine nI_subE ?_ ?_ ?_ | omega | (with_reducible refine congrArg nI ?_; omega))) hS (by omega) rfl ?_
    refine J_igt rfl (fun b77 => ?_) (fun b77 => ?_)
    · skip
      have e : g = gRdy g q i := by
        unfold gRdy
        rw [if_neg (fun h => by have h1 := h.2; have h2 : g 4 < g (3471 + 556 * q + 36 + 26 * i + 4) := b77; rw [Int32.le_iff_toInt_le] at h1; rw [Int32.lt_iff_toInt_lt] at h2; omega)]
      exact fin _ e
    · skip
      have e : upd (upd g (3471 + 556 * q + 36 + 26 * i + 1) (nI 0)) (3471 + 556 * q + 36 + 26 * i + 4) (-1) = gRdy g q i := by
        unfold gRdy
        rw [if_pos ⟨b61, by have h2 : ¬ g 4 < g (3471 + 556 * q + 36 + 26 * i + 4) := b77; rw [Int32.lt_iff_toInt_lt] at h2; rw [Int32.le_iff_toInt_le]; omega⟩]
      refine J_p 5 (ls' := [_, _, _, _]) rfl ?_
      refine J_call rfl rfl rfl (decide_eq_true hS.t) rfl (c_letterIs hS q i 1 _ (by omega) ?_)
      show J _ _ _ _ _ _ _
      refine J_p 5 (ls' := [_, _, _, _]) rfl ?_
      refine J_call rfl rfl rfl (decide_eq_true hS.t) rfl (c_letterIs hS q i 4 _ (by omega) ?_)
      show J _ _ _ _ _ _ _
      exact fin _ e

theorem c_lettersOf_l (hS : RS M r) {q n : Nat} {s : Int32} (hq : q < 8) (hn : n ≤ 20) (h0 : g (3471 + 556 * q + 35) = nI n) : ∀ (d kk : Nat), kk + d = n → Q (some (.int (sumS (fun i => o1 (g (3471 + 556 * q + 36 + 26 * i + 1) = s)) n))) (wI M (r + 1) g) → J E 217 5 [.ref r, .int (nI q), .int s, .int (sumS (fun i => o1 (g (3471 + 556 * q + 36 + 26 * i + 1) = s)) kk), .int (nI kk)] [] (wI M (r + 1) g) Q := by
  intro d
  induction d with
  | zero =>
    intro kk hk k
    refine J_p 4 (ls' := [_, _, _, _, _]) rfl ?_
    refine J_call rfl rfl rfl (decide_eq_true hS.t) rfl (c_of hS q 35 (by omega) h0 ?_)
    show J _ _ _ _ _ _ _
    refine J_ige rfl (fun b14 => ?_) (fun b14 => ?_)
    · skip
      refine J_p 1 (ls' := [_, _, _, _, _]) rfl ?_
      obtain rfl : kk = n := by omega
      exact J_ret rfl rfl rfl k
    · skip
      exact absurd (nI_le (a := n) (b := kk) (by omega) (by omega)) b14
  | succ d ih =>
    intro kk hk k
    refine J_p 4 (ls' := [_, _, _, _, _]) rfl ?_
    refine J_call rfl rfl rfl (decide_eq_true hS.t) rfl (c_of hS q 35 (by omega) h0 ?_)
    show J _ _ _ _ _ _ _
    refine J_ige rfl (fun b14 => ?_) (fun b14 => ?_)
    · skip
      exact absurd b14 (nI_ge (a := kk) (b := n) (by omega) (by omega))
    · skip
      refine J_p 5 (ls' := [_, _, _, _, _]) rfl ?_
      refine J_call rfl rfl rfl (decide_eq_true hS.t) rfl (c_letterOf hS q kk 1 (by omega) rfl ?_)
      show J _ _ _ _ _ _ _
      refine J_p 1 (ls' := [_, _, _, _, _]) rfl ?_
      refine J_ine rfl (fun b27 => ?_) (fun b27 => ?_)
      · skip
        refine J_p 5 (ls' := [_, _, _, _, _]) rfl ?_
        rw [nI_add kk 1]
        refine J_L (ls' := [.ref r, .int (nI q), .int s, .int (sumS (fun i => o1 (g (3471 + 556 * q + 36 + 26 * i + 1) = s)) (kk + 1)), .int (nI (kk + 1))]) ?_ (ih (kk + 1) (by omega) k)
        simp only [sumS, o1, b27]
        first | done | rfl
      · skip
        refine J_p 6 (ls' := [_, _, _, _, _]) rfl ?_
        rw [nI_add kk 1]
        refine J_L (ls' := [.ref r, .int (nI q), .int s, .int (sumS (fun i => o1 (g (3471 + 556 * q + 36 + 26 * i + 1) = s)) (kk + 1)), .int (nI (kk + 1))]) ?_ (ih (kk + 1) (by omega) k)
        simp only [sumS, o1, b27]
        first | done | rfl

theorem c_lettersOf (hS : RS M r) {q n : Nat} {s : Int32} (hq : q < 8) (hn : n ≤ 20) (h0 : g (3471 + 556 * q + 35) = nI n) (k : Q (some (.int (sumS (fun i => o1 (g (3471 + 556 * q + 36 + 26 * i + 1) = s)) n))) (wI M (r + 1) g)) : J E 217 0 [.ref r, .int (nI q), .int s, U0, U0] [] (wI M (r + 1) g) Q := by
  refine J_p 4 (ls' := [_, _, _, _, _]) rfl ?_
  exact c_lettersOf_l (E := E) (Q := Q) (g := g) hS hq hn h0 n 0 (by omega) k

theorem c_mayMany_l (hS : RS M r) {q n : Nat} (hq : q < 8) (hn : n ≤ 20) (hm : LM g q n) (h0 : g (3471 + 556 * q + 35) = nI n) : ∀ (d kk : Nat), kk + d = n → Q (some (.int (sumS (fun i => o1 (mayB g q i = true)) n))) (wI M (r + 1) g) → J E 218 4 [.ref r, .int (nI q), .int (sumS (fun i => o1 (mayB g q i = true)) kk), .int (nI kk)] [] (wI M (r + 1) g) Q := by
  intro d
  induction d with
  | zero =>
    intro kk hk k
    refine J_p 4 (ls' := [_, _, _, _]) rfl ?_
    refine J_call rfl rfl rfl (decide_eq_true hS.t) rfl (c_of hS q 35 (by omega) h0 ?_)
    show J _ _ _ _ _ _ _
    refine J_ige rfl (fun b12 => ?_) (fun b12 => ?_)
    · skip
      refine J_p 1 (ls' := [_, _, _, _]) rfl ?_
      obtain rfl : kk = n := by omega
      exact J_ret rfl rfl rfl k
    · skip
      exact absurd (nI_le (a := n) (b := kk) (by omega) (by omega)) b12
  | succ d ih =>
    intro kk hk k
    refine J_p 4 (ls' := [_, _, _, _]) rfl ?_
    refine J_call rfl rfl rfl (decide_eq_true hS.t) rfl (c_of hS q 35 (by omega) h0 ?_)
    show J _ _ _ _ _ _ _
    refine J_ige rfl (fun b12 => ?_) (fun b12 => ?_)
    · skip
      exact absurd b12 (nI_ge (a := kk) (b := n) (by omega) (by omega))
    · skip
      refine J_p 4 (ls' := [_, _, _, _]) rfl ?_
      refine J_call rfl rfl rfl (decide_eq_true hS.t) rfl (c_may hS hq hn (i := kk) (by omega) hm ?_)
      show J _ _ _ _ _ _ _
      refine J_zeq rfl (fun b22 => ?_) (fun b22 => ?_)
      · skip
        have hb := bI_z b22
        refine J_p 5 (ls' := [_, _, _, _]) rfl ?_
        rw [nI_add kk 1]
        refine J_L (ls' := [.ref r, .int (nI q), .int (sumS (fun i => o1 (mayB g q i = true)) (kk + 1)), .int (nI (kk + 1))]) ?_ (ih (kk + 1) (by omega) k)
        simp only [sumS, o1, hb]
        first | done | rfl
      · skip
        have hb := bI_nz b22
        refine J_p 6 (ls' := [_, _, _, _]) rfl ?_
        rw [nI_add kk 1]
        refine J_L (ls' := [.ref r, .int (nI q), .int (sumS (fun i => o1 (mayB g q i = true)) (kk + 1)), .int (nI (kk + 1))]) ?_ (ih (kk + 1) (by omega) k)
        simp only [sumS, o1, hb]
        first | done | rfl

theorem c_mayMany (hS : RS M r) {q n : Nat} (hq : q < 8) (hn : n ≤ 20) (hm : LM g q n) (h0 : g (3471 + 556 * q + 35) = nI n) (k : Q (some (.int (sumS (fun i => o1 (mayB g q i = true)) n))) (wI M (r + 1) g)) : J E 218 0 [.ref r, .int (nI q), U0, U0] [] (wI M (r + 1) g) Q := by
  refine J_p 4 (ls' := [_, _, _, _]) rfl ?_
  exact c_mayMany_l (E := E) (Q := Q) (g := g) hS hq hn hm h0 n 0 (by omega) k

end REF7