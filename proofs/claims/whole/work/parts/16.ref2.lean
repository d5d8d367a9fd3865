/-! THE REFERENCE: letters come and go in its row. -/
section REF2
variable {E : Nat × Nat} {M : Mm} {r : Nat} {g : Nat → Int32} {Q : Option Value → Mm → Prop}
theorem c_copies_l {a b n : Nat} (f0 : Nat → Int32) (hn : n = 7919) (ha : mT M a = 20) (hla : mS M a = 7919) (hb : mT M b = 20) (hlb : mS M b = 7919) (hab : a ≠ b) (hf : mI M a = f0) (h0 : Nat → Int32) : ∀ (d kk : Nat), kk + d = n → Q none (wI M b (fun z => if z < n then f0 z else h0 z)) → J E 161 2 [.ref a, .ref b, .int (nI kk)] [] (wI M b (fun z => if z < kk then f0 z else h0 z)) Q := by
  intro d
  induction d with
  | zero =>
    intro kk hk k
    refine J_p 2 (ls' := [_, _, _]) rfl ?_
    refine J_ige rfl (fun b6 => ?_) (fun b6 => ?_)
    · skip
      have hkk : kk = n := by omega
      subst hkk
      exact J_ret rfl rfl rfl k
    · skip
      exact absurd (nI_le (a := 7919) (b := kk) (by omega) (by omega)) b6
  | succ d ih =>
    intro kk hk k
    refine J_p 2 (ls' := [_, _, _]) rfl ?_
    refine J_ige rfl (fun b6 => ?_) (fun b6 => ?_)
    · skip
      exact absurd b6 (nI_ge (a := kk) (b := 7919) (by omega) (by omega))
    · skip
      refine J_p 4 (ls' := [_, _, _]) rfl ?_
      refine J_iald (n := kk) rfl (by repeat' (first | with_reducible rfl | assumption | with_reducible refine nI_decE ?_ | with_reducible refine nI_addE ?_ ?_ | with_reducible refine nI_mulE ?_ ?_ | with_reducible refine nI_subE ?_ ?_ ?_ | omega | (with_reducible refine congrArg nI ?_; omega))) (Or.inl ha) hla (by omega) (by omega) ?_
      refine J_iast (n := kk) rfl (by repeat' (first | with_reducible rfl | assumption | with_reducible refine nI_decE ?_ | with_reducible refine nI_addE ?_ ?_ | with_reducible refine nI_mulE ?_ ?_ | with_reducible refine nI_subE ?_ ?_ ?_ | omega | (with_reducible refine congrArg nI ?_; omega))) (show mT (wI M b _) b = 20 from hb) (show mS (wI M b _) b = 7919 from hlb) (by omega) (by omega) ?_
      refine J_p 2 (ls' := [_, _, _]) rfl ?_
      rw [nI_add kk 1, mI_oth _ _ hab, hf, sI_wg]
      refine J_M (congrArg (wI M b) (funext fun z => ?_)) (ih (kk + 1) (by omega) k)
      simp only [upd]
      repeat' split
      all_goals first | rfl | (exfalso; omega) | (congr 1; omega)

theorem c_copies {a b : Nat} {f0 h0 : Nat → Int32} (ha : mT M a = 20) (hla : mS M a = 7919) (hb : mT M b = 20) (hlb : mS M b = 7919) (hab : a ≠ b) (hf : mI M a = f0) (hh : mI M b = h0) (z1 : ∀ z, 7919 ≤ z → f0 z = 0) (z2 : ∀ z, 7919 ≤ z → h0 z = 0) (k : Q none (wI M b f0)) : J E 161 0 [.ref a, .ref b, U0] [] M Q := by
  have e : (fun z => if z < 7919 then f0 z else h0 z) = f0 := by
    funext z
    split
    · rfl
    · rw [z1 z (by omega), z2 z (by omega)]
  refine J_p 2 (ls' := [_, _, _]) rfl ?_
  have := c_copies_l (E := E) (Q := Q) (n := 7919) f0 rfl ha hla hb hlb hab hf h0 7919 0 (by omega) (by rw [e]; exact k)
  have e2 : wI M b (fun z => if z < 0 then f0 z else h0 z) = M := by
    have : (fun z => if z < 0 then f0 z else h0 z) = mI M b := by rw [hh]; funext z; exact if_neg (by omega)
    rw [this, wI_id]
  rw [e2] at this
  exact this

def gGo (g : Nat → Int32) (q i n : Nat) : Nat → Int32 := fun z => if z = 3471 + 556 * q + 35 then nI n else if 3471 + 556 * q + 36 + 26 * i ≤ z ∧ z < 3471 + 556 * q + 36 + 26 * n then g (z + 26) else g z
def gGoL (g : Nat → Int32) (q i kk : Nat) : Nat → Int32 := fun z => if 3471 + 556 * q + 36 + 26 * i ≤ z ∧ z < 3471 + 556 * q + 36 + kk then g (z + 26) else g z

theorem c_goes_l (hS : RS M r) {q i n : Nat} (hq : q < 8) (hn : n < 20) : ∀ (d kk : Nat), kk + d = 26 * n → 26 * i ≤ kk → Q none (wI M (r + 1) (gGo g q i n)) → J E 185 16 [.ref r, .int (nI q), .int (nI i), .int (nI n), .int (nI kk)] [] (wI M (r + 1) (gGoL g q i kk)) Q := by
  intro d
  induction d with
  | zero =>
    intro kk hk hi k
    refine J_p 4 (ls' := [_, _, _, _, _]) rfl ?_
    refine J_n0 (n := 26 * n) (by repeat' (first | with_reducible rfl | assumption | with_reducible refine nI_decE ?_ | with_reducible refine nI_addE ?_ ?_ | with_reducible refine nI_mulE ?_ ?_ | with_reducible refine nI_subE ?_ ?_ ?_ | omega | (with_reducible refine congrArg nI ?_; omega))) ?_
    refine J_ige rfl (fun b22 => ?_) (fun b22 => ?_)
    · skip
      refine J_p 4 (ls' := [_, _, _, _, _]) rfl ?_
      refine J_call rfl rfl rfl (decide_eq_true hS.t) rfl (c_is hS q 35 _ (by omega) ?_)
      show J _ _ _ _ _ _ _
      refine J_ret rfl rfl rfl ?_
      have e : upd (gGoL g q i kk) (3471 + 556 * q + 35) (nI n) = gGo g q i n := by
        funext z
        simp only [upd, gGoL, gGo, show kk = 26 * n by omega]
      rw [e]; exact k
    · skip
      exact absurd (nI_le (a := 26 * n) (b := kk) (by omega) (by omega)) b22
  | succ d ih =>
    intro kk hk hi k
    refine J_p 4 (ls' := [_, _, _, _, _]) rfl ?_
    refine J_n0 (n := 26 * n) (by repeat' (first | with_reducible rfl | assumption | with_reducible refine nI_decE ?_ | with_reducible refine nI_addE ?_ ?_ | with_reducible refine nI_mulE ?_ ?_ | with_reducible refine nI_subE ?_ ?_ ?_ | omega | (with_reducible refine congrArg nI ?_; omega))) ?_
    refine J_ige rfl (fun b22 => ?_) (fun b22 => ?_)
    · skip
      exact absurd b22 (nI_ge (a := kk) (b := 26 * n) (by omega) (by omega))
    · skip
      refine J_p 12 (ls' := [_, _, _, _, _]) rfl ?_
      refine J_n0 (n := 36 + kk + 26) (by repeat' (first | with_reducible rfl | assumption | with_reducible refine nI_decE ?_ | with_reducible refine nI_addE ?_ ?_ | with_reducible refine nI_mulE ?_ ?_ | with_reducible refine nI_subE ?_ ?_ ?_ | omega | (with_reducible refine congrArg nI ?_; omega))) ?_
      refine J_call rfl rfl rfl (decide_eq_true hS.t) rfl (c_of hS q (36 + kk + 26) (z := g (3471 + 556 * q + 36 + kk + 26)) (by omega) (by simp only [gGoL]; rw [if_neg (by omega)]; exact congrArg g (by omega)) ?_)
      show J _ _ _ _ _ _ _
      refine J_n1 (n := 36 + kk) (by repeat' (first | with_reducible rfl | assumption | with_reducible refine nI_decE ?_ | with_reducible refine nI_addE ?_ ?_ | with_reducible refine nI_mulE ?_ ?_ | with_reducible refine nI_subE ?_ ?_ ?_ | omega | (with_reducible refine congrArg nI ?_; omega))) ?_
      refine J_call rfl rfl rfl (decide_eq_true hS.t) rfl (c_is hS q (36 + kk) _ (by omega) ?_)
      show J _ _ _ _ _ _ _
      refine J_p 2 (ls' := [_, _, _, _, _]) rfl ?_
      rw [nI_add kk 1]
      refine J_M (congrArg (wI M (r + 1)) (funext fun z => ?_)) (ih (kk + 1) (by omega) (by omega) k)
      simp only [upd, gGoL]
      repeat' split
      all_goals first | rfl | (exfalso; omega) | (congr 1; omega)

theorem c_goes (hS : RS M r) {q i n : Nat} (hq : q < 8) (hn : n < 20) (hi : i ≤ n) (h0 : g (3471 + 556 * q + 35) = nI (n + 1)) (k : Q none (wI M (r + 1) (gGo g q i n))) : J E 185 0 [.ref r, .int (nI q), .int (nI i), U0, U0] [] (wI M (r + 1) g) Q := by
  refine J_p 3 (ls' := [_, _, _, _, _]) rfl ?_
  refine J_call rfl rfl rfl (decide_eq_true hS.t) rfl (c_of hS q 35 (by omega) h0 ?_)
  show J _ _ _ _ _ _ _
  refine J_p 2 (ls' := [_, _, _, _, _]) rfl ?_
  refine J_n0 (n := (n + 1) - 1) (by repeat' (first | with_reducible rfl | assumption | with_reducible refine nI_decE ?_ | with_reducible refine nI_addE ?_ ?_ | with_reducible refine nI_mulE ?_ ?_ | with_reducible refine nI_subE ?_ ?_ ?_ | omega | (with_reducible refine congrArg nI ?_; omega))) ?_
  refine J_p 4 (ls' := [_, _, _, _, _]) rfl ?_
  refine J_n0 (n := 26 * i) (by repeat' (first | with_reducible rfl | assumption | with_reducible refine nI_decE ?_ | with_reducible refine nI_addE ?_ ?_ | with_reducible refine nI_mulE ?_ ?_ | with_reducible refine nI_subE ?_ ?_ ?_ | omega | (with_reducible refine congrArg nI ?_; omega))) ?_
  refine J_p 1 (ls' := [_, _, _, _, _]) rfl ?_
  have := c_goes_l (E := E) (Q := Q) (g := g) hS (i := i) hq hn (26 * n - 26 * i) (26 * i) (by omega) (Nat.le_refl _) k
  refine J_M (congrArg (wI M (r + 1)) (funext fun z => ?_)) this
  simp only [gGoL]
  rw [if_neg (by omega)]

def gAhead (g : Nat → Int32) (at_ : Nat) (many what number : Int32) : Nat → Int32 := upd (upd (upd (upd g at_ what) (at_ + 1) (g 4)) (at_ + 2) number) (at_ + 3) many

theorem c_ahead (hS : RS M r) {a : Nat} (many what number : Int32) (ha : 4 < a) (hb : a + 3 < 7919) (k : Q none (wI M (r + 1) (gAhead g a many what number))) : J E 188 0 [.ref r, .int (nI a), .int many, .int what, .int number] [] (wI M (r + 1) g) Q := by
  refine J_p 1 (ls' := [_, _, _, _, _]) rfl ?_
  refine J_getR rfl hS.t hS.f0 ?_
  refine J_p 2 (ls' := [_, _, _, _, _]) rfl ?_
  refine J_gst (n := a) rfl (by repeat' (first | with_reducible rfl | assumption | with_reducible refine nI_decE ?_ | with_reducible refine nI_addE ?_ ?_ | with_reducible refine nI_mulE ?_ ?_ | with_reducible refine nI_subE ?_ ?_ ?_ | omega | (with_reducible refine congrArg nI ?_; omega))) hS (by omega) ?_
  refine J_p 1 (ls' := [_, _, _, _, _]) rfl ?_
  refine J_getR rfl hS.t hS.f0 ?_
  refine J_p 4 (ls' := [_, _, _, _, _]) rfl ?_
  refine J_getR rfl hS.t hS.f0 ?_
  refine J_p 1 (ls' := [_, _, _, _, _]) rfl ?_
  refine J_gld (n := 4) rfl (by repeat' (first | with_reducible rfl | assumption | with_reducible refine nI_decE ?_ | with_reducible refine nI_addE ?_ ?_ | with_reducible refine nI_mulE ?_ ?_ | with_reducible refine nI_subE ?_ ?_ ?_ | omega | (with_reducible refine congrArg nI ?_; omega))) hS (by omega) (show upd g a what 4 = g 4 from if_neg (by omega)) ?_
  refine J_gst (n := a + 1) rfl (by repeat' (first | with_reducible rfl | assumption | with_reducible refine nI_decE ?_ | with_reducible refine nI_addE ?_ ?_ | with_reducible refine nI_mulE ?_ ?_ | with_reducible refine nI_subE ?_ ?_ ?_ | omega | (with_reducible refine congrArg nI ?_; omega))) hS (by omega) ?_
  refine J_p 1 (ls' := [_, _, _, _, _]) rfl ?_
  refine J_getR rfl hS.t hS.f0 ?_
  refine J_p 4 (ls' := [_, _, _, _, _]) rfl ?_
  refine J_gst (n := a + 2) rfl (by repeat' (first | with_reducible rfl | assumption | with_reducible refine nI_decE ?_ | with_reducible refine nI_addE ?_ ?_ | with_reducible refine nI_mulE ?_ ?_ | with_reducible refine nI_subE ?_ ?_ ?_ | omega | (with_reducible refine congrArg nI ?_; omega))) hS (by omega) ?_
  refine J_p 1 (ls' := [_, _, _, _, _]) rfl ?_
  refine J_getR rfl hS.t hS.f0 ?_
  refine J_p 4 (ls' := [_, _, _, _, _]) rfl ?_
  refine J_gst (n := a + 3) rfl (by repeat' (first | with_reducible rfl | assumption | with_reducible refine nI_decE ?_ | with_reducible refine nI_addE ?_ ?_ | with_reducible refine nI_mulE ?_ ?_ | with_reducible refine nI_subE ?_ ?_ ?_ | omega | (with_reducible refine congrArg nI ?_; omega))) hS (by omega) ?_
  exact J_ret rfl rfl rfl k

/-- a credit more, 9 at most -/
def cMore (c : Int32) : Int32 := if c + nI 1 < nI 9 then c + nI 1 else nI 9

theorem c_credits (hS : RS M r) {c : Nat} (hc : c < 10) (k : Q none (wI M (r + 1) (upd g (11 + 4 * c + 1) (cMore (g (11 + 4 * c + 1)))))) : J E 191 0 [.ref r, .int (nI c)] [] (wI M (r + 1) g) Q := by
  refine J_p 1 (ls' := [_, _]) rfl ?_
  refine J_getR rfl hS.t hS.f0 ?_
  refine J_p 11 (ls' := [_, _]) rfl ?_
  refine J_call rfl rfl rfl (decide_eq_true hS.t) rfl (c_ofConsumer hS c 1 (by omega) rfl ?_)
  show J _ _ _ _ _ _ _
  refine J_p 2 (ls' := [_, _]) rfl ?_
  refine J_min rfl rfl ?_
  refine J_gst (n := 11 + 4 * c + 1) rfl (by repeat' (first | with_reducible rfl | assumption | with_reducible refine nI_decE ?_ | with_reducible refine nI_addE ?_ ?_ | with_reducible refine nI_mulE ?_ ?_ | with_reducible refine nI_subE ?_ ?_ ?_ | omega | (with_reducible refine congrArg nI ?_; omega))) hS (by omega) ?_
  exact J_ret rfl rfl rfl k

/-- the place where a message's number comes among n letters: behind the last that isn't greater -/
def plc (g : Nat → Int32) (q : Nat) (m : Int32) : Nat → Nat
  | 0 => 0
  | i + 1 => if g (3471 + 556 * q + 36 + 26 * i + 0) ≤ m then i + 1 else plc g q m i
theorem plc_le (g : Nat → Int32) (q : Nat) (m : Int32) : ∀ n, plc g q m n ≤ n
  | 0 => Nat.le_refl _
  | n + 1 => by
    unfold plc
    split
    · exact Nat.le_refl _
    · exact Nat.le_succ_of_le (plc_le g q m n)
/-- a new letter of message m at place i of n -/
def gCome (g : Nat → Int32) (q i n : Nat) (m : Int32) : Nat → Int32 := fun z =>
  if z = 3471 + 556 * q + 35 then nI (n + 1)
  else if z = 3471 + 556 * q + 36 + 26 * i then m
  else if z = 3471 + 556 * q + 36 + 26 * i + 3 then -1
  else if z = 3471 + 556 * q + 36 + 26 * i + 4 then -1
  else if 3471 + 556 * q + 36 + 26 * i ≤ z ∧ z < 3471 + 556 * q + 36 + 26 * i + 26 then 0
  else if 3471 + 556 * q + 36 + 26 * i + 26 ≤ z ∧ z < 3471 + 556 * q + 36 + 26 * n + 26 then g (z - 26) else g z
def gComeA (g : Nat → Int32) (q kk n : Nat) : Nat → Int32 := fun z => if 3471 + 556 * q + 36 + kk + 26 ≤ z ∧ z < 3471 + 556 * q + 36 + 26 * n + 26 then g (z - 26) else g z
def gComeB (g : Nat → Int32) (q i n kk : Nat) : Nat → Int32 := fun z => if 3471 + 556 * q + 36 + 26 * i ≤ z ∧ z < 3471 + 556 * q + 36 + 26 * i + kk then 0 else gComeA g q (26 * i) n z
/-- nI k less 1, k from 0 on -/
theorem pr_lt {a b : Nat} (ha : a < 2 ^ 31) (hb : b < 2 ^ 31) : (nI a - nI 1 < nI b) ↔ a ≤ b := by
  rw [Int32.lt_iff_toInt_lt, nI_pred1 ha, nI_toInt hb]; omega
theorem pr_dec {a : Nat} : (nI (a + 1) - nI 1) + (-1) = nI a - nI 1 := by
  have h1 : nI (a + 1) = nI a + nI 1 := (nI_add a 1).symm
  rw [h1, Int32.add_sub_cancel, Int32.sub_eq_add_neg]
  rfl

theorem c_comes_3 (hS : RS M r) {q i n : Nat} {m : Int32} (hq : q < 8) (hn : n < 20) (hi : i ≤ n) : ∀ (d kk : Nat), kk + d = 26 → Q none (wI M (r + 1) (gCome g q i n m)) → J E 186 86 [.ref r, .int (nI q), .int m, .int (nI n), .int (nI i), .int (nI kk)] [] (wI M (r + 1) (gComeB g q i n kk)) Q := by
  intro d
  induction d with
  | zero =>
    intro kk hk k
    refine J_p 2 (ls' := [_, _, _, _, _, _]) rfl ?_
    refine J_ige rfl (fun b90 => ?_) (fun b90 => ?_)
    · skip
      refine J_p 5 (ls' := [_, _, _, _, _, _]) rfl ?_
      refine J_call rfl rfl rfl (decide_eq_true hS.t) rfl (c_letterIs hS q i 0 _ (by omega) ?_)
      show J _ _ _ _ _ _ _
      refine J_p 5 (ls' := [_, _, _, _, _, _]) rfl ?_
      refine J_call rfl rfl rfl (decide_eq_true hS.t) rfl (c_letterIs hS q i 3 _ (by omega) ?_)
      show J _ _ _ _ _ _ _
      refine J_p 5 (ls' := [_, _, _, _, _, _]) rfl ?_
      refine J_call rfl rfl rfl (decide_eq_true hS.t) rfl (c_letterIs hS q i 4 _ (by omega) ?_)
      show J _ _ _ _ _ _ _
      refine J_p 6 (ls' := [_, _, _, _, _, _]) rfl ?_
      refine J_n0 (n := n + 1) (by repeat' (first | with_reducible rfl | assumption | with_reducible refine nI_decE ?_ | with_reducible refine nI_addE ?_ ?_ | with_reducible refine nI_mulE ?_ ?_ | with_reducible refine nI_subE ?_ ?_ ?_ | omega | (with_reducible refine congrArg nI ?_; omega))) ?_
      refine J_call rfl rfl rfl (decide_eq_true hS.t) rfl (c_is hS q 35 _ (by omega) ?_)
      show J _ _ _ _ _ _ _
      refine J_ret rfl rfl rfl ?_
      have e : upd (upd (upd (upd (gComeB g q i n kk) (3471 + 556 * q + 36 + 26 * i + 0) m) (3471 + 556 * q + 36 + 26 * i + 3) (-1)) (3471 + 556 * q + 36 + 26 * i + 4) (-1)) (3471 + 556 * q + 35) (nI (n + 1)) = gCome g q i n m := by
        funext z
        simp only [upd, gComeB, gComeA, gCome, show kk = 26 by omega]
        repeat' split
        all_goals first | rfl | (exfalso; omega) | (congr 1; omega)
      rw [e] ; exact k
    · skip
      exact absurd (nI_le (a := 26) (b := kk) (by omega) (by omega)) b90
  | succ d ih =>
    intro kk hk k
    refine J_p 2 (ls' := [_, _, _, _, _, _]) rfl ?_
    refine J_ige rfl (fun b90 => ?_) (fun b90 => ?_)
    · skip
      exact absurd b90 (nI_ge (a := kk) (b := 26) (by omega) (by omega))
    · skip
      refine J_p 5 (ls' := [_, _, _, _, _, _]) rfl ?_
      refine J_call rfl rfl rfl (decide_eq_true hS.t) rfl (c_letterIs hS q i kk _ (by omega) ?_)
      show J _ _ _ _ _ _ _
      refine J_p 2 (ls' := [_, _, _, _, _, _]) rfl ?_
      rw [nI_add kk 1]
      refine J_M (congrArg (wI M (r + 1)) (funext fun z => ?_)) (ih (kk + 1) (by omega) k)
      simp only [upd, gComeB]
      repeat' split
      all_goals first | rfl | (exfalso; omega) | (congr 1; omega)

theorem c_comes_2 (hS : RS M r) {q i n : Nat} {m : Int32} (hq : q < 8) (hn : n < 20) (hi : i ≤ n) : ∀ (d kk : Nat), kk = 26 * i + d → kk ≤ 26 * n → Q none (wI M (r + 1) (gCome g q i n m)) → J E 186 44 [.ref r, .int (nI q), .int m, .int (nI n), .int (nI i), .int (nI kk - nI 1)] [] (wI M (r + 1) (gComeA g q kk n)) Q := by
  intro d
  induction d with
  | zero =>
    intro kk hk hkn k
    refine J_p 4 (ls' := [_, _, _, _, _, _]) rfl ?_
    refine J_n0 (n := 26 * i) (by repeat' (first | with_reducible rfl | assumption | with_reducible refine nI_decE ?_ | with_reducible refine nI_addE ?_ ?_ | with_reducible refine nI_mulE ?_ ?_ | with_reducible refine nI_subE ?_ ?_ ?_ | omega | (with_reducible refine congrArg nI ?_; omega))) ?_
    refine J_ilt rfl (fun b51 => ?_) (fun b51 => ?_)
    · skip
      refine J_p 2 (ls' := [_, _, _, _, _, _]) rfl ?_
      refine J_M (congrArg (wI M (r + 1)) (funext fun z => ?_)) (c_comes_3 (E := E) (Q := Q) (g := g) hS hq hn hi 26 0 (by omega) k)
      simp only [gComeA, gComeB, hk]
      repeat' split
      all_goals first | rfl | (exfalso; omega) | (congr 1; omega)
    · skip
      exact absurd ((pr_lt (by omega) (by omega)).mpr (by omega)) b51
  | succ d ih =>
    intro kk hk hkn k
    refine J_p 4 (ls' := [_, _, _, _, _, _]) rfl ?_
    refine J_n0 (n := 26 * i) (by repeat' (first | with_reducible rfl | assumption | with_reducible refine nI_decE ?_ | with_reducible refine nI_addE ?_ ?_ | with_reducible refine nI_mulE ?_ ?_ | with_reducible refine nI_subE ?_ ?_ ?_ | omega | (with_reducible refine congrArg nI ?_; omega))) ?_
    refine J_ilt rfl (fun b51 => ?_) (fun b51 => ?_)
    · skip
      exact absurd ((pr_lt (by omega) (by omega)).mp b51) (by omega)
    · skip
      refine J_p 12 (ls' := [_, _, _, _, _, _]) rfl ?_
      refine J_n0 (n := 36 + (kk - 1)) (by repeat' (first | with_reducible rfl | assumption | with_reducible refine nI_decE ?_ | with_reducible refine nI_addE ?_ ?_ | with_reducible refine nI_mulE ?_ ?_ | with_reducible refine nI_subE ?_ ?_ ?_ | omega | (with_reducible refine congrArg nI ?_; omega))) ?_
      refine J_call rfl rfl rfl (decide_eq_true hS.t) rfl (c_of hS q (36 + (kk - 1)) (z := g (3471 + 556 * q + 36 + (kk - 1))) (by omega) (by simp only [gComeA]; rw [if_neg (by omega)]; exact congrArg g (by omega)) ?_)
      show J _ _ _ _ _ _ _
      refine J_n1 (n := 36 + (kk - 1) + 26) (by repeat' (first | with_reducible rfl | assumption | with_reducible refine nI_decE ?_ | with_reducible refine nI_addE ?_ ?_ | with_reducible refine nI_mulE ?_ ?_ | with_reducible refine nI_subE ?_ ?_ ?_ | omega | (with_reducible refine congrArg nI ?_; omega))) ?_
      refine J_call rfl rfl rfl (decide_eq_true hS.t) rfl (c_is hS q (36 + (kk - 1) + 26) _ (by omega) ?_)
      show J _ _ _ _ _ _ _
      refine J_p 2 (ls' := [_, _, _, _, _, _]) rfl ?_
      obtain ⟨k0, rfl⟩ : ∃ k0, kk = k0 + 1 := ⟨kk - 1, by omega⟩
      rw [pr_dec]
      refine J_M (congrArg (wI M (r + 1)) (funext fun z => ?_)) (ih k0 (by omega) (by omega) k)
      simp only [upd, gComeA]
      repeat' split
      all_goals first | rfl | (exfalso; omega) | (congr 1; omega)

theorem c_comes_m (hS : RS M r) {q i n : Nat} {m : Int32} (hq : q < 8) (hn : n < 20) (hi : i ≤ n) (k : Q none (wI M (r + 1) (gCome g q i n m))) : J E 186 36 [.ref r, .int (nI q), .int m, .int (nI n), .int (nI i), U0] [] (wI M (r + 1) g) Q := by
  refine J_p 3 (ls' := [_, _, _, _, _, _]) rfl ?_
  refine J_n0 (n := 26 * n) (nI_mulE rfl rfl) ?_
  refine J_p 3 (ls' := [_, _, _, _, _, _]) rfl ?_
  refine J_M (congrArg (wI M (r + 1)) (funext fun z => ?_)) (c_comes_2 (E := E) (Q := Q) (g := g) hS hq hn hi (26 * n - 26 * i) (26 * n) (by omega) (Nat.le_refl _) k)
  simp only [gComeA]
  rw [if_neg (by omega)]

theorem c_comes_1 (hS : RS M r) {q n : Nat} {m : Int32} (hq : q < 8) (hn : n < 20) : ∀ (kk : Nat), kk ≤ n → Q none (wI M (r + 1) (gCome g q (plc g q m kk) n m)) → J E 186 11 [.ref r, .int (nI q), .int m, .int (nI n), .int (nI kk), U0] [] (wI M (r + 1) g) Q := by
  intro kk
  induction kk with
  | zero =>
    intro hkn k
    refine J_p 1 (ls' := [_, _, _, _, _, _]) rfl ?_
    refine J_zle rfl (fun b13 => ?_) (fun b13 => ?_)
    · skip
      exact c_comes_m (E := E) (Q := Q) (g := g) hS hq hn (Nat.zero_le n) k
    · skip
      exact absurd (show nI 0 ≤ 0 by decide) b13
  | succ kk ih =>
    intro hkn k
    refine J_p 1 (ls' := [_, _, _, _, _, _]) rfl ?_
    refine J_zle rfl (fun b13 => ?_) (fun b13 => ?_)
    · skip
      exact absurd b13 (nI_nle (by omega) (by omega))
    · skip
      refine J_p 6 (ls' := [_, _, _, _, _, _]) rfl ?_
      refine J_n1 (n := (kk + 1) - 1) (by repeat' (first | with_reducible rfl | assumption | with_reducible refine nI_decE ?_ | with_reducible refine nI_addE ?_ ?_ | with_reducible refine nI_mulE ?_ ?_ | with_reducible refine nI_subE ?_ ?_ ?_ | omega | (with_reducible refine congrArg nI ?_; omega))) ?_
      refine J_call rfl rfl rfl (decide_eq_true hS.t) rfl (c_letterOf hS q kk 0 (by omega) rfl ?_)
      show J _ _ _ _ _ _ _
      refine J_p 1 (ls' := [_, _, _, _, _, _]) rfl ?_
      refine J_ile rfl (fun b27 => ?_) (fun b27 => ?_)
      · skip
        unfold plc at k
        rw [if_pos b27] at k
        exact c_comes_m (E := E) (Q := Q) (g := g) hS hq hn hkn k
      · skip
        unfold plc at k
        rw [if_neg b27] at k
        refine J_p 2 (ls' := [_, _, _, _, _, _]) rfl ?_
        rw [nI_decE (m := kk) rfl]
        exact ih (by omega) k

theorem c_comes (hS : RS M r) {q n : Nat} {m : Int32} (hq : q < 8) (hn : n < 20) (h0 : g (3471 + 556 * q + 35) = nI n) (k : Q none (wI M (r + 1) (gCome g q (plc g q m n) n m))) : J E 186 0 [.ref r, .int (nI q), .int m, U0, U0, U0] [] (wI M (r + 1) g) Q := by
  refine J_p 3 (ls' := [_, _, _, _, _, _]) rfl ?_
  refine J_call rfl rfl rfl (decide_eq_true hS.t) rfl (c_of hS q 35 (by omega) h0 ?_)
  show J _ _ _ _ _ _ _
  refine J_p 3 (ls' := [_, _, _, _, _, _]) rfl ?_
  exact c_comes_1 (E := E) (Q := Q) (g := g) hS hq hn n (Nat.le_refl _) k

end REF2