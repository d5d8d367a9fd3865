/-! THE COMPONENT: how its memory stands for a state. -/
/-- rows and objects that are never written -/
def rO (t : Nat) : Prop := t = 0 ∨ t = 19
/-- memory that differs in W alone (and behind its end) -/
def Fm (W : Nat → Prop) (M M' : Mm) : Prop := mN M ≤ mN M' ∧ (∀ a, a < mN M → M'.1 a = M.1 a) ∧ ∀ a, a < mN M → (¬ W a ∨ rO (mT M a)) → Sm M M' a
theorem Fm.refl (W : Nat → Prop) (M : Mm) : Fm W M M := ⟨Nat.le_refl _, fun _ _ => rfl, fun a _ _ => Sm.refl M a⟩
theorem Fm.T {W : Nat → Prop} {M M' : Mm} (h : Fm W M M') {a : Nat} (ha : a < mN M) : mT M' a = mT M a ∧ mS M' a = mS M a := by
  have := h.2.1 a ha
  unfold mT mS
  rw [this]
  exact ⟨rfl, rfl⟩
theorem Fm.trans {W : Nat → Prop} {M1 M2 M3 : Mm} (h1 : Fm W M1 M2) (h2 : Fm W M2 M3) : Fm W M1 M3 := by
  refine ⟨Nat.le_trans h1.1 h2.1, fun a ha => ?_, fun a ha hw => ?_⟩
  · have hl := h1.1
    rw [h2.2.1 a (by omega), h1.2.1 a ha]
  · have hl := h1.1
    refine (h1.2.2 a ha hw).trans (h2.2.2 a (by omega) ?_)
    rw [(h1.T ha).1]
    exact hw
theorem Fm.mono {W W' : Nat → Prop} {M M' : Mm} (h : Fm W M M') (hW : ∀ a, W a → W' a) : Fm W' M M' :=
  ⟨h.1, h.2.1, fun a ha hw => h.2.2 a ha (hw.elim (fun x => Or.inl (fun y => x (hW a y))) Or.inr)⟩
theorem Fm.sI {W : Nat → Prop} {M : Mm} {a k : Nat} {z : Int32} (hw : W a) (ht : ¬ rO (mT M a)) : Fm W M (sI M a k z) := by
  refine ⟨Nat.le_refl _, fun _ _ => rfl, fun b hb h => ⟨rfl, ?_, rfl, rfl⟩⟩
  rw [mI_s1]
  rintro rfl
  rcases h with h | h
  · exact h hw
  · exact ht h
theorem Fm.sL {W : Nat → Prop} {M : Mm} {a k : Nat} {z : Int64} (hw : W a) (ht : ¬ rO (mT M a)) : Fm W M (sL M a k z) := by
  refine ⟨Nat.le_refl _, fun _ _ => rfl, fun b hb h => ⟨rfl, rfl, ?_, rfl⟩⟩
  rw [sL_wL, mL_wL, if_neg]
  rintro rfl
  rcases h with h | h
  · exact h hw
  · exact ht h
theorem Fm.sR {W : Nat → Prop} {M : Mm} {a k : Nat} {z : Option Nat} (hw : W a) (ht : ¬ rO (mT M a)) : Fm W M (sR M a k z) := by
  refine ⟨Nat.le_refl _, fun _ _ => rfl, fun b hb h => ⟨rfl, rfl, rfl, ?_⟩⟩
  funext j
  rw [sR_R, if_neg]
  rintro ⟨rfl, _⟩
  rcases h with h | h
  · exact h hw
  · exact ht h
theorem Fm.nC {W : Nat → Prop} {M : Mm} {t n : Nat} : Fm W M (nC M t n) := by
  refine ⟨Nat.le_succ _, fun a ha => ?_, fun a ha _ => ⟨?_, ?_, ?_, ?_⟩⟩
  · rw [nC_0, if_neg (by omega)]
  · rw [nC_0, if_neg (by omega)]
  · rw [nC_I, if_neg (by omega)]
  · rw [nC_L, if_neg (by omega)]
  · rw [nC_R, if_neg (by omega)]
/-- a cause's own fields -/
def CaF (M : Mm) (a : Nat) (c : Ca) : Prop := mI M a 0 = c.1 ∧ mI M a 1 = c.2.1 ∧ mI M a 3 = c.2.2.1 ∧ ((c.1 = nI 3 ∨ c.1 = nI 4) → mI M a 2 = c.2.2.2) ∧ ((c.1 = nI 5 ∨ c.1 = nI 6) → mI M a 4 = c.2.2.2)
/-- a chain of causes -/
def CaR (M : Mm) : List Ca → Option Nat → Prop
  | [], o => o = none
  | c :: cs, o => ∃ a, o = some a ∧ mT M a = 0 ∧ a < mN M ∧ CaF M a c ∧ mI M a 4 = nI cs.length ∧ CaR M cs (mR M a 5)
theorem CaR.fr {W : Nat → Prop} {M M' : Mm} (h : Fm W M M') : ∀ {cs : List Ca} {o : Option Nat}, CaR M cs o → CaR M' cs o
  | [], _, hc => hc
  | c :: cs, _, ⟨a, e, h1, h2, h3, h4, h5⟩ => by
    have hs := h.2.2 a h2 (Or.inr (Or.inl h1))
    refine ⟨a, e, by rw [(h.T h2).1]; exact h1, Nat.lt_of_lt_of_le h2 h.1, ?_, by rw [hs.2.1]; exact h4, by rw [hs.2.2.2]; exact h5.fr h⟩
    unfold CaF
    rw [hs.2.1]
    exact h3
/-- a part's number here -/
def cv (n : Nat) : Nat := n % 27 + 32 * (n / 27 % 27) + 1024 * (n / 729 % 27) + 32768 * (n / 19683 % 27)
def cvI (c : Int32) : Int32 := if c = -2 ∨ c = -3 then 0 else nI (cv c.toInt.toNat)
theorem cv_inj {n m : Nat} (hn : n < 531441) (hm : m < 531441) (h : cv n = cv m) : n = m := by
  unfold cv at h
  have a1 := Nat.mod_lt n (show 27 > 0 by omega)
  have a2 := Nat.mod_lt (n / 27) (show 27 > 0 by omega)
  have a3 := Nat.mod_lt (n / 729) (show 27 > 0 by omega)
  have a4 := Nat.mod_lt (n / 19683) (show 27 > 0 by omega)
  have b1 := Nat.mod_lt m (show 27 > 0 by omega)
  have b2 := Nat.mod_lt (m / 27) (show 27 > 0 by omega)
  have b3 := Nat.mod_lt (m / 729) (show 27 > 0 by omega)
  have b4 := Nat.mod_lt (m / 19683) (show 27 > 0 by omega)
  have c1 : n % 27 = m % 27 := by omega
  have c2 : n / 27 % 27 = m / 27 % 27 := by omega
  have c3 : n / 729 % 27 = m / 729 % 27 := by omega
  have c4 : n / 19683 % 27 = m / 19683 % 27 := by omega
  have d1 : n / 729 = n / 27 / 27 := by rw [Nat.div_div_eq_div_mul]
  have d2 : n / 19683 = n / 27 / 27 / 27 := by rw [Nat.div_div_eq_div_mul, Nat.div_div_eq_div_mul]
  have e1 : m / 729 = m / 27 / 27 := by rw [Nat.div_div_eq_div_mul]
  have e2 : m / 19683 = m / 27 / 27 / 27 := by rw [Nat.div_div_eq_div_mul, Nat.div_div_eq_div_mul]
  omega
theorem cv_pos {n : Nat} (h : 1 ≤ n) (hn : n < 531441) : 1 ≤ cv n := by
  rcases Nat.eq_zero_or_pos (cv n) with e | e
  · have : n = 0 := cv_inj hn (by omega) (by rw [e]; rfl)
    omega
  · exact e
theorem cv_lt (n : Nat) : cv n < 1048576 := by
  unfold cv
  omega
theorem nI_n2 {n : Nat} (h : n < 2 ^ 31) : ¬ (nI n = -2 ∨ nI n = -3) := by
  rintro (y | y)
  all_goals
    have hh := congrArg Int32.toInt y
    rw [nI_toInt h] at hh
    have h3 : (-3 : Int32).toInt = -3 := by decide
    have h2 : (-2 : Int32).toInt = -2 := by decide
    first | (rw [h2] at hh; omega) | (rw [h3] at hh; omega)
theorem cvI_n {n : Nat} (h : n < 2 ^ 31) : cvI (nI n) = nI (cv n) := by
  unfold cvI
  rw [if_neg (nI_n2 h), nI_toInt h]
  rfl
/-- a pattern's cells; what it holds -/
def PS (M : Mm) (b : Nat) : Prop := mT M b = 5 ∧ mR M b 0 = some (b + 1) ∧ mR M b 1 = some (b + 2) ∧ (mT M (b + 1) = 20 ∧ mS M (b + 1) = 4) ∧ (mT M (b + 2) = 20 ∧ mS M (b + 2) = 19)
def PC (M : Mm) (b : Nat) (p txt : List Int32) : Prop := (mI M b 2 = nI txt.length ∧ txt.length ≤ 19) ∧ (mI M b 3 = nI p.length ∧ p.length ≤ 4) ∧ mI M b 4 = (if p.getD (p.length - 1) 0 = -3 then nI 1 else nI 0) ∧ (∀ (k : Nat) (c : Int32), p[k]? = some c → mI M (b + 1) k = cvI c) ∧ (∀ (k : Nat) (c : Int32), txt[k]? = some c → mI M (b + 2) k = c)
/-- the statics: KIND_ABOVE, WAITS -/
def STa (E : Nat × Nat) (M : Mm) : Prop := (mT M E.1 = 19 ∧ mS M E.1 = 7 ∧ E.1 < mN M ∧ mI M E.1 0 = -1 ∧ mI M E.1 1 = 0 ∧ mI M E.1 2 = 0 ∧ mI M E.1 3 = 1 ∧ mI M E.1 4 = 1 ∧ mI M E.1 5 = 2 ∧ mI M E.1 6 = 2) ∧ (mT M E.2 = 19 ∧ mS M E.2 = 5 ∧ E.2 < mN M ∧ ∀ k, k < 5 → mI M E.2 k = nI (wt (k + 1)))
section COMP1
variable {E : Nat × Nat} {M : Mm} {Q : Option Value → Mm → Prop} {mi pc nx tg x y : Nat} {v : Value} {ls rr : List Value}
theorem J_gi {idx a : Nat} {kk z : Int32} (hq : tb mi pc = some (.getfield idx, nx, tg, x, y, .int kk)) (ht : mT M a = x) (hz : mI M a y = z) (k : J E mi nx ls (.int z :: rr) M Q) : J E mi pc ls (.ref a :: rr) M Q := by
  refine J_getI hq ht ?_
  rw [hz]
  exact k
theorem J_ia {a n L : Nat} {j z : Int32} (hq : tb mi pc = some (.iaload, nx, tg, x, y, v)) (hj : j = nI n) (ht : mT M a = 20 ∨ mT M a = 19) (hL : mS M a = L) (hn : n < L) (hL2 : L < 2 ^ 31) (hz : mI M a n = z) (k : J E mi nx ls (.int z :: rr) M Q) : J E mi pc ls (.int j :: .ref a :: rr) M Q := by
  refine J_iald hq hj ht hL hn hL2 ?_
  rw [hz]
  exact k
theorem J_la {a n L : Nat} {j : Int32} {z : Int64} (hq : tb mi pc = some (.laload, nx, tg, x, y, v)) (hj : j = nI n) (ht : mT M a = 21) (hL : mS M a = L) (hn : n < L) (hL2 : L < 2 ^ 31) (hz : mL M a n = z) (k : J E mi nx ls (.long z :: rr) M Q) : J E mi pc ls (.int j :: .ref a :: rr) M Q := by
  refine J_lald hq hj ht hL hn hL2 ?_
  rw [hz]
  exact k
theorem c_isBelow {s : Int32} {n : Nat} (hn : n < 2 ^ 31) (kt : ∀ j, ixN s n = some j → j < n → s = nI j → Q (some (.int (nI 1))) M) (kf : ixN s n = none → Q (some (.int (nI 0))) M) : J E 154 0 [.int s, .int (nI n)] [] M Q := by
  have F : ixN s n = none → J E 154 13 [.int s, .int (nI n)] [] M Q := fun h => by
    refine J_p 1 (ls' := [_, _]) rfl ?_
    exact J_retB rfl (by decide) (kf h)
  refine J_p 1 (ls' := [_, _]) rfl ?_
  have h00 : (0 : Int32).toInt = 0 := by decide
  refine J_zlt rfl (fun b => F ?_) (fun b => ?_)
  · cases e : ixN s n with
    | none => rfl
    | some j =>
      obtain ⟨_, _, e3⟩ := ixN_some e
      rw [Int32.lt_iff_toInt_lt] at b
      omega
  · refine J_p 2 (ls' := [_, _]) rfl ?_
    refine J_ige rfl (fun b2 => F ?_) (fun b2 => ?_)
    · cases e : ixN s n with
      | none => rfl
      | some j =>
        obtain ⟨_, _, e3⟩ := ixN_some e
        rw [Int32.le_iff_toInt_le, nI_toInt hn] at b2
        omega
    · refine J_p 2 (ls' := [_, _]) rfl ?_
      cases e : ixN s n with
      | none =>
        refine absurd ?_ (ixN_none e)
        rw [Int32.le_iff_toInt_le, nI_toInt hn] at b2
        rw [Int32.lt_iff_toInt_lt] at b
        omega
      | some j =>
        obtain ⟨h1, h2, _⟩ := ixN_some e
        exact J_retB rfl (by decide) (kt j e h1 h2)
theorem c_isWithin {s : Int32} {a b : Nat} (ha : a < 2 ^ 31) (hb : b < 2 ^ 31) (kt : ∀ j, inNB s a b = some j → s = nI j → a ≤ j → j ≤ b → Q (some (.int (nI 1))) M) (kf : inNB s a b = none → Q (some (.int (nI 0))) M) : J E 155 0 [.int s, .int (nI a), .int (nI b)] [] M Q := by
  have F : inNB s a b = none → J E 155 14 [.int s, .int (nI a), .int (nI b)] [] M Q := fun h => by
    refine J_p 1 (ls' := [_, _, _]) rfl ?_
    exact J_retB rfl (by decide) (kf h)
  refine J_p 2 (ls' := [_, _, _]) rfl ?_
  refine J_ilt rfl (fun b1 => F ?_) (fun b1 => ?_)
  · unfold inNB
    rw [Int32.lt_iff_toInt_lt, nI_toInt ha] at b1
    exact if_neg (by omega)
  · refine J_p 2 (ls' := [_, _, _]) rfl ?_
    refine J_igt rfl (fun b2 => F ?_) (fun b2 => ?_)
    · unfold inNB
      rw [Int32.lt_iff_toInt_lt, nI_toInt hb] at b2
      exact if_neg (by omega)
    · refine J_p 2 (ls' := [_, _, _]) rfl ?_
      cases e : inNB s a b with
      | none =>
        refine absurd ?_ (inNB_none e)
        rw [Int32.lt_iff_toInt_lt, nI_toInt ha] at b1
        rw [Int32.lt_iff_toInt_lt, nI_toInt hb] at b2
        unfold inZ
        omega
      | some j =>
        obtain ⟨h1, h2, h3⟩ := inNB_some e
        exact J_retB rfl (by decide) (kt j e h1 h2 h3)
theorem c_asBit1 (k : Q (some (.int (nI 1))) M) : J E 156 0 [.int (nI 1)] [] M Q := by
  refine J_p 1 (ls' := [_]) rfl ?_
  refine J_zeq rfl (fun b => absurd b (by decide)) (fun _ => ?_)
  refine J_p 2 (ls' := [_]) rfl ?_
  exact J_ret rfl rfl rfl k
theorem c_asBit0 (k : Q (some (.int (nI 0))) M) : J E 156 0 [.int (nI 0)] [] M Q := by
  refine J_p 1 (ls' := [_]) rfl ?_
  refine J_zeq rfl (fun _ => ?_) (fun b => absurd rfl b)
  refine J_p 1 (ls' := [_]) rfl ?_
  exact J_ret rfl rfl rfl k
theorem c_waitAfter (hE : STa E M) {n : Nat} (h1 : 1 ≤ n) (h5 : n ≤ 5) (k : Q (some (.int (nI (wt n)))) M) : J E 58 0 [.int (nI n), U0] [] M Q := by
  obtain ⟨_, e1, e2, e3, e4⟩ := hE
  refine J_p 2 (ls' := [_, _]) rfl ?_
  refine J_getS rfl ?_
  refine J_len rfl (Or.inl e1) e2 ?_
  refine J_min rfl rfl ?_
  have en : (if nI 5 < nI n then nI 5 else nI n) = nI n := if_neg (nI_nlt h5 (by omega))
  rw [en]
  refine J_p 2 (ls' := [_, _]) rfl ?_
  have es : nI n - nI 1 = nI (n - 1) := nI_subE rfl rfl h1
  refine J_t0 es ?_
  refine J_max rfl rfl ?_
  have em : (if nI 0 < nI (n - 1) then nI (n - 1) else nI 0) = nI (n - 1) := by
    by_cases z : n - 1 = 0
    · rw [z]; rfl
    · exact if_pos (nI_lt (by omega) (by omega))
  rw [em]
  refine J_p 1 (ls' := [_, _]) rfl ?_
  refine J_getS rfl ?_
  refine J_p 1 (ls' := [_, _]) rfl ?_
  refine J_ia (n := n - 1) rfl rfl (Or.inr e1) e2 (by omega) (by omega) (e4 (n - 1) (by omega)) ?_
  rw [Nat.sub_add_cancel h1]
  exact J_ret rfl rfl rfl k
theorem c_takesSize {b s : Nat} {p txt : List Int32} (hS : PS M b) (hC : PC M b p txt) (h1 : 1 ≤ p.length) (hs : s ≤ 4) (kt : lgA p s = true → Q (some (.int (nI 1))) M) (kf : lgA p s = false → Q (some (.int (nI 0))) M) : J E 30 0 [.ref b, .int (nI s)] [] M Q := by
  obtain ⟨_, ⟨c3, c4⟩, c5, _⟩ := hC
  refine J_p 1 (ls' := [_, _]) rfl ?_
  refine J_gi rfl hS.1 c5 ?_
  unfold lgA at kt kf
  by_cases e : p.getD (p.length - 1) 0 = -3
  · rw [if_pos e] at kt kf ⊢
    refine J_zeq rfl (fun b => absurd b (by decide)) (fun _ => ?_)
    refine J_p 2 (ls' := [_, _]) rfl ?_
    refine J_gi rfl hS.1 c3 ?_
    refine J_p 2 (ls' := [_, _]) rfl ?_
    refine J_t0 (nI_subE (n := 1) rfl rfl h1) ?_
    refine J_ilt rfl (fun b1 => ?_) (fun b1 => ?_)
    · have := (nI_ltI (by omega) (by omega)).mp b1
      refine J_p 2 (ls' := [_, _]) rfl ?_
      exact J_retB rfl (by decide) (kf (decide_eq_false (by omega)))
    · have : p.length ≤ s + 1 := by
        rcases Nat.lt_or_ge s (p.length - 1) with z | z
        · exact absurd (nI_lt z (by omega)) b1
        · omega
      refine J_p 2 (ls' := [_, _]) rfl ?_
      exact J_retB rfl (by decide) (kt (decide_eq_true this))
  · rw [if_neg e] at kt kf ⊢
    refine J_zeq rfl (fun _ => ?_) (fun b => absurd rfl b)
    refine J_p 2 (ls' := [_, _]) rfl ?_
    refine J_gi rfl hS.1 c3 ?_
    refine J_ine rfl (fun b1 => ?_) (fun b1 => ?_)
    · refine J_p 1 (ls' := [_, _]) rfl ?_
      exact J_retB rfl (by decide) (kf (decide_eq_false (fun y => b1 (by rw [y]))))
    · refine J_p 2 (ls' := [_, _]) rfl ?_
      exact J_retB rfl (by decide) (kt (decide_eq_true ((nI_eq (by omega) (by omega)).mp b1)))
end COMP1