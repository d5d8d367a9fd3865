/-! THE REFERENCE: shelves: row, set, element, holds, show, says. -/
def loL : Nat → Int64 → Int64
  | 0, v => v.toInt32.toInt8.toInt32.toInt64
  | 1, v => v.toInt32.toInt16.toInt32.toInt64
  | 2, v => v.toInt32.toInt64
  | 3, v => v
  | _, v => if v = lN 0 then lN 0 else lN 1
def fRow (S : St) (s so n : Int32) : Int32 × St := match ixN s 8 with
  | none => rfS S 0
  | some j => match ixN so 5 with
    | none => rfS S 0
    | some o => match ixN n 41 with
      | none => rfS S 0
      | some m => (nI 1, z_h S j (some (.inl (o, List.replicate m (lN 0)))))
def fSet (S : St) (s i : Int32) (v : Int64) : Int32 × St := match ixN s 8 with
  | none => rfS S 0
  | some j => match s_h S j with
    | none => rfS S 2
    | some (.inr _) => rfS S 1
    | some (.inl (so, els)) => match ixN i els.length with
      | none => rfS S 0
      | some m => (nI 1, z_h S j (some (.inl (so, els.set m (loL so v)))))
def fElement (S : St) (s i : Int32) : Int64 := match ixN s 8 with
  | none => lN 0
  | some j => match s_h S j with
    | none => lN 0
    | some (.inr _) => lN 0
    | some (.inl (_, els)) => match ixN i els.length with
      | none => lN 0
      | some m => els.getD m (lN 0)
def hoA : Sh → Int32
  | none => -1
  | some (.inl (so, _)) => nI so
  | some (.inr c) => nI 10 + c.1
def fHolds (S : St) (s : Int32) : Int32 := match ixN s 8 with
  | none => -1
  | some j => hoA (s_h S j)
def fShow (S : St) (s i k : Int32) : Int32 × St := match ixN s 8 with
  | none => rfS S 0
  | some j => if i = -1 then (nI 1, z_h S j none) else match causeA (s_a S) i k with
    | none => rfS S 0
    | some c => (nI 1, z_h S j (some (.inr c)))
/-- is a kind under another -/
def udA (n k : Nat) : Bool := decide (k = 0) || decide (n = k) || (decide (k = 1) && (decide (n = 3) || decide (n = 4))) || (decide (k = 2) && (decide (n = 5) || decide (n = 6)))
def saA (c : Ca) (k : Nat) : Int32 := if k = 0 then c.2.1 else if k < 3 then c.2.2.2 else c.2.2.1
def fSays (S : St) (s k : Int32) : Int32 × St := match ixN s 8 with
  | none => rfS S 0
  | some j => match ixN k 7 with
    | none => rfS S 0
    | some b => match s_h S j with
      | none => rfS S 2
      | some (.inl _) => rfS S 1
      | some (.inr c) => if udA c.1.toInt.toNat b = true then (saA c b, S) else rfS S 1
theorem lg_cmpZ {x y : Int64} (h : lg_cmp x y = 0) : x = y := by
  unfold lg_cmp at h
  split at h
  · exact absurd h (by decide)
  · split at h
    · assumption
    · exact absurd h (by decide)
theorem inZ_n1 : ¬ inZ (-1) 0 4 := by unfold inZ; decide
theorem inZ_so {n : Nat} (h : n ≤ 4) : inZ (nI n) 0 4 := by unfold inZ; rw [nI_toInt (by omega)]; omega
theorem inZ_10 {n : Nat} (h : n ≤ 6) : ¬ inZ (nI (10 + n)) 0 4 := by unfold inZ; rw [nI_toInt (by omega)]; omega
theorem mL_s0 (M : Mm) (a k j : Nat) (z : Int64) : mL (sL M a k z) a j = if j = k then z else mL M a j := by rw [sL_wL, mL_wL, if_pos rfl]
theorem mI_sL (M : Mm) (a k : Nat) (z : Int64) : mI (sL M a k z) = mI M := rfl
theorem mL_sI (M : Mm) (a k : Nat) (z : Int32) : mL (sI M a k z) = mL M := rfl
section PUB20
variable {E : Nat × Nat} {M : Mm} {r T : Nat} {g : Nat → Int32} {S : St} {Q : Option Value → Mm → Prop} {A : Ab}
theorem J_wL {mi pc a k : Nat} {ls st : List Value} {z : Int64} (k' : J E mi pc ls st (wI (sL M a k z) (r + 1) g) Q) : J E mi pc ls st (sL (wI M (r + 1) g) a k z) Q := k'
theorem RR.shelf (h : RR M r S) (hg : mI M (r + 1) = g) {M' : Mm} {s : Nat} {v : Sh} (e1 : M'.1 = M.1) (eR : mR M' = mR M) (hM : ∀ a, a ≠ r + 1 → a ≠ r + 9 → a ≠ r + 10 → a ≠ r + 12 → mI M' a = mI M a)
    (e9 : ∀ j, j ≠ s → mI M' (r + 9) j = mI M (r + 9) j) (e10 : ∀ j, j ≠ s → mI M' (r + 10) j = mI M (r + 10) j) (e12 : ∀ j k, j ≠ s → k < 4 → mI M' (r + 12) (4 * j + k) = mI M (r + 12) (4 * j + k)) (e11 : ∀ j k, j ≠ s → k < 40 → mL M' (r + 11) (40 * j + k) = mL M (r + 11) (40 * j + k)) (hv : SR M' r s v) : RR (wI M' (r + 1) g) r (z_h S s v) := by
  have hA := h.a
  rw [hg] at hA
  obtain ⟨h1, h2, h3, h4, h5, h6, h7, h8⟩ := h
  have e : ∀ a, a ≠ r + 1 → a ≠ r + 9 → a ≠ r + 10 → a ≠ r + 12 → mI (wI M' (r + 1) g) a = mI M a := fun a z1 z2 z3 z4 => by rw [mI_oth _ _ z1]; exact hM a z1 z2 z3 z4
  refine ⟨?_, fun k hk => ?_, fun z hz => ?_, ?_, ⟨?_, ?_, ?_⟩, ⟨h6.1, ?_, ?_⟩, fun j hj => ?_, fun j hj => ?_⟩
  · have : RS M' r := by unfold RS mT mS; rw [e1, eR]; exact h1
    exact this
  · rw [e _ (by omega) (by omega) (by omega) (by omega)]; exact h2 k hk
  · rw [e _ (by omega) (by omega) (by omega) (by omega)]; exact h3 z hz
  · rw [mI_same]; exact hA
  · rw [e _ (by omega) (by omega) (by omega) (by omega)]; exact h5.1
  · rw [e _ (by omega) (by omega) (by omega) (by omega)]; exact h5.2.1
  · rw [e _ (by omega) (by omega) (by omega) (by omega), e _ (by omega) (by omega) (by omega) (by omega)]; exact h5.2.2
  · rw [e _ (by omega) (by omega) (by omega) (by omega)]; exact h6.2.1
  · rw [e _ (by omega) (by omega) (by omega) (by omega)]; exact h6.2.2
  · show SR _ r j (if j = s then v else s_h S j)
    by_cases c : j = s
    · subst c
      rw [if_pos rfl]
      exact hv.fr (by rw [mI_oth _ _ (by omega)]) (by rw [mI_oth _ _ (by omega)]) (fun k _ => by rw [mI_oth _ _ (by omega)]) (fun k _ => rfl)
    · rw [if_neg c]
      exact (h7 j hj).fr (by rw [mI_oth _ _ (by omega)]; exact e9 j c) (by rw [mI_oth _ _ (by omega)]; exact e10 j c) (fun k hk => by rw [mI_oth _ _ (by omega)]; exact e12 j k c hk) (fun k hk => e11 j k c hk)
  · rw [e _ (by omega) (by omega) (by omega) (by omega)]; exact h8 j hj
theorem c_isShelf {s : Int32} {M : Mm} (kt : ∀ j, ixN s 8 = some j → j < 8 → s = nI j → Q (some (.int (nI 1))) M) (kf : ixN s 8 = none → Q (some (.int (nI 0))) M) : J E 234 0 [.int s] [] M Q := by
  refine J_p 4 (ls' := [_]) rfl ?_
  refine J_call rfl rfl rfl rfl rfl (c_inZ0 (x := s) (b := 7) (b1 := 8) (by decide) rfl (fun j h1 l1 e1 => ?_) (fun h1 => ?_))
  · show J _ _ _ _ _ _ _
    exact J_retB rfl (by decide) (kt j h1 l1 e1)
  · show J _ _ _ _ _ _ _
    exact J_retB rfl (by decide) (kf h1)
theorem c_lowest {so : Nat} {v : Int64} {M : Mm} (h : so ≤ 4) (k : Q (some (.long (loL so v))) M) : J E 236 0 [.int (nI so), .long v, U0] [] M Q := by
  refine J_p 1 (ls' := [_, _, _]) rfl ?_
  rcases (show so = 0 ∨ so = 1 ∨ so = 2 ∨ so = 3 ∨ so = 4 from by omega) with rfl | rfl | rfl | rfl | rfl
  · refine J_sw1 rfl rfl rfl ?_
    refine J_p 4 (ls' := [_, _, _]) rfl ?_
    exact J_ret rfl rfl rfl k
  · refine J_sw1 rfl rfl rfl ?_
    refine J_p 4 (ls' := [_, _, _]) rfl ?_
    exact J_ret rfl rfl rfl k
  · refine J_sw1 rfl rfl rfl ?_
    refine J_p 3 (ls' := [_, _, _]) rfl ?_
    exact J_ret rfl rfl rfl k
  · refine J_sw1 rfl rfl rfl ?_
    refine J_p 1 (ls' := [_, _, _]) rfl ?_
    exact J_ret rfl rfl rfl k
  · refine J_sw1 rfl rfl rfl ?_
    refine J_p 3 (ls' := [_, _, _]) rfl ?_
    refine J_zne rfl (fun b => ?_) (fun b => ?_)
    · refine J_p 1 (ls' := [_, _, _]) rfl ?_
      have e : loL 4 v = lN 1 := if_neg (fun y => b (by rw [y]; decide))
      rw [e] at k
      exact J_ret rfl rfl rfl k
    · refine J_p 2 (ls' := [_, _, _]) rfl ?_
      have e : loL 4 v = lN 0 := if_pos (lg_cmpZ b)
      rw [e] at k
      exact J_ret rfl rfl rfl k

theorem c_row_l (hS : RS M r) {j : Nat} {v2 v3 : Int32} (hj : j < 8) (k : Q (some (.int (nI 1))) (wI (wL M (r + 11) (fun z => if 40 * j ≤ z ∧ z < 40 * j + 40 then lN 0 else mL M (r + 11) z)) (r + 1) g)) : ∀ (d kk : Nat), kk + d = 40 → J E 235 55 [.ref r, .int (nI j), .int v2, .int v3, .int (nI kk)] [] (wI (wL M (r + 11) (fun z => if 40 * j ≤ z ∧ z < 40 * j + kk then lN 0 else mL M (r + 11) z)) (r + 1) g) Q := by
  intro d
  induction d with
  | zero =>
    intro kk hk
    refine J_p 2 (ls' := [_, _, _, _, _]) rfl ?_
    refine J_ige rfl (fun b59 => ?_) (fun b59 => ?_)
    · skip
      refine J_p 1 (ls' := [_, _, _, _, _]) rfl ?_
      obtain rfl : kk = 40 := by omega
      exact J_ret rfl rfl rfl k
    · skip
      exact absurd (nI_le (a := 40) (b := kk) (by omega) (by omega)) b59
  | succ d ih =>
    intro kk hk
    refine J_p 2 (ls' := [_, _, _, _, _]) rfl ?_
    refine J_ige rfl (fun b59 => ?_) (fun b59 => ?_)
    · skip
      exact absurd b59 (nI_ge (a := kk) (b := 40) (by omega) (by omega))
    · skip
      refine J_p 1 (ls' := [_, _, _, _, _]) rfl ?_
      refine J_getR rfl hS.t hS.f15 ?_
      refine J_p 6 (ls' := [_, _, _, _, _]) rfl ?_
      refine J_last (n := 40 * j + kk) rfl (by repeat' (first | with_reducible rfl | assumption | with_reducible refine nI_decE ?_ | with_reducible refine nI_addE ?_ ?_ | with_reducible refine nI_mulE ?_ ?_ | with_reducible refine nI_subE ?_ ?_ ?_ | omega | (with_reducible refine congrArg nI ?_; omega))) hS.t11 hS.l11 (by omega) (by omega) ?_
      refine J_p 2 (ls' := [_, _, _, _, _]) rfl ?_
      rw [nI_add kk 1]
      refine J_M (M' := wI (wL M (r + 11) (fun z => if 40 * j ≤ z ∧ z < 40 * j + (kk + 1) then lN 0 else mL M (r + 11) z)) (r + 1) g) ?_ (ih (kk + 1) (by omega))
      show wI (sL (wL M (r + 11) (fun z => if 40 * j ≤ z ∧ z < 40 * j + kk then lN 0 else mL M (r + 11) z)) (r + 11) (40 * j + kk) (lN 0)) (r + 1) g = _
      rw [sL_wL, wL_wL]
      congr 1
      congr 1
      funext z
      rw [mL_wL, if_pos rfl]
      repeat' split
      all_goals first | rfl | (exfalso; omega)

theorem s_row (h : RR M r S) (w : WfS T S) (hT : T + 100 < 2 ^ 20) (s so n : Int32) (k : ∀ M' : Mm, Fr r M M' → RR M' r (fRow S s so n).2 → WfS (T + 99) (fRow S s so n).2 → Q (some (.int (fRow S s so n).1)) M') : J E 235 0 [.ref r, .int s, .int so, .int n, U0] [] M Q := by
  obtain ⟨g, hg⟩ : ∃ g, mI M (r + 1) = g := ⟨_, rfl⟩
  have hS := h.1
  have hA := h.a
  rw [hg] at hA
  rw [show M = wI M (r + 1) g by rw [← hg, wI_id]]
  have kR : ∀ (v : Nat) (x : Int32), fRow S s so n = rfS S v → x = rfN v → Q (some (.int x)) (wI (rfM M r v) (r + 1) g) := fun v x e ex => by
    rw [e] at k; rw [ex]; exact k _ (Fr.rf hg) (h.rf hg v) (w.rf hT)
  have kO : ∀ (a : Int32) (S' : St) (M' : Mm), fRow S s so n = (a, S') → Fr r M M' → RR M' r S' → WfS (T + 99) S' → Q (some (.int a)) M' := fun a S' M' e => by
    rw [e] at k; exact k M'
  refine J_p 1 (ls' := [_, _, _, _, _]) rfl ?_
  refine J_call rfl rfl rfl rfl rfl (c_isShelf (s := s) (fun j h1 l1 e1 => ?_) (fun h1 => ?_))
  · skip
    subst e1
    show J _ _ _ _ _ _ _
    refine J_zeq rfl (fun b => absurd b (by decide)) (fun _ => ?_)
    refine J_p 4 (ls' := [_, _, _, _, _]) rfl ?_
    refine J_call rfl rfl rfl rfl rfl (c_inZ0 (x := so) (b := 4) (b1 := 5) (by decide) rfl (fun o h13 l13 e13 => ?_) (fun h13 => ?_))
    · skip
      subst e13
      show J _ _ _ _ _ _ _
      refine J_zeq rfl (fun b => absurd b (by decide)) (fun _ => ?_)
      refine J_p 4 (ls' := [_, _, _, _, _]) rfl ?_
      refine J_call rfl rfl rfl rfl rfl (c_inZ0 (x := n) (b := 40) (b1 := 41) (by decide) rfl (fun m h25 l25 e25 => ?_) (fun h25 => ?_))
      · skip
        subst e25
        show J _ _ _ _ _ _ _
        refine J_zne rfl (fun _ => ?_) (fun b => absurd b (by decide))
        refine J_p 1 (ls' := [_, _, _, _, _]) rfl ?_
        refine J_getR rfl hS.t hS.f13 ?_
        refine J_p 2 (ls' := [_, _, _, _, _]) rfl ?_
        refine J_ost (n := j) rfl (by repeat' (first | with_reducible rfl | assumption | with_reducible refine nI_decE ?_ | with_reducible refine nI_addE ?_ ?_ | with_reducible refine nI_mulE ?_ ?_ | with_reducible refine nI_subE ?_ ?_ ?_ | omega | (with_reducible refine congrArg nI ?_; omega))) (by omega) hS.t9 hS.l9 (by omega) (by omega) ?_
        refine J_p 1 (ls' := [_, _, _, _, _]) rfl ?_
        refine J_getR rfl hS.t hS.f14 ?_
        refine J_p 2 (ls' := [_, _, _, _, _]) rfl ?_
        refine J_ost (n := j) rfl (by repeat' (first | with_reducible rfl | assumption | with_reducible refine nI_decE ?_ | with_reducible refine nI_addE ?_ ?_ | with_reducible refine nI_mulE ?_ ?_ | with_reducible refine nI_subE ?_ ?_ ?_ | omega | (with_reducible refine congrArg nI ?_; omega))) (by omega) hS.t10 hS.l10 (by omega) (by omega) ?_
        refine J_p 2 (ls' := [_, _, _, _, _]) rfl ?_
        have eW : sI (sI M (r + 9) j (nI o)) (r + 10) j (nI m) = wL (sI (sI M (r + 9) j (nI o)) (r + 10) j (nI m)) (r + 11) (fun z => if 40 * j ≤ z ∧ z < 40 * j + 0 then lN 0 else mL (sI (sI M (r + 9) j (nI o)) (r + 10) j (nI m)) (r + 11) z) := by
          rw [show (fun z => if 40 * j ≤ z ∧ z < 40 * j + 0 then lN 0 else mL (sI (sI M (r + 9) j (nI o)) (r + 10) j (nI m)) (r + 11) z) = mL (sI (sI M (r + 9) j (nI o)) (r + 10) j (nI m)) (r + 11) from funext fun z => if_neg (by omega), wL_id]
        refine J_M (congrArg (fun X => wI X (r + 1) g) eW) ?_
        refine c_row_l (E := E) (M := sI (sI M (r + 9) j (nI o)) (r + 10) j (nI m)) hS l1 ?_ 40 0 rfl
        refine kO _ (z_h S j (some (.inl (o, List.replicate m (lN 0))))) _ (by simp only [fRow, h1, h13, h25]) ((((Fr.six M _ _ (by omega) (by omega)).trans (Fr.six _ _ _ (by omega) (by omega))).trans (Fr.wlx _ _ (by omega) (by omega))).trans (Fr.wix _ _ (by omega) (by omega))) (h.shelf hg rfl rfl (fun a z1 z2 z3 z4 => ?_) (fun i hi => ?_) (fun i hi => ?_) (fun i k hi hk => ?_) (fun i k hi hk => ?_) ⟨by omega, by rw [List.length_replicate]; omega, ?_, ?_, fun k v hk => ?_⟩) (WfS.mono w (by omega) (by omega))
        · rw [mI_wL, mI_s1 _ _ _ z3, mI_s1 _ _ _ z2]
        · rw [mI_wL, mI_s1 _ _ _ (by omega), mI_s0, if_neg hi]
        · rw [mI_wL, mI_s0, if_neg hi, mI_s1 _ _ _ (by omega)]
        · rw [mI_wL, mI_s1 _ _ _ (by omega), mI_s1 _ _ _ (by omega)]
        · rw [mL_wL, if_pos rfl, if_neg (by omega)]; rfl
        · rw [mI_wL, mI_s1 _ _ _ (by omega), mI_s0, if_pos rfl]
        · rw [mI_wL, mI_s0, if_pos rfl, List.length_replicate]
        · have hk' := li hk
          rw [List.length_replicate] at hk'
          rw [mL_wL, if_pos rfl, if_pos (by omega)]
          rw [List.getElem?_replicate, if_pos hk'] at hk
          exact Option.some.inj hk
      · skip
        show J _ _ _ _ _ _ _
        refine J_zne rfl (fun b => absurd rfl b) (fun _ => ?_)
        refine J_p 2 (ls' := [_, _, _, _, _]) rfl ?_
        refine J_call rfl rfl rfl (decide_eq_true hS.t) rfl (c_refused hS 0 (by decide) (by decide) ?_)
        show J _ _ _ _ _ _ _
        exact J_ret rfl rfl rfl (kR 0 _ (by simp only [fRow, h1, h13, h25, if_true, if_false, reduceIte]) (by decide))
    · skip
      show J _ _ _ _ _ _ _
      refine J_zeq rfl (fun _ => ?_) (fun b => absurd rfl b)
      refine J_p 2 (ls' := [_, _, _, _, _]) rfl ?_
      refine J_call rfl rfl rfl (decide_eq_true hS.t) rfl (c_refused hS 0 (by decide) (by decide) ?_)
      show J _ _ _ _ _ _ _
      exact J_ret rfl rfl rfl (kR 0 _ (by simp only [fRow, h1, h13, if_true, if_false, reduceIte]) (by decide))
  · skip
    show J _ _ _ _ _ _ _
    refine J_zeq rfl (fun _ => ?_) (fun b => absurd rfl b)
    refine J_p 2 (ls' := [_, _, _, _, _]) rfl ?_
    refine J_call rfl rfl rfl (decide_eq_true hS.t) rfl (c_refused hS 0 (by decide) (by decide) ?_)
    show J _ _ _ _ _ _ _
    exact J_ret rfl rfl rfl (kR 0 _ (by simp only [fRow, h1, if_true, if_false, reduceIte]) (by decide))

theorem s_set (h : RR M r S) (w : WfS T S) (hT : T + 100 < 2 ^ 20) (s i : Int32) (val : Int64) (k : ∀ M' : Mm, Fr r M M' → RR M' r (fSet S s i val).2 → WfS (T + 99) (fSet S s i val).2 → Q (some (.int (fSet S s i val).1)) M') : J E 237 0 [.ref r, .int s, .int i, .long val, U0] [] M Q := by
  obtain ⟨g, hg⟩ : ∃ g, mI M (r + 1) = g := ⟨_, rfl⟩
  have hS := h.1
  have hA := h.a
  rw [hg] at hA
  rw [show M = wI M (r + 1) g by rw [← hg, wI_id]]
  have kR : ∀ (v : Nat) (x : Int32), fSet S s i val = rfS S v → x = rfN v → Q (some (.int x)) (wI (rfM M r v) (r + 1) g) := fun v x e ex => by
    rw [e] at k; rw [ex]; exact k _ (Fr.rf hg) (h.rf hg v) (w.rf hT)
  have kO : ∀ (a : Int32) (S' : St) (M' : Mm), fSet S s i val = (a, S') → Fr r M M' → RR M' r S' → WfS (T + 99) S' → Q (some (.int a)) M' := fun a S' M' e => by
    rw [e] at k; exact k M'
  refine J_p 1 (ls' := [_, _, _, _, _]) rfl ?_
  refine J_call rfl rfl rfl rfl rfl (c_isShelf (s := s) (fun j h1 l1 e1 => ?_) (fun h1 => ?_))
  · skip
    subst e1
    show J _ _ _ _ _ _ _
    refine J_zne rfl (fun _ => ?_) (fun b => absurd b (by decide))
    have hs := h.s j l1
    cases hsh : s_h S j with
    | none =>
      rw [hsh] at hs
      have hs9 : mI M (r + 9) j = -1 := hs
      refine J_p 1 (ls' := [_, _, _, _, _]) rfl ?_
      refine J_getR rfl hS.t hS.f13 ?_
      refine J_p 1 (ls' := [_, _, _, _, _]) rfl ?_
      refine J_old (n := j) rfl (by repeat' (first | with_reducible rfl | assumption | with_reducible refine nI_decE ?_ | with_reducible refine nI_addE ?_ ?_ | with_reducible refine nI_mulE ?_ ?_ | with_reducible refine nI_subE ?_ ?_ ?_ | omega | (with_reducible refine congrArg nI ?_; omega))) (by omega) hS.t9 hS.l9 (by omega) (by omega) hs9 ?_
      refine J_p 1 (ls' := [_, _, _, _, _]) rfl ?_
      refine J_ile rfl (fun b21 => ?_) (fun b21 => ?_)
      · skip
        refine J_p 1 (ls' := [_, _, _, _, _]) rfl ?_
        refine J_getR rfl hS.t hS.f13 ?_
        refine J_p 1 (ls' := [_, _, _, _, _]) rfl ?_
        refine J_old (n := j) rfl (by repeat' (first | with_reducible rfl | assumption | with_reducible refine nI_decE ?_ | with_reducible refine nI_addE ?_ ?_ | with_reducible refine nI_mulE ?_ ?_ | with_reducible refine nI_subE ?_ ?_ ?_ | omega | (with_reducible refine congrArg nI ?_; omega))) (by omega) hS.t9 hS.l9 (by omega) (by omega) hs9 ?_
        refine J_zge rfl (fun b => absurd b (by decide)) (fun _ => ?_)
        refine J_p 2 (ls' := [_, _, _, _, _]) rfl ?_
        refine J_call rfl rfl rfl (decide_eq_true hS.t) rfl (c_refused hS 2 (by decide) (by decide) ?_)
        show J _ _ _ _ _ _ _
        exact J_ret rfl rfl rfl (kR 2 _ (by simp only [fSet, h1, hsh, if_true, if_false, reduceIte]) (by decide))
      · skip
        exact absurd (by decide) b21
    | some v =>
      cases v with
      | inl p =>
        obtain ⟨so, els⟩ := p
        rw [hsh] at hs
        obtain ⟨o4, el40, hs9, hs10, hs11⟩ := hs
        refine J_p 1 (ls' := [_, _, _, _, _]) rfl ?_
        refine J_getR rfl hS.t hS.f13 ?_
        refine J_p 1 (ls' := [_, _, _, _, _]) rfl ?_
        refine J_old (n := j) rfl (by repeat' (first | with_reducible rfl | assumption | with_reducible refine nI_decE ?_ | with_reducible refine nI_addE ?_ ?_ | with_reducible refine nI_mulE ?_ ?_ | with_reducible refine nI_subE ?_ ?_ ?_ | omega | (with_reducible refine congrArg nI ?_; omega))) (by omega) hS.t9 hS.l9 (by omega) (by omega) hs9 ?_
        refine J_p 1 (ls' := [_, _, _, _, _]) rfl ?_
        refine J_ile rfl (fun b21 => ?_) (fun b21 => ?_)
        · skip
          refine J_p 1 (ls' := [_, _, _, _, _]) rfl ?_
          refine J_getR rfl hS.t hS.f13 ?_
          refine J_p 1 (ls' := [_, _, _, _, _]) rfl ?_
          refine J_old (n := j) rfl (by repeat' (first | with_reducible rfl | assumption | with_reducible refine nI_decE ?_ | with_reducible refine nI_addE ?_ ?_ | with_reducible refine nI_mulE ?_ ?_ | with_reducible refine nI_subE ?_ ?_ ?_ | omega | (with_reducible refine congrArg nI ?_; omega))) (by omega) hS.t9 hS.l9 (by omega) (by omega) hs9 ?_
          refine J_zge rfl (fun _ => ?_) (fun b => absurd (nI_pos' (by omega)) b)
          refine J_p 4 (ls' := [_, _, _, _, _]) rfl ?_
          refine J_getR rfl hS.t hS.f14 ?_
          refine J_p 1 (ls' := [_, _, _, _, _]) rfl ?_
          refine J_old (n := j) rfl (by repeat' (first | with_reducible rfl | assumption | with_reducible refine nI_decE ?_ | with_reducible refine nI_addE ?_ ?_ | with_reducible refine nI_mulE ?_ ?_ | with_reducible refine nI_subE ?_ ?_ ?_ | omega | (with_reducible refine congrArg nI ?_; omega))) (by omega) hS.t10 hS.l10 (by omega) (by omega) hs10 ?_
          refine J_p 3 (ls' := [_, _, _, _, _]) rfl ?_
          refine J_call rfl rfl rfl rfl rfl (c_inX (x := i) (n := els.length) (by omega) (fun m h59 l59 e59 => ?_) (fun h59 => ?_))
          · skip
            subst e59
            show J _ _ _ _ _ _ _
            refine J_zne rfl (fun _ => ?_) (fun b => absurd b (by decide))
            refine J_p 1 (ls' := [_, _, _, _, _]) rfl ?_
            refine J_getR rfl hS.t hS.f15 ?_
            refine J_p 6 (ls' := [_, _, _, _, _]) rfl ?_
            refine J_getR rfl hS.t hS.f13 ?_
            refine J_p 1 (ls' := [_, _, _, _, _]) rfl ?_
            refine J_old (n := j) rfl (by repeat' (first | with_reducible rfl | assumption | with_reducible refine nI_decE ?_ | with_reducible refine nI_addE ?_ ?_ | with_reducible refine nI_mulE ?_ ?_ | with_reducible refine nI_subE ?_ ?_ ?_ | omega | (with_reducible refine congrArg nI ?_; omega))) (by omega) hS.t9 hS.l9 (by omega) (by omega) hs9 ?_
            refine J_p 1 (ls' := [_, _, _, _, _]) rfl ?_
            refine J_call rfl rfl rfl rfl rfl (c_lowest o4 ?_)
            show J _ _ _ _ _ _ _
            refine J_last (n := 40 * j + m) rfl (by repeat' (first | with_reducible rfl | assumption | with_reducible refine nI_decE ?_ | with_reducible refine nI_addE ?_ ?_ | with_reducible refine nI_mulE ?_ ?_ | with_reducible refine nI_subE ?_ ?_ ?_ | omega | (with_reducible refine congrArg nI ?_; omega))) hS.t11 hS.l11 (by omega) (by omega) ?_
            refine J_wL ?_
            refine J_p 1 (ls' := [_, _, _, _, _]) rfl ?_
            refine J_ret rfl rfl rfl (kO _ (z_h S j (some (.inl (so, els.set m (loL so val))))) _ (by simp only [fSet, h1, hsh, h59, if_true, if_false, reduceIte]) ((Fr.slx M _ _ (by omega) (by omega)).trans (Fr.wix _ _ (by omega) (by omega))) (h.shelf hg rfl rfl (fun a z1 z2 z3 z4 => rfl) (fun i hi => rfl) (fun i hi => rfl) (fun i k hi hk => rfl) (fun i k hi hk => ?_) ⟨o4, by rw [List.length_set]; exact el40, hs9, by rw [List.length_set]; exact hs10, fun k y hk => ?_⟩) (WfS.mono w (by omega) (by omega)))
            · rw [mL_s0, if_neg (by omega)]
            · rw [mL_s0]
              rcases set_or hk with ⟨rfl, rfl⟩ | ⟨hne, hk⟩
              · exact if_pos rfl
              · rw [if_neg (by omega)]; exact hs11 k y hk
          · skip
            show J _ _ _ _ _ _ _
            refine J_zne rfl (fun b => absurd rfl b) (fun _ => ?_)
            refine J_p 2 (ls' := [_, _, _, _, _]) rfl ?_
            refine J_call rfl rfl rfl (decide_eq_true hS.t) rfl (c_refused hS 0 (by decide) (by decide) ?_)
            show J _ _ _ _ _ _ _
            exact J_ret rfl rfl rfl (kR 0 _ (by simp only [fSet, h1, hsh, h59, if_true, if_false, reduceIte]) (by decide))
        · skip
          exact absurd (nI_le (by omega) (by omega)) b21
      | inr c =>
        rw [hsh] at hs
        obtain ⟨n, ⟨n3, n6⟩, hc1, hs9, c0, c1, c2, c3⟩ := hs
        refine J_p 1 (ls' := [_, _, _, _, _]) rfl ?_
        refine J_getR rfl hS.t hS.f13 ?_
        refine J_p 1 (ls' := [_, _, _, _, _]) rfl ?_
        refine J_old (n := j) rfl (by repeat' (first | with_reducible rfl | assumption | with_reducible refine nI_decE ?_ | with_reducible refine nI_addE ?_ ?_ | with_reducible refine nI_mulE ?_ ?_ | with_reducible refine nI_subE ?_ ?_ ?_ | omega | (with_reducible refine congrArg nI ?_; omega))) (by omega) hS.t9 hS.l9 (by omega) (by omega) hs9 ?_
        refine J_p 1 (ls' := [_, _, _, _, _]) rfl ?_
        refine J_ile rfl (fun b21 => ?_) (fun b21 => ?_)
        · skip
          exact absurd b21 (nI_ge (by omega) (by omega))
        · skip
          refine J_p 2 (ls' := [_, _, _, _, _]) rfl ?_
          refine J_call rfl rfl rfl (decide_eq_true hS.t) rfl (c_refused hS 1 (by decide) (by decide) ?_)
          show J _ _ _ _ _ _ _
          exact J_ret rfl rfl rfl (kR 1 _ (by simp only [fSet, h1, hsh, if_true, if_false, reduceIte]) (by decide))
  · skip
    show J _ _ _ _ _ _ _
    refine J_zne rfl (fun b => absurd rfl b) (fun _ => ?_)
    refine J_p 2 (ls' := [_, _, _, _, _]) rfl ?_
    refine J_call rfl rfl rfl (decide_eq_true hS.t) rfl (c_refused hS 0 (by decide) (by decide) ?_)
    show J _ _ _ _ _ _ _
    exact J_ret rfl rfl rfl (kR 0 _ (by simp only [fSet, h1, if_true, if_false, reduceIte]) (by decide))

end PUB20