/-! THE REFERENCE: the tape is read. -/
/-- letters from place p on, f at most: their value, how many -/
def ltA (t : List Nat) : Nat → Nat → Nat → Nat → Nat × Nat
  | 0, _, v, n => (v, n)
  | f + 1, p, v, n => match t[p]? with
    | none => (v, n)
    | some b => if 97 ≤ b ∧ b ≤ 122 then ltA t f (p + 1) (27 * v + b - 97 + 1) (n + 1) else (v, n)
/-- one part: where it ends, its number -/
def onA (w : Bool) (t : List Nat) (p : Nat) : Option (Nat × Int32) := if w = true ∧ t[p]? = some 42 then some (p + 1, -2) else if w = true ∧ t[p]? = some 35 then some (p + 1, -3) else if (ltA t 4 p 0 0).2 = 0 then none else some (p + (ltA t 4 p 0 0).2, nI (ltA t 4 p 0 0).1)
/-- all parts; or the fault -/
def paA (w : Bool) (t : List Nat) : Nat → Nat → List Int32 → Nat ⊕ List Int32
  | 0, p, _ => .inl p
  | f + 1, p, cs => match onA w t p with
    | none => .inl p
    | some pc => if pc.1 = t.length then .inr (cs ++ [pc.2]) else if t[pc.1]? = some 46 ∧ ¬ cs.length + 1 = 4 ∧ ¬ pc.2 = -3 then paA w t f (pc.1 + 1) (cs ++ [pc.2]) else .inl pc.1
theorem paA_S {w : Bool} {t : List Nat} {f p : Nat} {cs : List Int32} {x : Nat × Int32} (h : onA w t p = some x) : paA w t (f + 1) p cs = if x.1 = t.length then .inr (cs ++ [x.2]) else if t[x.1]? = some 46 ∧ ¬ cs.length + 1 = 4 ∧ ¬ x.2 = -3 then paA w t f (x.1 + 1) (cs ++ [x.2]) else .inl x.1 := by
  simp only [paA, h]
def btI (t : List Nat) (p : Nat) : Int32 := match t[p]? with
  | none => -1
  | some b => nI b
theorem bt_eq {t : List Nat} {p c : Nat} (h : ∀ (k b : Nat), t[k]? = some b → b ≤ 255) (hc : c ≤ 255) : btI t p = nI c ↔ t[p]? = some c := by
  unfold btI
  cases e : t[p]? with
  | none =>
    refine ⟨fun y => ?_, fun y => by cases y⟩
    have hh := congrArg Int32.toInt y
    rw [nI_toInt (by omega)] at hh
    have h3 : (-1 : Int32).toInt = -1 := by decide
    rw [h3] at hh
    omega
  | some b =>
    have := h p b e
    show nI b = nI c ↔ _
    rw [nI_eq (by omega) (by omega)]
    exact ⟨fun y => by rw [y], fun y => Option.some.inj y⟩
theorem bt_in {t : List Nat} {p : Nat} (h : ∀ (k b : Nat), t[k]? = some b → b ≤ 255) : inZ (btI t p) 97 122 ↔ ∃ b, t[p]? = some b ∧ 97 ≤ b ∧ b ≤ 122 := by
  unfold btI inZ
  cases e : t[p]? with
  | none =>
    refine ⟨fun y => ?_, fun ⟨b, y, _⟩ => by cases y⟩
    have h3 : (-1 : Int32).toInt = -1 := by decide
    have := y.1
    simp only at this
    rw [h3] at this
    omega
  | some b =>
    have := h p b e
    show (97 : Int) ≤ (nI b).toInt ∧ (nI b).toInt ≤ 122 ↔ _
    rw [nI_toInt (by omega)]
    exact ⟨fun y => ⟨b, rfl, by omega, by omega⟩, fun ⟨b', y, y1, y2⟩ => by cases y; omega⟩
theorem ltA_n (t : List Nat) : ∀ (f p v n : Nat), n ≤ (ltA t f p v n).2 ∧ (ltA t f p v n).2 ≤ n + f ∧ p + ((ltA t f p v n).2 - n) ≤ max p t.length
  | 0, p, v, n => ⟨Nat.le_refl _, Nat.le_refl _, by show p + (n - n) ≤ _; omega⟩
  | f + 1, p, v, n => by
    unfold ltA
    split
    · exact ⟨Nat.le_refl _, Nat.le_add_right _ _, by show p + (n - n) ≤ _; omega⟩
    · rename_i b hb
      have hp := li hb
      split
      · have := ltA_n t f (p + 1) (27 * v + b - 97 + 1) (n + 1)
        omega
      · exact ⟨Nat.le_refl _, Nat.le_add_right _ _, by show p + (n - n) ≤ _; omega⟩
theorem onA_le {w : Bool} {t : List Nat} {p : Nat} {x : Nat × Int32} (h : onA w t p = some x) : p < x.1 ∧ x.1 ≤ t.length := by
  unfold onA at h
  split at h
  · rename_i c
    cases h
    have := li c.2
    exact ⟨by show p < p + 1; omega, by show p + 1 ≤ _; omega⟩
  · split at h
    · rename_i c
      cases h
      have := li c.2
      exact ⟨by show p < p + 1; omega, by show p + 1 ≤ _; omega⟩
    · split at h
      · cases h
      · rename_i c
        cases h
        have h1 := ltA_n t 4 p 0 0
        refine ⟨by show p < p + (ltA t 4 p 0 0).2; omega, ?_⟩
        show p + (ltA t 4 p 0 0).2 ≤ t.length
        cases e : t[p]? with
        | none =>
          have : (ltA t 4 p 0 0).2 = 0 := by simp only [ltA, e]
          exact absurd this c
        | some b =>
          have := li e
          omega
theorem TR.sc {M M' : Mm} {r : Nat} {t : List Nat} (h : TR M r t) (hs : SC r M M') : TR M' r t := by
  obtain ⟨a1, a2, a3, a4, a5, a6, a7, a8⟩ := hs
  exact ⟨h.1, by rw [a7 7 (by omega) (by omega) (by omega)]; exact h.2.1, fun k b hk => by rw [a6 (r + 6) (by omega) (by omega) (by omega) (by omega) (by omega)]; exact h.2.2 k b hk⟩
theorem SC.w7 {r : Nat} {M : Mm} {k : Nat} {z : Int32} : SC r M (sI M (r + 7) k z) := by
  rw [sI_wI]
  refine ⟨rfl, rfl, rfl, rfl, rfl, fun a _ _ _ h2 _ => mI_oth _ _ h2, fun k _ _ _ => by rw [mI_oth _ _ (by omega)], fun h y hy => ?_⟩
  rw [mI_oth _ _ (by omega)]
  exact h y hy
theorem mI_s0 (M : Mm) (a k j : Nat) (z : Int32) : mI (sI M a k z) a j = if j = k then z else mI M a j := by rw [sI_wI, mI_same, upd]
theorem mI_s1 (M : Mm) {a b : Nat} (k : Nat) (z : Int32) (h : b ≠ a) : mI (sI M a k z) b = mI M b := by rw [sI_wI, mI_oth _ _ h]
section PUB17
variable {E : Nat × Nat} {M : Mm} {r : Nat} {g : Nat → Int32} {Q : Option Value → Mm → Prop} {t : List Nat}

theorem c_byteA (hS : RS M r) (ht : TR M r t) {p : Nat} (hp : p ≤ 1000) (k : Q (some (.int (btI t p))) (wI M (r + 1) g)) : J E 174 0 [.ref r, .int (nI p)] [] (wI M (r + 1) g) Q := by
  have h250 := ht.1
  refine J_p 2 (ls' := [_, _]) rfl ?_
  refine J_oget rfl hS.t ⟨by omega, ht.2.1⟩ ?_
  refine J_ige rfl (fun b5 => ?_) (fun b5 => ?_)
  · skip
    have e : btI t p = -1 := by
      have : t.length ≤ p := (nI_leI (by omega) (by omega)).mp b5
      unfold btI; rw [List.getElem?_eq_none this]
    refine J_p 1 (ls' := [_, _]) rfl ?_
    exact J_ret rfl rfl rfl (by rw [e] at k; exact k)
  · skip
    have hlt : p < t.length := by
      rcases Nat.lt_or_ge p t.length with z | z
      · exact z
      · exact absurd (nI_le (by omega) (by omega)) b5
    obtain ⟨b, hb⟩ := get_of hlt
    have e : btI t p = nI b := by unfold btI; rw [hb]
    refine J_p 1 (ls' := [_, _]) rfl ?_
    refine J_getR rfl hS.t hS.f6 ?_
    refine J_p 1 (ls' := [_, _]) rfl ?_
    refine J_old (n := p) rfl (by repeat' (first | with_reducible rfl | assumption | with_reducible refine nI_decE ?_ | with_reducible refine nI_addE ?_ ?_ | with_reducible refine nI_mulE ?_ ?_ | with_reducible refine nI_subE ?_ ?_ ?_ | omega | (with_reducible refine congrArg nI ?_; omega))) (by omega) hS.t6 hS.l6 (by omega) (by omega) (ht.2.2 p b hb).2 ?_
    refine J_p 1 (ls' := [_, _]) rfl ?_
    exact J_ret rfl rfl rfl (by rw [e] at k; exact k)

theorem c_rd_l {wv c2 : Int32} : ∀ (f : Nat) (M : Mm) (p v n : Nat), RS M r → TR M r t → mI M r 8 = nI p → f + n = 4 → p ≤ t.length + 1 →
    (∀ M' : Mm, SC r M M' → mI M' (r + 7) = mI M (r + 7) → mI M' r 10 = mI M r 10 → mI M' r 8 = nI (p + ((ltA t f p v n).2 - n)) → J E 175 137 [.ref r, .int wv, .int c2, .int (nI (ltA t f p v n).1), .int (nI (ltA t f p v n).2)] [] (wI M' (r + 1) g) Q) →
    J E 175 75 [.ref r, .int wv, .int c2, .int (nI v), .int (nI n)] [] (wI M (r + 1) g) Q
  | 0, M, p, v, n, hS, ht, h8, hf, hp, k => by
    refine J_p 2 (ls' := [_, _, _, _, _]) rfl ?_
    refine J_ige rfl (fun b78 => ?_) (fun b78 => ?_)
    · skip
      exact k M (SC.refl r M) rfl rfl (by rw [h8]; congr 1; show p = p + (n - n); omega)
    · skip
      exact absurd (nI_le (a := 4) (b := n) (by omega) (by omega)) b78
  | f + 1, M, p, v, n, hS, ht, h8, hf, hp, k => by
    have h250 := ht.1
    have hby : ∀ (k b : Nat), t[k]? = some b → b ≤ 255 := fun k b hk => (ht.2.2 k b hk).1
    refine J_p 2 (ls' := [_, _, _, _, _]) rfl ?_
    refine J_ige rfl (fun b78 => ?_) (fun b78 => ?_)
    · skip
      exact absurd b78 (nI_ge (a := n) (b := 4) (by omega) (by omega))
    · skip
      refine J_p 2 (ls' := [_, _, _, _, _]) rfl ?_
      refine J_oget rfl hS.t ⟨by omega, h8⟩ ?_
      refine J_call rfl rfl rfl (decide_eq_true hS.t) rfl (c_byteA hS ht (p := p) (by omega) ?_)
      show J _ _ _ _ _ _ _
      refine J_p 3 (ls' := [_, _, _, _, _]) rfl ?_
      refine J_call rfl rfl rfl rfl rfl (c_inZ (x := btI t p) (a := 97) (b := 122) (by decide) (by decide) (fun hz => ?_) (fun hz => ?_))
      · skip
        obtain ⟨b, hb, b1, b2⟩ := (bt_in hby).mp hz
        have eb : btI t p = nI b := by unfold btI; rw [hb]
        have pl := li hb
        show J _ _ _ _ _ _ _
        refine J_zeq rfl (fun b => absurd b (by decide)) (fun _ => ?_)
        refine J_p 5 (ls' := [_, _, _, _, _]) rfl ?_
        refine J_oget rfl hS.t ⟨by omega, h8⟩ ?_
        refine J_call rfl rfl rfl (decide_eq_true hS.t) rfl (c_byteA hS ht (p := p) (by omega) ?_)
        rw [eb]
        show J _ _ _ _ _ _ _
        refine J_p 5 (ls' := [_, _, _, _, _]) rfl ?_
        refine J_n0 (n := (27 * v + b) - 97 + 1) (by repeat' (first | with_reducible rfl | assumption | with_reducible refine nI_decE ?_ | with_reducible refine nI_addE ?_ ?_ | with_reducible refine nI_mulE ?_ ?_ | with_reducible refine nI_subE ?_ ?_ ?_ | omega | (with_reducible refine congrArg nI ?_; omega))) ?_
        refine J_p 3 (ls' := [_, _, _, _, _]) rfl ?_
        refine J_oget rfl hS.t ⟨by omega, h8⟩ ?_
        refine J_p 2 (ls' := [_, _, _, _, _]) rfl ?_
        refine J_oput rfl hS.t (Or.inl rfl) ?_
        refine J_p 2 (ls' := [_, _, _, _, _]) rfl ?_
        rw [nI_add p 1, nI_add n 1]
        have el : ltA t (f + 1) p v n = ltA t f (p + 1) (27 * v + b - 97 + 1) (n + 1) := by simp only [ltA, hb, if_pos (And.intro b1 b2)]
        have hn1 := ltA_n t f (p + 1) (27 * v + b - 97 + 1) (n + 1)
        have hs1 : SC r M (sI M r 8 (nI (p + 1))) := SC.w0 (Or.inl rfl)
        refine c_rd_l f (sI M r 8 (nI (p + 1))) (p + 1) (27 * v + b - 97 + 1) (n + 1) hS (ht.sc hs1) (by rw [mI_s0, if_pos rfl]) (by omega) (by omega) (fun M' hs' e7 e10 h8' => ?_)
        rw [el] at k
        refine k M' (hs1.trans hs') (e7.trans (mI_s1 _ _ _ (by omega))) (e10.trans (by rw [mI_s0, if_neg (by omega)])) ?_
        rw [h8']
        congr 1
        omega
      · skip
        show J _ _ _ _ _ _ _
        refine J_zeq rfl (fun _ => ?_) (fun b => absurd rfl b)
        have el : ltA t (f + 1) p v n = (v, n) := by
          unfold ltA
          cases e : t[p]? with
          | none => rfl
          | some b => exact if_neg (fun y => hz ((bt_in hby).mpr ⟨b, e, y.1, y.2⟩))
        rw [el] at k
        exact k M (SC.refl r M) rfl rfl (by rw [h8]; congr 1; show p = p + (n - n); omega)

theorem c_rd_t (hS : RS M r) (ht : TR M r t) {wv : Int32} {v2 v3 v4 : Value} {p n : Nat} {c : Int32} (h8 : mI M r 8 = nI p) (h10 : mI M r 10 = nI n) (hc : mI M (r + 7) n = c) (h4 : n < 4) (hp : p ≤ t.length)
  (k1 : p = t.length → ∀ M' : Mm, SC r M M' → mI M' r 10 = nI (n + 1) → mI M' (r + 7) = mI M (r + 7) → Q (some (.int (nI 1))) (wI M' (r + 1) g))
  (k2 : ¬ p = t.length → ¬ (t[p]? = some 46 ∧ ¬ n + 1 = 4 ∧ ¬ c = -3) → ∀ M' : Mm, SC r M M' → mI M' r 8 = nI p → Q (some (.int (nI 0))) (wI M' (r + 1) g))
  (k3 : ¬ p = t.length → (t[p]? = some 46 ∧ ¬ n + 1 = 4 ∧ ¬ c = -3) → ∀ M' : Mm, SC r M M' → mI M' r 8 = nI (p + 1) → mI M' r 10 = nI (n + 1) → mI M' (r + 7) = mI M (r + 7) → J E 175 10 [.ref r, .int wv, v2, v3, v4] [] (wI M' (r + 1) g) Q) : J E 175 154 [.ref r, .int wv, v2, v3, v4] [] (wI M (r + 1) g) Q := by
  have h250 := ht.1
  have hby : ∀ (k b : Nat), t[k]? = some b → b ≤ 255 := fun k b hk => (ht.2.2 k b hk).1
  have hs1 : SC r M (sI M r 10 (nI (n + 1))) := SC.w0 (Or.inr (Or.inl rfl))
  have e7 : mI (sI M r 10 (nI (n + 1))) (r + 7) = mI M (r + 7) := mI_s1 _ _ _ (by omega)
  refine J_p 2 (ls' := [_, _, _, _, _]) rfl ?_
  refine J_oget rfl hS.t ⟨by omega, h10⟩ ?_
  refine J_p 2 (ls' := [_, _, _, _, _]) rfl ?_
  refine J_t0 (nI_add n 1) ?_
  refine J_oput rfl hS.t (Or.inl rfl) ?_
  refine J_p 1 (ls' := [_, _, _, _, _]) rfl ?_
  refine J_oget rfl hS.t ⟨by omega, (show mI (sI M r 10 (nI (n + 1))) r 8 = nI p from by rw [mI_s0, if_neg (by omega)]; exact h8)⟩ ?_
  refine J_p 1 (ls' := [_, _, _, _, _]) rfl ?_
  refine J_oget rfl hS.t ⟨by omega, (show mI (sI M r 10 (nI (n + 1))) r 7 = nI t.length from by rw [mI_s0, if_neg (by omega)]; exact ht.2.1)⟩ ?_
  refine J_ine rfl (fun b172 => ?_) (fun b172 => ?_)
  · skip
    have e172 : ¬ p = t.length := fun y => b172 (by rw [y])
    refine J_p 2 (ls' := [_, _, _, _, _]) rfl ?_
    refine J_oget rfl hS.t ⟨by omega, (show mI (sI M r 10 (nI (n + 1))) r 8 = nI p from by rw [mI_s0, if_neg (by omega)]; exact h8)⟩ ?_
    refine J_call rfl rfl rfl (decide_eq_true hS.t) rfl (c_byteA (show RS (sI M r 10 (nI (n + 1))) r from hS) (ht.sc hs1) (p := p) (by omega) ?_)
    show J _ _ _ _ _ _ _
    refine J_p 1 (ls' := [_, _, _, _, _]) rfl ?_
    refine J_ine rfl (fun b187 => ?_) (fun b187 => ?_)
    · skip
      have e46 : ¬ (t[p]? = some 46 ∧ ¬ n + 1 = 4 ∧ ¬ c = -3) := fun y => b187 ((bt_eq hby (by omega)).mpr y.1)
      refine J_p 1 (ls' := [_, _, _, _, _]) rfl ?_
      exact J_retB rfl (by decide) (k2 e172 e46 _ hs1 (by rw [mI_s0, if_neg (by omega)]; exact h8))
    · skip
      refine J_p 1 (ls' := [_, _, _, _, _]) rfl ?_
      refine J_oget rfl hS.t ⟨by omega, (show mI (sI M r 10 (nI (n + 1))) r 10 = nI (n + 1) from by rw [mI_s0, if_pos rfl])⟩ ?_
      refine J_p 1 (ls' := [_, _, _, _, _]) rfl ?_
      refine J_ieq rfl (fun b195 => ?_) (fun b195 => ?_)
      · skip
        have e46 : ¬ (t[p]? = some 46 ∧ ¬ n + 1 = 4 ∧ ¬ c = -3) := fun y => y.2.1 ((nI_eq (by omega) (by omega)).mp b195)
        refine J_p 1 (ls' := [_, _, _, _, _]) rfl ?_
        exact J_retB rfl (by decide) (k2 e172 e46 _ hs1 (by rw [mI_s0, if_neg (by omega)]; exact h8))
      · skip
        refine J_p 1 (ls' := [_, _, _, _, _]) rfl ?_
        refine J_getR rfl hS.t hS.f9 ?_
        refine J_p 1 (ls' := [_, _, _, _, _]) rfl ?_
        refine J_oget rfl hS.t ⟨by omega, (show mI (sI M r 10 (nI (n + 1))) r 10 = nI (n + 1) from by rw [mI_s0, if_pos rfl])⟩ ?_
        refine J_p 2 (ls' := [_, _, _, _, _]) rfl ?_
        refine J_old (n := (n + 1) - 1) rfl (by repeat' (first | with_reducible rfl | assumption | with_reducible refine nI_decE ?_ | with_reducible refine nI_addE ?_ ?_ | with_reducible refine nI_mulE ?_ ?_ | with_reducible refine nI_subE ?_ ?_ ?_ | omega | (with_reducible refine congrArg nI ?_; omega))) (by omega) hS.t7 hS.l7 (by omega) (by omega) (show mI (sI M r 10 (nI (n + 1))) (r + 7) n = c from by rw [e7]; exact hc) ?_
        refine J_p 1 (ls' := [_, _, _, _, _]) rfl ?_
        refine J_ine rfl (fun b211 => ?_) (fun b211 => ?_)
        · skip
          have e46 : (t[p]? = some 46 ∧ ¬ n + 1 = 4 ∧ ¬ c = -3) := ⟨(bt_eq hby (by omega)).mp b187, fun y => b195 (by rw [y]), b211⟩
          refine J_p 2 (ls' := [_, _, _, _, _]) rfl ?_
          refine J_oget rfl hS.t ⟨by omega, (show mI (sI M r 10 (nI (n + 1))) r 8 = nI p from by rw [mI_s0, if_neg (by omega)]; exact h8)⟩ ?_
          refine J_p 2 (ls' := [_, _, _, _, _]) rfl ?_
          refine J_oput rfl hS.t (Or.inl rfl) ?_
          refine J_p 1 (ls' := [_, _, _, _, _]) rfl ?_
          rw [nI_add p 1]
          exact k3 e172 e46 _ (hs1.trans (SC.w0 (Or.inl rfl))) (by rw [mI_s0, if_pos rfl]) (by rw [mI_s0, if_neg (by omega), mI_s0, if_pos rfl]) ((mI_s1 _ _ _ (by omega)).trans e7)
        · skip
          have e46 : ¬ (t[p]? = some 46 ∧ ¬ n + 1 = 4 ∧ ¬ c = -3) := fun y => y.2.2 b211
          refine J_p 1 (ls' := [_, _, _, _, _]) rfl ?_
          exact J_retB rfl (by decide) (k2 e172 e46 _ hs1 (by rw [mI_s0, if_neg (by omega)]; exact h8))
  · skip
    have e172 : p = t.length := (nI_eq (by omega) (by omega)).mp b172
    refine J_p 1 (ls' := [_, _, _, _, _]) rfl ?_
    exact J_retB rfl (by decide) (k1 e172 _ hs1 (by rw [mI_s0, if_pos rfl]) e7)

theorem c_rd_o {w : Bool} {wv : Int32} (hw0 : wv = 0 → w = false) (hw1 : ¬ wv = 0 → w = true) : ∀ (f : Nat) (M : Mm) (p : Nat) (cs : List Int32) (v2 v3 v4 : Value), RS M r → TR M r t → mI M r 8 = nI p → mI M r 10 = nI cs.length → (∀ (k : Nat) (c : Int32), cs[k]? = some c → mI M (r + 7) k = c) → cs.length + f = 4 → p ≤ t.length + 1 →
    (∀ (M' : Mm) (fl : Nat), SC r M M' → paA w t f p cs = .inl fl → mI M' r 8 = nI fl → Q (some (.int (nI 0))) (wI M' (r + 1) g)) →
    (∀ (M' : Mm) (c' : List Int32), SC r M M' → paA w t f p cs = .inr c' → mI M' r 10 = nI c'.length → (∀ (k : Nat) (c : Int32), c'[k]? = some c → mI M' (r + 7) k = c) → Q (some (.int (nI 1))) (wI M' (r + 1) g)) →
    0 < f → J E 175 10 [.ref r, .int wv, v2, v3, v4] [] (wI M (r + 1) g) Q
  | 0, M, p, cs, v2, v3, v4, hS, ht, h8, h10, hcs, hf, hp, k1, k2, h0 => by
    exact absurd h0 (Nat.lt_irrefl 0)
  | f + 1, M, p, cs, v2, v3, v4, hS, ht, h8, h10, hcs, hf, hp, k1, k2, _ => by
    have h250 := ht.1
    have hby : ∀ (k b : Nat), t[k]? = some b → b ≤ 255 := fun k b hk => (ht.2.2 k b hk).1
    refine J_p 2 (ls' := [_, _, _, _, _]) rfl ?_
    refine J_oget rfl hS.t ⟨by omega, h8⟩ ?_
    refine J_call rfl rfl rfl (decide_eq_true hS.t) rfl (c_byteA hS ht (p := p) (by omega) ?_)
    show J _ _ _ _ _ _ _
    refine J_p 2 (ls' := [_, _, _, _, _]) rfl ?_
    refine J_zeq rfl (fun b20 => ?_) (fun b20 => ?_)
    · skip
      have hst : (¬ (w = true ∧ t[p]? = some 42)) ∧ ¬ (w = true ∧ t[p]? = some 35) := ⟨fun y => absurd y.1 (by rw [hw0 b20]; decide), fun y => absurd y.1 (by rw [hw0 b20]; decide)⟩
      refine J_p 4 (ls' := [_, _, _, _, _]) rfl ?_
      refine c_rd_l (E := E) (Q := Q) 4 M p 0 0 hS ht h8 rfl (by omega) (fun M1 hsM1 e7M e10M h8M => ?_)
      have hln := ltA_n t 4 p 0 0
      refine J_p 1 (ls' := [_, _, _, _, _]) rfl ?_
      rw [Nat.sub_zero] at h8M
      refine J_zne rfl (fun b139 => ?_) (fun b139 => ?_)
      · have hnz : ¬ (ltA t 4 p 0 0).2 = 0 := fun y => b139 (by rw [y]; rfl)
        refine J_p 1 (ls' := [_, _, _, _, _]) rfl ?_
        refine J_getR rfl (hsM1.rs hS).t (hsM1.rs hS).f9 ?_
        refine J_p 1 (ls' := [_, _, _, _, _]) rfl ?_
        refine J_oget rfl (hsM1.rs hS).t ⟨by omega, e10M.trans h10⟩ ?_
        refine J_p 1 (ls' := [_, _, _, _, _]) rfl ?_
        refine J_ost (n := cs.length) rfl rfl (by omega) (hsM1.rs hS).t7 (hsM1.rs hS).l7 (by omega) (by omega) ?_
        have es : onA w t p = some (p + (ltA t 4 p 0 0).2, nI (ltA t 4 p 0 0).1) := by unfold onA; rw [if_neg hst.1, if_neg hst.2, if_neg hnz]
        have hle := onA_le es
        have hs2 : SC r M (sI M1 (r + 7) cs.length (nI (ltA t 4 p 0 0).1)) := hsM1.trans SC.w7
        refine c_rd_t (wv := wv) (p := p + (ltA t 4 p 0 0).2) (n := cs.length) (c := nI (ltA t 4 p 0 0).1) (show RS (sI M1 (r + 7) cs.length (nI (ltA t 4 p 0 0).1)) r from hs2.rs hS) (ht.sc hs2) (by rw [mI_s1 _ _ _ (by omega)]; exact h8M) (by rw [mI_s1 _ _ _ (by omega), e10M]; exact h10) (by rw [mI_s0, if_pos rfl]) (by omega) hle.2 (fun h1 M' hs' h10' e7' => ?_) (fun h1 h2 M' hs' h8' => ?_) (fun h1 h2 M' hs' h8' h10' e7' => ?_)
        · refine k2 M' (cs ++ [nI (ltA t 4 p 0 0).1]) (hs2.trans hs') ?_ ?_ ?_
          · rw [paA_S es, if_pos h1]
          · rw [h10', List.length_append]; rfl
          · intro j c hj
            rw [e7']
            exact (fun j c hj => by rw [mI_s0, e7M]; rcases app_or hj with ⟨rfl, rfl⟩ | ⟨hlt, hj⟩; exact if_pos rfl; rw [if_neg (by omega)]; exact hcs _ _ hj) j c hj
        · exact k1 M' (p + (ltA t 4 p 0 0).2) (hs2.trans hs') (by rw [paA_S es, if_neg h1, if_neg h2]) h8'
        · have ep : paA w t (f + 1) p cs = paA w t f (p + (ltA t 4 p 0 0).2 + 1) (cs ++ [nI (ltA t 4 p 0 0).1]) := by rw [paA_S es, if_neg h1, if_pos h2]
          rw [ep] at k1 k2
          have hlt := li h2.1
          refine c_rd_o hw0 hw1 f M' (p + (ltA t 4 p 0 0).2 + 1) (cs ++ [nI (ltA t 4 p 0 0).1]) _ _ _ (hs'.rs (hs2.rs hS)) (ht.sc (hs2.trans hs')) h8' (by rw [h10', List.length_append]; rfl) ?_ (by rw [List.length_append]; show cs.length + 1 + f = 4; omega) (by show p + (ltA t 4 p 0 0).2 + 1 ≤ t.length + 1; omega) (fun M2 fl hs3 => k1 M2 fl (hs2.trans (hs'.trans hs3))) (fun M2 c2 hs3 => k2 M2 c2 (hs2.trans (hs'.trans hs3))) (by have := h2.2.1; omega)
          intro j c hj
          rw [e7']
          exact (fun j c hj => by rw [mI_s0, e7M]; rcases app_or hj with ⟨rfl, rfl⟩ | ⟨hlt, hj⟩; exact if_pos rfl; rw [if_neg (by omega)]; exact hcs _ _ hj) j c hj
      · have hz0 : (ltA t 4 p 0 0).2 = 0 := (nI_eq (b := 0) (by omega) (by omega)).mp b139
        have es : onA w t p = none := by unfold onA; rw [if_neg hst.1, if_neg hst.2, if_pos hz0]
        refine J_p 1 (ls' := [_, _, _, _, _]) rfl ?_
        exact J_retB rfl (by decide) (k1 M1 p hsM1 (by simp only [paA, es]) (by rw [h8M, hz0]; rfl))
    · skip
      have hwt : w = true := hw1 b20
      refine J_p 2 (ls' := [_, _, _, _, _]) rfl ?_
      refine J_ieq rfl (fun b26 => ?_) (fun b26 => ?_)
      · skip
        have e42 : t[p]? = some 42 := (bt_eq hby (by omega)).mp b26
        refine J_p 1 (ls' := [_, _, _, _, _]) rfl ?_
        refine J_getR rfl hS.t hS.f9 ?_
        refine J_p 1 (ls' := [_, _, _, _, _]) rfl ?_
        refine J_oget rfl hS.t ⟨by omega, h10⟩ ?_
        refine J_p 2 (ls' := [_, _, _, _, _]) rfl ?_
        refine J_ine rfl (fun b46 => ?_) (fun b46 => ?_)
        · skip
          exact absurd b26 b46
        · skip
          have h8x : mI (sI M (r + 7) cs.length (-2)) r 8 = nI p := by rw [mI_s1 _ _ _ (by omega)]; exact h8
          refine J_p 2 (ls' := [_, _, _, _, _]) rfl ?_
          refine J_ost (n := cs.length) rfl (by repeat' (first | with_reducible rfl | assumption | with_reducible refine nI_decE ?_ | with_reducible refine nI_addE ?_ ?_ | with_reducible refine nI_mulE ?_ ?_ | with_reducible refine nI_subE ?_ ?_ ?_ | omega | (with_reducible refine congrArg nI ?_; omega))) (by omega) hS.t7 hS.l7 (by omega) (by omega) ?_
          refine J_p 2 (ls' := [_, _, _, _, _]) rfl ?_
          refine J_oget rfl hS.t ⟨by omega, h8x⟩ ?_
          refine J_p 2 (ls' := [_, _, _, _, _]) rfl ?_
          refine J_oput rfl hS.t (Or.inl rfl) ?_
          refine J_p 1 (ls' := [_, _, _, _, _]) rfl ?_
          rw [nI_add p 1]
          have es : onA w t p = some (p + 1, -2) := by unfold onA; rw [if_pos ⟨hwt, e42⟩]
          have hle := onA_le es
          have hs2 : SC r M (sI (sI M (r + 7) cs.length (-2)) r 8 (nI (p + 1))) := SC.w7.trans (SC.w0 (Or.inl rfl))
          refine c_rd_t (wv := wv) (p := p + 1) (n := cs.length) (c := -2) (show RS (sI (sI M (r + 7) cs.length (-2)) r 8 (nI (p + 1))) r from hs2.rs hS) (ht.sc hs2) (by rw [mI_s0, if_pos rfl]) (by rw [mI_s0, if_neg (by omega), mI_s1 _ _ _ (by omega)]; exact h10) (by rw [mI_s1 _ _ _ (by omega), mI_s0, if_pos rfl]) (by omega) hle.2 (fun h1 M' hs' h10' e7' => ?_) (fun h1 h2 M' hs' h8' => ?_) (fun h1 h2 M' hs' h8' h10' e7' => ?_)
          · refine k2 M' (cs ++ [-2]) (hs2.trans hs') ?_ ?_ ?_
            · rw [paA_S es, if_pos h1]
            · rw [h10', List.length_append]; rfl
            · intro j c hj
              rw [e7']
              exact (fun j c hj => by rw [mI_s1 _ _ _ (by omega), mI_s0]; rcases app_or hj with ⟨rfl, rfl⟩ | ⟨hlt, hj⟩; exact if_pos rfl; rw [if_neg (by omega)]; exact hcs _ _ hj) j c hj
          · exact k1 M' (p + 1) (hs2.trans hs') (by rw [paA_S es, if_neg h1, if_neg h2]) h8'
          · have ep : paA w t (f + 1) p cs = paA w t f (p + 1 + 1) (cs ++ [-2]) := by rw [paA_S es, if_neg h1, if_pos h2]
            rw [ep] at k1 k2
            have hlt := li h2.1
            refine c_rd_o hw0 hw1 f M' (p + 1 + 1) (cs ++ [-2]) _ _ _ (hs'.rs (hs2.rs hS)) (ht.sc (hs2.trans hs')) h8' (by rw [h10', List.length_append]; rfl) ?_ (by rw [List.length_append]; show cs.length + 1 + f = 4; omega) (by show p + 1 + 1 ≤ t.length + 1; omega) (fun M2 fl hs3 => k1 M2 fl (hs2.trans (hs'.trans hs3))) (fun M2 c2 hs3 => k2 M2 c2 (hs2.trans (hs'.trans hs3))) (by have := h2.2.1; omega)
            intro j c hj
            rw [e7']
            exact (fun j c hj => by rw [mI_s1 _ _ _ (by omega), mI_s0]; rcases app_or hj with ⟨rfl, rfl⟩ | ⟨hlt, hj⟩; exact if_pos rfl; rw [if_neg (by omega)]; exact hcs _ _ hj) j c hj
      · skip
        have e42 : ¬ t[p]? = some 42 := fun y => b26 ((bt_eq hby (by omega)).mpr y)
        refine J_p 2 (ls' := [_, _, _, _, _]) rfl ?_
        refine J_ine rfl (fun b32 => ?_) (fun b32 => ?_)
        · skip
          have hst : (¬ (w = true ∧ t[p]? = some 42)) ∧ ¬ (w = true ∧ t[p]? = some 35) := ⟨fun y => e42 y.2, fun y => b32 ((bt_eq hby (by omega)).mpr y.2)⟩
          refine J_p 4 (ls' := [_, _, _, _, _]) rfl ?_
          refine c_rd_l (E := E) (Q := Q) 4 M p 0 0 hS ht h8 rfl (by omega) (fun M1 hsM1 e7M e10M h8M => ?_)
          have hln := ltA_n t 4 p 0 0
          refine J_p 1 (ls' := [_, _, _, _, _]) rfl ?_
          rw [Nat.sub_zero] at h8M
          refine J_zne rfl (fun b139 => ?_) (fun b139 => ?_)
          · have hnz : ¬ (ltA t 4 p 0 0).2 = 0 := fun y => b139 (by rw [y]; rfl)
            refine J_p 1 (ls' := [_, _, _, _, _]) rfl ?_
            refine J_getR rfl (hsM1.rs hS).t (hsM1.rs hS).f9 ?_
            refine J_p 1 (ls' := [_, _, _, _, _]) rfl ?_
            refine J_oget rfl (hsM1.rs hS).t ⟨by omega, e10M.trans h10⟩ ?_
            refine J_p 1 (ls' := [_, _, _, _, _]) rfl ?_
            refine J_ost (n := cs.length) rfl rfl (by omega) (hsM1.rs hS).t7 (hsM1.rs hS).l7 (by omega) (by omega) ?_
            have es : onA w t p = some (p + (ltA t 4 p 0 0).2, nI (ltA t 4 p 0 0).1) := by unfold onA; rw [if_neg hst.1, if_neg hst.2, if_neg hnz]
            have hle := onA_le es
            have hs2 : SC r M (sI M1 (r + 7) cs.length (nI (ltA t 4 p 0 0).1)) := hsM1.trans SC.w7
            refine c_rd_t (wv := wv) (p := p + (ltA t 4 p 0 0).2) (n := cs.length) (c := nI (ltA t 4 p 0 0).1) (show RS (sI M1 (r + 7) cs.length (nI (ltA t 4 p 0 0).1)) r from hs2.rs hS) (ht.sc hs2) (by rw [mI_s1 _ _ _ (by omega)]; exact h8M) (by rw [mI_s1 _ _ _ (by omega), e10M]; exact h10) (by rw [mI_s0, if_pos rfl]) (by omega) hle.2 (fun h1 M' hs' h10' e7' => ?_) (fun h1 h2 M' hs' h8' => ?_) (fun h1 h2 M' hs' h8' h10' e7' => ?_)
            · refine k2 M' (cs ++ [nI (ltA t 4 p 0 0).1]) (hs2.trans hs') ?_ ?_ ?_
              · rw [paA_S es, if_pos h1]
              · rw [h10', List.length_append]; rfl
              · intro j c hj
                rw [e7']
                exact (fun j c hj => by rw [mI_s0, e7M]; rcases app_or hj with ⟨rfl, rfl⟩ | ⟨hlt, hj⟩; exact if_pos rfl; rw [if_neg (by omega)]; exact hcs _ _ hj) j c hj
            · exact k1 M' (p + (ltA t 4 p 0 0).2) (hs2.trans hs') (by rw [paA_S es, if_neg h1, if_neg h2]) h8'
            · have ep : paA w t (f + 1) p cs = paA w t f (p + (ltA t 4 p 0 0).2 + 1) (cs ++ [nI (ltA t 4 p 0 0).1]) := by rw [paA_S es, if_neg h1, if_pos h2]
              rw [ep] at k1 k2
              have hlt := li h2.1
              refine c_rd_o hw0 hw1 f M' (p + (ltA t 4 p 0 0).2 + 1) (cs ++ [nI (ltA t 4 p 0 0).1]) _ _ _ (hs'.rs (hs2.rs hS)) (ht.sc (hs2.trans hs')) h8' (by rw [h10', List.length_append]; rfl) ?_ (by rw [List.length_append]; show cs.length + 1 + f = 4; omega) (by show p + (ltA t 4 p 0 0).2 + 1 ≤ t.length + 1; omega) (fun M2 fl hs3 => k1 M2 fl (hs2.trans (hs'.trans hs3))) (fun M2 c2 hs3 => k2 M2 c2 (hs2.trans (hs'.trans hs3))) (by have := h2.2.1; omega)
              intro j c hj
              rw [e7']
              exact (fun j c hj => by rw [mI_s0, e7M]; rcases app_or hj with ⟨rfl, rfl⟩ | ⟨hlt, hj⟩; exact if_pos rfl; rw [if_neg (by omega)]; exact hcs _ _ hj) j c hj
          · have hz0 : (ltA t 4 p 0 0).2 = 0 := (nI_eq (b := 0) (by omega) (by omega)).mp b139
            have es : onA w t p = none := by unfold onA; rw [if_neg hst.1, if_neg hst.2, if_pos hz0]
            refine J_p 1 (ls' := [_, _, _, _, _]) rfl ?_
            exact J_retB rfl (by decide) (k1 M1 p hsM1 (by simp only [paA, es]) (by rw [h8M, hz0]; rfl))
        · skip
          have e35 : t[p]? = some 35 := (bt_eq hby (by omega)).mp b32
          refine J_p 1 (ls' := [_, _, _, _, _]) rfl ?_
          refine J_getR rfl hS.t hS.f9 ?_
          refine J_p 1 (ls' := [_, _, _, _, _]) rfl ?_
          refine J_oget rfl hS.t ⟨by omega, h10⟩ ?_
          refine J_p 2 (ls' := [_, _, _, _, _]) rfl ?_
          refine J_ine rfl (fun b46 => ?_) (fun b46 => ?_)
          · skip
            have h8x : mI (sI M (r + 7) cs.length (-3)) r 8 = nI p := by rw [mI_s1 _ _ _ (by omega)]; exact h8
            refine J_p 1 (ls' := [_, _, _, _, _]) rfl ?_
            refine J_ost (n := cs.length) rfl (by repeat' (first | with_reducible rfl | assumption | with_reducible refine nI_decE ?_ | with_reducible refine nI_addE ?_ ?_ | with_reducible refine nI_mulE ?_ ?_ | with_reducible refine nI_subE ?_ ?_ ?_ | omega | (with_reducible refine congrArg nI ?_; omega))) (by omega) hS.t7 hS.l7 (by omega) (by omega) ?_
            refine J_p 2 (ls' := [_, _, _, _, _]) rfl ?_
            refine J_oget rfl hS.t ⟨by omega, h8x⟩ ?_
            refine J_p 2 (ls' := [_, _, _, _, _]) rfl ?_
            refine J_oput rfl hS.t (Or.inl rfl) ?_
            refine J_p 1 (ls' := [_, _, _, _, _]) rfl ?_
            rw [nI_add p 1]
            have es : onA w t p = some (p + 1, -3) := by unfold onA; rw [if_neg (fun y => e42 y.2), if_pos ⟨hwt, e35⟩]
            have hle := onA_le es
            have hs2 : SC r M (sI (sI M (r + 7) cs.length (-3)) r 8 (nI (p + 1))) := SC.w7.trans (SC.w0 (Or.inl rfl))
            refine c_rd_t (wv := wv) (p := p + 1) (n := cs.length) (c := -3) (show RS (sI (sI M (r + 7) cs.length (-3)) r 8 (nI (p + 1))) r from hs2.rs hS) (ht.sc hs2) (by rw [mI_s0, if_pos rfl]) (by rw [mI_s0, if_neg (by omega), mI_s1 _ _ _ (by omega)]; exact h10) (by rw [mI_s1 _ _ _ (by omega), mI_s0, if_pos rfl]) (by omega) hle.2 (fun h1 M' hs' h10' e7' => ?_) (fun h1 h2 M' hs' h8' => ?_) (fun h1 h2 M' hs' h8' h10' e7' => ?_)
            · refine k2 M' (cs ++ [-3]) (hs2.trans hs') ?_ ?_ ?_
              · rw [paA_S es, if_pos h1]
              · rw [h10', List.length_append]; rfl
              · intro j c hj
                rw [e7']
                exact (fun j c hj => by rw [mI_s1 _ _ _ (by omega), mI_s0]; rcases app_or hj with ⟨rfl, rfl⟩ | ⟨hlt, hj⟩; exact if_pos rfl; rw [if_neg (by omega)]; exact hcs _ _ hj) j c hj
            · exact k1 M' (p + 1) (hs2.trans hs') (by rw [paA_S es, if_neg h1, if_neg h2]) h8'
            · have ep : paA w t (f + 1) p cs = paA w t f (p + 1 + 1) (cs ++ [-3]) := by rw [paA_S es, if_neg h1, if_pos h2]
              rw [ep] at k1 k2
              have hlt := li h2.1
              refine c_rd_o hw0 hw1 f M' (p + 1 + 1) (cs ++ [-3]) _ _ _ (hs'.rs (hs2.rs hS)) (ht.sc (hs2.trans hs')) h8' (by rw [h10', List.length_append]; rfl) ?_ (by rw [List.length_append]; show cs.length + 1 + f = 4; omega) (by show p + 1 + 1 ≤ t.length + 1; omega) (fun M2 fl hs3 => k1 M2 fl (hs2.trans (hs'.trans hs3))) (fun M2 c2 hs3 => k2 M2 c2 (hs2.trans (hs'.trans hs3))) (by have := h2.2.1; omega)
              intro j c hj
              rw [e7']
              exact (fun j c hj => by rw [mI_s1 _ _ _ (by omega), mI_s0]; rcases app_or hj with ⟨rfl, rfl⟩ | ⟨hlt, hj⟩; exact if_pos rfl; rw [if_neg (by omega)]; exact hcs _ _ hj) j c hj
          · skip
            exact absurd b46 b26

theorem c_isReadA (hS : RS M r) (ht : TR M r t) {w : Bool} {wv : Int32} (hw0 : wv = 0 → w = false) (hw1 : ¬ wv = 0 → w = true)
  (k1 : ∀ (M' : Mm) (fl : Nat), SC r M M' → paA w t 4 0 [] = .inl fl → mI M' r 8 = nI fl → Q (some (.int (nI 0))) (wI M' (r + 1) g))
  (k2 : ∀ (M' : Mm) (c' : List Int32), SC r M M' → paA w t 4 0 [] = .inr c' → mI M' r 10 = nI c'.length → (∀ (k : Nat) (c : Int32), c'[k]? = some c → mI M' (r + 7) k = c) → Q (some (.int (nI 1))) (wI M' (r + 1) g)) : J E 175 0 [.ref r, .int wv, U0, U0, U0] [] (wI M (r + 1) g) Q := by
  refine J_p 2 (ls' := [_, _, _, _, _]) rfl ?_
  refine J_oput rfl hS.t (Or.inl rfl) ?_
  refine J_p 2 (ls' := [_, _, _, _, _]) rfl ?_
  refine J_oput rfl hS.t (Or.inl rfl) ?_
  have hs0 : SC r M (sI (sI M r 8 (nI 0)) r 10 (nI 0)) := (SC.w0 (Or.inl rfl)).trans (SC.w0 (Or.inr (Or.inl rfl)))
  exact c_rd_o hw0 hw1 4 (sI (sI M r 8 (nI 0)) r 10 (nI 0)) 0 [] _ _ _ (hs0.rs hS) (ht.sc hs0) (by rw [mI_s0, if_neg (by omega), mI_s0, if_pos rfl]) (by rw [mI_s0, if_pos rfl]; rfl) (fun k c hk => by cases hk) rfl (by omega) (fun M' fl hs => k1 M' fl (hs0.trans hs)) (fun M' c hs => k2 M' c (hs0.trans hs)) (by omega)

end PUB17