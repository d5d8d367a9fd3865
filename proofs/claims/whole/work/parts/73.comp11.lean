/-! THE COMPONENT: a text is read byte by byte. -/
/-- the open part's number: letters (h = 0), star (2), hash (3) -/
def pvB (v h : Nat) : Int32 := if h = 0 then nI v else if h = 2 then -2 else -3
/-- one byte; the state: closed parts, letters in the open part (4 behind a sign), its value, its sort -/
def byB (w : Bool) (b : Nat) (s : List Int32 × Nat × Nat × Nat) : Option (List Int32 × Nat × Nat × Nat) := if 97 ≤ b ∧ b ≤ 122 then (if s.2.1 < 4 then some (s.1, s.2.1 + 1, 27 * s.2.2.1 + b - 97 + 1, s.2.2.2) else none) else if b = 46 then (if s.2.1 = 0 ∨ s.2.2.2 = 3 ∨ ¬ s.1.length + 1 < 4 then none else some (s.1 ++ [pvB s.2.2.1 s.2.2.2], 0, 0, 0)) else if w = true ∧ s.2.1 = 0 ∧ (b = 42 ∨ b = 35) then some (s.1, 4, 0, if b = 35 then 3 else 2) else none
def ruB (w : Bool) (t : List Nat) : Nat → Nat → List Int32 × Nat × Nat × Nat → Nat ⊕ List Int32
  | 0, p, _ => .inl p
  | f + 1, p, s => match t[p]? with
    | none => if s.2.1 = 0 then .inl p else .inr (s.1 ++ [pvB s.2.2.1 s.2.2.2])
    | some b => match byB w b s with
      | none => .inl p
      | some s' => ruB w t f (p + 1) s'
theorem ruB_n {w : Bool} {t : List Nat} {f p : Nat} {s : List Int32 × Nat × Nat × Nat} (h : t[p]? = none) : ruB w t (f + 1) p s = if s.2.1 = 0 then .inl p else .inr (s.1 ++ [pvB s.2.2.1 s.2.2.2]) := by
  simp only [ruB, h]
theorem ruB_f {w : Bool} {t : List Nat} {f p b : Nat} {s : List Int32 × Nat × Nat × Nat} (h : t[p]? = some b) (hb : byB w b s = none) : ruB w t (f + 1) p s = .inl p := by
  simp only [ruB, h, hb]
theorem ruB_s {w : Bool} {t : List Nat} {f p b : Nat} {s s' : List Int32 × Nat × Nat × Nat} (h : t[p]? = some b) (hb : byB w b s = some s') : ruB w t (f + 1) p s = ruB w t f (p + 1) s' := by
  simp only [ruB, h, hb]
/-- behind a part -/
theorem ruB_end {w : Bool} {t : List Nat} {f p n v h : Nat} {cs : List Int32} (hn : ¬ n = 0) (hp : p ≤ t.length) (hs : n = 4 ∨ ∀ b, t[p]? = some b → ¬ (97 ≤ b ∧ b ≤ 122)) (h4 : n ≤ 4) (hcs : cs.length < 4) : ruB w t (f + 1) p (cs, n, v, h) = if p = t.length then .inr (cs ++ [pvB v h]) else if t[p]? = some 46 ∧ ¬ cs.length + 1 = 4 ∧ ¬ h = 3 then ruB w t f (p + 1) (cs ++ [pvB v h], 0, 0, 0) else .inl p := by
  cases e : t[p]? with
  | none =>
    have : t.length ≤ p := List.getElem?_eq_none_iff.mp e
    rw [ruB_n e, if_pos (show p = t.length by omega)]
    exact if_neg hn
  | some b =>
    have hlt := li e
    rw [if_neg (show ¬ p = t.length by omega)]
    by_cases cl : 97 ≤ b ∧ b ≤ 122
    · have n4 : n = 4 := by
        rcases hs with z | z
        · exact z
        · exact absurd cl (z b e)
      rw [ruB_f e (by unfold byB; rw [if_pos cl, if_neg (show ¬ n < 4 by omega)]), if_neg (fun y => by have := Option.some.inj y.1; omega)]
    · by_cases c46 : b = 46
      · subst c46
        by_cases cc : ¬ cs.length + 1 = 4 ∧ ¬ h = 3
        · rw [if_pos ⟨rfl, cc⟩]
          exact ruB_s e (by unfold byB; rw [if_neg cl, if_pos rfl, if_neg (fun y => by rcases y with y | y | y; exact hn y; exact cc.2 y; exact y (show cs.length + 1 < 4 by omega))])
        · rw [if_neg (fun y => cc y.2)]
          refine ruB_f e ?_
          unfold byB
          rw [if_neg cl, if_pos rfl, if_pos]
          by_cases c3 : h = 3
          · exact Or.inr (Or.inl c3)
          · exact Or.inr (Or.inr (fun y => cc ⟨by have y' : cs.length + 1 < 4 := y; omega, c3⟩))
      · rw [if_neg (fun y => c46 (Option.some.inj y.1))]
        refine ruB_f e ?_
        unfold byB
        rw [if_neg cl, if_neg c46, if_neg (fun y => hn y.2.1)]
/-- letters -/
theorem ruB_let {w : Bool} {t : List Nat} {cs : List Int32} : ∀ (k f p n v : Nat), n + k = 4 → t.length < f + p → p ≤ t.length → ruB w t f p (cs, n, v, 0) = ruB w t (f - ((ltA t k p v n).2 - n)) (p + ((ltA t k p v n).2 - n)) (cs, (ltA t k p v n).2, (ltA t k p v n).1, 0) ∧ ((ltA t k p v n).2 = 4 ∨ ∀ b, t[p + ((ltA t k p v n).2 - n)]? = some b → ¬ (97 ≤ b ∧ b ≤ 122))
  | 0, f, p, n, v, hk, hf, hp => by
    refine ⟨?_, Or.inl hk⟩
    show _ = ruB w t (f - (n - n)) (p + (n - n)) (cs, n, v, 0)
    rw [Nat.sub_self]
    rfl
  | k + 1, f, p, n, v, hk, hf, hp => by
    cases e : t[p]? with
    | none =>
      have el : ltA t (k + 1) p v n = (v, n) := by simp only [ltA, e]
      rw [el]
      refine ⟨?_, Or.inr (fun b hb => ?_)⟩
      · show _ = ruB w t (f - (n - n)) (p + (n - n)) (cs, n, v, 0)
        rw [Nat.sub_self]
        rfl
      · rw [show p + ((v, n).2 - n) = p by show p + (n - n) = p; omega, e] at hb
        cases hb
    | some b =>
      by_cases cl : 97 ≤ b ∧ b ≤ 122
      · have el : ltA t (k + 1) p v n = ltA t k (p + 1) (27 * v + b - 97 + 1) (n + 1) := by simp only [ltA, e]; rw [if_pos cl]
        have hlt := li e
        obtain ⟨f', rfl⟩ : ∃ f', f = f' + 1 := ⟨f - 1, by omega⟩
        obtain ⟨i1, i2⟩ := ruB_let (w := w) (t := t) (cs := cs) k f' (p + 1) (n + 1) (27 * v + b - 97 + 1) (by omega) (by omega) (by omega)
        have hn := (ltA_n t k (p + 1) (27 * v + b - 97 + 1) (n + 1)).1
        rw [el]
        obtain ⟨r, hr⟩ : ∃ r, ltA t k (p + 1) (27 * v + b - 97 + 1) (n + 1) = r := ⟨_, rfl⟩
        rw [hr] at i1 i2 hn ⊢
        have e1 : p + 1 + (r.2 - (n + 1)) = p + (r.2 - n) := by omega
        have e2 : f' - (r.2 - (n + 1)) = f' + 1 - (r.2 - n) := by omega
        rw [e1] at i1 i2
        rw [e2] at i1
        refine ⟨?_, i2⟩
        rw [← i1]
        exact ruB_s e (by unfold byB; rw [if_pos cl, if_pos (show n < 4 by omega)])
      · have el : ltA t (k + 1) p v n = (v, n) := by simp only [ltA, e]; rw [if_neg cl]
        rw [el]
        refine ⟨?_, Or.inr (fun b' hb => ?_)⟩
        · show _ = ruB w t (f - (n - n)) (p + (n - n)) (cs, n, v, 0)
          rw [Nat.sub_self]
          rfl
        · rw [show p + ((v, n).2 - n) = p by show p + (n - n) = p; omega, e] at hb
          cases hb
          exact cl
theorem nI_ne3 {v : Nat} (h : v < 2 ^ 31) : ¬ nI v = -3 := fun y => by
  have := congrArg Int32.toInt y
  rw [nI_toInt h] at this
  have h3 : (-3 : Int32).toInt = -3 := by decide
  omega
/-- byte by byte is part by part -/
theorem ruB_pa {w : Bool} {t : List Nat} : ∀ (d f p : Nat) (cs : List Int32), cs.length + d = 4 → 0 < d → t.length < f + p → p ≤ t.length → ruB w t f p (cs, 0, 0, 0) = paA w t d p cs
  | 0, _, _, _, _, h, _, _ => absurd h (by omega)
  | d + 1, f, p, cs, hd, _, hf, hp => by
    obtain ⟨f', rfl⟩ : ∃ f', f = f' + 1 := ⟨f - 1, by omega⟩
    have sign : ∀ b h, (b = 42 ∧ h = 2) ∨ (b = 35 ∧ h = 3) → w = true → t[p]? = some b → onA w t p = some (p + 1, pvB 0 h) → ruB w t (f' + 1) p (cs, 0, 0, 0) = paA w t (d + 1) p cs := fun b h hb hw e ho => by
      have hlt := li e
      have e1 : byB w b (cs, 0, 0, 0) = some (cs, 4, 0, h) := by
        unfold byB
        rw [if_neg (by omega), if_neg (by omega), if_pos ⟨hw, rfl, by omega⟩]
        rcases hb with ⟨b1, h1⟩ | ⟨b1, h1⟩
        · subst b1; subst h1; rfl
        · subst b1; subst h1; rfl
      obtain ⟨f2, rfl⟩ : ∃ f2, f' = f2 + 1 := ⟨f' - 1, by omega⟩
      rw [ruB_s e e1, ruB_end (by omega) (by omega) (Or.inl rfl) (by omega) (by omega), paA_S ho]
      have hv : pvB 0 h = -3 ↔ h = 3 := by
        rcases hb with ⟨_, h1⟩ | ⟨_, h1⟩
        · subst h1
          exact ⟨fun y => absurd y (by decide), fun y => absurd y (by omega)⟩
        · subst h1
          exact ⟨fun _ => rfl, fun _ => rfl⟩
      by_cases c1 : p + 1 = t.length
      · rw [if_pos c1, if_pos c1]
      · rw [if_neg c1, if_neg c1]
        by_cases c2 : t[p + 1]? = some 46 ∧ ¬ cs.length + 1 = 4 ∧ ¬ h = 3
        · rw [if_pos c2, if_pos ⟨c2.1, c2.2.1, fun y => c2.2.2 (hv.mp y)⟩]
          have := li c2.1
          exact ruB_pa d f2 (p + 1 + 1) (cs ++ [pvB 0 h]) (by rw [List.length_append]; show cs.length + 1 + d = 4; omega) (by have := c2.2.1; omega) (by omega) (by omega)
        · rw [if_neg c2, if_neg (fun y => c2 ⟨y.1, y.2.1, fun z => y.2.2 (hv.mpr z)⟩)]
    by_cases c42 : w = true ∧ t[p]? = some 42
    · exact sign 42 2 (Or.inl ⟨rfl, rfl⟩) c42.1 c42.2 (by unfold onA; rw [if_pos c42]; rfl)
    · by_cases c35 : w = true ∧ t[p]? = some 35
      · exact sign 35 3 (Or.inr ⟨rfl, rfl⟩) c35.1 c35.2 (by unfold onA; rw [if_neg c42, if_pos c35]; rfl)
      · obtain ⟨i1, i2⟩ := ruB_let (w := w) (t := t) (cs := cs) 4 (f' + 1) p 0 0 rfl hf hp
        have hn := ltA_n t 4 p 0 0
        have hv := (ltA_v t 4 p 0 0 (by omega) (Or.inl rfl)).1
        have ho : onA w t p = if (ltA t 4 p 0 0).2 = 0 then none else some (p + (ltA t 4 p 0 0).2, nI (ltA t 4 p 0 0).1) := by unfold onA; rw [if_neg c42, if_neg c35]
        obtain ⟨r, hr⟩ : ∃ r, ltA t 4 p 0 0 = r := ⟨_, rfl⟩
        rw [hr] at i1 i2 hn hv ho
        rw [Nat.sub_zero] at i1 i2
        by_cases cz : r.2 = 0
        · rw [if_pos cz] at ho
          have ep : paA w t (d + 1) p cs = .inl p := by simp only [paA, ho]
          rw [ep]
          cases e : t[p]? with
          | none => rw [ruB_n e]; exact if_pos rfl
          | some b =>
            refine ruB_f e ?_
            have nl : ¬ (97 ≤ b ∧ b ≤ 122) := by
              rcases i2 with z | z
              · omega
              · exact z b (by rw [cz]; exact e)
            unfold byB
            rw [if_neg nl]
            by_cases c46 : b = 46
            · rw [if_pos c46, if_pos (Or.inl rfl)]
            · rw [if_neg c46, if_neg]
              rintro ⟨y1, _, y2 | y2⟩
              · exact c42 ⟨y1, by rw [e, y2]⟩
              · exact c35 ⟨y1, by rw [e, y2]⟩
        · rw [if_neg cz] at ho
          have hpl : p + r.2 ≤ t.length := by
            have := hn.2.2
            rw [Nat.max_eq_right hp] at this
            omega
          obtain ⟨f2, hf2⟩ : ∃ f2, f' + 1 - r.2 = f2 + 1 := ⟨f' - r.2, by omega⟩
          have hv31 : r.1 < 2 ^ 31 := by
            have : 27 ^ r.2 ≤ 27 ^ 4 := Nat.pow_le_pow_right (by omega) (by omega)
            omega
          rw [i1, hf2, ruB_end cz hpl i2 (by omega) (by omega), paA_S ho]
          have ev : pvB r.1 0 = nI r.1 := rfl
          rw [ev]
          by_cases c1 : p + r.2 = t.length
          · rw [if_pos c1, if_pos c1]
          · rw [if_neg c1, if_neg c1]
            by_cases c2 : t[p + r.2]? = some 46 ∧ ¬ cs.length + 1 = 4 ∧ ¬ 0 = 3
            · rw [if_pos c2, if_pos ⟨c2.1, c2.2.1, nI_ne3 hv31⟩]
              have := li c2.1
              exact ruB_pa d f2 (p + r.2 + 1) (cs ++ [nI r.1]) (by rw [List.length_append]; show cs.length + 1 + d = 4; omega) (by have := c2.2.1; omega) (by omega) (by omega)
            · rw [if_neg c2, if_neg (fun y => c2 ⟨y.1, y.2.1, by omega⟩)]
