/-! THE REFERENCE: a new one. -/
def iT (j : Nat) : Nat := if j = 10 then 21 else 20
def iL : Nat → Nat
  | 0 => 7919
  | 1 => 7919
  | 2 => 7919
  | 3 => 5
  | 4 => 6
  | 5 => 250
  | 6 => 4
  | 7 => 20
  | 8 => 8
  | 9 => 8
  | 10 => 320
  | _ => 32
def iF : Nat → Nat
  | 0 => 0
  | 1 => 1
  | 2 => 2
  | 3 => 4
  | 4 => 5
  | 5 => 6
  | 6 => 9
  | 7 => 11
  | 8 => 13
  | 9 => 14
  | 10 => 15
  | _ => 16
def iC (j : Nat) : Nat → Int32 := if j = 4 then (fun k => if k < 6 then nI (wt k) else 0) else if j = 8 then (fun k => if k < 8 then -1 else 0) else fun _ => 0
def iU : Nat → Nat
  | 0 => 0
  | k + 1 => iU k + iL k
/-- an address that is as it was -/
def Sm (M M' : Mm) (a : Nat) : Prop := M'.1 a = M.1 a ∧ mI M' a = mI M a ∧ mL M' a = mL M a ∧ mR M' a = mR M a
theorem Sm.refl (M : Mm) (a : Nat) : Sm M M a := ⟨rfl, rfl, rfl, rfl⟩
theorem Sm.trans {M1 M2 M3 : Mm} {a : Nat} (h1 : Sm M1 M2 a) (h2 : Sm M2 M3 a) : Sm M1 M3 a := ⟨h2.1.trans h1.1, h2.2.1.trans h1.2.1, h2.2.2.1.trans h1.2.2.1, h2.2.2.2.trans h1.2.2.2⟩
def PI (M0 M : Mm) (r k : Nat) : Prop := mN M = r + 1 + k ∧ mT M r = 11 ∧ mI M r = (fun _ => 0) ∧ (∀ j, j < k → mT M (r + 1 + j) = iT j ∧ mS M (r + 1 + j) = iL j ∧ mR M r (iF j) = some (r + 1 + j) ∧ mI M (r + 1 + j) = iC j) ∧ (∀ a, a < r → Sm M0 M a) ∧ mU M = mU M0 + iU k
theorem iF_inj : ∀ k, k < 12 → ∀ j, j < k → iF j ≠ iF k := by decide
theorem nC_T (M : Mm) (t n a : Nat) : mT (nC M t n) a = if a = mN M then t else mT M a := by
  show (if a = mN M then (t, n) else M.1 a).1 = _
  split <;> rfl
theorem nC_S (M : Mm) (t n a : Nat) : mS (nC M t n) a = if a = mN M then n else mS M a := by
  show (if a = mN M then (t, n) else M.1 a).2 = _
  split <;> rfl
theorem nC_I (M : Mm) (t n a : Nat) : mI (nC M t n) a = if a = mN M then (fun _ => 0) else mI M a := by
  funext k
  show (if a = mN M then 0 else mI M a k) = _
  split <;> rfl
theorem nC_L (M : Mm) (t n a : Nat) : mL (nC M t n) a = if a = mN M then (fun _ => 0) else mL M a := by
  funext k
  show (if a = mN M then 0 else mL M a k) = _
  split <;> rfl
theorem nC_R (M : Mm) (t n a : Nat) : mR (nC M t n) a = if a = mN M then (fun _ => none) else mR M a := by
  funext k
  show (if a = mN M then none else mR M a k) = _
  split <;> rfl
theorem nC_0 (M : Mm) (t n a : Nat) : (nC M t n).1 a = if a = mN M then (t, n) else M.1 a := rfl
theorem sR_R (M : Mm) (a k b j : Nat) (x : Option Nat) : mR (sR M a k x) b j = if b = a ∧ j = k then x else mR M b j := rfl
theorem nC_z (M : Mm) (t n : Nat) : wI (nC M t n) (mN M) (fun _ => 0) = nC M t n := by
  have h : (fun _ => 0) = mI (nC M t n) (mN M) := by rw [nC_I, if_pos rfl]
  rw [h, wI_id]
theorem PI.step {M0 M : Mm} {r k : Nat} (h : PI M0 M r k) (hk : k < 12) {t n y : Nat} {f : Nat → Int32} (ht : iT k = t) (hn : iL k = n) (hy : iF k = y) (hf : iC k = f) : PI M0 (sR (wI (nC M t n) (mN M) f) r y (some (mN M))) r (k + 1) := by
  subst ht; subst hn; subst hy; subst hf
  obtain ⟨h1, h2, h3, h4, h5, h6⟩ := h
  refine ⟨by show mN M + 1 = _; omega, ?_, ?_, fun j hj => ?_, fun a ha => ?_, ?_⟩
  · show mT (nC M (iT k) (iL k)) r = 11
    rw [nC_T, if_neg (by omega)]; exact h2
  · show mI (wI (nC M (iT k) (iL k)) (mN M) (iC k)) r = _
    rw [mI_oth _ _ (by omega), nC_I, if_neg (by omega)]; exact h3
  · by_cases e : j = k
    · subst e
      refine ⟨?_, ?_, ?_, ?_⟩
      · show mT (nC M (iT j) (iL j)) _ = _
        rw [nC_T, if_pos (by omega)]
      · show mS (nC M (iT j) (iL j)) _ = _
        rw [nC_S, if_pos (by omega)]
      · rw [sR_R, if_pos ⟨rfl, rfl⟩, h1]
      · show mI (wI (nC M (iT j) (iL j)) (mN M) (iC j)) _ = _
        rw [← h1, mI_same]
    · have hj' : j < k := by omega
      obtain ⟨a1, a2, a3, a4⟩ := h4 j hj'
      refine ⟨?_, ?_, ?_, ?_⟩
      · show mT (nC M (iT k) (iL k)) _ = _
        rw [nC_T, if_neg (by omega)]; exact a1
      · show mS (nC M (iT k) (iL k)) _ = _
        rw [nC_S, if_neg (by omega)]; exact a2
      · rw [sR_R, if_neg (fun z => iF_inj k hk j hj' z.2)]
        show mR (nC M (iT k) (iL k)) r (iF j) = _
        rw [nC_R, if_neg (by omega)]; exact a3
      · show mI (wI (nC M (iT k) (iL k)) (mN M) (iC k)) _ = _
        rw [mI_oth _ _ (by omega), nC_I, if_neg (by omega)]; exact a4
  · refine (h5 a ha).trans ⟨?_, ?_, ?_, ?_⟩
    · show (nC M (iT k) (iL k)).1 a = _
      rw [nC_0, if_neg (by omega)]
    · show mI (wI (nC M (iT k) (iL k)) (mN M) (iC k)) a = _
      rw [mI_oth _ _ (by omega), nC_I, if_neg (by omega)]
    · show mL (nC M (iT k) (iL k)) a = _
      rw [nC_L, if_neg (by omega)]
    · funext j
      rw [sR_R, if_neg (by omega)]
      show mR (nC M (iT k) (iL k)) a j = _
      rw [nC_R, if_neg (by omega)]
  · show mU M + iL k = _
    rw [h6]
    show mU M0 + iU k + iL k = mU M0 + (iU k + iL k)
    omega
/-- the state of a new one -/
def A00 : Ab := ([], [], [], [], 0, nI 1, [])
def S00 : St := (A00, none, [], fun _ => none, fun _ => 0)
theorem Wf00 : WfS 0 S00 := ⟨⟨⟨Nat.le_refl 0, by decide⟩, fun q x h => (by cases h), fun q x h => (by cases h), fun q x h => (by cases h), fun q x h => (by cases h), fun i j d e _ h => (by cases h), fun k c h => (by cases h)⟩, fun B h => by cases h⟩
theorem Rep00 : Rep (upd (fun _ => 0) 5 (nI 1)) A00 := by
  have e : ∀ z, z ≠ 5 → upd (fun _ => (0 : Int32)) 5 (nI 1) z = 0 := fun z hz => if_neg hz
  refine ⟨⟨Nat.zero_le _, e 0 (by omega), fun p y hp => (by cases hp)⟩, ⟨Nat.zero_le _, e 1 (by omega), fun p y hp => (by cases hp)⟩, ⟨Nat.zero_le _, e 2 (by omega), fun p y hp => (by cases hp)⟩, ⟨Nat.zero_le _, e 3 (by omega), fun p y hp => (by cases hp)⟩, e 4 (by omega), if_pos rfl, ⟨Nat.zero_le _, e 6 (by omega), fun p y hp => (by cases hp)⟩, fun z hz => e z (by omega)⟩
theorem PI.rr {M0 M : Mm} {r : Nat} (h : PI M0 M r 12) : RR (sI M (r + 1) 5 (nI 1)) r S00 := by
  obtain ⟨h1, h2, h3, h4, h5, h6⟩ := h
  have c := fun j hj => (h4 j hj).2.2.2
  have e : ∀ a, a ≠ r + 1 → mI (sI M (r + 1) 5 (nI 1)) a = mI M a := fun a ha => mI_s1 _ _ _ ha
  have e1 : mI (sI M (r + 1) 5 (nI 1)) (r + 1) = upd (fun _ => 0) 5 (nI 1) := by
    rw [sI_wI, mI_same, show mI M (r + 1) = fun _ => 0 from c 0 (by omega)]
  refine ⟨?_, fun k hk => ?_, fun z hz => ?_, ?_, ⟨fun z hz => ?_, fun _ => ?_, fun B hB => (by cases hB)⟩, ⟨Nat.zero_le _, ?_, fun k b hb => (by cases hb)⟩, fun s hs => ?_, fun j hj => ?_⟩
  · refine ⟨h2, ⟨(h4 0 (by omega)).2.2.1, (h4 0 (by omega)).1, (h4 0 (by omega)).2.1⟩, ⟨(h4 1 (by omega)).2.2.1, (h4 1 (by omega)).1, (h4 1 (by omega)).2.1⟩, ⟨(h4 2 (by omega)).2.2.1, (h4 2 (by omega)).1, (h4 2 (by omega)).2.1⟩, ⟨(h4 3 (by omega)).2.2.1, (h4 3 (by omega)).1, (h4 3 (by omega)).2.1⟩, ⟨(h4 4 (by omega)).2.2.1, (h4 4 (by omega)).1, (h4 4 (by omega)).2.1⟩, ⟨(h4 5 (by omega)).2.2.1, (h4 5 (by omega)).1, (h4 5 (by omega)).2.1⟩, ⟨(h4 6 (by omega)).2.2.1, (h4 6 (by omega)).1, (h4 6 (by omega)).2.1⟩, ⟨(h4 7 (by omega)).2.2.1, (h4 7 (by omega)).1, (h4 7 (by omega)).2.1⟩, ⟨(h4 8 (by omega)).2.2.1, (h4 8 (by omega)).1, (h4 8 (by omega)).2.1⟩, ⟨(h4 9 (by omega)).2.2.1, (h4 9 (by omega)).1, (h4 9 (by omega)).2.1⟩, ⟨(h4 10 (by omega)).2.2.1, (h4 10 (by omega)).1, (h4 10 (by omega)).2.1⟩, ⟨(h4 11 (by omega)).2.2.1, (h4 11 (by omega)).1, (h4 11 (by omega)).2.1⟩⟩
  · rw [e _ (by omega), show r + 5 = r + 1 + 4 from rfl, c 4 (by omega)]
    show (if k < 6 then nI (wt k) else 0) = _
    rw [if_pos hk]
  · rw [e _ (by omega), show r + 2 = r + 1 + 1 from rfl, c 1 (by omega)]; rfl
  · rw [e1]; exact Rep00
  · rw [e _ (by omega), show r + 3 = r + 1 + 2 from rfl, c 2 (by omega)]; rfl
  · rw [e _ (by omega), h3]
  · rw [e _ (by omega), h3]; rfl
  · show mI _ (r + 9) s = -1
    rw [e _ (by omega), show r + 9 = r + 1 + 8 from rfl, c 8 (by omega)]
    show (if s < 8 then (-1 : Int32) else 0) = _
    rw [if_pos hs]
  · rw [e _ (by omega), show r + 4 = r + 1 + 3 from rfl, c 3 (by omega)]; rfl
section PUB24
variable {E : Nat × Nat} {M M0 : Mm} {r : Nat} {Q : Option Value → Mm → Prop}

theorem s_init (hr : mT M r = 11) (hI : mI M r = (fun _ => 0)) (hN : mN M = r + 1) (k : ∀ M' : Mm, RR M' r S00 → (∀ a, a < r → Sm M M' a) → mN M' = r + 13 → mU M' = mU M + 24410 → Q none M') : J E 158 0 [.ref r] [] M Q := by
  have p0 : PI M M r 0 := ⟨hN, hr, hI, fun j hj => absurd hj (Nat.not_lt_zero _), fun a _ => Sm.refl M a, rfl⟩
  refine J_p 1 (ls' := [_]) rfl ?_
  refine J_oin rfl rfl ?_
  refine J_p 2 (ls' := [_]) rfl ?_
  refine J_newa (n := 7919) rfl rfl (by omega) ?_
  refine J_M (nC_z M 20 7919).symm ?_
  refine J_putR rfl (show mT (nC M 20 7919) r = 11 by rw [nC_T, if_neg (by have := p0.1; omega)]; exact p0.2.1) ?_
  have p1' := p0.step (t := 20) (n := 7919) (y := 0) (f := (fun _ => 0)) (by omega) rfl rfl rfl rfl
  obtain ⟨M1, e1⟩ : ∃ X, X = sR (wI (nC M 20 7919) (mN M) (fun _ => 0)) r 0 (some (mN M)) := ⟨_, rfl⟩
  rw [← e1] at p1' ⊢
  have p1 : PI M M1 r 1 := p1'
  refine J_p 2 (ls' := [_]) rfl ?_
  refine J_newa (n := 7919) rfl rfl (by omega) ?_
  refine J_M (nC_z M1 20 7919).symm ?_
  refine J_putR rfl (show mT (nC M1 20 7919) r = 11 by rw [nC_T, if_neg (by have := p1.1; omega)]; exact p1.2.1) ?_
  have p2' := p1.step (t := 20) (n := 7919) (y := 1) (f := (fun _ => 0)) (by omega) rfl rfl rfl rfl
  obtain ⟨M2, e2⟩ : ∃ X, X = sR (wI (nC M1 20 7919) (mN M1) (fun _ => 0)) r 1 (some (mN M1)) := ⟨_, rfl⟩
  rw [← e2] at p2' ⊢
  have p2 : PI M M2 r 2 := p2'
  refine J_p 2 (ls' := [_]) rfl ?_
  refine J_newa (n := 7919) rfl rfl (by omega) ?_
  refine J_M (nC_z M2 20 7919).symm ?_
  refine J_putR rfl (show mT (nC M2 20 7919) r = 11 by rw [nC_T, if_neg (by have := p2.1; omega)]; exact p2.2.1) ?_
  have p3' := p2.step (t := 20) (n := 7919) (y := 2) (f := (fun _ => 0)) (by omega) rfl rfl rfl rfl
  obtain ⟨M3, e3⟩ : ∃ X, X = sR (wI (nC M2 20 7919) (mN M2) (fun _ => 0)) r 2 (some (mN M2)) := ⟨_, rfl⟩
  rw [← e3] at p3' ⊢
  have p3 : PI M M3 r 3 := p3'
  refine J_p 2 (ls' := [_]) rfl ?_
  refine J_newa (n := 5) rfl rfl (by omega) ?_
  refine J_M (nC_z M3 20 5).symm ?_
  refine J_putR rfl (show mT (nC M3 20 5) r = 11 by rw [nC_T, if_neg (by have := p3.1; omega)]; exact p3.2.1) ?_
  have p4' := p3.step (t := 20) (n := 5) (y := 4) (f := (fun _ => 0)) (by omega) rfl rfl rfl rfl
  obtain ⟨M4, e4⟩ : ∃ X, X = sR (wI (nC M3 20 5) (mN M3) (fun _ => 0)) r 4 (some (mN M3)) := ⟨_, rfl⟩
  rw [← e4] at p4' ⊢
  have p4 : PI M M4 r 4 := p4'
  refine J_p 2 (ls' := [_]) rfl ?_
  refine J_newa (n := 6) rfl rfl (by omega) ?_
  refine J_M (nC_z M4 20 6).symm ?_
  refine J_p 3 (ls' := [_]) rfl ?_
  refine J_iast (n := 0) (L := 6) rfl rfl (by show mT (nC M4 20 6) _ = _; rw [nC_T, if_pos rfl]) (by show mS (nC M4 20 6) _ = _; rw [nC_S, if_pos rfl]) (by omega) (by omega) ?_
  rw [sI_wg]
  refine J_p 3 (ls' := [_]) rfl ?_
  refine J_iast (n := 1) (L := 6) rfl rfl (by show mT (nC M4 20 6) _ = _; rw [nC_T, if_pos rfl]) (by show mS (nC M4 20 6) _ = _; rw [nC_S, if_pos rfl]) (by omega) (by omega) ?_
  rw [sI_wg]
  refine J_p 3 (ls' := [_]) rfl ?_
  refine J_iast (n := 2) (L := 6) rfl rfl (by show mT (nC M4 20 6) _ = _; rw [nC_T, if_pos rfl]) (by show mS (nC M4 20 6) _ = _; rw [nC_S, if_pos rfl]) (by omega) (by omega) ?_
  rw [sI_wg]
  refine J_p 3 (ls' := [_]) rfl ?_
  refine J_iast (n := 3) (L := 6) rfl rfl (by show mT (nC M4 20 6) _ = _; rw [nC_T, if_pos rfl]) (by show mS (nC M4 20 6) _ = _; rw [nC_S, if_pos rfl]) (by omega) (by omega) ?_
  rw [sI_wg]
  refine J_p 3 (ls' := [_]) rfl ?_
  refine J_iast (n := 4) (L := 6) rfl rfl (by show mT (nC M4 20 6) _ = _; rw [nC_T, if_pos rfl]) (by show mS (nC M4 20 6) _ = _; rw [nC_S, if_pos rfl]) (by omega) (by omega) ?_
  rw [sI_wg]
  refine J_p 3 (ls' := [_]) rfl ?_
  refine J_iast (n := 5) (L := 6) rfl rfl (by show mT (nC M4 20 6) _ = _; rw [nC_T, if_pos rfl]) (by show mS (nC M4 20 6) _ = _; rw [nC_S, if_pos rfl]) (by omega) (by omega) ?_
  rw [sI_wg]
  have f4 : (upd (upd (upd (upd (upd (upd (fun _ => 0) 0 (nI 0)) 1 (nI 1)) 2 (nI 2)) 3 (nI 3)) 4 (nI 5)) 5 (nI 8)) = iC 4 := by
    funext z
    show _ = if z < 6 then nI (wt z) else 0
    rcases (show z = 0 ∨ z = 1 ∨ z = 2 ∨ z = 3 ∨ z = 4 ∨ z = 5 ∨ 6 ≤ z from by omega) with rfl | rfl | rfl | rfl | rfl | rfl | hz
    · rfl
    · rfl
    · rfl
    · rfl
    · rfl
    · rfl
    · rw [if_neg (by omega)]
      simp only [upd]
      repeat (rw [if_neg (by omega)])
  rw [f4]
  refine J_putR rfl (show mT (nC M4 20 6) r = 11 by rw [nC_T, if_neg (by have := p4.1; omega)]; exact p4.2.1) ?_
  have p5' := p4.step (t := 20) (n := 6) (y := 5) (f := (iC 4)) (by omega) rfl rfl rfl rfl
  obtain ⟨M5, e5⟩ : ∃ X, X = sR (wI (nC M4 20 6) (mN M4) (iC 4)) r 5 (some (mN M4)) := ⟨_, rfl⟩
  rw [← e5] at p5' ⊢
  have p5 : PI M M5 r 5 := p5'
  refine J_p 2 (ls' := [_]) rfl ?_
  refine J_newa (n := 250) rfl rfl (by omega) ?_
  refine J_M (nC_z M5 20 250).symm ?_
  refine J_putR rfl (show mT (nC M5 20 250) r = 11 by rw [nC_T, if_neg (by have := p5.1; omega)]; exact p5.2.1) ?_
  have p6' := p5.step (t := 20) (n := 250) (y := 6) (f := (fun _ => 0)) (by omega) rfl rfl rfl rfl
  obtain ⟨M6, e6⟩ : ∃ X, X = sR (wI (nC M5 20 250) (mN M5) (fun _ => 0)) r 6 (some (mN M5)) := ⟨_, rfl⟩
  rw [← e6] at p6' ⊢
  have p6 : PI M M6 r 6 := p6'
  refine J_p 2 (ls' := [_]) rfl ?_
  refine J_newa (n := 4) rfl rfl (by omega) ?_
  refine J_M (nC_z M6 20 4).symm ?_
  refine J_putR rfl (show mT (nC M6 20 4) r = 11 by rw [nC_T, if_neg (by have := p6.1; omega)]; exact p6.2.1) ?_
  have p7' := p6.step (t := 20) (n := 4) (y := 9) (f := (fun _ => 0)) (by omega) rfl rfl rfl rfl
  obtain ⟨M7, e7⟩ : ∃ X, X = sR (wI (nC M6 20 4) (mN M6) (fun _ => 0)) r 9 (some (mN M6)) := ⟨_, rfl⟩
  rw [← e7] at p7' ⊢
  have p7 : PI M M7 r 7 := p7'
  refine J_p 2 (ls' := [_]) rfl ?_
  refine J_newa (n := 20) rfl rfl (by omega) ?_
  refine J_M (nC_z M7 20 20).symm ?_
  refine J_putR rfl (show mT (nC M7 20 20) r = 11 by rw [nC_T, if_neg (by have := p7.1; omega)]; exact p7.2.1) ?_
  have p8' := p7.step (t := 20) (n := 20) (y := 11) (f := (fun _ => 0)) (by omega) rfl rfl rfl rfl
  obtain ⟨M8, e8⟩ : ∃ X, X = sR (wI (nC M7 20 20) (mN M7) (fun _ => 0)) r 11 (some (mN M7)) := ⟨_, rfl⟩
  rw [← e8] at p8' ⊢
  have p8 : PI M M8 r 8 := p8'
  refine J_p 2 (ls' := [_]) rfl ?_
  refine J_newa (n := 8) rfl rfl (by omega) ?_
  refine J_M (nC_z M8 20 8).symm ?_
  refine J_p 3 (ls' := [_]) rfl ?_
  refine J_iast (n := 0) (L := 8) rfl rfl (by show mT (nC M8 20 8) _ = _; rw [nC_T, if_pos rfl]) (by show mS (nC M8 20 8) _ = _; rw [nC_S, if_pos rfl]) (by omega) (by omega) ?_
  rw [sI_wg]
  refine J_p 3 (ls' := [_]) rfl ?_
  refine J_iast (n := 1) (L := 8) rfl rfl (by show mT (nC M8 20 8) _ = _; rw [nC_T, if_pos rfl]) (by show mS (nC M8 20 8) _ = _; rw [nC_S, if_pos rfl]) (by omega) (by omega) ?_
  rw [sI_wg]
  refine J_p 3 (ls' := [_]) rfl ?_
  refine J_iast (n := 2) (L := 8) rfl rfl (by show mT (nC M8 20 8) _ = _; rw [nC_T, if_pos rfl]) (by show mS (nC M8 20 8) _ = _; rw [nC_S, if_pos rfl]) (by omega) (by omega) ?_
  rw [sI_wg]
  refine J_p 3 (ls' := [_]) rfl ?_
  refine J_iast (n := 3) (L := 8) rfl rfl (by show mT (nC M8 20 8) _ = _; rw [nC_T, if_pos rfl]) (by show mS (nC M8 20 8) _ = _; rw [nC_S, if_pos rfl]) (by omega) (by omega) ?_
  rw [sI_wg]
  refine J_p 3 (ls' := [_]) rfl ?_
  refine J_iast (n := 4) (L := 8) rfl rfl (by show mT (nC M8 20 8) _ = _; rw [nC_T, if_pos rfl]) (by show mS (nC M8 20 8) _ = _; rw [nC_S, if_pos rfl]) (by omega) (by omega) ?_
  rw [sI_wg]
  refine J_p 3 (ls' := [_]) rfl ?_
  refine J_iast (n := 5) (L := 8) rfl rfl (by show mT (nC M8 20 8) _ = _; rw [nC_T, if_pos rfl]) (by show mS (nC M8 20 8) _ = _; rw [nC_S, if_pos rfl]) (by omega) (by omega) ?_
  rw [sI_wg]
  refine J_p 3 (ls' := [_]) rfl ?_
  refine J_iast (n := 6) (L := 8) rfl rfl (by show mT (nC M8 20 8) _ = _; rw [nC_T, if_pos rfl]) (by show mS (nC M8 20 8) _ = _; rw [nC_S, if_pos rfl]) (by omega) (by omega) ?_
  rw [sI_wg]
  refine J_p 3 (ls' := [_]) rfl ?_
  refine J_iast (n := 7) (L := 8) rfl rfl (by show mT (nC M8 20 8) _ = _; rw [nC_T, if_pos rfl]) (by show mS (nC M8 20 8) _ = _; rw [nC_S, if_pos rfl]) (by omega) (by omega) ?_
  rw [sI_wg]
  have f8 : (upd (upd (upd (upd (upd (upd (upd (upd (fun _ => 0) 0 (-1)) 1 (-1)) 2 (-1)) 3 (-1)) 4 (-1)) 5 (-1)) 6 (-1)) 7 (-1)) = iC 8 := by
    funext z
    show _ = if z < 8 then (-1 : Int32) else 0
    rcases (show z = 0 ∨ z = 1 ∨ z = 2 ∨ z = 3 ∨ z = 4 ∨ z = 5 ∨ z = 6 ∨ z = 7 ∨ 8 ≤ z from by omega) with rfl | rfl | rfl | rfl | rfl | rfl | rfl | rfl | hz
    · rfl
    · rfl
    · rfl
    · rfl
    · rfl
    · rfl
    · rfl
    · rfl
    · rw [if_neg (by omega)]
      simp only [upd]
      repeat (rw [if_neg (by omega)])
  rw [f8]
  refine J_putR rfl (show mT (nC M8 20 8) r = 11 by rw [nC_T, if_neg (by have := p8.1; omega)]; exact p8.2.1) ?_
  have p9' := p8.step (t := 20) (n := 8) (y := 13) (f := (iC 8)) (by omega) rfl rfl rfl rfl
  obtain ⟨M9, e9⟩ : ∃ X, X = sR (wI (nC M8 20 8) (mN M8) (iC 8)) r 13 (some (mN M8)) := ⟨_, rfl⟩
  rw [← e9] at p9' ⊢
  have p9 : PI M M9 r 9 := p9'
  refine J_p 2 (ls' := [_]) rfl ?_
  refine J_newa (n := 8) rfl rfl (by omega) ?_
  refine J_M (nC_z M9 20 8).symm ?_
  refine J_putR rfl (show mT (nC M9 20 8) r = 11 by rw [nC_T, if_neg (by have := p9.1; omega)]; exact p9.2.1) ?_
  have p10' := p9.step (t := 20) (n := 8) (y := 14) (f := (fun _ => 0)) (by omega) rfl rfl rfl rfl
  obtain ⟨M10, e10⟩ : ∃ X, X = sR (wI (nC M9 20 8) (mN M9) (fun _ => 0)) r 14 (some (mN M9)) := ⟨_, rfl⟩
  rw [← e10] at p10' ⊢
  have p10 : PI M M10 r 10 := p10'
  refine J_p 2 (ls' := [_]) rfl ?_
  refine J_newa (n := 320) rfl rfl (by omega) ?_
  refine J_M (nC_z M10 21 320).symm ?_
  refine J_putR rfl (show mT (nC M10 21 320) r = 11 by rw [nC_T, if_neg (by have := p10.1; omega)]; exact p10.2.1) ?_
  have p11' := p10.step (t := 21) (n := 320) (y := 15) (f := (fun _ => 0)) (by omega) rfl rfl rfl rfl
  obtain ⟨M11, e11⟩ : ∃ X, X = sR (wI (nC M10 21 320) (mN M10) (fun _ => 0)) r 15 (some (mN M10)) := ⟨_, rfl⟩
  rw [← e11] at p11' ⊢
  have p11 : PI M M11 r 11 := p11'
  refine J_p 2 (ls' := [_]) rfl ?_
  refine J_newa (n := 32) rfl rfl (by omega) ?_
  refine J_M (nC_z M11 20 32).symm ?_
  refine J_putR rfl (show mT (nC M11 20 32) r = 11 by rw [nC_T, if_neg (by have := p11.1; omega)]; exact p11.2.1) ?_
  have p12' := p11.step (t := 20) (n := 32) (y := 16) (f := (fun _ => 0)) (by omega) rfl rfl rfl rfl
  obtain ⟨M12, e12⟩ : ∃ X, X = sR (wI (nC M11 20 32) (mN M11) (fun _ => 0)) r 16 (some (mN M11)) := ⟨_, rfl⟩
  rw [← e12] at p12' ⊢
  have p12 : PI M M12 r 12 := p12'
  have q0 := p12.2.2.2.1 0 (by omega)
  refine J_p 1 (ls' := [_]) rfl ?_
  refine J_getR rfl p12.2.1 q0.2.2.1 ?_
  refine J_p 2 (ls' := [_]) rfl ?_
  refine J_iast (n := 5) (L := 7919) rfl rfl q0.1 q0.2.1 (by omega) (by omega) ?_
  refine J_ret rfl rfl rfl (k _ p12.rr (fun a ha => ?_) (by show mN M12 = _; have := p12.1; omega) (p12.2.2.2.2.2))
  have := p12.2.2.2.2.1 a ha
  exact this.trans ⟨rfl, mI_s1 _ _ _ (by omega), rfl, rfl⟩
end PUB24