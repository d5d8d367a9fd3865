/-! THE START: the memory that the real heap stands for at the law's entry. -/
def zT (b e1 e2 a : Nat) : Nat := if a = b ∨ a = e1 ∨ a = e2 then 19 else 50
def zS (H : Heap) (a : Nat) : Nat := match H[a]? with
  | some c => c.slots.size
  | none => 0
def zI (H : Heap) (a j : Nat) : Int32 := match H[a]? with
  | some c => (match c.slots[j]? with
    | some (.int z) => z
    | _ => 0)
  | none => 0
def zM (H : Heap) (b e1 e2 : Nat) : Mm := (fun a => (zT b e1 e2 a, zS H a), zI H, fun _ _ => 0, fun _ _ => none, H.size, 0)
theorem zS_of {H : Heap} {a : Nat} {c : Cell} (h : H[a]? = some c) : zS H a = c.slots.size := by unfold zS; rw [h]
theorem zI_of {H : Heap} {a j : Nat} {c : Cell} {z : Int32} (h : H[a]? = some c) (h2 : c.slots[j]? = some (.int z)) : zI H a j = z := by unfold zI; rw [h]; simp only [h2]
/-- an int array that a term of the Statement names, whole -/
def zA (s : State) (t N : Nat) (f : Nat → Int32) : Prop := ∃ cell : Cell, s.heap[t]? = some cell ∧ s.isArrayOf cell .int ∧ cell.vm ≠ .unknown ∧ cell.slots.size = N ∧ ∀ j : Nat, j < N → cell.slots[j]? = some (.int (f j))
theorem zA_of {args : Array Value} {s : State} {tm : Term} {N : Nat} {f : Nat → Int32} (hN : N < 2 ^ 31) (harr : (Cond.arrayOf tm .int).before args s = true) (hlen : (Cond.eq (.length tm) (.int (Int32.ofNat N))).before args s = true) (hel : ∀ j : Nat, j < N → (Cond.eq (.elem tm (.int (Int32.ofNat j))) (.int (f j))).before args s = true) :
    ∃ t : Nat, tm.eval args s none [] s = some (.ref t) ∧ zA s t N f := by
  have hv := va_eqt hlen
  obtain ⟨t, cell, ht, hat, -⟩ := Term.length_spec hv
  obtain ⟨hcell, hkn, -, -⟩ := State.arrayAt?_spec hat
  obtain ⟨hof, -⟩ := Cond.arrayOf_spec harr ht hcell
  refine ⟨t, ht, cell, hcell, hof, hkn, ?_, fun j hj => ?_⟩
  · simp only [Term.eval, ht, hat, Option.bind_eq_bind, Option.bind_some] at hv
    by_cases hlt : cell.slots.size < 2147483648
    · have hv1 : Nat.toInt32 cell.slots.size = Int32.ofNat N := by simpa [hlt] using hv
      have a0 := congrArg Int32.toNatClampNeg hv1
      have a1 : (Nat.toInt32 cell.slots.size).toNatClampNeg = cell.slots.size := Int32.toNatClampNeg_ofNat_of_lt hlt
      have a2 : (Int32.ofNat N).toNatClampNeg = N := Int32.toNatClampNeg_ofNat_of_lt hN
      exact a1.symm.trans (a0.trans a2)
    · simp [hlt] at hv
  · obtain ⟨a, i, cell2, h1, h2, h3, h4, h5⟩ := Term.elem_spec (va_eqt (hel j hj))
    cases ht.symm.trans h1
    cases hat.symm.trans h3
    have hi : i = Int32.ofNat j := by
      have e : (Term.int (Int32.ofNat j)).eval args s none [] s = some (.int (Int32.ofNat j)) := rfl
      cases h2.symm.trans e
      rfl
    have hc : i.toNatClampNeg = j := by rw [hi]; exact Int32.toNatClampNeg_ofNat_of_lt (Nat.lt_trans hj hN)
    rw [hc] at h5
    exact h5
theorem zA.lt {s : State} {t N : Nat} {f : Nat → Int32} (h : zA s t N f) : t < s.heap.size := by
  obtain ⟨cell, h1, -⟩ := h
  exact (Array.getElem?_eq_some_iff.mp h1).1
theorem zA.s {s : State} {t N : Nat} {f : Nat → Int32} (h : zA s t N f) : zS s.heap t = N := by
  obtain ⟨cell, h1, -, -, h2, -⟩ := h
  rw [zS_of h1, h2]
theorem zA.i {s : State} {t N : Nat} {f : Nat → Int32} (h : zA s t N f) {j : Nat} (hj : j < N) : zI s.heap t j = f j := by
  obtain ⟨cell, h1, -, -, -, h2⟩ := h
  exact zI_of h1 (h2 j hj)
/-- what cAt asks of a read-only row -/
theorem zA.c {s : State} {t N : Nat} {f : Nat → Int32} (h : zA s t N f) : ∃ cell : Cell, s.heap[t]? = some cell ∧ s.isArrayOf cell .int ∧ cell.vm ≠ .unknown ∧ cell.slots.size = zS s.heap t ∧ ∀ j, j < zS s.heap t → cell.slots[j]? = some (.int (zI s.heap t j)) := by
  have hs := h.s
  have hi := fun (j : Nat) (hj : j < N) => h.i hj
  obtain ⟨cell, h1, h2, h3, h4, h5⟩ := h
  refine ⟨cell, h1, h2, h3, by rw [hs]; exact h4, fun j hj => ?_⟩
  rw [hs] at hj
  rw [h5 j hj, hi j hj]
theorem zM_cAt {D : D3} {s : State} {b e1 e2 N N1 N2 : Nat} {f f1 f2 : Nat → Int32} (h : zA s b N f) (h1 : zA s e1 N1 f1) (h2 : zA s e2 N2 f2) (a : Nat) : cAt D s.heap.size s (zM s.heap b e1 e2) a s.heap := by
  have hT : mT (zM s.heap b e1 e2) a = 19 ∨ mT (zM s.heap b e1 e2) a = 50 := by
    show zT b e1 e2 a = 19 ∨ zT b e1 e2 a = 50
    unfold zT
    split
    · exact Or.inl rfl
    · exact Or.inr rfl
  refine ⟨fun q => by omega, fun q => ?_, fun q => by omega, fun q => by omega, fun q => ?_⟩
  · have q : zT b e1 e2 a = 19 := q
    unfold zT at q
    split at q
    · rename_i hq
      rcases hq with rfl | rfl | rfl
      · exact h.c
      · exact h1.c
      · exact h2.c
    · omega
  · have := aR_lt q
    omega
theorem zK_cls {s : State} {args : Array Value} (hts : ∀ w ∈ lw_tbl, w.before args s = true) : ∃ (dC : Nat → ClassId) (dI : Nat → Nat → Nat), ∀ (c : Nat) (q : vw_C), classes[c]? = some q → u_Kn s q.1 q.2.1 q.2.2 (dC c) (dI c) := by
  have h : ∀ c, ∃ (r : ClassId × (Nat → Nat)), c < 12 → u_Kn s (clT c).1 (clT c).2.1 (clT c).2.2 r.1 r.2 := by
    intro c
    by_cases hc : c < 12
    · obtain ⟨cC, iS, hK⟩ := u_known (C := (clT c).1) (T := (clT c).2.1) (N := (clT c).2.2) hts (inC c hc) (hts _ (ins_mem hc))
      exact ⟨(cC, iS), fun _ => hK⟩
    · exact ⟨(0, fun _ => 0), fun h => absurd h hc⟩
  refine ⟨fun c => (Classical.choose (h c)).1, fun c => (Classical.choose (h c)).2, fun c q hq => ?_⟩
  have hc : c < 12 := (List.getElem?_eq_some_iff.mp hq).1
  have e : q = clT c := Option.some.inj (hq.symm.trans (cl_get hc))
  rw [e]
  exact Classical.choose_spec (h c) hc
theorem zK_ao {s : State} {args : Array Value} (hts : ∀ w ∈ lw_tbl, w.before args s = true) {t : Nat} (ht : aR t = true) : (Cond.arrayOver (.object (clT (t - 22)).1)).before args s = true := by
  have h1 : t ∈ [23, 24, 25, 28, 29] := by simpa [aR] using ht
  simp at h1
  rcases h1 with rfl | rfl | rfl | rfl | rfl
  · exact hts _ w_ao1
  · exact hts _ w_ao2
  · exact hts _ w_ao3
  · exact hts _ w_ao6
  · exact hts _ w_ao7
def zP (s : State) (t : Nat) (c : ClassId) : Prop :=
  (t = 20 → s.vm.findClass ("[" ++ FieldType.int.toString) = some c ∧ ArrOfT s c .int) ∧
  (t = 21 → s.vm.findClass ("[" ++ FieldType.long.toString) = some c ∧ ArrOfT s c .long) ∧
  (aR t = true → va_RA s c (.object (clT (t - 22)).1) ∧ ArrOfT s c (.object (clT (t - 22)).1))
theorem zK_arr {s : State} {args : Array Value} (hts : ∀ w ∈ lw_tbl, w.before args s = true) (t : Nat) : ∃ c : ClassId, zP s t c := by
  by_cases h0 : t = 20
  · obtain ⟨cA, kA, comp, h1, h2, h3⟩ := Cond.arrayClass_spec (hts _ w_acint)
    exact ⟨cA, fun _ => ⟨h1, fun N z => ⟨(fun k h => by cases h), kA, h2, comp, h3⟩⟩, fun h => by omega, fun h => by have := aR_lt h; omega⟩
  · by_cases h9 : t = 21
    · obtain ⟨cA, kA, comp, h1, h2, h3⟩ := Cond.arrayClass_spec (hts _ w_aclong)
      exact ⟨cA, fun h => by omega, fun _ => ⟨h1, fun N z => ⟨(fun k h => by cases h), kA, h2, comp, h3⟩⟩, fun h => by have := aR_lt h; omega⟩
    · by_cases hr : aR t = true
      · obtain ⟨comp, c, k, h1, h2, h3, h4, h5⟩ := Cond.arrayOver_spec (zK_ao hts hr)
        exact ⟨c, fun h => absurd h h0, fun h => absurd h h9, fun _ => ⟨⟨k, comp, h3, h4, h1, h5⟩, fun N z => ⟨(fun k h => by cases h), k, h3, comp, h4⟩⟩⟩
      · exact ⟨0, fun h => absurd h h0, fun h => absurd h h9, fun h => absurd h hr⟩
theorem zKK {s : State} {args : Array Value} (hts : ∀ w ∈ lw_tbl, w.before args s = true) : ∃ D : D3, KK D s := by
  obtain ⟨dC, dI, hC⟩ := zK_cls hts
  have hA := zK_arr hts
  have hP : ∀ t, zP s t (Classical.choose (hA t)) := fun t => Classical.choose_spec (hA t)
  refine ⟨(dC, dI, fun t => Classical.choose (hA t)), hC, (hP 20).1 rfl, (hP 21).2.1 rfl, fun t ht => ⟨((hP t).2.2 ht).1, ((hP t).2.2 ht).2, zK_ao hts ht⟩, fun q hq => ?_, fun q hq => ?_⟩
  · exact va_Nw.of rfl (hts _ (MNs_mem q hq))
  · exact va_Nw.of rfl (hts _ (GSn_mem q hq))