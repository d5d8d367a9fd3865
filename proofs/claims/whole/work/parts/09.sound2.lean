/-! What the pure memory is of the real heap, and the steps in it. -/
abbrev D3 : Type := (Nat → ClassId) × (Nat → Nat → Nat) × (Nat → ClassId)
theorem cl_get {x : Nat} (h : x < 12) : classes[x]? = some (clT x) := by
  have hl : x < classes.length := h
  have e : classes[x]? = some classes[x] := List.getElem?_eq_getElem hl
  simp only [clT, List.getD_eq_getElem?_getD, e, Option.getD_some]
theorem bltE {a b : Nat} (h : Nat.blt a b = true) : a < b := Nat.le_of_ble_eq_true h
theorem inC : ∀ x, x < 12 → ∀ w ∈ u_ws (clT x).1 (clT x).2.1 (clT x).2.2, w ∈ lw_tbl
  | 0, _ => inX0
  | 1, _ => inX1
  | 2, _ => inX2
  | 3, _ => inX3
  | 4, _ => inX4
  | 5, _ => inX5
  | 6, _ => inX6
  | 7, _ => inX7
  | 8, _ => inX8
  | 9, _ => inX9
  | 10, _ => inX10
  | 11, _ => inX11
  | n + 12, h => absurd h (by omega)
theorem inG {x : Nat} (h : x < 12) : ∀ w ∈ u_ws (clT x).1 (clT x).2.1 (clT x).2.2, w ∈ lw_good := fun w hw => by
  refine good_in (inC x h w hw) ?_
  obtain ⟨k, -, rfl⟩ := List.mem_map.mp hw
  unfold u_lay
  split <;> rfl
def tyC (x k : Nat) : FieldType := (parseFieldDescriptor (fnm x k).2.2.1).getD .int
theorem tyC_dec : ∀ x, x < 12 → ∀ k, k < (clT x).2.2 → parseFieldDescriptor (fnm x k).2.2.1 = some (tyC x k) := by decide +kernel
theorem nmC_dec : ∀ x, x < 12 → ∀ a, a < (clT x).2.2 → ∀ b, b < (clT x).2.2 → a ≠ b → (fnm x a).2.1 ≠ (fnm x b).2.1 := by decide +kernel
def dfl (v : Value) : Value := match v with
  | .int _ => .int 0
  | _ => .null
theorem dfC_dec : ∀ x, x < 12 → ∀ k, k < (clT x).2.2 → defaultValue (tyC x k) = dfl (fkd x k) := by decide +kernel
/-- what a field holds, by its kind -/
def oV (M : Mm) (x a k : Nat) : Value := match fkd x k with
  | .int _ => .int (mI M a k)
  | _ => va_rf (mR M a k)
def cAt (D : D3) (lo : Nat) (U : State) (M : Mm) (a : Nat) (H : Heap) : Prop :=
  (mT M a < 12 → lo ≤ a ∧ t_OB a (D.1 (mT M a)) (clT (mT M a)).2.2 (D.2.1 (mT M a)) H (oV M (mT M a) a)) ∧
  (mT M a = 19 → ∃ cell : Cell, H[a]? = some cell ∧ U.isArrayOf cell .int ∧ cell.vm ≠ .unknown ∧ cell.slots.size = mS M a ∧ ∀ j, j < mS M a → cell.slots[j]? = some (.int (mI M a j))) ∧
  (mT M a = 20 → lo ≤ a ∧ H[a]? = some (arrV (D.2.2 20) (mS M a) (fun j => .int (mI M a j)))) ∧
  (mT M a = 21 → lo ≤ a ∧ H[a]? = some (arrV (D.2.2 21) (mS M a) (fun j => .long (mL M a j)))) ∧
  (aR (mT M a) = true → lo ≤ a ∧ H[a]? = some (arrV (D.2.2 (mT M a)) (mS M a) (fun j => va_rf (mR M a j))))
def RelH (D : D3) (lo : Nat) (U : State) (M : Mm) (H : Heap) : Prop := H.size = mN M ∧ lo ≤ mN M ∧ ∀ a, cAt D lo U M a H
def ZZ (E : Nat × Nat) (lo : Nat) (U : State) (H : Heap) : Prop := va_Z "CreditBroker" "KIND_ABOVE" "[I" (.ref E.1) (fun q => lo ≤ q) U H ∧ va_Z "CreditBroker" "WAITS" "[I" (.ref E.2) (fun q => lo ≤ q) U H
def KK (D : D3) (U : State) : Prop :=
  (∀ (c : Nat) (q : vw_C), classes[c]? = some q → u_Kn U q.1 q.2.1 q.2.2 (D.1 c) (D.2.1 c)) ∧
  (U.vm.findClass ("[" ++ FieldType.int.toString) = some (D.2.2 20) ∧ ArrOfT U (D.2.2 20) .int) ∧
  (U.vm.findClass ("[" ++ FieldType.long.toString) = some (D.2.2 21) ∧ ArrOfT U (D.2.2 21) .long) ∧
  (∀ t, aR t = true → va_RA U (D.2.2 t) (.object (clT (t - 22)).1) ∧ ArrOfT U (D.2.2 t) (.object (clT (t - 22)).1) ∧ va_AO (clT (t - 22)).1 U) ∧
  (∀ q : Nat × Nat × Nat, MNs.contains q = true → va_Nw (Cond.methodLinkNest (ownS q.1) q.2.1 (myx q.2.2) "CreditBroker") U) ∧
  (∀ q : Nat × Nat × Nat, GSn.contains q = true → va_Nw (Cond.fieldLinkNest (ownS q.1) q.2.1 "CreditBroker" (gnm q.2.2) "[I" "CreditBroker") U)
theorem KK.warm {D : D3} {s U : State} (hW : s.WarmedH U.vm) (h : KK D s) : KK D U := by
  obtain ⟨h1, ⟨h2, h3⟩, ⟨h4, h5⟩, h6, h7, h8⟩ := h
  have hvm := hW.alike
  exact ⟨fun c q hq => u_Kn_moved hvm (h1 c q hq), ⟨by rw [hvm.findClass]; exact h2, arrOfT_moved hvm h3⟩, ⟨by rw [hvm.findClass]; exact h4, arrOfT_moved hvm h5⟩,
    fun t ht => ⟨(h6 t ht).1.moved hvm, arrOfT_moved hvm (h6 t ht).2.1, va_AO.moved hvm (h6 t ht).2.2⟩, fun q hq => va_Nw.warmM hW (h7 q hq), fun q hq => va_Nw.warmF hW (h8 q hq)⟩
theorem KK.same {D : D3} {s U : State} (hv : s.vm = U.vm) (h : KK D s) : KK D U := by
  obtain ⟨h1, ⟨h2, h3⟩, ⟨h4, h5⟩, h6, h7, h8⟩ := h
  have hvm : s.vm.Alike U.vm := by rw [hv]; exact Vm.Alike.refl _
  exact ⟨fun c q hq => u_Kn_moved hvm (h1 c q hq), ⟨by rw [← hv]; exact h2, arrOfT_moved hvm h3⟩, ⟨by rw [← hv]; exact h4, arrOfT_moved hvm h5⟩,
    fun t ht => ⟨(h6 t ht).1.moved hvm, arrOfT_moved hvm (h6 t ht).2.1, va_AO.moved hvm (h6 t ht).2.2⟩, fun q hq => va_Nw.same rfl hv (h7 q hq), fun q hq => va_Nw.same rfl hv (h8 q hq)⟩
theorem cAt.moved {D : D3} {lo : Nat} {u U : State} {M : Mm} {a : Nat} {H : Heap} (hvm : u.vm.Alike U.vm) (h : cAt D lo u M a H) : cAt D lo U M a H := by
  obtain ⟨h1, h2, h3⟩ := h
  refine ⟨h1, fun ht => ?_, h3⟩
  obtain ⟨cell, q1, q2, q3⟩ := h2 ht
  exact ⟨cell, q1, State.isArrayOf_alike hvm q2, q3⟩
theorem RelH.moved {D : D3} {lo : Nat} {u U : State} {M : Mm} {H : Heap} (hvm : u.vm.Alike U.vm) (h : RelH D lo u M H) : RelH D lo U M H := ⟨h.1, h.2.1, fun a => (h.2.2 a).moved hvm⟩
def GG (D : D3) (lo : Nat) (E : Nat × Nat) (M : Mm) (U : State) (H : Heap) : Prop := KK D U ∧ RelH D lo U M H ∧ ZZ E lo U H
theorem GG.warm {D : D3} {lo : Nat} {E : Nat × Nat} {M : Mm} {s U : State} {H : Heap} (hW : s.WarmedH U.vm) (h : GG D lo E M s H) : GG D lo E M U H :=
  ⟨h.1.warm hW, h.2.1.moved hW.alike, va_Z.moved hW.alike h.2.2.1, va_Z.moved hW.alike h.2.2.2⟩
theorem GG.same {D : D3} {lo : Nat} {E : Nat × Nat} {M : Mm} {s U : State} {H : Heap} (hv : s.vm = U.vm) (h : GG D lo E M s H) : GG D lo E M U H := by
  have hvm : s.vm.Alike U.vm := by rw [hv]; exact Vm.Alike.refl _
  exact ⟨h.1.same hv, h.2.1.moved hvm, va_Z.moved hvm h.2.2.1, va_Z.moved hvm h.2.2.2⟩
theorem cAt.congr {D : D3} {lo : Nat} {U : State} {M M' : Mm} {a : Nat} {H H' : Heap} (h : cAt D lo U M a H) (e1 : M'.1 a = M.1 a) (e2 : mI M' a = mI M a) (e3 : mL M' a = mL M a) (e4 : mR M' a = mR M a) (e5 : H'[a]? = H[a]?) : cAt D lo U M' a H' := by
  have t1 : mT M' a = mT M a := by simp only [mT, e1]
  have t2 : mS M' a = mS M a := by simp only [mS, e1]
  have t3 : ∀ x, oV M' x a = oV M x a := fun x => by funext k; simp only [oV, e2, e4]
  unfold cAt
  rw [t1, t2, t3, e2, e3, e4, e5]
  obtain ⟨h1, h2⟩ := h
  exact ⟨fun hq => ⟨(h1 hq).1, (h1 hq).2.kept e5⟩, h2⟩
theorem GG.upd {D : D3} {lo : Nat} {E : Nat × Nat} {U : State} {M M' : Mm} {a : Nat} {H H' : Heap} (h : GG D lo E M U H) (ha : lo ≤ a) (e1 : M'.1 = M.1) (eN : mN M' = mN M) (e2 : ∀ b, b ≠ a → mI M' b = mI M b) (e3 : ∀ b, b ≠ a → mL M' b = mL M b) (e4 : ∀ b, b ≠ a → mR M' b = mR M b)
    (z : H'.size = H.size) (o : ∀ q, q ≠ a → H'[q]? = H[q]?) (hc : cAt D lo U M' a H') : GG D lo E M' U H' := by
  obtain ⟨h1, ⟨h2, h3, h4⟩, h5, h6⟩ := h
  refine ⟨h1, ⟨by rw [z, h2, eN], by rw [eN]; exact h3, fun b => ?_⟩, ?_, ?_⟩
  · by_cases hb : b = a
    · subst hb; exact hc
    · exact (h4 b).congr (by rw [e1]) (e2 b hb) (e3 b hb) (e4 b hb) (o b hb)
  · exact va_Z.kept h5 (fun q _ hq => o q (fun e => hq (by rw [e]; exact ha)))
  · exact va_Z.kept h6 (fun q _ hq => o q (fun e => hq (by rw [e]; exact ha)))
theorem GG.push {D : D3} {lo : Nat} {E : Nat × Nat} {U : State} {M : Mm} {t n : Nat} {H H' : Heap} (h : GG D lo E M U H) (z : H'.size = H.size + 1) (o : ∀ q, q < H.size → H'[q]? = H[q]?) (hc : cAt D lo U (nC M t n) H.size H') : GG D lo E (nC M t n) U H' := by
  obtain ⟨h1, ⟨h2, h3, h4⟩, h5, h6⟩ := h
  have hlt : ∀ b, b ≠ H.size → ∀ cell, H[b]? = some cell → H'[b]? = H[b]? := fun b _ cell hb => o b (Array.getElem?_eq_some_iff.mp hb).1
  refine ⟨h1, ⟨by rw [z, h2]; rfl, Nat.le_succ_of_le h3, fun b => ?_⟩, ?_, ?_⟩
  · by_cases hb : b = H.size
    · subst hb; exact hc
    · have hb' : b ≠ M.2.2.2.2.1 := by rw [h2] at hb; exact hb
      have e1 : (nC M t n).1 b = M.1 b := by simp [nC, hb']
      have e2 : mI (nC M t n) b = mI M b := by funext k; simp [nC, mI, hb']
      have e3 : mL (nC M t n) b = mL M b := by funext k; simp [nC, mL, hb']
      have e4 : mR (nC M t n) b = mR M b := by funext k; simp [nC, mR, hb']
      have t1 : mT (nC M t n) b = mT M b := by simp only [mT, e1]
      have t2 : mS (nC M t n) b = mS M b := by simp only [mS, e1]
      have t3 : ∀ x, oV (nC M t n) x b = oV M x b := fun x => by funext k; simp only [oV, e2, e4]
      obtain ⟨c1, c2, c3, c4, c5⟩ := h4 b
      unfold cAt
      rw [t1, t2, t3, e2, e3, e4]
      refine ⟨fun hq => ?_, fun hq => ?_, fun hq => ?_, fun hq => ?_, fun hq => ?_⟩
      · obtain ⟨a1, a2⟩ := c1 hq
        refine ⟨a1, a2.kept ?_⟩
        obtain ⟨cell, a3, -⟩ := a2
        exact hlt b hb cell a3
      · obtain ⟨cell, a1, a2⟩ := c2 hq
        exact ⟨cell, (hlt b hb cell a1).trans a1, a2⟩
      · exact ⟨(c3 hq).1, (hlt b hb _ (c3 hq).2).trans (c3 hq).2⟩
      · exact ⟨(c4 hq).1, (hlt b hb _ (c4 hq).2).trans (c4 hq).2⟩
      · exact ⟨(c5 hq).1, (hlt b hb _ (c5 hq).2).trans (c5 hq).2⟩
  · exact va_Z.kept h5 (fun q hq _ => o q hq)
  · exact va_Z.kept h6 (fun q hq _ => o q hq)
theorem up2_ne {α : Type} (f : Nat → Nat → α) {a b k : Nat} (x : α) (h : b ≠ a) : up2 f a k x b = f b := by
  funext j
  simp [up2, h]
theorem up2_at {α : Type} (f : Nat → Nat → α) (a k : Nat) (x : α) (j : Nat) : up2 f a k x a j = if j = k then x else f a j := by
  simp [up2]
theorem fOk_spec {c idx x y : Nat} {v : Value} (h : fOk c idx x y v = true) : FLs.contains (c, idx, x, y) = true ∧ y < (clT x).2.2 ∧ x < 12 ∧ fkd x y = v ∧ v ≠ U0 := by
  simp only [fOk, Bool.and_eq_true, decide_eq_true_eq] at h
  obtain ⟨⟨⟨⟨h1, h2⟩, h3⟩, h4⟩, h5⟩ := h
  exact ⟨h1, bltE h2, bltE h3, h4, h5⟩
theorem fkd_ty {x y : Nat} {ty : FieldType} (h : parseFieldDescriptor (fnm x y).2.2.1 = some ty) (hn : fkd x y ≠ U0) : (ty = .int ∧ fkd x y = .int 0) ∨ (ty = .boolean ∧ fkd x y = .int 1) ∨ (((∃ n, ty = .object n) ∨ ∃ t, ty = .array t) ∧ fkd x y = .null) := by
  unfold fkd at hn ⊢
  rw [h] at hn ⊢
  cases ty <;> simp_all
section SND2
variable {p : Program} {l : Launch} {e : Env} {R : Room} {s : State} {m : MethodId} {args : Array Value} {below : List Frame} {meth : Method} {c : Code} {H : Heap} {locs : List Loc} {cells slots : Nat} {Q : State → Prop}
variable {mi pc : Nat} {A : Array Slot} {st st' : List Value} {D : D3} {lo : Nat} {E : Nat × Nat} {M M' : Mm}
theorem fits_ok {ty : FieldType} {z k : Int32} (h : (ty = .int ∧ k = 0) ∨ (ty = .boolean ∧ k = 1)) (hz : k = 0 ∨ z = 0 ∨ z = 1) : narrow ty (.int z) = .int z ∧ fits ty (.int z) = true := by
  rcases h with ⟨rfl, rfl⟩ | ⟨rfl, rfl⟩
  · exact ⟨rfl, rfl⟩
  · rcases hz with h | rfl | rfl
    · exact absurd h (by decide)
    · exact ⟨rfl, rfl⟩
    · exact ⟨rfl, rfl⟩
/-- a field is put -/
theorem put_sound {idx x y : Nat} {a : Nat} {v w : Value} {ls : Array Slot} {r : List Value} (hx : p.tables.exec = Jvm.exec) (hb : c.code = mc mi) (hown : s.vm.findClass (ownS (mt mi).1) = some m.cls) (hname : meth.name = (my mi).name) (hts : ∀ w ∈ lw_good, w.before args s = true)
    (hd : decode (mc mi) pc = .ok (.putfield idx, 3)) (h1 : (fOk (mt mi).1 idx x y v && (!(fnm x y).2.2.2 || (decide ((my mi).name = "<init>") && decide ((fnm x y).1 = ownS (mt mi).1)))) = true)
    (G : GG D lo E M s H) (hL : ∀ z ∈ locs, lo ≤ z.base) (ht : mT M a = x) (hfit : ∀ ty, parseFieldDescriptor (fnm x y).2.2.1 = some ty → narrow ty w = w ∧ fits ty w = true)
    (eT : M'.1 = M.1) (eN : mN M' = mN M) (e2 : ∀ b, b ≠ a → mI M' b = mI M b) (e3 : ∀ b, b ≠ a → mL M' b = mL M b) (e4 : ∀ b, b ≠ a → mR M' b = mR M b) (eV : ∀ k, k < (clT x).2.2 → oV M' x a k = if k = y then w else oV M x a k)
    (k : ∀ H' locs', GG D lo E M' s H' → (∀ z ∈ locs', lo ≤ z.base) → W p l e R s m args below meth c H' locs' cells slots Q (F0 m (pc + 3) ls r)) : W p l e R s m args below meth c H locs cells slots Q (F0 m pc ls (w :: .ref a :: r)) := by
  rw [Bool.and_eq_true] at h1
  obtain ⟨h1, h2⟩ := h1
  obtain ⟨f1, f2, f3, f4, f5⟩ := fOk_spec h1
  obtain ⟨hS, hfc, kC, hkC, hkind⟩ := G.1.1 x (clT x) (cl_get f3)
  have hc0 := (G.2.1.2.2 a).1 (by rw [ht]; exact f3)
  rw [ht] at hc0
  obtain ⟨hlo, cell, q1, q2, q3, q4⟩ := hc0
  obtain ⟨cf, kf, fi, f, hi, hsl⟩ := hS y f2
  have hlays := u_lays (args := args) hts (inG f3) f2
  have hst := (u_facts hfc hkC hlays hi).1
  have hap := va_apart (D := (D.1, D.2.1)) (cl := classes) (tys := []) (own := "") hts (inG f3) (tyC x) (tyC_dec x f3) (nmC_dec x f3) ⟨G.1.1, fun k q h => by simp at h⟩ (cl_get f3)
  have hty := tyC_dec x f3 y f2
  obtain ⟨hn, hf⟩ := hfit _ hty
  have fin : ∀ H' : Heap, H'[a]? = some (cell.setSlot f.slot w) → H'.size = H.size → (∀ q, q ≠ a → H'[q]? = H[q]?) → W p l e R s m args below meth c H' (locs ++ [⟨a, f.slot⟩]) cells slots Q (F0 m (pc + 3) ls r) := by
    intro H' e1 z o
    refine k H' _ (G.upd hlo eT eN e2 e3 e4 z o ?_) (fun q hq => ?_)
    · have hT : mT M' a = x := by simp only [mT, eT]; exact ht
      rw [hsl] at e1
      refine ⟨fun _ => ⟨hlo, ?_⟩, fun h => ?_, fun h => ?_, fun h => ?_, fun h => ?_⟩
      · rw [hT]
        refine ⟨_, e1, q2, q3, fun j hj => ?_⟩
        rw [eV j hj]
        have := t_set q4 hap f2 w j hj
        simpa [updV] using this
      · omega
      · omega
      · omega
      · rw [hT] at h
        exfalso
        revert h
        have : ∀ t, t < 12 → aR t = false := by decide +kernel
        rw [this x f3]
        exact fun h => by cases h
    · rcases List.mem_append.mp hq with h | h
      · exact hL q h
      · rw [List.mem_singleton.mp h]; exact hlo
  cases hfin : (fnm x y).2.2.2 with
  | false =>
    have hlay := hts _ (inG f3 _ (u_in_lay f2))
    unfold u_lay at hlay
    rw [if_neg (by show ¬ (fnm x y).2.2.2 = true; rw [hfin]; decide)] at hlay
    have h6 := u_store hfc hkC hkind hlay hi hty hn hf
    exact W.putK hx hb (f := f) ⟨hown, good_of hts (FLs_mem _ f1) rfl, ⟨_, _, _, hi⟩, hst⟩ (by rw [q2]; exact h6) q1 q3 (by rw [hsl]; exact k2_hasslot (q4 y f2)) rfl rfl hd fin
  | true =>
    rw [hfin] at h2
    simp only [Bool.not_true, Bool.false_or, Bool.and_eq_true, decide_eq_true_eq] at h2
    have hlay := hts _ (inG f3 _ (u_in_lay f2))
    unfold u_lay at hlay
    rw [if_pos (by show (fnm x y).2.2.2 = true; exact hfin)] at hlay
    have hcf : m.cls = cf := by
      obtain ⟨_, _, c', _, _, _, -, -, hf', -, -, -, hown2, -⟩ := Cond.laysFinal_spec hlay
      have e1 : c' = cf := by have := hi.symm.trans hf'; simp at this; exact this.1.symm
      have hown3 : s.vm.findClass (ownS (mt mi).1) = some c' := by rw [← h2.2]; exact hown2
      rw [← e1]; exact Option.some.inj (hown.symm.trans hown3)
    have h6 := u_fits hfc hkC hkind (Or.inr hlay) hi hty hn hf
    exact W.putFinK hx hb hown (good_of hts (FLs_mem _ f1) rfl) hi hst hcf (by rw [hname]; exact h2.1) (by rw [q2]; exact h6) q1 q3 (by rw [hsl]; exact k2_hasslot (q4 y f2)) rfl rfl hd fin
end SND2
