section SND3
variable {p : Program} {l : Launch} {e : Env} {R : Room} {s : State} {m : MethodId} {args : Array Value} {below : List Frame} {meth : Method} {c : Code} {H : Heap} {locs : List Loc} {cells slots : Nat} {Q : State → Prop}
variable {mi pc : Nat} {A : Array Slot} {ls st st' : List Value} {D : D3} {lo : Nat} {E : Nat × Nat} {M M' : Mm}
theorem aR_lt {t : Nat} (h : aR t = true) : 22 < t ∧ t < 34 ∧ t - 22 < 12 := by
  have h1 : t ∈ [23, 24, 25, 28, 29] := by simpa [aR] using h
  simp at h1
  omega
theorem get_sound {idx x y a : Nat} {v : Value} {r : List Value} (hx : p.tables.exec = Jvm.exec) (hb : c.code = mc mi) (hown : s.vm.findClass (ownS (mt mi).1) = some m.cls) (hts : ∀ w ∈ lw_good, w.before args s = true)
    (hd : decode (mc mi) pc = .ok (.getfield idx, 3)) (h1 : fOk (mt mi).1 idx x y v = true) (G : GG D lo E M s H) (ht : mT M a = x)
    (k : W p l e R s m args below meth c H locs cells slots Q (F0 m (pc + 3) A (oV M x a y :: r))) : W p l e R s m args below meth c H locs cells slots Q (F0 m pc A (.ref a :: r)) := by
  obtain ⟨f1, f2, f3, f4, f5⟩ := fOk_spec h1
  obtain ⟨hS, hfc, kC, hkC, hkind⟩ := G.1.1 x (clT x) (cl_get f3)
  have hc0 := (G.2.1.2.2 a).1 (by rw [ht]; exact f3)
  rw [ht] at hc0
  obtain ⟨hlo, cell, q1, q2, q3, q4⟩ := hc0
  obtain ⟨cf, kf, fi, f, hi, hsl⟩ := hS y f2
  exact W.getf hx hb hown (good_of hts (FLs_mem _ f1) rfl) hi (u_facts hfc hkC (u_lays (args := args) hts (inG f3) f2) hi).1 q1 (by rw [q3]; exact fun h => by cases h) (v := oV M x a y) (by rw [hsl]; exact q4 y f2) rfl rfl hd k
theorem inN {j : Int32} {n : Nat} (h : ¬ (j < 0 ∨ n ≤ j.toNatClampNeg)) : j.toNatClampNeg < n := Nat.not_le.mp fun q => h (Or.inr q)
theorem len_sound {a : Nat} {r : List Value} (hx : p.tables.exec = Jvm.exec) (hb : c.code = mc mi) (hd : decode (mc mi) pc = .ok (.arraylength, 1)) (G : GG D lo E M s H)
    (ht : mT M a = 19 ∨ mT M a = 20 ∨ mT M a = 21 ∨ aR (mT M a) = true) (k : W p l e R s m args below meth c H locs cells slots Q (F0 m (pc + 1) A (.int (nI (mS M a)) :: r))) : W p l e R s m args below meth c H locs cells slots Q (F0 m pc A (.ref a :: r)) := by
  obtain ⟨-, c2, c3, c4, c5⟩ := G.2.1.2.2 a
  rcases ht with h | h | h | h
  · obtain ⟨cell, q1, q2, q3, q4, -⟩ := c2 h
    exact W.alen hx hb q1 q2 (n := nI (mS M a)) (by rw [q4]; rfl) rfl rfl hd k
  · exact W.alen hx hb (c3 h).2 (G.1.2.1.2 _ _) (n := nI (mS M a)) (by rw [arrV_size]; rfl) rfl rfl hd k
  · exact W.alen hx hb (c4 h).2 (G.1.2.2.1.2 _ _) (n := nI (mS M a)) (by rw [arrV_size]; rfl) rfl rfl hd k
  · exact W.alen hx hb (c5 h).2 ((G.1.2.2.2.1 _ h).2.1 _ _) (n := nI (mS M a)) (by rw [arrV_size]; rfl) rfl rfl hd k
theorem iald_sound {a : Nat} {j : Int32} {r : List Value} (hx : p.tables.exec = Jvm.exec) (hb : c.code = mc mi) (hd : decode (mc mi) pc = .ok (.iaload, 1)) (G : GG D lo E M s H)
    (ht : mT M a = 20 ∨ mT M a = 19) (hj : ¬ (j < 0 ∨ mS M a ≤ j.toNatClampNeg)) (k : W p l e R s m args below meth c H locs cells slots Q (F0 m (pc + 1) A (.int (mI M a j.toNatClampNeg) :: r))) : W p l e R s m args below meth c H locs cells slots Q (F0 m pc A (.int j :: .ref a :: r)) := by
  obtain ⟨-, c2, c3, -⟩ := G.2.1.2.2 a
  rcases ht with h | h
  · exact W.iald (v := .int (mI M a j.toNatClampNeg)) hx hb (c3 h).2 (G.1.2.1.2 _ _) (fun q => by cases q) (by rw [arrV_size]; exact hj) (by rw [arrV_read _ _ (inN hj)]) rfl rfl hd k
  · obtain ⟨cell, q1, q2, q3, q4, q5⟩ := c2 h
    exact W.iald (v := .int (mI M a j.toNatClampNeg)) hx hb q1 q2 q3 (by rw [q4]; exact hj) (q5 _ (inN hj)) rfl rfl hd k
theorem lald_sound {a : Nat} {j : Int32} {r : List Value} (hx : p.tables.exec = Jvm.exec) (hb : c.code = mc mi) (hd : decode (mc mi) pc = .ok (.laload, 1)) (G : GG D lo E M s H)
    (ht : mT M a = 21) (hj : ¬ (j < 0 ∨ mS M a ≤ j.toNatClampNeg)) (k : W p l e R s m args below meth c H locs cells slots Q (F0 m (pc + 1) A (.long (mL M a j.toNatClampNeg) :: r))) : W p l e R s m args below meth c H locs cells slots Q (F0 m pc A (.int j :: .ref a :: r)) := by
  obtain ⟨-, -, -, c4, -⟩ := G.2.1.2.2 a
  exact W.lald (v := .long (mL M a j.toNatClampNeg)) hx hb (c4 ht).2 (G.1.2.2.1.2 _ _) (fun q => by cases q) (by rw [arrV_size]; exact hj) (by rw [arrV_read _ _ (inN hj)]) rfl rfl hd k
theorem aald_sound {a : Nat} {j : Int32} {r : List Value} (hx : p.tables.exec = Jvm.exec) (hb : c.code = mc mi) (hd : decode (mc mi) pc = .ok (.aaload, 1)) (G : GG D lo E M s H)
    (ht : aR (mT M a) = true) (hj : ¬ (j < 0 ∨ mS M a ≤ j.toNatClampNeg)) (k : W p l e R s m args below meth c H locs cells slots Q (F0 m (pc + 1) A (va_rf (mR M a j.toNatClampNeg) :: r))) : W p l e R s m args below meth c H locs cells slots Q (F0 m pc A (.int j :: .ref a :: r)) := by
  obtain ⟨-, -, -, -, c5⟩ := G.2.1.2.2 a
  exact W.aald (v := va_rf (mR M a j.toNatClampNeg)) (ty := .object (clT (mT M a - 22)).1) hx hb (c5 ht).2 ((G.1.2.2.2.1 _ ht).2.1 _ _) rfl (fun q => by cases q) (by rw [arrV_size]; exact hj) (by rw [arrV_read _ _ (inN hj)]) rfl rfl hd k
theorem cAt_none {t : Nat} (h : ∀ u, u < 12 → t ≠ u) : ¬ t < 12 := fun q => h t q rfl
theorem updV_fun {α : Type} (g : α → Value) (f : Nat → Nat → α) (a j : Nat) (x : α) : updV (fun i => g (f a i)) j (g x) = fun i => g (up2 f a j x a i) := by
  funext i
  simp only [updV, up2_at]
  split <;> rfl
theorem iast_sound {a : Nat} {j z : Int32} {r : List Value} (hx : p.tables.exec = Jvm.exec) (hb : c.code = mc mi) (hd : decode (mc mi) pc = .ok (.iastore, 1)) (G : GG D lo E M s H) (hL : ∀ z ∈ locs, lo ≤ z.base)
    (ht : mT M a = 20) (hj : ¬ (j < 0 ∨ mS M a ≤ j.toNatClampNeg)) (k : ∀ H' locs', GG D lo E (sI M a j.toNatClampNeg z) s H' → (∀ z ∈ locs', lo ≤ z.base) → W p l e R s m args below meth c H' locs' cells slots Q (F0 m (pc + 1) A r)) :
    W p l e R s m args below meth c H locs cells slots Q (F0 m pc A (.int z :: .int j :: .ref a :: r)) := by
  obtain ⟨-, -, c3, -⟩ := G.2.1.2.2 a
  obtain ⟨hlo, hcell⟩ := c3 ht
  refine W.iast hx hb hcell (G.1.2.1.2 _ _) (fun q => by cases q) (by rw [arrV_size]; exact hj) rfl rfl hd fun H' e1 sz o => ?_
  refine k H' _ (G.upd hlo rfl rfl (fun b hb => up2_ne _ _ hb) (fun b hb => rfl) (fun b hb => rfl) sz o ?_) (fun q hq => ?_)
  · have hT : mT (sI M a j.toNatClampNeg z) a = 20 := ht
    refine ⟨fun h => by omega, fun h => by omega, fun _ => ⟨hlo, ?_⟩, fun h => by omega, fun h => ?_⟩
    · rw [e1, arrV_store]
      exact congrArg some (congrArg _ (updV_fun Value.int (mI M) a j.toNatClampNeg z))
    · rw [hT] at h; cases h
  · rcases List.mem_append.mp hq with h | h
    · exact hL q h
    · rw [List.mem_singleton.mp h]; exact hlo
theorem last_sound {a : Nat} {j : Int32} {z : Int64} {r : List Value} (hx : p.tables.exec = Jvm.exec) (hb : c.code = mc mi) (hd : decode (mc mi) pc = .ok (.lastore, 1)) (G : GG D lo E M s H) (hL : ∀ z ∈ locs, lo ≤ z.base)
    (ht : mT M a = 21) (hj : ¬ (j < 0 ∨ mS M a ≤ j.toNatClampNeg)) (k : ∀ H' locs', GG D lo E (sL M a j.toNatClampNeg z) s H' → (∀ z ∈ locs', lo ≤ z.base) → W p l e R s m args below meth c H' locs' cells slots Q (F0 m (pc + 1) A r)) :
    W p l e R s m args below meth c H locs cells slots Q (F0 m pc A (.long z :: .int j :: .ref a :: r)) := by
  obtain ⟨-, -, -, c4, -⟩ := G.2.1.2.2 a
  obtain ⟨hlo, hcell⟩ := c4 ht
  refine W.last hx hb hcell (G.1.2.2.1.2 _ _) (fun q => by cases q) (by rw [arrV_size]; exact hj) rfl rfl hd fun H' e1 sz o => ?_
  refine k H' _ (G.upd hlo rfl rfl (fun b hb => rfl) (fun b hb => up2_ne _ _ hb) (fun b hb => rfl) sz o ?_) (fun q hq => ?_)
  · have hT : mT (sL M a j.toNatClampNeg z) a = 21 := ht
    refine ⟨fun h => by omega, fun h => by omega, fun h => by omega, fun _ => ⟨hlo, ?_⟩, fun h => ?_⟩
    · rw [e1, arrV_store]
      exact congrArg some (congrArg _ (updV_fun Value.long (mL M) a j.toNatClampNeg z))
    · rw [hT] at h; cases h
  · rcases List.mem_append.mp hq with h | h
    · exact hL q h
    · rw [List.mem_singleton.mp h]; exact hlo
theorem aast_sound {a b : Nat} {j : Int32} {r : List Value} (hx : p.tables.exec = Jvm.exec) (hb : c.code = mc mi) (hd : decode (mc mi) pc = .ok (.aastore, 1)) (G : GG D lo E M s H) (hL : ∀ z ∈ locs, lo ≤ z.base)
    (ht : aR (mT M a) = true) (hbt : mT M b + 22 = mT M a) (hj : ¬ (j < 0 ∨ mS M a ≤ j.toNatClampNeg)) (k : ∀ H' locs', GG D lo E (sR M a j.toNatClampNeg (some b)) s H' → (∀ z ∈ locs', lo ≤ z.base) → W p l e R s m args below meth c H' locs' cells slots Q (F0 m (pc + 1) A r)) :
    W p l e R s m args below meth c H locs cells slots Q (F0 m pc A (.ref b :: .int j :: .ref a :: r)) := by
  obtain ⟨-, -, -, -, c5⟩ := G.2.1.2.2 a
  obtain ⟨hlo, hcell⟩ := c5 ht
  obtain ⟨t1, t2, t3⟩ := aR_lt ht
  have hbt' : mT M b = mT M a - 22 := by omega
  obtain ⟨hlob, cellV, g1, g2, g3, -⟩ := (G.2.1.2.2 b).1 (by omega)
  obtain ⟨⟨kA, comp, k1, k2, k3, -⟩, -, -⟩ := G.1.2.2.2.1 _ ht
  obtain ⟨hS, hcls⟩ := G.1.1 (mT M a - 22) (clT (mT M a - 22)) (cl_get t3)
  have hcomp : comp = D.1 (mT M a - 22) := Option.some.inj (k3.symm.trans hcls.1)
  subst hcomp
  obtain ⟨kC, hkC, hkk⟩ := hcls.2
  rw [hbt'] at g2
  refine W.aast hx hb hcell (fun q h => by cases h) (fun h => by cases h) k1 k2 rfl hkC ⟨fun q => hj (Or.inl q), by rw [arrV_size]; exact inN hj⟩ g1 (fun q h => by rw [g3] at h; cases h) (by rw [g2]; exact hkC) (by rw [g2]; exact va_assign hcls) rfl rfl hd fun H' e1 sz o => ?_
  refine k H' _ (G.upd hlo rfl rfl (fun b hb => rfl) (fun b hb => rfl) (fun b hb => up2_ne _ _ hb) sz o ?_) (fun q hq => ?_)
  · have hT : mT (sR M a j.toNatClampNeg (some b)) a = mT M a := rfl
    refine ⟨fun h => by omega, fun h => ?_, fun h => ?_, fun h => ?_, fun _ => ⟨hlo, ?_⟩⟩
    · rw [hT] at h; omega
    · rw [hT] at h; omega
    · rw [hT] at h; omega
    · rw [e1, arrV_store]
      exact congrArg some (congrArg _ (updV_fun va_rf (mR M) a j.toNatClampNeg (some b)))
  · rcases List.mem_append.mp hq with h | h
    · exact hL q h
    · rw [List.mem_singleton.mp h]; exact hlo
theorem new_sound {idx x y : Nat} {r : List Value} (hx : p.tables.exec = Jvm.exec) (hb : c.code = mc mi) (hown : s.vm.findClass (ownS (mt mi).1) = some m.cls) (hts : ∀ w ∈ lw_good, w.before args s = true)
    (hd : decode (mc mi) pc = .ok (.new idx, 3)) (h1 : (CLs.contains ((mt mi).1, idx, x) && Nat.blt x 12 && Nat.beq y (clT x).2.2) = true) (G : GG D lo E M s H) (hc1 : cells + 1 ≤ R.cells) (hc2 : slots + y ≤ R.slots)
    (k : ∀ H', GG D lo E (nC M x y) s H' → W p l e R s m args below meth c H' locs (cells + 1) (slots + y) Q (F0 m (pc + 3) A (.ref (mN M) :: r))) : W p l e R s m args below meth c H locs cells slots Q (F0 m pc A r) := by
  simp only [Bool.and_eq_true] at h1
  obtain ⟨⟨f1, f2⟩, f3⟩ := h1
  have f2 := bltE f2
  have f3 := beqE f3
  subst f3
  have hKn := G.1.1 x (clT x) (cl_get f2)
  have hsz := G.2.1.1
  rw [← hsz] at k
  refine W.newcK hx hb hown (good_of hts (CLs_mem _ f1) rfl) (good_of hts (ins_mem f2) rfl) (good_of hts (w := Cond.initialized (clT x).1) (cini x f2) rfl) rfl hd hc1 hc2 hKn.2.1 rfl fun H' kC hkC e1 z1 o1 => ?_
  refine k H' (G.push z1 o1 ?_)
  have hn : M.2.2.2.2.1 = H.size := hsz.symm
  have hT : mT (nC M x (clT x).2.2) H.size = x := by simp [mT, nC, hn]
  have hlo : lo ≤ H.size := by rw [hsz]; exact G.2.1.2.1
  refine ⟨fun _ => ⟨hlo, ?_⟩, fun h => by omega, fun h => by omega, fun h => by omega, fun h => ?_⟩
  · rw [hT]
    refine (u_born (tyC x) hts (inG f2) hKn hkC e1 (tyC_dec x f2)).to (fun j hj => ?_)
    rw [dfC_dec x f2 j hj]
    simp only [dfl, oV]
    cases fkd x j <;> simp [nC, mI, mR, hn, va_rf]
  · have := (aR_lt h).1; omega
theorem newa_sound {at_ : ArrayType} {x : Nat} {n : Int32} {r : List Value} (hx : p.tables.exec = Jvm.exec) (hb : c.code = mc mi) (hts : ∀ w ∈ lw_good, w.before args s = true)
    (hd : decode (mc mi) pc = .ok (.newarray at_, 2)) (h1 : (at_ = .int ∧ x = 20) ∨ (at_ = .long ∧ x = 21)) (hn : ¬ n < 0 ∧ n.toNatClampNeg ≤ 1000000) (G : GG D lo E M s H) (hc1 : cells + 1 ≤ R.cells) (hc2 : slots + n.toNatClampNeg ≤ R.slots)
    (k : ∀ H', GG D lo E (nC M x n.toNatClampNeg) s H' → W p l e R s m args below meth c H' locs (cells + 1) (slots + n.toNatClampNeg) Q (F0 m (pc + 2) A (.ref (mN M) :: r))) : W p l e R s m args below meth c H locs cells slots Q (F0 m pc A (.int n :: r)) := by
  have hsz := G.2.1.1
  have hnn : M.2.2.2.2.1 = H.size := hsz.symm
  have hlo : lo ≤ H.size := by rw [hsz]; exact G.2.1.2.1
  rw [← hsz] at k
  rcases h1 with ⟨rfl, rfl⟩ | ⟨rfl, rfl⟩
  · refine va_newaK (atype := .int) hx hb (good_of hts w_acint rfl) rfl hd rfl hn.1 rfl (by show _ * 4 ≤ _; omega) hc1 hc2 rfl fun H' cA e1 z1 o1 hAr hNm => ?_
    have hcA : cA = D.2.2 20 := Option.some.inj (hNm.symm.trans G.1.2.1.1)
    subst hcA
    refine k H' (G.push z1 o1 ?_)
    have hT : mT (nC M 20 n.toNatClampNeg) H.size = 20 := by simp [mT, nC, hnn]
    have hS : mS (nC M 20 n.toNatClampNeg) H.size = n.toNatClampNeg := by simp [mS, nC, hnn]
    have hI : mI (nC M 20 n.toNatClampNeg) H.size = fun _ => 0 := by funext j; simp [mI, nC, hnn]
    refine ⟨fun h => by omega, fun h => by omega, fun _ => ⟨hlo, ?_⟩, fun h => by omega, fun h => by have := (aR_lt h).1; omega⟩
    rw [hS, hI]; exact e1
  · refine va_newaK (atype := .long) hx hb (good_of hts w_aclong rfl) rfl hd rfl hn.1 rfl (by show _ * 8 ≤ _; omega) hc1 hc2 rfl fun H' cA e1 z1 o1 hAr hNm => ?_
    have hcA : cA = D.2.2 21 := Option.some.inj (hNm.symm.trans G.1.2.2.1.1)
    subst hcA
    refine k H' (G.push z1 o1 ?_)
    have hT : mT (nC M 21 n.toNatClampNeg) H.size = 21 := by simp [mT, nC, hnn]
    have hS : mS (nC M 21 n.toNatClampNeg) H.size = n.toNatClampNeg := by simp [mS, nC, hnn]
    have hI : mL (nC M 21 n.toNatClampNeg) H.size = fun _ => 0 := by funext j; simp [mL, nC, hnn]
    refine ⟨fun h => by omega, fun h => by omega, fun h => by omega, fun _ => ⟨hlo, ?_⟩, fun h => by have := (aR_lt h).1; omega⟩
    rw [hS, hI]; exact e1
theorem anew_sound {idx x : Nat} {n : Int32} {r : List Value} (hx : p.tables.exec = Jvm.exec) (hb : c.code = mc mi) (hown : s.vm.findClass (ownS (mt mi).1) = some m.cls) (hts : ∀ w ∈ lw_good, w.before args s = true)
    (hd : decode (mc mi) pc = .ok (.anewarray idx, 3)) (h1 : (aR x && CLs.contains ((mt mi).1, idx, x - 22)) = true) (hn : ¬ n < 0 ∧ n.toNatClampNeg ≤ 1000000) (G : GG D lo E M s H) (hc1 : cells + 1 ≤ R.cells) (hc2 : slots + n.toNatClampNeg ≤ R.slots)
    (k : ∀ H', GG D lo E (nC M x n.toNatClampNeg) s H' → W p l e R s m args below meth c H' locs (cells + 1) (slots + n.toNatClampNeg) Q (F0 m (pc + 3) A (.ref (mN M) :: r))) : W p l e R s m args below meth c H locs cells slots Q (F0 m pc A (.int n :: r)) := by
  rw [Bool.and_eq_true] at h1
  obtain ⟨h1, h2⟩ := h1
  obtain ⟨t1, t2, t3⟩ := aR_lt h1
  have hsz := G.2.1.1
  have hnn : M.2.2.2.2.1 = H.size := hsz.symm
  have hlo : lo ≤ H.size := by rw [hsz]; exact G.2.1.2.1
  rw [← hsz] at k
  obtain ⟨⟨kA0, comp0, k1, k2, k3, k4⟩, -, hAO⟩ := G.1.2.2.2.1 _ h1
  refine W.anew hx hb hown (good_of hts (CLs_mem _ h2) rfl) (va_AO.use hAO) rfl hd rfl hn.1 (by omega) hc1 hc2 fun cA kA comp f1 f2 f3 f4 => ?_
  have hcA : cA = D.2.2 x := Option.some.inj (f1.symm.trans k4)
  subst hcA
  generalize hH1 : H.push ({ cls := D.2.2 x, slots := Array.replicate n.toNatClampNeg .null, vm := .none } : Cell) = H1
  have z1 : H1.size = H.size + 1 := by rw [← hH1, Array.size_push]
  have e1 : H1[H.size]? = some (arrV (D.2.2 x) n.toNatClampNeg (fun _ => .null)) := by rw [← hH1, Array.getElem?_push_size, ← arrV_new]
  have o1 : ∀ q : Nat, q < H.size → H1[q]? = H[q]? := fun q hq => by rw [← hH1, Array.getElem?_push, if_neg (Nat.ne_of_lt hq)]
  refine k H1 (G.push z1 o1 ?_)
  have hT : mT (nC M x n.toNatClampNeg) H.size = x := by simp [mT, nC, hnn]
  have hS : mS (nC M x n.toNatClampNeg) H.size = n.toNatClampNeg := by simp [mS, nC, hnn]
  have hI : mR (nC M x n.toNatClampNeg) H.size = fun _ => none := by funext j; simp [mR, nC, hnn]
  refine ⟨fun h => by omega, fun h => by omega, fun h => by omega, fun h => by omega, fun _ => ⟨hlo, ?_⟩⟩
  rw [hS, hI, hT]; exact e1
theorem gets_sound {idx x : Nat} {r : List Value} (hx : p.tables.exec = Jvm.exec) (hb : c.code = mc mi) (hown : s.vm.findClass (ownS (mt mi).1) = some m.cls) (hts : ∀ w ∈ lw_good, w.before args s = true)
    (hd : decode (mc mi) pc = .ok (.getstatic idx, 3)) (h1 : ((GSn.contains ((mt mi).1, idx, x) || GSp.contains ((mt mi).1, idx, x)) && Nat.blt x 2) = true) (G : GG D lo E M s H)
    (k : W p l e R s m args below meth c H locs cells slots Q (F0 m (pc + 3) A (.ref (bif Nat.beq x 0 then E.1 else E.2) :: r))) : W p l e R s m args below meth c H locs cells slots Q (F0 m pc A r) := by
  rw [Bool.and_eq_true, Bool.or_eq_true] at h1
  obtain ⟨h1, h2⟩ := h1
  have h2 := bltE h2
  have hZ : va_Z "CreditBroker" (gnm x) "[I" (.ref (bif Nat.beq x 0 then E.1 else E.2)) (fun q => lo ≤ q) s H := by
    match x, h2 with
    | 0, _ => exact G.2.2.1
    | 1, _ => exact G.2.2.2
  obtain ⟨cf, kf, fi, f, a, cell, g1, g2, g3, g4, g5, g6, g7, g8⟩ := hZ
  rcases h1 with h1 | h1
  · have hw : va_Nw (Cond.fieldLinkNest (ownS (mt mi).1) idx "CreditBroker" (gnm x) "[I" "CreditBroker") s := G.1.2.2.2.2.2 ((mt mi).1, idx, x) h1
    have hw2 : (Cond.fieldLinkNest (ownS (mt mi).1) idx "CreditBroker" (gnm x) "[I" "CreditBroker").before args s = true := va_Nw.use rfl hw
    exact va_WgetsN hx hb hown hw2 g1 g2 g3 g4 g5 (fun e => by rw [e] at g6; cases g6) g7 rfl hd k
  · have hw : (Cond.fieldLink (ownS (mt mi).1) idx "CreditBroker" (gnm x) "[I").before args s = true := good_of hts (GSp_mem ((mt mi).1, idx, x) h1) rfl
    exact W.gets hx hb hown hw g1 g2 g3 g4 g5 (fun e => by rw [e] at g6; cases g6) g7 rfl hd k
end SND3
