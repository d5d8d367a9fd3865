section SND4
variable {p : Program} {l : Launch} {e : Env} {R : Room} {s : State} {m : MethodId} {args : Array Value} {below : List Frame} {meth : Method} {c : Code} {H : Heap} {locs : List Loc} {cells slots : Nat} {Q : State → Prop}
variable {mi pc : Nat} {A : Array Slot} {ls st st' : List Value} {D : D3} {lo : Nat} {E : Nat × Nat} {M M' : Mm}
theorem bleE {a b : Nat} (h : Nat.ble a b = true) : a ≤ b := Nat.le_of_ble_eq_true h
theorem oin_sound {idx a : Nat} {r : List Value} (hx : p.tables.exec = Jvm.exec) (hb : c.code = mc mi) (hml : c.maxLocals = A.size) (hown : s.vm.findClass (ownS (mt mi).1) = some m.cls) (hts : ∀ w ∈ lw_good, w.before args s = true)
    (hd : decode (mc mi) pc = .ok (.invokespecial idx, 3)) (h1 : MLs.contains ((mt mi).1, idx, 900) = true) (hr : (r.map fun v => v.category).sum ≤ 8) (hf : 1 ≤ R.frames) (hlc : 46 ≤ R.locals)
    (k : W p l e R s m args below meth c H locs cells slots Q (F0 m (pc + 3) A r)) : W p l e R s m args below meth c H locs cells slots Q (F0 m pc A (.ref a :: r)) := by
  have hw : (Cond.methodLink (ownS (mt mi).1) idx objectInit).before args s = true := good_of hts (MLs_mem ((mt mi).1, idx, 900) h1) rfl
  exact W.objInit hx hb hown hw (good_of hts w_oin rfl) (good_of hts w_oco rfl) rfl (by rw [hml]) rfl hd hf (by show 2 * 0 + _ + 12 ≤ _; omega) k
theorem mm_sound {idx x : Nat} {a b : Int32} {r : List Value} (hx : p.tables.exec = Jvm.exec) (hb : c.code = mc mi) (hml : c.maxLocals = A.size) (hown : s.vm.findClass (ownS (mt mi).1) = some m.cls) (hts : ∀ w ∈ lw_good, w.before args s = true)
    (hd : decode (mc mi) pc = .ok (.invokestatic idx, 3)) (h0 : x = 902 ∨ x = 903) (h1 : MLs.contains ((mt mi).1, idx, x) = true) (hr : (r.map fun v => v.category).sum ≤ 8) (hf : 1 ≤ R.frames) (hlc : 46 ≤ R.locals) (hc1 : cells ≤ R.cells) (hc2 : slots ≤ R.slots)
    (k : W p l e R s m args below meth c H locs cells slots Q (F0 m (pc + 3) A (.int (if x = 902 then (if a < b then b else a) else (if b < a then b else a)) :: r))) : W p l e R s m args below meth c H locs cells slots Q (F0 m pc A (.int b :: .int a :: r)) := by
  have hini : (Cond.initialized "java/lang/Math").before args s = true := good_of hts (ini_mem (c := 13) (by decide)) rfl
  rcases h0 with rfl | rfl
  · have hw : (Cond.methodLink (ownS (mt mi).1) idx Lib.Math.max.name).before args s = true := good_of hts (MLs_mem ((mt mi).1, idx, 902) h1) rfl
    exact va_mmax hx hb hml hown hw (good_of hts w_maxs rfl) hini (good_of hts w_maxc rfl) hf (by omega) hc1 hc2 hd k
  · have hw : (Cond.methodLink (ownS (mt mi).1) idx Lib.Math.min.name).before args s = true := good_of hts (MLs_mem ((mt mi).1, idx, 903) h1) rfl
    exact va_mmin hx hb hml hown hw (good_of hts w_mins rfl) hini (good_of hts w_minc rfl) hf (by omega) hc1 hc2 hd k
theorem nnE {z : Int32} (hz : ¬ z < 0) : z.toInt = (z.toNatClampNeg : Int) := by
  have hz0 : (0 : Int) ≤ z.toInt := by
    have := Int32.not_lt.mp hz
    simpa using Int32.le_iff_toInt_le.mp this
  show z.toInt = ((z.toInt.toNat : Nat) : Int)
  omega
theorem cp_sound {α : Type} (g : α → Value) {ty : FieldType} (hprim : refKind ty = false) (hfit : ∀ x, fits ty (g x) = true) (hok : ∀ x : α, (∃ z, g x = .int z) ∨ ∃ z, g x = .long z) {idx a b t : Nat} {sp dp n : Int32} {r : List Value} (f : Nat → Nat → α) (hx : p.tables.exec = Jvm.exec) (hb : c.code = mc mi) (hml : c.maxLocals = A.size) (hown : s.vm.findClass (ownS (mt mi).1) = some m.cls) (hts : ∀ w ∈ lw_good, w.before args s = true)
    (hd : decode (mc mi) pc = .ok (.invokestatic idx, 3)) (h1 : MLs.contains ((mt mi).1, idx, 901) = true) (hr : (r.map fun v => v.category).sum ≤ 8) (hf : 1 ≤ R.frames) (hlc : 46 ≤ R.locals)
    (hArr : ArrOfT s (D.2.2 t) ty) {na nb : Nat} (hc0 : H[a]? = some (arrV (D.2.2 t) na (fun j => g (f a j)))) (hc1 : H[b]? = some (arrV (D.2.2 t) nb (fun j => g (f b j))))
    (s1 : ¬ sp < 0) (s2 : ¬ dp < 0) (s3 : ¬ n < 0) (s4 : sp.toNatClampNeg + n.toNatClampNeg ≤ na) (s5 : dp.toNatClampNeg + n.toNatClampNeg ≤ nb)
    (kk : ∀ (H1 : Heap) (L : List Loc), (∀ q ∈ L, q.base = b) → H1.size = H.size → (∀ q, q ≠ b → H1[q]? = H[q]?) → H1[b]? = some (arrV (D.2.2 t) nb (fun j => g (va_cpy (f a) (f b) sp.toNatClampNeg dp.toNatClampNeg n.toNatClampNeg j))) → W p l e R s m args below meth c H1 (locs ++ L) cells slots Q (F0 m (pc + 3) A r)) :
    W p l e R s m args below meth c H locs cells slots Q (F0 m pc A (.int n :: .int dp :: .ref b :: .int sp :: .ref a :: r)) := by
  have hw : (Cond.methodLink (ownS (mt mi).1) idx arraycopyName).before args s = true := good_of hts (MLs_mem ((mt mi).1, idx, 901) h1) rfl
  intro T hT X
  obtain ⟨-, k0, hk0, cm0, hkk0⟩ := hArr na (fun j => g (f a j))
  obtain ⟨-, k1, hk1, cm1, hkk1⟩ := hArr nb (fun j => g (f b j))
  obtain ⟨vm', X', step⟩ := X.arraycopy hx hown hw (good_of hts w_anat rfl) (good_of hts w_asta rfl) (good_of hts w_aini rfl) (src := a) (dst := b) (cs := arrV (D.2.2 t) na (fun j => g (f a j))) (cd := arrV (D.2.2 t) nb (fun j => g (f b j))) (srcPos := sp) (destPos := dp) (n := n) (by rw [hT]; exact hc0) (by rw [hT]; exact hc1)
    (fun _ h => by cases h) (fun _ h => by cases h) (fun h => by cases h) (fun h => by cases h) hk0 hk1 hkk0 hkk1 (by simp [hprim]) s1 s2 s3
    (by rw [nnE s1, nnE s3, arrV_size]; omega)
    (by rw [nnE s2, nnE s3, arrV_size]; omega)
    (fun vm₁ _ i hi => by
      have e : (arrV (D.2.2 t) na (fun j => g (f a j))).slots.getD (sp.toNatClampNeg + i) .null = g (f a (sp.toNatClampNeg + i)) := by
        rw [Array.getD_eq_getD_getElem?, arrV_read _ _ (by omega)]
        rfl
      refine ⟨?_, ?_⟩
      · rw [e]
        exact hfit _
      · rw [e]
        rcases hok (f a (sp.toNatClampNeg + i)) with ⟨z, hz⟩ | ⟨z, hz⟩ <;> rw [hz] <;> exact trivial)
    (g := F0 m pc A (.int n :: .int dp :: .ref b :: .int sp :: .ref a :: r)) rfl (by rw [hml]) (rest := r) rfl (by rw [hb]; exact hd) hf (by
      show 2 * 0 + _ + (nativeFrameWords "java/lang/System" "arraycopy" 5 + 11) ≤ _
      have : nativeFrameWords "java/lang/System" "arraycopy" 5 = 7 := by decide +kernel
      omega)
  have e1 : copied (arrV (D.2.2 t) na (fun j => g (f a j))) (arrV (D.2.2 t) nb (fun j => g (f b j))) sp dp n = arrV (D.2.2 t) nb (fun j => g (va_cpy (f a) (f b) sp.toNatClampNeg dp.toNatClampNeg n.toNatClampNeg j)) := va_copied g (D.2.2 t) (D.2.2 t) (f a) (f b) s4
  rw [e1] at X' step
  have hl : b < H.size := (Array.getElem?_eq_some_iff.mp hc1).1
  have hheap : ((T.setVm vm').setCell b (arrV (D.2.2 t) nb (fun j => g (va_cpy (f a) (f b) sp.toNatClampNeg dp.toNatClampNeg n.toNatClampNeg j)))).heap = H.setIfInBounds b (arrV (D.2.2 t) nb (fun j => g (va_cpy (f a) (f b) sp.toNatClampNeg dp.toNatClampNeg n.toNatClampNeg j))) := by rw [← hT]; rfl
  obtain ⟨t2, a1, b1⟩ := kk _ _ (fun q hq => by
      obtain ⟨z, -, hz⟩ := List.mem_map.mp hq
      rw [← hz]) (by simp) (fun q hq => by simp [Array.getElem?_setIfInBounds, Ne.symm hq]) (by simp [Array.getElem?_setIfInBounds, hl]) _ hheap X'
  exact ⟨t2, step t2 a1, b1⟩
theorem cp2_ne {α : Type} (f : Nat → Nat → α) (a sp b dp n : Nat) {q : Nat} (h : q ≠ b) : cp2 f a sp b dp n q = f q := by
  funext k
  simp [cp2, h]
theorem cp2_at {α : Type} (f : Nat → Nat → α) (a sp b dp n : Nat) : cp2 f a sp b dp n b = va_cpy (f a) (f b) sp dp n := by
  funext k
  simp [cp2, va_cpy]
theorem acp_sound {idx : Nat} (hx : p.tables.exec = Jvm.exec) (hb : c.code = mc mi) (hml : c.maxLocals = A.size) (hown : s.vm.findClass (ownS (mt mi).1) = some m.cls) (hts : ∀ w ∈ lw_good, w.before args s = true)
    (hd : decode (mc mi) pc = .ok (.invokestatic idx, 3)) (h1 : MLs.contains ((mt mi).1, idx, 901) = true) (hf : 1 ≤ R.frames) (hlc : 46 ≤ R.locals) (hp : aCp M st = some (st', M')) (G : GG D lo E M s H) (hL : ∀ z ∈ locs, lo ≤ z.base)
    (k : ∀ H' locs', GG D lo E M' s H' → (∀ z ∈ locs', lo ≤ z.base) → W p l e R s m args below meth c H' locs' cells slots Q (F0 m (pc + 3) A st')) : mN M' = mN M ∧ mU M' = mU M ∧ W p l e R s m args below meth c H locs cells slots Q (F0 m pc A st) := by
  unfold aCp at hp
  split at hp
  · rename_i n dp b sp a r
    split at hp
    · rename_i hh
      obtain ⟨s1, s2, s3, s4, s5, s6, s7⟩ := hh
      split at hp
      · rename_i h20
        cases hp
        obtain ⟨-, -, c3, -⟩ := G.2.1.2.2 b
        obtain ⟨-, -, d3, -⟩ := G.2.1.2.2 a
        obtain ⟨hlo, hcb⟩ := c3 h20
        obtain ⟨-, hca⟩ := d3 (s6.trans h20)
        refine ⟨rfl, rfl, cp_sound (D := D) (t := 20) Value.int (ty := .int) rfl (fun _ => rfl) (fun z => Or.inl ⟨z, rfl⟩) (mI M) hx hb hml hown hts hd h1 s7 hf hlc G.1.2.1.2 hca hcb s1 s2 s3 s4 s5 (fun H1 L hLb sz o e1 => ?_)⟩
        refine k H1 _ (G.upd hlo rfl rfl (fun q hq => cp2_ne _ _ _ _ _ _ hq) (fun q hq => rfl) (fun q hq => rfl) sz o ?_) (fun q hq => ?_)
        · have hT : mT (cI M a sp.toNatClampNeg b dp.toNatClampNeg n.toNatClampNeg) b = 20 := h20
          refine ⟨fun h => by omega, fun h => by omega, fun _ => ⟨hlo, ?_⟩, fun h => by omega, fun h => by have := (aR_lt h).1; omega⟩
          rw [e1]
          have e2 : mI (cI M a sp.toNatClampNeg b dp.toNatClampNeg n.toNatClampNeg) b = va_cpy (mI M a) (mI M b) sp.toNatClampNeg dp.toNatClampNeg n.toNatClampNeg := cp2_at _ _ _ _ _ _
          rw [e2]
          rfl
        · rcases List.mem_append.mp hq with h | h
          · exact hL q h
          · rw [hLb q h]; exact hlo
      · split at hp
        · rename_i h21
          cases hp
          obtain ⟨-, -, -, c4, -⟩ := G.2.1.2.2 b
          obtain ⟨-, -, -, d4, -⟩ := G.2.1.2.2 a
          obtain ⟨hlo, hcb⟩ := c4 h21
          obtain ⟨-, hca⟩ := d4 (s6.trans h21)
          refine ⟨rfl, rfl, cp_sound (D := D) (t := 21) Value.long (ty := .long) rfl (fun _ => rfl) (fun z => Or.inr ⟨z, rfl⟩) (mL M) hx hb hml hown hts hd h1 s7 hf hlc G.1.2.2.1.2 hca hcb s1 s2 s3 s4 s5 (fun H1 L hLb sz o e1 => ?_)⟩
          refine k H1 _ (G.upd hlo rfl rfl (fun q hq => rfl) (fun q hq => cp2_ne _ _ _ _ _ _ hq) (fun q hq => rfl) sz o ?_) (fun q hq => ?_)
          · have hT : mT (cL M a sp.toNatClampNeg b dp.toNatClampNeg n.toNatClampNeg) b = 21 := h21
            refine ⟨fun h => by omega, fun h => by omega, fun h => by omega, fun _ => ⟨hlo, ?_⟩, fun h => by have := (aR_lt h).1; omega⟩
            rw [e1]
            have e2 : mL (cL M a sp.toNatClampNeg b dp.toNatClampNeg n.toNatClampNeg) b = va_cpy (mL M a) (mL M b) sp.toNatClampNeg dp.toNatClampNeg n.toNatClampNeg := cp2_at _ _ _ _ _ _
            rw [e2]
            rfl
          · rcases List.mem_append.mp hq with h | h
            · exact hL q h
            · rw [hLb q h]; exact hlo
        · cases hp
    · cases hp
  · cases hp
theorem ms_sound {q : En} (hx : p.tables.exec = Jvm.exec) (hb : c.code = mc mi) (hml : c.maxLocals = A.size) (hown : s.vm.findClass (ownS (mt mi).1) = some m.cls) (hname : meth.name = (my mi).name) (hts : ∀ w ∈ lw_good, w.before args s = true)
    (hc : chk mi (pc, q) = true) (hrf : (mt mi).2.2.2.1 ≤ R.frames) (hrl : 46 * (mt mi).2.2.2.1 ≤ R.locals) (hp : ms E q st M = some (st', M')) (hk3 : kd q = 3) (G : GG D lo E M s H) (hL : ∀ z ∈ locs, lo ≤ z.base)
    (hc1 : cells + (mN M' - mN M) ≤ R.cells) (hc2 : slots + (mU M' - mU M) ≤ R.slots)
    (k : ∀ H' locs', GG D lo E M' s H' → (∀ z ∈ locs', lo ≤ z.base) → W p l e R s m args below meth c H' locs' (cells + (mN M' - mN M)) (slots + (mU M' - mU M)) Q (F0 m q.2.1 A st')) :
    mN M ≤ mN M' ∧ mU M ≤ mU M' ∧ W p l e R s m args below meth c H locs cells slots Q (F0 m pc A st) := by
  have k0 : mN M' = mN M → mU M' = mU M → ∀ H' locs', GG D lo E M' s H' → (∀ z ∈ locs', lo ≤ z.base) → W p l e R s m args below meth c H' locs' cells slots Q (F0 m q.2.1 A st') := fun a b H' L g h => by
    have := k H' L g h
    rwa [a, b, Nat.sub_self, Nat.sub_self, Nat.add_zero, Nat.add_zero] at this
  obtain ⟨i, nx, tg, x, y, v⟩ := q
  cases i
  case getfield idx =>
    obtain ⟨hd, rfl, h1⟩ := chk_dec hc rfl
    simp only [ms, gF] at hp
    split at hp
    · rename_i a r
      split at hp
      · rename_i ht
        cases hp
        refine ⟨Nat.le_refl _, Nat.le_refl _, get_sound hx hb hown hts hd h1 G ht ?_⟩
        have f4 := (fOk_spec h1).2.2.2.1
        have := k0 rfl rfl H locs G hL
        simp only [oV, f4]
        exact this
      · cases hp
    · cases hp
  case putfield idx =>
    obtain ⟨hd, rfl, h1⟩ := chk_dec hc rfl
    have h1' : (fOk (mt mi).1 idx x y v && (!(fnm x y).2.2.2 || (decide ((my mi).name = "<init>") && decide ((fnm x y).1 = ownS (mt mi).1)))) = true := h1
    have fs := fOk_spec (by rw [Bool.and_eq_true] at h1'; exact h1'.1)
    simp only [ms, pF] at hp
    split at hp
    · rename_i kk
      split at hp
      · rename_i z a r
        split at hp
        · rename_i hh
          cases hp
          refine ⟨Nat.le_refl _, Nat.le_refl _, put_sound hx hb hown hname hts hd h1' G hL hh.1 (M' := sI M a y z) (fun ty hty => ?_) rfl rfl (fun b hb => up2_ne _ _ hb) (fun _ _ => rfl) (fun _ _ => rfl) (fun j hj => ?_) (k0 rfl rfl)⟩
          · refine fits_ok (k := kk) ?_ hh.2
            rcases fkd_ty hty (by rw [fs.2.2.2.1]; exact fs.2.2.2.2) with ⟨g1, g2⟩ | ⟨g1, g2⟩ | ⟨g1, g2⟩
            · rw [fs.2.2.2.1] at g2; cases g2; exact Or.inl ⟨g1, rfl⟩
            · rw [fs.2.2.2.1] at g2; cases g2; exact Or.inr ⟨g1, rfl⟩
            · rw [fs.2.2.2.1] at g2; cases g2
          · by_cases hjy : j = y
            · subst hjy
              rw [if_pos rfl]
              simp only [oV, fs.2.2.2.1]
              exact congrArg Value.int (by simp [mI, sI, up2])
            · rw [if_neg hjy]
              have e1 : mI (sI M a y z) a j = mI M a j := by simp [mI, sI, up2, hjy]
              simp only [oV, e1]
              rfl
        · cases hp
      · cases hp
    · rename_i hv
      have fin : ∀ (w : Value) (o : Option Nat) (a : Nat) (r : List Value), w = va_rf o → mT M a = x → st = w :: .ref a :: r → st' = r → M' = sR M a y o → mN M ≤ mN M' ∧ mU M ≤ mU M' ∧ W p l e R s m args below meth c H locs cells slots Q (F0 m pc A st) := by
        rintro w o a r rfl hT rfl rfl rfl
        refine ⟨Nat.le_refl _, Nat.le_refl _, put_sound hx hb hown hname hts hd h1' G hL hT (M' := sR M a y o) (fun ty hty => ?_) rfl rfl (fun _ _ => rfl) (fun _ _ => rfl) (fun b hb => up2_ne _ _ hb) (fun j hj => ?_) (k0 rfl rfl)⟩
        · rcases fkd_ty hty (by rw [fs.2.2.2.1]; exact fs.2.2.2.2) with ⟨g1, g2⟩ | ⟨g1, g2⟩ | ⟨g1, g2⟩
          · rw [fs.2.2.2.1] at g2; exact absurd g2 (hv _)
          · rw [fs.2.2.2.1] at g2; exact absurd g2 (hv _)
          · rcases g1 with ⟨n, rfl⟩ | ⟨n, rfl⟩ <;> cases o <;> exact ⟨rfl, rfl⟩
        · have hn : fkd x y = .null := by
            have hty := tyC_dec x fs.2.2.1 y fs.2.1
            rcases fkd_ty hty (by rw [fs.2.2.2.1]; exact fs.2.2.2.2) with ⟨g1, g2⟩ | ⟨g1, g2⟩ | ⟨g1, g2⟩
            · rw [fs.2.2.2.1] at g2; exact absurd g2 (hv _)
            · rw [fs.2.2.2.1] at g2; exact absurd g2 (hv _)
            · exact g2
          by_cases hjy : j = y
          · subst hjy
            rw [if_pos rfl]
            simp only [oV, hn]
            exact congrArg va_rf (by simp [mR, sR, up2])
          · rw [if_neg hjy]
            have e1 : mR (sR M a y o) a j = mR M a j := by simp [mR, sR, up2, hjy]
            simp only [oV, e1]
            rfl
      split at hp
      · rename_i b a r
        split at hp
        · rename_i hT
          cases hp
          exact fin _ (some b) a _ rfl hT rfl rfl rfl
        · cases hp
      · rename_i a r
        split at hp
        · rename_i hT
          cases hp
          exact fin _ none a _ rfl hT rfl rfl rfl
        · cases hp
      · cases hp
  case getstatic idx =>
    obtain ⟨hd, rfl, h1⟩ := chk_dec hc rfl
    simp only [ms, Option.some.injEq, Prod.mk.injEq] at hp
    obtain ⟨rfl, rfl⟩ := hp
    exact ⟨Nat.le_refl _, Nat.le_refl _, gets_sound hx hb hown hts hd h1 G (k0 rfl rfl H locs G hL)⟩
  case arraylength =>
    obtain ⟨hd, rfl, h1⟩ := chk_dec hc rfl
    simp only [ms, aLen] at hp
    split at hp
    · split at hp
      · rename_i ht
        cases hp
        exact ⟨Nat.le_refl _, Nat.le_refl _, len_sound hx hb hd G ht (k0 rfl rfl H locs G hL)⟩
      · cases hp
    · cases hp
  case iaload =>
    obtain ⟨hd, rfl, h1⟩ := chk_dec hc rfl
    simp only [ms, iLd] at hp
    split at hp
    · split at hp
      · rename_i ht
        cases hp
        exact ⟨Nat.le_refl _, Nat.le_refl _, iald_sound hx hb hd G ht.1 ht.2 (k0 rfl rfl H locs G hL)⟩
      · cases hp
    · cases hp
  case laload =>
    obtain ⟨hd, rfl, h1⟩ := chk_dec hc rfl
    simp only [ms, lLd] at hp
    split at hp
    · split at hp
      · rename_i ht
        cases hp
        exact ⟨Nat.le_refl _, Nat.le_refl _, lald_sound hx hb hd G ht.1 ht.2 (k0 rfl rfl H locs G hL)⟩
      · cases hp
    · cases hp
  case aaload =>
    obtain ⟨hd, rfl, h1⟩ := chk_dec hc rfl
    simp only [ms, rLd] at hp
    split at hp
    · split at hp
      · rename_i ht
        cases hp
        exact ⟨Nat.le_refl _, Nat.le_refl _, aald_sound hx hb hd G ht.1 ht.2 (k0 rfl rfl H locs G hL)⟩
      · cases hp
    · cases hp
  case iastore =>
    obtain ⟨hd, rfl, h1⟩ := chk_dec hc rfl
    simp only [ms, aSt, kd] at hp
    split at hp
    · split at hp
      · rename_i ht
        cases hp
        exact ⟨Nat.le_refl _, Nat.le_refl _, iast_sound hx hb hd G hL ht.1 ht.2 (k0 rfl rfl)⟩
      · cases hp
    · cases hp
  case lastore =>
    obtain ⟨hd, rfl, h1⟩ := chk_dec hc rfl
    simp only [ms, lSt] at hp
    split at hp
    · split at hp
      · rename_i ht
        cases hp
        exact ⟨Nat.le_refl _, Nat.le_refl _, last_sound hx hb hd G hL ht.1 ht.2 (k0 rfl rfl)⟩
      · cases hp
    · cases hp
  case aastore =>
    obtain ⟨hd, rfl, h1⟩ := chk_dec hc rfl
    simp only [ms, rSt] at hp
    split at hp
    · split at hp
      · rename_i ht
        cases hp
        exact ⟨Nat.le_refl _, Nat.le_refl _, aast_sound hx hb hd G hL ht.1 ht.2.1 ht.2.2 (k0 rfl rfl)⟩
      · cases hp
    · cases hp
  case new idx =>
    obtain ⟨hd, rfl, h1⟩ := chk_dec hc rfl
    simp only [ms, Option.some.injEq, Prod.mk.injEq] at hp
    obtain ⟨rfl, rfl⟩ := hp
    have e1 : mN (nC M x y) - mN M = 1 := by show mN M + 1 - mN M = 1; omega
    have e2 : mU (nC M x y) - mU M = y := by show mU M + y - mU M = y; omega
    rw [e1, e2] at k
    rw [e1] at hc1
    rw [e2] at hc2
    exact ⟨Nat.le_succ _, Nat.le_add_right _ _, new_sound hx hb hown hts hd h1 G hc1 hc2 (fun H' g => k H' locs g hL)⟩
  case newarray at_ =>
    obtain ⟨hd, rfl, h1⟩ := chk_dec hc rfl
    simp only [ms, nwA] at hp
    split at hp
    · rename_i n r
      split at hp
      · rename_i hn
        cases hp
        have e1 : mN (nC M x n.toNatClampNeg) - mN M = 1 := by show mN M + 1 - mN M = 1; omega
        have e2 : mU (nC M x n.toNatClampNeg) - mU M = n.toNatClampNeg := by show mU M + _ - mU M = _; omega
        rw [e1, e2] at k
        rw [e1] at hc1
        rw [e2] at hc2
        refine ⟨Nat.le_succ _, Nat.le_add_right _ _, newa_sound hx hb hts hd ?_ hn G hc1 hc2 (fun H' g => k H' locs g hL)⟩
        simp only [chk1] at h1
        split at h1
        · exact Or.inl ⟨rfl, beqE h1⟩
        · exact Or.inr ⟨rfl, beqE h1⟩
        · cases h1
      · cases hp
    · cases hp
  case anewarray idx =>
    obtain ⟨hd, rfl, h1⟩ := chk_dec hc rfl
    simp only [ms, nwA] at hp
    split at hp
    · rename_i n r
      split at hp
      · rename_i hn
        cases hp
        have e1 : mN (nC M x n.toNatClampNeg) - mN M = 1 := by show mN M + 1 - mN M = 1; omega
        have e2 : mU (nC M x n.toNatClampNeg) - mU M = n.toNatClampNeg := by show mU M + _ - mU M = _; omega
        rw [e1, e2] at k
        rw [e1] at hc1
        rw [e2] at hc2
        exact ⟨Nat.le_succ _, Nat.le_add_right _ _, anew_sound hx hb hown hts hd h1 hn G hc1 hc2 (fun H' g => k H' locs g hL)⟩
      · cases hp
    · cases hp
  case irem =>
    obtain ⟨hd, rfl, h1⟩ := chk_dec hc rfl
    simp only [ms, rem2] at hp
    split at hp
    · split at hp
      · rename_i hn
        cases hp
        exact ⟨Nat.le_refl _, Nat.le_refl _, lv_irem hx hb hd hn (k0 rfl rfl H locs G hL)⟩
      · cases hp
    · cases hp
  case invokespecial idx =>
    obtain ⟨hd, rfl, h1⟩ := chk_dec hc rfl
    have h900 : 900 ≤ x := by
      cases hq : Nat.ble 900 x with
      | true => exact bleE hq
      | false => simp [kd, hq] at hk3
    simp only [chk1, rkp, Bool.or_eq_true, Bool.and_eq_true] at h1
    rcases h1 with ⟨⟨g1, g2⟩, g3⟩ | ⟨⟨⟨⟨g0, g1⟩, g2⟩, g3⟩, g4⟩
    · have g1 := beqE g1
      subst g1
      have g2 := bltE g2
      simp only [ms, oIn] at hp
      split at hp
      · rename_i a r
        cases hq : Nat.ble ((r.map fun v => v.category).sum) 8 with
        | false => rw [hq] at hp; cases hp
        | true =>
          rw [hq] at hp
          cases hp
          exact ⟨Nat.le_refl _, Nat.le_refl _, oin_sound hx hb hml hown hts hd g3 (bleE hq) (by omega) (by omega) (k0 rfl rfl H locs G hL)⟩
      · cases hp
    · have := bltE g1; omega
  case invokestatic idx =>
    obtain ⟨hd, rfl, h1⟩ := chk_dec hc rfl
    have h900 : 900 ≤ x := by
      cases hq : Nat.ble 900 x with
      | true => exact bleE hq
      | false => simp [kd, hq] at hk3
    simp only [chk1, rkp, Bool.or_eq_true, Bool.and_eq_true] at h1
    rcases h1 with ⟨⟨g1, g2⟩, g3⟩ | ⟨⟨g0, g1⟩, g2⟩
    · have g2 := bltE g2
      by_cases h901 : x = 901
      · subst h901
        have hp' : aCp M st = some (st', M') := hp
        have hN : mN M' = mN M ∧ mU M' = mU M := by
          unfold aCp at hp'
          split at hp'
          · split at hp'
            · split at hp'
              · cases hp'; exact ⟨rfl, rfl⟩
              · split at hp'
                · cases hp'; exact ⟨rfl, rfl⟩
                · cases hp'
            · cases hp'
          · cases hp'
        exact ⟨by rw [hN.1]; exact Nat.le_refl _, by rw [hN.2]; exact Nat.le_refl _, (acp_sound hx hb hml hown hts hd g3 (by omega) (by omega) hp' G hL (k0 hN.1 hN.2)).2.2⟩
      · have hx2 : x = 902 ∨ x = 903 := by
          rcases g1 with (g1 | g1) | g1
          · exact absurd (beqE g1) h901
          · exact Or.inl (beqE g1)
          · exact Or.inr (beqE g1)
        have hb901 : Nat.beq x 901 = false := by
          cases hq : Nat.beq x 901 with
          | true => exact absurd (beqE hq) h901
          | false => rfl
        simp only [ms, hb901, cond_false, mm2] at hp
        split at hp
        · rename_i b a r
          cases hq : Nat.ble ((r.map fun v => v.category).sum) 8 with
          | false => rw [hq] at hp; cases hp
          | true =>
            rw [hq] at hp
            cases hp
            exact ⟨Nat.le_refl _, Nat.le_refl _, mm_sound hx hb hml hown hts hd hx2 g3 (bleE hq) (by omega) (by omega) (by omega) (by omega) (k0 rfl rfl H locs G hL)⟩
        · cases hp
    · have := bltE g1; omega
  all_goals (simp only [ms] at hp; cases hp)
end SND4
