/-! THE SOUNDNESS OF THE PURE MACHINE: what it answers the real one does. -/
theorem mN_nC (M : Mm) (t n : Nat) : mN M ≤ mN (nC M t n) ∧ mU M ≤ mU (nC M t n) := ⟨Nat.le_succ _, Nat.le_add_right _ _⟩
theorem ms_mono {E : Nat × Nat} {q : En} {st st' : List Value} {M M' : Mm} (h : ms E q st M = some (st', M')) : mN M ≤ mN M' ∧ mU M ≤ mU M' := by
  have rfl2 : mN M ≤ mN M ∧ mU M ≤ mU M := ⟨Nat.le_refl _, Nat.le_refl _⟩
  obtain ⟨i, nx, tg, x, y, v⟩ := q
  cases i
  case getfield idx =>
    simp only [ms, gF] at h
    split at h <;> first | (split at h <;> first | (cases h; exact rfl2) | cases h) | cases h
  case putfield idx =>
    simp only [ms, pF] at h
    split at h
    · split at h <;> first | (split at h <;> first | (cases h; exact rfl2) | cases h) | cases h
    · split at h <;> first | (split at h <;> first | (cases h; exact rfl2) | cases h) | cases h
  case getstatic idx =>
    simp only [ms, Option.some.injEq, Prod.mk.injEq] at h
    rw [← h.2]; exact rfl2
  case arraylength =>
    simp only [ms, aLen] at h
    split at h <;> first | (split at h <;> first | (cases h; exact rfl2) | cases h) | cases h
  case iaload =>
    simp only [ms, iLd] at h
    split at h <;> first | (split at h <;> first | (cases h; exact rfl2) | cases h) | cases h
  case laload =>
    simp only [ms, lLd] at h
    split at h <;> first | (split at h <;> first | (cases h; exact rfl2) | cases h) | cases h
  case aaload =>
    simp only [ms, rLd] at h
    split at h <;> first | (split at h <;> first | (cases h; exact rfl2) | cases h) | cases h
  case iastore =>
    simp only [ms, aSt] at h
    split at h <;> first | (split at h <;> first | (cases h; exact rfl2) | cases h) | cases h
  case lastore =>
    simp only [ms, lSt] at h
    split at h <;> first | (split at h <;> first | (cases h; exact rfl2) | cases h) | cases h
  case aastore =>
    simp only [ms, rSt] at h
    split at h <;> first | (split at h <;> first | (cases h; exact rfl2) | cases h) | cases h
  case new idx =>
    simp only [ms, Option.some.injEq, Prod.mk.injEq] at h
    rw [← h.2]; exact mN_nC _ _ _
  case newarray idx =>
    simp only [ms, nwA] at h
    split at h <;> first | (split at h <;> first | (cases h; exact mN_nC _ _ _) | cases h) | cases h
  case anewarray idx =>
    simp only [ms, nwA] at h
    split at h <;> first | (split at h <;> first | (cases h; exact mN_nC _ _ _) | cases h) | cases h
  case irem =>
    simp only [ms, rem2] at h
    split at h <;> first | (split at h <;> first | (cases h; exact rfl2) | cases h) | cases h
  case invokespecial idx =>
    simp only [ms, oIn] at h
    split at h
    · rename_i a r
      cases hq : Nat.ble ((r.map fun v => v.category).sum) 8 with
      | false => rw [hq] at h; cases h
      | true => rw [hq] at h; cases h; exact rfl2
    · cases h
  case invokestatic idx =>
    simp only [ms] at h
    cases hb : Nat.beq x 901 with
    | true =>
      rw [hb] at h
      simp only [cond_true, aCp] at h
      split at h
      · split at h
        · split at h
          · cases h; exact rfl2
          · split at h
            · cases h; exact rfl2
            · cases h
        · cases h
      · cases h
    | false =>
      rw [hb] at h
      simp only [cond_false, mm2] at h
      split at h
      · rename_i b a r
        cases hq : Nat.ble ((r.map fun v => v.category).sum) 8 with
        | false => rw [hq] at h; cases h
        | true => rw [hq] at h; cases h; exact rfl2
      · cases h
  all_goals (simp only [ms] at h; cases h)
theorem ev_mono (E : Nat × Nat) : ∀ (n mi pc : Nat) (ls st : List Value) (M : Mm) (v : Option Value) (M' : Mm), ev E n mi pc ls st M = some (v, M') → mN M ≤ mN M' ∧ mU M ≤ mU M' := by
  intro n
  induction n with
  | zero => intro mi pc ls st M v M' h; cases h
  | succ n ih =>
    intro mi pc ls st M v M' h
    unfold ev at h
    split at h
    · cases h
    · rename_i e he
      split at h
      · split at h
        · exact ih _ _ _ _ _ _ _ h
        · cases h
      · split at h
        · exact ih _ _ _ _ _ _ _ h
        · cases h
      · split at h
        · exact ih _ _ _ _ _ _ _ h
        · cases h
      · split at h
        · rename_i st' M1 hm
          have h1 := ih _ _ _ _ _ _ _ h
          have h2 := ms_mono hm
          exact ⟨Nat.le_trans h2.1 h1.1, Nat.le_trans h2.2 h1.2⟩
        · cases h
      · split at h
        · rename_i mj as r hcs
          cases hr : rcv M mj e.1 as with
          | false => rw [hr] at h; cases h
          | true =>
            rw [hr] at h
            simp only [cond_true] at h
            split at h
            · rename_i v1 M1 h1
              have a1 := ih _ _ _ _ _ _ _ h1
              have a2 := ih _ _ _ _ _ _ _ h
              exact ⟨Nat.le_trans a1.1 a2.1, Nat.le_trans a1.2 a2.2⟩
            · cases h
        · cases h
      · split at h
        · cases h; exact ⟨Nat.le_refl _, Nat.le_refl _⟩
        · cases h
theorem stI_len {nx i pc' : Nat} {ls st ls' st' : List Value} (h : stI nx ls st i = some (pc', ls', st')) : ls'.length = ls.length := by
  unfold stI at h
  split at h
  · cases ho : okst ls i with
    | false => rw [ho] at h; cases h
    | true => rw [ho] at h; cases h; exact lset_len _ _ _
  · cases h
theorem stA_len {nx i pc' : Nat} {ls st ls' st' : List Value} (h : stA nx ls st i = some (pc', ls', st')) : ls'.length = ls.length := by
  unfold stA at h
  split at h
  · cases ho : okst ls i with
    | false => rw [ho] at h; cases h
    | true => rw [ho] at h; cases h; exact lset_len _ _ _
  · cases ho : okst ls i with
    | false => rw [ho] at h; cases h
    | true => rw [ho] at h; cases h; exact lset_len _ _ _
  · cases h
theorem incI_len {nx i pc' : Nat} {v : Value} {ls st ls' st' : List Value} (h : incI nx ls st i v = some (pc', ls', st')) : ls'.length = ls.length := by
  unfold incI at h
  split at h
  · cases ho : okst ls i with
    | false => rw [ho] at h; cases h
    | true => rw [ho] at h; cases h; exact lset_len _ _ _
  · cases h
theorem ps_len {q : En} {pc' : Nat} {ls st ls' st' : List Value} (h : ps q ls st = some (pc', ls', st')) : ls'.length = ls.length := by
  obtain ⟨i, nx, tg, x, y, v⟩ := q
  have same : ∀ {a b : Nat × List Value × List Value}, some a = some b → a.2.1 = ls → b.2.1.length = ls.length := fun h1 h2 => by cases h1; rw [h2]
  cases i
  case istore n => exact stI_len h
  case istore_n n => exact stI_len h
  case astore n => exact stA_len h
  case astore_n n => exact stA_len h
  case iinc n d => exact incI_len h
  case iload n => simp only [ps, ldI] at h; split at h <;> first | (cases h; rfl) | cases h
  case iload_n n => simp only [ps, ldI] at h; split at h <;> first | (cases h; rfl) | cases h
  case lload n => simp only [ps, ldL] at h; split at h <;> first | (cases h; rfl) | cases h
  case lload_n n => simp only [ps, ldL] at h; split at h <;> first | (cases h; rfl) | cases h
  case aload n => simp only [ps, ldA] at h; split at h <;> first | (cases h; rfl) | cases h
  case aload_n n => simp only [ps, ldA] at h; split at h <;> first | (cases h; rfl) | cases h
  case iadd => obtain ⟨_, _, _, -, -, rfl, -⟩ := op2_inv ((opAdd_eq _ _ _).symm.trans h); rfl
  case isub => obtain ⟨_, _, _, -, -, rfl, -⟩ := op2_inv ((opSub_eq _ _ _).symm.trans h); rfl
  case imul => obtain ⟨_, _, _, -, -, rfl, -⟩ := op2_inv ((opMul_eq _ _ _).symm.trans h); rfl
  case iand => obtain ⟨_, _, _, -, -, rfl, -⟩ := op2_inv ((opAnd_eq _ _ _).symm.trans h); rfl
  case ior => obtain ⟨_, _, _, -, -, rfl, -⟩ := op2_inv ((opOr_eq _ _ _).symm.trans h); rfl
  case ixor => obtain ⟨_, _, _, -, -, rfl, -⟩ := op2_inv ((opXor_eq _ _ _).symm.trans h); rfl
  case ishl => obtain ⟨_, _, _, -, -, rfl, -⟩ := op2_inv ((opIShl_eq _ _ _).symm.trans h); rfl
  case ishr => obtain ⟨_, _, _, -, -, rfl, -⟩ := op2_inv ((opIShr_eq _ _ _).symm.trans h); rfl
  case iushr => obtain ⟨_, _, _, -, -, rfl, -⟩ := op2_inv ((opIUshr_eq _ _ _).symm.trans h); rfl
  case ineg => obtain ⟨_, _, -, -, rfl, -⟩ := op1_inv ((opNeg_eq _ _ _).symm.trans h); rfl
  case i2b => obtain ⟨_, _, -, -, rfl, -⟩ := op1_inv ((opI2b_eq _ _ _).symm.trans h); rfl
  case i2s => obtain ⟨_, _, -, -, rfl, -⟩ := op1_inv ((opI2s_eq _ _ _).symm.trans h); rfl
  case land => obtain ⟨_, _, _, -, -, rfl, -⟩ := op2L_inv ((opLand_eq _ _ _).symm.trans h); rfl
  case lor => obtain ⟨_, _, _, -, -, rfl, -⟩ := op2L_inv ((opLor_eq _ _ _).symm.trans h); rfl
  case i2l => simp only [ps, opI2L] at h; split at h <;> first | (cases h; rfl) | cases h
  case l2i => simp only [ps, opL2I] at h; split at h <;> first | (cases h; rfl) | cases h
  case lshl => simp only [ps, opShl] at h; split at h <;> first | (cases h; rfl) | cases h
  case lcmp => simp only [ps, opCmp] at h; split at h <;> first | (cases h; rfl) | cases h
  case dup =>
    simp only [ps, opDup] at h
    split at h
    · rename_i a r
      cases ho : c1 a with
      | false => rw [ho] at h; cases h
      | true => rw [ho] at h; cases h; rfl
    · cases h
  case dup2 =>
    simp only [ps, opDup2] at h
    split at h
    · rename_i a b r
      cases ho : (c1 a && c1 b) with
      | false => rw [ho] at h; cases h
      | true => rw [ho] at h; cases h; rfl
    · cases h
  case pop =>
    simp only [ps, opPop] at h
    split at h
    · rename_i a r
      cases ho : c1 a with
      | false => rw [ho] at h; cases h
      | true => rw [ho] at h; cases h; rfl
    · cases h
  all_goals (simp only [ps] at h; first | (cases h; done) | exact same h rfl)
theorem spl_spec : ∀ (n : Nat) (acc st as r : List Value), spl n acc st = some (as, r) → ∃ t : List Value, t.length = n ∧ st = t ++ r ∧ as = t.reverse ++ acc
  | 0, acc, st, as, r, h => by
    simp only [spl, Option.some.injEq, Prod.mk.injEq] at h
    exact ⟨[], rfl, by rw [h.2]; rfl, by rw [h.1]; rfl⟩
  | n + 1, acc, [], as, r, h => by cases h
  | n + 1, acc, v :: st, as, r, h => by
    obtain ⟨t, h1, h2, h3⟩ := spl_spec n (v :: acc) st as r h
    exact ⟨v :: t, by simp [h1], by simp [h2], by simp [h3]⟩
theorem xp_len : ∀ as : List Value, (xp as).length = (lg_sl as).length
  | [] => rfl
  | a :: t => by
    have ih := xp_len t
    cases a <;> simp only [xp, List.length_cons, ih] <;> simp [lg_sl, Value.category]
theorem xp_in : ∀ (as : List Value) (k i : Nat) (v : Value), lget (xp as) i = some v → (∀ z, v ≠ .retAddr z) → (k + i, v) ∈ lv_args k as
  | [], k, i, v, h, _ => by simp [xp, lget] at h
  | a :: t, k, i, v, h, hn => by
    by_cases hc : a.category = 2
    · have hx : xp (a :: t) = a :: U0 :: xp t := by cases a <;> simp_all [xp, Value.category]
      rw [hx] at h
      simp only [lv_args, hc, if_true]
      match i, h with
      | 0, h => simp only [lget, Option.some.injEq] at h; rw [h]; exact List.mem_cons_self
      | 1, h => simp only [lget, Option.some.injEq] at h; exact absurd h.symm (hn 0)
      | i + 2, h =>
        simp only [lget] at h
        have := xp_in t (k + 2) i v h hn
        rw [show k + (i + 2) = k + 2 + i by omega]
        exact List.mem_cons_of_mem _ this
    · have hx : xp (a :: t) = a :: xp t := by cases a <;> simp_all [xp, Value.category]
      rw [hx] at h
      simp only [lv_args, hc, if_false]
      match i, h with
      | 0, h => simp only [lget, Option.some.injEq] at h; rw [h]; exact List.mem_cons_self
      | i + 1, h =>
        simp only [lget] at h
        have := xp_in t (k + 1) i v h hn
        rw [show k + (i + 1) = k + 1 + i by omega]
        exact List.mem_cons_of_mem _ this
theorem pad_len : ∀ (n : Nat) (l : List Value), (pad n l).length = n
  | 0, _ => rfl
  | n + 1, [] => by simp [pad, pad_len n []]
  | n + 1, a :: t => by simp [pad, pad_len n t]
theorem pad_in : ∀ (n : Nat) (l : List Value) (i : Nat) (v : Value), lget (pad n l) i = some v → (∀ z, v ≠ .retAddr z) → lget l i = some v
  | 0, _, _, _, h, _ => by simp [pad, lget] at h
  | n + 1, [], 0, v, h, hn => by simp only [pad, lget, Option.some.injEq] at h; exact absurd h.symm (hn 0)
  | n + 1, [], i + 1, v, h, hn => by
    simp only [pad, lget] at h
    have := pad_in n [] i v h hn
    simp [lget] at this
  | n + 1, a :: t, 0, v, h, hn => by simpa [pad, lget] using h
  | n + 1, a :: t, i + 1, v, h, hn => by
    simp only [pad, lget] at h
    simpa [lget] using pad_in n t i v h hn
theorem LR_entry {mj : Nat} {as : List Value} (h : (xp as).length ≤ (mt mj).2.2.1) : LR ((lg_sl as ++ List.replicate ((mt mj).2.2.1 - (lg_sl as).length) Slot.unset).toArray) (mkL mj as) := by
  rw [xp_len] at h
  obtain ⟨h1, h2, h3⟩ := lv_entry as h
  refine ⟨by rw [h1]; exact (pad_len _ _).symm, h2, fun i v hi hn => ?_⟩
  have := xp_in as 0 i v (pad_in _ _ i v hi hn) hn
  rw [Nat.zero_add] at this
  exact h3 (i, v) this
theorem GG.back {D : D3} {lo : Nat} {E : Nat × Nat} {M : Mm} {s t : State} {H : Heap} (hK : KK D s) (hvm : t.vm.Alike s.vm) (h : GG D lo E M t H) : GG D lo E M s H := ⟨hK, h.2.1.moved hvm, va_Z.moved hvm h.2.2.1, va_Z.moved hvm h.2.2.2⟩
theorem myx_lt {x : Nat} (h : x < nM - 1) : myx x = my x := by
  have hn : nM - 1 < 900 := by decide
  unfold myx
  have b : ∀ k, 900 ≤ k → Nat.beq x k = false := fun k hk => by
    cases hq : Nat.beq x k with
    | true => have := beqE hq; omega
    | false => rfl
  rw [b 900 (by omega), b 901 (by omega), b 902 (by omega), b 903 (by omega)]
  rfl
theorem cs_xp {mi mj : Nat} {q : En} {st as r : List Value} (h : cs mi q st = some (mj, as, r)) : (xp as).length ≤ (mt mj).2.2.1 := by
  obtain ⟨i, nx, tg, x, y, w⟩ := q
  simp only [cs] at h
  cases hrk : Nat.blt (mt x).2.2.2.1 (mt mi).2.2.2.1 with
  | false => rw [hrk] at h; cases h
  | true =>
    rw [hrk] at h
    simp only [cond_true] at h
    split at h
    · rename_i as' r' hsp
      cases hq : (Nat.ble ((r'.map fun v => v.category).sum) 8 && Nat.ble (xp as').length (mt x).2.2.1) with
      | false => rw [hq] at h; cases h
      | true =>
        rw [hq] at h
        cases h
        rw [Bool.and_eq_true] at hq
        exact bleE hq.2
    · cases h
theorem kd_le (q : En) : kd q ≤ 5 := by
  obtain ⟨i, nx, tg, x, y, w⟩ := q
  cases i <;> simp only [kd] <;> first | decide | (cases Nat.ble 900 x <;> decide)
