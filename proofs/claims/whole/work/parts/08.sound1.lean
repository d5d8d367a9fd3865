/-! What the pure machine does alone the real one does: constants, locals, numbers, jumps. -/
def LR (A : Array Slot) (ls : List Value) : Prop := A.size = ls.length ∧ lv_wf A ∧ ∀ (i : Nat) (v : Value), lget ls i = some v → (∀ k, v ≠ .retAddr k) → A[i]? = some (.val v)
def tl : Nat → List Value → List (Nat × Value)
  | _, [] => []
  | k, .retAddr _ :: t => tl (k + 1) t
  | k, v :: t => (k, v) :: tl (k + 1) t
theorem tl_in : ∀ (ls : List Value) (k i : Nat) (v : Value), lget ls i = some v → (∀ z, v ≠ .retAddr z) → (k + i, v) ∈ tl k ls
  | [], _, _, _, h, _ => by simp [lget] at h
  | a :: t, k, 0, v, h, hn => by
    simp only [lget, Option.some.injEq] at h
    subst h
    cases a <;> first | exact absurd rfl (hn _) | simp [tl]
  | a :: t, k, i + 1, v, h, hn => by
    simp only [lget] at h
    have h1 := tl_in t (k + 1) i v h hn
    have e : k + (i + 1) = k + 1 + i := by omega
    rw [e]
    cases a <;> simp only [tl] <;> first | exact h1 | exact List.mem_cons_of_mem _ h1
theorem tl_of : ∀ (ls : List Value) (k : Nat) (q : Nat × Value), q ∈ tl k ls → ∃ i, q.1 = k + i ∧ lget ls i = some q.2 ∧ ∀ z, q.2 ≠ .retAddr z
  | [], _, _, h => by simp [tl] at h
  | a :: t, k, q, h => by
    have rec1 : q ∈ tl (k + 1) t → ∃ i, q.1 = k + i ∧ lget (a :: t) i = some q.2 ∧ ∀ z, q.2 ≠ .retAddr z := fun h => by
      obtain ⟨i, h1, h2, h3⟩ := tl_of t (k + 1) q h
      exact ⟨i + 1, by omega, by simpa [lget] using h2, h3⟩
    cases a <;> simp only [tl] at h <;> first | exact rec1 h | (rcases List.mem_cons.mp h with rfl | h <;> first | exact rec1 h | exact ⟨0, rfl, by simp [lget], fun z hz => by cases hz⟩)
theorem LR.has {A : Array Slot} {ls : List Value} (h : LR A ls) : lv_has A ls.length (tl 0 ls) := ⟨h.1, h.2.1, fun q hq => by
  obtain ⟨i, h1, h2, h3⟩ := tl_of ls 0 q hq
  rw [h1, Nat.zero_add]
  exact h.2.2 i q.2 h2 h3⟩
theorem lset_len : ∀ (ls : List Value) (i : Nat) (v : Value), (lset ls i v).length = ls.length
  | [], _, _ => rfl
  | _ :: _, 0, _ => rfl
  | _ :: t, i + 1, v => by simp [lset, lset_len t i v]
theorem lget_lset : ∀ (ls : List Value) (i j : Nat) (v : Value), lget (lset ls i v) j = if j = i ∧ i < ls.length then some v else lget ls j
  | [], _, _, _ => by simp [lset, lget]
  | a :: t, 0, 0, v => by simp [lset, lget]
  | a :: t, 0, j + 1, v => by simp [lset, lget]
  | a :: t, i + 1, 0, v => by simp [lset, lget]
  | a :: t, i + 1, j + 1, v => by simp [lset, lget, lget_lset t i j v]
theorem lget_lt : ∀ (ls : List Value) (i : Nat), (lget ls i).isSome = true → i < ls.length
  | [], _, h => by simp [lget] at h
  | _ :: _, 0, _ => by simp
  | _ :: t, i + 1, h => by
    have := lget_lt t i (by simpa [lget] using h)
    simp; omega
theorem okst_lt {ls : List Value} {i : Nat} (h : okst ls i = true) : i < ls.length := by
  cases i with
  | zero => exact lget_lt _ _ h
  | succ i =>
    simp only [okst, Bool.and_eq_true] at h
    exact lget_lt _ _ h.1
theorem okst_prev {ls : List Value} {i j : Nat} {w : Value} (h : okst ls i = true) (hj : j + 1 = i) (hw : lget ls j = some w) : ¬ w.category = 2 := by
  subst hj
  simp only [okst, Bool.and_eq_true, hw] at h
  have h2 := h.2
  cases w <;> simp_all [isLg, Value.category]
theorem LR.st {A' : Array Slot} {ls : List Value} {i : Nat} {v : Value} (h : okst ls i = true)
    (h' : lv_has A' ls.length ((i, v) :: (tl 0 ls).filter (fun q => !(q.1 == i) && !(q.1 + 1 == i && q.2.category == 2)))) : LR A' (lset ls i v) := by
  refine ⟨by rw [lset_len]; exact h'.1, h'.2.1, fun j w hj hn => ?_⟩
  rw [lget_lset] at hj
  by_cases hji : j = i
  · subst hji
    rw [if_pos ⟨rfl, okst_lt h⟩] at hj
    cases hj
    exact h'.2.2 (j, v) List.mem_cons_self
  · rw [if_neg (fun q => hji q.1)] at hj
    refine h'.2.2 (j, w) (List.mem_cons_of_mem _ (List.mem_filter.mpr ⟨by simpa using tl_in ls 0 j w hj hn, ?_⟩))
    by_cases hp : j + 1 = i
    · have := okst_prev h hp hj
      simp [hji, this]
    · simp [hji, hp]
theorem op2_inv {nx pc' : Nat} {ls st ls' st' : List Value} {f : Int32 → Int32 → Int32} (h : op2 nx ls st f = some (pc', ls', st')) : ∃ x y r, st = .int y :: .int x :: r ∧ pc' = nx ∧ ls' = ls ∧ st' = .int (f x y) :: r := by
  unfold op2 at h
  split at h
  · cases h; exact ⟨_, _, _, rfl, rfl, rfl, rfl⟩
  · cases h
theorem op1_inv {nx pc' : Nat} {ls st ls' st' : List Value} {f : Int32 → Int32} (h : op1 nx ls st f = some (pc', ls', st')) : ∃ x r, st = .int x :: r ∧ pc' = nx ∧ ls' = ls ∧ st' = .int (f x) :: r := by
  unfold op1 at h
  split at h
  · cases h; exact ⟨_, _, rfl, rfl, rfl, rfl⟩
  · cases h
theorem op2L_inv {nx pc' : Nat} {ls st ls' st' : List Value} {f : Int64 → Int64 → Int64} (h : op2L nx ls st f = some (pc', ls', st')) : ∃ x y r, st = .long y :: .long x :: r ∧ pc' = nx ∧ ls' = ls ∧ st' = .long (f x y) :: r := by
  unfold op2L at h
  split at h
  · cases h; exact ⟨_, _, _, rfl, rfl, rfl, rfl⟩
  · cases h
theorem c1_cat {v : Value} (h : c1 v = true) : v.category = 1 := by cases v <;> simp_all [c1, Value.category]
theorem chk_dec {mi pc : Nat} {i : Instr} {nx tg x y : Nat} {v : Value} (h : chk mi (pc, i, nx, tg, x, y, v) = true) (ht : isTS i = false) :
    decode (mc mi) pc = .ok (i, ilen i) ∧ nx = pc + ilen i ∧ chk1 mi pc i tg x y v = true := by
  simp only [chk, ht, cond_false, Bool.and_eq_true, decide_eq_true_eq] at h
  exact ⟨h.1.1, Nat.eq_of_beq_eq_true h.1.2, h.2⟩
theorem beqE {a b : Nat} (h : Nat.beq a b = true) : a = b := Nat.eq_of_beq_eq_true h
theorem good_of {s : State} {args : Array Value} {w : Cond} (hts : ∀ w ∈ lw_good, w.before args s = true) (h : w ∈ lw_tbl) (g : goodWord w = true) : w.before args s = true := hts _ (good_in h g)
section SND1
variable {p : Program} {l : Launch} {e : Env} {R : Room} {s : State} {m : MethodId} {args : Array Value} {below : List Frame} {meth : Method} {c : Code} {H : Heap} {locs : List Loc} {cells slots : Nat} {Q : State → Prop}
variable {mi pc pc' : Nat} {A : Array Slot} {ls st ls' st' : List Value}
theorem ps_sound {q : En} (hx : p.tables.exec = Jvm.exec) (hb : c.code = mc mi) (hc : chk mi (pc, q) = true) (hown : s.vm.findClass (ownS (mt mi).1) = some m.cls) (hts : ∀ w ∈ lw_good, w.before args s = true)
    (hp : ps q ls st = some (pc', ls', st')) (hl : LR A ls) (k : ∀ A', LR A' ls' → W p l e R s m args below meth c H locs cells slots Q (F0 m pc' A' st')) : W p l e R s m args below meth c H locs cells slots Q (F0 m pc A st) := by
  obtain ⟨i, nx, tg, x, y, v⟩ := q
  cases i
  case aconst_null =>
    obtain ⟨hd, rfl, -⟩ := chk_dec hc rfl
    simp only [ps, Option.some.injEq, Prod.mk.injEq] at hp
    obtain ⟨rfl, rfl, rfl⟩ := hp
    exact lv_null hx hb hd (k A hl)
  case iconst n =>
    obtain ⟨hd, rfl, h1⟩ := chk_dec hc rfl
    simp only [ps, Option.some.injEq, Prod.mk.injEq] at hp
    obtain ⟨rfl, rfl, rfl⟩ := hp
    simp only [chk1, decide_eq_true_eq] at h1
    subst h1
    exact lv_iconst hx hb hd rfl (k A hl)
  case bipush n =>
    obtain ⟨hd, rfl, h1⟩ := chk_dec hc rfl
    simp only [ps, Option.some.injEq, Prod.mk.injEq] at hp
    obtain ⟨rfl, rfl, rfl⟩ := hp
    simp only [chk1, decide_eq_true_eq] at h1
    subst h1
    exact lv_bipush hx hb hd rfl (k A hl)
  case sipush n =>
    obtain ⟨hd, rfl, h1⟩ := chk_dec hc rfl
    simp only [ps, Option.some.injEq, Prod.mk.injEq] at hp
    obtain ⟨rfl, rfl, rfl⟩ := hp
    simp only [chk1, decide_eq_true_eq] at h1
    subst h1
    exact lv_sipush hx hb hd rfl (k A hl)
  case lconst n =>
    obtain ⟨hd, rfl, h1⟩ := chk_dec hc rfl
    simp only [ps, Option.some.injEq, Prod.mk.injEq] at hp
    obtain ⟨rfl, rfl, rfl⟩ := hp
    simp only [chk1, decide_eq_true_eq] at h1
    subst h1
    exact lv_lconst hx hb hd rfl (k A hl)
  case ldc idx =>
    obtain ⟨hd, rfl, h1⟩ := chk_dec hc rfl
    simp only [ps, Option.some.injEq, Prod.mk.injEq] at hp
    obtain ⟨rfl, rfl, rfl⟩ := hp
    simp only [chk1] at h1
    split at h1
    · exact lv_ldc hx hb hown (good_of hts (KIs_mem _ h1) rfl) hd (k A hl)
    · cases h1
  case ldc_w idx =>
    obtain ⟨hd, rfl, h1⟩ := chk_dec hc rfl
    simp only [ps, Option.some.injEq, Prod.mk.injEq] at hp
    obtain ⟨rfl, rfl, rfl⟩ := hp
    simp only [chk1] at h1
    split at h1
    · exact lv_ldcw hx hb hown (good_of hts (KIs_mem _ h1) rfl) hd (k A hl)
    · cases h1
  case ldc2_w idx =>
    obtain ⟨hd, rfl, h1⟩ := chk_dec hc rfl
    simp only [ps, Option.some.injEq, Prod.mk.injEq] at hp
    obtain ⟨rfl, rfl, rfl⟩ := hp
    simp only [chk1] at h1
    split at h1
    · exact lv_ldc2 hx hb hown (good_of hts (KLs_mem _ h1) rfl) hd (k A hl)
    · cases h1
  case iload n =>
    obtain ⟨hd, rfl, h1⟩ := chk_dec hc rfl
    cases beqE h1
    simp only [ps, ldI] at hp
    split at hp
    · rename_i z hz
      cases hp
      exact lv_iload hx hb hd (hl.2.2 _ _ hz (fun _ h => by cases h)) (k A hl)
    · cases hp
  case iload_n n =>
    obtain ⟨hd, rfl, h1⟩ := chk_dec hc rfl
    cases beqE h1
    simp only [ps, ldI] at hp
    split at hp
    · rename_i z hz
      cases hp
      exact lv_iload_n hx hb hd rfl (hl.2.2 _ _ hz (fun _ h => by cases h)) (k A hl)
    · cases hp
  case lload n =>
    obtain ⟨hd, rfl, h1⟩ := chk_dec hc rfl
    cases beqE h1
    simp only [ps, ldL] at hp
    split at hp
    · rename_i z hz
      cases hp
      exact lv_lload hx hb hd (hl.2.2 _ _ hz (fun _ h => by cases h)) (k A hl)
    · cases hp
  case lload_n n =>
    obtain ⟨hd, rfl, h1⟩ := chk_dec hc rfl
    cases beqE h1
    simp only [ps, ldL] at hp
    split at hp
    · rename_i z hz
      cases hp
      exact lv_lload_n hx hb hd rfl (hl.2.2 _ _ hz (fun _ h => by cases h)) (k A hl)
    · cases hp
  case aload n =>
    obtain ⟨hd, rfl, h1⟩ := chk_dec hc rfl
    cases beqE h1
    simp only [ps, ldA] at hp
    split at hp
    · rename_i z hz
      cases hp
      exact lv_aload hx hb hd (hl.2.2 _ _ hz (fun _ h => by cases h)) (k A hl)
    · rename_i hz
      cases hp
      exact lv_aloadN hx hb hd (hl.2.2 _ _ hz (fun _ h => by cases h)) (k A hl)
    · cases hp
  case aload_n n =>
    obtain ⟨hd, rfl, h1⟩ := chk_dec hc rfl
    cases beqE h1
    simp only [ps, ldA] at hp
    split at hp
    · rename_i z hz
      cases hp
      exact lv_aload_n hx hb hd rfl (hl.2.2 _ _ hz (fun _ h => by cases h)) (k A hl)
    · rename_i hz
      cases hp
      exact lv_aload_nN hx hb hd rfl (hl.2.2 _ _ hz (fun _ h => by cases h)) (k A hl)
    · cases hp
  case istore n =>
    obtain ⟨hd, rfl, h1⟩ := chk_dec hc rfl
    cases beqE h1
    simp only [ps, stI] at hp
    split at hp
    · cases ho : okst ls x with
      | false => rw [ho] at hp; cases hp
      | true =>
        rw [ho] at hp
        cases hp
        exact lv_istore hx hb hd hl.has (okst_lt ho) rfl (fun A' h' => k A' (LR.st ho h'))
    · cases hp
  case istore_n n =>
    obtain ⟨hd, rfl, h1⟩ := chk_dec hc rfl
    cases beqE h1
    simp only [ps, stI] at hp
    split at hp
    · cases ho : okst ls n.val with
      | false => rw [ho] at hp; cases hp
      | true =>
        rw [ho] at hp
        cases hp
        exact lv_istore_n hx hb hd rfl hl.has (okst_lt ho) rfl (fun A' h' => k A' (LR.st ho h'))
    · cases hp
  case astore n =>
    obtain ⟨hd, rfl, h1⟩ := chk_dec hc rfl
    cases beqE h1
    simp only [ps, stA] at hp
    split at hp
    · cases ho : okst ls x with
      | false => rw [ho] at hp; cases hp
      | true =>
        rw [ho] at hp
        cases hp
        exact lv_astore hx hb hd hl.has (okst_lt ho) rfl (fun A' h' => k A' (LR.st ho h'))
    · cases ho : okst ls x with
      | false => rw [ho] at hp; cases hp
      | true =>
        rw [ho] at hp
        cases hp
        exact lv_astoreN hx hb hd hl.has (okst_lt ho) rfl (fun A' h' => k A' (LR.st ho h'))
    · cases hp
  case astore_n n =>
    obtain ⟨hd, rfl, h1⟩ := chk_dec hc rfl
    cases beqE h1
    simp only [ps, stA] at hp
    split at hp
    · cases ho : okst ls n.val with
      | false => rw [ho] at hp; cases hp
      | true =>
        rw [ho] at hp
        cases hp
        exact lv_astore_n hx hb hd rfl hl.has (okst_lt ho) rfl (fun A' h' => k A' (LR.st ho h'))
    · cases ho : okst ls n.val with
      | false => rw [ho] at hp; cases hp
      | true =>
        rw [ho] at hp
        cases hp
        exact lv_astore_nN hx hb hd rfl hl.has (okst_lt ho) rfl (fun A' h' => k A' (LR.st ho h'))
    · cases hp
  case iinc n d =>
    obtain ⟨hd, rfl, h1⟩ := chk_dec hc rfl
    simp only [chk1, Bool.and_eq_true, decide_eq_true_eq] at h1
    obtain ⟨h1, rfl⟩ := h1
    cases beqE h1
    simp only [ps, incI] at hp
    split at hp
    · rename_i c0 z hc0 hz
      cases hc0
      cases ho : okst ls x with
      | false => rw [ho] at hp; cases hp
      | true =>
        rw [ho] at hp
        cases hp
        obtain ⟨kk, hkk⟩ := List.getElem?_of_mem (tl_in ls 0 x _ hz (fun _ h => by cases h))
        rw [Nat.zero_add] at hkk
        exact lv_iinc hx hb hd hl.has hkk rfl (okst_lt ho) rfl (fun A' h' => k A' (LR.st ho h'))
    · cases hp
  case iadd =>
    obtain ⟨hd, rfl, -⟩ := chk_dec hc rfl
    obtain ⟨a, b, r, rfl, rfl, rfl, rfl⟩ := op2_inv ((opAdd_eq _ _ _).symm.trans hp)
    exact lv_iadd hx hb hd (k A hl)
  case isub =>
    obtain ⟨hd, rfl, -⟩ := chk_dec hc rfl
    obtain ⟨a, b, r, rfl, rfl, rfl, rfl⟩ := op2_inv ((opSub_eq _ _ _).symm.trans hp)
    exact lv_isub hx hb hd (k A hl)
  case imul =>
    obtain ⟨hd, rfl, -⟩ := chk_dec hc rfl
    obtain ⟨a, b, r, rfl, rfl, rfl, rfl⟩ := op2_inv ((opMul_eq _ _ _).symm.trans hp)
    exact lv_imul hx hb hd (k A hl)
  case iand =>
    obtain ⟨hd, rfl, -⟩ := chk_dec hc rfl
    obtain ⟨a, b, r, rfl, rfl, rfl, rfl⟩ := op2_inv ((opAnd_eq _ _ _).symm.trans hp)
    exact lv_iand hx hb hd (k A hl)
  case ior =>
    obtain ⟨hd, rfl, -⟩ := chk_dec hc rfl
    obtain ⟨a, b, r, rfl, rfl, rfl, rfl⟩ := op2_inv ((opOr_eq _ _ _).symm.trans hp)
    exact lv_ior hx hb hd (k A hl)
  case ixor =>
    obtain ⟨hd, rfl, -⟩ := chk_dec hc rfl
    obtain ⟨a, b, r, rfl, rfl, rfl, rfl⟩ := op2_inv ((opXor_eq _ _ _).symm.trans hp)
    exact lv_ixor hx hb hd (k A hl)
  case ishl =>
    obtain ⟨hd, rfl, -⟩ := chk_dec hc rfl
    obtain ⟨a, b, r, rfl, rfl, rfl, rfl⟩ := op2_inv ((opIShl_eq _ _ _).symm.trans hp)
    exact lv_ishl hx hb hd (k A hl)
  case ishr =>
    obtain ⟨hd, rfl, -⟩ := chk_dec hc rfl
    obtain ⟨a, b, r, rfl, rfl, rfl, rfl⟩ := op2_inv ((opIShr_eq _ _ _).symm.trans hp)
    exact lv_ishr hx hb hd (k A hl)
  case iushr =>
    obtain ⟨hd, rfl, -⟩ := chk_dec hc rfl
    obtain ⟨a, b, r, rfl, rfl, rfl, rfl⟩ := op2_inv ((opIUshr_eq _ _ _).symm.trans hp)
    exact lv_iushr hx hb hd rfl (k A hl)
  case ineg =>
    obtain ⟨hd, rfl, -⟩ := chk_dec hc rfl
    obtain ⟨a, r, rfl, rfl, rfl, rfl⟩ := op1_inv ((opNeg_eq _ _ _).symm.trans hp)
    exact lv_ineg hx hb hd (k A hl)
  case i2b =>
    obtain ⟨hd, rfl, -⟩ := chk_dec hc rfl
    obtain ⟨a, r, rfl, rfl, rfl, rfl⟩ := op1_inv ((opI2b_eq _ _ _).symm.trans hp)
    exact lv_i2b hx hb hd rfl (k A hl)
  case i2s =>
    obtain ⟨hd, rfl, -⟩ := chk_dec hc rfl
    obtain ⟨a, r, rfl, rfl, rfl, rfl⟩ := op1_inv ((opI2s_eq _ _ _).symm.trans hp)
    exact lv_i2s hx hb hd rfl (k A hl)
  case i2l =>
    obtain ⟨hd, rfl, -⟩ := chk_dec hc rfl
    simp only [ps, opI2L] at hp
    split at hp
    · cases hp
      exact lv_i2l hx hb hd rfl (k A hl)
    · cases hp
  case l2i =>
    obtain ⟨hd, rfl, -⟩ := chk_dec hc rfl
    simp only [ps, opL2I] at hp
    split at hp
    · cases hp
      exact lv_l2i hx hb hd rfl (k A hl)
    · cases hp
  case land =>
    obtain ⟨hd, rfl, -⟩ := chk_dec hc rfl
    obtain ⟨a, b, r, rfl, rfl, rfl, rfl⟩ := op2L_inv ((opLand_eq _ _ _).symm.trans hp)
    exact lv_land hx hb hd (k A hl)
  case lor =>
    obtain ⟨hd, rfl, -⟩ := chk_dec hc rfl
    obtain ⟨a, b, r, rfl, rfl, rfl, rfl⟩ := op2L_inv ((opLor_eq _ _ _).symm.trans hp)
    exact lv_lor hx hb hd (k A hl)
  case lshl =>
    obtain ⟨hd, rfl, -⟩ := chk_dec hc rfl
    simp only [ps, opShl] at hp
    split at hp
    · cases hp
      exact lv_lshl hx hb hd rfl (k A hl)
    · cases hp
  case lcmp =>
    obtain ⟨hd, rfl, -⟩ := chk_dec hc rfl
    simp only [ps, opCmp] at hp
    split at hp
    · cases hp
      exact W.lcmp hx hb hd (k A hl)
    · cases hp
  case dup =>
    obtain ⟨hd, rfl, -⟩ := chk_dec hc rfl
    simp only [ps, opDup] at hp
    split at hp
    · rename_i a r
      cases ho : c1 a with
      | false => rw [ho] at hp; cases hp
      | true =>
        rw [ho] at hp
        cases hp
        exact lv_dup hx hb hd (c1_cat ho) (k A hl)
    · cases hp
  case dup2 =>
    obtain ⟨hd, rfl, -⟩ := chk_dec hc rfl
    simp only [ps, opDup2] at hp
    split at hp
    · rename_i a b r
      cases ho : (c1 a && c1 b) with
      | false => rw [ho] at hp; cases hp
      | true =>
        rw [ho] at hp
        cases hp
        rw [Bool.and_eq_true] at ho
        exact lv_dup2_11 hx hb hd (c1_cat ho.1) (c1_cat ho.2) (k A hl)
    · cases hp
  case pop =>
    obtain ⟨hd, rfl, -⟩ := chk_dec hc rfl
    simp only [ps, opPop] at hp
    split at hp
    · rename_i a r
      cases ho : c1 a with
      | false => rw [ho] at hp; cases hp
      | true =>
        rw [ho] at hp
        cases hp
        exact lv_pop hx hb hd (c1_cat ho) (k A hl)
    · cases hp
  case goto off =>
    obtain ⟨hd, rfl, h1⟩ := chk_dec hc rfl
    simp only [ps, Option.some.injEq, Prod.mk.injEq] at hp
    obtain ⟨rfl, rfl, rfl⟩ := hp
    simp only [chk1, toff, decide_eq_true_eq] at h1
    exact lv_goto hx hb hd h1 (k A hl)
  all_goals (simp only [ps] at hp; cases hp)
theorem br_sound {q : En} {b : Bool} {r : List Value} (hx : p.tables.exec = Jvm.exec) (hb : c.code = mc mi) (hc : chk mi (pc, q) = true)
    (hp : br q st = some (b, r)) (k : W p l e R s m args below meth c H locs cells slots Q (F0 m (bif b then q.2.2.1 else q.2.1) A r)) : W p l e R s m args below meth c H locs cells slots Q (F0 m pc A st) := by
  obtain ⟨i, nx, tg, x, y, v⟩ := q
  cases i
  case if_icmp cc off =>
    obtain ⟨hd, rfl, h1⟩ := chk_dec hc rfl
    simp only [chk1, toff, decide_eq_true_eq] at h1
    simp only [br] at hp
    split at hp
    · rename_i y x r
      cases hp
      cases cc
      · exact lv_icmp_eq hx hb hd h1 (fun g => by simpa only [icmp, decide_eq_true g, cond_true] using k) (fun g => by simpa only [icmp, decide_eq_false g, cond_false, ilen] using k)
      · exact lv_icmp_ne hx hb hd h1 (fun g => by simpa only [icmp, decide_eq_false g, Bool.not_false, cond_true] using k) (fun g => by simpa only [icmp, decide_eq_true g, Bool.not_true, cond_false, ilen] using k)
      · exact lv_icmp_lt hx hb hd h1 (fun g => by simpa only [icmp, decide_eq_true g, cond_true] using k) (fun g => by simpa only [icmp, decide_eq_false g, cond_false, ilen] using k)
      · exact lv_icmp_ge hx hb hd h1 (fun g => by simpa only [icmp, decide_eq_true g, cond_true] using k) (fun g => by simpa only [icmp, decide_eq_false g, cond_false, ilen] using k)
      · exact lv_icmp_gt hx hb hd h1 (fun g => by simpa only [icmp, decide_eq_true g, cond_true] using k) (fun g => by simpa only [icmp, decide_eq_false g, cond_false, ilen] using k)
      · exact lv_icmp_le hx hb hd h1 (fun g => by simpa only [icmp, decide_eq_true g, cond_true] using k) (fun g => by simpa only [icmp, decide_eq_false g, cond_false, ilen] using k)
    · cases hp
  case ifCond cc off =>
    obtain ⟨hd, rfl, h1⟩ := chk_dec hc rfl
    simp only [chk1, toff, decide_eq_true_eq] at h1
    simp only [br] at hp
    split at hp
    · rename_i x r
      cases hp
      cases cc
      · exact lv_if_eq hx hb hd h1 (fun g => by simpa only [icmp, decide_eq_true g, cond_true] using k) (fun g => by simpa only [icmp, decide_eq_false g, cond_false, ilen] using k)
      · exact lv_if_ne hx hb hd h1 (fun g => by simpa only [icmp, decide_eq_false g, Bool.not_false, cond_true] using k) (fun g => by simpa only [icmp, decide_eq_true g, Bool.not_true, cond_false, ilen] using k)
      · exact lv_if_lt hx hb hd h1 (fun g => by simpa only [icmp, decide_eq_true g, cond_true] using k) (fun g => by simpa only [icmp, decide_eq_false g, cond_false, ilen] using k)
      · exact lv_if_ge hx hb hd h1 (fun g => by simpa only [icmp, decide_eq_true g, cond_true] using k) (fun g => by simpa only [icmp, decide_eq_false g, cond_false, ilen] using k)
      · exact lv_if_gt hx hb hd h1 (fun g => by simpa only [icmp, decide_eq_true g, cond_true] using k) (fun g => by simpa only [icmp, decide_eq_false g, cond_false, ilen] using k)
      · exact lv_if_le hx hb hd h1 (fun g => by simpa only [icmp, decide_eq_true g, cond_true] using k) (fun g => by simpa only [icmp, decide_eq_false g, cond_false, ilen] using k)
    · cases hp
  case ifnull off =>
    obtain ⟨hd, rfl, h1⟩ := chk_dec hc rfl
    simp only [chk1, toff, decide_eq_true_eq] at h1
    simp only [br] at hp
    split at hp
    · cases hp
      exact lv_ifnullN hx hb hd h1 k
    · cases hp
      exact lv_ifnull hx hb hd k
    · cases hp
  case ifnonnull off =>
    obtain ⟨hd, rfl, h1⟩ := chk_dec hc rfl
    simp only [chk1, toff, decide_eq_true_eq] at h1
    simp only [br] at hp
    split at hp
    · cases hp
      exact lv_ifnonnullN hx hb hd k
    · cases hp
      exact lv_ifnonnull hx hb hd h1 k
    · cases hp
  all_goals (simp only [br] at hp; cases hp)
theorem sw_sound {q : En} {r : List Value} (hx : p.tables.exec = Jvm.exec) (hb : c.code = mc mi) (hc : chk mi (pc, q) = true)
    (hp : sw pc q st = some (pc', r)) (k : W p l e R s m args below meth c H locs cells slots Q (F0 m pc' A r)) : W p l e R s m args below meth c H locs cells slots Q (F0 m pc A st) := by
  obtain ⟨i, nx, tg, x, y, v⟩ := q
  cases i
  case tableswitch d lo hi offs =>
    simp only [chk, isTS, cond_true, Bool.and_eq_true, decide_eq_true_eq] at hc
    obtain ⟨hd, h1⟩ := hc
    simp only [chk1, Bool.and_eq_true, decide_eq_true_eq] at h1
    obtain ⟨⟨h1, h2⟩, h3⟩ := h1
    simp only [sw] at hp
    split at hp
    · rename_i x r
      cases hp
      by_cases hr : x.toInt < lo ∨ hi < x.toInt
      · refine lv_tableOut hx hb hd hr (tgt := ((pc : Int) + d).toNat) (by omega) ?_
        simpa only [swt, if_pos hr] using k
      · have hlt : (x.toInt - lo).toNat < offs.size := by omega
        have ho : offs[(x.toInt - lo).toNat]? = some offs[(x.toInt - lo).toNat] := Array.getElem?_eq_getElem hlt
        have h4 : 0 ≤ (pc : Int) + offs[(x.toInt - lo).toNat] := by
          have := Array.all_eq_true.mp h2 _ hlt
          simpa using this
        refine lv_tableIn hx hb hd (by omega) (by omega) ho (tgt := ((pc : Int) + offs[(x.toInt - lo).toNat]).toNat) (by omega) ?_
        simpa only [swt, if_neg hr, Array.getD_eq_getD_getElem?, ho, Option.getD_some] using k
    · cases hp
  all_goals (simp only [sw] at hp; cases hp)
end SND1
