/-! THE REFERENCE: drains, drained, until, doomed. -/
/-- the order in which all would go -/
def drA (ms : List Ma) : Nat → List La → List Nat
  | 0, _ => []
  | f + 1, L => match nxA ms L L.length with
    | none => []
    | some i => l_m (L.getD i (0, 0, 0, 0, [])) :: drA ms f (L.eraseIdx i)
def drQ (A : Ab) (x : Qa) : List Nat := drA (a_m A) (q_ls x).length (q_ls x)
def fDrained (A : Ab) (q i : Int32) : Rs := match ixN q (a_q A).length with
  | none => .inl 0
  | some j => match (a_q A)[j]? with
    | none => .inl 0
    | some x => match ixN i (drQ A x).length with
      | none => .inr (-1, A)
      | some n => match (drQ A x)[n]? with
        | none => .inl 0
        | some m => .inr (nI m, A)
def nxQ (A : Ab) (q : Nat) : Option Nat := match (a_q A)[q]? with
  | none => none
  | some x => nxA (a_m A) (q_ls x) (q_ls x).length
def unA (q : Nat) : Nat → Ab → Option Nat
  | 0, _ => none
  | d + 1, A => match nxQ A q with
    | some _ => some 0
    | none => match unA q d (tickA A).1 with
      | none => none
      | some n => some (n + 1)
def fUntil (A : Ab) (q : Int32) : Rs := match ixN q (a_q A).length with
  | none => .inl 0
  | some j => .inr (oI (unA j 100 A), A)
def fDoomed (A : Ab) (n : Int32) : Rs := match ixN n 100 with
  | none => .inl 0
  | some j => .inr (nI (passA j A).2, A)
theorem drA_len (ms : List Ma) : ∀ (f : Nat) (L : List La), (drA ms f L).length ≤ f
  | 0, _ => Nat.le_refl 0
  | f + 1, L => by
    unfold drA
    split
    · exact Nat.zero_le _
    · exact Nat.succ_le_succ (drA_len ms f _)
/-- the row of the thought is 0 behind its end -/
def WZ (M : Mm) (r : Nat) : Prop := ∀ z, 7919 ≤ z → mI M (r + 2) z = 0
/-- memory that differs in rows for thoughts alone -/
def SC (r : Nat) (M M' : Mm) : Prop := M'.1 = M.1 ∧ mL M' = mL M ∧ mR M' = mR M ∧ mN M' = mN M ∧ mU M' = mU M ∧
  (∀ a, a ≠ r → a ≠ r + 1 → a ≠ r + 2 → a ≠ r + 7 → a ≠ r + 8 → mI M' a = mI M a) ∧ (∀ k, k ≠ 8 → k ≠ 10 → k ≠ 12 → mI M' r k = mI M r k) ∧ (WZ M r → WZ M' r)
theorem SC.refl (r : Nat) (M : Mm) : SC r M M := ⟨rfl, rfl, rfl, rfl, rfl, fun _ _ _ _ _ _ => rfl, fun _ _ _ _ => rfl, fun h => h⟩
theorem SC.trans {r : Nat} {M1 M2 M3 : Mm} (h1 : SC r M1 M2) (h2 : SC r M2 M3) : SC r M1 M3 := by
  obtain ⟨a1, a2, a3, a4, a5, a6, a7, a8⟩ := h1
  obtain ⟨b1, b2, b3, b4, b5, b6, b7, b8⟩ := h2
  exact ⟨b1.trans a1, b2.trans a2, b3.trans a3, b4.trans a4, b5.trans a5, fun a c1 c2 c3 c4 c5 => (b6 a c1 c2 c3 c4 c5).trans (a6 a c1 c2 c3 c4 c5), fun k c1 c2 c3 => (b7 k c1 c2 c3).trans (a7 k c1 c2 c3), fun h => b8 (a8 h)⟩
theorem SC.T {r : Nat} {M M' : Mm} (h : SC r M M') : mT M' = mT M ∧ mS M' = mS M := by
  have := h.1
  unfold mT mS
  rw [this]
  exact ⟨rfl, rfl⟩
theorem SC.rs {r : Nat} {M M' : Mm} (h : SC r M M') (hS : RS M r) : RS M' r := by
  obtain ⟨e1, e2⟩ := h.T
  unfold RS
  rw [e1, e2, h.2.2.1]
  exact hS
theorem SC.ws {r : Nat} {M M' : Mm} (h : SC r M M') (hW : WS M r) : WS M' r := by
  intro k hk
  rw [h.2.2.2.2.2.1 (r + 5) (by omega) (by omega) (by omega) (by omega) (by omega)]
  exact hW k hk
theorem SC.w2 {r : Nat} {M : Mm} {f : Nat → Int32} (hf : ∀ z, 7919 ≤ z → f z = 0) : SC r M (wI M (r + 2) f) := by
  refine ⟨rfl, rfl, rfl, rfl, rfl, fun a _ _ h2 _ _ => mI_oth _ _ h2, fun k _ _ _ => by rw [mI_oth _ _ (by omega)], fun _ => ?_⟩
  intro z hz
  rw [mI_same]
  exact hf z hz
theorem SC.w8 {r : Nat} {M : Mm} {k : Nat} {z : Int32} : SC r M (sI M (r + 8) k z) := by
  rw [sI_wI]
  refine ⟨rfl, rfl, rfl, rfl, rfl, fun a _ _ _ _ h2 => mI_oth _ _ h2, fun k _ _ _ => by rw [mI_oth _ _ (by omega)], fun h y hy => ?_⟩
  rw [mI_oth _ _ (by omega)]
  exact h y hy
theorem SC.w0 {r : Nat} {M : Mm} {k : Nat} {z : Int32} (hk : k = 8 ∨ k = 10 ∨ k = 12) : SC r M (sI M r k z) := by
  rw [sI_wI]
  refine ⟨rfl, rfl, rfl, rfl, rfl, fun a h2 _ _ _ _ => mI_oth _ _ h2, fun j _ _ _ => by rw [mI_same, upd, if_neg (by omega)], fun h y hy => ?_⟩
  rw [mI_oth _ _ (by omega)]
  exact h y hy
section PUB14
variable {E : Nat × Nat} {M : Mm} {r T : Nat} {g : Nat → Int32} {A : Ab} {Q : Option Value → Mm → Prop} {q c i m : Nat} {x y : Qa} {k : Co} {l : La}
theorem c_nextA (hS : RS M r) (h : Rep g A) (w : Wf T A) (hx : (a_q A)[q]? = some x) (k1 : nxA (a_m A) (q_ls x) (q_ls x).length = none → Q (some (.int (-1))) (wI M (r + 1) g)) (k2 : ∀ (i : Nat) (l : La), nxA (a_m A) (q_ls x) (q_ls x).length = some i → i < (q_ls x).length → (q_ls x)[i]? = some l → Q (some (.int (nI i))) (wI M (r + 1) g)) : J E 195 0 [.ref r, .int (nI q), U0, U0] [] (wI M (r + 1) g) Q := by
  have q8 : q < 8 := Nat.lt_of_lt_of_le (li hx) h.1.1
  have hQ := h.1.2.2 q x hx
  have en := h.nx w hx (q_ls x).length (Nat.le_refl _)
  refine c_nextOf hS q8 hQ.2.2.2.2.1 (h.LM w hx) hQ.2.2.2.2.2.1 ?_
  rw [en]
  cases hi : nxA (a_m A) (q_ls x) (q_ls x).length with
  | none => exact k1 hi
  | some i =>
    obtain ⟨i1, i2⟩ := nxA_lt _ _ _ _ hi
    obtain ⟨l, hl⟩ := get_of i1
    exact k2 i l hi i1 hl
/-- into the thought, and back -/
theorem c_copyTo (hS : RS M r) (hz : WZ M r) (h : Rep g A) (k : Q none (wI (wI M (r + 2) g) (r + 1) g)) : J E 161 0 [.ref (r + 1), .ref (r + 2), U0] [] (wI M (r + 1) g) Q := by
  refine c_copies (f0 := g) (h0 := mI M (r + 2)) (hS.w (r + 1) g).t1 (hS.w (r + 1) g).l1 (hS.w (r + 1) g).t2 (hS.w (r + 1) g).l2 (by omega) (mI_same _ _ _) (mI_oth _ _ (by omega)) h.2.2.2.2.2.2.2 hz ?_
  rw [wI_com _ _ _ (by omega)]
  exact k
theorem c_copyBack {f : Nat → Int32} (hS : RS M r) (hf : mI M (r + 2) = f) (zf : ∀ z, 7919 ≤ z → f z = 0) (zg : ∀ z, 7919 ≤ z → g z = 0) (k : Q none (wI M (r + 1) f)) : J E 161 0 [.ref (r + 2), .ref (r + 1), U0] [] (wI M (r + 1) g) Q := by
  refine c_copies (f0 := f) (h0 := g) (hS.w (r + 1) g).t2 (hS.w (r + 1) g).l2 (hS.w (r + 1) g).t1 (hS.w (r + 1) g).l1 (by omega) (by rw [mI_oth _ _ (by omega)]; exact hf) (mI_same _ _ _) zf zg ?_
  rw [wI_wI]
  exact k
theorem c_drain_l {f0 : Nat → Int32} : ∀ (f : Nat) (M : Mm) (A : Ab) (g : Nat → Int32) (x : Qa) (pre : List Nat), RS M r → mI M (r + 2) = f0 → Rep g A → Wf T A → (a_q A)[q]? = some x → (q_ls x).length = f → pre.length + f ≤ 20 → mI M r 12 = nI pre.length → (∀ k m, pre[k]? = some m → mI M (r + 8) k = nI m) →
    (∀ (M' : Mm) (g' : Nat → Int32) (x2 : Value), SC r M M' → mI M' (r + 2) = f0 → (∀ z, 7919 ≤ z → g' z = 0) → mI M' r 12 = nI (pre ++ drA (a_m A) f (q_ls x)).length → (∀ k m, (pre ++ drA (a_m A) f (q_ls x))[k]? = some m → mI M' (r + 8) k = nI m) → J E 230 67 [.ref r, .int (nI q), x2] [] (wI M' (r + 1) g') Q) →
    J E 230 22 [.ref r, .int (nI q), .int (oI (nxA (a_m A) (q_ls x) (q_ls x).length))] [] (wI M (r + 1) g) Q
  | f, M, A, g, x, pre, hS, hf0, h, w, hx, hf, h20, h12, hp, kk => by
    have q8 : q < 8 := Nat.lt_of_lt_of_le (li hx) h.1.1
    have hQ := h.1.2.2 q x hx
    cases hi : nxA (a_m A) (q_ls x) (q_ls x).length with
    | none =>
      have e : drA (a_m A) f (q_ls x) = [] := by
        cases f with
        | zero => rfl
        | succ f => simp only [drA, hi]
      rw [e, List.append_nil] at kk
      refine J_p 1 (ls' := [_, _, _]) rfl ?_
      refine J_zlt rfl (fun _ => ?_) (fun b => absurd (by decide) b)
      exact kk M g _ (SC.refl r M) hf0 h.2.2.2.2.2.2.2 h12 hp
    | some i =>
      obtain ⟨i1, i2⟩ := nxA_lt _ _ _ _ hi
      obtain ⟨l, hl⟩ := get_of i1
      obtain ⟨n, hn⟩ : ∃ n, f = n + 1 := ⟨f - 1, by omega⟩
      subst hn
      have e : drA (a_m A) (n + 1) (q_ls x) = l_m l :: drA (a_m A) n ((q_ls x).eraseIdx i) := by simp only [drA, hi, getD_of hl]
      rw [e] at kk
      refine J_L (ls' := [.ref r, .int (nI q), .int (nI i)]) rfl ?_
      refine J_p 1 (ls' := [_, _, _]) rfl ?_
      refine J_zlt rfl (fun b => absurd b (nI_pos (by omega))) (fun _ => ?_)
      refine J_p 1 (ls' := [_, _, _]) rfl ?_
      refine J_getR rfl hS.t hS.f11 ?_
      refine J_p 1 (ls' := [_, _, _]) rfl ?_
      refine J_oget rfl hS.t ⟨by omega, h12⟩ ?_
      refine J_p 4 (ls' := [_, _, _]) rfl ?_
      refine J_call rfl rfl rfl (decide_eq_true hS.t) rfl (c_letterOf hS q i 0 (by omega) (h.letter hx hl).2.1 ?_)
      show J _ _ _ _ _ _ _
      refine J_ost (n := pre.length) rfl (by repeat' (first | with_reducible rfl | assumption | with_reducible refine nI_decE ?_ | with_reducible refine nI_addE ?_ ?_ | with_reducible refine nI_mulE ?_ ?_ | with_reducible refine nI_subE ?_ ?_ ?_ | omega | (with_reducible refine congrArg nI ?_; omega))) (by omega) hS.t8 hS.l8 (by omega) (by omega) ?_
      refine J_p 2 (ls' := [_, _, _]) rfl ?_
      refine J_oget rfl hS.t ⟨by omega, (show mI (sI M (r + 8) pre.length (nI (l_m l))) r 12 = nI pre.length from by rw [sI_wI, mI_oth _ _ (by omega)]; exact h12)⟩ ?_
      refine J_p 2 (ls' := [_, _, _]) rfl ?_
      refine J_oput rfl hS.t (Or.inl rfl) ?_
      rw [nI_add pre.length 1]
      have hS1 : RS (sI (sI M (r + 8) pre.length (nI (l_m l))) r 12 (nI (pre.length + 1))) r := hS
      have hl35 : g (3471 + 556 * q + 35) = nI (n + 1) := by rw [← hf]; exact hQ.2.2.2.2.2.1
      refine J_p 3 (ls' := [_, _, _]) rfl ?_
      refine J_call rfl rfl rfl (decide_eq_true hS1.t) rfl (c_goes hS1 (i := i) (n := n) q8 (by omega) (by omega) hl35 ?_)
      show J _ _ _ _ _ _ _
      have hg := h.go hx i1 hf
      have wg := w.er hx i1
      refine J_p 2 (ls' := [_, _, _]) rfl ?_
      have hx1 : (a_q (w_q A ((a_q A).set q (x_ls x ((q_ls x).eraseIdx i)))))[q]? = some (x_ls x ((q_ls x).eraseIdx i)) := set_get hx
      have q8' := hg.1.2.2 q _ hx1
      have en := hg.nx wg hx1 ((q_ls x).eraseIdx i).length (Nat.le_refl _)
      refine J_call rfl rfl rfl (decide_eq_true hS1.t) rfl (c_nextOf hS1 q8 q8'.2.2.2.2.1 (hg.LM wg hx1) q8'.2.2.2.2.2.1 ?_)
      show J _ _ _ _ _ _ _
      refine J_t0 (congrArg oI en) ?_
      refine J_p 2 (ls' := [_, _, _]) rfl ?_
      have hlen : ((q_ls x).eraseIdx i).length = n := by rw [List.length_eraseIdx_of_lt i1]; omega
      have hsc : SC r M (sI (sI M (r + 8) pre.length (nI (l_m l))) r 12 (nI (pre.length + 1))) := SC.w8.trans (SC.w0 (Or.inr (Or.inr rfl)))
      have e8 : ∀ k, mI (sI (sI M (r + 8) pre.length (nI (l_m l))) r 12 (nI (pre.length + 1))) (r + 8) k = if k = pre.length then nI (l_m l) else mI M (r + 8) k := fun k => by
        rw [sI_wI, mI_oth _ _ (by omega), sI_wI, mI_same]; rfl
      refine c_drain_l (f0 := f0) n _ (w_q A ((a_q A).set q (x_ls x ((q_ls x).eraseIdx i)))) _ (x_ls x ((q_ls x).eraseIdx i)) (pre ++ [l_m l]) hS1 ?_ hg wg hx1 hlen (by rw [List.length_append]; show pre.length + 1 + n ≤ 20; omega) ?_ (fun k m hk => ?_) (fun M' g' x2 hs' h2' hz' h12' hp' => ?_)
      · rw [sI_wI, mI_oth _ _ (by omega), sI_wI, mI_oth _ _ (by omega)]; exact hf0
      · rw [sI_wI, mI_same, upd, if_pos rfl, List.length_append]; rfl
      · rw [e8]
        rcases app_or hk with ⟨rfl, rfl⟩ | ⟨hlt, hk⟩
        · exact if_pos rfl
        · rw [if_neg (by omega)]; exact hp k m hk
      · have e3 : pre ++ [l_m l] ++ drA (a_m A) n ((q_ls x).eraseIdx i) = pre ++ l_m l :: drA (a_m A) n ((q_ls x).eraseIdx i) := by rw [List.append_assoc]; rfl
        have h12'' : mI M' r 12 = nI (pre ++ [l_m l] ++ drA (a_m A) n ((q_ls x).eraseIdx i)).length := h12'
        have hp'' : ∀ k m, (pre ++ [l_m l] ++ drA (a_m A) n ((q_ls x).eraseIdx i))[k]? = some m → mI M' (r + 8) k = nI m := hp'
        rw [e3] at h12'' hp''
        exact kk M' g' x2 (hsc.trans hs') h2' hz' h12'' hp''

theorem c_drainsA (hS : RS M r) (hz : WZ M r) (h : Rep g A) (w : Wf T A) (hx : (a_q A)[q]? = some x) (kk : ∀ M' : Mm, SC r M M' → mI M' r 12 = nI (drQ A x).length → (∀ k m, (drQ A x)[k]? = some m → mI M' (r + 8) k = nI m) → Q none (wI M' (r + 1) g)) : J E 230 0 [.ref r, .int (nI q), U0] [] (wI M (r + 1) g) Q := by
  have q8 : q < 8 := Nat.lt_of_lt_of_le (li hx) h.1.1
  have hQ := h.1.2.2 q x hx
  have n20 := hQ.2.2.2.2.1
  have hsc : SC r M (wI M (r + 2) g) := SC.w2 h.2.2.2.2.2.2.2
  have hS1 : RS (wI M (r + 2) g) r := hS
  refine J_p 1 (ls' := [_, _, _]) rfl ?_
  refine J_getR rfl hS.t hS.f0 ?_
  refine J_p 1 (ls' := [_, _, _]) rfl ?_
  refine J_getR rfl hS.t hS.f1 ?_
  refine J_call rfl rfl rfl rfl rfl (c_copyTo hS hz h ?_)
  show J _ _ _ _ _ _ _
  refine J_p 2 (ls' := [_, _, _]) rfl ?_
  refine J_oput rfl hS.t (Or.inl rfl) ?_
  refine J_p 2 (ls' := [_, _, _]) rfl ?_
  have en := h.nx w hx (q_ls x).length (Nat.le_refl _)
  refine J_call rfl rfl rfl (decide_eq_true hS.t) rfl (c_nextOf (show RS (sI (wI M (r + 2) g) r 12 (nI 0)) r from hS) q8 n20 (h.LM w hx) hQ.2.2.2.2.2.1 ?_)
  rw [en]
  show J _ _ _ _ _ _ _
  refine J_p 1 (ls' := [_, _, _]) rfl ?_
  have hs2 : SC r M (sI (wI M (r + 2) g) r 12 (nI 0)) := hsc.trans (SC.w0 (Or.inr (Or.inr rfl)))
  refine c_drain_l (E := E) (f0 := g) (q_ls x).length (sI (wI M (r + 2) g) r 12 (nI 0)) A g x [] hS (by rw [sI_wI, mI_oth _ _ (by omega), mI_same]) h w hx rfl (by show 0 + (q_ls x).length ≤ 20; omega) (by rw [sI_wI, mI_same, upd, if_pos rfl]; rfl) (fun k m hk => by cases hk) (fun M' g' x2 hs' h2' hz' h12' hp' => ?_)
  have hS3 : RS M' r := hs'.rs (hs2.rs hS)
  refine J_p 1 (ls' := [_, _, _]) rfl ?_
  refine J_getR rfl hS3.t hS3.f1 ?_
  refine J_p 1 (ls' := [_, _, _]) rfl ?_
  refine J_getR rfl hS3.t hS3.f0 ?_
  refine J_call rfl rfl rfl rfl rfl (c_copyBack hS3 h2' h.2.2.2.2.2.2.2 hz' ?_)
  show J _ _ _ _ _ _ _
  exact J_ret rfl rfl rfl (kk M' (hs2.trans hs') h12' hp')

theorem p_drained (hS : RS M r) (hW : WS M r) (hz : WZ M r) (h : Rep g A) (w : Wf T A) (hT : T + 100 < 2 ^ 20) (q i : Int32) (kR : ∀ (rw_ : Nat) (v_ : Int32), fDrained A q i = .inl rw_ → v_ = rfN rw_ → Q (some (.int v_)) (wI (rfM M r rw_) (r + 1) g)) (kO : ∀ (a : Int32), fDrained A q i = .inr (a, A) → ∀ M' : Mm, SC r M M' → Q (some (.int a)) (wI M' (r + 1) g)) : J E 231 0 [.ref r, .int q, .int i] [] (wI M (r + 1) g) Q := by
  refine J_p 2 (ls' := [_, _, _]) rfl ?_
  refine J_call rfl rfl rfl (decide_eq_true hS.t) rfl (c_isQ hS h q (fun j h2 l2 e2 => ?_) (fun h2 => ?_))
  · skip
    subst e2
    obtain ⟨xj, hxj⟩ := get_of l2
    have q8j : j < 8 := Nat.lt_of_lt_of_le l2 h.1.1
    have n20j := (h.1.2.2 j xj hxj).2.2.2.2.1
    have x20j := (h.1.2.2 j xj hxj).2.1.1
    have q35j := (h.1.2.2 j xj hxj).2.2.2.2.2.1
    show J _ _ _ _ _ _ _
    refine J_zne rfl (fun _ => ?_) (fun b => absurd b (by decide))
    refine J_p 2 (ls' := [_, _, _]) rfl ?_
    refine J_call rfl rfl rfl (decide_eq_true hS.t) rfl (c_drainsA hS hz h w hxj (fun M' hs' h12' hp' => ?_))
    have hS' := hs'.rs hS
    have d20 := drA_len (a_m A) (q_ls xj).length (q_ls xj)
    have hdl : (drQ A xj).length ≤ 20 := Nat.le_trans d20 n20j
    show J _ _ _ _ _ _ _
    refine J_p 4 (ls' := [_, _, _]) rfl ?_
    refine J_oget rfl hS'.t ⟨by omega, h12'⟩ ?_
    refine J_p 3 (ls' := [_, _, _]) rfl ?_
    refine J_call rfl rfl rfl rfl rfl (c_inX (x := i) (n := (drQ A xj).length) (by omega) (fun n h30 l30 e30 => ?_) (fun h30 => ?_))
    · skip
      subst e30
      obtain ⟨mm, hm⟩ := get_of l30
      show J _ _ _ _ _ _ _
      refine J_zeq rfl (fun b => absurd b (by decide)) (fun _ => ?_)
      refine J_p 1 (ls' := [_, _, _]) rfl ?_
      refine J_getR rfl hS'.t hS'.f11 ?_
      refine J_p 1 (ls' := [_, _, _]) rfl ?_
      refine J_old (n := n) rfl (by repeat' (first | with_reducible rfl | assumption | with_reducible refine nI_decE ?_ | with_reducible refine nI_addE ?_ ?_ | with_reducible refine nI_mulE ?_ ?_ | with_reducible refine nI_subE ?_ ?_ ?_ | omega | (with_reducible refine congrArg nI ?_; omega))) (by omega) hS'.t8 hS'.l8 (by omega) (by omega) (hp' n mm hm) ?_
      refine J_p 1 (ls' := [_, _, _]) rfl ?_
      exact J_ret rfl rfl rfl (kO _ (by simp only [fDrained, h2, hxj, h30, hm, if_true, if_false, reduceIte]) M' hs')
    · skip
      show J _ _ _ _ _ _ _
      refine J_zeq rfl (fun _ => ?_) (fun b => absurd rfl b)
      refine J_p 1 (ls' := [_, _, _]) rfl ?_
      exact J_ret rfl rfl rfl (kO _ (by simp only [fDrained, h2, hxj, h30, if_true, if_false, reduceIte]) M' hs')
  · skip
    show J _ _ _ _ _ _ _
    refine J_zne rfl (fun b => absurd rfl b) (fun _ => ?_)
    refine J_p 2 (ls' := [_, _, _]) rfl ?_
    refine J_call rfl rfl rfl (decide_eq_true hS.t) rfl (c_refused hS 0 (by decide) (by decide) ?_)
    show J _ _ _ _ _ _ _
    exact J_ret rfl rfl rfl (kR 0 _ (by simp only [fDrained, h2, if_true, if_false, reduceIte]) (by decide))

theorem unA_lt (q : Nat) : ∀ (d : Nat) (A : Ab) (n : Nat), unA q d A = some n → n < d
  | 0, _, _, h => by cases h
  | d + 1, A, n, h => by
    unfold unA at h
    split at h
    · cases h; omega
    · split at h
      · cases h
      · rename_i n' h'
        cases h
        have := unA_lt q d _ _ h'
        omega

theorem c_until_l (hS : RS M r) (hW : WS M r) {q : Nat} : ∀ (d n T : Nat) (A : Ab) (g : Nat → Int32) (x3 : Value), Rep g A → Wf T A → T + d < 2 ^ 20 → q < (a_q A).length → n + d = 100 →
    (∀ (g' : Nat → Int32) (n' : Nat) (x3 : Value), (∀ z, 7919 ≤ z → g' z = 0) → (unA q d A = none → n' = 100) → (∀ j, unA q d A = some j → n' = n + j) → n' ≤ 100 → J E 232 54 [.ref r, .int (nI q), .int (nI n'), x3] [] (wI M (r + 1) g') Q) →
    J E 232 28 [.ref r, .int (nI q), .int (nI n), x3] [] (wI M (r + 1) g) Q
  | 0, n, T, A, g, x3, h, w, hT, hq, hn, k => by
    refine J_p 2 (ls' := [_, _, _, _]) rfl ?_
    refine J_igt rfl (fun b => ?_) (fun b => absurd (show nI 99 < nI n from nI_lt (by omega) (by omega)) b)
    exact k g n x3 h.2.2.2.2.2.2.2 (fun _ => by omega) (fun j hj => by cases hj) (by omega)
  | d + 1, n, T, A, g, x3, h, w, hT, hq, hn, k => by
    obtain ⟨x, hx⟩ := get_of hq
    refine J_p 2 (ls' := [_, _, _, _]) rfl ?_
    refine J_igt rfl (fun b => absurd b (nI_nlt (by omega) (by omega))) (fun _ => ?_)
    refine J_p 2 (ls' := [_, _, _, _]) rfl ?_
    refine J_call rfl rfl rfl (decide_eq_true hS.t) rfl (c_nextA hS h w hx (fun hi => ?_) (fun i l hi i1 hl => ?_))
    · have en : nxQ A q = none := by unfold nxQ; rw [hx]; exact hi
      show J _ _ _ _ _ _ _
      refine J_zge rfl (fun b => absurd b (by decide)) (fun _ => ?_)
      refine J_p 2 (ls' := [_, _, _, _]) rfl ?_
      refine J_call rfl rfl rfl (decide_eq_true hS.t) rfl (c_passes hS hW (n := 1) (by omega) h w (by omega) (fun g' hr w' => ?_))
      show J _ _ _ _ _ _ _
      refine J_p 3 (ls' := [_, _, _, _]) rfl ?_
      rw [nI_add n 1]
      have hq' : q < (a_q (tickA A).1).length := by rw [show (a_q (tickA A).1).length = (a_q A).length from (tickQ_len (a_q A).length (w_n A (a_n A + 1)) 0).1]; exact hq
      refine c_until_l hS hW d (n + 1) (T + 1) (tickA A).1 g' _ hr w' (by omega) hq' (by omega) (fun g2 n2 y3 hz2 h1 h2 h3 => ?_)
      refine k g2 n2 y3 hz2 (fun hu => h1 ?_) (fun j hj => ?_) h3
      · simp only [unA, en] at hu
        cases hc : unA q d (tickA A).1 with
        | none => rfl
        | some m => rw [hc] at hu; cases hu
      · simp only [unA, en] at hj
        cases hc : unA q d (tickA A).1 with
        | none => rw [hc] at hj; cases hj
        | some m =>
          rw [hc] at hj
          cases hj
          have := h2 m hc
          omega
    · have en : nxQ A q = some i := by unfold nxQ; rw [hx]; exact hi
      have n20 := (h.1.2.2 q x hx).2.2.2.2.1
      show J _ _ _ _ _ _ _
      refine J_zge rfl (fun _ => ?_) (fun b => absurd (nI_pos' (by omega)) b)
      exact k g n x3 h.2.2.2.2.2.2.2 (fun hu => by simp only [unA, en] at hu; cases hu) (fun j hj => by simp only [unA, en] at hj; cases hj; rfl) (by omega)

theorem p_until (hS : RS M r) (hW : WS M r) (hz : WZ M r) (h : Rep g A) (w : Wf T A) (hT : T + 100 < 2 ^ 20) (q : Int32) (kR : ∀ (rw_ : Nat) (v_ : Int32), fUntil A q = .inl rw_ → v_ = rfN rw_ → Q (some (.int v_)) (wI (rfM M r rw_) (r + 1) g)) (kO : ∀ (a : Int32), fUntil A q = .inr (a, A) → ∀ M' : Mm, SC r M M' → Q (some (.int a)) (wI M' (r + 1) g)) : J E 232 0 [.ref r, .int q, U0, U0] [] (wI M (r + 1) g) Q := by
  have hsc : SC r M (wI M (r + 2) g) := SC.w2 h.2.2.2.2.2.2.2
  have hS1 : RS (wI M (r + 2) g) r := hS
  have hW1 := hsc.ws hW
  refine J_p 2 (ls' := [_, _, _, _]) rfl ?_
  refine J_call rfl rfl rfl (decide_eq_true hS.t) rfl (c_isQ hS h q (fun j h2q lq e2 => ?_) (fun h2q => ?_))
  · skip
    subst e2
    show J _ _ _ _ _ _ _
    refine J_zne rfl (fun _ => ?_) (fun b => absurd b (by decide))
    refine J_p 1 (ls' := [_, _, _, _]) rfl ?_
    refine J_getR rfl hS.t hS.f0 ?_
    refine J_p 1 (ls' := [_, _, _, _]) rfl ?_
    refine J_getR rfl hS.t hS.f1 ?_
    refine J_call rfl rfl rfl rfl rfl (c_copyTo hS hz h ?_)
    show J _ _ _ _ _ _ _
    refine J_p 2 (ls' := [_, _, _, _]) rfl ?_
    refine c_until_l (E := E) hS1 hW1 100 0 T A g _ h w hT lq rfl (fun g' n' x3 hz' h1 h2 h3 => ?_)
    refine J_p 1 (ls' := [_, _, _, _]) rfl ?_
    refine J_getR rfl hS1.t hS1.f1 ?_
    refine J_p 1 (ls' := [_, _, _, _]) rfl ?_
    refine J_getR rfl hS1.t hS1.f0 ?_
    refine J_call rfl rfl rfl rfl rfl (c_copyBack hS1 (mI_same _ _ _) h.2.2.2.2.2.2.2 hz' ?_)
    show J _ _ _ _ _ _ _
    refine J_p 2 (ls' := [_, _, _, _]) rfl ?_
    cases hu : unA j 100 A with
    | none =>
      have e := h1 hu
      subst e
      refine J_ile rfl (fun b => absurd b (by decide)) (fun _ => ?_)
      refine J_p 2 (ls' := [_, _, _, _]) rfl ?_
      exact J_ret rfl rfl rfl (kO _ (by simp only [fUntil, h2q, hu]; rfl) _ hsc)
    | some n =>
      have e := h2 n hu
      have e9 := unA_lt j 100 A n hu
      rw [Nat.zero_add] at e
      subst e
      refine J_ile rfl (fun _ => ?_) (fun b => absurd (nI_le (by omega) (by omega)) b)
      refine J_p 1 (ls' := [_, _, _, _]) rfl ?_
      exact J_ret rfl rfl rfl (kO _ (by simp only [fUntil, h2q, hu]; rfl) _ hsc)
  · skip
    show J _ _ _ _ _ _ _
    refine J_zne rfl (fun b => absurd rfl b) (fun _ => ?_)
    refine J_p 2 (ls' := [_, _, _, _]) rfl ?_
    refine J_call rfl rfl rfl (decide_eq_true hS.t) rfl (c_refused hS 0 (by decide) (by decide) ?_)
    show J _ _ _ _ _ _ _
    exact J_ret rfl rfl rfl (kR 0 _ (by simp only [fUntil, h2q, if_true, if_false, reduceIte]) (by decide))

theorem p_doomed (hS : RS M r) (hW : WS M r) (hz : WZ M r) (h : Rep g A) (w : Wf T A) (hT : T + 100 < 2 ^ 20) (n : Int32) (kR : ∀ (rw_ : Nat) (v_ : Int32), fDoomed A n = .inl rw_ → v_ = rfN rw_ → Q (some (.int v_)) (wI (rfM M r rw_) (r + 1) g)) (kO : ∀ (a : Int32), fDoomed A n = .inr (a, A) → ∀ M' : Mm, SC r M M' → Q (some (.int a)) (wI M' (r + 1) g)) : J E 233 0 [.ref r, .int n, U0] [] (wI M (r + 1) g) Q := by
  have hsc : SC r M (wI M (r + 2) g) := SC.w2 h.2.2.2.2.2.2.2
  have hS1 : RS (wI M (r + 2) g) r := hS
  have hW1 := hsc.ws hW
  refine J_p 4 (ls' := [_, _, _]) rfl ?_
  refine J_call rfl rfl rfl rfl rfl (c_inZ0 (x := n) (b := 99) (b1 := 100) (by decide) rfl (fun j h6 l6 e6 => ?_) (fun h6 => ?_))
  · skip
    subst e6
    show J _ _ _ _ _ _ _
    refine J_zne rfl (fun _ => ?_) (fun b => absurd b (by decide))
    refine J_p 1 (ls' := [_, _, _]) rfl ?_
    refine J_getR rfl hS.t hS.f0 ?_
    refine J_p 1 (ls' := [_, _, _]) rfl ?_
    refine J_getR rfl hS.t hS.f1 ?_
    refine J_call rfl rfl rfl rfl rfl (c_copyTo hS hz h ?_)
    show J _ _ _ _ _ _ _
    refine J_p 2 (ls' := [_, _, _]) rfl ?_
    refine J_call rfl rfl rfl (decide_eq_true hS.t) rfl (c_passes hS1 hW1 (n := j) (by omega) h w (by omega) (fun g' hr w' => ?_))
    show J _ _ _ _ _ _ _
    refine J_p 2 (ls' := [_, _, _]) rfl ?_
    refine J_getR rfl hS1.t hS1.f1 ?_
    refine J_p 1 (ls' := [_, _, _]) rfl ?_
    refine J_getR rfl hS1.t hS1.f0 ?_
    refine J_call rfl rfl rfl rfl rfl (c_copyBack hS1 (mI_same _ _ _) h.2.2.2.2.2.2.2 hr.2.2.2.2.2.2.2 ?_)
    show J _ _ _ _ _ _ _
    refine J_p 1 (ls' := [_, _, _]) rfl ?_
    exact J_ret rfl rfl rfl (kO _ (by simp only [fDoomed, h6]) _ hsc)
  · skip
    show J _ _ _ _ _ _ _
    refine J_zne rfl (fun b => absurd rfl b) (fun _ => ?_)
    refine J_p 2 (ls' := [_, _, _]) rfl ?_
    refine J_call rfl rfl rfl (decide_eq_true hS.t) rfl (c_refused hS 0 (by decide) (by decide) ?_)
    show J _ _ _ _ _ _ _
    exact J_ret rfl rfl rfl (kR 0 _ (by simp only [fDoomed, h6, if_true, if_false, reduceIte]) (by decide))

end PUB14