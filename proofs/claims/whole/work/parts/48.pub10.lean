/-! THE REFERENCE: who is here; credit, held, messageOf, blocked. -/
def inNB (x : Int32) (a b : Nat) : Option Nat := if (a : Int) ≤ x.toInt ∧ x.toInt ≤ (b : Int) then some x.toInt.toNat else none
theorem inNB_some {x : Int32} {a b j : Nat} (h : inNB x a b = some j) : x = nI j ∧ a ≤ j ∧ j ≤ b := by
  unfold inNB at h
  split at h
  · rename_i c
    cases h
    refine ⟨?_, by omega, by omega⟩
    apply Int32.toInt.inj
    have h2 := x.toInt_lt
    have h3 := nI_toInt (n := x.toInt.toNat) (by omega)
    rw [h3]; omega
  · cases h
theorem inNB_none {x : Int32} {a b : Nat} (h : inNB x a b = none) : ¬ inZ x a b := by
  unfold inNB at h
  split at h
  · cases h
  · assumption
theorem inNB_nI {a b j : Nat} (h1 : a ≤ j) (h2 : j ≤ b) (hb : b < 2 ^ 31) : inNB (nI j) a b = some j := by
  unfold inNB
  have := nI_toInt (n := j) (by omega)
  rw [if_pos (by omega), this]
  rfl
def fCredit2 (A : Ab) (q n : Int32) : Rs := match hereN A q with
  | none => .inl 0
  | some c => match inNB n 1 9 with
    | none => .inl 0
    | some m => match (a_c A)[c]? with
      | none => .inl 0
      | some k => if k_cr k + m ≤ 9 then .inr (nI (k_cr k + m), w_c A ((a_c A).set c (k_q k, k_cr k + m, k_lf k, k_gt k))) else .inl 4
/-- the place of the letter number t that consumer c has out, from i on, n being seen -/
def htA (L : List La) (c : Nat) (t : Int32) : Nat → Nat → Nat → Option Nat
  | 0, _, _ => none
  | d + 1, i, n => if outB L c i = true then (if nI n = t then some i else htA L c t d (i + 1) (n + 1)) else htA L c t d (i + 1) n
theorem outB_iff {L : List La} {c i : Nat} {l : La} (hl : L[i]? = some l) : outB L c i = true ↔ l_s l = 2 ∧ l_x l = c := by
  unfold outB
  rw [hl]
  simp only [Bool.and_eq_true, decide_eq_true_eq]
theorem htA_neg (L : List La) (c : Nat) {t : Int32} (ht : t < 0) : ∀ (d i n : Nat), n + d < 2 ^ 31 → htA L c t d i n = none
  | 0, _, _, _ => rfl
  | d + 1, i, n, h => by
    unfold htA
    rw [htA_neg L c ht d _ _ (by omega), htA_neg L c ht d _ _ (by omega)]
    split
    · rw [if_neg (fun e => by rw [← e] at ht; exact nI_pos (by omega) ht)]
    · rfl
theorem htA_lt (L : List La) (c : Nat) (t : Int32) : ∀ (d i n p : Nat), htA L c t d i n = some p → p < i + d ∧ outB L c p = true
  | 0, _, _, _, h => by cases h
  | d + 1, i, n, p, h => by
    unfold htA at h
    split at h
    · rename_i c1
      split at h
      · cases h; exact ⟨by omega, c1⟩
      · have := htA_lt L c t d _ _ p h; exact ⟨by omega, this.2⟩
    · have := htA_lt L c t d _ _ p h; exact ⟨by omega, this.2⟩
def fHeld (A : Ab) (c i : Int32) : Rs := match ixN c (a_c A).length with
  | none => .inl 0
  | some j => match (a_c A)[j]? with
    | none => .inl 0
    | some k => match (a_q A)[k_q k]? with
      | none => .inl 0
      | some x => match htA (q_ls x) j i (q_ls x).length 0 0 with
        | none => .inl 0
        | some p => match (q_ls x)[p]? with
          | none => .inl 0
          | some l => .inr (nI (l_m l), A)
/-- bits of keys: of letters that are ready; that may be given -/
def rdI (ms : List Ma) (L : List La) : Nat → Int32
  | 0 => nI 0
  | n + 1 => rdI ms L n ||| (if stB L 0 n = true then nI 1 <<< (nI (kyA ms (L.getD n (0, 0, 0, 0, []))) &&& 31) else nI 0)
def opI (ms : List Ma) (L : List La) : Nat → Int32
  | 0 => nI 0
  | n + 1 => opI ms L n ||| (if mayA ms L n = true then nI 1 <<< (nI (kyA ms (L.getD n (0, 0, 0, 0, []))) &&& 31) else nI 0)
def fBlocked (A : Ab) (q : Int32) : Rs := match ixN q (a_q A).length with
  | none => .inl 0
  | some j => match (a_q A)[j]? with
    | none => .inl 0
    | some x => .inr (rdI (a_m A) (q_ls x) (q_ls x).length &&& (opI (a_m A) (q_ls x) (q_ls x).length ^^^ (-1)), A)
def hasM (L : List La) (m : Nat) : Nat → Bool
  | 0 => false
  | n + 1 => hasM L m n || (match L[n]? with
    | none => false
    | some l => decide (l_m l = m))
def isM (L : List La) (m i : Nat) : Bool := match L[i]? with
  | none => false
  | some l => decide (l_m l = m)
theorem hasM_some {L : List La} {m : Nat} : ∀ n, hasM L m n = true → ∃ i, i < n ∧ isM L m i = true
  | 0, h => by cases h
  | n + 1, h => by
    unfold hasM at h
    rw [Bool.or_eq_true] at h
    rcases h with h | h
    · obtain ⟨i, h1, h2⟩ := hasM_some n h
      exact ⟨i, by omega, h2⟩
    · exact ⟨n, by omega, h⟩
theorem isM_uni {L : List La} {m : Nat} (hs : ∀ (i j : Nat) (l l' : La), i < j → L[i]? = some l → L[j]? = some l' → l_m l < l_m l') {i j : Nat} (hij : i < j) (h : isM L m i = true) : isM L m j = false := by
  unfold isM at h ⊢
  cases hi : L[i]? with
  | none => rw [hi] at h; cases h
  | some l =>
    rw [hi] at h
    have e := of_decide_eq_true h
    cases hj : L[j]? with
    | none => rfl
    | some l' => exact decide_eq_false (fun e' => by have := hs i j l l' hij hi hj; omega)
theorem cnM {L : List La} {m : Nat} (hs : ∀ (i j : Nat) (l l' : La), i < j → L[i]? = some l → L[j]? = some l' → l_m l < l_m l') : ∀ n, cnA (isM L m) n = if hasM L m n = true then 1 else 0
  | 0 => rfl
  | n + 1 => by
    have e : hasM L m (n + 1) = (hasM L m n || isM L m n) := rfl
    unfold cnA
    rw [cnM hs n, e]
    cases h1 : hasM L m n with
    | true =>
      obtain ⟨i, hi, h2⟩ := hasM_some n h1
      rw [isM_uni hs hi h2]
      rfl
    | false =>
      cases isM L m n <;> rfl
def hmQ (A : Ab) (m q : Nat) : Bool := match (a_q A)[q]? with
  | none => false
  | some x => hasM (q_ls x) m (q_ls x).length
def moA (A : Ab) (m : Nat) (x : Ma) : Nat → Int32
  | 0 => nI (g_k x)
  | 1 => nI (g_r x)
  | 2 => g_v x
  | 3 => nI (g_t x)
  | 4 => nI (cnA (hmQ A m) (a_q A).length)
  | _ => nI (g_p x)
def fMessageOf (A : Ab) (m v : Int32) : Rs := match ixN m (a_m A).length with
  | none => .inl 0
  | some j => match ixN v 6 with
    | none => .inl 0
    | some b => match (a_m A)[j]? with
      | none => .inl 0
      | some x => .inr (moA A j x b, A)
section PUB10
variable {E : Nat × Nat} {M : Mm} {r T : Nat} {g : Nat → Int32} {A : Ab} {Q : Option Value → Mm → Prop}
theorem c_hereA (hS : RS M r) (h : Rep g A) (w : Wf T A) (q : Int32) (kt : ∀ (c : Nat) (k : Co), hereN A q = some c → (a_c A)[c]? = some k → k_lf k = 0 → q = nI c → c < 10 → Q (some (.int (nI 1))) (wI M (r + 1) g)) (kf : hereN A q = none → Q (some (.int (nI 0))) (wI M (r + 1) g)) : J E 167 0 [.ref r, .int q] [] (wI M (r + 1) g) Q := by
  cases e : ixN q (a_c A).length with
  | none => exact c_isHere_n hS q h.2.1.2.1 h.2.1.1 (ixN_none e) (kf (by simp only [hereN, e]))
  | some c =>
    obtain ⟨h1, h2, _⟩ := ixN_some e
    subst h2
    obtain ⟨k, hk⟩ := get_of h1
    have h1' := (w.2.2.1 c k hk).2.2.1
    have h10 := h.2.1.1
    refine c_isHere hS c h.2.1.2.1 h.2.1.1 h1 ?_
    rw [(h.2.1.2.2 c k hk).2.2.1]
    by_cases e0 : k_lf k = 0
    · rw [bI_t (by rw [e0]; rfl)]
      exact kt c k (by simp only [hereN, e, hk, e0, if_true]) hk e0 rfl (by omega)
    · rw [bI_f (fun y => e0 ((show nI (k_lf k) = 0 ↔ k_lf k = 0 from nI_eq (b := 0) (by omega) (by omega)).mp y))]
      exact kf (by simp only [hereN, e, hk, if_neg e0])
theorem c_inA {x : Int32} {a b : Nat} {M : Mm} (ha : a < 2 ^ 31) (hb : b < 2 ^ 31) (kt : ∀ j, inNB x a b = some j → x = nI j → a ≤ j → j ≤ b → Q (some (.int (nI 1))) M) (kf : inNB x a b = none → Q (some (.int (nI 0))) M) : J E 159 0 [.long x.toInt64, U0, .long (lN a), U0, .long (lN b), U0] [] M Q := by
  refine c_inZ ha hb (fun e => ?_) (fun e => ?_)
  · cases e' : inNB x a b with
    | none => exact absurd e (inNB_none e')
    | some j =>
      obtain ⟨h1, h2, h3⟩ := inNB_some e'
      exact kt j e' h1 h2 h3
  · exact kf (by unfold inNB; exact if_neg e)
theorem Rep.crN2 {c m : Nat} {k : Co} (h : Rep g A) (hk : (a_c A)[c]? = some k) : Rep (upd g (11 + 4 * c + 1) (nI (k_cr k + m))) (w_c A ((a_c A).set c (k_q k, k_cr k + m, k_lf k, k_gt k))) := by
  have hK := h.2.1.2.2 c k hk
  refine h.c hk ?_ (fun z hz => if_neg (by omega))
  refine ⟨?_, if_pos rfl, ?_, ?_⟩
  · rw [upd, if_neg (by omega)]; exact hK.1
  · rw [upd, if_neg (by omega)]; exact hK.2.2.1
  · rw [upd, if_neg (by omega)]; exact hK.2.2.2
theorem Wf.crN2 {c m : Nat} {k : Co} (w : Wf T A) (hk : (a_c A)[c]? = some k) (h0 : k_lf k = 0) (h9 : k_cr k + m ≤ 9) : Wf T (w_c A ((a_c A).set c (k_q k, k_cr k + m, k_lf k, k_gt k))) := by
  have hK := w.2.2.1 c k hk
  refine w.cSame hk ⟨hK.1, h9, hK.2.2.1, fun e => ?_⟩ rfl rfl
  have e' : k_lf k = 1 := e
  omega

theorem p_credit (hS : RS M r) (hW : WS M r) (h : Rep g A) (w : Wf T A) (hT : T + 99 < 2 ^ 20) (q n : Int32) (kR : ∀ (rw_ : Nat) (v_ : Int32), fCredit2 A q n = .inl rw_ → v_ = rfN rw_ → Q (some (.int v_)) (wI (rfM M r rw_) (r + 1) g)) (kO : ∀ (a : Int32) (B : Ab), fCredit2 A q n = .inr (a, B) → ∀ g' : Nat → Int32, Rep g' B → Wf (T + 99) B → Q (some (.int a)) (wI M (r + 1) g')) : J E 209 0 [.ref r, .int q, .int n] [] (wI M (r + 1) g) Q := by
  refine J_p 2 (ls' := [_, _, _]) rfl ?_
  refine J_call rfl rfl rfl (decide_eq_true hS.t) rfl (c_hereA hS h w q (fun c k h2 hk hf e2 c10 => ?_) (fun h2 => ?_))
  · skip
    subst e2
    show J _ _ _ _ _ _ _
    refine J_zeq rfl (fun b => absurd b (by decide)) (fun _ => ?_)
    refine J_p 4 (ls' := [_, _, _]) rfl ?_
    refine J_call rfl rfl rfl rfl rfl (c_inA (x := n) (a := 1) (b := 9) (by decide) (by decide) (fun m h14 e14 la14 lb14 => ?_) (fun h14 => ?_))
    · skip
      subst e14
      show J _ _ _ _ _ _ _
      refine J_zne rfl (fun _ => ?_) (fun b => absurd b (by decide))
      refine J_p 3 (ls' := [_, _, _]) rfl ?_
      refine J_call rfl rfl rfl (decide_eq_true hS.t) rfl (c_ofConsumer hS c 1 (by omega) (h.2.1.2.2 c k hk).2.1 ?_)
      show J _ _ _ _ _ _ _
      refine J_p 3 (ls' := [_, _, _]) rfl ?_
      refine J_n1 (n := k_cr k + m) (by repeat' (first | with_reducible rfl | assumption | with_reducible refine nI_decE ?_ | with_reducible refine nI_addE ?_ ?_ | with_reducible refine nI_mulE ?_ ?_ | with_reducible refine nI_subE ?_ ?_ ?_ | omega | (with_reducible refine congrArg nI ?_; omega))) ?_
      refine J_ile rfl (fun b37 => ?_) (fun b37 => ?_)
      · skip
        have h9 := (w.2.2.1 c k hk).2.1
        have e9 : k_cr k + m ≤ 9 := (nI_leI (by omega) (by omega)).mp b37
        refine J_p 1 (ls' := [_, _, _]) rfl ?_
        refine J_getR rfl hS.t hS.f0 ?_
        refine J_p 8 (ls' := [_, _, _]) rfl ?_
        refine J_gld (n := 11 + 4 * c + 1) rfl (by repeat' (first | with_reducible rfl | assumption | with_reducible refine nI_decE ?_ | with_reducible refine nI_addE ?_ ?_ | with_reducible refine nI_mulE ?_ ?_ | with_reducible refine nI_subE ?_ ?_ ?_ | omega | (with_reducible refine congrArg nI ?_; omega))) hS (by omega) (h.2.1.2.2 c k hk).2.1 ?_
        refine J_p 2 (ls' := [_, _, _]) rfl ?_
        refine J_gst (n := 11 + 4 * c + 1) rfl (by repeat' (first | with_reducible rfl | assumption | with_reducible refine nI_decE ?_ | with_reducible refine nI_addE ?_ ?_ | with_reducible refine nI_mulE ?_ ?_ | with_reducible refine nI_subE ?_ ?_ ?_ | omega | (with_reducible refine congrArg nI ?_; omega))) hS (by omega) ?_
        refine J_p 3 (ls' := [_, _, _]) rfl ?_
        refine J_call rfl rfl rfl (decide_eq_true hS.t) rfl (c_ofConsumer hS c 1 (by omega) (if_pos rfl) ?_)
        show J _ _ _ _ _ _ _
        rw [nI_add]
        exact J_ret rfl rfl rfl (kO _ _ (by simp only [fCredit2, h2, hk, h14, e9, if_true, if_false, reduceIte]) _ (h.crN2 (m := m) hk) ((w.crN2 hk hf e9).mono (by omega) hT))
      · skip
        have h9 := (w.2.2.1 c k hk).2.1
        have e9 : ¬ k_cr k + m ≤ 9 := fun y => b37 ((nI_leI (by omega) (by omega)).mpr y)
        refine J_p 2 (ls' := [_, _, _]) rfl ?_
        refine J_call rfl rfl rfl (decide_eq_true hS.t) rfl (c_refused hS 4 (by decide) (by decide) ?_)
        show J _ _ _ _ _ _ _
        exact J_ret rfl rfl rfl (kR 4 _ (by simp only [fCredit2, h2, hk, h14, e9, e9, if_true, if_false, reduceIte]) (by decide))
    · skip
      show J _ _ _ _ _ _ _
      refine J_zne rfl (fun b => absurd rfl b) (fun _ => ?_)
      refine J_p 2 (ls' := [_, _, _]) rfl ?_
      refine J_call rfl rfl rfl (decide_eq_true hS.t) rfl (c_refused hS 0 (by decide) (by decide) ?_)
      show J _ _ _ _ _ _ _
      exact J_ret rfl rfl rfl (kR 0 _ (by simp only [fCredit2, h2, hk, h14, if_true, if_false, reduceIte]) (by decide))
  · skip
    show J _ _ _ _ _ _ _
    refine J_zeq rfl (fun _ => ?_) (fun b => absurd rfl b)
    refine J_p 2 (ls' := [_, _, _]) rfl ?_
    refine J_call rfl rfl rfl (decide_eq_true hS.t) rfl (c_refused hS 0 (by decide) (by decide) ?_)
    show J _ _ _ _ _ _ _
    exact J_ret rfl rfl rfl (kR 0 _ (by simp only [fCredit2, h2, if_true, if_false, reduceIte]) (by decide))

theorem c_held_l (hS : RS M r) (h : Rep g A) (w : Wf T A) {q c len : Nat} {t : Int32} {x : Qa} (hq : q < 8) (c10 : c < 10) (hx : (a_q A)[q]? = some x) (hlen : (q_ls x).length = len) (h20 : len ≤ 20) (q35 : g (3471 + 556 * q + 35) = nI len) : ∀ (d kk : Nat), kk + d = len → ∀ n : Nat, n ≤ kk → (htA (q_ls x) c t d kk n = none → Q (some (.int (-82))) (wI (rfM M r 0) (r + 1) g)) → (∀ (p : Nat) (l : La), htA (q_ls x) c t d kk n = some p → (q_ls x)[p]? = some l → Q (some (.int (nI (l_m l)))) (wI M (r + 1) g)) → J E 223 32 [.ref r, .int (nI c), .int t, .int (nI q), .int (nI n), .int (nI kk)] [] (wI M (r + 1) g) Q := by
  intro d
  induction d with
  | zero =>
    intro kk hk n hn k1 k2
    refine J_p 4 (ls' := [_, _, _, _, _, _]) rfl ?_
    refine J_call rfl rfl rfl (decide_eq_true hS.t) rfl (c_of hS q 35 (by omega) q35 ?_)
    show J _ _ _ _ _ _ _
    refine J_ige rfl (fun b41 => ?_) (fun b41 => ?_)
    · skip
      refine J_p 2 (ls' := [_, _, _, _, _, _]) rfl ?_
      refine J_call rfl rfl rfl (decide_eq_true hS.t) rfl (c_refused hS 0 (by decide) (by decide) ?_)
      show J _ _ _ _ _ _ _
      exact J_ret rfl rfl rfl (k1 rfl)
    · skip
      exact absurd (nI_le (a := len) (b := kk) (by omega) (by omega)) b41
  | succ d ih =>
    intro kk hk n hn k1 k2
    refine J_p 4 (ls' := [_, _, _, _, _, _]) rfl ?_
    refine J_call rfl rfl rfl (decide_eq_true hS.t) rfl (c_of hS q 35 (by omega) q35 ?_)
    show J _ _ _ _ _ _ _
    refine J_ige rfl (fun b41 => ?_) (fun b41 => ?_)
    · skip
      exact absurd b41 (nI_ge (a := kk) (b := len) (by omega) (by omega))
    · skip
      refine J_p 4 (ls' := [_, _, _, _, _, _]) rfl ?_
      obtain ⟨l, hl⟩ := get_of (l := q_ls x) (i := kk) (by omega)
      have ew := whoI_eq h w hx hl c10
      refine J_call rfl rfl rfl (decide_eq_true hS.t) rfl (c_letterOf hS q kk 3 (by omega) rfl ?_)
      show J _ _ _ _ _ _ _
      refine J_p 1 (ls' := [_, _, _, _, _, _]) rfl ?_
      refine J_ine rfl (fun b53 => ?_) (fun b53 => ?_)
      · skip
        have ho : ¬ outB (q_ls x) c kk = true := fun y => b53 (ew.mpr ((outB_iff hl).mp y))
        have eh : ∀ n', htA (q_ls x) c t (d + 1) kk n' = htA (q_ls x) c t d (kk + 1) n' := fun n' => by rw [htA, if_neg ho]
        refine J_p 2 (ls' := [_, _, _, _, _, _]) rfl ?_
        rw [nI_add kk 1]
        first
        | (rw [nI_add n 1]; exact ih (kk + 1) (by omega) (n + 1) (by omega) (fun y => k1 (eh.trans y)) (fun p l y hp => k2 p l (eh.trans y) hp))
        | exact ih (kk + 1) (by omega) n (by omega) (fun y => k1 ((eh n).trans y)) (fun p l y hp => k2 p l ((eh n).trans y) hp)
      · skip
        have ho : outB (q_ls x) c kk = true := (outB_iff hl).mpr (ew.mp b53)
        refine J_p 2 (ls' := [_, _, _, _, _, _]) rfl ?_
        refine J_ine rfl (fun b59 => ?_) (fun b59 => ?_)
        · skip
          have eh : htA (q_ls x) c t (d + 1) kk n = htA (q_ls x) c t d (kk + 1) (n + 1) := by rw [htA, if_pos ho, if_neg b59]
          refine J_p 3 (ls' := [_, _, _, _, _, _]) rfl ?_
          rw [nI_add kk 1]
          first
          | (rw [nI_add n 1]; exact ih (kk + 1) (by omega) (n + 1) (by omega) (fun y => k1 (eh.trans y)) (fun p l y hp => k2 p l (eh.trans y) hp))
          | exact ih (kk + 1) (by omega) n (by omega) (fun y => k1 ((eh n).trans y)) (fun p l y hp => k2 p l ((eh n).trans y) hp)
        · skip
          refine J_p 4 (ls' := [_, _, _, _, _, _]) rfl ?_
          refine J_call rfl rfl rfl (decide_eq_true hS.t) rfl (c_letterOf hS q kk 0 (by omega) (h.letter hx hl).2.1 ?_)
          show J _ _ _ _ _ _ _
          exact J_ret rfl rfl rfl (k2 kk l (by unfold htA; rw [if_pos ho, if_pos b59]) hl)

theorem p_held (hS : RS M r) (hW : WS M r) (h : Rep g A) (w : Wf T A) (hT : T + 99 < 2 ^ 20) (c i : Int32) (kR : ∀ (rw_ : Nat) (v_ : Int32), fHeld A c i = .inl rw_ → v_ = rfN rw_ → Q (some (.int v_)) (wI (rfM M r rw_) (r + 1) g)) (kO : ∀ (a : Int32) (B : Ab), fHeld A c i = .inr (a, B) → ∀ g' : Nat → Int32, Rep g' B → Wf (T + 99) B → Q (some (.int a)) (wI M (r + 1) g')) : J E 223 0 [.ref r, .int c, .int i, U0, U0, U0] [] (wI M (r + 1) g) Q := by
  refine J_p 2 (ls' := [_, _, _, _, _, _]) rfl ?_
  refine J_call rfl rfl rfl (decide_eq_true hS.t) rfl (c_isC hS h c (fun j h2 l2 e2 => ?_) (fun h2 => ?_))
  · skip
    subst e2
    obtain ⟨k, hk⟩ := get_of l2
    have c10 : j < 10 := Nat.lt_of_lt_of_le l2 h.2.1.1
    have hK := h.2.1.2.2 j k hk
    obtain ⟨x, hx⟩ := get_of (w.2.2.1 j k hk).1
    have q8 : k_q k < 8 := Nat.lt_of_lt_of_le (li hx) h.1.1
    have n20 := (h.1.2.2 _ x hx).2.2.2.2.1
    have q35 := (h.1.2.2 _ x hx).2.2.2.2.2.1
    show J _ _ _ _ _ _ _
    refine J_zeq rfl (fun b => absurd b (by decide)) (fun _ => ?_)
    refine J_p 1 (ls' := [_, _, _, _, _, _]) rfl ?_
    refine J_zge rfl (fun b9 => ?_) (fun b9 => ?_)
    · skip
      refine J_p 3 (ls' := [_, _, _, _, _, _]) rfl ?_
      refine J_call rfl rfl rfl (decide_eq_true hS.t) rfl (c_ofConsumer hS j 0 (by omega) hK.1 ?_)
      show J _ _ _ _ _ _ _
      refine J_p 5 (ls' := [_, _, _, _, _, _]) rfl ?_
      refine c_held_l (E := E) hS h w q8 c10 hx rfl n20 q35 (q_ls x).length 0 (by omega) 0 (Nat.le_refl _) (fun y => ?_) (fun p l y hp => ?_)
      · exact kR 0 _ (by simp only [fHeld, h2, hk, hx, y]) (by decide)
      · exact kO _ _ (by simp only [fHeld, h2, hk, hx, y, hp]) g h (w.mono (by omega) hT)
    · skip
      have eh : htA (q_ls x) j i (q_ls x).length 0 0 = none := htA_neg _ _ (by rw [Int32.lt_iff_toInt_lt]; rw [Int32.le_iff_toInt_le] at b9; omega) _ _ _ (by omega)
      refine J_p 2 (ls' := [_, _, _, _, _, _]) rfl ?_
      refine J_call rfl rfl rfl (decide_eq_true hS.t) rfl (c_refused hS 0 (by decide) (by decide) ?_)
      show J _ _ _ _ _ _ _
      exact J_ret rfl rfl rfl (kR 0 _ (by simp only [fHeld, h2, hk, hx, eh, if_true, if_false, reduceIte]) (by decide))
  · skip
    show J _ _ _ _ _ _ _
    refine J_zeq rfl (fun _ => ?_) (fun b => absurd rfl b)
    refine J_p 2 (ls' := [_, _, _, _, _, _]) rfl ?_
    refine J_call rfl rfl rfl (decide_eq_true hS.t) rfl (c_refused hS 0 (by decide) (by decide) ?_)
    show J _ _ _ _ _ _ _
    exact J_ret rfl rfl rfl (kR 0 _ (by simp only [fHeld, h2, if_true, if_false, reduceIte]) (by decide))

theorem c_blocked_l (hS : RS M r) (h : Rep g A) (w : Wf T A) {q len : Nat} {x : Qa} (hq : q < 8) (hx : (a_q A)[q]? = some x) (hlen : (q_ls x).length = len) (h20 : len ≤ 20) (q35 : g (3471 + 556 * q + 35) = nI len) (hLM : LM g q len) : ∀ (d kk : Nat), kk + d = len → Q (some (.int (rdI (a_m A) (q_ls x) len &&& (opI (a_m A) (q_ls x) len ^^^ (-1))))) (wI M (r + 1) g) → J E 229 22 [.ref r, .int (nI q), .int (rdI (a_m A) (q_ls x) kk), .int (opI (a_m A) (q_ls x) kk), .int (nI kk)] [] (wI M (r + 1) g) Q := by
  intro d
  induction d with
  | zero =>
    intro kk hk k
    refine J_p 4 (ls' := [_, _, _, _, _]) rfl ?_
    refine J_call rfl rfl rfl (decide_eq_true hS.t) rfl (c_of hS q 35 (by omega) q35 ?_)
    show J _ _ _ _ _ _ _
    refine J_ige rfl (fun b31 => ?_) (fun b31 => ?_)
    · skip
      refine J_p 5 (ls' := [_, _, _, _, _]) rfl ?_
      obtain rfl : kk = len := by omega
      exact J_ret rfl rfl rfl k
    · skip
      exact absurd (nI_le (a := len) (b := kk) (by omega) (by omega)) b31
  | succ d ih =>
    intro kk hk k
    refine J_p 4 (ls' := [_, _, _, _, _]) rfl ?_
    refine J_call rfl rfl rfl (decide_eq_true hS.t) rfl (c_of hS q 35 (by omega) q35 ?_)
    show J _ _ _ _ _ _ _
    refine J_ige rfl (fun b31 => ?_) (fun b31 => ?_)
    · skip
      exact absurd b31 (nI_ge (a := kk) (b := len) (by omega) (by omega))
    · skip
      refine J_p 5 (ls' := [_, _, _, _, _]) rfl ?_
      obtain ⟨l, hl⟩ := get_of (l := q_ls x) (i := kk) (by omega)
      have hs2 := (w.ls hx hl).2.1
      obtain ⟨ek, ek8, _⟩ := h.ky w hx hl
      refine J_call rfl rfl rfl (decide_eq_true hS.t) rfl (c_letterOf hS q kk 1 (by omega) (h.letter hx hl).2.2.1 ?_)
      show J _ _ _ _ _ _ _
      refine J_zne rfl (fun b43 => ?_) (fun b43 => ?_)
      · skip
        have hr : stB (q_ls x) 0 kk = false := by unfold stB; rw [hl]; exact decide_eq_false (fun y => b43 (by rw [y]; rfl))
        refine J_p 7 (ls' := [_, _, _, _, _]) rfl ?_
        have em := h.may w hx (i := kk) (by omega)
        refine J_call rfl rfl rfl (decide_eq_true hS.t) rfl (c_may hS hq h20 (by omega) hLM ?_)
        rw [em]
        show J _ _ _ _ _ _ _
        refine J_zeq rfl (fun b69 => ?_) (fun b69 => ?_)
        · skip
          have ho : ¬ mayA (a_m A) (q_ls x) kk = true := bI_z b69
          refine J_p 5 (ls' := [_, _, _, _, _]) rfl ?_
          rw [nI_add kk 1]
          refine J_L (ls' := [.ref r, .int (nI q), .int (rdI (a_m A) (q_ls x) (kk + 1)), .int (opI (a_m A) (q_ls x) (kk + 1)), .int (nI (kk + 1))]) ?_ (ih (kk + 1) (by omega) k)
          simp only [rdI, opI, hr, ho, getD_of hl, if_true, if_false, reduceIte]
          first | done | rfl
        · skip
          have ho : mayA (a_m A) (q_ls x) kk = true := bI_nz b69
          refine J_p 4 (ls' := [_, _, _, _, _]) rfl ?_
          refine J_call rfl rfl rfl (decide_eq_true hS.t) rfl (c_key hS hq h20 (by omega) hLM ?_)
          rw [ek]
          show J _ _ _ _ _ _ _
          refine J_p 6 (ls' := [_, _, _, _, _]) rfl ?_
          rw [nI_add kk 1]
          refine J_L (ls' := [.ref r, .int (nI q), .int (rdI (a_m A) (q_ls x) (kk + 1)), .int (opI (a_m A) (q_ls x) (kk + 1)), .int (nI (kk + 1))]) ?_ (ih (kk + 1) (by omega) k)
          simp only [rdI, opI, hr, ho, getD_of hl, if_true, if_false, reduceIte]
          first | done | rfl
      · skip
        have hr : stB (q_ls x) 0 kk = true := by unfold stB; rw [hl]; exact decide_eq_true ((nI_eq (b := 0) (by omega) (by omega)).mp b43)
        refine J_p 4 (ls' := [_, _, _, _, _]) rfl ?_
        refine J_call rfl rfl rfl (decide_eq_true hS.t) rfl (c_key hS hq h20 (by omega) hLM ?_)
        rw [ek]
        show J _ _ _ _ _ _ _
        refine J_p 8 (ls' := [_, _, _, _, _]) rfl ?_
        have em := h.may w hx (i := kk) (by omega)
        refine J_call rfl rfl rfl (decide_eq_true hS.t) rfl (c_may hS hq h20 (by omega) hLM ?_)
        rw [em]
        show J _ _ _ _ _ _ _
        refine J_zeq rfl (fun b69 => ?_) (fun b69 => ?_)
        · skip
          have ho : ¬ mayA (a_m A) (q_ls x) kk = true := bI_z b69
          refine J_p 5 (ls' := [_, _, _, _, _]) rfl ?_
          rw [nI_add kk 1]
          refine J_L (ls' := [.ref r, .int (nI q), .int (rdI (a_m A) (q_ls x) (kk + 1)), .int (opI (a_m A) (q_ls x) (kk + 1)), .int (nI (kk + 1))]) ?_ (ih (kk + 1) (by omega) k)
          simp only [rdI, opI, hr, ho, getD_of hl, if_true, if_false, reduceIte]
          first | done | rfl
        · skip
          have ho : mayA (a_m A) (q_ls x) kk = true := bI_nz b69
          refine J_p 4 (ls' := [_, _, _, _, _]) rfl ?_
          refine J_call rfl rfl rfl (decide_eq_true hS.t) rfl (c_key hS hq h20 (by omega) hLM ?_)
          rw [ek]
          show J _ _ _ _ _ _ _
          refine J_p 6 (ls' := [_, _, _, _, _]) rfl ?_
          rw [nI_add kk 1]
          refine J_L (ls' := [.ref r, .int (nI q), .int (rdI (a_m A) (q_ls x) (kk + 1)), .int (opI (a_m A) (q_ls x) (kk + 1)), .int (nI (kk + 1))]) ?_ (ih (kk + 1) (by omega) k)
          simp only [rdI, opI, hr, ho, getD_of hl, if_true, if_false, reduceIte]
          first | done | rfl

theorem p_blocked (hS : RS M r) (hW : WS M r) (h : Rep g A) (w : Wf T A) (hT : T + 99 < 2 ^ 20) (q : Int32) (kR : ∀ (rw_ : Nat) (v_ : Int32), fBlocked A q = .inl rw_ → v_ = rfN rw_ → Q (some (.int v_)) (wI (rfM M r rw_) (r + 1) g)) (kO : ∀ (a : Int32) (B : Ab), fBlocked A q = .inr (a, B) → ∀ g' : Nat → Int32, Rep g' B → Wf (T + 99) B → Q (some (.int a)) (wI M (r + 1) g')) : J E 229 0 [.ref r, .int q, U0, U0, U0] [] (wI M (r + 1) g) Q := by
  refine J_p 2 (ls' := [_, _, _, _, _]) rfl ?_
  refine J_call rfl rfl rfl (decide_eq_true hS.t) rfl (c_isQ hS h q (fun j h2 l2 e2 => ?_) (fun h2 => ?_))
  · skip
    subst e2
    obtain ⟨xj, hxj⟩ := get_of l2
    have q8j : j < 8 := Nat.lt_of_lt_of_le l2 h.1.1
    have n20j := (h.1.2.2 j xj hxj).2.2.2.2.1
    have x20j := (h.1.2.2 j xj hxj).2.1.1
    have q35j := (h.1.2.2 j xj hxj).2.2.2.2.2.1
    show J _ _ _ _ _ _ _
    refine J_zne rfl (fun _ => ?_) (fun b => absurd b (by decide))
    refine J_p 6 (ls' := [_, _, _, _, _]) rfl ?_
    exact c_blocked_l (E := E) hS h w q8j hxj rfl n20j q35j (h.LM w hxj) (q_ls xj).length 0 (by omega) (kO _ _ (by simp only [fBlocked, h2, hxj]) g h (w.mono (by omega) hT))
  · skip
    show J _ _ _ _ _ _ _
    refine J_zne rfl (fun b => absurd rfl b) (fun _ => ?_)
    refine J_p 2 (ls' := [_, _, _, _, _]) rfl ?_
    refine J_call rfl rfl rfl (decide_eq_true hS.t) rfl (c_refused hS 0 (by decide) (by decide) ?_)
    show J _ _ _ _ _ _ _
    exact J_ret rfl rfl rfl (kR 0 _ (by simp only [fBlocked, h2, if_true, if_false, reduceIte]) (by decide))

theorem c_messageOf_i (hS : RS M r) (h : Rep g A) (w : Wf T A) {q len m s : Nat} {vv : Int32} {x : Qa} (hq : q < 8) (hm : m < 300) (hx : (a_q A)[q]? = some x) (hlen : (q_ls x).length = len) (h20 : len ≤ 20) (q35 : g (3471 + 556 * q + 35) = nI len) : ∀ (d kk : Nat), kk + d = len → J E 224 122 [.ref r, .int (nI m), .int vv, .int (nI (s + cnA (isM (q_ls x) m) len)), .int (nI q), .int (nI len)] [] (wI M (r + 1) g) Q → J E 224 82 [.ref r, .int (nI m), .int vv, .int (nI (s + cnA (isM (q_ls x) m) kk)), .int (nI q), .int (nI kk)] [] (wI M (r + 1) g) Q := by
  intro d
  induction d with
  | zero =>
    intro kk hk k
    refine J_p 4 (ls' := [_, _, _, _, _, _]) rfl ?_
    refine J_call rfl rfl rfl (decide_eq_true hS.t) rfl (c_of hS q 35 (by omega) q35 ?_)
    show J _ _ _ _ _ _ _
    refine J_ige rfl (fun b92 => ?_) (fun b92 => ?_)
    · skip
      obtain rfl : kk = len := by omega
      exact k
    · skip
      exact absurd (nI_le (a := len) (b := kk) (by omega) (by omega)) b92
  | succ d ih =>
    intro kk hk k
    refine J_p 4 (ls' := [_, _, _, _, _, _]) rfl ?_
    refine J_call rfl rfl rfl (decide_eq_true hS.t) rfl (c_of hS q 35 (by omega) q35 ?_)
    show J _ _ _ _ _ _ _
    refine J_ige rfl (fun b92 => ?_) (fun b92 => ?_)
    · skip
      exact absurd b92 (nI_ge (a := kk) (b := len) (by omega) (by omega))
    · skip
      refine J_p 5 (ls' := [_, _, _, _, _, _]) rfl ?_
      obtain ⟨l, hl⟩ := get_of (l := q_ls x) (i := kk) (by omega)
      have hm3 := (h.msg w hx hl).2
      refine J_call rfl rfl rfl (decide_eq_true hS.t) rfl (c_letterOf hS q kk 0 (by omega) (h.letter hx hl).2.1 ?_)
      show J _ _ _ _ _ _ _
      refine J_p 1 (ls' := [_, _, _, _, _, _]) rfl ?_
      refine J_ine rfl (fun b106 => ?_) (fun b106 => ?_)
      · skip
        have hv : isM (q_ls x) m kk = false := by unfold isM; rw [hl]; exact decide_eq_false (fun y => b106 (by rw [y]))
        refine J_p 2 (ls' := [_, _, _, _, _, _]) rfl ?_
        refine J_n0 (n := (s + cnA (isM (q_ls x) m) kk) + 0) (by repeat' (first | with_reducible rfl | assumption | with_reducible refine nI_decE ?_ | with_reducible refine nI_addE ?_ ?_ | with_reducible refine nI_mulE ?_ ?_ | with_reducible refine nI_subE ?_ ?_ ?_ | omega | (with_reducible refine congrArg nI ?_; omega))) ?_
        refine J_p 3 (ls' := [_, _, _, _, _, _]) rfl ?_
        rw [nI_add kk 1]
        refine J_L (ls' := [.ref r, .int (nI m), .int vv, .int (nI (s + cnA (isM (q_ls x) m) (kk + 1))), .int (nI q), .int (nI (kk + 1))]) ?_ (ih (kk + 1) (by omega) k)
        simp only [cnA, hv, if_true, if_false, reduceIte]
        first | done | rfl
      · skip
        have hv : isM (q_ls x) m kk = true := by unfold isM; rw [hl]; exact decide_eq_true ((nI_eq (by omega) (by omega)).mp b106)
        refine J_p 3 (ls' := [_, _, _, _, _, _]) rfl ?_
        refine J_n0 (n := (s + cnA (isM (q_ls x) m) kk) + 1) (by repeat' (first | with_reducible rfl | assumption | with_reducible refine nI_decE ?_ | with_reducible refine nI_addE ?_ ?_ | with_reducible refine nI_mulE ?_ ?_ | with_reducible refine nI_subE ?_ ?_ ?_ | omega | (with_reducible refine congrArg nI ?_; omega))) ?_
        refine J_p 3 (ls' := [_, _, _, _, _, _]) rfl ?_
        rw [nI_add kk 1]
        refine J_L (ls' := [.ref r, .int (nI m), .int vv, .int (nI (s + cnA (isM (q_ls x) m) (kk + 1))), .int (nI q), .int (nI (kk + 1))]) ?_ (ih (kk + 1) (by omega) k)
        simp only [cnA, hv, if_true, if_false, reduceIte]
        first | done | rfl

theorem c_messageOf_o (hS : RS M r) (h : Rep g A) (w : Wf T A) {len m : Nat} {vv : Int32} (hm : m < 300) (hlen : (a_q A).length = len) : ∀ (d kk : Nat), kk + d = len → ∀ x5 : Value, Q (some (.int (nI (cnA (hmQ A m) len)))) (wI M (r + 1) g) → J E 224 68 [.ref r, .int (nI m), .int vv, .int (nI (cnA (hmQ A m) kk)), .int (nI kk), x5] [] (wI M (r + 1) g) Q := by
  intro d
  induction d with
  | zero =>
    intro kk hk x5 k
    have h8 := h.1.1
    have h0 := h.1.2.1
    rw [hlen] at h0
    refine J_p 2 (ls' := [_, _, _, _, _, _]) rfl ?_
    refine J_getR rfl hS.t hS.f0 ?_
    refine J_p 1 (ls' := [_, _, _, _, _, _]) rfl ?_
    refine J_gld (n := 0) rfl (by repeat' (first | with_reducible rfl | assumption | with_reducible refine nI_decE ?_ | with_reducible refine nI_addE ?_ ?_ | with_reducible refine nI_mulE ?_ ?_ | with_reducible refine nI_subE ?_ ?_ ?_ | omega | (with_reducible refine congrArg nI ?_; omega))) hS (by omega) h0 ?_
    refine J_ige rfl (fun b76 => ?_) (fun b76 => ?_)
    · skip
      refine J_p 1 (ls' := [_, _, _, _, _, _]) rfl ?_
      obtain rfl : kk = len := by omega
      exact J_ret rfl rfl rfl k
    · skip
      exact absurd (nI_le (a := len) (b := kk) (by omega) (by omega)) b76
  | succ d ih =>
    intro kk hk x5 k
    have h8 := h.1.1
    have h0 := h.1.2.1
    rw [hlen] at h0
    obtain ⟨x, hx⟩ := get_of (l := a_q A) (i := kk) (by omega)
    refine J_p 2 (ls' := [_, _, _, _, _, _]) rfl ?_
    refine J_getR rfl hS.t hS.f0 ?_
    refine J_p 1 (ls' := [_, _, _, _, _, _]) rfl ?_
    refine J_gld (n := 0) rfl (by repeat' (first | with_reducible rfl | assumption | with_reducible refine nI_decE ?_ | with_reducible refine nI_addE ?_ ?_ | with_reducible refine nI_mulE ?_ ?_ | with_reducible refine nI_subE ?_ ?_ ?_ | omega | (with_reducible refine congrArg nI ?_; omega))) hS (by omega) h0 ?_
    refine J_ige rfl (fun b76 => ?_) (fun b76 => ?_)
    · skip
      exact absurd b76 (nI_ge (a := kk) (b := len) (by omega) (by omega))
    · skip
      refine J_p 2 (ls' := [_, _, _, _, _, _]) rfl ?_
      refine c_messageOf_i (E := E) (s := cnA (hmQ A m) kk) hS h w (by omega) hm hx rfl (h.1.2.2 kk x hx).2.2.2.2.1 (h.1.2.2 kk x hx).2.2.2.2.2.1 (q_ls x).length 0 (by omega) ?_
      refine J_p 2 (ls' := [_, _, _, _, _, _]) rfl ?_
      rw [nI_add kk 1]
      have e := cnM (m := m) (w.2.1 kk x hx).2.2.2.2.2.2.2.2.2 (q_ls x).length
      refine J_L (ls' := [.ref r, .int (nI m), .int vv, .int (nI (cnA (hmQ A m) (kk + 1))), .int (nI (kk + 1)), .int (nI (q_ls x).length)]) ?_ (ih (kk + 1) (by omega) _ k)
      have e2 : hmQ A m kk = hasM (q_ls x) m (q_ls x).length := by unfold hmQ; rw [hx]
      simp only [cnA, e, e2]
      first | done | rfl

theorem p_messageOf (hS : RS M r) (hW : WS M r) (h : Rep g A) (w : Wf T A) (hT : T + 99 < 2 ^ 20) (m v : Int32) (kR : ∀ (rw_ : Nat) (v_ : Int32), fMessageOf A m v = .inl rw_ → v_ = rfN rw_ → Q (some (.int v_)) (wI (rfM M r rw_) (r + 1) g)) (kO : ∀ (a : Int32) (B : Ab), fMessageOf A m v = .inr (a, B) → ∀ g' : Nat → Int32, Rep g' B → Wf (T + 99) B → Q (some (.int a)) (wI M (r + 1) g')) : J E 224 0 [.ref r, .int m, .int v, U0, U0, U0] [] (wI M (r + 1) g) Q := by
  have m300 := h.2.2.1.1
  refine J_p 4 (ls' := [_, _, _, _, _, _]) rfl ?_
  refine J_getR rfl hS.t hS.f0 ?_
  refine J_p 1 (ls' := [_, _, _, _, _, _]) rfl ?_
  refine J_gld (n := 2) rfl (by repeat' (first | with_reducible rfl | assumption | with_reducible refine nI_decE ?_ | with_reducible refine nI_addE ?_ ?_ | with_reducible refine nI_mulE ?_ ?_ | with_reducible refine nI_subE ?_ ?_ ?_ | omega | (with_reducible refine congrArg nI ?_; omega))) hS (by omega) h.2.2.1.2.1 ?_
  refine J_p 3 (ls' := [_, _, _, _, _, _]) rfl ?_
  refine J_call rfl rfl rfl rfl rfl (c_inX (x := m) (n := (a_m A).length) (by omega) (fun n h12 l12 e12 => ?_) (fun h12 => ?_))
  · skip
    subst e12
    obtain ⟨x, hx⟩ := get_of l12
    have hM := h.2.2.1.2.2 n x hx
    show J _ _ _ _ _ _ _
    refine J_zeq rfl (fun b => absurd b (by decide)) (fun _ => ?_)
    refine J_p 4 (ls' := [_, _, _, _, _, _]) rfl ?_
    refine J_call rfl rfl rfl rfl rfl (c_inZ0 (x := v) (b := 5) (b1 := 6) (by decide) rfl (fun b h24 l24 e24 => ?_) (fun h24 => ?_))
    · skip
      subst e24
      show J _ _ _ _ _ _ _
      refine J_zne rfl (fun _ => ?_) (fun b => absurd b (by decide))
      rcases (show b = 0 ∨ b = 1 ∨ b = 2 ∨ b = 3 ∨ b = 4 ∨ b = 5 from by omega) with rfl | rfl | rfl | rfl | rfl | rfl
      · skip
        refine J_p 2 (ls' := [_, _, _, _, _, _]) rfl ?_
        refine J_ige rfl (fun b39 => ?_) (fun b39 => ?_)
        · skip
          exact absurd b39 (by decide)
        · skip
          refine J_p 5 (ls' := [_, _, _, _, _, _]) rfl ?_
          refine J_n0 (n := 5 + 0) (by repeat' (first | with_reducible rfl | assumption | with_reducible refine nI_decE ?_ | with_reducible refine nI_addE ?_ ?_ | with_reducible refine nI_mulE ?_ ?_ | with_reducible refine nI_subE ?_ ?_ ?_ | omega | (with_reducible refine congrArg nI ?_; omega))) ?_
          refine J_call rfl rfl rfl (decide_eq_true hS.t) rfl (c_message hS n 5 (by omega) hM.2.1 ?_)
          show J _ _ _ _ _ _ _
          exact J_ret rfl rfl rfl (kO _ _ (by simp only [fMessageOf, h12, hx, h24, if_true, if_false, reduceIte, moA]) g h (w.mono (by omega) hT))
      · skip
        refine J_p 2 (ls' := [_, _, _, _, _, _]) rfl ?_
        refine J_ige rfl (fun b39 => ?_) (fun b39 => ?_)
        · skip
          exact absurd b39 (by decide)
        · skip
          refine J_p 5 (ls' := [_, _, _, _, _, _]) rfl ?_
          refine J_n0 (n := 5 + 1) (by repeat' (first | with_reducible rfl | assumption | with_reducible refine nI_decE ?_ | with_reducible refine nI_addE ?_ ?_ | with_reducible refine nI_mulE ?_ ?_ | with_reducible refine nI_subE ?_ ?_ ?_ | omega | (with_reducible refine congrArg nI ?_; omega))) ?_
          refine J_call rfl rfl rfl (decide_eq_true hS.t) rfl (c_message hS n 6 (by omega) hM.2.2.1 ?_)
          show J _ _ _ _ _ _ _
          exact J_ret rfl rfl rfl (kO _ _ (by simp only [fMessageOf, h12, hx, h24, if_true, if_false, reduceIte, moA]) g h (w.mono (by omega) hT))
      · skip
        refine J_p 2 (ls' := [_, _, _, _, _, _]) rfl ?_
        refine J_ige rfl (fun b39 => ?_) (fun b39 => ?_)
        · skip
          exact absurd b39 (by decide)
        · skip
          refine J_p 5 (ls' := [_, _, _, _, _, _]) rfl ?_
          refine J_n0 (n := 5 + 2) (by repeat' (first | with_reducible rfl | assumption | with_reducible refine nI_decE ?_ | with_reducible refine nI_addE ?_ ?_ | with_reducible refine nI_mulE ?_ ?_ | with_reducible refine nI_subE ?_ ?_ ?_ | omega | (with_reducible refine congrArg nI ?_; omega))) ?_
          refine J_call rfl rfl rfl (decide_eq_true hS.t) rfl (c_message hS n 7 (by omega) hM.2.2.2.1 ?_)
          show J _ _ _ _ _ _ _
          exact J_ret rfl rfl rfl (kO _ _ (by simp only [fMessageOf, h12, hx, h24, if_true, if_false, reduceIte, moA]) g h (w.mono (by omega) hT))
      · skip
        refine J_p 2 (ls' := [_, _, _, _, _, _]) rfl ?_
        refine J_ige rfl (fun b39 => ?_) (fun b39 => ?_)
        · skip
          exact absurd b39 (by decide)
        · skip
          refine J_p 5 (ls' := [_, _, _, _, _, _]) rfl ?_
          refine J_n0 (n := 5 + 3) (by repeat' (first | with_reducible rfl | assumption | with_reducible refine nI_decE ?_ | with_reducible refine nI_addE ?_ ?_ | with_reducible refine nI_mulE ?_ ?_ | with_reducible refine nI_subE ?_ ?_ ?_ | omega | (with_reducible refine congrArg nI ?_; omega))) ?_
          refine J_call rfl rfl rfl (decide_eq_true hS.t) rfl (c_message hS n 8 (by omega) hM.2.2.2.2 ?_)
          show J _ _ _ _ _ _ _
          exact J_ret rfl rfl rfl (kO _ _ (by simp only [fMessageOf, h12, hx, h24, if_true, if_false, reduceIte, moA]) g h (w.mono (by omega) hT))
      · skip
        refine J_p 2 (ls' := [_, _, _, _, _, _]) rfl ?_
        refine J_ige rfl (fun b39 => ?_) (fun b39 => ?_)
        · skip
          refine J_p 2 (ls' := [_, _, _, _, _, _]) rfl ?_
          refine J_ine rfl (fun b53 => ?_) (fun b53 => ?_)
          · skip
            refine J_p 4 (ls' := [_, _, _, _, _, _]) rfl ?_
            refine c_messageOf_o (E := E) (m := n) hS h w (by omega) rfl (a_q A).length 0 (by omega) _ ?_
            exact kO _ _ (by simp only [fMessageOf, h12, h24, hx, moA]) g h (w.mono (by omega) hT)
          · skip
            exact absurd b53 (by decide)
        · skip
          exact absurd (by decide) b39
      · skip
        refine J_p 2 (ls' := [_, _, _, _, _, _]) rfl ?_
        refine J_ige rfl (fun b39 => ?_) (fun b39 => ?_)
        · skip
          refine J_p 2 (ls' := [_, _, _, _, _, _]) rfl ?_
          refine J_ine rfl (fun b53 => ?_) (fun b53 => ?_)
          · skip
            exact absurd rfl b53
          · skip
            refine J_p 3 (ls' := [_, _, _, _, _, _]) rfl ?_
            refine J_call rfl rfl rfl (decide_eq_true hS.t) rfl (c_message hS n 0 (by omega) hM.1 ?_)
            show J _ _ _ _ _ _ _
            exact J_ret rfl rfl rfl (kO _ _ (by simp only [fMessageOf, h12, hx, h24, if_true, if_false, reduceIte, moA]) g h (w.mono (by omega) hT))
        · skip
          exact absurd (by decide) b39
    · skip
      show J _ _ _ _ _ _ _
      refine J_zne rfl (fun b => absurd rfl b) (fun _ => ?_)
      refine J_p 2 (ls' := [_, _, _, _, _, _]) rfl ?_
      refine J_call rfl rfl rfl (decide_eq_true hS.t) rfl (c_refused hS 0 (by decide) (by decide) ?_)
      show J _ _ _ _ _ _ _
      exact J_ret rfl rfl rfl (kR 0 _ (by simp only [fMessageOf, h12, hx, h24, if_true, if_false, reduceIte]) (by decide))
  · skip
    show J _ _ _ _ _ _ _
    refine J_zeq rfl (fun _ => ?_) (fun b => absurd rfl b)
    refine J_p 2 (ls' := [_, _, _, _, _, _]) rfl ?_
    refine J_call rfl rfl rfl (decide_eq_true hS.t) rfl (c_refused hS 0 (by decide) (by decide) ?_)
    show J _ _ _ _ _ _ _
    exact J_ret rfl rfl rfl (kR 0 _ (by simp only [fMessageOf, h12, if_true, if_false, reduceIte]) (by decide))

end PUB10