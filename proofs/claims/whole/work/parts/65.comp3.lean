/-! THE COMPONENT: a queue's cells; its readers. -/
theorem cnA_t {p : Nat → Bool} {n : Nat} (h : p n = true) : cnA p (n + 1) = cnA p n + 1 := by
  show cnA p n + (if p n = true then 1 else 0) = _
  rw [if_pos h]
theorem cnA_f {p : Nat → Bool} {n : Nat} (h : ¬ p n = true) : cnA p (n + 1) = cnA p n := by
  show cnA p n + (if p n = true then 1 else 0) = _
  rw [if_neg h]
  rfl
def CL (M : Mm) (p : Nat) (l : La) (ms : List Ma) : Prop := mI M p 0 = nI (l_m l) ∧ mI M p 1 = nI (kyA ms l) ∧ mI M p 2 = nI (prA ms l) ∧ mI M p 3 = nI (pbA ms l) ∧ mI M p 4 = nI (l_s l) ∧ mI M p 5 = nI (l_c l).length ∧ mI M p 6 = whoI l ∧ mI M p 7 = tillI l ∧ CaR M (l_c l) (mR M p 8)
/-- a queue's cells: a, its pattern a + 1 .. a + 3, the letters' row a + 4, letters a + 5 .. a + 24 in the order f -/
def QS (M : Mm) (a q : Nat) (f : Nat → Nat) : Prop := mT M a = 6 ∧ mI M a 0 = nI q ∧ mR M a 1 = some (a + 1) ∧ mR M a 2 = some (a + 4) ∧ PS M (a + 1) ∧ mT M (a + 4) = 25 ∧ mS M (a + 4) = 20 ∧ (∀ i, i < 20 → mR M (a + 4) i = some (a + 5 + f i) ∧ f i < 20) ∧ (∀ i j, i < 20 → j < 20 → f i = f j → i = j) ∧ (∀ i, i < 20 → mT M (a + 5 + i) = 3)
def QC (M : Mm) (a : Nat) (f : Nat → Nat) (x : Qa) (ms : List Ma) : Prop := PC M (a + 1) (q_p x) (q_x x) ∧ (mI M a 3 = nI (q_ls x).length ∧ (q_ls x).length ≤ 20) ∧ mI M a 4 = nI (q_li x) ∧ mI M a 5 = nI (q_tr x) ∧ mI M a 6 = nI (q_le x) ∧ mI M a 7 = nI (q_ag x) ∧ mI M a 8 = nI (q_ex x) ∧ mI M a 9 = nI (q_l1 x) - nI 1 ∧ mI M a 10 = q_gv x ∧ mI M a 11 = q_ak x ∧ mI M a 12 = q_di x ∧ ∀ (i : Nat) (l : La), (q_ls x)[i]? = some l → CL M (a + 5 + f i) l ms
theorem QS.el {M : Mm} {a q i : Nat} {f : Nat → Nat} (h : QS M a q f) (hi : i < 20) : mR M (a + 4) i = some (a + 5 + f i) := (h.2.2.2.2.2.2.2.1 i hi).1
theorem QS.lt {M : Mm} {a q i : Nat} {f : Nat → Nat} (h : QS M a q f) (hi : i < 20) : f i < 20 := (h.2.2.2.2.2.2.2.1 i hi).2
theorem QS.t3 {M : Mm} {a q i : Nat} {f : Nat → Nat} (h : QS M a q f) (hi : i < 20) : mT M (a + 5 + f i) = 3 := h.2.2.2.2.2.2.2.2.2 _ (h.lt hi)
theorem QC.n {M : Mm} {a : Nat} {f : Nat → Nat} {x : Qa} {ms : List Ma} (h : QC M a f x ms) : mI M a 3 = nI (q_ls x).length := h.2.1.1
theorem QC.n20 {M : Mm} {a : Nat} {f : Nat → Nat} {x : Qa} {ms : List Ma} (h : QC M a f x ms) : (q_ls x).length ≤ 20 := h.2.1.2
theorem QC.l {M : Mm} {a : Nat} {f : Nat → Nat} {x : Qa} {ms : List Ma} (h : QC M a f x ms) {i : Nat} {l : La} (hl : (q_ls x)[i]? = some l) : CL M (a + 5 + f i) l ms := h.2.2.2.2.2.2.2.2.2.2.2 i l hl
/-- the first letter of a message -/
def plA (L : List La) (m : Int32) : Nat → Nat → Option Nat
  | 0, _ => none
  | d + 1, i => match L[i]? with
    | none => none
    | some l => if nI (l_m l) = m then some i else plA L m d (i + 1)
theorem plA_at {L : List La} {m : Int32} : ∀ (d i p : Nat), plA L m d i = some p → i ≤ p ∧ ∃ l, L[p]? = some l ∧ nI (l_m l) = m
  | 0, _, _, h => by cases h
  | d + 1, i, p, h => by
    unfold plA at h
    cases hl : L[i]? with
    | none => rw [hl] at h; cases h
    | some l =>
      rw [hl] at h
      simp only at h
      by_cases c : nI (l_m l) = m
      · rw [if_pos c] at h; cases h; exact ⟨Nat.le_refl _, l, hl, c⟩
      · rw [if_neg c] at h
        obtain ⟨h1, h2⟩ := plA_at d (i + 1) p h
        exact ⟨by omega, h2⟩
section COMP3
variable {E : Nat × Nat} {M : Mm} {Q : Option Value → Mm → Prop} {a q : Nat} {f : Nat → Nat} {x : Qa} {ms : List Ma}
theorem c_isFull (hS : QS M a q f) (hC : QC M a f x ms) (hli : q_li x ≤ 20) (hle : (q_ls x).length ≤ q_li x) (kt : (q_ls x).length = q_li x → Q (some (.int (nI 1))) M) (kf : ¬ (q_ls x).length = q_li x → Q (some (.int (nI 0))) M) : J E 35 0 [.ref a] [] M Q := by
  have n20 := hC.n20
  have A20 : (q_ls x).length = q_li x → J E 35 20 [.ref a] [] M Q := fun h => by
    refine J_p 2 (ls' := [_]) rfl ?_
    exact J_retB rfl (by decide) (kt h)
  refine J_p 1 (ls' := [_]) rfl ?_
  refine J_gi rfl hS.1 hC.n ?_
  refine J_p 1 (ls' := [_]) rfl ?_
  refine J_gi rfl hS.1 hC.2.2.1 ?_
  refine J_ige rfl (fun b => A20 ?_) (fun b => ?_)
  · have := (nI_leI (by omega) (by omega)).mp b
    omega
  · have hlt : (q_ls x).length < q_li x := by
      rcases Nat.lt_or_ge (q_ls x).length (q_li x) with z | z
      · exact z
      · exact absurd (nI_le z (by omega)) b
    refine J_p 1 (ls' := [_]) rfl ?_
    refine J_gi rfl hS.1 hC.n ?_
    refine J_p 1 (ls' := [_]) rfl ?_
    refine J_ilt rfl (fun _ => ?_) (fun b => absurd (nI_lt (by omega) (by omega)) b)
    refine J_p 1 (ls' := [_]) rfl ?_
    exact J_retB rfl (by decide) (kf (by omega))
theorem c_letterAt (hS : QS M a q f) (hC : QC M a f x ms) {s : Int32} (kt : ∀ (i : Nat) (l : La), ixN s (q_ls x).length = some i → (q_ls x)[i]? = some l → i < (q_ls x).length → s = nI i → Q (some (.ref (a + 5 + f i))) M) (kf : ixN s (q_ls x).length = none → Q (some .null) M) : J E 36 0 [.ref a, .int s] [] M Q := by
  have n20 := hC.n20
  have F : ixN s (q_ls x).length = none → J E 36 27 [.ref a, .int s] [] M Q := fun h => by
    refine J_p 1 (ls' := [_, _]) rfl ?_
    exact J_ret rfl rfl rfl (kf h)
  have h00 : (0 : Int32).toInt = 0 := by decide
  refine J_p 1 (ls' := [_, _]) rfl ?_
  cases e : ixN s (q_ls x).length with
  | none =>
    have hn := ixN_none e
    refine J_zlt rfl (fun b => F e) (fun b => ?_)
    refine J_p 2 (ls' := [_, _]) rfl ?_
    refine J_gi rfl hS.1 hC.n ?_
    refine J_ige rfl (fun b2 => F e) (fun b2 => ?_)
    rw [Int32.le_iff_toInt_le, nI_toInt (by omega)] at b2
    rw [Int32.lt_iff_toInt_lt] at b
    exact absurd ⟨by omega, by omega⟩ hn
  | some i =>
    obtain ⟨h1, h2, _⟩ := ixN_some e
    subst h2
    obtain ⟨l, hl⟩ := get_of h1
    refine J_zlt rfl (fun b => absurd b (nI_pos (by omega))) (fun _ => ?_)
    refine J_p 2 (ls' := [_, _]) rfl ?_
    refine J_gi rfl hS.1 hC.n ?_
    refine J_ige rfl (fun b => absurd b (nI_ge (by omega) (by omega))) (fun _ => ?_)
    refine J_p 2 (ls' := [_, _]) rfl ?_
    refine J_ige rfl (fun b => absurd b (nI_ge (by omega) (by omega))) (fun _ => ?_)
    refine J_p 1 (ls' := [_, _]) rfl ?_
    refine J_getR rfl hS.1 hS.2.2.2.1 ?_
    refine J_p 1 (ls' := [_, _]) rfl ?_
    refine J_aald (n := i) rfl rfl (by rw [hS.2.2.2.2.2.1]; rfl) hS.2.2.2.2.2.2.1 (by omega) (by omega) (hS.el (by omega)) ?_
    refine J_p 1 (ls' := [_, _]) rfl ?_
    exact J_ret rfl rfl rfl (kt i l e hl h1 rfl)
theorem c_isOutWith {p c : Nat} {l : La} (ht : mT M p = 3) (hL : CL M p l ms) (hs : l_s l ≤ 2) (hx : l_s l = 2 → l_x l < 2 ^ 31) (hc : c < 2 ^ 31) (kt : l_s l = 2 → l_x l = c → Q (some (.int (nI 1))) M) (kf : ¬ (l_s l = 2 ∧ l_x l = c) → Q (some (.int (nI 0))) M) : J E 14 0 [.ref p, .int (nI c)] [] M Q := by
  obtain ⟨_, _, _, _, h4, _, h6, _⟩ := hL
  refine J_p 1 (ls' := [_, _]) rfl ?_
  refine J_gi rfl ht h4 ?_
  refine J_p 1 (ls' := [_, _]) rfl ?_
  refine J_ine rfl (fun b => ?_) (fun b => ?_)
  · refine J_p 1 (ls' := [_, _]) rfl ?_
    exact J_retB rfl (by decide) (kf (fun y => b (by rw [y.1])))
  · have e2 : l_s l = 2 := (nI_eq (by omega) (by omega)).mp b
    have hx' := hx e2
    refine J_p 1 (ls' := [_, _]) rfl ?_
    refine J_gi rfl ht h6 ?_
    refine J_p 1 (ls' := [_, _]) rfl ?_
    unfold whoI
    rw [if_pos e2]
    refine J_ine rfl (fun b2 => ?_) (fun b2 => ?_)
    · refine J_p 1 (ls' := [_, _]) rfl ?_
      exact J_retB rfl (by decide) (kf (fun y => b2 (by rw [y.2])))
    · refine J_p 2 (ls' := [_, _]) rfl ?_
      exact J_retB rfl (by decide) (kt e2 ((nI_eq hx' hc).mp b2))

theorem c_countIn (hS : QS M a q f) (hC : QC M a f x ms) {s : Nat} (hs : s ≤ 2) (hw : ∀ (i : Nat) (l : La), (q_ls x)[i]? = some l → l_s l ≤ 2) (k : Q (some (.int (nI (cnA (stB (q_ls x) s) (q_ls x).length)))) M) : J E 39 0 [.ref a, .int (nI s), U0, U0] [] M Q := by
  have n20 := hC.n20
  have loop : ∀ (d kk : Nat), kk + d = (q_ls x).length → J E 39 4 [.ref a, .int (nI s), .int (nI (cnA (stB (q_ls x) s) kk)), .int (nI kk)] [] M Q := by
    intro d
    induction d with
    | zero =>
      intro kk hk
      have hkk : kk = (q_ls x).length := by omega
      refine J_p 2 (ls' := [_, _, _, _]) rfl ?_
      refine J_gi rfl hS.1 hC.n ?_
      refine J_ige rfl (fun _ => ?_) (fun b => absurd (nI_le (by omega) (by omega)) b)
      refine J_p 1 (ls' := [_, _, _, _]) rfl ?_
      subst hkk
      exact J_ret rfl rfl rfl k
    | succ d ih =>
      intro kk hk
      obtain ⟨l, hl⟩ := get_of (l := q_ls x) (i := kk) (by omega)
      have hL := hC.l hl
      have ht := hS.t3 (i := kk) (by omega)
      refine J_p 2 (ls' := [_, _, _, _]) rfl ?_
      refine J_gi rfl hS.1 hC.n ?_
      refine J_ige rfl (fun b => absurd b (nI_ge (by omega) (by omega))) (fun _ => ?_)
      refine J_p 1 (ls' := [_, _, _, _]) rfl ?_
      refine J_getR rfl hS.1 hS.2.2.2.1 ?_
      refine J_p 1 (ls' := [_, _, _, _]) rfl ?_
      refine J_aald (n := kk) rfl rfl (by rw [hS.2.2.2.2.2.1]; rfl) hS.2.2.2.2.2.2.1 (by omega) (by omega) (hS.el (by omega)) ?_
      refine J_gi rfl ht hL.2.2.2.2.1 ?_
      refine J_p 1 (ls' := [_, _, _, _]) rfl ?_
      have hl2 := hw kk l hl
      have es : stB (q_ls x) s kk = decide (l_s l = s) := by unfold stB; rw [hl]
      refine J_ine rfl (fun b => ?_) (fun b => ?_)
      · refine J_p 2 (ls' := [_, _, _, _]) rfl ?_
        rw [nI_add kk 1]
        have e : cnA (stB (q_ls x) s) (kk + 1) = cnA (stB (q_ls x) s) kk := cnA_f (by rw [es, decide_eq_false (fun y => b (by rw [y]))]; decide)
        rw [← e]
        exact ih (kk + 1) (by omega)
      · refine J_p 3 (ls' := [_, _, _, _]) rfl ?_
        rw [nI_add kk 1, nI_add (cnA (stB (q_ls x) s) kk) 1]
        have e : cnA (stB (q_ls x) s) (kk + 1) = cnA (stB (q_ls x) s) kk + 1 := by
          have := (nI_eq (by omega) (by omega)).mp b
          exact cnA_t (by rw [es]; exact decide_eq_true this)
        rw [← e]
        exact ih (kk + 1) (by omega)
  refine J_p 4 (ls' := [_, _, _, _]) rfl ?_
  exact loop (q_ls x).length 0 (by omega)

theorem c_placeOf (hS : QS M a q f) (hC : QC M a f x ms) {m : Int32} (k : Q (some (.int (oI (plA (q_ls x) m (q_ls x).length 0)))) M) : J E 41 0 [.ref a, .int m, U0] [] M Q := by
  have n20 := hC.n20
  have loop : ∀ (d kk : Nat), kk + d = (q_ls x).length → Q (some (.int (oI (plA (q_ls x) m d kk)))) M → J E 41 2 [.ref a, .int m, .int (nI kk)] [] M Q := by
    intro d
    induction d with
    | zero =>
      intro kk hk k'
      have hkk : kk = (q_ls x).length := by omega
      refine J_p 2 (ls' := [_, _, _]) rfl ?_
      refine J_gi rfl hS.1 hC.n ?_
      refine J_ige rfl (fun _ => ?_) (fun b => absurd (nI_le (by omega) (by omega)) b)
      refine J_p 1 (ls' := [_, _, _]) rfl ?_
      exact J_ret rfl rfl rfl k'
    | succ d ih =>
      intro kk hk k'
      obtain ⟨l, hl⟩ := get_of (l := q_ls x) (i := kk) (by omega)
      have hL := hC.l hl
      have ht := hS.t3 (i := kk) (by omega)
      refine J_p 2 (ls' := [_, _, _]) rfl ?_
      refine J_gi rfl hS.1 hC.n ?_
      refine J_ige rfl (fun b => absurd b (nI_ge (by omega) (by omega))) (fun _ => ?_)
      refine J_p 1 (ls' := [_, _, _]) rfl ?_
      refine J_getR rfl hS.1 hS.2.2.2.1 ?_
      refine J_p 1 (ls' := [_, _, _]) rfl ?_
      refine J_aald (n := kk) rfl rfl (by rw [hS.2.2.2.2.2.1]; rfl) hS.2.2.2.2.2.2.1 (by omega) (by omega) (hS.el (by omega)) ?_
      refine J_gi rfl ht hL.1 ?_
      refine J_p 1 (ls' := [_, _, _]) rfl ?_
      refine J_ine rfl (fun b => ?_) (fun b => ?_)
      · have e : plA (q_ls x) m (d + 1) kk = plA (q_ls x) m d (kk + 1) := by simp only [plA, hl, if_neg b]
        refine J_p 2 (ls' := [_, _, _]) rfl ?_
        rw [nI_add kk 1]
        exact ih (kk + 1) (by omega) (e ▸ k')
      · have e : plA (q_ls x) m (d + 1) kk = some kk := by simp only [plA, hl, if_pos b]
        rw [e] at k'
        refine J_p 1 (ls' := [_, _, _]) rfl ?_
        exact J_ret rfl rfl rfl k'
  refine J_p 2 (ls' := [_, _, _]) rfl ?_
  exact loop (q_ls x).length 0 (by omega) k

theorem c_nthOut (hS : QS M a q f) (hC : QC M a f x ms) {c : Nat} {t : Int32} (hc : c < 2 ^ 31) (hw : ∀ (i : Nat) (l : La), (q_ls x)[i]? = some l → l_s l ≤ 2 ∧ (l_s l = 2 → l_x l < 2 ^ 31)) (k : Q (some (.int (oI (htA (q_ls x) c t (q_ls x).length 0 0)))) M) : J E 43 0 [.ref a, .int (nI c), .int t, U0, U0] [] M Q := by
  have n20 := hC.n20
  have loop : ∀ (d kk : Nat), kk + d = (q_ls x).length → ∀ n : Nat, Q (some (.int (oI (htA (q_ls x) c t d kk n)))) M → J E 43 5 [.ref a, .int (nI c), .int t, .int (nI n), .int (nI kk)] [] M Q := by
    intro d
    induction d with
    | zero =>
      intro kk hk n k'
      have hkk : kk = (q_ls x).length := by omega
      refine J_p 2 (ls' := [_, _, _, _, _]) rfl ?_
      refine J_gi rfl hS.1 hC.n ?_
      refine J_ige rfl (fun _ => ?_) (fun b => absurd (nI_le (by omega) (by omega)) b)
      refine J_p 1 (ls' := [_, _, _, _, _]) rfl ?_
      exact J_ret rfl rfl rfl k'
    | succ d ih =>
      intro kk hk n k'
      obtain ⟨l, hl⟩ := get_of (l := q_ls x) (i := kk) (by omega)
      have hL := hC.l hl
      have ht := hS.t3 (i := kk) (by omega)
      refine J_p 2 (ls' := [_, _, _, _, _]) rfl ?_
      refine J_gi rfl hS.1 hC.n ?_
      refine J_ige rfl (fun b => absurd b (nI_ge (by omega) (by omega))) (fun _ => ?_)
      refine J_p 1 (ls' := [_, _, _, _, _]) rfl ?_
      refine J_getR rfl hS.1 hS.2.2.2.1 ?_
      refine J_p 1 (ls' := [_, _, _, _, _]) rfl ?_
      refine J_aald (n := kk) rfl rfl (by rw [hS.2.2.2.2.2.1]; rfl) hS.2.2.2.2.2.2.1 (by omega) (by omega) (hS.el (by omega)) ?_
      refine J_p 1 (ls' := [_, _, _, _, _]) rfl ?_
      refine J_call rfl rfl rfl (decide_eq_true ht) rfl (c_isOutWith ht hL (hw kk l hl).1 (hw kk l hl).2 hc (fun o1 o2 => ?_) (fun o => ?_))
      · have ho : outB (q_ls x) c kk = true := (outB_iff hl).mpr ⟨o1, o2⟩
        show J _ _ _ _ _ _ _
        refine J_zeq rfl (fun b => absurd b (by decide)) (fun _ => ?_)
        refine J_p 2 (ls' := [_, _, _, _, _]) rfl ?_
        refine J_ine rfl (fun b => ?_) (fun b => ?_)
        · have e : htA (q_ls x) c t (d + 1) kk n = htA (q_ls x) c t d (kk + 1) (n + 1) := by simp only [htA, if_pos ho, if_neg b]
          refine J_p 3 (ls' := [_, _, _, _, _]) rfl ?_
          rw [nI_add kk 1, nI_add n 1]
          exact ih (kk + 1) (by omega) (n + 1) (e ▸ k')
        · have e : htA (q_ls x) c t (d + 1) kk n = some kk := by simp only [htA, if_pos ho, if_pos b]
          rw [e] at k'
          refine J_p 1 (ls' := [_, _, _, _, _]) rfl ?_
          exact J_ret rfl rfl rfl k'
      · have ho : ¬ outB (q_ls x) c kk = true := fun y => o ((outB_iff hl).mp y)
        have e : htA (q_ls x) c t (d + 1) kk n = htA (q_ls x) c t d (kk + 1) n := by simp only [htA, if_neg ho]
        show J _ _ _ _ _ _ _
        refine J_zeq rfl (fun _ => ?_) (fun b => absurd rfl b)
        refine J_p 2 (ls' := [_, _, _, _, _]) rfl ?_
        rw [nI_add kk 1]
        exact ih (kk + 1) (by omega) n (e ▸ k')
  refine J_p 4 (ls' := [_, _, _, _, _]) rfl ?_
  exact loop (q_ls x).length 0 (by omega) 0 k

theorem c_countOut (hS : QS M a q f) (hC : QC M a f x ms) {c : Nat} (hc : c < 2 ^ 31) (hw : ∀ (i : Nat) (l : La), (q_ls x)[i]? = some l → l_s l ≤ 2 ∧ (l_s l = 2 → l_x l < 2 ^ 31)) (k : Q (some (.int (nI (cnA (outB (q_ls x) c) (q_ls x).length)))) M) : J E 44 0 [.ref a, .int (nI c), U0, U0] [] M Q := by
  have n20 := hC.n20
  have loop : ∀ (d kk : Nat), kk + d = (q_ls x).length → J E 44 4 [.ref a, .int (nI c), .int (nI (cnA (outB (q_ls x) c) kk)), .int (nI kk)] [] M Q := by
    intro d
    induction d with
    | zero =>
      intro kk hk
      have hkk : kk = (q_ls x).length := by omega
      refine J_p 2 (ls' := [_, _, _, _]) rfl ?_
      refine J_gi rfl hS.1 hC.n ?_
      refine J_ige rfl (fun _ => ?_) (fun b => absurd (nI_le (by omega) (by omega)) b)
      refine J_p 1 (ls' := [_, _, _, _]) rfl ?_
      subst hkk
      exact J_ret rfl rfl rfl k
    | succ d ih =>
      intro kk hk
      obtain ⟨l, hl⟩ := get_of (l := q_ls x) (i := kk) (by omega)
      have hL := hC.l hl
      have ht := hS.t3 (i := kk) (by omega)
      refine J_p 2 (ls' := [_, _, _, _]) rfl ?_
      refine J_gi rfl hS.1 hC.n ?_
      refine J_ige rfl (fun b => absurd b (nI_ge (by omega) (by omega))) (fun _ => ?_)
      refine J_p 1 (ls' := [_, _, _, _]) rfl ?_
      refine J_p 1 (ls' := [_, _, _, _]) rfl ?_
      refine J_getR rfl hS.1 hS.2.2.2.1 ?_
      refine J_p 1 (ls' := [_, _, _, _]) rfl ?_
      refine J_aald (n := kk) rfl rfl (by rw [hS.2.2.2.2.2.1]; rfl) hS.2.2.2.2.2.2.1 (by omega) (by omega) (hS.el (by omega)) ?_
      refine J_p 1 (ls' := [_, _, _, _]) rfl ?_
      refine J_call rfl rfl rfl (decide_eq_true ht) rfl (c_isOutWith ht hL (hw kk l hl).1 (hw kk l hl).2 hc (fun o1 o2 => ?_) (fun o => ?_))
      · have ho : outB (q_ls x) c kk = true := (outB_iff hl).mpr ⟨o1, o2⟩
        show J _ _ _ _ _ _ _
        refine J_call rfl rfl rfl rfl rfl (c_asBit1 ?_)
        show J _ _ _ _ _ _ _
        refine J_p 4 (ls' := [_, _, _, _]) rfl ?_
        rw [nI_add kk 1, nI_add (cnA (outB (q_ls x) c) kk) 1]
        have e : cnA (outB (q_ls x) c) (kk + 1) = cnA (outB (q_ls x) c) kk + 1 := cnA_t ho
        rw [← e]
        exact ih (kk + 1) (by omega)
      · have ho : ¬ outB (q_ls x) c kk = true := fun y => o ((outB_iff hl).mp y)
        show J _ _ _ _ _ _ _
        refine J_call rfl rfl rfl rfl rfl (c_asBit0 ?_)
        show J _ _ _ _ _ _ _
        refine J_p 4 (ls' := [_, _, _, _]) rfl ?_
        rw [nI_add kk 1, nI_add (cnA (outB (q_ls x) c) kk) 0]
        have e : cnA (outB (q_ls x) c) (kk + 1) = cnA (outB (q_ls x) c) kk + 0 := cnA_f ho
        rw [← e]
        exact ih (kk + 1) (by omega)
  refine J_p 4 (ls' := [_, _, _, _]) rfl ?_
  exact loop (q_ls x).length 0 (by omega)

end COMP3