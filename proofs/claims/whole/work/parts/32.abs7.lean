/-! THE ABSTRACT STATE: who gets it, what a consumer has out, counts. -/
def atA (C : List Co) (q c : Nat) : Bool := match C[c]? with
  | none => false
  | some k => decide (k_lf k = 0) && decide (k_q k = q)
def crA (C : List Co) (c : Nat) : Nat := k_cr (C.getD c (0, 0, 0, 0))
def fcA (C : List Co) (q : Nat) : Nat → Nat → Option Nat
  | 0, _ => none
  | d + 1, c => if atA C q c = true then some c else fcA C q d (c + 1)
def rrA (C : List Co) (q nc l1 : Nat) : Nat → Nat → Option Nat
  | 0, _ => none
  | d + 1, k => if atA C q ((l1 + k) % nc) = true ∧ 0 < crA C ((l1 + k) % nc) then some ((l1 + k) % nc) else rrA C q nc l1 d (k + 1)
def whoA (C : List Co) (q ex l1 : Nat) : Option Nat :=
  if ex = 1 then (match fcA C q C.length 0 with
    | none => none
    | some c => if 0 < crA C c then some c else none) else rrA C q C.length l1 C.length 0
/-- the first letter from i on that consumer c has out (of message m, if one is told) -/
def isA (L : List La) (c : Nat) (m : Option Nat) (i : Nat) : Bool := match L[i]? with
  | none => false
  | some l => decide (l_s l = 2 ∧ l_x l = c ∧ (m = none ∨ m = some (l_m l)))
theorem isA_iff {L : List La} {c i : Nat} {m : Option Nat} : isA L c m i = true ↔ ∃ l : La, L[i]? = some l ∧ l_s l = 2 ∧ l_x l = c ∧ (m = none ∨ m = some (l_m l)) := by
  unfold isA
  constructor
  · intro h
    split at h
    · cases h
    · rename_i l hl
      exact ⟨l, hl, of_decide_eq_true h⟩
  · rintro ⟨l, hl, h⟩
    rw [hl]
    exact decide_eq_true h
def oaA (L : List La) (c : Nat) (m : Option Nat) : Nat → Nat → Option Nat
  | 0, _ => none
  | d + 1, i => if isA L c m i = true then some i else oaA L c m d (i + 1)
def cnA (p : Nat → Bool) : Nat → Nat
  | 0 => 0
  | n + 1 => cnA p n + (if p n = true then 1 else 0)
def suA (f : Nat → Nat) : Nat → Nat
  | 0 => 0
  | n + 1 => suA f n + f n
theorem sumS_o1 {P : Nat → Prop} [∀ i, Decidable (P i)] {p : Nat → Bool} : ∀ n, (∀ i, i < n → (P i ↔ p i = true)) → sumS (fun i => o1 (P i)) n = nI (cnA p n)
  | 0, _ => rfl
  | n + 1, h => by
    unfold sumS cnA
    rw [sumS_o1 n (fun i hi => h i (by omega))]
    have := h n (by omega)
    unfold o1
    by_cases c : P n
    · rw [if_pos c, if_pos (this.mp c), nI_add]
    · rw [if_neg c, if_neg (fun e => c (this.mpr e)), nI_add]
theorem sumS_su {f : Nat → Int32} {p : Nat → Nat} : ∀ n, (∀ i, i < n → f i = nI (p i)) → sumS f n = nI (suA p n)
  | 0, _ => rfl
  | n + 1, h => by
    unfold sumS suA
    rw [sumS_su n (fun i hi => h i (by omega)), h n (by omega), nI_add]
theorem cnA_le (p : Nat → Bool) : ∀ n, cnA p n ≤ n
  | 0 => Nat.le_refl _
  | n + 1 => by
    unfold cnA
    have := cnA_le p n
    split <;> omega
section ABS7
variable {g : Nat → Int32} {A : Ab} {T q : Nat} {x : Qa}
theorem Rep.at (h : Rep g A) (w : Wf T A) (hq : q < 8) {c : Nat} (hc : c < (a_c A).length) : atS g q c = atA (a_c A) q c := by
  obtain ⟨k, hk⟩ := get_of hc
  have hK := h.2.1.2.2 c k hk
  have hW := w.2.2.1 c k hk
  have h8 := h.1.1
  unfold atS atA
  rw [hk, hK.2.2.1, hK.1, Bool.eq_iff_iff]
  simp only [Bool.and_eq_true, decide_eq_true_eq]
  rw [show ((nI (k_lf k) = (0 : Int32)) ↔ k_lf k = 0) from nI_eq (b := 0) (by have := hW.2.2.1; omega) (by omega), nI_eq (by have := hW.1; omega) (by omega)]
theorem Rep.crd (h : Rep g A) {c : Nat} (hc : c < (a_c A).length) : g (11 + 4 * c + 1) = nI (crA (a_c A) c) := by
  obtain ⟨k, hk⟩ := get_of hc
  unfold crA
  rw [getD_of hk]
  exact (h.2.1.2.2 c k hk).2.1
theorem Rep.cr9 (w : Wf T A) (c : Nat) : crA (a_c A) c ≤ 9 := by
  unfold crA
  cases e : (a_c A)[c]? with
  | none => rw [List.getD_eq_getElem?_getD, e]; exact Nat.zero_le 9
  | some k => rw [getD_of e]; exact (w.2.2.1 c k e).2.1
theorem Rep.crp (h : Rep g A) (w : Wf T A) {c : Nat} (hc : c < (a_c A).length) : (0 < g (11 + 4 * c + 1)) ↔ 0 < crA (a_c A) c := by
  rw [h.crd hc]
  have := Rep.cr9 w c
  exact nI_ltI (a := 0) (by omega) (by omega)
theorem Rep.fc (h : Rep g A) (w : Wf T A) (hq : q < 8) : ∀ d c, c + d = (a_c A).length → fcS g q d c = fcA (a_c A) q d c
  | 0, _, _ => rfl
  | d + 1, c, hd => by
    unfold fcS fcA
    rw [h.at w hq (by omega), Rep.fc h w hq d (c + 1) (by omega)]
theorem Rep.rr (h : Rep g A) (w : Wf T A) (hq : q < 8) (hp : 0 < (a_c A).length) (l1 : Nat) : ∀ d k, rrS g q (a_c A).length l1 d k = rrA (a_c A) q (a_c A).length l1 d k
  | 0, _ => rfl
  | d + 1, k => by
    have hm := Nat.mod_lt (l1 + k) hp
    unfold rrS rrA
    rw [h.at w hq hm, Rep.rr h w hq hp l1 d (k + 1)]
    simp only [h.crp w hm]
theorem Rep.who (h : Rep g A) (w : Wf T A) (hx : (a_q A)[q]? = some x) : whoS g q (a_c A).length (q_l1 x) = whoA (a_c A) q (q_ex x) (q_l1 x) := by
  have hq : q < 8 := Nat.lt_of_lt_of_le (li hx) h.1.1
  have he : g (3471 + 556 * q + 30) = nI (q_ex x) := (h.1.2.2 q x hx).2.2.1.2.2.2.2.1
  have h1 := (w.2.1 q x hx).2.2.2.2.2.1
  unfold whoS whoA
  rw [he]
  by_cases c : q_ex x = 1
  · rw [if_pos (by rw [c]), if_pos c, h.fc w hq _ 0 (by omega)]
    cases hf : fcA (a_c A) q (a_c A).length 0 with
    | none => rfl
    | some c' =>
      have := fcS_lt g q (a_c A).length 0 c' (by rw [h.fc w hq _ 0 (by omega)]; exact hf)
      simp only [h.crp w (show c' < (a_c A).length by omega)]
  · rw [if_neg (fun e => c ((nI_eq (by omega) (by omega)).mp e)), if_neg c]
    rcases Nat.eq_zero_or_pos (a_c A).length with z | p
    · rw [z]; rfl
    · exact h.rr w hq p _ _ 0
theorem whoI_eq (h : Rep g A) (w : Wf T A) (hx : (a_q A)[q]? = some x) {i c : Nat} {l : La} (hl : (q_ls x)[i]? = some l) (hc : c < 10) : g (3471 + 556 * q + 36 + 26 * i + 3) = nI c ↔ l_s l = 2 ∧ l_x l = c := by
  rw [(h.letter hx hl).2.2.2.2.1]
  unfold whoI
  by_cases e : l_s l = 2
  · rw [if_pos e]
    obtain ⟨k, hk, _⟩ := (w.ls hx hl).2.2.2.2.2.2 e
    have h1 := li hk
    have h2 := h.2.1.1
    rw [nI_eq (by omega) (by omega)]
    exact ⟨fun a => ⟨e, a⟩, fun a => a.2⟩
  · rw [if_neg e]
    refine ⟨fun a => ?_, fun a => absurd a.1 e⟩
    have : (-1 : Int32).toInt = (nI c).toInt := congrArg Int32.toInt a
    rw [nI_toInt (by omega)] at this
    have h1 : (-1 : Int32).toInt = -1 := by decide
    omega
theorem Rep.oa (h : Rep g A) (w : Wf T A) (hx : (a_q A)[q]? = some x) {c : Nat} (hc : c < 10) {m : Int32} {o : Option Nat} (hm : (m < 0 ∧ o = none) ∨ ∃ n, n < 2 ^ 31 ∧ m = nI n ∧ o = some n) : ∀ d i, i + d = (q_ls x).length → oaS g q c m d i = oaA (q_ls x) c o d i
  | 0, _, _ => rfl
  | d + 1, i, hd => by
    obtain ⟨l, hl⟩ := get_of (l := q_ls x) (i := i) (by omega)
    have e : (g (3471 + 556 * q + 36 + 26 * i + 3) = nI c ∧ (m < 0 ∨ g (3471 + 556 * q + 36 + 26 * i + 0) = m)) ↔ isA (q_ls x) c o i = true := by
      have hm3 := (h.msg w hx hl).2
      rw [whoI_eq h w hx hl hc, (h.letter hx hl).2.1, isA_iff]
      constructor
      · rintro ⟨⟨a1, a2⟩, a3⟩
        refine ⟨l, hl, a1, a2, ?_⟩
        rcases hm with ⟨_, e2⟩ | ⟨n, hn, e1, e2⟩
        · exact Or.inl e2
        · rcases a3 with a3 | a3
          · rw [e1] at a3; exact absurd a3 (nI_pos hn)
          · rw [e1] at a3
            have := (nI_eq (by omega) hn).mp a3
            rw [e2, this]; exact Or.inr rfl
      · rintro ⟨l', hl', a1, a2, a3⟩
        rw [hl] at hl'
        obtain rfl := Option.some.inj hl'
        refine ⟨⟨a1, a2⟩, ?_⟩
        rcases hm with ⟨e1, _⟩ | ⟨n, hn, e1, e2⟩
        · exact Or.inl e1
        · rcases a3 with a3 | a3
          · rw [e2] at a3; cases a3
          · rw [e2] at a3
            have := Option.some.inj a3
            rw [e1, this]; exact Or.inr rfl
    unfold oaS oaA
    rw [Rep.oa h w hx hc hm d (i + 1) (by omega)]
    by_cases c' : isA (q_ls x) c o i = true
    · rw [if_pos (e.mpr c'), if_pos c']
    · rw [if_neg (fun y => c' (e.mp y)), if_neg c']
/-- counts -/
def outB (L : List La) (c i : Nat) : Bool := match L[i]? with
  | none => false
  | some l => decide (l_s l = 2) && decide (l_x l = c)
def stB (L : List La) (s i : Nat) : Bool := match L[i]? with
  | none => false
  | some l => decide (l_s l = s)
theorem Rep.outN (h : Rep g A) (w : Wf T A) (hx : (a_q A)[q]? = some x) {c : Nat} (hc : c < 10) : sumS (fun i => o1 (g (3471 + 556 * q + 36 + 26 * i + 3) = nI c)) (q_ls x).length = nI (cnA (outB (q_ls x) c) (q_ls x).length) := by
  refine sumS_o1 _ (fun i hi => ?_)
  obtain ⟨l, hl⟩ := get_of hi
  rw [whoI_eq h w hx hl hc]
  unfold outB
  rw [hl]
  simp only [Bool.and_eq_true, decide_eq_true_eq]
theorem Rep.stN (h : Rep g A) (w : Wf T A) (hx : (a_q A)[q]? = some x) {s : Nat} (hs : s ≤ 2) : sumS (fun i => o1 (g (3471 + 556 * q + 36 + 26 * i + 1) = nI s)) (q_ls x).length = nI (cnA (stB (q_ls x) s) (q_ls x).length) := by
  refine sumS_o1 _ (fun i hi => ?_)
  obtain ⟨l, hl⟩ := get_of hi
  rw [(h.letter hx hl).2.2.1, nI_eq (by have := (w.ls hx hl).2.1; omega) (by omega)]
  unfold stB
  rw [hl]
  simp only [decide_eq_true_eq]
theorem Rep.mayN (h : Rep g A) (w : Wf T A) (hx : (a_q A)[q]? = some x) : sumS (fun i => o1 (mayB g q i = true)) (q_ls x).length = nI (cnA (mayA (a_m A) (q_ls x)) (q_ls x).length) := by
  refine sumS_o1 _ (fun i hi => ?_)
  rw [h.may w hx hi]
theorem Rep.atN (h : Rep g A) (w : Wf T A) (hq : q < 8) : sumS (coS g q (¬ nI 0 = (0 : Int32))) (a_c A).length = nI (cnA (atA (a_c A) q) (a_c A).length) := by
  have : coS g q (¬ nI 0 = (0 : Int32)) = fun c => o1 (atS g q c = true) := by
    funext c
    have e0 : ¬ ¬ nI 0 = (0 : Int32) := fun e => e (by decide)
    simp only [coS, o1, if_neg e0]
  rw [this]
  refine sumS_o1 _ (fun i hi => ?_)
  rw [h.at w hq hi]
theorem Rep.crN (h : Rep g A) (w : Wf T A) (hq : q < 8) : sumS (coS g q (¬ nI 1 = (0 : Int32))) (a_c A).length = nI (suA (fun c => if atA (a_c A) q c = true then crA (a_c A) c else 0) (a_c A).length) := by
  refine sumS_su _ (fun i hi => ?_)
  unfold coS
  rw [h.at w hq hi]
  by_cases c : atA (a_c A) q i = true
  · rw [if_pos c, if_pos (by decide), if_pos c]; exact h.crd hi
  · rw [if_neg c, if_neg c]
end ABS7
