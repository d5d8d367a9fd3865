/-! THE COMPONENT: the world's cells; who is where. -/
def KC (M : Mm) (a : Nat) (k : Co) : Prop := mI M a 1 = nI (k_q k) ∧ mI M a 2 = nI (k_cr k) ∧ mI M a 3 = k_gt k ∧ mI M a 4 = nI (k_lf k)
def DC (M : Mm) (a : Nat) (d : Da) : Prop := mI M a 0 = nI (d_m d) ∧ mI M a 1 = nI (d_q d) ∧ mI M a 2 = nI (d_t d) ∧ CaR M (d_c d) (mR M a 3)
/-- a world's cells: itself w, its own from t on, messages g, the order of the dead o, of each queue's letters F -/
def OS (M : Mm) (w t g : Nat) (o : Nat → Nat) (F : Nat → Nat → Nat) : Prop :=
  (mT M w = 9 ∧ mR M w 0 = some g ∧ mR M w 2 = some (t + 3) ∧ mR M w 4 = some (t + 204) ∧ mR M w 6 = some (t + 215) ∧ mR M w 8 = some t) ∧
  PS M t ∧
  (mT M (t + 3) = 28 ∧ mS M (t + 3) = 8 ∧ ∀ q, q < 8 → mR M (t + 3) q = some (t + 4 + 25 * q) ∧ QS M (t + 4 + 25 * q) q (F q)) ∧
  (mT M (t + 204) = 23 ∧ mS M (t + 204) = 10 ∧ ∀ c, c < 10 → mR M (t + 204) c = some (t + 205 + c) ∧ mT M (t + 205 + c) = 1 ∧ mI M (t + 205 + c) 0 = nI c) ∧
  (mT M (t + 215) = 24 ∧ mS M (t + 215) = 30 ∧ (∀ i, i < 30 → mR M (t + 215) i = some (t + 216 + o i) ∧ o i < 30) ∧ (∀ i j, i < 30 → j < 30 → o i = o j → i = j) ∧ ∀ i, i < 30 → mT M (t + 216 + i) = 2) ∧
  MsS M g ∧ (w < t ∧ g + 5 < t ∧ (g + 5 < w ∨ w < g)) ∧ t + 246 ≤ mN M
def OC (M : Mm) (w t g : Nat) (o : Nat → Nat) (F : Nat → Nat → Nat) (A : Ab) : Prop :=
  mI M w 1 = nI (a_m A).length ∧ (mI M w 3 = nI (a_q A).length ∧ (a_q A).length ≤ 8) ∧ (mI M w 5 = nI (a_c A).length ∧ (a_c A).length ≤ 10) ∧ (mI M w 7 = nI (a_d A).length ∧ (a_d A).length ≤ 30) ∧ mI M w 9 = nI (a_n A) ∧ mI M w 10 = a_s A ∧ (∃ txt : List Int32, PC M t (a_t A) txt) ∧
  (∀ (q : Nat) (x : Qa), (a_q A)[q]? = some x → QC M (t + 4 + 25 * q) (F q) x (a_m A)) ∧
  (∀ (c : Nat) (k : Co), (a_c A)[c]? = some k → KC M (t + 205 + c) k) ∧
  (∀ (i : Nat) (d : Da), (a_d A)[i]? = some d → DC M (t + 216 + o i) d) ∧
  MsC M g (a_m A)
/-- what a world's act may change -/
def Ww (w t z : Nat) : Prop := z = w ∨ (t ≤ z ∧ z < t + 246)
section COMP15
variable {E : Nat × Nat} {M M' : Mm} {Q : Option Value → Mm → Prop} {w t g a c q : Nat} {o : Nat → Nat} {F : Nat → Nat → Nat} {A : Ab} {k : Co} {d : Da}
theorem OS.qs (h : OS M w t g o F) (hq : q < 8) : QS M (t + 4 + 25 * q) q (F q) := (h.2.2.1.2.2 q hq).2
theorem OC.qc (h : OC M w t g o F A) {x : Qa} (hx : (a_q A)[q]? = some x) : QC M (t + 4 + 25 * q) (F q) x (a_m A) := h.2.2.2.2.2.2.2.1 q x hx
theorem OC.kc (h : OC M w t g o F A) (hk : (a_c A)[c]? = some k) : KC M (t + 205 + c) k := h.2.2.2.2.2.2.2.2.1 c k hk
theorem OC.dc (h : OC M w t g o F A) {i : Nat} (hd : (a_d A)[i]? = some d) : DC M (t + 216 + o i) d := h.2.2.2.2.2.2.2.2.2.1 i d hd
theorem OC.mc (h : OC M w t g o F A) : MsC M g (a_m A) := h.2.2.2.2.2.2.2.2.2.2

theorem c_queueAt (hS : OS M w t g o F) (hC : OC M w t g o F A) {s : Int32} (kt : ∀ (i : Nat) (x : Qa), ixN s (a_q A).length = some i → (a_q A)[i]? = some x → i < 8 → s = nI i → Q (some (.ref (t + 4 + 25 * i))) M) (kf : ixN s (a_q A).length = none → Q (some .null) M) : J E 69 0 [.ref w, .int s] [] M Q := by
  obtain ⟨hn, hle⟩ := hC.2.1
  have F0 : ixN s (a_q A).length = none → J E 69 27 [.ref w, .int s] [] M Q := fun h => by
    refine J_p 1 (ls' := [_, _]) rfl ?_
    exact J_ret rfl rfl rfl (kf h)
  have h00 : (0 : Int32).toInt = 0 := by decide
  refine J_p 1 (ls' := [_, _]) rfl ?_
  cases e : ixN s (a_q A).length with
  | none =>
    have hno := ixN_none e
    refine J_zlt rfl (fun b => F0 e) (fun b => ?_)
    refine J_p 2 (ls' := [_, _]) rfl ?_
    refine J_gi rfl hS.1.1 hn ?_
    refine J_ige rfl (fun b2 => F0 e) (fun b2 => ?_)
    rw [Int32.le_iff_toInt_le, nI_toInt (by omega)] at b2
    rw [Int32.lt_iff_toInt_lt] at b
    exact absurd ⟨by omega, by omega⟩ hno
  | some i =>
    obtain ⟨h1, h2, _⟩ := ixN_some e
    subst h2
    obtain ⟨x, hx⟩ := get_of h1
    refine J_zlt rfl (fun b => absurd b (nI_pos (by omega))) (fun _ => ?_)
    refine J_p 2 (ls' := [_, _]) rfl ?_
    refine J_gi rfl hS.1.1 hn ?_
    refine J_ige rfl (fun b => absurd b (nI_ge (by omega) (by omega))) (fun _ => ?_)
    refine J_p 2 (ls' := [_, _]) rfl ?_
    refine J_ige rfl (fun b => absurd b (nI_ge (by omega) (by omega))) (fun _ => ?_)
    refine J_p 1 (ls' := [_, _]) rfl ?_
    refine J_getR rfl hS.1.1 hS.1.2.2.1 ?_
    refine J_p 1 (ls' := [_, _]) rfl ?_
    refine J_aald (n := i) rfl rfl (by rw [hS.2.2.1.1]; rfl) hS.2.2.1.2.1 (by omega) (by omega) (hS.2.2.1.2.2 i (by omega)).1 ?_
    refine J_p 1 (ls' := [_, _]) rfl ?_
    exact J_ret rfl rfl rfl (kt i x e hx (by omega) rfl)
theorem c_consumerAt (hS : OS M w t g o F) (hC : OC M w t g o F A) {s : Int32} (kt : ∀ (i : Nat) (x : Co), ixN s (a_c A).length = some i → (a_c A)[i]? = some x → i < 10 → s = nI i → Q (some (.ref (t + 205 + i))) M) (kf : ixN s (a_c A).length = none → Q (some .null) M) : J E 70 0 [.ref w, .int s] [] M Q := by
  obtain ⟨hn, hle⟩ := hC.2.2.1
  have F0 : ixN s (a_c A).length = none → J E 70 27 [.ref w, .int s] [] M Q := fun h => by
    refine J_p 1 (ls' := [_, _]) rfl ?_
    exact J_ret rfl rfl rfl (kf h)
  have h00 : (0 : Int32).toInt = 0 := by decide
  refine J_p 1 (ls' := [_, _]) rfl ?_
  cases e : ixN s (a_c A).length with
  | none =>
    have hno := ixN_none e
    refine J_zlt rfl (fun b => F0 e) (fun b => ?_)
    refine J_p 2 (ls' := [_, _]) rfl ?_
    refine J_gi rfl hS.1.1 hn ?_
    refine J_ige rfl (fun b2 => F0 e) (fun b2 => ?_)
    rw [Int32.le_iff_toInt_le, nI_toInt (by omega)] at b2
    rw [Int32.lt_iff_toInt_lt] at b
    exact absurd ⟨by omega, by omega⟩ hno
  | some i =>
    obtain ⟨h1, h2, _⟩ := ixN_some e
    subst h2
    obtain ⟨x, hx⟩ := get_of h1
    refine J_zlt rfl (fun b => absurd b (nI_pos (by omega))) (fun _ => ?_)
    refine J_p 2 (ls' := [_, _]) rfl ?_
    refine J_gi rfl hS.1.1 hn ?_
    refine J_ige rfl (fun b => absurd b (nI_ge (by omega) (by omega))) (fun _ => ?_)
    refine J_p 2 (ls' := [_, _]) rfl ?_
    refine J_ige rfl (fun b => absurd b (nI_ge (by omega) (by omega))) (fun _ => ?_)
    refine J_p 1 (ls' := [_, _]) rfl ?_
    refine J_getR rfl hS.1.1 hS.1.2.2.2.1 ?_
    refine J_p 1 (ls' := [_, _]) rfl ?_
    refine J_aald (n := i) rfl rfl (by rw [hS.2.2.2.1.1]; rfl) hS.2.2.2.1.2.1 (by omega) (by omega) (hS.2.2.2.1.2.2 i (by omega)).1 ?_
    refine J_p 1 (ls' := [_, _]) rfl ?_
    exact J_ret rfl rfl rfl (kt i x e hx (by omega) rfl)
theorem c_deadAt (hS : OS M w t g o F) (hC : OC M w t g o F A) {s : Int32} (kt : ∀ (i : Nat) (x : Da), ixN s (a_d A).length = some i → (a_d A)[i]? = some x → i < 30 → s = nI i → Q (some (.ref (t + 216 + o i))) M) (kf : ixN s (a_d A).length = none → Q (some .null) M) : J E 73 0 [.ref w, .int s] [] M Q := by
  obtain ⟨hn, hle⟩ := hC.2.2.2.1
  have F0 : ixN s (a_d A).length = none → J E 73 27 [.ref w, .int s] [] M Q := fun h => by
    refine J_p 1 (ls' := [_, _]) rfl ?_
    exact J_ret rfl rfl rfl (kf h)
  have h00 : (0 : Int32).toInt = 0 := by decide
  refine J_p 1 (ls' := [_, _]) rfl ?_
  cases e : ixN s (a_d A).length with
  | none =>
    have hno := ixN_none e
    refine J_zlt rfl (fun b => F0 e) (fun b => ?_)
    refine J_p 2 (ls' := [_, _]) rfl ?_
    refine J_gi rfl hS.1.1 hn ?_
    refine J_ige rfl (fun b2 => F0 e) (fun b2 => ?_)
    rw [Int32.le_iff_toInt_le, nI_toInt (by omega)] at b2
    rw [Int32.lt_iff_toInt_lt] at b
    exact absurd ⟨by omega, by omega⟩ hno
  | some i =>
    obtain ⟨h1, h2, _⟩ := ixN_some e
    subst h2
    obtain ⟨x, hx⟩ := get_of h1
    refine J_zlt rfl (fun b => absurd b (nI_pos (by omega))) (fun _ => ?_)
    refine J_p 2 (ls' := [_, _]) rfl ?_
    refine J_gi rfl hS.1.1 hn ?_
    refine J_ige rfl (fun b => absurd b (nI_ge (by omega) (by omega))) (fun _ => ?_)
    refine J_p 2 (ls' := [_, _]) rfl ?_
    refine J_ige rfl (fun b => absurd b (nI_ge (by omega) (by omega))) (fun _ => ?_)
    refine J_p 1 (ls' := [_, _]) rfl ?_
    refine J_getR rfl hS.1.1 hS.1.2.2.2.2.1 ?_
    refine J_p 1 (ls' := [_, _]) rfl ?_
    refine J_aald (n := i) rfl rfl (by rw [hS.2.2.2.2.1.1]; rfl) hS.2.2.2.2.1.2.1 (by omega) (by omega) (hS.2.2.2.2.1.2.2.1 i (by omega)).1 ?_
    refine J_p 1 (ls' := [_, _]) rfl ?_
    exact J_ret rfl rfl rfl (kt i x e hx (by omega) rfl)
theorem c_present (hS : OS M w t g o F) (hC : OC M w t g o F A) (hw : ∀ (c : Nat) (k : Co), (a_c A)[c]? = some k → k_lf k ≤ 1) {s : Int32} (kt : ∀ (c : Nat) (k : Co), hereN A s = some c → (a_c A)[c]? = some k → k_lf k = 0 → c < 10 → s = nI c → Q (some (.ref (t + 205 + c))) M) (kf : hereN A s = none → Q (some .null) M) : J E 71 0 [.ref w, .int s, U0] [] M Q := by
  have F0 : hereN A s = none → ∀ v : Value, J E 71 17 [.ref w, .int s, v] [] M Q := fun h v => by
    refine J_p 2 (ls' := [_, _, _]) rfl ?_
    exact J_ret rfl rfl rfl (kf h)
  refine J_p 2 (ls' := [_, _, _]) rfl ?_
  refine J_call rfl rfl rfl (decide_eq_true hS.1.1) rfl (c_consumerAt hS hC (fun c k h1 h2 h3 h4 => ?_) (fun h => ?_))
  · show J _ _ _ _ _ _ _
    have eh : hereN A s = if k_lf k = 0 then some c else none := by
      unfold hereN
      rw [h1]
      show (match (a_c A)[c]? with
        | none => none
        | some k => if k_lf k = 0 then some c else none) = _
      rw [h2]
    have hk := hC.kc h2
    refine J_p 2 (ls' := [_, _, .ref (t + 205 + c)]) rfl ?_
    refine J_brF rfl rfl rfl ?_
    refine J_p 1 (ls' := [_, _, _]) rfl ?_
    refine J_gi rfl (hS.2.2.2.1.2.2 c h3).2.1 hk.2.2.2 ?_
    have := hw c k h2
    refine J_zeq rfl (fun b => ?_) (fun b => F0 ?_ _)
    · have e0 : k_lf k = 0 := (nI_eq (b := 0) (by omega) (by omega)).mp b
      rw [if_pos e0] at eh
      refine J_p 1 (ls' := [_, _, _]) rfl ?_
      exact J_ret rfl rfl rfl (kt c k eh h2 e0 h3 h4)
    · rw [eh, if_neg (fun e0 => b (by rw [e0]; rfl))]
  · show J _ _ _ _ _ _ _
    refine J_p 2 (ls' := [_, _, .null]) rfl ?_
    refine J_brT rfl rfl rfl (F0 ?_ _)
    unfold hereN
    rw [h]
theorem c_homeOf (hS : OS M w t g o F) (hC : OC M w t g o F A) (hw : ∀ (c : Nat) (k : Co), (a_c A)[c]? = some k → k_q k < (a_q A).length) {s : Int32} (kt : ∀ (c : Nat) (k : Co) (x : Qa), ixN s (a_c A).length = some c → (a_c A)[c]? = some k → (a_q A)[k_q k]? = some x → k_q k < 8 → s = nI c → Q (some (.ref (t + 4 + 25 * k_q k))) M) (kf : ixN s (a_c A).length = none → Q (some .null) M) : J E 72 0 [.ref w, .int s, U0] [] M Q := by
  refine J_p 2 (ls' := [_, _, _]) rfl ?_
  refine J_call rfl rfl rfl (decide_eq_true hS.1.1) rfl (c_consumerAt hS hC (fun c k h1 h2 h3 h4 => ?_) (fun h => ?_))
  · show J _ _ _ _ _ _ _
    have hk := hC.kc h2
    have hq := hw c k h2
    have q8 := hC.2.1.2
    refine J_p 2 (ls' := [_, _, .ref (t + 205 + c)]) rfl ?_
    refine J_brT rfl rfl rfl ?_
    refine J_p 2 (ls' := [_, _, _]) rfl ?_
    refine J_gi rfl (hS.2.2.2.1.2.2 c h3).2.1 hk.1 ?_
    refine J_call rfl rfl rfl (decide_eq_true hS.1.1) rfl (c_queueAt hS hC (fun q x g1 g2 g3 g4 => ?_) (fun g1 => ?_))
    · show J _ _ _ _ _ _ _
      have e : k_q k = q := (nI_eq (by omega) (by omega)).mp g4
      subst e
      exact J_ret rfl rfl rfl (kt c k x h1 h2 g2 g3 h4)
    · rw [ixN_nI hq (by omega)] at g1
      cases g1
  · show J _ _ _ _ _ _ _
    refine J_p 2 (ls' := [_, _, .null]) rfl ?_
    refine J_brF rfl rfl rfl ?_
    refine J_p 2 (ls' := [_, _, _]) rfl ?_
    exact J_ret rfl rfl rfl (kf h)
theorem c_isAt (ht : mT M a = 1) (hK : KC M a k) (hl : k_lf k ≤ 1) {s : Int32} (kt : k_lf k = 0 → nI (k_q k) = s → Q (some (.int (nI 1))) M) (kf : ¬ (k_lf k = 0 ∧ nI (k_q k) = s) → Q (some (.int (nI 0))) M) : J E 6 0 [.ref a, .int s] [] M Q := by
  have F0 : ¬ (k_lf k = 0 ∧ nI (k_q k) = s) → J E 6 19 [.ref a, .int s] [] M Q := fun h => by
    refine J_p 1 (ls' := [_, _]) rfl ?_
    exact J_retB rfl (by decide) (kf h)
  refine J_p 1 (ls' := [_, _]) rfl ?_
  refine J_gi rfl ht hK.2.2.2 ?_
  refine J_zne rfl (fun b => F0 (fun z => b (by rw [z.1]; rfl))) (fun b => ?_)
  have e0 : k_lf k = 0 := (nI_eq (b := 0) (by omega) (by omega)).mp b
  refine J_p 1 (ls' := [_, _]) rfl ?_
  refine J_gi rfl ht hK.1 ?_
  refine J_p 1 (ls' := [_, _]) rfl ?_
  refine J_ine rfl (fun b => F0 (fun z => b z.2)) (fun b => ?_)
  refine J_p 2 (ls' := [_, _]) rfl ?_
  exact J_retB rfl (by decide) (kt e0 b)
theorem c_countCauses (ht : mT M a = 2) (hD : DC M a d) (k : Q (some (.int (nI (d_c d).length))) M) : J E 10 0 [.ref a] [] M Q := by
  obtain ⟨_, _, _, hc⟩ := hD
  cases e : d_c d with
  | nil =>
    rw [e] at hc k
    refine J_p 1 (ls' := [_]) rfl ?_
    refine J_getN rfl ht hc ?_
    refine J_brF rfl rfl rfl ?_
    refine J_p 2 (ls' := [_]) rfl ?_
    exact J_ret rfl rfl rfl k
  | cons y ys =>
    rw [e] at hc k
    obtain ⟨b, h1, h2, _, _, h4, _⟩ := hc
    refine J_p 1 (ls' := [_]) rfl ?_
    refine J_getR rfl ht h1 ?_
    refine J_brT rfl rfl rfl ?_
    refine J_p 1 (ls' := [_]) rfl ?_
    refine J_getR rfl ht h1 ?_
    refine J_gi rfl h2 h4 ?_
    refine J_p 2 (ls' := [_]) rfl ?_
    refine J_t0 (nI_add ys.length 1) ?_
    exact J_ret rfl rfl rfl k
theorem c_conBegin (ht : mT M a = 1) {s : Int32} (k : Q none (sI (sI (sI (sI M a 1 s) a 2 (nI 0)) a 3 (nI 0)) a 4 (nI 0))) : J E 4 0 [.ref a, .int s] [] M Q := by
  refine J_p 2 (ls' := [_, _]) rfl ?_
  refine J_putI rfl ht (Or.inl rfl) ?_
  refine J_p 2 (ls' := [_, _]) rfl ?_
  refine J_putI rfl ht (Or.inl rfl) ?_
  refine J_p 2 (ls' := [_, _]) rfl ?_
  refine J_putI rfl ht (Or.inl rfl) ?_
  refine J_p 2 (ls' := [_, _]) rfl ?_
  refine J_putI rfl ht (Or.inr (Or.inl rfl)) ?_
  exact J_ret rfl rfl rfl k
theorem c_deadBegin (ht : mT M a = 2) {m s y : Int32} {b : Nat} (k : Q none (sR (sI (sI (sI M a 0 m) a 1 s) a 2 y) a 3 (some b))) : J E 8 0 [.ref a, .int m, .int s, .int y, .ref b] [] M Q := by
  refine J_p 2 (ls' := [_, _, _, _, _]) rfl ?_
  refine J_putI rfl ht (Or.inl rfl) ?_
  refine J_p 2 (ls' := [_, _, _, _, _]) rfl ?_
  refine J_putI rfl ht (Or.inl rfl) ?_
  refine J_p 2 (ls' := [_, _, _, _, _]) rfl ?_
  refine J_putI rfl ht (Or.inl rfl) ?_
  refine J_p 2 (ls' := [_, _, _, _, _]) rfl ?_
  refine J_putR rfl ht ?_
  exact J_ret rfl rfl rfl k
end COMP15