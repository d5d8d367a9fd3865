/-! THE COMPONENT: who receives. -/
def rrB (P : Nat → Bool) (nc l1 : Nat) : Nat → Nat → Option Nat
  | 0, _ => none
  | d + 1, k => bif P ((l1 + k) % nc) then some ((l1 + k) % nc) else rrB P nc l1 d (k + 1)
def wkB (P : Nat → Bool) (nc l1 : Nat) : Nat → Nat → Option Nat
  | 0, _ => none
  | d + 1, k => bif decide ((l1 + k) % 10 < nc) && P ((l1 + k) % 10) then some ((l1 + k) % 10) else wkB P nc l1 d (k + 1)
/-- round ten places is round all consumers -/
theorem wkB_rr (P : Nat → Bool) : ∀ nc, nc ≤ 10 → ∀ l1, l1 ≤ nc → wkB P nc l1 10 0 = rrB P nc l1 nc 0 := by
  intro nc h
  rcases (show nc = 0 ∨ nc = 1 ∨ nc = 2 ∨ nc = 3 ∨ nc = 4 ∨ nc = 5 ∨ nc = 6 ∨ nc = 7 ∨ nc = 8 ∨ nc = 9 ∨ nc = 10 by omega) with rfl | rfl | rfl | rfl | rfl | rfl | rfl | rfl | rfl | rfl | rfl
  all_goals
    intro l1 h1
    rcases (show l1 = 0 ∨ l1 = 1 ∨ l1 = 2 ∨ l1 = 3 ∨ l1 = 4 ∨ l1 = 5 ∨ l1 = 6 ∨ l1 = 7 ∨ l1 = 8 ∨ l1 = 9 ∨ l1 = 10 by omega) with rfl | rfl | rfl | rfl | rfl | rfl | rfl | rfl | rfl | rfl | rfl
    all_goals first | (exfalso; omega) | rfl
theorem rrB_A {C : List Co} {q nc l1 : Nat} : ∀ d k, rrA C q nc l1 d k = rrB (fun c => atA C q c && decide (0 < crA C c)) nc l1 d k
  | 0, _ => rfl
  | d + 1, k => by
    unfold rrA rrB
    rw [rrB_A d (k + 1)]
    by_cases c : atA C q ((l1 + k) % nc) = true ∧ 0 < crA C ((l1 + k) % nc)
    · rw [if_pos c, c.1, decide_eq_true c.2]
      rfl
    · rw [if_neg c]
      have : (atA C q ((l1 + k) % nc) && decide (0 < crA C ((l1 + k) % nc))) = false := by
        cases e : (atA C q ((l1 + k) % nc) && decide (0 < crA C ((l1 + k) % nc))) with
        | false => rfl
        | true =>
          rw [Bool.and_eq_true, decide_eq_true_eq] at e
          exact absurd e c
      rw [this]
      rfl
theorem nI_back (l j : Nat) : nI l - nI 1 + nI (j + 1) = nI (l + j) := by
  cases l with
  | zero =>
    rw [← nI_dec1, Int32.add_comm (nI 0) (-1), Int32.add_assoc, nI_add, Int32.add_comm, Nat.zero_add, Nat.zero_add]
    exact nI_decE rfl
  | succ m =>
    rw [nI_subE (m := m + 1) (n := 1) rfl rfl (by omega), nI_add]
    congr 1
    omega
theorem nI_md10 : ∀ a, a < 20 → nI a - nI a / nI 10 * nI 10 = nI (a % 10) := by decide
theorem atA_iff {C : List Co} {q c : Nat} {k : Co} (h : C[c]? = some k) : atA C q c = true ↔ k_lf k = 0 ∧ k_q k = q := by
  unfold atA
  rw [h]
  show (decide (k_lf k = 0) && decide (k_q k = q)) = true ↔ _
  rw [Bool.and_eq_true, decide_eq_true_eq, decide_eq_true_eq]
def okK (A : Ab) : Prop := ∀ (c : Nat) (k : Co), (a_c A)[c]? = some k → k_lf k ≤ 1 ∧ k_q k < 8 ∧ k_cr k ≤ 9
section COMP21
variable {E : Nat × Nat} {M M' : Mm} {W : Nat → Prop} {Q : Option Value → Mm → Prop} {w t g a c q p i b m : Nat} {o o' f f' : Nat → Nat} {F F' : Nat → Nat → Nat} {A : Ab} {k : Co} {d : Da} {x x' : Qa} {ms : List Ma} {l l' : La} {cs : List Ca} {what : Int32}
theorem c_firstPresent (hS : OS M w t g o F) (hC : OC M w t g o F A) (hw : okK A) (hq : q < 8) (K : Q (some (.int (oI (fcA (a_c A) q (a_c A).length 0)))) M) : J E 80 0 [.ref w, .int (nI q), U0] [] M Q := by
  have n10 := hC.2.2.1.2
  have hcn := hC.2.2.1.1
  have loop : ∀ (d kk : Nat), kk + d = (a_c A).length → fcA (a_c A) q (a_c A).length 0 = fcA (a_c A) q d kk → J E 80 2 [.ref w, .int (nI q), .int (nI kk)] [] M Q := by
    intro d
    induction d with
    | zero =>
      intro kk hk e
      refine J_p 2 (ls' := [_, _, _]) rfl ?_
      refine J_gi rfl hS.1.1 hcn ?_
      refine J_ige rfl (fun _ => ?_) (fun b => absurd (nI_le (by omega) (by omega)) b)
      refine J_p 1 (ls' := [_, _, _]) rfl ?_
      rw [e] at K
      exact J_ret rfl rfl rfl K
    | succ d ih =>
      intro kk hk e
      obtain ⟨k, hk2⟩ := get_of (l := a_c A) (i := kk) (by omega)
      obtain ⟨w1, w2, w3⟩ := hw kk k hk2
      have ef : fcA (a_c A) q (d + 1) kk = if atA (a_c A) q kk = true then some kk else fcA (a_c A) q d (kk + 1) := rfl
      rw [ef] at e
      refine J_p 2 (ls' := [_, _, _]) rfl ?_
      refine J_gi rfl hS.1.1 hcn ?_
      refine J_ige rfl (fun b => absurd b (nI_ge (by omega) (by omega))) (fun _ => ?_)
      refine J_p 1 (ls' := [_, _, _]) rfl ?_
      refine J_getR rfl hS.1.1 hS.1.2.2.2.1 ?_
      refine J_p 1 (ls' := [_, _, _]) rfl ?_
      refine J_aald (n := kk) rfl rfl (by rw [hS.2.2.2.1.1]; rfl) hS.2.2.2.1.2.1 (by omega) (by omega) (hS.2.2.2.1.2.2 kk (by omega)).1 ?_
      refine J_p 1 (ls' := [_, _, _]) rfl ?_
      refine J_call rfl rfl rfl (decide_eq_true (hS.tk (c := kk) (by omega))) rfl (c_isAt (hS.tk (c := kk) (by omega)) (hC.kc hk2) w1 (fun z1 z2 => ?_) (fun z => ?_))
      · show J _ _ _ _ _ _ _
        refine J_zeq rfl (fun b => absurd b (by decide)) (fun _ => ?_)
        refine J_p 1 (ls' := [_, _, _]) rfl ?_
        rw [if_pos ((atA_iff hk2).mpr ⟨z1, (nI_eq (by omega) (by omega)).mp z2⟩)] at e
        rw [e] at K
        exact J_ret rfl rfl rfl K
      · show J _ _ _ _ _ _ _
        refine J_zeq rfl (fun _ => ?_) (fun b => absurd rfl b)
        rw [if_neg (fun y => z ⟨((atA_iff hk2).mp y).1, by rw [((atA_iff hk2).mp y).2]⟩)] at e
        refine J_p 2 (ls' := [_, _, _]) rfl ?_
        rw [nI_add]
        exact ih (kk + 1) (by omega) e
  refine J_p 2 (ls' := [_, _, _]) rfl ?_
  exact loop (a_c A).length 0 (by omega) rfl
theorem c_receiverIn (hS : OS M w t g o F) (hC : OC M w t g o F A) (hw : okK A) (hx : (a_q A)[q]? = some x) (he : q_ex x ≤ 1) (h1 : q_l1 x ≤ (a_c A).length) (K : Q (some (.int (oI (whoA (a_c A) q (q_ex x) (q_l1 x))))) M) : J E 79 0 [.ref w, .ref (t + 4 + 25 * q), U0, U0] [] M Q := by
  have q8 : q < 8 := Nat.lt_of_lt_of_le (li hx) hC.2.1.2
  have hQ := hS.qs q8
  have hQC := hC.qc hx
  have n10 := hC.2.2.1.2
  have lk : ∀ c : Nat, ∀ k : Co, (a_c A)[c]? = some k → crA (a_c A) c = k_cr k := fun c k h => by unfold crA; rw [getD_of h]
  refine J_p 1 (ls' := [_, _, _, _]) rfl ?_
  refine J_gi rfl hQ.1 hQC.2.2.2.2.2.2.1 ?_
  refine J_zeq rfl (fun b => ?_) (fun b => ?_)
  · have e0 : q_ex x = 0 := (nI_eq (b := 0) (by omega) (by omega)).mp b
    have ew : whoA (a_c A) q (q_ex x) (q_l1 x) = wkB (fun c => atA (a_c A) q c && decide (0 < crA (a_c A) c)) (a_c A).length (q_l1 x) 10 0 := by
      unfold whoA
      rw [if_neg (by omega), rrB_A, wkB_rr _ _ n10 _ h1]
    rw [ew] at K
    have loop : ∀ (d j : Nat) (v3 : Value), j + d = 10 → wkB (fun c => atA (a_c A) q c && decide (0 < crA (a_c A) c)) (a_c A).length (q_l1 x) 10 0 = wkB (fun c => atA (a_c A) q c && decide (0 < crA (a_c A) c)) (a_c A).length (q_l1 x) d j → J E 79 42 [.ref w, .ref (t + 4 + 25 * q), .int (nI (j + 1)), v3] [] M Q := by
      intro d
      induction d with
      | zero =>
        intro j v3 hj e
        refine J_p 2 (ls' := [_, _, _, _]) rfl ?_
        refine J_igt rfl (fun _ => ?_) (fun b => absurd (nI_lt (by omega) (by omega)) b)
        refine J_p 1 (ls' := [_, _, _, _]) rfl ?_
        rw [e] at K
        exact J_ret rfl rfl rfl K
      | succ d ih =>
        intro j v3 hj e
        have ef : wkB (fun c => atA (a_c A) q c && decide (0 < crA (a_c A) c)) (a_c A).length (q_l1 x) (d + 1) j = bif decide ((q_l1 x + j) % 10 < (a_c A).length) && (atA (a_c A) q ((q_l1 x + j) % 10) && decide (0 < crA (a_c A) ((q_l1 x + j) % 10))) then some ((q_l1 x + j) % 10) else wkB (fun c => atA (a_c A) q c && decide (0 < crA (a_c A) c)) (a_c A).length (q_l1 x) d (j + 1) := rfl
        rw [ef] at e
        obtain ⟨c0, hc0⟩ : ∃ c0, (q_l1 x + j) % 10 = c0 := ⟨_, rfl⟩
        rw [hc0] at e
        have c10 : c0 < 10 := by omega
        have N : (decide (c0 < (a_c A).length) && (atA (a_c A) q c0 && decide (0 < crA (a_c A) c0))) = false → ∀ v : Value, J E 79 89 [.ref w, .ref (t + 4 + 25 * q), .int (nI (j + 1)), v] [] M Q := fun hb v => by
          rw [hb] at e
          refine J_p 2 (ls' := [_, _, _, _]) rfl ?_
          rw [nI_add]
          exact ih (j + 1) v (by omega) e
        refine J_p 2 (ls' := [_, _, _, _]) rfl ?_
        refine J_igt rfl (fun b => absurd b (nI_nlt (by omega) (by omega))) (fun _ => ?_)
        refine J_p 2 (ls' := [_, _, _, _]) rfl ?_
        refine J_gi rfl hQ.1 hQC.2.2.2.2.2.2.2.1 ?_
        refine J_p 2 (ls' := [_, _, _, _]) rfl ?_
        refine J_t0 (nI_back (q_l1 x) j) ?_
        refine J_p 1 (ls' := [_, _, _, _]) rfl ?_
        refine J_rem rfl (by decide) ?_
        refine J_t0 (nI_md10 (q_l1 x + j) (by omega)) ?_
        rw [hc0]
        refine J_call rfl rfl rfl (decide_eq_true hS.1.1) rfl (c_consumerAt hS hC (fun c' k g1 g2 g3 g4 => ?_) (fun g1 => ?_))
        · show J _ _ _ _ _ _ _
          have ec : c0 = c' := (nI_eq (by omega) (by omega)).mp g4
          subst ec
          obtain ⟨w1, w2, w3⟩ := hw c0 k g2
          have hlt := li g2
          refine J_p 2 (ls' := [_, _, _, .ref (t + 205 + c0)]) rfl ?_
          refine J_brF rfl rfl rfl ?_
          refine J_p 2 (ls' := [_, _, _, _]) rfl ?_
          refine J_gi rfl hQ.1 hQ.2.1 ?_
          refine J_call rfl rfl rfl (decide_eq_true (hS.tk c10)) rfl (c_isAt (hS.tk c10) (hC.kc g2) w1 (fun z1 z2 => ?_) (fun z => ?_))
          · show J _ _ _ _ _ _ _
            have ea : atA (a_c A) q c0 = true := (atA_iff g2).mpr ⟨z1, (nI_eq (by omega) (by omega)).mp z2⟩
            refine J_zeq rfl (fun b => absurd b (by decide)) (fun _ => ?_)
            refine J_p 1 (ls' := [_, _, _, _]) rfl ?_
            refine J_gi rfl (hS.tk c10) (hC.kc g2).2.1 ?_
            refine J_zle rfl (fun b => N ?_ _) (fun b => ?_)
            · have z0 : ¬ 0 < crA (a_c A) c0 := fun y => by
                rw [lk c0 k g2] at y
                exact absurd b (nI_ge (a := 0) y (by omega))
              rw [decide_eq_false z0, Bool.and_false, Bool.and_false]
            · have z0 : 0 < crA (a_c A) c0 := by
                rw [lk c0 k g2]
                rcases Nat.eq_zero_or_pos (k_cr k) with y | y
                · rw [y] at b
                  exact absurd (by decide) b
                · exact y
              rw [decide_eq_true hlt, ea, decide_eq_true z0] at e
              refine J_p 1 (ls' := [_, _, _, _]) rfl ?_
              refine J_gi rfl (hS.tk c10) (hS.2.2.2.1.2.2 c0 c10).2.2 ?_
              rw [e] at K
              exact J_ret rfl rfl rfl K
          · show J _ _ _ _ _ _ _
            refine J_zeq rfl (fun _ => N ?_ _) (fun b => absurd rfl b)
            have ea : atA (a_c A) q c0 = false := by
              cases ee : atA (a_c A) q c0 with
              | false => rfl
              | true => exact absurd ⟨((atA_iff g2).mp ee).1, by rw [((atA_iff g2).mp ee).2]⟩ z
            rw [ea, Bool.false_and, Bool.and_false]
        · show J _ _ _ _ _ _ _
          refine J_p 2 (ls' := [_, _, _, .null]) rfl ?_
          refine J_brT rfl rfl rfl (N ?_ _)
          have : ¬ c0 < (a_c A).length := fun y => by
            rw [ixN_nI y (by omega)] at g1
            cases g1
          rw [decide_eq_false this, Bool.false_and]
    refine J_p 2 (ls' := [_, _, _, _]) rfl ?_
    exact loop 10 0 _ (by omega) rfl
  · have e1 : q_ex x = 1 := by
      have : ¬ q_ex x = 0 := fun z => b (by rw [z]; rfl)
      omega
    have F0 : whoA (a_c A) q (q_ex x) (q_l1 x) = none → ∀ v : Value, J E 79 38 [.ref w, .ref (t + 4 + 25 * q), v, U0] [] M Q := fun h v => by
      rw [h] at K
      refine J_p 1 (ls' := [_, _, _, _]) rfl ?_
      exact J_ret rfl rfl rfl K
    refine J_p 3 (ls' := [_, _, _, _]) rfl ?_
    refine J_gi rfl hQ.1 hQ.2.1 ?_
    refine J_call rfl rfl rfl (decide_eq_true hS.1.1) rfl (c_firstPresent hS hC hw q8 ?_)
    show J _ _ _ _ _ _ _
    cases ef : fcA (a_c A) q (a_c A).length 0 with
    | none =>
      have ew : whoA (a_c A) q (q_ex x) (q_l1 x) = none := by
        unfold whoA
        rw [if_pos e1, ef]
      refine J_call rfl rfl rfl (decide_eq_true hS.1.1) rfl (c_consumerAt hS hC (fun c' k g1 g2 g3 g4 => ?_) (fun g1 => ?_))
      · have := (ixN_some g1).2.2.1
        exact absurd this (by show ¬ 0 ≤ (-1 : Int32).toInt; decide)
      · show J _ _ _ _ _ _ _
        refine J_p 2 (ls' := [_, _, .null, _]) rfl ?_
        exact J_brT rfl rfl rfl (F0 ew _)
    | some c =>
      have ew : whoA (a_c A) q (q_ex x) (q_l1 x) = if 0 < crA (a_c A) c then some c else none := by
        unfold whoA
        rw [if_pos e1, ef]
      refine J_call rfl rfl rfl (decide_eq_true hS.1.1) rfl (c_consumerAt hS hC (fun c' k g1 g2 g3 g4 => ?_) (fun g1 => ?_))
      · show J _ _ _ _ _ _ _
        have hcl : c < (a_c A).length := by
          obtain ⟨k0, g0, _⟩ := atA_of (fcA_at _ _ _ _ _ ef)
          exact li g0
        have ec : c = c' := (nI_eq (by omega) (by omega)).mp g4
        subst ec
        obtain ⟨w1, w2, w3⟩ := hw c k g2
        rw [lk c k g2] at ew
        refine J_p 2 (ls' := [_, _, .ref (t + 205 + c), _]) rfl ?_
        refine J_brF rfl rfl rfl ?_
        refine J_p 1 (ls' := [_, _, _, _]) rfl ?_
        refine J_gi rfl (hS.tk g3) (hC.kc g2).2.1 ?_
        refine J_zle rfl (fun b => F0 ?_ _) (fun b => ?_)
        · rw [ew, if_neg (fun y => absurd b (nI_ge (a := 0) y (by omega)))]
        · have z0 : 0 < k_cr k := by
            rcases Nat.eq_zero_or_pos (k_cr k) with y | y
            · rw [y] at b
              exact absurd (by decide) b
            · exact y
          refine J_p 1 (ls' := [_, _, _, _]) rfl ?_
          refine J_gi rfl (hS.tk g3) (hS.2.2.2.1.2.2 c g3).2.2 ?_
          refine J_p 1 (ls' := [_, _, _, _]) rfl ?_
          rw [ew, if_pos z0] at K
          exact J_ret rfl rfl rfl K
      · have hcl : c < (a_c A).length := by
          obtain ⟨k0, g0, _⟩ := atA_of (fcA_at _ _ _ _ _ ef)
          exact li g0
        rw [show oI (some c) = nI c from rfl, ixN_nI hcl (by omega)] at g1
        cases g1
end COMP21