/-! THE COMPONENT: a consumer leaves; the dead are buried. -/
section COMP27
variable {E : Nat × Nat} {M M' : Mm} {W : Nat → Prop} {Q : Option Value → Mm → Prop} {w t g a c q p i b m T : Nat} {o o' f f' : Nat → Nat} {F F' : Nat → Nat → Nat} {A : Ab} {k : Co} {d : Da} {x x' : Qa} {ms : List Ma} {l l' : La} {cs : List Ca} {what : Int32}
theorem c_letGo (hS : OS M w t g o F) (hC : OC M w t g o F A) (hk : (a_c A)[c]? = some k) (hx : (a_q A)[k_q k]? = some x) (hw : ∀ (i : Nat) (l : La), (q_ls x)[i]? = some l → l_s l ≤ 2 ∧ (l_s l = 2 → l_x l < 2 ^ 31)) (K : ∀ (M' : Mm) (F' : Nat → Nat → Nat), Fm (Ww w t) M M' → Nw M M' → OS M' w t g o F' → OC M' w t g o F' (leaveA A c k x) → Q (some (.int (nI (cnA (outB (q_ls x) c) (q_ls x).length)))) M') : J E 89 0 [.ref w, .ref (t + 205 + c), U0] [] M Q := by
  have c10 : c < 10 := Nat.lt_of_lt_of_le (li hk) hC.2.2.1.2
  have q8 : k_q k < 8 := Nat.lt_of_lt_of_le (li hx) hC.2.1.2
  have hK := hC.kc hk
  have t1 := hS.tk c10
  have n1 : ¬ rO (mT M (t + 205 + c)) := by rw [t1]; unfold rO; omega
  refine J_p 2 (ls' := [_, _, _]) rfl ?_
  refine J_putI rfl t1 (Or.inr (Or.inr rfl)) ?_
  refine J_p 2 (ls' := [_, _, _]) rfl ?_
  refine J_putI rfl t1 (Or.inl rfl) ?_
  obtain ⟨M1, hM1⟩ : ∃ X, X = sI (sI M (t + 205 + c) 4 (nI 1)) (t + 205 + c) 2 (nI 0) := ⟨_, rfl⟩
  rw [← hM1]
  have hF1 : Fm (fun z => z = t + 205 + c) M M1 := by
    rw [hM1]
    exact (Fm.sI (W := fun z => z = t + 205 + c) rfl n1).trans (Fm.sI rfl n1)
  have hN1 : Nw M M1 := by rw [hM1]; exact ⟨rfl, rfl, rfl⟩
  have hS1 := hS.setk hF1 c10 (by rw [hM1, mI_s0, if_neg (by omega), mI_s0, if_neg (by omega)])
  have hC1 := OC.setk (k := (k_q k, 0, 1, k_gt k)) hS hC hF1 c10 ⟨by rw [hM1, mI_s0, if_neg (by omega), mI_s0, if_neg (by omega)]; exact hK.1, by rw [hM1, mI_s0, if_pos rfl], by rw [hM1, mI_s0, if_neg (by omega), mI_s0, if_neg (by omega)]; exact hK.2.2.1, by rw [hM1, mI_s0, if_neg (by omega), mI_s0, if_pos rfl]⟩
  have hk1 : (a_c (w_c A ((a_c A).set c (k_q k, 0, 1, k_gt k))))[c]? = some (k_q k, 0, 1, k_gt k) := set_get hk
  have hx1 : (a_q (w_c A ((a_c A).set c (k_q k, 0, 1, k_gt k))))[k_q k]? = some x := hx
  refine J_p 2 (ls' := [_, _, _]) rfl ?_
  refine J_gi rfl (hS1.tk c10) (hC1.kc hk1).1 ?_
  refine J_call rfl rfl rfl (decide_eq_true hS1.1.1) rfl (c_queueAt hS1 hC1 (fun j y g1 g2 g3 g4 => ?_) (fun g1 => ?_))
  · show J _ _ _ _ _ _ _
    have e : k_q k = j := (nI_eq (show k_q k < 2 ^ 31 by omega) (by omega)).mp g4
    subst e
    refine J_p 2 (ls' := [_, _, .ref (t + 4 + 25 * k_q k)]) rfl ?_
    refine J_brT rfl rfl rfl ?_
    refine J_p 2 (ls' := [_, _, _]) rfl ?_
    refine J_gi rfl (hS1.tk c10) (hS1.2.2.2.1.2.2 c c10).2.2 ?_
    refine J_call rfl rfl rfl (decide_eq_true (hS1.qs q8).1) rfl (c_takeBack (hS1.qs q8) (hC1.qc hx1) hw (by omega) (fun M2 hF2 hN2 hQ2 hQC2 => ?_))
    show J _ _ _ _ _ _ _
    refine J_ret rfl rfl rfl (K M2 _ ((hF1.mono (fun z (e : z = _) => by unfold Ww; omega)).trans (hF2.mono (fun z e => e.ww q8))) (hN1.trans hN2) (hS1.setq hF2 q8 hQ2) ?_)
    exact OC.setq hS1 hC1 hF2 q8 hQC2
  · have e : ixN (nI (k_q k)) (a_q A).length = some (k_q k) := ixN_nI (li hx) (by have := hC.2.1.2; omega)
    have g2 : ixN (nI (k_q k)) (a_q A).length = none := g1
    rw [e] at g2
    cases g2
theorem c_forgetDead (hS : OS M w t g o F) (hC : OC M w t g o F A) {s : Int32} {jo : Option Nat} (hs : (s = -1 ∧ jo = none) ∨ ∃ j, s = nI j ∧ j < 8 ∧ jo = some j) (hd8 : ∀ (i : Nat) (d : Da), (a_d A)[i]? = some d → d_q d < 8) (K : ∀ (M' : Mm) (o' : Nat → Nat), Fm (Dw w t) M M' → Nw M M' → OS M' w t g o' F → OC M' w t g o' F (w_d A (buA jo (a_d A).length (a_d A)).1) → Q (some (.int (nI (buA jo (a_d A).length (a_d A)).2))) M') : J E 88 0 [.ref w, .int s, U0, U0] [] M Q := by
  have n30 := hC.2.2.2.1.2
  obtain ⟨n, hn⟩ : ∃ n, (a_d A).length = n := ⟨_, rfl⟩
  have loop : ∀ (i cnt : Nat) (M1 : Mm) (o1 : Nat → Nat) (D1 : List Da), Fm (Dw w t) M M1 → Nw M M1 → OS M1 w t g o1 F → OC M1 w t g o1 F (w_d A D1) → (∀ (i : Nat) (d : Da), D1[i]? = some d → d_q d < 8) → i ≤ D1.length → D1.length + cnt = n → (buA jo i D1).1 = (buA jo n (a_d A)).1 → (buA jo i D1).2 + cnt = (buA jo n (a_d A)).2 → J E 88 9 [.ref w, .int s, .int (nI n), .int (nI i - nI 1)] [] M1 Q := by
    intro i
    induction i with
    | zero =>
      intro cnt M1 o1 D1 hF hN hS1 hC1 hd1 hi hc e1 e2
      refine J_p 1 (ls' := [_, _, _, _]) rfl ?_
      refine J_zlt rfl (fun _ => ?_) (fun b => absurd (by decide) b)
      refine J_p 2 (ls' := [_, _, _, _]) rfl ?_
      refine J_gi (z := nI D1.length) rfl hS1.1.1 hC1.2.2.2.1.1 ?_
      refine J_p 1 (ls' := [_, _, _, _]) rfl ?_
      refine J_t0 (nI_subE (m := n) (n := D1.length) rfl rfl (by omega)) ?_
      have e3 : n - D1.length = (buA jo n (a_d A)).2 := by
        have : (buA jo 0 D1).2 = 0 := rfl
        omega
      rw [e3, ← hn]
      refine J_ret rfl rfl rfl (K M1 o1 hF hN hS1 ?_)
      rw [hn, ← e1]
      exact hC1
    | succ i ih =>
      intro cnt M1 o1 D1 hF hN hS1 hC1 hd1 hi hc e1 e2
      obtain ⟨d, hd⟩ := get_of (l := D1) (i := i) (by omega)
      have hq := hd1 i d hd
      have n30' : D1.length ≤ 30 := hC1.2.2.2.1.2
      obtain ⟨x1, x2, x3, x4, x5⟩ := hS1.2.2.2.2.1
      have t2 : mT M1 (t + 216 + o1 i) = 2 := x5 _ (x3 i (by omega)).2
      have hD : DC M1 (t + 216 + o1 i) d := hC1.dc (A := w_d A D1) hd
      have ep : buA jo (i + 1) D1 = if jo = none ∨ jo = some (d_q d) then ((buA jo i (D1.eraseIdx i)).1, (buA jo i (D1.eraseIdx i)).2 + 1) else buA jo i D1 := by
        show (match D1[i]? with
          | none => (D1, 0)
          | some d => if jo = none ∨ jo = some (d_q d) then ((buA jo i (D1.eraseIdx i)).1, (buA jo i (D1.eraseIdx i)).2 + 1) else buA jo i D1) = _
        rw [hd]
      rw [ep] at e1 e2
      rw [nI_subE (m := i + 1) (n := 1) rfl rfl (by omega), show i + 1 - 1 = i from rfl]
      have go : (jo = none ∨ jo = some (d_q d)) → J E 88 31 [.ref w, .int s, .int (nI n), .int (nI i)] [] M1 Q := fun z => by
        rw [if_pos z] at e1 e2
        refine J_p 2 (ls' := [_, _, _, _]) rfl ?_
        refine J_call rfl rfl rfl (decide_eq_true hS1.1.1) rfl (c_removeDead hS1 hC1 (p := i) (by show i < D1.length; omega) (fun M2 o2 hF2 hN2 hS2 hC2 => ?_))
        show J _ _ _ _ _ _ _
        refine J_p 2 (ls' := [_, _, _, _]) rfl ?_
        rw [nI_dec1]
        have hlen : (D1.eraseIdx i).length = D1.length - 1 := List.length_eraseIdx_of_lt (by omega)
        refine ih (cnt + 1) M2 o2 (D1.eraseIdx i) (hF.trans hF2) (hN.trans hN2) hS2 hC2 (fun j z hz => ?_) (by omega) (by omega) e1 ?_
        · obtain ⟨j0, _, hj⟩ := er_sub hz
          exact hd1 j0 z hj
        · have e2' : (buA jo i (D1.eraseIdx i)).2 + 1 + cnt = (buA jo n (a_d A)).2 := e2
          omega
      refine J_p 1 (ls' := [_, _, _, _]) rfl ?_
      refine J_zlt rfl (fun b => absurd b (nI_pos (by omega))) (fun _ => ?_)
      refine J_p 2 (ls' := [_, _, _, _]) rfl ?_
      refine J_ieq rfl (fun b => go ?_) (fun b => ?_)
      · rcases hs with ⟨_, h⟩ | ⟨j, h1, h2, _⟩
        · exact Or.inl h
        · rw [h1] at b
          have := congrArg Int32.toInt b
          rw [nI_toInt (by omega)] at this
          have h3 : (-1 : Int32).toInt = -1 := by decide
          omega
      · obtain ⟨j, h1, h2, h3⟩ : ∃ j, s = nI j ∧ j < 8 ∧ jo = some j := by
          rcases hs with ⟨h, _⟩ | h
          · exact absurd h b
          · exact h
        refine J_p 1 (ls' := [_, _, _, _]) rfl ?_
        refine J_getR rfl hS1.1.1 hS1.1.2.2.2.2.1 ?_
        refine J_p 1 (ls' := [_, _, _, _]) rfl ?_
        refine J_aald (n := i) rfl rfl (by rw [x1]; rfl) x2 (by omega) (by omega) (x3 i (by omega)).1 ?_
        refine J_gi rfl t2 hD.2.1 ?_
        refine J_p 1 (ls' := [_, _, _, _]) rfl ?_
        refine J_ine rfl (fun b2 => ?_) (fun b2 => go ?_)
        · have nz : ¬ (jo = none ∨ jo = some (d_q d)) := fun z => by
            rw [h3] at z
            rcases z with z | z
            · cases z
            · have := Option.some.inj z
              exact b2 (by rw [h1, this])
          rw [if_neg nz] at e1 e2
          refine J_p 2 (ls' := [_, _, _, _]) rfl ?_
          rw [nI_dec1]
          exact ih cnt M1 o1 D1 hF hN hS1 hC1 hd1 (by omega) hc e1 e2
        · rw [h1] at b2
          have := (nI_eq (by omega) (by omega)).mp b2
          exact Or.inr (by rw [h3, this])
  refine J_p 1 (ls' := [_, _, _, _]) rfl ?_
  refine J_gi rfl hS.1.1 hC.2.2.2.1.1 ?_
  rw [hn]
  refine J_p 5 (ls' := [_, _, _, _]) rfl ?_
  exact loop n 0 M o (a_d A) (Fm.refl _ M) ⟨rfl, rfl, rfl⟩ hS hC hd8 (by omega) (by omega) rfl rfl
end COMP27