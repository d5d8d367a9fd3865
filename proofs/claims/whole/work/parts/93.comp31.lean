/-! THE COMPONENT: a dead one is revived; a new consumer. -/
section COMP31
variable {E : Nat × Nat} {M M' : Mm} {W : Nat → Prop} {Q : Option Value → Mm → Prop} {w t g a c q p i b m T : Nat} {o o' f f' : Nat → Nat} {F F' : Nat → Nat → Nat} {A : Ab} {x : Qa} {d : Da} {ms : List Ma}
theorem c_reviveDead (hS : OS M w t g o F) (hC : OC M w t g o F A) (hd : (a_d A)[i]? = some d) (hx : (a_q A)[q]? = some x) (h3 : q_li x ≤ 20) (h4 : (q_ls x).length < q_li x) (hm : d_m d < (a_m A).length) (h5 : ∀ (i : Nat) (l : La), (q_ls x)[i]? = some l → l_m l < 300) (K : ∀ (M' : Mm) (o' : Nat → Nat) (F' : Nat → Nat → Nat), Fm (Ww w t) M M' → Nw M M' → OS M' w t g o' F' → OC M' w t g o' F' (w_d (comeA A q x (d_m d)) ((a_d A).eraseIdx i)) → Q none M') : J E 87 0 [.ref w, .int (nI i), .ref (t + 4 + 25 * q), U0] [] M Q := by
  have il := li hd
  have d30 := hC.2.2.2.1.2
  have q8 : q < 8 := Nat.lt_of_lt_of_le (li hx) hC.2.1.2
  have hQ := hS.qs q8
  refine J_p 2 (ls' := [_, _, _, _]) rfl ?_
  refine J_call rfl rfl rfl (decide_eq_true hS.1.1) rfl (c_deadAt hS hC (fun j y g1 g2 g3 g4 => ?_) (fun g1 => ?_))
  · show J _ _ _ _ _ _ _
    have e : i = j := (nI_eq (by omega) (by omega)).mp g4
    subst e
    have hD := hC.dc hd
    have t2 : mT M (t + 216 + o i) = 2 := hS.2.2.2.2.1.2.2.2.2 _ (hS.2.2.2.2.1.2.2.1 i g3).2
    obtain ⟨y, hy⟩ := get_of (l := a_m A) (i := d_m d) hm
    refine J_p 2 (ls' := [_, _, _, .ref (t + 216 + o i)]) rfl ?_
    refine J_brF rfl rfl rfl ?_
    refine J_p 2 (ls' := [_, _, _, _]) rfl ?_
    refine J_getR rfl hS.1.1 hS.1.2.1 ?_
    refine J_p 1 (ls' := [_, _, _, _]) rfl ?_
    refine J_gi rfl t2 hD.1 ?_
    refine J_call rfl rfl rfl (decide_eq_true hQ.1) rfl (c_insert hQ (hC.qc hx) hS.2.2.2.2.2.1 hC.mc h3 h4 hy h5 (fun M1 f1 hF1 hN1 hQ1 hQC1 => ?_))
    show J _ _ _ _ _ _ _
    have hS1 := hS.setq hF1 q8 hQ1
    have hC1 := OC.setq hS hC hF1 q8 hQC1
    refine J_p 2 (ls' := [_, _, _, _]) rfl ?_
    refine J_call rfl rfl rfl (decide_eq_true hS1.1.1) rfl (c_removeDead (p := i) hS1 hC1 il (fun M2 o2 hF2 hN2 hS2 hC2 => ?_))
    show J _ _ _ _ _ _ _
    exact J_ret rfl rfl rfl (K M2 o2 _ ((hF1.mono (fun z e => e.ww q8)).trans (hF2.mono (fun z (h : z = w ∨ z = t + 215) => by unfold Ww; omega))) (hN1.trans hN2) hS2 hC2)
  · rw [ixN_nI il (by omega)] at g1
    cases g1
theorem c_newConsumer (hS : OS M w t g o F) (hC : OC M w t g o F A) (K : ∀ M' : Mm, Fm (Ww w t) M M' → Nw M M' → OS M' w t g o F → OC M' w t g o F (w_c A (a_c A ++ [(q, 0, 0, nI 0)])) → Q (some (.int (nI (a_c A).length))) M') (kf : (a_c A).length = 10 → Q (some (.int (-1))) M) : J E 75 0 [.ref w, .int (nI q)] [] M Q := by
  obtain ⟨y1, y2, y3⟩ := hS.2.2.2.2.2.2.1
  have hmn := hS.2.2.2.2.2.2.2
  have n10 := hC.2.2.1.2
  have hcn := hC.2.2.1.1
  obtain ⟨n, hn⟩ : ∃ n, (a_c A).length = n := ⟨_, rfl⟩
  rw [hn] at n10 hcn
  rw [hn] at K kf
  refine J_p 1 (ls' := [_, _]) rfl ?_
  refine J_gi rfl hS.1.1 hcn ?_
  refine J_p 1 (ls' := [_, _]) rfl ?_
  refine J_ilt rfl (fun b => ?_) (fun b => ?_)
  · have hlt := (nI_ltI (by omega) (by omega)).mp b
    have t1 := hS.tk (c := n) hlt
    obtain ⟨e, he⟩ : ∃ e, e = t + 205 + n := ⟨_, rfl⟩
    refine J_p 1 (ls' := [_, _]) rfl ?_
    refine J_getR rfl hS.1.1 hS.1.2.2.2.1 ?_
    refine J_p 1 (ls' := [_, _]) rfl ?_
    refine J_gi rfl hS.1.1 hcn ?_
    refine J_aald (n := n) rfl rfl (by rw [hS.2.2.2.1.1]; rfl) hS.2.2.2.1.2.1 (by omega) (by omega) (hS.2.2.2.1.2.2 n hlt).1 ?_
    refine J_p 1 (ls' := [_, _]) rfl ?_
    refine J_call rfl rfl rfl (decide_eq_true t1) rfl (c_conBegin t1 ?_)
    show J _ _ _ _ _ _ _
    rw [← he] at t1
    rw [← he]
    obtain ⟨M1, hM1⟩ : ∃ X, X = sI (sI (sI (sI M e 1 (nI q)) e 2 (nI 0)) e 3 (nI 0)) e 4 (nI 0) := ⟨_, rfl⟩
    rw [← hM1]
    have T1 : mT M1 = mT M := by rw [hM1]; rfl
    have i1 : ∀ z, z ≠ e → mI M1 z = mI M z := fun z hz => by rw [hM1, mI_s1 _ _ _ hz, mI_s1 _ _ _ hz, mI_s1 _ _ _ hz, mI_s1 _ _ _ hz]
    refine J_p 2 (ls' := [_, _]) rfl ?_
    refine J_gi (z := nI n) rfl (by rw [T1]; exact hS.1.1) (by rw [i1 w (by omega)]; exact hcn) ?_
    refine J_p 2 (ls' := [_, _]) rfl ?_
    refine J_t0 (nI_add n 1) ?_
    refine J_putI rfl (by rw [T1]; exact hS.1.1) (Or.inl rfl) ?_
    refine J_p 1 (ls' := [_, _]) rfl ?_
    refine J_gi (z := nI (n + 1)) rfl (show mT M1 w = 9 by rw [T1]; exact hS.1.1) (by rw [mI_s0, if_pos rfl]) ?_
    refine J_p 2 (ls' := [_, _]) rfl ?_
    refine J_t0 (nI_subE (m := n + 1) (n := 1) rfl rfl (by omega)) ?_
    obtain ⟨M2, hM2⟩ : ∃ X, X = sI M1 w 5 (nI (n + 1)) := ⟨_, rfl⟩
    rw [← hM2]
    have n1 : ¬ rO (mT M e) := by rw [t1]; unfold rO; omega
    have n9 : ¬ rO (mT M1 w) := by rw [T1, hS.1.1]; unfold rO; omega
    have hF : Fm (fun z => z = w ∨ z = e) M M2 := by
      rw [hM2, hM1] at *
      exact ((((Fm.sI (W := fun z => z = w ∨ z = e) (Or.inr rfl) n1).trans (Fm.sI (Or.inr rfl) n1)).trans (Fm.sI (Or.inr rfl) n1)).trans (Fm.sI (Or.inr rfl) n1)).trans (Fm.sI (Or.inl rfl) n9)
    have i2 : ∀ z, z ≠ e → z ≠ w → mI M2 z = mI M z := fun z h1 h2 => by rw [hM2, mI_s1 _ _ _ h2]; exact i1 z h1
    have iw : ∀ j, j ≠ 5 → mI M2 w j = mI M w j := fun j hj => by rw [hM2, mI_s0, if_neg hj, i1 w (by omega)]
    have ie : ∀ j, mI M2 e j = mI M1 e j := fun j => by rw [hM2, mI_s1 _ _ _ (by omega)]
    have r2 : mR M2 = mR M := by rw [hM2, hM1]; rfl
    have hS2 : OS M2 w t g o F := by
      refine hS.gen hF.1 hF.2.1 (by rw [r2]) (by rw [r2]) (by rw [r2]) (by rw [r2]) (by rw [r2]) (fun c hc => ?_) (fun i hi => by rw [r2]; exact hS.2.2.2.2.1.2.2.1 i hi) hS.2.2.2.2.1.2.2.2.1 (fun q hq => ?_)
      · by_cases z : c = n
        · rw [z, ← he, ie, hM1, mI_s0, if_neg (by omega), mI_s0, if_neg (by omega), mI_s0, if_neg (by omega), mI_s0, if_neg (by omega)]
        · rw [i2 _ (by omega) (by omega)]
      · exact (hS.qs hq).fr (fun z h1 h2 => hF.2.1 z (by omega)) (by rw [i2 _ (by omega) (by omega)]) (fun z _ _ => by rw [r2])
    refine J_ret rfl rfl rfl (K M2 (hF.mono (fun z (h : z = w ∨ z = e) => by unfold Ww; omega)) (by rw [hM2, hM1]; exact ⟨rfl, rfl, rfl⟩) hS2 ?_)
    obtain ⟨c1, c2, c3, c4, c5, c6, ⟨txt, c7⟩, c8, c9, c10, c11⟩ := hC
    refine ⟨(iw 1 (by omega)).trans c1, ⟨(iw 3 (by omega)).trans c2.1, c2.2⟩, ⟨?_, ?_⟩, ⟨(iw 7 (by omega)).trans c4.1, c4.2⟩, (iw 9 (by omega)).trans c5, (iw 10 (by omega)).trans c6, ⟨txt, c7.fr (i2 _ (by omega) (by omega)) (i2 _ (by omega) (by omega)) (i2 _ (by omega) (by omega))⟩, fun z y hy => ?_, fun c k hk => ?_, fun i d hd => ?_, c11.fr (fun j hj => i2 _ (by omega) (by omega))⟩
    · show _ = nI (a_c A ++ [(q, 0, 0, nI 0)]).length
      rw [List.length_append, hM2, mI_s0, if_pos rfl, hn]
      rfl
    · show (a_c A ++ [(q, 0, 0, nI 0)]).length ≤ 10
      rw [List.length_append, hn]
      show n + 1 ≤ 10
      omega
    · have zl : z < (a_q A).length := li hy
      have q8 := c2.2
      exact (c8 z y hy).fr hF (fun i hi => (hS.qs (q := z) (by omega)).lt hi) (fun b h1 h2 => ⟨i2 b (by omega) (by omega), by rw [r2]⟩)
    · rcases app_or hk with ⟨rfl, rfl⟩ | ⟨hlt2, hk⟩
      · rw [hn, ← he]
        refine ⟨?_, ?_, ?_, ?_⟩
        · rw [ie, hM1]; simp only [mI_s0]; rfl
        · rw [ie, hM1]; simp only [mI_s0]; rfl
        · rw [ie, hM1]; simp only [mI_s0]; rfl
        · rw [ie, hM1]; simp only [mI_s0]; rfl
      · exact (c9 c k hk).fr (i2 _ (by omega) (by omega))
    · have dl : i < (a_d A).length := li hd
      have d30 := c4.2
      have := (hS.2.2.2.2.1.2.2.1 i (by omega)).2
      exact (c10 i d hd).fr hF (i2 _ (by omega) (by omega)) (by rw [r2])
  · have e10 : n = 10 := by
      rcases Nat.lt_or_ge n 10 with z | z
      · exact absurd (nI_lt z (by omega)) b
      · omega
    refine J_p 1 (ls' := [_, _]) rfl ?_
    exact J_ret rfl rfl rfl (kf e10)
end COMP31