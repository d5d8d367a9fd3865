/-! THE COMPONENT: the dead; a new cause. -/
def Dw (w t z : Nat) : Prop := z = w ∨ z = t + 215
def rvO : Option Nat → Value
  | none => .null
  | some p => .ref p
section COMP18
variable {E : Nat × Nat} {M M' : Mm} {W : Nat → Prop} {Q : Option Value → Mm → Prop} {w t g a c q p i : Nat} {o o' f f' : Nat → Nat} {F F' : Nat → Nat → Nat} {A : Ab} {k : Co} {d : Da} {x x' : Qa} {ms : List Ma} {l : La}
theorem c_removeDead (hS : OS M w t g o F) (hC : OC M w t g o F A) (hp : p < (a_d A).length) (k : ∀ (M' : Mm) (o' : Nat → Nat), Fm (Dw w t) M M' → Nw M M' → OS M' w t g o' F → OC M' w t g o' F (w_d A ((a_d A).eraseIdx p)) → Q none M') : J E 86 0 [.ref w, .int (nI p), U0, U0] [] M Q := by
  have n30 := hC.2.2.2.1.2
  obtain ⟨n, hn⟩ : ∃ n, (a_d A).length = n := ⟨_, rfl⟩
  have hcn : mI M w 7 = nI n := by rw [← hn]; exact hC.2.2.2.1.1
  rw [hn] at hp n30
  obtain ⟨⟨s1, s2, s3, s4, s5, s6⟩, sb, sd, sk, ⟨x1, x2, x3, x4, x5⟩, sm, ⟨y1, y2, y3⟩, sn⟩ := id hS
  obtain ⟨gD, hgD⟩ : ∃ gD : Nat → Nat → Option Nat, gD = fun kk j => if p ≤ j ∧ j < kk then some (t + 216 + o (j + 1)) else mR M (t + 215) j := ⟨_, rfl⟩
  have eg : ∀ kk j, gD kk j = if p ≤ j ∧ j < kk then some (t + 216 + o (j + 1)) else mR M (t + 215) j := fun kk j => by rw [hgD]
  have tA : aR (mT M (t + 215)) = true := by rw [x1]; rfl
  have t2 : ∀ i, i < 30 → mT M (t + 216 + o i) = 2 := fun i hi => x5 _ (x3 i hi).2
  have n9 : ¬ rO (mT M w) := by rw [s1]; unfold rO; omega
  have n24 : ¬ rO (mT M (t + 215)) := by rw [x1]; unfold rO; omega
  have fin : J E 86 52 [.ref w, .int (nI p), .ref (t + 216 + o p), .int (nI (n - 1))] [] (wR M (t + 215) (gD (n - 1))) Q := by
    refine J_p 2 (ls' := [_, _, _, _]) rfl ?_
    refine J_gi rfl s1 hcn ?_
    refine J_p 2 (ls' := [_, _, _, _]) rfl ?_
    refine J_t0 (nI_subE (m := n) (n := 1) rfl rfl (by omega)) ?_
    refine J_putI rfl s1 (Or.inl rfl) ?_
    refine J_p 1 (ls' := [_, _, _, _]) rfl ?_
    refine J_getR rfl s1 (show mR (wR M (t + 215) (gD (n - 1))) w 6 = some (t + 215) by rw [mR_wR, if_neg (by omega)]; exact s5) ?_
    refine J_p 1 (ls' := [_, _, _, _]) rfl ?_
    refine J_gi rfl s1 (show mI (sI (wR M (t + 215) (gD (n - 1))) w 7 (nI (n - 1))) w 7 = nI (n - 1) by rw [mI_s0, if_pos rfl]) ?_
    refine J_p 1 (ls' := [_, _, _, _]) rfl ?_
    refine J_aast (n := n - 1) rfl rfl tA (by show mT M (t + 216 + o p) + 22 = mT M (t + 215); rw [t2 p (by omega), x1]) x2 (by omega) (by omega) ?_
    obtain ⟨M', hM'⟩ : ∃ X, X = sR (sI (wR M (t + 215) (gD (n - 1))) w 7 (nI (n - 1))) (t + 215) (n - 1) (some (t + 216 + o p)) := ⟨_, rfl⟩
    rw [← hM']
    have hF : Fm (Dw w t) M M' := by
      rw [hM']
      exact ((Fm.wR (M := M) (Or.inr rfl) n24).trans (Fm.sI (Or.inl rfl) n9)).trans (Fm.sR (Or.inr rfl) n24)
    have e1 : M'.1 = M.1 := by rw [hM']; rfl
    have eI : ∀ b, b ≠ w → mI M' b = mI M b := fun b hb => by rw [hM', mI_sR, mI_s1 _ _ _ hb]; rfl
    have eI0 : ∀ j, j ≠ 7 → mI M' w j = mI M w j := fun j hj => by rw [hM', mI_sR, mI_s0, if_neg hj]; rfl
    have eI3 : mI M' w 7 = nI (n - 1) := by rw [hM', mI_sR, mI_s0, if_pos rfl]
    have eR : ∀ b, b ≠ t + 215 → mR M' b = mR M b := fun b hb => by rw [hM', mR_s1 _ _ _ hb, mR_sI, mR_wR, if_neg hb]
    have eR4 : ∀ i, i < 30 → mR M' (t + 215) i = some (t + 216 + o (sgD p n i)) := fun i hi => by
      rw [hM', mR_s0, mR_sI, mR_wR, if_pos rfl, eg]
      unfold sgD
      by_cases c1 : i = n - 1
      · rw [if_pos c1, if_neg (by omega), if_pos (by omega)]
      · rw [if_neg c1]
        by_cases c2 : p ≤ i ∧ i + 1 < n
        · rw [if_pos (show p ≤ i ∧ i < n - 1 by omega), if_pos c2]
        · rw [if_neg (show ¬ (p ≤ i ∧ i < n - 1) by omega), if_neg c2, if_neg (show ¬ i + 1 = n by omega)]
          exact (x3 i hi).1
    have hS' : OS M' w t g (fun i => o (sgD p n i)) F := by
      refine hS.gen hF.1 hF.2.1 (eR w (by omega)) (eR t (by omega)) (eR _ (by omega)) (eR _ (by omega)) (eR g (by omega)) (fun c hc => by rw [eI _ (by omega)]) (fun i hi => ⟨eR4 i hi, (x3 _ (sgD_lx hp n30 hi)).2⟩) (fun i j hi hj e => sgD_inj hp (x4 _ _ (sgD_lx hp n30 hi) (sgD_lx hp n30 hj) e)) (fun q hq => ?_)
      exact (hS.qs hq).fr (fun b h1 h2 => by rw [e1]) (by rw [eI _ (by omega)]) (fun b h1 h2 => eR b (by omega))
    refine J_ret rfl rfl rfl (k M' _ hF ⟨e1, by rw [hM']; rfl, by rw [hM']; rfl⟩ hS' ?_)
    obtain ⟨c1, c2, c3, c4, c5, c6, ⟨txt, c7⟩, c8, c9, c10, c11⟩ := hC
    have hlen : ((a_d A).eraseIdx p).length = n - 1 := by rw [List.length_eraseIdx_of_lt (by omega), hn]
    refine ⟨(eI0 1 (by omega)).trans c1, ⟨(eI0 3 (by omega)).trans c2.1, c2.2⟩, ⟨(eI0 5 (by omega)).trans c3.1, c3.2⟩, ⟨by show _ = nI ((a_d A).eraseIdx p).length; rw [hlen]; exact eI3, by show ((a_d A).eraseIdx p).length ≤ 30; omega⟩, (eI0 9 (by omega)).trans c5, (eI0 10 (by omega)).trans c6, ⟨txt, c7.fr (eI _ (by omega)) (eI _ (by omega)) (eI _ (by omega))⟩, fun z y hy => ?_, fun c k hk => ?_, fun i d hd => ?_, c11.fr (fun j hj => eI _ (by omega))⟩
    · have zl : z < (a_q A).length := li hy
      have q8 := c2.2
      exact (c8 z y hy).fr hF (fun i hi => (hS.qs (q := z) (by omega)).lt hi) (fun b h1 h2 => ⟨eI b (by omega), eR b (by omega)⟩)
    · have cl : c < (a_c A).length := li hk
      exact (c9 c k hk).fr (eI _ (by omega))
    · have hd' : ((a_d A).eraseIdx p)[i]? = some d := hd
      have hi := li hd'
      rw [hlen] at hi
      have key : ∀ j, (a_d A)[j]? = some d → sgD p n i = j → DC M' (t + 216 + o (sgD p n i)) d := fun j hj e => by
        rw [e]
        exact (c10 j d hj).fr hF (eI _ (by omega)) (eR _ (by omega))
      rcases er_or hd' with ⟨z1, z2⟩ | ⟨z1, z2⟩
      · exact key i z2 (by unfold sgD; rw [if_neg (by omega), if_neg (by omega)])
      · exact key (i + 1) z2 (by unfold sgD; rw [if_pos (by omega)])
  have loop : ∀ (d kk : Nat), kk + d + 1 = n → p ≤ kk → J E 86 22 [.ref w, .int (nI p), .ref (t + 216 + o p), .int (nI kk)] [] (wR M (t + 215) (gD kk)) Q := by
    intro d
    induction d with
    | zero =>
      intro kk hk hpk
      refine J_p 2 (ls' := [_, _, _, _]) rfl ?_
      refine J_gi rfl s1 hcn ?_
      refine J_p 2 (ls' := [_, _, _, _]) rfl ?_
      refine J_t0 (nI_subE (m := n) (n := 1) rfl rfl (by omega)) ?_
      refine J_ige rfl (fun _ => ?_) (fun b => absurd (nI_le (by omega) (by omega)) b)
      obtain rfl : kk = n - 1 := by omega
      exact fin
    | succ d ih =>
      intro kk hk hpk
      refine J_p 2 (ls' := [_, _, _, _]) rfl ?_
      refine J_gi rfl s1 hcn ?_
      refine J_p 2 (ls' := [_, _, _, _]) rfl ?_
      refine J_t0 (nI_subE (m := n) (n := 1) rfl rfl (by omega)) ?_
      refine J_ige rfl (fun b => absurd b (nI_ge (by omega) (by omega))) (fun _ => ?_)
      have e2 : mR (wR M (t + 215) (gD kk)) w 6 = some (t + 215) := by rw [mR_wR, if_neg (by omega)]; exact s5
      refine J_p 1 (ls' := [_, _, _, _]) rfl ?_
      refine J_getR rfl s1 e2 ?_
      refine J_p 2 (ls' := [_, _, _, _]) rfl ?_
      refine J_getR rfl s1 e2 ?_
      refine J_p 3 (ls' := [_, _, _, _]) rfl ?_
      refine J_aald (n := kk + 1) (b := t + 216 + o (kk + 1)) rfl (nI_add kk 1) tA x2 (by omega) (by omega) (by rw [mR_wR, if_pos rfl, hgD]; show (if p ≤ kk + 1 ∧ kk + 1 < kk then _ else _) = _; rw [if_neg (by omega)]; exact (x3 _ (by omega)).1) ?_
      refine J_aast (n := kk) rfl rfl tA (by show mT M (t + 216 + o (kk + 1)) + 22 = mT M (t + 215); rw [t2 _ (by omega), x1]) x2 (by omega) (by omega) ?_
      refine J_p 2 (ls' := [_, _, _, _]) rfl ?_
      rw [nI_add kk 1]
      have em : sR (wR M (t + 215) (gD kk)) (t + 215) kk (some (t + 216 + o (kk + 1))) = wR M (t + 215) (gD (kk + 1)) := by
        rw [sR_wR, wR_wR]
        congr 1
        funext j
        rw [mR_wR, if_pos rfl, hgD]
        by_cases c : j = kk
        · subst c
          rw [if_pos rfl]
          show _ = if p ≤ j ∧ j < j + 1 then _ else _
          rw [if_pos (by omega)]
        · rw [if_neg c]
          show (if p ≤ j ∧ j < kk then _ else _) = if p ≤ j ∧ j < kk + 1 then _ else _
          by_cases c2 : p ≤ j ∧ j < kk
          · rw [if_pos c2, if_pos (by omega)]
          · rw [if_neg c2, if_neg (by omega)]
      rw [em]
      exact ih (kk + 1) (by omega) (by omega)
  refine J_p 1 (ls' := [_, _, _, _]) rfl ?_
  refine J_zlt rfl (fun b => absurd b (nI_pos (by omega))) (fun _ => ?_)
  refine J_p 2 (ls' := [_, _, _, _]) rfl ?_
  refine J_gi rfl s1 hcn ?_
  refine J_ilt rfl (fun _ => ?_) (fun b => absurd (nI_lt hp (by omega)) b)
  refine J_p 1 (ls' := [_, _, _, _]) rfl ?_
  refine J_getR rfl s1 s5 ?_
  refine J_p 1 (ls' := [_, _, _, _]) rfl ?_
  refine J_aald (n := p) rfl rfl tA x2 (by omega) (by omega) (x3 p (by omega)).1 ?_
  refine J_p 3 (ls' := [_, _, _, _]) rfl ?_
  have e0 : wR M (t + 215) (gD p) = M := by
    rw [show gD p = mR M (t + 215) from funext fun j => by rw [eg, if_neg (by omega)], wR_id]
  refine J_M e0.symm ?_
  exact loop (n - 1 - p) p (by omega) (Nat.le_refl p)
/-- a cause is made -/
theorem c_causeNew {cs : List Ca} {pr : Option Nat} (hc : CaR M cs pr) {kd tm fl dt v : Int32} (hv1 : kd = nI 3 ∨ kd = nI 4 → fl = v) (hv2 : kd = nI 5 ∨ kd = nI 6 → nI cs.length = v) (k : ∀ M' : Mm, (∀ W : Nat → Prop, Fm W M M') → mN M' = mN M + 1 → mU M' = mU M + 6 → CaR M' ((kd, tm, dt, v) :: cs) (some (mN M)) → Q none M') : J E 0 0 [.ref (mN M), .int kd, .int tm, .int fl, .int dt, rvO pr] [] (nC M 0 6) Q := by
  obtain ⟨b, hb⟩ : ∃ b, b = mN M := ⟨_, rfl⟩
  have t0 : mT (nC M 0 6) b = 0 := by rw [nC_T, if_pos hb]
  have mk : ∀ (M4 : Mm), M4 = sI (sR (sI (sI (sI (sI (nC M 0 6) b 0 kd) b 1 tm) b 2 fl) b 3 dt) b 5 pr) b 4 (nI cs.length) → Q none M4 := fun M4 h4 => by
    have hF : ∀ W : Nat → Prop, Fm W M M4 := fun W => by
      refine ⟨?_, fun z hz => ?_, fun z hz _ => ⟨?_, ?_, ?_, ?_⟩⟩
      · rw [h4]; exact Nat.le_succ _
      · rw [h4]; show (nC M 0 6).1 z = _; rw [nC_0, if_neg (by omega)]
      · rw [h4]; show (nC M 0 6).1 z = _; rw [nC_0, if_neg (by omega)]
      · rw [h4, mI_s1 _ _ _ (by omega), mI_sR, mI_s1 _ _ _ (by omega), mI_s1 _ _ _ (by omega), mI_s1 _ _ _ (by omega), mI_s1 _ _ _ (by omega), nC_I, if_neg (by omega)]
      · rw [h4]; show mL (nC M 0 6) z = _; rw [nC_L, if_neg (by omega)]
      · rw [h4, mR_sI, mR_s1 _ _ _ (by omega)]; show mR (nC M 0 6) z = _; rw [nC_R, if_neg (by omega)]
    refine k M4 hF (by rw [h4]; rfl) (by rw [h4]; rfl) ⟨mN M, rfl, ?_, ?_, ⟨?_, ?_, ?_, ?_, ?_⟩, ?_, ?_⟩
    · rw [h4, ← hb]; exact t0
    · rw [h4]; exact Nat.lt_succ_self _
    · rw [h4, ← hb]; simp only [mI_s0, mI_sR]; rfl
    · rw [h4, ← hb]; simp only [mI_s0, mI_sR]; rfl
    · rw [h4, ← hb]; simp only [mI_s0, mI_sR]; rfl
    · intro z
      rw [← hv1 z, h4, ← hb]; simp only [mI_s0, mI_sR]; rfl
    · intro z
      rw [← hv2 z, h4, ← hb]; simp only [mI_s0, mI_sR]; rfl
    · rw [h4, ← hb]; simp only [mI_s0, mI_sR]; rfl
    · have er : mR M4 (mN M) 5 = pr := by
        rw [h4, ← hb, mR_sI, mR_s0, if_pos rfl]
      rw [er]
      exact hc.fr (hF (fun _ => False))
  rw [← hb]
  refine J_p 1 (ls' := [_, _, _, _, _, _]) rfl ?_
  refine J_oin rfl rfl ?_
  refine J_p 2 (ls' := [_, _, _, _, _, _]) rfl ?_
  refine J_putI rfl t0 (Or.inl rfl) ?_
  refine J_p 2 (ls' := [_, _, _, _, _, _]) rfl ?_
  refine J_putI rfl t0 (Or.inl rfl) ?_
  refine J_p 2 (ls' := [_, _, _, _, _, _]) rfl ?_
  refine J_putI rfl t0 (Or.inl rfl) ?_
  refine J_p 2 (ls' := [_, _, _, _, _, _]) rfl ?_
  refine J_putI rfl t0 (Or.inl rfl) ?_
  cases cs with
  | nil =>
    have e : pr = none := hc
    subst e
    refine J_p 2 (ls' := [_, _, _, _, _, _]) rfl ?_
    refine J_putN rfl t0 ?_
    refine J_p 2 (ls' := [_, _, _, _, _, _]) rfl ?_
    refine J_brF rfl rfl rfl ?_
    refine J_p 2 (ls' := [_, _, _, _, _, _]) rfl ?_
    refine J_putI rfl t0 (Or.inl rfl) ?_
    exact J_ret rfl rfl rfl (mk _ rfl)
  | cons y ys =>
    obtain ⟨e, e1, e2, e3, e4, e5, e6⟩ := hc
    subst e1
    have te : e ≠ b := by omega
    have ti : mI (sR (sI (sI (sI (sI (nC M 0 6) b 0 kd) b 1 tm) b 2 fl) b 3 dt) b 5 (some e)) e 4 = nI ys.length := by
      rw [mI_sR, mI_s1 _ _ _ te, mI_s1 _ _ _ te, mI_s1 _ _ _ te, mI_s1 _ _ _ te, nC_I, if_neg (by omega)]
      exact e5
    refine J_p 2 (ls' := [_, _, _, _, _, _]) rfl ?_
    refine J_putR rfl t0 ?_
    refine J_p 2 (ls' := [_, _, _, _, _, _]) rfl ?_
    refine J_brT rfl rfl rfl ?_
    refine J_p 1 (ls' := [_, _, _, _, _, _]) rfl ?_
    refine J_gi rfl (by show mT (nC M 0 6) e = 0; rw [nC_T, if_neg (by omega)]; exact e2) ti ?_
    refine J_p 2 (ls' := [_, _, _, _, _, _]) rfl ?_
    refine J_t0 (nI_add ys.length 1) ?_
    refine J_putI rfl t0 (Or.inl rfl) ?_
    exact J_ret rfl rfl rfl (mk _ rfl)
end COMP18