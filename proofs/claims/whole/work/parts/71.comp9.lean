/-! THE COMPONENT: a letter comes into a queue, all that wait go, a consumer's come back. -/
def sgU (p n i : Nat) : Nat := if i = p then n else if p < i ∧ i ≤ n then i - 1 else i
theorem sgU_lt {p n i : Nat} (hn : n < 20) (hi : i < 20) : sgU p n i < 20 := by
  unfold sgU
  split
  · omega
  · split <;> omega
theorem sgU_inj {p n i j : Nat} (hp : p ≤ n) (h : sgU p n i = sgU p n j) : i = j := by
  unfold sgU at h
  split at h
  · split at h
    · omega
    · split at h <;> omega
  · split at h
    · split at h
      · omega
      · split at h <;> omega
    · split at h
      · omega
      · split at h <;> omega
theorem MsS.fr {M M' : Mm} {g : Nat} (h : MsS M g) (e1 : M'.1 = M.1) (eR : mR M' g = mR M g) : MsS M' g := by
  have eT : mT M' = mT M ∧ mS M' = mS M := by unfold mT mS; rw [e1]; exact ⟨rfl, rfl⟩
  unfold MsS at h ⊢
  rw [eT.1, eT.2, eR]
  exact h
section COMP9
variable {E : Nat × Nat} {M M' : Mm} {Q : Option Value → Mm → Prop} {a q p g m i : Nat} {f : Nat → Nat} {x : Qa} {ms : List Ma} {l l' : La} {y : Ma}
theorem QS.sm (h : QS M a q f) (h1 : M'.1 = M.1) (h0 : mI M' a 0 = mI M a 0) (hR : ∀ b, a ≤ b → b ≤ a + 4 → mR M' b = mR M b) : QS M' a q f := by
  have := h.re (M' := M') (s := fun i => i) h1 h0 (fun b _ h2 h3 => hR b h2 (by omega)) (fun i hi => hi) (fun i j e => e) (fun i hi => by rw [hR (a + 4) (by omega) (by omega)]; exact h.el hi)
  exact this
theorem QC.lt (hS : QS M a q f) (hC : QC M a f x ms) (hl : (q_ls x)[i]? = some l) (hF : Fm (Qw a) M M') (e : ∀ b, b ≠ a + 5 + f i → mI M' b = mI M b ∧ mR M' b = mR M b) (hL : CL M' (a + 5 + f i) l' ms) : QC M' a f (x_ls x ((q_ls x).set i l')) ms := by
  have n20 := hC.n20
  have il := li hl
  obtain ⟨c1, c2, c3, c4, c5, c6, c7, c8, c9, c10, c11, c12⟩ := hC
  have ea := (e a (by omega)).1
  refine ⟨c1.fr (e _ (by omega)).1 (e _ (by omega)).1 (e _ (by omega)).1, ⟨by show _ = nI ((q_ls x).set i l').length; rw [List.length_set, ea]; exact c2.1, by show ((q_ls x).set i l').length ≤ 20; rw [List.length_set]; exact c2.2⟩, by rw [ea]; exact c3, by rw [ea]; exact c4, by rw [ea]; exact c5, by rw [ea]; exact c6, by rw [ea]; exact c7, by rw [ea]; exact c8, by rw [ea]; exact c9, by rw [ea]; exact c10, by rw [ea]; exact c11, fun j z hj => ?_⟩
  rcases set_or hj with ⟨rfl, rfl⟩ | ⟨hne, hj⟩
  · exact hL
  · have jl := li hj
    have ne : a + 5 + f j ≠ a + 5 + f i := fun e2 => hne (hS.2.2.2.2.2.2.2.2.1 j i (by omega) (by omega) (by omega))
    exact (c12 j z hj).fr hF (e _ ne).1 (e _ ne).2
theorem CL.rd (h : CL M p l ms) (hF : Fm (fun z => z = p) M (sI (sI (sI M p 4 (nI 0)) p 6 (-1)) p 7 (-1))) : CL (sI (sI (sI M p 4 (nI 0)) p 6 (-1)) p 7 (-1)) p (rdL l) ms := by
  obtain ⟨c0, c1, c2, c3, c4, c5, c6, c7, c8⟩ := h
  refine ⟨?_, ?_, ?_, ?_, ?_, ?_, ?_, ?_, c8.fr hF⟩
  all_goals simp only [mI_s0]
  · exact c0
  · exact c1
  · exact c2
  · exact c3
  · rfl
  · exact c5
  · rfl
  · rfl
theorem c_insert (hS : QS M a q f) (hC : QC M a f x ms) (hMs : MsS M g) (hMc : MsC M g ms) (hli : q_li x ≤ 20) (hle : (q_ls x).length < q_li x) (hy : ms[m]? = some y) (hlm : ∀ (i : Nat) (l : La), (q_ls x)[i]? = some l → l_m l < 300) (k : ∀ (M' : Mm) (f' : Nat → Nat), Fm (Qw a) M M' → Nw M M' → QS M' a q f' → QC M' a f' (x_ls x ((q_ls x).insertIdx (plcA m (q_ls x) (q_ls x).length) (m, 0, 0, 0, []))) ms → Q none M') : J E 37 0 [.ref a, .ref g, .int (nI m), U0, U0, U0] [] M Q := by
  have hlm300 : m < 300 := Nat.lt_of_lt_of_le (li hy) hMc.1
  obtain ⟨n, hn⟩ : ∃ n, (q_ls x).length = n := ⟨_, rfl⟩
  have hcn : mI M a 3 = nI n := by rw [← hn]; exact hC.n
  have n20 : n < 20 := by omega
  obtain ⟨gU, hgU⟩ : ∃ gU : Nat → Nat → Option Nat, gU = fun kk j => if kk < j ∧ j ≤ n then some (a + 5 + f (j - 1)) else mR M (a + 4) j := ⟨_, rfl⟩
  have eg : ∀ kk j, gU kk j = if kk < j ∧ j ≤ n then some (a + 5 + f (j - 1)) else mR M (a + 4) j := fun kk j => by rw [hgU]
  have tA : aR (mT M (a + 4)) = true := by rw [hS.2.2.2.2.2.1]; rfl
  have fin : ∀ at_, plcA m (q_ls x) n = at_ → at_ ≤ n → ∀ v5 : Value, J E 37 75 [.ref a, .ref g, .int (nI m), .int (nI at_), .ref (a + 5 + f n), v5] [] (wR M (a + 4) (gU at_)) Q := fun at_ hat hle2 v5 => by
    refine J_p 1 (ls' := [_, _, _, _, _, _]) rfl ?_
    refine J_getR rfl hS.1 (show mR (wR M (a + 4) (gU at_)) a 2 = some (a + 4) by rw [mR_wR, if_neg (by omega)]; exact hS.2.2.2.1) ?_
    refine J_p 2 (ls' := [_, _, _, _, _, _]) rfl ?_
    refine J_aast (n := at_) rfl rfl tA (by show mT M (a + 5 + f n) + 22 = mT M (a + 4); rw [hS.t3 (by omega), hS.2.2.2.2.2.1]) hS.2.2.2.2.2.2.1 (by omega) (by omega) ?_
    obtain ⟨M1, hM1⟩ : ∃ X, X = sR (wR M (a + 4) (gU at_)) (a + 4) at_ (some (a + 5 + f n)) := ⟨_, rfl⟩
    rw [← hM1]
    have hF1 : Fm (Qw a) M M1 := by
      rw [hM1]
      exact (Fm.wR (M := M) ⟨by omega, by omega⟩ (hS.ty ⟨by omega, by omega⟩)).trans (Fm.sR ⟨by omega, by omega⟩ (hS.ty ⟨by omega, by omega⟩))
    have e1 : M1.1 = M.1 := by rw [hM1]; rfl
    have eI1 : mI M1 = mI M := by rw [hM1, mI_sR]; rfl
    have eR1 : ∀ b, b ≠ a + 4 → mR M1 b = mR M b := fun b hb => by rw [hM1, mR_s1 _ _ _ hb, mR_wR, if_neg hb]
    have eR4 : ∀ i, i < 20 → mR M1 (a + 4) i = some (a + 5 + f (sgU at_ n i)) := fun i hi => by
      rw [hM1, mR_s0, mR_wR, if_pos rfl, eg]
      unfold sgU
      by_cases c1 : i = at_
      · rw [if_pos c1, if_pos c1]
      · rw [if_neg c1, if_neg c1]
        by_cases c2 : at_ < i ∧ i ≤ n
        · rw [if_pos c2, if_pos c2]
        · rw [if_neg c2, if_neg c2]
          exact hS.el hi
    have eT : mT M1 = mT M := by unfold mT; rw [e1]
    have hS1 : QS M1 a q (fun i => f (sgU at_ n i)) := hS.re e1 (by rw [eI1]) (fun b hb _ _ => eR1 b hb) (fun i hi => sgU_lt n20 hi) (fun i j h => sgU_inj hle2 h) eR4
    have t3 : mT M1 (a + 5 + f n) = 3 := by rw [eT]; exact hS.t3 (by omega)
    have fn20 := hS.lt (i := n) (by omega)
    have hMs1 : MsS M1 g := hMs.fr e1 (eR1 g (fun e => by
      have h4 := hMs.1
      rw [e, hS.2.2.2.2.2.1] at h4
      omega))
    have hMc1 : MsC M1 g ms := by unfold MsC; rw [eI1]; exact hMc
    refine J_p 3 (ls' := [_, _, _, _, _, _]) rfl ?_
    refine J_call rfl rfl rfl (decide_eq_true t3) rfl (c_begin hMs1 hMc1 t3 hy (fun M2 hF2 hN2 eo hL2 => ?_))
    show J _ _ _ _ _ _ _
    have e12 : M2.1 = M.1 := hN2.1.trans e1
    have hI2 : ∀ b, b ≠ a + 5 + f n → mI M2 b = mI M b := fun b hb => by rw [(eo b hb).2, eI1]
    have hR2 : ∀ b, b ≠ a + 5 + f n → mR M2 b = mR M1 b := fun b hb => (eo b hb).1
    have eT2 : mT M2 = mT M := by unfold mT; rw [e12]
    refine J_p 2 (ls' := [_, _, _, _, _, _]) rfl ?_
    refine J_gi rfl (by rw [eT2]; exact hS.1) (show mI M2 a 3 = nI n by rw [hI2 a (by omega)]; exact hcn) ?_
    refine J_p 2 (ls' := [_, _, _, _, _, _]) rfl ?_
    refine J_t0 (nI_add n 1) ?_
    refine J_putI rfl (by rw [eT2]; exact hS.1) (Or.inl rfl) ?_
    have nra : ¬ rO (mT M2 a) := by rw [eT2]; exact hS.ty ⟨by omega, by omega⟩
    have hF12 : Fm (Qw a) M1 M2 := hF2.mono (fun b (e : b = a + 5 + f n) => ⟨by omega, by omega⟩)
    have hF3 : Fm (Qw a) M2 (sI M2 a 3 (nI (n + 1))) := Fm.sI ⟨by omega, by omega⟩ nra
    have hF : Fm (Qw a) M (sI M2 a 3 (nI (n + 1))) := (hF1.trans hF12).trans hF3
    have hI3 : ∀ b, b ≠ a → b ≠ a + 5 + f n → mI (sI M2 a 3 (nI (n + 1))) b = mI M b := fun b h1 h2 => by rw [mI_s1 _ _ _ h1]; exact hI2 b h2
    have hIa : ∀ j, j ≠ 3 → mI (sI M2 a 3 (nI (n + 1))) a j = mI M a j := fun j hj => by rw [mI_s0, if_neg hj, hI2 a (by omega)]
    have hR3 : ∀ b, b ≠ a + 4 → b ≠ a + 5 + f n → mR (sI M2 a 3 (nI (n + 1))) b = mR M b := fun b h1 h2 => by rw [mR_sI, hR2 b h2]; exact eR1 b h1
    have hS3 : QS (sI M2 a 3 (nI (n + 1))) a q (fun i => f (sgU at_ n i)) := hS1.sm (M' := sI M2 a 3 (nI (n + 1))) (show M2.1 = M1.1 from hN2.1) (by rw [hIa 0 (by omega), eI1]) (fun b h1 h2 => by rw [mR_sI]; exact hR2 b (by omega))
    refine J_ret rfl rfl rfl (k _ _ hF ⟨e12, by rw [show mN (sI M2 a 3 (nI (n + 1))) = mN M2 from rfl, hN2.2.1, hM1]; rfl, by rw [show mU (sI M2 a 3 (nI (n + 1))) = mU M2 from rfl, hN2.2.2, hM1]; rfl⟩ hS3 ?_)
    obtain ⟨c1, c2, c3, c4, c5, c6, c7, c8, c9, c10, c11, c12⟩ := hC
    have hple : plcA m (q_ls x) (q_ls x).length ≤ (q_ls x).length := plcA_le _ _ _
    have hlen : ((q_ls x).insertIdx (plcA m (q_ls x) (q_ls x).length) (m, 0, 0, 0, [])).length = n + 1 := by rw [List.length_insertIdx_of_le_length hple, hn]
    have hpe : plcA m (q_ls x) (q_ls x).length = at_ := by rw [hn]; exact hat
    refine ⟨c1.fr (hI3 _ (by omega) (by omega)) (hI3 _ (by omega) (by omega)) (hI3 _ (by omega) (by omega)), ⟨by show _ = nI ((q_ls x).insertIdx _ _).length; rw [hlen, mI_s0, if_pos rfl], by show ((q_ls x).insertIdx _ _).length ≤ 20; omega⟩, (hIa _ (by omega)).trans c3, (hIa _ (by omega)).trans c4, (hIa _ (by omega)).trans c5, (hIa _ (by omega)).trans c6, (hIa _ (by omega)).trans c7, (hIa _ (by omega)).trans c8, (hIa _ (by omega)).trans c9, (hIa _ (by omega)).trans c10, (hIa _ (by omega)).trans c11, fun i l hl => ?_⟩
    have hl' : ((q_ls x).insertIdx (plcA m (q_ls x) (q_ls x).length) (m, 0, 0, 0, []))[i]? = some l := hl
    have hi := li hl'
    rw [hlen] at hi
    have key : ∀ j, (q_ls x)[j]? = some l → sgU at_ n i = j → CL (sI M2 a 3 (nI (n + 1))) (a + 5 + f (sgU at_ n i)) l ms := fun j hj e => by
      have jl := li hj
      have ne : a + 5 + f j ≠ a + 5 + f n := fun e2 => by
        have := hS.2.2.2.2.2.2.2.2.1 j n (by omega) (by omega) (by omega)
        omega
      rw [e]
      exact (c12 j l hj).fr hF (hI3 _ (by omega) ne) (hR3 _ (by omega) ne)
    rcases in_or hple hl' with ⟨z1, z2⟩ | ⟨z1, z2⟩ | ⟨z1, z2⟩
    · exact key i z2 (by unfold sgU; rw [if_neg (by omega), if_neg (by omega)])
    · have es : sgU at_ n i = n := by unfold sgU; rw [if_pos (by omega)]
      show CL _ (a + 5 + f (sgU at_ n i)) l ms
      rw [es, z2]
      exact hL2.fr hF3 (mI_s1 _ _ _ (by omega)) rfl
    · exact key (i - 1) z2 (by unfold sgU; rw [if_neg (by omega), if_pos (by omega)])
  have loop : ∀ (kk : Nat), kk ≤ n → plcA m (q_ls x) n = plcA m (q_ls x) kk → J E 37 27 [.ref a, .ref g, .int (nI m), .int (nI kk), .ref (a + 5 + f n), .int (nI kk)] [] (wR M (a + 4) (gU kk)) Q := by
    intro kk
    induction kk with
    | zero =>
      intro hk hp
      refine J_p 1 (ls' := [_, _, _, _, _, _]) rfl ?_
      refine J_zle rfl (fun _ => fin 0 hp (Nat.zero_le _) _) (fun b => absurd (by decide) b)
    | succ kk ih =>
      intro hk hp
      obtain ⟨l, hl⟩ := get_of (l := q_ls x) (i := kk) (by omega)
      have hL := hC.l hl
      have hm3 := hlm kk l hl
      have e2 : mR (wR M (a + 4) (gU (kk + 1))) a 2 = some (a + 4) := by rw [mR_wR, if_neg (by omega)]; exact hS.2.2.2.1
      have ek : nI (kk + 1) - nI 1 = nI kk := nI_subE (m := kk + 1) (n := 1) rfl rfl (by omega)
      have e3 : mR (wR M (a + 4) (gU (kk + 1))) (a + 4) kk = some (a + 5 + f kk) := by rw [mR_wR, if_pos rfl, eg, if_neg (by omega)]; exact hS.el (by omega)
      refine J_p 1 (ls' := [_, _, _, _, _, _]) rfl ?_
      refine J_zle rfl (fun b => absurd b (nI_ge (a := 0) (by omega) (by omega))) (fun _ => ?_)
      refine J_p 1 (ls' := [_, _, _, _, _, _]) rfl ?_
      refine J_getR rfl hS.1 e2 ?_
      refine J_p 3 (ls' := [_, _, _, _, _, _]) rfl ?_
      refine J_aald (n := kk) rfl ek tA hS.2.2.2.2.2.2.1 (by omega) (by omega) e3 ?_
      refine J_gi rfl (hS.t3 (by omega)) hL.1 ?_
      refine J_p 1 (ls' := [_, _, _, _, _, _]) rfl ?_
      refine J_ile rfl (fun b => ?_) (fun b => ?_)
      · have hle2 := (nI_leI (by omega) (by omega)).mp b
        refine fin (kk + 1) ?_ hk _
        rw [hp]
        unfold plcA
        rw [hl]
        exact if_pos hle2
      · have hlt2 : ¬ l_m l ≤ m := fun y => b (nI_le y (by omega))
        have hp2 : plcA m (q_ls x) n = plcA m (q_ls x) kk := by
          rw [hp]
          show (match (q_ls x)[kk]? with
            | some l => if l_m l ≤ m then kk + 1 else plcA m (q_ls x) kk
            | none => plcA m (q_ls x) kk) = _
          rw [hl]
          exact if_neg hlt2
        refine J_p 1 (ls' := [_, _, _, _, _, _]) rfl ?_
        refine J_getR rfl hS.1 e2 ?_
        refine J_p 2 (ls' := [_, _, _, _, _, _]) rfl ?_
        refine J_getR rfl hS.1 e2 ?_
        refine J_p 3 (ls' := [_, _, _, _, _, _]) rfl ?_
        refine J_aald (n := kk) rfl ek tA hS.2.2.2.2.2.2.1 (by omega) (by omega) e3 ?_
        refine J_aast (n := kk + 1) rfl rfl tA (by show mT M (a + 5 + f kk) + 22 = mT M (a + 4); rw [hS.t3 (by omega), hS.2.2.2.2.2.1]) hS.2.2.2.2.2.2.1 (by omega) (by omega) ?_
        refine J_p 3 (ls' := [_, _, _, _, _, _]) rfl ?_
        refine J_t0 ek ?_
        refine J_p 3 (ls' := [_, _, _, _, _, _]) rfl ?_
        have em : sR (wR M (a + 4) (gU (kk + 1))) (a + 4) (kk + 1) (some (a + 5 + f kk)) = wR M (a + 4) (gU kk) := by
          rw [sR_wR, wR_wR]
          congr 1
          funext j
          rw [mR_wR, if_pos rfl, eg, eg]
          by_cases c : j = kk + 1
          · subst c
            rw [if_pos rfl, if_pos (by omega)]
            rfl
          · rw [if_neg c]
            by_cases c2 : kk + 1 < j ∧ j ≤ n
            · rw [if_pos c2, if_pos (by omega)]
            · rw [if_neg c2, if_neg (by omega)]
        rw [em]
        have ed : nI (kk + 1) + (-1) = nI kk := nI_decE rfl
        rw [ed]
        exact ih (by omega) hp2
  refine J_p 1 (ls' := [_, _, _, _, _, _]) rfl ?_
  refine J_call rfl rfl rfl (decide_eq_true hS.1) rfl (c_isFull hS hC hli (by omega) (fun h => absurd h (by omega)) (fun _ => ?_))
  show J _ _ _ _ _ _ _
  refine J_zeq rfl (fun _ => ?_) (fun b => absurd rfl b)
  refine J_p 1 (ls' := [_, _, _, _, _, _]) rfl ?_
  refine J_gi rfl hS.1 hcn ?_
  refine J_p 2 (ls' := [_, _, _, _, _, _]) rfl ?_
  refine J_getR rfl hS.1 hS.2.2.2.1 ?_
  refine J_p 1 (ls' := [_, _, _, _, _, _]) rfl ?_
  refine J_aald (n := n) rfl rfl tA hS.2.2.2.2.2.2.1 (by omega) (by omega) (hS.el (by omega)) ?_
  refine J_p 2 (ls' := [_, _, _, _, _, _]) rfl ?_
  refine J_gi rfl hS.1 hcn ?_
  refine J_p 1 (ls' := [_, _, _, _, _, _]) rfl ?_
  have e0 : wR M (a + 4) (gU n) = M := by
    rw [show gU n = mR M (a + 4) from funext fun j => by rw [eg, if_neg (by omega)], wR_id]
  refine J_M e0.symm ?_
  exact loop n (Nat.le_refl n) rfl
end COMP9