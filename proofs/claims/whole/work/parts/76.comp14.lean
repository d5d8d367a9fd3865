/-! THE COMPONENT: a pattern is read, is taken from another. -/
theorem lastD {cs : List Int32} {x : Int32} : (cs ++ [x]).getD ((cs ++ [x]).length - 1) 0 = x := by
  rw [List.getD_eq_getElem?_getD, List.length_append, show cs.length + [x].length - 1 = cs.length from rfl, List.getElem?_concat_length]
  rfl
theorem by_sort {w : Bool} {y : Nat} {s s' : List Int32 × Nat × Nat × Nat} (h : byB w y s = some s') (hs : s.2.2.2 = 0 ∨ s.2.2.2 = 2 ∨ s.2.2.2 = 3) : s'.2.2.2 = 0 ∨ s'.2.2.2 = 2 ∨ s'.2.2.2 = 3 := by
  unfold byB at h
  split at h
  · split at h
    · cases h
      exact hs
    · cases h
  · split at h
    · split at h
      · cases h
      · cases h
        exact Or.inl rfl
    · split at h
      · cases h
        show (if y = 35 then 3 else 2) = 0 ∨ (if y = 35 then 3 else 2) = 2 ∨ (if y = 35 then 3 else 2) = 3
        split <;> omega
      · cases h
theorem PB.fr {M M' : Mm} {b : Nat} {s : List Int32 × Nat × Nat × Nat} (h : PB M b s) (h3 : mI M' b 3 = mI M b 3) (h4 : mI M' b 4 = mI M b 4) (h5 : mI M' b 5 = mI M b 5) (h1 : mI M' (b + 1) = mI M (b + 1)) : PB M' b s := by
  unfold PB at h ⊢
  rw [h3, h4, h5, h1]
  exact h
section COMP14
variable {E : Nat × Nat} {M M' : Mm} {Q : Option Value → Mm → Prop} {b y p : Nat} {w : Bool} {t : List Nat} {s : List Int32 × Nat × Nat × Nat} {wv : Int32}
theorem c_patRead (hw0 : wv = 0 → w = false) (hw1 : ¬ wv = 0 → w = true) (hP : PS M b) (hT : TS M p) (hC : TC M p t) (hd : ¬ Pw b p ∧ ¬ Pw b (p + 1)) (hpn : p + 1 < mN M) (kf : ∀ (q : Nat) (M' : Mm), paA w t 4 0 [] = .inl q → Fm (Pw b) M M' → Nw M M' → mR M' = mR M → Q (some (.int (nI q))) M') (ks : ∀ (c : List Int32) (M' : Mm), paA w t 4 0 [] = .inr c → Fm (Pw b) M M' → Nw M M' → mR M' = mR M → PC M' b c (t.map nI) → Q (some (.int (-1))) M') : J E 22 0 [.ref b, .ref p, .int wv, U0, U0] [] M Q := by
  obtain ⟨t1, t2, t3⟩ := hC
  rw [← ruB_pa (w := w) (t := t) 4 (t.length + 1) 0 [] rfl (by omega) (by omega) (by omega)] at kf ks
  obtain ⟨R, hR⟩ : ∃ R, ruB w t (t.length + 1) 0 ([], 0, 0, 0) = R := ⟨_, rfl⟩
  rw [hR] at kf ks
  have loop : ∀ (d kk : Nat) (s : List Int32 × Nat × Nat × Nat) (M1 : Mm) (v4 : Value), kk + d = t.length → Fm (Pw b) M M1 → Nw M M1 → mR M1 = mR M → PB M1 b s → mI M1 b 2 = nI kk → (∀ (j y : Nat), j < kk → t[j]? = some y → mI M1 (b + 2) j = nI y) → kk ≤ 5 * s.1.length + s.2.1 → kk ≤ 19 → (s.2.2.2 = 0 ∨ s.2.2.2 = 2 ∨ s.2.2.2 = 3) → ruB w t (d + 1) kk s = R → J E 22 6 [.ref b, .ref p, .int wv, .int (nI kk), v4] [] M1 Q := by
    intro d
    induction d with
    | zero =>
      intro kk s M1 v4 hk hF hN hR1 hB h2 ht hpos h19 hso er
      have eT : mT M1 = mT M ∧ mS M1 = mS M := by unfold mT mS; rw [hN.1]; exact ⟨rfl, rfl⟩
      have hP5 : mT M1 b = 5 := by rw [eT.1]; exact hP.1
      have hT8 : mT M1 p = 8 := by rw [eT.1]; exact hT.1
      have e1 : mI M1 p = mI M p := (hF.2.2 p (by omega) (Or.inl hd.1)).2.1
      have hl : mI M1 p 1 = nI t.length := by rw [e1]; exact t1
      have en : t[kk]? = none := List.getElem?_eq_none (by omega)
      rw [ruB_n en] at er
      refine J_p 2 (ls' := [_, _, _, _, _]) rfl ?_
      refine J_gi rfl hT8 hl ?_
      refine J_ige rfl (fun _ => ?_) (fun c => absurd (nI_le (by omega) (by omega)) c)
      refine J_p 1 (ls' := [_, _, _, _, _]) rfl ?_
      refine J_gi rfl hP5 hB.2.2.2.1 ?_
      have h4 := hB.2.2.2.2.1
      have h3 := hB.2.1
      refine J_zne rfl (fun c => ?_) (fun c => ?_)
      · have n0 : ¬ s.2.1 = 0 := fun z => c (by rw [z]; rfl)
        rw [if_neg n0] at er
        refine J_p 1 (ls' := [_, _, _, _, _]) rfl ?_
        refine J_ret rfl rfl rfl (ks (s.1 ++ [pvB s.2.2.1 s.2.2.2]) M1 er.symm hF hN hR1 ⟨⟨?_, ?_⟩, ⟨?_, ?_⟩, ?_, ?_, ?_⟩)
        · rw [List.length_map, h2]
          congr 1
        · rw [List.length_map]
          omega
        · rw [List.length_append]
          exact hB.1
        · rw [List.length_append]
          show s.1.length + 1 ≤ 4
          omega
        · rw [lastD, hB.2.2.1]
          have hpv : pvB s.2.2.1 s.2.2.2 = -3 ↔ s.2.2.2 = 3 := by
            rcases hso with z | z | z
            · have hv := hB.2.2.2.2.2.2.2.1 z
              have : 27 ^ s.2.1 ≤ 27 ^ 4 := Nat.pow_le_pow_right (by omega) (by omega)
              refine ⟨fun e => ?_, fun e => by omega⟩
              unfold pvB at e
              rw [if_pos z] at e
              exact absurd e (nI_ne3 (by omega))
            · refine ⟨fun e => ?_, fun e => by omega⟩
              unfold pvB at e
              rw [if_neg (by omega), if_pos z] at e
              exact absurd e (by decide)
            · refine ⟨fun _ => z, fun _ => ?_⟩
              unfold pvB
              rw [if_neg (by omega), if_neg (by omega)]
          by_cases z : s.2.2.2 = 3
          · rw [if_pos z, if_pos (hpv.mpr z)]
          · rw [if_neg z, if_neg (fun e => z (hpv.mp e))]
        · intro k c hk
          rcases app_or hk with ⟨rfl, rfl⟩ | ⟨_, hk⟩
          · exact hB.2.2.2.2.2.2.1
          · exact hB.2.2.2.2.2.1 k c hk
        · intro k c hk
          rw [List.getElem?_map] at hk
          cases e : t[k]? with
          | none => rw [e] at hk; cases hk
          | some y =>
            rw [e] at hk
            cases hk
            have := li e
            exact ht k y (by omega) e
      · have n0 : s.2.1 = 0 := (nI_eq (b := 0) (by omega) (by omega)).mp c
        rw [if_pos n0] at er
        refine J_p 1 (ls' := [_, _, _, _, _]) rfl ?_
        refine J_gi rfl hT8 hl ?_
        refine J_p 1 (ls' := [_, _, _, _, _]) rfl ?_
        have ek : t.length = kk := by omega
        rw [ek]
        exact J_ret rfl rfl rfl (kf kk M1 er.symm hF hN hR1)
    | succ d ih =>
      intro kk s M1 v4 hk hF hN hR1 hB h2 ht hpos h19 hso er
      have eT : mT M1 = mT M ∧ mS M1 = mS M := by unfold mT mS; rw [hN.1]; exact ⟨rfl, rfl⟩
      have hP1 : PS M1 b := hP.fr (by rw [hN.1]) (by rw [hN.1]) (by rw [hN.1]) (by rw [hR1])
      have hT8 : mT M1 p = 8 := by rw [eT.1]; exact hT.1
      have e1 : mI M1 p = mI M p := (hF.2.2 p (by omega) (Or.inl hd.1)).2.1
      have e2 : mI M1 (p + 1) = mI M (p + 1) := (hF.2.2 (p + 1) (by omega) (Or.inl hd.2)).2.1
      have hl : mI M1 p 1 = nI t.length := by rw [e1]; exact t1
      obtain ⟨y, hy⟩ := get_of (l := t) (i := kk) (by omega)
      obtain ⟨y1, y2⟩ := t3 kk y hy
      have h4 := hB.2.2.2.2.1
      have h3 := hB.2.1
      have F : byB w y s = none → J E 22 45 [.ref b, .ref p, .int wv, .int (nI kk), .int (nI y)] [] M1 Q := fun z => by
        rw [ruB_f hy z] at er
        refine J_p 1 (ls' := [_, _, _, _, _]) rfl ?_
        exact J_ret rfl rfl rfl (kf kk M1 er.symm hF hN hR1)
      refine J_p 2 (ls' := [_, _, _, _, _]) rfl ?_
      refine J_gi rfl hT8 hl ?_
      refine J_ige rfl (fun c => absurd c (nI_ge (by omega) (by omega))) (fun _ => ?_)
      refine J_p 2 (ls' := [_, _, _, _, _]) rfl ?_
      refine J_ige rfl (fun c => absurd c (nI_ge (by omega) (by omega))) (fun _ => ?_)
      refine J_p 1 (ls' := [_, _, _, _, _]) rfl ?_
      refine J_getR rfl hT8 (by rw [hR1]; exact hT.2.1) ?_
      refine J_p 1 (ls' := [_, _, _, _, _]) rfl ?_
      refine J_ia (n := kk) (L := 250) rfl rfl (Or.inl (by rw [eT.1]; exact hT.2.2.1)) (by rw [eT.2]; exact hT.2.2.2) (by omega) (by omega) (z := nI y) (by rw [e2]; exact y1) ?_
      refine J_p 3 (ls' := [_, _, _, _, _]) rfl ?_
      refine J_ige rfl (fun c => F (by_19 h3 h4 ?_)) (fun c => ?_)
      · have := (nI_leI (by omega) (by omega)).mp c
        omega
      · have k19 : kk < 19 := by
          rcases Nat.lt_or_ge kk 19 with z | z
          · exact z
          · exact absurd (nI_le z (by omega)) c
        refine J_p 3 (ls' := [_, _, _, _, _]) rfl ?_
        refine J_call rfl rfl rfl (decide_eq_true hP1.1) rfl (c_patByte hw0 hw1 hP1 hB y2 (fun z => ?_) (fun M2 s' g1 g2 g3 g4 g5 g6 g7 => ?_))
        · show J _ _ _ _ _ _ _
          exact J_zne rfl (fun c => absurd rfl c) (fun _ => F z)
        · show J _ _ _ _ _ _ _
          refine J_zne rfl (fun _ => ?_) (fun c => absurd c (by decide))
          have hP2 : PS M2 b := hP1.fr (by rw [g3.1]) (by rw [g3.1]) (by rw [g3.1]) (by rw [g4])
          refine J_p 1 (ls' := [_, _, _, _, _]) rfl ?_
          refine J_getR rfl hP2.1 hP2.2.2.1 ?_
          refine J_p 2 (ls' := [_, _, _, _, _]) rfl ?_
          refine J_iast (n := kk) rfl rfl hP2.2.2.2.2.1 hP2.2.2.2.2.2 (by omega) (by omega) ?_
          refine J_p 4 (ls' := [_, _, _, _, _]) rfl ?_
          refine J_t0 (nI_add kk 1) ?_
          refine J_putI rfl hP2.1 (Or.inl rfl) ?_
          refine J_p 2 (ls' := [_, _, _, _, _]) rfl ?_
          rw [nI_add]
          have n5 : ¬ rO (mT M2 b) := by rw [hP2.1]; unfold rO; omega
          have n20 : ¬ rO (mT M2 (b + 2)) := by rw [hP2.2.2.2.2.1]; unfold rO; omega
          have hpos' : kk + 1 ≤ 5 * s'.1.length + s'.2.1 := by
            rcases by_pos g1 hpos h4 with z | z
            · exact z
            · exact absurd hpos z
          refine ih (kk + 1) s' _ _ (by omega) ((hF.trans g2).trans ((Fm.sI (W := Pw b) (Or.inr (Or.inr rfl)) n20).trans (Fm.sI (Or.inl rfl) n5))) ((hN.trans g3).trans ⟨rfl, rfl, rfl⟩) (g4.trans hR1) (g5.fr ?_ ?_ ?_ ?_) ?_ ?_ hpos' (by omega) (by_sort g1 hso) ?_
          · rw [mI_s0, if_neg (by omega), mI_s1 _ _ _ (by omega)]
          · rw [mI_s0, if_neg (by omega), mI_s1 _ _ _ (by omega)]
          · rw [mI_s0, if_neg (by omega), mI_s1 _ _ _ (by omega)]
          · rw [mI_s1 _ _ _ (by omega), mI_s1 _ _ _ (by omega)]
          · rw [mI_s0, if_pos rfl]
          · intro j z hj hz
            rw [mI_s1 _ _ _ (by omega), mI_s0]
            by_cases c1 : j = kk
            · subst c1
              rw [if_pos rfl]
              rw [hy] at hz
              cases hz
              rfl
            · rw [if_neg c1, g7]
              exact ht j z (by omega) hz
          · rw [← er]
            exact (ruB_s hy g1).symm
  refine J_p 1 (ls' := [_, _, _, _, _]) rfl ?_
  refine J_call rfl rfl rfl (decide_eq_true hP.1) rfl (c_patBegin hP (fun M1 g1 g2 g3 g4 g5 => ?_))
  show J _ _ _ _ _ _ _
  refine J_p 2 (ls' := [_, _, _, _, _]) rfl ?_
  exact loop t.length 0 ([], 0, 0, 0) M1 _ (by omega) g1 g2 g3 g4 g5 (fun j y hj _ => absurd hj (by omega)) (by omega) (by omega) (Or.inl rfl) hR
theorem c_textAt (hP : PS M b) {ps txt : List Int32} (hC : PC M b ps txt) {i : Int32} (kt : ∀ (j : Nat) (c : Int32), ixN i txt.length = some j → txt[j]? = some c → Q (some (.int c)) M) (kf : ixN i txt.length = none → Q (some (.int (-1))) M) : J E 27 0 [.ref b, .int i] [] M Q := by
  obtain ⟨⟨x1, x2⟩, _, _, _, x3⟩ := hC
  refine J_p 2 (ls' := [_, _]) rfl ?_
  refine J_gi rfl hP.1 x1 ?_
  refine J_call rfl rfl rfl rfl rfl (c_isBelow (s := i) (n := txt.length) (by omega) (fun j h1 l1 e1 => ?_) (fun h1 => ?_))
  · show J _ _ _ _ _ _ _
    subst e1
    obtain ⟨c, hc⟩ := get_of (l := txt) (i := j) l1
    refine J_zeq rfl (fun z => absurd z (by decide)) (fun _ => ?_)
    refine J_p 2 (ls' := [_, _]) rfl ?_
    refine J_ige rfl (fun z => absurd z (nI_ge (by omega) (by omega))) (fun _ => ?_)
    refine J_p 1 (ls' := [_, _]) rfl ?_
    refine J_getR rfl hP.1 hP.2.2.1 ?_
    refine J_p 1 (ls' := [_, _]) rfl ?_
    refine J_ia (n := j) rfl rfl (Or.inl hP.2.2.2.2.1) hP.2.2.2.2.2 (by omega) (by omega) (x3 j c hc) ?_
    refine J_p 1 (ls' := [_, _]) rfl ?_
    exact J_ret rfl rfl rfl (kt j c h1 hc)
  · show J _ _ _ _ _ _ _
    refine J_zeq rfl (fun _ => ?_) (fun z => absurd rfl z)
    refine J_p 1 (ls' := [_, _]) rfl ?_
    exact J_ret rfl rfl rfl (kf h1)
end COMP14