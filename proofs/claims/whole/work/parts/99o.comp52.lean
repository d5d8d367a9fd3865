/-! THE COMPONENT'S PUBLIC METHODS: feed, wipe, topic, queue. -/
theorem paA_lt0 {w : Bool} {t : List Nat} : ∀ (f p : Nat) (cs : List Int32) (q : Nat), paA w t f p cs = .inl q → q ≤ p + 5 * f
  | 0, p, cs, q, h => by
    cases h
    omega
  | f + 1, p, cs, q, h => by
    cases ho : onA w t p with
    | none =>
      have e : paA w t (f + 1) p cs = .inl p := by simp only [paA, ho]
      rw [e] at h
      cases h
      omega
    | some x =>
      have hx := (onA_ok ho).2
      rw [paA_S ho] at h
      split at h
      · cases h
      · split at h
        · have := paA_lt0 f _ _ q h
          omega
        · cases h
          omega
theorem paA_lt {w : Bool} {t : List Nat} {q : Nat} (h : paA w t 4 0 [] = .inl q) : q ≤ 20 := by
  have := paA_lt0 4 0 [] q h
  omega
section COMP52
variable {E : Nat × Nat} {M M' M1 M2 X Y : Mm} {W : Nat → Prop} {Q : Option Value → Mm → Prop} {a b p w t g n q i T : Nat} {o f : Nat → Nat} {F : Nat → Nat → Nat} {S S1 S2 : St} {A : Ab} {cs txt : List Int32} {ms : List Ma} {tp : List Nat}
theorem Ck.pre (hF : Fm (Cw b) M M1) (hN : Nw M M1) (ea : phA (s_a S1) = phA (s_a S)) (ek : s_k S1 = s_k S) (h : Ck b M1 M2 S1 S2) : Ck b M M2 S S2 := by
  obtain ⟨h1, h2, h3⟩ := h
  obtain ⟨_, n2, n3⟩ := hN
  have e1 : pNS S1 = pNS S := by unfold pNS; rw [ea, ek]
  have e2 : pUS S1 = pUS S := by unfold pUS; rw [ek]
  exact ⟨hF.trans h1, by omega, by omega⟩
theorem c_refuseFault {fl : Nat} (hR : CR M b S) (K : ∀ M' : Mm, Ck b M M' S (z_f S 0) → CR M' b (z_f S 0) → Q (some (.int (-300 - nI fl))) M') : J E 149 0 [.ref b, .int (nI fl)] [] M Q := by
  refine J_p 2 (ls' := [_, _]) rfl ?_
  refine J_call rfl rfl rfl (decide_eq_true hR.1.1.1) rfl (c_refuse hR (w := 0) (by omega) (by first | rfl | decide) (fun M1 h1 h2 => ?_))
  show J _ _ _ _ _ _ _
  refine J_p 4 (ls' := [_, _]) rfl ?_
  exact J_ret rfl rfl rfl (K M1 h1 h2)
theorem c_tapeAdd (hT : TS M p) (hC : TC M p tp) (hl : tp.length < 250) (K : Q none (sI (sI M (p + 1) tp.length (nI n)) p 1 (nI (tp.length + 1)))) : J E 66 0 [.ref p, .int (nI n)] [] M Q := by
  obtain ⟨t1, t2, t3, t4⟩ := hT
  obtain ⟨c1, c2, c3⟩ := hC
  refine J_p 1 (ls' := [_, _]) rfl ?_
  refine J_gi rfl t1 c1 ?_
  refine J_p 1 (ls' := [_, _]) rfl ?_
  refine J_getR rfl t1 t2 ?_
  refine J_len rfl (Or.inr (Or.inl t3)) t4 ?_
  refine J_call rfl rfl rfl rfl rfl (c_isBelow (by omega) (fun j _ _ _ => ?_) (fun y => ?_))
  · show J _ _ _ _ _ _ _
    refine J_zeq rfl (fun y => absurd y (by decide)) (fun _ => ?_)
    refine J_p 1 (ls' := [_, _]) rfl ?_
    refine J_getR rfl t1 t2 ?_
    refine J_p 1 (ls' := [_, _]) rfl ?_
    refine J_gi rfl t1 c1 ?_
    refine J_p 1 (ls' := [_, _]) rfl ?_
    refine J_iast (n := tp.length) (L := 250) rfl rfl t3 t4 hl (by omega) ?_
    refine J_p 2 (ls' := [_, _]) rfl ?_
    refine J_gi (z := nI tp.length) rfl t1 (by rw [mI_s1 _ _ _ (by omega)]; exact c1) ?_
    refine J_p 2 (ls' := [_, _]) rfl ?_
    refine J_t0 (nI_add tp.length 1) ?_
    refine J_putI rfl t1 (Or.inl rfl) ?_
    exact J_ret rfl rfl rfl K
  · rw [ixN_nI hl (by omega)] at y
    cases y

theorem k_feed (hR : CR M b S) (hE : STa E M) (hW : WfS T S) (hT : T + 100 < 2 ^ 20) (hV : PrS S) (n : Int32) {P : Int32 × St} (hP : fFeed S n = P) (K : ∀ M' : Mm, Ck b M M' S P.2 → CR M' b P.2 → Q (some (.int P.1)) M') : J E 110 0 [.ref b, .int n] [] M Q := by
  have hr := hR.1.1
  obtain ⟨o, F, hS, hC⟩ := hR.2.1
  have hA := hW.1
  have n8 := hC.2.1.2
  have n10 := hC.2.2.1.2
  have n30 := hC.2.2.2.1.2
  have m3 := hC.mc.1
  obtain ⟨c1, c2, c3⟩ := hR.2.2.1
  have hT' := hR.1.2.1
  have hn := hR.1.2.2.2.2.2
  refine J_p 3 (ls' := [_, _]) rfl ?_
  refine J_call rfl rfl rfl rfl rfl (c_isWithin (by omega) (by omega) (fun k e1 ek k0 k1 => ?_) (fun e1 => ?_))
  · show J _ _ _ _ _ _ _
    rw [inNB_ix] at e1
    subst ek
    refine J_zne rfl (fun _ => ?_) (fun y => absurd y (by decide))
    refine J_p 1 (ls' := [_, _]) rfl ?_
    refine J_getR rfl hr.1 hr.2.2.1 ?_
    refine J_gi rfl hT'.1 c1 ?_
    refine J_p 1 (ls' := [_, _]) rfl ?_
    refine J_ilt rfl (fun y => ?_) (fun y => ?_)
    · have hl : ¬ (s_t S).length = 250 := fun e => nI_nlt (a := (s_t S).length) (b := 250) (by omega) (by omega) y
      obtain rfl : P = (nI ((s_t S).length + 1), z_t S (s_t S ++ [k])) := hP.symm.trans (by simp only [fFeed, e1, if_neg hl])
      refine J_p 1 (ls' := [_, _]) rfl ?_
      refine J_getR rfl hr.1 hr.2.2.1 ?_
      refine J_p 1 (ls' := [_, _]) rfl ?_
      refine J_call rfl rfl rfl (decide_eq_true hT'.1) rfl (c_tapeAdd hT' hR.2.2.1 (by omega) ?_)
      show J _ _ _ _ _ _ _
      have n8t : ¬ rO (mT M (b + 254)) := by rw [hT'.1]; unfold rO; omega
      have n20 : ¬ rO (mT M (b + 254 + 1)) := by rw [hT'.2.2.1]; unfold rO; omega
      have hF : Fm (fun z => z = b + 254 ∨ z = b + 255) M (sI (sI M (b + 254 + 1) (s_t S).length (nI k)) (b + 254) 1 (nI ((s_t S).length + 1))) := (Fm.sI (W := fun z => z = b + 254 ∨ z = b + 255) (Or.inr rfl) n20).trans (Fm.sI (Or.inl rfl) n8t)
      have hR2 : CR (sI (sI M (b + 254 + 1) (s_t S).length (nI k)) (b + 254) 1 (nI ((s_t S).length + 1))) b (z_t S (s_t S ++ [k])) := hR.own hF (fun z e => by omega) rfl ⟨by rw [mI_s0, if_pos rfl]; show _ = nI (s_t S ++ [k]).length; rw [List.length_append]; rfl, by show (s_t S ++ [k]).length ≤ 250; rw [List.length_append]; show (s_t S).length + 1 ≤ 250; omega, fun j y hj => by
        rw [mI_s1 _ _ _ (by omega), mI_s0]
        rcases app_or hj with ⟨rfl, rfl⟩ | ⟨hlt, hj⟩
        · rw [if_pos rfl]
          exact ⟨rfl, by omega⟩
        · rw [if_neg (by omega)]
          exact c3 j y hj⟩ (fun w hw => by rw [mI_s1 _ _ _ (by omega), mI_s1 _ _ _ (by omega)]; exact hR.2.2.2.1 w hw) rfl rfl rfl
      refine J_p 1 (ls' := [_, _]) rfl ?_
      refine J_getR rfl hr.1 hr.2.2.1 ?_
      refine J_gi (z := nI ((s_t S).length + 1)) rfl hT'.1 (by rw [mI_s0, if_pos rfl]) ?_
      exact J_ret rfl rfl rfl (K _ (Ck.nw (hF.mono (fun z e => Or.inl ⟨by omega, by omega⟩)) ⟨rfl, rfl, rfl⟩ (Nat.le_add_right _ _) rfl) hR2)
    · have hl : (s_t S).length = 250 := by
        by_cases e : (s_t S).length = 250
        · exact e
        · exact absurd (nI_lt (by omega) (by omega)) y
      obtain rfl : P = (rfN 4, z_f S 4) := hP.symm.trans (by simp only [fFeed, e1, if_pos hl]; rfl)
      refine J_p 2 (ls' := [_, _]) rfl ?_
      refine J_call rfl rfl rfl (decide_eq_true hr.1) rfl (c_refuse hR (w := 4) (by omega) (by first | rfl | decide) (fun M1 h1 h2 => ?_))
      show J _ _ _ _ _ _ _
      exact J_ret rfl rfl rfl (K M1 h1 h2)
  · show J _ _ _ _ _ _ _
    rw [inNB_ix] at e1
    refine J_zne rfl (fun y => absurd rfl y) (fun _ => ?_)
    obtain rfl : P = (rfN 0, z_f S 0) := hP.symm.trans (by simp only [fFeed, e1]; rfl)
    refine J_p 2 (ls' := [_, _]) rfl ?_
    refine J_call rfl rfl rfl (decide_eq_true hr.1) rfl (c_refuse hR (w := 0) (by omega) (by first | rfl | decide) (fun M1 h1 h2 => ?_))
    show J _ _ _ _ _ _ _
    exact J_ret rfl rfl rfl (K M1 h1 h2)

theorem CR.wipe (hR : CR M b S) : CR (sI M (b + 254) 1 (nI 0)) b (z_t S []) := by
  have hT' := hR.1.2.1
  have n8t : ¬ rO (mT M (b + 254)) := by rw [hT'.1]; unfold rO; omega
  have hF : Fm (fun z => z = b + 254) M (sI M (b + 254) 1 (nI 0)) := Fm.sI rfl n8t
  exact hR.own hF (fun z e => by omega) rfl ⟨by rw [mI_s0, if_pos rfl]; rfl, Nat.zero_le _, fun j y hj => by cases hj⟩ (fun w hw => by rw [mI_s1 _ _ _ (by omega)]; exact hR.2.2.2.1 w hw) rfl rfl rfl

theorem k_wipe (hR : CR M b S) (hE : STa E M) (hW : WfS T S) (hT : T + 100 < 2 ^ 20) (hV : PrS S)  {P : Int32 × St} (hP : fWipe S = P) (K : ∀ M' : Mm, Ck b M M' S P.2 → CR M' b P.2 → Q (some (.int P.1)) M') : J E 111 0 [.ref b, U0] [] M Q := by
  have hr := hR.1.1
  obtain ⟨o, F, hS, hC⟩ := hR.2.1
  have hA := hW.1
  have n8 := hC.2.1.2
  have n10 := hC.2.2.1.2
  have n30 := hC.2.2.2.1.2
  have m3 := hC.mc.1
  obtain ⟨c1, c2, c3⟩ := hR.2.2.1
  have hT' := hR.1.2.1
  have n8t : ¬ rO (mT M (b + 254)) := by rw [hT'.1]; unfold rO; omega
  obtain rfl : P = (nI (s_t S).length, z_t S []) := hP.symm
  refine J_p 1 (ls' := [_, _]) rfl ?_
  refine J_getR rfl hr.1 hr.2.2.1 ?_
  refine J_gi rfl hT'.1 c1 ?_
  refine J_p 2 (ls' := [_, .int (nI (s_t S).length)]) rfl ?_
  refine J_getR rfl hr.1 hr.2.2.1 ?_
  refine J_p 1 (ls' := [_, _]) rfl ?_
  refine J_putI rfl hT'.1 (Or.inl rfl) ?_
  refine J_p 1 (ls' := [_, _]) rfl ?_
  exact J_ret rfl rfl rfl (K _ (Ck.nw (Fm.sI (Or.inl ⟨by omega, by omega⟩) n8t) ⟨rfl, rfl, rfl⟩ (Nat.le_add_right _ _) rfl) hR.wipe)

/-- after the tape is read into the draft, and wiped -/
theorem CR.read (hR : CR M b S) (hF : Fm (Pw (b + 256)) M M1) (hN : Nw M M1) (hRr : mR M1 = mR M) : CR (sI M1 (b + 254) 1 (nI 0)) b (z_t S []) ∧ Fm (Cw b) M (sI M1 (b + 254) 1 (nI 0)) ∧ Nw M (sI M1 (b + 254) 1 (nI 0)) := by
  have hn := hR.1.2.2.2.2.2
  have hR1 : CR M1 b S := by
    have e : ∀ z, z < b + 290 → ¬ Pw (b + 256) z → mI M1 z = mI M z := fun z hz h => (hF.2.2 z (by omega) (Or.inl h)).2.1
    refine hR.own hF (fun z h => by unfold Pw at h; omega) hRr ⟨by rw [e _ (by omega) (by unfold Pw; omega)]; exact hR.2.2.1.1, hR.2.2.1.2.1, fun k y hk => by rw [e _ (by omega) (by unfold Pw; omega)]; exact hR.2.2.1.2.2 k y hk⟩ (fun w hw => by rw [e _ (by omega) (by unfold Pw; omega)]; exact hR.2.2.2.1 w hw) rfl rfl rfl
  have n8t : ¬ rO (mT M1 (b + 254)) := by rw [hR1.1.2.1.1]; unfold rO; omega
  exact ⟨hR1.wipe, (hF.mono (fun z h => Or.inl (by unfold Pw at h; omega))).trans (Fm.sI (Or.inl ⟨by omega, by omega⟩) n8t), hN.trans ⟨rfl, rfl, rfl⟩⟩
theorem OC.top (hS : OS M w t g o F) (hC : OC M w t g o F A) (hF : Fm (fun z => t ≤ z ∧ z ≤ t + 2) M M') (hRr : mR M' = mR M) (hI : ∀ z, ¬ (t ≤ z ∧ z ≤ t + 2) → mI M' z = mI M z) (hP : PC M' t cs txt) : OS M' w t g o F ∧ OC M' w t g o F (w_t A cs) := by
  obtain ⟨y1, y2, y3⟩ := hS.2.2.2.2.2.2.1
  refine ⟨hS.gen hF.1 hF.2.1 (by rw [hRr]) (by rw [hRr]) (by rw [hRr]) (by rw [hRr]) (by rw [hRr]) (fun c hc => by rw [hI _ (by omega)]) (fun i hi => by rw [hRr]; exact hS.2.2.2.2.1.2.2.1 i hi) hS.2.2.2.2.1.2.2.2.1 (fun z hz => ?_), ?_⟩
  · have hn := hS.2.2.2.2.2.2.2
    exact (hS.qs hz).fr (fun b h1 h2 => hF.2.1 b (by omega)) (by rw [hI _ (by omega)]) (fun b h1 h2 => by rw [hRr])
  · obtain ⟨c1, c2, c3, c4, c5, c6, c7, c8, c9, c10, c11⟩ := hC
    have ew := hI w (by omega)
    refine ⟨by rw [ew]; exact c1, by rw [ew]; exact c2, by rw [ew]; exact c3, by rw [ew]; exact c4, by rw [ew]; exact c5, by rw [ew]; exact c6, ⟨txt, hP⟩, fun q x hx => ?_, fun c k hk => ?_, fun i d hd => ?_, ?_⟩
    · have h8 : q < 8 := Nat.lt_of_lt_of_le (li hx) c2.2
      exact (c8 q x hx).fr hF (fun j hj => (hS.qs h8).lt hj) (fun z z1 z2 => ⟨hI z (by omega), by rw [hRr]⟩)
    · exact (c9 c k hk).fr (hI _ (by omega))
    · exact (c10 i d hd).fr hF (hI _ (by omega)) (by rw [hRr])
    · exact c11.fr (fun j hj => hI _ (by omega))

theorem k_topic (hR : CR M b S) (hE : STa E M) (hW : WfS T S) (hT : T + 100 < 2 ^ 20) (hV : PrS S)  {P : Int32 × St} (hP : fTopic S = P) (K : ∀ M' : Mm, Ck b M M' S P.2 → CR M' b P.2 → Q (some (.int P.1)) M') : J E 112 0 [.ref b, U0] [] M Q := by
  have hr := hR.1.1
  obtain ⟨o, F, hS, hC⟩ := hR.2.1
  have hA := hW.1
  have n8 := hC.2.1.2
  have n10 := hC.2.2.1.2
  have n30 := hC.2.2.2.1.2
  have m3 := hC.mc.1
  have hT' := hR.1.2.1
  have hD := hR.1.2.2.1
  have hn := hR.1.2.2.2.2.2
  refine J_p 1 (ls' := [_, _]) rfl ?_
  refine J_getR rfl hr.1 hr.2.2.2.1 ?_
  refine J_p 1 (ls' := [_, _]) rfl ?_
  refine J_getR rfl hr.1 hr.2.2.1 ?_
  refine J_p 1 (ls' := [_, _]) rfl ?_
  refine J_call rfl rfl rfl (decide_eq_true hD.1) rfl (c_patRead (w := false) (wv := nI 0) (fun _ => rfl) (fun y => absurd rfl y) hD hT' hR.2.2.1 (by unfold Pw; omega) (by omega) (fun fl M1 ep hF hN hRr => ?_) (fun cs M1 ep hF hN hRr hPC => ?_))
  · show J _ _ _ _ _ _ _
    obtain ⟨hR1, hF1, hN1⟩ := hR.read hF hN hRr
    have tb : mT M1 b = 10 := by unfold mT; rw [hN.1]; exact hr.1
    have tt : mT M1 (b + 254) = 8 := by unfold mT; rw [hN.1]; exact hT'.1
    have fl5 : fl < 2 ^ 31 := by
      have := paA_lt ep
      omega
    refine J_p 2 (ls' := [_, .int (nI fl)]) rfl ?_
    refine J_getR rfl tb (by rw [hRr]; exact hr.2.2.1) ?_
    refine J_p 1 (ls' := [_, _]) rfl ?_
    refine J_putI rfl tt (Or.inl rfl) ?_
    refine J_p 2 (ls' := [_, _]) rfl ?_
    refine J_ieq rfl (fun y => absurd y (nI_m1 fl5)) (fun _ => ?_)
    refine J_p 2 (ls' := [_, _]) rfl ?_
    obtain rfl : P = ftS S fl := hP.symm.trans (by simp only [fTopic, ep])
    refine J_call rfl rfl rfl (decide_eq_true hR1.1.1.1) rfl (c_refuseFault hR1 (fun M2 h1 h2 => ?_))
    show J _ _ _ _ _ _ _
    exact J_ret rfl rfl rfl (K M2 (Ck.pre hF1 hN1 rfl rfl h1) h2)
  · show J _ _ _ _ _ _ _
    obtain ⟨hR1, hF1, hN1⟩ := hR.read hF hN hRr
    have tb : mT M1 b = 10 := by unfold mT; rw [hN.1]; exact hr.1
    have tt : mT M1 (b + 254) = 8 := by unfold mT; rw [hN.1]; exact hT'.1
    obtain rfl : P = (nI cs.length, z_a (z_t S []) (w_t (s_a S) cs)) := hP.symm.trans (by simp only [fTopic, ep])
    refine J_p 2 (ls' := [_, .int (-1)]) rfl ?_
    refine J_getR rfl tb (by rw [hRr]; exact hr.2.2.1) ?_
    refine J_p 1 (ls' := [_, _]) rfl ?_
    refine J_putI rfl tt (Or.inl rfl) ?_
    refine J_p 2 (ls' := [_, _]) rfl ?_
    refine J_ieq rfl (fun _ => ?_) (fun y => absurd rfl y)
    obtain ⟨M2, hM2⟩ : ∃ M2, sI M1 (b + 254) 1 (nI 0) = M2 := ⟨_, rfl⟩
    have hPC2 : PC M2 (b + 256) cs ((s_t S).map nI) := by
      rw [← hM2]
      exact hPC.fr (mI_s1 _ _ _ (by omega)) (mI_s1 _ _ _ (by omega)) (mI_s1 _ _ _ (by omega))
    rw [hM2] at hR1 hF1 hN1 ⊢
    have hr2 := hR1.1.1
    have hD2 := hR1.1.2.2.1
    obtain ⟨o2, F2, hS2, hC2⟩ := hR1.2.1
    refine J_p 1 (ls' := [_, _]) rfl ?_
    refine J_getR rfl hr2.1 hr2.2.1 ?_
    refine J_getR rfl hS2.1.1 hS2.1.2.2.2.2.2 ?_
    refine J_p 1 (ls' := [_, _]) rfl ?_
    refine J_getR rfl hr2.1 hr2.2.2.2.1 ?_
    refine J_call rfl rfl rfl (decide_eq_true hS2.2.1.1) rfl (c_patTake hS2.2.1 hD2 (by omega) hPC2 (fun M3 hF3 hN3 hR3 hI3 hP3 => ?_))
    show J _ _ _ _ _ _ _
    have hV2 : PrS (z_t S []) := hV
    obtain ⟨hS3, hC3⟩ := OC.top hS2 hC2 hF3 hR3 hI3 hP3
    obtain ⟨g1, g2⟩ := hR1.act hV2 (hF3.mono (fun z e => Or.inr ⟨by omega, by omega⟩)) hN3 hS3 hC3 rfl (show phA (s_a S) ≤ phA (s_a S) + 480 by omega)
    have hr3 := g2.1.1
    refine J_p 1 (ls' := [_, _]) rfl ?_
    refine J_getR rfl hr3.1 hr3.2.2.2.1 ?_
    refine J_gi (z := nI cs.length) rfl g2.1.2.2.1.1 (by rw [hI3 _ (by omega)]; exact hPC2.2.1.1) ?_
    exact J_ret rfl rfl rfl (K _ (Ck.pre hF1 hN1 rfl rfl g1) g2)

theorem c_queBegin {li tr le ag d : Nat} (hA : QS M a q f) (hD : PS M d) (had : a + 3 < d ∨ d + 2 < a + 1) (hda : d + 2 < a ∨ a + 24 < d) (hC : PC M d cs (tp.map nI)) (K : ∀ M' : Mm, Fm (Qw a) M M' → Nw M M' → QS M' a q f → QC M' a f (newQ cs tp li tr le ag) ms → Q none M') : J E 33 0 [.ref a, .ref d, .int (nI li), .int (nI tr), .int (nI le), .int (nI ag)] [] M Q := by
  refine J_p 1 (ls' := [_, _, _, _, _, _]) rfl ?_
  refine J_getR rfl hA.1 hA.2.2.1 ?_
  refine J_p 1 (ls' := [_, _, _, _, _, _]) rfl ?_
  refine J_call rfl rfl rfl (decide_eq_true hA.2.2.2.2.1.1) rfl (c_patTake hA.2.2.2.2.1 hD (by omega) hC (fun M1 hF1 hN1 hR1 hI1 hP1 => ?_))
  show J _ _ _ _ _ _ _
  have eT1 : ∀ z, mT M1 z = mT M z := fun z => by unfold mT; rw [hN1.1]
  have tA : mT M1 a = 6 := by rw [eT1]; exact hA.1
  have nr : ¬ rO (mT M1 a) := by rw [tA]; unfold rO; omega
  have Wa : Qw a a := ⟨by omega, by omega⟩
  have w0 : mI M1 a 0 = mI M a 0 := by rw [hI1 a (by omega)]
  refine J_p 2 (ls' := [_, _, _, _, _, _]) rfl ?_
  refine J_putI rfl tA (Or.inl rfl) ?_
  refine J_p 2 (ls' := [_, _, _, _, _, _]) rfl ?_
  refine J_putI rfl tA (Or.inl rfl) ?_
  refine J_p 2 (ls' := [_, _, _, _, _, _]) rfl ?_
  refine J_putI rfl tA (Or.inl rfl) ?_
  refine J_p 2 (ls' := [_, _, _, _, _, _]) rfl ?_
  refine J_putI rfl tA (Or.inl rfl) ?_
  refine J_p 2 (ls' := [_, _, _, _, _, _]) rfl ?_
  refine J_putI rfl tA (Or.inl rfl) ?_
  refine J_p 2 (ls' := [_, _, _, _, _, _]) rfl ?_
  refine J_putI rfl tA (Or.inr (Or.inl rfl)) ?_
  refine J_p 2 (ls' := [_, _, _, _, _, _]) rfl ?_
  refine J_putI rfl tA (Or.inl rfl) ?_
  refine J_p 2 (ls' := [_, _, _, _, _, _]) rfl ?_
  refine J_putI rfl tA (Or.inl rfl) ?_
  refine J_p 2 (ls' := [_, _, _, _, _, _]) rfl ?_
  refine J_putI rfl tA (Or.inl rfl) ?_
  refine J_p 2 (ls' := [_, _, _, _, _, _]) rfl ?_
  refine J_putI rfl tA (Or.inl rfl) ?_
  have h0 : Fm (Qw a) M M1 := hF1.mono (fun z h => ⟨by omega, by omega⟩)
  have hF := ((((((((((h0.trans (Fm.sI (k := 3) (z := nI 0) Wa nr)).trans (Fm.sI (k := 4) (z := nI li) Wa nr)).trans (Fm.sI (k := 5) (z := nI tr) Wa nr)).trans (Fm.sI (k := 6) (z := nI le) Wa nr)).trans (Fm.sI (k := 7) (z := nI ag) Wa nr)).trans (Fm.sI (k := 8) (z := nI 0) Wa nr)).trans (Fm.sI (k := 9) (z := -1) Wa nr)).trans (Fm.sI (k := 10) (z := nI 0) Wa nr)).trans (Fm.sI (k := 11) (z := nI 0) Wa nr)).trans (Fm.sI (k := 12) (z := nI 0) Wa nr))
  have oth : ∀ z, z ≠ a → mI (sI (sI (sI (sI (sI (sI (sI (sI (sI (sI M1 a 3 (nI 0)) a 4 (nI li)) a 5 (nI tr)) a 6 (nI le)) a 7 (nI ag)) a 8 (nI 0)) a 9 (-1)) a 10 (nI 0)) a 11 (nI 0)) a 12 (nI 0)) z = mI M1 z := fun z hz => by rw [mI_s1 _ _ _ hz, mI_s1 _ _ _ hz, mI_s1 _ _ _ hz, mI_s1 _ _ _ hz, mI_s1 _ _ _ hz, mI_s1 _ _ _ hz, mI_s1 _ _ _ hz, mI_s1 _ _ _ hz, mI_s1 _ _ _ hz, mI_s1 _ _ _ hz]
  refine J_ret rfl rfl rfl (K _ hF (hN1.trans ⟨rfl, rfl, rfl⟩) (hA.sm hN1.1 ?_ (fun z _ _ => by show mR M1 z = _; rw [hR1])) ⟨hP1.fr (oth _ (by omega)) (oth _ (by omega)) (oth _ (by omega)), ⟨?_, Nat.zero_le _⟩, ?_, ?_, ?_, ?_, ?_, ?_, ?_, ?_, ?_, fun i l hl => (by cases hl)⟩)
  · rw [← w0]; simp only [mI_s0]; rfl
  all_goals simp only [mI_s0]
  all_goals rfl

theorem k_queue (hR : CR M b S) (hE : STa E M) (hW : WfS T S) (hT : T + 100 < 2 ^ 20) (hV : PrS S) (l tr le ag : Int32) {P : Int32 × St} (hP : fQueue S l tr le ag = P) (K : ∀ M' : Mm, Ck b M M' S P.2 → CR M' b P.2 → Q (some (.int P.1)) M') : J E 113 0 [.ref b, .int l, .int tr, .int le, .int ag, U0, U0] [] M Q := by
  have hr := hR.1.1
  obtain ⟨o, F, hS, hC⟩ := hR.2.1
  have hA := hW.1
  have n8 := hC.2.1.2
  have n10 := hC.2.2.1.2
  have n30 := hC.2.2.2.1.2
  have m3 := hC.mc.1
  have hT' := hR.1.2.1
  have hD := hR.1.2.2.1
  have hn := hR.1.2.2.2.2.2
  have R0 : fQueue S l tr le ag = rfS S 0 → J E 113 41 [.ref b, .int l, .int tr, .int le, .int ag, U0, U0] [] M Q := fun h0 => by
    obtain rfl : P = (rfN 0, z_f S 0) := hP.symm.trans (by exact h0)
    refine J_p 2 (ls' := [_, _, _, _, _, _, _]) rfl ?_
    refine J_call rfl rfl rfl (decide_eq_true hr.1) rfl (c_refuse hR (w := 0) (by omega) (by first | rfl | decide) (fun M1 h1 h2 => ?_))
    show J _ _ _ _ _ _ _
    exact J_ret rfl rfl rfl (K M1 h1 h2)
  refine J_p 3 (ls' := [_, _, _, _, _, _, _]) rfl ?_
  refine J_call rfl rfl rfl rfl rfl (c_isWithin (by omega) (by omega) (fun l' e1 el l1 l2 => ?_) (fun e1 => ?_))
  · show J _ _ _ _ _ _ _
    refine J_zeq rfl (fun y => absurd y (by decide)) (fun _ => ?_)
    refine J_p 3 (ls' := [_, _, _, _, _, _, _]) rfl ?_
    refine J_call rfl rfl rfl rfl rfl (c_isWithin (by omega) (by omega) (fun tr' e2 et t1 t2 => ?_) (fun e2 => ?_))
    · show J _ _ _ _ _ _ _
      refine J_zeq rfl (fun y => absurd y (by decide)) (fun _ => ?_)
      refine J_p 3 (ls' := [_, _, _, _, _, _, _]) rfl ?_
      refine J_call rfl rfl rfl rfl rfl (c_isWithin (by omega) (by omega) (fun le' e3 ee u1 u2 => ?_) (fun e3 => ?_))
      · show J _ _ _ _ _ _ _
        refine J_zeq rfl (fun y => absurd y (by decide)) (fun _ => ?_)
        refine J_p 3 (ls' := [_, _, _, _, _, _, _]) rfl ?_
        refine J_call rfl rfl rfl rfl rfl (c_isWithin (by omega) (by omega) (fun ag' e4 ea v1 v2 => ?_) (fun e4 => ?_))
        · show J _ _ _ _ _ _ _
          rw [inNB_ix] at e4
          subst el et ee ea
          refine J_zne rfl (fun _ => ?_) (fun y => absurd y (by decide))
          refine J_p 1 (ls' := [_, _, _, _, _, _, _]) rfl ?_
          refine J_getR rfl hr.1 hr.2.2.2.1 ?_
          refine J_p 1 (ls' := [_, _, _, _, _, _, _]) rfl ?_
          refine J_getR rfl hr.1 hr.2.2.1 ?_
          refine J_p 1 (ls' := [_, _, _, _, _, _, _]) rfl ?_
          refine J_call rfl rfl rfl (decide_eq_true hD.1) rfl (c_patRead (w := true) (wv := nI 1) (fun y => absurd y (by decide)) (fun _ => rfl) hD hT' hR.2.2.1 (by unfold Pw; omega) (by omega) (fun fl M1 ep hF hN hRr => ?_) (fun cs M1 ep hF hN hRr hPC => ?_))
          · show J _ _ _ _ _ _ _
            obtain ⟨hR1, hF1, hN1⟩ := hR.read hF hN hRr
            have tb : mT M1 b = 10 := by unfold mT; rw [hN.1]; exact hr.1
            have tt : mT M1 (b + 254) = 8 := by unfold mT; rw [hN.1]; exact hT'.1
            have fl5 : fl < 2 ^ 31 := by
              have := paA_lt ep
              omega
            refine J_p 2 (ls' := [_, _, _, _, _, .int (nI fl), _]) rfl ?_
            refine J_getR rfl tb (by rw [hRr]; exact hr.2.2.1) ?_
            refine J_p 1 (ls' := [_, _, _, _, _, _, _]) rfl ?_
            refine J_putI rfl tt (Or.inl rfl) ?_
            refine J_p 2 (ls' := [_, _, _, _, _, _, _]) rfl ?_
            refine J_ieq rfl (fun y => absurd y (nI_m1 fl5)) (fun _ => ?_)
            refine J_p 2 (ls' := [_, _, _, _, _, _, _]) rfl ?_
            obtain rfl : P = ftS S fl := hP.symm.trans (by simp only [fQueue, e1, e2, e3, e4, ep])
            refine J_call rfl rfl rfl (decide_eq_true hR1.1.1.1) rfl (c_refuseFault hR1 (fun M2 h1 h2 => ?_))
            show J _ _ _ _ _ _ _
            exact J_ret rfl rfl rfl (K M2 (Ck.pre hF1 hN1 rfl rfl h1) h2)
          · show J _ _ _ _ _ _ _
            obtain ⟨hR1, hF1, hN1⟩ := hR.read hF hN hRr
            have tb : mT M1 b = 10 := by unfold mT; rw [hN.1]; exact hr.1
            have tt : mT M1 (b + 254) = 8 := by unfold mT; rw [hN.1]; exact hT'.1
            refine J_p 2 (ls' := [_, _, _, _, _, .int (-1), _]) rfl ?_
            refine J_getR rfl tb (by rw [hRr]; exact hr.2.2.1) ?_
            refine J_p 1 (ls' := [_, _, _, _, _, _, _]) rfl ?_
            refine J_putI rfl tt (Or.inl rfl) ?_
            refine J_p 2 (ls' := [_, _, _, _, _, _, _]) rfl ?_
            refine J_ieq rfl (fun _ => ?_) (fun y => absurd rfl y)
            obtain ⟨M2, hM2⟩ : ∃ M2, sI M1 (b + 254) 1 (nI 0) = M2 := ⟨_, rfl⟩
            have hPC2 : PC M2 (b + 256) cs ((s_t S).map nI) := by
              rw [← hM2]
              exact hPC.fr (mI_s1 _ _ _ (by omega)) (mI_s1 _ _ _ (by omega)) (mI_s1 _ _ _ (by omega))
            rw [hM2] at hR1 hF1 hN1 ⊢
            have hr2 := hR1.1.1
            have hD2 := hR1.1.2.2.1
            have hV2 : PrS (z_t S []) := hV
            obtain ⟨o2, F2, hS2, hC2⟩ := hR1.2.1
            refine J_p 1 (ls' := [_, _, _, _, _, _, _]) rfl ?_
            refine J_getR rfl hr2.1 hr2.2.1 ?_
            by_cases h8 : (a_q (s_a S)).length = 8
            · refine J_call rfl rfl rfl (decide_eq_true hS2.1.1) rfl (c_newQueue8 hS2 hC2 h8 ?_)
              show J _ _ _ _ _ _ _
              refine J_p 2 (ls' := [_, _, _, _, _, _, .null]) rfl ?_
              refine J_brF rfl rfl rfl ?_
              obtain rfl : P = (rfN 4, z_f (z_t S []) 4) := hP.symm.trans (by simp only [fQueue, e1, e2, e3, e4, ep, if_pos h8]; rfl)
              refine J_p 2 (ls' := [_, _, _, _, _, _, _]) rfl ?_
              refine J_call rfl rfl rfl (decide_eq_true hr2.1) rfl (c_refuse hR1 (w := 4) (by omega) (by first | rfl | decide) (fun M3 h1 h2 => ?_))
              show J _ _ _ _ _ _ _
              exact J_ret rfl rfl rfl (K M3 (Ck.pre hF1 hN1 rfl rfl h1) h2)
            · have q8 : (a_q (s_a S)).length < 8 := by omega
              obtain ⟨qn, hqn⟩ : ∃ qn, (a_q (s_a S)).length = qn := ⟨_, rfl⟩
              obtain rfl : P = (nI (a_q (s_a S)).length, z_a (z_t S []) (addQ (s_a S) (newQ cs (s_t S) l' tr' le' ag'))) := hP.symm.trans (by simp only [fQueue, e1, e2, e3, e4, ep, if_neg h8])
              refine J_call rfl rfl rfl (decide_eq_true hS2.1.1) rfl (c_newQueue hS2 hC2 q8 ?_)
              show J _ _ _ _ _ _ _
              have n9 : ¬ rO (mT M2 (b + 1)) := by rw [hS2.1.1]; unfold rO; omega
              obtain ⟨M3, hM3⟩ : ∃ M3, sI M2 (b + 1) 3 (nI ((a_q (s_a S)).length + 1)) = M3 := ⟨_, rfl⟩
              have hF3 : Fm (fun z => z = b + 1) M2 M3 := by rw [← hM3]; exact Fm.sI rfl n9
              have hS3 : OS M3 (b + 1) (b + 8) (b + 2) o2 F2 := by rw [← hM3]; exact hS2.seti
              have hR3 : mR M3 = mR M2 := by rw [← hM3]; rfl
              have hI3 : ∀ z, z ≠ b + 1 → mI M3 z = mI M2 z := fun z hz => by rw [← hM3]; exact mI_s1 _ _ _ hz
              have hw3 : ∀ j, j ≠ 3 → mI M3 (b + 1) j = mI M2 (b + 1) j := fun j hj => by rw [← hM3, mI_s0, if_neg hj]
              have hw33 : mI M3 (b + 1) 3 = nI ((a_q (s_a S)).length + 1) := by rw [← hM3, mI_s0, if_pos rfl]
              have hN3 : Nw M2 M3 := by rw [← hM3]; exact ⟨rfl, rfl, rfl⟩
              have elen : (a_q (addQ (s_a S) (newQ cs (s_t S) l' tr' le' ag'))).length = (a_q (s_a S)).length + 1 := by
                show (a_q (s_a S) ++ [_]).length = _
                rw [List.length_append]
                rfl
              obtain ⟨d1, d2, d3, d4, d5, d6, ⟨tx, d7⟩, d8, d9, d10, d11⟩ := hC2
              have P3 : PO M3 (b + 1) (b + 8) o2 F2 (addQ (s_a S) (newQ cs (s_t S) l' tr' le' ag')) (a_q (s_a S)).length 10 30 := by
                refine ⟨⟨by rw [hw3 1 (by decide)]; exact d1, by rw [hw33, elen], by rw [hw3 5 (by decide)]; exact d3.1, by rw [hw3 7 (by decide)]; exact d4.1, by rw [hw3 9 (by decide)]; exact d5, by rw [hw3 10 (by decide)]; exact d6⟩, ⟨tx, d7.fr (hI3 _ (by omega)) (hI3 _ (by omega)) (hI3 _ (by omega))⟩, fun q x hq hx => ?_, fun c k _ hk => (d9 c k hk).fr (hI3 _ (by omega)), fun i d _ hd => (d10 i d hd).fr hF3 (hI3 _ (by omega)) (by rw [hR3])⟩
                have hx2 : (a_q (s_a S))[q]? = some x := by
                  have : (a_q (s_a S) ++ [newQ cs (s_t S) l' tr' le' ag'])[q]? = some x := hx
                  rw [List.getElem?_append_left hq] at this
                  exact this
                exact (d8 q x hx2).fr hF3 (fun j hj => (hS2.qs (by omega)).lt hj) (fun z z1 z2 => ⟨hI3 z (by omega), by rw [hR3]⟩)
              have hPC3 : PC M3 (b + 256) cs ((s_t S).map nI) := hPC2.fr (hI3 _ (by omega)) (hI3 _ (by omega)) (hI3 _ (by omega))
              have hD3 : PS M3 (b + 256) := hD2.fr (by rw [hN3.1]) (by rw [hN3.1]) (by rw [hN3.1]) (by rw [hR3])
              have hQ3 := hS3.qs q8
              have tb3 : mT M3 b = 10 := by unfold mT; rw [hN3.1]; exact hr2.1
              show J _ _ _ _ _ (sI M2 (b + 1) 3 (nI ((a_q (s_a S)).length + 1))) _
              rw [hM3]
              refine J_p 2 (ls' := [_, _, _, _, _, _, .ref (b + 8 + 4 + 25 * (a_q (s_a S)).length)]) rfl ?_
              refine J_brT rfl rfl rfl ?_
              refine J_p 2 (ls' := [_, _, _, _, _, _, _]) rfl ?_
              refine J_getR rfl tb3 (by rw [hR3]; exact hr2.2.2.2.1) ?_
              refine J_p 4 (ls' := [_, _, _, _, _, _, _]) rfl ?_
              refine J_call rfl rfl rfl (decide_eq_true hQ3.1) rfl (c_queBegin (ms := a_m (s_a S)) hQ3 hD3 (by omega) (by omega) hPC3 (fun M4 hF4 hN4 hQ4 hQC4 => ?_))
              show J _ _ _ _ _ _ _
              have hS4 := hS3.setq hF4 q8 hQ4
              rw [upF_id] at hS4
              have P4 := P3.fr hS3 (by rw [elen]; omega) d3.2 d4.2 hF4 (by unfold Qw; omega) (fun z z1 z2 => by unfold Qw; omega) (fun q q1 z z1 => by unfold Qw at z1 ⊢; omega) (fun c c1 => by unfold Qw; omega) (fun i i1 i2 => by unfold Qw; omega)
              have P5 : PO M4 (b + 1) (b + 8) o2 F2 (addQ (s_a S) (newQ cs (s_t S) l' tr' le' ag')) ((a_q (s_a S)).length + 1) 10 30 := by
                refine ⟨P4.1, P4.2.1, fun q x hq hx => ?_, P4.2.2.2.1, P4.2.2.2.2⟩
                rcases app_or (show (a_q (s_a S) ++ [newQ cs (s_t S) l' tr' le' ag'])[q]? = some x from hx) with ⟨rfl, rfl⟩ | ⟨hlt, hx2⟩
                · exact hQC4
                · exact P4.2.2.1 q x hlt hx
              have hn2 := hS2.2.2.2.2.2.2.2
              have hmn3 : mN M3 = mN M2 := hN3.2.1
              have hC4 : OC M4 (b + 1) (b + 8) (b + 2) o2 F2 (addQ (s_a S) (newQ cs (s_t S) l' tr' le' ag')) := P5.oc (by rw [elen]; omega) d3.2 d4.2 (by rw [elen]; omega) d3.2 d4.2 (d11.fr (fun j hj => by rw [(hF4.2.2 _ (by omega) (Or.inl (by unfold Qw; omega))).2.1, hI3 _ (by omega)]))
              have ep4 : phA (addQ (s_a S) (newQ cs (s_t S) l' tr' le' ag')) = phA (s_a S) := by
                show ((a_q (s_a S) ++ [_]).map _).sum = _
                rw [List.map_append, List.sum_append]
                rfl
              obtain ⟨g1, g2⟩ := hR1.act (B := addQ (s_a S) (newQ cs (s_t S) l' tr' le' ag')) hV2 ((hF3.mono (fun z e => Or.inl e)).trans (hF4.mono (fun z e => e.ww q8))) (hN3.trans hN4) hS4 hC4 rfl (by rw [ep4]; show phA (s_a S) ≤ phA (s_a S) + 480; omega)
              refine J_p 1 (ls' := [_, _, _, _, _, _, _]) rfl ?_
              refine J_gi rfl hQ4.1 hQ4.2.1 ?_
              exact J_ret rfl rfl rfl (K _ (Ck.pre hF1 hN1 rfl rfl g1) g2)
        · show J _ _ _ _ _ _ _
          rw [inNB_ix] at e4
          refine J_zne rfl (fun y => absurd rfl y) (fun _ => ?_)
          exact R0 (by simp only [fQueue, e1, e2, e3, e4])
      · show J _ _ _ _ _ _ _
        refine J_zeq rfl (fun _ => ?_) (fun y => absurd rfl y)
        exact R0 (by simp only [fQueue, e1, e2, e3])
    · show J _ _ _ _ _ _ _
      refine J_zeq rfl (fun _ => ?_) (fun y => absurd rfl y)
      exact R0 (by simp only [fQueue, e1, e2])
  · show J _ _ _ _ _ _ _
    refine J_zeq rfl (fun _ => ?_) (fun y => absurd rfl y)
    exact R0 (by simp only [fQueue, e1])

end COMP52