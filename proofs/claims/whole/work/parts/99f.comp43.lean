/-! THE COMPONENT'S PUBLIC METHODS: what happens. -/
theorem sendQ_m {m : Nat} : ∀ (d : Nat) (A : Ab) (q : Nat), a_m (sendQ m d A q).1 = a_m A
  | 0, _, _ => rfl
  | d + 1, A, q => by
    show a_m (match (a_q A)[q]? with
        | none => (A, 0)
        | some x => if fitQ A q = true then ((sendQ m d (intoA A q x m) (q + 1)).1, (sendQ m d (intoA A q x m) (q + 1)).2 + 1) else sendQ m d A (q + 1)).1 = _
    cases hx : (a_q A)[q]? with
    | none => rfl
    | some x =>
      show a_m (if fitQ A q = true then ((sendQ m d (intoA A q x m) (q + 1)).1, (sendQ m d (intoA A q x m) (q + 1)).2 + 1) else sendQ m d A (q + 1)).1 = _
      by_cases c : fitQ A q = true
      · rw [if_pos c]
        exact (sendQ_m d _ _).trans into_len.2
      · rw [if_neg c]
        exact sendQ_m d _ _
theorem sendA_m (A : Ab) (key pr : Nat) (v : Int32) : ∃ R, a_m (sendA A key pr v).1 = a_m A ++ R := ⟨_, sendQ_m _ _ _⟩
theorem crM_m (A : Ab) (c : Nat) : a_m (crM A c) = a_m A := (crM_q A c).2.2.1
theorem failL_m (A : Ab) (q : Nat) (x : Qa) (i : Nat) (l : La) (c : Nat) (what : Int32) : a_m (failL A q x i l c what) = a_m A := by
  unfold failL
  split
  · exact crM_m A c
  · exact crM_m A c
theorem ageL_m (A : Ab) (q : Nat) (x : Qa) (i : Nat) (l : La) : a_m (ageL A q x i l).1 = a_m A := by
  unfold ageL
  split
  · exact failL_m ..
  · split
    · rfl
    · rfl
theorem ageQ_m : ∀ (f : Nat) (A : Ab) (q i : Nat), a_m (ageQ f A q i).1 = a_m A
  | 0, _, _, _ => rfl
  | f + 1, A, q, i => by
    show a_m (match (a_q A)[q]? with
      | none => (A, 0)
      | some x => match (q_ls x)[i]? with
        | none => (A, 0)
        | some l => if (ageL A q x i l).2 = true then ((ageQ f (ageL A q x i l).1 q i).1, (ageQ f (ageL A q x i l).1 q i).2 + 1) else ageQ f (ageL A q x i l).1 q (i + 1)).1 = _
    split
    · rfl
    · split
      · rfl
      · split
        · exact (ageQ_m f _ _ _).trans (ageL_m ..)
        · exact (ageQ_m f _ _ _).trans (ageL_m ..)
theorem tickQ_m : ∀ (d : Nat) (A : Ab) (q : Nat), a_m (tickQ d A q).1 = a_m A
  | 0, _, _ => rfl
  | d + 1, A, q => (tickQ_m d _ _).trans (ageQ_m ..)
theorem tickA_m (A : Ab) : a_m (tickA A).1 = a_m A := tickQ_m ..
theorem dayY_m (A : Ab) (c : Nat) (good : Bool) : a_m (dayY A c good).1 = a_m A := by
  unfold dayY
  split
  · rfl
  · split
    · rfl
    · split
      · rfl
      · split
        · rfl
        · split
          · rfl
          · exact failL_m ..
theorem giv_m {A B : Ab} {q m : Nat} {x : Qa} (hx : (a_q A)[q]? = some x) (hg : giveA A q = some (B, m)) : a_m B = a_m A := by
  obtain ⟨i, l, c, k, _, _, _, _, _, _, _, _, e⟩ := giveA_some hg hx
  rw [e.1]
  rfl
theorem dayB_m (A : Ab) : ∃ R, a_m (dayB A).1 = a_m A ++ R := by
  unfold dayB dayA
  split
  · unfold dayS
    split
    · exact ⟨[], (List.append_nil _).symm⟩
    · exact sendA_m _ _ _ _
  · split
    · unfold dayG
      split
      · exact ⟨[], (List.append_nil _).symm⟩
      · split
        · exact ⟨[], (List.append_nil _).symm⟩
        · rename_i p hg
          refine ⟨[], ?_⟩
          rw [List.append_nil]
          cases hx : (a_q (drawA (drawA A 6).1 (a_q (drawA A 6).1).length).1)[(drawA (drawA A 6).1 (a_q (drawA A 6).1).length).2]? with
          | none =>
            unfold giveA at hg
            rw [hx] at hg
            cases hg
          | some x =>
            have h := giv_m (B := p.1) (m := p.2) hx hg
            exact h
    · unfold dayX
      split
      · exact ⟨[], (List.append_nil _).symm⟩
      · exact ⟨[], by rw [List.append_nil]; exact dayY_m ..⟩
section COMP43
variable {E : Nat × Nat} {M M' : Mm} {W : Nat → Prop} {Q : Option Value → Mm → Prop} {a b w t g i n m q T : Nat} {S S' : St} {A B : Ab} {v : Sh} {o : Nat → Nat} {F : Nat → Nat → Nat} {x : Qa} {k : Co} {l : La}
theorem ba_len (jo : Option Nat) : ∀ (i : Nat) (D : List Da), True := fun _ _ => trivial
theorem ph_pu : ∀ (i : Nat) (L : List La), i ≤ L.length → phQ (puA i L).1 ≤ phQ L
  | 0, L, _ => Nat.le_refl _
  | i + 1, L, h => by
    obtain ⟨l, hl⟩ := get_of (l := L) (i := i) (by omega)
    have e : puA (i + 1) L = if l_s l = 2 then puA i L else ((puA i (L.eraseIdx i)).1, (puA i (L.eraseIdx i)).2 + 1) := by
      show (match L[i]? with
        | none => (L, 0)
        | some l => if l_s l = 2 then puA i L else ((puA i (L.eraseIdx i)).1, (puA i (L.eraseIdx i)).2 + 1)) = _
      rw [hl]
    rw [e]
    split
    · exact ph_pu i L (by omega)
    · have h1 := ph_pu i (L.eraseIdx i) (by rw [List.length_eraseIdx]; split <;> omega)
      have h2 : phQ (L.eraseIdx i) + phL l = phQ L := sm_er phL L i l hl
      show phQ (puA i (L.eraseIdx i)).1 ≤ _
      omega
theorem STa.fm2 (h : STa E M) (hF : Fm W M M') : STa E M' := h.fr hF

theorem k_publish (hR : CR M b S) (hE : STa E M) (hW : WfS T S) (hT : T + 100 < 2 ^ 20) (hV : PrS S) (key pr v : Int32) {P : Int32 × St} (hP : lfS (fun A => fPublish A key pr v) S = P) (K : ∀ M' : Mm, Ck b M M' S P.2 → CR M' b P.2 → Q (some (.int P.1)) M') : J E 118 0 [.ref b, .int key, .int pr, .int v] [] M Q := by
  have hr := hR.1.1
  obtain ⟨o, F, hS, hC⟩ := hR.2.1
  have hA := hW.1
  have n8 := hC.2.1.2
  have n10 := hC.2.2.1.2
  have n30 := hC.2.2.2.1.2
  have m3 := hC.mc.1
  obtain ⟨txt, hTC⟩ := hC.2.2.2.2.2.2.1
  have t4 := hTC.2.1.2
  have R0 : fPublish (s_a S) key pr v = .inl 0 → J E 118 17 [.ref b, .int key, .int pr, .int v] [] M Q := fun h0 => by
    obtain rfl : P = (rfN 0, z_f S 0) := hP.symm.trans (lfS_l (by exact h0))
    refine J_p 2 (ls' := [_, _, _, _]) rfl ?_
    refine J_call rfl rfl rfl (decide_eq_true hr.1) rfl (c_refuse hR (w := 0) (by omega) (by first | rfl | decide) (fun M1 h1 h2 => ?_))
    show J _ _ _ _ _ _ _
    exact J_ret rfl rfl rfl (K M1 h1 h2)
  refine J_p 2 (ls' := [_, _, _, _]) rfl ?_
  refine J_call rfl rfl rfl rfl rfl (c_isBelow (by omega) (fun i e1 i8 ei => ?_) (fun e1 => ?_))
  · show J _ _ _ _ _ _ _
    refine J_zeq rfl (fun y => absurd y (by decide)) (fun _ => ?_)
    refine J_p 2 (ls' := [_, _, _, _]) rfl ?_
    refine J_call rfl rfl rfl rfl rfl (c_isBelow (by omega) (fun j e2 j4 ej => ?_) (fun e2 => ?_))
    · show J _ _ _ _ _ _ _
      subst ei
      subst ej
      refine J_zne rfl (fun _ => ?_) (fun y => absurd y (by decide))
      refine J_p 1 (ls' := [_, _, _, _]) rfl ?_
      refine J_getR rfl hr.1 hr.2.1 ?_
      refine J_getR rfl hS.1.1 hS.1.2.2.2.2.2 ?_
      refine J_gi rfl hS.2.1.1 hTC.2.1.1 ?_
      refine J_zne rfl (fun y => ?_) (fun y => ?_)
      · have e0 : ¬ (a_t (s_a S)).length = 0 := fun e => y (by rw [e]; rfl)
        refine J_p 1 (ls' := [_, _, _, _]) rfl ?_
        refine J_getR rfl hr.1 hr.2.1 ?_
        refine J_gi rfl hS.1.1 hC.1 ?_
        refine J_p 1 (ls' := [_, _, _, _]) rfl ?_
        refine J_ilt rfl (fun z => ?_) (fun z => ?_)
        · have e3 : ¬ (a_m (s_a S)).length = 300 := fun e => nI_nlt (a := (a_m (s_a S)).length) (b := 300) (by omega) (by omega) z
          refine J_p 1 (ls' := [_, _, _, _]) rfl ?_
          refine J_getR rfl hr.1 hr.2.1 ?_
          refine J_p 3 (ls' := [_, _, _, _]) rfl ?_
          obtain rfl : P = (nI (sendA (s_a S) i j v).2, z_a S (sendA (s_a S) i j v).1) := hP.symm.trans (lfS_r (by simp only [fPublish, e1, e2, if_neg e0, if_neg e3]))
          refine J_call rfl rfl rfl (decide_eq_true hS.1.1) rfl (c_send hS hC hA (by omega) (by omega) (fun M2 o2 F2 hF2 hG2 hS2 hC2 => ?_))
          show J _ _ _ _ _ _ _
          obtain ⟨h1, h2⟩ := hR.actG hV hF2 hG2 (by omega) hS2 hC2 (sendA_m _ _ _ _)
          exact J_ret rfl rfl rfl (K _ h1 h2)
        · have e3 : (a_m (s_a S)).length = 300 := by
            by_cases e : (a_m (s_a S)).length = 300
            · exact e
            · exact absurd (nI_lt (by omega) (by omega)) z
          obtain rfl : P = (rfN 4, z_f S 4) := hP.symm.trans (lfS_l (by simp only [fPublish, e1, e2, if_neg e0, if_pos e3]))
          refine J_p 2 (ls' := [_, _, _, _]) rfl ?_
          refine J_call rfl rfl rfl (decide_eq_true hr.1) rfl (c_refuse hR (w := 4) (by omega) (by first | rfl | decide) (fun M1 h1 h2 => ?_))
          show J _ _ _ _ _ _ _
          exact J_ret rfl rfl rfl (K M1 h1 h2)
      · have e0 : (a_t (s_a S)).length = 0 := (nI_eq (b := 0) (by omega) (by omega)).mp y
        obtain rfl : P = (rfN 3, z_f S 3) := hP.symm.trans (lfS_l (by simp only [fPublish, e1, e2, if_pos e0]))
        refine J_p 2 (ls' := [_, _, _, _]) rfl ?_
        refine J_call rfl rfl rfl (decide_eq_true hr.1) rfl (c_refuse hR (w := 3) (by omega) (by first | rfl | decide) (fun M1 h1 h2 => ?_))
        show J _ _ _ _ _ _ _
        exact J_ret rfl rfl rfl (K M1 h1 h2)
    · show J _ _ _ _ _ _ _
      refine J_zne rfl (fun y => absurd rfl y) (fun _ => ?_)
      exact R0 (by simp only [fPublish, e1, e2])
  · show J _ _ _ _ _ _ _
    refine J_zeq rfl (fun _ => ?_) (fun y => absurd rfl y)
    exact R0 (by simp only [fPublish, e1])

theorem c_giveAllL {j : Nat} {q : Int32} (K8 : b + 254 ≤ mN M) : ∀ (d kk : Nat) (A : Ab) (M : Mm) (F : Nat → Nat → Nat) (x : Qa), b + 254 ≤ mN M → mT M b = 10 → mR M b 0 = some (b + 1) → kk + d = 20 → OS M (b + 1) (b + 8) (b + 2) o F → OC M (b + 1) (b + 8) (b + 2) o F A → Wf T A → (a_q A)[j]? = some x →
    (∀ (M2 : Mm) (F2 : Nat → Nat → Nat), Fm (Ww (b + 1) (b + 8)) M M2 → Gw M M2 A (giveAllA d A j).1 d → OS M2 (b + 1) (b + 8) (b + 2) o F2 → OC M2 (b + 1) (b + 8) (b + 2) o F2 (giveAllA d A j).1 → a_m (giveAllA d A j).1 = a_m A → Q (some (.int (nI (kk + (giveAllA d A j).2)))) M2) →
    J E 120 22 [.ref b, .int q, .ref (b + 8 + 4 + 25 * j), .int (nI kk)] [] M Q
  | 0, kk, A, M, F, x, hn, hb, hb0, hk, hS, hC, hW, hx, K => by
    obtain rfl : kk = 20 := by omega
    refine J_p 2 (ls' := [_, _, _, _]) rfl ?_
    refine J_ige rfl (fun _ => ?_) (fun y => absurd (nI_le (by omega) (by omega)) y)
    refine J_p 1 (ls' := [_, _, _, _]) rfl ?_
    exact J_ret rfl rfl rfl (K M F (Fm.refl _ M) (Gw.refl M A) hS hC rfl)
  | d + 1, kk, A, M, F, x, hn, hb, hb0, hk, hS, hC, hW, hx, K => by
    have n8 := hC.2.1.2
    have n10 := hC.2.2.1.2
    have m3 := hC.mc.1
    have es : giveAllA (d + 1) A j = match giveA A j with
      | none => (A, 0)
      | some p => ((giveAllA d p.1 j).1, (giveAllA d p.1 j).2 + 1) := rfl
    obtain ⟨_, _, _, _, _, x6, x7, _⟩ := hW.2.1 j x hx
    refine J_p 2 (ls' := [_, _, _, _]) rfl ?_
    refine J_ige rfl (fun y => absurd y (nI_ge (by omega) (by omega))) (fun _ => ?_)
    refine J_p 1 (ls' := [_, _, _, _]) rfl ?_
    refine J_getR rfl hb hb0 ?_
    refine J_p 1 (ls' := [_, _, _, _]) rfl ?_
    refine J_call rfl rfl rfl (decide_eq_true hS.1.1) rfl (c_giveNext hS hC (hW.okK n8) hx (hW.okL m3 n10 hx) x6 x7 (fun hg => ?_) (fun B m M2 F2 hg hF2 hN2 hS2 hC2 => ?_))
    · show J _ _ _ _ _ _ _
      rw [es, hg] at K
      refine J_p 1 (ls' := [_, _, _, _]) rfl ?_
      refine J_ieq rfl (fun _ => ?_) (fun y => absurd rfl y)
      refine J_p 1 (ls' := [_, _, _, _]) rfl ?_
      exact J_ret rfl rfl rfl (K M F (Fm.refl _ M) ((Gw.refl M A).up (by omega)) hS hC rfl)
    · show J _ _ _ _ _ _ _
      rw [es, hg] at K
      have hm : m < 300 := by
        obtain ⟨i, l, c, k, _, _, hl, _, _, _, _, _, e⟩ := giveA_some hg hx
        have := (hW.okL m3 n10 hx i l hl).2.2.2.1
        rw [e.2]
        exact this
      have hW2 := hW.giv hg hx
      obtain ⟨x', hx', _⟩ := give_rdy hg hx
      have hg2 : Gw M M2 A B 1 := Gw.nw hN2 (ph_giv hg hx)
      refine J_p 1 (ls' := [_, _, _, _]) rfl ?_
      refine J_ieq rfl (fun y => absurd y (nI_m1 (by omega))) (fun _ => ?_)
      refine J_p 2 (ls' := [_, _, _, _]) rfl ?_
      rw [nI_add kk 1]
      refine c_giveAllL K8 d (kk + 1) B M2 F2 x' (by have := hF2.1; omega) (by rw [(hF2.T (by omega)).1]; exact hb) ?_ (by omega) hS2 hC2 hW2 hx' (fun M3 F3 h1 h2 h3 h4 h5 => ?_)
      · rw [(hF2.2.2 b (by omega) (Or.inl (by unfold Ww; omega))).2.2.2]
        exact hb0
      · have e : kk + 1 + (giveAllA d B j).2 = kk + ((giveAllA d B j).2 + 1) := by omega
        rw [e]
        exact K M3 F3 (hF2.trans h1) ((hg2.trans h2).up (by omega)) h3 h4 (h5.trans (giv_m hx hg))

theorem k_giveAll (hR : CR M b S) (hE : STa E M) (hW : WfS T S) (hT : T + 100 < 2 ^ 20) (hV : PrS S) (q : Int32) {P : Int32 × St} (hP : lfS (fun A => fGiveAll A q) S = P) (K : ∀ M' : Mm, Ck b M M' S P.2 → CR M' b P.2 → Q (some (.int P.1)) M') : J E 120 0 [.ref b, .int q, U0, U0] [] M Q := by
  have hr := hR.1.1
  obtain ⟨o, F, hS, hC⟩ := hR.2.1
  have hA := hW.1
  have n8 := hC.2.1.2
  have n10 := hC.2.2.1.2
  have n30 := hC.2.2.2.1.2
  have m3 := hC.mc.1
  refine J_p 1 (ls' := [_, _, _, _]) rfl ?_
  refine J_getR rfl hr.1 hr.2.1 ?_
  refine J_p 1 (ls' := [_, _, _, _]) rfl ?_
  refine J_call rfl rfl rfl (decide_eq_true hS.1.1) rfl (c_queueAt hS hC (fun j x e1 hx j8 eq => ?_) (fun e1 => ?_))
  · show J _ _ _ _ _ _ _
    have hn := hR.1.2.2.2.2.2
    refine J_p 2 (ls' := [_, _, .ref (b + 8 + 4 + 25 * j), _]) rfl ?_
    refine J_brT rfl rfl rfl ?_
    refine J_p 2 (ls' := [_, _, _, _]) rfl ?_
    have hr20 : rdyN x ≤ 20 := Nat.le_trans (cnA_le _ _) (hC.qc hx).n20
    have e21 := gaA_more 20 (s_a S) x hx hr20
    obtain rfl : P = (nI (giveAllA 20 (s_a S) j).2, z_a S (giveAllA 20 (s_a S) j).1) := hP.symm.trans (lfS_r (by simp only [fGiveAll, e1]; rw [e21]))
    refine c_giveAllL (T := T) (b := b) (M := M) (by omega) 20 0 (s_a S) M F x (by omega) hr.1 hr.2.1 (by omega) hS hC hA hx (fun M2 F2 h1 h2 h3 h4 h5 => ?_)
    rw [Nat.zero_add]
    obtain ⟨g1, g2⟩ := hR.actG hV (h1.mono (fun z e => Or.inl e)) h2 (by omega) h3 h4 ⟨[], by rw [List.append_nil]; exact h5⟩
    exact K _ g1 g2
  · show J _ _ _ _ _ _ _
    refine J_p 2 (ls' := [_, _, .null, _]) rfl ?_
    refine J_brF rfl rfl rfl ?_
    obtain rfl : P = (rfN 0, z_f S 0) := hP.symm.trans (lfS_l (by simp only [fGiveAll, e1]))
    refine J_p 2 (ls' := [_, _, _, _]) rfl ?_
    refine J_call rfl rfl rfl (decide_eq_true hr.1) rfl (c_refuse hR (w := 0) (by omega) (by first | rfl | decide) (fun M1 h1 h2 => ?_))
    show J _ _ _ _ _ _ _
    exact J_ret rfl rfl rfl (K M1 h1 h2)

theorem k_ack (hR : CR M b S) (hE : STa E M) (hW : WfS T S) (hT : T + 100 < 2 ^ 20) (hV : PrS S) (q v : Int32) {P : Int32 × St} (hP : lfS (fun A => fAck A q v) S = P) (K : ∀ M' : Mm, Ck b M M' S P.2 → CR M' b P.2 → Q (some (.int P.1)) M') : J E 121 0 [.ref b, .int q, .int v, U0, U0] [] M Q := by
  have hr := hR.1.1
  obtain ⟨o, F, hS, hC⟩ := hR.2.1
  have hA := hW.1
  have n8 := hC.2.1.2
  have n10 := hC.2.2.1.2
  have n30 := hC.2.2.2.1.2
  have m3 := hC.mc.1
  have R0 : fAck (s_a S) q v = .inl 0 → ∀ (v3 : Value), J E 121 31 [.ref b, .int q, .int v, v3, .int (-1)] [] M Q := fun h0 v3 => by
    obtain rfl : P = (rfN 0, z_f S 0) := hP.symm.trans (lfS_l (by exact h0))
    refine J_p 2 (ls' := [_, _, _, _, _]) rfl ?_
    refine J_call rfl rfl rfl (decide_eq_true hr.1) rfl (c_refuse hR (w := 0) (by omega) (by first | rfl | decide) (fun M1 h1 h2 => ?_))
    show J _ _ _ _ _ _ _
    exact J_ret rfl rfl rfl (K M1 h1 h2)
  refine J_p 1 (ls' := [_, _, _, _, _]) rfl ?_
  refine J_getR rfl hr.1 hr.2.1 ?_
  refine J_p 1 (ls' := [_, _, _, _, _]) rfl ?_
  refine J_call rfl rfl rfl (decide_eq_true hS.1.1) rfl (c_homeOf hS hC (fun c k hk => (hA.2.2.1 c k hk).1) (fun c k x e1 hk hx hq8 eq => ?_) (fun e1 => ?_))
  · show J _ _ _ _ _ _ _
    have c10 : c < 10 := by have := li hk; omega
    have hQ := hS.qs hq8
    have hQC := hC.qc hx
    have n20 := hQC.n20
    have ok := hA.okL m3 n10 hx
    have srt := (hA.2.1 _ x hx).2.2.2.2.2.2.2.2.2
    have l3 : ∀ (i : Nat) (l : La), (q_ls x)[i]? = some l → l_m l < 300 := fun i l hl => (ok i l hl).2.2.2.1
    subst eq
    refine J_p 2 (ls' := [_, _, _, .ref (b + 8 + 4 + 25 * k_q k), _]) rfl ?_
    refine J_brT rfl rfl rfl ?_
    refine J_p 3 (ls' := [_, _, _, _, _]) rfl ?_
    refine J_call rfl rfl rfl (decide_eq_true hQ.1) rfl (c_placeOut hQ hQC (by omega) ok ?_)
    show J _ _ _ _ _ _ _
    -- a consumer that left has nothing out
    have hlf : ∀ (i : Nat) (l : La), (q_ls x)[i]? = some l → l_s l = 2 → l_x l = c → k_lf k = 0 := fun i l hl h2 hx2 => by
      obtain ⟨k2, hk2, hf, _⟩ := (hA.ls hx hl).2.2.2.2.2.2 h2
      rw [hx2, hk] at hk2
      cases hk2
      exact hf
    cases hp : poA (q_ls x) c v with
    | none =>
      refine J_p 3 (ls' := [_, _, _, _, .int (oI none)]) rfl ?_
      refine J_ine rfl (fun y => absurd rfl y) (fun _ => ?_)
      refine R0 ?_ _
      by_cases c0 : k_lf k = 0
      · have eh : hereN (s_a S) (nI c) = some c := by simp only [hereN, e1, hk, if_pos c0]
        cases em : ixN v 2147483648 with
        | none => simp only [fAck, eh, em]
        | some n =>
          obtain ⟨n1, n2, _⟩ := ixN_some em
          have hi : oaA (q_ls x) c (some n) (q_ls x).length 0 = none := by rw [← po_oa (by omega) l3 srt, ← n2]; exact hp
          simp only [fAck, eh, em, hk, hx, hi]
      · have eh : hereN (s_a S) (nI c) = none := by simp only [hereN, e1, hk, if_neg c0]
        simp only [fAck, eh]
    | some i =>
      cases em : ixN v 2147483648 with
      | none => rw [po_neg em l3] at hp; cases hp
      | some n =>
        obtain ⟨n1, n2, _⟩ := ixN_some em
        have hi : oaA (q_ls x) c (some n) (q_ls x).length 0 = some i := by rw [← po_oa (by omega) l3 srt, ← n2]; exact hp
        obtain ⟨l, hl, s2, x2, _⟩ := isA_iff.mp (oaA_at _ _ _ _ _ _ hi)
        have il := li hl
        have hf := hlf i l hl s2 x2
        have eh : hereN (s_a S) (nI c) = some c := by simp only [hereN, e1, hk, if_pos hf]
        have hk' : (a_c (s_a S))[l_x l]? = some k := by rw [x2]; exact hk
        have k9 := (hA.2.2.1 c k hk).2.1
        refine J_p 3 (ls' := [_, _, _, _, .int (nI i)]) rfl ?_
        refine J_ine rfl (fun _ => ?_) (fun y => absurd y (nI_m1 (by omega)))
        refine J_p 1 (ls' := [_, _, _, _, _]) rfl ?_
        refine J_getR rfl hr.1 hr.2.1 ?_
        refine J_p 2 (ls' := [_, _, _, _, _]) rfl ?_
        obtain rfl : P = (nI (cnA (outB ((q_ls x).eraseIdx i) c) ((q_ls x).eraseIdx i).length), z_a S (aAck (s_a S) (k_q k) x i c k)) := hP.symm.trans (lfS_r (by simp only [fAck, eh, em, hk, hx, hi]))
        refine J_call rfl rfl rfl (decide_eq_true hS.1.1) rfl (c_ackL hS hC hx hl s2 hk' k9 (fun M2 F2 hF2 hN2 hS2 hC2 => ?_))
        show J _ _ _ _ _ _ _
        rw [x2] at hC2
        have hx2 : (a_q (aAck (s_a S) (k_q k) x i c k))[k_q k]? = some (x_ak (x_ls x ((q_ls x).eraseIdx i)) (q_ak x + nI 1)) := set_get hx
        have hQC2 := hC2.qc hx2
        have hQ2 := hS2.qs hq8
        have hWf2 := hA.ack hx il hk hf
        have ok2 := hWf2.okL hC2.mc.1 hC2.2.2.1.2 hx2
        refine J_p 2 (ls' := [_, _, _, _, _]) rfl ?_
        refine J_call rfl rfl rfl (decide_eq_true hQ2.1) rfl (c_countOut hQ2 hQC2 (c := c) (by omega) (fun i l hl => ⟨(ok2 i l hl).1, fun e => by have := (ok2 i l hl).2.2.2.2 e; omega⟩) ?_)
        show J _ _ _ _ _ _ _
        obtain ⟨g1, g2⟩ := hR.act hV hF2 hN2 hS2 hC2 rfl (by have := ph_ack (c := c) (k := k) hx hl; omega)
        exact J_ret rfl rfl rfl (K _ g1 g2)
  · show J _ _ _ _ _ _ _
    refine J_p 2 (ls' := [_, _, _, .null, _]) rfl ?_
    refine J_brF rfl rfl rfl ?_
    refine J_p 5 (ls' := [_, _, _, _, .int (-1)]) rfl ?_
    refine J_ine rfl (fun y => absurd rfl y) (fun _ => ?_)
    have eh : hereN (s_a S) q = none := by simp only [hereN, e1]
    exact R0 (by simp only [fAck, eh]) _

theorem k_nack (hR : CR M b S) (hE : STa E M) (hW : WfS T S) (hT : T + 100 < 2 ^ 20) (hV : PrS S) (q v : Int32) {P : Int32 × St} (hP : lfS (fun A => fNack A q v) S = P) (K : ∀ M' : Mm, Ck b M M' S P.2 → CR M' b P.2 → Q (some (.int P.1)) M') : J E 122 0 [.ref b, .int q, .int v, U0, U0] [] M Q := by
  have hr := hR.1.1
  obtain ⟨o, F, hS, hC⟩ := hR.2.1
  have hA := hW.1
  have n8 := hC.2.1.2
  have n10 := hC.2.2.1.2
  have n30 := hC.2.2.2.1.2
  have m3 := hC.mc.1
  have R0 : fNack (s_a S) q v = .inl 0 → ∀ (v3 : Value), J E 122 31 [.ref b, .int q, .int v, v3, .int (-1)] [] M Q := fun h0 v3 => by
    obtain rfl : P = (rfN 0, z_f S 0) := hP.symm.trans (lfS_l (by exact h0))
    refine J_p 2 (ls' := [_, _, _, _, _]) rfl ?_
    refine J_call rfl rfl rfl (decide_eq_true hr.1) rfl (c_refuse hR (w := 0) (by omega) (by first | rfl | decide) (fun M1 h1 h2 => ?_))
    show J _ _ _ _ _ _ _
    exact J_ret rfl rfl rfl (K M1 h1 h2)
  refine J_p 1 (ls' := [_, _, _, _, _]) rfl ?_
  refine J_getR rfl hr.1 hr.2.1 ?_
  refine J_p 1 (ls' := [_, _, _, _, _]) rfl ?_
  refine J_call rfl rfl rfl (decide_eq_true hS.1.1) rfl (c_homeOf hS hC (fun c k hk => (hA.2.2.1 c k hk).1) (fun c k x e1 hk hx hq8 eq => ?_) (fun e1 => ?_))
  · show J _ _ _ _ _ _ _
    have c10 : c < 10 := by have := li hk; omega
    have hQ := hS.qs hq8
    have hQC := hC.qc hx
    have n20 := hQC.n20
    have ok := hA.okL m3 n10 hx
    have srt := (hA.2.1 _ x hx).2.2.2.2.2.2.2.2.2
    have l3 : ∀ (i : Nat) (l : La), (q_ls x)[i]? = some l → l_m l < 300 := fun i l hl => (ok i l hl).2.2.2.1
    subst eq
    refine J_p 2 (ls' := [_, _, _, .ref (b + 8 + 4 + 25 * k_q k), _]) rfl ?_
    refine J_brT rfl rfl rfl ?_
    refine J_p 3 (ls' := [_, _, _, _, _]) rfl ?_
    refine J_call rfl rfl rfl (decide_eq_true hQ.1) rfl (c_placeOut hQ hQC (by omega) ok ?_)
    show J _ _ _ _ _ _ _
    -- a consumer that left has nothing out
    have hlf : ∀ (i : Nat) (l : La), (q_ls x)[i]? = some l → l_s l = 2 → l_x l = c → k_lf k = 0 := fun i l hl h2 hx2 => by
      obtain ⟨k2, hk2, hf, _⟩ := (hA.ls hx hl).2.2.2.2.2.2 h2
      rw [hx2, hk] at hk2
      cases hk2
      exact hf
    cases hp : poA (q_ls x) c v with
    | none =>
      refine J_p 3 (ls' := [_, _, _, _, .int (oI none)]) rfl ?_
      refine J_ine rfl (fun y => absurd rfl y) (fun _ => ?_)
      refine R0 ?_ _
      by_cases c0 : k_lf k = 0
      · have eh : hereN (s_a S) (nI c) = some c := by simp only [hereN, e1, hk, if_pos c0]
        cases em : ixN v 2147483648 with
        | none => simp only [fNack, eh, em]
        | some n =>
          obtain ⟨n1, n2, _⟩ := ixN_some em
          have hi : oaA (q_ls x) c (some n) (q_ls x).length 0 = none := by rw [← po_oa (by omega) l3 srt, ← n2]; exact hp
          simp only [fNack, eh, em, hk, hx, hi]
      · have eh : hereN (s_a S) (nI c) = none := by simp only [hereN, e1, hk, if_neg c0]
        simp only [fNack, eh]
    | some i =>
      cases em : ixN v 2147483648 with
      | none => rw [po_neg em l3] at hp; cases hp
      | some n =>
        obtain ⟨n1, n2, _⟩ := ixN_some em
        have hi : oaA (q_ls x) c (some n) (q_ls x).length 0 = some i := by rw [← po_oa (by omega) l3 srt, ← n2]; exact hp
        obtain ⟨l, hl, s2, x2, _⟩ := isA_iff.mp (oaA_at _ _ _ _ _ _ hi)
        have il := li hl
        have hf := hlf i l hl s2 x2
        have eh : hereN (s_a S) (nI c) = some c := by simp only [hereN, e1, hk, if_pos hf]
        have hk' : (a_c (s_a S))[l_x l]? = some k := by rw [x2]; exact hk
        have k9 := (hA.2.2.1 c k hk).2.1
        refine J_p 3 (ls' := [_, _, _, _, .int (nI i)]) rfl ?_
        refine J_ine rfl (fun _ => ?_) (fun y => absurd y (nI_m1 (by omega)))
        refine J_p 1 (ls' := [_, _, _, _, _]) rfl ?_
        refine J_getR rfl hr.1 hr.2.1 ?_
        refine J_p 3 (ls' := [_, _, _, _, _]) rfl ?_
        obtain ⟨_, _, ⟨tr1, tr5⟩, _⟩ := hA.2.1 _ x hx
        obtain rfl : P = (nI ((l_c l).length + 1), z_a S (failL (s_a S) (k_q k) x i l c (nI 3))) := hP.symm.trans (lfS_r (by simp only [fNack, eh, em, hk, hx, hi, hl]))
        refine J_call rfl rfl rfl (decide_eq_true hS.1.1) rfl (c_fail hE hS hC hx hl s2 hk' k9 (Or.inl rfl) (hA.ls hx hl).2.2.1 tr5 (fun M2 o2 F2 hF2 hN2 hU2 hS2 hC2 => ?_))
        show J _ _ _ _ _ _ _
        rw [x2] at hC2
        have hp := ph_fail (c := c) (what := nI 3) hx hl s2
        obtain ⟨g1, g2⟩ := hR.actG (c := 0) hV (hF2.mono (fun z e => Or.inl e)) ⟨by omega, by omega, by omega⟩ (by omega) hS2 hC2 ⟨[], by rw [List.append_nil]; exact failL_m ..⟩
        exact J_ret rfl rfl rfl (K _ g1 g2)
  · show J _ _ _ _ _ _ _
    refine J_p 2 (ls' := [_, _, _, .null, _]) rfl ?_
    refine J_brF rfl rfl rfl ?_
    refine J_p 5 (ls' := [_, _, _, _, .int (-1)]) rfl ?_
    refine J_ine rfl (fun y => absurd rfl y) (fun _ => ?_)
    have eh : hereN (s_a S) q = none := by simp only [hereN, e1]
    exact R0 (by simp only [fNack, eh]) _

theorem k_purge (hR : CR M b S) (hE : STa E M) (hW : WfS T S) (hT : T + 100 < 2 ^ 20) (hV : PrS S) (q : Int32) {P : Int32 × St} (hP : lfS (fun A => fPurge A q) S = P) (K : ∀ M' : Mm, Ck b M M' S P.2 → CR M' b P.2 → Q (some (.int P.1)) M') : J E 126 0 [.ref b, .int q, U0] [] M Q := by
  have hr := hR.1.1
  obtain ⟨o, F, hS, hC⟩ := hR.2.1
  have hA := hW.1
  have n8 := hC.2.1.2
  have n10 := hC.2.2.1.2
  have n30 := hC.2.2.2.1.2
  have m3 := hC.mc.1
  refine J_p 1 (ls' := [_, _, _]) rfl ?_
  refine J_getR rfl hr.1 hr.2.1 ?_
  refine J_p 1 (ls' := [_, _, _]) rfl ?_
  refine J_call rfl rfl rfl (decide_eq_true hS.1.1) rfl (c_queueAt hS hC (fun j x e1 hx j8 eq => ?_) (fun e1 => ?_))
  · show J _ _ _ _ _ _ _
    have hQ := hS.qs j8
    have hQC := hC.qc hx
    have ok := hA.okL m3 n10 hx
    refine J_p 2 (ls' := [_, _, .ref (b + 8 + 4 + 25 * j)]) rfl ?_
    refine J_brT rfl rfl rfl ?_
    refine J_p 1 (ls' := [_, _, _]) rfl ?_
    obtain rfl : P = (nI (puA (q_ls x).length (q_ls x)).2, z_a S (w_q (s_a S) ((a_q (s_a S)).set j (x_ls x (puA (q_ls x).length (q_ls x)).1)))) := hP.symm.trans (lfS_r (by simp only [fPurge, e1, hx]))
    refine J_call rfl rfl rfl (decide_eq_true hQ.1) rfl (c_dropWaiting hQ hQC (fun i l hl => (ok i l hl).1) (fun M2 f2 hF2 hN2 hQ2 hQC2 => ?_))
    show J _ _ _ _ _ _ _
    have ep : phA (w_q (s_a S) ((a_q (s_a S)).set j (x_ls x (puA (q_ls x).length (q_ls x)).1))) ≤ phA (s_a S) + 480 := by
      have h1 := phA_set (x' := x_ls x (puA (q_ls x).length (q_ls x)).1) hx
      have h2 : phQ (q_ls (x_ls x (puA (q_ls x).length (q_ls x)).1)) ≤ phQ (q_ls x) := ph_pu _ _ (Nat.le_refl _)
      omega
    obtain ⟨g1, g2⟩ := hR.act hV (hF2.mono (fun z e => e.ww j8)) hN2 (hS.setq hF2 j8 hQ2) (OC.setq hS hC hF2 j8 hQC2) rfl ep
    exact J_ret rfl rfl rfl (K _ g1 g2)
  · show J _ _ _ _ _ _ _
    refine J_p 2 (ls' := [_, _, .null]) rfl ?_
    refine J_brF rfl rfl rfl ?_
    obtain rfl : P = (rfN 0, z_f S 0) := hP.symm.trans (lfS_l (by simp only [fPurge, e1]))
    refine J_p 2 (ls' := [_, _, _]) rfl ?_
    refine J_call rfl rfl rfl (decide_eq_true hr.1) rfl (c_refuse hR (w := 0) (by omega) (by first | rfl | decide) (fun M1 h1 h2 => ?_))
    show J _ _ _ _ _ _ _
    refine J_p 1 (ls' := [_, _, _]) rfl ?_
    exact J_ret rfl rfl rfl (K M1 h1 h2)

end COMP43