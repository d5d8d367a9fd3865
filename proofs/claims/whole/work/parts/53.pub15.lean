/-! THE REFERENCE: draws, days. -/
theorem dwE : ∃ f : Int32 → Int32, ∀ s, f s = s * nI 1103515245 + nI 12345 := ⟨fun s => s * nI 1103515245 + nI 12345, fun _ => rfl⟩
/-- the next seed; its upper half (chosen, so that no unification looks into them) -/
noncomputable def dwS : Int32 → Int32 := dwE.choose
theorem dwS_eq (s : Int32) : dwS s = s * nI 1103515245 + nI 12345 := dwE.choose_spec s
theorem dwV (s : Int32) : (s.toUInt32 >>> ((nI 16).toUInt32 &&& Int32.toUInt32 31)).toInt32 = nI (s.toUInt32.toNat / 65536) := by
  have e : ((nI 16).toUInt32 &&& Int32.toUInt32 31) = 16 := by decide
  rw [e]
  have h1 : (s.toUInt32 >>> 16).toNat = s.toUInt32.toNat / 65536 := by
    rw [UInt32.toNat_shiftRight]
    show s.toUInt32.toNat >>> 16 = _
    rw [Nat.shiftRight_eq_div_pow]
  have h2 : s.toUInt32 >>> 16 = UInt32.ofNat (s.toUInt32.toNat / 65536) := by rw [← h1, UInt32.ofNat_toNat]
  rw [h2]
  rfl
theorem dwF : ∃ u : Int32 → Nat, ∀ s, u s < 65536 ∧ (s.toUInt32 >>> ((nI 16).toUInt32 &&& Int32.toUInt32 31)).toInt32 = nI (u s) := ⟨fun s => s.toUInt32.toNat / 65536, fun s => ⟨by have : s.toUInt32.toNat < 2 ^ 32 := s.toUInt32.toNat_lt; show s.toUInt32.toNat / 65536 < 65536; omega, dwV s⟩⟩
noncomputable def dwU : Int32 → Nat := dwF.choose
theorem dw_eq (s : Int32) : (s.toUInt32 >>> ((nI 16).toUInt32 &&& Int32.toUInt32 31)).toInt32 = nI (dwU s) := (dwF.choose_spec s).2
theorem dwU_lt (s : Int32) : dwU s < 65536 := (dwF.choose_spec s).1
noncomputable def drawA (A : Ab) (n : Nat) : Ab × Nat := (w_s A (dwS (a_s A)), dwU (dwS (a_s A)) % n)
noncomputable def dayS (A : Ab) : Ab × Bool := if (a_t A).length = 0 ∨ (a_m A).length = 300 then (A, false) else ((sendA (drawA (drawA (drawA A 8).1 4).1 100).1 (drawA A 8).2 (drawA (drawA A 8).1 4).2 (nI (drawA (drawA (drawA A 8).1 4).1 100).2)).1, true)
noncomputable def dayG (A : Ab) : Ab × Bool := if (a_q A).length = 0 then (A, false) else match giveA (drawA A (a_q A).length).1 (drawA A (a_q A).length).2 with
  | none => ((drawA A (a_q A).length).1, false)
  | some p => (p.1, true)
def dayY (A : Ab) (c : Nat) (good : Bool) : Ab × Bool := match (a_c A)[c]? with
  | none => (A, false)
  | some k => match (a_q A)[k_q k]? with
    | none => (A, false)
    | some x => match oaA (q_ls x) c none (q_ls x).length 0 with
      | none => (A, false)
      | some i => if good = true then (aAck A (k_q k) x i c k, true) else match (q_ls x)[i]? with
        | none => (A, false)
        | some l => (failL A (k_q k) x i l c (nI 3), true)
noncomputable def dayX (A : Ab) (good : Bool) : Ab × Bool := if (a_c A).length = 0 then (A, false) else dayY (drawA A (a_c A).length).1 (drawA A (a_c A).length).2 good
noncomputable def dayA (A : Ab) (what : Nat) : Ab × Bool := if what < 2 then dayS A else if what < 4 then dayG A else dayX A (decide (what = 4))
noncomputable def dayB (A : Ab) : Ab × Bool := dayA (drawA A 6).1 (drawA A 6).2
noncomputable def daysA : Nat → Ab → Ab × Nat
  | 0, A => (A, 0)
  | n + 1, A => ((daysA n (tickA (dayB A).1).1).1, (if (dayB A).2 = true then 1 else 0) + (daysA n (tickA (dayB A).1).1).2)
noncomputable def fDays (A : Ab) (n : Int32) : Rs := match inNB n 1 60 with
  | none => .inl 0
  | some j => .inr (nI (daysA j A).2, (daysA j A).1)
section PUB15
variable {E : Nat × Nat} {M : Mm} {r T : Nat} {g : Nat → Int32} {A : Ab} {Q : Option Value → Mm → Prop} {q c i m : Nat} {x y : Qa} {k : Co} {l : La}
theorem J_rt {mi pc nx tg x y : Nat} {v : Value} {ls : List Value} {b b' : Int32} (hq : tb mi pc = some (.ireturn, nx, tg, x, y, v)) (hb : b = 0 ∨ b = 1) (e : b' = b) (hQ : Q (some (.int b')) M) : J E mi pc ls [.int b] M Q := by
  subst e
  exact J_retB hq hb hQ

theorem c_drawA (hS : RS M r) (h : Rep g A) {n : Nat} (h0 : 0 < n) (hn : n < 2 ^ 31) (k : ∀ g' : Nat → Int32, Rep g' (drawA A n).1 → Q (some (.int (nI (drawA A n).2))) (wI M (r + 1) g')) : J E 245 0 [.ref r, .int (nI n)] [] (wI M (r + 1) g) Q := by
  have hu := dwU_lt (dwS (a_s A))
  refine J_p 1 (ls' := [_, _]) rfl ?_
  refine J_getR rfl hS.t hS.f0 ?_
  refine J_p 2 (ls' := [_, _]) rfl ?_
  refine J_getR rfl hS.t hS.f0 ?_
  refine J_p 1 (ls' := [_, _]) rfl ?_
  refine J_gld (n := 5) rfl (by repeat' (first | with_reducible rfl | assumption | with_reducible refine nI_decE ?_ | with_reducible refine nI_addE ?_ ?_ | with_reducible refine nI_mulE ?_ ?_ | with_reducible refine nI_subE ?_ ?_ ?_ | omega | (with_reducible refine congrArg nI ?_; omega))) hS (by omega) h.2.2.2.2.2.1 ?_
  refine J_p 4 (ls' := [_, _]) rfl ?_
  refine J_t0 (dwS_eq (a_s A)).symm ?_
  refine J_gst (n := 5) rfl (by repeat' (first | with_reducible rfl | assumption | with_reducible refine nI_decE ?_ | with_reducible refine nI_addE ?_ ?_ | with_reducible refine nI_mulE ?_ ?_ | with_reducible refine nI_subE ?_ ?_ ?_ | omega | (with_reducible refine congrArg nI ?_; omega))) hS (by omega) ?_
  refine J_p 1 (ls' := [_, _]) rfl ?_
  refine J_getR rfl hS.t hS.f0 ?_
  refine J_p 1 (ls' := [_, _]) rfl ?_
  refine J_gld (n := 5) rfl (by repeat' (first | with_reducible rfl | assumption | with_reducible refine nI_decE ?_ | with_reducible refine nI_addE ?_ ?_ | with_reducible refine nI_mulE ?_ ?_ | with_reducible refine nI_subE ?_ ?_ ?_ | omega | (with_reducible refine congrArg nI ?_; omega))) hS (by omega) (if_pos rfl) ?_
  refine J_p 2 (ls' := [_, _]) rfl ?_
  refine J_t0 (dw_eq (dwS (a_s A))) ?_
  refine J_p 1 (ls' := [_, _]) rfl ?_
  refine J_rem rfl (fun y => absurd ((nI_eq (a := n) (b := 0) (by omega) (by omega)).mp y) (by omega)) ?_
  rw [pk_rem (show dwU (dwS (a_s A)) < 2 ^ 31 by omega) h0 hn]
  exact J_ret rfl rfl rfl (k _ (h.s (t := dwS (a_s A))))

theorem c_isDayA (hS : RS M r) (hW : WS M r) (h : Rep g A) (w : Wf T A) {what : Nat} (h6 : what < 6) (k : ∀ g' : Nat → Int32, Rep g' (dayA A what).1 → Wf T (dayA A what).1 → Q (some (.int (if (dayA A what).2 = true then nI 1 else nI 0))) (wI M (r + 1) g')) : J E 246 0 [.ref r, .int (nI what), U0, U0, U0] [] (wI M (r + 1) g) Q := by
  have t4 := h.2.2.2.2.2.2.1.1
  have m300 := h.2.2.1.1
  have h8 := h.1.1
  have h10 := h.2.1.1
  refine J_p 2 (ls' := [_, _, _, _, _]) rfl ?_
  refine J_ige rfl (fun b2 => ?_) (fun b2 => ?_)
  · skip
    have w2 : ¬ what < 2 := by have := (nI_leI (by omega) (by omega)).mp b2; omega
    refine J_p 2 (ls' := [_, _, _, _, _]) rfl ?_
    refine J_ige rfl (fun b60 => ?_) (fun b60 => ?_)
    · skip
      have w4 : ¬ what < 4 := by have := (nI_leI (by omega) (by omega)).mp b60; omega
      refine J_p 1 (ls' := [_, _, _, _, _]) rfl ?_
      refine J_getR rfl hS.t hS.f0 ?_
      refine J_p 1 (ls' := [_, _, _, _, _]) rfl ?_
      refine J_gld (n := 1) rfl (by repeat' (first | with_reducible rfl | assumption | with_reducible refine nI_decE ?_ | with_reducible refine nI_addE ?_ ?_ | with_reducible refine nI_mulE ?_ ?_ | with_reducible refine nI_subE ?_ ?_ ?_ | omega | (with_reducible refine congrArg nI ?_; omega))) hS (by omega) h.2.1.2.1 ?_
      refine J_zne rfl (fun b101 => ?_) (fun b101 => ?_)
      · skip
        have e0 : ¬ (a_c A).length = 0 := fun y => b101 (by rw [y]; rfl)
        refine J_p 2 (ls' := [_, _, _, _, _]) rfl ?_
        refine J_getR rfl hS.t hS.f0 ?_
        refine J_p 1 (ls' := [_, _, _, _, _]) rfl ?_
        refine J_gld (n := 1) rfl (by repeat' (first | with_reducible rfl | assumption | with_reducible refine nI_decE ?_ | with_reducible refine nI_addE ?_ ?_ | with_reducible refine nI_mulE ?_ ?_ | with_reducible refine nI_subE ?_ ?_ ?_ | omega | (with_reducible refine congrArg nI ?_; omega))) hS (by omega) h.2.1.2.1 ?_
        refine J_call rfl rfl rfl (decide_eq_true hS.t) rfl (c_drawA hS h (n := (a_c A).length) (by omega) (by omega) (fun gh1 h1 => ?_))
        show J _ _ _ _ _ _ _
        refine J_p 4 (ls' := [_, _, _, _, _]) rfl ?_
        have dlt : (drawA A (a_c A).length).2 < (a_c A).length := Nat.mod_lt _ (by omega)
        obtain ⟨c, hc⟩ : ∃ c, (drawA A (a_c A).length).2 = c := ⟨_, rfl⟩
        rw [hc] at dlt ⊢
        obtain ⟨B, hB⟩ : ∃ B, (drawA A (a_c A).length).1 = B := ⟨_, rfl⟩
        rw [hB] at h1
        have w1 : Wf T B := by rw [← hB]; exact w.seed _
        have hcl : a_c B = a_c A := by rw [← hB]; rfl
        obtain ⟨k', hk⟩ := get_of (l := a_c B) (i := c) (by rw [hcl]; exact dlt)
        obtain ⟨x, hx⟩ := get_of (w1.2.2.1 c k' hk).1
        have eX : dayA A what = dayY B c (decide (what = 4)) := by unfold dayA dayX; rw [if_neg w2, if_neg w4, if_neg (by omega), hc, hB]
        refine J_call rfl rfl rfl (decide_eq_true hS.t) rfl (c_outAtA hS h1 w1 hk hx (o := none) (Or.inl ⟨by decide, rfl⟩) ?_)
        cases hi : oaA (q_ls x) c none (q_ls x).length 0 with
        | none =>
          have e : dayA A what = (B, false) := by rw [eX]; simp only [dayY, hk, hx, hi]
          rw [e] at k
          show J _ _ _ _ _ _ _
          refine J_t0 (show oI none = -1 from rfl) ?_
          refine J_p 2 (ls' := [_, _, _, _, _]) rfl ?_
          refine J_zge rfl (fun b => absurd b (by decide)) (fun _ => ?_)
          refine J_p 1 (ls' := [_, _, _, _, _]) rfl ?_
          exact J_rt rfl (by decide) rfl (k gh1 h1 w1)
        | some i =>
          obtain ⟨l, hl, s2, x2, _⟩ := isA_iff.mp (oaA_at _ _ _ _ _ _ hi)
          have il := li hl
          obtain ⟨k2, hk2, hf, _⟩ := (w1.ls hx hl).2.2.2.2.2.2 s2
          rw [x2, hk] at hk2
          cases hk2
          have n20 := (h1.1.2.2 _ x hx).2.2.2.2.1
          show J _ _ _ _ _ _ _
          refine J_n0 (n := i) rfl ?_
          refine J_p 2 (ls' := [_, _, _, _, _]) rfl ?_
          refine J_zge rfl (fun _ => ?_) (fun b => absurd (nI_pos' (by omega)) b)
          refine J_p 2 (ls' := [_, _, _, _, _]) rfl ?_
          refine J_ine rfl (fun b132 => ?_) (fun b132 => ?_)
          · skip
            have e4 : ¬ what = 4 := fun y => b132 (by rw [y])
            refine J_p 3 (ls' := [_, _, _, _, _]) rfl ?_
            have e : dayA A what = (failL B (k_q k') x i l c (nI 3), true) := by rw [eX]; simp only [dayY, hk, hx, hi, hl, decide_eq_false e4, if_false, reduceIte]; first | done | rfl
            rw [e] at k
            refine J_call rfl rfl rfl (decide_eq_true hS.t) rfl (c_refusesA hS hW h1 w1 hk hx hl (fun g' hr => ?_))
            show J _ _ _ _ _ _ _
            refine J_p 2 (ls' := [_, _, _, _, _]) rfl ?_
            exact J_rt rfl (by decide) rfl (k g' hr (w1.fail hx hl hk hf (Or.inl rfl)))
          · skip
            have e4 : what = 4 := (nI_eq (by omega) (by omega)).mp b132
            refine J_p 3 (ls' := [_, _, _, _, _]) rfl ?_
            have e : dayA A what = (aAck B (k_q k') x i c k', true) := by rw [eX]; simp only [dayY, hk, hx, hi, decide_eq_true e4, if_true]
            rw [e] at k
            refine J_call rfl rfl rfl (decide_eq_true hS.t) rfl (c_acksA hS h1 w1 hk hx il (fun g' hr => ?_))
            show J _ _ _ _ _ _ _
            refine J_p 2 (ls' := [_, _, _, _, _]) rfl ?_
            exact J_rt rfl (by decide) rfl (k g' hr (w1.ack hx il hk hf))
      · skip
        have e0 : (a_c A).length = 0 := (nI_eq (b := 0) (by omega) (by omega)).mp b101
        have e : dayA A what = (A, false) := by unfold dayA dayX; rw [if_neg w2, if_neg w4, if_pos e0]
        rw [e] at k
        refine J_p 1 (ls' := [_, _, _, _, _]) rfl ?_
        exact J_rt rfl (by decide) rfl (k g h w)
    · skip
      have w4 : what < 4 := by rcases Nat.lt_or_ge what 4 with z | z; exact z; exact absurd (nI_le (by omega) (by omega)) b60
      refine J_p 1 (ls' := [_, _, _, _, _]) rfl ?_
      refine J_getR rfl hS.t hS.f0 ?_
      refine J_p 1 (ls' := [_, _, _, _, _]) rfl ?_
      refine J_gld (n := 0) rfl (by repeat' (first | with_reducible rfl | assumption | with_reducible refine nI_decE ?_ | with_reducible refine nI_addE ?_ ?_ | with_reducible refine nI_mulE ?_ ?_ | with_reducible refine nI_subE ?_ ?_ ?_ | omega | (with_reducible refine congrArg nI ?_; omega))) hS (by omega) h.1.2.1 ?_
      refine J_zle rfl (fun b69 => ?_) (fun b69 => ?_)
      · skip
        have e0 : (a_q A).length = 0 := by rcases Nat.eq_zero_or_pos (a_q A).length with z | z; exact z; exact absurd b69 (nI_ge (a := 0) z (by omega))
        have e : dayA A what = (A, false) := by unfold dayA dayG; rw [if_neg w2, if_pos w4, if_pos e0]
        rw [e] at k
        refine J_p 1 (ls' := [_, _, _, _, _]) rfl ?_
        exact J_rt rfl (by decide) rfl (k g h w)
      · skip
        have e0 : ¬ (a_q A).length = 0 := fun y => b69 (by rw [y]; decide)
        refine J_p 3 (ls' := [_, _, _, _, _]) rfl ?_
        refine J_getR rfl hS.t hS.f0 ?_
        refine J_p 1 (ls' := [_, _, _, _, _]) rfl ?_
        refine J_gld (n := 0) rfl (by repeat' (first | with_reducible rfl | assumption | with_reducible refine nI_decE ?_ | with_reducible refine nI_addE ?_ ?_ | with_reducible refine nI_mulE ?_ ?_ | with_reducible refine nI_subE ?_ ?_ ?_ | omega | (with_reducible refine congrArg nI ?_; omega))) hS (by omega) h.1.2.1 ?_
        refine J_call rfl rfl rfl (decide_eq_true hS.t) rfl (c_drawA hS h (n := (a_q A).length) (by omega) (by omega) (fun gh1 h1 => ?_))
        show J _ _ _ _ _ _ _
        have dlt : (drawA A (a_q A).length).2 < (a_q A).length := Nat.mod_lt _ (by omega)
        obtain ⟨x, hx⟩ := get_of (l := a_q (drawA A (a_q A).length).1) (i := (drawA A (a_q A).length).2) dlt
        refine J_call rfl rfl rfl (decide_eq_true hS.t) rfl (c_givesA hS h1 (w.seed _) hx (fun hg => ?_) (fun B m hg hm g' hr => ?_))
        · skip
          have e : dayA A what = ((drawA A (a_q A).length).1, false) := by unfold dayA dayG; rw [if_neg w2, if_pos w4, if_neg (by omega), hg]
          rw [e] at k
          show J _ _ _ _ _ _ _
          refine J_zlt rfl (fun _ => ?_) (fun b => absurd (by decide) b)
          refine J_p 1 (ls' := [_, _, _, _, _]) rfl ?_
          exact J_rt rfl (by decide) rfl (k gh1 h1 (w.seed _))
        · skip
          have e : dayA A what = (B, true) := by unfold dayA dayG; rw [if_neg w2, if_pos w4, if_neg (by omega), hg]
          rw [e] at k
          show J _ _ _ _ _ _ _
          refine J_zlt rfl (fun b => absurd b (nI_pos (by omega))) (fun _ => ?_)
          refine J_p 2 (ls' := [_, _, _, _, _]) rfl ?_
          exact J_rt rfl (by decide) rfl (k g' hr ((Wf.seed w _).giv hg hx))
  · skip
    have w2 : what < 2 := by rcases Nat.lt_or_ge what 2 with z | z; exact z; exact absurd (nI_le (by omega) (by omega)) b2
    refine J_p 1 (ls' := [_, _, _, _, _]) rfl ?_
    refine J_getR rfl hS.t hS.f0 ?_
    refine J_p 1 (ls' := [_, _, _, _, _]) rfl ?_
    refine J_gld (n := 6) rfl (by repeat' (first | with_reducible rfl | assumption | with_reducible refine nI_decE ?_ | with_reducible refine nI_addE ?_ ?_ | with_reducible refine nI_mulE ?_ ?_ | with_reducible refine nI_subE ?_ ?_ ?_ | omega | (with_reducible refine congrArg nI ?_; omega))) hS (by omega) h.2.2.2.2.2.2.1.2.1 ?_
    refine J_zeq rfl (fun b12 => ?_) (fun b12 => ?_)
    · skip
      have e0 : (a_t A).length = 0 := (nI_eq (b := 0) (by omega) (by omega)).mp b12
      have e : dayA A what = (A, false) := by unfold dayA dayS; rw [if_pos w2, if_pos (Or.inl e0)]
      rw [e] at k
      refine J_p 1 (ls' := [_, _, _, _, _]) rfl ?_
      exact J_rt rfl (by decide) rfl (k g h w)
    · skip
      have e0 : ¬ (a_t A).length = 0 := fun y => b12 (by rw [y]; rfl)
      refine J_p 1 (ls' := [_, _, _, _, _]) rfl ?_
      refine J_getR rfl hS.t hS.f0 ?_
      refine J_p 1 (ls' := [_, _, _, _, _]) rfl ?_
      refine J_gld (n := 2) rfl (by repeat' (first | with_reducible rfl | assumption | with_reducible refine nI_decE ?_ | with_reducible refine nI_addE ?_ ?_ | with_reducible refine nI_mulE ?_ ?_ | with_reducible refine nI_subE ?_ ?_ ?_ | omega | (with_reducible refine congrArg nI ?_; omega))) hS (by omega) h.2.2.1.2.1 ?_
      refine J_p 1 (ls' := [_, _, _, _, _]) rfl ?_
      refine J_ine rfl (fun b24 => ?_) (fun b24 => ?_)
      · skip
        have e3 : ¬ (a_m A).length = 300 := fun y => b24 (by rw [y])
        refine J_p 2 (ls' := [_, _, _, _, _]) rfl ?_
        refine J_call rfl rfl rfl (decide_eq_true hS.t) rfl (c_drawA hS h (n := 8) (by omega) (by omega) (fun gh1 h1 => ?_))
        show J _ _ _ _ _ _ _
        refine J_p 3 (ls' := [_, _, _, _, _]) rfl ?_
        refine J_call rfl rfl rfl (decide_eq_true hS.t) rfl (c_drawA hS h1 (n := 4) (by omega) (by omega) (fun gh2 h2 => ?_))
        show J _ _ _ _ _ _ _
        refine J_p 6 (ls' := [_, _, _, _, _]) rfl ?_
        refine J_call rfl rfl rfl (decide_eq_true hS.t) rfl (c_drawA hS h2 (n := 100) (by omega) (by omega) (fun gh3 h3 => ?_))
        show J _ _ _ _ _ _ _
        have e : dayA A what = ((sendA (drawA (drawA (drawA A 8).1 4).1 100).1 (drawA A 8).2 (drawA (drawA A 8).1 4).2 (nI (drawA (drawA (drawA A 8).1 4).1 100).2)).1, true) := by unfold dayA dayS; rw [if_pos w2, if_neg (by omega)]
        rw [e] at k
        refine J_call rfl rfl rfl (decide_eq_true hS.t) rfl (c_publishesA (key := (drawA A 8).2) (pr := (drawA (drawA A 8).1 4).2) (v := nI (drawA (drawA (drawA A 8).1 4).1 100).2) (m := (a_m A).length) hS h3 (((w.seed _).seed _).seed _) (Nat.mod_lt _ (by omega)) (Nat.mod_lt _ (by omega)) (show 1 ≤ (a_t A).length by omega) rfl (by omega) (fun g' h' w' => ?_))
        show J _ _ _ _ _ _ _
        refine J_p 2 (ls' := [_, _, _, _, _]) rfl ?_
        exact J_rt rfl (by decide) rfl (k g' h' w')
      · skip
        have e3 : (a_m A).length = 300 := (nI_eq (by omega) (by omega)).mp b24
        have e : dayA A what = (A, false) := by unfold dayA dayS; rw [if_pos w2, if_pos (Or.inr e3)]
        rw [e] at k
        refine J_p 1 (ls' := [_, _, _, _, _]) rfl ?_
        exact J_rt rfl (by decide) rfl (k g h w)

theorem c_days_l (hS : RS M r) (hW : WS M r) {n : Nat} (hn : n ≤ 60) : ∀ (d t did T : Nat) (A : Ab) (g : Nat → Int32) (x4 : Value), Rep g A → Wf T A → T + d < 2 ^ 20 → t + d = n →
    (∀ g' : Nat → Int32, Rep g' (daysA d A).1 → Wf (T + d) (daysA d A).1 → Q (some (.int (nI (did + (daysA d A).2)))) (wI M (r + 1) g')) →
    J E 247 23 [.ref r, .int (nI n), .int (nI did), .int (nI t), x4] [] (wI M (r + 1) g) Q
  | 0, t, did, T, A, g, x4, h, w, hT, ht, k => by
    refine J_p 2 (ls' := [_, _, _, _, _]) rfl ?_
    refine J_ige rfl (fun b => ?_) (fun b => absurd (nI_le (a := n) (b := t) (by omega) (by omega)) b)
    refine J_p 1 (ls' := [_, _, _, _, _]) rfl ?_
    exact J_ret rfl rfl rfl (k g h w)
  | d + 1, t, did, T, A, g, x4, h, w, hT, ht, k => by
    refine J_p 2 (ls' := [_, _, _, _, _]) rfl ?_
    refine J_ige rfl (fun b => absurd b (nI_ge (a := t) (b := n) (by omega) (by omega))) (fun _ => ?_)
    refine J_p 4 (ls' := [_, _, _, _, _]) rfl ?_
    refine J_call rfl rfl rfl (decide_eq_true hS.t) rfl (c_drawA hS h (n := 6) (by omega) (by omega) (fun g1 h1 => ?_))
    show J _ _ _ _ _ _ _
    refine J_call rfl rfl rfl (decide_eq_true hS.t) rfl (c_isDayA hS hW h1 (w.seed _) (Nat.mod_lt _ (by omega)) (fun g2 h2 w2 => ?_))
    show J _ _ _ _ _ _ _
    have tail : ∀ b : Nat, (if (dayB A).2 = true then 1 else 0) = b → J E 247 49 [.ref r, .int (nI n), .int (nI (did + b)), .int (nI t), x4] [] (wI M (r + 1) g2) Q := fun b hb => by
      refine J_p 2 (ls' := [_, _, _, _, _]) rfl ?_
      refine J_call rfl rfl rfl (decide_eq_true hS.t) rfl (c_passes hS hW (n := 1) (by omega) h2 w2 (by omega) (fun g3 h3 w3 => ?_))
      show J _ _ _ _ _ _ _
      refine J_p 3 (ls' := [_, _, _, _, _]) rfl ?_
      rw [nI_add t 1]
      refine c_days_l hS hW hn d (t + 1) (did + b) (T + 1) (tickA (dayB A).1).1 g3 _ h3 w3 (by omega) (by omega) (fun g4 h4 w4 => ?_)
      have := k g4 h4 (by rw [show T + (d + 1) = T + 1 + d by omega]; exact w4)
      have e : did + (daysA (d + 1) A).2 = did + b + (daysA d (tickA (dayB A).1).1).2 := by
        show did + ((if (dayB A).2 = true then 1 else 0) + (daysA d (tickA (dayB A).1).1).2) = _
        rw [hb]; omega
      rw [e] at this
      exact this
    by_cases c : (dayB A).2 = true
    · have c' : (dayA (drawA A 6).1 (drawA A 6).2).2 = true := c
      rw [if_pos c']
      refine J_zeq rfl (fun b => absurd b (by decide)) (fun _ => ?_)
      refine J_p 4 (ls' := [_, _, _, _, _]) rfl ?_
      rw [nI_add did 1]
      exact tail 1 (if_pos c)
    · have c' : ¬ (dayA (drawA A 6).1 (drawA A 6).2).2 = true := c
      rw [if_neg c']
      refine J_zeq rfl (fun _ => ?_) (fun b => absurd rfl b)
      refine J_p 3 (ls' := [_, _, _, _, _]) rfl ?_
      rw [nI_add did 0]
      exact tail 0 (if_neg c)

theorem p_days (hS : RS M r) (hW : WS M r) (h : Rep g A) (w : Wf T A) (hT : T + 99 < 2 ^ 20) (n : Int32) (kR : ∀ (rw_ : Nat) (v_ : Int32), fDays A n = .inl rw_ → v_ = rfN rw_ → Q (some (.int v_)) (wI (rfM M r rw_) (r + 1) g)) (kO : ∀ (a : Int32) (B : Ab), fDays A n = .inr (a, B) → ∀ g' : Nat → Int32, Rep g' B → Wf (T + 99) B → Q (some (.int a)) (wI M (r + 1) g')) : J E 247 0 [.ref r, .int n, U0, U0, U0] [] (wI M (r + 1) g) Q := by
  refine J_p 4 (ls' := [_, _, _, _, _]) rfl ?_
  refine J_call rfl rfl rfl rfl rfl (c_inA (x := n) (a := 1) (b := 60) (by decide) (by decide) (fun m h6 e6 la6 lb6 => ?_) (fun h6 => ?_))
  · skip
    subst e6
    show J _ _ _ _ _ _ _
    refine J_zne rfl (fun _ => ?_) (fun b => absurd b (by decide))
    refine J_p 4 (ls' := [_, _, _, _, _]) rfl ?_
    refine c_days_l (E := E) hS hW lb6 m 0 0 T A g _ h w (by omega) (Nat.zero_add _) (fun g' h' w' => ?_)
    rw [Nat.zero_add]
    exact kO _ _ (by simp only [fDays, h6]) g' h' (w'.mono (by omega) hT)
  · skip
    show J _ _ _ _ _ _ _
    refine J_zne rfl (fun b => absurd rfl b) (fun _ => ?_)
    refine J_p 2 (ls' := [_, _, _, _, _]) rfl ?_
    refine J_call rfl rfl rfl (decide_eq_true hS.t) rfl (c_refused hS 0 (by decide) (by decide) ?_)
    show J _ _ _ _ _ _ _
    exact J_ret rfl rfl rfl (kR 0 _ (by simp only [fDays, h6, if_true, if_false, reduceIte]) (by decide))

end PUB15