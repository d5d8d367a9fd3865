/-! THE COMPONENT'S PUBLIC METHODS: row, set, copy, element, holds, show, says. -/
theorem cpA_no {S : St} {b so : Nat} {p q : List Int64} {i j n : Int32} (h : ∀ i' j' n', ixN i (p.length + 1) = some i' → ixN j (q.length + 1) = some j' → ixN n 41 = some n' → ¬ (i' + n' ≤ p.length ∧ j' + n' ≤ q.length)) : cpA S b so p q i j n = (rfN 0, z_f S 0) := by
  unfold cpA
  cases e1 : ixN i (p.length + 1) with
  | none => rfl
  | some i' =>
    cases e2 : ixN j (q.length + 1) with
    | none => rfl
    | some j' =>
      cases e3 : ixN n 41 with
      | none => rfl
      | some n' => exact if_neg (h i' j' n' e1 e2 e3)
theorem mL_cL (M : Mm) (a sp b dp n k : Nat) : mL (cL M a sp b dp n) b k = if dp ≤ k ∧ k < dp + n then mL M a (sp + (k - dp)) else mL M b k := by
  show (if b = b ∧ dp ≤ k ∧ k < dp + n then mL M a (sp + (k - dp)) else mL M b k) = _
  by_cases c : dp ≤ k ∧ k < dp + n
  · rw [if_pos c, if_pos ⟨rfl, c⟩]
  · rw [if_neg c, if_neg (fun e => c e.2)]
theorem Fm.cL {W : Nat → Prop} {M : Mm} {a b sp dp n : Nat} (hw : W b) (ht : ¬ rO (mT M b)) : Fm W M (cL M a sp b dp n) := by
  refine ⟨Nat.le_refl _, fun _ _ => rfl, fun c hc h => ⟨rfl, rfl, ?_, rfl⟩⟩
  funext k
  refine if_neg (fun e => ?_)
  obtain ⟨rfl, _⟩ := e
  rcases h with h | h
  · exact h hw
  · exact ht h
section COMP48
variable {E : Nat × Nat} {M M' : Mm} {W : Nat → Prop} {Q : Option Value → Mm → Prop} {a b w t g m T : Nat} {S S' : St} {A B : Ab}

theorem k_row (hR : CR M b S) (hE : STa E M) (hW : WfS T S) (hT : T + 100 < 2 ^ 20) (hV : PrS S) (s so n : Int32) {P : Int32 × St} (hP : fRow S s so n = P) (K : ∀ M' : Mm, Ck b M M' S P.2 → CR M' b P.2 → Q (some (.int P.1)) M') : J E 103 0 [.ref b, .int s, .int so, .int n, U0] [] M Q := by
  have hr := hR.1.1
  obtain ⟨o, F, hS, hC⟩ := hR.2.1
  have hA := hW.1
  have n8 := hC.2.1.2
  have n10 := hC.2.2.1.2
  have n30 := hC.2.2.2.1.2
  have m3 := hC.mc.1
  have hSh : ∀ j, j < 8 → ShS M (b + 261 + 2 * j) := fun j hj => (hR.1.2.2.2.2.1.2.2 j hj).2
  have hv : ∀ j, j < 8 → ShC M (b + 261 + 2 * j) (s_h S j) := hR.2.2.2.2.1
  have R0 : fRow S s so n = rfS S 0 → ∀ v4 : Value, J E 103 30 [.ref b, .int s, .int so, .int n, v4] [] M Q := fun h0 v4 => by
    obtain rfl : P = (rfN 0, z_f S 0) := hP.symm.trans (by exact h0)
    refine J_p 2 (ls' := [_, _, _, _, _]) rfl ?_
    refine J_call rfl rfl rfl (decide_eq_true hr.1) rfl (c_refuse hR (w := 0) (by omega) (by first | rfl | decide) (fun M1 h1 h2 => ?_))
    show J _ _ _ _ _ _ _
    exact J_ret rfl rfl rfl (K M1 h1 h2)
  refine J_p 2 (ls' := [_, _, _, _, _]) rfl ?_
  refine J_call rfl rfl rfl (decide_eq_true hr.1) rfl (c_shelfAt hR (fun j e1 j8 ej => ?_) (fun e1 => ?_))
  · show J _ _ _ _ _ _ _
    refine J_p 2 (ls' := [_, _, _, _, .ref (b + 261 + 2 * j)]) rfl ?_
    refine J_brF rfl rfl rfl ?_
    refine J_p 2 (ls' := [_, _, _, _, _]) rfl ?_
    refine J_call rfl rfl rfl rfl rfl (c_isBelow (by omega) (fun o' e2 o5 eo => ?_) (fun e2 => ?_))
    · show J _ _ _ _ _ _ _
      subst eo
      refine J_zeq rfl (fun y => absurd y (by decide)) (fun _ => ?_)
      refine J_p 3 (ls' := [_, _, _, _, _]) rfl ?_
      refine J_call rfl rfl rfl rfl rfl (c_isWithin (by omega) (by omega) (fun k e3 ek k0 k1 => ?_) (fun e3 => ?_))
      · show J _ _ _ _ _ _ _
        rw [inNB_ix] at e3
        subst ek
        obtain rfl : P = (nI 1, z_h S j (some (.inl (o', List.replicate k (lN 0))))) := hP.symm.trans (by simp only [fRow, e1, e2, e3])
        refine J_zne rfl (fun _ => ?_) (fun y => absurd y (by decide))
        refine J_p 3 (ls' := [_, _, _, _, _]) rfl ?_
        refine J_call rfl rfl rfl (decide_eq_true (hSh j j8).1) rfl (c_holdRow (hSh j j8) (fun M1 hF hN h1 h2 h3 h4 h5 h6 => ?_))
        show J _ _ _ _ _ _ _
        refine J_p 1 (ls' := [_, _, _, _, _]) rfl ?_
        obtain ⟨g1, g2⟩ := hR.shf (v := some (.inl (o', List.replicate k (lN 0)))) j8 hF hN h1 h2 ⟨by omega, by rw [List.length_replicate]; omega, h3, by rw [List.length_replicate]; exact h4, h5, fun i v hi => by
          have hi2 := li hi
          rw [List.length_replicate] at hi2
          rw [List.getElem?_replicate, if_pos hi2] at hi
          cases hi
          exact h6 i (by omega)⟩
        exact J_ret rfl rfl rfl (K _ g1 g2)
      · show J _ _ _ _ _ _ _
        rw [inNB_ix] at e3
        refine J_zne rfl (fun y => absurd rfl y) (fun _ => ?_)
        exact R0 (by simp only [fRow, e1, e2, e3]) _
    · show J _ _ _ _ _ _ _
      refine J_zeq rfl (fun _ => ?_) (fun y => absurd rfl y)
      exact R0 (by simp only [fRow, e1, e2]) _
  · show J _ _ _ _ _ _ _
    refine J_p 2 (ls' := [_, _, _, _, .null]) rfl ?_
    refine J_brT rfl rfl rfl ?_
    exact R0 (by simp only [fRow, e1]) _

theorem k_set (hR : CR M b S) (hE : STa E M) (hW : WfS T S) (hT : T + 100 < 2 ^ 20) (hV : PrS S) (s i : Int32) (val : Int64) {P : Int32 × St} (hP : fSet S s i val = P) (K : ∀ M' : Mm, Ck b M M' S P.2 → CR M' b P.2 → Q (some (.int P.1)) M') : J E 104 0 [.ref b, .int s, .int i, .long val, U0, U0] [] M Q := by
  have hr := hR.1.1
  obtain ⟨o, F, hS, hC⟩ := hR.2.1
  have hA := hW.1
  have n8 := hC.2.1.2
  have n10 := hC.2.2.1.2
  have n30 := hC.2.2.2.1.2
  have m3 := hC.mc.1
  have hSh : ∀ j, j < 8 → ShS M (b + 261 + 2 * j) := fun j hj => (hR.1.2.2.2.2.1.2.2 j hj).2
  have hv : ∀ j, j < 8 → ShC M (b + 261 + 2 * j) (s_h S j) := hR.2.2.2.2.1
  refine J_p 2 (ls' := [_, _, _, _, _, _]) rfl ?_
  refine J_call rfl rfl rfl (decide_eq_true hr.1) rfl (c_shelfAt hR (fun j e1 j8 ej => ?_) (fun e1 => ?_))
  · show J _ _ _ _ _ _ _
    obtain ⟨s1, s2, s3, s4⟩ := hSh j j8
    have hvj := hv j j8
    refine J_p 2 (ls' := [_, _, _, _, _, .ref (b + 261 + 2 * j)]) rfl ?_
    refine J_brT rfl rfl rfl ?_
    refine J_p 1 (ls' := [_, _, _, _, _, _]) rfl ?_
    cases e : s_h S j with
    | none =>
      rw [e] at hvj
      obtain ⟨v1, v2⟩ := hvj
      refine J_getN rfl s1 v2 ?_
      refine J_brT rfl rfl rfl ?_
      refine J_p 1 (ls' := [_, _, _, _, _, _]) rfl ?_
      refine J_call rfl rfl rfl (decide_eq_true s1) rfl (c_isRow s1 v1 (fun y => absurd rfl y) (fun _ => ?_))
      show J _ _ _ _ _ _ _
      refine J_zne rfl (fun y => absurd rfl y) (fun _ => ?_)
      obtain rfl : P = (rfN 2, z_f S 2) := hP.symm.trans (by simp only [fSet, e1, e]; rfl)
      refine J_p 2 (ls' := [_, _, _, _, _, _]) rfl ?_
      refine J_call rfl rfl rfl (decide_eq_true hr.1) rfl (c_refuse hR (w := 2) (by omega) (by first | rfl | decide) (fun M1 h1 h2 => ?_))
      show J _ _ _ _ _ _ _
      exact J_ret rfl rfl rfl (K M1 h1 h2)
    | some w =>
      cases w with
      | inr c =>
        rw [e] at hvj
        obtain ⟨v1, p, n, v2, _⟩ := hvj
        refine J_getR rfl s1 v2 ?_
        refine J_brF rfl rfl rfl ?_
        obtain rfl : P = (rfN 1, z_f S 1) := hP.symm.trans (by simp only [fSet, e1, e]; rfl)
        refine J_p 2 (ls' := [_, _, _, _, _, _]) rfl ?_
        refine J_call rfl rfl rfl (decide_eq_true hr.1) rfl (c_refuse hR (w := 1) (by omega) (by first | rfl | decide) (fun M1 h1 h2 => ?_))
        show J _ _ _ _ _ _ _
        exact J_ret rfl rfl rfl (K M1 h1 h2)
      | inl w =>
        obtain ⟨so, els⟩ := w
        rw [e] at hvj
        obtain ⟨v1, v2, v3, v4, v5, v6⟩ := hvj
        refine J_getN rfl s1 v5 ?_
        refine J_brT rfl rfl rfl ?_
        refine J_p 1 (ls' := [_, _, _, _, _, _]) rfl ?_
        refine J_call rfl rfl rfl (decide_eq_true s1) rfl (c_isRow s1 v3 (fun _ => ?_) (fun y => absurd y (nI_m1 (by omega))))
        show J _ _ _ _ _ _ _
        refine J_zne rfl (fun _ => ?_) (fun y => absurd y (by decide))
        refine J_p 3 (ls' := [_, _, _, _, _, _]) rfl ?_
        refine J_call rfl rfl rfl (decide_eq_true s1) rfl (c_hasRun s1 v4 v2 (fun i' n' ei en hle => ?_) (fun hno => ?_))
        · show J _ _ _ _ _ _ _
          have hn1 : n' = 1 ∨ True := Or.inr trivial
          have hle' : i' + 1 ≤ els.length := by
            by_cases c : n' = 1
            · omega
            · by_cases c0 : n' = 0
              · subst c0
                exact absurd en (by decide)
              · omega
          have e2 : ixN i els.length = some i' := by rw [ei]; exact ixN_nI (by omega) (by omega)
          obtain rfl : P = (nI 1, z_h S j (some (.inl (so, els.set i' (loL so val))))) := hP.symm.trans (by simp only [fSet, e1, e, e2])
          subst ei
          have n21 : ¬ rO (mT M (b + 261 + 2 * j + 1)) := by rw [s3]; unfold rO; omega
          refine J_zne rfl (fun _ => ?_) (fun y => absurd y (by decide))
          refine J_p 1 (ls' := [_, _, _, _, _, _]) rfl ?_
          refine J_getR rfl s1 s2 ?_
          refine J_p 2 (ls' := [_, _, _, _, _, _]) rfl ?_
          refine J_gi rfl s1 v3 ?_
          refine J_p 1 (ls' := [_, _, _, _, _, _]) rfl ?_
          refine J_call rfl rfl rfl rfl rfl (c_narrowed v1 ?_)
          show J _ _ _ _ _ _ _
          refine J_last (n := i') (L := 40) rfl rfl s3 s4 (by omega) (by omega) ?_
          refine J_p 1 (ls' := [_, _, _, _, _, _]) rfl ?_
          obtain ⟨g1, g2⟩ := hR.shf (M' := sL M (b + 261 + 2 * j + 1) i' (loL so val)) (v := some (.inl (so, els.set i' (loL so val)))) j8 (Fm.sL (Or.inr rfl) n21) ⟨rfl, rfl, rfl⟩ (fun _ _ => rfl) (fun _ => rfl) ⟨v1, by rw [List.length_set]; exact v2, v3, by rw [List.length_set]; exact v4, v5, fun k z hz => by
            rw [mL_s0]
            rcases set_or hz with ⟨rfl, rfl⟩ | ⟨hne, hz⟩
            · rw [if_pos rfl]
            · rw [if_neg hne]
              exact v6 k z hz⟩
          exact J_ret rfl rfl rfl (K _ g1 g2)
        · show J _ _ _ _ _ _ _
          refine J_zne rfl (fun y => absurd rfl y) (fun _ => ?_)
          have e2 : ixN i els.length = none := by
            cases e3 : ixN i els.length with
            | none => rfl
            | some i' =>
              obtain ⟨u1, u2, _⟩ := ixN_some e3
              exact absurd (show i' + 1 ≤ els.length by omega) (hno i' 1 (by rw [u2]; exact ixN_nI (by omega) (by omega)) (ixN_nI (by omega) (by omega)))
          obtain rfl : P = (rfN 0, z_f S 0) := hP.symm.trans (by simp only [fSet, e1, e, e2]; rfl)
          refine J_p 2 (ls' := [_, _, _, _, _, _]) rfl ?_
          refine J_call rfl rfl rfl (decide_eq_true hr.1) rfl (c_refuse hR (w := 0) (by omega) (by first | rfl | decide) (fun M1 h1 h2 => ?_))
          show J _ _ _ _ _ _ _
          exact J_ret rfl rfl rfl (K M1 h1 h2)
  · show J _ _ _ _ _ _ _
    refine J_p 2 (ls' := [_, _, _, _, _, .null]) rfl ?_
    refine J_brF rfl rfl rfl ?_
    obtain rfl : P = (rfN 0, z_f S 0) := hP.symm.trans (by simp only [fSet, e1]; rfl)
    refine J_p 2 (ls' := [_, _, _, _, _, _]) rfl ?_
    refine J_call rfl rfl rfl (decide_eq_true hr.1) rfl (c_refuse hR (w := 0) (by omega) (by first | rfl | decide) (fun M1 h1 h2 => ?_))
    show J _ _ _ _ _ _ _
    exact J_ret rfl rfl rfl (K M1 h1 h2)

theorem k_element (hR : CR M b S) (s i : Int32) (K : Q (some (.long (fElement S s i))) M) : J E 106 0 [.ref b, .int s, .int i, U0] [] M Q := by
  have hr := hR.1.1
  have hSh : ∀ j, j < 8 → ShS M (b + 261 + 2 * j) := fun j hj => (hR.1.2.2.2.2.1.2.2 j hj).2
  have hv : ∀ j, j < 8 → ShC M (b + 261 + 2 * j) (s_h S j) := hR.2.2.2.2.1
  have R0 : fElement S s i = lN 0 → ∀ v3 : Value, J E 106 26 [.ref b, .int s, .int i, v3] [] M Q := fun h0 v3 => by
    rw [h0] at K
    refine J_p 1 (ls' := [_, _, _, _]) rfl ?_
    exact J_ret rfl rfl rfl K
  refine J_p 2 (ls' := [_, _, _, _]) rfl ?_
  refine J_call rfl rfl rfl (decide_eq_true hr.1) rfl (c_shelfAt hR (fun j e1 j8 ej => ?_) (fun e1 => ?_))
  · show J _ _ _ _ _ _ _
    obtain ⟨s1, s2, s3, s4⟩ := hSh j j8
    have hvj := hv j j8
    refine J_p 2 (ls' := [_, _, _, .ref (b + 261 + 2 * j)]) rfl ?_
    refine J_brF rfl rfl rfl ?_
    refine J_p 1 (ls' := [_, _, _, _]) rfl ?_
    cases e : s_h S j with
    | none =>
      rw [e] at hvj
      obtain ⟨v1, v2⟩ := hvj
      refine J_call rfl rfl rfl (decide_eq_true s1) rfl (c_isRow s1 v1 (fun y => absurd rfl y) (fun _ => ?_))
      show J _ _ _ _ _ _ _
      refine J_zeq rfl (fun _ => ?_) (fun y => absurd rfl y)
      exact R0 (by simp only [fElement, e1, e]) _
    | some w =>
      cases w with
      | inr c =>
        rw [e] at hvj
        obtain ⟨v1, p, n, v2, _⟩ := hvj
        refine J_call rfl rfl rfl (decide_eq_true s1) rfl (c_isRow s1 v1 (fun y => absurd rfl y) (fun _ => ?_))
        show J _ _ _ _ _ _ _
        refine J_zeq rfl (fun _ => ?_) (fun y => absurd rfl y)
        exact R0 (by simp only [fElement, e1, e]) _
      | inl w =>
        obtain ⟨so, els⟩ := w
        rw [e] at hvj
        obtain ⟨v1, v2, v3, v4, v5, v6⟩ := hvj
        refine J_call rfl rfl rfl (decide_eq_true s1) rfl (c_isRow s1 v3 (fun _ => ?_) (fun y => absurd y (nI_m1 (by omega))))
        show J _ _ _ _ _ _ _
        refine J_zeq rfl (fun y => absurd y (by decide)) (fun _ => ?_)
        refine J_p 3 (ls' := [_, _, _, _]) rfl ?_
        refine J_call rfl rfl rfl (decide_eq_true s1) rfl (c_hasRun s1 v4 v2 (fun i' n' ei en hle => ?_) (fun hno => ?_))
        · show J _ _ _ _ _ _ _
          have hle' : i' + 1 ≤ els.length := by
            by_cases c0 : n' = 0
            · subst c0
              exact absurd en (by decide)
            · omega
          have e2 : ixN i els.length = some i' := by rw [ei]; exact ixN_nI (by omega) (by omega)
          obtain ⟨z, hz⟩ := get_of (l := els) (i := i') (by omega)
          have eF : fElement S s i = z := by
            simp only [fElement, e1, e, e2]
            exact getD_of hz
          rw [eF] at K
          subst ei
          refine J_zne rfl (fun _ => ?_) (fun y => absurd y (by decide))
          refine J_p 1 (ls' := [_, _, _, _]) rfl ?_
          refine J_getR rfl s1 s2 ?_
          refine J_p 1 (ls' := [_, _, _, _]) rfl ?_
          refine J_la (n := i') (L := 40) rfl rfl s3 s4 (by omega) (by omega) (v6 i' z hz) ?_
          exact J_ret rfl rfl rfl K
        · show J _ _ _ _ _ _ _
          refine J_zne rfl (fun y => absurd rfl y) (fun _ => ?_)
          have e2 : ixN i els.length = none := by
            cases e3 : ixN i els.length with
            | none => rfl
            | some i' =>
              obtain ⟨u1, u2, _⟩ := ixN_some e3
              exact absurd (show i' + 1 ≤ els.length by omega) (hno i' 1 (by rw [u2]; exact ixN_nI (by omega) (by omega)) (ixN_nI (by omega) (by omega)))
          exact R0 (by simp only [fElement, e1, e, e2]) _
  · show J _ _ _ _ _ _ _
    refine J_p 2 (ls' := [_, _, _, .null]) rfl ?_
    refine J_brT rfl rfl rfl ?_
    exact R0 (by simp only [fElement, e1]) _

theorem k_holds (hR : CR M b S) (s : Int32) (K : Q (some (.int (fHolds S s))) M) : J E 107 0 [.ref b, .int s, U0] [] M Q := by
  have hr := hR.1.1
  have hSh : ∀ j, j < 8 → ShS M (b + 261 + 2 * j) := fun j hj => (hR.1.2.2.2.2.1.2.2 j hj).2
  have hv : ∀ j, j < 8 → ShC M (b + 261 + 2 * j) (s_h S j) := hR.2.2.2.2.1
  refine J_p 2 (ls' := [_, _, _]) rfl ?_
  refine J_call rfl rfl rfl (decide_eq_true hr.1) rfl (c_shelfAt hR (fun j e1 j8 ej => ?_) (fun e1 => ?_))
  · show J _ _ _ _ _ _ _
    obtain ⟨s1, s2, s3, s4⟩ := hSh j j8
    have hvj := hv j j8
    have eF : fHolds S s = hoA (s_h S j) := by simp only [fHolds, e1]
    rw [eF] at K
    refine J_p 2 (ls' := [_, _, .ref (b + 261 + 2 * j)]) rfl ?_
    refine J_brT rfl rfl rfl ?_
    refine J_p 1 (ls' := [_, _, _]) rfl ?_
    cases e : s_h S j with
    | none =>
      rw [e] at hvj K
      obtain ⟨v1, v2⟩ := hvj
      refine J_getN rfl s1 v2 ?_
      refine J_brF rfl rfl rfl ?_
      refine J_p 1 (ls' := [_, _, _]) rfl ?_
      refine J_gi rfl s1 v1 ?_
      refine J_p 1 (ls' := [_, _, _]) rfl ?_
      exact J_ret rfl rfl rfl K
    | some w =>
      cases w with
      | inr c =>
        rw [e] at hvj K
        obtain ⟨v1, p, n, v2, v3, v4, v5, v6, v7⟩ := hvj
        refine J_getR rfl s1 v2 ?_
        refine J_brT rfl rfl rfl ?_
        refine J_p 2 (ls' := [_, _, _]) rfl ?_
        refine J_getR rfl s1 v2 ?_
        refine J_gi rfl v3 v5.1 ?_
        refine J_p 1 (ls' := [_, _, _]) rfl ?_
        exact J_ret rfl rfl rfl K
      | inl w =>
        obtain ⟨so, els⟩ := w
        rw [e] at hvj K
        obtain ⟨v1, v2, v3, v4, v5, v6⟩ := hvj
        refine J_getN rfl s1 v5 ?_
        refine J_brF rfl rfl rfl ?_
        refine J_p 1 (ls' := [_, _, _]) rfl ?_
        refine J_gi rfl s1 v3 ?_
        refine J_p 1 (ls' := [_, _, _]) rfl ?_
        exact J_ret rfl rfl rfl K
  · show J _ _ _ _ _ _ _
    have eF : fHolds S s = -1 := by simp only [fHolds, e1]
    rw [eF] at K
    refine J_p 2 (ls' := [_, _, .null]) rfl ?_
    refine J_brF rfl rfl rfl ?_
    refine J_p 1 (ls' := [_, _, _]) rfl ?_
    exact J_ret rfl rfl rfl K

theorem k_show (hR : CR M b S) (hE : STa E M) (hW : WfS T S) (hT : T + 100 < 2 ^ 20) (hV : PrS S) (h5 : ∀ (i : Nat) (d : Da), (a_d (s_a S))[i]? = some d → (d_c d).length ≤ 5) (s i k : Int32) {P : Int32 × St} (hP : fShow S s i k = P) (K : ∀ M' : Mm, Ck b M M' S P.2 → CR M' b P.2 → Q (some (.int P.1)) M') : J E 108 0 [.ref b, .int s, .int i, .int k, U0, U0] [] M Q := by
  have hr := hR.1.1
  obtain ⟨o, F, hS, hC⟩ := hR.2.1
  have hA := hW.1
  have n8 := hC.2.1.2
  have n10 := hC.2.2.1.2
  have n30 := hC.2.2.2.1.2
  have m3 := hC.mc.1
  have hSh : ∀ j, j < 8 → ShS M (b + 261 + 2 * j) := fun j hj => (hR.1.2.2.2.2.1.2.2 j hj).2
  have hv : ∀ j, j < 8 → ShC M (b + 261 + 2 * j) (s_h S j) := hR.2.2.2.2.1
  refine J_p 2 (ls' := [_, _, _, _, _, _]) rfl ?_
  refine J_call rfl rfl rfl (decide_eq_true hr.1) rfl (c_shelfAt hR (fun j e1 j8 ej => ?_) (fun e1 => ?_))
  · show J _ _ _ _ _ _ _
    obtain ⟨s1, s2, s3, s4⟩ := hSh j j8
    have n7 : ¬ rO (mT M (b + 261 + 2 * j)) := by rw [s1]; unfold rO; omega
    refine J_p 2 (ls' := [_, _, _, _, .ref (b + 261 + 2 * j), _]) rfl ?_
    refine J_brT rfl rfl rfl ?_
    have hF0 : Fm (fun z => z = b + 261 + 2 * j ∨ z = b + 261 + 2 * j + 1) M (sR (sI (sI M (b + 261 + 2 * j) 1 (-1)) (b + 261 + 2 * j) 2 (nI 0)) (b + 261 + 2 * j) 3 none) := ((Fm.sI (W := fun z => z = b + 261 + 2 * j ∨ z = b + 261 + 2 * j + 1) (Or.inl rfl) n7).trans (Fm.sI (Or.inl rfl) n7)).trans (Fm.sR (Or.inl rfl) n7)
    refine J_p 2 (ls' := [_, _, _, _, _, _]) rfl ?_
    refine J_ine rfl (fun y => ?_) (fun y => ?_)
    · refine J_p 3 (ls' := [_, _, _, _, _, _]) rfl ?_
      refine J_call rfl rfl rfl (decide_eq_true hr.1) rfl (c_causeAt hR hA h5 (fun c p n e2 tp pl hc n36 en => ?_) (fun e2 => ?_))
      · show J _ _ _ _ _ _ _
        obtain rfl : P = (nI 1, z_h S j (some (.inr c))) := hP.symm.trans (by simp only [fShow, e1, if_neg y, e2])
        refine J_p 2 (ls' := [_, _, _, _, _, .ref p]) rfl ?_
        refine J_brT rfl rfl rfl ?_
        refine J_p 2 (ls' := [_, _, _, _, _, _]) rfl ?_
        refine J_call rfl rfl rfl (decide_eq_true s1) rfl (J_p 1 (ls' := [_, _]) rfl ?_)
        refine J_call rfl rfl rfl (decide_eq_true s1) rfl (c_holdNothing s1 ?_)
        show J _ _ _ _ _ _ _
        refine J_p 2 (ls' := [_, _]) rfl ?_
        refine J_putR rfl s1 ?_
        refine J_ret rfl rfl rfl ?_
        show J _ _ _ _ _ _ _
        refine J_p 1 (ls' := [_, _, _, _, _, _]) rfl ?_
        have hF1 := hF0.trans (Fm.sR (k := 3) (z := some p) (Or.inl rfl) n7)
        have hpne : p ≠ b + 261 + 2 * j := fun e => by
          rw [e, s1] at tp
          cases tp
        obtain ⟨g1, g2⟩ := hR.shf (v := some (.inr c)) j8 hF1 ⟨rfl, rfl, rfl⟩ (fun k hk => by rw [mR_s0, if_neg hk, mR_s0, if_neg hk]; rfl) (fun k => by rw [mR_s1 _ _ _ (by omega), mR_s1 _ _ _ (by omega)]; rfl) ⟨by rw [mI_sR, mI_sR, mI_s0, if_neg (by decide), mI_s0, if_pos rfl], p, n, by rw [mR_s0, if_pos rfl], tp, pl, by
          unfold CaF at hc ⊢
          rw [mI_sR, mI_sR, mI_s1 _ _ _ hpne, mI_s1 _ _ _ hpne]
          exact hc, n36, en⟩
        exact J_ret rfl rfl rfl (K _ g1 g2)
      · show J _ _ _ _ _ _ _
        refine J_p 2 (ls' := [_, _, _, _, _, .null]) rfl ?_
        refine J_brF rfl rfl rfl ?_
        obtain rfl : P = (rfN 0, z_f S 0) := hP.symm.trans (by simp only [fShow, e1, if_neg y, e2]; rfl)
        refine J_p 2 (ls' := [_, _, _, _, _, _]) rfl ?_
        refine J_call rfl rfl rfl (decide_eq_true hr.1) rfl (c_refuse hR (w := 0) (by omega) (by first | rfl | decide) (fun M1 h1 h2 => ?_))
        show J _ _ _ _ _ _ _
        exact J_ret rfl rfl rfl (K M1 h1 h2)
    · obtain rfl : P = (nI 1, z_h S j none) := hP.symm.trans (by simp only [fShow, e1, if_pos y])
      refine J_p 1 (ls' := [_, _, _, _, _, _]) rfl ?_
      refine J_call rfl rfl rfl (decide_eq_true s1) rfl (c_holdNothing s1 ?_)
      show J _ _ _ _ _ _ _
      refine J_p 1 (ls' := [_, _, _, _, _, _]) rfl ?_
      obtain ⟨g1, g2⟩ := hR.shf (v := none) j8 hF0 ⟨rfl, rfl, rfl⟩ (fun k hk => by rw [mR_s0, if_neg hk]; rfl) (fun k => by rw [mR_s1 _ _ _ (by omega)]; rfl) ⟨by rw [mI_sR, mI_s0, if_neg (by decide), mI_s0, if_pos rfl], by rw [mR_s0, if_pos rfl]⟩
      exact J_ret rfl rfl rfl (K _ g1 g2)
  · show J _ _ _ _ _ _ _
    refine J_p 2 (ls' := [_, _, _, _, .null, _]) rfl ?_
    refine J_brF rfl rfl rfl ?_
    obtain rfl : P = (rfN 0, z_f S 0) := hP.symm.trans (by simp only [fShow, e1]; rfl)
    refine J_p 2 (ls' := [_, _, _, _, _, _]) rfl ?_
    refine J_call rfl rfl rfl (decide_eq_true hr.1) rfl (c_refuse hR (w := 0) (by omega) (by first | rfl | decide) (fun M1 h1 h2 => ?_))
    show J _ _ _ _ _ _ _
    exact J_ret rfl rfl rfl (K M1 h1 h2)

theorem k_says (hR : CR M b S) (hE : STa E M) (hW : WfS T S) (hT : T + 100 < 2 ^ 20) (hV : PrS S) (s kd : Int32) {P : Int32 × St} (hP : fSays S s kd = P) (K : ∀ M' : Mm, Ck b M M' S P.2 → CR M' b P.2 → Q (some (.int P.1)) M') : J E 109 0 [.ref b, .int s, .int kd, U0, U0] [] M Q := by
  have hr := hR.1.1
  obtain ⟨o, F, hS, hC⟩ := hR.2.1
  have hA := hW.1
  have n8 := hC.2.1.2
  have n10 := hC.2.2.1.2
  have n30 := hC.2.2.2.1.2
  have m3 := hC.mc.1
  have hSh : ∀ j, j < 8 → ShS M (b + 261 + 2 * j) := fun j hj => (hR.1.2.2.2.2.1.2.2 j hj).2
  have hv : ∀ j, j < 8 → ShC M (b + 261 + 2 * j) (s_h S j) := hR.2.2.2.2.1
  have R0 : fSays S s kd = rfS S 0 → ∀ v3 : Value, J E 109 21 [.ref b, .int s, .int kd, v3, U0] [] M Q := fun h0 v3 => by
    obtain rfl : P = (rfN 0, z_f S 0) := hP.symm.trans (by exact h0)
    refine J_p 2 (ls' := [_, _, _, _, _]) rfl ?_
    refine J_call rfl rfl rfl (decide_eq_true hr.1) rfl (c_refuse hR (w := 0) (by omega) (by first | rfl | decide) (fun M1 h1 h2 => ?_))
    show J _ _ _ _ _ _ _
    exact J_ret rfl rfl rfl (K M1 h1 h2)
  refine J_p 2 (ls' := [_, _, _, _, _]) rfl ?_
  refine J_call rfl rfl rfl (decide_eq_true hr.1) rfl (c_shelfAt hR (fun j e1 j8 ej => ?_) (fun e1 => ?_))
  · show J _ _ _ _ _ _ _
    obtain ⟨s1, s2, s3, s4⟩ := hSh j j8
    have hvj := hv j j8
    refine J_p 2 (ls' := [_, _, _, .ref (b + 261 + 2 * j), _]) rfl ?_
    refine J_brF rfl rfl rfl ?_
    refine J_p 1 (ls' := [_, _, _, _, _]) rfl ?_
    refine J_getS rfl ?_
    refine J_len rfl (Or.inl hE.1.1) hE.1.2.1 ?_
    refine J_call rfl rfl rfl rfl rfl (c_isBelow (by omega) (fun k e2 k7 ek => ?_) (fun e2 => ?_))
    · show J _ _ _ _ _ _ _
      subst ek
      refine J_zne rfl (fun _ => ?_) (fun y => absurd y (by decide))
      refine J_p 1 (ls' := [_, _, _, _, _]) rfl ?_
      cases e : s_h S j with
      | none =>
        rw [e] at hvj
        obtain ⟨v1, v2⟩ := hvj
        refine J_call rfl rfl rfl (decide_eq_true s1) rfl (c_isRow s1 v1 (fun y => absurd rfl y) (fun _ => ?_))
        show J _ _ _ _ _ _ _
        refine J_zeq rfl (fun _ => ?_) (fun y => absurd rfl y)
        refine J_p 1 (ls' := [_, _, _, _, _]) rfl ?_
        refine J_getN rfl s1 v2 ?_
        refine J_p 2 (ls' := [_, _, _, _, .null]) rfl ?_
        refine J_brF rfl rfl rfl ?_
        obtain rfl : P = (rfN 2, z_f S 2) := hP.symm.trans (by simp only [fSays, e1, e2, e]; rfl)
        refine J_p 2 (ls' := [_, _, _, _, _]) rfl ?_
        refine J_call rfl rfl rfl (decide_eq_true hr.1) rfl (c_refuse hR (w := 2) (by omega) (by first | rfl | decide) (fun M1 h1 h2 => ?_))
        show J _ _ _ _ _ _ _
        exact J_ret rfl rfl rfl (K M1 h1 h2)
      | some w =>
        cases w with
        | inl w =>
          obtain ⟨so, els⟩ := w
          rw [e] at hvj
          obtain ⟨v1, v2, v3, v4, v5, v6⟩ := hvj
          refine J_call rfl rfl rfl (decide_eq_true s1) rfl (c_isRow s1 v3 (fun _ => ?_) (fun y => absurd y (nI_m1 (by omega))))
          show J _ _ _ _ _ _ _
          refine J_zeq rfl (fun y => absurd y (by decide)) (fun _ => ?_)
          obtain rfl : P = (rfN 1, z_f S 1) := hP.symm.trans (by simp only [fSays, e1, e2, e]; rfl)
          refine J_p 2 (ls' := [_, _, _, _, _]) rfl ?_
          refine J_call rfl rfl rfl (decide_eq_true hr.1) rfl (c_refuse hR (w := 1) (by omega) (by first | rfl | decide) (fun M1 h1 h2 => ?_))
          show J _ _ _ _ _ _ _
          exact J_ret rfl rfl rfl (K M1 h1 h2)
        | inr c =>
          rw [e] at hvj
          obtain ⟨v1, p, n, v2, v3, v4, v5, v6, v7⟩ := hvj
          have en : c.1.toInt.toNat = n := by rw [v7, nI_toInt (by omega)]; rfl
          refine J_call rfl rfl rfl (decide_eq_true s1) rfl (c_isRow s1 v1 (fun y => absurd rfl y) (fun _ => ?_))
          show J _ _ _ _ _ _ _
          refine J_zeq rfl (fun _ => ?_) (fun y => absurd rfl y)
          refine J_p 1 (ls' := [_, _, _, _, _]) rfl ?_
          refine J_getR rfl s1 v2 ?_
          refine J_p 2 (ls' := [_, _, _, _, .ref p]) rfl ?_
          refine J_brT rfl rfl rfl ?_
          refine J_p 2 (ls' := [_, _, _, _, _]) rfl ?_
          refine J_call rfl rfl rfl (decide_eq_true v3) rfl (c_isOf hE v3 v5 v6 v7 k7 (fun hu => ?_) (fun hu => ?_))
          · show J _ _ _ _ _ _ _
            obtain rfl : P = (saA c k, S) := hP.symm.trans (by simp only [fSays, e1, e2, e, en, if_pos hu])
            refine J_zeq rfl (fun y => absurd y (by decide)) (fun _ => ?_)
            refine J_p 2 (ls' := [_, _, _, _, _]) rfl ?_
            refine J_call rfl rfl rfl (decide_eq_true v3) rfl (c_toldAs v3 v5 v6 v7 k7 hu ?_)
            show J _ _ _ _ _ _ _
            refine J_p 1 (ls' := [_, _, _, _, _]) rfl ?_
            exact J_ret rfl rfl rfl (K M (Ck.refl b M S) hR)
          · show J _ _ _ _ _ _ _
            have hu' : ¬ udA n k = true := by rw [hu]; decide
            refine J_zeq rfl (fun _ => ?_) (fun y => absurd rfl y)
            obtain rfl : P = (rfN 1, z_f S 1) := hP.symm.trans (by simp only [fSays, e1, e2, e, en, if_neg hu']; rfl)
            refine J_p 2 (ls' := [_, _, _, _, _]) rfl ?_
            refine J_call rfl rfl rfl (decide_eq_true hr.1) rfl (c_refuse hR (w := 1) (by omega) (by first | rfl | decide) (fun M1 h1 h2 => ?_))
            show J _ _ _ _ _ _ _
            exact J_ret rfl rfl rfl (K M1 h1 h2)
    · show J _ _ _ _ _ _ _
      refine J_zne rfl (fun y => absurd rfl y) (fun _ => ?_)
      exact R0 (by simp only [fSays, e1, e2]) _
  · show J _ _ _ _ _ _ _
    refine J_p 2 (ls' := [_, _, _, .null, _]) rfl ?_
    refine J_brT rfl rfl rfl ?_
    exact R0 (by simp only [fSays, e1]) _

theorem k_copy (hR : CR M b S) (hE : STa E M) (hW : WfS T S) (hT : T + 100 < 2 ^ 20) (hV : PrS S) (p q i j n : Int32) {P : Int32 × St} (hP : fCopy S p q i j n = P) (K : ∀ M' : Mm, Ck b M M' S P.2 → CR M' b P.2 → Q (some (.int P.1)) M') : J E 105 0 [.ref b, .int p, .int q, .int i, .int j, .int n, U0, U0] [] M Q := by
  have hr := hR.1.1
  obtain ⟨o, F, hS, hC⟩ := hR.2.1
  have hA := hW.1
  have n8 := hC.2.1.2
  have n10 := hC.2.2.1.2
  have n30 := hC.2.2.2.1.2
  have m3 := hC.mc.1
  have hSh : ∀ j, j < 8 → ShS M (b + 261 + 2 * j) := fun j hj => (hR.1.2.2.2.2.1.2.2 j hj).2
  have hv : ∀ j, j < 8 → ShC M (b + 261 + 2 * j) (s_h S j) := hR.2.2.2.2.1
  have R0 : fCopy S p q i j n = rfS S 0 → ∀ v6 v7 : Value, J E 105 24 [.ref b, .int p, .int q, .int i, .int j, .int n, v6, v7] [] M Q := fun h0 v6 v7 => by
    obtain rfl : P = (rfN 0, z_f S 0) := hP.symm.trans (by exact h0)
    refine J_p 2 (ls' := [_, _, _, _, _, _, _, _]) rfl ?_
    refine J_call rfl rfl rfl (decide_eq_true hr.1) rfl (c_refuse hR (w := 0) (by omega) (by first | rfl | decide) (fun M1 h1 h2 => ?_))
    show J _ _ _ _ _ _ _
    exact J_ret rfl rfl rfl (K M1 h1 h2)
  have R1 : fCopy S p q i j n = rfS S 1 → ∀ v6 v7 : Value, J E 105 47 [.ref b, .int p, .int q, .int i, .int j, .int n, v6, v7] [] M Q := fun h0 v6 v7 => by
    obtain rfl : P = (rfN 1, z_f S 1) := hP.symm.trans (by exact h0)
    refine J_p 2 (ls' := [_, _, _, _, _, _, _, _]) rfl ?_
    refine J_call rfl rfl rfl (decide_eq_true hr.1) rfl (c_refuse hR (w := 1) (by omega) (by first | rfl | decide) (fun M1 h1 h2 => ?_))
    show J _ _ _ _ _ _ _
    exact J_ret rfl rfl rfl (K M1 h1 h2)
  have R1b : fCopy S p q i j n = rfS S 1 → ∀ v6 v7 : Value, J E 105 83 [.ref b, .int p, .int q, .int i, .int j, .int n, v6, v7] [] M Q := fun h0 v6 v7 => by
    obtain rfl : P = (rfN 1, z_f S 1) := hP.symm.trans (by exact h0)
    refine J_p 2 (ls' := [_, _, _, _, _, _, _, _]) rfl ?_
    refine J_call rfl rfl rfl (decide_eq_true hr.1) rfl (c_refuse hR (w := 1) (by omega) (by first | rfl | decide) (fun M1 h1 h2 => ?_))
    show J _ _ _ _ _ _ _
    exact J_ret rfl rfl rfl (K M1 h1 h2)
  have R2 : fCopy S p q i j n = rfS S 2 → ∀ v6 v7 : Value, J E 105 106 [.ref b, .int p, .int q, .int i, .int j, .int n, v6, v7] [] M Q := fun h0 v6 v7 => by
    obtain rfl : P = (rfN 2, z_f S 2) := hP.symm.trans (by exact h0)
    refine J_p 2 (ls' := [_, _, _, _, _, _, _, _]) rfl ?_
    refine J_call rfl rfl rfl (decide_eq_true hr.1) rfl (c_refuse hR (w := 2) (by omega) (by first | rfl | decide) (fun M1 h1 h2 => ?_))
    show J _ _ _ _ _ _ _
    exact J_ret rfl rfl rfl (K M1 h1 h2)
  have R3 : fCopy S p q i j n = rfS S 0 → ∀ v6 v7 : Value, J E 105 136 [.ref b, .int p, .int q, .int i, .int j, .int n, v6, v7] [] M Q := fun h0 v6 v7 => by
    obtain rfl : P = (rfN 0, z_f S 0) := hP.symm.trans (by exact h0)
    refine J_p 2 (ls' := [_, _, _, _, _, _, _, _]) rfl ?_
    refine J_call rfl rfl rfl (decide_eq_true hr.1) rfl (c_refuse hR (w := 0) (by omega) (by first | rfl | decide) (fun M1 h1 h2 => ?_))
    show J _ _ _ _ _ _ _
    exact J_ret rfl rfl rfl (K M1 h1 h2)
  refine J_p 2 (ls' := [_, _, _, _, _, _, _, _]) rfl ?_
  refine J_call rfl rfl rfl (decide_eq_true hr.1) rfl (c_shelfAt hR (fun x e1 x8 ex => ?_) (fun e1 => ?_))
  · show J _ _ _ _ _ _ _
    refine J_p 3 (ls' := [_, _, _, _, _, _, .ref (b + 261 + 2 * x), _]) rfl ?_
    refine J_call rfl rfl rfl (decide_eq_true hr.1) rfl (c_shelfAt hR (fun y e2 y8 ey => ?_) (fun e2 => ?_))
    · show J _ _ _ _ _ _ _
      obtain ⟨s1, s2, s3, s4⟩ := hSh x x8
      obtain ⟨u1, u2, u3, u4⟩ := hSh y y8
      have hvx := hv x x8
      have hvy := hv y y8
      refine J_p 2 (ls' := [_, _, _, _, _, _, _, .ref (b + 261 + 2 * y)]) rfl ?_
      refine J_brF rfl rfl rfl ?_
      refine J_p 1 (ls' := [_, _, _, _, _, _, _, _]) rfl ?_
      refine J_brT rfl rfl rfl ?_
      refine J_p 1 (ls' := [_, _, _, _, _, _, _, _]) rfl ?_
      cases ea : s_h S x with
      | none =>
        rw [ea] at hvx
        obtain ⟨v1, v2⟩ := hvx
        refine J_getN rfl s1 v2 ?_
        refine J_brF rfl rfl rfl ?_
        refine J_p 1 (ls' := [_, _, _, _, _, _, _, _]) rfl ?_
        have G : fCopy S p q i j n = rfS S 2 → J E 105 54 [.ref b, .int p, .int q, .int i, .int j, .int n, .ref (b + 261 + 2 * x), .ref (b + 261 + 2 * y)] [] M Q := fun h0 => by
          refine J_p 1 (ls' := [_, _, _, _, _, _, _, _]) rfl ?_
          refine J_call rfl rfl rfl (decide_eq_true s1) rfl (c_isRow s1 v1 (fun z => absurd rfl z) (fun _ => ?_))
          show J _ _ _ _ _ _ _
          refine J_zeq rfl (fun _ => ?_) (fun z => absurd rfl z)
          refine J_p 1 (ls' := [_, _, _, _, _, _, _, _]) rfl ?_
          refine J_call rfl rfl rfl (decide_eq_true s1) rfl (c_isRow s1 v1 (fun z => absurd rfl z) (fun _ => ?_))
          show J _ _ _ _ _ _ _
          refine J_zeq rfl (fun _ => ?_) (fun z => absurd rfl z)
          exact R2 h0 _ _
        cases eb : s_h S y with
        | none =>
          rw [eb] at hvy
          refine J_getN rfl u1 hvy.2 ?_
          refine J_brT rfl rfl rfl ?_
          exact G (by simp only [fCopy, e1, e2, ea, eb])
        | some w =>
          cases w with
          | inl w =>
            obtain ⟨so, els⟩ := w
            rw [eb] at hvy
            refine J_getN rfl u1 hvy.2.2.2.2.1 ?_
            refine J_brT rfl rfl rfl ?_
            exact G (by simp only [fCopy, e1, e2, ea, eb])
          | inr c =>
            rw [eb] at hvy
            obtain ⟨w1, p', n', w2, _⟩ := hvy
            refine J_getR rfl u1 w2 ?_
            refine J_brF rfl rfl rfl ?_
            exact R1 (by simp only [fCopy, e1, e2, ea, eb]) _ _
      | some w =>
        cases w with
        | inr c =>
          rw [ea] at hvx
          obtain ⟨v1, p', n', v2, _⟩ := hvx
          refine J_getR rfl s1 v2 ?_
          refine J_brT rfl rfl rfl ?_
          exact R1 (by simp only [fCopy, e1, e2, ea]) _ _
        | inl w =>
          obtain ⟨so, els⟩ := w
          rw [ea] at hvx
          obtain ⟨v1, v2, v3, v4, v5, v6⟩ := hvx
          refine J_getN rfl s1 v5 ?_
          refine J_brF rfl rfl rfl ?_
          refine J_p 1 (ls' := [_, _, _, _, _, _, _, _]) rfl ?_
          cases eb : s_h S y with
          | none =>
            rw [eb] at hvy
            obtain ⟨w1, w2⟩ := hvy
            refine J_getN rfl u1 w2 ?_
            refine J_brT rfl rfl rfl ?_
            refine J_p 1 (ls' := [_, _, _, _, _, _, _, _]) rfl ?_
            refine J_call rfl rfl rfl (decide_eq_true s1) rfl (c_isRow s1 v3 (fun _ => ?_) (fun z => absurd z (nI_m1 (by omega))))
            show J _ _ _ _ _ _ _
            refine J_zeq rfl (fun z => absurd z (by decide)) (fun _ => ?_)
            refine J_p 1 (ls' := [_, _, _, _, _, _, _, _]) rfl ?_
            refine J_call rfl rfl rfl (decide_eq_true u1) rfl (c_isRow u1 w1 (fun z => absurd rfl z) (fun _ => ?_))
            show J _ _ _ _ _ _ _
            refine J_zeq rfl (fun _ => ?_) (fun z => absurd rfl z)
            refine J_p 1 (ls' := [_, _, _, _, _, _, _, _]) rfl ?_
            refine J_call rfl rfl rfl (decide_eq_true s1) rfl (c_isRow s1 v3 (fun _ => ?_) (fun z => absurd z (nI_m1 (by omega))))
            show J _ _ _ _ _ _ _
            refine J_zeq rfl (fun z => absurd z (by decide)) (fun _ => ?_)
            refine J_p 1 (ls' := [_, _, _, _, _, _, _, _]) rfl ?_
            refine J_call rfl rfl rfl (decide_eq_true u1) rfl (c_isRow u1 w1 (fun z => absurd rfl z) (fun _ => ?_))
            show J _ _ _ _ _ _ _
            refine J_zne rfl (fun z => absurd rfl z) (fun _ => ?_)
            exact R2 (by simp only [fCopy, e1, e2, ea, eb]) _ _
          | some w =>
            cases w with
            | inr c =>
              rw [eb] at hvy
              obtain ⟨w1, p', n', w2, _⟩ := hvy
              refine J_getR rfl u1 w2 ?_
              refine J_brF rfl rfl rfl ?_
              exact R1 (by simp only [fCopy, e1, e2, ea, eb]) _ _
            | inl w =>
              obtain ⟨so', els'⟩ := w
              rw [eb] at hvy
              obtain ⟨w1, w2, w3, w4, w5, w6⟩ := hvy
              refine J_getN rfl u1 w5 ?_
              refine J_brT rfl rfl rfl ?_
              refine J_p 1 (ls' := [_, _, _, _, _, _, _, _]) rfl ?_
              refine J_call rfl rfl rfl (decide_eq_true s1) rfl (c_isRow s1 v3 (fun _ => ?_) (fun z => absurd z (nI_m1 (by omega))))
              show J _ _ _ _ _ _ _
              refine J_zeq rfl (fun z => absurd z (by decide)) (fun _ => ?_)
              refine J_p 1 (ls' := [_, _, _, _, _, _, _, _]) rfl ?_
              refine J_call rfl rfl rfl (decide_eq_true u1) rfl (c_isRow u1 w3 (fun _ => ?_) (fun z => absurd z (nI_m1 (by omega))))
              show J _ _ _ _ _ _ _
              refine J_zeq rfl (fun z => absurd z (by decide)) (fun _ => ?_)
              refine J_p 1 (ls' := [_, _, _, _, _, _, _, _]) rfl ?_
              refine J_gi rfl s1 v3 ?_
              refine J_p 1 (ls' := [_, _, _, _, _, _, _, _]) rfl ?_
              refine J_gi rfl u1 w3 ?_
              refine J_ieq rfl (fun hs => ?_) (fun hs => ?_)
              · have es : so = so' := (nI_eq (by omega) (by omega)).mp hs
                have eC : fCopy S p q i j n = cpA S y so els els' i j n := by simp only [fCopy, e1, e2, ea, eb, if_pos es]
                refine J_p 1 (ls' := [_, _, _, _, _, _, _, _]) rfl ?_
                refine J_call rfl rfl rfl (decide_eq_true s1) rfl (c_isRow s1 v3 (fun _ => ?_) (fun z => absurd z (nI_m1 (by omega))))
                show J _ _ _ _ _ _ _
                refine J_zeq rfl (fun z => absurd z (by decide)) (fun _ => ?_)
                refine J_p 1 (ls' := [_, _, _, _, _, _, _, _]) rfl ?_
                refine J_call rfl rfl rfl (decide_eq_true u1) rfl (c_isRow u1 w3 (fun _ => ?_) (fun z => absurd z (nI_m1 (by omega))))
                show J _ _ _ _ _ _ _
                refine J_zne rfl (fun _ => ?_) (fun z => absurd z (by decide))
                refine J_p 3 (ls' := [_, _, _, _, _, _, _, _]) rfl ?_
                refine J_call rfl rfl rfl (decide_eq_true s1) rfl (c_hasRun s1 v4 v2 (fun i' n' ei en hle => ?_) (fun hno => ?_))
                · show J _ _ _ _ _ _ _
                  refine J_zeq rfl (fun z => absurd z (by decide)) (fun _ => ?_)
                  refine J_p 3 (ls' := [_, _, _, _, _, _, _, _]) rfl ?_
                  refine J_call rfl rfl rfl (decide_eq_true u1) rfl (c_hasRun u1 w4 w2 (fun j' n2 ej en2 hle2 => ?_) (fun hno => ?_))
                  · show J _ _ _ _ _ _ _
                    have enn : n2 = n' := (nI_eq (by omega) (by omega)).mp (en2.symm.trans en)
                    subst enn
                    have n21 : ¬ rO (mT M (b + 261 + 2 * y + 1)) := by rw [u3]; unfold rO; omega
                    have eP : cpA S y so els els' i j n = (nI n2, z_h S y (some (.inl (so, cpL els els' i' j' n2)))) := by
                      unfold cpA
                      rw [ei, ej, en, ixN_nI (show i' < els.length + 1 by omega) (by omega), ixN_nI (show j' < els'.length + 1 by omega) (by omega), ixN_nI (show n2 < 41 by omega) (by omega)]
                      exact if_pos ⟨hle, hle2⟩
                    obtain rfl : P = (nI n2, z_h S y (some (.inl (so, cpL els els' i' j' n2)))) := hP.symm.trans (eC.trans eP)
                    subst ei ej en
                    refine J_zne rfl (fun _ => ?_) (fun z => absurd z (by decide))
                    refine J_p 1 (ls' := [_, _, _, _, _, _, _, _]) rfl ?_
                    refine J_getR rfl s1 s2 ?_
                    refine J_p 2 (ls' := [_, _, _, _, _, _, _, _]) rfl ?_
                    refine J_getR rfl u1 u2 ?_
                    refine J_p 2 (ls' := [_, _, _, _, _, _, _, _]) rfl ?_
                    refine J_cpL (n := n2) (sp := i') (dp := j') rfl rfl rfl rfl s3 u3 (by rw [s4]; omega) (by rw [u4]; omega) (by rw [s4]; omega) (by rw [u4]; omega) rfl ?_
                    refine J_p 1 (ls' := [_, _, _, _, _, _, _, _]) rfl ?_
                    obtain ⟨g1, g2⟩ := hR.shf (M' := cL M (b + 261 + 2 * x + 1) i' (b + 261 + 2 * y + 1) j' n2) (v := some (.inl (so, cpL els els' i' j' n2))) y8 (Fm.cL (Or.inr rfl) n21) ⟨rfl, rfl, rfl⟩ (fun _ _ => rfl) (fun _ => rfl) ⟨v1, by rw [cpL_len]; exact w2, by rw [es]; exact w3, by rw [cpL_len]; exact w4, w5, fun k z hz => by
                      obtain ⟨z1, z2⟩ := cpL_get hz
                      rw [mL_cL, z2]
                      by_cases c : j' ≤ k ∧ k < j' + n2
                      · rw [if_pos c, if_pos c]
                        obtain ⟨r, hr2⟩ := get_of (l := els) (i := i' + (k - j')) (by omega)
                        rw [v6 _ r hr2]
                        exact (getD_of hr2).symm
                      · rw [if_neg c, if_neg c]
                        obtain ⟨r, hr2⟩ := get_of z1
                        rw [w6 _ r hr2]
                        exact (getD_of hr2).symm⟩
                    exact J_ret rfl rfl rfl (K _ g1 g2)
                  · show J _ _ _ _ _ _ _
                    refine J_zne rfl (fun z => absurd rfl z) (fun _ => ?_)
                    refine R3 (eC.trans (cpA_no (fun i2 j2 n2 f1 f2 f3 f4 => ?_))) _ _
                    obtain ⟨_, q2, _⟩ := ixN_some f3
                    exact hno j2 n2 f2 (by rw [q2]; exact ixN_nI (by omega) (by omega)) f4.2
                · show J _ _ _ _ _ _ _
                  refine J_zeq rfl (fun _ => ?_) (fun z => absurd rfl z)
                  refine R3 (eC.trans (cpA_no (fun i2 j2 n2 f1 f2 f3 f4 => ?_))) _ _
                  obtain ⟨_, q2, _⟩ := ixN_some f3
                  exact hno i2 n2 f1 (by rw [q2]; exact ixN_nI (by omega) (by omega)) f4.1
              · have es : ¬ so = so' := fun e => hs (by rw [e])
                exact R1b (by simp only [fCopy, e1, e2, ea, eb, if_neg es]) _ _
    · show J _ _ _ _ _ _ _
      refine J_p 2 (ls' := [_, _, _, _, _, _, _, .null]) rfl ?_
      refine J_brF rfl rfl rfl ?_
      refine J_p 1 (ls' := [_, _, _, _, _, _, _, _]) rfl ?_
      refine J_brF rfl rfl rfl ?_
      exact R0 (by simp only [fCopy, e1, e2]) _ _
  · show J _ _ _ _ _ _ _
    have G : ∀ v7 : Value, J E 105 14 [.ref b, .int p, .int q, .int i, .int j, .int n, .null, v7] [] M Q := fun v7 => by
      refine J_p 1 (ls' := [_, _, _, _, _, _, _, _]) rfl ?_
      refine J_brT rfl rfl rfl ?_
      exact R0 (by simp only [fCopy, e1]) _ _
    refine J_p 3 (ls' := [_, _, _, _, _, _, .null, _]) rfl ?_
    refine J_call rfl rfl rfl (decide_eq_true hr.1) rfl (c_shelfAt hR (fun y e2 y8 ey => ?_) (fun e2 => ?_))
    · show J _ _ _ _ _ _ _
      refine J_p 1 (ls' := [_, _, _, _, _, _, _, .ref (b + 261 + 2 * y)]) rfl ?_
      exact G _
    · show J _ _ _ _ _ _ _
      refine J_p 1 (ls' := [_, _, _, _, _, _, _, .null]) rfl ?_
      exact G _

end COMP48