/-! THE LAW: calls. -/
section LAWC
variable {E : Nat × Nat} {b s0 L N0 U0' T k i : Nat} {sc : Nat → Int32} {M M1 M2 : Mm} {S S' : St} {Q : Option Value → Mm → Prop}

set_option maxRecDepth 40000 in
theorem law_30 (h : LI E b s0 L sc N0 U0' T k M S) (hi : i + 6 ≤ L) (hL : L ≤ 3072) (hT : T + 100 < 2 ^ 20) (K : ∀ (M2 : Mm) (S2 : St), LI E b s0 L sc N0 U0' (T + 99) (k + 1) M2 S2 → J E 254 1604 [.ref s0, .ref b, .ref (b + 277), .int (nI i)] [] M2 Q) : J E 254 1209 [.ref s0, .ref b, .ref (b + 277), .int (nI i)] [] M Q := by
  obtain ⟨hR, hRR, hE, hW, hV, hA, ⟨c1, c2, c3, c4⟩, hB⟩ := h
  refine J_p 5 (ls' := [_, _, _, _]) rfl ?_
  refine J_ia (n := i + 1) (L := L) rfl (nI_add i 1) (Or.inr c1) c2 (by omega) (by omega) (congrFun c4 (i + 1)) ?_
  refine J_p 4 (ls' := [_, _, _, _]) rfl ?_
  refine J_ia (n := i + 2) (L := L) rfl (nI_add i 2) (Or.inr c1) c2 (by omega) (by omega) (congrFun c4 (i + 2)) ?_
  refine J_p 4 (ls' := [_, _, _, _]) rfl ?_
  refine J_ia (n := i + 3) (L := L) rfl (nI_add i 3) (Or.inr c1) c2 (by omega) (by omega) (congrFun c4 (i + 3)) ?_
  refine J_call rfl rfl rfl (decide_eq_true hR.1.1.1) rfl (k_cause hR hE hW hT hV (fun i d hd => (hRR.a.2.2.2.1.2.2 i d hd).1) (sc (i + 1)) (sc (i + 2)) (sc (i + 3)) rfl (fun M1 hk1 hR1 => ?_))
  show J _ _ _ _ _ _ _
  obtain ⟨hRR1, hE1, d1, d2, d3, d4⟩ := LI.mid hR hRR hE ⟨c1, c2, c3, c4⟩ hk1.1
  refine J_p 5 (ls' := [_, _, _, _]) rfl ?_
  refine J_ia (n := i + 1) (L := L) rfl (nI_add i 1) (Or.inr d1) d2 (by omega) (by omega) (congrFun d4 (i + 1)) ?_
  refine J_p 4 (ls' := [_, _, _, _]) rfl ?_
  refine J_ia (n := i + 2) (L := L) rfl (nI_add i 2) (Or.inr d1) d2 (by omega) (by omega) (congrFun d4 (i + 2)) ?_
  refine J_p 4 (ls' := [_, _, _, _]) rfl ?_
  refine J_ia (n := i + 3) (L := L) rfl (nI_add i 3) (Or.inr d1) d2 (by omega) (by omega) (congrFun d4 (i + 3)) ?_
  refine J_call rfl rfl rfl (decide_eq_true hRR1.1.1) rfl (r_cause hRR1 hW hT (sc (i + 1)) (sc (i + 2)) (sc (i + 3)) (fun M2 hF hRR2 hW2 => ?_))
  show J _ _ _ _ _ _ _
  obtain ⟨v1, v2⟩ := iv_lift (f := fun A => fCause A (sc (i + 1)) (sc (i + 2)) (sc (i + 3))) (iv_same hA.1 (sm_cause (sc (i + 1)) (sc (i + 2)) (sc (i + 3)))) hV hA
  have hfin := LI.fin hR hk1 hR1 hRR1 hE1 ⟨d1, d2, d3, d4⟩ hF hRR2 hW2 v1 v2 hB
  exact J_ieq rfl (fun _ => K M2 _ hfin) (fun y => absurd rfl y)

set_option maxRecDepth 40000 in
theorem law_31 (h : LI E b s0 L sc N0 U0' T k M S) (hi : i + 6 ≤ L) (hL : L ≤ 3072) (hT : T + 100 < 2 ^ 20) (K : ∀ (M2 : Mm) (S2 : St), LI E b s0 L sc N0 U0' (T + 99) (k + 1) M2 S2 → J E 254 1604 [.ref s0, .ref b, .ref (b + 277), .int (nI i)] [] M2 Q) : J E 254 1252 [.ref s0, .ref b, .ref (b + 277), .int (nI i)] [] M Q := by
  obtain ⟨hR, hRR, hE, hW, hV, hA, ⟨c1, c2, c3, c4⟩, hB⟩ := h
  refine J_p 1 (ls' := [_, _, _, _]) rfl ?_
  refine J_call rfl rfl rfl (decide_eq_true hR.1.1.1) rfl (k_fits hR hE hW hT hV  rfl (fun M1 hk1 hR1 => ?_))
  show J _ _ _ _ _ _ _
  obtain ⟨hRR1, hE1, d1, d2, d3, d4⟩ := LI.mid hR hRR hE ⟨c1, c2, c3, c4⟩ hk1.1
  refine J_p 1 (ls' := [_, _, _, _]) rfl ?_
  refine J_call rfl rfl rfl (decide_eq_true hRR1.1.1) rfl (r_fits hRR1 hW hT  (fun M2 hF hRR2 hW2 => ?_))
  show J _ _ _ _ _ _ _
  obtain ⟨v1, v2⟩ := iv_lift (f := fun A => fFits A ) (iv_same hA.1 (sm_fits )) hV hA
  have hfin := LI.fin hR hk1 hR1 hRR1 hE1 ⟨d1, d2, d3, d4⟩ hF hRR2 hW2 v1 v2 hB
  exact J_ieq rfl (fun _ => K M2 _ hfin) (fun y => absurd rfl y)

set_option maxRecDepth 40000 in
theorem law_32 (h : LI E b s0 L sc N0 U0' T k M S) (hi : i + 6 ≤ L) (hL : L ≤ 3072) (hT : T + 100 < 2 ^ 20) (K : ∀ (M2 : Mm) (S2 : St), LI E b s0 L sc N0 U0' (T + 99) (k + 1) M2 S2 → J E 254 1604 [.ref s0, .ref b, .ref (b + 277), .int (nI i)] [] M2 Q) : J E 254 1265 [.ref s0, .ref b, .ref (b + 277), .int (nI i)] [] M Q := by
  obtain ⟨hR, hRR, hE, hW, hV, hA, ⟨c1, c2, c3, c4⟩, hB⟩ := h
  refine J_p 5 (ls' := [_, _, _, _]) rfl ?_
  refine J_ia (n := i + 1) (L := L) rfl (nI_add i 1) (Or.inr c1) c2 (by omega) (by omega) (congrFun c4 (i + 1)) ?_
  refine J_p 4 (ls' := [_, _, _, _]) rfl ?_
  refine J_ia (n := i + 2) (L := L) rfl (nI_add i 2) (Or.inr c1) c2 (by omega) (by omega) (congrFun c4 (i + 2)) ?_
  refine J_call rfl rfl rfl (decide_eq_true hR.1.1.1) rfl (k_covers hR hE hW hT hV (sc (i + 1)) (sc (i + 2)) rfl (fun M1 hk1 hR1 => ?_))
  show J _ _ _ _ _ _ _
  obtain ⟨hRR1, hE1, d1, d2, d3, d4⟩ := LI.mid hR hRR hE ⟨c1, c2, c3, c4⟩ hk1.1
  refine J_p 5 (ls' := [_, _, _, _]) rfl ?_
  refine J_ia (n := i + 1) (L := L) rfl (nI_add i 1) (Or.inr d1) d2 (by omega) (by omega) (congrFun d4 (i + 1)) ?_
  refine J_p 4 (ls' := [_, _, _, _]) rfl ?_
  refine J_ia (n := i + 2) (L := L) rfl (nI_add i 2) (Or.inr d1) d2 (by omega) (by omega) (congrFun d4 (i + 2)) ?_
  refine J_call rfl rfl rfl (decide_eq_true hRR1.1.1) rfl (r_covers hRR1 hW hT (sc (i + 1)) (sc (i + 2)) (fun M2 hF hRR2 hW2 => ?_))
  show J _ _ _ _ _ _ _
  obtain ⟨v1, v2⟩ := iv_lift (f := fun A => fCovers A (sc (i + 1)) (sc (i + 2))) (iv_same hA.1 (sm_covers (sc (i + 1)) (sc (i + 2)))) hV hA
  have hfin := LI.fin hR hk1 hR1 hRR1 hE1 ⟨d1, d2, d3, d4⟩ hF hRR2 hW2 v1 v2 hB
  exact J_ieq rfl (fun _ => K M2 _ hfin) (fun y => absurd rfl y)

set_option maxRecDepth 40000 in
theorem law_33 (h : LI E b s0 L sc N0 U0' T k M S) (hi : i + 6 ≤ L) (hL : L ≤ 3072) (hT : T + 100 < 2 ^ 20) (K : ∀ (M2 : Mm) (S2 : St), LI E b s0 L sc N0 U0' (T + 99) (k + 1) M2 S2 → J E 254 1604 [.ref s0, .ref b, .ref (b + 277), .int (nI i)] [] M2 Q) : J E 254 1298 [.ref s0, .ref b, .ref (b + 277), .int (nI i)] [] M Q := by
  obtain ⟨hR, hRR, hE, hW, hV, hA, ⟨c1, c2, c3, c4⟩, hB⟩ := h
  refine J_p 5 (ls' := [_, _, _, _]) rfl ?_
  refine J_ia (n := i + 1) (L := L) rfl (nI_add i 1) (Or.inr c1) c2 (by omega) (by omega) (congrFun c4 (i + 1)) ?_
  refine J_p 4 (ls' := [_, _, _, _]) rfl ?_
  refine J_ia (n := i + 2) (L := L) rfl (nI_add i 2) (Or.inr c1) c2 (by omega) (by omega) (congrFun c4 (i + 2)) ?_
  refine J_call rfl rfl rfl (decide_eq_true hR.1.1.1) rfl (k_pattern hR hE hW hT hV (sc (i + 1)) (sc (i + 2)) rfl (fun M1 hk1 hR1 => ?_))
  show J _ _ _ _ _ _ _
  obtain ⟨hRR1, hE1, d1, d2, d3, d4⟩ := LI.mid hR hRR hE ⟨c1, c2, c3, c4⟩ hk1.1
  refine J_p 5 (ls' := [_, _, _, _]) rfl ?_
  refine J_ia (n := i + 1) (L := L) rfl (nI_add i 1) (Or.inr d1) d2 (by omega) (by omega) (congrFun d4 (i + 1)) ?_
  refine J_p 4 (ls' := [_, _, _, _]) rfl ?_
  refine J_ia (n := i + 2) (L := L) rfl (nI_add i 2) (Or.inr d1) d2 (by omega) (by omega) (congrFun d4 (i + 2)) ?_
  refine J_call rfl rfl rfl (decide_eq_true hRR1.1.1) rfl (r_pattern hRR1 hW hT (sc (i + 1)) (sc (i + 2)) (fun M2 hF hRR2 hW2 => ?_))
  show J _ _ _ _ _ _ _
  obtain ⟨v1, v2⟩ := iv_lift (f := fun A => fPattern A (sc (i + 1)) (sc (i + 2))) (iv_same hA.1 (sm_pattern (sc (i + 1)) (sc (i + 2)))) hV hA
  have hfin := LI.fin hR hk1 hR1 hRR1 hE1 ⟨d1, d2, d3, d4⟩ hF hRR2 hW2 v1 v2 hB
  exact J_ieq rfl (fun _ => K M2 _ hfin) (fun y => absurd rfl y)

set_option maxRecDepth 40000 in
theorem law_34 (h : LI E b s0 L sc N0 U0' T k M S) (hi : i + 6 ≤ L) (hL : L ≤ 3072) (hT : T + 100 < 2 ^ 20) (K : ∀ (M2 : Mm) (S2 : St), LI E b s0 L sc N0 U0' (T + 99) (k + 1) M2 S2 → J E 254 1604 [.ref s0, .ref b, .ref (b + 277), .int (nI i)] [] M2 Q) : J E 254 1331 [.ref s0, .ref b, .ref (b + 277), .int (nI i)] [] M Q := by
  obtain ⟨hR, hRR, hE, hW, hV, hA, ⟨c1, c2, c3, c4⟩, hB⟩ := h
  refine J_p 5 (ls' := [_, _, _, _]) rfl ?_
  refine J_ia (n := i + 1) (L := L) rfl (nI_add i 1) (Or.inr c1) c2 (by omega) (by omega) (congrFun c4 (i + 1)) ?_
  refine J_p 4 (ls' := [_, _, _, _]) rfl ?_
  refine J_ia (n := i + 2) (L := L) rfl (nI_add i 2) (Or.inr c1) c2 (by omega) (by omega) (congrFun c4 (i + 2)) ?_
  refine J_call rfl rfl rfl (decide_eq_true hR.1.1.1) rfl (k_next hR hE hW hT hV (sc (i + 1)) (sc (i + 2)) rfl (fun M1 hk1 hR1 => ?_))
  show J _ _ _ _ _ _ _
  obtain ⟨hRR1, hE1, d1, d2, d3, d4⟩ := LI.mid hR hRR hE ⟨c1, c2, c3, c4⟩ hk1.1
  refine J_p 5 (ls' := [_, _, _, _]) rfl ?_
  refine J_ia (n := i + 1) (L := L) rfl (nI_add i 1) (Or.inr d1) d2 (by omega) (by omega) (congrFun d4 (i + 1)) ?_
  refine J_p 4 (ls' := [_, _, _, _]) rfl ?_
  refine J_ia (n := i + 2) (L := L) rfl (nI_add i 2) (Or.inr d1) d2 (by omega) (by omega) (congrFun d4 (i + 2)) ?_
  refine J_call rfl rfl rfl (decide_eq_true hRR1.1.1) rfl (r_next hRR1 hW hT (sc (i + 1)) (sc (i + 2)) (fun M2 hF hRR2 hW2 => ?_))
  show J _ _ _ _ _ _ _
  obtain ⟨v1, v2⟩ := iv_lift (f := fun A => fNext A (sc (i + 1)) (sc (i + 2))) (iv_same hA.1 (sm_next (sc (i + 1)) (sc (i + 2)))) hV hA
  have hfin := LI.fin hR hk1 hR1 hRR1 hE1 ⟨d1, d2, d3, d4⟩ hF hRR2 hW2 v1 v2 hB
  exact J_ieq rfl (fun _ => K M2 _ hfin) (fun y => absurd rfl y)

set_option maxRecDepth 40000 in
theorem law_35 (h : LI E b s0 L sc N0 U0' T k M S) (hi : i + 6 ≤ L) (hL : L ≤ 3072) (hT : T + 100 < 2 ^ 20) (K : ∀ (M2 : Mm) (S2 : St), LI E b s0 L sc N0 U0' (T + 99) (k + 1) M2 S2 → J E 254 1604 [.ref s0, .ref b, .ref (b + 277), .int (nI i)] [] M2 Q) : J E 254 1364 [.ref s0, .ref b, .ref (b + 277), .int (nI i)] [] M Q := by
  obtain ⟨hR, hRR, hE, hW, hV, hA, ⟨c1, c2, c3, c4⟩, hB⟩ := h
  refine J_p 5 (ls' := [_, _, _, _]) rfl ?_
  refine J_ia (n := i + 1) (L := L) rfl (nI_add i 1) (Or.inr c1) c2 (by omega) (by omega) (congrFun c4 (i + 1)) ?_
  refine J_call rfl rfl rfl (decide_eq_true hR.1.1.1) rfl (k_blocked hR hE hW hT hV (sc (i + 1)) rfl (fun M1 hk1 hR1 => ?_))
  show J _ _ _ _ _ _ _
  obtain ⟨hRR1, hE1, d1, d2, d3, d4⟩ := LI.mid hR hRR hE ⟨c1, c2, c3, c4⟩ hk1.1
  refine J_p 5 (ls' := [_, _, _, _]) rfl ?_
  refine J_ia (n := i + 1) (L := L) rfl (nI_add i 1) (Or.inr d1) d2 (by omega) (by omega) (congrFun d4 (i + 1)) ?_
  refine J_call rfl rfl rfl (decide_eq_true hRR1.1.1) rfl (r_blocked hRR1 hW hT (sc (i + 1)) (fun M2 hF hRR2 hW2 => ?_))
  show J _ _ _ _ _ _ _
  obtain ⟨v1, v2⟩ := iv_lift (f := fun A => fBlocked A (sc (i + 1))) (iv_same hA.1 (sm_blocked (sc (i + 1)))) hV hA
  have hfin := LI.fin hR hk1 hR1 hRR1 hE1 ⟨d1, d2, d3, d4⟩ hF hRR2 hW2 v1 v2 hB
  exact J_ieq rfl (fun _ => K M2 _ hfin) (fun y => absurd rfl y)

set_option maxRecDepth 40000 in
theorem law_36 (h : LI E b s0 L sc N0 U0' T k M S) (hi : i + 6 ≤ L) (hL : L ≤ 3072) (hT : T + 100 < 2 ^ 20) (K : ∀ (M2 : Mm) (S2 : St), LI E b s0 L sc N0 U0' (T + 99) (k + 1) M2 S2 → J E 254 1604 [.ref s0, .ref b, .ref (b + 277), .int (nI i)] [] M2 Q) : J E 254 1387 [.ref s0, .ref b, .ref (b + 277), .int (nI i)] [] M Q := by
  obtain ⟨hR, hRR, hE, hW, hV, hA, ⟨c1, c2, c3, c4⟩, hB⟩ := h
  refine J_p 5 (ls' := [_, _, _, _]) rfl ?_
  refine J_ia (n := i + 1) (L := L) rfl (nI_add i 1) (Or.inr c1) c2 (by omega) (by omega) (congrFun c4 (i + 1)) ?_
  refine J_p 4 (ls' := [_, _, _, _]) rfl ?_
  refine J_ia (n := i + 2) (L := L) rfl (nI_add i 2) (Or.inr c1) c2 (by omega) (by omega) (congrFun c4 (i + 2)) ?_
  refine J_call rfl rfl rfl (decide_eq_true hR.1.1.1) rfl (k_drained hR hE hW hT hV (sc (i + 1)) (sc (i + 2)) rfl (fun M1 hk1 hR1 => ?_))
  show J _ _ _ _ _ _ _
  obtain ⟨hRR1, hE1, d1, d2, d3, d4⟩ := LI.mid hR hRR hE ⟨c1, c2, c3, c4⟩ hk1.1
  refine J_p 5 (ls' := [_, _, _, _]) rfl ?_
  refine J_ia (n := i + 1) (L := L) rfl (nI_add i 1) (Or.inr d1) d2 (by omega) (by omega) (congrFun d4 (i + 1)) ?_
  refine J_p 4 (ls' := [_, _, _, _]) rfl ?_
  refine J_ia (n := i + 2) (L := L) rfl (nI_add i 2) (Or.inr d1) d2 (by omega) (by omega) (congrFun d4 (i + 2)) ?_
  refine J_call rfl rfl rfl (decide_eq_true hRR1.1.1) rfl (r_drained hRR1 hW hT (sc (i + 1)) (sc (i + 2)) (fun M2 hF hRR2 hW2 => ?_))
  show J _ _ _ _ _ _ _
  obtain ⟨v1, v2⟩ := iv_lift (f := fun A => fDrained A (sc (i + 1)) (sc (i + 2))) (iv_same hA.1 (sm_drained (sc (i + 1)) (sc (i + 2)))) hV hA
  have hfin := LI.fin hR hk1 hR1 hRR1 hE1 ⟨d1, d2, d3, d4⟩ hF hRR2 hW2 v1 v2 hB
  exact J_ieq rfl (fun _ => K M2 _ hfin) (fun y => absurd rfl y)

set_option maxRecDepth 40000 in
theorem law_37 (h : LI E b s0 L sc N0 U0' T k M S) (hi : i + 6 ≤ L) (hL : L ≤ 3072) (hT : T + 100 < 2 ^ 20) (K : ∀ (M2 : Mm) (S2 : St), LI E b s0 L sc N0 U0' (T + 99) (k + 1) M2 S2 → J E 254 1604 [.ref s0, .ref b, .ref (b + 277), .int (nI i)] [] M2 Q) : J E 254 1420 [.ref s0, .ref b, .ref (b + 277), .int (nI i)] [] M Q := by
  obtain ⟨hR, hRR, hE, hW, hV, hA, ⟨c1, c2, c3, c4⟩, hB⟩ := h
  refine J_p 5 (ls' := [_, _, _, _]) rfl ?_
  refine J_ia (n := i + 1) (L := L) rfl (nI_add i 1) (Or.inr c1) c2 (by omega) (by omega) (congrFun c4 (i + 1)) ?_
  refine J_call rfl rfl rfl (decide_eq_true hR.1.1.1) rfl (k_until hR hE hW hT hV hA.1 (sc (i + 1)) rfl (fun M1 hk1 hR1 => ?_))
  show J _ _ _ _ _ _ _
  obtain ⟨hRR1, hE1, d1, d2, d3, d4⟩ := LI.mid hR hRR hE ⟨c1, c2, c3, c4⟩ hk1.1
  refine J_p 5 (ls' := [_, _, _, _]) rfl ?_
  refine J_ia (n := i + 1) (L := L) rfl (nI_add i 1) (Or.inr d1) d2 (by omega) (by omega) (congrFun d4 (i + 1)) ?_
  refine J_call rfl rfl rfl (decide_eq_true hRR1.1.1) rfl (r_until hRR1 hW hT (sc (i + 1)) (fun M2 hF hRR2 hW2 => ?_))
  show J _ _ _ _ _ _ _
  obtain ⟨v1, v2⟩ := iv_lift (f := fun A => fUntil A (sc (i + 1))) (iv_same hA.1 (sm_until (sc (i + 1)))) hV hA
  have hfin := LI.fin hR hk1 hR1 hRR1 hE1 ⟨d1, d2, d3, d4⟩ hF hRR2 hW2 v1 v2 hB
  exact J_ieq rfl (fun _ => K M2 _ hfin) (fun y => absurd rfl y)

set_option maxRecDepth 40000 in
theorem law_38 (h : LI E b s0 L sc N0 U0' T k M S) (hi : i + 6 ≤ L) (hL : L ≤ 3072) (hT : T + 100 < 2 ^ 20) (K : ∀ (M2 : Mm) (S2 : St), LI E b s0 L sc N0 U0' (T + 99) (k + 1) M2 S2 → J E 254 1604 [.ref s0, .ref b, .ref (b + 277), .int (nI i)] [] M2 Q) : J E 254 1443 [.ref s0, .ref b, .ref (b + 277), .int (nI i)] [] M Q := by
  obtain ⟨hR, hRR, hE, hW, hV, hA, ⟨c1, c2, c3, c4⟩, hB⟩ := h
  refine J_p 5 (ls' := [_, _, _, _]) rfl ?_
  refine J_ia (n := i + 1) (L := L) rfl (nI_add i 1) (Or.inr c1) c2 (by omega) (by omega) (congrFun c4 (i + 1)) ?_
  refine J_call rfl rfl rfl (decide_eq_true hR.1.1.1) rfl (k_doomed hR hE hW hT hV hA.1 (sc (i + 1)) rfl (fun M1 hk1 hR1 => ?_))
  show J _ _ _ _ _ _ _
  obtain ⟨hRR1, hE1, d1, d2, d3, d4⟩ := LI.mid hR hRR hE ⟨c1, c2, c3, c4⟩ hk1.1
  refine J_p 5 (ls' := [_, _, _, _]) rfl ?_
  refine J_ia (n := i + 1) (L := L) rfl (nI_add i 1) (Or.inr d1) d2 (by omega) (by omega) (congrFun d4 (i + 1)) ?_
  refine J_call rfl rfl rfl (decide_eq_true hRR1.1.1) rfl (r_doomed hRR1 hW hT (sc (i + 1)) (fun M2 hF hRR2 hW2 => ?_))
  show J _ _ _ _ _ _ _
  obtain ⟨v1, v2⟩ := iv_lift (f := fun A => fDoomed A (sc (i + 1))) (iv_same hA.1 (sm_doomed (sc (i + 1)))) hV hA
  have hfin := LI.fin hR hk1 hR1 hRR1 hE1 ⟨d1, d2, d3, d4⟩ hF hRR2 hW2 v1 v2 hB
  exact J_ieq rfl (fun _ => K M2 _ hfin) (fun y => absurd rfl y)

set_option maxRecDepth 40000 in
theorem law_39 (h : LI E b s0 L sc N0 U0' T k M S) (hi : i + 6 ≤ L) (hL : L ≤ 3072) (hT : T + 100 < 2 ^ 20) (K : ∀ (M2 : Mm) (S2 : St), LI E b s0 L sc N0 U0' (T + 99) (k + 1) M2 S2 → J E 254 1604 [.ref s0, .ref b, .ref (b + 277), .int (nI i)] [] M2 Q) : J E 254 1466 [.ref s0, .ref b, .ref (b + 277), .int (nI i)] [] M Q := by
  obtain ⟨hR, hRR, hE, hW, hV, hA, ⟨c1, c2, c3, c4⟩, hB⟩ := h
  refine J_p 5 (ls' := [_, _, _, _]) rfl ?_
  refine J_ia (n := i + 1) (L := L) rfl (nI_add i 1) (Or.inr c1) c2 (by omega) (by omega) (congrFun c4 (i + 1)) ?_
  refine J_p 4 (ls' := [_, _, _, _]) rfl ?_
  refine J_ia (n := i + 2) (L := L) rfl (nI_add i 2) (Or.inr c1) c2 (by omega) (by omega) (congrFun c4 (i + 2)) ?_
  refine J_p 4 (ls' := [_, _, _, _]) rfl ?_
  refine J_ia (n := i + 3) (L := L) rfl (nI_add i 3) (Or.inr c1) c2 (by omega) (by omega) (congrFun c4 (i + 3)) ?_
  refine J_call rfl rfl rfl (decide_eq_true hR.1.1.1) rfl (k_judge hR hE hW hT hV (sc (i + 1)) (sc (i + 2)) (sc (i + 3)) rfl (fun M1 hk1 hR1 => ?_))
  show J _ _ _ _ _ _ _
  obtain ⟨hRR1, hE1, d1, d2, d3, d4⟩ := LI.mid hR hRR hE ⟨c1, c2, c3, c4⟩ hk1.1
  refine J_p 5 (ls' := [_, _, _, _]) rfl ?_
  refine J_ia (n := i + 1) (L := L) rfl (nI_add i 1) (Or.inr d1) d2 (by omega) (by omega) (congrFun d4 (i + 1)) ?_
  refine J_p 4 (ls' := [_, _, _, _]) rfl ?_
  refine J_ia (n := i + 2) (L := L) rfl (nI_add i 2) (Or.inr d1) d2 (by omega) (by omega) (congrFun d4 (i + 2)) ?_
  refine J_p 4 (ls' := [_, _, _, _]) rfl ?_
  refine J_ia (n := i + 3) (L := L) rfl (nI_add i 3) (Or.inr d1) d2 (by omega) (by omega) (congrFun d4 (i + 3)) ?_
  refine J_call rfl rfl rfl (decide_eq_true hRR1.1.1) rfl (s_judge hRR1 hW hT (sc (i + 1)) (sc (i + 2)) (sc (i + 3)) (fun M2 hF hRR2 hW2 => ?_))
  show J _ _ _ _ _ _ _
  obtain ⟨v1, v2⟩ := ivr_judge (sc (i + 1)) (sc (i + 2)) (sc (i + 3)) hV hA
  have hfin := LI.fin hR hk1 hR1 hRR1 hE1 ⟨d1, d2, d3, d4⟩ hF hRR2 hW2 v1 v2 hB
  exact J_ieq rfl (fun _ => K M2 _ hfin) (fun y => absurd rfl y)

set_option maxRecDepth 40000 in
theorem law_40 (h : LI E b s0 L sc N0 U0' T k M S) (hi : i + 6 ≤ L) (hL : L ≤ 3072) (hT : T + 100 < 2 ^ 20) (K : ∀ (M2 : Mm) (S2 : St), LI E b s0 L sc N0 U0' (T + 99) (k + 1) M2 S2 → J E 254 1604 [.ref s0, .ref b, .ref (b + 277), .int (nI i)] [] M2 Q) : J E 254 1509 [.ref s0, .ref b, .ref (b + 277), .int (nI i)] [] M Q := by
  obtain ⟨hR, hRR, hE, hW, hV, hA, ⟨c1, c2, c3, c4⟩, hB⟩ := h
  refine J_p 5 (ls' := [_, _, _, _]) rfl ?_
  refine J_ia (n := i + 1) (L := L) rfl (nI_add i 1) (Or.inr c1) c2 (by omega) (by omega) (congrFun c4 (i + 1)) ?_
  refine J_call rfl rfl rfl (decide_eq_true hR.1.1.1) rfl (k_days hR hE hW hT hV (sc (i + 1)) rfl (fun M1 hk1 hR1 => ?_))
  show J _ _ _ _ _ _ _
  obtain ⟨hRR1, hE1, d1, d2, d3, d4⟩ := LI.mid hR hRR hE ⟨c1, c2, c3, c4⟩ hk1.1
  refine J_p 5 (ls' := [_, _, _, _]) rfl ?_
  refine J_ia (n := i + 1) (L := L) rfl (nI_add i 1) (Or.inr d1) d2 (by omega) (by omega) (congrFun d4 (i + 1)) ?_
  refine J_call rfl rfl rfl (decide_eq_true hRR1.1.1) rfl (r_days hRR1 hW hT hA.1 (sc (i + 1)) (fun M2 hF hRR2 hW2 => ?_))
  show J _ _ _ _ _ _ _
  obtain ⟨v1, v2⟩ := iv_lift (f := fun A => fDays A (sc (i + 1))) (iv_days hW.1 hT hRR.a.2.2.2.2.2.2.1.1 hA.1 (sc (i + 1))) hV hA
  have hfin := LI.fin hR hk1 hR1 hRR1 hE1 ⟨d1, d2, d3, d4⟩ hF hRR2 hW2 v1 v2 hB
  exact J_ieq rfl (fun _ => K M2 _ hfin) (fun y => absurd rfl y)

set_option maxRecDepth 40000 in
theorem law_41 (h : LI E b s0 L sc N0 U0' T k M S) (hi : i + 6 ≤ L) (hL : L ≤ 3072) (hT : T + 100 < 2 ^ 20) (K : ∀ (M2 : Mm) (S2 : St), LI E b s0 L sc N0 U0' (T + 99) (k + 1) M2 S2 → J E 254 1604 [.ref s0, .ref b, .ref (b + 277), .int (nI i)] [] M2 Q) : J E 254 1532 [.ref s0, .ref b, .ref (b + 277), .int (nI i)] [] M Q := by
  obtain ⟨hR, hRR, hE, hW, hV, hA, ⟨c1, c2, c3, c4⟩, hB⟩ := h
  refine J_p 5 (ls' := [_, _, _, _]) rfl ?_
  refine J_ia (n := i + 1) (L := L) rfl (nI_add i 1) (Or.inr c1) c2 (by omega) (by omega) (congrFun c4 (i + 1)) ?_
  refine J_call rfl rfl rfl (decide_eq_true hR.1.1.1) rfl (k_seed hR hE hW hT hV (sc (i + 1)) rfl (fun M1 hk1 hR1 => ?_))
  show J _ _ _ _ _ _ _
  obtain ⟨hRR1, hE1, d1, d2, d3, d4⟩ := LI.mid hR hRR hE ⟨c1, c2, c3, c4⟩ hk1.1
  refine J_p 5 (ls' := [_, _, _, _]) rfl ?_
  refine J_ia (n := i + 1) (L := L) rfl (nI_add i 1) (Or.inr d1) d2 (by omega) (by omega) (congrFun d4 (i + 1)) ?_
  refine J_call rfl rfl rfl (decide_eq_true hRR1.1.1) rfl (r_seed hRR1 hW hT hA.1 (sc (i + 1)) (fun M2 hF hRR2 hW2 => ?_))
  show J _ _ _ _ _ _ _
  obtain ⟨v1, v2⟩ := iv_lift (f := fun A => fSeed A (sc (i + 1))) (iv_seed hA.1 (sc (i + 1))) hV hA
  have hfin := LI.fin hR hk1 hR1 hRR1 hE1 ⟨d1, d2, d3, d4⟩ hF hRR2 hW2 v1 v2 hB
  exact J_ieq rfl (fun _ => K M2 _ hfin) (fun y => absurd rfl y)

set_option maxRecDepth 40000 in
theorem law_42 (h : LI E b s0 L sc N0 U0' T k M S) (hi : i + 6 ≤ L) (hL : L ≤ 3072) (hT : T + 100 < 2 ^ 20) (K : ∀ (M2 : Mm) (S2 : St), LI E b s0 L sc N0 U0' (T + 99) (k + 1) M2 S2 → J E 254 1604 [.ref s0, .ref b, .ref (b + 277), .int (nI i)] [] M2 Q) : J E 254 1555 [.ref s0, .ref b, .ref (b + 277), .int (nI i)] [] M Q := by
  obtain ⟨hR, hRR, hE, hW, hV, hA, ⟨c1, c2, c3, c4⟩, hB⟩ := h
  refine J_p 1 (ls' := [_, _, _, _]) rfl ?_
  refine J_call rfl rfl rfl (decide_eq_true hR.1.1.1) rfl (k_image hR hE hW hT hV  rfl (fun M1 hk1 hR1 => ?_))
  show J _ _ _ _ _ _ _
  obtain ⟨hRR1, hE1, d1, d2, d3, d4⟩ := LI.mid hR hRR hE ⟨c1, c2, c3, c4⟩ hk1.1
  refine J_p 1 (ls' := [_, _, _, _]) rfl ?_
  refine J_call rfl rfl rfl (decide_eq_true hRR1.1.1) rfl (s_image hRR1 hW hT  (fun M2 hF hRR2 hW2 => ?_))
  show J _ _ _ _ _ _ _
  obtain ⟨v1, v2⟩ := ivr_image  hV hA
  have hfin := LI.fin hR hk1 hR1 hRR1 hE1 ⟨d1, d2, d3, d4⟩ hF hRR2 hW2 v1 v2 hB
  exact J_ieq rfl (fun _ => K M2 _ hfin) (fun y => absurd rfl y)

set_option maxRecDepth 40000 in
theorem law_43 (h : LI E b s0 L sc N0 U0' T k M S) (hi : i + 6 ≤ L) (hL : L ≤ 3072) (hT : T + 100 < 2 ^ 20) (K : ∀ (M2 : Mm) (S2 : St), LI E b s0 L sc N0 U0' (T + 99) (k + 1) M2 S2 → J E 254 1604 [.ref s0, .ref b, .ref (b + 277), .int (nI i)] [] M2 Q) : J E 254 1568 [.ref s0, .ref b, .ref (b + 277), .int (nI i)] [] M Q := by
  obtain ⟨hR, hRR, hE, hW, hV, hA, ⟨c1, c2, c3, c4⟩, hB⟩ := h
  refine J_p 1 (ls' := [_, _, _, _]) rfl ?_
  refine J_call rfl rfl rfl (decide_eq_true hR.1.1.1) rfl (k_back hR hE hW hT hV  rfl (fun M1 hk1 hR1 => ?_))
  show J _ _ _ _ _ _ _
  obtain ⟨hRR1, hE1, d1, d2, d3, d4⟩ := LI.mid hR hRR hE ⟨c1, c2, c3, c4⟩ hk1.1
  refine J_p 1 (ls' := [_, _, _, _]) rfl ?_
  refine J_call rfl rfl rfl (decide_eq_true hRR1.1.1) rfl (s_back hRR1 hW hT  (fun M2 hF hRR2 hW2 => ?_))
  show J _ _ _ _ _ _ _
  obtain ⟨v1, v2⟩ := ivr_back  hV hA
  have hfin := LI.fin hR hk1 hR1 hRR1 hE1 ⟨d1, d2, d3, d4⟩ hF hRR2 hW2 v1 v2 hB
  exact J_ieq rfl (fun _ => K M2 _ hfin) (fun y => absurd rfl y)

set_option maxRecDepth 40000 in
theorem law_44 (h : LI E b s0 L sc N0 U0' T k M S) (hi : i + 6 ≤ L) (hL : L ≤ 3072) (hT : T + 100 < 2 ^ 20) (K : ∀ (M2 : Mm) (S2 : St), LI E b s0 L sc N0 U0' (T + 99) (k + 1) M2 S2 → J E 254 1604 [.ref s0, .ref b, .ref (b + 277), .int (nI i)] [] M2 Q) : J E 254 1581 [.ref s0, .ref b, .ref (b + 277), .int (nI i)] [] M Q := by
  obtain ⟨hR, hRR, hE, hW, hV, hA, ⟨c1, c2, c3, c4⟩, hB⟩ := h
  refine J_p 5 (ls' := [_, _, _, _]) rfl ?_
  refine J_ia (n := i + 1) (L := L) rfl (nI_add i 1) (Or.inr c1) c2 (by omega) (by omega) (congrFun c4 (i + 1)) ?_
  refine J_call rfl rfl rfl (decide_eq_true hR.1.1.1) rfl (k_status hR hW.1 (sc (i + 1)) ?_)
  show J _ _ _ _ _ _ _
  refine J_p 5 (ls' := [_, _, _, _]) rfl ?_
  refine J_ia (n := i + 1) (L := L) rfl (nI_add i 1) (Or.inr c1) c2 (by omega) (by omega) (congrFun c4 (i + 1)) ?_
  refine J_call rfl rfl rfl (decide_eq_true hRR.1.1) rfl (s_status hRR hW (sc (i + 1)) ?_)
  show J _ _ _ _ _ _ _
  have hfin := LI.same (E := E) (N0 := N0) (U0' := U0') (k := k) ⟨hR, hRR, hE, hW, hV, hA, ⟨c1, c2, c3, c4⟩, hB⟩ hT
  exact J_ieq rfl (fun _ => K M S hfin) (fun y => absurd rfl y)

end LAWC