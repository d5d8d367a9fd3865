/-! THE LAW: calls. -/
section LAWC
variable {E : Nat × Nat} {b s0 L N0 U0' T k i : Nat} {sc : Nat → Int32} {M M1 M2 : Mm} {S S' : St} {Q : Option Value → Mm → Prop}

set_option maxRecDepth 40000 in
theorem law_15 (h : LI E b s0 L sc N0 U0' T k M S) (hi : i + 6 ≤ L) (hL : L ≤ 3072) (hT : T + 100 < 2 ^ 20) (K : ∀ (M2 : Mm) (S2 : St), LI E b s0 L sc N0 U0' (T + 99) (k + 1) M2 S2 → J E 254 1604 [.ref s0, .ref b, .ref (b + 277), .int (nI i)] [] M2 Q) : J E 254 754 [.ref s0, .ref b, .ref (b + 277), .int (nI i)] [] M Q := by
  obtain ⟨hR, hRR, hE, hW, hV, hA, ⟨c1, c2, c3, c4⟩, hB⟩ := h
  refine J_p 5 (ls' := [_, _, _, _]) rfl ?_
  refine J_ia (n := i + 1) (L := L) rfl (nI_add i 1) (Or.inr c1) c2 (by omega) (by omega) (congrFun c4 (i + 1)) ?_
  refine J_p 4 (ls' := [_, _, _, _]) rfl ?_
  refine J_ia (n := i + 2) (L := L) rfl (nI_add i 2) (Or.inr c1) c2 (by omega) (by omega) (congrFun c4 (i + 2)) ?_
  refine J_p 4 (ls' := [_, _, _, _]) rfl ?_
  refine J_ia (n := i + 3) (L := L) rfl (nI_add i 3) (Or.inr c1) c2 (by omega) (by omega) (congrFun c4 (i + 3)) ?_
  refine J_call rfl rfl rfl (decide_eq_true hR.1.1.1) rfl (k_publish hR hE hW hT hV (sc (i + 1)) (sc (i + 2)) (sc (i + 3)) rfl (fun M1 hk1 hR1 => ?_))
  show J _ _ _ _ _ _ _
  obtain ⟨hRR1, hE1, d1, d2, d3, d4⟩ := LI.mid hR hRR hE ⟨c1, c2, c3, c4⟩ hk1.1
  refine J_p 5 (ls' := [_, _, _, _]) rfl ?_
  refine J_ia (n := i + 1) (L := L) rfl (nI_add i 1) (Or.inr d1) d2 (by omega) (by omega) (congrFun d4 (i + 1)) ?_
  refine J_p 4 (ls' := [_, _, _, _]) rfl ?_
  refine J_ia (n := i + 2) (L := L) rfl (nI_add i 2) (Or.inr d1) d2 (by omega) (by omega) (congrFun d4 (i + 2)) ?_
  refine J_p 4 (ls' := [_, _, _, _]) rfl ?_
  refine J_ia (n := i + 3) (L := L) rfl (nI_add i 3) (Or.inr d1) d2 (by omega) (by omega) (congrFun d4 (i + 3)) ?_
  refine J_call rfl rfl rfl (decide_eq_true hRR1.1.1) rfl (r_publish hRR1 hW hT hA.1 (sc (i + 1)) (sc (i + 2)) (sc (i + 3)) (fun M2 hF hRR2 hW2 => ?_))
  show J _ _ _ _ _ _ _
  obtain ⟨v1, v2⟩ := iv_lift (f := fun A => fPublish A (sc (i + 1)) (sc (i + 2)) (sc (i + 3))) (iv_publish hA.1 (sc (i + 1)) (sc (i + 2)) (sc (i + 3))) hV hA
  have hfin := LI.fin hR hk1 hR1 hRR1 hE1 ⟨d1, d2, d3, d4⟩ hF hRR2 hW2 v1 v2 hB
  exact J_ieq rfl (fun _ => K M2 _ hfin) (fun y => absurd rfl y)

set_option maxRecDepth 40000 in
theorem law_16 (h : LI E b s0 L sc N0 U0' T k M S) (hi : i + 6 ≤ L) (hL : L ≤ 3072) (hT : T + 100 < 2 ^ 20) (K : ∀ (M2 : Mm) (S2 : St), LI E b s0 L sc N0 U0' (T + 99) (k + 1) M2 S2 → J E 254 1604 [.ref s0, .ref b, .ref (b + 277), .int (nI i)] [] M2 Q) : J E 254 797 [.ref s0, .ref b, .ref (b + 277), .int (nI i)] [] M Q := by
  obtain ⟨hR, hRR, hE, hW, hV, hA, ⟨c1, c2, c3, c4⟩, hB⟩ := h
  refine J_p 5 (ls' := [_, _, _, _]) rfl ?_
  refine J_ia (n := i + 1) (L := L) rfl (nI_add i 1) (Or.inr c1) c2 (by omega) (by omega) (congrFun c4 (i + 1)) ?_
  refine J_call rfl rfl rfl (decide_eq_true hR.1.1.1) rfl (k_give hR hE hW hT hV (sc (i + 1)) rfl (fun M1 hk1 hR1 => ?_))
  show J _ _ _ _ _ _ _
  obtain ⟨hRR1, hE1, d1, d2, d3, d4⟩ := LI.mid hR hRR hE ⟨c1, c2, c3, c4⟩ hk1.1
  refine J_p 5 (ls' := [_, _, _, _]) rfl ?_
  refine J_ia (n := i + 1) (L := L) rfl (nI_add i 1) (Or.inr d1) d2 (by omega) (by omega) (congrFun d4 (i + 1)) ?_
  refine J_call rfl rfl rfl (decide_eq_true hRR1.1.1) rfl (r_give hRR1 hW hT hA.1 (sc (i + 1)) (fun M2 hF hRR2 hW2 => ?_))
  show J _ _ _ _ _ _ _
  obtain ⟨v1, v2⟩ := iv_lift (f := fun A => fGive A (sc (i + 1))) (iv_give hW.1 hA.1 (sc (i + 1))) hV hA
  have hfin := LI.fin hR hk1 hR1 hRR1 hE1 ⟨d1, d2, d3, d4⟩ hF hRR2 hW2 v1 v2 hB
  exact J_ieq rfl (fun _ => K M2 _ hfin) (fun y => absurd rfl y)

set_option maxRecDepth 40000 in
theorem law_17 (h : LI E b s0 L sc N0 U0' T k M S) (hi : i + 6 ≤ L) (hL : L ≤ 3072) (hT : T + 100 < 2 ^ 20) (K : ∀ (M2 : Mm) (S2 : St), LI E b s0 L sc N0 U0' (T + 99) (k + 1) M2 S2 → J E 254 1604 [.ref s0, .ref b, .ref (b + 277), .int (nI i)] [] M2 Q) : J E 254 820 [.ref s0, .ref b, .ref (b + 277), .int (nI i)] [] M Q := by
  obtain ⟨hR, hRR, hE, hW, hV, hA, ⟨c1, c2, c3, c4⟩, hB⟩ := h
  refine J_p 5 (ls' := [_, _, _, _]) rfl ?_
  refine J_ia (n := i + 1) (L := L) rfl (nI_add i 1) (Or.inr c1) c2 (by omega) (by omega) (congrFun c4 (i + 1)) ?_
  refine J_call rfl rfl rfl (decide_eq_true hR.1.1.1) rfl (k_giveAll hR hE hW hT hV (sc (i + 1)) rfl (fun M1 hk1 hR1 => ?_))
  show J _ _ _ _ _ _ _
  obtain ⟨hRR1, hE1, d1, d2, d3, d4⟩ := LI.mid hR hRR hE ⟨c1, c2, c3, c4⟩ hk1.1
  refine J_p 5 (ls' := [_, _, _, _]) rfl ?_
  refine J_ia (n := i + 1) (L := L) rfl (nI_add i 1) (Or.inr d1) d2 (by omega) (by omega) (congrFun d4 (i + 1)) ?_
  refine J_call rfl rfl rfl (decide_eq_true hRR1.1.1) rfl (r_giveAll hRR1 hW hT hA.1 (sc (i + 1)) (fun M2 hF hRR2 hW2 => ?_))
  show J _ _ _ _ _ _ _
  obtain ⟨v1, v2⟩ := iv_lift (f := fun A => fGiveAll A (sc (i + 1))) (iv_giveAll hW.1 hA.1 (sc (i + 1))) hV hA
  have hfin := LI.fin hR hk1 hR1 hRR1 hE1 ⟨d1, d2, d3, d4⟩ hF hRR2 hW2 v1 v2 hB
  exact J_ieq rfl (fun _ => K M2 _ hfin) (fun y => absurd rfl y)

set_option maxRecDepth 40000 in
theorem law_18 (h : LI E b s0 L sc N0 U0' T k M S) (hi : i + 6 ≤ L) (hL : L ≤ 3072) (hT : T + 100 < 2 ^ 20) (K : ∀ (M2 : Mm) (S2 : St), LI E b s0 L sc N0 U0' (T + 99) (k + 1) M2 S2 → J E 254 1604 [.ref s0, .ref b, .ref (b + 277), .int (nI i)] [] M2 Q) : J E 254 843 [.ref s0, .ref b, .ref (b + 277), .int (nI i)] [] M Q := by
  obtain ⟨hR, hRR, hE, hW, hV, hA, ⟨c1, c2, c3, c4⟩, hB⟩ := h
  refine J_p 5 (ls' := [_, _, _, _]) rfl ?_
  refine J_ia (n := i + 1) (L := L) rfl (nI_add i 1) (Or.inr c1) c2 (by omega) (by omega) (congrFun c4 (i + 1)) ?_
  refine J_p 4 (ls' := [_, _, _, _]) rfl ?_
  refine J_ia (n := i + 2) (L := L) rfl (nI_add i 2) (Or.inr c1) c2 (by omega) (by omega) (congrFun c4 (i + 2)) ?_
  refine J_call rfl rfl rfl (decide_eq_true hR.1.1.1) rfl (k_ack hR hE hW hT hV (sc (i + 1)) (sc (i + 2)) rfl (fun M1 hk1 hR1 => ?_))
  show J _ _ _ _ _ _ _
  obtain ⟨hRR1, hE1, d1, d2, d3, d4⟩ := LI.mid hR hRR hE ⟨c1, c2, c3, c4⟩ hk1.1
  refine J_p 5 (ls' := [_, _, _, _]) rfl ?_
  refine J_ia (n := i + 1) (L := L) rfl (nI_add i 1) (Or.inr d1) d2 (by omega) (by omega) (congrFun d4 (i + 1)) ?_
  refine J_p 4 (ls' := [_, _, _, _]) rfl ?_
  refine J_ia (n := i + 2) (L := L) rfl (nI_add i 2) (Or.inr d1) d2 (by omega) (by omega) (congrFun d4 (i + 2)) ?_
  refine J_call rfl rfl rfl (decide_eq_true hRR1.1.1) rfl (r_ack hRR1 hW hT hA.1 (sc (i + 1)) (sc (i + 2)) (fun M2 hF hRR2 hW2 => ?_))
  show J _ _ _ _ _ _ _
  obtain ⟨v1, v2⟩ := iv_lift (f := fun A => fAck A (sc (i + 1)) (sc (i + 2))) (iv_ack hA.1 (sc (i + 1)) (sc (i + 2))) hV hA
  have hfin := LI.fin hR hk1 hR1 hRR1 hE1 ⟨d1, d2, d3, d4⟩ hF hRR2 hW2 v1 v2 hB
  exact J_ieq rfl (fun _ => K M2 _ hfin) (fun y => absurd rfl y)

set_option maxRecDepth 40000 in
theorem law_19 (h : LI E b s0 L sc N0 U0' T k M S) (hi : i + 6 ≤ L) (hL : L ≤ 3072) (hT : T + 100 < 2 ^ 20) (K : ∀ (M2 : Mm) (S2 : St), LI E b s0 L sc N0 U0' (T + 99) (k + 1) M2 S2 → J E 254 1604 [.ref s0, .ref b, .ref (b + 277), .int (nI i)] [] M2 Q) : J E 254 876 [.ref s0, .ref b, .ref (b + 277), .int (nI i)] [] M Q := by
  obtain ⟨hR, hRR, hE, hW, hV, hA, ⟨c1, c2, c3, c4⟩, hB⟩ := h
  refine J_p 5 (ls' := [_, _, _, _]) rfl ?_
  refine J_ia (n := i + 1) (L := L) rfl (nI_add i 1) (Or.inr c1) c2 (by omega) (by omega) (congrFun c4 (i + 1)) ?_
  refine J_p 4 (ls' := [_, _, _, _]) rfl ?_
  refine J_ia (n := i + 2) (L := L) rfl (nI_add i 2) (Or.inr c1) c2 (by omega) (by omega) (congrFun c4 (i + 2)) ?_
  refine J_call rfl rfl rfl (decide_eq_true hR.1.1.1) rfl (k_nack hR hE hW hT hV (sc (i + 1)) (sc (i + 2)) rfl (fun M1 hk1 hR1 => ?_))
  show J _ _ _ _ _ _ _
  obtain ⟨hRR1, hE1, d1, d2, d3, d4⟩ := LI.mid hR hRR hE ⟨c1, c2, c3, c4⟩ hk1.1
  refine J_p 5 (ls' := [_, _, _, _]) rfl ?_
  refine J_ia (n := i + 1) (L := L) rfl (nI_add i 1) (Or.inr d1) d2 (by omega) (by omega) (congrFun d4 (i + 1)) ?_
  refine J_p 4 (ls' := [_, _, _, _]) rfl ?_
  refine J_ia (n := i + 2) (L := L) rfl (nI_add i 2) (Or.inr d1) d2 (by omega) (by omega) (congrFun d4 (i + 2)) ?_
  refine J_call rfl rfl rfl (decide_eq_true hRR1.1.1) rfl (r_nack hRR1 hW hT hA.1 (sc (i + 1)) (sc (i + 2)) (fun M2 hF hRR2 hW2 => ?_))
  show J _ _ _ _ _ _ _
  obtain ⟨v1, v2⟩ := iv_lift (f := fun A => fNack A (sc (i + 1)) (sc (i + 2))) (iv_nack hA.1 (sc (i + 1)) (sc (i + 2))) hV hA
  have hfin := LI.fin hR hk1 hR1 hRR1 hE1 ⟨d1, d2, d3, d4⟩ hF hRR2 hW2 v1 v2 hB
  exact J_ieq rfl (fun _ => K M2 _ hfin) (fun y => absurd rfl y)

set_option maxRecDepth 40000 in
theorem law_20 (h : LI E b s0 L sc N0 U0' T k M S) (hi : i + 6 ≤ L) (hL : L ≤ 3072) (hT : T + 100 < 2 ^ 20) (K : ∀ (M2 : Mm) (S2 : St), LI E b s0 L sc N0 U0' (T + 99) (k + 1) M2 S2 → J E 254 1604 [.ref s0, .ref b, .ref (b + 277), .int (nI i)] [] M2 Q) : J E 254 909 [.ref s0, .ref b, .ref (b + 277), .int (nI i)] [] M Q := by
  obtain ⟨hR, hRR, hE, hW, hV, hA, ⟨c1, c2, c3, c4⟩, hB⟩ := h
  refine J_p 5 (ls' := [_, _, _, _]) rfl ?_
  refine J_ia (n := i + 1) (L := L) rfl (nI_add i 1) (Or.inr c1) c2 (by omega) (by omega) (congrFun c4 (i + 1)) ?_
  refine J_call rfl rfl rfl (decide_eq_true hR.1.1.1) rfl (k_pass hR hE hW hT hV (sc (i + 1)) rfl (fun M1 hk1 hR1 => ?_))
  show J _ _ _ _ _ _ _
  obtain ⟨hRR1, hE1, d1, d2, d3, d4⟩ := LI.mid hR hRR hE ⟨c1, c2, c3, c4⟩ hk1.1
  refine J_p 5 (ls' := [_, _, _, _]) rfl ?_
  refine J_ia (n := i + 1) (L := L) rfl (nI_add i 1) (Or.inr d1) d2 (by omega) (by omega) (congrFun d4 (i + 1)) ?_
  refine J_call rfl rfl rfl (decide_eq_true hRR1.1.1) rfl (r_pass hRR1 hW hT hA.1 (sc (i + 1)) (fun M2 hF hRR2 hW2 => ?_))
  show J _ _ _ _ _ _ _
  obtain ⟨v1, v2⟩ := iv_lift (f := fun A => fPass A (sc (i + 1))) (iv_pass hW.1 hT hA.1 (sc (i + 1))) hV hA
  have hfin := LI.fin hR hk1 hR1 hRR1 hE1 ⟨d1, d2, d3, d4⟩ hF hRR2 hW2 v1 v2 hB
  exact J_ieq rfl (fun _ => K M2 _ hfin) (fun y => absurd rfl y)

set_option maxRecDepth 40000 in
theorem law_21 (h : LI E b s0 L sc N0 U0' T k M S) (hi : i + 6 ≤ L) (hL : L ≤ 3072) (hT : T + 100 < 2 ^ 20) (K : ∀ (M2 : Mm) (S2 : St), LI E b s0 L sc N0 U0' (T + 99) (k + 1) M2 S2 → J E 254 1604 [.ref s0, .ref b, .ref (b + 277), .int (nI i)] [] M2 Q) : J E 254 932 [.ref s0, .ref b, .ref (b + 277), .int (nI i)] [] M Q := by
  obtain ⟨hR, hRR, hE, hW, hV, hA, ⟨c1, c2, c3, c4⟩, hB⟩ := h
  refine J_p 5 (ls' := [_, _, _, _]) rfl ?_
  refine J_ia (n := i + 1) (L := L) rfl (nI_add i 1) (Or.inr c1) c2 (by omega) (by omega) (congrFun c4 (i + 1)) ?_
  refine J_call rfl rfl rfl (decide_eq_true hR.1.1.1) rfl (k_revive hR hE hW hT hV (sc (i + 1)) rfl (fun M1 hk1 hR1 => ?_))
  show J _ _ _ _ _ _ _
  obtain ⟨hRR1, hE1, d1, d2, d3, d4⟩ := LI.mid hR hRR hE ⟨c1, c2, c3, c4⟩ hk1.1
  refine J_p 5 (ls' := [_, _, _, _]) rfl ?_
  refine J_ia (n := i + 1) (L := L) rfl (nI_add i 1) (Or.inr d1) d2 (by omega) (by omega) (congrFun d4 (i + 1)) ?_
  refine J_call rfl rfl rfl (decide_eq_true hRR1.1.1) rfl (r_revive hRR1 hW hT hA.1 (sc (i + 1)) (fun M2 hF hRR2 hW2 => ?_))
  show J _ _ _ _ _ _ _
  obtain ⟨v1, v2⟩ := iv_lift (f := fun A => fRevive A (sc (i + 1))) (iv_revive hA.1 (sc (i + 1))) hV hA
  have hfin := LI.fin hR hk1 hR1 hRR1 hE1 ⟨d1, d2, d3, d4⟩ hF hRR2 hW2 v1 v2 hB
  exact J_ieq rfl (fun _ => K M2 _ hfin) (fun y => absurd rfl y)

set_option maxRecDepth 40000 in
theorem law_22 (h : LI E b s0 L sc N0 U0' T k M S) (hi : i + 6 ≤ L) (hL : L ≤ 3072) (hT : T + 100 < 2 ^ 20) (K : ∀ (M2 : Mm) (S2 : St), LI E b s0 L sc N0 U0' (T + 99) (k + 1) M2 S2 → J E 254 1604 [.ref s0, .ref b, .ref (b + 277), .int (nI i)] [] M2 Q) : J E 254 955 [.ref s0, .ref b, .ref (b + 277), .int (nI i)] [] M Q := by
  obtain ⟨hR, hRR, hE, hW, hV, hA, ⟨c1, c2, c3, c4⟩, hB⟩ := h
  refine J_p 5 (ls' := [_, _, _, _]) rfl ?_
  refine J_ia (n := i + 1) (L := L) rfl (nI_add i 1) (Or.inr c1) c2 (by omega) (by omega) (congrFun c4 (i + 1)) ?_
  refine J_call rfl rfl rfl (decide_eq_true hR.1.1.1) rfl (k_bury hR hE hW hT hV (sc (i + 1)) rfl (fun M1 hk1 hR1 => ?_))
  show J _ _ _ _ _ _ _
  obtain ⟨hRR1, hE1, d1, d2, d3, d4⟩ := LI.mid hR hRR hE ⟨c1, c2, c3, c4⟩ hk1.1
  refine J_p 5 (ls' := [_, _, _, _]) rfl ?_
  refine J_ia (n := i + 1) (L := L) rfl (nI_add i 1) (Or.inr d1) d2 (by omega) (by omega) (congrFun d4 (i + 1)) ?_
  refine J_call rfl rfl rfl (decide_eq_true hRR1.1.1) rfl (r_bury hRR1 hW hT hA.1 (sc (i + 1)) (fun M2 hF hRR2 hW2 => ?_))
  show J _ _ _ _ _ _ _
  obtain ⟨v1, v2⟩ := iv_lift (f := fun A => fBury2 A (sc (i + 1))) (iv_bury hA.1 (sc (i + 1))) hV hA
  have hfin := LI.fin hR hk1 hR1 hRR1 hE1 ⟨d1, d2, d3, d4⟩ hF hRR2 hW2 v1 v2 hB
  exact J_ieq rfl (fun _ => K M2 _ hfin) (fun y => absurd rfl y)

set_option maxRecDepth 40000 in
theorem law_23 (h : LI E b s0 L sc N0 U0' T k M S) (hi : i + 6 ≤ L) (hL : L ≤ 3072) (hT : T + 100 < 2 ^ 20) (K : ∀ (M2 : Mm) (S2 : St), LI E b s0 L sc N0 U0' (T + 99) (k + 1) M2 S2 → J E 254 1604 [.ref s0, .ref b, .ref (b + 277), .int (nI i)] [] M2 Q) : J E 254 978 [.ref s0, .ref b, .ref (b + 277), .int (nI i)] [] M Q := by
  obtain ⟨hR, hRR, hE, hW, hV, hA, ⟨c1, c2, c3, c4⟩, hB⟩ := h
  refine J_p 5 (ls' := [_, _, _, _]) rfl ?_
  refine J_ia (n := i + 1) (L := L) rfl (nI_add i 1) (Or.inr c1) c2 (by omega) (by omega) (congrFun c4 (i + 1)) ?_
  refine J_call rfl rfl rfl (decide_eq_true hR.1.1.1) rfl (k_purge hR hE hW hT hV (sc (i + 1)) rfl (fun M1 hk1 hR1 => ?_))
  show J _ _ _ _ _ _ _
  obtain ⟨hRR1, hE1, d1, d2, d3, d4⟩ := LI.mid hR hRR hE ⟨c1, c2, c3, c4⟩ hk1.1
  refine J_p 5 (ls' := [_, _, _, _]) rfl ?_
  refine J_ia (n := i + 1) (L := L) rfl (nI_add i 1) (Or.inr d1) d2 (by omega) (by omega) (congrFun d4 (i + 1)) ?_
  refine J_call rfl rfl rfl (decide_eq_true hRR1.1.1) rfl (r_purge hRR1 hW hT hA.1 (sc (i + 1)) (fun M2 hF hRR2 hW2 => ?_))
  show J _ _ _ _ _ _ _
  obtain ⟨v1, v2⟩ := iv_lift (f := fun A => fPurge A (sc (i + 1))) (iv_purge hA.1 (sc (i + 1))) hV hA
  have hfin := LI.fin hR hk1 hR1 hRR1 hE1 ⟨d1, d2, d3, d4⟩ hF hRR2 hW2 v1 v2 hB
  exact J_ieq rfl (fun _ => K M2 _ hfin) (fun y => absurd rfl y)

set_option maxRecDepth 40000 in
theorem law_24 (h : LI E b s0 L sc N0 U0' T k M S) (hi : i + 6 ≤ L) (hL : L ≤ 3072) (hT : T + 100 < 2 ^ 20) (K : ∀ (M2 : Mm) (S2 : St), LI E b s0 L sc N0 U0' (T + 99) (k + 1) M2 S2 → J E 254 1604 [.ref s0, .ref b, .ref (b + 277), .int (nI i)] [] M2 Q) : J E 254 1001 [.ref s0, .ref b, .ref (b + 277), .int (nI i)] [] M Q := by
  obtain ⟨hR, hRR, hE, hW, hV, hA, ⟨c1, c2, c3, c4⟩, hB⟩ := h
  refine J_p 5 (ls' := [_, _, _, _]) rfl ?_
  refine J_ia (n := i + 1) (L := L) rfl (nI_add i 1) (Or.inr c1) c2 (by omega) (by omega) (congrFun c4 (i + 1)) ?_
  refine J_p 4 (ls' := [_, _, _, _]) rfl ?_
  refine J_ia (n := i + 2) (L := L) rfl (nI_add i 2) (Or.inr c1) c2 (by omega) (by omega) (congrFun c4 (i + 2)) ?_
  refine J_call rfl rfl rfl (decide_eq_true hR.1.1.1) rfl (k_queueOf hR hE hW hT hV (sc (i + 1)) (sc (i + 2)) rfl (fun M1 hk1 hR1 => ?_))
  show J _ _ _ _ _ _ _
  obtain ⟨hRR1, hE1, d1, d2, d3, d4⟩ := LI.mid hR hRR hE ⟨c1, c2, c3, c4⟩ hk1.1
  refine J_p 5 (ls' := [_, _, _, _]) rfl ?_
  refine J_ia (n := i + 1) (L := L) rfl (nI_add i 1) (Or.inr d1) d2 (by omega) (by omega) (congrFun d4 (i + 1)) ?_
  refine J_p 4 (ls' := [_, _, _, _]) rfl ?_
  refine J_ia (n := i + 2) (L := L) rfl (nI_add i 2) (Or.inr d1) d2 (by omega) (by omega) (congrFun d4 (i + 2)) ?_
  refine J_call rfl rfl rfl (decide_eq_true hRR1.1.1) rfl (r_queueOf hRR1 hW hT (sc (i + 1)) (sc (i + 2)) (fun M2 hF hRR2 hW2 => ?_))
  show J _ _ _ _ _ _ _
  obtain ⟨v1, v2⟩ := iv_lift (f := fun A => fQueueOf A (sc (i + 1)) (sc (i + 2))) (iv_same hA.1 (sm_queueOf (sc (i + 1)) (sc (i + 2)))) hV hA
  have hfin := LI.fin hR hk1 hR1 hRR1 hE1 ⟨d1, d2, d3, d4⟩ hF hRR2 hW2 v1 v2 hB
  exact J_ieq rfl (fun _ => K M2 _ hfin) (fun y => absurd rfl y)

set_option maxRecDepth 40000 in
theorem law_25 (h : LI E b s0 L sc N0 U0' T k M S) (hi : i + 6 ≤ L) (hL : L ≤ 3072) (hT : T + 100 < 2 ^ 20) (K : ∀ (M2 : Mm) (S2 : St), LI E b s0 L sc N0 U0' (T + 99) (k + 1) M2 S2 → J E 254 1604 [.ref s0, .ref b, .ref (b + 277), .int (nI i)] [] M2 Q) : J E 254 1034 [.ref s0, .ref b, .ref (b + 277), .int (nI i)] [] M Q := by
  obtain ⟨hR, hRR, hE, hW, hV, hA, ⟨c1, c2, c3, c4⟩, hB⟩ := h
  refine J_p 5 (ls' := [_, _, _, _]) rfl ?_
  refine J_ia (n := i + 1) (L := L) rfl (nI_add i 1) (Or.inr c1) c2 (by omega) (by omega) (congrFun c4 (i + 1)) ?_
  refine J_p 4 (ls' := [_, _, _, _]) rfl ?_
  refine J_ia (n := i + 2) (L := L) rfl (nI_add i 2) (Or.inr c1) c2 (by omega) (by omega) (congrFun c4 (i + 2)) ?_
  refine J_p 4 (ls' := [_, _, _, _]) rfl ?_
  refine J_ia (n := i + 3) (L := L) rfl (nI_add i 3) (Or.inr c1) c2 (by omega) (by omega) (congrFun c4 (i + 3)) ?_
  refine J_call rfl rfl rfl (decide_eq_true hR.1.1.1) rfl (k_letter hR hE hW hT hV (sc (i + 1)) (sc (i + 2)) (sc (i + 3)) rfl (fun M1 hk1 hR1 => ?_))
  show J _ _ _ _ _ _ _
  obtain ⟨hRR1, hE1, d1, d2, d3, d4⟩ := LI.mid hR hRR hE ⟨c1, c2, c3, c4⟩ hk1.1
  refine J_p 5 (ls' := [_, _, _, _]) rfl ?_
  refine J_ia (n := i + 1) (L := L) rfl (nI_add i 1) (Or.inr d1) d2 (by omega) (by omega) (congrFun d4 (i + 1)) ?_
  refine J_p 4 (ls' := [_, _, _, _]) rfl ?_
  refine J_ia (n := i + 2) (L := L) rfl (nI_add i 2) (Or.inr d1) d2 (by omega) (by omega) (congrFun d4 (i + 2)) ?_
  refine J_p 4 (ls' := [_, _, _, _]) rfl ?_
  refine J_ia (n := i + 3) (L := L) rfl (nI_add i 3) (Or.inr d1) d2 (by omega) (by omega) (congrFun d4 (i + 3)) ?_
  refine J_call rfl rfl rfl (decide_eq_true hRR1.1.1) rfl (r_letter hRR1 hW hT (sc (i + 1)) (sc (i + 2)) (sc (i + 3)) (fun M2 hF hRR2 hW2 => ?_))
  show J _ _ _ _ _ _ _
  obtain ⟨v1, v2⟩ := iv_lift (f := fun A => fLetter A (sc (i + 1)) (sc (i + 2)) (sc (i + 3))) (iv_same hA.1 (sm_letter (sc (i + 1)) (sc (i + 2)) (sc (i + 3)))) hV hA
  have hfin := LI.fin hR hk1 hR1 hRR1 hE1 ⟨d1, d2, d3, d4⟩ hF hRR2 hW2 v1 v2 hB
  exact J_ieq rfl (fun _ => K M2 _ hfin) (fun y => absurd rfl y)

set_option maxRecDepth 40000 in
theorem law_26 (h : LI E b s0 L sc N0 U0' T k M S) (hi : i + 6 ≤ L) (hL : L ≤ 3072) (hT : T + 100 < 2 ^ 20) (K : ∀ (M2 : Mm) (S2 : St), LI E b s0 L sc N0 U0' (T + 99) (k + 1) M2 S2 → J E 254 1604 [.ref s0, .ref b, .ref (b + 277), .int (nI i)] [] M2 Q) : J E 254 1077 [.ref s0, .ref b, .ref (b + 277), .int (nI i)] [] M Q := by
  obtain ⟨hR, hRR, hE, hW, hV, hA, ⟨c1, c2, c3, c4⟩, hB⟩ := h
  refine J_p 5 (ls' := [_, _, _, _]) rfl ?_
  refine J_ia (n := i + 1) (L := L) rfl (nI_add i 1) (Or.inr c1) c2 (by omega) (by omega) (congrFun c4 (i + 1)) ?_
  refine J_p 4 (ls' := [_, _, _, _]) rfl ?_
  refine J_ia (n := i + 2) (L := L) rfl (nI_add i 2) (Or.inr c1) c2 (by omega) (by omega) (congrFun c4 (i + 2)) ?_
  refine J_call rfl rfl rfl (decide_eq_true hR.1.1.1) rfl (k_consumerOf hR hE hW hT hV (sc (i + 1)) (sc (i + 2)) rfl (fun M1 hk1 hR1 => ?_))
  show J _ _ _ _ _ _ _
  obtain ⟨hRR1, hE1, d1, d2, d3, d4⟩ := LI.mid hR hRR hE ⟨c1, c2, c3, c4⟩ hk1.1
  refine J_p 5 (ls' := [_, _, _, _]) rfl ?_
  refine J_ia (n := i + 1) (L := L) rfl (nI_add i 1) (Or.inr d1) d2 (by omega) (by omega) (congrFun d4 (i + 1)) ?_
  refine J_p 4 (ls' := [_, _, _, _]) rfl ?_
  refine J_ia (n := i + 2) (L := L) rfl (nI_add i 2) (Or.inr d1) d2 (by omega) (by omega) (congrFun d4 (i + 2)) ?_
  refine J_call rfl rfl rfl (decide_eq_true hRR1.1.1) rfl (r_consumerOf hRR1 hW hT (sc (i + 1)) (sc (i + 2)) (fun M2 hF hRR2 hW2 => ?_))
  show J _ _ _ _ _ _ _
  obtain ⟨v1, v2⟩ := iv_lift (f := fun A => fConsumerOf A (sc (i + 1)) (sc (i + 2))) (iv_same hA.1 (sm_consumerOf (sc (i + 1)) (sc (i + 2)))) hV hA
  have hfin := LI.fin hR hk1 hR1 hRR1 hE1 ⟨d1, d2, d3, d4⟩ hF hRR2 hW2 v1 v2 hB
  exact J_ieq rfl (fun _ => K M2 _ hfin) (fun y => absurd rfl y)

set_option maxRecDepth 40000 in
theorem law_27 (h : LI E b s0 L sc N0 U0' T k M S) (hi : i + 6 ≤ L) (hL : L ≤ 3072) (hT : T + 100 < 2 ^ 20) (K : ∀ (M2 : Mm) (S2 : St), LI E b s0 L sc N0 U0' (T + 99) (k + 1) M2 S2 → J E 254 1604 [.ref s0, .ref b, .ref (b + 277), .int (nI i)] [] M2 Q) : J E 254 1110 [.ref s0, .ref b, .ref (b + 277), .int (nI i)] [] M Q := by
  obtain ⟨hR, hRR, hE, hW, hV, hA, ⟨c1, c2, c3, c4⟩, hB⟩ := h
  refine J_p 5 (ls' := [_, _, _, _]) rfl ?_
  refine J_ia (n := i + 1) (L := L) rfl (nI_add i 1) (Or.inr c1) c2 (by omega) (by omega) (congrFun c4 (i + 1)) ?_
  refine J_p 4 (ls' := [_, _, _, _]) rfl ?_
  refine J_ia (n := i + 2) (L := L) rfl (nI_add i 2) (Or.inr c1) c2 (by omega) (by omega) (congrFun c4 (i + 2)) ?_
  refine J_call rfl rfl rfl (decide_eq_true hR.1.1.1) rfl (k_held hR hE hW hT hV (sc (i + 1)) (sc (i + 2)) rfl (fun M1 hk1 hR1 => ?_))
  show J _ _ _ _ _ _ _
  obtain ⟨hRR1, hE1, d1, d2, d3, d4⟩ := LI.mid hR hRR hE ⟨c1, c2, c3, c4⟩ hk1.1
  refine J_p 5 (ls' := [_, _, _, _]) rfl ?_
  refine J_ia (n := i + 1) (L := L) rfl (nI_add i 1) (Or.inr d1) d2 (by omega) (by omega) (congrFun d4 (i + 1)) ?_
  refine J_p 4 (ls' := [_, _, _, _]) rfl ?_
  refine J_ia (n := i + 2) (L := L) rfl (nI_add i 2) (Or.inr d1) d2 (by omega) (by omega) (congrFun d4 (i + 2)) ?_
  refine J_call rfl rfl rfl (decide_eq_true hRR1.1.1) rfl (r_held hRR1 hW hT (sc (i + 1)) (sc (i + 2)) (fun M2 hF hRR2 hW2 => ?_))
  show J _ _ _ _ _ _ _
  obtain ⟨v1, v2⟩ := iv_lift (f := fun A => fHeld A (sc (i + 1)) (sc (i + 2))) (iv_same hA.1 (sm_held (sc (i + 1)) (sc (i + 2)))) hV hA
  have hfin := LI.fin hR hk1 hR1 hRR1 hE1 ⟨d1, d2, d3, d4⟩ hF hRR2 hW2 v1 v2 hB
  exact J_ieq rfl (fun _ => K M2 _ hfin) (fun y => absurd rfl y)

set_option maxRecDepth 40000 in
theorem law_28 (h : LI E b s0 L sc N0 U0' T k M S) (hi : i + 6 ≤ L) (hL : L ≤ 3072) (hT : T + 100 < 2 ^ 20) (K : ∀ (M2 : Mm) (S2 : St), LI E b s0 L sc N0 U0' (T + 99) (k + 1) M2 S2 → J E 254 1604 [.ref s0, .ref b, .ref (b + 277), .int (nI i)] [] M2 Q) : J E 254 1143 [.ref s0, .ref b, .ref (b + 277), .int (nI i)] [] M Q := by
  obtain ⟨hR, hRR, hE, hW, hV, hA, ⟨c1, c2, c3, c4⟩, hB⟩ := h
  refine J_p 5 (ls' := [_, _, _, _]) rfl ?_
  refine J_ia (n := i + 1) (L := L) rfl (nI_add i 1) (Or.inr c1) c2 (by omega) (by omega) (congrFun c4 (i + 1)) ?_
  refine J_p 4 (ls' := [_, _, _, _]) rfl ?_
  refine J_ia (n := i + 2) (L := L) rfl (nI_add i 2) (Or.inr c1) c2 (by omega) (by omega) (congrFun c4 (i + 2)) ?_
  refine J_call rfl rfl rfl (decide_eq_true hR.1.1.1) rfl (k_messageOf hR hE hW hT hV (sc (i + 1)) (sc (i + 2)) rfl (fun M1 hk1 hR1 => ?_))
  show J _ _ _ _ _ _ _
  obtain ⟨hRR1, hE1, d1, d2, d3, d4⟩ := LI.mid hR hRR hE ⟨c1, c2, c3, c4⟩ hk1.1
  refine J_p 5 (ls' := [_, _, _, _]) rfl ?_
  refine J_ia (n := i + 1) (L := L) rfl (nI_add i 1) (Or.inr d1) d2 (by omega) (by omega) (congrFun d4 (i + 1)) ?_
  refine J_p 4 (ls' := [_, _, _, _]) rfl ?_
  refine J_ia (n := i + 2) (L := L) rfl (nI_add i 2) (Or.inr d1) d2 (by omega) (by omega) (congrFun d4 (i + 2)) ?_
  refine J_call rfl rfl rfl (decide_eq_true hRR1.1.1) rfl (r_messageOf hRR1 hW hT (sc (i + 1)) (sc (i + 2)) (fun M2 hF hRR2 hW2 => ?_))
  show J _ _ _ _ _ _ _
  obtain ⟨v1, v2⟩ := iv_lift (f := fun A => fMessageOf A (sc (i + 1)) (sc (i + 2))) (iv_same hA.1 (sm_messageOf (sc (i + 1)) (sc (i + 2)))) hV hA
  have hfin := LI.fin hR hk1 hR1 hRR1 hE1 ⟨d1, d2, d3, d4⟩ hF hRR2 hW2 v1 v2 hB
  exact J_ieq rfl (fun _ => K M2 _ hfin) (fun y => absurd rfl y)

set_option maxRecDepth 40000 in
theorem law_29 (h : LI E b s0 L sc N0 U0' T k M S) (hi : i + 6 ≤ L) (hL : L ≤ 3072) (hT : T + 100 < 2 ^ 20) (K : ∀ (M2 : Mm) (S2 : St), LI E b s0 L sc N0 U0' (T + 99) (k + 1) M2 S2 → J E 254 1604 [.ref s0, .ref b, .ref (b + 277), .int (nI i)] [] M2 Q) : J E 254 1176 [.ref s0, .ref b, .ref (b + 277), .int (nI i)] [] M Q := by
  obtain ⟨hR, hRR, hE, hW, hV, hA, ⟨c1, c2, c3, c4⟩, hB⟩ := h
  refine J_p 5 (ls' := [_, _, _, _]) rfl ?_
  refine J_ia (n := i + 1) (L := L) rfl (nI_add i 1) (Or.inr c1) c2 (by omega) (by omega) (congrFun c4 (i + 1)) ?_
  refine J_p 4 (ls' := [_, _, _, _]) rfl ?_
  refine J_ia (n := i + 2) (L := L) rfl (nI_add i 2) (Or.inr c1) c2 (by omega) (by omega) (congrFun c4 (i + 2)) ?_
  refine J_call rfl rfl rfl (decide_eq_true hR.1.1.1) rfl (k_dead hR hE hW hT hV (sc (i + 1)) (sc (i + 2)) rfl (fun M1 hk1 hR1 => ?_))
  show J _ _ _ _ _ _ _
  obtain ⟨hRR1, hE1, d1, d2, d3, d4⟩ := LI.mid hR hRR hE ⟨c1, c2, c3, c4⟩ hk1.1
  refine J_p 5 (ls' := [_, _, _, _]) rfl ?_
  refine J_ia (n := i + 1) (L := L) rfl (nI_add i 1) (Or.inr d1) d2 (by omega) (by omega) (congrFun d4 (i + 1)) ?_
  refine J_p 4 (ls' := [_, _, _, _]) rfl ?_
  refine J_ia (n := i + 2) (L := L) rfl (nI_add i 2) (Or.inr d1) d2 (by omega) (by omega) (congrFun d4 (i + 2)) ?_
  refine J_call rfl rfl rfl (decide_eq_true hRR1.1.1) rfl (r_dead hRR1 hW hT (sc (i + 1)) (sc (i + 2)) (fun M2 hF hRR2 hW2 => ?_))
  show J _ _ _ _ _ _ _
  obtain ⟨v1, v2⟩ := iv_lift (f := fun A => fDead A (sc (i + 1)) (sc (i + 2))) (iv_same hA.1 (sm_dead (sc (i + 1)) (sc (i + 2)))) hV hA
  have hfin := LI.fin hR hk1 hR1 hRR1 hE1 ⟨d1, d2, d3, d4⟩ hF hRR2 hW2 v1 v2 hB
  exact J_ieq rfl (fun _ => K M2 _ hfin) (fun y => absurd rfl y)

end LAWC