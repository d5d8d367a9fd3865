/-! THE LAW: what stands between the calls. -/
def LI (E : Nat × Nat) (b s0 L : Nat) (sc : Nat → Int32) (N0 U0' T k : Nat) (M : Mm) (S : St) : Prop :=
  CR M b S ∧ RR M (b + 277) S ∧ STa E M ∧ WfS T S ∧ PrS S ∧ AhS S ∧ (mT M s0 = 19 ∧ mS M s0 = L ∧ s0 < mN M ∧ mI M s0 = sc) ∧ (mN M + pNS S ≤ N0 + 480 * k ∧ mU M + pUS S + 6 * N0 ≤ U0' + 6 * mN M)
theorem lgcmp_self (x : Int64) : lg_cmp x x = 0 := by
  unfold lg_cmp
  rw [if_neg (show ¬ x > x from Int64.lt_irrefl), if_pos rfl]
set_option maxRecDepth 40000 in
theorem ar1 {a b c d n k : Nat} (h1 : a + b ≤ c + d + 480) (h2 : c + d ≤ n + 480 * k) : a + b ≤ n + 480 * (k + 1) := by
  rw [Nat.mul_succ]
  omega
theorem ar2 {a b c d e k n u : Nat} (h1 : a + b + 6 * c ≤ d + e + 6 * n) (h2 : d + e + 6 * u ≤ k + 6 * c) : a + b + 6 * u ≤ k + 6 * n := by omega
section LAWH
variable {E : Nat × Nat} {b s0 L N0 U0' T k i : Nat} {sc : Nat → Int32} {M M1 M2 : Mm} {S S' : St} {Q : Option Value → Mm → Prop}
theorem LI.mid (hR : CR M b S) (hRR : RR M (b + 277) S) (hE : STa E M) (hs : mT M s0 = 19 ∧ mS M s0 = L ∧ s0 < mN M ∧ mI M s0 = sc) (hF : Fm (Cw b) M M1) : RR M1 (b + 277) S ∧ STa E M1 ∧ mT M1 s0 = 19 ∧ mS M1 s0 = L ∧ s0 < mN M1 ∧ mI M1 s0 = sc := by
  have hn := hR.1.2.2.2.2.2
  obtain ⟨h1, h2, h3, h4⟩ := hs
  have es := hF.2.2 s0 h3 (Or.inr (by rw [h1]; exact Or.inr rfl))
  refine ⟨hRR.sm (fun z z1 z2 => hF.2.2 z (by omega) (Or.inl (by unfold Cw; omega))), hE.fr hF, by rw [(hF.T h3).1]; exact h1, by rw [(hF.T h3).2]; exact h2, by have := hF.1; omega, by rw [es.2.1]; exact h4⟩
set_option maxRecDepth 40000 in
theorem LI.fin (hR : CR M b S) (hk : Ck b M M1 S S') (hR1 : CR M1 b S') (hRR1 : RR M1 (b + 277) S) (hE1 : STa E M1) (hs : mT M1 s0 = 19 ∧ mS M1 s0 = L ∧ s0 < mN M1 ∧ mI M1 s0 = sc) (hF : Fr (b + 277) M1 M2) (hRR2 : RR M2 (b + 277) S') (hW2 : WfS (T + 99) S') (v1 : PrS S') (v2 : AhS S') (hB : mN M + pNS S ≤ N0 + 480 * k ∧ mU M + pUS S + 6 * N0 ≤ U0' + 6 * mN M) : LI E b s0 L sc N0 U0' (T + 99) (k + 1) M2 S' := by
  have hn := hR.1.2.2.2.2.2
  have tg := hRR1.tag
  have hF2 := hF.fm tg
  obtain ⟨h1, h2, h3, h4⟩ := hs
  have es := hF2.2.2 s0 h3 (Or.inr (by rw [h1]; exact Or.inr rfl))
  refine ⟨hR1.ref hF tg, hRR2, hE1.fr hF2, hW2, v1, v2, ⟨by rw [(hF2.T h3).1]; exact h1, by rw [(hF2.T h3).2]; exact h2, by have := hF2.1; omega, by rw [es.2.1]; exact h4⟩, ?_, ?_⟩
  · rw [hF.2.2.1]
    exact ar1 hk.2.1 hB.1
  · rw [hF.2.2.1, hF.2.2.2.1]
    exact ar2 hk.2.2 hB.2
set_option maxRecDepth 40000 in
theorem LI.same (h : LI E b s0 L sc N0 U0' T k M S) (hT : T + 100 < 2 ^ 20) : LI E b s0 L sc N0 U0' (T + 99) (k + 1) M S := by
  obtain ⟨h1, h2, h3, h4, h5, h6, h7, h8, h9⟩ := h
  exact ⟨h1, h2, h3, WfS.mono h4 (by omega) (by omega), h5, h6, h7, by omega, h9⟩
theorem ivr {S S' : St} (ea : s_a S' = s_a S) (ek : s_k S' = s_k S) (hV : PrS S) (hA : AhS S) : PrS S' ∧ AhS S' := by
  refine ⟨fun K h => ?_, by rw [ea]; exact hA.1, fun K h => hA.2 K (by rw [← ek]; exact h)⟩
  rw [ea]
  exact hV K (by rw [← ek]; exact h)
theorem ivr_row (s so n : Int32) (hV : PrS S) (hA : AhS S) : PrS (fRow S s so n).2 ∧ AhS (fRow S s so n).2 := by
  have h : s_a (fRow S s so n).2 = s_a S ∧ s_k (fRow S s so n).2 = s_k S := by
    unfold fRow
    repeat' split
    all_goals exact ⟨rfl, rfl⟩
  exact ivr h.1 h.2 hV hA
theorem ivr_set (s i : Int32) (v : Int64) (hV : PrS S) (hA : AhS S) : PrS (fSet S s i v).2 ∧ AhS (fSet S s i v).2 := by
  have h : s_a (fSet S s i v).2 = s_a S ∧ s_k (fSet S s i v).2 = s_k S := by
    unfold fSet
    repeat' split
    all_goals exact ⟨rfl, rfl⟩
  exact ivr h.1 h.2 hV hA
theorem ivr_copy (p q i j n : Int32) (hV : PrS S) (hA : AhS S) : PrS (fCopy S p q i j n).2 ∧ AhS (fCopy S p q i j n).2 := by
  have h : s_a (fCopy S p q i j n).2 = s_a S ∧ s_k (fCopy S p q i j n).2 = s_k S := by
    unfold fCopy cpA
    repeat' split
    all_goals exact ⟨rfl, rfl⟩
  exact ivr h.1 h.2 hV hA
theorem ivr_show (s i n : Int32) (hV : PrS S) (hA : AhS S) : PrS (fShow S s i n).2 ∧ AhS (fShow S s i n).2 := by
  have h : s_a (fShow S s i n).2 = s_a S ∧ s_k (fShow S s i n).2 = s_k S := by
    unfold fShow
    repeat' split
    all_goals exact ⟨rfl, rfl⟩
  exact ivr h.1 h.2 hV hA
theorem ivr_says (s n : Int32) (hV : PrS S) (hA : AhS S) : PrS (fSays S s n).2 ∧ AhS (fSays S s n).2 := by
  have h : s_a (fSays S s n).2 = s_a S ∧ s_k (fSays S s n).2 = s_k S := by
    unfold fSays
    repeat' split
    all_goals exact ⟨rfl, rfl⟩
  exact ivr h.1 h.2 hV hA
theorem ivr_feed (n : Int32) (hV : PrS S) (hA : AhS S) : PrS (fFeed S n).2 ∧ AhS (fFeed S n).2 := by
  have h : s_a (fFeed S n).2 = s_a S ∧ s_k (fFeed S n).2 = s_k S := by
    unfold fFeed
    repeat' split
    all_goals exact ⟨rfl, rfl⟩
  exact ivr h.1 h.2 hV hA
theorem ivr_wipe (hV : PrS S) (hA : AhS S) : PrS (fWipe S).2 ∧ AhS (fWipe S).2 := ivr rfl rfl hV hA
theorem ivr_judge (q s n : Int32) (hV : PrS S) (hA : AhS S) : PrS (fJudge S q s n).2 ∧ AhS (fJudge S q s n).2 := by
  have h : s_a (fJudge S q s n).2 = s_a S ∧ s_k (fJudge S q s n).2 = s_k S := by
    unfold fJudge
    repeat' split
    all_goals exact ⟨rfl, rfl⟩
  exact ivr h.1 h.2 hV hA
theorem ivr_topic (hV : PrS S) (hA : AhS S) : PrS (fTopic S).2 ∧ AhS (fTopic S).2 := by
  unfold fTopic
  split
  · exact ivr (S' := (ftS S _).2) rfl rfl hV hA
  · exact ⟨hV, hA.1.cg rfl rfl, hA.2⟩
theorem ivr_queue (l tr le a : Int32) (hV : PrS S) (hA : AhS S) : PrS (fQueue S l tr le a).2 ∧ AhS (fQueue S l tr le a).2 := by
  unfold fQueue
  repeat' split
  all_goals first | exact ivr (S := S) rfl rfl hV hA | skip
  refine ⟨hV, fun q x y hx hy hs => ?_, hA.2⟩
  rcases app_or hx with ⟨_, e⟩ | ⟨_, hx⟩
  · subst e
    cases hy
  · exact hA.1 q x y hx hy hs
theorem ivr_image (hV : PrS S) (hA : AhS S) : PrS (fImage S).2 ∧ AhS (fImage S).2 := by
  refine ⟨fun K h => ?_, hA.1, fun K h => ?_⟩
  · cases h
    exact ⟨[], (List.append_nil _).symm⟩
  · cases h
    exact hA.1
theorem ivr_back (hV : PrS S) (hA : AhS S) : PrS (fBack S).2 ∧ AhS (fBack S).2 := by
  unfold fBack
  cases e : s_k S with
  | none => exact ivr (S := S) rfl rfl hV hA
  | some B =>
    refine ⟨fun K h => ?_, hA.2 B e, hA.2⟩
    have h' : s_k S = some K := h
    rw [e] at h'
    cases h'
    exact ⟨[], (List.append_nil _).symm⟩
end LAWH
section LAWC
variable {E : Nat × Nat} {b s0 L N0 U0' T k i : Nat} {sc : Nat → Int32} {M M1 M2 : Mm} {S S' : St} {Q : Option Value → Mm → Prop}

set_option maxRecDepth 40000 in
theorem law_0 (h : LI E b s0 L sc N0 U0' T k M S) (hi : i + 6 ≤ L) (hL : L ≤ 3072) (hT : T + 100 < 2 ^ 20) (K : ∀ (M2 : Mm) (S2 : St), LI E b s0 L sc N0 U0' (T + 99) (k + 1) M2 S2 → J E 254 1604 [.ref s0, .ref b, .ref (b + 277), .int (nI i)] [] M2 Q) : J E 254 228 [.ref s0, .ref b, .ref (b + 277), .int (nI i)] [] M Q := by
  obtain ⟨hR, hRR, hE, hW, hV, hA, ⟨c1, c2, c3, c4⟩, hB⟩ := h
  refine J_p 5 (ls' := [_, _, _, _]) rfl ?_
  refine J_ia (n := i + 1) (L := L) rfl (nI_add i 1) (Or.inr c1) c2 (by omega) (by omega) (congrFun c4 (i + 1)) ?_
  refine J_p 4 (ls' := [_, _, _, _]) rfl ?_
  refine J_ia (n := i + 2) (L := L) rfl (nI_add i 2) (Or.inr c1) c2 (by omega) (by omega) (congrFun c4 (i + 2)) ?_
  refine J_p 4 (ls' := [_, _, _, _]) rfl ?_
  refine J_ia (n := i + 3) (L := L) rfl (nI_add i 3) (Or.inr c1) c2 (by omega) (by omega) (congrFun c4 (i + 3)) ?_
  refine J_call rfl rfl rfl (decide_eq_true hR.1.1.1) rfl (k_row hR hE hW hT hV (sc (i + 1)) (sc (i + 2)) (sc (i + 3)) rfl (fun M1 hk1 hR1 => ?_))
  show J _ _ _ _ _ _ _
  obtain ⟨hRR1, hE1, d1, d2, d3, d4⟩ := LI.mid hR hRR hE ⟨c1, c2, c3, c4⟩ hk1.1
  refine J_p 5 (ls' := [_, _, _, _]) rfl ?_
  refine J_ia (n := i + 1) (L := L) rfl (nI_add i 1) (Or.inr d1) d2 (by omega) (by omega) (congrFun d4 (i + 1)) ?_
  refine J_p 4 (ls' := [_, _, _, _]) rfl ?_
  refine J_ia (n := i + 2) (L := L) rfl (nI_add i 2) (Or.inr d1) d2 (by omega) (by omega) (congrFun d4 (i + 2)) ?_
  refine J_p 4 (ls' := [_, _, _, _]) rfl ?_
  refine J_ia (n := i + 3) (L := L) rfl (nI_add i 3) (Or.inr d1) d2 (by omega) (by omega) (congrFun d4 (i + 3)) ?_
  refine J_call rfl rfl rfl (decide_eq_true hRR1.1.1) rfl (s_row hRR1 hW hT (sc (i + 1)) (sc (i + 2)) (sc (i + 3)) (fun M2 hF hRR2 hW2 => ?_))
  show J _ _ _ _ _ _ _
  obtain ⟨v1, v2⟩ := ivr_row (sc (i + 1)) (sc (i + 2)) (sc (i + 3)) hV hA
  have hfin := LI.fin hR hk1 hR1 hRR1 hE1 ⟨d1, d2, d3, d4⟩ hF hRR2 hW2 v1 v2 hB
  exact J_ieq rfl (fun _ => K M2 _ hfin) (fun y => absurd rfl y)

set_option maxRecDepth 40000 in
theorem law_1 (h : LI E b s0 L sc N0 U0' T k M S) (hi : i + 6 ≤ L) (hL : L ≤ 3072) (hT : T + 100 < 2 ^ 20) (K : ∀ (M2 : Mm) (S2 : St), LI E b s0 L sc N0 U0' (T + 99) (k + 1) M2 S2 → J E 254 1604 [.ref s0, .ref b, .ref (b + 277), .int (nI i)] [] M2 Q) : J E 254 271 [.ref s0, .ref b, .ref (b + 277), .int (nI i)] [] M Q := by
  obtain ⟨hR, hRR, hE, hW, hV, hA, ⟨c1, c2, c3, c4⟩, hB⟩ := h
  refine J_p 5 (ls' := [_, _, _, _]) rfl ?_
  refine J_ia (n := i + 1) (L := L) rfl (nI_add i 1) (Or.inr c1) c2 (by omega) (by omega) (congrFun c4 (i + 1)) ?_
  refine J_p 4 (ls' := [_, _, _, _]) rfl ?_
  refine J_ia (n := i + 2) (L := L) rfl (nI_add i 2) (Or.inr c1) c2 (by omega) (by omega) (congrFun c4 (i + 2)) ?_
  refine J_p 4 (ls' := [_, _, _, _]) rfl ?_
  refine J_ia (n := i + 3) (L := L) rfl (nI_add i 3) (Or.inr c1) c2 (by omega) (by omega) (congrFun c4 (i + 3)) ?_
  refine J_p 7 (ls' := [_, _, _, _]) rfl ?_
  refine J_ia (n := i + 4) (L := L) rfl (nI_add i 4) (Or.inr c1) c2 (by omega) (by omega) (congrFun c4 (i + 4)) ?_
  refine J_p 4 (ls' := [_, _, _, _]) rfl ?_
  refine J_call rfl rfl rfl (decide_eq_true hR.1.1.1) rfl (k_set hR hE hW hT hV (sc (i + 1)) (sc (i + 2)) _ rfl (fun M1 hk1 hR1 => ?_))
  show J _ _ _ _ _ _ _
  obtain ⟨hRR1, hE1, d1, d2, d3, d4⟩ := LI.mid hR hRR hE ⟨c1, c2, c3, c4⟩ hk1.1
  refine J_p 5 (ls' := [_, _, _, _]) rfl ?_
  refine J_ia (n := i + 1) (L := L) rfl (nI_add i 1) (Or.inr d1) d2 (by omega) (by omega) (congrFun d4 (i + 1)) ?_
  refine J_p 4 (ls' := [_, _, _, _]) rfl ?_
  refine J_ia (n := i + 2) (L := L) rfl (nI_add i 2) (Or.inr d1) d2 (by omega) (by omega) (congrFun d4 (i + 2)) ?_
  refine J_p 4 (ls' := [_, _, _, _]) rfl ?_
  refine J_ia (n := i + 3) (L := L) rfl (nI_add i 3) (Or.inr d1) d2 (by omega) (by omega) (congrFun d4 (i + 3)) ?_
  refine J_p 7 (ls' := [_, _, _, _]) rfl ?_
  refine J_ia (n := i + 4) (L := L) rfl (nI_add i 4) (Or.inr d1) d2 (by omega) (by omega) (congrFun d4 (i + 4)) ?_
  refine J_p 4 (ls' := [_, _, _, _]) rfl ?_
  refine J_call rfl rfl rfl (decide_eq_true hRR1.1.1) rfl (s_set hRR1 hW hT (sc (i + 1)) (sc (i + 2)) _ (fun M2 hF hRR2 hW2 => ?_))
  show J _ _ _ _ _ _ _
  obtain ⟨v1, v2⟩ := ivr_set (sc (i + 1)) (sc (i + 2)) _ hV hA
  have hfin := LI.fin hR hk1 hR1 hRR1 hE1 ⟨d1, d2, d3, d4⟩ hF hRR2 hW2 v1 v2 hB
  exact J_ieq rfl (fun _ => K M2 _ hfin) (fun y => absurd rfl y)

set_option maxRecDepth 40000 in
theorem law_2 (h : LI E b s0 L sc N0 U0' T k M S) (hi : i + 6 ≤ L) (hL : L ≤ 3072) (hT : T + 100 < 2 ^ 20) (K : ∀ (M2 : Mm) (S2 : St), LI E b s0 L sc N0 U0' (T + 99) (k + 1) M2 S2 → J E 254 1604 [.ref s0, .ref b, .ref (b + 277), .int (nI i)] [] M2 Q) : J E 254 344 [.ref s0, .ref b, .ref (b + 277), .int (nI i)] [] M Q := by
  obtain ⟨hR, hRR, hE, hW, hV, hA, ⟨c1, c2, c3, c4⟩, hB⟩ := h
  refine J_p 5 (ls' := [_, _, _, _]) rfl ?_
  refine J_ia (n := i + 1) (L := L) rfl (nI_add i 1) (Or.inr c1) c2 (by omega) (by omega) (congrFun c4 (i + 1)) ?_
  refine J_p 4 (ls' := [_, _, _, _]) rfl ?_
  refine J_ia (n := i + 2) (L := L) rfl (nI_add i 2) (Or.inr c1) c2 (by omega) (by omega) (congrFun c4 (i + 2)) ?_
  refine J_p 4 (ls' := [_, _, _, _]) rfl ?_
  refine J_ia (n := i + 3) (L := L) rfl (nI_add i 3) (Or.inr c1) c2 (by omega) (by omega) (congrFun c4 (i + 3)) ?_
  refine J_p 4 (ls' := [_, _, _, _]) rfl ?_
  refine J_ia (n := i + 4) (L := L) rfl (nI_add i 4) (Or.inr c1) c2 (by omega) (by omega) (congrFun c4 (i + 4)) ?_
  refine J_p 4 (ls' := [_, _, _, _]) rfl ?_
  refine J_ia (n := i + 5) (L := L) rfl (nI_add i 5) (Or.inr c1) c2 (by omega) (by omega) (congrFun c4 (i + 5)) ?_
  refine J_call rfl rfl rfl (decide_eq_true hR.1.1.1) rfl (k_copy hR hE hW hT hV (sc (i + 1)) (sc (i + 2)) (sc (i + 3)) (sc (i + 4)) (sc (i + 5)) rfl (fun M1 hk1 hR1 => ?_))
  show J _ _ _ _ _ _ _
  obtain ⟨hRR1, hE1, d1, d2, d3, d4⟩ := LI.mid hR hRR hE ⟨c1, c2, c3, c4⟩ hk1.1
  refine J_p 5 (ls' := [_, _, _, _]) rfl ?_
  refine J_ia (n := i + 1) (L := L) rfl (nI_add i 1) (Or.inr d1) d2 (by omega) (by omega) (congrFun d4 (i + 1)) ?_
  refine J_p 4 (ls' := [_, _, _, _]) rfl ?_
  refine J_ia (n := i + 2) (L := L) rfl (nI_add i 2) (Or.inr d1) d2 (by omega) (by omega) (congrFun d4 (i + 2)) ?_
  refine J_p 4 (ls' := [_, _, _, _]) rfl ?_
  refine J_ia (n := i + 3) (L := L) rfl (nI_add i 3) (Or.inr d1) d2 (by omega) (by omega) (congrFun d4 (i + 3)) ?_
  refine J_p 4 (ls' := [_, _, _, _]) rfl ?_
  refine J_ia (n := i + 4) (L := L) rfl (nI_add i 4) (Or.inr d1) d2 (by omega) (by omega) (congrFun d4 (i + 4)) ?_
  refine J_p 4 (ls' := [_, _, _, _]) rfl ?_
  refine J_ia (n := i + 5) (L := L) rfl (nI_add i 5) (Or.inr d1) d2 (by omega) (by omega) (congrFun d4 (i + 5)) ?_
  refine J_call rfl rfl rfl (decide_eq_true hRR1.1.1) rfl (s_copy hRR1 hW hT (sc (i + 1)) (sc (i + 2)) (sc (i + 3)) (sc (i + 4)) (sc (i + 5)) (fun M2 hF hRR2 hW2 => ?_))
  show J _ _ _ _ _ _ _
  obtain ⟨v1, v2⟩ := ivr_copy (sc (i + 1)) (sc (i + 2)) (sc (i + 3)) (sc (i + 4)) (sc (i + 5)) hV hA
  have hfin := LI.fin hR hk1 hR1 hRR1 hE1 ⟨d1, d2, d3, d4⟩ hF hRR2 hW2 v1 v2 hB
  exact J_ieq rfl (fun _ => K M2 _ hfin) (fun y => absurd rfl y)

set_option maxRecDepth 40000 in
theorem law_3 (h : LI E b s0 L sc N0 U0' T k M S) (hi : i + 6 ≤ L) (hL : L ≤ 3072) (hT : T + 100 < 2 ^ 20) (K : ∀ (M2 : Mm) (S2 : St), LI E b s0 L sc N0 U0' (T + 99) (k + 1) M2 S2 → J E 254 1604 [.ref s0, .ref b, .ref (b + 277), .int (nI i)] [] M2 Q) : J E 254 407 [.ref s0, .ref b, .ref (b + 277), .int (nI i)] [] M Q := by
  obtain ⟨hR, hRR, hE, hW, hV, hA, ⟨c1, c2, c3, c4⟩, hB⟩ := h
  refine J_p 5 (ls' := [_, _, _, _]) rfl ?_
  refine J_ia (n := i + 1) (L := L) rfl (nI_add i 1) (Or.inr c1) c2 (by omega) (by omega) (congrFun c4 (i + 1)) ?_
  refine J_p 4 (ls' := [_, _, _, _]) rfl ?_
  refine J_ia (n := i + 2) (L := L) rfl (nI_add i 2) (Or.inr c1) c2 (by omega) (by omega) (congrFun c4 (i + 2)) ?_
  refine J_call rfl rfl rfl (decide_eq_true hR.1.1.1) rfl (k_element hR (sc (i + 1)) (sc (i + 2)) ?_)
  show J _ _ _ _ _ _ _
  refine J_p 5 (ls' := [_, _, _, _]) rfl ?_
  refine J_ia (n := i + 1) (L := L) rfl (nI_add i 1) (Or.inr c1) c2 (by omega) (by omega) (congrFun c4 (i + 1)) ?_
  refine J_p 4 (ls' := [_, _, _, _]) rfl ?_
  refine J_ia (n := i + 2) (L := L) rfl (nI_add i 2) (Or.inr c1) c2 (by omega) (by omega) (congrFun c4 (i + 2)) ?_
  refine J_call rfl rfl rfl (decide_eq_true hRR.1.1) rfl (s_element hRR (sc (i + 1)) (sc (i + 2)) ?_)
  show J _ _ _ _ _ _ _
  have hfin := LI.same (E := E) (N0 := N0) (U0' := U0') (k := k) ⟨hR, hRR, hE, hW, hV, hA, ⟨c1, c2, c3, c4⟩, hB⟩ hT
  refine J_p 1 (ls' := [_, _, _, _]) rfl ?_
  exact J_zeq rfl (fun _ => K M S hfin) (fun y => absurd (lgcmp_self _) y)

set_option maxRecDepth 40000 in
theorem law_4 (h : LI E b s0 L sc N0 U0' T k M S) (hi : i + 6 ≤ L) (hL : L ≤ 3072) (hT : T + 100 < 2 ^ 20) (K : ∀ (M2 : Mm) (S2 : St), LI E b s0 L sc N0 U0' (T + 99) (k + 1) M2 S2 → J E 254 1604 [.ref s0, .ref b, .ref (b + 277), .int (nI i)] [] M2 Q) : J E 254 441 [.ref s0, .ref b, .ref (b + 277), .int (nI i)] [] M Q := by
  obtain ⟨hR, hRR, hE, hW, hV, hA, ⟨c1, c2, c3, c4⟩, hB⟩ := h
  refine J_p 5 (ls' := [_, _, _, _]) rfl ?_
  refine J_ia (n := i + 1) (L := L) rfl (nI_add i 1) (Or.inr c1) c2 (by omega) (by omega) (congrFun c4 (i + 1)) ?_
  refine J_call rfl rfl rfl (decide_eq_true hR.1.1.1) rfl (k_holds hR (sc (i + 1)) ?_)
  show J _ _ _ _ _ _ _
  refine J_p 5 (ls' := [_, _, _, _]) rfl ?_
  refine J_ia (n := i + 1) (L := L) rfl (nI_add i 1) (Or.inr c1) c2 (by omega) (by omega) (congrFun c4 (i + 1)) ?_
  refine J_call rfl rfl rfl (decide_eq_true hRR.1.1) rfl (s_holds hRR (sc (i + 1)) ?_)
  show J _ _ _ _ _ _ _
  have hfin := LI.same (E := E) (N0 := N0) (U0' := U0') (k := k) ⟨hR, hRR, hE, hW, hV, hA, ⟨c1, c2, c3, c4⟩, hB⟩ hT
  exact J_ieq rfl (fun _ => K M S hfin) (fun y => absurd rfl y)

set_option maxRecDepth 40000 in
theorem law_5 (h : LI E b s0 L sc N0 U0' T k M S) (hi : i + 6 ≤ L) (hL : L ≤ 3072) (hT : T + 100 < 2 ^ 20) (K : ∀ (M2 : Mm) (S2 : St), LI E b s0 L sc N0 U0' (T + 99) (k + 1) M2 S2 → J E 254 1604 [.ref s0, .ref b, .ref (b + 277), .int (nI i)] [] M2 Q) : J E 254 464 [.ref s0, .ref b, .ref (b + 277), .int (nI i)] [] M Q := by
  obtain ⟨hR, hRR, hE, hW, hV, hA, ⟨c1, c2, c3, c4⟩, hB⟩ := h
  refine J_p 5 (ls' := [_, _, _, _]) rfl ?_
  refine J_ia (n := i + 1) (L := L) rfl (nI_add i 1) (Or.inr c1) c2 (by omega) (by omega) (congrFun c4 (i + 1)) ?_
  refine J_p 4 (ls' := [_, _, _, _]) rfl ?_
  refine J_ia (n := i + 2) (L := L) rfl (nI_add i 2) (Or.inr c1) c2 (by omega) (by omega) (congrFun c4 (i + 2)) ?_
  refine J_p 4 (ls' := [_, _, _, _]) rfl ?_
  refine J_ia (n := i + 3) (L := L) rfl (nI_add i 3) (Or.inr c1) c2 (by omega) (by omega) (congrFun c4 (i + 3)) ?_
  refine J_call rfl rfl rfl (decide_eq_true hR.1.1.1) rfl (k_show hR hE hW hT hV (fun i d hd => (hRR.a.2.2.2.1.2.2 i d hd).1) (sc (i + 1)) (sc (i + 2)) (sc (i + 3)) rfl (fun M1 hk1 hR1 => ?_))
  show J _ _ _ _ _ _ _
  obtain ⟨hRR1, hE1, d1, d2, d3, d4⟩ := LI.mid hR hRR hE ⟨c1, c2, c3, c4⟩ hk1.1
  refine J_p 5 (ls' := [_, _, _, _]) rfl ?_
  refine J_ia (n := i + 1) (L := L) rfl (nI_add i 1) (Or.inr d1) d2 (by omega) (by omega) (congrFun d4 (i + 1)) ?_
  refine J_p 4 (ls' := [_, _, _, _]) rfl ?_
  refine J_ia (n := i + 2) (L := L) rfl (nI_add i 2) (Or.inr d1) d2 (by omega) (by omega) (congrFun d4 (i + 2)) ?_
  refine J_p 4 (ls' := [_, _, _, _]) rfl ?_
  refine J_ia (n := i + 3) (L := L) rfl (nI_add i 3) (Or.inr d1) d2 (by omega) (by omega) (congrFun d4 (i + 3)) ?_
  refine J_call rfl rfl rfl (decide_eq_true hRR1.1.1) rfl (s_show hRR1 hW hT (sc (i + 1)) (sc (i + 2)) (sc (i + 3)) (fun M2 hF hRR2 hW2 => ?_))
  show J _ _ _ _ _ _ _
  obtain ⟨v1, v2⟩ := ivr_show (sc (i + 1)) (sc (i + 2)) (sc (i + 3)) hV hA
  have hfin := LI.fin hR hk1 hR1 hRR1 hE1 ⟨d1, d2, d3, d4⟩ hF hRR2 hW2 v1 v2 hB
  exact J_ieq rfl (fun _ => K M2 _ hfin) (fun y => absurd rfl y)

set_option maxRecDepth 40000 in
theorem law_6 (h : LI E b s0 L sc N0 U0' T k M S) (hi : i + 6 ≤ L) (hL : L ≤ 3072) (hT : T + 100 < 2 ^ 20) (K : ∀ (M2 : Mm) (S2 : St), LI E b s0 L sc N0 U0' (T + 99) (k + 1) M2 S2 → J E 254 1604 [.ref s0, .ref b, .ref (b + 277), .int (nI i)] [] M2 Q) : J E 254 507 [.ref s0, .ref b, .ref (b + 277), .int (nI i)] [] M Q := by
  obtain ⟨hR, hRR, hE, hW, hV, hA, ⟨c1, c2, c3, c4⟩, hB⟩ := h
  refine J_p 5 (ls' := [_, _, _, _]) rfl ?_
  refine J_ia (n := i + 1) (L := L) rfl (nI_add i 1) (Or.inr c1) c2 (by omega) (by omega) (congrFun c4 (i + 1)) ?_
  refine J_p 4 (ls' := [_, _, _, _]) rfl ?_
  refine J_ia (n := i + 2) (L := L) rfl (nI_add i 2) (Or.inr c1) c2 (by omega) (by omega) (congrFun c4 (i + 2)) ?_
  refine J_call rfl rfl rfl (decide_eq_true hR.1.1.1) rfl (k_says hR hE hW hT hV (sc (i + 1)) (sc (i + 2)) rfl (fun M1 hk1 hR1 => ?_))
  show J _ _ _ _ _ _ _
  obtain ⟨hRR1, hE1, d1, d2, d3, d4⟩ := LI.mid hR hRR hE ⟨c1, c2, c3, c4⟩ hk1.1
  refine J_p 5 (ls' := [_, _, _, _]) rfl ?_
  refine J_ia (n := i + 1) (L := L) rfl (nI_add i 1) (Or.inr d1) d2 (by omega) (by omega) (congrFun d4 (i + 1)) ?_
  refine J_p 4 (ls' := [_, _, _, _]) rfl ?_
  refine J_ia (n := i + 2) (L := L) rfl (nI_add i 2) (Or.inr d1) d2 (by omega) (by omega) (congrFun d4 (i + 2)) ?_
  refine J_call rfl rfl rfl (decide_eq_true hRR1.1.1) rfl (s_says hRR1 hW hT (sc (i + 1)) (sc (i + 2)) (fun M2 hF hRR2 hW2 => ?_))
  show J _ _ _ _ _ _ _
  obtain ⟨v1, v2⟩ := ivr_says (sc (i + 1)) (sc (i + 2)) hV hA
  have hfin := LI.fin hR hk1 hR1 hRR1 hE1 ⟨d1, d2, d3, d4⟩ hF hRR2 hW2 v1 v2 hB
  exact J_ieq rfl (fun _ => K M2 _ hfin) (fun y => absurd rfl y)

set_option maxRecDepth 40000 in
theorem law_7 (h : LI E b s0 L sc N0 U0' T k M S) (hi : i + 6 ≤ L) (hL : L ≤ 3072) (hT : T + 100 < 2 ^ 20) (K : ∀ (M2 : Mm) (S2 : St), LI E b s0 L sc N0 U0' (T + 99) (k + 1) M2 S2 → J E 254 1604 [.ref s0, .ref b, .ref (b + 277), .int (nI i)] [] M2 Q) : J E 254 540 [.ref s0, .ref b, .ref (b + 277), .int (nI i)] [] M Q := by
  obtain ⟨hR, hRR, hE, hW, hV, hA, ⟨c1, c2, c3, c4⟩, hB⟩ := h
  refine J_p 5 (ls' := [_, _, _, _]) rfl ?_
  refine J_ia (n := i + 1) (L := L) rfl (nI_add i 1) (Or.inr c1) c2 (by omega) (by omega) (congrFun c4 (i + 1)) ?_
  refine J_call rfl rfl rfl (decide_eq_true hR.1.1.1) rfl (k_feed hR hE hW hT hV (sc (i + 1)) rfl (fun M1 hk1 hR1 => ?_))
  show J _ _ _ _ _ _ _
  obtain ⟨hRR1, hE1, d1, d2, d3, d4⟩ := LI.mid hR hRR hE ⟨c1, c2, c3, c4⟩ hk1.1
  refine J_p 5 (ls' := [_, _, _, _]) rfl ?_
  refine J_ia (n := i + 1) (L := L) rfl (nI_add i 1) (Or.inr d1) d2 (by omega) (by omega) (congrFun d4 (i + 1)) ?_
  refine J_call rfl rfl rfl (decide_eq_true hRR1.1.1) rfl (s_feed hRR1 hW hT (sc (i + 1)) (fun M2 hF hRR2 hW2 => ?_))
  show J _ _ _ _ _ _ _
  obtain ⟨v1, v2⟩ := ivr_feed (sc (i + 1)) hV hA
  have hfin := LI.fin hR hk1 hR1 hRR1 hE1 ⟨d1, d2, d3, d4⟩ hF hRR2 hW2 v1 v2 hB
  exact J_ieq rfl (fun _ => K M2 _ hfin) (fun y => absurd rfl y)

set_option maxRecDepth 40000 in
theorem law_8 (h : LI E b s0 L sc N0 U0' T k M S) (hi : i + 6 ≤ L) (hL : L ≤ 3072) (hT : T + 100 < 2 ^ 20) (K : ∀ (M2 : Mm) (S2 : St), LI E b s0 L sc N0 U0' (T + 99) (k + 1) M2 S2 → J E 254 1604 [.ref s0, .ref b, .ref (b + 277), .int (nI i)] [] M2 Q) : J E 254 563 [.ref s0, .ref b, .ref (b + 277), .int (nI i)] [] M Q := by
  obtain ⟨hR, hRR, hE, hW, hV, hA, ⟨c1, c2, c3, c4⟩, hB⟩ := h
  refine J_p 1 (ls' := [_, _, _, _]) rfl ?_
  refine J_call rfl rfl rfl (decide_eq_true hR.1.1.1) rfl (k_wipe hR hE hW hT hV  rfl (fun M1 hk1 hR1 => ?_))
  show J _ _ _ _ _ _ _
  obtain ⟨hRR1, hE1, d1, d2, d3, d4⟩ := LI.mid hR hRR hE ⟨c1, c2, c3, c4⟩ hk1.1
  refine J_p 1 (ls' := [_, _, _, _]) rfl ?_
  refine J_call rfl rfl rfl (decide_eq_true hRR1.1.1) rfl (s_wipe hRR1 hW hT  (fun M2 hF hRR2 hW2 => ?_))
  show J _ _ _ _ _ _ _
  obtain ⟨v1, v2⟩ := ivr_wipe  hV hA
  have hfin := LI.fin hR hk1 hR1 hRR1 hE1 ⟨d1, d2, d3, d4⟩ hF hRR2 hW2 v1 v2 hB
  exact J_ieq rfl (fun _ => K M2 _ hfin) (fun y => absurd rfl y)

set_option maxRecDepth 40000 in
theorem law_9 (h : LI E b s0 L sc N0 U0' T k M S) (hi : i + 6 ≤ L) (hL : L ≤ 3072) (hT : T + 100 < 2 ^ 20) (K : ∀ (M2 : Mm) (S2 : St), LI E b s0 L sc N0 U0' (T + 99) (k + 1) M2 S2 → J E 254 1604 [.ref s0, .ref b, .ref (b + 277), .int (nI i)] [] M2 Q) : J E 254 576 [.ref s0, .ref b, .ref (b + 277), .int (nI i)] [] M Q := by
  obtain ⟨hR, hRR, hE, hW, hV, hA, ⟨c1, c2, c3, c4⟩, hB⟩ := h
  refine J_p 1 (ls' := [_, _, _, _]) rfl ?_
  refine J_call rfl rfl rfl (decide_eq_true hR.1.1.1) rfl (k_topic hR hE hW hT hV  rfl (fun M1 hk1 hR1 => ?_))
  show J _ _ _ _ _ _ _
  obtain ⟨hRR1, hE1, d1, d2, d3, d4⟩ := LI.mid hR hRR hE ⟨c1, c2, c3, c4⟩ hk1.1
  refine J_p 1 (ls' := [_, _, _, _]) rfl ?_
  refine J_call rfl rfl rfl (decide_eq_true hRR1.1.1) rfl (s_topic hRR1 hW hT  (fun M2 hF hRR2 hW2 => ?_))
  show J _ _ _ _ _ _ _
  obtain ⟨v1, v2⟩ := ivr_topic  hV hA
  have hfin := LI.fin hR hk1 hR1 hRR1 hE1 ⟨d1, d2, d3, d4⟩ hF hRR2 hW2 v1 v2 hB
  exact J_ieq rfl (fun _ => K M2 _ hfin) (fun y => absurd rfl y)

set_option maxRecDepth 40000 in
theorem law_10 (h : LI E b s0 L sc N0 U0' T k M S) (hi : i + 6 ≤ L) (hL : L ≤ 3072) (hT : T + 100 < 2 ^ 20) (K : ∀ (M2 : Mm) (S2 : St), LI E b s0 L sc N0 U0' (T + 99) (k + 1) M2 S2 → J E 254 1604 [.ref s0, .ref b, .ref (b + 277), .int (nI i)] [] M2 Q) : J E 254 589 [.ref s0, .ref b, .ref (b + 277), .int (nI i)] [] M Q := by
  obtain ⟨hR, hRR, hE, hW, hV, hA, ⟨c1, c2, c3, c4⟩, hB⟩ := h
  refine J_p 5 (ls' := [_, _, _, _]) rfl ?_
  refine J_ia (n := i + 1) (L := L) rfl (nI_add i 1) (Or.inr c1) c2 (by omega) (by omega) (congrFun c4 (i + 1)) ?_
  refine J_p 4 (ls' := [_, _, _, _]) rfl ?_
  refine J_ia (n := i + 2) (L := L) rfl (nI_add i 2) (Or.inr c1) c2 (by omega) (by omega) (congrFun c4 (i + 2)) ?_
  refine J_p 4 (ls' := [_, _, _, _]) rfl ?_
  refine J_ia (n := i + 3) (L := L) rfl (nI_add i 3) (Or.inr c1) c2 (by omega) (by omega) (congrFun c4 (i + 3)) ?_
  refine J_p 4 (ls' := [_, _, _, _]) rfl ?_
  refine J_ia (n := i + 4) (L := L) rfl (nI_add i 4) (Or.inr c1) c2 (by omega) (by omega) (congrFun c4 (i + 4)) ?_
  refine J_call rfl rfl rfl (decide_eq_true hR.1.1.1) rfl (k_queue hR hE hW hT hV (sc (i + 1)) (sc (i + 2)) (sc (i + 3)) (sc (i + 4)) rfl (fun M1 hk1 hR1 => ?_))
  show J _ _ _ _ _ _ _
  obtain ⟨hRR1, hE1, d1, d2, d3, d4⟩ := LI.mid hR hRR hE ⟨c1, c2, c3, c4⟩ hk1.1
  refine J_p 5 (ls' := [_, _, _, _]) rfl ?_
  refine J_ia (n := i + 1) (L := L) rfl (nI_add i 1) (Or.inr d1) d2 (by omega) (by omega) (congrFun d4 (i + 1)) ?_
  refine J_p 4 (ls' := [_, _, _, _]) rfl ?_
  refine J_ia (n := i + 2) (L := L) rfl (nI_add i 2) (Or.inr d1) d2 (by omega) (by omega) (congrFun d4 (i + 2)) ?_
  refine J_p 4 (ls' := [_, _, _, _]) rfl ?_
  refine J_ia (n := i + 3) (L := L) rfl (nI_add i 3) (Or.inr d1) d2 (by omega) (by omega) (congrFun d4 (i + 3)) ?_
  refine J_p 4 (ls' := [_, _, _, _]) rfl ?_
  refine J_ia (n := i + 4) (L := L) rfl (nI_add i 4) (Or.inr d1) d2 (by omega) (by omega) (congrFun d4 (i + 4)) ?_
  refine J_call rfl rfl rfl (decide_eq_true hRR1.1.1) rfl (s_queue hRR1 hW hT (sc (i + 1)) (sc (i + 2)) (sc (i + 3)) (sc (i + 4)) (fun M2 hF hRR2 hW2 => ?_))
  show J _ _ _ _ _ _ _
  obtain ⟨v1, v2⟩ := ivr_queue (sc (i + 1)) (sc (i + 2)) (sc (i + 3)) (sc (i + 4)) hV hA
  have hfin := LI.fin hR hk1 hR1 hRR1 hE1 ⟨d1, d2, d3, d4⟩ hF hRR2 hW2 v1 v2 hB
  exact J_ieq rfl (fun _ => K M2 _ hfin) (fun y => absurd rfl y)

set_option maxRecDepth 40000 in
theorem law_11 (h : LI E b s0 L sc N0 U0' T k M S) (hi : i + 6 ≤ L) (hL : L ≤ 3072) (hT : T + 100 < 2 ^ 20) (K : ∀ (M2 : Mm) (S2 : St), LI E b s0 L sc N0 U0' (T + 99) (k + 1) M2 S2 → J E 254 1604 [.ref s0, .ref b, .ref (b + 277), .int (nI i)] [] M2 Q) : J E 254 642 [.ref s0, .ref b, .ref (b + 277), .int (nI i)] [] M Q := by
  obtain ⟨hR, hRR, hE, hW, hV, hA, ⟨c1, c2, c3, c4⟩, hB⟩ := h
  refine J_p 5 (ls' := [_, _, _, _]) rfl ?_
  refine J_ia (n := i + 1) (L := L) rfl (nI_add i 1) (Or.inr c1) c2 (by omega) (by omega) (congrFun c4 (i + 1)) ?_
  refine J_p 4 (ls' := [_, _, _, _]) rfl ?_
  refine J_ia (n := i + 2) (L := L) rfl (nI_add i 2) (Or.inr c1) c2 (by omega) (by omega) (congrFun c4 (i + 2)) ?_
  refine J_call rfl rfl rfl (decide_eq_true hR.1.1.1) rfl (k_exclusive hR hE hW hT hV (sc (i + 1)) (sc (i + 2)) rfl (fun M1 hk1 hR1 => ?_))
  show J _ _ _ _ _ _ _
  obtain ⟨hRR1, hE1, d1, d2, d3, d4⟩ := LI.mid hR hRR hE ⟨c1, c2, c3, c4⟩ hk1.1
  refine J_p 5 (ls' := [_, _, _, _]) rfl ?_
  refine J_ia (n := i + 1) (L := L) rfl (nI_add i 1) (Or.inr d1) d2 (by omega) (by omega) (congrFun d4 (i + 1)) ?_
  refine J_p 4 (ls' := [_, _, _, _]) rfl ?_
  refine J_ia (n := i + 2) (L := L) rfl (nI_add i 2) (Or.inr d1) d2 (by omega) (by omega) (congrFun d4 (i + 2)) ?_
  refine J_call rfl rfl rfl (decide_eq_true hRR1.1.1) rfl (r_exclusive hRR1 hW hT hA.1 (sc (i + 1)) (sc (i + 2)) (fun M2 hF hRR2 hW2 => ?_))
  show J _ _ _ _ _ _ _
  obtain ⟨v1, v2⟩ := iv_lift (f := fun A => fExclusive A (sc (i + 1)) (sc (i + 2))) (iv_exclusive hA.1 (sc (i + 1)) (sc (i + 2))) hV hA
  have hfin := LI.fin hR hk1 hR1 hRR1 hE1 ⟨d1, d2, d3, d4⟩ hF hRR2 hW2 v1 v2 hB
  exact J_ieq rfl (fun _ => K M2 _ hfin) (fun y => absurd rfl y)

set_option maxRecDepth 40000 in
theorem law_12 (h : LI E b s0 L sc N0 U0' T k M S) (hi : i + 6 ≤ L) (hL : L ≤ 3072) (hT : T + 100 < 2 ^ 20) (K : ∀ (M2 : Mm) (S2 : St), LI E b s0 L sc N0 U0' (T + 99) (k + 1) M2 S2 → J E 254 1604 [.ref s0, .ref b, .ref (b + 277), .int (nI i)] [] M2 Q) : J E 254 675 [.ref s0, .ref b, .ref (b + 277), .int (nI i)] [] M Q := by
  obtain ⟨hR, hRR, hE, hW, hV, hA, ⟨c1, c2, c3, c4⟩, hB⟩ := h
  refine J_p 5 (ls' := [_, _, _, _]) rfl ?_
  refine J_ia (n := i + 1) (L := L) rfl (nI_add i 1) (Or.inr c1) c2 (by omega) (by omega) (congrFun c4 (i + 1)) ?_
  refine J_call rfl rfl rfl (decide_eq_true hR.1.1.1) rfl (k_consumer hR hE hW hT hV (sc (i + 1)) rfl (fun M1 hk1 hR1 => ?_))
  show J _ _ _ _ _ _ _
  obtain ⟨hRR1, hE1, d1, d2, d3, d4⟩ := LI.mid hR hRR hE ⟨c1, c2, c3, c4⟩ hk1.1
  refine J_p 5 (ls' := [_, _, _, _]) rfl ?_
  refine J_ia (n := i + 1) (L := L) rfl (nI_add i 1) (Or.inr d1) d2 (by omega) (by omega) (congrFun d4 (i + 1)) ?_
  refine J_call rfl rfl rfl (decide_eq_true hRR1.1.1) rfl (r_consumer hRR1 hW hT hA.1 (sc (i + 1)) (fun M2 hF hRR2 hW2 => ?_))
  show J _ _ _ _ _ _ _
  obtain ⟨v1, v2⟩ := iv_lift (f := fun A => fConsumer A (sc (i + 1))) (iv_consumer hA.1 (sc (i + 1))) hV hA
  have hfin := LI.fin hR hk1 hR1 hRR1 hE1 ⟨d1, d2, d3, d4⟩ hF hRR2 hW2 v1 v2 hB
  exact J_ieq rfl (fun _ => K M2 _ hfin) (fun y => absurd rfl y)

set_option maxRecDepth 40000 in
theorem law_13 (h : LI E b s0 L sc N0 U0' T k M S) (hi : i + 6 ≤ L) (hL : L ≤ 3072) (hT : T + 100 < 2 ^ 20) (K : ∀ (M2 : Mm) (S2 : St), LI E b s0 L sc N0 U0' (T + 99) (k + 1) M2 S2 → J E 254 1604 [.ref s0, .ref b, .ref (b + 277), .int (nI i)] [] M2 Q) : J E 254 698 [.ref s0, .ref b, .ref (b + 277), .int (nI i)] [] M Q := by
  obtain ⟨hR, hRR, hE, hW, hV, hA, ⟨c1, c2, c3, c4⟩, hB⟩ := h
  refine J_p 5 (ls' := [_, _, _, _]) rfl ?_
  refine J_ia (n := i + 1) (L := L) rfl (nI_add i 1) (Or.inr c1) c2 (by omega) (by omega) (congrFun c4 (i + 1)) ?_
  refine J_call rfl rfl rfl (decide_eq_true hR.1.1.1) rfl (k_leave hR hE hW hT hV (sc (i + 1)) rfl (fun M1 hk1 hR1 => ?_))
  show J _ _ _ _ _ _ _
  obtain ⟨hRR1, hE1, d1, d2, d3, d4⟩ := LI.mid hR hRR hE ⟨c1, c2, c3, c4⟩ hk1.1
  refine J_p 5 (ls' := [_, _, _, _]) rfl ?_
  refine J_ia (n := i + 1) (L := L) rfl (nI_add i 1) (Or.inr d1) d2 (by omega) (by omega) (congrFun d4 (i + 1)) ?_
  refine J_call rfl rfl rfl (decide_eq_true hRR1.1.1) rfl (r_leave hRR1 hW hT hA.1 (sc (i + 1)) (fun M2 hF hRR2 hW2 => ?_))
  show J _ _ _ _ _ _ _
  obtain ⟨v1, v2⟩ := iv_lift (f := fun A => fLeave A (sc (i + 1))) (iv_leave hA.1 (sc (i + 1))) hV hA
  have hfin := LI.fin hR hk1 hR1 hRR1 hE1 ⟨d1, d2, d3, d4⟩ hF hRR2 hW2 v1 v2 hB
  exact J_ieq rfl (fun _ => K M2 _ hfin) (fun y => absurd rfl y)

set_option maxRecDepth 40000 in
theorem law_14 (h : LI E b s0 L sc N0 U0' T k M S) (hi : i + 6 ≤ L) (hL : L ≤ 3072) (hT : T + 100 < 2 ^ 20) (K : ∀ (M2 : Mm) (S2 : St), LI E b s0 L sc N0 U0' (T + 99) (k + 1) M2 S2 → J E 254 1604 [.ref s0, .ref b, .ref (b + 277), .int (nI i)] [] M2 Q) : J E 254 721 [.ref s0, .ref b, .ref (b + 277), .int (nI i)] [] M Q := by
  obtain ⟨hR, hRR, hE, hW, hV, hA, ⟨c1, c2, c3, c4⟩, hB⟩ := h
  refine J_p 5 (ls' := [_, _, _, _]) rfl ?_
  refine J_ia (n := i + 1) (L := L) rfl (nI_add i 1) (Or.inr c1) c2 (by omega) (by omega) (congrFun c4 (i + 1)) ?_
  refine J_p 4 (ls' := [_, _, _, _]) rfl ?_
  refine J_ia (n := i + 2) (L := L) rfl (nI_add i 2) (Or.inr c1) c2 (by omega) (by omega) (congrFun c4 (i + 2)) ?_
  refine J_call rfl rfl rfl (decide_eq_true hR.1.1.1) rfl (k_credit hR hE hW hT hV (sc (i + 1)) (sc (i + 2)) rfl (fun M1 hk1 hR1 => ?_))
  show J _ _ _ _ _ _ _
  obtain ⟨hRR1, hE1, d1, d2, d3, d4⟩ := LI.mid hR hRR hE ⟨c1, c2, c3, c4⟩ hk1.1
  refine J_p 5 (ls' := [_, _, _, _]) rfl ?_
  refine J_ia (n := i + 1) (L := L) rfl (nI_add i 1) (Or.inr d1) d2 (by omega) (by omega) (congrFun d4 (i + 1)) ?_
  refine J_p 4 (ls' := [_, _, _, _]) rfl ?_
  refine J_ia (n := i + 2) (L := L) rfl (nI_add i 2) (Or.inr d1) d2 (by omega) (by omega) (congrFun d4 (i + 2)) ?_
  refine J_call rfl rfl rfl (decide_eq_true hRR1.1.1) rfl (r_credit hRR1 hW hT hA.1 (sc (i + 1)) (sc (i + 2)) (fun M2 hF hRR2 hW2 => ?_))
  show J _ _ _ _ _ _ _
  obtain ⟨v1, v2⟩ := iv_lift (f := fun A => fCredit2 A (sc (i + 1)) (sc (i + 2))) (iv_credit hA.1 (sc (i + 1)) (sc (i + 2))) hV hA
  have hfin := LI.fin hR hk1 hR1 hRR1 hE1 ⟨d1, d2, d3, d4⟩ hF hRR2 hW2 v1 v2 hB
  exact J_ieq rfl (fun _ => K M2 _ hfin) (fun y => absurd rfl y)

end LAWC