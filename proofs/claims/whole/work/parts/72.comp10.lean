/-! THE COMPONENT: all that wait go; a consumer's come back. -/
section COMP10
variable {E : Nat × Nat} {M M' : Mm} {Q : Option Value → Mm → Prop} {a q p g m i c : Nat} {f : Nat → Nat} {x : Qa} {ms : List Ma} {l l' : La} {y : Ma}
theorem nI_dec1 (a : Int32) : a + (-1) = a - nI 1 := by
  rw [Int32.sub_eq_add_neg]
  rfl
theorem c_dropWaiting (hS : QS M a q f) (hC : QC M a f x ms) (hw : ∀ (i : Nat) (l : La), (q_ls x)[i]? = some l → l_s l ≤ 2) (k : ∀ (M' : Mm) (f' : Nat → Nat), Fm (Qw a) M M' → Nw M M' → QS M' a q f' → QC M' a f' (x_ls x (puA (q_ls x).length (q_ls x)).1) ms → Q (some (.int (nI (puA (q_ls x).length (q_ls x)).2))) M') : J E 40 0 [.ref a, U0, U0] [] M Q := by
  have n20 := hC.n20
  obtain ⟨n, hn⟩ : ∃ n, (q_ls x).length = n := ⟨_, rfl⟩
  have loop : ∀ (i cnt : Nat) (M1 : Mm) (f1 : Nat → Nat) (L1 : List La), Fm (Qw a) M M1 → Nw M M1 → QS M1 a q f1 → QC M1 a f1 (x_ls x L1) ms → (∀ (i : Nat) (l : La), L1[i]? = some l → l_s l ≤ 2) → i ≤ L1.length → L1.length + cnt = n → (puA i L1).1 = (puA n (q_ls x)).1 → (puA i L1).2 + cnt = (puA n (q_ls x)).2 → J E 40 9 [.ref a, .int (nI n), .int (nI i - nI 1)] [] M1 Q := by
    intro i
    induction i with
    | zero =>
      intro cnt M1 f1 L1 hF hN hS1 hC1 hw1 hi hc e1 e2
      refine J_p 1 (ls' := [_, _, _]) rfl ?_
      refine J_zlt rfl (fun _ => ?_) (fun b => absurd (by decide) b)
      refine J_p 2 (ls' := [_, _, _]) rfl ?_
      refine J_gi rfl hS1.1 hC1.n ?_
      refine J_p 1 (ls' := [_, _, _]) rfl ?_
      refine J_t0 (nI_subE (m := n) (n := L1.length) rfl rfl (by omega)) ?_
      have e3 : n - L1.length = (puA n (q_ls x)).2 := by
        have : (puA 0 L1).2 = 0 := rfl
        omega
      rw [e3, ← hn]
      refine J_ret rfl rfl rfl (k M1 f1 hF hN hS1 ?_)
      rw [hn, ← e1]
      exact hC1
    | succ i ih =>
      intro cnt M1 f1 L1 hF hN hS1 hC1 hw1 hi hc e1 e2
      obtain ⟨l, hl⟩ := get_of (l := L1) (i := i) (by omega)
      have n20' : L1.length ≤ 20 := hC1.n20
      rw [nI_subE (m := i + 1) (n := 1) rfl rfl (by omega), show i + 1 - 1 = i from rfl]
      refine J_p 1 (ls' := [_, _, _]) rfl ?_
      refine J_zlt rfl (fun b => absurd b (nI_pos (by omega))) (fun _ => ?_)
      refine J_p 1 (ls' := [_, _, _]) rfl ?_
      refine J_getR rfl hS1.1 hS1.2.2.2.1 ?_
      refine J_p 1 (ls' := [_, _, _]) rfl ?_
      refine J_aald (n := i) rfl rfl (by rw [hS1.2.2.2.2.2.1]; rfl) hS1.2.2.2.2.2.2.1 (by omega) (by omega) (hS1.el (by omega)) ?_
      have hL : CL M1 (a + 5 + f1 i) l ms := hC1.l (x := x_ls x L1) hl
      refine J_gi rfl (hS1.t3 (by omega)) hL.2.2.2.2.1 ?_
      refine J_p 1 (ls' := [_, _, _]) rfl ?_
      have h2 := hw1 i l hl
      refine J_ieq rfl (fun b => ?_) (fun b => ?_)
      · have e3 : l_s l = 2 := (nI_eq (by omega) (by omega)).mp b
        have ep : puA (i + 1) L1 = puA i L1 := by
          show (match L1[i]? with
            | none => (L1, 0)
            | some l => if l_s l = 2 then puA i L1 else ((puA i (L1.eraseIdx i)).1, (puA i (L1.eraseIdx i)).2 + 1)) = _
          rw [hl]
          exact if_pos e3
        refine J_p 2 (ls' := [_, _, _]) rfl ?_
        rw [nI_dec1]
        exact ih cnt M1 f1 L1 hF hN hS1 hC1 hw1 (by omega) hc (by rw [← ep]; exact e1) (by rw [← ep]; exact e2)
      · have e3 : ¬ l_s l = 2 := fun z => b (by rw [z])
        have ep : puA (i + 1) L1 = ((puA i (L1.eraseIdx i)).1, (puA i (L1.eraseIdx i)).2 + 1) := by
          show (match L1[i]? with
            | none => (L1, 0)
            | some l => if l_s l = 2 then puA i L1 else ((puA i (L1.eraseIdx i)).1, (puA i (L1.eraseIdx i)).2 + 1)) = _
          rw [hl]
          exact if_neg e3
        rw [ep] at e1 e2
        refine J_p 2 (ls' := [_, _, _]) rfl ?_
        refine J_call rfl rfl rfl (decide_eq_true hS1.1) rfl (c_removeAt hS1 hC1 (p := i) (by show i < L1.length; omega) (fun M2 f2 hF2 hN2 hS2 hC2 => ?_))
        show J _ _ _ _ _ _ _
        refine J_p 2 (ls' := [_, _, _]) rfl ?_
        rw [nI_dec1]
        have hlen : (L1.eraseIdx i).length = L1.length - 1 := List.length_eraseIdx_of_lt (by omega)
        refine ih (cnt + 1) M2 f2 (L1.eraseIdx i) (hF.trans hF2) (hN.trans hN2) hS2 hC2 (fun j z hz => ?_) (by omega) (by omega) e1 ?_
        · obtain ⟨j0, _, hj⟩ := er_sub hz
          exact hw1 j0 z hj
        · have e2' : (puA i (L1.eraseIdx i)).2 + 1 + cnt = (puA n (q_ls x)).2 := e2
          omega
  refine J_p 1 (ls' := [_, _, _]) rfl ?_
  refine J_gi rfl hS.1 hC.n ?_
  rw [hn]
  refine J_p 5 (ls' := [_, _, _]) rfl ?_
  exact loop n 0 M f (q_ls x) (Fm.refl _ M) ⟨rfl, rfl, rfl⟩ hS hC hw (by omega) (by omega) rfl rfl
theorem c_takeBack (hS : QS M a q f) (hC : QC M a f x ms) (hw : ∀ (i : Nat) (l : La), (q_ls x)[i]? = some l → l_s l ≤ 2 ∧ (l_s l = 2 → l_x l < 2 ^ 31)) (hc : c < 2 ^ 31) (k : ∀ (M' : Mm), Fm (Qw a) M M' → Nw M M' → QS M' a q f → QC M' a f (x_ls x (backL (q_ls x) c)) ms → Q (some (.int (nI (cnA (outB (q_ls x) c) (q_ls x).length)))) M') : J E 45 0 [.ref a, .int (nI c), U0, U0] [] M Q := by
  have n20 := hC.n20
  obtain ⟨n, hn⟩ : ∃ n, (q_ls x).length = n := ⟨_, rfl⟩
  have loop : ∀ (d kk cnt : Nat) (M1 : Mm) (L1 : List La), kk + d = n → Fm (Qw a) M M1 → Nw M M1 → QS M1 a q f → QC M1 a f (x_ls x L1) ms → (∀ (i : Nat) (l : La), L1[i]? = some l → l_s l ≤ 2 ∧ (l_s l = 2 → l_x l < 2 ^ 31)) → L1.length = n → backL L1 c = backL (q_ls x) c → (∀ j, j < kk → outB L1 c j = false) → cnt + cnA (outB L1 c) L1.length = cnA (outB (q_ls x) c) n → J E 45 4 [.ref a, .int (nI c), .int (nI cnt), .int (nI kk)] [] M1 Q := by
    intro d
    induction d with
    | zero =>
      intro kk cnt M1 L1 hk hF hN hS1 hC1 hw1 hlen eb ho ec
      have hkk : kk = n := by omega
      subst hkk
      refine J_p 2 (ls' := [_, _, _, _]) rfl ?_
      refine J_gi rfl hS1.1 hC1.n ?_
      refine J_ige rfl (fun _ => ?_) (fun b => absurd (nI_le (show L1.length ≤ kk by omega) (by omega)) b)
      refine J_p 1 (ls' := [_, _, _, _]) rfl ?_
      have e0 : cnA (outB L1 c) L1.length = 0 := cnA_zero _ (fun j hj => ho j (by omega))
      have e1 : cnt = cnA (outB (q_ls x) c) (q_ls x).length := by rw [hn]; omega
      rw [e1]
      refine J_ret rfl rfl rfl (k M1 hF hN hS1 ?_)
      rw [← eb, back_id (fun j hj => ho j (by omega))]
      exact hC1
    | succ d ih =>
      intro kk cnt M1 L1 hk hF hN hS1 hC1 hw1 hlen eb ho ec
      obtain ⟨l, hl⟩ := get_of (l := L1) (i := kk) (by omega)
      have hL : CL M1 (a + 5 + f kk) l ms := hC1.l (x := x_ls x L1) hl
      have ht := hS1.t3 (i := kk) (by omega)
      obtain ⟨w1, w2⟩ := hw1 kk l hl
      refine J_p 2 (ls' := [_, _, _, _]) rfl ?_
      refine J_gi rfl hS1.1 hC1.n ?_
      refine J_ige rfl (fun b => absurd b (nI_ge (show kk < L1.length by omega) (show L1.length < 2 ^ 31 by omega))) (fun _ => ?_)
      refine J_p 1 (ls' := [_, _, _, _]) rfl ?_
      refine J_getR rfl hS1.1 hS1.2.2.2.1 ?_
      refine J_p 1 (ls' := [_, _, _, _]) rfl ?_
      refine J_aald (n := kk) rfl rfl (by rw [hS1.2.2.2.2.2.1]; rfl) hS1.2.2.2.2.2.2.1 (by omega) (by omega) (hS1.el (by omega)) ?_
      refine J_p 1 (ls' := [_, _, _, _]) rfl ?_
      refine J_call rfl rfl rfl (decide_eq_true ht) rfl (c_isOutWith ht hL w1 w2 hc (fun h1 h2 => ?_) (fun h => ?_))
      · show J _ _ _ _ _ _ _
        refine J_zeq rfl (fun b => absurd b (by decide)) (fun _ => ?_)
        refine J_p 1 (ls' := [_, _, _, _]) rfl ?_
        refine J_getR rfl hS1.1 hS1.2.2.2.1 ?_
        refine J_p 1 (ls' := [_, _, _, _]) rfl ?_
        refine J_aald (n := kk) rfl rfl (by rw [hS1.2.2.2.2.2.1]; rfl) hS1.2.2.2.2.2.2.1 (by omega) (by omega) (hS1.el (by omega)) ?_
        refine J_call rfl rfl rfl (decide_eq_true ht) rfl (c_makeReady ht ?_)
        show J _ _ _ _ _ _ _
        obtain ⟨M2, hM2⟩ : ∃ X, X = sI (sI (sI M1 (a + 5 + f kk) 4 (nI 0)) (a + 5 + f kk) 6 (-1)) (a + 5 + f kk) 7 (-1) := ⟨_, rfl⟩
        rw [← hM2]
        have fl := hS1.lt (i := kk) (by omega)
        have nr : ¬ rO (mT M1 (a + 5 + f kk)) := hS1.ty ⟨by omega, by omega⟩
        have hFp : Fm (fun z => z = a + 5 + f kk) M1 M2 := by
          rw [hM2]
          exact ((Fm.sI (W := fun z => z = a + 5 + f kk) rfl nr).trans (Fm.sI rfl nr)).trans (Fm.sI rfl nr)
        have hF2 : Fm (Qw a) M1 M2 := hFp.mono (fun b (e : b = a + 5 + f kk) => ⟨by omega, by omega⟩)
        have hN2 : Nw M1 M2 := by rw [hM2]; exact ⟨rfl, rfl, rfl⟩
        have eo : ∀ b, b ≠ a + 5 + f kk → mI M2 b = mI M1 b ∧ mR M2 b = mR M1 b := fun b hb => by
          rw [hM2]
          exact ⟨by rw [mI_s1 _ _ _ hb, mI_s1 _ _ _ hb, mI_s1 _ _ _ hb], rfl⟩
        have hLr : CL M2 (a + 5 + f kk) (rdL l) ms := by
          rw [hM2] at hFp ⊢
          exact hL.rd hFp
        have hC2 : QC M2 a f (x_ls x (L1.set kk (rdL l))) ms := QC.lt (x := x_ls x L1) hS1 hC1 hl hF2 eo hLr
        have hS2 : QS M2 a q f := hS1.sm hN2.1 (by rw [(eo a (by omega)).1]) (fun b h1 h2 => (eo b (by omega)).2)
        refine J_p 3 (ls' := [_, _, _, _]) rfl ?_
        rw [nI_add, nI_add]
        have hbk := back_cn hl h1 h2
        refine ih (kk + 1) (cnt + 1) M2 (L1.set kk (rdL l)) (by omega) (hF.trans hF2) (hN.trans hN2) hS2 hC2 (fun j z hz => ?_) (by rw [List.length_set]; exact hlen) (by rw [back_set hl h1 h2]; exact eb) (fun j hj => ?_) (by omega)
        · rcases set_or hz with ⟨_, rfl⟩ | ⟨_, hz⟩
          · exact ⟨by show (0 : Nat) ≤ 2; omega, fun e => absurd (show (0 : Nat) = 2 from e) (by omega)⟩
          · exact hw1 j z hz
        · by_cases c1 : j = kk
          · subst c1
            cases e : outB (L1.set j (rdL l)) c j with
            | false => rfl
            | true => have := ((outB_iff (set_get hl)).mp e).1; exact absurd (show (0 : Nat) = 2 from this) (by omega)
          · have := ho j (by omega)
            unfold outB at this ⊢
            rw [List.getElem?_set_ne (by omega)]
            exact this
      · show J _ _ _ _ _ _ _
        refine J_zeq rfl (fun _ => ?_) (fun b => absurd rfl b)
        refine J_p 2 (ls' := [_, _, _, _]) rfl ?_
        rw [nI_add]
        refine ih (kk + 1) cnt M1 L1 (by omega) hF hN hS1 hC1 hw1 hlen eb (fun j hj => ?_) ec
        by_cases c1 : j = kk
        · subst c1
          cases e : outB L1 c j with
          | false => rfl
          | true => exact absurd ((outB_iff hl).mp e) h
        · exact ho j (by omega)
  refine J_p 4 (ls' := [_, _, _, _]) rfl ?_
  exact loop n 0 0 M (q_ls x) (by omega) (Fm.refl _ M) ⟨rfl, rfl, rfl⟩ hS hC hw hn rfl (fun j hj => absurd hj (by omega)) (by rw [hn]; omega)
end COMP10