/-! THE COMPONENT: the bits behind the next, drained, a told order, counts, blocked keys. -/
section COMP6
variable {E : Nat × Nat} {M : Mm} {Q : Option Value → Mm → Prop} {a q : Nat} {f : Nat → Nat} {x : Qa} {ms : List Ma}
theorem c_withNext (hS : QS M a q f) (hC : QC M a f x ms) (hw : okL ms (q_ls x)) {G : Nat} (hG : G < 2 ^ 20) (k : Q (some (.int (nI (wnG ms (q_ls x) G)))) M) : J E 52 0 [.ref a, .int (nI G), U0] [] M Q := by
  have n20 := hC.n20
  unfold wnG at k
  refine J_p 2 (ls' := [_, _, _]) rfl ?_
  refine J_call rfl rfl rfl (decide_eq_true hS.1) rfl (c_nextBut hS hC hw (G := G) (by omega) ?_)
  cases hn : nxG ms (q_ls x) G (q_ls x).length with
  | none =>
    rw [hn] at k
    show J _ _ _ _ _ _ _
    refine J_p 3 (ls' := [_, _, _]) rfl ?_
    refine J_ine rfl (fun b => absurd rfl b) (fun _ => ?_)
    refine J_p 2 (ls' := [_, _, _]) rfl ?_
    exact J_ret rfl rfl rfl k
  | some i =>
    rw [hn] at k
    have i1 := (nxG_lt _ _ _ _ _ hn).1
    show J _ _ _ _ _ _ _
    refine J_n0 (n := i) rfl ?_
    refine J_p 3 (ls' := [_, _, _]) rfl ?_
    refine J_ine rfl (fun _ => ?_) (fun b => ?_)
    · refine J_p 5 (ls' := [_, _, _]) rfl ?_
      refine J_t0 (show nI G ||| (nI 1 <<< (nI i &&& 31)) = nI (G ||| 2 ^ i) by rw [nI_shl1 (by omega), nI_or]) ?_
      exact J_ret rfl rfl rfl k
    · have hh := congrArg Int32.toInt b
      rw [nI_toInt (by omega)] at hh
      have h3 : (-1 : Int32).toInt = -1 := by decide
      omega
/-- the letter next behind k others, or none -/
theorem c_nthNext (hS : QS M a q f) (hC : QC M a f x ms) (hw : okL ms (q_ls x)) {k : Nat} (k1 : (drA ms (q_ls x).length (q_ls x))[k]? = none → nxG ms (q_ls x) (gaG ms (q_ls x) k) (q_ls x).length = none → Q (some .null) M) (k2 : ∀ (i : Nat) (l : La), (drA ms (q_ls x).length (q_ls x))[k]? = some (l_m l) → nxG ms (q_ls x) (gaG ms (q_ls x) k) (q_ls x).length = some i → (q_ls x)[i]? = some l → i < 20 → Q (some (.ref (a + 5 + f i))) M) :
    J E 36 0 [.ref a, .int (oI (nxG ms (q_ls x) (gaG ms (q_ls x) k) (q_ls x).length))] [] M Q := by
  have n20 := hC.n20
  have e := dr_gaG ms (q_ls x) k
  cases hn : nxG ms (q_ls x) (gaG ms (q_ls x) k) (q_ls x).length with
  | none =>
    rw [hn] at e
    refine c_letterAt hS hC (fun i l h1 h2 h3 h4 => ?_) (fun _ => k1 e hn)
    obtain ⟨_, _, h5⟩ := ixN_some h1
    exact absurd h5.1 (by decide)
  | some i =>
    have i1 := (nxG_lt _ _ _ _ _ hn).1
    obtain ⟨l, hl⟩ := get_of i1
    rw [hn] at e
    have e' : (drA ms (q_ls x).length (q_ls x))[k]? = some (l_m ((q_ls x).getD i (0, 0, 0, 0, []))) := e
    rw [getD_of hl] at e'
    refine c_letterAt hS hC (s := nI i) (fun i2 l2 h1 h2 h3 h4 => ?_) (fun h1 => ?_)
    · have e2 : i2 = i := ((nI_eq (by omega) (by omega)).mp h4).symm
      subst e2
      exact k2 i2 l e' hn hl (by omega)
    · rw [ixN_nI i1 (by omega)] at h1; cases h1
def drI (ms : List Ma) (L : List La) (i : Int32) : Int32 := match ixN i L.length with
  | none => -1
  | some n => oI (drA ms L.length L)[n]?
theorem c_drainedAt (hS : QS M a q f) (hC : QC M a f x ms) (hw : okL ms (q_ls x)) {i : Int32} (k : Q (some (.int (drI ms (q_ls x) i))) M) : J E 51 0 [.ref a, .int i, U0, U0] [] M Q := by
  have n20 := hC.n20
  unfold drI at k
  refine J_p 2 (ls' := [_, _, _, _]) rfl ?_
  refine J_gi rfl hS.1 hC.n ?_
  refine J_call rfl rfl rfl rfl rfl (c_isBelow (by omega) (fun n h1 l1 e1 => ?_) (fun h1 => ?_))
  · subst e1
    rw [h1] at k
    simp only at k
    show J _ _ _ _ _ _ _
    refine J_zne rfl (fun _ => ?_) (fun b => absurd b (by decide))
    have fin : J E 51 34 [.ref a, .int (nI n), .int (nI (gaG ms (q_ls x) n)), .int (nI n)] [] M Q := by
      have hG := gaG_lt (ms := ms) n20 n
      refine J_p 3 (ls' := [_, _, _, _]) rfl ?_
      refine J_call rfl rfl rfl (decide_eq_true hS.1) rfl (c_nextBut hS hC hw (by omega) ?_)
      show J _ _ _ _ _ _ _
      refine J_call rfl rfl rfl (decide_eq_true hS.1) rfl (c_nthNext hS hC hw (fun h2 _ => ?_) (fun j l h2 h3 hl hj => ?_))
      · rw [h2] at k
        show J _ _ _ _ _ _ _
        refine J_p 2 (ls' := [_, _, _, _]) rfl ?_
        refine J_brF rfl rfl rfl ?_
        refine J_p 2 (ls' := [_, _, _, _]) rfl ?_
        exact J_ret rfl rfl rfl k
      · rw [h2] at k
        show J _ _ _ _ _ _ _
        refine J_p 2 (ls' := [_, _, _, _]) rfl ?_
        refine J_brT rfl rfl rfl ?_
        refine J_p 1 (ls' := [_, _, _, _]) rfl ?_
        refine J_gi rfl (hS.t3 hj) (hC.l hl).1 ?_
        exact J_ret rfl rfl rfl k
    have loop : ∀ (d kk : Nat), kk + d = n → J E 51 17 [.ref a, .int (nI n), .int (nI (gaG ms (q_ls x) kk)), .int (nI kk)] [] M Q := by
      intro d
      induction d with
      | zero =>
        intro kk hk
        obtain rfl : kk = n := by omega
        refine J_p 2 (ls' := [_, _, _, _]) rfl ?_
        refine J_ige rfl (fun _ => fin) (fun b => absurd (nI_le (by omega) (by omega)) b)
      | succ d ih =>
        intro kk hk
        refine J_p 2 (ls' := [_, _, _, _]) rfl ?_
        refine J_ige rfl (fun b => absurd b (nI_ge (by omega) (by omega))) (fun _ => ?_)
        refine J_p 2 (ls' := [_, _, _, _]) rfl ?_
        refine J_call rfl rfl rfl (decide_eq_true hS.1) rfl (c_withNext hS hC hw (gaG_lt n20 kk) ?_)
        show J _ _ _ _ _ _ _
        refine J_p 3 (ls' := [_, _, _, _]) rfl ?_
        rw [nI_add kk 1]
        exact ih (kk + 1) (by omega)
    refine J_p 4 (ls' := [_, _, _, _]) rfl ?_
    exact loop n 0 (by omega)
  · rw [h1] at k
    show J _ _ _ _ _ _ _
    refine J_zne rfl (fun b => absurd rfl b) (fun _ => ?_)
    refine J_p 1 (ls' := [_, _, _, _]) rfl ?_
    exact J_ret rfl rfl rfl k
theorem c_firstWrong (hS : QS M a q f) (hC : QC M a f x ms) (hw : okL ms (q_ls x)) {tr n : Nat} {els : List Int64} (ht : mT M tr = 21) (hs : mS M tr = 40) (hn : n ≤ els.length) (h40 : els.length ≤ 40) (he : ∀ (k : Nat) (v : Int64), els[k]? = some v → mL M tr k = v) (k : Q (some (.int (juA els (drA ms (q_ls x).length (q_ls x)) n n 0))) M) : J E 53 0 [.ref a, .ref tr, .int (nI n), U0, U0, U0] [] M Q := by
  have n20 := hC.n20
  have fin : Q (some (.int (juA els (drA ms (q_ls x).length (q_ls x)) n 0 n))) M → ∀ v5 : Value, J E 53 63 [.ref a, .ref tr, .int (nI n), .int (nI (gaG ms (q_ls x) n)), .int (nI n), v5] [] M Q := fun k' v5 => by
    have hG := gaG_lt (ms := ms) n20 n
    refine J_p 2 (ls' := [_, _, _, _, _, _]) rfl ?_
    refine J_call rfl rfl rfl (decide_eq_true hS.1) rfl (c_nextBut hS hC hw (by omega) ?_)
    have e := dr_gaG ms (q_ls x) n
    cases hx : nxG ms (q_ls x) (gaG ms (q_ls x) n) (q_ls x).length with
    | none =>
      rw [hx] at e
      have e' : (drA ms (q_ls x).length (q_ls x))[n]? = none := e
      have hl := List.getElem?_eq_none_iff.mp e'
      show J _ _ _ _ _ _ _
      refine J_p 1 (ls' := [_, _, _, _, _, _]) rfl ?_
      refine J_ine rfl (fun b => absurd rfl b) (fun _ => ?_)
      refine J_p 2 (ls' := [_, _, _, _, _, _]) rfl ?_
      rw [show juA els (drA ms (q_ls x).length (q_ls x)) n 0 n = -1 from if_neg (by omega)] at k'
      exact J_ret rfl rfl rfl k'
    | some i =>
      have i1 := (nxG_lt _ _ _ _ _ hx).1
      rw [hx] at e
      have hl := li (show (drA ms (q_ls x).length (q_ls x))[n]? = some _ from e)
      show J _ _ _ _ _ _ _
      refine J_n0 (n := i) rfl ?_
      refine J_p 1 (ls' := [_, _, _, _, _, _]) rfl ?_
      refine J_ine rfl (fun _ => ?_) (fun b => ?_)
      · refine J_p 1 (ls' := [_, _, _, _, _, _]) rfl ?_
        rw [show juA els (drA ms (q_ls x).length (q_ls x)) n 0 n = nI n from if_pos hl] at k'
        exact J_ret rfl rfl rfl k'
      · have hh := congrArg Int32.toInt b
        rw [nI_toInt (by omega)] at hh
        have h3 : (-1 : Int32).toInt = -1 := by decide
        omega
  have loop : ∀ (d kk : Nat) (v5 : Value), kk + d = n → Q (some (.int (juA els (drA ms (q_ls x).length (q_ls x)) n d kk))) M → J E 53 5 [.ref a, .ref tr, .int (nI n), .int (nI (gaG ms (q_ls x) kk)), .int (nI kk), v5] [] M Q := by
    intro d
    induction d with
    | zero =>
      intro kk v5 hk k'
      obtain rfl : kk = n := by omega
      refine J_p 2 (ls' := [_, _, _, _, _, _]) rfl ?_
      refine J_ige rfl (fun _ => fin k' v5) (fun b => absurd (nI_le (by omega) (by omega)) b)
    | succ d ih =>
      intro kk v5 hk k'
      have hG := gaG_lt (ms := ms) n20 kk
      obtain ⟨v, hv⟩ := get_of (l := els) (i := kk) (by omega)
      have hv2 := he kk v hv
      have bad : ∀ v6 : Value, juA els (drA ms (q_ls x).length (q_ls x)) n (d + 1) kk = nI kk → J E 53 48 [.ref a, .ref tr, .int (nI n), .int (nI (gaG ms (q_ls x) kk)), .int (nI kk), v6] [] M Q := fun v6 e => by
        rw [e] at k'
        refine J_p 1 (ls' := [_, _, _, _, _, _]) rfl ?_
        exact J_ret rfl rfl rfl k'
      refine J_p 2 (ls' := [_, _, _, _, _, _]) rfl ?_
      refine J_ige rfl (fun b => absurd b (nI_ge (by omega) (by omega))) (fun _ => ?_)
      refine J_p 2 (ls' := [_, _, _, _, _, _]) rfl ?_
      refine J_len rfl (Or.inr (Or.inr (Or.inl ht))) hs ?_
      refine J_ige rfl (fun b => absurd b (nI_ge (by omega) (by omega))) (fun _ => ?_)
      refine J_p 3 (ls' := [_, _, _, _, _, _]) rfl ?_
      refine J_call rfl rfl rfl (decide_eq_true hS.1) rfl (c_nextBut hS hC hw (by omega) ?_)
      show J _ _ _ _ _ _ _
      refine J_call rfl rfl rfl (decide_eq_true hS.1) rfl (c_nthNext hS hC hw (fun h2 _ => ?_) (fun j l h2 h3 hl hj => ?_))
      · show J _ _ _ _ _ _ _
        refine J_p 2 (ls' := [_, _, _, _, _, _]) rfl ?_
        refine J_brT rfl rfl rfl ?_
        exact bad _ (by simp only [juA, h2])
      · have hm := (hw j l hl).2.2.2.1
        show J _ _ _ _ _ _ _
        refine J_p 2 (ls' := [_, _, _, _, _, _]) rfl ?_
        refine J_brF rfl rfl rfl ?_
        refine J_p 2 (ls' := [_, _, _, _, _, _]) rfl ?_
        refine J_la (n := kk) rfl rfl ht hs (by omega) (by omega) hv2 ?_
        refine J_p 1 (ls' := [_, _, _, _, _, _]) rfl ?_
        refine J_gi rfl (hS.t3 hj) (hC.l hl).1 ?_
        refine J_p 2 (ls' := [_, _, _, _, _, _]) rfl ?_
        refine J_zeq rfl (fun b => ?_) (fun b => ?_)
        · have ev : v = lN (l_m l) := by rw [lN_i64 (by omega)]; exact lg_cmpZ b
          have e : juA els (drA ms (q_ls x).length (q_ls x)) n (d + 1) kk = juA els (drA ms (q_ls x).length (q_ls x)) n d (kk + 1) := by simp only [juA, h2, getD_of hv, if_pos ev]
          rw [e] at k'
          refine J_p 2 (ls' := [_, _, _, _, _, _]) rfl ?_
          refine J_call rfl rfl rfl (decide_eq_true hS.1) rfl (c_withNext hS hC hw hG ?_)
          show J _ _ _ _ _ _ _
          refine J_p 3 (ls' := [_, _, _, _, _, _]) rfl ?_
          rw [nI_add kk 1]
          exact ih (kk + 1) _ (by omega) k'
        · refine bad _ ?_
          have ev : ¬ v = lN (l_m l) := fun y => b (by rw [y, lN_i64 (by omega)]; unfold lg_cmp; rw [if_neg (by rw [gt_iff_lt, Int64.lt_iff_toInt_lt]; omega), if_pos rfl])
          simp only [juA, h2, getD_of hv, if_neg ev]
  refine J_p 4 (ls' := [_, _, _, _, _, _]) rfl ?_
  exact loop n 0 _ (by omega) k
theorem c_countMayGo (hS : QS M a q f) (hC : QC M a f x ms) (hw : okL ms (q_ls x)) (k : Q (some (.int (nI (cnA (mayA ms (q_ls x)) (q_ls x).length)))) M) : J E 49 0 [.ref a, U0, U0] [] M Q := by
  have n20 := hC.n20
  have loop : ∀ (d kk : Nat), kk + d = (q_ls x).length → J E 49 4 [.ref a, .int (nI (cnA (mayA ms (q_ls x)) kk)), .int (nI kk)] [] M Q := by
    intro d
    induction d with
    | zero =>
      intro kk hk
      have hkk : kk = (q_ls x).length := by omega
      refine J_p 2 (ls' := [_, _, _]) rfl ?_
      refine J_gi rfl hS.1 hC.n ?_
      refine J_ige rfl (fun _ => ?_) (fun b => absurd (nI_le (by omega) (by omega)) b)
      refine J_p 1 (ls' := [_, _, _]) rfl ?_
      subst hkk
      exact J_ret rfl rfl rfl k
    | succ d ih =>
      intro kk hk
      obtain ⟨l, hl⟩ := get_of (l := q_ls x) (i := kk) (by omega)
      refine J_p 2 (ls' := [_, _, _]) rfl ?_
      refine J_gi rfl hS.1 hC.n ?_
      refine J_ige rfl (fun b => absurd b (nI_ge (by omega) (by omega))) (fun _ => ?_)
      refine J_p 4 (ls' := [_, _, _]) rfl ?_
      refine J_call rfl rfl rfl (decide_eq_true hS.1) rfl (c_mayGoBut hS hC hw hl (G := 0) (by omega) (fun hm => ?_) (fun hm => ?_))
      · rw [mayG_0] at hm
        show J _ _ _ _ _ _ _
        refine J_call rfl rfl rfl rfl rfl (c_asBit1 ?_)
        show J _ _ _ _ _ _ _
        refine J_p 4 (ls' := [_, _, _]) rfl ?_
        rw [nI_add kk 1, nI_add (cnA (mayA ms (q_ls x)) kk) 1, ← cnA_t hm]
        exact ih (kk + 1) (by omega)
      · rw [mayG_0] at hm
        show J _ _ _ _ _ _ _
        refine J_call rfl rfl rfl rfl rfl (c_asBit0 ?_)
        show J _ _ _ _ _ _ _
        refine J_p 4 (ls' := [_, _, _]) rfl ?_
        rw [nI_add kk 1, nI_add (cnA (mayA ms (q_ls x)) kk) 0, Nat.add_zero, ← cnA_f hm]
        exact ih (kk + 1) (by omega)
  refine J_p 4 (ls' := [_, _, _]) rfl ?_
  exact loop (q_ls x).length 0 (by omega)
theorem or_0 (y : Int32) : y ||| nI 0 = y := by
  apply Int32.toBitVec_inj.1
  show y.toBitVec ||| BitVec.ofNat 32 0 = y.toBitVec
  exact BitVec.or_zero
theorem c_blockedKeys (hS : QS M a q f) (hC : QC M a f x ms) (hw : okL ms (q_ls x)) (k : Q (some (.int (rdI ms (q_ls x) (q_ls x).length &&& (opI ms (q_ls x) (q_ls x).length ^^^ (-1))))) M) : J E 50 0 [.ref a, U0, U0, U0] [] M Q := by
  have n20 := hC.n20
  have loop : ∀ (d kk : Nat), kk + d = (q_ls x).length → J E 50 6 [.ref a, .int (rdI ms (q_ls x) kk), .int (opI ms (q_ls x) kk), .int (nI kk)] [] M Q := by
    intro d
    induction d with
    | zero =>
      intro kk hk
      have hkk : kk = (q_ls x).length := by omega
      refine J_p 2 (ls' := [_, _, _, _]) rfl ?_
      refine J_gi rfl hS.1 hC.n ?_
      refine J_ige rfl (fun _ => ?_) (fun b => absurd (nI_le (by omega) (by omega)) b)
      refine J_p 5 (ls' := [_, _, _, _]) rfl ?_
      subst hkk
      exact J_ret rfl rfl rfl k
    | succ d ih =>
      intro kk hk
      obtain ⟨l, hl⟩ := get_of (l := q_ls x) (i := kk) (by omega)
      have hL := hC.l hl
      have ht := hS.t3 (i := kk) (by omega)
      have hwl := hw kk l hl
      have s2 : ∀ R, rdI ms (q_ls x) (kk + 1) = R → J E 50 40 [.ref a, .int R, .int (opI ms (q_ls x) kk), .int (nI kk)] [] M Q := fun R hR => by
        have nxt : ∀ O, opI ms (q_ls x) (kk + 1) = O → J E 50 63 [.ref a, .int R, .int O, .int (nI kk)] [] M Q := fun O hO => by
          refine J_p 2 (ls' := [_, _, _, _]) rfl ?_
          rw [nI_add kk 1, ← hR, ← hO]
          exact ih (kk + 1) (by omega)
        refine J_p 3 (ls' := [_, _, _, _]) rfl ?_
        refine J_call rfl rfl rfl (decide_eq_true hS.1) rfl (c_mayGoBut hS hC hw hl (G := 0) (by omega) (fun hm => ?_) (fun hm => ?_))
        · rw [mayG_0] at hm
          show J _ _ _ _ _ _ _
          refine J_zeq rfl (fun b => absurd b (by decide)) (fun _ => ?_)
          refine J_p 3 (ls' := [_, _, _, _]) rfl ?_
          refine J_getR rfl hS.1 hS.2.2.2.1 ?_
          refine J_p 1 (ls' := [_, _, _, _]) rfl ?_
          refine J_aald (n := kk) rfl rfl (by rw [hS.2.2.2.2.2.1]; rfl) hS.2.2.2.2.2.2.1 (by omega) (by omega) (hS.el (by omega)) ?_
          refine J_gi rfl ht hL.2.1 ?_
          refine J_p 3 (ls' := [_, _, _, _]) rfl ?_
          refine nxt _ ?_
          simp only [opI, hm, if_true, getD_of hl]
        · rw [mayG_0] at hm
          show J _ _ _ _ _ _ _
          refine J_zeq rfl (fun _ => ?_) (fun b => absurd rfl b)
          refine nxt _ ?_
          simp only [opI, if_neg hm]
          exact or_0 _
      refine J_p 2 (ls' := [_, _, _, _]) rfl ?_
      refine J_gi rfl hS.1 hC.n ?_
      refine J_ige rfl (fun b => absurd b (nI_ge (by omega) (by omega))) (fun _ => ?_)
      refine J_p 1 (ls' := [_, _, _, _]) rfl ?_
      refine J_getR rfl hS.1 hS.2.2.2.1 ?_
      refine J_p 1 (ls' := [_, _, _, _]) rfl ?_
      refine J_aald (n := kk) rfl rfl (by rw [hS.2.2.2.2.2.1]; rfl) hS.2.2.2.2.2.2.1 (by omega) (by omega) (hS.el (by omega)) ?_
      refine J_gi rfl ht hL.2.2.2.2.1 ?_
      have es : stB (q_ls x) 0 kk = decide (l_s l = 0) := by unfold stB; rw [hl]
      refine J_zne rfl (fun b => ?_) (fun b => ?_)
      · refine s2 _ ?_
        have : ¬ stB (q_ls x) 0 kk = true := by rw [es]; exact fun y => b (by rw [of_decide_eq_true y]; rfl)
        simp only [rdI, if_neg this]
        exact or_0 _
      · have : stB (q_ls x) 0 kk = true := by rw [es]; exact decide_eq_true ((nI_eq (b := 0) (by omega) (by omega)).mp b)
        refine J_p 3 (ls' := [_, _, _, _]) rfl ?_
        refine J_getR rfl hS.1 hS.2.2.2.1 ?_
        refine J_p 1 (ls' := [_, _, _, _]) rfl ?_
        refine J_aald (n := kk) rfl rfl (by rw [hS.2.2.2.2.2.1]; rfl) hS.2.2.2.2.2.2.1 (by omega) (by omega) (hS.el (by omega)) ?_
        refine J_gi rfl ht hL.2.1 ?_
        refine J_p 3 (ls' := [_, _, _, _]) rfl ?_
        refine s2 _ ?_
        simp only [rdI, this, if_true, getD_of hl]
  refine J_p 6 (ls' := [_, _, _, _]) rfl ?_
  exact loop (q_ls x).length 0 (by omega)
end COMP6