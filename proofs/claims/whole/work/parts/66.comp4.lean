/-! THE COMPONENT: what may go, what is next, with some gone. -/
theorem sml : ∀ n, n < 32 → ((nI n &&& 31).toBitVec.smod 32).toNat = n := by decide +kernel
theorem nI_or (a b : Nat) : nI a ||| nI b = nI (a ||| b) := by
  apply Int32.toBitVec_inj.1
  show BitVec.ofNat 32 a ||| BitVec.ofNat 32 b = BitVec.ofNat 32 (a ||| b)
  exact BitVec.ofNat_or.symm
theorem nI_shl1 {p : Nat} (h : p < 31) : nI 1 <<< (nI p &&& 31) = nI (2 ^ p) := by
  have h2 : 2 ^ p < 2 ^ 31 := Nat.pow_lt_pow_right (by omega) h
  rw [pk_shlN (nI p &&& 31) p (sml p (by omega)) (by omega), Nat.one_mul]
theorem nI_bit {p G : Nat} (hp : p < 32) (hG : G < 2 ^ 31) : (nI G >>> (nI p &&& 31)) &&& nI 1 = nI (G / 2 ^ p % 2) := by
  rw [pk_shrN hG (nI p &&& 31) p (sml p hp)]
  exact pk_andN (by have := Nat.div_le_self G (2 ^ p); omega) 1 (by decide)
theorem tb_mod (G p : Nat) : G.testBit p = true ↔ G / 2 ^ p % 2 = 1 := by
  rw [Nat.testBit_eq_decide_div_mod_eq, decide_eq_true_eq]
def mayG (ms : List Ma) (L : List La) (G i : Nat) : Bool := match L[i]? with
  | none => false
  | some l => decide (l_s l = 0) && !(G.testBit i) && (List.range i).all (fun k => G.testBit k || decide (kyA ms (L.getD k (0, 0, 0, 0, [])) ≠ kyA ms l))
theorem mayG_iff {ms : List Ma} {L : List La} {G i : Nat} {l : La} (hl : L[i]? = some l) : mayG ms L G i = true ↔ l_s l = 0 ∧ G.testBit i = false ∧ ∀ (k : Nat) (y : La), k < i → L[k]? = some y → G.testBit k = false → kyA ms y ≠ kyA ms l := by
  unfold mayG
  rw [hl]
  simp only [Bool.and_eq_true, decide_eq_true_eq, Bool.not_eq_true', List.all_eq_true, Bool.or_eq_true, and_assoc]
  refine and_congr_right (fun _ => and_congr_right (fun _ => ⟨fun h k y hk hy hg => ?_, fun h k hk => ?_⟩))
  · have := h k (List.mem_range.mpr hk)
    rw [getD_of hy] at this
    rcases this with z | z
    · rw [hg] at z; cases z
    · exact z
  · have hk' := List.mem_range.mp hk
    obtain ⟨y, hy⟩ := get_of (l := L) (i := k) (by have := li hl; omega)
    rw [getD_of hy]
    cases hg : G.testBit k with
    | true => exact Or.inl rfl
    | false => exact Or.inr (h k y hk' hy hg)
def nxG (ms : List Ma) (L : List La) (G : Nat) : Nat → Option Nat
  | 0 => none
  | i + 1 => if mayG ms L G i = true then (match nxG ms L G i with
    | none => some i
    | some b => if prA ms (L.getD b (0, 0, 0, 0, [])) < prA ms (L.getD i (0, 0, 0, 0, [])) then some i else some b) else nxG ms L G i
theorem mayG_0 (ms : List Ma) (L : List La) (i : Nat) : mayG ms L 0 i = mayA ms L i := by
  cases hl : L[i]? with
  | none => unfold mayG mayA; rw [hl]
  | some l =>
    rw [Bool.eq_iff_iff, mayG_iff hl, mayA_iff hl]
    refine and_congr_right (fun _ => ⟨fun h k y hk hy => h.2 k y hk hy (Nat.zero_testBit k), fun h => ⟨Nat.zero_testBit i, fun k y hk hy _ => h k y hk hy⟩⟩)
theorem nxG_0 (ms : List Ma) (L : List La) : ∀ n, nxG ms L 0 n = nxA ms L n
  | 0 => rfl
  | n + 1 => by
    unfold nxG nxA
    rw [mayG_0, nxG_0 ms L n]
    all_goals (cases nxA ms L n <;> rfl)
theorem nxG_lt (ms : List Ma) (L : List La) (G : Nat) : ∀ n b, nxG ms L G n = some b → b < n ∧ mayG ms L G b = true
  | 0, _, h => by cases h
  | n + 1, b, h => by
    unfold nxG at h
    split at h
    · rename_i c
      split at h
      · cases h; exact ⟨Nat.lt_succ_self _, c⟩
      · rename_i b' hb
        have := nxG_lt ms L G n b' hb
        split at h
        · cases h; exact ⟨Nat.lt_succ_self _, c⟩
        · cases h; exact ⟨by omega, this.2⟩
    · have := nxG_lt ms L G n b h
      exact ⟨by omega, this.2⟩
/-- the best priority so far -/
def bpG (ms : List Ma) (L : List La) (G n : Nat) : Int32 := match nxG ms L G n with
  | none => -1
  | some b => nI (prA ms (L.getD b (0, 0, 0, 0, [])))
/-- what letters hold within bounds -/
def okL (ms : List Ma) (L : List La) : Prop := ∀ (i : Nat) (l : La), L[i]? = some l → l_s l ≤ 2 ∧ kyA ms l < 8 ∧ prA ms l < 4 ∧ l_m l < 300 ∧ (l_s l = 2 → l_x l < 10)
def poA (L : List La) (c : Nat) (m : Int32) : Option Nat := match plA L m L.length 0 with
  | none => none
  | some i => if outB L c i = true then some i else none
section COMP4
variable {E : Nat × Nat} {M : Mm} {Q : Option Value → Mm → Prop} {a q : Nat} {f : Nat → Nat} {x : Qa} {ms : List Ma}
theorem okL.w {L : List La} (h : okL ms L) (i : Nat) (l : La) (hl : L[i]? = some l) : l_s l ≤ 2 ∧ (l_s l = 2 → l_x l < 2 ^ 31) := ⟨(h i l hl).1, fun e => by have := (h i l hl).2.2.2.2 e; omega⟩
theorem c_isGone {p G : Nat} (hp : p < 32) (hG : G < 2 ^ 31) (kt : G.testBit p = true → Q (some (.int (nI 1))) M) (kf : G.testBit p = false → Q (some (.int (nI 0))) M) : J E 47 0 [.int (nI p), .int (nI G)] [] M Q := by
  refine J_p 5 (ls' := [_, _]) rfl ?_
  refine J_t0 rfl ?_
  rw [nI_bit hp hG]
  have hm := Nat.mod_lt (G / 2 ^ p) (show 2 > 0 by omega)
  refine J_p 1 (ls' := [_, _]) rfl ?_
  refine J_ine rfl (fun b => ?_) (fun b => ?_)
  · refine J_p 1 (ls' := [_, _]) rfl ?_
    refine J_retB rfl (by decide) (kf ?_)
    cases h : G.testBit p with
    | false => rfl
    | true => exact absurd (by rw [(tb_mod G p).mp h]) b
  · refine J_p 2 (ls' := [_, _]) rfl ?_
    exact J_retB rfl (by decide) (kt ((tb_mod G p).mpr ((nI_eq (by omega) (by omega)).mp b)))
theorem c_placeOut (hS : QS M a q f) (hC : QC M a f x ms) {c : Nat} {m : Int32} (hc : c < 2 ^ 31) (hw : okL ms (q_ls x)) (k : Q (some (.int (oI (poA (q_ls x) c m)))) M) : J E 42 0 [.ref a, .int (nI c), .int m, U0, U0] [] M Q := by
  have n20 := hC.n20
  unfold poA at k
  refine J_p 2 (ls' := [_, _, _, _, _]) rfl ?_
  refine J_call rfl rfl rfl (decide_eq_true hS.1) rfl (c_placeOf hS hC (m := m) ?_)
  cases hp : plA (q_ls x) m (q_ls x).length 0 with
  | none =>
    rw [hp] at k
    show J _ _ _ _ _ _ _
    refine J_p 3 (ls' := [_, _, _, _, _]) rfl ?_
    refine J_call rfl rfl rfl (decide_eq_true hS.1) rfl (c_letterAt hS hC (fun i l h1 h2 h3 h4 => ?_) (fun h1 => ?_))
    · obtain ⟨_, _, h5⟩ := ixN_some h1
      exact absurd h5.1 (by decide)
    · show J _ _ _ _ _ _ _
      refine J_p 2 (ls' := [_, _, _, _, _]) rfl ?_
      refine J_brT rfl rfl rfl ?_
      refine J_p 1 (ls' := [_, _, _, _, _]) rfl ?_
      exact J_ret rfl rfl rfl k
  | some i =>
    rw [hp] at k
    simp only at k
    obtain ⟨_, l, hl, em⟩ := plA_at _ _ _ hp
    have il := li hl
    show J _ _ _ _ _ _ _
    refine J_n0 (n := i) rfl ?_
    refine J_p 3 (ls' := [_, _, _, _, _]) rfl ?_
    refine J_call rfl rfl rfl (decide_eq_true hS.1) rfl (c_letterAt hS hC (fun i2 l2 h1 h2 h3 h4 => ?_) (fun h1 => ?_))
    · have e : i2 = i := ((nI_eq (by omega) (by omega)).mp h4).symm
      subst e
      rw [hl] at h2
      obtain rfl := Option.some.inj h2
      show J _ _ _ _ _ _ _
      refine J_p 2 (ls' := [_, _, _, _, _]) rfl ?_
      refine J_brF rfl rfl rfl ?_
      refine J_p 2 (ls' := [_, _, _, _, _]) rfl ?_
      refine J_call rfl rfl rfl (decide_eq_true (hS.t3 (by omega))) rfl (c_isOutWith (hS.t3 (by omega)) (hC.l hl) (hw.w _ _ hl).1 (hw.w _ _ hl).2 hc (fun o1 o2 => ?_) (fun o => ?_))
      · rw [if_pos ((outB_iff hl).mpr ⟨o1, o2⟩)] at k
        show J _ _ _ _ _ _ _
        refine J_zeq rfl (fun b => absurd b (by decide)) (fun _ => ?_)
        refine J_p 2 (ls' := [_, _, _, _, _]) rfl ?_
        exact J_ret rfl rfl rfl k
      · rw [if_neg (fun y => o ((outB_iff hl).mp y))] at k
        show J _ _ _ _ _ _ _
        refine J_zeq rfl (fun _ => ?_) (fun b => absurd rfl b)
        refine J_p 1 (ls' := [_, _, _, _, _]) rfl ?_
        exact J_ret rfl rfl rfl k
    · rw [ixN_nI il (by omega)] at h1; cases h1
theorem c_mayGoBut (hS : QS M a q f) (hC : QC M a f x ms) (hw : okL ms (q_ls x)) {i G : Nat} {l : La} (hl : (q_ls x)[i]? = some l) (hG : G < 2 ^ 31) (kt : mayG ms (q_ls x) G i = true → Q (some (.int (nI 1))) M) (kf : ¬ mayG ms (q_ls x) G i = true → Q (some (.int (nI 0))) M) : J E 46 0 [.ref a, .int (nI i), .int (nI G), U0, U0] [] M Q := by
  have n20 := hC.n20
  have il := li hl
  have hL := hC.l hl
  have ht := hS.t3 (i := i) (by omega)
  have hwl := hw i l hl
  refine J_p 2 (ls' := [_, _, _, _, _]) rfl ?_
  refine J_call rfl rfl rfl (decide_eq_true hS.1) rfl (c_letterAt hS hC (fun i2 l2 h1 h2 h3 h4 => ?_) (fun h1 => ?_))
  · have e : i2 = i := ((nI_eq (by omega) (by omega)).mp h4).symm
    subst e
    have F : ¬ mayG ms (q_ls x) G i2 = true → J E 46 25 [.ref a, .int (nI i2), .int (nI G), .ref (a + 5 + f i2), U0] [] M Q := fun hm => by
      refine J_p 1 (ls' := [_, _, _, _, _]) rfl ?_
      exact J_retB rfl (by decide) (kf hm)
    show J _ _ _ _ _ _ _
    refine J_p 2 (ls' := [_, _, _, _, _]) rfl ?_
    refine J_brF rfl rfl rfl ?_
    refine J_p 1 (ls' := [_, _, _, _, _]) rfl ?_
    refine J_gi rfl ht hL.2.2.2.2.1 ?_
    refine J_zne rfl (fun b => F (fun y => b (by rw [((mayG_iff hl).mp y).1]; rfl))) (fun b => ?_)
    have hs0 : l_s l = 0 := (nI_eq (b := 0) (by omega) (by omega)).mp b
    refine J_p 2 (ls' := [_, _, _, _, _]) rfl ?_
    refine J_call rfl rfl rfl rfl rfl (c_isGone (by omega) hG (fun hg => ?_) (fun hg => ?_))
    · show J _ _ _ _ _ _ _
      refine J_zeq rfl (fun b => absurd b (by decide)) (fun _ => F (fun y => ?_))
      rw [((mayG_iff hl).mp y).2.1] at hg
      cases hg
    · show J _ _ _ _ _ _ _
      refine J_zeq rfl (fun _ => ?_) (fun b => absurd rfl b)
      have loop : ∀ (d kk : Nat), kk + d = i2 → (∀ (k : Nat) (y : La), k < kk → (q_ls x)[k]? = some y → G.testBit k = false → kyA ms y ≠ kyA ms l) → J E 46 30 [.ref a, .int (nI i2), .int (nI G), .ref (a + 5 + f i2), .int (nI kk)] [] M Q := by
        intro d
        induction d with
        | zero =>
          intro kk hk hacc
          refine J_p 2 (ls' := [_, _, _, _, _]) rfl ?_
          refine J_ige rfl (fun _ => ?_) (fun b => absurd (nI_le (by omega) (by omega)) b)
          obtain rfl : kk = i2 := by omega
          refine J_p 1 (ls' := [_, _, _, _, _]) rfl ?_
          exact J_retB rfl (by decide) (kt ((mayG_iff hl).mpr ⟨hs0, hg, hacc⟩))
        | succ d ih =>
          intro kk hk hacc
          obtain ⟨y, hy⟩ := get_of (l := q_ls x) (i := kk) (by omega)
          have hLy := hC.l hy
          have hwy := hw kk y hy
          have nxt : (G.testBit kk = false → kyA ms y ≠ kyA ms l) → J E 46 64 [.ref a, .int (nI i2), .int (nI G), .ref (a + 5 + f i2), .int (nI kk)] [] M Q := fun ho => by
            refine J_p 2 (ls' := [_, _, _, _, _]) rfl ?_
            rw [nI_add kk 1]
            refine ih (kk + 1) (by omega) (fun k z hk2 hz hg2 => ?_)
            rcases Nat.lt_or_ge k kk with h5 | h5
            · exact hacc k z h5 hz hg2
            · obtain rfl : k = kk := by omega
              rw [hy] at hz
              obtain rfl := Option.some.inj hz
              exact ho hg2
          refine J_p 2 (ls' := [_, _, _, _, _]) rfl ?_
          refine J_ige rfl (fun b => absurd b (nI_ge (by omega) (by omega))) (fun _ => ?_)
          refine J_p 1 (ls' := [_, _, _, _, _]) rfl ?_
          refine J_getR rfl hS.1 hS.2.2.2.1 ?_
          refine J_p 1 (ls' := [_, _, _, _, _]) rfl ?_
          refine J_aald (n := kk) rfl rfl (by rw [hS.2.2.2.2.2.1]; rfl) hS.2.2.2.2.2.2.1 (by omega) (by omega) (hS.el (by omega)) ?_
          refine J_gi rfl (hS.t3 (by omega)) hLy.2.1 ?_
          refine J_p 1 (ls' := [_, _, _, _, _]) rfl ?_
          refine J_gi rfl ht hL.2.1 ?_
          refine J_ine rfl (fun b2 => nxt (fun _ y => b2 (by rw [y]))) (fun b2 => ?_)
          have ek : kyA ms y = kyA ms l := (nI_eq (by omega) (by omega)).mp b2
          refine J_p 2 (ls' := [_, _, _, _, _]) rfl ?_
          refine J_call rfl rfl rfl rfl rfl (c_isGone (by omega) hG (fun hg2 => ?_) (fun hg2 => ?_))
          · show J _ _ _ _ _ _ _
            refine J_zne rfl (fun _ => nxt (fun y => by rw [hg2] at y; cases y)) (fun b => absurd b (by decide))
          · show J _ _ _ _ _ _ _
            refine J_zne rfl (fun b => absurd rfl b) (fun _ => ?_)
            refine J_p 1 (ls' := [_, _, _, _, _]) rfl ?_
            exact J_retB rfl (by decide) (kf (fun z => ((mayG_iff hl).mp z).2.2 kk y (by omega) hy hg2 ek))
      refine J_p 2 (ls' := [_, _, _, _, _]) rfl ?_
      exact loop i2 0 (by omega) (fun k y hk => absurd hk (Nat.not_lt_zero _))
  · rw [ixN_nI il (by omega)] at h1; cases h1
theorem c_nextBut (hS : QS M a q f) (hC : QC M a f x ms) (hw : okL ms (q_ls x)) {G : Nat} (hG : G < 2 ^ 31) (k : Q (some (.int (oI (nxG ms (q_ls x) G (q_ls x).length)))) M) : J E 48 0 [.ref a, .int (nI G), U0, U0, U0] [] M Q := by
  have n20 := hC.n20
  have loop : ∀ (d kk : Nat), kk + d = (q_ls x).length → J E 48 7 [.ref a, .int (nI G), .int (oI (nxG ms (q_ls x) G kk)), .int (bpG ms (q_ls x) G kk), .int (nI kk)] [] M Q := by
    intro d
    induction d with
    | zero =>
      intro kk hk
      have hkk : kk = (q_ls x).length := by omega
      refine J_p 2 (ls' := [_, _, _, _, _]) rfl ?_
      refine J_gi rfl hS.1 hC.n ?_
      refine J_ige rfl (fun _ => ?_) (fun b => absurd (nI_le (by omega) (by omega)) b)
      refine J_p 1 (ls' := [_, _, _, _, _]) rfl ?_
      rw [hkk]
      exact J_ret rfl rfl rfl k
    | succ d ih =>
      intro kk hk
      obtain ⟨l, hl⟩ := get_of (l := q_ls x) (i := kk) (by omega)
      have hL := hC.l hl
      have ht := hS.t3 (i := kk) (by omega)
      have hwl := hw kk l hl
      have nxt : ∀ o b, nxG ms (q_ls x) G (kk + 1) = o → bpG ms (q_ls x) G (kk + 1) = b → J E 48 54 [.ref a, .int (nI G), .int (oI o), .int b, .int (nI kk)] [] M Q := fun o b ho hb => by
        refine J_p 2 (ls' := [_, _, _, _, _]) rfl ?_
        rw [nI_add kk 1, ← ho, ← hb]
        exact ih (kk + 1) (by omega)
      refine J_p 2 (ls' := [_, _, _, _, _]) rfl ?_
      refine J_gi rfl hS.1 hC.n ?_
      refine J_ige rfl (fun b => absurd b (nI_ge (by omega) (by omega))) (fun _ => ?_)
      refine J_p 3 (ls' := [_, _, _, _, _]) rfl ?_
      refine J_call rfl rfl rfl (decide_eq_true hS.1) rfl (c_mayGoBut hS hC hw hl hG (fun hm => ?_) (fun hm => ?_))
      · show J _ _ _ _ _ _ _
        refine J_zeq rfl (fun b => absurd b (by decide)) (fun _ => ?_)
        refine J_p 1 (ls' := [_, _, _, _, _]) rfl ?_
        refine J_getR rfl hS.1 hS.2.2.2.1 ?_
        refine J_p 1 (ls' := [_, _, _, _, _]) rfl ?_
        refine J_aald (n := kk) rfl rfl (by rw [hS.2.2.2.2.2.1]; rfl) hS.2.2.2.2.2.2.1 (by omega) (by omega) (hS.el (by omega)) ?_
        refine J_gi rfl ht hL.2.2.1 ?_
        refine J_p 1 (ls' := [_, _, _, _, _]) rfl ?_
        have take : nxG ms (q_ls x) G (kk + 1) = some kk → J E 48 40 [.ref a, .int (nI G), .int (oI (nxG ms (q_ls x) G kk)), .int (bpG ms (q_ls x) G kk), .int (nI kk)] [] M Q := fun e => by
          refine J_p 2 (ls' := [_, _, _, _, _]) rfl ?_
          refine J_p 1 (ls' := [_, _, _, _, _]) rfl ?_
          refine J_getR rfl hS.1 hS.2.2.2.1 ?_
          refine J_p 1 (ls' := [_, _, _, _, _]) rfl ?_
          refine J_aald (n := kk) rfl rfl (by rw [hS.2.2.2.2.2.1]; rfl) hS.2.2.2.2.2.2.1 (by omega) (by omega) (hS.el (by omega)) ?_
          refine J_gi rfl ht hL.2.2.1 ?_
          refine J_p 1 (ls' := [_, _, _, _, _]) rfl ?_
          exact nxt (some kk) _ e (by unfold bpG; rw [e]; show nI (prA ms ((q_ls x).getD kk (0, 0, 0, 0, []))) = _; rw [getD_of hl])
        have keep : nxG ms (q_ls x) G (kk + 1) = nxG ms (q_ls x) G kk → J E 48 54 [.ref a, .int (nI G), .int (oI (nxG ms (q_ls x) G kk)), .int (bpG ms (q_ls x) G kk), .int (nI kk)] [] M Q := fun e => nxt _ _ e (by unfold bpG; rw [e])
        cases hn : nxG ms (q_ls x) G kk with
        | none =>
          have e : nxG ms (q_ls x) G (kk + 1) = some kk := by simp only [nxG, if_pos hm, hn]
          have eb : bpG ms (q_ls x) G kk = -1 := by unfold bpG; rw [hn]
          rw [hn] at take keep
          rw [eb] at take ⊢
          refine J_ile rfl (fun b => ?_) (fun _ => take e)
          rw [Int32.le_iff_toInt_le, nI_toInt (by omega)] at b
          have h3 : (-1 : Int32).toInt = -1 := by decide
          omega
        | some c =>
          obtain ⟨c1, c2⟩ := nxG_lt _ _ _ _ _ hn
          obtain ⟨y, hy⟩ := get_of (l := q_ls x) (i := c) (by omega)
          have hwy := hw c y hy
          have eb : bpG ms (q_ls x) G kk = nI (prA ms y) := by unfold bpG; rw [hn]; show nI (prA ms ((q_ls x).getD c (0, 0, 0, 0, []))) = _; rw [getD_of hy]
          rw [hn] at take keep
          rw [eb] at take keep ⊢
          refine J_ile rfl (fun b => keep ?_) (fun b => take ?_)
          · have := (nI_leI (by omega) (by omega)).mp b
            simp only [nxG, if_pos hm, hn, getD_of hy, getD_of hl]
            exact if_neg (by omega)
          · have : prA ms y < prA ms l := by
              rcases Nat.lt_or_ge (prA ms y) (prA ms l) with z | z
              · exact z
              · exact absurd (nI_le z (by omega)) b
            simp only [nxG, if_pos hm, hn, getD_of hy, getD_of hl]
            exact if_pos this
      · show J _ _ _ _ _ _ _
        refine J_zeq rfl (fun _ => ?_) (fun b => absurd rfl b)
        have e : nxG ms (q_ls x) G (kk + 1) = nxG ms (q_ls x) G kk := by simp only [nxG, if_neg hm]
        exact nxt _ _ e (by unfold bpG; rw [e])
  refine J_p 6 (ls' := [_, _, _, _, _]) rfl ?_
  exact loop (q_ls x).length 0 (by omega)
end COMP4