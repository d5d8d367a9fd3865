/-! THE COMPONENT: when a letter is ready, gone, open; when there is a next. -/
def NV : Nat := 1000000000
def rdT (tr now : Nat) (l : La) : Nat := if l_s l = 0 then now else if l_s l = 1 then l_t l else if tr ≤ (l_c l).length + 1 then NV else l_t l + wt ((l_c l).length + 1)
def gnT (tr ag pub now : Nat) (l : La) : Nat := if rdT tr now l = NV then l_t l else if ag = 0 then NV else max (max (rdT tr now l) (pub + ag)) (now + 1)
/-- times within bounds -/
def okT (ms : List Ma) (x : Qa) (now : Nat) : Prop := now < 2 ^ 21 ∧ q_tr x ≤ 5 ∧ q_ag x ≤ 999 ∧ ∀ (i : Nat) (l : La), (q_ls x)[i]? = some l → l_t l < 2 ^ 21 ∧ pbA ms l < 2 ^ 21 ∧ (l_c l).length < 5
def gnX (ms : List Ma) (x : Qa) (now : Nat) (l : La) : Nat := gnT (q_tr x) (q_ag x) (pbA ms l) now l
/-- the time from which letter l is open: ready, and those of its key among the first n gone -/
def opX (ms : List Ma) (x : Qa) (now : Nat) (l : La) : Nat → Nat
  | 0 => rdT (q_tr x) now l
  | n + 1 => match (q_ls x)[n]? with
    | none => opX ms x now l n
    | some y => if kyA ms y = kyA ms l then max (opX ms x now l n) (gnX ms x now y) else opX ms x now l n
def nxT (ms : List Ma) (x : Qa) (now : Nat) : Nat → Nat
  | 0 => NV
  | n + 1 => match (q_ls x)[n]? with
    | none => nxT ms x now n
    | some l => if opX ms x now l n < gnX ms x now l then min (nxT ms x now n) (opX ms x now l n) else nxT ms x now n
theorem nv31 : NV < 2 ^ 31 := by decide
theorem nv21 : 2 ^ 23 < NV := by decide
theorem rdT_lt {tr now : Nat} {l : La} (h1 : now < 2 ^ 21) (h2 : l_t l < 2 ^ 21) : rdT tr now l ≤ NV ∧ (rdT tr now l < 2 ^ 22 ∨ rdT tr now l = NV) := by
  have a := nv21
  have b := wt_le ((l_c l).length + 1)
  unfold rdT
  split
  · omega
  · split
    · omega
    · split
      · omega
      · omega
theorem gnT_lt {tr ag pub now : Nat} {l : La} (h1 : now < 2 ^ 21) (h2 : l_t l < 2 ^ 21) (h3 : pub < 2 ^ 21) (h4 : ag ≤ 999) : gnT tr ag pub now l ≤ NV := by
  have a := nv21
  have b := rdT_lt (tr := tr) h1 h2
  unfold gnT
  split
  · omega
  · split
    · omega
    · omega
theorem max_I {m n : Nat} (h1 : m < 2 ^ 31) (h2 : n < 2 ^ 31) : (if nI m < nI n then nI n else nI m) = nI (max m n) := by
  by_cases h : m < n
  · rw [if_pos (nI_lt h h2), Nat.max_eq_right (by omega)]
  · rw [if_neg (nI_nlt (by omega) h1), Nat.max_eq_left (by omega)]
theorem min_I {m n : Nat} (h1 : m < 2 ^ 31) (h2 : n < 2 ^ 31) : (if nI n < nI m then nI n else nI m) = nI (min m n) := by
  by_cases h : n < m
  · rw [if_pos (nI_lt h h1), Nat.min_eq_right (by omega)]
  · rw [if_neg (nI_nlt (by omega) h2), Nat.min_eq_left (by omega)]
section COMP7
variable {E : Nat × Nat} {M : Mm} {Q : Option Value → Mm → Prop} {a q p now : Nat} {f : Nat → Nat} {x : Qa} {ms : List Ma} {l : La}
theorem c_readyTime (hE : STa E M) (hS : QS M a q f) (hC : QC M a f x ms) (ht : mT M p = 3) (hL : CL M p l ms) (hs : l_s l ≤ 2) (hn : now < 2 ^ 21) (htr : q_tr x ≤ 5) (hlt : l_t l < 2 ^ 21) (hc5 : (l_c l).length < 5) (k : Q (some (.int (nI (rdT (q_tr x) now l)))) M) : J E 54 0 [.ref a, .ref p, .int (nI now), U0] [] M Q := by
  obtain ⟨_, _, _, _, c4, c5, _, c7, _⟩ := hL
  unfold rdT at k
  refine J_p 1 (ls' := [_, _, _, _]) rfl ?_
  refine J_gi rfl ht c4 ?_
  refine J_zne rfl (fun b => ?_) (fun b => ?_)
  · have hs0 : ¬ l_s l = 0 := fun y => b (by rw [y]; rfl)
    rw [if_neg hs0] at k
    unfold tillI at c7
    rw [if_neg hs0] at c7
    refine J_p 1 (ls' := [_, _, _, _]) rfl ?_
    refine J_gi rfl ht c4 ?_
    refine J_p 1 (ls' := [_, _, _, _]) rfl ?_
    refine J_ine rfl (fun b1 => ?_) (fun b1 => ?_)
    · have hs1 : ¬ l_s l = 1 := fun y => b1 (by rw [y])
      rw [if_neg hs1] at k
      refine J_p 1 (ls' := [_, _, _, _]) rfl ?_
      refine J_gi rfl ht c5 ?_
      refine J_p 2 (ls' := [_, _, _, _]) rfl ?_
      refine J_t0 (nI_add (l_c l).length 1) ?_
      refine J_p 3 (ls' := [_, _, _, _]) rfl ?_
      refine J_gi rfl hS.1 hC.2.2.2.1 ?_
      refine J_ilt rfl (fun b2 => ?_) (fun b2 => ?_)
      · have hlt2 := (nI_ltI (by omega) (by omega)).mp b2
        rw [if_neg (by omega)] at k
        refine J_p 1 (ls' := [_, _, _, _]) rfl ?_
        refine J_gi rfl ht c7 ?_
        refine J_p 1 (ls' := [_, _, _, _]) rfl ?_
        refine J_call rfl rfl rfl rfl rfl (c_waitAfter hE (n := (l_c l).length + 1) (by omega) (by omega) ?_)
        show J _ _ _ _ _ _ _
        refine J_p 1 (ls' := [_, _, _, _]) rfl ?_
        refine J_t0 (nI_add _ _) ?_
        exact J_ret rfl rfl rfl k
      · have hle : q_tr x ≤ (l_c l).length + 1 := by
          rcases Nat.lt_or_ge ((l_c l).length + 1) (q_tr x) with z | z
          · exact absurd (nI_lt z (by omega)) b2
          · exact z
        rw [if_pos hle] at k
        refine J_p 2 (ls' := [_, _, _, _]) rfl ?_
        exact J_ret rfl rfl rfl k
    · have hs1 : l_s l = 1 := (nI_eq (by omega) (by omega)).mp b1
      rw [if_pos hs1] at k
      refine J_p 1 (ls' := [_, _, _, _]) rfl ?_
      refine J_gi rfl ht c7 ?_
      exact J_ret rfl rfl rfl k
  · have hs0 : l_s l = 0 := (nI_eq (b := 0) (by omega) (by omega)).mp b
    rw [if_pos hs0] at k
    refine J_p 1 (ls' := [_, _, _, _]) rfl ?_
    exact J_ret rfl rfl rfl k
theorem c_goneTime (hE : STa E M) (hS : QS M a q f) (hC : QC M a f x ms) (ht : mT M p = 3) (hL : CL M p l ms) (hs : l_s l ≤ 2) (hn : now < 2 ^ 21) (htr : q_tr x ≤ 5) (hag : q_ag x ≤ 999) (hlt : l_t l < 2 ^ 21) (hpb : pbA ms l < 2 ^ 21) (hc5 : (l_c l).length < 5) (h0 : l_s l = 0 → 1 ≤ q_tr x) (k : Q (some (.int (nI (gnX ms x now l)))) M) : J E 55 0 [.ref a, .ref p, .int (nI now), U0] [] M Q := by
  have rl := rdT_lt (tr := q_tr x) hn hlt
  have n31 := nv31
  have n21 := nv21
  unfold gnX gnT at k
  refine J_p 3 (ls' := [_, _, _, _]) rfl ?_
  refine J_call rfl rfl rfl (decide_eq_true hS.1) rfl (c_readyTime hE hS hC ht hL hs hn htr hlt hc5 ?_)
  show J _ _ _ _ _ _ _
  refine J_p 3 (ls' := [_, _, _, _]) rfl ?_
  refine J_t0 (show nI 1000000000 = nI NV from rfl) ?_
  refine J_ine rfl (fun b => ?_) (fun b => ?_)
  · have hne : ¬ rdT (q_tr x) now l = NV := fun y => b (by rw [y])
    rw [if_neg hne] at k
    refine J_p 1 (ls' := [_, _, _, _]) rfl ?_
    refine J_gi rfl hS.1 hC.2.2.2.2.2.1 ?_
    refine J_zne rfl (fun b1 => ?_) (fun b1 => ?_)
    · rw [if_neg (fun y => b1 (by rw [y]; rfl))] at k
      refine J_p 2 (ls' := [_, _, _, _]) rfl ?_
      refine J_gi rfl ht hL.2.2.2.1 ?_
      refine J_p 1 (ls' := [_, _, _, _]) rfl ?_
      refine J_gi rfl hS.1 hC.2.2.2.2.2.1 ?_
      refine J_p 1 (ls' := [_, _, _, _]) rfl ?_
      refine J_t0 (nI_add _ _) ?_
      refine J_max rfl rfl ?_
      refine J_t0 (max_I (by omega) (by omega)) ?_
      refine J_p 3 (ls' := [_, _, _, _]) rfl ?_
      refine J_t0 (nI_add now 1) ?_
      refine J_max rfl rfl ?_
      refine J_t0 (max_I (by omega) (by omega)) ?_
      exact J_ret rfl rfl rfl k
    · rw [if_pos ((nI_eq (b := 0) (by omega) (by omega)).mp b1)] at k
      refine J_p 1 (ls' := [_, _, _, _]) rfl ?_
      exact J_ret rfl rfl rfl k
  · have he : rdT (q_tr x) now l = NV := (nI_eq (by omega) (by omega)).mp b
    rw [if_pos he] at k
    have hs0 : ¬ l_s l = 0 := fun y => by
      unfold rdT at he; rw [if_pos y] at he; omega
    have c7 := hL.2.2.2.2.2.2.2.1
    unfold tillI at c7
    rw [if_neg hs0] at c7
    refine J_p 1 (ls' := [_, _, _, _]) rfl ?_
    refine J_gi rfl ht c7 ?_
    exact J_ret rfl rfl rfl k
theorem opX_lt (hT : okT ms x now) (hlt : l_t l < 2 ^ 21) : ∀ n, opX ms x now l n ≤ NV
  | 0 => (rdT_lt hT.1 hlt).1
  | n + 1 => by
    have ih := opX_lt hT hlt n
    unfold opX
    cases hy : (q_ls x)[n]? with
    | none => exact ih
    | some y =>
      simp only
      have hyT := hT.2.2.2 n y hy
      have := gnT_lt (tr := q_tr x) (ag := q_ag x) hT.1 hyT.1 hyT.2.1 hT.2.2.1
      split
      · unfold gnX; omega
      · exact ih
theorem nxT_lt (hT : okT ms x now) : ∀ n, nxT ms x now n ≤ NV
  | 0 => Nat.le_refl _
  | n + 1 => by
    have ih := nxT_lt hT n
    unfold nxT
    cases hy : (q_ls x)[n]? with
    | none => exact ih
    | some y =>
      simp only
      split
      · omega
      · exact ih
theorem c_openTime (hE : STa E M) (hS : QS M a q f) (hC : QC M a f x ms) (hw : okL ms (q_ls x)) (hT : okT ms x now) {i : Nat} (hl : (q_ls x)[i]? = some l) (h1' : 1 ≤ q_tr x) (k : Q (some (.int (nI (opX ms x now l i)))) M) : J E 57 0 [.ref a, .int (nI i), .int (nI now), U0, U0, U0] [] M Q := by
  have n20 := hC.n20
  have il := li hl
  have hL := hC.l hl
  have ht := hS.t3 (i := i) (by omega)
  have hwl := hw i l hl
  have hTl := hT.2.2.2 i l hl
  have n31 := nv31
  refine J_p 2 (ls' := [_, _, _, _, _, _]) rfl ?_
  refine J_call rfl rfl rfl (decide_eq_true hS.1) rfl (c_letterAt hS hC (fun i2 l2 h1 h2 h3 h4 => ?_) (fun h1 => ?_))
  · have e : i2 = i := ((nI_eq (by omega) (by omega)).mp h4).symm
    subst e
    show J _ _ _ _ _ _ _
    refine J_p 2 (ls' := [_, _, _, _, _, _]) rfl ?_
    refine J_brT rfl rfl rfl ?_
    refine J_p 3 (ls' := [_, _, _, _, _, _]) rfl ?_
    refine J_call rfl rfl rfl (decide_eq_true hS.1) rfl (c_readyTime hE hS hC ht hL hwl.1 hT.1 hT.2.1 hTl.1 hTl.2.2 ?_)
    show J _ _ _ _ _ _ _
    have loop : ∀ (d kk : Nat), kk + d = i2 → J E 57 24 [.ref a, .int (nI i2), .int (nI now), .ref (a + 5 + f i2), .int (nI (opX ms x now l kk)), .int (nI kk)] [] M Q := by
      intro d
      induction d with
      | zero =>
        intro kk hk
        obtain rfl : kk = i2 := by omega
        refine J_p 2 (ls' := [_, _, _, _, _, _]) rfl ?_
        refine J_ige rfl (fun _ => ?_) (fun b => absurd (nI_le (by omega) (by omega)) b)
        refine J_p 1 (ls' := [_, _, _, _, _, _]) rfl ?_
        exact J_ret rfl rfl rfl k
      | succ d ih =>
        intro kk hk
        obtain ⟨y, hy⟩ := get_of (l := q_ls x) (i := kk) (by omega)
        have hLy := hC.l hy
        have hwy := hw kk y hy
        have hTy := hT.2.2.2 kk y hy
        have ht3 := hS.t3 (i := kk) (by omega)
        have nxt : ∀ v, opX ms x now l (kk + 1) = v → J E 57 66 [.ref a, .int (nI i2), .int (nI now), .ref (a + 5 + f i2), .int (nI v), .int (nI kk)] [] M Q := fun v hv => by
          refine J_p 2 (ls' := [_, _, _, _, _, _]) rfl ?_
          rw [nI_add kk 1, ← hv]
          exact ih (kk + 1) (by omega)
        refine J_p 2 (ls' := [_, _, _, _, _, _]) rfl ?_
        refine J_ige rfl (fun b => absurd b (nI_ge (by omega) (by omega))) (fun _ => ?_)
        refine J_p 1 (ls' := [_, _, _, _, _, _]) rfl ?_
        refine J_getR rfl hS.1 hS.2.2.2.1 ?_
        refine J_p 1 (ls' := [_, _, _, _, _, _]) rfl ?_
        refine J_aald (n := kk) rfl rfl (by rw [hS.2.2.2.2.2.1]; rfl) hS.2.2.2.2.2.2.1 (by omega) (by omega) (hS.el (by omega)) ?_
        refine J_gi rfl ht3 hLy.2.1 ?_
        refine J_p 1 (ls' := [_, _, _, _, _, _]) rfl ?_
        refine J_gi rfl ht hL.2.1 ?_
        refine J_ine rfl (fun b => ?_) (fun b => ?_)
        · refine nxt _ ?_
          simp only [opX, hy]
          exact if_neg (fun z => b (by rw [z]))
        · have ek : kyA ms y = kyA ms l := (nI_eq (by omega) (by omega)).mp b
          refine J_p 3 (ls' := [_, _, _, _, _, _]) rfl ?_
          refine J_getR rfl hS.1 hS.2.2.2.1 ?_
          refine J_p 1 (ls' := [_, _, _, _, _, _]) rfl ?_
          refine J_aald (n := kk) rfl rfl (by rw [hS.2.2.2.2.2.1]; rfl) hS.2.2.2.2.2.2.1 (by omega) (by omega) (hS.el (by omega)) ?_
          refine J_p 1 (ls' := [_, _, _, _, _, _]) rfl ?_
          refine J_call rfl rfl rfl (decide_eq_true hS.1) rfl (c_goneTime hE hS hC ht3 hLy hwy.1 hT.1 hT.2.1 hT.2.2.1 hTy.1 hTy.2.1 hTy.2.2 (fun _ => h1') ?_)
          show J _ _ _ _ _ _ _
          have g1 := gnT_lt (tr := q_tr x) (ag := q_ag x) hT.1 hTy.1 hTy.2.1 hT.2.2.1
          have o1 := opX_lt (l := l) hT hTl.1 kk
          refine J_max rfl rfl ?_
          refine J_t0 (max_I (by omega) (by unfold gnX; omega)) ?_
          refine J_p 1 (ls' := [_, _, _, _, _, _]) rfl ?_
          refine nxt _ ?_
          simp only [opX, hy]
          exact if_pos ek
    refine J_p 3 (ls' := [_, _, _, _, _, _]) rfl ?_
    exact loop i2 0 (by omega)
  · rw [ixN_nI il (by omega)] at h1; cases h1
theorem c_nextTime (hE : STa E M) (hS : QS M a q f) (hC : QC M a f x ms) (hw : okL ms (q_ls x)) (hT : okT ms x now) (h1 : 1 ≤ q_tr x) (k : Q (some (.int (nI (nxT ms x now (q_ls x).length)))) M) : J E 56 0 [.ref a, .int (nI now), U0, U0, U0] [] M Q := by
  have n20 := hC.n20
  have n31 := nv31
  have loop : ∀ (d kk : Nat) (v4 : Value), kk + d = (q_ls x).length → J E 56 5 [.ref a, .int (nI now), .int (nI (nxT ms x now kk)), .int (nI kk), v4] [] M Q := by
    intro d
    induction d with
    | zero =>
      intro kk v4 hk
      have hkk : kk = (q_ls x).length := by omega
      refine J_p 2 (ls' := [_, _, _, _, _]) rfl ?_
      refine J_gi rfl hS.1 hC.n ?_
      refine J_ige rfl (fun _ => ?_) (fun b => absurd (nI_le (by omega) (by omega)) b)
      refine J_p 1 (ls' := [_, _, _, _, _]) rfl ?_
      subst hkk
      exact J_ret rfl rfl rfl k
    | succ d ih =>
      intro kk v4 hk
      obtain ⟨l, hl⟩ := get_of (l := q_ls x) (i := kk) (by omega)
      have hL := hC.l hl
      have ht := hS.t3 (i := kk) (by omega)
      have hwl := hw kk l hl
      have hTl := hT.2.2.2 kk l hl
      have g1 := gnT_lt (tr := q_tr x) (ag := q_ag x) hT.1 hTl.1 hTl.2.1 hT.2.2.1
      have o1 := opX_lt (l := l) hT hTl.1 kk
      have x1 := nxT_lt hT kk
      have nxt : ∀ v o, nxT ms x now (kk + 1) = v → J E 56 44 [.ref a, .int (nI now), .int (nI v), .int (nI kk), .int o] [] M Q := fun v o hv => by
        refine J_p 2 (ls' := [_, _, _, _, _]) rfl ?_
        rw [nI_add kk 1, ← hv]
        exact ih (kk + 1) _ (by omega)
      refine J_p 2 (ls' := [_, _, _, _, _]) rfl ?_
      refine J_gi rfl hS.1 hC.n ?_
      refine J_ige rfl (fun b => absurd b (nI_ge (by omega) (by omega))) (fun _ => ?_)
      refine J_p 3 (ls' := [_, _, _, _, _]) rfl ?_
      refine J_call rfl rfl rfl (decide_eq_true hS.1) rfl (c_openTime hE hS hC hw hT hl h1 ?_)
      show J _ _ _ _ _ _ _
      refine J_p 4 (ls' := [_, _, _, _, _]) rfl ?_
      refine J_getR rfl hS.1 hS.2.2.2.1 ?_
      refine J_p 1 (ls' := [_, _, _, _, _]) rfl ?_
      refine J_aald (n := kk) rfl rfl (by rw [hS.2.2.2.2.2.1]; rfl) hS.2.2.2.2.2.2.1 (by omega) (by omega) (hS.el (by omega)) ?_
      refine J_p 1 (ls' := [_, _, _, _, _]) rfl ?_
      refine J_call rfl rfl rfl (decide_eq_true hS.1) rfl (c_goneTime hE hS hC ht hL hwl.1 hT.1 hT.2.1 hT.2.2.1 hTl.1 hTl.2.1 hTl.2.2 (fun _ => h1) ?_)
      show J _ _ _ _ _ _ _
      refine J_ige rfl (fun b => ?_) (fun b => ?_)
      · refine nxt _ _ ?_
        have := (nI_leI (by unfold gnX; omega) (by omega)).mp b
        simp only [nxT, hl]
        exact if_neg (by omega)
      · have hlt : opX ms x now l kk < gnX ms x now l := by
          rcases Nat.lt_or_ge (opX ms x now l kk) (gnX ms x now l) with z | z
          · exact z
          · exact absurd (nI_le z (by omega)) b
        refine J_p 2 (ls' := [_, _, _, _, _]) rfl ?_
        refine J_min rfl rfl ?_
        refine J_t0 (min_I (by omega) (by omega)) ?_
        refine J_p 1 (ls' := [_, _, _, _, _]) rfl ?_
        refine nxt _ _ ?_
        simp only [nxT, hl]
        exact if_pos hlt
  refine J_p 4 (ls' := [_, _, _, _, _]) rfl ?_
  exact loop (q_ls x).length 0 _ (by omega)
end COMP7