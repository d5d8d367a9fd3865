/-! THE REFERENCE: copy, judge. -/
def cpL (p q : List Int64) (i j n : Nat) : List Int64 := (List.range q.length).map (fun k => if j ≤ k ∧ k < j + n then p.getD (i + (k - j)) (lN 0) else q.getD k (lN 0))
def cpA (S : St) (b so : Nat) (p q : List Int64) (i j n : Int32) : Int32 × St := match ixN i (p.length + 1) with
  | none => rfS S 0
  | some i' => match ixN j (q.length + 1) with
    | none => rfS S 0
    | some j' => match ixN n 41 with
      | none => rfS S 0
      | some n' => if i' + n' ≤ p.length ∧ j' + n' ≤ q.length then (nI n', z_h S b (some (.inl (so, cpL p q i' j' n')))) else rfS S 0
def fCopy (S : St) (p q i j n : Int32) : Int32 × St := match ixN p 8 with
  | none => rfS S 0
  | some a => match ixN q 8 with
    | none => rfS S 0
    | some b => match s_h S a with
      | some (.inr _) => rfS S 1
      | none => (match s_h S b with
        | some (.inr _) => rfS S 1
        | _ => rfS S 2)
      | some (.inl (so, els)) => (match s_h S b with
        | some (.inr _) => rfS S 1
        | none => rfS S 2
        | some (.inl (so', els')) => if so = so' then cpA S b so els els' i j n else rfS S 1)
def juA (els : List Int64) (dr : List Nat) (n : Nat) : Nat → Nat → Int32
  | 0, _ => if n < dr.length then nI n else -1
  | d + 1, k => match dr[k]? with
    | none => nI k
    | some m => if els.getD k (lN 0) = lN m then juA els dr n d (k + 1) else nI k
def fJudge (S : St) (q s n : Int32) : Int32 × St := match ixN q (a_q (s_a S)).length with
  | none => rfS S 0
  | some j => match ixN s 8 with
    | none => rfS S 0
    | some b => match ixN n 41 with
      | none => rfS S 0
      | some m => match s_h S b with
        | none => rfS S 2
        | some (.inr _) => rfS S 1
        | some (.inl (_, els)) => if m ≤ els.length then (match (a_q (s_a S))[j]? with
          | none => rfS S 0
          | some x => (juA els (drQ (s_a S) x) m m 0, S)) else rfS S 0
theorem cpL_len {p q : List Int64} {i j n : Nat} : (cpL p q i j n).length = q.length := by unfold cpL; rw [List.length_map, List.length_range]
theorem cpL_get {p q : List Int64} {i j n k : Nat} {v : Int64} (h : (cpL p q i j n)[k]? = some v) : k < q.length ∧ v = if j ≤ k ∧ k < j + n then p.getD (i + (k - j)) (lN 0) else q.getD k (lN 0) := by
  have hk := li h
  rw [cpL_len] at hk
  unfold cpL at h
  rw [List.getElem?_map, List.getElem?_range hk] at h
  exact ⟨hk, (Option.some.inj h).symm⟩
section PUB22
variable {E : Nat × Nat} {M : Mm} {r T : Nat} {g : Nat → Int32} {S : St} {Q : Option Value → Mm → Prop} {A : Ab}
/-- rows upward: k done -/
def cU (f : Nat → Int64) (s d k : Nat) : Nat → Int64 := fun z => if d ≤ z ∧ z < d + k then f (s + (z - d)) else f z
/-- downward: k done of n -/
def cD (f : Nat → Int64) (s d n k : Nat) : Nat → Int64 := fun z => if d + n - k ≤ z ∧ z < d + n then f (s + (z - d)) else f z
theorem cU_s {f : Nat → Int64} {s d k : Nat} (h : d ≤ s ∨ s + k < d) : (fun z => if z = d + k then cU f s d k (s + k) else cU f s d k z) = cU f s d (k + 1) := by
  funext z
  simp only [cU]
  by_cases z1 : z = d + k
  · subst z1
    rw [if_pos rfl, if_neg (by omega), if_pos (by omega)]
    congr 1; omega
  · rw [if_neg z1]
    by_cases z2 : d ≤ z ∧ z < d + k
    · rw [if_pos z2, if_pos (by omega)]
    · rw [if_neg z2, if_neg (by omega)]
theorem cD_s {f : Nat → Int64} {s d n k : Nat} (hk : k < n) (h : s ≤ d ∨ d + n ≤ s) : (fun z => if z = d + (n - 1 - k) then cD f s d n k (s + (n - 1 - k)) else cD f s d n k z) = cD f s d n (k + 1) := by
  funext z
  simp only [cD]
  by_cases z1 : z = d + (n - 1 - k)
  · subst z1
    rw [if_pos rfl, if_neg (by omega), if_pos (by omega)]
    congr 1; omega
  · rw [if_neg z1]
    by_cases z2 : d + n - k ≤ z ∧ z < d + n
    · rw [if_pos z2, if_pos (by omega)]
    · rw [if_neg z2, if_neg (by omega)]
theorem cU_n {f : Nat → Int64} {s d n : Nat} : cD f s d n n = cU f s d n := by
  funext z
  simp only [cU, cD]
  by_cases z2 : d ≤ z ∧ z < d + n
  · rw [if_pos z2, if_pos (by omega)]
  · rw [if_neg z2, if_neg (by omega)]
theorem cU_0 {f : Nat → Int64} {s d : Nat} : cU f s d 0 = f := funext fun z => if_neg (by omega)
theorem cD_0 {f : Nat → Int64} {s d n : Nat} : cD f s d n 0 = f := funext fun z => if_neg (by omega)
theorem sL_row (M : Mm) (a k : Nat) (F G : Nat → Int64) (x : Int64) (h : (fun z => if z = k then x else F z) = G) : sL (wL M a F) a k x = wL M a G := by
  rw [sL_wL, wL_wL]
  congr 1
  rw [← h]
  funext z
  rw [mL_wL, if_pos rfl]

theorem c_copy_u (hS : RS M r) {a b i j n : Nat} {f : Nat → Int64} (ha : a < 8) (hb : b < 8) (hi : i + n ≤ 40) (hj : j + n ≤ 40) (hij : j ≤ i) : ∀ (d kk : Nat), kk + d = n → ∀ x7 : Value, Q (some (.int (nI n))) (wI (wL M (r + 11) (cU f (40 * a + i) (40 * b + j) n)) (r + 1) g) → J E 238 178 [.ref r, .int (nI a), .int (nI b), .int (nI i), .int (nI j), .int (nI n), .int (nI kk), x7] [] (wI (wL M (r + 11) (cU f (40 * a + i) (40 * b + j) kk)) (r + 1) g) Q := by
  intro d
  induction d with
  | zero =>
    intro kk hk x7 k
    refine J_p 2 (ls' := [_, _, _, _, _, _, _, _]) rfl ?_
    refine J_ige rfl (fun b182 => ?_) (fun b182 => ?_)
    · skip
      refine J_p 1 (ls' := [_, _, _, _, _, _, _, _]) rfl ?_
      obtain rfl : kk = n := by omega
      exact J_ret rfl rfl rfl k
    · skip
      exact absurd (nI_le (a := n) (b := kk) (by omega) (by omega)) b182
  | succ d ih =>
    intro kk hk x7 k
    refine J_p 2 (ls' := [_, _, _, _, _, _, _, _]) rfl ?_
    refine J_ige rfl (fun b182 => ?_) (fun b182 => ?_)
    · skip
      exact absurd b182 (nI_ge (a := kk) (b := n) (by omega) (by omega))
    · skip
      refine J_p 2 (ls' := [_, _, _, _, _, _, _, _]) rfl ?_
      refine J_ige rfl (fun b188 => ?_) (fun b188 => ?_)
      · skip
        refine J_p 3 (ls' := [_, _, _, _, _, _, _, _]) rfl ?_
        refine J_getR rfl hS.t hS.f15 ?_
        refine J_p 8 (ls' := [_, _, _, _, _, _, _, _]) rfl ?_
        refine J_getR rfl hS.t hS.f15 ?_
        refine J_p 7 (ls' := [_, _, _, _, _, _, _, _]) rfl ?_
        refine J_lald (n := 40 * a + i + kk) rfl (by repeat' (first | with_reducible rfl | assumption | with_reducible refine nI_decE ?_ | with_reducible refine nI_addE ?_ ?_ | with_reducible refine nI_mulE ?_ ?_ | with_reducible refine nI_subE ?_ ?_ ?_ | omega | (with_reducible refine congrArg nI ?_; omega))) hS.t11 hS.l11 (by omega) (by omega) ?_
        refine J_last (n := 40 * b + j + kk) rfl (by repeat' (first | with_reducible rfl | assumption | with_reducible refine nI_decE ?_ | with_reducible refine nI_addE ?_ ?_ | with_reducible refine nI_mulE ?_ ?_ | with_reducible refine nI_subE ?_ ?_ ?_ | omega | (with_reducible refine congrArg nI ?_; omega))) hS.t11 hS.l11 (by omega) (by omega) ?_
        refine J_p 2 (ls' := [_, _, _, _, _, _, _, _]) rfl ?_
        rw [nI_add kk 1]
        refine J_M (M' := (wI (wL M (r + 11) (cU f (40 * a + i) (40 * b + j) (kk + 1))) (r + 1) g)) ?_ (ih (kk + 1) (by omega) _ k)
        show wI (sL (wL M (r + 11) (cU f (40 * a + i) (40 * b + j) kk)) (r + 11) (40 * b + j + (kk)) (mL (wL M (r + 11) (cU f (40 * a + i) (40 * b + j) kk)) (r + 11) (40 * a + i + (kk)))) (r + 1) g = _
        rw [mL_wL, if_pos rfl]
        exact congrArg (fun Y => wI Y (r + 1) g) (sL_row M (r + 11) _ _ _ _ (cU_s (by omega)))
      · skip
        exact absurd (nI_le (by omega) (by omega)) b188

theorem c_copy_d (hS : RS M r) {a b i j n : Nat} {f : Nat → Int64} (ha : a < 8) (hb : b < 8) (hi : i + n ≤ 40) (hj : j + n ≤ 40) (hij : i < j) : ∀ (d kk : Nat), kk + d = n → ∀ x7 : Value, Q (some (.int (nI n))) (wI (wL M (r + 11) (cD f (40 * a + i) (40 * b + j) n n)) (r + 1) g) → J E 238 178 [.ref r, .int (nI a), .int (nI b), .int (nI i), .int (nI j), .int (nI n), .int (nI kk), x7] [] (wI (wL M (r + 11) (cD f (40 * a + i) (40 * b + j) n kk)) (r + 1) g) Q := by
  intro d
  induction d with
  | zero =>
    intro kk hk x7 k
    refine J_p 2 (ls' := [_, _, _, _, _, _, _, _]) rfl ?_
    refine J_ige rfl (fun b182 => ?_) (fun b182 => ?_)
    · skip
      refine J_p 1 (ls' := [_, _, _, _, _, _, _, _]) rfl ?_
      obtain rfl : kk = n := by omega
      exact J_ret rfl rfl rfl k
    · skip
      exact absurd (nI_le (a := n) (b := kk) (by omega) (by omega)) b182
  | succ d ih =>
    intro kk hk x7 k
    refine J_p 2 (ls' := [_, _, _, _, _, _, _, _]) rfl ?_
    refine J_ige rfl (fun b182 => ?_) (fun b182 => ?_)
    · skip
      exact absurd b182 (nI_ge (a := kk) (b := n) (by omega) (by omega))
    · skip
      refine J_p 2 (ls' := [_, _, _, _, _, _, _, _]) rfl ?_
      refine J_ige rfl (fun b188 => ?_) (fun b188 => ?_)
      · skip
        exact absurd b188 (nI_ge (by omega) (by omega))
      · skip
        refine J_p 6 (ls' := [_, _, _, _, _, _, _, _]) rfl ?_
        refine J_n0 (n := (n - 1) - kk) (by repeat' (first | with_reducible rfl | assumption | with_reducible refine nI_decE ?_ | with_reducible refine nI_addE ?_ ?_ | with_reducible refine nI_mulE ?_ ?_ | with_reducible refine nI_subE ?_ ?_ ?_ | omega | (with_reducible refine congrArg nI ?_; omega))) ?_
        refine J_p 2 (ls' := [_, _, _, _, _, _, _, _]) rfl ?_
        refine J_getR rfl hS.t hS.f15 ?_
        refine J_p 8 (ls' := [_, _, _, _, _, _, _, _]) rfl ?_
        refine J_getR rfl hS.t hS.f15 ?_
        refine J_p 7 (ls' := [_, _, _, _, _, _, _, _]) rfl ?_
        refine J_lald (n := 40 * a + i + ((n - 1) - kk)) rfl (by repeat' (first | with_reducible rfl | assumption | with_reducible refine nI_decE ?_ | with_reducible refine nI_addE ?_ ?_ | with_reducible refine nI_mulE ?_ ?_ | with_reducible refine nI_subE ?_ ?_ ?_ | omega | (with_reducible refine congrArg nI ?_; omega))) hS.t11 hS.l11 (by omega) (by omega) ?_
        refine J_last (n := 40 * b + j + ((n - 1) - kk)) rfl (by repeat' (first | with_reducible rfl | assumption | with_reducible refine nI_decE ?_ | with_reducible refine nI_addE ?_ ?_ | with_reducible refine nI_mulE ?_ ?_ | with_reducible refine nI_subE ?_ ?_ ?_ | omega | (with_reducible refine congrArg nI ?_; omega))) hS.t11 hS.l11 (by omega) (by omega) ?_
        refine J_p 2 (ls' := [_, _, _, _, _, _, _, _]) rfl ?_
        rw [nI_add kk 1]
        refine J_M (M' := (wI (wL M (r + 11) (cD f (40 * a + i) (40 * b + j) n (kk + 1))) (r + 1) g)) ?_ (ih (kk + 1) (by omega) _ k)
        show wI (sL (wL M (r + 11) (cD f (40 * a + i) (40 * b + j) n kk)) (r + 11) (40 * b + j + (n - 1 - kk)) (mL (wL M (r + 11) (cD f (40 * a + i) (40 * b + j) n kk)) (r + 11) (40 * a + i + (n - 1 - kk)))) (r + 1) g = _
        rw [mL_wL, if_pos rfl]
        exact congrArg (fun Y => wI Y (r + 1) g) (sL_row M (r + 11) _ _ _ _ (cD_s (by omega) (by omega)))

theorem s_copy (h : RR M r S) (w : WfS T S) (hT : T + 100 < 2 ^ 20) (p q i j n : Int32) (k : ∀ M' : Mm, Fr r M M' → RR M' r (fCopy S p q i j n).2 → WfS (T + 99) (fCopy S p q i j n).2 → Q (some (.int (fCopy S p q i j n).1)) M') : J E 238 0 [.ref r, .int p, .int q, .int i, .int j, .int n, U0, U0] [] M Q := by
  obtain ⟨g, hg⟩ : ∃ g, mI M (r + 1) = g := ⟨_, rfl⟩
  have hS := h.1
  have hA := h.a
  rw [hg] at hA
  rw [show M = wI M (r + 1) g by rw [← hg, wI_id]]
  have kR : ∀ (v : Nat) (x : Int32), fCopy S p q i j n = rfS S v → x = rfN v → Q (some (.int x)) (wI (rfM M r v) (r + 1) g) := fun v x e ex => by
    rw [e] at k; rw [ex]; exact k _ (Fr.rf hg) (h.rf hg v) (w.rf hT)
  have kO : ∀ (a : Int32) (S' : St) (M' : Mm), fCopy S p q i j n = (a, S') → Fr r M M' → RR M' r S' → WfS (T + 99) S' → Q (some (.int a)) M' := fun a S' M' e => by
    rw [e] at k; exact k M'
  refine J_p 1 (ls' := [_, _, _, _, _, _, _, _]) rfl ?_
  refine J_call rfl rfl rfl rfl rfl (c_isShelf (s := p) (fun a h1 l1 e1 => ?_) (fun h1 => ?_))
  · skip
    subst e1
    show J _ _ _ _ _ _ _
    refine J_zeq rfl (fun b => absurd b (by decide)) (fun _ => ?_)
    refine J_p 1 (ls' := [_, _, _, _, _, _, _, _]) rfl ?_
    refine J_call rfl rfl rfl rfl rfl (c_isShelf (s := q) (fun b h8 l8 e8 => ?_) (fun h8 => ?_))
    · skip
      subst e8
      show J _ _ _ _ _ _ _
      refine J_zne rfl (fun _ => ?_) (fun b => absurd b (by decide))
      have hs := h.s a l1
      cases hsh : s_h S a with
      | none =>
        rw [hsh] at hs
        have hs9 : mI M (r + 9) a = -1 := hs
        have hs' := h.s b l8
        cases hsh' : s_h S b with
        | none =>
          rw [hsh'] at hs'
          have hs9' : mI M (r + 9) b = -1 := hs'
          refine J_p 1 (ls' := [_, _, _, _, _, _, _, _]) rfl ?_
          refine J_getR rfl hS.t hS.f13 ?_
          refine J_p 1 (ls' := [_, _, _, _, _, _, _, _]) rfl ?_
          refine J_old (n := a) rfl (by repeat' (first | with_reducible rfl | assumption | with_reducible refine nI_decE ?_ | with_reducible refine nI_addE ?_ ?_ | with_reducible refine nI_mulE ?_ ?_ | with_reducible refine nI_subE ?_ ?_ ?_ | omega | (with_reducible refine congrArg nI ?_; omega))) (by omega) hS.t9 hS.l9 (by omega) (by omega) hs9 ?_
          refine J_p 1 (ls' := [_, _, _, _, _, _, _, _]) rfl ?_
          refine J_igt rfl (fun b28 => ?_) (fun b28 => ?_)
          · skip
            exact absurd b28 (by decide)
          · skip
            refine J_p 1 (ls' := [_, _, _, _, _, _, _, _]) rfl ?_
            refine J_getR rfl hS.t hS.f13 ?_
            refine J_p 1 (ls' := [_, _, _, _, _, _, _, _]) rfl ?_
            refine J_old (n := b) rfl (by repeat' (first | with_reducible rfl | assumption | with_reducible refine nI_decE ?_ | with_reducible refine nI_addE ?_ ?_ | with_reducible refine nI_mulE ?_ ?_ | with_reducible refine nI_subE ?_ ?_ ?_ | omega | (with_reducible refine congrArg nI ?_; omega))) (by omega) hS.t9 hS.l9 (by omega) (by omega) hs9' ?_
            refine J_p 1 (ls' := [_, _, _, _, _, _, _, _]) rfl ?_
            refine J_igt rfl (fun b38 => ?_) (fun b38 => ?_)
            · skip
              exact absurd b38 (by decide)
            · skip
              refine J_p 1 (ls' := [_, _, _, _, _, _, _, _]) rfl ?_
              refine J_getR rfl hS.t hS.f13 ?_
              refine J_p 1 (ls' := [_, _, _, _, _, _, _, _]) rfl ?_
              refine J_old (n := a) rfl (by repeat' (first | with_reducible rfl | assumption | with_reducible refine nI_decE ?_ | with_reducible refine nI_addE ?_ ?_ | with_reducible refine nI_mulE ?_ ?_ | with_reducible refine nI_subE ?_ ?_ ?_ | omega | (with_reducible refine congrArg nI ?_; omega))) (by omega) hS.t9 hS.l9 (by omega) (by omega) hs9 ?_
              refine J_zlt rfl (fun _ => ?_) (fun b => absurd (by decide) b)
              refine J_p 1 (ls' := [_, _, _, _, _, _, _, _]) rfl ?_
              refine J_getR rfl hS.t hS.f13 ?_
              refine J_p 1 (ls' := [_, _, _, _, _, _, _, _]) rfl ?_
              refine J_old (n := a) rfl (by repeat' (first | with_reducible rfl | assumption | with_reducible refine nI_decE ?_ | with_reducible refine nI_addE ?_ ?_ | with_reducible refine nI_mulE ?_ ?_ | with_reducible refine nI_subE ?_ ?_ ?_ | omega | (with_reducible refine congrArg nI ?_; omega))) (by omega) hS.t9 hS.l9 (by omega) (by omega) hs9 ?_
              refine J_zlt rfl (fun _ => ?_) (fun b => absurd (by decide) b)
              refine J_p 2 (ls' := [_, _, _, _, _, _, _, _]) rfl ?_
              refine J_call rfl rfl rfl (decide_eq_true hS.t) rfl (c_refused hS 2 (by decide) (by decide) ?_)
              show J _ _ _ _ _ _ _
              exact J_ret rfl rfl rfl (kR 2 _ (by simp only [fCopy, h1, h8, hsh, hsh', if_true, if_false, reduceIte]; first | done | rfl) (by decide))
        | some v =>
          cases v with
          | inl p =>
            obtain ⟨so', els'⟩ := p
            rw [hsh'] at hs'
            obtain ⟨o4', el40', hs9', hs10', hs11'⟩ := hs'
            refine J_p 1 (ls' := [_, _, _, _, _, _, _, _]) rfl ?_
            refine J_getR rfl hS.t hS.f13 ?_
            refine J_p 1 (ls' := [_, _, _, _, _, _, _, _]) rfl ?_
            refine J_old (n := a) rfl (by repeat' (first | with_reducible rfl | assumption | with_reducible refine nI_decE ?_ | with_reducible refine nI_addE ?_ ?_ | with_reducible refine nI_mulE ?_ ?_ | with_reducible refine nI_subE ?_ ?_ ?_ | omega | (with_reducible refine congrArg nI ?_; omega))) (by omega) hS.t9 hS.l9 (by omega) (by omega) hs9 ?_
            refine J_p 1 (ls' := [_, _, _, _, _, _, _, _]) rfl ?_
            refine J_igt rfl (fun b28 => ?_) (fun b28 => ?_)
            · skip
              exact absurd b28 (by decide)
            · skip
              refine J_p 1 (ls' := [_, _, _, _, _, _, _, _]) rfl ?_
              refine J_getR rfl hS.t hS.f13 ?_
              refine J_p 1 (ls' := [_, _, _, _, _, _, _, _]) rfl ?_
              refine J_old (n := b) rfl (by repeat' (first | with_reducible rfl | assumption | with_reducible refine nI_decE ?_ | with_reducible refine nI_addE ?_ ?_ | with_reducible refine nI_mulE ?_ ?_ | with_reducible refine nI_subE ?_ ?_ ?_ | omega | (with_reducible refine congrArg nI ?_; omega))) (by omega) hS.t9 hS.l9 (by omega) (by omega) hs9' ?_
              refine J_p 1 (ls' := [_, _, _, _, _, _, _, _]) rfl ?_
              refine J_igt rfl (fun b38 => ?_) (fun b38 => ?_)
              · skip
                exact absurd b38 (nI_nlt (by omega) (by omega))
              · skip
                refine J_p 1 (ls' := [_, _, _, _, _, _, _, _]) rfl ?_
                refine J_getR rfl hS.t hS.f13 ?_
                refine J_p 1 (ls' := [_, _, _, _, _, _, _, _]) rfl ?_
                refine J_old (n := a) rfl (by repeat' (first | with_reducible rfl | assumption | with_reducible refine nI_decE ?_ | with_reducible refine nI_addE ?_ ?_ | with_reducible refine nI_mulE ?_ ?_ | with_reducible refine nI_subE ?_ ?_ ?_ | omega | (with_reducible refine congrArg nI ?_; omega))) (by omega) hS.t9 hS.l9 (by omega) (by omega) hs9 ?_
                refine J_zlt rfl (fun _ => ?_) (fun b => absurd (by decide) b)
                refine J_p 1 (ls' := [_, _, _, _, _, _, _, _]) rfl ?_
                refine J_getR rfl hS.t hS.f13 ?_
                refine J_p 1 (ls' := [_, _, _, _, _, _, _, _]) rfl ?_
                refine J_old (n := a) rfl (by repeat' (first | with_reducible rfl | assumption | with_reducible refine nI_decE ?_ | with_reducible refine nI_addE ?_ ?_ | with_reducible refine nI_mulE ?_ ?_ | with_reducible refine nI_subE ?_ ?_ ?_ | omega | (with_reducible refine congrArg nI ?_; omega))) (by omega) hS.t9 hS.l9 (by omega) (by omega) hs9 ?_
                refine J_zlt rfl (fun _ => ?_) (fun b => absurd (by decide) b)
                refine J_p 2 (ls' := [_, _, _, _, _, _, _, _]) rfl ?_
                refine J_call rfl rfl rfl (decide_eq_true hS.t) rfl (c_refused hS 2 (by decide) (by decide) ?_)
                show J _ _ _ _ _ _ _
                exact J_ret rfl rfl rfl (kR 2 _ (by simp only [fCopy, h1, h8, hsh, hsh', if_true, if_false, reduceIte]; first | done | rfl) (by decide))
          | inr c =>
            rw [hsh'] at hs'
            obtain ⟨n', ⟨n3', n6'⟩, hc1', hs9', c0', c1', c2', c3'⟩ := hs'
            refine J_p 1 (ls' := [_, _, _, _, _, _, _, _]) rfl ?_
            refine J_getR rfl hS.t hS.f13 ?_
            refine J_p 1 (ls' := [_, _, _, _, _, _, _, _]) rfl ?_
            refine J_old (n := a) rfl (by repeat' (first | with_reducible rfl | assumption | with_reducible refine nI_decE ?_ | with_reducible refine nI_addE ?_ ?_ | with_reducible refine nI_mulE ?_ ?_ | with_reducible refine nI_subE ?_ ?_ ?_ | omega | (with_reducible refine congrArg nI ?_; omega))) (by omega) hS.t9 hS.l9 (by omega) (by omega) hs9 ?_
            refine J_p 1 (ls' := [_, _, _, _, _, _, _, _]) rfl ?_
            refine J_igt rfl (fun b28 => ?_) (fun b28 => ?_)
            · skip
              exact absurd b28 (by decide)
            · skip
              refine J_p 1 (ls' := [_, _, _, _, _, _, _, _]) rfl ?_
              refine J_getR rfl hS.t hS.f13 ?_
              refine J_p 1 (ls' := [_, _, _, _, _, _, _, _]) rfl ?_
              refine J_old (n := b) rfl (by repeat' (first | with_reducible rfl | assumption | with_reducible refine nI_decE ?_ | with_reducible refine nI_addE ?_ ?_ | with_reducible refine nI_mulE ?_ ?_ | with_reducible refine nI_subE ?_ ?_ ?_ | omega | (with_reducible refine congrArg nI ?_; omega))) (by omega) hS.t9 hS.l9 (by omega) (by omega) hs9' ?_
              refine J_p 1 (ls' := [_, _, _, _, _, _, _, _]) rfl ?_
              refine J_igt rfl (fun b38 => ?_) (fun b38 => ?_)
              · skip
                refine J_p 2 (ls' := [_, _, _, _, _, _, _, _]) rfl ?_
                refine J_call rfl rfl rfl (decide_eq_true hS.t) rfl (c_refused hS 1 (by decide) (by decide) ?_)
                show J _ _ _ _ _ _ _
                exact J_ret rfl rfl rfl (kR 1 _ (by simp only [fCopy, h1, h8, hsh, hsh', if_true, if_false, reduceIte]; first | done | rfl) (by decide))
              · skip
                exact absurd (nI_lt (by omega) (by omega)) b38
      | some v =>
        cases v with
        | inl p =>
          obtain ⟨so, els⟩ := p
          rw [hsh] at hs
          obtain ⟨o4, el40, hs9, hs10, hs11⟩ := hs
          have hs' := h.s b l8
          cases hsh' : s_h S b with
          | none =>
            rw [hsh'] at hs'
            have hs9' : mI M (r + 9) b = -1 := hs'
            refine J_p 1 (ls' := [_, _, _, _, _, _, _, _]) rfl ?_
            refine J_getR rfl hS.t hS.f13 ?_
            refine J_p 1 (ls' := [_, _, _, _, _, _, _, _]) rfl ?_
            refine J_old (n := a) rfl (by repeat' (first | with_reducible rfl | assumption | with_reducible refine nI_decE ?_ | with_reducible refine nI_addE ?_ ?_ | with_reducible refine nI_mulE ?_ ?_ | with_reducible refine nI_subE ?_ ?_ ?_ | omega | (with_reducible refine congrArg nI ?_; omega))) (by omega) hS.t9 hS.l9 (by omega) (by omega) hs9 ?_
            refine J_p 1 (ls' := [_, _, _, _, _, _, _, _]) rfl ?_
            refine J_igt rfl (fun b28 => ?_) (fun b28 => ?_)
            · skip
              exact absurd b28 (nI_nlt (by omega) (by omega))
            · skip
              refine J_p 1 (ls' := [_, _, _, _, _, _, _, _]) rfl ?_
              refine J_getR rfl hS.t hS.f13 ?_
              refine J_p 1 (ls' := [_, _, _, _, _, _, _, _]) rfl ?_
              refine J_old (n := b) rfl (by repeat' (first | with_reducible rfl | assumption | with_reducible refine nI_decE ?_ | with_reducible refine nI_addE ?_ ?_ | with_reducible refine nI_mulE ?_ ?_ | with_reducible refine nI_subE ?_ ?_ ?_ | omega | (with_reducible refine congrArg nI ?_; omega))) (by omega) hS.t9 hS.l9 (by omega) (by omega) hs9' ?_
              refine J_p 1 (ls' := [_, _, _, _, _, _, _, _]) rfl ?_
              refine J_igt rfl (fun b38 => ?_) (fun b38 => ?_)
              · skip
                exact absurd b38 (by decide)
              · skip
                refine J_p 1 (ls' := [_, _, _, _, _, _, _, _]) rfl ?_
                refine J_getR rfl hS.t hS.f13 ?_
                refine J_p 1 (ls' := [_, _, _, _, _, _, _, _]) rfl ?_
                refine J_old (n := a) rfl (by repeat' (first | with_reducible rfl | assumption | with_reducible refine nI_decE ?_ | with_reducible refine nI_addE ?_ ?_ | with_reducible refine nI_mulE ?_ ?_ | with_reducible refine nI_subE ?_ ?_ ?_ | omega | (with_reducible refine congrArg nI ?_; omega))) (by omega) hS.t9 hS.l9 (by omega) (by omega) hs9 ?_
                refine J_zlt rfl (fun b => absurd b (nI_pos (by omega))) (fun _ => ?_)
                refine J_p 1 (ls' := [_, _, _, _, _, _, _, _]) rfl ?_
                refine J_getR rfl hS.t hS.f13 ?_
                refine J_p 1 (ls' := [_, _, _, _, _, _, _, _]) rfl ?_
                refine J_old (n := b) rfl (by repeat' (first | with_reducible rfl | assumption | with_reducible refine nI_decE ?_ | with_reducible refine nI_addE ?_ ?_ | with_reducible refine nI_mulE ?_ ?_ | with_reducible refine nI_subE ?_ ?_ ?_ | omega | (with_reducible refine congrArg nI ?_; omega))) (by omega) hS.t9 hS.l9 (by omega) (by omega) hs9' ?_
                refine J_zlt rfl (fun _ => ?_) (fun b => absurd (by decide) b)
                refine J_p 1 (ls' := [_, _, _, _, _, _, _, _]) rfl ?_
                refine J_getR rfl hS.t hS.f13 ?_
                refine J_p 1 (ls' := [_, _, _, _, _, _, _, _]) rfl ?_
                refine J_old (n := a) rfl (by repeat' (first | with_reducible rfl | assumption | with_reducible refine nI_decE ?_ | with_reducible refine nI_addE ?_ ?_ | with_reducible refine nI_mulE ?_ ?_ | with_reducible refine nI_subE ?_ ?_ ?_ | omega | (with_reducible refine congrArg nI ?_; omega))) (by omega) hS.t9 hS.l9 (by omega) (by omega) hs9 ?_
                refine J_zlt rfl (fun b => absurd b (nI_pos (by omega))) (fun _ => ?_)
                refine J_p 1 (ls' := [_, _, _, _, _, _, _, _]) rfl ?_
                refine J_getR rfl hS.t hS.f13 ?_
                refine J_p 1 (ls' := [_, _, _, _, _, _, _, _]) rfl ?_
                refine J_old (n := b) rfl (by repeat' (first | with_reducible rfl | assumption | with_reducible refine nI_decE ?_ | with_reducible refine nI_addE ?_ ?_ | with_reducible refine nI_mulE ?_ ?_ | with_reducible refine nI_subE ?_ ?_ ?_ | omega | (with_reducible refine congrArg nI ?_; omega))) (by omega) hS.t9 hS.l9 (by omega) (by omega) hs9' ?_
                refine J_zge rfl (fun b => absurd b (by decide)) (fun _ => ?_)
                refine J_p 2 (ls' := [_, _, _, _, _, _, _, _]) rfl ?_
                refine J_call rfl rfl rfl (decide_eq_true hS.t) rfl (c_refused hS 2 (by decide) (by decide) ?_)
                show J _ _ _ _ _ _ _
                exact J_ret rfl rfl rfl (kR 2 _ (by simp only [fCopy, h1, h8, hsh, hsh', if_true, if_false, reduceIte]; first | done | rfl) (by decide))
          | some v =>
            cases v with
            | inl p =>
              obtain ⟨so', els'⟩ := p
              rw [hsh'] at hs'
              obtain ⟨o4', el40', hs9', hs10', hs11'⟩ := hs'
              refine J_p 1 (ls' := [_, _, _, _, _, _, _, _]) rfl ?_
              refine J_getR rfl hS.t hS.f13 ?_
              refine J_p 1 (ls' := [_, _, _, _, _, _, _, _]) rfl ?_
              refine J_old (n := a) rfl (by repeat' (first | with_reducible rfl | assumption | with_reducible refine nI_decE ?_ | with_reducible refine nI_addE ?_ ?_ | with_reducible refine nI_mulE ?_ ?_ | with_reducible refine nI_subE ?_ ?_ ?_ | omega | (with_reducible refine congrArg nI ?_; omega))) (by omega) hS.t9 hS.l9 (by omega) (by omega) hs9 ?_
              refine J_p 1 (ls' := [_, _, _, _, _, _, _, _]) rfl ?_
              refine J_igt rfl (fun b28 => ?_) (fun b28 => ?_)
              · skip
                exact absurd b28 (nI_nlt (by omega) (by omega))
              · skip
                refine J_p 1 (ls' := [_, _, _, _, _, _, _, _]) rfl ?_
                refine J_getR rfl hS.t hS.f13 ?_
                refine J_p 1 (ls' := [_, _, _, _, _, _, _, _]) rfl ?_
                refine J_old (n := b) rfl (by repeat' (first | with_reducible rfl | assumption | with_reducible refine nI_decE ?_ | with_reducible refine nI_addE ?_ ?_ | with_reducible refine nI_mulE ?_ ?_ | with_reducible refine nI_subE ?_ ?_ ?_ | omega | (with_reducible refine congrArg nI ?_; omega))) (by omega) hS.t9 hS.l9 (by omega) (by omega) hs9' ?_
                refine J_p 1 (ls' := [_, _, _, _, _, _, _, _]) rfl ?_
                refine J_igt rfl (fun b38 => ?_) (fun b38 => ?_)
                · skip
                  exact absurd b38 (nI_nlt (by omega) (by omega))
                · skip
                  refine J_p 1 (ls' := [_, _, _, _, _, _, _, _]) rfl ?_
                  refine J_getR rfl hS.t hS.f13 ?_
                  refine J_p 1 (ls' := [_, _, _, _, _, _, _, _]) rfl ?_
                  refine J_old (n := a) rfl (by repeat' (first | with_reducible rfl | assumption | with_reducible refine nI_decE ?_ | with_reducible refine nI_addE ?_ ?_ | with_reducible refine nI_mulE ?_ ?_ | with_reducible refine nI_subE ?_ ?_ ?_ | omega | (with_reducible refine congrArg nI ?_; omega))) (by omega) hS.t9 hS.l9 (by omega) (by omega) hs9 ?_
                  refine J_zlt rfl (fun b => absurd b (nI_pos (by omega))) (fun _ => ?_)
                  refine J_p 1 (ls' := [_, _, _, _, _, _, _, _]) rfl ?_
                  refine J_getR rfl hS.t hS.f13 ?_
                  refine J_p 1 (ls' := [_, _, _, _, _, _, _, _]) rfl ?_
                  refine J_old (n := b) rfl (by repeat' (first | with_reducible rfl | assumption | with_reducible refine nI_decE ?_ | with_reducible refine nI_addE ?_ ?_ | with_reducible refine nI_mulE ?_ ?_ | with_reducible refine nI_subE ?_ ?_ ?_ | omega | (with_reducible refine congrArg nI ?_; omega))) (by omega) hS.t9 hS.l9 (by omega) (by omega) hs9' ?_
                  refine J_zlt rfl (fun b => absurd b (nI_pos (by omega))) (fun _ => ?_)
                  refine J_p 1 (ls' := [_, _, _, _, _, _, _, _]) rfl ?_
                  refine J_getR rfl hS.t hS.f13 ?_
                  refine J_p 1 (ls' := [_, _, _, _, _, _, _, _]) rfl ?_
                  refine J_old (n := a) rfl (by repeat' (first | with_reducible rfl | assumption | with_reducible refine nI_decE ?_ | with_reducible refine nI_addE ?_ ?_ | with_reducible refine nI_mulE ?_ ?_ | with_reducible refine nI_subE ?_ ?_ ?_ | omega | (with_reducible refine congrArg nI ?_; omega))) (by omega) hS.t9 hS.l9 (by omega) (by omega) hs9 ?_
                  refine J_p 1 (ls' := [_, _, _, _, _, _, _, _]) rfl ?_
                  refine J_getR rfl hS.t hS.f13 ?_
                  refine J_p 1 (ls' := [_, _, _, _, _, _, _, _]) rfl ?_
                  refine J_old (n := b) rfl (by repeat' (first | with_reducible rfl | assumption | with_reducible refine nI_decE ?_ | with_reducible refine nI_addE ?_ ?_ | with_reducible refine nI_mulE ?_ ?_ | with_reducible refine nI_subE ?_ ?_ ?_ | omega | (with_reducible refine congrArg nI ?_; omega))) (by omega) hS.t9 hS.l9 (by omega) (by omega) hs9' ?_
                  refine J_ieq rfl (fun b71 => ?_) (fun b71 => ?_)
                  · skip
                    have e71 : so = so' := (nI_eq (by omega) (by omega)).mp b71
                    refine J_p 1 (ls' := [_, _, _, _, _, _, _, _]) rfl ?_
                    refine J_getR rfl hS.t hS.f13 ?_
                    refine J_p 1 (ls' := [_, _, _, _, _, _, _, _]) rfl ?_
                    refine J_old (n := a) rfl (by repeat' (first | with_reducible rfl | assumption | with_reducible refine nI_decE ?_ | with_reducible refine nI_addE ?_ ?_ | with_reducible refine nI_mulE ?_ ?_ | with_reducible refine nI_subE ?_ ?_ ?_ | omega | (with_reducible refine congrArg nI ?_; omega))) (by omega) hS.t9 hS.l9 (by omega) (by omega) hs9 ?_
                    refine J_zlt rfl (fun b => absurd b (nI_pos (by omega))) (fun _ => ?_)
                    refine J_p 1 (ls' := [_, _, _, _, _, _, _, _]) rfl ?_
                    refine J_getR rfl hS.t hS.f13 ?_
                    refine J_p 1 (ls' := [_, _, _, _, _, _, _, _]) rfl ?_
                    refine J_old (n := b) rfl (by repeat' (first | with_reducible rfl | assumption | with_reducible refine nI_decE ?_ | with_reducible refine nI_addE ?_ ?_ | with_reducible refine nI_mulE ?_ ?_ | with_reducible refine nI_subE ?_ ?_ ?_ | omega | (with_reducible refine congrArg nI ?_; omega))) (by omega) hS.t9 hS.l9 (by omega) (by omega) hs9' ?_
                    refine J_zge rfl (fun _ => ?_) (fun b => absurd (nI_pos' (by omega)) b)
                    have rr : ∀ i' j' n' : Nat, i' + n' ≤ els.length → j' + n' ≤ els'.length → RR (wI (wL M (r + 11) (cU (mL M (r + 11)) (40 * a + i') (40 * b + j') n')) (r + 1) g) r (z_h S b (some (.inl (so, cpL els els' i' j' n')))) := fun i' j' n' hi hj => by
                      refine h.shelf hg rfl rfl (fun a z1 z2 z3 z4 => rfl) (fun i hi => rfl) (fun i hi => rfl) (fun i k hi hk => rfl) (fun i2 k2 hi2 hk2 => ?_) ⟨o4, by rw [cpL_len]; exact el40', by rw [e71]; exact hs9', by rw [cpL_len]; exact hs10', fun k2 v hv => ?_⟩
                      · rw [mL_wL, if_pos rfl]; unfold cU; rw [if_neg (by omega)]
                      · obtain ⟨hk2, rfl⟩ := cpL_get hv
                        rw [mL_wL, if_pos rfl]; unfold cU
                        by_cases c : j' ≤ k2 ∧ k2 < j' + n'
                        · obtain ⟨y, hy⟩ := get_of (l := els) (i := i' + (k2 - j')) (by omega)
                          rw [if_pos c, if_pos (by omega), getD_of hy, ← hs11 _ y hy]
                          congr 1; omega
                        · obtain ⟨y, hy⟩ := get_of hk2
                          rw [if_neg c, if_neg (by omega), getD_of hy, ← hs11' _ y hy]
                    have fin : ∀ i' j' n' : Nat, i = nI i' → j = nI j' → n = nI n' → i' + n' ≤ els.length → j' + n' ≤ els'.length → J E 238 178 [.ref r, .int (nI a), .int (nI b), .int i, .int j, .int n, .int (nI 0), U0] [] (wI M (r + 1) g) Q := fun i' j' n' ei ej en hi hj => by
                      subst ei; subst ej; subst en
                      have eO : fCopy S (nI a) (nI b) (nI i') (nI j') (nI n') = (nI n', z_h S b (some (.inl (so, cpL els els' i' j' n')))) := by
                        simp only [fCopy, h1, h8, hsh, hsh', e71, if_true, cpA, ixN_nI (show i' < els.length + 1 by omega) (by omega), ixN_nI (show j' < els'.length + 1 by omega) (by omega), ixN_nI (show n' < 41 by omega) (by omega), if_pos (And.intro hi hj)]
                      have fx := kO _ _ _ eO ((Fr.wlx M _ (by omega) (by omega)).trans (Fr.wix _ _ (by omega) (by omega))) (rr i' j' n' hi hj) (WfS.mono w (by omega) (by omega))
                      rcases Nat.lt_or_ge i' j' with hlt | hge
                      · refine J_M (M' := wI (wL M (r + 11) (cD (mL M (r + 11)) (40 * a + i') (40 * b + j') n' 0)) (r + 1) g) (by rw [cD_0, wL_id]) ?_
                        exact c_copy_d (E := E) hS l1 l8 (by omega) (by omega) hlt n' 0 (by omega) _ (by rw [cU_n]; exact fx)
                      · refine J_M (M' := wI (wL M (r + 11) (cU (mL M (r + 11)) (40 * a + i') (40 * b + j') 0)) (r + 1) g) (by rw [cU_0, wL_id]) ?_
                        exact c_copy_u (E := E) hS l1 l8 (by omega) (by omega) hge n' 0 (by omega) _ fx
                    have bad : (∀ i' j' n' : Nat, i = nI i' → j = nI j' → n = nI n' → ¬ (i' + n' ≤ els.length ∧ j' + n' ≤ els'.length)) → J E 238 168 [.ref r, .int (nI a), .int (nI b), .int i, .int j, .int n, U0, U0] [] (wI M (r + 1) g) Q := fun hb => by
                      refine J_p 2 (ls' := [_, _, _, _, _, _, _, _]) rfl ?_
                      refine J_call rfl rfl rfl (decide_eq_true hS.t) rfl (c_refused hS 0 (by decide) (by decide) ?_)
                      show J _ _ _ _ _ _ _
                      refine J_ret rfl rfl rfl (kR 0 _ ?_ (by decide))
                      simp only [fCopy, h1, h8, hsh, hsh', e71, if_true, cpA]
                      cases ei : ixN i (els.length + 1) with
                      | none => rfl
                      | some i' =>
                        simp only
                        cases ej : ixN j (els'.length + 1) with
                        | none => rfl
                        | some j' =>
                          simp only
                          cases en : ixN n 41 with
                          | none => rfl
                          | some n' =>
                            simp only
                            exact if_neg (hb i' j' n' (ixN_some ei).2.1 (ixN_some ej).2.1 (ixN_some en).2.1)
                    have ng : ∀ (x : Int32) (k : Nat), k < 2 ^ 31 → x = nI k → ¬ x < 0 := fun x k hk e => by rw [e]; exact nI_pos hk
                    have c9 : ∀ {x : Int32}, ¬ x < 0 → ∃ k, k < 2147483648 ∧ x = nI k := fun hx => by
                      obtain ⟨k, _, e, l⟩ := ix31_s hx
                      exact ⟨k, l, e⟩
                    refine J_p 1 (ls' := [_, _, _, _, _, _, _, _]) rfl ?_
                    refine J_zlt rfl (fun b0 => bad (fun i' j' n' ei ej en hh => ng i i' (by omega) ei b0)) (fun b0 => ?_)
                    refine J_p 1 (ls' := [_, _, _, _, _, _, _, _]) rfl ?_
                    refine J_zlt rfl (fun b1 => bad (fun i' j' n' ei ej en hh => ng j j' (by omega) ej b1)) (fun b1 => ?_)
                    refine J_p 1 (ls' := [_, _, _, _, _, _, _, _]) rfl ?_
                    refine J_zlt rfl (fun b2 => bad (fun i' j' n' ei ej en hh => ng n n' (by omega) en b2)) (fun b2 => ?_)
                    obtain ⟨i', i31, ei⟩ := c9 b0
                    obtain ⟨j', j31, ej⟩ := c9 b1
                    obtain ⟨n', n31, en⟩ := c9 b2
                    have un : ∀ x y : Nat, x < 2147483648 → y < 100 → nI x = nI y → x = y := fun x y hx hy e => (nI_eq (by omega) (by omega)).mp e
                    have bad' : ¬ (i' + n' ≤ els.length ∧ j' + n' ≤ els'.length) → J E 238 168 [.ref r, .int (nI a), .int (nI b), .int i, .int j, .int n, U0, U0] [] (wI M (r + 1) g) Q := fun hh => bad (fun i2 j2 n2 e1 e2 e3 h2 => hh (by
                      have f1 := un i' i2 i31 (by omega) (ei.symm.trans e1)
                      have f2 := un j' j2 j31 (by omega) (ej.symm.trans e2)
                      have f3 := un n' n2 n31 (by omega) (en.symm.trans e3)
                      subst f1; subst f2; subst f3; exact h2))
                    refine J_p 2 (ls' := [_, _, _, _, _, _, _, _]) rfl ?_
                    refine J_getR rfl hS.t hS.f14 ?_
                    refine J_p 1 (ls' := [_, _, _, _, _, _, _, _]) rfl ?_
                    refine J_old (n := a) rfl rfl (by omega) hS.t10 hS.l10 (by omega) (by omega) hs10 ?_
                    rw [ei]
                    refine J_igt rfl (fun b3 => by rw [← ei]; exact bad' (fun hh => absurd b3 (nI_nlt (by omega) (by omega)))) (fun b3 => ?_)
                    have q3 : i' ≤ els.length := by
                      rcases Nat.lt_or_ge els.length i' with z | z
                      · exact absurd (nI_lt z (by omega)) b3
                      · exact z
                    rw [← ei]
                    refine J_p 2 (ls' := [_, _, _, _, _, _, _, _]) rfl ?_
                    refine J_getR rfl hS.t hS.f14 ?_
                    refine J_p 1 (ls' := [_, _, _, _, _, _, _, _]) rfl ?_
                    refine J_old (n := b) rfl rfl (by omega) hS.t10 hS.l10 (by omega) (by omega) hs10' ?_
                    rw [ej]
                    refine J_igt rfl (fun b4 => by rw [← ej]; exact bad' (fun hh => absurd b4 (nI_nlt (by omega) (by omega)))) (fun b4 => ?_)
                    have q4 : j' ≤ els'.length := by
                      rcases Nat.lt_or_ge els'.length j' with z | z
                      · exact absurd (nI_lt z (by omega)) b4
                      · exact z
                    rw [← ej]
                    refine J_p 2 (ls' := [_, _, _, _, _, _, _, _]) rfl ?_
                    refine J_getR rfl hS.t hS.f14 ?_
                    refine J_p 1 (ls' := [_, _, _, _, _, _, _, _]) rfl ?_
                    refine J_old (n := a) rfl rfl (by omega) hS.t10 hS.l10 (by omega) (by omega) hs10 ?_
                    refine J_p 2 (ls' := [_, _, _, _, _, _, _, _]) rfl ?_
                    rw [show nI els.length - i = nI (els.length - i') from by rw [ei]; exact nI_subE rfl rfl q3, en]
                    refine J_igt rfl (fun b5 => by rw [← en]; exact bad' (fun hh => absurd b5 (nI_nlt (by omega) (by omega)))) (fun b5 => ?_)
                    have q5 : n' ≤ els.length - i' := by
                      rcases Nat.lt_or_ge (els.length - i') n' with z | z
                      · exact absurd (nI_lt z (by omega)) b5
                      · exact z
                    rw [← en]
                    refine J_p 2 (ls' := [_, _, _, _, _, _, _, _]) rfl ?_
                    refine J_getR rfl hS.t hS.f14 ?_
                    refine J_p 1 (ls' := [_, _, _, _, _, _, _, _]) rfl ?_
                    refine J_old (n := b) rfl rfl (by omega) hS.t10 hS.l10 (by omega) (by omega) hs10' ?_
                    refine J_p 2 (ls' := [_, _, _, _, _, _, _, _]) rfl ?_
                    rw [show nI els'.length - j = nI (els'.length - j') from by rw [ej]; exact nI_subE rfl rfl q4, en]
                    refine J_ile rfl (fun b6 => ?_) (fun b6 => by rw [← en]; exact bad' (fun hh => absurd (nI_le (by omega) (by omega)) b6))
                    have q6 : n' ≤ els'.length - j' := (nI_leI (by omega) (by omega)).mp b6
                    rw [← en]
                    refine J_p 2 (ls' := [_, _, _, _, _, _, _, _]) rfl ?_
                    exact fin i' j' n' ei ej en (by omega) (by omega)
                  · skip
                    have e71 : ¬ so = so' := fun y => b71 (by rw [y])
                    refine J_p 2 (ls' := [_, _, _, _, _, _, _, _]) rfl ?_
                    refine J_call rfl rfl rfl (decide_eq_true hS.t) rfl (c_refused hS 1 (by decide) (by decide) ?_)
                    show J _ _ _ _ _ _ _
                    exact J_ret rfl rfl rfl (kR 1 _ (by simp only [fCopy, h1, h8, hsh, hsh', e71, if_true, if_false, reduceIte]; first | done | rfl) (by decide))
            | inr c =>
              rw [hsh'] at hs'
              obtain ⟨n', ⟨n3', n6'⟩, hc1', hs9', c0', c1', c2', c3'⟩ := hs'
              refine J_p 1 (ls' := [_, _, _, _, _, _, _, _]) rfl ?_
              refine J_getR rfl hS.t hS.f13 ?_
              refine J_p 1 (ls' := [_, _, _, _, _, _, _, _]) rfl ?_
              refine J_old (n := a) rfl (by repeat' (first | with_reducible rfl | assumption | with_reducible refine nI_decE ?_ | with_reducible refine nI_addE ?_ ?_ | with_reducible refine nI_mulE ?_ ?_ | with_reducible refine nI_subE ?_ ?_ ?_ | omega | (with_reducible refine congrArg nI ?_; omega))) (by omega) hS.t9 hS.l9 (by omega) (by omega) hs9 ?_
              refine J_p 1 (ls' := [_, _, _, _, _, _, _, _]) rfl ?_
              refine J_igt rfl (fun b28 => ?_) (fun b28 => ?_)
              · skip
                exact absurd b28 (nI_nlt (by omega) (by omega))
              · skip
                refine J_p 1 (ls' := [_, _, _, _, _, _, _, _]) rfl ?_
                refine J_getR rfl hS.t hS.f13 ?_
                refine J_p 1 (ls' := [_, _, _, _, _, _, _, _]) rfl ?_
                refine J_old (n := b) rfl (by repeat' (first | with_reducible rfl | assumption | with_reducible refine nI_decE ?_ | with_reducible refine nI_addE ?_ ?_ | with_reducible refine nI_mulE ?_ ?_ | with_reducible refine nI_subE ?_ ?_ ?_ | omega | (with_reducible refine congrArg nI ?_; omega))) (by omega) hS.t9 hS.l9 (by omega) (by omega) hs9' ?_
                refine J_p 1 (ls' := [_, _, _, _, _, _, _, _]) rfl ?_
                refine J_igt rfl (fun b38 => ?_) (fun b38 => ?_)
                · skip
                  refine J_p 2 (ls' := [_, _, _, _, _, _, _, _]) rfl ?_
                  refine J_call rfl rfl rfl (decide_eq_true hS.t) rfl (c_refused hS 1 (by decide) (by decide) ?_)
                  show J _ _ _ _ _ _ _
                  exact J_ret rfl rfl rfl (kR 1 _ (by simp only [fCopy, h1, h8, hsh, hsh', if_true, if_false, reduceIte]; first | done | rfl) (by decide))
                · skip
                  exact absurd (nI_lt (by omega) (by omega)) b38
        | inr c =>
          rw [hsh] at hs
          obtain ⟨n, ⟨n3, n6⟩, hc1, hs9, c0, c1, c2, c3⟩ := hs
          have hs' := h.s b l8
          cases hsh' : s_h S b with
          | none =>
            rw [hsh'] at hs'
            have hs9' : mI M (r + 9) b = -1 := hs'
            refine J_p 1 (ls' := [_, _, _, _, _, _, _, _]) rfl ?_
            refine J_getR rfl hS.t hS.f13 ?_
            refine J_p 1 (ls' := [_, _, _, _, _, _, _, _]) rfl ?_
            refine J_old (n := a) rfl (by repeat' (first | with_reducible rfl | assumption | with_reducible refine nI_decE ?_ | with_reducible refine nI_addE ?_ ?_ | with_reducible refine nI_mulE ?_ ?_ | with_reducible refine nI_subE ?_ ?_ ?_ | omega | (with_reducible refine congrArg nI ?_; omega))) (by omega) hS.t9 hS.l9 (by omega) (by omega) hs9 ?_
            refine J_p 1 (ls' := [_, _, _, _, _, _, _, _]) rfl ?_
            refine J_igt rfl (fun b28 => ?_) (fun b28 => ?_)
            · skip
              refine J_p 2 (ls' := [_, _, _, _, _, _, _, _]) rfl ?_
              refine J_call rfl rfl rfl (decide_eq_true hS.t) rfl (c_refused hS 1 (by decide) (by decide) ?_)
              show J _ _ _ _ _ _ _
              exact J_ret rfl rfl rfl (kR 1 _ (by simp only [fCopy, h1, h8, hsh, hsh', if_true, if_false, reduceIte]; first | done | rfl) (by decide))
            · skip
              exact absurd (nI_lt (by omega) (by omega)) b28
          | some v =>
            cases v with
            | inl p =>
              obtain ⟨so', els'⟩ := p
              rw [hsh'] at hs'
              obtain ⟨o4', el40', hs9', hs10', hs11'⟩ := hs'
              refine J_p 1 (ls' := [_, _, _, _, _, _, _, _]) rfl ?_
              refine J_getR rfl hS.t hS.f13 ?_
              refine J_p 1 (ls' := [_, _, _, _, _, _, _, _]) rfl ?_
              refine J_old (n := a) rfl (by repeat' (first | with_reducible rfl | assumption | with_reducible refine nI_decE ?_ | with_reducible refine nI_addE ?_ ?_ | with_reducible refine nI_mulE ?_ ?_ | with_reducible refine nI_subE ?_ ?_ ?_ | omega | (with_reducible refine congrArg nI ?_; omega))) (by omega) hS.t9 hS.l9 (by omega) (by omega) hs9 ?_
              refine J_p 1 (ls' := [_, _, _, _, _, _, _, _]) rfl ?_
              refine J_igt rfl (fun b28 => ?_) (fun b28 => ?_)
              · skip
                refine J_p 2 (ls' := [_, _, _, _, _, _, _, _]) rfl ?_
                refine J_call rfl rfl rfl (decide_eq_true hS.t) rfl (c_refused hS 1 (by decide) (by decide) ?_)
                show J _ _ _ _ _ _ _
                exact J_ret rfl rfl rfl (kR 1 _ (by simp only [fCopy, h1, h8, hsh, hsh', if_true, if_false, reduceIte]; first | done | rfl) (by decide))
              · skip
                exact absurd (nI_lt (by omega) (by omega)) b28
            | inr c =>
              rw [hsh'] at hs'
              obtain ⟨n', ⟨n3', n6'⟩, hc1', hs9', c0', c1', c2', c3'⟩ := hs'
              refine J_p 1 (ls' := [_, _, _, _, _, _, _, _]) rfl ?_
              refine J_getR rfl hS.t hS.f13 ?_
              refine J_p 1 (ls' := [_, _, _, _, _, _, _, _]) rfl ?_
              refine J_old (n := a) rfl (by repeat' (first | with_reducible rfl | assumption | with_reducible refine nI_decE ?_ | with_reducible refine nI_addE ?_ ?_ | with_reducible refine nI_mulE ?_ ?_ | with_reducible refine nI_subE ?_ ?_ ?_ | omega | (with_reducible refine congrArg nI ?_; omega))) (by omega) hS.t9 hS.l9 (by omega) (by omega) hs9 ?_
              refine J_p 1 (ls' := [_, _, _, _, _, _, _, _]) rfl ?_
              refine J_igt rfl (fun b28 => ?_) (fun b28 => ?_)
              · skip
                refine J_p 2 (ls' := [_, _, _, _, _, _, _, _]) rfl ?_
                refine J_call rfl rfl rfl (decide_eq_true hS.t) rfl (c_refused hS 1 (by decide) (by decide) ?_)
                show J _ _ _ _ _ _ _
                exact J_ret rfl rfl rfl (kR 1 _ (by simp only [fCopy, h1, h8, hsh, hsh', if_true, if_false, reduceIte]; first | done | rfl) (by decide))
              · skip
                exact absurd (nI_lt (by omega) (by omega)) b28
    · skip
      show J _ _ _ _ _ _ _
      refine J_zne rfl (fun b => absurd rfl b) (fun _ => ?_)
      refine J_p 2 (ls' := [_, _, _, _, _, _, _, _]) rfl ?_
      refine J_call rfl rfl rfl (decide_eq_true hS.t) rfl (c_refused hS 0 (by decide) (by decide) ?_)
      show J _ _ _ _ _ _ _
      exact J_ret rfl rfl rfl (kR 0 _ (by simp only [fCopy, h1, h8, if_true, if_false, reduceIte]; first | done | rfl) (by decide))
  · skip
    show J _ _ _ _ _ _ _
    refine J_zeq rfl (fun _ => ?_) (fun b => absurd rfl b)
    refine J_p 2 (ls' := [_, _, _, _, _, _, _, _]) rfl ?_
    refine J_call rfl rfl rfl (decide_eq_true hS.t) rfl (c_refused hS 0 (by decide) (by decide) ?_)
    show J _ _ _ _ _ _ _
    exact J_ret rfl rfl rfl (kR 0 _ (by simp only [fCopy, h1, if_true, if_false, reduceIte]; first | done | rfl) (by decide))

theorem c_judge_l (hS : RS M r) {v1 : Int32} {b m : Nat} {els : List Int64} {dr : List Nat} (hb : b < 8) (hm : m ≤ els.length) (h40 : els.length ≤ 40) (hd : dr.length ≤ 20) (h12 : mI M r 12 = nI dr.length) (hp : ∀ (k x : Nat), dr[k]? = some x → x < 300 ∧ mI M (r + 8) k = nI x) (he : ∀ (k : Nat) (v : Int64), els[k]? = some v → mL M (r + 11) (40 * b + k) = v) : ∀ (d kk : Nat), kk + d = m → Q (some (.int (juA els dr m d kk))) (wI M (r + 1) g) → J E 244 92 [.ref r, .int v1, .int (nI b), .int (nI m), .int (nI kk)] [] (wI M (r + 1) g) Q := by
  intro d
  induction d with
  | zero =>
    intro kk hk k
    refine J_p 2 (ls' := [_, _, _, _, _]) rfl ?_
    refine J_ige rfl (fun b95 => ?_) (fun b95 => ?_)
    · skip
      refine J_p 1 (ls' := [_, _, _, _, _]) rfl ?_
      refine J_oget rfl hS.t ⟨by omega, h12⟩ ?_
      refine J_p 1 (ls' := [_, _, _, _, _]) rfl ?_
      refine J_ile rfl (fun b145 => ?_) (fun b145 => ?_)
      · skip
        have e : juA els dr m 0 kk = -1 := if_neg (fun y => absurd b145 (nI_ge y (by omega)))
        rw [e] at k
        refine J_p 1 (ls' := [_, _, _, _, _]) rfl ?_
        exact J_ret rfl rfl rfl k
      · skip
        have e : juA els dr m 0 kk = nI m := if_pos (by rcases Nat.lt_or_ge m dr.length with z | z; exact z; exact absurd (nI_le z (by omega)) b145)
        rw [e] at k
        refine J_p 2 (ls' := [_, _, _, _, _]) rfl ?_
        exact J_ret rfl rfl rfl k
    · skip
      exact absurd (nI_le (a := m) (b := kk) (by omega) (by omega)) b95
  | succ d ih =>
    intro kk hk k
    refine J_p 2 (ls' := [_, _, _, _, _]) rfl ?_
    refine J_ige rfl (fun b95 => ?_) (fun b95 => ?_)
    · skip
      exact absurd b95 (nI_ge (a := kk) (b := m) (by omega) (by omega))
    · skip
      refine J_p 2 (ls' := [_, _, _, _, _]) rfl ?_
      refine J_oget rfl hS.t ⟨by omega, h12⟩ ?_
      refine J_ige rfl (fun b104 => ?_) (fun b104 => ?_)
      · skip
        have e : juA els dr m (d + 1) kk = nI kk := by
          have : dr[kk]? = none := List.getElem?_eq_none ((nI_leI (by omega) (by omega)).mp b104)
          simp only [juA, this]
        rw [e] at k
        refine J_p 1 (ls' := [_, _, _, _, _]) rfl ?_
        exact J_ret rfl rfl rfl k
      · skip
        have hlt : kk < dr.length := by rcases Nat.lt_or_ge kk dr.length with z | z; exact z; exact absurd (nI_le z (by omega)) b104
        obtain ⟨x, hx⟩ := get_of hlt
        obtain ⟨v, hv⟩ := get_of (l := els) (i := kk) (by omega)
        have hv2 : mL M (r + 11) (40 * b + kk) = v := he kk v hv
        have hx3 := (hp kk x hx).1
        refine J_p 1 (ls' := [_, _, _, _, _]) rfl ?_
        refine J_getR rfl hS.t hS.f15 ?_
        refine J_p 5 (ls' := [_, _, _, _, _]) rfl ?_
        refine J_lald (n := 40 * b + kk) rfl (by repeat' (first | with_reducible rfl | assumption | with_reducible refine nI_decE ?_ | with_reducible refine nI_addE ?_ ?_ | with_reducible refine nI_mulE ?_ ?_ | with_reducible refine nI_subE ?_ ?_ ?_ | omega | (with_reducible refine congrArg nI ?_; omega))) hS.t11 hS.l11 (by omega) (by omega) ?_
        refine J_p 1 (ls' := [_, _, _, _, _]) rfl ?_
        refine J_getR rfl hS.t hS.f11 ?_
        refine J_p 1 (ls' := [_, _, _, _, _]) rfl ?_
        refine J_old (n := kk) rfl (by repeat' (first | with_reducible rfl | assumption | with_reducible refine nI_decE ?_ | with_reducible refine nI_addE ?_ ?_ | with_reducible refine nI_mulE ?_ ?_ | with_reducible refine nI_subE ?_ ?_ ?_ | omega | (with_reducible refine congrArg nI ?_; omega))) (by omega) hS.t8 hS.l8 (by omega) (by omega) (hp kk x hx).2 ?_
        refine J_p 2 (ls' := [_, _, _, _, _]) rfl ?_
        refine J_zeq rfl (fun b128 => ?_) (fun b128 => ?_)
        · skip
          have e : juA els dr m (d + 1) kk = juA els dr m d (kk + 1) := by
            have e2 : v = lN x := by rw [← hv2]; rw [lN_i64 (by omega)]; exact lg_cmpZ b128
            simp only [juA, hx, getD_of hv, if_pos e2]
          rw [e] at k
          refine J_p 2 (ls' := [_, _, _, _, _]) rfl ?_
          rw [nI_add kk 1]
          exact ih (kk + 1) (by omega) k
        · skip
          have e : juA els dr m (d + 1) kk = nI kk := by
            have e2 : ¬ v = lN x := fun y => b128 (by
              have : mL (wI M (r + 1) g) (r + 11) (40 * b + kk) = (nI x).toInt64 := by rw [mL_wI, hv2, y, lN_i64 (by omega)]
              rw [this]; unfold lg_cmp; rw [if_neg (by rw [gt_iff_lt, Int64.lt_iff_toInt_lt]; omega), if_pos rfl])
            simp only [juA, hx, getD_of hv, if_neg e2]
          rw [e] at k
          refine J_p 1 (ls' := [_, _, _, _, _]) rfl ?_
          exact J_ret rfl rfl rfl k

theorem drA_lt {ms : List Ma} {B : Nat} : ∀ (f : Nat) (L : List La), (∀ l : La, l ∈ L → l_m l < B) → ∀ (k x : Nat), (drA ms f L)[k]? = some x → x < B
  | 0, _, _, _, _, h => by cases h
  | f + 1, L, hL, k, x, h => by
    unfold drA at h
    split at h
    · cases h
    · rename_i i hi
      cases k with
      | zero =>
        obtain rfl := Option.some.inj h
        obtain ⟨i1, _⟩ := nxA_lt _ _ _ _ hi
        obtain ⟨l, hl⟩ := get_of i1
        rw [getD_of hl]
        exact hL l (List.mem_iff_getElem?.mpr ⟨i, hl⟩)
      | succ k => exact drA_lt f _ (fun l hl => hL l (List.mem_of_mem_eraseIdx hl)) k x h

theorem s_judge (h : RR M r S) (w : WfS T S) (hT : T + 100 < 2 ^ 20) (q s n : Int32) (k : ∀ M' : Mm, Fr r M M' → RR M' r (fJudge S q s n).2 → WfS (T + 99) (fJudge S q s n).2 → Q (some (.int (fJudge S q s n).1)) M') : J E 244 0 [.ref r, .int q, .int s, .int n, U0] [] M Q := by
  obtain ⟨g, hg⟩ : ∃ g, mI M (r + 1) = g := ⟨_, rfl⟩
  have hS := h.1
  have hA := h.a
  rw [hg] at hA
  rw [show M = wI M (r + 1) g by rw [← hg, wI_id]]
  have kR : ∀ (v : Nat) (x : Int32), fJudge S q s n = rfS S v → x = rfN v → Q (some (.int x)) (wI (rfM M r v) (r + 1) g) := fun v x e ex => by
    rw [e] at k; rw [ex]; exact k _ (Fr.rf hg) (h.rf hg v) (w.rf hT)
  have kO : ∀ (a : Int32) (S' : St) (M' : Mm), fJudge S q s n = (a, S') → Fr r M M' → RR M' r S' → WfS (T + 99) S' → Q (some (.int a)) M' := fun a S' M' e => by
    rw [e] at k; exact k M'
  refine J_p 2 (ls' := [_, _, _, _, _]) rfl ?_
  refine J_call rfl rfl rfl (decide_eq_true hS.t) rfl (c_isQ hS hA q (fun j h2 l2 e2 => ?_) (fun h2 => ?_))
  · skip
    subst e2
    obtain ⟨xj, hxj⟩ := get_of l2
    show J _ _ _ _ _ _ _
    refine J_zeq rfl (fun b => absurd b (by decide)) (fun _ => ?_)
    refine J_p 1 (ls' := [_, _, _, _, _]) rfl ?_
    refine J_call rfl rfl rfl rfl rfl (c_isShelf (s := s) (fun b h9 l9 e9 => ?_) (fun h9 => ?_))
    · skip
      subst e9
      show J _ _ _ _ _ _ _
      refine J_zeq rfl (fun b => absurd b (by decide)) (fun _ => ?_)
      refine J_p 4 (ls' := [_, _, _, _, _]) rfl ?_
      refine J_call rfl rfl rfl rfl rfl (c_inZ0 (x := n) (b := 40) (b1 := 41) (by decide) rfl (fun m h21 l21 e21 => ?_) (fun h21 => ?_))
      · skip
        subst e21
        show J _ _ _ _ _ _ _
        refine J_zne rfl (fun _ => ?_) (fun b => absurd b (by decide))
        have hs := h.s b l9
        cases hsh : s_h S b with
        | none =>
          rw [hsh] at hs
          have hs9 : mI M (r + 9) b = -1 := hs
          refine J_p 1 (ls' := [_, _, _, _, _]) rfl ?_
          refine J_getR rfl hS.t hS.f13 ?_
          refine J_p 1 (ls' := [_, _, _, _, _]) rfl ?_
          refine J_old (n := b) rfl (by repeat' (first | with_reducible rfl | assumption | with_reducible refine nI_decE ?_ | with_reducible refine nI_addE ?_ ?_ | with_reducible refine nI_mulE ?_ ?_ | with_reducible refine nI_subE ?_ ?_ ?_ | omega | (with_reducible refine congrArg nI ?_; omega))) (by omega) hS.t9 hS.l9 (by omega) (by omega) hs9 ?_
          refine J_p 1 (ls' := [_, _, _, _, _]) rfl ?_
          refine J_ile rfl (fun b41 => ?_) (fun b41 => ?_)
          · skip
            refine J_p 1 (ls' := [_, _, _, _, _]) rfl ?_
            refine J_getR rfl hS.t hS.f13 ?_
            refine J_p 1 (ls' := [_, _, _, _, _]) rfl ?_
            refine J_old (n := b) rfl (by repeat' (first | with_reducible rfl | assumption | with_reducible refine nI_decE ?_ | with_reducible refine nI_addE ?_ ?_ | with_reducible refine nI_mulE ?_ ?_ | with_reducible refine nI_subE ?_ ?_ ?_ | omega | (with_reducible refine congrArg nI ?_; omega))) (by omega) hS.t9 hS.l9 (by omega) (by omega) hs9 ?_
            refine J_zge rfl (fun b => absurd b (by decide)) (fun _ => ?_)
            refine J_p 2 (ls' := [_, _, _, _, _]) rfl ?_
            refine J_call rfl rfl rfl (decide_eq_true hS.t) rfl (c_refused hS 2 (by decide) (by decide) ?_)
            show J _ _ _ _ _ _ _
            exact J_ret rfl rfl rfl (kR 2 _ (by simp only [fJudge, h2, hxj, h9, h21, hsh, if_true, if_false, reduceIte]; first | done | rfl) (by decide))
          · skip
            exact absurd (by decide) b41
        | some v =>
          cases v with
          | inl p =>
            obtain ⟨so, els⟩ := p
            rw [hsh] at hs
            obtain ⟨o4, el40, hs9, hs10, hs11⟩ := hs
            refine J_p 1 (ls' := [_, _, _, _, _]) rfl ?_
            refine J_getR rfl hS.t hS.f13 ?_
            refine J_p 1 (ls' := [_, _, _, _, _]) rfl ?_
            refine J_old (n := b) rfl (by repeat' (first | with_reducible rfl | assumption | with_reducible refine nI_decE ?_ | with_reducible refine nI_addE ?_ ?_ | with_reducible refine nI_mulE ?_ ?_ | with_reducible refine nI_subE ?_ ?_ ?_ | omega | (with_reducible refine congrArg nI ?_; omega))) (by omega) hS.t9 hS.l9 (by omega) (by omega) hs9 ?_
            refine J_p 1 (ls' := [_, _, _, _, _]) rfl ?_
            refine J_ile rfl (fun b41 => ?_) (fun b41 => ?_)
            · skip
              refine J_p 1 (ls' := [_, _, _, _, _]) rfl ?_
              refine J_getR rfl hS.t hS.f13 ?_
              refine J_p 1 (ls' := [_, _, _, _, _]) rfl ?_
              refine J_old (n := b) rfl (by repeat' (first | with_reducible rfl | assumption | with_reducible refine nI_decE ?_ | with_reducible refine nI_addE ?_ ?_ | with_reducible refine nI_mulE ?_ ?_ | with_reducible refine nI_subE ?_ ?_ ?_ | omega | (with_reducible refine congrArg nI ?_; omega))) (by omega) hS.t9 hS.l9 (by omega) (by omega) hs9 ?_
              refine J_zge rfl (fun _ => ?_) (fun b => absurd (nI_pos' (by omega)) b)
              refine J_p 2 (ls' := [_, _, _, _, _]) rfl ?_
              refine J_getR rfl hS.t hS.f14 ?_
              refine J_p 1 (ls' := [_, _, _, _, _]) rfl ?_
              refine J_old (n := b) rfl (by repeat' (first | with_reducible rfl | assumption | with_reducible refine nI_decE ?_ | with_reducible refine nI_addE ?_ ?_ | with_reducible refine nI_mulE ?_ ?_ | with_reducible refine nI_subE ?_ ?_ ?_ | omega | (with_reducible refine congrArg nI ?_; omega))) (by omega) hS.t10 hS.l10 (by omega) (by omega) hs10 ?_
              refine J_ile rfl (fun b74 => ?_) (fun b74 => ?_)
              · skip
                have e74 : m ≤ els.length := (nI_leI (by omega) (by omega)).mp b74
                refine J_p 2 (ls' := [_, _, _, _, _]) rfl ?_
                refine J_call rfl rfl rfl (decide_eq_true hS.t) rfl (c_drainsA hS h.wz hA w.1 hxj (fun M' hs' h12' hp' => ?_))
                have d20 := drA_len (a_m (s_a S)) (q_ls xj).length (q_ls xj)
                have hdl : (drQ (s_a S) xj).length ≤ 20 := Nat.le_trans d20 (hA.1.2.2 j xj hxj).2.2.2.2.1
                have hd300 : ∀ (k x : Nat), (drQ (s_a S) xj)[k]? = some x → x < 300 ∧ mI M' (r + 8) k = nI x := fun k x hk => ⟨drA_lt _ _ (fun l hl => by
                  obtain ⟨i, hi⟩ := List.mem_iff_getElem?.mp hl
                  exact (hA.msg w.1 hxj hi).2) k x hk, hp' k x hk⟩
                show J _ _ _ _ _ _ _
                refine J_p 2 (ls' := [_, _, _, _, _]) rfl ?_
                refine c_judge_l (E := E) (M := M') (hs'.rs hS) (els := els) l9 (by omega) el40 hdl h12' hd300 (fun k v hk => by rw [hs'.2.1]; exact hs11 k v hk) m 0 (by omega) ?_
                exact kO _ S _ (by simp only [fJudge, h2, h9, h21, hsh, hxj, if_pos e74]) ((Fr.sc hs').trans (Fr.g0 g)) (h.sc hs' hA) (WfS.mono w (by omega) (by omega))
              · skip
                have e74 : ¬ m ≤ els.length := fun y => b74 (nI_le y (by omega))
                refine J_p 2 (ls' := [_, _, _, _, _]) rfl ?_
                refine J_call rfl rfl rfl (decide_eq_true hS.t) rfl (c_refused hS 0 (by decide) (by decide) ?_)
                show J _ _ _ _ _ _ _
                exact J_ret rfl rfl rfl (kR 0 _ (by simp only [fJudge, h2, hxj, h9, h21, hsh, e74, if_true, if_false, reduceIte]; first | done | rfl) (by decide))
            · skip
              exact absurd (nI_le (by omega) (by omega)) b41
          | inr c =>
            rw [hsh] at hs
            obtain ⟨n, ⟨n3, n6⟩, hc1, hs9, c0, c1, c2, c3⟩ := hs
            refine J_p 1 (ls' := [_, _, _, _, _]) rfl ?_
            refine J_getR rfl hS.t hS.f13 ?_
            refine J_p 1 (ls' := [_, _, _, _, _]) rfl ?_
            refine J_old (n := b) rfl (by repeat' (first | with_reducible rfl | assumption | with_reducible refine nI_decE ?_ | with_reducible refine nI_addE ?_ ?_ | with_reducible refine nI_mulE ?_ ?_ | with_reducible refine nI_subE ?_ ?_ ?_ | omega | (with_reducible refine congrArg nI ?_; omega))) (by omega) hS.t9 hS.l9 (by omega) (by omega) hs9 ?_
            refine J_p 1 (ls' := [_, _, _, _, _]) rfl ?_
            refine J_ile rfl (fun b41 => ?_) (fun b41 => ?_)
            · skip
              exact absurd b41 (nI_ge (by omega) (by omega))
            · skip
              refine J_p 2 (ls' := [_, _, _, _, _]) rfl ?_
              refine J_call rfl rfl rfl (decide_eq_true hS.t) rfl (c_refused hS 1 (by decide) (by decide) ?_)
              show J _ _ _ _ _ _ _
              exact J_ret rfl rfl rfl (kR 1 _ (by simp only [fJudge, h2, hxj, h9, h21, hsh, if_true, if_false, reduceIte]; first | done | rfl) (by decide))
      · skip
        show J _ _ _ _ _ _ _
        refine J_zne rfl (fun b => absurd rfl b) (fun _ => ?_)
        refine J_p 2 (ls' := [_, _, _, _, _]) rfl ?_
        refine J_call rfl rfl rfl (decide_eq_true hS.t) rfl (c_refused hS 0 (by decide) (by decide) ?_)
        show J _ _ _ _ _ _ _
        exact J_ret rfl rfl rfl (kR 0 _ (by simp only [fJudge, h2, hxj, h9, h21, if_true, if_false, reduceIte]; first | done | rfl) (by decide))
    · skip
      show J _ _ _ _ _ _ _
      refine J_zeq rfl (fun _ => ?_) (fun b => absurd rfl b)
      refine J_p 2 (ls' := [_, _, _, _, _]) rfl ?_
      refine J_call rfl rfl rfl (decide_eq_true hS.t) rfl (c_refused hS 0 (by decide) (by decide) ?_)
      show J _ _ _ _ _ _ _
      exact J_ret rfl rfl rfl (kR 0 _ (by simp only [fJudge, h2, hxj, h9, if_true, if_false, reduceIte]; first | done | rfl) (by decide))
  · skip
    show J _ _ _ _ _ _ _
    refine J_zeq rfl (fun _ => ?_) (fun b => absurd rfl b)
    refine J_p 2 (ls' := [_, _, _, _, _]) rfl ?_
    refine J_call rfl rfl rfl (decide_eq_true hS.t) rfl (c_refused hS 0 (by decide) (by decide) ?_)
    show J _ _ _ _ _ _ _
    exact J_ret rfl rfl rfl (kR 0 _ (by simp only [fJudge, h2, if_true, if_false, reduceIte]; first | done | rfl) (by decide))

end PUB22