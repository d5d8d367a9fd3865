/-! THE COMPONENT: counts of what may go, blocked keys, drained. -/
/-- the bits behind the next -/
def wnG (ms : List Ma) (L : List La) (G : Nat) : Nat := match nxG ms L G L.length with
  | none => G
  | some i => G ||| 2 ^ i
def gaG (ms : List Ma) (L : List La) : Nat → Nat
  | 0 => 0
  | k + 1 => wnG ms L (gaG ms L k)
theorem wnG_lt {ms : List Ma} {L : List La} {G : Nat} (hL : L.length ≤ 20) (hG : G < 2 ^ 20) : wnG ms L G < 2 ^ 20 := by
  unfold wnG
  split
  · exact hG
  · rename_i i hi
    have := (nxG_lt _ _ _ _ _ hi).1
    exact Nat.or_lt_two_pow hG (Nat.pow_lt_pow_right (by omega) (by omega))
theorem gaG_lt {ms : List Ma} {L : List La} (hL : L.length ≤ 20) : ∀ k, gaG ms L k < 2 ^ 20
  | 0 => by show 0 < 2 ^ 20; decide
  | k + 1 => wnG_lt hL (gaG_lt hL k)
/-- what is left of the first n letters -/
def rmG (L : List La) (G : Nat) : Nat → List La
  | 0 => []
  | n + 1 => match L[n]? with
    | none => rmG L G n
    | some l => if G.testBit n = true then rmG L G n else rmG L G n ++ [l]
theorem rmG_all (L : List La) : ∀ n, n ≤ L.length → rmG L 0 n = L.take n
  | 0, _ => by rw [List.take_zero]; rfl
  | n + 1, h => by
    obtain ⟨l, hl⟩ := get_of (l := L) (i := n) (by omega)
    unfold rmG
    rw [hl]
    simp only
    rw [if_neg (by rw [Nat.zero_testBit]; decide), rmG_all L n (by omega), List.take_succ, hl]
    rfl
theorem rmG_S {L : List La} {G n : Nat} {l : La} (hl : L[n]? = some l) : rmG L G (n + 1) = if G.testBit n = true then rmG L G n else rmG L G n ++ [l] := by
  show (match L[n]? with
    | none => rmG L G n
    | some l => if G.testBit n = true then rmG L G n else rmG L G n ++ [l]) = _
  rw [hl]
theorem rmG_N {L : List La} {G n : Nat} (hl : L[n]? = none) : rmG L G (n + 1) = rmG L G n := by
  show (match L[n]? with
    | none => rmG L G n
    | some l => if G.testBit n = true then rmG L G n else rmG L G n ++ [l]) = _
  rw [hl]
theorem rmG_pre (L : List La) (G : Nat) : ∀ (d n : Nat), ∃ R, rmG L G (n + d) = rmG L G n ++ R
  | 0, n => ⟨[], by rw [List.append_nil]; rfl⟩
  | d + 1, n => by
    obtain ⟨R, hR⟩ := rmG_pre L G d n
    show ∃ R', rmG L G (n + d + 1) = _
    cases hl : L[n + d]? with
    | none => exact ⟨R, (rmG_N hl).trans hR⟩
    | some l =>
      rw [rmG_S hl]
      split
      · exact ⟨R, hR⟩
      · exact ⟨R ++ [l], by rw [hR, List.append_assoc]⟩
theorem rmG_at {L : List La} {G i n : Nat} {l : La} (hl : L[i]? = some l) (hg : G.testBit i = false) (hn : i < n) : (rmG L G n)[(rmG L G i).length]? = some l := by
  obtain ⟨R, hR⟩ := rmG_pre L G (n - (i + 1)) (i + 1)
  rw [show i + 1 + (n - (i + 1)) = n by omega] at hR
  have e : rmG L G (i + 1) = rmG L G i ++ [l] := by
    show (match L[i]? with
      | none => rmG L G i
      | some l => if G.testBit i = true then rmG L G i else rmG L G i ++ [l]) = _
    rw [hl]
    simp only
    rw [if_neg (by rw [hg]; decide)]
  rw [hR, e, List.append_assoc, List.getElem?_append_right (Nat.le_refl _), Nat.sub_self]
  rfl
/-- every letter left stood somewhere -/
theorem rmG_src (L : List La) (G : Nat) : ∀ (n k : Nat) (y : La), n ≤ L.length → (rmG L G n)[k]? = some y → ∃ j, j < n ∧ L[j]? = some y ∧ G.testBit j = false ∧ (rmG L G j).length = k
  | 0, k, y, _, h => by cases h
  | n + 1, k, y, hn, h => by
    obtain ⟨l, hl⟩ := get_of (l := L) (i := n) (by omega)
    have e : rmG L G (n + 1) = if G.testBit n = true then rmG L G n else rmG L G n ++ [l] := by
      show (match L[n]? with
        | none => rmG L G n
        | some l => if G.testBit n = true then rmG L G n else rmG L G n ++ [l]) = _
      rw [hl]
    rw [e] at h
    by_cases c : G.testBit n = true
    · rw [if_pos c] at h
      obtain ⟨j, h1, h2⟩ := rmG_src L G n k y (by omega) h
      exact ⟨j, by omega, h2⟩
    · rw [if_neg c] at h
      rcases app_or h with ⟨h1, h2⟩ | ⟨_, h⟩
      · refine ⟨n, by omega, by rw [h2]; exact hl, ?_, h1.symm⟩
        cases hb : G.testBit n with
        | false => rfl
        | true => exact absurd hb c
      · obtain ⟨j, h1, h2⟩ := rmG_src L G n k y (by omega) h
        exact ⟨j, by omega, h2⟩
theorem rmG_mono (L : List La) (G : Nat) {i j : Nat} (h : i ≤ j) : (rmG L G i).length ≤ (rmG L G j).length := by
  obtain ⟨R, hR⟩ := rmG_pre L G (j - i) i
  rw [show i + (j - i) = j by omega] at hR
  rw [hR, List.length_append]
  omega
theorem rmG_lt {L : List La} {G i j : Nat} {l : La} (hl : L[i]? = some l) (hg : G.testBit i = false) (h : i < j) : (rmG L G i).length < (rmG L G j).length := by
  have := rmG_at hl hg h
  exact li this
theorem may_rm {ms : List Ma} {L : List La} {G i : Nat} {l : La} (hl : L[i]? = some l) (hg : G.testBit i = false) : mayA ms (rmG L G L.length) (rmG L G i).length = mayG ms L G i := by
  have hi := li hl
  rw [Bool.eq_iff_iff, mayA_iff (rmG_at hl hg hi), mayG_iff hl]
  refine and_congr_right (fun _ => ⟨fun h => ⟨hg, fun k y hk hy hgk => ?_⟩, fun h k y hk hy => ?_⟩)
  · exact h _ y (rmG_lt hy hgk hk) (rmG_at hy hgk (by have := li hy; omega))
  · obtain ⟨j, j1, j2, j3, j4⟩ := rmG_src L G L.length k y (Nat.le_refl _) hy
    refine h.2 j y ?_ j2 j3
    rcases Nat.lt_or_ge j i with z | z
    · exact z
    · have := rmG_mono L G z
      omega
theorem nx_rm {ms : List Ma} {L : List La} {G : Nat} : ∀ n, n ≤ L.length → nxA ms (rmG L G L.length) (rmG L G n).length = (nxG ms L G n).map (fun i => (rmG L G i).length)
  | 0, _ => rfl
  | n + 1, hn => by
    obtain ⟨l, hl⟩ := get_of (l := L) (i := n) (by omega)
    have e : rmG L G (n + 1) = if G.testBit n = true then rmG L G n else rmG L G n ++ [l] := by
      show (match L[n]? with
        | none => rmG L G n
        | some l => if G.testBit n = true then rmG L G n else rmG L G n ++ [l]) = _
      rw [hl]
    have ih := nx_rm (ms := ms) (L := L) (G := G) n (by omega)
    by_cases c : G.testBit n = true
    · rw [e, if_pos c, ih]
      have hm : ¬ mayG ms L G n = true := fun y => by
        have := ((mayG_iff hl).mp y).2.1
        rw [c] at this; cases this
      have e2 : nxG ms L G (n + 1) = nxG ms L G n := by
        rw [nxG]; exact if_neg hm
      rw [e2]
    · have hg : G.testBit n = false := by
        cases hb : G.testBit n with
        | false => rfl
        | true => exact absurd hb c
      rw [e, if_neg c, List.length_append]
      show nxA ms (rmG L G L.length) ((rmG L G n).length + 1) = _
      rw [nxA, nxG, may_rm hl hg, ih]
      by_cases hm : mayG ms L G n = true
      · rw [if_pos hm, if_pos hm]
        cases hb : nxG ms L G n with
        | none => rfl
        | some b =>
          obtain ⟨b1, b2⟩ := nxG_lt _ _ _ _ _ hb
          obtain ⟨y, hy⟩ := get_of (l := L) (i := b) (by omega)
          have hgb := ((mayG_iff hy).mp b2).2.1
          show (if prA ms ((rmG L G L.length).getD (rmG L G b).length _) < prA ms ((rmG L G L.length).getD (rmG L G n).length _) then some (rmG L G n).length else some (rmG L G b).length) = Option.map _ (if prA ms (L.getD b _) < prA ms (L.getD n _) then some n else some b)
          rw [getD_of (rmG_at hy hgb (by omega)), getD_of (rmG_at hl hg (by omega)), getD_of hy, getD_of hl]
          split <;> rfl
      · rw [if_neg hm, if_neg hm]
theorem tb_or (G i j : Nat) : (G ||| 2 ^ i).testBit j = (G.testBit j || decide (i = j)) := by
  rw [Nat.testBit_or, Nat.testBit_two_pow]
theorem er_rm {L : List La} {G i : Nat} {l : La} (hl : L[i]? = some l) (hg : G.testBit i = false) : ∀ n, n ≤ L.length → rmG L (G ||| 2 ^ i) n = if i < n then (rmG L G n).eraseIdx (rmG L G i).length else rmG L G n
  | 0, _ => by rw [if_neg (by omega)]; rfl
  | n + 1, hn => by
    obtain ⟨y, hy⟩ := get_of (l := L) (i := n) (by omega)
    have e : ∀ G' : Nat, rmG L G' (n + 1) = if G'.testBit n = true then rmG L G' n else rmG L G' n ++ [y] := fun G' => by
      show (match L[n]? with
        | none => rmG L G' n
        | some l => if G'.testBit n = true then rmG L G' n else rmG L G' n ++ [l]) = _
      rw [hy]
    rw [e, e, tb_or, er_rm hl hg n (by omega)]
    by_cases c : i = n
    · subst c
      have t1 : (G.testBit i || decide (i = i)) = true := by rw [decide_eq_true rfl, Bool.or_true]
      have t2 : ¬ G.testBit i = true := by rw [hg]; decide
      rw [if_pos t1, if_neg (Nat.lt_irrefl i), if_pos (Nat.lt_succ_self i), if_neg t2, List.eraseIdx_append_of_length_le (Nat.le_refl _), Nat.sub_self]
      show _ = rmG L G i ++ []
      rw [List.append_nil]
    · have e2 : (G.testBit n || decide (i = n)) = G.testBit n := by rw [decide_eq_false c, Bool.or_false]
      rw [e2]
      by_cases c2 : i < n
      · have c4 : i < n + 1 := by omega
        rw [if_pos c2, if_pos c4]
        have hlt := rmG_lt hl hg c2
        by_cases c3 : G.testBit n = true
        · rw [if_pos c3, if_pos c3]
        · rw [if_neg c3, if_neg c3, List.eraseIdx_append_of_lt_length hlt]
      · have c4 : ¬ i < n + 1 := by omega
        rw [if_neg c2, if_neg c4]
/-- what all would go, told by bits -/
theorem dr_ga {ms : List Ma} {L : List La} : ∀ (f G k : Nat), (rmG L G L.length).length ≤ f → (drA ms f (rmG L G L.length))[k]? = (nxG ms L (Nat.rec G (fun _ g => wnG ms L g) k) L.length).map (fun i => l_m (L.getD i (0, 0, 0, 0, [])))
  | 0, G, k, h => by
    have hn : ∀ G', (rmG L G' L.length).length = 0 → nxG ms L G' L.length = none := fun G' h' => by
      have e := nx_rm (ms := ms) (L := L) (G := G') L.length (Nat.le_refl _)
      rw [h'] at e
      cases hx : nxG ms L G' L.length with
      | none => rfl
      | some i => rw [hx] at e; cases e
    have h0 := hn G (by omega)
    have st : ∀ k, (Nat.rec G (fun _ g => wnG ms L g) k : Nat) = G := fun k => by
      induction k with
      | zero => rfl
      | succ k ih => show wnG ms L (Nat.rec G (fun _ g => wnG ms L g) k) = G; rw [ih]; unfold wnG; rw [h0]
    rw [st, h0]
    rfl
  | f + 1, G, k, h => by
    have e := nx_rm (ms := ms) (L := L) (G := G) L.length (Nat.le_refl _)
    cases hx : nxG ms L G L.length with
    | none =>
      rw [hx] at e
      have st : ∀ k, (Nat.rec G (fun _ g => wnG ms L g) k : Nat) = G := fun k => by
        induction k with
        | zero => rfl
        | succ k ih => show wnG ms L (Nat.rec G (fun _ g => wnG ms L g) k) = G; rw [ih]; unfold wnG; rw [hx]
      rw [st, hx]
      have e' : nxA ms (rmG L G L.length) (rmG L G L.length).length = none := e
      simp only [drA, e']
      rfl
    | some i =>
      rw [hx] at e
      have e' : nxA ms (rmG L G L.length) (rmG L G L.length).length = some (rmG L G i).length := e
      obtain ⟨i1, i2⟩ := nxG_lt _ _ _ _ _ hx
      obtain ⟨l, hl⟩ := get_of i1
      have hg := ((mayG_iff hl).mp i2).2.1
      have ew : wnG ms L G = G ||| 2 ^ i := by unfold wnG; rw [hx]
      have er := er_rm hl hg L.length (Nat.le_refl _)
      rw [if_pos i1] at er
      have ed : drA ms (f + 1) (rmG L G L.length) = l_m l :: drA ms f (rmG L (wnG ms L G) L.length) := by
        simp only [drA, e']
        rw [getD_of (rmG_at hl hg i1), ew, er]
      rw [ed]
      cases k with
      | zero =>
        show some (l_m l) = (nxG ms L G L.length).map _
        rw [hx]
        show _ = some (l_m (L.getD i _))
        rw [getD_of hl]
      | succ k =>
        have hlt := rmG_lt hl hg i1
        have hlen : (rmG L (wnG ms L G) L.length).length ≤ f := by
          rw [ew, er, List.length_eraseIdx_of_lt hlt]; omega
        have st : ∀ k, (Nat.rec (wnG ms L G) (fun _ g => wnG ms L g) k : Nat) = Nat.rec G (fun _ g => wnG ms L g) (k + 1) := fun k => by
          induction k with
          | zero => rfl
          | succ k ih => show wnG ms L (Nat.rec (wnG ms L G) (fun _ g => wnG ms L g) k) = wnG ms L (Nat.rec G (fun _ g => wnG ms L g) (k + 1)); rw [ih]
        show (drA ms f (rmG L (wnG ms L G) L.length))[k]? = _
        rw [dr_ga f (wnG ms L G) k hlen, st]
theorem gaG_rec (ms : List Ma) (L : List La) : ∀ k, gaG ms L k = Nat.rec 0 (fun _ g => wnG ms L g) k
  | 0 => rfl
  | k + 1 => by show wnG ms L (gaG ms L k) = wnG ms L (Nat.rec 0 (fun _ g => wnG ms L g) k); rw [gaG_rec ms L k]
theorem dr_gaG (ms : List Ma) (L : List La) (k : Nat) : (drA ms L.length L)[k]? = (nxG ms L (gaG ms L k) L.length).map (fun i => l_m (L.getD i (0, 0, 0, 0, []))) := by
  have e : rmG L 0 L.length = L := by rw [rmG_all L L.length (Nat.le_refl _), List.take_length]
  have := dr_ga (ms := ms) (L := L) L.length 0 k (by rw [e]; exact Nat.le_refl _)
  rw [e] at this
  rw [this, gaG_rec]
