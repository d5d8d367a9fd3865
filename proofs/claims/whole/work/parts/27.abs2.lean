/-! THE ABSTRACT STATE: which changes of the row are which changes of the state. -/
theorem Rep.q {g g' : Nat → Int32} {A : Ab} {q : Nat} {x x' : Qa} (h : Rep g A) (hx : (a_q A)[q]? = some x) (h' : RepQ g' q x') (e : ∀ z, (z < 3471 + 556 * q ∨ 3471 + 556 * q + 556 ≤ z) → g' z = g z) : Rep g' (w_q A ((a_q A).set q x')) := by
  obtain ⟨⟨h1, h2, h3⟩, ⟨h4, h5, h6⟩, ⟨h7, h8, h9⟩, ⟨h10, h11, h12⟩, h13, h14, ⟨h15, h16, h17⟩, h18⟩ := h
  have hq := li hx
  refine ⟨⟨?_, ?_, fun p y hp => ?_⟩, ⟨h4, ?_, fun c y hc => ?_⟩, ⟨h7, ?_, fun m y hm => ?_⟩, ⟨h10, ?_, fun i y hi => ?_⟩, ?_, ?_, ⟨h15, ?_, fun k c hk => ?_⟩, fun z hz => ?_⟩
  · show ((a_q A).set q x').length ≤ 8
    rw [List.length_set]; exact h1
  · show g' 0 = nI ((a_q A).set q x').length
    rw [List.length_set, e 0 (by omega)]; exact h2
  · rcases set_or hp with ⟨rfl, rfl⟩ | ⟨hne, hp⟩
    · exact h'
    · exact (h3 p y hp).fr (fun z h1 h2 => e z (by omega))
  · rw [e 1 (by omega)]; exact h5
  · have : c < 10 := Nat.lt_of_lt_of_le (li hc) h4
    exact (h6 c y hc).fr (fun z h1 h2 => e z (by omega))
  · rw [e 2 (by omega)]; exact h8
  · have : m < 300 := Nat.lt_of_lt_of_le (li hm) h7
    exact (h9 m y hm).fr (fun z h1 h2 => e z (by omega))
  · rw [e 3 (by omega)]; exact h11
  · have : i < 30 := Nat.lt_of_lt_of_le (li hi) h10
    exact (h12 i y hi).fr (fun z h1 h2 => e z (by omega))
  · rw [e 4 (by omega)]; exact h13
  · rw [e 5 (by omega)]; exact h14
  · rw [e 6 (by omega)]; exact h16
  · have : k < 4 := Nat.lt_of_lt_of_le (li hk) h15
    rw [e _ (by omega)]; exact h17 k c hk
  · rw [e _ (by omega)]; exact h18 z hz
theorem Rep.c {g g' : Nat → Int32} {A : Ab} {c : Nat} {x x' : Co} (h : Rep g A) (hx : (a_c A)[c]? = some x) (h' : RepK g' c x') (e : ∀ z, (z < 11 + 4 * c ∨ 11 + 4 * c + 4 ≤ z) → g' z = g z) : Rep g' (w_c A ((a_c A).set c x')) := by
  obtain ⟨⟨h1, h2, h3⟩, ⟨h4, h5, h6⟩, ⟨h7, h8, h9⟩, ⟨h10, h11, h12⟩, h13, h14, ⟨h15, h16, h17⟩, h18⟩ := h
  have hq := li hx
  refine ⟨⟨h1, ?_, fun p y hp => ?_⟩, ⟨?_, ?_, fun c y hc => ?_⟩, ⟨h7, ?_, fun m y hm => ?_⟩, ⟨h10, ?_, fun i y hi => ?_⟩, ?_, ?_, ⟨h15, ?_, fun k c hk => ?_⟩, fun z hz => ?_⟩
  · rw [e 0 (by omega)]; exact h2
  · have : p < 8 := Nat.lt_of_lt_of_le (li hp) h1
    exact (h3 p y hp).fr (fun z h1 h2 => e z (by omega))
  · show ((a_c A).set _ x').length ≤ 10
    rw [List.length_set]; exact h4
  · show g' 1 = nI ((a_c A).set _ x').length
    rw [List.length_set, e 1 (by omega)]; exact h5
  · rcases set_or hc with ⟨rfl, rfl⟩ | ⟨hne, hc⟩
    · exact h'
    · exact (h6 c y hc).fr (fun z h1 h2 => e z (by omega))
  · rw [e 2 (by omega)]; exact h8
  · have : m < 300 := Nat.lt_of_lt_of_le (li hm) h7
    exact (h9 m y hm).fr (fun z h1 h2 => e z (by omega))
  · rw [e 3 (by omega)]; exact h11
  · have : i < 30 := Nat.lt_of_lt_of_le (li hi) h10
    exact (h12 i y hi).fr (fun z h1 h2 => e z (by omega))
  · rw [e 4 (by omega)]; exact h13
  · rw [e 5 (by omega)]; exact h14
  · rw [e 6 (by omega)]; exact h16
  · have : k < 4 := Nat.lt_of_lt_of_le (li hk) h15
    rw [e _ (by omega)]; exact h17 k c hk
  · rw [e _ (by omega)]; exact h18 z hz
theorem Rep.d {g g' : Nat → Int32} {A : Ab} {D : List Da} (h : Rep g A) (hD : D.length ≤ 30) (h3' : g' 3 = nI D.length) (h' : ∀ i x, D[i]? = some x → RepD g' i x) (e : ∀ z, z ≠ 3 → (z < 2751 ∨ 3471 ≤ z) → g' z = g z) : Rep g' (w_d A D) := by
  obtain ⟨⟨h1, h2, h3⟩, ⟨h4, h5, h6⟩, ⟨h7, h8, h9⟩, ⟨h10, h11, h12⟩, h13, h14, ⟨h15, h16, h17⟩, h18⟩ := h
  refine ⟨⟨h1, ?_, fun p y hp => ?_⟩, ⟨h4, ?_, fun c y hc => ?_⟩, ⟨h7, ?_, fun m y hm => ?_⟩, ⟨hD, h3', h'⟩, ?_, ?_, ⟨h15, ?_, fun k c hk => ?_⟩, fun z hz => ?_⟩
  · rw [e 0 (by omega) (by omega)]; exact h2
  · have : p < 8 := Nat.lt_of_lt_of_le (li hp) h1
    exact (h3 p y hp).fr (fun z h1 h2 => e z (by omega) (by omega))
  · rw [e 1 (by omega) (by omega)]; exact h5
  · have : c < 10 := Nat.lt_of_lt_of_le (li hc) h4
    exact (h6 c y hc).fr (fun z h1 h2 => e z (by omega) (by omega))
  · rw [e 2 (by omega) (by omega)]; exact h8
  · have : m < 300 := Nat.lt_of_lt_of_le (li hm) h7
    exact (h9 m y hm).fr (fun z h1 h2 => e z (by omega) (by omega))
  · rw [e 4 (by omega) (by omega)]; exact h13
  · rw [e 5 (by omega) (by omega)]; exact h14
  · rw [e 6 (by omega) (by omega)]; exact h16
  · have : k < 4 := Nat.lt_of_lt_of_le (li hk) h15
    rw [e _ (by omega) (by omega)]; exact h17 k c hk
  · rw [e _ (by omega) (by omega)]; exact h18 z hz
/-- one number of the row that no list speaks of: the time, the seed -/
theorem Rep.n {g : Nat → Int32} {A : Ab} (h : Rep g A) {t : Nat} : Rep (upd g 4 (nI t)) (w_n A t) := by
  have e : ∀ z, z ≠ 4 → upd g 4 (nI t) z = g z := fun z hz => if_neg hz
  obtain ⟨⟨h1, h2, h3⟩, ⟨h4, h5, h6⟩, ⟨h7, h8, h9⟩, ⟨h10, h11, h12⟩, h13, h14, ⟨h15, h16, h17⟩, h18⟩ := h
  refine ⟨⟨h1, h2, fun p y hp => ?_⟩, ⟨h4, h5, fun c y hc => ?_⟩, ⟨h7, h8, fun m y hm => ?_⟩, ⟨h10, h11, fun i y hi => ?_⟩, if_pos rfl, h14, ⟨h15, h16, fun k c hk => ?_⟩, fun z hz => ?_⟩
  · exact (h3 p y hp).fr (fun z h1 h2 => e z (by omega))
  · exact (h6 c y hc).fr (fun z h1 h2 => e z (by omega))
  · exact (h9 m y hm).fr (fun z h1 h2 => e z (by omega))
  · exact (h12 i y hi).fr (fun z h1 h2 => e z (by omega))
  · rw [e _ (by omega)]; exact h17 k c hk
  · rw [e _ (by omega)]; exact h18 z hz
theorem Rep.s {g : Nat → Int32} {A : Ab} (h : Rep g A) {t : Int32} : Rep (upd g 5 t) (w_s A t) := by
  have e : ∀ z, z ≠ 5 → upd g 5 t z = g z := fun z hz => if_neg hz
  obtain ⟨⟨h1, h2, h3⟩, ⟨h4, h5, h6⟩, ⟨h7, h8, h9⟩, ⟨h10, h11, h12⟩, h13, h14, ⟨h15, h16, h17⟩, h18⟩ := h
  refine ⟨⟨h1, h2, fun p y hp => ?_⟩, ⟨h4, h5, fun c y hc => ?_⟩, ⟨h7, h8, fun m y hm => ?_⟩, ⟨h10, h11, fun i y hi => ?_⟩, h13, if_pos rfl, ⟨h15, h16, fun k c hk => ?_⟩, fun z hz => ?_⟩
  · exact (h3 p y hp).fr (fun z h1 h2 => e z (by omega))
  · exact (h6 c y hc).fr (fun z h1 h2 => e z (by omega))
  · exact (h9 m y hm).fr (fun z h1 h2 => e z (by omega))
  · exact (h12 i y hi).fr (fun z h1 h2 => e z (by omega))
  · rw [e _ (by omega)]; exact h17 k c hk
  · rw [e _ (by omega)]; exact h18 z hz
/-- the numbers of a queue, the letters anew -/
theorem RepQ.ls {g g' : Nat → Int32} {q : Nat} {x : Qa} {L : List La} (h : RepQ g q x) (hL : L.length ≤ 20) (h35 : g' (3471 + 556 * q + 35) = nI L.length) (h' : ∀ i l, L[i]? = some l → RepL g' (3471 + 556 * q + 36 + 26 * i) l) (e : ∀ z, z < 35 → g' (3471 + 556 * q + z) = g (3471 + 556 * q + z)) : RepQ g' q (x_ls x L) := by
  obtain ⟨⟨h1, h2, h3⟩, ⟨h4, h5, h6⟩, ⟨h7, h8, h9, h10, h11, h12⟩, ⟨h13, h14, h15⟩, ⟨h16, h17, h18⟩⟩ := h
  refine ⟨⟨h1, by rw [e _ (by omega)]; exact h2, fun k c hk => ?_⟩, ⟨h4, by rw [e _ (by omega)]; exact h5, fun k c hk => ?_⟩, ⟨by rw [e _ (by omega)]; exact h7, by rw [e _ (by omega)]; exact h8, by rw [e _ (by omega)]; exact h9, by rw [e _ (by omega)]; exact h10, by rw [e _ (by omega)]; exact h11, by rw [e _ (by omega)]; exact h12⟩, ⟨by rw [e _ (by omega)]; exact h13, by rw [e _ (by omega)]; exact h14, by rw [e _ (by omega)]; exact h15⟩, ⟨hL, h35, h'⟩⟩
  · have h9' := li hk
    have : k < 4 := Nat.lt_of_lt_of_le h9' h1
    rw [e _ (by omega)]; exact h3 k c hk
  · have h9' := li hk
    have : k < 20 := Nat.lt_of_lt_of_le h9' h4
    rw [e _ (by omega)]; exact h6 k c hk
/-- a letter goes -/
theorem RepQ.go {g : Nat → Int32} {q i n : Nat} {x : Qa} (h : RepQ g q x) (hi : i < (q_ls x).length) (hn : (q_ls x).length = n + 1) : RepQ (gGo g q i n) q (x_ls x ((q_ls x).eraseIdx i)) := by
  have hl : ((q_ls x).eraseIdx i).length = n := by rw [List.length_eraseIdx_of_lt hi, hn]; rfl
  have h20 := h.2.2.2.2.1
  refine h.ls (by omega) (by rw [hl]; exact if_pos rfl) (fun j l hj => ?_) (fun z hz => ?_)
  · have hjn := li hj
    rcases er_or hj with ⟨hji, hj⟩ | ⟨hji, hj⟩
    · refine (h.2.2.2.2.2.2 j l hj).fr (fun z h1 h2 => ?_)
      simp only [gGo]
      rw [if_neg (by omega), if_neg (by omega)]
    · refine (h.2.2.2.2.2.2 (j + 1) l hj).mv (fun z hz => ?_)
      simp only [gGo]
      rw [if_neg (by omega), if_pos (by omega)]
      congr 1
      omega
  · simp only [gGo]
    rw [if_neg (by omega), if_neg (by omega)]
theorem Rep.go {g : Nat → Int32} {A : Ab} {q i n : Nat} {x : Qa} (h : Rep g A) (hx : (a_q A)[q]? = some x) (hi : i < (q_ls x).length) (hn : (q_ls x).length = n + 1) : Rep (gGo g q i n) (w_q A ((a_q A).set q (x_ls x ((q_ls x).eraseIdx i)))) := by
  have h20 := (h.1.2.2 q x hx).2.2.2.2.1
  refine h.q hx ((h.1.2.2 q x hx).go hi hn) (fun z hz => ?_)
  simp only [gGo]
  rw [if_neg (by omega), if_neg (by omega)]
/-- a letter comes -/
theorem RepQ.come {g : Nat → Int32} {q i m : Nat} {x : Qa} (h : RepQ g q x) (hi : i ≤ (q_ls x).length) (hn : (q_ls x).length < 20) : RepQ (gCome g q i (q_ls x).length (nI m)) q (x_ls x ((q_ls x).insertIdx i (m, 0, 0, 0, []))) := by
  have hl : ((q_ls x).insertIdx i (m, 0, 0, 0, [])).length = (q_ls x).length + 1 := List.length_insertIdx_of_le_length hi _
  refine h.ls (by omega) (by rw [hl]; exact if_pos rfl) (fun j l hj => ?_) (fun z hz => ?_)
  · have hjn := li hj
    rcases in_or hi hj with ⟨hji, hj⟩ | ⟨rfl, rfl⟩ | ⟨hji, hj⟩
    · refine (h.2.2.2.2.2.2 j l hj).fr (fun z h1 h2 => ?_)
      simp only [gCome]
      rw [if_neg (by omega), if_neg (by omega), if_neg (by omega), if_neg (by omega), if_neg (by omega), if_neg (by omega)]
    · refine ⟨Nat.zero_le 5, ?_, ?_, ?_, ?_, ?_, ?_, fun k c hk => by cases hk⟩
      · simp only [gCome]; rw [if_neg (by omega), if_pos (by omega)]
      · simp only [gCome]; rw [if_neg (by omega), if_neg (by omega), if_neg (by omega), if_neg (by omega), if_pos (by omega)]; rfl
      · simp only [gCome]; rw [if_neg (by omega), if_neg (by omega), if_neg (by omega), if_neg (by omega), if_pos (by omega)]; rfl
      · simp only [gCome]; rw [if_neg (by omega), if_neg (by omega)]; rfl
      · simp only [gCome]; rw [if_neg (by omega), if_neg (by omega), if_neg (by omega)]; rfl
      · simp only [gCome]; rw [if_neg (by omega), if_neg (by omega), if_neg (by omega), if_neg (by omega), if_pos (by omega)]; rfl
    · obtain ⟨j', rfl⟩ : ∃ j', j = j' + 1 := ⟨j - 1, by omega⟩
      refine (h.2.2.2.2.2.2 j' l hj).mv (fun z hz => ?_)
      simp only [gCome]
      rw [if_neg (by omega), if_neg (by omega), if_neg (by omega), if_neg (by omega), if_neg (by omega), if_pos (by omega)]
      congr 1
      omega
  · simp only [gCome]
    rw [if_neg (by omega), if_neg (by omega), if_neg (by omega), if_neg (by omega), if_neg (by omega), if_neg (by omega)]
theorem Rep.come {g : Nat → Int32} {A : Ab} {q i m : Nat} {x : Qa} (h : Rep g A) (hx : (a_q A)[q]? = some x) (hi : i ≤ (q_ls x).length) (hn : (q_ls x).length < 20) : Rep (gCome g q i (q_ls x).length (nI m)) (w_q A ((a_q A).set q (x_ls x ((q_ls x).insertIdx i (m, 0, 0, 0, []))))) := by
  refine h.q hx ((h.1.2.2 q x hx).come hi hn) (fun z hz => ?_)
  simp only [gCome]
  rw [if_neg (by omega), if_neg (by omega), if_neg (by omega), if_neg (by omega), if_neg (by omega), if_neg (by omega)]
/-- where it comes -/
def plcA (m : Nat) : List La → Nat → Nat
  | _, 0 => 0
  | L, i + 1 => match L[i]? with
    | some l => if l_m l ≤ m then i + 1 else plcA m L i
    | none => plcA m L i
theorem plcA_le (m : Nat) (L : List La) : ∀ n, plcA m L n ≤ n
  | 0 => Nat.le_refl _
  | n + 1 => by
    unfold plcA
    split
    · split
      · exact Nat.le_refl _
      · exact Nat.le_succ_of_le (plcA_le m L n)
    · exact Nat.le_succ_of_le (plcA_le m L n)
theorem RepQ_plc {g : Nat → Int32} {q m : Nat} {x : Qa} (h : RepQ g q x) (hm : m < 300) (hb : ∀ (i : Nat) (l : La), (q_ls x)[i]? = some l → l_m l < 300) : ∀ n, n ≤ (q_ls x).length → plc g q (nI m) n = plcA m (q_ls x) n
  | 0, _ => rfl
  | n + 1, hn => by
    have he : (q_ls x)[n]? = some (q_ls x)[n] := List.getElem?_eq_getElem (by omega)
    have h1 := (h.2.2.2.2.2.2 n _ he).2.1
    unfold plc plcA
    rw [he, h1]
    have hb' := hb n _ he
    by_cases e : l_m (q_ls x)[n] ≤ m
    · rw [if_pos (nI_le e (by omega))]
      simp only [if_pos e]
    · rw [if_neg (fun hh => e ((nI_leI (by omega) (by omega)).mp hh))]
      simp only [if_neg e]
      exact RepQ_plc h hm hb n (by omega)
