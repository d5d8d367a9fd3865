/-! THE ABSTRACT STATE: what is well made stays so. -/
section ABS8
variable {A : Ab} {T q i : Nat} {x : Qa} {l : La}
theorem Wf.qq {x' : Qa} (w : Wf T A) (hx : (a_q A)[q]? = some x) (h' : WfQ A q x') (hm : ∀ (j : Nat) (y : La), (q_ls x')[j]? = some y → ∃ (j0 : Nat) (y0 : La), (q_ls x)[j0]? = some y0 ∧ l_m y0 = l_m y) : Wf T (w_q A ((a_q A).set q x')) := by
  obtain ⟨w1, w2, w3, w4, w5, w6, w7⟩ := w
  refine ⟨w1, fun p y hp => ?_, fun c k hc => ?_, w4, fun j d hj => ?_, w6, w7⟩
  · rcases set_or hp with ⟨rfl, rfl⟩ | ⟨_, hp⟩
    · exact h'
    · exact w2 p y hp
  · obtain ⟨a1, a2⟩ := w3 c k hc
    exact ⟨by show k_q k < ((a_q A).set q x').length; rw [List.length_set]; exact a1, a2⟩
  · obtain ⟨a1, a2, a3, a4, a5, a6⟩ := w5 j d hj
    refine ⟨a1, by show d_q d < ((a_q A).set q x').length; rw [List.length_set]; exact a2, a3, a4, a5, fun z j y hz hy => ?_⟩
    rcases set_or hz with ⟨e, rfl⟩ | ⟨_, hz⟩
    · obtain ⟨j0, y0, h0, e0⟩ := hm j y hy
      rw [← e0]
      exact a6 x j0 y0 (by rw [e]; exact hx) h0
    · exact a6 z j y hz hy
theorem WfQ.ls {L : List La} (h : WfQ A q x) (hL : L.length ≤ q_li x) (h1 : ∀ (i : Nat) (l : La), L[i]? = some l → WfL A q x l) (h2 : ∀ (i j : Nat) (l l' : La), i < j → L[i]? = some l → L[j]? = some l' → l_m l < l_m l') : WfQ A q (x_ls x L) :=
  ⟨h.1, h.2.1, h.2.2.1, h.2.2.2.1, h.2.2.2.2.1, h.2.2.2.2.2.1, h.2.2.2.2.2.2.1, hL, h1, h2⟩
theorem Wf.setL {l' : La} (w : Wf T A) (hx : (a_q A)[q]? = some x) (hl : (q_ls x)[i]? = some l) (hm : l_m l' = l_m l) (h' : WfL A q x l') : Wf T (aSetL A q x i l') := by
  have hQ := w.2.1 q x hx
  refine w.qq hx (hQ.ls (by rw [List.length_set]; exact hQ.2.2.2.2.2.2.2.1) (fun j y hj => ?_) (fun j j' y y' hjj hj hj' => ?_)) (fun j y hj => ?_)
  · rcases set_or hj with ⟨rfl, rfl⟩ | ⟨_, hj⟩
    · exact h'
    · exact hQ.2.2.2.2.2.2.2.2.1 j y hj
  · have s := hQ.2.2.2.2.2.2.2.2.2
    rcases set_or hj with ⟨rfl, rfl⟩ | ⟨_, h2⟩
    · rcases set_or hj' with ⟨e, rfl⟩ | ⟨_, h3⟩
      · omega
      · rw [hm]; exact s _ _ _ _ hjj hl h3
    · rcases set_or hj' with ⟨rfl, rfl⟩ | ⟨_, h3⟩
      · rw [hm]; exact s _ _ _ _ hjj h2 hl
      · exact s _ _ _ _ hjj h2 h3
  · rcases set_or hj with ⟨rfl, rfl⟩ | ⟨_, hj⟩
    · exact ⟨j, l, hl, hm.symm⟩
    · exact ⟨j, y, hj, rfl⟩
theorem WfQ.er (h : WfQ A q x) (hi : i < (q_ls x).length) : WfQ A q (x_ls x ((q_ls x).eraseIdx i)) := by
  refine h.ls ?_ (fun j y hj => ?_) (fun j j' y y' hjj hj hj' => ?_)
  · rw [List.length_eraseIdx_of_lt hi]; have := h.2.2.2.2.2.2.2.1; omega
  · rcases er_or hj with ⟨_, hj⟩ | ⟨_, hj⟩
    · exact h.2.2.2.2.2.2.2.2.1 _ y hj
    · exact h.2.2.2.2.2.2.2.2.1 _ y hj
  · have s := h.2.2.2.2.2.2.2.2.2
    rcases er_or hj with ⟨a, hj⟩ | ⟨a, hj⟩
    · rcases er_or hj' with ⟨b, hj'⟩ | ⟨b, hj'⟩
      · exact s _ _ _ _ hjj hj hj'
      · exact s _ _ _ _ (by omega) hj hj'
    · rcases er_or hj' with ⟨b, hj'⟩ | ⟨b, hj'⟩
      · omega
      · exact s _ _ _ _ (by omega) hj hj'
theorem er_sub {α : Type} {L : List α} {i j : Nat} {y : α} (h : (L.eraseIdx i)[j]? = some y) : ∃ j0, j0 ≠ i ∧ L[j0]? = some y := by
  rcases er_or h with ⟨a, h⟩ | ⟨a, h⟩
  · exact ⟨j, by omega, h⟩
  · exact ⟨j + 1, by omega, h⟩
theorem Wf.er (w : Wf T A) (hx : (a_q A)[q]? = some x) (hi : i < (q_ls x).length) : Wf T (w_q A ((a_q A).set q (x_ls x ((q_ls x).eraseIdx i)))) :=
  w.qq hx ((w.2.1 q x hx).er hi) (fun _ y hj => by obtain ⟨j0, _, h0⟩ := er_sub hj; exact ⟨j0, y, h0, rfl⟩)
/-- a consumer changed -/
theorem Wf.c {c : Nat} {k k' : Co} (w : Wf T A) (hk : (a_c A)[c]? = some k) (h' : WfK A k') (hl : ∀ (q : Nat) (x : Qa) (i : Nat) (l : La), (a_q A)[q]? = some x → (q_ls x)[i]? = some l → l_s l = 2 → l_x l = c → k_lf k' = 0 ∧ k_q k' = q) : Wf T (w_c A ((a_c A).set c k')) := by
  obtain ⟨w1, w2, w3, w4, w5, w6, w7⟩ := w
  refine ⟨w1, fun p y hp => ?_, fun d y hd => ?_, w4, w5, w6, w7⟩
  · obtain ⟨a1, a2, a3, a4, a5, a6, a7, a8, a9, a10⟩ := w2 p y hp
    refine ⟨a1, a2, a3, a4, a5, a6, by show q_l1 y ≤ ((a_c A).set c k').length; rw [List.length_set]; exact a7, a8, fun j l hj => ?_, a10⟩
    obtain ⟨b1, b2, b3, b4, b5, b6, b7⟩ := a9 j l hj
    refine ⟨b1, b2, b3, b4, b5, b6, fun hs => ?_⟩
    obtain ⟨z, hz, e1, e2⟩ := b7 hs
    by_cases e : c = l_x l
    · refine ⟨k', ?_, hl p y j l hp hj hs e.symm⟩
      show ((a_c A).set c k')[l_x l]? = some k'
      rw [← e]; exact set_get hk
    · refine ⟨z, ?_, e1, e2⟩
      show ((a_c A).set c k')[l_x l]? = some z
      rw [List.getElem?_set_ne e]; exact hz
  · rcases set_or hd with ⟨rfl, rfl⟩ | ⟨_, hd⟩
    · exact h'
    · exact w3 d y hd
theorem Wf.cSame {c : Nat} {k k' : Co} (w : Wf T A) (hk : (a_c A)[c]? = some k) (h' : WfK A k') (e1 : k_lf k' = k_lf k) (e2 : k_q k' = k_q k) : Wf T (w_c A ((a_c A).set c k')) := by
  refine w.c hk h' (fun q x i l hx hl hs hc => ?_)
  obtain ⟨z, hz, f1, f2⟩ := (w.ls hx hl).2.2.2.2.2.2 hs
  rw [hc, hk] at hz
  obtain rfl := Option.some.inj hz
  exact ⟨by rw [e1, f1], by rw [e2, f2]⟩
theorem Wf.cr {c : Nat} {k : Co} (w : Wf T A) (hk : (a_c A)[c]? = some k) (h0 : k_lf k = 0) : Wf T (w_c A ((a_c A).set c (kMore k))) := by
  have hK := w.2.2.1 c k hk
  refine w.cSame hk ⟨hK.1, Nat.min_le_left _ _, hK.2.2.1, fun e => ?_⟩ rfl rfl
  have : k_lf k = 1 := e
  omega
/-- single numbers of a queue -/
theorem Wf.di (w : Wf T A) (hx : (a_q A)[q]? = some x) (v : Int32) : Wf T (w_q A ((a_q A).set q (x_di x v))) := w.qq hx (w.2.1 q x hx) (fun j y hj => ⟨j, y, hj, rfl⟩)
theorem Wf.gv (w : Wf T A) (hx : (a_q A)[q]? = some x) (v : Int32) : Wf T (w_q A ((a_q A).set q (x_gv x v))) := w.qq hx (w.2.1 q x hx) (fun j y hj => ⟨j, y, hj, rfl⟩)
theorem Wf.ak (w : Wf T A) (hx : (a_q A)[q]? = some x) (v : Int32) : Wf T (w_q A ((a_q A).set q (x_ak x v))) := w.qq hx (w.2.1 q x hx) (fun j y hj => ⟨j, y, hj, rfl⟩)
theorem Wf.ex (w : Wf T A) (hx : (a_q A)[q]? = some x) {v : Nat} (hv : v ≤ 1) : Wf T (w_q A ((a_q A).set q (x_ex x v))) := by
  obtain ⟨a1, a2, a3, a4, a5, a6, a7⟩ := w.2.1 q x hx
  exact w.qq hx ⟨a1, a2, a3, a4, a5, hv, a7⟩ (fun j y hj => ⟨j, y, hj, rfl⟩)
theorem Wf.l1 (w : Wf T A) (hx : (a_q A)[q]? = some x) {v : Nat} (hv : v ≤ (a_c A).length) : Wf T (w_q A ((a_q A).set q (x_l1 x v))) := by
  obtain ⟨a1, a2, a3, a4, a5, a6, a7, a8⟩ := w.2.1 q x hx
  exact w.qq hx ⟨a1, a2, a3, a4, a5, a6, hv, a8⟩ (fun j y hj => ⟨j, y, hj, rfl⟩)
/-- the dead -/
theorem Wf.dd {D : List Da} (w : Wf T A) (h1 : ∀ (i : Nat) (d : Da), D[i]? = some d → WfD A d) (h2 : ∀ (i j : Nat) (d e : Da), i < j → D[i]? = some d → D[j]? = some e → ¬ (d_m d = d_m e ∧ d_q d = d_q e)) : Wf T (w_d A D) := by
  obtain ⟨w1, w2, w3, w4, w5, w6, w7⟩ := w
  exact ⟨w1, w2, w3, w4, h1, h2, w7⟩
theorem Wf.lose (w : Wf T A) : Wf T (w_d A ((a_d A).eraseIdx i)) := by
  refine w.dd (fun j d hj => ?_) (fun j j' d e hjj hj he => ?_)
  · obtain ⟨j0, _, h0⟩ := er_sub hj
    exact w.2.2.2.2.1 j0 d h0
  · have s := w.2.2.2.2.2.1
    rcases er_or hj with ⟨a, hj⟩ | ⟨a, hj⟩
    · rcases er_or he with ⟨b, he⟩ | ⟨b, he⟩
      · exact s _ _ _ _ hjj hj he
      · exact s _ _ _ _ (by omega) hj he
    · rcases er_or he with ⟨b, he⟩ | ⟨b, he⟩
      · omega
      · exact s _ _ _ _ (by omega) hj he
theorem Wf.room (w : Wf T A) : Wf T (w_d A (roomD (a_d A))) := by
  have e : roomD (a_d A) = a_d A ∨ roomD (a_d A) = (a_d A).drop 1 := by
    unfold roomD
    split
    · exact Or.inr rfl
    · exact Or.inl rfl
  rcases e with e | e
  · rw [e]; exact w
  · rw [e]
    refine w.dd (fun j d hj => ?_) (fun j j' d e hjj hj he => ?_)
    · rw [List.getElem?_drop] at hj
      exact w.2.2.2.2.1 _ d hj
    · rw [List.getElem?_drop] at hj he
      exact w.2.2.2.2.2.1 _ _ _ _ (by omega) hj he
theorem Wf.push {d : Da} (w : Wf T A) (hd : WfD A d) (hn : ∀ (i : Nat) (e : Da), (a_d A)[i]? = some e → ¬ (d_m e = d_m d ∧ d_q e = d_q d)) : Wf T (w_d A (a_d A ++ [d])) := by
  refine w.dd (fun j y hj => ?_) (fun j j' y e hjj hj he => ?_)
  · rcases app_or hj with ⟨_, rfl⟩ | ⟨_, hj⟩
    · exact hd
    · exact w.2.2.2.2.1 j y hj
  · rcases app_or hj with ⟨a, rfl⟩ | ⟨a, h4⟩
    · have := li he
      rw [List.length_append] at this
      have : j' < (a_d A).length + 1 := this
      omega
    · rcases app_or he with ⟨b, rfl⟩ | ⟨b, he⟩
      · exact hn j y h4
      · exact w.2.2.2.2.2.1 _ _ _ _ hjj h4 he
theorem room_sub {D : List Da} {i : Nat} {d : Da} (h : (roomD D)[i]? = some d) : ∃ j : Nat, D[j]? = some d := by
  unfold roomD at h
  split at h
  · rw [List.getElem?_drop] at h; exact ⟨_, h⟩
  · exact ⟨_, h⟩
theorem Wf.die {cs : List Ca} (w : Wf T A) (hx : (a_q A)[q]? = some x) (hl : (q_ls x)[i]? = some l) (hc : WfC cs) (h1 : 1 ≤ cs.length) : Wf T (aDie A q x i (l_m l) cs) := by
  have hi := li hl
  have hL := w.ls hx hl
  have hq := li hx
  have s := (w.2.1 q x hx).2.2.2.2.2.2.2.2.2
  have w1 := (w.di hx (q_di x + nI 1)).er (q := q) (x := x_di x (q_di x + nI 1)) (i := i) (set_get hx) hi
  have w2 := w1.room
  have e : (((a_q A).set q (x_di x (q_di x + nI 1))).set q (x_ls (x_di x (q_di x + nI 1)) ((q_ls x).eraseIdx i))) = (a_q A).set q (x_ls (x_di x (q_di x + nI 1)) ((q_ls x).eraseIdx i)) := List.set_set ..
  have w3 := w2.push (d := (l_m l, q, a_n A, cs)) ⟨hL.1, by show q < (((a_q A).set q _).set q _).length; rw [List.length_set, List.length_set]; exact hq, h1, hc, Nat.le_refl _, fun z j y hz hy => ?_⟩ (fun j d hj => ?_)
  · have : w_d (w_q (w_q A ((a_q A).set q (x_di x (q_di x + nI 1)))) (((a_q A).set q (x_di x (q_di x + nI 1))).set q (x_ls (x_di x (q_di x + nI 1)) ((q_ls x).eraseIdx i)))) (roomD (a_d A) ++ [(l_m l, q, a_n A, cs)]) = aDie A q x i (l_m l) cs := by
      unfold aDie
      rw [← e]
      rfl
    rw [← this]
    exact w3
  · have hz' : (((a_q A).set q (x_di x (q_di x + nI 1))).set q (x_ls (x_di x (q_di x + nI 1)) ((q_ls x).eraseIdx i)))[q]? = some z := hz
    rw [e, set_get hx] at hz'
    obtain rfl := Option.some.inj hz'
    obtain ⟨j0, hne, h0⟩ := er_sub hy
    show l_m y ≠ l_m l
    intro ee
    rcases Nat.lt_or_gt_of_ne hne with a | a
    · have := s _ _ _ _ a h0 hl; omega
    · have := s _ _ _ _ a hl h0; omega
  · obtain ⟨j0, h0⟩ := room_sub hj
    rintro ⟨e1, e2⟩
    have hD := w.2.2.2.2.1 j0 d h0
    exact hD.2.2.2.2.2 x i l (by rw [show d_q d = q from e2]; exact hx) hl e1.symm
end ABS8
