/-! THE REFERENCE: what is read is well made; topic. -/
def okC (w : Bool) (c : Int32) : Prop := (w = true ∧ c = -2) ∨ ∃ n : Nat, 1 ≤ n ∧ n < 27 ^ 4 ∧ c = nI n
theorem ltA_v (t : List Nat) : ∀ (f p v n : Nat), v < 27 ^ n → (n = 0 ∨ 1 ≤ v) → (ltA t f p v n).1 < 27 ^ (ltA t f p v n).2 ∧ ((ltA t f p v n).2 = 0 ∨ 1 ≤ (ltA t f p v n).1)
  | 0, p, v, n, h1, h2 => ⟨h1, h2⟩
  | f + 1, p, v, n, h1, h2 => by
    unfold ltA
    split
    · exact ⟨h1, h2⟩
    · rename_i b hb
      split
      · refine ltA_v t f (p + 1) (27 * v + b - 97 + 1) (n + 1) ?_ (Or.inr (by omega))
        rw [Nat.pow_succ]
        omega
      · exact ⟨h1, h2⟩
theorem onA_ok {w : Bool} {t : List Nat} {p : Nat} {x : Nat × Int32} (h : onA w t p = some x) : (okC w x.2 ∨ (w = true ∧ x.2 = -3)) ∧ x.1 ≤ p + 4 := by
  unfold onA at h
  split at h
  · rename_i c
    cases h
    exact ⟨Or.inl (Or.inl ⟨c.1, rfl⟩), by show p + 1 ≤ p + 4; omega⟩
  · split at h
    · rename_i c
      cases h
      exact ⟨Or.inr ⟨c.1, rfl⟩, by show p + 1 ≤ p + 4; omega⟩
    · split at h
      · cases h
      · rename_i c
        cases h
        have h1 := ltA_n t 4 p 0 0
        have h2 := ltA_v t 4 p 0 0 (by decide) (Or.inl rfl)
        have h3 : 27 ^ (ltA t 4 p 0 0).2 ≤ 27 ^ 4 := Nat.pow_le_pow_right (by omega) (by omega)
        exact ⟨Or.inl (Or.inr ⟨(ltA t 4 p 0 0).1, by omega, by omega, rfl⟩), by show p + (ltA t 4 p 0 0).2 ≤ p + 4; omega⟩
theorem okC_n3 {w : Bool} {c : Int32} (h : okC w c) : ¬ c = -3 := by
  rcases h with ⟨_, h⟩ | ⟨n, h1, h2, h3⟩
  · rw [h]; decide
  · intro y
    rw [h3] at y
    have hh := congrArg Int32.toInt y
    rw [nI_toInt (by omega)] at hh
    have h4 : (-3 : Int32).toInt = -3 := by decide
    rw [h4] at hh
    omega
/-- what parts are read: one to four, the last alone may be open -/
theorem paA_ok {w : Bool} {t : List Nat} : ∀ (f p : Nat) (cs c' : List Int32), paA w t f p cs = .inr c' → cs.length + f = 4 → (∀ (k : Nat) (c : Int32), cs[k]? = some c → okC w c) → p ≤ 5 * cs.length →
    (1 ≤ c'.length ∧ c'.length ≤ 4) ∧ t.length ≤ 19 ∧ (∀ (k : Nat) (c : Int32), c'[k]? = some c → okC w c ∨ (w = true ∧ c = -3 ∧ k + 1 = c'.length))
  | 0, p, cs, c', h, _, _, _ => by cases h
  | f + 1, p, cs, c', h, hf, hc, hp => by
    cases e : onA w t p with
    | none => simp only [paA, e] at h; cases h
    | some x =>
      obtain ⟨h1, h2⟩ := onA_ok e
      rw [paA_S e] at h
      by_cases c1 : x.1 = t.length
      · rw [if_pos c1] at h
        cases h
        refine ⟨?_, by omega, fun k c hk => ?_⟩
        · rw [List.length_append]; show 1 ≤ cs.length + 1 ∧ cs.length + 1 ≤ 4; omega
        · rcases app_or hk with ⟨rfl, rfl⟩ | ⟨_, hk⟩
          · rcases h1 with h1 | ⟨h1, h3⟩
            · exact Or.inl h1
            · exact Or.inr ⟨h1, h3, by rw [List.length_append]; rfl⟩
          · exact Or.inl (hc k c hk)
      · rw [if_neg c1] at h
        by_cases c2 : t[x.1]? = some 46 ∧ ¬ cs.length + 1 = 4 ∧ ¬ x.2 = -3
        · rw [if_pos c2] at h
          refine paA_ok f (x.1 + 1) (cs ++ [x.2]) c' h (by rw [List.length_append]; show cs.length + 1 + f = 4; omega) (fun k c hk => ?_) (by rw [List.length_append]; show x.1 + 1 ≤ 5 * (cs.length + 1); omega)
          rcases app_or hk with ⟨rfl, rfl⟩ | ⟨_, hk⟩
          · rcases h1 with h1 | ⟨_, h3⟩
            · exact h1
            · exact absurd h3 c2.2.2
          · exact hc k c hk
        · rw [if_neg c2] at h; cases h
theorem paA_P {t : List Nat} {c' : List Int32} (h : paA true t 4 0 [] = .inr c') : (1 ≤ c'.length ∧ c'.length ≤ 4) ∧ t.length ≤ 19 ∧ WfP c' := by
  obtain ⟨h1, h2, h3⟩ := paA_ok 4 0 [] c' h rfl (fun k c hk => by cases hk) (Nat.zero_le _)
  refine ⟨h1, h2, fun k c hk => ?_⟩
  rcases h3 k c hk with (⟨_, h⟩ | h) | ⟨_, h, h'⟩
  · exact Or.inl h
  · exact Or.inr (Or.inr h)
  · exact Or.inr (Or.inl ⟨h, h'⟩)
theorem paA_T {t : List Nat} {c' : List Int32} (h : paA false t 4 0 [] = .inr c') : (1 ≤ c'.length ∧ c'.length ≤ 4) ∧ WfT c' := by
  obtain ⟨h1, h2, h3⟩ := paA_ok 4 0 [] c' h rfl (fun k c hk => by cases hk) (Nat.zero_le _)
  refine ⟨h1, fun k c hk => ?_⟩
  rcases h3 k c hk with (⟨h, _⟩ | h) | ⟨h, _⟩
  · cases h
  · exact h
  · cases h
def ftS (S : St) (f : Nat) : Int32 × St := (-300 - nI f, z_f (z_t S []) 0)
def fTopic (S : St) : Int32 × St := match paA false (s_t S) 4 0 [] with
  | .inl f => ftS S f
  | .inr cs => (nI cs.length, z_a (z_t S []) (w_t (s_a S) cs))
section PUB18
variable {E : Nat × Nat} {M : Mm} {r T : Nat} {g : Nat → Int32} {S : St} {Q : Option Value → Mm → Prop} {A : Ab}
theorem RR.tape0 (h : RR M r S) (hg : mI M (r + 1) = g) : RR (wI (sI M r 7 (nI 0)) (r + 1) g) r (z_t S []) := by
  refine h.tape hg rfl rfl rfl ?_ (fun a z1 z2 z3 => ?_) ⟨Nat.zero_le _, ?_, fun j b hj => by cases hj⟩
  · rw [mI_s0, if_neg (by omega)]
  · rw [mI_s1 _ _ _ z1]
  · rw [mI_s0, if_pos rfl]; rfl
theorem rfM_w (M : Mm) (r w : Nat) (g : Nat → Int32) : rfM (wI M (r + 1) g) r w = wI (rfM M r w) (r + 1) g := by
  unfold rfM
  rw [sI_wo _ _ _ _ (by omega), mI_oth _ _ (by omega)]
theorem Fr.g0 (g : Nat → Int32) : Fr r M (wI M (r + 1) g) := Fr.wix M _ (by omega) (by omega)
theorem Rep.tp {cs : List Int32} {g' : Nat → Int32} (h : Rep g A) (h4 : cs.length ≤ 4) (h6 : g' 6 = nI cs.length) (hc : ∀ (k : Nat) (c : Int32), cs[k]? = some c → g' (7 + k) = c) (e : ∀ z, (z < 6 ∨ 11 ≤ z) → g' z = g z) : Rep g' (w_t A cs) := by
  obtain ⟨⟨h1, h2, h3⟩, ⟨h4', h5, h6'⟩, ⟨h7, h8, h9⟩, ⟨h10, h11, h12⟩, h13, h14, ⟨h15, h16, h17⟩, h18⟩ := h
  refine ⟨⟨h1, ?_, fun p y hp => ?_⟩, ⟨h4', ?_, fun c y hc => ?_⟩, ⟨h7, ?_, fun j y hj => ?_⟩, ⟨h10, ?_, fun i y hi => ?_⟩, ?_, ?_, ⟨h4, h6, hc⟩, fun z hz => ?_⟩
  · rw [e 0 (by omega)]; exact h2
  · exact (h3 p y hp).fr (fun z h1 h2 => e z (by omega))
  · rw [e 1 (by omega)]; exact h5
  · exact (h6' c y hc).fr (fun z h1 h2 => e z (by omega))
  · rw [e 2 (by omega)]; exact h8
  · exact (h9 j y hj).fr (fun z h1 h2 => e z (by omega))
  · rw [e 3 (by omega)]; exact h11
  · exact (h12 i y hi).fr (fun z h1 h2 => e z (by omega))
  · rw [e 4 (by omega)]; exact h13
  · rw [e 5 (by omega)]; exact h14
  · rw [e _ (by omega)]; exact h18 z hz

theorem c_faultyS (hS : RS M r) {f : Nat} (h : RR (wI M (r + 1) g) r S) (h8 : mI M r 8 = nI f) (k : ∀ M' : Mm, Fr r M M' → RR M' r (z_f (z_t S []) 0) → Q (some (.int (-300 - nI f))) M') : J E 176 0 [.ref r] [] (wI M (r + 1) g) Q := by
  have h1 := h.tape0 (g := g) (mI_same _ _ _)
  have e1 : wI (sI (wI M (r + 1) g) r 7 (nI 0)) (r + 1) g = wI (sI M r 7 (nI 0)) (r + 1) g := by rw [sI_wo _ _ _ _ (by omega), wI_wI]
  rw [e1] at h1
  have h2 := h1.rf (g := g) (mI_same _ _ _) 0
  rw [rfM_w, wI_wI] at h2
  refine J_p 2 (ls' := [_]) rfl ?_
  refine J_oput rfl hS.t (Or.inl rfl) ?_
  refine J_p 1 (ls' := [_]) rfl ?_
  refine J_getR rfl hS.t hS.f4 ?_
  refine J_p 2 (ls' := [_]) rfl ?_
  refine J_old (n := 0) rfl (by repeat' (first | with_reducible rfl | assumption | with_reducible refine nI_decE ?_ | with_reducible refine nI_addE ?_ ?_ | with_reducible refine nI_mulE ?_ ?_ | with_reducible refine nI_subE ?_ ?_ ?_ | omega | (with_reducible refine congrArg nI ?_; omega))) (by omega) hS.t4 hS.l4 (by omega) (by omega) rfl ?_
  refine J_p 2 (ls' := [_]) rfl ?_
  refine J_ost (n := 0) rfl (by repeat' (first | with_reducible rfl | assumption | with_reducible refine nI_decE ?_ | with_reducible refine nI_addE ?_ ?_ | with_reducible refine nI_mulE ?_ ?_ | with_reducible refine nI_subE ?_ ?_ ?_ | omega | (with_reducible refine congrArg nI ?_; omega))) (by omega) hS.t4 hS.l4 (by omega) (by omega) ?_
  refine J_p 2 (ls' := [_]) rfl ?_
  refine J_oget rfl hS.t ⟨by omega, (show mI (rfM (sI M r 7 (nI 0)) r 0) r 8 = nI f from by unfold rfM; rw [mI_s1 _ _ _ (by omega), mI_s0, if_neg (by omega)]; exact h8)⟩ ?_
  refine J_p 1 (ls' := [_]) rfl ?_
  exact J_ret rfl rfl rfl (k _ (((Fr.six M _ _ (by omega) (by omega)).trans (Fr.six _ _ _ (by omega) (by omega))).trans (Fr.g0 g)) h2)

theorem c_topic_l (hS : RS M r) {cs : List Int32} (h4 : cs.length ≤ 4) (h10 : mI M r 10 = nI cs.length) (hc : ∀ (k : Nat) (c : Int32), cs[k]? = some c → mI M (r + 7) k = c) : ∀ (d kk : Nat), kk + d = cs.length → Q (some (.int (nI cs.length))) (wI M (r + 1) (fun z => if z = 6 then nI cs.length else if 7 ≤ z ∧ z < 7 + cs.length then cs.getD (z - 7) 0 else g z)) → J E 177 31 [.ref r, .int (nI kk)] [] (wI M (r + 1) (fun z => if z = 6 then nI cs.length else if 7 ≤ z ∧ z < 7 + kk then cs.getD (z - 7) 0 else g z)) Q := by
  intro d
  induction d with
  | zero =>
    intro kk hk k
    refine J_p 2 (ls' := [_, _]) rfl ?_
    refine J_oget rfl hS.t ⟨by omega, h10⟩ ?_
    refine J_ige rfl (fun b36 => ?_) (fun b36 => ?_)
    · skip
      refine J_p 1 (ls' := [_, _]) rfl ?_
      refine J_oget rfl hS.t ⟨by omega, h10⟩ ?_
      obtain rfl : kk = cs.length := by omega
      exact J_ret rfl rfl rfl k
    · skip
      exact absurd (nI_le (a := cs.length) (b := kk) (by omega) (by omega)) b36
  | succ d ih =>
    intro kk hk k
    obtain ⟨c, hck⟩ := get_of (l := cs) (i := kk) (by omega)
    refine J_p 2 (ls' := [_, _]) rfl ?_
    refine J_oget rfl hS.t ⟨by omega, h10⟩ ?_
    refine J_ige rfl (fun b36 => ?_) (fun b36 => ?_)
    · skip
      exact absurd b36 (nI_ge (a := kk) (b := cs.length) (by omega) (by omega))
    · skip
      refine J_p 1 (ls' := [_, _]) rfl ?_
      refine J_getR rfl hS.t hS.f0 ?_
      refine J_p 4 (ls' := [_, _]) rfl ?_
      refine J_getR rfl hS.t hS.f9 ?_
      refine J_p 1 (ls' := [_, _]) rfl ?_
      refine J_old (n := kk) rfl (by repeat' (first | with_reducible rfl | assumption | with_reducible refine nI_decE ?_ | with_reducible refine nI_addE ?_ ?_ | with_reducible refine nI_mulE ?_ ?_ | with_reducible refine nI_subE ?_ ?_ ?_ | omega | (with_reducible refine congrArg nI ?_; omega))) (by omega) hS.t7 hS.l7 (by omega) (by omega) (hc kk c hck) ?_
      refine J_gst (n := 7 + kk) rfl (by repeat' (first | with_reducible rfl | assumption | with_reducible refine nI_decE ?_ | with_reducible refine nI_addE ?_ ?_ | with_reducible refine nI_mulE ?_ ?_ | with_reducible refine nI_subE ?_ ?_ ?_ | omega | (with_reducible refine congrArg nI ?_; omega))) hS (by omega) ?_
      refine J_p 2 (ls' := [_, _]) rfl ?_
      rw [nI_add kk 1]
      refine J_M (congrArg (wI M (r + 1)) (funext fun z => ?_)) (ih (kk + 1) (by omega) k)
      simp only [upd]
      by_cases z1 : z = 7 + kk
      · subst z1
        rw [if_pos rfl, if_neg (by omega), if_pos (by omega), show 7 + kk - 7 = kk by omega, getD_of hck]
      · rw [if_neg z1]
        by_cases z2 : z = 6
        · rw [if_pos z2, if_pos z2]
        · rw [if_neg z2, if_neg z2]
          by_cases z3 : 7 ≤ z ∧ z < 7 + kk
          · rw [if_pos z3, if_pos (by omega)]
          · rw [if_neg z3, if_neg (by omega)]

theorem s_topic (h : RR M r S) (w : WfS T S) (hT : T + 100 < 2 ^ 20)  (k : ∀ M' : Mm, Fr r M M' → RR M' r (fTopic S).2 → WfS (T + 99) (fTopic S).2 → Q (some (.int (fTopic S).1)) M') : J E 177 0 [.ref r, U0] [] M Q := by
  obtain ⟨g, hg⟩ : ∃ g, mI M (r + 1) = g := ⟨_, rfl⟩
  have hS := h.1
  have hA := h.a
  rw [hg] at hA
  rw [show M = wI M (r + 1) g by rw [← hg, wI_id]]
  have kR : ∀ (v : Nat) (x : Int32), fTopic S = rfS S v → x = rfN v → Q (some (.int x)) (wI (rfM M r v) (r + 1) g) := fun v x e ex => by
    rw [e] at k; rw [ex]; exact k _ (Fr.rf hg) (h.rf hg v) (w.rf hT)
  have kO : ∀ (a : Int32) (S' : St) (M' : Mm), fTopic S = (a, S') → Fr r M M' → RR M' r S' → WfS (T + 99) S' → Q (some (.int a)) M' := fun a S' M' e => by
    rw [e] at k; exact k M'
  have ht := h.t
  refine J_p 2 (ls' := [_, _]) rfl ?_
  refine J_call rfl rfl rfl (decide_eq_true hS.t) rfl (c_isReadA hS ht (w := false) (wv := nI 0) (fun _ => rfl) (fun y => absurd rfl y) (fun M' fl hs e h8' => ?_) (fun M' cs hs e h10' hc' => ?_))
  · show J _ _ _ _ _ _ _
    have hS' := hs.rs hS
    refine J_zne rfl (fun b => absurd rfl b) (fun _ => ?_)
    refine J_p 1 (ls' := [_, _]) rfl ?_
    refine J_call rfl rfl rfl (decide_eq_true hS'.t) rfl (c_faultyS (f := fl) hS' (h.sc hs hA) h8' (fun M2 hf2 h2 => ?_))
    show J _ _ _ _ _ _ _
    exact J_ret rfl rfl rfl (kO _ _ _ (by simp only [fTopic, e]; rfl) ((Fr.sc hs).trans hf2) h2 (WfS.mono (show WfS T (z_f (z_t S []) 0) from w) (by omega) (by omega)))
  · show J _ _ _ _ _ _ _
    have hS' := hs.rs hS
    obtain ⟨⟨c1, c4⟩, cT⟩ := paA_T e
    have h10 : mI (sI M' r 7 (nI 0)) r 10 = nI cs.length := by rw [mI_s0, if_neg (by omega)]; exact h10'
    have hc7 : ∀ (k : Nat) (c : Int32), cs[k]? = some c → mI (sI M' r 7 (nI 0)) (r + 7) k = c := fun k c hk => by rw [mI_s1 _ _ _ (by omega)]; exact hc' k c hk
    refine J_zne rfl (fun _ => ?_) (fun b => absurd b (by decide))
    refine J_p 2 (ls' := [_, _]) rfl ?_
    refine J_oput rfl hS'.t (Or.inl rfl) ?_
    refine J_p 1 (ls' := [_, _]) rfl ?_
    refine J_getR rfl hS'.t hS'.f0 ?_
    refine J_p 2 (ls' := [_, _]) rfl ?_
    refine J_oget rfl hS'.t ⟨by omega, h10⟩ ?_
    refine J_gst (n := 6) rfl rfl (show RS (sI M' r 7 (nI 0)) r from hS') (by omega) ?_
    refine J_p 2 (ls' := [_, _]) rfl ?_
    have e0 : upd g 6 (nI cs.length) = (fun z => if z = 6 then nI cs.length else if 7 ≤ z ∧ z < 7 + 0 then cs.getD (z - 7) 0 else g z) := by
      funext z
      simp only [upd]
      by_cases z1 : z = 6
      · rw [if_pos z1, if_pos z1]
      · rw [if_neg z1, if_neg z1, if_neg (by omega)]
    rw [e0]
    refine c_topic_l (E := E) (g := g) (M := sI M' r 7 (nI 0)) (show RS (sI M' r 7 (nI 0)) r from hS') c4 h10 hc7 cs.length 0 (by omega) ?_
    have hR : Rep (fun z => if z = 6 then nI cs.length else if 7 ≤ z ∧ z < 7 + cs.length then cs.getD (z - 7) 0 else g z) (w_t (s_a S) cs) := by
      refine hA.tp c4 (if_pos rfl) (fun k c hk => ?_) (fun z hz => ?_)
      · have := li hk
        show (if 7 + k = 6 then _ else _) = _
        rw [if_neg (by omega), if_pos (by omega), show 7 + k - 7 = k by omega, getD_of hk]
      · show (if z = 6 then _ else _) = _
        rw [if_neg (by omega), if_neg (by omega)]
    have h1 := (h.sc hs hA).tape0 (g := g) (mI_same _ _ _)
    have e1 : wI (sI (wI M' (r + 1) g) r 7 (nI 0)) (r + 1) g = wI (sI M' r 7 (nI 0)) (r + 1) g := by rw [sI_wo _ _ _ _ (by omega), wI_wI]
    rw [e1] at h1
    have h2 := h1.gg hR
    rw [wI_wI] at h2
    refine kO _ _ _ (by simp only [fTopic, e]; rfl) (((Fr.sc hs).trans (Fr.six _ _ _ (by omega) (by omega))).trans (Fr.g0 _)) h2 ?_
    refine WfS.a (S := z_t S []) w hT ?_ (Nat.le_refl _)
    obtain ⟨w1, w2, w3, w4, w5, w6, w7⟩ := w.1.mono (T' := T + 99) (by omega) (by omega)
    exact ⟨w1, w2, w3, w4, w5, w6, cT⟩

end PUB18