/-! THE REFERENCE: queue. -/
def newQ (cs : List Int32) (t : List Nat) (l tr le a : Nat) : Qa := (cs, t.map nI, (l, tr, le, a, 0, 0), (nI 0, nI 0, nI 0), [])
def addQ (A : Ab) (x : Qa) : Ab := w_q A (a_q A ++ [x])
def fQueue (S : St) (l tr le a : Int32) : Int32 × St := match inNB l 1 20 with
  | none => rfS S 0
  | some l' => match inNB tr 1 5 with
    | none => rfS S 0
    | some tr' => match inNB le 1 99 with
      | none => rfS S 0
      | some le' => match ixN a 1000 with
        | none => rfS S 0
        | some a' => match paA true (s_t S) 4 0 [] with
          | .inl f => ftS S f
          | .inr cs => if (a_q (s_a S)).length = 8 then rfS (z_t S []) 4 else (nI (a_q (s_a S)).length, z_a (z_t S []) (addQ (s_a S) (newQ cs (s_t S) l' tr' le' a')))
def gZ (g : Nat → Int32) (q k : Nat) : Nat → Int32 := fun z => if 3471 + 556 * q ≤ z ∧ z < 3471 + 556 * q + k then nI 0 else g z
def gC (g : Nat → Int32) (a : Nat) (f : Nat → Int32) (k : Nat) : Nat → Int32 := fun z => if a ≤ z ∧ z < a + k then f (z - a) else g z
theorem gC_s {g f : Nat → Int32} {a k : Nat} {v : Int32} (h : f k = v) : upd (gC g a f k) (a + k) v = gC g a f (k + 1) := by
  funext z
  simp only [upd, gC]
  by_cases z1 : z = a + k
  · subst z1
    rw [if_pos rfl, if_pos (by omega), show a + k - a = k by omega, h]
  · rw [if_neg z1]
    by_cases z2 : a ≤ z ∧ z < a + k
    · rw [if_pos z2, if_pos (by omega)]
    · rw [if_neg z2, if_neg (by omega)]
theorem gC_0 {g f : Nat → Int32} {a : Nat} : gC g a f 0 = g := by
  funext z
  simp only [gC]
  rw [if_neg (by omega)]
section PUB19
variable {E : Nat × Nat} {M : Mm} {r T : Nat} {g : Nat → Int32} {S : St} {Q : Option Value → Mm → Prop} {A : Ab}

theorem c_qu_z (hS : RS M r) {v1 v2 v3 v4 : Int32} {sg q : Nat} (hq : q < 8) (k : J E 178 128 [.ref r, .int v1, .int v2, .int v3, .int v4, .int (nI sg), .int (nI q), .int (nI 556)] [] (wI M (r + 1) (gZ g q 556)) Q) : ∀ (d kk : Nat), kk + d = 556 → True → J E 178 105 [.ref r, .int v1, .int v2, .int v3, .int v4, .int (nI sg), .int (nI q), .int (nI kk)] [] (wI M (r + 1) (gZ g q kk)) Q := by
  intro d
  induction d with
  | zero =>
    intro kk hk _
    refine J_p 2 (ls' := [_, _, _, _, _, _, _, _]) rfl ?_
    refine J_ige rfl (fun b110 => ?_) (fun b110 => ?_)
    · skip
      obtain rfl : kk = 556 := by omega
      exact k
    · skip
      exact absurd (nI_le (a := 556) (b := kk) (by omega) (by omega)) b110
  | succ d ih =>
    intro kk hk _
    refine J_p 2 (ls' := [_, _, _, _, _, _, _, _]) rfl ?_
    refine J_ige rfl (fun b110 => ?_) (fun b110 => ?_)
    · skip
      exact absurd b110 (nI_ge (a := kk) (b := 556) (by omega) (by omega))
    · skip
      refine J_p 4 (ls' := [_, _, _, _, _, _, _, _]) rfl ?_
      refine J_call rfl rfl rfl (decide_eq_true hS.t) rfl (c_is hS q kk _ (by omega) ?_)
      show J _ _ _ _ _ _ _
      refine J_p 2 (ls' := [_, _, _, _, _, _, _, _]) rfl ?_
      rw [nI_add kk 1]
      refine J_M (congrArg (wI M (r + 1)) (funext fun z => ?_)) (ih (kk + 1) (by omega) trivial)
      simp only [upd, gZ]
      repeat' split
      all_goals first | rfl | (exfalso; omega)

theorem c_qu_c (hS : RS M r) {v1 v2 v3 v4 : Int32} {sg q : Nat} (hq : q < 8) {cs : List Int32} (h4 : cs.length ≤ 4) (h10 : mI M r 10 = nI cs.length) (hc : ∀ (k : Nat) (c : Int32), cs[k]? = some c → mI M (r + 7) k = c) (k : J E 178 174 [.ref r, .int v1, .int v2, .int v3, .int v4, .int (nI sg), .int (nI q), .int (nI cs.length)] [] (wI M (r + 1) (gC g (3471 + 556 * q + 1) (fun j => cs.getD j 0) cs.length)) Q) : ∀ (d kk : Nat), kk + d = cs.length → True → J E 178 142 [.ref r, .int v1, .int v2, .int v3, .int v4, .int (nI sg), .int (nI q), .int (nI kk)] [] (wI M (r + 1) (gC g (3471 + 556 * q + 1) (fun j => cs.getD j 0) kk)) Q := by
  intro d
  induction d with
  | zero =>
    intro kk hk _
    refine J_p 2 (ls' := [_, _, _, _, _, _, _, _]) rfl ?_
    refine J_oget rfl hS.t ⟨by omega, h10⟩ ?_
    refine J_ige rfl (fun b148 => ?_) (fun b148 => ?_)
    · skip
      obtain rfl : kk = cs.length := by omega
      exact k
    · skip
      exact absurd (nI_le (a := cs.length) (b := kk) (by omega) (by omega)) b148
  | succ d ih =>
    intro kk hk _
    obtain ⟨c, hck⟩ := get_of (l := cs) (i := kk) (by omega)
    refine J_p 2 (ls' := [_, _, _, _, _, _, _, _]) rfl ?_
    refine J_oget rfl hS.t ⟨by omega, h10⟩ ?_
    refine J_ige rfl (fun b148 => ?_) (fun b148 => ?_)
    · skip
      exact absurd b148 (nI_ge (a := kk) (b := cs.length) (by omega) (by omega))
    · skip
      refine J_p 6 (ls' := [_, _, _, _, _, _, _, _]) rfl ?_
      refine J_getR rfl hS.t hS.f9 ?_
      refine J_p 1 (ls' := [_, _, _, _, _, _, _, _]) rfl ?_
      refine J_old (n := kk) rfl (by repeat' (first | with_reducible rfl | assumption | with_reducible refine nI_decE ?_ | with_reducible refine nI_addE ?_ ?_ | with_reducible refine nI_mulE ?_ ?_ | with_reducible refine nI_subE ?_ ?_ ?_ | omega | (with_reducible refine congrArg nI ?_; omega))) (by omega) hS.t7 hS.l7 (by omega) (by omega) (hc kk c hck) ?_
      refine J_n1 (n := 1 + kk) (by repeat' (first | with_reducible rfl | assumption | with_reducible refine nI_decE ?_ | with_reducible refine nI_addE ?_ ?_ | with_reducible refine nI_mulE ?_ ?_ | with_reducible refine nI_subE ?_ ?_ ?_ | omega | (with_reducible refine congrArg nI ?_; omega))) ?_
      refine J_call rfl rfl rfl (decide_eq_true hS.t) rfl (c_is hS q (1 + kk) _ (by omega) ?_)
      show J _ _ _ _ _ _ _
      refine J_p 2 (ls' := [_, _, _, _, _, _, _, _]) rfl ?_
      rw [nI_add kk 1, show 3471 + 556 * q + (1 + kk) = 3471 + 556 * q + 1 + kk by omega, gC_s (show (fun j => cs.getD j 0) kk = c from getD_of hck)]
      exact ih (kk + 1) (by omega) trivial

theorem c_qu_s (hS : RS M r) {v1 v2 v3 v4 : Int32} {sg q : Nat} (hq : q < 8) {t : List Nat} (h4 : t.length ≤ 20) (hsg : sg = t.length) (hc : ∀ (k : Nat) (b : Nat), t[k]? = some b → mI M (r + 6) k = nI b) (k : J E 178 217 [.ref r, .int v1, .int v2, .int v3, .int v4, .int (nI sg), .int (nI q), .int (nI t.length)] [] (wI M (r + 1) (gC g (3471 + 556 * q + 6) (fun j => nI (t.getD j 0)) t.length)) Q) : ∀ (d kk : Nat), kk + d = t.length → True → J E 178 186 [.ref r, .int v1, .int v2, .int v3, .int v4, .int (nI sg), .int (nI q), .int (nI kk)] [] (wI M (r + 1) (gC g (3471 + 556 * q + 6) (fun j => nI (t.getD j 0)) kk)) Q := by
  intro d
  induction d with
  | zero =>
    intro kk hk _
    refine J_p 2 (ls' := [_, _, _, _, _, _, _, _]) rfl ?_
    refine J_ige rfl (fun b190 => ?_) (fun b190 => ?_)
    · skip
      obtain rfl : kk = t.length := by omega
      exact k
    · skip
      exact absurd (nI_le (a := sg) (b := kk) (by omega) (by omega)) b190
  | succ d ih =>
    intro kk hk _
    obtain ⟨c, hck⟩ := get_of (l := t) (i := kk) (by omega)
    refine J_p 2 (ls' := [_, _, _, _, _, _, _, _]) rfl ?_
    refine J_ige rfl (fun b190 => ?_) (fun b190 => ?_)
    · skip
      exact absurd b190 (nI_ge (a := kk) (b := sg) (by omega) (by omega))
    · skip
      refine J_p 6 (ls' := [_, _, _, _, _, _, _, _]) rfl ?_
      refine J_getR rfl hS.t hS.f6 ?_
      refine J_p 1 (ls' := [_, _, _, _, _, _, _, _]) rfl ?_
      refine J_old (n := kk) rfl (by repeat' (first | with_reducible rfl | assumption | with_reducible refine nI_decE ?_ | with_reducible refine nI_addE ?_ ?_ | with_reducible refine nI_mulE ?_ ?_ | with_reducible refine nI_subE ?_ ?_ ?_ | omega | (with_reducible refine congrArg nI ?_; omega))) (by omega) hS.t6 hS.l6 (by omega) (by omega) (hc kk c hck) ?_
      refine J_n1 (n := 6 + kk) (by repeat' (first | with_reducible rfl | assumption | with_reducible refine nI_decE ?_ | with_reducible refine nI_addE ?_ ?_ | with_reducible refine nI_mulE ?_ ?_ | with_reducible refine nI_subE ?_ ?_ ?_ | omega | (with_reducible refine congrArg nI ?_; omega))) ?_
      refine J_call rfl rfl rfl (decide_eq_true hS.t) rfl (c_is hS q (6 + kk) _ (by omega) ?_)
      show J _ _ _ _ _ _ _
      refine J_p 2 (ls' := [_, _, _, _, _, _, _, _]) rfl ?_
      rw [nI_add kk 1, show 3471 + 556 * q + (6 + kk) = 3471 + 556 * q + 6 + kk by omega, gC_s (f := fun j => nI (t.getD j 0)) (k := kk) (v := nI c) (congrArg nI (getD_of hck))]
      exact ih (kk + 1) (by omega) trivial

/-- the row with the new queue -/
def gNQ (g : Nat → Int32) (q : Nat) (cs : List Int32) (t : List Nat) (l tr le a : Nat) : Nat → Int32 :=
  upd (upd (upd (upd (upd (upd (gC (upd (gC (upd (gZ g q 556) (3471 + 556 * q + 0) (nI cs.length)) (3471 + 556 * q + 1) (fun j => cs.getD j 0) cs.length) (3471 + 556 * q + 5) (nI t.length)) (3471 + 556 * q + 6) (fun j => nI (t.getD j 0)) t.length) (3471 + 556 * q + 26) (nI l)) (3471 + 556 * q + 27) (nI tr)) (3471 + 556 * q + 28) (nI le)) (3471 + 556 * q + 29) (nI a)) (3471 + 556 * q + 31) (-1)) 0 (nI (q + 1))
theorem gNQ_o {q z : Nat} {cs : List Int32} {t : List Nat} {l tr le a : Nat} (hc : cs.length ≤ 4) (ht : t.length ≤ 20) (h0 : z ≠ 0) (hz : z < 3471 + 556 * q ∨ 3471 + 556 * q + 556 ≤ z) : gNQ g q cs t l tr le a z = g z := by
  unfold gNQ
  simp only [upd, gC, gZ]
  repeat (first | rw [if_neg (by omega)])
theorem Rep.newQ {q : Nat} {cs : List Int32} {t : List Nat} {l tr le a : Nat} (h : Rep g A) (hq : (a_q A).length = q) (hq8 : q < 8) (hc : cs.length ≤ 4) (ht : t.length ≤ 20) : Rep (gNQ g q cs t l tr le a) (addQ A (newQ cs t l tr le a)) := by
  have e := fun (z : Nat) (h0 : z ≠ 0) (hz : z < 3471 + 556 * q ∨ 3471 + 556 * q + 556 ≤ z) => gNQ_o (g := g) (l := l) (tr := tr) (le := le) (a := a) hc ht h0 hz
  obtain ⟨⟨h1, h2, h3⟩, ⟨h4, h5, h6⟩, ⟨h7, h8, h9⟩, ⟨h10, h11, h12⟩, h13, h14, ⟨h15, h16, h17⟩, h18⟩ := h
  refine ⟨⟨?_, ?_, fun p y hp => ?_⟩, ⟨h4, ?_, fun c y hc => ?_⟩, ⟨h7, ?_, fun j y hj => ?_⟩, ⟨h10, ?_, fun i y hi => ?_⟩, ?_, ?_, ⟨h15, ?_, fun k c hk => ?_⟩, fun z hz => ?_⟩
  · show (a_q A ++ [_root_.Jvm.Pilot.CCreditBrokerLaw_law_r7779_a637e7.newQ cs t l tr le a]).length ≤ 8
    rw [List.length_append, hq]; exact hq8
  · show _ = nI (a_q A ++ [_root_.Jvm.Pilot.CCreditBrokerLaw_law_r7779_a637e7.newQ cs t l tr le a]).length
    rw [List.length_append, hq]
    show _ = nI (q + 1)
    unfold gNQ
    exact if_pos rfl
  · rcases app_or hp with ⟨rfl, rfl⟩ | ⟨hlt, hp⟩
    · rw [hq]
      refine ⟨⟨hc, ?_, fun k c hk => ?_⟩, ⟨by show (t.map nI).length ≤ 20; rw [List.length_map]; exact ht, ?_, fun k c hk => ?_⟩, ⟨?_, ?_, ?_, ?_, ?_, ?_⟩, ⟨?_, ?_, ?_⟩, ⟨Nat.zero_le 20, ?_, fun i l hi => by cases hi⟩⟩
      · unfold gNQ; simp only [upd, gC, gZ]; repeat (first | rw [if_pos trivial] | rw [if_neg (by omega)] | rw [if_pos (by omega)])
        rfl
      · have hk' : cs[k]? = some c := hk
        have := li hk'
        unfold gNQ; simp only [upd, gC, gZ]; repeat (first | rw [if_pos trivial] | rw [if_neg (by omega)] | rw [if_pos (by omega)])
        rw [show 3471 + 556 * q + (1 + k) - (3471 + 556 * q + 1) = k by omega, getD_of hk']
      · show _ = nI (t.map nI).length
        rw [List.length_map]
        unfold gNQ; simp only [upd, gC, gZ]; repeat (first | rw [if_pos trivial] | rw [if_neg (by omega)] | rw [if_pos (by omega)])
      · have hk' : (t.map nI)[k]? = some c := hk
        rw [List.getElem?_map] at hk'
        cases hb : t[k]? with
        | none => rw [hb] at hk'; cases hk'
        | some b =>
          rw [hb] at hk'
          have hc' : nI b = c := Option.some.inj hk'
          have := li hb
          unfold gNQ; simp only [upd, gC, gZ]; repeat (first | rw [if_pos trivial] | rw [if_neg (by omega)] | rw [if_pos (by omega)])
          rw [show 3471 + 556 * q + (6 + k) - (3471 + 556 * q + 6) = k by omega, getD_of hb]
          exact hc'
      all_goals (unfold gNQ; simp only [upd, gC, gZ]; repeat (first | rw [if_pos trivial] | rw [if_neg (by omega)] | rw [if_pos (by omega)]))
      all_goals first | done | rfl
    · exact (h3 p y hp).fr (fun z h1 h2 => e z (by omega) (by omega))
  · rw [e 1 (by omega) (by omega)]; exact h5
  · have : c < 10 := Nat.lt_of_lt_of_le (li ‹_›) h4
    exact (h6 c y ‹_›).fr (fun z h1 h2 => e z (by omega) (by omega))
  · rw [e 2 (by omega) (by omega)]; exact h8
  · have : j < 300 := Nat.lt_of_lt_of_le (li hj) h7
    exact (h9 j y hj).fr (fun z h1 h2 => e z (by omega) (by omega))
  · rw [e 3 (by omega) (by omega)]; exact h11
  · have : i < 30 := Nat.lt_of_lt_of_le (li hi) h10
    exact (h12 i y hi).fr (fun z h1 h2 => e z (by omega) (by omega))
  · rw [e 4 (by omega) (by omega)]; exact h13
  · rw [e 5 (by omega) (by omega)]; exact h14
  · rw [e 6 (by omega) (by omega)]; exact h16
  · have : k < 4 := Nat.lt_of_lt_of_le (li hk) h15
    rw [e _ (by omega) (by omega)]; exact h17 k c hk
  · rw [e _ (by omega) (by omega)]; exact h18 z hz
theorem Wf.newQ {cs : List Int32} {t : List Nat} {l tr le a : Nat} (w : Wf T A) (hc : 1 ≤ cs.length) (hP : WfP cs) (h1 : 1 ≤ l ∧ l ≤ 20) (h2 : 1 ≤ tr ∧ tr ≤ 5) (h3 : 1 ≤ le ∧ le ≤ 99) (h4 : a ≤ 999) : Wf T (addQ A (newQ cs t l tr le a)) := by
  obtain ⟨w1, w2, w3, w4, w5, w6, w7⟩ := w
  have hl : (a_q (addQ A (_root_.Jvm.Pilot.CCreditBrokerLaw_law_r7779_a637e7.newQ cs t l tr le a))).length = (a_q A).length + 1 := by
    show (a_q A ++ [_]).length = _
    rw [List.length_append]; rfl
  refine ⟨w1, fun p y hp => ?_, fun c k hk => ?_, w4, fun j d hj => ?_, w6, w7⟩
  · rcases app_or hp with ⟨_, rfl⟩ | ⟨_, hp⟩
    · exact ⟨⟨hc, hP⟩, h1, h2, h3, h4, Nat.zero_le 1, Nat.zero_le _, Nat.zero_le _, fun i l hi => (by cases hi), fun i j l l' _ hi => (by cases hi)⟩
    · exact w2 p y hp
  · obtain ⟨a1, a2⟩ := w3 c k hk
    exact ⟨by rw [hl]; omega, a2⟩
  · obtain ⟨a1, a2, a3, a4, a5, a6⟩ := w5 j d hj
    refine ⟨a1, by rw [hl]; omega, a3, a4, a5, fun z j2 y hz hy => ?_⟩
    rcases app_or hz with ⟨_, rfl⟩ | ⟨_, hz⟩
    · cases hy
    · exact a6 z j2 y hz hy

theorem s_queue (h : RR M r S) (w : WfS T S) (hT : T + 100 < 2 ^ 20) (l tr le ag : Int32) (k : ∀ M' : Mm, Fr r M M' → RR M' r (fQueue S l tr le ag).2 → WfS (T + 99) (fQueue S l tr le ag).2 → Q (some (.int (fQueue S l tr le ag).1)) M') : J E 178 0 [.ref r, .int l, .int tr, .int le, .int ag, U0, U0, U0] [] M Q := by
  obtain ⟨g, hg⟩ : ∃ g, mI M (r + 1) = g := ⟨_, rfl⟩
  have hS := h.1
  have hA := h.a
  rw [hg] at hA
  rw [show M = wI M (r + 1) g by rw [← hg, wI_id]]
  have kR : ∀ (v : Nat) (x : Int32), fQueue S l tr le ag = rfS S v → x = rfN v → Q (some (.int x)) (wI (rfM M r v) (r + 1) g) := fun v x e ex => by
    rw [e] at k; rw [ex]; exact k _ (Fr.rf hg) (h.rf hg v) (w.rf hT)
  have kO : ∀ (a : Int32) (S' : St) (M' : Mm), fQueue S l tr le ag = (a, S') → Fr r M M' → RR M' r S' → WfS (T + 99) S' → Q (some (.int a)) M' := fun a S' M' e => by
    rw [e] at k; exact k M'
  have ht := h.t
  refine J_p 4 (ls' := [_, _, _, _, _, _, _, _]) rfl ?_
  refine J_call rfl rfl rfl rfl rfl (c_inA (x := l) (a := 1) (b := 20) (by decide) (by decide) (fun l' h6 e6 la6 lb6 => ?_) (fun h6 => ?_))
  · skip
    subst e6
    show J _ _ _ _ _ _ _
    refine J_zeq rfl (fun b => absurd b (by decide)) (fun _ => ?_)
    refine J_p 4 (ls' := [_, _, _, _, _, _, _, _]) rfl ?_
    refine J_call rfl rfl rfl rfl rfl (c_inA (x := tr) (a := 1) (b := 5) (by decide) (by decide) (fun tr' h18 e18 la18 lb18 => ?_) (fun h18 => ?_))
    · skip
      subst e18
      show J _ _ _ _ _ _ _
      refine J_zeq rfl (fun b => absurd b (by decide)) (fun _ => ?_)
      refine J_p 4 (ls' := [_, _, _, _, _, _, _, _]) rfl ?_
      refine J_call rfl rfl rfl rfl rfl (c_inA (x := le) (a := 1) (b := 99) (by decide) (by decide) (fun le' h30 e30 la30 lb30 => ?_) (fun h30 => ?_))
      · skip
        subst e30
        show J _ _ _ _ _ _ _
        refine J_zeq rfl (fun b => absurd b (by decide)) (fun _ => ?_)
        refine J_p 4 (ls' := [_, _, _, _, _, _, _, _]) rfl ?_
        refine J_call rfl rfl rfl rfl rfl (c_inZ0 (x := ag) (b := 999) (b1 := 1000) (by decide) rfl (fun a' h43 l43 e43 => ?_) (fun h43 => ?_))
        · skip
          subst e43
          show J _ _ _ _ _ _ _
          refine J_zne rfl (fun _ => ?_) (fun b => absurd b (by decide))
          refine J_p 2 (ls' := [_, _, _, _, _, _, _, _]) rfl ?_
          refine J_call rfl rfl rfl (decide_eq_true hS.t) rfl (c_isReadA hS ht (w := true) (wv := nI 1) (fun y => absurd y (by decide)) (fun _ => rfl) (fun M' fl hs e h8' => ?_) (fun M' cs hs e h10' hc' => ?_))
          · show J _ _ _ _ _ _ _
            have hS' := hs.rs hS
            refine J_zne rfl (fun b => absurd rfl b) (fun _ => ?_)
            refine J_p 1 (ls' := [_, _, _, _, _, _, _, _]) rfl ?_
            refine J_call rfl rfl rfl (decide_eq_true hS'.t) rfl (c_faultyS (f := fl) hS' (h.sc hs hA) h8' (fun M2 hf2 h2 => ?_))
            show J _ _ _ _ _ _ _
            exact J_ret rfl rfl rfl (kO _ (z_f (z_t S []) 0) _ (by simp only [fQueue, h6, h18, h30, h43, e]; rfl) ((Fr.sc hs).trans hf2) h2 (WfS.mono (show WfS T (z_f (z_t S []) 0) from w) (by omega) (by omega)))
          · show J _ _ _ _ _ _ _
            have hS' := hs.rs hS
            obtain ⟨⟨c1, c4⟩, t19, cP⟩ := paA_P e
            have hq0 := hA.1.2.1
            have q8 := hA.1.1
            have ht' := ht.sc hs
            have h10 : mI (sI M' r 7 (nI 0)) r 10 = nI cs.length := by rw [mI_s0, if_neg (by omega)]; exact h10'
            have hc7 : ∀ (k : Nat) (c : Int32), cs[k]? = some c → mI (sI M' r 7 (nI 0)) (r + 7) k = c := fun k c hk => by rw [mI_s1 _ _ _ (by omega)]; exact hc' k c hk
            have ht6 : ∀ (k : Nat) (b : Nat), (s_t S)[k]? = some b → mI (sI M' r 7 (nI 0)) (r + 6) k = nI b := fun k b hk => by rw [mI_s1 _ _ _ (by omega)]; exact (ht'.2.2 k b hk).2
            have h1 := (h.sc hs hA).tape0 (g := g) (mI_same _ _ _)
            have e1 : wI (sI (wI M' (r + 1) g) r 7 (nI 0)) (r + 1) g = wI (sI M' r 7 (nI 0)) (r + 1) g := by rw [sI_wo _ _ _ _ (by omega), wI_wI]
            rw [e1] at h1
            have hfX : ∀ X : Nat → Int32, Fr r M (wI (sI M' r 7 (nI 0)) (r + 1) X) := fun X => ((Fr.sc hs).trans (Fr.six _ _ _ (by omega) (by omega))).trans (Fr.g0 X)
            have hS1 : RS (sI M' r 7 (nI 0)) r := hS'
            refine J_zne rfl (fun _ => ?_) (fun b => absurd b (by decide))
            refine J_p 1 (ls' := [_, _, _, _, _, _, _, _]) rfl ?_
            refine J_oget rfl hS'.t ⟨by omega, ht'.2.1⟩ ?_
            refine J_p 3 (ls' := [_, _, _, _, _, _, _, _]) rfl ?_
            refine J_oput rfl hS'.t (Or.inl rfl) ?_
            refine J_p 1 (ls' := [_, _, _, _, _, _, _, _]) rfl ?_
            refine J_getR rfl hS'.t hS'.f0 ?_
            refine J_p 1 (ls' := [_, _, _, _, _, _, _, _]) rfl ?_
            refine J_gld (n := 0) rfl rfl hS1 (by omega) hq0 ?_
            refine J_p 3 (ls' := [_, _, _, _, _, _, _, _]) rfl ?_
            refine J_ine rfl (fun b92 => ?_) (fun b92 => ?_)
            · have e8 : ¬ (a_q (s_a S)).length = 8 := fun y => b92 (by rw [y])
              refine J_p 2 (ls' := [_, _, _, _, _, _, _, _]) rfl ?_
              have eZ : gZ g (a_q (s_a S)).length 0 = g := by funext z; unfold gZ; rw [if_neg (by omega)]
              refine J_M (congrArg (wI _ (r + 1)) eZ.symm) ?_
              refine c_qu_z (E := E) (M := sI M' r 7 (nI 0)) hS1 (by omega) ?_ 556 0 rfl trivial
              refine J_p 4 (ls' := [_, _, _, _, _, _, _, _]) rfl ?_
              refine J_oget rfl hS1.t ⟨by omega, h10⟩ ?_
              refine J_call rfl rfl rfl (decide_eq_true hS1.t) rfl (c_is hS1 (a_q (s_a S)).length 0 _ (by omega) ?_)
              show J _ _ _ _ _ _ _
              refine J_p 2 (ls' := [_, _, _, _, _, _, _, _]) rfl ?_
              refine J_M (congrArg (wI _ (r + 1)) (gC_0 (a := 3471 + 556 * (a_q (s_a S)).length + 1) (f := fun j => cs.getD j 0)).symm) ?_
              refine c_qu_c (E := E) (M := sI M' r 7 (nI 0)) hS1 (by omega) c4 h10 hc7 ?_ cs.length 0 (by omega) trivial
              refine J_p 4 (ls' := [_, _, _, _, _, _, _, _]) rfl ?_
              refine J_call rfl rfl rfl (decide_eq_true hS1.t) rfl (c_is hS1 (a_q (s_a S)).length 5 _ (by omega) ?_)
              show J _ _ _ _ _ _ _
              refine J_p 2 (ls' := [_, _, _, _, _, _, _, _]) rfl ?_
              refine J_M (congrArg (wI _ (r + 1)) (gC_0 (a := 3471 + 556 * (a_q (s_a S)).length + 6) (f := fun j => nI ((s_t S).getD j 0))).symm) ?_
              refine c_qu_s (E := E) (M := sI M' r 7 (nI 0)) hS1 (by omega) (t := s_t S) (by omega) rfl ht6 ?_ (s_t S).length 0 (by omega) trivial
              refine J_p 4 (ls' := [_, _, _, _, _, _, _, _]) rfl ?_
              refine J_call rfl rfl rfl (decide_eq_true hS1.t) rfl (c_is hS1 (a_q (s_a S)).length 26 _ (by omega) ?_)
              show J _ _ _ _ _ _ _
              refine J_p 4 (ls' := [_, _, _, _, _, _, _, _]) rfl ?_
              refine J_call rfl rfl rfl (decide_eq_true hS1.t) rfl (c_is hS1 (a_q (s_a S)).length 27 _ (by omega) ?_)
              show J _ _ _ _ _ _ _
              refine J_p 4 (ls' := [_, _, _, _, _, _, _, _]) rfl ?_
              refine J_call rfl rfl rfl (decide_eq_true hS1.t) rfl (c_is hS1 (a_q (s_a S)).length 28 _ (by omega) ?_)
              show J _ _ _ _ _ _ _
              refine J_p 4 (ls' := [_, _, _, _, _, _, _, _]) rfl ?_
              refine J_call rfl rfl rfl (decide_eq_true hS1.t) rfl (c_is hS1 (a_q (s_a S)).length 29 _ (by omega) ?_)
              show J _ _ _ _ _ _ _
              refine J_p 4 (ls' := [_, _, _, _, _, _, _, _]) rfl ?_
              refine J_call rfl rfl rfl (decide_eq_true hS1.t) rfl (c_is hS1 (a_q (s_a S)).length 31 _ (by omega) ?_)
              show J _ _ _ _ _ _ _
              refine J_p 1 (ls' := [_, _, _, _, _, _, _, _]) rfl ?_
              refine J_getR rfl hS1.t hS1.f0 ?_
              refine J_p 4 (ls' := [_, _, _, _, _, _, _, _]) rfl ?_
              refine J_gst (n := 0) rfl rfl hS1 (by omega) ?_
              refine J_p 1 (ls' := [_, _, _, _, _, _, _, _]) rfl ?_
              have hN := hA.newQ (cs := cs) (t := s_t S) (l := l') (tr := tr') (le := le') (a := a') rfl (by omega) c4 (by omega)
              have h2 := h1.gg hN
              rw [wI_wI] at h2
              have eG : ∀ x y : Int32, x = y → upd (upd (upd (upd (upd (upd (gC (upd (gC (upd (gZ g (a_q (s_a S)).length 556) (3471 + 556 * (a_q (s_a S)).length + 0) (nI cs.length)) (3471 + 556 * (a_q (s_a S)).length + 1) (fun j => cs.getD j 0) cs.length) (3471 + 556 * (a_q (s_a S)).length + 5) (nI (s_t S).length)) (3471 + 556 * (a_q (s_a S)).length + 6) (fun j => nI ((s_t S).getD j 0)) (s_t S).length) (3471 + 556 * (a_q (s_a S)).length + 26) (nI l')) (3471 + 556 * (a_q (s_a S)).length + 27) (nI tr')) (3471 + 556 * (a_q (s_a S)).length + 28) (nI le')) (3471 + 556 * (a_q (s_a S)).length + 29) (nI a')) (3471 + 556 * (a_q (s_a S)).length + 31) (-1)) 0 x = upd (upd (upd (upd (upd (upd (gC (upd (gC (upd (gZ g (a_q (s_a S)).length 556) (3471 + 556 * (a_q (s_a S)).length + 0) (nI cs.length)) (3471 + 556 * (a_q (s_a S)).length + 1) (fun j => cs.getD j 0) cs.length) (3471 + 556 * (a_q (s_a S)).length + 5) (nI (s_t S).length)) (3471 + 556 * (a_q (s_a S)).length + 6) (fun j => nI ((s_t S).getD j 0)) (s_t S).length) (3471 + 556 * (a_q (s_a S)).length + 26) (nI l')) (3471 + 556 * (a_q (s_a S)).length + 27) (nI tr')) (3471 + 556 * (a_q (s_a S)).length + 28) (nI le')) (3471 + 556 * (a_q (s_a S)).length + 29) (nI a')) (3471 + 556 * (a_q (s_a S)).length + 31) (-1)) 0 y := fun x y e => by rw [e]
              refine J_M (congrArg (wI _ (r + 1)) (eG _ _ (nI_add (a_q (s_a S)).length 1))) ?_
              exact J_ret rfl rfl rfl (kO _ _ _ (by simp only [fQueue, h6, h18, h30, h43, e, if_neg e8]; first | done | rfl) (hfX _) h2 (WfS.a (S := z_t S []) w hT ((w.1.newQ c1 cP ⟨la6, lb6⟩ ⟨la18, lb18⟩ ⟨la30, lb30⟩ (by omega)).mono (by omega) (by omega)) (Nat.le_refl _)))
            · have e8 : (a_q (s_a S)).length = 8 := (nI_eq (by omega) (by omega)).mp b92
              have h2 := h1.rf (g := g) (mI_same _ _ _) 4
              rw [rfM_w, wI_wI] at h2
              refine J_p 2 (ls' := [_, _, _, _, _, _, _, _]) rfl ?_
              refine J_call rfl rfl rfl (decide_eq_true hS1.t) rfl (c_refused hS1 4 (by decide) (by decide) ?_)
              show J _ _ _ _ _ _ _
              refine J_ret rfl rfl rfl ?_
              rw [show (-86 : Int32) = rfN 4 from by decide]
              exact (kO (rfN 4) (z_f (z_t S []) 4) _ (by simp only [fQueue, h6, h18, h30, h43, e, if_pos e8]; rfl) (((Fr.sc hs).trans (Fr.six _ _ _ (by omega) (by omega))).trans ((Fr.six _ _ _ (by omega) (by omega)).trans (Fr.g0 _))) h2 (WfS.mono (show WfS T (z_f (z_t S []) 4) from w) (by omega) (by omega)))
        · skip
          show J _ _ _ _ _ _ _
          refine J_zne rfl (fun b => absurd rfl b) (fun _ => ?_)
          refine J_p 2 (ls' := [_, _, _, _, _, _, _, _]) rfl ?_
          refine J_call rfl rfl rfl (decide_eq_true hS.t) rfl (c_refused hS 0 (by decide) (by decide) ?_)
          show J _ _ _ _ _ _ _
          exact J_ret rfl rfl rfl (kR 0 _ (by simp only [fQueue, h6, h18, h30, h43, if_true, if_false, reduceIte]) (by decide))
      · skip
        show J _ _ _ _ _ _ _
        refine J_zeq rfl (fun _ => ?_) (fun b => absurd rfl b)
        refine J_p 2 (ls' := [_, _, _, _, _, _, _, _]) rfl ?_
        refine J_call rfl rfl rfl (decide_eq_true hS.t) rfl (c_refused hS 0 (by decide) (by decide) ?_)
        show J _ _ _ _ _ _ _
        exact J_ret rfl rfl rfl (kR 0 _ (by simp only [fQueue, h6, h18, h30, if_true, if_false, reduceIte]) (by decide))
    · skip
      show J _ _ _ _ _ _ _
      refine J_zeq rfl (fun _ => ?_) (fun b => absurd rfl b)
      refine J_p 2 (ls' := [_, _, _, _, _, _, _, _]) rfl ?_
      refine J_call rfl rfl rfl (decide_eq_true hS.t) rfl (c_refused hS 0 (by decide) (by decide) ?_)
      show J _ _ _ _ _ _ _
      exact J_ret rfl rfl rfl (kR 0 _ (by simp only [fQueue, h6, h18, if_true, if_false, reduceIte]) (by decide))
  · skip
    show J _ _ _ _ _ _ _
    refine J_zeq rfl (fun _ => ?_) (fun b => absurd rfl b)
    refine J_p 2 (ls' := [_, _, _, _, _, _, _, _]) rfl ?_
    refine J_call rfl rfl rfl (decide_eq_true hS.t) rfl (c_refused hS 0 (by decide) (by decide) ?_)
    show J _ _ _ _ _ _ _
    exact J_ret rfl rfl rfl (kR 0 _ (by simp only [fQueue, h6, if_true, if_false, reduceIte]) (by decide))

end PUB19