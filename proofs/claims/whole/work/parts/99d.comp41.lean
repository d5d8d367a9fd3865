/-! THE COMPONENT'S WHOLE STATE. -/
def ShS (M : Mm) (a : Nat) : Prop := mT M a = 7 ∧ mR M a 0 = some (a + 1) ∧ mT M (a + 1) = 21 ∧ mS M (a + 1) = 40
def ShC (M : Mm) (a : Nat) : Sh → Prop
  | none => mI M a 1 = -1 ∧ mR M a 3 = none
  | some (.inl (so, els)) => so ≤ 4 ∧ els.length ≤ 40 ∧ mI M a 1 = nI so ∧ mI M a 2 = nI els.length ∧ mR M a 3 = none ∧ ∀ (k : Nat) (v : Int64), els[k]? = some v → mL M (a + 1) k = v
  | some (.inr c) => mI M a 1 = -1 ∧ ∃ p n, mR M a 3 = some p ∧ mT M p = 0 ∧ p < mN M ∧ CaF M p c ∧ (3 ≤ n ∧ n ≤ 6) ∧ c.1 = nI n
def BS (M : Mm) (b : Nat) : Prop := (mT M b = 10 ∧ mR M b 0 = some (b + 1) ∧ mR M b 1 = some (b + 254) ∧ mR M b 2 = some (b + 256) ∧ mR M b 3 = some (b + 260) ∧ mR M b 4 = some (b + 259)) ∧ TS M (b + 254) ∧ PS M (b + 256) ∧ (mT M (b + 259) = 20 ∧ mS M (b + 259) = 5) ∧ (mT M (b + 260) = 29 ∧ mS M (b + 260) = 8 ∧ ∀ s, s < 8 → mR M (b + 260) s = some (b + 261 + 2 * s) ∧ ShS M (b + 261 + 2 * s)) ∧ b + 290 ≤ mN M
def KW (M : Mm) (b : Nat) (K : Option Ab) : Prop := (K = none → mR M b 5 = none) ∧ ∀ B, K = some B → ∃ (w' : Nat) (o : Nat → Nat) (F : Nat → Nat → Nat), mR M b 5 = some w' ∧ b + 290 ≤ w' ∧ OS M w' (w' + 1) (b + 2) o F ∧ OC M w' (w' + 1) (b + 2) o F B
def CR (M : Mm) (b : Nat) (S : St) : Prop := BS M b ∧ (∃ (o : Nat → Nat) (F : Nat → Nat → Nat), OS M (b + 1) (b + 8) (b + 2) o F ∧ OC M (b + 1) (b + 8) (b + 2) o F (s_a S)) ∧ TC M (b + 254) (s_t S) ∧ (∀ w, w < 5 → mI M (b + 259) w = s_f S w) ∧ (∀ s, s < 8 → ShC M (b + 261 + 2 * s) (s_h S s)) ∧ KW M b (s_k S)
/-- what an act of the component may change -/
def Cw (b z : Nat) : Prop := (b ≤ z ∧ z < b + 277) ∨ b + 290 ≤ z
def pNS (S : St) : Nat := phA (s_a S) + (match s_k S with
  | none => 247
  | some _ => 0)
def pUS (S : St) : Nat := match s_k S with
  | none => 1000
  | some _ => 0
def Ck (b : Nat) (M M' : Mm) (S S' : St) : Prop := Fm (Cw b) M M' ∧ mN M' + pNS S' ≤ mN M + pNS S + 480 ∧ mU M' + pUS S' + 6 * mN M ≤ mU M + pUS S + 6 * mN M'
theorem lfS_l {f : Ab → Rs} {S : St} {w : Nat} (h : f (s_a S) = .inl w) : lfS f S = (rfN w, z_f S w) := by
  unfold lfS
  rw [h]
  rfl
theorem lfS_r {f : Ab → Rs} {S : St} {a : Int32} {B : Ab} (h : f (s_a S) = .inr (a, B)) : lfS f S = (a, z_a S B) := by
  unfold lfS
  rw [h]
section COMP41
variable {E : Nat × Nat} {M M' : Mm} {W : Nat → Prop} {Q : Option Value → Mm → Prop} {a b w i n T : Nat} {S S' : St} {B : Ab} {v : Sh}
theorem Ck.nw (hF : Fm (Cw b) M M') (h : Nw M M') (e : phA (s_a S') ≤ phA (s_a S) + 480) (ek : s_k S' = s_k S) : Ck b M M' S S' := by
  obtain ⟨_, h2, h3⟩ := h
  refine ⟨hF, ?_, ?_⟩
  · unfold pNS
    rw [ek, h2]
    omega
  · unfold pUS
    rw [ek, h2, h3]
    omega
theorem Ck.refl (b : Nat) (M : Mm) (S : St) : Ck b M M S S := Ck.nw (Fm.refl _ M) ⟨rfl, rfl, rfl⟩ (by omega) rfl
theorem ShC.fr (h : ShC M a v) (hn : mN M ≤ mN M') (eI : mI M' a = mI M a) (eR : mR M' a = mR M a) (eL : mL M' (a + 1) = mL M (a + 1)) (eC : ∀ p, p < mN M → mT M p = 0 → mT M' p = 0 ∧ mI M' p = mI M p) : ShC M' a v := by
  match v, h with
  | none, h => exact ⟨by rw [eI]; exact h.1, by rw [eR]; exact h.2⟩
  | some (.inl (so, els)), h =>
    obtain ⟨a1, a2, a3, a4, a5, a6⟩ := h
    exact ⟨a1, a2, by rw [eI]; exact a3, by rw [eI]; exact a4, by rw [eR]; exact a5, by rw [eL]; exact a6⟩
  | some (.inr c), h =>
    obtain ⟨a1, p, n, a2, a3, a4, a5, a6⟩ := h
    obtain ⟨e1, e2⟩ := eC p a4 a3
    refine ⟨by rw [eI]; exact a1, p, n, by rw [eR]; exact a2, e1, by omega, ?_, a6⟩
    unfold CaF at a5 ⊢
    rw [e2]
    exact a5
theorem ShC.fm (h : ShC M a v) (hF : Fm W M M') (ha : a + 1 < mN M) (h0 : ¬ W a) (h1 : ¬ W (a + 1)) : ShC M' a v := by
  obtain ⟨_, e1, _, e2⟩ := hF.2.2 a (by omega) (Or.inl h0)
  obtain ⟨_, _, e3, _⟩ := hF.2.2 (a + 1) (by omega) (Or.inl h1)
  refine h.fr hF.1 e1 e2 e3 (fun p hp ht => ⟨by rw [(hF.T hp).1]; exact ht, ?_⟩)
  exact (hF.2.2 p hp (Or.inr (by rw [ht]; exact Or.inl rfl))).2.1
theorem BS.fm (h : BS M b) (hF : Fm W M M') (h0 : mR M' b 0 = mR M b 0 ∧ mR M' b 1 = mR M b 1 ∧ mR M' b 2 = mR M b 2 ∧ mR M' b 3 = mR M b 3 ∧ mR M' b 4 = mR M b 4) (h1 : ∀ z, b + 254 ≤ z → z < b + 277 → mR M' z 0 = mR M z 0 ∧ mR M' z 1 = mR M z 1) (h2 : mR M' (b + 256) = mR M (b + 256)) (h3 : mR M' (b + 260) = mR M (b + 260)) : BS M' b := by
  obtain ⟨⟨a1, a2, a3, a4, a5, a6⟩, ⟨t1, t2, t3, t4⟩, p, ⟨f1, f2⟩, ⟨s1, s2, s3⟩, n⟩ := h
  have eT : ∀ z, z < b + 290 → mT M' z = mT M z := fun z hz => (hF.T (by omega)).1
  have eS : ∀ z, z < b + 290 → mS M' z = mS M z := fun z hz => (hF.T (by omega)).2
  refine ⟨⟨by rw [eT _ (by omega)]; exact a1, by rw [h0.1]; exact a2, by rw [h0.2.1]; exact a3, by rw [h0.2.2.1]; exact a4, by rw [h0.2.2.2.1]; exact a5, by rw [h0.2.2.2.2]; exact a6⟩, ⟨by rw [eT _ (by omega)]; exact t1, by rw [(h1 _ (by omega) (by omega)).1]; exact t2, by rw [eT _ (by omega)]; exact t3, by rw [eS _ (by omega)]; exact t4⟩, p.fr (hF.2.1 _ (by omega)) (hF.2.1 _ (by omega)) (hF.2.1 _ (by omega)) h2, ⟨by rw [eT _ (by omega)]; exact f1, by rw [eS _ (by omega)]; exact f2⟩, ⟨by rw [eT _ (by omega)]; exact s1, by rw [eS _ (by omega)]; exact s2, fun s hs => ?_⟩, by have := hF.1; omega⟩
  obtain ⟨u1, u2, u3, u4, u5⟩ := s3 s hs
  exact ⟨by rw [h3]; exact u1, by rw [eT _ (by omega)]; exact u2, by rw [(h1 _ (by omega) (by omega)).1]; exact u3, by rw [eT _ (by omega)]; exact u4, by rw [eS _ (by omega)]; exact u5⟩
/-- the image's world and the present one, where an act changed other cells -/
theorem KW.fm {K : Option Ab} (h : KW M b K) (hb : b + 290 ≤ mN M) (hF : Fm W M M') (h5 : mR M' b 5 = mR M b 5) (hW : ∀ z, (b + 290 ≤ z ∨ (b + 2 ≤ z ∧ z ≤ b + 7)) → ¬ W z) : KW M' b K := by
  refine ⟨fun e => by rw [h5]; exact h.1 e, fun B e => ?_⟩
  obtain ⟨w', o, F, k1, k2, k3, k4⟩ := h.2 B e
  exact ⟨w', o, F, by rw [h5]; exact k1, k2, k3.oth hF (fun z hz => hW z (by unfold Ww at hz; omega)), OC.oth k3 k4 hF (fun z hz => hW z (by unfold Ww at hz; omega))⟩
theorem MsC.pre {g : Nat} {ms R : List Ma} (h : MsC M g (ms ++ R)) : MsC M g ms := by
  refine ⟨?_, fun m y hy => h.2 m y ?_⟩
  · have := h.1
    rw [List.length_append] at this
    omega
  · rw [List.getElem?_append_left (li hy)]
    exact hy
/-- a change in the world -/
theorem CR.wld (h : CR M b S) (hF : Fm (Wm (b + 1) (b + 8) (b + 2)) M M') {o : Nat → Nat} {F : Nat → Nat → Nat} (hS : OS M' (b + 1) (b + 8) (b + 2) o F) (hC : OC M' (b + 1) (b + 8) (b + 2) o F B) (hm : ∀ K, s_k S = some K → ∃ R, a_m B = a_m K ++ R) : CR M' b (z_a S B) := by
  obtain ⟨h1, _, h3, h4, h5, h6⟩ := h
  have hn := h1.2.2.2.2.2
  have e : ∀ z, z < b + 290 → (z = b ∨ b + 254 ≤ z) → Sm M M' z := fun z hz hz2 => hF.2.2 z (by omega) (Or.inl (by unfold Wm Ww; omega))
  refine ⟨h1.fm hF ?_ (fun z z1 z2 => ?_) ?_ ?_, ⟨o, F, hS, hC⟩, ?_, fun w hw => ?_, fun s hs => ?_, fun ek => ?_, fun K ek => ?_⟩
  · rw [(e b (by omega) (Or.inl rfl)).2.2.2]
    exact ⟨rfl, rfl, rfl, rfl, rfl⟩
  · rw [(e z (by omega) (Or.inr z1)).2.2.2]
    exact ⟨rfl, rfl⟩
  · rw [(e (b + 256) (by omega) (Or.inr (by omega))).2.2.2]
  · rw [(e (b + 260) (by omega) (Or.inr (by omega))).2.2.2]
  · refine ⟨by rw [(e (b + 254) (by omega) (Or.inr (by omega))).2.1]; exact h3.1, h3.2.1, fun k y hk => ?_⟩
    rw [(e (b + 254 + 1) (by omega) (Or.inr (by omega))).2.1]
    exact h3.2.2 k y hk
  · rw [(e (b + 259) (by omega) (Or.inr (by omega))).2.1]
    exact h4 w hw
  · exact (h5 s hs).fm hF (by omega) (by unfold Wm Ww; omega) (by unfold Wm Ww; omega)
  · rw [(e b (by omega) (Or.inl rfl)).2.2.2]
    exact h6.1 ek
  · obtain ⟨w', o', F', k1, k2, k3, k4⟩ := h6.2 K ek
    obtain ⟨R, hR⟩ := hm K ek
    have hMs := hC.mc
    rw [hR] at hMs
    refine ⟨w', o', F', by rw [(e b (by omega) (Or.inl rfl)).2.2.2]; exact k1, k2, k3.oth hF (fun z hz => by unfold Ww at hz; unfold Wm Ww; omega), ?_⟩
    exact ((OC.po (nq := 8) (nc := 10) (nd := 30) k4).fr k3 k4.2.1.2 k4.2.2.1.2 k4.2.2.2.1.2 hF (by unfold Wm Ww; omega) (fun z z1 z2 => by unfold Wm Ww; omega) (fun q q1 z z1 => by unfold Qw at z1; unfold Wm Ww; omega) (fun c c1 => by unfold Wm Ww; omega) (fun i i1 i2 => by unfold Wm Ww; omega)).oc k4.2.1.2 k4.2.2.1.2 k4.2.2.2.1.2 k4.2.1.2 k4.2.2.1.2 k4.2.2.2.1.2 hMs.pre
/-- a change of cells of the object itself, not of the world, not of shelves -/
theorem CR.own (h : CR M b S) (hF : Fm W M M') (hW : ∀ z, W z → z = b + 254 ∨ z = b + 255 ∨ (b + 256 ≤ z ∧ z ≤ b + 258) ∨ z = b + 259) (hR : mR M' = mR M) (ht : TC M' (b + 254) (s_t S')) (hf : ∀ w, w < 5 → mI M' (b + 259) w = s_f S' w) (ea : s_a S' = s_a S) (ek : s_k S' = s_k S) (eh : s_h S' = s_h S) : CR M' b S' := by
  obtain ⟨h1, ⟨o, F, hS, hC⟩, h3, h4, h5, h6⟩ := h
  have hn := h1.2.2.2.2.2
  have nW : ∀ z, (z < b + 254 ∨ b + 260 ≤ z) → ¬ W z := fun z hz hw => by have := hW z hw; omega
  refine ⟨h1.fm hF (by rw [hR]; exact ⟨rfl, rfl, rfl, rfl, rfl⟩) (fun z _ _ => by rw [hR]; exact ⟨rfl, rfl⟩) (by rw [hR]) (by rw [hR]), ⟨o, F, hS.oth hF (fun z hz => nW z (by unfold Ww at hz; omega)), ?_⟩, ht, hf, fun s hs => ?_, ?_⟩
  · rw [ea]
    exact OC.oth hS hC hF (fun z hz => nW z (by unfold Ww at hz; omega))
  · rw [eh]
    exact (h5 s hs).fm hF (by omega) (nW _ (by omega)) (nW _ (by omega))
  · rw [ek]
    exact h6.fm hn hF (by rw [hR]) (fun z hz => nW z (by omega))
/-- the reference's acts -/
theorem Fr.fm {r : Nat} (h : Fr r M M') (hr : ∀ z, r ≤ z → z ≤ r + 12 → ¬ rO (mT M z)) : Fm (fun z => r ≤ z ∧ z ≤ r + 12) M M' := by
  obtain ⟨h1, h2, h3, h4, h5⟩ := h
  refine ⟨by rw [h3]; exact Nat.le_refl _, fun a _ => by rw [h1], fun a ha hw => ?_⟩
  have hx : a < r ∨ r + 12 < a := by
    rcases hw with hw | hw
    · omega
    · by_cases c : r ≤ a ∧ a ≤ r + 12
      · exact absurd hw (hr a c.1 c.2)
      · omega
  exact ⟨by rw [h1], (h5 a hx).1, (h5 a hx).2, by rw [h2]⟩
theorem CR.ref (h : CR M b S) (hF : Fr (b + 277) M M') (hr : ∀ z, b + 277 ≤ z → z ≤ b + 277 + 12 → ¬ rO (mT M z)) : CR M' b S := by
  obtain ⟨h1, ⟨o, F, hS, hC⟩, h3, h4, h5, h6⟩ := h
  have hn := h1.2.2.2.2.2
  have hR := hF.2.1
  have hF2 := hF.fm hr
  have hI : ∀ z, z < b + 277 → mI M' z = mI M z := fun z hz => (hF.2.2.2.2 z (Or.inl hz)).1
  refine ⟨h1.fm hF2 (by rw [hR]; exact ⟨rfl, rfl, rfl, rfl, rfl⟩) (fun z _ _ => by rw [hR]; exact ⟨rfl, rfl⟩) (by rw [hR]) (by rw [hR]), ⟨o, F, hS.oth hF2 (fun z hz => by unfold Ww at hz; omega), OC.oth hS hC hF2 (fun z hz => by unfold Ww at hz; omega)⟩, ⟨by rw [hI _ (by omega)]; exact h3.1, h3.2.1, fun k y hk => by rw [hI _ (by omega)]; exact h3.2.2 k y hk⟩, fun w hw => by rw [hI _ (by omega)]; exact h4 w hw, fun s hs => (h5 s hs).fm hF2 (by omega) (by omega) (by omega), h6.fm hn hF2 (by rw [hR]) (fun z hz => by omega)⟩
theorem c_refuse (h : CR M b S) (hw : w < 5) {v : Int32} (hv : v = rfN w) (K : ∀ M' : Mm, Ck b M M' S (z_f S w) → CR M' b (z_f S w) → Q (some (.int (rfN w))) M') : J E 148 0 [.ref b, .int v, U0] [] M Q := by
  subst hv
  have e82 : (-82 : Int32) - rfN w = nI w := by
    rcases (show w = 0 ∨ w = 1 ∨ w = 2 ∨ w = 3 ∨ w = 4 by omega) with rfl | rfl | rfl | rfl | rfl <;> decide
  have hn := h.1.2.2.2.2.2
  have hr := h.1.1
  have hf := h.1.2.2.2.1
  have n20 : ¬ rO (mT M (b + 259)) := by rw [hf.1]; unfold rO; omega
  refine J_p 3 (ls' := [_, _, _]) rfl ?_
  refine J_t0 e82 ?_
  refine J_p 3 (ls' := [_, _, .int (nI w)]) rfl ?_
  refine J_getR rfl hr.1 hr.2.2.2.2.2 ?_
  refine J_len rfl (Or.inr (Or.inl hf.1)) hf.2 ?_
  refine J_call rfl rfl rfl rfl rfl (c_isBelow (by omega) (fun j _ _ _ => ?_) (fun y => ?_))
  · show J _ _ _ _ _ _ _
    refine J_zeq rfl (fun y => absurd y (by decide)) (fun _ => ?_)
    refine J_p 1 (ls' := [_, _, _]) rfl ?_
    refine J_getR rfl hr.1 hr.2.2.2.2.2 ?_
    refine J_p 2 (ls' := [_, _, _]) rfl ?_
    refine J_ia (n := w) (L := 5) rfl rfl (Or.inl hf.1) hf.2 hw (by omega) (h.2.2.2.1 w hw) ?_
    refine J_p 2 (ls' := [_, _, _]) rfl ?_
    refine J_iast (n := w) (L := 5) rfl rfl hf.1 hf.2 hw (by omega) ?_
    refine J_p 1 (ls' := [_, _, _]) rfl ?_
    have hF : Fm (fun z => z = b + 259) M (sI M (b + 259) w (s_f S w + nI 1)) := Fm.sI rfl n20
    refine J_ret rfl rfl rfl (K _ (Ck.nw (hF.mono (fun z e => Or.inl ⟨by omega, by omega⟩)) ⟨rfl, rfl, rfl⟩ (Nat.le_add_right _ _) rfl) (h.own hF (fun z e => by omega) rfl ?_ (fun w' hw' => ?_) rfl rfl rfl))
    · refine ⟨?_, h.2.2.1.2.1, fun k y hk => ?_⟩
      · rw [mI_s1 _ _ _ (by omega)]
        exact h.2.2.1.1
      · rw [mI_s1 _ _ _ (by omega)]
        exact h.2.2.1.2.2 k y hk
    · rw [mI_s0]
      show _ = if w' = w then s_f S w' + nI 1 else s_f S w'
      by_cases c : w' = w
      · rw [if_pos c, if_pos c, c]
      · rw [if_neg c, if_neg c]
        exact h.2.2.2.1 w' hw'
  · rw [ixN_nI hw (by omega)] at y
    cases y
theorem c_shelfAt (h : CR M b S) {s : Int32} (kt : ∀ j, ixN s 8 = some j → j < 8 → s = nI j → Q (some (.ref (b + 261 + 2 * j))) M) (kf : ixN s 8 = none → Q (some .null) M) : J E 151 0 [.ref b, .int s] [] M Q := by
  have hr := h.1.1
  obtain ⟨s1, s2, s3⟩ := h.1.2.2.2.2.1
  refine J_p 2 (ls' := [_, _]) rfl ?_
  refine J_call rfl rfl rfl rfl rfl (c_isBelow (by omega) (fun j j1 j2 j3 => ?_) (fun y => ?_))
  · show J _ _ _ _ _ _ _
    refine J_zeq rfl (fun y => absurd y (by decide)) (fun _ => ?_)
    refine J_p 1 (ls' := [_, _]) rfl ?_
    refine J_getR rfl hr.1 hr.2.2.2.2.1 ?_
    refine J_p 1 (ls' := [_, _]) rfl ?_
    refine J_aald (n := j) (L := 8) rfl j3 (by rw [s1]; rfl) s2 j2 (by omega) (s3 j j2).1 ?_
    refine J_p 1 (ls' := [_, _]) rfl ?_
    exact J_ret rfl rfl rfl (kt j j1 j2 j3)
  · show J _ _ _ _ _ _ _
    refine J_zeq rfl (fun _ => ?_) (fun y => absurd rfl y)
    refine J_p 1 (ls' := [_, _]) rfl ?_
    exact J_ret rfl rfl rfl (kf y)
end COMP41