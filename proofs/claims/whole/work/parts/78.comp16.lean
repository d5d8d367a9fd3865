/-! THE COMPONENT: what a change of one piece leaves of the world. -/
def upF (F : Nat → Nat → Nat) (q : Nat) (f : Nat → Nat) : Nat → Nat → Nat := fun z => if z = q then f else F z
theorem upF_s (F : Nat → Nat → Nat) (q : Nat) (f : Nat → Nat) : upF F q f q = f := if_pos rfl
theorem upF_n (F : Nat → Nat → Nat) {q z : Nat} (f : Nat → Nat) (h : z ≠ q) : upF F q f z = F z := if_neg h
theorem QS.fr {M M' : Mm} {a q : Nat} {f : Nat → Nat} (h : QS M a q f) (e1 : ∀ z, a ≤ z → z < a + 25 → M'.1 z = M.1 z) (e0 : mI M' a 0 = mI M a 0) (eR : ∀ b, a ≤ b → b ≤ a + 4 → mR M' b = mR M b) : QS M' a q f := by
  obtain ⟨a1, a2, a3, a4, a5, a6, a7, a8, a9, a10⟩ := h
  have eT : ∀ z, a ≤ z → z < a + 25 → mT M' z = mT M z := fun z h1 h2 => by unfold mT; rw [e1 z h1 h2]
  have eS : ∀ z, a ≤ z → z < a + 25 → mS M' z = mS M z := fun z h1 h2 => by unfold mS; rw [e1 z h1 h2]
  refine ⟨by rw [eT a (by omega) (by omega)]; exact a1, by rw [e0]; exact a2, by rw [eR a (by omega) (by omega)]; exact a3, by rw [eR a (by omega) (by omega)]; exact a4, ?_, by rw [eT (a + 4) (by omega) (by omega)]; exact a6, by rw [eS (a + 4) (by omega) (by omega)]; exact a7, fun i hi => by rw [eR (a + 4) (by omega) (by omega)]; exact a8 i hi, a9, fun i hi => by rw [eT (a + 5 + i) (by omega) (by omega)]; exact a10 i hi⟩
  exact a5.fr (e1 _ (by omega) (by omega)) (e1 _ (by omega) (by omega)) (e1 _ (by omega) (by omega)) (eR (a + 1) (by omega) (by omega))
theorem QC.fr {W : Nat → Prop} {M M' : Mm} {a : Nat} {f : Nat → Nat} {x : Qa} {ms : List Ma} (h : QC M a f x ms) (hF : Fm W M M') (hf : ∀ i, i < 20 → f i < 20) (e : ∀ z, a ≤ z → z < a + 25 → mI M' z = mI M z ∧ mR M' z = mR M z) : QC M' a f x ms := by
  have n20 := h.n20
  obtain ⟨c1, c2, c3, c4, c5, c6, c7, c8, c9, c10, c11, c12⟩ := h
  have ea := (e a (by omega) (by omega)).1
  refine ⟨c1.fr (e _ (by omega) (by omega)).1 (e _ (by omega) (by omega)).1 (e _ (by omega) (by omega)).1, by rw [ea]; exact c2, by rw [ea]; exact c3, by rw [ea]; exact c4, by rw [ea]; exact c5, by rw [ea]; exact c6, by rw [ea]; exact c7, by rw [ea]; exact c8, by rw [ea]; exact c9, by rw [ea]; exact c10, by rw [ea]; exact c11, fun i l hl => ?_⟩
  have il := li hl
  have fl := hf i (by omega)
  exact (c12 i l hl).fr hF (e _ (by omega) (by omega)).1 (e _ (by omega) (by omega)).2
theorem KC.fr {M M' : Mm} {a : Nat} {k : Co} (h : KC M a k) (e : mI M' a = mI M a) : KC M' a k := by
  unfold KC at h ⊢
  rw [e]
  exact h
theorem DC.fr {W : Nat → Prop} {M M' : Mm} {a : Nat} {d : Da} (h : DC M a d) (hF : Fm W M M') (e : mI M' a = mI M a) (eR : mR M' a = mR M a) : DC M' a d := by
  unfold DC at h ⊢
  rw [e, eR]
  exact ⟨h.1, h.2.1, h.2.2.1, h.2.2.2.fr hF⟩
theorem MsS.fp {M M' : Mm} {g : Nat} (h : MsS M g) (e1 : ∀ z, g ≤ z → z ≤ g + 5 → M'.1 z = M.1 z) (eR : mR M' g = mR M g) : MsS M' g := by
  obtain ⟨h1, h2⟩ := h
  refine ⟨by unfold mT; rw [e1 g (by omega) (by omega)]; exact h1, fun j hj => ?_⟩
  rw [eR]
  unfold mT mS
  rw [e1 (g + 1 + j) (by omega) (by omega)]
  exact h2 j hj
theorem MsC.fr {M M' : Mm} {g : Nat} {ms : List Ma} (h : MsC M g ms) (e : ∀ j, j < 5 → mI M' (g + 1 + j) = mI M (g + 1 + j)) : MsC M' g ms := by
  unfold MsC at h ⊢
  rw [e 0 (by omega), e 1 (by omega), e 2 (by omega), e 3 (by omega), e 4 (by omega)]
  exact h
section COMP16
variable {E : Nat × Nat} {M M' : Mm} {W : Nat → Prop} {Q : Option Value → Mm → Prop} {w t g a c q : Nat} {o o' f f' : Nat → Nat} {F F' : Nat → Nat → Nat} {A : Ab} {k : Co} {d : Da} {x x' : Qa} {ms : List Ma}
theorem OS.gen (h : OS M w t g o F) (hn : mN M ≤ mN M') (e1 : ∀ z, z < mN M → M'.1 z = M.1 z) (ew : mR M' w = mR M w) (et : mR M' t = mR M t) (e3 : mR M' (t + 3) = mR M (t + 3)) (e4 : mR M' (t + 204) = mR M (t + 204)) (eg : mR M' g = mR M g) (e0 : ∀ c, c < 10 → mI M' (t + 205 + c) 0 = mI M (t + 205 + c) 0) (hd : ∀ i, i < 30 → mR M' (t + 215) i = some (t + 216 + o' i) ∧ o' i < 30) (hj : ∀ i j, i < 30 → j < 30 → o' i = o' j → i = j) (hq : ∀ q, q < 8 → QS M' (t + 4 + 25 * q) q (F' q)) : OS M' w t g o' F' := by
  obtain ⟨⟨a1, a2, a3, a4, a5, a6⟩, b, ⟨d1, d2, d3⟩, ⟨k1, k2, k3⟩, ⟨x1, x2, x3, x4, x5⟩, m, ⟨y1, y2, y3⟩, n⟩ := h
  have eT : ∀ z, z < mN M → mT M' z = mT M z := fun z h1 => by unfold mT; rw [e1 z h1]
  have eS : ∀ z, z < mN M → mS M' z = mS M z := fun z h1 => by unfold mS; rw [e1 z h1]
  refine ⟨⟨by rw [eT w (by omega)]; exact a1, by rw [ew]; exact a2, by rw [ew]; exact a3, by rw [ew]; exact a4, by rw [ew]; exact a5, by rw [ew]; exact a6⟩, b.fr (e1 _ (by omega)) (e1 _ (by omega)) (e1 _ (by omega)) et, ⟨by rw [eT _ (by omega)]; exact d1, by rw [eS _ (by omega)]; exact d2, fun q h8 => ⟨by rw [e3]; exact (d3 q h8).1, hq q h8⟩⟩, ⟨by rw [eT _ (by omega)]; exact k1, by rw [eS _ (by omega)]; exact k2, fun c h10 => ⟨by rw [e4]; exact (k3 c h10).1, by rw [eT _ (by omega)]; exact (k3 c h10).2.1, by rw [e0 c h10]; exact (k3 c h10).2.2⟩⟩, ⟨by rw [eT _ (by omega)]; exact x1, by rw [eS _ (by omega)]; exact x2, hd, hj, fun i hi => by rw [eT _ (by omega)]; exact x5 i hi⟩, m.fp (fun z _ _ => e1 z (by omega)) eg, ⟨y1, y2, y3⟩, by omega⟩
/-- one queue changed -/
theorem OS.setq (hS : OS M w t g o F) (hF : Fm (Qw (t + 4 + 25 * q)) M M') (hq : q < 8) (hQ : QS M' (t + 4 + 25 * q) q f') : OS M' w t g o (upF F q f') := by
  have hn := hS.2.2.2.2.2.2.2
  obtain ⟨y1, y2, y3⟩ := hS.2.2.2.2.2.2.1
  have e : ∀ z, z < mN M → ¬ Qw (t + 4 + 25 * q) z → mI M' z = mI M z ∧ mR M' z = mR M z := fun z h1 h2 => ⟨(hF.2.2 z h1 (Or.inl h2)).2.1, (hF.2.2 z h1 (Or.inl h2)).2.2.2⟩
  refine hS.gen hF.1 hF.2.1 (e _ (by omega) (by unfold Qw; omega)).2 (e _ (by omega) (by unfold Qw; omega)).2 (e _ (by omega) (by unfold Qw; omega)).2 (e _ (by omega) (by unfold Qw; omega)).2 (e _ (by omega) (by unfold Qw; omega)).2 (fun c hc => by rw [(e _ (by omega) (by unfold Qw; omega)).1]) (fun i hi => by rw [(e _ (by omega) (by unfold Qw; omega)).2]; exact hS.2.2.2.2.1.2.2.1 i hi) hS.2.2.2.2.1.2.2.2.1 (fun z hz => ?_)
  by_cases c : z = q
  · subst c
    rw [upF_s]
    exact hQ
  · rw [upF_n F f' c]
    exact (hS.qs hz).fr (fun b h1 h2 => hF.2.1 b (by omega)) (by rw [(e _ (by omega) (by unfold Qw; omega)).1]) (fun b h1 h2 => (e _ (by omega) (by unfold Qw; omega)).2)
theorem OC.setq (hS : OS M w t g o F) (hC : OC M w t g o F A) (hF : Fm (Qw (t + 4 + 25 * q)) M M') (hq : q < 8) (hQC : QC M' (t + 4 + 25 * q) f' x' (a_m A)) : OC M' w t g o (upF F q f') (w_q A ((a_q A).set q x')) := by
  have hn := hS.2.2.2.2.2.2.2
  obtain ⟨y1, y2, y3⟩ := hS.2.2.2.2.2.2.1
  have e : ∀ z, z < mN M → ¬ Qw (t + 4 + 25 * q) z → mI M' z = mI M z ∧ mR M' z = mR M z := fun z h1 h2 => ⟨(hF.2.2 z h1 (Or.inl h2)).2.1, (hF.2.2 z h1 (Or.inl h2)).2.2.2⟩
  obtain ⟨c1, c2, c3, c4, c5, c6, ⟨txt, c7⟩, c8, c9, c10, c11⟩ := hC
  have ew := (e w (by omega) (by unfold Qw; omega)).1
  refine ⟨by rw [ew]; exact c1, ⟨by show _ = nI ((a_q A).set q x').length; rw [List.length_set, ew]; exact c2.1, by show ((a_q A).set q x').length ≤ 8; rw [List.length_set]; exact c2.2⟩, by rw [ew]; exact c3, by rw [ew]; exact c4, by rw [ew]; exact c5, by rw [ew]; exact c6, ⟨txt, c7.fr (e _ (by omega) (by unfold Qw; omega)).1 (e _ (by omega) (by unfold Qw; omega)).1 (e _ (by omega) (by unfold Qw; omega)).1⟩, fun z y hy => ?_, fun c k hk => ?_, fun i d hd => ?_, c11.fr (fun j hj => (e _ (by omega) (by unfold Qw; omega)).1)⟩
  · rcases set_or hy with ⟨rfl, rfl⟩ | ⟨hne, hy⟩
    · rw [upF_s]
      exact hQC
    · rw [upF_n F f' hne]
      have zl := li hy
      exact (c8 z y hy).fr hF (fun i hi => (hS.qs (q := z) (by omega)).lt hi) (fun b h1 h2 => e b (by omega) (by unfold Qw; omega))
  · have cl := li hk
    have c3' : (a_c A).length ≤ 10 := c3.2
    have cl' : c < (a_c A).length := cl
    exact (c9 c k hk).fr (e _ (by omega) (by unfold Qw; omega)).1
  · have dl : i < (a_d A).length := li hd
    have := (hS.2.2.2.2.1.2.2.1 i (by omega)).2
    exact (c10 i d hd).fr hF (e _ (by omega) (by unfold Qw; omega)).1 (e _ (by omega) (by unfold Qw; omega)).2
/-- one consumer's ints changed -/
theorem OS.setk (hS : OS M w t g o F) (hF : Fm (fun z => z = t + 205 + c) M M') (hc : c < 10) (e0 : mI M' (t + 205 + c) 0 = mI M (t + 205 + c) 0) : OS M' w t g o F := by
  have hn := hS.2.2.2.2.2.2.2
  obtain ⟨y1, y2, y3⟩ := hS.2.2.2.2.2.2.1
  have e : ∀ z, z < mN M → z ≠ t + 205 + c → mI M' z = mI M z ∧ mR M' z = mR M z := fun z h1 h2 => ⟨(hF.2.2 z h1 (Or.inl h2)).2.1, (hF.2.2 z h1 (Or.inl h2)).2.2.2⟩
  refine hS.gen hF.1 hF.2.1 (e _ (by omega) (by omega)).2 (e _ (by omega) (by omega)).2 (e _ (by omega) (by omega)).2 (e _ (by omega) (by omega)).2 (e _ (by omega) (by omega)).2 (fun c' hc' => ?_) (fun i hi => by rw [(e _ (by omega) (by omega)).2]; exact hS.2.2.2.2.1.2.2.1 i hi) hS.2.2.2.2.1.2.2.2.1 (fun z hz => ?_)
  · by_cases z : c' = c
    · rw [z]; exact e0
    · rw [(e _ (by omega) (by omega)).1]
  · exact (hS.qs hz).fr (fun b h1 h2 => hF.2.1 b (by omega)) (by rw [(e _ (by omega) (by omega)).1]) (fun b h1 h2 => (e _ (by omega) (by omega)).2)
theorem OC.setk (hS : OS M w t g o F) (hC : OC M w t g o F A) (hF : Fm (fun z => z = t + 205 + c) M M') (hc : c < 10) (hK : KC M' (t + 205 + c) k) : OC M' w t g o F (w_c A ((a_c A).set c k)) := by
  have hn := hS.2.2.2.2.2.2.2
  obtain ⟨y1, y2, y3⟩ := hS.2.2.2.2.2.2.1
  have e : ∀ z, z < mN M → z ≠ t + 205 + c → mI M' z = mI M z ∧ mR M' z = mR M z := fun z h1 h2 => ⟨(hF.2.2 z h1 (Or.inl h2)).2.1, (hF.2.2 z h1 (Or.inl h2)).2.2.2⟩
  obtain ⟨c1, c2, c3, c4, c5, c6, ⟨txt, c7⟩, c8, c9, c10, c11⟩ := hC
  have ew := (e w (by omega) (by omega)).1
  refine ⟨by rw [ew]; exact c1, by rw [ew]; exact c2, ⟨by show _ = nI ((a_c A).set c k).length; rw [List.length_set, ew]; exact c3.1, by show ((a_c A).set c k).length ≤ 10; rw [List.length_set]; exact c3.2⟩, by rw [ew]; exact c4, by rw [ew]; exact c5, by rw [ew]; exact c6, ⟨txt, c7.fr (e _ (by omega) (by omega)).1 (e _ (by omega) (by omega)).1 (e _ (by omega) (by omega)).1⟩, fun z y hy => ?_, fun c' k' hk => ?_, fun i d hd => ?_, c11.fr (fun j hj => (e _ (by omega) (by omega)).1)⟩
  · have zl : z < (a_q A).length := li hy
    exact (c8 z y hy).fr hF (fun i hi => (hS.qs (q := z) (by omega)).lt hi) (fun b h1 h2 => e b (by omega) (by omega))
  · rcases set_or hk with ⟨rfl, rfl⟩ | ⟨hne, hk⟩
    · exact hK
    · have cl : c' < (a_c A).length := li hk
      exact (c9 c' k' hk).fr (e _ (by omega) (by omega)).1
  · have dl : i < (a_d A).length := li hd
    have := (hS.2.2.2.2.1.2.2.1 i (by omega)).2
    exact (c10 i d hd).fr hF (e _ (by omega) (by omega)).1 (e _ (by omega) (by omega)).2

theorem QC.s_gv (hS : QS M a q f) (hC : QC M a f x ms) {v : Int32} : QC (sI M a 10 v) a f (x_gv x v) ms := by
  obtain ⟨c1, c2, c3, c4, c5, c6, c7, c8, c9, c10, c11, c12⟩ := hC
  have n20 := c2.2
  have hF : Fm (Qw a) M (sI M a 10 v) := Fm.sI ⟨by omega, by omega⟩ (hS.ty ⟨by omega, by omega⟩)
  refine ⟨c1.fr (mI_s1 _ _ _ (by omega)) (mI_s1 _ _ _ (by omega)) (mI_s1 _ _ _ (by omega)), ⟨by rw [mI_s0, if_neg (by omega)]; exact c2.1, c2.2⟩, by rw [mI_s0, if_neg (by omega)]; exact c3, by rw [mI_s0, if_neg (by omega)]; exact c4, by rw [mI_s0, if_neg (by omega)]; exact c5, by rw [mI_s0, if_neg (by omega)]; exact c6, by rw [mI_s0, if_neg (by omega)]; exact c7, by rw [mI_s0, if_neg (by omega)]; exact c8, by rw [mI_s0, if_pos rfl]; rfl, by rw [mI_s0, if_neg (by omega)]; exact c10, by rw [mI_s0, if_neg (by omega)]; exact c11, fun i l hl => ?_⟩
  exact (c12 i l hl).fr hF (mI_s1 _ _ _ (by omega)) rfl
theorem QC.s_ak (hS : QS M a q f) (hC : QC M a f x ms) {v : Int32} : QC (sI M a 11 v) a f (x_ak x v) ms := by
  obtain ⟨c1, c2, c3, c4, c5, c6, c7, c8, c9, c10, c11, c12⟩ := hC
  have n20 := c2.2
  have hF : Fm (Qw a) M (sI M a 11 v) := Fm.sI ⟨by omega, by omega⟩ (hS.ty ⟨by omega, by omega⟩)
  refine ⟨c1.fr (mI_s1 _ _ _ (by omega)) (mI_s1 _ _ _ (by omega)) (mI_s1 _ _ _ (by omega)), ⟨by rw [mI_s0, if_neg (by omega)]; exact c2.1, c2.2⟩, by rw [mI_s0, if_neg (by omega)]; exact c3, by rw [mI_s0, if_neg (by omega)]; exact c4, by rw [mI_s0, if_neg (by omega)]; exact c5, by rw [mI_s0, if_neg (by omega)]; exact c6, by rw [mI_s0, if_neg (by omega)]; exact c7, by rw [mI_s0, if_neg (by omega)]; exact c8, by rw [mI_s0, if_neg (by omega)]; exact c9, by rw [mI_s0, if_pos rfl]; rfl, by rw [mI_s0, if_neg (by omega)]; exact c11, fun i l hl => ?_⟩
  exact (c12 i l hl).fr hF (mI_s1 _ _ _ (by omega)) rfl
theorem QC.s_di (hS : QS M a q f) (hC : QC M a f x ms) {v : Int32} : QC (sI M a 12 v) a f (x_di x v) ms := by
  obtain ⟨c1, c2, c3, c4, c5, c6, c7, c8, c9, c10, c11, c12⟩ := hC
  have n20 := c2.2
  have hF : Fm (Qw a) M (sI M a 12 v) := Fm.sI ⟨by omega, by omega⟩ (hS.ty ⟨by omega, by omega⟩)
  refine ⟨c1.fr (mI_s1 _ _ _ (by omega)) (mI_s1 _ _ _ (by omega)) (mI_s1 _ _ _ (by omega)), ⟨by rw [mI_s0, if_neg (by omega)]; exact c2.1, c2.2⟩, by rw [mI_s0, if_neg (by omega)]; exact c3, by rw [mI_s0, if_neg (by omega)]; exact c4, by rw [mI_s0, if_neg (by omega)]; exact c5, by rw [mI_s0, if_neg (by omega)]; exact c6, by rw [mI_s0, if_neg (by omega)]; exact c7, by rw [mI_s0, if_neg (by omega)]; exact c8, by rw [mI_s0, if_neg (by omega)]; exact c9, by rw [mI_s0, if_neg (by omega)]; exact c10, by rw [mI_s0, if_pos rfl]; rfl, fun i l hl => ?_⟩
  exact (c12 i l hl).fr hF (mI_s1 _ _ _ (by omega)) rfl
theorem QC.s_ex (hS : QS M a q f) (hC : QC M a f x ms) {v : Nat} : QC (sI M a 8 (nI v)) a f (x_ex x v) ms := by
  obtain ⟨c1, c2, c3, c4, c5, c6, c7, c8, c9, c10, c11, c12⟩ := hC
  have n20 := c2.2
  have hF : Fm (Qw a) M (sI M a 8 (nI v)) := Fm.sI ⟨by omega, by omega⟩ (hS.ty ⟨by omega, by omega⟩)
  refine ⟨c1.fr (mI_s1 _ _ _ (by omega)) (mI_s1 _ _ _ (by omega)) (mI_s1 _ _ _ (by omega)), ⟨by rw [mI_s0, if_neg (by omega)]; exact c2.1, c2.2⟩, by rw [mI_s0, if_neg (by omega)]; exact c3, by rw [mI_s0, if_neg (by omega)]; exact c4, by rw [mI_s0, if_neg (by omega)]; exact c5, by rw [mI_s0, if_neg (by omega)]; exact c6, by rw [mI_s0, if_pos rfl]; rfl, by rw [mI_s0, if_neg (by omega)]; exact c8, by rw [mI_s0, if_neg (by omega)]; exact c9, by rw [mI_s0, if_neg (by omega)]; exact c10, by rw [mI_s0, if_neg (by omega)]; exact c11, fun i l hl => ?_⟩
  exact (c12 i l hl).fr hF (mI_s1 _ _ _ (by omega)) rfl
theorem QC.s_l1 (hS : QS M a q f) (hC : QC M a f x ms) {v : Nat} : QC (sI M a 9 (nI v - nI 1)) a f (x_l1 x v) ms := by
  obtain ⟨c1, c2, c3, c4, c5, c6, c7, c8, c9, c10, c11, c12⟩ := hC
  have n20 := c2.2
  have hF : Fm (Qw a) M (sI M a 9 (nI v - nI 1)) := Fm.sI ⟨by omega, by omega⟩ (hS.ty ⟨by omega, by omega⟩)
  refine ⟨c1.fr (mI_s1 _ _ _ (by omega)) (mI_s1 _ _ _ (by omega)) (mI_s1 _ _ _ (by omega)), ⟨by rw [mI_s0, if_neg (by omega)]; exact c2.1, c2.2⟩, by rw [mI_s0, if_neg (by omega)]; exact c3, by rw [mI_s0, if_neg (by omega)]; exact c4, by rw [mI_s0, if_neg (by omega)]; exact c5, by rw [mI_s0, if_neg (by omega)]; exact c6, by rw [mI_s0, if_neg (by omega)]; exact c7, by rw [mI_s0, if_pos rfl]; rfl, by rw [mI_s0, if_neg (by omega)]; exact c9, by rw [mI_s0, if_neg (by omega)]; exact c10, by rw [mI_s0, if_neg (by omega)]; exact c11, fun i l hl => ?_⟩
  exact (c12 i l hl).fr hF (mI_s1 _ _ _ (by omega)) rfl
end COMP16