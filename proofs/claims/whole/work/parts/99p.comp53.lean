/-! THE COMPONENT'S PUBLIC METHODS: image, back, status, judge. -/
theorem suA_ext {f g : Nat → Nat} : ∀ n, (∀ i, i < n → f i = g i) → suA f n = suA g n
  | 0, _ => rfl
  | n + 1, h => by
    show suA f n + f n = suA g n + g n
    rw [suA_ext n (fun i hi => h i (by omega)), h n (by omega)]
theorem suA_z {f : Nat → Nat} : ∀ n, (∀ i, i < n → f i = 0) → suA f n = 0
  | 0, _ => rfl
  | n + 1, h => by
    show suA f n + f n = 0
    rw [suA_z n (fun i hi => h i (by omega)), h n (by omega)]
theorem suA_add (f g : Nat → Nat) : ∀ n, suA (fun i => f i + g i) n = suA f n + suA g n
  | 0 => rfl
  | n + 1 => by
    show suA (fun i => f i + g i) n + (f n + g n) = (suA f n + f n) + (suA g n + g n)
    rw [suA_add f g n]
    omega
theorem suA_swap (f : Nat → Nat → Nat) (m : Nat) : ∀ n, suA (fun q => suA (f q) m) n = suA (fun c => suA (fun q => f q c) n) m
  | 0 => (suA_z m (fun _ _ => rfl)).symm
  | n + 1 => by
    show suA (fun q => suA (f q) m) n + suA (f n) m = suA (fun c => suA (fun q => f q c) n + f n c) m
    rw [suA_swap f m n, suA_add]
theorem suA_one {f : Nat → Nat} {q v : Nat} : ∀ n, q < n → f q = v → (∀ i, i < n → i ≠ q → f i = 0) → suA f n = v
  | 0, h, _, _ => absurd h (by omega)
  | n + 1, h, hv, h0 => by
    show suA f n + f n = v
    by_cases c : q = n
    · subst c
      rw [suA_z q (fun i hi => h0 i (by omega) (by omega)), hv, Nat.zero_add]
    · rw [suA_one n (by omega) hv (fun i hi hne => h0 i (by omega) hne), h0 n (by omega) (fun e => c e.symm), Nat.add_zero]
theorem lnS_su (L : List Qa) : ∀ n, lnS L n = suA (fun q => (q_ls (L.getD q ([], [], (0, 0, 0, 0, 0, 0), (0, 0, 0), []))).length) n
  | 0 => rfl
  | n + 1 => by
    show lnS L n + _ = suA _ n + _
    rw [lnS_su L n]
section COMP53
variable {E : Nat × Nat} {M M' M1 M2 X Y : Mm} {W : Nat → Prop} {Q : Option Value → Mm → Prop} {a b p w' t g n q i T : Nat} {o o' f : Nat → Nat} {F F' : Nat → Nat → Nat} {S S1 S2 : St} {A B : Ab}
theorem ln_len (A : Ab) : lnS (a_q A) (a_q A).length = suA (lenQ A) (a_q A).length := by
  rw [lnS_su]
  refine suA_ext _ (fun q hq => ?_)
  obtain ⟨x, hx⟩ := get_of hq
  unfold lenQ
  rw [hx, getD_of hx]
theorem cr_sum (hW : Wf T A) {h : Nat → Nat} (hh : ∀ (c : Nat) (k : Co), (a_c A)[c]? = some k → h c = k_cr k) : suA h (a_c A).length = suA (crQ A) (a_q A).length := by
  have e1 : suA (crQ A) (a_q A).length = suA (fun c => suA (fun q => if atA (a_c A) q c = true then crA (a_c A) c else 0) (a_q A).length) (a_c A).length := suA_swap (fun q c => if atA (a_c A) q c = true then crA (a_c A) c else 0) (a_c A).length (a_q A).length
  rw [e1]
  refine suA_ext _ (fun c hc => ?_)
  obtain ⟨k, hk⟩ := get_of hc
  have wk := hW.2.2.1 c k hk
  have ec : crA (a_c A) c = k_cr k := by unfold crA; rw [getD_of hk]
  rw [hh c k hk]
  by_cases c0 : k_lf k = 0
  · refine (suA_one (q := k_q k) _ wk.1 ?_ (fun i _ hne => ?_)).symm
    · show (if atA (a_c A) (k_q k) c = true then crA (a_c A) c else 0) = _
      rw [if_pos ((atA_iff hk).mpr ⟨c0, rfl⟩), ec]
    · have hno : ¬ atA (a_c A) i c = true := fun z => hne ((atA_iff hk).mp z).2.symm
      show (if atA (a_c A) i c = true then crA (a_c A) c else 0) = _
      rw [if_neg hno]
  · have h1 : k_cr k = 0 := wk.2.2.2 (by have := wk.2.2.1; omega)
    rw [h1]
    refine (suA_z _ (fun i _ => ?_)).symm
    have hno : ¬ atA (a_c A) i c = true := fun z => c0 ((atA_iff hk).mp z).1
    show (if atA (a_c A) i c = true then crA (a_c A) c else 0) = _
    rw [if_neg hno]
theorem phQ_le : ∀ L : List La, phQ L ≤ 2 * L.length
  | [] => Nat.le_refl _
  | y :: L => by
    have h := phQ_le L
    have := phL_1 y
    show phL y + phQ L ≤ 2 * (L.length + 1)
    omega
theorem sm_le {α : Type} (f : α → Nat) (v : Nat) : ∀ L : List α, (∀ x, x ∈ L → f x ≤ v) → (L.map f).sum ≤ v * L.length
  | [], _ => Nat.zero_le _
  | y :: L, h => by
    have h1 := sm_le f v L (fun x hx => h x (List.mem_cons_of_mem _ hx))
    have h2 := h y (List.mem_cons_self ..)
    show f y + (L.map f).sum ≤ v * (L.length + 1)
    rw [Nat.mul_succ]
    omega
theorem phA_le (hW : Wf T A) (h8 : (a_q A).length ≤ 8) : phA A ≤ 320 := by
  have h1 : phA A ≤ 40 * (a_q A).length := sm_le _ 40 (a_q A) (fun x hx => by
    obtain ⟨q, hq⟩ := List.getElem?_of_mem hx
    obtain ⟨_, ⟨_, li⟩, _, _, _, _, _, len, _⟩ := hW.2.1 q x hq
    have := phQ_le (q_ls x)
    omega)
  have h2 : 40 * (a_q A).length ≤ 40 * 8 := Nat.mul_le_mul_left _ h8
  omega
/-- all but the image -/
def CRn (M : Mm) (b : Nat) (S : St) : Prop := BS M b ∧ (∃ (o : Nat → Nat) (F : Nat → Nat → Nat), OS M (b + 1) (b + 8) (b + 2) o F ∧ OC M (b + 1) (b + 8) (b + 2) o F (s_a S)) ∧ TC M (b + 254) (s_t S) ∧ (∀ w, w < 5 → mI M (b + 259) w = s_f S w) ∧ (∀ s, s < 8 → ShC M (b + 261 + 2 * s) (s_h S s))
theorem CRn.fr (h : CRn M b S) (hF : Fm W M M') (hW : ∀ z, b ≤ z → z < b + 277 → z ≠ b → ¬ W z) (h0 : ∀ k, k ≠ 5 → mR M' b k = mR M b k) : CRn M' b S := by
  obtain ⟨h1, ⟨o, F, hS, hC⟩, h3, h4, h5⟩ := h
  have hn := h1.2.2.2.2.2
  have e : ∀ z, b ≤ z → z < b + 277 → z ≠ b → Sm M M' z := fun z z1 z2 z3 => hF.2.2 z (by omega) (Or.inl (hW z z1 z2 z3))
  refine ⟨h1.fm hF ⟨h0 0 (by decide), h0 1 (by decide), h0 2 (by decide), h0 3 (by decide), h0 4 (by decide)⟩ (fun z z1 z2 => by rw [(e z (by omega) z2 (by omega)).2.2.2]; exact ⟨rfl, rfl⟩) (by rw [(e _ (by omega) (by omega) (by omega)).2.2.2]) (by rw [(e _ (by omega) (by omega) (by omega)).2.2.2]), ⟨o, F, hS.oth hF (fun z hz => hW z (by unfold Ww at hz; omega) (by unfold Ww at hz; omega) (by unfold Ww at hz; omega)), OC.oth hS hC hF (fun z hz => hW z (by unfold Ww at hz; omega) (by unfold Ww at hz; omega) (by unfold Ww at hz; omega))⟩, ⟨by rw [(e _ (by omega) (by omega) (by omega)).2.1]; exact h3.1, h3.2.1, fun k y hk => by rw [(e _ (by omega) (by omega) (by omega)).2.1]; exact h3.2.2 k y hk⟩, fun w hw => by rw [(e _ (by omega) (by omega) (by omega)).2.1]; exact h4 w hw, fun s hs => (h5 s hs).fm hF (by omega) (hW _ (by omega) (by omega) (by omega)) (hW _ (by omega) (by omega) (by omega))⟩
theorem c_imageT (h : CRn M b S) (hW : Wf T (s_a S)) (h5 : mR M b 5 = some w') (hw : b + 290 ≤ w') (hS' : OS M w' (w' + 1) (b + 2) o' F') (K : ∀ M' : Mm, Fm (Ww w' (w' + 1)) M M' → Nw M M' → CR M' b (z_k S (some (s_a S))) → Q (some (.int (nI 1))) M') : J E 145 25 [.ref b] [] M Q := by
  have hr := h.1.1
  obtain ⟨o, F, hS, hC⟩ := h.2.1
  refine J_p 1 (ls' := [_]) rfl ?_
  refine J_getR rfl hr.1 h5 ?_
  refine J_p 1 (ls' := [_]) rfl ?_
  refine J_getR rfl hr.1 hr.2.1 ?_
  refine J_call rfl rfl rfl (decide_eq_true hS'.1.1) rfl (c_worldTake hS' hS hC hW (fun z h1 h2 => by unfold Ww at h1 h2; omega) (fun M1 hF hN hS1 hC1 => ?_))
  show J _ _ _ _ _ _ _
  refine J_p 1 (ls' := [_]) rfl ?_
  have hn := h.1.2.2.2.2.2
  have eb := hF.2.2 b (by omega) (Or.inl (by unfold Ww; omega))
  have h2 := h.fr hF (fun z z1 z2 _ => by unfold Ww; omega) (fun k _ => by rw [eb.2.2.2])
  refine J_ret rfl rfl rfl (K M1 hF hN ⟨h2.1, h2.2.1, h2.2.2.1, h2.2.2.2.1, h2.2.2.2.2, fun e => (by cases e), fun B e => ?_⟩)
  cases e
  exact ⟨w', o', F', by rw [eb.2.2.2]; exact h5, hw, hS1, hC1⟩

theorem k_image (hR : CR M b S) (hE : STa E M) (hW : WfS T S) (hT : T + 100 < 2 ^ 20) (hV : PrS S)  {P : Int32 × St} (hP : fImage S = P) (K : ∀ M' : Mm, Ck b M M' S P.2 → CR M' b P.2 → Q (some (.int P.1)) M') : J E 145 0 [.ref b] [] M Q := by
  have hr := hR.1.1
  obtain ⟨o, F, hS, hC⟩ := hR.2.1
  have hA := hW.1
  have n8 := hC.2.1.2
  have n10 := hC.2.2.1.2
  have n30 := hC.2.2.2.1.2
  have m3 := hC.mc.1
  have hn := hR.1.2.2.2.2.2
  obtain rfl : P = (nI 1, z_k S (some (s_a S))) := hP.symm
  have hCRn : CRn M b S := ⟨hR.1, hR.2.1, hR.2.2.1, hR.2.2.2.1, hR.2.2.2.2.1⟩
  have hK := hR.2.2.2.2.2
  refine J_p 1 (ls' := [_]) rfl ?_
  cases ek : s_k S with
  | some B =>
    obtain ⟨w', o', F', k1, k2, k3, k4⟩ := hK.2 B ek
    refine J_getR rfl hr.1 k1 ?_
    refine J_brT rfl rfl rfl ?_
    refine c_imageT hCRn hA k1 k2 k3 (fun M1 hF hN hR1 => K M1 ?_ hR1)
    refine ⟨hF.mono (fun z h => Or.inr (by unfold Ww at h; omega)), ?_, ?_⟩
    · have e1 : pNS (z_k S (some (s_a S))) = phA (s_a S) + 0 := rfl
      have e2 : pNS S = phA (s_a S) + 0 := by unfold pNS; rw [ek]
      rw [e1, e2, hN.2.1]
      omega
    · have e1 : pUS (z_k S (some (s_a S))) = 0 := rfl
      rw [e1, hN.2.1, hN.2.2]
      omega
  | none =>
    refine J_getN rfl hr.1 (hK.1 ek) ?_
    refine J_brF rfl rfl rfl ?_
    refine J_p 1 (ls' := [_]) rfl ?_
    refine J_new rfl ?_
    obtain ⟨w', hw'⟩ : ∃ w', mN M = w' := ⟨_, rfl⟩
    rw [hw']
    refine J_p 2 (ls' := [_]) rfl ?_
    have x0 : Nx M (nC M 9 11) w' := Nx.nC (by omega)
    have tb : mT (nC M 9 11) b = 10 := by rw [(x0.T (by omega)).1]; exact hr.1
    refine J_getR rfl tb (by rw [(x0 b (by omega)).2.2.2]; exact hr.2.1) ?_
    refine J_getR rfl (by rw [(x0.T (by omega)).1]; exact hS.1.1) (by rw [(x0 _ (by omega)).2.2.2]; exact hS.1.2.1) ?_
    have hMs : MsS (nC M 9 11) (b + 2) := hS.2.2.2.2.2.1.fp (fun z z1 z2 => (x0 z (by omega)).1) (by rw [(x0 _ (by omega)).2.2.2])
    refine J_call rfl rfl rfl rfl rfl (c_worldNew (w := w') (t := w' + 1) (g := b + 2) (by rw [nC_T, if_pos hw'.symm]) (by rw [nC_I, if_pos hw'.symm]) (by show mN M + 1 = _; omega) (by omega) (by omega) (Or.inl (by omega)) hMs (fun M1 hN1 hU1 hX1 hS1 _ _ => ?_))
    show J _ _ _ _ _ _ _
    have x1 : Nx M M1 w' := fun z hz => (x0 z hz).trans (hX1 z (by omega) (by omega))
    have tb1 : mT M1 b = 10 := by rw [(x1.T (by omega)).1]; exact hr.1
    have nb : ¬ rO (mT M1 b) := by rw [tb1]; unfold rO; omega
    refine J_putR rfl tb1 ?_
    have uu : mU M1 = mU M + 2194 := by rw [hU1]; show mU M + 11 + 2183 = _; omega
    have hF1 : Fm (fun z => z = b) M M1 := by
      rw [← hw'] at x1
      exact x1.fm (by omega)
    have hF2 : Fm (fun z => z = b) M (sR M1 b 5 (some w')) := hF1.trans (Fm.sR rfl nb)
    have hC2 : CRn (sR M1 b 5 (some w')) b S := hCRn.fr hF2 (fun z _ _ h => h) (fun k hk => by rw [mR_s0, if_neg hk, (x1 b (by omega)).2.2.2])
    have hS2 : OS (sR M1 b 5 (some w')) w' (w' + 1) (b + 2) (fun i => i) (fun _ i => i) := hS1.oth (W := fun z => z = b) (Fm.sR rfl nb) (fun z hz => by unfold Ww at hz; omega)
    refine c_imageT hC2 hA (by rw [mR_s0, if_pos rfl]) (by omega) hS2 (fun M3 hF hN hR3 => K M3 ?_ hR3)
    refine ⟨(hF2.mono (fun z h => Or.inl ⟨by omega, by omega⟩)).trans (hF.mono (fun z h => Or.inr (by unfold Ww at h; omega))), ?_, ?_⟩
    · have e1 : pNS (z_k S (some (s_a S))) = phA (s_a S) + 0 := rfl
      have e2 : pNS S = phA (s_a S) + 247 := by unfold pNS; rw [ek]
      have e3 : mN M3 = mN M1 := hN.2.1
      rw [e1, e2, e3, hN1]
      omega
    · have e1 : pUS (z_k S (some (s_a S))) = 0 := rfl
      have e2 : pUS S = 1000 := by unfold pUS; rw [ek]
      have e3 : mN M3 = mN M1 := hN.2.1
      have e4 : mU M3 = mU M1 := hN.2.2
      rw [e1, e2, e3, e4, hN1, uu]
      omega

theorem k_back (hR : CR M b S) (hE : STa E M) (hW : WfS T S) (hT : T + 100 < 2 ^ 20) (hV : PrS S)  {P : Int32 × St} (hP : fBack S = P) (K : ∀ M' : Mm, Ck b M M' S P.2 → CR M' b P.2 → Q (some (.int P.1)) M') : J E 146 0 [.ref b] [] M Q := by
  have hr := hR.1.1
  obtain ⟨o, F, hS, hC⟩ := hR.2.1
  have hA := hW.1
  have n8 := hC.2.1.2
  have n10 := hC.2.2.1.2
  have n30 := hC.2.2.2.1.2
  have m3 := hC.mc.1
  have hn := hR.1.2.2.2.2.2
  have hK := hR.2.2.2.2.2
  refine J_p 1 (ls' := [_]) rfl ?_
  cases ek : s_k S with
  | none =>
    refine J_getN rfl hr.1 (hK.1 ek) ?_
    refine J_brF rfl rfl rfl ?_
    obtain rfl : P = (rfN 3, z_f S 3) := hP.symm.trans (by simp only [fBack, ek]; rfl)
    refine J_p 2 (ls' := [_]) rfl ?_
    refine J_call rfl rfl rfl (decide_eq_true hr.1) rfl (c_refuse hR (w := 3) (by omega) (by first | rfl | decide) (fun M1 h1 h2 => ?_))
    show J _ _ _ _ _ _ _
    exact J_ret rfl rfl rfl (K M1 h1 h2)
  | some B =>
    obtain ⟨w', o', F', k1, k2, k3, k4⟩ := hK.2 B ek
    obtain rfl : P = (nI 1, z_a S B) := hP.symm.trans (by simp only [fBack, ek])
    refine J_getR rfl hr.1 k1 ?_
    refine J_brT rfl rfl rfl ?_
    refine J_p 1 (ls' := [_]) rfl ?_
    refine J_getR rfl hr.1 hr.2.1 ?_
    refine J_p 1 (ls' := [_]) rfl ?_
    refine J_getR rfl hr.1 k1 ?_
    have hWB := (hW.2 B ek).1
    refine J_call rfl rfl rfl (decide_eq_true hS.1.1) rfl (c_worldTake hS k3 k4 hWB (fun z h1 h2 => by unfold Ww at h1 h2; omega) (fun M1 hF hN hS1 hC1 => ?_))
    show J _ _ _ _ _ _ _
    refine J_p 1 (ls' := [_]) rfl ?_
    have hp := phA_le hWB hC1.2.1.2
    have hR1 := hR.wld (hF.mono (fun z h => Or.inl h)) hS1 hC1 (fun K' ek' => by
      rw [ek] at ek'
      cases ek'
      exact ⟨[], (List.append_nil _).symm⟩)
    exact J_ret rfl rfl rfl (K M1 (Ck.nw (hF.mono (fun z h => h.cw)) hN (by show phA B ≤ phA (s_a S) + 480; omega) rfl) hR1)

theorem c_countHolding (hR : CR M b S) (K : Q (some (.int (nI (cnA (fun s => (s_h S s).isSome) 8)))) M) : J E 152 0 [.ref b, U0, U0] [] M Q := by
  have hr := hR.1.1
  have hSh : ∀ j, j < 8 → ShS M (b + 261 + 2 * j) := fun j hj => (hR.1.2.2.2.2.1.2.2 j hj).2
  have hv : ∀ j, j < 8 → ShC M (b + 261 + 2 * j) (s_h S j) := hR.2.2.2.2.1
  obtain ⟨s1, s2, s3⟩ := hR.1.2.2.2.2.1
  have loop : ∀ (d kk : Nat), kk + d = 8 → J E 152 4 [.ref b, .int (nI (cnA (fun s => (s_h S s).isSome) kk)), .int (nI kk)] [] M Q := by
    intro d
    induction d with
    | zero =>
      intro kk hk
      obtain rfl : kk = 8 := by omega
      refine J_p 2 (ls' := [_, _, _]) rfl ?_
      refine J_ige rfl (fun _ => ?_) (fun y => absurd (nI_le (by omega) (by omega)) y)
      refine J_p 1 (ls' := [_, _, _]) rfl ?_
      exact J_ret rfl rfl rfl K
    | succ d ih =>
      intro kk hk
      obtain ⟨u1, u2, u3, u4⟩ := hSh kk (by omega)
      have hvk := hv kk (by omega)
      have yes : (s_h S kk).isSome = true → J E 152 34 [.ref b, .int (nI (cnA (fun s => (s_h S s).isSome) kk)), .int (nI kk)] [] M Q := fun e => by
        refine J_p 3 (ls' := [_, .int (nI (cnA (fun s => (s_h S s).isSome) kk) + nI 1), .int (nI kk + nI 1)]) rfl ?_
        rw [nI_add kk 1, nI_add _ 1, ← cnA_t (p := fun s => (s_h S s).isSome) e]
        exact ih (kk + 1) (by omega)
      refine J_p 2 (ls' := [_, _, _]) rfl ?_
      refine J_ige rfl (fun y => absurd y (nI_ge (by omega) (by omega))) (fun _ => ?_)
      refine J_p 1 (ls' := [_, _, _]) rfl ?_
      refine J_getR rfl hr.1 hr.2.2.2.2.1 ?_
      refine J_p 1 (ls' := [_, _, _]) rfl ?_
      refine J_aald (n := kk) (L := 8) rfl rfl (by rw [s1]; rfl) s2 (by omega) (by omega) (s3 kk (by omega)).1 ?_
      cases e : s_h S kk with
      | none =>
        rw [e] at hvk
        refine J_call rfl rfl rfl (decide_eq_true u1) rfl (c_isRow u1 hvk.1 (fun y => absurd rfl y) (fun _ => ?_))
        show J _ _ _ _ _ _ _
        refine J_zne rfl (fun y => absurd rfl y) (fun _ => ?_)
        refine J_p 1 (ls' := [_, _, _]) rfl ?_
        refine J_getR rfl hr.1 hr.2.2.2.2.1 ?_
        refine J_p 1 (ls' := [_, _, _]) rfl ?_
        refine J_aald (n := kk) (L := 8) rfl rfl (by rw [s1]; rfl) s2 (by omega) (by omega) (s3 kk (by omega)).1 ?_
        refine J_getN rfl u1 hvk.2 ?_
        refine J_brT rfl rfl rfl ?_
        refine J_p 2 (ls' := [_, _, .int (nI kk + nI 1)]) rfl ?_
        have hno : ¬ (fun s => (s_h S s).isSome) kk = true := fun y => by
          have : (s_h S kk).isSome = true := y
          rw [e] at this
          cases this
        rw [nI_add kk 1, ← cnA_f (p := fun s => (s_h S s).isSome) hno]
        exact ih (kk + 1) (by omega)
      | some w =>
        cases w with
        | inl w =>
          obtain ⟨so, els⟩ := w
          rw [e] at hvk
          refine J_call rfl rfl rfl (decide_eq_true u1) rfl (c_isRow u1 hvk.2.2.1 (fun _ => ?_) (fun y => absurd y (nI_m1 (by have := hvk.1; omega))))
          show J _ _ _ _ _ _ _
          refine J_zne rfl (fun _ => ?_) (fun y => absurd y (by decide))
          exact yes (by rw [e]; rfl)
        | inr c =>
          rw [e] at hvk
          obtain ⟨v1, p, n, v2, _⟩ := hvk
          refine J_call rfl rfl rfl (decide_eq_true u1) rfl (c_isRow u1 v1 (fun y => absurd rfl y) (fun _ => ?_))
          show J _ _ _ _ _ _ _
          refine J_zne rfl (fun y => absurd rfl y) (fun _ => ?_)
          refine J_p 1 (ls' := [_, _, _]) rfl ?_
          refine J_getR rfl hr.1 hr.2.2.2.2.1 ?_
          refine J_p 1 (ls' := [_, _, _]) rfl ?_
          refine J_aald (n := kk) (L := 8) rfl rfl (by rw [s1]; rfl) s2 (by omega) (by omega) (s3 kk (by omega)).1 ?_
          refine J_getR rfl u1 v2 ?_
          refine J_brF rfl rfl rfl ?_
          exact yes (by rw [e]; rfl)
  refine J_p 4 (ls' := [_, .int (nI 0), .int (nI 0)]) rfl ?_
  exact loop 8 0 (by omega)
theorem c_refusalsAsked (hR : CR M b S) {v : Int32} (hv : ixN v 11 = none) (K : Q (some (.int (fStatus S v))) M) : J E 150 0 [.ref b, .int v, U0] [] M Q := by
  have hr := hR.1.1
  have hf := hR.1.2.2.2.1
  have R0 : ∀ z : Int32, ixN z 5 = none → fStatus S v = -1 → J E 150 18 [.ref b, .int v, U0] [.int z] M Q := fun z hz h1 => by
    rw [h1] at K
    refine J_p 3 (ls' := [_, _, .int z]) rfl ?_
    refine J_getR rfl hr.1 hr.2.2.2.2.2 ?_
    refine J_len rfl (Or.inr (Or.inl hf.1)) hf.2 ?_
    refine J_call rfl rfl rfl rfl rfl (c_isBelow (by omega) (fun j e1 _ _ => ?_) (fun _ => ?_))
    · rw [hz] at e1
      cases e1
    · show J _ _ _ _ _ _ _
      refine J_zeq rfl (fun _ => ?_) (fun y => absurd rfl y)
      refine J_p 1 (ls' := [_, _, _]) rfl ?_
      exact J_ret rfl rfl rfl K
  refine J_p 3 (ls' := [_, _, _]) rfl ?_
  refine J_call rfl rfl rfl rfl rfl (c_isWithin (by omega) (by omega) (fun n e1 en n0 n1 => ?_) (fun e1 => ?_))
  · show J _ _ _ _ _ _ _
    rw [inNB_ix] at e1
    subst en
    have n11 : 11 ≤ n := by
      rcases Nat.lt_or_ge n 11 with h | h
      · rw [ixN_nI h (by omega)] at hv
        cases hv
      · exact h
    refine J_zeq rfl (fun y => absurd y (by decide)) (fun _ => ?_)
    refine J_p 4 (ls' := [_, _, _]) rfl ?_
    by_cases c : n = 11
    · subst c
      refine R0 (nI 11 - nI 12) (by decide) ?_
      unfold fStatus
      rw [ixN_nI (by omega) (by omega)]
    · obtain ⟨k, rfl⟩ : ∃ k, n = k + 12 := ⟨n - 12, by omega⟩
      have es : nI (k + 12) - nI 12 = nI k := (nI_subE rfl rfl (by omega)).trans (by rw [Nat.add_sub_cancel])
      rw [es]
      by_cases c5 : k < 5
      · have eF : fStatus S (nI (k + 12)) = s_f S k := by
          unfold fStatus
          rw [ixN_nI (by omega) (by omega)]
        rw [eF] at K
        refine J_p 3 (ls' := [_, _, .int (nI k)]) rfl ?_
        refine J_getR rfl hr.1 hr.2.2.2.2.2 ?_
        refine J_len rfl (Or.inr (Or.inl hf.1)) hf.2 ?_
        refine J_call rfl rfl rfl rfl rfl (c_isBelow (by omega) (fun j e2 _ _ => ?_) (fun e2 => ?_))
        · show J _ _ _ _ _ _ _
          refine J_zeq rfl (fun y => absurd y (by decide)) (fun _ => ?_)
          refine J_p 1 (ls' := [_, _, _]) rfl ?_
          refine J_getR rfl hr.1 hr.2.2.2.2.2 ?_
          refine J_p 1 (ls' := [_, _, _]) rfl ?_
          refine J_ia (n := k) (L := 5) rfl rfl (Or.inl hf.1) hf.2 c5 (by omega) (hR.2.2.2.1 k c5) ?_
          refine J_p 1 (ls' := [_, _, _]) rfl ?_
          exact J_ret rfl rfl rfl K
        · rw [ixN_nI c5 (by omega)] at e2
          cases e2
      · refine R0 (nI k) ?_ ?_
        · unfold ixN
          rw [nI_toInt (by omega), if_neg (by omega)]
        · unfold fStatus
          have e17 : ixN (nI (k + 12)) 17 = none := by
            unfold ixN
            rw [nI_toInt (by omega), if_neg (by omega)]
          rw [e17]
  · show J _ _ _ _ _ _ _
    rw [inNB_ix] at e1
    refine J_zeq rfl (fun _ => ?_) (fun y => absurd rfl y)
    refine J_p 1 (ls' := [_, _, _]) rfl ?_
    refine R0 (-1) (by decide) ?_
    unfold fStatus
    have e17 : ixN v 17 = none := by
      cases e : ixN v 17 with
      | none => rfl
      | some j =>
        obtain ⟨j1, j2, _⟩ := ixN_some e
        rw [j2, ixN_nI (by omega) (by omega)] at e1
        cases e1
    rw [e17]

theorem k_status (hR : CR M b S) (hA : Wf T (s_a S)) (v : Int32) (K : Q (some (.int (fStatus S v))) M) : J E 147 0 [.ref b, .int v] [] M Q := by
  have hr := hR.1.1
  obtain ⟨o, F, hS, hC⟩ := hR.2.1
  obtain ⟨txt, hTC⟩ := hC.2.2.2.2.2.2.1
  refine J_p 1 (ls' := [_, _]) rfl ?_
  cases e2 : ixN v 11 with
  | none =>
    refine J_swD (n := 11) rfl e2 rfl rfl ?_
    refine J_p 2 (ls' := [_, _]) rfl ?_
    refine J_call rfl rfl rfl (decide_eq_true hr.1) rfl (c_refusalsAsked hR e2 ?_)
    show J _ _ _ _ _ _ _
    exact J_ret rfl rfl rfl K
  | some n =>
    obtain ⟨n11, ev, _⟩ := ixN_some e2
    subst ev
    have eF : ∀ z : Int32, (match n with
      | 0 => nI (a_q (s_a S)).length
      | 1 => nI (a_c (s_a S)).length
      | 2 => nI (a_m (s_a S)).length
      | 3 => nI (a_d (s_a S)).length
      | 4 => nI (a_n (s_a S))
      | 5 => nI (suA (lenQ (s_a S)) (a_q (s_a S)).length)
      | 6 => nI (suA (crQ (s_a S)) (a_q (s_a S)).length)
      | 7 => nI (a_t (s_a S)).length
      | 8 => nI (s_t S).length
      | 9 => a_s (s_a S)
      | _ => nI (cnA (fun s => (s_h S s).isSome) 8)) = z → fStatus S (nI n) = z := fun z hz => by
      rw [← hz]
      unfold fStatus
      rw [ixN_nI (by omega) (by omega)]
      rcases (show n = 0 ∨ n = 1 ∨ n = 2 ∨ n = 3 ∨ n = 4 ∨ n = 5 ∨ n = 6 ∨ n = 7 ∨ n = 8 ∨ n = 9 ∨ n = 10 by omega) with rfl | rfl | rfl | rfl | rfl | rfl | rfl | rfl | rfl | rfl | rfl <;> rfl
    rw [eF _ rfl] at K
    clear eF
    rcases (show n = 0 ∨ n = 1 ∨ n = 2 ∨ n = 3 ∨ n = 4 ∨ n = 5 ∨ n = 6 ∨ n = 7 ∨ n = 8 ∨ n = 9 ∨ n = 10 by omega) with rfl | rfl | rfl | rfl | rfl | rfl | rfl | rfl | rfl | rfl | rfl
    · refine J_sw1 rfl rfl rfl ?_
      refine J_p 1 (ls' := [_, _]) rfl ?_
      refine J_getR rfl hr.1 hr.2.1 ?_
      refine J_gi rfl hS.1.1 hC.2.1.1 ?_
      exact J_ret rfl rfl rfl K
    · refine J_sw1 rfl rfl rfl ?_
      refine J_p 1 (ls' := [_, _]) rfl ?_
      refine J_getR rfl hr.1 hr.2.1 ?_
      refine J_gi rfl hS.1.1 hC.2.2.1.1 ?_
      exact J_ret rfl rfl rfl K
    · refine J_sw1 rfl rfl rfl ?_
      refine J_p 1 (ls' := [_, _]) rfl ?_
      refine J_getR rfl hr.1 hr.2.1 ?_
      refine J_gi rfl hS.1.1 hC.1 ?_
      exact J_ret rfl rfl rfl K
    · refine J_sw1 rfl rfl rfl ?_
      refine J_p 1 (ls' := [_, _]) rfl ?_
      refine J_getR rfl hr.1 hr.2.1 ?_
      refine J_gi rfl hS.1.1 hC.2.2.2.1.1 ?_
      exact J_ret rfl rfl rfl K
    · refine J_sw1 rfl rfl rfl ?_
      refine J_p 1 (ls' := [_, _]) rfl ?_
      refine J_getR rfl hr.1 hr.2.1 ?_
      refine J_gi rfl hS.1.1 hC.2.2.2.2.1 ?_
      exact J_ret rfl rfl rfl K
    · refine J_sw1 rfl rfl rfl ?_
      refine J_p 1 (ls' := [_, _]) rfl ?_
      refine J_getR rfl hr.1 hr.2.1 ?_
      refine J_call rfl rfl rfl (decide_eq_true hS.1.1) rfl (c_countLetters hS hC ?_)
      show J _ _ _ _ _ _ _
      rw [ln_len]
      exact J_ret rfl rfl rfl K
    · refine J_sw1 rfl rfl rfl ?_
      refine J_p 1 (ls' := [_, _]) rfl ?_
      refine J_getR rfl hr.1 hr.2.1 ?_
      refine J_p 1 (ls' := [_, _]) rfl ?_
      refine J_call rfl rfl rfl (decide_eq_true hS.1.1) rfl (c_creditsAt hS hC (h := crA (a_c (s_a S))) (fun c k hk => ?_) ?_)
      · rw [if_pos (Or.inl rfl)]
        unfold crA
        rw [getD_of hk]
      show J _ _ _ _ _ _ _
      rw [cr_sum hA (fun c k hk => by unfold crA; rw [getD_of hk])]
      exact J_ret rfl rfl rfl K
    · refine J_sw1 rfl rfl rfl ?_
      refine J_p 1 (ls' := [_, _]) rfl ?_
      refine J_getR rfl hr.1 hr.2.1 ?_
      refine J_getR rfl hS.1.1 hS.1.2.2.2.2.2 ?_
      refine J_gi rfl hS.2.1.1 hTC.2.1.1 ?_
      exact J_ret rfl rfl rfl K
    · refine J_sw1 rfl rfl rfl ?_
      refine J_p 1 (ls' := [_, _]) rfl ?_
      refine J_getR rfl hr.1 hr.2.2.1 ?_
      refine J_gi rfl hR.1.2.1.1 hR.2.2.1.1 ?_
      exact J_ret rfl rfl rfl K
    · refine J_sw1 rfl rfl rfl ?_
      refine J_p 1 (ls' := [_, _]) rfl ?_
      refine J_getR rfl hr.1 hr.2.1 ?_
      refine J_gi rfl hS.1.1 hC.2.2.2.2.2.1 ?_
      exact J_ret rfl rfl rfl K
    · refine J_sw1 rfl rfl rfl ?_
      refine J_p 1 (ls' := [_, _]) rfl ?_
      refine J_call rfl rfl rfl (decide_eq_true hr.1) rfl (c_countHolding hR ?_)
      show J _ _ _ _ _ _ _
      exact J_ret rfl rfl rfl K

theorem k_judge (hR : CR M b S) (hE : STa E M) (hW : WfS T S) (hT : T + 100 < 2 ^ 20) (hV : PrS S) (q s n : Int32) {P : Int32 × St} (hP : fJudge S q s n = P) (K : ∀ M' : Mm, Ck b M M' S P.2 → CR M' b P.2 → Q (some (.int P.1)) M') : J E 142 0 [.ref b, .int q, .int s, .int n, U0, U0] [] M Q := by
  have hr := hR.1.1
  obtain ⟨o, F, hS, hC⟩ := hR.2.1
  have hA := hW.1
  have n8 := hC.2.1.2
  have n10 := hC.2.2.1.2
  have n30 := hC.2.2.2.1.2
  have m3 := hC.mc.1
  have hSh : ∀ j, j < 8 → ShS M (b + 261 + 2 * j) := fun j hj => (hR.1.2.2.2.2.1.2.2 j hj).2
  have hv : ∀ j, j < 8 → ShC M (b + 261 + 2 * j) (s_h S j) := hR.2.2.2.2.1
  have R0 : fJudge S q s n = rfS S 0 → ∀ v4 v5 : Value, J E 142 37 [.ref b, .int q, .int s, .int n, v4, v5] [] M Q := fun h0 v4 v5 => by
    obtain rfl : P = (rfN 0, z_f S 0) := hP.symm.trans (by exact h0)
    refine J_p 2 (ls' := [_, _, _, _, _, _]) rfl ?_
    refine J_call rfl rfl rfl (decide_eq_true hr.1) rfl (c_refuse hR (w := 0) (by omega) (by first | rfl | decide) (fun M1 h1 h2 => ?_))
    show J _ _ _ _ _ _ _
    exact J_ret rfl rfl rfl (K M1 h1 h2)
  refine J_p 1 (ls' := [_, _, _, _, _, _]) rfl ?_
  refine J_getR rfl hr.1 hr.2.1 ?_
  refine J_p 1 (ls' := [_, _, _, _, _, _]) rfl ?_
  refine J_call rfl rfl rfl (decide_eq_true hS.1.1) rfl (c_queueAt hS hC (fun j x e1 hx j8 eq => ?_) (fun e1 => ?_))
  · show J _ _ _ _ _ _ _
    have hQ := hS.qs j8
    have hQC := hC.qc hx
    have ok := hA.okL m3 n10 hx
    refine J_p 3 (ls' := [_, _, _, _, .ref (b + 8 + 4 + 25 * j), _]) rfl ?_
    refine J_call rfl rfl rfl (decide_eq_true hr.1) rfl (c_shelfAt hR (fun y e2 y8 ey => ?_) (fun e2 => ?_))
    · show J _ _ _ _ _ _ _
      obtain ⟨u1, u2, u3, u4⟩ := hSh y y8
      have hvy := hv y y8
      refine J_p 2 (ls' := [_, _, _, _, _, .ref (b + 261 + 2 * y)]) rfl ?_
      refine J_brF rfl rfl rfl ?_
      refine J_p 1 (ls' := [_, _, _, _, _, _]) rfl ?_
      refine J_brF rfl rfl rfl ?_
      refine J_p 3 (ls' := [_, _, _, _, _, _]) rfl ?_
      refine J_call rfl rfl rfl rfl rfl (c_isWithin (by omega) (by omega) (fun m e3 em m0 m1 => ?_) (fun e3 => ?_))
      · show J _ _ _ _ _ _ _
        rw [inNB_ix] at e3
        subst em
        refine J_zne rfl (fun _ => ?_) (fun y => absurd y (by decide))
        refine J_p 1 (ls' := [_, _, _, _, _, _]) rfl ?_
        cases e : s_h S y with
        | none =>
          rw [e] at hvy
          refine J_getN rfl u1 hvy.2 ?_
          refine J_brT rfl rfl rfl ?_
          refine J_p 1 (ls' := [_, _, _, _, _, _]) rfl ?_
          refine J_call rfl rfl rfl (decide_eq_true u1) rfl (c_isRow u1 hvy.1 (fun y => absurd rfl y) (fun _ => ?_))
          show J _ _ _ _ _ _ _
          refine J_zne rfl (fun y => absurd rfl y) (fun _ => ?_)
          obtain rfl : P = (rfN 2, z_f S 2) := hP.symm.trans (by simp only [fJudge, e1, e2, e3, e]; rfl)
          refine J_p 2 (ls' := [_, _, _, _, _, _]) rfl ?_
          refine J_call rfl rfl rfl (decide_eq_true hr.1) rfl (c_refuse hR (w := 2) (by omega) (by first | rfl | decide) (fun M1 h1 h2 => ?_))
          show J _ _ _ _ _ _ _
          exact J_ret rfl rfl rfl (K M1 h1 h2)
        | some w =>
          cases w with
          | inr c =>
            rw [e] at hvy
            obtain ⟨v1, p, n', v2, _⟩ := hvy
            refine J_getR rfl u1 v2 ?_
            refine J_brF rfl rfl rfl ?_
            obtain rfl : P = (rfN 1, z_f S 1) := hP.symm.trans (by simp only [fJudge, e1, e2, e3, e]; rfl)
            refine J_p 2 (ls' := [_, _, _, _, _, _]) rfl ?_
            refine J_call rfl rfl rfl (decide_eq_true hr.1) rfl (c_refuse hR (w := 1) (by omega) (by first | rfl | decide) (fun M1 h1 h2 => ?_))
            show J _ _ _ _ _ _ _
            exact J_ret rfl rfl rfl (K M1 h1 h2)
          | inl w =>
            obtain ⟨so, els⟩ := w
            rw [e] at hvy
            obtain ⟨v1, v2, v3, v4, v5, v6⟩ := hvy
            refine J_getN rfl u1 v5 ?_
            refine J_brT rfl rfl rfl ?_
            refine J_p 1 (ls' := [_, _, _, _, _, _]) rfl ?_
            refine J_call rfl rfl rfl (decide_eq_true u1) rfl (c_isRow u1 v3 (fun _ => ?_) (fun y => absurd y (nI_m1 (by omega))))
            show J _ _ _ _ _ _ _
            refine J_zne rfl (fun _ => ?_) (fun y => absurd y (by decide))
            refine J_p 3 (ls' := [_, _, _, _, _, _]) rfl ?_
            refine J_call rfl rfl rfl (decide_eq_true u1) rfl (c_hasRun u1 v4 v2 (fun i' n' ei en hle => ?_) (fun hno => ?_))
            · show J _ _ _ _ _ _ _
              have en2 : m = n' := (nI_eq (by omega) (by omega)).mp en
              have hle' : m ≤ els.length := by omega
              obtain rfl : P = (juA els (drQ (s_a S) x) m m 0, S) := hP.symm.trans (by simp only [fJudge, e1, e2, e3, e, if_pos hle', hx])
              refine J_zne rfl (fun _ => ?_) (fun y => absurd y (by decide))
              refine J_p 2 (ls' := [_, _, _, _, _, _]) rfl ?_
              refine J_getR rfl u1 u2 ?_
              refine J_p 1 (ls' := [_, _, _, _, _, _]) rfl ?_
              refine J_call rfl rfl rfl (decide_eq_true hQ.1) rfl (c_firstWrong hQ hQC ok u3 u4 hle' v2 v6 ?_)
              show J _ _ _ _ _ _ _
              exact J_ret rfl rfl rfl (K M (Ck.refl b M S) hR)
            · show J _ _ _ _ _ _ _
              refine J_zne rfl (fun y => absurd rfl y) (fun _ => ?_)
              have hle' : ¬ m ≤ els.length := fun h => hno 0 m (ixN_nI (j := 0) (by omega) (by omega)) (ixN_nI (by omega) (by omega)) (by omega)
              obtain rfl : P = (rfN 0, z_f S 0) := hP.symm.trans (by simp only [fJudge, e1, e2, e3, e, if_neg hle']; rfl)
              refine J_p 2 (ls' := [_, _, _, _, _, _]) rfl ?_
              refine J_call rfl rfl rfl (decide_eq_true hr.1) rfl (c_refuse hR (w := 0) (by omega) (by first | rfl | decide) (fun M1 h1 h2 => ?_))
              show J _ _ _ _ _ _ _
              exact J_ret rfl rfl rfl (K M1 h1 h2)
      · show J _ _ _ _ _ _ _
        rw [inNB_ix] at e3
        refine J_zne rfl (fun y => absurd rfl y) (fun _ => ?_)
        exact R0 (by simp only [fJudge, e1, e2, e3]) _ _
    · show J _ _ _ _ _ _ _
      refine J_p 2 (ls' := [_, _, _, _, _, .null]) rfl ?_
      refine J_brF rfl rfl rfl ?_
      refine J_p 1 (ls' := [_, _, _, _, _, _]) rfl ?_
      refine J_brT rfl rfl rfl ?_
      exact R0 (by simp only [fJudge, e1, e2]) _ _
  · show J _ _ _ _ _ _ _
    have G : ∀ v5 : Value, J E 142 17 [.ref b, .int q, .int s, .int n, .null, v5] [] M Q := fun v5 => by
      refine J_p 1 (ls' := [_, _, _, _, _, _]) rfl ?_
      refine J_brT rfl rfl rfl ?_
      exact R0 (by simp only [fJudge, e1]) _ _
    refine J_p 3 (ls' := [_, _, _, _, .null, _]) rfl ?_
    refine J_call rfl rfl rfl (decide_eq_true hr.1) rfl (c_shelfAt hR (fun y e2 y8 ey => ?_) (fun e2 => ?_))
    · show J _ _ _ _ _ _ _
      refine J_p 1 (ls' := [_, _, _, _, _, .ref (b + 261 + 2 * y)]) rfl ?_
      exact G _
    · show J _ _ _ _ _ _ _
      refine J_p 1 (ls' := [_, _, _, _, _, .null]) rfl ?_
      exact G _

end COMP53