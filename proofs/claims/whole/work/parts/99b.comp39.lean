/-! THE COMPONENT: what is taken from another: patterns, letters, the dead, queues. -/
theorem mI_c1 (M : Mm) {b c : Nat} (a sp dp n : Nat) (h : c ≠ b) : mI (cI M a sp b dp n) c = mI M c := funext fun k => if_neg (fun e => h e.1)
theorem mI_c0 (M : Mm) (a sp b dp n k : Nat) : mI (cI M a sp b dp n) b k = if dp ≤ k ∧ k < dp + n then mI M a (sp + (k - dp)) else mI M b k := by
  show (if b = b ∧ dp ≤ k ∧ k < dp + n then mI M a (sp + (k - dp)) else mI M b k) = _
  by_cases c : dp ≤ k ∧ k < dp + n
  · rw [if_pos c, if_pos ⟨rfl, c⟩]
  · rw [if_neg c, if_neg (fun e => c e.2)]
theorem Fm.cI {W : Nat → Prop} {M : Mm} {a b sp dp n : Nat} (hw : W b) (ht : ¬ rO (mT M b)) : Fm W M (cI M a sp b dp n) := by
  refine ⟨Nat.le_refl _, fun _ _ => rfl, fun c hc h => ⟨rfl, ?_, rfl, rfl⟩⟩
  rw [mI_c1]
  rintro rfl
  rcases h with h | h
  · exact h hw
  · exact ht h
section COMP39
variable {E : Nat × Nat} {M M' : Mm} {W : Nat → Prop} {Q : Option Value → Mm → Prop} {w t g a c q q' p i b m s T : Nat} {o o' f f' : Nat → Nat} {F F' : Nat → Nat → Nat} {A : Ab} {x : Qa} {d : Da} {ms : List Ma} {l : La} {pt txt : List Int32}
theorem c_patTake (hA : PS M a) (hB : PS M b) (hab : a + 2 < b ∨ b + 2 < a) (hC : PC M b pt txt) (K : ∀ M' : Mm, Fm (fun z => a ≤ z ∧ z ≤ a + 2) M M' → Nw M M' → mR M' = mR M → (∀ z, ¬ (a ≤ z ∧ z ≤ a + 2) → mI M' z = mI M z) → PC M' a pt txt → Q none M') : J E 21 0 [.ref a, .ref b] [] M Q := by
  obtain ⟨a1, a2, a3, ⟨a4, a5⟩, ⟨a6, a7⟩⟩ := hA
  obtain ⟨b1, b2, b3, ⟨b4, b5⟩, ⟨b6, b7⟩⟩ := hB
  obtain ⟨⟨d1, d2⟩, ⟨d3, d4⟩, d5, d6, d7⟩ := hC
  have n5 : ∀ M2 : Mm, M2.1 = M.1 → ¬ rO (mT M2 a) := fun M2 e => by unfold mT; rw [e]; show ¬ rO (mT M a); rw [a1]; unfold rO; omega
  have n20 : ∀ (M2 : Mm) (z : Nat), M2.1 = M.1 → mT M z = 20 → ¬ rO (mT M2 z) := fun M2 z e h => by unfold mT; rw [e]; show ¬ rO (mT M z); rw [h]; unfold rO; omega
  refine J_p 1 (ls' := [_, _]) rfl ?_
  refine J_getR rfl b1 b2 ?_
  refine J_p 2 (ls' := [_, _]) rfl ?_
  refine J_getR rfl a1 a2 ?_
  refine J_p 2 (ls' := [_, _]) rfl ?_
  refine J_cpI (a := b + 1) (b := a + 1) (n := 4) (sp := 0) (dp := 0) rfl rfl rfl rfl b4 a4 (by rw [b5]; omega) (by rw [a5]; omega) (by rw [b5]; omega) (by rw [a5]; omega) rfl ?_
  obtain ⟨M1, hM1⟩ : ∃ M1, cI M (b + 1) 0 (a + 1) 0 4 = M1 := ⟨_, rfl⟩
  have t1 : M1.1 = M.1 := by rw [← hM1]; rfl
  have r1 : mR M1 = mR M := by rw [← hM1]; rfl
  have eT1 : ∀ z, mT M1 z = mT M z := fun z => by unfold mT; rw [t1]
  have eS1 : ∀ z, mS M1 z = mS M z := fun z => by unfold mS; rw [t1]
  have i1 : ∀ z, z ≠ a + 1 → mI M1 z = mI M z := fun z hz => by rw [← hM1]; exact mI_c1 _ _ _ _ _ hz
  have i1' : ∀ k, k < 4 → mI M1 (a + 1) k = mI M (b + 1) k := fun k hk => by rw [← hM1, mI_c0, if_pos ⟨by omega, by omega⟩, Nat.zero_add, Nat.sub_zero]
  have F1 : Fm (fun z => a ≤ z ∧ z ≤ a + 2) M M1 := by rw [← hM1]; exact Fm.cI ⟨by omega, by omega⟩ (n20 M _ rfl a4)
  have N1 : Nw M M1 := by rw [← hM1]; exact ⟨rfl, rfl, rfl⟩
  rw [hM1]
  refine J_p 1 (ls' := [_, _]) rfl ?_
  refine J_getR rfl (by rw [eT1]; exact b1) (by rw [r1]; exact b3) ?_
  refine J_p 2 (ls' := [_, _]) rfl ?_
  refine J_getR rfl (by rw [eT1]; exact a1) (by rw [r1]; exact a3) ?_
  refine J_p 2 (ls' := [_, _]) rfl ?_
  refine J_cpI (a := b + 2) (b := a + 2) (n := 19) (sp := 0) (dp := 0) rfl rfl rfl rfl (by rw [eT1]; exact b6) (by rw [eT1]; exact a6) (by rw [eS1, b7]; omega) (by rw [eS1, a7]; omega) (by rw [eS1, b7]; omega) (by rw [eS1, a7]; omega) rfl ?_
  obtain ⟨M2, hM2⟩ : ∃ M2, cI M1 (b + 2) 0 (a + 2) 0 19 = M2 := ⟨_, rfl⟩
  have t2 : M2.1 = M.1 := by rw [← hM2]; exact t1
  have r2 : mR M2 = mR M := by rw [← hM2]; exact r1
  have eT2 : ∀ z, mT M2 z = mT M z := fun z => by unfold mT; rw [t2]
  have i2 : ∀ z, z ≠ a + 1 → z ≠ a + 2 → mI M2 z = mI M z := fun z hz hz2 => by rw [← hM2, mI_c1 _ _ _ _ _ hz2]; exact i1 z hz
  have i2' : ∀ k, k < 4 → mI M2 (a + 1) k = mI M (b + 1) k := fun k hk => by rw [← hM2, mI_c1 _ _ _ _ _ (by omega)]; exact i1' k hk
  have i2'' : ∀ k, k < 19 → mI M2 (a + 2) k = mI M (b + 2) k := fun k hk => by rw [← hM2, mI_c0, if_pos ⟨by omega, by omega⟩, Nat.zero_add, Nat.sub_zero, i1 _ (by omega)]
  have F2 : Fm (fun z => a ≤ z ∧ z ≤ a + 2) M M2 := by rw [← hM2]; exact F1.trans (Fm.cI ⟨by omega, by omega⟩ (n20 M1 _ t1 a6))
  have N2 : Nw M M2 := by rw [← hM2]; exact N1.trans ⟨rfl, rfl, rfl⟩
  rw [hM2]
  have ib : mI M2 b = mI M b := i2 b (by omega) (by omega)
  have hba : b ≠ a := by omega
  have tb2 : mT M2 b = 5 := by rw [eT2]; exact b1
  have ta2 : mT M2 a = 5 := by rw [eT2]; exact a1
  refine J_p 2 (ls' := [_, _]) rfl ?_
  refine J_gi (z := nI txt.length) rfl tb2 (by rw [ib]; exact d1) ?_
  refine J_putI rfl ta2 (Or.inl rfl) ?_
  refine J_p 2 (ls' := [_, _]) rfl ?_
  refine J_gi (z := nI pt.length) rfl tb2 (by rw [mI_s1 _ _ _ hba, ib]; exact d3) ?_
  refine J_putI rfl ta2 (Or.inl rfl) ?_
  refine J_p 2 (ls' := [_, _]) rfl ?_
  refine J_gi (z := if pt.getD (pt.length - 1) 0 = -3 then nI 1 else nI 0) rfl tb2 (by rw [mI_s1 _ _ _ hba, mI_s1 _ _ _ hba, ib]; exact d5) ?_
  refine J_putI rfl ta2 (Or.inr (by split; exact Or.inr rfl; exact Or.inl rfl)) ?_
  refine J_p 2 (ls' := [_, _]) rfl ?_
  refine J_gi (z := mI M b 5) rfl tb2 (by rw [mI_s1 _ _ _ hba, mI_s1 _ _ _ hba, mI_s1 _ _ _ hba, ib]) ?_
  refine J_putI rfl ta2 (Or.inl rfl) ?_
  have W0 : (fun z => a ≤ z ∧ z ≤ a + 2) a := ⟨by omega, by omega⟩
  refine J_ret rfl rfl rfl (K _ ((((F2.trans (Fm.sI W0 (n5 _ t2))).trans (Fm.sI W0 (n5 _ t2))).trans (Fm.sI W0 (n5 _ t2))).trans (Fm.sI W0 (n5 _ t2))) (N2.trans ⟨rfl, rfl, rfl⟩) r2 (fun z hz => ?_) ⟨⟨?_, d2⟩, ⟨?_, d4⟩, ?_, fun k c hk => ?_, fun k c hk => ?_⟩)
  · rw [mI_s1 _ _ _ (by omega), mI_s1 _ _ _ (by omega), mI_s1 _ _ _ (by omega), mI_s1 _ _ _ (by omega), i2 z (by omega) (by omega)]
  · simp only [mI_s0]; rfl
  · simp only [mI_s0]; rfl
  · simp only [mI_s0]; rfl
  · have := li hk
    rw [mI_s1 _ _ _ (by omega), mI_s1 _ _ _ (by omega), mI_s1 _ _ _ (by omega), mI_s1 _ _ _ (by omega), i2' k (by omega)]
    exact d6 k c hk
  · have := li hk
    rw [mI_s1 _ _ _ (by omega), mI_s1 _ _ _ (by omega), mI_s1 _ _ _ (by omega), mI_s1 _ _ _ (by omega), i2'' k (by omega)]
    exact d7 k c hk
theorem c_letTake (hp : mT M p = 3) (hs : mT M s = 3) (hps : s ≠ p) (hL : CL M s l ms) (K : ∀ M' : Mm, Fm (fun z => z = p) M M' → Nw M M' → (∀ z, z ≠ p → mI M' z = mI M z ∧ mR M' z = mR M z) → CL M' p l ms → Q none M') : J E 13 0 [.ref p, .ref s] [] M Q := by
  obtain ⟨c0, c1, c2, c3, c4, c5, c6, c7, c8⟩ := hL
  have nr : ¬ rO (mT M p) := by rw [hp]; unfold rO; omega
  refine J_p 2 (ls' := [_, _]) rfl ?_
  refine J_gi (z := nI (l_m l)) rfl hs (by exact c0) ?_
  refine J_putI rfl hp (Or.inl rfl) ?_
  refine J_p 2 (ls' := [_, _]) rfl ?_
  refine J_gi (z := nI (kyA ms l)) rfl hs (by rw [mI_s1 _ _ _ hps]; exact c1) ?_
  refine J_putI rfl hp (Or.inl rfl) ?_
  refine J_p 2 (ls' := [_, _]) rfl ?_
  refine J_gi (z := nI (prA ms l)) rfl hs (by rw [mI_s1 _ _ _ hps]; rw [mI_s1 _ _ _ hps]; exact c2) ?_
  refine J_putI rfl hp (Or.inl rfl) ?_
  refine J_p 2 (ls' := [_, _]) rfl ?_
  refine J_gi (z := nI (pbA ms l)) rfl hs (by rw [mI_s1 _ _ _ hps]; rw [mI_s1 _ _ _ hps]; rw [mI_s1 _ _ _ hps]; exact c3) ?_
  refine J_putI rfl hp (Or.inl rfl) ?_
  refine J_p 2 (ls' := [_, _]) rfl ?_
  refine J_gi (z := nI (l_s l)) rfl hs (by rw [mI_s1 _ _ _ hps]; rw [mI_s1 _ _ _ hps]; rw [mI_s1 _ _ _ hps]; rw [mI_s1 _ _ _ hps]; exact c4) ?_
  refine J_putI rfl hp (Or.inl rfl) ?_
  refine J_p 2 (ls' := [_, _]) rfl ?_
  refine J_gi (z := nI (l_c l).length) rfl hs (by rw [mI_s1 _ _ _ hps]; rw [mI_s1 _ _ _ hps]; rw [mI_s1 _ _ _ hps]; rw [mI_s1 _ _ _ hps]; rw [mI_s1 _ _ _ hps]; exact c5) ?_
  refine J_putI rfl hp (Or.inl rfl) ?_
  refine J_p 2 (ls' := [_, _]) rfl ?_
  refine J_gi (z := whoI l) rfl hs (by rw [mI_s1 _ _ _ hps]; rw [mI_s1 _ _ _ hps]; rw [mI_s1 _ _ _ hps]; rw [mI_s1 _ _ _ hps]; rw [mI_s1 _ _ _ hps]; rw [mI_s1 _ _ _ hps]; exact c6) ?_
  refine J_putI rfl hp (Or.inl rfl) ?_
  refine J_p 2 (ls' := [_, _]) rfl ?_
  refine J_gi (z := tillI l) rfl hs (by rw [mI_s1 _ _ _ hps]; rw [mI_s1 _ _ _ hps]; rw [mI_s1 _ _ _ hps]; rw [mI_s1 _ _ _ hps]; rw [mI_s1 _ _ _ hps]; rw [mI_s1 _ _ _ hps]; rw [mI_s1 _ _ _ hps]; exact c7) ?_
  refine J_putI rfl hp (Or.inl rfl) ?_
  have e8 : ∀ N : Mm, Fm (fun z => z = p) M N → CaR N (l_c l) (mR M s 8) := fun N hF => c8.fr hF
  have F8 := (((((((Fm.sI (W := fun z => z = p) (M := M) (a := p) (k := 0) (z := nI (l_m l)) rfl nr).trans (Fm.sI (k := 1) (z := nI (kyA ms l)) rfl nr)).trans (Fm.sI (k := 2) (z := nI (prA ms l)) rfl nr)).trans (Fm.sI (k := 3) (z := nI (pbA ms l)) rfl nr)).trans (Fm.sI (k := 4) (z := nI (l_s l)) rfl nr)).trans (Fm.sI (k := 5) (z := nI (l_c l).length) rfl nr)).trans (Fm.sI (k := 6) (z := whoI l) rfl nr)).trans (Fm.sI (k := 7) (z := tillI l) rfl nr)
  obtain ⟨M8, hM8⟩ : ∃ M8, sI (sI (sI (sI (sI (sI (sI (sI M p 0 (nI (l_m l))) p 1 (nI (kyA ms l))) p 2 (nI (prA ms l))) p 3 (nI (pbA ms l))) p 4 (nI (l_s l))) p 5 (nI (l_c l).length)) p 6 (whoI l)) p 7 (tillI l) = M8 := ⟨_, rfl⟩
  have i8 : ∀ z, z ≠ p → mI M8 z = mI M z := fun z hz => by rw [← hM8, mI_s1 _ _ _ hz, mI_s1 _ _ _ hz, mI_s1 _ _ _ hz, mI_s1 _ _ _ hz, mI_s1 _ _ _ hz, mI_s1 _ _ _ hz, mI_s1 _ _ _ hz, mI_s1 _ _ _ hz]
  have r8 : mR M8 = mR M := by rw [← hM8]; rfl
  have t8 : M8.1 = M.1 := by rw [← hM8]; rfl
  have n8 : Nw M M8 := by rw [← hM8]; exact ⟨rfl, rfl, rfl⟩
  have hp8 : mT M8 p = 3 := by unfold mT; rw [t8]; exact hp
  have hs8 : mT M8 s = 3 := by unfold mT; rw [t8]; exact hs
  have v0 : mI M8 p 0 = nI (l_m l) := by rw [← hM8]; simp only [mI_s0]; rfl
  have v1 : mI M8 p 1 = nI (kyA ms l) := by rw [← hM8]; simp only [mI_s0]; rfl
  have v2 : mI M8 p 2 = nI (prA ms l) := by rw [← hM8]; simp only [mI_s0]; rfl
  have v3 : mI M8 p 3 = nI (pbA ms l) := by rw [← hM8]; simp only [mI_s0]; rfl
  have v4 : mI M8 p 4 = nI (l_s l) := by rw [← hM8]; simp only [mI_s0]; rfl
  have v5 : mI M8 p 5 = nI (l_c l).length := by rw [← hM8]; simp only [mI_s0]; rfl
  have v6 : mI M8 p 6 = whoI l := by rw [← hM8]; simp only [mI_s0]; rfl
  have v7 : mI M8 p 7 = tillI l := by rw [← hM8]; simp only [mI_s0]; rfl
  rw [hM8] at F8 ⊢
  have nr8 : ¬ rO (mT M8 p) := by rw [hp8]; unfold rO; omega
  refine J_p 2 (ls' := [_, _]) rfl ?_
  cases e : mR M s 8 with
  | none =>
    refine J_getN rfl hs8 (by rw [r8]; exact e) ?_
    refine J_putN rfl hp8 ?_
    refine J_ret rfl rfl rfl (K _ (F8.trans (Fm.sR rfl nr8)) (n8.trans ⟨rfl, rfl, rfl⟩) (fun z hz => ⟨i8 z hz, by rw [mR_s1 _ _ _ hz, r8]⟩) ⟨v0, v1, v2, v3, v4, v5, v6, v7, ?_⟩)
    rw [mR_s0, if_pos rfl, ← e]
    exact e8 _ (F8.trans (Fm.sR rfl nr8))
  | some c =>
    refine J_getR rfl hs8 (by rw [r8]; exact e) ?_
    refine J_putR rfl hp8 ?_
    refine J_ret rfl rfl rfl (K _ (F8.trans (Fm.sR rfl nr8)) (n8.trans ⟨rfl, rfl, rfl⟩) (fun z hz => ⟨i8 z hz, by rw [mR_s1 _ _ _ hz, r8]⟩) ⟨v0, v1, v2, v3, v4, v5, v6, v7, ?_⟩)
    rw [mR_s0, if_pos rfl, ← e]
    exact e8 _ (F8.trans (Fm.sR rfl nr8))
theorem c_deadTake (hp : mT M p = 2) (hs : mT M s = 2) (hD : DC M s d) (h1 : 1 ≤ (d_c d).length) (K : ∀ M' : Mm, Fm (fun z => z = p) M M' → Nw M M' → (∀ z, z ≠ p → mI M' z = mI M z ∧ mR M' z = mR M z) → DC M' p d → Q none M') : J E 9 0 [.ref p, .ref s] [] M Q := by
  obtain ⟨d1, d2, d3, d4⟩ := hD
  have nr : ¬ rO (mT M p) := by rw [hp]; unfold rO; omega
  cases hc : d_c d with
  | nil => rw [hc] at h1; exact absurd h1 (by decide)
  | cons y ys =>
    have d4' := d4
    rw [hc] at d4'
    obtain ⟨b, eb, _⟩ := d4'
    refine J_p 2 (ls' := [_, _]) rfl ?_
    refine J_gi rfl hs d1 ?_
    refine J_p 1 (ls' := [_, _]) rfl ?_
    refine J_gi rfl hs d2 ?_
    refine J_p 1 (ls' := [_, _]) rfl ?_
    refine J_gi rfl hs d3 ?_
    refine J_p 1 (ls' := [_, _]) rfl ?_
    refine J_getR rfl hs eb ?_
    refine J_call rfl rfl rfl (decide_eq_true hp) rfl (c_deadBegin hp ?_)
    show J _ _ _ _ _ _ _
    have hF : Fm (fun z => z = p) M (sR (sI (sI (sI M p 0 (nI (d_m d))) p 1 (nI (d_q d))) p 2 (nI (d_t d))) p 3 (some b)) := (((Fm.sI (W := fun z => z = p) rfl nr).trans (Fm.sI rfl nr)).trans (Fm.sI rfl nr)).trans (Fm.sR rfl nr)
    refine J_ret rfl rfl rfl (K _ hF ⟨rfl, rfl, rfl⟩ (fun z hz => ⟨?_, by rw [mR_s1 _ _ _ hz]; rfl⟩) ⟨?_, ?_, ?_, ?_⟩)
    · rw [mI_sR, mI_s1 _ _ _ hz, mI_s1 _ _ _ hz, mI_s1 _ _ _ hz]
    · rw [mI_sR]; simp only [mI_s0]; rfl
    · rw [mI_sR]; simp only [mI_s0]; rfl
    · rw [mI_sR]; simp only [mI_s0]; rfl
    · rw [mR_s0, if_pos rfl]
      have := d4.fr hF
      rw [eb] at this
      exact this
theorem c_queTake (hA : QS M a q f) (hB : QS M b q' f') (hab : a + 24 < b ∨ b + 24 < a) (hC : QC M b f' x ms) (he : q_ex x ≤ 1) (K : ∀ M' : Mm, Fm (Qw a) M M' → Nw M M' → (∀ z, ¬ Qw a z → mI M' z = mI M z ∧ mR M' z = mR M z) → QS M' a q f → QC M' a f x ms → Q none M') : J E 34 0 [.ref a, .ref b, U0] [] M Q := by
  have n20 := hC.n20
  have hC0 := hC
  obtain ⟨c1, ⟨c2, c2'⟩, c3, c4, c5, c6, c7, c8, c9, c10, c11, c12⟩ := hC
  refine J_p 1 (ls' := [_, _, _]) rfl ?_
  refine J_getR rfl hA.1 hA.2.2.1 ?_
  refine J_p 1 (ls' := [_, _, _]) rfl ?_
  refine J_getR rfl hB.1 hB.2.2.1 ?_
  refine J_call rfl rfl rfl (decide_eq_true hA.2.2.2.2.1.1) rfl (c_patTake hA.2.2.2.2.1 hB.2.2.2.2.1 (by omega) c1 (fun M1 hF1 hN1 hR1 hI1 hP1 => ?_))
  show J _ _ _ _ _ _ _
  have eT1 : ∀ z, mT M1 z = mT M z := fun z => by unfold mT; rw [hN1.1]
  have tA1 : mT M1 a = 6 := by rw [eT1]; exact hA.1
  have tB1 : mT M1 b = 6 := by rw [eT1]; exact hB.1
  have hba : b ≠ a := by omega
  have iB1 : mI M1 b = mI M b := hI1 b (by omega)
  have nr : ¬ rO (mT M1 a) := by rw [tA1]; unfold rO; omega
  refine J_p 2 (ls' := [_, _, _]) rfl ?_
  refine J_gi (z := nI (q_ls x).length) rfl tB1 (by rw [iB1]; exact c2) ?_
  refine J_putI rfl tA1 (Or.inl rfl) ?_
  refine J_p 2 (ls' := [_, _, _]) rfl ?_
  refine J_gi (z := nI (q_li x)) rfl tB1 (by rw [mI_s1 _ _ _ hba]; rw [iB1]; exact c3) ?_
  refine J_putI rfl tA1 (Or.inl rfl) ?_
  refine J_p 2 (ls' := [_, _, _]) rfl ?_
  refine J_gi (z := nI (q_tr x)) rfl tB1 (by rw [mI_s1 _ _ _ hba]; rw [mI_s1 _ _ _ hba]; rw [iB1]; exact c4) ?_
  refine J_putI rfl tA1 (Or.inl rfl) ?_
  refine J_p 2 (ls' := [_, _, _]) rfl ?_
  refine J_gi (z := nI (q_le x)) rfl tB1 (by rw [mI_s1 _ _ _ hba]; rw [mI_s1 _ _ _ hba]; rw [mI_s1 _ _ _ hba]; rw [iB1]; exact c5) ?_
  refine J_putI rfl tA1 (Or.inl rfl) ?_
  refine J_p 2 (ls' := [_, _, _]) rfl ?_
  refine J_gi (z := nI (q_ag x)) rfl tB1 (by rw [mI_s1 _ _ _ hba]; rw [mI_s1 _ _ _ hba]; rw [mI_s1 _ _ _ hba]; rw [mI_s1 _ _ _ hba]; rw [iB1]; exact c6) ?_
  refine J_putI rfl tA1 (Or.inl rfl) ?_
  refine J_p 2 (ls' := [_, _, _]) rfl ?_
  refine J_gi (z := nI (q_ex x)) rfl tB1 (by rw [mI_s1 _ _ _ hba]; rw [mI_s1 _ _ _ hba]; rw [mI_s1 _ _ _ hba]; rw [mI_s1 _ _ _ hba]; rw [mI_s1 _ _ _ hba]; rw [iB1]; exact c7) ?_
  refine J_putI rfl tA1 (Or.inr (by rcases (show q_ex x = 0 ∨ q_ex x = 1 by omega) with e | e; exact Or.inl (by rw [e]; rfl); exact Or.inr (by rw [e]; rfl))) ?_
  refine J_p 2 (ls' := [_, _, _]) rfl ?_
  refine J_gi (z := nI (q_l1 x) - nI 1) rfl tB1 (by rw [mI_s1 _ _ _ hba]; rw [mI_s1 _ _ _ hba]; rw [mI_s1 _ _ _ hba]; rw [mI_s1 _ _ _ hba]; rw [mI_s1 _ _ _ hba]; rw [mI_s1 _ _ _ hba]; rw [iB1]; exact c8) ?_
  refine J_putI rfl tA1 (Or.inl rfl) ?_
  refine J_p 2 (ls' := [_, _, _]) rfl ?_
  refine J_gi (z := q_gv x) rfl tB1 (by rw [mI_s1 _ _ _ hba]; rw [mI_s1 _ _ _ hba]; rw [mI_s1 _ _ _ hba]; rw [mI_s1 _ _ _ hba]; rw [mI_s1 _ _ _ hba]; rw [mI_s1 _ _ _ hba]; rw [mI_s1 _ _ _ hba]; rw [iB1]; exact c9) ?_
  refine J_putI rfl tA1 (Or.inl rfl) ?_
  refine J_p 2 (ls' := [_, _, _]) rfl ?_
  refine J_gi (z := q_ak x) rfl tB1 (by rw [mI_s1 _ _ _ hba]; rw [mI_s1 _ _ _ hba]; rw [mI_s1 _ _ _ hba]; rw [mI_s1 _ _ _ hba]; rw [mI_s1 _ _ _ hba]; rw [mI_s1 _ _ _ hba]; rw [mI_s1 _ _ _ hba]; rw [mI_s1 _ _ _ hba]; rw [iB1]; exact c10) ?_
  refine J_putI rfl tA1 (Or.inl rfl) ?_
  refine J_p 2 (ls' := [_, _, _]) rfl ?_
  refine J_gi (z := q_di x) rfl tB1 (by rw [mI_s1 _ _ _ hba]; rw [mI_s1 _ _ _ hba]; rw [mI_s1 _ _ _ hba]; rw [mI_s1 _ _ _ hba]; rw [mI_s1 _ _ _ hba]; rw [mI_s1 _ _ _ hba]; rw [mI_s1 _ _ _ hba]; rw [mI_s1 _ _ _ hba]; rw [mI_s1 _ _ _ hba]; rw [iB1]; exact c11) ?_
  refine J_putI rfl tA1 (Or.inl rfl) ?_
  obtain ⟨M2, hM2⟩ : ∃ M2, sI (sI (sI (sI (sI (sI (sI (sI (sI (sI M1 a 3 (nI (q_ls x).length)) a 4 (nI (q_li x))) a 5 (nI (q_tr x))) a 6 (nI (q_le x))) a 7 (nI (q_ag x))) a 8 (nI (q_ex x))) a 9 (nI (q_l1 x) - nI 1)) a 10 (q_gv x)) a 11 (q_ak x)) a 12 (q_di x) = M2 := ⟨_, rfl⟩
  have r2 : mR M2 = mR M := by rw [← hM2]; exact hR1
  have i2 : ∀ z, z ≠ a → mI M2 z = mI M1 z := fun z hz => by rw [← hM2, mI_s1 _ _ _ hz, mI_s1 _ _ _ hz, mI_s1 _ _ _ hz, mI_s1 _ _ _ hz, mI_s1 _ _ _ hz, mI_s1 _ _ _ hz, mI_s1 _ _ _ hz, mI_s1 _ _ _ hz, mI_s1 _ _ _ hz, mI_s1 _ _ _ hz]
  have N2 : Nw M M2 := by rw [← hM2]; exact hN1.trans ⟨rfl, rfl, rfl⟩
  have Wa : Qw a a := ⟨by omega, by omega⟩
  have F2 : Fm (Qw a) M M2 := by
    rw [← hM2]
    have h0 : Fm (Qw a) M M1 := hF1.mono (fun z h => ⟨by omega, by omega⟩)
    exact ((((((((((h0.trans (Fm.sI Wa nr)).trans (Fm.sI Wa nr)).trans (Fm.sI Wa nr)).trans (Fm.sI Wa nr)).trans (Fm.sI Wa nr)).trans (Fm.sI Wa nr)).trans (Fm.sI Wa nr)).trans (Fm.sI Wa nr)).trans (Fm.sI Wa nr)).trans (Fm.sI Wa nr))
  have w0 : mI M2 a 0 = mI M a 0 := by
    rw [← hM2, ← hI1 a (by omega)]
    simp only [mI_s0]
    rfl
  have w3 : mI M2 a 3 = nI (q_ls x).length := by rw [← hM2]; simp only [mI_s0]; rfl
  have w4 : mI M2 a 4 = nI (q_li x) := by rw [← hM2]; simp only [mI_s0]; rfl
  have w5 : mI M2 a 5 = nI (q_tr x) := by rw [← hM2]; simp only [mI_s0]; rfl
  have w6 : mI M2 a 6 = nI (q_le x) := by rw [← hM2]; simp only [mI_s0]; rfl
  have w7 : mI M2 a 7 = nI (q_ag x) := by rw [← hM2]; simp only [mI_s0]; rfl
  have w8 : mI M2 a 8 = nI (q_ex x) := by rw [← hM2]; simp only [mI_s0]; rfl
  have w9 : mI M2 a 9 = nI (q_l1 x) - nI 1 := by rw [← hM2]; simp only [mI_s0]; rfl
  have w10 : mI M2 a 10 = q_gv x := by rw [← hM2]; simp only [mI_s0]; rfl
  have w11 : mI M2 a 11 = q_ak x := by rw [← hM2]; simp only [mI_s0]; rfl
  have w12 : mI M2 a 12 = q_di x := by rw [← hM2]; simp only [mI_s0]; rfl
  rw [hM2]
  have loop : ∀ (d kk : Nat) (Mk : Mm), kk + d = (q_ls x).length → Fm (Qw a) M Mk → Nw M Mk → (∀ z, ¬ Qw a z → mI Mk z = mI M z ∧ mR Mk z = mR M z) → (∀ z, a ≤ z → z < a + 5 → mI Mk z = mI M2 z ∧ mR Mk z = mR M z) → (∀ (i : Nat) (l : La), i < kk → (q_ls x)[i]? = some l → CL Mk (a + 5 + f i) l ms) → J E 34 93 [.ref a, .ref b, .int (nI kk)] [] Mk Q := by
    intro d
    induction d with
    | zero =>
      intro kk Mk hk hF hN hO hI hL
      obtain rfl : kk = (q_ls x).length := by omega
      have eT : ∀ z, mT Mk z = mT M z := fun z => by unfold mT; rw [hN.1]
      refine J_p 2 (ls' := [_, _, _]) rfl ?_
      refine J_gi (z := nI (q_ls x).length) rfl (by rw [eT]; exact hA.1) (by rw [(hI a (by omega) (by omega)).1]; exact w3) ?_
      refine J_ige rfl (fun _ => ?_) (fun y => absurd (nI_le (by omega) (by omega)) y)
      have ea := (hI a (by omega) (by omega)).1
      refine J_ret rfl rfl rfl (K Mk hF hN hO (hA.sm hN.1 (by rw [ea]; exact w0) (fun b h1 h2 => (hI b h1 (by omega)).2)) ⟨hP1.fr ?_ ?_ ?_, ⟨by rw [ea]; exact w3, n20⟩, by rw [ea]; exact w4, by rw [ea]; exact w5, by rw [ea]; exact w6, by rw [ea]; exact w7, by rw [ea]; exact w8, by rw [ea]; exact w9, by rw [ea]; exact w10, by rw [ea]; exact w11, by rw [ea]; exact w12, fun i l hl => hL i l (li hl) hl⟩)
      · rw [(hI (a + 1) (by omega) (by omega)).1, i2 _ (by omega)]
      · rw [(hI (a + 1 + 1) (by omega) (by omega)).1, i2 _ (by omega)]
      · rw [(hI (a + 1 + 2) (by omega) (by omega)).1, i2 _ (by omega)]
    | succ d ih =>
      intro kk Mk hk hF hN hO hI hL
      have eT : ∀ z, mT Mk z = mT M z := fun z => by unfold mT; rw [hN.1]
      have eS : ∀ z, mS Mk z = mS M z := fun z => by unfold mS; rw [hN.1]
      obtain ⟨l, hl⟩ := get_of (l := q_ls x) (i := kk) (by omega)
      have fl := hA.lt (i := kk) (by omega)
      have fl' := hB.lt (i := kk) (by omega)
      have nQ : ∀ z, b ≤ z → z < b + 25 → ¬ Qw a z := fun z h1 h2 h => by unfold Qw at h; omega
      refine J_p 2 (ls' := [_, _, _]) rfl ?_
      refine J_gi (z := nI (q_ls x).length) rfl (by rw [eT]; exact hA.1) (by rw [(hI a (by omega) (by omega)).1]; exact w3) ?_
      refine J_ige rfl (fun y => absurd y (nI_ge (by omega) (by omega))) (fun _ => ?_)
      refine J_p 2 (ls' := [_, _, _]) rfl ?_
      refine J_ige rfl (fun y => absurd y (nI_ge (by omega) (by omega))) (fun _ => ?_)
      refine J_p 1 (ls' := [_, _, _]) rfl ?_
      refine J_getR rfl (by rw [eT]; exact hA.1) (by rw [(hI a (by omega) (by omega)).2]; exact hA.2.2.2.1) ?_
      refine J_p 1 (ls' := [_, _, _]) rfl ?_
      refine J_aald (n := kk) (L := 20) rfl rfl (by rw [eT, hA.2.2.2.2.2.1]; rfl) (by rw [eS]; exact hA.2.2.2.2.2.2.1) (by omega) (by omega) (by rw [(hI (a + 4) (by omega) (by omega)).2]; exact hA.el (by omega)) ?_
      refine J_p 1 (ls' := [_, _, _]) rfl ?_
      refine J_getR rfl (by rw [eT]; exact hB.1) (by rw [(hO b (nQ b (by omega) (by omega))).2]; exact hB.2.2.2.1) ?_
      refine J_p 1 (ls' := [_, _, _]) rfl ?_
      refine J_aald (n := kk) (L := 20) rfl rfl (by rw [eT, hB.2.2.2.2.2.1]; rfl) (by rw [eS]; exact hB.2.2.2.2.2.2.1) (by omega) (by omega) (by rw [(hO (b + 4) (nQ _ (by omega) (by omega))).2]; exact hB.el (by omega)) ?_
      have hCL : CL Mk (b + 5 + f' kk) l ms := (c12 kk l hl).fr hF (hO _ (nQ _ (by omega) (by omega))).1 (hO _ (nQ _ (by omega) (by omega))).2
      refine J_call rfl rfl rfl (decide_eq_true (by rw [eT]; exact hA.t3 (by omega))) rfl (c_letTake (by rw [eT]; exact hA.t3 (by omega)) (by rw [eT]; exact hB.t3 (by omega)) (by omega) hCL (fun M3 hF3 hN3 hO3 hL3 => ?_))
      show J _ _ _ _ _ _ _
      refine J_p 2 (ls' := [_, _, _]) rfl ?_
      rw [nI_add kk 1]
      refine ih (kk + 1) M3 (by omega) (hF.trans (hF3.mono (fun z e => ⟨by omega, by omega⟩))) (hN.trans hN3) (fun z hz => ?_) (fun z h1 h2 => ?_) (fun i y hi hy => ?_)
      · have hne : z ≠ a + 5 + f kk := fun e => hz ⟨by omega, by omega⟩
        exact ⟨(hO3 z hne).1.trans (hO z hz).1, (hO3 z hne).2.trans (hO z hz).2⟩
      · exact ⟨(hO3 z (by omega)).1.trans (hI z h1 h2).1, (hO3 z (by omega)).2.trans (hI z h1 h2).2⟩
      · by_cases c : i = kk
        · subst c
          rw [hl] at hy
          cases hy
          exact hL3
        · have hne : a + 5 + f i ≠ a + 5 + f kk := fun e => c (hA.2.2.2.2.2.2.2.2.1 i kk (by omega) (by omega) (by omega))
          exact (hL i y (by omega) hy).fr hF3 (hO3 _ hne).1 (hO3 _ hne).2
  refine J_p 2 (ls' := [_, _, _]) rfl ?_
  refine loop (q_ls x).length 0 M2 (by omega) F2 N2 (fun z hz => ?_) (fun z h1 h2 => ⟨rfl, by rw [r2]⟩) (fun i l hi => absurd hi (by omega))
  have hza : z ≠ a := fun e => hz (by rw [e]; exact Wa)
  exact ⟨by rw [i2 z hza, hI1 z (fun h => hz ⟨by omega, by omega⟩)], by rw [r2]⟩
end COMP39