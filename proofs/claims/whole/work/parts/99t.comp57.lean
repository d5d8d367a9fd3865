/-! THE REFERENCE'S METHODS OVER THE WHOLE STATE; what a call keeps. -/
section PUBL
variable {E : Nat × Nat} {M : Mm} {r T : Nat} {g : Nat → Int32} {A : Ab} {Q : Option Value → Mm → Prop}
theorem p_publish (hS : RS M r) (hW : WS M r) (h : Rep g A) (w : Wf T A) (hT : T + 99 < 2 ^ 20) (key pr v : Int32) (kR : ∀ (rw_ : Nat) (v_ : Int32), fPublish A key pr v = .inl rw_ → v_ = rfN rw_ → Q (some (.int v_)) (wI (rfM M r rw_) (r + 1) g)) (kO : ∀ (a : Int32) (B : Ab), fPublish A key pr v = .inr (a, B) → ∀ g' : Nat → Int32, Rep g' B → Wf (T + 99) B → Q (some (.int a)) (wI M (r + 1) g')) : J E 192 0 [.ref r, .int key, .int pr, .int v] [] (wI M (r + 1) g) Q := by
  have t4 := h.2.2.2.2.2.2.1.1
  have m300 := h.2.2.1.1
  have R0 : fPublish A key pr v = .inl 0 → J E 192 24 [.ref r, .int key, .int pr, .int v] [] (wI M (r + 1) g) Q := fun h0 => by
    refine J_p 2 (ls' := [_, _, _, _]) rfl ?_
    refine J_call rfl rfl rfl (decide_eq_true hS.t) rfl (c_refused hS 0 (by decide) (by decide) ?_)
    show J _ _ _ _ _ _ _
    exact J_ret rfl rfl rfl (kR 0 _ h0 (by decide))
  refine J_p 4 (ls' := [_, _, _, _]) rfl ?_
  refine J_call rfl rfl rfl rfl rfl (c_inZ0 (b := 7) (b1 := 8) (by omega) rfl (fun i e1 i8 ei => ?_) (fun e1 => ?_))
  · show J _ _ _ _ _ _ _
    refine J_zeq rfl (fun y => absurd y (by decide)) (fun _ => ?_)
    refine J_p 4 (ls' := [_, _, _, _]) rfl ?_
    refine J_call rfl rfl rfl rfl rfl (c_inZ0 (b := 3) (b1 := 4) (by omega) rfl (fun j e2 j4 ej => ?_) (fun e2 => ?_))
    · show J _ _ _ _ _ _ _
      subst ei
      subst ej
      refine J_zne rfl (fun _ => ?_) (fun y => absurd y (by decide))
      refine J_p 1 (ls' := [_, _, _, _]) rfl ?_
      refine J_getR rfl hS.t hS.f0 ?_
      refine J_p 1 (ls' := [_, _, _, _]) rfl ?_
      refine J_gld (n := 6) rfl rfl hS (by omega) h.2.2.2.2.2.2.1.2.1 ?_
      refine J_zne rfl (fun y => ?_) (fun y => ?_)
      · have e0 : ¬ (a_t A).length = 0 := fun e => y (by rw [e]; rfl)
        refine J_p 1 (ls' := [_, _, _, _]) rfl ?_
        refine J_getR rfl hS.t hS.f0 ?_
        refine J_p 1 (ls' := [_, _, _, _]) rfl ?_
        refine J_gld (n := 2) rfl rfl hS (by omega) h.2.2.1.2.1 ?_
        refine J_p 1 (ls' := [_, _, _, _]) rfl ?_
        refine J_ine rfl (fun z => ?_) (fun z => ?_)
        · have e3 : ¬ (a_m A).length = 300 := fun e => z (by rw [e])
          refine J_p 4 (ls' := [_, _, _, _]) rfl ?_
          refine J_call rfl rfl rfl (decide_eq_true hS.t) rfl (c_publishesA (m := (a_m A).length) hS h w i8 j4 (by omega) rfl (by omega) (fun g' h' w' => ?_))
          show J _ _ _ _ _ _ _
          exact J_ret rfl rfl rfl (kO _ _ (by simp only [fPublish, e1, e2, if_neg e0, if_neg e3]) g' h' (w'.mono (by omega) hT))
        · have e3 : (a_m A).length = 300 := (nI_eq (by omega) (by omega)).mp z
          refine J_p 2 (ls' := [_, _, _, _]) rfl ?_
          refine J_call rfl rfl rfl (decide_eq_true hS.t) rfl (c_refused hS 4 (by decide) (by decide) ?_)
          show J _ _ _ _ _ _ _
          refine J_p 1 (ls' := [_, _, _, _]) rfl ?_
          exact J_ret rfl rfl rfl (kR 4 _ (by simp only [fPublish, e1, e2, if_neg e0, if_pos e3]) (by decide))
      · have e0 : (a_t A).length = 0 := (nI_eq (b := 0) (by omega) (by omega)).mp y
        refine J_p 2 (ls' := [_, _, _, _]) rfl ?_
        refine J_call rfl rfl rfl (decide_eq_true hS.t) rfl (c_refused hS 3 (by decide) (by decide) ?_)
        show J _ _ _ _ _ _ _
        exact J_ret rfl rfl rfl (kR 3 _ (by simp only [fPublish, e1, e2, if_pos e0]) (by decide))
    · show J _ _ _ _ _ _ _
      refine J_zne rfl (fun y => absurd rfl y) (fun _ => ?_)
      exact R0 (by simp only [fPublish, e1, e2])
  · show J _ _ _ _ _ _ _
    refine J_zeq rfl (fun _ => ?_) (fun y => absurd rfl y)
    exact R0 (by simp only [fPublish, e1])
end PUBL
def AhS (S : St) : Prop := Ah (s_a S) ∧ ∀ K, s_k S = some K → Ah K
/-- what a call of a method of the present keeps -/
def IvF (A : Ab) (f : Rs) : Prop := ∀ (a : Int32) (B : Ab), f = .inr (a, B) → Ah B ∧ ∃ R, a_m B = a_m A ++ R
theorem iv_lift {f : Ab → Rs} {S : St} (hi : IvF (s_a S) (f (s_a S))) (hV : PrS S) (hA : AhS S) : PrS (lfS f S).2 ∧ AhS (lfS f S).2 := by
  unfold lfS
  cases e : f (s_a S) with
  | inl w => exact ⟨hV, hA⟩
  | inr p =>
    obtain ⟨a, B⟩ := p
    obtain ⟨h1, R, h2⟩ := hi a B e
    refine ⟨fun K ek => ?_, h1, hA.2⟩
    obtain ⟨R0, h0⟩ := hV K ek
    exact ⟨R0 ++ R, by show a_m B = _; rw [h2, h0, List.append_assoc]⟩
theorem iv_same {A : Ab} {f : Rs} (ha : Ah A) (h : ∀ (a : Int32) (B : Ab), f = .inr (a, B) → B = A) : IvF A f := fun a B e => by
  rw [h a B e]
  exact ⟨ha, [], (List.append_nil _).symm⟩
section IVF
variable {A : Ab} {T : Nat}

theorem sm_queueOf (q v : Int32) : ∀ (a : Int32) (B : Ab), fQueueOf A q v = .inr (a, B) → B = A := fun a B h => by
  unfold fQueueOf at h
  repeat' split at h
  all_goals first | (cases h; done) | (cases h; rfl)

theorem sm_letter (q i v : Int32) : ∀ (a : Int32) (B : Ab), fLetter A q i v = .inr (a, B) → B = A := fun a B h => by
  unfold fLetter at h
  repeat' split at h
  all_goals first | (cases h; done) | (cases h; rfl)

theorem sm_pattern (q i : Int32) : ∀ (a : Int32) (B : Ab), fPattern A q i = .inr (a, B) → B = A := fun a B h => by
  unfold fPattern at h
  repeat' split at h
  all_goals first | (cases h; done) | (cases h; rfl)

theorem sm_next (q v : Int32) : ∀ (a : Int32) (B : Ab), fNext A q v = .inr (a, B) → B = A := fun a B h => by
  unfold fNext at h
  repeat' split at h
  all_goals first | (cases h; done) | (cases h; rfl)

theorem sm_dead (i v : Int32) : ∀ (a : Int32) (B : Ab), fDead A i v = .inr (a, B) → B = A := fun a B h => by
  unfold fDead at h
  repeat' split at h
  all_goals first | (cases h; done) | (cases h; rfl)

theorem sm_cause (i kk v : Int32) : ∀ (a : Int32) (B : Ab), fCause A i kk v = .inr (a, B) → B = A := fun a B h => by
  unfold fCause at h
  repeat' split at h
  all_goals first | (cases h; done) | (cases h; rfl)

theorem sm_consumerOf (c v : Int32) : ∀ (a : Int32) (B : Ab), fConsumerOf A c v = .inr (a, B) → B = A := fun a B h => by
  unfold fConsumerOf at h
  repeat' split at h
  all_goals first | (cases h; done) | (cases h; rfl)

theorem sm_held (c i : Int32) : ∀ (a : Int32) (B : Ab), fHeld A c i = .inr (a, B) → B = A := fun a B h => by
  unfold fHeld at h
  repeat' split at h
  all_goals first | (cases h; done) | (cases h; rfl)

theorem sm_blocked (q : Int32) : ∀ (a : Int32) (B : Ab), fBlocked A q = .inr (a, B) → B = A := fun a B h => by
  unfold fBlocked at h
  repeat' split at h
  all_goals first | (cases h; done) | (cases h; rfl)

theorem sm_messageOf (m v : Int32) : ∀ (a : Int32) (B : Ab), fMessageOf A m v = .inr (a, B) → B = A := fun a B h => by
  unfold fMessageOf at h
  repeat' split at h
  all_goals first | (cases h; done) | (cases h; rfl)

theorem sm_fits  : ∀ (a : Int32) (B : Ab), fFits A = .inr (a, B) → B = A := fun a B h => by
  unfold fFits at h
  repeat' split at h
  all_goals first | (cases h; done) | (cases h; rfl)

theorem sm_covers (q p : Int32) : ∀ (a : Int32) (B : Ab), fCovers A q p = .inr (a, B) → B = A := fun a B h => by
  unfold fCovers at h
  repeat' split at h
  all_goals first | (cases h; done) | (cases h; rfl)

theorem sm_drained (q i : Int32) : ∀ (a : Int32) (B : Ab), fDrained A q i = .inr (a, B) → B = A := fun a B h => by
  unfold fDrained at h
  repeat' split at h
  all_goals first | (cases h; done) | (cases h; rfl)

theorem sm_until (q : Int32) : ∀ (a : Int32) (B : Ab), fUntil A q = .inr (a, B) → B = A := fun a B h => by
  unfold fUntil at h
  repeat' split at h
  all_goals first | (cases h; done) | (cases h; rfl)

theorem sm_doomed (n : Int32) : ∀ (a : Int32) (B : Ab), fDoomed A n = .inr (a, B) → B = A := fun a B h => by
  unfold fDoomed at h
  repeat' split at h
  all_goals first | (cases h; done) | (cases h; rfl)

theorem iv_give (hW : Wf T A) (ha : Ah A) (q : Int32) : IvF A (fGive A q) := fun a B h => by
  unfold fGive at h
  split at h
  · cases h
  · split at h
    · cases h
      exact ⟨ha, [], (List.append_nil _).symm⟩
    · rename_i p hg
      cases h
      exact ⟨ha.give (m := p.2) hW hg, [], by rw [List.append_nil]; exact giv_m2 (m := p.2) hg⟩
theorem iv_giveAll (hW : Wf T A) (ha : Ah A) (q : Int32) : IvF A (fGiveAll A q) := fun a B h => by
  unfold fGiveAll at h
  split at h
  · cases h
  · rename_i j _
    cases h
    obtain ⟨h1, h2⟩ := ah_giveAll (q := j) 21 A hW ha
    exact ⟨h1, [], by rw [List.append_nil]; exact h2⟩
theorem iv_pass (hW : Wf T A) (hT : T + 100 < 2 ^ 20) (ha : Ah A) (n : Int32) : IvF A (fPass A n) := fun a B h => by
  unfold fPass at h
  split at h
  · cases h
  · rename_i j hj
    have := (ixN_some hj).1
    cases h
    exact ⟨ah_pass j A T hW (by omega) ha, [], by rw [List.append_nil]; exact passA_m _ _⟩
theorem iv_exclusive (ha : Ah A) (q v : Int32) : IvF A (fExclusive A q v) := fun a B h => by
  unfold fExclusive at h
  split at h
  · cases h
  · split at h
    · cases h
    · split at h
      · cases h
      · rename_i j _ _ bb _ _ x hx
        cases h
        exact ⟨ha.qq (q := j) (x' := x_ex x bb) (fun y hy hs => ha j x y hx hy hs) rfl rfl, [], (List.append_nil _).symm⟩
theorem iv_consumer (ha : Ah A) (q : Int32) : IvF A (fConsumer A q) := fun a B h => by
  unfold fConsumer at h
  split at h
  · cases h
  · split at h
    · cases h
    · cases h
      exact ⟨ha.cg rfl rfl, [], (List.append_nil _).symm⟩
theorem iv_seed (ha : Ah A) (v : Int32) : IvF A (fSeed A v) := fun a B h => by
  cases h
  exact ⟨ha.cg rfl rfl, [], (List.append_nil _).symm⟩
theorem iv_credit (ha : Ah A) (q n : Int32) : IvF A (fCredit2 A q n) := fun a B h => by
  unfold fCredit2 at h
  split at h
  · cases h
  · split at h
    · cases h
    · split at h
      · cases h
      · split at h
        · cases h
          exact ⟨ha.cg rfl rfl, [], (List.append_nil _).symm⟩
        · cases h
theorem iv_ack (ha : Ah A) (c m : Int32) : IvF A (fAck A c m) := fun a B h => by
  unfold fAck at h
  repeat' split at h
  all_goals first | (cases h; done) | skip
  rename_i x hx _ i hi
  cases h
  exact ⟨ha.ack hx, [], (List.append_nil _).symm⟩
theorem iv_nack (ha : Ah A) (c m : Int32) : IvF A (fNack A c m) := fun a B h => by
  unfold fNack at h
  repeat' split at h
  all_goals first | (cases h; done) | skip
  rename_i x hx _ i hi _ l hl
  cases h
  exact ⟨ha.fail hx, [], by rw [List.append_nil]; exact failL_m ..⟩
theorem iv_leave (ha : Ah A) (q : Int32) : IvF A (fLeave A q) := fun a B h => by
  unfold fLeave at h
  repeat' split at h
  all_goals first | (cases h; done) | skip
  rename_i c _ _ k hk _ x hx
  cases h
  refine ⟨ha.qq (q := k_q k) (x' := x_ls x (backL (q_ls x) c)) (fun y hy hs => ?_) rfl rfl, [], (List.append_nil _).symm⟩
  obtain ⟨l, hl, e⟩ := List.mem_map.mp (show y ∈ (q_ls x).map (bkL c) from hy)
  subst e
  unfold bkL at hs ⊢
  split
  · rename_i c1
    rw [if_pos c1] at hs
    exact absurd rfl hs
  · rename_i c1
    rw [if_neg c1] at hs
    exact ha _ x l hx hl hs
theorem iv_revive (ha : Ah A) (i : Int32) : IvF A (fRevive A i) := fun a B h => by
  unfold fRevive at h
  repeat' split at h
  all_goals first | (cases h; done) | skip
  rename_i d hd _ x hx hne
  cases h
  have h1 : Ah (comeA A (d_q d) x (d_m d)) := by
    have := ha.into (m := d_m d) hx
    unfold intoA at this
    rw [if_neg hne] at this
    exact this
  exact ⟨h1.cg rfl rfl, [], (List.append_nil _).symm⟩
theorem iv_bury (ha : Ah A) (q : Int32) : IvF A (fBury2 A q) := fun a B h => by
  unfold fBury2 at h
  split at h
  · cases h
  · cases h
    exact ⟨ha.cg rfl rfl, [], (List.append_nil _).symm⟩
theorem iv_purge (ha : Ah A) (q : Int32) : IvF A (fPurge A q) := fun a B h => by
  unfold fPurge at h
  split at h
  · cases h
  · split at h
    · cases h
    · rename_i j _ _ x hx
      cases h
      exact ⟨ha.qq (q := j) (x' := x_ls x (puA (q_ls x).length (q_ls x)).1) (fun y hy hs => ha j x y hx (pu_mem _ _ hy) hs) rfl rfl, [], (List.append_nil _).symm⟩
theorem iv_publish (ha : Ah A) (key pr v : Int32) : IvF A (fPublish A key pr v) := fun a B h => by
  unfold fPublish at h
  repeat' split at h
  all_goals first | (cases h; done) | skip
  cases h
  exact ⟨ha.send, sendA_m _ _ _ _⟩
theorem iv_days (hW : Wf T A) (hT : T + 100 < 2 ^ 20) (h4 : (a_t A).length ≤ 4) (ha : Ah A) (n : Int32) : IvF A (fDays A n) := fun a B h => by
  unfold fDays at h
  split at h
  · cases h
  · rename_i j hj
    have := (inNB_some hj).2.2
    cases h
    exact ⟨ah_days j A T hW h4 (by omega) ha, daysA_m _ _⟩
end IVF
section PUBM
variable {E : Nat × Nat} {M M' : Mm} {r b T : Nat} {S : St} {Q : Option Value → Mm → Prop}

theorem r_give (h : RR M r S) (w : WfS T S) (hT : T + 100 < 2 ^ 20) (ha : Ah (s_a S)) (q : Int32) (k : ∀ M' : Mm, Fr r M M' → RR M' r (lfS (fun A => fGive A q) S).2 → WfS (T + 99) (lfS (fun A => fGive A q) S).2 → Q (some (.int (lfS (fun A => fGive A q) S).1)) M') : J E 198 0 [.ref r, .int q] [] M Q :=
  liftP (f := fun A => fGive A q) h w hT (fun a B e => by obtain ⟨_, R, hR⟩ := iv_give w.1 ha q a B e; rw [hR, List.length_append]; exact Nat.le_add_right _ _) (fun g hg kR kO => p_give h.1 h.ws hg w.1 (by omega) q kR kO) k

theorem r_pass (h : RR M r S) (w : WfS T S) (hT : T + 100 < 2 ^ 20) (ha : Ah (s_a S)) (n : Int32) (k : ∀ M' : Mm, Fr r M M' → RR M' r (lfS (fun A => fPass A n) S).2 → WfS (T + 99) (lfS (fun A => fPass A n) S).2 → Q (some (.int (lfS (fun A => fPass A n) S).1)) M') : J E 212 0 [.ref r, .int n] [] M Q :=
  liftP (f := fun A => fPass A n) h w hT (fun a B e => by obtain ⟨_, R, hR⟩ := iv_pass w.1 hT ha n a B e; rw [hR, List.length_append]; exact Nat.le_add_right _ _) (fun g hg kR kO => p_pass h.1 h.ws hg w.1 (by omega) n kR kO) k

theorem r_exclusive (h : RR M r S) (w : WfS T S) (hT : T + 100 < 2 ^ 20) (ha : Ah (s_a S)) (q v : Int32) (k : ∀ M' : Mm, Fr r M M' → RR M' r (lfS (fun A => fExclusive A q v) S).2 → WfS (T + 99) (lfS (fun A => fExclusive A q v) S).2 → Q (some (.int (lfS (fun A => fExclusive A q v) S).1)) M') : J E 206 0 [.ref r, .int q, .int v, U0] [] M Q :=
  liftP (f := fun A => fExclusive A q v) h w hT (fun a B e => by obtain ⟨_, R, hR⟩ := iv_exclusive ha q v a B e; rw [hR, List.length_append]; exact Nat.le_add_right _ _) (fun g hg kR kO => p_exclusive h.1 h.ws hg w.1 (by omega) q v kR kO) k

theorem r_queueOf (h : RR M r S) (w : WfS T S) (hT : T + 100 < 2 ^ 20) (q v : Int32) (k : ∀ M' : Mm, Fr r M M' → RR M' r (lfS (fun A => fQueueOf A q v) S).2 → WfS (T + 99) (lfS (fun A => fQueueOf A q v) S).2 → Q (some (.int (lfS (fun A => fQueueOf A q v) S).1)) M') : J E 220 0 [.ref r, .int q, .int v] [] M Q :=
  liftP (f := fun A => fQueueOf A q v) h w hT (fun a B e => by rw [sm_queueOf q v a B e]; exact Nat.le_refl _) (fun g hg kR kO => p_queueOf h.1 h.ws hg w.1 (by omega) q v kR kO) k

theorem r_letter (h : RR M r S) (w : WfS T S) (hT : T + 100 < 2 ^ 20) (q i v : Int32) (k : ∀ M' : Mm, Fr r M M' → RR M' r (lfS (fun A => fLetter A q i v) S).2 → WfS (T + 99) (lfS (fun A => fLetter A q i v) S).2 → Q (some (.int (lfS (fun A => fLetter A q i v) S).1)) M') : J E 221 0 [.ref r, .int q, .int i, .int v] [] M Q :=
  liftP (f := fun A => fLetter A q i v) h w hT (fun a B e => by rw [sm_letter q i v a B e]; exact Nat.le_refl _) (fun g hg kR kO => p_letter h.1 h.ws hg w.1 (by omega) q i v kR kO) k

theorem r_pattern (h : RR M r S) (w : WfS T S) (hT : T + 100 < 2 ^ 20) (q i : Int32) (k : ∀ M' : Mm, Fr r M M' → RR M' r (lfS (fun A => fPattern A q i) S).2 → WfS (T + 99) (lfS (fun A => fPattern A q i) S).2 → Q (some (.int (lfS (fun A => fPattern A q i) S).1)) M') : J E 184 0 [.ref r, .int q, .int i] [] M Q :=
  liftP (f := fun A => fPattern A q i) h w hT (fun a B e => by rw [sm_pattern q i a B e]; exact Nat.le_refl _) (fun g hg kR kO => p_pattern h.1 h.ws hg w.1 (by omega) q i kR kO) k

theorem r_next (h : RR M r S) (w : WfS T S) (hT : T + 100 < 2 ^ 20) (q v : Int32) (k : ∀ M' : Mm, Fr r M M' → RR M' r (lfS (fun A => fNext A q v) S).2 → WfS (T + 99) (lfS (fun A => fNext A q v) S).2 → Q (some (.int (lfS (fun A => fNext A q v) S).1)) M') : J E 228 0 [.ref r, .int q, .int v, U0] [] M Q :=
  liftP (f := fun A => fNext A q v) h w hT (fun a B e => by rw [sm_next q v a B e]; exact Nat.le_refl _) (fun g hg kR kO => p_next h.1 h.ws hg w.1 (by omega) q v kR kO) k

theorem r_consumer (h : RR M r S) (w : WfS T S) (hT : T + 100 < 2 ^ 20) (ha : Ah (s_a S)) (q : Int32) (k : ∀ M' : Mm, Fr r M M' → RR M' r (lfS (fun A => fConsumer A q) S).2 → WfS (T + 99) (lfS (fun A => fConsumer A q) S).2 → Q (some (.int (lfS (fun A => fConsumer A q) S).1)) M') : J E 207 0 [.ref r, .int q, U0] [] M Q :=
  liftP (f := fun A => fConsumer A q) h w hT (fun a B e => by obtain ⟨_, R, hR⟩ := iv_consumer ha q a B e; rw [hR, List.length_append]; exact Nat.le_add_right _ _) (fun g hg kR kO => p_consumer h.1 h.ws hg w.1 (by omega) q kR kO) k

theorem r_seed (h : RR M r S) (w : WfS T S) (hT : T + 100 < 2 ^ 20) (ha : Ah (s_a S)) (v : Int32) (k : ∀ M' : Mm, Fr r M M' → RR M' r (lfS (fun A => fSeed A v) S).2 → WfS (T + 99) (lfS (fun A => fSeed A v) S).2 → Q (some (.int (lfS (fun A => fSeed A v) S).1)) M') : J E 248 0 [.ref r, .int v, U0] [] M Q :=
  liftP (f := fun A => fSeed A v) h w hT (fun a B e => by obtain ⟨_, R, hR⟩ := iv_seed ha v a B e; rw [hR, List.length_append]; exact Nat.le_add_right _ _) (fun g hg kR kO => p_seed h.1 h.ws hg w.1 (by omega) v kR kO) k

theorem r_giveAll (h : RR M r S) (w : WfS T S) (hT : T + 100 < 2 ^ 20) (ha : Ah (s_a S)) (q : Int32) (k : ∀ M' : Mm, Fr r M M' → RR M' r (lfS (fun A => fGiveAll A q) S).2 → WfS (T + 99) (lfS (fun A => fGiveAll A q) S).2 → Q (some (.int (lfS (fun A => fGiveAll A q) S).1)) M') : J E 199 0 [.ref r, .int q, U0] [] M Q :=
  liftP (f := fun A => fGiveAll A q) h w hT (fun a B e => by obtain ⟨_, R, hR⟩ := iv_giveAll w.1 ha q a B e; rw [hR, List.length_append]; exact Nat.le_add_right _ _) (fun g hg kR kO => p_giveAll h.1 h.ws hg w.1 (by omega) q kR kO) k

theorem r_dead (h : RR M r S) (w : WfS T S) (hT : T + 100 < 2 ^ 20) (i v : Int32) (k : ∀ M' : Mm, Fr r M M' → RR M' r (lfS (fun A => fDead A i v) S).2 → WfS (T + 99) (lfS (fun A => fDead A i v) S).2 → Q (some (.int (lfS (fun A => fDead A i v) S).1)) M') : J E 225 0 [.ref r, .int i, .int v] [] M Q :=
  liftP (f := fun A => fDead A i v) h w hT (fun a B e => by rw [sm_dead i v a B e]; exact Nat.le_refl _) (fun g hg kR kO => p_dead h.1 h.ws hg w.1 (by omega) i v kR kO) k

theorem r_cause (h : RR M r S) (w : WfS T S) (hT : T + 100 < 2 ^ 20) (i kk v : Int32) (k : ∀ M' : Mm, Fr r M M' → RR M' r (lfS (fun A => fCause A i kk v) S).2 → WfS (T + 99) (lfS (fun A => fCause A i kk v) S).2 → Q (some (.int (lfS (fun A => fCause A i kk v) S).1)) M') : J E 227 0 [.ref r, .int i, .int kk, .int v] [] M Q :=
  liftP (f := fun A => fCause A i kk v) h w hT (fun a B e => by rw [sm_cause i kk v a B e]; exact Nat.le_refl _) (fun g hg kR kO => p_cause h.1 h.ws hg w.1 (by omega) i kk v kR kO) k

theorem r_consumerOf (h : RR M r S) (w : WfS T S) (hT : T + 100 < 2 ^ 20) (c v : Int32) (k : ∀ M' : Mm, Fr r M M' → RR M' r (lfS (fun A => fConsumerOf A c v) S).2 → WfS (T + 99) (lfS (fun A => fConsumerOf A c v) S).2 → Q (some (.int (lfS (fun A => fConsumerOf A c v) S).1)) M') : J E 222 0 [.ref r, .int c, .int v] [] M Q :=
  liftP (f := fun A => fConsumerOf A c v) h w hT (fun a B e => by rw [sm_consumerOf c v a B e]; exact Nat.le_refl _) (fun g hg kR kO => p_consumerOf h.1 h.ws hg w.1 (by omega) c v kR kO) k

theorem r_credit (h : RR M r S) (w : WfS T S) (hT : T + 100 < 2 ^ 20) (ha : Ah (s_a S)) (q n : Int32) (k : ∀ M' : Mm, Fr r M M' → RR M' r (lfS (fun A => fCredit2 A q n) S).2 → WfS (T + 99) (lfS (fun A => fCredit2 A q n) S).2 → Q (some (.int (lfS (fun A => fCredit2 A q n) S).1)) M') : J E 209 0 [.ref r, .int q, .int n] [] M Q :=
  liftP (f := fun A => fCredit2 A q n) h w hT (fun a B e => by obtain ⟨_, R, hR⟩ := iv_credit ha q n a B e; rw [hR, List.length_append]; exact Nat.le_add_right _ _) (fun g hg kR kO => p_credit h.1 h.ws hg w.1 (by omega) q n kR kO) k

theorem r_held (h : RR M r S) (w : WfS T S) (hT : T + 100 < 2 ^ 20) (c i : Int32) (k : ∀ M' : Mm, Fr r M M' → RR M' r (lfS (fun A => fHeld A c i) S).2 → WfS (T + 99) (lfS (fun A => fHeld A c i) S).2 → Q (some (.int (lfS (fun A => fHeld A c i) S).1)) M') : J E 223 0 [.ref r, .int c, .int i, U0, U0, U0] [] M Q :=
  liftP (f := fun A => fHeld A c i) h w hT (fun a B e => by rw [sm_held c i a B e]; exact Nat.le_refl _) (fun g hg kR kO => p_held h.1 h.ws hg w.1 (by omega) c i kR kO) k

theorem r_blocked (h : RR M r S) (w : WfS T S) (hT : T + 100 < 2 ^ 20) (q : Int32) (k : ∀ M' : Mm, Fr r M M' → RR M' r (lfS (fun A => fBlocked A q) S).2 → WfS (T + 99) (lfS (fun A => fBlocked A q) S).2 → Q (some (.int (lfS (fun A => fBlocked A q) S).1)) M') : J E 229 0 [.ref r, .int q, U0, U0, U0] [] M Q :=
  liftP (f := fun A => fBlocked A q) h w hT (fun a B e => by rw [sm_blocked q a B e]; exact Nat.le_refl _) (fun g hg kR kO => p_blocked h.1 h.ws hg w.1 (by omega) q kR kO) k

theorem r_messageOf (h : RR M r S) (w : WfS T S) (hT : T + 100 < 2 ^ 20) (m v : Int32) (k : ∀ M' : Mm, Fr r M M' → RR M' r (lfS (fun A => fMessageOf A m v) S).2 → WfS (T + 99) (lfS (fun A => fMessageOf A m v) S).2 → Q (some (.int (lfS (fun A => fMessageOf A m v) S).1)) M') : J E 224 0 [.ref r, .int m, .int v, U0, U0, U0] [] M Q :=
  liftP (f := fun A => fMessageOf A m v) h w hT (fun a B e => by rw [sm_messageOf m v a B e]; exact Nat.le_refl _) (fun g hg kR kO => p_messageOf h.1 h.ws hg w.1 (by omega) m v kR kO) k

theorem r_fits (h : RR M r S) (w : WfS T S) (hT : T + 100 < 2 ^ 20)  (k : ∀ M' : Mm, Fr r M M' → RR M' r (lfS (fun A => fFits A) S).2 → WfS (T + 99) (lfS (fun A => fFits A) S).2 → Q (some (.int (lfS (fun A => fFits A) S).1)) M') : J E 182 0 [.ref r, U0, U0] [] M Q :=
  liftP (f := fun A => fFits A) h w hT (fun a B e => by rw [sm_fits  a B e]; exact Nat.le_refl _) (fun g hg kR kO => p_fits h.1 h.ws hg w.1 (by omega)  kR kO) k

theorem r_covers (h : RR M r S) (w : WfS T S) (hT : T + 100 < 2 ^ 20) (q p : Int32) (k : ∀ M' : Mm, Fr r M M' → RR M' r (lfS (fun A => fCovers A q p) S).2 → WfS (T + 99) (lfS (fun A => fCovers A q p) S).2 → Q (some (.int (lfS (fun A => fCovers A q p) S).1)) M') : J E 183 0 [.ref r, .int q, .int p, U0, U0] [] M Q :=
  liftP (f := fun A => fCovers A q p) h w hT (fun a B e => by rw [sm_covers q p a B e]; exact Nat.le_refl _) (fun g hg kR kO => p_covers h.1 h.ws hg w.1 (by omega) q p kR kO) k

theorem r_ack (h : RR M r S) (w : WfS T S) (hT : T + 100 < 2 ^ 20) (ha : Ah (s_a S)) (c m : Int32) (k : ∀ M' : Mm, Fr r M M' → RR M' r (lfS (fun A => fAck A c m) S).2 → WfS (T + 99) (lfS (fun A => fAck A c m) S).2 → Q (some (.int (lfS (fun A => fAck A c m) S).1)) M') : J E 204 0 [.ref r, .int c, .int m] [] M Q :=
  liftP (f := fun A => fAck A c m) h w hT (fun a B e => by obtain ⟨_, R, hR⟩ := iv_ack ha c m a B e; rw [hR, List.length_append]; exact Nat.le_add_right _ _) (fun g hg kR kO => p_ack h.1 h.ws hg w.1 (by omega) c m kR kO) k

theorem r_nack (h : RR M r S) (w : WfS T S) (hT : T + 100 < 2 ^ 20) (ha : Ah (s_a S)) (c m : Int32) (k : ∀ M' : Mm, Fr r M M' → RR M' r (lfS (fun A => fNack A c m) S).2 → WfS (T + 99) (lfS (fun A => fNack A c m) S).2 → Q (some (.int (lfS (fun A => fNack A c m) S).1)) M') : J E 205 0 [.ref r, .int c, .int m] [] M Q :=
  liftP (f := fun A => fNack A c m) h w hT (fun a B e => by obtain ⟨_, R, hR⟩ := iv_nack ha c m a B e; rw [hR, List.length_append]; exact Nat.le_add_right _ _) (fun g hg kR kO => p_nack h.1 h.ws hg w.1 (by omega) c m kR kO) k

theorem r_leave (h : RR M r S) (w : WfS T S) (hT : T + 100 < 2 ^ 20) (ha : Ah (s_a S)) (q : Int32) (k : ∀ M' : Mm, Fr r M M' → RR M' r (lfS (fun A => fLeave A q) S).2 → WfS (T + 99) (lfS (fun A => fLeave A q) S).2 → Q (some (.int (lfS (fun A => fLeave A q) S).1)) M') : J E 208 0 [.ref r, .int q, U0, U0] [] M Q :=
  liftP (f := fun A => fLeave A q) h w hT (fun a B e => by obtain ⟨_, R, hR⟩ := iv_leave ha q a B e; rw [hR, List.length_append]; exact Nat.le_add_right _ _) (fun g hg kR kO => p_leave h.1 h.ws hg w.1 (by omega) q kR kO) k

theorem r_revive (h : RR M r S) (w : WfS T S) (hT : T + 100 < 2 ^ 20) (ha : Ah (s_a S)) (i : Int32) (k : ∀ M' : Mm, Fr r M M' → RR M' r (lfS (fun A => fRevive A i) S).2 → WfS (T + 99) (lfS (fun A => fRevive A i) S).2 → Q (some (.int (lfS (fun A => fRevive A i) S).1)) M') : J E 213 0 [.ref r, .int i, U0, U0] [] M Q :=
  liftP (f := fun A => fRevive A i) h w hT (fun a B e => by obtain ⟨_, R, hR⟩ := iv_revive ha i a B e; rw [hR, List.length_append]; exact Nat.le_add_right _ _) (fun g hg kR kO => p_revive h.1 h.ws hg w.1 (by omega) i kR kO) k

theorem r_bury (h : RR M r S) (w : WfS T S) (hT : T + 100 < 2 ^ 20) (ha : Ah (s_a S)) (q : Int32) (k : ∀ M' : Mm, Fr r M M' → RR M' r (lfS (fun A => fBury2 A q) S).2 → WfS (T + 99) (lfS (fun A => fBury2 A q) S).2 → Q (some (.int (lfS (fun A => fBury2 A q) S).1)) M') : J E 215 0 [.ref r, .int q, U0, U0] [] M Q :=
  liftP (f := fun A => fBury2 A q) h w hT (fun a B e => by obtain ⟨_, R, hR⟩ := iv_bury ha q a B e; rw [hR, List.length_append]; exact Nat.le_add_right _ _) (fun g hg kR kO => p_bury h.1 h.ws hg w.1 (by omega) q kR kO) k

theorem r_purge (h : RR M r S) (w : WfS T S) (hT : T + 100 < 2 ^ 20) (ha : Ah (s_a S)) (q : Int32) (k : ∀ M' : Mm, Fr r M M' → RR M' r (lfS (fun A => fPurge A q) S).2 → WfS (T + 99) (lfS (fun A => fPurge A q) S).2 → Q (some (.int (lfS (fun A => fPurge A q) S).1)) M') : J E 216 0 [.ref r, .int q, U0, U0] [] M Q :=
  liftP (f := fun A => fPurge A q) h w hT (fun a B e => by obtain ⟨_, R, hR⟩ := iv_purge ha q a B e; rw [hR, List.length_append]; exact Nat.le_add_right _ _) (fun g hg kR kO => p_purge h.1 h.ws hg w.1 (by omega) q kR kO) k

theorem r_drained (h : RR M r S) (w : WfS T S) (hT : T + 100 < 2 ^ 20) (q i : Int32) (k : ∀ M' : Mm, Fr r M M' → RR M' r (lfS (fun A => fDrained A q i) S).2 → WfS (T + 99) (lfS (fun A => fDrained A q i) S).2 → Q (some (.int (lfS (fun A => fDrained A q i) S).1)) M') : J E 231 0 [.ref r, .int q, .int i] [] M Q :=
  liftZ (f := fun A => fDrained A q i) h w hT (fun a B e => sm_drained q i a B e) (fun g hg kR kO => p_drained h.1 h.ws h.wz hg w.1 hT q i kR kO) k

theorem r_until (h : RR M r S) (w : WfS T S) (hT : T + 100 < 2 ^ 20) (q : Int32) (k : ∀ M' : Mm, Fr r M M' → RR M' r (lfS (fun A => fUntil A q) S).2 → WfS (T + 99) (lfS (fun A => fUntil A q) S).2 → Q (some (.int (lfS (fun A => fUntil A q) S).1)) M') : J E 232 0 [.ref r, .int q, U0, U0] [] M Q :=
  liftZ (f := fun A => fUntil A q) h w hT (fun a B e => sm_until q a B e) (fun g hg kR kO => p_until h.1 h.ws h.wz hg w.1 hT q kR kO) k

theorem r_doomed (h : RR M r S) (w : WfS T S) (hT : T + 100 < 2 ^ 20) (n : Int32) (k : ∀ M' : Mm, Fr r M M' → RR M' r (lfS (fun A => fDoomed A n) S).2 → WfS (T + 99) (lfS (fun A => fDoomed A n) S).2 → Q (some (.int (lfS (fun A => fDoomed A n) S).1)) M') : J E 233 0 [.ref r, .int n, U0] [] M Q :=
  liftZ (f := fun A => fDoomed A n) h w hT (fun a B e => sm_doomed n a B e) (fun g hg kR kO => p_doomed h.1 h.ws h.wz hg w.1 hT n kR kO) k

theorem r_days (h : RR M r S) (w : WfS T S) (hT : T + 100 < 2 ^ 20) (ha : Ah (s_a S)) (n : Int32) (k : ∀ M' : Mm, Fr r M M' → RR M' r (lfS (fun A => fDays A n) S).2 → WfS (T + 99) (lfS (fun A => fDays A n) S).2 → Q (some (.int (lfS (fun A => fDays A n) S).1)) M') : J E 247 0 [.ref r, .int n, U0, U0, U0] [] M Q :=
  liftP (f := fun A => fDays A n) h w hT (fun a B e => by obtain ⟨_, R, hR⟩ := iv_days w.1 hT h.a.2.2.2.2.2.2.1.1 ha n a B e; rw [hR, List.length_append]; exact Nat.le_add_right _ _) (fun g hg kR kO => p_days h.1 h.ws hg w.1 (by omega) n kR kO) k

theorem r_publish (h : RR M r S) (w : WfS T S) (hT : T + 100 < 2 ^ 20) (ha : Ah (s_a S)) (key pr v : Int32) (k : ∀ M' : Mm, Fr r M M' → RR M' r (lfS (fun A => fPublish A key pr v) S).2 → WfS (T + 99) (lfS (fun A => fPublish A key pr v) S).2 → Q (some (.int (lfS (fun A => fPublish A key pr v) S).1)) M') : J E 192 0 [.ref r, .int key, .int pr, .int v] [] M Q :=
  liftP (f := fun A => fPublish A key pr v) h w hT (fun a B e => by obtain ⟨_, R, hR⟩ := iv_publish ha key pr v a B e; rw [hR, List.length_append]; exact Nat.le_add_right _ _) (fun g hg kR kO => p_publish h.1 h.ws hg w.1 (by omega) key pr v kR kO) k

theorem RR.sm (h : RR M r S) (hs : ∀ z, r ≤ z → z ≤ r + 12 → Sm M M' z) : RR M' r S := by
  obtain ⟨h1, h2, h3, h4, h5, h6, h7, h8⟩ := h
  have e : ∀ j, j ≤ 12 → Sm M M' (r + j) := fun j hj => hs _ (by omega) (by omega)
  have e0 : Sm M M' r := hs r (by omega) (by omega)
  refine ⟨?_, fun k hk => by rw [(e 5 (by omega)).2.1]; exact h2 k hk, fun z hz => by rw [(e 2 (by omega)).2.1]; exact h3 z hz, by rw [(e 1 (by omega)).2.1]; exact h4, ⟨fun z hz => by rw [(e 3 (by omega)).2.1]; exact h5.1 z hz, fun ek => by rw [e0.2.1]; exact h5.2.1 ek, fun B eB => by rw [e0.2.1, (e 3 (by omega)).2.1]; exact h5.2.2 B eB⟩, ⟨h6.1, by rw [e0.2.1]; exact h6.2.1, fun k y hk => by rw [(e 6 (by omega)).2.1]; exact h6.2.2 k y hk⟩, fun s hs' => (h7 s hs').fr (by rw [(e 9 (by omega)).2.1]) (by rw [(e 10 (by omega)).2.1]) (fun k _ => by rw [(e 12 (by omega)).2.1]) (fun k _ => by rw [(e 11 (by omega)).2.2.1]), fun w hw => by rw [(e 4 (by omega)).2.1]; exact h8 w hw⟩
  have t : ∀ j, j ≤ 12 → mT M' (r + j) = mT M (r + j) ∧ mS M' (r + j) = mS M (r + j) := fun j hj => by
    unfold mT mS
    rw [(e j hj).1]
    exact ⟨rfl, rfl⟩
  have t0 : mT M' r = mT M r := by unfold mT; rw [e0.1]
  unfold RS at h1 ⊢
  rw [e0.2.2.2, t0, (t 1 (by omega)).1, (t 2 (by omega)).1, (t 3 (by omega)).1, (t 4 (by omega)).1, (t 5 (by omega)).1, (t 6 (by omega)).1, (t 7 (by omega)).1, (t 8 (by omega)).1, (t 9 (by omega)).1, (t 10 (by omega)).1, (t 11 (by omega)).1, (t 12 (by omega)).1, (t 1 (by omega)).2, (t 2 (by omega)).2, (t 3 (by omega)).2, (t 4 (by omega)).2, (t 5 (by omega)).2, (t 6 (by omega)).2, (t 7 (by omega)).2, (t 8 (by omega)).2, (t 9 (by omega)).2, (t 10 (by omega)).2, (t 11 (by omega)).2, (t 12 (by omega)).2]
  exact h1
theorem RR.tag (h : RR M r S) : ∀ z, r ≤ z → z ≤ r + 12 → ¬ rO (mT M z) := fun z h1 h2 => by
  obtain ⟨a0, ⟨_, a1, _⟩, ⟨_, a2, _⟩, ⟨_, a3, _⟩, ⟨_, a4, _⟩, ⟨_, a5, _⟩, ⟨_, a6, _⟩, ⟨_, a7, _⟩, ⟨_, a8, _⟩, ⟨_, a9, _⟩, ⟨_, a10, _⟩, ⟨_, a11, _⟩, ⟨_, a12, _⟩⟩ := h.1
  have : mT M z = 11 ∨ mT M z = 20 ∨ mT M z = 21 := by
    rcases (show z = r ∨ z = r + 1 ∨ z = r + 2 ∨ z = r + 3 ∨ z = r + 4 ∨ z = r + 5 ∨ z = r + 6 ∨ z = r + 7 ∨ z = r + 8 ∨ z = r + 9 ∨ z = r + 10 ∨ z = r + 11 ∨ z = r + 12 by omega) with e | e | e | e | e | e | e | e | e | e | e | e | e <;> rw [e] <;> omega
  unfold rO
  omega
end PUBM