/-! THE REFERENCE'S WHOLE STATE: the present, the image, the tape, shelves, refusals. -/
abbrev Sh := Option ((Nat × List Int64) ⊕ Ca)
abbrev St := Ab × Option Ab × List Nat × (Nat → Sh) × (Nat → Int32)
abbrev s_a (S : St) : Ab := S.1
abbrev s_k (S : St) : Option Ab := S.2.1
abbrev s_t (S : St) : List Nat := S.2.2.1
abbrev s_h (S : St) : Nat → Sh := S.2.2.2.1
abbrev s_f (S : St) : Nat → Int32 := S.2.2.2.2
def z_a (S : St) (A : Ab) : St := (A, S.2)
def z_k (S : St) (K : Option Ab) : St := (S.1, K, S.2.2)
def z_t (S : St) (t : List Nat) : St := (S.1, S.2.1, t, S.2.2.2)
def z_h (S : St) (s : Nat) (v : Sh) : St := (S.1, S.2.1, S.2.2.1, (fun j => if j = s then v else S.2.2.2.1 j), S.2.2.2.2)
def z_f (S : St) (w : Nat) : St := (S.1, S.2.1, S.2.2.1, S.2.2.2.1, fun j => if j = w then S.2.2.2.2 j + nI 1 else S.2.2.2.2 j)
/-- a refusal -/
def rfS (S : St) (w : Nat) : Int32 × St := (rfN w, z_f S w)
/-- what refuses or changes the present alone -/
def lfS (f : Ab → Rs) (S : St) : Int32 × St := match f (s_a S) with
  | .inl w => rfS S w
  | .inr (a, B) => (a, z_a S B)
def KR (M : Mm) (r : Nat) (K : Option Ab) : Prop := (∀ z, 7919 ≤ z → mI M (r + 3) z = 0) ∧ (K = none → mI M r 3 = 0) ∧ (∀ B, K = some B → mI M r 3 = nI 1 ∧ Rep (mI M (r + 3)) B)
def TR (M : Mm) (r : Nat) (t : List Nat) : Prop := t.length ≤ 250 ∧ mI M r 7 = nI t.length ∧ ∀ k b, t[k]? = some b → b ≤ 255 ∧ mI M (r + 6) k = nI b
def SR (M : Mm) (r s : Nat) : Sh → Prop
  | none => mI M (r + 9) s = -1
  | some (.inl (so, els)) => so ≤ 4 ∧ els.length ≤ 40 ∧ mI M (r + 9) s = nI so ∧ mI M (r + 10) s = nI els.length ∧ ∀ k v, els[k]? = some v → mL M (r + 11) (40 * s + k) = v
  | some (.inr c) => ∃ n, (3 ≤ n ∧ n ≤ 6) ∧ c.1 = nI n ∧ mI M (r + 9) s = nI (10 + n) ∧ mI M (r + 12) (4 * s + 0) = c.1 ∧ mI M (r + 12) (4 * s + 1) = c.2.1 ∧ mI M (r + 12) (4 * s + 2) = c.2.2.1 ∧ mI M (r + 12) (4 * s + 3) = c.2.2.2
def RR (M : Mm) (r : Nat) (S : St) : Prop := RS M r ∧ WS M r ∧ WZ M r ∧ Rep (mI M (r + 1)) (s_a S) ∧ KR M r (s_k S) ∧ TR M r (s_t S) ∧ (∀ s, s < 8 → SR M r s (s_h S s)) ∧ (∀ w, w < 5 → mI M (r + 4) w = s_f S w)
def WfS (T : Nat) (S : St) : Prop := Wf T (s_a S) ∧ ∀ B, s_k S = some B → Wf T B ∧ (a_m B).length ≤ (a_m (s_a S)).length
/-- memory differs in the reference's rows alone -/
def Fr (r : Nat) (M M' : Mm) : Prop := M'.1 = M.1 ∧ mR M' = mR M ∧ mN M' = mN M ∧ mU M' = mU M ∧ ∀ a, (a < r ∨ r + 12 < a) → mI M' a = mI M a ∧ mL M' a = mL M a
theorem Fr.refl (r : Nat) (M : Mm) : Fr r M M := ⟨rfl, rfl, rfl, rfl, fun _ _ => ⟨rfl, rfl⟩⟩
theorem Fr.trans {r : Nat} {M1 M2 M3 : Mm} (h1 : Fr r M1 M2) (h2 : Fr r M2 M3) : Fr r M1 M3 :=
  ⟨h2.1.trans h1.1, h2.2.1.trans h1.2.1, h2.2.2.1.trans h1.2.2.1, h2.2.2.2.1.trans h1.2.2.2.1, fun a ha => ⟨(h2.2.2.2.2 a ha).1.trans (h1.2.2.2.2 a ha).1, (h2.2.2.2.2 a ha).2.trans (h1.2.2.2.2 a ha).2⟩⟩
theorem Fr.wix {r b : Nat} (M : Mm) (f : Nat → Int32) (hb : r ≤ b) (hb2 : b ≤ r + 12) : Fr r M (wI M b f) := ⟨rfl, rfl, rfl, rfl, fun a ha => ⟨mI_oth _ _ (by omega), rfl⟩⟩
theorem Fr.six {r b : Nat} (M : Mm) (k : Nat) (z : Int32) (hb : r ≤ b) (hb2 : b ≤ r + 12) : Fr r M (sI M b k z) := by
  rw [sI_wI]; exact Fr.wix M _ hb hb2
theorem Fr.wlx {r b : Nat} (M : Mm) (f : Nat → Int64) (hb : r ≤ b) (hb2 : b ≤ r + 12) : Fr r M (wL M b f) := ⟨rfl, rfl, rfl, rfl, fun a ha => ⟨rfl, by rw [mL_wL, if_neg (by omega)]⟩⟩
theorem Fr.slx {r b : Nat} (M : Mm) (k : Nat) (z : Int64) (hb : r ≤ b) (hb2 : b ≤ r + 12) : Fr r M (sL M b k z) := by
  rw [sL_wL]; exact Fr.wlx M _ hb hb2
theorem Fr.sc {r : Nat} {M M' : Mm} (hs : SC r M M') : Fr r M M' := by
  obtain ⟨a1, a2, a3, a4, a5, a6, a7, a8⟩ := hs
  exact ⟨a1, a3, a4, a5, fun a ha => ⟨a6 a (by omega) (by omega) (by omega) (by omega) (by omega), by rw [a2]⟩⟩
section PUB16
variable {E : Nat × Nat} {M : Mm} {r T : Nat} {g : Nat → Int32} {S : St} {Q : Option Value → Mm → Prop}
theorem RR.a (h : RR M r S) : Rep (mI M (r + 1)) (s_a S) := h.2.2.2.1
theorem RR.ws (h : RR M r S) : WS M r := h.2.1
theorem RR.wz (h : RR M r S) : WZ M r := h.2.2.1
theorem RR.k (h : RR M r S) : KR M r (s_k S) := h.2.2.2.2.1
theorem RR.t (h : RR M r S) : TR M r (s_t S) := h.2.2.2.2.2.1
theorem RR.s (h : RR M r S) : ∀ s, s < 8 → SR M r s (s_h S s) := h.2.2.2.2.2.2.1
theorem RR.f (h : RR M r S) : ∀ w, w < 5 → mI M (r + 4) w = s_f S w := h.2.2.2.2.2.2.2
theorem SR.fr {M M' : Mm} {s : Nat} {v : Sh} (h : SR M r s v) (e9 : mI M' (r + 9) s = mI M (r + 9) s) (e10 : mI M' (r + 10) s = mI M (r + 10) s) (e12 : ∀ k, k < 4 → mI M' (r + 12) (4 * s + k) = mI M (r + 12) (4 * s + k)) (e11 : ∀ k, k < 40 → mL M' (r + 11) (40 * s + k) = mL M (r + 11) (40 * s + k)) : SR M' r s v := by
  match v, h with
  | none, h => exact e9.trans h
  | some (.inl (so, els)), h =>
    obtain ⟨a1, a2, a3, a4, a5⟩ := h
    exact ⟨a1, a2, e9.trans a3, e10.trans a4, fun k v hk => by have := li hk; rw [e11 k (by omega)]; exact a5 k v hk⟩
  | some (.inr c), h =>
    obtain ⟨n, a1, a2, a3, a4, a5, a6, a7⟩ := h
    exact ⟨n, a1, a2, e9.trans a3, (e12 0 (by omega)).trans a4, (e12 1 (by omega)).trans a5, (e12 2 (by omega)).trans a6, (e12 3 (by omega)).trans a7⟩
/-- all but the present row, and what the changes leave -/
theorem RR.fr {M M' : Mm} (h : RR M r S) (e1 : M'.1 = M.1) (eR : mR M' = mR M) (eL : mL M' (r + 11) = mL M (r + 11)) (e0 : ∀ k, k = 3 ∨ k = 7 → mI M' r k = mI M r k) (ez : WZ M' r) (e3 : mI M' (r + 3) = mI M (r + 3)) (e4 : mI M' (r + 4) = mI M (r + 4)) (e5 : mI M' (r + 5) = mI M (r + 5)) (e6 : mI M' (r + 6) = mI M (r + 6)) (e9 : mI M' (r + 9) = mI M (r + 9)) (e10 : mI M' (r + 10) = mI M (r + 10)) (e12 : mI M' (r + 12) = mI M (r + 12)) {A : Ab} (hA : Rep (mI M' (r + 1)) A) : RR M' r (z_a S A) := by
  obtain ⟨h1, h2, h3, h4, h5, h6, h7, h8⟩ := h
  refine ⟨?_, ?_, ez, hA, ⟨?_, ?_, ?_⟩, ⟨h6.1, ?_, ?_⟩, ?_, ?_⟩
  · unfold RS mT mS; rw [e1, eR]; exact h1
  · intro k hk; rw [e5]; exact h2 k hk
  · rw [e3]; exact h5.1
  · rw [e0 3 (Or.inl rfl)]; exact h5.2.1
  · rw [e0 3 (Or.inl rfl), e3]; exact h5.2.2
  · rw [e0 7 (Or.inr rfl)]; exact h6.2.1
  · rw [e6]; exact h6.2.2
  · exact fun s hs => (h7 s hs).fr (by rw [e9]) (by rw [e10]) (fun k _ => by rw [e12]) (fun k _ => by rw [eL])
  · rw [e4]; exact h8
theorem RR.gg (h : RR M r S) {A : Ab} {g' : Nat → Int32} (hA : Rep g' A) : RR (wI M (r + 1) g') r (z_a S A) := by
  refine h.fr (M' := wI M (r + 1) g') rfl rfl rfl (fun k _ => by rw [mI_oth _ _ (by omega)]) (fun z hz => by rw [mI_oth _ _ (by omega)]; exact h.wz z hz) ?_ ?_ ?_ ?_ ?_ ?_ ?_ (by rw [mI_same]; exact hA)
  all_goals rw [mI_oth _ _ (by omega)]
theorem RR.sc (h : RR M r S) {M' : Mm} (hs : SC r M M') {A : Ab} {g' : Nat → Int32} (hA : Rep g' A) : RR (wI M' (r + 1) g') r (z_a S A) := by
  obtain ⟨a1, a2, a3, a4, a5, a6, a7, a8⟩ := hs
  refine h.fr (M' := wI M' (r + 1) g') a1 a3 (by rw [mL_wI, a2]) (fun k hk => by rw [mI_oth _ _ (by omega)]; exact a7 k (by omega) (by omega) (by omega)) (fun z hz => by rw [mI_oth _ _ (by omega)]; exact a8 h.wz z hz) ?_ ?_ ?_ ?_ ?_ ?_ ?_ (by rw [mI_same]; exact hA)
  all_goals (rw [mI_oth _ _ (by omega)]; exact a6 _ (by omega) (by omega) (by omega) (by omega) (by omega))
theorem z_a_id : z_a S (s_a S) = S := rfl
theorem RR.rf (h : RR M r S) (hg : mI M (r + 1) = g) (w : Nat) : RR (wI (rfM M r w) (r + 1) g) r (z_f S w) := by
  have hA := h.a
  rw [hg] at hA
  obtain ⟨h1, h2, h3, h4, h5, h6, h7, h8⟩ := h
  have e : ∀ a, a ≠ r + 1 → a ≠ r + 4 → mI (wI (rfM M r w) (r + 1) g) a = mI M a := fun a z1 z2 => by
    rw [mI_oth _ _ z1]; unfold rfM; rw [sI_wI, mI_oth _ _ z2]
  refine ⟨h1, fun k hk => ?_, fun z hz => ?_, ?_, ⟨?_, ?_, ?_⟩, ⟨h6.1, ?_, ?_⟩, fun s hs => (h7 s hs).fr ?_ ?_ (fun k _ => ?_) (fun k _ => rfl), fun j hj => ?_⟩
  · rw [e _ (by omega) (by omega)]; exact h2 k hk
  · rw [e _ (by omega) (by omega)]; exact h3 z hz
  · rw [mI_same]; exact hA
  · rw [e _ (by omega) (by omega)]; exact h5.1
  · rw [e _ (by omega) (by omega)]; exact h5.2.1
  · rw [e _ (by omega) (by omega), e _ (by omega) (by omega)]; exact h5.2.2
  · rw [e _ (by omega) (by omega)]; exact h6.2.1
  · rw [e _ (by omega) (by omega)]; exact h6.2.2
  · rw [e _ (by omega) (by omega)]
  · rw [e _ (by omega) (by omega)]
  · rw [e _ (by omega) (by omega)]
  · rw [mI_oth _ _ (by omega)]
    unfold rfM
    rw [sI_wI, mI_same, upd]
    show _ = if j = w then s_f S j + nI 1 else s_f S j
    by_cases c : j = w
    · subst c; rw [if_pos rfl, if_pos rfl, h8 j hj]
    · rw [if_neg c, if_neg c, h8 j hj]
theorem Fr.rf {w : Nat} (hg : mI M (r + 1) = g) : Fr r M (wI (rfM M r w) (r + 1) g) := by
  unfold rfM
  exact (Fr.six M _ _ (by omega) (by omega)).trans (Fr.wix _ _ (by omega) (by omega))
theorem WfS.mono {T' : Nat} (w : WfS T S) (h : T ≤ T') (h2 : T' < 2 ^ 20) : WfS T' S := ⟨w.1.mono h h2, fun B hB => ⟨(w.2 B hB).1.mono h h2, (w.2 B hB).2⟩⟩
theorem WfS.rf {v : Nat} (w : WfS T S) (hT : T + 100 < 2 ^ 20) : WfS (T + 99) (z_f S v) := WfS.mono (show WfS T (z_f S v) from w) (by omega) (by omega)
theorem WfS.a {A : Ab} (w : WfS T S) (hT : T + 100 < 2 ^ 20) (wA : Wf (T + 99) A) (hm : (a_m (s_a S)).length ≤ (a_m A).length) : WfS (T + 99) (z_a S A) :=
  ⟨wA, fun B hB => ⟨((w.2 B hB).1).mono (by omega) (by omega), Nat.le_trans (w.2 B hB).2 hm⟩⟩
/-- a method of the present lifted to the whole state -/
theorem liftP {mi : Nat} {args : List Value} {f : Ab → Rs} (h : RR M r S) (w : WfS T S) (hT : T + 100 < 2 ^ 20) (hm : ∀ (a : Int32) (B : Ab), f (s_a S) = .inr (a, B) → (a_m (s_a S)).length ≤ (a_m B).length)
    (hp : ∀ g : Nat → Int32, Rep g (s_a S) → (∀ (rw_ : Nat) (v_ : Int32), f (s_a S) = .inl rw_ → v_ = rfN rw_ → Q (some (.int v_)) (wI (rfM M r rw_) (r + 1) g)) → (∀ (a : Int32) (B : Ab), f (s_a S) = .inr (a, B) → ∀ g' : Nat → Int32, Rep g' B → Wf (T + 99) B → Q (some (.int a)) (wI M (r + 1) g')) → J E mi 0 args [] (wI M (r + 1) g) Q)
    (k : ∀ M' : Mm, Fr r M M' → RR M' r (lfS f S).2 → WfS (T + 99) (lfS f S).2 → Q (some (.int (lfS f S).1)) M') : J E mi 0 args [] M Q := by
  have := hp (mI M (r + 1)) h.a (fun v vv e1 e2 => ?_) (fun a B e g' hr wB => ?_)
  · rw [wI_id] at this; exact this
  · have e : lfS f S = rfS S v := by unfold lfS; rw [e1]
    rw [e] at k
    rw [e2]
    exact k _ (Fr.rf rfl) (h.rf rfl v) (w.rf hT)
  · have e' : lfS f S = (a, z_a S B) := by unfold lfS; rw [e]
    rw [e'] at k
    exact k _ (Fr.wix M _ (by omega) (by omega)) (h.gg hr) (w.a hT wB (hm a B e))
/-- one that thinks -/
theorem liftZ {mi : Nat} {args : List Value} {f : Ab → Rs} (h : RR M r S) (w : WfS T S) (hT : T + 100 < 2 ^ 20) (hf : ∀ (a : Int32) (B : Ab), f (s_a S) = .inr (a, B) → B = s_a S)
    (hp : ∀ g : Nat → Int32, Rep g (s_a S) → (∀ (rw_ : Nat) (v_ : Int32), f (s_a S) = .inl rw_ → v_ = rfN rw_ → Q (some (.int v_)) (wI (rfM M r rw_) (r + 1) g)) → (∀ a : Int32, f (s_a S) = .inr (a, s_a S) → ∀ M' : Mm, SC r M M' → Q (some (.int a)) (wI M' (r + 1) g)) → J E mi 0 args [] (wI M (r + 1) g) Q)
    (k : ∀ M' : Mm, Fr r M M' → RR M' r (lfS f S).2 → WfS (T + 99) (lfS f S).2 → Q (some (.int (lfS f S).1)) M') : J E mi 0 args [] M Q := by
  have := hp (mI M (r + 1)) h.a (fun v vv e1 e2 => ?_) (fun a e M' hs => ?_)
  · rw [wI_id] at this; exact this
  · have e : lfS f S = rfS S v := by unfold lfS; rw [e1]
    rw [e] at k
    rw [e2]
    exact k _ (Fr.rf rfl) (h.rf rfl v) (w.rf hT)
  · have e' : lfS f S = (a, z_a S (s_a S)) := by unfold lfS; rw [e]
    rw [e'] at k
    exact k _ ((Fr.sc hs).trans (Fr.wix _ _ (by omega) (by omega))) (h.sc hs h.a) (WfS.mono w (by omega) (by omega))
def fFeed (S : St) (b : Int32) : Int32 × St := match ixN b 256 with
  | none => rfS S 0
  | some n => if (s_t S).length = 250 then rfS S 4 else (nI ((s_t S).length + 1), z_t S (s_t S ++ [n]))
def fWipe (S : St) : Int32 × St := (nI (s_t S).length, z_t S [])
theorem RR.tape (h : RR M r S) (hg : mI M (r + 1) = g) {M' : Mm} {t : List Nat} (e1 : M'.1 = M.1) (eR : mR M' = mR M) (eL : mL M' = mL M) (e0 : mI M' r 3 = mI M r 3) (hM : ∀ a, a ≠ r → a ≠ r + 1 → a ≠ r + 6 → mI M' a = mI M a) (ht : TR M' r t) : RR (wI M' (r + 1) g) r (z_t S t) := by
  have hA := h.a
  rw [hg] at hA
  have e : ∀ a, a ≠ r → a ≠ r + 1 → a ≠ r + 6 → mI (wI M' (r + 1) g) a = mI M a := fun a z1 z2 z3 => by rw [mI_oth _ _ z2]; exact hM a z1 z2 z3
  obtain ⟨h1, h2, h3, h4, h5, h6, h7, h8⟩ := h
  refine ⟨?_, fun k hk => ?_, fun z hz => ?_, ?_, ⟨?_, ?_, ?_⟩, ?_, fun s hs => (h7 s hs).fr ?_ ?_ (fun k _ => ?_) (fun k _ => by rw [mL_wI, eL]), fun j hj => ?_⟩
  · unfold RS mT mS
    show RS (wI M' (r + 1) g) r
    have : RS M' r := by unfold RS mT mS; rw [e1, eR]; exact h1
    exact this
  · rw [e _ (by omega) (by omega) (by omega)]; exact h2 k hk
  · rw [e _ (by omega) (by omega) (by omega)]; exact h3 z hz
  · rw [mI_same]; exact hA
  · rw [e _ (by omega) (by omega) (by omega)]; exact h5.1
  · rw [mI_oth _ _ (by omega), e0]; exact h5.2.1
  · rw [mI_oth _ _ (by omega), e0, e _ (by omega) (by omega) (by omega)]; exact h5.2.2
  · refine ⟨ht.1, by rw [mI_oth _ _ (by omega)]; exact ht.2.1, fun k b hk => ?_⟩
    rw [mI_oth _ _ (by omega)]; exact ht.2.2 k b hk
  · rw [e _ (by omega) (by omega) (by omega)]
  · rw [e _ (by omega) (by omega) (by omega)]
  · rw [e _ (by omega) (by omega) (by omega)]
  · rw [e _ (by omega) (by omega) (by omega)]; exact h8 j hj

theorem s_feed (h : RR M r S) (w : WfS T S) (hT : T + 100 < 2 ^ 20) (b : Int32) (k : ∀ M' : Mm, Fr r M M' → RR M' r (fFeed S b).2 → WfS (T + 99) (fFeed S b).2 → Q (some (.int (fFeed S b).1)) M') : J E 172 0 [.ref r, .int b] [] M Q := by
  obtain ⟨g, hg⟩ : ∃ g, mI M (r + 1) = g := ⟨_, rfl⟩
  have hS := h.1
  have hA := h.a
  rw [hg] at hA
  rw [show M = wI M (r + 1) g by rw [← hg, wI_id]]
  have kR : ∀ (v : Nat) (x : Int32), fFeed S b = rfS S v → x = rfN v → Q (some (.int x)) (wI (rfM M r v) (r + 1) g) := fun v x e ex => by
    rw [e] at k; rw [ex]; exact k _ (Fr.rf hg) (h.rf hg v) (w.rf hT)
  have kO : ∀ (a : Int32) (S' : St) (M' : Mm), fFeed S b = (a, S') → Fr r M M' → RR M' r S' → WfS (T + 99) S' → Q (some (.int a)) M' := fun a S' M' e => by
    rw [e] at k; exact k M'
  have ht := h.t
  have h250 := ht.1
  refine J_p 4 (ls' := [_, _]) rfl ?_
  refine J_call rfl rfl rfl rfl rfl (c_inZ0 (x := b) (b := 255) (b1 := 256) (by decide) rfl (fun n h6 l6 e6 => ?_) (fun h6 => ?_))
  · skip
    subst e6
    show J _ _ _ _ _ _ _
    refine J_zne rfl (fun _ => ?_) (fun b => absurd b (by decide))
    refine J_p 1 (ls' := [_, _]) rfl ?_
    refine J_oget rfl hS.t ⟨by omega, ht.2.1⟩ ?_
    refine J_p 1 (ls' := [_, _]) rfl ?_
    refine J_ine rfl (fun b26 => ?_) (fun b26 => ?_)
    · skip
      have e4 : ¬ (s_t S).length = 250 := fun y => b26 (by rw [y])
      have e57 : mI (sI (sI M (r + 6) (s_t S).length (nI n)) r 7 (nI (s_t S).length + nI 1)) r 7 = nI ((s_t S).length + 1) := by rw [sI_wI, mI_same, upd, if_pos rfl, nI_add]
      refine J_p 1 (ls' := [_, _]) rfl ?_
      refine J_getR rfl hS.t hS.f6 ?_
      refine J_p 1 (ls' := [_, _]) rfl ?_
      refine J_oget rfl hS.t ⟨by omega, ht.2.1⟩ ?_
      refine J_p 1 (ls' := [_, _]) rfl ?_
      refine J_ost (n := (s_t S).length) rfl (by repeat' (first | with_reducible rfl | assumption | with_reducible refine nI_decE ?_ | with_reducible refine nI_addE ?_ ?_ | with_reducible refine nI_mulE ?_ ?_ | with_reducible refine nI_subE ?_ ?_ ?_ | omega | (with_reducible refine congrArg nI ?_; omega))) (by omega) hS.t6 hS.l6 (by omega) (by omega) ?_
      refine J_p 2 (ls' := [_, _]) rfl ?_
      refine J_oget rfl hS.t ⟨by omega, (show mI (sI M (r + 6) (s_t S).length (nI n)) r 7 = nI (s_t S).length from by rw [sI_wI, mI_oth _ _ (by omega)]; exact ht.2.1)⟩ ?_
      refine J_p 2 (ls' := [_, _]) rfl ?_
      refine J_oput rfl hS.t (Or.inl rfl) ?_
      refine J_p 1 (ls' := [_, _]) rfl ?_
      refine J_oget rfl hS.t ⟨by omega, e57⟩ ?_
      refine J_ret rfl rfl rfl (kO _ (z_t S (s_t S ++ [n])) _ (by simp only [fFeed, h6, e4, if_true, if_false, reduceIte]) (((Fr.six M _ _ (by omega) (by omega)).trans (Fr.six _ _ _ (by omega) (by omega))).trans (Fr.wix _ _ (by omega) (by omega))) (h.tape hg rfl rfl rfl ?_ (fun a z1 z2 z3 => ?_) ⟨?_, ?_, fun j b hj => ?_⟩) (WfS.mono w (by omega) (by omega)))
      · rw [sI_wI, mI_same, upd, if_neg (by omega), sI_wI, mI_oth _ _ (by omega)]
      · rw [sI_wI, mI_oth _ _ z1, sI_wI, mI_oth _ _ z3]
      · rw [List.length_append]; show (s_t S).length + 1 ≤ 250; omega
      · rw [List.length_append]; exact e57
      · have e8 : mI (sI (sI M (r + 6) (s_t S).length (nI n)) r 7 (nI (s_t S).length + nI 1)) (r + 6) j = if j = (s_t S).length then nI n else mI M (r + 6) j := by rw [sI_wI, mI_oth _ _ (by omega), sI_wI, mI_same, upd]
        rw [e8]
        rcases app_or hj with ⟨rfl, rfl⟩ | ⟨hlt, hj⟩
        · exact ⟨by omega, if_pos rfl⟩
        · rw [if_neg (by omega)]; exact ht.2.2 j b hj
    · skip
      have e4 : (s_t S).length = 250 := (nI_eq (by omega) (by omega)).mp b26
      refine J_p 2 (ls' := [_, _]) rfl ?_
      refine J_call rfl rfl rfl (decide_eq_true hS.t) rfl (c_refused hS 4 (by decide) (by decide) ?_)
      show J _ _ _ _ _ _ _
      exact J_ret rfl rfl rfl (kR 4 _ (by simp only [fFeed, h6, e4, if_true, if_false, reduceIte]) (by decide))
  · skip
    show J _ _ _ _ _ _ _
    refine J_zne rfl (fun b => absurd rfl b) (fun _ => ?_)
    refine J_p 2 (ls' := [_, _]) rfl ?_
    refine J_call rfl rfl rfl (decide_eq_true hS.t) rfl (c_refused hS 0 (by decide) (by decide) ?_)
    show J _ _ _ _ _ _ _
    exact J_ret rfl rfl rfl (kR 0 _ (by simp only [fFeed, h6, if_true, if_false, reduceIte]) (by decide))

theorem s_wipe (h : RR M r S) (w : WfS T S) (hT : T + 100 < 2 ^ 20)  (k : ∀ M' : Mm, Fr r M M' → RR M' r (fWipe S).2 → WfS (T + 99) (fWipe S).2 → Q (some (.int (fWipe S).1)) M') : J E 173 0 [.ref r, U0] [] M Q := by
  obtain ⟨g, hg⟩ : ∃ g, mI M (r + 1) = g := ⟨_, rfl⟩
  have hS := h.1
  have hA := h.a
  rw [hg] at hA
  rw [show M = wI M (r + 1) g by rw [← hg, wI_id]]
  have kR : ∀ (v : Nat) (x : Int32), fWipe S = rfS S v → x = rfN v → Q (some (.int x)) (wI (rfM M r v) (r + 1) g) := fun v x e ex => by
    rw [e] at k; rw [ex]; exact k _ (Fr.rf hg) (h.rf hg v) (w.rf hT)
  have kO : ∀ (a : Int32) (S' : St) (M' : Mm), fWipe S = (a, S') → Fr r M M' → RR M' r S' → WfS (T + 99) S' → Q (some (.int a)) M' := fun a S' M' e => by
    rw [e] at k; exact k M'
  have ht := h.t
  refine J_p 1 (ls' := [_, _]) rfl ?_
  refine J_oget rfl hS.t ⟨by omega, ht.2.1⟩ ?_
  refine J_p 3 (ls' := [_, _]) rfl ?_
  refine J_oput rfl hS.t (Or.inl rfl) ?_
  refine J_p 1 (ls' := [_, _]) rfl ?_
  refine J_ret rfl rfl rfl (kO _ (z_t S []) _ rfl ((Fr.six M _ _ (by omega) (by omega)).trans (Fr.wix _ _ (by omega) (by omega))) (h.tape hg rfl rfl rfl ?_ (fun a z1 z2 z3 => ?_) ⟨Nat.zero_le _, ?_, fun j b hj => by cases hj⟩) (WfS.mono w (by omega) (by omega)))
  · rw [sI_wI, mI_same, upd, if_neg (by omega)]
  · rw [sI_wI, mI_oth _ _ z1]
  · rw [sI_wI, mI_same, upd, if_pos rfl]; rfl

end PUB16