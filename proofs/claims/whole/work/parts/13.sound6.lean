def mSz (M : Mm) (M' : Mm) : Nat := mN M' - mN M
def mSl (M : Mm) (M' : Mm) : Nat := mU M' - mU M
theorem okM_spec {j : Nat} (hj : j < nM) : (my j).cls = ownS (mt j).1 ∧ (mt j).1 < 14 ∧ ((my j).cls ≠ "java/lang/invoke/MethodHandle" ∧ (my j).cls ≠ "java/lang/invoke/VarHandle") ∧ (parseMethodDescriptor (my j).desc).map (fun d => d.parameters.length + (bif (mt j).2.2.2.2.1 then 0 else 1)) = some (mt j).2.1 ∧ plainName (my j).cls = true ∧ (mt j).2.2.1 ≤ 27 := by
  have h := okM_all j hj
  simp only [okM, Bool.and_eq_true, decide_eq_true_eq] at h
  obtain ⟨⟨⟨⟨⟨⟨h1, h2⟩, h3⟩, h4⟩, h5⟩, h6⟩, h7⟩ := h
  exact ⟨h1, bltE h2, ⟨h3, h4⟩, h5, h6, bleE h7⟩
theorem ownS_cl : ∀ x, x < 12 → ownS x = (clT x).1
  | 0, _ => rfl
  | 1, _ => rfl
  | 2, _ => rfl
  | 3, _ => rfl
  | 4, _ => rfl
  | 5, _ => rfl
  | 6, _ => rfl
  | 7, _ => rfl
  | 8, _ => rfl
  | 9, _ => rfl
  | 10, _ => rfl
  | 11, _ => rfl
  | n + 12, h => absurd h (by omega)
def Rm (mj : Nat) (M M' : Mm) : Room := { frames := (mt mj).2.2.2.1, cells := mN M' - mN M, slots := mU M' - mU M, locals := 46 * (mt mj).2.2.2.1 }
def QcE (D : D3) (lo : Nat) (E : Nat × Nat) (v : Option Value) (M' : Mm) : Array Value → State → Outcome → State → Prop := fun _ _ o t => o = .returned v ∧ GG D lo E M' t t.heap
def PcE (D : D3) (lo : Nat) (E : Nat × Nat) (as : List Value) (M : Mm) : Array Value → State → Prop := va_Pc as (fun U => GG D lo E M U U.heap)
def MetE (l : Launch) (D : D3) (lo : Nat) (E : Nat × Nat) (mj : Nat) (as : List Value) (M : Mm) (v : Option Value) (M' : Mm) : Prop :=
  Met l (my mj) (cdA mj :: lw_good) (Rm mj M M') (PcE D lo E as M) (QcE D lo E v M') (mN M' - mN M) (mU M' - mU M) (fun q => lo ≤ q)
/-- the frame's own run, to the instruction that returns -/
def FrE (l : Launch) (D : D3) (lo : Nat) (E : Nat × Nat) (mi pc : Nat) (ls st : List Value) (M : Mm) (v : Option Value) (M' : Mm) : Prop :=
  ∀ {p : Program} {e : Env} {R : Room} {s : State} {m : MethodId} {args : Array Value} {below : List Frame} {meth : Method} {c : Code} {H : Heap} {locs : List Loc} {cells slots : Nat} {Q : State → Prop} {A : Array Slot},
    p.tables.exec = Jvm.exec → c.code = mc mi → c.maxLocals = ls.length → s.vm.findClass (ownS (mt mi).1) = some m.cls → meth.name = (my mi).name → (∀ w ∈ lw_good, w.before args s = true) →
    (mt mi).2.2.2.1 ≤ R.frames → 46 * (mt mi).2.2.2.1 ≤ R.locals → LR A ls → GG D lo E M s H → (∀ z ∈ locs, lo ≤ z.base) → cells + (mN M' - mN M) ≤ R.cells → slots + (mU M' - mU M) ≤ R.slots →
    (∀ H' locs' A' pc' q st', tb mi pc' = some q → kd q = 5 → rs q st' = some v → GG D lo E M' s H' → (∀ z ∈ locs', lo ≤ z.base) → W p l e R s m args below meth c H' locs' (cells + (mN M' - mN M)) (slots + (mU M' - mU M)) Q (F0 m pc' A' st')) →
    W p l e R s m args below meth c H locs cells slots Q (F0 m pc A st)
section SND6
variable {p : Program} {l : Launch} {e : Env} {R : Room} {s : State} {m : MethodId} {args : Array Value} {below : List Frame} {meth : Method} {c : Code} {H : Heap} {locs : List Loc} {cells slots mc' ms' : Nat} {Q : State → Prop}
variable {mi pc : Nat} {A : Array Slot} {ls st st' r : List Value} {D : D3} {lo : Nat} {E : Nat × Nat} {M M' : Mm} {v : Option Value}
theorem run_go {a : Array Value} {g0 : JFrame} (hr : va_Run p l e R s m args below meth c H locs cells slots mc' ms' (F0 m pc A st) r (QcE D lo E v M' a) (fun q => lo ≤ q)) (hK : KK D s) (hL : ∀ z ∈ locs, lo ≤ z.base)
    (k : ∀ H' locs', GG D lo E M' s H' → (∀ z ∈ locs', lo ≤ z.base) → W p l e R s m args below meth c H' locs' (cells + mc') (slots + ms') Q (F0 m (pc + 3) A (v.toList ++ r))) : W p l e R s m args below meth c H locs cells slots Q (F0 m pc A st) := by
  intro T hT X
  obtain ⟨v', st₀, t, T', L, h0, X', hL', e1, e2, ⟨hv, G'⟩, stp⟩ := hr T hT X
  cases hv
  have hvm : t.vm.Alike s.vm := by rw [← e2]; exact X'.warmed.alike.symm
  have G1 : GG D lo E M' s T'.heap := by rw [e1]; exact GG.back hK hvm G'
  obtain ⟨t2, a1, b1⟩ := k T'.heap (locs ++ L) G1 (fun q hq => by
    rcases List.mem_append.mp hq with h | h
    · exact hL q h
    · exact hL' q h) T' rfl X'
  exact ⟨t2, stp t2 a1, b1⟩
theorem pcE_blind {as : List Value} : FrameBlind (PcE D lo E as M) := fun a U g mk q => ⟨q.1, GG.same rfl q.2⟩
theorem good_all {w : Cond} (h : w ∈ lw_good) : (w.onTables && w.keeps) = true ∨ ∃ ty, w = .arrayClass ty := good_of_word (List.mem_filter.mp h).2
theorem ws_pay (hts : ∀ w ∈ lw_good, w.before args s = true) {w0 : Cond} (h0 : w0 ∈ lw_good) : ∀ w ∈ w0 :: lw_good, ∀ (a' : Array Value) (U : State), s.WarmedH U.vm → w.before a' U = true := by
  intro w hw a' U hW
  have hw' : w ∈ lw_good := by
    rcases List.mem_cons.mp hw with rfl | h
    · exact h0
    · exact h
  exact word_at hW (good_all hw') (hts w hw')
theorem call_sound {q : En} {mj : Nat} {as : List Value} {M1 : Mm} (hmi : mi < nM) (hx : p.tables.exec = Jvm.exec) (hb : c.code = mc mi) (hml : c.maxLocals = A.size) (hown : s.vm.findClass (ownS (mt mi).1) = some m.cls) (hts : ∀ w ∈ lw_good, w.before args s = true)
    (hrf : (mt mi).2.2.2.1 ≤ R.frames) (hrl : 46 * (mt mi).2.2.2.1 ≤ R.locals) (hc : chk mi (pc, q) = true) (hk4 : kd q = 4) (hcs : cs mi q st = some (mj, as, r)) (hrc : rcv M mj q.1 as = true)
    (hM : mj < nM → MetE l D lo E mj as M v M1) (G : GG D lo E M s H) (hL : ∀ z ∈ locs, lo ≤ z.base) (hc1 : cells + (mN M1 - mN M) ≤ R.cells) (hc2 : slots + (mU M1 - mU M) ≤ R.slots)
    (k : ∀ H' locs', GG D lo E M1 s H' → (∀ z ∈ locs', lo ≤ z.base) → W p l e R s m args below meth c H' locs' (cells + (mN M1 - mN M)) (slots + (mU M1 - mU M)) Q (F0 m q.2.1 A (v.toList ++ r))) : W p l e R s m args below meth c H locs cells slots Q (F0 m pc A st) := by
  obtain ⟨i, nx, tg, x, y, w⟩ := q
  simp only [cs] at hcs
  cases hrk : Nat.blt (mt x).2.2.2.1 (mt mi).2.2.2.1 with
  | false => rw [hrk] at hcs; cases hcs
  | true =>
    rw [hrk] at hcs
    simp only [cond_true] at hcs
    split at hcs
    · rename_i as' r' hsp
      cases hq : (Nat.ble ((r'.map fun v => v.category).sum) 8 && Nat.ble (xp as').length (mt x).2.2.1) with
      | false => rw [hq] at hcs; cases hcs
      | true =>
        rw [hq] at hcs
        cases hcs
        rw [Bool.and_eq_true] at hq
        have hr8 := bleE hq.1
        have hrk := bltE hrk
        obtain ⟨t, t1, t2, t3⟩ := spl_spec _ _ _ _ _ hsp
        rw [List.append_nil] at t3
        have hst : st = as.reverse ++ r := by rw [t2, t3, List.reverse_reverse]
        have hlen : as.length = (mt mj).2.1 := by rw [t3, List.length_reverse, t1]
        have hjm : (mj < nM - 1) → mj < nM := fun h => by omega
        -- the words of the call
        have words : ∀ (hj : mj < nM - 1), (Rm mj M M1).cells = mN M1 - mN M ∧ (Rm mj M M1).slots = mU M1 - mU M ∧ (Rm mj M M1).frames + 1 ≤ R.frames ∧ 8 + ((mt mj).2.2.1 + 11) + (Rm mj M M1).locals ≤ R.locals ∧
            (∀ w ∈ cdA mj :: lw_good, ∀ (a' : Array Value) (U : State), s.WarmedH U.vm → w.before a' U = true) ∧ cdA mj ∈ cdA mj :: lw_good := fun hj => by
          have o6 := (okM_spec (hjm hj)).2.2.2.2.2
          refine ⟨rfl, rfl, ?_, ?_, ws_pay hts (good_in (cd_mem hj) rfl), List.mem_cons_self⟩
          · show (mt mj).2.2.2.1 + 1 ≤ _; omega
          · show 8 + ((mt mj).2.2.1 + 11) + 46 * (mt mj).2.2.2.1 ≤ _; omega
        have hcode : ∀ (hj : mj < nM - 1), (cdA mj).before args s = true := fun hj => good_of hts (cd_mem hj) rfl
        have hini : ∀ (hj : mj < nM - 1), (Cond.initialized (my mj).cls).before args s = true := fun hj => by
          rw [(okM_spec (hjm hj)).1]
          exact good_of hts (ini_mem (okM_spec (hjm hj)).2.1) rfl
        have hwr : 2 * (F0 m pc A st).monitorRoom + (r.map fun v => v.category).sum ≤ 8 := lv_room hr8
        have hsta : ∀ (hj : mj < nM - 1), (siA mj).before args s = true := fun hj => good_of hts (si_mem hj) (by unfold siA; cases (mt mj).2.2.2.2.1 <;> rfl)
        cases i
        case invokevirtual idx =>
          obtain ⟨hd, rfl, h1⟩ := chk_dec hc rfl
          simp only [chk1, Bool.and_eq_true, Bool.or_eq_true, Bool.not_eq_true'] at h1
          obtain ⟨⟨⟨⟨g1, g2⟩, g3⟩, g4⟩, g5⟩ := h1
          have hj : mj < nM - 1 := bltE g2
          obtain ⟨o1, o2, o3, o4, o5, o6⟩ := okM_spec (hjm hj)
          simp only [rcv] at hrc
          split at hrc
          · rename_i b As
            have hT : mT M b = (mt mj).1 := of_decide_eq_true hrc
            have hb12 : (mt mj).1 < 12 := bltE g5
            obtain ⟨hlo, cell, q1, q2, q3, -⟩ := (G.2.1.2.2 b).1 (by rw [hT]; exact hb12)
            have hKn := G.1.1 _ _ (cl_get hb12)
            have hfc : s.vm.findClass (my mj).cls = some cell.cls := by rw [o1, ownS_cl _ hb12, q2, hT]; exact hKn.2.1
            have hp : PreV s H (my mj).cls b (PcE D lo E (Value.ref b :: As) M) As := ⟨pcE_blind, ⟨cell, q1, by rw [q3]; rfl, hfc⟩, fun U hU hW => ⟨rfl, by show GG D lo E M U U.heap; rw [hU]; exact G.warm hW⟩⟩
            have hn : ∀ sig, parseMethodDescriptor (my mj).desc = some sig → As.length = sig.parameters.length := fun sig hs => by
              rw [hs, g4] at o4
              have := Option.some.inj o4
              simp only [cond_false] at this
              simp only [List.length_cons] at hlen
              omega
            have hinst : (Cond.instanceMethod (my mj)).before args s = true := by
              have := hsta hj
              unfold siA at this
              rw [g4] at this
              exact this
            have hsel : (Cond.selects (my mj).cls (my mj) (my mj)).before args s = true := good_of hts (sel_mem g3) rfl
            have hst2 : (F0 m pc A st).stack = As.reverse ++ .ref b :: r := by show st = _; rw [hst]; simp
            obtain ⟨w1, w2, w3, w4, w5, w6⟩ := words hj
            rcases g1 with g1 | g1
            · have hlk : (Cond.methodLink (ownS (mt mi).1) idx (my mj)).before args s = true := by
                have := MLs_mem ((mt mi).1, idx, mj) g1
                have e9 : myx mj = my mj := myx_lt hj
                rw [e9] at this
                exact good_of hts this rfl
              exact run_go (g0 := F0 m pc A st) (va_runV (l := l) ⟨hx, hb, hml, hown, hts⟩ (hM (hjm hj)) ⟨⟨w1, w2, w3, w4, w5, w6, hcode hj, hini hj, o3, hn, hlk⟩, hinst, hsel⟩ hp rfl rfl rfl hst2 hwr hd ⟨hc1, hc2⟩) G.1 hL k
            · have hlk : va_Nw (Cond.methodLinkNest (ownS (mt mi).1) idx (my mj) "CreditBroker") s := by
                have := G.1.2.2.2.2.1 ((mt mi).1, idx, mj) g1
                have e9 : myx mj = my mj := myx_lt hj
                rw [e9] at this
                exact this
              exact run_go (g0 := F0 m pc A st) (va_runVN (l := l) ⟨hx, hb, hml, hown, hts⟩ (hM (hjm hj)) ⟨⟨⟨w1, w2, w3, w4, w5, w6⟩, hcode hj, hini hj, o3, hn, va_Nw.use rfl hlk⟩, hinst, hsel⟩ hp rfl rfl rfl hst2 hwr hd ⟨hc1, hc2⟩) G.1 hL k
          · cases hrc
        case invokestatic idx =>
          obtain ⟨hd, rfl, h1⟩ := chk_dec hc rfl
          have hx9 : ¬ 900 ≤ mj := fun h => by
            have : Nat.ble 900 mj = true := Nat.ble_eq.mpr h
            simp [kd, this] at hk4
          simp only [chk1, Bool.and_eq_true, Bool.or_eq_true] at h1
          rcases h1 with ⟨⟨h1, -⟩, -⟩ | ⟨⟨g1, g2⟩, g4⟩
          · exfalso
            rcases h1 with (h1 | h1) | h1 <;> have := beqE h1 <;> omega
          · have hj : mj < nM - 1 := bltE g2
            obtain ⟨o1, o2, o3, o4, o5, o6⟩ := okM_spec (hjm hj)
            have hp : PreS s H (PcE D lo E as M) as := ⟨pcE_blind, fun U hU hW => ⟨rfl, by show GG D lo E M U U.heap; rw [hU]; exact G.warm hW⟩⟩
            have hn : ∀ sig, parseMethodDescriptor (my mj).desc = some sig → as.length = sig.parameters.length := fun sig hs => by
              rw [hs, g4] at o4
              have := Option.some.inj o4
              simp only [cond_true] at this
              omega
            have hstt : (Cond.static (my mj)).before args s = true := by
              have := hsta hj
              unfold siA at this
              rw [g4] at this
              exact this
            have hst2 : (F0 m pc A st).stack = as.reverse ++ r := hst
            obtain ⟨w1, w2, w3, w4, w5, w6⟩ := words hj
            rcases g1 with g1 | g1
            · have hlk : (Cond.methodLink (ownS (mt mi).1) idx (my mj)).before args s = true := by
                have := MLs_mem ((mt mi).1, idx, mj) g1
                have e9 : myx mj = my mj := myx_lt hj
                rw [e9] at this
                exact good_of hts this rfl
              exact run_go (g0 := F0 m pc A st) (va_runS (l := l) ⟨hx, hb, hml, hown, hts⟩ (hM (hjm hj)) ⟨⟨w1, w2, w3, w4, w5, w6, hcode hj, hini hj, o3, hn, hlk⟩, hstt⟩ hp rfl rfl rfl hst2 hwr hd ⟨hc1, hc2⟩) G.1 hL k
            · have hlk : va_Nw (Cond.methodLinkNest (ownS (mt mi).1) idx (my mj) "CreditBroker") s := by
                have := G.1.2.2.2.2.1 ((mt mi).1, idx, mj) g1
                have e9 : myx mj = my mj := myx_lt hj
                rw [e9] at this
                exact this
              exact run_go (g0 := F0 m pc A st) (va_runSN (l := l) ⟨hx, hb, hml, hown, hts⟩ (hM (hjm hj)) ⟨⟨⟨w1, w2, w3, w4, w5, w6⟩, hcode hj, hini hj, o3, hn, va_Nw.use rfl hlk⟩, hstt, trivial⟩ hp rfl rfl rfl hst2 hwr hd ⟨hc1, hc2⟩) G.1 hL k
        case invokespecial idx =>
          obtain ⟨hd, rfl, h1⟩ := chk_dec hc rfl
          have hx9 : ¬ 900 ≤ mj := fun h => by
            have : Nat.ble 900 mj = true := Nat.ble_eq.mpr h
            simp [kd, this] at hk4
          simp only [chk1, Bool.and_eq_true, Bool.or_eq_true, Bool.not_eq_true', decide_eq_true_eq] at h1
          rcases h1 with ⟨⟨h1, -⟩, -⟩ | ⟨⟨⟨⟨g1, g2⟩, g4⟩, g5⟩, g6⟩
          · exfalso
            have := beqE h1; omega
          · have hj : mj < nM - 1 := bltE g2
            obtain ⟨o1, o2, o3, o4, o5, o6⟩ := okM_spec (hjm hj)
            simp only [rcv] at hrc
            split at hrc
            · rename_i b As
              have hp : PreS s H (PcE D lo E (Value.ref b :: As) M) (.ref b :: As) := ⟨pcE_blind, fun U hU hW => ⟨rfl, by show GG D lo E M U U.heap; rw [hU]; exact G.warm hW⟩⟩
              have hn : ∀ sig, parseMethodDescriptor (my mj).desc = some sig → As.length = sig.parameters.length := fun sig hs => by
                rw [hs, g4] at o4
                have := Option.some.inj o4
                simp only [cond_false] at this
                simp only [List.length_cons] at hlen
                omega
              have hinst : (Cond.instanceMethod (my mj)).before args s = true := by
                have := hsta hj
                unfold siA at this
                rw [g4] at this
                exact this
              have hcd : cdA mj = Cond.code (my mj) (mc mj) (mt mj).2.2.1 none := by unfold cdA; rw [g6]
              have hst2 : (F0 m pc A st).stack = As.reverse ++ .ref b :: r := by show st = _; rw [hst]; simp
              obtain ⟨w1, w2, w3, w4, w5, w6⟩ := words hj
              have w6' : Cond.code (my mj) (mc mj) (mt mj).2.2.1 none ∈ cdA mj :: lw_good := by rw [← hcd]; exact w6
              have hcode' : (Cond.code (my mj) (mc mj) (mt mj).2.2.1 none).before args s = true := by rw [← hcd]; exact hcode hj
              rcases g1 with g1 | g1
              · have hlk : (Cond.methodLink (ownS (mt mi).1) idx (my mj)).before args s = true := by
                  have := MLs_mem ((mt mi).1, idx, mj) g1
                  have e9 : myx mj = my mj := myx_lt hj
                  rw [e9] at this
                  exact good_of hts this rfl
                exact run_go (g0 := F0 m pc A st) (va_runI (l := l) ⟨hx, hb, hml, hown, hts⟩ (hM (hjm hj)) ⟨⟨w1, w2, w3, w4, w5, w6', hcode', hini hj, o3, hn, hlk⟩, g5, hinst⟩ hp rfl rfl rfl hst2 hwr hd ⟨hc1, hc2⟩) G.1 hL k
              · have hlk : va_Nw (Cond.methodLinkNest (ownS (mt mi).1) idx (my mj) "CreditBroker") s := by
                  have := G.1.2.2.2.2.1 ((mt mi).1, idx, mj) g1
                  have e9 : myx mj = my mj := myx_lt hj
                  rw [e9] at this
                  exact this
                exact run_go (g0 := F0 m pc A st) (va_runIN (l := l) ⟨hx, hb, hml, hown, hts⟩ (hM (hjm hj)) ⟨⟨⟨w1, w2, w3, w4, w5, w6'⟩, hcode', hini hj, o3, hn, va_Nw.use rfl hlk⟩, g5, hinst⟩ hp rfl rfl rfl hst2 hwr hd ⟨hc1, hc2⟩) G.1 hL k
            · cases hrc
        all_goals (simp only [kd] at hk4; first | (cases hk4; done) | omega)
    · cases hcs
end SND6
/-- a method's contract out of its frame's run -/
theorem met_of {l : Launch} {D : D3} {lo : Nat} {E : Nat × Nat} (hck : ∀ mi pc q, mi < nM → tb mi pc = some q → chk mi (pc, q) = true) {mj : Nat} (hj : mj < nM) {as : List Value} {M M' : Mm} {v : Option Value} (hxp : (xp as).length ≤ (mt mj).2.2.1) (h : FrE l D lo E mj 0 (mkL mj as) [] M v M') : MetE l D lo E mj as M v M' := by
  obtain ⟨o1, o2, o3, o4, o5, o6⟩ := okM_spec hj
  refine Met.ofW (cc := mc mj) (maxL := (mt mj).2.2.1) (ret := mr mj) (ws' := lw_good) o5 rfl ?_
  intro p e s m args below meth c s₁ B hml hv
  obtain ⟨rfl, G⟩ := hv
  have hx := B.exec
  have hb := B.bytes
  have hr := B.returns
  have hts : ∀ w ∈ lw_good, w.before as.toArray s = true := fun w hw => atoms_spec (ws := cdA mj :: lw_good) B.pre w (List.mem_cons_of_mem _ hw)
  have hown : s.vm.findClass (ownS (mt mj).1) = some m.cls := by rw [← o1]; exact findClass_of_methodNamed B.named
  have hlocks := B.notSynchronized
  have hname : meth.name = (my mj).name := (name_of_methodNamed B.named B.method).1
  rw [lg_entry_eq]
  refine h hx hb (by rw [hml]; exact (pad_len _ _).symm) hown hname hts (Nat.le_refl _) (Nat.le_refl _) (LR_entry hxp) G (fun z hz => by cases hz) (by show 0 + _ ≤ _; rw [Nat.zero_add]; exact Nat.le_refl _) (by show 0 + _ ≤ _; rw [Nat.zero_add]; exact Nat.le_refl _) ?_
  intro H' locs' A' pc' q st' hq hk5 hrs G' hL'
  rw [Nat.zero_add, Nat.zero_add]
  have hc := hck mj pc' q hj hq
  have fin : ∀ t : State, t.heap = H' → s.WarmedH t.vm → GG D lo E M' t t.heap := fun t ht hW => by rw [ht]; exact G'.warm hW
  obtain ⟨i, nx, tg, x, y, w⟩ := q
  cases i
  case ireturn =>
    obtain ⟨hd, -, h1⟩ := chk_dec hc rfl
    simp only [chk1, Bool.or_eq_true, Bool.and_eq_true, decide_eq_true_eq] at h1
    simp only [rs] at hrs
    split at hrs
    · rename_i z
      split at hrs
      · rename_i hz
        cases hrs
        rcases h1 with ⟨h1, h2⟩ | ⟨h1, h2⟩
        · exact W.iret hx hb (by rw [hr, h1]) (fun t ht hW => ⟨rfl, fin t ht hW⟩) hL' hd
        · have h2 := beqE h2
          refine W.zret (ty := .boolean) hx hb (by rw [hr, h1]) ?_ (fun t ht hW => ⟨rfl, fin t ht hW⟩) hL' hd
          rcases hz with hz | rfl | rfl
          · omega
          · rfl
          · rfl
      · cases hrs
    · cases hrs
  case lreturn =>
    obtain ⟨hd, -, h1⟩ := chk_dec hc rfl
    simp only [chk1, decide_eq_true_eq] at h1
    simp only [rs] at hrs
    split at hrs
    · cases hrs
      exact W.lret hx hb (by rw [hr, h1]) (fun t ht hW => ⟨rfl, fin t ht hW⟩) hL' hd
    · cases hrs
  case areturn =>
    obtain ⟨hd, -, h1⟩ := chk_dec hc rfl
    simp only [chk1] at h1
    have hrt : ∃ rt, mr mj = some rt ∧ ((∃ n, rt = .object n) ∨ ∃ t, rt = .array t) := by
      split at h1
      · rename_i n hn; exact ⟨_, hn, Or.inl ⟨n, rfl⟩⟩
      · rename_i n hn; exact ⟨_, hn, Or.inr ⟨n, rfl⟩⟩
      · cases h1
    obtain ⟨rt, hrt, hrt2⟩ := hrt
    simp only [rs] at hrs
    split at hrs
    · rename_i z
      cases hrs
      exact W.aret hx hb (by rw [hr, hrt]) hrt2 (Or.inr ⟨z, rfl⟩) (fun t ht hW => ⟨rfl, fin t ht hW⟩) hL' hd
    · cases hrs
      exact W.aret hx hb (by rw [hr, hrt]) hrt2 (Or.inl rfl) (fun t ht hW => ⟨rfl, fin t ht hW⟩) hL' hd
    · cases hrs
  case return_ =>
    obtain ⟨hd, -, h1⟩ := chk_dec hc rfl
    simp only [chk1, decide_eq_true_eq] at h1
    simp only [rs] at hrs
    split at hrs
    · cases hrs
      exact W.vret hx hb (by rw [hr, h1]) (fun t ht hW => ⟨rfl, fin t ht hW⟩) hL' hd
    · cases hrs
  all_goals (simp only [rs] at hrs; cases hrs)
theorem ev_sound (l : Launch) (D : D3) (lo : Nat) (E : Nat × Nat) (hck : ∀ mi pc q, mi < nM → tb mi pc = some q → chk mi (pc, q) = true) : ∀ (n mi pc : Nat) (ls st : List Value) (M : Mm) (v : Option Value) (M' : Mm), mi < nM → ev E n mi pc ls st M = some (v, M') → FrE l D lo E mi pc ls st M v M' := by
  intro n
  induction n with
  | zero => intro mi pc ls st M v M' _ h; cases h
  | succ n ih =>
    intro mi pc ls st M v M' hmi h
    intro p e R s m args below meth c H locs cells slots Q A hx hb hml hown hname hts hrf hrl hl G hL hc1 hc2 kk
    have hmlA : c.maxLocals = A.size := by rw [hml]; exact hl.1.symm
    unfold ev at h
    split at h
    · cases h
    · rename_i q hq
      have hc := hck mi pc q hmi hq
      split at h
      · split at h
        · rename_i pc' ls' st' hp
          exact ps_sound hx hb hc hown hts hp hl (fun A' hl' => ih mi pc' ls' st' M v M' hmi h hx hb (by rw [hml, ps_len hp]) hown hname hts hrf hrl hl' G hL hc1 hc2 kk)
        · cases h
      · split at h
        · rename_i b r hp
          exact br_sound hx hb hc hp (ih mi _ ls r M v M' hmi h hx hb hml hown hname hts hrf hrl hl G hL hc1 hc2 kk)
        · cases h
      · split at h
        · rename_i pc' r hp
          exact sw_sound hx hb hc hp (ih mi _ ls r M v M' hmi h hx hb hml hown hname hts hrf hrl hl G hL hc1 hc2 kk)
        · cases h
      · rename_i hk3
        split at h
        · rename_i st' M1 hp
          have hm1 := ms_mono hp
          have hm2 := ev_mono E n _ _ _ _ _ _ _ h
          refine (ms_sound hx hb hmlA hown hname hts hc hrf hrl hp hk3 G hL (by omega) (by omega) (fun H' locs' G' hL' => ?_)).2.2
          refine ih mi _ ls st' M1 v M' hmi h hx hb hml hown hname hts hrf hrl hl G' hL' (by omega) (by omega) (fun H2 L2 A2 pc2 q2 st2 a1 a2 a3 a4 a5 => ?_)
          have := kk H2 L2 A2 pc2 q2 st2 a1 a2 a3 a4 a5
          rw [show cells + (mN M1 - mN M) + (mN M' - mN M1) = cells + (mN M' - mN M) by omega, show slots + (mU M1 - mU M) + (mU M' - mU M1) = slots + (mU M' - mU M) by omega]
          exact this
        · cases h
      · rename_i hk4
        split at h
        · rename_i mj as r hcs
          cases hr : rcv M mj q.1 as with
          | false => rw [hr] at h; cases h
          | true =>
            rw [hr] at h
            simp only [cond_true] at h
            split at h
            · rename_i v1 M1 h1
              have hm1 := ev_mono E n _ _ _ _ _ _ _ h1
              have hm2 := ev_mono E n _ _ _ _ _ _ _ h
              have hxp : (xp as).length ≤ (mt mj).2.2.1 := cs_xp hcs
              refine call_sound hmi hx hb hmlA hown hts hrf hrl hc hk4 hcs hr (fun hj => met_of hck hj hxp (ih mj 0 _ _ M v1 M1 hj h1)) G hL (by omega) (by omega) (fun H' locs' G' hL' => ?_)
              refine ih mi _ ls _ M1 v M' hmi h hx hb hml hown hname hts hrf hrl hl G' hL' (by omega) (by omega) (fun H2 L2 A2 pc2 q2 st2 a1 a2 a3 a4 a5 => ?_)
              have := kk H2 L2 A2 pc2 q2 st2 a1 a2 a3 a4 a5
              rw [show cells + (mN M1 - mN M) + (mN M' - mN M1) = cells + (mN M' - mN M) by omega, show slots + (mU M1 - mU M) + (mU M' - mU M1) = slots + (mU M' - mU M) by omega]
              exact this
            · cases h
        · cases h
      · rename_i k0 k1 k2 k3 k4
        split at h
        · rename_i v1 hrs
          cases h
          have hk5 : kd q = 5 := by
            have h5 := kd_le q
            rcases (show kd q = 0 ∨ kd q = 1 ∨ kd q = 2 ∨ kd q = 3 ∨ kd q = 4 ∨ kd q = 5 by omega) with h | h | h | h | h | h
            · exact absurd h (by assumption)
            · exact absurd h (by assumption)
            · exact absurd h (by assumption)
            · exact absurd h (by assumption)
            · exact absurd h (by assumption)
            · exact h
          have := kk H locs A pc q st hq hk5 hrs G hL
          rw [Nat.sub_self, Nat.sub_self, Nat.add_zero, Nat.add_zero] at this
          exact this
        · cases h
