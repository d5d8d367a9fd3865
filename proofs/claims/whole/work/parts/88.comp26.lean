/-! THE COMPONENT: a tick, whole. -/
section COMP26
variable {E : Nat × Nat} {M M' : Mm} {W : Nat → Prop} {Q : Option Value → Mm → Prop} {w t g a c q p i b m T : Nat} {o o' f f' : Nat → Nat} {F F' : Nat → Nat → Nat} {A : Ab} {k : Co} {d : Da} {x x' : Qa} {ms : List Ma} {l l' : La} {cs : List Ca} {what : Int32}
theorem OS.seti (hS : OS M w t g o F) {j : Nat} {z : Int32} : OS (sI M w j z) w t g o F := by
  obtain ⟨y1, y2, y3⟩ := hS.2.2.2.2.2.2.1
  refine hS.gen (Nat.le_refl _) (fun _ _ => rfl) rfl rfl rfl rfl rfl (fun c _ => by rw [mI_s1 _ _ _ (by omega)]) hS.2.2.2.2.1.2.2.1 hS.2.2.2.2.1.2.2.2.1 (fun q hq => ?_)
  exact (hS.qs hq).fr (fun _ _ _ => rfl) (by rw [mI_s1 _ _ _ (by omega)]) (fun _ _ _ => rfl)
theorem OC.time (hS : OS M w t g o F) (hC : OC M w t g o F A) (n : Nat) : OC (sI M w 9 (nI n)) w t g o F (w_n A n) := by
  obtain ⟨y1, y2, y3⟩ := hS.2.2.2.2.2.2.1
  have hn := hS.2.2.2.2.2.2.2
  have n9 : ¬ rO (mT M w) := by rw [hS.1.1]; unfold rO; omega
  have hF : Fm (fun z => z = w) M (sI M w 9 (nI n)) := Fm.sI rfl n9
  have e : ∀ z, z ≠ w → mI (sI M w 9 (nI n)) z = mI M z := fun z hz => mI_s1 _ _ _ hz
  have ew : ∀ j, j ≠ 9 → mI (sI M w 9 (nI n)) w j = mI M w j := fun j hj => by rw [mI_s0, if_neg hj]
  obtain ⟨c1, c2, c3, c4, c5, c6, ⟨txt, c7⟩, c8, c9, c10, c11⟩ := hC
  refine ⟨(ew 1 (by omega)).trans c1, ⟨(ew 3 (by omega)).trans c2.1, c2.2⟩, ⟨(ew 5 (by omega)).trans c3.1, c3.2⟩, ⟨(ew 7 (by omega)).trans c4.1, c4.2⟩, by rw [mI_s0, if_pos rfl]; rfl, (ew 10 (by omega)).trans c6, ⟨txt, c7.fr (e _ (by omega)) (e _ (by omega)) (e _ (by omega))⟩, fun z y hy => ?_, fun c k hk => (c9 c k hk).fr (e _ (by omega)), fun i d hd => (c10 i d hd).fr hF (e _ (by omega)) rfl, c11.fr (fun j hj => e _ (by omega))⟩
  have zl : z < (a_q A).length := li hy
  have q8 := c2.2
  exact (c8 z y hy).fr hF (fun i hi => (hS.qs (q := z) (by omega)).lt hi) (fun b h1 h2 => ⟨e b (by omega), rfl⟩)
theorem c_tick_t (hw : w < t) {s : Int32} : ∀ (d : Nat) (A : Ab) (M : Mm) (o : Nat → Nat) (F : Nat → Nat → Nat) (q : Nat) (v3 v4 v5 v6 : Value), STa E M → OS M w t g o F → OC M w t g o F A → Wf T A → q + d = (a_q A).length →
    (∀ (M2 : Mm) (o2 : Nat → Nat) (F2 : Nat → Nat → Nat) (k2 : Int32) (v3 v4 v5 v6 : Value), STa E M2 → Fm (Ww w t) M M2 → Gw M M2 A (tickQ d A q).1 0 → OS M2 w t g o2 F2 → OC M2 w t g o2 F2 (tickQ d A q).1 → Wf T (tickQ d A q).1 → J E 90 93 [.ref w, .int s, .int k2, v3, v4, v5, v6] [] M2 Q) →
    J E 90 17 [.ref w, .int s, .int (nI q), v3, v4, v5, v6] [] M Q
  | 0, A, M, o, F, q, v3, v4, v5, v6, hE, hS, hC, hW, hk, K => by
    have n8 := hC.2.1.2
    refine J_p 2 (ls' := [_, _, _, _, _, _, _]) rfl ?_
    refine J_gi rfl hS.1.1 hC.2.1.1 ?_
    exact J_ige rfl (fun _ => K M o F (nI q) v3 v4 v5 v6 hE (Fm.refl _ M) (Gw.refl M A) hS hC hW) (fun b => absurd (nI_le (by omega) (by omega)) b)
  | d + 1, A, M, o, F, q, v3, v4, v5, v6, hE, hS, hC, hW, hk, K => by
    have n8 := hC.2.1.2
    have q8 : q < 8 := by omega
    obtain ⟨x, hx⟩ := get_of (l := a_q A) (i := q) (by omega)
    have n20 := (hC.qc hx).n20
    have hQ := hS.qs q8
    have el : lenQ A q = (q_ls x).length := by unfold lenQ; rw [hx]
    have et : tickQ (d + 1) A q = ((tickQ d (ageQ (lenQ A q) A q 0).1 (q + 1)).1, (ageQ (lenQ A q) A q 0).2 + (tickQ d (ageQ (lenQ A q) A q 0).1 (q + 1)).2) := rfl
    rw [et, el] at K
    refine J_p 2 (ls' := [_, _, _, _, _, _, _]) rfl ?_
    refine J_gi rfl hS.1.1 hC.2.1.1 ?_
    refine J_ige rfl (fun b => absurd b (nI_ge (by omega) (by omega))) (fun _ => ?_)
    refine J_p 1 (ls' := [_, _, _, _, _, _, _]) rfl ?_
    refine J_getR rfl hS.1.1 hS.1.2.2.1 ?_
    refine J_p 1 (ls' := [_, _, _, _, _, _, _]) rfl ?_
    refine J_aald (n := q) rfl rfl (by rw [hS.2.2.1.1]; rfl) hS.2.2.1.2.1 (by omega) (by omega) (hS.2.2.1.2.2 q q8).1 ?_
    refine J_p 4 (ls' := [_, _, _, .ref (t + 4 + 25 * q), .int (nI 0), _, _]) rfl ?_
    refine J_gi rfl hQ.1 (hC.qc hx).n ?_
    refine J_p 1 (ls' := [_, _, _, _, _, .int (nI (q_ls x).length), _]) rfl ?_
    refine c_tick_q hw q8 (q_ls x).length A M o F 0 x v6 hE hS hC hW hx (by omega) (fun M2 o2 F2 k2 v h1 h2 h3 h4 h5 h6 => ?_)
    refine J_p 2 (ls' := [_, _, _, _, _, _, _]) rfl ?_
    rw [nI_add q 1]
    have hl := (ageQ_len (q_ls x).length A q 0).1
    exact c_tick_t hw d _ M2 o2 F2 (q + 1) _ _ _ _ h1 h4 h5 h6 (by omega) (fun M3 o3 F3 k3 v3 v4 v5 v6 g1 g2 g3 g4 g5 g6 => K M3 o3 F3 k3 v3 v4 v5 v6 g1 (h2.trans g2) (h3.trans g3) g4 g5 g6)
theorem c_tick (hE : STa E M) (hS : OS M w t g o F) (hC : OC M w t g o F A) (hW : Wf T A) (hT : T + 1 < 2 ^ 20) (K : ∀ (M2 : Mm) (o2 : Nat → Nat) (F2 : Nat → Nat → Nat), STa E M2 → Fm (Ww w t) M M2 → Gw M M2 A (tickA A).1 0 → OS M2 w t g o2 F2 → OC M2 w t g o2 F2 (tickA A).1 → Wf (T + 1) (tickA A).1 → Q (some (.int (nI (tickA A).2))) M2) : J E 90 0 [.ref w, U0, U0, U0, U0, U0, U0] [] M Q := by
  have hw := hS.2.2.2.2.2.2.1.1
  have aT := hW.1
  refine J_p 2 (ls' := [_, _, _, _, _, _, _]) rfl ?_
  refine J_gi rfl hS.1.1 hC.2.2.2.2.1 ?_
  refine J_p 2 (ls' := [_, _, _, _, _, _, _]) rfl ?_
  refine J_t0 (nI_add (a_n A) 1) ?_
  refine J_putI rfl hS.1.1 (Or.inl rfl) ?_
  have n9 : ¬ rO (mT M w) := by rw [hS.1.1]; unfold rO; omega
  have hF1 : Fm (Ww w t) M (sI M w 9 (nI (a_n A + 1))) := Fm.sI (Or.inl rfl) n9
  have hS1 : OS (sI M w 9 (nI (a_n A + 1))) w t g o F := hS.seti
  have hC1 := OC.time hS hC (a_n A + 1)
  have hW1 : Wf (T + 1) (w_n A (a_n A + 1)) := hW.tick (by omega) hT (by omega)
  refine J_p 1 (ls' := [_, _, _, _, _, _, _]) rfl ?_
  refine J_call rfl rfl rfl (decide_eq_true hS1.1.1) rfl (c_countLetters hS1 hC1 ?_)
  show J _ _ _ _ _ _ _
  rw [lnS_A]
  refine J_p 3 (ls' := [_, .int (nI (lnA (w_n A (a_n A + 1)))), .int (nI 0), _, _, _, _]) rfl ?_
  refine c_tick_t hw (a_q A).length (w_n A (a_n A + 1)) _ o F 0 _ _ _ _ (hE.fr hF1) hS1 hC1 hW1 (by show 0 + (a_q A).length = (a_q A).length; omega) (fun M2 o2 F2 k2 v3 v4 v5 v6 h1 h2 h3 h4 h5 h6 => ?_)
  refine J_p 2 (ls' := [_, _, _, _, _, _, _]) rfl ?_
  refine J_call rfl rfl rfl (decide_eq_true h4.1.1) rfl (c_countLetters h4 h5 ?_)
  show J _ _ _ _ _ _ _
  have hln := lnA_tickQ (a_q A).length (w_n A (a_n A + 1)) 0
  rw [lnS_A]
  refine J_p 1 (ls' := [_, _, _, _, _, _, _]) rfl ?_
  refine J_t0 (nI_subE (m := lnA (w_n A (a_n A + 1))) (n := lnA (tickQ (a_q A).length (w_n A (a_n A + 1)) 0).1) rfl rfl (by omega)) ?_
  rw [show lnA (w_n A (a_n A + 1)) - lnA (tickQ (a_q A).length (w_n A (a_n A + 1)) 0).1 = (tickA A).2 by show _ = (tickQ (a_q A).length (w_n A (a_n A + 1)) 0).2; omega]
  exact J_ret rfl rfl rfl (K M2 o2 F2 h1 (hF1.trans h2) h3 h4 h5 h6)
end COMP26