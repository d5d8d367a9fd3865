/-! THE COMPONENT: send, whole; a new consumer. -/
def Wm (w t g z : Nat) : Prop := Ww w t z ∨ (g < z ∧ z ≤ g + 5)
section COMP30
variable {E : Nat × Nat} {M M' : Mm} {W : Nat → Prop} {Q : Option Value → Mm → Prop} {w t g a c q p i b m T : Nat} {o o' f f' : Nat → Nat} {F F' : Nat → Nat → Nat} {A : Ab} {x : Qa} {ms : List Ma}
theorem c_send {key pr : Nat} {v : Int32} (hS : OS M w t g o F) (hC : OC M w t g o F A) (hW : Wf T A) (hT1 : 1 ≤ (a_t A).length) (h3 : (a_m A).length < 300) (K : ∀ (M2 : Mm) (o2 : Nat → Nat) (F2 : Nat → Nat → Nat), Fm (Wm w t g) M M2 → Gw M M2 A (sendA A key pr v).1 (a_q A).length → OS M2 w t g o2 F2 → OC M2 w t g o2 F2 (sendA A key pr v).1 → Q (some (.int (nI (sendA A key pr v).2))) M2) : J E 76 0 [.ref w, .int (nI key), .int (nI pr), .int v, U0, U0, U0, U0] [] M Q := by
  obtain ⟨y1, y2, y3⟩ := hS.2.2.2.2.2.2.1
  have hmn := hS.2.2.2.2.2.2.2
  have n8 := hC.2.1.2
  obtain ⟨txt, hTC⟩ := hC.2.2.2.2.2.2.1
  refine J_p 1 (ls' := [_, _, _, _, _, _, _, _]) rfl ?_
  refine J_gi rfl hS.1.1 hC.1 ?_
  refine J_p 2 (ls' := [_, _, _, _, .int (nI (a_m A).length), _, _, _]) rfl ?_
  refine J_getR rfl hS.1.1 hS.1.2.1 ?_
  refine J_p 5 (ls' := [_, _, _, _, _, _, _, _]) rfl ?_
  refine J_gi rfl hS.1.1 hC.2.2.2.2.1 ?_
  refine J_p 1 (ls' := [_, _, _, _, _, _, _, _]) rfl ?_
  refine J_getR rfl hS.1.1 hS.1.2.2.2.2.2 ?_
  refine J_gi rfl hS.2.1.1 hTC.2.1.1 ?_
  refine J_call rfl rfl rfl (decide_eq_true hS.2.2.2.2.2.1.1) rfl (c_put hS.2.2.2.2.2.1 hC.mc h3 (fun M1 hF1 hN1 hR1 hM1 => ?_))
  show J _ _ _ _ _ _ _
  have tw : mT M1 w = 9 := by rw [(hF1.T (show w < mN M by omega)).1]; exact hS.1.1
  have iw : mI M1 w = mI M w := (hF1.2.2 w (by omega) (Or.inl (by omega))).2.1
  refine J_p 2 (ls' := [_, _, _, _, _, _, _, _]) rfl ?_
  refine J_gi (z := nI (a_m A).length) rfl tw (by rw [iw]; exact hC.1) ?_
  refine J_p 2 (ls' := [_, _, _, _, _, _, _, _]) rfl ?_
  refine J_t0 (nI_add (a_m A).length 1) ?_
  refine J_putI rfl tw (Or.inl rfl) ?_
  have lm : ∀ (q : Nat) (x : Qa) (i : Nat) (l : La), (a_q A)[q]? = some x → (q_ls x)[i]? = some l → l_m l < (a_m A).length := fun q x i l hx hl => ((hW.2.1 q x hx).2.2.2.2.2.2.2.2.1 i l hl).1
  have hS2 : OS (sI M1 w 1 (nI ((a_m A).length + 1))) w t g o F := hS.newM hF1 hR1
  have hC2 := OC.newM hS hC hF1 hR1 hM1 lm
  have n9 : ¬ rO (mT M1 w) := by rw [tw]; unfold rO; omega
  have hF2 : Fm (Wm w t g) M (sI M1 w 1 (nI ((a_m A).length + 1))) := (hF1.mono (fun z h => Or.inr h)).trans (Fm.sI (Or.inl (Or.inl rfl)) n9)
  have t4 := hTC.2.1.2
  refine J_p 4 (ls' := [_, _, _, _, _, .int (nI 0), .int (nI 0), _]) rfl ?_
  refine c_sendAll (m := (a_m A).length) y1 (a_q A).length (newMs A key pr v) _ o F 0 0 _ hS2 hC2 (by show 0 + (a_q A).length = (a_q A).length; omega) (fun p x _ hx => ?_) ⟨hW.2.2.2.2.2.2, hT1, t4⟩ ?_ (by omega) (fun M3 o3 F3 g1 g2 g3 g4 => ?_)
  · obtain ⟨a1, a2, _, _, _, _, _, a8, a9, _⟩ := hW.2.1 p x hx
    exact ⟨a1, a2.2, a8, fun i l hl => by have := (a9 i l hl).1; omega⟩
  · show (a_m A).length < (a_m A ++ [_]).length
    rw [List.length_append]
    exact Nat.lt_succ_self _
  · have eg : 0 + (sendQ (a_m A).length (a_q A).length (newMs A key pr v) 0).2 = (sendA A key pr v).2 := by
      rw [Nat.zero_add]
      rfl
    rw [eg]
    refine K M3 o3 F3 (hF2.trans (g1.mono (fun z h => Or.inl h))) ?_ g3 g4
    obtain ⟨u1, u2, u3⟩ := g2
    have e1 : mN (sI M1 w 1 (nI ((a_m A).length + 1))) = mN M := hN1.2.1
    have e2 : mU (sI M1 w 1 (nI ((a_m A).length + 1))) = mU M := hN1.2.2
    rw [e1] at u1 u2 u3
    rw [e2] at u2
    exact ⟨u1, u2, u3⟩
/-- one int of the world itself -/
theorem OC.seti (hS : OS M w t g o F) (hC : OC M w t g o F A) {j : Nat} {z : Int32} (hj : j = 10) : OC (sI M w j z) w t g o F (w_s A z) := by
  subst hj
  obtain ⟨y1, y2, y3⟩ := hS.2.2.2.2.2.2.1
  have n9 : ¬ rO (mT M w) := by rw [hS.1.1]; unfold rO; omega
  have hF : Fm (fun y => y = w) M (sI M w 10 z) := Fm.sI rfl n9
  have e : ∀ y, y ≠ w → mI (sI M w 10 z) y = mI M y := fun y hy => mI_s1 _ _ _ hy
  have ew : ∀ j, j ≠ 10 → mI (sI M w 10 z) w j = mI M w j := fun j hj => by rw [mI_s0, if_neg hj]
  obtain ⟨c1, c2, c3, c4, c5, c6, ⟨txt, c7⟩, c8, c9, c10, c11⟩ := hC
  refine ⟨(ew 1 (by omega)).trans c1, ⟨(ew 3 (by omega)).trans c2.1, c2.2⟩, ⟨(ew 5 (by omega)).trans c3.1, c3.2⟩, ⟨(ew 7 (by omega)).trans c4.1, c4.2⟩, (ew 9 (by omega)).trans c5, by rw [mI_s0, if_pos rfl]; rfl, ⟨txt, c7.fr (e _ (by omega)) (e _ (by omega)) (e _ (by omega))⟩, fun q y hy => ?_, fun c k hk => (c9 c k hk).fr (e _ (by omega)), fun i d hd => (c10 i d hd).fr hF (e _ (by omega)) rfl, c11.fr (fun j hj => e _ (by omega))⟩
  have zl : q < (a_q A).length := li hy
  have q8 := c2.2
  exact (c8 q y hy).fr hF (fun i hi => (hS.qs (q := q) (by omega)).lt hi) (fun b h1 h2 => ⟨e b (by omega), rfl⟩)
end COMP30