/-! orders: what they come to -/
def VQ (S : tSH) (I : tHI) (S' : tSH) (I' : tHI) : Prop := lawT S' I' = lawT S I ∧ lawB S' I' = lawB S I
section VQS
variable {S S' : tSH} {I I' X : tHI} {r : Nat → Int32} {N kd : Nat} {a b : Int32}
theorem VQ.rf (S : tSH) (I : tHI) : VQ S I S I := ⟨rfl, rfl⟩
theorem VQ.trans {S'' : tSH} {I'' : tHI} (h : VQ S I S' I') (g : VQ S' I' S'' I'') : VQ S I S'' I'' := ⟨g.1.trans h.1, g.2.trans h.2⟩
theorem VQ.of (hF : FO S I r) (e4 : X 1 4 = I 1 4) (e5 : X 1 5 = I 1 5) (eq : ∀ j, j < 6 → sQ S' 16 j = sQ S 16 j) (e89 : ∀ x, 89 ≤ x → X x = I x) : VQ S I S' X := by
  have ef : V8_inForce S' X (fun _ _ => 0) 1 = V8_inForce S I (fun _ _ => 0) 1 := by
    unfold V8_inForce
    rw [e4, e5]
    by_cases c0 : I 1 5 < 0
    · rw [if_pos c0, if_pos c0]
    · rw [if_neg c0, if_neg c0]
      by_cases c1 : I 1 4 ≤ I 1 5
      · rw [if_pos c1, if_pos c1]
      · rw [if_neg c1, if_neg c1]
        by_cases c2 : 6 ≤ I 1 5
        · rw [if_pos c2, if_pos c2]
        · rw [if_neg c2, if_neg c2]
          refine eq _ ?_
          rw [Int32.lt_iff_toInt_lt, tz0] at c0
          rw [Int32.le_iff_toInt_le, show (6 : Int32).toInt = 6 from rfl] at c2
          rw [qtn]; omega
  constructor
  · funext w kd
    unfold lawT
    rw [ef]
    rcases hF with ⟨-, q⟩ | ⟨f, p, a, b, c, d⟩
    · rw [q]
    · have hp := d.1.2.1
      rw [c]
      show toldC (X (p + 1)) (X (p + 2)) (X (p + 4)) w kd (X p 4).toNatClampNeg = toldC (I (p + 1)) (I (p + 2)) (I (p + 4)) w kd (I p 4).toNatClampNeg
      rw [e89 p hp, e89 (p + 1) (by omega), e89 (p + 2) (by omega), e89 (p + 4) (by omega)]
  · funext w
    unfold lawB
    rw [ef]
    rcases hF with ⟨-, q⟩ | ⟨f, p, a, b, c, d⟩
    · rw [q]
    · have hp := d.1.2.1
      rw [c]
      show banC (X (p + 1)) (X (p + 2)) (X (p + 4)) w (X p 4).toNatClampNeg = banC (I (p + 1)) (I (p + 2)) (I (p + 4)) w (I p 4).toNatClampNeg
      rw [e89 p hp, e89 (p + 1) (by omega), e89 (p + 2) (by omega), e89 (p + 4) (by omega)]
theorem VQ.why (h : VQ S I S' I') : whyA S' I' r N kd a b = whyA S I r N kd a b := by
  unfold whyA banR
  rw [h.2]
theorem VQ.at (h : VQ S I S' I') {b : Nat} {W : Nat → Int32} {kd : Nat} : aT S' I' r b W kd = aT S I r b W kd := by
  unfold aT
  rw [h.1]
theorem VQ.how (h : VQ S I S' I') : howA S' I' r N = howA S I r N := by
  unfold howA aO
  rw [h.at, h.at]
theorem VQ.step (h : VQ S I S' I') : stepA S' I' r N kd a b = stepA S I r N kd a b := by
  unfold stepA rideA lrnA
  rw [h.how, h.at]
theorem VQ.ans (h : VQ S I S' I') : ansA S' I' r N kd a b = ansA S I r N kd a b := by
  unfold ansA
  rw [h.how]
/-- an act keeps a row in order -/
theorem step_ok (hK : RK r) (hN : r 0 = nI N) (hN6 : N ≤ 6) (hw : whyA S I r N kd a b = 0) : RK (stepA S I r N kd a b) ∧ ∀ j, j < 9 ∨ 26 ≤ j → stepA S I r N kd a b j = r j := by
  have hKV := hK.2.2.1
  obtain ⟨p, p1, p2⟩ := hKV.2.1
  have p1 : r 10 = nI p := p1
  have hKR := hK.1
  unfold whyA at hw
  unfold stepA
  by_cases k0 : kd = 0
  · rw [if_pos k0] at hw ⊢
    by_cases c : 1 ≤ a.toInt ∧ a.toInt ≤ (r 5).toInt
    · obtain ⟨g, g1, g2, g3⟩ := hKR.2.2.2.2.2.1
      have g4 : (r 5).toInt = g := by rw [g1, qi (by omega)]
      obtain ⟨x, x1, x2⟩ := gas_r p1 p2 (a := a) (by omega)
      exact ⟨hK.u10p ⟨x, x1, x2⟩, fun j hj => upn (by omega)⟩
    · exfalso; rw [if_neg c] at hw; revert hw; decide
  rw [if_neg k0] at hw ⊢
  by_cases k1 : kd = 1
  · rw [if_pos k1] at hw ⊢
    by_cases c : 1 ≤ a.toInt ∧ a.toInt ≤ (r 6).toInt
    · obtain ⟨g, g1, g2, g3⟩ := hKR.2.2.2.2.2.2.1
      have g4 : (r 6).toInt = g := by rw [g1, qi (by omega)]
      obtain ⟨x, x1, x2⟩ := brk_r p1 p2 (a := a) (by omega)
      exact ⟨hK.u10p ⟨x, x1, x2⟩, fun j hj => upn (by omega)⟩
    · exfalso; rw [if_neg c] at hw; revert hw; decide
  rw [if_neg k1] at hw ⊢
  by_cases k2 : kd = 2
  · rw [if_pos k2] at hw ⊢
    by_cases c : 0 ≤ a.toInt ∧ a.toInt ≤ 2
    · refine ⟨hK.v (fun j hj => upn (by omega)) (hKV.up (Or.inl ?_) (Or.inl ?_) (Or.inr ⟨a.toNatClampNeg, ?_, by rw [qtn]; omega⟩) (Or.inl ?_) (fun i hi => Or.inl ?_) (fun i hi => Or.inl ?_)), fun j hj => upn (by omega)⟩
      · unfold rV; rw [upn (by decide)]
      · unfold rV; rw [upn (by decide)]
      · unfold rV; rw [upe]; exact qof c.1
      · unfold rV; rw [upn (by decide)]
      · unfold rV; rw [upn (by omega)]
      · unfold rV; rw [upn (by omega)]
    · exfalso; rw [if_neg c] at hw; revert hw; decide
  rw [if_neg k2] at hw ⊢
  by_cases k3 : kd = 3
  · rw [if_pos k3] at hw ⊢
    by_cases c : 0 ≤ b.toInt ∧ b.toInt ≤ 3
    · rw [if_pos c] at hw
      by_cases d : 0 ≤ a.toInt ∧ a.toInt < (N : Int)
      · obtain ⟨i, rfl, i2, i3⟩ := nat_of d.1 d.2
        rw [qn i3]
        refine ⟨hK.v (fun j hj => upn (by omega)) (hKV.up (Or.inl ?_) (Or.inl ?_) (Or.inl ?_) (Or.inl ?_) (fun j hj => ?_) (fun j hj => Or.inl ?_)), fun j hj => upn (by omega)⟩
        · unfold rV; rw [upn (by omega)]
        · unfold rV; rw [upn (by omega)]
        · unfold rV; rw [upn (by omega)]
        · unfold rV; rw [upn (by omega)]
        · unfold rV
          by_cases g : j = i
          · subst g
            refine Or.inr ⟨b.toNatClampNeg, ?_, by rw [qtn]; omega⟩
            rw [show 9 + (5 + j) = 14 + j by omega, upe]
            exact qof c.1
          · exact Or.inl (by rw [upn (by omega)])
        · unfold rV; rw [upn (by omega)]
      · exfalso; rw [if_neg d] at hw; revert hw; decide
    · exfalso; rw [if_neg c] at hw; revert hw; decide
  rw [if_neg k3] at hw ⊢
  by_cases k4 : kd = 4
  · rw [if_pos k4] at hw ⊢
    by_cases c : -2 ≤ b.toInt ∧ b.toInt ≤ 2
    · rw [if_pos c] at hw
      by_cases d : 0 ≤ a.toInt ∧ a.toInt < (N : Int)
      · rw [if_pos d] at hw
        obtain ⟨i, rfl, i2, i3⟩ := nat_of d.1 d.2
        rw [qn i3] at hw ⊢
        have hal : ¬ r (32 + i) = 0 := fun q => by rw [if_pos q] at hw; revert hw; decide
        refine ⟨hK.v (fun j hj => upn (by omega)) (hKV.up (Or.inl ?_) (Or.inl ?_) (Or.inl ?_) (Or.inl ?_) (fun j hj => Or.inl ?_) (fun j hj => ?_)), fun j hj => upn (by omega)⟩
        · unfold rV; rw [upn (by omega)]
        · unfold rV; rw [upn (by omega)]
        · unfold rV; rw [upn (by omega)]
        · unfold rV; rw [upn (by omega)]
        · unfold rV; rw [upn (by omega)]
        · unfold rV
          by_cases g : j = i
          · subst g
            refine Or.inr ⟨?_, hal⟩
            rw [show 9 + (11 + j) = 20 + j by omega, upe]
            exact c
          · exact Or.inl (by rw [upn (by omega)])
      · exfalso; rw [if_neg d] at hw; revert hw; decide
    · exfalso; rw [if_neg c] at hw; revert hw; decide
  rw [if_neg k4] at hw ⊢
  obtain ⟨B, b1, b2⟩ := hKR.2.1
  have hB0 : 0 < B := by
    by_cases g : r 10 = 0
    · exfalso; rw [if_pos g] at hw; revert hw; decide
    · rw [if_neg g] at hw
      by_cases g2 : r 1 = 0
      · exfalso; rw [if_pos g2] at hw; revert hw; decide
      · have : B ≠ 0 := fun q => by subst q; exact g2 b1
        omega
  refine ⟨hK.ride b1 hB0 b2, fun j hj => ?_⟩
  unfold rideA
  rw [upn (by omega)]
  by_cases c : howA S I r N = 0
  · rw [if_pos c, upn (by omega)]
  · rw [if_neg c, upn (by omega), upn (by omega)]
end VQS
/-- where an order's run stands: the row, how many can be undone, what they bring back, their kinds, done, ended -/
abbrev oT : Type := (Nat → Int32) × Nat × (Nat → Int32) × (Nat → Int32) × Int32 × Int32
def oG66 (h : Nat) (f66 r : Nat → Int32) : Nat → Int32 := fun y => if y < 17 * hp h then hf17 h f66 y else if y < 17 * hp h + 17 then r (9 + (y - 17 * hp h)) else f66 y
def oG67 (h kd : Nat) (f67 : Nat → Int32) : Nat → Int32 := fun y => if y < hp h then hf1 h f67 y else nI kd
theorem GP.c {h kd : Nat} {f66 f67 r : Nat → Int32} (hh : h ≤ 16) : GP h kd f66 f67 r (oG66 h f66 r) (oG67 h kd f67) := by
  have := hp_le hh
  refine ⟨fun y hy => by unfold oG66; rw [if_pos hy], fun i hi => ?_, fun y hy => by unfold oG67; rw [if_pos hy], by unfold oG67; rw [if_neg (by omega)], fun y hy => ?_⟩
  · unfold oG66; rw [if_neg (by omega), if_pos (by omega), show 17 * hp h + i - 17 * hp h = i by omega]
  · unfold oG66; rw [if_neg (by omega), if_neg (by omega)]
def oAct (S : tSH) (I : tHI) (N kd : Nat) (a b : Int32) (s : oT) : Option oT := if whyA S I s.1 N kd a b = 0 then some (stepA S I s.1 N kd a b, hp s.2.1 + 1, oG66 s.2.1 s.2.2.1 s.1, oG67 s.2.1 kd s.2.2.2.1, s.2.2.2.2.1 + 1, if kd = 5 then ansA S I s.1 N kd a b else s.2.2.2.2.2) else none
def oWs (s : oT) : Nat → Int64 := oWq s.1 s.2.2.2.2.1 s.2.2.2.2.2
def oArg (o : Option tV) (w : Nat → Int64) : Option Int64 := if oSc o w = 2000000000 then none else some (oSc o w)
def oRun (S : tSH) (I : tHI) (N : Nat) (c : aC5) (s : oT) : Option oT := if oTest c.2.2.2.2 (oWs s) = true then (match oArg c.2.2.1 (oWs s) with
  | none => none
  | some a => match oArg c.2.2.2.1 (oWs s) with
    | none => none
    | some b => oAct S I N c.1 a.toInt32 b.toInt32 s) else some s
def oRep (S : tSH) (I : tHI) (N : Nat) (c : aC5) : Nat → oT → Option oT
  | 0, s => some s
  | f + 1, s => match oRun S I N c s with
    | none => none
    | some s' => oRep S I N c f s'
def oAll (S : tSH) (I : tHI) (N : Nat) : List aC5 → Nat → oT → Nat ⊕ oT
  | [], _, s => .inr s
  | c :: cs, j, s => match oRep S I N c c.2.1 s with
    | none => .inl j
    | some s' => oAll S I N cs (j + 1) s'
/-- what holds of it -/
def oOK (r0 : Nat → Int32) (s : oT) : Prop := RK s.1 ∧ (∀ j, j < 9 ∨ 26 ≤ j → s.1 j = r0 j) ∧ s.2.1 ≤ 16
theorem oAct_ok {S : tSH} {I : tHI} {N kd : Nat} {a b : Int32} {r0 : Nat → Int32} {s s' : oT} (h : oOK r0 s) (hN : r0 0 = nI N) (hN6 : N ≤ 6) (e : oAct S I N kd a b s = some s') : oOK r0 s' := by
  unfold oAct at e
  by_cases c : whyA S I s.1 N kd a b = 0
  · rw [if_pos c] at e
    cases e
    obtain ⟨k1, k2⟩ := step_ok h.1 (by rw [h.2.1 0 (by omega)]; exact hN) hN6 c
    have := hp_le h.2.2
    exact ⟨k1, fun j hj => by show stepA S I s.1 N kd a b j = _; rw [k2 j hj]; exact h.2.1 j hj, by show hp s.2.1 + 1 ≤ 16; omega⟩
  · rw [if_neg c] at e; cases e
theorem oRun_ok {S : tSH} {I : tHI} {N : Nat} {c : aC5} {r0 : Nat → Int32} {s s' : oT} (h : oOK r0 s) (hN : r0 0 = nI N) (hN6 : N ≤ 6) (e : oRun S I N c s = some s') : oOK r0 s' := by
  unfold oRun at e
  by_cases t : oTest c.2.2.2.2 (oWs s) = true
  · rw [if_pos t] at e
    cases h1 : oArg c.2.2.1 (oWs s) with
    | none => rw [h1] at e; cases e
    | some x =>
      rw [h1] at e
      have e : (match oArg c.2.2.2.1 (oWs s) with
        | none => none
        | some b => oAct S I N c.1 x.toInt32 b.toInt32 s) = some s' := e
      cases h2 : oArg c.2.2.2.1 (oWs s) with
      | none => rw [h2] at e; cases e
      | some y => rw [h2] at e; exact oAct_ok h hN hN6 e
  · rw [if_neg t] at e
    cases e; exact h
theorem oRep_ok {S : tSH} {I : tHI} {N : Nat} {c : aC5} {r0 : Nat → Int32} (hN : r0 0 = nI N) (hN6 : N ≤ 6) : ∀ (f : Nat) (s s' : oT), oOK r0 s → oRep S I N c f s = some s' → oOK r0 s' := by
  intro f
  induction f with
  | zero => intro s s' h e; cases e; exact h
  | succ f ih =>
    intro s s' h e
    have e : (match oRun S I N c s with
      | none => none
      | some s' => oRep S I N c f s') = some s' := e
    cases h1 : oRun S I N c s with
    | none => rw [h1] at e; cases e
    | some x => rw [h1] at e; exact ih x s' (oRun_ok h hN hN6 h1) e
