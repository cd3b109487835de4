/-! an act of the rider, by the class -/
section ACT
variable {n : Nat} {S : tSH} {I : tHI} {J : tHJ} {r : Nat → Int32}
def CA (I X : tHI) : Prop := (∀ x, x ≠ 4 → x ≠ 6 → x ≠ 15 → x ≠ 34 → x ≠ 35 → x ≠ 49 → x ≠ 50 → X x = I x) ∧ (∀ y, y ∈ [8, 9, 10] → X 49 y = I 49 y) ∧ ∀ y, y < 6 → X 50 y = I 50 y
/-- the ghost that an act is pushed on -/
def GP (h kd : Nat) (f66 f67 r g66 g67 : Nat → Int32) : Prop := (∀ y, y < 17 * hp h → g66 y = hf17 h f66 y) ∧ (∀ i, i < 17 → g66 (17 * hp h + i) = r (9 + i)) ∧ (∀ y, y < hp h → g67 y = hf1 h f67 y) ∧ g67 (hp h) = nI kd ∧ ∀ y, 272 ≤ y → g66 y = f66 y
theorem sp_act (hT : TY S) (hn : 400 < n) (hR : RSt S I 1 r) {N : Nat} (hN : r 0 = nI N) (hN6 : N ≤ 6) (hC : I 49 8 = -1 ∧ I 49 9 = -1 ∧ I 49 10 = -1) (h50 : ∀ y, y < 6 → I 50 y = -1) {h : Nat} (hh : h ≤ 16) (h34 : I 34 1 = nI h) {f66 f67 : Nat → Int32} (hH : HRs h (I 35) f66 f67 r) {kd : Nat} (hkd : kd ≤ 5) {a b : Int32} {k : Int32 → tHI → tHJ → Prop} (hno : ∀ (X : tHI) (J' : tHJ), ¬ whyA S I r N kd a b = 0 → CB I X → CJ J J' → k (whyA S I r N kd a b) X J') (hyes : ∀ (X : tHI) (J' : tHJ), whyA S I r N kd a b = 0 → CA I X → CJ J J' → RSt S X 1 (stepA S I r N kd a b) → X 34 1 = nI (hp h + 1) → (∀ g66 g67, GP h kd f66 f67 r g66 g67 → HRs (hp h + 1) (X 35) g66 g67 (stepA S I r N kd a b)) → k (ansA S I r N kd a b) X J') : F11_act n S I J (nI kd) a b k := by
  have hKV : KV r (rV r) := hR.2.2.2.2.2.1.2.2.1
  have hKR := hR.2.2.2.2.2.1.1
  obtain ⟨p, p1, p2⟩ := hKV.2.1
  have p1 : r 10 = nI p := p1
  have ne : ∀ m : Nat, m < 2147483648 → nI kd = nI m → kd = m := fun m hm e => (qeq (by omega) hm).mp e
  unfold F11_act
  refine sp_why hT hn hR hN hN6 hC h50 hkd (fun X1 J1 c1 c2 => ?_)
  refine ⟨fun hz => ?_, fun hz => hno X1 J1 hz c1 c2⟩
  obtain ⟨d1, d2, d3⟩ := c1
  have h20 : (X1 2 0).toInt = N := by rw [d1 2 (by decide) (by decide)]; have : I 2 0 = r 0 := hR.1.2.2.1; rw [this, hN, qi (by omega)]
  have hR1 : RSt S X1 1 r := hR.cg (fun i hi => d1 _ (by omega) (by omega)) (fun x hx => d1 x (by omega) (by omega))
  refine sp_note (h := h) hh (by rw [d1 34 (by decide) (by decide)]; exact h34) hT.l35 rfl (fun g => ?_) (fun X a1 a2 a3 a4 a5 a6 a7 a8 a9 a10 a11 a12 => ?_)
  · have g2 : ¬ V3_has S X1 J1 2 a = 0 := fun q => by
      rw [q] at g
      simp only [if_true] at g
      split at g
      · exact g rfl
      · split at g
        · exact g rfl
        · exact g rfl
    have g3 := fun z => g2 (has3.mpr z)
    have g4 := Classical.not_not.mp g3
    rw [vp_in_iff]; omega
  have hRX : RSt S X 1 r := hR1.cg (fun i hi => a1 _ (by omega) (by omega)) (fun x hx => a1 x (by omega) (by omega))
  have hX : ∀ x, x ≠ 34 → x ≠ 35 → x ≠ 49 → x ≠ 50 → X x = I x := fun x p q s t => by rw [a1 x p q, d1 x s t]
  obtain ⟨t0, t1, t2, t3, t4, t5, t6, t7, t8⟩ := hRX.2.2.2.2.1
  have a15 : X 15 = X1 15 := a1 15 (by decide) (by decide)
  rw [← a15] at a5 a6 a7 a8 a9
  rw [t2] at a5; rw [t3] at a6; rw [t1] at a7; rw [t4] at a8; rw [t5] at a9
  rw [← a1 4 (by decide) (by decide)] at a11
  rw [← a1 6 (by decide) (by decide)] at a12
  have a3' : ∀ y, y < 9 * hp h → X 35 y = hf9 h (I 35) y := fun y hy => by rw [a3 y hy, d1 35 (by decide) (by decide)]
  -- what every kind ends by
  have fin : ∀ (X' : tHI) (J' : tHJ), CJ J1 J' → (∀ x, x ≠ 4 → x ≠ 6 → x ≠ 15 → x ≠ 49 → X' x = X x) → (∀ y, y ∈ [8, 9, 10] → X' 49 y = X 49 y) → (∀ j, j < 9 ∨ 26 ≤ j → stepA S I r N kd a b j = r j) → KV r (rV (stepA S I r N kd a b)) → RLd (X' 3) (X' 4) (X' 5) (X' 6) (stepA S I r N kd a b) → RT (X' 15) (stepA S I r N kd a b) → ((X 35 (9 * hp h + 6) = -1 ∧ ∀ i, i < 12 → r (14 + i) = stepA S I r N kd a b (14 + i)) ∨ ∃ l : Nat, X 35 (9 * hp h + 6) = nI l ∧ l < 6 ∧ (l : Int) < (r 0).toInt ∧ X 35 (9 * hp h + 7) = r (14 + l) ∧ X 35 (9 * hp h + 8) = r (20 + l) ∧ ∀ i, i < 6 → i ≠ l → r (14 + i) = stepA S I r N kd a b (14 + i) ∧ r (20 + i) = stepA S I r N kd a b (20 + i)) → k (ansA S I r N kd a b) X' J' := by
    intro X' J' f1 f2 f3 f4 f5 f6 f7 f8
    refine hyes X' J' hz ⟨fun x p q s t u v w => by rw [f2 x p q s v, hX x t u v w], fun y hy => by rw [f3 y hy, a1 49 (by decide) (by decide)]; exact d2 y hy, fun y hy => by rw [f2 50 (by decide) (by decide) (by decide) (by decide), a1 50 (by decide) (by decide)]; exact d3 y hy⟩ (c2.trans f1) ?_ (by rw [f2 34 (by decide) (by decide) (by decide) (by decide)]; exact a2) (fun g66 g67 ⟨b1, b2, b3, b4, _⟩ => ?_)
    · refine hRX.via (f2 1 (by decide) (by decide) (by decide) (by decide)) (fun x hx => f2 x (by omega) (by omega) (by omega) (by omega)) (f4 3 (by omega)) (f4 4 (by omega)) (fun j hj => f4 j (by omega)) ?_ ?_ ?_ f6 ?_ ?_ f7 (hR.2.2.2.2.2.1.v f4 f5)
      · rw [f2 2 (by decide) (by decide) (by decide) (by decide), f4 0 (by omega)]; exact hRX.1.2.2.1
      · rw [f2 7 (by decide) (by decide) (by decide) (by decide), f4 1 (by omega)]; exact hRX.1.2.2.2.1
      · rw [f2 7 (by decide) (by decide) (by decide) (by decide), f4 2 (by omega)]; exact hRX.1.2.2.2.2
      · rw [f2 8 (by decide) (by decide) (by decide) (by decide), f2 9 (by decide) (by decide) (by decide) (by decide), f2 10 (by decide) (by decide) (by decide) (by decide), f2 11 (by decide) (by decide) (by decide) (by decide)]
        exact hRX.2.2.1.r (fun j p q => f4 j (by omega))
      · rw [f2 12 (by decide) (by decide) (by decide) (by decide), f2 13 (by decide) (by decide) (by decide) (by decide), f2 14 (by decide) (by decide) (by decide) (by decide)]
        exact hRX.2.2.2.1.r (fun j p q => f4 j (by omega))
    · rw [f2 35 (by decide) (by decide) (by decide) (by decide)]
      exact HRs.push hh hH hKV (f4 0 (by omega)) (f4 1 (by omega)) (fun j p q => f4 j (by omega)) a3' b1 b2 b3 ⟨kd, hkd, a4, b4⟩ a5 a6 a7 a8 a9 f8
  have s49 : ∀ y, y ∈ [8, 9, 10] → X 49 y = X 49 y := fun _ _ => rfl
  have t01 : (0 : Int32) = nI 0 := rfl
  refine ⟨fun e => ?_, fun e => ?_, fun e => ?_, fun e => ?_, fun e => ?_, fun e => ?_⟩
  · have := ne 0 (by omega) e
    subst this
    have e2 : (uI X 15 3 (if X 15 3 + a < 60 then X 15 3 + a else 60)) 15 = up (X 15) 3 (gasV r a) := by rw [uIe, t3]; rfl
    have hw : 1 ≤ a.toInt ∧ a.toInt ≤ (r 5).toInt := by
      by_cases g : 1 ≤ a.toInt ∧ a.toInt ≤ (r 5).toInt
      · exact g
      · exfalso; unfold whyA at hz; rw [if_pos rfl, if_neg g] at hz; revert hz; decide
    obtain ⟨g, g1, g2, g3⟩ := hKR.2.2.2.2.2.1
    have g4 : (r 5).toInt = g := by rw [g1, qi (by omega)]
    obtain ⟨x, x1, x2⟩ := gas_r p1 p2 (a := a) (by omega)
    have es : stepA S I r N 0 a b = up r 10 (gasV r a) := if_pos rfl
    have f := fin (uI X 15 3 (if X 15 3 + a < 60 then X 15 3 + a else 60)) J1 (CJ.rf J1) (fun x _ _ q _ => uIn q) (fun y _ => by rw [uIn (by decide)])
    rw [es] at f
    rw [e2, upe]
    refine f (fun j hj => upn (by omega)) (hKV.up (Or.inl (by unfold rV; rw [upn (by decide)])) (Or.inr ⟨x, by unfold rV; rw [upe]; exact x1, x2⟩) (Or.inl (by unfold rV; rw [upn (by decide)])) (Or.inl (by unfold rV; rw [upn (by decide)])) (fun i hi => Or.inl (by unfold rV; rw [upn (by omega)])) (fun i hi => Or.inl (by unfold rV; rw [upn (by omega)]))) ?_ ?_ (Or.inl ⟨?_, fun i hi => by rw [upn (by omega)]⟩)
    · rw [uIn (by decide), uIn (by decide), uIn (by decide), uIn (by decide)]
      exact hRX.2.1.r (fun j p q => upn (by omega))
    · rw [e2]
      exact ⟨by rw [upn (by decide), upn (by decide)]; exact t0, by rw [upn (by decide), upn (by decide)]; exact t1, by rw [upn (by decide), upn (by decide)]; exact t2, by rw [upe, upe], by rw [upn (by decide), upn (by decide)]; exact t4, by rw [upn (by decide), upn (by decide)]; exact t5, by rw [upn (by decide), upn (by decide)]; exact t6, by rw [upn (by decide), upn (by decide)]; exact t7, by rw [upn (by decide), upn (by decide)]; exact t8⟩
    · rw [a10]; rfl
  · have := ne 1 (by omega) e
    subst this
    have e2 : (uI X 15 3 (if 0 < X 15 3 - a then X 15 3 - a else 0)) 15 = up (X 15) 3 (brkV r a) := by rw [uIe, t3]; rfl
    have hw : 1 ≤ a.toInt ∧ a.toInt ≤ (r 6).toInt := by
      by_cases g : 1 ≤ a.toInt ∧ a.toInt ≤ (r 6).toInt
      · exact g
      · exfalso; unfold whyA at hz; rw [if_neg (by decide), if_pos rfl, if_neg g] at hz; revert hz; decide
    obtain ⟨g, g1, g2, g3⟩ := hKR.2.2.2.2.2.2.1
    have g4 : (r 6).toInt = g := by rw [g1, qi (by omega)]
    obtain ⟨x, x1, x2⟩ := brk_r p1 p2 (a := a) (by omega)
    have es : stepA S I r N 1 a b = up r 10 (brkV r a) := by unfold stepA; rw [if_neg (by decide), if_pos rfl]
    have f := fin (uI X 15 3 (if 0 < X 15 3 - a then X 15 3 - a else 0)) J1 (CJ.rf J1) (fun x _ _ q _ => uIn q) (fun y _ => by rw [uIn (by decide)])
    rw [es] at f
    rw [e2, upe]
    refine f (fun j hj => upn (by omega)) (hKV.up (Or.inl (by unfold rV; rw [upn (by decide)])) (Or.inr ⟨x, by unfold rV; rw [upe]; exact x1, x2⟩) (Or.inl (by unfold rV; rw [upn (by decide)])) (Or.inl (by unfold rV; rw [upn (by decide)])) (fun i hi => Or.inl (by unfold rV; rw [upn (by omega)])) (fun i hi => Or.inl (by unfold rV; rw [upn (by omega)]))) ?_ ?_ (Or.inl ⟨?_, fun i hi => by rw [upn (by omega)]⟩)
    · rw [uIn (by decide), uIn (by decide), uIn (by decide), uIn (by decide)]
      exact hRX.2.1.r (fun j p q => upn (by omega))
    · rw [e2]
      exact ⟨by rw [upn (by decide), upn (by decide)]; exact t0, by rw [upn (by decide), upn (by decide)]; exact t1, by rw [upn (by decide), upn (by decide)]; exact t2, by rw [upe, upe], by rw [upn (by decide), upn (by decide)]; exact t4, by rw [upn (by decide), upn (by decide)]; exact t5, by rw [upn (by decide), upn (by decide)]; exact t6, by rw [upn (by decide), upn (by decide)]; exact t7, by rw [upn (by decide), upn (by decide)]; exact t8⟩
    · rw [a10]; rfl
  · have := ne 2 (by omega) e
    subst this
    have e2 : (uI X 15 1 a) 15 = up (X 15) 1 a := uIe
    have hw : 0 ≤ a.toInt ∧ a.toInt ≤ 2 := by
      by_cases g : 0 ≤ a.toInt ∧ a.toInt ≤ 2
      · exact g
      · exfalso; unfold whyA at hz; rw [if_neg (by decide), if_neg (by decide), if_pos rfl, if_neg g] at hz; revert hz; decide
    have es : stepA S I r N 2 a b = up r 11 a := by unfold stepA; rw [if_neg (by decide), if_neg (by decide), if_pos rfl]
    have ea : ansA S I r N 2 a b = r 11 := by unfold ansA; rw [if_neg (by decide), if_neg (by decide), if_pos rfl]
    have f := fin (uI X 15 1 a) J1 (CJ.rf J1) (fun x _ _ q _ => uIn q) (fun y _ => by rw [uIn (by decide)])
    rw [es, ea] at f
    rw [t1]
    refine f (fun j hj => upn (by omega)) (hKV.up (Or.inl (by unfold rV; rw [upn (by decide)])) (Or.inl (by unfold rV; rw [upn (by decide)])) (Or.inr ⟨_, by unfold rV; rw [upe]; exact qof hw.1, by rw [qtn]; omega⟩) (Or.inl (by unfold rV; rw [upn (by decide)])) (fun i hi => Or.inl (by unfold rV; rw [upn (by omega)])) (fun i hi => Or.inl (by unfold rV; rw [upn (by omega)]))) ?_ ?_ (Or.inl ⟨?_, fun i hi => by rw [upn (by omega)]⟩)
    · rw [uIn (by decide), uIn (by decide), uIn (by decide), uIn (by decide)]
      exact hRX.2.1.r (fun j p q => upn (by omega))
    · rw [e2]
      exact ⟨by rw [upn (by decide), upn (by decide)]; exact t0, by rw [upe, upe], by rw [upn (by decide), upn (by decide)]; exact t2, by rw [upn (by decide), upn (by decide)]; exact t3, by rw [upn (by decide), upn (by decide)]; exact t4, by rw [upn (by decide), upn (by decide)]; exact t5, by rw [upn (by decide), upn (by decide)]; exact t6, by rw [upn (by decide), upn (by decide)]; exact t7, by rw [upn (by decide), upn (by decide)]; exact t8⟩
    · rw [a10]; rfl
  · have := ne 3 (by omega) e
    subst this
    have hw : (0 ≤ b.toInt ∧ b.toInt ≤ 3) ∧ 0 ≤ a.toInt ∧ a.toInt < (N : Int) := by
      unfold whyA at hz
      rw [if_neg (by decide), if_neg (by decide), if_neg (by decide), if_pos rfl] at hz
      by_cases g : 0 ≤ b.toInt ∧ b.toInt ≤ 3
      · rw [if_pos g] at hz
        by_cases g2 : 0 ≤ a.toInt ∧ a.toInt < (N : Int)
        · exact ⟨g, g2⟩
        · exfalso; rw [if_neg g2] at hz; revert hz; decide
      · exfalso; rw [if_neg g] at hz; revert hz; decide
    obtain ⟨i, rfl, i2, i3⟩ := nat_of hw.2.1 hw.2.2
    have i6 : i < 6 := by omega
    have hO : ¬ V3_has S X1 J1 2 (nI i) = 0 := fun q => by have := has3.mp q; rw [qi i3, h20] at this; omega
    rw [if_pos (show nI 3 = 3 from rfl), if_neg hO] at a10 a11 a12
    rw [if_neg (by decide), qn i3] at a11 a12
    rw [if_neg (by decide)] at a10
    have es : stepA S I r N 3 (nI i) b = up r (14 + i) b := by unfold stepA; rw [if_neg (by decide), if_neg (by decide), if_neg (by decide), if_pos rfl, qn i3]
    have ea : ansA S I r N 3 (nI i) b = r (14 + i) := by unfold ansA; rw [if_neg (by decide), if_neg (by decide), if_neg (by decide), if_pos rfl, qn i3]
    have f := fin (uI X 4 i b) J1 (CJ.rf J1) (fun x q _ _ _ => uIn q) (fun y _ => by rw [uIn (by decide)])
    rw [es, ea] at f
    rw [qn i3]
    have t4i : X 4 i = r (14 + i) := (hRX.2.1 i i6).2.1
    have t6i : X 6 i = r (20 + i) := (hRX.2.1 i i6).2.2.2
    rw [t4i]
    refine ⟨(qin i3).mpr i6, (qin i3).mpr i6, f (fun j hj => upn (by omega)) (hKV.up (Or.inl (by unfold rV; rw [upn (by omega)])) (Or.inl (by unfold rV; rw [upn (by omega)])) (Or.inl (by unfold rV; rw [upn (by omega)])) (Or.inl (by unfold rV; rw [upn (by omega)])) (fun j hj => ?_) (fun j hj => Or.inl (by unfold rV; rw [upn (by omega)]))) ?_ ?_ (Or.inr ⟨i, a10, i6, by rw [hN, qi (by omega)]; exact i2, by rw [a11, t4i], by rw [a12, t6i], fun j hj hji => ⟨by rw [upn (by omega)], by rw [upn (by omega)]⟩⟩)⟩
    · unfold rV
      by_cases g : j = i
      · subst g
        refine Or.inr ⟨b.toNatClampNeg, ?_, by rw [qtn]; omega⟩
        rw [show 9 + (5 + j) = 14 + j by omega, upe]
        exact qof hw.1.1
      · exact Or.inl (by rw [upn (by omega)])
    · intro j hj
      obtain ⟨s1, s2, s3, s4⟩ := hRX.2.1 j hj
      rw [uIn (show (3 : Nat) ≠ 4 by decide), uIn (show (5 : Nat) ≠ 4 by decide), uIn (show (6 : Nat) ≠ 4 by decide), uIe, upn (show 26 + j ≠ 14 + i by omega), upn (show 32 + j ≠ 14 + i by omega), upn (show 20 + j ≠ 14 + i by omega)]
      refine ⟨s1, ?_, s3, s4⟩
      by_cases g : j = i
      · subst g; rw [upe, upe]
      · rw [upn g, upn (by omega)]; exact s2
    · rw [uIn (by decide)]
      exact hRX.2.2.2.2.1.r (fun j p q => upn (by omega))
  · have := ne 4 (by omega) e
    subst this
    have hw : (-2 ≤ b.toInt ∧ b.toInt ≤ 2) ∧ (0 ≤ a.toInt ∧ a.toInt < (N : Int)) ∧ ¬ r (32 + a.toNatClampNeg) = 0 := by
      unfold whyA at hz
      rw [if_neg (by decide), if_neg (by decide), if_neg (by decide), if_neg (by decide), if_pos rfl] at hz
      by_cases g : -2 ≤ b.toInt ∧ b.toInt ≤ 2
      · rw [if_pos g] at hz
        by_cases g2 : 0 ≤ a.toInt ∧ a.toInt < (N : Int)
        · rw [if_pos g2] at hz
          refine ⟨g, g2, fun q => ?_⟩
          rw [if_pos q] at hz
          revert hz; decide
        · exfalso; rw [if_neg g2] at hz; revert hz; decide
      · exfalso; rw [if_neg g] at hz; revert hz; decide
    obtain ⟨hb, ha, hal⟩ := hw
    obtain ⟨i, rfl, i2, i3⟩ := nat_of ha.1 ha.2
    rw [qn i3] at hal
    have i6 : i < 6 := by omega
    have hO : ¬ V3_has S X1 J1 2 (nI i) = 0 := fun q => by have := has3.mp q; rw [qi i3, h20] at this; omega
    rw [if_neg (show ¬ nI 4 = 3 by decide), if_pos (show nI 4 = 4 from rfl), if_neg hO] at a10 a11 a12
    rw [if_neg (by decide), qn i3] at a11 a12
    rw [if_neg (by decide)] at a10
    have es : stepA S I r N 4 (nI i) b = up r (20 + i) b := by unfold stepA; rw [if_neg (by decide), if_neg (by decide), if_neg (by decide), if_neg (by decide), if_pos rfl, qn i3]
    have ea : ansA S I r N 4 (nI i) b = r (20 + i) + 2 := by unfold ansA; rw [if_neg (by decide), if_neg (by decide), if_neg (by decide), if_neg (by decide), if_pos rfl, qn i3]
    have f := fin (uI X 6 i b) J1 (CJ.rf J1) (fun x _ q _ _ => uIn q) (fun y _ => by rw [uIn (by decide)])
    rw [es, ea] at f
    rw [qn i3]
    have t4i : X 4 i = r (14 + i) := (hRX.2.1 i i6).2.1
    have t6i : X 6 i = r (20 + i) := (hRX.2.1 i i6).2.2.2
    rw [t6i]
    refine ⟨(qin i3).mpr i6, (qin i3).mpr i6, f (fun j hj => upn (by omega)) (hKV.up (Or.inl (by unfold rV; rw [upn (by omega)])) (Or.inl (by unfold rV; rw [upn (by omega)])) (Or.inl (by unfold rV; rw [upn (by omega)])) (Or.inl (by unfold rV; rw [upn (by omega)])) (fun j hj => Or.inl (by unfold rV; rw [upn (by omega)])) (fun j hj => ?_)) ?_ ?_ (Or.inr ⟨i, a10, i6, by rw [hN, qi (by omega)]; exact i2, by rw [a11, t4i], by rw [a12, t6i], fun j hj hji => ⟨by rw [upn (by omega)], by rw [upn (by omega)]⟩⟩)⟩
    · unfold rV
      by_cases g : j = i
      · subst g
        refine Or.inr ⟨?_, hal⟩
        rw [show 9 + (11 + j) = 20 + j by omega, upe]
        exact hb
      · exact Or.inl (by rw [upn (by omega)])
    · intro j hj
      obtain ⟨s1, s2, s3, s4⟩ := hRX.2.1 j hj
      rw [uIn (by decide), uIn (by decide), uIn (by decide), uIe, upn (show 26 + j ≠ 20 + i by omega), upn (show 32 + j ≠ 20 + i by omega), upn (show 14 + j ≠ 20 + i by omega)]
      refine ⟨s1, s2, s3, ?_⟩
      by_cases g : j = i
      · subst g; rw [upe, upe]
      · rw [upn g, upn (by omega)]; exact s4
    · rw [uIn (by decide)]
      exact hRX.2.2.2.2.1.r (fun j p q => upn (by omega))
  · have hs := sw_i (by omega) (by omega) e
    rw [qi (by omega)] at hs
    have : kd = 5 := by omega
    subst this
    have hw : ¬ r 10 = 0 ∧ ¬ r 1 = 0 := by
      unfold whyA at hz
      rw [if_neg (by decide), if_neg (by decide), if_neg (by decide), if_neg (by decide), if_neg (by decide)] at hz
      by_cases g : r 10 = 0
      · exfalso; rw [if_pos g] at hz; revert hz; decide
      · rw [if_neg g] at hz
        by_cases g2 : r 1 = 0
        · exfalso; rw [if_pos g2] at hz; revert hz; decide
        · exact ⟨g, g2⟩
    obtain ⟨w, wa, wb, wc⟩ := hKV.1
    have wa : r 9 = nI w := wa
    obtain ⟨B, b1, b2⟩ := hKR.2.1
    have hB : (w : Int) < (r 1).toInt := by
      rcases wb with g | g
      · subst g
        rw [b1, qi (by omega)]
        have : B ≠ 0 := fun q => by subst q; exact hw.2 b1
        omega
      · exact g
    have hB2 : w < B := by rw [b1, qi (by omega)] at hB; omega
    have hw12 : w < 12 := by omega
    have es : stepA S I r N 5 a b = rideA S I r N := by unfold stepA; rw [if_neg (by decide), if_neg (by decide), if_neg (by decide), if_neg (by decide), if_neg (by decide)]
    have ea : ansA S I r N 5 a b = howA S I r N := by unfold ansA; rw [if_neg (by decide), if_neg (by decide), if_neg (by decide), if_neg (by decide), if_neg (by decide)]
    rw [es, ea] at fin
    have hOn : (if nI 5 = 3 then (if V3_has S X1 J1 2 a = 0 then (0 : Int32) else 1) else (if nI 5 = 4 then (if V3_has S X1 J1 2 a = 0 then (0 : Int32) else 1) else 0)) = 0 := rfl
    rw [hOn, if_pos rfl] at a10
    have hL := (hR.2.2.2.2.2.1.2.2.2.1 w hw12).2.1
    obtain ⟨lg, lg1, lg2⟩ := hL
    have hCX : X 49 8 = -1 ∧ X 49 9 = -1 ∧ X 49 10 = -1 := by
      rw [a1 49 (by decide) (by decide), d2 8 (by decide), d2 9 (by decide), d2 10 (by decide)]
      exact hC
    refine sp_asIt (r := r) (by omega) hRX hN hN6 hCX (fun Y y1 y2 hQ => ?_)
    have e2 : Y 15 2 = nI w := by rw [y1 15 (by decide), t2, wa]
    have e3 : Y 15 3 = nI p := by rw [y1 15 (by decide), t3, p1]
    rw [e2, e3]
    refine sp_outcome hT hn hQ (b := w) hB p2 (fun Y2 J2 z1 z2 => ?_)
    have hFO : FO S I r := FO.of hR
    have Y2e : ∀ x, x ≠ 34 → x ≠ 35 → x ≠ 49 → x ≠ 50 → Y2 x = I x := fun x p q s t => by rw [z1.1 x s, y1 x s, hX x p q s t]
    have Ye : ∀ x, x ≠ 34 → x ≠ 35 → x ≠ 49 → x ≠ 50 → Y x = I x := fun x p q s t => by rw [y1 x s, hX x p q s t]
    have eh : aO S Y r w (WM 63 r N) (nI p) = howA S I r N := by
      unfold howA
      rw [wa, qn (by omega), p1]
      exact aO_I hFO (Ye 1 (by decide) (by decide) (by decide) (by decide)) (fun x hx => Ye x (by omega) (by omega) (by omega) (by omega))
    rw [eh]
    have Y15 : Y2 15 = X 15 := by rw [z1.1 15 (by decide), y1 15 (by decide)]
    have Y7 : Y2 7 = X 7 := by rw [z1.1 7 (by decide), y1 7 (by decide)]
    have x70 : X 7 0 = r 1 := hRX.1.2.2.2.1
    have nxt : ∃ q : Nat, (if r 9 + 1 < r 1 then r 9 + 1 else 0) = nI q ∧ (q = 0 ∨ (q : Int) < (r 1).toInt) ∧ q ≤ 12 := by
      by_cases g : r 9 + 1 < r 1
      · rw [if_pos g]
        rw [wa, show nI w + 1 = nI (w + 1) from nI_add w 1] at g ⊢
        rw [b1] at g ⊢
        have := (qlt (by omega) (by omega)).mp g
        exact ⟨w + 1, rfl, Or.inr (by rw [qi (by omega)]; omega), by omega⟩
      · rw [if_neg g]
        exact ⟨0, rfl, Or.inl rfl, by omega⟩
    unfold F2_drive F2_drive_45
    refine ⟨fun g => ?_, fun g => ?_⟩
    · have er : rideA S I r N = up (up (up r 12 (r 12 + 1)) 10 0) 9 (if r 9 + 1 < r 1 then r 9 + 1 else 0) := by unfold rideA; rw [if_neg g]
      rw [er] at fin
      have i15 : (uI (uI Y2 15 4 (Y2 15 4 + 1)) 15 3 0) 15 = up (up (X 15) 4 (r 12 + 1)) 3 0 := by rw [uIe, uIe, Y15, t4]
      have i7 : (uI (uI Y2 15 4 (Y2 15 4 + 1)) 15 3 0) 7 0 = r 1 := by rw [uIn (by decide), uIn (by decide), Y7, x70]
      have iv : (uI (uI Y2 15 4 (Y2 15 4 + 1)) 15 3 0) 15 2 = r 9 := by rw [i15, upn (by decide), upn (by decide), t2]
      rw [iv, i7]
      generalize hW : (uI (uI (uI Y2 15 4 (Y2 15 4 + 1)) 15 3 0) 15 2 (if r 9 + 1 < r 1 then r 9 + 1 else 0)) 15 5 = ww
      have j15 : (uI (uI (uI (uI Y2 15 4 (Y2 15 4 + 1)) 15 3 0) 15 2 (if r 9 + 1 < r 1 then r 9 + 1 else 0)) 49 7 ww) 15 = up (up (up (X 15) 4 (r 12 + 1)) 3 0) 2 (if r 9 + 1 < r 1 then r 9 + 1 else 0) := by rw [uIn (by decide), uIe, i15]
      have hj : ∀ j, j ≠ 9 → j ≠ 10 → j ≠ 12 → (up (up (up r 12 (r 12 + 1)) 10 0) 9 (if r 9 + 1 < r 1 then r 9 + 1 else 0)) j = r j := fun j q1 q2 q3 => by rw [upn q1, upn q2, upn q3]
      have j9 : (up (up (up r 12 (r 12 + 1)) 10 0) 9 (if r 9 + 1 < r 1 then r 9 + 1 else 0)) 9 = (if r 9 + 1 < r 1 then r 9 + 1 else 0) := upe
      have j10 : (up (up (up r 12 (r 12 + 1)) 10 0) 9 (if r 9 + 1 < r 1 then r 9 + 1 else 0)) 10 = 0 := by rw [upn (by decide), upe]
      have j12 : (up (up (up r 12 (r 12 + 1)) 10 0) 9 (if r 9 + 1 < r 1 then r 9 + 1 else 0)) 12 = r 12 + 1 := by rw [upn (by decide), upn (by decide), upe]
      generalize (if r 9 + 1 < r 1 then r 9 + 1 else 0) = nx at *
      generalize (up (up (up r 12 (r 12 + 1)) 10 0) 9 nx) = r' at *
      refine fin _ _ (z2) (fun x q1 q2 q3 q4 => by rw [uIn q4, uIn q3, uIn q3, uIn q3, z1.1 x q4, y1 x q4]) (fun y hy => ?_) (fun j hj' => hj j (by omega) (by omega) (by omega)) (hKV.up (Or.inr ?_) (Or.inr ⟨0, j10, by omega⟩) (Or.inl (hj 11 (by omega) (by omega) (by omega))) (Or.inl (hj 13 (by omega) (by omega) (by omega))) (fun i hi => Or.inl (hj (9 + (5 + i)) (by omega) (by omega) (by omega))) (fun i hi => Or.inl (hj (9 + (11 + i)) (by omega) (by omega) (by omega)))) ?_ ?_ (Or.inl ⟨a10, fun i hi => (hj (14 + i) (by omega) (by omega) (by omega)).symm⟩)
      · rw [uIe, upn (fun q => by subst q; revert hy; decide), uIn (by decide), uIn (by decide), uIn (by decide), z1.2 y (by
          have : y = 8 ∨ y = 9 ∨ y = 10 := by simpa using hy
          omega), y2 y hy]
      · obtain ⟨q, q1, q2, q3⟩ := nxt
        exact ⟨q, by show r' 9 = _; rw [j9]; exact q1, q2, q3⟩
      · rw [uIn (by decide), uIn (by decide), uIn (by decide), uIn (by decide), uIn (by decide), uIn (by decide), uIn (by decide), uIn (by decide), uIn (by decide), uIn (by decide), uIn (by decide), uIn (by decide), uIn (by decide), uIn (by decide), uIn (by decide), uIn (by decide), z1.1 3 (by decide), y1 3 (by decide), z1.1 4 (by decide), y1 4 (by decide), z1.1 5 (by decide), y1 5 (by decide), z1.1 6 (by decide), y1 6 (by decide)]
        exact hRX.2.1.r (fun j p q => hj j (by omega) (by omega) (by omega))
      · rw [j15]
        exact ⟨by rw [upn (by decide), upn (by decide), upn (by decide), hj 8 (by omega) (by omega) (by omega)]; exact t0, by rw [upn (by decide), upn (by decide), upn (by decide), hj 11 (by omega) (by omega) (by omega)]; exact t1, by rw [upe, j9], by rw [upn (by decide), upe, j10], by rw [upn (by decide), upn (by decide), upe, j12], by rw [upn (by decide), upn (by decide), upn (by decide), hj 13 (by omega) (by omega) (by omega)]; exact t5, by rw [upn (by decide), upn (by decide), upn (by decide), hj 5 (by omega) (by omega) (by omega)]; exact t6, by rw [upn (by decide), upn (by decide), upn (by decide), hj 6 (by omega) (by omega) (by omega)]; exact t7, by rw [upn (by decide), upn (by decide), upn (by decide), hj 7 (by omega) (by omega) (by omega)]; exact t8⟩
    · have er : rideA S I r N = up (up r 13 (if r 13 + lrnA S I r N < 100 then r 13 + lrnA S I r N else 100)) 9 (if r 9 + 1 < r 1 then r 9 + 1 else 0) := by unfold rideA; rw [if_pos g]
      rw [er] at fin
      have hQ2 : CQ S Y2 r (WM 63 r N) := hQ.cg z1
      have e22 : Y2 15 2 = nI w := by rw [Y15, t2, wa]
      rw [e22]
      refine sp_tellQ hT hn hQ2 hB (kd := 4) (by omega) (fun Y3 J3 u1 u2 => ?_)
      have el : aT S Y2 r w (WM 63 r N) 4 = lrnA S I r N := by
        unfold lrnA
        rw [wa, qn (by omega)]
        exact aT_I hFO (Y2e 1 (by decide) (by decide) (by decide) (by decide)) (fun x hx => Y2e x (by omega) (by omega) (by omega) (by omega))
      rw [el]
      have Y315 : Y3 15 = X 15 := by rw [u1.1 15 (by decide), Y15]
      have Y37 : Y3 7 = X 7 := by rw [u1.1 7 (by decide), Y7]
      have y25 : Y2 15 5 = r 13 := by rw [Y15, t5]
      rw [y25]
      obtain ⟨f, f1, f2⟩ : ∃ f, lrnA S I r N = nI f ∧ f ≤ 100 := lrn_r (by rw [wa, qn (by omega), lg1, qi (by omega)]; omega)
      obtain ⟨sk, sk1, sk2⟩ := hKV.2.2.2.1
      have sk1 : r 13 = nI sk := sk1
      have nsk : ∃ q, (if r 13 + lrnA S I r N < 100 then r 13 + lrnA S I r N else 100) = nI q ∧ q ≤ 100 := by
        rw [sk1, f1, nI_add]
        by_cases g2 : nI (sk + f) < 100
        · rw [if_pos g2]
          have := (qlt (b := 100) (by omega) (by omega)).mp g2
          exact ⟨sk + f, rfl, by omega⟩
        · rw [if_neg g2]
          exact ⟨100, rfl, by omega⟩
      generalize (if r 13 + lrnA S I r N < 100 then r 13 + lrnA S I r N else 100) = ns at *
      have i15 : (uI Y3 15 5 ns) 15 = up (X 15) 5 ns := by rw [uIe, Y315]
      have i7 : (uI Y3 15 5 ns) 7 0 = r 1 := by rw [uIn (by decide), Y37, x70]
      have iv : (uI Y3 15 5 ns) 15 2 = r 9 := by rw [i15, upn (by decide), t2]
      rw [iv, i7]
      generalize hW : (uI (uI Y3 15 5 ns) 15 2 (if r 9 + 1 < r 1 then r 9 + 1 else 0)) 15 5 = ww
      have j15 : (uI (uI (uI Y3 15 5 ns) 15 2 (if r 9 + 1 < r 1 then r 9 + 1 else 0)) 49 7 ww) 15 = up (up (X 15) 5 ns) 2 (if r 9 + 1 < r 1 then r 9 + 1 else 0) := by rw [uIn (by decide), uIe, i15]
      have hj : ∀ j, j ≠ 9 → j ≠ 13 → (up (up r 13 ns) 9 (if r 9 + 1 < r 1 then r 9 + 1 else 0)) j = r j := fun j q1 q2 => by rw [upn q1, upn q2]
      have j9 : (up (up r 13 ns) 9 (if r 9 + 1 < r 1 then r 9 + 1 else 0)) 9 = (if r 9 + 1 < r 1 then r 9 + 1 else 0) := upe
      have j13 : (up (up r 13 ns) 9 (if r 9 + 1 < r 1 then r 9 + 1 else 0)) 13 = ns := by rw [upn (by decide), upe]
      generalize (if r 9 + 1 < r 1 then r 9 + 1 else 0) = nx at *
      generalize (up (up r 13 ns) 9 nx) = r' at *
      refine fin _ _ (z2.trans u2) (fun x q1 q2 q3 q4 => by rw [uIn q4, uIn q3, uIn q3, u1.1 x q4, z1.1 x q4, y1 x q4]) (fun y hy => ?_) (fun j hj' => hj j (by omega) (by omega)) (hKV.up (Or.inr ?_) (Or.inl (hj 10 (by omega) (by omega))) (Or.inl (hj 11 (by omega) (by omega))) (Or.inr ?_) (fun i hi => Or.inl (hj (9 + (5 + i)) (by omega) (by omega))) (fun i hi => Or.inl (hj (9 + (11 + i)) (by omega) (by omega)))) ?_ ?_ (Or.inl ⟨a10, fun i hi => (hj (14 + i) (by omega) (by omega)).symm⟩)
      · have h3y : 3 ≤ y := by
          have : y = 8 ∨ y = 9 ∨ y = 10 := by simpa using hy
          omega
        rw [uIe, upn (fun q => by subst q; revert hy; decide), uIn (by decide), uIn (by decide), u1.2 y h3y, z1.2 y h3y, y2 y hy]
      · obtain ⟨q, q1, q2, q3⟩ := nxt
        exact ⟨q, by show r' 9 = _; rw [j9]; exact q1, q2, q3⟩
      · obtain ⟨q, q1, q2⟩ := nsk
        exact ⟨q, by show r' 13 = _; rw [j13]; exact q1, q2⟩
      · rw [uIn (by decide), uIn (by decide), uIn (by decide), uIn (by decide), uIn (by decide), uIn (by decide), uIn (by decide), uIn (by decide), uIn (by decide), uIn (by decide), uIn (by decide), uIn (by decide), u1.1 3 (by decide), u1.1 4 (by decide), u1.1 5 (by decide), u1.1 6 (by decide), z1.1 3 (by decide), y1 3 (by decide), z1.1 4 (by decide), y1 4 (by decide), z1.1 5 (by decide), y1 5 (by decide), z1.1 6 (by decide), y1 6 (by decide)]
        exact hRX.2.1.r (fun j p q => hj j (by omega) (by omega))
      · rw [j15]
        exact ⟨by rw [upn (by decide), upn (by decide), hj 8 (by omega) (by omega)]; exact t0, by rw [upn (by decide), upn (by decide), hj 11 (by omega) (by omega)]; exact t1, by rw [upe, j9], by rw [upn (by decide), upn (by decide), hj 10 (by omega) (by omega)]; exact t3, by rw [upn (by decide), upn (by decide), hj 12 (by omega) (by omega)]; exact t4, by rw [upn (by decide), upe, j13], by rw [upn (by decide), upn (by decide), hj 5 (by omega) (by omega)]; exact t6, by rw [upn (by decide), upn (by decide), hj 6 (by omega) (by omega)]; exact t7, by rw [upn (by decide), upn (by decide), hj 7 (by omega) (by omega)]; exact t8⟩
end ACT
