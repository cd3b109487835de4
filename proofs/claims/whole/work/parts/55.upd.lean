/-! how the pieces of Inv bear writes -/
theorem KpI.f61 {I : tHI} {y : Nat} {v : Int32} (hy : y ∉ [1, 8, 11, 13, 18, 20, 41, 53, 57]) : KpI I (uI I 61 y v) := by
  refine ⟨fun x hx => uIn (by omega), fun x hx => uIn (fun e => by subst e; revert hx; decide), fun z _ => by rw [uIn (by decide)], fun z hz => ?_, by rw [uIn (by decide)], fun z _ => by rw [uIn (by decide)], fun z _ => by rw [uIn (by decide)], fun z _ => by rw [uIn (by decide)]⟩
  rw [uIe]
  exact upn (fun e => hy (e ▸ hz))
/-- a cell that no piece speaks of -/
theorem KpI.sc {I : tHI} {a y : Nat} {v : Int32} (ha : a ∈ [17, 18, 19, 20, 21, 22, 23, 24, 25, 26, 27, 28, 29, 30, 31, 36, 37, 41, 42, 43, 44, 45, 51, 52, 53, 54, 55, 56, 57, 58, 68, 69, 71, 72, 73, 74, 75, 82, 83, 84, 85, 87]) : KpI I (uI I a y v) := by
  have h : a < 89 ∧ a ≠ 0 ∧ a ≠ 61 ∧ a ≠ 40 ∧ a ≠ 49 ∧ a ≠ 50 ∧ a ≠ 66 ∧ a ∉ [1, 2, 3, 4, 5, 6, 7, 8, 9, 10, 11, 12, 13, 14, 15, 34, 35, 38, 39, 59, 60, 62, 63, 64, 65, 67, 70, 88] := by
    revert a
    decide
  obtain ⟨h1, h2, h3, h4, h5, h6, h7, h8⟩ := h
  exact ⟨fun x hx => uIn (by omega), fun x hx => uIn (fun e => h8 (e ▸ hx)), fun z _ => by rw [uIn h2.symm], fun z _ => by rw [uIn h3.symm], by rw [uIn h4.symm], fun z _ => by rw [uIn h5.symm], fun z _ => by rw [uIn h6.symm], fun z _ => by rw [uIn h7.symm]⟩
theorem KpI.f49 {I : tHI} {y : Nat} {v : Int32} (hy : y < 8 ∨ 10 < y) : KpI I (uI I 49 y v) := by
  refine ⟨fun x hx => uIn (by omega), fun x hx => uIn (fun e => by subst e; revert hx; decide), fun z _ => by rw [uIn (by decide)], fun z _ => by rw [uIn (by decide)], by rw [uIn (by decide)], fun z hz => ?_, fun z _ => by rw [uIn (by decide)], fun z _ => by rw [uIn (by decide)]⟩
  have : z = 8 ∨ z = 9 ∨ z = 10 := by simpa using hz
  rw [uIe]
  exact upn (by omega)
theorem KpI.f50 {I : tHI} {y : Nat} {v : Int32} (hy : 6 ≤ y) : KpI I (uI I 50 y v) := by
  refine ⟨fun x hx => uIn (by omega), fun x hx => uIn (fun e => by subst e; revert hx; decide), fun z _ => by rw [uIn (by decide)], fun z _ => by rw [uIn (by decide)], by rw [uIn (by decide)], fun z hz => by rw [uIn (by decide)], fun z hz => ?_, fun z _ => by rw [uIn (by decide)]⟩
  rw [uIe]
  exact upn (by omega)
theorem KpI.f66 {I : tHI} {y : Nat} {v : Int32} (hy : 272 ≤ y) : KpI I (uI I 66 y v) := by
  refine ⟨fun x hx => uIn (by omega), fun x hx => uIn (fun e => by subst e; revert hx; decide), fun z _ => by rw [uIn (by decide)], fun z _ => by rw [uIn (by decide)], by rw [uIn (by decide)], fun z hz => by rw [uIn (by decide)], fun z hz => by rw [uIn (by decide)], fun z hz => ?_⟩
  rw [uIe]
  exact upn (by omega)
theorem KpJ.w {J : tHJ} {a y : Nat} {v : Int64} (ha : a ∉ [76, 77, 78, 86]) : KpJ J (uJ J a y v) := fun x hx => uJn (fun e => ha (e ▸ hx))
def stv (v : Int32) : Int32 := if v.toInt < 0 then v else 0
def rfv (f : Nat → Int32) (v : Int32) : Nat → Int32 := if v.toInt < 0 then up f (-v).toNatClampNeg (f (-v).toNatClampNeg + 1) else f
theorem cS_0 {I : tHI} {v : Int32} : (cS I v) 0 = up (I 0) 18 (stv v) := by
  unfold cS stv
  by_cases c : v.toInt < 0
  · rw [if_pos c, if_pos c, uIn (by decide), uIe]
  · rw [if_neg c, if_neg c, uIe]
theorem cS_59 {I : tHI} {v : Int32} : (cS I v) 59 = rfv (I 59) v := by
  unfold cS rfv
  by_cases c : v.toInt < 0
  · rw [if_pos c, if_pos c, uIe, uIn (by decide)]
  · rw [if_neg c, if_neg c, uIn (by decide)]
theorem cS_o {I : tHI} {v : Int32} {x : Nat} (h0 : x ≠ 0) (h1 : x ≠ 59) : (cS I v) x = I x := by
  unfold cS
  by_cases c : v.toInt < 0
  · rw [if_pos c, uIn h1, uIn h0]
  · rw [if_neg c, uIn h0]
theorem mS_61 {I : tHI} {v : Int32} : (mS I v) 61 = up (I 61) 1 (stv v) := by
  unfold mS stv
  by_cases c : v.toInt < 0
  · rw [if_pos c, if_pos c, uIn (by decide), uIe]
  · rw [if_neg c, if_neg c, uIe]
theorem mS_62 {I : tHI} {v : Int32} : (mS I v) 62 = rfv (I 62) v := by
  unfold mS rfv
  by_cases c : v.toInt < 0
  · rw [if_pos c, if_pos c, uIe, uIn (by decide)]
  · rw [if_neg c, if_neg c, uIn (by decide)]
theorem mS_o {I : tHI} {v : Int32} {x : Nat} (h0 : x ≠ 61) (h1 : x ≠ 62) : (mS I v) x = I x := by
  unfold mS
  by_cases c : v.toInt < 0
  · rw [if_pos c, uIn h1, uIn h0]
  · rw [if_neg c, uIn h0]
theorem RM.cg {f0 f40 f59 f60 f61 f62 f88 g0 g40 g61 : Nat → Int32} (h : RM f0 f40 f59 f60 f61 f62 f88) (e0 : ∀ y, y ∈ [13, 16, 17, 18] → g0 y = f0 y) (e40 : g40 1 = f40 1) (e61 : ∀ y, y ∈ [1, 11, 18, 53, 57] → g61 y = f61 y) : RM g0 g40 f59 f60 g61 f62 f88 := by
  unfold RM at h ⊢
  rw [e0 13 (by decide), e0 16 (by decide), e0 17 (by decide), e0 18 (by decide), e40, e61 1 (by decide), e61 11 (by decide), e61 18 (by decide), e61 53 (by decide), e61 57 (by decide)]
  exact h
theorem RM.st {f0 f40 f59 f60 f61 f62 f88 : Nat → Int32} (h : RM f0 f40 f59 f60 f61 f62 f88) {v : Int32} : RM (up f0 18 (stv v)) f40 (rfv f59 v) f60 (up f61 1 (stv v)) (rfv f62 v) f88 := by
  have e0 : ∀ y, y ≠ 18 → (up f0 18 (stv v)) y = f0 y := fun y hy => upn hy
  have e1 : ∀ y, y ≠ 1 → (up f61 1 (stv v)) y = f61 y := fun y hy => upn hy
  obtain ⟨⟨m1, m2, m3, m4⟩, ⟨r1, r2, r3, r5, r6⟩, m6⟩ := h
  unfold RM
  rw [e0 16 (by decide), e0 17 (by decide), e0 13 (by decide), e1 18 (by decide), e1 53 (by decide), e1 11 (by decide), e1 57 (by decide), upe, upe]
  refine ⟨⟨m1, m2, m3, rfl⟩, ?_, m6⟩
  unfold rfv
  by_cases c : v.toInt < 0
  · rw [if_pos c, if_pos c]
    generalize (-v).toNatClampNeg = q
    have key : ∀ y, f59 y = f62 y → up f59 q (f59 q + 1) y = up f62 q (f62 q + 1) y := fun y e => by
      by_cases g : y = q
      · subst g; rw [upe, upe, e]
      · rw [upn g, upn g]; exact e
    exact ⟨key 1 r1, key 2 r2, key 3 r3, key 5 r5, key 6 r6⟩
  · rw [if_neg c, if_neg c]
    exact ⟨r1, r2, r3, r5, r6⟩
theorem RH.r {f34 f35 f61 f61' f66 f67 r r' : Nat → Int32} (h : RH f34 f35 f61 f66 f67 r) (e61 : f61' 8 = f61 8) (e0 : r' 0 = r 0) (e1 : r' 1 = r 1) (e2 : ∀ k, 9 ≤ k → k < 26 → r' k = r k) (e3 : ∀ k, 32 ≤ k → k < 38 → r' k = r k) : RH f34 f35 f61' f66 f67 r' := by
  obtain ⟨z, z1, z2, z3, z4⟩ := h
  refine ⟨z, z1, z2, by rw [e61]; exact z3, fun k hk => ?_⟩
  obtain ⟨q1, q2, ⟨b1, b2, b3, b4, b5⟩, q4⟩ := z4 k hk
  refine ⟨q1, q2, ⟨by rw [e1]; exact b1, b2, b3, b4, fun i hi => ?_⟩, ?_⟩
  · rw [e3 _ (by omega) (by omega)]; exact b5 i hi
  · rcases q4 with ⟨c1, c2⟩ | ⟨l, c1, c2, c3, c4, c5, c6⟩
    · refine Or.inl ⟨c1, fun i hi => ?_⟩
      rw [e2 _ (by omega) (by omega)]; exact c2 i hi
    · refine Or.inr ⟨l, c1, c2, by rw [e0]; exact c3, c4, c5, fun i hi hl => ?_⟩
      rw [e2 _ (by omega) (by omega), e2 _ (by omega) (by omega)]; exact c6 i hi hl
theorem RH.nil {f34 f35 f61 f66 f67 r : Nat → Int32} (h1 : f34 1 = 0) (h2 : f61 8 = 0) : RH f34 f35 f61 f66 f67 r := ⟨0, by omega, h1, h2, fun k hk => by omega⟩
theorem RTp.f {f38 f39 f61 f61' f70 : Nat → Int32} (h : RTp f38 f39 f61 f70) (e : f61' 13 = f61 13) : RTp f38 f39 f61' f70 := by
  obtain ⟨z, z1, z2, z3, z4⟩ := h
  exact ⟨z, z1, z2, by rw [e]; exact z3, z4⟩
theorem RCn.cg {I I' : tHI} {J J' : tHJ} (h : RCn I J) (e1 : I' 61 20 = I 61 20) (e2 : I' 61 41 = I 61 41) (e3 : ∀ y, y ∈ [8, 9, 10] → I' 49 y = I 49 y) (e4 : ∀ y, y < 6 → I' 50 y = I 50 y) (hJ : KpJ J J') : RCn I' J' := by
  obtain ⟨⟨n1, n1b⟩, ⟨n2, n3, n4⟩, n5, n6, n7, n8, n9⟩ := h
  refine ⟨⟨?_, ?_⟩, ⟨?_, ?_, ?_⟩, fun i hi => ?_, ?_, ?_, ?_, ?_⟩
  · rw [e1]; exact n1
  · rw [e2]; exact n1b
  · rw [e3 8 (by decide)]; exact n2
  · rw [e3 9 (by decide)]; exact n3
  · rw [e3 10 (by decide)]; exact n4
  · rw [e4 i hi]; exact n5 i hi
  · rw [hJ 76 (by decide)]; exact n6
  · rw [hJ 77 (by decide)]; exact n7
  · rw [hJ 78 (by decide)]; exact n8
  · rw [hJ 86 (by decide)]; exact n9
/-- the trip's own numbers, and the terms -/
theorem RSt.upT {S : tSH} {I I' : tHI} (h : RSt S I 1 (I 63)) (e : ∀ x, x < 15 → 1 ≤ x → I' x = I x) (e2 : ∀ x, 89 ≤ x → I' x = I x) (er : ∀ k, k < 5 ∨ 14 ≤ k → I' 63 k = I 63 k) (hT : RT (I' 15) (I' 63)) (hK : KR (I' 63)) (hV : KV (I' 63) (rV (I' 63))) : RSt S I' 1 (I' 63) := by
  obtain ⟨⟨a1, a2, a3, a4, a5⟩, h2, h3, h4, -, ⟨-, k2, -, k4, k5⟩, h7⟩ := h
  have g1 : I' 1 = I 1 := e 1 (by omega) (by omega)
  have g2 : I' 2 = I 2 := e 2 (by omega) (by omega)
  have g7 : I' 7 = I 7 := e 7 (by omega) (by omega)
  refine ⟨⟨?_, ?_, ?_, ?_, ?_⟩, fun i hi => ?_, fun b hb => ?_, fun s hs => ?_, hT, ⟨hK, fun i hi => ?_, hV, fun b hb => ?_, fun s hs => ?_⟩, (h7.I e2).r (er 3 (by omega)) (fun k hk => er k (by omega))⟩
  · rw [g1, er 3 (by omega)]; exact a1
  · rw [g1, er 4 (by omega)]; exact a2
  · show I' 2 0 = _
    rw [g2, er 0 (by omega)]; exact a3
  · show I' 7 0 = _
    rw [g7, er 1 (by omega)]; exact a4
  · show I' 7 5 = _
    rw [g7, er 2 (by omega)]; exact a5
  · show I' 3 i = _ ∧ I' 4 i = _ ∧ I' 5 i = _ ∧ I' 6 i = _
    rw [e 3 (by omega) (by omega), e 4 (by omega) (by omega), e 5 (by omega) (by omega), e 6 (by omega) (by omega), er _ (by omega), er _ (by omega), er _ (by omega), er _ (by omega)]
    exact h2 i hi
  · show I' 8 b = _ ∧ I' 9 b = _ ∧ I' 10 b = _ ∧ I' 11 b = _
    rw [e 8 (by omega) (by omega), e 9 (by omega) (by omega), e 10 (by omega) (by omega), e 11 (by omega) (by omega), er _ (by omega), er _ (by omega), er _ (by omega), er _ (by omega)]
    exact h3 b hb
  · show I' 12 s = _ ∧ I' 13 s = _ ∧ I' 14 s = _
    rw [e 12 (by omega) (by omega), e 13 (by omega) (by omega), e 14 (by omega) (by omega), er _ (by omega), er _ (by omega), er _ (by omega)]
    exact h4 s hs
  · rw [er _ (by omega), er _ (by omega)]; exact k2 i hi
  · rw [er _ (by omega), er _ (by omega), er _ (by omega), er _ (by omega)]; exact k4 b hb
  · rw [er 2 (by omega)] at hs
    rw [er (86 + 3 * s) (by omega), er (86 + 3 * s + 1) (by omega), er (86 + 3 * s + 2) (by omega), er 1 (by omega)]; exact k5 s hs
theorem KV.r {r r' v v' : Nat → Int32} (h : KV r v) (e1 : r' 1 = r 1) (e2 : ∀ k, 32 ≤ k → k < 38 → r' k = r k) (e3 : ∀ k, k < 17 → v' k = v k) : KV r' v' := by
  obtain ⟨b1, b2, b3, b4, b5⟩ := h
  refine ⟨by rw [e1, e3 0 (by omega)]; exact b1, by rw [e3 1 (by omega)]; exact b2, by rw [e3 2 (by omega)]; exact b3, by rw [e3 4 (by omega)]; exact b4, fun i hi => ?_⟩
  rw [e2 _ (by omega) (by omega), e3 _ (by omega), e3 _ (by omega)]
  exact b5 i hi
