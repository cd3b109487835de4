/-! what changes the State: forget, sight, clear, bend, load -/
theorem RSt.via {S : tSH} {I X : tHI} {r r' : Nat → Int32} (h : RSt S I 1 r) (e1 : X 1 = I 1) (e89 : ∀ x, 89 ≤ x → X x = I x) (hr3 : r' 3 = r 3) (hr4 : r' 4 = r 4) (hr : ∀ k, 110 ≤ k → r' k = r k) (a3 : X 2 0 = r' 0) (a4 : X 7 0 = r' 1) (a5 : X 7 5 = r' 2) (h2 : RLd (X 3) (X 4) (X 5) (X 6) r') (h3 : RB (X 8) (X 9) (X 10) (X 11) r') (h4 : RG (X 12) (X 13) (X 14) r') (h5 : RT (X 15) r') (h6 : RK r') : RSt S X 1 r' := by
  obtain ⟨⟨b1, b2, b3, b4, b5⟩, -, -, -, -, -, h7⟩ := h
  refine ⟨⟨?_, ?_, a3, a4, a5⟩, h2, h3, h4, h5, h6, (h7.I e89).r hr3 hr⟩
  · rw [e1, hr3]; exact b1
  · rw [e1, hr4]; exact b2
theorem RMs.st {I X : tHI} (h : RMs I) {v : Int32} (e : ∀ x, x ∈ [40, 60, 88] → X x = I x) (e0 : X 0 = up (I 0) 18 (stv v)) (e59 : X 59 = rfv (I 59) v) (e62 : X 62 = rfv (I 62) v) (e61 : ∀ y, y ∈ [11, 18, 53, 57] → X 61 y = I 61 y) (e1 : X 61 1 = stv v) : RMs X := by
  have g := RM.st (v := v) h
  show RM _ _ _ _ _ _ _
  rw [e0, e 40 (by decide), e59, e 60 (by decide), e62, e 88 (by decide)]
  refine g.cg (fun _ _ => rfl) rfl (fun y hy => ?_)
  by_cases c : y = 1
  · subst c; rw [upe, e1]
  · rw [upn c]
    have : y = 1 ∨ y = 11 ∨ y = 18 ∨ y = 53 ∨ y = 57 := by simpa using hy
    rcases this with q | q | q | q | q
    · exact absurd q c
    · subst q; exact e61 11 (by decide)
    · subst q; exact e61 18 (by decide)
    · subst q; exact e61 53 (by decide)
    · subst q; exact e61 57 (by decide)
/-- the invariant of its changed pieces -/
theorem Inv.mkG {S : tSH} {I X : tHI} {J : tHJ} (h : Inv S I J) (e : ∀ x, x ∈ [38, 39, 49, 50, 64, 65, 70] → X x = I x) (e89 : ∀ x, 89 ≤ x → X x = I x) (e61 : ∀ y, y ∈ [13, 20, 41] → X 61 y = I 61 y) (hM : RMs X) (hR : RSt S X 1 (X 63)) (hH : RH (X 34) (X 35) (X 61) (X 66) (X 67) (X 63)) : Inv S X J := by
  obtain ⟨h1, h2, h3, h4, h5, h6, h7⟩ := h
  refine ⟨h1, hR, hH, ?_, h5.cg (e 64 (by decide)) (e 65 (by decide)) e89, hM, h7.cg (e61 20 (by decide)) (e61 41 (by decide)) (fun y _ => by rw [e 49 (by decide)]) (fun y _ => by rw [e 50 (by decide)]) (KpJ.rf J)⟩
  rw [e 38 (by decide), e 39 (by decide), e 70 (by decide)]
  exact h4.f (e61 13 (by decide))
theorem cS_p {I : tHI} {v : Int32} (h : 0 ≤ v.toInt) : cS I v = uI I 0 18 0 := by unfold cS; rw [if_neg (by omega)]
theorem mS_p {I : tHI} {v : Int32} (h : 0 ≤ v.toInt) : mS I v = uI I 61 1 0 := by unfold mS; rw [if_neg (by omega)]
section UW
variable {n : Nat} {S : tSH} {I : tHI} {J : tHJ}
theorem st_forget : tSt_forget n Inv := by
  intro S I J h
  have hR := h.2.1
  show F12_forget n S _ J (fun y I2 J2 => I 7 5 = y ∧ Inv S I2 J2)
  show I 7 5 = (uI (uI I 7 5 0) 61 0 0) 63 2 ∧ Inv S (uI (uI (uI I 7 5 0) 61 0 0) 63 2 0) J
  refine ⟨by rw [uIn (by decide), uIn (by decide)]; exact hR.1.2.2.2.2, ?_⟩
  have e : ∀ x, x ≠ 7 → x ≠ 61 → x ≠ 63 → (uI (uI (uI I 7 5 0) 61 0 0) 63 2 0) x = I x := fun x c7 c61 c63 => by rw [uIn c63, uIn c61, uIn c7]
  have e7 : (uI (uI (uI I 7 5 0) 61 0 0) 63 2 0) 7 = (up (I 7) 5 0) := by rw [uIn (by decide), uIn (by decide), uIe]
  have e61 : (uI (uI (uI I 7 5 0) 61 0 0) 63 2 0) 61 = (up (I 61) 0 0) := by rw [uIn (by decide), uIe, uIn (by decide)]
  have e63 : (uI (uI (uI I 7 5 0) 61 0 0) 63 2 0) 63 = (up (I 63) 2 0) := by rw [uIe, uIn (by decide), uIn (by decide)]
  generalize (uI (uI (uI I 7 5 0) 61 0 0) 63 2 0) = X at *
  have hr : ∀ k, k ≠ 2 → X 63 k = I 63 k := fun k hk => by rw [e63]; exact upn hk
  have hN := hR.1
  obtain ⟨⟨k0, k1, k2, k3, k4, k5, k6, k7, k8⟩, kL, kV, kB, kG⟩ := hR.2.2.2.2.2.1
  have hr2 : X 63 2 = 0 := by rw [e63, upe]
  have hM : RMs X := by
    show RM _ _ _ _ _ _ _
    rw [e 0 (by decide) (by decide) (by decide), e 40 (by decide) (by decide) (by decide), e 59 (by decide) (by decide) (by decide), e 60 (by decide) (by decide) (by decide), e 62 (by decide) (by decide) (by decide), e 88 (by decide) (by decide) (by decide)]
    refine RM.cg h.2.2.2.2.2.1 (fun _ _ => rfl) rfl (fun y hy => ?_)
    rw [e61, upn (fun q => by subst q; revert hy; decide)]
  refine h.mkG (fun x hx => e x (fun q => by subst q; revert hx; decide) (fun q => by subst q; revert hx; decide) (fun q => by subst q; revert hx; decide)) (fun x hx => e x (by omega) (by omega) (by omega)) (fun y hy => by rw [e61, upn (fun q => by subst q; revert hy; decide)]) hM ?_ ?_
  · refine hR.via (e 1 (by decide) (by decide) (by decide)) (fun x hx => e x (by omega) (by omega) (by omega)) (hr 3 (by omega)) (hr 4 (by omega)) (fun k hk => hr k (by omega)) ?_ ?_ ?_ (by rw [e 3 (by decide) (by decide) (by decide), e 4 (by decide) (by decide) (by decide), e 5 (by decide) (by decide) (by decide), e 6 (by decide) (by decide) (by decide)]; exact hR.2.1.r (fun k q1 q2 => hr k (by omega))) (by rw [e 8 (by decide) (by decide) (by decide), e 9 (by decide) (by decide) (by decide), e 10 (by decide) (by decide) (by decide), e 11 (by decide) (by decide) (by decide)]; exact hR.2.2.1.r (fun k q1 q2 => hr k (by omega))) (by rw [e 12 (by decide) (by decide) (by decide), e 13 (by decide) (by decide) (by decide), e 14 (by decide) (by decide) (by decide)]; exact hR.2.2.2.1.r (fun k q1 q2 => hr k (by omega))) (by rw [e 15 (by decide) (by decide) (by decide)]; exact hR.2.2.2.2.1.r (fun k q1 q2 => hr k (by omega))) ⟨⟨?_, ?_, ?_, ?_, ?_, ?_, ?_, ?_, ?_⟩, kL.r (fun k q1 q2 => hr k (by omega)), kV.r (hr 1 (by omega)) (fun k q1 q2 => hr k (by omega)) (fun k q => hr (9 + k) (by omega)), kB.r (fun k q1 q2 => hr k (by omega)), fun s hs => ?_⟩
    · rw [e 2 (by decide) (by decide) (by decide), hr 0 (by omega)]; exact hN.2.2.1
    · rw [e7, upn (by decide), hr 1 (by omega)]; exact hN.2.2.2.1
    · rw [e7, upe, hr2]
    · rw [hr 0 (by omega)]; exact k0
    · rw [hr 1 (by omega)]; exact k1
    · exact ⟨0, hr2, by omega⟩
    · rw [hr 3 (by omega)]; exact k3
    · rw [hr 3 (by omega), hr 4 (by omega)]; exact k4
    · rw [hr 5 (by omega)]; exact k5
    · rw [hr 6 (by omega)]; exact k6
    · rw [hr 7 (by omega)]; exact k7
    · rw [hr 8 (by omega)]; exact k8
    · exfalso
      rw [hr2, tz0] at hs
      omega
  · rw [e 34 (by decide) (by decide) (by decide), e 35 (by decide) (by decide) (by decide), e 66 (by decide) (by decide) (by decide), e 67 (by decide) (by decide) (by decide)]
    exact h.2.2.1.r (by rw [e61, upn (by decide)]) (hr 0 (by omega)) (hr 1 (by omega)) (fun k q1 q2 => hr k (by omega)) (fun k q1 q2 => hr k (by omega))
theorem st_clear : tSt_clear n Inv := by
  intro S I J h
  have hR := h.2.1
  have hN := hR.1
  obtain ⟨B, b1, b2⟩ := hR.2.2.2.2.2.1.1.2.1
  have e70 : I 7 0 = nI B := by rw [← b1]; exact hN.2.2.2.1
  unfold F11_clear
  refine ⟨fun c => ?_, fun c => ?_⟩
  · have hp : 0 ≤ (I 7 0).toInt := by rw [e70, qi (by omega)]; omega
    refine sp_settle h.1.l59 (by omega) ?_
    rw [cS_p hp]
    show F12_clear n S _ J (fun y I2 J2 => I 7 0 = y ∧ Inv S I2 J2)
    unfold F12_clear
    have e1 : (uI (uI (uI (uI (uI (uI I 7 0 0) 7 5 0) 15 2 0) 34 1 0) 0 18 0) 61 0 0) 63 1 = I 7 0 := by
      rw [uIn (by decide), uIn (by decide), uIn (by decide), uIn (by decide), uIn (by decide), uIn (by decide)]; exact hN.2.2.2.1.symm
    rw [e1]
    refine ⟨fun _ => ?_, fun q => absurd q c⟩
    refine sp_settled (by omega) ?_
    rw [if_neg (by omega), mS_p hp]
    show I 7 0 = I 7 0 ∧ Inv S (uI (uI (uI (uI (uI (uI (uI (uI (uI (uI (uI I 7 0 0) 7 5 0) 15 2 0) 34 1 0) 0 18 0) 61 0 0) 63 1 0) 63 2 0) 63 9 0) 61 8 0) 61 1 0) J
    refine ⟨rfl, ?_⟩
    have e : ∀ x, x ≠ 0 → x ≠ 7 → x ≠ 15 → x ≠ 34 → x ≠ 61 → x ≠ 63 → (uI (uI (uI (uI (uI (uI (uI (uI (uI (uI (uI I 7 0 0) 7 5 0) 15 2 0) 34 1 0) 0 18 0) 61 0 0) 63 1 0) 63 2 0) 63 9 0) 61 8 0) 61 1 0) x = I x := fun x c0 c7 c15 c34 c61 c63 => by rw [uIn c61, uIn c61, uIn c63, uIn c63, uIn c63, uIn c61, uIn c0, uIn c34, uIn c15, uIn c7, uIn c7]
    have e0 : (uI (uI (uI (uI (uI (uI (uI (uI (uI (uI (uI I 7 0 0) 7 5 0) 15 2 0) 34 1 0) 0 18 0) 61 0 0) 63 1 0) 63 2 0) 63 9 0) 61 8 0) 61 1 0) 0 = (up (I 0) 18 0) := by rw [uIn (by decide), uIn (by decide), uIn (by decide), uIn (by decide), uIn (by decide), uIn (by decide), uIe, uIn (by decide), uIn (by decide), uIn (by decide), uIn (by decide)]
    have e7 : (uI (uI (uI (uI (uI (uI (uI (uI (uI (uI (uI I 7 0 0) 7 5 0) 15 2 0) 34 1 0) 0 18 0) 61 0 0) 63 1 0) 63 2 0) 63 9 0) 61 8 0) 61 1 0) 7 = (up (up (I 7) 0 0) 5 0) := by rw [uIn (by decide), uIn (by decide), uIn (by decide), uIn (by decide), uIn (by decide), uIn (by decide), uIn (by decide), uIn (by decide), uIn (by decide), uIe, uIe]
    have e15 : (uI (uI (uI (uI (uI (uI (uI (uI (uI (uI (uI I 7 0 0) 7 5 0) 15 2 0) 34 1 0) 0 18 0) 61 0 0) 63 1 0) 63 2 0) 63 9 0) 61 8 0) 61 1 0) 15 = (up (I 15) 2 0) := by rw [uIn (by decide), uIn (by decide), uIn (by decide), uIn (by decide), uIn (by decide), uIn (by decide), uIn (by decide), uIn (by decide), uIe, uIn (by decide), uIn (by decide)]
    have e34 : (uI (uI (uI (uI (uI (uI (uI (uI (uI (uI (uI I 7 0 0) 7 5 0) 15 2 0) 34 1 0) 0 18 0) 61 0 0) 63 1 0) 63 2 0) 63 9 0) 61 8 0) 61 1 0) 34 = (up (I 34) 1 0) := by rw [uIn (by decide), uIn (by decide), uIn (by decide), uIn (by decide), uIn (by decide), uIn (by decide), uIn (by decide), uIe, uIn (by decide), uIn (by decide), uIn (by decide)]
    have e61 : (uI (uI (uI (uI (uI (uI (uI (uI (uI (uI (uI I 7 0 0) 7 5 0) 15 2 0) 34 1 0) 0 18 0) 61 0 0) 63 1 0) 63 2 0) 63 9 0) 61 8 0) 61 1 0) 61 = (up (up (up (I 61) 0 0) 8 0) 1 0) := by rw [uIe, uIe, uIn (by decide), uIn (by decide), uIn (by decide), uIe, uIn (by decide), uIn (by decide), uIn (by decide), uIn (by decide), uIn (by decide)]
    have e63 : (uI (uI (uI (uI (uI (uI (uI (uI (uI (uI (uI I 7 0 0) 7 5 0) 15 2 0) 34 1 0) 0 18 0) 61 0 0) 63 1 0) 63 2 0) 63 9 0) 61 8 0) 61 1 0) 63 = (up (up (up (I 63) 1 0) 2 0) 9 0) := by rw [uIn (by decide), uIn (by decide), uIe, uIe, uIe, uIn (by decide), uIn (by decide), uIn (by decide), uIn (by decide), uIn (by decide), uIn (by decide)]
    generalize (uI (uI (uI (uI (uI (uI (uI (uI (uI (uI (uI I 7 0 0) 7 5 0) 15 2 0) 34 1 0) 0 18 0) 61 0 0) 63 1 0) 63 2 0) 63 9 0) 61 8 0) 61 1 0) = X at *
    have hr : ∀ k, k ≠ 1 → k ≠ 2 → k ≠ 9 → X 63 k = I 63 k := fun k a b c => by rw [e63, upn c, upn b, upn a]
    obtain ⟨⟨k0, k1, k2, k3, k4, k5, k6, k7, k8⟩, kL, kV, kB, kG⟩ := hR.2.2.2.2.2.1
    have hr1 : X 63 1 = 0 := by rw [e63, upn (by decide), upn (by decide), upe]
    have hr2 : X 63 2 = 0 := by rw [e63, upn (by decide), upe]
    have hr9 : X 63 9 = 0 := by rw [e63, upe]
    have hM : RMs X := h.2.2.2.2.2.1.st (v := 0) (fun x hx => e x (fun q => by subst q; revert hx; decide) (fun q => by subst q; revert hx; decide) (fun q => by subst q; revert hx; decide) (fun q => by subst q; revert hx; decide) (fun q => by subst q; revert hx; decide) (fun q => by subst q; revert hx; decide)) e0 (by rw [e 59 (by decide) (by decide) (by decide) (by decide) (by decide) (by decide), rfv_n (by decide)]) (by rw [e 62 (by decide) (by decide) (by decide) (by decide) (by decide) (by decide), rfv_n (by decide)]) (fun y hy => by rw [e61, upn (fun q => by subst q; revert hy; decide), upn (fun q => by subst q; revert hy; decide), upn (fun q => by subst q; revert hy; decide)]) (by rw [e61, upe]; rfl)
    refine h.mkG (fun x hx => e x (fun q => by subst q; revert hx; decide) (fun q => by subst q; revert hx; decide) (fun q => by subst q; revert hx; decide) (fun q => by subst q; revert hx; decide) (fun q => by subst q; revert hx; decide) (fun q => by subst q; revert hx; decide)) (fun x hx => e x (by omega) (by omega) (by omega) (by omega) (by omega) (by omega)) (fun y hy => by rw [e61, upn (fun q => by subst q; revert hy; decide), upn (fun q => by subst q; revert hy; decide), upn (fun q => by subst q; revert hy; decide)]) hM ?_ (RH.nil (by rw [e34, upe]) (by rw [e61, upn (by decide), upe]))
    refine hR.via (e 1 (by decide) (by decide) (by decide) (by decide) (by decide) (by decide)) (fun x hx => e x (by omega) (by omega) (by omega) (by omega) (by omega) (by omega)) (hr 3 (by omega) (by omega) (by omega)) (hr 4 (by omega) (by omega) (by omega)) (fun k hk => hr k (by omega) (by omega) (by omega)) ?_ ?_ ?_ (by rw [e 3 (by decide) (by decide) (by decide) (by decide) (by decide) (by decide), e 4 (by decide) (by decide) (by decide) (by decide) (by decide) (by decide), e 5 (by decide) (by decide) (by decide) (by decide) (by decide) (by decide), e 6 (by decide) (by decide) (by decide) (by decide) (by decide) (by decide)]; exact hR.2.1.r (fun k q1 q2 => hr k (by omega) (by omega) (by omega))) (by rw [e 8 (by decide) (by decide) (by decide) (by decide) (by decide) (by decide), e 9 (by decide) (by decide) (by decide) (by decide) (by decide) (by decide), e 10 (by decide) (by decide) (by decide) (by decide) (by decide) (by decide), e 11 (by decide) (by decide) (by decide) (by decide) (by decide) (by decide)]; exact hR.2.2.1.r (fun k q1 q2 => hr k (by omega) (by omega) (by omega))) (by rw [e 12 (by decide) (by decide) (by decide) (by decide) (by decide) (by decide), e 13 (by decide) (by decide) (by decide) (by decide) (by decide) (by decide), e 14 (by decide) (by decide) (by decide) (by decide) (by decide) (by decide)]; exact hR.2.2.2.1.r (fun k q1 q2 => hr k (by omega) (by omega) (by omega))) ?_ ⟨⟨?_, ?_, ?_, ?_, ?_, ?_, ?_, ?_, ?_⟩, kL.r (fun k q1 q2 => hr k (by omega) (by omega) (by omega)), ?_, kB.r (fun k q1 q2 => hr k (by omega) (by omega) (by omega)), fun s hs => ?_⟩
    · rw [e 2 (by decide) (by decide) (by decide) (by decide) (by decide) (by decide), hr 0 (by omega) (by omega) (by omega)]; exact hN.2.2.1
    · rw [e7, upn (by decide), upe, hr1]
    · rw [e7, upe, hr2]
    · obtain ⟨t0, t1, t2, t3, t4, t5, t6, t7, t8⟩ := hR.2.2.2.2.1
      rw [e15]
      refine ⟨?_, ?_, ?_, ?_, ?_, ?_, ?_, ?_, ?_⟩
      · rw [upn (by decide), hr 8 (by omega) (by omega) (by omega)]; exact t0
      · rw [upn (by decide), hr 11 (by omega) (by omega) (by omega)]; exact t1
      · rw [upe, hr9]
      · rw [upn (by decide), hr 10 (by omega) (by omega) (by omega)]; exact t3
      · rw [upn (by decide), hr 12 (by omega) (by omega) (by omega)]; exact t4
      · rw [upn (by decide), hr 13 (by omega) (by omega) (by omega)]; exact t5
      · rw [upn (by decide), hr 5 (by omega) (by omega) (by omega)]; exact t6
      · rw [upn (by decide), hr 6 (by omega) (by omega) (by omega)]; exact t7
      · rw [upn (by decide), hr 7 (by omega) (by omega) (by omega)]; exact t8
    · rw [hr 0 (by omega) (by omega) (by omega)]; exact k0
    · exact ⟨0, hr1, by omega⟩
    · exact ⟨0, hr2, by omega⟩
    · rw [hr 3 (by omega) (by omega) (by omega)]; exact k3
    · rw [hr 3 (by omega) (by omega) (by omega), hr 4 (by omega) (by omega) (by omega)]; exact k4
    · rw [hr 5 (by omega) (by omega) (by omega)]; exact k5
    · rw [hr 6 (by omega) (by omega) (by omega)]; exact k6
    · rw [hr 7 (by omega) (by omega) (by omega)]; exact k7
    · rw [hr 8 (by omega) (by omega) (by omega)]; exact k8
    · obtain ⟨v0, v1, v2, v3, v4⟩ := kV
      have hv : ∀ k, k ≠ 0 → rV (X 63) k = rV (I 63) k := fun k hk => hr (9 + k) (by omega) (by omega) (by omega)
      refine ⟨⟨0, hr9, Or.inl rfl, by omega⟩, by rw [hv 1 (by omega)]; exact v1, by rw [hv 2 (by omega)]; exact v2, by rw [hv 4 (by omega)]; exact v3, fun i hi => ?_⟩
      rw [hv _ (by omega), hv _ (by omega), hr _ (by omega) (by omega) (by omega)]; exact v4 i hi
    · exfalso
      rw [hr2, tz0] at hs
      omega
  · refine sp_settle h.1.l59 (by decide) ?_
    show F12_clear n S _ J (fun y I2 J2 => -3 = y ∧ Inv S I2 J2)
    unfold F12_clear
    have e1 : (uI (cS I (-3)) 61 0 0) 63 1 = I 7 0 := by rw [uIn (by decide), cS_o (by decide) (by decide)]; exact hN.2.2.2.1.symm
    rw [e1]
    exact ⟨fun q => absurd c q, fun _ => h.no (by decide)⟩
end UW
