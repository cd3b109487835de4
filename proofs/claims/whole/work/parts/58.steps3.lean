/-! the simple calls, III: force, end, forget, sight, clear, bend -/
theorem RLd.r {w sp al le r r' : Nat → Int32} (h : RLd w sp al le r) (e : ∀ k, 14 ≤ k → k < 38 → r' k = r k) : RLd w sp al le r' := fun i hi => by
  rw [e _ (by omega) (by omega), e _ (by omega) (by omega), e _ (by omega) (by omega), e _ (by omega) (by omega)]; exact h i hi
theorem RB.r {a b c d r r' : Nat → Int32} (h : RB a b c d r) (e : ∀ k, 38 ≤ k → k < 86 → r' k = r k) : RB a b c d r' := fun i hi => by
  rw [e _ (by omega) (by omega), e _ (by omega) (by omega), e _ (by omega) (by omega), e _ (by omega) (by omega)]; exact h i hi
theorem RG.r {a b c r r' : Nat → Int32} (h : RG a b c r) (e : ∀ k, 86 ≤ k → k < 110 → r' k = r k) : RG a b c r' := fun i hi => by
  rw [e _ (by omega) (by omega), e _ (by omega) (by omega), e _ (by omega) (by omega)]; exact h i hi
theorem RT.r {t r r' : Nat → Int32} (h : RT t r) (e : ∀ k, 5 ≤ k → k < 14 → r' k = r k) : RT t r' := by
  unfold RT at h ⊢
  rw [e 8 (by omega) (by omega), e 11 (by omega) (by omega), e 9 (by omega) (by omega), e 10 (by omega) (by omega), e 12 (by omega) (by omega), e 13 (by omega) (by omega), e 5 (by omega) (by omega), e 6 (by omega) (by omega), e 7 (by omega) (by omega)]
  exact h
theorem KR.r {r r' : Nat → Int32} (h : KR r) (e : ∀ k, k < 9 → r' k = r k) : KR r' := by
  unfold KR at h ⊢
  rw [e 0 (by omega), e 1 (by omega), e 2 (by omega), e 3 (by omega), e 4 (by omega), e 5 (by omega), e 6 (by omega), e 7 (by omega), e 8 (by omega)]
  exact h
theorem KL.r {r r' : Nat → Int32} (h : KL r) (e : ∀ k, 26 ≤ k → k < 38 → r' k = r k) : KL r' := fun i hi => by
  rw [e _ (by omega) (by omega), e _ (by omega) (by omega)]; exact h i hi
theorem KB.r {r r' : Nat → Int32} (h : KB r) (e : ∀ k, 38 ≤ k → k < 86 → r' k = r k) : KB r' := fun i hi => by
  rw [e _ (by omega) (by omega), e _ (by omega) (by omega), e _ (by omega) (by omega), e _ (by omega) (by omega)]; exact h i hi
theorem KG.r {r r' : Nat → Int32} (h : KG r) (e1 : r' 1 = r 1) (e2 : r' 2 = r 2) (e : ∀ k, 86 ≤ k → k < 110 → r' k = r k) (h2 : (r 2).toInt ≤ 8) : KG r' := fun s hs => by
  rw [e2] at hs
  rw [e1, e _ (by omega) (by omega), e _ (by omega) (by omega), e _ (by omega) (by omega)]; exact h s hs
theorem KR.le8 {r : Nat → Int32} (h : KR r) : (r 2).toInt ≤ 8 := by
  obtain ⟨n, q1, q2⟩ := h.2.2.1
  rw [q1, qi (by omega)]; omega
section US
variable {n : Nat} {S : tSH} {I : tHI} {J : tHJ}
theorem st_end : tSt_end n Inv := by
  intro S I J v1 h
  obtain ⟨z, z1, z2, z3, z4⟩ := h.2.2.2.1
  unfold F11_end
  have hz : (I 38 1).toInt = z := by rw [z2, qi (by omega)]
  refine ⟨fun c => ?_, fun c => ?_⟩
  · rw [wi1, hz] at c
    have c : 0 ≤ v1.toInt ∧ v1.toInt ≤ z := c
    show F12_end n S _ J v1 (fun y I2 J2 => v1 = y ∧ Inv S I2 J2)
    unfold F12_end F12_end_17
    refine ⟨fun q => ?_, fun _ => ⟨fun _ => ⟨rfl, ?_⟩, fun q => ?_⟩⟩
    · rw [Int32.lt_iff_toInt_lt] at q
      have : (0 : Int32).toInt = 0 := rfl
      omega
    · obtain ⟨h1, h2, h3, h4, h5, h6, h7⟩ := h
      have e : ∀ x, x ≠ 38 → x ≠ 61 → (uI (uI (uI I 38 1 v1) 61 0 0) 61 13 v1) x = I x := fun x a b => by rw [uIn b, uIn b, uIn a]
      have e61 : (uI (uI (uI I 38 1 v1) 61 0 0) 61 13 v1) 61 = up (up (I 61) 0 0) 13 v1 := by rw [uIe, uIe, uIn (by decide)]
      have e38 : (uI (uI (uI I 38 1 v1) 61 0 0) 61 13 v1) 38 = up (I 38) 1 v1 := by rw [uIn (by decide), uIn (by decide), uIe]
      generalize (uI (uI (uI I 38 1 v1) 61 0 0) 61 13 v1) = X at *
      refine ⟨h1, ?_, ?_, ?_, ?_, ?_, ?_⟩
      · rw [e 63 (by decide) (by decide)]; exact h2.cg (fun i hi => e _ (by omega) (by omega)) (fun x hx => e x (by omega) (by omega))
      · rw [e 34 (by decide) (by decide), e 35 (by decide) (by decide), e 66 (by decide) (by decide), e 67 (by decide) (by decide), e 63 (by decide) (by decide), e61]
        exact h3.r (by rw [upn (by decide), upn (by decide)]) rfl rfl (fun _ _ _ => rfl) (fun _ _ _ => rfl)
      · rw [e38, e 39 (by decide) (by decide), e 70 (by decide) (by decide), e61]
        refine ⟨v1.toNatClampNeg, by rw [qtn]; omega, by rw [upe]; exact qof c.1, by rw [upe]; exact qof c.1, fun k hk => z4 k (by rw [qtn] at hk; omega)⟩
      · exact h5.cg (e 64 (by decide) (by decide)) (e 65 (by decide) (by decide)) (fun x hx => e x (by omega) (by omega))
      · show RM _ _ _ _ _ _ _
        rw [e 59 (by decide) (by decide), e 60 (by decide) (by decide), e 62 (by decide) (by decide), e 88 (by decide) (by decide), e 0 (by decide) (by decide), e 40 (by decide) (by decide), e61]
        refine RM.cg h6 (fun _ _ => rfl) rfl (fun y hy => ?_)
        rw [upn (fun q => by subst q; revert hy; decide), upn (fun q => by subst q; revert hy; decide)]
      · refine h7.cg ?_ ?_ (fun y _ => by rw [e 49 (by decide) (by decide)]) (fun y _ => by rw [e 50 (by decide) (by decide)]) (KpJ.rf J)
        · rw [e61, upn (by decide), upn (by decide)]
        · rw [e61, upn (by decide), upn (by decide)]
    · exfalso
      rw [s61 (by decide), uIn (by decide), z3, Int32.le_iff_toInt_le, qi (by omega)] at q
      omega
  · rw [wi0, hz] at c
    have c : ¬ (0 ≤ v1.toInt ∧ v1.toInt ≤ z) := c
    show F12_end n S _ J v1 (fun y I2 J2 => -1 = y ∧ Inv S I2 J2)
    unfold F12_end F12_end_17
    refine ⟨fun _ => ⟨rfl, h.th⟩, fun q => ⟨fun q2 => ?_, fun _ => ⟨rfl, h.th⟩⟩⟩
    exfalso
    rw [s61 (by decide), z3, Int32.le_iff_toInt_le, qi (by omega)] at q2
    rw [Int32.lt_iff_toInt_lt] at q
    have : (0 : Int32).toInt = 0 := rfl
    omega
theorem st_force : tSt_force n Inv := by
  intro S I J v1 h
  have hN : RN (I 1) (I 2) (I 7) (I 63) := h.2.1.1
  obtain ⟨w, w1, w2⟩ := h.2.1.2.2.2.2.2.1.1.2.2.2.1
  have hw : (I 1 4).toInt = w := by rw [hN.1, w1, qi (by omega)]
  have hs : (I 1 4 - 1).toInt = w - 1 := by
    have e := ti_sub (a := I 1 4) (b := 1) (by rw [hw]; show _ ≤ (w : Int) - 1; omega) (by rw [hw]; show (w : Int) - 1 < _; omega)
    rw [hw] at e; exact e
  have h63 : (I 63 3).toInt = w := by rw [w1, qi (by omega)]
  have hs2 : ((I 63 3).toInt64 - 1).toInt = w - 1 := by
    have e := tl_sub (a := (I 63 3).toInt64) (b := 1) (by rw [Int32.toInt_toInt64, h63]; show _ ≤ (w : Int) - 1; omega) (by rw [Int32.toInt_toInt64, h63]; show (w : Int) - 1 < _; omega)
    rw [Int32.toInt_toInt64, h63] at e; exact e
  unfold F11_force
  refine ⟨fun c => ?_, fun c => ?_⟩
  · rw [wi1, hs] at c
    have c : -1 ≤ v1.toInt ∧ v1.toInt ≤ w - 1 := c
    refine sp_settle h.1.l59 (by decide) ?_
    show F12_force n S _ J v1 (fun y I2 J2 => I 1 5 = y ∧ Inv S I2 J2)
    have fin : F12_force_28 n S (fun y I2 J2 => I 1 5 = y ∧ Inv S I2 J2) (uI (cS (uI I 1 5 v1) 0) 61 0 0) J v1 := by
      unfold F12_force_28 F12_force_43 F12_change
      refine ⟨(qin (a := 4) (by omega)).mpr (by omega), (qin (a := 4) (by omega)).mpr (by omega), ?_, ?_⟩
      · show I 1 5 = (uI (cS (uI I 1 5 v1) 0) 61 0 0) 63 4
        rw [uIn (by decide), cS_o (by decide) (by decide), uIn (by decide)]; exact hN.2.1
      · show Inv S (uI (uI (uI (cS (uI I 1 5 v1) 0) 61 0 0) 63 4 v1) 61 1 0) J
        have e : ∀ x, x ≠ 0 → x ≠ 1 → x ≠ 59 → x ≠ 61 → x ≠ 63 → (uI (uI (uI (cS (uI I 1 5 v1) 0) 61 0 0) 63 4 v1) 61 1 0) x = I x := fun x a b c d f => by rw [uIn d, uIn f, uIn d, cS_o a c, uIn b]
        have e1 : (uI (uI (uI (cS (uI I 1 5 v1) 0) 61 0 0) 63 4 v1) 61 1 0) 1 = up (I 1) 5 v1 := by rw [uIn (by decide), uIn (by decide), uIn (by decide), cS_o (by decide) (by decide), uIe]
        have e63 : (uI (uI (uI (cS (uI I 1 5 v1) 0) 61 0 0) 63 4 v1) 61 1 0) 63 = up (I 63) 4 v1 := by rw [uIn (by decide), uIe, uIn (by decide), cS_o (by decide) (by decide), uIn (by decide)]
        have e61 : (uI (uI (uI (cS (uI I 1 5 v1) 0) 61 0 0) 63 4 v1) 61 1 0) 61 = up (up (I 61) 0 0) 1 0 := by rw [uIe, uIn (by decide), uIe, cS_o (by decide) (by decide), uIn (by decide)]
        have e0 : (uI (uI (uI (cS (uI I 1 5 v1) 0) 61 0 0) 63 4 v1) 61 1 0) 0 = up (I 0) 18 (stv 0) := by rw [uIn (by decide), uIn (by decide), uIn (by decide), cS_0, uIn (by decide)]
        have e59 : (uI (uI (uI (cS (uI I 1 5 v1) 0) 61 0 0) 63 4 v1) 61 1 0) 59 = rfv (I 59) 0 := by rw [uIn (by decide), uIn (by decide), uIn (by decide), cS_59, uIn (by decide)]
        generalize (uI (uI (uI (cS (uI I 1 5 v1) 0) 61 0 0) 63 4 v1) 61 1 0) = X at *
        have hr : ∀ j, j ≠ 4 → X 63 j = I 63 j := fun j hj => by rw [e63]; exact upn hj
        have e89 : ∀ x, 89 ≤ x → X x = I x := fun x hx => e x (by omega) (by omega) (by omega) (by omega) (by omega)
        have hR : RSt S X 1 (X 63) := by
          obtain ⟨⟨a1, a2, a3, a4, a5⟩, h2, h3, h4, h5, ⟨⟨k0, k1, k2, k3, k4, k5, k6, k7, k8⟩, kL, kV, kB, kG⟩, h7⟩ := h.2.1
          refine ⟨⟨?_, ?_, ?_, ?_, ?_⟩, ?_, ?_, ?_, ?_, ⟨⟨?_, ?_, ?_, ?_, ?_, ?_, ?_, ?_, ?_⟩, kL.r (fun k q1 q2 => hr k (by omega)), kV.r (hr 1 (by omega)) (fun k q1 q2 => hr k (by omega)) (fun k q => hr (9 + k) (by omega)), kB.r (fun k q1 q2 => hr k (by omega)), kG.r (hr 1 (by omega)) (hr 2 (by omega)) (fun k q1 q2 => hr k (by omega)) (KR.le8 h.2.1.2.2.2.2.2.1.1)⟩, (h7.I e89).r (hr 3 (by omega)) (fun k q => hr k (by omega))⟩
          · rw [e1, hr 3 (by omega)]; rw [upn (by decide)]; exact a1
          · rw [e1, e63, upe, upe]
          · show X 2 0 = _; rw [e 2 (by decide) (by decide) (by decide) (by decide) (by decide), hr 0 (by omega)]; exact a3
          · show X 7 0 = _; rw [e 7 (by decide) (by decide) (by decide) (by decide) (by decide), hr 1 (by omega)]; exact a4
          · show X 7 5 = _; rw [e 7 (by decide) (by decide) (by decide) (by decide) (by decide), hr 2 (by omega)]; exact a5
          · show RLd (X 3) (X 4) (X 5) (X 6) _
            rw [e 3 (by decide) (by decide) (by decide) (by decide) (by decide), e 4 (by decide) (by decide) (by decide) (by decide) (by decide), e 5 (by decide) (by decide) (by decide) (by decide) (by decide), e 6 (by decide) (by decide) (by decide) (by decide) (by decide)]
            exact h2.r (fun k q1 q2 => hr k (by omega))
          · show RB (X 8) (X 9) (X 10) (X 11) _
            rw [e 8 (by decide) (by decide) (by decide) (by decide) (by decide), e 9 (by decide) (by decide) (by decide) (by decide) (by decide), e 10 (by decide) (by decide) (by decide) (by decide) (by decide), e 11 (by decide) (by decide) (by decide) (by decide) (by decide)]
            exact h3.r (fun k q1 q2 => hr k (by omega))
          · show RG (X 12) (X 13) (X 14) _
            rw [e 12 (by decide) (by decide) (by decide) (by decide) (by decide), e 13 (by decide) (by decide) (by decide) (by decide) (by decide), e 14 (by decide) (by decide) (by decide) (by decide) (by decide)]
            exact h4.r (fun k q1 q2 => hr k (by omega))
          · show RT (X 15) _
            rw [e 15 (by decide) (by decide) (by decide) (by decide) (by decide)]
            exact h5.r (fun k q1 q2 => hr k (by omega))
          · rw [hr 0 (by omega)]; exact k0
          · rw [hr 1 (by omega)]; exact k1
          · rw [hr 2 (by omega)]; exact k2
          · rw [hr 3 (by omega)]; exact k3
          · rw [hr 3 (by omega), e63, upe, h63]; omega
          · rw [hr 5 (by omega)]; exact k5
          · rw [hr 6 (by omega)]; exact k6
          · rw [hr 7 (by omega)]; exact k7
          · rw [hr 8 (by omega)]; exact k8
        refine h.mk2 (v := 0) (fun x hx => e x ?_ ?_ ?_ ?_ ?_) e89 e0 e59 (by rw [rfv_n (by decide)]; exact e 62 (by decide) (by decide) (by decide) (by decide) (by decide)) (fun y hy => ?_) (by rw [e61, upe]; decide) hR (hr 0 (by omega)) (hr 1 (by omega)) (fun j hj _ => hr j (by omega)) (fun j hj _ => hr j (by omega))
        · intro q; subst q; revert hx; decide
        · intro q; subst q; revert hx; decide
        · intro q; subst q; revert hx; decide
        · intro q; subst q; revert hx; decide
        · intro q; subst q; revert hx; decide
        · rw [e61, upn (fun q => by subst q; revert hy; decide), upn (fun q => by subst q; revert hy; decide)]
    unfold F12_force
    refine ⟨fun _ => fin, fun q => ⟨fun q2 => ?_, fun _ => fin⟩⟩
    exfalso
    have e3 : (uI (cS (uI I 1 5 v1) 0) 61 0 0) 63 3 = I 63 3 := by rw [uIn (by decide), cS_o (by decide) (by decide), uIn (by decide)]
    rw [e3, mi0, hs2, Int32.toInt_toInt64] at q2
    have q2 : ¬ (0 ≤ v1.toInt ∧ v1.toInt ≤ w - 1) := q2
    have : v1.toInt = -1 := by omega
    exact q (Int32.toInt_inj.mp this)
  · rw [wi0, hs] at c
    have c : ¬ (-1 ≤ v1.toInt ∧ v1.toInt ≤ w - 1) := c
    refine sp_settle h.1.l59 (by decide) ?_
    show F12_force n S _ J v1 (fun y I2 J2 => -2 = y ∧ Inv S I2 J2)
    unfold F12_force F12_force_43
    refine ⟨fun q => ?_, fun q => ⟨fun _ => h.no (by decide), fun q2 => ?_⟩⟩
    · exfalso
      subst q
      have : (-1 : Int32).toInt = -1 := by decide
      rw [this] at c
      omega
    · exfalso
      have e3 : (uI (cS I (-2)) 61 0 0) 63 3 = I 63 3 := by rw [uIn (by decide), cS_o (by decide) (by decide)]
      rw [e3, mi1, hs2, Int32.toInt_toInt64] at q2
      have q2 : 0 ≤ v1.toInt ∧ v1.toInt ≤ w - 1 := q2
      omega
end US
