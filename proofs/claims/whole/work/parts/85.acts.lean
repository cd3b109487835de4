/-! the six acts, by both -/
theorem Inv.mkG2 {S : tSH} {I X : tHI} {J : tHJ} (h : Inv S I J) (e : ∀ x, x ∈ [38, 39, 64, 65, 70] → X x = I x) (e49 : ∀ y, y ∈ [8, 9, 10] → X 49 y = I 49 y) (e50 : ∀ y, y < 6 → X 50 y = I 50 y) (e89 : ∀ x, 89 ≤ x → X x = I x) (e61 : ∀ y, y ∈ [13, 20, 41] → X 61 y = I 61 y) (hM : RMs X) (hR : RSt S X 1 (X 63)) (hH : RH (X 34) (X 35) (X 61) (X 66) (X 67) (X 63)) : Inv S X J := by
  obtain ⟨h1, h2, h3, h4, h5, h6, h7⟩ := h
  refine ⟨h1, hR, hH, ?_, h5.cg (e 64 (by decide)) (e 65 (by decide)) e89, hM, h7.cg (e61 20 (by decide)) (e61 41 (by decide)) e49 e50 (KpJ.rf J)⟩
  rw [e 38 (by decide), e 39 (by decide), e 70 (by decide)]
  exact h4.f (e61 13 (by decide))
section ACS
variable {n : Nat} {S : tSH} {I : tHI} {J : tHJ}
theorem whyA_v {r : Nat → Int32} {N kd : Nat} {a b : Int32} : whyA S I r N kd a b = 0 ∨ whyA S I r N kd a b = -1 ∨ whyA S I r N kd a b = -2 ∨ whyA S I r N kd a b = -3 := by
  unfold whyA
  repeat' split
  all_goals simp
theorem howA_I {r : Nat → Int32} {I' : tHI} {N : Nat} (h : FO S I r) (e1 : I' 1 = I 1) (e89 : ∀ x, 89 ≤ x → I' x = I x) : howA S I' r N = howA S I r N := aO_I h e1 e89
theorem lrnA_I {r : Nat → Int32} {I' : tHI} {N : Nat} (h : FO S I r) (e1 : I' 1 = I 1) (e89 : ∀ x, 89 ≤ x → I' x = I x) : lrnA S I' r N = lrnA S I r N := aT_I h e1 e89
theorem stepA_I {r : Nat → Int32} {I' : tHI} {N kd : Nat} {a b : Int32} (h : FO S I r) (e1 : I' 1 = I 1) (e89 : ∀ x, 89 ≤ x → I' x = I x) : stepA S I' r N kd a b = stepA S I r N kd a b := by
  unfold stepA rideA
  rw [howA_I h e1 e89, lrnA_I h e1 e89]
theorem ansA_I {r : Nat → Int32} {I' : tHI} {N kd : Nat} {a b : Int32} (h : FO S I r) (e1 : I' 1 = I 1) (e89 : ∀ x, 89 ≤ x → I' x = I x) : ansA S I' r N kd a b = ansA S I r N kd a b := by
  unfold ansA
  rw [howA_I h e1 e89]
theorem aO_nn {r : Nat → Int32} {b : Nat} {W : Nat → Int32} {v : Int32} : 0 ≤ (aO S I r b W v).toInt := by
  unfold aO V12_goesBy
  repeat' split
  all_goals decide
theorem ansA_nn {r : Nat → Int32} (hK : RK r) {N kd : Nat} (hN6 : N ≤ 6) {a b : Int32} (hw : whyA S I r N kd a b = 0) : 0 ≤ (ansA S I r N kd a b).toInt := by
  obtain ⟨p, p1, p2⟩ := hK.2.2.1.2.1
  have p1 : r 10 = nI p := p1
  unfold ansA
  unfold whyA at hw
  by_cases k0 : kd = 0
  · rw [if_pos k0] at hw ⊢
    by_cases c : 1 ≤ a.toInt ∧ a.toInt ≤ (r 5).toInt
    · obtain ⟨g, g1, g2, g3⟩ := hK.1.2.2.2.2.2.1
      have g4 : (r 5).toInt = g := by rw [g1, qi (by omega)]
      obtain ⟨x, x1, x2⟩ := gas_r p1 p2 (a := a) (by omega)
      rw [x1, qi (by omega)]; omega
    · exfalso; rw [if_neg c] at hw; revert hw; decide
  rw [if_neg k0] at hw ⊢
  by_cases k1 : kd = 1
  · rw [if_pos k1] at hw ⊢
    by_cases c : 1 ≤ a.toInt ∧ a.toInt ≤ (r 6).toInt
    · obtain ⟨g, g1, g2, g3⟩ := hK.1.2.2.2.2.2.2.1
      have g4 : (r 6).toInt = g := by rw [g1, qi (by omega)]
      obtain ⟨x, x1, x2⟩ := brk_r p1 p2 (a := a) (by omega)
      rw [x1, qi (by omega)]; omega
    · exfalso; rw [if_neg c] at hw; revert hw; decide
  rw [if_neg k1] at hw ⊢
  by_cases k2 : kd = 2
  · rw [if_pos k2]
    obtain ⟨l, l1, l2⟩ := hK.2.2.1.2.2.1
    have l1 : r 11 = nI l := l1
    rw [l1, qi (by omega)]; omega
  rw [if_neg k2] at hw ⊢
  by_cases k3 : kd = 3
  · rw [if_pos k3] at hw ⊢
    by_cases c : 0 ≤ b.toInt ∧ b.toInt ≤ 3
    · rw [if_pos c] at hw
      by_cases d : 0 ≤ a.toInt ∧ a.toInt < (N : Int)
      · obtain ⟨i, rfl, i2, i3⟩ := nat_of d.1 d.2
        obtain ⟨q, q1, q2⟩ := (hK.2.2.1.2.2.2.2 i (by omega)).1
        have q1 : r (9 + (5 + i)) = nI q := q1
        rw [qn i3, show 14 + i = 9 + (5 + i) by omega, q1, qi (by omega)]; omega
      · exfalso; rw [if_neg d] at hw; revert hw; decide
    · exfalso; rw [if_neg c] at hw; revert hw; decide
  rw [if_neg k3] at hw ⊢
  by_cases k4 : kd = 4
  · rw [if_pos k4] at hw ⊢
    by_cases c : -2 ≤ b.toInt ∧ b.toInt ≤ 2
    · rw [if_pos c] at hw
      by_cases d : 0 ≤ a.toInt ∧ a.toInt < (N : Int)
      · obtain ⟨i, rfl, i2, i3⟩ := nat_of d.1 d.2
        have q := hK.le i (by omega)
        rw [qn i3, ti_add (by rw [show (2 : Int32).toInt = 2 from rfl]; omega) (by rw [show (2 : Int32).toInt = 2 from rfl]; omega), show (2 : Int32).toInt = 2 from rfl]; omega
      · exfalso; rw [if_neg d] at hw; revert hw; decide
    · exfalso; rw [if_neg c] at hw; revert hw; decide
  rw [if_neg k4]
  exact aO_nn
theorem act_step (hn : 400 < n) (h : Inv S I J) {kd : Nat} (hkd : kd ≤ 5) {a b : Int32} {M : tHI → tHJ → (Int32 → tHI → tHJ → Prop) → Prop} (hM : ∀ (X : tHI) (J' : tHJ) (N B q : Nat) (k : Int32 → tHI → tHJ → Prop), MQB S X N B → RK (X 63) → X 61 41 = 63 → q ≤ 16 → X 61 8 = nI q → MNo S X J' N kd a b k → MYes S X J' N q kd a b k → M X J' k) : F11_act n S I J (nI kd) a b (fun x I1 J1 => F11_settle n S I1 J1 x (fun x2 I2 J2 => M (uI I2 61 0 0) J2 (fun y I3 J3 => F12_tell n S I3 J3 y (fun y' I4 J4 => x2 = y' ∧ Inv S I4 J4)))) := by
  obtain ⟨N, B, n1, n2, b1, b2, c63, hMQ⟩ := h.mq
  obtain ⟨hc, hc16, h34, h61, H⟩ := h.2.2.1
  have H : HRs hc (I 35) (I 66) (I 67) (I 63) := H
  have hR := h.2.1
  have hFO : FO S I (I 63) := FO.of hR
  have hRK := hR.2.2.2.2.2.1
  refine sp_act h.1 hn hR n1 n2 h.2.2.2.2.2.2.2.1 h.2.2.2.2.2.2.2.2.1 hc16 h34 H hkd (fun X J' hz cb cj => ?_) (fun X J' hz ca cj hRX x34 hHX => ?_)
  · have hv : -7 < (whyA S I (I 63) N kd a b).toInt ∧ (whyA S I (I 63) N kd a b).toInt < 0 := by
      rcases whyA_v (S := S) (I := I) (r := I 63) (N := N) (kd := kd) (a := a) (b := b) with g | g | g | g
      · exact absurd g hz
      · rw [g]; decide
      · rw [g]; decide
      · rw [g]; decide
    have hI2 : Inv S X J' := h.keep ⟨fun x hx => cb.1 x (by omega) (by omega), fun x hx => cb.1 x (fun q => by subst q; revert hx; decide) (fun q => by subst q; revert hx; decide), fun y _ => by rw [cb.1 0 (by decide) (by decide)], fun y _ => by rw [cb.1 61 (by decide) (by decide)], by rw [cb.1 40 (by decide) (by decide)], cb.2.1, cb.2.2, fun y _ => by rw [cb.1 66 (by decide) (by decide)]⟩ (KpJ.c cj)
    generalize hvv : whyA S I (I 63) N kd a b = v at *
    refine sp_settle h.1.l59 hv.1 ?_
    have i0 : ∀ x, x ≠ 0 → x ≠ 59 → x ≠ 61 → x ≠ 49 → x ≠ 50 → (uI (cS X v) 61 0 0) x = I x := fun x p q s t u => by rw [uIn s, cS_o p q, cb.1 x t u]
    have i61 : ∀ y, y ≠ 0 → (uI (cS X v) 61 0 0) 61 y = I 61 y := fun y hy => by rw [uIe, upn hy, cS_o (by decide) (by decide), cb.1 61 (by decide) (by decide)]
    have e63 := i0 63 (by decide) (by decide) (by decide) (by decide) (by decide)
    have e1 := i0 1 (by decide) (by decide) (by decide) (by decide) (by decide)
    have e89 : ∀ x, 89 ≤ x → (uI (cS X v) 61 0 0) x = I x := fun x hx => i0 x (by omega) (by omega) (by omega) (by omega) (by omega)
    have hy : whyA S (uI (cS X v) 61 0 0) ((uI (cS X v) 61 0 0) 63) N kd a b = v := by rw [e63, whyA_I hFO e1 e89, hvv]
    refine hM _ J' N B hc _ (hMQ.cg2 (i61 20 (by decide)) (i61 41 (by decide)) e63 e1 e89) (by rw [e63]; exact hRK) (by rw [i61 41 (by decide)]; exact c63) hc16 (by rw [i61 8 (by decide)]; exact h61) (fun X' J2 _ z1 z2 => ?_) (fun X' J2 q => ?_)
    · rw [hy]
      exact sp_tell hv.1 ⟨rfl, hI2.noM hv.2 z1 z2⟩
    · exfalso
      rw [hy] at q
      exact hz q
  · have hw := ansA_nn (S := S) (I := I) hRK n2 hz
    generalize hww : ansA S I (I 63) N kd a b = w at *
    refine sp_settle h.1.l59 (by omega) ?_
    rw [cS_p hw]
    obtain ⟨ca1, ca2, ca3⟩ := ca
    have i0 : ∀ x, x ≠ 0 → x ≠ 4 → x ≠ 6 → x ≠ 15 → x ≠ 34 → x ≠ 35 → x ≠ 61 → x ≠ 49 → x ≠ 50 → (uI (uI X 0 18 0) 61 0 0) x = I x := fun x p p4 p6 p15 p34 p35 s t u => by rw [uIn s, uIn p, ca1 x p4 p6 p15 p34 p35 t u]
    have i61 : ∀ y, y ≠ 0 → (uI (uI X 0 18 0) 61 0 0) 61 y = I 61 y := fun y hy => by rw [uIe, upn hy, uIn (by decide), ca1 61 (by decide) (by decide) (by decide) (by decide) (by decide) (by decide) (by decide)]
    have e63 : (uI (uI X 0 18 0) 61 0 0) 63 = I 63 := i0 63 (by decide) (by decide) (by decide) (by decide) (by decide) (by decide) (by decide) (by decide) (by decide)
    have e1 : (uI (uI X 0 18 0) 61 0 0) 1 = I 1 := i0 1 (by decide) (by decide) (by decide) (by decide) (by decide) (by decide) (by decide) (by decide) (by decide)
    have e89 : ∀ x, 89 ≤ x → (uI (uI X 0 18 0) 61 0 0) x = I x := fun x hx => i0 x (by omega) (by omega) (by omega) (by omega) (by omega) (by omega) (by omega) (by omega) (by omega)
    have e66 : (uI (uI X 0 18 0) 61 0 0) 66 = I 66 := i0 66 (by decide) (by decide) (by decide) (by decide) (by decide) (by decide) (by decide) (by decide) (by decide)
    have e67 : (uI (uI X 0 18 0) 61 0 0) 67 = I 67 := i0 67 (by decide) (by decide) (by decide) (by decide) (by decide) (by decide) (by decide) (by decide) (by decide)
    have hy : whyA S (uI (uI X 0 18 0) 61 0 0) ((uI (uI X 0 18 0) 61 0 0) 63) N kd a b = 0 := by rw [e63, whyA_I hFO e1 e89, hz]
    refine hM _ J' N B hc _ (hMQ.cg2 (i61 20 (by decide)) (i61 41 (by decide)) e63 e1 e89) (by rw [e63]; exact hRK) (by rw [i61 41 (by decide)]; exact c63) hc16 (by rw [i61 8 (by decide)]; exact h61) (fun X' J2 q => absurd hy q) (fun X' J2 _ ma z2 x8 x63 gp => ?_)
    have ea : ansA S (uI (uI X 0 18 0) 61 0 0) ((uI (uI X 0 18 0) 61 0 0) 63) N kd a b = w := by rw [e63, ansA_I hFO e1 e89, hww]
    rw [ea]
    refine sp_tell (by omega) ?_
    rw [mS_p hw]
    refine ⟨rfl, ?_⟩
    have hJ : Inv S I J2 := h.keep (KpI.rf I) ((KpJ.c cj).trans (KpJ.m z2))
    rw [e63, stepA_I hFO e1 e89] at x63
    rw [e66, e67, e63] at gp
    have m0 : ∀ x, x ≠ 61 → x ≠ 63 → x ≠ 66 → x ≠ 67 → x ≠ 0 → (uI X' 61 1 0) x = X x := fun x p q s t u => by rw [uIn p, ma.1 x p q s t, uIn p, uIn u]
    have m61 : ∀ y, y ∉ [0, 1, 8, 34, 38, 42, 43, 44] → (uI X' 61 1 0) 61 y = I 61 y := fun y hy => by
      rw [uIe, upn (fun q => hy (by subst q; decide)), ma.2 y (fun q => hy (List.mem_cons_of_mem _ (List.mem_cons_of_mem _ q))), i61 y (fun q => hy (by subst q; decide))]
    have mm : ∀ x, x ≠ 61 → x ≠ 63 → x ≠ 66 → x ≠ 67 → x ≠ 0 → x ≠ 4 → x ≠ 6 → x ≠ 15 → x ≠ 34 → x ≠ 35 → x ≠ 49 → x ≠ 50 → (uI X' 61 1 0) x = I x := fun x p q s t u p4 p6 p15 p34 p35 v1 v2 => by rw [m0 x p q s t u, ca1 x p4 p6 p15 p34 p35 v1 v2]
    have hMs : RMs (uI X' 61 1 0) := h.2.2.2.2.2.1.st (v := 0) (fun x hx => mm x (fun q => by subst q; revert hx; decide) (fun q => by subst q; revert hx; decide) (fun q => by subst q; revert hx; decide) (fun q => by subst q; revert hx; decide) (fun q => by subst q; revert hx; decide) (fun q => by subst q; revert hx; decide) (fun q => by subst q; revert hx; decide) (fun q => by subst q; revert hx; decide) (fun q => by subst q; revert hx; decide) (fun q => by subst q; revert hx; decide) (fun q => by subst q; revert hx; decide) (fun q => by subst q; revert hx; decide)) (by rw [uIn (by decide), ma.1 0 (by decide) (by decide) (by decide) (by decide), uIn (by decide), uIe, ca1 0 (by decide) (by decide) (by decide) (by decide) (by decide) (by decide) (by decide)]; rfl) (by rw [mm 59 (by decide) (by decide) (by decide) (by decide) (by decide) (by decide) (by decide) (by decide) (by decide) (by decide) (by decide) (by decide), rfv_n (by decide)]) (by rw [mm 62 (by decide) (by decide) (by decide) (by decide) (by decide) (by decide) (by decide) (by decide) (by decide) (by decide) (by decide) (by decide), rfv_n (by decide)]) (fun y hy => m61 y (fun q => by
      have : y = 11 ∨ y = 18 ∨ y = 53 ∨ y = 57 := by simpa using hy
      rcases this with g | g | g | g <;> subst g <;> revert q <;> decide)) (by rw [uIe, upe]; rfl)
    have w63 : (uI X' 61 1 0) 63 = stepA S I (I 63) N kd a b := by rw [uIn (by decide), x63]
    refine hJ.mkG2 (fun x hx => mm x (fun q => by subst q; revert hx; decide) (fun q => by subst q; revert hx; decide) (fun q => by subst q; revert hx; decide) (fun q => by subst q; revert hx; decide) (fun q => by subst q; revert hx; decide) (fun q => by subst q; revert hx; decide) (fun q => by subst q; revert hx; decide) (fun q => by subst q; revert hx; decide) (fun q => by subst q; revert hx; decide) (fun q => by subst q; revert hx; decide) (fun q => by subst q; revert hx; decide) (fun q => by subst q; revert hx; decide)) (fun y hy => by rw [m0 49 (by decide) (by decide) (by decide) (by decide) (by decide)]; exact ca2 y hy) (fun y hy => by rw [m0 50 (by decide) (by decide) (by decide) (by decide) (by decide)]; exact ca3 y hy) (fun x hx => mm x (by omega) (by omega) (by omega) (by omega) (by omega) (by omega) (by omega) (by omega) (by omega) (by omega) (by omega) (by omega)) (fun y hy => m61 y (fun q => by
      have : y = 13 ∨ y = 20 ∨ y = 41 := by simpa using hy
      rcases this with g | g | g <;> subst g <;> revert q <;> decide)) hMs ?_ ?_
    · rw [w63]
      exact hRX.cg (fun i hi => m0 _ (by omega) (by omega) (by omega) (by omega) (by omega)) (fun x hx => m0 x (by omega) (by omega) (by omega) (by omega) (by omega))
    · rw [w63, m0 34 (by decide) (by decide) (by decide) (by decide) (by decide), m0 35 (by decide) (by decide) (by decide) (by decide) (by decide), uIn (show (66 : Nat) ≠ 61 by decide), uIn (show (67 : Nat) ≠ 61 by decide)]
      exact ⟨hp hc + 1, by have := hp_le hc16; omega, x34, by rw [uIe, upn (by decide)]; exact x8, hHX (X' 66) (X' 67) gp⟩
theorem st_gas (hn : 400 < n) : tSt_gas n Inv := fun S I J v1 h => act_step (kd := 0) (M := fun X J' k => F12_gasNow n S X J' v1 k) hn h (by omega) (fun X J' N B q k m1 m2 m3 m4 m5 m6 m7 => sp_gasM hn m2 m4 m5 m6 m7)
theorem st_brake (hn : 400 < n) : tSt_brake n Inv := fun S I J v1 h => act_step (kd := 1) (M := fun X J' k => F12_brakeNow n S X J' v1 k) hn h (by omega) (fun X J' N B q k m1 m2 m3 m4 m5 m6 m7 => sp_brakeM hn m2 m4 m5 m6 m7)
theorem st_lane (hn : 400 < n) : tSt_lane n Inv := fun S I J v1 h => act_step (kd := 2) (M := fun X J' k => F12_laneNow n S X J' v1 k) hn h (by omega) (fun X J' N B q k m1 m2 m3 m4 m5 m6 m7 => sp_laneM hn m2 m4 m5 m6 m7)
theorem st_put (hn : 400 < n) : tSt_put n Inv := fun S I J v1 v2 h => act_step (kd := 3) (M := fun X J' k => F12_putNow n S X J' v1 v2 k) hn h (by omega) (fun X J' N B q k m1 m2 m3 m4 m5 m6 m7 => sp_putM hn m1 m3 m4 m5 m6 m7)
theorem st_lean (hn : 400 < n) : tSt_lean n Inv := fun S I J v1 v2 h => act_step (kd := 4) (M := fun X J' k => F12_leanNow n S X J' v1 v2 k) hn h (by omega) (fun X J' N B q k m1 m2 m3 m4 m5 m6 m7 => sp_leanM hn m2 m1.1.2.1 m1.1.2.2.1 m4 m5 m6 m7)
theorem st_ride (hn : 400 < n) : tSt_ride n Inv := fun S I J h => act_step (kd := 5) (a := 0) (b := 0) (M := fun X J' k => F12_rideNow n S X J' k) hn h (by omega) (fun X J' N B q k m1 m2 m3 m4 m5 m6 m7 => sp_rideM hn m1 m2 m3 m4 m5 m6 m7)
end ACS
