/-! days, III -/
section DY3
variable {n : Nat} {S : tSH} {I : tHI} {J : tHJ} {r : Nat → Int32} {N B : Nat}
theorem dR_dg {s0 : Int64} : ∀ k, DG r (dR S I r N s0 k) := by
  intro k
  induction k with
  | zero => exact fun _ _ _ _ _ => rfl
  | succ k ih => exact ih.u10.ride
theorem dR_I {X : tHI} {s0 : Int64} (h : FO S I r) (e1 : X 1 = I 1) (e89 : ∀ x, 89 ≤ x → X x = I x) : ∀ k, dR S X r N s0 k = dR S I r N s0 k := by
  intro k
  induction k with
  | zero => rfl
  | succ k ih =>
    show rideA S X (up (dR S X r N s0 k) 10 (pcS (dR S X r N s0 k 10) (drw (r 5 + r 6 + 1) (sdS s0 (k + 1))) (r 6))) N = rideA S I (up (dR S I r N s0 k) 10 (pcS (dR S I r N s0 k 10) (drw (r 5 + r 6 + 1) (sdS s0 (k + 1))) (r 6))) N
    rw [ih]
    exact rideA_I (h.dg (dR_dg k).u10) e1 e89
theorem wlS_I {X : tHI} {s0 : Int64} (h : FO S I r) (e1 : X 1 = I 1) (e89 : ∀ x, 89 ≤ x → X x = I x) : ∀ k, wlS S X r N s0 k = wlS S I r N s0 k := by
  intro k
  induction k with
  | zero => rfl
  | succ k ih =>
    show wlS S X r N s0 k + (if howA S X (up (dR S X r N s0 k) 10 (pcS (dR S X r N s0 k 10) (drw (r 5 + r 6 + 1) (sdS s0 (k + 1))) (r 6))) N = 0 then 1 else 0) = wlS S I r N s0 k + (if howA S I (up (dR S I r N s0 k) 10 (pcS (dR S I r N s0 k 10) (drw (r 5 + r 6 + 1) (sdS s0 (k + 1))) (r 6))) N = 0 then 1 else 0)
    rw [ih, dR_I h e1 e89, howA_I (h.dg (dR_dg k).u10) e1 e89]
theorem sp_copy60 {k : tHI → tHJ → Prop} (hk : ∀ X : tHI, (∀ x, x ≠ 60 → X x = I x) → (∀ y, y < 9 → X 60 y = I 15 y) → k X J) : F10_copyFrom n S I J 60 15 k := by
  unfold F10_copyFrom
  simp only [show ∀ (X : tHI) (j : Nat) (v : Int32), (uI X 60 j v) 15 = X 15 from fun X j v => uIn (by decide)]
  refine hk _ (fun x hx => by simp only [uIn hx]) (fun y hy => ?_)
  simp only [uIe]
  have : y = 0 ∨ y = 1 ∨ y = 2 ∨ y = 3 ∨ y = 4 ∨ y = 5 ∨ y = 6 ∨ y = 7 ∨ y = 8 := by omega
  rcases this with g | g | g | g | g | g | g | g | g <;> subst g <;> simp [up]
theorem Wat7 {r : Nat → Int32} : Wat (WM 63 r N) 7 (r 13) = WM 63 r N := by
  funext a
  unfold Wat
  by_cases c : a = 7
  · subst c; rfl
  · rw [if_neg c]
/-- the invariant after drawn days -/
theorem Inv.drawn {S : tSH} {I X : tHI} {J J' : tHJ} (h : Inv S I J) (e : ∀ x, x ∈ [1, 2, 3, 4, 5, 6, 7, 8, 9, 10, 11, 12, 13, 14, 15, 34, 35, 38, 39, 40, 59, 62, 63, 64, 65, 67, 70] → X x = I x) (e49 : ∀ y, y ∈ [8, 9, 10] → X 49 y = I 49 y) (e50 : ∀ y, y < 6 → X 50 y = I 50 y) (e89 : ∀ x, 89 ≤ x → X x = I x) (e66 : ∀ y, y < 272 → X 66 y = I 66 y) (e0 : ∀ y, y ∈ [16, 17] → X 0 y = I 0 y) (e61 : ∀ y, y ∈ [8, 11, 13, 18, 20, 41, 53] → X 61 y = I 61 y) (a1 : X 0 18 = X 61 1) (a2 : ¬ X 0 13 = 0) (a3 : ¬ X 61 57 = 0) (a4 : X 60 2 = X 88 0) (a5 : X 60 3 = X 88 1) (a6 : X 60 4 = X 88 2) (a7 : X 60 5 = X 88 3) (hJ : KpJ J J') : Inv S X J' := by
  have hM : RMs X := by
    obtain ⟨⟨m1, m2, m3, m4⟩, ⟨p1, p2, p3, p4, p5⟩, m6⟩ := h.2.2.2.2.2.1
    refine ⟨⟨?_, ?_, ?_, a1⟩, ?_, Or.inr ⟨a2, a3, a4, a5, a6, a7⟩⟩
    · rw [e 40 (by decide), e61 18 (by decide)]; exact m1
    · rw [e0 16 (by decide), e61 53 (by decide)]; exact m2
    · rw [e0 17 (by decide), e61 11 (by decide)]; exact m3
    · rw [e 59 (by decide), e 62 (by decide)]; exact ⟨p1, p2, p3, p4, p5⟩
  have hR : RSt S X 1 (X 63) := by
    rw [e 63 (by decide)]
    refine h.2.1.cg (fun i hi => e (1 + i) ?_) e89
    have : 1 + i = 1 ∨ 1 + i = 2 ∨ 1 + i = 3 ∨ 1 + i = 4 ∨ 1 + i = 5 ∨ 1 + i = 6 ∨ 1 + i = 7 ∨ 1 + i = 8 ∨ 1 + i = 9 ∨ 1 + i = 10 ∨ 1 + i = 11 ∨ 1 + i = 12 ∨ 1 + i = 13 ∨ 1 + i = 14 ∨ 1 + i = 15 := by omega
    rcases this with g | g | g | g | g | g | g | g | g | g | g | g | g | g | g <;> rw [g] <;> decide
  have hH : RH (X 34) (X 35) (X 61) (X 66) (X 67) (X 63) := by
    rw [e 34 (by decide), e 35 (by decide), e 67 (by decide), e 63 (by decide)]
    obtain ⟨z, z1, z2, z3, z4⟩ := h.2.2.1
    exact ⟨z, z1, z2, by rw [e61 8 (by decide)]; exact z3, fun k hk => (z4 k hk).cg hk z1 e66⟩
  have key := h.mkG2 (X := X) (fun x hx => e x (by
    have : x = 38 ∨ x = 39 ∨ x = 64 ∨ x = 65 ∨ x = 70 := by simpa using hx
    rcases this with g | g | g | g | g <;> subst g <;> decide)) e49 e50 e89 (fun y hy => e61 y (by
    have : y = 13 ∨ y = 20 ∨ y = 41 := by simpa using hy
    rcases this with g | g | g <;> subst g <;> decide)) hM hR hH
  exact key.keep (KpI.rf X) hJ
theorem st_days (hn : 400 < n) : tSt_days n Inv := by
  intro S I J v1 v2 h
  obtain ⟨N, B, n1, n2, b1, b2, c63, hM⟩ := h.mq
  have hRK := h.2.1.2.2.2.2.2.1
  have e70 : I 7 0 = nI B := by have : I 7 0 = I 63 1 := h.2.1.1.2.2.2.1; rw [this, b1]
  have hw1 : V12_in v1.toInt64 0 1000000 = V11_within v1 0 1000000 := inwi rfl rfl
  have hw2 : V12_in v2.toInt64 1 100 = V11_within v2 1 100 := inwi rfl rfl
  unfold F11_days
  refine ⟨fun c1 => ?_, fun c1 => ⟨fun c2 => ⟨fun c3 => ?_, fun c3 => ?_⟩, fun c2 => ?_⟩⟩
  · unfold F11_days_21
    refine sp_settle h.1.l59 (by decide) ?_
    show F12_days n S _ J v1 v2 (fun y I2 J2 => -1 = y ∧ Inv S I2 J2)
    unfold F12_days
    rw [hw1]
    exact ⟨fun _ => h.no (by decide), fun g => absurd c1 g⟩
  · have hB0 : 0 < B := by
      rcases Nat.eq_zero_or_pos B with g | g
      · exact absurd (by rw [e70, g]; rfl) c3
      · exact g
    obtain ⟨q, rfl, q1, q2⟩ : ∃ q, v2 = nI q ∧ 1 ≤ q ∧ q ≤ 100 := by
      have w := wi1.mp c2
      have o1 : (1 : Int32).toInt = 1 := rfl
      have o2 : (100 : Int32).toInt = 100 := rfl
      rw [o1, o2] at w
      exact ⟨_, qof (by omega), by rw [qtn]; omega, by rw [qtn]; omega⟩
    refine sp_copy60 (fun X0 p1 p2 => ?_)
    have z15 := h.2.1.2.2.2.2.1
    obtain ⟨t0, t1, t2, t3, t4, t5, t6, t7, t8⟩ : RT (I 15) (I 63) := z15
    have f1 : ∀ x, x ≠ 0 → x ≠ 60 → (uI (uI X0 60 4 0) 0 13 1) x = I x := fun x a b => by rw [uIn a, uIn b, p1 x b]
    have f60 : (uI (uI X0 60 4 0) 0 13 1) 60 = up (X0 60) 4 0 := by rw [uIn (by decide), uIe]
    have f0 : (uI (uI X0 60 4 0) 0 13 1) 0 = up (I 0) 13 1 := by rw [uIe, uIn (by decide), p1 0 (by decide)]
    generalize (uI (uI X0 60 4 0) 0 13 1) = X1 at *
    refine sp_asIt (r := I 63) (by omega) (h.2.1.cg (fun i hi => f1 _ (by omega) (by omega)) (fun x hx => f1 x (by omega) (by omega))) n1 n2 (by rw [f1 49 (by decide) (by decide)]; exact h.2.2.2.2.2.2.2.1) (fun X2 x1 x2 hQ => ?_)
    have g60 : X2 60 = up (X0 60) 4 0 := by rw [x1 60 (by decide)]; exact f60
    have e606 : X2 60 6 = I 63 5 := by rw [g60, upn (by decide), p2 6 (by decide)]; exact t6
    have e607 : X2 60 7 = I 63 6 := by rw [g60, upn (by decide), p2 7 (by decide)]; exact t7
    rw [e606, e607]
    refine day_L (S := S) (I := X2) (J := J) (r := I 63) (N := N) (B := B) (s0 := v1.toInt64) (q := q) h.1 hn hRK n1 n2 b1 hB0 b2 hQ.FO e607 q2 (fun X3 J3 y1 y2 y3 y4 y5 y6 => ?_) q n 0 X2 J (by omega) (by omega) ⟨fun _ _ _ => rfl, fun _ _ _ => rfl, fun _ _ _ _ _ => rfl⟩ (CJ.rf J) ?_ ?_ ?_ ?_ ?_
    · obtain ⟨-, -, -, hwl⟩ := dR_ok (S := S) (I := X2) (N := N) (s0 := v1.toInt64) hRK b1 hB0 b2 q
      have ev : nI q - X3 60 4 = nI (wlS S X2 (I 63) N v1.toInt64 q) := by
        rw [y6, qsub (by omega), show q - (q - wlS S X2 (I 63) N v1.toInt64 q) = wlS S X2 (I 63) N v1.toInt64 q by omega]
      have hp : 0 ≤ (nI (wlS S X2 (I 63) N v1.toInt64 q)).toInt := by rw [qi (by omega)]; omega
      rw [ev]
      refine sp_settle h.1.l59 (by omega) ?_
      rw [cS_p hp]
      -- the class's heap
      have u : ∀ x, x ≠ 0 → x ≠ 49 → x ≠ 60 → (uI X3 0 18 0) x = I x := fun x a b c => by rw [uIn a, y1.1 x b c, x1 x b, f1 x a c]
      have u0 : (uI X3 0 18 0) 0 = up (up (I 0) 13 1) 18 0 := by rw [uIe, y1.1 0 (by decide) (by decide), x1 0 (by decide), f0]
      have u49 : ∀ y, y ∈ [8, 9, 10] → (uI X3 0 18 0) 49 y = I 49 y := fun y hy => by
        have : y = 8 ∨ y = 9 ∨ y = 10 := by simpa using hy
        rw [uIn (by decide), y1.2.1 y (by omega) (by omega), x2 y hy, f1 49 (by decide) (by decide)]
      have u60 : (uI X3 0 18 0) 60 = X3 60 := uIn (by decide)
      have hX2 : ∀ x, x ≠ 0 → x ≠ 49 → x ≠ 60 → (uI X3 0 18 0) x = X2 x := fun x a b c => by rw [uIn a, y1.1 x b c]
      generalize (uI X3 0 18 0) = X4 at *
      show F12_days n S X4 J3 v1 (nI q) (fun y I2 J2 => nI (wlS S X2 (I 63) N v1.toInt64 q) = y ∧ Inv S I2 J2)
      unfold F12_days
      rw [hw1, hw2]
      have m63 : (uI X4 61 0 0) 63 = I 63 := by rw [uIn (by decide), u 63 (by decide) (by decide) (by decide)]
      rw [m63]
      refine ⟨fun g => absurd g c1, fun _ => ⟨fun _ => ⟨fun _ => ?_, fun g => ?_⟩, fun g => absurd g c2⟩⟩
      · refine sp_keepAll (q := 16) (by omega) (by omega) (fun Z z1 z2 z3 => ?_)
        have h1_1 : (uI Z 61 57 1) 1 = X2 1 := by rw [uIn (by decide), z1 1 (by decide), uIn (by decide), hX2 1 (by decide) (by decide) (by decide)]
        have h1_89 : ∀ x, 89 ≤ x → (uI Z 61 57 1) x = X2 x := fun x hx => by rw [uIn (by omega), z1 x (by omega), uIn (by omega), hX2 x (by omega) (by omega) (by omega)]
        have h1 : ∀ x, x ≠ 0 → x ≠ 49 → x ≠ 60 → x ≠ 61 → x ≠ 66 → (uI Z 61 57 1) x = I x := fun x a b c d e => by rw [uIn d, z1 x e, uIn d, u x a b c]
        have h63 : (uI Z 61 57 1) 63 = I 63 := h1 63 (by decide) (by decide) (by decide) (by decide) (by decide)
        have h61 : (uI Z 61 57 1) 61 = up (up (I 61) 0 0) 57 1 := by rw [uIe, z1 61 (by decide), uIe, u 61 (by decide) (by decide) (by decide)]
        have h66a : ∀ y, y < 272 → (uI Z 61 57 1) 66 y = I 66 y := fun y hy => by rw [uIn (by decide), z2 y (by omega), uIn (by decide), u 66 (by decide) (by decide) (by decide)]
        have h66b : ∀ i, i < 17 → (uI Z 61 57 1) 66 (17 * 16 + i) = I 63 (9 + i) := fun i hi => by rw [uIn (by decide), z3 i hi, m63]
        have h0 : (uI Z 61 57 1) 0 = up (up (I 0) 13 1) 18 0 := by rw [uIn (by decide), z1 0 (by decide), uIn (by decide), u0]
        have h49 : ∀ y, y ∈ [8, 9, 10] → (uI Z 61 57 1) 49 y = I 49 y := fun y hy => by rw [uIn (by decide), z1 49 (by decide), uIn (by decide)]; exact u49 y hy
        have h60 : (uI Z 61 57 1) 60 = X3 60 := by rw [uIn (by decide), z1 60 (by decide), uIn (by decide)]; exact u60
        generalize (uI Z 61 57 1) = X5 at *
        have hFO5 : FO S X5 (X5 63) := by rw [h63]; exact hQ.FO.cg h1_1 h1_89 rfl (fun _ _ => rfl)
        have c41 : X5 61 41 = 63 := by rw [h61, upn (by decide), upn (by decide)]; exact c63
        have hM5 : MQB S X5 N B := MQB.of (by rw [h61, upn (by decide), upn (by decide)]; exact hM.1.1) c41 (by rw [h63]; exact hRK) (by rw [h63]; exact n1) n2 (by rw [h63]; exact b1) b2 hFO5
        have hJJ : (uJ J3 61 55 v1.toInt64) 61 55 = v1.toInt64 := by rw [uJe, upJe]
        refine dayM_L (S := S) (I := X5) (J := uJ J3 61 55 v1.toInt64) (N := N) (B := B) (s0 := v1.toInt64) (q := q) hn hM5 (by rw [h63]; exact hRK) c41 hB0 q2 (fun X6 J6 w1 w2 w3 => ?_) q n 0 X5 (uJ J3 61 55 v1.toInt64) (by omega) (by omega) ⟨fun _ _ _ => rfl, fun _ _ => rfl⟩ (KpJ.rf _) rfl hJJ
        have eD : dR S X5 (X5 63) N v1.toInt64 q = dR S X2 (I 63) N v1.toInt64 q := by rw [h63]; exact dR_I hQ.FO h1_1 h1_89 q
        have eW : wlS S X5 (X5 63) N v1.toInt64 q = wlS S X2 (I 63) N v1.toInt64 q := by rw [h63]; exact wlS_I hQ.FO h1_1 h1_89 q
        rw [eD] at w3
        rw [eW]
        obtain ⟨dg, -, d12, -⟩ := dR_ok (S := S) (I := X2) (N := N) (s0 := v1.toInt64) hRK b1 hB0 b2 q
        have e512 : X5 63 12 = I 63 12 := by rw [h63]
        have k88 : (uI (uI (uI (uI X6 88 0 (X6 63 9)) 88 1 (X6 63 10)) 88 2 (X6 63 12 - X5 63 12)) 88 3 (X6 63 13)) 88 = up (up (up (up (X6 88) 0 (X6 63 9)) 1 (X6 63 10)) 2 (X6 63 12 - X5 63 12)) 3 (X6 63 13) := by rw [uIe, uIe, uIe, uIe]
        have ko : ∀ x, x ≠ 88 → (uI (uI (uI (uI X6 88 0 (X6 63 9)) 88 1 (X6 63 10)) 88 2 (X6 63 12 - X5 63 12)) 88 3 (X6 63 13)) x = X6 x := fun x hx => by rw [uIn hx, uIn hx, uIn hx, uIn hx]
        generalize (uI (uI (uI (uI X6 88 0 (X6 63 9)) 88 1 (X6 63 10)) 88 2 (X6 63 12 - X5 63 12)) 88 3 (X6 63 13)) = X7 at *
        refine sp_putBack (q := 16) (by omega) (by omega) (fun Y a b c => ?_)
        have Y63 : Y 63 = I 63 := by
          funext y
          by_cases g : y < 9 ∨ 26 ≤ y
          · rw [b y g, ko 63 (by decide), w3]
            exact dg y (by omega) (by omega) (by omega) (by omega)
          · have e := c (y - 9) (by omega)
            rw [show 9 + (y - 9) = y by omega] at e
            rw [e, ko 66 (by decide), w1.1 66 (by decide) (by decide), h66b _ (by omega), show 9 + (y - 9) = y by omega]
        refine sp_tell (by omega) ?_
        rw [mS_p hp]
        refine ⟨rfl, ?_⟩
        have W : ∀ x, x ≠ 0 → x ≠ 49 → x ≠ 60 → x ≠ 61 → x ≠ 63 → x ≠ 66 → x ≠ 88 → (uI Y 61 1 0) x = I x := fun x o1 o2 o3 o4 o5 o6 o7 => by rw [uIn o4, a x o5, ko x o7, w1.1 x o4 o5, h1 x o1 o2 o3 o4 o6]
        have W0 : (uI Y 61 1 0) 0 = up (up (I 0) 13 1) 18 0 := by rw [uIn (by decide), a 0 (by decide), ko 0 (by decide), w1.1 0 (by decide) (by decide), h0]
        have W61 : ∀ y, y ∉ [34, 38, 42, 43, 44] → (uI Y 61 1 0) 61 y = up (up (up (I 61) 0 0) 57 1) 1 0 y := fun y hy => by
          rw [uIe, a 61 (by decide), ko 61 (by decide)]
          by_cases g : y = 1
          · subst g; rw [upe, upe]
          · rw [upn g, upn g, w1.2 y hy, h61]
        have W60 : (uI Y 61 1 0) 60 = X3 60 := by rw [uIn (by decide), a 60 (by decide), ko 60 (by decide), w1.1 60 (by decide) (by decide), h60]
        have W88 : (uI Y 61 1 0) 88 = up (up (up (up (X6 88) 0 (X6 63 9)) 1 (X6 63 10)) 2 (X6 63 12 - X5 63 12)) 3 (X6 63 13) := by rw [uIn (by decide), a 88 (by decide), k88]
        refine h.drawn (fun x hx => ?_) (fun y hy => ?_) (fun y hy => ?_) (fun x hx => W x (by omega) (by omega) (by omega) (by omega) (by omega) (by omega) (by omega)) (fun y hy => ?_) (fun y hy => ?_) (fun y hy => ?_) ?_ ?_ ?_ ?_ ?_ ?_ ?_ ?_
        · by_cases g : x = 63
          · subst g; rw [uIn (by decide), Y63]
          · exact W x (fun o => by subst o; revert hx; decide) (fun o => by subst o; revert hx; decide) (fun o => by subst o; revert hx; decide) (fun o => by subst o; revert hx; decide) g (fun o => by subst o; revert hx; decide) (fun o => by subst o; revert hx; decide)
        · rw [uIn (by decide), a 49 (by decide), ko 49 (by decide), w1.1 49 (by decide) (by decide)]
          exact h49 y hy
        · rw [W 50 (by decide) (by decide) (by decide) (by decide) (by decide) (by decide) (by decide)]
        · rw [uIn (by decide), a 66 (by decide), ko 66 (by decide), w1.1 66 (by decide) (by decide)]
          exact h66a y hy
        · rw [W0, upn (fun o => by subst o; revert hy; decide), upn (fun o => by subst o; revert hy; decide)]
        · have : y = 8 ∨ y = 11 ∨ y = 13 ∨ y = 18 ∨ y = 20 ∨ y = 41 ∨ y = 53 := by simpa using hy
          rw [W61 y (fun o => by
            have : y = 34 ∨ y = 38 ∨ y = 42 ∨ y = 43 ∨ y = 44 := by simpa using o
            omega), upn (by omega), upn (by omega), upn (by omega)]
        · rw [W0, W61 1 (by decide), upe, upe]
        · rw [W0, upn (by decide), upe]; decide
        · rw [W61 57 (by decide), upn (by decide), upe]; decide
        · rw [W60, W88, upn (by decide), upn (by decide), upn (by decide), upe, w3]; exact y3
        · rw [W60, W88, upn (by decide), upn (by decide), upe, w3]; exact y4
        · rw [W60, W88, upn (by decide), upe, w3, e512, d12, y6]
          rw [Int32.add_comm, Int32.add_sub_cancel]
        · rw [W60, W88, upe, w3]; exact y5
        · intro x hx
          have : x = 76 ∨ x = 77 ∨ x = 78 ∨ x = 86 := by simpa using hx
          rw [w2 x hx, uJn (by omega)]
          exact y2 x (by omega)
      · exfalso
        rw [b1] at g
        exact absurd ((qeq (b := 0) (by omega) (by omega)).mp g) (by omega)
    · show CQ S X2 (I 63) (Wat (WM 63 (I 63) N) 7 (I 63 13))
      rw [Wat7 (N := N) (r := I 63)]
      exact hQ
    · rw [g60, upn (by decide), p2 2 (by decide)]; exact t2
    · rw [g60, upn (by decide), p2 3 (by decide)]; exact t3
    · rw [g60, upn (by decide), p2 5 (by decide)]; exact t5
    · rw [g60, upe]; rfl
  · refine sp_settle h.1.l59 (by decide) ?_
    show F12_days n S _ J v1 v2 (fun y I2 J2 => -3 = y ∧ Inv S I2 J2)
    unfold F12_days
    rw [hw1, hw2]
    have e1 : (uI (cS I (-3)) 61 0 0) 63 1 = I 7 0 := by rw [uIn (by decide), cS_o (by decide) (by decide)]; exact h.2.1.1.2.2.2.1.symm
    rw [e1]
    exact ⟨fun g => absurd g c1, fun _ => ⟨fun _ => ⟨fun g => absurd c3 g, fun _ => h.no (by decide)⟩, fun g => absurd g c2⟩⟩
  · unfold F11_days_21
    refine sp_settle h.1.l59 (by decide) ?_
    show F12_days n S _ J v1 v2 (fun y I2 J2 => -1 = y ∧ Inv S I2 J2)
    unfold F12_days
    rw [hw1, hw2]
    exact ⟨fun g => absurd g c1, fun _ => ⟨fun g => absurd c2 g, fun _ => h.no (by decide)⟩⟩
end DY3
