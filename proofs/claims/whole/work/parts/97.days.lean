/-! days: one ride, by the class on the day's trip, by the model on its row -/
section DY
variable {n : Nat} {S : tSH} {I : tHI} {J : tHJ} {r g : Nat → Int32} {N B : Nat}
theorem rideA_o {k : Nat} (h9 : k ≠ 9) (h10 : k ≠ 10) (h12 : k ≠ 12) (h13 : k ≠ 13) : rideA S I r N k = r k := by
  unfold rideA
  rw [upn h9]
  by_cases c : howA S I r N = 0
  · rw [if_pos c, upn h13]
  · rw [if_neg c, upn h10, upn h12]
theorem rideA_9 : rideA S I r N 9 = (if r 9 + 1 < r 1 then r 9 + 1 else 0) := by unfold rideA; rw [upe]
theorem rideA_10 : rideA S I r N 10 = (if howA S I r N = 0 then r 10 else 0) := by
  unfold rideA
  rw [upn (by decide)]
  by_cases c : howA S I r N = 0
  · rw [if_pos c, if_pos c, upn (by decide)]
  · rw [if_neg c, if_neg c, upe]
theorem rideA_12 : rideA S I r N 12 = (if howA S I r N = 0 then r 12 else r 12 + 1) := by
  unfold rideA
  rw [upn (by decide)]
  by_cases c : howA S I r N = 0
  · rw [if_pos c, if_pos c, upn (by decide)]
  · rw [if_neg c, if_neg c, upn (by decide), upe]
theorem rideA_13 : rideA S I r N 13 = (if howA S I r N = 0 then mn100 (r 13 + lrnA S I r N) else r 13) := by
  unfold rideA
  rw [upn (by decide)]
  by_cases c : howA S I r N = 0
  · rw [if_pos c, if_pos c, upe]; rfl
  · rw [if_neg c, if_neg c, upn (by decide), upn (by decide)]
theorem RK.at9 (hK : RK r) (hB : r 1 = nI B) (hB0 : 0 < B) (hB12 : B ≤ 12) : ∃ w, r 9 = nI w ∧ w < B := by
  obtain ⟨w, wa, wb, wc⟩ := hK.2.2.1.1
  have wa : r 9 = nI w := wa
  refine ⟨w, wa, ?_⟩
  rcases wb with q | q
  · omega
  · rw [hB, qi (by omega)] at q; omega
theorem RK.ride (hK : RK r) (hB : r 1 = nI B) (hB0 : 0 < B) (hB12 : B ≤ 12) : RK (rideA S I r N) := by
  obtain ⟨w, wa, hw⟩ := hK.at9 hB hB0 hB12
  refine hK.v (fun k hk => rideA_o (by omega) (by omega) (by omega) (by omega)) (hK.2.2.1.up (Or.inr ?_) ?_ (Or.inl (rideA_o (by decide) (by decide) (by decide) (by decide))) ?_ (fun i hi => Or.inl (rideA_o (by omega) (by omega) (by omega) (by omega))) (fun i hi => Or.inl (rideA_o (by omega) (by omega) (by omega) (by omega))))
  · show ∃ a : Nat, rideA S I r N 9 = nI a ∧ _
    rw [rideA_9, wa, hB, show nI w + 1 = nI (w + 1) from nI_add w 1]
    by_cases c : nI (w + 1) < nI B
    · rw [if_pos c]
      have := (qlt (by omega) (by omega)).mp c
      exact ⟨w + 1, rfl, Or.inr (by rw [qi (by omega)]; omega), by omega⟩
    · rw [if_neg c]; exact ⟨0, rfl, Or.inl rfl, by omega⟩
  · show rideA S I r N 10 = r 10 ∨ ∃ p, rideA S I r N 10 = nI p ∧ p ≤ 60
    rw [rideA_10]
    by_cases c : howA S I r N = 0
    · rw [if_pos c]; exact Or.inl rfl
    · rw [if_neg c]; exact Or.inr ⟨0, rfl, by omega⟩
  · show rideA S I r N 13 = r 13 ∨ ∃ s, rideA S I r N 13 = nI s ∧ s ≤ 100
    rw [rideA_13]
    by_cases c : howA S I r N = 0
    · rw [if_pos c]
      obtain ⟨sk, sk1, sk2⟩ := hK.2.2.1.2.2.2.1
      have sk1 : r 13 = nI sk := sk1
      obtain ⟨lg, lg1, lg2⟩ := (hK.2.2.2.1 w (by omega)).2.1
      obtain ⟨f, f1, f2⟩ : ∃ f, lrnA S I r N = nI f ∧ f ≤ 100 := lrn_r (by rw [wa, qn (by omega), lg1, qi (by omega)]; omega)
      rw [sk1, f1, nI_add]
      unfold mn100
      by_cases d : nI (sk + f) < 100
      · rw [if_pos d]
        have := (qlt (b := 100) (by omega) (by omega)).mp d
        exact Or.inr ⟨sk + f, rfl, by omega⟩
      · rw [if_neg d]; exact Or.inr ⟨100, rfl, by omega⟩
    · rw [if_neg c]; exact Or.inl rfl
/-- between rides: the model's heap -/
def MR (I X : tHI) : Prop := (∀ x, x ≠ 61 → x ≠ 63 → X x = I x) ∧ ∀ y, y ∉ [34, 38, 42, 43, 44] → X 61 y = I 61 y
theorem MR.mk {I X Y : tHI} (h : MR I X) (e : ∀ x, x ≠ 61 → x ≠ 63 → Y x = X x) (e2 : ∀ y, y ∉ [34, 38, 42, 43, 44] → Y 61 y = X 61 y) : MR I Y := ⟨fun x p q => by rw [e x p q, h.1 x p q], fun y hy => by rw [e2 y hy, h.2 y hy]⟩
theorem MR.k {I X Y : tHI} (h : MR I X) (z : MK X Y) : MR I Y := h.mk (fun x p _ => z.1 x p) z.2
theorem sp_rideIt {k : Int32 → tHI → tHJ → Prop} (hn : 400 < n) (hM : MQB S I N B) (hK : RK (I 63)) (c63 : I 61 41 = 63) (hB0 : 0 < B) (hk : ∀ (Y : tHI) (J' : tHJ), MR I Y → MJ J J' → Y 63 = rideA S I (I 63) N → k (howA S I (I 63) N) Y J') : F12_rideIt n S I J k := by
  have hB1 := hM.2.2.2.1
  have hB := hM.2.2.1
  have hFO : FO S I (I 63) := hM.1.2.2.2.2.2
  obtain ⟨w, wa, hwB⟩ := hK.at9 hB1 hB0 hB
  have eW : WI I N = WM 63 (I 63) N := by show WM (I 61 41) (I 63) N = _; rw [c63]
  unfold F12_rideIt
  rw [wa]
  refine sp_goesNow hn hM hwB (fun Y J2 z1 z2 => ?_)
  have eh : aO S I (I 63) w (WI I N) (I 63 10) = howA S I (I 63) N := by
    unfold howA
    rw [wa, qn (by omega), eW]
  rw [eh]
  have y63 : Y 63 = I 63 := z1.1 63 (by decide)
  have hYA : MR I Y := MR.k (I := I) (X := I) ⟨fun _ _ _ => rfl, fun _ _ => rfl⟩ z1
  unfold F12_rideIt_52
  refine ⟨fun q => ?_, fun q => ?_⟩
  · have er : rideA S I (I 63) N = up (up (up (I 63) 12 (I 63 12 + 1)) 10 0) 9 (if I 63 9 + 1 < I 63 1 then I 63 9 + 1 else 0) := by unfold rideA; rw [if_neg q]
    rw [er] at hk
    have e12 : Y 63 12 = I 63 12 := by rw [y63]
    rw [e12]
    have i1 : (uI (uI Y 63 12 (I 63 12 + 1)) 63 10 0) 63 1 = nI B := by rw [uIe, upn (by decide), uIe, upn (by decide), y63]; exact hB1
    rw [i1, nxe hwB hB]
    rw [wa, hB1] at hk
    exact hk _ J2 (hYA.mk (fun x p q => by rw [uIn q, uIn q, uIn q]) (fun y _ => by rw [uIn (by decide), uIn (by decide), uIn (by decide)])) z2 (by rw [uIe, uIe, uIe, y63])
  · have er : rideA S I (I 63) N = up (up (I 63) 13 (if I 63 13 + lrnA S I (I 63) N < 100 then I 63 13 + lrnA S I (I 63) N else 100)) 9 (if I 63 9 + 1 < I 63 1 then I 63 9 + 1 else 0) := by unfold rideA; rw [if_pos q]
    rw [er] at hk
    have hMY : MQB S Y N B := hM.cg z1
    unfold F12_learn
    refine sp_learns hn hMY.1 (by omega) (hMY.2.2.2.2 w hwB) (fun Z J3 u1 u2 => ?_)
    have eWY : WI Y N = WM 63 (I 63) N := by show WM (Y 61 41) (Y 63) N = _; rw [z1.2 41 (by decide), c63, y63]
    have el : aT S Y (Y 63) w (WI Y N) 4 = lrnA S I (I 63) N := by
      unfold lrnA
      rw [wa, qn (by omega), eWY, y63]
      exact aT_I hFO (z1.1 1 (by decide)) (fun x hx => z1.1 x (by omega))
    rw [el]
    obtain ⟨sk, sk1, sk2⟩ := hK.2.2.1.2.2.2.1
    have sk1 : I 63 13 = nI sk := sk1
    obtain ⟨lg, lg1, lg2⟩ := (hK.2.2.2.1 w (by omega)).2.1
    obtain ⟨f, f1, f2⟩ : ∃ f, lrnA S I (I 63) N = nI f ∧ f ≤ 100 := lrn_r (by rw [wa, qn (by omega), lg1, qi (by omega)]; omega)
    have e13 : Y 63 13 = nI sk := by rw [y63]; exact sk1
    rw [e13, f1, ske sk2 f2]
    rw [wa, hB1, sk1, f1] at hk
    have i1 : ∀ v, (uI Z 63 13 v) 63 1 = nI B := fun v => by rw [uIe, upn (by decide), u1.1 63 (by decide), y63]; exact hB1
    show k (howA S I (I 63) N) (uI (uI Z 63 13 (if nI sk + nI f < 100 then nI sk + nI f else 100)) 63 9 (if nI w = (uI Z 63 13 (if nI sk + nI f < 100 then nI sk + nI f else 100)) 63 1 - 1 then 0 else nI w + 1)) J3
    rw [i1, nxe hwB hB]
    exact hk _ J3 ((hYA.k u1).mk (fun x p q => by rw [uIn q, uIn q]) (fun y _ => by rw [uIn (by decide), uIn (by decide)])) (z2.trans u2) (by rw [uIe, uIe, u1.1 63 (by decide), y63])
/-- a ghost row that differs from the State's by what a day changes -/
def DG (r g : Nat → Int32) : Prop := ∀ k, k ≠ 9 → k ≠ 10 → k ≠ 12 → k ≠ 13 → g k = r k
theorem DG.ride (h : DG r g) : DG r (rideA S I g N) := fun k a b c d => by rw [rideA_o a b c d]; exact h k a b c d
theorem WM_g (h : DG r g) (hN : N ≤ 6) {a : Nat} : WM 63 g N a = Wat (WM 63 r N) 7 (g 13) a := by
  obtain ⟨s1, s2, s3⟩ := sum_cg (set := 63) (r := r) (r' := g) (fun k p q => h k (by omega) (by omega) (by omega) (by omega)) N hN
  unfold WM Wat
  rw [s1, s2, s3, h 8 (by decide) (by decide) (by decide) (by decide), h 7 (by decide) (by decide) (by decide) (by decide)]
  by_cases c : a = 7
  · subst c; rfl
  · simp [c]
theorem howA_g (h : DG r g) (hN : N ≤ 6) {w : Nat} (hw : w < 12) {v : Int32} : aO S I g w (WM 63 g N) v = aO S I r w (Wat (WM 63 r N) 7 (g 13)) v := by
  unfold aO
  rw [h (38 + 4 * w) (by omega) (by omega) (by omega) (by omega), aT_row hw (fun k p q => h k (by omega) (by omega) (by omega) (by omega)) (fun a _ _ => WM_g h hN), aT_row hw (fun k p q => h k (by omega) (by omega) (by omega) (by omega)) (fun a _ _ => WM_g h hN)]
theorem lrnA_g (h : DG r g) (hN : N ≤ 6) {w : Nat} (hw : w < 12) : aT S I g w (WM 63 g N) 4 = aT S I r w (Wat (WM 63 r N) 7 (g 13)) 4 := aT_row hw (fun k p q => h k (by omega) (by omega) (by omega) (by omega)) (fun a _ _ => WM_g h hN)
/-- the class's frame on a day -/
def CD (I X : tHI) : Prop := (∀ x, x ≠ 49 → x ≠ 60 → X x = I x) ∧ (∀ y, 3 ≤ y → y ≠ 7 → X 49 y = I 49 y) ∧ ∀ y, y ≠ 2 → y ≠ 3 → y ≠ 4 → y ≠ 5 → X 60 y = I 60 y
theorem sp_day {k : Int32 → tHI → tHJ → Prop} (hT : TY S) (hn : 400 < n) (hN : r 0 = nI N) (hN6 : N ≤ 6) (hB : r 1 = nI B) (hB0 : 0 < B) (hB12 : B ≤ 12) (hg : DG r g) (hK : RK g) (hQ : CQ S I r (Wat (WM 63 r N) 7 (g 13))) (a9 : I 60 2 = g 9) (a10 : I 60 3 = g 10) (a13 : I 60 5 = g 13) (hk : ∀ (X : tHI) (J' : tHJ), CD I X → CJ J J' → CQ S X r (Wat (WM 63 r N) 7 (rideA S I g N 13)) → X 60 2 = rideA S I g N 9 → X 60 3 = rideA S I g N 10 → X 60 5 = rideA S I g N 13 → X 60 4 = I 60 4 + (if howA S I g N = 0 then 0 else 1) → k (howA S I g N) X J') : F2_outcome n S I J (I 60 2) (I 60 3) (fun x I1 J1 => F2_drive n S I1 J1 60 x (fun I2 J2 => k x I2 J2)) := by
  have hgB : g 1 = nI B := by rw [hg 1 (by decide) (by decide) (by decide) (by decide)]; exact hB
  obtain ⟨w, wa, hw⟩ := hK.at9 hgB hB0 hB12
  obtain ⟨p, p1, p2⟩ := hK.2.2.1.2.1
  have p1 : g 10 = nI p := p1
  have hbi : (w : Int) < (r 1).toInt := by rw [hB, qi (by omega)]; omega
  have hw12 : w < 12 := by omega
  have hFO := hQ.FO
  have ho : howA S I g N = aO S I r w (Wat (WM 63 r N) 7 (g 13)) (nI p) := by
    unfold howA
    rw [wa, qn (by omega), p1]
    exact howA_g hg hN6 hw12
  rw [a9, a10, wa, p1]
  refine sp_outcome hT hn hQ (b := w) hbi p2 (fun X1 J1 y1 y2 => ?_)
  rw [← ho]
  have x60 : X1 60 = I 60 := y1.1 60 (by decide)
  have x7 : ∀ X : tHI, X 7 = I 7 → X 7 0 = g 1 := fun X e => by rw [e]; have : I 7 0 = r 1 := hQ.1.1.2.2.2.1; rw [this, hB, hgB]
  -- the end of a drive
  have fin : ∀ (Y : tHI) (J2 : tHJ) (h4 s5 p3 : Int32), (∀ x, x ≠ 49 → x ≠ 60 → Y x = I x) → (∀ y, 3 ≤ y → Y 49 y = I 49 y) → Y 60 = up (up (up (I 60) 5 s5) 4 h4) 3 p3 → CJ J J2 → s5 = rideA S I g N 13 → p3 = rideA S I g N 10 → h4 = I 60 4 + (if howA S I g N = 0 then 0 else 1) → F2_drive_45 n S (fun I2 J2 => k (howA S I g N) I2 J2) Y J2 60 := by
    intro Y J2 h4 s5 p3 b1 b2 b3 b4 e5 e3 e4
    unfold F2_drive_45
    have y2 : Y 60 2 = g 9 := by rw [b3, upn (by decide), upn (by decide), upn (by decide)]; exact a9
    rw [y2, x7 Y (b1 7 (by decide) (by decide)), ← rideA_9 (S := S) (I := I) (N := N)]
    have ys : (uI Y 60 2 (rideA S I g N 9)) 60 5 = s5 := by rw [uIe, upn (by decide), b3, upn (by decide), upn (by decide), upe]
    rw [ys]
    have b60 : (uI (uI Y 60 2 (rideA S I g N 9)) 49 7 s5) 60 = up (up (up (up (I 60) 5 s5) 4 h4) 3 p3) 2 (rideA S I g N 9) := by rw [uIn (by decide), uIe, b3]
    have b49 : (uI (uI Y 60 2 (rideA S I g N 9)) 49 7 s5) 49 = up (Y 49) 7 s5 := by rw [uIe, uIn (by decide)]
    have bo : ∀ x, x ≠ 49 → x ≠ 60 → (uI (uI Y 60 2 (rideA S I g N 9)) 49 7 s5) x = I x := fun x p q => by rw [uIn p, uIn q, b1 x p q]
    generalize (uI (uI Y 60 2 (rideA S I g N 9)) 49 7 s5) = Z at *
    have sb : ∃ q, s5 = nI q ∧ q ≤ 100 := by
      have hk2 := (RK.ride (S := S) (I := I) (N := N) hK hgB hB0 hB12).2.2.1.2.2.2.1
      obtain ⟨q, q1, q2⟩ := hk2
      exact ⟨q, by rw [e5]; exact q1, q2⟩
    obtain ⟨sq, sq1, sq2⟩ := sb
    refine hk Z J2 ⟨bo, fun y h3 h7 => by rw [b49, upn h7, b2 y h3], fun y q2 q3 q4 q5 => by rw [b60, upn q2, upn q3, upn q4, upn q5]⟩ b4 ?_ (by rw [b60, upe]) (by rw [b60, upn (by decide), upe, e3]) (by rw [b60, upn (by decide), upn (by decide), upn (by decide), upe, e5]) (by rw [b60, upn (by decide), upn (by decide), upe, e4])
    refine ⟨hQ.1.cg (fun i hi => bo _ (by omega) (by omega)) (fun x hx => bo x (by omega) (by omega)), fun a h3 h12 => ?_, fun a h3 h12 => ?_⟩
    · rw [b49, ← e5]
      unfold Wat
      by_cases c : a = 7
      · subst c; rw [upe, if_pos rfl]
      · rw [upn c, if_neg c, b2 a h3]
        have := hQ.2.1 a h3 h12
        unfold Wat at this
        rw [if_neg c] at this
        exact this
    · unfold Wat
      by_cases c : a = 7
      · rw [if_pos c, ← e5, sq1, qi (by omega)]; omega
      · rw [if_neg c]
        have := hQ.2.2 a h3 h12
        unfold Wat at this
        rw [if_neg c] at this
        exact this
  unfold F2_drive
  refine ⟨fun q => ?_, fun q => ?_⟩
  · refine fin _ J1 (I 60 4 + 1) (g 13) 0 (fun x p q => by rw [uIn q, uIn q, y1.1 x p]) (fun y h3 => by rw [uIn (by decide), uIn (by decide), y1.2 y h3]) ?_ y2 (by rw [rideA_13, if_neg q]) (by rw [rideA_10, if_neg q]) (by rw [if_neg q])
    rw [uIe, uIe, x60, ← a13, up_id]
  · have e2 : X1 60 2 = nI w := by rw [x60, a9, wa]
    have e5 : X1 60 5 = g 13 := by rw [x60, a13]
    rw [e2, e5]
    refine sp_tellQ hT hn (hQ.cg y1) hbi (kd := 4) (by omega) (fun X2 J2 u1 u2 => ?_)
    have el : aT S X1 r w (Wat (WM 63 r N) 7 (g 13)) 4 = lrnA S I g N := by
      unfold lrnA
      rw [wa, qn (by omega), lrnA_g hg hN6 hw12]
      exact aT_I hFO (y1.1 1 (by decide)) (fun x hx => y1.1 x (by omega))
    rw [el]
    refine fin _ J2 (I 60 4) (if g 13 + lrnA S I g N < 100 then g 13 + lrnA S I g N else 100) (g 10) (fun x p q => by rw [uIn q, u1.1 x p, y1.1 x p]) (fun y h3 => by rw [uIn (by decide), u1.2 y h3, y1.2 y h3]) ?_ (y2.trans u2) (by rw [rideA_13, if_pos q]; rfl) (by rw [rideA_10, if_pos q]) (by rw [if_pos q]; simp)
    rw [uIe, u1.1 60 (by decide), x60]
    funext y
    unfold up
    by_cases c5 : y = 5
    · subst c5; simp
    · by_cases c4 : y = 4
      · subst c4; simp
      · by_cases c3 : y = 3
        · subst c3; simp [a10]
        · simp [c5, c4, c3]
end DY
