/-! steps: at, goes, quick, of -/
theorem KpI.c {I X : tHI} (h : ∀ x, x ≠ 49 → X x = I x) (g : ∀ y, y ∈ [8, 9, 10] → X 49 y = I 49 y) : KpI I X := ⟨fun x hx => h x (by omega), fun x hx => h x (fun q => by subst q; revert hx; decide), fun y _ => by rw [h 0 (by decide)], fun y _ => by rw [h 61 (by decide)], by rw [h 40 (by decide)], g, fun y _ => by rw [h 50 (by decide)], fun y _ => by rw [h 66 (by decide)]⟩
theorem KpI.ck {I X : tHI} (h : CK I X) : KpI I X := KpI.c h.1 (fun y hy => h.2 y (by
  have : y = 8 ∨ y = 9 ∨ y = 10 := by simpa using hy
  omega))
theorem KpI.m {I X : tHI} (h : MK I X) : KpI I X := ⟨fun x hx => h.1 x (by omega), fun x hx => h.1 x (fun q => by subst q; revert hx; decide), fun y _ => by rw [h.1 0 (by decide)], fun y hy => h.2 y (fun q => by
  have a : y = 1 ∨ y = 8 ∨ y = 11 ∨ y = 13 ∨ y = 18 ∨ y = 20 ∨ y = 41 ∨ y = 53 ∨ y = 57 := by simpa using hy
  have b : y = 34 ∨ y = 38 ∨ y = 42 ∨ y = 43 ∨ y = 44 := by simpa using q
  omega), by rw [h.1 40 (by decide)], fun y _ => by rw [h.1 49 (by decide)], fun y _ => by rw [h.1 50 (by decide)], fun y _ => by rw [h.1 66 (by decide)]⟩
theorem KpJ.c {J X : tHJ} (h : CJ J X) : KpJ J X := fun x hx => h x (fun q => by subst q; revert hx; decide)
theorem KpJ.m {J X : tHJ} (h : MJ J X) : KpJ J X := fun x hx => h.1 x (fun q => by subst q; revert hx; decide) (fun q => by subst q; revert hx; decide) (fun q => by subst q; revert hx; decide)
theorem isB {S : tSH} {I : tHI} {J : tHJ} {B : Nat} {v : Int32} (h : I 63 1 = nI B) (hB : B ≤ 12) : V12_isBend S I J v = 0 ↔ ¬ (0 ≤ v.toInt ∧ v.toInt < B) := by
  unfold V12_isBend
  have e : ((I 63 1).toInt64 - 1).toInt = (B : Int) - 1 := by
    have e1 : (1 : Int64).toInt = 1 := by decide
    have e2 : (I 63 1).toInt64.toInt = B := by rw [Int32.toInt_toInt64, h, qi (by omega)]
    rw [tl_sub (by rw [e1, e2]; omega) (by rw [e1, e2]; omega), e1, e2]
  rw [mi0, e, Int32.toInt_toInt64, show (0 : Int64).toInt = 0 by decide]
  omega
theorem isLd {S : tSH} {I : tHI} {J : tHJ} {N : Nat} {v : Int32} (h : I 63 0 = nI N) (hN : N ≤ 6) : V12_isLoad S I J v = 0 ↔ ¬ (0 ≤ v.toInt ∧ v.toInt < N) := by
  unfold V12_isLoad
  have e : ((I 63 0).toInt64 - 1).toInt = (N : Int) - 1 := by
    have e1 : (1 : Int64).toInt = 1 := by decide
    have e2 : (I 63 0).toInt64.toInt = N := by rw [Int32.toInt_toInt64, h, qi (by omega)]
    rw [tl_sub (by rw [e1, e2]; omega) (by rw [e1, e2]; omega), e1, e2]
  rw [mi0, e, Int32.toInt_toInt64, show (0 : Int64).toInt = 0 by decide]
  omega
theorem has3 {S : tSH} {I : tHI} {J : tHJ} {a : Nat} {v : Int32} : V3_has S I J a v = 0 ↔ ¬ (0 ≤ v.toInt ∧ v.toInt < (I a 0).toInt ∧ v.toInt < 6) := by
  have z12 : (6 : Int32).toInt = 6 := rfl
  unfold V3_has
  by_cases c1 : v < 0
  · rw [if_pos c1]; rw [Int32.lt_iff_toInt_lt, tz0] at c1; simp only [true_iff]; omega
  · rw [if_neg c1]
    rw [Int32.lt_iff_toInt_lt, tz0] at c1
    by_cases c2 : I a 0 ≤ v
    · rw [if_pos c2]; rw [Int32.le_iff_toInt_le] at c2; simp only [true_iff]; omega
    · rw [if_neg c2]
      rw [Int32.le_iff_toInt_le] at c2
      by_cases c3 : 6 ≤ v
      · rw [if_pos c3]; rw [Int32.le_iff_toInt_le] at c3; simp only [true_iff]; omega
      · rw [if_neg c3]
        rw [Int32.le_iff_toInt_le] at c3
        constructor
        · intro q; exact absurd q (by decide)
        · intro q; exact absurd ⟨by omega, by omega, by omega⟩ q
theorem WM_b {set : Int32} {r : Nat → Int32} {N : Nat} (h : WR set r N) (hK : KR r) (hV : KV r (rV r)) : ∀ a, 3 ≤ a → a < 12 → -1000000000 ≤ (WM set r N a).toInt ∧ (WM set r N a).toInt ≤ 1000000000 := by
  intro a h3 h12
  obtain ⟨⟨c1, c2⟩, ⟨d1, d2⟩, ⟨e1, e2⟩⟩ := h
  have h8 := hK.2.2.2.2.2.2.2.2
  obtain ⟨g, g1, g2⟩ := hK.2.2.2.2.2.2.2.1
  obtain ⟨s, s1, s2⟩ := hV.2.2.2.1
  have s1 : r 13 = nI s := s1
  unfold WM
  by_cases q3 : a = 3
  · rw [if_pos q3]; omega
  rw [if_neg q3]
  by_cases q4 : a = 4
  · rw [if_pos q4]; omega
  rw [if_neg q4]
  by_cases q5 : a = 5
  · rw [if_pos q5]; omega
  rw [if_neg q5]
  by_cases q6 : a = 6
  · rw [if_pos q6]; omega
  rw [if_neg q6]
  by_cases q7 : a = 7
  · rw [if_pos q7, s1, qi (by omega)]; omega
  rw [if_neg q7]
  by_cases q11 : a = 11
  · rw [if_pos q11, g1, qi (by omega)]; omega
  rw [if_neg q11, qneg]
  omega
section AS
variable {n : Nat} {S : tSH} {I : tHI} {J : tHJ}
theorem RK.le {r : Nat → Int32} (h : RK r) : ∀ i, i < 6 → -2 ≤ (r (20 + i)).toInt ∧ (r (20 + i)).toInt ≤ 2 := fun i hi => by
  have e : rV r (11 + i) = r (20 + i) := by unfold rV; congr 1; omega
  have := (h.2.2.1.2.2.2.2 i hi).2.1
  rw [e] at this
  exact this
theorem WS.of {set : Int32} {r : Nat → Int32} {N : Nat} (h : RK r) (hN : N ≤ 6) {b : Nat} (hb : b < 12) : WS r b (WM set r N) := by
  obtain ⟨t, ⟨l, l1, l2⟩, c, -⟩ := h.2.2.2.1 b hb
  exact ⟨t, by rw [l1, qi (by omega)]; omega, c, WM_b (WR.of h.2.1 h.le hN) h.1 h.2.2.1⟩
theorem sp_asIt (hn : 6 < n) {r : Nat → Int32} (hR : RSt S I 1 r) {N : Nat} (hN : r 0 = nI N) (hN6 : N ≤ 6) (hC : I 49 8 = -1 ∧ I 49 9 = -1 ∧ I 49 10 = -1) {k : tHI → tHJ → Prop} (hk : ∀ X : tHI, (∀ x, x ≠ 49 → X x = I x) → (∀ y, y ∈ [8, 9, 10] → X 49 y = I 49 y) → CQ S X r (WM 63 r N) → k X J) : F2_asItStands n S I J k := by
  have hT : RT (I 15) r := hR.2.2.2.2.1
  unfold F2_asItStands
  simp only [uIn (show (15 : Nat) ≠ 49 by decide)]
  have e2 : ∀ x, x ≠ 49 → (uI (uI (uI I 49 6 (I 15 0)) 49 7 (I 15 5)) 49 11 (I 15 8)) x = I x := fun x hx => by rw [uIn hx, uIn hx, uIn hx]
  refine sp_weigh (r := r) hn ?_ (N := N) ?_ hN6 (hk _ (fun x hx => by rw [uIn hx, uIn hx, uIn hx, e2 x hx]) (fun y hy => ?_) ?_)
  · rw [e2 3 (by decide), e2 4 (by decide), e2 5 (by decide), e2 6 (by decide)]; exact hR.2.1
  · rw [e2 2 (by decide), ← hN]; exact hR.1.2.2.1
  · have : y = 8 ∨ y = 9 ∨ y = 10 := by simpa using hy
    simp only [uIe]
    rw [upn (by omega), upn (by omega), upn (by omega), upn (by omega), upn (by omega), upn (by omega)]
  · refine ⟨hR.cg (fun i hi => by rw [uIn (by omega), uIn (by omega), uIn (by omega), e2 _ (by omega)]) (fun x hx => by rw [uIn (by omega), uIn (by omega), uIn (by omega), e2 _ (by omega)]), fun a h3 h12 => ?_, WM_b (WR.of hR.2.2.2.2.2.1.2.1 hR.2.2.2.2.2.1.le hN6) hR.2.2.2.2.2.1.1 hR.2.2.2.2.2.1.2.2.1⟩
    simp only [uIe, up]
    have : a = 3 ∨ a = 4 ∨ a = 5 ∨ a = 6 ∨ a = 7 ∨ a = 8 ∨ a = 9 ∨ a = 10 ∨ a = 11 := by omega
    rcases this with g | g | g | g | g | g | g | g | g <;> subst g <;> simp [WM]
    · exact hT.1
    · exact hT.2.2.2.2.2.1
    · exact hC.1
    · exact hC.2.1
    · exact hC.2.2
    · exact hT.2.2.2.2.2.2.2.2
/-- what the model may rest on -/
theorem Inv.mq (h : Inv S I J) : ∃ N B, I 63 0 = nI N ∧ N ≤ 6 ∧ I 63 1 = nI B ∧ B ≤ 12 ∧ I 61 41 = 63 ∧ MQB S I N B := by
  have hR := h.2.1
  have hK := hR.2.2.2.2.2.1
  obtain ⟨N, n1, n2⟩ := hK.1.1
  obtain ⟨B, b1, b2⟩ := hK.1.2.1
  have hc := h.2.2.2.2.2.2.1
  refine ⟨N, B, n1, n2, b1, b2, hc.2, ⟨hc.1, n1, n2, hK.2.1, hK.le, FO.of hR⟩, WR.of hK.2.1 hK.le n2, b2, b1, fun b hb => WS.of hK n2 (by omega)⟩
theorem WI63 {N : Nat} (h : I 61 41 = 63) : WI I N = WM 63 (I 63) N := by show WM (I 61 41) (I 63) N = _; rw [h]
theorem nat_of {v : Int32} {m : Int} (h0 : 0 ≤ v.toInt) (h1 : v.toInt < m) : ∃ b : Nat, v = nI b ∧ (b : Int) < m ∧ b < 2147483648 := ⟨v.toNatClampNeg, qof h0, by rw [qtn]; omega, v.toNatClampNeg_lt⟩
theorem st_goes (hn : 400 < n) : tSt_goes n Inv := by
  intro S I J v1 v2 h
  obtain ⟨N, B, n1, n2, b1, b2, c63, hM⟩ := h.mq
  have h70 : (I 7 0).toInt = B := by have : I 7 0 = I 63 1 := h.2.1.1.2.2.2.1; rw [this, b1, qi (by omega)]
  have em : V12_in v2.toInt64 1 60 = V11_within v2 1 60 := inwi (by decide) (by decide)
  unfold F11_goes F11_goes_24
  have no : (¬ (0 ≤ v1.toInt ∧ v1.toInt < B) ∨ V11_within v2 1 60 = 0) → F12_goes n S I J v1 v2 (fun y I2 J2 => -1 = y ∧ Inv S I2 J2) := by
    intro q
    unfold F12_goes F12_goes_34 F12_goes_35
    have ib := isB (S := S) (I := uI I 61 0 0) (J := J) (v := v1) (by rw [uIn (by decide)]; exact b1) b2
    refine ⟨fun _ => ⟨rfl, h.th⟩, fun q1 => ⟨fun _ => ⟨rfl, h.th⟩, fun q2 => ?_⟩⟩
    exfalso
    rcases q with q | q
    · exact q1 (ib.mpr q)
    · exact q2 (by rw [em]; exact q)
  refine ⟨fun q => no (Or.inl ?_), fun q => ⟨fun q2 => ?_, fun q2 => no (Or.inr q2)⟩⟩
  · rw [has7, h70] at q; omega
  · have hb : 0 ≤ v1.toInt ∧ v1.toInt < B := by
      by_cases g : 0 ≤ v1.toInt ∧ v1.toInt < B
      · exact g
      · exact absurd (has7.mpr (by rw [h70]; omega)) q
    obtain ⟨b, rfl, hbB, hb31⟩ := nat_of hb.1 hb.2
    have hbB : b < B := by omega
    have hp := wi1.mp q2
    have hp : 1 ≤ v2.toInt ∧ v2.toInt ≤ 60 := hp
    obtain ⟨p, rfl, hp2, hp31⟩ := nat_of (v := v2) (m := 61) (by omega) (by omega)
    have hp60 : p ≤ 60 := by omega
    refine sp_asIt (r := I 63) (by omega) h.2.1 n1 n2 h.2.2.2.2.2.2.2.1 (fun X x1 x2 hQ => ?_)
    refine sp_outcome h.1 hn hQ (b := b) (by rw [b1, qi (by omega)]; omega) hp60 (fun X2 J2 y1 y2 => ?_)
    have hI2 : Inv S X2 J2 := h.keep ((KpI.c x1 x2).trans (KpI.ck y1)) (KpJ.c y2)
    show F12_goes n S X2 J2 (nI b) (nI p) _
    have e63 : X2 63 = I 63 := by rw [y1.1 63 (by decide), x1 63 (by decide)]
    have hI3 := hI2.th
    have e63' : (uI X2 61 0 0) 63 = I 63 := by rw [uIn (by decide)]; exact e63
    have c63' : (uI X2 61 0 0) 61 41 = 63 := hI3.2.2.2.2.2.2.1.2
    obtain ⟨N', B', n1', n2', b1', b2', -, hM'⟩ := hI3.mq
    have eN : N' = N := (qeq (by omega) (by omega)).mp (by rw [← n1', e63', n1])
    have eB : B' = B := (qeq (by omega) (by omega)).mp (by rw [← b1', e63', b1])
    subst eN eB
    have ib := isB (S := S) (I := uI X2 61 0 0) (J := J2) (v := nI b) b1' b2'
    rw [qi (by omega)] at ib
    unfold F12_goes F12_goes_34 F12_goes_35
    refine ⟨fun g => absurd (ib.mp g) (by omega), fun _ => ⟨fun g => ?_, fun _ => ?_⟩⟩
    · exfalso; rw [em] at g; exact q2 g
    · refine sp_goesNow hn hM' hbB (fun X3 J3 z1 z2 => ⟨?_, hI3.keep (KpI.m z1) (KpJ.m z2)⟩)
      rw [WI63 c63', e63']
      have e1 : aO S (uI X2 61 0 0) (I 63) b (WM 63 (I 63) N') (nI p) = aO S X (I 63) b (WM 63 (I 63) N') (nI p) := aO_I hQ.FO (by rw [uIn (by decide), y1.1 1 (by decide)]) (fun x hx => by rw [uIn (by omega), y1.1 x (by omega)])
      exact e1.symm
theorem st_quick (hn : 400 < n) : tSt_quick n Inv := by
  intro S I J v1 v2 h
  obtain ⟨N, B, n1, n2, b1, b2, c63, hM⟩ := h.mq
  have h70 : (I 7 0).toInt = B := by have : I 7 0 = I 63 1 := h.2.1.1.2.2.2.1; rw [this, b1, qi (by omega)]
  have em : V12_in v2.toInt64 0 1 = V11_within v2 0 1 := inwi (by decide) (by decide)
  unfold F11_quick F11_quick_23
  have no : (¬ (0 ≤ v1.toInt ∧ v1.toInt < B) ∨ V11_within v2 0 1 = 0) → F12_quick n S I J v1 v2 (fun y I2 J2 => -1 = y ∧ Inv S I2 J2) := by
    intro q
    unfold F12_quick F12_quick_23
    have ib := isB (S := S) (I := uI I 61 0 0) (J := J) (v := v1) (by rw [uIn (by decide)]; exact b1) b2
    refine ⟨fun _ => ⟨rfl, h.th⟩, fun q1 => ⟨fun q2 => ?_, fun _ => ⟨rfl, h.th⟩⟩⟩
    exfalso
    rcases q with q | q
    · exact q1 (ib.mpr q)
    · exact q2 (by rw [em]; exact q)
  refine ⟨fun q => no (Or.inl ?_), fun q => ⟨fun q2 => ?_, fun q2 => no (Or.inr q2)⟩⟩
  · rw [has7, h70] at q; omega
  · have hb : 0 ≤ v1.toInt ∧ v1.toInt < B := by
      by_cases g : 0 ≤ v1.toInt ∧ v1.toInt < B
      · exact g
      · exact absurd (has7.mpr (by rw [h70]; omega)) q
    obtain ⟨b, rfl, hbB, hb31⟩ := nat_of hb.1 hb.2
    have hbB : b < B := by omega
    have hbi : (b : Int) < (I 63 1).toInt := by rw [b1, qi (by omega)]; omega
    refine sp_asIt (r := I 63) (by omega) h.2.1 n1 n2 h.2.2.2.2.2.2.2.1 (fun X x1 x2 hQ => ?_)
    refine sp_quickest h.1 hn hQ (b := b) hbi (fun X2 J2 y1 y2 => ?_)
    have hQ2 := hQ.cg y1
    obtain ⟨hb12, hh, h8, h9, ht⟩ := hQ2.has (J := J2) hbi
    have hI2 : Inv S X2 J2 := h.keep ((KpI.c x1 x2).trans (KpI.ck y1)) (KpJ.c y2)
    have ql60 : aQ S X (I 63) b (WM 63 (I 63) N) ≤ 60 := aQ_le
    generalize hq : aQ S X (I 63) b (WM 63 (I 63) N) = Q at *
    have hT : P7_timeAt S X2 J2 7 (nI b) (nI Q) ∧ V7_timeAt S X2 J2 7 (nI b) (nI Q) = (if nI Q = 0 then 0 else I 63 (38 + 4 * b + 1) * 60 / nI Q) := by
      unfold P7_timeAt V7_timeAt
      rw [if_neg hh, qn (by omega), h9]
      refine ⟨⟨fun _ => trivial, fun _ => ⟨fun _ => trivial, fun g => ⟨(qin (by omega)).mpr hb12, fun y => g (by rw [y]; decide), trivial⟩⟩⟩, ?_⟩
      by_cases g : nI Q ≤ 0
      · have : Q = 0 := by have := (qle (b := 0) (by omega) (by omega)).mp g; omega
        rw [if_pos g, if_pos (by rw [this]; rfl)]
      · rw [if_neg g, if_neg (fun y => g (by rw [y]; decide))]
    refine ⟨⟨fun _ => ⟨hT.1, trivial⟩, fun _ => trivial⟩, ?_⟩
    rw [hT.2]
    have e63 : X2 63 = I 63 := by rw [y1.1 63 (by decide), x1 63 (by decide)]
    have hI3 := hI2.th
    have e63' : (uI X2 61 0 0) 63 = I 63 := by rw [uIn (by decide)]; exact e63
    have c63' : (uI X2 61 0 0) 61 41 = 63 := hI3.2.2.2.2.2.2.1.2
    obtain ⟨N', B', n1', n2', b1', b2', -, hM'⟩ := hI3.mq
    have eN : N' = N := (qeq (by omega) (by omega)).mp (by rw [← n1', e63', n1])
    have eB : B' = B := (qeq (by omega) (by omega)).mp (by rw [← b1', e63', b1])
    subst eN eB
    have ib := isB (S := S) (I := uI X2 61 0 0) (J := J2) (v := nI b) b1' b2'
    rw [qi (by omega)] at ib
    show F12_quick n S X2 J2 (nI b) v2 (fun y I2 J2 => (if v2 = 0 then nI Q else if nI Q = 0 then 0 else I 63 (38 + 4 * b + 1) * 60 / nI Q) = y ∧ Inv S I2 J2)
    unfold F12_quick F12_quick_23
    refine ⟨fun g => absurd (ib.mp g) (by omega), fun _ => ⟨fun _ => ?_, fun g => ?_⟩⟩
    · refine sp_quickM hn hM' hbB (fun X3 J3 z1 z2 => ?_)
      have e1 : aQ S (uI X2 61 0 0) ((uI X2 61 0 0) 63) b (WI (uI X2 61 0 0) N') = Q := by
        rw [WI63 c63', e63', ← hq]
        exact aQ_I hQ.FO (by rw [uIn (by decide), y1.1 1 (by decide)]) (fun x hx => by rw [uIn (by omega), y1.1 x (by omega)])
      rw [e1]
      obtain ⟨v0, p0⟩ := ofB (S := S) (I := X3) (J := J3) hb12 (q := 1) (by decide) (v := nI b) rfl (w := 1) rfl
      refine ⟨⟨fun _ => ⟨⟨fun g => ⟨p0, g, trivial⟩, fun _ => trivial⟩, trivial⟩, fun _ => trivial⟩, ?_, hI3.keep (KpI.m z1) (KpJ.m z2)⟩
      unfold V12_timeOf
      rw [v0, z1.1 63 (by decide), e63']
    · exfalso; rw [em] at g; exact q2 g
end AS
