/-! riding, by the model; the six acts -/
section RIM
variable {n : Nat} {S : tSH} {I : tHI} {J : tHJ} {N B h : Nat} {k : Int32 → tHI → tHJ → Prop}
theorem MA.trans {I X Y : tHI} (h : MA I X) (z : MK X Y) : MA I Y := h.mk (fun x _ q => z.1 x q) (fun y hy => z.2 y hy)
theorem ske {s f : Nat} (hs : s ≤ 100) (hf : f ≤ 100) : V12_within ((nI s + nI f).toInt64) 0 100 = (if nI s + nI f < 100 then nI s + nI f else 100) := by
  rw [nI_add]
  refine Int32.toInt_inj.mp ?_
  rw [mwi (by decide), Int32.toInt_toInt64, qi (by omega), tz0, show (100 : Int32).toInt = 100 from rfl]
  by_cases c : nI (s + f) < 100
  · rw [if_pos c, qi (by omega)]
    have := (qlt (b := 100) (by omega) (by omega)).mp c
    omega
  · rw [if_neg c, show (100 : Int32).toInt = 100 from rfl]
    have : ¬ s + f < 100 := fun q => c ((qlt (b := 100) (by omega) (by omega)).mpr q)
    omega
theorem nxe {w B : Nat} (hw : w < B) (hB : B ≤ 12) : (if nI w = nI B - 1 then (0 : Int32) else nI w + 1) = (if nI w + 1 < nI B then nI w + 1 else 0) := by
  have e1 : nI w + 1 = nI (w + 1) := nI_add w 1
  rw [qpred (by omega), e1]
  by_cases c : w = B - 1
  · rw [if_pos (by rw [c]), if_neg (fun q => by have := (qlt (by omega) (by omega)).mp q; omega)]
  · rw [if_neg (fun q => c ((qeq (by omega) (by omega)).mp q)), if_pos ((qlt (by omega) (by omega)).mpr (by omega))]
theorem sp_rideM (hn : 400 < n) (hM : MQB S I N B) (hK : RK (I 63)) (c63 : I 61 41 = 63) (hh : h ≤ 16) (h61 : I 61 8 = nI h) {a b : Int32} (hno : MNo S I J N 5 a b k) (hyes : MYes S I J N h 5 a b k) : F12_rideNow n S I J k := by
  obtain ⟨p, p1, p2⟩ := hK.2.2.1.2.1
  have p1 : I 63 10 = nI p := p1
  have hB1 := hM.2.2.2.1
  have hB := hM.2.2.1
  have hFO : FO S I (I 63) := hM.1.2.2.2.2.2
  have fail : ∀ {v : Int32}, v ≠ 0 → whyA S I (I 63) N 5 a b = v → k v I J := fun hv hw => by
    have := hno I J (by rw [hw]; exact hv) (MK.rf I) (MJ.rf J)
    rw [hw] at this
    exact this
  have wh : ∀ {v : Int32}, (if I 63 10 = 0 then -3 else if I 63 1 = 0 then -3 else 0) = v → whyA S I (I 63) N 5 a b = v := fun q => by
    unfold whyA; rw [if_neg (by decide), if_neg (by decide), if_neg (by decide), if_neg (by decide), if_neg (by decide)]; exact q
  unfold F12_rideNow F12_rideNow_19
  refine ⟨fun g => fail (by decide) (wh (by rw [if_pos g])), fun g => ⟨fun g2 => ?_, fun g2 => fail (by decide) (wh (by rw [if_neg g, if_pos g2]))⟩⟩
  have hw := wh (v := 0) (by rw [if_neg g, if_neg g2])
  obtain ⟨w, wa, wb, wc⟩ := hK.2.2.1.1
  have wa : I 63 9 = nI w := wa
  have hwB : w < B := by
    rcases wb with q | q
    · subst q
      have : B ≠ 0 := fun q => by subst q; exact g2 hB1
      omega
    · rw [hB1, qi (by omega)] at q; omega
  refine sp_remM hn hh h61 (MK.rf I) (kd := 5) (fun X a1 a2 a3 a4 => ?_)
  have hMX : MQB S X N B := hM.cg2 (a1.2 20 (by decide)) (a1.2 41 (by decide)) a2 (a1.1 1 (by decide) (by decide) (by decide) (by decide)) (fun x hx => a1.1 x (by omega) (by omega) (by omega) (by omega))
  have eW : WI X N = WM 63 (I 63) N := by show WM (X 61 41) (X 63) N = _; rw [a1.2 41 (by decide), c63, a2]
  have es : stepA S I (I 63) N 5 a b = rideA S I (I 63) N := by unfold stepA; rw [if_neg (by decide), if_neg (by decide), if_neg (by decide), if_neg (by decide), if_neg (by decide)]
  have ea : ansA S I (I 63) N 5 a b = howA S I (I 63) N := by unfold ansA; rw [if_neg (by decide), if_neg (by decide), if_neg (by decide), if_neg (by decide), if_neg (by decide)]
  unfold MYes at hyes
  rw [es, ea] at hyes
  unfold F12_rideIt
  have e9 : X 63 9 = nI w := by rw [a2]; exact wa
  rw [e9]
  have hX1 : X 1 = I 1 := a1.1 1 (by decide) (by decide) (by decide) (by decide)
  have hX89 : ∀ x, 89 ≤ x → X x = I x := fun x hx => a1.1 x (by omega) (by omega) (by omega) (by omega)
  refine sp_goesNow hn hMX hwB (fun Y J2 z1 z2 => ?_)
  have eh : aO S X (X 63) w (WI X N) (X 63 10) = howA S I (I 63) N := by
    unfold howA
    rw [wa, qn (by omega), eW, a2]
    exact aO_I hFO hX1 hX89
  rw [eh]
  have y63 : Y 63 = I 63 := by rw [z1.1 63 (by decide), a2]
  have hYA : MA I Y := a1.trans z1
  have y8 : Y 61 8 = nI (hp h + 1) := by rw [z1.2 8 (by decide)]; exact a3
  have y66 : Y 66 = X 66 := z1.1 66 (by decide)
  have y67 : Y 67 = X 67 := z1.1 67 (by decide)
  have b1 : I 63 1 = nI B := hB1
  unfold F12_rideIt_52
  refine ⟨fun q => ?_, fun q => ?_⟩
  · have er : rideA S I (I 63) N = up (up (up (I 63) 12 (I 63 12 + 1)) 10 0) 9 (if I 63 9 + 1 < I 63 1 then I 63 9 + 1 else 0) := by unfold rideA; rw [if_neg q]
    rw [er] at hyes
    have e12 : Y 63 12 = I 63 12 := by rw [y63]
    rw [e12]
    have i1 : (uI (uI Y 63 12 (I 63 12 + 1)) 63 10 0) 63 1 = nI B := by rw [uIe, upn (by decide), uIe, upn (by decide), y63]; exact b1
    rw [i1, nxe hwB hB]
    rw [wa, b1] at hyes
    refine hyes _ J2 hw (hYA.mk (fun x p q => by rw [uIn p, uIn p, uIn p]) (fun y _ => by rw [uIn (by decide), uIn (by decide), uIn (by decide)])) z2 (by rw [uIn (by decide), uIn (by decide), uIn (by decide)]; exact y8) (by rw [uIe, uIe, uIe, y63]) (by rw [uIn (by decide), uIn (by decide), uIn (by decide), uIn (by decide), uIn (by decide), uIn (by decide), y66, y67]; exact a4)
  · have er : rideA S I (I 63) N = up (up (I 63) 13 (if I 63 13 + lrnA S I (I 63) N < 100 then I 63 13 + lrnA S I (I 63) N else 100)) 9 (if I 63 9 + 1 < I 63 1 then I 63 9 + 1 else 0) := by unfold rideA; rw [if_pos q]
    rw [er] at hyes
    have hMY : MQB S Y N B := hMX.cg z1
    unfold F12_learn
    refine sp_learns hn hMY.1 (by omega) (hMY.2.2.2.2 w hwB) (fun Z J3 u1 u2 => ?_)
    have eWY : WI Y N = WM 63 (I 63) N := by show WM (Y 61 41) (Y 63) N = _; rw [hYA.2 41 (by decide), c63, y63]
    have el : aT S Y (Y 63) w (WI Y N) 4 = lrnA S I (I 63) N := by
      unfold lrnA
      rw [wa, qn (by omega), eWY, y63]
      exact aT_I hFO (by rw [z1.1 1 (by decide), hX1]) (fun x hx => by rw [z1.1 x (by omega), hX89 x hx])
    rw [el]
    obtain ⟨sk, sk1, sk2⟩ := hK.2.2.1.2.2.2.1
    have sk1 : I 63 13 = nI sk := sk1
    obtain ⟨lg, lg1, lg2⟩ := (hK.2.2.2.1 w (by omega)).2.1
    obtain ⟨f, f1, f2⟩ : ∃ f, lrnA S I (I 63) N = nI f ∧ f ≤ 100 := lrn_r (by rw [wa, qn (by omega), lg1, qi (by omega)]; omega)
    have e13 : Y 63 13 = nI sk := by rw [y63]; exact sk1
    rw [e13, f1, ske sk2 f2]
    rw [wa, b1, sk1, f1] at hyes
    have i1 : ∀ v, (uI Z 63 13 v) 63 1 = nI B := fun v => by rw [uIe, upn (by decide), u1.1 63 (by decide), y63]; exact b1
    show k (howA S I (I 63) N) (uI (uI Z 63 13 (if nI sk + nI f < 100 then nI sk + nI f else 100)) 63 9 (if nI w = (uI Z 63 13 (if nI sk + nI f < 100 then nI sk + nI f else 100)) 63 1 - 1 then 0 else nI w + 1)) J3
    rw [i1, nxe hwB hB]
    refine hyes _ J3 hw ((hYA.trans u1).mk (fun x p q => by rw [uIn p, uIn p]) (fun y _ => by rw [uIn (by decide), uIn (by decide)])) (z2.trans u2) (by rw [uIn (by decide), uIn (by decide), u1.2 8 (by decide)]; exact y8) (by rw [uIe, uIe, u1.1 63 (by decide), y63]) (by rw [uIn (by decide), uIn (by decide), uIn (by decide), uIn (by decide), u1.1 66 (by decide), u1.1 67 (by decide), y66, y67]; exact a4)
end RIM
