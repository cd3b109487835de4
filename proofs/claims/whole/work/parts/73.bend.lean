/-! what changes the State, III: bend -/
section UZ
variable {n : Nat} {S : tSH} {I : tHI} {J : tHJ}
theorem canBe0 {v1 v2 v3 v4 : Int32} : V7_canBe v1 v2 v3 v4 = 0 ↔ V11_within v1 (-9) 9 = 0 ∨ V11_within v2 1 99 = 0 ∨ V11_within v3 (-3) 3 = 0 ∨ V11_within v4 0 31 = 0 := by
  unfold V7_canBe
  by_cases a : V11_within v1 (-9) 9 = 0
  · rw [if_pos a]; simp [a]
  · rw [if_neg a]
    by_cases b : V11_within v2 1 99 = 0
    · rw [if_pos b]; simp [b]
    · rw [if_neg b]
      by_cases c : V11_within v3 (-3) 3 = 0
      · rw [if_pos c]; simp [c]
      · rw [if_neg c]
        by_cases d : V11_within v4 0 31 = 0
        · rw [if_pos d]; simp [d]
        · rw [if_neg d]
          simp [a, b, c, d]
theorem st_bend : tSt_bend n Inv := by
  intro S I J v1 v2 v3 v4 h
  have hR := h.2.1
  have hN := hR.1
  obtain ⟨s, s1, s2⟩ := hR.2.2.2.2.2.1.1.2.1
  have e70 : I 7 0 = nI s := by rw [← s1]; exact hN.2.2.2.1
  have m1 : V12_in v1.toInt64 (-9) 9 = V11_within v1 (-9) 9 := inwi (by decide) (by decide)
  have m2 : V12_in v2.toInt64 1 99 = V11_within v2 1 99 := inwi (by decide) (by decide)
  have m3 : V12_in v3.toInt64 (-3) 3 = V11_within v3 (-3) 3 := inwi (by decide) (by decide)
  have m4 : V12_in v4.toInt64 0 31 = V11_within v4 0 31 := inwi (by decide) (by decide)
  have c63 : ∀ w : Int32, (uI (cS I w) 61 0 0) 63 = I 63 := fun w => by rw [uIn (by decide), cS_o (by decide) (by decide)]
  have no : ∀ w : Int32, -7 < w.toInt → w.toInt < 0 → F12_settled n S (uI (cS I w) 61 0 0) J w (fun y I2 J2 => w = y ∧ Inv S I2 J2) := fun w w1 w2 => by
    refine sp_settled w1 ?_
    rw [if_pos w2]
    exact ⟨rfl, h.rf w⟩
  unfold F11_bend
  refine ⟨fun c1 => ?_, fun c1 => ?_⟩
  · have c1 := fun q => c1 (canBe0.mpr q)
    have w1 : ¬ V11_within v1 (-9) 9 = 0 := fun q => c1 (Or.inl q)
    have w2 : ¬ V11_within v2 1 99 = 0 := fun q => c1 (Or.inr (Or.inl q))
    have w3 : ¬ V11_within v3 (-3) 3 = 0 := fun q => c1 (Or.inr (Or.inr (Or.inl q)))
    have w4 : ¬ V11_within v4 0 31 = 0 := fun q => c1 (Or.inr (Or.inr (Or.inr q)))
    refine ⟨fun c4 => ?_, fun c4 => ?_⟩
    · have c4 : s < 12 := by rw [e70] at c4; exact (qlt (b := 12) (by omega) (by omega)).mp c4
      refine sp_addB (s := s) (by rw [uIn (by decide)]; exact e70) c4 ?_
      have hs1 : 0 ≤ (nI s).toInt := by rw [qi (by omega)]; omega
      refine sp_settle h.1.l59 (by omega) ?_
      rw [cS_p hs1]
      show F12_bend n S _ J v1 v2 v3 v4 (fun y I2 J2 => nI s = y ∧ Inv S I2 J2)
      have e631 : (uI (uI (uI (uI (uI (uI (uI (uI I 34 1 0) 8 s v1) 9 s v2) 10 s v3) 11 s v4) 7 0 (nI (s + 1))) 0 18 0) 61 0 0) 63 1 = nI s := by rw [uIn (by decide), uIn (by decide), uIn (by decide), uIn (by decide), uIn (by decide), uIn (by decide), uIn (by decide), uIn (by decide)]; exact s1
      have q1 : 38 + 4 * nI s = nI (38 + 4 * s) := by rw [ql 38, ql 4, qmul, nI_add]
      have q2 : nI (38 + 4 * s) + 1 = nI (38 + 4 * s + 1) := nI_add _ 1
      have q3 : nI (38 + 4 * s) + 2 = nI (38 + 4 * s + 2) := nI_add _ 2
      have q3b : nI (38 + 4 * s) + 3 = nI (38 + 4 * s + 3) := nI_add _ 3
      have q4 : (uI (uI (uI (uI (uI (uI (uI (uI (uI (uI (uI (uI I 34 1 0) 8 s v1) 9 s v2) 10 s v3) 11 s v4) 7 0 (nI (s + 1))) 0 18 0) 61 0 0) 63 (38 + 4 * s) v1) 63 (38 + 4 * s + 1) v2) 63 (38 + 4 * s + 2) v3) 63 (38 + 4 * s + 3) v4) 63 1 = nI s := by rw [uIe, upn (by omega), uIe, upn (by omega), uIe, upn (by omega), uIe, upn (by omega)]; exact e631
      have q5 : nI s + 1 = nI (s + 1) := nI_add s 1
      unfold F12_bend F12_bend1 F12_bend1_53
      refine ⟨fun q => absurd (m1.symm.trans q) w1, fun _ => ⟨fun q => absurd (m2.symm.trans q) w2, fun _ => ⟨fun q => absurd (m3.symm.trans q) w3, fun _ => ⟨fun _ => ⟨fun _ => ?_, fun q => ?_⟩, fun q => absurd (m4.symm.trans q) w4⟩⟩⟩⟩
      · rw [e631, q1, q2, q3, q3b, qn (by omega), qn (by omega), qn (by omega), qn (by omega), q4, q5]
        refine ⟨(qin (by omega)).mpr (by omega), (qin (by omega)).mpr (by omega), (qin (by omega)).mpr (by omega), (qin (by omega)).mpr (by omega), sp_settled (by omega) ?_⟩
        rw [if_neg (by omega), mS_p hs1]
        refine ⟨rfl, ?_⟩
        have e : ∀ x, x ≠ 0 → x ≠ 7 → x ≠ 8 → x ≠ 9 → x ≠ 10 → x ≠ 11 → x ≠ 34 → x ≠ 61 → x ≠ 63 → (uI (uI (uI (uI (uI (uI (uI (uI (uI (uI (uI (uI (uI (uI (uI I 34 1 0) 8 s v1) 9 s v2) 10 s v3) 11 s v4) 7 0 (nI (s + 1))) 0 18 0) 61 0 0) 63 (38 + 4 * s) v1) 63 (38 + 4 * s + 1) v2) 63 (38 + 4 * s + 2) v3) 63 (38 + 4 * s + 3) v4) 63 1 (nI (s + 1))) 61 8 0) 61 1 0) x = I x := fun x c0 c7 c8 c9 c10 c11 c34 c61 c63 => by rw [uIn c61, uIn c61, uIn c63, uIn c63, uIn c63, uIn c63, uIn c63, uIn c61, uIn c0, uIn c7, uIn c11, uIn c10, uIn c9, uIn c8, uIn c34]
        have e0 : (uI (uI (uI (uI (uI (uI (uI (uI (uI (uI (uI (uI (uI (uI (uI I 34 1 0) 8 s v1) 9 s v2) 10 s v3) 11 s v4) 7 0 (nI (s + 1))) 0 18 0) 61 0 0) 63 (38 + 4 * s) v1) 63 (38 + 4 * s + 1) v2) 63 (38 + 4 * s + 2) v3) 63 (38 + 4 * s + 3) v4) 63 1 (nI (s + 1))) 61 8 0) 61 1 0) 0 = (up (I 0) 18 0) := by rw [uIn (by decide), uIn (by decide), uIn (by decide), uIn (by decide), uIn (by decide), uIn (by decide), uIn (by decide), uIn (by decide), uIe, uIn (by decide), uIn (by decide), uIn (by decide), uIn (by decide), uIn (by decide), uIn (by decide)]
        have e7 : (uI (uI (uI (uI (uI (uI (uI (uI (uI (uI (uI (uI (uI (uI (uI I 34 1 0) 8 s v1) 9 s v2) 10 s v3) 11 s v4) 7 0 (nI (s + 1))) 0 18 0) 61 0 0) 63 (38 + 4 * s) v1) 63 (38 + 4 * s + 1) v2) 63 (38 + 4 * s + 2) v3) 63 (38 + 4 * s + 3) v4) 63 1 (nI (s + 1))) 61 8 0) 61 1 0) 7 = (up (I 7) 0 (nI (s + 1))) := by rw [uIn (by decide), uIn (by decide), uIn (by decide), uIn (by decide), uIn (by decide), uIn (by decide), uIn (by decide), uIn (by decide), uIn (by decide), uIe, uIn (by decide), uIn (by decide), uIn (by decide), uIn (by decide), uIn (by decide)]
        have e8 : (uI (uI (uI (uI (uI (uI (uI (uI (uI (uI (uI (uI (uI (uI (uI I 34 1 0) 8 s v1) 9 s v2) 10 s v3) 11 s v4) 7 0 (nI (s + 1))) 0 18 0) 61 0 0) 63 (38 + 4 * s) v1) 63 (38 + 4 * s + 1) v2) 63 (38 + 4 * s + 2) v3) 63 (38 + 4 * s + 3) v4) 63 1 (nI (s + 1))) 61 8 0) 61 1 0) 8 = (up (I 8) s v1) := by rw [uIn (by decide), uIn (by decide), uIn (by decide), uIn (by decide), uIn (by decide), uIn (by decide), uIn (by decide), uIn (by decide), uIn (by decide), uIn (by decide), uIn (by decide), uIn (by decide), uIn (by decide), uIe, uIn (by decide)]
        have e9 : (uI (uI (uI (uI (uI (uI (uI (uI (uI (uI (uI (uI (uI (uI (uI I 34 1 0) 8 s v1) 9 s v2) 10 s v3) 11 s v4) 7 0 (nI (s + 1))) 0 18 0) 61 0 0) 63 (38 + 4 * s) v1) 63 (38 + 4 * s + 1) v2) 63 (38 + 4 * s + 2) v3) 63 (38 + 4 * s + 3) v4) 63 1 (nI (s + 1))) 61 8 0) 61 1 0) 9 = (up (I 9) s v2) := by rw [uIn (by decide), uIn (by decide), uIn (by decide), uIn (by decide), uIn (by decide), uIn (by decide), uIn (by decide), uIn (by decide), uIn (by decide), uIn (by decide), uIn (by decide), uIn (by decide), uIe, uIn (by decide), uIn (by decide)]
        have e10 : (uI (uI (uI (uI (uI (uI (uI (uI (uI (uI (uI (uI (uI (uI (uI I 34 1 0) 8 s v1) 9 s v2) 10 s v3) 11 s v4) 7 0 (nI (s + 1))) 0 18 0) 61 0 0) 63 (38 + 4 * s) v1) 63 (38 + 4 * s + 1) v2) 63 (38 + 4 * s + 2) v3) 63 (38 + 4 * s + 3) v4) 63 1 (nI (s + 1))) 61 8 0) 61 1 0) 10 = (up (I 10) s v3) := by rw [uIn (by decide), uIn (by decide), uIn (by decide), uIn (by decide), uIn (by decide), uIn (by decide), uIn (by decide), uIn (by decide), uIn (by decide), uIn (by decide), uIn (by decide), uIe, uIn (by decide), uIn (by decide), uIn (by decide)]
        have e11 : (uI (uI (uI (uI (uI (uI (uI (uI (uI (uI (uI (uI (uI (uI (uI I 34 1 0) 8 s v1) 9 s v2) 10 s v3) 11 s v4) 7 0 (nI (s + 1))) 0 18 0) 61 0 0) 63 (38 + 4 * s) v1) 63 (38 + 4 * s + 1) v2) 63 (38 + 4 * s + 2) v3) 63 (38 + 4 * s + 3) v4) 63 1 (nI (s + 1))) 61 8 0) 61 1 0) 11 = (up (I 11) s v4) := by rw [uIn (by decide), uIn (by decide), uIn (by decide), uIn (by decide), uIn (by decide), uIn (by decide), uIn (by decide), uIn (by decide), uIn (by decide), uIn (by decide), uIe, uIn (by decide), uIn (by decide), uIn (by decide), uIn (by decide)]
        have e34 : (uI (uI (uI (uI (uI (uI (uI (uI (uI (uI (uI (uI (uI (uI (uI I 34 1 0) 8 s v1) 9 s v2) 10 s v3) 11 s v4) 7 0 (nI (s + 1))) 0 18 0) 61 0 0) 63 (38 + 4 * s) v1) 63 (38 + 4 * s + 1) v2) 63 (38 + 4 * s + 2) v3) 63 (38 + 4 * s + 3) v4) 63 1 (nI (s + 1))) 61 8 0) 61 1 0) 34 = (up (I 34) 1 0) := by rw [uIn (by decide), uIn (by decide), uIn (by decide), uIn (by decide), uIn (by decide), uIn (by decide), uIn (by decide), uIn (by decide), uIn (by decide), uIn (by decide), uIn (by decide), uIn (by decide), uIn (by decide), uIn (by decide), uIe]
        have e61 : (uI (uI (uI (uI (uI (uI (uI (uI (uI (uI (uI (uI (uI (uI (uI I 34 1 0) 8 s v1) 9 s v2) 10 s v3) 11 s v4) 7 0 (nI (s + 1))) 0 18 0) 61 0 0) 63 (38 + 4 * s) v1) 63 (38 + 4 * s + 1) v2) 63 (38 + 4 * s + 2) v3) 63 (38 + 4 * s + 3) v4) 63 1 (nI (s + 1))) 61 8 0) 61 1 0) 61 = (up (up (up (I 61) 0 0) 8 0) 1 0) := by rw [uIe, uIe, uIn (by decide), uIn (by decide), uIn (by decide), uIn (by decide), uIn (by decide), uIe, uIn (by decide), uIn (by decide), uIn (by decide), uIn (by decide), uIn (by decide), uIn (by decide), uIn (by decide)]
        have e63 : (uI (uI (uI (uI (uI (uI (uI (uI (uI (uI (uI (uI (uI (uI (uI I 34 1 0) 8 s v1) 9 s v2) 10 s v3) 11 s v4) 7 0 (nI (s + 1))) 0 18 0) 61 0 0) 63 (38 + 4 * s) v1) 63 (38 + 4 * s + 1) v2) 63 (38 + 4 * s + 2) v3) 63 (38 + 4 * s + 3) v4) 63 1 (nI (s + 1))) 61 8 0) 61 1 0) 63 = (up (up (up (up (up (I 63) (38 + 4 * s) v1) (38 + 4 * s + 1) v2) (38 + 4 * s + 2) v3) (38 + 4 * s + 3) v4) 1 (nI (s + 1))) := by rw [uIn (by decide), uIn (by decide), uIe, uIe, uIe, uIe, uIe, uIn (by decide), uIn (by decide), uIn (by decide), uIn (by decide), uIn (by decide), uIn (by decide), uIn (by decide), uIn (by decide)]
        generalize (uI (uI (uI (uI (uI (uI (uI (uI (uI (uI (uI (uI (uI (uI (uI I 34 1 0) 8 s v1) 9 s v2) 10 s v3) 11 s v4) 7 0 (nI (s + 1))) 0 18 0) 61 0 0) 63 (38 + 4 * s) v1) 63 (38 + 4 * s + 1) v2) 63 (38 + 4 * s + 2) v3) 63 (38 + 4 * s + 3) v4) 63 1 (nI (s + 1))) 61 8 0) 61 1 0) = X at *
        have hr : ∀ k, k ≠ 1 → k ≠ 38 + 4 * s → k ≠ 38 + 4 * s + 1 → k ≠ 38 + 4 * s + 2 → k ≠ 38 + 4 * s + 3 → X 63 k = I 63 k := fun k a b c d f => by rw [e63, upn a, upn f, upn d, upn c, upn b]
        obtain ⟨⟨k0, k1, k2, k3, k4, k5, k6, k7, k8⟩, kL, kV, kB, kG⟩ := hR.2.2.2.2.2.1
        have hr1 : X 63 1 = nI (s + 1) := by rw [e63, upe]
        have g0 : X 63 (38 + 4 * s) = v1 := by rw [e63, upn (by omega), upn (by omega), upn (by omega), upn (by omega), upe]
        have g1 : X 63 (38 + 4 * s + 1) = v2 := by rw [e63, upn (by omega), upn (by omega), upn (by omega), upe]
        have g2 : X 63 (38 + 4 * s + 2) = v3 := by rw [e63, upn (by omega), upn (by omega), upe]
        have g3 : X 63 (38 + 4 * s + 3) = v4 := by rw [e63, upn (by omega), upe]
        have hM : RMs X := h.2.2.2.2.2.1.st (v := 0) (fun x hx => e x (fun q => by subst q; revert hx; decide) (fun q => by subst q; revert hx; decide) (fun q => by subst q; revert hx; decide) (fun q => by subst q; revert hx; decide) (fun q => by subst q; revert hx; decide) (fun q => by subst q; revert hx; decide) (fun q => by subst q; revert hx; decide) (fun q => by subst q; revert hx; decide) (fun q => by subst q; revert hx; decide)) e0 (by rw [e 59 (by decide) (by decide) (by decide) (by decide) (by decide) (by decide) (by decide) (by decide) (by decide), rfv_n (by decide)]) (by rw [e 62 (by decide) (by decide) (by decide) (by decide) (by decide) (by decide) (by decide) (by decide) (by decide), rfv_n (by decide)]) (fun y hy => by rw [e61, upn (fun q => by subst q; revert hy; decide), upn (fun q => by subst q; revert hy; decide), upn (fun q => by subst q; revert hy; decide)]) (by rw [e61, upe]; rfl)
        refine h.mkG (fun x hx => e x (fun q => by subst q; revert hx; decide) (fun q => by subst q; revert hx; decide) (fun q => by subst q; revert hx; decide) (fun q => by subst q; revert hx; decide) (fun q => by subst q; revert hx; decide) (fun q => by subst q; revert hx; decide) (fun q => by subst q; revert hx; decide) (fun q => by subst q; revert hx; decide) (fun q => by subst q; revert hx; decide)) (fun x hx => e x (by omega) (by omega) (by omega) (by omega) (by omega) (by omega) (by omega) (by omega) (by omega)) (fun y hy => by rw [e61, upn (fun q => by subst q; revert hy; decide), upn (fun q => by subst q; revert hy; decide), upn (fun q => by subst q; revert hy; decide)]) hM ?_ (RH.nil (by rw [e34, upe]) (by rw [e61, upn (by decide), upe]))
        refine hR.via (e 1 (by decide) (by decide) (by decide) (by decide) (by decide) (by decide) (by decide) (by decide) (by decide)) (fun x hx => e x (by omega) (by omega) (by omega) (by omega) (by omega) (by omega) (by omega) (by omega) (by omega)) (hr 3 (by omega) (by omega) (by omega) (by omega) (by omega)) (hr 4 (by omega) (by omega) (by omega) (by omega) (by omega)) (fun k hk => hr k (by omega) (by omega) (by omega) (by omega) (by omega)) ?_ ?_ ?_ (by rw [e 3 (by decide) (by decide) (by decide) (by decide) (by decide) (by decide) (by decide) (by decide) (by decide), e 4 (by decide) (by decide) (by decide) (by decide) (by decide) (by decide) (by decide) (by decide) (by decide), e 5 (by decide) (by decide) (by decide) (by decide) (by decide) (by decide) (by decide) (by decide) (by decide), e 6 (by decide) (by decide) (by decide) (by decide) (by decide) (by decide) (by decide) (by decide) (by decide)]; exact hR.2.1.r (fun k q1 q2 => hr k (by omega) (by omega) (by omega) (by omega) (by omega))) ?_ (by rw [e 12 (by decide) (by decide) (by decide) (by decide) (by decide) (by decide) (by decide) (by decide) (by decide), e 13 (by decide) (by decide) (by decide) (by decide) (by decide) (by decide) (by decide) (by decide) (by decide), e 14 (by decide) (by decide) (by decide) (by decide) (by decide) (by decide) (by decide) (by decide) (by decide)]; exact hR.2.2.2.1.r (fun k q1 q2 => hr k (by omega) (by omega) (by omega) (by omega) (by omega))) (by rw [e 15 (by decide) (by decide) (by decide) (by decide) (by decide) (by decide) (by decide) (by decide) (by decide)]; exact hR.2.2.2.2.1.r (fun k q1 q2 => hr k (by omega) (by omega) (by omega) (by omega) (by omega))) ⟨⟨?_, ?_, ?_, ?_, ?_, ?_, ?_, ?_, ?_⟩, kL.r (fun k q1 q2 => hr k (by omega) (by omega) (by omega) (by omega) (by omega)), ?_, fun t ht => ?_, fun t ht => ?_⟩
        · rw [e 2 (by decide) (by decide) (by decide) (by decide) (by decide) (by decide) (by decide) (by decide) (by decide), hr 0 (by omega) (by omega) (by omega) (by omega) (by omega)]; exact hN.2.2.1
        · rw [e7, upe, hr1]
        · rw [e7, upn (by decide), hr 2 (by omega) (by omega) (by omega) (by omega) (by omega)]; exact hN.2.2.2.2
        · intro t ht
          obtain ⟨t1, t2, t3, t4⟩ := hR.2.2.1 t ht
          rw [e8, e9, e10, e11]
          by_cases g : t = s
          · subst g
            rw [upe, upe, upe, upe, g0, g1, g2, g3]
            exact ⟨rfl, rfl, rfl, rfl⟩
          · rw [upn g, upn g, upn g, upn g, hr (38 + 4 * t) (by omega) (by omega) (by omega) (by omega) (by omega), hr (38 + 4 * t + 1) (by omega) (by omega) (by omega) (by omega) (by omega), hr (38 + 4 * t + 2) (by omega) (by omega) (by omega) (by omega) (by omega), hr (38 + 4 * t + 3) (by omega) (by omega) (by omega) (by omega) (by omega)]
            exact ⟨t1, t2, t3, t4⟩
        · rw [hr 0 (by omega) (by omega) (by omega) (by omega) (by omega)]; exact k0
        · exact ⟨s + 1, hr1, by omega⟩
        · rw [hr 2 (by omega) (by omega) (by omega) (by omega) (by omega)]; exact k2
        · rw [hr 3 (by omega) (by omega) (by omega) (by omega) (by omega)]; exact k3
        · rw [hr 3 (by omega) (by omega) (by omega) (by omega) (by omega), hr 4 (by omega) (by omega) (by omega) (by omega) (by omega)]; exact k4
        · rw [hr 5 (by omega) (by omega) (by omega) (by omega) (by omega)]; exact k5
        · rw [hr 6 (by omega) (by omega) (by omega) (by omega) (by omega)]; exact k6
        · rw [hr 7 (by omega) (by omega) (by omega) (by omega) (by omega)]; exact k7
        · rw [hr 8 (by omega) (by omega) (by omega) (by omega) (by omega)]; exact k8
        · obtain ⟨⟨v0, u1, u2, u3⟩, v1, v2, v3, v4⟩ := kV
          have hv : ∀ k, k < 17 → rV (X 63) k = rV (I 63) k := fun k hk => hr (9 + k) (by omega) (by omega) (by omega) (by omega) (by omega)
          rw [s1, qi (by omega)] at u2
          refine ⟨⟨v0, by rw [hv 0 (by omega)]; exact u1, by rw [hr1, qi (by omega)]; omega, u3⟩, by rw [hv 1 (by omega)]; exact v1, by rw [hv 2 (by omega)]; exact v2, by rw [hv 4 (by omega)]; exact v3, fun i hi => ?_⟩
          rw [hv _ (by omega), hv _ (by omega), hr _ (by omega) (by omega) (by omega) (by omega) (by omega)]; exact v4 i hi
        · by_cases g : t = s
          · subst g
            rw [g0, g1, g2, g3]
            have x1 : -9 ≤ v1.toInt ∧ v1.toInt ≤ 9 := wi1.mp w1
            have x2 : 1 ≤ v2.toInt ∧ v2.toInt ≤ 99 := wi1.mp w2
            have x3 : -3 ≤ v3.toInt ∧ v3.toInt ≤ 3 := wi1.mp w3
            have x4 : 0 ≤ v4.toInt ∧ v4.toInt ≤ 31 := wi1.mp w4
            exact ⟨x1, ⟨_, qof (by omega), by rw [qtn]; omega⟩, x3, ⟨_, qof x4.1, by rw [qtn]; omega⟩⟩
          · rw [hr (38 + 4 * t) (by omega) (by omega) (by omega) (by omega) (by omega), hr (38 + 4 * t + 1) (by omega) (by omega) (by omega) (by omega) (by omega), hr (38 + 4 * t + 2) (by omega) (by omega) (by omega) (by omega) (by omega), hr (38 + 4 * t + 3) (by omega) (by omega) (by omega) (by omega) (by omega)]
            exact kB t ht
        · have e2 : X 63 2 = I 63 2 := hr 2 (by omega) (by omega) (by omega) (by omega) (by omega)
          rw [e2] at ht
          have := KR.le8 hR.2.2.2.2.2.1.1
          obtain ⟨⟨b, b1, b2⟩, b3, b4⟩ := kG t ht
          rw [s1, qi (by omega)] at b2
          rw [hr (86 + 3 * t) (by omega) (by omega) (by omega) (by omega) (by omega), hr (86 + 3 * t + 1) (by omega) (by omega) (by omega) (by omega) (by omega), hr (86 + 3 * t + 2) (by omega) (by omega) (by omega) (by omega) (by omega), hr1, qi (by omega)]
          exact ⟨⟨b, b1, by omega⟩, b3, b4⟩
      · exfalso
        rw [e631] at q
        have := (qeq (b := 12) (by omega) (by omega)).mp q
        omega
    · refine sp_settle h.1.l59 (by decide) ?_
      show F12_bend n S _ J v1 v2 v3 v4 (fun y I2 J2 => -5 = y ∧ Inv S I2 J2)
      have c4 : s = 12 := by
        rw [e70] at c4
        by_cases g : s < 12
        · exact absurd ((qlt (b := 12) (by omega) (by omega)).mpr g) c4
        · omega
      unfold F12_bend F12_bend1 F12_bend1_53
      refine ⟨fun q => absurd (m1.symm.trans q) w1, fun _ => ⟨fun q => absurd (m2.symm.trans q) w2, fun _ => ⟨fun q => absurd (m3.symm.trans q) w3, fun _ => ⟨fun _ => ⟨fun q => ?_, fun _ => no _ (by decide) (by decide)⟩, fun q => absurd (m4.symm.trans q) w4⟩⟩⟩⟩
      exfalso
      rw [c63, s1, c4] at q
      exact q rfl
  · refine sp_settle h.1.l59 (by decide) ?_
    show F12_bend n S _ J v1 v2 v3 v4 (fun y I2 J2 => -1 = y ∧ Inv S I2 J2)
    have c1 := canBe0.mp c1
    unfold F12_bend F12_bend1 F12_bend1_53
    have no1 := no (-1) (by decide) (by decide)
    refine ⟨fun _ => no1, fun w1 => ⟨fun _ => no1, fun w2 => ⟨fun _ => no1, fun w3 => ⟨fun w4 => ?_, fun _ => no1⟩⟩⟩⟩
    exfalso
    rcases c1 with q | q | q | q
    · exact w1 (m1.trans q)
    · exact w2 (m2.trans q)
    · exact w3 (m3.trans q)
    · exact w4 (m4.trans q)
end UZ
