/-! undo, II -/
section UN2
variable {n : Nat} {S : tSH} {I : tHI} {J : tHJ}
theorem st_undo (hn : 400 < n) : tSt_undo n Inv := by
  intro S I J h
  have hR := h.2.1
  have hN := hR.1
  obtain ⟨hc, hc16, h34, h61, H⟩ := h.2.2.1
  have H : HRs hc (I 35) (I 66) (I 67) (I 63) := H
  obtain ⟨N, n1, n2⟩ := hR.2.2.2.2.2.1.1.1
  have h20 : (I 2 0).toInt = N := by have : I 2 0 = I 63 0 := hN.2.2.1; rw [this, n1, qi (by omega)]
  unfold F11_undo
  refine ⟨fun c => ?_, fun c => ?_⟩
  · obtain ⟨q, rfl⟩ : ∃ q, hc = q + 1 := ⟨hc - 1, by
      have : hc ≠ 0 := fun e => by subst e; exact c h34
      omega⟩
    obtain ⟨⟨kd, kd5, kd1, kd2⟩, ⟨x1, x2, x3, x4, x5⟩, hKV, z⟩ := H q (by omega)
    refine sp_takeBack (h := q) (by omega) h34 h.1.l35 h20 (fun X l a1 a2 a3 a4 => ?_)
    rw [kd1]
    have hkp : 0 ≤ (nI kd).toInt := by rw [qi (by omega)]; omega
    refine sp_settle h.1.l59 (by omega) ?_
    rw [cS_p hkp]
    show F12_undo n S _ J (fun y I2 J2 => nI kd = y ∧ Inv S I2 J2)
    have e8 : (uI (uI X 0 18 0) 61 0 0) 61 8 = nI (q + 1) := by rw [uIe, upn (by decide), uIn (by decide), a1 61 (by decide) (by decide) (by decide) (by decide)]; exact h61
    have e9 : nI (q + 1) - 1 = nI q := qpred (by omega)
    have e10 : (uI (uI (uI X 0 18 0) 61 0 0) 61 8 (nI q)) 61 8 = nI q := by rw [uIe, upe]
    unfold F12_undo
    refine ⟨fun _ => ?_, fun g => ?_⟩
    · rw [e8, e9, e10]
      refine sp_putBack (by omega) (by omega) (fun Y b1 b2 b3 => ?_)
      have f8 : Y 61 8 = nI q := by rw [b1 61 (by decide)]; exact e10
      have f67 : Y 67 q = nI kd := by rw [b1 67 (by decide), uIn (by decide), uIn (by decide), uIn (by decide), a1 67 (by decide) (by decide) (by decide) (by decide)]; exact kd2
      rw [f8, qn (by omega), f67]
      refine ⟨(qin (by omega)).mpr (by omega), sp_tell (by omega) ?_⟩
      rw [mS_p hkp]
      refine ⟨rfl, ?_⟩
      have e : ∀ x, x ≠ 0 → x ≠ 4 → x ≠ 6 → x ≠ 15 → x ≠ 34 → x ≠ 61 → x ≠ 63 → (uI Y 61 1 0) x = I x := fun x c0 c4 c6 c15 c34 c61 c63 => by rw [uIn c61, b1 x c63, uIn c61, uIn c61, uIn c0, a1 x c34 c15 c4 c6]
      have e0 : (uI Y 61 1 0) 0 = up (I 0) 18 0 := by rw [uIn (by decide), b1 0 (by decide), uIn (by decide), uIn (by decide), uIe, a1 0 (by decide) (by decide) (by decide) (by decide)]
      have e4 : (uI Y 61 1 0) 4 = X 4 := by rw [uIn (by decide), b1 4 (by decide), uIn (by decide), uIn (by decide), uIn (by decide)]
      have e6 : (uI Y 61 1 0) 6 = X 6 := by rw [uIn (by decide), b1 6 (by decide), uIn (by decide), uIn (by decide), uIn (by decide)]
      have e15 : (uI Y 61 1 0) 15 = X 15 := by rw [uIn (by decide), b1 15 (by decide), uIn (by decide), uIn (by decide), uIn (by decide)]
      have e34 : (uI Y 61 1 0) 34 = X 34 := by rw [uIn (by decide), b1 34 (by decide), uIn (by decide), uIn (by decide), uIn (by decide)]
      have e61 : (uI Y 61 1 0) 61 = up (up (up (I 61) 0 0) 8 (nI q)) 1 0 := by rw [uIe, b1 61 (by decide), uIe, uIe, uIn (by decide), a1 61 (by decide) (by decide) (by decide) (by decide)]
      have r1 : ∀ y, y < 9 ∨ 26 ≤ y → (uI Y 61 1 0) 63 y = I 63 y := fun y hy => by rw [uIn (by decide), b2 y hy, uIn (by decide), uIn (by decide), uIn (by decide), a1 63 (by decide) (by decide) (by decide) (by decide)]
      have r2 : ∀ i, i < 17 → (uI Y 61 1 0) 63 (9 + i) = I 66 (17 * q + i) := fun i hi => by rw [uIn (by decide), b3 i hi, uIn (by decide), uIn (by decide), uIn (by decide), a1 66 (by decide) (by decide) (by decide) (by decide)]
      generalize (uI Y 61 1 0) = W at *
      have r9 : W 63 9 = I 66 (17 * q) := r2 0 (by omega)
      have hM : RMs W := h.2.2.2.2.2.1.st (v := 0) (fun x hx => e x (fun q => by subst q; revert hx; decide) (fun q => by subst q; revert hx; decide) (fun q => by subst q; revert hx; decide) (fun q => by subst q; revert hx; decide) (fun q => by subst q; revert hx; decide) (fun q => by subst q; revert hx; decide) (fun q => by subst q; revert hx; decide)) e0 (by rw [e 59 (by decide) (by decide) (by decide) (by decide) (by decide) (by decide) (by decide), rfv_n (by decide)]) (by rw [e 62 (by decide) (by decide) (by decide) (by decide) (by decide) (by decide) (by decide), rfv_n (by decide)]) (fun y hy => by rw [e61, upn (fun q => by subst q; revert hy; decide), upn (fun q => by subst q; revert hy; decide), upn (fun q => by subst q; revert hy; decide)]) (by rw [e61, upe]; rfl)
      have e89 : ∀ x, 89 ≤ x → W x = I x := fun x hx => e x (by omega) (by omega) (by omega) (by omega) (by omega) (by omega) (by omega)
      refine h.mkG (fun x hx => e x (fun q => by subst q; revert hx; decide) (fun q => by subst q; revert hx; decide) (fun q => by subst q; revert hx; decide) (fun q => by subst q; revert hx; decide) (fun q => by subst q; revert hx; decide) (fun q => by subst q; revert hx; decide) (fun q => by subst q; revert hx; decide)) e89 (fun y hy => by rw [e61, upn (fun q => by subst q; revert hy; decide), upn (fun q => by subst q; revert hy; decide), upn (fun q => by subst q; revert hy; decide)]) hM ?_ ?_
      · obtain ⟨k0, k1, k2, k3, k4⟩ := hR.2.2.2.2.2.1
        refine hR.via (e 1 (by decide) (by decide) (by decide) (by decide) (by decide) (by decide) (by decide)) e89 (r1 3 (by omega)) (r1 4 (by omega)) (fun k hk => r1 k (by omega)) ?_ ?_ ?_ ?_ ?_ ?_ ?_ ⟨k0.r (fun k hk => r1 k (by omega)), k1.r (fun k p q => r1 k (by omega)), ?_, k3.r (fun k p q => r1 k (by omega)), k4.r (r1 1 (by omega)) (r1 2 (by omega)) (fun k p q => r1 k (by omega)) (KR.le8 k0)⟩
        · rw [e 2 (by decide) (by decide) (by decide) (by decide) (by decide) (by decide) (by decide), r1 0 (by omega)]; exact hN.2.2.1
        · rw [e 7 (by decide) (by decide) (by decide) (by decide) (by decide) (by decide) (by decide), r1 1 (by omega)]; exact hN.2.2.2.1
        · rw [e 7 (by decide) (by decide) (by decide) (by decide) (by decide) (by decide) (by decide), r1 2 (by omega)]; exact hN.2.2.2.2
        · intro t ht
          obtain ⟨t1, t2, t3, t4⟩ := hR.2.1 t ht
          have t1 : I 3 t = I 63 (26 + t) := t1
          have t2 : I 4 t = I 63 (14 + t) := t2
          have t3 : I 5 t = I 63 (32 + t) := t3
          have t4 : I 6 t = I 63 (20 + t) := t4
          have s1 : W 63 (14 + t) = I 66 (17 * q + (5 + t)) := by rw [← r2 (5 + t) (by omega)]; congr 1; omega
          have s2 : W 63 (20 + t) = I 66 (17 * q + (11 + t)) := by rw [← r2 (11 + t) (by omega)]; congr 1; omega
          rw [e 3 (by decide) (by decide) (by decide) (by decide) (by decide) (by decide) (by decide), e4, e 5 (by decide) (by decide) (by decide) (by decide) (by decide) (by decide) (by decide), e6, r1 (26 + t) (by omega), r1 (32 + t) (by omega), s1, s2]
          rcases z with ⟨l1, l2⟩ | ⟨l', l1, l2, l3, l4, l5, l6⟩
          · have g1 := l2 t (by omega)
            have g2 := l2 (6 + t) (by omega)
            rw [if_pos rfl] at g1 g2
            rcases a4 with ⟨-, f4, f6⟩ | ⟨f, fl, -, -⟩
            · rw [f4, f6]
              refine ⟨t1, ?_, t3, ?_⟩
              · rw [t2, g1]; congr 1; omega
              · rw [t4, show 11 + t = 5 + (6 + t) by omega, g2]; congr 1; omega
            · exfalso
              rw [l1] at f
              have := congrArg Int32.toInt f
              rw [qneg, qi (by omega)] at this
              omega
          · have lN : (l' : Int) < N := by rw [n1, qi (by omega)] at l3; exact l3
            rcases a4 with ⟨f, -, -⟩ | ⟨f, f2, f4, f6⟩
            · exfalso
              rw [l1, qi (by omega)] at f
              omega
            · have el : l = l' := by
                rw [l1] at f
                exact ((qeq (by omega) (by omega)).mp f).symm
              subst el
              rw [f4, f6]
              by_cases g : t = l
              · subst g
                rw [upe, upe]
                exact ⟨t1, l4, t3, l5⟩
              · rw [upn g, upn g]
                obtain ⟨g1, g2⟩ := l6 t ht g
                rw [if_pos rfl] at g1 g2
                refine ⟨t1, ?_, t3, ?_⟩
                · rw [t2, g1]; congr 1; omega
                · rw [t4, g2]; congr 1; omega
        · rw [e 8 (by decide) (by decide) (by decide) (by decide) (by decide) (by decide) (by decide), e 9 (by decide) (by decide) (by decide) (by decide) (by decide) (by decide) (by decide), e 10 (by decide) (by decide) (by decide) (by decide) (by decide) (by decide) (by decide), e 11 (by decide) (by decide) (by decide) (by decide) (by decide) (by decide) (by decide)]
          exact hR.2.2.1.r (fun k p q => r1 k (by omega))
        · rw [e 12 (by decide) (by decide) (by decide) (by decide) (by decide) (by decide) (by decide), e 13 (by decide) (by decide) (by decide) (by decide) (by decide) (by decide) (by decide), e 14 (by decide) (by decide) (by decide) (by decide) (by decide) (by decide) (by decide)]
          exact hR.2.2.2.1.r (fun k p q => r1 k (by omega))
        · obtain ⟨t0, t1, t2, t3, t4, t5, t6, t7, t8⟩ := hR.2.2.2.2.1
          rw [e15, a3]
          refine ⟨?_, ?_, ?_, ?_, ?_, ?_, ?_, ?_, ?_⟩
          · rw [upn (by decide), upn (by decide), upn (by decide), upn (by decide), upn (by decide), r1 8 (by omega)]; exact t0
          · rw [upn (by decide), upn (by decide), upe, x3]; exact (r2 2 (by omega)).symm
          · rw [upn (by decide), upn (by decide), upn (by decide), upn (by decide), upe, x1]; exact r9.symm
          · rw [upn (by decide), upn (by decide), upn (by decide), upe, x2]; exact (r2 1 (by omega)).symm
          · rw [upn (by decide), upe, x4]; exact (r2 3 (by omega)).symm
          · rw [upe, x5]; exact (r2 4 (by omega)).symm
          · rw [upn (by decide), upn (by decide), upn (by decide), upn (by decide), upn (by decide), r1 5 (by omega)]; exact t6
          · rw [upn (by decide), upn (by decide), upn (by decide), upn (by decide), upn (by decide), r1 6 (by omega)]; exact t7
          · rw [upn (by decide), upn (by decide), upn (by decide), upn (by decide), upn (by decide), r1 7 (by omega)]; exact t8
        · exact hKV.r (r1 1 (by omega)) (fun k p q => r1 k (by omega)) (fun i hi => r2 i hi)
      · rw [e 35 (by decide) (by decide) (by decide) (by decide) (by decide) (by decide) (by decide), e 66 (by decide) (by decide) (by decide) (by decide) (by decide) (by decide) (by decide), e 67 (by decide) (by decide) (by decide) (by decide) (by decide) (by decide) (by decide)]
        exact ⟨q, by omega, by rw [e34]; exact a2, by rw [e61, upn (by decide), upe], H.pop (r1 0 (by omega)) (r1 1 (by omega)) (fun k p q => r1 k (by omega)) r2⟩
    · exfalso
      rw [e8] at g
      have := (qeq (b := 0) (by omega) (by omega)).mp g
      omega
  · refine sp_settle h.1.l59 (by decide) ?_
    show F12_undo n S _ J (fun y I2 J2 => -3 = y ∧ Inv S I2 J2)
    have e8 : (uI (cS I (-3)) 61 0 0) 61 8 = 0 := by
      rw [uIe, upn (by decide), cS_o (by decide) (by decide)]
      have : hc = 0 := by
        rw [h34] at c
        exact (qeq (b := 0) (by omega) (by omega)).mp c
      subst this
      exact h61
    unfold F12_undo
    exact ⟨fun g => absurd e8 g, fun _ => h.no (by decide)⟩
end UN2
