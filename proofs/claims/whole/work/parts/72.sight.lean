/-! what changes the State, II: sight, bend -/
section UX
variable {n : Nat} {S : tSH} {I : tHI} {J : tHJ} {k : Int32 → tHI → tHJ → Prop}
theorem sp_see {s : Nat} {v1 v2 v3 : Int32} (hs : I 7 5 = nI s) (h8 : s < 8) (hk : k (nI (s + 1)) (uI (uI (uI (uI I 12 s v1) 13 s v2) 14 s v3) 7 5 (nI (s + 1))) J) : F7_see n S I J 7 v1 v2 v3 k := by
  have a0 : (uI I 12 s v1) 7 5 = nI s := by rw [uIn (by decide)]; exact hs
  have a1 : (uI (uI I 12 s v1) 13 s v2) 7 5 = nI s := by rw [uIn (by decide)]; exact a0
  have a2 : (uI (uI (uI I 12 s v1) 13 s v2) 14 s v3) 7 5 = nI s := by rw [uIn (by decide)]; exact a1
  have a3 : nI s + 1 = nI (s + 1) := nI_add s 1
  have a4 : (uI (uI (uI (uI I 12 s v1) 13 s v2) 14 s v3) 7 5 (nI (s + 1))) 7 5 = nI (s + 1) := by rw [uIe, upe]
  unfold F7_see
  have b : nI s < 8 := (qlt (b := 8) (by omega) (by omega)).mpr h8
  have bi : vp_in (nI s) 8 := (qin (by omega)).mpr h8
  rw [hs, qn (by omega)]
  rw [show (7 + 5 : Nat) = 12 from rfl, show (7 + 6 : Nat) = 13 from rfl, show (7 + 7 : Nat) = 14 from rfl, a0, qn (by omega), a1, qn (by omega), a2, a3, a4]
  exact ⟨fun _ => ⟨bi, bi, bi, hk⟩, fun q => absurd b q⟩
theorem sp_addB {s : Nat} {v1 v2 v3 v4 : Int32} (hs : I 7 0 = nI s) (h8 : s < 12) (hk : k (nI s) (uI (uI (uI (uI (uI I 8 s v1) 9 s v2) 10 s v3) 11 s v4) 7 0 (nI (s + 1))) J) : F7_add n S I J 7 v1 v2 v3 v4 k := by
  have a0 : (uI I 8 s v1) 7 0 = nI s := by rw [uIn (by decide)]; exact hs
  have a1 : (uI (uI I 8 s v1) 9 s v2) 7 0 = nI s := by rw [uIn (by decide)]; exact a0
  have a2 : (uI (uI (uI I 8 s v1) 9 s v2) 10 s v3) 7 0 = nI s := by rw [uIn (by decide)]; exact a1
  have a2b : (uI (uI (uI (uI I 8 s v1) 9 s v2) 10 s v3) 11 s v4) 7 0 = nI s := by rw [uIn (by decide)]; exact a2
  have a3 : nI s + 1 = nI (s + 1) := nI_add s 1
  have a4 : (uI (uI (uI (uI (uI I 8 s v1) 9 s v2) 10 s v3) 11 s v4) 7 0 (nI (s + 1))) 7 0 = nI (s + 1) := by rw [uIe, upe]
  unfold F7_add
  have b : nI s < 12 := (qlt (b := 12) (by omega) (by omega)).mpr h8
  have bi : vp_in (nI s) 12 := (qin (by omega)).mpr h8
  rw [hs, qn (by omega)]
  rw [show (7 + 1 : Nat) = 8 from rfl, show (7 + 2 : Nat) = 9 from rfl, show (7 + 3 : Nat) = 10 from rfl, show (7 + 4 : Nat) = 11 from rfl, a0, qn (by omega), a1, qn (by omega), a2, qn (by omega), a2b, a3, a4, qpred (by omega)]
  exact ⟨fun _ => ⟨bi, bi, bi, bi, hk⟩, fun q => absurd b q⟩
theorem sp_addL {s : Nat} {v1 v2 v3 : Int32} (hs : I 2 0 = nI s) (h8 : s < 6) (hk : k (nI s) (uI (uI (uI (uI (uI I 3 s v1) 4 s v2) 5 s v3) 6 s 0) 2 0 (nI (s + 1))) J) : F3_add n S I J 2 v1 v2 v3 k := by
  have a0 : (uI I 3 s v1) 2 0 = nI s := by rw [uIn (by decide)]; exact hs
  have a1 : (uI (uI I 3 s v1) 4 s v2) 2 0 = nI s := by rw [uIn (by decide)]; exact a0
  have a2 : (uI (uI (uI I 3 s v1) 4 s v2) 5 s v3) 2 0 = nI s := by rw [uIn (by decide)]; exact a1
  have a2b : (uI (uI (uI (uI I 3 s v1) 4 s v2) 5 s v3) 6 s 0) 2 0 = nI s := by rw [uIn (by decide)]; exact a2
  have a3 : nI s + 1 = nI (s + 1) := nI_add s 1
  have a4 : (uI (uI (uI (uI (uI I 3 s v1) 4 s v2) 5 s v3) 6 s 0) 2 0 (nI (s + 1))) 2 0 = nI (s + 1) := by rw [uIe, upe]
  unfold F3_add
  have b : nI s < 6 := (qlt (b := 6) (by omega) (by omega)).mpr h8
  have bi : vp_in (nI s) 6 := (qin (by omega)).mpr h8
  rw [hs, qn (by omega)]
  rw [show (2 + 1 : Nat) = 3 from rfl, show (2 + 2 : Nat) = 4 from rfl, show (2 + 3 : Nat) = 5 from rfl, show (2 + 4 : Nat) = 6 from rfl, a0, qn (by omega), a1, qn (by omega), a2, qn (by omega), a2b, a3, a4, qpred (by omega)]
  exact ⟨fun _ => ⟨bi, bi, bi, bi, hk⟩, fun q => absurd b q⟩
end UX
section UY
variable {n : Nat} {S : tSH} {I : tHI} {J : tHJ}
theorem st_sight : tSt_sight n Inv := by
  intro S I J v1 v2 v3 h
  have hR := h.2.1
  have hN := hR.1
  obtain ⟨s, s1, s2⟩ := hR.2.2.2.2.2.1.1.2.2.1
  obtain ⟨B, b1, b2⟩ := hR.2.2.2.2.2.1.1.2.1
  have e75 : I 7 5 = nI s := by rw [← s1]; exact hN.2.2.2.2
  have e70 : I 7 0 = nI B := by rw [← b1]; exact hN.2.2.2.1
  have m160 : V12_in v2.toInt64 1 60 = V11_within v2 1 60 := inwi (by decide) (by decide)
  have m01 : V12_in v3.toInt64 0 1 = V11_within v3 0 1 := inwi (by decide) (by decide)
  have no : ∀ w : Int32, -7 < w.toInt → w.toInt < 0 → (F12_sight n S (cS I w) J v1 v2 v3 (fun y I2 J2 => w = y ∧ Inv S I2 J2)) → F11_settle n S I J w (fun x I1 J1 => F12_sight n S I1 J1 v1 v2 v3 (fun y I2 J2 => x = y ∧ Inv S I2 J2)) := fun w w1 w2 q => sp_settle h.1.l59 w1 q
  have c63 : ∀ w : Int32, (uI (cS I w) 61 0 0) 63 = I 63 := fun w => by rw [uIn (by decide), cS_o (by decide) (by decide)]
  unfold F11_sight F11_sight_19
  refine ⟨fun c1 => ?_, fun c1 => ⟨fun c2 => ⟨fun c3 => ⟨fun c4 => ?_, fun c4 => ?_⟩, fun c3 => ?_⟩, fun c2 => ?_⟩⟩
  · refine no _ (by decide) (by decide) ?_
    unfold F12_sight F12_sight_27
    exact ⟨fun _ => h.no (by decide), fun q => absurd (m160.trans c1) q⟩
  · have c4 : s < 8 := by rw [e75] at c4; exact (qlt (b := 8) (by omega) (by omega)).mp c4
    have hb : 0 ≤ v1.toInt ∧ v1.toInt < B := by
      by_cases g : 0 ≤ v1.toInt ∧ v1.toInt < B
      · exact g
      · exact absurd (has7.mpr (by rw [e70, qi (by omega)]; omega)) c3
    have hp : 1 ≤ v2.toInt ∧ v2.toInt ≤ 60 := wi1.mp c1
    have hv3 : 0 ≤ v3.toInt ∧ v3.toInt ≤ 1 := wi1.mp c2
    have hv3' : v3 = 0 ∨ v3 = 1 := by
      have : v3.toInt = 0 ∨ v3.toInt = 1 := by omega
      rcases this with g | g
      · exact Or.inl (Int32.toInt_inj.mp g)
      · exact Or.inr (Int32.toInt_inj.mp g)
    obtain ⟨b, rfl, hbB, hb31⟩ := nat_of hb.1 hb.2
    obtain ⟨p, rfl, hp2, hp31⟩ := nat_of (v := v2) (m := 61) (by omega) (by omega)
    refine sp_see e75 c4 ?_
    have hs1 : 0 ≤ (nI (s + 1)).toInt := by rw [qi (by omega)]; omega
    refine sp_settle h.1.l59 (by omega) ?_
    rw [cS_p hs1]
    show F12_sight n S _ J (nI b) (nI p) v3 (fun y I2 J2 => nI (s + 1) = y ∧ Inv S I2 J2)
    have e632 : (uI (uI (uI (uI (uI (uI I 12 s (nI b)) 13 s (nI p)) 14 s v3) 7 5 (nI (s + 1))) 0 18 0) 61 0 0) 63 2 = nI s := by rw [uIn (by decide), uIn (by decide), uIn (by decide), uIn (by decide), uIn (by decide), uIn (by decide)]; exact s1
    have e631 : (uI (uI (uI (uI (uI (uI I 12 s (nI b)) 13 s (nI p)) 14 s v3) 7 5 (nI (s + 1))) 0 18 0) 61 0 0) 63 1 = nI B := by rw [uIn (by decide), uIn (by decide), uIn (by decide), uIn (by decide), uIn (by decide), uIn (by decide)]; exact b1
    have ib := isB (S := S) (J := J) (v := nI b) e631 b2
    rw [qi (by omega)] at ib
    have q1 : 86 + 3 * nI s = nI (86 + 3 * s) := by rw [ql 86, ql 3, qmul, nI_add]
    have q2 : nI (86 + 3 * s) + 1 = nI (86 + 3 * s + 1) := nI_add _ 1
    have q3 : nI (86 + 3 * s) + 2 = nI (86 + 3 * s + 2) := nI_add _ 2
    have q4 : (uI (uI (uI (uI (uI (uI (uI (uI (uI I 12 s (nI b)) 13 s (nI p)) 14 s v3) 7 5 (nI (s + 1))) 0 18 0) 61 0 0) 63 (86 + 3 * s) (nI b)) 63 (86 + 3 * s + 1) (nI p)) 63 (86 + 3 * s + 2) v3) 63 2 = nI s := by rw [uIe, upn (by omega), uIe, upn (by omega), uIe, upn (by omega)]; exact e632
    have q5 : nI s + 1 = nI (s + 1) := nI_add s 1
    unfold F12_sight F12_sight_27
    refine ⟨fun q => absurd (m160.symm.trans q) c1, fun _ => ⟨fun _ => ⟨fun _ => ⟨fun _ => ?_, fun q => ?_⟩, fun q => absurd (ib.mp q) (by omega)⟩, fun q => absurd (m01.symm.trans q) c2⟩⟩
    · rw [e632, q1, q2, q3, qn (by omega), qn (by omega), qn (by omega), q4, q5]
      refine ⟨(qin (by omega)).mpr (by omega), (qin (by omega)).mpr (by omega), (qin (by omega)).mpr (by omega), sp_tell (by omega) ?_⟩
      rw [mS_p hs1]
      refine ⟨rfl, ?_⟩
      have e : ∀ x, x ≠ 0 → x ≠ 7 → x ≠ 12 → x ≠ 13 → x ≠ 14 → x ≠ 61 → x ≠ 63 → (uI (uI (uI (uI (uI (uI (uI (uI (uI (uI (uI I 12 s (nI b)) 13 s (nI p)) 14 s v3) 7 5 (nI (s + 1))) 0 18 0) 61 0 0) 63 (86 + 3 * s) (nI b)) 63 (86 + 3 * s + 1) (nI p)) 63 (86 + 3 * s + 2) v3) 63 2 (nI (s + 1))) 61 1 0) x = I x := fun x c0 c7 c12 c13 c14 c61 c63 => by rw [uIn c61, uIn c63, uIn c63, uIn c63, uIn c63, uIn c61, uIn c0, uIn c7, uIn c14, uIn c13, uIn c12]
      have e0 : (uI (uI (uI (uI (uI (uI (uI (uI (uI (uI (uI I 12 s (nI b)) 13 s (nI p)) 14 s v3) 7 5 (nI (s + 1))) 0 18 0) 61 0 0) 63 (86 + 3 * s) (nI b)) 63 (86 + 3 * s + 1) (nI p)) 63 (86 + 3 * s + 2) v3) 63 2 (nI (s + 1))) 61 1 0) 0 = (up (I 0) 18 0) := by rw [uIn (by decide), uIn (by decide), uIn (by decide), uIn (by decide), uIn (by decide), uIn (by decide), uIe, uIn (by decide), uIn (by decide), uIn (by decide), uIn (by decide)]
      have e7 : (uI (uI (uI (uI (uI (uI (uI (uI (uI (uI (uI I 12 s (nI b)) 13 s (nI p)) 14 s v3) 7 5 (nI (s + 1))) 0 18 0) 61 0 0) 63 (86 + 3 * s) (nI b)) 63 (86 + 3 * s + 1) (nI p)) 63 (86 + 3 * s + 2) v3) 63 2 (nI (s + 1))) 61 1 0) 7 = (up (I 7) 5 (nI (s + 1))) := by rw [uIn (by decide), uIn (by decide), uIn (by decide), uIn (by decide), uIn (by decide), uIn (by decide), uIn (by decide), uIe, uIn (by decide), uIn (by decide), uIn (by decide)]
      have e12 : (uI (uI (uI (uI (uI (uI (uI (uI (uI (uI (uI I 12 s (nI b)) 13 s (nI p)) 14 s v3) 7 5 (nI (s + 1))) 0 18 0) 61 0 0) 63 (86 + 3 * s) (nI b)) 63 (86 + 3 * s + 1) (nI p)) 63 (86 + 3 * s + 2) v3) 63 2 (nI (s + 1))) 61 1 0) 12 = (up (I 12) s (nI b)) := by rw [uIn (by decide), uIn (by decide), uIn (by decide), uIn (by decide), uIn (by decide), uIn (by decide), uIn (by decide), uIn (by decide), uIn (by decide), uIn (by decide), uIe]
      have e13 : (uI (uI (uI (uI (uI (uI (uI (uI (uI (uI (uI I 12 s (nI b)) 13 s (nI p)) 14 s v3) 7 5 (nI (s + 1))) 0 18 0) 61 0 0) 63 (86 + 3 * s) (nI b)) 63 (86 + 3 * s + 1) (nI p)) 63 (86 + 3 * s + 2) v3) 63 2 (nI (s + 1))) 61 1 0) 13 = (up (I 13) s (nI p)) := by rw [uIn (by decide), uIn (by decide), uIn (by decide), uIn (by decide), uIn (by decide), uIn (by decide), uIn (by decide), uIn (by decide), uIn (by decide), uIe, uIn (by decide)]
      have e14 : (uI (uI (uI (uI (uI (uI (uI (uI (uI (uI (uI I 12 s (nI b)) 13 s (nI p)) 14 s v3) 7 5 (nI (s + 1))) 0 18 0) 61 0 0) 63 (86 + 3 * s) (nI b)) 63 (86 + 3 * s + 1) (nI p)) 63 (86 + 3 * s + 2) v3) 63 2 (nI (s + 1))) 61 1 0) 14 = (up (I 14) s v3) := by rw [uIn (by decide), uIn (by decide), uIn (by decide), uIn (by decide), uIn (by decide), uIn (by decide), uIn (by decide), uIn (by decide), uIe, uIn (by decide), uIn (by decide)]
      have e61 : (uI (uI (uI (uI (uI (uI (uI (uI (uI (uI (uI I 12 s (nI b)) 13 s (nI p)) 14 s v3) 7 5 (nI (s + 1))) 0 18 0) 61 0 0) 63 (86 + 3 * s) (nI b)) 63 (86 + 3 * s + 1) (nI p)) 63 (86 + 3 * s + 2) v3) 63 2 (nI (s + 1))) 61 1 0) 61 = (up (up (I 61) 0 0) 1 0) := by rw [uIe, uIn (by decide), uIn (by decide), uIn (by decide), uIn (by decide), uIe, uIn (by decide), uIn (by decide), uIn (by decide), uIn (by decide), uIn (by decide)]
      have e63 : (uI (uI (uI (uI (uI (uI (uI (uI (uI (uI (uI I 12 s (nI b)) 13 s (nI p)) 14 s v3) 7 5 (nI (s + 1))) 0 18 0) 61 0 0) 63 (86 + 3 * s) (nI b)) 63 (86 + 3 * s + 1) (nI p)) 63 (86 + 3 * s + 2) v3) 63 2 (nI (s + 1))) 61 1 0) 63 = (up (up (up (up (I 63) (86 + 3 * s) (nI b)) (86 + 3 * s + 1) (nI p)) (86 + 3 * s + 2) v3) 2 (nI (s + 1))) := by rw [uIn (by decide), uIe, uIe, uIe, uIe, uIn (by decide), uIn (by decide), uIn (by decide), uIn (by decide), uIn (by decide), uIn (by decide)]
      generalize (uI (uI (uI (uI (uI (uI (uI (uI (uI (uI (uI I 12 s (nI b)) 13 s (nI p)) 14 s v3) 7 5 (nI (s + 1))) 0 18 0) 61 0 0) 63 (86 + 3 * s) (nI b)) 63 (86 + 3 * s + 1) (nI p)) 63 (86 + 3 * s + 2) v3) 63 2 (nI (s + 1))) 61 1 0) = X at *
      have hr : ∀ k, k ≠ 2 → k ≠ 86 + 3 * s → k ≠ 86 + 3 * s + 1 → k ≠ 86 + 3 * s + 2 → X 63 k = I 63 k := fun k a b c d => by rw [e63, upn a, upn d, upn c, upn b]
      obtain ⟨⟨k0, k1, k2, k3, k4, k5, k6, k7, k8⟩, kL, kV, kB, kG⟩ := hR.2.2.2.2.2.1
      have hr2 : X 63 2 = nI (s + 1) := by rw [e63, upe]
      have g0 : X 63 (86 + 3 * s) = nI b := by rw [e63, upn (by omega), upn (by omega), upn (by omega), upe]
      have g1 : X 63 (86 + 3 * s + 1) = nI p := by rw [e63, upn (by omega), upn (by omega), upe]
      have g2 : X 63 (86 + 3 * s + 2) = v3 := by rw [e63, upn (by omega), upe]
      have hM : RMs X := h.2.2.2.2.2.1.st (v := 0) (fun x hx => e x (fun q => by subst q; revert hx; decide) (fun q => by subst q; revert hx; decide) (fun q => by subst q; revert hx; decide) (fun q => by subst q; revert hx; decide) (fun q => by subst q; revert hx; decide) (fun q => by subst q; revert hx; decide) (fun q => by subst q; revert hx; decide)) e0 (by rw [e 59 (by decide) (by decide) (by decide) (by decide) (by decide) (by decide) (by decide), rfv_n (by decide)]) (by rw [e 62 (by decide) (by decide) (by decide) (by decide) (by decide) (by decide) (by decide), rfv_n (by decide)]) (fun y hy => by rw [e61, upn (fun q => by subst q; revert hy; decide), upn (fun q => by subst q; revert hy; decide)]) (by rw [e61, upe]; rfl)
      refine h.mkG (fun x hx => e x (fun q => by subst q; revert hx; decide) (fun q => by subst q; revert hx; decide) (fun q => by subst q; revert hx; decide) (fun q => by subst q; revert hx; decide) (fun q => by subst q; revert hx; decide) (fun q => by subst q; revert hx; decide) (fun q => by subst q; revert hx; decide)) (fun x hx => e x (by omega) (by omega) (by omega) (by omega) (by omega) (by omega) (by omega)) (fun y hy => by rw [e61, upn (fun q => by subst q; revert hy; decide), upn (fun q => by subst q; revert hy; decide)]) hM ?_ ?_
      · refine hR.via (e 1 (by decide) (by decide) (by decide) (by decide) (by decide) (by decide) (by decide)) (fun x hx => e x (by omega) (by omega) (by omega) (by omega) (by omega) (by omega) (by omega)) (hr 3 (by omega) (by omega) (by omega) (by omega)) (hr 4 (by omega) (by omega) (by omega) (by omega)) (fun k hk => hr k (by omega) (by omega) (by omega) (by omega)) ?_ ?_ ?_ (by rw [e 3 (by decide) (by decide) (by decide) (by decide) (by decide) (by decide) (by decide), e 4 (by decide) (by decide) (by decide) (by decide) (by decide) (by decide) (by decide), e 5 (by decide) (by decide) (by decide) (by decide) (by decide) (by decide) (by decide), e 6 (by decide) (by decide) (by decide) (by decide) (by decide) (by decide) (by decide)]; exact hR.2.1.r (fun k q1 q2 => hr k (by omega) (by omega) (by omega) (by omega))) (by rw [e 8 (by decide) (by decide) (by decide) (by decide) (by decide) (by decide) (by decide), e 9 (by decide) (by decide) (by decide) (by decide) (by decide) (by decide) (by decide), e 10 (by decide) (by decide) (by decide) (by decide) (by decide) (by decide) (by decide), e 11 (by decide) (by decide) (by decide) (by decide) (by decide) (by decide) (by decide)]; exact hR.2.2.1.r (fun k q1 q2 => hr k (by omega) (by omega) (by omega) (by omega))) ?_ (by rw [e 15 (by decide) (by decide) (by decide) (by decide) (by decide) (by decide) (by decide)]; exact hR.2.2.2.2.1.r (fun k q1 q2 => hr k (by omega) (by omega) (by omega) (by omega))) ⟨⟨?_, ?_, ?_, ?_, ?_, ?_, ?_, ?_, ?_⟩, kL.r (fun k q1 q2 => hr k (by omega) (by omega) (by omega) (by omega)), kV.r (hr 1 (by omega) (by omega) (by omega) (by omega)) (fun k q1 q2 => hr k (by omega) (by omega) (by omega) (by omega)) (fun k q => hr (9 + k) (by omega) (by omega) (by omega) (by omega)), kB.r (fun k q1 q2 => hr k (by omega) (by omega) (by omega) (by omega)), fun t ht => ?_⟩
        · rw [e 2 (by decide) (by decide) (by decide) (by decide) (by decide) (by decide) (by decide), hr 0 (by omega) (by omega) (by omega) (by omega)]; exact hN.2.2.1
        · rw [e7, upn (by decide), hr 1 (by omega) (by omega) (by omega) (by omega)]; exact hN.2.2.2.1
        · rw [e7, upe, hr2]
        · intro t ht
          obtain ⟨t1, t2, t3⟩ := hR.2.2.2.1 t ht
          rw [e12, e13, e14]
          by_cases g : t = s
          · subst g
            rw [upe, upe, upe, g0, g1, g2]
            exact ⟨rfl, rfl, rfl⟩
          · rw [upn g, upn g, upn g, hr (86 + 3 * t) (by omega) (by omega) (by omega) (by omega), hr (86 + 3 * t + 1) (by omega) (by omega) (by omega) (by omega), hr (86 + 3 * t + 2) (by omega) (by omega) (by omega) (by omega)]
            exact ⟨t1, t2, t3⟩
        · rw [hr 0 (by omega) (by omega) (by omega) (by omega)]; exact k0
        · rw [hr 1 (by omega) (by omega) (by omega) (by omega)]; exact k1
        · exact ⟨s + 1, hr2, by omega⟩
        · rw [hr 3 (by omega) (by omega) (by omega) (by omega)]; exact k3
        · rw [hr 3 (by omega) (by omega) (by omega) (by omega), hr 4 (by omega) (by omega) (by omega) (by omega)]; exact k4
        · rw [hr 5 (by omega) (by omega) (by omega) (by omega)]; exact k5
        · rw [hr 6 (by omega) (by omega) (by omega) (by omega)]; exact k6
        · rw [hr 7 (by omega) (by omega) (by omega) (by omega)]; exact k7
        · rw [hr 8 (by omega) (by omega) (by omega) (by omega)]; exact k8
        · rw [hr2, qi (by omega)] at ht
          by_cases g : t = s
          · subst g
            rw [g0, g1, g2, hr 1 (by omega) (by omega) (by omega) (by omega)]
            exact ⟨⟨b, rfl, by rw [b1, qi (by omega)]; exact hbB⟩, ⟨p, rfl, by rw [qi (by omega)] at hp; omega, by omega⟩, hv3'⟩
          · rw [hr (86 + 3 * t) (by omega) (by omega) (by omega) (by omega), hr (86 + 3 * t + 1) (by omega) (by omega) (by omega) (by omega), hr (86 + 3 * t + 2) (by omega) (by omega) (by omega) (by omega), hr 1 (by omega) (by omega) (by omega) (by omega)]
            exact kG t (by rw [s1, qi (by omega)]; omega)
      · rw [e 34 (by decide) (by decide) (by decide) (by decide) (by decide) (by decide) (by decide), e 35 (by decide) (by decide) (by decide) (by decide) (by decide) (by decide) (by decide), e 66 (by decide) (by decide) (by decide) (by decide) (by decide) (by decide) (by decide), e 67 (by decide) (by decide) (by decide) (by decide) (by decide) (by decide) (by decide)]
        exact h.2.2.1.r (by rw [e61, upn (by decide), upn (by decide)]) (hr 0 (by omega) (by omega) (by omega) (by omega)) (hr 1 (by omega) (by omega) (by omega) (by omega)) (fun k q1 q2 => hr k (by omega) (by omega) (by omega) (by omega)) (fun k q1 q2 => hr k (by omega) (by omega) (by omega) (by omega))
    · exfalso
      rw [e632] at q
      have := (qeq (b := 8) (by omega) (by omega)).mp q
      omega
  · refine no _ (by decide) (by decide) ?_
    have c4 : s = 8 := by
      rw [e75] at c4
      by_cases g : s < 8
      · exact absurd ((qlt (b := 8) (by omega) (by omega)).mpr g) c4
      · omega
    unfold F12_sight F12_sight_27
    have hb : 0 ≤ v1.toInt ∧ v1.toInt < B := by
      by_cases g : 0 ≤ v1.toInt ∧ v1.toInt < B
      · exact g
      · exact absurd (has7.mpr (by rw [e70, qi (by omega)]; omega)) c3
    have ib := isB (S := S) (J := J) (v := v1) (I := uI (cS I (-5)) 61 0 0) (by rw [c63]; exact b1) b2
    refine ⟨fun q => absurd (m160.symm.trans q) c1, fun _ => ⟨fun _ => ⟨fun _ => ⟨fun q => ?_, fun _ => h.no (by decide)⟩, fun q => absurd hb (ib.mp q)⟩, fun q => absurd (m01.symm.trans q) c2⟩⟩
    exfalso
    rw [c63, s1, c4] at q
    exact q rfl
  · refine no _ (by decide) (by decide) ?_
    have hb := has7.mp c3
    rw [e70, qi (by omega)] at hb
    have ib := isB (S := S) (J := J) (v := v1) (I := uI (cS I (-2)) 61 0 0) (by rw [c63]; exact b1) b2
    unfold F12_sight F12_sight_27
    exact ⟨fun q => absurd (m160.symm.trans q) c1, fun _ => ⟨fun _ => ⟨fun q => absurd (ib.mpr (by omega)) q, fun _ => h.no (by decide)⟩, fun q => absurd (m01.symm.trans q) c2⟩⟩
  · refine no _ (by decide) (by decide) ?_
    unfold F12_sight F12_sight_27
    exact ⟨fun q => absurd (m160.symm.trans q) c1, fun _ => ⟨fun q => absurd (m01.trans c2) q, fun _ => h.no (by decide)⟩⟩
end UY
