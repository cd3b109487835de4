/-! the simple calls, I: what only looks, and what changes a number or two -/
theorem s61 {I : tHI} {a : Nat} (h : a ≠ 0) : (uI I 61 0 0) 61 a = I 61 a := by rw [uIe]; exact upn h
theorem Inv.th {S : tSH} {I : tHI} {J : tHJ} (h : Inv S I J) : Inv S (uI I 61 0 0) J := h.keep (KpI.f61 (by decide)) (KpJ.rf J)
theorem st_mud {n : Nat} : tSt_mud n Inv := by
  intro S I J h
  unfold F12_mud
  refine ⟨?_, h.th⟩
  rw [s61 (by decide)]
  exact h.2.2.2.2.2.1.1.2.2.1
theorem st_fault {n : Nat} : tSt_fault n Inv := by
  intro S I J h
  unfold F12_fault
  refine ⟨?_, h.th⟩
  rw [s61 (by decide)]
  exact h.2.2.2.2.2.1.1.1
theorem st_stopped {n : Nat} : tSt_stopped n Inv := by
  intro S I J h
  unfold F12_stopped
  refine ⟨?_, h.th⟩
  rw [s61 (by decide)]
  exact h.2.2.2.2.2.1.1.2.1
theorem st_status {n : Nat} : tSt_status n Inv := by
  intro S I J h
  unfold F12_status
  refine ⟨?_, h.th⟩
  rw [s61 (by decide)]
  exact h.2.2.2.2.2.1.1.2.2.2
theorem st_count {n : Nat} : tSt_count n Inv := by
  intro S I J v1 h
  have h2 := h.2.1
  have hT : RT (I 15) (I 63) := h2.2.2.2.2.1
  have hM : RM (I 0) (I 40) (I 59) (I 60) (I 61) (I 62) (I 88) := h.2.2.2.2.2.1
  unfold F11_count
  refine ⟨fun c => ?_, fun c => ?_, fun c => ?_, fun c => ?_, fun c => ?_, fun c => ?_, fun c => ?_, fun c => ?_, fun c => ?_, fun c => ?_, fun c => ?_, fun c => ?_, fun c => ?_, fun c => ?_, fun c => ?_, fun c => ?_, fun c => ?_, fun c => ?_, fun c => ?_⟩
  · subst c
    unfold F12_count
    refine ⟨fun _ => ?_, fun q => absurd q (by decide), fun q => absurd q (by decide), fun q => absurd q (by decide), fun q => absurd q (by decide), fun q => absurd q (by decide), fun q => absurd q (by decide), fun q => absurd q (by decide), fun q => absurd q (by decide), fun q => absurd q (by decide), fun q => absurd q (by decide), fun q => absurd q (by decide), fun q => absurd q (by decide), fun q => absurd q (by decide), fun q => absurd q (by decide), fun q => absurd q (by decide), fun q => absurd q (by decide), fun q => absurd q (by decide), fun q => absurd (sw_out (lo := 0) (n := 18) (by decide) (by decide) q) (by decide)⟩
    refine ⟨?_, h.th⟩
    rw [uIn (by decide)]
    exact h2.1.2.2.1
  · subst c
    unfold F12_count
    refine ⟨fun q => absurd q (by decide), fun _ => ?_, fun q => absurd q (by decide), fun q => absurd q (by decide), fun q => absurd q (by decide), fun q => absurd q (by decide), fun q => absurd q (by decide), fun q => absurd q (by decide), fun q => absurd q (by decide), fun q => absurd q (by decide), fun q => absurd q (by decide), fun q => absurd q (by decide), fun q => absurd q (by decide), fun q => absurd q (by decide), fun q => absurd q (by decide), fun q => absurd q (by decide), fun q => absurd q (by decide), fun q => absurd q (by decide), fun q => absurd (sw_out (lo := 0) (n := 18) (by decide) (by decide) q) (by decide)⟩
    refine ⟨?_, h.th⟩
    rw [uIn (by decide)]
    exact h2.1.2.2.2.1
  · subst c
    unfold F12_count
    refine ⟨fun q => absurd q (by decide), fun q => absurd q (by decide), fun _ => ?_, fun q => absurd q (by decide), fun q => absurd q (by decide), fun q => absurd q (by decide), fun q => absurd q (by decide), fun q => absurd q (by decide), fun q => absurd q (by decide), fun q => absurd q (by decide), fun q => absurd q (by decide), fun q => absurd q (by decide), fun q => absurd q (by decide), fun q => absurd q (by decide), fun q => absurd q (by decide), fun q => absurd q (by decide), fun q => absurd q (by decide), fun q => absurd q (by decide), fun q => absurd (sw_out (lo := 0) (n := 18) (by decide) (by decide) q) (by decide)⟩
    refine ⟨?_, h.th⟩
    rw [uIn (by decide)]
    exact h2.1.2.2.2.2
  · subst c
    unfold F12_count
    refine ⟨fun q => absurd q (by decide), fun q => absurd q (by decide), fun q => absurd q (by decide), fun _ => ?_, fun q => absurd q (by decide), fun q => absurd q (by decide), fun q => absurd q (by decide), fun q => absurd q (by decide), fun q => absurd q (by decide), fun q => absurd q (by decide), fun q => absurd q (by decide), fun q => absurd q (by decide), fun q => absurd q (by decide), fun q => absurd q (by decide), fun q => absurd q (by decide), fun q => absurd q (by decide), fun q => absurd q (by decide), fun q => absurd q (by decide), fun q => absurd (sw_out (lo := 0) (n := 18) (by decide) (by decide) q) (by decide)⟩
    refine ⟨?_, h.th⟩
    rw [uIn (by decide)]
    exact h2.1.1
  · subst c
    unfold F12_count
    refine ⟨fun q => absurd q (by decide), fun q => absurd q (by decide), fun q => absurd q (by decide), fun q => absurd q (by decide), fun _ => ?_, fun q => absurd q (by decide), fun q => absurd q (by decide), fun q => absurd q (by decide), fun q => absurd q (by decide), fun q => absurd q (by decide), fun q => absurd q (by decide), fun q => absurd q (by decide), fun q => absurd q (by decide), fun q => absurd q (by decide), fun q => absurd q (by decide), fun q => absurd q (by decide), fun q => absurd q (by decide), fun q => absurd q (by decide), fun q => absurd (sw_out (lo := 0) (n := 18) (by decide) (by decide) q) (by decide)⟩
    refine ⟨?_, h.th⟩
    obtain ⟨z, z1, z2, z3, z4⟩ := h.2.2.1
    rw [s61 (by decide), z3]
    exact z2
  · subst c
    unfold F12_count
    refine ⟨fun q => absurd q (by decide), fun q => absurd q (by decide), fun q => absurd q (by decide), fun q => absurd q (by decide), fun q => absurd q (by decide), fun _ => ?_, fun q => absurd q (by decide), fun q => absurd q (by decide), fun q => absurd q (by decide), fun q => absurd q (by decide), fun q => absurd q (by decide), fun q => absurd q (by decide), fun q => absurd q (by decide), fun q => absurd q (by decide), fun q => absurd q (by decide), fun q => absurd q (by decide), fun q => absurd q (by decide), fun q => absurd q (by decide), fun q => absurd (sw_out (lo := 0) (n := 18) (by decide) (by decide) q) (by decide)⟩
    refine ⟨?_, h.th⟩
    obtain ⟨z, z1, z2, z3, z4⟩ := h.2.2.2.1
    rw [s61 (by decide), z3]
    exact z2
  · subst c
    unfold F12_count
    refine ⟨fun q => absurd q (by decide), fun q => absurd q (by decide), fun q => absurd q (by decide), fun q => absurd q (by decide), fun q => absurd q (by decide), fun q => absurd q (by decide), fun _ => ?_, fun q => absurd q (by decide), fun q => absurd q (by decide), fun q => absurd q (by decide), fun q => absurd q (by decide), fun q => absurd q (by decide), fun q => absurd q (by decide), fun q => absurd q (by decide), fun q => absurd q (by decide), fun q => absurd q (by decide), fun q => absurd q (by decide), fun q => absurd q (by decide), fun q => absurd (sw_out (lo := 0) (n := 18) (by decide) (by decide) q) (by decide)⟩
    refine ⟨?_, h.th⟩
    rw [uIn (by decide)]
    exact hM.2.1.1
  · subst c
    unfold F12_count
    refine ⟨fun q => absurd q (by decide), fun q => absurd q (by decide), fun q => absurd q (by decide), fun q => absurd q (by decide), fun q => absurd q (by decide), fun q => absurd q (by decide), fun q => absurd q (by decide), fun _ => ?_, fun q => absurd q (by decide), fun q => absurd q (by decide), fun q => absurd q (by decide), fun q => absurd q (by decide), fun q => absurd q (by decide), fun q => absurd q (by decide), fun q => absurd q (by decide), fun q => absurd q (by decide), fun q => absurd q (by decide), fun q => absurd q (by decide), fun q => absurd (sw_out (lo := 0) (n := 18) (by decide) (by decide) q) (by decide)⟩
    refine ⟨?_, h.th⟩
    rw [uIn (by decide)]
    exact hM.2.1.2.1
  · subst c
    unfold F12_count
    refine ⟨fun q => absurd q (by decide), fun q => absurd q (by decide), fun q => absurd q (by decide), fun q => absurd q (by decide), fun q => absurd q (by decide), fun q => absurd q (by decide), fun q => absurd q (by decide), fun q => absurd q (by decide), fun _ => ?_, fun q => absurd q (by decide), fun q => absurd q (by decide), fun q => absurd q (by decide), fun q => absurd q (by decide), fun q => absurd q (by decide), fun q => absurd q (by decide), fun q => absurd q (by decide), fun q => absurd q (by decide), fun q => absurd q (by decide), fun q => absurd (sw_out (lo := 0) (n := 18) (by decide) (by decide) q) (by decide)⟩
    refine ⟨?_, h.th⟩
    rw [uIn (by decide)]
    exact hM.2.1.2.2.1
  · subst c
    unfold F12_count
    refine ⟨fun q => absurd q (by decide), fun q => absurd q (by decide), fun q => absurd q (by decide), fun q => absurd q (by decide), fun q => absurd q (by decide), fun q => absurd q (by decide), fun q => absurd q (by decide), fun q => absurd q (by decide), fun q => absurd q (by decide), fun _ => ?_, fun q => absurd q (by decide), fun q => absurd q (by decide), fun q => absurd q (by decide), fun q => absurd q (by decide), fun q => absurd q (by decide), fun q => absurd q (by decide), fun q => absurd q (by decide), fun q => absurd q (by decide), fun q => absurd (sw_out (lo := 0) (n := 18) (by decide) (by decide) q) (by decide)⟩
    refine ⟨?_, h.th⟩
    rw [uIn (by decide)]
    exact hM.2.1.2.2.2.1
  · subst c
    unfold F12_count
    refine ⟨fun q => absurd q (by decide), fun q => absurd q (by decide), fun q => absurd q (by decide), fun q => absurd q (by decide), fun q => absurd q (by decide), fun q => absurd q (by decide), fun q => absurd q (by decide), fun q => absurd q (by decide), fun q => absurd q (by decide), fun q => absurd q (by decide), fun _ => ?_, fun q => absurd q (by decide), fun q => absurd q (by decide), fun q => absurd q (by decide), fun q => absurd q (by decide), fun q => absurd q (by decide), fun q => absurd q (by decide), fun q => absurd q (by decide), fun q => absurd (sw_out (lo := 0) (n := 18) (by decide) (by decide) q) (by decide)⟩
    refine ⟨?_, h.th⟩
    rw [uIn (by decide)]
    exact hM.2.1.2.2.2.2
  · subst c
    unfold F12_count
    refine ⟨fun q => absurd q (by decide), fun q => absurd q (by decide), fun q => absurd q (by decide), fun q => absurd q (by decide), fun q => absurd q (by decide), fun q => absurd q (by decide), fun q => absurd q (by decide), fun q => absurd q (by decide), fun q => absurd q (by decide), fun q => absurd q (by decide), fun q => absurd q (by decide), fun _ => ?_, fun q => absurd q (by decide), fun q => absurd q (by decide), fun q => absurd q (by decide), fun q => absurd q (by decide), fun q => absurd q (by decide), fun q => absurd q (by decide), fun q => absurd (sw_out (lo := 0) (n := 18) (by decide) (by decide) q) (by decide)⟩
    refine ⟨?_, h.th⟩
    rw [uIn (by decide)]
    exact h2.1.2.1
  · subst c
    unfold F12_count
    refine ⟨fun q => absurd q (by decide), fun q => absurd q (by decide), fun q => absurd q (by decide), fun q => absurd q (by decide), fun q => absurd q (by decide), fun q => absurd q (by decide), fun q => absurd q (by decide), fun q => absurd q (by decide), fun q => absurd q (by decide), fun q => absurd q (by decide), fun q => absurd q (by decide), fun q => absurd q (by decide), fun _ => ?_, fun q => absurd q (by decide), fun q => absurd q (by decide), fun q => absurd q (by decide), fun q => absurd q (by decide), fun q => absurd q (by decide), fun q => absurd (sw_out (lo := 0) (n := 18) (by decide) (by decide) q) (by decide)⟩
    refine ⟨⟨fun q => absurd q (by decide), fun _ => ⟨by rw [vp_in_iff]; decide, trivial⟩⟩, ?_, h.th⟩
    rw [if_neg (by decide), uIn (by decide), show ((9 + 12) - 12 : Int32).toNatClampNeg = 9 by decide]
    exact hT.2.2.1
  · subst c
    unfold F12_count
    refine ⟨fun q => absurd q (by decide), fun q => absurd q (by decide), fun q => absurd q (by decide), fun q => absurd q (by decide), fun q => absurd q (by decide), fun q => absurd q (by decide), fun q => absurd q (by decide), fun q => absurd q (by decide), fun q => absurd q (by decide), fun q => absurd q (by decide), fun q => absurd q (by decide), fun q => absurd q (by decide), fun q => absurd q (by decide), fun _ => ?_, fun q => absurd q (by decide), fun q => absurd q (by decide), fun q => absurd q (by decide), fun q => absurd q (by decide), fun q => absurd (sw_out (lo := 0) (n := 18) (by decide) (by decide) q) (by decide)⟩
    refine ⟨⟨fun q => absurd q (by decide), fun _ => ⟨by rw [vp_in_iff]; decide, trivial⟩⟩, ?_, h.th⟩
    rw [if_neg (by decide), uIn (by decide), show ((9 + 13) - 12 : Int32).toNatClampNeg = 10 by decide]
    exact hT.2.2.2.1
  · subst c
    unfold F12_count
    refine ⟨fun q => absurd q (by decide), fun q => absurd q (by decide), fun q => absurd q (by decide), fun q => absurd q (by decide), fun q => absurd q (by decide), fun q => absurd q (by decide), fun q => absurd q (by decide), fun q => absurd q (by decide), fun q => absurd q (by decide), fun q => absurd q (by decide), fun q => absurd q (by decide), fun q => absurd q (by decide), fun q => absurd q (by decide), fun q => absurd q (by decide), fun _ => ?_, fun q => absurd q (by decide), fun q => absurd q (by decide), fun q => absurd q (by decide), fun q => absurd (sw_out (lo := 0) (n := 18) (by decide) (by decide) q) (by decide)⟩
    refine ⟨⟨fun q => absurd q (by decide), fun _ => ⟨by rw [vp_in_iff]; decide, trivial⟩⟩, ?_, h.th⟩
    rw [if_neg (by decide), uIn (by decide), show ((9 + 14) - 12 : Int32).toNatClampNeg = 11 by decide]
    exact hT.2.1
  · subst c
    unfold F12_count
    refine ⟨fun q => absurd q (by decide), fun q => absurd q (by decide), fun q => absurd q (by decide), fun q => absurd q (by decide), fun q => absurd q (by decide), fun q => absurd q (by decide), fun q => absurd q (by decide), fun q => absurd q (by decide), fun q => absurd q (by decide), fun q => absurd q (by decide), fun q => absurd q (by decide), fun q => absurd q (by decide), fun q => absurd q (by decide), fun q => absurd q (by decide), fun q => absurd q (by decide), fun _ => ?_, fun q => absurd q (by decide), fun q => absurd q (by decide), fun q => absurd (sw_out (lo := 0) (n := 18) (by decide) (by decide) q) (by decide)⟩
    refine ⟨⟨fun q => absurd q (by decide), fun _ => ⟨by rw [vp_in_iff]; decide, trivial⟩⟩, ?_, h.th⟩
    rw [if_neg (by decide), uIn (by decide), show ((9 + 15) - 12 : Int32).toNatClampNeg = 12 by decide]
    exact hT.2.2.2.2.1
  · subst c
    unfold F12_count
    refine ⟨fun q => absurd q (by decide), fun q => absurd q (by decide), fun q => absurd q (by decide), fun q => absurd q (by decide), fun q => absurd q (by decide), fun q => absurd q (by decide), fun q => absurd q (by decide), fun q => absurd q (by decide), fun q => absurd q (by decide), fun q => absurd q (by decide), fun q => absurd q (by decide), fun q => absurd q (by decide), fun q => absurd q (by decide), fun q => absurd q (by decide), fun q => absurd q (by decide), fun q => absurd q (by decide), fun _ => ?_, fun q => absurd q (by decide), fun q => absurd (sw_out (lo := 0) (n := 18) (by decide) (by decide) q) (by decide)⟩
    refine ⟨⟨fun q => absurd q (by decide), fun _ => ⟨by rw [vp_in_iff]; decide, trivial⟩⟩, ?_, h.th⟩
    rw [if_neg (by decide), uIn (by decide), show ((9 + 16) - 12 : Int32).toNatClampNeg = 13 by decide]
    exact hT.2.2.2.2.2.1
  · subst c
    unfold F12_count
    refine ⟨fun q => absurd q (by decide), fun q => absurd q (by decide), fun q => absurd q (by decide), fun q => absurd q (by decide), fun q => absurd q (by decide), fun q => absurd q (by decide), fun q => absurd q (by decide), fun q => absurd q (by decide), fun q => absurd q (by decide), fun q => absurd q (by decide), fun q => absurd q (by decide), fun q => absurd q (by decide), fun q => absurd q (by decide), fun q => absurd q (by decide), fun q => absurd q (by decide), fun q => absurd q (by decide), fun q => absurd q (by decide), fun _ => ?_, fun q => absurd (sw_out (lo := 0) (n := 18) (by decide) (by decide) q) (by decide)⟩
    refine ⟨?_, h.th⟩
    rw [uIn (by decide), ← hT.1]
  · have hout := sw_out (lo := 0) (n := 18) (by decide) (by decide) c
    unfold F12_count
    refine ⟨fun q => by subst q; exact absurd hout (by decide), fun q => by subst q; exact absurd hout (by decide), fun q => by subst q; exact absurd hout (by decide), fun q => by subst q; exact absurd hout (by decide), fun q => by subst q; exact absurd hout (by decide), fun q => by subst q; exact absurd hout (by decide), fun q => by subst q; exact absurd hout (by decide), fun q => by subst q; exact absurd hout (by decide), fun q => by subst q; exact absurd hout (by decide), fun q => by subst q; exact absurd hout (by decide), fun q => by subst q; exact absurd hout (by decide), fun q => by subst q; exact absurd hout (by decide), fun q => by subst q; exact absurd hout (by decide), fun q => by subst q; exact absurd hout (by decide), fun q => by subst q; exact absurd hout (by decide), fun q => by subst q; exact absurd hout (by decide), fun q => by subst q; exact absurd hout (by decide), fun q => by subst q; exact absurd hout (by decide), fun _ => ?_⟩
    have i1 : V12_in v1.toInt64 12 16 = 0 := by simp [mi0]; omega
    by_cases g : 18 ≤ v1.toInt ∧ v1.toInt ≤ 20
    · have g3 : v1 = 18 ∨ v1 = 19 ∨ v1 = 20 := by
        have e : v1.toInt = 18 ∨ v1.toInt = 19 ∨ v1.toInt = 20 := by omega
        rcases e with e | e | e
        · exact Or.inl (Int32.toInt_inj.mp e)
        · exact Or.inr (Or.inl (Int32.toInt_inj.mp e))
        · exact Or.inr (Or.inr (Int32.toInt_inj.mp e))
      rcases g3 with rfl | rfl | rfl
      · refine ⟨⟨fun _ => ⟨fun q => absurd q (by decide), fun _ => ⟨by rw [vp_in_iff]; decide, trivial⟩⟩, fun q => absurd i1 q⟩, ?_, h.th⟩
        rw [if_neg (by decide), if_pos i1, if_neg (by decide), uIn (by decide), show ((5 + 18) - 18 : Int32).toNatClampNeg = 5 by decide]
        exact hT.2.2.2.2.2.2.1
      · refine ⟨⟨fun _ => ⟨fun q => absurd q (by decide), fun _ => ⟨by rw [vp_in_iff]; decide, trivial⟩⟩, fun q => absurd i1 q⟩, ?_, h.th⟩
        rw [if_neg (by decide), if_pos i1, if_neg (by decide), uIn (by decide), show ((5 + 19) - 18 : Int32).toNatClampNeg = 6 by decide]
        exact hT.2.2.2.2.2.2.2.1
      · refine ⟨⟨fun _ => ⟨fun q => absurd q (by decide), fun _ => ⟨by rw [vp_in_iff]; decide, trivial⟩⟩, fun q => absurd i1 q⟩, ?_, h.th⟩
        rw [if_neg (by decide), if_pos i1, if_neg (by decide), uIn (by decide), show ((5 + 20) - 18 : Int32).toNatClampNeg = 7 by decide]
        exact hT.2.2.2.2.2.2.2.2
    · have i2 : V12_in v1.toInt64 18 20 = 0 := by simp [mi0]; omega
      have i3 : V11_within v1 18 20 = 0 := by simp [wi0]; omega
      refine ⟨⟨fun _ => ⟨fun _ => trivial, fun q => absurd i2 q⟩, fun q => absurd i1 q⟩, ?_, h.th⟩
      rw [if_pos i3, if_pos i1, if_pos i2]
theorem st_drawn {n : Nat} : tSt_drawn n Inv := by
  intro S I J v1 h
  have hM : RM (I 0) (I 40) (I 59) (I 60) (I 61) (I 62) (I 88) := h.2.2.2.2.2.1
  unfold F11_drawn
  rcases hM.2.2 with ⟨a0, a1⟩ | ⟨a0, a1, b0, b1, b2, b3⟩
  · refine ⟨fun q => absurd a0 q, fun _ => ?_⟩
    show F12_drawn n S I J v1 (fun y I2 J2 => (-1) = y ∧ Inv S I2 J2)
    unfold F12_drawn
    rw [s61 (by decide)]
    refine ⟨⟨fun _ => trivial, fun q => absurd a1 q⟩, ?_, h.th⟩
    rw [if_pos a1]
  · refine ⟨fun _ => ?_, fun q => absurd q a0⟩
    have fin : ∀ (m : Nat), m < 4 → v1 = nI m → F12_drawn n S I J v1 (fun y I2 J2 => I 88 m = y ∧ Inv S I2 J2) := by
      intro m hm e
      subst e
      unfold F12_drawn
      rw [s61 (by decide)]
      have i1 : ¬ V12_in (nI m).toInt64 0 3 = 0 := by rw [mi1, Int32.toInt_toInt64, qi (by omega)]; simp; omega
      refine ⟨⟨fun q => absurd q a1, fun _ => ⟨fun q => absurd q i1, fun _ => ⟨(qin (by omega)).mpr hm, trivial⟩⟩⟩, ?_, h.th⟩
      rw [if_neg a1, if_neg i1, uIn (by decide), qn (by omega)]
    refine ⟨fun c => ?_, fun c => ?_, fun c => ?_, fun c => ?_, fun c => ?_⟩
    · rw [b0]; exact fin 0 (by omega) c
    · rw [b1]; exact fin 1 (by omega) c
    · rw [b2]; exact fin 2 (by omega) c
    · rw [b3]; exact fin 3 (by omega) c
    · have hout := sw_out (lo := 0) (n := 4) (by decide) (by decide) c
      show F12_drawn n S I J v1 (fun y I2 J2 => (-1) = y ∧ Inv S I2 J2)
      unfold F12_drawn
      rw [s61 (by decide)]
      have i1 : V12_in v1.toInt64 0 3 = 0 := by simp [mi0]; omega
      refine ⟨⟨fun q => absurd q a1, fun _ => ⟨fun _ => trivial, fun q => absurd i1 q⟩⟩, ?_, h.th⟩
      rw [if_neg a1, if_pos i1]
/-- both sides end with the same refusal (or none), nothing else changed -/
theorem Inv.rf {S : tSH} {I : tHI} {J : tHJ} (h : Inv S I J) (v : Int32) : Inv S (mS (uI (cS I v) 61 0 0) v) J := by
  obtain ⟨h1, h2, h3, h4, h5, h6, h7⟩ := h
  have e : ∀ x, x ≠ 0 → x ≠ 59 → x ≠ 61 → x ≠ 62 → (mS (uI (cS I v) 61 0 0) v) x = I x := fun x a b c d => by rw [mS_o c d, uIn c, cS_o a b]
  have e61 : (mS (uI (cS I v) 61 0 0) v) 61 = up (up (I 61) 0 0) 1 (stv v) := by rw [mS_61, uIe, cS_o (by decide) (by decide)]
  have e89 : ∀ x, 89 ≤ x → (mS (uI (cS I v) 61 0 0) v) x = I x := fun x hx => e x (by omega) (by omega) (by omega) (by omega)
  refine ⟨h1, ?_, ?_, ?_, ?_, ?_, ?_⟩
  · rw [e 63 (by decide) (by decide) (by decide) (by decide)]
    exact h2.cg (fun i hi => e _ (by omega) (by omega) (by omega) (by omega)) e89
  · rw [e 34 (by decide) (by decide) (by decide) (by decide), e 35 (by decide) (by decide) (by decide) (by decide), e 66 (by decide) (by decide) (by decide) (by decide), e 67 (by decide) (by decide) (by decide) (by decide), e 63 (by decide) (by decide) (by decide) (by decide), e61]
    exact h3.r (by rw [upn (by decide), upn (by decide)]) rfl rfl (fun _ _ _ => rfl) (fun _ _ _ => rfl)
  · rw [e 38 (by decide) (by decide) (by decide) (by decide), e 39 (by decide) (by decide) (by decide) (by decide), e 70 (by decide) (by decide) (by decide) (by decide), e61]
    exact h4.f (by rw [upn (by decide), upn (by decide)])
  · exact h5.cg (e 64 (by decide) (by decide) (by decide) (by decide)) (e 65 (by decide) (by decide) (by decide) (by decide)) e89
  · have g := RM.st (v := v) h6
    show RM _ _ _ _ _ _ _
    rw [mS_o (x := 0) (by decide) (by decide), uIn (by decide), cS_0, e 40 (by decide) (by decide) (by decide) (by decide), mS_o (x := 59) (by decide) (by decide), uIn (by decide), cS_59, e 60 (by decide) (by decide) (by decide) (by decide), e61, mS_62, uIn (by decide), cS_o (by decide) (by decide), e 88 (by decide) (by decide) (by decide) (by decide)]
    refine g.cg (fun _ _ => rfl) rfl (fun y hy => ?_)
    by_cases c : y = 1
    · subst c; rw [upe, upe]
    · rw [upn c, upn c]
      exact upn (fun e => by subst e; revert hy; decide)
  · refine h7.cg ?_ ?_ (fun y _ => ?_) (fun y _ => ?_) (KpJ.rf J)
    · rw [e61, upn (by decide), upn (by decide)]
    · rw [e61, upn (by decide), upn (by decide)]
    · rw [e 49 (by decide) (by decide) (by decide) (by decide)]
    · rw [e 50 (by decide) (by decide) (by decide) (by decide)]
