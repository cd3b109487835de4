/-! law: the step, II -/
section ST2
variable {n : Nat} {S : tSH} {I : tHI} {J : tHJ}
theorem nI_neg {x : Nat} (h : x ≤ 400) : ¬ nI x = -1 := fun y => by
  have := congrArg Int32.toInt y
  rw [qi (by omega), qneg] at this
  omega
theorem st_law (hn : 6000 < n) : tSt_law n Inv := by
  intro S I J h
  obtain ⟨z, b, hC, hM⟩ := h.tp2
  have hz := hC.1
  obtain ⟨hN, hLd, hB, hG, hT, hK, hW⟩ := id h.2.1
  obtain ⟨N, n1, n2⟩ := hK.1.2.2.2.1
  have i4 : I 1 4 = nI N := by rw [hN.1]; exact n1
  have h42 := h.1.2.2.2.2.1
  have h43 := h.1.2.2.2.2.2.1
  have h44 := h.1.2.2.2.2.2.2.1
  have h45 := h.1.2.2.2.2.2.2.2
  have h89 := h.1.2.2.2.1
  obtain ⟨-, -, -, j76, j77, j78, j86⟩ := id h.2.2.2.2.2.2
  have e6 : I 1 4 < 6 ↔ N < 6 := by rw [i4]; exact qlt (b := 6) (by omega) (by omega)
  unfold F11_law
  refine ⟨fun y => ?_, fun y => ?_⟩
  · -- six stand
    have hN6 : N = 6 := by have : ¬ N < 6 := fun g => y (e6.mpr g)
                           omega
    refine sp_settle h.1.l59 (by decide) ⟨h.1.2.2.1, ?_⟩
    have zc : ∀ x, x ≠ 0 → x ≠ 59 → x ≠ 38 → (cS (uI I 38 1 0) (-5)) x = I x := fun x a c d => by rw [cS_o a c, uIn d]
    have z38 : (cS (uI I 38 1 0) (-5)) 38 = up (I 38) 1 0 := by rw [cS_o (by decide) (by decide), uIe]
    have z0 : (cS (uI I 38 1 0) (-5)) 0 = up (I 0) 18 (stv (-5)) := by rw [cS_0, uIn (by decide)]
    have z59 : (cS (uI I 38 1 0) (-5)) 59 = rfv (I 59) (-5) := by rw [cS_59, uIn (by decide)]
    generalize (cS (uI I 38 1 0) (-5)) = Z at zc z38 z0 z59 ⊢
    unfold F12_law
    have e63 : (uI Z 61 0 0) 63 3 = 6 := by rw [uIn (by decide), zc 63 (by decide) (by decide) (by decide), n1, hN6]; rfl
    refine ⟨fun c => absurd e63 c, fun _ => sp_tell (by decide) ⟨rfl, ?_⟩⟩
    have xo : ∀ x, x ≠ 61 → x ≠ 62 → (mS (uI (uI Z 61 0 0) 61 13 0) (-5)) x = Z x := fun x a c => by rw [mS_o a c, uIn a, uIn a]
    have x61 : (mS (uI (uI Z 61 0 0) 61 13 0) (-5)) 61 = up (up (up (I 61) 0 0) 13 0) 1 (stv (-5)) := by rw [mS_61, uIe, uIe, zc 61 (by decide) (by decide) (by decide)]
    have x62 : (mS (uI (uI Z 61 0 0) 61 13 0) (-5)) 62 = rfv (I 62) (-5) := by rw [mS_62, uIn (by decide), uIn (by decide), zc 62 (by decide) (by decide) (by decide)]
    generalize (mS (uI (uI Z 61 0 0) 61 13 0) (-5)) = X at xo x61 x62 ⊢
    refine h.ref (v := -5) (Or.inl rfl) (fun x hx => ?_) ?_ ?_ ?_ ?_ x62 (fun y hy => ?_) ?_ ?_ ?_ ?_ ?_ ?_ (KpJ.rf J)
    · have ne : ∀ t, t ∈ [0, 38, 40, 41, 42, 43, 44, 45, 59, 61, 62, 71, 72, 73, 74, 75, 87] → x ≠ t := fun t ht e => hx (by rw [e]; exact ht)
      rw [xo x (ne 61 (by decide)) (ne 62 (by decide)), zc x (ne 0 (by decide)) (ne 59 (by decide)) (ne 38 (by decide))]
    · rw [xo 0 (by decide) (by decide), z0, upn (by decide)]
    · rw [xo 0 (by decide) (by decide), z0, upn (by decide)]
    · rw [xo 0 (by decide) (by decide), z0, upe]
    · rw [xo 59 (by decide) (by decide), z59]
    · have : y = 8 ∨ y = 11 ∨ y = 41 ∨ y = 57 := by simpa using hy
      rw [x61, upn (by omega), upn (by omega), upn (by omega)]
    · rw [x61, upe]
    · rw [xo 40 (by decide) (by decide), zc 40 (by decide) (by decide) (by decide), x61, upn (by decide), upn (by decide), upn (by decide)]
      exact h.2.2.2.2.2.1.1.1
    · rw [xo 0 (by decide) (by decide), z0, upn (by decide), x61, upn (by decide), upn (by decide), upn (by decide)]
      exact h.2.2.2.2.2.1.1.2.1
    · rw [xo 38 (by decide) (by decide), z38, upe]
    · rw [x61, upn (by decide), upe]
    · rw [x61, upn (by decide), upn (by decide), upn (by decide)]
      exact h.2.2.2.2.2.2.1.1
  · have hN6 : N < 6 := e6.mp y
    refine sp_read (ord := 0) h42 h43 h44 h45 (by omega) (by omega) hC (fun x hx I1 fr f1 hx4 => ⟨fun _ => ?_, fun c => absurd rfl c⟩) (fun cs hcs I1 q m len fr t1 => ⟨fun c => absurd c (by decide), fun _ => ?_⟩)
    · -- a fault
      have hTY := h.1.p2
      refine sp_settle hTY.l59 (by decide) ⟨hTY.2.2.1, ?_⟩
      have zc : ∀ x, x ∉ [0, 38, 40, 41, 42, 43, 44, 45, 59] → (cS (uI I1 38 1 0) (-6)) x = I x := fun x hx => by
        have ne : ∀ t, t ∈ [0, 38, 40, 41, 42, 43, 44, 45, 59] → x ≠ t := fun t ht e => hx (by rw [e]; exact ht)
        rw [cS_o (ne 0 (by decide)) (ne 59 (by decide)), uIn (ne 38 (by decide))]
        exact fr x (fun e => by have : x = 40 ∨ x = 41 ∨ x = 42 ∨ x = 43 ∨ x = 44 ∨ x = 45 := by simpa using e
                                rcases this with c | c | c | c | c | c
                                · exact ne 40 (by decide) c
                                · exact ne 41 (by decide) c
                                · exact ne 42 (by decide) c
                                · exact ne 43 (by decide) c
                                · exact ne 44 (by decide) c
                                · exact ne 45 (by decide) c)
      have z38 : (cS (uI I1 38 1 0) (-6)) 38 = up (I1 38) 1 0 := by rw [cS_o (by decide) (by decide), uIe]
      have z40 : (cS (uI I1 38 1 0) (-6)) 40 1 = nI x := by rw [cS_o (by decide) (by decide), uIn (by decide)]; exact f1
      have z0 : (cS (uI I1 38 1 0) (-6)) 0 = up (I 0) 18 (stv (-6)) := by rw [cS_0, uIn (by decide), fr 0 (by decide)]
      have z59 : (cS (uI I1 38 1 0) (-6)) 59 = rfv (I 59) (-6) := by rw [cS_59, uIn (by decide), fr 59 (by decide)]
      generalize (cS (uI I1 38 1 0) (-6)) = Z at zc z38 z40 z0 z59 ⊢
      have hM0 : MTp b z ((uI Z 61 0 0) 61) ((uI Z 61 0 0) 70) := by
        unfold MTp
        rw [uIe, upn (by decide), uIn (by decide), zc 61 (by decide), zc 70 (by decide)]; exact hM
      unfold F12_law
      refine ⟨fun _ => ?_, fun c => ?_⟩
      · refine sp_lawT (n := n) (S := uQ S 40 2 (some 38)) (b := b) (z := z) (E := fun I7 J8 => (((I7 61 19) = 0 → vp_in ((110 + (900 * (I7 63 3))) + 1) 5510 ∧ F12_law_L110 n (uQ S 40 2 (some 38)) (fun y I2 J2 => (-6 : Int32) = y ∧ Inv (uQ S 40 2 (some 38)) I2 J2) n (uI I7 63 ((110 + (900 * (I7 63 3))) + 1).toNatClampNeg (I7 61 21)) J8 (110 + (900 * (I7 63 3))) 0) ∧ (¬ (I7 61 19) = 0 → F12_tell n (uQ S 40 2 (some 38)) I7 J8 (-6) (fun x17 I15 J16 => (-6 : Int32) = x17 ∧ Inv (uQ S 40 2 (some 38)) I15 J16)))) hM0 (by omega) j76 j77 j78 (fun I2 J2 hh => hh) (fun x2 hx2 I' J' u b19 b18 => ?_) (fun cs hcs => by rw [hx] at hcs; cases hcs)
        have ex : x2 = x := by rw [hx] at hx2; exact (Sum.inl.inj hx2).symm
        subst ex
        have c19 : ¬ (uI (uI I' 61 20 0) 61 13 0) 61 19 = 0 := by rw [uIe, upn (by decide), uIe, upn (by decide)]; exact b19
        refine ⟨fun c => absurd c c19, fun _ => sp_tell (by decide) ⟨rfl, ?_⟩⟩
        have xo : ∀ x, x ∉ [61, 62, 71, 72, 73, 74, 75, 87] → (mS (uI (uI I' 61 20 0) 61 13 0) (-6)) x = Z x := fun x hx => by
          have ne : ∀ t, t ∈ [61, 62, 71, 72, 73, 74, 75, 87] → x ≠ t := fun t ht e => hx (by rw [e]; exact ht)
          rw [mS_o (ne 61 (by decide)) (ne 62 (by decide)), uIn (ne 61 (by decide)), uIn (ne 61 (by decide)), u.1 x (fun e => by
            have : x = 61 ∨ x = 71 ∨ x = 72 ∨ x = 73 ∨ x = 74 ∨ x = 75 ∨ x = 87 := by simpa using e
            rcases this with c | c | c | c | c | c | c
            · exact ne 61 (by decide) c
            · exact ne 71 (by decide) c
            · exact ne 72 (by decide) c
            · exact ne 73 (by decide) c
            · exact ne 74 (by decide) c
            · exact ne 75 (by decide) c
            · exact ne 87 (by decide) c), uIn (ne 61 (by decide))]
        have x61 : (mS (uI (uI I' 61 20 0) 61 13 0) (-6)) 61 = up (up (up (I' 61) 20 0) 13 0) 1 (stv (-6)) := by rw [mS_61, uIe, uIe]
        have y61 : ∀ y, y ∉ [0, 1, 13, 14, 15, 16, 18, 19, 20, 21, 23, 26, 29, 30] → (up (up (up (I' 61) 20 0) 13 0) 1 (stv (-6))) y = I 61 y := fun y hy => by
          have ne : ∀ t, t ∈ [0, 1, 13, 14, 15, 16, 18, 19, 20, 21, 23, 26, 29, 30] → y ≠ t := fun t ht e => hy (by rw [e]; exact ht)
          rw [upn (ne 1 (by decide)), upn (ne 13 (by decide)), upn (ne 20 (by decide)), u.2.1 y (fun e => hy (by
            have : y = 14 ∨ y = 15 ∨ y = 16 ∨ y = 18 ∨ y = 19 ∨ y = 20 ∨ y = 21 ∨ y = 23 ∨ y = 26 ∨ y = 29 ∨ y = 30 := by simpa using e
            rcases this with c | c | c | c | c | c | c | c | c | c | c <;> rw [c] <;> decide)), uIe, upn (ne 0 (by decide)), zc 61 (by decide)]
        have x62 : (mS (uI (uI I' 61 20 0) 61 13 0) (-6)) 62 = rfv (I 62) (-6) := by rw [mS_62, uIn (by decide), uIn (by decide), u.1 62 (by decide), uIn (by decide), zc 62 (by decide)]
        generalize (mS (uI (uI I' 61 20 0) 61 13 0) (-6)) = X at xo x61 x62 ⊢
        refine h.ref (v := -6) (Or.inr rfl) (fun x hx => ?_) ?_ ?_ ?_ ?_ x62 (fun y hy => ?_) ?_ ?_ ?_ ?_ ?_ ?_ (fun x hx => ?_)
        · rw [xo x (fun e => hx ?_), zc x (fun e => hx ?_)]
          · have : x = 0 ∨ x = 38 ∨ x = 40 ∨ x = 41 ∨ x = 42 ∨ x = 43 ∨ x = 44 ∨ x = 45 ∨ x = 59 := by simpa using e
            rcases this with c | c | c | c | c | c | c | c | c <;> rw [c] <;> decide
          · have : x = 61 ∨ x = 62 ∨ x = 71 ∨ x = 72 ∨ x = 73 ∨ x = 74 ∨ x = 75 ∨ x = 87 := by simpa using e
            rcases this with c | c | c | c | c | c | c | c <;> rw [c] <;> decide
        · rw [xo 0 (by decide), z0, upn (by decide)]
        · rw [xo 0 (by decide), z0, upn (by decide)]
        · rw [xo 0 (by decide), z0, upe]
        · rw [xo 59 (by decide), z59]
        · have : y = 8 ∨ y = 11 ∨ y = 41 ∨ y = 57 := by simpa using hy
          rw [x61]
          refine y61 y ?_
          rcases this with c | c | c | c <;> rw [c] <;> decide
        · rw [x61, upe]
        · rw [xo 40 (by decide), z40, x61, upn (by decide), upn (by decide), upn (by decide), b18]
        · rw [xo 0 (by decide), z0, upn (by decide), x61, y61 53 (by decide)]
          exact h.2.2.2.2.2.1.1.2.1
        · rw [xo 38 (by decide), z38, upe]
        · rw [x61, upn (by decide), upe]
        · rw [x61, upn (by decide), upn (by decide), upe]
        · exact u.2.2.1 x (fun e => by rw [e] at hx; revert hx; decide)
      · exfalso
        rw [uIn (by decide), zc 63 (by decide), n1] at c
        have := (qeq (b := 6) (by omega) (by omega)).mp c
        omega
    · sorry
end ST2
