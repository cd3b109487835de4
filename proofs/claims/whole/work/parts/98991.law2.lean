/-! law: the step, II -/
section ST2
variable {n : Nat} {S : tSH} {I : tHI} {J : tHJ}
theorem nI_neg {x : Nat} (h : x ≤ 400) : ¬ nI x = -1 := fun y => by
  have := congrArg Int32.toInt y
  rw [qi (by omega), qneg] at this
  omega
theorem st_law (hn : 6000 < n) : tSt_law n Inv := by
  intro S I J h
  obtain ⟨z, b, hC, hM⟩ := h.tp2
  have hz := hC.1
  obtain ⟨hN, hLd, hB, hG, hT, hK, hW⟩ := id h.2.1
  obtain ⟨N, n1, n2⟩ := hK.1.2.2.2.1
  have i4 : I 1 4 = nI N := by rw [hN.1]; exact n1
  have h42 := h.1.2.2.2.2.1
  have h43 := h.1.2.2.2.2.2.1
  have h44 := h.1.2.2.2.2.2.2.1
  have h45 := h.1.2.2.2.2.2.2.2
  have h89 := h.1.2.2.2.1
  obtain ⟨-, -, -, j76, j77, j78, j86⟩ := id h.2.2.2.2.2.2
  have e6 : I 1 4 < 6 ↔ N < 6 := by rw [i4]; exact qlt (b := 6) (by omega) (by omega)
  unfold F11_law
  refine ⟨fun y => ?_, fun y => ?_⟩
  · -- six stand
    have hN6 : N = 6 := by have : ¬ N < 6 := fun g => y (e6.mpr g)
                           omega
    refine sp_settle h.1.l59 (by decide) ⟨h.1.2.2.1, ?_⟩
    have zc : ∀ x, x ≠ 0 → x ≠ 59 → x ≠ 38 → (cS (uI I 38 1 0) (-5)) x = I x := fun x a c d => by rw [cS_o a c, uIn d]
    have z38 : (cS (uI I 38 1 0) (-5)) 38 = up (I 38) 1 0 := by rw [cS_o (by decide) (by decide), uIe]
    have z0 : (cS (uI I 38 1 0) (-5)) 0 = up (I 0) 18 (stv (-5)) := by rw [cS_0, uIn (by decide)]
    have z59 : (cS (uI I 38 1 0) (-5)) 59 = rfv (I 59) (-5) := by rw [cS_59, uIn (by decide)]
    generalize (cS (uI I 38 1 0) (-5)) = Z at zc z38 z0 z59 ⊢
    unfold F12_law
    have e63 : (uI Z 61 0 0) 63 3 = 6 := by rw [uIn (by decide), zc 63 (by decide) (by decide) (by decide), n1, hN6]; rfl
    refine ⟨fun c => absurd e63 c, fun _ => sp_tell (by decide) ⟨rfl, ?_⟩⟩
    have xo : ∀ x, x ≠ 61 → x ≠ 62 → (mS (uI (uI Z 61 0 0) 61 13 0) (-5)) x = Z x := fun x a c => by rw [mS_o a c, uIn a, uIn a]
    have x61 : (mS (uI (uI Z 61 0 0) 61 13 0) (-5)) 61 = up (up (up (I 61) 0 0) 13 0) 1 (stv (-5)) := by rw [mS_61, uIe, uIe, zc 61 (by decide) (by decide) (by decide)]
    have x62 : (mS (uI (uI Z 61 0 0) 61 13 0) (-5)) 62 = rfv (I 62) (-5) := by rw [mS_62, uIn (by decide), uIn (by decide), zc 62 (by decide) (by decide) (by decide)]
    generalize (mS (uI (uI Z 61 0 0) 61 13 0) (-5)) = X at xo x61 x62 ⊢
    refine h.ref (v := -5) (Or.inl rfl) (fun x hx => ?_) ?_ ?_ ?_ ?_ x62 (fun y hy => ?_) ?_ ?_ ?_ ?_ ?_ ?_ (KpJ.rf J)
    · have ne : ∀ t, t ∈ [0, 38, 40, 41, 42, 43, 44, 45, 59, 61, 62, 71, 72, 73, 74, 75, 87] → x ≠ t := fun t ht e => hx (by rw [e]; exact ht)
      rw [xo x (ne 61 (by decide)) (ne 62 (by decide)), zc x (ne 0 (by decide)) (ne 59 (by decide)) (ne 38 (by decide))]
    · rw [xo 0 (by decide) (by decide), z0, upn (by decide)]
    · rw [xo 0 (by decide) (by decide), z0, upn (by decide)]
    · rw [xo 0 (by decide) (by decide), z0, upe]
    · rw [xo 59 (by decide) (by decide), z59]
    · have : y = 8 ∨ y = 11 ∨ y = 41 ∨ y = 57 := by simpa using hy
      rw [x61, upn (by omega), upn (by omega), upn (by omega)]
    · rw [x61, upe]
    · rw [xo 40 (by decide) (by decide), zc 40 (by decide) (by decide) (by decide), x61, upn (by decide), upn (by decide), upn (by decide)]
      exact h.2.2.2.2.2.1.1.1
    · rw [xo 0 (by decide) (by decide), z0, upn (by decide), x61, upn (by decide), upn (by decide), upn (by decide)]
      exact h.2.2.2.2.2.1.1.2.1
    · rw [xo 38 (by decide) (by decide), z38, upe]
    · rw [x61, upn (by decide), upe]
    · rw [x61, upn (by decide), upn (by decide), upn (by decide)]
      exact h.2.2.2.2.2.2.1.1
  · have hN6 : N < 6 := e6.mp y
    refine sp_read (ord := 0) h42 h43 h44 h45 (by omega) (by omega) hC (fun x hx I1 fr f1 hx4 => ⟨fun _ => ?_, fun c => absurd rfl c⟩) (fun cs hcs I1 q m len fr t1 => ⟨fun c => absurd c (by decide), fun _ => ?_⟩)
    · -- a fault
      have hTY := h.1.p2
      refine sp_settle hTY.l59 (by decide) ⟨hTY.2.2.1, ?_⟩
      have zc : ∀ x, x ∉ [0, 38, 40, 41, 42, 43, 44, 45, 59] → (cS (uI I1 38 1 0) (-6)) x = I x := fun x hx => by
        have ne : ∀ t, t ∈ [0, 38, 40, 41, 42, 43, 44, 45, 59] → x ≠ t := fun t ht e => hx (by rw [e]; exact ht)
        rw [cS_o (ne 0 (by decide)) (ne 59 (by decide)), uIn (ne 38 (by decide))]
        exact fr x (fun e => by have : x = 40 ∨ x = 41 ∨ x = 42 ∨ x = 43 ∨ x = 44 ∨ x = 45 := by simpa using e
                                rcases this with c | c | c | c | c | c
                                · exact ne 40 (by decide) c
                                · exact ne 41 (by decide) c
                                · exact ne 42 (by decide) c
                                · exact ne 43 (by decide) c
                                · exact ne 44 (by decide) c
                                · exact ne 45 (by decide) c)
      have z38 : (cS (uI I1 38 1 0) (-6)) 38 = up (I1 38) 1 0 := by rw [cS_o (by decide) (by decide), uIe]
      have z40 : (cS (uI I1 38 1 0) (-6)) 40 1 = nI x := by rw [cS_o (by decide) (by decide), uIn (by decide)]; exact f1
      have z0 : (cS (uI I1 38 1 0) (-6)) 0 = up (I 0) 18 (stv (-6)) := by rw [cS_0, uIn (by decide), fr 0 (by decide)]
      have z59 : (cS (uI I1 38 1 0) (-6)) 59 = rfv (I 59) (-6) := by rw [cS_59, uIn (by decide), fr 59 (by decide)]
      generalize (cS (uI I1 38 1 0) (-6)) = Z at zc z38 z40 z0 z59 ⊢
      have hM0 : MTp b z ((uI Z 61 0 0) 61) ((uI Z 61 0 0) 70) := by
        unfold MTp
        rw [uIe, upn (by decide), uIn (by decide), zc 61 (by decide), zc 70 (by decide)]; exact hM
      unfold F12_law
      refine ⟨fun _ => ?_, fun c => ?_⟩
      · refine sp_lawT (n := n) (S := uQ S 40 2 (some 38)) (b := b) (z := z) (E := fun I7 J8 => (((I7 61 19) = 0 → vp_in ((110 + (900 * (I7 63 3))) + 1) 5510 ∧ F12_law_L110 n (uQ S 40 2 (some 38)) (fun y I2 J2 => (-6 : Int32) = y ∧ Inv (uQ S 40 2 (some 38)) I2 J2) n (uI I7 63 ((110 + (900 * (I7 63 3))) + 1).toNatClampNeg (I7 61 21)) J8 (110 + (900 * (I7 63 3))) 0) ∧ (¬ (I7 61 19) = 0 → F12_tell n (uQ S 40 2 (some 38)) I7 J8 (-6) (fun x17 I15 J16 => (-6 : Int32) = x17 ∧ Inv (uQ S 40 2 (some 38)) I15 J16)))) hM0 (by omega) j76 j77 j78 (fun I2 J2 hh => hh) (fun x2 hx2 I' J' u b19 b18 => ?_) (fun cs hcs => by rw [hx] at hcs; cases hcs)
        have ex : x2 = x := by rw [hx] at hx2; exact (Sum.inl.inj hx2).symm
        subst ex
        have c19 : ¬ (uI (uI I' 61 20 0) 61 13 0) 61 19 = 0 := by rw [uIe, upn (by decide), uIe, upn (by decide)]; exact b19
        refine ⟨fun c => absurd c c19, fun _ => sp_tell (by decide) ⟨rfl, ?_⟩⟩
        have xo : ∀ x, x ∉ [61, 62, 71, 72, 73, 74, 75, 87] → (mS (uI (uI I' 61 20 0) 61 13 0) (-6)) x = Z x := fun x hx => by
          have ne : ∀ t, t ∈ [61, 62, 71, 72, 73, 74, 75, 87] → x ≠ t := fun t ht e => hx (by rw [e]; exact ht)
          rw [mS_o (ne 61 (by decide)) (ne 62 (by decide)), uIn (ne 61 (by decide)), uIn (ne 61 (by decide)), u.1 x (fun e => by
            have : x = 61 ∨ x = 71 ∨ x = 72 ∨ x = 73 ∨ x = 74 ∨ x = 75 ∨ x = 87 := by simpa using e
            rcases this with c | c | c | c | c | c | c
            · exact ne 61 (by decide) c
            · exact ne 71 (by decide) c
            · exact ne 72 (by decide) c
            · exact ne 73 (by decide) c
            · exact ne 74 (by decide) c
            · exact ne 75 (by decide) c
            · exact ne 87 (by decide) c), uIn (ne 61 (by decide))]
        have x61 : (mS (uI (uI I' 61 20 0) 61 13 0) (-6)) 61 = up (up (up (I' 61) 20 0) 13 0) 1 (stv (-6)) := by rw [mS_61, uIe, uIe]
        have y61 : ∀ y, y ∉ [0, 1, 13, 14, 15, 16, 18, 19, 20, 21, 23, 26, 29, 30] → (up (up (up (I' 61) 20 0) 13 0) 1 (stv (-6))) y = I 61 y := fun y hy => by
          have ne : ∀ t, t ∈ [0, 1, 13, 14, 15, 16, 18, 19, 20, 21, 23, 26, 29, 30] → y ≠ t := fun t ht e => hy (by rw [e]; exact ht)
          rw [upn (ne 1 (by decide)), upn (ne 13 (by decide)), upn (ne 20 (by decide)), u.2.1 y (fun e => hy (by
            have : y = 14 ∨ y = 15 ∨ y = 16 ∨ y = 18 ∨ y = 19 ∨ y = 20 ∨ y = 21 ∨ y = 23 ∨ y = 26 ∨ y = 29 ∨ y = 30 := by simpa using e
            rcases this with c | c | c | c | c | c | c | c | c | c | c <;> rw [c] <;> decide)), uIe, upn (ne 0 (by decide)), zc 61 (by decide)]
        have x62 : (mS (uI (uI I' 61 20 0) 61 13 0) (-6)) 62 = rfv (I 62) (-6) := by rw [mS_62, uIn (by decide), uIn (by decide), u.1 62 (by decide), uIn (by decide), zc 62 (by decide)]
        generalize (mS (uI (uI I' 61 20 0) 61 13 0) (-6)) = X at xo x61 x62 ⊢
        refine h.ref (v := -6) (Or.inr rfl) (fun x hx => ?_) ?_ ?_ ?_ ?_ x62 (fun y hy => ?_) ?_ ?_ ?_ ?_ ?_ ?_ (fun x hx => ?_)
        · rw [xo x (fun e => hx ?_), zc x (fun e => hx ?_)]
          · have : x = 0 ∨ x = 38 ∨ x = 40 ∨ x = 41 ∨ x = 42 ∨ x = 43 ∨ x = 44 ∨ x = 45 ∨ x = 59 := by simpa using e
            rcases this with c | c | c | c | c | c | c | c | c <;> rw [c] <;> decide
          · have : x = 61 ∨ x = 62 ∨ x = 71 ∨ x = 72 ∨ x = 73 ∨ x = 74 ∨ x = 75 ∨ x = 87 := by simpa using e
            rcases this with c | c | c | c | c | c | c | c <;> rw [c] <;> decide
        · rw [xo 0 (by decide), z0, upn (by decide)]
        · rw [xo 0 (by decide), z0, upn (by decide)]
        · rw [xo 0 (by decide), z0, upe]
        · rw [xo 59 (by decide), z59]
        · have : y = 8 ∨ y = 11 ∨ y = 41 ∨ y = 57 := by simpa using hy
          rw [x61]
          refine y61 y ?_
          rcases this with c | c | c | c <;> rw [c] <;> decide
        · rw [x61, upe]
        · rw [xo 40 (by decide), z40, x61, upn (by decide), upn (by decide), upn (by decide), b18]
        · rw [xo 0 (by decide), z0, upn (by decide), x61, y61 53 (by decide)]
          exact h.2.2.2.2.2.1.1.2.1
        · rw [xo 38 (by decide), z38, upe]
        · rw [x61, upn (by decide), upe]
        · rw [x61, upn (by decide), upn (by decide), upe]
        · exact u.2.2.1 x (fun e => by rw [e] at hx; revert hx; decide)
      · exfalso
        rw [uIn (by decide), zc 63 (by decide), n1] at c
        have := (qeq (b := 6) (by omega) (by omega)).mp c
        omega
    · -- a law
      obtain ⟨okc, okl, okm⟩ := aTe_ok (ord := 0) hz 12 0 0 [] cs (Nat.zero_le _) (fun c hc => (by cases hc)) hcs
      have okm : cs.length ≤ 12 := by simpa using okm
      obtain ⟨t1a, t1b, -, t1d, t1e, -⟩ := t1
      have hlen : len ≤ 400 := by
        have h1 := t1a.2.2.2.2.2.1
        have h2 := aF_le (b := b) t1a.2.2.2.2.2.2
        omega
      have nn : ∀ k : Nat, k < 2147483648 → ¬ nI k < 0 := fun k hk y => by
        rw [Int32.lt_iff_toInt_lt, qi hk] at y
        have e : (0 : Int32).toInt = 0 := rfl
        omega
      have y5 : (uI I1 38 1 0) 41 5 = nI len := by rw [uIn (by decide)]; exact t1a.2.2.2.2.1
      have y4 : (uI I1 38 1 0) 41 4 = nI cs.length := by rw [uIn (by decide)]; exact t1b
      have y3 : nI cs.length * 3 + 1 = nI (3 * cs.length + 1) := by rw [show nI cs.length * 3 = nI (cs.length * 3) from qmul _ 3, nI_1]; congr 1; omega
      have hTY := h.1.p2
      unfold F6_copy P6_copy
      rw [y5, y4, y3, qn (by omega), qn (by omega), qn (by omega)]
      refine ⟨⟨?_, nn _ (by omega), nn _ (by omega), nn _ (by omega), ?_, ?_, ?_, ?_, ?_⟩, fun S2 hG2 hN2 l1 l2 l3 l4 => ?_⟩
      · unfold P6_init
        rw [i32max0 (nn len (by omega)), i32max0 (nn cs.length (by omega)), y3, qn (by omega), qn (by omega), qn (by omega)]
        exact ⟨⟨nn _ (by omega), hlen⟩, ⟨nn _ (by omega), okm⟩, ⟨nn _ (by omega), okm⟩, ⟨nn _ (by omega), by omega⟩⟩
      · rw [show sL (uQ S 40 2 (some 38)) (41 + 1) = sL S 42 from rfl, h42]; exact hlen
      · rw [show sL (uQ S 40 2 (some 38)) (41 + 2) = sL S 43 from rfl, h43]; exact okm
      · rw [show sL (uQ S 40 2 (some 38)) (41 + 3) = sL S 44 from rfl, h44]; exact okm
      · rw [show sL (uQ S 40 2 (some 38)) (41 + 4) = sL S 45 from rfl, h45]; omega
      · show 46 ≤ sZ S
        omega
      have ez0 : sZ (uQ S 40 2 (some 38)) = sZ S := rfl
      rw [ez0] at hN2 l1 l2 l3 l4 ⊢
      obtain ⟨⟨x1, x2, x3, x4⟩, tz, ez⟩ := hN2
      have hq40 : ∀ x j, x ≠ 40 → sQ (uQ S 40 2 (some 38)) x j = sQ S x j := fun x j hx => by
        show (if x = 40 ∧ j = 2 then some 38 else S.1 x j) = S.1 x j
        rw [if_neg (fun y => hx y.1)]
      have et2 : ∀ x t, ty S x t → ty S2 x t := fun x t hx => x2 x t hx.1 hx
      have t16 : ty S 16 44 := tGr.off h.1.1 (tGr.off h.1.1 h.1.2.1 (k := 0) rfl) (k := 3) rfl
      have t18 : ty S 1 8 := tGr.off h.1.1 h.1.2.1 (k := 0) rfl
      refine ⟨et2 _ _ t18, ?_⟩
      -- the class's cells behind it
      have c14 : (CI6 (uI I1 38 1 0) J 41 (sZ S)) 1 4 = nI N := by rw [CI6_o (by omega), uIn (by decide), fr 1 (by decide)]; exact i4
      unfold F8_addLaw
      rw [c14]
      refine ⟨fun _ => ⟨(qin (by omega)).mpr hN6, ?_⟩, fun c => absurd ((qlt (b := 6) (by omega) (by omega)).mpr hN6) c⟩
      rw [uIe, upe, nI_1, qpred (by omega), show N + 1 - 1 = N by omega, qn (by omega)]
      have hG3 : tGr (uQ S2 (1 + 15) N (some (sZ S))) := by
        refine tGr_uQ hG2 (fun t ht x hx => ?_)
        have e : t = 44 := ht.2.symm.trans (et2 _ _ t16).2
        subst e
        cases hx
        exact ⟨fun y => absurd y (by decide), fun y => absurd y (by decide), fun _ => tz⟩
      have hq3 : ∀ x j, x < sZ S → x ≠ 40 → (x ≠ 16 ∨ j ≠ N) → sQ (uQ S2 (1 + 15) N (some (sZ S))) x j = sQ S x j := fun x j h1 h2 h3 => by
        show (if x = 1 + 15 ∧ j = N then some (sZ S) else S2.1 x j) = S.1 x j
        rw [if_neg (fun y => by rcases h3 with g | g; exact g y.1; exact g y.2)]
        exact (x4 x j h1).trans (hq40 x j h2)
      have hqN : sQ (uQ S2 (1 + 15) N (some (sZ S))) (1 + 15) N = some (sZ S) := by
        show (if 1 + 15 = 1 + 15 ∧ N = N then some (sZ S) else S2.1 (1 + 15) N) = _
        rw [if_pos ⟨rfl, rfl⟩]
      have el3 : ∀ x, x < sZ S → sL (uQ S2 (1 + 15) N (some (sZ S))) x = sL S x := fun x hx => x3 x hx
      have ez3 : sZ (uQ S2 (1 + 15) N (some (sZ S))) = sZ S + 5 := ez
      have hTY3 : TY (uQ S2 (1 + 15) N (some (sZ S))) := h.1.of hG3 et2 (by omega) el3
      have et3 : ∀ x t, ty S x t → ty (uQ S2 (1 + 15) N (some (sZ S))) x t := et2
      have tz3 : ty (uQ S2 (1 + 15) N (some (sZ S))) (sZ S) 6 := tz
      have sl1 : sL (uQ S2 (1 + 15) N (some (sZ S))) (sZ S + 1) = len := l1
      have sl2 : sL (uQ S2 (1 + 15) N (some (sZ S))) (sZ S + 2) = cs.length := l2
      have sl3 : sL (uQ S2 (1 + 15) N (some (sZ S))) (sZ S + 3) = cs.length := l3
      have sl4 : sL (uQ S2 (1 + 15) N (some (sZ S))) (sZ S + 4) = 3 * cs.length + 1 := l4
      generalize (uQ S2 (1 + 15) N (some (sZ S))) = S3 at hG3 hq3 hqN el3 ez3 hTY3 et3 tz3 sl1 sl2 sl3 sl4 ⊢
      refine ⟨hTY3.2.1, sp_settle hTY3.l59 (by rw [qi (by omega)]; omega) ⟨hTY3.2.2.1, ?_⟩⟩
      rw [cS_p (by rw [qi (by omega)]; omega)]
      have jo : ∀ x, x < sZ S → (NJ6_init (uZI (uI I1 38 1 0) (sZ S)) (uZJ J (sZ S)) (sZ S) (nI len) (nI cs.length)) x = J x := fun x hx => NJ6_o hx
      generalize (NJ6_init (uZI (uI I1 38 1 0) (sZ S)) (uZJ J (sZ S)) (sZ S) (nI len) (nI cs.length)) = J3 at jo ⊢
      have zc : ∀ x, (x < sZ S ∨ sZ S + 4 < x) → x ∉ [0, 1, 38, 40, 41, 42, 43, 44, 45] → (uI (uI (CI6 (uI I1 38 1 0) J 41 (sZ S)) 1 4 (nI (N + 1))) 0 18 0) x = I x := fun x hx hn => by
        have ne : ∀ t, t ∈ [0, 1, 38, 40, 41, 42, 43, 44, 45] → x ≠ t := fun t ht e => hn (by rw [e]; exact ht)
        rw [uIn (ne 0 (by decide)), uIn (ne 1 (by decide)), CI6_o hx, uIn (ne 38 (by decide))]
        exact fr x (fun e => hn (by
          have : x = 40 ∨ x = 41 ∨ x = 42 ∨ x = 43 ∨ x = 44 ∨ x = 45 := by simpa using e
          rcases this with c | c | c | c | c | c <;> rw [c] <;> decide))
      have z1 : (uI (uI (CI6 (uI I1 38 1 0) J 41 (sZ S)) 1 4 (nI (N + 1))) 0 18 0) 1 = up (I 1) 4 (nI (N + 1)) := by rw [uIn (by decide), uIe, CI6_o (by omega), uIn (by decide), fr 1 (by decide)]
      have zz0 : (uI (uI (CI6 (uI I1 38 1 0) J 41 (sZ S)) 1 4 (nI (N + 1))) 0 18 0) 0 = up (I 0) 18 0 := by rw [uIe, uIn (by decide), CI6_o (by omega), uIn (by decide), fr 0 (by decide)]
      have z38 : (uI (uI (CI6 (uI I1 38 1 0) J 41 (sZ S)) 1 4 (nI (N + 1))) 0 18 0) 38 1 = 0 := by rw [uIn (by decide), uIn (by decide), CI6_o (by omega), uIe, upe]
      have z40 : (uI (uI (CI6 (uI I1 38 1 0) J 41 (sZ S)) 1 4 (nI (N + 1))) 0 18 0) 40 1 = -1 := by rw [uIn (by decide), uIn (by decide), CI6_o (by omega), uIn (by decide)]; exact t1a.2.1
      have q4 : (uI (uI (CI6 (uI I1 38 1 0) J 41 (sZ S)) 1 4 (nI (N + 1))) 0 18 0) (sZ S) 4 = nI cs.length := by rw [uIn (by omega), uIn (by omega), CI6_4]; exact y4
      have q5 : (uI (uI (CI6 (uI I1 38 1 0) J 41 (sZ S)) 1 4 (nI (N + 1))) 0 18 0) (sZ S) 5 = nI len := by rw [uIn (by omega), uIn (by omega), CI6_5]; exact y5
      have q42 : ∀ i, i < len → (uI (uI (CI6 (uI I1 38 1 0) J 41 (sZ S)) 1 4 (nI (N + 1))) 0 18 0) (sZ S + 1) i = I1 42 i := fun i hi => by rw [uIn (by omega), uIn (by omega), CI6_1 (by omega) (by rw [y5, qn (by omega)]; exact hi), uIn (by decide)]
      have q43 : ∀ i, i < cs.length → (uI (uI (CI6 (uI I1 38 1 0) J 41 (sZ S)) 1 4 (nI (N + 1))) 0 18 0) (sZ S + 2) i = I1 43 i := fun i hi => by rw [uIn (by omega), uIn (by omega), CI6_2 (by omega) (by rw [y4, qn (by omega)]; exact hi), uIn (by decide)]
      have q44 : ∀ i, i < cs.length → (uI (uI (CI6 (uI I1 38 1 0) J 41 (sZ S)) 1 4 (nI (N + 1))) 0 18 0) (sZ S + 3) i = I1 44 i := fun i hi => by rw [uIn (by omega), uIn (by omega), CI6_3 (by omega) (by rw [y4, qn (by omega)]; exact hi), uIn (by decide)]
      have q45 : ∀ i, i < 3 * cs.length + 1 → (uI (uI (CI6 (uI I1 38 1 0) J 41 (sZ S)) 1 4 (nI (N + 1))) 0 18 0) (sZ S + 4) i = I1 45 i := fun i hi => by rw [uIn (by omega), uIn (by omega), CI6_e (by omega) (by rw [y4, y3, qn (by omega)]; exact hi), uIn (by decide)]
      generalize (uI (uI (CI6 (uI I1 38 1 0) J 41 (sZ S)) 1 4 (nI (N + 1))) 0 18 0) = Z at zc z1 zz0 z38 z40 q4 q5 q42 q43 q44 q45 ⊢
      -- the model
      have hM0 : MTp b z ((uI Z 61 0 0) 61) ((uI Z 61 0 0) 70) := by
        unfold MTp
        rw [uIe, upn (by decide), uIn (by decide), zc 61 (by omega) (by decide), zc 70 (by omega) (by decide)]; exact hM
      unfold F12_law
      refine ⟨fun _ => ?_, fun c => ?_⟩
      · refine sp_lawT (n := n) (S := S3) (b := b) (z := z) (E := fun I7 J8 => (((I7 61 19) = 0 → vp_in ((110 + (900 * (I7 63 3))) + 1) 5510 ∧ F12_law_L110 n S3 (fun y I2 J2 => nI N = y ∧ Inv S3 I2 J2) n (uI I7 63 ((110 + (900 * (I7 63 3))) + 1).toNatClampNeg (I7 61 21)) J8 (110 + (900 * (I7 63 3))) 0) ∧ (¬ (I7 61 19) = 0 → F12_tell n S3 I7 J8 (-6) (fun x17 I15 J16 => nI N = x17 ∧ Inv S3 I15 J16)))) hM0 (by omega) (fun i hi => by rw [jo 76 (by omega)]; exact j76 i hi) (fun i hi => by rw [jo 77 (by omega)]; exact j77 i hi) (fun i hi => by rw [jo 78 (by omega)]; exact j78 i hi) (fun I2 J2 hh => hh) (fun x2 hx2 => by rw [hcs] at hx2; cases hx2) (fun cs2 hcs2 I' J' q2 m2 nc g rr u mt => ?_)
        have ecs : cs2 = cs := by rw [hcs] at hcs2; exact (Sum.inr.inj hcs2).symm
        subst ecs
        obtain ⟨mE, m21, -, mR⟩ := mt
        have c19 : (uI (uI I' 61 20 0) 61 13 0) 61 19 = 0 := by rw [uIe, upn (by decide), uIe, upn (by decide)]; exact mE.2.2.1
        have ncl : nc ≤ 400 := by
          have h1 := mE.2.2.2.2.2.2.2.1
          have h2 := aF_le (b := b) mE.2.1
          omega
        refine ⟨fun _ => ?_, fun c => absurd c19 c⟩
        have i63 : (uI (uI I' 61 20 0) 61 13 0) 63 = I 63 := by rw [uIn (by decide), uIn (by decide), u.1 63 (by decide), uIn (by decide), zc 63 (by omega) (by decide)]
        have e1 : 110 + 900 * nI N = nI (110 + 900 * N) := by rw [show 900 * nI N = nI (900 * N) from qmulr _ 900]; exact qaddr _ 110
        have e21 : (uI (uI I' 61 20 0) 61 13 0) 61 21 = nI cs2.length := by rw [uIe, upn (by decide), uIe, upn (by decide)]; exact m21
        rw [i63, n1, e1, nI_1, qn (by omega), e21]
        refine ⟨(qin (by omega)).mpr (by omega), ?_⟩
        have a61 : (uI (uI (uI I' 61 20 0) 61 13 0) 63 (110 + 900 * N + 1) (nI cs2.length)) 61 = up (up (I' 61) 20 0) 13 0 := by rw [uIn (by decide), uIe, uIe]
        have ao : ∀ x, x ≠ 61 → x ≠ 63 → (uI (uI (uI I' 61 20 0) 61 13 0) 63 (110 + 900 * N + 1) (nI cs2.length)) x = I' x := fun x h1 h2 => by rw [uIn h2, uIn h1, uIn h1]
        have a63 : (uI (uI (uI I' 61 20 0) 61 13 0) 63 (110 + 900 * N + 1) (nI cs2.length)) 63 = up (I 63) (110 + 900 * N + 1) (nI cs2.length) := by rw [uIe, i63]
        generalize (uI (uI (uI I' 61 20 0) 61 13 0) 63 (110 + 900 * N + 1) (nI cs2.length)) = H at a61 ao a63 ⊢
        refine lawM_110 (I := H) (at0 := 110 + 900 * N) (M := cs2.length) (by omega) (by omega) okm (by rw [a61, upn (by decide), upn (by decide)]; exact m21) (fun X1 b1 b2 b3 => ?_) (8 * cs2.length) n 0 H (by omega) (by omega) (fun _ _ => rfl) (fun q hq => by omega) (fun _ _ => rfl)
        refine lawM_145 (I := X1) (at0 := 110 + 900 * N) (nc := nc) (by omega) (by omega) ncl (by rw [b1 61 (by decide), a61, upn (by decide), upn (by decide)]; exact mE.2.2.2.2.2.2.1) (fun X2 d1 d2 d3 => ?_) nc n 0 X1 (by omega) (by omega) (fun _ _ => rfl) (fun q hq => by omega) (fun _ _ => rfl)
        have e3 : X2 63 3 = nI N := by rw [d3 3 (by omega), b3 3 (by omega), a63, upn (by omega)]; exact n1
        rw [e3, nI_1, qpred (by omega), show N + 1 - 1 = N by omega]
        refine sp_tell (by rw [qi (by omega)]; omega) ⟨rfl, ?_⟩
        rw [mS_p (by rw [qi (by omega)]; omega)]
        have xo : ∀ x, x ∉ [61, 63, 71, 72, 73, 74, 75, 87] → (uI (uI X2 63 3 (nI (N + 1))) 61 1 0) x = Z x := fun x hx => by
          have ne : ∀ t, t ∈ [61, 63, 71, 72, 73, 74, 75, 87] → x ≠ t := fun t ht e => hx (by rw [e]; exact ht)
          rw [uIn (ne 61 (by decide)), uIn (ne 63 (by decide)), d1 x (ne 63 (by decide)), b1 x (ne 63 (by decide)), ao x (ne 61 (by decide)) (ne 63 (by decide)), u.1 x (fun e => hx (by
            have : x = 61 ∨ x = 71 ∨ x = 72 ∨ x = 73 ∨ x = 74 ∨ x = 75 ∨ x = 87 := by simpa using e
            rcases this with c | c | c | c | c | c | c <;> rw [c] <;> decide)), uIn (ne 61 (by decide))]
        have x61 : ∀ y, (uI (uI X2 63 3 (nI (N + 1))) 61 1 0) 61 y = up (up (up (I' 61) 20 0) 13 0) 1 0 y := fun y => by rw [uIe, uIn (by decide), d1 61 (by decide), b1 61 (by decide), a61]
        have y61 : ∀ y, y ∉ [0, 1, 13, 14, 15, 16, 18, 19, 20, 21, 23, 26, 29, 30] → (up (up (up (I' 61) 20 0) 13 0) 1 0) y = I 61 y := fun y hy => by
          have ne : ∀ t, t ∈ [0, 1, 13, 14, 15, 16, 18, 19, 20, 21, 23, 26, 29, 30] → y ≠ t := fun t ht e => hy (by rw [e]; exact ht)
          rw [upn (ne 1 (by decide)), upn (ne 13 (by decide)), upn (ne 20 (by decide)), u.2.1 y (fun e => hy (by
            have : y = 14 ∨ y = 15 ∨ y = 16 ∨ y = 18 ∨ y = 19 ∨ y = 20 ∨ y = 21 ∨ y = 23 ∨ y = 26 ∨ y = 29 ∨ y = 30 := by simpa using e
            rcases this with c | c | c | c | c | c | c | c | c | c | c <;> rw [c] <;> decide)), uIe, upn (ne 0 (by decide)), zc 61 (by omega) (by decide)]
        have x63 : (uI (uI X2 63 3 (nI (N + 1))) 61 1 0) 63 = up (X2 63) 3 (nI (N + 1)) := by rw [uIn (by decide), uIe]
        have er : ∀ y, y ≠ 3 → (y < 110 + 900 * N + 1 ∨ 110 + 900 * N + 900 ≤ y) → (uI (uI X2 63 3 (nI (N + 1))) 61 1 0) 63 y = I 63 y := fun y h1 h2 => by
          rw [x63, upn h1, d3 y (by omega), b3 y (by omega), a63, upn (by omega)]
        have er3 : (uI (uI X2 63 3 (nI (N + 1))) 61 1 0) 63 3 = nI (N + 1) := by rw [x63, upe]
        have erM : (uI (uI X2 63 3 (nI (N + 1))) 61 1 0) 63 (110 + 900 * N + 1) = nI cs2.length := by rw [x63, upn (by omega), d3 _ (by omega), b3 _ (by omega), a63, upe]
        have erR : ∀ k, k < 8 * cs2.length → (uI (uI X2 63 3 (nI (N + 1))) 61 1 0) 63 (110 + 900 * N + 2 + k) = I' 71 k := fun k hk => by
          rw [x63, upn (by omega), d3 _ (by omega), b2 k hk, ao 71 (by decide) (by decide)]
        have erC : ∀ i, i < nc → (uI (uI X2 63 3 (nI (N + 1))) 61 1 0) 63 (110 + 900 * N + 98 + 2 * i) = nI (g i) ∧ (uI (uI X2 63 3 (nI (N + 1))) 61 1 0) 63 (110 + 900 * N + 98 + 2 * i + 1) = nI (rr i) ∧ g i < 40 ∧ rr i < 100000 := fun i hi => by
          obtain ⟨v1, v2⟩ := d2 i hi
          obtain ⟨w1, w2, w3, w4⟩ := mE.2.2.2.2.2.2.2.2 i hi
          rw [x63, upn (by omega), upn (by omega), v1, v2, b1 72 (by decide), b1 73 (by decide), ao 72 (by decide) (by decide), ao 73 (by decide) (by decide)]
          exact ⟨w1, w2, w3, w4⟩
        generalize (uI (uI X2 63 3 (nI (N + 1))) 61 1 0) = X at xo x61 er er3 erM erR erC ⊢
        have xI : ∀ x, (x < sZ S ∨ sZ S + 4 < x) → x ∉ [0, 1, 38, 40, 41, 42, 43, 44, 45, 61, 63, 71, 72, 73, 74, 75, 87] → X x = I x := fun x h1 h2 => by
          have ne : ∀ t, t ∈ [0, 1, 38, 40, 41, 42, 43, 44, 45, 61, 63, 71, 72, 73, 74, 75, 87] → x ≠ t := fun t ht e => h2 (by rw [e]; exact ht)
          rw [xo x (fun e => h2 (by
            have : x = 61 ∨ x = 63 ∨ x = 71 ∨ x = 72 ∨ x = 73 ∨ x = 74 ∨ x = 75 ∨ x = 87 := by simpa using e
            rcases this with c | c | c | c | c | c | c | c <;> rw [c] <;> decide)), zc x h1 (fun e => h2 (by
            have : x = 0 ∨ x = 1 ∨ x = 38 ∨ x = 40 ∨ x = 41 ∨ x = 42 ∨ x = 43 ∨ x = 44 ∨ x = 45 := by simpa using e
            rcases this with c | c | c | c | c | c | c | c | c <;> rw [c] <;> decide))]
        have xS : ∀ x, 2 ≤ x → x < 16 → X x = I x := fun x h1 h2 => xI x (by omega) (fun e => by
          have : x = 0 ∨ x = 1 ∨ x = 38 ∨ x = 40 ∨ x = 41 ∨ x = 42 ∨ x = 43 ∨ x = 44 ∨ x = 45 ∨ x = 61 ∨ x = 63 ∨ x = 71 ∨ x = 72 ∨ x = 73 ∨ x = 74 ∨ x = 75 ∨ x = 87 := by simpa using e
          omega)
        have xH : ∀ x, 89 ≤ x → (x < sZ S ∨ sZ S + 4 < x) → X x = I x := fun x h1 h2 => xI x h2 (fun e => by
          have : x = 0 ∨ x = 1 ∨ x = 38 ∨ x = 40 ∨ x = 41 ∨ x = 42 ∨ x = 43 ∨ x = 44 ∨ x = 45 ∨ x = 61 ∨ x = 63 ∨ x = 71 ∨ x = 72 ∨ x = 73 ∨ x = 74 ∨ x = 75 ∨ x = 87 := by simpa using e
          omega)
        have xN : ∀ x, sZ S ≤ x → x ≤ sZ S + 4 → X x = Z x := fun x h1 h2 => xo x (fun e => by
          have : x = 61 ∨ x = 63 ∨ x = 71 ∨ x = 72 ∨ x = 73 ∨ x = 74 ∨ x = 75 ∨ x = 87 := by simpa using e
          omega)
        have er' : ∀ k, k ≠ 3 → k < 110 → X 63 k = I 63 k := fun k h1 h2 => er k h1 (by omega)
        refine h.asm hTY3 ?_ ⟨fun j hj => ?_, fun a ha => ?_⟩ ?_ ?_ ?_ (xI 34 (by omega) (by decide)) (xI 35 (by omega) (by decide)) (xI 66 (by omega) (by decide)) (xI 67 (by omega) (by decide)) ?_ (er' 0 (by decide) (by decide)) (er' 1 (by decide) (by decide)) (fun k _ _ => er' k (by omega) (by omega)) (fun k _ _ => er' k (by omega) (by omega)) ?_ ?_ (xI 49 (by omega) (by decide)) (xI 50 (by omega) (by decide)) (fun x hx => ?_)
        · -- the State
          have e1 : X 1 = up (I 1) 4 (nI (N + 1)) := by rw [xo 1 (by decide), z1]
          obtain ⟨kr1, kr2, kr3, kr4, kr5, kr6, kr7, kr8, kr9⟩ := hK.1
          refine ⟨⟨?_, ?_, ?_, ?_, ?_⟩, ?_, ?_, ?_, ?_, ⟨⟨?_, ?_, ?_, ⟨N + 1, er3, by omega⟩, ?_, ?_, ?_, ?_, ?_⟩, fun i hi => ?_, ?_, fun i hi => ?_, fun i hi => ?_⟩, fun i hi => ?_⟩
          · rw [e1, upe, er3]
          · rw [e1, upn (by decide), er' 4 (by decide) (by decide)]; exact hN.2.1
          · show X 2 0 = X 63 0
            rw [xS 2 (by omega) (by omega), er' 0 (by decide) (by decide)]; exact hN.2.2.1
          · show X 7 0 = X 63 1
            rw [xS 7 (by omega) (by omega), er' 1 (by decide) (by decide)]; exact hN.2.2.2.1
          · show X 7 5 = X 63 2
            rw [xS 7 (by omega) (by omega), er' 2 (by decide) (by decide)]; exact hN.2.2.2.2
          · show RLd (X 3) (X 4) (X 5) (X 6) (X 63)
            rw [xS 3 (by omega) (by omega), xS 4 (by omega) (by omega), xS 5 (by omega) (by omega), xS 6 (by omega) (by omega)]
            exact hLd.r (fun k _ _ => er' k (by omega) (by omega))
          · show RB (X 8) (X 9) (X 10) (X 11) (X 63)
            rw [xS 8 (by omega) (by omega), xS 9 (by omega) (by omega), xS 10 (by omega) (by omega), xS 11 (by omega) (by omega)]
            exact hB.r (fun k _ _ => er' k (by omega) (by omega))
          · show RG (X 12) (X 13) (X 14) (X 63)
            rw [xS 12 (by omega) (by omega), xS 13 (by omega) (by omega), xS 14 (by omega) (by omega)]
            exact hG.r (fun k _ _ => er' k (by omega) (by omega))
          · show RT (X 15) (X 63)
            rw [xS 15 (by omega) (by omega)]
            exact hT.r (fun k _ _ => er' k (by omega) (by omega))
          · rw [er' 0 (by decide) (by decide)]; exact kr1
          · rw [er' 1 (by decide) (by decide)]; exact kr2
          · rw [er' 2 (by decide) (by decide)]; exact kr3
          · rw [er' 4 (by decide) (by decide), er3, qi (by omega)]
            rw [n1, qi (by omega)] at kr5
            omega
          · rw [er' 5 (by decide) (by decide)]; exact kr6
          · rw [er' 6 (by decide) (by decide)]; exact kr7
          · rw [er' 7 (by decide) (by decide)]; exact kr8
          · rw [er' 8 (by decide) (by decide)]; exact kr9
          · rw [er' _ (by omega) (by omega), er' _ (by omega) (by omega)]; exact hK.2.1 i hi
          · exact hK.2.2.1.r (er' 1 (by decide) (by decide)) (fun k _ _ => er' k (by omega) (by omega)) (fun k hk => by show X 63 (9 + k) = I 63 (9 + k); exact er' _ (by omega) (by omega))
          · rw [er' _ (by omega) (by omega), er' _ (by omega) (by omega), er' _ (by omega) (by omega), er' _ (by omega) (by omega)]; exact hK.2.2.2.1 i hi
          · obtain ⟨w2, w3, w4⟩ := kr3
            rw [er' 2 (by decide) (by decide)] at hi
            have hi8 : i < 8 := by rw [w3, qi (by omega)] at hi; omega
            rw [er' (86 + 3 * i) (by omega) (by omega), er' (86 + 3 * i + 1) (by omega) (by omega), er' (86 + 3 * i + 2) (by omega) (by omega), er' 1 (by decide) (by decide)]; exact hK.2.2.2.2 i hi
          · rw [er3, qi (by omega)] at hi
            by_cases e : i = N
            · subst e
              refine ⟨sZ S, hqN, ?_⟩
              rw [xN (sZ S) (by omega) (by omega), xN (sZ S + 1) (by omega) (by omega), xN (sZ S + 2) (by omega) (by omega), xN (sZ S + 4) (by omega) (by omega)]
              refine LRel_new (f3 := Z (sZ S + 3)) ⟨tz3, h89, by omega⟩ okc rfl okm hlen ncl ⟨q4, q5, erM⟩ ⟨sl1, sl2, sl3, sl4⟩ (fun i hi => ?_) (fun j c hj => ?_) erC erR mR
              · rw [q42 i hi]; exact t1d i hi
              · have hjM : j < cs2.length := by
                  rcases Nat.lt_or_ge j cs2.length with c | c
                  · exact c
                  · rw [List.getElem?_eq_none c] at hj; cases hj
                exact (t1e j c hj).cg (fun i hi => q42 i hi) (q43 j hjM) (q44 j hjM) (fun i hi => q45 i (by omega)) (Nat.le_refl _)
            · have hiN : i < N := by omega
              obtain ⟨p, p1, p2⟩ := hW i (by rw [n1, qi (by omega)]; omega)
              have hp : p + 5 ≤ sZ S ∧ 89 ≤ p := ⟨p2.1.2.2, p2.1.2.1⟩
              refine ⟨p, by rw [hq3 _ _ (by omega) (by decide) (Or.inr e)]; exact p1, ?_⟩
              rw [xH p (by omega) (by omega), xH (p + 1) (by omega) (by omega), xH (p + 2) (by omega) (by omega), xH (p + 4) (by omega) (by omega)]
              exact (p2.sh (et3 p 6) (by omega) el3).r (fun k k1 k2 => er k (by omega) (by omega))
        · rw [hq3 33 j (by omega) (by decide) (Or.inl (by decide)), xI 65 (by omega) (by decide)]
          rcases h.2.2.2.2.1.1 j hj with q | ⟨a, s1, s2, s3, s4, s5, s6⟩
          · exact Or.inl q
          · refine Or.inr ⟨a, s1, s2, et3 _ _ s3, s4, by omega, ?_⟩
            rw [xI 64 (by omega) (by decide)]
            exact s6.mv (S' := S3) (fun i _ => xH _ (by omega) (by omega)) (fun j _ => hq3 _ _ (by omega) (by omega) (Or.inl (by omega))) (fun p p1 p2 p3 => ⟨et3 _ _ p1, xH _ (by omega) (by omega), xH _ (by omega) (by omega), xH _ (by omega) (by omega), xH _ (by omega) (by omega)⟩) (by omega) el3
        · rw [hq3 33 0 (by omega) (by decide) (Or.inl (by decide))] at ha
          rw [hq3 33 1 (by omega) (by decide) (Or.inl (by decide))]
          exact h.2.2.2.2.1.2 a ha
        · refine RMs.txt (v := 0) h.2.2.2.2.2.1 (xI 60 (by omega) (by decide)) (xI 88 (by omega) (by decide)) ?_ ?_ ?_ ?_ ?_ ?_ ?_ ?_ ?_ ?_
          · rw [xo 0 (by decide), zz0, upn (by decide)]
          · rw [xo 0 (by decide), zz0, upn (by decide)]
          · rw [xo 0 (by decide), zz0, upe]; rfl
          · rw [xI 59 (by omega) (by decide), rfv_n (by decide)]
          · rw [xI 62 (by omega) (by decide), rfv_n (by decide)]
          · rw [x61, y61 11 (by decide)]
          · rw [x61, y61 57 (by decide)]
          · rw [x61, upe]; rfl
          · rw [xo 40 (by decide), z40, x61, upn (by decide), upn (by decide), upn (by decide), mE.2.2.2.1]
          · rw [xo 0 (by decide), zz0, upn (by decide), x61, y61 53 (by decide)]
            exact h.2.2.2.2.2.1.1.2.1
        · rw [xo 38 (by decide), z38]
        · rw [x61, upn (by decide), upe]
        · rw [x61, y61 8 (by decide)]
        · rw [x61, upn (by decide), upn (by decide), upe]
        · rw [x61, y61 41 (by decide)]
        · rw [u.2.2.1 x (fun e => by rw [e] at hx; revert hx; decide), jo x (by
            have : x = 76 ∨ x = 77 ∨ x = 78 ∨ x = 86 := by simpa using hx
            omega)]
      · exfalso
        rw [uIn (by decide), zc 63 (by omega) (by decide), n1] at c
        have := (qeq (b := 6) (by omega) (by omega)).mp c
        omega
end ST2
