/-! orders: the step -/
theorem CpS.cg {I I' X X' : tHI} {a b : Nat} (h : CpS I X a b) (e1 : ∀ i, i < 15 → I' (b + i) = I (b + i)) (e2 : ∀ i, i < 15 → X' (a + i) = X (a + i)) : CpS I' X' a b := by
  obtain ⟨⟨c1, c2, c3, c4, c5⟩, cl, cb, cg, ct⟩ := h
  have a0 : X' a = X a := e2 0 (by omega)
  have b0 : I' b = I b := e1 0 (by omega)
  refine ⟨⟨by rw [a0, b0]; exact c1, by rw [a0, b0]; exact c2, by rw [e2 1 (by omega), e1 1 (by omega)]; exact c3, by rw [e2 6 (by omega), e1 6 (by omega)]; exact c4, by rw [e2 6 (by omega), e1 6 (by omega)]; exact c5⟩, fun i hi => ?_, fun i hi => ?_, fun i hi => ?_, fun i hi => ?_⟩
  · rw [e2 2 (by omega), e1 2 (by omega), e2 3 (by omega), e1 3 (by omega), e2 4 (by omega), e1 4 (by omega), e2 5 (by omega), e1 5 (by omega)]; exact cl i hi
  · rw [e2 7 (by omega), e1 7 (by omega), e2 8 (by omega), e1 8 (by omega), e2 9 (by omega), e1 9 (by omega), e2 10 (by omega), e1 10 (by omega)]; exact cb i hi
  · rw [e2 11 (by omega), e1 11 (by omega), e2 12 (by omega), e1 12 (by omega), e2 13 (by omega), e1 13 (by omega)]; exact cg i hi
  · rw [e2 14 (by omega), e1 14 (by omega)]; exact ct i hi
theorem RIm.mv2 {S S' : tSH} {I X : tHI} (h : RIm S I) (e33 : ∀ j, sQ S' 33 j = sQ S 33 j) (eq : ∀ x j, 89 ≤ x → sQ S' x j = sQ S x j) (et : ∀ x t, ty S x t → ty S' x t) (ez : sZ S ≤ sZ S') (el : ∀ x, x < sZ S → sL S' x = sL S x) (e64 : X 64 = I 64) (e65 : X 65 = I 65) (e2 : ∀ x, 89 ≤ x → X x = I x) : RIm S' X := by
  refine ⟨fun j hj => ?_, fun a ha => ?_⟩
  · rw [e33, e65]
    rcases h.1 j hj with q | ⟨a, q1, q2, q3, q4, q5, q6⟩
    · exact Or.inl q
    · refine Or.inr ⟨a, q1, q2, et _ _ q3, q4, by omega, ?_⟩
      rw [e64]
      exact q6.mv (S' := S') (fun i _ => e2 _ (by omega)) (fun j _ => eq _ _ (by omega)) (fun p p1 p2 _ => ⟨et _ _ p1, e2 _ p2, e2 _ (by omega), e2 _ (by omega), e2 _ (by omega)⟩) ez el
  · rw [e33] at ha
    rw [e33]
    exact h.2 a ha
theorem Inv.as2 {S S' : tSH} {I V : tHI} {J J' : tHJ} (h : Inv S I J) (hT : TY S') (hR : RSt S' V 1 (V 63)) (hH : RH (V 34) (V 35) (V 61) (V 66) (V 67) (V 63)) (hIm : RIm S' V) (hM : RMs V) (h38 : V 38 1 = 0) (h13 : V 61 13 = 0) (h20 : V 61 20 = 0) (h41 : V 61 41 = I 61 41) (h49 : ∀ y, y ∈ [8, 9, 10] → V 49 y = I 49 y) (h50 : ∀ y, y < 6 → V 50 y = I 50 y) (hJ : KpJ J J') : Inv S' V J' := by
  refine ⟨hT, hR, hH, ⟨0, by omega, h38, h13, fun k hk => by omega⟩, hIm, hM, h.2.2.2.2.2.2.cg ?_ h41 h49 h50 hJ⟩
  rw [h20]; exact h.2.2.2.2.2.2.1.1.symm
theorem st_orders {n : Nat} (hn : 6000 < n) : tSt_orders n Inv := by
  intro S I J h
  obtain ⟨z, b, hC, hM⟩ := h.tp2
  have hz := hC.1
  have hRK := h.2.1.2.2.2.2.2.1
  obtain ⟨N, NB, n1, n2, b1, b2, c63, -⟩ := h.mq
  obtain ⟨hc, hc16, h34, h61, H⟩ := h.2.2.1
  have h42 := h.1.2.2.2.2.1
  have h43 := h.1.2.2.2.2.2.1
  have h44 := h.1.2.2.2.2.2.2.1
  have h45 := h.1.2.2.2.2.2.2.2
  have h89 := h.1.2.2.2.1
  obtain ⟨-, hC49, hC50, j76, j77, j78, j86⟩ := id h.2.2.2.2.2.2
  unfold F11_orders
  refine sp_read (ord := 1) h42 h43 h44 h45 (by omega) (by omega) hC (fun x hx I1 fr f1 hx4 => ⟨fun _ => ?_, fun c => absurd rfl c⟩) (fun cs hcs I1 q m len fr t1 => ⟨fun c => absurd c (by decide), fun _ => ?_⟩)
  · -- a fault
    have hTY := h.1.p2
    refine sp_settle hTY.l59 (by decide) ⟨hTY.2.2.1, ?_⟩
    have zc : ∀ x, x ∉ [0, 38, 40, 41, 42, 43, 44, 45, 59] → (cS (uI (uI I1 38 1 0) 0 16 (-1)) (-6)) x = I x := fun x hx => by
      have ne : ∀ t, t ∈ [0, 38, 40, 41, 42, 43, 44, 45, 59] → x ≠ t := fun t ht e => hx (by rw [e]; exact ht)
      rw [cS_o (ne 0 (by decide)) (ne 59 (by decide)), uIn (ne 0 (by decide)), uIn (ne 38 (by decide))]
      exact fr x (fun e => by have : x = 40 ∨ x = 41 ∨ x = 42 ∨ x = 43 ∨ x = 44 ∨ x = 45 := by simpa using e
                              rcases this with c | c | c | c | c | c
                              · exact ne 40 (by decide) c
                              · exact ne 41 (by decide) c
                              · exact ne 42 (by decide) c
                              · exact ne 43 (by decide) c
                              · exact ne 44 (by decide) c
                              · exact ne 45 (by decide) c)
    have z38 : (cS (uI (uI I1 38 1 0) 0 16 (-1)) (-6)) 38 = up (I1 38) 1 0 := by rw [cS_o (by decide) (by decide), uIn (by decide), uIe]
    have z40 : (cS (uI (uI I1 38 1 0) 0 16 (-1)) (-6)) 40 1 = nI x := by rw [cS_o (by decide) (by decide), uIn (by decide), uIn (by decide)]; exact f1
    have z0 : (cS (uI (uI I1 38 1 0) 0 16 (-1)) (-6)) 0 = up (up (I 0) 16 (-1)) 18 (stv (-6)) := by rw [cS_0, uIe, uIn (by decide), fr 0 (by decide)]
    have z59 : (cS (uI (uI I1 38 1 0) 0 16 (-1)) (-6)) 59 = rfv (I 59) (-6) := by rw [cS_59, uIn (by decide), uIn (by decide), fr 59 (by decide)]
    generalize (cS (uI (uI I1 38 1 0) 0 16 (-1)) (-6)) = Z at zc z38 z40 z0 z59 ⊢
    have hM0 : MTp b z ((uI (uI Z 61 0 0) 61 53 (-1)) 61) ((uI (uI Z 61 0 0) 61 53 (-1)) 70) := by
      unfold MTp
      rw [uIe, upn (by decide), uIe, upn (by decide), uIn (by decide), uIn (by decide), zc 61 (by decide), zc 70 (by decide)]; exact hM
    unfold F12_orders
    refine sp_ordT (n := n) (S := uQ S 40 2 (some 38)) (b := b) (z := z) (k := fun y I2 J2 => (-6 : Int32) = y ∧ Inv (uQ S 40 2 (some 38)) I2 J2) (E := fun I6 J7 => (((I6 61 19) = 0 → F12_keepAll n (uQ S 40 2 (some 38)) I6 J7 17 (fun I9 J10 => F12_orders_L77 n (uQ S 40 2 (some 38)) (fun y I2 J2 => (-6 : Int32) = y ∧ Inv (uQ S 40 2 (some 38)) I2 J2) n I9 J10 (I9 61 8) 0)) ∧ (¬ (I6 61 19) = 0 → F12_tell n (uQ S 40 2 (some 38)) I6 J7 (-6) (fun x29 I27 J28 => (-6 : Int32) = x29 ∧ Inv (uQ S 40 2 (some 38)) I27 J28)))) hM0 (by omega) j76 j77 j86 (fun I2 J2 hh => hh) (fun x2 hx2 I' J' u b19 b18 => ?_) (fun cs hcs => by rw [hx] at hcs; cases hcs)
    have ex : x2 = x := by rw [hx] at hx2; exact (Sum.inl.inj hx2).symm
    subst ex
    have c19 : ¬ (uI (uI I' 61 20 0) 61 13 0) 61 19 = 0 := by rw [uIe, upn (by decide), uIe, upn (by decide)]; exact b19
    refine ⟨fun c => absurd c c19, fun _ => sp_tell (by decide) ⟨rfl, ?_⟩⟩
    have xo : ∀ x, x ∉ [61, 62, 71, 72, 73, 74, 75, 87] → (mS (uI (uI I' 61 20 0) 61 13 0) (-6)) x = Z x := fun x hx => by
      have ne : ∀ t, t ∈ [61, 62, 71, 72, 73, 74, 75, 87] → x ≠ t := fun t ht e => hx (by rw [e]; exact ht)
      rw [mS_o (ne 61 (by decide)) (ne 62 (by decide)), uIn (ne 61 (by decide)), uIn (ne 61 (by decide)), u.1 x (fun e => by
        have : x = 61 ∨ x = 71 ∨ x = 72 ∨ x = 73 ∨ x = 74 ∨ x = 75 ∨ x = 87 := by simpa using e
        rcases this with c | c | c | c | c | c | c
        · exact ne 61 (by decide) c
        · exact ne 71 (by decide) c
        · exact ne 72 (by decide) c
        · exact ne 73 (by decide) c
        · exact ne 74 (by decide) c
        · exact ne 75 (by decide) c
        · exact ne 87 (by decide) c), uIn (ne 61 (by decide)), uIn (ne 61 (by decide))]
    have x61 : (mS (uI (uI I' 61 20 0) 61 13 0) (-6)) 61 = up (up (up (I' 61) 20 0) 13 0) 1 (stv (-6)) := by rw [mS_61, uIe, uIe]
    have y53 : (up (up (up (I' 61) 20 0) 13 0) 1 (stv (-6))) 53 = -1 := by rw [upn (by decide), upn (by decide), upn (by decide), u.2.1 53 (by decide), uIe, upe]
    have y61 : ∀ y, y ∉ [0, 1, 13, 14, 15, 16, 18, 19, 20, 21, 23, 26, 29, 30, 53] → (up (up (up (I' 61) 20 0) 13 0) 1 (stv (-6))) y = I 61 y := fun y hy => by
      have ne : ∀ t, t ∈ [0, 1, 13, 14, 15, 16, 18, 19, 20, 21, 23, 26, 29, 30, 53] → y ≠ t := fun t ht e => hy (by rw [e]; exact ht)
      rw [upn (ne 1 (by decide)), upn (ne 13 (by decide)), upn (ne 20 (by decide)), u.2.1 y (fun e => hy (by
        have : y = 14 ∨ y = 15 ∨ y = 16 ∨ y = 18 ∨ y = 19 ∨ y = 20 ∨ y = 21 ∨ y = 23 ∨ y = 26 ∨ y = 29 ∨ y = 30 := by simpa using e
        rcases this with c | c | c | c | c | c | c | c | c | c | c <;> rw [c] <;> decide)), uIe, upn (ne 53 (by decide)), uIe, upn (ne 0 (by decide)), zc 61 (by decide)]
    have x62 : (mS (uI (uI I' 61 20 0) 61 13 0) (-6)) 62 = rfv (I 62) (-6) := by rw [mS_62, uIn (by decide), uIn (by decide), u.1 62 (by decide), uIn (by decide), uIn (by decide), zc 62 (by decide)]
    generalize (mS (uI (uI I' 61 20 0) 61 13 0) (-6)) = X at xo x61 x62 ⊢
    refine h.ref (v := -6) (Or.inr rfl) (fun x hx => ?_) ?_ ?_ ?_ ?_ x62 (fun y hy => ?_) ?_ ?_ ?_ ?_ ?_ ?_ (fun x hx => ?_)
    · rw [xo x (fun e => hx ?_), zc x (fun e => hx ?_)]
      · have : x = 0 ∨ x = 38 ∨ x = 40 ∨ x = 41 ∨ x = 42 ∨ x = 43 ∨ x = 44 ∨ x = 45 ∨ x = 59 := by simpa using e
        rcases this with c | c | c | c | c | c | c | c | c <;> rw [c] <;> decide
      · have : x = 61 ∨ x = 62 ∨ x = 71 ∨ x = 72 ∨ x = 73 ∨ x = 74 ∨ x = 75 ∨ x = 87 := by simpa using e
        rcases this with c | c | c | c | c | c | c | c <;> rw [c] <;> decide
    · rw [xo 0 (by decide), z0, upn (by decide), upn (by decide)]
    · rw [xo 0 (by decide), z0, upn (by decide), upn (by decide)]
    · rw [xo 0 (by decide), z0, upe]
    · rw [xo 59 (by decide), z59]
    · have : y = 8 ∨ y = 11 ∨ y = 41 ∨ y = 57 := by simpa using hy
      rw [x61]
      refine y61 y ?_
      rcases this with c | c | c | c <;> rw [c] <;> decide
    · rw [x61, upe]
    · rw [xo 40 (by decide), z40, x61, upn (by decide), upn (by decide), upn (by decide), b18]
    · rw [xo 0 (by decide), z0, upn (by decide), upe, x61, y53]
    · rw [xo 38 (by decide), z38, upe]
    · rw [x61, upn (by decide), upe]
    · rw [x61, upn (by decide), upn (by decide), upe]
    · exact u.2.2.1 x (fun e => by rw [e] at hx; revert hx; decide)
  · -- orders
    obtain ⟨okc, -, okm⟩ := aTe_ok (ord := 1) hz 12 0 0 [] cs (Nat.zero_le _) (fun c hc => (by cases hc)) hcs
    have okm : cs.length ≤ 12 := by simpa using okm
    obtain ⟨t1a, t1b, -, t1d, t1e, -⟩ := t1
    have hlen : len ≤ 400 := by
      have h1 := t1a.2.2.2.2.2.1
      have h2 := aF_le (b := b) t1a.2.2.2.2.2.2
      omega
    have i40 : I1 40 1 = -1 := t1a.2.1
    have hTY1 := h.1.p2
    have hq40 : ∀ x j, x ≠ 40 → sQ (uQ S 40 2 (some 38)) x j = sQ S x j := fun x j hx => by
      show (if x = 40 ∧ j = 2 then some 38 else S.1 x j) = S.1 x j
      rw [if_neg (fun y => hx y.1)]
    have ety1 : ∀ x t, ty S x t → ty (uQ S 40 2 (some 38)) x t := fun x t hx => hx
    have ez1 : sZ (uQ S 40 2 (some 38)) = sZ S := rfl
    have el1 : ∀ x, sL (uQ S 40 2 (some 38)) x = sL S x := fun _ => rfl
    generalize uQ S 40 2 (some 38) = S1 at hTY1 hq40 ety1 ez1 el1 ⊢
    have yo : ∀ x, x ≠ 0 → x ≠ 38 → (x < 40 ∨ 45 < x) → (uI (uI I1 38 1 0) 0 16 (-1)) x = I x := fun x a c d => by
      rw [uIn a, uIn c]
      exact fr x (fun e => by have : x = 40 ∨ x = 41 ∨ x = 42 ∨ x = 43 ∨ x = 44 ∨ x = 45 := by simpa using e
                              omega)
    have y0 : (uI (uI I1 38 1 0) 0 16 (-1)) 0 = up (I 0) 16 (-1) := by rw [uIe, uIn (by decide), fr 0 (by decide)]
    have y38 : (uI (uI I1 38 1 0) 0 16 (-1)) 38 1 = 0 := by rw [uIn (by decide), uIe, upe]
    have y4 : ∀ x, 40 ≤ x → x ≤ 45 → (uI (uI I1 38 1 0) 0 16 (-1)) x = I1 x := fun x a c => by rw [uIn (by omega), uIn (by omega)]
    generalize (uI (uI I1 38 1 0) 0 16 (-1)) = Y at yo y0 y38 y4 ⊢
    have t17 : ty S1 17 8 := tGr.off hTY1.1 hTY1.2.1 (k := 1) rfl
    have t1 : ty S1 1 8 := tGr.off hTY1.1 hTY1.2.1 (k := 0) rfl
    refine sp_copySt (by omega) hTY1.1 (a := 17) (b := 1) (by omega) t17 t1 (fun S2 X2 g1 g2 g3 g4 => ?_)
    have et2 : ∀ x t, ty S x t → ty S2 x t := fun x t hx => by
      have := ety1 x t hx
      exact ⟨by show x < S2.2.2.2; rw [g2.1]; exact this.1, by show S2.2.1 x = t; rw [g2.1]; exact this.2⟩
    have ez2 : sZ S2 = sZ S := by show S2.2.2.2 = _; rw [g2.1]; exact ez1
    have el2 : ∀ x, sL S2 x = sL S x := fun x => by show S2.2.2.1 x = _; rw [g2.1]; exact el1 x
    have eq2 : ∀ x j, x ≠ 32 → x ≠ 40 → sQ S2 x j = sQ S x j := fun x j a c => by rw [g2.2.1 x j (by omega)]; exact hq40 x j c
    have eq32 : ∀ j, j < 6 → sQ S2 32 j = sQ S 16 j := fun j hj => by
      have := g2.2.2 j hj
      rw [show sQ S2 32 j = sQ S2 (17 + 15) j from rfl, this]
      exact hq40 16 j (by decide)
    have hTY2 : TY S2 := h.1.of g1 et2 (by omega) (fun x _ => el2 x)
    refine ⟨hTY2.2.1, ?_⟩
    have e37 : Int32.ofNat (sL S2 (36 + 1)) = nI 144 := by rw [show sL S2 (36 + 1) = sL S2 37 from rfl, hTY2.l37]; rfl
    unfold F1_copyFrom
    rw [e37, qn (by omega)]
    refine ⟨⟨by decide, by decide, by decide, by omega, by omega⟩, ?_⟩
    show F11_orders_L n S2 (fun x S1 I1 J1 => ty S1 61 12 ∧ F12_orders n S1 I1 J1 (fun y I2 J2 => x = y ∧ Inv S1 I2 J2)) n (uI (uI (cpI (uI X2 36 1 (X2 34 1)) (34 + 1) 0 (36 + 1) 0 144) 0 14 0) 0 15 (-1)) J (nI ([] : List aC5).length)
    -- the heap that the clauses run on
    have bo : ∀ x, x ≠ 0 → (x < 17 ∨ 32 < x) → x ≠ 36 → x ≠ 37 → x ≠ 38 → (x < 40 ∨ 45 < x) → (uI (uI (cpI (uI X2 36 1 (X2 34 1)) (34 + 1) 0 (36 + 1) 0 144) 0 14 0) 0 15 (-1)) x = I x := fun x a c d e f g => by
      rw [uIn a, uIn a, cpIn e, uIn d, g3 x (by omega), yo x a f g]
    have b0 : (uI (uI (cpI (uI X2 36 1 (X2 34 1)) (34 + 1) 0 (36 + 1) 0 144) 0 14 0) 0 15 (-1)) 0 = up (up (up (I 0) 16 (-1)) 14 0) 15 (-1) := by
      rw [uIe, uIe, cpIn (by decide), uIn (by decide), g3 0 (by omega), y0]
    have b38 : (uI (uI (cpI (uI X2 36 1 (X2 34 1)) (34 + 1) 0 (36 + 1) 0 144) 0 14 0) 0 15 (-1)) 38 1 = 0 := by
      rw [uIn (by decide), uIn (by decide), cpIn (by decide), uIn (by decide), g3 38 (by omega), y38]
    have b4 : ∀ x, 40 ≤ x → x ≤ 45 → (uI (uI (cpI (uI X2 36 1 (X2 34 1)) (34 + 1) 0 (36 + 1) 0 144) 0 14 0) 0 15 (-1)) x = I1 x := fun x a c => by
      rw [uIn (by omega), uIn (by omega), cpIn (by omega), uIn (by omega), g3 x (by omega), y4 x a c]
    have b17 : ∀ i, i < 15 → (uI (uI (cpI (uI X2 36 1 (X2 34 1)) (34 + 1) 0 (36 + 1) 0 144) 0 14 0) 0 15 (-1)) (17 + i) = X2 (17 + i) := fun i hi => by
      rw [uIn (by omega), uIn (by omega), cpIn (by omega), uIn (by omega)]
    have b36 : (uI (uI (cpI (uI X2 36 1 (X2 34 1)) (34 + 1) 0 (36 + 1) 0 144) 0 14 0) 0 15 (-1)) 36 1 = I 34 1 := by
      rw [uIn (by decide), uIn (by decide), cpIn (by decide), uIe, upe, g3 34 (by omega), yo 34 (by decide) (by decide) (by decide)]
    have b37 : ∀ y, y < 144 → (uI (uI (cpI (uI X2 36 1 (X2 34 1)) (34 + 1) 0 (36 + 1) 0 144) 0 14 0) 0 15 (-1)) 37 y = I 35 y := fun y hy => by
      rw [uIn (by decide), uIn (by decide), show (cpI (uI X2 36 1 (X2 34 1)) (34 + 1) 0 (36 + 1) 0 144) 37 = _ from cpIe, cpA0 hy, uIn (by decide), g3 35 (by omega), yo 35 (by decide) (by decide) (by decide)]
    generalize (uI (uI (cpI (uI X2 36 1 (X2 34 1)) (34 + 1) 0 (36 + 1) 0 144) 0 14 0) 0 15 (-1)) = B at bo b0 b38 b4 b17 b36 b37 ⊢
    have bI : ∀ i, i < 15 → B (1 + i) = I (1 + i) := fun i hi => bo _ (by omega) (by omega) (by omega) (by omega) (by omega) (by omega)
    have bH : ∀ x, 89 ≤ x → B x = I x := fun x hx => bo x (by omega) (by omega) (by omega) (by omega) (by omega) (by omega)
    have hP : ∀ {S' : tSH} {X : tHI}, (∀ x t, ty S x t → ty S' x t) → (∀ x, 89 ≤ x → X x = I x) → ∀ p, ty S p 6 → 89 ≤ p → p + 5 ≤ sZ S → ty S' p 6 ∧ (X p = I p ∧ X (p + 1) = I (p + 1) ∧ X (p + 2) = I (p + 2) ∧ X (p + 4) = I (p + 4)) := fun a c p p1 p2 _ => ⟨a _ _ p1, c _ p2, c _ (by omega), c _ (by omega), c _ (by omega)⟩
    have hRB : RSt S2 B 1 (I 63) := h.2.1.mv (S' := S2) (a := 1) bI (fun j hj => eq2 _ _ (by omega) (by omega)) (hP et2 bH) (by omega) (fun x _ => el2 x)
    have hFS : FO S I (I 63) := FO.of h.2.1
    have hFB : FO S2 B (I 63) := FO.of hRB
    have hVB : VQ S I S2 B := VQ.of hFS (by rw [bI 0 (by omega)]) (by rw [bI 0 (by omega)]) (fun j hj => eq2 _ _ (by omega) (by omega)) bH
    have hoC : oC S2 B (oS0 I hc) B := ⟨⟨hRB, by rw [bo 34 (by decide) (by decide) (by decide) (by decide) (by decide) (by decide)]; exact h34, by rw [bo 35 (by decide) (by decide) (by decide) (by decide) (by decide) (by decide)]; exact H⟩, ⟨by rw [b0, upn (by decide), upe]; rfl, by rw [b0, upe]; rfl⟩, fun _ _ _ => rfl, fun _ _ => rfl, fun _ _ => rfl, fun _ _ => rfl⟩
    have hoK : oOK (I 63) (oS0 I hc) := ⟨hRK, fun _ _ => rfl, hc16⟩
    have B49 : B 49 = I 49 := bo 49 (by decide) (by decide) (by decide) (by decide) (by decide) (by decide)
    have B50 : B 50 = I 50 := bo 50 (by decide) (by decide) (by decide) (by decide) (by decide) (by decide)
    have b41 := b4 41 (by decide) (by decide)
    have b42 := b4 42 (by decide) (by decide)
    have b43 := b4 43 (by decide) (by decide)
    have b44 := b4 44 (by decide) (by decide)
    have b45 := b4 45 (by decide) (by decide)
    have b40 := b4 40 (by decide) (by decide)
    refine sp_ordC (S0 := S) (I0 := I) (r0 := I 63) (cs := cs) hTY2 (by omega) hVB hFB n1 n2 (by rw [B49]; exact hC49) (by rw [B50]; exact hC50) (len := len) (by rw [b41]; exact t1a.2.2.2.2.1) hlen (by rw [b42]; exact t1d) (by rw [b41]; exact t1b) okm okc (fun j c hj => by rw [b42, b43, b44, b45]; exact t1e j c hj) cs [] n (oS0 I hc) B J rfl (by omega) hoC hoK (fun j ej X' J' f1 f2 => ?_) (fun s' es X' J' f1 f2 f3 => ?_)
    · -- refused
      have x17 : ∀ i, i < 15 → X' (17 + i) = X2 (17 + i) := fun i hi => by
        rw [f1.2.1 _ (fun e => by have : 17 + i = 0 ∨ 17 + i = 4 ∨ 17 + i = 6 ∨ 17 + i = 15 ∨ 17 + i = 34 ∨ 17 + i = 35 ∨ 17 + i = 49 ∨ 17 + i = 50 ∨ 17 + i = 58 := by simpa using e
                                  omega)]
        exact b17 i hi
      have xo : ∀ x, 36 ≤ x → x ≠ 49 → x ≠ 50 → x ≠ 58 → X' x = B x := fun x a c d e => f1.2.1 x (fun g => by
        have : x = 0 ∨ x = 4 ∨ x = 6 ∨ x = 15 ∨ x = 34 ∨ x = 35 ∨ x = 49 ∨ x = 50 ∨ x = 58 := by simpa using g
        omega)
      have hCX : CpS I X' 17 1 := g4.cg (fun i hi => (yo _ (by omega) (by omega) (by omega)).symm) x17
      have xH : ∀ x, 89 ≤ x → X' x = I x := fun x hx => by rw [xo x (by omega) (by omega) (by omega) (by omega)]; exact bH x hx
      have hR17 : RSt S2 X' 17 (I 63) := h.2.1.cp (S' := S2) hCX (fun j hj => eq32 j hj) (hP et2 xH) (by omega) (fun x _ => el2 x)
      have u17 : ty S2 17 8 := tGr.off hTY2.1 hTY2.2.1 (k := 1) rfl
      have u1 : ty S2 1 8 := tGr.off hTY2.1 hTY2.2.1 (k := 0) rfl
      refine sp_copySt (by omega) hTY2.1 (a := 1) (b := 17) (by omega) u1 u17 (fun S3 X4 k1 k2 k3 k4 => ?_)
      have et3 : ∀ x t, ty S x t → ty S3 x t := fun x t hx => by
        have := et2 x t hx
        exact ⟨by show x < S3.2.2.2; rw [k2.1]; exact this.1, by show S3.2.1 x = t; rw [k2.1]; exact this.2⟩
      have et23 : ∀ x t, ty S2 x t → ty S3 x t := fun x t hx => ⟨by show x < S3.2.2.2; rw [k2.1]; exact hx.1, by show S3.2.1 x = t; rw [k2.1]; exact hx.2⟩
      have ez3 : sZ S3 = sZ S := by show S3.2.2.2 = _; rw [k2.1]; exact ez2
      have el3 : ∀ x, sL S3 x = sL S x := fun x => by show S3.2.2.1 x = _; rw [k2.1]; exact el2 x
      have eq3 : ∀ x j, x ≠ 16 → x ≠ 32 → x ≠ 40 → sQ S3 x j = sQ S x j := fun x j a c d => by rw [k2.2.1 x j (by omega)]; exact eq2 x j c d
      have eq16 : ∀ j, j < 6 → sQ S3 16 j = sQ S 16 j := fun j hj => by
        have := k2.2.2 j hj
        rw [show sQ S3 16 j = sQ S3 (1 + 15) j from rfl, this]
        exact eq32 j hj
      have hTY3 : TY S3 := h.1.of k1 et3 (by omega) (fun x _ => el3 x)
      refine ⟨hTY3.2.1, ?_⟩
      have e35 : Int32.ofNat (sL S3 (34 + 1)) = nI 144 := by rw [show sL S3 (34 + 1) = sL S3 35 from rfl, hTY3.l35]; rfl
      unfold F1_copyFrom
      rw [e35, qn (by omega)]
      refine ⟨⟨by decide, by decide, by decide, by omega, by omega⟩, ?_⟩
      refine sp_settle hTY3.l59 (by decide) ⟨hTY3.2.2.1, ?_⟩
      have zo : ∀ x, 38 ≤ x → x ≠ 49 → x ≠ 50 → x ≠ 58 → x ≠ 59 → (cS (uI (cpI (uI X4 34 1 (X4 36 1)) (36 + 1) 0 (34 + 1) 0 144) 0 16 (nI j)) (-3)) x = B x := fun x a c d e f => by
        rw [cS_o (by omega) f, uIn (by omega), cpIn (by omega), uIn (by omega), k3 x (by omega), xo x (by omega) c d e]
      have z1 : ∀ i, i < 15 → (cS (uI (cpI (uI X4 34 1 (X4 36 1)) (36 + 1) 0 (34 + 1) 0 144) 0 16 (nI j)) (-3)) (1 + i) = X4 (1 + i) := fun i hi => by
        rw [cS_o (by omega) (by omega), uIn (by omega), cpIn (by omega), uIn (by omega)]
      have z0 : (cS (uI (cpI (uI X4 34 1 (X4 36 1)) (36 + 1) 0 (34 + 1) 0 144) 0 16 (nI j)) (-3)) 0 = up (up (X' 0) 16 (nI j)) 18 (stv (-3)) := by
        rw [cS_0, uIe, cpIn (by decide), uIn (by decide), k3 0 (by omega)]
      have z34 : (cS (uI (cpI (uI X4 34 1 (X4 36 1)) (36 + 1) 0 (34 + 1) 0 144) 0 16 (nI j)) (-3)) 34 1 = nI hc := by
        rw [cS_o (by decide) (by decide), uIn (by decide), cpIn (by decide), uIe, upe, k3 36 (by omega), xo 36 (by decide) (by decide) (by decide) (by decide), b36]; exact h34
      have z35 : ∀ y, y < 144 → (cS (uI (cpI (uI X4 34 1 (X4 36 1)) (36 + 1) 0 (34 + 1) 0 144) 0 16 (nI j)) (-3)) 35 y = I 35 y := fun y hy => by
        rw [cS_o (by decide) (by decide), uIn (by decide), show (cpI (uI X4 34 1 (X4 36 1)) (36 + 1) 0 (34 + 1) 0 144) 35 = _ from cpIe, cpA0 hy, uIn (by decide), k3 37 (by omega), xo 37 (by decide) (by decide) (by decide) (by decide), b37 y hy]
      have z49 : (cS (uI (cpI (uI X4 34 1 (X4 36 1)) (36 + 1) 0 (34 + 1) 0 144) 0 16 (nI j)) (-3)) 49 = X' 49 := by rw [cS_o (by decide) (by decide), uIn (by decide), cpIn (by decide), uIn (by decide), k3 49 (by omega)]
      have z50 : (cS (uI (cpI (uI X4 34 1 (X4 36 1)) (36 + 1) 0 (34 + 1) 0 144) 0 16 (nI j)) (-3)) 50 = X' 50 := by rw [cS_o (by decide) (by decide), uIn (by decide), cpIn (by decide), uIn (by decide), k3 50 (by omega)]
      have z59 : (cS (uI (cpI (uI X4 34 1 (X4 36 1)) (36 + 1) 0 (34 + 1) 0 144) 0 16 (nI j)) (-3)) 59 = rfv (I 59) (-3) := by
        rw [cS_59, uIn (by decide), cpIn (by decide), uIn (by decide), k3 59 (by omega), xo 59 (by decide) (by decide) (by decide) (by decide), bo 59 (by decide) (by decide) (by decide) (by decide) (by decide) (by decide)]
      generalize (cS (uI (cpI (uI X4 34 1 (X4 36 1)) (36 + 1) 0 (34 + 1) 0 144) 0 16 (nI j)) (-3)) = Z at zo z1 z0 z34 z35 z49 z50 z59 ⊢
      have zI : ∀ x, 46 ≤ x → x ≠ 49 → x ≠ 50 → x ≠ 58 → x ≠ 59 → Z x = I x := fun x a c d e f => by rw [zo x (by omega) c d e f]; exact bo x (by omega) (by omega) (by omega) (by omega) (by omega) (by omega)
      have zH : ∀ x, 89 ≤ x → Z x = I x := fun x hx => zI x (by omega) (by omega) (by omega) (by omega) (by omega)
      have hCZ : CpS X' Z 1 17 := k4.cg (fun _ _ => rfl) z1
      have hRZ : RSt S3 Z 1 (I 63) := hR17.cp (S' := S3) hCZ (fun j hj => k2.2.2 j hj) (fun p p1 p2 _ => ⟨et23 _ _ p1, by rw [zH p p2, xH p p2], by rw [zH _ (by omega), xH _ (by omega)], by rw [zH _ (by omega), xH _ (by omega)], by rw [zH _ (by omega), xH _ (by omega)]⟩) (by omega) (fun x _ => by rw [el3, el2])
      have hVZ : VQ S I S3 Z := VQ.of hFS (hCZ.1.1.trans hCX.1.1) (hCZ.1.2.1.trans hCX.1.2.1) eq16 zH
      have kj : KpJ J J' := KpJ.c f2
      refine sp_ordM (S := S) (I := I) (by omega) hM (fun i hi => by rw [kj 76 (by decide)]; exact j76 i hi) (fun i hi => by rw [kj 77 (by decide)]; exact j77 i hi) (fun i hi => by rw [kj 86 (by decide)]; exact j86 i hi) (zI 61 (by decide) (by decide) (by decide) (by decide) (by decide)) (zI 63 (by decide) (by decide) (by decide) (by decide) (by decide)) (zI 66 (by decide) (by decide) (by decide) (by decide) (by decide)) (zI 67 (by decide) (by decide) (by decide) (by decide) (by decide)) (zI 70 (by decide) (by decide) (by decide) (by decide) (by decide)) hVZ (FO.of hRZ) hRK n1 n2 b1 b2 c63 hc16 h61 hcs (fun j2 ej2 V J'' v v63 v8 v66 v67 v53 vj => ⟨rfl, ?_⟩) (fun s2 es2 => ?_)
      · have ejj : j2 = j := by
          have e : oAll S I N cs 0 (oS0 I hc) = .inl j := ej
          rw [ej2] at e
          exact Sum.inl.inj e
        subst ejj
        obtain ⟨vo, v62, v1, v61, v13, v18, v20⟩ := v
        have Vo : ∀ x, x ∉ [61, 62, 63, 66, 67, 68, 69, 71, 72, 73, 74, 75, 87] → V x = Z x := vo
        have VoN : ∀ x, x < 16 ∨ 89 ≤ x → V x = Z x := fun x hx => by
          refine Vo x (fun e => ?_)
          have : x = 61 ∨ x = 62 ∨ x = 63 ∨ x = 66 ∨ x = 67 ∨ x = 68 ∨ x = 69 ∨ x = 71 ∨ x = 72 ∨ x = 73 ∨ x = 74 ∨ x = 75 ∨ x = 87 := by simpa using e
          omega
        refine h.as2 hTY3 ?_ ?_ ?_ ?_ ?_ v13 v20 ?_ (fun y hy => ?_) (fun y hy => ?_) (kj.trans vj)
        · rw [v63]
          exact hRZ.cg (fun i hi => VoN _ (by omega)) (fun x hx => VoN x (by omega))
        · rw [Vo 34 (by decide), Vo 35 (by decide), v63]
          exact ⟨hc, hc16, z34, v8, fun k hk => HR.cg3 hk (H k hk) (fun y hy => z35 y (by omega)) (fun y hy => v66 y (by omega)) (fun y hy => v67 y (by omega))⟩
        · exact h.2.2.2.2.1.mv2 (fun j => eq3 _ _ (by decide) (by decide) (by decide)) (fun x j hx => eq3 _ _ (by omega) (by omega) (by omega)) et3 (by omega) (fun x _ => el3 x) (by rw [Vo 64 (by decide)]; exact zI 64 (by decide) (by decide) (by decide) (by decide) (by decide)) (by rw [Vo 65 (by decide)]; exact zI 65 (by decide) (by decide) (by decide) (by decide) (by decide)) (fun x hx => by
            rw [VoN x (by omega)]
            exact zH x hx)
        · refine RMs.txt (v := -3) h.2.2.2.2.2.1 (by rw [Vo 60 (by decide)]; exact zI 60 (by decide) (by decide) (by decide) (by decide) (by decide)) (by rw [Vo 88 (by decide)]; exact zI 88 (by decide) (by decide) (by decide) (by decide) (by decide)) ?_ ?_ ?_ ?_ ?_ ?_ ?_ v1 ?_ ?_
          · rw [Vo 0 (by decide), z0, upn (by decide), upn (by decide), f1.1 13 (by decide) (by decide), b0, upn (by decide), upn (by decide), upn (by decide)]
          · rw [Vo 0 (by decide), z0, upn (by decide), upn (by decide), f1.1 17 (by decide) (by decide), b0, upn (by decide), upn (by decide), upn (by decide)]
          · rw [Vo 0 (by decide), z0, upe]
          · rw [Vo 59 (by decide), z59]
          · rw [v62, zI 62 (by decide) (by decide) (by decide) (by decide) (by decide)]
          · rw [v61 11 (by decide), zI 61 (by decide) (by decide) (by decide) (by decide) (by decide)]
          · rw [v61 57 (by decide), zI 61 (by decide) (by decide) (by decide) (by decide) (by decide)]
          · rw [v18, Vo 40 (by decide), zo 40 (by decide) (by decide) (by decide) (by decide) (by decide), b40]; exact i40
          · rw [v53, Vo 0 (by decide), z0, upn (by decide), upe]
        · rw [Vo 38 (by decide), zo 38 (by decide) (by decide) (by decide) (by decide) (by decide)]; exact b38
        · rw [v61 41 (by decide), zI 61 (by decide) (by decide) (by decide) (by decide) (by decide)]
        · rw [Vo 49 (by decide), z49, f1.2.2.1 y hy, B49]
        · rw [Vo 50 (by decide), z50, f1.2.2.2 y hy, B50]
      · exfalso
        have e : oAll S I N cs 0 (oS0 I hc) = .inl j := ej
        rw [es2] at e
        cases e
    · -- done
      have es : oAll S I N cs 0 (oS0 I hc) = .inr s' := es
      obtain ⟨qd, q1, q2⟩ := oAll_dn cs 0 (oS0 I hc) s' 0 okc rfl es
      have hd : 0 ≤ s'.2.2.2.2.1.toInt := by rw [q1, qi (by omega)]; omega
      obtain ⟨⟨r1, r2, r3⟩, ⟨r4, r5⟩, r6⟩ := f1
      rw [r4]
      refine sp_settle hTY2.l59 (by omega) ⟨hTY2.2.2.1, ?_⟩
      rw [cS_p hd]
      have xo : ∀ x, 36 ≤ x → x ≠ 49 → x ≠ 50 → x ≠ 58 → (uI X' 0 18 0) x = B x := fun x a c d e => by
        rw [uIn (by omega)]
        exact r6.2.1 x (fun g => by
          have : x = 0 ∨ x = 4 ∨ x = 6 ∨ x = 15 ∨ x = 34 ∨ x = 35 ∨ x = 49 ∨ x = 50 ∨ x = 58 := by simpa using g
          omega)
      have x0 : (uI X' 0 18 0) 0 = up (X' 0) 18 0 := uIe
      have xX : ∀ x, x ≠ 0 → (uI X' 0 18 0) x = X' x := fun x a => uIn a
      generalize (uI X' 0 18 0) = Z at xo x0 xX ⊢
      have zI : ∀ x, 46 ≤ x → x ≠ 49 → x ≠ 50 → x ≠ 58 → Z x = I x := fun x a c d e => by rw [xo x (by omega) c d e]; exact bo x (by omega) (by omega) (by omega) (by omega) (by omega) (by omega)
      have zH : ∀ x, 89 ≤ x → Z x = I x := fun x hx => zI x (by omega) (by omega) (by omega) (by omega)
      have hRZ : RSt S2 Z 1 s'.1 := r1.cg (fun i hi => xX _ (by omega)) (fun x hx => xX x (by omega))
      have zB1 : Z 1 = B 1 := by rw [xX 1 (by decide)]; exact r6.2.1 1 (by decide)
      have zB : ∀ x, 89 ≤ x → Z x = B x := fun x hx => xo x (by omega) (by omega) (by omega) (by omega)
      have hVZ : VQ S I S2 Z := hVB.trans (VQ.of hFB (by rw [zB1]) (by rw [zB1]) (fun _ _ => rfl) zB)
      have kj : KpJ J J' := KpJ.c f3
      refine sp_ordM (S := S) (I := I) (by omega) hM (fun i hi => by rw [kj 76 (by decide)]; exact j76 i hi) (fun i hi => by rw [kj 77 (by decide)]; exact j77 i hi) (fun i hi => by rw [kj 86 (by decide)]; exact j86 i hi) (zI 61 (by decide) (by decide) (by decide) (by decide)) (zI 63 (by decide) (by decide) (by decide) (by decide)) (zI 66 (by decide) (by decide) (by decide) (by decide)) (zI 67 (by decide) (by decide) (by decide) (by decide)) (zI 70 (by decide) (by decide) (by decide) (by decide)) hVZ (hFB.cg zB1 zB rfl (fun _ _ => rfl)) hRK n1 n2 b1 b2 c63 hc16 h61 hcs (fun j2 ej2 => ?_) (fun s2 es2 V J'' v v63 v8 v66 v67 v53 vj => ?_)
      · exfalso
        rw [ej2] at es
        cases es
      · have ess : s2 = s' := by
          rw [es2] at es
          exact Sum.inr.inj es
        subst ess
        refine ⟨rfl, ?_⟩
        obtain ⟨vo, v62, v1, v61, v13, v18, v20⟩ := v
        have Vo : ∀ x, x ∉ [61, 62, 63, 66, 67, 68, 69, 71, 72, 73, 74, 75, 87] → V x = Z x := vo
        have VoN : ∀ x, x < 16 ∨ 89 ≤ x → V x = Z x := fun x hx => by
          refine Vo x (fun e => ?_)
          have : x = 61 ∨ x = 62 ∨ x = 63 ∨ x = 66 ∨ x = 67 ∨ x = 68 ∨ x = 69 ∨ x = 71 ∨ x = 72 ∨ x = 73 ∨ x = 74 ∨ x = 75 ∨ x = 87 := by simpa using e
          omega
        refine h.as2 hTY2 ?_ ?_ ?_ ?_ ?_ v13 v20 ?_ (fun y hy => ?_) (fun y hy => ?_) (kj.trans vj)
        · rw [v63]
          exact hRZ.cg (fun i hi => VoN _ (by omega)) (fun x hx => VoN x (by omega))
        · rw [Vo 34 (by decide), Vo 35 (by decide), v63, xX 34 (by decide), xX 35 (by decide)]
          have := f2.2.2
          exact ⟨s2.2.1, this, r2, v8, fun k hk => HR.cg3 hk (r3 k hk) (fun y hy => rfl) (fun y hy => v66 y hy) (fun y hy => v67 y hy)⟩
        · exact h.2.2.2.2.1.mv2 (fun j => eq2 _ _ (by decide) (by decide)) (fun x j hx => eq2 _ _ (by omega) (by omega)) et2 (by omega) (fun x _ => el2 x) (by rw [Vo 64 (by decide)]; exact zI 64 (by decide) (by decide) (by decide) (by decide)) (by rw [Vo 65 (by decide)]; exact zI 65 (by decide) (by decide) (by decide) (by decide)) (fun x hx => by
            rw [VoN x (by omega)]
            exact zH x hx)
        · have sv : stv s2.2.2.2.2.1 = 0 := by unfold stv; rw [if_neg (by omega)]
          refine RMs.txt (v := 0) h.2.2.2.2.2.1 (by rw [Vo 60 (by decide)]; exact zI 60 (by decide) (by decide) (by decide) (by decide)) (by rw [Vo 88 (by decide)]; exact zI 88 (by decide) (by decide) (by decide) (by decide)) ?_ ?_ ?_ ?_ ?_ ?_ ?_ ?_ ?_ ?_
          · rw [Vo 0 (by decide), x0, upn (by decide), r6.1 13 (by decide) (by decide), b0, upn (by decide), upn (by decide), upn (by decide)]
          · rw [Vo 0 (by decide), x0, upn (by decide), r6.1 17 (by decide) (by decide), b0, upn (by decide), upn (by decide), upn (by decide)]
          · rw [Vo 0 (by decide), x0, upe]; rfl
          · rw [Vo 59 (by decide), zI 59 (by decide) (by decide) (by decide) (by decide), rfv_n (by decide)]
          · rw [v62, zI 62 (by decide) (by decide) (by decide) (by decide), rfv_n hd, rfv_n (by decide)]
          · rw [v61 11 (by decide), zI 61 (by decide) (by decide) (by decide) (by decide)]
          · rw [v61 57 (by decide), zI 61 (by decide) (by decide) (by decide) (by decide)]
          · rw [v1, sv]; rfl
          · rw [v18, Vo 40 (by decide), xo 40 (by decide) (by decide) (by decide) (by decide), b40]; exact i40
          · rw [v53, Vo 0 (by decide), x0, upn (by decide), r6.1 16 (by decide) (by decide), b0, upn (by decide), upn (by decide), upe]
        · rw [Vo 38 (by decide), xo 38 (by decide) (by decide) (by decide) (by decide)]; exact b38
        · rw [v61 41 (by decide), zI 61 (by decide) (by decide) (by decide) (by decide)]
        · rw [Vo 49 (by decide), xX 49 (by decide), r6.2.2.1 y hy, B49]
        · rw [Vo 50 (by decide), xX 50 (by decide), r6.2.2.2 y hy, B50]
