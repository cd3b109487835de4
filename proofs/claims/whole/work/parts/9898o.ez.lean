/-! the model reads as the grammar says: all pieces at once -/
section EZ
variable {n : Nat} {S : tSH} {b : Nat → Nat} {z ord : Nat} {I0 : tHI} {J0 : tHJ} {k : tHI → tHJ → Prop} {t : Int32}
/-- the comparison, or a fault -/
theorem x_cmp (hn : 1001 < n) {I : tHI} {J : tHJ} {q m br nc nc1 mm fh : Nat} {pl R : List (Nat × Nat)} {g1 r1 : Nat → Nat} {F : tV → tV} {u : tV} (ht : MTp b z (I 61) (I 70)) (h : MG b z I J q m br nc1 (R ++ pl) g1 r1) (hst : stops 5 pl) (hcm : cmpd (R ++ pl) = false) (hR : ∀ e, e ∈ R → 5 ≤ bnd e.1 ∧ 20 ≤ e.1 ∧ e.1 ≤ 30) (hL : LCx (if ord = 0 then lfL else lfO) g1 r1 R nc mm F) (hD : DN (if ord = 0 then lfL else lfO) g1 r1 mm nc1 u) (hy : aC b z q ≠ 0 → ∀ (I' : tHI) (J' : tHJ) (g' r' : Nat → Nat) (nc' : Nat), MFr I I' J J' → MG b z I' J' (aE b z q) m br nc' ((aC b z q + 18, 0) :: pl) g' r' → (∀ i, i < nc → g' i = g1 i ∧ r' i = r1 i) → DN (if ord = 0 then lfL else lfO) g' r' nc nc' (F u) → F12_readExpression_L20 n S k fh I' J' t 1) (hx : aC b z q = 0 → ∀ I', MFr I I' J J → ¬ I' 61 19 = 0 → I' 61 18 = nI (aF b z q) → MPi I' nc1 (R ++ pl) g1 r1 → F12_readExpression_L20 n S k fh I' J t 1) : F12_behindSum_163 n S (fun x I J => F12_readExpression_L20 n S k fh I J t x) I J := by
  obtain ⟨hT, hq, h19, h18, h26, hm, h30, hP, hl, hp⟩ := id h
  have hz := ht.1
  have e60 : V12_isSign S I J 60 = 0 ↔ ¬ aS b z q = 60 := isS hT (c := 60) (by decide) (by decide)
  have e62 : V12_isSign S I J 62 = 0 ↔ ¬ aS b z q = 62 := isS hT (c := 62) (by decide) (by decide)
  have e61 : V12_isSign S I J 61 = 0 ↔ ¬ aS b z q = 61 := isS hT (c := 61) (by decide) (by decide)
  unfold F12_behindSum_163 F12_behindSum_245
  refine sp_compd hn hP.2.1 hP.2.2.1 hP.2.2.2.1 ?_
  rw [hcm]
  refine fun _ => ⟨fun _ => ?_, fun y => absurd rfl y⟩
  -- which operator, and whether it is one
  have eo : aC b z q ≠ 0 → (if (V12_isSign S I J 60) = 0 then (if (V12_isSign S I J 62) = 0 then (27 : Int32) else 26) else 25) = nI (aC b z q + 18) := by
    intro hc
    unfold aC at hc ⊢
    by_cases c1 : aS b z q = 60
    · rw [if_neg (fun e => e60.mp e c1), if_pos c1]; rfl
    rw [if_pos (e60.mpr c1)]
    rw [if_neg c1] at hc ⊢
    by_cases c2 : aS b z q = 62
    · rw [if_neg (fun e => e62.mp e c2), if_pos c2]; rfl
    rw [if_pos (e62.mpr c2)]
    rw [if_neg c2] at hc ⊢
    by_cases c3 : aS b z q = 61
    · rw [if_pos c3]; rfl
    · rw [if_neg c3] at hc; exact absurd rfl hc
  have em : (if (if (V12_isSign S I J 60) = 0 then (if (V12_isSign S I J 62) = 0 then (27 : Int32) else 26) else 25) = 27 then (if (V12_isSign S I J 61) = 0 then (0 : Int32) else 1) else 1) = 0 ↔ aC b z q = 0 := by
    unfold aC
    by_cases c1 : aS b z q = 60
    · rw [if_neg (fun e => e60.mp e c1), if_pos c1, if_neg (show ¬ (25 : Int32) = 27 by decide)]
      exact ⟨fun y => absurd y (by decide), fun y => by omega⟩
    rw [if_pos (e60.mpr c1), if_neg c1]
    by_cases c2 : aS b z q = 62
    · rw [if_neg (fun e => e62.mp e c2), if_pos c2, if_neg (show ¬ (26 : Int32) = 27 by decide)]
      exact ⟨fun y => absurd y (by decide), fun y => by omega⟩
    rw [if_pos (e62.mpr c2), if_neg c2, if_pos rfl]
    by_cases c3 : aS b z q = 61
    · rw [if_neg (fun e => e61.mp e c3), if_pos c3]
      exact ⟨fun y => absurd y (by decide), fun y => by omega⟩
    · rw [if_pos (e61.mpr c3), if_neg c3]
      exact ⟨fun _ => rfl, fun _ => rfl⟩
  by_cases hc : aC b z q = 0
  · refine must_n (em.mpr hc) h19 ?_
    rw [hT.1]
    have b19 : ¬ (uI (uI I 61 19 1) 61 18 (nI (aF b z q))) 61 19 = 0 := by rw [uIe, upn (by decide), uIe, upe]; decide
    exact ⟨fun _ => hx hc _ (((MFr.rf I J).w61 (by decide)).w61 (by decide)) b19 (by rw [uIe, upe]) hP.bad, fun y => absurd y b19⟩
  · obtain ⟨k3, c7, c9⟩ := aC_k hc
    rw [eo hc]
    rw [eo hc] at em
    refine must_y (fun y => hc (em.mp y)) h19 (MG.next ht hn h (fun I1 J1 a1 g1' => ?_))
    obtain ⟨gT, gq, g19, g18, g26, gm, g30, gP, gl, gp⟩ := g1'
    have uz : aF b z (aE b z q) ≤ z := aF_le gq
    have k0 : aK b z q ≠ 0 := by rw [k3]; decide
    have up := aF_up k0
    refine ⟨fun y => absurd g19 y, fun _ => sp_msett (l := 5) (by decide) (by decide) hn gP (fun I2 m2 p2 => ?_)⟩
    obtain ⟨g2, r2, nc2, s1, s2, s3, s4, s5⟩ := sett_top hst R nc mm nc1 g1 r1 F u hL hD hR
    rw [s1] at p2
    have p2 : MPi I2 nc2 pl g2 r2 := p2
    have lp : (R ++ pl).length = R.length + pl.length := List.length_append
    have ep : pend ((aC b z q + 18, 0) :: pl) = 1 + pend pl := by
      show (if aC b z q + 18 ≤ 28 then 1 else 0) + pend pl = _
      rw [if_pos (by omega)]
    refine sp_mpush (a := 0) p2.2.1 (by omega) ?_
    have p3 := p2.push (o := aC b z q + 18) (a := 0) ⟨by omega, by omega⟩ (by omega) (by omega) (by rw [ep]; omega)
    have fr3 : MFr I (uI (uI (uI I2 74 pl.length (nI (aC b z q + 18))) 75 pl.length (nI 0)) 61 29 (nI (pl.length + 1))) J J1 := (((((MFr.rf I J).ad a1).trans (m2.fr J1)).wa (by decide)).wa (by decide)).w61 (by decide)
    have x61 : ∀ y, y ≠ 29 → y ≠ 23 → (uI (uI (uI I2 74 pl.length (nI (aC b z q + 18))) 75 pl.length (nI 0)) 61 29 (nI (pl.length + 1))) 61 y = I1 61 y := fun y h1 h2 => by
      rw [uIe, upn h1, uIn (by decide), uIn (by decide)]
      exact m2.2 y (fun e => by have : y = 23 ∨ y = 29 := by simpa using e
                                omega)
    obtain ⟨t1, t2, t3, t4⟩ := gT
    refine hy hc _ J1 g2 r2 nc2 fr3 ⟨⟨by rw [x61 14 (by decide) (by decide)]; exact t1, by rw [x61 15 (by decide) (by decide)]; exact t2, by rw [x61 16 (by decide) (by decide)]; exact t3, t4⟩, gq, by rw [x61 19 (by decide) (by decide)]; exact g19, by rw [x61 18 (by decide) (by decide)]; exact g18, by rw [x61 26 (by decide) (by decide)]; exact g26, gm, by rw [x61 30 (by decide) (by decide)]; exact g30, p3, ?_, ?_⟩ s3 s2
    · show pl.length + 1 ≤ _
      omega
    · rw [ep]; omega
/-- a leaf, or a fault -/
theorem x_leaf (hn : 1001 < n) {I : tHI} {J : tHJ} {q m br nc : Nat} {pl : List (Nat × Nat)} {g r : Nat → Nat} {v : Int32} {o a : Nat} {K : tHI → tHJ → Prop} (ht : MTp b z (I 61) (I 70)) (h : MG b z I J q m br nc pl g r) (ho : o < 20) (ha : a < 100000) (hv : ¬ v = 0 → aK b z q ≠ 0) (hy : ¬ v = 0 → m < 50 → ∀ I' J', MFr I I' J J' → MG b z I' J' (aE b z q) (m + 1) br (nc + 1) pl (upN g nc o) (upN r nc a) → K I' J') (hx : v = 0 ∨ ¬ m < 50 → ∀ I', MFr I I' J J → ¬ I' 61 19 = 0 → I' 61 18 = nI (aF b z q) → MPi I' nc pl g r → K I' J) : F12_leaf n S I J v (nI o) (nI a) K := by
  obtain ⟨hT, hq, h19, h18, h26, hm, h30, hP, hl, hp⟩ := id h
  have hz := ht.1
  unfold F12_leaf F12_leaf_45
  rw [h26]
  have e50 : (50 : Int32) ≤ nI m ↔ 50 ≤ m := qle (a := 50) (by omega) (by omega)
  by_cases c : v = 0 ∨ ¬ m < 50
  · have ev : (if v = 0 then (0 : Int32) else (if 50 ≤ nI m then (0 : Int32) else 1)) = 0 := by
      rcases c with c | c
      · rw [if_pos c]
      · rw [if_pos (e50.mpr (by omega))]; split <;> rfl
    refine must_n ev h19 ?_
    rw [hT.1]
    have b19 : ¬ (uI (uI I 61 19 1) 61 18 (nI (aF b z q))) 61 19 = 0 := by rw [uIe, upn (by decide), uIe, upe]; decide
    exact ⟨fun _ => hx c _ (((MFr.rf I J).w61 (by decide)).w61 (by decide)) b19 (by rw [uIe, upe]) hP.bad, fun y => absurd y b19⟩
  · have c1 : ¬ v = 0 := fun y => c (Or.inl y)
    have c2 : m < 50 := Classical.not_not.mp (fun y => c (Or.inr y))
    rw [if_neg c1, if_neg (fun y => by have := e50.mp y; omega)]
    have k0 := hv c1
    have up := aF_up k0
    refine must_y (by decide) h19 (MG.next ht hn h (fun I1 J1 a1 g1' => ?_))
    obtain ⟨gT, gq, g19, g18, g26, gm, g30, gP, gl, gp⟩ := g1'
    have uz : aF b z (aE b z q) ≤ z := aF_le gq
    refine ⟨fun y => absurd g19 y, fun _ => sp_memit gP.1 (by omega) ?_⟩
    have p2 := gP.emit (o := o) (a := a) (by omega) ha (by omega)
    have e26 : (uI (uI (uI I1 72 nc (nI o)) 73 nc (nI a)) 61 23 (nI (nc + 1))) 61 26 + 1 = nI (m + 1) := by
      rw [uIe, upn (by decide), uIn (by decide), uIn (by decide), g26, nI_1]
    rw [e26]
    have fr2 : MFr I (uI (uI (uI (uI I1 72 nc (nI o)) 73 nc (nI a)) 61 23 (nI (nc + 1))) 61 26 (nI (m + 1))) J J1 := (((((MFr.rf I J).ad a1).wa (by decide)).wa (by decide)).w61 (by decide)).w61 (by decide)
    have x61 : ∀ y, y ≠ 23 → y ≠ 26 → (uI (uI (uI (uI I1 72 nc (nI o)) 73 nc (nI a)) 61 23 (nI (nc + 1))) 61 26 (nI (m + 1))) 61 y = I1 61 y := fun y h1 h2 => by
      rw [uIe, upn h2, uIe, upn h1, uIn (by decide), uIn (by decide)]
    obtain ⟨t1, t2, t3, t4⟩ := gT
    obtain ⟨b1, b2, b3, b4, b5, b6⟩ := p2
    refine hy c1 c2 _ J1 fr2 ⟨⟨by rw [x61 14 (by decide) (by decide)]; exact t1, by rw [x61 15 (by decide) (by decide)]; exact t2, by rw [x61 16 (by decide) (by decide)]; exact t3, t4⟩, gq, by rw [x61 19 (by decide) (by decide)]; exact g19, by rw [x61 18 (by decide) (by decide)]; exact g18, by rw [uIe, upe], by omega, by rw [x61 30 (by decide) (by decide)]; exact g30, ⟨?_, ?_, ?_, b4, b5, ?_⟩, by omega, by omega⟩
    · rw [uIe, upn (by decide)]; exact b1
    · rw [uIe, upn (by decide)]; exact b2
    · rw [uIn (by decide), uIn (by decide)]; rw [uIn (by decide), uIn (by decide)] at b3; exact b3
    · intro i hi
      have := b6 i hi
      rw [uIn (a := 61) (by decide), uIn (a := 61) (by decide)]
      rw [uIn (a := 61) (by decide), uIn (a := 61) (by decide)] at this
      exact this
/-- a number behind a word -/
theorem x_num (hn : 1001 < n) {I : tHI} {J : tHJ} {q m br nc hi : Nat} {pl : List (Nat × Nat)} {g r : Nat → Nat} {w : Int64} {K : Int32 → tHI → tHJ → Prop} (ht : MTp b z (I 61) (I 70)) (h : MG b z I J q m br nc pl g r) (hw : w.toInt = (hi : Int)) (hhi : hi ≤ 1000) (hy : aK b z q = 2 ∧ aN b z q ≤ hi → ∀ I' J', MFr I I' J J' → MG b z I' J' (aE b z q) m br nc pl g r → K (nI (aN b z q)) I' J') (hx : ¬ (aK b z q = 2 ∧ aN b z q ≤ hi) → ∀ v I', MFr I I' J J → ¬ I' 61 19 = 0 → I' 61 18 = nI (aF b z q) → MPi I' nc pl g r → K v I' J) : F12_number n S I J 0 w K := by
  obtain ⟨hT, hq, h19, h18, h26, hm, h30, hP, hl, hp⟩ := id h
  have hz := ht.1
  have kr := aK_r (b := b) (z := z) q
  have e2 : nI (aK b z q) = 2 ↔ aK b z q = 2 := qeq (b := 2) (by omega) (by omega)
  have z0 : (0 : Int64).toInt = 0 := by decide +kernel
  unfold F12_number
  rw [hT.2.2.1]
  by_cases c : aK b z q = 2 ∧ aN b z q ≤ hi
  · have hJ := (hT.2.2.2.2.1 c.1).1 (by omega)
    have hin : ¬ V12_in (J 61 17) 0 w = 0 := by rw [mi1, z0, hJ, hw]; omega
    rw [if_pos (e2.mpr c.1), if_neg hin]
    have ei : (J 61 17).toInt32 = nI (aN b z q) := by
      refine Int32.toInt_inj.mp ?_
      rw [tl_32 (by omega) (by omega), hJ, qi (by omega)]
    rw [ei]
    exact must_y (by decide) h19 (MG.next ht hn h (fun I1 J1 a1 g1' => hy c I1 J1 ((MFr.rf I J).ad a1) g1'))
  · have ev : (if nI (aK b z q) = 2 then (if V12_in (J 61 17) 0 w = 0 then (0 : Int32) else 1) else 0) = 0 := by
      by_cases d : aK b z q = 2
      · have hJ := (hT.2.2.2.2.1 d)
        have hin : V12_in (J 61 17) 0 w = 0 := by
          rw [mi0, z0, hw]
          by_cases e : aN b z q ≤ 1000
          · have := hJ.1 e; omega
          · have := hJ.2 (by omega); omega
        rw [if_pos (e2.mpr d), if_pos hin]
      · rw [if_neg (fun y => d (e2.mp y))]
    refine must_n ev h19 ?_
    rw [hT.1]
    have b19 : ¬ (uI (uI I 61 19 1) 61 18 (nI (aF b z q))) 61 19 = 0 := by rw [uIe, upn (by decide), uIe, upe]; decide
    exact hx c _ _ (((MFr.rf I J).w61 (by decide)).w61 (by decide)) b19 (by rw [uIe, upe]) hP.bad
end EZ
