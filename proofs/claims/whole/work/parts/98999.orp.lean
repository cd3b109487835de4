/-! orders: the model's whole run -/
def oS0 (I : tHI) (h : Nat) : oT := (I 63, h, I 66, I 67, 0, -1)
def oMV (Z V : tHI) (v : Int32) : Prop := (∀ x, x ∉ [61, 62, 63, 66, 67, 68, 69, 71, 72, 73, 74, 75, 87] → V x = Z x) ∧ V 62 = rfv (Z 62) v ∧ V 61 1 = stv v ∧ (∀ y, y ∈ [11, 41, 57] → V 61 y = Z 61 y) ∧ V 61 13 = 0 ∧ V 61 18 = -1 ∧ V 61 20 = 0
section ORP
variable {n : Nat} {S S' : tSH} {I Z : tHI} {J : tHJ}
theorem sp_ordM (hn : 2000 < n) {b : Nat → Nat} {z h N NB : Nat} {cs : List aC5} (hM : MTp b z (I 61) (I 70)) (j76 : ∀ i, i < 12 → J 76 i = w76.getD i 0) (j77 : ∀ i, i < 8 → J 77 i = w77.getD i 0) (j86 : ∀ i, i < 6 → J 86 i = w86.getD i 0) (e61 : Z 61 = I 61) (e63 : Z 63 = I 63) (e66 : Z 66 = I 66) (e67 : Z 67 = I 67) (e70 : Z 70 = I 70) (hV : VQ S I S' Z) (hF : FO S' Z (I 63)) (hK : RK (I 63)) (hN : I 63 0 = nI N) (hN6 : N ≤ 6) (hB1 : I 63 1 = nI NB) (hB12 : NB ≤ 12) (h41 : I 61 41 = 63) (hh : h ≤ 16) (h8 : I 61 8 = nI h) (hcs : aTe b z 1 12 0 0 [] = .inr cs) {k : Int32 → tHI → tHJ → Prop} (hno : ∀ j, oAll S I N cs 0 (oS0 I h) = .inl j → ∀ V J', oMV Z V (-3) → V 63 = I 63 → V 61 8 = nI h → (∀ y, y < 272 → V 66 y = I 66 y) → (∀ y, y < 16 → V 67 y = I 67 y) → V 61 53 = nI j → KpJ J J' → k (-3) V J') (hyes : ∀ s', oAll S I N cs 0 (oS0 I h) = .inr s' → ∀ V J', oMV Z V s'.2.2.2.2.1 → V 63 = s'.1 → V 61 8 = nI s'.2.1 → (∀ y, y < 17 * s'.2.1 → V 66 y = s'.2.2.1 y) → (∀ y, y < s'.2.1 → V 67 y = s'.2.2.2.1 y) → V 61 53 = -1 → KpJ J J' → k s'.2.2.2.2.1 V J') : F12_orders n S' Z J k := by
  unfold F12_orders
  have z61 : ∀ y, y ≠ 0 → y ≠ 53 → (uI (uI Z 61 0 0) 61 53 (-1)) 61 y = I 61 y := fun y a c => by rw [uIe, upn c, uIe, upn a, e61]
  have z53 : (uI (uI Z 61 0 0) 61 53 (-1)) 61 53 = -1 := by rw [uIe, upe]
  have zo : ∀ x, x ≠ 61 → (uI (uI Z 61 0 0) 61 53 (-1)) x = Z x := fun x a => by rw [uIn a, uIn a]
  generalize (uI (uI Z 61 0 0) 61 53 (-1)) = Z0 at z61 z53 zo ⊢
  have hM0 : MTp b z (Z0 61) (Z0 70) := by
    unfold MTp
    rw [z61 13 (by decide) (by decide), zo 70 (by decide), e70]; exact hM
  refine sp_ordT (n := n) (S := S') (b := b) (z := z) (k := k) (E := fun I6 J7 => (((I6 61 19) = 0 → F12_keepAll n S' I6 J7 17 (fun I9 J10 => F12_orders_L77 n S' k n I9 J10 (I9 61 8) 0)) ∧ (¬ (I6 61 19) = 0 → F12_tell n S' I6 J7 (-6) (fun x29 I27 J28 => k x29 I27 J28)))) hM0 (by omega) j76 j77 j86 (fun I2 J2 hh => hh) (fun x hx => by rw [hcs] at hx; cases hx) (fun cs' hx I' J' q m nc g ra u t => ?_)
  have ec : cs' = cs := by rw [hcs] at hx; exact (Sum.inr.inj hx).symm
  subst ec
  obtain ⟨tE, t21, t12, tR⟩ := t
  obtain ⟨-, tq, t19, t18, -, -, t23, tnc, tc⟩ := tE
  have hz : z ≤ 400 := hM.1
  have hnc : nc ≤ 400 := by have := aF_le (b := b) tq; omega
  obtain ⟨okc, -, okm⟩ := aTe_ok (ord := 1) hz 12 0 0 [] cs' (Nat.zero_le _) (fun c hc => (by cases hc)) hcs
  have okm : cs'.length ≤ 12 := t12
  have n19 : (uI (uI I' 61 20 0) 61 13 0) 61 19 = 0 := by rw [uIe, upn (by decide), uIe, upn (by decide)]; exact t19
  refine ⟨fun _ => ?_, fun y => absurd n19 y⟩
  have kjJ : KpJ J J' := fun x hx => u.2.2.1 x (fun e => by rw [e] at hx; revert hx; decide)
  -- the heap behind the text
  have p61 : ∀ y, y ∉ [0, 13, 14, 15, 16, 18, 19, 20, 21, 23, 26, 29, 30, 53] → (uI (uI I' 61 20 0) 61 13 0) 61 y = I 61 y := fun y hy => by
    have ne : ∀ t, t ∈ [0, 13, 14, 15, 16, 18, 19, 20, 21, 23, 26, 29, 30, 53] → y ≠ t := fun t ht e => hy (by rw [e]; exact ht)
    rw [uIe, upn (ne 13 (by decide)), uIe, upn (ne 20 (by decide)), u.2.1 y (fun e => hy (by
      have : y = 14 ∨ y = 15 ∨ y = 16 ∨ y = 18 ∨ y = 19 ∨ y = 20 ∨ y = 21 ∨ y = 23 ∨ y = 26 ∨ y = 29 ∨ y = 30 := by simpa using e
      rcases this with c | c | c | c | c | c | c | c | c | c | c <;> rw [c] <;> decide)), z61 y (ne 0 (by decide)) (ne 53 (by decide))]
  have p13 : (uI (uI I' 61 20 0) 61 13 0) 61 13 = 0 := by rw [uIe, upe]
  have p20 : (uI (uI I' 61 20 0) 61 13 0) 61 20 = 0 := by rw [uIe, upn (by decide), uIe, upe]
  have p18 : (uI (uI I' 61 20 0) 61 13 0) 61 18 = -1 := by rw [uIe, upn (by decide), uIe, upn (by decide)]; exact t18
  have p21 : (uI (uI I' 61 20 0) 61 13 0) 61 21 = nI cs'.length := by rw [uIe, upn (by decide), uIe, upn (by decide)]; exact t21
  have p53 : (uI (uI I' 61 20 0) 61 13 0) 61 53 = -1 := by rw [uIe, upn (by decide), uIe, upn (by decide), u.2.1 53 (by decide)]; exact z53
  have po : ∀ x, x ∉ [61, 71, 72, 73, 74, 75, 87] → (uI (uI I' 61 20 0) 61 13 0) x = Z x := fun x hx => by
    have ne : x ≠ 61 := fun e => hx (by rw [e]; decide)
    rw [uIn ne, uIn ne, u.1 x hx, zo x ne]
  have p87 : (uI (uI I' 61 20 0) 61 13 0) 87 = I' 87 := by rw [uIn (by decide), uIn (by decide)]
  have p72 : (uI (uI I' 61 20 0) 61 13 0) 72 = I' 72 := by rw [uIn (by decide), uIn (by decide)]
  have p73 : (uI (uI I' 61 20 0) 61 13 0) 73 = I' 73 := by rw [uIn (by decide), uIn (by decide)]
  generalize (uI (uI I' 61 20 0) 61 13 0) = M0 at n19 p61 p13 p20 p18 p21 p53 po p87 p72 p73 ⊢
  refine sp_keepAll (q := 17) (by omega) (by omega) (fun X x1 x2 x3 => ?_)
  refine keep77 (I := X) (fun Y y1 y2 => keep104 (I := Y) (fun W w1 w2 => ?_) 16 n 0 Y (by omega) (by omega) (fun _ _ => rfl) (fun y hy => by omega)) 272 n 0 X (by omega) (by omega) (fun _ _ => rfl) (fun y hy => by omega)
  have v8 : X 61 8 = nI h := by rw [x1 61 (by decide), p61 8 (by decide)]; exact h8
  rw [v8]
  have bo : ∀ x, x ∉ [61, 66, 68, 69, 71, 72, 73, 74, 75, 87] → (uI (uI W 61 51 0) 61 52 (-1)) x = Z x := fun x hx => by
    have ne : ∀ t, t ∈ [61, 66, 68, 69, 71, 72, 73, 74, 75, 87] → x ≠ t := fun t ht e => hx (by rw [e]; exact ht)
    rw [uIn (ne 61 (by decide)), uIn (ne 61 (by decide)), w1 x (ne 69 (by decide)), y1 x (ne 68 (by decide)), x1 x (ne 66 (by decide)), po x (fun e => by
      have : x = 61 ∨ x = 71 ∨ x = 72 ∨ x = 73 ∨ x = 74 ∨ x = 75 ∨ x = 87 := by simpa using e
      rcases this with c | c | c | c | c | c | c
      · exact ne 61 (by decide) c
      · exact ne 71 (by decide) c
      · exact ne 72 (by decide) c
      · exact ne 73 (by decide) c
      · exact ne 74 (by decide) c
      · exact ne 75 (by decide) c
      · exact ne 87 (by decide) c)]
  have bM : ∀ y, y ≠ 51 → y ≠ 52 → (uI (uI W 61 51 0) 61 52 (-1)) 61 y = M0 61 y := fun y a c => by rw [uIe, upn c, uIe, upn a, w1 61 (by decide), y1 61 (by decide), x1 61 (by decide)]
  have b51 : (uI (uI W 61 51 0) 61 52 (-1)) 61 51 = 0 := by rw [uIe, upn (by decide), uIe, upe]
  have b52 : (uI (uI W 61 51 0) 61 52 (-1)) 61 52 = -1 := by rw [uIe, upe]
  have bX : ∀ x, x ∉ [61, 66, 68, 69] → (uI (uI W 61 51 0) 61 52 (-1)) x = M0 x := fun x hx => by
    have ne : ∀ t, t ∈ [61, 66, 68, 69] → x ≠ t := fun t ht e => hx (by rw [e]; exact ht)
    rw [uIn (ne 61 (by decide)), uIn (ne 61 (by decide)), w1 x (ne 69 (by decide)), y1 x (ne 68 (by decide)), x1 x (ne 66 (by decide))]
  have b66 : (uI (uI W 61 51 0) 61 52 (-1)) 66 = X 66 := by rw [uIn (by decide), uIn (by decide), w1 66 (by decide), y1 66 (by decide)]
  have b68 : ∀ y, y < 272 → (uI (uI W 61 51 0) 61 52 (-1)) 68 y = I 66 y := fun y hy => by
    rw [uIn (by decide), uIn (by decide), w1 68 (by decide), y2 y hy, x2 y (by omega), po 66 (by decide), e66]
  have b69 : ∀ y, y < 16 → (uI (uI W 61 51 0) 61 52 (-1)) 69 y = I 67 y := fun y hy => by
    rw [uIn (by decide), uIn (by decide), w2 y hy, y1 67 (by decide), x1 67 (by decide), po 67 (by decide), e67]
  generalize (uI (uI W 61 51 0) 61 52 (-1)) = Bm at bo bM b51 b52 bX b66 b68 b69 ⊢
  have b61 : ∀ y, y ∉ [0, 13, 14, 15, 16, 18, 19, 20, 21, 23, 26, 29, 30, 51, 52, 53] → Bm 61 y = I 61 y := fun y hy => by
    rw [bM y (fun e => hy (by rw [e]; decide)) (fun e => hy (by rw [e]; decide)), p61 y (fun e => hy (by
      have : y = 0 ∨ y = 13 ∨ y = 14 ∨ y = 15 ∨ y = 16 ∨ y = 18 ∨ y = 19 ∨ y = 20 ∨ y = 21 ∨ y = 23 ∨ y = 26 ∨ y = 29 ∨ y = 30 ∨ y = 53 := by simpa using e
      rcases this with c | c | c | c | c | c | c | c | c | c | c | c | c | c <;> rw [c] <;> decide))]
  have b13 : Bm 61 13 = 0 := by rw [bM 13 (by decide) (by decide)]; exact p13
  have b20 : Bm 61 20 = 0 := by rw [bM 20 (by decide) (by decide)]; exact p20
  have b18 : Bm 61 18 = -1 := by rw [bM 18 (by decide) (by decide)]; exact p18
  have b21 : Bm 61 21 = nI cs'.length := by rw [bM 21 (by decide) (by decide)]; exact p21
  have b53 : Bm 61 53 = -1 := by rw [bM 53 (by decide) (by decide)]; exact p53
  have b63 : Bm 63 = I 63 := by rw [bo 63 (by decide), e63]
  have b67 : Bm 67 = I 67 := by rw [bo 67 (by decide), e67]
  have b87 : Bm 87 = I' 87 := by rw [bX 87 (by decide), p87]
  have b72 : Bm 72 = I' 72 := by rw [bX 72 (by decide), p72]
  have b73 : Bm 73 = I' 73 := by rw [bX 73 (by decide), p73]
  have l66 : ∀ y, y < 272 → Bm 66 y = I 66 y := fun y hy => by rw [b66, x2 y (by omega), po 66 (by decide), e66]
  have u66 : ∀ i, i < 17 → Bm 66 (289 + i) = I 63 (9 + i) := fun i hi => by
    have := x3 i hi
    rw [b66, show 289 + i = 17 * 17 + i by omega, this, po 63 (by decide), e63]
  have b1 : Bm 1 = Z 1 := bo 1 (by decide)
  have b89 : ∀ x, 89 ≤ x → Bm x = Z x := fun x hx => bo x (fun e => by
    have : x = 61 ∨ x = 66 ∨ x = 68 ∨ x = 69 ∨ x = 71 ∨ x = 72 ∨ x = 73 ∨ x = 74 ∨ x = 75 ∨ x = 87 := by simpa using e
    omega)
  have hVB : VQ S I S' Bm := hV.trans (VQ.of hF (by rw [b1]) (by rw [b1]) (fun _ _ => rfl) b89)
  have hFB : FO S' Bm (I 63) := hF.cg b1 b89 rfl (fun _ _ => rfl)
  have hOM : oM Bm (oS0 I h) Bm := ⟨⟨b63, by rw [b61 8 (by decide)]; exact h8, fun y hy => by
    have hy : y < 17 * h := hy
    exact l66 y (by omega), fun y _ => by rw [b67]; rfl⟩, ⟨b51, b52⟩, fun _ _ => rfl, fun _ _ => rfl, fun _ _ => rfl⟩
  have hOK : oOK (I 63) (oS0 I h) := ⟨hK, fun _ _ => rfl, hh⟩
  show F12_orders_L140 n S' k n Bm J' (nI h) (nI ([] : List aC5).length)
  refine sp_allM (B := Bm) (r0 := I 63) (S0 := S) (I0 := I) (cs := cs') (by omega) hVB hFB hN hN6 hB1 hB12 b20 (by rw [b61 41 (by decide)]; exact h41) okm b21 (fun j c hj => by rw [b87]; exact tR j c hj) hnc (fun i hi => by rw [b72, b73]; exact tc i hi) okc cs' [] n (oS0 I h) Bm J' rfl (by omega) hOM hOK (fun j ej X' J'' f1 f2 f3 => ?_) (fun s' es X' J'' f1 f2 f3 => ?_)
  · refine sp_giveBack (by omega) (fun T t1 t2 t3 t4 t5 t6 t7 => sp_tell (by decide) ?_)
    have To : ∀ x, x ∉ [61, 63, 66, 67] → T x = Bm x := fun x hx => by rw [t1 x hx]; exact f1.1 x hx
    have T61 : ∀ y, y ∉ [8, 34, 38, 42, 43, 44, 51, 52, 54] → T 61 y = Bm 61 y := fun y hy => by rw [t2 y (fun e => hy (by rw [e]; decide))]; exact f1.2.1 y hy
    have v61 : (mS (uI T 61 53 (nI j)) (-3)) 61 = up (up (T 61) 53 (nI j)) 1 (stv (-3)) := by rw [mS_61, uIe]
    have v62 : (mS (uI T 61 53 (nI j)) (-3)) 62 = rfv (Z 62) (-3) := by rw [mS_62, uIn (by decide), To 62 (by decide), bo 62 (by decide)]
    have vo : ∀ x, x ≠ 61 → x ≠ 62 → (mS (uI T 61 53 (nI j)) (-3)) x = T x := fun x a c => by rw [mS_o a c, uIn a]
    generalize (mS (uI T 61 53 (nI j)) (-3)) = V at v61 v62 vo ⊢
    have w61 : ∀ y, y ∉ [1, 8, 34, 38, 42, 43, 44, 51, 52, 53, 54] → V 61 y = Bm 61 y := fun y hy => by
      have ne : ∀ t, t ∈ [1, 8, 34, 38, 42, 43, 44, 51, 52, 53, 54] → y ≠ t := fun t ht e => hy (by rw [e]; exact ht)
      rw [v61, upn (ne 1 (by decide)), upn (ne 53 (by decide)), T61 y (fun e => hy (by
        have : y = 8 ∨ y = 34 ∨ y = 38 ∨ y = 42 ∨ y = 43 ∨ y = 44 ∨ y = 51 ∨ y = 52 ∨ y = 54 := by simpa using e
        rcases this with c | c | c | c | c | c | c | c | c <;> rw [c] <;> decide))]
    refine hno j ej V J'' ⟨fun x hx => ?_, v62, by rw [v61, upe], fun y hy => ?_, by rw [w61 13 (by decide)]; exact b13, by rw [w61 18 (by decide)]; exact b18, by rw [w61 20 (by decide)]; exact b20⟩ ?_ (by rw [v61, upn (by decide), upn (by decide)]; exact t3) (fun y hy => by rw [vo 66 (by decide) (by decide), t6 y hy, f1.1 68 (by decide)]; exact b68 y hy) (fun y hy => by rw [vo 67 (by decide) (by decide), t7 y hy, f1.1 69 (by decide)]; exact b69 y hy) (by rw [v61, upn (by decide), upe]) (kjJ.trans f3)
    · have ne : ∀ t, t ∈ [61, 62, 63, 66, 67, 68, 69, 71, 72, 73, 74, 75, 87] → x ≠ t := fun t ht e => hx (by rw [e]; exact ht)
      rw [vo x (ne 61 (by decide)) (ne 62 (by decide)), To x (fun e => by
        have : x = 61 ∨ x = 63 ∨ x = 66 ∨ x = 67 := by simpa using e
        rcases this with c | c | c | c
        · exact ne 61 (by decide) c
        · exact ne 63 (by decide) c
        · exact ne 66 (by decide) c
        · exact ne 67 (by decide) c), bo x (fun e => hx (by
        have : x = 61 ∨ x = 66 ∨ x = 68 ∨ x = 69 ∨ x = 71 ∨ x = 72 ∨ x = 73 ∨ x = 74 ∨ x = 75 ∨ x = 87 := by simpa using e
        rcases this with c | c | c | c | c | c | c | c | c | c <;> rw [c] <;> decide))]
    · have : y = 11 ∨ y = 41 ∨ y = 57 := by simpa using hy
      rw [e61]
      rcases this with c | c | c <;> subst c
      · rw [w61 11 (by decide), b61 11 (by decide)]
      · rw [w61 41 (by decide), b61 41 (by decide)]
      · rw [w61 57 (by decide), b61 57 (by decide)]
    · funext y
      rw [vo 63 (by decide) (by decide)]
      by_cases c : y < 9 ∨ 26 ≤ y
      · rw [t4 y c]; exact f2 y c
      · have := t5 (y - 9) (by omega)
        rw [show 9 + (y - 9) = y by omega] at this
        rw [this, f1.2.2 _ (by omega), u66 _ (by omega), show 9 + (y - 9) = y by omega]
  · obtain ⟨qd, q1, q2⟩ := oAll_dn cs' 0 (oS0 I h) s' 0 okc rfl es
    have hd : 0 ≤ s'.2.2.2.2.1.toInt := by rw [q1, qi (by omega)]; omega
    rw [f1.2.1.1]
    refine sp_tell (by omega) ?_
    have v61 : (mS X' s'.2.2.2.2.1) 61 = up (X' 61) 1 (stv s'.2.2.2.2.1) := mS_61
    have v62 : (mS X' s'.2.2.2.2.1) 62 = rfv (Z 62) s'.2.2.2.2.1 := by rw [mS_62, f1.2.2.1 62 (by decide), bo 62 (by decide)]
    have vo : ∀ x, x ≠ 61 → x ≠ 62 → (mS X' s'.2.2.2.2.1) x = X' x := fun x a c => mS_o a c
    generalize (mS X' s'.2.2.2.2.1) = V at v61 v62 vo ⊢
    have w61 : ∀ y, y ∉ [1, 8, 34, 38, 42, 43, 44, 51, 52, 54] → V 61 y = Bm 61 y := fun y hy => by
      have ne : ∀ t, t ∈ [1, 8, 34, 38, 42, 43, 44, 51, 52, 54] → y ≠ t := fun t ht e => hy (by rw [e]; exact ht)
      rw [v61, upn (ne 1 (by decide)), f1.2.2.2.1 y (fun e => hy (by
        have : y = 8 ∨ y = 34 ∨ y = 38 ∨ y = 42 ∨ y = 43 ∨ y = 44 ∨ y = 51 ∨ y = 52 ∨ y = 54 := by simpa using e
        rcases this with c | c | c | c | c | c | c | c | c <;> rw [c] <;> decide))]
    refine hyes s' es V J'' ⟨fun x hx => ?_, v62, by rw [v61, upe], fun y hy => ?_, by rw [w61 13 (by decide)]; exact b13, by rw [w61 18 (by decide)]; exact b18, by rw [w61 20 (by decide)]; exact b20⟩ (by rw [vo 63 (by decide) (by decide)]; exact f1.1.1) (by rw [v61, upn (by decide)]; exact f1.1.2.1) (fun y hy => by rw [vo 66 (by decide) (by decide)]; exact f1.1.2.2.1 y hy) (fun y hy => by rw [vo 67 (by decide) (by decide)]; exact f1.1.2.2.2 y hy) (by rw [w61 53 (by decide)]; exact b53) (kjJ.trans f3)
    · have ne : ∀ t, t ∈ [61, 62, 63, 66, 67, 68, 69, 71, 72, 73, 74, 75, 87] → x ≠ t := fun t ht e => hx (by rw [e]; exact ht)
      rw [vo x (ne 61 (by decide)) (ne 62 (by decide)), f1.2.2.1 x (fun e => by
        have : x = 61 ∨ x = 63 ∨ x = 66 ∨ x = 67 := by simpa using e
        rcases this with c | c | c | c
        · exact ne 61 (by decide) c
        · exact ne 63 (by decide) c
        · exact ne 66 (by decide) c
        · exact ne 67 (by decide) c), bo x (fun e => hx (by
        have : x = 61 ∨ x = 66 ∨ x = 68 ∨ x = 69 ∨ x = 71 ∨ x = 72 ∨ x = 73 ∨ x = 74 ∨ x = 75 ∨ x = 87 := by simpa using e
        rcases this with c | c | c | c | c | c | c | c | c | c <;> rw [c] <;> decide))]
    · have : y = 11 ∨ y = 41 ∨ y = 57 := by simpa using hy
      rw [e61]
      rcases this with c | c | c <;> subst c
      · rw [w61 11 (by decide), b61 11 (by decide)]
      · rw [w61 41 (by decide), b61 41 (by decide)]
      · rw [w61 57 (by decide), b61 57 (by decide)]
end ORP
