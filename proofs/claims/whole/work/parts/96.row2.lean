/-! row, II -/
section RWM
variable {n : Nat} {S : tSH} {I : tHI} {J : tHJ}
theorem sp_bend1 {B : Nat} {v1 v2 v3 v4 : Int32} {k : Int32 → tHI → tHJ → Prop} (hB : I 63 1 = nI B) (hB12 : B ≤ 12) (hno : ∀ v : Int32, v.toInt < 0 → (V7_canBe v1 v2 v3 v4 = 0 ∨ B = 12) → k v I J) (hyes : ¬ V7_canBe v1 v2 v3 v4 = 0 → B < 12 → ∀ X : tHI, (∀ x, x ≠ 63 → X x = I x) → X 63 = adR (I 63) B v1 v2 v3 v4 → k (nI B) X J) : F12_bend1 n S I J v1 v2 v3 v4 k := by
  have m1 : V12_in v1.toInt64 (-9) 9 = V11_within v1 (-9) 9 := inwi (by decide) (by decide)
  have m2 : V12_in v2.toInt64 1 99 = V11_within v2 1 99 := inwi (by decide) (by decide)
  have m3 : V12_in v3.toInt64 (-3) 3 = V11_within v3 (-3) 3 := inwi (by decide) (by decide)
  have m4 : V12_in v4.toInt64 0 31 = V11_within v4 0 31 := inwi (by decide) (by decide)
  have q1 : 38 + 4 * nI B = nI (38 + 4 * B) := by rw [ql 38, ql 4, qmul, nI_add]
  have q2 : nI (38 + 4 * B) + 1 = nI (38 + 4 * B + 1) := nI_add _ 1
  have q3 : nI (38 + 4 * B) + 2 = nI (38 + 4 * B + 2) := nI_add _ 2
  have q3b : nI (38 + 4 * B) + 3 = nI (38 + 4 * B + 3) := nI_add _ 3
  have q5 : nI B + 1 = nI (B + 1) := nI_add B 1
  have neg : ((-1 : Int32)).toInt < 0 := by decide
  unfold F12_bend1 F12_bend1_53
  refine ⟨fun c => hno _ neg (Or.inl (canBe0.mpr (Or.inl (m1.symm.trans c)))), fun c1 => ⟨fun c => hno _ neg (Or.inl (canBe0.mpr (Or.inr (Or.inl (m2.symm.trans c))))), fun c2 => ⟨fun c => hno _ neg (Or.inl (canBe0.mpr (Or.inr (Or.inr (Or.inl (m3.symm.trans c)))))), fun c3 => ⟨fun c4 => ⟨fun c5 => ?_, fun c5 => ?_⟩, fun c => hno _ neg (Or.inl (canBe0.mpr (Or.inr (Or.inr (Or.inr (m4.symm.trans c))))))⟩⟩⟩⟩
  · have hb : B < 12 := by
      have : B ≠ 12 := fun q => c5 (by rw [hB, q]; rfl)
      omega
    have hc : ¬ V7_canBe v1 v2 v3 v4 = 0 := fun q => by
      rcases canBe0.mp q with g | g | g | g
      · exact c1 (m1.trans g)
      · exact c2 (m2.trans g)
      · exact c3 (m3.trans g)
      · exact c4 (m4.trans g)
    rw [hB, q1, q2, q3, q3b, qn (by omega), qn (by omega), qn (by omega), qn (by omega)]
    have q4 : (uI (uI (uI (uI I 63 (38 + 4 * B) v1) 63 (38 + 4 * B + 1) v2) 63 (38 + 4 * B + 2) v3) 63 (38 + 4 * B + 3) v4) 63 1 = nI B := by rw [uIe, upn (by omega), uIe, upn (by omega), uIe, upn (by omega), uIe, upn (by omega)]; exact hB
    rw [q4, q5]
    refine ⟨(qin (by omega)).mpr (by omega), (qin (by omega)).mpr (by omega), (qin (by omega)).mpr (by omega), (qin (by omega)).mpr (by omega), hyes hc hb _ (fun x hx => by rw [uIn hx, uIn hx, uIn hx, uIn hx, uIn hx]) (by rw [uIe, uIe, uIe, uIe, uIe]; rfl)⟩
  · have : B = 12 := by rw [hB] at c5; exact (qeq (b := 12) (by omega) (by omega)).mp c5
    exact hno _ (by decide) (Or.inr this)
theorem rowM_L {z : Nat} (hz : z ≤ 400) {T r0 : Nat → Int32} (hT : ∀ p, p < z → I 70 p = T p) (h0 : ∃ B, r0 1 = nI B ∧ B ≤ 12) {k : Int32 → tHI → tHJ → Prop} (hk : ∀ X : tHI, (∀ x, x ≠ 61 → x ≠ 63 → X x = I x) → (∀ y, y ≠ 11 → X 61 y = I 61 y) → X 61 11 = nI (rwM T z r0 ((z + 3) / 4)) → X 63 = rwR T z r0 ((z + 3) / 4) → F12_settled n S X J (nI (rwC T z r0 ((z + 3) / 4))) k) : ∀ (d f i : Nat) (X : tHI), i + d = (z + 3) / 4 → d < f → (∀ x, x ≠ 61 → x ≠ 63 → X x = I x) → (∀ y, y ≠ 11 → X 61 y = I 61 y) → X 61 11 = nI (rwM T z r0 i) → X 63 = rwR T z r0 i → F12_row_L35 n S k f X J (nI z) (nI (rwC T z r0 i)) (nI (4 * i)) := by
  intro d
  induction d with
  | zero =>
    intro f i X hi hf c1 c2 c3 c4
    obtain ⟨f, rfl⟩ : ∃ g, f = g + 1 := ⟨f - 1, by omega⟩
    have e : i = (z + 3) / 4 := by omega
    subst e
    show F12_row_35 n S k (F12_row_L35 n S k f) X J _ _ _
    unfold F12_row_35
    exact ⟨fun _ => hk X c1 c2 c3 c4, fun g => absurd ((qle (by omega) (by omega)).mpr (by omega)) g⟩
  | succ d ih =>
    intro f i X hi hf c1 c2 c3 c4
    obtain ⟨f, rfl⟩ : ∃ g, f = g + 1 := ⟨f - 1, by omega⟩
    obtain ⟨B, b1, b2⟩ := rw_B (T := T) (z := z) h0 i
    have q1 : nI (4 * i) + 1 = nI (4 * i + 1) := nI_add _ 1
    have q2 : nI (4 * i) + 2 = nI (4 * i + 2) := nI_add _ 2
    have q3 : nI (4 * i) + 3 = nI (4 * i + 3) := nI_add _ 3
    have q4 : nI (4 * i) + 4 = nI (4 * i + 4) := nI_add _ 4
    have hl := rw_le (T := T) (z := z) (r0 := r0) i
    have eR : rwR T z r0 (i + 1) = if okR T z i (rwR T z r0 i) then adR (rwR T z r0 i) (rwR T z r0 i 1).toNatClampNeg (T (4 * i) - 9) (T (4 * i + 1)) (T (4 * i + 2) - 3) (T (4 * i + 3)) else rwR T z r0 i := rfl
    have eC : rwC T z r0 (i + 1) = if okR T z i (rwR T z r0 i) then rwC T z r0 i + 1 else rwC T z r0 i := rfl
    have eM : rwM T z r0 (i + 1) = if okR T z i (rwR T z r0 i) then rwM T z r0 i else rwM T z r0 i + 1 := rfl
    have no : ¬ okR T z i (rwR T z r0 i) = true → F12_row_95 n S k (F12_row_L35 n S k f) X J (nI z) (nI (rwC T z r0 i)) (nI (4 * i)) := by
      intro g
      rw [if_neg g] at eR eC eM
      unfold F12_row_95 F12_row_105
      rw [c3, q4, show nI (rwM T z r0 i) + 1 = nI (rwM T z r0 i + 1) from nI_add _ 1]
      have key := ih f (i + 1) (uI X 61 11 (nI (rwM T z r0 i + 1))) (by omega) (by omega) (fun x p q => by rw [uIn p, c1 x p q]) (fun y hy => by rw [uIe, upn hy, c2 y hy]) (by rw [uIe, upe, eM]) (by rw [uIn (by decide), eR, c4])
      rw [eC] at key
      exact key
    show F12_row_35 n S k (F12_row_L35 n S k f) X J _ _ _
    unfold F12_row_35
    rw [q3, q1, q2, qn (by omega), qn (by omega), qn (by omega), qn (by omega)]
    refine ⟨fun g => ?_, fun _ => ⟨fun g => ?_, fun g => ?_⟩⟩
    · exfalso; have := (qle (by omega) (by omega)).mp g; omega
    · refine no (fun o => ?_)
      have := (qle (by omega) (by omega)).mp g
      have := (okR_iff.mp o).1
      omega
    · have hz4 : 4 * i + 4 ≤ z := by
        by_cases w : z ≤ 4 * i + 3
        · exact absurd ((qle (by omega) (by omega)).mpr w) g
        · omega
      have x70 : X 70 = I 70 := c1 70 (by decide) (by decide)
      rw [x70, hT (4 * i) (by omega), hT (4 * i + 1) (by omega), hT (4 * i + 2) (by omega), hT (4 * i + 3) (by omega)]
      have xB : X 63 1 = nI B := by rw [c4]; exact b1
      refine ⟨(qin (by omega)).mpr (by omega), (qin (by omega)).mpr (by omega), (qin (by omega)).mpr (by omega), (qin (by omega)).mpr (by omega), sp_bend1 xB b2 (fun v hv hc => ⟨fun _ => no (fun o => ?_), fun q => absurd (by rw [Int32.lt_iff_toInt_lt, tz0]; exact hv) q⟩) (fun hc hb Y y1 y2 => ⟨fun q => ?_, fun _ => ?_⟩)⟩
      · obtain ⟨o1, o2, o3⟩ := okR_iff.mp o
        rcases hc with hc | hc
        · exact o3 hc
        · rw [b1, hc] at o2
          have := (qlt (b := 12) (by omega) (by omega)).mp o2
          omega
      · exfalso; rw [Int32.lt_iff_toInt_lt, qi (by omega), tz0] at q; omega
      · have o : okR T z i (rwR T z r0 i) = true := okR_iff.mpr ⟨hz4, by rw [b1]; exact (qlt (b := 12) (by omega) (by omega)).mpr hb, hc⟩
        rw [if_pos o] at eR eC eM
        rw [b1, qn (by omega)] at eR
        unfold F12_row_105
        rw [q4, show nI (rwC T z r0 i) + 1 = nI (rwC T z r0 i + 1) from nI_add _ 1]
        have key := ih f (i + 1) Y (by omega) (by omega) (fun x p q => by rw [y1 x q, c1 x p q]) (fun y hy => by rw [y1 61 (by decide), c2 y hy]) (by rw [y1 61 (by decide), c3, eM]) (by rw [eR, y2, c4])
        rw [eC] at key
        exact key
theorem st_row (hn : 400 < n) : tSt_row n Inv := by
  intro S I J h
  obtain ⟨h1, h2, h3, ⟨z, hz, z38, z61, zT⟩, h5, h6, h7⟩ := h
  have h : Inv S I J := ⟨h1, h2, h3, ⟨z, hz, z38, z61, zT⟩, h5, h6, h7⟩
  unfold F11_row
  refine ⟨fun c => ?_, fun c => ?_⟩
  · refine row_L (n := n) (S := S) (J := J) z38 hz (r0 := I 63) (fun X x1 x2 => ?_) ((z + 3) / 4) n 0 I (by omega) (by omega) (fun _ _ => rfl) h2
    have hl := rw_le (T := I 39) (z := z) (r0 := I 63) ((z + 3) / 4)
    have hw : 0 ≤ (nI (rwC (I 39) z (I 63) ((z + 3) / 4))).toInt := by rw [qi (by omega)]; omega
    refine sp_settle h1.l59 (by omega) ?_
    rw [cS_p hw]
    show F12_row n S _ J (fun y I2 J2 => nI (rwC (I 39) z (I 63) ((z + 3) / 4)) = y ∧ Inv S I2 J2)
    have xx : ∀ x, x ≠ 7 → x ≠ 8 → x ≠ 9 → x ≠ 10 → x ≠ 11 → X x = I x := fun x a b c d e => x1 x (fun q => by
      have : x = 7 ∨ x = 8 ∨ x = 9 ∨ x = 10 ∨ x = 11 := by simpa using q
      omega)
    have e13 : (uI (uI (uI (uI (uI X 38 1 0) 0 17 (nI (rwM (I 39) z (I 63) ((z + 3) / 4)))) 34 1 0) 0 18 0) 61 0 0) 61 13 = nI z := by
      rw [uIe, upn (by decide), uIn (by decide), uIn (by decide), uIn (by decide), uIn (by decide), xx 61 (by decide) (by decide) (by decide) (by decide) (by decide)]; exact z61
    unfold F12_row
    rw [e13]
    refine ⟨fun _ => ?_, fun q => ?_⟩
    · have hM1 : ∃ B, I 63 1 = nI B ∧ B ≤ 12 := h2.2.2.2.2.2.1.1.2.1
      have eH : ∀ x, x ≠ 0 → x ≠ 7 → x ≠ 8 → x ≠ 9 → x ≠ 10 → x ≠ 11 → x ≠ 34 → x ≠ 38 → x ≠ 61 → (uI (uI (uI (uI (uI (uI (uI X 38 1 0) 0 17 (nI (rwM (I 39) z (I 63) ((z + 3) / 4)))) 34 1 0) 0 18 0) 61 0 0) 61 13 0) 61 11 0) x = I x := fun x a b c d e f g i j => by rw [uIn j, uIn j, uIn j, uIn a, uIn g, uIn a, uIn i, xx x b c d e f]
      refine rowM_L (n := n) (S := S) (J := J) (T := I 39) (r0 := I 63) hz (fun p hp => by rw [eH 70 (by decide) (by decide) (by decide) (by decide) (by decide) (by decide) (by decide) (by decide) (by decide)]; exact (zT p hp).1.symm) hM1 (fun Y y1 y2 y3 y4 => ?_) ((z + 3) / 4) n 0 _ (by omega) (by omega) (fun _ _ _ => rfl) (fun _ _ => rfl) (by rw [uIe, upe]; rfl) (eH 63 (by decide) (by decide) (by decide) (by decide) (by decide) (by decide) (by decide) (by decide) (by decide))
      refine sp_settled (by omega) ?_
      rw [if_neg (by omega), mS_p hw]
      refine ⟨rfl, ?_⟩
      have w : ∀ x, x ≠ 0 → x ≠ 7 → x ≠ 8 → x ≠ 9 → x ≠ 10 → x ≠ 11 → x ≠ 34 → x ≠ 38 → x ≠ 61 → x ≠ 63 → (uI (uI Y 61 8 0) 61 1 0) x = I x := fun x a b c d e f g i j l => by rw [uIn j, uIn j, y1 x j l, eH x a b c d e f g i j]
      have w0 : ∀ y, y ≠ 17 → y ≠ 18 → (uI (uI Y 61 8 0) 61 1 0) 0 y = I 0 y := fun y a b => by rw [uIn (by decide), uIn (by decide), y1 0 (by decide) (by decide), uIn (by decide), uIn (by decide), uIn (by decide), uIe, upn b, uIn (by decide), uIe, upn a, uIn (by decide), xx 0 (by decide) (by decide) (by decide) (by decide) (by decide)]
      have w017 : (uI (uI Y 61 8 0) 61 1 0) 0 17 = nI (rwM (I 39) z (I 63) ((z + 3) / 4)) := by rw [uIn (by decide), uIn (by decide), y1 0 (by decide) (by decide), uIn (by decide), uIn (by decide), uIn (by decide), uIe, upn (by decide), uIn (by decide), uIe, upe]
      have w018 : (uI (uI Y 61 8 0) 61 1 0) 0 18 = 0 := by rw [uIn (by decide), uIn (by decide), y1 0 (by decide) (by decide), uIn (by decide), uIn (by decide), uIn (by decide), uIe, upe]
      have w34 : (uI (uI Y 61 8 0) 61 1 0) 34 1 = 0 := by rw [uIn (by decide), uIn (by decide), y1 34 (by decide) (by decide), uIn (by decide), uIn (by decide), uIn (by decide), uIn (by decide), uIe, upe]
      have w38 : (uI (uI Y 61 8 0) 61 1 0) 38 1 = 0 := by rw [uIn (by decide), uIn (by decide), y1 38 (by decide) (by decide), uIn (by decide), uIn (by decide), uIn (by decide), uIn (by decide), uIn (by decide), uIn (by decide), uIe, upe]
      have w61 : ∀ y, y ≠ 0 → y ≠ 1 → y ≠ 8 → y ≠ 11 → y ≠ 13 → (uI (uI Y 61 8 0) 61 1 0) 61 y = I 61 y := fun y a b c d e => by rw [uIe, upn b, uIe, upn c, y2 y d, uIe, upn d, uIe, upn e, uIe, upn a, uIn (by decide), uIn (by decide), uIn (by decide), uIn (by decide), xx 61 (by decide) (by decide) (by decide) (by decide) (by decide)]
      have w6111 : (uI (uI Y 61 8 0) 61 1 0) 61 11 = nI (rwM (I 39) z (I 63) ((z + 3) / 4)) := by rw [uIe, upn (by decide), uIe, upn (by decide)]; exact y3
      have w6113 : (uI (uI Y 61 8 0) 61 1 0) 61 13 = 0 := by rw [uIe, upn (by decide), uIe, upn (by decide), y2 13 (by decide), uIe, upn (by decide), uIe, upe]
      have w611 : (uI (uI Y 61 8 0) 61 1 0) 61 1 = 0 := by rw [uIe, upe]
      have w618 : (uI (uI Y 61 8 0) 61 1 0) 61 8 = 0 := by rw [uIe, upn (by decide), uIe, upe]
      have w63 : (uI (uI Y 61 8 0) 61 1 0) 63 = rwR (I 39) z (I 63) ((z + 3) / 4) := by rw [uIn (by decide), uIn (by decide)]; exact y4
      have wX : ∀ x, x ≠ 0 → x ≠ 34 → x ≠ 38 → x ≠ 61 → x ≠ 63 → (uI (uI Y 61 8 0) 61 1 0) x = X x := fun x a g i j l => by rw [uIn j, uIn j, y1 x j l, uIn j, uIn j, uIn j, uIn a, uIn g, uIn a, uIn i]
      generalize (uI (uI Y 61 8 0) 61 1 0) = W at *
      have e89 : ∀ x, 89 ≤ x → W x = I x := fun x hx => w x (by omega) (by omega) (by omega) (by omega) (by omega) (by omega) (by omega) (by omega) (by omega) (by omega)
      refine ⟨h1, ?_, RH.nil w34 w618, ⟨0, by omega, by rw [w38]; rfl, by rw [w6113]; rfl, fun k hk => by omega⟩, h5.cg (w 64 (by decide) (by decide) (by decide) (by decide) (by decide) (by decide) (by decide) (by decide) (by decide) (by decide)) (w 65 (by decide) (by decide) (by decide) (by decide) (by decide) (by decide) (by decide) (by decide) (by decide) (by decide)) e89, ?_, h7.cg (w61 20 (by decide) (by decide) (by decide) (by decide) (by decide)) (w61 41 (by decide) (by decide) (by decide) (by decide) (by decide)) (fun y _ => by rw [w 49 (by decide) (by decide) (by decide) (by decide) (by decide) (by decide) (by decide) (by decide) (by decide) (by decide)]) (fun y _ => by rw [w 50 (by decide) (by decide) (by decide) (by decide) (by decide) (by decide) (by decide) (by decide) (by decide) (by decide)]) (KpJ.rf J)⟩
      · rw [w63]
        exact x2.cg (fun i hi => wX _ (by omega) (by omega) (by omega) (by omega) (by omega)) (fun x hx => wX x (by omega) (by omega) (by omega) (by omega) (by omega))
      · obtain ⟨⟨m1, m2, m3, m4⟩, m5, m6⟩ := h6
        refine ⟨⟨?_, ?_, ?_, ?_⟩, ?_, ?_⟩
        · rw [w 40 (by decide) (by decide) (by decide) (by decide) (by decide) (by decide) (by decide) (by decide) (by decide) (by decide), w61 18 (by decide) (by decide) (by decide) (by decide) (by decide)]; exact m1
        · rw [w0 16 (by decide) (by decide), w61 53 (by decide) (by decide) (by decide) (by decide) (by decide)]; exact m2
        · rw [w017, w6111]
        · rw [w018, w611]
        · rw [w 59 (by decide) (by decide) (by decide) (by decide) (by decide) (by decide) (by decide) (by decide) (by decide) (by decide), w 62 (by decide) (by decide) (by decide) (by decide) (by decide) (by decide) (by decide) (by decide) (by decide) (by decide)]; exact m5
        · rw [w0 13 (by decide) (by decide), w61 57 (by decide) (by decide) (by decide) (by decide) (by decide), w 60 (by decide) (by decide) (by decide) (by decide) (by decide) (by decide) (by decide) (by decide) (by decide) (by decide), w 88 (by decide) (by decide) (by decide) (by decide) (by decide) (by decide) (by decide) (by decide) (by decide) (by decide)]; exact m6
    · exfalso
      have : z = 0 := (qeq (b := 0) (by omega) (by omega)).mp q
      exact c (by rw [z38, this]; rfl)
  · have hz0 : z = 0 := by rw [z38] at c; exact (qeq (b := 0) (by omega) (by omega)).mp c
    subst hz0
    refine sp_settle h1.l59 (by decide) ?_
    show F12_row n S _ J (fun y I2 J2 => -6 = y ∧ Inv S I2 J2)
    have e13 : (uI (cS I (-6)) 61 0 0) 61 13 = nI 0 := by rw [uIe, upn (by decide), cS_o (by decide) (by decide)]; exact z61
    unfold F12_row
    rw [e13]
    refine ⟨fun q => absurd rfl q, fun _ => ?_⟩
    have e2 : uI (uI (cS I (-6)) 61 0 0) 61 13 0 = uI (cS I (-6)) 61 0 0 := by
      funext x y
      by_cases g : x = 61
      · subst g
        rw [uIe]
        by_cases g2 : y = 13
        · subst g2; rw [upe, e13]; rfl
        · rw [upn g2]
      · rw [uIn g]
    rw [e2]
    exact h.no (by decide)
end RWM
