/-! the simple calls, II: bars, terms, force, end, forget, sight, clear, bend -/
theorem inwi {v lo' hi' : Int32} {lo hi : Int64} (h1 : lo.toInt = lo'.toInt) (h2 : hi.toInt = hi'.toInt) : V12_in v.toInt64 lo hi = V11_within v lo' hi' := by
  by_cases c : lo'.toInt ≤ v.toInt ∧ v.toInt ≤ hi'.toInt
  · rw [(Z12_in v.toInt64 lo hi).resolve_left (mi1.mpr (by rw [Int32.toInt_toInt64, h1, h2]; exact c)), (Z11_within v lo' hi').resolve_left (wi1.mpr c)]
  · rw [mi0.mpr (by rw [Int32.toInt_toInt64, h1, h2]; exact c), wi0.mpr c]
theorem stv_n {v : Int32} (h : 0 ≤ v.toInt) : stv v = 0 := by unfold stv; rw [if_neg (by omega)]
theorem rfv_n {v : Int32} {f : Nat → Int32} (h : 0 ≤ v.toInt) : rfv f v = f := by unfold rfv; rw [if_neg (by omega)]
/-- a call that ends by v, its State anew, what can be undone as it was -/
theorem Inv.mk2 {S : tSH} {I X : tHI} {J : tHJ} (h : Inv S I J) (e : ∀ x, x ∈ [34, 35, 38, 39, 40, 49, 50, 60, 64, 65, 66, 67, 70, 88] → X x = I x) (e89 : ∀ x, 89 ≤ x → X x = I x) {v : Int32} (e0 : X 0 = up (I 0) 18 (stv v)) (e59 : X 59 = rfv (I 59) v) (e62 : X 62 = rfv (I 62) v) (e61 : ∀ y, y ∈ [8, 11, 13, 18, 20, 41, 53, 57] → X 61 y = I 61 y) (e1 : X 61 1 = stv v) (hR : RSt S X 1 (X 63)) (r0 : X 63 0 = I 63 0) (r1 : X 63 1 = I 63 1) (r2 : ∀ k, 9 ≤ k → k < 26 → X 63 k = I 63 k) (r3 : ∀ k, 32 ≤ k → k < 38 → X 63 k = I 63 k) : Inv S X J := by
  obtain ⟨h1, h2, h3, h4, h5, h6, h7⟩ := h
  refine ⟨h1, hR, ?_, ?_, h5.cg (e 64 (by decide)) (e 65 (by decide)) e89, ?_, h7.cg (e61 20 (by decide)) (e61 41 (by decide)) (fun y _ => by rw [e 49 (by decide)]) (fun y _ => by rw [e 50 (by decide)]) (KpJ.rf J)⟩
  · rw [e 34 (by decide), e 35 (by decide), e 66 (by decide), e 67 (by decide)]
    exact h3.r (e61 8 (by decide)) r0 r1 r2 r3
  · rw [e 38 (by decide), e 39 (by decide), e 70 (by decide)]
    exact h4.f (e61 13 (by decide))
  · have g := RM.st (v := v) h6
    show RM _ _ _ _ _ _ _
    rw [e0, e 40 (by decide), e59, e 60 (by decide), e62, e 88 (by decide)]
    refine g.cg (fun _ _ => rfl) rfl (fun y hy => ?_)
    by_cases c : y = 1
    · subst c; rw [upe, e1]
    · rw [upn c]
      have : y = 1 ∨ y = 11 ∨ y = 18 ∨ y = 53 ∨ y = 57 := by simpa using hy
      rcases this with q | q | q | q | q
      · exact absurd q c
      · subst q; exact e61 11 (by decide)
      · subst q; exact e61 18 (by decide)
      · subst q; exact e61 53 (by decide)
      · subst q; exact e61 57 (by decide)
/-- a call that ends by v, its State anew, nothing left to undo -/
theorem Inv.mk3 {S : tSH} {I X : tHI} {J : tHJ} (h : Inv S I J) (e : ∀ x, x ∈ [38, 39, 40, 49, 50, 60, 64, 65, 70, 88] → X x = I x) (e89 : ∀ x, 89 ≤ x → X x = I x) {v : Int32} (e0 : X 0 = up (I 0) 18 (stv v)) (e59 : X 59 = rfv (I 59) v) (e62 : X 62 = rfv (I 62) v) (e61 : ∀ y, y ∈ [11, 13, 18, 20, 41, 53, 57] → X 61 y = I 61 y) (e1 : X 61 1 = stv v) (hR : RSt S X 1 (X 63)) (e34 : X 34 1 = 0) (e8 : X 61 8 = 0) : Inv S X J := by
  obtain ⟨h1, h2, h3, h4, h5, h6, h7⟩ := h
  refine ⟨h1, hR, RH.nil e34 e8, ?_, h5.cg (e 64 (by decide)) (e 65 (by decide)) e89, ?_, h7.cg (e61 20 (by decide)) (e61 41 (by decide)) (fun y _ => by rw [e 49 (by decide)]) (fun y _ => by rw [e 50 (by decide)]) (KpJ.rf J)⟩
  · rw [e 38 (by decide), e 39 (by decide), e 70 (by decide)]
    exact h4.f (e61 13 (by decide))
  · have g := RM.st (v := v) h6
    show RM _ _ _ _ _ _ _
    rw [e0, e 40 (by decide), e59, e 60 (by decide), e62, e 88 (by decide)]
    refine g.cg (fun _ _ => rfl) rfl (fun y hy => ?_)
    by_cases c : y = 1
    · subst c; rw [upe, e1]
    · rw [upn c]
      have : y = 1 ∨ y = 11 ∨ y = 18 ∨ y = 53 ∨ y = 57 := by simpa using hy
      rcases this with q | q | q | q | q
      · exact absurd q c
      · subst q; exact e61 11 (by decide)
      · subst q; exact e61 18 (by decide)
      · subst q; exact e61 53 (by decide)
      · subst q; exact e61 57 (by decide)
/-- both refuse -/
theorem Inv.no {n : Nat} {S : tSH} {I : tHI} {J : tHJ} (h : Inv S I J) {v : Int32} (hv : -7 < v.toInt) : F12_tell n S (uI (cS I v) 61 0 0) J v (fun y I2 J2 => v = y ∧ Inv S I2 J2) := sp_tell hv ⟨rfl, h.rf v⟩
theorem tSt0 (x : Nat) : (OfNat.ofNat x : Int32) = nI x := rfl
section UT
variable {n : Nat} {S : tSH} {I : tHI} {J : tHJ}
/-- the end of a change of one number of the row -/
theorem Inv.chg (h : Inv S I J) {t k : Nat} {v w : Int32} (hw : 0 ≤ w.toInt) (hk : 5 ≤ k ∧ k < 9) (hT : RT (up (I 15) t v) (up (I 63) k v)) (hK : KR (up (I 63) k v)) : Inv S (uI (uI (uI (cS (uI I 15 t v) w) 61 0 0) 63 k v) 61 1 0) J := by
  have e : ∀ x, x ≠ 0 → x ≠ 15 → x ≠ 59 → x ≠ 61 → x ≠ 63 → (uI (uI (uI (cS (uI I 15 t v) w) 61 0 0) 63 k v) 61 1 0) x = I x := fun x a b c d f => by rw [uIn d, uIn f, uIn d, cS_o a c, uIn b]
  have e15 : (uI (uI (uI (cS (uI I 15 t v) w) 61 0 0) 63 k v) 61 1 0) 15 = up (I 15) t v := by rw [uIn (by decide), uIn (by decide), uIn (by decide), cS_o (by decide) (by decide), uIe]
  have e63 : (uI (uI (uI (cS (uI I 15 t v) w) 61 0 0) 63 k v) 61 1 0) 63 = up (I 63) k v := by rw [uIn (by decide), uIe, uIn (by decide), cS_o (by decide) (by decide), uIn (by decide)]
  have e61 : (uI (uI (uI (cS (uI I 15 t v) w) 61 0 0) 63 k v) 61 1 0) 61 = up (up (I 61) 0 0) 1 0 := by rw [uIe, uIn (by decide), uIe, cS_o (by decide) (by decide), uIn (by decide)]
  have e0 : (uI (uI (uI (cS (uI I 15 t v) w) 61 0 0) 63 k v) 61 1 0) 0 = up (I 0) 18 (stv w) := by rw [uIn (by decide), uIn (by decide), uIn (by decide), cS_0, uIn (by decide)]
  have e59 : (uI (uI (uI (cS (uI I 15 t v) w) 61 0 0) 63 k v) 61 1 0) 59 = rfv (I 59) w := by rw [uIn (by decide), uIn (by decide), uIn (by decide), cS_59, uIn (by decide)]
  generalize (uI (uI (uI (cS (uI I 15 t v) w) 61 0 0) 63 k v) 61 1 0) = X at *
  have hr : ∀ j, j < 5 ∨ 9 ≤ j → X 63 j = I 63 j := fun j hj => by rw [e63]; exact upn (by omega)
  refine h.mk2 (fun x hx => e x ?_ ?_ ?_ ?_ ?_) (fun x hx => e x (by omega) (by omega) (by omega) (by omega) (by omega)) e0 e59 (by rw [rfv_n hw]; exact e 62 (by decide) (by decide) (by decide) (by decide) (by decide)) (fun y hy => ?_) (by rw [e61, upe, stv_n hw]) (h.2.1.upT (fun x hx hx1 => e x (by omega) (by omega) (by omega) (by omega) (by omega)) (fun x hx => e x (by omega) (by omega) (by omega) (by omega) (by omega)) (fun j hj => hr j (by omega)) (by rw [e15, e63]; exact hT) (by rw [e63]; exact hK) ?_) (hr 0 (by omega)) (hr 1 (by omega)) (fun j hj _ => hr j (by omega)) (fun j hj _ => hr j (by omega))
  · intro q; subst q; revert hx; decide
  · intro q; subst q; revert hx; decide
  · intro q; subst q; revert hx; decide
  · intro q; subst q; revert hx; decide
  · intro q; subst q; revert hx; decide
  · rw [e61, upn (fun q => by subst q; revert hy; decide), upn (fun q => by subst q; revert hy; decide)]
  · exact h.2.1.2.2.2.2.2.1.2.2.1.r (hr 1 (by omega)) (fun j hj _ => hr j (by omega)) (fun j hj => hr (9 + j) (by omega))
theorem KR.upd {r : Nat → Int32} (h : KR r) {k : Nat} {v : Int32} (hk : 5 ≤ k ∧ k < 9) (h5 : k = 5 ∨ k = 6 → ∃ g, v = nI g ∧ 1 ≤ g ∧ g ≤ 60) (h7 : k = 7 → ∃ g, v = nI g ∧ g ≤ 9) (h8 : k = 8 → -9 ≤ v.toInt ∧ v.toInt ≤ 9) : KR (up r k v) := by
  obtain ⟨a0, a1, a2, a3, a4, a5, a6, a7, a8⟩ := h
  have g : ∀ j, j < 5 → up r k v j = r j := fun j hj => upn (by omega)
  refine ⟨by rw [g 0 (by omega)]; exact a0, by rw [g 1 (by omega)]; exact a1, by rw [g 2 (by omega)]; exact a2, by rw [g 3 (by omega)]; exact a3, by rw [g 4 (by omega), g 3 (by omega)]; exact a4, ?_, ?_, ?_, ?_⟩
  · by_cases c : k = 5
    · subst c; rw [upe]; exact h5 (Or.inl rfl)
    · rw [upn (Ne.symm c)]; exact a5
  · by_cases c : k = 6
    · subst c; rw [upe]; exact h5 (Or.inr rfl)
    · rw [upn (Ne.symm c)]; exact a6
  · by_cases c : k = 7
    · subst c; rw [upe]; exact h7 rfl
    · rw [upn (Ne.symm c)]; exact a7
  · by_cases c : k = 8
    · subst c; rw [upe]; exact h8 rfl
    · rw [upn (Ne.symm c)]; exact a8
theorem st_bars : tSt_bars n Inv := by
  intro S I J v1 h
  have hT : RT (I 15) (I 63) := h.2.1.2.2.2.2.1
  have hK : KR (I 63) := h.2.1.2.2.2.2.2.1.1
  have l9 : (-9 : Int32).toInt = -9 := by decide
  have l9' : (9 : Int32).toInt = 9 := by decide
  unfold F11_bars
  refine ⟨fun c => ?_, fun c => ?_⟩
  · have cc : V12_in v1.toInt64 (-9) 9 ≠ 0 := by
      rw [wi1] at c
      exact mi1.mpr (by rw [Int32.toInt_toInt64]; exact c)
    rw [wi1, l9, l9'] at c
    have hb := hK.2.2.2.2.2.2.2.2
    rw [← hT.1] at hb
    have hs : (I 15 0 + 9).toInt = (I 15 0).toInt + 9 := by
      have e := ti_add (a := I 15 0) (b := 9) (by omega) (by omega)
      rw [l9'] at e; exact e
    refine sp_settle h.1.l59 (by omega) ?_
    show F12_bars n S _ J v1 (fun y I2 J2 => I 15 0 + 9 = y ∧ Inv S I2 J2)
    unfold F12_bars F12_bars_37 F12_change
    refine ⟨fun q => absurd q cc, fun _ => ⟨(qin (a := 8) (by omega)).mpr (by omega), (qin (a := 8) (by omega)).mpr (by omega), ?_, ?_⟩⟩
    · show I 15 0 + 9 = (uI (cS (uI I 15 0 v1) (I 15 0 + 9)) 61 0 0) 63 8 + 9
      rw [uIn (by decide), cS_o (by decide) (by decide), uIn (by decide), ← hT.1]
    · refine h.chg (t := 0) (k := 8) (by omega) (by omega) ?_ (hK.upd (by omega) (fun q => by omega) (fun q => by omega) (fun _ => c))
      obtain ⟨t0, t1, t2, t3, t4, t5, t6, t7, t8⟩ := hT
      exact ⟨by rw [upe, upe], by rw [upn (by decide), upn (by decide)]; exact t1, by rw [upn (by decide), upn (by decide)]; exact t2, by rw [upn (by decide), upn (by decide)]; exact t3, by rw [upn (by decide), upn (by decide)]; exact t4, by rw [upn (by decide), upn (by decide)]; exact t5, by rw [upn (by decide), upn (by decide)]; exact t6, by rw [upn (by decide), upn (by decide)]; exact t7, by rw [upn (by decide), upn (by decide)]; exact t8⟩
  · have cc : V12_in v1.toInt64 (-9) 9 = 0 := by
      rw [wi0] at c
      exact mi0.mpr (by rw [Int32.toInt_toInt64]; exact c)
    refine sp_settle h.1.l59 (by decide) ?_
    show F12_bars n S _ J v1 (fun y I2 J2 => -1 = y ∧ Inv S I2 J2)
    unfold F12_bars F12_bars_37
    exact ⟨fun _ => h.no (by decide), fun q => absurd cc q⟩
theorem st_terms : tSt_terms n Inv := by
  intro S I J v1 v2 h
  have hT : RT (I 15) (I 63) := h.2.1.2.2.2.2.1
  have hK : KR (I 63) := h.2.1.2.2.2.2.2.1.1
  have lit : ∀ m : Nat, m < 100 → (nI m).toInt = m := fun m hm => qi (by omega)
  have b160 : ¬ V11_within v2 1 60 = 0 → ∃ g, v2 = nI g ∧ 1 ≤ g ∧ g ≤ 60 := fun q => by
    rw [wi1] at q
    have q1 : 1 ≤ v2.toInt ∧ v2.toInt ≤ 60 := q
    exact ⟨_, qof (by omega), by rw [qtn]; omega, by rw [qtn]; omega⟩
  have b09 : ¬ V11_within v2 0 9 = 0 → ∃ g, v2 = nI g ∧ g ≤ 9 := fun q => by
    rw [wi1] at q
    have q1 : 0 ≤ v2.toInt ∧ v2.toInt ≤ 9 := q
    exact ⟨_, qof (by omega), by rw [qtn]; omega⟩
  have m160 : V12_in v2.toInt64 1 60 = V11_within v2 1 60 := inwi (by decide) (by decide)
  have m09 : V12_in v2.toInt64 0 9 = V11_within v2 0 9 := inwi (by decide) (by decide)
  have no : (if v1 = 0 then V12_in v2.toInt64 1 60 else if v1 = 1 then V12_in v2.toInt64 1 60 else if v1 = 2 then (if V12_in v2.toInt64 0 9 = 0 then (0 : Int32) else 1) else 0) = 0 → F11_settle n S I J (-1) (fun x I1 J1 => F12_terms n S I1 J1 v1 v2 (fun y I2 J2 => x = y ∧ Inv S I2 J2)) := fun q => by
    refine sp_settle h.1.l59 (by decide) ?_
    show F12_terms n S _ J v1 v2 (fun y I2 J2 => -1 = y ∧ Inv S I2 J2)
    unfold F12_terms F12_terms_69
    exact ⟨fun _ => h.no (by decide), fun g => absurd q g⟩
  have yes : ∀ (a : Nat), a ≤ 2 → v1 = nI a → (a ≤ 1 → ∃ g, v2 = nI g ∧ 1 ≤ g ∧ g ≤ 60) → (a = 2 → ∃ g, v2 = nI g ∧ g ≤ 9) → ¬ (if v1 = 0 then V12_in v2.toInt64 1 60 else if v1 = 1 then V12_in v2.toInt64 1 60 else if v1 = 2 then (if V12_in v2.toInt64 0 9 = 0 then (0 : Int32) else 1) else 0) = 0 → F11_settle n S (uI I 15 (6 + a) v2) J (I 15 (6 + a)) (fun x I1 J1 => F12_terms n S I1 J1 v1 v2 (fun y I2 J2 => x = y ∧ Inv S I2 J2)) := by
    intro a ha e1 g1 g2 q
    have e15 : I 15 (6 + a) = I 63 (5 + a) := by
      have : a = 0 ∨ a = 1 ∨ a = 2 := by omega
      rcases this with rfl | rfl | rfl
      · exact hT.2.2.2.2.2.2.1
      · exact hT.2.2.2.2.2.2.2.1
      · exact hT.2.2.2.2.2.2.2.2
    have hpos : 0 ≤ (I 15 (6 + a)).toInt := by
      rw [e15]
      have : a = 0 ∨ a = 1 ∨ a = 2 := by omega
      rcases this with rfl | rfl | rfl
      · obtain ⟨g, q1, q2, q3⟩ := hK.2.2.2.2.2.1; rw [q1, qi (by omega)]; omega
      · obtain ⟨g, q1, q2, q3⟩ := hK.2.2.2.2.2.2.1; rw [q1, qi (by omega)]; omega
      · obtain ⟨g, q1, q2⟩ := hK.2.2.2.2.2.2.2.1; rw [q1, qi (by omega)]; omega
    refine sp_settle h.1.l59 (by omega) ?_
    show F12_terms n S _ J v1 v2 (fun y I2 J2 => I 15 (6 + a) = y ∧ Inv S I2 J2)
    unfold F12_terms F12_terms_69 F12_change
    have ek : 5 + v1 = nI (5 + a) := by rw [e1, ql 5, nI_add]
    refine ⟨fun g => absurd g q, fun _ => ?_⟩
    rw [ek, qn (by omega)]
    refine ⟨(qin (by omega)).mpr (by omega), (qin (by omega)).mpr (by omega), ?_, ?_⟩
    · rw [uIn (by decide), cS_o (by decide) (by decide), uIn (by decide)]; exact e15
    · refine h.chg (t := 6 + a) (k := 5 + a) hpos (by omega) ?_ (hK.upd (by omega) (fun q => g1 (by omega)) (fun q => g2 (by omega)) (fun q => by omega))
      obtain ⟨t0, t1, t2, t3, t4, t5, t6, t7, t8⟩ := hT
      have : a = 0 ∨ a = 1 ∨ a = 2 := by omega
      rcases this with rfl | rfl | rfl
      · exact ⟨by rw [upn (by decide), upn (by decide)]; exact t0, by rw [upn (by decide), upn (by decide)]; exact t1, by rw [upn (by decide), upn (by decide)]; exact t2, by rw [upn (by decide), upn (by decide)]; exact t3, by rw [upn (by decide), upn (by decide)]; exact t4, by rw [upn (by decide), upn (by decide)]; exact t5, by rw [upe, upe], by rw [upn (by decide), upn (by decide)]; exact t7, by rw [upn (by decide), upn (by decide)]; exact t8⟩
      · exact ⟨by rw [upn (by decide), upn (by decide)]; exact t0, by rw [upn (by decide), upn (by decide)]; exact t1, by rw [upn (by decide), upn (by decide)]; exact t2, by rw [upn (by decide), upn (by decide)]; exact t3, by rw [upn (by decide), upn (by decide)]; exact t4, by rw [upn (by decide), upn (by decide)]; exact t5, by rw [upn (by decide), upn (by decide)]; exact t6, by rw [upe, upe], by rw [upn (by decide), upn (by decide)]; exact t8⟩
      · exact ⟨by rw [upn (by decide), upn (by decide)]; exact t0, by rw [upn (by decide), upn (by decide)]; exact t1, by rw [upn (by decide), upn (by decide)]; exact t2, by rw [upn (by decide), upn (by decide)]; exact t3, by rw [upn (by decide), upn (by decide)]; exact t4, by rw [upn (by decide), upn (by decide)]; exact t5, by rw [upn (by decide), upn (by decide)]; exact t6, by rw [upn (by decide), upn (by decide)]; exact t7, by rw [upe, upe]⟩
  unfold F11_terms F10_setTerm F10_setTerm_30 V10_term
  refine ⟨fun c => ?_, fun c => no ?_⟩
  · refine ⟨fun c0 => ⟨fun c1 => ?_, fun c1 => ?_⟩, fun c0 => ?_⟩
    · have c2 : v1 = 2 := by
        by_cases g : v1 = 2
        · exact g
        · rw [if_neg g] at c
          exfalso
          have w0 : V11_within v1 0 1 = 0 := by
            rw [wi0]
            intro q
            have q1 : 0 ≤ v1.toInt ∧ v1.toInt ≤ 1 := q
            have : v1.toInt = 0 ∨ v1.toInt = 1 := by omega
            rcases this with e | e
            · exact c0 (Int32.toInt_inj.mp e)
            · exact c1 (Int32.toInt_inj.mp e)
          rw [if_pos w0] at c
          exact c rfl
      rw [if_neg c0, if_neg c1]
      rw [if_pos c2] at c
      refine yes 2 (by omega) c2 (fun q => by omega) (fun _ => b09 c) ?_
      rw [if_neg c0, if_neg c1, if_pos c2, m09, if_neg c]
      decide
    · rw [if_neg c0, if_pos c1]
      have c : ¬ V11_within v2 1 60 = 0 := by
        subst c1
        rw [if_neg (by decide), if_neg (by decide)] at c
        intro q
        rw [if_pos q] at c
        exact c rfl
      refine yes 1 (by omega) c1 (fun _ => b160 c) (fun q => by omega) ?_
      rw [if_neg c0, if_pos c1, m160]
      exact c
    · rw [if_pos c0]
      have c : ¬ V11_within v2 1 60 = 0 := by
        subst c0
        rw [if_neg (by decide), if_neg (by decide)] at c
        intro q
        rw [if_pos q] at c
        exact c rfl
      refine yes 0 (by omega) c0 (fun _ => b160 c) (fun q => by omega) ?_
      rw [if_pos c0, m160]
      exact c
  · by_cases c0 : v1 = 0
    · subst c0
      rw [if_neg (by decide), if_neg (by decide)] at c
      rw [if_pos rfl, m160]
      rcases Z11_within v2 1 60 with b | b
      · exact b
      · rw [b, if_neg (by decide)] at c
        exact absurd c (by decide)
    · by_cases c1 : v1 = 1
      · subst c1
        rw [if_neg (by decide), if_neg (by decide)] at c
        rw [if_neg (by decide), if_pos rfl, m160]
        rcases Z11_within v2 1 60 with b | b
        · exact b
        · rw [b, if_neg (by decide)] at c
          exact absurd c (by decide)
      · rw [if_neg c0, if_neg c1]
        by_cases c2 : v1 = 2
        · rw [if_pos c2] at c
          rw [if_pos c2, m09, if_pos c]
        · rw [if_neg c2]
end UT
