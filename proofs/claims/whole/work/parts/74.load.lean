/-! what changes the State, IV: load -/
/-- both refuse, after the model looked into its law -/
theorem Inv.noM {S : tSH} {I : tHI} {J : tHJ} (h : Inv S I J) {v : Int32} (hv : v.toInt < 0) {X : tHI} {J' : tHJ} (z : MK (uI (cS I v) 61 0 0) X) (z2 : MJ J J') : Inv S (mS X v) J' := by
  have h' : Inv S I J' := h.keep (KpI.rf _) (KpJ.m z2)
  have c : ∀ x, x ≠ 0 → x ≠ 59 → x ≠ 61 → x ≠ 62 → (mS X v) x = I x := fun x a b c d => by rw [mS_o c d, z.1 x c, uIn c, cS_o a b]
  have c61 : ∀ y, y ∉ [0, 1, 34, 38, 42, 43, 44] → (mS X v) 61 y = I 61 y := fun y hy => by
    rw [mS_61, upn (fun q => by subst q; revert hy; decide), z.2 y (fun q => hy (by
      have : y = 34 ∨ y = 38 ∨ y = 42 ∨ y = 43 ∨ y = 44 := by simpa using q
      rcases this with g | g | g | g | g <;> subst g <;> decide)), uIe, upn (fun q => by subst q; revert hy; decide), cS_o (by decide) (by decide)]
  have hM : RMs (mS X v) := h.2.2.2.2.2.1.st (v := v) (fun x hx => c x (fun q => by subst q; revert hx; decide) (fun q => by subst q; revert hx; decide) (fun q => by subst q; revert hx; decide) (fun q => by subst q; revert hx; decide)) (by rw [mS_o (by decide) (by decide), z.1 0 (by decide), uIn (by decide), cS_0]) (by rw [mS_o (by decide) (by decide), z.1 59 (by decide), uIn (by decide), cS_59]) (by rw [mS_62, z.1 62 (by decide), uIn (by decide), cS_o (by decide) (by decide)]) (fun y hy => c61 y (fun q => by
    have : y = 11 ∨ y = 18 ∨ y = 53 ∨ y = 57 := by simpa using hy
    rcases this with g | g | g | g <;> subst g <;> revert q <;> decide)) (by rw [mS_61, upe])
  have e63 : (mS X v) 63 = I 63 := c 63 (by decide) (by decide) (by decide) (by decide)
  refine h'.mkG (fun x hx => c x (fun q => by subst q; revert hx; decide) (fun q => by subst q; revert hx; decide) (fun q => by subst q; revert hx; decide) (fun q => by subst q; revert hx; decide)) (fun x hx => c x (by omega) (by omega) (by omega) (by omega)) (fun y hy => c61 y (fun q => by
    have : y = 13 ∨ y = 20 ∨ y = 41 := by simpa using hy
    rcases this with g | g | g <;> subst g <;> revert q <;> decide)) hM ?_ ?_
  · rw [e63]
    exact h.2.1.cg (fun i hi => c _ (by omega) (by omega) (by omega) (by omega)) (fun x hx => c x (by omega) (by omega) (by omega) (by omega))
  · rw [e63, c 34 (by decide) (by decide) (by decide) (by decide), c 35 (by decide) (by decide) (by decide) (by decide), c 66 (by decide) (by decide) (by decide) (by decide), c 67 (by decide) (by decide) (by decide) (by decide)]
    exact h.2.2.1.r (c61 8 (by decide)) rfl rfl (fun _ _ _ => rfl) (fun _ _ _ => rfl)
section VA
variable {n : Nat} {S : tSH} {I : tHI} {J : tHJ}
theorem st_load (hn : 400 < n) : tSt_load n Inv := by
  intro S I J v1 v2 v3 h
  obtain ⟨N, B, n1, n2, b1, b2, c63, hM⟩ := h.mq
  have m1 : V12_in v1.toInt64 0 200 = V11_within v1 0 200 := inwi (by decide) (by decide)
  have m2 : V12_in v2.toInt64 0 3 = V11_within v2 0 3 := inwi (by decide) (by decide)
  have m3 : V12_in v3.toInt64 0 1 = V11_within v3 0 1 := inwi (by decide) (by decide)
  unfold F11_load F11_load_29
  refine ⟨fun c1 => ?_, fun c1 => ⟨fun c2 => ?_, fun c2 => ⟨fun c3 => ?_, fun c3 => ?_⟩⟩⟩
  · refine sp_settle h.1.l59 (by decide) ?_
    show F12_load n S _ J v1 v2 v3 (fun y I2 J2 => -1 = y ∧ Inv S I2 J2)
    unfold F12_load F12_load_39
    exact ⟨fun _ => h.no (by decide), fun q => absurd (m1.trans c1) q⟩
  · refine sp_settle h.1.l59 (by decide) ?_
    show F12_load n S _ J v1 v2 v3 (fun y I2 J2 => -1 = y ∧ Inv S I2 J2)
    unfold F12_load F12_load_39
    exact ⟨fun q => absurd (m1.symm.trans q) c1, fun _ => ⟨fun _ => h.no (by decide), fun q => absurd (m2.trans c2) q⟩⟩
  · refine sp_asIt (r := I 63) (by omega) h.2.1 n1 n2 h.2.2.2.2.2.2.2.1 (fun X x1 x2 hQ => ?_)
    refine sp_barred h.1 hn hQ.1 (fun y hy => by rw [x1 50 (by decide)]; exact h.2.2.2.2.2.2.2.2.1 y hy) (fun X2 J2 y1 y1b y2 _ => ?_)
    have hK2 : KpI X X2 := ⟨fun x hx => y1 x (by omega), fun x hx => y1 x (fun q => by subst q; revert hx; decide), fun y _ => by rw [y1 0 (by decide)], fun y _ => by rw [y1 61 (by decide)], by rw [y1 40 (by decide)], fun y _ => by rw [y1 49 (by decide)], y1b, fun y _ => by rw [y1 66 (by decide)]⟩
    have hI2 : Inv S X2 J2 := h.keep ((KpI.c x1 x2).trans hK2) (KpJ.c y2)
    have e63 : X2 63 = I 63 := by rw [y1 63 (by decide), x1 63 (by decide)]
    have n1' : X2 63 0 = nI N := by rw [e63]; exact n1
    have e20 : X2 2 0 = nI N := by rw [← n1']; exact hI2.2.1.1.2.2.1
    have eL : ∀ Y : tHI, Y 1 = X 1 → (∀ x, 89 ≤ x → Y x = X x) → lawB S X (wl (wLd (X 49) v1 v2 v3)) = lawB S Y (wl (wLd (WM 63 (I 63) N) v1 v2 v3)) := by
      intro Y g1 g2
      rw [lawB_I (I := X) (I' := Y) hQ.FO g1 g2]
      refine lawB_w (wl_cg (fun a ha => ?_))
      unfold wLd
      by_cases a6 : a < 6
      · rw [if_pos a6, if_pos a6]
      · rw [if_neg a6, if_neg a6, hQ.2.1 a (by omega) ha]
    -- the model, from where the class left it
    have ask : ∀ (Y : tHI) (J1 : tHJ) {k : Int32 → tHI → tHJ → Prop}, Y 61 20 = 0 → Y 63 = I 63 → Y 1 = X2 1 → (∀ x, 89 ≤ x → Y x = X2 x) → (∀ (X3 : tHI) (J3 : tHJ), MK Y X3 → MJ J1 J3 → k (if lawB S X (wl (wLd (X 49) v1 v2 v3)) = true then 1 else 0) X3 J3) → F12_isBannedBy n S Y J1 v1 v3 v2 k := by
      intro Y J1 k g20 g63 g1 g89 hk
      have hF : FO S Y (Y 63) := by
        rw [g63, ← e63]
        exact (FO.of hI2.2.1).cg g1 g89 rfl (fun _ _ => rfl)
      refine sp_ban hn g20 hF (W := WM 63 (I 63) N) (by rw [g63]; rfl) (by rw [g63]; rfl) (by rw [g63]; rfl) (fun X3 J3 z1 z2 => ?_)
      rw [← eL Y (by rw [g1, y1 1 (by decide)]) (fun x hx => by rw [g89 x hx, y1 x (by omega)])]
      exact hk X3 J3 z1 z2
    generalize lawB S X (wl (wLd (X 49) v1 v2 v3)) = Z at *
    have c1' : ¬ V12_in v1.toInt64 0 200 = 0 := fun q => c1 (m1.symm.trans q)
    have c2' : ¬ V12_in v2.toInt64 0 3 = 0 := fun q => c2 (m2.symm.trans q)
    have c3' : ¬ V12_in v3.toInt64 0 1 = 0 := fun q => c3 (m3.symm.trans q)
    refine ⟨fun hz => ⟨fun g => ?_, fun g => ?_⟩, fun hz => ?_⟩
    · have g : N < 6 := by rw [e20] at g; exact (qlt (b := 6) (by omega) (by omega)).mp g
      refine sp_addL (s := N) (by rw [uIn (by decide)]; exact e20) g ?_
      have hs1 : 0 ≤ (nI N).toInt := by rw [qi (by omega)]; omega
      refine sp_settle h.1.l59 (by omega) ?_
      rw [cS_p hs1]
      show F12_load n S _ J2 v1 v2 v3 (fun y I2 J2 => nI N = y ∧ Inv S I2 J2)
      unfold F12_load F12_load_39
      refine ⟨fun q => absurd q c1', fun _ => ⟨fun q => absurd q c2', fun _ => ⟨fun _ => ?_, fun q => absurd q c3'⟩⟩⟩
      have eY : ∀ x, x ≠ 0 → x ≠ 2 → x ≠ 3 → x ≠ 4 → x ≠ 5 → x ≠ 6 → x ≠ 34 → x ≠ 61 → (uI (uI (uI (uI (uI (uI (uI (uI X2 34 1 0) 3 N v1) 4 N v2) 5 N v3) 6 N 0) 2 0 (nI (N + 1))) 0 18 0) 61 0 0) x = X2 x := fun x c0 c2 c3 c4 c5 c6 c34 c61 => by rw [uIn c61, uIn c0, uIn c2, uIn c6, uIn c5, uIn c4, uIn c3, uIn c34]
      have eY0 : (uI (uI (uI (uI (uI (uI (uI (uI X2 34 1 0) 3 N v1) 4 N v2) 5 N v3) 6 N 0) 2 0 (nI (N + 1))) 0 18 0) 61 0 0) 0 = (up (X2 0) 18 0) := by rw [uIn (by decide), uIe, uIn (by decide), uIn (by decide), uIn (by decide), uIn (by decide), uIn (by decide), uIn (by decide)]
      have eY2 : (uI (uI (uI (uI (uI (uI (uI (uI X2 34 1 0) 3 N v1) 4 N v2) 5 N v3) 6 N 0) 2 0 (nI (N + 1))) 0 18 0) 61 0 0) 2 = (up (X2 2) 0 (nI (N + 1))) := by rw [uIn (by decide), uIn (by decide), uIe, uIn (by decide), uIn (by decide), uIn (by decide), uIn (by decide), uIn (by decide)]
      have eY3 : (uI (uI (uI (uI (uI (uI (uI (uI X2 34 1 0) 3 N v1) 4 N v2) 5 N v3) 6 N 0) 2 0 (nI (N + 1))) 0 18 0) 61 0 0) 3 = (up (X2 3) N v1) := by rw [uIn (by decide), uIn (by decide), uIn (by decide), uIn (by decide), uIn (by decide), uIn (by decide), uIe, uIn (by decide)]
      have eY4 : (uI (uI (uI (uI (uI (uI (uI (uI X2 34 1 0) 3 N v1) 4 N v2) 5 N v3) 6 N 0) 2 0 (nI (N + 1))) 0 18 0) 61 0 0) 4 = (up (X2 4) N v2) := by rw [uIn (by decide), uIn (by decide), uIn (by decide), uIn (by decide), uIn (by decide), uIe, uIn (by decide), uIn (by decide)]
      have eY5 : (uI (uI (uI (uI (uI (uI (uI (uI X2 34 1 0) 3 N v1) 4 N v2) 5 N v3) 6 N 0) 2 0 (nI (N + 1))) 0 18 0) 61 0 0) 5 = (up (X2 5) N v3) := by rw [uIn (by decide), uIn (by decide), uIn (by decide), uIn (by decide), uIe, uIn (by decide), uIn (by decide), uIn (by decide)]
      have eY6 : (uI (uI (uI (uI (uI (uI (uI (uI X2 34 1 0) 3 N v1) 4 N v2) 5 N v3) 6 N 0) 2 0 (nI (N + 1))) 0 18 0) 61 0 0) 6 = (up (X2 6) N 0) := by rw [uIn (by decide), uIn (by decide), uIn (by decide), uIe, uIn (by decide), uIn (by decide), uIn (by decide), uIn (by decide)]
      have eY34 : (uI (uI (uI (uI (uI (uI (uI (uI X2 34 1 0) 3 N v1) 4 N v2) 5 N v3) 6 N 0) 2 0 (nI (N + 1))) 0 18 0) 61 0 0) 34 = (up (X2 34) 1 0) := by rw [uIn (by decide), uIn (by decide), uIn (by decide), uIn (by decide), uIn (by decide), uIn (by decide), uIn (by decide), uIe]
      have eY61 : (uI (uI (uI (uI (uI (uI (uI (uI X2 34 1 0) 3 N v1) 4 N v2) 5 N v3) 6 N 0) 2 0 (nI (N + 1))) 0 18 0) 61 0 0) 61 = (up (X2 61) 0 0) := by rw [uIe, uIn (by decide), uIn (by decide), uIn (by decide), uIn (by decide), uIn (by decide), uIn (by decide), uIn (by decide)]
      generalize (uI (uI (uI (uI (uI (uI (uI (uI X2 34 1 0) 3 N v1) 4 N v2) 5 N v3) 6 N 0) 2 0 (nI (N + 1))) 0 18 0) 61 0 0) = Y at *
      refine ask Y J2 (by rw [eY61, upn (by decide)]; exact hI2.2.2.2.2.2.2.1.1) (by rw [eY 63 (by decide) (by decide) (by decide) (by decide) (by decide) (by decide) (by decide) (by decide)]; exact e63) (eY 1 (by decide) (by decide) (by decide) (by decide) (by decide) (by decide) (by decide) (by decide)) (fun x hx => eY x (by omega) (by omega) (by omega) (by omega) (by omega) (by omega) (by omega) (by omega)) (fun X3 J3 z1 z2 => ?_)
      have f0 : X3 63 = I 63 := by rw [z1.1 63 (by decide), eY 63 (by decide) (by decide) (by decide) (by decide) (by decide) (by decide) (by decide) (by decide)]; exact e63
      have f1 : X3 63 0 = nI N := by rw [f0]; exact n1
      have q1 : 26 + nI N = nI (26 + N) := by rw [ql 26, nI_add]
      have q2 : 32 + nI N = nI (32 + N) := by rw [ql 32, nI_add]
      have q3 : 14 + nI N = nI (14 + N) := by rw [ql 14, nI_add]
      have q4 : 20 + nI N = nI (20 + N) := by rw [ql 20, nI_add]
      have q5 : nI N + 1 = nI (N + 1) := nI_add N 1
      have q6 : (uI (uI (uI (uI X3 63 (26 + N) v1) 63 (32 + N) v3) 63 (14 + N) v2) 63 (20 + N) 0) 63 0 = nI N := by rw [uIe, upn (by omega), uIe, upn (by omega), uIe, upn (by omega), uIe, upn (by omega)]; exact f1
      refine fun _ => ⟨fun _ => ⟨fun _ => ?_, fun q => ?_⟩, fun q => absurd hz q⟩
      · rw [f1, q1, q2, q3, q4, qn (by omega), qn (by omega), qn (by omega), qn (by omega), q6, q5]
        refine ⟨(qin (by omega)).mpr (by omega), (qin (by omega)).mpr (by omega), (qin (by omega)).mpr (by omega), (qin (by omega)).mpr (by omega), sp_settled (by omega) ?_⟩
        rw [if_neg (by omega), mS_p hs1]
        refine ⟨rfl, ?_⟩
        have eW : ∀ x, x ≠ 61 → x ≠ 63 → (uI (uI (uI (uI (uI (uI (uI X3 63 (26 + N) v1) 63 (32 + N) v3) 63 (14 + N) v2) 63 (20 + N) 0) 63 0 (nI (N + 1))) 61 8 0) 61 1 0) x = X3 x := fun x c61 c63 => by rw [uIn c61, uIn c61, uIn c63, uIn c63, uIn c63, uIn c63, uIn c63]
        have eW61 : (uI (uI (uI (uI (uI (uI (uI X3 63 (26 + N) v1) 63 (32 + N) v3) 63 (14 + N) v2) 63 (20 + N) 0) 63 0 (nI (N + 1))) 61 8 0) 61 1 0) 61 = (up (up (X3 61) 8 0) 1 0) := by rw [uIe, uIe, uIn (by decide), uIn (by decide), uIn (by decide), uIn (by decide), uIn (by decide)]
        have eW63 : (uI (uI (uI (uI (uI (uI (uI X3 63 (26 + N) v1) 63 (32 + N) v3) 63 (14 + N) v2) 63 (20 + N) 0) 63 0 (nI (N + 1))) 61 8 0) 61 1 0) 63 = (up (up (up (up (up (X3 63) (26 + N) v1) (32 + N) v3) (14 + N) v2) (20 + N) 0) 0 (nI (N + 1))) := by rw [uIn (by decide), uIn (by decide), uIe, uIe, uIe, uIe, uIe]
        generalize (uI (uI (uI (uI (uI (uI (uI X3 63 (26 + N) v1) 63 (32 + N) v3) 63 (14 + N) v2) 63 (20 + N) 0) 63 0 (nI (N + 1))) 61 8 0) 61 1 0) = W at *
        have e : ∀ x, x ≠ 0 → x ≠ 2 → x ≠ 3 → x ≠ 4 → x ≠ 5 → x ≠ 6 → x ≠ 34 → x ≠ 61 → x ≠ 63 → W x = X2 x := fun x c0 c2 c3 c4 c5 c6 c34 c61 c63 => by rw [eW x c61 c63, z1.1 x c61, eY x c0 c2 c3 c4 c5 c6 c34 c61]
        have e0 : W 0 = up (X2 0) 18 0 := by rw [eW 0 (by decide) (by decide), z1.1 0 (by decide), eY0]
        have e2 : W 2 = up (X2 2) 0 (nI (N + 1)) := by rw [eW 2 (by decide) (by decide), z1.1 2 (by decide), eY2]
        have e3 : W 3 = up (X2 3) N v1 := by rw [eW 3 (by decide) (by decide), z1.1 3 (by decide), eY3]
        have e4 : W 4 = up (X2 4) N v2 := by rw [eW 4 (by decide) (by decide), z1.1 4 (by decide), eY4]
        have e5 : W 5 = up (X2 5) N v3 := by rw [eW 5 (by decide) (by decide), z1.1 5 (by decide), eY5]
        have e6 : W 6 = up (X2 6) N 0 := by rw [eW 6 (by decide) (by decide), z1.1 6 (by decide), eY6]
        have e34 : W 34 = up (X2 34) 1 0 := by rw [eW 34 (by decide) (by decide), z1.1 34 (by decide), eY34]
        have e61 : ∀ y, y ∉ [0, 1, 8, 34, 38, 42, 43, 44] → W 61 y = X2 61 y := fun y hy => by
          rw [eW61, upn (fun q => by subst q; revert hy; decide), upn (fun q => by subst q; revert hy; decide), z1.2 y (fun q => hy (by
            have : y = 34 ∨ y = 38 ∨ y = 42 ∨ y = 43 ∨ y = 44 := by simpa using q
            rcases this with g | g | g | g | g <;> subst g <;> decide)), eY61, upn (fun q => by subst q; revert hy; decide)]
        have hJ3 : Inv S X2 J3 := hI2.keep (KpI.rf _) (KpJ.m z2)
        have hR := hI2.2.1
        have hN := hR.1
        have hr : ∀ k, k ≠ 0 → k ≠ 26 + N → k ≠ 32 + N → k ≠ 14 + N → k ≠ 20 + N → W 63 k = X2 63 k := fun k a b c d f => by rw [eW63, upn a, upn f, upn d, upn c, upn b, f0, e63]
        obtain ⟨⟨k0, k1, k2, k3, k4, k5, k6, k7, k8⟩, kL, kV, kB, kG⟩ := hR.2.2.2.2.2.1
        have hr0 : W 63 0 = nI (N + 1) := by rw [eW63, upe]
        have g0 : W 63 (26 + N) = v1 := by rw [eW63, upn (by omega), upn (by omega), upn (by omega), upn (by omega), upe]
        have g1 : W 63 (32 + N) = v3 := by rw [eW63, upn (by omega), upn (by omega), upn (by omega), upe]
        have g2 : W 63 (14 + N) = v2 := by rw [eW63, upn (by omega), upn (by omega), upe]
        have g3 : W 63 (20 + N) = 0 := by rw [eW63, upn (by omega), upe]
        have x1 : 0 ≤ v1.toInt ∧ v1.toInt ≤ 200 := wi1.mp c1
        have x2 : 0 ≤ v2.toInt ∧ v2.toInt ≤ 3 := wi1.mp c2
        have x3 : 0 ≤ v3.toInt ∧ v3.toInt ≤ 1 := wi1.mp c3
        have x3' : v3 = 0 ∨ v3 = 1 := by
          have : v3.toInt = 0 ∨ v3.toInt = 1 := by omega
          rcases this with g | g
          · exact Or.inl (Int32.toInt_inj.mp g)
          · exact Or.inr (Int32.toInt_inj.mp g)
        have hMs : RMs W := hI2.2.2.2.2.2.1.st (v := 0) (fun x hx => e x (fun q => by subst q; revert hx; decide) (fun q => by subst q; revert hx; decide) (fun q => by subst q; revert hx; decide) (fun q => by subst q; revert hx; decide) (fun q => by subst q; revert hx; decide) (fun q => by subst q; revert hx; decide) (fun q => by subst q; revert hx; decide) (fun q => by subst q; revert hx; decide) (fun q => by subst q; revert hx; decide)) e0 (by rw [e 59 (by decide) (by decide) (by decide) (by decide) (by decide) (by decide) (by decide) (by decide) (by decide), rfv_n (by decide)]) (by rw [e 62 (by decide) (by decide) (by decide) (by decide) (by decide) (by decide) (by decide) (by decide) (by decide), rfv_n (by decide)]) (fun y hy => e61 y (fun q => by
          have : y = 11 ∨ y = 18 ∨ y = 53 ∨ y = 57 := by simpa using hy
          rcases this with g | g | g | g <;> subst g <;> revert q <;> decide)) (by rw [eW61, upe]; rfl)
        refine hJ3.mkG (fun x hx => e x (fun q => by subst q; revert hx; decide) (fun q => by subst q; revert hx; decide) (fun q => by subst q; revert hx; decide) (fun q => by subst q; revert hx; decide) (fun q => by subst q; revert hx; decide) (fun q => by subst q; revert hx; decide) (fun q => by subst q; revert hx; decide) (fun q => by subst q; revert hx; decide) (fun q => by subst q; revert hx; decide)) (fun x hx => e x (by omega) (by omega) (by omega) (by omega) (by omega) (by omega) (by omega) (by omega) (by omega)) (fun y hy => e61 y (fun q => by
          have : y = 13 ∨ y = 20 ∨ y = 41 := by simpa using hy
          rcases this with g | g | g <;> subst g <;> revert q <;> decide)) hMs ?_ (RH.nil (by rw [e34, upe]) (by rw [eW61, upn (by decide), upe]))
        refine hR.via (e 1 (by decide) (by decide) (by decide) (by decide) (by decide) (by decide) (by decide) (by decide) (by decide)) (fun x hx => e x (by omega) (by omega) (by omega) (by omega) (by omega) (by omega) (by omega) (by omega) (by omega)) (hr 3 (by omega) (by omega) (by omega) (by omega) (by omega)) (hr 4 (by omega) (by omega) (by omega) (by omega) (by omega)) (fun k hk => hr k (by omega) (by omega) (by omega) (by omega) (by omega)) ?_ ?_ ?_ ?_ (by rw [e 8 (by decide) (by decide) (by decide) (by decide) (by decide) (by decide) (by decide) (by decide) (by decide), e 9 (by decide) (by decide) (by decide) (by decide) (by decide) (by decide) (by decide) (by decide) (by decide), e 10 (by decide) (by decide) (by decide) (by decide) (by decide) (by decide) (by decide) (by decide) (by decide), e 11 (by decide) (by decide) (by decide) (by decide) (by decide) (by decide) (by decide) (by decide) (by decide)]; exact hR.2.2.1.r (fun k q1 q2 => hr k (by omega) (by omega) (by omega) (by omega) (by omega))) (by rw [e 12 (by decide) (by decide) (by decide) (by decide) (by decide) (by decide) (by decide) (by decide) (by decide), e 13 (by decide) (by decide) (by decide) (by decide) (by decide) (by decide) (by decide) (by decide) (by decide), e 14 (by decide) (by decide) (by decide) (by decide) (by decide) (by decide) (by decide) (by decide) (by decide)]; exact hR.2.2.2.1.r (fun k q1 q2 => hr k (by omega) (by omega) (by omega) (by omega) (by omega))) (by rw [e 15 (by decide) (by decide) (by decide) (by decide) (by decide) (by decide) (by decide) (by decide) (by decide)]; exact hR.2.2.2.2.1.r (fun k q1 q2 => hr k (by omega) (by omega) (by omega) (by omega) (by omega))) ⟨⟨?_, ?_, ?_, ?_, ?_, ?_, ?_, ?_, ?_⟩, fun t ht => ?_, ?_, kB.r (fun k q1 q2 => hr k (by omega) (by omega) (by omega) (by omega) (by omega)), kG.r (hr 1 (by omega) (by omega) (by omega) (by omega) (by omega)) (hr 2 (by omega) (by omega) (by omega) (by omega) (by omega)) (fun k q1 q2 => hr k (by omega) (by omega) (by omega) (by omega) (by omega)) (KR.le8 hR.2.2.2.2.2.1.1)⟩
        · rw [e2, upe, hr0]
        · rw [e 7 (by decide) (by decide) (by decide) (by decide) (by decide) (by decide) (by decide) (by decide) (by decide), hr 1 (by omega) (by omega) (by omega) (by omega) (by omega)]; exact hN.2.2.2.1
        · rw [e 7 (by decide) (by decide) (by decide) (by decide) (by decide) (by decide) (by decide) (by decide) (by decide), hr 2 (by omega) (by omega) (by omega) (by omega) (by omega)]; exact hN.2.2.2.2
        · intro t ht
          obtain ⟨t1, t2, t3, t4⟩ := hR.2.1 t ht
          rw [e3, e4, e5, e6]
          by_cases g : t = N
          · subst g
            rw [upe, upe, upe, upe, g0, g1, g2, g3]
            exact ⟨rfl, rfl, rfl, rfl⟩
          · rw [upn g, upn g, upn g, upn g, hr (26 + t) (by omega) (by omega) (by omega) (by omega) (by omega), hr (14 + t) (by omega) (by omega) (by omega) (by omega) (by omega), hr (32 + t) (by omega) (by omega) (by omega) (by omega) (by omega), hr (20 + t) (by omega) (by omega) (by omega) (by omega) (by omega)]
            exact ⟨t1, t2, t3, t4⟩
        · exact ⟨N + 1, hr0, by omega⟩
        · rw [hr 1 (by omega) (by omega) (by omega) (by omega) (by omega)]; exact k1
        · rw [hr 2 (by omega) (by omega) (by omega) (by omega) (by omega)]; exact k2
        · rw [hr 3 (by omega) (by omega) (by omega) (by omega) (by omega)]; exact k3
        · rw [hr 3 (by omega) (by omega) (by omega) (by omega) (by omega), hr 4 (by omega) (by omega) (by omega) (by omega) (by omega)]; exact k4
        · rw [hr 5 (by omega) (by omega) (by omega) (by omega) (by omega)]; exact k5
        · rw [hr 6 (by omega) (by omega) (by omega) (by omega) (by omega)]; exact k6
        · rw [hr 7 (by omega) (by omega) (by omega) (by omega) (by omega)]; exact k7
        · rw [hr 8 (by omega) (by omega) (by omega) (by omega) (by omega)]; exact k8
        · by_cases g : t = N
          · subst g
            rw [g0, g1]
            exact ⟨⟨_, qof x1.1, by rw [qtn]; omega⟩, x3'⟩
          · rw [hr (26 + t) (by omega) (by omega) (by omega) (by omega) (by omega), hr (32 + t) (by omega) (by omega) (by omega) (by omega) (by omega)]; exact kL t ht
        · obtain ⟨v0', v1', v2', v3', v4'⟩ := kV
          have hv : ∀ k, k < 5 → rV (W 63) k = rV (X2 63) k := fun k hk => hr (9 + k) (by omega) (by omega) (by omega) (by omega) (by omega)
          refine ⟨by rw [hr 1 (by omega) (by omega) (by omega) (by omega) (by omega), hv 0 (by omega)]; exact v0', by rw [hv 1 (by omega)]; exact v1', by rw [hv 2 (by omega)]; exact v2', by rw [hv 4 (by omega)]; exact v3', fun t ht => ?_⟩
          have u1 : ∀ r : Nat → Int32, rV r (5 + t) = r (14 + t) := fun r => by unfold rV; congr 1; omega
          have u2 : ∀ r : Nat → Int32, rV r (11 + t) = r (20 + t) := fun r => by unfold rV; congr 1; omega
          have := v4' t ht
          rw [u1, u2] at this ⊢
          by_cases g : t = N
          · subst g
            rw [g2, g3]
            exact ⟨⟨_, qof x2.1, by rw [qtn]; omega⟩, by rw [tz0]; omega, fun _ => rfl⟩
          · rw [hr (14 + t) (by omega) (by omega) (by omega) (by omega) (by omega), hr (20 + t) (by omega) (by omega) (by omega) (by omega) (by omega), hr (32 + t) (by omega) (by omega) (by omega) (by omega) (by omega)]; exact this
      · exfalso
        rw [f1] at q
        have := (qeq (b := 6) (by omega) (by omega)).mp q
        omega
    · refine sp_settle h.1.l59 (by decide) ?_
      show F12_load n S _ J2 v1 v2 v3 (fun y I2 J2 => -5 = y ∧ Inv S I2 J2)
      have g : N = 6 := by
        rw [e20] at g
        by_cases g' : N < 6
        · exact absurd ((qlt (b := 6) (by omega) (by omega)).mpr g') g
        · omega
      unfold F12_load F12_load_39
      refine ⟨fun q => absurd q c1', fun _ => ⟨fun q => absurd q c2', fun _ => ⟨fun _ => ?_, fun q => absurd q c3'⟩⟩⟩
      have i0 : ∀ x, x ≠ 0 → x ≠ 59 → x ≠ 61 → (uI (cS X2 (-5)) 61 0 0) x = X2 x := fun x a b c => by rw [uIn c, cS_o a b]
      refine ask _ J2 (by rw [uIe, upn (by decide), cS_o (by decide) (by decide)]; exact hI2.2.2.2.2.2.2.1.1) (by rw [i0 63 (by decide) (by decide) (by decide)]; exact e63) (i0 1 (by decide) (by decide) (by decide)) (fun x hx => i0 x (by omega) (by omega) (by omega)) (fun X3 J3 z1 z2 => ?_)
      refine fun _ => ⟨fun _ => ⟨fun q => ?_, fun _ => ?_⟩, fun q => absurd hz q⟩
      · exfalso
        rw [z1.1 63 (by decide), i0 63 (by decide) (by decide) (by decide), n1', g] at q
        exact q rfl
      · refine sp_tell (by decide) ⟨rfl, ?_⟩
        exact hI2.noM (by decide) z1 z2
    · refine sp_settle h.1.l59 (by decide) ?_
      show F12_load n S _ J2 v1 v2 v3 (fun y I2 J2 => -3 = y ∧ Inv S I2 J2)
      unfold F12_load F12_load_39
      refine ⟨fun q => absurd q c1', fun _ => ⟨fun q => absurd q c2', fun _ => ⟨fun _ => ?_, fun q => absurd q c3'⟩⟩⟩
      have i0 : ∀ x, x ≠ 0 → x ≠ 59 → x ≠ 61 → (uI (cS X2 (-3)) 61 0 0) x = X2 x := fun x a b c => by rw [uIn c, cS_o a b]
      refine ask _ J2 (by rw [uIe, upn (by decide), cS_o (by decide) (by decide)]; exact hI2.2.2.2.2.2.2.1.1) (by rw [i0 63 (by decide) (by decide) (by decide)]; exact e63) (i0 1 (by decide) (by decide) (by decide)) (fun x hx => i0 x (by omega) (by omega) (by omega)) (fun X3 J3 z1 z2 => ?_)
      refine fun _ => ⟨fun q => absurd q hz, fun _ => sp_tell (by decide) ⟨rfl, ?_⟩⟩
      exact hI2.noM (by decide) z1 z2
  · refine sp_settle h.1.l59 (by decide) ?_
    show F12_load n S _ J v1 v2 v3 (fun y I2 J2 => -1 = y ∧ Inv S I2 J2)
    unfold F12_load F12_load_39
    exact ⟨fun q => absurd (m1.symm.trans q) c1, fun _ => ⟨fun q => absurd (m2.symm.trans q) c2, fun _ => ⟨fun q => absurd (m3.trans c3) q, fun _ => h.no (by decide)⟩⟩⟩
end VA
