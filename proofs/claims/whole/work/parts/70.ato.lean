/-! steps: at, of -/
theorem sw_i {lo : Int} {x : Int32} {m : Nat} (h0 : 0 ≤ lo) (h1 : lo + m < 2147483648) (h : swN lo x m) : x.toInt < lo ∨ lo + (m : Int) - 1 < x.toInt := sw_out h0 h1 h
section AO
variable {n : Nat} {S : tSH} {I : tHI} {J : tHJ}
theorem qsub {a k : Nat} (h : k ≤ a) : nI a - nI k = nI (a - k) := by
  obtain ⟨b, rfl⟩ : ∃ b, a = b + k := ⟨a - k, by omega⟩
  rw [← nI_add, Nat.add_sub_cancel]
  exact Int32.add_sub_cancel _ _
theorem sp_atM (hn : 400 < n) {N B : Nat} (h : MQB S (uI I 61 0 0) N B) {b : Nat} (hb : b < B) {kd : Nat} (hkd : kd ≤ 4) {k : Int32 → tHI → tHJ → Prop} (hk : ∀ (I' : tHI) (J' : tHJ), MK (uI I 61 0 0) I' → MJ J J' → k (aT S (uI I 61 0 0) ((uI I 61 0 0) 63) b (WI (uI I 61 0 0) N) kd) I' J') : F12_at n S I J (nI b) (nI (4 + kd)) k := by
  obtain ⟨hQ, hR, hB, hB1, hS⟩ := h
  have ib := isB (S := S) (I := uI I 61 0 0) (J := J) (v := nI b) hB1 hB
  rw [qi (by omega)] at ib
  have ik : ¬ V12_in (nI (4 + kd)).toInt64 0 8 = 0 := mi1.mpr (by
    rw [Int32.toInt_toInt64, qi (by omega), show (0 : Int64).toInt = 0 by decide, show (8 : Int64).toInt = 8 by decide]; omega)
  have hb12 : b < 12 := by omega
  unfold F12_at F12_at_25
  refine ⟨fun g => absurd (ib.mp g) (by omega), fun _ => ⟨fun _ => ⟨fun e => ?_, fun e => ?_, fun e => ?_, fun e => ?_, fun e => ?_, fun e => ?_⟩, fun g => absurd g ik⟩⟩
  · have : kd = 0 := by have := (qeq (b := 4) (by omega) (by omega)).mp e; omega
    subst this
    exact sp_holds hn hQ hb12 (hS b hb) hR hk
  · have : kd = 1 := by have := (qeq (b := 5) (by omega) (by omega)).mp e; omega
    subst this
    exact sp_grips hn hQ hb12 (hS b hb) hR hk
  · have : kd = 2 := by have := (qeq (b := 6) (by omega) (by omega)).mp e; omega
    subst this
    exact sp_fears hn hQ hb12 (hS b hb) hR hk
  · have : kd = 3 := by have := (qeq (b := 7) (by omega) (by omega)).mp e; omega
    subst this
    exact sp_pulls hn hQ hb12 (hS b hb) hR hk
  · have : kd = 4 := by have := (qeq (b := 8) (by omega) (by omega)).mp e; omega
    subst this
    exact sp_learns hn hQ hb12 (hS b hb) hk
  · exfalso
    have := sw_i (by omega) (by omega) e
    rw [qi (by omega)] at this
    omega
theorem st_at (hn : 400 < n) : tSt_at n Inv := by
  intro S I J v1 v2 h
  obtain ⟨N, B, n1, n2, b1, b2, c63, hM⟩ := h.mq
  have h70 : (I 7 0).toInt = B := by have : I 7 0 = I 63 1 := h.2.1.1.2.2.2.1; rw [this, b1, qi (by omega)]
  have em : V12_in v2.toInt64 0 8 = V11_within v2 0 8 := inwi (by decide) (by decide)
  have ib := isB (S := S) (I := uI I 61 0 0) (J := J) (v := v1) (by rw [uIn (by decide)]; exact b1) b2
  unfold F11_at F11_at_26
  have no : (¬ (0 ≤ v1.toInt ∧ v1.toInt < B) ∨ V11_within v2 0 8 = 0) → F12_at n S I J v1 v2 (fun y I2 J2 => -1000 = y ∧ Inv S I2 J2) := by
    intro q
    unfold F12_at F12_at_25
    refine ⟨fun _ => ⟨rfl, h.th⟩, fun q1 => ⟨fun q2 => ?_, fun _ => ⟨rfl, h.th⟩⟩⟩
    exfalso
    rcases q with q | q
    · exact q1 (ib.mpr q)
    · exact q2 (by rw [em]; exact q)
  refine ⟨fun q => no (Or.inl ?_), fun q => ⟨fun q2 => ?_, fun q2 => no (Or.inr q2)⟩⟩
  · rw [has7, h70] at q; omega
  have hb : 0 ≤ v1.toInt ∧ v1.toInt < B := by
    by_cases g : 0 ≤ v1.toInt ∧ v1.toInt < B
    · exact g
    · exact absurd (has7.mpr (by rw [h70]; omega)) q
  have hp : 0 ≤ v2.toInt ∧ v2.toInt ≤ 8 := wi1.mp q2
  obtain ⟨b, rfl, hbB, hb31⟩ := nat_of hb.1 hb.2
  obtain ⟨f, rfl, hf9, hf31⟩ := nat_of (v := v2) (m := 9) hp.1 (by omega)
  have hb12 : b < 12 := by omega
  have direct : ∀ a : Nat, a < 4 → f = a → F12_at n S I J (nI b) (nI f) (fun y I2 J2 => I 63 (38 + 4 * b + a) = y ∧ Inv S I2 J2) := by
    intro a ha hfa
    subst hfa
    obtain ⟨v0, p0⟩ := ofB (S := S) (I := uI I 61 0 0) (J := J) hb12 (q := f) (by omega) rfl rfl
    unfold F12_at F12_at_25
    have ne : ∀ m : Nat, 4 ≤ m → m < 2147483648 → ¬ nI f = nI m := fun m hm hm2 e => by have := (qeq (by omega) (by omega)).mp e; omega
    refine ⟨fun g => absurd (ib.mp g) (by rw [qi (by omega)]; omega), fun _ => ⟨fun _ => ⟨fun e => absurd e (ne 4 (by omega) (by omega)), fun e => absurd e (ne 5 (by omega) (by omega)), fun e => absurd e (ne 6 (by omega) (by omega)), fun e => absurd e (ne 7 (by omega) (by omega)), fun e => absurd e (ne 8 (by omega) (by omega)), fun _ => ⟨p0, ?_, h.th⟩⟩, fun g => ?_⟩⟩
    · rw [v0, uIn (by decide)]
    · exfalso; rw [em] at g; exact q2 g
  have hRB := h.2.1.2.2.1 b hb12
  have en : ∀ m : Nat, m < 2147483648 → nI f = nI m → f = m := fun m hm e => (qeq (by omega) hm).mp e
  refine ⟨fun e => ⟨(qin (by omega)).mpr hb12, ?_⟩, fun e => ⟨(qin (by omega)).mpr hb12, ?_⟩, fun e => ⟨(qin (by omega)).mpr hb12, ?_⟩, fun e => ⟨(qin (by omega)).mpr hb12, ?_⟩, fun e => ?_⟩
  · rw [qn (by omega)]
    have : I 8 b = I 63 (38 + 4 * b + 0) := hRB.1
    rw [this]
    exact direct 0 (by omega) (en 0 (by omega) e)
  · rw [qn (by omega)]
    have : I 9 b = I 63 (38 + 4 * b + 1) := hRB.2.1
    rw [this]
    exact direct 1 (by omega) (en 1 (by omega) e)
  · rw [qn (by omega)]
    have : I 10 b = I 63 (38 + 4 * b + 2) := hRB.2.2.1
    rw [this]
    exact direct 2 (by omega) (en 2 (by omega) e)
  · rw [qn (by omega)]
    have : I 11 b = I 63 (38 + 4 * b + 3) := hRB.2.2.2
    rw [this]
    exact direct 3 (by omega) (en 3 (by omega) e)
  · have hf4 := sw_i (by omega) (by omega) e
    rw [qi (by omega)] at hf4
    obtain ⟨kd, rfl⟩ : ∃ kd, f = 4 + kd := ⟨f - 4, by omega⟩
    have hbi : (b : Int) < (I 63 1).toInt := by rw [b1, qi (by omega)]; omega
    refine sp_asIt (r := I 63) (by omega) h.2.1 n1 n2 h.2.2.2.2.2.2.2.1 (fun X x1 x2 hQ => ?_)
    have e4 : nI (4 + kd) - 4 = nI kd := by rw [ql 4, qsub (by omega)]; congr 1; omega
    rw [e4]
    refine sp_tellQ h.1 hn hQ hbi (by omega) (fun X2 J2 y1 y2 => ?_)
    have hI2 : Inv S X2 J2 := h.keep ((KpI.c x1 x2).trans (KpI.ck y1)) (KpJ.c y2)
    have e63 : X2 63 = I 63 := by rw [y1.1 63 (by decide), x1 63 (by decide)]
    have hI3 := hI2.th
    have e63' : (uI X2 61 0 0) 63 = I 63 := by rw [uIn (by decide)]; exact e63
    have c63' : (uI X2 61 0 0) 61 41 = 63 := hI3.2.2.2.2.2.2.1.2
    obtain ⟨N', B', n1', n2', b1', b2', -, hM'⟩ := hI3.mq
    have eN : N' = N := (qeq (by omega) (by omega)).mp (by rw [← n1', e63', n1])
    have eB : B' = B := (qeq (by omega) (by omega)).mp (by rw [← b1', e63', b1])
    subst eN eB
    show F12_at n S X2 J2 (nI b) (nI (4 + kd)) _
    refine sp_atM hn hM' (by omega) (by omega) (fun X3 J3 z1 z2 => ⟨?_, hI3.keep (KpI.m z1) (KpJ.m z2)⟩)
    rw [WI63 c63', e63']
    exact (aT_I hQ.FO (by rw [uIn (by decide), y1.1 1 (by decide)]) (fun x hx => by rw [uIn (by omega), y1.1 x (by omega)])).symm
theorem st_of (hn : 400 < n) : tSt_of n Inv := by
  intro S I J v1 v2 h
  obtain ⟨N, B, n1, n2, b1, b2, c63, hM⟩ := h.mq
  have h20 : (I 2 0).toInt = N := by have : I 2 0 = I 63 0 := h.2.1.1.2.2.1; rw [this, n1, qi (by omega)]
  have em : V12_in v2.toInt64 0 7 = V11_within v2 0 7 := inwi (by decide) (by decide)
  have ib := isLd (S := S) (I := uI I 61 0 0) (J := J) (v := v1) (by rw [uIn (by decide)]; exact n1) n2
  unfold F11_of F11_of_26
  have no : (¬ (0 ≤ v1.toInt ∧ v1.toInt < N) ∨ V11_within v2 0 7 = 0) → F12_of n S I J v1 v2 (fun y I2 J2 => -1000 = y ∧ Inv S I2 J2) := by
    intro q
    unfold F12_of F12_of_25
    refine ⟨fun _ => ⟨rfl, h.th⟩, fun q1 => ⟨fun q2 => ?_, fun _ => ⟨rfl, h.th⟩⟩⟩
    exfalso
    rcases q with q | q
    · exact q1 (ib.mpr q)
    · exact q2 (by rw [em]; exact q)
  refine ⟨fun q => no (Or.inl ?_), fun q => ⟨fun q2 => ?_, fun q2 => no (Or.inr q2)⟩⟩
  · rw [has3, h20] at q; omega
  have hb : 0 ≤ v1.toInt ∧ v1.toInt < N := by
    by_cases g : 0 ≤ v1.toInt ∧ v1.toInt < N
    · exact g
    · exact absurd (has3.mpr (by rw [h20]; omega)) q
  have hp : 0 ≤ v2.toInt ∧ v2.toInt ≤ 7 := wi1.mp q2
  obtain ⟨b, rfl, hbB, hb31⟩ := nat_of hb.1 hb.2
  obtain ⟨f, rfl, hf9, hf31⟩ := nat_of (v := v2) (m := 8) hp.1 (by omega)
  have hb6 : b < 6 := by omega
  have eq26 : 26 + nI b = nI (26 + b) := by rw [ql 26, nI_add]
  have eq14 : 14 + nI b = nI (14 + b) := by rw [ql 14, nI_add]
  have eq32 : 32 + nI b = nI (32 + b) := by rw [ql 32, nI_add]
  have eq20 : 20 + nI b = nI (20 + b) := by rw [ql 20, nI_add]
  have en : ∀ m : Nat, m < 2147483648 → nI f = nI m → f = m := fun m hm e => (qeq (by omega) hm).mp e
  have direct : ∀ (a : Nat) (w : Int32), a < 4 → f = a → w = I 63 ((if a = 0 then 26 else if a = 1 then 14 else if a = 2 then 32 else 20) + b) → F12_of n S I J (nI b) (nI f) (fun y I2 J2 => w = y ∧ Inv S I2 J2) := by
    intro a w ha hfa hw
    subst hfa
    unfold F12_of F12_of_25
    rw [eq26, eq14, eq32, eq20, qn (by omega), qn (by omega), qn (by omega), qn (by omega), uIn (show (63 : Nat) ≠ 61 by decide)]
    refine ⟨fun g => absurd (ib.mp g) (by rw [qi (by omega)]; omega), fun _ => ⟨fun _ => ⟨fun e => ⟨(qin (by omega)).mpr (by omega), ?_, h.th⟩, fun e => ⟨(qin (by omega)).mpr (by omega), ?_, h.th⟩, fun e => ⟨(qin (by omega)).mpr (by omega), ?_, h.th⟩, fun e => ⟨(qin (by omega)).mpr (by omega), ?_, h.th⟩, fun e => ?_⟩, fun g => ?_⟩⟩
    · have := en 0 (by omega) e; subst this; rw [hw, if_pos rfl]
    · have := en 1 (by omega) e; subst this; rw [hw, if_neg (by omega), if_pos rfl]
    · have := en 2 (by omega) e; subst this; rw [hw, if_neg (by omega), if_neg (by omega), if_pos rfl]
    · have := en 3 (by omega) e; subst this; rw [hw, if_neg (by omega), if_neg (by omega), if_neg (by omega)]
    · exfalso
      have := sw_i (by omega) (by omega) e
      rw [qi (by omega)] at this
      omega
    · exfalso; rw [em] at g; exact q2 g
  have hRL := h.2.1.2.1 b hb6
  refine ⟨fun e => ⟨(qin (by omega)).mpr hb6, ?_⟩, fun e => ⟨(qin (by omega)).mpr hb6, ?_⟩, fun e => ⟨(qin (by omega)).mpr hb6, ?_⟩, fun e => ⟨(qin (by omega)).mpr hb6, ?_⟩, fun e => ?_⟩
  · rw [qn (by omega)]
    exact direct 0 _ (by omega) (en 0 (by omega) e) hRL.1
  · rw [qn (by omega)]
    exact direct 1 _ (by omega) (en 1 (by omega) e) hRL.2.1
  · rw [qn (by omega)]
    exact direct 2 _ (by omega) (en 2 (by omega) e) hRL.2.2.1
  · rw [qn (by omega)]
    exact direct 3 _ (by omega) (en 3 (by omega) e) hRL.2.2.2
  · have hf4 := sw_i (by omega) (by omega) e
    rw [qi (by omega)] at hf4
    obtain ⟨kd, rfl⟩ : ∃ kd, f = 4 + kd := ⟨f - 4, by omega⟩
    refine sp_asIt (r := I 63) (by omega) h.2.1 n1 n2 h.2.2.2.2.2.2.2.1 (fun X x1 x2 hQ => ?_)
    have e4 : nI (4 + kd) - 4 = nI kd := by rw [ql 4, qsub (by omega)]; congr 1; omega
    rw [e4, qn (by omega)]
    refine ⟨(qin (by omega)).mpr hb6, (qin (by omega)).mpr hb6, ?_⟩
    have w1 : X 3 b = I 63 (26 + b) := by rw [x1 3 (by decide)]; exact hRL.1
    have w2 : X 5 b = I 63 (32 + b) := by rw [x1 5 (by decide)]; exact hRL.2.2.1
    refine sp_barred h.1 hn hQ.1 (fun y hy => by rw [x1 50 (by decide)]; exact h.2.2.2.2.2.2.2.2.1 y hy) (fun X2 J2 y1 y1b y2 _ => ?_)
    have hK2 : KpI X X2 := ⟨fun x hx => y1 x (by omega), fun x hx => y1 x (fun q => by subst q; revert hx; decide), fun y _ => by rw [y1 0 (by decide)], fun y _ => by rw [y1 61 (by decide)], by rw [y1 40 (by decide)], fun y _ => by rw [y1 49 (by decide)], y1b, fun y _ => by rw [y1 66 (by decide)]⟩
    have hI2 : Inv S X2 J2 := h.keep ((KpI.c x1 x2).trans hK2) (KpJ.c y2)
    have e63 : X2 63 = I 63 := by rw [y1 63 (by decide), x1 63 (by decide)]
    have hI3 := hI2.th
    have e63' : (uI X2 61 0 0) 63 = I 63 := by rw [uIn (by decide)]; exact e63
    obtain ⟨N', B', n1', n2', b1', b2', -, hM'⟩ := hI3.mq
    have eN : N' = N := (qeq (by omega) (by omega)).mp (by rw [← n1', e63', n1])
    subst eN
    have eL : lawB S X (wl (wLd (X 49) (X 3 b) (nI kd) (X 5 b))) = lawB S (uI X2 61 0 0) (wl (wLd (WM 63 (I 63) N') (I 63 (26 + b)) (nI kd) (I 63 (32 + b)))) := by
      rw [lawB_I (I := X) (I' := uI X2 61 0 0) hQ.FO (by rw [uIn (by decide), y1 1 (by decide)]) (fun x hx => by rw [uIn (by omega), y1 x (by omega)]), w1, w2]
      refine lawB_w (wl_cg (fun a ha => ?_))
      unfold wLd
      by_cases a6 : a < 6
      · rw [if_pos a6, if_pos a6]
      · rw [if_neg a6, if_neg a6, hQ.2.1 a (by omega) ha]
    rw [eL]
    generalize hZ : lawB S (uI X2 61 0 0) (wl (wLd (WM 63 (I 63) N') (I 63 (26 + b)) (nI kd) (I 63 (32 + b)))) = Z
    have ib' := isLd (S := S) (I := uI X2 61 0 0) (J := J2) (v := nI b) (by rw [e63']; exact n1) n2
    rw [qi (by omega)] at ib'
    show F12_of n S X2 J2 (nI b) (nI (4 + kd)) (fun y I2 J2 => (if (if Z = true then (1 : Int32) else 0) = 0 then (0 : Int32) else 1) = y ∧ Inv S I2 J2)
    unfold F12_of F12_of_25
    have ne : ∀ m : Nat, m < 4 → ¬ nI (4 + kd) = nI m := fun m hm e => by have := (qeq (by omega) (by omega)).mp e; omega
    refine ⟨fun g => absurd (ib'.mp g) (by omega), fun _ => ⟨fun _ => ⟨fun e => absurd e (ne 0 (by omega)), fun e => absurd e (ne 1 (by omega)), fun e => absurd e (ne 2 (by omega)), fun e => absurd e (ne 3 (by omega)), fun _ => ?_⟩, fun g => ?_⟩⟩
    · unfold F12_isBanned
      rw [eq26, eq32, qn (by omega), qn (by omega), e63', e4]
      refine ⟨(qin (by omega)).mpr (by omega), (qin (by omega)).mpr (by omega), ?_⟩
      refine sp_ban hn hM'.1.1 hM'.1.2.2.2.2.2 (W := WM 63 (I 63) N') (by rw [e63']; rfl) (by rw [e63']; rfl) (by rw [e63']; rfl) (fun X3 J3 z1 z2 => ?_)
      rw [hZ]
      exact fun _ _ => ⟨rfl, hI3.keep (KpI.m z1) (KpJ.m z2)⟩
    · exfalso; rw [em] at g; exact q2 g
end AO
