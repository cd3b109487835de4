/-! days, II -/
def sdS (s0 : Int64) : Nat → Int64
  | 0 => s0
  | k + 1 => (sdS s0 k * 1103 + 12345) - (sdS s0 k * 1103 + 12345) / 1000003 * 1000003
def drw (m : Int32) (s : Int64) : Int32 := (s - s / m.toInt64 * m.toInt64).toInt32
def pcS (p d b : Int32) : Int32 := if 1 < (if (p + d) - b < 60 then (p + d) - b else 60) then (if (p + d) - b < 60 then (p + d) - b else 60) else 1
section DY2
variable {n : Nat} {S : tSH} {I : tHI} {J : tHJ} {r : Nat → Int32} {N B : Nat}
def dR (S : tSH) (I : tHI) (r : Nat → Int32) (N : Nat) (s0 : Int64) : Nat → Nat → Int32
  | 0 => r
  | k + 1 => rideA S I (up (dR S I r N s0 k) 10 (pcS (dR S I r N s0 k 10) (drw (r 5 + r 6 + 1) (sdS s0 (k + 1))) (r 6))) N
def wlS (S : tSH) (I : tHI) (r : Nat → Int32) (N : Nat) (s0 : Int64) : Nat → Nat
  | 0 => 0
  | k + 1 => wlS S I r N s0 k + (if howA S I (up (dR S I r N s0 k) 10 (pcS (dR S I r N s0 k 10) (drw (r 5 + r 6 + 1) (sdS s0 (k + 1))) (r 6))) N = 0 then 1 else 0)
theorem pc_b (p d b : Int32) : ∃ q, pcS p d b = nI q ∧ q ≤ 60 := by
  have z60 : (60 : Int32).toInt = 60 := rfl
  have z1 : (1 : Int32).toInt = 1 := rfl
  unfold pcS
  by_cases c : (p + d) - b < 60
  · rw [if_pos c]
    by_cases e : 1 < (p + d) - b
    · rw [if_pos e]
      rw [Int32.lt_iff_toInt_lt, z60] at c
      rw [Int32.lt_iff_toInt_lt, z1] at e
      exact ⟨_, qof (by omega), by rw [qtn]; omega⟩
    · rw [if_neg e]; exact ⟨1, rfl, by omega⟩
  · rw [if_neg c, if_pos (by decide)]; exact ⟨60, rfl, by omega⟩
theorem pc_w (p d b : Int32) : V12_within ((p + (d - b)).toInt64) 1 60 = pcS p d b := by
  have z60 : (60 : Int32).toInt = 60 := rfl
  have z1 : (1 : Int32).toInt = 1 := rfl
  have e : p + (d - b) = (p + d) - b := by rw [Int32.sub_eq_add_neg, Int32.sub_eq_add_neg, Int32.add_assoc]
  refine Int32.toInt_inj.mp ?_
  rw [e, mwi (by decide), Int32.toInt_toInt64, z60, z1]
  unfold pcS
  generalize (p + d) - b = x
  by_cases c : x < 60
  · rw [if_pos c]
    by_cases f : 1 < x
    · rw [if_pos f]
      rw [Int32.lt_iff_toInt_lt, z60] at c
      rw [Int32.lt_iff_toInt_lt, z1] at f
      omega
    · rw [if_neg f, z1]
      rw [Int32.lt_iff_toInt_lt, z1] at f
      omega
  · rw [if_neg c, if_pos (by decide), z60]
    rw [Int32.lt_iff_toInt_lt, z60] at c
    omega
theorem rideA_I {I' : tHI} (h : FO S I r) (e1 : I' 1 = I 1) (e89 : ∀ x, 89 ≤ x → I' x = I x) : rideA S I' r N = rideA S I r N := by
  unfold rideA
  rw [howA_I h e1 e89, lrnA_I h e1 e89]
theorem FO.dg {g : Nat → Int32} (h : FO S I r) (hg : DG r g) : FO S I g := h.cg rfl (fun _ _ => rfl) (hg 4 (by decide) (by decide) (by decide) (by decide)) (fun k hk => hg k (by omega) (by omega) (by omega) (by omega))
theorem DG.u10 {g : Nat → Int32} {v : Int32} (h : DG r g) : DG r (up g 10 v) := fun k a b c d => by rw [upn b]; exact h k a b c d
theorem RK.u10p (h : RK r) {v : Int32} (hv : ∃ q, v = nI q ∧ q ≤ 60) : RK (up r 10 v) := by
  refine h.v (fun k hk => upn (by omega)) (h.2.2.1.up (Or.inl (upn (by decide))) (Or.inr ?_) (Or.inl (upn (by decide))) (Or.inl (upn (by decide))) (fun i hi => Or.inl (upn (by omega))) (fun i hi => Or.inl (upn (by omega))))
  obtain ⟨q, q1, q2⟩ := hv
  exact ⟨q, by show up r 10 v 10 = _; rw [upe]; exact q1, q2⟩
theorem dR_ok (hK : RK r) (hB : r 1 = nI B) (hB0 : 0 < B) (hB12 : B ≤ 12) {s0 : Int64} : ∀ k, DG r (dR S I r N s0 k) ∧ RK (dR S I r N s0 k) ∧ dR S I r N s0 k 12 = r 12 + nI (k - wlS S I r N s0 k) ∧ wlS S I r N s0 k ≤ k := by
  intro k
  induction k with
  | zero => exact ⟨fun _ _ _ _ _ => rfl, hK, by show r 12 = r 12 + nI (0 - 0); simp [nI], Nat.le_refl 0⟩
  | succ k ih =>
    obtain ⟨i1, i2, i3, i4⟩ := ih
    have g1 : (up (dR S I r N s0 k) 10 (pcS (dR S I r N s0 k 10) (drw (r 5 + r 6 + 1) (sdS s0 (k + 1))) (r 6))) 1 = nI B := by rw [upn (by decide), i1 1 (by decide) (by decide) (by decide) (by decide)]; exact hB
    have h2 := i2.u10p (pc_b (dR S I r N s0 k 10) (drw (r 5 + r 6 + 1) (sdS s0 (k + 1))) (r 6))
    have e12 : dR S I r N s0 (k + 1) 12 = (if howA S I (up (dR S I r N s0 k) 10 (pcS (dR S I r N s0 k 10) (drw (r 5 + r 6 + 1) (sdS s0 (k + 1))) (r 6))) N = 0 then dR S I r N s0 k 12 else dR S I r N s0 k 12 + 1) := by
      show rideA S I _ N 12 = _
      rw [rideA_12, upn (by decide)]
    have ew : wlS S I r N s0 (k + 1) = wlS S I r N s0 k + (if howA S I (up (dR S I r N s0 k) 10 (pcS (dR S I r N s0 k 10) (drw (r 5 + r 6 + 1) (sdS s0 (k + 1))) (r 6))) N = 0 then 1 else 0) := rfl
    refine ⟨i1.u10.ride, h2.ride g1 hB0 hB12, ?_, ?_⟩
    · rw [e12, ew]
      by_cases c : howA S I (up (dR S I r N s0 k) 10 (pcS (dR S I r N s0 k 10) (drw (r 5 + r 6 + 1) (sdS s0 (k + 1))) (r 6))) N = 0
      · rw [if_pos c, if_pos c, i3, show k + 1 - (wlS S I r N s0 k + 1) = k - wlS S I r N s0 k by omega]
      · rw [if_neg c, if_neg c, i3, Int32.add_assoc, show nI (k - wlS S I r N s0 k) + 1 = nI (k - wlS S I r N s0 k + 1) from nI_add _ 1, show k + 1 - (wlS S I r N s0 k + 0) = k - wlS S I r N s0 k + 1 by omega]
    · rw [ew]; split <;> omega
theorem day_L (hT : TY S) (hn : 400 < n) (hK : RK r) (hN : r 0 = nI N) (hN6 : N ≤ 6) (hB : r 1 = nI B) (hB0 : 0 < B) (hB12 : B ≤ 12) (hFO : FO S I r) (e607 : I 60 7 = r 6) {s0 : Int64} {q : Nat} (hq : q ≤ 100) {k : Int32 → tHI → tHJ → Prop} (hk : ∀ (X : tHI) (J' : tHJ), CD I X → CJ J J' → X 60 2 = dR S I r N s0 q 9 → X 60 3 = dR S I r N s0 q 10 → X 60 5 = dR S I r N s0 q 13 → X 60 4 = nI (q - wlS S I r N s0 q) → F11_settle n S X J' (nI q - X 60 4) k) : ∀ (d f i : Nat) (X : tHI) (J' : tHJ), i + d = q → d < f → CD I X → CJ J J' → CQ S X r (Wat (WM 63 r N) 7 (dR S I r N s0 i 13)) → X 60 2 = dR S I r N s0 i 9 → X 60 3 = dR S I r N s0 i 10 → X 60 5 = dR S I r N s0 i 13 → X 60 4 = nI (i - wlS S I r N s0 i) → F11_days_L106 n S k f X J' (nI q) (r 5 + r 6 + 1) (sdS s0 i) (nI i) := by
  have hm : ∃ m, r 5 + r 6 + 1 = nI m ∧ 1 ≤ m ∧ m ≤ 121 := by
    obtain ⟨a, a1, a2, a3⟩ := hK.1.2.2.2.2.2.1
    obtain ⟨b, b1, b2, b3⟩ := hK.1.2.2.2.2.2.2.1
    rw [a1, b1, nI_add, show nI (a + b) + 1 = nI (a + b + 1) from nI_add _ 1]
    exact ⟨a + b + 1, rfl, by omega, by omega⟩
  obtain ⟨m, m1, m2, m3⟩ := hm
  have p1 : (1 : Int32) ≤ r 5 + r 6 + 1 := by rw [m1]; exact (qle (a := 1) (by omega) (by omega)).mpr m2
  have nz : ¬ (r 5 + r 6 + 1).toInt64 = 0 := fun z => by
    have := congrArg Int64.toInt z
    rw [Int32.toInt_toInt64, m1, qi (by omega), l0_64] at this
    omega
  intro d
  induction d with
  | zero =>
    intro f i X J' hi hf c1 c2 c3 c4 c5 c6 c7
    obtain ⟨f, rfl⟩ : ∃ g, f = g + 1 := ⟨f - 1, by omega⟩
    have : i = q := by omega
    subst this
    show F11_days_106 n S k (F11_days_L106 n S k f) X J' _ _ _ _
    unfold F11_days_106
    exact ⟨fun _ => hk X J' c1 c2 c4 c5 c6 c7, fun g => absurd ((qle (by omega) (by omega)).mpr (Nat.le_refl _)) g⟩
  | succ d ih =>
    intro f i X J' hi hf c1 c2 c3 c4 c5 c6 c7
    obtain ⟨f, rfl⟩ : ∃ g, f = g + 1 := ⟨f - 1, by omega⟩
    obtain ⟨i1, i2, -, i4⟩ := dR_ok (S := S) (I := I) (N := N) (s0 := s0) hK hB hB0 hB12 i
    have x607 : X 60 7 = r 6 := by rw [c1.2.2 7 (by decide) (by decide) (by decide) (by decide)]; exact e607
    show F11_days_106 n S k (F11_days_L106 n S k f) X J' _ _ _ _
    unfold F11_days_106
    rw [if_pos p1, c5, x607]
    refine ⟨fun g => ?_, fun _ => ⟨⟨fun _ => ⟨nz, trivial⟩, fun _ => trivial⟩, ?_⟩⟩
    · exfalso; have := (qle (by omega) (by omega)).mp g; omega
    · show F2_outcome n S (uI X 60 3 (pcS (dR S I r N s0 i 10) (drw (r 5 + r 6 + 1) (sdS s0 (i + 1))) (r 6))) J' ((uI X 60 3 (pcS (dR S I r N s0 i 10) (drw (r 5 + r 6 + 1) (sdS s0 (i + 1))) (r 6))) 60 2) ((uI X 60 3 (pcS (dR S I r N s0 i 10) (drw (r 5 + r 6 + 1) (sdS s0 (i + 1))) (r 6))) 60 3) _
      have hpc := pc_b (dR S I r N s0 i 10) (drw (r 5 + r 6 + 1) (sdS s0 (i + 1))) (r 6)
      have eR : dR S I r N s0 (i + 1) = rideA S I (up (dR S I r N s0 i) 10 (pcS (dR S I r N s0 i 10) (drw (r 5 + r 6 + 1) (sdS s0 (i + 1))) (r 6))) N := rfl
      have ew : wlS S I r N s0 (i + 1) = wlS S I r N s0 i + (if howA S I (up (dR S I r N s0 i) 10 (pcS (dR S I r N s0 i 10) (drw (r 5 + r 6 + 1) (sdS s0 (i + 1))) (r 6))) N = 0 then 1 else 0) := rfl
      generalize hPC : pcS (dR S I r N s0 i 10) (drw (r 5 + r 6 + 1) (sdS s0 (i + 1))) (r 6) = pc at *
      have hX1 : (uI X 60 3 pc) 1 = I 1 := by rw [uIn (by decide), c1.1 1 (by decide) (by decide)]
      have hX89 : ∀ x, 89 ≤ x → (uI X 60 3 pc) x = I x := fun x hx => by rw [uIn (by omega), c1.1 x (by omega) (by omega)]
      have hg : DG r (up (dR S I r N s0 i) 10 pc) := i1.u10
      have hFg : FO S I (up (dR S I r N s0 i) 10 pc) := hFO.dg hg
      have e13 : (up (dR S I r N s0 i) 10 pc) 13 = dR S I r N s0 i 13 := upn (by decide)
      have key := sp_day (k := fun _ I2 J2 => F11_days_L106 n S k f I2 J2 (nI q) (r 5 + r 6 + 1) (sdS s0 (i + 1)) (nI i + 1)) (I := uI X 60 3 pc) (g := up (dR S I r N s0 i) 10 pc) (J := J') hT hn hN hN6 hB hB0 hB12 hg (i2.u10p hpc)
      have hsd : sdS s0 (i + 1) = (sdS s0 i * 1103 + 12345) - (sdS s0 i * 1103 + 12345) / 1000003 * 1000003 := rfl
      rw [← hsd]
      generalize hSD : sdS s0 (i + 1) = sd1 at *
      refine key ?_ ?_ ?_ ?_ (fun Y J2 y1 y2 y3 y4 y5 y6 y7 => ?_)
      · rw [e13]
        exact ⟨c3.1.cg (fun j hj => uIn (by omega)) (fun x hx => uIn (by omega)), fun a h3 h12 => by rw [uIn (by decide)]; exact c3.2.1 a h3 h12, c3.2.2⟩
      · rw [uIe, upn (by decide), c4, upn (by decide)]
      · rw [uIe, upe, upe]
      · rw [uIe, upn (by decide), c6, e13]
      · rw [rideA_I hFg hX1 hX89] at y3 y4 y5 y6
        rw [howA_I hFg hX1 hX89] at y7
        rw [← eR] at y3 y4 y5 y6
        rw [show nI i + 1 = nI (i + 1) from nI_add i 1, ← hSD]
        refine ih f (i + 1) Y J2 (by omega) (by omega) ⟨fun x p s => by rw [y1.1 x p s, uIn s, c1.1 x p s], fun y h3 h7 => by rw [y1.2.1 y h3 h7, uIn (by decide), c1.2.1 y h3 h7], fun y h2 h3 h4 h5 => by rw [y1.2.2 y h2 h3 h4 h5, uIe, upn h3, c1.2.2 y h2 h3 h4 h5]⟩ (c2.trans y2) y3 y4 y5 y6 ?_
        rw [y7, uIe, upn (by decide), c7, ew]
        by_cases g : howA S I (up (dR S I r N s0 i) 10 pc) N = 0
        · rw [if_pos g, if_pos g, show i + 1 - (wlS S I r N s0 i + 1) = i - wlS S I r N s0 i by omega]
          exact nI_add _ 0
        · rw [if_neg g, if_neg g, show i + 1 - (wlS S I r N s0 i + 0) = i - wlS S I r N s0 i + 1 by omega]
          exact nI_add _ 1
theorem dayM_L (hn : 400 < n) (hM : MQB S I N B) (hK : RK (I 63)) (c63 : I 61 41 = 63) (hB0 : 0 < B) {s0 : Int64} {q : Nat} (hq : q ≤ 100) {v3 : Int32} {k : Int32 → tHI → tHJ → Prop} (hk : ∀ (X : tHI) (J' : tHJ), MR I X → KpJ J J' → X 63 = dR S I (I 63) N s0 q → F12_putBack n S (uI (uI (uI (uI X 88 0 (X 63 9)) 88 1 (X 63 10)) 88 2 (X 63 12 - v3)) 88 3 (X 63 13)) J' 16 (fun I12 J13 => F12_tell n S I12 J13 (nI (wlS S I (I 63) N s0 q)) (fun x16 I14 J15 => k x16 I14 J15))) : ∀ (d f i : Nat) (X : tHI) (J' : tHJ), i + d = q → d < f → MR I X → KpJ J J' → X 63 = dR S I (I 63) N s0 i → J' 61 55 = sdS s0 i → F12_days_L82 n S k f X J' (nI q) v3 (nI (wlS S I (I 63) N s0 i)) (nI i) := by
  have hB1 := hM.2.2.2.1
  have hB12 := hM.2.2.1
  have hN := hM.1.2.1
  have hN6 := hM.1.2.2.1
  have hFO := hM.1.2.2.2.2.2
  have hm : ∃ m, I 63 5 + I 63 6 + 1 = nI m ∧ 1 ≤ m ∧ m ≤ 121 := by
    obtain ⟨a, a1, a2, a3⟩ := hK.1.2.2.2.2.2.1
    obtain ⟨b, b1, b2, b3⟩ := hK.1.2.2.2.2.2.2.1
    rw [a1, b1, nI_add, show nI (a + b) + 1 = nI (a + b + 1) from nI_add _ 1]
    exact ⟨a + b + 1, rfl, by omega, by omega⟩
  obtain ⟨m, m1, m2, m3⟩ := hm
  have nz : ¬ (I 63 5 + I 63 6 + 1).toInt64 = 0 := fun z => by
    have := congrArg Int64.toInt z
    rw [Int32.toInt_toInt64, m1, qi (by omega), l0_64] at this
    omega
  intro d
  induction d with
  | zero =>
    intro f i X J' hi hf c1 c2 c3 c4
    obtain ⟨f, rfl⟩ : ∃ g, f = g + 1 := ⟨f - 1, by omega⟩
    have : i = q := by omega
    subst this
    show F12_days_82 n S k (F12_days_L82 n S k f) X J' _ _ _ _
    unfold F12_days_82
    have := hk X J' c1 c2 c3
    have e1 : (uI X 88 0 (X 63 9)) 63 = X 63 := uIn (by decide)
    have e2 : (uI (uI X 88 0 (X 63 9)) 88 1 (X 63 10)) 63 = X 63 := by rw [uIn (by decide), e1]
    have e3 : (uI (uI (uI X 88 0 (X 63 9)) 88 1 (X 63 10)) 88 2 (X 63 12 - v3)) 63 = X 63 := by rw [uIn (by decide), e2]
    rw [e1, e2, e3]
    exact ⟨fun _ => this, fun g => absurd ((qle (by omega) (by omega)).mpr (Nat.le_refl _)) g⟩
  | succ d ih =>
    intro f i X J' hi hf c1 c2 c3 c4
    obtain ⟨f, rfl⟩ : ∃ g, f = g + 1 := ⟨f - 1, by omega⟩
    obtain ⟨i1, i2, -, i4⟩ := dR_ok (S := S) (I := I) (N := N) (s0 := s0) hK hB1 hB0 hB12 i
    show F12_days_82 n S k (F12_days_L82 n S k f) X J' _ _ _ _
    unfold F12_days_82 F12_draw
    have x5 : X 63 5 = I 63 5 := by rw [c3]; exact i1 5 (by decide) (by decide) (by decide) (by decide)
    have x6 : X 63 6 = I 63 6 := by rw [c3]; exact i1 6 (by decide) (by decide) (by decide) (by decide)
    rw [x5, x6, c4]
    have j55 : (uJ J' 61 55 ((sdS s0 i * 1103 + 12345) - (sdS s0 i * 1103 + 12345) / 1000003 * 1000003)) 61 55 = sdS s0 (i + 1) := by rw [uJe, upJe]; rfl
    rw [j55]
    refine ⟨fun g => ?_, fun _ => ⟨nz, ?_⟩⟩
    · exfalso; have := (qle (by omega) (by omega)).mp g; omega
    · show F12_rideIt n S (uI X 63 10 (V12_within ((X 63 10 + (drw (I 63 5 + I 63 6 + 1) (sdS s0 (i + 1)) - X 63 6)).toInt64) 1 60)) _ _
      rw [pc_w, x6, c3]
      have hpc := pc_b (dR S I (I 63) N s0 i 10) (drw (I 63 5 + I 63 6 + 1) (sdS s0 (i + 1))) (I 63 6)
      have eR : dR S I (I 63) N s0 (i + 1) = rideA S I (up (dR S I (I 63) N s0 i) 10 (pcS (dR S I (I 63) N s0 i 10) (drw (I 63 5 + I 63 6 + 1) (sdS s0 (i + 1))) (I 63 6))) N := rfl
      have ew : wlS S I (I 63) N s0 (i + 1) = wlS S I (I 63) N s0 i + (if howA S I (up (dR S I (I 63) N s0 i) 10 (pcS (dR S I (I 63) N s0 i 10) (drw (I 63 5 + I 63 6 + 1) (sdS s0 (i + 1))) (I 63 6))) N = 0 then 1 else 0) := rfl
      generalize hPC : pcS (dR S I (I 63) N s0 i 10) (drw (I 63 5 + I 63 6 + 1) (sdS s0 (i + 1))) (I 63 6) = pc at *
      have e63 : (uI X 63 10 pc) 63 = up (dR S I (I 63) N s0 i) 10 pc := by rw [uIe, c3]
      have hX1 : (uI X 63 10 pc) 1 = I 1 := by rw [uIn (by decide), c1.1 1 (by decide) (by decide)]
      have hX89 : ∀ x, 89 ≤ x → (uI X 63 10 pc) x = I x := fun x hx => by rw [uIn (by omega), c1.1 x (by omega) (by omega)]
      have hg : DG (I 63) (up (dR S I (I 63) N s0 i) 10 pc) := i1.u10
      have hFg : FO S I (up (dR S I (I 63) N s0 i) 10 pc) := hFO.dg hg
      have e41 : (uI X 63 10 pc) 61 41 = 63 := by rw [uIn (by decide), c1.2 41 (by decide)]; exact c63
      have hMX : MQB S (uI X 63 10 pc) N B := MQB.of (by rw [uIn (by decide), c1.2 20 (by decide)]; exact hM.1.1) e41 (by rw [e63]; exact i2.u10p hpc) (by rw [e63, hg 0 (by decide) (by decide) (by decide) (by decide)]; exact hN) hN6 (by rw [e63, hg 1 (by decide) (by decide) (by decide) (by decide)]; exact hB1) hB12 (by rw [e63]; exact hFg.cg hX1 hX89 rfl (fun _ _ => rfl))
      refine sp_rideIt hn hMX (by rw [e63]; exact i2.u10p hpc) e41 hB0 (fun Y J2 y1 y2 y3 => ?_)
      rw [e63, howA_I hFg hX1 hX89]
      rw [e63, rideA_I hFg hX1 hX89, ← eR] at y3
      rw [show nI i + 1 = nI (i + 1) from nI_add i 1]
      have key := ih f (i + 1) Y J2 (by omega) (by omega) (c1.mk (fun x p s => by rw [y1.1 x p s, uIn s]) (fun y hy => by rw [y1.2 y hy, uIn (by decide)])) (c2.trans (fun x hx => by
        have : x = 76 ∨ x = 77 ∨ x = 78 ∨ x = 86 := by simpa using hx
        rw [y2.1 x (by omega) (by omega) (by omega), uJn (by omega)])) y3 (by rw [y2.2 55 (by decide) (by decide)]; exact j55)
      rw [ew] at key
      by_cases g : howA S I (up (dR S I (I 63) N s0 i) 10 pc) N = 0
      · rw [if_pos g] at key ⊢
        rw [show nI (wlS S I (I 63) N s0 i) + 1 = nI (wlS S I (I 63) N s0 i + 1) from nI_add _ 1]
        exact key
      · rw [if_neg g] at key ⊢
        rw [show nI (wlS S I (I 63) N s0 i) + 0 = nI (wlS S I (I 63) N s0 i + 0) from nI_add _ 0]
        exact key
end DY2
