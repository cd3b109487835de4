/-! the tape: feed (the rows of bits are the kit's, pasted) -/
def bt (x : Int32) (i : Nat) : Bool := x.toBitVec.getLsbD i
theorem b_ext {x y : Int32} (h : ∀ i, i < 32 → bt x i = bt y i) : x = y := Int32.toBitVec_inj.mp (BitVec.eq_of_getLsbD_eq (fun i hi => h i hi))
theorem b_or (x y : Int32) (i : Nat) : bt (x ||| y) i = (bt x i || bt y i) := by unfold bt; rw [Int32.toBitVec_or, BitVec.getLsbD_or]
theorem b_and (x y : Int32) (i : Nat) : bt (x &&& y) i = (bt x i && bt y i) := by unfold bt; rw [Int32.toBitVec_and, BitVec.getLsbD_and]
theorem b_xor (x y : Int32) (i : Nat) : bt (x ^^^ y) i = (bt x i ^^ bt y i) := by unfold bt; rw [Int32.toBitVec_xor, BitVec.getLsbD_xor]
theorem b_big {x : Int32} {i : Nat} (h : 32 ≤ i) : bt x i = false := BitVec.getLsbD_of_ge _ _ h
theorem b_255 (i : Nat) : bt 255 i = decide (i < 8) := by
  rcases Nat.lt_or_ge i 32 with h | h
  · exact (by decide +kernel : ∀ i, i < 32 → bt 255 i = decide (i < 8)) i h
  · rw [b_big h, decide_eq_false (by omega)]
theorem b_65535 (i : Nat) : bt 65535 i = decide (i < 16) := by
  rcases Nat.lt_or_ge i 32 with h | h
  · exact (by decide +kernel : ∀ i, i < 32 → bt 65535 i = decide (i < 16)) i h
  · rw [b_big h, decide_eq_false (by omega)]
theorem b_m1 : ∀ i, i < 32 → bt (-1) i = true := by decide +kernel
theorem b_0 (i : Nat) : bt 0 i = false := BitVec.getLsbD_zero
theorem s_l : ∀ n, n < 32 → ((nI n &&& 31).toBitVec.smod 32).toNat = n := by decide +kernel
theorem s_u : ∀ n, n < 32 → (((nI n).toUInt32 &&& Int32.toUInt32 31).toBitVec % 32).toNat = n := by decide +kernel
theorem b_shl (n : Nat) (hn : n < 32) (x : Int32) {i : Nat} (hi : i < 32) : bt (x <<< (nI n &&& 31)) i = (decide (n ≤ i) && bt x (i - n)) := by
  unfold bt
  rw [Int32.toBitVec_shiftLeft]
  show (x.toBitVec <<< ((nI n &&& 31).toBitVec.smod 32).toNat).getLsbD i = _
  rw [s_l n hn, BitVec.getLsbD_shiftLeft]
  rcases Nat.lt_or_ge i n with h | h
  · simp [h, Nat.not_le.mpr h]
  · simp [hi, h, Nat.not_lt.mpr h]
theorem b_ushr (n : Nat) (hn : n < 32) (x : Int32) (i : Nat) : bt ((x.toUInt32 >>> ((nI n).toUInt32 &&& Int32.toUInt32 31)).toInt32) i = bt x (n + i) := by
  show (x.toUInt32 >>> ((nI n).toUInt32 &&& Int32.toUInt32 31)).toBitVec.getLsbD i = x.toUInt32.toBitVec.getLsbD (n + i)
  rw [UInt32.toBitVec_shiftRight]
  show (x.toUInt32.toBitVec >>> (((nI n).toUInt32 &&& Int32.toUInt32 31).toBitVec % 32).toNat).getLsbD i = _
  rw [s_u n hn, BitVec.getLsbD_ushiftRight]
theorem b_sshr (n : Nat) (hn : n < 32) (x : Int32) {i : Nat} (hi : i < 32) : bt (x >>> (nI n &&& 31)) i = if n + i < 32 then bt x (n + i) else bt x 31 := by
  unfold bt
  rw [Int32.toBitVec_shiftRight]
  show (x.toBitVec.sshiftRight ((nI n &&& 31).toBitVec.smod 32).toNat).getLsbD i = _
  rw [s_l n hn, BitVec.getLsbD_sshiftRight, BitVec.msb_eq_getLsbD_last]
  simp [hi]
theorem b_shl8 (x : Int32) {i : Nat} (hi : i < 32) : bt (x <<< ((8 : Int32) &&& 31)) i = (decide (8 ≤ i) && bt x (i - 8)) := b_shl 8 (by omega) x hi
theorem b_shl16 (x : Int32) {i : Nat} (hi : i < 32) : bt (x <<< ((16 : Int32) &&& 31)) i = (decide (16 ≤ i) && bt x (i - 16)) := b_shl 16 (by omega) x hi
theorem b_shl24 (x : Int32) {i : Nat} (hi : i < 32) : bt (x <<< ((24 : Int32) &&& 31)) i = (decide (24 ≤ i) && bt x (i - 24)) := b_shl 24 (by omega) x hi
theorem b_sshr8 (x : Int32) {i : Nat} (hi : i < 32) : bt (x >>> ((8 : Int32) &&& 31)) i = if 8 + i < 32 then bt x (8 + i) else bt x 31 := b_sshr 8 (by omega) x hi
/-! ===== nI under and, xor, >>>, one bit, 65535 ===== -/
theorem nx_and (a b : Nat) : nI a &&& nI b = nI (a &&& b) := by
  apply Int32.toBitVec_inj.1
  show BitVec.ofNat 32 a &&& BitVec.ofNat 32 b = BitVec.ofNat 32 (a &&& b)
  apply BitVec.eq_of_getLsbD_eq
  intro i hi
  simp [hi]
def byt (v : Int32) (s : Nat) : Int32 := (v >>> (nI s &&& 31)) &&& 255
theorem byt_u {v : Int32} {s : Nat} (hs : s ≤ 24) : (((v.toUInt32 >>> ((nI s).toUInt32 &&& Int32.toUInt32 31)).toInt32) &&& 255) = byt v s := by
  refine b_ext (fun i hi => ?_)
  unfold byt
  rw [b_and, b_and, b_255, b_ushr s (by omega), b_sshr s (by omega) v hi]
  by_cases h : i < 8
  · rw [if_pos (by omega)]
  · simp [h]
theorem byt_r (v : Int32) (s : Nat) : ∃ b, byt v s = nI b ∧ b < 256 := by
  unfold byt
  generalize v >>> (nI s &&& 31) = x
  have e : x = nI x.toBitVec.toNat := Int32.toBitVec_inj.mp (by show _ = BitVec.ofNat 32 _; simp)
  refine ⟨x.toBitVec.toNat &&& 255, by rw [← nx_and, ← e]; rfl, ?_⟩
  have := Nat.and_le_right (n := x.toBitVec.toNat) (m := 255)
  omega
def shf (j : Nat) : Int32 := if j < 4 then nI (24 - 8 * j) else -8
theorem shf_s {j : Nat} (h : j < 4) : nI (24 - 8 * j) + (-8) = shf (j + 1) := by
  have : j = 0 ∨ j = 1 ∨ j = 2 ∨ j = 3 := by omega
  rcases this with rfl | rfl | rfl | rfl <;> decide
/-- four more bytes behind z -/
def four (f g : Nat → Int32) (z j : Nat) (v : Int32) : Prop := (∀ y, y < z ∨ z + 4 ≤ y → g y = f y) ∧ ∀ i, i < j → g (z + i) = byt v (24 - 8 * i)
theorem sp_append_L {n : Nat} {S : tSH} {I : tHI} {J : tHJ} {v : Int32} {k : tHI → tHJ → Prop} {z : Nat} (hz : z + 4 ≤ 400) (hk : ∀ X : tHI, (∀ x, x ≠ 38 → x ≠ 39 → X x = I x) → (∀ y, y ≠ 1 → X 38 y = I 38 y) → X 38 1 = nI (z + 4) → four (I 39) (X 39) z 4 v → k X J) : ∀ (d f j : Nat) (X : tHI), j + d = 4 → d < f → (∀ x, x ≠ 38 → x ≠ 39 → X x = I x) → (∀ y, y ≠ 1 → X 38 y = I 38 y) → X 38 1 = nI (z + j) → four (I 39) (X 39) z j v → F9_append_L3 n S 38 k f X J v (shf j) := by
  intro d
  induction d with
  | zero =>
    intro f j X hj hf h1 h2 h3 h4
    obtain ⟨f, rfl⟩ : ∃ g, f = g + 1 := ⟨f - 1, by omega⟩
    have : j = 4 := by omega
    subst this
    show F9_append_3 n S 38 k (F9_append_L3 n S 38 k f) X J v (-8)
    unfold F9_append_3 F9_append_49
    exact ⟨fun _ => hk X h1 h2 h3 h4, fun q => absurd (by decide) q⟩
  | succ d ih =>
    intro f j X hj hf h1 h2 h3 h4
    obtain ⟨f, rfl⟩ : ∃ g, f = g + 1 := ⟨f - 1, by omega⟩
    have hs : shf j = nI (24 - 8 * j) := if_pos (by omega)
    rw [hs]
    show F9_append_3 n S 38 k (F9_append_L3 n S 38 k f) X J v (nI (24 - 8 * j))
    unfold F9_append_3 F9_append_49
    refine ⟨fun q => ?_, fun _ => ⟨fun q => ?_, fun _ => ⟨?_, ?_⟩⟩⟩
    · rw [Int32.lt_iff_toInt_lt, qi (by omega)] at q
      have : (0 : Int32).toInt = 0 := rfl
      omega
    · rw [h3, Int32.le_iff_toInt_le, qi (by omega)] at q
      have : (400 : Int32).toInt = 400 := rfl
      omega
    · rw [h3]; exact (qin (by omega)).mpr (by omega)
    · rw [h3, qn (show z + j < 2147483648 by omega), byt_u (by omega)]
      have w : ∀ b : Int32, (uI X 39 (z + j) b) 38 1 = nI (z + j) := fun b => by rw [uIn (by decide)]; exact h3
      rw [w, nI_1, shf_s (by omega)]
      refine ih f (j + 1) _ (by omega) (by omega) (fun x a b => by rw [uIn a, uIn b]; exact h1 x a b) (fun y hy => by rw [uIe, upn hy, uIn (by decide)]; exact h2 y hy) (by rw [uIe, upe]; rfl) ⟨fun y hy => ?_, fun i hi => ?_⟩
      · rw [uIn (by decide), uIe, upn (by omega)]; exact h4.1 y hy
      · rw [uIn (by decide), uIe]
        by_cases g : i = j
        · subst g; rw [upe]
        · rw [upn (by omega)]; exact h4.2 i (by omega)
theorem sp_append {n : Nat} {S : tSH} {I : tHI} {J : tHJ} {v : Int32} {k : tHI → tHJ → Prop} {z : Nat} (hn : 4 < n) (h3 : I 38 1 = nI z) (hz : z + 4 ≤ 400) (hk : ∀ X : tHI, (∀ x, x ≠ 38 → x ≠ 39 → X x = I x) → (∀ y, y ≠ 1 → X 38 y = I 38 y) → X 38 1 = nI (z + 4) → four (I 39) (X 39) z 4 v → k X J) : F9_append n S I J 38 v k := by
  unfold F9_append
  exact sp_append_L hz hk 4 n 0 I (by omega) hn (fun _ _ _ => rfl) (fun _ _ => rfl) h3 ⟨fun _ _ => rfl, fun i hi => by omega⟩
theorem sp_four_L {n : Nat} {S : tSH} {I : tHI} {J : tHJ} {v : Int32} {k : tHI → tHJ → Prop} {z : Nat} (hz : z + 4 ≤ 400) (hk : ∀ X : tHI, (∀ x, x ≠ 61 → x ≠ 70 → X x = I x) → (∀ y, y ≠ 13 → X 61 y = I 61 y) → X 61 13 = nI (z + 4) → four (I 70) (X 70) z 4 v → k X J) : ∀ (d f j : Nat) (X : tHI), j + d = 4 → d < f → (∀ x, x ≠ 61 → x ≠ 70 → X x = I x) → (∀ y, y ≠ 13 → X 61 y = I 61 y) → X 61 13 = nI (z + j) → four (I 70) (X 70) z j v → F12_four_L3 n S k f X J v (shf j) := by
  intro d
  induction d with
  | zero =>
    intro f j X hj hf h1 h2 h3 h4
    obtain ⟨f, rfl⟩ : ∃ g, f = g + 1 := ⟨f - 1, by omega⟩
    have : j = 4 := by omega
    subst this
    show F12_four_3 n S k (F12_four_L3 n S k f) X J v (-8)
    unfold F12_four_3
    exact ⟨fun _ => hk X h1 h2 h3 h4, fun q => absurd (by decide) q⟩
  | succ d ih =>
    intro f j X hj hf h1 h2 h3 h4
    obtain ⟨f, rfl⟩ : ∃ g, f = g + 1 := ⟨f - 1, by omega⟩
    have hs : shf j = nI (24 - 8 * j) := if_pos (by omega)
    rw [hs]
    show F12_four_3 n S k (F12_four_L3 n S k f) X J v (nI (24 - 8 * j))
    unfold F12_four_3
    refine ⟨fun q => ?_, fun _ => ⟨?_, ?_⟩⟩
    · rw [Int32.lt_iff_toInt_lt, qi (by omega)] at q
      have : (0 : Int32).toInt = 0 := rfl
      omega
    · rw [h3]; exact (qin (by omega)).mpr (by omega)
    · rw [h3, qn (show z + j < 2147483648 by omega)]
      have w : ∀ b : Int32, (uI X 70 (z + j) b) 61 13 = nI (z + j) := fun b => by rw [uIn (by decide)]; exact h3
      rw [w, nI_1, shf_s (by omega)]
      refine ih f (j + 1) _ (by omega) (by omega) (fun x a b => by rw [uIn a, uIn b]; exact h1 x a b) (fun y hy => by rw [uIe, upn hy, uIn (by decide)]; exact h2 y hy) (by rw [uIe, upe]; rfl) ⟨fun y hy => ?_, fun i hi => ?_⟩
      · rw [uIn (by decide), uIe, upn (by omega)]; exact h4.1 y hy
      · rw [uIn (by decide), uIe]
        by_cases g : i = j
        · subst g; rw [upe]; rfl
        · rw [upn (by omega)]; exact h4.2 i (by omega)
theorem sp_four {n : Nat} {S : tSH} {I : tHI} {J : tHJ} {v : Int32} {k : tHI → tHJ → Prop} {z : Nat} (hn : 4 < n) (h3 : I 61 13 = nI z) (hz : z + 4 ≤ 400) (hk : ∀ X : tHI, (∀ x, x ≠ 61 → x ≠ 70 → X x = I x) → (∀ y, y ≠ 13 → X 61 y = I 61 y) → X 61 13 = nI (z + 4) → four (I 70) (X 70) z 4 v → k X J) : F12_four n S I J v k := by
  unfold F12_four
  exact sp_four_L hz hk 4 n 0 I (by omega) hn (fun _ _ _ => rfl) (fun _ _ => rfl) h3 ⟨fun _ _ => rfl, fun i hi => by omega⟩
theorem four.eq {f g f' g' : Nat → Int32} {z : Nat} {v : Int32} (h : four f g z 4 v) (h' : four f' g' z 4 v) (e : ∀ y, y < z → f y = f' y ∧ ∃ b, f y = nI b ∧ b < 256) : ∀ y, y < z + 4 → g y = g' y ∧ ∃ b, g y = nI b ∧ b < 256 := by
  intro y hy
  by_cases c : y < z
  · rw [h.1 y (Or.inl c), h'.1 y (Or.inl c)]; exact e y c
  · obtain ⟨i, rfl⟩ : ∃ i, y = z + i := ⟨y - z, by omega⟩
    rw [h.2 i (by omega), h'.2 i (by omega)]
    exact ⟨rfl, byt_r v _⟩
/-- the tape alone is anew -/
theorem Inv.tape {S : tSH} {I X : tHI} {J : tHJ} (h : Inv S I J) (e : ∀ x, x ≠ 38 → x ≠ 39 → x ≠ 61 → x ≠ 70 → X x = I x) (e61 : ∀ y, y ∈ [1, 8, 11, 18, 20, 41, 53, 57] → X 61 y = I 61 y) (hT : RTp (X 38) (X 39) (X 61) (X 70)) : Inv S X J := by
  obtain ⟨h1, h2, h3, h4, h5, h6, h7⟩ := h
  have e89 : ∀ x, 89 ≤ x → X x = I x := fun x hx => e x (by omega) (by omega) (by omega) (by omega)
  refine ⟨h1, ?_, ?_, hT, ?_, ?_, ?_⟩
  · rw [e 63 (by decide) (by decide) (by decide) (by decide)]; exact h2.cg (fun i hi => e _ (by omega) (by omega) (by omega) (by omega)) e89
  · rw [e 34 (by decide) (by decide) (by decide) (by decide), e 35 (by decide) (by decide) (by decide) (by decide), e 66 (by decide) (by decide) (by decide) (by decide), e 67 (by decide) (by decide) (by decide) (by decide), e 63 (by decide) (by decide) (by decide) (by decide)]
    exact h3.r (e61 8 (by decide)) rfl rfl (fun _ _ _ => rfl) (fun _ _ _ => rfl)
  · exact h5.cg (e 64 (by decide) (by decide) (by decide) (by decide)) (e 65 (by decide) (by decide) (by decide) (by decide)) e89
  · show RM _ _ _ _ _ _ _
    rw [e 59 (by decide) (by decide) (by decide) (by decide), e 60 (by decide) (by decide) (by decide) (by decide), e 62 (by decide) (by decide) (by decide) (by decide), e 88 (by decide) (by decide) (by decide) (by decide), e 0 (by decide) (by decide) (by decide) (by decide), e 40 (by decide) (by decide) (by decide) (by decide)]
    refine RM.cg h6 (fun _ _ => rfl) rfl (fun y hy => e61 y ?_)
    have : y = 1 ∨ y = 11 ∨ y = 18 ∨ y = 53 ∨ y = 57 := by simpa using hy
    rcases this with q | q | q | q | q <;> subst q <;> decide
  · exact h7.cg (e61 20 (by decide)) (e61 41 (by decide)) (fun y _ => by rw [e 49 (by decide) (by decide) (by decide) (by decide)]) (fun y _ => by rw [e 50 (by decide) (by decide) (by decide) (by decide)]) (KpJ.rf J)
theorem st_feed {n : Nat} (hn : 4 < n) : tSt_feed n Inv := by
  intro S I J v1 v2 v3 v4 v5 h
  obtain ⟨z, z1, z2, z3, z4⟩ := h.2.2.2.1
  unfold F11_feed
  have e20 : I 38 1 + 20 = nI (z + 20) := by rw [z2]; exact qaddl z 20
  rw [e20]
  refine ⟨fun c => ?_, fun c => ?_⟩
  · have c : z + 20 ≤ 400 := (qle (b := 400) (by omega) (by omega)).mp c
    refine sp_append hn (z := z + 0) z2 (by omega) (fun A1 a11 a12 a13 a14 => ?_)
    refine sp_append hn (z := z + 4) a13 (by omega) (fun A2 a21 a22 a23 a24 => ?_)
    refine sp_append hn (z := z + 8) a23 (by omega) (fun A3 a31 a32 a33 a34 => ?_)
    refine sp_append hn (z := z + 12) a33 (by omega) (fun A4 a41 a42 a43 a44 => ?_)
    refine sp_append hn (z := z + 16) a43 (by omega) (fun A5 a51 a52 a53 a54 => ?_)
    show F12_feed n S A5 J v1 v2 v3 v4 v5 (fun y I2 J2 => A5 38 1 = y ∧ Inv S I2 J2)
    unfold F12_feed
    have k13 : A5 61 13 = nI z := by rw [a51 61 (by decide) (by decide), a41 61 (by decide) (by decide), a31 61 (by decide) (by decide), a21 61 (by decide) (by decide), a11 61 (by decide) (by decide)]; exact z3
    have k13b : (uI A5 61 0 0) 61 13 = nI z := by rw [s61 (by decide)]; exact k13
    have e20b : (uI A5 61 0 0) 61 13 + 20 = nI (z + 20) := by rw [k13b]; exact qaddl z 20
    rw [e20b]
    refine ⟨fun _ => ?_, fun q => absurd ((qle (b := 400) (by omega) (by omega)).mpr c) q⟩
    refine sp_four hn (z := z + 0) k13b (by omega) (fun B1 b11 b12 b13 b14 => ?_)
    refine sp_four hn (z := z + 4) b13 (by omega) (fun B2 b21 b22 b23 b24 => ?_)
    refine sp_four hn (z := z + 8) b23 (by omega) (fun B3 b31 b32 b33 b34 => ?_)
    refine sp_four hn (z := z + 12) b33 (by omega) (fun B4 b41 b42 b43 b44 => ?_)
    refine sp_four hn (z := z + 16) b43 (by omega) (fun B5 b51 b52 b53 b54 => ?_)
    refine ⟨by rw [b53, a53], ?_⟩
    have eA : ∀ x, x ≠ 38 → x ≠ 39 → A5 x = I x := fun x p q => by rw [a51 x p q, a41 x p q, a31 x p q, a21 x p q, a11 x p q]
    have eB : ∀ x, x ≠ 61 → x ≠ 70 → B5 x = A5 x := fun x p q => by rw [b51 x p q, b41 x p q, b31 x p q, b21 x p q, b11 x p q, uIn p]
    have eB0 : (uI A5 61 0 0) 70 = I 70 := by rw [uIn (by decide), eA 70 (by decide) (by decide)]
    rw [eB0] at b14
    have q1 := a14.eq b14 z4
    have q2 := a24.eq b24 q1
    have q3 := a34.eq b34 q2
    have q4 := a44.eq b44 q3
    have q5 := a54.eq b54 q4
    refine h.tape (fun x p q r s => by rw [eB x r s, eA x p q]) (fun y hy => ?_) ⟨z + 20, by omega, ?_, b53, ?_⟩
    · have hy13 : y ≠ 13 := fun q => by subst q; revert hy; decide
      have hy0 : y ≠ 0 := fun q => by subst q; revert hy; decide
      rw [b52 y hy13, b42 y hy13, b32 y hy13, b22 y hy13, b12 y hy13, s61 hy0, eA 61 (by decide) (by decide)]
    · rw [eB 38 (by decide) (by decide)]; exact a53
    · rw [eB 39 (by decide) (by decide)]; exact q5
  · have c : ¬ z + 20 ≤ 400 := fun q => c ((qle (b := 400) (by omega) (by omega)).mpr q)
    show F12_feed n S I J v1 v2 v3 v4 v5 (fun y I2 J2 => -1 = y ∧ Inv S I2 J2)
    unfold F12_feed
    have e20b : (uI I 61 0 0) 61 13 + 20 = nI (z + 20) := by rw [s61 (by decide), z3]; exact qaddl z 20
    rw [e20b]
    exact ⟨fun q => absurd ((qle (b := 400) (by omega) (by omega)).mp q) c, fun _ => ⟨rfl, h.th⟩⟩
