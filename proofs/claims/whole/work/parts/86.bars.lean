/-! setting -/
theorem sum_cg {set : Int32} {r r' : Nat → Int32} (e : ∀ k, 14 ≤ k → k < 38 → r' k = r k) : ∀ i, i ≤ 6 → sCh set r' i = sCh set r i ∧ sRe set r' i = sRe set r i ∧ sLe set r' i = sLe set r i := by
  intro i
  induction i with
  | zero => intro _; exact ⟨rfl, rfl, rfl⟩
  | succ i ih =>
    intro hi
    obtain ⟨a, b, c⟩ := ih (by omega)
    simp only [sCh, sRe, sLe]
    rw [a, b, c, e _ (by omega) (by omega), e _ (by omega) (by omega), e (32 + i) (by omega) (by omega), e (20 + i) (by omega) (by omega)]
    exact ⟨rfl, rfl, rfl⟩
def Wat (W : Nat → Int32) (q : Nat) (v : Int32) : Nat → Int32 := fun a => if a = q then v else W a
theorem WM_8 {r : Nat → Int32} {N : Nat} (hN : N ≤ 6) {v : Int32} {a : Nat} : WM 63 (up r 8 v) N a = Wat (WM 63 r N) 6 v a := by
  obtain ⟨s1, s2, s3⟩ := sum_cg (set := 63) (r := r) (r' := up r 8 v) (fun k p q => upn (by omega)) N hN
  unfold WM Wat
  rw [s1, s2, s3, upe, upn (show 13 ≠ 8 by decide), upn (show 7 ≠ 8 by decide)]
  by_cases g : a = 6
  · subst g; rfl
  · simp [g]
theorem WM_13 {r : Nat → Int32} {N : Nat} (hN : N ≤ 6) {v : Int32} {a : Nat} : WM 63 (up r 13 v) N a = Wat (WM 63 r N) 7 v a := by
  obtain ⟨s1, s2, s3⟩ := sum_cg (set := 63) (r := r) (r' := up r 13 v) (fun k p q => upn (by omega)) N hN
  unfold WM Wat
  rw [s1, s2, s3, upe, upn (show 8 ≠ 13 by decide), upn (show 7 ≠ 13 by decide)]
  by_cases g : a = 7
  · subst g; rfl
  · simp [g]
theorem aT_row {S : tSH} {I : tHI} {r r' : Nat → Int32} {b : Nat} {W W' : Nat → Int32} {kd : Nat} (hb : b < 12) (er : ∀ k, 38 ≤ k → k < 86 → r' k = r k) (h : ∀ a, 3 ≤ a → a < 12 → W' a = W a) : aT S I r' b W' kd = aT S I r b W kd := by
  have e : aT S I r' b W' kd = aT S I r b W' kd := by
    unfold aT
    have : wB r' b W' = wB r b W' := by
      funext a
      unfold wB
      rw [er _ (by omega) (by omega), er _ (by omega) (by omega), er _ (by omega) (by omega)]
    rw [this]
  rw [e]
  exact aT_cg h
def absI (x : Int32) : Int32 := if 0 ≤ x then x else 0 - x
def plS (S : tSH) (I : tHI) (r W : Nat → Int32) : Nat → Int32
  | 0 => 0
  | b + 1 => plS S I r W b + absI (aT S I r b W 3) * r (38 + 4 * b + 1)
def vi (i : Nat) : Int32 := nI i - 9
theorem vi_i {i : Nat} (h : i < 1000) : (vi i).toInt = i - 9 := by
  unfold vi
  have z9 : (9 : Int32).toInt = 9 := rfl
  rw [ti_sub (by rw [qi (by omega), z9]; omega) (by rw [qi (by omega), z9]; omega), qi (by omega), z9]
theorem vi_s {i : Nat} (h : i < 900) : vi i + 1 = vi (i + 1) := by
  refine Int32.toInt_inj.mp ?_
  have z1 : (1 : Int32).toInt = 1 := rfl
  rw [ti_add (by rw [vi_i (by omega), z1]; omega) (by rw [vi_i (by omega), z1]; omega), vi_i (show i < 1000 by omega), vi_i (show i + 1 < 1000 by omega), z1]
  omega
def bbL (P : Nat → Int32) (far : Int32) : Nat → Int32
  | 0 => far
  | i + 1 => if bbL P far i ≤ P i then bbL P far i else P i
def bbF (P : Nat → Int32) (far : Int32) : Nat → Int32
  | 0 => 0
  | i + 1 => if bbL P far i ≤ P i then bbF P far i else vi i
theorem bb_far {P : Nat → Int32} {f1 f2 : Int32} (h1 : P 0 < f1) (h2 : P 0 < f2) : ∀ i, bbL P f1 (i + 1) = bbL P f2 (i + 1) ∧ bbF P f1 (i + 1) = bbF P f2 (i + 1) := by
  intro i
  induction i with
  | zero =>
    rw [Int32.lt_iff_toInt_lt] at h1 h2
    have a1 : ¬ f1 ≤ P 0 := fun q => by rw [Int32.le_iff_toInt_le] at q; omega
    have a2 : ¬ f2 ≤ P 0 := fun q => by rw [Int32.le_iff_toInt_le] at q; omega
    have e1 : ∀ f, bbL P f (0 + 1) = if bbL P f 0 ≤ P 0 then bbL P f 0 else P 0 := fun f => rfl
    have e2 : ∀ f, bbF P f (0 + 1) = if bbL P f 0 ≤ P 0 then bbF P f 0 else vi 0 := fun f => rfl
    rw [e1, e1, e2, e2, if_neg (show ¬ bbL P f1 0 ≤ P 0 from a1), if_neg (show ¬ bbL P f2 0 ≤ P 0 from a2), if_neg (show ¬ bbL P f1 0 ≤ P 0 from a1), if_neg (show ¬ bbL P f2 0 ≤ P 0 from a2)]
    exact ⟨rfl, rfl⟩
  | succ i ih =>
    have e1 : ∀ f, bbL P f (i + 1 + 1) = if bbL P f (i + 1) ≤ P (i + 1) then bbL P f (i + 1) else P (i + 1) := fun f => rfl
    have e2 : ∀ f, bbF P f (i + 1 + 1) = if bbL P f (i + 1) ≤ P (i + 1) then bbF P f (i + 1) else vi (i + 1) := fun f => rfl
    rw [e1, e1, e2, e2, ih.1, ih.2]
    exact ⟨rfl, rfl⟩
/-- how far a pull goes -/
theorem pull_b {S : tSH} {I : tHI} {r W : Nat → Int32} {b : Nat} (hc : -3 ≤ (r (38 + 4 * b + 2)).toInt ∧ (r (38 + 4 * b + 2)).toInt ≤ 3) (h3 : 0 ≤ (W 3).toInt ∧ (W 3).toInt ≤ 1200) (h6 : -9 ≤ (W 6).toInt ∧ (W 6).toInt ≤ 9) : -99 ≤ (aT S I r b W 3).toInt ∧ (aT S I r b W 3).toInt ≤ 99 := by
  unfold aT tellV
  cases lawT S I (wl (wB r b W)) (nI 3) with
  | none =>
    show -99 ≤ (r (38 + 4 * b + 2) * 5 + W 3 / 20 - W 6).toInt ∧ (r (38 + 4 * b + 2) * 5 + W 3 / 20 - W 6).toInt ≤ 99
    have z5 : (5 : Int32).toInt = 5 := rfl
    have d1 : (r (38 + 4 * b + 2) * 5).toInt = (r (38 + 4 * b + 2)).toInt * 5 := ti_mul (by rw [z5]) (by omega) (by omega)
    have d2 : (W 3 / 20).toInt = (W 3).toInt / 20 := by
      rw [Int32.toInt_div, show (20 : Int32).toInt = 20 from rfl, Int.bmod_def, Int.tdiv_eq_ediv_of_nonneg h3.1]
      omega
    have d3 : (r (38 + 4 * b + 2) * 5 + W 3 / 20).toInt = (r (38 + 4 * b + 2)).toInt * 5 + (W 3).toInt / 20 := by rw [ti_add (by rw [d1, d2]; omega) (by rw [d1, d2]; omega), d1, d2]
    rw [ti_sub (by rw [d3]; omega) (by rw [d3]; omega), d3]
    omega
  | some v =>
    show -99 ≤ (V2_nearest 3 v).toInt ∧ (V2_nearest 3 v).toInt ≤ 99
    rw [near3, mwi (by decide), show (-99 : Int32).toInt = -99 by decide, show (99 : Int32).toInt = 99 from rfl]
    omega
theorem plS_b {S : tSH} {I : tHI} {r W : Nat → Int32} (hB : KB r) (h3 : 0 ≤ (W 3).toInt ∧ (W 3).toInt ≤ 1200) (h6 : -9 ≤ (W 6).toInt ∧ (W 6).toInt ≤ 9) : ∀ b, b ≤ 12 → 0 ≤ (plS S I r W b).toInt ∧ (plS S I r W b).toInt ≤ 9801 * b := by
  intro b
  induction b with
  | zero => intro _; simp only [plS]; rw [tz0]; omega
  | succ b ih =>
    intro hb
    obtain ⟨a1, a2⟩ := ih (by omega)
    obtain ⟨-, ⟨l, l1, l2⟩, hc, -⟩ := hB b (by omega)
    have hp := pull_b (S := S) (I := I) (b := b) (r := r) (W := W) hc h3 h6
    have hab : 0 ≤ (absI (aT S I r b W 3)).toInt ∧ (absI (aT S I r b W 3)).toInt ≤ 99 := by
      unfold absI
      by_cases g : 0 ≤ aT S I r b W 3
      · rw [if_pos g]; rw [Int32.le_iff_toInt_le, tz0] at g; omega
      · rw [if_neg g]; rw [Int32.le_iff_toInt_le, tz0] at g
        rw [ti_sub (by rw [tz0]; omega) (by rw [tz0]; omega), tz0]; omega
    have hl : (r (38 + 4 * b + 1)).toInt = l := by rw [l1, qi (by omega)]
    generalize hx : (absI (aT S I r b W 3)) = x at *
    have hm : 0 ≤ x.toInt * l ∧ x.toInt * l ≤ 9801 := by
      obtain ⟨y, hy⟩ : ∃ y : Nat, x.toInt = y := ⟨x.toInt.toNat, by omega⟩
      rw [hy]
      have h1 : y ≤ 99 := by omega
      have := Nat.mul_le_mul h1 l2
      have e : ((y : Int) * (l : Int)) = ((y * l : Nat) : Int) := (Int.natCast_mul y l).symm
      rw [e]
      generalize y * l = z at *
      omega
    have dm : (x * r (38 + 4 * b + 1)).toInt = x.toInt * l := ti_mul (by rw [hl]) (by omega) (by omega)
    have e : plS S I r W (b + 1) = plS S I r W b + x * r (38 + 4 * b + 1) := by
      show plS S I r W b + absI (aT S I r b W 3) * r (38 + 4 * b + 1) = _
      rw [hx]
    rw [e, ti_add (by rw [dm]; omega) (by rw [dm]; omega), dm]
    omega
