/-! the pure part: numbers, writes, the two sides' small helpers -/
theorem qi {n : Nat} (h : n < 2147483648) : (nI n).toInt = (n : Int) := nI_toInt h
theorem qn {n : Nat} (h : n < 2147483648) : (nI n).toNatClampNeg = n := nI_clamp h
theorem ql (k : Nat) : (no_index (OfNat.ofNat k) : Int32) = nI k := rfl
theorem qmul (a b : Nat) : nI a * nI b = nI (a * b) := (Int32.ofNat_mul a b).symm
theorem qaddl (a k : Nat) : nI a + (no_index (OfNat.ofNat k) : Int32) = nI (a + OfNat.ofNat k) := nI_add a k
theorem qaddr (a k : Nat) : (no_index (OfNat.ofNat k) : Int32) + nI a = nI (OfNat.ofNat k + a) := nI_add k a
theorem qmull (a k : Nat) : nI a * (no_index (OfNat.ofNat k) : Int32) = nI (a * OfNat.ofNat k) := qmul a k
theorem qmulr (a k : Nat) : (no_index (OfNat.ofNat k) : Int32) * nI a = nI (OfNat.ofNat k * a) := qmul k a
theorem qpred {a : Nat} (h : 0 < a) : nI a - 1 = nI (a - 1) := by
  obtain ⟨b, rfl⟩ : ∃ b, a = b + 1 := ⟨a - 1, by omega⟩
  exact nI_pred b
theorem qlt {a b : Nat} (ha : a < 2147483648) (hb : b < 2147483648) : nI a < nI b ↔ a < b := nI_ltI ha hb
theorem qle {a b : Nat} (ha : a < 2147483648) (hb : b < 2147483648) : nI a ≤ nI b ↔ a ≤ b := nI_leI ha hb
theorem qeq {a b : Nat} (ha : a < 2147483648) (hb : b < 2147483648) : nI a = nI b ↔ a = b := nI_eq ha hb
theorem qin {a n : Nat} (ha : a < 2147483648) : vp_in (nI a) n ↔ a < n := by
  rw [vp_in_iff, qi ha]
  omega
theorem qof {x : Int32} (h : 0 ≤ x.toInt) : x = nI x.toNatClampNeg := by
  have h2 := x.toInt_lt
  refine Int32.toInt_inj.mp ?_
  rw [qi x.toNatClampNeg_lt]
  show x.toInt = (x.toInt.toNat : Int)
  omega
theorem qtn (x : Int32) : x.toNatClampNeg = x.toInt.toNat := rfl
theorem qneg : (-1 : Int32).toInt = -1 := by decide +kernel
theorem ti_add {a b : Int32} (h1 : -2147483648 ≤ a.toInt + b.toInt) (h2 : a.toInt + b.toInt < 2147483648) : (a + b).toInt = a.toInt + b.toInt := by
  rw [Int32.toInt_add, Int.bmod_def]
  omega
theorem ti_sub {a b : Int32} (h1 : -2147483648 ≤ a.toInt - b.toInt) (h2 : a.toInt - b.toInt < 2147483648) : (a - b).toInt = a.toInt - b.toInt := by
  rw [Int32.toInt_sub, Int.bmod_def]
  omega
theorem ti_neg {a : Int32} (h1 : -2147483648 < a.toInt) : (-a).toInt = -a.toInt := by
  have h2 := a.toInt_lt
  rw [Int32.toInt_neg, Int.bmod_def]
  omega
theorem ti_mul {a b : Int32} {z : Int} (hz : a.toInt * b.toInt = z) (h1 : -2147483648 ≤ z) (h2 : z < 2147483648) : (a * b).toInt = z := by
  rw [Int32.toInt_mul, hz, Int.bmod_def]
  omega
theorem tl_add {a b : Int64} (h1 : -9223372036854775808 ≤ a.toInt + b.toInt) (h2 : a.toInt + b.toInt < 9223372036854775808) : (a + b).toInt = a.toInt + b.toInt := by
  rw [Int64.toInt_add, Int.bmod_def]
  omega
theorem tl_sub {a b : Int64} (h1 : -9223372036854775808 ≤ a.toInt - b.toInt) (h2 : a.toInt - b.toInt < 9223372036854775808) : (a - b).toInt = a.toInt - b.toInt := by
  rw [Int64.toInt_sub, Int.bmod_def]
  omega
theorem tl_mul {a b : Int64} {z : Int} (hz : a.toInt * b.toInt = z) (h1 : -9223372036854775808 ≤ z) (h2 : z < 9223372036854775808) : (a * b).toInt = z := by
  rw [Int64.toInt_mul, hz, Int.bmod_def]
  omega
theorem tl_32 {a : Int64} (h1 : -2147483648 ≤ a.toInt) (h2 : a.toInt < 2147483648) : a.toInt32.toInt = a.toInt := by
  rw [Int64.toInt_toInt32, Int.bmod_def]
  omega
/-- an array with one place changed -/
def up (f : Nat → Int32) (k : Nat) (v : Int32) : Nat → Int32 := fun y => if y = k then v else f y
theorem uIe {I : tHI} {a k : Nat} {v : Int32} : uI I a k v a = up (I a) k v := by
  funext y
  simp [uI, up]
theorem uIn {I : tHI} {a k x : Nat} {v : Int32} (h : x ≠ a) : uI I a k v x = I x := by
  funext y
  simp [uI, h]
theorem upe {f : Nat → Int32} {k : Nat} {v : Int32} : up f k v k = v := by simp [up]
theorem upn {f : Nat → Int32} {k y : Nat} {v : Int32} (h : y ≠ k) : up f k v y = f y := by simp [up, h]
def upJ (f : Nat → Int64) (k : Nat) (v : Int64) : Nat → Int64 := fun y => if y = k then v else f y
theorem uJe {J : tHJ} {a k : Nat} {v : Int64} : uJ J a k v a = upJ (J a) k v := by
  funext y
  simp [uJ, upJ]
theorem uJn {J : tHJ} {a k x : Nat} {v : Int64} (h : x ≠ a) : uJ J a k v x = J x := by
  funext y
  simp [uJ, h]
theorem upJe {f : Nat → Int64} {k : Nat} {v : Int64} : upJ f k v k = v := by simp [upJ]
theorem upJn {f : Nat → Int64} {k y : Nat} {v : Int64} (h : y ≠ k) : upJ f k v y = f y := by simp [upJ, h]
/-- a stretch copied into an array -/
def cpA (f g : Nat → Int32) (sp dp n : Nat) : Nat → Int32 := fun k => if dp ≤ k ∧ k < dp + n then g (sp + (k - dp)) else f k
theorem cpIe {I : tHI} {x sp y dp n : Nat} : cpI I x sp y dp n y = cpA (I y) (I x) sp dp n := by
  funext k
  simp [cpI, cpA]
theorem cpIn {I : tHI} {x sp y dp n z : Nat} (h : z ≠ y) : cpI I x sp y dp n z = I z := by
  funext k
  simp [cpI, h]
theorem cpA0 {f g : Nat → Int32} {n k : Nat} (h : k < n) : cpA f g 0 0 n k = g k := by
  simp [cpA, h]
-- what is within
theorem wi0 {v lo hi : Int32} : V11_within v lo hi = 0 ↔ ¬ (lo.toInt ≤ v.toInt ∧ v.toInt ≤ hi.toInt) := by
  unfold V11_within
  by_cases h1 : v < lo
  · rw [if_pos h1]
    rw [Int32.lt_iff_toInt_lt] at h1
    simp only [true_iff]
    omega
  · rw [if_neg h1]
    rw [Int32.lt_iff_toInt_lt] at h1
    by_cases h2 : hi < v
    · rw [if_pos h2]
      rw [Int32.lt_iff_toInt_lt] at h2
      simp only [true_iff]
      omega
    · rw [if_neg h2]
      rw [Int32.lt_iff_toInt_lt] at h2
      constructor
      · intro h; exact absurd h (by decide)
      · intro h; omega
theorem wi1 {v lo hi : Int32} : ¬ V11_within v lo hi = 0 ↔ (lo.toInt ≤ v.toInt ∧ v.toInt ≤ hi.toInt) := by
  rw [wi0]
  exact Classical.not_not
theorem mi0 {v lo hi : Int64} : V12_in v lo hi = 0 ↔ ¬ (lo.toInt ≤ v.toInt ∧ v.toInt ≤ hi.toInt) := by
  unfold V12_in
  simp only [lg_cmp_lt, lg_cmp_gt]
  by_cases h1 : v < lo
  · rw [if_pos h1]
    rw [Int64.lt_iff_toInt_lt] at h1
    simp only [true_iff]
    omega
  · rw [if_neg h1]
    rw [Int64.lt_iff_toInt_lt] at h1
    by_cases h2 : hi < v
    · rw [if_pos h2]
      rw [Int64.lt_iff_toInt_lt] at h2
      simp only [true_iff]
      omega
    · rw [if_neg h2]
      rw [Int64.lt_iff_toInt_lt] at h2
      constructor
      · intro h; exact absurd h (by decide)
      · intro h; omega
theorem mi1 {v lo hi : Int64} : ¬ V12_in v lo hi = 0 ↔ (lo.toInt ≤ v.toInt ∧ v.toInt ≤ hi.toInt) := by
  rw [mi0]
  exact Classical.not_not
/-- the model's own clamp -/
theorem mwi {w : Int64} {lo hi : Int32} (h : lo.toInt ≤ hi.toInt) : (V12_within w lo hi).toInt = max lo.toInt (min w.toInt hi.toInt) := by
  have l1 := lo.toInt_lt
  have l2 := lo.le_toInt
  have l3 := hi.toInt_lt
  have l4 := hi.le_toInt
  unfold V12_within
  simp only [lg_cmp_ge, lg_cmp_le]
  by_cases h1 : lo.toInt64 ≤ w
  · rw [if_pos h1]
    rw [Int64.le_iff_toInt_le, Int32.toInt_toInt64] at h1
    by_cases h2 : w ≤ hi.toInt64
    · rw [if_pos h2]
      rw [Int64.le_iff_toInt_le, Int32.toInt_toInt64] at h2
      rw [tl_32 (by omega) (by omega)]
      omega
    · rw [if_neg h2]
      rw [Int64.le_iff_toInt_le, Int32.toInt_toInt64] at h2
      omega
  · rw [if_neg h1]
    rw [Int64.le_iff_toInt_le, Int32.toInt_toInt64] at h1
    omega
-- what a call was refused by
def cS (I : tHI) (v : Int32) : tHI := if v.toInt < 0 then uI (uI I 0 18 v) 59 (-v).toNatClampNeg (I 59 (-v).toNatClampNeg + 1) else uI I 0 18 0
def mS (I : tHI) (v : Int32) : tHI := if v.toInt < 0 then uI (uI I 61 1 v) 62 (-v).toNatClampNeg (I 62 (-v).toNatClampNeg + 1) else uI I 61 1 0
theorem sp_settle {n : Nat} {S : tSH} {I : tHI} {J : tHJ} {k : Int32 → tHI → tHJ → Prop} (hl : sL S 59 = 7) {v : Int32} (hv : -7 < v.toInt) (h : k v (cS I v) J) : F11_settle n S I J v k := by
  have h7 : ((Int32.ofNat (sL S 59)) - 1).toInt = 6 := by rw [hl]; decide +kernel
  have hn : (-v).toInt = -v.toInt := ti_neg (by omega)
  unfold F11_settle F11_settle_36
  rw [wi0, h7, hn]
  refine ⟨fun c => ?_, fun c => ?_⟩
  · have c : ¬ v.toInt < 0 := by have e : (1 : Int32).toInt = 1 := rfl; omega
    have e : (if v < 0 then v else 0) = (0 : Int32) := if_neg (fun q => c (by rw [Int32.lt_iff_toInt_lt] at q; exact q))
    rw [e]
    unfold cS at h
    rw [if_neg c] at h
    exact h
  · have c : v.toInt < 0 := by have e : (1 : Int32).toInt = 1 := rfl; omega
    have e : (if v < 0 then v else 0) = v := if_pos (by rw [Int32.lt_iff_toInt_lt]; exact c)
    have hin : vp_in (-v) 7 := by rw [vp_in_iff, hn]; omega
    refine ⟨hin, hin, ?_⟩
    rw [e]
    unfold cS at h
    rw [if_pos c] at h
    exact h
theorem sp_tell {n : Nat} {S : tSH} {I : tHI} {J : tHJ} {k : Int32 → tHI → tHJ → Prop} {v : Int32} (hv : -7 < v.toInt) (h : k v (mS I v) J) : F12_tell n S I J v k := by
  have hn : (-v).toInt = -v.toInt := ti_neg (by omega)
  have z : (0 : Int32).toInt = 0 := rfl
  unfold F12_tell F12_tell_28
  refine ⟨fun c => ?_, fun c => ?_⟩
  · rw [if_pos c]
    rw [Int32.le_iff_toInt_le] at c
    unfold mS at h
    rw [if_neg (by omega)] at h
    exact h
  · rw [if_neg c]
    rw [Int32.le_iff_toInt_le] at c
    have hin : vp_in (-v) 7 := by rw [vp_in_iff, hn]; omega
    refine ⟨hin, hin, ?_⟩
    unfold mS at h
    rw [if_pos (by omega)] at h
    exact h
theorem sp_settled {n : Nat} {S : tSH} {I : tHI} {J : tHJ} {k : Int32 → tHI → tHJ → Prop} {v : Int32} (hv : -7 < v.toInt) (h : k v (mS (if v.toInt < 0 then I else uI I 61 8 0) v) J) : F12_settled n S I J v k := by
  unfold F12_settled
  refine sp_tell hv ?_
  have z : (0 : Int32).toInt = 0 := rfl
  by_cases c : v.toInt < 0
  · rw [if_pos c] at h
    rw [if_neg (by rw [Int32.le_iff_toInt_le]; omega)]
    have e : uI I 61 8 (I 61 8) = I := by
      funext x y
      simp only [uI]
      by_cases q : x = 61 ∧ y = 8
      · rw [if_pos q, q.1, q.2]
      · rw [if_neg q]
    rw [e]
    exact h
  · rw [if_neg c] at h
    rw [if_pos (by rw [Int32.le_iff_toInt_le]; omega)]
    exact h
