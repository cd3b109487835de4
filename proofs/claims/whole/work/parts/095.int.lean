theorem i32i (p : Nat) (h : p < 2147483648) : (Int32.ofNat p).toInt = p := Int32.toInt_ofNat_of_lt h
theorem i32n (p : Nat) (h : p < 2147483648) : (Int32.ofNat p).toNatClampNeg = p := by
  rw [← Int32.toNat_toInt, i32i p h]
  rfl
theorem i32s (p : Nat) : Int32.ofNat p + 1 = Int32.ofNat (p + 1) := by
  rw [Int32.ofNat_add]
  rfl
theorem i32le {p q : Nat} (hp : p < 2147483648) (hq : q < 2147483648) : Int32.ofNat p ≤ Int32.ofNat q ↔ p ≤ q := by
  rw [Int32.le_iff_toInt_le, i32i p hp, i32i q hq]
  omega
theorem i32lt {p q : Nat} (hp : p < 2147483648) (hq : q < 2147483648) : Int32.ofNat p < Int32.ofNat q ↔ p < q := by
  rw [Int32.lt_iff_toInt_lt, i32i p hp, i32i q hq]
  omega
theorem i32in {p n : Nat} (hp : p < 2147483648) (h : p < n) : vp_in (Int32.ofNat p) n := by
  unfold vp_in
  rintro (q | q)
  · rw [Int32.lt_iff_toInt_lt, i32i p hp] at q
    have : (0 : Int32).toInt = 0 := rfl
    omega
  · rw [i32n p hp] at q
    omega
/-- a row filled from one place up to another -/
def fillI (I : tHI) (a p n : Nat) (v : Int32) : tHI := fun x y => if x = a ∧ p ≤ y ∧ y < n then v else I x y
theorem fillI_nil {I : tHI} {a n : Nat} {v : Int32} : fillI I a n n v = I := by
  funext x y
  unfold fillI
  rw [if_neg (by omega)]
theorem fillI_step {I : tHI} {a p n : Nat} {v : Int32} (h : p < n) : fillI (uI I a p v) a (p + 1) n v = fillI I a p n v := by
  funext x y
  unfold fillI uI
  by_cases e : x = a
  · by_cases e2 : y = p
    · rw [if_neg (by omega), if_pos ⟨e, e2⟩, if_pos ⟨e, by omega, by omega⟩]
    · by_cases e3 : p ≤ y ∧ y < n
      · rw [if_pos ⟨e, by omega, e3.2⟩, if_pos ⟨e, e3.1, e3.2⟩]
      · rw [if_neg (by omega), if_neg (by omega), if_neg (by omega)]
  · rw [if_neg (by omega), if_neg (by omega), if_neg (by omega)]
