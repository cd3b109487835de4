/-! an act of the rider: what it does -/
def gasV (r : Nat → Int32) (a : Int32) : Int32 := if r 10 + a < 60 then r 10 + a else 60
def brkV (r : Nat → Int32) (a : Int32) : Int32 := if 0 < r 10 - a then r 10 - a else 0
def howA (S : tSH) (I : tHI) (r : Nat → Int32) (N : Nat) : Int32 := aO S I r (r 9).toNatClampNeg (WM 63 r N) (r 10)
def lrnA (S : tSH) (I : tHI) (r : Nat → Int32) (N : Nat) : Int32 := aT S I r (r 9).toNatClampNeg (WM 63 r N) 4
def rideA (S : tSH) (I : tHI) (r : Nat → Int32) (N : Nat) : Nat → Int32 := up (if howA S I r N = 0 then up r 13 (if r 13 + lrnA S I r N < 100 then r 13 + lrnA S I r N else 100) else up (up r 12 (r 12 + 1)) 10 0) 9 (if r 9 + 1 < r 1 then r 9 + 1 else 0)
def stepA (S : tSH) (I : tHI) (r : Nat → Int32) (N kd : Nat) (a b : Int32) : Nat → Int32 := if kd = 0 then up r 10 (gasV r a) else if kd = 1 then up r 10 (brkV r a) else if kd = 2 then up r 11 a else if kd = 3 then up r (14 + a.toNatClampNeg) b else if kd = 4 then up r (20 + a.toNatClampNeg) b else rideA S I r N
def ansA (S : tSH) (I : tHI) (r : Nat → Int32) (N kd : Nat) (a b : Int32) : Int32 := if kd = 0 then gasV r a else if kd = 1 then brkV r a else if kd = 2 then r 11 else if kd = 3 then r (14 + a.toNatClampNeg) else if kd = 4 then r (20 + a.toNatClampNeg) + 2 else howA S I r N
theorem RK.v {r r' : Nat → Int32} (h : RK r) (e : ∀ k, k < 9 ∨ 26 ≤ k → r' k = r k) (hv : KV r (rV r')) : RK r' := by
  obtain ⟨k0, k1, k2, k3, k4⟩ := h
  exact ⟨k0.r (fun k hk => e k (by omega)), k1.r (fun k p q => e k (by omega)), hv.r (e 1 (by omega)) (fun k p q => e k (by omega)) (fun k _ => rfl), k3.r (fun k p q => e k (by omega)), k4.r (e 1 (by omega)) (e 2 (by omega)) (fun k p q => e k (by omega)) (KR.le8 k0)⟩
theorem gas_r {r : Nat → Int32} {a : Int32} {p : Nat} (hp : r 10 = nI p) (hp2 : p ≤ 60) (ha : 1 ≤ a.toInt ∧ a.toInt ≤ 60) : ∃ x, gasV r a = nI x ∧ x ≤ 60 := by
  have hs : (r 10 + a).toInt = p + a.toInt := by rw [ti_add (by rw [hp, qi (by omega)]; omega) (by rw [hp, qi (by omega)]; omega), hp, qi (by omega)]
  unfold gasV
  by_cases c : r 10 + a < 60
  · rw [if_pos c]
    rw [Int32.lt_iff_toInt_lt, hs, show (60 : Int32).toInt = 60 from rfl] at c
    exact ⟨_, qof (by omega), by rw [qtn]; omega⟩
  · rw [if_neg c]
    exact ⟨60, rfl, by omega⟩
theorem brk_r {r : Nat → Int32} {a : Int32} {p : Nat} (hp : r 10 = nI p) (hp2 : p ≤ 60) (ha : 1 ≤ a.toInt ∧ a.toInt ≤ 60) : ∃ x, brkV r a = nI x ∧ x ≤ 60 := by
  have hs : (r 10 - a).toInt = p - a.toInt := by rw [ti_sub (by rw [hp, qi (by omega)]; omega) (by rw [hp, qi (by omega)]; omega), hp, qi (by omega)]
  unfold brkV
  by_cases c : 0 < r 10 - a
  · rw [if_pos c]
    rw [Int32.lt_iff_toInt_lt, hs, tz0] at c
    exact ⟨_, qof (by omega), by rw [qtn]; omega⟩
  · rw [if_neg c]
    exact ⟨0, rfl, by omega⟩
theorem lrn_r {S : tSH} {I : tHI} {r : Nat → Int32} {b : Nat} {W : Nat → Int32} (hL : 0 ≤ (r (38 + 4 * b + 1)).toInt ∧ (r (38 + 4 * b + 1)).toInt ≤ 99) : ∃ f, aT S I r b W 4 = nI f ∧ f ≤ 100 := by
  unfold aT tellV
  cases lawT S I (wl (wB r b W)) (nI 4) with
  | none =>
    show ∃ f, r (38 + 4 * b + 1) / 10 = nI f ∧ f ≤ 100
    have hb : (r (38 + 4 * b + 1) / 10).toInt = (r (38 + 4 * b + 1)).toInt / 10 := by
      rw [Int32.toInt_div, show (10 : Int32).toInt = 10 from rfl, Int.bmod_def, Int.tdiv_eq_ediv_of_nonneg hL.1]
      omega
    exact ⟨_, qof (by omega), by rw [qtn]; omega⟩
  | some v =>
    show ∃ f, V2_nearest 4 v = nI f ∧ f ≤ 100
    have e : (V2_nearest 4 v).toInt = max 0 (min v.toInt 100) := by rw [near4, mwi (by decide)]; rfl
    exact ⟨_, qof (by omega), by rw [qtn]; omega⟩
/-- what KV asks, cell by cell -/
theorem KV.up {r v : Nat → Int32} (h : KV r v) {v' : Nat → Int32} (e0 : v' 0 = v 0 ∨ ∃ a : Nat, v' 0 = nI a ∧ (a = 0 ∨ (a : Int) < (r 1).toInt) ∧ a ≤ 12) (e1 : v' 1 = v 1 ∨ ∃ p, v' 1 = nI p ∧ p ≤ 60) (e2 : v' 2 = v 2 ∨ ∃ l, v' 2 = nI l ∧ l ≤ 2) (e4 : v' 4 = v 4 ∨ ∃ s, v' 4 = nI s ∧ s ≤ 100) (e5 : ∀ i, i < 6 → v' (5 + i) = v (5 + i) ∨ ∃ q, v' (5 + i) = nI q ∧ q ≤ 3) (e11 : ∀ i, i < 6 → v' (11 + i) = v (11 + i) ∨ ((-2 ≤ (v' (11 + i)).toInt ∧ (v' (11 + i)).toInt ≤ 2) ∧ ¬ r (32 + i) = 0)) : KV r v' := by
  obtain ⟨b0, b1, b2, b4, b5⟩ := h
  refine ⟨?_, ?_, ?_, ?_, fun i hi => ⟨?_, ?_, ?_⟩⟩
  · rcases e0 with g | g
    · rw [g]; exact b0
    · exact g
  · rcases e1 with g | g
    · rw [g]; exact b1
    · exact g
  · rcases e2 with g | g
    · rw [g]; exact b2
    · exact g
  · rcases e4 with g | g
    · rw [g]; exact b4
    · exact g
  · rcases e5 i hi with g | g
    · rw [g]; exact (b5 i hi).1
    · exact g
  · rcases e11 i hi with g | g
    · rw [g]; exact (b5 i hi).2.1
    · exact g.1
  · rcases e11 i hi with g | g
    · rw [g]; exact (b5 i hi).2.2
    · exact fun q => absurd q g.2
