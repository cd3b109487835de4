/-! the tokens of a text: its bytes b, its length z -/
def kB (x : Nat) : Nat := if 97 ≤ x ∧ x ≤ 122 then 1 else if 48 ≤ x ∧ x ≤ 57 then 2 else 3
def tokF (b : Nat → Nat) (z : Nat) : Nat → Nat → Nat
  | 0, q => q
  | f + 1, q => if q < z ∧ b q = 32 then tokF b z f (q + 1) else q
def aF (b : Nat → Nat) (z q : Nat) : Nat := tokF b z (z - q) q
def tokE (b : Nat → Nat) (z kd : Nat) : Nat → Nat → Nat
  | 0, i => i
  | f + 1, i => if i < z ∧ kB (b i) = kd then tokE b z kd f (i + 1) else i
def aR (b : Nat → Nat) (z kd i : Nat) : Nat := tokE b z kd (z - i) i
def aK (b : Nat → Nat) (z q : Nat) : Nat := if z ≤ aF b z q then 0 else kB (b (aF b z q))
def aE (b : Nat → Nat) (z q : Nat) : Nat := if aK b z q = 0 then aF b z q else if aK b z q = 3 then aF b z q + 1 else aR b z (aK b z q) (aF b z q + 1)
def wrd (b : Nat → Nat) (base off s : Nat) : Nat → Nat
  | 0 => 0
  | l + 1 => wrd b base off s l * base + (b (s + l) - off)
def aH (b : Nat → Nat) (z q : Nat) : Nat := wrd b 32 96 (aF b z q) (aE b z q - aF b z q)
def aN (b : Nat → Nat) (z q : Nat) : Nat := wrd b 10 48 (aF b z q) (aE b z q - aF b z q)
theorem kB_r (x : Nat) : kB x = 1 ∨ kB x = 2 ∨ kB x = 3 := by
  unfold kB
  by_cases h : 97 ≤ x ∧ x ≤ 122
  · rw [if_pos h]; exact Or.inl rfl
  · rw [if_neg h]
    by_cases h2 : 48 ≤ x ∧ x ≤ 57
    · rw [if_pos h2]; exact Or.inr (Or.inl rfl)
    · rw [if_neg h2]; exact Or.inr (Or.inr rfl)
theorem kB_1 {x : Nat} : kB x = 1 ↔ 97 ≤ x ∧ x ≤ 122 := by
  unfold kB
  by_cases h : 97 ≤ x ∧ x ≤ 122
  · rw [if_pos h]; exact ⟨fun _ => h, fun _ => rfl⟩
  · rw [if_neg h]
    refine ⟨fun q => ?_, fun q => absurd q h⟩
    by_cases h2 : 48 ≤ x ∧ x ≤ 57
    · rw [if_pos h2] at q; omega
    · rw [if_neg h2] at q; omega
theorem kB_2 {x : Nat} : kB x = 2 ↔ 48 ≤ x ∧ x ≤ 57 := by
  unfold kB
  by_cases h : 97 ≤ x ∧ x ≤ 122
  · rw [if_pos h]; exact ⟨fun q => by omega, fun q => by omega⟩
  · rw [if_neg h]
    by_cases h2 : 48 ≤ x ∧ x ≤ 57
    · rw [if_pos h2]; exact ⟨fun _ => h2, fun _ => rfl⟩
    · rw [if_neg h2]; exact ⟨fun q => by omega, fun q => absurd q h2⟩
section TOK
variable {b : Nat → Nat} {z : Nat}
theorem aF_u (q : Nat) : aF b z q = if q < z ∧ b q = 32 then aF b z (q + 1) else q := by
  unfold aF
  by_cases h : q < z
  · rw [show z - q = (z - (q + 1)) + 1 by omega]
    rfl
  · rw [if_neg (fun g => h g.1), show z - q = 0 by omega]
    rfl
theorem aR_u (kd i : Nat) : aR b z kd i = if i < z ∧ kB (b i) = kd then aR b z kd (i + 1) else i := by
  unfold aR
  by_cases h : i < z
  · rw [show z - i = (z - (i + 1)) + 1 by omega]
    rfl
  · rw [if_neg (fun g => h g.1), show z - i = 0 by omega]
    rfl
theorem aF_b : ∀ (d q : Nat), z - q ≤ d → q ≤ aF b z q ∧ (q ≤ z → aF b z q ≤ z) := by
  intro d
  induction d with
  | zero => intro q hq; rw [aF_u, if_neg (fun g => by omega)]; exact ⟨Nat.le_refl _, id⟩
  | succ d ih =>
    intro q hq
    rw [aF_u]
    by_cases g : q < z ∧ b q = 32
    · rw [if_pos g]
      obtain ⟨h1, h2⟩ := ih (q + 1) (by omega)
      exact ⟨by omega, fun _ => h2 (by omega)⟩
    · rw [if_neg g]; exact ⟨Nat.le_refl _, id⟩
theorem aF_ge (q : Nat) : q ≤ aF b z q := (aF_b (z - q) q (Nat.le_refl _)).1
theorem aF_le {q : Nat} (h : q ≤ z) : aF b z q ≤ z := (aF_b (z - q) q (Nat.le_refl _)).2 h
theorem aR_b (kd : Nat) : ∀ (d q : Nat), z - q ≤ d → q ≤ aR b z kd q ∧ (q ≤ z → aR b z kd q ≤ z) ∧ ∀ j, q ≤ j → j < aR b z kd q → kB (b j) = kd := by
  intro d
  induction d with
  | zero => intro q hq; rw [aR_u, if_neg (fun g => by omega)]; exact ⟨Nat.le_refl _, id, fun j h1 h2 => by omega⟩
  | succ d ih =>
    intro q hq
    rw [aR_u]
    by_cases g : q < z ∧ kB (b q) = kd
    · rw [if_pos g]
      obtain ⟨h1, h2, h3⟩ := ih (q + 1) (by omega)
      refine ⟨by omega, fun _ => h2 (by omega), fun j j1 j2 => ?_⟩
      by_cases e : j = q
      · rw [e]; exact g.2
      · exact h3 j (by omega) j2
    · rw [if_neg g]; exact ⟨Nat.le_refl _, id, fun j h1 h2 => by omega⟩
theorem aK_0 {q : Nat} : aK b z q = 0 ↔ z ≤ aF b z q := by
  unfold aK
  by_cases h : z ≤ aF b z q
  · rw [if_pos h]; exact ⟨fun _ => h, fun _ => rfl⟩
  · rw [if_neg h]
    refine ⟨fun g => ?_, fun g => absurd g h⟩
    rcases kB_r (b (aF b z q)) with k | k | k <;> rw [k] at g <;> cases g
theorem aK_r (q : Nat) : aK b z q ≤ 3 := by
  unfold aK
  by_cases h : z ≤ aF b z q
  · rw [if_pos h]; omega
  · rw [if_neg h]
    rcases kB_r (b (aF b z q)) with k | k | k <;> rw [k] <;> omega
theorem aE_gt {q : Nat} (h : aK b z q ≠ 0) : aF b z q < aE b z q ∧ (q ≤ z → aE b z q ≤ z) ∧ aF b z q < z := by
  have h1 : aF b z q < z := by
    rcases Nat.lt_or_ge (aF b z q) z with g | g
    · exact g
    · exact absurd (aK_0.mpr g) h
  unfold aE
  rw [if_neg h]
  by_cases g : aK b z q = 3
  · rw [if_pos g]; exact ⟨by omega, fun _ => by omega, h1⟩
  · rw [if_neg g]
    obtain ⟨r1, r2, r3⟩ := aR_b (b := b) (z := z) (aK b z q) (z - (aF b z q + 1)) (aF b z q + 1) (Nat.le_refl _)
    exact ⟨by omega, fun _ => r2 (by omega), h1⟩
theorem aE_le {q : Nat} (h : q ≤ z) : aF b z q ≤ aE b z q ∧ aE b z q ≤ z := by
  by_cases g : aK b z q = 0
  · unfold aE; rw [if_pos g]; exact ⟨Nat.le_refl _, aF_le h⟩
  · obtain ⟨h1, h2, -⟩ := aE_gt g
    exact ⟨by omega, h2 h⟩
/-- the next token begins later -/
theorem aF_up {q : Nat} (h : aK b z q ≠ 0) : aF b z q < aF b z (aE b z q) := Nat.lt_of_lt_of_le (aE_gt h).1 (aF_ge _)
theorem aE_k {q : Nat} (h : aK b z q = 1 ∨ aK b z q = 2) : ∀ j, aF b z q ≤ j → j < aE b z q → kB (b j) = aK b z q := by
  intro j j1 j2
  have h0 : aK b z q ≠ 0 := by rcases h with g | g <;> rw [g] <;> decide
  have h3 : aK b z q ≠ 3 := by rcases h with g | g <;> rw [g] <;> decide
  by_cases e : j = aF b z q
  · subst e
    unfold aK
    rw [if_neg (fun g => h0 (aK_0.mpr g))]
  · unfold aE at j2
    rw [if_neg h0, if_neg h3] at j2
    exact (aR_b (aK b z q) (z - (aF b z q + 1)) (aF b z q + 1) (Nat.le_refl _)).2.2 j (by omega) j2
end TOK
/-- the class's token, behind an advance from q -/
def CT (b : Nat → Nat) (z : Nat) (f40 : Nat → Int32) (q : Nat) : Prop := f40 4 = nI (aE b z q) ∧ f40 5 = nI (aF b z q) ∧ f40 6 = nI (aK b z q) ∧ (aK b z q = 2 → f40 7 = nI (min 1001 (aN b z q)))
def CTp (b : Nat → Nat) (z : Nat) (f38 f39 : Nat → Int32) : Prop := z ≤ 400 ∧ f38 1 = nI z ∧ ∀ i, i < z → f39 i = nI (b i) ∧ b i < 256
theorem kob {x : Nat} (h : x < 256) : V4_kindOfByte (nI x) = nI (kB x) := by
  have l : ∀ m : Nat, m < 1000 → (nI x < nI m ↔ x < m) := fun m hm => qlt (by omega) (by omega)
  have l2 : ∀ m : Nat, m < 1000 → (nI m < nI x ↔ m < x) := fun m hm => qlt (by omega) (by omega)
  unfold V4_kindOfByte
  have e1 : nI x < 97 ↔ x < 97 := l 97 (by omega)
  have e2 : nI x < 48 ↔ x < 48 := l 48 (by omega)
  have e3 : 57 < nI x ↔ 57 < x := l2 57 (by omega)
  have e4 : 122 < nI x ↔ 122 < x := l2 122 (by omega)
  simp only [e1, e2, e3, e4]
  unfold kB
  have n1 : x < 97 → ¬ (97 ≤ x ∧ x ≤ 122) := fun _ q => by omega
  have n2 : 122 < x → ¬ (97 ≤ x ∧ x ≤ 122) := fun _ q => by omega
  have n3 : x < 48 → ¬ (48 ≤ x ∧ x ≤ 57) := fun _ q => by omega
  have n4 : 57 < x → ¬ (48 ≤ x ∧ x ≤ 57) := fun _ q => by omega
  have n5 : 97 ≤ x → ¬ x < 48 := fun _ q => by omega
  by_cases g1 : x < 97
  · rw [if_pos g1, if_neg (n1 g1)]
    by_cases g2 : x < 48
    · rw [if_pos g2, if_neg (n3 g2)]; rfl
    · rw [if_neg g2]
      by_cases g3 : 57 < x
      · rw [if_pos g3, if_neg (n4 g3)]; rfl
      · rw [if_neg g3, if_pos (show 48 ≤ x ∧ x ≤ 57 by omega)]; rfl
  · rw [if_neg g1]
    by_cases g4 : 122 < x
    · rw [if_pos g4, if_neg (n2 g4), if_neg (n5 (by omega)), if_pos (show 57 < x by omega), if_neg (n4 (by omega))]; rfl
    · rw [if_neg g4, if_pos (show 97 ≤ x ∧ x ≤ 122 by omega)]; rfl
