/-! putting, I: rows of spots and of kinds, as numbers -/
theorem shr_s : ∀ s, s < 32 → (nI s &&& 31).toBitVec.smod 32 = BitVec.ofNat 32 s := by decide +kernel
theorem bvi {a : Nat} (h : a < 2147483648) : (BitVec.ofNat 32 a).toInt = a := by
  rw [BitVec.toInt_eq_toNat_cond, BitVec.toNat_ofNat, Nat.mod_eq_of_lt (by omega), if_pos (by omega)]
theorem shr {a s : Nat} (ha : a < 2147483648) (hs : s < 32) : nI a >>> (nI s &&& 31) = nI (a / 2 ^ s) := by
  apply Int32.toBitVec_inj.1
  rw [Int32.toBitVec_shiftRight, shr_s s hs]
  show (BitVec.ofNat 32 a).sshiftRight (BitVec.ofNat 32 s).toNat = BitVec.ofNat 32 (a / 2 ^ s)
  have e : (BitVec.ofNat 32 s).toNat = s := by rw [BitVec.toNat_ofNat, Nat.mod_eq_of_lt (by omega)]
  rw [e]
  apply BitVec.eq_of_toInt_eq
  have h2 : a / 2 ^ s ≤ a := Nat.div_le_self _ _
  rw [BitVec.toInt_sshiftRight, bvi ha, bvi (by omega), Int.shiftRight_eq_div_pow]
  rfl
theorem and1m (a : Nat) : nI a &&& 1 = nI (a % 2) := by
  have := nx_and a 1
  rw [show (nI a &&& 1 : Int32) = nI a &&& nI 1 from rfl, this, Nat.and_one_is_mod]
theorem and3m (a : Nat) : nI a &&& 3 = nI (a % 4) := by
  have := nx_and a 3
  rw [show (nI a &&& 3 : Int32) = nI a &&& nI 3 from rfl, this]
  have e : a &&& 3 = a % 4 := Nat.and_two_pow_sub_one_eq_mod a 2
  rw [e]
theorem p4N : ∀ N, N < 7 → (1 : Int32) <<< ((2 * nI N) &&& 31) = nI (4 ^ N) := by decide +kernel
def spS (bn : Nat → Nat → Bool) (l b : Nat) : Nat := if bn l (2 * b) = true then 2 * b + 1 else 2 * b
def okM (bn : Nat → Nat → Bool) (N m : Nat) : Nat → Bool
  | 0 => true
  | l + 1 => okM bn N m l && !(bn l (2 * (m / 2 ^ (N - 1 - l) % 2)) && bn l (2 * (m / 2 ^ (N - 1 - l) % 2) + 1))
def okC (bn : Nat → Nat → Bool) (N c : Nat) : Nat → Bool
  | 0 => true
  | l + 1 => okC bn N c l && !(bn l (c / 4 ^ (N - 1 - l) % 4))
def MKS (c : Nat) : Nat → Nat
  | 0 => 0
  | j + 1 => MKS c j + 2 ^ j * (c / 4 ^ j % 4 / 2)
def CCS (bn : Nat → Nat → Bool) (N m : Nat) : Nat → Nat
  | 0 => 0
  | j + 1 => CCS bn N m j + 4 ^ j * spS bn (N - 1 - j) (m / 2 ^ j % 2)
theorem dig_add {q a b i j : Nat} (hq : 0 < q) (hb : b < q) (ha : a < q ^ j) : (i < j → (a + q ^ j * b) / q ^ i % q = a / q ^ i % q) ∧ (a + q ^ j * b) / q ^ j % q = b := by
  refine ⟨fun h => ?_, ?_⟩
  · obtain ⟨e, rfl⟩ : ∃ e, j = i + 1 + e := ⟨j - (i + 1), by omega⟩
    have : q ^ (i + 1 + e) * b = q ^ i * (q * (q ^ e * b)) := by rw [Nat.pow_add, Nat.pow_succ, Nat.mul_assoc, Nat.mul_assoc]
    rw [this, Nat.add_mul_div_left _ _ (Nat.pow_pos hq), Nat.add_mul_mod_self_left]
  · rw [Nat.add_mul_div_left _ _ (Nat.pow_pos hq), Nat.div_eq_of_lt ha, Nat.zero_add, Nat.mod_eq_of_lt hb]
theorem spS_b {bn : Nat → Nat → Bool} {l b : Nat} (hb : b < 2) : spS bn l b < 4 ∧ spS bn l b / 2 = b := by
  unfold spS
  split <;> omega
theorem MKS_lt {c : Nat} : ∀ j, MKS c j < 2 ^ j := by
  intro j
  induction j with
  | zero => exact Nat.zero_lt_one
  | succ j ih =>
    show MKS c j + 2 ^ j * (c / 4 ^ j % 4 / 2) < 2 ^ (j + 1)
    have h : c / 4 ^ j % 4 / 2 = 0 ∨ c / 4 ^ j % 4 / 2 = 1 := by omega
    rw [Nat.pow_succ]
    rcases h with h | h <;> rw [h] <;> omega
theorem CCS_lt {bn : Nat → Nat → Bool} {N m : Nat} : ∀ j, CCS bn N m j < 4 ^ j := by
  intro j
  induction j with
  | zero => exact Nat.zero_lt_one
  | succ j ih =>
    show CCS bn N m j + 4 ^ j * spS bn (N - 1 - j) (m / 2 ^ j % 2) < 4 ^ (j + 1)
    have h := (spS_b (bn := bn) (l := N - 1 - j) (b := m / 2 ^ j % 2) (by omega)).1
    have : 4 ^ j * spS bn (N - 1 - j) (m / 2 ^ j % 2) ≤ 4 ^ j * 3 := Nat.mul_le_mul_left _ (by omega)
    rw [Nat.pow_succ]
    omega
theorem MKS_bit {c : Nat} : ∀ j i, i < j → MKS c j / 2 ^ i % 2 = c / 4 ^ i % 4 / 2 := by
  intro j
  induction j with
  | zero => intro i h; omega
  | succ j ih =>
    intro i h
    have d := dig_add (q := 2) (a := MKS c j) (b := c / 4 ^ j % 4 / 2) (i := i) (j := j) (by omega) (by omega) (MKS_lt j)
    show (MKS c j + 2 ^ j * (c / 4 ^ j % 4 / 2)) / 2 ^ i % 2 = _
    by_cases e : i = j
    · subst e; exact d.2
    · rw [d.1 (by omega)]; exact ih i (by omega)
theorem CCS_dig {bn : Nat → Nat → Bool} {N m : Nat} : ∀ j i, i < j → CCS bn N m j / 4 ^ i % 4 = spS bn (N - 1 - i) (m / 2 ^ i % 2) := by
  intro j
  induction j with
  | zero => intro i h; omega
  | succ j ih =>
    intro i h
    have d := dig_add (q := 4) (a := CCS bn N m j) (b := spS bn (N - 1 - j) (m / 2 ^ j % 2)) (i := i) (j := j) (by omega) (spS_b (by omega)).1 (CCS_lt j)
    show (CCS bn N m j + 4 ^ j * spS bn (N - 1 - j) (m / 2 ^ j % 2)) / 4 ^ i % 4 = _
    by_cases e : i = j
    · subst e; exact d.2
    · rw [d.1 (by omega)]; exact ih i (by omega)
theorem MKS_CCS {bn : Nat → Nat → Bool} {N m : Nat} : ∀ j, j ≤ N → MKS (CCS bn N m N) j = m % 2 ^ j := by
  intro j
  induction j with
  | zero => intro _; show 0 = m % 1; omega
  | succ j ih =>
    intro hj
    show MKS (CCS bn N m N) j + 2 ^ j * (CCS bn N m N / 4 ^ j % 4 / 2) = _
    rw [ih (by omega), CCS_dig N j (by omega), (spS_b (by omega)).2, Nat.pow_succ, Nat.mod_mul]
theorem okM_t {bn : Nat → Nat → Bool} {N m : Nat} : ∀ l, okM bn N m l = true ↔ ∀ i, i < l → ¬ (bn i (2 * (m / 2 ^ (N - 1 - i) % 2)) = true ∧ bn i (2 * (m / 2 ^ (N - 1 - i) % 2) + 1) = true) := by
  intro l
  induction l with
  | zero => exact ⟨fun _ i h => by omega, fun _ => rfl⟩
  | succ l ih =>
    show (okM bn N m l && !(bn l (2 * (m / 2 ^ (N - 1 - l) % 2)) && bn l (2 * (m / 2 ^ (N - 1 - l) % 2) + 1))) = true ↔ _
    rw [Bool.and_eq_true, ih]
    refine ⟨fun ⟨h1, h2⟩ i hi => ?_, fun h => ⟨fun i hi => h i (by omega), ?_⟩⟩
    · by_cases e : i = l
      · subst e
        intro ⟨z1, z2⟩
        rw [z1, z2] at h2
        exact absurd h2 (by decide)
      · exact h1 i (by omega)
    · have := h l (by omega)
      cases z1 : bn l (2 * (m / 2 ^ (N - 1 - l) % 2)) <;> cases z2 : bn l (2 * (m / 2 ^ (N - 1 - l) % 2) + 1) <;> first | rfl | (exact absurd ⟨z1, z2⟩ this)
theorem okC_t {bn : Nat → Nat → Bool} {N c : Nat} : ∀ l, okC bn N c l = true ↔ ∀ i, i < l → bn i (c / 4 ^ (N - 1 - i) % 4) = false := by
  intro l
  induction l with
  | zero => exact ⟨fun _ i h => by omega, fun _ => rfl⟩
  | succ l ih =>
    show (okC bn N c l && !(bn l (c / 4 ^ (N - 1 - l) % 4))) = true ↔ _
    rw [Bool.and_eq_true, ih]
    refine ⟨fun ⟨h1, h2⟩ i hi => ?_, fun h => ⟨fun i hi => h i (by omega), ?_⟩⟩
    · by_cases e : i = l
      · subst e
        cases z1 : bn i (c / 4 ^ (N - 1 - i) % 4) with
        | true => rw [z1] at h2; exact absurd h2 (by decide)
        | false => rfl
      · exact h1 i (by omega)
    · rw [h l (by omega)]; rfl
theorem spS_ok {bn : Nat → Nat → Bool} {l b : Nat} (h : ¬ (bn l (2 * b) = true ∧ bn l (2 * b + 1) = true)) : bn l (spS bn l b) = false := by
  unfold spS
  by_cases c : bn l (2 * b) = true
  · rw [if_pos c]
    cases z : bn l (2 * b + 1) with
    | true => exact absurd ⟨c, z⟩ h
    | false => rfl
  · rw [if_neg c]
    cases z : bn l (2 * b) with
    | true => exact absurd z c
    | false => rfl
theorem spS_le {bn : Nat → Nat → Bool} {l d : Nat} (h : bn l d = false) : spS bn l (d / 2) ≤ d := by
  unfold spS
  by_cases c : bn l (2 * (d / 2)) = true
  · rw [if_pos c]
    have : ¬ d = 2 * (d / 2) := fun z => by rw [← z, h] at c; exact absurd c (by decide)
    omega
  · rw [if_neg c]; omega
theorem okC_CCS {bn : Nat → Nat → Bool} {N m : Nat} (h : okM bn N m N = true) : okC bn N (CCS bn N m N) N = true := by
  rw [okC_t]
  intro i hi
  have := (okM_t N).mp h i hi
  rw [CCS_dig N (N - 1 - i) (by omega), show N - 1 - (N - 1 - i) = i by omega]
  exact spS_ok this
theorem okM_MKS {bn : Nat → Nat → Bool} {N c : Nat} (h : okC bn N c N = true) : okM bn N (MKS c N) N = true := by
  rw [okM_t]
  intro i hi ⟨z1, z2⟩
  have := (okC_t N).mp h i hi
  rw [MKS_bit N (N - 1 - i) (by omega)] at z1 z2
  have hd : c / 4 ^ (N - 1 - i) % 4 = 2 * (c / 4 ^ (N - 1 - i) % 4 / 2) ∨ c / 4 ^ (N - 1 - i) % 4 = 2 * (c / 4 ^ (N - 1 - i) % 4 / 2) + 1 := by omega
  rcases hd with e | e
  · rw [← e, this] at z1; exact absurd z1 (by decide)
  · rw [← e, this] at z2; exact absurd z2 (by decide)
theorem CCS_le {bn : Nat → Nat → Bool} {N c : Nat} (h : okC bn N c N = true) : ∀ j, j ≤ N → CCS bn N (MKS c N) j ≤ c % 4 ^ j := by
  intro j
  induction j with
  | zero => intro _; exact Nat.zero_le _
  | succ j ih =>
    intro hj
    show CCS bn N (MKS c N) j + 4 ^ j * spS bn (N - 1 - j) (MKS c N / 2 ^ j % 2) ≤ _
    have h1 := ih (by omega)
    have h2 := (okC_t N).mp h (N - 1 - j) (by omega)
    rw [show N - 1 - (N - 1 - j) = j by omega] at h2
    have h3 := spS_le h2
    rw [MKS_bit N j (by omega), Nat.pow_succ, Nat.mod_mul]
    have := Nat.mul_le_mul_left (4 ^ j) h3
    omega
theorem CCS_mono {bn : Nat → Nat → Bool} {N m1 m2 : Nat} : ∀ j, m1 % 2 ^ j < m2 % 2 ^ j → CCS bn N m1 j < CCS bn N m2 j := by
  intro j
  induction j with
  | zero => intro h; have : m1 % 1 < m2 % 1 := h; omega
  | succ j ih =>
    intro h
    show CCS bn N m1 j + 4 ^ j * spS bn (N - 1 - j) (m1 / 2 ^ j % 2) < CCS bn N m2 j + 4 ^ j * spS bn (N - 1 - j) (m2 / 2 ^ j % 2)
    rw [Nat.pow_succ, Nat.mod_mul, Nat.mod_mul] at h
    have b1 : m1 / 2 ^ j % 2 = 0 ∨ m1 / 2 ^ j % 2 = 1 := by omega
    have b2 : m2 / 2 ^ j % 2 = 0 ∨ m2 / 2 ^ j % 2 = 1 := by omega
    have l1 := Nat.mod_lt m1 (show 0 < 2 ^ j from Nat.pow_pos (by omega))
    have l2 := Nat.mod_lt m2 (show 0 < 2 ^ j from Nat.pow_pos (by omega))
    rcases b1 with b1 | b1 <;> rcases b2 with b2 | b2 <;> rw [b1, b2] at h ⊢
    · have := ih (by omega); omega
    · have c1 := CCS_lt (bn := bn) (N := N) (m := m1) j
      have s0 : spS bn (N - 1 - j) 0 ≤ 1 := by unfold spS; split <;> omega
      have s1 : 2 ≤ spS bn (N - 1 - j) 1 := by unfold spS; split <;> omega
      have := Nat.mul_le_mul_left (4 ^ j) s0
      have := Nat.mul_le_mul_left (4 ^ j) s1
      omega
    · omega
    · have := ih (by omega); omega
/-- the least and its first place -/
def mnV (f : Nat → Nat) (F : Nat) : Nat → Nat
  | 0 => F
  | c + 1 => if mnV f F c ≤ f c then mnV f F c else f c
def mnP (f : Nat → Nat) (F : Nat) : Nat → Nat
  | 0 => 0
  | c + 1 => if mnV f F c ≤ f c then mnP f F c else c
theorem mnV_b {f : Nat → Nat} {F : Nat} : ∀ c, mnV f F c ≤ F ∧ (∀ j, j < c → mnV f F c ≤ f j) ∧ (mnV f F c < F → mnP f F c < c ∧ f (mnP f F c) = mnV f F c ∧ ∀ j, j < mnP f F c → mnV f F c < f j) := by
  intro c
  induction c with
  | zero => exact ⟨Nat.le_refl _, fun j h => by omega, fun h => absurd h (Nat.lt_irrefl _)⟩
  | succ c ih =>
    obtain ⟨i1, i2, i3⟩ := ih
    have ev : mnV f F (c + 1) = (if mnV f F c ≤ f c then mnV f F c else f c) := rfl
    have ep : mnP f F (c + 1) = (if mnV f F c ≤ f c then mnP f F c else c) := rfl
    rw [ev, ep]
    by_cases g : mnV f F c ≤ f c
    · rw [if_pos g, if_pos g]
      refine ⟨i1, fun j h => ?_, fun h => ?_⟩
      · by_cases e : j = c
        · subst e; exact g
        · exact i2 j (by omega)
      · obtain ⟨a1, a2, a3⟩ := i3 h
        exact ⟨by omega, a2, a3⟩
    · rw [if_neg g, if_neg g]
      refine ⟨by omega, fun j h => ?_, fun h => ⟨by omega, rfl, fun j h2 => ?_⟩⟩
      · by_cases e : j = c
        · subst e; exact Nat.le_refl _
        · have := i2 j (by omega); omega
      · have := i2 j h2; omega
def fPM (bn : Nat → Nat → Bool) (N : Nat) (tt : Nat → Nat) (F c : Nat) : Nat := if okC bn N c N = true then tt (MKS c N) else F
def fPC (bn : Nat → Nat → Bool) (N : Nat) (tt : Nat → Nat) (F m : Nat) : Nat := if okM bn N m N = true then tt m else F
theorem put_eq {bn : Nat → Nat → Bool} {N : Nat} {tt : Nat → Nat} {F : Nat} : mnV (fPM bn N tt F) F (4 ^ N) = mnV (fPC bn N tt F) F (2 ^ N) ∧ (mnV (fPC bn N tt F) F (2 ^ N) < F → mnP (fPC bn N tt F) F (2 ^ N) < 2 ^ N ∧ mnP (fPM bn N tt F) F (4 ^ N) = CCS bn N (mnP (fPC bn N tt F) F (2 ^ N)) N) := by
  obtain ⟨c1, c2, c3⟩ := mnV_b (f := fPC bn N tt F) (F := F) (2 ^ N)
  obtain ⟨m1, m2, m3⟩ := mnV_b (f := fPM bn N tt F) (F := F) (4 ^ N)
  have up : ∀ m, m < 2 ^ N → okM bn N m N = true → fPM bn N tt F (CCS bn N m N) = tt m ∧ fPC bn N tt F m = tt m := by
    intro m hm ok
    unfold fPM fPC
    rw [if_pos (okC_CCS ok), if_pos ok, MKS_CCS N (Nat.le_refl _), Nat.mod_eq_of_lt hm]
    exact ⟨rfl, rfl⟩
  have dn : ∀ c, okC bn N c N = true → fPC bn N tt F (MKS c N) = tt (MKS c N) ∧ fPM bn N tt F c = tt (MKS c N) := by
    intro c ok
    unfold fPM fPC
    rw [if_pos (okM_MKS ok), if_pos ok]
    exact ⟨rfl, rfl⟩
  have bad1 : ∀ m, ¬ okM bn N m N = true → fPC bn N tt F m = F := fun m z => if_neg z
  have bad2 : ∀ c, ¬ okC bn N c N = true → fPM bn N tt F c = F := fun c z => if_neg z
  have le1 : mnV (fPM bn N tt F) F (4 ^ N) ≤ mnV (fPC bn N tt F) F (2 ^ N) := by
    rcases Nat.lt_or_ge (mnV (fPC bn N tt F) F (2 ^ N)) F with h | h
    · obtain ⟨a1, a2, -⟩ := c3 h
      have ok : okM bn N (mnP (fPC bn N tt F) F (2 ^ N)) N = true := Classical.byContradiction fun z => by
        rw [bad1 _ z] at a2; omega
      obtain ⟨u1, u2⟩ := up _ a1 ok
      have := m2 (CCS bn N (mnP (fPC bn N tt F) F (2 ^ N)) N) (CCS_lt N)
      omega
    · omega
  have le2 : mnV (fPC bn N tt F) F (2 ^ N) ≤ mnV (fPM bn N tt F) F (4 ^ N) := by
    rcases Nat.lt_or_ge (mnV (fPM bn N tt F) F (4 ^ N)) F with h | h
    · obtain ⟨a1, a2, -⟩ := m3 h
      have ok : okC bn N (mnP (fPM bn N tt F) F (4 ^ N)) N = true := Classical.byContradiction fun z => by
        rw [bad2 _ z] at a2; omega
      obtain ⟨u1, u2⟩ := dn _ ok
      have := c2 (MKS (mnP (fPM bn N tt F) F (4 ^ N)) N) (MKS_lt N)
      omega
    · omega
  have e : mnV (fPM bn N tt F) F (4 ^ N) = mnV (fPC bn N tt F) F (2 ^ N) := by omega
  refine ⟨e, fun h => ?_⟩
  obtain ⟨a1, a2, a3⟩ := c3 h
  obtain ⟨b1, b2, b3⟩ := m3 (by omega)
  have ok1 : okM bn N (mnP (fPC bn N tt F) F (2 ^ N)) N = true := Classical.byContradiction fun z => by
    rw [bad1 _ z] at a2; omega
  have ok2 : okC bn N (mnP (fPM bn N tt F) F (4 ^ N)) N = true := Classical.byContradiction fun z => by
    rw [bad2 _ z] at b2; omega
  obtain ⟨u1, u2⟩ := up _ a1 ok1
  obtain ⟨d1, d2⟩ := dn _ ok2
  have l1 : mnP (fPM bn N tt F) F (4 ^ N) ≤ CCS bn N (mnP (fPC bn N tt F) F (2 ^ N)) N := by
    rcases Nat.lt_or_ge (CCS bn N (mnP (fPC bn N tt F) F (2 ^ N)) N) (mnP (fPM bn N tt F) F (4 ^ N)) with g | g
    · have := b3 _ g; omega
    · exact g
  have l2 : mnP (fPC bn N tt F) F (2 ^ N) ≤ MKS (mnP (fPM bn N tt F) F (4 ^ N)) N := by
    rcases Nat.lt_or_ge (MKS (mnP (fPM bn N tt F) F (4 ^ N)) N) (mnP (fPC bn N tt F) F (2 ^ N)) with g | g
    · have := a3 _ g; omega
    · exact g
  have l3 : CCS bn N (mnP (fPC bn N tt F) F (2 ^ N)) N ≤ CCS bn N (MKS (mnP (fPM bn N tt F) F (4 ^ N)) N) N := by
    rcases Nat.eq_or_lt_of_le l2 with g | g
    · rw [← g]; exact Nat.le_refl _
    · exact Nat.le_of_lt (CCS_mono N (by rw [Nat.mod_eq_of_lt a1, Nat.mod_eq_of_lt (MKS_lt N)]; exact g))
  have l4 := CCS_le ok2 N (Nat.le_refl _)
  rw [Nat.mod_eq_of_lt b1] at l4
  exact ⟨a1, by omega⟩
