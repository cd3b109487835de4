/-! leaning, I: rows of leans as numbers to the base of five -/
def pwL (m : Nat → Bool) (N : Nat) : Nat → Nat
  | 0 => 1
  | j + 1 => pwL m N j * (if m (N - (j + 1)) = true then 5 else 1)
def dgL (m : Nat → Bool) (N c l : Nat) : Nat := if l < N ∧ m l = true then c / pwL m N (N - 1 - l) % 5 else 0
def nxD (N : Nat) (m : Nat → Bool) : Nat → (Nat → Nat) → Option (Nat → Nat)
  | 0, _ => none
  | i + 1, d => if i < N ∧ m i = true then (if d i < 4 then some (fun x => if x = i then d i + 1 else d x) else nxD N m i (fun x => if x = i then 0 else d x)) else nxD N m i d
theorem pwL_pos {m : Nat → Bool} {N : Nat} : ∀ j, 0 < pwL m N j := by
  intro j
  induction j with
  | zero => exact Nat.zero_lt_one
  | succ j ih =>
    show 0 < pwL m N j * (if m (N - (j + 1)) = true then 5 else 1)
    split <;> omega
theorem pwL_le {m : Nat → Bool} {N : Nat} : ∀ j, pwL m N j ≤ 5 ^ j := by
  intro j
  induction j with
  | zero => exact Nat.le_refl _
  | succ j ih =>
    show pwL m N j * (if m (N - (j + 1)) = true then 5 else 1) ≤ 5 ^ (j + 1)
    rw [Nat.pow_succ]
    split <;> omega
theorem pwL_dvd {m : Nat → Bool} {N j : Nat} : ∀ e, ∃ t, 0 < t ∧ pwL m N (j + e) = pwL m N j * t := by
  intro e
  induction e with
  | zero => exact ⟨1, by omega, by rw [Nat.mul_one]; rfl⟩
  | succ e ih =>
    obtain ⟨t, t1, t2⟩ := ih
    refine ⟨t * (if m (N - (j + e + 1)) = true then 5 else 1), ?_, ?_⟩
    · split <;> omega
    · show pwL m N (j + e) * (if m (N - (j + e + 1)) = true then 5 else 1) = _
      rw [t2, Nat.mul_assoc]
theorem dgL_lt {m : Nat → Bool} {N c l : Nat} : dgL m N c l < 5 := by
  unfold dgL
  split
  · exact Nat.mod_lt _ (by omega)
  · omega
theorem nxD_hi {N : Nat} {m : Nat → Bool} {d : Nat → Nat} : ∀ e, nxD N m (N + e) d = nxD N m N d := by
  intro e
  induction e with
  | zero => rfl
  | succ e ih =>
    show (if N + e < N ∧ m (N + e) = true then _ else nxD N m (N + e) d) = _
    rw [if_neg (by omega), ih]
theorem div_up {c a : Nat} (ha : 0 < a) (h : c % a + 1 < a) : (c + 1) / a = c / a := by
  have e : c + 1 = (c % a + 1) + a * (c / a) := by have := Nat.mod_add_div c a; omega
  rw [e, Nat.add_mul_div_left _ _ ha, Nat.div_eq_of_lt h, Nat.zero_add]
theorem lt_up {c a t : Nat} (h : c % a + 1 < a) (hc : c < a * t) : c + 1 < a * t := by
  have ha : 0 < a := by omega
  have h1 : c / a < t := Nat.div_lt_of_lt_mul hc
  have h2 : a * (c / a) + a ≤ a * t := by rw [← Nat.mul_succ]; exact Nat.mul_le_mul_left a h1
  have := Nat.mod_add_div c a
  omega
theorem nxD_c {m : Nat → Bool} {N c : Nat} (hc : c < pwL m N N) : ∀ i j, i + j = N → c % pwL m N j + 1 = pwL m N j → nxD N m i (fun x => if i ≤ x then 0 else dgL m N c x) = (if c + 1 < pwL m N N then some (dgL m N (c + 1)) else none) := by
  intro i
  induction i with
  | zero =>
    intro j hj hm
    have : j = N := by omega
    subst this
    rw [Nat.mod_eq_of_lt hc] at hm
    rw [if_neg (by omega)]; rfl
  | succ i ih =>
    intro j hj hm
    have hij : N - (j + 1) = i := by omega
    have ep : pwL m N (j + 1) = pwL m N j * (if m i = true then 5 else 1) := by
      show pwL m N j * (if m (N - (j + 1)) = true then 5 else 1) = _
      rw [hij]
    have hp := pwL_pos (m := m) (N := N) j
    show (if i < N ∧ m i = true then (if (if i + 1 ≤ i then 0 else dgL m N c i) < 4 then some (fun x => if x = i then (if i + 1 ≤ i then 0 else dgL m N c i) + 1 else (if i + 1 ≤ x then 0 else dgL m N c x)) else nxD N m i (fun x => if x = i then 0 else (if i + 1 ≤ x then 0 else dgL m N c x))) else nxD N m i (fun x => if i + 1 ≤ x then 0 else dgL m N c x)) = _
    rw [if_neg (show ¬ i + 1 ≤ i by omega)]
    by_cases hmi : m i = true
    · rw [if_pos ⟨by omega, hmi⟩]
      rw [if_pos hmi] at ep
      have ed : dgL m N c i = c / pwL m N j % 5 := by
        unfold dgL
        rw [if_pos ⟨by omega, hmi⟩, show N - 1 - i = j by omega]
      have em : c % pwL m N (j + 1) = c % pwL m N j + pwL m N j * (c / pwL m N j % 5) := by rw [ep, Nat.mod_mul]
      by_cases c4 : dgL m N c i < 4
      · rw [if_pos c4]
        have hlt : c % pwL m N (j + 1) + 1 < pwL m N (j + 1) := by
          rw [em, ep]
          rw [ed] at c4
          have : pwL m N j * (c / pwL m N j % 5) ≤ pwL m N j * 3 := Nat.mul_le_mul_left _ (by omega)
          omega
        obtain ⟨t, t1, t2⟩ := pwL_dvd (m := m) (N := N) (j := j + 1) i
        rw [show j + 1 + i = N by omega] at t2
        have hR : c + 1 < pwL m N N := by rw [t2] at hc ⊢; exact lt_up hlt hc
        rw [if_pos hR]
        congr 1
        funext x
        have e1 : c + 1 = pwL m N j * (c / pwL m N j + 1) := by have := Nat.mod_add_div c (pwL m N j); rw [Nat.mul_add, Nat.mul_one]; omega
        by_cases xi : x = i
        · subst xi
          rw [if_pos rfl, ed]
          rw [ed] at c4
          unfold dgL
          rw [if_pos ⟨by omega, hmi⟩, show N - 1 - x = j by omega, e1, Nat.mul_div_cancel_left _ hp]
          have : (pwL m N j * (c / pwL m N j + 1) ) / pwL m N j = c / pwL m N j + 1 := Nat.mul_div_cancel_left _ hp
          omega
        · rw [if_neg xi]
          by_cases hx : x < N ∧ m x = true
          · by_cases g : i + 1 ≤ x
            · rw [if_pos g]
              unfold dgL
              rw [if_pos hx]
              obtain ⟨s, s1, s2⟩ := pwL_dvd (m := m) (N := N) (j := (N - 1 - x) + 1) (j - ((N - 1 - x) + 1))
              rw [show N - 1 - x + 1 + (j - (N - 1 - x + 1)) = j by omega] at s2
              have ex : pwL m N (N - 1 - x + 1) = pwL m N (N - 1 - x) * 5 := by
                show pwL m N (N - 1 - x) * (if m (N - (N - 1 - x + 1)) = true then 5 else 1) = _
                rw [show N - (N - 1 - x + 1) = x by omega, if_pos hx.2]
              rw [e1, s2, ex]
              have e3 : pwL m N (N - 1 - x) * 5 * s * (c / (pwL m N (N - 1 - x) * 5 * s) + 1) = pwL m N (N - 1 - x) * (5 * (s * (c / (pwL m N (N - 1 - x) * 5 * s) + 1))) := by
                rw [Nat.mul_assoc, Nat.mul_assoc]
              rw [e3, Nat.mul_div_cancel_left _ (pwL_pos _), Nat.mul_mod_right]
            · rw [if_neg g]
              unfold dgL
              rw [if_pos hx, if_pos hx]
              obtain ⟨s, s1, s2⟩ := pwL_dvd (m := m) (N := N) (j := j + 1) ((N - 1 - x) - (j + 1))
              rw [show j + 1 + ((N - 1 - x) - (j + 1)) = N - 1 - x by omega] at s2
              rw [s2, ← Nat.div_div_eq_div_mul, ← Nat.div_div_eq_div_mul, div_up (pwL_pos _) hlt]
          · have z1 : dgL m N c x = 0 := by unfold dgL; rw [if_neg hx]
            have z2 : dgL m N (c + 1) x = 0 := by unfold dgL; rw [if_neg hx]
            rw [z1, z2]
            split <;> rfl
      · rw [if_neg c4]
        have h4 : c / pwL m N j % 5 = 4 := by rw [ed] at c4; have := Nat.mod_lt (c / pwL m N j) (show 0 < 5 by omega); omega
        have key := ih (j + 1) (by omega) (by rw [em, ep, h4]; omega)
        rw [← key]
        congr 1
        funext x
        by_cases xi : x = i
        · subst xi; rw [if_pos rfl, if_pos (Nat.le_refl _)]
        · rw [if_neg xi]
          by_cases g : i + 1 ≤ x
          · rw [if_pos g, if_pos (by omega)]
          · rw [if_neg g, if_neg (by omega)]
    · rw [if_neg (fun z => hmi z.2)]
      rw [if_neg hmi, Nat.mul_one] at ep
      have key := ih (j + 1) (by omega) (by rw [ep]; exact hm)
      rw [← key]
      congr 1
      funext x
      by_cases xi : x = i
      · subst xi
        rw [if_neg (by omega), if_pos (Nat.le_refl _)]
        unfold dgL
        rw [if_neg (fun z => hmi z.2)]
      · by_cases g : i + 1 ≤ x
        · rw [if_pos g, if_pos (by omega)]
        · rw [if_neg g, if_neg (by omega)]
theorem nxD_6 {m : Nat → Bool} {N c : Nat} (hN : N ≤ 6) (hc : c < pwL m N N) : nxD N m 6 (dgL m N c) = (if c + 1 < pwL m N N then some (dgL m N (c + 1)) else none) := by
  have h1 := nxD_hi (m := m) (d := dgL m N c) (N := N) (6 - N)
  rw [show N + (6 - N) = 6 by omega] at h1
  have h2 := nxD_c hc N 0 (by omega) (by show c % 1 + 1 = 1; omega)
  have e : (fun x => if N ≤ x then 0 else dgL m N c x) = dgL m N c := by
    funext x
    by_cases g : N ≤ x
    · rw [if_pos g]; unfold dgL; rw [if_neg (by omega)]
    · rw [if_neg g]
  rw [e] at h2
  rw [h1, h2]
/-- the number of rows, as the model takes it -/
def rwL (m : Nat → Bool) : Nat → Nat
  | 0 => 1
  | l + 1 => rwL m l * (if m l = true then 5 else 1)
theorem rwL_pw {m : Nat → Bool} {N : Nat} : ∀ j, j ≤ N → rwL m (N - j) * pwL m N j = rwL m N := by
  intro j
  induction j with
  | zero => intro _; exact Nat.mul_one _
  | succ j ih =>
    intro hj
    have := ih (by omega)
    have e : N - j = (N - (j + 1)) + 1 := by omega
    rw [e] at this
    have e2 : rwL m (N - (j + 1) + 1) = rwL m (N - (j + 1)) * (if m (N - (j + 1)) = true then 5 else 1) := rfl
    rw [e2] at this
    show rwL m (N - (j + 1)) * (pwL m N j * (if m (N - (j + 1)) = true then 5 else 1)) = _
    rw [← this, Nat.mul_assoc, Nat.mul_comm (pwL m N j)]
theorem rwL_eq {m : Nat → Bool} {N : Nat} : rwL m N = pwL m N N := by
  have := rwL_pw (m := m) (N := N) N (Nat.le_refl _)
  rw [Nat.sub_self] at this
  have e : rwL m 0 = 1 := rfl
  rw [e, Nat.one_mul] at this
  exact this.symm
theorem pwL_b {m : Nat → Bool} {N : Nat} (hN : N ≤ 6) {j : Nat} (hj : j ≤ N) : pwL m N j ≤ 15625 := by
  have h1 := pwL_le (m := m) (N := N) j
  have h2 : 5 ^ j ≤ 5 ^ 6 := Nat.pow_le_pow_right (by omega) (by omega)
  omega
theorem rwL_b {m : Nat → Bool} : ∀ l, l ≤ 6 → rwL m l ≤ 15625 := fun l hl => by rw [rwL_eq]; exact pwL_b hl (Nat.le_refl _)
/-- what is left of a code behind a load -/
theorem lf_step {m : Nat → Bool} {N c l : Nat} (hl : l < N) : c / pwL m N (N - l) = (if m l = true then c / pwL m N (N - 1 - l) / 5 else c / pwL m N (N - 1 - l)) := by
  have e : N - l = (N - 1 - l) + 1 := by omega
  rw [e]
  have e2 : pwL m N (N - 1 - l + 1) = pwL m N (N - 1 - l) * (if m l = true then 5 else 1) := by
    show pwL m N (N - 1 - l) * (if m (N - (N - 1 - l + 1)) = true then 5 else 1) = _
    rw [show N - (N - 1 - l + 1) = l by omega]
  rw [e2]
  by_cases g : m l = true
  · rw [if_pos g, if_pos g, Nat.div_div_eq_div_mul]
  · rw [if_neg g, if_neg g, Nat.mul_one]
def sgm (f : Nat → Int) : Nat → Int
  | 0 => 0
  | i + 1 => sgm f i + f i
theorem sgm_cg {f g : Nat → Int} : ∀ n, (∀ x, x < n → f x = g x) → sgm f n = sgm g n := by
  intro n
  induction n with
  | zero => intro _; rfl
  | succ n ih =>
    intro h
    show sgm f n + f n = sgm g n + g n
    rw [ih (fun x hx => h x (by omega)), h n (by omega)]
theorem sgm_up {f g : Nat → Int} {l : Nat} (h : ∀ x, x ≠ l → g x = f x) : ∀ n, l < n → sgm g n = sgm f n + (g l - f l) := by
  intro n
  induction n with
  | zero => intro hl; omega
  | succ n ih =>
    intro hl
    show sgm g n + g n = sgm f n + f n + (g l - f l)
    by_cases c : l = n
    · subst c
      rw [sgm_cg (f := g) (g := f) l (fun x hx => h x (by omega))]; omega
    · rw [ih (by omega), h n (fun z => c z.symm)]; omega
theorem sgm_b {f : Nat → Int} {M : Int} (h : ∀ x, -M ≤ f x ∧ f x ≤ M) : ∀ n : Nat, -(M * n) ≤ sgm f n ∧ sgm f n ≤ M * n := by
  intro n
  induction n with
  | zero => show -(M * ((0 : Nat) : Int)) ≤ 0 ∧ (0 : Int) ≤ M * ((0 : Nat) : Int); simp
  | succ n ih =>
    show -(M * ((n + 1 : Nat) : Int)) ≤ sgm f n + f n ∧ sgm f n + f n ≤ M * ((n + 1 : Nat) : Int)
    have := h n
    have e : M * ((n + 1 : Nat) : Int) = M * n + M := by rw [Int.natCast_add, Int.mul_add]; simp
    rw [e]
    omega
theorem sgm_z {f : Nat → Int} {N : Nat} (h : ∀ x, N ≤ x → f x = 0) : ∀ e, sgm f (N + e) = sgm f N := by
  intro e
  induction e with
  | zero => rfl
  | succ e ih =>
    show sgm f (N + e) + f (N + e) = _
    rw [ih, h (N + e) (by omega)]; omega
