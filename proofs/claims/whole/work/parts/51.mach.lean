/-! the two machines that work out a text's code, on longs -/
def ck (v : Int64) : Option Int64 := if 1000000000 < v then none else if v < -1000000000 then none else some v
def jn (op : Nat) (a b : Int64) : Option Int64 :=
  if op = 2 then ck (a + b) else if op = 3 then ck (a - b) else if op = 4 then ck (a * b)
  else if op = 5 then (if b = 0 then none else ck (a / b)) else if op = 6 then (if b = 0 then none else ck (a - a / b * b))
  else if op = 7 then some (if a < b then 1 else 0) else if op = 8 then some (if b < a then 1 else 0) else some (if a = b then 1 else 0)
/-- the class's: code, words, how many words, end, place, top, stack -/
def mc (c : Nat → Nat) (w : Nat → Int64) (nw e i t : Nat) (s : Nat → Int64) : Option Int64 :=
  if e ≤ i then (if t = 1 then some (s 0) else none)
  else if c i / 1024 = 0 then (if 52 ≤ t then none else mc c w nw e (i + 1) (t + 1) (upJ s t (nI (c i % 1024)).toInt64))
  else if c i / 1024 = 1 then (if 52 ≤ t then none else if nw ≤ c i % 1024 then none else mc c w nw e (i + 1) (t + 1) (upJ s t (w (c i % 1024))))
  else if t = 0 then none
  else if c i / 1024 = 10 then mc c w nw e (i + 1) t (upJ s (t - 1) (1 - s (t - 1)))
  else if c i / 1024 = 11 then (if s (t - 1) = 0 then mc c w nw e (max i (c i % 1024 - 1) + 1) t s else mc c w nw e (i + 1) (t - 1) s)
  else if c i / 1024 = 12 then (if s (t - 1) = 1 then mc c w nw e (max i (c i % 1024 - 1) + 1) t s else mc c w nw e (i + 1) (t - 1) s)
  else if t = 1 then none
  else match jn (c i / 1024) (s (t - 2)) (s (t - 1)) with
    | none => none
    | some v => mc c w nw e (i + 1) (t - 1) (upJ s (t - 2) v)
termination_by e - i
decreasing_by all_goals omega
/-- the model's: the outer none is where it would be stuck -/
def mm (op ar : Nat → Nat) (lf : Nat → Nat → Option Int64) (e i t : Nat) (s : Nat → Int64) : Option (Option Int64) :=
  if e ≤ i then (if t = 1 then some (some (s 0)) else none)
  else if op i < 20 then (if 400 ≤ t then none else match lf (op i) (ar i) with
    | none => none
    | some v => mm op ar lf e (i + 1) (t + 1) (upJ s t v))
  else if t = 0 then none
  else if op i < 28 then (if t = 1 then none else match jn (op i - 18) (s (t - 2)) (s (t - 1)) with
    | none => some none
    | some v => mm op ar lf e (i + 1) (t - 1) (upJ s (t - 2) v))
  else if op i = 28 then mm op ar lf e (i + 1) t (upJ s (t - 1) (1 - s (t - 1)))
  else if s (t - 1) = (if op i = 29 then 0 else 1) then (if i < ar i then mm op ar lf e (max (i + 1) (ar i)) t s else none)
  else mm op ar lf e (i + 1) (t - 1) s
termination_by e - i
decreasing_by all_goals omega
def rC (o : Option Int64) : Int64 := match o with
  | none => 2000000000
  | some v => v
theorem qdiv {a : Nat} (h : a < 2147483648) : nI a / 1024 = nI (a / 1024) := by
  refine Int32.toInt_inj.mp ?_
  have h1 : a / 1024 < 2147483648 := by omega
  rw [Int32.toInt_div, qi h, qi h1, show (1024 : Int32).toInt = 1024 from rfl, Int.bmod_def]
  have e : (a : Int).tdiv 1024 = ((a / 1024 : Nat) : Int) := rfl
  rw [e]
  omega
theorem qmod {a : Nat} (h : a < 2147483648) : nI a - nI a / 1024 * 1024 = nI (a % 1024) := by
  have e : nI a / 1024 * 1024 = nI (a / 1024 * 1024) := by rw [qdiv h]; exact qmull _ 1024
  rw [e]
  have e2 : nI a = nI (a % 1024) + nI (a / 1024 * 1024) := by rw [nI_add]; congr 1; omega
  rw [e2]
  exact Int32.add_sub_cancel _ _
theorem jn_small {op : Nat} {a b v : Int64} (h : jn op a b = some v) : ¬ v = 2000000000 := by
  intro hv
  subst hv
  unfold jn at h
  have key : ∀ x : Int64, ck x ≠ some 2000000000 := by
    intro x hx
    unfold ck at hx
    split at hx
    · cases hx
    · split at hx
      · cases hx
      · rename_i h1 _
        cases hx
        exact h1 (by decide)
  split at h
  · exact key _ h
  split at h
  · exact key _ h
  split at h
  · exact key _ h
  split at h
  · split at h
    · cases h
    · exact key _ h
  split at h
  · split at h
    · cases h
    · exact key _ h
  split at h
  · split at h <;> cases h
  split at h
  · split at h <;> cases h
  · split at h <;> cases h
theorem ck_eq (w : Int64) : (if 1000000000 < w then 2000000000 else (if -1000000000 ≤ w then w else 2000000000)) = rC (ck w) := by
  unfold ck
  by_cases h1 : (1000000000 : Int64) < w
  · rw [if_pos h1, if_pos h1]; rfl
  · rw [if_neg h1, if_neg h1]
    by_cases h2 : w < -1000000000
    · rw [if_pos h2, if_neg (by rw [Int64.le_iff_toInt_le]; rw [Int64.lt_iff_toInt_lt] at h2; omega)]; rfl
    · rw [if_neg h2, if_pos (by rw [Int64.le_iff_toInt_le]; rw [Int64.lt_iff_toInt_lt] at h2; omega)]; rfl
/-- joined -/
theorem sp_joined {n : Nat} {S : tSH} {I : tHI} {J : tHJ} {op : Nat} {a b : Int64} {k : Int64 → tHI → tHJ → Prop} (ho : 2 ≤ op ∧ op ≤ 9) (h : k (rC (jn op a b)) I J) : F0_joined n S I J (nI op) a b k := by
  have c1 : ∀ m : Nat, m < 100 → (nI op = nI m ↔ op = m) := fun m hm => qeq (by omega) (by omega)
  have e2 : nI op = 2 ↔ op = 2 := c1 2 (by omega)
  have e3 : nI op = 3 ↔ op = 3 := c1 3 (by omega)
  have e4 : nI op = 4 ↔ op = 4 := c1 4 (by omega)
  have e5 : nI op = 5 ↔ op = 5 := c1 5 (by omega)
  have e6 : nI op = 6 ↔ op = 6 := c1 6 (by omega)
  have e7 : nI op = 7 ↔ op = 7 := c1 7 (by omega)
  have e8 : nI op = 8 ↔ op = 8 := c1 8 (by omega)
  have main : (b = 0 → op ≠ 5 ∧ op ≠ 6) → F0_joined_21 n S k I J (nI op) a b := by
    intro hb
    unfold F0_joined_21 F0_joined_160
    simp only [lg_cmp_eq, lg_cmp_ge, lg_cmp_le, lg_cmp_gt]
    refine ⟨fun c => ?_, fun c => ?_, fun c => ?_, fun c => ?_, fun c => ?_, fun c => ?_, fun c => ?_, fun c => ?_⟩
    · rw [e2] at c; subst c; rw [ck_eq]; rw [show jn 2 a b = ck (a + b) by simp [jn]] at h; exact h
    · rw [e3] at c; subst c; rw [ck_eq]; rw [show jn 3 a b = ck (a - b) by simp [jn]] at h; exact h
    · rw [e4] at c; subst c; rw [ck_eq]; rw [show jn 4 a b = ck (a * b) by simp [jn]] at h; exact h
    · rw [e5] at c; subst c
      have hb0 : ¬ b = 0 := fun q => (hb q).1 rfl
      refine ⟨⟨fun q => ⟨q, trivial⟩, fun _ => trivial⟩, ?_⟩
      rw [if_neg hb0, ck_eq]
      have e : jn 5 a b = ck (a / b) := by simp [jn, hb0]
      rw [e] at h
      exact h
    · rw [e6] at c; subst c
      have hb0 : ¬ b = 0 := fun q => (hb q).2 rfl
      refine ⟨⟨fun q => ⟨q, trivial⟩, fun _ => trivial⟩, ?_⟩
      rw [if_neg hb0, ck_eq]
      have e : jn 6 a b = ck (a - a / b * b) := by simp [jn, hb0]
      rw [e] at h
      exact h
    · rw [e7] at c; subst c
      have e : rC (jn 7 a b) = if b ≤ a then (0 : Int64) else 1 := by
        by_cases q : a < b
        · have q' : ¬ b ≤ a := by rw [Int64.le_iff_toInt_le]; rw [Int64.lt_iff_toInt_lt] at q; omega
          simp [jn, rC, q, q']
        · have q' : b ≤ a := by rw [Int64.le_iff_toInt_le]; rw [Int64.lt_iff_toInt_lt] at q; omega
          simp [jn, rC, q, q']
      rw [e] at h
      exact h
    · rw [e8] at c; subst c
      have e : rC (jn 8 a b) = if a ≤ b then (0 : Int64) else 1 := by
        by_cases q : b < a
        · have q' : ¬ a ≤ b := by rw [Int64.le_iff_toInt_le]; rw [Int64.lt_iff_toInt_lt] at q; omega
          simp [jn, rC, q, q']
        · have q' : a ≤ b := by rw [Int64.le_iff_toInt_le]; rw [Int64.lt_iff_toInt_lt] at q; omega
          simp [jn, rC, q, q']
      rw [e] at h
      exact h
    · have hout := sw_out (lo := 2) (n := 7) (by decide) (by decide) c
      rw [qi (by omega)] at hout
      have e9 : op = 9 := by omega
      subst e9
      have e : rC (jn 9 a b) = if a = b then (1 : Int64) else 0 := by simp [jn, rC]
      rw [e] at h
      exact h
  unfold F0_joined F0_joined_17
  simp only [lg_cmp_eq]
  refine ⟨fun c => main (fun q => absurd q c), fun c => ⟨fun d => ?_, fun d => ⟨fun d6 => ?_, fun d6 => ?_⟩⟩⟩
  · rw [e5] at d; subst d
    have e : jn 5 a b = none := by simp [jn, c]
    rw [e] at h
    exact h
  · exact main (fun _ => ⟨fun q => d (e5.mpr q), fun q => d6 (e6.mpr q)⟩)
  · rw [e6] at d6; subst d6
    have e : jn 6 a b = none := by simp [jn, c]
    rw [e] at h
    exact h
