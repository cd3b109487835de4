/-! soonest, I: the least times, on numbers -/
def bpF (f : Nat → Nat) (lo : Nat) : Nat → Nat
  | 0 => lo
  | d + 1 => if f (bpF f lo d) ≤ f (lo + d + 1) then bpF f lo d else lo + d + 1
theorem bpF_in {f : Nat → Nat} {lo : Nat} : ∀ d, lo ≤ bpF f lo d ∧ bpF f lo d ≤ lo + d := by
  intro d
  induction d with
  | zero => exact ⟨Nat.le_refl _, Nat.le_refl _⟩
  | succ d ih =>
    show lo ≤ (if f (bpF f lo d) ≤ f (lo + d + 1) then bpF f lo d else lo + d + 1) ∧ (if f (bpF f lo d) ≤ f (lo + d + 1) then bpF f lo d else lo + d + 1) ≤ lo + (d + 1)
    split <;> omega
theorem bpF_le {f : Nat → Nat} {lo : Nat} : ∀ d j, lo ≤ j → j ≤ lo + d → f (bpF f lo d) ≤ f j := by
  intro d
  induction d with
  | zero => intro j h1 h2; have : j = lo := by omega
            subst this; exact Nat.le_refl _
  | succ d ih =>
    intro j h1 h2
    show f (if f (bpF f lo d) ≤ f (lo + d + 1) then bpF f lo d else lo + d + 1) ≤ f j
    by_cases e : j = lo + d + 1
    · subst e
      split
      · assumption
      · exact Nat.le_refl _
    · have := ih j h1 (by omega)
      split <;> omega
theorem bpF_lt {f : Nat → Nat} {lo : Nat} : ∀ d j, lo ≤ j → j < bpF f lo d → f (bpF f lo d) < f j := by
  intro d
  induction d with
  | zero => intro j h1 h2; have : j < lo := h2
            omega
  | succ d ih =>
    intro j h1 h2
    have hin := bpF_in (f := f) (lo := lo) d
    change j < (if f (bpF f lo d) ≤ f (lo + d + 1) then bpF f lo d else lo + d + 1) at h2
    show f (if f (bpF f lo d) ≤ f (lo + d + 1) then bpF f lo d else lo + d + 1) < f j
    by_cases c : f (bpF f lo d) ≤ f (lo + d + 1)
    · rw [if_pos c] at h2 ⊢
      exact ih j h1 h2
    · rw [if_neg c] at h2 ⊢
      have := bpF_le (f := f) d j h1 (by omega)
      omega
/-- the least over paces, as the model takes it -/
def mnF (f : Nat → Nat) (lo hi : Nat) : Nat → Nat
  | 0 => 100000000
  | p + 1 => if lo ≤ p ∧ p ≤ hi then (if mnF f lo hi p ≤ f p then mnF f lo hi p else f p) else mnF f lo hi p
theorem mnF_b {f : Nat → Nat} {lo hi : Nat} : ∀ p, mnF f lo hi p ≤ 100000000 ∧ (∀ j, lo ≤ j → j ≤ hi → j < p → mnF f lo hi p ≤ f j) ∧ (mnF f lo hi p = 100000000 ∨ ∃ j, lo ≤ j ∧ j ≤ hi ∧ j < p ∧ mnF f lo hi p = f j) := by
  intro p
  induction p with
  | zero => exact ⟨Nat.le_refl _, fun j _ _ h => by omega, Or.inl rfl⟩
  | succ p ih =>
    obtain ⟨i1, i2, i3⟩ := ih
    have e : mnF f lo hi (p + 1) = (if lo ≤ p ∧ p ≤ hi then (if mnF f lo hi p ≤ f p then mnF f lo hi p else f p) else mnF f lo hi p) := rfl
    rw [e]
    by_cases c : lo ≤ p ∧ p ≤ hi
    · rw [if_pos c]
      by_cases g : mnF f lo hi p ≤ f p
      · rw [if_pos g]
        refine ⟨i1, fun j a b h => ?_, ?_⟩
        · by_cases z : j = p
          · subst z; exact g
          · exact i2 j a b (by omega)
        · rcases i3 with z | ⟨j, a, b, h, z⟩
          · exact Or.inl z
          · exact Or.inr ⟨j, a, b, by omega, z⟩
      · rw [if_neg g]
        refine ⟨by omega, fun j a b h => ?_, Or.inr ⟨p, c.1, c.2, by omega, rfl⟩⟩
        by_cases z : j = p
        · subst z; exact Nat.le_refl _
        · have := i2 j a b (by omega); omega
    · rw [if_neg c]
      refine ⟨i1, fun j a b h => ?_, ?_⟩
      · by_cases z : j = p
        · subst z; exact absurd ⟨a, b⟩ c
        · exact i2 j a b (by omega)
      · rcases i3 with z | ⟨j, a, b, h, z⟩
        · exact Or.inl z
        · exact Or.inr ⟨j, a, b, by omega, z⟩
theorem mnF_eq {f : Nat → Nat} {lo hi p : Nat} (h : lo ≤ hi) (hp : hi < p) (hf : ∀ j, lo ≤ j → j ≤ hi → f j ≤ 100000000) : mnF f lo hi p = f (bpF f lo (hi - lo)) := by
  obtain ⟨b1, b2, b3⟩ := mnF_b (f := f) (lo := lo) (hi := hi) p
  have hin := bpF_in (f := f) (lo := lo) (hi - lo)
  have h1 := b2 (bpF f lo (hi - lo)) hin.1 (by omega) (by omega)
  have h2 := hf (bpF f lo (hi - lo)) hin.1 (by omega)
  rcases b3 with z | ⟨j, a, b, h3, z⟩
  · omega
  · have := bpF_le (f := f) (hi - lo) j a (by omega)
    omega
def loP (k p : Nat) : Nat := if 1 ≤ p - k then p - k else 1
def hiP (g p : Nat) : Nat := if p + g ≤ 60 then p + g else 60
def nxP (f : Nat → Nat) (g k p : Nat) : Nat := bpF f (loP k p) (hiP g p - loP k p)
theorem lh {g k p : Nat} (hp : 1 ≤ p) (hp60 : p ≤ 60) : 1 ≤ loP k p ∧ loP k p ≤ p ∧ p ≤ hiP g p ∧ hiP g p ≤ 60 ∧ loP k p ≤ hiP g p := by
  unfold loP hiP
  split <;> split <;> omega
theorem nxP_in {f : Nat → Nat} {g k p : Nat} (hp : 1 ≤ p) (hp60 : p ≤ 60) : loP k p ≤ nxP f g k p ∧ nxP f g k p ≤ hiP g p ∧ 1 ≤ nxP f g k p ∧ nxP f g k p ≤ 60 := by
  have := lh (g := g) (k := k) hp hp60
  have := bpF_in (f := f) (lo := loP k p) (hiP g p - loP k p)
  unfold nxP
  omega
theorem nxP_le {f : Nat → Nat} {g k p j : Nat} (hp : 1 ≤ p) (hp60 : p ≤ 60) (h1 : loP k p ≤ j) (h2 : j ≤ hiP g p) : f (nxP f g k p) ≤ f j := by
  have := lh (g := g) (k := k) hp hp60
  exact bpF_le _ j h1 (by omega)
theorem nxP_lt {f : Nat → Nat} {g k p j : Nat} (h1 : loP k p ≤ j) (h2 : j < nxP f g k p) : f (nxP f g k p) < f j := bpF_lt _ j h1 h2
/-- the least time from a bend on, by the bends left and the pace -/
def tbS (T : Nat → Nat → Nat) (Q : Nat → Nat) (g k B : Nat) : Nat → Nat → Nat
  | 0 => fun _ => 0
  | d + 1 => fun p => if Q (B - (d + 1)) < p then 100000000 else (if T (B - (d + 1)) p + (if d = 0 then 0 else tbS T Q g k B d (nxP (tbS T Q g k B d) g k p)) ≤ 100000000 then T (B - (d + 1)) p + (if d = 0 then 0 else tbS T Q g k B d (nxP (tbS T Q g k B d) g k p)) else 100000000)
theorem tbS_b {T : Nat → Nat → Nat} {Q : Nat → Nat} {g k B : Nat} (hT : ∀ b p, T b p ≤ 5940) : ∀ d p, d ≤ 12 → tbS T Q g k B d p ≤ 5940 * d ∨ tbS T Q g k B d p = 100000000 := by
  intro d
  induction d with
  | zero => intro p _; exact Or.inl (Nat.le_refl _)
  | succ d ih =>
    intro p hd
    have e : tbS T Q g k B (d + 1) p = (if Q (B - (d + 1)) < p then 100000000 else (if T (B - (d + 1)) p + (if d = 0 then 0 else tbS T Q g k B d (nxP (tbS T Q g k B d) g k p)) ≤ 100000000 then T (B - (d + 1)) p + (if d = 0 then 0 else tbS T Q g k B d (nxP (tbS T Q g k B d) g k p)) else 100000000)) := rfl
    rw [e]
    have h1 := hT (B - (d + 1)) p
    have h2 := ih (nxP (tbS T Q g k B d) g k p) (by omega)
    by_cases c : Q (B - (d + 1)) < p
    · rw [if_pos c]; exact Or.inr rfl
    · rw [if_neg c]
      by_cases c2 : T (B - (d + 1)) p + (if d = 0 then 0 else tbS T Q g k B d (nxP (tbS T Q g k B d) g k p)) ≤ 100000000
      · rw [if_pos c2]
        by_cases c3 : d = 0
        · rw [if_pos c3]; omega
        · rw [if_neg c3] at c2 ⊢
          rcases h2 with h2 | h2 <;> omega
      · rw [if_neg c2]; exact Or.inr rfl
theorem tbS_le {T : Nat → Nat → Nat} {Q : Nat → Nat} {g k B : Nat} (hT : ∀ b p, T b p ≤ 5940) {d p : Nat} (hd : d ≤ 12) : tbS T Q g k B d p ≤ 100000000 := by
  rcases tbS_b (Q := Q) (g := g) (k := k) (B := B) hT d p hd with h | h <;> omega
theorem tbS_eq {T : Nat → Nat → Nat} {Q : Nat → Nat} {g k B b p : Nat} (hb : b < B) : tbS T Q g k B (B - b) p = (if Q b < p then 100000000 else (if T b p + (if B = b + 1 then 0 else tbS T Q g k B (B - (b + 1)) (nxP (tbS T Q g k B (B - (b + 1))) g k p)) ≤ 100000000 then T b p + (if B = b + 1 then 0 else tbS T Q g k B (B - (b + 1)) (nxP (tbS T Q g k B (B - (b + 1))) g k p)) else 100000000)) := by
  obtain ⟨d, hd⟩ : ∃ d, B - b = d + 1 := ⟨B - b - 1, by omega⟩
  rw [hd]
  have e : tbS T Q g k B (d + 1) p = (if Q (B - (d + 1)) < p then 100000000 else (if T (B - (d + 1)) p + (if d = 0 then 0 else tbS T Q g k B d (nxP (tbS T Q g k B d) g k p)) ≤ 100000000 then T (B - (d + 1)) p + (if d = 0 then 0 else tbS T Q g k B d (nxP (tbS T Q g k B d) g k p)) else 100000000)) := rfl
  rw [e, show B - (d + 1) = b by omega, show B - (b + 1) = d by omega]
  by_cases c : d = 0
  · rw [if_pos c, if_pos (show B = b + 1 by omega)]
  · rw [if_neg c, if_neg (show ¬ B = b + 1 by omega)]
theorem tbS_one {T : Nat → Nat → Nat} {Q : Nat → Nat} {g k B : Nat} (hT : ∀ b p, T b p ≤ 5940) (hQ : ∀ b, b < B → 1 ≤ Q b) (hB : B ≤ 12) : ∀ d, d ≤ B → tbS T Q g k B d 1 < 100000000 := by
  intro d
  induction d with
  | zero => intro _; exact Nat.zero_lt_succ _
  | succ d ih =>
    intro hd
    have e : tbS T Q g k B (d + 1) 1 = (if Q (B - (d + 1)) < 1 then 100000000 else (if T (B - (d + 1)) 1 + (if d = 0 then 0 else tbS T Q g k B d (nxP (tbS T Q g k B d) g k 1)) ≤ 100000000 then T (B - (d + 1)) 1 + (if d = 0 then 0 else tbS T Q g k B d (nxP (tbS T Q g k B d) g k 1)) else 100000000)) := rfl
    have h1 := hT (B - (d + 1)) 1
    have h0 := hQ (B - (d + 1)) (by omega)
    have h3 := lh (g := g) (k := k) (p := 1) (by omega) (by omega)
    have h4 := nxP_le (f := tbS T Q g k B d) (g := g) (k := k) (p := 1) (j := 1) (by omega) (by omega) h3.2.1 h3.2.2.1
    have h5 := ih (by omega)
    have h6 := tbS_b (Q := Q) (g := g) (k := k) (B := B) hT d (nxP (tbS T Q g k B d) g k 1) (by omega)
    rw [e, if_neg (by omega)]
    by_cases c3 : d = 0
    · rw [if_pos c3]; split <;> omega
    · rw [if_neg c3]; split <;> omega
theorem tbS_far {T : Nat → Nat → Nat} {Q : Nat → Nat} {g k B b0 : Nat} (hT : ∀ b p, T b p ≤ 5940) (hB : B ≤ 12) (hb : b0 < B) (hQ : Q b0 = 0) : ∀ e, e ≤ b0 → ∀ p, 1 ≤ p → p ≤ 60 → tbS T Q g k B (B - b0 + e) p = 100000000 := by
  intro e
  induction e with
  | zero =>
    intro _ p hp _
    rw [Nat.add_zero, tbS_eq hb, if_pos (by omega)]
  | succ e ih =>
    intro he p hp hp60
    have e1 : B - b0 + (e + 1) = B - (b0 - (e + 1)) := by omega
    have e2 : B - (b0 - (e + 1) + 1) = B - b0 + e := by omega
    have h3 := nxP_in (f := tbS T Q g k B (B - b0 + e)) (g := g) (k := k) hp hp60
    have h4 := ih (by omega) (nxP (tbS T Q g k B (B - b0 + e)) g k p) h3.2.2.1 h3.2.2.2
    rw [e1, tbS_eq (show b0 - (e + 1) < B by omega), e2, if_neg (show ¬ B = b0 - (e + 1) + 1 by omega), h4]
    have := hT (b0 - (e + 1)) p
    split
    · rfl
    · split <;> omega
/-- the pace in each bend -/
def wkS (T : Nat → Nat → Nat) (Q : Nat → Nat) (g k B : Nat) : Nat → Nat
  | 0 => bpF (tbS T Q g k B B) 1 59
  | b + 1 => nxP (tbS T Q g k B (B - (b + 1))) g k (wkS T Q g k B b)
theorem wkS_in {T : Nat → Nat → Nat} {Q : Nat → Nat} {g k B : Nat} : ∀ b, 1 ≤ wkS T Q g k B b ∧ wkS T Q g k B b ≤ 60 := by
  intro b
  induction b with
  | zero => have := bpF_in (f := tbS T Q g k B B) (lo := 1) 59
            exact ⟨this.1, by have := this.2; show bpF (tbS T Q g k B B) 1 59 ≤ 60; omega⟩
  | succ b ih => have := nxP_in (f := tbS T Q g k B (B - (b + 1))) (g := g) (k := k) ih.1 ih.2
                 exact ⟨this.2.2.1, this.2.2.2⟩
def glS (T : Nat → Nat → Nat) (Q : Nat → Nat) (g k B b : Nat) : Nat := tbS T Q g k B (B - b) (wkS T Q g k B b)
theorem glS_fin {T : Nat → Nat → Nat} {Q : Nat → Nat} {g k B : Nat} (hT : ∀ b p, T b p ≤ 5940) (hQ : ∀ b, b < B → 1 ≤ Q b) (hB : B ≤ 12) : ∀ b, b < B → glS T Q g k B b < 100000000 ∧ Q b ≥ wkS T Q g k B b ∧ (b + 1 < B → glS T Q g k B b = T b (wkS T Q g k B b) + glS T Q g k B (b + 1)) := by
  intro b
  have rest : ∀ b, b < B → glS T Q g k B b < 100000000 → Q b ≥ wkS T Q g k B b ∧ (b + 1 < B → glS T Q g k B b = T b (wkS T Q g k B b) + glS T Q g k B (b + 1)) := by
    intro b hb h1
    have e := tbS_eq (T := T) (Q := Q) (g := g) (k := k) (B := B) (b := b) (p := wkS T Q g k B b) hb
    change glS T Q g k B b = _ at e
    have hq : ¬ Q b < wkS T Q g k B b := fun z => by rw [if_pos z] at e; omega
    rw [if_neg hq] at e
    refine ⟨by omega, fun hb1 => ?_⟩
    rw [if_neg (show ¬ B = b + 1 by omega)] at e
    have e2 : glS T Q g k B (b + 1) = tbS T Q g k B (B - (b + 1)) (nxP (tbS T Q g k B (B - (b + 1))) g k (wkS T Q g k B b)) := rfl
    rw [← e2] at e
    split at e <;> omega
  induction b with
  | zero =>
    intro hb
    have h1 : glS T Q g k B 0 < 100000000 := by
      have := bpF_le (f := tbS T Q g k B B) (lo := 1) 59 1 (by omega) (by omega)
      have h2 := tbS_one (g := g) (k := k) hT hQ hB B (Nat.le_refl _)
      show tbS T Q g k B B (bpF (tbS T Q g k B B) 1 59) < 100000000
      omega
    exact ⟨h1, rest 0 hb h1⟩
  | succ b ih =>
    intro hb
    obtain ⟨i1, -, i3⟩ := ih (by omega)
    have h1 : glS T Q g k B (b + 1) < 100000000 := by have := i3 hb; omega
    exact ⟨h1, rest (b + 1) hb h1⟩
/-- the class's mark for what can't be -/
def clS (v : Nat) : Nat := if v = 100000000 then 1000000000 else v
theorem clS_le {a b : Nat} (ha : a ≤ 100000000) (hb : b ≤ 100000000) : clS a ≤ clS b ↔ a ≤ b := by
  unfold clS
  split <;> split <;> omega
theorem clS_b {a : Nat} (ha : a ≤ 100000000) : clS a ≤ 1000000000 := by unfold clS; split <;> omega
