/-! one more that can be undone; one less -/
def HRs (h : Nat) (f35 f66 f67 r : Nat → Int32) : Prop := ∀ k, k < h → HR h k f35 f66 f67 r
theorem hp_le {h : Nat} (hh : h ≤ 16) : hp h ≤ 15 := by unfold hp; by_cases c : h = 16 <;> simp [c] <;> omega
theorem HRs.push {h : Nat} (hh : h ≤ 16) {f35 f66 f67 r g35 g66 g67 r' : Nat → Int32} (H : HRs h f35 f66 f67 r) (kv : KV r (rV r)) (e0 : r' 0 = r 0) (e1 : r' 1 = r 1) (e3 : ∀ k, 32 ≤ k → k < 38 → r' k = r k)
    (a35 : ∀ y, y < 9 * hp h → g35 y = hf9 h f35 y) (a66 : ∀ y, y < 17 * hp h → g66 y = hf17 h f66 y) (b66 : ∀ i, i < 17 → g66 (17 * hp h + i) = r (9 + i)) (a67 : ∀ y, y < hp h → g67 y = hf1 h f67 y)
    (kd : ∃ q, q ≤ 5 ∧ g35 (9 * hp h) = nI q ∧ g67 (hp h) = nI q) (w1 : g35 (9 * hp h + 1) = r 9) (w2 : g35 (9 * hp h + 2) = r 10) (w3 : g35 (9 * hp h + 3) = r 11) (w4 : g35 (9 * hp h + 4) = r 12) (w5 : g35 (9 * hp h + 5) = r 13)
    (ld : (g35 (9 * hp h + 6) = -1 ∧ ∀ i, i < 12 → r (14 + i) = r' (14 + i)) ∨ ∃ l : Nat, g35 (9 * hp h + 6) = nI l ∧ l < 6 ∧ (l : Int) < (r 0).toInt ∧ g35 (9 * hp h + 7) = r (14 + l) ∧ g35 (9 * hp h + 8) = r (20 + l) ∧ ∀ i, i < 6 → i ≠ l → r (14 + i) = r' (14 + i) ∧ r (20 + i) = r' (20 + i)) : HRs (hp h + 1) g35 g66 g67 r' := by
  intro k hk
  by_cases c : k = hp h
  · subst c
    have B0 : g66 (17 * hp h) = r 9 := b66 0 (by omega)
    refine ⟨kd, ⟨by rw [w1, B0], by rw [w2, b66 1 (by omega)], by rw [w3, b66 2 (by omega)], by rw [w4, b66 3 (by omega)], by rw [w5, b66 4 (by omega)]⟩, ?_, ?_⟩
    · exact kv.r e1 e3 (fun i hi => b66 i hi)
    · rcases ld with ⟨l1, l2⟩ | ⟨l, l1, l2, l3, l4, l5, l6⟩
      · refine Or.inl ⟨l1, fun i hi => ?_⟩
        rw [if_pos rfl, b66 _ (by omega)]
        have := l2 i hi
        rw [show 9 + (5 + i) = 14 + i by omega]
        exact this
      · refine Or.inr ⟨l, l1, l2, by rw [e0]; exact l3, ?_, ?_, fun i hi hl => ?_⟩
        · rw [l4, b66 _ (by omega)]; congr 1; omega
        · rw [l5, b66 _ (by omega)]; congr 1; omega
        · rw [if_pos rfl, if_pos rfl, b66 _ (by omega), b66 _ (by omega), show 9 + (5 + i) = 14 + i by omega, show 9 + (11 + i) = 20 + i by omega]
          exact l6 i hi hl
  · have hk : k < hp h := by omega
    obtain ⟨k0, ek, hk0, G35, G66, G67, nx⟩ : ∃ k0, (k0 = k ∨ k0 = k + 1) ∧ k0 < h ∧ (∀ j, j < 9 → g35 (9 * k + j) = f35 (9 * k0 + j)) ∧ (∀ j, j < 17 → g66 (17 * k + j) = f66 (17 * k0 + j)) ∧ g67 k = f67 k0 ∧ ∀ x, x < 17 → g66 (17 * (k + 1) + x) = if k0 + 1 = h then r (9 + x) else f66 (17 * (k0 + 1) + x) := by
      by_cases c16 : h = 16
      · subst c16
        have e : hp 16 = 15 := rfl
        rw [e] at hk a35 a66 b66 a67
        refine ⟨k + 1, Or.inr rfl, by omega, fun j hj => ?_, fun j hj => ?_, ?_, fun x hx => ?_⟩
        · rw [a35 _ (by omega)]; unfold hf9; rw [if_pos rfl]; congr 1; omega
        · rw [a66 _ (by omega)]; unfold hf17; rw [if_pos rfl]; congr 1; omega
        · rw [a67 _ (by omega)]; unfold hf1; rw [if_pos rfl]; congr 1; omega
        · by_cases g : k + 1 + 1 = 16
          · rw [if_pos g, ← b66 x hx]; congr 1; omega
          · rw [if_neg g, a66 _ (by omega)]; unfold hf17; rw [if_pos rfl]; congr 1; omega
      · have e : hp h = h := if_neg c16
        rw [e] at hk a35 a66 b66 a67
        refine ⟨k, Or.inl rfl, by omega, fun j hj => ?_, fun j hj => ?_, ?_, fun x hx => ?_⟩
        · rw [a35 _ (by omega)]; unfold hf9; rw [if_neg c16]
        · rw [a66 _ (by omega)]; unfold hf17; rw [if_neg c16]
        · rw [a67 _ (by omega)]; unfold hf1; rw [if_neg c16]
        · by_cases g : k + 1 = h
          · rw [if_pos g, ← b66 x hx]; congr 1; omega
          · rw [if_neg g, a66 _ (by omega)]; unfold hf17; rw [if_neg c16]
    obtain ⟨⟨q, q1, q2, q3⟩, ⟨x1, x2, x3, x4, x5⟩, y, z⟩ := H k0 hk0
    have G0 : g66 (17 * k) = f66 (17 * k0) := G66 0 (by omega)
    have G350 : g35 (9 * k) = f35 (9 * k0) := G35 0 (by omega)
    refine ⟨⟨q, q1, by rw [G350]; exact q2, by rw [G67]; exact q3⟩, ⟨by rw [G35 1 (by omega), G0]; exact x1, by rw [G35 2 (by omega), G66 1 (by omega)]; exact x2, by rw [G35 3 (by omega), G66 2 (by omega)]; exact x3, by rw [G35 4 (by omega), G66 3 (by omega)]; exact x4, by rw [G35 5 (by omega), G66 4 (by omega)]; exact x5⟩, ?_, ?_⟩
    · exact y.r e1 e3 (fun i hi => G66 i hi)
    · have ne : ¬ k + 1 = hp h + 1 := by omega
      rcases z with ⟨l1, l2⟩ | ⟨l, l1, l2, l3, l4, l5, l6⟩
      · refine Or.inl ⟨by rw [G35 6 (by omega)]; exact l1, fun i hi => ?_⟩
        rw [if_neg ne, G66 _ (by omega), nx _ (by omega)]
        exact l2 i hi
      · refine Or.inr ⟨l, by rw [G35 6 (by omega)]; exact l1, l2, by rw [e0]; exact l3, by rw [G35 7 (by omega), G66 _ (by omega)]; exact l4, by rw [G35 8 (by omega), G66 _ (by omega)]; exact l5, fun i hi hl => ?_⟩
        rw [if_neg ne, if_neg ne, G66 _ (by omega), G66 _ (by omega), nx _ (by omega), nx _ (by omega)]
        exact l6 i hi hl
theorem HRs.pop {h : Nat} {f35 f66 f67 r r' : Nat → Int32} (H : HRs (h + 1) f35 f66 f67 r) (e0 : r' 0 = r 0) (e1 : r' 1 = r 1) (e3 : ∀ k, 32 ≤ k → k < 38 → r' k = r k) (e : ∀ i, i < 17 → r' (9 + i) = f66 (17 * h + i)) : HRs h f35 f66 f67 r' := by
  intro k hk
  obtain ⟨q1, q2, y, z⟩ := H k (by omega)
  have nx : ∀ x, x < 17 → f66 (17 * (k + 1) + x) = if k + 1 = h then r' (9 + x) else f66 (17 * (k + 1) + x) := fun x hx => by
    by_cases g : k + 1 = h
    · rw [if_pos g, e x hx, g]
    · rw [if_neg g]
  refine ⟨q1, q2, y.r e1 e3 (fun i _ => rfl), ?_⟩
  have ne : ¬ k + 1 = h + 1 := by omega
  rcases z with ⟨l1, l2⟩ | ⟨l, l1, l2, l3, l4, l5, l6⟩
  · refine Or.inl ⟨l1, fun i hi => ?_⟩
    have := l2 i hi
    rw [if_neg ne] at this
    rw [this]
    exact nx _ (by omega)
  · refine Or.inr ⟨l, l1, l2, by rw [e0]; exact l3, l4, l5, fun i hi hl => ?_⟩
    have := l6 i hi hl
    rw [if_neg ne, if_neg ne] at this
    rw [this.1, this.2]
    exact ⟨nx _ (by omega), nx _ (by omega)⟩
