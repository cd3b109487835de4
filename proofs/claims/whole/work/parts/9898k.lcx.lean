/-! what is on the pile, with the code before it, still tells -/
section LCX
variable {lf : (Nat → Int64) → Nat → Nat → Option Int64} {g r g' r' : Nat → Nat}
theorem DM.hm {a b h h' : Nat} {v : tV} (d : DM lf g r a b h v) (e : h ≤ h') : DM lf g r a b h' v := ⟨d.1, by have := d.2.1; omega, fun op ar hc w e' t s hb ht => d.2.2 op ar hc w e' t s hb (by omega)⟩
/-- code from a to b that puts v there -/
def DN (lf : (Nat → Int64) → Nat → Nat → Option Int64) (g r : Nat → Nat) (a b : Nat) (v : tV) : Prop := DM lf g r a b (b - a) v
theorem DN.lt {a b : Nat} {v : tV} (d : DN lf g r a b v) : a < b := d.1
theorem DN.cg {a b : Nat} {v : tV} (d : DN lf g r a b v) (e : ∀ i, a ≤ i → i < b → g' i = g i ∧ r' i = r i) : DN lf g' r' a b v := DM.cg d e
def LCx (lf : (Nat → Int64) → Nat → Nat → Option Int64) (g r : Nat → Nat) : List (Nat × Nat) → Nat → Nat → (tV → tV) → Prop
  | [], a, m, F => m = a ∧ ∀ v, F v = v
  | e :: t, a, m, F => ∃ (m0 : Nat) (F0 : tV → tV), LCx lf g r t a m0 F0 ∧ ((e.1 = 28 ∧ m = m0 ∧ ∀ v, F v = F0 (vNot v)) ∨ (20 ≤ e.1 ∧ e.1 ≤ 27 ∧ ∃ w, DN lf g r m0 m w ∧ ∀ v, F v = F0 (vBin (e.1 - 18) w v)) ∨ ((e.1 = 29 ∨ e.1 = 30) ∧ m = e.2 + 1 ∧ g e.2 = e.1 ∧ ∃ w, DN lf g r m0 e.2 w ∧ ∀ v, F v = F0 (vJmp (if e.1 = 29 then 0 else 1) w v)))
theorem LCx.le : ∀ {R : List (Nat × Nat)} {a m : Nat} {F : tV → tV}, LCx lf g r R a m F → a ≤ m := by
  intro R
  induction R with
  | nil => intro a m F h; rw [h.1]; exact Nat.le_refl _
  | cons e t ih =>
    intro a m F h
    obtain ⟨m0, F0, h1, h2⟩ := h
    have := ih h1
    rcases h2 with ⟨-, c, -⟩ | ⟨-, -, w, c, -⟩ | ⟨-, c, -, w, c2, -⟩
    · omega
    · have := c.lt; omega
    · have := c2.lt; omega
theorem LCx.cg : ∀ {R : List (Nat × Nat)} {a m : Nat} {F : tV → tV}, LCx lf g r R a m F → (∀ i, a ≤ i → i < m → g' i = g i ∧ r' i = r i) → LCx lf g' r' R a m F := by
  intro R
  induction R with
  | nil => intro a m F h _; exact h
  | cons e t ih =>
    intro a m F h hc
    obtain ⟨m0, F0, h1, h2⟩ := h
    have l0 := h1.le
    have lm : m0 ≤ m := by
      rcases h2 with ⟨-, c, -⟩ | ⟨-, -, w, c, -⟩ | ⟨-, c, -, w, c2, -⟩
      · omega
      · have := c.lt; omega
      · have := c2.lt; omega
    refine ⟨m0, F0, ih h1 (fun i i1 i2 => hc i i1 (by omega)), ?_⟩
    rcases h2 with c | ⟨c1, c2, w, c3, c4⟩ | ⟨c1, c2, c3, w, c4, c5⟩
    · exact Or.inl c
    · exact Or.inr (Or.inl ⟨c1, c2, w, c3.cg (fun i i1 i2 => hc i (by omega) i2), c4⟩)
    · have := c4.lt
      exact Or.inr (Or.inr ⟨c1, c2, by rw [(hc e.2 (by omega) (by omega)).1]; exact c3, w, c4.cg (fun i i1 i2 => hc i (by omega) (by omega)), c5⟩)
theorem LCx.app : ∀ {R : List (Nat × Nat)} {R1 : List (Nat × Nat)} {a a2 m : Nat} {F1 F2 : tV → tV}, LCx lf g r R1 a a2 F1 → LCx lf g r R a2 m F2 → LCx lf g r (R ++ R1) a m (fun v => F1 (F2 v)) := by
  intro R
  induction R with
  | nil =>
    intro R1 a a2 m F1 F2 h1 h2
    obtain ⟨e, h2⟩ := h2
    subst e
    have : (fun v => F1 (F2 v)) = F1 := funext fun v => by rw [h2]
    rw [this]
    exact h1
  | cons e t ih =>
    intro R1 a a2 m F1 F2 h1 h2
    obtain ⟨m0, F0, h3, h4⟩ := h2
    refine ⟨m0, fun v => F1 (F0 v), ih h1 h3, ?_⟩
    rcases h4 with ⟨c1, c2, c3⟩ | ⟨c1, c2, w, c3, c4⟩ | ⟨c1, c2, c3, w, c4, c5⟩
    · exact Or.inl ⟨c1, c2, fun v => by show F1 (F2 v) = F1 (F0 (vNot v)); rw [c3]⟩
    · exact Or.inr (Or.inl ⟨c1, c2, w, c3, fun v => by show F1 (F2 v) = F1 (F0 (vBin (e.1 - 18) w v)); rw [c4]⟩)
    · exact Or.inr (Or.inr ⟨c1, c2, c3, w, c4, fun v => by show F1 (F2 v) = F1 (F0 (vJmp (if e.1 = 29 then 0 else 1) w v)); rw [c5]⟩)
def stops (l : Nat) (pl : List (Nat × Nat)) : Prop := pl = [] ∨ ∃ e t, pl = e :: t ∧ bnd e.1 < l
theorem stops.mono {l l' : Nat} {pl : List (Nat × Nat)} (h : stops l pl) (e : l ≤ l') : stops l' pl := by
  rcases h with h | ⟨x, t, h1, h2⟩
  · exact Or.inl h
  · exact Or.inr ⟨x, t, h1, by omega⟩
/-- settled: one stretch, one value -/
theorem sett_top {l : Nat} {pl : List (Nat × Nat)} (hs : stops l pl) : ∀ (R : List (Nat × Nat)) (a m nc : Nat) (g r : Nat → Nat) (F : tV → tV) (u : tV), LCx lf g r R a m F → DN lf g r m nc u → (∀ e, e ∈ R → l ≤ bnd e.1 ∧ 20 ≤ e.1 ∧ e.1 ≤ 30) → ∃ g' r' nc', sett l (R ++ pl) g r nc = (pl, g', r', nc') ∧ DN lf g' r' a nc' (F u) ∧ (∀ i, i < a → g' i = g i ∧ r' i = r i) ∧ nc ≤ nc' ∧ nc' + pend pl = nc + pend (R ++ pl) := by
  intro R
  induction R with
  | nil =>
    intro a m nc g r F u h hd _
    obtain ⟨e, h⟩ := h
    subst e
    refine ⟨g, r, nc, ?_, by rw [h]; exact hd, fun _ _ => ⟨rfl, rfl⟩, Nat.le_refl _, rfl⟩
    rcases hs with c | ⟨x, t, c, c2⟩
    · rw [c]; rfl
    · rw [c]
      show (if bnd x.1 < l then (x :: t, g, r, nc) else _) = _
      rw [if_pos c2]
  | cons e t ih =>
    intro a m nc g r F u h hd hR
    obtain ⟨m0, F0, h1, h2⟩ := h
    obtain ⟨b1, b2, b3⟩ := hR e (List.mem_cons_self ..)
    have hR' := fun x hx => hR x (List.mem_cons_of_mem _ hx)
    have l0 := h1.le
    have es : sett l (e :: t ++ pl) g r nc = (if bnd e.1 < l then (e :: (t ++ pl), g, r, nc) else if e.1 = 29 ∨ e.1 = 30 then sett l (t ++ pl) g (upN r e.2 nc) nc else sett l (t ++ pl) (upN g nc e.1) (upN r nc 0) (nc + 1)) := rfl
    have ep : pend (e :: t ++ pl) = (if e.1 ≤ 28 then 1 else 0) + pend (t ++ pl) := rfl
    rw [es, if_neg (show ¬ bnd e.1 < l by omega), ep]
    have dl := hd.lt
    rcases h2 with ⟨c1, c2, c3⟩ | ⟨c1, c2, w, c3, c4⟩ | ⟨c1, c2, c3, w, c4, c5⟩
    · subst c2
      rw [if_neg (show ¬ (e.1 = 29 ∨ e.1 = 30) by omega), if_pos (show e.1 ≤ 28 by omega)]
      have cg : ∀ i, i < nc → upN g nc e.1 i = g i ∧ upN r nc 0 i = r i := fun i hi => ⟨upNn (by omega), upNn (by omega)⟩
      have d2 : DN lf (upN g nc e.1) (upN r nc 0) m (nc + 1) (vNot u) := (DM.not (hd.cg fun i _ i2 => cg i i2) (by rw [upNe]; exact c1)).hm (by omega)
      obtain ⟨g', r', nc', q1, q2, q3, q4, q5⟩ := ih a m (nc + 1) _ _ F0 (vNot u) (h1.cg fun i _ i2 => cg i (by omega)) d2 hR'
      refine ⟨g', r', nc', q1, by rw [c3]; exact q2, fun i hi => ?_, by omega, by omega⟩
      obtain ⟨k1, k2⟩ := q3 i hi
      obtain ⟨k3, k4⟩ := cg i (by omega)
      exact ⟨k1.trans k3, k2.trans k4⟩
    · rw [if_neg (show ¬ (e.1 = 29 ∨ e.1 = 30) by omega), if_pos (show e.1 ≤ 28 by omega)]
      have dw := c3.lt
      have cg : ∀ i, i < nc → upN g nc e.1 i = g i ∧ upN r nc 0 i = r i := fun i hi => ⟨upNn (by omega), upNn (by omega)⟩
      have d2 : DN lf (upN g nc e.1) (upN r nc 0) m0 (nc + 1) (vBin (e.1 - 18) w u) := (DM.bin (c3.cg fun i _ i2 => cg i (by omega)) (hd.cg fun i _ i2 => cg i i2) ⟨by omega, by omega⟩ (by rw [upNe]; omega)).hm (by omega)
      obtain ⟨g', r', nc', q1, q2, q3, q4, q5⟩ := ih a m0 (nc + 1) _ _ F0 (vBin (e.1 - 18) w u) (h1.cg fun i _ i2 => cg i (by omega)) d2 hR'
      refine ⟨g', r', nc', q1, by rw [c4]; exact q2, fun i hi => ?_, by omega, by omega⟩
      obtain ⟨k1, k2⟩ := q3 i hi
      obtain ⟨k3, k4⟩ := cg i (by omega)
      exact ⟨k1.trans k3, k2.trans k4⟩
    · rw [if_pos c1, if_neg (show ¬ e.1 ≤ 28 by omega)]
      have dw := c4.lt
      have cg : ∀ i, i ≠ e.2 → g i = g i ∧ upN r e.2 nc i = r i := fun i hi => ⟨rfl, upNn hi⟩
      have d2 : DN lf g (upN r e.2 nc) m0 nc (vJmp (if e.1 = 29 then 0 else 1) w u) := (DM.jmp (c4.cg fun i _ i2 => cg i (by omega)) (by rw [← c2]; exact hd.cg fun i i1 i2 => cg i (by omega)) c1 c3 upNe).hm (by omega)
      obtain ⟨g', r', nc', q1, q2, q3, q4, q5⟩ := ih a m0 nc _ _ F0 (vJmp (if e.1 = 29 then 0 else 1) w u) (h1.cg fun i _ i2 => cg i (by omega)) d2 hR'
      refine ⟨g', r', nc', q1, by rw [c5]; exact q2, fun i hi => ?_, by omega, by omega⟩
      obtain ⟨k1, k2⟩ := q3 i hi
      obtain ⟨k3, k4⟩ := cg i (by omega)
      exact ⟨k1.trans k3, k2.trans k4⟩
end LCX
