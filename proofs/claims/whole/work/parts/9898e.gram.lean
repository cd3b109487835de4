/-! the two languages told once: from a token's place, brackets, parts; a fault's place, or where it ends and what it tells -/
abbrev aR3 : Type := Nat ⊕ (Nat × Nat × tV)
def aOp (b : Nat → Nat) (z wh q : Nat) : Nat :=
  if wh = 0 then (if aX b z q 4 = some 0 then 12 else 0) else if wh = 1 then (if aX b z q 5 = some 0 then 11 else 0)
  else if wh = 3 then (if aS b z q = 43 then 2 else if aS b z q = 45 then 3 else 0)
  else if wh = 4 then (if aS b z q = 42 then 4 else if aS b z q = 47 then 5 else if aS b z q = 37 then 6 else 0) else 0
def aC (b : Nat → Nat) (z q : Nat) : Nat := if aS b z q = 60 then 7 else if aS b z q = 62 then 8 else if aS b z q = 61 then 9 else 0
def aJ (o : Nat) (u v : tV) : tV := if o = 11 then vJmp 0 u v else if o = 12 then vJmp 1 u v else vBin o u v
def nots (k : Nat) (v : tV) : tV := if k % 2 = 1 then vNot v else v
def aL (b : Nat → Nat) (z : Nat) (r : Nat → Nat → aR3) (wh : Nat) : Nat → Nat → Nat → tV → aR3
  | 0, q, m, v => .inr (q, m, v)
  | f + 1, q, m, v => if aOp b z wh q = 0 then .inr (q, m, v) else match r (aE b z q) m with
    | .inl x => .inl x
    | .inr (q', m', v') => aL b z r wh f q' m' (aJ (aOp b z wh q) v v')
def aNt (b : Nat → Nat) (z : Nat) : Nat → Nat → Nat × Nat
  | 0, q => (q, 0)
  | f + 1, q => if aX b z q 6 = some 0 then ((aNt b z f (aE b z q)).1, (aNt b z f (aE b z q)).2 + 1) else (q, 0)
/-- which of the language's words, from 1 on; 0 none -/
def aWo (o : Option Nat) : Nat := match o with
  | none => 0
  | some i => i + 1
def aW (b : Nat → Nat) (z ord q : Nat) : Nat := aWo (aX b z q (if ord = 0 then 8 else 7))
def aPt (b : Nat → Nat) (z ord : Nat) (r : Nat → Nat → Nat → aR3) (br q m : Nat) : aR3 :=
  if aS b z q = 91 then (if 8 ≤ br then .inl (aF b z q) else match r (br + 1) (aE b z q) m with
    | .inl x => .inl x
    | .inr (q', m', v) => if aS b z q' = 93 then .inr (aE b z q', m', v) else .inl (aF b z q'))
  else if (aW b z ord q ≠ 0 ∨ (aK b z q = 2 ∧ aN b z q ≤ 1000)) ∧ m < 50 then
    (if aW b z ord q = 0 then .inr (aE b z q, m + 1, fun _ => some (nI (aN b z q)).toInt64)
     else if ord = 0 ∨ aW b z ord q < 7 then .inr (aE b z q, m + 1, fun w => some (w (aW b z ord q - 1)))
     else if aK b z (aE b z q) = 2 ∧ aN b z (aE b z q) ≤ (if aW b z ord q = 7 then 11 else 5) then .inr (aE b z (aE b z q), m + 1, fun w => some (w ((if aW b z ord q = 7 then 6 else 18) + aN b z (aE b z q))))
     else .inl (aF b z (aE b z q)))
  else .inl (aF b z q)
def aPl (b : Nat → Nat) (z : Nat) (rT rS : Nat → Nat → Nat → aR3) (br q m : Nat) : aR3 :=
  if aS b z (aNt b z 400 q).1 = 40 then (if 8 ≤ br then .inl (aF b z (aNt b z 400 q).1) else match rT (br + 1) (aE b z (aNt b z 400 q).1) m with
    | .inl x => .inl x
    | .inr (q', m', v) => if aS b z q' = 41 then .inr (aE b z q', m', nots (aNt b z 400 q).2 v) else .inl (aF b z q'))
  else match rS br (aNt b z 400 q).1 m with
    | .inl x => .inl x
    | .inr (q2, m2, v) => if aC b z q2 = 0 then .inl (aF b z q2) else match rS br (aE b z q2) m2 with
      | .inl x => .inl x
      | .inr (q3, m3, v3) => .inr (q3, m3, nots (aNt b z 400 q).2 (vBin (aC b z q2) v v3))
def aP (b : Nat → Nat) (z ord : Nat) : Nat → Nat → Nat → Nat → Nat → aR3
  | 0, _, _, q, _ => .inl q
  | f + 1, wh, br, q, m => if wh = 2 then aPl b z (aP b z ord f 0) (aP b z ord f 3) br q m else if wh = 5 then aPt b z ord (aP b z ord f 3) br q m
    else match aP b z ord f (wh + 1) br q m with
    | .inl x => .inl x
    | .inr (q', m', v) => aL b z (aP b z ord f (wh + 1) br) wh 400 q' m' v
section GRM
variable {b : Nat → Nat} {z ord : Nat}
theorem aX_k {q i : Nat} {o : Nat} (h : aX b z q i = some o) : aK b z q = 1 := by
  unfold aX at h
  by_cases g : aK b z q = 1
  · exact g
  · rw [if_neg g] at h; cases h
theorem aS_k {q c : Nat} (hc : 0 < c) (h : aS b z q = c) : aK b z q = 3 := by
  unfold aS at h
  by_cases g : aK b z q = 3
  · exact g
  · rw [if_neg g] at h; omega
theorem aOp_k {wh q : Nat} (h : aOp b z wh q ≠ 0) : aK b z q ≠ 0 := by
  intro k
  have s0 : aS b z q = 0 := by unfold aS; rw [if_neg (by omega)]
  have x0 : ∀ i, aX b z q i = none := fun i => by unfold aX; rw [if_neg (by omega)]
  apply h
  unfold aOp
  rw [s0, x0, x0]
  by_cases g0 : wh = 0
  · rw [if_pos g0, if_neg (by decide)]
  · rw [if_neg g0]
    by_cases g1 : wh = 1
    · rw [if_pos g1, if_neg (by decide)]
    · rw [if_neg g1]
      by_cases g3 : wh = 3
      · rw [if_pos g3]; decide
      · rw [if_neg g3]
        by_cases g4 : wh = 4
        · rw [if_pos g4]; decide
        · rw [if_neg g4]
theorem aC_k {q : Nat} (h : aC b z q ≠ 0) : aK b z q = 3 ∧ 7 ≤ aC b z q ∧ aC b z q ≤ 9 := by
  unfold aC at h ⊢
  by_cases g1 : aS b z q = 60
  · rw [if_pos g1]; exact ⟨aS_k (by omega) g1, by omega, by omega⟩
  · rw [if_neg g1] at h ⊢
    by_cases g2 : aS b z q = 62
    · rw [if_pos g2]; exact ⟨aS_k (by omega) g2, by omega, by omega⟩
    · rw [if_neg g2] at h ⊢
      by_cases g3 : aS b z q = 61
      · rw [if_pos g3]; exact ⟨aS_k (by omega) g3, by omega, by omega⟩
      · rw [if_neg g3] at h; exact absurd rfl h
theorem aNt_le : ∀ (f q : Nat), q ≤ z → aF b z q + (aNt b z f q).2 ≤ aF b z (aNt b z f q).1 ∧ (aNt b z f q).1 ≤ z ∧ (z ≤ aF b z q + f → ¬ aX b z (aNt b z f q).1 6 = some 0) := by
  intro f
  induction f with
  | zero =>
    intro q hq
    refine ⟨Nat.le_refl _, hq, fun h g => ?_⟩
    have k := aX_k g
    have := aK_0.mpr (show z ≤ aF b z (aNt b z 0 q).1 from h)
    omega
  | succ f ih =>
    intro q hq
    by_cases g : aX b z q 6 = some 0
    · have e : aNt b z (f + 1) q = ((aNt b z f (aE b z q)).1, (aNt b z f (aE b z q)).2 + 1) := by
        show (if aX b z q 6 = some 0 then _ else _) = _
        rw [if_pos g]
      have k : aK b z q ≠ 0 := by rw [aX_k g]; decide
      obtain ⟨h1, h2, h3⟩ := ih (aE b z q) ((aE_gt k).2.1 hq)
      have u := aF_up k
      rw [e]
      refine ⟨?_, h2, fun y => h3 (by omega)⟩
      show aF b z q + ((aNt b z f (aE b z q)).2 + 1) ≤ aF b z (aNt b z f (aE b z q)).1
      omega
    · have e : aNt b z (f + 1) q = (q, 0) := by
        show (if aX b z q 6 = some 0 then _ else _) = _
        rw [if_neg g]
      rw [e]
      exact ⟨Nat.le_refl _, hq, fun _ => g⟩
theorem nots_tf {k : Nat} {v : tV} (h : vTF v) : vTF (nots k v) := by
  unfold nots
  by_cases g : k % 2 = 1
  · rw [if_pos g]; exact h.not.1
  · rw [if_neg g]; exact h
/-- what the token behind cannot be -/
def aNo (b : Nat → Nat) (z wh q : Nat) : Prop := (wh = 0 → aOp b z 0 q = 0 ∧ aOp b z 1 q = 0) ∧ (wh = 1 → aOp b z 1 q = 0) ∧ (wh = 3 → aOp b z 3 q = 0 ∧ aOp b z 4 q = 0) ∧ (wh = 4 → aOp b z 4 q = 0)
def aGd (b : Nat → Nat) (z wh q m q' m' : Nat) (v : tV) : Prop := aF b z q < aF b z q' ∧ q' ≤ z ∧ m < m' ∧ m' ≤ 50 ∧ (wh ≤ 2 → vTF v) ∧ aNo b z wh q'
theorem aL_ok {r : Nat → Nat → aR3} {wh : Nat} (hw : wh = 0 ∨ wh = 1 ∨ wh = 3 ∨ wh = 4) (hz : z ≤ 400) (hr : ∀ q m q' m' v, q ≤ z → r q m = .inr (q', m', v) → aGd b z (wh + 1) q m q' m' v) : ∀ (f q m : Nat) (v : tV) (q' m' : Nat) (v' : tV), z ≤ aF b z q + f → q ≤ z → m ≤ 50 → (wh ≤ 2 → vTF v) → (wh = 0 → aOp b z 1 q = 0) → (wh = 3 → aOp b z 4 q = 0) → aL b z r wh f q m v = .inr (q', m', v') → aF b z q ≤ aF b z q' ∧ q' ≤ z ∧ m ≤ m' ∧ m' ≤ 50 ∧ (wh ≤ 2 → vTF v') ∧ aNo b z wh q' := by
  have fin : ∀ (q m : Nat) (v : tV) (q' m' : Nat) (v' : tV), q ≤ z → m ≤ 50 → (wh ≤ 2 → vTF v) → (wh = 0 → aOp b z 1 q = 0) → (wh = 3 → aOp b z 4 q = 0) → aOp b z wh q = 0 → (.inr (q, m, v) : aR3) = .inr (q', m', v') → aF b z q ≤ aF b z q' ∧ q' ≤ z ∧ m ≤ m' ∧ m' ≤ 50 ∧ (wh ≤ 2 → vTF v') ∧ aNo b z wh q' := by
    intro q m v q' m' v' hq hm hv h1 h2 ho e
    cases e
    refine ⟨Nat.le_refl _, hq, Nat.le_refl _, hm, hv, fun y => ⟨y ▸ ho, h1 y⟩, fun y => y ▸ ho, fun y => ⟨y ▸ ho, h2 y⟩, fun y => y ▸ ho⟩
  intro f
  induction f with
  | zero =>
    intro q m v q' m' v' hf hq hm hv h1 h2 e
    have ho : aOp b z wh q = 0 := by
      rcases Nat.eq_zero_or_pos (aOp b z wh q) with g | g
      · exact g
      · exact absurd (aK_0.mpr (show z ≤ aF b z q from hf)) (aOp_k (show aOp b z wh q ≠ 0 by omega))
    exact fin q m v q' m' v' hq hm hv h1 h2 ho e
  | succ f ih =>
    intro q m v q' m' v' hf hq hm hv h1 h2 e
    have e : (if aOp b z wh q = 0 then (.inr (q, m, v) : aR3) else match r (aE b z q) m with
      | .inl x => .inl x
      | .inr (q', m', v') => aL b z r wh f q' m' (aJ (aOp b z wh q) v v')) = .inr (q', m', v') := e
    by_cases g : aOp b z wh q = 0
    · rw [if_pos g] at e
      exact fin q m v q' m' v' hq hm hv h1 h2 g e
    · rw [if_neg g] at e
      have k := aOp_k g
      have u := aF_up k
      cases hx : r (aE b z q) m with
      | inl x => rw [hx] at e; cases e
      | inr p =>
        obtain ⟨q1, m1, v1⟩ := p
        rw [hx] at e
        obtain ⟨d1, d2, d3, d4, d5, d6⟩ := hr _ _ _ _ _ ((aE_gt k).2.1 hq) hx
        have tf : wh ≤ 2 → vTF (aJ (aOp b z wh q) v v1) := by
          intro y
          have hv := hv y
          have d5 := d5 (by omega)
          have : aOp b z wh q = 11 ∨ aOp b z wh q = 12 := by
            rcases hw with w | w | w | w <;> subst w
            · unfold aOp at g ⊢
              rw [if_pos rfl] at g ⊢
              by_cases c : aX b z q 4 = some 0
              · rw [if_pos c]; exact Or.inr rfl
              · rw [if_neg c] at g; exact absurd rfl g
            · unfold aOp at g ⊢
              rw [if_neg (by decide), if_pos rfl] at g ⊢
              by_cases c : aX b z q 5 = some 0
              · rw [if_pos c]; exact Or.inl rfl
              · rw [if_neg c] at g; exact absurd rfl g
            · omega
            · omega
          unfold aJ
          rcases this with w | w <;> rw [w]
          · rw [if_pos rfl]; exact hv.jmp d5
          · rw [if_neg (by decide), if_pos rfl]; exact hv.jmp d5
        obtain ⟨c1, c2, c3, c4, c5, c6⟩ := ih q1 m1 _ q' m' v' (by omega) d2 d4 tf (fun y => d6.2.1 (by omega)) (fun y => d6.2.2.2 (by omega)) e
        exact ⟨by omega, c2, by omega, c4, c5, c6⟩
theorem aP_ok (hz : z ≤ 400) : ∀ (f wh br q m q' m' : Nat) (v : tV), wh ≤ 5 → q ≤ z → aP b z ord f wh br q m = .inr (q', m', v) → aGd b z wh q m q' m' v := by
  intro f
  induction f with
  | zero => intro wh br q m q' m' v _ _ h; cases h
  | succ f ih =>
    intro wh br q m q' m' v hw hq h
    have h : (if wh = 2 then aPl b z (aP b z ord f 0) (aP b z ord f 3) br q m else if wh = 5 then aPt b z ord (aP b z ord f 3) br q m
      else match aP b z ord f (wh + 1) br q m with
      | .inl x => .inl x
      | .inr (q', m', v) => aL b z (aP b z ord f (wh + 1) br) wh 400 q' m' v) = .inr (q', m', v) := h
    by_cases w2 : wh = 2
    · subst w2
      rw [if_pos rfl] at h
      unfold aPl at h
      obtain ⟨n1, n2, -⟩ := aNt_le (b := b) 400 q hq
      generalize (aNt b z 400 q).2 = kk at h n1
      generalize (aNt b z 400 q).1 = q1 at h n1 n2
      by_cases g : aS b z q1 = 40
      · rw [if_pos g] at h
        have k : aK b z q1 ≠ 0 := by rw [aS_k (by omega) g]; decide
        have u := aF_up k
        by_cases g2 : 8 ≤ br
        · rw [if_pos g2] at h; cases h
        · rw [if_neg g2] at h
          cases hx : aP b z ord f 0 (br + 1) (aE b z q1) m with
          | inl x => rw [hx] at h; cases h
          | inr p =>
            obtain ⟨q2, m2, v2⟩ := p
            rw [hx] at h
            obtain ⟨d1, d2, d3, d4, d5, d6⟩ := ih _ _ _ _ _ _ _ (by omega) ((aE_gt k).2.1 n2) hx
            have h : (if aS b z q2 = 41 then (.inr (aE b z q2, m2, nots kk v2) : aR3) else .inl (aF b z q2)) = .inr (q', m', v) := h
            by_cases g3 : aS b z q2 = 41
            · rw [if_pos g3] at h
              have k2 : aK b z q2 ≠ 0 := by rw [aS_k (by omega) g3]; decide
              have u2 := aF_up k2
              cases h
              exact ⟨by omega, (aE_gt k2).2.1 d2, d3, d4, fun _ => nots_tf (d5 (by omega)), fun y => by omega, fun y => by omega, fun y => by omega, fun y => by omega⟩
            · rw [if_neg g3] at h; cases h
      · rw [if_neg g] at h
        cases hx : aP b z ord f 3 br q1 m with
        | inl x => rw [hx] at h; cases h
        | inr p =>
          obtain ⟨q2, m2, v2⟩ := p
          rw [hx] at h
          obtain ⟨d1, d2, d3, d4, d5, d6⟩ := ih _ _ _ _ _ _ _ (by omega) n2 hx
          have h : (if aC b z q2 = 0 then (.inl (aF b z q2) : aR3) else match aP b z ord f 3 br (aE b z q2) m2 with
            | .inl x => .inl x
            | .inr (q3, m3, v3) => .inr (q3, m3, nots kk (vBin (aC b z q2) v2 v3))) = .inr (q', m', v) := h
          by_cases g3 : aC b z q2 = 0
          · rw [if_pos g3] at h; cases h
          · rw [if_neg g3] at h
            obtain ⟨k3, c7, c9⟩ := aC_k g3
            have k2 : aK b z q2 ≠ 0 := by rw [k3]; decide
            have u2 := aF_up k2
            cases hy : aP b z ord f 3 br (aE b z q2) m2 with
            | inl x => rw [hy] at h; cases h
            | inr p =>
              obtain ⟨q3, m3, v3⟩ := p
              rw [hy] at h
              obtain ⟨e1, e2, e3, e4, e5, e6⟩ := ih _ _ _ _ _ _ _ (by omega) ((aE_gt k2).2.1 d2) hy
              have h : (.inr (q3, m3, nots kk (vBin (aC b z q2) v2 v3)) : aR3) = .inr (q', m', v) := h
              cases h
              exact ⟨by omega, e2, by omega, e4, fun _ => nots_tf (vTF.cmp ⟨c7, c9⟩), fun y => by omega, fun y => by omega, fun y => by omega, fun y => by omega⟩
    · rw [if_neg w2] at h
      by_cases w5 : wh = 5
      · subst w5
        rw [if_pos rfl] at h
        unfold aPt at h
        have no5 : ∀ q, aNo b z 5 q := fun q => ⟨fun y => by omega, fun y => by omega, fun y => by omega, fun y => by omega⟩
        by_cases g : aS b z q = 91
        · rw [if_pos g] at h
          have k : aK b z q ≠ 0 := by rw [aS_k (by omega) g]; decide
          have u := aF_up k
          by_cases g2 : 8 ≤ br
          · rw [if_pos g2] at h; cases h
          · rw [if_neg g2] at h
            cases hx : aP b z ord f 3 (br + 1) (aE b z q) m with
            | inl x => rw [hx] at h; cases h
            | inr p =>
              obtain ⟨q2, m2, v2⟩ := p
              rw [hx] at h
              obtain ⟨d1, d2, d3, d4, d5, d6⟩ := ih _ _ _ _ _ _ _ (by omega) ((aE_gt k).2.1 hq) hx
              have h : (if aS b z q2 = 93 then (.inr (aE b z q2, m2, v2) : aR3) else .inl (aF b z q2)) = .inr (q', m', v) := h
              by_cases g3 : aS b z q2 = 93
              · rw [if_pos g3] at h
                have k2 : aK b z q2 ≠ 0 := by rw [aS_k (by omega) g3]; decide
                have u2 := aF_up k2
                cases h
                exact ⟨by omega, (aE_gt k2).2.1 d2, d3, d4, fun y => by omega, no5 _⟩
              · rw [if_neg g3] at h; cases h
        · rw [if_neg g] at h
          by_cases g2 : (aW b z ord q ≠ 0 ∨ (aK b z q = 2 ∧ aN b z q ≤ 1000)) ∧ m < 50
          · rw [if_pos g2] at h
            have k : aK b z q ≠ 0 := by
              rcases g2.1 with c | c
              · intro y
                apply c
                unfold aW aX
                rw [if_neg (by omega)]
                rfl
              · rw [c.1]; decide
            have u := aF_up k
            have ez := (aE_gt k).2.1 hq
            by_cases g3 : aW b z ord q = 0
            · rw [if_pos g3] at h
              cases h
              exact ⟨u, ez, by omega, by omega, fun y => by omega, no5 _⟩
            · rw [if_neg g3] at h
              by_cases g4 : ord = 0 ∨ aW b z ord q < 7
              · rw [if_pos g4] at h
                cases h
                exact ⟨u, ez, by omega, by omega, fun y => by omega, no5 _⟩
              · rw [if_neg g4] at h
                by_cases g5 : aK b z (aE b z q) = 2 ∧ aN b z (aE b z q) ≤ (if aW b z ord q = 7 then 11 else 5)
                · rw [if_pos g5] at h
                  have k2 : aK b z (aE b z q) ≠ 0 := by rw [g5.1]; decide
                  have u2 := aF_up k2
                  cases h
                  exact ⟨by omega, (aE_gt k2).2.1 ez, by omega, by omega, fun y => by omega, no5 _⟩
                · rw [if_neg g5] at h; cases h
          · rw [if_neg g2] at h; cases h
      · rw [if_neg w5] at h
        have hw4 : wh = 0 ∨ wh = 1 ∨ wh = 3 ∨ wh = 4 := by omega
        cases hx : aP b z ord f (wh + 1) br q m with
        | inl x => rw [hx] at h; cases h
        | inr p =>
          obtain ⟨q1, m1, v1⟩ := p
          rw [hx] at h
          obtain ⟨d1, d2, d3, d4, d5, d6⟩ := ih _ _ _ _ _ _ _ (by omega) hq hx
          obtain ⟨c1, c2, c3, c4, c5, c6⟩ := aL_ok hw4 hz (fun q m q' m' v hq' hr => ih _ _ _ _ _ _ _ (by omega) hq' hr) 400 q1 m1 v1 q' m' v (by omega) d2 d4 (fun y => d5 (by omega)) (fun y => d6.2.1 (by omega)) (fun y => d6.2.2.2 (by omega)) h
          exact ⟨by omega, c2, by omega, c4, c5, c6⟩
end GRM
