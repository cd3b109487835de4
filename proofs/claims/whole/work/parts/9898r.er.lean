/-! one expression by the model; clauses and texts told once -/
def MEx (b : Nat → Nat) (z : Nat) (I : tHI) (J : tHJ) (q m nc : Nat) (g r : Nat → Nat) : Prop := MT b z (I 61) (J 61 17) q ∧ q ≤ z ∧ I 61 19 = 0 ∧ I 61 18 = -1 ∧ I 61 26 = nI m ∧ m ≤ 50 ∧ I 61 23 = nI nc ∧ nc ≤ aF b z q ∧ ∀ i, i < nc → I 72 i = nI (g i) ∧ I 73 i = nI (r i) ∧ g i < 40 ∧ r i < 100000
section ER
variable {n : Nat} {S : tSH} {b : Nat → Nat} {z ord : Nat} {I0 : tHI} {J0 : tHJ} {k : tHI → tHJ → Prop}
theorem MEx.next {q m nc : Nat} {g r : Nat → Nat} (ht : MTp b z (I0 61) (I0 70)) (hn : 1001 < n) (h : MEx b z I0 J0 q m nc g r) (hk : ∀ (I' : tHI) (J' : tHJ), MAd I0 I' J0 J' → MEx b z I' J' (aE b z q) m nc g r → k I' J') : F12_next n S I0 J0 k := by
  obtain ⟨h1, h2, h3, h4, h5, h6, h7, h8, h9⟩ := h
  obtain ⟨e1, e2⟩ := aE_le (b := b) h2
  have u := aF_ge (b := b) (z := z) (aE b z q)
  refine sp_next ht hn e2 h1.2.1 (fun I' J' a t => hk I' J' a ⟨t, e2, ?_, ?_, ?_, h6, ?_, by omega, ?_⟩)
  · rw [a.2.1 19 (by decide)]; exact h3
  · rw [a.2.1 18 (by decide)]; exact h4
  · rw [a.2.1 26 (by decide)]; exact h5
  · rw [a.2.1 23 (by decide)]; exact h7
  · rw [a.1 72 (by decide), a.1 73 (by decide)]; exact h9
theorem sp_expr (ht : MTp b z (I0 61) (I0 70)) (hn : 2000 < n) (hord : I0 61 20 = nI ord) (hord2 : ord ≤ 1) (h76 : ∀ i, i < 12 → J0 76 i = w76.getD i 0) (h77 : ∀ i, i < 8 → J0 77 i = w77.getD i 0) {te : Int32} {wh q m nc : Nat} {g r : Nat → Nat} (hw : (te = 0 ∧ wh = 3) ∨ (te = 1 ∧ wh = 0)) (h : MEx b z I0 J0 q m nc g r) (hbad : ∀ x, aP b z ord 60 wh 0 q m = .inl x → ∀ I' J', MFr I0 I' J0 J' → ¬ I' 61 19 = 0 → I' 61 18 = nI x → k I' J') (hgd : ∀ q' m' v, aP b z ord 60 wh 0 q m = .inr (q', m', v) → ∀ (I' : tHI) (J' : tHJ) (g' r' : Nat → Nat) (nc' : Nat), MFr I0 I' J0 J' → MEx b z I' J' q' m' nc' g' r' → nc ≤ nc' → (∀ i, i < nc → g' i = g i ∧ r' i = r i) → DN (if ord = 0 then lfL else lfO) g' r' nc nc' v → k I' J') : F12_readExpression n S I0 J0 te k := by
  obtain ⟨h1, h2, h3, h4, h5, h6, h7, h8, h9⟩ := h
  have hz := ht.1
  have uq := aF_le (b := b) h2
  have f1 : MFr I0 (uI (uI I0 61 29 0) 61 30 0) J0 J0 := ((MFr.rf I0 J0).w61 (by decide)).w61 (by decide)
  have x61 : ∀ y, y ≠ 29 → y ≠ 30 → (uI (uI I0 61 29 0) 61 30 0) 61 y = I0 61 y := fun y a c => by rw [uIe, upn c, uIe, upn a]
  have hG : MG b z (uI (uI I0 61 29 0) 61 30 0) J0 q m 0 nc [] g r := by
    obtain ⟨t1, t2, t3, t4⟩ := h1
    refine ⟨⟨by rw [x61 14 (by decide) (by decide)]; exact t1, by rw [x61 15 (by decide) (by decide)]; exact t2, by rw [x61 16 (by decide) (by decide)]; exact t3, t4⟩, h2, by rw [x61 19 (by decide) (by decide)]; exact h3, by rw [x61 18 (by decide) (by decide)]; exact h4, by rw [x61 26 (by decide) (by decide)]; exact h5, h6, by rw [uIe, upe]; rfl, ⟨by rw [x61 23 (by decide) (by decide)]; exact h7, by rw [uIe, upn (by decide), uIe, upe]; rfl, trivial, by show 0 ≤ 400; omega, by show nc + 0 ≤ 400; omega, ?_⟩, by show 0 ≤ _; omega, by show nc + 0 ≤ _; omega⟩
    rw [uIn (by decide), uIn (by decide), uIn (by decide), uIn (by decide)]; exact h9
  -- the last settling
  have fin : ∀ (q' m' : Nat) (v : tV), aP b z ord 60 wh 0 q m = .inr (q', m', v) → ∀ (fh : Nat) (I' : tHI) (J' : tHJ) (R : List (Nat × Nat)) (g' r' : Nat → Nat) (nc' : Nat) (F : tV → tV) (mm : Nat) (u : tV), 1 ≤ fh → MFr I0 I' J0 J' → MG b z I' J' q' m' 0 nc' (R ++ []) g' r' → (∀ e, e ∈ R → clv wh ≤ bnd e.1 ∧ 20 ≤ e.1 ∧ e.1 ≤ 30) → (∀ i, i < nc → g' i = g i ∧ r' i = r i) → LCx (if ord = 0 then lfL else lfO) g' r' R nc mm F → DN (if ord = 0 then lfL else lfO) g' r' mm nc' u → F u = v → F12_readExpression_L20 n S k fh I' J' te 4 := by
    intro q' m' v e fh I' J' R g' r' nc' F mm u c0 c1 c2 c3 c4 c5 c6 c7
    obtain ⟨fh, rfl⟩ : ∃ g, fh = g + 1 := ⟨fh - 1, by omega⟩
    obtain ⟨d1, d2, d3, d4, d5, d6, d7, d8, d9, d10⟩ := c2
    have cw : 1 ≤ clv wh := by rcases hw with w | w <;> rw [w.2] <;> decide
    obtain ⟨g2, r2, nc2, s1, s2, s3, s4, s5⟩ := sett_top (l := 1) (Or.inl rfl) R nc mm nc' g' r' F u c5 c6 (fun e he => ⟨Nat.le_trans cw (c3 e he).1, (c3 e he).2⟩)
    refine x_4 d3 (sp_msett (l := 1) (by decide) (by decide) (by omega) d8 (fun I1 m1 p1 => ?_))
    rw [s1] at p1
    have p1 : MPi I1 nc2 [] g2 r2 := p1
    have s5 : nc2 + 0 = nc' + pend (R ++ []) := s5
    have y61 : ∀ y, y ≠ 29 → y ≠ 23 → I1 61 y = I' 61 y := by
      intro y a c
      refine m1.2 y (fun e => ?_)
      have : y = 23 ∨ y = 29 := by simpa using e
      omega
    obtain ⟨t1, t2, t3, t4⟩ := d1
    refine hgd q' m' v e I1 J' g2 r2 nc2 (c1.trans (m1.fr J')) ⟨⟨by rw [y61 14 (by decide) (by decide)]; exact t1, by rw [y61 15 (by decide) (by decide)]; exact t2, by rw [y61 16 (by decide) (by decide)]; exact t3, t4⟩, d2, by rw [y61 19 (by decide) (by decide)]; exact d3, by rw [y61 18 (by decide) (by decide)]; exact d4, by rw [y61 26 (by decide) (by decide)]; exact d5, d6, p1.1, by omega, p1.2.2.2.2.2⟩ ?_ (fun i hi => ?_) (by rw [← c7]; exact s2)
    · have := c5.le; have := c6.lt; omega
    · obtain ⟨e1, e2⟩ := s3 i hi
      obtain ⟨e3, e4⟩ := c4 i hi
      exact ⟨e1.trans e3, e2.trans e4⟩
  unfold F12_readExpression
  have key := sp_ex (n := n) (S := S) (k := k) (t := te) (I0 := I0) (J0 := J0) (ord := ord) ht (by omega) hord hord2 h76 h77 60 wh (by rcases hw with w | w <;> omega) 0 q m nc [] g r _ J0 n (if te = 0 then 1 else 0) (by omega) (by omega) f1 hG (Or.inl rfl)
  refine key (fun y => ⟨fun e => (by cases e), fun _ => ?_⟩) ?_ (by omega) ⟨hbad, fun q' m' v e fh' I' J' R g' r' nc' F mm u c1 c2 c3 c4 c5 c6 c7 c8 => ?_⟩
  · rcases hw with w | w
    · omega
    · rw [w.1]; decide
  · rcases hw with w | w
    · rw [w.1]; exact Or.inr (Or.inl ⟨by omega, rfl⟩)
    · rw [w.1]; exact Or.inl ⟨by omega, rfl⟩
  · have ok := aP_ok hz 60 wh 0 _ _ _ _ _ (by rcases hw with w | w <;> omega) h2 e
    have ei : innr (R ++ []) = none := by rw [innr_R R _ (fun e he => (c4 e he).2.2)]; rfl
    rcases hw with ⟨w1, w2⟩ | ⟨w1, w2⟩
    · subst w2
      have c1 : 4 * (z - aF b z q') + 3 ≤ fh' := c1
      obtain ⟨fh', rfl⟩ : ∃ g, fh' = g + 1 := ⟨fh' - 1, by omega⟩
      have no := ok.2.2.2.2.2.2.2.1 rfl
      exact x_3n (by omega) c3 no.1 no.2 (fun _ h => absurd w1 (h ei)) (fun h => by rw [ei] at h; cases h) (fun _ _ => fin q' m' v e fh' I' J' R g' r' nc' F mm u (by omega) c2 c3 c4 c5 c6 c7 c8)
    · subst w2
      have c1 : 4 * (z - aF b z q') + 2 ≤ fh' := c1
      obtain ⟨fh', rfl⟩ : ∃ g, fh' = g + 1 := ⟨fh' - 1, by omega⟩
      have no := ok.2.2.2.2.2.1 rfl
      have n4 : ¬ aX b z q' 4 = some 0 := fun h => by have := no.1; rw [aOp0, if_pos h] at this; exact absurd this (by decide)
      have n5 : ¬ aX b z q' 5 = some 0 := fun h => by have := no.2; rw [aOp1, if_pos h] at this; exact absurd this (by decide)
      refine x_2 c3.2.2.1 ?_
      unfold F12_behindTest
      refine ⟨fun h => absurd ((isW_and c3.1).mpr n5) h, fun _ => ⟨fun _ => sp_inner (by omega) c3.2.2.2.2.2.2.2.1.2.1 c3.2.2.2.2.2.2.2.1.2.2.1 c3.2.2.2.2.2.2.2.1.2.2.2.1 ?_, fun h => absurd ((isW_or c3.1).mpr n4) h⟩⟩
      rw [ei]
      exact ⟨fun h => absurd rfl h, fun _ => fin q' m' v e fh' I' J' R g' r' nc' F mm u (by omega) c2 c3 c4 c5 c6 c7 c8⟩
end ER
/-! clauses: kind, times, first sum, second sum, test -/
abbrev aC5 : Type := Nat × Nat × Option tV × Option tV × Option tV
def aS1 (b : Nat → Nat) (z ord kd q m : Nat) : Nat ⊕ (Nat × Nat × Option tV) := if kd = 5 then .inr (q, m, none) else match aP b z ord 60 3 0 q m with
  | .inl x => .inl x
  | .inr (q', m', v) => .inr (q', m', some v)
def aS2 (b : Nat → Nat) (z ord kd q m : Nat) : Nat ⊕ (Nat × Nat × Option tV) := if ord = 0 ∨ ¬ (kd = 3 ∨ kd = 4) then .inr (q, m, none) else if aX b z q (if kd = 3 then 0 else 1) = some 0 then (match aP b z ord 60 3 0 (aE b z q) m with
  | .inl x => .inl x
  | .inr (q', m', v) => .inr (q', m', some v)) else .inl (aF b z q)
def aTm (b : Nat → Nat) (z ord q : Nat) : Nat ⊕ (Nat × Nat) := if ord = 0 ∨ ¬ aX b z q 2 = some 0 then .inr (q, 1) else if aK b z (aE b z q) = 2 ∧ 1 ≤ aN b z (aE b z q) ∧ aN b z (aE b z q) ≤ 20 then .inr (aE b z (aE b z q), aN b z (aE b z q)) else .inl (aF b z (aE b z q))
def aIf (b : Nat → Nat) (z ord q m : Nat) : Nat ⊕ (Nat × Nat × Option tV) := if aX b z q 3 = some 0 then (match aP b z ord 60 0 0 (aE b z q) m with
  | .inl x => .inl x
  | .inr (q', m', v) => .inr (q', m', some v)) else .inr (q, m, none)
/-- what stands behind the head -/
def aBd (b : Nat → Nat) (z ord kd q m : Nat) : Nat ⊕ (Nat × Nat × aC5) := match aS1 b z ord kd q m with
  | .inl x => .inl x
  | .inr (q1, m1, v1) => match aS2 b z ord kd q1 m1 with
    | .inl x => .inl x
    | .inr (q2, m2, v2) => match aTm b z ord q2 with
      | .inl x => .inl x
      | .inr (q3, tm) => match aIf b z ord q3 m2 with
        | .inl x => .inl x
        | .inr (q4, m4, v4) => .inr (q4, m4, kd, tm, v1, v2, v4)
def aHd (b : Nat → Nat) (z ord q : Nat) : Option Nat := aX b z q (if ord = 0 then 10 else 9)
def aCl (b : Nat → Nat) (z ord q m : Nat) : Nat ⊕ (Nat × Nat × aC5) := match aHd b z ord q with
  | none => .inl (aF b z q)
  | some kd => aBd b z ord kd (aE b z q) m
/-- a text, with room for f clauses more -/
def aTe (b : Nat → Nat) (z ord : Nat) : Nat → Nat → Nat → List aC5 → Nat ⊕ List aC5
  | 0, q, _, _ => .inl (aF b z q)
  | f + 1, q, m, cs => match aCl b z ord q m with
    | .inl x => .inl x
    | .inr (q', m', c) => if aS b z q' = 59 then aTe b z ord f (aE b z q') m' (cs ++ [c]) else if aK b z q' = 0 then .inr (cs ++ [c]) else .inl (aF b z q')
