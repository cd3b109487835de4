/-! image and back: a State copied -/
theorem cpI_n {I : tHI} {s sp y dp n x : Nat} (h : x ≠ y) : cpI I s sp y dp n x = I x := by funext k; unfold cpI; rw [if_neg (fun z => h z.1)]
theorem cpI_e {I : tHI} {s y n j : Nat} (h : j < n) : cpI I s 0 y 0 n y j = I s j := by unfold cpI; rw [if_pos ⟨rfl, by omega, by omega⟩, Nat.zero_add, Nat.sub_zero]
theorem cpI_o {I : tHI} {s y n j : Nat} (h : n ≤ j) : cpI I s 0 y 0 n y j = I y j := by unfold cpI; rw [if_neg (fun z => by omega)]
/-- copied so far, from the State at b to the State at a -/
def Dn (I X : tHI) (a b : Nat) (P : Nat → Nat → Prop) : Prop := (∀ x, x < a ∨ a + 15 < x → X x = I x) ∧ ∀ o i, P o i → X (a + o) i = I (b + o) i
section DN
variable {n : Nat} {S : tSH} {I X : tHI} {J : tHJ} {a b : Nat} {P : Nat → Nat → Prop}
theorem Dn.u (h : Dn I X a b P) (hd : a + 16 ≤ b ∨ b + 16 ≤ a) {o : Nat} (q : Nat) (ho : o ≤ 15) : Dn I (uI X (a + o) q (X (b + o) q)) a b (fun o' i' => P o' i' ∨ (o' = o ∧ i' = q)) := by
  refine ⟨fun x hx => by rw [uIn (by omega)]; exact h.1 x hx, fun o' i' hp => ?_⟩
  by_cases c : o' = o ∧ i' = q
  · rw [c.1, c.2, uIe, upe, h.1 (b + o) (by omega)]
  · have hp' := hp.resolve_right c
    by_cases d : o' = o
    · subst d
      rw [uIe, upn (fun z => c ⟨rfl, z⟩)]; exact h.2 _ _ hp'
    · rw [uIn (by omega)]; exact h.2 _ _ hp'
theorem Dn.c (h : Dn I X a b P) (hd : a + 16 ≤ b ∨ b + 16 ≤ a) {o : Nat} (m : Nat) (ho : o ≤ 15) : Dn I (cpI X (b + o) 0 (a + o) 0 m) a b (fun o' i' => P o' i' ∨ (o' = o ∧ i' < m)) := by
  refine ⟨fun x hx => by rw [cpI_n (by omega)]; exact h.1 x hx, fun o' i' hp => ?_⟩
  by_cases c : o' = o ∧ i' < m
  · rw [c.1, cpI_e c.2, h.1 (b + o) (by omega)]
  · have hp' := hp.resolve_right c
    by_cases d : o' = o
    · subst d
      rw [cpI_o (by omega)]; exact h.2 _ _ hp'
    · rw [cpI_n (by omega)]; exact h.2 _ _ hp'
/-- all of a State but its laws -/
def CpS (I X : tHI) (a b : Nat) : Prop := (X a 4 = I b 4 ∧ X a 5 = I b 5 ∧ X (a + 1) 0 = I (b + 1) 0 ∧ X (a + 6) 0 = I (b + 6) 0 ∧ X (a + 6) 5 = I (b + 6) 5) ∧ (∀ i, i < 6 → X (a + 2) i = I (b + 2) i ∧ X (a + 3) i = I (b + 3) i ∧ X (a + 4) i = I (b + 4) i ∧ X (a + 5) i = I (b + 5) i) ∧ (∀ i, i < 12 → X (a + 7) i = I (b + 7) i ∧ X (a + 8) i = I (b + 8) i ∧ X (a + 9) i = I (b + 9) i ∧ X (a + 10) i = I (b + 10) i) ∧ (∀ i, i < 8 → X (a + 11) i = I (b + 11) i ∧ X (a + 12) i = I (b + 12) i ∧ X (a + 13) i = I (b + 13) i) ∧ ∀ i, i < 9 → X (a + 14) i = I (b + 14) i
/-- the laws' links -/
def CpQ (S S' : tSH) (a b : Nat) (m : Nat) : Prop := S'.2 = S.2 ∧ (∀ x j, x ≠ a + 15 → sQ S' x j = sQ S x j) ∧ ∀ j, j < m → sQ S' (a + 15) j = sQ S (b + 15) j
theorem cpQ_L {k : tSH → tHI → tHJ → Prop} (hd : a + 16 ≤ b ∨ b + 16 ≤ a) (t1 : ty S a 8) (t2 : ty S b 8) (hk : ∀ S' : tSH, tGr S' → CpQ S S' a b 6 → k S' (uI (uI X a 4 (X b 4)) a 5 ((uI X a 4 (X b 4)) b 5)) J) : ∀ (d f j : Nat) (S' : tSH), j + d = 6 → d < f → tGr S' → CpQ S S' a b j → F8_copyFrom_L k a b X J f S' (nI j) := by
  intro d
  induction d with
  | zero =>
    intro f j S' hj hf hG hC
    obtain ⟨f, rfl⟩ : ∃ z, f = z + 1 := ⟨f - 1, by omega⟩
    have : j = 6 := by omega
    subst this
    unfold F8_copyFrom_L
    exact ⟨fun _ => hk S' hG hC, fun z => absurd ((qle (a := 6) (by omega) (by omega)).mpr (Nat.le_refl _)) z⟩
  | succ d ih =>
    intro f j S' hj hf hG hC
    obtain ⟨f, rfl⟩ : ∃ z, f = z + 1 := ⟨f - 1, by omega⟩
    unfold F8_copyFrom_L
    rw [qn (by omega), show nI j + 1 = nI (j + 1) from nI_add j 1]
    refine ⟨fun z => ?_, fun _ => ⟨(qin (by omega)).mpr (by omega), ?_⟩⟩
    · exfalso; have := (qle (a := 6) (by omega) (by omega)).mp z; omega
    · have ta : ty S' a 8 := ⟨by show a < S'.2.2.2; rw [hC.1]; exact t1.1, by show S'.2.1 a = 8; rw [hC.1]; exact t1.2⟩
      have tb : ty S' b 8 := ⟨by show b < S'.2.2.2; rw [hC.1]; exact t2.1, by show S'.2.1 b = 8; rw [hC.1]; exact t2.2⟩
      have ta15 : ty S' (a + 15) 44 := tGr.off hG ta (k := 3) rfl
      have tb15 : ty S' (b + 15) 44 := tGr.off hG tb (k := 3) rfl
      have eb : sQ S' (b + 15) j = sQ S (b + 15) j := hC.2.1 _ _ (by omega)
      refine ih f (j + 1) _ (by omega) (by omega) ?_ ⟨hC.1, fun x i hx => ?_, fun i hi => ?_⟩
      · refine tGr_uQ hG (fun t ht x hx => ?_)
        have e : t = 44 := ht.2.symm.trans ta15.2
        subst e
        exact ⟨fun z => by omega, fun z => by omega, fun _ => (hG _ _ tb15).2.2 rfl _ _ hx⟩
      · show (if x = a + 15 ∧ i = j then _ else sQ S' x i) = _
        rw [if_neg (fun z => hx z.1)]; exact hC.2.1 x i hx
      · show (if a + 15 = a + 15 ∧ i = j then sQ S' (b + 15) j else sQ S' (a + 15) i) = _
        by_cases c : i = j
        · rw [if_pos ⟨rfl, c⟩, c]; exact eb
        · rw [if_neg (fun z => c z.2)]; exact hC.2.2 i (by omega)
theorem sp_copySt (hn : 10 < n) {k : tSH → tHI → tHJ → Prop} (hG : tGr S) (hd : a + 16 ≤ b ∨ b + 16 ≤ a) (t1 : ty S a 8) (t2 : ty S b 8) (hk : ∀ (S' : tSH) (X : tHI), tGr S' → CpQ S S' a b 6 → (∀ x, x < a ∨ a + 15 < x → X x = I x) → CpS I X a b → k S' X J) : F8_copyFrom n S I J a b k := by
  unfold F8_copyFrom F3_copyFrom F7_copyFrom F10_copyFrom
  have d0 : Dn I I a b (fun _ _ => False) := ⟨fun _ _ => rfl, fun _ _ z => False.elim z⟩
  have d1 := ((((d0.u hd (o := 1) 0 (by omega)).c hd (o := 2) 6 (by omega)).c hd (o := 3) 6 (by omega)).c hd (o := 4) 6 (by omega)).c hd (o := 5) 6 (by omega)
  have d2 := ((((((((d1.u hd (o := 6) 0 (by omega)).c hd (o := 7) 12 (by omega)).c hd (o := 8) 12 (by omega)).c hd (o := 9) 12 (by omega)).c hd (o := 10) 12 (by omega)).u hd (o := 6) 5 (by omega)).c hd (o := 11) 8 (by omega)).c hd (o := 12) 8 (by omega)).c hd (o := 13) 8 (by omega)
  have d3 := ((((((((d2.u hd (o := 14) 0 (by omega)).u hd (o := 14) 1 (by omega)).u hd (o := 14) 2 (by omega)).u hd (o := 14) 3 (by omega)).u hd (o := 14) 4 (by omega)).u hd (o := 14) 5 (by omega)).u hd (o := 14) 6 (by omega)).u hd (o := 14) 7 (by omega)).u hd (o := 14) 8 (by omega)
  have d4 := (d3.u hd (o := 0) 4 (by omega)).u hd (o := 0) 5 (by omega)
  refine cpQ_L (S := S) hd t1 t2 (fun S' g1 g2 => hk S' _ g1 g2 d4.1 ?_) 6 n 0 S (by omega) (by omega) hG ⟨rfl, fun _ _ _ => rfl, fun j hj => by omega⟩
  have q := d4.2
  refine ⟨⟨q 0 4 (by simp), q 0 5 (by simp), q 1 0 (by simp), q 6 0 (by simp), q 6 5 (by simp)⟩, fun i hi => ⟨q 2 i (by simp [hi]), q 3 i (by simp [hi]), q 4 i (by simp [hi]), q 5 i (by simp [hi])⟩, fun i hi => ⟨q 7 i (by simp [hi]), q 8 i (by simp [hi]), q 9 i (by simp [hi]), q 10 i (by simp [hi])⟩, fun i hi => ⟨q 11 i (by simp [hi]), q 12 i (by simp [hi]), q 13 i (by simp [hi])⟩, fun i hi => q 14 i ?_⟩
  have : i = 0 ∨ i = 1 ∨ i = 2 ∨ i = 3 ∨ i = 4 ∨ i = 5 ∨ i = 6 ∨ i = 7 ∨ i = 8 := by omega
  rcases this with g | g | g | g | g | g | g | g | g <;> subst g <;> simp
/-- tags of a State's cells -/
theorem st_tags (hG : tGr S) (t : ty S a 8) {o : Nat} (ho : 0 < o) (ho2 : o ≤ 15) : ∃ g, ty S (a + o) g ∧ g ≠ 8 ∧ g ≠ 6 := by
  have t1 : ty S (a + 1) 3 := tGr.off hG t (k := 0) rfl
  have t6 : ty S (a + 6) 7 := tGr.off hG t (k := 1) rfl
  have t14 : ty S (a + 14) 10 := tGr.off hG t (k := 2) rfl
  have t15 : ty S (a + 15) 44 := tGr.off hG t (k := 3) rfl
  have : o = 1 ∨ o = 2 ∨ o = 3 ∨ o = 4 ∨ o = 5 ∨ o = 6 ∨ o = 7 ∨ o = 8 ∨ o = 9 ∨ o = 10 ∨ o = 11 ∨ o = 12 ∨ o = 13 ∨ o = 14 ∨ o = 15 := by omega
  rcases this with g | g | g | g | g | g | g | g | g | g | g | g | g | g | g <;> subst g
  · exact ⟨3, t1, by decide, by decide⟩
  · exact ⟨40, (show ty S (a + 1 + 1) 40 from tGr.off hG t1 (k := 1) rfl), by decide, by decide⟩
  · exact ⟨40, (show ty S (a + 1 + 2) 40 from tGr.off hG t1 (k := 2) rfl), by decide, by decide⟩
  · exact ⟨40, (show ty S (a + 1 + 3) 40 from tGr.off hG t1 (k := 3) rfl), by decide, by decide⟩
  · exact ⟨40, (show ty S (a + 1 + 4) 40 from tGr.off hG t1 (k := 4) rfl), by decide, by decide⟩
  · exact ⟨7, t6, by decide, by decide⟩
  · exact ⟨40, (show ty S (a + 6 + 1) 40 from tGr.off hG t6 (k := 1) rfl), by decide, by decide⟩
  · exact ⟨40, (show ty S (a + 6 + 2) 40 from tGr.off hG t6 (k := 2) rfl), by decide, by decide⟩
  · exact ⟨40, (show ty S (a + 6 + 3) 40 from tGr.off hG t6 (k := 3) rfl), by decide, by decide⟩
  · exact ⟨40, (show ty S (a + 6 + 4) 40 from tGr.off hG t6 (k := 4) rfl), by decide, by decide⟩
  · exact ⟨40, (show ty S (a + 6 + 5) 40 from tGr.off hG t6 (k := 6) rfl), by decide, by decide⟩
  · exact ⟨40, (show ty S (a + 6 + 6) 40 from tGr.off hG t6 (k := 7) rfl), by decide, by decide⟩
  · exact ⟨40, (show ty S (a + 6 + 7) 40 from tGr.off hG t6 (k := 8) rfl), by decide, by decide⟩
  · exact ⟨10, t14, by decide, by decide⟩
  · exact ⟨44, t15, by decide, by decide⟩
theorem st_st (hG : tGr S) (t1 : ty S a 8) (t2 : ty S b 8) (hne : a ≠ b) : a + 16 ≤ b ∨ b + 16 ≤ a := by
  have key : ∀ a b, ty S a 8 → ty S b 8 → a < b → a + 16 ≤ b := by
    intro a b t1 t2 hlt
    rcases Nat.lt_or_ge b (a + 16) with h | h
    · obtain ⟨g, g1, g2, -⟩ := st_tags hG t1 (o := b - a) (by omega) (by omega)
      rw [show a + (b - a) = b by omega] at g1
      exact absurd (g1.2.symm.trans t2.2) g2
    · exact h
  rcases Nat.lt_or_ge a b with h | h
  · exact Or.inl (key a b t1 t2 h)
  · exact Or.inr (key b a t2 t1 (by omega))
theorem st_pr (hG : tGr S) {p : Nat} (t1 : ty S a 8) (t2 : ty S p 6) : p + 4 < a ∨ a + 15 < p := by
  rcases Nat.lt_or_ge p a with h | h
  · left
    rcases Nat.lt_or_ge (p + 4) a with h2 | h2
    · exact h2
    · exfalso
      have tg : ∀ j, 0 < j → j ≤ 4 → ty S (p + j) 40 := fun j h1 h2 => by
        have : j = 1 ∨ j = 2 ∨ j = 3 ∨ j = 4 := by omega
        rcases this with g | g | g | g <;> subst g
        · exact tGr.off hG t2 (k := 0) rfl
        · exact tGr.off hG t2 (k := 1) rfl
        · exact tGr.off hG t2 (k := 2) rfl
        · exact tGr.off hG t2 (k := 3) rfl
      have := tg (a - p) (by omega) (by omega)
      rw [show p + (a - p) = a by omega] at this
      exact absurd (this.2.symm.trans t1.2) (by decide)
  · right
    rcases Nat.lt_or_ge (a + 15) p with h2 | h2
    · exact h2
    · exfalso
      by_cases e : p = a
      · subst e; exact absurd (t2.2.symm.trans t1.2) (by decide)
      · obtain ⟨g, g1, -, g3⟩ := st_tags hG t1 (o := p - a) (by omega) (by omega)
        rw [show a + (p - a) = p by omega] at g1
        exact g3 (g1.2.symm.trans t2.2)
theorem RK.r {r r' : Nat → Int32} (h : RK r) (e : ∀ k, k < 5510 → r' k = r k) : RK r' := by
  obtain ⟨k0, k1, k2, k3, k4⟩ := h
  exact ⟨k0.r (fun k _ => e k (by omega)), k1.r (fun k _ _ => e k (by omega)), k2.r (e 1 (by omega)) (fun k _ _ => e k (by omega)) (fun k _ => e (9 + k) (by omega)), k3.r (fun k _ _ => e k (by omega)), k4.r (e 1 (by omega)) (e 2 (by omega)) (fun k _ _ => e k (by omega)) (KR.le8 k0)⟩
/-- a row that is the same up to its end -/
theorem RSt.row {r r' : Nat → Int32} (h : RSt S I a r) (e : ∀ k, k < 5510 → r' k = r k) : RSt S I a r' := by
  obtain ⟨h1, h2, h3, h4, h5, h6, h7⟩ := h
  obtain ⟨m, m1, m2⟩ := h6.1.2.2.2.1
  refine ⟨?_, h2.r (fun k _ _ => e k (by omega)), h3.r (fun k _ _ => e k (by omega)), h4.r (fun k _ _ => e k (by omega)), h5.r (fun k _ _ => e k (by omega)), h6.r e, fun i hi => ?_⟩
  · obtain ⟨a1, a2, a3, a4, a5⟩ := h1
    exact ⟨by rw [e 3 (by omega)]; exact a1, by rw [e 4 (by omega)]; exact a2, by rw [e 0 (by omega)]; exact a3, by rw [e 1 (by omega)]; exact a4, by rw [e 2 (by omega)]; exact a5⟩
  · rw [e 3 (by omega)] at hi
    have h6' : i < 6 := by rw [m1, qi (by omega)] at hi; omega
    obtain ⟨p, p1, p2⟩ := h7 i hi
    exact ⟨p, p1, p2.r (fun k q1 q2 => e k (by omega))⟩
theorem LRel.sh {S' : tSH} {p : Nat} {f0 f1 f2 f4 r : Nat → Int32} {at0 : Nat} (h : LRel S p f0 f1 f2 f4 r at0) (e1 : ty S p 6 → ty S' p 6) (e2 : sZ S ≤ sZ S') (e3 : ∀ x, x < sZ S → sL S' x = sL S x) : LRel S' p f0 f1 f2 f4 r at0 := by
  obtain ⟨⟨h1, h2, h3⟩, m, ln, mn, c, op, ar, g1, g2, ⟨g3, g4, g5, g6⟩, g7⟩ := h
  exact ⟨⟨e1 h1, h2, by omega⟩, m, ln, mn, c, op, ar, g1, g2, ⟨by rw [e3 _ (by omega)]; exact g3, by rw [e3 _ (by omega)]; exact g4, by rw [e3 _ (by omega)]; exact g5, by rw [e3 _ (by omega)]; exact g6⟩, g7⟩
/-- a State seen after others were written -/
theorem RSt.mv {S' : tSH} {r : Nat → Int32} (h : RSt S I b r) (hX : ∀ i, i < 15 → X (a + i) = I (b + i)) (hQ : ∀ j, j < 6 → sQ S' (a + 15) j = sQ S (b + 15) j) (hP : ∀ p, ty S p 6 → 89 ≤ p → p + 5 ≤ sZ S → ty S' p 6 ∧ (X p = I p ∧ X (p + 1) = I (p + 1) ∧ X (p + 2) = I (p + 2) ∧ X (p + 4) = I (p + 4))) (e2 : sZ S ≤ sZ S') (e3 : ∀ x, x < sZ S → sL S' x = sL S x) : RSt S' X a r := by
  obtain ⟨h1, h2, h3, h4, h5, h6, h7⟩ := h
  obtain ⟨m, m1, m2⟩ := h6.1.2.2.2.1
  have e0 : X a = I b := hX 0 (by omega)
  refine ⟨by rw [e0, hX 1 (by omega), hX 6 (by omega)]; exact h1, by rw [hX 2 (by omega), hX 3 (by omega), hX 4 (by omega), hX 5 (by omega)]; exact h2, by rw [hX 7 (by omega), hX 8 (by omega), hX 9 (by omega), hX 10 (by omega)]; exact h3, by rw [hX 11 (by omega), hX 12 (by omega), hX 13 (by omega)]; exact h4, by rw [hX 14 (by omega)]; exact h5, h6, fun i hi => ?_⟩
  have hi6 : i < 6 := by rw [m1, qi (by omega)] at hi; omega
  obtain ⟨p, p1, p2⟩ := h7 i hi
  obtain ⟨q1, q2, q3, q4, q5⟩ := hP p p2.1.1 p2.1.2.1 p2.1.2.2
  refine ⟨p, by rw [hQ i hi6]; exact p1, ?_⟩
  rw [q2, q3, q4, q5]
  exact p2.sh (fun _ => q1) e2 e3
/-- a State that was copied -/
theorem RSt.cp {S' : tSH} {r : Nat → Int32} (h : RSt S I b r) (hC : CpS I X a b) (hQ : ∀ j, j < 6 → sQ S' (a + 15) j = sQ S (b + 15) j) (hP : ∀ p, ty S p 6 → 89 ≤ p → p + 5 ≤ sZ S → ty S' p 6 ∧ (X p = I p ∧ X (p + 1) = I (p + 1) ∧ X (p + 2) = I (p + 2) ∧ X (p + 4) = I (p + 4))) (e2 : sZ S ≤ sZ S') (e3 : ∀ x, x < sZ S → sL S' x = sL S x) : RSt S' X a r := by
  obtain ⟨h1, h2, h3, h4, h5, h6, h7⟩ := h
  obtain ⟨⟨c1, c2, c3, c4, c5⟩, cl, cb, cg, ct⟩ := hC
  obtain ⟨m, m1, m2⟩ := h6.1.2.2.2.1
  refine ⟨⟨by rw [c1]; exact h1.1, by rw [c2]; exact h1.2.1, by rw [c3]; exact h1.2.2.1, by rw [c4]; exact h1.2.2.2.1, by rw [c5]; exact h1.2.2.2.2⟩, fun i hi => ?_, fun i hi => ?_, fun i hi => ?_, ?_, h6, fun i hi => ?_⟩
  · obtain ⟨a1, a2, a3, a4⟩ := cl i hi
    rw [a1, a2, a3, a4]; exact h2 i hi
  · obtain ⟨a1, a2, a3, a4⟩ := cb i hi
    rw [a1, a2, a3, a4]; exact h3 i hi
  · obtain ⟨a1, a2, a3⟩ := cg i hi
    rw [a1, a2, a3]; exact h4 i hi
  · unfold RT
    rw [ct 0 (by omega), ct 1 (by omega), ct 2 (by omega), ct 3 (by omega), ct 4 (by omega), ct 5 (by omega), ct 6 (by omega), ct 7 (by omega), ct 8 (by omega)]
    exact h5
  · have hi6 : i < 6 := by rw [m1, qi (by omega)] at hi; omega
    obtain ⟨p, p1, p2⟩ := h7 i hi
    obtain ⟨q1, q2, q3, q4, q5⟩ := hP p p2.1.1 p2.1.2.1 p2.1.2.2
    refine ⟨p, by rw [hQ i hi6]; exact p1, ?_⟩
    rw [q2, q3, q4, q5]
    exact p2.sh (fun _ => q1) e2 e3
end DN
