/-! the model reads a law -/
def MFt (I I' : tHI) (J J' : tHJ) : Prop := (∀ x, x ∉ [61, 71, 72, 73, 74, 75, 87] → I' x = I x) ∧ (∀ y, y ∉ [14, 15, 16, 18, 19, 21, 23, 26, 29, 30] → I' 61 y = I 61 y) ∧ (∀ x, x ≠ 61 → J' x = J x) ∧ ∀ y, y ≠ 17 → J' 61 y = J 61 y
theorem MFt.rf (I : tHI) (J : tHJ) : MFt I I J J := ⟨fun _ _ => rfl, fun _ _ => rfl, fun _ _ => rfl, fun _ _ => rfl⟩
theorem MFt.trans {I X Y : tHI} {J U V : tHJ} (h : MFt I X J U) (g : MFt X Y U V) : MFt I Y J V := ⟨fun x hx => (g.1 x hx).trans (h.1 x hx), fun x hx => (g.2.1 x hx).trans (h.2.1 x hx), fun x hx => (g.2.2.1 x hx).trans (h.2.2.1 x hx), fun x hx => (g.2.2.2 x hx).trans (h.2.2.2 x hx)⟩
theorem MFt.fr {I X Y : tHI} {J U V : tHJ} (h : MFt I X J U) (g : MFr X Y U V) : MFt I Y J V := by
  refine h.trans ⟨fun x hx => g.1 x (fun e => hx ?_), fun y hy => g.2.1 y (fun e => hy ?_), g.2.2.1, g.2.2.2⟩
  · have : x = 61 ∨ x = 72 ∨ x = 73 ∨ x = 74 ∨ x = 75 := by simpa using e
    rcases this with c | c | c | c | c <;> rw [c] <;> decide
  · have : y = 14 ∨ y = 15 ∨ y = 16 ∨ y = 18 ∨ y = 19 ∨ y = 23 ∨ y = 26 ∨ y = 29 ∨ y = 30 := by simpa using e
    rcases this with c | c | c | c | c | c | c | c | c <;> rw [c] <;> decide
theorem MFt.ad {I X Y : tHI} {J U V : tHJ} (h : MFt I X J U) (g : MAd X Y U V) : MFt I Y J V := h.fr ((MFr.rf X U).ad g)
theorem MFt.wa {I X : tHI} {J U : tHJ} (h : MFt I X J U) {a y : Nat} {v : Int32} (ha : a ∈ [71, 72, 73, 74, 75, 87]) : MFt I (uI X a y v) J U := by
  have e61 : 61 ≠ a := fun e => by rw [← e] at ha; revert ha; decide
  refine ⟨fun x hx => ?_, fun t ht => ?_, h.2.2.1, h.2.2.2⟩
  · have e : x ≠ a := fun e => hx (by rw [e]; exact List.mem_cons_of_mem _ ha)
    rw [uIn e]; exact h.1 x hx
  · rw [uIn e61]; exact h.2.1 t ht
theorem MFt.w61 {I X : tHI} {J U : tHJ} (h : MFt I X J U) {y : Nat} {v : Int32} (hy : y ∈ [14, 15, 16, 18, 19, 21, 23, 26, 29, 30]) : MFt I (uI X 61 y v) J U := by
  refine ⟨fun x hx => ?_, fun t ht => ?_, h.2.2.1, h.2.2.2⟩
  · have e : x ≠ 61 := fun e => hx (by rw [e]; decide)
    rw [uIn e]; exact h.1 x hx
  · have e : t ≠ y := fun e => ht (by rw [e]; exact hy)
    rw [uIe, upn e]; exact h.2.1 t ht
theorem MTp.ft {b : Nat → Nat} {z : Nat} {I X : tHI} {J Y : tHJ} (h : MTp b z (I 61) (I 70)) (a : MFt I X J Y) : MTp b z (X 61) (X 70) := by
  unfold MTp
  rw [a.2.1 13 (by decide), a.1 70 (by decide)]; exact h
def MOp (lf : (Nat → Int64) → Nat → Nat → Option Int64) (g r : Nat → Nat) (a c : Nat) (o : Option tV) : Prop := match o with
  | none => a = c
  | some v => DN lf g r a c v
theorem MOp.le {lf : (Nat → Int64) → Nat → Nat → Option Int64} {g r : Nat → Nat} {a c : Nat} {o : Option tV} (h : MOp lf g r a c o) : a ≤ c := by
  cases o with
  | none => exact Nat.le_of_eq h
  | some v => exact Nat.le_of_lt (DN.lt h)
theorem MOp.cg {lf : (Nat → Int64) → Nat → Nat → Option Int64} {g r g' r' : Nat → Nat} {a c : Nat} {o : Option tV} (h : MOp lf g r a c o) (e : ∀ i, i < c → g' i = g i ∧ r' i = r i) : MOp lf g' r' a c o := by
  cases o with
  | none => exact h
  | some v => exact DN.cg h fun i _ i2 => e i i2
/-- a row of a law's clause -/
def MRl (f : Nat → Int32) (g r : Nat → Nat) (j top : Nat) (c : aC5) : Prop := ∃ b3 b4 b5 b6 : Nat, f (8 * j) = nI c.1 ∧ (f (8 * j + 3) = nI b3 ∧ f (8 * j + 4) = nI b4 ∧ f (8 * j + 5) = nI b5 ∧ f (8 * j + 6) = nI b6) ∧ (b4 ≤ top ∧ b6 ≤ top) ∧ MOp lfL g r b3 b4 c.2.2.1 ∧ MOp lfL g r b5 b6 c.2.2.2.2
theorem MRl.cg {f f' : Nat → Int32} {g r g' r' : Nat → Nat} {j top top' : Nat} {c : aC5} (h : MRl f g r j top c) (ef : ∀ i, i < 8 → f' (8 * j + i) = f (8 * j + i)) (eg : ∀ i, i < top → g' i = g i ∧ r' i = r i) (ht : top ≤ top') : MRl f' g' r' j top' c := by
  obtain ⟨b3, b4, b5, b6, h1, ⟨h2, h3, h4, h5⟩, ⟨h6, h7⟩, h8, h9⟩ := h
  have e0 := ef 0 (by omega)
  rw [Nat.add_zero] at e0
  exact ⟨b3, b4, b5, b6, by rw [e0]; exact h1, ⟨by rw [ef 3 (by omega)]; exact h2, by rw [ef 4 (by omega)]; exact h3, by rw [ef 5 (by omega)]; exact h4, by rw [ef 6 (by omega)]; exact h5⟩, ⟨by omega, by omega⟩, h8.cg fun i hi => eg i (by omega), h9.cg fun i hi => eg i (by omega)⟩
def MTS (b : Nat → Nat) (z : Nat) (I : tHI) (J : tHJ) (q m nc : Nat) (g r : Nat → Nat) (cs : List aC5) : Prop := MEx b z I J q m nc g r ∧ I 61 21 = nI cs.length ∧ cs.length ≤ 12 ∧ ∀ j c, cs[j]? = some c → MRl (I 71) g r j nc c
section EV
variable {n : Nat} {S : tSH} {b : Nat → Nat} {z ord : Nat} {I0 : tHI} {J0 : tHJ} {k : tHI → tHJ → Prop}
theorem MEx.w {I : tHI} {J : tHJ} {q m nc a y : Nat} {g r : Nat → Nat} {v : Int32} (h : MEx b z I J q m nc g r) (ha : a = 71 ∨ a = 87) : MEx b z (uI I a y v) J q m nc g r := by
  have n1 : 61 ≠ a := by rcases ha with c | c <;> rw [c] <;> decide
  have n2 : 72 ≠ a := by rcases ha with c | c <;> rw [c] <;> decide
  have n3 : 73 ≠ a := by rcases ha with c | c <;> rw [c] <;> decide
  unfold MEx
  rw [uIn n1, uIn n2, uIn n3]
  exact h
theorem MEx.w21 {I : tHI} {J : tHJ} {q m nc : Nat} {g r : Nat → Nat} {v : Int32} (h : MEx b z I J q m nc g r) : MEx b z (uI I 61 21 v) J q m nc g r := by
  obtain ⟨⟨t1, t2, t3, t4⟩, h2, h3, h4, h5, h6, h7, h8, h9⟩ := h
  have e : ∀ y, y ≠ 21 → (uI I 61 21 v) 61 y = I 61 y := fun y hy => by rw [uIe, upn hy]
  exact ⟨⟨by rw [e 14 (by decide)]; exact t1, by rw [e 15 (by decide)]; exact t2, by rw [e 16 (by decide)]; exact t3, t4⟩, h2, by rw [e 19 (by decide)]; exact h3, by rw [e 18 (by decide)]; exact h4, by rw [e 26 (by decide)]; exact h5, h6, by rw [e 23 (by decide)]; exact h7, h8, by rw [uIn (by decide), uIn (by decide)]; exact h9⟩
/-- what a clause comes to -/
def MKo (b : Nat → Nat) (z : Nat) (I0 : tHI) (J0 : tHJ) (cs : List aC5) (R : Nat ⊕ (Nat × Nat × aC5)) (k : tHI → tHJ → Prop) : Prop := (∀ x, R = .inl x → ∀ I' J', MFt I0 I' J0 J' → ¬ I' 61 19 = 0 → I' 61 18 = nI x → k I' J') ∧ ∀ q' m' cl, R = .inr (q', m', cl) → ∀ I' J' nc' g' r', MFt I0 I' J0 J' → MTS b z I' J' q' m' nc' g' r' (cs ++ [cl]) → k I' J'
/-- within a law's clause, c are done -/
def SIm (b : Nat → Nat) (z : Nat) (I0 : tHI) (J0 : tHJ) (g0 r0 : Nat → Nat) (nc0 c : Nat) (I : tHI) (J : tHJ) (q m nc : Nat) (g r : Nat → Nat) : Prop := MFt I0 I J0 J ∧ MEx b z I J q m nc g r ∧ I 61 21 = nI (c + 1) ∧ (∀ i, i < 8 * c → I 71 i = I0 71 i) ∧ (∀ i, i < nc0 → g i = g0 i ∧ r i = r0 i) ∧ nc0 ≤ nc
theorem SIm.w {g0 r0 g r : Nat → Nat} {nc0 c q m nc y : Nat} {v : Int32} {I : tHI} {J : tHJ} (h : SIm b z I0 J0 g0 r0 nc0 c I J q m nc g r) (hy : 8 * c ≤ y) : SIm b z I0 J0 g0 r0 nc0 c (uI I 71 y v) J q m nc g r := by
  obtain ⟨h1, h2, h3, h4, h5, h6⟩ := h
  exact ⟨h1.wa (by decide), h2.w (Or.inl rfl), by rw [uIn (by decide)]; exact h3, fun i hi => by rw [uIe, upn (by omega)]; exact h4 i hi, h5, h6⟩
theorem SIm.next {g0 r0 g r : Nat → Nat} {nc0 c q m nc : Nat} {I : tHI} {J : tHJ} (ht : MTp b z (I0 61) (I0 70)) (hn : 1001 < n) (h : SIm b z I0 J0 g0 r0 nc0 c I J q m nc g r) (hk : ∀ I' J', SIm b z I0 J0 g0 r0 nc0 c I' J' (aE b z q) m nc g r → I' 71 = I 71 → k I' J') : F12_next n S I J k := by
  obtain ⟨h1, h2, h3, h4, h5, h6⟩ := h
  exact h2.next (ht.ft h1) hn (fun I' J' a e => hk I' J' ⟨h1.ad a, e, by rw [a.2.1 21 (by decide)]; exact h3, fun i hi => by rw [a.1 71 (by decide)]; exact h4 i hi, h5, h6⟩ (a.1 71 (by decide)))
theorem SIm.expr (ht : MTp b z (I0 61) (I0 70)) (hn : 2000 < n) (hord : I0 61 20 = nI ord) (hord2 : ord ≤ 1) (h76 : ∀ i, i < 12 → J0 76 i = w76.getD i 0) (h77 : ∀ i, i < 8 → J0 77 i = w77.getD i 0) {te : Int32} {wh q m nc nc0 c : Nat} {g0 r0 g r : Nat → Nat} {I : tHI} {J : tHJ} (hw : (te = 0 ∧ wh = 3) ∨ (te = 1 ∧ wh = 0)) (h : SIm b z I0 J0 g0 r0 nc0 c I J q m nc g r) (hbad : ∀ x, aP b z ord 60 wh 0 q m = .inl x → ∀ I' J', MFt I0 I' J0 J' → ¬ I' 61 19 = 0 → I' 61 18 = nI x → k I' J') (hgd : ∀ q' m' v, aP b z ord 60 wh 0 q m = .inr (q', m', v) → ∀ I' J' g' r' nc', SIm b z I0 J0 g0 r0 nc0 c I' J' q' m' nc' g' r' → I' 71 = I 71 → nc ≤ nc' → (∀ i, i < nc → g' i = g i ∧ r' i = r i) → MOp (if ord = 0 then lfL else lfO) g' r' nc nc' (some v) → k I' J') : F12_readExpression n S I J te k := by
  obtain ⟨h1, h2, h3, h4, h5, h6⟩ := h
  refine sp_expr (ht.ft h1) hn (by rw [h1.2.1 20 (by decide)]; exact hord) hord2 (fun i hi => by rw [h1.2.2.1 76 (by decide)]; exact h76 i hi) (fun i hi => by rw [h1.2.2.1 77 (by decide)]; exact h77 i hi) hw h2 (fun x hx I' J' f a c => hbad x hx I' J' (h1.fr f) a c) (fun q' m' v hx I' J' g' r' nc' f e l s d => hgd q' m' v hx I' J' g' r' nc' ⟨h1.fr f, e, by rw [f.2.1 21 (by decide)]; exact h3, fun i hi => by rw [f.1 71 (by decide)]; exact h4 i hi, fun i hi => ?_, by omega⟩ (f.1 71 (by decide)) l s d)
  obtain ⟨e1, e2⟩ := s i (by omega)
  obtain ⟨e3, e4⟩ := h5 i hi
  exact ⟨e1.trans e3, e2.trans e4⟩
theorem ml_end {cs : List aC5} {q0 m0 nc0 q m nc b3 b4 b5 kd tm : Nat} {g0 r0 g r : Nat → Nat} {o1 o2 o3 : Option tV} {I : tHI} {J : tHJ} (hcs : cs.length < 12) (h0 : MTS b z I0 J0 q0 m0 nc0 g0 r0 cs) (h : SIm b z I0 J0 g0 r0 nc0 cs.length I J q m nc g r) (f0 : I 71 (8 * cs.length) = nI kd) (f3 : I 71 (8 * cs.length + 3) = nI b3) (f4 : I 71 (8 * cs.length + 4) = nI b4) (f5 : I 71 (8 * cs.length + 5) = nI b5) (c1 : MOp lfL g r b3 b4 o1) (c3 : MOp lfL g r b5 nc o3) (hb4 : b4 ≤ nc) (hk : MKo b z I0 J0 cs (.inr (q, m, kd, tm, o1, o2, o3)) k) : F12_readLaw_186 n S k I J (nI (8 * cs.length)) := by
  obtain ⟨h1, h2, h3, h4, h5, h6⟩ := h
  unfold F12_readLaw_186
  have e6 : nI (8 * cs.length) + 6 = nI (8 * cs.length + 6) := qaddl _ 6
  rw [e6, qn (by omega), h2.2.2.2.2.2.2.1]
  refine ⟨(qin (by omega)).mpr (by omega), hk.2 q m _ rfl _ J nc g r (h1.wa (by decide)) ⟨h2.w (Or.inl rfl), ?_, ?_, fun j cl hj => ?_⟩⟩
  · rw [uIn (by decide), List.length_append]; exact h3
  · rw [List.length_append]; show cs.length + 1 ≤ 12; omega
  · have hlen : (cs ++ [(kd, tm, o1, o2, o3)]).length = cs.length + 1 := List.length_append
    rw [uIe]
    rcases Nat.lt_or_ge j cs.length with y | y
    · rw [List.getElem?_append_left y] at hj
      exact (h0.2.2.2 j cl hj).cg (fun i hi => by rw [upn (by omega)]; exact h4 _ (by omega)) h5 h6
    · have hj2 : j = cs.length := by
        rcases Nat.lt_or_ge j (cs.length + 1) with c | c
        · omega
        · rw [List.getElem?_eq_none (by rw [hlen]; exact c)] at hj; cases hj
      subst hj2
      rw [List.getElem?_append_right (Nat.le_refl _), Nat.sub_self] at hj
      have hj : (kd, tm, o1, o2, o3) = cl := Option.some.inj hj
      subst hj
      exact ⟨b3, b4, b5, nc, by rw [upn (by omega)]; exact f0, ⟨by rw [upn (by omega)]; exact f3, by rw [upn (by omega)]; exact f4, by rw [upn (by omega)]; exact f5, upe⟩, ⟨hb4, Nat.le_refl _⟩, c1, c3⟩
theorem ml_bad186 {I : tHI} {J : tHJ} {x c : Nat} (hc : c < 12) (hf : MFt I0 I J0 J) (h19 : ¬ I 61 19 = 0) (h18 : I 61 18 = nI x) (hk : ∀ I' J', MFt I0 I' J0 J' → ¬ I' 61 19 = 0 → I' 61 18 = nI x → k I' J') : F12_readLaw_186 n S k I J (nI (8 * c)) := by
  unfold F12_readLaw_186
  have e6 : nI (8 * c) + 6 = nI (8 * c + 6) := qaddl _ 6
  rw [e6]
  exact ⟨(qin (by omega)).mpr (by omega), hk _ J (hf.wa (by decide)) (by rw [uIn (by decide)]; exact h19) (by rw [uIn (by decide)]; exact h18)⟩
theorem ml_bad136 {I : tHI} {J : tHJ} {x c : Nat} (hc : c < 12) (hf : MFt I0 I J0 J) (h19 : ¬ I 61 19 = 0) (h18 : I 61 18 = nI x) (hk : ∀ I' J', MFt I0 I' J0 J' → ¬ I' 61 19 = 0 → I' 61 18 = nI x → k I' J') : F12_readLaw_136 n S k I J (nI (8 * c)) := by
  unfold F12_readLaw_136
  have e4 : nI (8 * c) + 4 = nI (8 * c + 4) := qaddl _ 4
  have e5 : nI (8 * c) + 5 = nI (8 * c + 5) := qaddl _ 5
  rw [e4, e5]
  have b19 : ¬ (uI (uI I 71 (nI (8 * c + 4)).toNatClampNeg (I 61 23)) 71 (nI (8 * c + 5)).toNatClampNeg ((uI I 71 (nI (8 * c + 4)).toNatClampNeg (I 61 23)) 61 23)) 61 19 = 0 := by rw [uIn (by decide), uIn (by decide)]; exact h19
  refine ⟨(qin (by omega)).mpr (by omega), (qin (by omega)).mpr (by omega), fun _ => ml_bad186 hc ((hf.wa (by decide)).wa (by decide)) b19 (by rw [uIn (by decide), uIn (by decide)]; exact h18) hk, fun y => absurd y b19⟩
theorem ml_136 (ht : MTp b z (I0 61) (I0 70)) (hn : 2000 < n) (hord : I0 61 20 = nI 0) (h76 : ∀ i, i < 12 → J0 76 i = w76.getD i 0) (h77 : ∀ i, i < 8 → J0 77 i = w77.getD i 0) {cs : List aC5} {q0 m0 nc0 q m nc b3 kd tm : Nat} {g0 r0 g r : Nat → Nat} {o1 o2 : Option tV} {I : tHI} {J : tHJ} {R : Nat ⊕ (Nat × Nat × aC5)} (hcs : cs.length < 12) (h0 : MTS b z I0 J0 q0 m0 nc0 g0 r0 cs) (h : SIm b z I0 J0 g0 r0 nc0 cs.length I J q m nc g r) (f0 : I 71 (8 * cs.length) = nI kd) (f3 : I 71 (8 * cs.length + 3) = nI b3) (c1 : MOp lfL g r b3 nc o1) (he : (match aIf b z 0 q m with
        | .inl x => .inl x
        | .inr (q4, m4, v4) => .inr (q4, m4, kd, tm, o1, o2, v4)) = R) (hk : MKo b z I0 J0 cs R k) : F12_readLaw_136 n S k I J (nI (8 * cs.length)) := by
  unfold F12_readLaw_136
  have e4 : nI (8 * cs.length) + 4 = nI (8 * cs.length + 4) := qaddl _ 4
  have e5 : nI (8 * cs.length) + 5 = nI (8 * cs.length + 5) := qaddl _ 5
  have i23 : I 61 23 = nI nc := h.2.1.2.2.2.2.2.2.1
  have e23 : (uI I 71 (8 * cs.length + 4) (nI nc)) 61 23 = nI nc := by rw [uIn (by decide)]; exact i23
  rw [e4, e5, i23, qn (by omega), qn (by omega), e23]
  refine ⟨(qin (by omega)).mpr (by omega), (qin (by omega)).mpr (by omega), ?_⟩
  have h' := (h.w (v := nI nc) (show 8 * cs.length ≤ 8 * cs.length + 4 by omega)).w (v := nI nc) (show 8 * cs.length ≤ 8 * cs.length + 5 by omega)
  have x0 : (uI (uI I 71 (8 * cs.length + 4) (nI nc)) 71 (8 * cs.length + 5) (nI nc)) 71 (8 * cs.length) = nI kd := by rw [uIe, upn (by omega), uIe, upn (by omega)]; exact f0
  have x3 : (uI (uI I 71 (8 * cs.length + 4) (nI nc)) 71 (8 * cs.length + 5) (nI nc)) 71 (8 * cs.length + 3) = nI b3 := by rw [uIe, upn (by omega), uIe, upn (by omega)]; exact f3
  have x4 : (uI (uI I 71 (8 * cs.length + 4) (nI nc)) 71 (8 * cs.length + 5) (nI nc)) 71 (8 * cs.length + 4) = nI nc := by rw [uIe, upn (by omega), uIe, upe]
  have x5 : (uI (uI I 71 (8 * cs.length + 4) (nI nc)) 71 (8 * cs.length + 5) (nI nc)) 71 (8 * cs.length + 5) = nI nc := by rw [uIe, upe]
  generalize (uI (uI I 71 (8 * cs.length + 4) (nI nc)) 71 (8 * cs.length + 5) (nI nc)) = I1 at h' x0 x3 x4 x5 ⊢
  have w3 := isW_if (S := S) h'.2.1.1
  unfold aIf at he
  refine ⟨fun y => absurd h'.2.1.2.2.1 y, fun _ => ⟨fun y => ?_, fun y => ?_⟩⟩
  · rw [if_neg (w3.mp y)] at he
    have he : (.inr (q, m, kd, tm, o1, o2, none) : Nat ⊕ (Nat × Nat × aC5)) = R := he
    subst he
    exact ml_end hcs h0 h' x0 x3 x4 x5 c1 (o3 := none) rfl (Nat.le_refl _) hk
  · have y : aX b z q 3 = some 0 := Classical.not_not.mp (fun g => y (w3.mpr g))
    rw [if_pos y] at he
    refine h'.next ht (by omega) (fun I2 J2 s2 e71 => ?_)
    refine s2.expr (wh := 0) ht hn hord (by omega) h76 h77 (Or.inr ⟨rfl, rfl⟩) (fun x hx I' J' a1 a2 a3 => ?_) (fun q' m' v hx I3 J3 g' r' nc' s3 f71 ll cc dd => ?_)
    · rw [hx] at he
      exact ml_bad186 hcs a1 a2 a3 (hk.1 x he.symm)
    · rw [hx] at he
      have he : (.inr (q', m', kd, tm, o1, o2, some v) : Nat ⊕ (Nat × Nat × aC5)) = R := he
      subst he
      exact ml_end hcs h0 s3 (by rw [f71, e71]; exact x0) (by rw [f71, e71]; exact x3) (by rw [f71, e71]; exact x4) (by rw [f71, e71]; exact x5) (c1.cg cc) dd ll hk
theorem ml_76 (ht : MTp b z (I0 61) (I0 70)) (hn : 2000 < n) (hord : I0 61 20 = nI 0) (h76 : ∀ i, i < 12 → J0 76 i = w76.getD i 0) (h77 : ∀ i, i < 8 → J0 77 i = w77.getD i 0) {cs : List aC5} {q0 m0 nc0 q m kd : Nat} {g0 r0 : Nat → Nat} {J : tHJ} (hkd : kd ≤ 5) (hcs : cs.length < 12) (h0 : MTS b z I0 J0 q0 m0 nc0 g0 r0 cs) (hk : MKo b z I0 J0 cs (aBd b z 0 kd q m) k) : ∀ (d f i : Nat) (I : tHI), i + d = 8 → d < f → MFt I0 I J0 J → MEx b z I J q m nc0 g0 r0 → I 61 21 = nI cs.length → (∀ i, i < 8 * cs.length → I 71 i = I0 71 i) → F12_readLaw_L76 n S k f I J (nI kd) (nI (8 * cs.length)) (nI i) := by
  intro d
  induction d with
  | zero =>
    intro f i I hi hf a1 a2 a3 a4
    obtain ⟨f, rfl⟩ : ∃ g, f = g + 1 := ⟨f - 1, by omega⟩
    have hi : i = 8 := hi
    subst hi
    show F12_readLaw_76 n S k (F12_readLaw_L76 n S k f) I J (nI kd) (nI (8 * cs.length)) (nI 8)
    unfold F12_readLaw_76
    refine ⟨fun _ => ?_, fun y => absurd (show (8 : Int32) ≤ nI 8 by decide) y⟩
    have e3 : nI (8 * cs.length) + 3 = nI (8 * cs.length + 3) := qaddl _ 3
    have e21 : (uI I 71 (8 * cs.length) (nI kd)) 61 21 + 1 = nI (cs.length + 1) := by rw [uIn (by decide), a3, nI_1]
    rw [e3, qn (by omega), qn (by omega), e21]
    have e23 : (uI (uI I 71 (8 * cs.length) (nI kd)) 61 21 (nI (cs.length + 1))) 61 23 = nI nc0 := by rw [uIe, upn (by decide), uIn (by decide)]; exact a2.2.2.2.2.2.2.1
    rw [e23]
    refine ⟨(qin (by omega)).mpr (by omega), (qin (by omega)).mpr (by omega), ?_⟩
    have hs : SIm b z I0 J0 g0 r0 nc0 cs.length (uI (uI (uI I 71 (8 * cs.length) (nI kd)) 61 21 (nI (cs.length + 1))) 71 (8 * cs.length + 3) (nI nc0)) J q m nc0 g0 r0 := by
      refine ⟨((a1.wa (by decide)).w61 (by decide)).wa (by decide), ((a2.w (Or.inl rfl)).w21).w (Or.inl rfl), ?_, fun i hi => ?_, fun _ _ => ⟨rfl, rfl⟩, Nat.le_refl _⟩
      · rw [uIn (by decide), uIe, upe]
      · rw [uIe, upn (by omega), uIn (by decide), uIe, upn (by omega)]; exact a4 i hi
    have x0 : (uI (uI (uI I 71 (8 * cs.length) (nI kd)) 61 21 (nI (cs.length + 1))) 71 (8 * cs.length + 3) (nI nc0)) 71 (8 * cs.length) = nI kd := by rw [uIe, upn (by omega), uIn (by decide), uIe, upe]
    have x3 : (uI (uI (uI I 71 (8 * cs.length) (nI kd)) 61 21 (nI (cs.length + 1))) 71 (8 * cs.length + 3) (nI nc0)) 71 (8 * cs.length + 3) = nI nc0 := by rw [uIe, upe]
    generalize (uI (uI (uI I 71 (8 * cs.length) (nI kd)) 61 21 (nI (cs.length + 1))) 71 (8 * cs.length + 3) (nI nc0)) = I1 at hs x0 x3 ⊢
    unfold aBd at hk
    have es2 : ∀ q m, aS2 b z 0 kd q m = .inr (q, m, none) := fun q m => by unfold aS2; rw [if_pos (Or.inl rfl)]
    have etm : ∀ q, aTm b z 0 q = .inr (q, 1) := fun q => by unfold aTm; rw [if_pos (Or.inl rfl)]
    refine ⟨fun y => ?_, fun y => ?_⟩
    · have k5 : kd = 5 := (qeq (b := 5) (by omega) (by omega)).mp y
      have et : aS1 b z 0 kd q m = .inr (q, m, none) := by unfold aS1; rw [if_pos k5]
      rw [et] at hk
      simp only [es2, etm] at hk
      exact ml_136 (tm := 1) (o1 := none) (o2 := none) ht hn hord h76 h77 hcs h0 hs x0 x3 rfl rfl hk
    · have k5 : ¬ kd = 5 := fun e => y (by rw [e]; rfl)
      have et : aS1 b z 0 kd q m = (match aP b z 0 60 3 0 q m with
        | .inl x => .inl x
        | .inr (q', m', v) => .inr (q', m', some v)) := by unfold aS1; rw [if_neg k5]; rfl
      rw [et] at hk
      refine hs.expr (wh := 3) ht hn hord (by omega) h76 h77 (Or.inl ⟨rfl, rfl⟩) (fun x hx I' J' b1 b2 b3 => ?_) (fun q' m' v hx I3 J3 g' r' nc' s3 f71 ll cc dd => ?_)
      · rw [hx] at hk
        exact ml_bad136 hcs b1 b2 b3 (hk.1 x rfl)
      · rw [hx] at hk
        simp only [es2, etm] at hk
        exact ml_136 (tm := 1) (o1 := some v) (o2 := none) ht hn hord h76 h77 hcs h0 s3 (by rw [f71]; exact x0) (by rw [f71]; exact x3) dd rfl hk
  | succ d ih =>
    intro f i I hi hf a1 a2 a3 a4
    obtain ⟨f, rfl⟩ : ∃ g, f = g + 1 := ⟨f - 1, by omega⟩
    show F12_readLaw_76 n S k (F12_readLaw_L76 n S k f) I J (nI kd) (nI (8 * cs.length)) (nI i)
    unfold F12_readLaw_76
    refine ⟨fun y => absurd ((qle (a := 8) (by omega) (by omega)).mp y) (by omega), fun _ => ?_⟩
    rw [nI_add, qn (by omega), nI_1]
    refine ⟨(qin (by omega)).mpr (by omega), ih f (i + 1) _ (by omega) (by omega) (a1.wa (by decide)) (a2.w (Or.inl rfl)) (by rw [uIn (by decide)]; exact a3) (fun t ht => ?_)⟩
    rw [uIe, upn (by omega)]; exact a4 t ht
theorem ml_heads {q : Nat} (ht : MTp b z (I0 61) (I0 70)) (hn : 2000 < n) (h78 : ∀ i, i < 6 → J0 78 i = w78.getD i 0) (hm : MT b z (I0 61) (J0 61 17) q) {K : Int32 → Prop} (hk : ∀ o, o = aX b z q 10 → F12_must n S I0 J0 (if wV o = (-1) then 0 else (if 12 ≤ (I0 61 21) then (0 : Int32) else 1)) (fun I6 J7 => (((I6 61 19) = 0 → F12_readLaw_L76 n S k n I6 J7 (wV o) (8 * (I6 61 21)) 0) ∧ (¬ (I6 61 19) = 0 → k I6 J7)))) : ∀ (d f i : Nat) (v : Int32), i + d = 6 → d < f → pV2 v 0 (if aK b z q = 1 then ixW (aTx b z q) ((WL 10).drop i) i else none) = wV (aX b z q 10) → F12_readLaw_L4 n S k f I0 J0 v (nI i) := by
  intro d
  induction d with
  | zero =>
    intro f i v hi hf e
    obtain ⟨f, rfl⟩ : ∃ g, f = g + 1 := ⟨f - 1, by omega⟩
    have hi : i = 6 := hi
    subst hi
    have e2 : (if aK b z q = 1 then ixW (aTx b z q) ((WL 10).drop 6) 6 else none) = none := by
      split <;> rfl
    rw [e2] at e
    have e : v = wV (aX b z q 10) := e
    subst e
    show F12_readLaw_4 n S k (F12_readLaw_L4 n S k f) I0 J0 _ (nI 6)
    unfold F12_readLaw_4
    exact ⟨fun _ => hk _ rfl, fun y => absurd (show (6 : Int32) ≤ nI 6 by decide) y⟩
  | succ d ih =>
    intro f i v hi hf e
    obtain ⟨f, rfl⟩ : ∃ g, f = g + 1 := ⟨f - 1, by omega⟩
    show F12_readLaw_4 n S k (F12_readLaw_L4 n S k f) I0 J0 v (nI i)
    unfold F12_readLaw_4
    refine ⟨fun y => absurd ((qle (a := 6) (by omega) (by omega)).mp y) (by omega), fun _ => ⟨(qin (by omega)).mpr (by omega), ?_⟩⟩
    rw [qn (by omega), h78 i (by omega), nI_1]
    refine ih f (i + 1) _ (by omega) (by omega) ?_
    have := row_st (S := S) hm hsh78 (i := i) (show i < (WL 10).length by show i < 6; omega) v 0 (pV2 v 0) rfl (fun _ => rfl)
    rw [← e, ← this]
    rfl
/-- a law's clause by the model -/
theorem sp_mlaw (ht : MTp b z (I0 61) (I0 70)) (hn : 2000 < n) (hord : I0 61 20 = nI 0) (h76 : ∀ i, i < 12 → J0 76 i = w76.getD i 0) (h77 : ∀ i, i < 8 → J0 77 i = w77.getD i 0) (h78 : ∀ i, i < 6 → J0 78 i = w78.getD i 0) {cs : List aC5} {q0 m0 nc0 : Nat} {g0 r0 : Nat → Nat} (h0 : MTS b z I0 J0 q0 m0 nc0 g0 r0 cs) (hfull : cs.length = 12 → ∀ I' J', MFt I0 I' J0 J' → ¬ I' 61 19 = 0 → I' 61 18 = nI (aF b z q0) → k I' J') (hk : cs.length < 12 → MKo b z I0 J0 cs (aCl b z 0 q0 m0) k) : F12_readLaw n S I0 J0 k := by
  have hz := ht.1
  obtain ⟨hE, h21, h12, hR⟩ := id h0
  have xb := aX_b (b := b) (z := z) (q := q0) (i1 := 10) (by decide)
  unfold F12_readLaw
  refine ml_heads (q := q0) (K := fun _ => True) ht hn h78 hE.1 (fun o eo => ?_) 6 n 0 _ rfl (by omega) ?_
  · have wn : wV o = -1 ↔ o = none := by rw [eo]; exact wVn (aX_100 (by decide))
    have e12 : (12 : Int32) ≤ I0 61 21 ↔ 12 ≤ cs.length := by rw [h21]; exact qle (a := 12) (by omega) (by omega)
    have bad : (if wV o = (-1) then 0 else (if 12 ≤ (I0 61 21) then (0 : Int32) else 1)) = 0 → (∀ I' J', MFt I0 I' J0 J' → ¬ I' 61 19 = 0 → I' 61 18 = nI (aF b z q0) → k I' J') → F12_must n S I0 J0 (if wV o = (-1) then 0 else (if 12 ≤ (I0 61 21) then (0 : Int32) else 1)) (fun I6 J7 => (((I6 61 19) = 0 → F12_readLaw_L76 n S k n I6 J7 (wV o) (8 * (I6 61 21)) 0) ∧ (¬ (I6 61 19) = 0 → k I6 J7))) := by
      intro e hb
      refine must_n e hE.2.2.1 ?_
      rw [hE.1.1]
      have b19 : ¬ (uI (uI I0 61 19 1) 61 18 (nI (aF b z q0))) 61 19 = 0 := by rw [uIe, upn (by decide), uIe, upe]; decide
      exact ⟨fun y => absurd y b19, fun _ => hb _ J0 (((MFt.rf I0 J0).w61 (by decide)).w61 (by decide)) b19 (by rw [uIe, upe])⟩
    by_cases hc : cs.length = 12
    · refine bad ?_ (hfull hc)
      rw [if_pos (e12.mpr (by omega))]
      split <;> rfl
    · have hc : cs.length < 12 := by omega
      have hk := hk hc
      unfold aCl at hk
      have ea : aHd b z 0 q0 = o := by rw [eo]; rfl
      rw [ea] at hk
      cases ho : o with
      | none =>
        rw [ho] at hk bad
        exact bad (if_pos rfl) (hk.1 _ rfl)
      | some kd =>
        rw [ho] at hk wn
        have hkd := xb kd (by rw [← eo]; exact ho)
        have hkd : kd < 6 := hkd
        have hk : MKo b z I0 J0 cs (aBd b z 0 kd (aE b z q0) m0) k := hk
        rw [if_neg (fun y => by have := wn.mp y; cases this), if_neg (fun y => by have := e12.mp y; omega)]
        refine must_y (by decide) hE.2.2.1 (hE.next ht (by omega) (fun I1 J1 a1 e1 => ?_))
        refine ⟨fun _ => ?_, fun y => absurd e1.2.2.1 y⟩
        have i21 : I1 61 21 = nI cs.length := by rw [a1.2.1 21 (by decide)]; exact h21
        rw [i21, show 8 * nI cs.length = nI (8 * cs.length) from qmulr _ 8]
        exact ml_76 (J := J1) ht hn hord h76 h77 (by omega) hc h0 hk 8 n 0 I1 rfl (by omega) ((MFt.rf I0 J0).ad a1) e1 i21 (fun i _ => by rw [a1.1 71 (by decide)])
  · show pV2 (-1) 0 (aX b z q0 10) = _
    cases aX b z q0 10 with
    | none => rfl
    | some j => rfl
end EV
