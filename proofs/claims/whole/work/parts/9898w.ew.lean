/-! the model reads orders -/
/-- a row of an order -/
def MRo (f : Nat → Int32) (g r : Nat → Nat) (j top : Nat) (c : aC5) : Prop := ∃ b1 b2 b3 b4 b5 b6 : Nat, (f (8 * j) = nI c.1 ∧ f (8 * j + 7) = nI c.2.1) ∧ (f (8 * j + 1) = nI b1 ∧ f (8 * j + 2) = nI b2 ∧ f (8 * j + 3) = nI b3 ∧ f (8 * j + 4) = nI b4 ∧ f (8 * j + 5) = nI b5 ∧ f (8 * j + 6) = nI b6) ∧ (b2 ≤ top ∧ b4 ≤ top ∧ b6 ≤ top) ∧ MOp lfO g r b1 b2 c.2.2.1 ∧ MOp lfO g r b3 b4 c.2.2.2.1 ∧ MOp lfO g r b5 b6 c.2.2.2.2
theorem MRo.cg {f f' : Nat → Int32} {g r g' r' : Nat → Nat} {j top top' : Nat} {c : aC5} (h : MRo f g r j top c) (ef : ∀ i, i < 8 → f' (8 * j + i) = f (8 * j + i)) (eg : ∀ i, i < top → g' i = g i ∧ r' i = r i) (ht : top ≤ top') : MRo f' g' r' j top' c := by
  obtain ⟨b1, b2, b3, b4, b5, b6, ⟨h1, h1'⟩, ⟨k1, k2, h2, h3, h4, h5⟩, ⟨k3, h6, h7⟩, h8, h9, h10⟩ := h
  have e0 := ef 0 (by omega)
  rw [Nat.add_zero] at e0
  exact ⟨b1, b2, b3, b4, b5, b6, ⟨by rw [e0]; exact h1, by rw [ef 7 (by omega)]; exact h1'⟩, ⟨by rw [ef 1 (by omega)]; exact k1, by rw [ef 2 (by omega)]; exact k2, by rw [ef 3 (by omega)]; exact h2, by rw [ef 4 (by omega)]; exact h3, by rw [ef 5 (by omega)]; exact h4, by rw [ef 6 (by omega)]; exact h5⟩, ⟨by omega, by omega, by omega⟩, h8.cg fun i hi => eg i (by omega), h9.cg fun i hi => eg i (by omega), h10.cg fun i hi => eg i (by omega)⟩
def MTo (b : Nat → Nat) (z : Nat) (I : tHI) (J : tHJ) (q m nc : Nat) (g r : Nat → Nat) (cs : List aC5) : Prop := MEx b z I J q m nc g r ∧ I 61 21 = nI cs.length ∧ cs.length ≤ 12 ∧ ∀ j c, cs[j]? = some c → MRo (I 87) g r j nc c
/-- a fault within an order -/
def BO (I0 I : tHI) (J0 J : tHJ) (x : Nat) : Prop := MFt I0 I J0 J ∧ ¬ I 61 19 = 0 ∧ I 61 18 = nI x
theorem BO.w {I0 I : tHI} {J0 J : tHJ} {x y : Nat} {v : Int32} (h : BO I0 I J0 J x) : BO I0 (uI I 87 y v) J0 J x := ⟨h.1.wa (by decide), by rw [uIn (by decide)]; exact h.2.1, by rw [uIn (by decide)]; exact h.2.2⟩
section EW
variable {n : Nat} {S : tSH} {b : Nat → Nat} {z ord : Nat} {I0 : tHI} {J0 : tHJ} {k : tHI → tHJ → Prop}
/-- what an order comes to -/
def MKq (b : Nat → Nat) (z : Nat) (I0 : tHI) (J0 : tHJ) (cs : List aC5) (R : Nat ⊕ (Nat × Nat × aC5)) (k : tHI → tHJ → Prop) : Prop := (∀ x, R = .inl x → ∀ I' J', BO I0 I' J0 J' x → k I' J') ∧ ∀ q' m' cl, R = .inr (q', m', cl) → ∀ I' J' nc' g' r', MFt I0 I' J0 J' → MTo b z I' J' q' m' nc' g' r' (cs ++ [cl]) → k I' J'
/-- within an order, c are done -/
def SIo (b : Nat → Nat) (z : Nat) (I0 : tHI) (J0 : tHJ) (g0 r0 : Nat → Nat) (nc0 c : Nat) (I : tHI) (J : tHJ) (q m nc : Nat) (g r : Nat → Nat) : Prop := MFt I0 I J0 J ∧ MEx b z I J q m nc g r ∧ I 61 21 = nI (c + 1) ∧ (∀ i, i < 8 * c → I 87 i = I0 87 i) ∧ (∀ i, i < nc0 → g i = g0 i ∧ r i = r0 i) ∧ nc0 ≤ nc
theorem SIo.w {g0 r0 g r : Nat → Nat} {nc0 c q m nc y : Nat} {v : Int32} {I : tHI} {J : tHJ} (h : SIo b z I0 J0 g0 r0 nc0 c I J q m nc g r) (hy : 8 * c ≤ y) : SIo b z I0 J0 g0 r0 nc0 c (uI I 87 y v) J q m nc g r := by
  obtain ⟨h1, h2, h3, h4, h5, h6⟩ := h
  exact ⟨h1.wa (by decide), h2.w (Or.inr rfl), by rw [uIn (by decide)]; exact h3, fun i hi => by rw [uIe, upn (by omega)]; exact h4 i hi, h5, h6⟩
theorem SIo.next {g0 r0 g r : Nat → Nat} {nc0 c q m nc : Nat} {I : tHI} {J : tHJ} (ht : MTp b z (I0 61) (I0 70)) (hn : 1001 < n) (h : SIo b z I0 J0 g0 r0 nc0 c I J q m nc g r) (hk : ∀ I' J', SIo b z I0 J0 g0 r0 nc0 c I' J' (aE b z q) m nc g r → I' 87 = I 87 → k I' J') : F12_next n S I J k := by
  obtain ⟨h1, h2, h3, h4, h5, h6⟩ := h
  exact h2.next (ht.ft h1) hn (fun I' J' a e => hk I' J' ⟨h1.ad a, e, by rw [a.2.1 21 (by decide)]; exact h3, fun i hi => by rw [a.1 87 (by decide)]; exact h4 i hi, h5, h6⟩ (a.1 87 (by decide)))
theorem SIo.expr (ht : MTp b z (I0 61) (I0 70)) (hn : 2000 < n) (hord : I0 61 20 = nI ord) (hord2 : ord ≤ 1) (h76 : ∀ i, i < 12 → J0 76 i = w76.getD i 0) (h77 : ∀ i, i < 8 → J0 77 i = w77.getD i 0) {te : Int32} {wh q m nc nc0 c : Nat} {g0 r0 g r : Nat → Nat} {I : tHI} {J : tHJ} (hw : (te = 0 ∧ wh = 3) ∨ (te = 1 ∧ wh = 0)) (h : SIo b z I0 J0 g0 r0 nc0 c I J q m nc g r) (hbad : ∀ x, aP b z ord 60 wh 0 q m = .inl x → ∀ I' J', MFt I0 I' J0 J' → ¬ I' 61 19 = 0 → I' 61 18 = nI x → k I' J') (hgd : ∀ q' m' v, aP b z ord 60 wh 0 q m = .inr (q', m', v) → ∀ I' J' g' r' nc', SIo b z I0 J0 g0 r0 nc0 c I' J' q' m' nc' g' r' → I' 87 = I 87 → nc ≤ nc' → (∀ i, i < nc → g' i = g i ∧ r' i = r i) → MOp (if ord = 0 then lfL else lfO) g' r' nc nc' (some v) → k I' J') : F12_readExpression n S I J te k := by
  obtain ⟨h1, h2, h3, h4, h5, h6⟩ := h
  refine sp_expr (ht.ft h1) hn (by rw [h1.2.1 20 (by decide)]; exact hord) hord2 (fun i hi => by rw [h1.2.2.1 76 (by decide)]; exact h76 i hi) (fun i hi => by rw [h1.2.2.1 77 (by decide)]; exact h77 i hi) hw h2 (fun x hx I' J' f a c => hbad x hx I' J' (h1.fr f) a c) (fun q' m' v hx I' J' g' r' nc' f e l s d => hgd q' m' v hx I' J' g' r' nc' ⟨h1.fr f, e, by rw [f.2.1 21 (by decide)]; exact h3, fun i hi => by rw [f.1 87 (by decide)]; exact h4 i hi, fun i hi => ?_, by omega⟩ (f.1 87 (by decide)) l s d)
  obtain ⟨e1, e2⟩ := s i (by omega)
  obtain ⟨e3, e4⟩ := h5 i hi
  exact ⟨e1.trans e3, e2.trans e4⟩
theorem e_num {I : tHI} {J : tHJ} {q m nc lo hi : Nat} {g r : Nat → Nat} {wl wh : Int64} {K : Int32 → tHI → tHJ → Prop} (ht : MTp b z (I 61) (I 70)) (hn : 1001 < n) (h : MEx b z I J q m nc g r) (hl : wl.toInt = (lo : Int)) (hw : wh.toInt = (hi : Int)) (hhi : hi ≤ 1000) (hy : aK b z q = 2 ∧ lo ≤ aN b z q ∧ aN b z q ≤ hi → ∀ I' J', MAd I I' J J' → MEx b z I' J' (aE b z q) m nc g r → K (nI (aN b z q)) I' J') (hx : ¬ (aK b z q = 2 ∧ lo ≤ aN b z q ∧ aN b z q ≤ hi) → ∀ v I', MFr I I' J J → ¬ I' 61 19 = 0 → I' 61 18 = nI (aF b z q) → K v I' J) : F12_number n S I J wl wh K := by
  obtain ⟨hT, hq, h19, -⟩ := id h
  have hz := ht.1
  have kr := aK_r (b := b) (z := z) q
  have e2 : nI (aK b z q) = 2 ↔ aK b z q = 2 := qeq (b := 2) (by omega) (by omega)
  unfold F12_number
  rw [hT.2.2.1]
  by_cases c : aK b z q = 2 ∧ lo ≤ aN b z q ∧ aN b z q ≤ hi
  · have hJ := (hT.2.2.2.2.1 c.1).1 (by omega)
    have hin : ¬ V12_in (J 61 17) wl wh = 0 := by rw [mi1, hl, hJ, hw]; omega
    rw [if_pos (e2.mpr c.1), if_neg hin]
    have ei : (J 61 17).toInt32 = nI (aN b z q) := by
      refine Int32.toInt_inj.mp ?_
      rw [tl_32 (by omega) (by omega), hJ, qi (by omega)]
    rw [ei]
    exact must_y (by decide) h19 (h.next ht hn (fun I1 J1 a1 g1' => hy c I1 J1 a1 g1'))
  · have ev : (if nI (aK b z q) = 2 then (if V12_in (J 61 17) wl wh = 0 then (0 : Int32) else 1) else 0) = 0 := by
      by_cases d : aK b z q = 2
      · have hJ := (hT.2.2.2.2.1 d)
        have hin : V12_in (J 61 17) wl wh = 0 := by
          rw [mi0, hl, hw]
          by_cases e : aN b z q ≤ 1000
          · have := hJ.1 e; omega
          · have := hJ.2 (by omega); omega
        rw [if_pos (e2.mpr d), if_pos hin]
      · rw [if_neg (fun y => d (e2.mp y))]
    refine must_n ev h19 ?_
    rw [hT.1]
    have b19 : ¬ (uI (uI I 61 19 1) 61 18 (nI (aF b z q))) 61 19 = 0 := by rw [uIe, upn (by decide), uIe, upe]; decide
    exact hx c _ _ (((MFr.rf I J).w61 (by decide)).w61 (by decide)) b19 (by rw [uIe, upe])
theorem vin8 {c : Nat} (hc : c < 12) {i : Nat} (hi : i < 8) : vp_in (nI (8 * c + i)) 96 := (qin (by omega)).mpr (by omega)
theorem bo_258 {I : tHI} {J : tHJ} {x c : Nat} (hc : c < 12) (h : BO I0 I J0 J x) (hk : ∀ I' J', BO I0 I' J0 J' x → k I' J') : F12_readOrder_258 n S k I J (nI (8 * c)) := by
  unfold F12_readOrder_258
  rw [show nI (8 * c) + 6 = nI (8 * c + 6) from qaddl _ 6]
  exact ⟨vin8 hc (by decide), hk _ J h.w⟩
theorem bo_220 {I : tHI} {J : tHJ} {x c : Nat} (hc : c < 12) (h : BO I0 I J0 J x) (hk : ∀ I' J', BO I0 I' J0 J' x → k I' J') : F12_readOrder_220 n S k I J (nI (8 * c)) := by
  unfold F12_readOrder_220
  rw [show nI (8 * c) + 5 = nI (8 * c + 5) from qaddl _ 5]
  exact ⟨vin8 hc (by decide), fun _ => bo_258 hc h.w hk, fun y => absurd y h.w.2.1⟩
theorem bo_172 {I : tHI} {J : tHJ} {x c : Nat} (hc : c < 12) (h : BO I0 I J0 J x) (hk : ∀ I' J', BO I0 I' J0 J' x → k I' J') : F12_readOrder_172 n S k I J (nI (8 * c)) := by
  unfold F12_readOrder_172
  rw [show nI (8 * c) + 7 = nI (8 * c + 7) from qaddl _ 7]
  exact ⟨vin8 hc (by decide), fun _ => bo_220 hc h.w hk, fun y => absurd y h.w.2.1⟩
theorem bo_22 {I : tHI} {J : tHJ} {x c i : Nat} (hc : c < 12) (hi : i < 7) (h : BO I0 I J0 J x) (hk : ∀ I' J', BO I0 I' J0 J' x → k I' J') : F12_readSum_22 n S k I J (nI (8 * c + i)) := by
  unfold F12_readSum_22
  rw [show nI (8 * c + i) + 1 = nI (8 * c + (i + 1)) from qaddl _ 1]
  exact ⟨vin8 hc (by omega), hk _ J h.w⟩
theorem bo_165 {I : tHI} {J : tHJ} {x c : Nat} (hc : c < 12) (h : BO I0 I J0 J x) (hk : ∀ I' J', BO I0 I' J0 J' x → k I' J') : F12_readOrder_165 n S k I J (nI (8 * c)) := by
  unfold F12_readOrder_165 F12_readSum
  rw [show nI (8 * c) + 3 = nI (8 * c + 3) from qaddl _ 3]
  exact ⟨vin8 hc (by decide), fun _ => bo_22 hc (by decide) h.w (fun I' J' h' => bo_172 hc h' hk), fun y => absurd y h.w.2.1⟩
theorem bo_126 {I : tHI} {J : tHJ} {x c : Nat} {v : Int32} (hc : c < 12) (h : BO I0 I J0 J x) (hk : ∀ I' J', BO I0 I' J0 J' x → k I' J') : F12_readOrder_126 n S k I J v (nI (8 * c)) := by
  have h136 : F12_readOrder_136 n S k I J v (nI (8 * c)) := by
    unfold F12_readOrder_136
    exact ⟨fun _ => bo_165 hc h hk, fun y => absurd y h.2.1⟩
  unfold F12_readOrder_126
  exact ⟨fun _ => h136, fun _ => ⟨fun _ => bo_172 hc h hk, fun _ => h136⟩⟩
/-- the last cell of an order's row -/
theorem mo_end {cs : List aC5} {q0 m0 nc0 q m nc b1 b2 b3 b4 b5 kd tm : Nat} {g0 r0 g r : Nat → Nat} {o1 o2 o3 : Option tV} {I : tHI} {J : tHJ} (hcs : cs.length < 12) (h0 : MTo b z I0 J0 q0 m0 nc0 g0 r0 cs) (h : SIo b z I0 J0 g0 r0 nc0 cs.length I J q m nc g r) (f0 : I 87 (8 * cs.length) = nI kd) (f7 : I 87 (8 * cs.length + 7) = nI tm) (f1 : I 87 (8 * cs.length + 1) = nI b1) (f2 : I 87 (8 * cs.length + 2) = nI b2) (f3 : I 87 (8 * cs.length + 3) = nI b3) (f4 : I 87 (8 * cs.length + 4) = nI b4) (f5 : I 87 (8 * cs.length + 5) = nI b5) (c1 : MOp lfO g r b1 b2 o1) (c2 : MOp lfO g r b3 b4 o2) (c3 : MOp lfO g r b5 nc o3) (hb2 : b2 ≤ nc) (hb4 : b4 ≤ nc) (hk : MKq b z I0 J0 cs (.inr (q, m, kd, tm, o1, o2, o3)) k) : F12_readOrder_258 n S k I J (nI (8 * cs.length)) := by
  obtain ⟨h1, h2, h3, h4, h5, h6⟩ := h
  unfold F12_readOrder_258
  have e6 : nI (8 * cs.length) + 6 = nI (8 * cs.length + 6) := qaddl _ 6
  rw [e6, qn (by omega), h2.2.2.2.2.2.2.1]
  refine ⟨vin8 hcs (by decide), hk.2 q m _ rfl _ J nc g r (h1.wa (by decide)) ⟨h2.w (Or.inr rfl), ?_, ?_, fun j cl hj => ?_⟩⟩
  · rw [uIn (by decide), List.length_append]; exact h3
  · rw [List.length_append]; show cs.length + 1 ≤ 12; omega
  · have hlen : (cs ++ [(kd, tm, o1, o2, o3)]).length = cs.length + 1 := List.length_append
    rw [uIe]
    rcases Nat.lt_or_ge j cs.length with y | y
    · rw [List.getElem?_append_left y] at hj
      exact (h0.2.2.2 j cl hj).cg (fun i hi => by rw [upn (by omega)]; exact h4 _ (by omega)) h5 h6
    · have hj2 : j = cs.length := by
        rcases Nat.lt_or_ge j (cs.length + 1) with c | c
        · omega
        · rw [List.getElem?_eq_none (by rw [hlen]; exact c)] at hj; cases hj
      subst hj2
      rw [List.getElem?_append_right (Nat.le_refl _), Nat.sub_self] at hj
      have hj : (kd, tm, o1, o2, o3) = cl := Option.some.inj hj
      subst hj
      exact ⟨b1, b2, b3, b4, b5, nc, ⟨by rw [upn (by omega)]; exact f0, by rw [upn (by omega)]; exact f7⟩, ⟨by rw [upn (by omega)]; exact f1, by rw [upn (by omega)]; exact f2, by rw [upn (by omega)]; exact f3, by rw [upn (by omega)]; exact f4, by rw [upn (by omega)]; exact f5, upe⟩, ⟨hb2, hb4, Nat.le_refl _⟩, c1, c2, c3⟩
theorem mo_220 (ht : MTp b z (I0 61) (I0 70)) (hn : 2000 < n) (hord : I0 61 20 = nI 1) (h76 : ∀ i, i < 12 → J0 76 i = w76.getD i 0) (h77 : ∀ i, i < 8 → J0 77 i = w77.getD i 0) {cs : List aC5} {q0 m0 nc0 q m nc b1 b2 b3 b4 kd tm : Nat} {g0 r0 g r : Nat → Nat} {o1 o2 : Option tV} {I : tHI} {J : tHJ} {R : Nat ⊕ (Nat × Nat × aC5)} (hcs : cs.length < 12) (h0 : MTo b z I0 J0 q0 m0 nc0 g0 r0 cs) (h : SIo b z I0 J0 g0 r0 nc0 cs.length I J q m nc g r) (f0 : I 87 (8 * cs.length) = nI kd) (f7 : I 87 (8 * cs.length + 7) = nI tm) (f1 : I 87 (8 * cs.length + 1) = nI b1) (f2 : I 87 (8 * cs.length + 2) = nI b2) (f3 : I 87 (8 * cs.length + 3) = nI b3) (f4 : I 87 (8 * cs.length + 4) = nI b4) (c1 : MOp lfO g r b1 b2 o1) (c2 : MOp lfO g r b3 b4 o2) (hb2 : b2 ≤ nc) (hb4 : b4 ≤ nc) (he : (match aIf b z 1 q m with
        | .inl x => .inl x
        | .inr (q4, m4, v4) => .inr (q4, m4, kd, tm, o1, o2, v4)) = R) (hk : MKq b z I0 J0 cs R k) : F12_readOrder_220 n S k I J (nI (8 * cs.length)) := by
  unfold F12_readOrder_220
  have e5 : nI (8 * cs.length) + 5 = nI (8 * cs.length + 5) := qaddl _ 5
  have i23 : I 61 23 = nI nc := h.2.1.2.2.2.2.2.2.1
  rw [e5, i23, qn (by omega)]
  refine ⟨vin8 hcs (by decide), ?_⟩
  have h' := h.w (v := nI nc) (show 8 * cs.length ≤ 8 * cs.length + 5 by omega)
  have xo : ∀ i, i ≠ 5 → (uI I 87 (8 * cs.length + 5) (nI nc)) 87 (8 * cs.length + i) = I 87 (8 * cs.length + i) := fun i hi => by rw [uIe, upn (by omega)]
  have x0 : (uI I 87 (8 * cs.length + 5) (nI nc)) 87 (8 * cs.length) = nI kd := by rw [uIe, upn (by omega)]; exact f0
  have x5 : (uI I 87 (8 * cs.length + 5) (nI nc)) 87 (8 * cs.length + 5) = nI nc := by rw [uIe, upe]
  have x7 := xo 7 (by decide)
  have x1 := xo 1 (by decide)
  have x2 := xo 2 (by decide)
  have x3 := xo 3 (by decide)
  have x4 := xo 4 (by decide)
  generalize (uI I 87 (8 * cs.length + 5) (nI nc)) = I1 at h' x0 x7 x1 x2 x3 x4 x5 ⊢
  have w3 := isW_if (S := S) h'.2.1.1
  unfold aIf at he
  refine ⟨fun y => absurd h'.2.1.2.2.1 y, fun _ => ⟨fun y => ?_, fun y => ?_⟩⟩
  · rw [if_neg (w3.mp y)] at he
    have he : (.inr (q, m, kd, tm, o1, o2, none) : Nat ⊕ (Nat × Nat × aC5)) = R := he
    subst he
    exact mo_end hcs h0 h' x0 (by rw [x7]; exact f7) (by rw [x1]; exact f1) (by rw [x2]; exact f2) (by rw [x3]; exact f3) (by rw [x4]; exact f4) x5 c1 c2 (o3 := none) rfl hb2 hb4 hk
  · have y : aX b z q 3 = some 0 := Classical.not_not.mp (fun g => y (w3.mpr g))
    rw [if_pos y] at he
    refine h'.next ht (by omega) (fun I2 J2 s2 e87 => ?_)
    refine s2.expr (wh := 0) ht hn hord (by omega) h76 h77 (Or.inr ⟨rfl, rfl⟩) (fun x hx I' J' a1 a2 a3 => ?_) (fun q' m' v hx I3 J3 g' r' nc' s3 f87 ll cc dd => ?_)
    · rw [hx] at he
      exact bo_258 hcs ⟨a1, a2, a3⟩ (hk.1 x he.symm)
    · rw [hx] at he
      have he : (.inr (q', m', kd, tm, o1, o2, some v) : Nat ⊕ (Nat × Nat × aC5)) = R := he
      subst he
      exact mo_end hcs h0 s3 (by rw [f87, e87]; exact x0) (by rw [f87, e87, x7]; exact f7) (by rw [f87, e87, x1]; exact f1) (by rw [f87, e87, x2]; exact f2) (by rw [f87, e87, x3]; exact f3) (by rw [f87, e87, x4]; exact f4) (by rw [f87, e87]; exact x5) (c1.cg fun i hi => cc i (by omega)) (c2.cg fun i hi => cc i (by omega)) dd (by omega) (by omega) hk
theorem mo_172 (ht : MTp b z (I0 61) (I0 70)) (hn : 2000 < n) (hord : I0 61 20 = nI 1) (h76 : ∀ i, i < 12 → J0 76 i = w76.getD i 0) (h77 : ∀ i, i < 8 → J0 77 i = w77.getD i 0) {cs : List aC5} {q0 m0 nc0 q m nc b1 b2 b3 b4 kd : Nat} {g0 r0 g r : Nat → Nat} {o1 o2 : Option tV} {I : tHI} {J : tHJ} {R : Nat ⊕ (Nat × Nat × aC5)} (hcs : cs.length < 12) (h0 : MTo b z I0 J0 q0 m0 nc0 g0 r0 cs) (h : SIo b z I0 J0 g0 r0 nc0 cs.length I J q m nc g r) (f0 : I 87 (8 * cs.length) = nI kd) (f1 : I 87 (8 * cs.length + 1) = nI b1) (f2 : I 87 (8 * cs.length + 2) = nI b2) (f3 : I 87 (8 * cs.length + 3) = nI b3) (f4 : I 87 (8 * cs.length + 4) = nI b4) (c1 : MOp lfO g r b1 b2 o1) (c2 : MOp lfO g r b3 b4 o2) (hb2 : b2 ≤ nc) (hb4 : b4 ≤ nc) (he : (match aTm b z 1 q with
      | .inl x => .inl x
      | .inr (q3, tm) => match aIf b z 1 q3 m with
        | .inl x => .inl x
        | .inr (q4, m4, v4) => .inr (q4, m4, kd, tm, o1, o2, v4)) = R) (hk : MKq b z I0 J0 cs R k) : F12_readOrder_172 n S k I J (nI (8 * cs.length)) := by
  unfold F12_readOrder_172
  have e7 : nI (8 * cs.length) + 7 = nI (8 * cs.length + 7) := qaddl _ 7
  rw [e7, qn (by omega)]
  refine ⟨vin8 hcs (by decide), ?_⟩
  have h' := h.w (v := nI 1) (show 8 * cs.length ≤ 8 * cs.length + 7 by omega)
  have xo : ∀ i, i ≠ 7 → (uI I 87 (8 * cs.length + 7) (nI 1)) 87 (8 * cs.length + i) = I 87 (8 * cs.length + i) := fun i hi => by rw [uIe, upn (by omega)]
  have x0 : (uI I 87 (8 * cs.length + 7) (nI 1)) 87 (8 * cs.length) = nI kd := by rw [uIe, upn (by omega)]; exact f0
  have x7 : (uI I 87 (8 * cs.length + 7) (nI 1)) 87 (8 * cs.length + 7) = nI 1 := by rw [uIe, upe]
  have x1 := (xo 1 (by decide)).trans f1
  have x2 := (xo 2 (by decide)).trans f2
  have x3 := (xo 3 (by decide)).trans f3
  have x4 := (xo 4 (by decide)).trans f4
  rw [show (1 : Int32) = nI 1 from rfl]
  generalize (uI I 87 (8 * cs.length + 7) (nI 1)) = I1 at h' x0 x7 x1 x2 x3 x4 ⊢
  have w2 := isW_times (S := S) h'.2.1.1
  unfold aTm at he
  refine ⟨fun y => absurd h'.2.1.2.2.1 y, fun _ => ⟨fun y => ?_, fun y => ?_⟩⟩
  · rw [if_pos (Or.inr (w2.mp y))] at he
    exact mo_220 (tm := 1) ht hn hord h76 h77 hcs h0 h' x0 x7 x1 x2 x3 x4 c1 c2 hb2 hb4 he hk
  · have y : aX b z q 2 = some 0 := Classical.not_not.mp (fun g => y (w2.mpr g))
    rw [if_neg (fun g => by rcases g with g | g; exact absurd g (by decide); exact g y)] at he
    refine h'.next ht (by omega) (fun I2 J2 s2 e87 => ?_)
    refine e_num (lo := 1) (hi := 20) (ht.ft s2.1) (by omega) s2.2.1 (by decide +kernel) (by decide +kernel) (by decide) (fun c I3 J3 a3 g3 => ⟨vin8 hcs (by decide), ?_⟩) (fun c v I3 a1 a2 a3 => ⟨vin8 hcs (by decide), ?_⟩)
    · rw [if_pos c] at he
      have hm3 : I3 87 = I2 87 := a3.1 87 (by decide)
      have s3 : SIo b z I0 J0 g0 r0 nc0 cs.length I3 J3 (aE b z (aE b z q)) m nc g r := by
        obtain ⟨p1, p2, p3, p4, p5, p6⟩ := s2
        exact ⟨p1.ad a3, g3, by rw [a3.2.1 21 (by decide)]; exact p3, fun i hi => by rw [hm3]; exact p4 i hi, p5, p6⟩
      have s4 := s3.w (v := nI (aN b z (aE b z q))) (show 8 * cs.length ≤ 8 * cs.length + 7 by omega)
      have yo : ∀ i, i ≠ 7 → (uI I3 87 (8 * cs.length + 7) (nI (aN b z (aE b z q)))) 87 (8 * cs.length + i) = I1 87 (8 * cs.length + i) := fun i hi => by rw [uIe, upn (by omega), hm3, e87]
      exact mo_220 (tm := aN b z (aE b z q)) ht hn hord h76 h77 hcs h0 s4 (by rw [uIe, upn (by omega), hm3, e87]; exact x0) (by rw [uIe, upe]) ((yo 1 (by decide)).trans x1) ((yo 2 (by decide)).trans x2) ((yo 3 (by decide)).trans x3) ((yo 4 (by decide)).trans x4) c1 c2 hb2 hb4 he hk
    · rw [if_neg c] at he
      have hb : BO I0 I3 J0 J2 (aF b z (aE b z q)) := ⟨s2.1.fr a1, a2, a3⟩
      exact bo_220 hcs hb.w (hk.1 _ he.symm)
theorem mo_126 (ht : MTp b z (I0 61) (I0 70)) (hn : 2000 < n) (hord : I0 61 20 = nI 1) (h76 : ∀ i, i < 12 → J0 76 i = w76.getD i 0) (h77 : ∀ i, i < 8 → J0 77 i = w77.getD i 0) {cs : List aC5} {q0 m0 nc0 q m nc b1 b2 kd : Nat} {g0 r0 g r : Nat → Nat} {o1 : Option tV} {I : tHI} {J : tHJ} {R : Nat ⊕ (Nat × Nat × aC5)} (hkd : kd ≤ 5) (hcs : cs.length < 12) (h0 : MTo b z I0 J0 q0 m0 nc0 g0 r0 cs) (h : SIo b z I0 J0 g0 r0 nc0 cs.length I J q m nc g r) (f0 : I 87 (8 * cs.length) = nI kd) (f1 : I 87 (8 * cs.length + 1) = nI b1) (f2 : I 87 (8 * cs.length + 2) = nI b2) (f3 : I 87 (8 * cs.length + 3) = nI 0) (f4 : I 87 (8 * cs.length + 4) = nI 0) (c1 : MOp lfO g r b1 b2 o1) (hb2 : b2 ≤ nc) (he : (match aS2 b z 1 kd q m with
    | .inl x => .inl x
    | .inr (q2, m2, v2) => match aTm b z 1 q2 with
      | .inl x => .inl x
      | .inr (q3, tm) => match aIf b z 1 q3 m2 with
        | .inl x => .inl x
        | .inr (q4, m4, v4) => .inr (q4, m4, kd, tm, o1, v2, v4)) = R) (hk : MKq b z I0 J0 cs R k) : F12_readOrder_126 n S k I J (nI kd) (nI (8 * cs.length)) := by
  have ek : ∀ j : Nat, j < 100 → (nI kd = nI j ↔ kd = j) := fun j hj => qeq (by omega) (by omega)
  have h136 : kd = 3 ∨ kd = 4 → F12_readOrder_136 n S k I J (nI kd) (nI (8 * cs.length)) := by
    intro hc
    unfold F12_readOrder_136
    unfold aS2 at he
    rw [if_neg (fun g => by rcases g with g | g; exact absurd g (by decide); exact g hc)] at he
    have hword : V12_isWord S I J (if nI kd = 3 then (52 : Int64) else 89) = 0 ↔ ¬ aX b z q (if kd = 3 then 0 else 1) = some 0 := by
      by_cases c3 : kd = 3
      · rw [if_pos c3, if_pos (show nI kd = 3 by rw [c3]; rfl)]; exact isW_at h.2.1.1
      · rw [if_neg c3, if_neg (show ¬ nI kd = 3 from fun y => c3 ((ek 3 (by omega)).mp y))]; exact isW_by h.2.1.1
    refine ⟨fun y => absurd h.2.1.2.2.1 y, fun _ => ?_⟩
    by_cases hy : aX b z q (if kd = 3 then 0 else 1) = some 0
    · rw [if_pos hy] at he
      refine must_y (fun y => hword.mp y hy) h.2.1.2.2.1 (h.next ht (by omega) (fun I1 J1 s1 e87 => ?_))
      unfold F12_readOrder_165 F12_readSum
      have e3 : nI (8 * cs.length) + 3 = nI (8 * cs.length + 3) := qaddl _ 3
      have i23 : I1 61 23 = nI nc := s1.2.1.2.2.2.2.2.2.1
      rw [e3, i23, qn (by omega)]
      refine ⟨vin8 hcs (by decide), ?_⟩
      have s2 := s1.w (v := nI nc) (show 8 * cs.length ≤ 8 * cs.length + 3 by omega)
      have xo : ∀ i, i ≠ 3 → (uI I1 87 (8 * cs.length + 3) (nI nc)) 87 (8 * cs.length + i) = I 87 (8 * cs.length + i) := fun i hi => by rw [uIe, upn (by omega), e87]
      have x0 : (uI I1 87 (8 * cs.length + 3) (nI nc)) 87 (8 * cs.length) = nI kd := by rw [uIe, upn (by omega), e87]; exact f0
      have x3 : (uI I1 87 (8 * cs.length + 3) (nI nc)) 87 (8 * cs.length + 3) = nI nc := by rw [uIe, upe]
      have x1 := (xo 1 (by decide)).trans f1
      have x2 := (xo 2 (by decide)).trans f2
      generalize (uI I1 87 (8 * cs.length + 3) (nI nc)) = I2 at s2 x0 x1 x2 x3 ⊢
      refine ⟨fun y => absurd s2.2.1.2.2.1 y, fun _ => ?_⟩
      refine s2.expr (wh := 3) ht hn hord (by omega) h76 h77 (Or.inl ⟨rfl, rfl⟩) (fun x hx I' J' a1 a2 a3 => ?_) (fun q' m' v hx I3 J3 g' r' nc' s3 f87 ll cc dd => ?_)
      · rw [hx] at he
        exact bo_22 hcs (by decide) ⟨a1, a2, a3⟩ (fun I4 J4 h4 => bo_172 hcs h4 (hk.1 x he.symm))
      · rw [hx] at he
        unfold F12_readSum_22
        have e4 : nI (8 * cs.length + 3) + 1 = nI (8 * cs.length + 4) := qaddl _ 1
        have j23 : I3 61 23 = nI nc' := s3.2.1.2.2.2.2.2.2.1
        rw [e4, j23, qn (by omega)]
        refine ⟨vin8 hcs (by decide), ?_⟩
        have s4 := s3.w (v := nI nc') (show 8 * cs.length ≤ 8 * cs.length + 4 by omega)
        have yo : ∀ i, i ≠ 4 → (uI I3 87 (8 * cs.length + 4) (nI nc')) 87 (8 * cs.length + i) = I2 87 (8 * cs.length + i) := fun i hi => by rw [uIe, upn (by omega), f87]
        exact mo_172 (o2 := some v) ht hn hord h76 h77 hcs h0 s4 (by rw [uIe, upn (by omega), f87]; exact x0) ((yo 1 (by decide)).trans x1) ((yo 2 (by decide)).trans x2) ((yo 3 (by decide)).trans x3) (by rw [uIe, upe]) (c1.cg fun i hi => cc i (by omega)) dd (by omega) (Nat.le_refl _) he hk
    · rw [if_neg hy] at he
      have he : (.inl (aF b z q) : Nat ⊕ (Nat × Nat × aC5)) = R := he
      refine must_n (hword.mpr hy) h.2.1.2.2.1 ?_
      rw [h.2.1.1.1]
      refine bo_165 hcs ⟨(h.1.w61 (by decide)).w61 (by decide), ?_, ?_⟩ (hk.1 _ he.symm)
      · rw [uIe, upn (by decide), uIe, upe]; decide
      · rw [uIe, upe]
  unfold F12_readOrder_126
  refine ⟨fun y => h136 (Or.inl ((ek 3 (by omega)).mp y)), fun y3 => ⟨fun y4 => ?_, fun y => h136 (Or.inr ((ek 4 (by omega)).mp y))⟩⟩
  have et : aS2 b z 1 kd q m = .inr (q, m, none) := by
    unfold aS2
    rw [if_pos (Or.inr (fun g => by rcases g with g | g; exact y3 (by rw [g]; rfl); exact y4 (by rw [g]; rfl)))]
  rw [et] at he
  exact mo_172 (o2 := none) ht hn hord h76 h77 hcs h0 h f0 f1 f2 f3 f4 c1 rfl hb2 (Nat.zero_le _) he hk
theorem mo_86 (ht : MTp b z (I0 61) (I0 70)) (hn : 2000 < n) (hord : I0 61 20 = nI 1) (h76 : ∀ i, i < 12 → J0 76 i = w76.getD i 0) (h77 : ∀ i, i < 8 → J0 77 i = w77.getD i 0) {cs : List aC5} {q0 m0 nc0 q m kd : Nat} {g0 r0 : Nat → Nat} {J : tHJ} (hkd : kd ≤ 5) (hcs : cs.length < 12) (h0 : MTo b z I0 J0 q0 m0 nc0 g0 r0 cs) (hk : MKq b z I0 J0 cs (aBd b z 1 kd q m) k) : ∀ (d f i : Nat) (I : tHI), i + d = 8 → d < f → SIo b z I0 J0 g0 r0 nc0 cs.length I J q m nc0 g0 r0 → (∀ t, t < i → I 87 (8 * cs.length + t) = 0) → F12_readOrder_L86 n S k f I J (nI kd) (nI (8 * cs.length)) (nI i) := by
  intro d
  induction d with
  | zero =>
    intro f i I hi hf h hz0
    obtain ⟨f, rfl⟩ : ∃ g, f = g + 1 := ⟨f - 1, by omega⟩
    have hi : i = 8 := hi
    subst hi
    show F12_readOrder_86 n S k (F12_readOrder_L86 n S k f) I J (nI kd) (nI (8 * cs.length)) (nI 8)
    unfold F12_readOrder_86
    refine ⟨fun _ => ?_, fun y => absurd (show (8 : Int32) ≤ nI 8 by decide) y⟩
    rw [qn (by omega)]
    have v0 : vp_in (nI (8 * cs.length)) 96 := (qin (by omega)).mpr (by omega)
    refine ⟨v0, ?_⟩
    have s1 := h.w (v := nI kd) (show 8 * cs.length ≤ 8 * cs.length by omega)
    have x0 : (uI I 87 (8 * cs.length) (nI kd)) 87 (8 * cs.length) = nI kd := by rw [uIe, upe]
    have xo : ∀ i, 1 ≤ i → i < 8 → (uI I 87 (8 * cs.length) (nI kd)) 87 (8 * cs.length + i) = nI 0 := fun i h1 h2 => by rw [uIe, upn (by omega)]; exact hz0 i h2
    have x1 := xo 1 (by decide) (by decide)
    have x2 := xo 2 (by decide) (by decide)
    have x3 := xo 3 (by decide) (by decide)
    have x4 := xo 4 (by decide) (by decide)
    generalize (uI I 87 (8 * cs.length) (nI kd)) = I1 at s1 x0 x1 x2 x3 x4 ⊢
    unfold aBd at hk
    refine ⟨fun y => ?_, fun y => ?_⟩
    · have k5 : kd = 5 := (qeq (b := 5) (by omega) (by omega)).mp y
      have et : aS1 b z 1 kd q m = .inr (q, m, none) := by unfold aS1; rw [if_pos k5]
      rw [et] at hk
      exact mo_126 (o1 := none) ht hn hord h76 h77 hkd hcs h0 s1 x0 x1 x2 x3 x4 rfl (Nat.zero_le _) rfl hk
    · have k5 : ¬ kd = 5 := fun e => y (by rw [e]; rfl)
      have et : aS1 b z 1 kd q m = (match aP b z 1 60 3 0 q m with
        | .inl x => .inl x
        | .inr (q', m', v) => .inr (q', m', some v)) := by unfold aS1; rw [if_neg k5]; rfl
      rw [et] at hk
      unfold F12_readSum
      have e1 : nI (8 * cs.length) + 1 = nI (8 * cs.length + 1) := qaddl _ 1
      have i23 : I1 61 23 = nI nc0 := s1.2.1.2.2.2.2.2.2.1
      rw [e1, i23, qn (by omega)]
      refine ⟨vin8 hcs (by decide), ?_⟩
      have s2 := s1.w (v := nI nc0) (show 8 * cs.length ≤ 8 * cs.length + 1 by omega)
      have y0 : (uI I1 87 (8 * cs.length + 1) (nI nc0)) 87 (8 * cs.length) = nI kd := by rw [uIe, upn (by omega)]; exact x0
      have y1 : (uI I1 87 (8 * cs.length + 1) (nI nc0)) 87 (8 * cs.length + 1) = nI nc0 := by rw [uIe, upe]
      have y3 : (uI I1 87 (8 * cs.length + 1) (nI nc0)) 87 (8 * cs.length + 3) = nI 0 := by rw [uIe, upn (by omega)]; exact x3
      have y4 : (uI I1 87 (8 * cs.length + 1) (nI nc0)) 87 (8 * cs.length + 4) = nI 0 := by rw [uIe, upn (by omega)]; exact x4
      generalize (uI I1 87 (8 * cs.length + 1) (nI nc0)) = I2 at s2 y0 y1 y3 y4 ⊢
      refine ⟨fun y => absurd s2.2.1.2.2.1 y, fun _ => ?_⟩
      refine s2.expr (wh := 3) ht hn hord (by omega) h76 h77 (Or.inl ⟨rfl, rfl⟩) (fun x hx I' J' a1 a2 a3 => ?_) (fun q' m' v hx I3 J3 g' r' nc' s3 f87 ll cc dd => ?_)
      · rw [hx] at hk
        exact bo_22 hcs (by decide) ⟨a1, a2, a3⟩ (fun I4 J4 h4 => bo_126 hcs h4 (hk.1 x rfl))
      · rw [hx] at hk
        unfold F12_readSum_22
        have e2 : nI (8 * cs.length + 1) + 1 = nI (8 * cs.length + 2) := qaddl _ 1
        have j23 : I3 61 23 = nI nc' := s3.2.1.2.2.2.2.2.2.1
        rw [e2, j23, qn (by omega)]
        refine ⟨vin8 hcs (by decide), ?_⟩
        have s4 := s3.w (v := nI nc') (show 8 * cs.length ≤ 8 * cs.length + 2 by omega)
        have yo : ∀ i, i ≠ 2 → (uI I3 87 (8 * cs.length + 2) (nI nc')) 87 (8 * cs.length + i) = I2 87 (8 * cs.length + i) := fun i hi => by rw [uIe, upn (by omega), f87]
        exact mo_126 (o1 := some v) ht hn hord h76 h77 hkd hcs h0 s4 (by rw [uIe, upn (by omega), f87]; exact y0) ((yo 1 (by decide)).trans y1) (by rw [uIe, upe]) ((yo 3 (by decide)).trans y3) ((yo 4 (by decide)).trans y4) dd (Nat.le_refl _) rfl hk
  | succ d ih =>
    intro f i I hi hf h hz0
    obtain ⟨f, rfl⟩ : ∃ g, f = g + 1 := ⟨f - 1, by omega⟩
    show F12_readOrder_86 n S k (F12_readOrder_L86 n S k f) I J (nI kd) (nI (8 * cs.length)) (nI i)
    unfold F12_readOrder_86
    refine ⟨fun y => absurd ((qle (a := 8) (by omega) (by omega)).mp y) (by omega), fun _ => ?_⟩
    rw [nI_add, qn (by omega), nI_1]
    refine ⟨(qin (by omega)).mpr (by omega), ih f (i + 1) _ (by omega) (by omega) (h.w (by omega)) (fun t htt => ?_)⟩
    rw [uIe]
    by_cases e : t = i
    · rw [e, upe]
    · rw [upn (by omega)]; exact hz0 t (by omega)
theorem mo_heads {q : Nat} (ht : MTp b z (I0 61) (I0 70)) (hn : 2000 < n) (h86 : ∀ i, i < 6 → J0 86 i = w86.getD i 0) (hm : MT b z (I0 61) (J0 61 17) q) (hk : ∀ o, o = aX b z q 9 → F12_must n S I0 J0 (if wV o = (-1) then 0 else (if 12 ≤ (I0 61 21) then (0 : Int32) else 1)) (fun I6 J7 => (((I6 61 19) = 0 → F12_readOrder_L86 n S k n (uI I6 61 21 ((I6 61 21) + 1)) J7 (wV o) (8 * (I6 61 21)) 0) ∧ (¬ (I6 61 19) = 0 → k I6 J7)))) : ∀ (d f i : Nat) (v : Int32), i + d = 6 → d < f → pV2 v 0 (if aK b z q = 1 then ixW (aTx b z q) ((WL 9).drop i) i else none) = wV (aX b z q 9) → F12_readOrder_L4 n S k f I0 J0 v (nI i) := by
  intro d
  induction d with
  | zero =>
    intro f i v hi hf e
    obtain ⟨f, rfl⟩ : ∃ g, f = g + 1 := ⟨f - 1, by omega⟩
    have hi : i = 6 := hi
    subst hi
    have e2 : (if aK b z q = 1 then ixW (aTx b z q) ((WL 9).drop 6) 6 else none) = none := by
      split <;> rfl
    rw [e2] at e
    have e : v = wV (aX b z q 9) := e
    subst e
    show F12_readOrder_4 n S k (F12_readOrder_L4 n S k f) I0 J0 _ (nI 6)
    unfold F12_readOrder_4
    exact ⟨fun _ => hk _ rfl, fun y => absurd (show (6 : Int32) ≤ nI 6 by decide) y⟩
  | succ d ih =>
    intro f i v hi hf e
    obtain ⟨f, rfl⟩ : ∃ g, f = g + 1 := ⟨f - 1, by omega⟩
    show F12_readOrder_4 n S k (F12_readOrder_L4 n S k f) I0 J0 v (nI i)
    unfold F12_readOrder_4
    refine ⟨fun y => absurd ((qle (a := 6) (by omega) (by omega)).mp y) (by omega), fun _ => ⟨(qin (by omega)).mpr (by omega), ?_⟩⟩
    rw [qn (by omega), h86 i (by omega), nI_1]
    refine ih f (i + 1) _ (by omega) (by omega) ?_
    have := row_st (S := S) hm hsh86 (i := i) (show i < (WL 9).length by show i < 6; omega) v 0 (pV2 v 0) rfl (fun _ => rfl)
    rw [← e, ← this]
    rfl
/-- an order by the model -/
theorem sp_morder (ht : MTp b z (I0 61) (I0 70)) (hn : 2000 < n) (hord : I0 61 20 = nI 1) (h76 : ∀ i, i < 12 → J0 76 i = w76.getD i 0) (h77 : ∀ i, i < 8 → J0 77 i = w77.getD i 0) (h86 : ∀ i, i < 6 → J0 86 i = w86.getD i 0) {cs : List aC5} {q0 m0 nc0 : Nat} {g0 r0 : Nat → Nat} (h0 : MTo b z I0 J0 q0 m0 nc0 g0 r0 cs) (hfull : cs.length = 12 → ∀ I' J', BO I0 I' J0 J' (aF b z q0) → k I' J') (hk : cs.length < 12 → MKq b z I0 J0 cs (aCl b z 1 q0 m0) k) : F12_readOrder n S I0 J0 k := by
  have hz := ht.1
  obtain ⟨hE, h21, h12, hR⟩ := id h0
  have xb := aX_b (b := b) (z := z) (q := q0) (i1 := 9) (by decide)
  unfold F12_readOrder
  refine mo_heads (q := q0) ht hn h86 hE.1 (fun o eo => ?_) 6 n 0 _ rfl (by omega) ?_
  · have wn : wV o = -1 ↔ o = none := by rw [eo]; exact wVn (aX_100 (by decide))
    have e12 : (12 : Int32) ≤ I0 61 21 ↔ 12 ≤ cs.length := by rw [h21]; exact qle (a := 12) (by omega) (by omega)
    have bad : (if wV o = (-1) then 0 else (if 12 ≤ (I0 61 21) then (0 : Int32) else 1)) = 0 → (∀ I' J', BO I0 I' J0 J' (aF b z q0) → k I' J') → F12_must n S I0 J0 (if wV o = (-1) then 0 else (if 12 ≤ (I0 61 21) then (0 : Int32) else 1)) (fun I6 J7 => (((I6 61 19) = 0 → F12_readOrder_L86 n S k n (uI I6 61 21 ((I6 61 21) + 1)) J7 (wV o) (8 * (I6 61 21)) 0) ∧ (¬ (I6 61 19) = 0 → k I6 J7))) := by
      intro e hb
      refine must_n e hE.2.2.1 ?_
      rw [hE.1.1]
      have b19 : ¬ (uI (uI I0 61 19 1) 61 18 (nI (aF b z q0))) 61 19 = 0 := by rw [uIe, upn (by decide), uIe, upe]; decide
      exact ⟨fun y => absurd y b19, fun _ => hb _ J0 ⟨((MFt.rf I0 J0).w61 (by decide)).w61 (by decide), b19, by rw [uIe, upe]⟩⟩
    by_cases hc : cs.length = 12
    · refine bad ?_ (hfull hc)
      rw [if_pos (e12.mpr (by omega))]
      split <;> rfl
    · have hc : cs.length < 12 := by omega
      have hk := hk hc
      unfold aCl at hk
      have ea : aHd b z 1 q0 = o := by rw [eo]; rfl
      rw [ea] at hk
      cases ho : o with
      | none =>
        rw [ho] at hk bad
        exact bad (if_pos rfl) (hk.1 _ rfl)
      | some kd =>
        rw [ho] at hk wn
        have hkd := xb kd (by rw [← eo]; exact ho)
        have hkd : kd < 6 := hkd
        have hk : MKq b z I0 J0 cs (aBd b z 1 kd (aE b z q0) m0) k := hk
        rw [if_neg (fun y => by have := wn.mp y; cases this), if_neg (fun y => by have := e12.mp y; omega)]
        refine must_y (by decide) hE.2.2.1 (hE.next ht (by omega) (fun I1 J1 a1 e1 => ?_))
        refine ⟨fun _ => ?_, fun y => absurd e1.2.2.1 y⟩
        have i21 : I1 61 21 = nI cs.length := by rw [a1.2.1 21 (by decide)]; exact h21
        rw [i21, show 8 * nI cs.length = nI (8 * cs.length) from qmulr _ 8, nI_1]
        have s1 : SIo b z I0 J0 g0 r0 nc0 cs.length (uI I1 61 21 (nI (cs.length + 1))) J1 (aE b z q0) m0 nc0 g0 r0 := ⟨((MFt.rf I0 J0).ad a1).w61 (by decide), e1.w21, by rw [uIe, upe], fun i _ => by rw [uIn (by decide), a1.1 87 (by decide)], fun _ _ => ⟨rfl, rfl⟩, Nat.le_refl _⟩
        exact mo_86 (J := J1) ht hn hord h76 h77 (by omega) hc h0 hk 8 n 0 _ rfl (by omega) s1 (fun t ht => by omega)
  · show pV2 (-1) 0 (aX b z q0 9) = _
    cases aX b z q0 9 with
    | none => rfl
    | some j => rfl
end EW
