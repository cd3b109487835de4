/-! the class reads clauses and texts -/
def CFt (I I' : tHI) : Prop := (∀ x, x ∉ [40, 41, 42, 43, 44, 45] → I' x = I x) ∧ I' 40 3 = I 40 3
theorem CFt.rf (I : tHI) : CFt I I := ⟨fun _ _ => rfl, rfl⟩
theorem CFt.trans {I X Y : tHI} (h : CFt I X) (g : CFt X Y) : CFt I Y := ⟨fun x hx => (g.1 x hx).trans (h.1 x hx), g.2.trans h.2⟩
theorem CFt.cf {I X Y : tHI} (h : CFt I X) (g : CF X Y) : CFt I Y := h.trans ⟨fun x hx => g.1 x (fun e => hx (by rw [e]; decide)) (fun e => hx (by rw [e]; decide)) (fun e => hx (by rw [e]; decide)), g.2.1⟩
theorem CFt.wa {I X : tHI} (h : CFt I X) {a y : Nat} {v : Int32} (ha : a ∈ [41, 42, 43, 44, 45]) : CFt I (uI X a y v) := by
  refine h.trans ⟨fun x hx => ?_, ?_⟩
  · have e : x ≠ a := fun e => hx (by rw [e]; exact List.mem_cons_of_mem _ ha)
    exact uIn e
  · have e : 40 ≠ a := fun e => by rw [← e] at ha; revert ha; decide
    rw [uIn e]
/-- a stretch that may be empty -/
def COp (nw : Nat) (f : Nat → Int32) (a c : Nat) (o : Option tV) : Prop := match o with
  | none => a = c
  | some v => ∃ h, h ≤ 50 ∧ CDe nw f a c h v
theorem COp.cg {nw a c : Nat} {f f' : Nat → Int32} {o : Option tV} (h : COp nw f a c o) (e : ∀ i, a ≤ i → i < c → f' i = f i) : COp nw f' a c o := by
  cases o with
  | none => exact h
  | some v => obtain ⟨x, h1, h2⟩ := h; exact ⟨x, h1, h2.cg e⟩
theorem COp.le {nw a c : Nat} {f : Nat → Int32} {o : Option tV} (h : COp nw f a c o) : a ≤ c := by
  cases o with
  | none => exact Nat.le_of_eq h
  | some v => obtain ⟨x, h1, h2⟩ := h; have := h2.lt; omega
def CRel (nw : Nat) (f42 f43 f44 f45 : Nat → Int32) (j top : Nat) (c : aC5) : Prop := ∃ a0 a1 a2 a3 : Nat, f43 j = nI c.1 ∧ f44 j = nI c.2.1 ∧ (f45 (3 * j) = nI a0 ∧ f45 (3 * j + 1) = nI a1 ∧ f45 (3 * j + 2) = nI a2 ∧ f45 (3 * j + 3) = nI a3) ∧ a3 ≤ top ∧ COp nw f42 a0 a1 c.2.2.1 ∧ COp nw f42 a1 a2 c.2.2.2.1 ∧ COp nw f42 a2 a3 c.2.2.2.2
theorem CRel.cg {nw j top top' : Nat} {f42 f43 f44 f45 g42 g43 g44 g45 : Nat → Int32} {c : aC5} (h : CRel nw f42 f43 f44 f45 j top c) (e42 : ∀ i, i < top → g42 i = f42 i) (e43 : g43 j = f43 j) (e44 : g44 j = f44 j) (e45 : ∀ i, i ≤ 3 * j + 3 → g45 i = f45 i) (ht : top ≤ top') : CRel nw g42 g43 g44 g45 j top' c := by
  obtain ⟨a0, a1, a2, a3, h1, h2, ⟨h3, h4, h5, h6⟩, h7, h8, h9, h10⟩ := h
  have l1 := h8.le; have l2 := h9.le; have l3 := h10.le
  exact ⟨a0, a1, a2, a3, by rw [e43]; exact h1, by rw [e44]; exact h2, ⟨by rw [e45 _ (by omega)]; exact h3, by rw [e45 _ (by omega)]; exact h4, by rw [e45 _ (by omega)]; exact h5, by rw [e45 _ (by omega)]; exact h6⟩, by omega, h8.cg fun i _ i2 => e42 i (by omega), h9.cg fun i _ i2 => e42 i (by omega), h10.cg fun i _ i2 => e42 i (by omega)⟩
def CWd (f : Nat → Int32) (len : Nat) : Prop := ∀ i, i < len → ∃ w, f i = nI w ∧ w < 13312
/-- what stands of the text so far -/
def CTS (b : Nat → Nat) (z nw : Nat) (I : tHI) (q m len : Nat) (cs : List aC5) : Prop := CG b z (I 40) (I 41) q m len ∧ I 41 4 = nI cs.length ∧ cs.length ≤ 12 ∧ CWd (I 42) len ∧ (∀ j c, cs[j]? = some c → CRel nw (I 42) (I 43) (I 44) (I 45) j len c) ∧ (cs ≠ [] → I 45 (3 * cs.length) = nI len)
/-- within a clause, c are done -/
def SIc (b : Nat → Nat) (z : Nat) (I0 : tHI) (len0 c : Nat) (I : tHI) (q m len : Nat) : Prop := CFt I0 I ∧ CG b z (I 40) (I 41) q m len ∧ I 41 4 = nI c ∧ (∀ i, i < len0 → I 42 i = I0 42 i) ∧ I 43 = I0 43 ∧ I 44 = I0 44 ∧ (∀ i, i < 3 * c → I 45 i = I0 45 i) ∧ len0 ≤ len ∧ CWd (I 42) len
def BYd (I0 I : tHI) (x : Nat) : Prop := CFt I0 I ∧ CX (I 40) (I 41) x ∧ ∃ c, c ≤ 12 ∧ I 41 4 = nI c
section ES
variable {n : Nat} {S : tSH} {J : tHJ} {b : Nat → Nat} {z ord : Nat} {I0 : tHI} {k : tHI → tHJ → Prop}
theorem SIc.adv {len0 c q m len : Nat} {I : tHI} (h2 : sQ S 40 2 = some 38) (ht : CTp b z (I0 38) (I0 39)) (hn : 1001 < n) (h : SIc b z I0 len0 c I q m len) (hk : ∀ I', SIc b z I0 len0 c I' (aE b z q) m len → I' 45 = I 45 → I' 42 = I 42 → k I' J) : F4_advance n S I J k := by
  obtain ⟨p1, p2, p3, p4, p5, p6, p7, p8, p9⟩ := h
  have htI : CTp b z (I 38) (I 39) := by rw [p1.1 38 (by decide), p1.1 39 (by decide)]; exact ht
  refine CG.adv h2 htI hn p2 (fun I' a g => hk I' ⟨p1.cf ((CF.rf I).adv a), g, by rw [a.1 41 (by decide)]; exact p3, by rw [a.1 42 (by decide)]; exact p4, by rw [a.1 43 (by decide)]; exact p5, by rw [a.1 44 (by decide)]; exact p6, by rw [a.1 45 (by decide)]; exact p7, p8, by rw [a.1 42 (by decide)]; exact p9⟩ (a.1 45 (by decide)) (a.1 42 (by decide)))
theorem SIc.fail {len0 c q m len : Nat} {I : tHI} (hz : z ≤ 400) (hc : c ≤ 12) (h : SIc b z I0 len0 c I q m len) (hk : ∀ I', BYd I0 I' (aF b z q) → k I' J) : F4_fail n S I J k := by
  obtain ⟨p1, p2, p3, -⟩ := h
  exact sp_fail p2 hz (fun I' d1 d2 => hk I' ⟨p1.cf d1, d2, c, hc, by rw [d1.2.2 4 (by decide)]; exact p3⟩)
theorem SIc.span {len0 c q m len v : Nat} {I : tHI} (h45 : sL S 45 = 37) (hc : c < 12) (hv : v < 4) (h : SIc b z I0 len0 c I q m len) (hk : ∀ I', SIc b z I0 len0 c I' q m len → I' 45 (3 * c + v) = nI len → (∀ i, i ≠ 3 * c + v → I' 45 i = I 45 i) → I' 42 = I 42 → k I' J) : F6_beginSpan n S I J 41 (nI v) k := by
  obtain ⟨p1, p2, p3, p4, p5, p6, p7, p8, p9⟩ := h
  have e : I 41 4 * 3 + nI v = nI (3 * c + v) := by rw [p3, show nI c * 3 = nI (c * 3) from qmul c 3, nI_add, Nat.mul_comm]
  unfold F6_beginSpan F6_beginSpan_32
  rw [e, h45, qn (by omega), p2.2.2.2.2.1]
  refine ⟨fun y => ?_, fun _ => ⟨fun y => ?_, fun _ => ⟨(qin (by omega)).mpr (by omega), ?_⟩⟩⟩
  · rw [Int32.lt_iff_toInt_lt, qi (by omega)] at y
    have e : (0 : Int32).toInt = 0 := rfl
    omega
  · have := (qle (a := 37) (by omega) (by omega)).mp y; omega
  · refine hk _ ⟨p1.wa (by decide), ?_, ?_, ?_, ?_, ?_, fun i hi => ?_, p8, ?_⟩ (by rw [uIe, upe]) (fun i hi => by rw [uIe, upn hi]) (uIn (by decide))
    · rw [uIn (by decide), uIn (by decide)]; exact p2
    · rw [uIn (by decide)]; exact p3
    · rw [uIn (by decide)]; exact p4
    · rw [uIn (by decide)]; exact p5
    · rw [uIn (by decide)]; exact p6
    · rw [uIe, upn (by omega)]; exact p7 i hi
    · rw [uIn (by decide)]; exact p9
theorem SIc.rd {len0 c q m len wh : Nat} {I : tHI} (h2 : sQ S 40 2 = some 38) (h42 : sL S 42 = 400) (hn : 1001 < n) (hz : z ≤ 400) (hord2 : ord ≤ 1) (ht : CTp b z (I0 38) (I0 39)) (hord : I0 40 3 = nI ord) (hc : c ≤ 12) (hw : wh ≤ 5) (h : SIc b z I0 len0 c I q m len) (hbad : ∀ x, aP b z ord 60 wh 0 q m = .inl x → ∀ I', BYd I0 I' x → k I' J) (hgd : ∀ q' m' v, aP b z ord 60 wh 0 q m = .inr (q', m', v) → ∀ I' len', SIc b z I0 len0 c I' q' m' len' → len ≤ len' → I' 45 = I 45 → (∀ i, i < len → I' 42 i = I 42 i) → COp (if ord = 0 then 12 else 24) (I' 42) len len' (some v) → k I' J) : F4_rec n S 60 wh I J (nI 0) k := by
  obtain ⟨p1, p2, p3, p4, p5, p6, p7, p8, p9⟩ := h
  have htI : CTp b z (I 38) (I 39) := by rw [p1.1 38 (by decide), p1.1 39 (by decide)]; exact ht
  refine sp_rd h2 h42 hn hz hord2 60 wh 0 q m len I k (by omega) hw (by omega) htI (by rw [p1.2]; exact hord) p2 (fun I' r => ?_)
  obtain ⟨f, r⟩ := r
  cases hx : aP b z ord 60 wh 0 q m with
  | inl x =>
    rw [hx] at r
    exact hbad x hx I' ⟨p1.cf f, r, c, hc, by rw [f.2.2 4 (by decide)]; exact p3⟩
  | inr p =>
    obtain ⟨q', m', v⟩ := p
    rw [hx] at r
    obtain ⟨len', r1, r2, r3, r4, r5⟩ := r
    have ok := aP_ok hz 60 wh 0 _ _ _ _ _ hw p2.2.2.2.2.2.2 hx
    have ll := r5.lt
    refine hgd q' m' v hx I' len' ⟨p1.cf f, r1, by rw [f.2.2 4 (by decide)]; exact p3, fun i hi => by rw [r3 i (by omega)]; exact p4 i hi, by rw [f.1 43 (by decide) (by decide) (by decide)]; exact p5, by rw [f.1 44 (by decide) (by decide) (by decide)]; exact p6, by rw [f.1 45 (by decide) (by decide) (by decide)]; exact p7, by omega, fun i hi => ?_⟩ (by omega) (f.1 45 (by decide) (by decide) (by decide)) r3 ⟨m' - m, by have := ok.2.2.2.1; omega, r5⟩
    by_cases e : i < len
    · rw [r3 i e]; exact p9 i e
    · obtain ⟨g, g1, -⟩ := r5
      exact ⟨g i, g1 i (by omega) hi⟩
-- the fault's way through the rest of a clause
theorem BYd.cf {I I' : tHI} {x : Nat} (h : BYd I0 I x) (d1 : CF I I') (d2 : CX (I' 40) (I' 41) x) : BYd I0 I' x := by
  obtain ⟨p1, p2, c, p3, p4⟩ := h
  exact ⟨p1.cf d1, d2, c, p3, by rw [d1.2.2 4 (by decide)]; exact p4⟩
theorem BYd.span {I : tHI} {x v : Nat} (h45 : sL S 45 = 37) (hv : v < 4) (h : BYd I0 I x) (hk : ∀ I', BYd I0 I' x → k I' J) : F6_beginSpan n S I J 41 (nI v) k := by
  obtain ⟨p1, p2, c, p3, p4⟩ := h
  have e : I 41 4 * 3 + nI v = nI (3 * c + v) := by rw [p4, show nI c * 3 = nI (c * 3) from qmul c 3, nI_add, Nat.mul_comm]
  unfold F6_beginSpan F6_beginSpan_32
  rw [e, h45, qn (by omega)]
  refine ⟨fun y => hk I ⟨p1, p2, c, p3, p4⟩, fun _ => ⟨fun y => hk I ⟨p1, p2, c, p3, p4⟩, fun y => ⟨(qin (by omega)).mpr ?_, ?_⟩⟩⟩
  · have : ¬ 37 ≤ 3 * c + v := fun g => y ((qle (a := 37) (by omega) (by omega)).mpr g)
    omega
  · refine hk _ ⟨p1.wa (by decide), ?_, c, p3, ?_⟩
    · rw [uIn (by decide), uIn (by decide)]; exact p2
    · rw [uIn (by decide)]; exact p4
theorem BYd.close {I : tHI} {x : Nat} {v1 v2 : Int32} (h43 : sL S 43 = 12) (h44 : sL S 44 = 12) (h45 : sL S 45 = 37) (h : BYd I0 I x) (hk : ∀ I', BYd I0 I' x → k I' J) : F6_close n S I J 41 v1 v2 k := by
  obtain ⟨p1, p2, c, p3, p4⟩ := id h
  unfold F6_close F6_close_47
  have e4 : (uI I 43 (I 41 4).toNatClampNeg v1) 41 4 = nI c := by rw [uIn (by decide)]; exact p4
  rw [h43, h44, e4, p4, qn (by omega)]
  refine ⟨fun _ => hk I h, fun y => ?_⟩
  have y : c < 12 := by
    rcases Nat.lt_or_ge c 12 with g | g
    · exact g
    · exact absurd ((qle (a := 12) (by omega) (by omega)).mpr g) y
  refine ⟨(qin (by omega)).mpr y, (qin (by omega)).mpr y, ?_⟩
  have e5 : (uI (uI I 43 c v1) 44 c v2) 41 4 = nI c := by rw [uIn (by decide), uIn (by decide)]; exact p4
  rw [e5, nI_1]
  refine BYd.span (v := 0) h45 (by decide) ⟨((p1.wa (by decide)).wa (by decide)).wa (by decide), ?_, c + 1, by omega, by rw [uIe, upe]⟩ hk
  obtain ⟨x1, x2, x3, l, x4, x5⟩ := p2
  refine ⟨?_, x2, ?_, l, x4, ?_⟩
  · rw [uIn (by decide), uIn (by decide), uIn (by decide)]; exact x1
  · rw [uIn (by decide), uIn (by decide), uIn (by decide)]; exact x3
  · rw [uIe, upn (by decide), uIn (by decide), uIn (by decide)]; exact x5
theorem bad_146 {I : tHI} {x : Nat} {v1 v2 : Int32} (h43 : sL S 43 = 12) (h44 : sL S 44 = 12) (h45 : sL S 45 = 37) (h : BYd I0 I x) (hk : ∀ I', BYd I0 I' x → k I' J) : F4_readClause_146 n S k I J v1 v2 := by
  unfold F4_readClause_146 F4_readClause_164
  exact bad_word h.2.1.2.2.1 ⟨fun _ => h.close h43 h44 h45 hk, fun y => absurd y (by decide)⟩
theorem bad_108 {I : tHI} {x : Nat} {v1 : Int32} (h43 : sL S 43 = 12) (h44 : sL S 44 = 12) (h45 : sL S 45 = 37) (h : BYd I0 I x) (hk : ∀ I', BYd I0 I' x → k I' J) : F4_readClause_108 n S k I J v1 := by
  unfold F4_readClause_108
  refine BYd.span (v := 2) h45 (by decide) h (fun I1 h1 => ⟨fun _ => bad_146 h43 h44 h45 h1 hk, fun _ => bad_word h1.2.1.2.2.1 ⟨fun _ => bad_146 h43 h44 h45 h1 hk, fun y => absurd y (by decide)⟩⟩)
theorem bad_100 (hn : 1001 < n) {I : tHI} {x : Nat} {v1 : Int32} {s : Nat} (h43 : sL S 43 = 12) (h44 : sL S 44 = 12) (h45 : sL S 45 = 37) (h : BYd I0 I x) (hk : ∀ I', BYd I0 I' x → k I' J) : F4_readClause_100 n S k I J v1 s := by
  unfold F4_readClause_100 F4_expectWord F4_expectWord_19
  refine bad_word h.2.1.2.2.1 ⟨fun _ => bad_fail h.2.1 (fun I1 d1 d2 => ?_), fun y => absurd y (by decide)⟩
  exact bad_sum (f := 57) hn d2 (fun I2 e1 e2 => bad_108 h43 h44 h45 ((h.cf d1 d2).cf e1 e2) hk)
theorem bad_62 (hn : 1001 < n) {I : tHI} {x : Nat} {v1 : Int32} (h43 : sL S 43 = 12) (h44 : sL S 44 = 12) (h45 : sL S 45 = 37) (h : BYd I0 I x) (hk : ∀ I', BYd I0 I' x → k I' J) : F4_readClause_62 n S k I J v1 := by
  unfold F4_readClause_62
  refine BYd.span (v := 1) h45 (by decide) h (fun I1 h1 => ?_)
  have h87 : F4_readClause_87 n S k I1 J v1 := by
    unfold F4_readClause_87
    exact ⟨fun _ => bad_100 hn h43 h44 h45 h1 hk, fun _ => bad_100 hn h43 h44 h45 h1 hk⟩
  exact ⟨fun _ => bad_108 h43 h44 h45 h1 hk, fun _ => ⟨fun _ => h87, fun _ => ⟨fun _ => bad_108 h43 h44 h45 h1 hk, fun _ => h87⟩⟩⟩
end ES
