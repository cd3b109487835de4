/-! the class reads a clause; a text -/
section ET
variable {n : Nat} {S : tSH} {J : tHJ} {b : Nat → Nat} {z ord : Nat} {I0 : tHI} {k : tHI → tHJ → Prop} {cs : List aC5} {q0 m0 len0 : Nat} {R : Nat ⊕ (Nat × Nat × aC5)}
/-- what a clause comes to -/
def CKo (b : Nat → Nat) (z nw : Nat) (I0 : tHI) (cs : List aC5) (R : Nat ⊕ (Nat × Nat × aC5)) (k : tHI → tHJ → Prop) (J : tHJ) : Prop := (∀ x, R = .inl x → ∀ I', BYd I0 I' x → k I' J) ∧ ∀ q' m' cl, R = .inr (q', m', cl) → ∀ I' len', CFt I0 I' → CTS b z nw I' q' m' len' (cs ++ [cl]) → k I' J
theorem cl_close (h43 : sL S 43 = 12) (h44 : sL S 44 = 12) (h45 : sL S 45 = 37) (hcs : cs.length < 12) (h0 : CTS b z (if ord = 0 then 12 else 24) I0 q0 m0 len0 cs) {I : tHI} {q m len a1 a2 kd tm : Nat} {o1 o2 o3 : Option tV} (h : SIc b z I0 len0 cs.length I q m len) (f0 : I 45 (3 * cs.length) = nI len0) (f1 : I 45 (3 * cs.length + 1) = nI a1) (f2 : I 45 (3 * cs.length + 2) = nI a2) (c1 : COp (if ord = 0 then 12 else 24) (I 42) len0 a1 o1) (c2 : COp (if ord = 0 then 12 else 24) (I 42) a1 a2 o2) (c3 : COp (if ord = 0 then 12 else 24) (I 42) a2 len o3) (hk : CKo b z (if ord = 0 then 12 else 24) I0 cs (.inr (q, m, kd, tm, o1, o2, o3)) k J) : F6_close n S I J 41 (nI kd) (nI tm) (fun I23 J24 => k I23 J24) := by
  obtain ⟨p1, p2, p3, p4, p5, p6, p7, p8, p9⟩ := id h
  obtain ⟨t1, t2, t3, t4, t5, t6⟩ := h0
  unfold F6_close F6_close_47
  have e4 : (uI I 43 (I 41 4).toNatClampNeg (nI kd)) 41 4 = nI cs.length := by rw [uIn (by decide)]; exact p3
  rw [h43, h44, e4, p3, qn (by omega)]
  refine ⟨fun y => by have := (qle (a := 12) (by omega) (by omega)).mp y; omega, fun _ => ⟨(qin (by omega)).mpr hcs, (qin (by omega)).mpr hcs, ?_⟩⟩
  have e5 : (uI (uI I 43 cs.length (nI kd)) 44 cs.length (nI tm)) 41 4 = nI cs.length := by rw [uIn (by decide), uIn (by decide)]; exact p3
  rw [e5, nI_1]
  -- the next clause's first place
  unfold F6_beginSpan F6_beginSpan_32
  have e6 : (uI (uI (uI I 43 cs.length (nI kd)) 44 cs.length (nI tm)) 41 4 (nI (cs.length + 1))) 41 4 * 3 + 0 = nI (3 * (cs.length + 1)) := by
    rw [uIe, upe, show nI (cs.length + 1) * 3 = nI ((cs.length + 1) * 3) from qmul _ 3, show (0 : Int32) = nI 0 from rfl, nI_add]; congr 1; omega
  have e7 : (uI (uI (uI I 43 cs.length (nI kd)) 44 cs.length (nI tm)) 41 4 (nI (cs.length + 1))) 41 5 = nI len := by
    rw [uIe, upn (by decide), uIn (by decide), uIn (by decide)]; exact p2.2.2.2.2.1
  rw [e6, h45, qn (by omega), e7]
  refine ⟨fun y => ?_, fun _ => ⟨fun y => ?_, fun _ => ⟨(qin (by omega)).mpr (by omega), ?_⟩⟩⟩
  · rw [Int32.lt_iff_toInt_lt, qi (by omega)] at y
    have e : (0 : Int32).toInt = 0 := rfl
    omega
  · have := (qle (a := 37) (by omega) (by omega)).mp y; omega
  have x40 : (uI (uI (uI (uI I 43 cs.length (nI kd)) 44 cs.length (nI tm)) 41 4 (nI (cs.length + 1))) 45 (3 * (cs.length + 1)) (nI len)) 40 = I 40 := by rw [uIn (by decide), uIn (by decide), uIn (by decide), uIn (by decide)]
  have x42 : (uI (uI (uI (uI I 43 cs.length (nI kd)) 44 cs.length (nI tm)) 41 4 (nI (cs.length + 1))) 45 (3 * (cs.length + 1)) (nI len)) 42 = I 42 := by rw [uIn (by decide), uIn (by decide), uIn (by decide), uIn (by decide)]
  have x41 : (uI (uI (uI (uI I 43 cs.length (nI kd)) 44 cs.length (nI tm)) 41 4 (nI (cs.length + 1))) 45 (3 * (cs.length + 1)) (nI len)) 41 = up (I 41) 4 (nI (cs.length + 1)) := by rw [uIn (by decide), uIe, uIn (by decide), uIn (by decide)]
  have x43 : (uI (uI (uI (uI I 43 cs.length (nI kd)) 44 cs.length (nI tm)) 41 4 (nI (cs.length + 1))) 45 (3 * (cs.length + 1)) (nI len)) 43 = up (I 43) cs.length (nI kd) := by rw [uIn (by decide), uIn (by decide), uIn (by decide), uIe]
  have x44 : (uI (uI (uI (uI I 43 cs.length (nI kd)) 44 cs.length (nI tm)) 41 4 (nI (cs.length + 1))) 45 (3 * (cs.length + 1)) (nI len)) 44 = up (I 44) cs.length (nI tm) := by rw [uIn (by decide), uIn (by decide), uIe, uIn (by decide)]
  have x45 : (uI (uI (uI (uI I 43 cs.length (nI kd)) 44 cs.length (nI tm)) 41 4 (nI (cs.length + 1))) 45 (3 * (cs.length + 1)) (nI len)) 45 = up (I 45) (3 * (cs.length + 1)) (nI len) := by rw [uIe, uIn (by decide), uIn (by decide), uIn (by decide)]
  refine hk.2 q m _ rfl _ len ((((p1.wa (by decide)).wa (by decide)).wa (by decide)).wa (by decide)) ?_
  unfold CTS
  rw [x40, x41, x42, x43, x44, x45]
  have hlen : (cs ++ [(kd, tm, o1, o2, o3)]).length = cs.length + 1 := List.length_append
  rw [hlen]
  refine ⟨?_, upe, by omega, p9, fun j cl hj => ?_, fun _ => upe⟩
  · obtain ⟨y1, y2, y3, y4, y5, y6, y7⟩ := p2
    exact ⟨y1, y2, y3, y4, by rw [upn (by decide)]; exact y5, y6, y7⟩
  · rcases Nat.lt_or_ge j cs.length with g | g
    · rw [List.getElem?_append_left g] at hj
      refine (t5 j cl hj).cg p4 (by rw [upn (by omega), p5]) (by rw [upn (by omega), p6]) (fun i hi => ?_) p8
      rw [upn (by omega)]
      by_cases e : i < 3 * cs.length
      · exact p7 i e
      · rw [show i = 3 * cs.length by omega, f0]
        exact (t6 (fun e => by rw [e] at g; exact absurd g (Nat.not_lt_zero _))).symm
    · have hj2 : j = cs.length := by
        rcases Nat.lt_or_ge j (cs.length + 1) with c | c
        · omega
        · rw [List.getElem?_eq_none (by rw [hlen]; exact c)] at hj; cases hj
      subst hj2
      rw [List.getElem?_append_right (Nat.le_refl _), Nat.sub_self] at hj
      have hj : (kd, tm, o1, o2, o3) = cl := Option.some.inj hj
      subst hj
      exact ⟨len0, a1, a2, len, upe, upe, ⟨by rw [upn (by omega)]; exact f0, by rw [upn (by omega)]; exact f1, by rw [upn (by omega)]; exact f2, by rw [show 3 * cs.length + 3 = 3 * (cs.length + 1) by omega]; exact upe⟩, Nat.le_refl _, c1, c2, c3⟩
theorem cl_146 (h2 : sQ S 40 2 = some 38) (h42 : sL S 42 = 400) (h43 : sL S 43 = 12) (h44 : sL S 44 = 12) (h45 : sL S 45 = 37) (hn : 1001 < n) (hz : z ≤ 400) (hord2 : ord ≤ 1) (ht : CTp b z (I0 38) (I0 39)) (hord : I0 40 3 = nI ord) (hcs : cs.length < 12) (h0 : CTS b z (if ord = 0 then 12 else 24) I0 q0 m0 len0 cs) {I : tHI} {q m len a1 kd tm : Nat} {o1 o2 : Option tV} (h : SIc b z I0 len0 cs.length I q m len) (f0 : I 45 (3 * cs.length) = nI len0) (f1 : I 45 (3 * cs.length + 1) = nI a1) (f2 : I 45 (3 * cs.length + 2) = nI len) (c1 : COp (if ord = 0 then 12 else 24) (I 42) len0 a1 o1) (c2 : COp (if ord = 0 then 12 else 24) (I 42) a1 len o2) (he : (match aIf b z ord q m with
        | .inl x => .inl x
        | .inr (q4, m4, v4) => .inr (q4, m4, kd, tm, o1, o2, v4)) = R) (hk : CKo b z (if ord = 0 then 12 else 24) I0 cs R k J) : F4_readClause_146 n S k I J (nI kd) (nI tm) := by
  unfold F4_readClause_146 F4_readClause_164
  have htI : CTp b z (I 38) (I 39) := by rw [h.1.1 38 (by decide), h.1.1 39 (by decide)]; exact ht
  refine sp_word h2 htI h.2.1.1 h.2.1.2.2.2.2.2.2 hn (by decide) ?_
  have e0 : wV (aX b z q 3) = 0 ↔ aX b z q 3 = some 0 := wV0 (aX_100 (by decide)) 0 (by decide)
  unfold aIf at he
  refine ⟨fun y => ?_, fun y => ?_⟩
  · rw [if_neg (fun g => y (e0.mpr g))] at he
    have he : (.inr (q, m, kd, tm, o1, o2, none) : Nat ⊕ (Nat × Nat × aC5)) = R := he
    subst he
    exact cl_close h43 h44 h45 hcs h0 h f0 f1 f2 c1 c2 (o3 := none) rfl hk
  · rw [if_pos (e0.mp y)] at he
    have l1 := c1.le
    have l2 := c2.le
    refine h.adv h2 ht hn (fun I1 s1 e45 e42 => ?_)
    refine s1.rd (wh := 0) h2 h42 hn hz hord2 ht hord (by omega) (by decide) (fun x hx I' hb => ?_) (fun q' m' v hx I2 len' s2 ll f45 f42 co => ?_)
    · rw [hx] at he
      exact hb.close h43 h44 h45 (hk.1 x he.symm)
    · rw [hx] at he
      have he : (.inr (q', m', kd, tm, o1, o2, some v) : Nat ⊕ (Nat × Nat × aC5)) = R := he
      subst he
      exact cl_close h43 h44 h45 hcs h0 s2 (by rw [f45, e45]; exact f0) (by rw [f45, e45]; exact f1) (by rw [f45, e45]; exact f2) (c1.cg fun i _ i2 => by rw [f42 i (by omega), e42]) (c2.cg fun i _ i2 => by rw [f42 i i2, e42]) co hk
theorem cl_108 (h2 : sQ S 40 2 = some 38) (h42 : sL S 42 = 400) (h43 : sL S 43 = 12) (h44 : sL S 44 = 12) (h45 : sL S 45 = 37) (hn : 1001 < n) (hz : z ≤ 400) (hord2 : ord ≤ 1) (ht : CTp b z (I0 38) (I0 39)) (hord : I0 40 3 = nI ord) (hcs : cs.length < 12) (h0 : CTS b z (if ord = 0 then 12 else 24) I0 q0 m0 len0 cs) {I : tHI} {q m len a1 kd : Nat} {o1 o2 : Option tV} (h : SIc b z I0 len0 cs.length I q m len) (f0 : I 45 (3 * cs.length) = nI len0) (f1 : I 45 (3 * cs.length + 1) = nI a1) (c1 : COp (if ord = 0 then 12 else 24) (I 42) len0 a1 o1) (c2 : COp (if ord = 0 then 12 else 24) (I 42) a1 len o2) (he : (match aTm b z ord q with
      | .inl x => .inl x
      | .inr (q3, tm) => match aIf b z ord q3 m with
        | .inl x => .inl x
        | .inr (q4, m4, v4) => .inr (q4, m4, kd, tm, o1, o2, v4)) = R) (hk : CKo b z (if ord = 0 then 12 else 24) I0 cs R k J) : F4_readClause_108 n S k I J (nI kd) := by
  unfold F4_readClause_108
  refine h.span (v := 2) h45 hcs (by decide) (fun I1 s1 e1 eo e42 => ?_)
  have g0 : I1 45 (3 * cs.length) = nI len0 := by rw [eo _ (by omega)]; exact f0
  have g1 : I1 45 (3 * cs.length + 1) = nI a1 := by rw [eo _ (by omega)]; exact f1
  have d1 : COp (if ord = 0 then 12 else 24) (I1 42) len0 a1 o1 := by rw [e42]; exact c1
  have d2 : COp (if ord = 0 then 12 else 24) (I1 42) a1 len o2 := by rw [e42]; exact c2
  have ht1 : CTp b z (I1 38) (I1 39) := by rw [s1.1.1 38 (by decide), s1.1.1 39 (by decide)]; exact ht
  have e3 : I1 40 3 = nI ord := by rw [s1.1.2]; exact hord
  rw [e3]
  have n1 : (1 : Int32) = nI 1 := rfl
  refine ⟨fun y => ?_, fun y => ?_⟩
  · have o0 : ord = 0 := (qeq (b := 0) (by omega) (by omega)).mp y
    have et : aTm b z ord q = .inr (q, 1) := by unfold aTm; rw [if_pos (Or.inl o0)]
    rw [et] at he
    exact cl_146 (tm := 1) h2 h42 h43 h44 h45 hn hz hord2 ht hord hcs h0 s1 g0 g1 e1 d1 d2 he hk
  · have o0 : ¬ ord = 0 := fun e => y (by rw [e]; rfl)
    refine sp_word h2 ht1 s1.2.1.1 s1.2.1.2.2.2.2.2.2 hn (by decide) ?_
    have e0 : wV (aX b z q 2) = 0 ↔ aX b z q 2 = some 0 := wV0 (aX_100 (by decide)) 0 (by decide)
    refine ⟨fun y => ?_, fun y => ?_⟩
    · have et : aTm b z ord q = .inr (q, 1) := by unfold aTm; rw [if_pos (Or.inr (fun g => y (e0.mpr g)))]
      rw [et] at he
      exact cl_146 (tm := 1) h2 h42 h43 h44 h45 hn hz hord2 ht hord hcs h0 s1 g0 g1 e1 d1 d2 he hk
    · have y := e0.mp y
      refine s1.adv h2 ht hn (fun I2 s2 e45 e42' => ?_)
      have ht2 : CTp b z (I2 38) (I2 39) := by rw [s2.1.1 38 (by decide), s2.1.1 39 (by decide)]; exact ht
      refine sp_num h2 ht2 hn s2.2.1 (lo := 1) (hi := 20) (by decide) (by decide) (fun c I3 a3 g3 => ?_) (fun c I3 x1 x2 => ?_)
      · have et : aTm b z ord q = .inr (aE b z (aE b z q), aN b z (aE b z q)) := by unfold aTm; rw [if_neg (fun g => by rcases g with g | g; exact o0 g; exact g y), if_pos c]
        rw [et] at he
        have e3' : I3 45 = I2 45 := a3.1 45 (by decide)
        have e32 : I3 42 = I2 42 := a3.1 42 (by decide)
        obtain ⟨p1, p2, p3, p4, p5, p6, p7, p8, p9⟩ := s2
        have s3 : SIc b z I0 len0 cs.length I3 (aE b z (aE b z q)) m len := ⟨p1.cf ((CF.rf I2).adv a3), g3, by rw [a3.1 41 (by decide)]; exact p3, by rw [e32]; exact p4, by rw [a3.1 43 (by decide)]; exact p5, by rw [a3.1 44 (by decide)]; exact p6, by rw [e3']; exact p7, p8, by rw [e32]; exact p9⟩
        exact cl_146 (tm := aN b z (aE b z q)) h2 h42 h43 h44 h45 hn hz hord2 ht hord hcs h0 s3 (by rw [e3', e45]; exact g0) (by rw [e3', e45]; exact g1) (by rw [e3', e45]; exact e1) (by rw [e32, e42']; exact d1) (by rw [e32, e42']; exact d2) he hk
      · have et : aTm b z ord q = .inl (aF b z (aE b z q)) := by unfold aTm; rw [if_neg (fun g => by rcases g with g | g; exact o0 g; exact g y), if_neg c]
        rw [et] at he
        have hb : BYd I0 I3 (aF b z (aE b z q)) := ⟨s2.1.cf x1, x2, cs.length, by omega, by rw [x1.2.2 4 (by decide)]; exact s2.2.2.1⟩
        exact bad_146 h43 h44 h45 hb (hk.1 _ he.symm)
theorem cl_62 (h2 : sQ S 40 2 = some 38) (h42 : sL S 42 = 400) (h43 : sL S 43 = 12) (h44 : sL S 44 = 12) (h45 : sL S 45 = 37) (hn : 1001 < n) (hz : z ≤ 400) (hord2 : ord ≤ 1) (ht : CTp b z (I0 38) (I0 39)) (hord : I0 40 3 = nI ord) (hcs : cs.length < 12) (h0 : CTS b z (if ord = 0 then 12 else 24) I0 q0 m0 len0 cs) {I : tHI} {q m len kd : Nat} {o1 : Option tV} (hkd : kd ≤ 5) (h : SIc b z I0 len0 cs.length I q m len) (f0 : I 45 (3 * cs.length) = nI len0) (c1 : COp (if ord = 0 then 12 else 24) (I 42) len0 len o1) (he : (match aS2 b z ord kd q m with
    | .inl x => .inl x
    | .inr (q2, m2, v2) => match aTm b z ord q2 with
      | .inl x => .inl x
      | .inr (q3, tm) => match aIf b z ord q3 m2 with
        | .inl x => .inl x
        | .inr (q4, m4, v4) => .inr (q4, m4, kd, tm, o1, v2, v4)) = R) (hk : CKo b z (if ord = 0 then 12 else 24) I0 cs R k J) : F4_readClause_62 n S k I J (nI kd) := by
  unfold F4_readClause_62
  refine h.span (v := 1) h45 hcs (by decide) (fun I1 s1 e1 eo e42 => ?_)
  have g0 : I1 45 (3 * cs.length) = nI len0 := by rw [eo _ (by omega)]; exact f0
  have d1 : COp (if ord = 0 then 12 else 24) (I1 42) len0 len o1 := by rw [e42]; exact c1
  have ht1 : CTp b z (I1 38) (I1 39) := by rw [s1.1.1 38 (by decide), s1.1.1 39 (by decide)]; exact ht
  have e3 : I1 40 3 = nI ord := by rw [s1.1.2]; exact hord
  rw [e3]
  have ek : ∀ j : Nat, j < 100 → (nI kd = nI j ↔ kd = j) := fun j hj => qeq (by omega) (by omega)
  have no2 : ord = 0 ∨ ¬ (kd = 3 ∨ kd = 4) → F4_readClause_108 n S k I1 J (nI kd) := by
    intro c
    have et : aS2 b z ord kd q m = .inr (q, m, none) := by unfold aS2; rw [if_pos c]
    rw [et] at he
    exact cl_108 (o2 := none) h2 h42 h43 h44 h45 hn hz hord2 ht hord hcs h0 s1 g0 e1 d1 rfl he hk
  have yes : ¬ ord = 0 → kd = 3 ∨ kd = 4 → ∀ s, s = (if kd = 3 then 0 else 1) → F4_readClause_100 n S k I1 J (nI kd) s := by
    intro o0 c s es
    have hs : s < 11 := by rw [es]; split <;> omega
    unfold F4_readClause_100 F4_expectWord F4_expectWord_19
    refine sp_word h2 ht1 s1.2.1.1 s1.2.1.2.2.2.2.2.2 hn hs ?_
    have e0 : wV (aX b z q s) = 0 ↔ aX b z q s = some 0 := wV0 (aX_100 hs) 0 (by decide)
    unfold aS2 at he
    rw [if_neg (fun g => by rcases g with g | g; exact o0 g; exact g c), ← es] at he
    refine ⟨fun y => ?_, fun y => ?_⟩
    · rw [if_neg (fun g => y (e0.mpr g))] at he
      have he : (.inl (aF b z q) : Nat ⊕ (Nat × Nat × aC5)) = R := he
      refine s1.fail hz (by omega) (fun I2 hb => ?_)
      exact bad_sum (f := 57) hn hb.2.1 (fun I3 x1 x2 => bad_108 h43 h44 h45 (hb.cf x1 x2) (hk.1 _ he.symm))
    · rw [if_pos (e0.mp y)] at he
      refine s1.adv h2 ht hn (fun I2 s2 e45 e42' => ?_)
      refine s2.rd (wh := 3) h2 h42 hn hz hord2 ht hord (by omega) (by decide) (fun x hx I' hb => ?_) (fun q' m' v hx I3 len' s3 ll f45 f42 co => ?_)
      · rw [hx] at he
        exact bad_108 h43 h44 h45 hb (hk.1 x he.symm)
      · rw [hx] at he
        have l1 := d1.le
        exact cl_108 (o2 := some v) h2 h42 h43 h44 h45 hn hz hord2 ht hord hcs h0 s3 (by rw [f45, e45]; exact g0) (by rw [f45, e45]; exact e1) (d1.cg fun i _ i2 => by rw [f42 i i2, e42']) co he hk
  have h87 : ¬ ord = 0 → kd = 3 ∨ kd = 4 → F4_readClause_87 n S k I1 J (nI kd) := by
    intro o0 c
    unfold F4_readClause_87
    refine ⟨fun y => yes o0 c 1 ?_, fun y => yes o0 c 0 ?_⟩
    · rw [if_neg (fun e => y (by rw [e]; rfl))]
    · rw [if_pos ((ek 3 (by omega)).mp y)]
  refine ⟨fun y => no2 (Or.inl ((qeq (b := 0) (by omega) (by omega)).mp y)), fun y => ?_⟩
  have o0 : ¬ ord = 0 := fun e => y (by rw [e]; rfl)
  exact ⟨fun y3 => h87 o0 (Or.inl ((ek 3 (by omega)).mp y3)), fun y3 => ⟨fun y4 => no2 (Or.inr (fun g => by rcases g with g | g; exact y3 (by rw [g]; rfl); exact y4 (by rw [g]; rfl))), fun y4 => h87 o0 (Or.inr ((ek 4 (by omega)).mp y4))⟩⟩
/-- a clause -/
theorem sp_clause (h2 : sQ S 40 2 = some 38) (h42 : sL S 42 = 400) (h43 : sL S 43 = 12) (h44 : sL S 44 = 12) (h45 : sL S 45 = 37) (hn : 1001 < n) (hz : z ≤ 400) (hord2 : ord ≤ 1) (ht : CTp b z (I0 38) (I0 39)) (hord : I0 40 3 = nI ord) (hcs : cs.length < 12) (h0 : CTS b z (if ord = 0 then 12 else 24) I0 q0 m0 len0 cs) (hk : CKo b z (if ord = 0 then 12 else 24) I0 cs (aCl b z ord q0 m0) k J) : F4_readClause n S I0 J k := by
  have hs : SIc b z I0 len0 cs.length I0 q0 m0 len0 := ⟨CFt.rf I0, h0.1, h0.2.1, fun _ _ => rfl, rfl, rfl, fun _ _ => rfl, Nat.le_refl _, h0.2.2.2.1⟩
  have key : ∀ s, s = (if ord = 0 then 10 else 9) → F4_readClause_15 n S k I0 J s := by
    intro s es
    have hs11 : s < 11 := by rw [es]; split <;> omega
    have hl6 : (WL s).length = 6 := by rw [es]; split <;> rfl
    unfold F4_readClause_15
    refine sp_word h2 ht h0.1.1 h0.1.2.2.2.2.2.2 hn hs11 ?_
    have xb := aX_b (b := b) (z := z) (q := q0) hs11
    have wn := wVn (aX_100 (b := b) (z := z) (q := q0) hs11)
    have ea : aCl b z ord q0 m0 = (match aX b z q0 s with
      | none => .inl (aF b z q0)
      | some kd => aBd b z ord kd (aE b z q0) m0) := by unfold aCl aHd; rw [es]; rfl
    rw [ea] at hk
    cases hx : aX b z q0 s with
    | none =>
      rw [hx] at hk
      exact ⟨fun y => absurd rfl y, fun _ => hs.fail hz (by omega) (hk.1 _ rfl)⟩
    | some kd =>
      rw [hx] at hk wn
      have hkd := xb kd hx
      rw [hl6] at hkd
      have ek : ∀ j : Nat, j < 100 → (nI kd = nI j ↔ kd = j) := fun j hj => qeq (by omega) (by omega)
      have hk : CKo b z (if ord = 0 then 12 else 24) I0 cs (aBd b z ord kd (aE b z q0) m0) k J := hk
      unfold aBd at hk
      show (¬ nI kd = -1 → _) ∧ (nI kd = -1 → _)
      refine ⟨fun _ => hs.adv h2 ht hn (fun I1 s1 e45 e42 => s1.span (v := 0) h45 hcs (by decide) (fun I2 s2 x1 xo x42 => ?_)), fun y => absurd (wn.mp y) (by intro h; cases h)⟩
      refine ⟨fun y => ?_, fun y => ?_⟩
      · have k5 : kd = 5 := (ek 5 (by omega)).mp y
        have et : aS1 b z ord kd (aE b z q0) m0 = .inr (aE b z q0, m0, none) := by unfold aS1; rw [if_pos k5]
        rw [et] at hk
        exact cl_62 (o1 := none) h2 h42 h43 h44 h45 hn hz hord2 ht hord hcs h0 (by omega) s2 x1 rfl rfl hk
      · have k5 : ¬ kd = 5 := fun e => y (by rw [e]; rfl)
        have et : aS1 b z ord kd (aE b z q0) m0 = (match aP b z ord 60 3 0 (aE b z q0) m0 with
          | .inl x => .inl x
          | .inr (q', m', v) => .inr (q', m', some v)) := by unfold aS1; rw [if_neg k5]; rfl
        rw [et] at hk
        refine s2.rd (wh := 3) h2 h42 hn hz hord2 ht hord (by omega) (by decide) (fun x hx I' hb => ?_) (fun q' m' v hx I3 len' s3 ll f45 f42 co => ?_)
        · rw [hx] at hk
          exact bad_62 hn h43 h44 h45 hb (hk.1 x rfl)
        · rw [hx] at hk
          exact cl_62 (o1 := some v) h2 h42 h43 h44 h45 hn hz hord2 ht hord hcs h0 (by omega) s3 (by rw [f45]; exact x1) co rfl hk
  unfold F4_readClause
  rw [hord]
  exact ⟨fun y => key 10 (by rw [if_pos ((qeq (b := 0) (by omega) (by omega)).mp y)]), fun y => key 9 (by rw [if_neg (fun e => y (by rw [e]; rfl))])⟩
end ET
