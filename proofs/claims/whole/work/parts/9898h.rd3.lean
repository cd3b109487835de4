/-! reading by the class, all pieces at once -/
section RD3
variable {n : Nat} {S : tSH} {J : tHJ} {b : Nat → Nat} {z ord : Nat}
theorem wV0 {o : Option Nat} (h : ∀ i, o = some i → i < 100) (j : Nat) (hj : j < 100) : wV o = nI j ↔ o = some j := by
  cases o with
  | none =>
    refine ⟨fun g => ?_, fun g => by cases g⟩
    have := congrArg Int32.toInt (show (-1 : Int32) = nI j from g)
    rw [qneg, qi (by omega)] at this
    omega
  | some i =>
    have := h i rfl
    show nI i = nI j ↔ _
    rw [qeq (by omega) (by omega)]
    exact ⟨fun g => by rw [g], fun g => Option.some.inj g⟩
theorem wVn {o : Option Nat} (h : ∀ i, o = some i → i < 100) : wV o = -1 ↔ o = none := by
  cases o with
  | none => exact ⟨fun _ => rfl, fun _ => rfl⟩
  | some i =>
    have := h i rfl
    refine ⟨fun g => ?_, fun g => by cases g⟩
    have := congrArg Int32.toInt (show nI i = (-1 : Int32) from g)
    rw [qneg, qi (by omega)] at this
    omega
theorem ixW_b (t : List Nat) : ∀ (ws : List (List Nat)) (i j : Nat), ixW t ws i = some j → i ≤ j ∧ j < i + ws.length := by
  intro ws
  induction ws with
  | nil => intro i j h; cases h
  | cons w ws ih =>
    intro i j h
    have h : (if t = w then some i else ixW t ws (i + 1)) = some j := h
    show i ≤ j ∧ j < i + (ws.length + 1)
    by_cases g : t = w
    · rw [if_pos g] at h; cases h; omega
    · rw [if_neg g] at h
      have := ih (i + 1) j h
      omega
theorem aX_b {q i1 : Nat} (hi : i1 < 11) : ∀ i, aX b z q i1 = some i → i < (WL i1).length := by
  intro i h
  unfold aX at h
  by_cases g : aK b z q = 1
  · rw [if_pos g] at h
    have := ixW_b _ _ _ _ h
    omega
  · rw [if_neg g] at h; cases h
theorem aX_100 {q i1 : Nat} (hi : i1 < 11) : ∀ i, aX b z q i1 = some i → i < 100 := by
  intro i h
  have h1 := aX_b hi i h
  have h2 : ∀ i, i < 11 → (WL i).length < 100 := by decide
  have := h2 i1 hi
  omega
theorem aOp0 {q : Nat} : aOp b z 0 q = (if aX b z q 4 = some 0 then 12 else 0) := rfl
theorem aOp1 {q : Nat} : aOp b z 1 q = (if aX b z q 5 = some 0 then 11 else 0) := rfl
theorem aOp3 {q : Nat} : aOp b z 3 q = (if aS b z q = 43 then 2 else if aS b z q = 45 then 3 else 0) := rfl
theorem aOp4 {q : Nat} : aOp b z 4 q = (if aS b z q = 42 then 4 else if aS b z q = 47 then 5 else if aS b z q = 37 then 6 else 0) := rfl
/-- the row of nots -/
theorem notL (h2 : sQ S 40 2 = some 38) (hn : 1001 < n) {rq : Nat → tHI → tHJ → Int32 → (tHI → tHJ → Prop) → Prop} {k : tHI → tHJ → Prop} {br m len : Nat} : ∀ (lf fh q c j : Nat) (I : tHI), j + lf = 400 → lf < fh → CTp b z (I 38) (I 39) → CG b z (I 40) (I 41) q m len → (∀ I', Adv I I' → CG b z (I' 40) (I' 41) (aNt b z lf q).1 m len → F4_readPlain_40 n S rq k I' J (nI br) (nI ((c + (aNt b z lf q).2) % 2))) → F4_readPlain_L4 n S rq k fh I J (nI br) (nI (c % 2)) (nI j) := by
  intro lf
  induction lf with
  | zero =>
    intro fh q c j I hj hf ht hg hk
    obtain ⟨fh, rfl⟩ : ∃ g, fh = g + 1 := ⟨fh - 1, by omega⟩
    show F4_readPlain_4 n S rq k (F4_readPlain_L4 n S rq k fh) I J _ _ _
    unfold F4_readPlain_4
    exact ⟨fun _ => hk I (Adv.rf I) hg, fun g => absurd ((qle (a := 400) (by omega) (by omega)).mpr (by omega)) g⟩
  | succ lf ih =>
    intro fh q c j I hj hf ht hg hk
    obtain ⟨fh, rfl⟩ : ∃ g, fh = g + 1 := ⟨fh - 1, by omega⟩
    show F4_readPlain_4 n S rq k (F4_readPlain_L4 n S rq k fh) I J _ _ _
    unfold F4_readPlain_4
    refine ⟨fun g => absurd ((qle (a := 400) (by omega) (by omega)).mp g) (by omega), fun _ => sp_word h2 ht hg.1 hg.2.2.2.2.2.2 hn (by decide) ?_⟩
    have e0 : wV (aX b z q 6) = 0 ↔ aX b z q 6 = some 0 := wV0 (aX_100 (by decide)) 0 (by decide)
    refine ⟨fun g => ?_, fun g => ?_⟩
    · have g : ¬ aX b z q 6 = some 0 := fun y => g (e0.mpr y)
      have e : aNt b z (lf + 1) q = (q, 0) := by
        show (if aX b z q 6 = some 0 then _ else _) = _
        rw [if_neg g]
      rw [e] at hk
      exact hk I (Adv.rf I) hg
    · have g := e0.mp g
      have e : aNt b z (lf + 1) q = ((aNt b z lf (aE b z q)).1, (aNt b z lf (aE b z q)).2 + 1) := by
        show (if aX b z q 6 = some 0 then _ else _) = _
        rw [if_pos g]
      rw [e] at hk
      refine CG.adv h2 ht hn hg (fun I1 a1 g1 => ?_)
      have et : (if nI (c % 2) = 0 then (1 : Int32) else 0) = nI ((c + 1) % 2) := by
        rcases (show c % 2 = 0 ∨ c % 2 = 1 by omega) with y | y
        · rw [y, show (c + 1) % 2 = 1 by omega]; decide
        · rw [y, show (c + 1) % 2 = 0 by omega]; decide
      rw [et, nI_1]
      refine ih fh (aE b z q) (c + 1) (j + 1) I1 (by omega) (by omega) (ht.adv a1) g1 (fun I2 a2 g2 => ?_)
      rw [show c + 1 + (aNt b z lf (aE b z q)).2 = c + ((aNt b z lf (aE b z q)).2 + 1) by omega]
      exact hk I2 (a1.trans a2) g2
theorem sp_rd (h2 : sQ S 40 2 = some 38) (h42 : sL S 42 = 400) (hn : 1001 < n) (hz : z ≤ 400) (hord2 : ord ≤ 1) : ∀ (f wh br q m len : Nat) (I : tHI) (k : tHI → tHJ → Prop), 30 ≤ f + wh + 3 * br → wh ≤ 5 → br ≤ 8 → CTp b z (I 38) (I 39) → I 40 3 = nI ord → CG b z (I 40) (I 41) q m len → (∀ I', CRs b z ord q m len I (aP b z ord f wh br q m) I' → k I' J) → F4_rec n S f wh I J (nI br) k := by
  intro f
  induction f with
  | zero => intro wh br q m len I k h1 h3 h4; omega
  | succ f ih =>
    intro wh br q m len I k hf hw hbr ht hord hg hk
    have hq := hg.2.2.2.2.2.2
    obtain ⟨n', rfl⟩ : ∃ g, n = g + 1 := ⟨n - 1, by omega⟩
    have sg : ∀ {I : tHI} {q m len c : Nat} {k1 : Int32 → tHI → tHJ → Prop}, CTp b z (I 38) (I 39) → CG b z (I 40) (I 41) q m len → 0 < c → c < 256 → k1 (if aS b z q = c then 1 else 0) I J → F4_isSign (n' + 1) S I J (nI c) k1 := fun ht hg h0 h1 hk => sp_sign h2 ht hg.1 h0 h1 hk
    have b01 : ∀ {p : Prop} {d : Decidable p}, ((@ite _ p d (1 : Int32) 0) = 0 ↔ ¬ p) := by
      intro p d
      by_cases g : p
      · rw [if_pos g]; exact ⟨fun y => absurd y (by decide), fun y => absurd g y⟩
      · rw [if_neg g]; exact ⟨fun _ => g, fun _ => rfl⟩
    have okf : ∀ wh', wh' ≤ 4 → ∀ q m q' m' v, q ≤ z → aP b z ord f (wh' + 1) br q m = .inr (q', m', v) → aGd b z (wh' + 1) q m q' m' v := fun wh' hw' q m q' m' v hq' e => aP_ok hz f (wh' + 1) br q m q' m' v (by omega) hq' e
    -- behind the first piece of a row
    have first : ∀ (wh' : Nat) (LL : Nat → tHI → tHJ → Int32 → Prop), wh' ≤ 4 → wh = wh' → wh' ≠ 2 →
        (∀ I' x, CF I I' → CX (I' 40) (I' 41) x → k I' J → LL (n' + 1) I' J 0) →
        (∀ q1 m1 v1 I1 len1, CF I I1 → CG b z (I1 40) (I1 41) q1 m1 len1 → len1 + aF b z q ≤ len + aF b z q1 → (∀ i, i < len → I1 42 i = I 42 i) → m ≤ m1 → CDe (if ord = 0 then 12 else 24) (I1 42) len len1 (m1 - m) v1 → aL b z (aP b z ord f (wh' + 1) br) wh' 400 q1 m1 v1 = aP b z ord (f + 1) wh' br q m → LL (n' + 1) I1 J 0) →
        F4_rec (n' + 1) S f (wh' + 1) I J (nI br) (fun I1 J2 => LL (n' + 1) I1 J2 0) := by
      intro wh' LL hw' ew h2' hB hL
      refine ih (wh' + 1) br q m len I _ (by omega) (by omega) hbr ht hord hg (fun I1 r1 => ?_)
      obtain ⟨f1, r1⟩ := r1
      have e : aP b z ord (f + 1) wh' br q m = (match aP b z ord f (wh' + 1) br q m with
        | .inl x => .inl x
        | .inr (q', m', v) => aL b z (aP b z ord f (wh' + 1) br) wh' 400 q' m' v) := by
        show (if wh' = 2 then _ else if wh' = 5 then _ else _) = _
        rw [if_neg h2', if_neg (by omega)]
        rfl
      cases hx : aP b z ord f (wh' + 1) br q m with
      | inl x =>
        rw [hx] at e r1
        refine hB I1 x f1 r1 (hk I1 ⟨f1, ?_⟩)
        rw [ew, e]
        exact r1
      | inr p =>
        obtain ⟨q1, m1, v1⟩ := p
        rw [hx] at e r1
        obtain ⟨len1, r2, r3, r4, r5, r6⟩ := r1
        exact hL q1 m1 v1 I1 len1 f1 r2 r3 r4 r5 r6 e.symm
    rcases (show wh = 0 ∨ wh = 1 ∨ wh = 2 ∨ wh = 3 ∨ wh = 4 ∨ wh = 5 by omega) with w | w | w | w | w | w
    · subst w
      show F4_readTest (n' + 1) S (F4_rec (n' + 1) S f) I J (nI br) k
      unfold F4_readTest
      refine first 0 (fun fh I J v => F4_readTest_L7 (n' + 1) S (F4_rec (n' + 1) S f) k fh I J (nI br) v) (by decide) rfl (by decide) (fun I' x c1 c2 c3 => bad_L7o c2.2.2.1 c3) (fun q1 m1 v1 I1 len1 c1 c2 c3 c4 c5 c6 e => ?_)
      refine loopB (LL := fun fh I J v => F4_readTest_L7 (n' + 1) S (F4_rec (n' + 1) S f) k fh I J (nI br) v) (br := br) (q0 := q) (m0 := m) (len0 := len) (I0 := I) (f0 := f) h2 h42 hn ht hord (Or.inl rfl) (fun fh I1 hk1 => ?_) (fun fh I1 j h6 hk1 => bad_L7o h6 hk1) (fun fh I1 j q1 m1 len1 hj ht1 g1 ho hk1 => ?_) (fun fh I1 j q1 m1 len1 hj ht1 g1 ho hs => ?_) (okf 0 (by decide)) (fun q m len I k' a1 a2 a3 a4 => ih _ _ _ _ _ _ _ (by omega) (by omega) hbr a1 a2 a3 a4) hk 400 (n' + 1) q1 m1 len1 v1 I1 0 rfl (by omega) c1 c2 c3 c4 c5 c6 e
      · show F4_readTest_7 (n' + 1) S _ k _ I1 J (nI br) (nI 400)
        unfold F4_readTest_7 F4_readTest_57
        exact ⟨fun _ => hk1, fun y => absurd (show (400 : Int32) ≤ nI 400 by decide) y⟩
      · show F4_readTest_7 (n' + 1) S _ k _ I1 J (nI br) (nI j)
        unfold F4_readTest_7 F4_readTest_57
        refine ⟨fun _ => hk1, fun _ => sp_word h2 ht1 g1.1 g1.2.2.2.2.2.2 hn (by decide) ⟨fun _ => hk1, fun y => ?_⟩⟩
        have y := (wV0 (aX_100 (by decide)) 0 (by decide)).mp y
        rw [aOp0, if_pos y] at ho
        exact absurd ho (by decide)
      · show F4_readTest_7 (n' + 1) S _ k _ I1 J (nI br) (nI j)
        unfold F4_readTest_7 F4_readTest_57
        have y : aX b z q1 4 = some 0 := by
          rw [aOp0] at ho
          by_cases c : aX b z q1 4 = some 0
          · exact c
          · rw [if_neg c] at ho; exact absurd rfl ho
        have eo : aOp b z 0 q1 = 12 := by rw [aOp0, if_pos y]
        rw [eo] at hs
        refine ⟨fun y => absurd ((qle (a := 400) (by omega) (by omega)).mp y) (by omega), fun _ => sp_word h2 ht1 g1.1 g1.2.2.2.2.2.2 hn (by decide) ⟨fun c => absurd ((wV0 (aX_100 (by decide)) 0 (by decide)).mpr y) c, fun _ => hs⟩⟩
    · subst w
      show F4_readBoth (n' + 1) S (F4_rec (n' + 1) S f) I J (nI br) k
      unfold F4_readBoth
      refine first 1 (fun fh I J v => F4_readBoth_L7 (n' + 1) S (F4_rec (n' + 1) S f) k fh I J (nI br) v) (by decide) rfl (by decide) (fun I' x c1 c2 c3 => bad_L7a c2.2.2.1 c3) (fun q1 m1 v1 I1 len1 c1 c2 c3 c4 c5 c6 e => ?_)
      refine loopB (LL := fun fh I J v => F4_readBoth_L7 (n' + 1) S (F4_rec (n' + 1) S f) k fh I J (nI br) v) (br := br) (q0 := q) (m0 := m) (len0 := len) (I0 := I) (f0 := f) h2 h42 hn ht hord (Or.inr rfl) (fun fh I1 hk1 => ?_) (fun fh I1 j h6 hk1 => bad_L7a h6 hk1) (fun fh I1 j q1 m1 len1 hj ht1 g1 ho hk1 => ?_) (fun fh I1 j q1 m1 len1 hj ht1 g1 ho hs => ?_) (okf 1 (by decide)) (fun q m len I k' a1 a2 a3 a4 => ih _ _ _ _ _ _ _ (by omega) (by omega) hbr a1 a2 a3 a4) hk 400 (n' + 1) q1 m1 len1 v1 I1 0 rfl (by omega) c1 c2 c3 c4 c5 c6 e
      · show F4_readBoth_7 (n' + 1) S _ k _ I1 J (nI br) (nI 400)
        unfold F4_readBoth_7 F4_readBoth_57
        exact ⟨fun _ => hk1, fun y => absurd (show (400 : Int32) ≤ nI 400 by decide) y⟩
      · show F4_readBoth_7 (n' + 1) S _ k _ I1 J (nI br) (nI j)
        unfold F4_readBoth_7 F4_readBoth_57
        refine ⟨fun _ => hk1, fun _ => sp_word h2 ht1 g1.1 g1.2.2.2.2.2.2 hn (by decide) ⟨fun _ => hk1, fun y => ?_⟩⟩
        have y := (wV0 (aX_100 (by decide)) 0 (by decide)).mp y
        rw [aOp1, if_pos y] at ho
        exact absurd ho (by decide)
      · show F4_readBoth_7 (n' + 1) S _ k _ I1 J (nI br) (nI j)
        unfold F4_readBoth_7 F4_readBoth_57
        have y : aX b z q1 5 = some 0 := by
          rw [aOp1] at ho
          by_cases c : aX b z q1 5 = some 0
          · exact c
          · rw [if_neg c] at ho; exact absurd rfl ho
        have eo : aOp b z 1 q1 = 11 := by rw [aOp1, if_pos y]
        rw [eo] at hs
        refine ⟨fun y => absurd ((qle (a := 400) (by omega) (by omega)).mp y) (by omega), fun _ => sp_word h2 ht1 g1.1 g1.2.2.2.2.2.2 hn (by decide) ⟨fun c => absurd ((wV0 (aX_100 (by decide)) 0 (by decide)).mpr y) c, fun _ => hs⟩⟩
    · subst w
      have eP : aP b z ord (f + 1) 2 br q m = aPl b z (aP b z ord f 0) (aP b z ord f 3) br q m := by
        show (if 2 = 2 then _ else _) = _
        rw [if_pos rfl]
      unfold aPl at eP
      show F4_readPlain (n' + 1) S (F4_rec (n' + 1) S f) I J (nI br) k
      unfold F4_readPlain
      refine notL h2 hn 400 (n' + 1) q 0 0 I rfl (by omega) ht hg (fun I1 a1 g1 => ?_)
      obtain ⟨nt1, nt2, -⟩ := aNt_le (b := b) 400 q hq
      rw [Nat.zero_add]
      generalize (aNt b z 400 q).2 = kk at *
      generalize (aNt b z 400 q).1 = q1 at *
      have ht1 := ht.adv a1
      have a142 : I1 42 = I 42 := a1.1 42 (by decide)
      -- the end: the not, if it is odd
      have fbad : ∀ (I' : tHI) (x : Nat), CF I I' → CX (I' 40) (I' 41) x → aP b z ord (f + 1) 2 br q m = .inl x → F4_readPlain_158 (n' + 1) S (F4_rec (n' + 1) S f) k I' J (nI (kk % 2)) := by
        intro I' x c1 c2 e
        unfold F4_readPlain_158 F4_readPlain_173
        exact ⟨fun _ => hk I' ⟨c1, by rw [e]; exact c2⟩, fun _ => bad_emit h42 c2 (fun _ I'' d1 d2 => hk I'' ⟨c1.trans d1, by rw [e]; exact d2⟩)⟩
      have fgd : ∀ (I' : tHI) (q' m' len' : Nat) (v : tV), CF I I' → CG b z (I' 40) (I' 41) q' m' len' → len' + aF b z q1 ≤ len + aF b z q' → (∀ i, i < len → I' 42 i = I 42 i) → m ≤ m' → CDe (if ord = 0 then 12 else 24) (I' 42) len len' (m' - m) v → aP b z ord (f + 1) 2 br q m = .inr (q', m', nots kk v) → F4_readPlain_158 (n' + 1) S (F4_rec (n' + 1) S f) k I' J (nI (kk % 2)) := by
        intro I' q' m' len' v c1 c2 c3 c4 c5 c6 e
        unfold F4_readPlain_158 F4_readPlain_173
        refine ⟨fun y => hk I' ⟨c1, ?_⟩, fun y => ?_⟩
        · have y : kk % 2 = 0 := (qeq (b := 0) (by omega) (by omega)).mp y
          have en : nots kk v = v := by unfold nots; rw [if_neg (by omega)]
          rw [e, en]
          exact ⟨len', c2, by omega, c4, c5, c6⟩
        · have y : kk % 2 = 1 := by
            rcases (show kk % 2 = 0 ∨ kk % 2 = 1 by omega) with g | g
            · rw [g] at y; exact absurd rfl y
            · exact g
          have en : nots kk v = vNot v := by unfold nots; rw [if_pos y]
          have hlen := hg.2.2.2.2.2.1
          have hq' := aF_le (b := b) c2.2.2.2.2.2.2
          have dl := c6.lt
          refine sp_emit h42 c2.2.2.2.2.1 (by omega) (op := 10) (ar := 0) (hk _ ⟨c1.w42.w41, ?_⟩)
          rw [e, en]
          obtain ⟨⟨t1, t2, t3, t4⟩, g2, g3, g4, g5, g6, g7⟩ := c2
          have x40 : ∀ y, (uI (uI I' 42 len' (nI (10 * 1024 + 0))) 41 5 (nI (len' + 1))) 40 y = I' 40 y := fun y => by rw [uIn (by decide), uIn (by decide)]
          have x42 : ∀ i, i < len' → (uI (uI I' 42 len' (nI (10 * 1024 + 0))) 41 5 (nI (len' + 1))) 42 i = I' 42 i := fun i hi => by rw [uIn (by decide), uIe, upn (by omega)]
          refine ⟨len' + 1, ⟨⟨by rw [x40]; exact t1, by rw [x40]; exact t2, by rw [x40]; exact t3, fun y => by rw [x40]; exact t4 y⟩, by rw [x40]; exact g2, by rw [x40]; exact g3, g4, by rw [uIe, upe], by omega, g7⟩, by omega, fun i hi => by rw [x42 i (by omega)]; exact c4 i hi, c5, ?_⟩
          exact CDe.not (c6.cg fun i i1 i2 => x42 i i2) (by rw [uIn (by decide), uIe, upe])
      unfold F4_readPlain_40
      refine sg ht1 g1 (c := 40) (by decide) (by decide) (fun _ => ⟨fun y => ?_, fun y => ?_⟩)
      · have y := b01.mp y
        rw [if_neg y] at eP
        refine ih 3 br q1 m len I1 _ (by omega) (by omega) hbr ht1 (by rw [a1.2 3 (by decide)]; exact hord) g1 (fun I2 r2 => ?_)
        obtain ⟨f2, r2⟩ := r2
        have cf2 : CF I I2 := ((CF.rf I).adv a1).trans f2
        have ht2 := ht.cf cf2
        cases hx : aP b z ord f 3 br q1 m with
        | inl x =>
          rw [hx] at r2 eP
          have eP : aP b z ord (f + 1) 2 br q m = .inl x := eP
          have h6 := r2.2.2.1
          refine bad_sign h6 (fun _ => ⟨fun _ => bad_sign h6 (fun _ => ⟨fun _ => bad_sign h6 (fun _ => ?_), fun y => absurd rfl y⟩), fun y => absurd rfl y⟩)
          rw [if_pos rfl]
          unfold F4_readPlain_128
          exact ⟨fun y => absurd rfl y, fun _ => bad_fail r2 (fun I3 d1 d2 => hk I3 ⟨cf2.trans d1, by rw [eP]; exact d2⟩)⟩
        | inr p =>
          obtain ⟨q2, m2, v2⟩ := p
          rw [hx] at r2 eP
          obtain ⟨len2, g2, s2, t2, m2', d2⟩ := r2
          obtain ⟨o1, o2, o3, o4, o5, o6⟩ := aP_ok hz f 3 br q1 m q2 m2 v2 (by decide) nt2 hx
          have h128 : ∀ s0 : Int32, (aC b z q2 = 0 → s0 = -1) → (aC b z q2 ≠ 0 → s0 = nI (aC b z q2)) → F4_readPlain_128 (n' + 1) S (F4_rec (n' + 1) S f) k I2 J (nI br) (nI (kk % 2)) s0 := by
            intro s0 e0 e1
            unfold F4_readPlain_128
            by_cases c : aC b z q2 = 0
            · have eP : aP b z ord (f + 1) 2 br q m = (if aC b z q2 = 0 then (.inl (aF b z q2) : aR3) else _) := eP
              rw [if_pos c] at eP
              rw [e0 c]
              exact ⟨fun y => absurd rfl y, fun _ => sp_fail g2 hz (fun I3 d1 d2 => hk I3 ⟨cf2.trans d1, by rw [eP]; exact d2⟩)⟩
            · have eP : aP b z ord (f + 1) 2 br q m = (if aC b z q2 = 0 then (.inl (aF b z q2) : aR3) else match aP b z ord f 3 br (aE b z q2) m2 with
                | .inl x => .inl x
                | .inr (q3, m3, v3) => .inr (q3, m3, nots kk (vBin (aC b z q2) v2 v3))) := eP
              rw [if_neg c] at eP
              obtain ⟨c3, c7, c9⟩ := aC_k c
              have k2 : aK b z q2 ≠ 0 := by rw [c3]; decide
              have u2 := aF_up k2
              rw [e1 c]
              refine ⟨fun _ => CG.adv h2 ht2 hn g2 (fun I3 a3 g3 => ?_), fun y => ?_⟩
              · have cf3 : CF I I3 := cf2.adv a3
                refine ih 3 br _ m2 len2 I3 _ (by omega) (by omega) hbr (ht2.adv a3) (by rw [cf3.2.1]; exact hord) g3 (fun I4 r4 => ?_)
                obtain ⟨f4, r4⟩ := r4
                have cf4 : CF I I4 := cf3.trans f4
                cases hy : aP b z ord f 3 br (aE b z q2) m2 with
                | inl x =>
                  rw [hy] at r4 eP
                  exact bad_emit h42 r4 (fun _ I5 d1 d2 => fbad I5 x (cf4.trans d1) d2 eP)
                | inr p =>
                  obtain ⟨q3, m3, v3⟩ := p
                  rw [hy] at r4 eP
                  obtain ⟨len4, g4, s4, t4, m4', d4⟩ := r4
                  obtain ⟨p1, p2, p3, p4, p5, p6⟩ := aP_ok hz f 3 br _ m2 q3 m3 v3 (by decide) g3.2.2.2.2.2.2 hy
                  have p2' := aF_le (b := b) p2
                  have hlen := g1.2.2.2.2.2.1
                  have dl := d2.lt
                  have dl4 := d4.lt
                  refine sp_emit h42 g4.2.2.2.2.1 (by omega) (ar := 0) ?_
                  obtain ⟨⟨t1, t2', t3, t4'⟩, y2, y3, y4, y5, y6, y7⟩ := g4
                  have x40 : ∀ y, (uI (uI I4 42 len4 (nI (aC b z q2 * 1024 + 0))) 41 5 (nI (len4 + 1))) 40 y = I4 40 y := fun y => by rw [uIn (by decide), uIn (by decide)]
                  have x42 : ∀ i, i < len4 → (uI (uI I4 42 len4 (nI (aC b z q2 * 1024 + 0))) 41 5 (nI (len4 + 1))) 42 i = I4 42 i := fun i hi => by rw [uIn (by decide), uIe, upn (by omega)]
                  have a3' : I3 42 = I2 42 := a3.1 42 (by decide)
                  refine fgd _ q3 m3 (len4 + 1) (vBin (aC b z q2) v2 v3) cf4.w42.w41 ⟨⟨by rw [x40]; exact t1, by rw [x40]; exact t2', by rw [x40]; exact t3, fun y => by rw [x40]; exact t4' y⟩, by rw [x40]; exact y2, by rw [x40]; exact y3, y4, by rw [uIe, upe], by omega, y7⟩ (by omega) (fun i hi => ?_) (by omega) ?_ eP
                  · rw [x42 i (by omega), t4 i (by omega), a3', t2 i (by omega), a142]
                  · refine (CDe.bin (d2.cg fun i i1 i2 => ?_) (d4.cg fun i i1 i2 => x42 i i2) ⟨by omega, by omega⟩ (by rw [uIn (by decide), uIe, upe, Nat.add_zero])).hh (by omega)
                    rw [x42 i (by omega), t4 i i2, a3']
              · exfalso
                have := congrArg Int32.toInt y
                rw [qi (by omega), qneg] at this
                omega
          have nI7 : (7 : Int32) = nI 7 := rfl
          refine sg ht2 g2 (c := 60) (by decide) (by decide) (fun _ => ⟨fun y1 => sg ht2 g2 (c := 62) (by decide) (by decide) (fun _ => ⟨fun y2 => sg ht2 g2 (c := 61) (by decide) (by decide) (fun _ => ?_), fun y2 => ?_⟩), fun y1 => ?_⟩)
          · have y1 := b01.mp y1
            have y2 := b01.mp y2
            refine h128 _ (fun e => ?_) (fun e => ?_)
            · unfold aC at e
              rw [if_neg y1, if_neg y2] at e
              have y3 : ¬ aS b z q2 = 61 := fun y => by rw [if_pos y] at e; exact absurd e (by decide)
              rw [if_pos (b01.mpr y3)]
            · unfold aC at e ⊢
              rw [if_neg y1, if_neg y2] at e ⊢
              by_cases y3 : aS b z q2 = 61
              · rw [if_pos y3, if_pos y3]; decide
              · rw [if_neg y3] at e; exact absurd rfl e
          · have y1 := b01.mp y1
            have y2 : aS b z q2 = 62 := Classical.not_not.mp (fun y => y2 (b01.mpr y))
            have e : aC b z q2 = 8 := by unfold aC; rw [if_neg y1, if_pos y2]
            exact h128 _ (fun y => by omega) (fun _ => by rw [e]; rfl)
          · have y1 : aS b z q2 = 60 := Classical.not_not.mp (fun y => y1 (b01.mpr y))
            have e : aC b z q2 = 7 := by unfold aC; rw [if_pos y1]
            exact h128 _ (fun y => by omega) (fun _ => by rw [e]; rfl)
      · have y : aS b z q1 = 40 := Classical.not_not.mp (fun c => y (b01.mpr c))
        rw [if_pos y] at eP
        have k1 : aK b z q1 ≠ 0 := by rw [aS_k (by omega) y]; decide
        have u1 := aF_up k1
        refine ⟨fun c => ?_, fun c => ?_⟩
        · have c : br < 8 := (qlt (b := 8) (by omega) (by omega)).mp c
          rw [if_neg (by omega)] at eP
          refine CG.adv h2 ht1 hn g1 (fun I2 a2 g2 => ?_)
          have cf2 : CF I I2 := ((CF.rf I).adv a1).adv a2
          rw [nI_1]
          refine ih 0 (br + 1) _ m len I2 _ (by omega) (by omega) (by omega) (ht1.adv a2) (by rw [cf2.2.1]; exact hord) g2 (fun I3 r3 => ?_)
          obtain ⟨f3, r3⟩ := r3
          have cf3 : CF I I3 := cf2.trans f3
          cases hx : aP b z ord f 0 (br + 1) (aE b z q1) m with
          | inl x =>
            rw [hx] at r3 eP
            exact bad_xsign r3 (fun I4 d1 d2 => fbad I4 x (cf3.trans d1) d2 eP)
          | inr p =>
            obtain ⟨q3, m3, v3⟩ := p
            rw [hx] at r3 eP
            have eP : aP b z ord (f + 1) 2 br q m = (if aS b z q3 = 41 then (.inr (aE b z q3, m3, nots kk v3) : aR3) else .inl (aF b z q3)) := eP
            obtain ⟨len3, g3, s3, t3, m3', d3⟩ := r3
            refine sp_xsign (c := 41) h2 (ht.cf cf3) hn g3 (by decide) (by decide) (fun e I4 a4 g4 => ?_) (fun e I4 d1 d2 => ?_)
            · rw [if_pos e] at eP
              have k3 : aK b z q3 ≠ 0 := by rw [aS_k (by omega) e]; decide
              have u3 := aF_up k3
              have a4' : I4 42 = I3 42 := a4.1 42 (by decide)
              have a2' : I2 42 = I1 42 := a2.1 42 (by decide)
              refine fgd I4 _ m3 len3 v3 (cf3.adv a4) g4 (by omega) (fun i hi => by rw [a4', t3 i hi, a2', a142]) m3' (d3.cg fun i _ _ => by rw [a4']) eP
            · rw [if_neg e] at eP
              exact fbad I4 _ (cf3.trans d1) d2 eP
        · have c : ¬ br < 8 := fun e => c ((qlt (b := 8) (by omega) (by omega)).mpr e)
          rw [if_pos (by omega)] at eP
          exact sp_fail g1 hz (fun I2 d1 d2 => hk I2 ⟨((CF.rf I).adv a1).trans d1, by rw [eP]; exact d2⟩)
    · subst w
      show F4_readSum (n' + 1) S (F4_rec (n' + 1) S f) I J (nI br) k
      unfold F4_readSum
      refine first 3 (fun fh I J v => F4_readSum_L7 (n' + 1) S (F4_rec (n' + 1) S f) k fh I J (nI br) v) (by decide) rfl (by decide) (fun I' x c1 c2 c3 => bad_L7s c2.2.2.1 c3) (fun q1 m1 v1 I1 len1 c1 c2 c3 c4 c5 c6 e => ?_)
      refine loopA (LL := fun fh I J v => F4_readSum_L7 (n' + 1) S (F4_rec (n' + 1) S f) k fh I J (nI br) v) (br := br) (q0 := q) (m0 := m) (len0 := len) (I0 := I) (f0 := f) h2 h42 hn ht hord (Or.inl rfl) (fun fh I1 hk1 => ?_) (fun fh I1 j h6 hk1 => bad_L7s h6 hk1) (fun fh I1 j q1 m1 len1 hj ht1 g1 ho hk1 => ?_) (fun fh I1 j q1 m1 len1 hj ht1 g1 ho hs => ?_) (okf 3 (by decide)) (fun q m len I k' a1 a2 a3 a4 => ih _ _ _ _ _ _ _ (by omega) (by omega) hbr a1 a2 a3 a4) hk 400 (n' + 1) q1 m1 len1 v1 I1 0 rfl (by omega) c1 c2 c3 c4 c5 c6 e
      · show F4_readSum_7 (n' + 1) S _ k _ I1 J (nI br) (nI 400)
        unfold F4_readSum_7 F4_readSum_72
        exact ⟨fun _ => hk1, fun y => absurd (show (400 : Int32) ≤ nI 400 by decide) y⟩
      · show F4_readSum_7 (n' + 1) S _ k _ I1 J (nI br) (nI j)
        unfold F4_readSum_7 F4_readSum_72
        rw [aOp3] at ho
        have n1 : ¬ aS b z q1 = 43 := fun y => by rw [if_pos y] at ho; exact absurd ho (by decide)
        rw [if_neg n1] at ho
        have n2 : ¬ aS b z q1 = 45 := fun y => by rw [if_pos y] at ho; exact absurd ho (by decide)
        refine ⟨fun _ => hk1, fun _ => sg ht1 g1 (c := 43) (by decide) (by decide) (fun _ => ⟨fun y => absurd (b01.mpr n1) y, fun _ => sg ht1 g1 (c := 45) (by decide) (by decide) (fun _ => ⟨fun _ => hk1, fun y => absurd (b01.mpr n2) y⟩)⟩)⟩
      · show F4_readSum_7 (n' + 1) S _ k _ I1 J (nI br) (nI j)
        have go : F4_readSum_32 (n' + 1) S (F4_rec (n' + 1) S f) k (F4_readSum_L7 (n' + 1) S (F4_rec (n' + 1) S f) k fh) I1 J (nI br) (nI j) := by
          unfold F4_readSum_32
          refine sg ht1 g1 (c := 43) (by decide) (by decide) (fun _ => ?_)
          have eo : (if (if aS b z q1 = 43 then (1 : Int32) else 0) = 0 then (3 : Int32) else 2) = nI (aOp b z 3 q1) := by
            rw [aOp3] at ho ⊢
            by_cases y : aS b z q1 = 43
            · rw [if_pos y, if_pos y]; decide
            · rw [if_neg y] at ho ⊢
              by_cases y2 : aS b z q1 = 45
              · rw [if_neg y, if_pos y2]; decide
              · rw [if_neg y2] at ho; exact absurd rfl ho
          rw [eo]
          exact hs
        unfold F4_readSum_7
        refine ⟨fun y => absurd ((qle (a := 400) (by omega) (by omega)).mp y) (by omega), fun _ => sg ht1 g1 (c := 43) (by decide) (by decide) (fun _ => ⟨fun _ => go, fun y1 => sg ht1 g1 (c := 45) (by decide) (by decide) (fun _ => ⟨fun y2 => ?_, fun _ => go⟩)⟩)⟩
        exfalso
        apply ho
        rw [aOp3, if_neg (b01.mp y1), if_neg (b01.mp y2)]
    · subst w
      show F4_readTerm (n' + 1) S (F4_rec (n' + 1) S f) I J (nI br) k
      unfold F4_readTerm
      refine first 4 (fun fh I J v => F4_readTerm_L7 (n' + 1) S (F4_rec (n' + 1) S f) k fh I J (nI br) v) (by decide) rfl (by decide) (fun I' x c1 c2 c3 => bad_L7t c2.2.2.1 c3) (fun q1 m1 v1 I1 len1 c1 c2 c3 c4 c5 c6 e => ?_)
      refine loopA (LL := fun fh I J v => F4_readTerm_L7 (n' + 1) S (F4_rec (n' + 1) S f) k fh I J (nI br) v) (br := br) (q0 := q) (m0 := m) (len0 := len) (I0 := I) (f0 := f) h2 h42 hn ht hord (Or.inr rfl) (fun fh I1 hk1 => ?_) (fun fh I1 j h6 hk1 => bad_L7t h6 hk1) (fun fh I1 j q1 m1 len1 hj ht1 g1 ho hk1 => ?_) (fun fh I1 j q1 m1 len1 hj ht1 g1 ho hs => ?_) (okf 4 (by decide)) (fun q m len I k' a1 a2 a3 a4 => ih _ _ _ _ _ _ _ (by omega) (by omega) hbr a1 a2 a3 a4) hk 400 (n' + 1) q1 m1 len1 v1 I1 0 rfl (by omega) c1 c2 c3 c4 c5 c6 e
      · show F4_readTerm_7 (n' + 1) S _ k _ I1 J (nI br) (nI 400)
        unfold F4_readTerm_7 F4_readTerm_95
        exact ⟨fun _ => hk1, fun y => absurd (show (400 : Int32) ≤ nI 400 by decide) y⟩
      · show F4_readTerm_7 (n' + 1) S _ k _ I1 J (nI br) (nI j)
        unfold F4_readTerm_7 F4_readTerm_95
        rw [aOp4] at ho
        have n1 : ¬ aS b z q1 = 42 := fun y => by rw [if_pos y] at ho; exact absurd ho (by decide)
        rw [if_neg n1] at ho
        have n2 : ¬ aS b z q1 = 47 := fun y => by rw [if_pos y] at ho; exact absurd ho (by decide)
        rw [if_neg n2] at ho
        have n3 : ¬ aS b z q1 = 37 := fun y => by rw [if_pos y] at ho; exact absurd ho (by decide)
        refine ⟨fun _ => hk1, fun _ => sg ht1 g1 (c := 42) (by decide) (by decide) (fun _ => ⟨fun y => absurd (b01.mpr n1) y, fun _ => sg ht1 g1 (c := 47) (by decide) (by decide) (fun _ => ⟨fun y => absurd (b01.mpr n2) y, fun _ => sg ht1 g1 (c := 37) (by decide) (by decide) (fun _ => ⟨fun _ => hk1, fun y => absurd (b01.mpr n3) y⟩)⟩)⟩)⟩
      · show F4_readTerm_7 (n' + 1) S _ k _ I1 J (nI br) (nI j)
        have go : F4_readTerm_41 (n' + 1) S (F4_rec (n' + 1) S f) k (F4_readTerm_L7 (n' + 1) S (F4_rec (n' + 1) S f) k fh) I1 J (nI br) (nI j) := by
          unfold F4_readTerm_41 F4_readTerm_69
          refine sg ht1 g1 (c := 42) (by decide) (by decide) (fun _ => ⟨fun y1 => sg ht1 g1 (c := 47) (by decide) (by decide) (fun _ => ?_), fun y1 => ?_⟩)
          · have y1 := b01.mp y1
            have eo : (if (if aS b z q1 = 47 then (1 : Int32) else 0) = 0 then (6 : Int32) else 5) = nI (aOp b z 4 q1) := by
              rw [aOp4, if_neg y1] at ho ⊢
              by_cases y : aS b z q1 = 47
              · rw [if_pos y, if_pos y]; decide
              · rw [if_neg y] at ho ⊢
                by_cases y2 : aS b z q1 = 37
                · rw [if_neg y, if_pos y2]; decide
                · rw [if_neg y2] at ho; exact absurd rfl ho
            rw [eo]
            exact hs
          · have y1 : aS b z q1 = 42 := Classical.not_not.mp (fun y => y1 (b01.mpr y))
            have eo : aOp b z 4 q1 = 4 := by rw [aOp4, if_pos y1]
            rw [eo] at hs
            exact hs
        unfold F4_readTerm_7
        refine ⟨fun y => absurd ((qle (a := 400) (by omega) (by omega)).mp y) (by omega), fun _ => sg ht1 g1 (c := 42) (by decide) (by decide) (fun _ => ⟨fun _ => go, fun y1 => sg ht1 g1 (c := 47) (by decide) (by decide) (fun _ => ⟨fun _ => go, fun y2 => sg ht1 g1 (c := 37) (by decide) (by decide) (fun _ => ⟨fun y3 => ?_, fun _ => go⟩)⟩)⟩)⟩
        exfalso
        apply ho
        rw [aOp4, if_neg (b01.mp y1), if_neg (b01.mp y2), if_neg (b01.mp y3)]
    · subst w
      have eP : aP b z ord (f + 1) 5 br q m = aPt b z ord (aP b z ord f 3) br q m := by
        show (if 5 = 2 then _ else if 5 = 5 then _ else _) = _
        rw [if_neg (by decide), if_pos rfl]
      unfold aPt at eP
      have hF := aF_le (b := b) hq
      -- one op for a number or a word
      have leafF : ∀ (I2 : tHI) (q2 op ar : Nat) (v : tV), CF I I2 → CG b z (I2 40) (I2 41) q2 (m + 1) len → aF b z q < aF b z q2 → I2 42 = I 42 → ar < 1024 → ((op = 0 ∧ v = fun _ => some (nI ar).toInt64) ∨ (op = 1 ∧ ar < (if ord = 0 then 12 else 24) ∧ v = fun u => some (u ar))) → aP b z ord (f + 1) 5 br q m = .inr (q2, m + 1, v) → F6_emit (n' + 1) S I2 J 41 (nI op) (nI ar) (fun x I3 J3 => F4_readPart_222 (n' + 1) S (F4_rec (n' + 1) S f) k I3 J3) := by
        intro I2 q2 op ar v c1 c2 c3 c4 ha hv e
        have hq2 := aF_le (b := b) c2.2.2.2.2.2.2
        have hlen := hg.2.2.2.2.2.1
        refine sp_emit h42 c2.2.2.2.2.1 (by omega) ?_
        unfold F4_readPart_222
        refine hk _ ⟨c1.w42.w41, ?_⟩
        rw [e]
        obtain ⟨⟨t1, t2, t3, t4⟩, g2, g3, g4, g5, g6, g7⟩ := c2
        have x40 : ∀ y, (uI (uI I2 42 len (nI (op * 1024 + ar))) 41 5 (nI (len + 1))) 40 y = I2 40 y := fun y => by rw [uIn (by decide), uIn (by decide)]
        have x42 : ∀ i, i < len → (uI (uI I2 42 len (nI (op * 1024 + ar))) 41 5 (nI (len + 1))) 42 i = I2 42 i := fun i hi => by rw [uIn (by decide), uIe, upn (by omega)]
        refine ⟨len + 1, ⟨⟨by rw [x40]; exact t1, by rw [x40]; exact t2, by rw [x40]; exact t3, fun y => by rw [x40]; exact t4 y⟩, by rw [x40]; exact g2, by rw [x40]; exact g3, g4, by rw [uIe, upe], by omega, g7⟩, by omega, fun i hi => by rw [x42 i hi, c4], by omega, ?_⟩
        refine (CDe.leaf (w := op * 1024 + ar) (by rw [uIn (by decide), uIe, upe]) ?_).hh (by omega)
        rw [show (op * 1024 + ar) / 1024 = op by omega, show (op * 1024 + ar) % 1024 = ar by omega]
        exact hv
      have h53 : ∀ s, s = (if ord = 0 then 8 else 7) → ¬ aS b z q = 91 → F4_readPart_53 (n' + 1) S (F4_rec (n' + 1) S f) k I J s := by
        intro s es ns
        rw [if_neg ns] at eP
        have hs11 : s < 11 := by rw [es]; split <;> omega
        have eW : aW b z ord q = aWo (aX b z q s) := by unfold aW; rw [es]
        have x100 := aX_100 (b := b) (z := z) (q := q) hs11
        have xb := aX_b (b := b) (z := z) (q := q) hs11
        unfold F4_readPart_53 F4_readPart_99
        refine sp_word h2 ht hg.1 hq hn hs11 ?_
        generalize aX b z q s = o at *
        have kr := aK_r (b := b) (z := z) q
        have e2 : I 40 6 = 2 ↔ aK b z q = 2 := by rw [hg.1.2.2.1]; exact qeq (b := 2) (by omega) (by omega)
        have wn := wVn x100
        have ecan : (if wV o = -1 then (if I 40 6 = 2 then (if 1000 < I 40 7 then (0 : Int32) else 1) else 0) else 1) = 0 ↔ ¬ (aW b z ord q ≠ 0 ∨ (aK b z q = 2 ∧ aN b z q ≤ 1000)) := by
          cases o with
          | none =>
            rw [if_pos (show wV none = -1 from rfl), eW]
            by_cases g : aK b z q = 2
            · rw [if_pos (e2.mpr g), hg.1.2.2.2 g]
              have e3 : (1000 : Int32) < nI (min 1001 (aN b z q)) ↔ 1000 < min 1001 (aN b z q) := qlt (a := 1000) (by omega) (by omega)
              by_cases g2 : 1000 < min 1001 (aN b z q)
              · rw [if_pos (e3.mpr g2)]
                exact ⟨fun _ y => by rcases y with y | y; exact y rfl; omega, fun _ => rfl⟩
              · rw [if_neg (fun y => g2 (e3.mp y))]
                exact ⟨fun y => absurd y (by decide), fun y => absurd (Or.inr ⟨g, by omega⟩) y⟩
            · rw [if_neg (fun y => g (e2.mp y))]
              exact ⟨fun _ y => by rcases y with y | y; exact y rfl; exact g y.1, fun _ => rfl⟩
          | some i =>
            rw [if_neg (fun y => by have := wn.mp y; cases this)]
            refine ⟨fun y => absurd y (by decide), fun y => absurd (Or.inl ?_) y⟩
            rw [eW]; exact Nat.succ_ne_zero i
        have em : I 40 8 < 50 ↔ m < 50 := by rw [hg.2.2.1]; have := hg.2.2.2.1; exact qlt (b := 50) (by omega) (by omega)
        have bad99 : aP b z ord (f + 1) 5 br q m = .inl (aF b z q) → F4_fail (n' + 1) S I J (fun I16 J17 => k I16 J17) := fun e => sp_fail hg hz (fun I2 d1 d2 => hk I2 ⟨d1, by rw [e]; exact d2⟩)
        refine ⟨fun c => ?_, fun c => ⟨fun c2 => ?_, fun c2 => ?_⟩⟩
        · have c := ecan.mp c
          rw [if_neg (fun y => c y.1)] at eP
          exact bad99 eP
        · have cc : (aW b z ord q ≠ 0 ∨ (aK b z q = 2 ∧ aN b z q ≤ 1000)) := Classical.not_not.mp (fun y => c (ecan.mpr y))
          have c2 := em.mp c2
          rw [if_pos ⟨cc, c2⟩] at eP
          have h8 : I 40 8 + 1 = nI (m + 1) := by rw [hg.2.2.1, nI_1]
          rw [h8]
          have kq : aK b z q ≠ 0 := by
            rcases cc with c | c
            · intro y
              apply c
              rw [eW]
              cases o with
              | none => rfl
              | some i =>
                exfalso
                revert eW
                unfold aW aX
                rw [if_neg (by omega)]
                intro h
                exact absurd h (by show ¬ 0 = i + 1; omega)
            · rw [c.1]; decide
          have u := aF_up kq
          have w8 : ∀ y, y ≠ 8 → (uI I 40 8 (nI (m + 1))) 40 y = I 40 y := fun y hy => by rw [uIe, upn hy]
          have gH : CG b z ((uI I 40 8 (nI (m + 1))) 40) ((uI I 40 8 (nI (m + 1))) 41) q (m + 1) len := by
            obtain ⟨⟨t1, t2, t3, t4⟩, g2, g3, g4, g5, g6, g7⟩ := hg
            exact ⟨⟨by rw [w8 4 (by decide)]; exact t1, by rw [w8 5 (by decide)]; exact t2, by rw [w8 6 (by decide)]; exact t3, fun y => by rw [w8 7 (by decide)]; exact t4 y⟩, by rw [w8 1 (by decide)]; exact g2, by rw [uIe, upe], by omega, by rw [uIn (by decide)]; exact g5, g6, g7⟩
          have cfH : CF I (uI I 40 8 (nI (m + 1))) := (CF.rf I).w40 (by decide)
          have htH := ht.cf cfH
          refine CG.adv h2 htH hn gH (fun I2 a2 g2 => ?_)
          have cf2 : CF I I2 := cfH.adv a2
          have e42 : I2 42 = I 42 := by rw [a2.1 42 (by decide), uIn (by decide)]
          have e3 : I2 40 3 = nI ord := by rw [cf2.2.1]; exact hord
          have ht2 := ht.cf cf2
          have n1 : (1 : Int32) = nI 1 := rfl
          cases o with
          | none =>
            have ew0 : aW b z ord q = 0 := eW
            have k2 : aK b z q = 2 ∧ aN b z q ≤ 1000 := by
              rcases cc with c | c
              · exact absurd ew0 c
              · exact c
            refine ⟨fun y => absurd rfl y, fun _ => ?_⟩
            rw [if_pos ew0] at eP
            rw [w8 7 (by decide), hg.1.2.2.2 k2.1, show min 1001 (aN b z q) = aN b z q by omega]
            exact leafF I2 _ 0 (aN b z q) _ cf2 g2 u e42 (by omega) (Or.inl ⟨rfl, rfl⟩) eP
          | some i =>
            have ewi : aW b z ord q = i + 1 := eW
            have hi := xb i rfl
            rw [if_neg (by omega)] at eP
            have h178 : (ord = 0 ∨ aW b z ord q < 7 ∨ i = 7) → F4_readPart_178 (n' + 1) S (F4_rec (n' + 1) S f) k I2 J (nI i) := by
              intro hc
              have h212 : (ord = 0 ∨ aW b z ord q < 7) → F4_readPart_212 (n' + 1) S (F4_rec (n' + 1) S f) k I2 J (nI i) := by
                intro h
                rw [if_pos h] at eP
                unfold F4_readPart_212
                refine leafF I2 _ 1 i _ cf2 g2 u e42 (by have := x100 i rfl; omega) (Or.inr ⟨rfl, ?_, rfl⟩) (by rw [eP, ewi]; rfl)
                by_cases o0 : ord = 0
                · rw [if_pos o0]
                  rw [es, if_pos o0] at hi
                  exact hi
                · rw [if_neg o0]; omega
              unfold F4_readPart_178
              rw [e3]
              refine ⟨fun y => h212 (Or.inl ((qeq (b := 0) (by omega) (by omega)).mp y)), fun y => ⟨fun y7 => h212 ?_, fun y7 => ?_⟩⟩
              · have o0 : ¬ ord = 0 := fun e => y (by rw [e]; rfl)
                rcases hc with h | h | h
                · exact absurd h o0
                · exact Or.inr h
                · exact absurd (show nI i = 7 by rw [h]; rfl) y7
              · have o0 : ¬ ord = 0 := fun e => y (by rw [e]; rfl)
                have i7 : i = 7 := (qeq (b := 7) (by have := x100 i rfl; omega) (by omega)).mp y7
                have h7 : ¬ aW b z ord q = 7 := by omega
                rw [if_neg (show ¬ (ord = 0 ∨ aW b z ord q < 7) by omega), if_neg h7, if_neg h7] at eP
                refine sp_num h2 ht2 hn g2 (lo := 0) (hi := 5) (by decide) (by decide) (fun c I3 a3 g3 => ?_) (fun c I3 d1 d2 => ?_)
                · rw [if_pos ⟨c.1, c.2.2⟩] at eP
                  have u2 := aF_up (show aK b z (aE b z q) ≠ 0 by rw [c.1]; decide)
                  rw [show (18 : Int32) + nI (aN b z (aE b z q)) = nI (18 + aN b z (aE b z q)) from qaddr _ 18]
                  exact leafF I3 _ 1 (18 + aN b z (aE b z q)) _ (cf2.adv a3) g3 (by omega) (by rw [a3.1 42 (by decide)]; exact e42) (by omega) (Or.inr ⟨rfl, by rw [if_neg o0]; omega, rfl⟩) eP
                · rw [if_neg (fun y => c ⟨y.1, by omega, y.2⟩)] at eP
                  refine bad_emit h42 d2 (fun _ I4 d3 d4 => ?_)
                  unfold F4_readPart_222
                  exact hk I4 ⟨(cf2.trans d1).trans d3, by rw [eP]; exact d4⟩
            rw [e3]
            refine ⟨fun _ => ⟨fun y => h178 (Or.inl ((qeq (b := 0) (by omega) (by omega)).mp y)), fun y => ⟨fun y6 => h178 ?_, fun y6 => ?_⟩⟩, fun y => absurd (wn.mp y) (by intro h; cases h)⟩
            · have o0 : ¬ ord = 0 := fun e => y (by rw [e]; rfl)
              rw [es, if_neg o0] at hi
              have hi : i < 8 := hi
              have i6 : ¬ i = 6 := fun e => y6 (by rw [e]; rfl)
              rcases (show i < 6 ∨ i = 7 by omega) with h | h
              · exact Or.inr (Or.inl (by omega))
              · exact Or.inr (Or.inr h)
            · have o0 : ¬ ord = 0 := fun e => y (by rw [e]; rfl)
              have i6 : i = 6 := (qeq (b := 6) (by have := x100 i rfl; omega) (by omega)).mp y6
              have h7 : aW b z ord q = 7 := by omega
              rw [if_neg (show ¬ (ord = 0 ∨ aW b z ord q < 7) by omega), if_pos h7, if_pos h7] at eP
              refine sp_num h2 ht2 hn g2 (lo := 0) (hi := 11) (by decide) (by decide) (fun c I3 a3 g3 => ?_) (fun c I3 d1 d2 => ?_)
              · rw [if_pos ⟨c.1, c.2.2⟩] at eP
                have u2 := aF_up (show aK b z (aE b z q) ≠ 0 by rw [c.1]; decide)
                rw [show (6 : Int32) + nI (aN b z (aE b z q)) = nI (6 + aN b z (aE b z q)) from qaddr _ 6]
                exact leafF I3 _ 1 (6 + aN b z (aE b z q)) _ (cf2.adv a3) g3 (by omega) (by rw [a3.1 42 (by decide)]; exact e42) (by omega) (Or.inr ⟨rfl, by rw [if_neg o0]; omega, rfl⟩) eP
              · rw [if_neg (fun y => c ⟨y.1, by omega, y.2⟩)] at eP
                refine bad_emit h42 d2 (fun _ I4 d3 d4 => ?_)
                unfold F4_readPart_222
                exact hk I4 ⟨(cf2.trans d1).trans d3, by rw [eP]; exact d4⟩
        · have c2 : ¬ m < 50 := fun y => c2 (em.mpr y)
          rw [if_neg (fun y => c2 y.2)] at eP
          exact bad99 eP
      show F4_readPart (n' + 1) S (F4_rec (n' + 1) S f) I J (nI br) k
      unfold F4_readPart
      refine sg ht hg (c := 91) (by decide) (by decide) (fun _ => ⟨fun y => ⟨fun y2 => ?_, fun y2 => ?_⟩, fun y => ?_⟩)
      · rw [hord] at y2
        exact h53 8 (by rw [if_pos ((qeq (b := 0) (by omega) (by omega)).mp y2)]) (b01.mp y)
      · rw [hord] at y2
        exact h53 7 (by rw [if_neg (fun e => y2 (by rw [e]; rfl))]) (b01.mp y)
      · have y : aS b z q = 91 := Classical.not_not.mp (fun c => y (b01.mpr c))
        rw [if_pos y] at eP
        have k1 : aK b z q ≠ 0 := by rw [aS_k (by omega) y]; decide
        have u1 := aF_up k1
        refine ⟨fun c => ?_, fun c => ?_⟩
        · have c : br < 8 := (qlt (b := 8) (by omega) (by omega)).mp c
          rw [if_neg (by omega)] at eP
          refine CG.adv h2 ht hn hg (fun I2 a2 g2 => ?_)
          have cf2 : CF I I2 := (CF.rf I).adv a2
          rw [nI_1]
          refine ih 3 (br + 1) _ m len I2 _ (by omega) (by omega) (by omega) (ht.adv a2) (by rw [cf2.2.1]; exact hord) g2 (fun I3 r3 => ?_)
          obtain ⟨f3, r3⟩ := r3
          have cf3 : CF I I3 := cf2.trans f3
          cases hx : aP b z ord f 3 (br + 1) (aE b z q) m with
          | inl x =>
            rw [hx] at r3 eP
            exact bad_xsign r3 (fun I4 d1 d2 => hk I4 ⟨cf3.trans d1, by rw [eP]; exact d2⟩)
          | inr p =>
            obtain ⟨q3, m3, v3⟩ := p
            rw [hx] at r3 eP
            have eP : aP b z ord (f + 1) 5 br q m = (if aS b z q3 = 93 then (.inr (aE b z q3, m3, v3) : aR3) else .inl (aF b z q3)) := eP
            obtain ⟨len3, g3, s3, t3, m3', d3⟩ := r3
            refine sp_xsign (c := 93) h2 (ht.cf cf3) hn g3 (by decide) (by decide) (fun e I4 a4 g4 => ?_) (fun e I4 d1 d2 => ?_)
            · rw [if_pos e] at eP
              have k3 : aK b z q3 ≠ 0 := by rw [aS_k (by omega) e]; decide
              have u3 := aF_up k3
              have a4' : I4 42 = I3 42 := a4.1 42 (by decide)
              have a2' : I2 42 = I 42 := a2.1 42 (by decide)
              refine hk I4 ⟨cf3.adv a4, ?_⟩
              rw [eP]
              exact ⟨len3, g4, by omega, fun i hi => by rw [a4', t3 i hi, a2'], m3', d3.cg fun i _ _ => by rw [a4']⟩
            · rw [if_neg e] at eP
              exact hk I4 ⟨cf3.trans d1, by rw [eP]; exact d2⟩
        · have c : ¬ br < 8 := fun e => c ((qlt (b := 8) (by omega) (by omega)).mpr e)
          rw [if_pos (by omega)] at eP
          exact sp_fail hg hz (fun I2 d1 d2 => hk I2 ⟨d1, by rw [eP]; exact d2⟩)
end RD3
