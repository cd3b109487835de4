/-! the class's parser reads as the grammar says -/
theorem CDe.lt {nw a c h : Nat} {f : Nat → Int32} {v : tV} (d : CDe nw f a c h v) : a < c := by
  obtain ⟨g, -, h2⟩ := d
  exact h2.1
section RD
variable {n : Nat} {S : tSH} {J : tHJ} {b : Nat → Nat} {z ord : Nat}
/-- what reading a piece comes to, from I at q with m parts and len ops -/
def CRs (b : Nat → Nat) (z ord q m len : Nat) (I : tHI) (res : aR3) (I' : tHI) : Prop := CF I I' ∧ match res with
  | .inl x => CX (I' 40) (I' 41) x
  | .inr (q', m', v) => ∃ len', CG b z (I' 40) (I' 41) q' m' len' ∧ len' + aF b z q ≤ len + aF b z q' ∧ (∀ i, i < len → I' 42 i = I 42 i) ∧ m ≤ m' ∧ CDe (if ord = 0 then 12 else 24) (I' 42) len len' (m' - m) v
-- in the state of a fault
theorem bad_L7s {rq : Nat → tHI → tHJ → Int32 → (tHI → tHJ → Prop) → Prop} {k : tHI → tHJ → Prop} {I : tHI} {f : Nat} {v1 v2 : Int32} (h : I 40 6 = 4) (hk : k I J) : F4_readSum_L7 n S rq k (f + 1) I J v1 v2 := by
  show F4_readSum_7 n S rq k (F4_readSum_L7 n S rq k f) I J v1 v2
  unfold F4_readSum_7 F4_readSum_72
  exact ⟨fun _ => hk, fun _ => bad_sign h (fun _ => ⟨fun y => absurd rfl y, fun _ => bad_sign h (fun _ => ⟨fun _ => hk, fun y => absurd rfl y⟩)⟩)⟩
theorem bad_L7t {rq : Nat → tHI → tHJ → Int32 → (tHI → tHJ → Prop) → Prop} {k : tHI → tHJ → Prop} {I : tHI} {f : Nat} {v1 v2 : Int32} (h : I 40 6 = 4) (hk : k I J) : F4_readTerm_L7 n S rq k (f + 1) I J v1 v2 := by
  show F4_readTerm_7 n S rq k (F4_readTerm_L7 n S rq k f) I J v1 v2
  unfold F4_readTerm_7 F4_readTerm_95
  exact ⟨fun _ => hk, fun _ => bad_sign h (fun _ => ⟨fun y => absurd rfl y, fun _ => bad_sign h (fun _ => ⟨fun y => absurd rfl y, fun _ => bad_sign h (fun _ => ⟨fun _ => hk, fun y => absurd rfl y⟩)⟩)⟩)⟩
theorem bad_L7o {rq : Nat → tHI → tHJ → Int32 → (tHI → tHJ → Prop) → Prop} {k : tHI → tHJ → Prop} {I : tHI} {f : Nat} {v1 v2 : Int32} (h : I 40 6 = 4) (hk : k I J) : F4_readTest_L7 n S rq k (f + 1) I J v1 v2 := by
  show F4_readTest_7 n S rq k (F4_readTest_L7 n S rq k f) I J v1 v2
  unfold F4_readTest_7 F4_readTest_57
  exact ⟨fun _ => hk, fun _ => bad_word h ⟨fun _ => hk, fun y => absurd y (by decide)⟩⟩
theorem bad_L7a {rq : Nat → tHI → tHJ → Int32 → (tHI → tHJ → Prop) → Prop} {k : tHI → tHJ → Prop} {I : tHI} {f : Nat} {v1 v2 : Int32} (h : I 40 6 = 4) (hk : k I J) : F4_readBoth_L7 n S rq k (f + 1) I J v1 v2 := by
  show F4_readBoth_7 n S rq k (F4_readBoth_L7 n S rq k f) I J v1 v2
  unfold F4_readBoth_7 F4_readBoth_57
  exact ⟨fun _ => hk, fun _ => bad_word h ⟨fun _ => hk, fun y => absurd y (by decide)⟩⟩
theorem bad_sum (hn : 1001 < n) {I : tHI} {x : Nat} {k : tHI → tHJ → Prop} {f : Nat} {v : Int32} (h : CX (I 40) (I 41) x) (hk : ∀ I', CF I I' → CX (I' 40) (I' 41) x → k I' J) : F4_rec n S (f + 3) 3 I J v k := by
  obtain ⟨n, rfl⟩ : ∃ g, n = g + 1 := ⟨n - 1, by omega⟩
  show F4_readSum (n + 1) S (F4_rec (n + 1) S (f + 2)) I J v k
  unfold F4_readSum
  show F4_readTerm (n + 1) S (F4_rec (n + 1) S (f + 1)) I J v _
  unfold F4_readTerm
  show F4_readPart (n + 1) S (F4_rec (n + 1) S f) I J v _
  have h6 := h.2.2.1
  have p53 : ∀ s, F4_readPart_53 (n + 1) S (F4_rec (n + 1) S f) (fun I1 J2 => F4_readTerm_L7 (n + 1) S (F4_rec (n + 1) S (f + 1)) (fun I1 J2 => F4_readSum_L7 (n + 1) S (F4_rec (n + 1) S (f + 2)) k (n + 1) I1 J2 v 0) (n + 1) I1 J2 v 0) I J s := by
    intro s
    unfold F4_readPart_53 F4_readPart_99
    refine bad_word h6 ⟨fun _ => bad_fail h (fun I' c1 c2 => bad_L7t c2.2.2.1 (bad_L7s c2.2.2.1 (hk I' c1 c2))), fun g => ?_⟩
    rw [if_pos rfl, h6, if_neg (by decide)] at g
    exact absurd rfl g
  unfold F4_readPart
  exact bad_sign h6 (fun _ => ⟨fun _ => ⟨fun _ => p53 _, fun _ => p53 _⟩, fun g => absurd rfl g⟩)
-- the loops behind a first piece
section LOOP
variable {wh br f0 q0 m0 len0 : Nat} {r : Nat → Nat → aR3} {I0 : tHI} {res : aR3} {kk : tHI → tHJ → Prop} {LL : Nat → tHI → tHJ → Int32 → Prop}
theorem loopA (h2 : sQ S 40 2 = some 38) (h42 : sL S 42 = 400) (hn : 1001 < n) (ht : CTp b z (I0 38) (I0 39)) (hord : I0 40 3 = nI ord) (hw : wh = 3 ∨ wh = 4)
    (hX : ∀ f I, kk I J → LL (f + 1) I J (nI 400))
    (hB : ∀ f I j, I 40 6 = 4 → kk I J → LL (f + 1) I J j)
    (hE : ∀ f I j q m len, j < 400 → CTp b z (I 38) (I 39) → CG b z (I 40) (I 41) q m len → aOp b z wh q = 0 → kk I J → LL (f + 1) I J (nI j))
    (hS : ∀ f I j q m len, j < 400 → CTp b z (I 38) (I 39) → CG b z (I 40) (I 41) q m len → aOp b z wh q ≠ 0 → F4_advance n S I J (fun I1 J1 => F4_rec n S f0 (wh + 1) I1 J1 (nI br) (fun I2 J2 => F6_emit n S I2 J2 41 (nI (aOp b z wh q)) (nI 0) (fun _ I3 J3 => LL f I3 J3 (nI j + 1)))) → LL (f + 1) I J (nI j))
    (hok : ∀ q m q' m' v, q ≤ z → r q m = .inr (q', m', v) → aGd b z (wh + 1) q m q' m' v)
    (hrec : ∀ (q m len : Nat) (I : tHI) (k' : tHI → tHJ → Prop), CTp b z (I 38) (I 39) → I 40 3 = nI ord → CG b z (I 40) (I 41) q m len → (∀ I', CRs b z ord q m len I (r q m) I' → k' I' J) → F4_rec n S f0 (wh + 1) I J (nI br) k')
    (hk : ∀ I', CRs b z ord q0 m0 len0 I0 res I' → kk I' J) : ∀ (lf fh q m len : Nat) (v : tV) (I : tHI) (j : Nat), j + lf = 400 → lf < fh → CF I0 I → CG b z (I 40) (I 41) q m len → len + aF b z q0 ≤ len0 + aF b z q → (∀ i, i < len0 → I 42 i = I0 42 i) → m0 ≤ m → CDe (if ord = 0 then 12 else 24) (I 42) len0 len (m - m0) v → aL b z r wh lf q m v = res → LL fh I J (nI j) := by
  intro lf
  induction lf with
  | zero =>
    intro fh q m len v I j hj hf c1 c2 c3 c4 c5 c6 e
    obtain ⟨fh, rfl⟩ : ∃ g, fh = g + 1 := ⟨fh - 1, by omega⟩
    have : j = 400 := by omega
    subst this
    subst e
    exact hX fh I (hk I ⟨c1, len, c2, c3, c4, c5, c6⟩)
  | succ lf ih =>
    intro fh q m len v I j hj hf c1 c2 c3 c4 c5 c6 e
    obtain ⟨fh, rfl⟩ : ∃ g, fh = g + 1 := ⟨fh - 1, by omega⟩
    have htI := ht.cf c1
    have e : (if aOp b z wh q = 0 then (.inr (q, m, v) : aR3) else match r (aE b z q) m with
      | .inl x => .inl x
      | .inr (q', m', v') => aL b z r wh lf q' m' (aJ (aOp b z wh q) v v')) = res := e
    by_cases g : aOp b z wh q = 0
    · rw [if_pos g] at e
      subst e
      exact hE fh I j q m len (by omega) htI c2 g (hk I ⟨c1, len, c2, c3, c4, c5, c6⟩)
    · rw [if_neg g] at e
      have k0 := aOp_k g
      have u := aF_up k0
      have hz := ht.1
      refine hS fh I j q m len (by omega) htI c2 g (CG.adv h2 htI hn c2 (fun I1 a1 g1 => ?_))
      refine hrec _ _ _ _ _ (htI.adv a1) (by rw [a1.2 3 (by decide), c1.2.1]; exact hord) g1 (fun I2 r2 => ?_)
      obtain ⟨f2, r2⟩ := r2
      have cf2 : CF I0 I2 := (c1.adv a1).trans f2
      cases hx : r (aE b z q) m with
      | inl x =>
        rw [hx] at e r2
        subst e
        obtain ⟨fh, rfl⟩ : ∃ g, fh = g + 1 := ⟨fh - 1, by omega⟩
        exact bad_emit h42 r2 (fun _ I3 f3 x3 => hB fh I3 _ x3.2.2.1 (hk I3 ⟨cf2.trans f3, x3⟩))
      | inr p =>
        obtain ⟨q2, m2, v2⟩ := p
        rw [hx] at e r2
        obtain ⟨len2, g2, s2, t2, m2', d2⟩ := r2
        obtain ⟨o1, o2, o3, o4, o5, o6⟩ := hok _ _ _ _ _ g1.2.2.2.2.2.2 hx
        have l2 : len2 < 400 := by
          have := aF_le (b := b) o2
          have := c2.2.2.2.2.2.1
          omega
        refine sp_emit h42 g2.2.2.2.2.1 l2 ?_
        rw [nI_1]
        have i40 : ∀ y, (uI (uI I2 42 len2 (nI (aOp b z wh q * 1024 + 0))) 41 5 (nI (len2 + 1))) 40 y = I2 40 y := fun y => by rw [uIn (by decide), uIn (by decide)]
        have w42 : ∀ i, i < len2 → (uI (uI I2 42 len2 (nI (aOp b z wh q * 1024 + 0))) 41 5 (nI (len2 + 1))) 42 i = I2 42 i := fun i hi => by rw [uIn (by decide), uIe, upn (by omega)]
        have w42e : (uI (uI I2 42 len2 (nI (aOp b z wh q * 1024 + 0))) 41 5 (nI (len2 + 1))) 42 len2 = nI (aOp b z wh q * 1024) := by rw [uIn (by decide), uIe, upe, Nat.add_zero]
        have a42 : ∀ i, I1 42 i = I 42 i := fun i => by rw [a1.1 42 (by decide)]
        have dl := c6.lt
        have dl2 := d2.lt
        have ho : 2 ≤ aOp b z wh q ∧ aOp b z wh q ≤ 9 := by
          revert g
          unfold aOp
          rcases hw with w | w <;> subst w
          · rw [if_neg (by decide), if_neg (by decide), if_pos rfl]
            intro g
            by_cases y1 : aS b z q = 43
            · rw [if_pos y1]; omega
            · rw [if_neg y1] at g ⊢
              by_cases y2 : aS b z q = 45
              · rw [if_pos y2]; omega
              · rw [if_neg y2] at g; exact absurd rfl g
          · rw [if_neg (by decide), if_neg (by decide), if_neg (by decide), if_pos rfl]
            intro g
            by_cases y1 : aS b z q = 42
            · rw [if_pos y1]; omega
            · rw [if_neg y1] at g ⊢
              by_cases y2 : aS b z q = 47
              · rw [if_pos y2]; omega
              · rw [if_neg y2] at g ⊢
                by_cases y3 : aS b z q = 37
                · rw [if_pos y3]; omega
                · rw [if_neg y3] at g; exact absurd rfl g
        refine ih fh q2 m2 (len2 + 1) (aJ (aOp b z wh q) v v2) _ (j + 1) (by omega) (by omega) cf2.w42.w41 ?_ (by omega) (fun i hi => ?_) (by omega) ?_ e
        · obtain ⟨⟨t1, t2', t3, t4⟩, g22, g23, g24, g25, g26, g27⟩ := g2
          refine ⟨⟨by rw [i40]; exact t1, by rw [i40]; exact t2', by rw [i40]; exact t3, fun y => by rw [i40]; exact t4 y⟩, by rw [i40]; exact g22, by rw [i40]; exact g23, g24, ?_, by have := c2.2.2.2.2.2.1; omega, g27⟩
          rw [uIe, upe]
        · rw [w42 i (by omega), t2 i (by omega), a42, c4 i hi]
        · have ej : aJ (aOp b z wh q) v v2 = vBin (aOp b z wh q) v v2 := by unfold aJ; rw [if_neg (by omega), if_neg (by omega)]
          rw [ej]
          refine (CDe.bin (c6.cg fun i i1 i2 => ?_) (d2.cg fun i i1 i2 => w42 i i2) ho w42e).hh (by omega)
          rw [w42 i (by omega), t2 i i2, a42]
theorem loopB (h2 : sQ S 40 2 = some 38) (h42 : sL S 42 = 400) (hn : 1001 < n) (ht : CTp b z (I0 38) (I0 39)) (hord : I0 40 3 = nI ord) (hw : wh = 0 ∨ wh = 1)
    (hX : ∀ f I, kk I J → LL (f + 1) I J (nI 400))
    (hB : ∀ f I j, I 40 6 = 4 → kk I J → LL (f + 1) I J j)
    (hE : ∀ f I j q m len, j < 400 → CTp b z (I 38) (I 39) → CG b z (I 40) (I 41) q m len → aOp b z wh q = 0 → kk I J → LL (f + 1) I J (nI j))
    (hS : ∀ f I j q m len, j < 400 → CTp b z (I 38) (I 39) → CG b z (I 40) (I 41) q m len → aOp b z wh q ≠ 0 → F6_emit n S I J 41 (nI (aOp b z wh q)) (nI 0) (fun x I1 J1 => F4_advance n S I1 J1 (fun I2 J2 => F4_rec n S f0 (wh + 1) I2 J2 (nI br) (fun I3 J3 => F6_landFrom n S I3 J3 41 x (fun I4 J4 => LL f I4 J4 (nI j + 1))))) → LL (f + 1) I J (nI j))
    (hok : ∀ q m q' m' v, q ≤ z → r q m = .inr (q', m', v) → aGd b z (wh + 1) q m q' m' v)
    (hrec : ∀ (q m len : Nat) (I : tHI) (k' : tHI → tHJ → Prop), CTp b z (I 38) (I 39) → I 40 3 = nI ord → CG b z (I 40) (I 41) q m len → (∀ I', CRs b z ord q m len I (r q m) I' → k' I' J) → F4_rec n S f0 (wh + 1) I J (nI br) k')
    (hk : ∀ I', CRs b z ord q0 m0 len0 I0 res I' → kk I' J) : ∀ (lf fh q m len : Nat) (v : tV) (I : tHI) (j : Nat), j + lf = 400 → lf < fh → CF I0 I → CG b z (I 40) (I 41) q m len → len + aF b z q0 ≤ len0 + aF b z q → (∀ i, i < len0 → I 42 i = I0 42 i) → m0 ≤ m → CDe (if ord = 0 then 12 else 24) (I 42) len0 len (m - m0) v → aL b z r wh lf q m v = res → LL fh I J (nI j) := by
  intro lf
  induction lf with
  | zero =>
    intro fh q m len v I j hj hf c1 c2 c3 c4 c5 c6 e
    obtain ⟨fh, rfl⟩ : ∃ g, fh = g + 1 := ⟨fh - 1, by omega⟩
    have : j = 400 := by omega
    subst this
    subst e
    exact hX fh I (hk I ⟨c1, len, c2, c3, c4, c5, c6⟩)
  | succ lf ih =>
    intro fh q m len v I j hj hf c1 c2 c3 c4 c5 c6 e
    obtain ⟨fh, rfl⟩ : ∃ g, fh = g + 1 := ⟨fh - 1, by omega⟩
    have htI := ht.cf c1
    have e : (if aOp b z wh q = 0 then (.inr (q, m, v) : aR3) else match r (aE b z q) m with
      | .inl x => .inl x
      | .inr (q', m', v') => aL b z r wh lf q' m' (aJ (aOp b z wh q) v v')) = res := e
    by_cases g : aOp b z wh q = 0
    · rw [if_pos g] at e
      subst e
      exact hE fh I j q m len (by omega) htI c2 g (hk I ⟨c1, len, c2, c3, c4, c5, c6⟩)
    · rw [if_neg g] at e
      have k0 := aOp_k g
      have u := aF_up k0
      have hz := ht.1
      have hlz := (aE_gt k0).2.2
      have l0 : len < 400 := by have := c2.2.2.2.2.2.1; omega
      have ho : aOp b z wh q = 11 ∨ aOp b z wh q = 12 := by
        revert g
        unfold aOp
        rcases hw with w | w <;> subst w
        · rw [if_pos rfl]
          intro g
          by_cases y1 : aX b z q 4 = some 0
          · rw [if_pos y1]; exact Or.inr rfl
          · rw [if_neg y1] at g; exact absurd rfl g
        · rw [if_neg (by decide), if_pos rfl]
          intro g
          by_cases y1 : aX b z q 5 = some 0
          · rw [if_pos y1]; exact Or.inl rfl
          · rw [if_neg y1] at g; exact absurd rfl g
      refine hS fh I j q m len (by omega) htI c2 g (sp_emit h42 c2.2.2.2.2.1 l0 ?_)
      have cf1 : CF I0 (uI (uI I 42 len (nI (aOp b z wh q * 1024 + 0))) 41 5 (nI (len + 1))) := c1.w42.w41
      have i40 : (uI (uI I 42 len (nI (aOp b z wh q * 1024 + 0))) 41 5 (nI (len + 1))) 40 = I 40 := by rw [uIn (by decide), uIn (by decide)]
      have i41 : (uI (uI I 42 len (nI (aOp b z wh q * 1024 + 0))) 41 5 (nI (len + 1))) 41 5 = nI (len + 1) := by rw [uIe, upe]
      have w42 : ∀ i, i ≠ len → (uI (uI I 42 len (nI (aOp b z wh q * 1024 + 0))) 41 5 (nI (len + 1))) 42 i = I 42 i := fun i hi => by rw [uIn (by decide), uIe, upn hi]
      have w42e : (uI (uI I 42 len (nI (aOp b z wh q * 1024 + 0))) 41 5 (nI (len + 1))) 42 len = nI (aOp b z wh q * 1024) := by rw [uIn (by decide), uIe, upe, Nat.add_zero]
      generalize (uI (uI I 42 len (nI (aOp b z wh q * 1024 + 0))) 41 5 (nI (len + 1))) = I1 at cf1 i40 i41 w42 w42e ⊢
      obtain ⟨v1, v2, v3, v4, v5, v6, v7⟩ := c2
      have htI1 := ht.cf cf1
      have h16 : ¬ I1 40 6 = 4 := by rw [i40, v1.2.2.1]; have kr := aK_r (b := b) (z := z) q; exact fun y => by have := (qeq (b := 4) (by omega) (by omega)).mp y; omega
      obtain ⟨e1, e2⟩ := aE_le (b := b) v7
      have u1 := aF_ge (b := b) (z := z) (aE b z q)
      refine sp_adv h2 htI1 (by omega) e2 (by rw [i40]; exact v1.1) h16 (fun I2 a2 ct2 => ?_)
      have g2 : CG b z (I2 40) (I2 41) (aE b z q) m (len + 1) := ⟨ct2, by rw [a2.2 1 (by decide), i40]; exact v2, by rw [a2.2 8 (by decide), i40]; exact v3, v4, by rw [a2.1 41 (by decide)]; exact i41, by omega, e2⟩
      refine hrec _ _ _ _ _ (htI1.adv a2) (by rw [a2.2 3 (by decide), cf1.2.1]; exact hord) g2 (fun I3 r3 => ?_)
      obtain ⟨f3, r3⟩ := r3
      have cf3 : CF I0 I3 := (cf1.adv a2).trans f3
      cases hx : r (aE b z q) m with
      | inl x =>
        rw [hx] at e r3
        subst e
        obtain ⟨fh, rfl⟩ : ∃ g, fh = g + 1 := ⟨fh - 1, by omega⟩
        exact bad_land h42 r3 (fun I4 f4 x4 => hB fh I4 _ x4.2.2.1 (hk I4 ⟨cf3.trans f4, x4⟩))
      | inr p =>
        obtain ⟨q3, m3, v3'⟩ := p
        rw [hx] at e r3
        obtain ⟨len3, g3, s3, t3, m3', d3⟩ := r3
        obtain ⟨o1, o2, o3, o4, o5, o6⟩ := hok _ _ _ _ _ e2 hx
        have l3 : len3 ≤ 400 := by
          have := aF_le (b := b) o2
          omega
        have dl := c6.lt
        have dl3 := d3.lt
        have a42 : ∀ i, I2 42 i = I1 42 i := fun i => by rw [a2.1 42 (by decide)]
        refine sp_land h42 g3.2.2.2.2.1 l3 (p := len) (w := aOp b z wh q * 1024) (by omega) (by rw [t3 len (by omega), a42, w42e]) ?_
        rw [nI_1]
        have x40 : ∀ y, (uI I3 42 len (nI (aOp b z wh q * 1024 + len3))) 40 y = I3 40 y := fun y => by rw [uIn (by decide)]
        have x42 : ∀ i, i ≠ len → (uI I3 42 len (nI (aOp b z wh q * 1024 + len3))) 42 i = I3 42 i := fun i hi => by rw [uIe, upn hi]
        refine ih fh q3 m3 len3 (aJ (aOp b z wh q) v v3') _ (j + 1) (by omega) (by omega) cf3.w42 ?_ (by omega) (fun i hi => ?_) (by omega) ?_ e
        · obtain ⟨⟨t1, t2', t3', t4⟩, g22, g23, g24, g25, g26, g27⟩ := g3
          refine ⟨⟨by rw [x40]; exact t1, by rw [x40]; exact t2', by rw [x40]; exact t3', fun y => by rw [x40]; exact t4 y⟩, by rw [x40]; exact g22, by rw [x40]; exact g23, g24, ?_, g26, g27⟩
          rw [uIn (by decide)]; exact g25
        · rw [x42 i (by omega), t3 i (by omega), a42, w42 i (by omega), c4 i hi]
        · refine (CDe.jmp (c6.cg fun i i1 i2 => ?_) (d3.cg fun i i1 i2 => x42 i (by omega)) ho (by rw [uIe, upe]) l3).hh (by omega)
          rw [x42 i (by omega), t3 i (by omega), a42, w42 i (by omega)]
end LOOP
end RD
