/-! what a bend holds, grips .. : one value for both sides -/
theorem mc_w {c : Nat → Nat} {w w' : Nat → Int64} {nw e : Nat} (hw : ∀ a, a < nw → w a = w' a) : ∀ (d i t : Nat) (s : Nat → Int64), e - i ≤ d → mc c w nw e i t s = mc c w' nw e i t s := by
  intro d
  induction d with
  | zero =>
    intro i t s h
    conv => lhs; rw [mc, if_pos (show e ≤ i by omega)]
    conv => rhs; rw [mc, if_pos (show e ≤ i by omega)]
  | succ d ih =>
    intro i t s h
    by_cases g : e ≤ i
    · conv => lhs; rw [mc, if_pos g]
      conv => rhs; rw [mc, if_pos g]
    · conv => lhs; rw [mc, if_neg g]
      conv => rhs; rw [mc, if_neg g]
      have r2 : ∀ t s, mc c w nw e (i + 1) t s = mc c w' nw e (i + 1) t s := fun t s => ih (i + 1) t s (by omega)
      have r3 : ∀ a t s, mc c w nw e (max i a + 1) t s = mc c w' nw e (max i a + 1) t s := fun a t s => ih (max i a + 1) t s (by omega)
      simp only [r2, r3]
      by_cases q : nw ≤ c i % 1024
      · simp only [if_pos q]
      · rw [hw _ (by omega)]
section LW2
variable {w w' : Nat → Int64} (hw : ∀ a, a < 12 → w a = w' a)
theorem tstC_w {f1 f4 : Nat → Int32} {j : Nat} (hw : ∀ a, a < 12 → w a = w' a) : tstC f1 f4 w j = tstC f1 f4 w' j := by
  unfold tstC
  rw [mc_w hw _ _ _ _ (Nat.le_refl _)]
theorem smC_w {f1 f4 : Nat → Int32} {j : Nat} (hw : ∀ a, a < 12 → w a = w' a) : smC f1 f4 w j = smC f1 f4 w' j := mc_w hw _ _ _ _ (Nat.le_refl _)
theorem toldC_w {f1 f2 f4 : Nat → Int32} {kd : Int32} (hw : ∀ a, a < 12 → w a = w' a) : ∀ m, toldC f1 f2 f4 w kd m = toldC f1 f2 f4 w' kd m := by
  intro m
  induction m with
  | zero => rfl
  | succ m ih => simp only [toldC, tstC_w hw, smC_w hw, ih]
theorem banC_w {f1 f2 f4 : Nat → Int32} (hw : ∀ a, a < 12 → w a = w' a) : ∀ m, banC f1 f2 f4 w m = banC f1 f2 f4 w' m := by
  intro m
  induction m with
  | zero => rfl
  | succ m ih => simp only [banC, tstC_w hw, ih]
theorem lawT_w {S : tSH} {I : tHI} {kd : Int32} (hw : ∀ a, a < 12 → w a = w' a) : lawT S I w kd = lawT S I w' kd := by
  unfold lawT
  cases V8_inForce S I (fun _ _ => 0) 1 with
  | none => rfl
  | some p => exact toldC_w hw _
theorem lawB_w {S : tSH} {I : tHI} (hw : ∀ a, a < 12 → w a = w' a) : lawB S I w = lawB S I w' := by
  unfold lawB
  cases V8_inForce S I (fun _ _ => 0) 1 with
  | none => rfl
  | some p => exact banC_w hw _
end LW2
theorem wout_cg {W W' : Nat → Int32} {kd : Int32} (h : ∀ a, a < 12 → W a = W' a) : wout W kd = wout W' kd := by
  unfold wout
  rw [h 1 (by omega), h 2 (by omega), h 3 (by omega), h 4 (by omega), h 5 (by omega), h 6 (by omega)]
theorem tellV_cg {o : Option Int64} {W W' : Nat → Int32} {kd : Int32} (h : ∀ a, a < 12 → W a = W' a) : tellV o kd W = tellV o kd W' := by
  unfold tellV
  cases o with
  | none => exact wout_cg h
  | some v => rfl
/-- what a bend holds (0), grips (1), is feared above (2), pulls (3), learns (4), by the words W behind its own -/
def aT (S : tSH) (I : tHI) (r : Nat → Int32) (b : Nat) (W : Nat → Int32) (kd : Nat) : Int32 := tellV (lawT S I (wl (wB r b W)) (nI kd)) (nI kd) (wB r b W)
theorem wB_cg {r : Nat → Int32} {b : Nat} {W W' : Nat → Int32} (h : ∀ a, 3 ≤ a → a < 12 → W a = W' a) : ∀ a, a < 12 → wB r b W a = wB r b W' a := fun a ha => by
  unfold wB
  by_cases a0 : a = 0
  · rw [if_pos a0, if_pos a0]
  · rw [if_neg a0, if_neg a0]
    by_cases a1 : a = 1
    · rw [if_pos a1, if_pos a1]
    · rw [if_neg a1, if_neg a1]
      by_cases a2 : a = 2
      · rw [if_pos a2, if_pos a2]
      · rw [if_neg a2, if_neg a2]; exact h a (by omega) ha
theorem wl_cg {W W' : Nat → Int32} (h : ∀ a, a < 12 → W a = W' a) : ∀ a, a < 12 → wl W a = wl W' a := fun a ha => by unfold wl; rw [h a ha]
theorem aT_cg {S : tSH} {I : tHI} {r : Nat → Int32} {b : Nat} {W W' : Nat → Int32} {kd : Nat} (h : ∀ a, 3 ≤ a → a < 12 → W a = W' a) : aT S I r b W kd = aT S I r b W' kd := by
  unfold aT
  rw [lawT_w (wl_cg (wB_cg h)), tellV_cg (wB_cg h)]
theorem inForce_I {S : tSH} {I I' : tHI} (e : I' 1 = I 1) : V8_inForce S I' (fun _ _ => 0) 1 = V8_inForce S I (fun _ _ => 0) 1 := by unfold V8_inForce; rw [e]
/-- the law in force is the same, seen from the model's row -/
def FO (S : tSH) (I : tHI) (r : Nat → Int32) : Prop := (r 4 = -1 ∧ V8_inForce S I (fun _ _ => 0) 1 = none) ∨ ∃ f p : Nat, r 4 = nI f ∧ f < 6 ∧ V8_inForce S I (fun _ _ => 0) 1 = some p ∧ LRel S p (I p) (I (p + 1)) (I (p + 2)) (I (p + 4)) r (110 + 900 * f)
theorem FO.of {S : tSH} {I : tHI} {r : Nat → Int32} (h : RSt S I 1 r) : FO S I r := by
  rcases (force_ok (J := fun _ _ => 0) h).2 with ⟨a, b⟩ | ⟨f, p, a, b, c, d, e⟩
  · exact Or.inl ⟨a, b⟩
  · exact Or.inr ⟨f, p, a, c, d, e⟩
theorem FO.cg {S : tSH} {I I' : tHI} {r r' : Nat → Int32} (h : FO S I r) (e1 : I' 1 = I 1) (e89 : ∀ x, 89 ≤ x → I' x = I x) (e4 : r' 4 = r 4) (er : ∀ k, 110 ≤ k → r' k = r k) : FO S I' r' := by
  unfold FO
  rw [inForce_I e1, e4]
  rcases h with h | ⟨f, p, a, b, c, d⟩
  · exact Or.inl h
  · refine Or.inr ⟨f, p, a, b, c, ?_⟩
    have hp := d.1.2.1
    rw [e89 p hp, e89 (p + 1) (by omega), e89 (p + 2) (by omega), e89 (p + 4) (by omega)]
    exact d.r (fun k q _ => er k (by omega))
theorem lawT_I {S : tSH} {I I' : tHI} {r : Nat → Int32} (h : FO S I r) {w : Nat → Int64} {kd : Int32} (e1 : I' 1 = I 1) (e89 : ∀ x, 89 ≤ x → I' x = I x) : lawT S I' w kd = lawT S I w kd := by
  unfold lawT
  rw [inForce_I e1]
  rcases h with ⟨-, q⟩ | ⟨f, p, a, b, c, d⟩
  · rw [q]
  · have hp := d.1.2.1
    rw [c]
    show toldC (I' (p + 1)) (I' (p + 2)) (I' (p + 4)) w kd (I' p 4).toNatClampNeg = toldC (I (p + 1)) (I (p + 2)) (I (p + 4)) w kd (I p 4).toNatClampNeg
    rw [e89 p hp, e89 (p + 1) (by omega), e89 (p + 2) (by omega), e89 (p + 4) (by omega)]
theorem lawB_I {S : tSH} {I I' : tHI} {r : Nat → Int32} (h : FO S I r) {w : Nat → Int64} (e1 : I' 1 = I 1) (e89 : ∀ x, 89 ≤ x → I' x = I x) : lawB S I' w = lawB S I w := by
  unfold lawB
  rw [inForce_I e1]
  rcases h with ⟨-, q⟩ | ⟨f, p, a, b, c, d⟩
  · rw [q]
  · have hp := d.1.2.1
    rw [c]
    show banC (I' (p + 1)) (I' (p + 2)) (I' (p + 4)) w (I' p 4).toNatClampNeg = banC (I (p + 1)) (I (p + 2)) (I (p + 4)) w (I p 4).toNatClampNeg
    rw [e89 p hp, e89 (p + 1) (by omega), e89 (p + 2) (by omega), e89 (p + 4) (by omega)]
theorem aT_I {S : tSH} {I I' : tHI} {r : Nat → Int32} (h : FO S I r) {r0 : Nat → Int32} {b : Nat} {W : Nat → Int32} {kd : Nat} (e1 : I' 1 = I 1) (e89 : ∀ x, 89 ≤ x → I' x = I x) : aT S I' r0 b W kd = aT S I r0 b W kd := by
  unfold aT
  rw [lawT_I h e1 e89]
section LE
variable {n : Nat} {S : tSH} {I : tHI} {J : tHJ}
theorem sp_tellA {r : Nat → Int32} (hT : TY S) (hn : 400 < n) (h : RSt S I 1 r) {b : Nat} (hb : (b : Int) < (r 1).toInt) {kd : Nat} (hkd : kd ≤ 4) {W : Nat → Int32} (hWe : ∀ a, 3 ≤ a → a < 12 → I 49 a = W a) (hW : ∀ a, 3 ≤ a → a < 12 → -1000000000 ≤ (W a).toInt ∧ (W a).toInt ≤ 1000000000) {k : Int32 → tHI → tHJ → Prop} (hk : ∀ (I' : tHI) (J' : tHJ), (∀ x, x ≠ 49 → I' x = I x) → (∀ y, 3 ≤ y → I' 49 y = I 49 y) → (∀ x, x ≠ 47 → J' x = J x) → k (aT S I r b W kd) I' J') : F2_tell n S I J (nI kd) (nI b) k := by
  refine sp_tell2 hT hn h hb hkd (fun a p q => by rw [hWe a p q]; exact hW a p q) (fun I' J' a1 a2 a3 => ?_)
  have := hk I' J' a1 a2 a3
  rw [← aT_cg (W := I 49) hWe] at this
  exact this
/-- the model's tells -/
theorem sp_tells {w : Nat → Int64} {wo : Int64} {kd : Nat} (hkd : kd ≤ 5) (hn : 400 < n) (h20 : I 61 20 = 0) (hF : FO S I (I 63)) (hs : ∀ o, o ∈ [1, 2, 3, 4, 5, 6, 9, 10, 11] → J 79 o = w (o - 1)) (w6 : w 6 = (I 63 8).toInt64) (w7 : w 7 = (I 63 13).toInt64) (w11 : w 11 = (I 63 7).toInt64) {k : Int64 → tHI → tHJ → Prop} (hk : ∀ (I' : tHI) (J' : tHJ), (∀ x, x ≠ 61 → I' x = I x) → (∀ y, y ≠ 34 → y ≠ 38 → I' 61 y = I 61 y) → MJ J J' → k (if kd = 5 then (if lawB S I w = true then 1 else wo) else tld (lawT S I w (nI kd)) wo) I' J') : F12_tells n S I J (nI kd) wo k := by
  unfold F12_tells
  rcases hF with ⟨q1, q2⟩ | ⟨f, p, q1, q2, q3, q4⟩
  · refine ⟨fun g => absurd q1 g, fun _ => ?_⟩
    have := hk I J (fun _ _ => rfl) (fun _ _ _ => rfl) (MJ.rf J)
    have e1 : lawB S I w = false := by unfold lawB; rw [q2]
    have e2 : lawT S I w (nI kd) = none := by unfold lawT; rw [q2]
    rw [e1, e2] at this
    have e : (if kd = 5 then (if (false : Bool) = true then 1 else wo) else tld none wo) = wo := by
      by_cases k5 : kd = 5
      · rw [if_pos k5, if_neg (by decide)]
      · rw [if_neg k5]; rfl
    rw [e] at this
    exact this
  · refine ⟨fun _ => ?_, fun g => ?_⟩
    · have ea : 110 + 900 * I 63 4 = nI (110 + 900 * f) := by rw [q1, ql 110, ql 900, qmul, nI_add]
      rw [ea]
      simp only [uIn (show (63 : Nat) ≠ 61 by decide)]
      obtain ⟨m, hm, hm2⟩ : ∃ m, I p 4 = nI m ∧ m ≤ 12 := by
        obtain ⟨-, m, ln, mn, c, op, ar, ⟨b1, -⟩, ⟨e4, -⟩, -⟩ := q4
        exact ⟨m, e4, b1⟩
      have hset : setOK (uJ (uJ (uJ J 79 7 (I 63 8).toInt64) 79 8 (I 63 13).toInt64) 79 12 (I 63 7).toInt64) w := fun o p1 p2 => by
        simp only [uJe, upJ]
        have : o = 12 ∨ o = 8 ∨ o = 7 ∨ (o ∈ [1, 2, 3, 4, 5, 6, 9, 10, 11] ∧ o ≠ 12 ∧ o ≠ 8 ∧ o ≠ 7) := by
          have : o = 1 ∨ o = 2 ∨ o = 3 ∨ o = 4 ∨ o = 5 ∨ o = 6 ∨ o = 7 ∨ o = 8 ∨ o = 9 ∨ o = 10 ∨ o = 11 ∨ o = 12 := by omega
          rcases this with g | g | g | g | g | g | g | g | g | g | g | g <;> subst g <;> simp
        rcases this with g | g | g | ⟨g, g1, g2, g3⟩
        · subst g; simp [w11]
        · subst g; simp [w7]
        · subst g; simp [w6]
        · simp [g1, g2, g3]; exact hs o g
      have e63 : (uI I 61 34 (nI (110 + 900 * f))) 63 = I 63 := uIn (by decide)
      have fin := tells_L (n := n) (S := S) (p := p) (at0 := 110 + 900 * f) (w := w) (f0 := I p) (f1 := I (p + 1)) (f2 := I (p + 2)) (f4 := I (p + 4)) (wo := wo) hkd hm hm2 (I0 := uI I 61 34 (nI (110 + 900 * f))) (J0 := uJ (uJ (uJ J 79 7 (I 63 8).toInt64) 79 8 (I 63 13).toInt64) 79 12 (I 63 7).toInt64) hn (by rw [e63]; exact q4) (by rw [uIe, upn (by decide)]; exact h20) (by rw [uIe, upe]) (by omega) hset (k := k) (fun I' J' x1 x2 x3 x4 => ?_) m n 0 _ _ (by omega) (by omega) (fun _ _ => rfl) (fun _ _ => rfl) (fun _ _ _ => rfl) (fun _ _ _ => rfl)
      · have e : (if kd = 5 then (if banC (I (p + 1)) (I (p + 2)) (I (p + 4)) w 0 = true then 1 else wo) else tld (toldC (I (p + 1)) (I (p + 2)) (I (p + 4)) w (nI kd) 0) wo) = wo := by
          by_cases k5 : kd = 5
          · rw [if_pos k5]; show (if false = true then 1 else wo) = wo; exact if_neg (by decide)
          · rw [if_neg k5]; rfl
        rw [e] at fin
        exact fin
      · have := hk I' J' (fun x hx => by rw [x1 x hx, uIn hx]) (fun y p1 p2 => by rw [x2 y p2, uIe, upn p1]) ⟨fun x a b c => by rw [x3 x c a, uJn b, uJn b, uJn b], fun y a b => by rw [x4 y a b, uJn (by decide), uJn (by decide), uJn (by decide)]⟩
        have e1 : lawB S I w = banC (I (p + 1)) (I (p + 2)) (I (p + 4)) w m := by unfold lawB; rw [q3]; show banC _ _ _ _ (I p 4).toNatClampNeg = _; rw [hm, qn (by omega)]
        have e2 : lawT S I w (nI kd) = toldC (I (p + 1)) (I (p + 2)) (I (p + 4)) w (nI kd) m := by unfold lawT; rw [q3]; show toldC _ _ _ _ _ (I p 4).toNatClampNeg = _; rw [hm, qn (by omega)]
        rw [e1, e2] at this
        exact this
    · exfalso
      rw [q1] at g
      have := congrArg Int32.toInt g
      rw [qi (by omega), qneg] at this
      omega
end LE
