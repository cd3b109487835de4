/-! the model goes on to the next token -/
def MTp (b : Nat → Nat) (z : Nat) (f61 f70 : Nat → Int32) : Prop := z ≤ 400 ∧ f61 13 = nI z ∧ ∀ i, i < z → f70 i = nI (b i) ∧ b i < 256
/-- what the token is worth -/
def MWo (b : Nat → Nat) (z : Nat) (w : Int64) (q : Nat) : Prop := (aK b z q = 1 → (aE b z q - aF b z q ≤ 10 → w.toInt = (wrd b 32 96 (aF b z q) (aE b z q - aF b z q) : Nat)) ∧ (10 < aE b z q - aF b z q → w = -1)) ∧ (aK b z q = 2 → (aN b z q ≤ 1000 → w.toInt = (aN b z q : Nat)) ∧ (1000 < aN b z q → 1000 < w.toInt)) ∧ (aK b z q = 3 → w.toInt = (b (aF b z q) : Nat))
def MT (b : Nat → Nat) (z : Nat) (f61 : Nat → Int32) (w : Int64) (q : Nat) : Prop := f61 14 = nI (aF b z q) ∧ f61 15 = nI (aE b z q) ∧ f61 16 = nI (aK b z q) ∧ MWo b z w q
/-- what next writes -/
def MAd (I I' : tHI) (J J' : tHJ) : Prop := (∀ x, x ≠ 61 → I' x = I x) ∧ (∀ y, y ∉ [14, 15, 16] → I' 61 y = I 61 y) ∧ (∀ x, x ≠ 61 → J' x = J x) ∧ ∀ y, y ≠ 17 → J' 61 y = J 61 y
theorem MAd.rf (I : tHI) (J : tHJ) : MAd I I J J := ⟨fun _ _ => rfl, fun _ _ => rfl, fun _ _ => rfl, fun _ _ => rfl⟩
theorem MAd.w {I X : tHI} {J Y : tHJ} (h : MAd I X J Y) {y : Nat} {v : Int32} (hy : y ∈ [14, 15, 16]) : MAd I (uI X 61 y v) J Y := by
  refine ⟨fun x hx => by rw [uIn hx]; exact h.1 x hx, fun t ht => ?_, h.2.2⟩
  have e : t ≠ y := fun e => ht (by rw [e]; exact hy)
  rw [uIe, upn e]
  exact h.2.1 t ht
theorem MAd.j {I X : tHI} {J Y : tHJ} (h : MAd I X J Y) {v : Int64} : MAd I X J (uJ Y 61 17 v) := by
  refine ⟨h.1, h.2.1, fun x hx => by rw [uJn hx]; exact h.2.2.1 x hx, fun t ht => ?_⟩
  rw [uJe, upJn ht]
  exact h.2.2.2 t ht
theorem small {x : Nat} (h : x < 256) : V12_isSmall (nI x) = 0 ↔ ¬ kB x = 1 := by
  have l : nI x < 97 ↔ x < 97 := qlt (b := 97) (by omega) (by omega)
  have l2 : 122 < nI x ↔ 122 < x := qlt (a := 122) (by omega) (by omega)
  unfold V12_isSmall
  rw [kB_1]
  by_cases g : x < 97
  · rw [if_pos (l.mpr g)]; exact ⟨fun _ q => by omega, fun _ => rfl⟩
  · rw [if_neg (fun y => g (l.mp y))]
    by_cases g2 : 122 < x
    · rw [if_pos (l2.mpr g2)]; exact ⟨fun _ q => by omega, fun _ => rfl⟩
    · rw [if_neg (fun y => g2 (l2.mp y))]; exact ⟨fun y => absurd y (by decide), fun y => absurd (show 97 ≤ x ∧ x ≤ 122 by omega) y⟩
theorem digit {x : Nat} (h : x < 256) : V12_isDigit (nI x) = 0 ↔ ¬ kB x = 2 := by
  have l : nI x < 48 ↔ x < 48 := qlt (b := 48) (by omega) (by omega)
  have l2 : 57 < nI x ↔ 57 < x := qlt (a := 57) (by omega) (by omega)
  unfold V12_isDigit
  rw [kB_2]
  by_cases g : x < 48
  · rw [if_pos (l.mpr g)]; exact ⟨fun _ q => by omega, fun _ => rfl⟩
  · rw [if_neg (fun y => g (l.mp y))]
    by_cases g2 : 57 < x
    · rw [if_pos (l2.mpr g2)]; exact ⟨fun _ q => by omega, fun _ => rfl⟩
    · rw [if_neg (fun y => g2 (l2.mp y))]; exact ⟨fun y => absurd y (by decide), fun y => absurd (show 48 ≤ x ∧ x ≤ 57 by omega) y⟩
section NX
variable {n : Nat} {S : tSH} {k : tHI → tHJ → Prop} {b : Nat → Nat} {z q : Nat} {I0 : tHI} {J0 : tHJ}
theorem MTp.ad {X : tHI} {Y : tHJ} (h : MTp b z (I0 61) (I0 70)) (g : MAd I0 X J0 Y) : MTp b z (X 61) (X 70) := by
  unfold MTp
  rw [g.2.1 13 (by decide), g.1 70 (by decide)]; exact h
theorem nx_243 (ht : MTp b z (I0 61) (I0 70)) (hk : ∀ (I' : tHI) (J' : tHJ), MAd I0 I' J0 J' → MT b z (I' 61) (J' 61 17) q → k I' J') : ∀ (d f i : Nat) (X : tHI) (Y : tHJ), z - i ≤ d → d < f → MAd I0 X J0 Y → aF b z q ≤ i → X 61 14 = nI (aF b z q) → X 61 15 = nI i → X 61 16 = nI (aK b z q) → i ≤ z → (aK b z q ≠ 2 → i = aE b z q ∧ MWo b z (Y 61 17) q) → (aK b z q = 2 → aR b z 2 i = aE b z q ∧ 0 ≤ (Y 61 17).toInt ∧ (Y 61 17).toInt ≤ 10000009 ∧ (wrd b 10 48 (aF b z q) (i - aF b z q) ≤ 1000 → (Y 61 17).toInt = (wrd b 10 48 (aF b z q) (i - aF b z q) : Nat)) ∧ (1000 < wrd b 10 48 (aF b z q) (i - aF b z q) → 1000 < (Y 61 17).toInt)) → F12_next_L243 n S k f X Y := by
  have hz := ht.1
  intro d
  have fin : ∀ (i : Nat) (X : tHI) (Y : tHJ), MAd I0 X J0 Y → X 61 14 = nI (aF b z q) → X 61 15 = nI i → X 61 16 = nI (aK b z q) → aK b z q = 2 → i = aE b z q → (wrd b 10 48 (aF b z q) (i - aF b z q) ≤ 1000 → (Y 61 17).toInt = (wrd b 10 48 (aF b z q) (i - aF b z q) : Nat)) → (1000 < wrd b 10 48 (aF b z q) (i - aF b z q) → 1000 < (Y 61 17).toInt) → k X Y := by
    intro i X Y c1 c2 c3 c4 c5 c6 c7 c8
    subst c6
    exact hk X Y c1 ⟨c2, c3, c4, fun y => by omega, fun _ => ⟨c7, c8⟩, fun y => by omega⟩
  have kr := aK_r (b := b) (z := z) q
  induction d with
  | zero =>
    intro f i X Y hd hf c1 c2 c3 c4 c5 c6 c7 c8
    obtain ⟨f, rfl⟩ : ∃ g, f = g + 1 := ⟨f - 1, by omega⟩
    show F12_next_243 n S k (F12_next_L243 n S k f) X Y
    unfold F12_next_243 F12_next_335
    rw [c5, c4, (ht.ad c1).2.1]
    refine ⟨fun y => ?_, fun y => ⟨fun y2 => ?_, fun y2 => ?_⟩⟩
    · have y : aK b z q ≠ 2 := fun e => y (by rw [e]; rfl)
      obtain ⟨e, e2⟩ := c7 y
      exact hk X Y c1 ⟨c3, by rw [c4, e], c5, e2⟩
    · have y : aK b z q = 2 := (qeq (b := 2) (by omega) (by omega)).mp y
      obtain ⟨e1, -, -, e2, e3⟩ := c8 y
      exact fin i X Y c1 c3 c4 c5 y (by rw [← e1, aR_u, if_neg (fun g => by omega)]) e2 e3
    · exact absurd ((qle (by omega) (by omega)).mpr (by omega)) y2
  | succ d ih =>
    intro f i X Y hd hf c1 c2 c3 c4 c5 c6 c7 c8
    obtain ⟨f, rfl⟩ : ∃ g, f = g + 1 := ⟨f - 1, by omega⟩
    show F12_next_243 n S k (F12_next_L243 n S k f) X Y
    unfold F12_next_243 F12_next_335
    rw [c5, c4, (ht.ad c1).2.1]
    refine ⟨fun y => ?_, fun y => ⟨fun y2 => ?_, fun y2 => ?_⟩⟩
    · have y : aK b z q ≠ 2 := fun e => y (by rw [e]; rfl)
      obtain ⟨e, e2⟩ := c7 y
      exact hk X Y c1 ⟨c3, by rw [c4, e], c5, e2⟩
    · have y : aK b z q = 2 := (qeq (b := 2) (by omega) (by omega)).mp y
      have y2 : z ≤ i := (qle (by omega) (by omega)).mp y2
      obtain ⟨e1, -, -, e2, e3⟩ := c8 y
      exact fin i X Y c1 c3 c4 c5 y (by rw [← e1, aR_u, if_neg (fun g => by omega)]) e2 e3
    · have y : aK b z q = 2 := (qeq (b := 2) (by omega) (by omega)).mp y
      have y2 : i < z := by
        rcases Nat.lt_or_ge i z with g | g
        · exact g
        · exact absurd ((qle (by omega) (by omega)).mpr g) y2
      obtain ⟨e1, e0, e0', e2, e3⟩ := c8 y
      obtain ⟨hb, hb2⟩ := (ht.ad c1).2.2 i y2
      have hin : vp_in (nI i) 400 := (qin (by omega)).mpr (by omega)
      refine ⟨hin, ?_⟩
      rw [qn (by omega), hb]
      refine ⟨fun c => ?_, fun c => ?_⟩
      · have c := (digit hb2).mp c
        exact fin i X Y c1 c3 c4 c5 y (by rw [← e1, aR_u, if_neg (fun g => c g.2)]) e2 e3
      · have c : kB (b i) = 2 := Classical.not_not.mp (fun g => c ((digit hb2).mpr g))
        have cb := kB_2.mp c
        refine ⟨⟨fun _ => ⟨hin, trivial⟩, fun _ => trivial⟩, ?_⟩
        have ew : wrd b 10 48 (aF b z q) (i + 1 - aF b z q) = wrd b 10 48 (aF b z q) (i - aF b z q) * 10 + (b i - 48) := by
          rw [show i + 1 - aF b z q = (i - aF b z q) + 1 by omega]
          show wrd b 10 48 (aF b z q) (i - aF b z q) * 10 + (b (aF b z q + (i - aF b z q)) - 48) = _
          rw [show aF b z q + (i - aF b z q) = i by omega]
        refine ih f (i + 1) _ _ (by omega) (by omega) ((c1.w (by decide)).j) (by omega) (by rw [uIe, upn (by decide)]; exact c3) (by rw [uIe, upe, nI_1]) (by rw [uIe, upn (by decide)]; exact c5) (by omega) (fun g => absurd y g) (fun _ => ?_)
        rw [uJe, upJe, ew]
        have er : aR b z 2 (i + 1) = aE b z q := by
          rw [← e1]
          conv => rhs; rw [aR_u, if_pos ⟨y2, c⟩]
        have m6 : (1000000 : Int64).toInt = 1000000 := by decide +kernel
        have m10 : (10 : Int64).toInt = 10 := by decide +kernel
        have m48 : (48 : Int64).toInt = 48 := by decide +kernel
        generalize wrd b 10 48 (aF b z q) (i - aF b z q) = W at e2 e3 ⊢
        generalize Y 61 17 = w at e0 e0' e2 e3 ⊢
        have cl : lg_cmp w 1000000 ≤ 0 ↔ w.toInt ≤ 1000000 := by rw [lg_cmp_le, Int64.le_iff_toInt_le, m6]
        by_cases g : w.toInt ≤ 1000000
        · rw [if_pos (cl.mpr g)]
          have h1 : (w * 10).toInt = w.toInt * 10 := tl_mul (by rw [m10]) (by omega) (by omega)
          have h2 : ((nI (b i)).toInt64).toInt = (b i : Int) := by rw [Int32.toInt_toInt64, qi (by omega)]
          have h3 : (w * 10 + (nI (b i)).toInt64).toInt = w.toInt * 10 + (b i : Int) := by rw [tl_add (by omega) (by omega), h1, h2]
          have h4 : (w * 10 + (nI (b i)).toInt64 - 48).toInt = w.toInt * 10 + (b i : Int) - 48 := by rw [tl_sub (by omega) (by omega), h3, m48]
          rw [h4]
          refine ⟨er, by omega, by omega, fun h => ?_, fun h => ?_⟩
          · have := e2 (by omega); omega
          · by_cases g3 : W ≤ 1000
            · have := e2 g3; omega
            · have := e3 (by omega); omega
        · rw [if_neg (fun h => g (cl.mp h))]
          refine ⟨er, by omega, by omega, fun h => ?_, fun h => by omega⟩
          have := e2 (by omega)
          omega
theorem nx_149 (ht : MTp b z (I0 61) (I0 70)) (hn : 1001 < n) (hq : q ≤ z) (hk : ∀ (I' : tHI) (J' : tHJ), MAd I0 I' J0 J' → MT b z (I' 61) (J' 61 17) q → k I' J') : ∀ (d f i : Nat) (X : tHI) (Y : tHJ), z - i ≤ d → d < f → MAd I0 X J0 Y → aF b z q ≤ i → X 61 14 = nI (aF b z q) → X 61 15 = nI i → X 61 16 = nI (aK b z q) → i ≤ z → (aK b z q ≠ 1 → (aK b z q ≠ 2 → i = aE b z q ∧ MWo b z (Y 61 17) q) ∧ (aK b z q = 2 → i = aF b z q ∧ aR b z 2 i = aE b z q ∧ Y 61 17 = 0)) → (aK b z q = 1 → aR b z 1 i = aE b z q ∧ wrd b 32 96 (aF b z q) (i - aF b z q) < 32 ^ (i - aF b z q) ∧ (i - aF b z q ≤ 10 → (Y 61 17).toInt = (wrd b 32 96 (aF b z q) (i - aF b z q) : Nat)) ∧ (10 < i - aF b z q → Y 61 17 = -1)) → F12_next_L149 n S k f X Y := by
  have hz := ht.1
  have kr := aK_r (b := b) (z := z) q
  intro d
  have no1 : ∀ (i : Nat) (X : tHI) (Y : tHJ), MAd I0 X J0 Y → aF b z q ≤ i → X 61 14 = nI (aF b z q) → X 61 15 = nI i → X 61 16 = nI (aK b z q) → i ≤ z → aK b z q ≠ 1 → (aK b z q ≠ 1 → (aK b z q ≠ 2 → i = aE b z q ∧ MWo b z (Y 61 17) q) ∧ (aK b z q = 2 → i = aF b z q ∧ aR b z 2 i = aE b z q ∧ Y 61 17 = 0)) → F12_next_L243 n S k n X Y := by
    intro i X Y c1 c2 c3 c4 c5 c6 y c7
    obtain ⟨a1, a2⟩ := c7 y
    refine nx_243 ht hk z n i X Y (by omega) (by omega) c1 c2 c3 c4 c5 c6 a1 (fun h => ?_)
    obtain ⟨b1, b2, b3⟩ := a2 h
    rw [b3, b1, Nat.sub_self]
    rw [b1] at b2
    refine ⟨b2, by decide +kernel, by decide +kernel, fun _ => (show Int64.toInt 0 = ((0 : Nat) : Int) by decide +kernel), fun h => ?_⟩
    exact absurd h (by show ¬ 1000 < 0; omega)
  have fin : ∀ (i : Nat) (X : tHI) (Y : tHJ), MAd I0 X J0 Y → aF b z q ≤ i → X 61 14 = nI (aF b z q) → X 61 15 = nI i → X 61 16 = nI (aK b z q) → i ≤ z → aK b z q = 1 → i = aE b z q → (i - aF b z q ≤ 10 → (Y 61 17).toInt = (wrd b 32 96 (aF b z q) (i - aF b z q) : Nat)) → (10 < i - aF b z q → Y 61 17 = -1) → F12_next_L243 n S k n X Y := by
    intro i X Y c1 c2 c3 c4 c5 c6 y e c7 c8
    refine nx_243 ht hk z n i X Y (by omega) (by omega) c1 c2 c3 c4 c5 c6 (fun _ => ⟨e, ?_⟩) (fun h => by omega)
    subst e
    exact ⟨fun _ => ⟨c7, c8⟩, fun h => by omega, fun h => by omega⟩
  induction d with
  | zero =>
    intro f i X Y hd hf c1 c2 c3 c4 c5 c6 c7 c8
    obtain ⟨f, rfl⟩ : ∃ g, f = g + 1 := ⟨f - 1, by omega⟩
    show F12_next_149 n S k (F12_next_L149 n S k f) X Y
    unfold F12_next_149
    rw [c5, c4, (ht.ad c1).2.1]
    refine ⟨fun y => no1 i X Y c1 c2 c3 c4 c5 c6 (fun e => y (by rw [e]; rfl)) c7, fun y => ⟨fun y2 => ?_, fun y2 => absurd ((qle (by omega) (by omega)).mpr (by omega)) y2⟩⟩
    have y : aK b z q = 1 := (qeq (b := 1) (by omega) (by omega)).mp y
    obtain ⟨e1, -, e2, e3⟩ := c8 y
    exact fin i X Y c1 c2 c3 c4 c5 c6 y (by rw [← e1, aR_u, if_neg (fun g => by omega)]) e2 e3
  | succ d ih =>
    intro f i X Y hd hf c1 c2 c3 c4 c5 c6 c7 c8
    obtain ⟨f, rfl⟩ : ∃ g, f = g + 1 := ⟨f - 1, by omega⟩
    show F12_next_149 n S k (F12_next_L149 n S k f) X Y
    unfold F12_next_149
    rw [c5, c4, c3, (ht.ad c1).2.1]
    refine ⟨fun y => no1 i X Y c1 c2 c3 c4 c5 c6 (fun e => y (by rw [e]; rfl)) c7, fun y => ⟨fun y2 => ?_, fun y2 => ?_⟩⟩
    · have y : aK b z q = 1 := (qeq (b := 1) (by omega) (by omega)).mp y
      have y2 : z ≤ i := (qle (by omega) (by omega)).mp y2
      obtain ⟨e1, -, e2, e3⟩ := c8 y
      exact fin i X Y c1 c2 c3 c4 c5 c6 y (by rw [← e1, aR_u, if_neg (fun g => by omega)]) e2 e3
    · have y : aK b z q = 1 := (qeq (b := 1) (by omega) (by omega)).mp y
      have y2 : i < z := by
        rcases Nat.lt_or_ge i z with g | g
        · exact g
        · exact absurd ((qle (by omega) (by omega)).mpr g) y2
      obtain ⟨e1, e0, e2, e3⟩ := c8 y
      obtain ⟨hb, hb2⟩ := (ht.ad c1).2.2 i y2
      have hin : vp_in (nI i) 400 := (qin (by omega)).mpr (by omega)
      refine ⟨hin, ?_⟩
      rw [qn (by omega), hb]
      refine ⟨fun c => ?_, fun c => ?_⟩
      · have c := (small hb2).mp c
        exact fin i X Y c1 c2 c3 c4 c5 c6 y (by rw [← e1, aR_u, if_neg (fun g => c g.2)]) e2 e3
      · have c : kB (b i) = 1 := Classical.not_not.mp (fun g => c ((small hb2).mpr g))
        have cb := kB_1.mp c
        refine ⟨⟨fun _ => trivial, fun _ => ⟨hin, trivial⟩⟩, ?_⟩
        have ew : wrd b 32 96 (aF b z q) (i + 1 - aF b z q) = wrd b 32 96 (aF b z q) (i - aF b z q) * 32 + (b i - 96) := by
          rw [show i + 1 - aF b z q = (i - aF b z q) + 1 by omega]
          show wrd b 32 96 (aF b z q) (i - aF b z q) * 32 + (b (aF b z q + (i - aF b z q)) - 96) = _
          rw [show aF b z q + (i - aF b z q) = i by omega]
        have es : nI i - nI (aF b z q) = nI (i - aF b z q) := qsub c2
        have cl : (10 : Int32) ≤ nI i - nI (aF b z q) ↔ 10 ≤ i - aF b z q := by rw [es]; exact qle (a := 10) (by omega) (by omega)
        refine ih f (i + 1) _ _ (by omega) (by omega) ((c1.w (by decide)).j) (by omega) (by rw [uIe, upn (by decide)]; exact c3) (by rw [uIe, upe, nI_1]) (by rw [uIe, upn (by decide)]; exact c5) (by omega) (fun g => absurd y g) (fun _ => ?_)
        rw [uJe, upJe, ew]
        have er : aR b z 1 (i + 1) = aE b z q := by
          rw [← e1]
          conv => rhs; rw [aR_u, if_pos ⟨y2, c⟩]
        have ep : 32 ^ (i + 1 - aF b z q) = 32 ^ (i - aF b z q) * 32 := by rw [show i + 1 - aF b z q = (i - aF b z q) + 1 by omega, Nat.pow_succ]
        rw [ep]
        have m32 : (32 : Int64).toInt = 32 := by decide +kernel
        have m96 : (96 : Int64).toInt = 96 := by decide +kernel
        generalize hW : wrd b 32 96 (aF b z q) (i - aF b z q) = W at e0 e2 ⊢
        refine ⟨er, by omega, fun h => ?_, fun h => by rw [if_pos (cl.mpr (by omega))]⟩
        rw [if_neg (fun t => by have := cl.mp t; omega)]
        have hw := e2 (by omega)
        have hp : 32 ^ (i - aF b z q) ≤ 32 ^ 9 := Nat.pow_le_pow_right (by decide) (by omega)
        have hp9 : 32 ^ 9 = 35184372088832 := by decide
        rw [hp9] at hp
        generalize Y 61 17 = w at hw ⊢
        have h1 : (w * 32).toInt = w.toInt * 32 := tl_mul (by rw [m32]) (by omega) (by omega)
        have h2 : ((nI (b i)).toInt64).toInt = (b i : Int) := by rw [Int32.toInt_toInt64, qi (by omega)]
        have h3 : (w * 32 + (nI (b i)).toInt64).toInt = w.toInt * 32 + (b i : Int) := by rw [tl_add (by omega) (by omega), h1, h2]
        have h4 : (w * 32 + (nI (b i)).toInt64 - 96).toInt = w.toInt * 32 + (b i : Int) - 96 := by rw [tl_sub (by omega) (by omega), h3, m96]
        rw [h4]
        omega
theorem nx_46 (ht : MTp b z (I0 61) (I0 70)) (hn : 1001 < n) (hq : q ≤ z) (hk : ∀ (I' : tHI) (J' : tHJ), MAd I0 I' J0 J' → MT b z (I' 61) (J' 61 17) q → k I' J') {X : tHI} {Y : tHJ} (hX : MAd I0 X J0 Y) (x14 : X 61 14 = nI (aF b z q)) : F12_next_46 n S k X Y := by
  have hz := ht.1
  have hf := aF_le (b := b) hq
  have kr := aK_r (b := b) (z := z) q
  have a1 : ∀ y, y ≠ 15 → (uI X 61 15 (X 61 14)) 61 y = X 61 y := fun y hy => by rw [uIe, upn hy]
  have a2 : (uI X 61 15 (X 61 14)) 70 = X 70 := uIn (by decide)
  have x13 := (ht.ad hX).2.1
  have e0 : nI (aF b z q) = nI z ↔ aF b z q = z := qeq (by omega) (by omega)
  have eK : (if nI (aF b z q) = nI z then (0 : Int32) else (if V12_isSmall (X 70 (aF b z q)) = 0 then (if V12_isDigit (X 70 (aF b z q)) = 0 then (3 : Int32) else 2) else 1)) = nI (aK b z q) := by
    unfold aK
    by_cases g : aF b z q = z
    · rw [if_pos (e0.mpr g), if_pos (by omega)]; rfl
    · obtain ⟨hb, hb2⟩ := (ht.ad hX).2.2 (aF b z q) (by omega)
      rw [if_neg (fun y => g (e0.mp y)), if_neg (show ¬ z ≤ aF b z q by omega), hb]
      rcases kB_r (b (aF b z q)) with c | c | c
      · rw [if_neg (fun y => (small hb2).mp y c), c]; rfl
      · rw [if_pos ((small hb2).mpr (by omega)), if_neg (fun y => (digit hb2).mp y c), c]; rfl
      · rw [if_pos ((small hb2).mpr (by omega)), if_pos ((digit hb2).mpr (by omega)), c]; rfl
  unfold F12_next_46
  rw [a1 14 (by decide), a1 13 (by decide), a2, x14, x13, qn (by omega), eK]
  rw [x14] at a1
  have hin : ¬ aF b z q = z → vp_in (nI (aF b z q)) 400 := fun g => (qin (by omega)).mpr (by omega)
  refine ⟨⟨fun g => ⟨hin (fun y => g (e0.mpr y)), fun _ => ⟨hin (fun y => g (e0.mpr y)), fun _ => trivial, fun _ => trivial⟩, fun _ => trivial⟩, fun _ => trivial⟩, ?_⟩
  have b1 : ∀ y, y ≠ 15 → y ≠ 16 → (uI (uI X 61 15 (nI (aF b z q))) 61 16 (nI (aK b z q))) 61 y = X 61 y := fun y h1 h2 => by rw [uIe, upn h2, a1 y h1]
  have b16 : (uI (uI X 61 15 (nI (aF b z q))) 61 16 (nI (aK b z q))) 61 16 = nI (aK b z q) := by rw [uIe, upe]
  have b15 : (uI (uI X 61 15 (nI (aF b z q))) 61 16 (nI (aK b z q))) 61 15 = nI (aF b z q) := by rw [uIe, upn (by decide), uIe, upe]
  have b70 : (uI (uI X 61 15 (nI (aF b z q))) 61 16 (nI (aK b z q))) 70 = X 70 := by rw [uIn (by decide), uIn (by decide)]
  have hA : MAd I0 (uI (uI X 61 15 (nI (aF b z q))) 61 16 (nI (aK b z q))) J0 (uJ Y 61 17 0) := ((hX.w (by decide)).w (by decide)).j
  have y17 : (uJ Y 61 17 0) 61 17 = 0 := by rw [uJe, upJe]
  rw [b16, b1 14 (by decide) (by decide), x14, b15, b70, qn (by omega)]
  generalize (uI (uI X 61 15 (nI (aF b z q))) 61 16 (nI (aK b z q))) = X1 at b1 b16 b15 b70 hA ⊢
  generalize (uJ Y 61 17 0) = Y1 at y17 hA ⊢
  have run : ∀ kd, aK b z q = kd → kd = 1 ∨ kd = 2 → aR b z kd (aF b z q) = aE b z q := by
    intro kd e h
    have h0 : aK b z q ≠ 0 := by omega
    have lt := (aE_gt h0).2.2
    rw [aR_u, if_pos ⟨lt, by rw [← aE_k (by rw [e]; exact h) (aF b z q) (Nat.le_refl _) (aE_gt h0).1, ] at e; exact e⟩]
    unfold aE
    rw [if_neg h0, if_neg (by omega), e]
  refine ⟨fun g => ?_, fun g => ?_⟩
  · have g : aK b z q ≠ 3 := fun e => g (by rw [e]; rfl)
    refine nx_149 ht hn hq hk z n (aF b z q) X1 Y1 (by omega) (by omega) hA (Nat.le_refl _) (by rw [b1 14 (by decide) (by decide)]; exact x14) b15 b16 hf (fun h1 => ⟨fun h2 => ?_, fun h2 => ⟨rfl, run 2 h2 (Or.inr rfl), y17⟩⟩) (fun h1 => ⟨run 1 h1 (Or.inl rfl), ?_, fun _ => ?_, fun h => by omega⟩)
    · have h0 : aK b z q = 0 := by omega
      exact ⟨by unfold aE; rw [if_pos h0], fun y => by omega, fun y => by omega, fun y => by omega⟩
    · rw [Nat.sub_self]; exact (show 0 < 32 ^ 0 by decide)
    · rw [y17, Nat.sub_self]; exact (show Int64.toInt 0 = ((0 : Nat) : Int) by decide +kernel)
  · have g : aK b z q = 3 := (qeq (b := 3) (by omega) (by omega)).mp g
    have h0 : aK b z q ≠ 0 := by omega
    have lt := (aE_gt h0).2.2
    obtain ⟨hb, hb2⟩ := (ht.ad hX).2.2 (aF b z q) lt
    refine ⟨(qin (by omega)).mpr (by omega), ?_⟩
    rw [hb, nI_1]
    have eE : aE b z q = aF b z q + 1 := by unfold aE; rw [if_neg h0, if_pos g]
    refine nx_149 ht hn hq hk z n (aF b z q + 1) _ _ (by omega) (by omega) ((hA.w (by decide)).j) (by omega) (by rw [uIe, upn (by decide), b1 14 (by decide) (by decide)]; exact x14) (by rw [uIe, upe]) (by rw [uIe, upn (by decide)]; exact b16) (by omega) (fun h1 => ⟨fun h2 => ⟨eE.symm, fun y => by omega, fun y => by omega, fun _ => ?_⟩, fun h2 => by omega⟩) (fun h1 => by omega)
    rw [uJe, upJe, Int32.toInt_toInt64, qi (by omega)]
theorem nx_L8 (ht : MTp b z (I0 61) (I0 70)) (hn : 1001 < n) (hq : q ≤ z) (hk : ∀ (I' : tHI) (J' : tHJ), MAd I0 I' J0 J' → MT b z (I' 61) (J' 61 17) q → k I' J') : ∀ (d f i : Nat) (X : tHI), z - i ≤ d → d < f → MAd I0 X J0 J0 → i ≤ z → aF b z i = aF b z q → X 61 14 = nI i → F12_next_L8 n S k f X J0 := by
  have hz := ht.1
  intro d
  induction d with
  | zero =>
    intro f i X hd hf hX hi e x14
    obtain ⟨f, rfl⟩ : ∃ g, f = g + 1 := ⟨f - 1, by omega⟩
    show F12_next_8 n S k (F12_next_L8 n S k f) X J0
    unfold F12_next_8
    rw [x14, (ht.ad hX).2.1]
    refine ⟨fun _ => nx_46 ht hn hq hk hX ?_, fun g => absurd ((qle (by omega) (by omega)).mpr (by omega)) g⟩
    rw [x14, ← e, aF_u, if_neg (fun g => by omega)]
  | succ d ih =>
    intro f i X hd hf hX hi e x14
    obtain ⟨f, rfl⟩ : ∃ g, f = g + 1 := ⟨f - 1, by omega⟩
    show F12_next_8 n S k (F12_next_L8 n S k f) X J0
    unfold F12_next_8
    rw [x14, (ht.ad hX).2.1]
    refine ⟨fun g => nx_46 ht hn hq hk hX ?_, fun g => ⟨(qin (by omega)).mpr ?_, ?_⟩⟩
    · have g : z ≤ i := (qle (by omega) (by omega)).mp g
      rw [x14, ← e, aF_u, if_neg (fun g => by omega)]
    · have g : ¬ z ≤ i := fun y => g ((qle (by omega) (by omega)).mpr y)
      omega
    · have g : ¬ z ≤ i := fun y => g ((qle (by omega) (by omega)).mpr y)
      obtain ⟨hb, hb2⟩ := (ht.ad hX).2.2 i (by omega)
      rw [qn (by omega), hb]
      have e32 : nI (b i) = 32 ↔ b i = 32 := qeq (b := 32) (by omega) (by omega)
      refine ⟨fun c => nx_46 ht hn hq hk hX ?_, fun c => ?_⟩
      · rw [x14, ← e, aF_u, if_neg (fun y => c (e32.mpr y.2))]
      · rw [nI_1]
        refine ih f (i + 1) _ (by omega) (by omega) (hX.w (by decide)) (by omega) ?_ (by rw [uIe, upe])
        rw [← e]
        conv => rhs; rw [aF_u, if_pos ⟨by omega, e32.mp c⟩]
theorem sp_next (ht : MTp b z (I0 61) (I0 70)) (hn : 1001 < n) (hq : q ≤ z) (h15 : I0 61 15 = nI q) (hk : ∀ (I' : tHI) (J' : tHJ), MAd I0 I' J0 J' → MT b z (I' 61) (J' 61 17) q → k I' J') : F12_next n S I0 J0 k := by
  have hz := ht.1
  unfold F12_next
  rw [h15]
  exact nx_L8 ht hn hq hk z n q _ (by omega) (by omega) ((MAd.rf I0 J0).w (by decide)) hq rfl (by rw [uIe, upe])
end NX
