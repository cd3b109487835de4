/-! an act of the rider, by the model -/
section ACM
variable {n : Nat} {S : tSH} {I : tHI} {J : tHJ}
def MA (I X : tHI) : Prop := (∀ x, x ≠ 61 → x ≠ 63 → x ≠ 66 → x ≠ 67 → X x = I x) ∧ ∀ y, y ∉ [8, 34, 38, 42, 43, 44] → X 61 y = I 61 y
def MNo (S : tSH) (I : tHI) (J : tHJ) (N kd : Nat) (a b : Int32) (k : Int32 → tHI → tHJ → Prop) : Prop := ∀ (X : tHI) (J' : tHJ), ¬ whyA S I (I 63) N kd a b = 0 → MK I X → MJ J J' → k (whyA S I (I 63) N kd a b) X J'
def MYes (S : tSH) (I : tHI) (J : tHJ) (N h kd : Nat) (a b : Int32) (k : Int32 → tHI → tHJ → Prop) : Prop := ∀ (X : tHI) (J' : tHJ), whyA S I (I 63) N kd a b = 0 → MA I X → MJ J J' → X 61 8 = nI (hp h + 1) → X 63 = stepA S I (I 63) N kd a b → GP h kd (I 66) (I 67) (I 63) (X 66) (X 67) → k (ansA S I (I 63) N kd a b) X J'
theorem MA.mk {I X Y : tHI} (h : MA I X) (e : ∀ x, x ≠ 63 → x ≠ 61 → Y x = X x) (e2 : ∀ y, y ∉ [34, 38, 42, 43, 44] → Y 61 y = X 61 y) : MA I Y := ⟨fun x p q s t => by rw [e x q p]; exact h.1 x p q s t, fun y hy => by
  rw [e2 y (fun q => hy (List.mem_cons_of_mem _ q))]; exact h.2 y hy⟩
theorem sp_remM {k : tHI → tHJ → Prop} {I' : tHI} (hn : 400 < n) {h kd : Nat} (hh : h ≤ 16) (h61 : I 61 8 = nI h) (z : MK I I') (hk : ∀ X : tHI, MA I X → X 63 = I 63 → X 61 8 = nI (hp h + 1) → GP h kd (I 66) (I 67) (I 63) (X 66) (X 67) → k X J) : F12_remember n S I' J (nI kd) k := by
  refine sp_remember (h := h) (by omega) hh (by rw [z.2 8 (by decide)]; exact h61) (fun X a1 a2 a3 a4 a5 a6 a7 a8 => ?_)
  rw [z.1 66 (by decide)] at a4
  rw [z.1 63 (by decide)] at a5
  rw [z.1 67 (by decide)] at a6
  refine hk X ⟨fun x p _ q s => by rw [a1 x p q s, z.1 x p], fun y hy => ?_⟩ (by rw [a1 63 (by decide) (by decide) (by decide), z.1 63 (by decide)]) a3 ⟨a4, a5, a6, a7, fun y hy => by rw [a8 y hy, z.1 66 (by decide)]⟩
  rw [a2 y (fun q => hy (by subst q; decide)), z.2 y (fun q => hy (List.mem_cons_of_mem _ q))]
theorem MQB.cg2 {N B : Nat} {X : tHI} (h : MQB S I N B) (e20 : X 61 20 = I 61 20) (e41 : X 61 41 = I 61 41) (e63 : X 63 = I 63) (e1 : X 1 = I 1) (e89 : ∀ x, 89 ≤ x → X x = I x) : MQB S X N B := by
  obtain ⟨⟨h1, h2, h3, h4, h5, h6⟩, hW, hB, hB1, hS⟩ := h
  have eW : WI X N = WI I N := by show WM (X 61 41) (X 63) N = WM (I 61 41) (I 63) N; rw [e41, e63]
  unfold MQB MQ2
  rw [e63, e20, eW, e41]
  exact ⟨⟨h1, h2, h3, h4, h5, h6.cg e1 e89 rfl (fun _ _ => rfl)⟩, hW, hB, hB1, hS⟩
theorem l1_64 : (1 : Int64).toInt = 1 := by decide
theorem l0_64 : (0 : Int64).toInt = 0 := by decide
theorem l2_64 : (2 : Int64).toInt = 2 := by decide
theorem l3_64 : (3 : Int64).toInt = 3 := by decide
theorem lm1_64 : (-1 : Int64).toInt = -1 := by decide
theorem lm2_64 : (-2 : Int64).toInt = -2 := by decide
theorem gas_w {r : Nat → Int32} {a : Int32} {p : Nat} (hp : r 10 = nI p) (hp2 : p ≤ 60) (ha : 1 ≤ a.toInt ∧ a.toInt ≤ 60) : V12_within ((r 10 + a).toInt64) 0 60 = gasV r a := by
  have hs : (r 10 + a).toInt = p + a.toInt := by rw [ti_add (by rw [hp, qi (by omega)]; omega) (by rw [hp, qi (by omega)]; omega), hp, qi (by omega)]
  refine Int32.toInt_inj.mp ?_
  rw [mwi (by decide), Int32.toInt_toInt64, hs, tz0, show (60 : Int32).toInt = 60 from rfl]
  unfold gasV
  by_cases c : r 10 + a < 60
  · rw [if_pos c, hs]
    rw [Int32.lt_iff_toInt_lt, hs, show (60 : Int32).toInt = 60 from rfl] at c
    omega
  · rw [if_neg c, show (60 : Int32).toInt = 60 from rfl]
    rw [Int32.lt_iff_toInt_lt, hs, show (60 : Int32).toInt = 60 from rfl] at c
    omega
theorem brk_w {r : Nat → Int32} {a : Int32} {p : Nat} (hp : r 10 = nI p) (hp2 : p ≤ 60) (ha : 1 ≤ a.toInt ∧ a.toInt ≤ 60) : V12_within ((r 10 - a).toInt64) 0 60 = brkV r a := by
  have hs : (r 10 - a).toInt = p - a.toInt := by rw [ti_sub (by rw [hp, qi (by omega)]; omega) (by rw [hp, qi (by omega)]; omega), hp, qi (by omega)]
  refine Int32.toInt_inj.mp ?_
  rw [mwi (by decide), Int32.toInt_toInt64, hs, tz0, show (60 : Int32).toInt = 60 from rfl]
  unfold brkV
  by_cases c : 0 < r 10 - a
  · rw [if_pos c, hs]
    rw [Int32.lt_iff_toInt_lt, hs, tz0] at c
    omega
  · rw [if_neg c, tz0]
    rw [Int32.lt_iff_toInt_lt, hs, tz0] at c
    omega
variable {N B h : Nat} {a b : Int32} {k : Int32 → tHI → tHJ → Prop}
theorem sp_gasM (hn : 400 < n) (hK : RK (I 63)) (hh : h ≤ 16) (h61 : I 61 8 = nI h) (hno : MNo S I J N 0 a b k) (hyes : MYes S I J N h 0 a b k) : F12_gasNow n S I J a k := by
  obtain ⟨p, p1, p2⟩ := hK.2.2.1.2.1
  have p1 : I 63 10 = nI p := p1
  obtain ⟨g, g1, g2, g3⟩ := hK.1.2.2.2.2.2.1
  have g4 : (I 63 5).toInt = g := by rw [g1, qi (by omega)]
  unfold F12_gasNow
  refine ⟨fun c => ?_, fun c => ?_⟩
  · rw [mi1, l1_64, Int32.toInt_toInt64, Int32.toInt_toInt64] at c
    have hw : whyA S I (I 63) N 0 a b = 0 := by unfold whyA; rw [if_pos rfl, if_pos c]
    refine sp_remM hn hh h61 (MK.rf I) (kd := 0) (fun X a1 a2 a3 a4 => ?_)
    have e10 : X 63 10 = I 63 10 := by rw [a2]
    rw [e10, gas_w p1 p2 (by omega)]
    have e63 : (uI X 63 10 (gasV (I 63) a)) 63 = up (I 63) 10 (gasV (I 63) a) := by rw [uIe, a2]
    rw [e63, upe]
    have := hyes (uI X 63 10 (gasV (I 63) a)) J hw (a1.mk (fun x q _ => uIn q) (fun y _ => by rw [uIn (by decide)])) (MJ.rf J) (by rw [uIn (by decide)]; exact a3) (by rw [e63]; rfl) (by rw [uIn (by decide), uIn (by decide)]; exact a4)
    exact this
  · rw [mi0, l1_64, Int32.toInt_toInt64, Int32.toInt_toInt64] at c
    have hw : whyA S I (I 63) N 0 a b = -1 := by unfold whyA; rw [if_pos rfl, if_neg c]
    have := hno I J (by rw [hw]; decide) (MK.rf I) (MJ.rf J)
    rw [hw] at this
    exact this
theorem sp_brakeM (hn : 400 < n) (hK : RK (I 63)) (hh : h ≤ 16) (h61 : I 61 8 = nI h) (hno : MNo S I J N 1 a b k) (hyes : MYes S I J N h 1 a b k) : F12_brakeNow n S I J a k := by
  obtain ⟨p, p1, p2⟩ := hK.2.2.1.2.1
  have p1 : I 63 10 = nI p := p1
  obtain ⟨g, g1, g2, g3⟩ := hK.1.2.2.2.2.2.2.1
  have g4 : (I 63 6).toInt = g := by rw [g1, qi (by omega)]
  unfold F12_brakeNow
  refine ⟨fun c => ?_, fun c => ?_⟩
  · rw [mi1, l1_64, Int32.toInt_toInt64, Int32.toInt_toInt64] at c
    have hw : whyA S I (I 63) N 1 a b = 0 := by unfold whyA; rw [if_neg (by decide), if_pos rfl, if_pos c]
    refine sp_remM hn hh h61 (MK.rf I) (kd := 1) (fun X a1 a2 a3 a4 => ?_)
    have e10 : X 63 10 = I 63 10 := by rw [a2]
    rw [e10, brk_w p1 p2 (by omega)]
    have e63 : (uI X 63 10 (brkV (I 63) a)) 63 = up (I 63) 10 (brkV (I 63) a) := by rw [uIe, a2]
    rw [e63, upe]
    have es : stepA S I (I 63) N 1 a b = up (I 63) 10 (brkV (I 63) a) := by unfold stepA; rw [if_neg (by decide), if_pos rfl]
    have ea : ansA S I (I 63) N 1 a b = brkV (I 63) a := by unfold ansA; rw [if_neg (by decide), if_pos rfl]
    have := hyes (uI X 63 10 (brkV (I 63) a)) J hw (a1.mk (fun x q _ => uIn q) (fun y _ => by rw [uIn (by decide)])) (MJ.rf J) (by rw [uIn (by decide)]; exact a3) (by rw [e63, es]) (by rw [uIn (by decide), uIn (by decide)]; exact a4)
    rw [ea] at this
    exact this
  · rw [mi0, l1_64, Int32.toInt_toInt64, Int32.toInt_toInt64] at c
    have hw : whyA S I (I 63) N 1 a b = -1 := by unfold whyA; rw [if_neg (by decide), if_pos rfl, if_neg c]
    have := hno I J (by rw [hw]; decide) (MK.rf I) (MJ.rf J)
    rw [hw] at this
    exact this
theorem sp_laneM (hn : 400 < n) (hK : RK (I 63)) (hh : h ≤ 16) (h61 : I 61 8 = nI h) (hno : MNo S I J N 2 a b k) (hyes : MYes S I J N h 2 a b k) : F12_laneNow n S I J a k := by
  obtain ⟨l, l1, l2⟩ := hK.2.2.1.2.2.1
  have l1 : I 63 11 = nI l := l1
  have hl : (I 63 11).toInt = l := by rw [l1, qi (by omega)]
  unfold F12_laneNow V12_isBeside
  refine ⟨fun c => ?_, fun c => ?_⟩
  · rw [mi1, l0_64, l2_64, Int32.toInt_toInt64] at c
    have d := lane_d (a := a) (l := I 63 11) c (by omega)
    refine ⟨fun c2 => ?_, fun c2 => ?_⟩
    · rw [mi1, lm1_64, l1_64, Int32.toInt_toInt64, d] at c2
      have hw : whyA S I (I 63) N 2 a b = 0 := by unfold whyA; rw [if_neg (by decide), if_neg (by decide), if_pos rfl, if_pos c, if_pos c2]
      refine sp_remM hn hh h61 (MK.rf I) (kd := 2) (fun X a1 a2 a3 a4 => ?_)
      have e11 : X 63 11 = I 63 11 := by rw [a2]
      rw [e11]
      have es : stepA S I (I 63) N 2 a b = up (I 63) 11 a := by unfold stepA; rw [if_neg (by decide), if_neg (by decide), if_pos rfl]
      have ea : ansA S I (I 63) N 2 a b = I 63 11 := by unfold ansA; rw [if_neg (by decide), if_neg (by decide), if_pos rfl]
      have := hyes (uI X 63 11 a) J hw (a1.mk (fun x q _ => uIn q) (fun y _ => by rw [uIn (by decide)])) (MJ.rf J) (by rw [uIn (by decide)]; exact a3) (by rw [uIe, a2, es]) (by rw [uIn (by decide), uIn (by decide)]; exact a4)
      rw [ea] at this
      exact this
    · rw [mi0, lm1_64, l1_64, Int32.toInt_toInt64, d] at c2
      have hw : whyA S I (I 63) N 2 a b = -3 := by unfold whyA; rw [if_neg (by decide), if_neg (by decide), if_pos rfl, if_pos c, if_neg c2]
      have := hno I J (by rw [hw]; decide) (MK.rf I) (MJ.rf J)
      rw [hw] at this
      exact this
  · rw [mi0, l0_64, l2_64, Int32.toInt_toInt64] at c
    have hw : whyA S I (I 63) N 2 a b = -1 := by unfold whyA; rw [if_neg (by decide), if_neg (by decide), if_pos rfl, if_neg c]
    have := hno I J (by rw [hw]; decide) (MK.rf I) (MJ.rf J)
    rw [hw] at this
    exact this
theorem sp_leanM (hn : 400 < n) (hK : RK (I 63)) (hN : I 63 0 = nI N) (hN6 : N ≤ 6) (hh : h ≤ 16) (h61 : I 61 8 = nI h) (hno : MNo S I J N 4 a b k) (hyes : MYes S I J N h 4 a b k) : F12_leanNow n S I J a b k := by
  unfold F12_leanNow
  have wh : ∀ {v : Int32}, (if -2 ≤ b.toInt ∧ b.toInt ≤ 2 then (if 0 ≤ a.toInt ∧ a.toInt < (N : Int) then (if I 63 (32 + a.toNatClampNeg) = 0 then -3 else 0) else -2) else -1) = v → whyA S I (I 63) N 4 a b = v := fun q => by
    unfold whyA; rw [if_neg (by decide), if_neg (by decide), if_neg (by decide), if_neg (by decide), if_pos rfl]; exact q
  have fail : ∀ {v : Int32}, v ≠ 0 → whyA S I (I 63) N 4 a b = v → k v I J := fun hv hw => by
    have := hno I J (by rw [hw]; exact hv) (MK.rf I) (MJ.rf J)
    rw [hw] at this
    exact this
  refine ⟨fun c => ?_, fun c => ?_⟩
  · rw [mi1, lm2_64, l2_64, Int32.toInt_toInt64] at c
    refine ⟨fun d => ?_, fun d => ?_⟩
    · have d : 0 ≤ a.toInt ∧ a.toInt < N := by
        by_cases g : 0 ≤ a.toInt ∧ a.toInt < N
        · exact g
        · exact absurd ((isLd hN hN6).mpr g) d
      obtain ⟨i, rfl, i2, i3⟩ := nat_of d.1 d.2
      have e32 : 32 + nI i = nI (32 + i) := by rw [ql 32, nI_add]
      have e20 : 20 + nI i = nI (20 + i) := by rw [ql 20, nI_add]
      rw [e32, e20, qn (by omega), qn (by omega)]
      refine ⟨(qin (by omega)).mpr (by omega), fun g => ?_, fun g => ?_⟩
      · have hw := wh (v := 0) (by rw [if_pos c, if_pos d, qn i3, if_neg g])
        refine sp_remM hn hh h61 (MK.rf I) (kd := 4) (fun X a1 a2 a3 a4 => ?_)
        have e11 : X 63 (20 + i) = I 63 (20 + i) := by rw [a2]
        rw [e11]
        have es : stepA S I (I 63) N 4 (nI i) b = up (I 63) (20 + i) b := by unfold stepA; rw [if_neg (by decide), if_neg (by decide), if_neg (by decide), if_neg (by decide), if_pos rfl, qn i3]
        have ea : ansA S I (I 63) N 4 (nI i) b = I 63 (20 + i) + 2 := by unfold ansA; rw [if_neg (by decide), if_neg (by decide), if_neg (by decide), if_neg (by decide), if_pos rfl, qn i3]
        have := hyes (uI X 63 (20 + i) b) J hw (a1.mk (fun x q _ => uIn q) (fun y _ => by rw [uIn (by decide)])) (MJ.rf J) (by rw [uIn (by decide)]; exact a3) (by rw [uIe, a2, es]) (by rw [uIn (by decide), uIn (by decide)]; exact a4)
        rw [ea] at this
        exact ⟨(qin (by omega)).mpr (by omega), (qin (by omega)).mpr (by omega), this⟩
      · exact fail (by decide) (wh (by rw [if_pos c, if_pos d, qn i3, if_pos g]))
    · exact fail (by decide) (wh (by rw [if_pos c, if_neg ((isLd hN hN6).mp d)]))
  · rw [mi0, lm2_64, l2_64, Int32.toInt_toInt64] at c
    exact fail (by decide) (wh (by rw [if_neg c]))
theorem sp_putM (hn : 400 < n) (hM : MQB S I N B) (c63 : I 61 41 = 63) (hh : h ≤ 16) (h61 : I 61 8 = nI h) (hno : MNo S I J N 3 a b k) (hyes : MYes S I J N h 3 a b k) : F12_putNow n S I J a b k := by
  have hN := hM.1.2.1
  have hN6 := hM.1.2.2.1
  unfold F12_putNow F12_putNow_44
  have wh : ∀ {v : Int32}, (if 0 ≤ b.toInt ∧ b.toInt ≤ 3 then (if 0 ≤ a.toInt ∧ a.toInt < (N : Int) then (if 0 < (I 63 10).toInt ∨ banR S I (I 63) N b a.toNatClampNeg = true then -3 else 0) else -2) else -1) = v → whyA S I (I 63) N 3 a b = v := fun q => by
    unfold whyA; rw [if_neg (by decide), if_neg (by decide), if_neg (by decide), if_pos rfl]; exact q
  have fail : ∀ {v : Int32} {X : tHI} {J' : tHJ}, v ≠ 0 → whyA S I (I 63) N 3 a b = v → MK I X → MJ J J' → k v X J' := fun {v X J'} hv hw z1 z2 => by
    have := hno X J' (by rw [hw]; exact hv) z1 z2
    rw [hw] at this
    exact this
  refine ⟨fun c => ?_, fun c => ?_⟩
  · rw [mi1, l0_64, l3_64, Int32.toInt_toInt64] at c
    refine ⟨fun d => ?_, fun d => ?_⟩
    · have d : 0 ≤ a.toInt ∧ a.toInt < N := by
        by_cases g : 0 ≤ a.toInt ∧ a.toInt < N
        · exact g
        · exact absurd ((isLd hN hN6).mpr g) d
      obtain ⟨i, rfl, i2, i3⟩ := nat_of d.1 d.2
      have e26 : 26 + nI i = nI (26 + i) := by rw [ql 26, nI_add]
      have e32 : 32 + nI i = nI (32 + i) := by rw [ql 32, nI_add]
      have e14 : 14 + nI i = nI (14 + i) := by rw [ql 14, nI_add]
      unfold F12_isBanned
      rw [e26, e32, e14, qn (by omega), qn (by omega), qn (by omega)]
      refine ⟨(qin (by omega)).mpr (by omega), (qin (by omega)).mpr (by omega), ?_⟩
      refine sp_ban hn hM.1.1 hM.1.2.2.2.2.2 (W := WM 63 (I 63) N) rfl rfl rfl (fun X3 J3 z1 z2 => ?_)
      rw [qn i3] at wh
      unfold banR at wh
      generalize lawB S I (wl (wLd (WM 63 (I 63) N) (I 63 (26 + i)) b (I 63 (32 + i)))) = Z at *
      have e10 : X3 63 10 = I 63 10 := by rw [z1.1 63 (by decide)]
      intro _ _
      refine ⟨fun g => ?_, fun g => ⟨fun g2 => ?_, fun g2 => ?_⟩⟩
      · have gz : Z = true := by cases Z with
          | true => rfl
          | false => exact absurd rfl g
        exact fail (by decide) (wh (by rw [if_pos c, if_pos d, if_pos (Or.inr gz)])) z1 z2
      · have gz : ¬ Z = true := fun q => by rw [if_pos q] at g; revert g; decide
        rw [e10, Int32.le_iff_toInt_le, tz0] at g2
        have hw := wh (v := 0) (by rw [if_pos c, if_pos d, if_neg (by rintro (q | q); omega; exact gz q)])
        refine sp_remM hn hh h61 z1 (kd := 3) (fun X a1 a2 a3 a4 => ?_)
        have e11 : X 63 (14 + i) = I 63 (14 + i) := by rw [a2]
        rw [e11]
        have es : stepA S I (I 63) N 3 (nI i) b = up (I 63) (14 + i) b := by unfold stepA; rw [if_neg (by decide), if_neg (by decide), if_neg (by decide), if_pos rfl, qn i3]
        have ea : ansA S I (I 63) N 3 (nI i) b = I 63 (14 + i) := by unfold ansA; rw [if_neg (by decide), if_neg (by decide), if_neg (by decide), if_pos rfl, qn i3]
        have := hyes (uI X 63 (14 + i) b) J3 hw (a1.mk (fun x q _ => uIn q) (fun y _ => by rw [uIn (by decide)])) z2 (by rw [uIn (by decide)]; exact a3) (by rw [uIe, a2, es]) (by rw [uIn (by decide), uIn (by decide)]; exact a4)
        rw [ea] at this
        exact ⟨(qin (by omega)).mpr (by omega), (qin (by omega)).mpr (by omega), this⟩
      · rw [e10, Int32.le_iff_toInt_le, tz0] at g2
        exact fail (by decide) (wh (by rw [if_pos c, if_pos d, if_pos (Or.inl (by omega))])) z1 z2
    · exact fail (by decide) (wh (by rw [if_pos c, if_neg ((isLd hN hN6).mp d)])) (MK.rf I) (MJ.rf J)
  · rw [mi0, l0_64, l3_64, Int32.toInt_toInt64] at c
    exact fail (by decide) (wh (by rw [if_neg c])) (MK.rf I) (MJ.rf J)
end ACM
