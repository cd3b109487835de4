/-! how quick; the model's goesNow, quickest, isBannedBy; Judge.asItStands -/
theorem mx (I I' : tHI) (h : MK I I') : I' 61 41 = I 61 41 := h.2 41 (by decide)
section QD
variable {n : Nat} {S : tSH} {I : tHI} {J : tHJ} {r W : Nat → Int32}
theorem goes0 {h g : Int32} {p : Nat} (hp : p ≤ 60) : V12_goesBy 0 (nI p) h g = 0 := by
  rw [goes_v (by decide) hp, tz0]
  simp
theorem abs_push {T : Int32} {p : Nat} (hT : -9 ≤ T.toInt ∧ T.toInt ≤ 9) (hp : p ≤ 60) : (((if 0 ≤ T then T else 0 - T) * nI p) * nI p).toInt = (if 0 ≤ T.toInt then T.toInt * p * p else -(T.toInt * p * p)) := by
  by_cases c : 0 ≤ T
  · rw [if_pos c]
    rw [Int32.le_iff_toInt_le, tz0] at c
    rw [if_pos c]
    exact push_v hT hp
  · rw [if_neg c]
    rw [Int32.le_iff_toInt_le, tz0] at c
    rw [if_neg c]
    have e : (0 - T).toInt = -T.toInt := by rw [ti_sub (by rw [tz0]; omega) (by rw [tz0]; omega), tz0]; omega
    rw [push_v (by rw [e]; omega) hp, e, Int.neg_mul, Int.neg_mul]
theorem quick_L {T most h g : Int32} (hT : -9 ≤ T.toInt ∧ T.toInt ≤ 9) (hm : (0 < T.toInt → most = g) ∧ (T.toInt < 0 → most = h)) (hT0 : T.toInt ≠ 0) {k : Int32 → tHI → tHJ → Prop} : ∀ (p f : Nat), p < f → p ≤ 60 → k (nI (qk T h g p)) I J → F2_quickest_L65 n S k f I J T (nI p) most := by
  intro p
  induction p with
  | zero =>
    intro f hf hp hk
    obtain ⟨f, rfl⟩ : ∃ g, f = g + 1 := ⟨f - 1, by omega⟩
    show F2_quickest_65 n S k (F2_quickest_L65 n S k f) I J T (nI 0) most
    unfold F2_quickest_65 F2_quickest_88
    exact ⟨fun _ => hk, fun q => absurd (by decide) q⟩
  | succ p ih =>
    intro f hf hp hk
    obtain ⟨f, rfl⟩ : ∃ g, f = g + 1 := ⟨f - 1, by omega⟩
    show F2_quickest_65 n S k (F2_quickest_L65 n S k f) I J T (nI (p + 1)) most
    unfold F2_quickest_65 F2_quickest_88
    have ap := abs_push (p := p + 1) hT hp
    have gv := goes_v (h := h) (g := g) (p := p + 1) hT hp
    have pb := push_b (p := p + 1) hT hp
    have sg := sgn_pp (t := T.toInt) (p := p + 1)
    have hpos : 0 < (p + 1 : Nat) := by omega
    unfold qk at hk
    refine ⟨fun q => ?_, fun _ => ⟨fun q => ?_, fun q => ?_⟩⟩
    · rw [Int32.le_iff_toInt_le, qi (by omega), tz0] at q; omega
    · have e0 : V12_goesBy T (nI (p + 1)) h g = 0 := by
        rw [gv]
        rw [Int32.le_iff_toInt_le, ap] at q
        generalize T.toInt * ((p + 1 : Nat) : Int) * ((p + 1 : Nat) : Int) = z at *
        rcases Int.lt_or_lt_of_ne hT0 with c | c
        · rw [hm.2 c, if_neg (by omega)] at q
          have := sg.2 (by omega)
          rw [if_neg (by omega), if_neg (by omega)]
        · rw [hm.1 c, if_pos (by omega)] at q
          have := sg.1 (by omega)
          rw [if_neg (by omega), if_neg (by omega)]
      rw [if_pos e0] at hk
      exact hk
    · have e0 : ¬ V12_goesBy T (nI (p + 1)) h g = 0 := by
        rw [gv]
        rw [Int32.le_iff_toInt_le, ap] at q
        have hz : T.toInt * ((p + 1 : Nat) : Int) * ((p + 1 : Nat) : Int) ≠ 0 := Int.mul_ne_zero (Int.mul_ne_zero hT0 (by omega)) (by omega)
        generalize T.toInt * ((p + 1 : Nat) : Int) * ((p + 1 : Nat) : Int) = z at *
        rcases Int.lt_or_lt_of_ne hT0 with c | c
        · rw [hm.2 c, if_neg (by omega)] at q
          have := sg.2 (by omega)
          rw [if_neg (by omega), if_pos (by omega)]
          decide
        · rw [hm.1 c, if_pos (by omega)] at q
          have := sg.1 (by omega)
          rw [if_pos (by omega)]
          decide
      rw [if_neg e0] at hk
      have e : nI (p + 1) + (-1) = nI p := by rw [← nI_pred p]; exact (Int32.sub_eq_add_neg _ _).symm
      rw [e]
      exact ih f (by omega) (by omega) hk
theorem qk0 {h g : Int32} : ∀ p, p ≤ 60 → qk 0 h g p = p := by
  intro p hp
  cases p with
  | zero => rfl
  | succ p =>
    unfold qk
    rw [if_pos (goes0 hp)]
theorem sp_quickest (hT : TY S) (hn : 400 < n) (h : CQ S I r W) {b : Nat} (hb : (b : Int) < (r 1).toInt) {k : Int32 → tHI → tHJ → Prop} (hk : ∀ (I' : tHI) (J' : tHJ), CK I I' → CJ J J' → k (nI (aQ S I r b W)) I' J') : F2_quickest n S I J (nI b) k := by
  obtain ⟨hb12, hh, h8, h9, ht⟩ := h.has (J := J) hb
  obtain ⟨f, hf, hf2⟩ := aT2_r (S := S) (I := I) (r := r) (b := b) (W := W)
  unfold F2_quickest
  rw [if_neg hh, qn (by omega), h8]
  refine ⟨⟨fun _ => trivial, fun _ => ⟨(qin (by omega)).mpr hb12, trivial⟩⟩, ?_⟩
  refine sp_tellQ (kd := 2) hT hn h hb (by omega) (fun I1 J1 a1 a2 => ?_)
  have e60 : (if aT S I r b W 2 < 60 then aT S I r b W 2 else 60) = nI f := by
    rw [hf]
    by_cases c : nI f < 60
    · rw [if_pos c]
    · rw [if_neg c]
      have : ¬ f < 60 := fun y => c ((qlt (b := 60) (by omega) (by omega)).mpr y)
      have : f = 60 := by omega
      rw [this]; rfl
  rw [e60]
  have hq : nI (aQ S I r b W) = nI (qk (r (38 + 4 * b)) (aT S I r b W 0) (aT S I r b W 1) f) := by unfold aQ; rw [hf, qn (by omega)]
  refine ⟨fun q => ?_, fun q => ?_⟩
  · have hne : (r (38 + 4 * b)).toInt ≠ 0 := fun y => q (Int32.toInt_inj.mp y)
    by_cases c : r (38 + 4 * b) ≤ 0
    · rw [if_pos c]
      refine sp_tellQ (kd := 0) hT hn (h.cg a1) hb (by omega) (fun I2 J2 b1 b2 => ?_)
      rw [aT_I h.FO (a1.1 1 (by decide)) (fun x hx => a1.1 x (by omega))]
      rw [Int32.le_iff_toInt_le, tz0] at c
      refine quick_L (h := aT S I r b W 0) (g := aT S I r b W 1) ht ⟨fun y => by omega, fun _ => rfl⟩ hne f n (by omega) hf2 ?_
      rw [← hq]
      exact hk _ _ (a1.trans b1) (a2.trans b2)
    · rw [if_neg c]
      refine sp_tellQ (kd := 1) hT hn (h.cg a1) hb (by omega) (fun I2 J2 b1 b2 => ?_)
      rw [aT_I h.FO (a1.1 1 (by decide)) (fun x hx => a1.1 x (by omega))]
      rw [Int32.le_iff_toInt_le, tz0] at c
      refine quick_L (h := aT S I r b W 0) (g := aT S I r b W 1) ht ⟨fun _ => rfl, fun y => by omega⟩ hne f n (by omega) hf2 ?_
      rw [← hq]
      exact hk _ _ (a1.trans b1) (a2.trans b2)
  · have := hk I1 J1 a1 a2
    rw [hq, q, qk0 f hf2] at this
    exact this
-- the model
/-- the model may ask of a bend -/
def MQB (S : tSH) (I : tHI) (N B : Nat) : Prop := MQ2 S I N ∧ WR (I 61 41) (I 63) N ∧ B ≤ 12 ∧ I 63 1 = nI B ∧ ∀ b, b < B → WS (I 63) b (WI I N)
theorem MQB.cg {I' : tHI} {N B : Nat} (h : MQB S I N B) (e : MK I I') : MQB S I' N B := by
  obtain ⟨h1, h2, h3, h4, h5⟩ := h
  refine ⟨h1.cg e, ?_, h3, ?_, ?_⟩
  · rw [mx _ _ e, e.1 63 (by decide)]; exact h2
  · rw [e.1 63 (by decide)]; exact h4
  · show ∀ b, b < B → WS (I' 63) b (WM (I' 61 41) (I' 63) N)
    rw [mx _ _ e, e.1 63 (by decide)]; exact h5
theorem aT_MK {I' : tHI} {N : Nat} (hF : FO S I (I 63)) (e : MK I I') {b kd : Nat} : aT S I' (I' 63) b (WI I' N) kd = aT S I (I 63) b (WI I N) kd := by
  show aT S I' (I' 63) b (WM (I' 61 41) (I' 63) N) kd = _
  rw [mx _ _ e, e.1 63 (by decide)]
  exact aT_I hF (e.1 1 (by decide)) (fun x hx => e.1 x (by omega))
theorem sp_goesNow (hn : 400 < n) {N B : Nat} (h : MQB S I N B) {b : Nat} (hb : b < B) {v : Int32} {k : Int32 → tHI → tHJ → Prop} (hk : ∀ (I' : tHI) (J' : tHJ), MK I I' → MJ J J' → k (aO S I (I 63) b (WI I N) v) I' J') : F12_goesNow n S I J (nI b) v k := by
  have hb12 : b < 12 := by have := h.2.2.1; omega
  have hF := h.1.2.2.2.2.2
  obtain ⟨v0, p0⟩ := ofB (S := S) (I := I) (J := J) hb12 (q := 0) (by decide) (v := nI b) rfl (w := 0) rfl
  unfold F12_goesNow
  refine ⟨p0, ?_⟩
  rw [v0]
  refine sp_holds hn h.1 hb12 (h.2.2.2.2 b hb) h.2.1 (fun I1 J1 a1 a2 => ?_)
  have h1 := h.cg a1
  refine sp_grips hn h1.1 hb12 (h1.2.2.2.2 b hb) h1.2.1 (fun I2 J2 b1 b2 => ?_)
  rw [aT_MK hF a1]
  exact hk _ _ (a1.trans b1) (a2.trans b2)
theorem quickM_L {h g : Int32} {k : Int32 → tHI → tHJ → Prop} {b : Nat} (hb : b < 12) (hT : -9 ≤ (I 63 (38 + 4 * b)).toInt ∧ (I 63 (38 + 4 * b)).toInt ≤ 9) : ∀ (p f : Nat), p < f → p ≤ 60 → k (nI (qk (I 63 (38 + 4 * b)) h g p)) I J → F12_quickest_L19 n S k f I J (nI b) h g (nI p) := by
  obtain ⟨v0, p0⟩ := ofB (S := S) (I := I) (J := J) hb (q := 0) (by decide) (v := nI b) rfl (w := 0) rfl
  intro p
  induction p with
  | zero =>
    intro f hf hp hk
    obtain ⟨f, rfl⟩ : ∃ g, f = g + 1 := ⟨f - 1, by omega⟩
    show F12_quickest_19 n S k (F12_quickest_L19 n S k f) I J (nI b) h g (nI 0)
    unfold F12_quickest_19 F12_quickest_46
    exact ⟨fun _ => hk, fun q => absurd (by decide) q⟩
  | succ p ih =>
    intro f hf hp hk
    obtain ⟨f, rfl⟩ : ∃ g, f = g + 1 := ⟨f - 1, by omega⟩
    show F12_quickest_19 n S k (F12_quickest_L19 n S k f) I J (nI b) h g (nI (p + 1))
    unfold F12_quickest_19 F12_quickest_46
    rw [v0, show 38 + 4 * b + 0 = 38 + 4 * b from rfl]
    unfold qk at hk
    refine ⟨fun q => ?_, fun _ => ⟨p0, fun q => ?_, fun q => ?_⟩⟩
    · rw [Int32.le_iff_toInt_le, qi (by omega), tz0] at q; omega
    · rw [if_pos q] at hk; exact hk
    · rw [if_neg q] at hk
      have e : nI (p + 1) + (-1) = nI p := by rw [← nI_pred p]; exact (Int32.sub_eq_add_neg _ _).symm
      rw [e]
      exact ih f (by omega) (by omega) hk
theorem sp_quickM (hn : 400 < n) {N B : Nat} (h : MQB S I N B) {b : Nat} (hb : b < B) {k : Int32 → tHI → tHJ → Prop} (hk : ∀ (I' : tHI) (J' : tHJ), MK I I' → MJ J J' → k (nI (aQ S I (I 63) b (WI I N))) I' J') : F12_quickest n S I J (nI b) k := by
  have hb12 : b < 12 := by have := h.2.2.1; omega
  have hF := h.1.2.2.2.2.2
  unfold F12_quickest
  refine sp_holds hn h.1 hb12 (h.2.2.2.2 b hb) h.2.1 (fun I1 J1 a1 a2 => ?_)
  have h1 := h.cg a1
  refine sp_grips hn h1.1 hb12 (h1.2.2.2.2 b hb) h1.2.1 (fun I2 J2 b1 b2 => ?_)
  have a12 := a1.trans b1
  have h2 := h.cg a12
  refine sp_fears hn h2.1 hb12 (h2.2.2.2.2 b hb) h2.2.1 (fun I3 J3 c1 c2 => ?_)
  have a13 := a12.trans c1
  rw [aT_MK hF a1, aT_MK hF a12]
  obtain ⟨f, hf, hf2⟩ := aT2_r (S := S) (I := I) (r := I 63) (b := b) (W := WI I N)
  rw [hf]
  refine quickM_L hb12 ?_ f n (by omega) hf2 ?_
  · rw [a13.1 63 (by decide)]; exact (h.2.2.2.2 b hb).1
  · rw [a13.1 63 (by decide)]
    have := hk I3 J3 a13 ((a2.trans b2).trans c2)
    unfold aQ at this
    rw [hf, qn (by omega)] at this
    exact this
theorem ban_L {k : Int32 → tHI → tHJ → Prop} {we sp al : Int32} {J0 : tHJ} (hk : ∀ J' : tHJ, (∀ x, x ≠ 79 → J' x = J0 x) → (∀ o, 1 ≤ o → o < 7 → J' 79 o = -1) → J' 79 9 = we.toInt64 → J' 79 10 = sp.toInt64 → J' 79 11 = al.toInt64 → F12_tells n S I J' 5 0 (fun x4 I2 J3 => k (if (lg_cmp x4 1) = 0 then (1 : Int32) else 0) I2 J3)) : ∀ (d f i : Nat) (J : tHJ), i + d = 7 → d < f → 1 ≤ i → (∀ x, x ≠ 79 → J x = J0 x) → (∀ o, 1 ≤ o → o < i → J 79 o = -1) → F12_isBannedBy_L3 n S k f I J we al sp (nI i) := by
  intro d
  induction d with
  | zero =>
    intro f i J hi hf hi1 h1 h2
    obtain ⟨f, rfl⟩ : ∃ g, f = g + 1 := ⟨f - 1, by omega⟩
    have : i = 7 := by omega
    subst this
    show F12_isBannedBy_3 n S k (F12_isBannedBy_L3 n S k f) I J we al sp (nI 7)
    unfold F12_isBannedBy_3
    refine ⟨fun _ => hk _ (fun x hx => by rw [uJn hx, uJn hx, uJn hx]; exact h1 x hx) (fun o p q => ?_) ?_ ?_ ?_, fun q => absurd (by decide) q⟩
    · simp only [uJe]; rw [upJn (by omega), upJn (by omega), upJn (by omega)]; exact h2 o p q
    · simp only [uJe]; rw [upJn (by decide), upJn (by decide), upJe]
    · simp only [uJe]; rw [upJn (by decide), upJe]
    · simp only [uJe]; rw [upJe]
  | succ d ih =>
    intro f i J hi hf hi1 h1 h2
    obtain ⟨f, rfl⟩ : ∃ g, f = g + 1 := ⟨f - 1, by omega⟩
    show F12_isBannedBy_3 n S k (F12_isBannedBy_L3 n S k f) I J we al sp (nI i)
    unfold F12_isBannedBy_3
    refine ⟨fun q => ?_, fun _ => ⟨(qin (by omega)).mpr (by omega), ?_⟩⟩
    · have := (qle (a := 7) (by omega) (by omega)).mp q; omega
    · rw [nI_1, qn (by omega)]
      refine ih f (i + 1) _ (by omega) (by omega) (by omega) (fun x hx => by rw [uJn hx]; exact h1 x hx) (fun o p q => ?_)
      rw [uJe]
      by_cases c : o = i
      · subst c; rw [upJe]
      · rw [upJn c]; exact h2 o p (by omega)
theorem sp_ban (hn : 400 < n) (h20 : I 61 20 = 0) (hF : FO S I (I 63)) {W : Nat → Int32} (w6 : W 6 = I 63 8) (w7 : W 7 = I 63 13) (w11 : W 11 = I 63 7) {we sp al : Int32} {k : Int32 → tHI → tHJ → Prop} (hk : ∀ (I' : tHI) (J' : tHJ), MK I I' → MJ J J' → k (if lawB S I (wl (wLd W we sp al)) = true then 1 else 0) I' J') : F12_isBannedBy n S I J we al sp k := by
  unfold F12_isBannedBy
  refine ban_L (J0 := J) (fun J1 a1 a2 a3 a4 a5 => ?_) 6 n 1 J (by omega) (by omega) (by omega) (fun _ _ => rfl) (fun o p q => by omega)
  refine sp_tells (kd := 5) (w := wl (wLd W we sp al)) (by omega) hn h20 hF (fun o ho => ?_) (by show (W 6).toInt64 = _; rw [w6]) (by show (W 7).toInt64 = _; rw [w7]) (by show (W 11).toInt64 = _; rw [w11]) (fun I' J' b1 b2 b3 => ?_)
  · have : o = 1 ∨ o = 2 ∨ o = 3 ∨ o = 4 ∨ o = 5 ∨ o = 6 ∨ o = 9 ∨ o = 10 ∨ o = 11 := by simpa using ho
    rcases this with g | g | g | g | g | g | g | g | g <;> subst g
    · rw [a2 1 (by omega) (by omega)]; simp [wl, wLd]
    · rw [a2 2 (by omega) (by omega)]; simp [wl, wLd]
    · rw [a2 3 (by omega) (by omega)]; simp [wl, wLd]
    · rw [a2 4 (by omega) (by omega)]; simp [wl, wLd]
    · rw [a2 5 (by omega) (by omega)]; simp [wl, wLd]
    · rw [a2 6 (by omega) (by omega)]; simp [wl, wLd]
    · rw [a3]; simp [wl, wLd]
    · rw [a4]; simp [wl, wLd]
    · rw [a5]; simp [wl, wLd]
  · rw [if_pos rfl]
    simp only [lg_cmp_eq]
    have := hk I' J' ⟨b1, fun y hy => b2 y (fun q => hy (by subst q; decide)) (fun q => hy (by subst q; decide))⟩ ⟨fun x p q s => by rw [b3.1 x p q s, a1 x q], fun y p q => by rw [b3.2 y p q, a1 61 (by decide)]⟩
    cases hb : lawB S I (wl (wLd W we sp al)) with
    | true => rw [hb] at this; exact this
    | false => rw [hb] at this; exact this
end QD
