/-! how it goes, how quick, what is barred: the same by both sides -/
theorem tz0 : (0 : Int32).toInt = 0 := rfl
theorem aT2_r {S : tSH} {I : tHI} {r : Nat → Int32} {b : Nat} {W : Nat → Int32} : ∃ f, aT S I r b W 2 = nI f ∧ f ≤ 60 := by
  unfold aT tellV
  cases lawT S I (wl (wB r b W)) (nI 2) with
  | none => exact ⟨60, rfl, Nat.le_refl _⟩
  | some v =>
    show ∃ f, V2_nearest 2 v = nI f ∧ f ≤ 60
    rw [near2]
    have e := mwi (w := v) (lo := 0) (hi := 60) (by decide)
    rw [tz0, show (60 : Int32).toInt = 60 from rfl] at e
    exact ⟨_, qof (by omega), by rw [qtn]; omega⟩
/-- the greatest pace, p at most, at which it goes well -/
def qk (T h g : Int32) : Nat → Nat
  | 0 => 0
  | p + 1 => if V12_goesBy T (nI (p + 1)) h g = 0 then p + 1 else qk T h g p
theorem qk_le {T h g : Int32} : ∀ p, qk T h g p ≤ p := by
  intro p
  induction p with
  | zero => exact Nat.le_refl _
  | succ p ih =>
    unfold qk
    split
    · exact Nat.le_refl _
    · omega
def aQ (S : tSH) (I : tHI) (r : Nat → Int32) (b : Nat) (W : Nat → Int32) : Nat := qk (r (38 + 4 * b)) (aT S I r b W 0) (aT S I r b W 1) (aT S I r b W 2).toNatClampNeg
theorem aQ_le {S : tSH} {I : tHI} {r : Nat → Int32} {b : Nat} {W : Nat → Int32} : aQ S I r b W ≤ 60 := by
  obtain ⟨f, h1, h2⟩ := aT2_r (S := S) (I := I) (r := r) (b := b) (W := W)
  unfold aQ
  have := qk_le (T := r (38 + 4 * b)) (h := aT S I r b W 0) (g := aT S I r b W 1) (aT S I r b W 2).toNatClampNeg
  rw [h1, qn (by omega)] at this
  rw [h1, qn (by omega)]
  omega
def aO (S : tSH) (I : tHI) (r : Nat → Int32) (b : Nat) (W : Nat → Int32) (v : Int32) : Int32 := V12_goesBy (r (38 + 4 * b)) v (aT S I r b W 0) (aT S I r b W 1)
theorem aO_I {S : tSH} {I I' : tHI} {r r0 : Nat → Int32} (h : FO S I r) {b : Nat} {W : Nat → Int32} {v : Int32} (e1 : I' 1 = I 1) (e89 : ∀ x, 89 ≤ x → I' x = I x) : aO S I' r0 b W v = aO S I r0 b W v := by
  unfold aO
  rw [aT_I h e1 e89, aT_I h e1 e89]
theorem aQ_I {S : tSH} {I I' : tHI} {r r0 : Nat → Int32} (h : FO S I r) {b : Nat} {W : Nat → Int32} (e1 : I' 1 = I 1) (e89 : ∀ x, 89 ≤ x → I' x = I x) : aQ S I' r0 b W = aQ S I r0 b W := by
  unfold aQ
  rw [aT_I h e1 e89, aT_I h e1 e89, aT_I h e1 e89]
theorem push_b {t : Int} {p : Nat} (hT : -9 ≤ t ∧ t ≤ 9) (hp : p ≤ 60) : -32400 ≤ t * (p : Int) * p ∧ t * (p : Int) * p ≤ 32400 := by
  have b1 : -540 ≤ t * (p : Int) ∧ t * (p : Int) ≤ 540 := by
    have : t = -9 ∨ t = -8 ∨ t = -7 ∨ t = -6 ∨ t = -5 ∨ t = -4 ∨ t = -3 ∨ t = -2 ∨ t = -1 ∨ t = 0 ∨ t = 1 ∨ t = 2 ∨ t = 3 ∨ t = 4 ∨ t = 5 ∨ t = 6 ∨ t = 7 ∨ t = 8 ∨ t = 9 := by omega
    rcases this with g | g | g | g | g | g | g | g | g | g | g | g | g | g | g | g | g | g | g <;> subst g <;> omega
  have a1 : t * (p : Int) * p ≤ 540 * p := Int.mul_le_mul_of_nonneg_right b1.2 (by omega)
  have a2 : -540 * (p : Int) ≤ t * (p : Int) * p := Int.mul_le_mul_of_nonneg_right b1.1 (by omega)
  omega
/-- the push at a pace -/
theorem push_v {T : Int32} {p : Nat} (hT : -9 ≤ T.toInt ∧ T.toInt ≤ 9) (hp : p ≤ 60) : (T * nI p * nI p).toInt = T.toInt * p * p := by
  have b1 : -540 ≤ T.toInt * (p : Int) ∧ T.toInt * (p : Int) ≤ 540 := by
    have : T.toInt = -9 ∨ T.toInt = -8 ∨ T.toInt = -7 ∨ T.toInt = -6 ∨ T.toInt = -5 ∨ T.toInt = -4 ∨ T.toInt = -3 ∨ T.toInt = -2 ∨ T.toInt = -1 ∨ T.toInt = 0 ∨ T.toInt = 1 ∨ T.toInt = 2 ∨ T.toInt = 3 ∨ T.toInt = 4 ∨ T.toInt = 5 ∨ T.toInt = 6 ∨ T.toInt = 7 ∨ T.toInt = 8 ∨ T.toInt = 9 := by omega
    rcases this with g | g | g | g | g | g | g | g | g | g | g | g | g | g | g | g | g | g | g <;> rw [g] <;> omega
  have e1 : (T * nI p).toInt = T.toInt * p := ti_mul (by rw [qi (by omega)]) (by omega) (by omega)
  have b2 : -32400 ≤ T.toInt * (p : Int) * p ∧ T.toInt * (p : Int) * p ≤ 32400 := by
    have a1 : T.toInt * (p : Int) * p ≤ 540 * p := Int.mul_le_mul_of_nonneg_right b1.2 (by omega)
    have a2 : -540 * (p : Int) ≤ T.toInt * (p : Int) * p := Int.mul_le_mul_of_nonneg_right b1.1 (by omega)
    omega
  exact ti_mul (by rw [e1, qi (by omega)]) (by omega) (by omega)
theorem sgn_pp {t : Int} {p : Nat} : (0 ≤ t → 0 ≤ t * p * p) ∧ (t ≤ 0 → t * p * p ≤ 0) := by
  refine ⟨fun h => ?_, fun h => ?_⟩
  · exact Int.mul_nonneg (Int.mul_nonneg h (by omega)) (by omega)
  · have a : t * (p : Int) ≤ 0 := Int.mul_nonpos_of_nonpos_of_nonneg h (by omega)
    exact Int.mul_nonpos_of_nonpos_of_nonneg a (by omega)
/-- the model's goesBy, by numbers -/
theorem goes_v {T h g : Int32} {p : Nat} (hT : -9 ≤ T.toInt ∧ T.toInt ≤ 9) (hp : p ≤ 60) : V12_goesBy T (nI p) h g = (if 0 < T.toInt * p * p ∧ g.toInt < T.toInt * p * p then 2 else if T.toInt * p * p < 0 ∧ h.toInt < -(T.toInt * p * p) then 1 else 0) := by
  have e := push_v hT hp
  have b2 := push_b hT hp
  have en : (-(T * nI p * nI p)).toInt = -(T.toInt * p * p) := by rw [ti_neg (by rw [e]; omega), e]
  unfold V12_goesBy
  simp only [Int32.le_iff_toInt_le, e, en, tz0]
  generalize T.toInt * (p : Int) * p = z at *
  by_cases c1 : z ≤ 0
  · rw [if_pos c1]
    by_cases c2 : 0 ≤ z
    · rw [if_pos c2, if_neg (by omega), if_neg (by omega)]
    · rw [if_neg c2, if_neg (show ¬ (0 < z ∧ g.toInt < z) by omega)]
      by_cases c3 : -z ≤ h.toInt
      · rw [if_pos c3, if_neg (by omega)]
      · rw [if_neg c3, if_pos (by omega)]
  · rw [if_neg c1]
    by_cases c2 : z ≤ g.toInt
    · rw [if_pos c2, if_pos (by omega), if_neg (by omega), if_neg (by omega)]
    · rw [if_neg c2, if_pos (by omega)]
/-- the class may ask: its State is the row's, the words of its Judge are W -/
def CQ (S : tSH) (I : tHI) (r : Nat → Int32) (W : Nat → Int32) : Prop := RSt S I 1 r ∧ (∀ a, 3 ≤ a → a < 12 → I 49 a = W a) ∧ ∀ a, 3 ≤ a → a < 12 → -1000000000 ≤ (W a).toInt ∧ (W a).toInt ≤ 1000000000
/-- what asking changes in the class -/
def CK (I I' : tHI) : Prop := (∀ x, x ≠ 49 → I' x = I x) ∧ ∀ y, 3 ≤ y → I' 49 y = I 49 y
def CJ (J J' : tHJ) : Prop := ∀ x, x ≠ 47 → J' x = J x
theorem CK.rf (I : tHI) : CK I I := ⟨fun _ _ => rfl, fun _ _ => rfl⟩
theorem CJ.rf (J : tHJ) : CJ J J := fun _ _ => rfl
theorem CK.trans {I I' I'' : tHI} (h : CK I I') (g : CK I' I'') : CK I I'' := ⟨fun x q => (g.1 x q).trans (h.1 x q), fun x q => (g.2 x q).trans (h.2 x q)⟩
theorem CJ.trans {I I' I'' : tHJ} (h : CJ I I') (g : CJ I' I'') : CJ I I'' := fun x q => (g x q).trans (h x q)
theorem CQ.cg {S : tSH} {I I' : tHI} {r W : Nat → Int32} (h : CQ S I r W) (e : CK I I') : CQ S I' r W := ⟨h.1.cg (fun i hi => e.1 _ (by omega)) (fun x hx => e.1 x (by omega)), fun a p q => by rw [e.2 a p]; exact h.2.1 a p q, h.2.2⟩
theorem CQ.FO {S : tSH} {I : tHI} {r W : Nat → Int32} (h : CQ S I r W) : FO S I r := FO.of h.1
section QC
variable {n : Nat} {S : tSH} {I : tHI} {J : tHJ} {r W : Nat → Int32}
theorem sp_tellQ (hT : TY S) (hn : 400 < n) (h : CQ S I r W) {b : Nat} (hb : (b : Int) < (r 1).toInt) {kd : Nat} (hkd : kd ≤ 4) {k : Int32 → tHI → tHJ → Prop} (hk : ∀ (I' : tHI) (J' : tHJ), CK I I' → CJ J J' → k (aT S I r b W kd) I' J') : F2_tell n S I J (nI kd) (nI b) k := sp_tellA hT hn h.1 hb hkd h.2.1 h.2.2 (fun I' J' a1 a2 a3 => hk I' J' ⟨a1, a2⟩ a3)
theorem CQ.has (h : CQ S I r W) {b : Nat} (hb : (b : Int) < (r 1).toInt) : b < 12 ∧ ¬ V7_has S I J 7 (nI b) = 0 ∧ I 8 b = r (38 + 4 * b) ∧ I 9 b = r (38 + 4 * b + 1) ∧ (-9 ≤ (r (38 + 4 * b)).toInt ∧ (r (38 + 4 * b)).toInt ≤ 9) := by
  obtain ⟨w, w1, w2⟩ := h.1.2.2.2.2.2.1.1.2.1
  have hb12 : b < 12 := by rw [w1, qi (by omega)] at hb; omega
  have h70 : I 7 0 = r 1 := h.1.1.2.2.2.1
  refine ⟨hb12, ?_, (h.1.2.2.1 b hb12).1, (h.1.2.2.1 b hb12).2.1, (h.1.2.2.2.2.2.1.2.2.2.1 b hb12).1⟩
  intro q
  rw [has7, qi (by omega), h70] at q
  omega
theorem sp_outcome (hT : TY S) (hn : 400 < n) (h : CQ S I r W) {b : Nat} (hb : (b : Int) < (r 1).toInt) {p : Nat} (hp : p ≤ 60) {k : Int32 → tHI → tHJ → Prop} (hk : ∀ (I' : tHI) (J' : tHJ), CK I I' → CJ J J' → k (aO S I r b W (nI p)) I' J') : F2_outcome n S I J (nI b) (nI p) k := by
  obtain ⟨hb12, hh, h8, h9, ht⟩ := h.has (J := J) hb
  have pv := push_v (T := r (38 + 4 * b)) ht hp
  have sg := sgn_pp (t := (r (38 + 4 * b)).toInt) (p := p)
  unfold F2_outcome F2_outcome_75 F2_outcome_80
  rw [if_neg hh, qn (by omega), h8]
  refine ⟨⟨fun _ => trivial, fun _ => ⟨(qin (by omega)).mpr hb12, trivial⟩⟩, fun q => ⟨fun q0 => ?_, fun q0 => ?_⟩, fun q => ?_⟩
  · have := hk I J (CK.rf I) (CJ.rf J)
    unfold aO at this
    rw [goes_v ht hp, q0, tz0] at this
    simpa using this
  · refine sp_tellQ (kd := 0) hT hn h hb (by omega) (fun I' J' a1 a2 => ?_)
    have := hk I' J' a1 a2
    unfold aO at this
    rw [goes_v ht hp] at this
    rw [Int32.le_iff_toInt_le, tz0] at q
    have q1 := sg.2 q
    have pb := push_b ht hp
    have en : (-(r (38 + 4 * b) * nI p * nI p)).toInt = -((r (38 + 4 * b)).toInt * p * p) := by rw [ti_neg (by rw [pv]; omega), pv]
    simp only [Int32.lt_iff_toInt_lt, en]
    generalize (r (38 + 4 * b)).toInt * (p : Int) * p = z at *
    rw [if_neg (show ¬ (0 < z ∧ (aT S I r b W 1).toInt < z) by omega)] at this
    by_cases c : (aT S I r b W 0).toInt < -z
    · rw [if_pos c]
      by_cases c0 : z < 0
      · rw [if_pos ⟨c0, c⟩] at this; exact this
      · exfalso
        have z0 : z = 0 := by omega
        have hn0 : 0 ≤ (aT S I r b W 0).toInt := by
          unfold aT tellV
          cases lawT S I (wl (wB r b W)) (nI 0) with
          | none =>
            show 0 ≤ (wout (wB r b W) (nI 0)).toInt
            show 0 ≤ (if 0 < ((600 + (20 * (wB r b W 3))) + (wB r b W 5)) then ((600 + (20 * (wB r b W 3))) + (wB r b W 5)) else 0).toInt
            by_cases g : 0 < ((600 + (20 * (wB r b W 3))) + (wB r b W 5))
            · rw [if_pos g]; rw [Int32.lt_iff_toInt_lt, tz0] at g; omega
            · rw [if_neg g]; exact Int.le_refl _
          | some v =>
            show 0 ≤ (V2_nearest 0 v).toInt
            rw [near0, mwi (by decide), tz0]
            omega
        omega
    · rw [if_neg c]
      rw [if_neg (by omega)] at this
      exact this
  · refine sp_tellQ (kd := 1) hT hn h hb (by omega) (fun I' J' a1 a2 => ?_)
    have := hk I' J' a1 a2
    unfold aO at this
    rw [goes_v ht hp] at this
    rw [Int32.le_iff_toInt_le, tz0] at q
    have q1 := sg.1 (by omega)
    simp only [Int32.lt_iff_toInt_lt, pv]
    generalize (r (38 + 4 * b)).toInt * (p : Int) * p = z at *
    rw [if_neg (show ¬ (z < 0 ∧ (aT S I r b W 0).toInt < -z) by omega)] at this
    by_cases c : (aT S I r b W 1).toInt < z
    · rw [if_pos c]
      by_cases c0 : 0 < z
      · rw [if_pos ⟨c0, c⟩] at this; exact this
      · exfalso
        have hn0 : 0 ≤ (aT S I r b W 1).toInt := by
          unfold aT tellV
          cases lawT S I (wl (wB r b W)) (nI 1) with
          | none =>
            show 0 ≤ (if 0 < ((2000 + (10 * (wB r b W 4))) - (wB r b W 5)) then ((2000 + (10 * (wB r b W 4))) - (wB r b W 5)) else 0).toInt
            by_cases g : 0 < ((2000 + (10 * (wB r b W 4))) - (wB r b W 5))
            · rw [if_pos g]; rw [Int32.lt_iff_toInt_lt, tz0] at g; omega
            · rw [if_neg g]; exact Int.le_refl _
          | some v =>
            show 0 ≤ (V2_nearest 1 v).toInt
            rw [near1, mwi (by decide), tz0]
            omega
        omega
    · rw [if_neg c]
      rw [if_neg (by omega)] at this
      exact this
end QC
