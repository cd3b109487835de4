/-! holdsOf .. learnsOf: the model comes to the same value as Judge.tell -/
theorem clamp64 {v lo hi : Int64} (h1 : -2147483648 ≤ lo.toInt) (h2 : lo.toInt ≤ hi.toInt) (h3 : hi.toInt < 2147483648) : (if (if v < hi then v else hi) < lo then lo else (if v < hi then v else hi)).toInt32.toInt = max lo.toInt (min v.toInt hi.toInt) := by
  by_cases a : v < hi
  · rw [if_pos a]
    rw [Int64.lt_iff_toInt_lt] at a
    by_cases b : v < lo
    · rw [if_pos b]
      rw [Int64.lt_iff_toInt_lt] at b
      rw [tl_32 (by omega) (by omega)]
      omega
    · rw [if_neg b]
      rw [Int64.lt_iff_toInt_lt] at b
      rw [tl_32 (by omega) (by omega)]
      omega
  · rw [if_neg a]
    rw [Int64.lt_iff_toInt_lt] at a
    by_cases b : hi < lo
    · rw [Int64.lt_iff_toInt_lt] at b; omega
    · rw [if_neg b, tl_32 (by omega) (by omega)]
      omega
theorem near0 (v : Int64) : V2_nearest 0 v = V12_within v 0 99999 := by
  refine Int32.toInt_inj.mp ?_
  rw [mwi (by decide)]
  have e : V2_nearest 0 v = (if (if v < 99999 then v else 99999) < 0 then 0 else (if v < 99999 then v else 99999)).toInt32 := rfl
  rw [e, clamp64 (by decide) (by decide) (by decide)]
  rfl
theorem near1 (v : Int64) : V2_nearest 1 v = V12_within v 0 99999 := by
  refine Int32.toInt_inj.mp ?_
  rw [mwi (by decide)]
  have e : V2_nearest 1 v = (if (if v < 99999 then v else 99999) < 0 then 0 else (if v < 99999 then v else 99999)).toInt32 := rfl
  rw [e, clamp64 (by decide) (by decide) (by decide)]
  rfl
theorem near2 (v : Int64) : V2_nearest 2 v = V12_within v 0 60 := by
  refine Int32.toInt_inj.mp ?_
  rw [mwi (by decide)]
  have e : V2_nearest 2 v = (if (if v < 60 then v else 60) < 0 then 0 else (if v < 60 then v else 60)).toInt32 := rfl
  rw [e, clamp64 (by decide) (by decide) (by decide)]
  rfl
theorem near3 (v : Int64) : V2_nearest 3 v = V12_within v (-99) 99 := by
  refine Int32.toInt_inj.mp ?_
  rw [mwi (by decide)]
  have e : V2_nearest 3 v = (if (if v < 99 then v else 99) < (-99) then (-99) else (if v < 99 then v else 99)).toInt32 := rfl
  rw [e, clamp64 (by decide) (by decide) (by decide)]
  rfl
theorem near4 (v : Int64) : V2_nearest 4 v = V12_within v 0 100 := by
  refine Int32.toInt_inj.mp ?_
  rw [mwi (by decide)]
  have e : V2_nearest 4 v = (if (if v < 100 then v else 100) < 0 then 0 else (if v < 100 then v else 100)).toInt32 := rfl
  rw [e, clamp64 (by decide) (by decide) (by decide)]
  rfl
/-- the words behind a bend's own, as the model makes them of its row -/
def WM (set : Int32) (r : Nat → Int32) (N : Nat) : Nat → Int32 := fun a => if a = 3 then sCh set r N else if a = 4 then sRe set r N else if a = 5 then sLe set r N else if a = 6 then r 8 else if a = 7 then r 13 else if a = 11 then r 7 else -1
/-- how far the sums of weights go -/
def WR (set : Int32) (r : Nat → Int32) (N : Nat) : Prop := (0 ≤ (sCh set r N).toInt ∧ (sCh set r N).toInt ≤ 1200) ∧ (0 ≤ (sRe set r N).toInt ∧ (sRe set r N).toInt ≤ 1200) ∧ (-2400 ≤ (sLe set r N).toInt ∧ (sLe set r N).toInt ≤ 2400)
theorem sum_b {set : Int32} {r : Nat → Int32} (hL : KL r) (hle : ∀ i, i < 6 → -2 ≤ (r (20 + i)).toInt ∧ (r (20 + i)).toInt ≤ 2) : ∀ i, i ≤ 6 → (0 ≤ (sCh set r i).toInt ∧ (sCh set r i).toInt ≤ 200 * i) ∧ (0 ≤ (sRe set r i).toInt ∧ (sRe set r i).toInt ≤ 200 * i) ∧ (-(400 * (i : Int)) ≤ (sLe set r i).toInt ∧ (sLe set r i).toInt ≤ 400 * i) := by
  intro i
  induction i with
  | zero =>
    intro _
    have z : (0 : Int32).toInt = 0 := rfl
    simp only [sCh, sRe, sLe]
    rw [z]
    omega
  | succ i ih =>
    intro hi
    obtain ⟨⟨c1, c2⟩, ⟨d1, d2⟩, ⟨e1, e2⟩⟩ := ih (by omega)
    obtain ⟨⟨w, w1, w2⟩, -⟩ := hL i (by omega)
    obtain ⟨l1, l2⟩ := hle i (by omega)
    have hw : (r (26 + i)).toInt = w := by rw [w1, qi (by omega)]
    have a1 : (sCh set r i + r (26 + i)).toInt = (sCh set r i).toInt + w := by rw [ti_add (by omega) (by omega), hw]
    have a2 : (sRe set r i + r (26 + i)).toInt = (sRe set r i).toInt + w := by rw [ti_add (by omega) (by omega), hw]
    have m1 : -400 ≤ (r (20 + i)).toInt * (r (26 + i)).toInt ∧ (r (20 + i)).toInt * (r (26 + i)).toInt ≤ 400 := by
      rw [hw]
      have : (r (20 + i)).toInt = -2 ∨ (r (20 + i)).toInt = -1 ∨ (r (20 + i)).toInt = 0 ∨ (r (20 + i)).toInt = 1 ∨ (r (20 + i)).toInt = 2 := by omega
      rcases this with g | g | g | g | g <;> rw [g] <;> omega
    have a3 : (r (20 + i) * r (26 + i)).toInt = (r (20 + i)).toInt * (r (26 + i)).toInt := ti_mul rfl (by omega) (by omega)
    have a4 : (sLe set r i + r (20 + i) * r (26 + i)).toInt = (sLe set r i).toInt + (r (20 + i)).toInt * (r (26 + i)).toInt := by rw [ti_add (by rw [a3]; omega) (by rw [a3]; omega), a3]
    generalize (r (20 + i)).toInt * (r (26 + i)).toInt = z at *
    simp only [sCh, sRe, sLe]
    by_cases b : mB set i = true
    · rw [if_pos b, if_pos b, if_pos b]
      refine ⟨?_, ?_, ?_⟩
      · by_cases g : r (14 + i) < 2
        · rw [if_pos g]; omega
        · rw [if_neg g, a1]; omega
      · by_cases g : r (14 + i) < 2
        · rw [if_pos g, a2]; omega
        · rw [if_neg g]; omega
      · by_cases g : r (32 + i) = 1
        · rw [if_pos g, a4]; omega
        · rw [if_neg g]; omega
    · rw [if_neg b, if_neg b, if_neg b]
      omega
theorem WR.of {set : Int32} {r : Nat → Int32} {N : Nat} (hL : KL r) (hle : ∀ i, i < 6 → -2 ≤ (r (20 + i)).toInt ∧ (r (20 + i)).toInt ≤ 2) (hN : N ≤ 6) : WR set r N := by
  obtain ⟨⟨c1, c2⟩, ⟨d1, d2⟩, ⟨e1, e2⟩⟩ := sum_b (set := set) hL hle N hN
  exact ⟨⟨c1, by omega⟩, ⟨d1, by omega⟩, ⟨by omega, by omega⟩⟩
section BD
variable {n : Nat} {S : tSH} {I : tHI} {J : tHJ}
/-- what the model's row must be like, to be asked of a bend -/
def MQ2 (S : tSH) (I : tHI) (N : Nat) : Prop := I 61 20 = 0 ∧ I 63 0 = nI N ∧ N ≤ 6 ∧ KL (I 63) ∧ (∀ i, i < 6 → -2 ≤ (I 63 (20 + i)).toInt ∧ (I 63 (20 + i)).toInt ≤ 2) ∧ FO S I (I 63)
theorem MQ2.cg {I' : tHI} {N : Nat} (h : MQ2 S I N) (e : MK I I') : MQ2 S I' N := by
  obtain ⟨h1, h2, h3, h4, h5, h6⟩ := h
  have e63 := e.1 63 (by decide)
  unfold MQ2
  rw [e63, e.2 20 (by decide)]
  exact ⟨h1, h2, h3, h4, h5, h6.cg (e.1 1 (by decide)) (fun x hx => e.1 x (by omega)) rfl (fun _ _ => rfl)⟩
theorem ofB {b q : Nat} (hb : b < 12) (hq : q < 4) {v w : Int32} (hv : v = nI b) (hw : w = nI q) : V12_ofBend S I J v w = I 63 (38 + 4 * b + q) ∧ P12_ofBend S I J v w := by
  subst hv hw
  have e : 38 + 4 * nI b + nI q = nI (38 + 4 * b + q) := by rw [ql 38, ql 4, qmul, nI_add, nI_add]
  unfold V12_ofBend P12_ofBend
  rw [e, qn (by omega)]
  exact ⟨rfl, (qin (by omega)).mpr (by omega), trivial⟩
/-- a bend's words set; then tells -/
theorem sp_bendM (hn : 400 < n) {N : Nat} (hQ : MQ2 S I N) {b : Nat} (hb : b < 12) {kd : Nat} (hkd : kd ≤ 4) {wo : tHI → tHJ → Int64} {k : Int64 → tHI → tHJ → Prop} (hk : ∀ (I' : tHI) (J' : tHJ), MK I I' → MJ J J' → I' 61 42 = sCh (I 61 41) (I 63) N → I' 61 43 = sRe (I 61 41) (I 63) N → I' 61 44 = sLe (I 61 41) (I 63) N → k (tld (lawT S I (wl (wB (I 63) b (WM (I 61 41) (I 63) N))) (nI kd)) (wo I J)) I' J') (hwo : ∀ (X : tHI) (Y : tHJ), X 63 = I 63 → wo X Y = wo I J) : F12_setBend n S I J (nI b) (fun I1 J2 => F12_tells n S I1 J2 (nI kd) (wo I1 J2) k) := by
  obtain ⟨h20, hN, hN6, hL, hle, hF⟩ := hQ
  unfold F12_setBend
  refine sp_weighM (by omega) hN6 hN hL (fun X x1 x2 x3 x4 x5 => ?_)
  have e63 : X 63 = I 63 := x1 63 (by decide)
  obtain ⟨v0, p0⟩ := ofB (S := S) (I := X) (J := J) hb (q := 0) (by decide) rfl (w := 0) rfl
  have o1 := fun Y : tHJ => ofB (S := S) (I := X) (J := Y) hb (q := 1) (by decide) (v := nI b) rfl (w := 1) rfl
  have o2 := fun Y : tHJ => ofB (S := S) (I := X) (J := Y) hb (q := 2) (by decide) (v := nI b) rfl (w := 2) rfl
  refine ⟨p0, (o1 _).2, (o2 _).2, ?_⟩
  rw [v0, (o1 _).1, (o2 _).1, x3, x4, x5, e63]
  show F12_tells n S X _ (nI kd) (wo X _) k
  rw [hwo X _ e63]
  refine sp_tells (w := wl (wB (I 63) b (WM (I 61 41) (I 63) N))) (by omega) hn (by rw [x2 20 (by decide) (by decide) (by decide)]; exact h20) (by rw [e63]; exact hF.cg (x1 1 (by decide)) (fun x hx => x1 x (by omega)) rfl (fun _ _ => rfl)) (fun o ho => ?_) (by rw [e63]; rfl) (by rw [e63]; rfl) (by rw [e63]; rfl) (fun I' J' y1 y2 y3 => ?_)
  · have : o = 1 ∨ o = 2 ∨ o = 3 ∨ o = 4 ∨ o = 5 ∨ o = 6 ∨ o = 9 ∨ o = 10 ∨ o = 11 := by simpa using ho
    simp only [uJe, upJ]
    rcases this with g | g | g | g | g | g | g | g | g <;> subst g <;> simp [wl, wB, WM] <;> decide +kernel
  · rw [if_neg (show ¬ kd = 5 by omega), lawT_I (I := I) hF (x1 1 (by decide)) (fun x hx => x1 x (by omega))]
    refine hk I' J' ⟨fun x hx => by rw [y1 x hx, x1 x hx], fun y hy => ?_⟩ ⟨fun x a b c => by rw [y3.1 x a b c, uJn b, uJn b, uJn b, uJn b, uJn b, uJn b, uJn b, uJn b, uJn b], fun y a b => by rw [y3.2 y a b, uJn (by decide), uJn (by decide), uJn (by decide), uJn (by decide), uJn (by decide), uJn (by decide), uJn (by decide), uJn (by decide), uJn (by decide)]⟩ (by rw [y2 42 (by decide) (by decide)]; exact x3) (by rw [y2 43 (by decide) (by decide)]; exact x4) (by rw [y2 44 (by decide) (by decide)]; exact x5)
    have q34 : y ≠ 34 := fun q => hy (by subst q; decide)
    have q38 : y ≠ 38 := fun q => hy (by subst q; decide)
    have q42 : y ≠ 42 := fun q => hy (by subst q; decide)
    have q43 : y ≠ 43 := fun q => hy (by subst q; decide)
    have q44 : y ≠ 44 := fun q => hy (by subst q; decide)
    rw [y2 y q34 q38, x2 y q42 q43 q44]
theorem told_ne {S : tSH} {I : tHI} {w : Nat → Int64} {kd : Int32} {v : Int64} (hw : ∀ a, a < 12 → bd (w a)) (h : lawT S I w kd = some v) : ¬ v = 2000000000 := by
  unfold lawT at h
  cases hp : V8_inForce S I (fun _ _ => 0) 1 with
  | none => rw [hp] at h; cases h
  | some p =>
    rw [hp] at h
    have key : ∀ m, toldC (I (p + 1)) (I (p + 2)) (I (p + 4)) w kd m = some v → ¬ v = 2000000000 := by
      intro m
      induction m with
      | zero => intro q; cases q
      | succ m ih =>
        intro q
        simp only [toldC] at q
        split at q
        · cases hs : smC (I (p + 1)) (I (p + 4)) w m with
          | none => rw [hs] at q; exact ih q
          | some u => rw [hs] at q; cases q; exact smC_ne hw hs
        · exact ih q
    exact key _ h
/-- all of a bend's words are small -/
def WS (r : Nat → Int32) (b : Nat) (W : Nat → Int32) : Prop := (-9 ≤ (r (38 + 4 * b)).toInt ∧ (r (38 + 4 * b)).toInt ≤ 9) ∧ (0 ≤ (r (38 + 4 * b + 1)).toInt ∧ (r (38 + 4 * b + 1)).toInt ≤ 99) ∧ (-3 ≤ (r (38 + 4 * b + 2)).toInt ∧ (r (38 + 4 * b + 2)).toInt ≤ 3) ∧ ∀ a, 3 ≤ a → a < 12 → -1000000000 ≤ (W a).toInt ∧ (W a).toInt ≤ 1000000000
theorem WSbd {r : Nat → Int32} {b : Nat} {W : Nat → Int32} (h : WS r b W) : ∀ a, a < 12 → bd (wl (wB r b W) a) := fun a ha => by
  obtain ⟨h0, h1, h2, h3⟩ := h
  show bd (wB r b W a).toInt64
  by_cases a0 : a = 0
  · subst a0; exact bd_of (x := r (38 + 4 * b)) (by omega) (by omega)
  · by_cases a1 : a = 1
    · subst a1; exact bd_of (x := r (38 + 4 * b + 1)) (by omega) (by omega)
    · by_cases a2 : a = 2
      · subst a2; exact bd_of (x := r (38 + 4 * b + 2)) (by omega) (by omega)
      · have : wB r b W a = W a := by simp [wB, a0, a1, a2]
        rw [this]
        exact bd_of (h3 a (by omega) ha).1 (h3 a (by omega) ha).2
end BD
