/-! an act of the rider: what it is refused by -/
def banR (S : tSH) (I : tHI) (r : Nat → Int32) (N : Nat) (b : Int32) (l : Nat) : Bool := lawB S I (wl (wLd (WM 63 r N) (r (26 + l)) b (r (32 + l))))
def whyA (S : tSH) (I : tHI) (r : Nat → Int32) (N kd : Nat) (a b : Int32) : Int32 :=
  if kd = 0 then (if 1 ≤ a.toInt ∧ a.toInt ≤ (r 5).toInt then 0 else -1)
  else if kd = 1 then (if 1 ≤ a.toInt ∧ a.toInt ≤ (r 6).toInt then 0 else -1)
  else if kd = 2 then (if 0 ≤ a.toInt ∧ a.toInt ≤ 2 then (if -1 ≤ a.toInt - (r 11).toInt ∧ a.toInt - (r 11).toInt ≤ 1 then 0 else -3) else -1)
  else if kd = 3 then (if 0 ≤ b.toInt ∧ b.toInt ≤ 3 then (if 0 ≤ a.toInt ∧ a.toInt < (N : Int) then (if 0 < (r 10).toInt ∨ banR S I r N b a.toNatClampNeg = true then -3 else 0) else -2) else -1)
  else if kd = 4 then (if -2 ≤ b.toInt ∧ b.toInt ≤ 2 then (if 0 ≤ a.toInt ∧ a.toInt < (N : Int) then (if r (32 + a.toNatClampNeg) = 0 then -3 else 0) else -2) else -1)
  else (if r 10 = 0 then -3 else if r 1 = 0 then -3 else 0)
def CB (I X : tHI) : Prop := (∀ x, x ≠ 49 → x ≠ 50 → X x = I x) ∧ (∀ y, y ∈ [8, 9, 10] → X 49 y = I 49 y) ∧ ∀ y, y < 6 → X 50 y = I 50 y
theorem CB.rf (I : tHI) : CB I I := ⟨fun _ _ _ => rfl, fun _ _ => rfl, fun _ _ => rfl⟩
section WHY
variable {n : Nat} {S : tSH} {I : tHI} {J : tHJ} {r : Nat → Int32}
theorem banR_I {I' : tHI} {N : Nat} {b : Int32} {l : Nat} (h : FO S I r) (e1 : I' 1 = I 1) (e89 : ∀ x, 89 ≤ x → I' x = I x) : banR S I' r N b l = banR S I r N b l := lawB_I h e1 e89
theorem whyA_I {I' : tHI} {N kd : Nat} {a b : Int32} (h : FO S I r) (e1 : I' 1 = I 1) (e89 : ∀ x, 89 ≤ x → I' x = I x) : whyA S I' r N kd a b = whyA S I r N kd a b := by
  unfold whyA
  rw [banR_I h e1 e89]
theorem lane_d {a l : Int32} (h1 : 0 ≤ a.toInt ∧ a.toInt ≤ 2) (h2 : 0 ≤ l.toInt ∧ l.toInt ≤ 2) : (a - l).toInt = a.toInt - l.toInt := ti_sub (by omega) (by omega)
theorem sp_why (hT : TY S) (hn : 400 < n) (hR : RSt S I 1 r) {N : Nat} (hN : r 0 = nI N) (hN6 : N ≤ 6) (hC : I 49 8 = -1 ∧ I 49 9 = -1 ∧ I 49 10 = -1) (h50 : ∀ y, y < 6 → I 50 y = -1) {kd : Nat} (hkd : kd ≤ 5) {a b : Int32} {k : Int32 → tHI → tHJ → Prop} (hk : ∀ (X : tHI) (J' : tHJ), CB I X → CJ J J' → k (whyA S I r N kd a b) X J') : F11_whyNot n S I J (nI kd) a b k := by
  have hTr : RT (I 15) r := hR.2.2.2.2.1
  have hV := hR.2.2.2.2.2.1.2.2.1
  have hK := hR.2.2.2.2.2.1.1
  have h20 : (I 2 0).toInt = N := by have : I 2 0 = r 0 := hR.1.2.2.1; rw [this, hN, qi (by omega)]
  have hq := hk I J (CB.rf I) (CJ.rf J)
  obtain ⟨l, l1, l2⟩ := hV.2.2.1
  have l1 : r 11 = nI l := l1
  have hl : (r 11).toInt = l := by rw [l1, qi (by omega)]
  have ne : ∀ m : Nat, m < 2147483648 → nI kd = nI m → kd = m := fun m hm e => (qeq (by omega) hm).mp e
  have one : (1 : Int32).toInt = 1 := rfl
  have z3 : (3 : Int32).toInt = 3 := rfl
  have z2 : (2 : Int32).toInt = 2 := rfl
  have zm2 : (-2 : Int32).toInt = -2 := by decide
  unfold F11_whyNot
  refine ⟨fun e => ?_, fun e => ?_, fun e => ?_, fun e => ?_, fun e => ?_, fun e => ?_⟩
  · have := ne 0 (by omega) e
    subst this
    unfold whyA at hq
    rw [if_pos rfl] at hq
    have t6 : I 15 6 = r 5 := hTr.2.2.2.2.2.2.1
    rw [t6]
    by_cases c : 1 ≤ a.toInt ∧ a.toInt ≤ (r 5).toInt
    · rw [if_pos c] at hq
      rw [if_neg (wi1 (v := a) (lo := 1) (hi := r 5) |>.mpr c)]; exact hq
    · rw [if_neg c] at hq
      rw [if_pos (wi0 (v := a) (lo := 1) (hi := r 5) |>.mpr c)]; exact hq
  · have := ne 1 (by omega) e
    subst this
    unfold whyA at hq
    rw [if_neg (by decide), if_pos rfl] at hq
    have t7 : I 15 7 = r 6 := hTr.2.2.2.2.2.2.2.1
    rw [t7]
    by_cases c : 1 ≤ a.toInt ∧ a.toInt ≤ (r 6).toInt
    · rw [if_pos c] at hq
      rw [if_neg (wi1 (v := a) (lo := 1) (hi := r 6) |>.mpr c)]; exact hq
    · rw [if_neg c] at hq
      rw [if_pos (wi0 (v := a) (lo := 1) (hi := r 6) |>.mpr c)]; exact hq
  · have := ne 2 (by omega) e
    subst this
    unfold whyA at hq
    rw [if_neg (by decide), if_neg (by decide), if_pos rfl] at hq
    have t1 : I 15 1 = r 11 := hTr.2.1
    rw [t1]
    refine ⟨fun c => ?_, fun c => ?_⟩
    · have c : 0 ≤ a.toInt ∧ a.toInt ≤ 2 := wi1.mp c
      rw [if_pos c] at hq
      have d := lane_d (a := a) (l := r 11) c (by omega)
      have dn : (0 - (a - r 11)).toInt = -(a.toInt - (r 11).toInt) := by
        rw [ti_sub (by rw [d, tz0]; omega) (by rw [d, tz0]; omega), d, tz0]; omega
      by_cases g : 0 ≤ a - r 11
      · rw [if_pos g]
        rw [Int32.le_iff_toInt_le, tz0, d] at g
        by_cases g2 : -1 ≤ a.toInt - (r 11).toInt ∧ a.toInt - (r 11).toInt ≤ 1
        · rw [if_pos g2] at hq
          rw [if_pos (by rw [Int32.le_iff_toInt_le, d, one]; omega)]; exact hq
        · rw [if_neg g2] at hq
          rw [if_neg (by rw [Int32.le_iff_toInt_le, d, one]; omega)]; exact hq
      · rw [if_neg g]
        rw [Int32.le_iff_toInt_le, tz0, d] at g
        by_cases g2 : -1 ≤ a.toInt - (r 11).toInt ∧ a.toInt - (r 11).toInt ≤ 1
        · rw [if_pos g2] at hq
          rw [if_pos (by rw [Int32.le_iff_toInt_le, dn, one]; omega)]; exact hq
        · rw [if_neg g2] at hq
          rw [if_neg (by rw [Int32.le_iff_toInt_le, dn, one]; omega)]; exact hq
    · have c : ¬ (0 ≤ a.toInt ∧ a.toInt ≤ 2) := wi0.mp c
      rw [if_neg c] at hq
      exact hq
  · have := ne 3 (by omega) e
    subst this
    refine ⟨fun c => ⟨fun d => ?_, fun d => ?_⟩, fun c => ?_⟩
    · have c : 0 ≤ b.toInt ∧ b.toInt ≤ 3 := wi1.mp c
      have d : 0 ≤ a.toInt ∧ a.toInt < (N : Int) := by
        by_cases g : 0 ≤ a.toInt ∧ a.toInt < (N : Int)
        · exact g
        · exact absurd (has3.mpr (by rw [h20]; omega)) d
      obtain ⟨i, rfl, i2, i3⟩ := nat_of d.1 d.2
      have i6 : i < 6 := by omega
      unfold whyA at hk
      simp only [if_neg (show ¬ (3 : Nat) = 0 by decide), if_neg (show ¬ (3 : Nat) = 1 by decide), if_neg (show ¬ (3 : Nat) = 2 by decide), if_true, if_pos c, if_pos d, qn i3] at hk
      refine sp_asIt (r := r) (by omega) hR hN hN6 hC (fun X x1 x2 hQ => ?_)
      have e3 : X 15 3 = r 10 := by rw [x1 15 (by decide)]; exact hTr.2.2.2.1
      unfold F11_whyNot_185 F11_whyNot_191
      rw [e3]
      refine ⟨fun g => ?_, fun g => ?_⟩
      · rw [Int32.lt_iff_toInt_lt, tz0] at g
        have := hk X J ⟨fun x p q => x1 x p, x2, fun y hy => by rw [x1 50 (by decide)]⟩ (CJ.rf J)
        rw [if_pos (Or.inl g)] at this
        exact this
      · rw [Int32.lt_iff_toInt_lt, tz0] at g
        rw [qn i3]
        have w1 : X 3 i = r (26 + i) := by rw [x1 3 (by decide)]; exact (hR.2.1 i i6).1
        have w2 : X 5 i = r (32 + i) := by rw [x1 5 (by decide)]; exact (hR.2.1 i i6).2.2.1
        refine ⟨(qin i3).mpr i6, (qin i3).mpr i6, ?_⟩
        rw [w1, w2]
        refine sp_barred hT hn hQ.1 (fun y hy => by rw [x1 50 (by decide)]; exact h50 y hy) (fun X2 J2 y1 y1b y2 _ => ?_)
        have := hk X2 J2 ⟨fun x p q => by rw [y1 x q, x1 x p], fun y hy => by rw [y1 49 (by decide)]; exact x2 y hy, fun y hy => by rw [y1b y hy, x1 50 (by decide)]⟩ y2
        have eL : lawB S X (wl (wLd (X 49) (r (26 + i)) b (r (32 + i)))) = banR S I r N b i := by
          unfold banR
          rw [← lawB_I (I := I) (I' := X) (FO.of hR) (x1 1 (by decide)) (fun x hx => x1 x (by omega))]
          refine lawB_w (wl_cg (fun a ha => ?_))
          unfold wLd
          by_cases a6 : a < 6
          · rw [if_pos a6, if_pos a6]
          · rw [if_neg a6, if_neg a6, hQ.2.1 a (by omega) ha]
        rw [eL]
        cases hz : banR S I r N b i with
        | true =>
          rw [hz, if_pos (Or.inr rfl)] at this
          exact this
        | false =>
          rw [hz, if_neg (by rintro (q | q); exact g q; cases q)] at this
          exact this
    · have c : 0 ≤ b.toInt ∧ b.toInt ≤ 3 := wi1.mp c
      have d := has3.mp d
      rw [h20] at d
      unfold whyA at hq
      rw [if_neg (by decide), if_neg (by decide), if_neg (by decide), if_pos rfl, if_pos c, if_neg (by omega)] at hq
      exact hq
    · have c : ¬ (0 ≤ b.toInt ∧ b.toInt ≤ 3) := wi0.mp c
      unfold whyA at hq
      rw [if_neg (by decide), if_neg (by decide), if_neg (by decide), if_pos rfl, if_neg c] at hq
      exact hq
  · have := ne 4 (by omega) e
    subst this
    unfold whyA at hq
    rw [if_neg (by decide), if_neg (by decide), if_neg (by decide), if_neg (by decide), if_pos rfl] at hq
    refine ⟨fun c => ⟨fun d => ?_, fun d => ?_⟩, fun c => ?_⟩
    · have c : -2 ≤ b.toInt ∧ b.toInt ≤ 2 := by have c := wi1.mp c; rw [zm2, z2] at c; exact c
      have d : 0 ≤ a.toInt ∧ a.toInt < (N : Int) := by
        by_cases g : 0 ≤ a.toInt ∧ a.toInt < (N : Int)
        · exact g
        · exact absurd (has3.mpr (by rw [h20]; omega)) d
      obtain ⟨i, rfl, i2, i3⟩ := nat_of d.1 d.2
      have i6 : i < 6 := by omega
      rw [if_pos c, if_pos d, qn i3] at hq
      rw [qn i3]
      have w2 : I 5 i = r (32 + i) := (hR.2.1 i i6).2.2.1
      rw [w2]
      exact ⟨(qin i3).mpr i6, hq⟩
    · have c : -2 ≤ b.toInt ∧ b.toInt ≤ 2 := by have c := wi1.mp c; rw [zm2, z2] at c; exact c
      have d := has3.mp d
      rw [h20] at d
      rw [if_pos c, if_neg (by omega)] at hq
      exact hq
    · have c : ¬ (-2 ≤ b.toInt ∧ b.toInt ≤ 2) := by have c := wi0.mp c; rw [zm2, z2] at c; exact c
      rw [if_neg c] at hq
      exact hq
  · have hs := sw_i (by omega) (by omega) e
    rw [qi (by omega)] at hs
    have : kd = 5 := by omega
    subst this
    unfold whyA at hq
    rw [if_neg (by decide), if_neg (by decide), if_neg (by decide), if_neg (by decide), if_neg (by decide)] at hq
    have t3 : I 15 3 = r 10 := hTr.2.2.2.1
    have t7 : I 7 0 = r 1 := hR.1.2.2.2.1
    rw [t3, t7]
    exact hq
end WHY
