/-! row -/
def adR (r : Nat → Int32) (s : Nat) (v1 v2 v3 v4 : Int32) : Nat → Int32 := up (up (up (up (up r (38 + 4 * s) v1) (38 + 4 * s + 1) v2) (38 + 4 * s + 2) v3) (38 + 4 * s + 3) v4) 1 (nI (s + 1))
section RWA
variable {S : tSH} {I : tHI} {r : Nat → Int32}
theorem RSt.addB {s : Nat} {v1 v2 v3 v4 : Int32} (hR : RSt S I 1 r) (s1 : r 1 = nI s) (hs : s < 12) (c1 : ¬ V7_canBe v1 v2 v3 v4 = 0) : RSt S (uI (uI (uI (uI (uI I 8 s v1) 9 s v2) 10 s v3) 11 s v4) 7 0 (nI (s + 1))) 1 (adR r s v1 v2 v3 v4) := by
  have hN := hR.1
  have c1 := fun q => c1 (canBe0.mpr q)
  have w1 : ¬ V11_within v1 (-9) 9 = 0 := fun q => c1 (Or.inl q)
  have w2 : ¬ V11_within v2 1 99 = 0 := fun q => c1 (Or.inr (Or.inl q))
  have w3 : ¬ V11_within v3 (-3) 3 = 0 := fun q => c1 (Or.inr (Or.inr (Or.inl q)))
  have w4 : ¬ V11_within v4 0 31 = 0 := fun q => c1 (Or.inr (Or.inr (Or.inr q)))
  have e : ∀ x, x ≠ 7 → x ≠ 8 → x ≠ 9 → x ≠ 10 → x ≠ 11 → (uI (uI (uI (uI (uI I 8 s v1) 9 s v2) 10 s v3) 11 s v4) 7 0 (nI (s + 1))) x = I x := fun x c7 c8 c9 c10 c11 => by rw [uIn c7, uIn c11, uIn c10, uIn c9, uIn c8]
  have e7 : (uI (uI (uI (uI (uI I 8 s v1) 9 s v2) 10 s v3) 11 s v4) 7 0 (nI (s + 1))) 7 = (up (I 7) 0 (nI (s + 1))) := by rw [uIe, uIn (by decide), uIn (by decide), uIn (by decide), uIn (by decide)]
  have e8 : (uI (uI (uI (uI (uI I 8 s v1) 9 s v2) 10 s v3) 11 s v4) 7 0 (nI (s + 1))) 8 = (up (I 8) s v1) := by rw [uIn (by decide), uIn (by decide), uIn (by decide), uIn (by decide), uIe]
  have e9 : (uI (uI (uI (uI (uI I 8 s v1) 9 s v2) 10 s v3) 11 s v4) 7 0 (nI (s + 1))) 9 = (up (I 9) s v2) := by rw [uIn (by decide), uIn (by decide), uIn (by decide), uIe, uIn (by decide)]
  have e10 : (uI (uI (uI (uI (uI I 8 s v1) 9 s v2) 10 s v3) 11 s v4) 7 0 (nI (s + 1))) 10 = (up (I 10) s v3) := by rw [uIn (by decide), uIn (by decide), uIe, uIn (by decide), uIn (by decide)]
  have e11 : (uI (uI (uI (uI (uI I 8 s v1) 9 s v2) 10 s v3) 11 s v4) 7 0 (nI (s + 1))) 11 = (up (I 11) s v4) := by rw [uIn (by decide), uIe, uIn (by decide), uIn (by decide), uIn (by decide)]
  generalize (uI (uI (uI (uI (uI I 8 s v1) 9 s v2) 10 s v3) 11 s v4) 7 0 (nI (s + 1))) = X at *
  have hr : ∀ k, k ≠ 1 → k ≠ 38 + 4 * s → k ≠ 38 + 4 * s + 1 → k ≠ 38 + 4 * s + 2 → k ≠ 38 + 4 * s + 3 → (adR r s v1 v2 v3 v4) k = r k := fun k a b c d f => by unfold adR; rw [upn a, upn f, upn d, upn c, upn b]
  obtain ⟨⟨k0, k1, k2, k3, k4, k5, k6, k7, k8⟩, kL, kV, kB, kG⟩ := hR.2.2.2.2.2.1
  have hr1 : (adR r s v1 v2 v3 v4) 1 = nI (s + 1) := by unfold adR; rw [upe]
  have g0 : (adR r s v1 v2 v3 v4) (38 + 4 * s) = v1 := by unfold adR; rw [upn (by omega), upn (by omega), upn (by omega), upn (by omega), upe]
  have g1 : (adR r s v1 v2 v3 v4) (38 + 4 * s + 1) = v2 := by unfold adR; rw [upn (by omega), upn (by omega), upn (by omega), upe]
  have g2 : (adR r s v1 v2 v3 v4) (38 + 4 * s + 2) = v3 := by unfold adR; rw [upn (by omega), upn (by omega), upe]
  have g3 : (adR r s v1 v2 v3 v4) (38 + 4 * s + 3) = v4 := by unfold adR; rw [upn (by omega), upe]
  generalize adR r s v1 v2 v3 v4 = r' at *
  refine hR.via (e 1 (by decide) (by decide) (by decide) (by decide) (by decide)) (fun x hx => e x (by omega) (by omega) (by omega) (by omega) (by omega)) (hr 3 (by omega) (by omega) (by omega) (by omega) (by omega)) (hr 4 (by omega) (by omega) (by omega) (by omega) (by omega)) (fun k hk => hr k (by omega) (by omega) (by omega) (by omega) (by omega)) ?_ ?_ ?_ (by rw [e 3 (by decide) (by decide) (by decide) (by decide) (by decide), e 4 (by decide) (by decide) (by decide) (by decide) (by decide), e 5 (by decide) (by decide) (by decide) (by decide) (by decide), e 6 (by decide) (by decide) (by decide) (by decide) (by decide)]; exact hR.2.1.r (fun k q1 q2 => hr k (by omega) (by omega) (by omega) (by omega) (by omega))) ?_ (by rw [e 12 (by decide) (by decide) (by decide) (by decide) (by decide), e 13 (by decide) (by decide) (by decide) (by decide) (by decide), e 14 (by decide) (by decide) (by decide) (by decide) (by decide)]; exact hR.2.2.2.1.r (fun k q1 q2 => hr k (by omega) (by omega) (by omega) (by omega) (by omega))) (by rw [e 15 (by decide) (by decide) (by decide) (by decide) (by decide)]; exact hR.2.2.2.2.1.r (fun k q1 q2 => hr k (by omega) (by omega) (by omega) (by omega) (by omega))) ⟨⟨?_, ?_, ?_, ?_, ?_, ?_, ?_, ?_, ?_⟩, kL.r (fun k q1 q2 => hr k (by omega) (by omega) (by omega) (by omega) (by omega)), ?_, fun t ht => ?_, fun t ht => ?_⟩
  · rw [e 2 (by decide) (by decide) (by decide) (by decide) (by decide), hr 0 (by omega) (by omega) (by omega) (by omega) (by omega)]; exact hN.2.2.1
  · rw [e7, upe, hr1]
  · rw [e7, upn (by decide), hr 2 (by omega) (by omega) (by omega) (by omega) (by omega)]; exact hN.2.2.2.2
  · intro t ht
    obtain ⟨t1, t2, t3, t4⟩ := hR.2.2.1 t ht
    rw [e8, e9, e10, e11]
    by_cases g : t = s
    · subst g
      rw [upe, upe, upe, upe, g0, g1, g2, g3]
      exact ⟨rfl, rfl, rfl, rfl⟩
    · rw [upn g, upn g, upn g, upn g, hr (38 + 4 * t) (by omega) (by omega) (by omega) (by omega) (by omega), hr (38 + 4 * t + 1) (by omega) (by omega) (by omega) (by omega) (by omega), hr (38 + 4 * t + 2) (by omega) (by omega) (by omega) (by omega) (by omega), hr (38 + 4 * t + 3) (by omega) (by omega) (by omega) (by omega) (by omega)]
      exact ⟨t1, t2, t3, t4⟩
  · rw [hr 0 (by omega) (by omega) (by omega) (by omega) (by omega)]; exact k0
  · exact ⟨s + 1, hr1, by omega⟩
  · rw [hr 2 (by omega) (by omega) (by omega) (by omega) (by omega)]; exact k2
  · rw [hr 3 (by omega) (by omega) (by omega) (by omega) (by omega)]; exact k3
  · rw [hr 3 (by omega) (by omega) (by omega) (by omega) (by omega), hr 4 (by omega) (by omega) (by omega) (by omega) (by omega)]; exact k4
  · rw [hr 5 (by omega) (by omega) (by omega) (by omega) (by omega)]; exact k5
  · rw [hr 6 (by omega) (by omega) (by omega) (by omega) (by omega)]; exact k6
  · rw [hr 7 (by omega) (by omega) (by omega) (by omega) (by omega)]; exact k7
  · rw [hr 8 (by omega) (by omega) (by omega) (by omega) (by omega)]; exact k8
  · obtain ⟨⟨v0, u1, u2, u3⟩, v1, v2, v3, v4⟩ := kV
    have hv : ∀ k, k < 17 → rV r' k = rV r k := fun k hk => hr (9 + k) (by omega) (by omega) (by omega) (by omega) (by omega)
    rw [s1, qi (by omega)] at u2
    refine ⟨⟨v0, by rw [hv 0 (by omega)]; exact u1, by rw [hr1, qi (by omega)]; omega, u3⟩, by rw [hv 1 (by omega)]; exact v1, by rw [hv 2 (by omega)]; exact v2, by rw [hv 4 (by omega)]; exact v3, fun i hi => ?_⟩
    rw [hv _ (by omega), hv _ (by omega), hr _ (by omega) (by omega) (by omega) (by omega) (by omega)]; exact v4 i hi
  · by_cases g : t = s
    · subst g
      rw [g0, g1, g2, g3]
      have x1 : -9 ≤ v1.toInt ∧ v1.toInt ≤ 9 := wi1.mp w1
      have x2 : 1 ≤ v2.toInt ∧ v2.toInt ≤ 99 := wi1.mp w2
      have x3 : -3 ≤ v3.toInt ∧ v3.toInt ≤ 3 := wi1.mp w3
      have x4 : 0 ≤ v4.toInt ∧ v4.toInt ≤ 31 := wi1.mp w4
      exact ⟨x1, ⟨_, qof (by omega), by rw [qtn]; omega⟩, x3, ⟨_, qof x4.1, by rw [qtn]; omega⟩⟩
    · rw [hr (38 + 4 * t) (by omega) (by omega) (by omega) (by omega) (by omega), hr (38 + 4 * t + 1) (by omega) (by omega) (by omega) (by omega) (by omega), hr (38 + 4 * t + 2) (by omega) (by omega) (by omega) (by omega) (by omega), hr (38 + 4 * t + 3) (by omega) (by omega) (by omega) (by omega) (by omega)]
      exact kB t ht
  · have e2 : r' 2 = r 2 := hr 2 (by omega) (by omega) (by omega) (by omega) (by omega)
    rw [e2] at ht
    have := KR.le8 hR.2.2.2.2.2.1.1
    obtain ⟨⟨b, b1, b2⟩, b3, b4⟩ := kG t ht
    rw [s1, qi (by omega)] at b2
    rw [hr (86 + 3 * t) (by omega) (by omega) (by omega) (by omega) (by omega), hr (86 + 3 * t + 1) (by omega) (by omega) (by omega) (by omega) (by omega), hr (86 + 3 * t + 2) (by omega) (by omega) (by omega) (by omega) (by omega), hr1, qi (by omega)]
    exact ⟨⟨b, b1, by omega⟩, b3, b4⟩
end RWA
section RWB
variable {n : Nat} {S : tSH} {I : tHI} {J : tHJ}
def okR (T : Nat → Int32) (z i : Nat) (r : Nat → Int32) : Bool := decide (4 * i + 4 ≤ z ∧ r 1 < 12 ∧ ¬ V7_canBe (T (4 * i) - 9) (T (4 * i + 1)) (T (4 * i + 2) - 3) (T (4 * i + 3)) = 0)
theorem okR_iff {T : Nat → Int32} {z i : Nat} {r : Nat → Int32} : okR T z i r = true ↔ (4 * i + 4 ≤ z ∧ r 1 < 12 ∧ ¬ V7_canBe (T (4 * i) - 9) (T (4 * i + 1)) (T (4 * i + 2) - 3) (T (4 * i + 3)) = 0) := decide_eq_true_iff
def rwR (T : Nat → Int32) (z : Nat) (r0 : Nat → Int32) : Nat → Nat → Int32
  | 0 => r0
  | i + 1 => if okR T z i (rwR T z r0 i) then adR (rwR T z r0 i) (rwR T z r0 i 1).toNatClampNeg (T (4 * i) - 9) (T (4 * i + 1)) (T (4 * i + 2) - 3) (T (4 * i + 3)) else rwR T z r0 i
def rwC (T : Nat → Int32) (z : Nat) (r0 : Nat → Int32) : Nat → Nat
  | 0 => 0
  | i + 1 => if okR T z i (rwR T z r0 i) then rwC T z r0 i + 1 else rwC T z r0 i
def rwM (T : Nat → Int32) (z : Nat) (r0 : Nat → Int32) : Nat → Nat
  | 0 => 0
  | i + 1 => if okR T z i (rwR T z r0 i) then rwM T z r0 i else rwM T z r0 i + 1
theorem rw_le {T : Nat → Int32} {z : Nat} {r0 : Nat → Int32} : ∀ i, rwC T z r0 i ≤ i ∧ rwM T z r0 i ≤ i := by
  intro i
  induction i with
  | zero => exact ⟨Nat.le_refl 0, Nat.le_refl 0⟩
  | succ i ih =>
    show (if okR T z i (rwR T z r0 i) then rwC T z r0 i + 1 else rwC T z r0 i) ≤ i + 1 ∧ (if okR T z i (rwR T z r0 i) then rwM T z r0 i else rwM T z r0 i + 1) ≤ i + 1
    by_cases g : okR T z i (rwR T z r0 i) = true
    · rw [if_pos g, if_pos g]; omega
    · rw [if_neg g, if_neg g]; omega
theorem rw_B {T : Nat → Int32} {z : Nat} {r0 : Nat → Int32} (h0 : ∃ B, r0 1 = nI B ∧ B ≤ 12) : ∀ i, ∃ B, rwR T z r0 i 1 = nI B ∧ B ≤ 12 := by
  intro i
  induction i with
  | zero => exact h0
  | succ i ih =>
    obtain ⟨B, b1, b2⟩ := ih
    show ∃ B, (if okR T z i (rwR T z r0 i) then adR (rwR T z r0 i) (rwR T z r0 i 1).toNatClampNeg (T (4 * i) - 9) (T (4 * i + 1)) (T (4 * i + 2) - 3) (T (4 * i + 3)) else rwR T z r0 i) 1 = nI B ∧ B ≤ 12
    by_cases g : okR T z i (rwR T z r0 i) = true
    · rw [if_pos g]
      have := (okR_iff.mp g).2.1
      rw [b1] at this
      have hB := (qlt (b := 12) (by omega) (by omega)).mp this
      unfold adR
      rw [upe, b1, qn (by omega)]
      exact ⟨B + 1, rfl, by omega⟩
    · rw [if_neg g]; exact ⟨B, b1, b2⟩
theorem byt_at {z p : Nat} (h1 : I 38 1 = nI z) (hp : p < z) (hz : z ≤ 400) : V9_byteAt S I J 38 (nI p) = I 39 p ∧ P9_byteAt S I J 38 (nI p) := by
  have a0 : ¬ nI p < 0 := fun q => by rw [Int32.lt_iff_toInt_lt, qi (by omega), tz0] at q; omega
  have a1 : ¬ I 38 1 ≤ nI p := fun q => by rw [h1] at q; have := (qle (by omega) (by omega)).mp q; omega
  have a2 : ¬ 400 ≤ nI p := fun q => by have := (qle (a := 400) (by omega) (by omega)).mp q; omega
  unfold V9_byteAt P9_byteAt
  rw [if_neg a0, if_neg a1, if_neg a2, qn (by omega)]
  exact ⟨rfl, fun _ => trivial, fun _ => ⟨fun _ => trivial, fun _ => ⟨fun _ => trivial, fun _ => ⟨(qin (by omega)).mpr (by omega), trivial⟩⟩⟩⟩
theorem row_L {z : Nat} (h38 : I 38 1 = nI z) (hz : z ≤ 400) {r0 : Nat → Int32} {k : Int32 → tHI → tHJ → Prop} (hk : ∀ X : tHI, (∀ x, x ∉ [7, 8, 9, 10, 11] → X x = I x) → RSt S X 1 (rwR (I 39) z r0 ((z + 3) / 4)) → F11_settle n S (uI (uI (uI X 38 1 0) 0 17 (nI (rwM (I 39) z r0 ((z + 3) / 4)))) 34 1 0) J (nI (rwC (I 39) z r0 ((z + 3) / 4))) k) : ∀ (d f i : Nat) (X : tHI), i + d = (z + 3) / 4 → d < f → (∀ x, x ∉ [7, 8, 9, 10, 11] → X x = I x) → RSt S X 1 (rwR (I 39) z r0 i) → F11_row_L23 n S k f X J (nI (rwC (I 39) z r0 i)) (nI (rwM (I 39) z r0 i)) (nI (4 * i)) := by
  intro d
  induction d with
  | zero =>
    intro f i X hi hf c1 c2
    obtain ⟨f, rfl⟩ : ∃ g, f = g + 1 := ⟨f - 1, by omega⟩
    have e : i = (z + 3) / 4 := by omega
    subst e
    have x38 : X 38 1 = nI z := by rw [c1 38 (by decide)]; exact h38
    show F11_row_23 n S k (F11_row_L23 n S k f) X J _ _ _
    unfold F11_row_23
    rw [x38]
    exact ⟨fun _ => hk X c1 c2, fun g => absurd ((qle (by omega) (by omega)).mpr (by omega)) g⟩
  | succ d ih =>
    intro f i X hi hf c1 c2
    obtain ⟨f, rfl⟩ : ∃ g, f = g + 1 := ⟨f - 1, by omega⟩
    have x38 : X 38 1 = nI z := by rw [c1 38 (by decide)]; exact h38
    have x39 : X 39 = I 39 := c1 39 (by decide)
    obtain ⟨B, b1, b2⟩ := c2.2.2.2.2.2.1.1.2.1
    have x70 : X 7 0 = nI B := by have : X 7 0 = rwR (I 39) z r0 i 1 := c2.1.2.2.2.1; rw [this, b1]
    have q1 : nI (4 * i) + 1 = nI (4 * i + 1) := nI_add _ 1
    have q2 : nI (4 * i) + 2 = nI (4 * i + 2) := nI_add _ 2
    have q3 : nI (4 * i) + 3 = nI (4 * i + 3) := nI_add _ 3
    have q4 : nI (4 * i) + 4 = nI (4 * i + 4) := nI_add _ 4
    have hl := rw_le (T := I 39) (z := z) (r0 := r0) i
    have eR : rwR (I 39) z r0 (i + 1) = if okR (I 39) z i (rwR (I 39) z r0 i) then adR (rwR (I 39) z r0 i) (rwR (I 39) z r0 i 1).toNatClampNeg (I 39 (4 * i) - 9) (I 39 (4 * i + 1)) (I 39 (4 * i + 2) - 3) (I 39 (4 * i + 3)) else rwR (I 39) z r0 i := rfl
    have eC : rwC (I 39) z r0 (i + 1) = if okR (I 39) z i (rwR (I 39) z r0 i) then rwC (I 39) z r0 i + 1 else rwC (I 39) z r0 i := rfl
    have eM : rwM (I 39) z r0 (i + 1) = if okR (I 39) z i (rwR (I 39) z r0 i) then rwM (I 39) z r0 i else rwM (I 39) z r0 i + 1 := rfl
    have no : ¬ okR (I 39) z i (rwR (I 39) z r0 i) = true → (fun (x8 : Int32) (I6 : tHI) (J7 : tHJ) => bz x8 → F11_row_L23 n S k f I6 J7 (if x8 = 0 then nI (rwC (I 39) z r0 i) else nI (rwC (I 39) z r0 i) + 1) (if x8 = 0 then nI (rwM (I 39) z r0 i) + 1 else nI (rwM (I 39) z r0 i)) (nI (4 * i) + 4)) 0 X J := by
      intro g _
      rw [if_neg g] at eR eC eM
      have key := ih f (i + 1) X (by omega) (by omega) c1 (by rw [eR]; exact c2)
      rw [eC, eM] at key
      rw [if_pos rfl, if_pos rfl, q4, show nI (rwM (I 39) z r0 i) + 1 = nI (rwM (I 39) z r0 i + 1) from nI_add _ 1]
      exact key
    show F11_row_23 n S k (F11_row_L23 n S k f) X J _ _ _
    unfold F11_row_23 F11_addFromTape F11_addFromTape_28
    rw [x38, q4]
    rw [q4] at no
    refine ⟨fun g => ?_, fun _ => ⟨fun g => ?_, fun g => ⟨fun g2 => ?_, fun g2 => ?_⟩⟩⟩
    · exfalso; have := (qle (by omega) (by omega)).mp g; omega
    · refine no (fun o => ?_)
      have := (qlt (by omega) (by omega)).mp g
      have := (okR_iff.mp o).1
      omega
    · have hz4 : 4 * i + 4 ≤ z := by
        by_cases w : z < 4 * i + 4
        · exact absurd ((qlt (by omega) (by omega)).mpr w) g
        · omega
      obtain ⟨y0, z0⟩ := byt_at (S := S) (J := J) x38 (p := 4 * i) (by omega) hz
      obtain ⟨y1, z1⟩ := byt_at (S := S) (J := J) x38 (p := 4 * i + 1) (by omega) hz
      obtain ⟨y2, z2⟩ := byt_at (S := S) (J := J) x38 (p := 4 * i + 2) (by omega) hz
      obtain ⟨y3, z3⟩ := byt_at (S := S) (J := J) x38 (p := 4 * i + 3) (by omega) hz
      rw [q1, q2, q3, y0, y1, y2, y3, x39]
      have hB : B < 12 := by rw [x70] at g2; exact (qlt (b := 12) (by omega) (by omega)).mp g2
      refine ⟨z0, z1, z2, z3, fun g3 => ?_, fun g3 => no (fun o => (okR_iff.mp o).2.2 g3)⟩
      have o : okR (I 39) z i (rwR (I 39) z r0 i) = true := okR_iff.mpr ⟨hz4, by rw [b1]; exact (qlt (b := 12) (by omega) (by omega)).mpr hB, g3⟩
      refine sp_addB (s := B) x70 hB ?_
      intro _
      rw [if_pos o] at eR eC eM
      have c3 := c2.addB b1 hB g3
      rw [b1, qn (by omega)] at eR
      have key := ih f (i + 1) (uI (uI (uI (uI (uI X 8 B (I 39 (4 * i) - 9)) 9 B (I 39 (4 * i + 1))) 10 B (I 39 (4 * i + 2) - 3)) 11 B (I 39 (4 * i + 3))) 7 0 (nI (B + 1))) (by omega) (by omega) (fun x hx => by rw [uIn (fun q => hx (by subst q; decide)), uIn (fun q => hx (by subst q; decide)), uIn (fun q => hx (by subst q; decide)), uIn (fun q => hx (by subst q; decide)), uIn (fun q => hx (by subst q; decide)), c1 x hx]) (by rw [eR]; exact c3)
      rw [eC, eM] at key
      rw [if_neg (by decide), if_neg (by decide), show nI (rwC (I 39) z r0 i) + 1 = nI (rwC (I 39) z r0 i + 1) from nI_add _ 1]
      exact key
    · refine no (fun o => ?_)
      have := (okR_iff.mp o).2.1
      rw [x70] at g2
      rw [b1] at this
      exact g2 this
end RWB
