/-! what can be undone: noted by the class, remembered by the model -/
section HI
variable {n : Nat} {S : tSH} {I : tHI} {J : tHJ} {k : tHI → tHJ → Prop}
theorem u3515 {I : tHI} {y : Nat} {v : Int32} : uI I 35 y v 15 = I 15 := uIn (by decide)
theorem u3504 {I : tHI} {y : Nat} {v : Int32} : uI I 35 y v 4 = I 4 := uIn (by decide)
theorem u3506 {I : tHI} {y : Nat} {v : Int32} : uI I 35 y v 6 = I 6 := uIn (by decide)
theorem u3534 {I : tHI} {y : Nat} {v : Int32} : uI I 35 y v 34 = I 34 := uIn (by decide)
theorem sp_note32 {h : Nat} (hh : h < 16) (h34 : I 34 1 = nI h) (hl : sL S 35 = 144) {v2 v3 O : Int32} (hO : (if v2 = 3 then (if V3_has S I J 2 v3 = 0 then (0 : Int32) else 1) else (if v2 = 4 then (if V3_has S I J 2 v3 = 0 then (0 : Int32) else 1) else 0)) = O) (hv : ¬ O = 0 → vp_in v3 6) (hk : ∀ X : tHI, (∀ x, x ≠ 34 → x ≠ 35 → X x = I x) → X 34 1 = nI (h + 1) → (∀ y, y < 9 * h → X 35 y = I 35 y) → X 35 (9 * h) = v2 → X 35 (9 * h + 1) = I 15 2 → X 35 (9 * h + 2) = I 15 3 → X 35 (9 * h + 3) = I 15 1 → X 35 (9 * h + 4) = I 15 4 → X 35 (9 * h + 5) = I 15 5 → X 35 (9 * h + 6) = (if O = 0 then -1 else v3) → X 35 (9 * h + 7) = (if O = 0 then 0 else I 4 v3.toNatClampNeg) → X 35 (9 * h + 8) = (if O = 0 then 0 else I 6 v3.toNatClampNeg) → k X J) : F1_note_32 n S 34 k I J 1 v2 v3 := by
  have q0 : nI h * 9 = nI (9 * h) := by rw [ql 9, qmul, Nat.mul_comm]
  have q1 : nI (9 * h) + 1 = nI (9 * h + 1) := nI_add _ 1
  have q2 : nI (9 * h) + 2 = nI (9 * h + 2) := nI_add _ 2
  have q3 : nI (9 * h) + 3 = nI (9 * h + 3) := nI_add _ 3
  have q4 : nI (9 * h) + 4 = nI (9 * h + 4) := nI_add _ 4
  have q5 : nI (9 * h) + 5 = nI (9 * h + 5) := nI_add _ 5
  have q6 : nI (9 * h) + 6 = nI (9 * h + 6) := nI_add _ 6
  have q7 : nI (9 * h) + 7 = nI (9 * h + 7) := nI_add _ 7
  have q8 : nI (9 * h) + 8 = nI (9 * h + 8) := nI_add _ 8
  have q9 : nI (9 * h) + 9 = nI (9 * h + 9) := nI_add _ 9
  have qh : nI h + 1 = nI (h + 1) := nI_add _ 1
  have ql0 : (Int32.ofNat (sL S 35)) = nI 144 := by rw [hl]; rfl
  unfold F1_note_32
  simp only [Nat.reduceAdd, u3515, u3504, u3506, u3534, h34, q0, q1, q2, q3, q4, q5, q6, q7, q8, q9, qh, ql0]
  rw [qn (show 9 * h < 2147483648 by omega), qn (show 9 * h + 1 < 2147483648 by omega), qn (show 9 * h + 2 < 2147483648 by omega), qn (show 9 * h + 3 < 2147483648 by omega), qn (show 9 * h + 4 < 2147483648 by omega), qn (show 9 * h + 5 < 2147483648 by omega), qn (show 9 * h + 6 < 2147483648 by omega), qn (show 9 * h + 7 < 2147483648 by omega), qn (show 9 * h + 8 < 2147483648 by omega)]
  rw [hO]
  refine ⟨fun g => ?_, fun _ => ⟨fun _ => ⟨(qin (by omega)).mpr (by omega), (qin (by omega)).mpr (by omega), (qin (by omega)).mpr (by omega), (qin (by omega)).mpr (by omega), (qin (by omega)).mpr (by omega), (qin (by omega)).mpr (by omega), (qin (by omega)).mpr (by omega), ⟨fun _ => trivial, fun g => ⟨hv g, trivial⟩⟩, (qin (by omega)).mpr (by omega), ⟨fun _ => trivial, fun g => ⟨hv g, trivial⟩⟩, (qin (by omega)).mpr (by omega), ?_⟩, fun g => ?_⟩⟩
  · exfalso
    rw [Int32.lt_iff_toInt_lt, qi (by omega), tz0] at g
    omega
  · refine hk _ (fun x a b => by rw [uIn a, uIn b, uIn b, uIn b, uIn b, uIn b, uIn b, uIn b, uIn b, uIn b]) (by rw [uIe, upe]) (fun y hy => ?_) ?_ ?_ ?_ ?_ ?_ ?_ ?_ ?_ ?_
    · rw [uIn (by decide), uIe, upn (by omega), uIe, upn (by omega), uIe, upn (by omega), uIe, upn (by omega), uIe, upn (by omega), uIe, upn (by omega), uIe, upn (by omega), uIe, upn (by omega), uIe, upn (by omega)]
    · rw [uIn (by decide), uIe, upn (by omega), uIe, upn (by omega), uIe, upn (by omega), uIe, upn (by omega), uIe, upn (by omega), uIe, upn (by omega), uIe, upn (by omega), uIe, upn (by omega), uIe, upe]
    · rw [uIn (by decide), uIe, upn (by omega), uIe, upn (by omega), uIe, upn (by omega), uIe, upn (by omega), uIe, upn (by omega), uIe, upn (by omega), uIe, upn (by omega), uIe, upe]
    · rw [uIn (by decide), uIe, upn (by omega), uIe, upn (by omega), uIe, upn (by omega), uIe, upn (by omega), uIe, upn (by omega), uIe, upn (by omega), uIe, upe]
    · rw [uIn (by decide), uIe, upn (by omega), uIe, upn (by omega), uIe, upn (by omega), uIe, upn (by omega), uIe, upn (by omega), uIe, upe]
    · rw [uIn (by decide), uIe, upn (by omega), uIe, upn (by omega), uIe, upn (by omega), uIe, upn (by omega), uIe, upe]
    · rw [uIn (by decide), uIe, upn (by omega), uIe, upn (by omega), uIe, upn (by omega), uIe, upe]
    · rw [uIn (by decide), uIe, upn (by omega), uIe, upn (by omega), uIe, upe]
    · rw [uIn (by decide), uIe, upn (by omega), uIe, upe]
    · rw [uIn (by decide), uIe, upe]
  · exfalso
    exact g ((qle (by omega) (by omega)).mpr (by omega))
/-- how many stand before the new one -/
def hp (h : Nat) : Nat := if h = 16 then 15 else h
def hf9 (h : Nat) (f : Nat → Int32) (y : Nat) : Int32 := if h = 16 then f (9 + y) else f y
theorem sp_note {h : Nat} (hh : h ≤ 16) (h34 : I 34 1 = nI h) (hl : sL S 35 = 144) {v2 v3 O : Int32} (hO : (if v2 = 3 then (if V3_has S I J 2 v3 = 0 then (0 : Int32) else 1) else (if v2 = 4 then (if V3_has S I J 2 v3 = 0 then (0 : Int32) else 1) else 0)) = O) (hv : ¬ O = 0 → vp_in v3 6) (hk : ∀ X : tHI, (∀ x, x ≠ 34 → x ≠ 35 → X x = I x) → X 34 1 = nI (hp h + 1) → (∀ y, y < 9 * hp h → X 35 y = hf9 h (I 35) y) → X 35 (9 * hp h) = v2 → X 35 (9 * hp h + 1) = I 15 2 → X 35 (9 * hp h + 2) = I 15 3 → X 35 (9 * hp h + 3) = I 15 1 → X 35 (9 * hp h + 4) = I 15 4 → X 35 (9 * hp h + 5) = I 15 5 → X 35 (9 * hp h + 6) = (if O = 0 then -1 else v3) → X 35 (9 * hp h + 7) = (if O = 0 then 0 else I 4 v3.toNatClampNeg) → X 35 (9 * hp h + 8) = (if O = 0 then 0 else I 6 v3.toNatClampNeg) → k X J) : F1_note n S I J 34 1 v2 v3 k := by
  unfold F1_note
  by_cases c : h = 16
  · subst c
    have e : hp 16 = 15 := rfl
    rw [e] at hk
    refine ⟨fun g => ?_, fun _ => ?_⟩
    · exfalso; rw [h34] at g; have := (qlt (b := 16) (by omega) (by omega)).mp g; omega
    · have w : ∀ x, x ≠ 34 → x ≠ 35 → (uI (cpI I (34 + 1) 9 (34 + 1) 0 135) 34 1 15) x = I x := fun x a b => by rw [uIn a, cpIn b]
      have hhas : V3_has S (uI (cpI I (34 + 1) 9 (34 + 1) 0 135) 34 1 15) J 2 v3 = V3_has S I J 2 v3 := by unfold V3_has; rw [w 2 (by decide) (by decide)]
      refine sp_note32 (h := 15) (O := O) (by omega) (by rw [uIe, upe]; rfl) hl (by rw [hhas]; exact hO) hv (fun X a1 a2 a3 a4 a5 a6 a7 a8 a9 b1 b2 b3 => ?_)
      rw [w 15 (by decide) (by decide)] at a5 a6 a7 a8 a9
      rw [w 4 (by decide) (by decide)] at b2
      rw [w 6 (by decide) (by decide)] at b3
      refine hk X (fun x p q => by rw [a1 x p q, w x p q]) a2 (fun y hy => ?_) a4 a5 a6 a7 a8 a9 b1 b2 b3
      rw [a3 y hy, uIn (by decide), cpIe]
      show cpA (I 35) (I 35) 9 0 135 y = hf9 16 (I 35) y
      unfold cpA hf9
      rw [if_pos (by omega), if_pos rfl, Nat.sub_zero]
  · have e : hp h = h := if_neg c
    rw [e] at hk
    refine ⟨fun _ => ?_, fun g => ?_⟩
    · refine sp_note32 (h := h) (O := O) (by omega) h34 hl hO hv (fun X a1 a2 a3 a4 a5 a6 a7 a8 a9 b1 b2 b3 => hk X a1 a2 (fun y hy => ?_) a4 a5 a6 a7 a8 a9 b1 b2 b3)
      rw [a3 y hy]
      unfold hf9
      rw [if_neg c]
    · exfalso; rw [h34] at g; exact g ((qlt (b := 16) (by omega) (by omega)).mpr (by omega))
end HI
