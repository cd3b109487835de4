/-! undo -/
section UN
variable {n : Nat} {S : tSH} {I : tHI} {J : tHJ}
theorem w1535 {I : tHI} {y : Nat} {v : Int32} : uI I 15 y v 35 = I 35 := uIn (by decide)
theorem w3435 {I : tHI} {y : Nat} {v : Int32} : uI I 34 y v 35 = I 35 := uIn (by decide)
theorem w435 {I : tHI} {y : Nat} {v : Int32} : uI I 4 y v 35 = I 35 := uIn (by decide)
theorem sp_takeBack {k : Int32 → tHI → tHJ → Prop} {h : Nat} (hh : h < 16) (h34 : I 34 1 = nI (h + 1)) (hl : sL S 35 = 144) {N : Nat} (h2 : (I 2 0).toInt = N) (hk : ∀ (X : tHI) (l : Nat), (∀ x, x ≠ 34 → x ≠ 15 → x ≠ 4 → x ≠ 6 → X x = I x) → X 34 1 = nI h → X 15 = up (up (up (up (up (I 15) 2 (I 35 (9 * h + 1))) 3 (I 35 (9 * h + 2))) 1 (I 35 (9 * h + 3))) 4 (I 35 (9 * h + 4))) 5 (I 35 (9 * h + 5)) → ((¬ (0 ≤ (I 35 (9 * h + 6)).toInt ∧ (I 35 (9 * h + 6)).toInt < N ∧ (I 35 (9 * h + 6)).toInt < 6) ∧ X 4 = I 4 ∧ X 6 = I 6) ∨ (I 35 (9 * h + 6) = nI l ∧ l < 6 ∧ X 4 = up (I 4) l (I 35 (9 * h + 7)) ∧ X 6 = up (I 6) l (I 35 (9 * h + 8)))) → k (I 35 (9 * h)) X J) : F1_takeBack n S I J 34 1 k := by
  have q00 : nI (h + 1) - 1 = nI h := qpred (by omega)
  have q0 : nI h * 9 = nI (9 * h) := by rw [ql 9, qmul, Nat.mul_comm]
  have q1 : nI (9 * h) + 1 = nI (9 * h + 1) := nI_add _ 1
  have q2 : nI (9 * h) + 2 = nI (9 * h + 2) := nI_add _ 2
  have q3 : nI (9 * h) + 3 = nI (9 * h + 3) := nI_add _ 3
  have q4 : nI (9 * h) + 4 = nI (9 * h + 4) := nI_add _ 4
  have q5 : nI (9 * h) + 5 = nI (9 * h + 5) := nI_add _ 5
  have q6 : nI (9 * h) + 6 = nI (9 * h + 6) := nI_add _ 6
  have q7 : nI (9 * h) + 7 = nI (9 * h + 7) := nI_add _ 7
  have q8 : nI (9 * h) + 8 = nI (9 * h + 8) := nI_add _ 8
  have q9 : nI (9 * h) + 9 = nI (9 * h + 9) := nI_add _ 9
  have ql0 : (Int32.ofNat (sL S 35)) = nI 144 := by rw [hl]; rfl
  unfold F1_takeBack F1_takeBack_26 F1_takeBack_165
  simp only [Nat.reduceAdd, w1535, w3435, w435, h34, q00, q0, q1, q2, q3, q4, q5, q6, q7, q8, q9, ql0]
  rw [qn (show 9 * h < 2147483648 by omega), qn (show 9 * h + 1 < 2147483648 by omega), qn (show 9 * h + 2 < 2147483648 by omega), qn (show 9 * h + 3 < 2147483648 by omega), qn (show 9 * h + 4 < 2147483648 by omega), qn (show 9 * h + 5 < 2147483648 by omega), qn (show 9 * h + 6 < 2147483648 by omega), qn (show 9 * h + 7 < 2147483648 by omega), qn (show 9 * h + 8 < 2147483648 by omega)]
  refine ⟨fun g => ?_, fun _ => ⟨fun _ => ⟨(qin (by omega)).mpr (by omega), (qin (by omega)).mpr (by omega), (qin (by omega)).mpr (by omega), (qin (by omega)).mpr (by omega), (qin (by omega)).mpr (by omega), (qin (by omega)).mpr (by omega), fun g => ⟨(qin (by omega)).mpr (by omega), ?_⟩, fun g => ⟨(qin (by omega)).mpr (by omega), ?_, (qin (by omega)).mpr (by omega), ?_, (qin (by omega)).mpr (by omega), ?_⟩⟩, fun g => ?_⟩⟩
  · exfalso
    rw [Int32.lt_iff_toInt_lt, qi (by omega), tz0] at g
    omega
  · rw [has3] at g
    rw [uIn (by decide), uIn (by decide), uIn (by decide), uIn (by decide), uIn (by decide), uIn (by decide), h2] at g
    exact hk _ 0 (fun x a b c d => by rw [uIn b, uIn b, uIn b, uIn b, uIn b, uIn a]) (by rw [uIn (by decide), uIn (by decide), uIn (by decide), uIn (by decide), uIn (by decide), uIe, upe]) (by rw [uIe, uIe, uIe, uIe, uIe, uIn (by decide)]) (Or.inl ⟨g, by rw [uIn (by decide), uIn (by decide), uIn (by decide), uIn (by decide), uIn (by decide), uIn (by decide)], by rw [uIn (by decide), uIn (by decide), uIn (by decide), uIn (by decide), uIn (by decide), uIn (by decide)]⟩)
  all_goals try
    (have g' := fun z => g (has3.mpr z)
     rw [uIn (by decide), uIn (by decide), uIn (by decide), uIn (by decide), uIn (by decide), uIn (by decide), h2] at g'
     have g2 := Classical.not_not.mp g'
     rw [vp_in_iff]
     omega)
  · have g' := fun z => g (has3.mpr z)
    rw [uIn (by decide), uIn (by decide), uIn (by decide), uIn (by decide), uIn (by decide), uIn (by decide), h2] at g'
    have g2 := Classical.not_not.mp g'
    obtain ⟨l, e, l2, l3⟩ := nat_of (v := I 35 (9 * h + 6)) (m := 6) g2.1 g2.2.2
    rw [e, qn l3]
    exact hk _ l (fun x a b c d => by rw [uIn d, uIn c, uIn b, uIn b, uIn b, uIn b, uIn b, uIn a]) (by rw [uIn (by decide), uIn (by decide), uIn (by decide), uIn (by decide), uIn (by decide), uIn (by decide), uIn (by decide), uIe, upe]) (by rw [uIn (by decide), uIn (by decide), uIe, uIe, uIe, uIe, uIe, uIn (by decide)]) (Or.inr ⟨e, by omega, by rw [uIn (by decide), uIe, uIn (by decide), uIn (by decide), uIn (by decide), uIn (by decide), uIn (by decide), uIn (by decide)], by rw [uIe, uIn (by decide), uIn (by decide), uIn (by decide), uIn (by decide), uIn (by decide), uIn (by decide), uIn (by decide)]⟩)
  · exfalso
    exact g ((qle (by omega) (by omega)).mpr (by omega))
end UN
