/-! the class's Calc.work comes to what its machine says -/
theorem upJ_J {J : tHJ} {a k : Nat} {v : Int64} : (uJ J a k v) a = upJ (J a) k v := uJe
section WK
variable {n : Nat} {S : tSH} {k : Int64 → tHI → tHJ → Prop} {I : tHI} {p wid nw e : Nat} {c : Nat → Nat} {w : Nat → Int64}
theorem work_L (h47 : sL S 47 = 52) (hc : ∀ i, i < e → I (p + 1) i = nI (c i) ∧ c i < 10240 + 2048 + 1024) (he : e ≤ sL S (p + 1)) (he2 : e < 2147483648) (hnw : sL S wid = nw) (hnw2 : nw < 2147483648) (hw : ∀ a, a < nw → (I wid a).toInt64 = w a) : ∀ (f i t : Nat) (J : tHJ), i < 2147483648 → e - i < f → t ≤ 52 → (∀ J' : tHJ, (∀ x, x ≠ 47 → J' x = J x) → k (rC (mc c w nw e i t (J 47))) I J') → F0_work_L20 n S k f I J p wid (nI t) (nI e) (nI i) := by
  intro f
  induction f with
  | zero => intro i t J hi hf; omega
  | succ f ih =>
    intro i t J hi hf ht hk
    show F0_work_20 n S k (F0_work_L20 n S k f) I J p wid (nI t) (nI e) (nI i)
    unfold F0_work_20
    refine ⟨fun q => ?_, fun q => ?_⟩
    · rw [qle he2 hi] at q
      have hk := hk J (fun _ _ => rfl)
      rw [mc, if_pos q] at hk
      have e1 : nI t = 1 ↔ t = 1 := qeq (b := 1) (by omega) (by omega)
      by_cases h1 : t = 1
      · rw [if_pos h1] at hk; rw [if_pos (e1.mpr h1)]; exact hk
      · rw [if_neg h1] at hk; rw [if_neg (fun z => h1 (e1.mp z))]; exact hk
    · rw [qle he2 hi] at q
      have hie : i < e := by omega
      obtain ⟨hci, hcb⟩ := hc i hie
      have hin : vp_in (nI i) (sL S (p + 1)) := (qin hi).mpr (by omega)
      refine ⟨hin, hin, ?_⟩
      rw [qn hi, hci, qmod (by omega), qdiv (by omega)]
      have hb : c i / 1024 < 13 := by omega
      have ha : c i % 1024 < 1024 := by omega
      rw [mc, if_neg q] at hk
      generalize c i / 1024 = op at hk hb ⊢
      generalize c i % 1024 = ar at hk ha ⊢
      have cmp : ∀ m : Nat, m < 100 → (nI op = nI m ↔ op = m) := fun m hm => qeq (by omega) (by omega)
      have push : ∀ v : Int64, t < 52 → (∀ J' : tHJ, (∀ x, x ≠ 47 → J' x = J x) → k (rC (mc c w nw e (i + 1) (t + 1) (upJ (J 47) t v))) I J') → F0_work_L20 n S k f I (uJ J 47 (nI t).toNatClampNeg v) p wid (nI t + 1) (nI e) (nI i + 1) := by
        intro v ht2 hk2
        rw [qn (by omega), nI_1, nI_1]
        refine ih (i + 1) (t + 1) _ (by omega) (by omega) (by omega) (fun J' hJ' => ?_)
        rw [upJ_J]
        exact hk2 J' (fun x hx => by rw [hJ' x hx]; exact uJn hx)
      refine ⟨fun z => ?_, fun z => ?_⟩
      · -- a number
        have z : op = 0 := (cmp 0 (by omega)).mp z
        subst z
        rw [if_pos rfl] at hk
        unfold F0_work_64 F0_work_88 F0_work_92 F0_work_282
        rw [h47]
        refine ⟨fun g => ?_, fun g => ⟨fun _ => ?_, fun g1 => absurd g1 (by decide)⟩⟩
        · have g : 52 ≤ t := (qle (by omega) (by omega)).mp g
          rw [if_pos g] at hk
          exact hk J (fun _ _ => rfl)
        · have g : ¬ 52 ≤ t := fun z => g ((qle (by omega) (by omega)).mpr z)
          rw [if_neg g] at hk
          refine ⟨⟨fun g => absurd rfl g, fun _ => trivial⟩, (qin (by omega)).mpr (by omega), ?_⟩
          rw [if_pos (show (nI 0 : Int32) = 0 from rfl)]
          exact push _ (by omega) hk
      · have z : ¬ op = 0 := fun y => z ((cmp 0 (by omega)).mpr y)
        rw [if_neg z] at hk
        refine ⟨fun z1 => ?_, fun z1 => ?_⟩
        · -- an operation
          have z1 : ¬ op = 1 := fun y => z1 ((cmp 1 (by omega)).mpr y)
          rw [if_neg z1] at hk
          refine ⟨fun g => ?_, fun g => ?_⟩
          · have g : 1 ≤ t := (qle (by omega) (by omega)).mp g
            rw [if_neg (by omega)] at hk
            have et1 : nI t - 1 = nI (t - 1) := qpred (by omega)
            have et2 : nI t + (-1) = nI (t - 1) := by rw [← et1]; exact (Int32.sub_eq_add_neg _ _).symm
            have hin1 : vp_in (nI (t - 1)) 52 := (qin (by omega)).mpr (by omega)
            refine ⟨fun z10 => ?_, fun z10 => ?_⟩
            · have z10 : ¬ op = 10 := fun y => z10 ((cmp 10 (by omega)).mpr y)
              rw [if_neg z10] at hk
              refine ⟨fun z11 => ?_, fun z11 => ?_⟩
              · have z11 : op = 11 := (cmp 11 (by omega)).mp z11
                subst z11
                rw [if_pos rfl] at hk
                unfold F0_work_176 F0_work_282
                rw [et1, et2, qn (by omega)]
                refine ⟨hin1, ?_⟩
                rw [if_neg (show ¬ (nI 11 : Int32) = 12 by decide)]
                simp only [lg_cmp_eq]
                rw [show ((0 : Int32).toInt64) = 0 by decide +kernel]
                by_cases g0 : J 47 (t - 1) = 0
                · simp only [g0, if_true] at hk ⊢
                  have em : (if nI i < nI ar - 1 then nI ar - 1 else nI i) + 1 = nI (max i (ar - 1) + 1) := by
                    by_cases g1 : ar = 0
                    · subst g1
                      rw [if_neg (by rw [Int32.lt_iff_toInt_lt, qi hi]; rw [show (nI 0 - 1 : Int32).toInt = -1 by decide +kernel]; omega), nI_1]
                      congr 1
                      omega
                    · rw [qpred (by omega)]
                      by_cases g2 : i < ar - 1
                      · rw [if_pos ((qlt hi (by omega)).mpr g2), nI_1]; congr 1; omega
                      · rw [if_neg (fun y => g2 ((qlt hi (by omega)).mp y)), nI_1]; congr 1; omega
                  rw [em]
                  exact ih _ _ J (by omega) (by omega) ht hk
                · simp only [g0, if_false] at hk ⊢
                  rw [nI_1]
                  exact ih _ _ J (by omega) (by omega) (by omega) hk
              · have z11 : ¬ op = 11 := fun y => z11 ((cmp 11 (by omega)).mpr y)
                rw [if_neg z11] at hk
                refine ⟨fun z12 => ?_, fun z12 => ?_⟩
                · have z12 : ¬ op = 12 := fun y => z12 ((cmp 12 (by omega)).mpr y)
                  rw [if_neg z12] at hk
                  refine ⟨fun g2 => ?_, fun g2 => ?_⟩
                  · have g2 : 2 ≤ t := (qle (by omega) (by omega)).mp g2
                    rw [if_neg (by omega)] at hk
                    rw [et2]
                    have et3 : nI (t - 1) - 1 = nI (t - 2) := by rw [qpred (by omega)]; rfl
                    rw [et3, qn (show t - 2 < 2147483648 by omega), qn (show t - 1 < 2147483648 by omega)]
                    refine ⟨(qin (by omega)).mpr (by omega), hin1, ?_⟩
                    refine sp_joined (by omega) ?_
                    simp only [lg_cmp_eq]
                    cases hj : jn op (J 47 (t - 2)) (J 47 (t - 1)) with
                    | none =>
                      rw [hj] at hk
                      exact ⟨fun y => absurd rfl y, fun _ => hk J (fun _ _ => rfl)⟩
                    | some v =>
                      rw [hj] at hk
                      refine ⟨fun _ => ⟨(qin (by omega)).mpr (by omega), ?_⟩, fun y => absurd y (jn_small hj)⟩
                      unfold F0_work_282
                      rw [nI_1]
                      refine ih _ _ _ (by omega) (by omega) (by omega) (fun J' hJ' => ?_)
                      rw [upJ_J]
                      exact hk J' (fun x hx => by rw [hJ' x hx]; exact uJn hx)
                  · have g2 : ¬ 2 ≤ t := fun y => g2 ((qle (a := 2) (by omega) (by omega)).mpr y)
                    rw [if_pos (by omega)] at hk
                    exact hk J (fun _ _ => rfl)
                · have z12 : op = 12 := (cmp 12 (by omega)).mp z12
                  subst z12
                  rw [if_pos rfl] at hk
                  unfold F0_work_176 F0_work_282
                  rw [et1, et2, qn (by omega)]
                  refine ⟨hin1, ?_⟩
                  rw [if_pos (show (nI 12 : Int32) = 12 from rfl)]
                  simp only [lg_cmp_eq]
                  rw [show ((1 : Int32).toInt64) = 1 by decide +kernel]
                  by_cases g0 : J 47 (t - 1) = 1
                  · simp only [g0, if_true] at hk ⊢
                    have em : (if nI i < nI ar - 1 then nI ar - 1 else nI i) + 1 = nI (max i (ar - 1) + 1) := by
                      by_cases g1 : ar = 0
                      · subst g1
                        rw [if_neg (by rw [Int32.lt_iff_toInt_lt, qi hi]; rw [show (nI 0 - 1 : Int32).toInt = -1 by decide +kernel]; omega), nI_1]
                        congr 1
                        omega
                      · rw [qpred (by omega)]
                        by_cases g2 : i < ar - 1
                        · rw [if_pos ((qlt hi (by omega)).mpr g2), nI_1]; congr 1; omega
                        · rw [if_neg (fun y => g2 ((qlt hi (by omega)).mp y)), nI_1]; congr 1; omega
                    rw [em]
                    exact ih _ _ J (by omega) (by omega) ht hk
                  · simp only [g0, if_false] at hk ⊢
                    rw [nI_1]
                    exact ih _ _ J (by omega) (by omega) (by omega) hk
            · have z10 : op = 10 := (cmp 10 (by omega)).mp z10
              subst z10
              rw [if_pos rfl] at hk
              rw [et1]
              refine ⟨hin1, hin1, ?_⟩
              unfold F0_work_282
              rw [nI_1, qn (show t - 1 < 2147483648 by omega)]
              refine ih _ _ _ (by omega) (by omega) (by omega) (fun J' hJ' => ?_)
              rw [upJ_J]
              exact hk J' (fun x hx => by rw [hJ' x hx]; exact uJn hx)
          · have g : ¬ 1 ≤ t := fun y => g ((qle (a := 1) (by omega) (by omega)).mpr y)
            rw [if_pos (by omega)] at hk
            exact hk J (fun _ _ => rfl)
        · -- a word
          have z1 : op = 1 := (cmp 1 (by omega)).mp z1
          subst z1
          rw [if_pos rfl] at hk
          unfold F0_work_64 F0_work_88 F0_work_92 F0_work_282
          rw [h47, hnw]
          refine ⟨fun g => ?_, fun g => ⟨fun g1 => absurd rfl g1, fun _ => ⟨fun g2 => ?_, fun g2 => ?_⟩⟩⟩
          · have g : 52 ≤ t := (qle (by omega) (by omega)).mp g
            rw [if_pos g] at hk
            exact hk J (fun _ _ => rfl)
          · have g : ¬ 52 ≤ t := fun z => g ((qle (by omega) (by omega)).mpr z)
            have g2 : ar < nw := (qlt (by omega) hnw2).mp g2
            rw [if_neg g, if_neg (by omega)] at hk
            refine ⟨⟨fun _ => ⟨(qin (by omega)).mpr (by omega), trivial⟩, fun _ => trivial⟩, (qin (by omega)).mpr (by omega), ?_⟩
            rw [if_neg (show ¬ (nI 1 : Int32) = 0 by decide), qn (show ar < 2147483648 by omega), hw ar g2]
            exact push _ (by omega) hk
          · have g : ¬ 52 ≤ t := fun z => g ((qle (by omega) (by omega)).mpr z)
            have g2 : ¬ ar < nw := fun y => g2 ((qlt (by omega) hnw2).mpr y)
            rw [if_neg g, if_pos (by omega)] at hk
            exact hk J (fun _ _ => rfl)
theorem sp_work {J : tHJ} {a b ln : Nat} (h47 : sL S 47 = 52) (hln : I p 5 = nI ln) (hab : a ≤ b) (hb : b ≤ ln) (hl2 : ln < 2147483648) (hn : b < n) (hc : ∀ i, i < ln → I (p + 1) i = nI (c i) ∧ c i < 10240 + 2048 + 1024) (he : ln ≤ sL S (p + 1)) (hnw : sL S wid = nw) (hnw2 : nw < 2147483648) (hw : ∀ a, a < nw → (I wid a).toInt64 = w a) (hk : ∀ J' : tHJ, (∀ x, x ≠ 47 → J' x = J x) → k (rC (mc c w nw b a 0 (J 47))) I J') : F0_work n S I J p (nI a) (nI b) wid k := by
  unfold F0_work
  have e1 : (if I p 5 < nI b then I p 5 else nI b) = nI b := by
    rw [hln]
    by_cases g : ln < b
    · omega
    · rw [if_neg (fun y => g ((qlt (by omega) (by omega)).mp y))]
  have e2 : (if 0 < nI a then nI a else 0) = nI a := by
    by_cases g : 0 < a
    · have g0 : (0 : Int32) < nI a := (qlt (a := 0) (by omega) (by omega)).mpr g
      rw [if_pos g0]
    · have g : a = 0 := by omega
      subst g
      rfl
  rw [e1, e2]
  exact work_L h47 (fun i hi => hc i (by omega)) (by omega) (by omega) hnw hnw2 hw n a 0 J (by omega) (by omega) (by omega) hk
end WK
