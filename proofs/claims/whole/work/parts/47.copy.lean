set_option maxRecDepth 20000 in
theorem hc6_copy : tCV yX6_copy cX6_copy 2 (some (.object "ThreeWheels$Program")) 0 := ⟨⟨(List.mem_of_getElem? (i := 751) rfl), (List.mem_of_getElem? (i := 120) (by decide +kernel)), by decide +kernel⟩, (List.mem_of_getElem? (i := 749) (by decide +kernel)), (List.mem_of_getElem? (i := 750) (by decide +kernel))⟩
/-- the copy of a text that was read -/
def CI6 (I : tHI) (J : tHJ) (a z : Nat) : tHI := uI (uI (cpI (cpI (cpI (cpI (NI6_init (uZI I z) (uZJ J z) z (I a 5) (I a 4)) (a + 1) 0 (z + 1) 0 (I a 5).toNatClampNeg) (a + 2) 0 (z + 2) 0 (I a 4).toNatClampNeg) (a + 3) 0 (z + 3) 0 (I a 4).toNatClampNeg) (a + 4) 0 (z + 4) 0 ((I a 4) * 3 + 1).toNatClampNeg) z 4 (I a 4)) z 5 (I a 5)
def P6_copy (S : tSH) (I : tHI) (a : Nat) : Prop := P6_init (I a 5) (I a 4) ∧ ¬ (I a 5) < 0 ∧ ¬ (I a 4) < 0 ∧ ¬ ((I a 4) * 3 + 1) < 0 ∧ (I a 5).toNatClampNeg ≤ sL S (a + 1) ∧ (I a 4).toNatClampNeg ≤ sL S (a + 2) ∧ (I a 4).toNatClampNeg ≤ sL S (a + 3) ∧ ((I a 4) * 3 + 1).toNatClampNeg ≤ sL S (a + 4) ∧ a + 5 ≤ sZ S
def F6_copy (S : tSH) (I : tHI) (J : tHJ) (a : Nat) (k : Nat → tSH → tHI → tHJ → Prop) : Prop := P6_copy S I a ∧ ∀ S', tGr S' → tNew S S' (sZ S) 6 5 → sL S' (sZ S + 1) = (I a 5).toNatClampNeg → sL S' (sZ S + 2) = (I a 4).toNatClampNeg → sL S' (sZ S + 3) = (I a 4).toNatClampNeg → sL S' (sZ S + 4) = ((I a 4) * 3 + 1).toNatClampNeg → k (sZ S) S' (CI6 I J a (sZ S)) (NJ6_init (uZI I (sZ S)) (uZJ J (sZ S)) (sZ S) (I a 5) (I a 4))
theorem i32max0 {x : Int32} (h : ¬ x < 0) : (if 0 < x then x else 0) = x := by
  by_cases c : 0 < x
  · rw [if_pos c]
  · rw [if_neg c]
    have h1 : ¬ x.toInt < (0 : Int32).toInt := fun q => h (Int32.lt_iff_toInt_lt.mpr q)
    have h2 : ¬ (0 : Int32).toInt < x.toInt := fun q => c (Int32.lt_iff_toInt_lt.mpr q)
    have h3 : (0 : Int32).toInt = 0 := rfl
    exact (Int32.toInt_inj.mp (by omega))
set_option maxRecDepth 100000 in
theorem M6_copy {l : Launch} {B : tB} {S : tSH} {I : tHI} {J : tHJ} {a : Nat} {k : Nat → tSH → tHI → tHJ → Prop} (t0 : ty S a 6) (h : F6_copy S I J a k) : Met l yX6_copy (tWs yX6_copy cX6_copy 2 (some (.object "ThreeWheels$Program"))) (tRm 3 5 467) (tPc B [vR a] S I J) (tQq B (fun o u => ∃ x, o = some x ∧ ty u.1 x 6 ∧ k x u.1 u.2.1 u.2.2 ∧ tGr u.1)) 5 467 (tA B) :=
  tEntry (by decide +kernel) [some (vR a), none] rfl rfl (Nat.le_of_ble_eq_true rfl) (fun K hl hR hO hQ hG => by
  subst hl
  obtain ⟨⟨hP, hn5, hn4, hn3, hL1, hL2, hL3, hL4, haz⟩, hk⟩ := h
  generalize hzz : sZ S = z at hk haz
  refine s_new hO (c := 6) (idx := 10) (w1 := 752) (w2 := 119) (w3 := 120) (by decide) (by decide +kernel) (by decide +kernel) (by decide +kernel) hR ⟨by omega, by show _ + 6 ≤ _; omega⟩ (by decide +kernel) ?_
  rw [hzz]
  have hne : ¬ a = z := by omega
  have e5 : (uZI I z) a 5 = I a 5 := if_neg hne
  have e4 : (uZI I z) a 4 = I a 4 := if_neg hne
  have ta : ty (uS S 26 0) a 6 := ty_uS t0
  have tz : ty (uS S 26 0) z 26 := hzz ▸ ty_new
  have hGs : tGr (uS S 26 0) := tGr_uS hG (by omega) (tkd_raw34 _ (by omega))
  refine gBk (pe := 12) hO [o0 .dup, o0 (.aload_n 0), oF (.getfield 15) 6 5 135 0, o0 (.aload_n 0), oF (.getfield 9) 6 4 134 0] (by decide +kernel) (And.intro ta (And.intro ta (show tWG K B 1 6 (uS S 26 0) (uZI I z) (uZJ J z) 12 [some (vR a), none] [vI ((uZI I z) a 4), vI ((uZI I z) a 5), vR z, vR z] from ?_)))
  rw [e4, e5]
  refine gCIv (t := 0) hO (M6_initL tz (show sZ S + 1 = z + 1 by rw [hzz]) (fun j => by show (if z = sZ S then none else sQ S z j) = none; rw [if_pos hzz.symm]) hP) hc6_init (idx := 37) (w := 757) (by decide +kernel) hR ⟨by omega, by decide, by omega, by omega⟩ (vs := [vI (I a 5), vI (I a 4)]) (st := [vR z]) ⟨rfl, Nat.le_of_ble_eq_true rfl, rfl⟩ (by decide +kernel) (fun u hu => ?_)
  obtain ⟨S1, I9, J9⟩ := u
  obtain ⟨⟨hg, hn, hi, hj⟩, m1, m2, m3, m4⟩ := hu
  simp only at hi hj m1 m2 m3 m4
  subst hi hj
  rw [i32max0 hn5] at m1
  rw [i32max0 hn4] at m2 m3 m4
  have hx : tExt S S1 z := by
    have h1 : tExt S (uS S 26 0) z := (tExt.rf (by omega)).uS'
    exact h1.trans hn.1 (Nat.le_refl z)
  have hnew : tNew S S1 z 6 5 := ⟨hx, hn.2.1, hn.2.2⟩
  have tb : ty S1 a 6 := hx.2.1 _ _ (by omega) t0
  have tc : ty S1 z 6 := hn.2.1
  generalize hI : (NI6_init (uZI I z) (uZJ J z) z (I a 5) (I a 4)) = I2
  have f4 : I2 a 4 = I a 4 := by rw [← hI]; show (if a = z + 4 then (0 : Int32) else if a = z + 3 then 0 else if a = z + 2 then 0 else if a = z + 1 then 0 else if a = z ∧ 4 = 5 then 0 else if a = z ∧ 4 = 4 then 0 else if a = z then 0 else I a 4) = I a 4; simp [hne, show ¬ a = z + 1 by omega, show ¬ a = z + 2 by omega, show ¬ a = z + 3 by omega, show ¬ a = z + 4 by omega]
  have f5 : I2 a 5 = I a 5 := by rw [← hI]; show (if a = z + 4 then (0 : Int32) else if a = z + 3 then 0 else if a = z + 2 then 0 else if a = z + 1 then 0 else if a = z ∧ 5 = 5 then 0 else if a = z ∧ 5 = 4 then 0 else if a = z then 0 else I a 5) = I a 5; simp [hne, show ¬ a = z + 1 by omega, show ¬ a = z + 2 by omega, show ¬ a = z + 3 by omega, show ¬ a = z + 4 by omega]
  generalize hJ : (NJ6_init (uZI I z) (uZJ J z) z (I a 5) (I a 4)) = J2 at hk ⊢
  refine gBk (pe := 30) hO [o0 (.astore_n 1), o0 (.aload_n 0), oF (.getfield 24) 6 0 140 0, oI (.iconst 0) 0, o0 (.aload_n 1), oF (.getfield 24) 6 0 140 0, oI (.iconst 0) 0, o0 (.aload_n 0), oF (.getfield 15) 6 5 135 0] (by decide +kernel) (And.intro (Nat.le_of_ble_eq_true rfl) (And.intro tb (And.intro tc (And.intro tb (show tWG K B 5 467 S1 I2 J2 30 [some (vR a), some (vR z)] [vI (I2 a 5), vI 0, vR (z + 1), vI 0, vR (a + 1)] from ?_)))))
  rw [f5]
  refine gCopy hO (tGr.off hg tb (k := 0) rfl) (tGr.off hg tc (k := 0) rfl) ⟨(by decide), (by decide), hn5, by rw [show sL S1 (a + 1) = sL S (a + 1) from hx.2.2.1 _ (by omega)]; show 0 + _ ≤ _; omega, by rw [m1]; show 0 + _ ≤ _; omega⟩ (idx := 40) (w := 753) (by decide +kernel) hR (by omega) (Nat.le_of_ble_eq_true rfl) rfl (by decide +kernel) ?_
  generalize hI1 : cpI I2 (a + 1) (0 : Int32).toNatClampNeg (z + 1) (0 : Int32).toNatClampNeg (I a 5).toNatClampNeg = I3
  have g4 : I3 a 4 = I a 4 := by rw [← hI1]; show (if a = z + 1 ∧ _ then _ else _) = _; rw [if_neg (by omega)]; exact f4
  have g5 : I3 a 5 = I a 5 := by rw [← hI1]; show (if a = z + 1 ∧ _ then _ else _) = _; rw [if_neg (by omega)]; exact f5
  refine gBk (pe := 47) hO [o0 (.aload_n 0), oF (.getfield 28) 6 1 141 0, oI (.iconst 0) 0, o0 (.aload_n 1), oF (.getfield 28) 6 1 141 0, oI (.iconst 0) 0, o0 (.aload_n 0), oF (.getfield 9) 6 4 134 0] (by decide +kernel) (And.intro tb (And.intro tc (And.intro tb (show tWG K B 5 467 S1 I3 J2 47 [some (vR a), some (vR z)] [vI (I3 a 4), vI 0, vR (z + 2), vI 0, vR (a + 2)] from ?_))))
  rw [g4]
  refine gCopy hO (tGr.off hg tb (k := 1) rfl) (tGr.off hg tc (k := 1) rfl) ⟨(by decide), (by decide), hn4, by rw [show sL S1 (a + 2) = sL S (a + 2) from hx.2.2.1 _ (by omega)]; show 0 + _ ≤ _; omega, by rw [m2]; show 0 + _ ≤ _; omega⟩ (idx := 40) (w := 753) (by decide +kernel) hR (by omega) (Nat.le_of_ble_eq_true rfl) rfl (by decide +kernel) ?_
  generalize hI2 : cpI I3 (a + 2) (0 : Int32).toNatClampNeg (z + 2) (0 : Int32).toNatClampNeg (I a 4).toNatClampNeg = I4
  have g4 : I4 a 4 = I a 4 := by rw [← hI2]; show (if a = z + 2 ∧ _ then _ else _) = _; rw [if_neg (by omega)]; exact g4
  have g5 : I4 a 5 = I a 5 := by rw [← hI2]; show (if a = z + 2 ∧ _ then _ else _) = _; rw [if_neg (by omega)]; exact g5
  refine gBk (pe := 64) hO [o0 (.aload_n 0), oF (.getfield 31) 6 2 142 0, oI (.iconst 0) 0, o0 (.aload_n 1), oF (.getfield 31) 6 2 142 0, oI (.iconst 0) 0, o0 (.aload_n 0), oF (.getfield 9) 6 4 134 0] (by decide +kernel) (And.intro tb (And.intro tc (And.intro tb (show tWG K B 5 467 S1 I4 J2 64 [some (vR a), some (vR z)] [vI (I4 a 4), vI 0, vR (z + 3), vI 0, vR (a + 3)] from ?_))))
  rw [g4]
  refine gCopy hO (tGr.off hg tb (k := 2) rfl) (tGr.off hg tc (k := 2) rfl) ⟨(by decide), (by decide), hn4, by rw [show sL S1 (a + 3) = sL S (a + 3) from hx.2.2.1 _ (by omega)]; show 0 + _ ≤ _; omega, by rw [m3]; show 0 + _ ≤ _; omega⟩ (idx := 40) (w := 753) (by decide +kernel) hR (by omega) (Nat.le_of_ble_eq_true rfl) rfl (by decide +kernel) ?_
  generalize hI3 : cpI I4 (a + 3) (0 : Int32).toNatClampNeg (z + 3) (0 : Int32).toNatClampNeg (I a 4).toNatClampNeg = I5
  have g4 : I5 a 4 = I a 4 := by rw [← hI3]; show (if a = z + 3 ∧ _ then _ else _) = _; rw [if_neg (by omega)]; exact g4
  have g5 : I5 a 5 = I a 5 := by rw [← hI3]; show (if a = z + 3 ∧ _ then _ else _) = _; rw [if_neg (by omega)]; exact g5
  refine gBk (pe := 85) hO [o0 (.aload_n 0), oF (.getfield 34) 6 3 143 0, oI (.iconst 0) 0, o0 (.aload_n 1), oF (.getfield 34) 6 3 143 0, oI (.iconst 0) 0, o0 (.aload_n 0), oF (.getfield 9) 6 4 134 0, oI (.iconst 3) 3, o0 .imul, oI (.iconst 1) 1, o0 .iadd] (by decide +kernel) (And.intro tb (And.intro tc (And.intro tb (show tWG K B 5 467 S1 I5 J2 85 [some (vR a), some (vR z)] [vI (((I5 a 4) * 3) + 1), vI 0, vR (z + 4), vI 0, vR (a + 4)] from ?_))))
  rw [g4]
  refine gCopy hO (tGr.off hg tb (k := 3) rfl) (tGr.off hg tc (k := 3) rfl) ⟨(by decide), (by decide), hn3, by rw [show sL S1 (a + 4) = sL S (a + 4) from hx.2.2.1 _ (by omega)]; show 0 + _ ≤ _; omega, by rw [m4]; show 0 + _ ≤ _; omega⟩ (idx := 40) (w := 753) (by decide +kernel) hR (by omega) (Nat.le_of_ble_eq_true rfl) rfl (by decide +kernel) ?_
  generalize hI4 : cpI I5 (a + 4) (0 : Int32).toNatClampNeg (z + 4) (0 : Int32).toNatClampNeg ((I a 4) * 3 + 1).toNatClampNeg = I6
  have g4 : I6 a 4 = I a 4 := by rw [← hI4]; show (if a = z + 4 ∧ _ then _ else _) = _; rw [if_neg (by omega)]; exact g4
  have g5 : I6 a 5 = I a 5 := by rw [← hI4]; show (if a = z + 4 ∧ _ then _ else _) = _; rw [if_neg (by omega)]; exact g5
  refine gBk (pe := 105) hO [o0 (.aload_n 1), o0 (.aload_n 0), oF (.getfield 9) 6 4 134 0, oF (.putfield 9) 6 4 134 0, o0 (.aload_n 1), o0 (.aload_n 0), oF (.getfield 15) 6 5 135 0, oF (.putfield 15) 6 5 135 0, o0 (.aload_n 1)] (by decide +kernel) (And.intro tb (And.intro tc (And.intro tb (And.intro tc (show tWG K B 5 467 S1 (uI (uI I6 z 4 (I6 a 4)) z 5 ((uI I6 z 4 (I6 a 4)) a 5)) J2 105 [some (vR a), some (vR z)] [vO (some z)] from ?_)))))
  rw [show (uI I6 z 4 (I6 a 4)) a 5 = I a 5 by show (if a = z ∧ _ then _ else _) = _; rw [if_neg (by omega)]; exact g5, g4]
  refine gOret (o := some z) hO hQ (by decide +kernel) ⟨z, rfl, tc, ?_, hg⟩
  have hf := hk S1 hg hnew m1 m2 m3 m4
  show k z S1 (uI (uI I6 z 4 (I a 4)) z 5 (I a 5)) J2
  have e : CI6 I J a z = uI (uI I6 z 4 (I a 4)) z 5 (I a 5) := by unfold CI6; rw [hI, ← hI4, ← hI3, ← hI2, ← hI1]; rfl
  rw [← e]; exact hf)
