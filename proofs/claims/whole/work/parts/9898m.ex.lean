/-! the model reads as the grammar says -/
def clv (wh : Nat) : Nat := if wh ≤ 2 then wh + 1 else wh + 2
def trn (wh : Nat) : Nat := if wh ≤ 2 then 2 else 3
def aOm (b : Nat → Nat) (z q : Nat) : Int32 := if aOp b z 3 q ≠ 0 then nI (aOp b z 3 q + 18) else if aOp b z 4 q ≠ 0 then nI (aOp b z 4 q + 18) else -1
section EX
variable {n : Nat} {S : tSH} {b : Nat → Nat} {z ord : Nat} {I0 : tHI} {J0 : tHJ} {k : tHI → tHJ → Prop} {t : Int32}
theorem MTp.fr {I X : tHI} {J Y : tHJ} (h : MTp b z (I 61) (I 70)) (a : MFr I X J Y) : MTp b z (X 61) (X 70) := by
  unfold MTp
  rw [a.2.1 13 (by decide), a.1 70 (by decide)]; exact h
theorem x_bad (hn : 1001 < n) {I : tHI} {J : tHJ} {nc x : Nat} {pl : List (Nat × Nat)} {g r : Nat → Nat} (hk : ∀ I' J', MFr I0 I' J0 J' → ¬ I' 61 19 = 0 → I' 61 18 = nI x → k I' J') (hf : MFr I0 I J0 J) (h19 : ¬ I 61 19 = 0) (h18 : I 61 18 = nI x) (hP : MPi I nc pl g r) {fh : Nat} (h1 : 1 ≤ fh) (v : Int32) : F12_readExpression_L20 n S k fh I J t v := by
  obtain ⟨fh, rfl⟩ : ∃ g, fh = g + 1 := ⟨fh - 1, by omega⟩
  show F12_readExpression_20 n S k (F12_readExpression_L20 n S k fh) I J t v
  unfold F12_readExpression_20 F12_readExpression_76
  refine ⟨fun _ => sp_msett (l := 1) (by decide) (by decide) hn hP (fun I' m' _ => hk I' J (hf.trans (m'.fr J)) ?_ ?_), fun y => absurd y h19⟩
  · rw [m'.2 19 (by decide)]; exact h19
  · rw [m'.2 18 (by decide)]; exact h18
theorem x_0 {I : tHI} {J : tHJ} {fh : Nat} (h19 : I 61 19 = 0) (h : F12_readPlain n S I J (fun x I J => F12_readExpression_L20 n S k fh I J t x)) : F12_readExpression_L20 n S k (fh + 1) I J t 0 := by
  show F12_readExpression_20 n S k (F12_readExpression_L20 n S k fh) I J t 0
  unfold F12_readExpression_20 F12_readExpression_72
  exact ⟨fun y => absurd h19 y, fun _ => ⟨fun y => absurd y (by decide), fun _ => ⟨fun y => absurd rfl y, fun _ => h⟩⟩⟩
theorem x_1 {I : tHI} {J : tHJ} {fh : Nat} (h19 : I 61 19 = 0) (h : F12_readPart n S I J (fun x I J => F12_readExpression_L20 n S k fh I J t x)) : F12_readExpression_L20 n S k (fh + 1) I J t 1 := by
  show F12_readExpression_20 n S k (F12_readExpression_L20 n S k fh) I J t 1
  unfold F12_readExpression_20 F12_readExpression_72
  exact ⟨fun y => absurd h19 y, fun _ => ⟨fun y => absurd y (by decide), fun _ => ⟨fun _ => ⟨fun y => absurd rfl y, fun _ => h⟩, fun y => absurd y (by decide)⟩⟩⟩
theorem x_3 {I : tHI} {J : tHJ} {fh : Nat} (h19 : I 61 19 = 0) (h : F12_behindSum n S I J t (fun x I J => F12_readExpression_L20 n S k fh I J t x)) : F12_readExpression_L20 n S k (fh + 1) I J t 3 := by
  show F12_readExpression_20 n S k (F12_readExpression_L20 n S k fh) I J t 3
  unfold F12_readExpression_20 F12_readExpression_72
  exact ⟨fun y => absurd h19 y, fun _ => ⟨fun y => absurd y (by decide), fun _ => ⟨fun _ => ⟨fun _ => ⟨fun y => absurd rfl y, fun _ => h⟩, fun y => absurd y (by decide)⟩, fun y => absurd y (by decide)⟩⟩⟩
theorem x_2 {I : tHI} {J : tHJ} {fh : Nat} (h19 : I 61 19 = 0) (h : F12_behindTest n S I J (fun x I J => F12_readExpression_L20 n S k fh I J t x)) : F12_readExpression_L20 n S k (fh + 1) I J t 2 := by
  show F12_readExpression_20 n S k (F12_readExpression_L20 n S k fh) I J t 2
  unfold F12_readExpression_20 F12_readExpression_72
  exact ⟨fun y => absurd h19 y, fun _ => ⟨fun y => absurd y (by decide), fun _ => ⟨fun _ => ⟨fun _ => ⟨fun _ => h, fun y => absurd y (by decide)⟩, fun y => absurd y (by decide)⟩, fun y => absurd y (by decide)⟩⟩⟩
theorem x_4 {I : tHI} {J : tHJ} {fh : Nat} (h19 : I 61 19 = 0) (h : F12_settle n S I J 1 (fun I J => k I J)) : F12_readExpression_L20 n S k (fh + 1) I J t 4 := by
  show F12_readExpression_20 n S k (F12_readExpression_L20 n S k fh) I J t 4
  unfold F12_readExpression_20 F12_readExpression_76
  exact ⟨fun y => absurd h19 y, fun _ => ⟨fun _ => h, fun y => absurd rfl y⟩⟩
theorem b10 {v : Int32} {p q' : Prop} (h : v = 0 ↔ ¬ p) {x y : Int32} {d : Decidable p} : (if v = 0 then x else y) = (if p then y else x) := by
  by_cases c : p
  · rw [if_neg (fun e => h.mp e c), if_pos c]
  · rw [if_pos (h.mpr c), if_neg c]
/-- which operator of a sum the sign is, as the model asks -/
theorem op_sum {I : tHI} {J : tHJ} {q : Nat} (h : MT b z (I 61) (J 61 17) q) : (if (V12_isSign S I J 43) = 0 then (if (V12_isSign S I J 45) = 0 then (if (V12_isSign S I J 42) = 0 then (if (V12_isSign S I J 47) = 0 then (if (V12_isSign S I J 37) = 0 then ((-1) : Int32) else 24) else 23) else 22) else 21) else 20) = aOm b z q := by
  have e43 : V12_isSign S I J 43 = 0 ↔ ¬ aS b z q = 43 := isS h (c := 43) (by decide) (by decide)
  have e45 : V12_isSign S I J 45 = 0 ↔ ¬ aS b z q = 45 := isS h (c := 45) (by decide) (by decide)
  have e42 : V12_isSign S I J 42 = 0 ↔ ¬ aS b z q = 42 := isS h (c := 42) (by decide) (by decide)
  have e47 : V12_isSign S I J 47 = 0 ↔ ¬ aS b z q = 47 := isS h (c := 47) (by decide) (by decide)
  have e37 : V12_isSign S I J 37 = 0 ↔ ¬ aS b z q = 37 := isS h (c := 37) (by decide) (by decide)
  unfold aOm
  rw [aOp3, aOp4]
  by_cases c1 : aS b z q = 43
  · rw [if_neg (fun e => e43.mp e c1), if_pos c1, if_pos (show (2 : Nat) ≠ 0 by decide)]; rfl
  rw [if_pos (e43.mpr c1), if_neg c1]
  by_cases c2 : aS b z q = 45
  · rw [if_neg (fun e => e45.mp e c2), if_pos c2, if_pos (show (3 : Nat) ≠ 0 by decide)]; rfl
  rw [if_pos (e45.mpr c2), if_neg c2, if_neg (show ¬ (0 : Nat) ≠ 0 by decide)]
  by_cases c3 : aS b z q = 42
  · rw [if_neg (fun e => e42.mp e c3), if_pos c3, if_pos (show (4 : Nat) ≠ 0 by decide)]; rfl
  rw [if_pos (e42.mpr c3), if_neg c3]
  by_cases c4 : aS b z q = 47
  · rw [if_neg (fun e => e47.mp e c4), if_pos c4, if_pos (show (5 : Nat) ≠ 0 by decide)]; rfl
  rw [if_pos (e47.mpr c4), if_neg c4]
  by_cases c5 : aS b z q = 37
  · rw [if_neg (fun e => e37.mp e c5), if_pos c5, if_pos (show (6 : Nat) ≠ 0 by decide)]; rfl
  rw [if_pos (e37.mpr c5), if_neg c5, if_neg (show ¬ (0 : Nat) ≠ 0 by decide)]
theorem aOp_r {wh q : Nat} (hw : wh = 3 ∨ wh = 4) (h : aOp b z wh q ≠ 0) : (wh = 3 → aOp b z wh q = 2 ∨ aOp b z wh q = 3) ∧ (wh = 4 → aOp b z wh q = 4 ∨ aOp b z wh q = 5 ∨ aOp b z wh q = 6) := by
  refine ⟨fun e => ?_, fun e => ?_⟩
  · subst e
    rw [aOp3] at h ⊢
    by_cases c : aS b z q = 43
    · rw [if_pos c]; exact Or.inl rfl
    · rw [if_neg c] at h ⊢
      by_cases c2 : aS b z q = 45
      · rw [if_pos c2]; exact Or.inr rfl
      · rw [if_neg c2] at h; exact absurd rfl h
  · subst e
    rw [aOp4] at h ⊢
    by_cases c : aS b z q = 42
    · rw [if_pos c]; exact Or.inl rfl
    · rw [if_neg c] at h ⊢
      by_cases c2 : aS b z q = 47
      · rw [if_pos c2]; exact Or.inr (Or.inl rfl)
      · rw [if_neg c2] at h ⊢
        by_cases c3 : aS b z q = 37
        · rw [if_pos c3]; exact Or.inr (Or.inr rfl)
        · rw [if_neg c3] at h; exact absurd rfl h
theorem aOp_x {q : Nat} (h : aOp b z 4 q ≠ 0) : aOp b z 3 q = 0 := by
  have k := (aOp_r (Or.inr rfl) h).2 rfl
  rw [aOp4] at k
  rw [aOp3]
  by_cases c : aS b z q = 43
  · rw [if_neg (by omega), if_neg (by omega), if_neg (by omega)] at k; omega
  · rw [if_neg c]
    by_cases c2 : aS b z q = 45
    · rw [if_neg (by omega), if_neg (by omega), if_neg (by omega)] at k; omega
    · rw [if_neg c2]
/-- which reading by the model is to be shown, from a place on; what comes of it -/
def XH (n : Nat) (S : tSH) (k : tHI → tHJ → Prop) (t : Int32) (b : Nat → Nat) (z ord : Nat) (I0 : tHI) (J0 : tHJ) (wh br nc : Nat) (pl : List (Nat × Nat)) (g r : Nat → Nat) (res : aR3) : Prop :=
  (∀ x, res = .inl x → ∀ I' J', MFr I0 I' J0 J' → ¬ I' 61 19 = 0 → I' 61 18 = nI x → k I' J') ∧
  (∀ q' m' v, res = .inr (q', m', v) → ∀ (fh' : Nat) (I' : tHI) (J' : tHJ) (R : List (Nat × Nat)) (g' r' : Nat → Nat) (nc' : Nat) (F : tV → tV) (mm : Nat) (u : tV), 4 * (z - aF b z q') + trn wh ≤ fh' → MFr I0 I' J0 J' → MG b z I' J' q' m' br nc' (R ++ pl) g' r' → (∀ e, e ∈ R → clv wh ≤ bnd e.1 ∧ 20 ≤ e.1 ∧ e.1 ≤ 30) → (∀ i, i < nc → g' i = g i ∧ r' i = r i) → LCx (if ord = 0 then lfL else lfO) g' r' R nc mm F → DN (if ord = 0 then lfL else lfO) g' r' mm nc' u → F u = v → F12_readExpression_L20 n S k fh' I' J' t (nI (trn wh)))
/-- all that one reads so, with fuel f for the grammar -/
def XS (n : Nat) (S : tSH) (k : tHI → tHJ → Prop) (t : Int32) (b : Nat → Nat) (z ord : Nat) (I0 : tHI) (J0 : tHJ) (f wh : Nat) : Prop := ∀ (br q m nc : Nat) (pl : List (Nat × Nat)) (g r : Nat → Nat) (I : tHI) (J : tHJ) (fh : Nat) (v2 : Int32), 30 ≤ f + wh + 3 * br → br ≤ 8 → MFr I0 I J0 J → MG b z I J q m br nc pl g r → stops (clv wh) pl → (wh ≤ 2 → innr pl ≠ some 32 ∧ (innr pl = none → ¬ t = 0)) → ((wh ≤ 2 ∧ v2 = 0) ∨ (3 ≤ wh ∧ v2 = 1) ∨ (3 ≤ wh ∧ v2 = 0 ∧ ¬ aX b z q 6 = some 0 ∧ ¬ aS b z q = 40)) → 4 * (z - aF b z q) + 4 ≤ fh → XH n S k t b z ord I0 J0 wh br nc pl g r (aP b z ord f wh br q m) → F12_readExpression_L20 n S k fh I J t v2
/-- behind a sum or a term, with one of its operators -/
theorem x_opA (ht : MTp b z (I0 61) (I0 70)) (hn : 1001 < n) {f wh br q m nc nc1 mm fh : Nat} {pl R : List (Nat × Nat)} {g r g1 r1 : Nat → Nat} {I : tHI} {J : tHJ} {F : tV → tV} {u v : tV} (hw : wh = 3 ∨ wh = 4) (hf : 30 ≤ f + (wh + 1) + 3 * br) (hbr : br ≤ 8) (ih : XS n S k t b z ord I0 J0 f (wh + 1)) (hF : MFr I0 I J0 J) (hG : MG b z I J q m br nc1 (R ++ pl) g1 r1) (hst : stops (clv wh) pl) (hR : ∀ e, e ∈ R → clv wh ≤ bnd e.1 ∧ 20 ≤ e.1 ∧ e.1 ≤ 30) (hsm : ∀ i, i < nc → g1 i = g i ∧ r1 i = r i) (hL : LCx (if ord = 0 then lfL else lfO) g1 r1 R nc mm F) (hD : DN (if ord = 0 then lfL else lfO) g1 r1 mm nc1 u) (hv : F u = v) (ho : aOp b z wh q ≠ 0) (hfh : 4 * (z - aF b z q) + 3 ≤ fh)
    (hbad : ∀ x, aP b z ord f (wh + 1) br (aE b z q) m = .inl x → ∀ I' J', MFr I0 I' J0 J' → ¬ I' 61 19 = 0 → I' 61 18 = nI x → k I' J')
    (hgd : ∀ q' m' v', aP b z ord f (wh + 1) br (aE b z q) m = .inr (q', m', v') → ∀ (fh' : Nat) (I' : tHI) (J' : tHJ) (R' : List (Nat × Nat)) (g' r' : Nat → Nat) (nc' : Nat) (F' : tV → tV) (mm' : Nat) (u' : tV), 4 * (z - aF b z q') + 3 ≤ fh' → MFr I0 I' J0 J' → MG b z I' J' q' m' br nc' (R' ++ pl) g' r' → (∀ e, e ∈ R' → clv wh ≤ bnd e.1 ∧ 20 ≤ e.1 ∧ e.1 ≤ 30) → (∀ i, i < nc → g' i = g i ∧ r' i = r i) → LCx (if ord = 0 then lfL else lfO) g' r' R' nc mm' F' → DN (if ord = 0 then lfL else lfO) g' r' mm' nc' u' → F' u' = aJ (aOp b z wh q) v v' → F12_readExpression_L20 n S k fh' I' J' t 3) : F12_readExpression_L20 n S k fh I J t 3 := by
  obtain ⟨fh, rfl⟩ : ∃ g, fh = g + 1 := ⟨fh - 1, by omega⟩
  obtain ⟨hT, hq, h19, h18, h26, hm, h30, hP, hl, hp⟩ := hG
  have hz := ht.1
  have k0 := aOp_k ho
  have kz := (aE_gt k0).2.2
  have up := aF_up k0
  obtain ⟨r3, r4⟩ := aOp_r hw ho
  have eo : aOm b z q = nI (aOp b z wh q + 18) := by
    unfold aOm
    rcases hw with w | w <;> subst w
    · rw [if_pos ho]
    · rw [if_neg (fun y => y (aOp_x ho)), if_pos ho]
  have ob : bnd (aOp b z wh q + 18) = clv wh ∧ 2 ≤ aOp b z wh q ∧ aOp b z wh q ≤ 6 := by
    rcases hw with w | w
    · rcases r3 w with c | c <;> rw [c, w] <;> decide
    · rcases r4 w with c | c | c <;> rw [c, w] <;> decide
  have cw : 1 ≤ clv wh ∧ clv wh ≤ 6 := by rcases hw with w | w <;> rw [w] <;> decide
  obtain ⟨g2, r2, nc2, s1, s2, s3, s4, s5⟩ := sett_top hst R nc mm nc1 g1 r1 F u hL hD hR
  refine x_3 h19 ?_
  unfold F12_behindSum
  rw [op_sum hT, eo, bnd_v (by omega), ob.1]
  refine ⟨fun y => ?_, fun _ => sp_msett cw.1 cw.2 hn hP (fun I1 m1 p1 => ?_)⟩
  · exfalso
    have := congrArg Int32.toInt y
    rw [qi (by omega), qneg] at this
    omega
  · rw [s1] at p1
    have p1 : MPi I1 nc2 pl g2 r2 := p1
    have lp : (R ++ pl).length = R.length + pl.length := List.length_append
    have e1 : pend ((aOp b z wh q + 18, 0) :: pl) = 1 + pend pl := by
      show (if aOp b z wh q + 18 ≤ 28 then 1 else 0) + pend pl = _
      rw [if_pos (by omega)]
    refine sp_mpush (a := 0) p1.2.1 (by omega) ?_
    have p2 := p1.push (o := aOp b z wh q + 18) (a := 0) ⟨by omega, by omega⟩ (by omega) (by omega) (by rw [e1]; omega)
    have fr2 : MFr I (uI (uI (uI I1 74 pl.length (nI (aOp b z wh q + 18))) 75 pl.length (nI 0)) 61 29 (nI (pl.length + 1))) J J := (((m1.fr J).wa (by decide)).wa (by decide)).w61 (by decide)
    have x61 : ∀ y, y ≠ 29 → y ≠ 23 → (uI (uI (uI I1 74 pl.length (nI (aOp b z wh q + 18))) 75 pl.length (nI 0)) 61 29 (nI (pl.length + 1))) 61 y = I 61 y := fun y h1 h2 => by
      rw [uIe, upn h1, uIn (by decide), uIn (by decide)]
      exact m1.2 y (fun e => by have : y = 23 ∨ y = 29 := by simpa using e
                                omega)
    generalize (uI (uI (uI I1 74 pl.length (nI (aOp b z wh q + 18))) 75 pl.length (nI 0)) 61 29 (nI (pl.length + 1))) = I2 at p2 fr2 x61 ⊢
    have hT2 : MT b z (I2 61) (J 61 17) q := by
      obtain ⟨a1, a2, a3, a4⟩ := hT
      exact ⟨by rw [x61 14 (by decide) (by decide)]; exact a1, by rw [x61 15 (by decide) (by decide)]; exact a2, by rw [x61 16 (by decide) (by decide)]; exact a3, a4⟩
    refine MG_next ((ht.fr hF).fr fr2) hn hT2 hq (by rw [x61 19 (by decide) (by decide)]; exact h19) (by rw [x61 18 (by decide) (by decide)]; exact h18) (by rw [x61 26 (by decide) (by decide)]; exact h26) hm (by rw [x61 30 (by decide) (by decide)]; exact h30) p2 (by show pl.length + 1 ≤ _; omega) (by rw [e1]; omega) (fun I3 J3 a3 g3 => ?_)
    have ub : aF b z (aE b z q) ≤ z := aF_le g3.2.1
    refine ih br (aE b z q) m nc2 _ g2 r2 I3 J3 fh 1 hf hbr ((hF.trans fr2).ad a3) g3 (Or.inr ⟨_, _, rfl, by rw [ob.1]; rcases hw with w | w <;> rw [w] <;> decide⟩) (fun y => by rcases hw with w | w <;> omega) (Or.inr (Or.inl ⟨by rcases hw with w | w <;> omega, rfl⟩)) (by omega) ⟨hbad, fun q' m' v' e' fh' I' J' R' g' r' nc' F' mm' u' c1 c2 c3 c4 c5 c6 c7 c8 => ?_⟩
    have tw : trn (wh + 1) = 3 := by rcases hw with w | w <;> rw [w] <;> rfl
    rw [tw] at c1 ⊢
    have cwu : clv wh ≤ clv (wh + 1) := by rcases hw with w | w <;> rw [w] <;> decide
    have d2 : LCx (if ord = 0 then lfL else lfO) g' r' [(aOp b z wh q + 18, 0)] nc nc2 (fun x => vBin (aOp b z wh q) v x) := by
      refine ⟨nc, fun x => x, ⟨rfl, fun _ => rfl⟩, Or.inr (Or.inl ⟨by show 20 ≤ aOp b z wh q + 18; omega, by show aOp b z wh q + 18 ≤ 27; omega, v, ?_, fun x => ?_⟩)⟩
      · rw [← hv]; exact s2.cg fun i _ i2 => c5 i i2
      · show vBin (aOp b z wh q) v x = vBin (aOp b z wh q + 18 - 18) v x
        rw [show aOp b z wh q + 18 - 18 = aOp b z wh q by omega]
    refine hgd q' m' v' e' fh' I' J' (R' ++ [(aOp b z wh q + 18, 0)]) g' r' nc' _ mm' u' c1 c2 ?_ (fun e he => ?_) (fun i hi => ?_) (LCx.app d2 c6) c7 ?_
    · rw [List.append_assoc]; exact c3
    · rcases List.mem_append.mp he with h | h
      · obtain ⟨y1, y2, y3⟩ := c4 e h; exact ⟨by omega, y2, y3⟩
      · rw [List.mem_singleton.mp h]
        exact ⟨by rw [ob.1]; omega, by show 20 ≤ aOp b z wh q + 18; omega, by show aOp b z wh q + 18 ≤ 30; omega⟩
    · have dl := hL.le
      obtain ⟨y1, y2⟩ := c5 i (by have := s2.lt; omega)
      obtain ⟨y3, y4⟩ := s3 i hi
      obtain ⟨y5, y6⟩ := hsm i hi
      exact ⟨(y1.trans y3).trans y5, (y2.trans y4).trans y6⟩
    · show vBin (aOp b z wh q) v (F' u') = _
      rw [c8]
      unfold aJ
      rw [if_neg (by omega), if_neg (by omega)]
/-- behind a test, with "and" or "or" -/
theorem x_opB (ht : MTp b z (I0 61) (I0 70)) (hn : 1001 < n) {f wh br q m nc nc1 mm fh : Nat} {pl R : List (Nat × Nat)} {g r g1 r1 : Nat → Nat} {I : tHI} {J : tHJ} {F : tV → tV} {u v : tV} (hw : wh = 0 ∨ wh = 1) (hf : 30 ≤ f + (wh + 1) + 3 * br) (hbr : br ≤ 8) (ih : XS n S k t b z ord I0 J0 f (wh + 1)) (hin : innr pl ≠ some 32 ∧ (innr pl = none → ¬ t = 0)) (hF : MFr I0 I J0 J) (hG : MG b z I J q m br nc1 (R ++ pl) g1 r1) (hst : stops (clv wh) pl) (hR : ∀ e, e ∈ R → clv wh ≤ bnd e.1 ∧ 20 ≤ e.1 ∧ e.1 ≤ 30) (hsm : ∀ i, i < nc → g1 i = g i ∧ r1 i = r i) (hL : LCx (if ord = 0 then lfL else lfO) g1 r1 R nc mm F) (hD : DN (if ord = 0 then lfL else lfO) g1 r1 mm nc1 u) (hv : F u = v) (h0 : wh = 0 → aOp b z 1 q = 0) (ho : aOp b z wh q ≠ 0) (hfh : 4 * (z - aF b z q) + 2 ≤ fh)
    (hbad : ∀ x, aP b z ord f (wh + 1) br (aE b z q) m = .inl x → ∀ I' J', MFr I0 I' J0 J' → ¬ I' 61 19 = 0 → I' 61 18 = nI x → k I' J')
    (hgd : ∀ q' m' v', aP b z ord f (wh + 1) br (aE b z q) m = .inr (q', m', v') → ∀ (fh' : Nat) (I' : tHI) (J' : tHJ) (R' : List (Nat × Nat)) (g' r' : Nat → Nat) (nc' : Nat) (F' : tV → tV) (mm' : Nat) (u' : tV), 4 * (z - aF b z q') + 2 ≤ fh' → MFr I0 I' J0 J' → MG b z I' J' q' m' br nc' (R' ++ pl) g' r' → (∀ e, e ∈ R' → clv wh ≤ bnd e.1 ∧ 20 ≤ e.1 ∧ e.1 ≤ 30) → (∀ i, i < nc → g' i = g i ∧ r' i = r i) → LCx (if ord = 0 then lfL else lfO) g' r' R' nc mm' F' → DN (if ord = 0 then lfL else lfO) g' r' mm' nc' u' → F' u' = aJ (aOp b z wh q) v v' → F12_readExpression_L20 n S k fh' I' J' t 2) : F12_readExpression_L20 n S k fh I J t 2 := by
  obtain ⟨fh, rfl⟩ : ∃ g, fh = g + 1 := ⟨fh - 1, by omega⟩
  obtain ⟨hT, hq, h19, h18, h26, hm, h30, hP, hl, hp⟩ := hG
  have hz := ht.1
  have k0 := aOp_k ho
  have kz := (aE_gt k0).2.2
  have up := aF_up k0
  have wa := isW_and (S := S) hT
  have wo := isW_or (S := S) hT
  have za := Z12_isWord S I J 1476
  obtain ⟨g2, r2, nc2, s1, s2, s3, s4, s5⟩ := sett_top hst R nc mm nc1 g1 r1 F u hL hD hR
  -- the operator: 29 or 30
  have key : ∀ (o : Nat) (w : Int32), (if w = 0 then (1 : Int32) else 2) = nI (clv wh) → (if w = 0 then (30 : Int32) else 29) = nI o → (o = 29 ∨ o = 30) → bnd o = clv wh → (∀ x, aJ (aOp b z wh q) v x = vJmp (if o = 29 then 0 else 1) v x) → F12_behindTest_22 n S (fun x I J => F12_readExpression_L20 n S k fh I J t x) I J w := by
    intro o w e1 e2 ho2 eb ej
    have cw : 1 ≤ clv wh ∧ clv wh ≤ 6 := by rcases hw with w | w <;> rw [w] <;> decide
    unfold F12_behindTest_22
    rw [e1, e2]
    refine sp_msett cw.1 cw.2 hn hP (fun I1 m1 p1 => ?_)
    rw [s1] at p1
    have p1 : MPi I1 nc2 pl g2 r2 := p1
    have lp : (R ++ pl).length = R.length + pl.length := List.length_append
    have ep : pend ((o, nc2) :: pl) = pend pl := by
      show (if o ≤ 28 then 1 else 0) + pend pl = _
      rw [if_neg (by omega)]; omega
    rw [p1.1]
    refine sp_mpush p1.2.1 (by omega) ?_
    have p2 := p1.push (o := o) (a := nc2) ⟨by omega, by omega⟩ (by omega) (by omega) (by rw [ep]; omega)
    have fr2 : MFr I (uI (uI (uI I1 74 pl.length (nI o)) 75 pl.length (nI nc2)) 61 29 (nI (pl.length + 1))) J J := (((m1.fr J).wa (by decide)).wa (by decide)).w61 (by decide)
    have x61 : ∀ y, y ≠ 29 → y ≠ 23 → (uI (uI (uI I1 74 pl.length (nI o)) 75 pl.length (nI nc2)) 61 29 (nI (pl.length + 1))) 61 y = I 61 y := fun y h1 h2 => by
      rw [uIe, upn h1, uIn (by decide), uIn (by decide)]
      exact m1.2 y (fun e => by have : y = 23 ∨ y = 29 := by simpa using e
                                omega)
    generalize (uI (uI (uI I1 74 pl.length (nI o)) 75 pl.length (nI nc2)) 61 29 (nI (pl.length + 1))) = I2 at p2 fr2 x61 ⊢
    refine sp_memit (a := 0) p2.1 (by omega) ?_
    have p3 := p2.emit (o := o) (a := 0) (by omega) (by omega) (by rw [ep]; omega)
    have fr3 : MFr I (uI (uI (uI I2 72 nc2 (nI o)) 73 nc2 (nI 0)) 61 23 (nI (nc2 + 1))) J J := ((fr2.wa (by decide)).wa (by decide)).w61 (by decide)
    have y61 : ∀ y, y ≠ 29 → y ≠ 23 → (uI (uI (uI I2 72 nc2 (nI o)) 73 nc2 (nI 0)) 61 23 (nI (nc2 + 1))) 61 y = I 61 y := fun y h1 h2 => by
      rw [uIe, upn h2, uIn (by decide), uIn (by decide)]
      exact x61 y h1 h2
    generalize (uI (uI (uI I2 72 nc2 (nI o)) 73 nc2 (nI 0)) 61 23 (nI (nc2 + 1))) = I3 at p3 fr3 y61 ⊢
    have hT2 : MT b z (I3 61) (J 61 17) q := by
      obtain ⟨a1, a2, a3, a4⟩ := hT
      exact ⟨by rw [y61 14 (by decide) (by decide)]; exact a1, by rw [y61 15 (by decide) (by decide)]; exact a2, by rw [y61 16 (by decide) (by decide)]; exact a3, a4⟩
    refine MG_next ((ht.fr hF).fr fr3) hn hT2 hq (by rw [y61 19 (by decide) (by decide)]; exact h19) (by rw [y61 18 (by decide) (by decide)]; exact h18) (by rw [y61 26 (by decide) (by decide)]; exact h26) hm (by rw [y61 30 (by decide) (by decide)]; exact h30) p3 (by show pl.length + 1 ≤ _; omega) (by rw [ep]; omega) (fun I4 J4 a4 g4 => ?_)
    have ub : aF b z (aE b z q) ≤ z := aF_le g4.2.1
    have ei : innr ((o, nc2) :: pl) = innr pl := by
      show (if 31 ≤ o then some o else innr pl) = _
      rw [if_neg (by omega)]
    have twh : trn (wh + 1) = 2 := by rcases hw with w | w <;> rw [w] <;> rfl
    have cwu : clv wh < clv (wh + 1) := by rcases hw with w | w <;> rw [w] <;> decide
    refine ih br (aE b z q) m (nc2 + 1) _ _ _ I4 J4 fh 0 hf hbr ((hF.trans fr3).ad a4) g4 (Or.inr ⟨_, _, rfl, by rw [eb]; exact cwu⟩) (fun _ => by rw [ei]; exact hin) (Or.inl ⟨by omega, rfl⟩) (by omega) ⟨hbad, fun q' m' v' e' fh' I' J' R' g' r' nc' F' mm' u' c1 c2 c3 c4 c5 c6 c7 c8 => ?_⟩
    rw [twh] at c1 ⊢
    have cg2 : ∀ i, i < nc2 → upN g2 nc2 o i = g2 i ∧ upN r2 nc2 0 i = r2 i := fun i hi => ⟨upNn (by omega), upNn (by omega)⟩
    have cg : ∀ i, i < nc2 → g' i = g2 i ∧ r' i = r2 i := fun i hi => by
      obtain ⟨y1, y2⟩ := c5 i (by omega)
      obtain ⟨y3, y4⟩ := cg2 i hi
      exact ⟨y1.trans y3, y2.trans y4⟩
    have d2 : LCx (if ord = 0 then lfL else lfO) g' r' [(o, nc2)] nc (nc2 + 1) (fun x => vJmp (if o = 29 then 0 else 1) v x) := by
      refine ⟨nc, fun x => x, ⟨rfl, fun _ => rfl⟩, Or.inr (Or.inr ⟨ho2, rfl, ?_, v, ?_, fun x => rfl⟩)⟩
      · show g' nc2 = o
        rw [(c5 nc2 (by omega)).1, upNe]
      · rw [← hv]; exact s2.cg fun i _ i2 => cg i i2
    refine hgd q' m' v' e' fh' I' J' (R' ++ [(o, nc2)]) g' r' nc' _ mm' u' c1 c2 ?_ (fun e he => ?_) (fun i hi => ?_) (LCx.app d2 c6) c7 ?_
    · rw [List.append_assoc]; exact c3
    · rcases List.mem_append.mp he with h | h
      · obtain ⟨y1, y2, y3⟩ := c4 e h; exact ⟨by omega, y2, y3⟩
      · rw [List.mem_singleton.mp h]
        exact ⟨by rw [eb]; omega, by show 20 ≤ o; omega, by show o ≤ 30; omega⟩
    · have dl := hL.le
      obtain ⟨y1, y2⟩ := cg i (by have := s2.lt; omega)
      obtain ⟨y3, y4⟩ := s3 i hi
      obtain ⟨y5, y6⟩ := hsm i hi
      exact ⟨(y1.trans y3).trans y5, (y2.trans y4).trans y6⟩
    · rw [ej]
      show vJmp (if o = 29 then 0 else 1) v (F' u') = _
      rw [c8]
  refine x_2 h19 ?_
  unfold F12_behindTest
  rcases hw with w | w
  · subst w
    have a1 : ¬ aX b z q 5 = some 0 := by
      intro y
      have := h0 rfl
      rw [aOp1, if_pos y] at this
      exact absurd this (by decide)
    have a0 : aX b z q 4 = some 0 := by
      rw [aOp0] at ho
      by_cases c : aX b z q 4 = some 0
      · exact c
      · rw [if_neg c] at ho; exact absurd rfl ho
    have eo : aOp b z 0 q = 12 := by rw [aOp0, if_pos a0]
    have w0 : V12_isWord S I J 1476 = 0 := wa.mpr a1
    refine ⟨fun y => absurd w0 y, fun _ => ⟨fun y => absurd a0 (wo.mp y), fun _ => ?_⟩⟩
    rw [w0]
    exact key 30 0 rfl rfl (Or.inr rfl) rfl (fun x => by rw [eo]; rfl)
  · subst w
    have a1 : aX b z q 5 = some 0 := by
      rw [aOp1] at ho
      by_cases c : aX b z q 5 = some 0
      · exact c
      · rw [if_neg c] at ho; exact absurd rfl ho
    have eo : aOp b z 1 q = 11 := by rw [aOp1, if_pos a1]
    have w1 : V12_isWord S I J 1476 = 1 := by
      rcases za with c | c
      · exact absurd a1 (wa.mp c)
      · exact c
    refine ⟨fun _ => ?_, fun y => absurd a1 (wa.mp y)⟩
    rw [w1]
    exact key 29 1 rfl rfl (Or.inl rfl) rfl (fun x => by rw [eo]; rfl)
end EX
