/-! the model reads as the grammar says: the whole -/
section EQ
variable {n : Nat} {S : tSH} {b : Nat → Nat} {z ord : Nat} {I0 : tHI} {J0 : tHJ} {k : tHI → tHJ → Prop} {t : Int32}
theorem x_plain (ht : MTp b z (I0 61) (I0 70)) (hn : 1001 < n) {f br q m nc fh : Nat} {pl : List (Nat × Nat)} {g r : Nat → Nat} {I : tHI} {J : tHJ} (hf : 30 ≤ f + 1 + 2 + 3 * br) (hbr : br ≤ 8) (ih : ∀ wh, wh ≤ 5 → XS n S k t b z ord I0 J0 f wh) (hF : MFr I0 I J0 J) (hG : MG b z I J q m br nc pl g r) (hst : stops 3 pl) (hin : innr pl ≠ some 32 ∧ (innr pl = none → ¬ t = 0)) (hfh : 4 * (z - aF b z q) + 4 ≤ fh) (hX : XH n S k t b z ord I0 J0 2 br nc pl g r (aPl b z (aP b z ord f 0) (aP b z ord f 3) br q m)) : F12_readExpression_L20 n S k fh I J t 0 := by
  have hz := ht.1
  unfold aPl at hX
  obtain ⟨nt1, nt2, nt3⟩ := aNt_le (b := b) 400 q hG.2.1
  have nt3 := nt3 (by omega)
  refine x_nots ht hn 400 fh q 0 I J hF hG hfh (fun fh I J hfh hF hG => ?_)
  rw [Nat.zero_add] at hG
  generalize (aNt b z 400 q).2 = c at *
  generalize (aNt b z 400 q).1 = q1 at *
  obtain ⟨hT, hq, h19, h18, h26, hm, h30, hP, hl, hp⟩ := id hG
  have htI := ht.fr hF
  have ei : innr (List.replicate c (28, 0) ++ pl) = innr pl := innr_R _ _ (fun e he => by rw [rep_m e he]; decide)
  have es : V12_isSign S I J 40 = 0 ↔ ¬ aS b z q1 = 40 := isS hT (c := 40) (by decide) (by decide)
  have uq := aF_le (b := b) hq
  -- the end
  have fin : ∀ (q' m' : Nat) (v : tV), vTF v → (∀ x y, (.inr (q', m', nots c v) : aR3) = .inr (x, y) → True) → ∀ (fh' : Nat) (I' : tHI) (J' : tHJ) (R : List (Nat × Nat)) (g' r' : Nat → Nat) (nc' : Nat) (F : tV → tV) (mm : Nat) (u : tV), 4 * (z - aF b z q') + 2 ≤ fh' → MFr I0 I' J0 J' → MG b z I' J' q' m' br nc' (R ++ (List.replicate c (28, 0) ++ pl)) g' r' → (∀ e, e ∈ R → 3 ≤ bnd e.1 ∧ 20 ≤ e.1 ∧ e.1 ≤ 30) → (∀ i, i < nc → g' i = g i ∧ r' i = r i) → LCx (if ord = 0 then lfL else lfO) g' r' R nc mm F → DN (if ord = 0 then lfL else lfO) g' r' mm nc' u → F u = v → (∀ w, (∀ (fh' : Nat) (I' : tHI) (J' : tHJ) (R : List (Nat × Nat)) (g' r' : Nat → Nat) (nc' : Nat) (F : tV → tV) (mm : Nat) (u : tV), 4 * (z - aF b z q') + trn 2 ≤ fh' → MFr I0 I' J0 J' → MG b z I' J' q' m' br nc' (R ++ pl) g' r' → (∀ e, e ∈ R → clv 2 ≤ bnd e.1 ∧ 20 ≤ e.1 ∧ e.1 ≤ 30) → (∀ i, i < nc → g' i = g i ∧ r' i = r i) → LCx (if ord = 0 then lfL else lfO) g' r' R nc mm F → DN (if ord = 0 then lfL else lfO) g' r' mm nc' u → F u = w → F12_readExpression_L20 n S k fh' I' J' t (nI (trn 2))) → w = nots c v → F12_readExpression_L20 n S k fh' I' J' t 2) := by
    intro q' m' v hv _ fh' I' J' R g' r' nc' F mm u d1 d2 d3 d4 d5 d6 d7 d8 w hw ew
    refine hw fh' I' J' (R ++ List.replicate c (28, 0)) g' r' nc' _ mm u d1 d2 (by rw [List.append_assoc]; exact d3) (fun e he => ?_) d5 (LCx.app (rep_L nc c) d6) d7 ?_
    · rcases List.mem_append.mp he with h | h
      · exact d4 e h
      · rw [rep_m e h]; decide
    · show itN c (F u) = w
      rw [d8, ew, (itN_n hv c).1]
  by_cases y : aS b z q1 = 40
  · rw [if_pos y] at hX
    have k0 : aK b z q1 ≠ 0 := by rw [aS_k (by omega) y]; decide
    have up := aF_up k0
    have kz := (aE_gt k0).2.2
    obtain ⟨fh, rfl⟩ : ∃ g, fh = g + 1 := ⟨fh - 1, by omega⟩
    refine x_0 h19 ?_
    unfold F12_readPlain
    refine ⟨fun _ => ⟨fun h => absurd y (es.mp h), fun _ => ?_⟩, fun h => absurd ((isW_not hT).mpr nt3) h⟩
    refine x_open (o := 31) hn htI hG k0 (Or.inl rfl) hbr (fun cb I' J' a1 a2 => ?_) (fun cb I' a1 a2 a3 a4 => ?_)
    · rw [if_neg (by omega)] at hX
      have uz := aF_le (b := b) a2.2.1
      refine ih 0 (by decide) (br + 1) (aE b z q1) m nc _ g r I' J' fh 0 (by omega) (by omega) (hF.trans a1) a2 (Or.inr ⟨_, _, rfl, by show 0 < clv 0; decide⟩) (fun _ => ⟨by show some 31 ≠ some 32; decide, fun h => by cases h⟩) (Or.inl ⟨by decide, rfl⟩) (by omega) ⟨fun x e => hX.1 x (by rw [e]), fun q' m' v e fh' I2 J2 R g' r' nc' F mm u c1 c2 c3 c4 c5 c6 c7 c8 => ?_⟩
      rw [e] at hX
      have ok := aP_ok hz f 0 (br + 1) _ _ _ _ _ (by decide) a2.2.1 e
      have c1 : 4 * (z - aF b z q') + 2 ≤ fh' := c1
      obtain ⟨fh', rfl⟩ : ∃ g, fh' = g + 1 := ⟨fh' - 1, by omega⟩
      have e31 : innr (R ++ (31, 0) :: (List.replicate c (28, 0) ++ pl)) = some 31 := by rw [innr_R R _ (fun e he => (c4 e he).2.2)]; rfl
      have no := ok.2.2.2.2.2.1 rfl
      have n4 : ¬ aX b z q' 4 = some 0 := fun h => by have := no.1; rw [aOp0, if_pos h] at this; exact absurd this (by decide)
      have n5 : ¬ aX b z q' 5 = some 0 := fun h => by have := no.2; rw [aOp1, if_pos h] at this; exact absurd this (by decide)
      refine x_2 c3.2.2.1 ?_
      unfold F12_behindTest F12_behindTest_128
      refine ⟨fun h => absurd ((isW_and c3.1).mpr n5) h, fun _ => ⟨fun _ => sp_inner hn c3.2.2.2.2.2.2.2.1.2.1 c3.2.2.2.2.2.2.2.1.2.2.1 c3.2.2.2.2.2.2.2.1.2.2.2.1 ?_, fun h => absurd ((isW_or c3.1).mpr n4) h⟩⟩
      rw [e31]
      refine ⟨fun _ => ?_, fun h => absurd h (by decide)⟩
      refine x_close (o := 31) (c := 41) (l := 1) (F := F) (nc := nc) (K := fun I J => F12_readExpression_L20 n S k fh' I J t 2) hn (ht.fr c2) c3 (Or.inl rfl) ⟨by decide, by decide⟩ ⟨by decide, by decide⟩ cb (fun e he => ⟨by have := (c4 e he).1; exact this, (c4 e he).2⟩) c6 c7 (fun y41 I3 J3 g3 r3 nc3 d1 d2 d3 d4 => ?_) (fun y41 I3 d1 d2 d3 d4 => ?_)
      · have hX2 := hX.2 (aE b z q') m' (nots c v) (by show (if aS b z q' = 41 then (.inr (aE b z q', m', nots c v) : aR3) else .inl (aF b z q')) = _; rw [if_pos y41])
        have uz3 := aF_le (b := b) d2.2.1
        have k3 : aK b z q' ≠ 0 := by rw [aS_k (by omega) y41]; decide
        have up3 := aF_up k3
        refine fin (aE b z q') m' v (ok.2.2.2.2.1 (by decide)) (fun _ _ _ => trivial) fh' I3 J3 [] g3 r3 nc3 (fun v => v) nc (F u) (by omega) (c2.trans d1) d2 (fun e he => by cases he) (fun i hi => ?_) ⟨rfl, fun _ => rfl⟩ d4 c8 _ hX2 rfl
        obtain ⟨e1, e2⟩ := d3 i hi
        obtain ⟨e3, e4⟩ := c5 i hi
        exact ⟨e1.trans e3, e2.trans e4⟩
      · exact x_bad hn (hX.1 (aF b z q') (by show (if aS b z q' = 41 then (.inr (aE b z q', m', nots c v) : aR3) else .inl (aF b z q')) = _; rw [if_neg y41])) (c2.trans d1) d2 d3 d4 (by omega) 2
    · rw [if_pos (by omega)] at hX
      exact x_bad hn (hX.1 _ rfl) (hF.trans a1) a2 a3 a4 (by omega) 0
  · rw [if_neg y] at hX
    refine ih 3 (by decide) br q1 m nc _ g r I J fh 0 (by omega) hbr hF hG (rep_s (by decide) hst c) (fun h => by omega) (Or.inr (Or.inr ⟨by decide, rfl, nt3, y⟩)) hfh ⟨fun x e => hX.1 x (by rw [e]), fun q2 m2 v2 e fh2 I2 J2 R2 g2 r2 nc2 F2 mm2 u2 c1 c2 c3 c4 c5 c6 c7 c8 => ?_⟩
    rw [e] at hX
    have ok := aP_ok hz f 3 br _ _ _ _ _ (by decide) hq e
    have c1 : 4 * (z - aF b z q2) + 3 ≤ fh2 := c1
    obtain ⟨fh2, rfl⟩ : ∃ g, fh2 = g + 1 := ⟨fh2 - 1, by omega⟩
    have no := ok.2.2.2.2.2.2.2.1 rfl
    have e2 : innr (R2 ++ (List.replicate c (28, 0) ++ pl)) = innr pl := by rw [innr_R R2 _ (fun e he => (c4 e he).2.2), ei]
    have ecm : cmpd (R2 ++ (List.replicate c (28, 0) ++ pl)) = false := by rw [cmpd_R R2 _ (fun e he => bnd5 (by have := (c4 e he).1; exact this)), rep_c hst]
    refine x_3n hn c3 no.1 no.2 (fun _ _ => ?_) (fun h => absurd (by rw [← e2]; exact h) hin.1) (fun h h2 => absurd h2 (hin.2 (by rw [← e2]; exact h)))
    refine x_cmp (F := F2) (nc := nc) hn (ht.fr c2) c3 (rep_s (by decide) hst c) ecm (fun e he => ⟨by have := (c4 e he).1; exact this, (c4 e he).2⟩) c6 c7 (fun hc I3 J3 g3 r3 nc3 d1 d2 d3 d4 => ?_) (fun hc I3 d1 d2 d3 d4 => ?_)
    · have hX : XH n S k t b z ord I0 J0 2 br nc pl g r (if aC b z q2 = 0 then (.inl (aF b z q2) : aR3) else match aP b z ord f 3 br (aE b z q2) m2 with
        | .inl x => .inl x
        | .inr (q3, m3, v3) => .inr (q3, m3, nots c (vBin (aC b z q2) v2 v3))) := hX
      rw [if_neg hc] at hX
      obtain ⟨k3, c7', c9⟩ := aC_k hc
      have k0 : aK b z q2 ≠ 0 := by rw [k3]; decide
      have up := aF_up k0
      have kz := (aE_gt k0).2.2
      have uz := aF_le (b := b) d2.2.1
      have b4 : bnd (aC b z q2 + 18) = 4 := by
        rcases (show aC b z q2 = 7 ∨ aC b z q2 = 8 ∨ aC b z q2 = 9 by omega) with h | h | h <;> rw [h] <;> rfl
      refine ih 3 (by decide) br (aE b z q2) m2 nc3 _ g3 r3 I3 J3 fh2 1 (by omega) hbr (c2.trans d1) d2 (Or.inr ⟨_, _, rfl, by rw [b4]; decide⟩) (fun h => by omega) (Or.inr (Or.inl ⟨by decide, rfl⟩)) (by omega) ⟨fun x e => hX.1 x (by rw [e]), fun q3 m3 v3 e fh3 I4 J4 R4 g4 r4 nc4 F4 mm4 u4 x1 x2 x3 x4 x5 x6 x7 x8 => ?_⟩
      rw [e] at hX
      have ok3 := aP_ok hz f 3 br _ _ _ _ _ (by decide) d2.2.1 e
      have x1 : 4 * (z - aF b z q3) + 3 ≤ fh3 := x1
      obtain ⟨fh3, rfl⟩ : ∃ g, fh3 = g + 1 := ⟨fh3 - 1, by omega⟩
      have no3 := ok3.2.2.2.2.2.2.2.1 rfl
      have e3 : innr (R4 ++ (aC b z q2 + 18, 0) :: (List.replicate c (28, 0) ++ pl)) = innr pl := by
        rw [innr_R R4 _ (fun e he => (x4 e he).2.2)]
        show (if 31 ≤ aC b z q2 + 18 then some (aC b z q2 + 18) else innr (List.replicate c (28, 0) ++ pl)) = _
        rw [if_neg (by omega), ei]
      have ecm3 : cmpd (R4 ++ (aC b z q2 + 18, 0) :: (List.replicate c (28, 0) ++ pl)) = true := by
        rw [cmpd_R R4 _ (fun e he => bnd5 (by have := (x4 e he).1; exact this))]
        show (if aC b z q2 + 18 ≤ 24 then _ else decide (aC b z q2 + 18 ≤ 27)) = true
        rw [if_neg (by omega)]
        exact decide_eq_true (by omega)
      refine x_3n hn x3 no3.1 no3.2 (fun _ _ => ?_) (fun h => absurd (by rw [← e3]; exact h) hin.1) (fun h h2 => absurd h2 (hin.2 (by rw [← e3]; exact h)))
      unfold F12_behindSum_163
      refine sp_compd hn x3.2.2.2.2.2.2.2.1.2.1 x3.2.2.2.2.2.2.2.1.2.2.1 x3.2.2.2.2.2.2.2.1.2.2.2.1 ?_
      rw [ecm3]
      refine fun _ => ⟨fun h => absurd h (by decide), fun _ => ?_⟩
      have hX2 := hX.2 q3 m3 (nots c (vBin (aC b z q2) v2 v3)) rfl
      have dl3 := d4.lt
      have l2 : LCx (if ord = 0 then lfL else lfO) g4 r4 [(aC b z q2 + 18, 0)] nc nc3 (fun x => vBin (aC b z q2) v2 x) := by
        refine ⟨nc, fun x => x, ⟨rfl, fun _ => rfl⟩, Or.inr (Or.inl ⟨by show 20 ≤ aC b z q2 + 18; omega, by show aC b z q2 + 18 ≤ 27; omega, v2, ?_, fun x => ?_⟩)⟩
        · rw [← c8]; exact d4.cg fun i _ i2 => x5 i i2
        · show vBin (aC b z q2) v2 x = vBin (aC b z q2 + 18 - 18) v2 x
          rw [show aC b z q2 + 18 - 18 = aC b z q2 by omega]
      refine fin q3 m3 (vBin (aC b z q2) v2 v3) (vTF.cmp ⟨c7', c9⟩) (fun _ _ _ => trivial) fh3 I4 J4 (R4 ++ [(aC b z q2 + 18, 0)]) g4 r4 nc4 _ mm4 u4 (by omega) x2 (by rw [List.append_assoc]; exact x3) (fun e he => ?_) (fun i hi => ?_) (LCx.app l2 x6) x7 ?_ _ hX2 rfl
      · rcases List.mem_append.mp he with h | h
        · obtain ⟨y1, y2, y3⟩ := x4 e h
          exact ⟨by have : clv 3 = 5 := rfl
                    omega, y2, y3⟩
        · rw [List.mem_singleton.mp h]
          exact ⟨by rw [b4]; decide, by show 20 ≤ aC b z q2 + 18; omega, by show aC b z q2 + 18 ≤ 30; omega⟩
      · obtain ⟨e1, e2⟩ := x5 i (by omega)
        obtain ⟨e3, e4⟩ := d3 i hi
        obtain ⟨e5, e6⟩ := c5 i hi
        exact ⟨(e1.trans e3).trans e5, (e2.trans e4).trans e6⟩
      · show vBin (aC b z q2) v2 (F4 u4) = _
        rw [x8]
    · exact x_bad hn (hX.1 (aF b z q2) (by show (if aC b z q2 = 0 then (.inl (aF b z q2) : aR3) else _) = _; rw [if_pos hc])) (c2.trans d1) d2 d3 d4 (by omega) 1
theorem sp_ex (ht : MTp b z (I0 61) (I0 70)) (hn : 1001 < n) (hord : I0 61 20 = nI ord) (hord2 : ord ≤ 1) (h76 : ∀ i, i < 12 → J0 76 i = w76.getD i 0) (h77 : ∀ i, i < 8 → J0 77 i = w77.getD i 0) : ∀ f wh, wh ≤ 5 → XS n S k t b z ord I0 J0 f wh := by
  have hz := ht.1
  intro f
  induction f with
  | zero => intro wh hw br q m nc pl g r I J fh v2 h1 h2; omega
  | succ f ih =>
    intro wh hw br q m nc pl g r I J fh v2 h1 h2 hF hG hst hin hv hfh hX
    have eP : aP b z ord (f + 1) wh br q m = (if wh = 2 then aPl b z (aP b z ord f 0) (aP b z ord f 3) br q m else if wh = 5 then aPt b z ord (aP b z ord f 3) br q m
      else match aP b z ord f (wh + 1) br q m with
      | .inl x => .inl x
      | .inr (q', m', v) => aL b z (aP b z ord f (wh + 1) br) wh 400 q' m' v) := rfl
    rw [eP] at hX
    by_cases w2 : wh = 2
    · subst w2
      rw [if_pos rfl] at hX
      have ev : v2 = 0 := by
        rcases hv with h | h | h
        · exact h.2
        · omega
        · omega
      subst ev
      exact x_plain ht hn (by omega) h2 ih hF hG hst (hin (by decide)) hfh hX
    · rw [if_neg w2] at hX
      by_cases w5 : wh = 5
      · subst w5
        rw [if_pos rfl] at hX
        obtain ⟨fh, rfl⟩ : ∃ g, fh = g + 1 := ⟨fh - 1, by omega⟩
        have key := x_part (fh := fh) ht hn hord hord2 h76 h77 (by omega) h2 (ih 3 (by decide)) hF hG (by omega) hX
        rcases hv with h | h | h
        · omega
        · rw [h.2]; exact x_1 hG.2.2.1 key
        · rw [h.2.1]
          refine x_0 hG.2.2.1 ?_
          unfold F12_readPlain
          have es : V12_isSign S I J 40 = 0 ↔ ¬ aS b z q = 40 := isS hG.1 (c := 40) (by decide) (by decide)
          exact ⟨fun _ => ⟨fun _ => key, fun y => absurd (es.mpr h.2.2.2) y⟩, fun y => absurd ((isW_not hG.1).mpr h.2.2.1) y⟩
      · rw [if_neg w5] at hX
        have hw4 : wh = 0 ∨ wh = 1 ∨ wh = 3 ∨ wh = 4 := by omega
        have ecl : clv wh ≤ clv (wh + 1) ∧ trn (wh + 1) = trn wh := by rcases hw4 with w | w | w | w <;> rw [w] <;> decide
        refine ih (wh + 1) (by omega) br q m nc pl g r I J fh v2 (by omega) h2 hF hG (hst.mono ecl.1) (fun h => hin (by omega)) ?_ hfh ⟨fun x e => hX.1 x (by rw [e]), fun q' m' v e fh' I' J' R g' r' nc' F mm u c1 c2 c3 c4 c5 c6 c7 c8 => ?_⟩
        · rcases hv with h | h | h
          · exact Or.inl ⟨by omega, h.2⟩
          · exact Or.inr (Or.inl ⟨by omega, h.2⟩)
          · exact Or.inr (Or.inr ⟨by omega, h.2⟩)
        · rw [e] at hX
          rw [ecl.2] at c1 ⊢
          have ok := aP_ok hz f (wh + 1) br _ _ _ _ _ (by omega) hG.2.1 e
          exact x_loop ht hn hz hw4 (by omega) h2 (ih (wh + 1) (by omega)) hin hst hX 400 fh' q' m' nc' R g' r' I' J' F mm u v c2 c3 (fun e he => ⟨Nat.le_trans ecl.1 (c4 e he).1, (c4 e he).2⟩) c5 c6 c7 c8 c1 (fun h => ok.2.2.2.2.2.2.1 (by omega)) rfl
end EQ
