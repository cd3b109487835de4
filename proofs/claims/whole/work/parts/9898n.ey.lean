/-! the model reads as the grammar says: loops, brackets, all -/
def itN : Nat → tV → tV
  | 0, v => v
  | k + 1, v => itN k (vNot v)
theorem itN_n {v : tV} (h : vTF v) : ∀ k, itN k v = nots k v ∧ itN (k + 1) v = nots (k + 1) v := by
  obtain ⟨h1, h2⟩ := h.not
  intro k
  induction k with
  | zero => exact ⟨rfl, rfl⟩
  | succ k ih =>
    refine ⟨ih.2, ?_⟩
    show itN k (vNot (vNot v)) = nots (k + 2) v
    rw [h2, ih.1]
    unfold nots
    rw [show (k + 2) % 2 = k % 2 by omega]
theorem rep_L {lf : (Nat → Int64) → Nat → Nat → Option Int64} {g r : Nat → Nat} (a : Nat) : ∀ k, LCx lf g r (List.replicate k (28, 0)) a a (itN k) := by
  intro k
  induction k with
  | zero => exact ⟨rfl, fun _ => rfl⟩
  | succ k ih =>
    rw [List.replicate_succ]
    exact ⟨a, itN k, ih, Or.inl ⟨rfl, rfl, fun _ => rfl⟩⟩
section EY
variable {n : Nat} {S : tSH} {b : Nat → Nat} {z ord : Nat} {I0 : tHI} {J0 : tHJ} {k : tHI → tHJ → Prop} {t : Int32}
theorem x_loop (ht : MTp b z (I0 61) (I0 70)) (hn : 1001 < n) (hz : z ≤ 400) {f wh br nc : Nat} {pl : List (Nat × Nat)} {g r : Nat → Nat} {res : aR3} (hw : wh = 0 ∨ wh = 1 ∨ wh = 3 ∨ wh = 4) (hf : 30 ≤ f + (wh + 1) + 3 * br) (hbr : br ≤ 8) (ih : XS n S k t b z ord I0 J0 f (wh + 1)) (hin : wh ≤ 2 → innr pl ≠ some 32 ∧ (innr pl = none → ¬ t = 0)) (hst : stops (clv wh) pl) (hX : XH n S k t b z ord I0 J0 wh br nc pl g r res) : ∀ (lf fh q m nc1 : Nat) (R : List (Nat × Nat)) (g1 r1 : Nat → Nat) (I : tHI) (J : tHJ) (F : tV → tV) (mm : Nat) (u v : tV), MFr I0 I J0 J → MG b z I J q m br nc1 (R ++ pl) g1 r1 → (∀ e, e ∈ R → clv wh ≤ bnd e.1 ∧ 20 ≤ e.1 ∧ e.1 ≤ 30) → (∀ i, i < nc → g1 i = g i ∧ r1 i = r i) → LCx (if ord = 0 then lfL else lfO) g1 r1 R nc mm F → DN (if ord = 0 then lfL else lfO) g1 r1 mm nc1 u → F u = v → 4 * (z - aF b z q) + trn wh ≤ fh → (wh = 0 → aOp b z 1 q = 0) → aL b z (aP b z ord f (wh + 1) br) wh lf q m v = res → F12_readExpression_L20 n S k fh I J t (nI (trn wh)) := by
  intro lf
  induction lf with
  | zero =>
    intro fh q m nc1 R g1 r1 I J F mm u v c1 c2 c3 c4 c5 c6 c7 c8 c9 e
    exact hX.2 q m v e.symm fh I J R g1 r1 nc1 F mm u c8 c1 c2 c3 c4 c5 c6 c7
  | succ lf ihl =>
    intro fh q m nc1 R g1 r1 I J F mm u v c1 c2 c3 c4 c5 c6 c7 c8 c9 e
    have e : (if aOp b z wh q = 0 then (.inr (q, m, v) : aR3) else match aP b z ord f (wh + 1) br (aE b z q) m with
      | .inl x => .inl x
      | .inr (q', m', v') => aL b z (aP b z ord f (wh + 1) br) wh lf q' m' (aJ (aOp b z wh q) v v')) = res := e
    by_cases ho : aOp b z wh q = 0
    · rw [if_pos ho] at e
      exact hX.2 q m v e.symm fh I J R g1 r1 nc1 F mm u c8 c1 c2 c3 c4 c5 c6 c7
    · rw [if_neg ho] at e
      have qz := (aE_gt (aOp_k ho)).2.1 c2.2.1
      have hb : ∀ x, aP b z ord f (wh + 1) br (aE b z q) m = .inl x → ∀ I' J', MFr I0 I' J0 J' → ¬ I' 61 19 = 0 → I' 61 18 = nI x → k I' J' := by
        intro x hx
        rw [hx] at e
        exact hX.1 x e.symm
      have hg : ∀ q' m' v', aP b z ord f (wh + 1) br (aE b z q) m = .inr (q', m', v') → ∀ (fh' : Nat) (I' : tHI) (J' : tHJ) (R' : List (Nat × Nat)) (g' r' : Nat → Nat) (nc' : Nat) (F' : tV → tV) (mm' : Nat) (u' : tV), 4 * (z - aF b z q') + trn wh ≤ fh' → MFr I0 I' J0 J' → MG b z I' J' q' m' br nc' (R' ++ pl) g' r' → (∀ e, e ∈ R' → clv wh ≤ bnd e.1 ∧ 20 ≤ e.1 ∧ e.1 ≤ 30) → (∀ i, i < nc → g' i = g i ∧ r' i = r i) → LCx (if ord = 0 then lfL else lfO) g' r' R' nc mm' F' → DN (if ord = 0 then lfL else lfO) g' r' mm' nc' u' → F' u' = aJ (aOp b z wh q) v v' → F12_readExpression_L20 n S k fh' I' J' t (nI (trn wh)) := by
        intro q' m' v' hx fh' I' J' R' g' r' nc' F' mm' u' d1 d2 d3 d4 d5 d6 d7 d8
        rw [hx] at e
        have ok := aP_ok hz f (wh + 1) br _ _ _ _ _ (by omega) qz hx
        exact ihl fh' q' m' nc' R' g' r' I' J' F' mm' u' _ d2 d3 d4 d5 d6 d7 d8 d1 (fun y => ok.2.2.2.2.2.2.1 (by omega)) e
      rcases hw with w | w | w | w
      · subst w
        exact x_opB ht hn (Or.inl rfl) hf hbr ih (hin (by decide)) c1 c2 hst c3 c4 c5 c6 c7 c9 ho c8 hb hg
      · subst w
        exact x_opB ht hn (Or.inr rfl) hf hbr ih (hin (by decide)) c1 c2 hst c3 c4 c5 c6 c7 c9 ho c8 hb hg
      · subst w
        exact x_opA ht hn (Or.inl rfl) hf hbr ih c1 c2 hst c3 c4 c5 c6 c7 ho c8 hb hg
      · subst w
        exact x_opA ht hn (Or.inr rfl) hf hbr ih c1 c2 hst c3 c4 c5 c6 c7 ho c8 hb hg
/-- an opening bracket -/
theorem x_open (hn : 1001 < n) {I : tHI} {J : tHJ} {q m br nc o : Nat} {pl : List (Nat × Nat)} {g r : Nat → Nat} {K : tHI → tHJ → Prop} (ht : MTp b z (I 61) (I 70)) (h : MG b z I J q m br nc pl g r) (hk : aK b z q ≠ 0) (ho : o = 31 ∨ o = 32) (hbr : br ≤ 8) (hy : br < 8 → ∀ I' J', MFr I I' J J' → MG b z I' J' (aE b z q) m (br + 1) nc ((o, 0) :: pl) g r → K I' J') (hx : ¬ br < 8 → ∀ I', MFr I I' J J → ¬ I' 61 19 = 0 → I' 61 18 = nI (aF b z q) → MPi I' nc pl g r → K I' J) : F12_openBracket n S I J (nI o) K := by
  obtain ⟨hT, hq, h19, h18, h26, hm, h30, hP, hl, hp⟩ := id h
  have hz := ht.1
  have kz := (aE_gt hk).2.2
  have up := aF_up hk
  unfold F12_openBracket F12_openBracket_41
  rw [h30]
  have e8 : (8 : Int32) ≤ nI br ↔ 8 ≤ br := qle (a := 8) (by omega) (by omega)
  by_cases c : br < 8
  · rw [if_neg (fun y => by have := e8.mp y; omega)]
    refine must_y (by decide) h19 (MG.next ht hn h (fun I1 J1 a1 g1 => ?_))
    obtain ⟨gT, gq, g19, g18, g26, gm, g30, gP, gl, gp⟩ := g1
    refine ⟨fun y => absurd g19 y, fun _ => ?_⟩
    have e30 : I1 61 30 + 1 = nI (br + 1) := by rw [g30, nI_1]
    rw [e30]
    have p29 : (uI I1 61 30 (nI (br + 1))) 61 29 = nI pl.length := by rw [uIe, upn (by decide)]; exact gP.2.1
    have uz : aF b z (aE b z q) ≤ z := aF_le gq
    refine sp_mpush (a := 0) p29 (by omega) (hy c _ _ (((((MFr.rf I J).ad a1).w61 (by decide)).wa (by decide)).wa (by decide) |>.w61 (by decide)) ?_)
    have gP1 : MPi (uI I1 61 30 (nI (br + 1))) nc pl g r := by
      obtain ⟨a1, a2, a3, a4, a5, a6⟩ := gP
      exact ⟨by rw [uIe, upn (by decide)]; exact a1, p29, by rw [uIn (by decide), uIn (by decide)]; exact a3, a4, a5, by rw [uIn (by decide), uIn (by decide)]; exact a6⟩
    have ep : pend ((o, 0) :: pl) = pend pl := by
      show (if o ≤ 28 then 1 else 0) + pend pl = _
      rw [if_neg (by omega)]; omega
    have p2 := gP1.push (o := o) (a := 0) ⟨by omega, by omega⟩ (by omega) (by omega) (by rw [ep]; omega)
    have x61 : ∀ y, y ≠ 29 → y ≠ 30 → (uI (uI (uI (uI I1 61 30 (nI (br + 1))) 74 pl.length (nI o)) 75 pl.length (nI 0)) 61 29 (nI (pl.length + 1))) 61 y = I1 61 y := fun y h1 h2 => by
      rw [uIe, upn h1, uIn (by decide), uIn (by decide), uIe, upn h2]
    have x30 : (uI (uI (uI (uI I1 61 30 (nI (br + 1))) 74 pl.length (nI o)) 75 pl.length (nI 0)) 61 29 (nI (pl.length + 1))) 61 30 = nI (br + 1) := by
      rw [uIe, upn (by decide), uIn (by decide), uIn (by decide), uIe, upe]
    obtain ⟨t1, t2, t3, t4⟩ := gT
    refine ⟨⟨by rw [x61 14 (by decide) (by decide)]; exact t1, by rw [x61 15 (by decide) (by decide)]; exact t2, by rw [x61 16 (by decide) (by decide)]; exact t3, t4⟩, gq, by rw [x61 19 (by decide) (by decide)]; exact g19, by rw [x61 18 (by decide) (by decide)]; exact g18, by rw [x61 26 (by decide) (by decide)]; exact g26, gm, x30, p2, ?_, ?_⟩
    · show pl.length + 1 ≤ _
      omega
    · rw [ep]; exact gp
  · rw [if_pos (e8.mpr (by omega))]
    refine must_n rfl h19 ?_
    rw [hT.1]
    have b19 : ¬ (uI (uI I 61 19 1) 61 18 (nI (aF b z q))) 61 19 = 0 := by rw [uIe, upn (by decide), uIe, upe]; decide
    refine ⟨fun _ => hx c _ (((MFr.rf I J).w61 (by decide)).w61 (by decide)) b19 (by rw [uIe, upe]) ?_, fun y => absurd y b19⟩
    obtain ⟨a1, a2, a3, a4, a5, a6⟩ := hP
    exact ⟨by rw [uIe, upn (by decide), uIe, upn (by decide)]; exact a1, by rw [uIe, upn (by decide), uIe, upn (by decide)]; exact a2, by rw [uIn (by decide), uIn (by decide), uIn (by decide), uIn (by decide)]; exact a3, a4, a5, by rw [uIn (by decide), uIn (by decide), uIn (by decide), uIn (by decide)]; exact a6⟩
/-- what the fault leaves -/
theorem MPi.bad {I : tHI} {nc : Nat} {pl : List (Nat × Nat)} {g r : Nat → Nat} {v w : Int32} (h : MPi I nc pl g r) : MPi (uI (uI I 61 19 v) 61 18 w) nc pl g r := by
  obtain ⟨a1, a2, a3, a4, a5, a6⟩ := h
  exact ⟨by rw [uIe, upn (by decide), uIe, upn (by decide)]; exact a1, by rw [uIe, upn (by decide), uIe, upn (by decide)]; exact a2, by rw [uIn (by decide), uIn (by decide), uIn (by decide), uIn (by decide)]; exact a3, a4, a5, by rw [uIn (by decide), uIn (by decide), uIn (by decide), uIn (by decide)]; exact a6⟩
/-- a closing bracket, or a fault -/
theorem x_close (hn : 1001 < n) {I : tHI} {J : tHJ} {q m br nc nc1 mm o c l : Nat} {pl R : List (Nat × Nat)} {g1 r1 : Nat → Nat} {F : tV → tV} {u : tV} {K : tHI → tHJ → Prop} (ht : MTp b z (I 61) (I 70)) (h : MG b z I J q m (br + 1) nc1 (R ++ (o, 0) :: pl) g1 r1) (ho : o = 31 ∨ o = 32) (hl1 : 1 ≤ l ∧ l ≤ 6) (hc : 0 < c ∧ c < 256) (hbr : br < 8) (hR : ∀ e, e ∈ R → l ≤ bnd e.1 ∧ 20 ≤ e.1 ∧ e.1 ≤ 30) (hL : LCx (if ord = 0 then lfL else lfO) g1 r1 R nc mm F) (hD : DN (if ord = 0 then lfL else lfO) g1 r1 mm nc1 u) (hy : aS b z q = c → ∀ (I' : tHI) (J' : tHJ) (g' r' : Nat → Nat) (nc' : Nat), MFr I I' J J' → MG b z I' J' (aE b z q) m br nc' pl g' r' → (∀ i, i < nc → g' i = g1 i ∧ r' i = r1 i) → DN (if ord = 0 then lfL else lfO) g' r' nc nc' (F u) → K I' J') (hx : aS b z q ≠ c → ∀ I', MFr I I' J J → ¬ I' 61 19 = 0 → I' 61 18 = nI (aF b z q) → MPi I' nc1 (R ++ (o, 0) :: pl) g1 r1 → K I' J) : F12_must n S I J (V12_isSign S I J (nI c)) (fun I50 J51 => ((¬ (I50 61 19) = 0 → K I50 J51) ∧ ((I50 61 19) = 0 → F12_settle n S I50 J51 (nI l) (fun I53 J54 => K (uI (uI I53 61 29 ((I53 61 29) - 1)) 61 30 (((uI I53 61 29 ((I53 61 29) - 1)) 61 30) - 1)) J54)))) := by
  obtain ⟨hT, hq, h19, h18, h26, hm, h30, hP, hl, hp⟩ := id h
  have hz := ht.1
  have es := isS (S := S) hT hc.1 hc.2
  by_cases e : aS b z q = c
  · have hk : aK b z q ≠ 0 := by rw [aS_k hc.1 e]; decide
    refine must_y (fun y => es.mp y e) h19 (MG.next ht hn h (fun I1 J1 a1 g1' => ?_))
    obtain ⟨gT, gq, g19, g18, g26, gm, g30, gP, gl, gp⟩ := g1'
    refine ⟨fun y => absurd g19 y, fun _ => sp_msett hl1.1 hl1.2 hn gP (fun I2 m2 p2 => ?_)⟩
    have hst : stops l ((o, 0) :: pl) := Or.inr ⟨_, _, rfl, by
      have : bnd o = 0 := by rcases ho with c | c <;> rw [c] <;> rfl
      show bnd o < l
      omega⟩
    obtain ⟨g2, r2, nc2, s1, s2, s3, s4, s5⟩ := sett_top hst R nc mm nc1 g1 r1 F u hL hD hR
    rw [s1] at p2
    have p2 : MPi I2 nc2 ((o, 0) :: pl) g2 r2 := p2
    have ep : pend ((o, 0) :: pl) = pend pl := by
      show (if o ≤ 28 then 1 else 0) + pend pl = _
      rw [if_neg (by omega)]; omega
    have lp : (R ++ (o, 0) :: pl).length = R.length + (pl.length + 1) := List.length_append
    have i29 : I2 61 29 = nI (pl.length + 1) := p2.2.1
    have i30 : I2 61 30 = nI (br + 1) := by rw [m2.2 30 (by decide)]; exact g30
    have e29 : I2 61 29 - 1 = nI pl.length := by rw [i29, qpred (by omega)]; rfl
    have e30 : (uI I2 61 29 (I2 61 29 - 1)) 61 30 - 1 = nI br := by rw [uIe, upn (by decide), i30, qpred (by omega)]; rfl
    rw [e30, e29]
    refine hy e _ J1 g2 r2 nc2 (((((MFr.rf I J).ad a1).trans (m2.fr J1)).w61 (by decide)).w61 (by decide)) ?_ s3 s2
    have x61 : ∀ y, y ≠ 29 → y ≠ 30 → y ≠ 23 → (uI (uI I2 61 29 (nI pl.length)) 61 30 (nI br)) 61 y = I1 61 y := fun y h1 h2 h3 => by
      rw [uIe, upn h2, uIe, upn h1]
      exact m2.2 y (fun e => by have : y = 23 ∨ y = 29 := by simpa using e
                                omega)
    have uz : aF b z (aE b z q) ≤ z := aF_le gq
    obtain ⟨t1, t2, t3, t4⟩ := gT
    obtain ⟨a1', a2', a3', a4', a5', a6'⟩ := p2
    refine ⟨⟨by rw [x61 14 (by decide) (by decide) (by decide)]; exact t1, by rw [x61 15 (by decide) (by decide) (by decide)]; exact t2, by rw [x61 16 (by decide) (by decide) (by decide)]; exact t3, t4⟩, gq, by rw [x61 19 (by decide) (by decide) (by decide)]; exact g19, by rw [x61 18 (by decide) (by decide) (by decide)]; exact g18, by rw [x61 26 (by decide) (by decide) (by decide)]; exact g26, gm, by rw [uIe, upe], ⟨?_, ?_, ?_, ?_, ?_, ?_⟩, by omega, by omega⟩
    · rw [uIe, upn (by decide), uIe, upn (by decide)]; exact a1'
    · rw [uIe, upn (by decide), uIe, upe]
    · rw [uIn (by decide), uIn (by decide), uIn (by decide), uIn (by decide)]; exact a3'.2.2.2.2.2
    · omega
    · omega
    · rw [uIn (by decide), uIn (by decide), uIn (by decide), uIn (by decide)]; exact a6'
  · refine must_n (es.mpr e) h19 ?_
    rw [hT.1]
    have b19 : ¬ (uI (uI I 61 19 1) 61 18 (nI (aF b z q))) 61 19 = 0 := by rw [uIe, upn (by decide), uIe, upe]; decide
    exact ⟨fun _ => hx e _ (((MFr.rf I J).w61 (by decide)).w61 (by decide)) b19 (by rw [uIe, upe]) hP.bad, fun y => absurd y b19⟩
/-- behind a sum, with no operator -/
theorem x_3n (hn : 1001 < n) {I : tHI} {J : tHJ} {q m br nc fh : Nat} {pl : List (Nat × Nat)} {g r : Nat → Nat} (h : MG b z I J q m br nc pl g r) (h3 : aOp b z 3 q = 0) (h4 : aOp b z 4 q = 0) (hA : innr pl ≠ some 32 → (innr pl = none → ¬ t = 0) → F12_behindSum_163 n S (fun x I J => F12_readExpression_L20 n S k fh I J t x) I J) (hB : innr pl = some 32 → F12_must n S I J (V12_isSign S I J (nI 93)) (fun I50 J51 => ((¬ (I50 61 19) = 0 → F12_readExpression_L20 n S k fh I50 J51 t 3) ∧ ((I50 61 19) = 0 → F12_settle n S I50 J51 (nI 5) (fun I53 J54 => F12_readExpression_L20 n S k fh (uI (uI I53 61 29 ((I53 61 29) - 1)) 61 30 (((uI I53 61 29 ((I53 61 29) - 1)) 61 30) - 1)) J54 t 3))))) (hC : innr pl = none → t = 0 → F12_readExpression_L20 n S k fh I J t 4) : F12_readExpression_L20 n S k (fh + 1) I J t 3 := by
  obtain ⟨hT, hq, h19, h18, h26, hm, h30, hP, hl, hp⟩ := id h
  have eo : aOm b z q = -1 := by unfold aOm; rw [if_neg (fun y => y h3), if_neg (fun y => y h4)]
  have hi := innr_b pl hP.2.2.1.b
  refine x_3 h19 ?_
  unfold F12_behindSum F12_behindSum_150
  rw [op_sum hT, eo]
  refine ⟨fun _ => sp_inner hn hP.2.1 hP.2.2.1 hP.2.2.2.1 ?_, fun y => absurd rfl y⟩
  cases hx : innr pl with
  | none =>
    refine ⟨fun _ => ⟨fun y => absurd rfl y, fun _ => ⟨fun y => hA (by rw [hx]; exact fun e => by cases e) (fun _ => y), fun y => hC hx y⟩⟩, fun y => absurd y (by decide)⟩
  | some o =>
    rcases hi o hx with e | e
    · subst e
      refine ⟨fun _ => ⟨fun _ => hA (by rw [hx]; decide) (fun y => by rw [hx] at y; cases y), fun y => absurd y (by decide)⟩, fun y => absurd y (by decide)⟩
    · subst e
      exact ⟨fun y => absurd rfl y, fun _ => hB hx⟩
theorem innr_R : ∀ (R pl : List (Nat × Nat)), (∀ e, e ∈ R → e.1 ≤ 30) → innr (R ++ pl) = innr pl := by
  intro R
  induction R with
  | nil => intro pl _; rfl
  | cons e t ih =>
    intro pl h
    show (if 31 ≤ e.1 then some e.1 else innr (t ++ pl)) = _
    have := h e (List.mem_cons_self ..)
    rw [if_neg (by omega)]
    exact ih pl (fun x hx => h x (List.mem_cons_of_mem _ hx))
theorem cmpd_R : ∀ (R pl : List (Nat × Nat)), (∀ e, e ∈ R → e.1 ≤ 24) → cmpd (R ++ pl) = cmpd pl := by
  intro R
  induction R with
  | nil => intro pl _; rfl
  | cons e t ih =>
    intro pl h
    show (if e.1 ≤ 24 then cmpd (t ++ pl) else decide (e.1 ≤ 27)) = _
    rw [if_pos (h e (List.mem_cons_self ..))]
    exact ih pl (fun x hx => h x (List.mem_cons_of_mem _ hx))
theorem bnd5 {o : Nat} (h : 5 ≤ bnd o) : o ≤ 24 := by
  unfold bnd at h
  by_cases g1 : 31 ≤ o
  · rw [if_pos g1] at h; omega
  rw [if_neg g1] at h
  by_cases g2 : o = 30
  · rw [if_pos g2] at h; omega
  by_cases g3 : o = 29
  · rw [if_neg g2, if_pos g3] at h; omega
  rw [if_neg g2, if_neg g3] at h
  by_cases g4 : o = 28
  · rw [if_pos g4] at h; omega
  rw [if_neg g4] at h
  by_cases g5 : 25 ≤ o
  · rw [if_pos g5] at h; omega
  · omega
theorem bnd3 {o : Nat} (h : bnd o < 4) : 28 ≤ o := by
  unfold bnd at h
  by_cases g1 : 31 ≤ o
  · omega
  rw [if_neg g1] at h
  by_cases g2 : o = 30
  · omega
  by_cases g3 : o = 29
  · omega
  rw [if_neg g2, if_neg g3] at h
  by_cases g4 : o = 28
  · omega
  rw [if_neg g4] at h
  by_cases g5 : 25 ≤ o
  · rw [if_pos g5] at h; omega
  rw [if_neg g5] at h
  by_cases g6 : 22 ≤ o
  · rw [if_pos g6] at h; omega
  · rw [if_neg g6] at h; omega
theorem rep_s {pl : List (Nat × Nat)} {l : Nat} (hl : 4 ≤ l) (h : stops 3 pl) (c : Nat) : stops l (List.replicate c (28, 0) ++ pl) := by
  cases c with
  | zero => exact h.mono (by omega)
  | succ c => exact Or.inr ⟨(28, 0), List.replicate c (28, 0) ++ pl, rfl, by show 3 < l; omega⟩
theorem rep_c {pl : List (Nat × Nat)} (h : stops 3 pl) (c : Nat) : cmpd (List.replicate c (28, 0) ++ pl) = false := by
  cases c with
  | zero =>
    show cmpd pl = false
    rcases h with e | ⟨x, t, e, e2⟩
    · rw [e]; rfl
    · rw [e]
      have := bnd3 (o := x.1) (by omega)
      show (if x.1 ≤ 24 then cmpd t else decide (x.1 ≤ 27)) = false
      rw [if_neg (by omega)]
      exact decide_eq_false (by omega)
  | succ c => rfl
theorem rep_m {c : Nat} : ∀ e, e ∈ List.replicate c ((28, 0) : Nat × Nat) → e = (28, 0) := fun e h => (List.mem_replicate.mp h).2
/-- the nots -/
theorem x_nots (ht : MTp b z (I0 61) (I0 70)) (hn : 1001 < n) {m br nc : Nat} {pl : List (Nat × Nat)} {g r : Nat → Nat} : ∀ (lf fh q c : Nat) (I : tHI) (J : tHJ), MFr I0 I J0 J → MG b z I J q m br nc (List.replicate c (28, 0) ++ pl) g r → 4 * (z - aF b z q) + 4 ≤ fh → (∀ (fh' : Nat) (I' : tHI) (J' : tHJ), 4 * (z - aF b z (aNt b z lf q).1) + 4 ≤ fh' → MFr I0 I' J0 J' → MG b z I' J' (aNt b z lf q).1 m br nc (List.replicate (c + (aNt b z lf q).2) (28, 0) ++ pl) g r → F12_readExpression_L20 n S k fh' I' J' t 0) → F12_readExpression_L20 n S k fh I J t 0 := by
  have hz := ht.1
  intro lf
  induction lf with
  | zero => intro fh q c I J hF hG hf hk; exact hk fh I J hf hF hG
  | succ lf ih =>
    intro fh q c I J hF hG hf hk
    by_cases x : aX b z q 6 = some 0
    · have e : aNt b z (lf + 1) q = ((aNt b z lf (aE b z q)).1, (aNt b z lf (aE b z q)).2 + 1) := by
        show (if aX b z q 6 = some 0 then _ else _) = _
        rw [if_pos x]
      rw [e] at hk
      have k0 : aK b z q ≠ 0 := by rw [aX_k x]; decide
      have kz := (aE_gt k0).2.2
      have up := aF_up k0
      obtain ⟨fh, rfl⟩ : ∃ g, fh = g + 1 := ⟨fh - 1, by omega⟩
      obtain ⟨hT, hq, h19, h18, h26, hm, h30, hP, hl, hp⟩ := hG
      refine x_0 h19 ?_
      unfold F12_readPlain
      refine ⟨fun y => absurd x ((isW_not hT).mp y), fun _ => ?_⟩
      have ep : pend ((28, 0) :: (List.replicate c (28, 0) ++ pl)) = 1 + pend (List.replicate c (28, 0) ++ pl) := rfl
      refine sp_mpush (o := 28) (a := 0) hP.2.1 (by omega) ?_
      have p2 := hP.push (o := 28) (a := 0) ⟨by omega, by omega⟩ (by omega) (by omega) (by rw [ep]; omega)
      have fr2 : MFr I (uI (uI (uI I 74 (List.replicate c (28, 0) ++ pl).length (nI 28)) 75 (List.replicate c (28, 0) ++ pl).length (nI 0)) 61 29 (nI ((List.replicate c (28, 0) ++ pl).length + 1))) J J := (((MFr.rf I J).wa (by decide)).wa (by decide)).w61 (by decide)
      have x61 : ∀ y, y ≠ 29 → (uI (uI (uI I 74 (List.replicate c (28, 0) ++ pl).length (nI 28)) 75 (List.replicate c (28, 0) ++ pl).length (nI 0)) 61 29 (nI ((List.replicate c (28, 0) ++ pl).length + 1))) 61 y = I 61 y := fun y h1 => by rw [uIe, upn h1, uIn (by decide), uIn (by decide)]
      generalize (uI (uI (uI I 74 (List.replicate c (28, 0) ++ pl).length (nI 28)) 75 (List.replicate c (28, 0) ++ pl).length (nI 0)) 61 29 (nI ((List.replicate c (28, 0) ++ pl).length + 1))) = I2 at p2 fr2 x61 ⊢
      have hT2 : MT b z (I2 61) (J 61 17) q := by
        obtain ⟨a1, a2, a3, a4⟩ := hT
        exact ⟨by rw [x61 14 (by decide)]; exact a1, by rw [x61 15 (by decide)]; exact a2, by rw [x61 16 (by decide)]; exact a3, a4⟩
      refine MG_next ((ht.fr hF).fr fr2) hn hT2 hq (by rw [x61 19 (by decide)]; exact h19) (by rw [x61 18 (by decide)]; exact h18) (by rw [x61 26 (by decide)]; exact h26) hm (by rw [x61 30 (by decide)]; exact h30) p2 (by show (List.replicate c (28, 0) ++ pl).length + 1 ≤ _; omega) (by rw [ep]; omega) (fun I3 J3 a3 g3 => ?_)
      have ub : aF b z (aE b z q) ≤ z := aF_le g3.2.1
      refine ih fh (aE b z q) (c + 1) I3 J3 ((hF.trans fr2).ad a3) (by rw [List.replicate_succ]; exact g3) (by omega) (fun fh' I' J' c1 c2 c3 => hk fh' I' J' c1 c2 ?_)
      rw [show c + 1 + (aNt b z lf (aE b z q)).2 = c + ((aNt b z lf (aE b z q)).2 + 1) by omega] at c3
      exact c3
    · have e : aNt b z (lf + 1) q = (q, 0) := by
        show (if aX b z q 6 = some 0 then _ else _) = _
        rw [if_neg x]
      rw [e] at hk
      exact hk fh I J hf hF hG
end EY
