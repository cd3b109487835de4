/-! the model reads as the grammar says -/
def MPb (I : tHI) (nc : Nat) (pl : List (Nat × Nat)) : Prop := I 61 23 = nI nc ∧ I 61 29 = nI pl.length ∧ PL (I 74) (I 75) pl ∧ pl.length ≤ 400 ∧ nc + pend pl ≤ 400
section EB
variable {n : Nat} {S : tSH} {J : tHJ}
theorem settB_L {I0 : tHI} {k : tHI → tHJ → Prop} {l : Nat} (hl0 : 1 ≤ l) (hl : l ≤ 6) : ∀ (pl : List (Nat × Nat)) (f nc : Nat) (I : tHI), pl.length < f → MSe I0 I → MPb I nc pl → (∀ I', MSe I0 I' → k I' J) → F12_settle_L0 n S k f I J (nI l) := by
  intro pl
  induction pl with
  | nil =>
    intro f nc I hf hM h hk
    obtain ⟨f, rfl⟩ : ∃ g, f = g + 1 := ⟨f - 1, by have : (0 : Nat) < f := hf; omega⟩
    show F12_settle_0 n S k (F12_settle_L0 n S k f) I J (nI l)
    unfold F12_settle_0 F12_settle_101
    rw [h.2.1]
    exact ⟨fun _ => hk I hM, fun y => absurd (show nI (List.length ([] : List (Nat × Nat))) ≤ 0 by decide) y⟩
  | cons e t ih =>
    intro f nc I hf hM h hk
    obtain ⟨f, rfl⟩ : ∃ g, f = g + 1 := ⟨f - 1, by have : (e :: t).length = t.length + 1 := rfl; omega⟩
    have hf : t.length + 1 < f + 1 := hf
    obtain ⟨o, a⟩ := e
    obtain ⟨h1, h2, ⟨p1, p2, p3, p4, p5, p6⟩, h4, h5⟩ := h
    have h2 : I 61 29 = nI (t.length + 1) := h2
    have h4 : t.length + 1 ≤ 400 := h4
    have h5 : nc + ((if o ≤ 28 then 1 else 0) + pend t) ≤ 400 := h5
    have p1 : I 74 t.length = nI o := p1
    have p2 : I 75 t.length = nI a := p2
    have p3 : o ≤ 32 := p3
    have p4 : 20 ≤ o := p4
    have p5 : a < 400 := p5
    have p6 : PL (I 74) (I 75) t := p6
    have hin : vp_in (nI t.length) 400 := (qin (by omega)).mpr (by omega)
    show F12_settle_0 n S k (F12_settle_L0 n S k f) I J (nI l)
    unfold F12_settle_0 F12_settle_101 F12_settle_63
    have e29 : (uI I 61 29 (I 61 29 - 1)) 61 29 = nI t.length := by rw [uIe, upe, h2, qpred (by omega)]; rfl
    have e74 : (uI I 61 29 (I 61 29 - 1)) 74 = I 74 := uIn (by decide)
    have e75 : (uI I 61 29 (I 61 29 - 1)) 75 = I 75 := uIn (by decide)
    have e23 : (uI I 61 29 (I 61 29 - 1)) 61 23 = nI nc := by rw [uIe, upn (by decide)]; exact h1
    rw [e29, e74, e75, e23, h2, show nI (t.length + 1) - 1 = nI t.length by rw [qpred (by omega)]; rfl, qn (by omega), p1, p2, qn (show a < 2147483648 by omega), bnd_v (by omega)]
    have hb := bnd_le o
    have hM2 : MSe I0 (uI I 61 29 (nI t.length)) := hM.w61 (by decide)
    have hc : ∀ m : Nat, m < 100 → (nI o = nI m ↔ o = m) := fun m hm => qeq (by omega) (by omega)
    have patch : o = 29 ∨ o = 30 → F12_settle_L0 n S k f (uI (uI I 61 29 (nI t.length)) 73 a (nI nc)) J (nI l) ∨ bnd o < l := by
      intro ho
      by_cases c : bnd o < l
      · exact Or.inr c
      · refine Or.inl ?_
        refine ih f nc _ (by omega) (hM2.wa (by decide)) ⟨?_, ?_, ?_, by omega, ?_⟩ hk
        · rw [uIn (by decide), uIe, upn (by decide)]; exact h1
        · rw [uIn (by decide), uIe, upe]
        · rw [uIn (by decide), uIn (by decide), uIn (by decide), uIn (by decide)]; exact p6
        · have : ¬ o ≤ 28 := by rcases ho with y | y <;> omega
          rw [if_neg this] at h5; omega
    refine ⟨fun y => absurd ((qle (b := 0) (by omega) (by omega)).mp y) (by omega), fun _ => ⟨hin, fun y => ?_, fun y => ?_⟩⟩
    · exact hk I hM
    · have y : ¬ bnd o < l := fun g => y ((qlt (by omega) (by omega)).mpr g)
      refine ⟨hin, fun c => ?_, fun c => ⟨hin, fun c2 => ⟨hin, ?_⟩, fun c2 => ?_⟩⟩
      · exact ⟨hin, (qin (by omega)).mpr (by omega), (patch (Or.inl ((hc 29 (by omega)).mp c))).resolve_right y⟩
      · have no : ¬ (o = 29 ∨ o = 30) := by
          intro g
          rcases g with g | g
          · exact c ((hc 29 (by omega)).mpr g)
          · exact c2 ((hc 30 (by omega)).mpr g)
        have o28 : o ≤ 28 := by
          have y2 := y
          unfold bnd at y2
          by_cases g : 31 ≤ o
          · rw [if_pos g] at y2
            omega
          · omega
        rw [if_pos o28] at h5
        refine sp_memit (nc := nc) (a := 0) (by rw [uIe, upn (by decide)]; exact h1) (by omega) ?_
        refine ih f (nc + 1) _ (by omega) (((hM2.wa (by decide)).wa (by decide)).w61 (by decide)) ⟨?_, ?_, ?_, by omega, by omega⟩ hk
        · rw [uIe, upe]
        · rw [uIe, upn (by decide), uIn (by decide), uIn (by decide), uIe, upe]
        · rw [uIn (by decide), uIn (by decide), uIn (by decide), uIn (by decide), uIn (by decide), uIn (by decide), uIn (by decide), uIn (by decide)]; exact p6
      · exact ⟨hin, (qin (by omega)).mpr (by omega), (patch (Or.inr ((hc 30 (by omega)).mp c2))).resolve_right y⟩
theorem x_badb (hn : 1001 < n) {I0 : tHI} {J0 : tHJ} {k : tHI → tHJ → Prop} {t : Int32} {I : tHI} {nc x : Nat} {pl : List (Nat × Nat)} (hk : ∀ I' J', MFr I0 I' J0 J' → ¬ I' 61 19 = 0 → I' 61 18 = nI x → k I' J') (hf : MFr I0 I J0 J) (h19 : ¬ I 61 19 = 0) (h18 : I 61 18 = nI x) (hP : MPb I nc pl) {fh : Nat} (h1 : 1 ≤ fh) (v : Int32) : F12_readExpression_L20 n S k fh I J t v := by
  obtain ⟨fh, rfl⟩ : ∃ g, fh = g + 1 := ⟨fh - 1, by omega⟩
  show F12_readExpression_20 n S k (F12_readExpression_L20 n S k fh) I J t v
  unfold F12_readExpression_20 F12_readExpression_76 F12_settle
  have := hP.2.2.2.1
  refine ⟨fun _ => settB_L (l := 1) (by decide) (by decide) pl n nc I (by omega) (MSe.rf I) hP (fun I' m' => hk I' J (hf.trans (m'.fr J)) ?_ ?_), fun y => absurd y h19⟩
  · rw [m'.2 19 (by decide)]; exact h19
  · rw [m'.2 18 (by decide)]; exact h18
end EB
section EP
variable {n : Nat} {S : tSH} {b : Nat → Nat} {z ord : Nat} {I0 : tHI} {J0 : tHJ} {k : tHI → tHJ → Prop} {t : Int32}
theorem MG.r73 {I : tHI} {J : tHJ} {q m br nc v : Nat} {pl : List (Nat × Nat)} {g r : Nat → Nat} (h : MG b z I J q m br (nc + 1) pl g r) (hv : v < 100000) : MG b z (uI I 73 nc (nI v)) J q m br (nc + 1) pl g (upN r nc v) := by
  obtain ⟨hT, hq, h19, h18, h26, hm, h30, ⟨a1, a2, a3, a4, a5, a6⟩, hl, hp⟩ := h
  have x61 : (uI I 73 nc (nI v)) 61 = I 61 := uIn (by decide)
  unfold MG MPi
  rw [x61, uIn (show 74 ≠ 73 by decide), uIn (show 75 ≠ 73 by decide), uIn (show 72 ≠ 73 by decide)]
  refine ⟨hT, hq, h19, h18, h26, hm, h30, ⟨a1, a2, a3, a4, a5, fun i hi => ?_⟩, hl, hp⟩
  obtain ⟨c1, c2, c3, c4⟩ := a6 i hi
  rw [uIe]
  by_cases e : i = nc
  · subst e; rw [upe, upNe]; exact ⟨c1, rfl, c3, hv⟩
  · rw [upn e, upNn e]; exact ⟨c1, c2, c3, c4⟩
theorem x_part (ht : MTp b z (I0 61) (I0 70)) (hn : 1001 < n) (hord : I0 61 20 = nI ord) (hord2 : ord ≤ 1) (h76 : ∀ i, i < 12 → J0 76 i = w76.getD i 0) (h77 : ∀ i, i < 8 → J0 77 i = w77.getD i 0) {f br q m nc fh : Nat} {pl : List (Nat × Nat)} {g r : Nat → Nat} {I : tHI} {J : tHJ} (hf : 30 ≤ f + 1 + 5 + 3 * br) (hbr : br ≤ 8) (ih : XS n S k t b z ord I0 J0 f 3) (hF : MFr I0 I J0 J) (hG : MG b z I J q m br nc pl g r) (hfh : 4 * (z - aF b z q) + 3 ≤ fh) (hX : XH n S k t b z ord I0 J0 5 br nc pl g r (aPt b z ord (aP b z ord f 3) br q m)) : F12_readPart n S I J (fun x I J => F12_readExpression_L20 n S k fh I J t x) := by
  obtain ⟨hT, hq, h19, h18, h26, hm, h30, hP, hl, hp⟩ := id hG
  have hz := ht.1
  have htI := ht.fr hF
  have es : V12_isSign S I J 91 = 0 ↔ ¬ aS b z q = 91 := isS hT (c := 91) (by decide) (by decide)
  have e20 : I 61 20 = nI ord := by rw [hF.2.1 20 (by decide)]; exact hord
  have kr := aK_r (b := b) (z := z) q
  have e2 : nI (aK b z q) = 2 ↔ aK b z q = 2 := qeq (b := 2) (by omega) (by omega)
  unfold aPt at hX
  unfold F12_readPart
  refine ⟨fun y => ?_, fun y => ?_⟩
  · have ns : ¬ aS b z q = 91 := es.mp y
    rw [if_neg ns] at hX
    have h35 : ∀ o, o = aX b z q (if ord = 0 then 8 else 7) → F12_readPart_35 n S (fun x I J => F12_readExpression_L20 n S k fh I J t x) I J (pV o) := by
      intro o eo
      have hs11 : (if ord = 0 then 8 else 7) < 11 := by split <;> omega
      have eW : aW b z ord q = aWo o := by unfold aW; rw [eo]
      have x100 : ∀ i, o = some i → i < 100 := fun i h => aX_100 hs11 i (by rw [← eo]; exact h)
      have xb : ∀ i, o = some i → i < (WL (if ord = 0 then 8 else 7)).length := fun i h => aX_b hs11 i (by rw [← eo]; exact h)
      have xk : ∀ i, o = some i → aK b z q = 1 := fun i h => aX_k (i := (if ord = 0 then 8 else 7)) (o := i) (by rw [← eo]; exact h)
      -- digits
      have eD : (if I 61 16 = 2 then (if 0 < lg_cmp (J 61 17) 1000 then (0 : Int32) else 1) else 0) = 0 ↔ ¬ (aK b z q = 2 ∧ aN b z q ≤ 1000) := by
        rw [hT.2.2.1]
        by_cases c : aK b z q = 2
        · rw [if_pos (e2.mpr c)]
          obtain ⟨m1, m2⟩ := hT.2.2.2.2.1 c
          have ec : 0 < lg_cmp (J 61 17) 1000 ↔ ¬ aN b z q ≤ 1000 := by
            rw [lg_cmp_gt, Int64.lt_iff_toInt_lt, show (1000 : Int64).toInt = 1000 by decide +kernel]
            by_cases d : aN b z q ≤ 1000
            · have := m1 d
              exact ⟨fun h => by omega, fun h => absurd d h⟩
            · have := m2 (by omega)
              exact ⟨fun _ => d, fun _ => by omega⟩
          by_cases d : aN b z q ≤ 1000
          · rw [if_neg (fun h => ec.mp h d)]
            exact ⟨fun h => absurd h (by decide), fun h => absurd ⟨c, d⟩ h⟩
          · rw [if_pos (ec.mpr d)]
            exact ⟨fun _ h => d h.2, fun _ => rfl⟩
        · rw [if_neg (fun h => c (e2.mp h))]
          exact ⟨fun _ h => c h.1, fun _ => rfl⟩
      unfold F12_readPart_35 F12_readPart_155
      -- a fault
      have fx : ∀ (x : Nat) (I' : tHI) (J' : tHJ) (nc' : Nat) (g' r' : Nat → Nat), (if (aW b z ord q ≠ 0 ∨ (aK b z q = 2 ∧ aN b z q ≤ 1000)) ∧ m < 50 then
    (if aW b z ord q = 0 then (.inr (aE b z q, m + 1, fun _ => some (nI (aN b z q)).toInt64) : aR3)
     else if ord = 0 ∨ aW b z ord q < 7 then .inr (aE b z q, m + 1, fun w => some (w (aW b z ord q - 1)))
     else if aK b z (aE b z q) = 2 ∧ aN b z (aE b z q) ≤ (if aW b z ord q = 7 then 11 else 5) then .inr (aE b z (aE b z q), m + 1, fun w => some (w ((if aW b z ord q = 7 then 6 else 18) + aN b z (aE b z q))))
     else .inl (aF b z (aE b z q)))
  else .inl (aF b z q)) = .inl x → MFr I I' J J' → ¬ I' 61 19 = 0 → I' 61 18 = nI x → MPi I' nc' pl g' r' → ∀ v, F12_readExpression_L20 n S k fh I' J' t v := fun x I' J' nc' g' r' e a1 a2 a3 a4 v => x_bad hn (hX.1 x e) (hF.trans a1) a2 a3 a4 (by omega) v
      -- a leaf that stands
      have fg : ∀ (q' : Nat) (v : tV) (I' : tHI) (J' : tHJ) (g' r' : Nat → Nat), (if (aW b z ord q ≠ 0 ∨ (aK b z q = 2 ∧ aN b z q ≤ 1000)) ∧ m < 50 then
    (if aW b z ord q = 0 then (.inr (aE b z q, m + 1, fun _ => some (nI (aN b z q)).toInt64) : aR3)
     else if ord = 0 ∨ aW b z ord q < 7 then .inr (aE b z q, m + 1, fun w => some (w (aW b z ord q - 1)))
     else if aK b z (aE b z q) = 2 ∧ aN b z (aE b z q) ≤ (if aW b z ord q = 7 then 11 else 5) then .inr (aE b z (aE b z q), m + 1, fun w => some (w ((if aW b z ord q = 7 then 6 else 18) + aN b z (aE b z q))))
     else .inl (aF b z (aE b z q)))
  else .inl (aF b z q)) = .inr (q', m + 1, v) → aF b z q < aF b z q' → MFr I I' J J' → MG b z I' J' q' (m + 1) br (nc + 1) pl g' r' → (∀ i, i < nc → g' i = g i ∧ r' i = r i) → g' nc < 20 → (∀ w, ∃ x, (if ord = 0 then lfL else lfO) w (g' nc) (r' nc) = some x ∧ v w = some x) → F12_readExpression_L20 n S k fh I' J' t 3 := by
        intro q' v I' J' g' r' e u a1 a2 a3 a4 a5
        have uz : aF b z q' ≤ z := aF_le a2.2.1
        exact hX.2 q' (m + 1) v e fh I' J' [] g' r' (nc + 1) (fun v => v) nc v (by show _ + 3 ≤ fh; omega) (hF.trans a1) a2 (fun e he => by cases he) a3 ⟨rfl, fun _ => rfl⟩ ((DM.leaf a4 a5).hm (by omega)) rfl
      cases o with
      | none =>
        have ew0 : aW b z ord q = 0 := eW
        have s1 : pV none = -1 := rfl
        rw [s1, if_pos rfl, if_pos rfl]
        have hv : (if (if I 61 16 = 2 then (if 0 < lg_cmp (J 61 17) 1000 then (0 : Int32) else 1) else 0) = 0 then (0 : Int32) else 1) = 0 ↔ ¬ (aK b z q = 2 ∧ aN b z q ≤ 1000) := by
          by_cases d : aK b z q = 2 ∧ aN b z q ≤ 1000
          · rw [if_neg (fun h => eD.mp h d)]; exact ⟨fun h => absurd h (by decide), fun h => absurd d h⟩
          · rw [if_pos (eD.mpr d)]; exact ⟨fun _ => d, fun _ => rfl⟩
        have ea : ∃ a, a < 100000 ∧ (if (if I 61 16 = 2 then (if 0 < lg_cmp (J 61 17) 1000 then (0 : Int32) else 1) else 0) = 0 then 0 else (J 61 17).toInt32) = nI a ∧ (aK b z q = 2 ∧ aN b z q ≤ 1000 → a = aN b z q) := by
          by_cases d : aK b z q = 2 ∧ aN b z q ≤ 1000
          · refine ⟨aN b z q, by omega, ?_, fun _ => rfl⟩
            rw [if_neg (fun h => eD.mp h d)]
            have hJ := (hT.2.2.2.2.1 d.1).1 d.2
            refine Int32.toInt_inj.mp ?_
            rw [tl_32 (by omega) (by omega), hJ, qi (by omega)]
          · exact ⟨0, by omega, by rw [if_pos (eD.mpr d)]; rfl, fun h => absurd h d⟩
        obtain ⟨a, ha, ea, ea2⟩ := ea
        rw [ea]
        have tail : ∀ (I' : tHI) (J' : tHJ), F12_readExpression_L20 n S k fh I' J' t 3 → (((I' 61 20) = 0 → F12_readExpression_L20 n S k fh I' J' t 3) ∧ (¬ (I' 61 20) = 0 → (((-1 : Int32) < 7 → F12_readExpression_L20 n S k fh I' J' t 3) ∧ (¬ (-1 : Int32) < 7 → ((¬ (I' 61 19) = 0 → F12_readExpression_L20 n S k fh I' J' t 3) ∧ ((I' 61 19) = 0 → F12_number n S I' J' 0 (if (-1 : Int32) = 7 then (11 : Int64) else 5) (fun x31 I29 J30 => vp_in ((I' 61 23) - 1) 400 ∧ F12_readExpression_L20 n S k fh (uI I29 73 ((I' 61 23) - 1).toNatClampNeg x31) J30 t 3))))))) := fun I' J' h => ⟨fun _ => h, fun _ => ⟨fun _ => h, fun y => absurd (by decide) y⟩⟩
        refine x_leaf (o := 0) hn htI hG (by omega) ha (fun y => ?_) (fun y1 y2 I' J' a1 a2 => tail I' J' ?_) (fun y I' a1 a2 a3 a4 => tail I' J ?_)
        · have d : aK b z q = 2 ∧ aN b z q ≤ 1000 := Classical.not_not.mp (fun h => y (hv.mpr h))
          rw [d.1]; decide
        · have d : aK b z q = 2 ∧ aN b z q ≤ 1000 := Classical.not_not.mp (fun h => y1 (hv.mpr h))
          refine fg _ _ I' J' _ _ (by rw [if_pos ⟨Or.inr d, y2⟩, if_pos ew0]) (aF_up (by rw [d.1]; decide)) a1 a2 (fun i hi => ⟨upNn (by omega), upNn (by omega)⟩) (by rw [upNe]; omega) (fun w => ?_)
          rw [upNe, upNe, ea2 d]
          refine ⟨(nI (aN b z q)).toInt64, ?_, rfl⟩
          by_cases o0 : ord = 0
          · rw [if_pos o0]; rfl
          · rw [if_neg o0]; rfl
        · refine fx _ I' J nc g r ?_ a1 a2 a3 a4 3
          rw [if_neg]
          intro h
          rcases y with y | y
          · rcases h.1 with c | c
            · exact c ew0
            · exact hv.mp y c
          · exact y h.2
      | some i =>
        have ewi : aW b z ord q = i + 1 := eW
        have hi := xb i rfl
        have hi100 := x100 i rfl
        have hk1 := xk i rfl
        have s1 : pV (some i) = nI (i + 1) := rfl
        have sn : ¬ nI (i + 1) = -1 := fun h => by
          have := congrArg Int32.toInt h
          rw [qi (by omega), qneg] at this
          omega
        have nd : ¬ (aK b z q = 2 ∧ aN b z q ≤ 1000) := fun h => by omega
        rw [s1, if_neg sn, if_neg sn, if_pos (eD.mpr nd)]
        have l7 : nI (i + 1) < 7 ↔ i + 1 < 7 := qlt (b := 7) (by omega) (by omega)
        have hin : i < 12 := by
          by_cases o0 : ord = 0
          · rw [if_pos o0] at hi; exact hi
          · rw [if_neg o0] at hi; have hi : i < 8 := hi; omega
        have hin8 : ¬ ord = 0 → i < 8 := fun o0 => by rw [if_neg o0] at hi; exact hi
        refine x_leaf (o := i + 1) (a := 0) hn htI hG (by omega) (by omega) (fun _ => by rw [hk1]; decide) (fun _ y2 I' J' a1 a2 => ?_) (fun y I' a1 a2 a3 a4 => ?_)
        · have e20' : I' 61 20 = nI ord := by rw [a1.2.1 20 (by decide)]; exact e20
          have uq : aF b z q < aF b z (aE b z q) := aF_up (by rw [hk1]; decide)
          have plain : ord = 0 ∨ i + 1 < 7 → F12_readExpression_L20 n S k fh I' J' t 3 := by
            intro h
            refine fg (aE b z q) (fun w => some (w (aW b z ord q - 1))) I' J' _ _ (by rw [if_pos ⟨Or.inl (by omega), y2⟩, if_neg (by omega), if_pos (by rw [ewi]; exact h)]) uq a1 a2 (fun i hi => ⟨upNn (by omega), upNn (by omega)⟩) (by rw [upNe]; omega) (fun w => ?_)
            rw [upNe, upNe, ewi]
            refine ⟨w i, ?_, rfl⟩
            by_cases o0 : ord = 0
            · rw [if_pos o0]
              unfold lfL
              rw [if_neg (by omega), if_pos (by omega)]
              rfl
            · rw [if_neg o0]
              unfold lfO
              rw [if_neg (by omega), if_pos (by omega)]
              rfl
          rw [e20']
          refine ⟨fun h => plain (Or.inl ((qeq (b := 0) (by omega) (by omega)).mp h)), fun h => ⟨fun h7 => plain (Or.inr (l7.mp h7)), fun h7 => ⟨fun c => absurd a2.2.2.1 c, fun _ => ?_⟩⟩⟩
          have o0 : ¬ ord = 0 := fun e => h (by rw [e]; rfl)
          have h7 : ¬ i + 1 < 7 := fun e => h7 (l7.mpr e)
          have hi8 := hin8 o0
          have e23 : I' 61 23 - 1 = nI nc := by rw [a2.2.2.2.2.2.2.2.1.1, qpred (by omega)]; rfl
          have hl2 := a2.2.2.2.2.2.2.2.2.2
          have uz := aF_le (b := b) a2.2.1
          rw [e23, qn (by omega)]
          have hvin : vp_in (nI nc) 400 := (qin (by omega)).mpr (by omega)
          have key : ∀ (hi base : Nat) (w : Int64), w.toInt = (hi : Int) → hi ≤ 11 → (if aW b z ord q = 7 then 11 else 5) = hi → (if aW b z ord q = 7 then 6 else 18) = base → (∀ w : Nat → Int64, ∀ a, a ≤ hi → lfO w (i + 1) a = some (w (base + a))) → F12_number n S I' J' 0 w (fun x31 I29 J30 => vp_in (nI nc) 400 ∧ F12_readExpression_L20 n S k fh (uI I29 73 nc x31) J30 t 3) := by
            intro hi base w w1 w2 w3 w4 w5
            refine x_num hn (htI.fr a1) a2 w1 (by omega) (fun c I2 J2 b1 b2 => ⟨hvin, ?_⟩) (fun c v I2 b1 b2 b3 b4 => ⟨hvin, ?_⟩)
            · have u2 : aF b z (aE b z q) < aF b z (aE b z (aE b z q)) := aF_up (by rw [c.1]; decide)
              refine fg (aE b z (aE b z q)) (fun w => some (w ((if aW b z ord q = 7 then 6 else 18) + aN b z (aE b z q)))) _ J2 _ _ ?_ (by omega) ((a1.trans b1).wa (by decide)) (b2.r73 (v := aN b z (aE b z q)) (by omega)) (fun i hi => ?_) ?_ (fun w => ?_)
              · rw [if_pos ⟨Or.inl (by omega), y2⟩, if_neg (by omega), if_neg (by omega), if_pos (by rw [w3]; exact c)]
              · rw [upNn (by omega), upNn (by omega), upNn (by omega)]; exact ⟨rfl, rfl⟩
              · rw [upNe]; omega
              · rw [upNe, upNe, if_neg o0]
                exact ⟨_, w5 w _ c.2, by rw [w4]⟩
            · refine x_badb hn (hX.1 (aF b z (aE b z q)) ?_) (((hF.trans a1).trans b1).wa (by decide)) (by rw [uIn (by decide)]; exact b2) (by rw [uIn (by decide)]; exact b3) (nc := nc + 1) (pl := pl) ?_ (by omega) 3
              · rw [if_pos ⟨Or.inl (by omega), y2⟩, if_neg (by omega), if_neg (by omega), if_neg (by rw [w3]; exact c)]
              · obtain ⟨d1, d2, d3, d4, d5, -⟩ := b4
                exact ⟨by rw [uIn (by decide)]; exact d1, by rw [uIn (by decide)]; exact d2, by rw [uIn (by decide), uIn (by decide)]; exact d3, d4, d5⟩
          rcases (show i = 6 ∨ i = 7 by omega) with c | c
          · subst c
            rw [show (if nI (6 + 1) = (7 : Int32) then (11 : Int64) else 5) = 11 from if_pos rfl]
            refine key 11 6 11 (by decide +kernel) (by omega) (by rw [if_pos ewi]) (by rw [if_pos ewi]) (fun w a ha => ?_)
            unfold lfO
            rw [if_neg (by decide), if_neg (by decide), if_pos rfl, if_pos (by omega)]
          · subst c
            rw [show (if nI (7 + 1) = (7 : Int32) then (11 : Int64) else 5) = 5 from if_neg (by decide)]
            refine key 5 18 5 (by decide +kernel) (by omega) (by rw [if_neg (by omega)]) (by rw [if_neg (by omega)]) (fun w a ha => ?_)
            unfold lfO
            rw [if_neg (by decide), if_neg (by decide), if_neg (by decide), if_pos rfl, if_pos (by omega)]
        · have yb : ¬ m < 50 := by
            rcases y with y | y
            · exact absurd y (by decide)
            · exact y
          have hb : ∀ v, F12_readExpression_L20 n S k fh I' J t v := fun v => fx _ I' J nc g r (by rw [if_neg (fun h => yb h.2)]) a1 a2 a3 a4 v
          exact ⟨fun _ => hb 3, fun _ => ⟨fun _ => hb 3, fun _ => ⟨fun _ => hb 3, fun c => absurd c a2⟩⟩⟩
    refine ⟨fun y2 => ?_, fun y2 => ?_⟩
    · have o0 : ord = 0 := by rw [e20] at y2; exact (qeq (b := 0) (by omega) (by omega)).mp y2
      refine sp_part hn hT (fun i hi => by rw [hF.2.2.1 76 (by decide)]; exact h76 i hi) (h35 _ (by rw [if_pos o0]))
    · have o0 : ¬ ord = 0 := fun e => y2 (by rw [e20, e]; rfl)
      refine sp_opart hn hT (fun i hi => by rw [hF.2.2.1 77 (by decide)]; exact h77 i hi) (h35 _ (by rw [if_neg o0]))
  · have y : aS b z q = 91 := Classical.not_not.mp (fun h => y (es.mpr h))
    rw [if_pos y] at hX
    have k0 : aK b z q ≠ 0 := by rw [aS_k (by omega) y]; decide
    have up := aF_up k0
    have kz := (aE_gt k0).2.2
    refine x_open (o := 32) hn htI hG k0 (Or.inr rfl) hbr (fun c I' J' a1 a2 => ?_) (fun c I' a1 a2 a3 a4 => ?_)
    · rw [if_neg (by omega)] at hX
      have uz := aF_le (b := b) a2.2.1
      refine ih (br + 1) (aE b z q) m nc _ g r I' J' fh 1 (by omega) (by omega) (hF.trans a1) a2 (Or.inr ⟨_, _, rfl, by show 0 < clv 3; decide⟩) (fun h => by omega) (Or.inr (Or.inl ⟨by decide, rfl⟩)) (by omega) ⟨fun x e => hX.1 x (by rw [e]), fun q' m' v e fh' I2 J2 R g' r' nc' F mm u c1 c2 c3 c4 c5 c6 c7 c8 => ?_⟩
      rw [e] at hX
      have ok := aP_ok hz f 3 (br + 1) _ _ _ _ _ (by decide) a2.2.1 e
      have c1 : 4 * (z - aF b z q') + 3 ≤ fh' := c1
      obtain ⟨fh', rfl⟩ : ∃ g, fh' = g + 1 := ⟨fh' - 1, by omega⟩
      have ei : innr (R ++ (32, 0) :: pl) = some 32 := by rw [innr_R R _ (fun e he => (c4 e he).2.2)]; rfl
      have no := ok.2.2.2.2.2.2.2.1 rfl
      refine x_3n hn c3 no.1 no.2 (fun h => absurd ei h) (fun _ => x_close (o := 32) (c := 93) (l := 5) (F := F) (nc := nc) hn (ht.fr c2) c3 (Or.inr rfl) ⟨by decide, by decide⟩ ⟨by decide, by decide⟩ c (fun e he => ⟨by have := (c4 e he).1; exact this, (c4 e he).2⟩) c6 c7 (fun y93 I3 J3 g3 r3 nc3 d1 d2 d3 d4 => ?_) (fun y93 I3 d1 d2 d3 d4 => ?_)) (fun h => by rw [ei] at h; cases h)
      · have hX2 := hX.2
        have uz3 := aF_le (b := b) d2.2.1
        have k3 : aK b z q' ≠ 0 := by rw [aS_k (by omega) y93]; decide
        have up3 := aF_up k3
        refine hX2 (aE b z q') m' v (by show (if aS b z q' = 93 then (.inr (aE b z q', m', v) : aR3) else .inl (aF b z q')) = _; rw [if_pos y93]) fh' I3 J3 [] g3 r3 nc3 (fun v => v) nc (F u) (by show _ + 3 ≤ fh'; omega) (c2.trans d1) d2 (fun e he => by cases he) (fun i hi => ?_) ⟨rfl, fun _ => rfl⟩ d4 c8
        obtain ⟨e1, e2⟩ := d3 i hi
        obtain ⟨e3, e4⟩ := c5 i hi
        exact ⟨e1.trans e3, e2.trans e4⟩
      · exact x_bad hn (hX.1 (aF b z q') (by show (if aS b z q' = 93 then (.inr (aE b z q', m', v) : aR3) else .inl (aF b z q')) = _; rw [if_neg y93])) (c2.trans d1) d2 d3 d4 (by omega) 3
    · rw [if_pos (by omega)] at hX
      exact x_bad hn (hX.1 _ rfl) (hF.trans a1) a2 a3 a4 (by omega) 1
end EP
