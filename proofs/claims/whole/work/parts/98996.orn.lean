/-! orders: run by the model -/
def oMf (B X : tHI) : Prop := (∀ x, x ∉ [61, 63, 66, 67] → X x = B x) ∧ (∀ y, y ∉ [8, 34, 38, 42, 43, 44, 51, 52, 54] → X 61 y = B 61 y) ∧ ∀ y, 272 ≤ y → X 66 y = B 66 y
def oM (B : tHI) (s : oT) (X : tHI) : Prop := (X 63 = s.1 ∧ X 61 8 = nI s.2.1 ∧ (∀ y, y < 17 * s.2.1 → X 66 y = s.2.2.1 y) ∧ ∀ y, y < s.2.1 → X 67 y = s.2.2.2.1 y) ∧ (X 61 51 = s.2.2.2.2.1 ∧ X 61 52 = s.2.2.2.2.2) ∧ oMf B X
section ORM
variable {n : Nat} {S S0 : tSH} {I0 B : tHI} {r0 : Nat → Int32} {N NB : Nat} {s : oT}
theorem oMf.sf {X Y : tHI} {J U : tHJ} (h : oMf B X) (f : SFr X Y J U) : oMf B Y := ⟨fun x hx => by rw [f.1 x (fun e => hx (by rw [e]; decide))]; exact h.1 x hx, fun y hy => by rw [f.2.1 y (fun e => hy (by rw [e]; decide)) (fun e => hy (by rw [e]; decide))]; exact h.2.1 y hy, fun y hy => by rw [f.1 66 (by decide)]; exact h.2.2 y hy⟩
theorem oM.sf {X Y : tHI} {J U : tHJ} (h : oM B s X) (f : SFr X Y J U) : oM B s Y := by
  obtain ⟨⟨h1, h2, h3, h4⟩, ⟨h5, h6⟩, h7⟩ := h
  exact ⟨⟨by rw [f.1 63 (by decide)]; exact h1, by rw [f.2.1 8 (by decide) (by decide)]; exact h2, fun y hy => by rw [f.1 66 (by decide)]; exact h3 y hy, fun y hy => by rw [f.1 67 (by decide)]; exact h4 y hy⟩, ⟨by rw [f.2.1 51 (by decide) (by decide)]; exact h5, by rw [f.2.1 52 (by decide) (by decide)]; exact h6⟩, h7.sf f⟩
theorem oM.w54 {X : tHI} (h : oM B s X) {v : Int32} : oM B s (uI X 61 54 v) := h.sf (J := fun _ _ => 0) (U := fun _ _ => 0) ⟨fun x hx => uIn hx, fun y _ c => by rw [uIe, upn c], fun _ _ _ => rfl, fun _ _ => rfl⟩
theorem KpJ.sf {I X : tHI} {J U : tHJ} (f : SFr I X J U) : KpJ J U := fun x hx => f.2.2.1 x (fun q => by subst q; revert hx; decide) (fun q => by subst q; revert hx; decide)
/-- a clause's run once its test holds -/
theorem sp_run125 (hn : 400 < n) (hV : VQ S0 I0 S B) (hF : FO S B r0) (hN : r0 0 = nI N) (hN6 : N ≤ 6) (hB1 : r0 1 = nI NB) (hB12 : NB ≤ 12) (h20 : B 61 20 = 0) (h41 : B 61 41 = 63) {j nc : Nat} {g ra : Nat → Nat} {c : aC5} (hR : MRo (B 87) g ra j nc c) (hnc : nc ≤ 400) (h72 : ∀ i, i < nc → B 72 i = nI (g i) ∧ B 73 i = nI (ra i) ∧ g i < 40 ∧ ra i < 100000) (hj : j < 12) (hk : CLk 1 c) {X : tHI} {J : tHJ} (hM : oM B s X) (h54 : X 61 54 = 0) (hO : oOK r0 s) (hJ : ∀ o, 1 ≤ o → o < 7 → J 80 o = oWs s (o - 1)) (ht : oTest c.2.2.2.2 (oWs s) = true) {k : Int32 → tHI → tHJ → Prop} (hno : oRun S0 I0 N c s = none → ∀ X' J', oMf B X' → (∀ j, j < 9 ∨ 26 ≤ j → X' 63 j = r0 j) → KpJ J J' → k (-3) X' J') (hyes : ∀ s', oRun S0 I0 N c s = some s' → ∀ X' J', oM B s' X' → KpJ J J' → k 0 X' J') : F12_run_125 n S k X J (nI (8 * j)) := by
  obtain ⟨b1, b2, b3, b4, b5, b6, ⟨m0, m7⟩, ⟨m1, m2, m3, m4, m5, m6⟩, ⟨t2, t4, t6⟩, p1, p2, p3⟩ := hR
  have e1 : nI (8 * j) + 1 = nI (8 * j + 1) := nI_add _ 1
  have e3 : nI (8 * j) + 3 = nI (8 * j + 3) := nI_add _ 3
  have sN : s.1 0 = nI N := by rw [hO.2.1 0 (by omega)]; exact hN
  have sB : s.1 1 = nI NB := by rw [hO.2.1 1 (by omega)]; exact hB1
  have g87 : ∀ Y, oM B s Y → Y 87 = B 87 := fun Y h => h.2.2.1 87 (by decide)
  have g20 : ∀ Y, oM B s Y → Y 61 20 = 0 := fun Y h => by rw [h.2.2.2.1 20 (by decide)]; exact h20
  have g72 : ∀ Y, oM B s Y → ∀ i, i < nc → Y 72 i = nI (g i) ∧ Y 73 i = nI (ra i) ∧ g i < 40 ∧ ra i < 100000 := fun Y h i hi => by rw [h.2.2.1 72 (by decide), h.2.2.1 73 (by decide)]; exact h72 i hi
  have gr : ∀ Y, oM B s Y → ∀ j, j < 9 ∨ 26 ≤ j → Y 63 j = r0 j := fun Y h j hj => by rw [h.1.1]; exact hO.2.1 j hj
  unfold F12_run_125
  rw [e1, e3]
  refine sp_sumM (o := c.2.2.1) (r := s.1) (dn := s.2.2.2.2.1) (en := s.2.2.2.2.2) (g := g) (ra := ra) (b1 := b1) (b2 := b2) (nc := nc) (N := N) (B := NB) hn h54 (g20 X hM) (by omega) (by rw [g87 X hM]; exact m1) (by rw [g87 X hM]; exact m2) t2 hnc (g72 X hM) p1 hM.1.1 sN hN6 sB hB12 hJ (fun x4 Y J1 f1 r1 => ?_)
  have hMY := hM.sf f1
  -- the first sum's outcome
  have o1 : (Y 61 54 = 0 ∧ oMx c.2.2.1 (oWs s) x4) ∨ (Y 61 54 = 1 ∧ oArg c.2.2.1 (oWs s) = none) := by
    unfold SMr at r1
    cases ho : c.2.2.1 with
    | none => rw [ho] at r1; exact Or.inl ⟨r1.2, r1.1⟩
    | some v =>
      rw [ho] at r1
      have r1 : (match v (oWs s) with
        | none => Y 61 54 = 1
        | some y => x4 = y.toInt32 ∧ Y 61 54 = 0) := r1
      cases hv : v (oWs s) with
      | none => rw [hv] at r1; exact Or.inr ⟨r1, oArg_no hv⟩
      | some y => rw [hv] at r1; exact Or.inl ⟨r1.2, y, hv, r1.1⟩
  rcases o1 with ⟨o1, q1⟩ | ⟨o1, q1⟩
  · refine sp_sumM (o := c.2.2.2.1) (r := s.1) (dn := s.2.2.2.2.1) (en := s.2.2.2.2.2) (g := g) (ra := ra) (b1 := b3) (b2 := b4) (nc := nc) (N := N) (B := NB) hn o1 (g20 Y hMY) (by omega) (by rw [g87 Y hMY]; exact m3) (by rw [g87 Y hMY]; exact m4) t4 hnc (g72 Y hMY) p2 hMY.1.1 sN hN6 sB hB12 (fun o a b => by rw [f1.2.2.1 80 (by decide) (by decide)]; exact hJ o a b) (fun x7 Z J2 f2 r2 => ?_)
    have hMZ := hMY.sf f2
    have o2 : (Z 61 54 = 0 ∧ oMx c.2.2.2.1 (oWs s) x7) ∨ (Z 61 54 = 1 ∧ oArg c.2.2.2.1 (oWs s) = none) := by
      unfold SMr at r2
      cases ho : c.2.2.2.1 with
      | none => rw [ho] at r2; exact Or.inl ⟨r2.2, r2.1⟩
      | some v =>
        rw [ho] at r2
        have r2 : (match v (oWs s) with
          | none => Z 61 54 = 1
          | some y => x7 = y.toInt32 ∧ Z 61 54 = 0) := r2
        cases hv : v (oWs s) with
        | none => rw [hv] at r2; exact Or.inr ⟨r2, oArg_no hv⟩
        | some y => rw [hv] at r2; exact Or.inl ⟨r2.2, y, hv, r2.1⟩
    have kj : KpJ J J2 := (KpJ.sf f1).trans (KpJ.sf f2)
    rcases o2 with ⟨o2, q2⟩ | ⟨o2, q2⟩
    · refine ⟨fun _ => ⟨(qin (by omega)).mpr (by omega), ?_⟩, fun y => absurd o2 y⟩
      rw [qn (by omega), g87 Z hMZ, m0]
      have eR := oRun_m (S := S0) (I := I0) (N := N) hk hO.1 hN6 ht q1 q2
      have z63 : Z 63 = s.1 := hMZ.1.1
      have z1 : Z 1 = B 1 := hMZ.2.2.1 1 (by decide)
      have z89 : ∀ x, 89 ≤ x → Z x = B x := fun x hx => hMZ.2.2.1 x (fun q => by
        have : x = 61 ∨ x = 63 ∨ x = 66 ∨ x = 67 := by simpa using q
        omega)
      have z41 : Z 61 41 = 63 := by rw [hMZ.2.2.2.1 41 (by decide)]; exact h41
      have hVZ : VQ S0 I0 S Z := hV.trans (VQ.of hF (by rw [z1]) (by rw [z1]) (fun _ _ => rfl) z89)
      have rk4 : s.1 4 = r0 4 := hO.2.1 4 (by omega)
      have hFZ : FO S Z (Z 63) := by rw [z63]; exact hF.cg z1 z89 rk4 (fun k hk => hO.2.1 k (by omega))
      have hMQ : MQB S Z N NB := MQB.of (g20 Z hMZ) z41 (by rw [z63]; exact hO.1) (by rw [z63]; exact sN) hN6 (by rw [z63]; exact sB) hB12 hFZ
      refine sp_actM (kd := c.1) hn hMQ (by rw [z63]; exact hO.1) z41 hO.2.2 hMZ.1.2.1 hk.1 (fun W J3 hz mk mj => ?_) (fun W J3 hz ma mj w8 w63 gp => ?_)
      · have hw : whyA S Z (Z 63) N c.1 x4 x7 < 0 := by
          rcases whyA_v (S := S) (I := Z) (r := Z 63) (N := N) (kd := c.1) (a := x4) (b := x7) with g | g | g | g
          · exact absurd g hz
          · rw [g]; decide
          · rw [g]; decide
          · rw [g]; decide
        rw [z63, hVZ.why] at hz
        have en : oRun S0 I0 N c s = none := by rw [eR]; exact if_neg hz
        refine ⟨fun y => ?_, fun _ => hno en W J3 ⟨fun x hx => by rw [mk.1 x (fun e => hx (by rw [e]; decide))]; exact hMZ.2.2.1 x hx, fun y hy => ?_, fun y hy => by rw [mk.1 66 (by decide)]; exact hMZ.2.2.2.2 y hy⟩ (fun j hj => by rw [mk.1 63 (by decide)]; exact gr Z hMZ j hj) (kj.trans (KpJ.m mj))⟩
        · rw [Int32.le_iff_toInt_le] at y
          rw [Int32.lt_iff_toInt_lt] at hw
          omega
        · rw [mk.2 y (fun e => hy (by
            have : y = 34 ∨ y = 38 ∨ y = 42 ∨ y = 43 ∨ y = 44 := by simpa using e
            rcases this with c | c | c | c | c <;> rw [c] <;> decide))]
          exact hMZ.2.2.2.1 y hy
      · have hnn := ansA_nn (S := S) (I := Z) (r := Z 63) (by rw [z63]; exact hO.1) hN6 hz
        have hnn : 0 ≤ ansA S Z (Z 63) N c.1 x4 x7 := by rw [Int32.le_iff_toInt_le]; exact hnn
        rw [z63, hVZ.why] at hz
        rw [z63, hVZ.step] at w63
        rw [z63, hVZ.ans] at hnn ⊢
        rw [z63] at gp
        have es : oRun S0 I0 N c s = some (stepA S0 I0 s.1 N c.1 x4 x7, hp s.2.1 + 1, oG66 s.2.1 s.2.2.1 s.1, oG67 s.2.1 c.1 s.2.2.2.1, s.2.2.2.2.1 + 1, if c.1 = 5 then ansA S0 I0 s.1 N c.1 x4 x7 else s.2.2.2.2.2) := by rw [eR]; exact if_pos hz
        have w87 : W 87 (8 * j) = nI c.1 := by rw [ma.1 87 (by decide) (by decide) (by decide) (by decide), g87 Z hMZ]; exact m0
        have w61 : ∀ y, y ∉ [8, 34, 38, 42, 43, 44] → W 61 y = Z 61 y := ma.2
        have w52 : W 61 52 = s.2.2.2.2.2 := by rw [w61 52 (by decide)]; exact hMZ.2.1.2
        have w51 : W 61 51 = s.2.2.2.2.1 := by rw [w61 51 (by decide)]; exact hMZ.2.1.1
        rw [w87, w52]
        have e5 : (if nI c.1 = 5 then ansA S0 I0 s.1 N c.1 x4 x7 else s.2.2.2.2.2) = (if c.1 = 5 then ansA S0 I0 s.1 N c.1 x4 x7 else s.2.2.2.2.2) := by
          by_cases q : c.1 = 5
          · rw [if_pos q, if_pos (by rw [q]; rfl)]
          · have q3 : ¬ nI c.1 = 5 := fun e => q ((qeq (b := 5) (by have := hk.1; omega) (by omega)).mp e)
            rw [if_neg q, if_neg q3]
        rw [e5]
        generalize (if c.1 = 5 then ansA S0 I0 s.1 N c.1 x4 x7 else s.2.2.2.2.2) = en at es ⊢
        have u51 : (uI W 61 52 en) 61 51 = s.2.2.2.2.1 := by rw [uIe, upn (by decide)]; exact w51
        rw [u51]
        have V61 : ∀ y, y ≠ 51 → y ≠ 52 → (uI (uI W 61 52 en) 61 51 (s.2.2.2.2.1 + 1)) 61 y = W 61 y := fun y a b => by rw [uIe, upn a, uIe, upn b]
        have Vo : ∀ x, x ≠ 61 → (uI (uI W 61 52 en) 61 51 (s.2.2.2.2.1 + 1)) x = W x := fun x a => by rw [uIn a, uIn a]
        have V51 : (uI (uI W 61 52 en) 61 51 (s.2.2.2.2.1 + 1)) 61 51 = s.2.2.2.2.1 + 1 := by rw [uIe, upe]
        have V52 : (uI (uI W 61 52 en) 61 51 (s.2.2.2.2.1 + 1)) 61 52 = en := by rw [uIe, upn (by decide), uIe, upe]
        generalize (uI (uI W 61 52 en) 61 51 (s.2.2.2.2.1 + 1)) = V at V61 Vo V51 V52 ⊢
        refine ⟨fun _ => ⟨(qin (by omega)).mpr (by omega), hyes _ es V J3 ⟨⟨?_, ?_, fun y hy => ?_, fun y hy => ?_⟩, ⟨V51, V52⟩, fun x hx => ?_, fun y hy => ?_, fun y hy => ?_⟩ (kj.trans (KpJ.m mj))⟩, fun y => absurd hnn y⟩
        · rw [Vo 63 (by decide), w63]
        · rw [V61 8 (by decide) (by decide)]; exact w8
        · have hy : y < 17 * (hp s.2.1 + 1) := hy
          rw [Vo 66 (by decide)]
          show W 66 y = oG66 s.2.1 s.2.2.1 s.1 y
          obtain ⟨p1, p2, -⟩ := gp
          unfold oG66
          by_cases q : y < 17 * hp s.2.1
          · rw [if_pos q, p1 y q]
            unfold hf17
            by_cases q2 : s.2.1 = 16
            · rw [if_pos q2, if_pos q2]
              have : hp s.2.1 = 15 := by unfold hp; rw [if_pos q2]
              exact hMZ.1.2.2.1 _ (by omega)
            · rw [if_neg q2, if_neg q2]
              have : hp s.2.1 = s.2.1 := if_neg q2
              exact hMZ.1.2.2.1 _ (by omega)
          · rw [if_neg q, if_pos (by omega)]
            have := p2 (y - 17 * hp s.2.1) (by omega)
            rw [show 17 * hp s.2.1 + (y - 17 * hp s.2.1) = y by omega] at this
            exact this
        · have hy : y < hp s.2.1 + 1 := hy
          rw [Vo 67 (by decide)]
          show W 67 y = oG67 s.2.1 c.1 s.2.2.2.1 y
          obtain ⟨-, -, p1, p2, -⟩ := gp
          unfold oG67
          by_cases q : y < hp s.2.1
          · rw [if_pos q, p1 y q]
            unfold hf1
            by_cases q2 : s.2.1 = 16
            · rw [if_pos q2, if_pos q2]
              have : hp s.2.1 = 15 := by unfold hp; rw [if_pos q2]
              exact hMZ.1.2.2.2 _ (by omega)
            · rw [if_neg q2, if_neg q2]
              have : hp s.2.1 = s.2.1 := if_neg q2
              exact hMZ.1.2.2.2 _ (by omega)
          · rw [if_neg q, show y = hp s.2.1 by omega]; exact p2
        · have ne : ∀ t, t ∈ [61, 63, 66, 67] → x ≠ t := fun t ht e => hx (by rw [e]; exact ht)
          rw [Vo x (ne 61 (by decide)), ma.1 x (ne 61 (by decide)) (ne 63 (by decide)) (ne 66 (by decide)) (ne 67 (by decide))]
          exact hMZ.2.2.1 x hx
        · have ne : ∀ t, t ∈ [8, 34, 38, 42, 43, 44, 51, 52, 54] → y ≠ t := fun t ht e => hy (by rw [e]; exact ht)
          rw [V61 y (ne 51 (by decide)) (ne 52 (by decide)), w61 y (fun e => by
            have : y = 8 ∨ y = 34 ∨ y = 38 ∨ y = 42 ∨ y = 43 ∨ y = 44 := by simpa using e
            rcases this with c | c | c | c | c | c
            · exact ne 8 (by decide) c
            · exact ne 34 (by decide) c
            · exact ne 38 (by decide) c
            · exact ne 42 (by decide) c
            · exact ne 43 (by decide) c
            · exact ne 44 (by decide) c)]
          exact hMZ.2.2.2.1 y hy
        · rw [Vo 66 (by decide), gp.2.2.2.2 y hy]
          exact hMZ.2.2.2.2 y hy
    · have en := oRun_n (S := S0) (I := I0) (N := N) ht (Or.inr q2)
      refine ⟨fun y => ?_, fun _ => hno en Z J2 hMZ.2.2 (gr Z hMZ) kj⟩
      rw [o2] at y; exact absurd y (by decide)
  · have en := oRun_n (S := S0) (I := I0) (N := N) ht (Or.inl q1)
    have n54 : ¬ Y 61 54 = 0 := by rw [o1]; decide
    unfold F12_sumOf F12_sumOf_24
    exact ⟨fun _ => ⟨fun y => absurd y n54, fun _ => hno en Y J1 hMY.2.2 (gr Y hMY) (KpJ.sf f1)⟩, fun y => absurd y n54⟩
end ORM
