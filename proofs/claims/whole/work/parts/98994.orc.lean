/-! orders: run by the class -/
def oCf (B X : tHI) : Prop := (∀ y, y ≠ 14 → y ≠ 15 → X 0 y = B 0 y) ∧ (∀ x, x ∉ [0, 4, 6, 15, 34, 35, 49, 50, 58] → X x = B x) ∧ (∀ y, y ∈ [8, 9, 10] → X 49 y = B 49 y) ∧ ∀ y, y < 6 → X 50 y = B 50 y
def oC (S : tSH) (B : tHI) (s : oT) (X : tHI) : Prop := (RSt S X 1 s.1 ∧ X 34 1 = nI s.2.1 ∧ HRs s.2.1 (X 35) s.2.2.1 s.2.2.2.1 s.1) ∧ (X 0 14 = s.2.2.2.2.1 ∧ X 0 15 = s.2.2.2.2.2) ∧ oCf B X
section ORC
variable {n : Nat} {S S0 : tSH} {I0 B X : tHI} {J : tHJ} {r0 r : Nat → Int32} {s : oT} {N : Nat}
theorem oC.w58 (h : oC S B s X) {Y : tHI} (e : ∀ x, x ≠ 58 → Y x = X x) : oC S B s Y := by
  obtain ⟨⟨h1, h2, h3⟩, ⟨h4, h5⟩, h6, h7, h8, h9⟩ := h
  refine ⟨⟨h1.cg (fun i hi => e _ (by omega)) (fun x hx => e x (by omega)), by rw [e 34 (by decide)]; exact h2, by rw [e 35 (by decide)]; exact h3⟩, ⟨by rw [e 0 (by decide)]; exact h4, by rw [e 0 (by decide)]; exact h5⟩, fun y a b => by rw [e 0 (by decide)]; exact h6 y a b, fun x hx => ?_, fun y hy => by rw [e 49 (by decide)]; exact h8 y hy, fun y hy => by rw [e 50 (by decide)]; exact h9 y hy⟩
  rw [e x (fun q => hx (by rw [q]; decide))]; exact h7 x hx
/-- the words are set -/
theorem setW_124 (hR : RSt S X 1 r) {dn en : Int32} {k : tHI → tHJ → Prop} (hk : ∀ Y : tHI, (∀ x, x ≠ 58 → Y x = X x) → (∀ a, a < 24 → Y 58 a = oWd r dn en a) → k Y J) : ∀ (d f i : Nat) (Y : tHI), i + d = 6 → d < f → (∀ x, x ≠ 58 → Y x = X x) → (∀ a, a < 18 + i → Y 58 a = oWd r dn en a) → F11_setOrderWords_L124 n S k f Y J (nI i) := by
  intro d
  induction d with
  | zero =>
    intro f i Y hi hf h1 h2
    obtain ⟨f, rfl⟩ : ∃ g, f = g + 1 := ⟨f - 1, by omega⟩
    show F11_setOrderWords_124 n S k (F11_setOrderWords_L124 n S k f) Y J (nI i)
    unfold F11_setOrderWords_124
    exact ⟨fun _ => hk Y h1 (fun a ha => h2 a (by omega)), fun y => absurd ((qle (a := 6) (by omega) (by omega)).mpr (by omega)) y⟩
  | succ d ih =>
    intro f i Y hi hf h1 h2
    obtain ⟨f, rfl⟩ : ∃ g, f = g + 1 := ⟨f - 1, by omega⟩
    show F11_setOrderWords_124 n S k (F11_setOrderWords_L124 n S k f) Y J (nI i)
    unfold F11_setOrderWords_124
    have e18 : 18 + nI i = nI (18 + i) := by rw [ql 18, nI_add]
    have hin : vp_in (nI i) 6 := (qin (by omega)).mpr (by omega)
    rw [e18, nI_1, qn (by omega), qn (by omega)]
    refine ⟨fun y => absurd ((qle (a := 6) (by omega) (by omega)).mp y) (by omega), fun _ => ⟨⟨fun _ => trivial, fun _ => ⟨hin, trivial⟩⟩, (qin (by omega)).mpr (by omega), ?_⟩⟩
    refine ih f (i + 1) _ (by omega) (by omega) (fun x hx => by rw [uIn hx]; exact h1 x hx) (fun a ha => ?_)
    rw [uIe]
    by_cases e : a = 18 + i
    · subst e
      rw [upe, oWd_l (by omega)]
      have x20 : X 2 0 = r 0 := hR.1.2.2.1
      have x4 : X 4 i = r (14 + i) := (hR.2.1 i (by omega)).2.1
      have hh := has3 (S := S) (I := Y) (J := J) (a := 2) (v := nI i)
      rw [h1 2 (by decide), x20, qi (by omega)] at hh
      rw [h1 4 (by decide), x4]
      by_cases c : (i : Int) < (r 0).toInt
      · rw [if_neg (fun q => (hh.mp q) (by omega)), if_pos c]
      · rw [if_pos (hh.mpr (by omega)), if_neg c]
    · rw [upn e]; exact h2 a (by omega)
theorem setW_70 (hn : 400 < n) (hR : RSt S X 1 r) {dn en : Int32} {k : tHI → tHJ → Prop} (hk : ∀ Y : tHI, (∀ x, x ≠ 58 → Y x = X x) → (∀ a, a < 24 → Y 58 a = oWd r dn en a) → k Y J) : ∀ (d f i : Nat) (Y : tHI), i + d = 12 → d < f → (∀ x, x ≠ 58 → Y x = X x) → (∀ a, a < 6 + i → Y 58 a = oWd r dn en a) → F11_setOrderWords_L70 n S k f Y J (nI i) := by
  intro d
  induction d with
  | zero =>
    intro f i Y hi hf h1 h2
    obtain ⟨f, rfl⟩ : ∃ g, f = g + 1 := ⟨f - 1, by omega⟩
    show F11_setOrderWords_70 n S k (F11_setOrderWords_L70 n S k f) Y J (nI i)
    unfold F11_setOrderWords_70
    exact ⟨fun _ => setW_124 hR hk 6 n 0 Y (by omega) (by omega) h1 (fun a ha => h2 a (by omega)), fun y => absurd ((qle (a := 12) (by omega) (by omega)).mpr (by omega)) y⟩
  | succ d ih =>
    intro f i Y hi hf h1 h2
    obtain ⟨f, rfl⟩ : ∃ g, f = g + 1 := ⟨f - 1, by omega⟩
    show F11_setOrderWords_70 n S k (F11_setOrderWords_L70 n S k f) Y J (nI i)
    unfold F11_setOrderWords_70
    have e18 : 6 + nI i = nI (6 + i) := by rw [ql 6, nI_add]
    have hin : vp_in (nI i) 12 := (qin (by omega)).mpr (by omega)
    rw [e18, nI_1, qn (by omega), qn (by omega)]
    refine ⟨fun y => absurd ((qle (a := 12) (by omega) (by omega)).mp y) (by omega), fun _ => ⟨⟨fun _ => trivial, fun _ => ⟨hin, trivial⟩⟩, (qin (by omega)).mpr (by omega), ?_⟩⟩
    refine ih f (i + 1) _ (by omega) (by omega) (fun x hx => by rw [uIn hx]; exact h1 x hx) (fun a ha => ?_)
    rw [uIe]
    by_cases e : a = 6 + i
    · subst e
      rw [upe, oWd_b (by omega)]
      have x20 : X 7 0 = r 1 := hR.1.2.2.2.1
      have x4 : X 8 i = r (38 + 4 * i) := (hR.2.2.1 i (by omega)).1
      have hh := has7 (S := S) (I := Y) (J := J) (a := 7) (v := nI i)
      rw [h1 7 (by decide), x20, qi (by omega)] at hh
      rw [h1 8 (by decide), x4]
      by_cases c : (i : Int) < (r 1).toInt
      · rw [if_neg (fun q => (hh.mp q) (by omega)), if_pos c]
      · rw [if_pos (hh.mpr (by omega)), if_neg c]
    · rw [upn e]; exact h2 a (by omega)
theorem sp_setW (hn : 400 < n) (hC : oC S B s X) {k : tHI → tHJ → Prop} (hk : ∀ Y : tHI, oC S B s Y → (∀ a, a < 24 → (Y 58 a).toInt64 = oWs s a) → k Y J) : F11_setOrderWords n S X J k := by
  have hR := hC.1.1
  obtain ⟨t0, t1, t2, t3, t4, t5, t6, t7, t8⟩ := hR.2.2.2.2.1
  unfold F11_setOrderWords
  have t0 : X 15 0 = s.1 8 := t0
  have t1 : X 15 1 = s.1 11 := t1
  have t2 : X 15 2 = s.1 9 := t2
  have t3 : X 15 3 = s.1 10 := t3
  have t4 : X 15 4 = s.1 12 := t4
  obtain ⟨d1, d2⟩ := hC.2.1
  have n15 : (15 : Nat) ≠ 58 := by decide
  have n0 : (0 : Nat) ≠ 58 := by decide
  simp only [uIn n15, uIn n0, t1, t2, t3, t4, d1, d2]
  refine setW_70 (r := s.1) (dn := s.2.2.2.2.1) (en := s.2.2.2.2.2) hn hR (fun Y h1 h2 => hk Y (hC.w58 h1) (fun a ha => by rw [h2 a ha]; rfl)) 12 n 0 _ (by omega) (by omega) (fun x hx => by rw [uIn hx, uIn hx, uIn hx, uIn hx, uIn hx, uIn hx]) (fun a ha => ?_)
  have : a = 0 ∨ a = 1 ∨ a = 2 ∨ a = 3 ∨ a = 4 ∨ a = 5 := by omega
  rcases this with e | e | e | e | e | e <;> subst e
  · rw [uIe, upn (by decide), uIe, upn (by decide), uIe, upn (by decide), uIe, upn (by decide), uIe, upn (by decide), uIe, upe]; rfl
  · rw [uIe, upn (by decide), uIe, upn (by decide), uIe, upn (by decide), uIe, upn (by decide), uIe, upe]; rfl
  · rw [uIe, upn (by decide), uIe, upn (by decide), uIe, upn (by decide), uIe, upe]; rfl
  · rw [uIe, upn (by decide), uIe, upn (by decide), uIe, upe]; rfl
  · rw [uIe, upn (by decide), uIe, upe]; rfl
  · rw [uIe, upe]; rfl
/-- a clause, by the class -/
theorem sp_runC (hT : TY S) (hn : 400 < n) (hV : VQ S0 I0 S B) (hF : FO S B r0) (hN : r0 0 = nI N) (hN6 : N ≤ 6) (h49 : B 49 8 = -1 ∧ B 49 9 = -1 ∧ B 49 10 = -1) (h50 : ∀ y, y < 6 → B 50 y = -1) {len j : Nat} {c : aC5} (h5 : B 41 5 = nI len) (hlen : len ≤ 400) (hc : CWd (B 42) len) (hj : j < 12) (hR : CRel 24 (B 42) (B 43) (B 44) (B 45) j len c) (hkd : c.1 ≤ 5) (ht : c.2.1 ≤ 20) {k : Int32 → tHI → tHJ → Prop} : ∀ (d f i : Nat) (s : oT) (X : tHI) (J : tHJ), i + d = c.2.1 → d < f → oC S B s X → oOK r0 s → (oRep S0 I0 N c d s = none → ∀ X' J', oCf B X' → CJ J J' → k 0 X' J') → (∀ s', oRep S0 I0 N c d s = some s' → ∀ X' J', oC S B s' X' → CJ J J' → k 1 X' J') → F11_runClause_L16 n S k f X J 41 (nI j) (nI c.1) (nI c.2.1) (nI i) := by
  intro d
  induction d with
  | zero =>
    intro f i s X J hi hf hC hO hno hyes
    obtain ⟨f, rfl⟩ : ∃ g, f = g + 1 := ⟨f - 1, by omega⟩
    show F11_runClause_16 n S k (F11_runClause_L16 n S k f) X J 41 (nI j) (nI c.1) (nI c.2.1) (nI i)
    unfold F11_runClause_16
    exact ⟨fun _ => hyes s rfl X J hC (CJ.rf J), fun y => absurd ((qle (by omega) (by omega)).mpr (by omega)) y⟩
  | succ d ih =>
    intro f i s X J hi hf hC hO hno hyes
    obtain ⟨f, rfl⟩ : ∃ g, f = g + 1 := ⟨f - 1, by omega⟩
    show F11_runClause_16 n S k (F11_runClause_L16 n S k f) X J 41 (nI j) (nI c.1) (nI c.2.1) (nI i)
    unfold F11_runClause_16 F11_runClause_141
    refine ⟨fun y => absurd ((qle (by omega) (by omega)).mp y) (by omega), fun _ => ?_⟩
    refine sp_setW hn hC (fun Y hY w58 => ?_)
    have eR : oRep S0 I0 N c (d + 1) s = (match oRun S0 I0 N c s with
      | none => none
      | some s' => oRep S0 I0 N c d s') := rfl
    rw [eR] at hno hyes
    obtain ⟨⟨g1, g2, g3⟩, ⟨g4, g5⟩, g6⟩ := id hY
    have o41 : ∀ x, x ∉ [0, 4, 6, 15, 34, 35, 49, 50, 58] → Y x = B x := g6.2.1
    have y5 : Y 41 5 = nI len := by rw [o41 41 (by decide)]; exact h5
    have yc : CWd (Y 42) len := by rw [o41 42 (by decide)]; exact hc
    have yR : CRel 24 (Y 42) (Y 43) (Y 44) (Y 45) j len c := by rw [o41 42 (by decide), o41 43 (by decide), o41 44 (by decide), o41 45 (by decide)]; exact hR
    have l42 := hT.2.2.2.2.1
    have l45 := hT.2.2.2.2.2.2.2
    have eu : oRun S0 I0 N c s = if oTest c.2.2.2.2 (oWs s) = true then (match oArg c.2.2.1 (oWs s) with
      | none => none
      | some a => match oArg c.2.2.2.1 (oWs s) with
        | none => none
        | some b => oAct S0 I0 N c.1 a.toInt32 b.toInt32 s) else some s := rfl
    refine sp_soC (c := c) hT.l47 l42 l45 hT.l58 hn y5 hlen yc hj yR w58 (fun J1 j1 _ => ?_)
    by_cases t : oTest c.2.2.2.2 (oWs s) = true
    · rw [if_pos t] at eu
      rw [if_pos t]
      refine ⟨fun _ => ?_, fun y => absurd y (by decide)⟩
      show F0_sumOf n S Y J1 41 (nI j) (nI 0) 58 _
      refine sp_sumC (c := c) (o := c.2.2.1) hT.l47 l42 l45 hT.l58 hn y5 hlen yc hj yR w58 (Or.inl ⟨rfl, rfl⟩) (fun J2 j2 => ?_)
      simp only [lg_cmp_eq]
      have ea1 : oArg c.2.2.1 (oWs s) = if oSc c.2.2.1 (oWs s) = 2000000000 then none else some (oSc c.2.2.1 (oWs s)) := rfl
      refine ⟨fun q1 => ?_, fun q1 => ?_⟩
      · rw [if_neg q1] at ea1
        rw [ea1] at eu
        show F0_sumOf n S Y J2 41 (nI j) (nI 1) 58 _
        refine sp_sumC (c := c) (o := c.2.2.2.1) hT.l47 l42 l45 hT.l58 hn y5 hlen yc hj yR w58 (Or.inr ⟨rfl, rfl⟩) (fun J3 j3 => ?_)
        have ea2 : oArg c.2.2.2.1 (oWs s) = if oSc c.2.2.2.1 (oWs s) = 2000000000 then none else some (oSc c.2.2.2.1 (oWs s)) := rfl
        refine ⟨fun q2 => ?_, fun q2 => ?_⟩
        · rw [if_neg q2] at ea2
          rw [ea2] at eu
          generalize oSc c.2.2.1 (oWs s) = va at *
          generalize oSc c.2.2.2.1 (oWs s) = vb at *
          have eu : oRun S0 I0 N c s = (if whyA S0 I0 s.1 N c.1 va.toInt32 vb.toInt32 = 0 then some (stepA S0 I0 s.1 N c.1 va.toInt32 vb.toInt32, hp s.2.1 + 1, oG66 s.2.1 s.2.2.1 s.1, oG67 s.2.1 c.1 s.2.2.2.1, s.2.2.2.2.1 + 1, if c.1 = 5 then ansA S0 I0 s.1 N c.1 va.toInt32 vb.toInt32 else s.2.2.2.2.2) else none) := eu
          have hVY : VQ S0 I0 S Y := hV.trans (VQ.of hF (by rw [o41 1 (by decide)]) (by rw [o41 1 (by decide)]) (fun _ _ => rfl) (fun x hx => o41 x (fun q => by
            have : x = 0 ∨ x = 4 ∨ x = 6 ∨ x = 15 ∨ x = 34 ∨ x = 35 ∨ x = 49 ∨ x = 50 ∨ x = 58 := by simpa using q
            omega)))
          have sN : s.1 0 = nI N := by rw [hO.2.1 0 (by omega)]; exact hN
          have jj : CJ J J3 := (j1.trans j2).trans j3
          have e5 : nI c.1 = 5 ↔ c.1 = 5 := qeq (b := 5) (by omega) (by omega)
          refine sp_act hT hn g1 sN hN6 ⟨by rw [g6.2.2.1 8 (by decide)]; exact h49.1, by rw [g6.2.2.1 9 (by decide)]; exact h49.2.1, by rw [g6.2.2.1 10 (by decide)]; exact h49.2.2⟩ (fun y hy => by rw [g6.2.2.2 y hy]; exact h50 y hy) hO.2.2 g2 g3 hkd (fun Z J4 hz cb cj => ?_) (fun Z J4 hz ca cj hRZ z34 hHZ => ?_)
          · have hw : whyA S Y s.1 N c.1 va.toInt32 vb.toInt32 < 0 := by
              rcases whyA_v (S := S) (I := Y) (r := s.1) (N := N) (kd := c.1) (a := va.toInt32) (b := vb.toInt32) with g | g | g | g
              · exact absurd g hz
              · rw [g]; decide
              · rw [g]; decide
              · rw [g]; decide
            rw [hVY.why] at hz
            rw [if_neg hz] at eu
            rw [eu] at hno
            refine ⟨fun y => ?_, fun _ => hno rfl Z J4 ⟨fun y a b => by rw [cb.1 0 (by decide) (by decide)]; exact g6.1 y a b, fun x hx => ?_, fun y hy => by rw [cb.2.1 y hy]; exact g6.2.2.1 y hy, fun y hy => by rw [cb.2.2 y hy]; exact g6.2.2.2 y hy⟩ (jj.trans cj)⟩
            · rw [Int32.le_iff_toInt_le] at y
              rw [Int32.lt_iff_toInt_lt] at hw
              omega
            · rw [cb.1 x (fun q => hx (by rw [q]; decide)) (fun q => hx (by rw [q]; decide))]; exact g6.2.1 x hx
          · have hnn := ansA_nn (S := S) (I := Y) hO.1 hN6 hz
            have hnn : 0 ≤ ansA S Y s.1 N c.1 va.toInt32 vb.toInt32 := by rw [Int32.le_iff_toInt_le]; exact hnn
            rw [hVY.why] at hz
            rw [hVY.step] at hRZ hHZ
            rw [hVY.ans] at hnn ⊢
            rw [if_pos hz] at eu
            rw [eu] at hno hyes
            obtain ⟨ca1, ca2, ca3⟩ := ca
            have hOK := oRun_ok hO hN hN6 eu
            have z0 : Z 0 = Y 0 := ca1 0 (by decide) (by decide) (by decide) (by decide) (by decide) (by decide) (by decide)
            have key : ∀ (W : tHI) (en : Int32), (∀ x, x ≠ 0 → W x = Z x) → W 0 14 = s.2.2.2.2.1 + 1 → W 0 15 = en → (∀ y, y ≠ 14 → y ≠ 15 → W 0 y = Z 0 y) → oC S B (stepA S0 I0 s.1 N c.1 va.toInt32 vb.toInt32, hp s.2.1 + 1, oG66 s.2.1 s.2.2.1 s.1, oG67 s.2.1 c.1 s.2.2.2.1, s.2.2.2.2.1 + 1, en) W := by
              intro W en w1 w2 w3 w4
              refine ⟨⟨hRZ.cg (fun i hi => w1 _ (by omega)) (fun x hx => w1 x (by omega)), by rw [w1 34 (by decide)]; exact z34, by rw [w1 35 (by decide)]; exact hHZ _ _ (GP.c hO.2.2)⟩, ⟨w2, w3⟩, fun y a b => by rw [w4 y a b, z0]; exact g6.1 y a b, fun x hx => ?_, fun y hy => by rw [w1 49 (by decide), ca2 y hy]; exact g6.2.2.1 y hy, fun y hy => by rw [w1 50 (by decide), ca3 y hy]; exact g6.2.2.2 y hy⟩
              have ne : ∀ t, t ∈ [0, 4, 6, 15, 34, 35, 49, 50, 58] → x ≠ t := fun t ht e => hx (by rw [e]; exact ht)
              rw [w1 x (ne 0 (by decide)), ca1 x (ne 4 (by decide)) (ne 6 (by decide)) (ne 15 (by decide)) (ne 34 (by decide)) (ne 35 (by decide)) (ne 49 (by decide)) (ne 50 (by decide))]
              exact g6.2.1 x hx
            have z14 : Z 0 14 = s.2.2.2.2.1 := by rw [z0]; exact g4
            have z15 : Z 0 15 = s.2.2.2.2.2 := by rw [z0]; exact g5
            rw [z14, nI_1]
            refine ⟨fun _ => ⟨fun y5 => ?_, fun y5 => ?_⟩, fun y => absurd hnn y⟩
            · rw [if_neg (fun e => y5 (e5.mpr e))] at hno hyes hOK
              refine ih f (i + 1) _ _ J4 (by omega) (by omega) (key _ _ (fun x hx => uIn hx) (by rw [uIe, upe]) (by rw [uIe, upn (by decide)]; exact z15) (fun y a _ => by rw [uIe, upn a])) hOK (fun e X' J' a1 a2 => hno e X' J' a1 ((jj.trans cj).trans a2)) (fun s' e X' J' a1 a2 => hyes s' e X' J' a1 ((jj.trans cj).trans a2))
            · rw [if_pos (e5.mp y5)] at hno hyes hOK
              refine ih f (i + 1) _ _ J4 (by omega) (by omega) (key _ _ (fun x hx => by rw [uIn hx, uIn hx]) (by rw [uIe, upn (by decide), uIe, upe]) (by rw [uIe, upe]) (fun y a b => by rw [uIe, upn b, uIe, upn a])) hOK (fun e X' J' a1 a2 => hno e X' J' a1 ((jj.trans cj).trans a2)) (fun s' e X' J' a1 a2 => hyes s' e X' J' a1 ((jj.trans cj).trans a2))
        · rw [if_pos q2] at ea2
          rw [ea2] at eu
          rw [eu] at hno
          exact hno rfl Y J3 g6 ((j1.trans j2).trans j3)
      · rw [if_pos q1] at ea1
        rw [ea1] at eu
        rw [eu] at hno
        exact hno rfl Y J2 g6 (j1.trans j2)
    · rw [if_neg t] at eu
      rw [if_neg t]
      rw [eu] at hno hyes
      refine ⟨fun y => absurd rfl y, fun _ => ?_⟩
      rw [nI_1]
      exact ih f (i + 1) s Y J1 (by omega) (by omega) hY hO (fun e X' J' a1 a2 => hno e X' J' a1 (j1.trans a2)) (fun s' e X' J' a1 a2 => hyes s' e X' J' a1 (j1.trans a2))
end ORC
