/-! learning, II -/
section LRM
variable {n : Nat} {S : tSH} {I : tHI} {J : tHJ} {N B : Nat}
theorem RK.up13 {r : Nat → Int32} (h : RK r) {v : Int32} (hv : ∃ q, v = nI q ∧ q ≤ 100) : RK (up r 13 v) := by
  refine h.v (fun k hk => upn (by omega)) (h.2.2.1.up (Or.inl (upn (by decide))) (Or.inl (upn (by decide))) (Or.inl (upn (by decide))) (Or.inr ?_) (fun i hi => Or.inl (upn (by omega))) (fun i hi => Or.inl (upn (by omega))))
  obtain ⟨q, q1, q2⟩ := hv
  exact ⟨q, by show up r 13 v 13 = _; rw [upe]; exact q1, q2⟩
def MQw (I X : tHI) (q : Nat) (w : Int32) : Prop := (∀ x, x ≠ 61 → x ≠ 63 → X x = I x) ∧ (∀ y, y ∉ [34, 38, 42, 43, 44] → X 61 y = I 61 y) ∧ X 63 = up (I 63) q w
theorem lrnM_in (hn : 400 < n) (hM : MQB S I N B) (hK : RK (I 63)) (c63 : I 61 41 = 63) {k : Int32 → tHI → tHJ → Prop} {kb24 : tHI → tHJ → Int32 → Prop} {s v1 : Int32} (hs : ∃ q, s = nI q ∧ q ≤ 100) (hk : ∀ (X : tHI) (J' : tHJ), MQw I X 13 (rdS S I (I 63) (WM 63 (I 63) N) s B) → MJ J J' → kb24 X J' (v1 + 1)) : ∀ (d f b : Nat) (X : tHI) (J' : tHJ), b + d = B → d < f → MQw I X 13 (rdS S I (I 63) (WM 63 (I 63) N) s b) → MJ J J' → F12_learning_L45 n S k kb24 f X J' v1 (nI b) := by
  have hB := hM.2.2.1
  have hB1 := hM.2.2.2.1
  have hN6 := hM.1.2.2.1
  have hFO := hM.1.2.2.2.2.2
  intro d
  induction d with
  | zero =>
    intro f b X J' hb hf c1 c2
    obtain ⟨f, rfl⟩ : ∃ g, f = g + 1 := ⟨f - 1, by omega⟩
    show F12_learning_45 n S k kb24 (F12_learning_L45 n S k kb24 f) X J' v1 (nI b)
    unfold F12_learning_45
    have : b = B := by omega
    subst this
    have e1 : X 63 1 = nI b := by rw [c1.2.2, upn (by decide)]; exact hB1
    exact ⟨fun _ => hk X J' c1 c2, fun g => absurd ((by rw [e1]; exact (qle (by omega) (by omega)).mpr (by omega) : X 63 1 ≤ nI b)) g⟩
  | succ d ih =>
    intro f b X J' hb hf c1 c2
    obtain ⟨f, rfl⟩ : ∃ g, f = g + 1 := ⟨f - 1, by omega⟩
    show F12_learning_45 n S k kb24 (F12_learning_L45 n S k kb24 f) X J' v1 (nI b)
    unfold F12_learning_45
    obtain ⟨m1, m2, m3⟩ := c1
    have e1 : X 63 1 = nI B := by rw [m3, upn (by decide)]; exact hB1
    rw [e1]
    refine ⟨fun g => ?_, fun _ => ?_⟩
    · exfalso; have := (qle (by omega) (by omega)).mp g; omega
    · have hb12 : b < 12 := by omega
      have hrd := rdS_b (S := S) (I := I) (W := WM 63 (I 63) N) hK.2.2.2.1 hs b (by omega)
      have hX1 : X 1 = I 1 := m1 1 (by decide) (by decide)
      have hX89 : ∀ x, 89 ≤ x → X x = I x := fun x hx => m1 x (by omega) (by omega)
      have e41 : X 61 41 = 63 := by rw [m2 41 (by decide)]; exact c63
      have hMX : MQB S X N B := MQB.of (by rw [m2 20 (by decide)]; exact hM.1.1) e41 (by rw [m3]; exact hK.up13 hrd) (by rw [m3, upn (by decide)]; exact hM.1.2.1) hN6 (by rw [m3, upn (by decide)]; exact hB1) hB (by rw [m3]; exact hFO.cg hX1 hX89 (upn (by decide)) (fun k hk => upn (by omega)))
      unfold F12_learn
      refine sp_learns hn hMX.1 hb12 (hMX.2.2.2.2 b (by omega)) (fun X2 J2 y1 y2 => ?_)
      have ev : aT S X (X 63) b (WI X N) 4 = aT S I (I 63) b (Wat (WM 63 (I 63) N) 7 (rdS S I (I 63) (WM 63 (I 63) N) s b)) 4 := by
        rw [aT_I hFO hX1 hX89]
        refine aT_row hb12 (fun k p q => by rw [m3]; exact upn (by omega)) (fun a h3 h12 => ?_)
        show WM (X 61 41) (X 63) N a = _
        rw [e41, m3]
        exact WM_13 hN6
      rw [ev]
      have e3 : nI b + 1 = nI (b + 1) := nI_add b 1
      have e13 : X 63 13 = rdS S I (I 63) (WM 63 (I 63) N) s b := by rw [m3, upe]
      obtain ⟨q, q1, q2⟩ := hrd
      obtain ⟨-, ⟨l, l1, l2⟩, -, -⟩ := hK.2.2.2.1 b hb12
      obtain ⟨g, g1, g2⟩ := lrn_r (S := S) (I := I) (r := I 63) (b := b) (W := Wat (WM 63 (I 63) N) 7 (rdS S I (I 63) (WM 63 (I 63) N) s b)) (by rw [l1, qi (by omega)]; omega)
      have es : V12_within ((X 63 13 + aT S I (I 63) b (Wat (WM 63 (I 63) N) 7 (rdS S I (I 63) (WM 63 (I 63) N) s b)) 4).toInt64) 0 100 = rdS S I (I 63) (WM 63 (I 63) N) s (b + 1) := by
        show _ = mn100 (rdS S I (I 63) (WM 63 (I 63) N) s b + aT S I (I 63) b (Wat (WM 63 (I 63) N) 7 (rdS S I (I 63) (WM 63 (I 63) N) s b)) 4)
        rw [e13, g1]
        generalize rdS S I (I 63) (WM 63 (I 63) N) s b = t at *
        rw [q1, ske q2 g2]
        rfl
      rw [es, e3]
      refine ih f (b + 1) _ J2 (by omega) (by omega) ⟨fun x p q => by rw [uIn q, y1.1 x p, m1 x p q], fun y hy => by rw [uIn (by decide), y1.2 y hy, m2 y hy], ?_⟩ (c2.trans y2)
      rw [uIe, y1.1 63 (by decide), m3, up_up]
theorem lrnM_72 (hn : 400 < n) {r : Nat → Int32} {X : tHI} {q : Nat} {w : Int32} (h63 : X 63 = up r q w) (hq : 9 ≤ q ∧ q < 26) (h66 : ∀ i, i < 17 → X 66 (17 * 16 + i) = r (9 + i)) {v1 : Int32} {k : Int32 → tHI → tHJ → Prop} (hk : ∀ X' : tHI, (∀ x, x ≠ 63 → X' x = X x) → X' 63 = r → k (if v1 = 1000 then (-1) else v1) X' J) : F12_learning_72 n S k X J v1 := by
  unfold F12_learning_72
  refine sp_putBack (q := 16) (by omega) (by omega) (fun X' a b c => hk X' a ?_)
  funext y
  by_cases g : y < 9 ∨ 26 ≤ y
  · rw [b y g, h63, upn (by omega)]
  · have e := c (y - 9) (by omega)
    rw [show 9 + (y - 9) = y by omega] at e
    rw [e, h66 _ (by omega), show 9 + (y - 9) = y by omega]
theorem lrnM_out (hn : 2000 < n) (hM : MQB S I N B) (hK : RK (I 63)) (c63 : I 61 41 = 63) (h66 : ∀ i, i < 17 → I 66 (17 * 16 + i) = I 63 (9 + i)) {k : Int32 → tHI → tHJ → Prop} (hk : ∀ (X : tHI) (J' : tHJ), MK I X → MJ J J' → k (frS (skS S I (I 63) (WM 63 (I 63) N) B) 1000 0) X J') : ∀ (d f i : Nat) (X : tHI) (J' : tHJ), i + d = 1000 → d < f → frS (skS S I (I 63) (WM 63 (I 63) N) B) d i = frS (skS S I (I 63) (WM 63 (I 63) N) B) 1000 0 → MQw I X 13 (skS S I (I 63) (WM 63 (I 63) N) B i) → MJ J J' → F12_learning_L24 n S k f X J' (nI i) := by
  have hs := skS_b (S := S) (I := I) (W := WM 63 (I 63) N) hK.2.2.2.1 hM.2.2.1 hK.2.2.1.2.2.2.1
  have fin : ∀ (i : Nat) (X : tHI) (J' : tHJ), MQw I X 13 (skS S I (I 63) (WM 63 (I 63) N) B i) → MJ J J' → (if nI i = 1000 then (-1 : Int32) else nI i) = frS (skS S I (I 63) (WM 63 (I 63) N) B) 1000 0 → F12_learning_72 n S k X J' (nI i) := by
    intro i X J' ⟨m1, m2, m3⟩ c2 e
    refine lrnM_72 (r := I 63) (by omega) m3 (by omega) (fun j hj => by rw [m1 66 (by decide) (by decide)]; exact h66 j hj) (fun X' a b => ?_)
    rw [e]
    refine hk X' J' ⟨fun x hx => ?_, fun y hy => by rw [a 61 (by decide)]; exact m2 y hy⟩ c2
    by_cases g : x = 63
    · subst g; exact b
    · rw [a x g, m1 x hx g]
  intro d
  induction d with
  | zero =>
    intro f i X J' hi hf hr c1 c2
    obtain ⟨f, rfl⟩ : ∃ g, f = g + 1 := ⟨f - 1, by omega⟩
    have : i = 1000 := by omega
    subst this
    have hr : (-1 : Int32) = frS (skS S I (I 63) (WM 63 (I 63) N) B) 1000 0 := hr
    have F := fin 1000 X J' c1 c2 (by rw [if_pos (show nI 1000 = 1000 from rfl)]; exact hr)
    show F12_learning_24 n S k (F12_learning_L24 n S k f) X J' (nI 1000)
    unfold F12_learning_24
    exact ⟨fun _ => F, fun _ => ⟨fun _ => F, fun g => absurd ((qle (a := 1000) (by omega) (by omega)).mpr (by omega)) g⟩⟩
  | succ d ih =>
    intro f i X J' hi hf hr c1 c2
    obtain ⟨f, rfl⟩ : ∃ g, f = g + 1 := ⟨f - 1, by omega⟩
    show F12_learning_24 n S k (F12_learning_L24 n S k f) X J' (nI i)
    unfold F12_learning_24
    have hr' : (if 100 ≤ skS S I (I 63) (WM 63 (I 63) N) B i then nI i else frS (skS S I (I 63) (WM 63 (I 63) N) B) d (i + 1)) = frS (skS S I (I 63) (WM 63 (I 63) N) B) 1000 0 := hr
    have e13 : X 63 13 = skS S I (I 63) (WM 63 (I 63) N) B i := by rw [c1.2.2, upe]
    rw [e13]
    have ni : ¬ nI i = 1000 := fun q => by have := (qeq (b := 1000) (by omega) (by omega)).mp q; omega
    refine ⟨fun g => ?_, fun g => ⟨fun g2 => ?_, fun _ => ?_⟩⟩
    · rw [if_pos g] at hr'
      exact fin i X J' c1 c2 (by rw [if_neg ni]; exact hr')
    · exfalso; have := (qle (a := 1000) (by omega) (by omega)).mp g2; omega
    · rw [if_neg g] at hr'
      refine lrnM_in (by omega) hM hK c63 (hs i) (fun X2 J2 y1 y2 => ?_) B n 0 X J' (by have := hM.2.2.1; omega) (by have := hM.2.2.1; omega) c1 c2
      rw [show nI i + 1 = nI (i + 1) from nI_add i 1]
      exact ih f (i + 1) X2 J2 (by omega) (by omega) hr' y1 y2
theorem st_learning (hn : 2000 < n) : tSt_learning n Inv := by
  intro S I J h
  obtain ⟨N, B, n1, n2, b1, b2, c63, hM⟩ := h.mq
  have hRK := h.2.1.2.2.2.2.2.1
  have e70 : I 7 0 = nI B := by have : I 7 0 = I 63 1 := h.2.1.1.2.2.2.1; rw [this, b1]
  unfold F11_learning
  refine sp_asIt (r := I 63) (by omega) h.2.1 n1 n2 h.2.2.2.2.2.2.2.1 (fun X x1 x2 hQ => ?_)
  have x70 : X 7 0 = nI B := by rw [x1 7 (by decide)]; exact e70
  have x15 : X 15 5 = I 63 13 := hQ.1.2.2.2.2.1.2.2.2.2.2.1
  have step : ∀ (X2 : tHI) (J2 : tHJ), Cq X X2 7 → CJ J J2 → Inv S X2 J2 ∧ X2 63 = I 63 := fun X2 J2 y1 y2 => ⟨h.keep ((KpI.c x1 x2).trans (KpI.c y1.1 (fun y hy => by
      have : y = 8 ∨ y = 9 ∨ y = 10 := by simpa using hy
      exact y1.2 y (by omega) (by omega)))) (KpJ.c y2), by rw [y1.1 63 (by decide), x1 63 (by decide)]⟩
  have md : ∀ (X2 : tHI) (J2 : tHJ) (v : Int32), Cq X X2 7 → CJ J J2 → (B = 0 → v = -1) → (B ≠ 0 → v = frS (skS S X (I 63) (WM 63 (I 63) N) B) 1000 0) → F12_learning n S X2 J2 (fun y I2 J2 => v = y ∧ Inv S I2 J2) := by
    intro X2 J2 v y1 y2 v0 v1
    obtain ⟨hI2, e63⟩ := step X2 J2 y1 y2
    have hI3 := hI2.th
    have e63' : (uI X2 61 0 0) 63 = I 63 := by rw [uIn (by decide)]; exact e63
    have c63' : (uI X2 61 0 0) 61 41 = 63 := hI3.2.2.2.2.2.2.1.2
    unfold F12_learning
    rw [e63', b1]
    refine ⟨fun g => ?_, fun g => ?_⟩
    · have hB0 : B ≠ 0 := fun q => g (by rw [q]; rfl)
      refine sp_keepAll (q := 16) (by omega) (by omega) (fun Z z1 z2 z3 => ?_)
      have Z63 : Z 63 = I 63 := by rw [z1 63 (by decide)]; exact e63'
      have hI4 : Inv S Z J2 := hI3.keep ⟨fun x hx => z1 x (by omega), fun x hx => z1 x (fun q => by subst q; revert hx; decide), fun y _ => by rw [z1 0 (by decide)], fun y _ => by rw [z1 61 (by decide)], by rw [z1 40 (by decide)], fun y _ => by rw [z1 49 (by decide)], fun y _ => by rw [z1 50 (by decide)], fun y hy => z2 y (by omega)⟩ (KpJ.rf J2)
      obtain ⟨N', B', n1', n2', b1', b2', c41, hM'⟩ := hI4.mq
      have eN : N' = N := (qeq (by omega) (by omega)).mp (by rw [← n1', Z63, n1])
      have eB : B' = B := (qeq (by omega) (by omega)).mp (by rw [← b1', Z63, b1])
      subst eN eB
      have hZ1 : Z 1 = X 1 := by rw [z1 1 (by decide), uIn (by decide), y1.1 1 (by decide)]
      have hZ89 : ∀ x, 89 ≤ x → Z x = X x := fun x hx => by rw [z1 x (by omega), uIn (by omega), y1.1 x (by omega)]
      refine lrnM_out hn hM' (by rw [Z63]; exact hRK) c41 (fun i hi => by rw [z3 i hi, z1 63 (by decide)]) (fun X3 J3 w1 w2 => ⟨?_, hI4.keep (KpI.m w1) (KpJ.m w2)⟩) 1000 n 0 Z J2 (by omega) (by omega) rfl ⟨fun _ _ _ => rfl, fun _ _ => rfl, up_id.symm⟩ (MJ.rf _)
      have eS : skS S Z (Z 63) (WM 63 (Z 63) N') B' = skS S X (I 63) (WM 63 (I 63) N') B' := by
        funext i
        rw [Z63]
        exact skS_I hQ.FO hZ1 hZ89 i
      rw [eS]
      exact v1 hB0
    · have : B = 0 := (qeq (b := 0) (by omega) (by omega)).mp g
      exact ⟨v0 this, hI3⟩
  unfold F5_roundsToLearn
  rw [x70, x15]
  refine ⟨fun g => ?_, fun g => ?_⟩
  · have hB0 : B ≠ 0 := fun q => g (by rw [q]; rfl)
    refine lrn_out (J := J) h.1 (by omega) hQ b1 b2 (fun X2 J2 y1 y2 => md X2 J2 _ y1 y2 (fun q => absurd q hB0) (fun _ => rfl)) 1000 n 0 X J (by omega) (by omega) rfl ⟨fun _ _ => rfl, fun _ _ _ => rfl⟩ (CJ.rf J)
  · have hB0 : B = 0 := (qeq (b := 0) (by omega) (by omega)).mp g
    exact md X J (-1) ⟨fun _ _ => rfl, fun _ _ _ => rfl⟩ (CJ.rf J) (fun _ => rfl) (fun q => absurd hB0 q)
end LRM
