/-! law: the invariant's pieces, the model's row -/
def CLk (ord : Nat) (c : aC5) : Prop := c.1 ≤ 5 ∧ (1 ≤ c.2.1 ∧ c.2.1 ≤ 20) ∧ (c.1 = 5 → c.2.2.1 = none) ∧ (c.1 ≠ 5 → ∃ v, c.2.2.1 = some v) ∧ (ord = 0 ∨ ¬ (c.1 = 3 ∨ c.1 = 4) → c.2.2.2.1 = none) ∧ (¬ (ord = 0 ∨ ¬ (c.1 = 3 ∨ c.1 = 4)) → ∃ v, c.2.2.2.1 = some v) ∧ ∀ v, c.2.2.2.2 = some v → vTF v
section EY2
variable {b : Nat → Nat} {z ord : Nat}
theorem aCl_ok (hz : z ≤ 400) {q m q' m' : Nat} {c : aC5} (hq : q ≤ z) (h : aCl b z ord q m = .inr (q', m', c)) : q' ≤ z ∧ CLk ord c := by
  unfold aCl at h
  have ea : aHd b z ord q = aX b z q (if ord = 0 then 10 else 9) := rfl
  have hs11 : (if ord = 0 then 10 else 9) < 11 := by split <;> omega
  have hl6 : (WL (if ord = 0 then 10 else 9)).length = 6 := by split <;> rfl
  cases hh : aHd b z ord q with
  | none => rw [hh] at h; cases h
  | some kd =>
    rw [hh] at h
    rw [ea] at hh
    have hkd := aX_b hs11 kd hh
    rw [hl6] at hkd
    have k1 : aK b z q ≠ 0 := by rw [aX_k hh]; decide
    have hq1 := (aE_gt k1).2.1 hq
    have h : aBd b z ord kd (aE b z q) m = .inr (q', m', c) := h
    unfold aBd at h
    -- first sum
    have s1 : ∀ q1 m1 v1, aS1 b z ord kd (aE b z q) m = .inr (q1, m1, v1) → q1 ≤ z ∧ (kd = 5 → v1 = none) ∧ (kd ≠ 5 → ∃ v, v1 = some v) := by
      intro q1 m1 v1 e
      unfold aS1 at e
      by_cases k5 : kd = 5
      · rw [if_pos k5] at e; cases e; exact ⟨hq1, fun _ => rfl, fun y => absurd k5 y⟩
      · rw [if_neg k5] at e
        cases hx : aP b z ord 60 3 0 (aE b z q) m with
        | inl x => rw [hx] at e; cases e
        | inr p =>
          obtain ⟨a1, a2, a3⟩ := p
          rw [hx] at e
          have ok := aP_ok hz 60 3 0 _ _ _ _ _ (by decide) hq1 hx
          cases e
          exact ⟨ok.2.1, fun y => absurd y k5, fun _ => ⟨a3, rfl⟩⟩
    cases h1 : aS1 b z ord kd (aE b z q) m with
    | inl x => rw [h1] at h; cases h
    | inr p =>
      obtain ⟨q1, m1, v1⟩ := p
      rw [h1] at h
      obtain ⟨t1, t2, t3⟩ := s1 _ _ _ h1
      have s2 : ∀ q2 m2 v2, aS2 b z ord kd q1 m1 = .inr (q2, m2, v2) → q2 ≤ z ∧ (ord = 0 ∨ ¬ (kd = 3 ∨ kd = 4) → v2 = none) ∧ (¬ (ord = 0 ∨ ¬ (kd = 3 ∨ kd = 4)) → ∃ v, v2 = some v) := by
        intro q2 m2 v2 e
        unfold aS2 at e
        by_cases c0 : ord = 0 ∨ ¬ (kd = 3 ∨ kd = 4)
        · rw [if_pos c0] at e; cases e; exact ⟨t1, fun _ => rfl, fun y => absurd c0 y⟩
        · rw [if_neg c0] at e
          by_cases c1 : aX b z q1 (if kd = 3 then 0 else 1) = some 0
          · rw [if_pos c1] at e
            have k1 : aK b z q1 ≠ 0 := by rw [aX_k c1]; decide
            cases hx : aP b z ord 60 3 0 (aE b z q1) m1 with
            | inl x => rw [hx] at e; cases e
            | inr p =>
              obtain ⟨a1, a2, a3⟩ := p
              rw [hx] at e
              have ok := aP_ok hz 60 3 0 _ _ _ _ _ (by decide) ((aE_gt k1).2.1 t1) hx
              cases e
              exact ⟨ok.2.1, fun y => absurd y c0, fun _ => ⟨a3, rfl⟩⟩
          · rw [if_neg c1] at e; cases e
      have h : (match aS2 b z ord kd q1 m1 with
        | .inl x => .inl x
        | .inr (q2, m2, v2) => match aTm b z ord q2 with
          | .inl x => .inl x
          | .inr (q3, tm) => match aIf b z ord q3 m2 with
            | .inl x => .inl x
            | .inr (q4, m4, v4) => .inr (q4, m4, kd, tm, v1, v2, v4)) = (.inr (q', m', c) : Nat ⊕ (Nat × Nat × aC5)) := h
      cases h2 : aS2 b z ord kd q1 m1 with
      | inl x => rw [h2] at h; cases h
      | inr p =>
        obtain ⟨q2, m2, v2⟩ := p
        rw [h2] at h
        obtain ⟨u1, u2, u3⟩ := s2 _ _ _ h2
        have s3 : ∀ q3 tm, aTm b z ord q2 = .inr (q3, tm) → q3 ≤ z ∧ 1 ≤ tm ∧ tm ≤ 20 := by
          intro q3 tm e
          unfold aTm at e
          by_cases c0 : ord = 0 ∨ ¬ aX b z q2 2 = some 0
          · rw [if_pos c0] at e; cases e; exact ⟨u1, by omega, by omega⟩
          · rw [if_neg c0] at e
            have cx : aX b z q2 2 = some 0 := Classical.not_not.mp (fun g => c0 (Or.inr g))
            have k1 : aK b z q2 ≠ 0 := by rw [aX_k cx]; decide
            by_cases c1 : aK b z (aE b z q2) = 2 ∧ 1 ≤ aN b z (aE b z q2) ∧ aN b z (aE b z q2) ≤ 20
            · rw [if_pos c1] at e
              cases e
              have k2 : aK b z (aE b z q2) ≠ 0 := by rw [c1.1]; decide
              exact ⟨(aE_gt k2).2.1 ((aE_gt k1).2.1 u1), c1.2.1, c1.2.2⟩
            · rw [if_neg c1] at e; cases e
        have h : (match aTm b z ord q2 with
          | .inl x => .inl x
          | .inr (q3, tm) => match aIf b z ord q3 m2 with
            | .inl x => .inl x
            | .inr (q4, m4, v4) => .inr (q4, m4, kd, tm, v1, v2, v4)) = (.inr (q', m', c) : Nat ⊕ (Nat × Nat × aC5)) := h
        cases h3 : aTm b z ord q2 with
        | inl x => rw [h3] at h; cases h
        | inr p =>
          obtain ⟨q3, tm⟩ := p
          rw [h3] at h
          obtain ⟨w1, w2, w3⟩ := s3 _ _ h3
          have s4 : ∀ q4 m4 v4, aIf b z ord q3 m2 = .inr (q4, m4, v4) → q4 ≤ z ∧ ∀ v, v4 = some v → vTF v := by
            intro q4 m4 v4 e
            unfold aIf at e
            by_cases c1 : aX b z q3 3 = some 0
            · rw [if_pos c1] at e
              have k1 : aK b z q3 ≠ 0 := by rw [aX_k c1]; decide
              cases hx : aP b z ord 60 0 0 (aE b z q3) m2 with
              | inl x => rw [hx] at e; cases e
              | inr p =>
                obtain ⟨a1, a2, a3⟩ := p
                rw [hx] at e
                have ok := aP_ok hz 60 0 0 _ _ _ _ _ (by decide) ((aE_gt k1).2.1 w1) hx
                cases e
                exact ⟨ok.2.1, fun v hv => by cases hv; exact ok.2.2.2.2.1 (by decide)⟩
            · rw [if_neg c1] at e; cases e; exact ⟨w1, fun v hv => by cases hv⟩
          have h : (match aIf b z ord q3 m2 with
            | .inl x => .inl x
            | .inr (q4, m4, v4) => .inr (q4, m4, kd, tm, v1, v2, v4)) = (.inr (q', m', c) : Nat ⊕ (Nat × Nat × aC5)) := h
          cases h4 : aIf b z ord q3 m2 with
          | inl x => rw [h4] at h; cases h
          | inr p =>
            obtain ⟨q4, m4, v4⟩ := p
            rw [h4] at h
            obtain ⟨y1, y2⟩ := s4 _ _ _ h4
            have h : (.inr (q4, m4, kd, tm, v1, v2, v4) : Nat ⊕ (Nat × Nat × aC5)) = .inr (q', m', c) := h
            cases h
            exact ⟨y1, by show kd ≤ 5; omega, ⟨w2, w3⟩, t2, t3, u2, u3, y2⟩
theorem aTe_ok (hz : z ≤ 400) : ∀ (f q m : Nat) (cs cs' : List aC5), q ≤ z → (∀ c, c ∈ cs → CLk ord c) → aTe b z ord f q m cs = .inr cs' → (∀ c, c ∈ cs' → CLk ord c) ∧ cs.length < cs'.length ∧ cs'.length ≤ cs.length + f := by
  intro f
  induction f with
  | zero => intro q m cs cs' _ _ h; cases h
  | succ f ih =>
    intro q m cs cs' hq hc h
    have h : (match aCl b z ord q m with
      | .inl x => .inl x
      | .inr (q', m', c) => if aS b z q' = 59 then aTe b z ord f (aE b z q') m' (cs ++ [c]) else if aK b z q' = 0 then .inr (cs ++ [c]) else .inl (aF b z q')) = (.inr cs' : Nat ⊕ List aC5) := h
    cases hx : aCl b z ord q m with
    | inl x => rw [hx] at h; cases h
    | inr p =>
      obtain ⟨q', m', c⟩ := p
      rw [hx] at h
      obtain ⟨k1, k2⟩ := aCl_ok hz hq hx
      have hc2 : ∀ c', c' ∈ cs ++ [c] → CLk ord c' := by
        intro c' h
        rcases List.mem_append.mp h with g | g
        · exact hc c' g
        · rw [List.mem_singleton.mp g]; exact k2
      have hl : (cs ++ [c]).length = cs.length + 1 := List.length_append
      have h : (if aS b z q' = 59 then aTe b z ord f (aE b z q') m' (cs ++ [c]) else if aK b z q' = 0 then .inr (cs ++ [c]) else .inl (aF b z q')) = (.inr cs' : Nat ⊕ List aC5) := h
      by_cases g : aS b z q' = 59
      · rw [if_pos g] at h
        have k0 : aK b z q' ≠ 0 := by rw [aS_k (by omega) g]; decide
        obtain ⟨y1, y2, y3⟩ := ih _ _ _ _ ((aE_gt k0).2.1 k1) hc2 h
        exact ⟨y1, by omega, by omega⟩
      · rw [if_neg g] at h
        by_cases g2 : aK b z q' = 0
        · rw [if_pos g2] at h
          cases h
          exact ⟨hc2, by omega, by omega⟩
        · rw [if_neg g2] at h; cases h
end EY2
theorem RMs.txt {I X : tHI} (h : RMs I) {v : Int32} (e60 : X 60 = I 60) (e88 : X 88 = I 88) (e13 : X 0 13 = I 0 13) (e17 : X 0 17 = I 0 17) (e18 : X 0 18 = stv v) (e59 : X 59 = rfv (I 59) v) (e62 : X 62 = rfv (I 62) v) (e11 : X 61 11 = I 61 11) (e57 : X 61 57 = I 61 57) (e1 : X 61 1 = stv v) (e40 : X 40 1 = X 61 18) (e16 : X 0 16 = X 61 53) : RMs X := by
  have g := RM.st (v := v) h
  obtain ⟨-, g2, -⟩ := g
  obtain ⟨⟨-, -, m3, -⟩, -, m6⟩ := h
  show RM _ _ _ _ _ _ _
  unfold RM
  rw [e59, e62, e60, e88, e13, e57, e17, e11, e18, e1]
  exact ⟨⟨e40, e16, m3, rfl⟩, g2, m6⟩
theorem Inv.asm {S S' : tSH} {I X : tHI} {J J' : tHJ} (h : Inv S I J) (hT : TY S') (hR : RSt S' X 1 (X 63)) (hIm : RIm S' X) (hM : RMs X) (h38 : X 38 1 = 0) (h13 : X 61 13 = 0) (h34 : X 34 = I 34) (h35 : X 35 = I 35) (h66 : X 66 = I 66) (h67 : X 67 = I 67) (h8 : X 61 8 = I 61 8) (r0 : X 63 0 = I 63 0) (r1 : X 63 1 = I 63 1) (r2 : ∀ k, 9 ≤ k → k < 26 → X 63 k = I 63 k) (r3 : ∀ k, 32 ≤ k → k < 38 → X 63 k = I 63 k) (h20 : X 61 20 = 0) (h41 : X 61 41 = I 61 41) (h49 : X 49 = I 49) (h50 : X 50 = I 50) (hJ : KpJ J J') : Inv S' X J' := by
  refine ⟨hT, hR, ?_, ⟨0, by omega, h38, h13, fun k hk => by omega⟩, hIm, hM, h.2.2.2.2.2.2.cg ?_ h41 (fun y _ => by rw [h49]) (fun y _ => by rw [h50]) hJ⟩
  · rw [h34, h35, h66, h67]
    exact h.2.2.1.r h8 r0 r1 r2 r3
  · rw [h20]; exact h.2.2.2.2.2.2.1.1.symm
section LM
variable {n : Nat} {S : tSH} {J : tHJ} {k : Int32 → tHI → tHJ → Prop} {I : tHI} {at0 M nc : Nat}
theorem lawM_145 (hn : 1001 < n) (hat : at0 + 900 ≤ 5510) (hnc : nc ≤ 400) (h23 : I 61 23 = nI nc) (hk : ∀ X : tHI, (∀ x, x ≠ 63 → X x = I x) → (∀ i, i < nc → X 63 (at0 + 98 + 2 * i) = I 72 i ∧ X 63 (at0 + 98 + 2 * i + 1) = I 73 i) → (∀ y, (y < at0 + 98 ∨ at0 + 98 + 2 * nc ≤ y) → X 63 y = I 63 y) → F12_tell n S (uI X 63 3 (X 63 3 + 1)) J ((X 63 3 + 1) - 1) k) : ∀ (d f i : Nat) (X : tHI), i + d = nc → d < f → (∀ x, x ≠ 63 → X x = I x) → (∀ q, q < i → X 63 (at0 + 98 + 2 * q) = I 72 q ∧ X 63 (at0 + 98 + 2 * q + 1) = I 73 q) → (∀ y, (y < at0 + 98 ∨ at0 + 98 + 2 * i ≤ y) → X 63 y = I 63 y) → F12_law_L145 n S k f X J (nI at0) (nI i) := by
  intro d
  induction d with
  | zero =>
    intro f i X hi hf c1 c2 c3
    obtain ⟨f, rfl⟩ : ∃ g, f = g + 1 := ⟨f - 1, by omega⟩
    have hi : i = nc := by omega
    subst hi
    show F12_law_145 n S k (F12_law_L145 n S k f) X J (nI at0) (nI i)
    unfold F12_law_145
    rw [c1 61 (by decide), h23]
    have e : (uI X 63 3 (X 63 3 + 1)) 63 3 = X 63 3 + 1 := by rw [uIe, upe]
    rw [e]
    exact ⟨fun _ => hk X c1 c2 c3, fun y => absurd ((qle (by omega) (by omega)).mpr (Nat.le_refl _)) y⟩
  | succ d ih =>
    intro f i X hi hf c1 c2 c3
    obtain ⟨f, rfl⟩ : ∃ g, f = g + 1 := ⟨f - 1, by omega⟩
    show F12_law_145 n S k (F12_law_L145 n S k f) X J (nI at0) (nI i)
    unfold F12_law_145
    rw [c1 61 (by decide), h23]
    have e1 : nI at0 + 98 + 2 * nI i = nI (at0 + 98 + 2 * i) := by rw [show nI at0 + 98 = nI (at0 + 98) from qaddl _ 98, show 2 * nI i = nI (2 * i) from qmulr _ 2, nI_add]
    rw [e1, nI_1, nI_1, qn (by omega), qn (by omega), qn (by omega)]
    have e73 : (uI X 63 (at0 + 98 + 2 * i) (X 72 i)) 73 i = I 73 i := by rw [uIn (by decide), c1 73 (by decide)]
    rw [e73, c1 72 (by decide)]
    refine ⟨fun y => absurd ((qle (by omega) (by omega)).mp y) (by omega), fun _ => ⟨(qin (by omega)).mpr (by omega), (qin (by omega)).mpr (by omega), (qin (by omega)).mpr (by omega), (qin (by omega)).mpr (by omega), ?_⟩⟩
    refine ih f (i + 1) _ (by omega) (by omega) (fun x hx => by rw [uIn hx, uIn hx]; exact c1 x hx) (fun q hq => ?_) (fun y hy => ?_)
    · rw [uIe, uIe]
      by_cases e : q = i
      · subst e
        rw [upn (by omega), upe, upe]
        exact ⟨rfl, rfl⟩
      · rw [upn (by omega), upn (by omega), upn (by omega), upn (by omega)]
        exact c2 q (by omega)
    · rw [uIe, uIe, upn (by omega), upn (by omega)]
      exact c3 y (by omega)
theorem lawM_110 (hn : 1001 < n) (hat : at0 + 900 ≤ 5510) (hM : M ≤ 12) (h21 : I 61 21 = nI M) (hk : ∀ X : tHI, (∀ x, x ≠ 63 → X x = I x) → (∀ i, i < 8 * M → X 63 (at0 + 2 + i) = I 71 i) → (∀ y, (y < at0 + 2 ∨ at0 + 98 ≤ y) → X 63 y = I 63 y) → F12_law_L145 n S k n X J (nI at0) 0) : ∀ (d f i : Nat) (X : tHI), i + d = 8 * M → d < f → (∀ x, x ≠ 63 → X x = I x) → (∀ q, q < i → X 63 (at0 + 2 + q) = I 71 q) → (∀ y, (y < at0 + 2 ∨ at0 + 98 ≤ y) → X 63 y = I 63 y) → F12_law_L110 n S k f X J (nI at0) (nI i) := by
  have e8 : ∀ X : tHI, (∀ x, x ≠ 63 → X x = I x) → 8 * X 61 21 = nI (8 * M) := fun X c => by rw [c 61 (by decide), h21]; exact qmulr _ 8
  intro d
  induction d with
  | zero =>
    intro f i X hi hf c1 c2 c3
    obtain ⟨f, rfl⟩ : ∃ g, f = g + 1 := ⟨f - 1, by omega⟩
    have hi : i = 8 * M := by omega
    subst hi
    show F12_law_110 n S k (F12_law_L110 n S k f) X J (nI at0) (nI (8 * M))
    unfold F12_law_110
    rw [e8 X c1]
    exact ⟨fun _ => hk X c1 c2 c3, fun y => absurd ((qle (by omega) (by omega)).mpr (Nat.le_refl _)) y⟩
  | succ d ih =>
    intro f i X hi hf c1 c2 c3
    obtain ⟨f, rfl⟩ : ∃ g, f = g + 1 := ⟨f - 1, by omega⟩
    show F12_law_110 n S k (F12_law_L110 n S k f) X J (nI at0) (nI i)
    unfold F12_law_110
    rw [e8 X c1]
    have e1 : nI at0 + 2 + nI i = nI (at0 + 2 + i) := by rw [show nI at0 + 2 = nI (at0 + 2) from qaddl _ 2, nI_add]
    rw [e1, nI_1, qn (by omega), qn (by omega), c1 71 (by decide)]
    refine ⟨fun y => absurd ((qle (by omega) (by omega)).mp y) (by omega), fun _ => ⟨(qin (by omega)).mpr (by omega), (qin (by omega)).mpr (by omega), ?_⟩⟩
    refine ih f (i + 1) _ (by omega) (by omega) (fun x hx => by rw [uIn hx]; exact c1 x hx) (fun q hq => ?_) (fun y hy => ?_)
    · rw [uIe]
      by_cases e : q = i
      · subst e; rw [upe]
      · rw [upn (by omega)]; exact c2 q (by omega)
    · rw [uIe, upn (by omega)]
      exact c3 y (by omega)
end LM
