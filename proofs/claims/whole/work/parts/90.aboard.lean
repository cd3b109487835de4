/-! aboard -/
def okS (S : tSH) (I : tHI) (r W : Nat → Int32) (i : Nat) : Bool := decide ((if aO S I r (r (86 + 3 * i)).toNatClampNeg W (r (86 + 3 * i + 1)) = 0 then (1 : Int32) else 0) = (if r (86 + 3 * i + 2) = 1 then (1 : Int32) else 0))
def alS (S : tSH) (I : tHI) (r W : Nat → Int32) : Nat → Bool
  | 0 => true
  | i + 1 => alS S I r W i && okS S I r W i
def seS (S : tSH) (I : tHI) (r : Nat → Int32) (N C t : Nat) : Bool := alS S I r (WM (nI t) r N) C
def cnS (S : tSH) (I : tHI) (r : Nat → Int32) (N C : Nat) : Nat → Nat
  | 0 => 0
  | t + 1 => if seS S I r N C t then cnS S I r N C t + 1 else cnS S I r N C t
def fnS (S : tSH) (I : tHI) (r : Nat → Int32) (N C : Nat) (v1 : Int32) : Nat → Int32
  | 0 => -1
  | t + 1 => if seS S I r N C t then (if nI (cnS S I r N C t) = v1 then nI t else fnS S I r N C v1 t) else fnS S I r N C v1 t
section ABO
variable {n : Nat} {S : tSH} {I : tHI} {J : tHJ} {r W : Nat → Int32} {B N C : Nat}
theorem okS_I {X : tHI} {i : Nat} (h : FO S I r) (e1 : X 1 = I 1) (e89 : ∀ x, 89 ≤ x → X x = I x) : okS S X r W i = okS S I r W i := by unfold okS; rw [aO_I h e1 e89]
theorem alS_I {X : tHI} (h : FO S I r) (e1 : X 1 = I 1) (e89 : ∀ x, 89 ≤ x → X x = I x) : ∀ i, alS S X r W i = alS S I r W i := by
  intro i
  induction i with
  | zero => rfl
  | succ i ih =>
    show (alS S X r W i && okS S X r W i) = (alS S I r W i && okS S I r W i)
    rw [ih, okS_I h e1 e89]
theorem seS_I {X : tHI} {t : Nat} (h : FO S I r) (e1 : X 1 = I 1) (e89 : ∀ x, 89 ≤ x → X x = I x) : seS S X r N C t = seS S I r N C t := alS_I h e1 e89 C
theorem cnS_I {X : tHI} (h : FO S I r) (e1 : X 1 = I 1) (e89 : ∀ x, 89 ≤ x → X x = I x) : ∀ t, cnS S X r N C t = cnS S I r N C t := by
  intro t
  induction t with
  | zero => rfl
  | succ t ih =>
    show (if seS S X r N C t then cnS S X r N C t + 1 else cnS S X r N C t) = _
    rw [ih, seS_I h e1 e89]
    rfl
theorem fnS_I {X : tHI} {v1 : Int32} (h : FO S I r) (e1 : X 1 = I 1) (e89 : ∀ x, 89 ≤ x → X x = I x) : ∀ t, fnS S X r N C v1 t = fnS S I r N C v1 t := by
  intro t
  induction t with
  | zero => rfl
  | succ t ih =>
    show (if seS S X r N C t then (if nI (cnS S X r N C t) = v1 then nI t else fnS S X r N C v1 t) else fnS S X r N C v1 t) = _
    rw [ih, seS_I h e1 e89, cnS_I h e1 e89]
    rfl
theorem alS_f {i : Nat} (h : alS S I r W i = false) : ∀ d, alS S I r W (i + d) = false := by
  intro d
  induction d with
  | zero => exact h
  | succ d ih =>
    show (alS S I r W (i + d) && okS S I r W (i + d)) = false
    rw [ih]; rfl
theorem cnS_le : ∀ t, cnS S I r N C t ≤ t := by
  intro t
  induction t with
  | zero => exact Nat.le_refl 0
  | succ t ih =>
    show (if seS S I r N C t then cnS S I r N C t + 1 else cnS S I r N C t) ≤ t + 1
    by_cases g : seS S I r N C t = true
    · rw [if_pos g]; omega
    · rw [if_neg g]; omega
theorem cnS_mono {t : Nat} : ∀ d, cnS S I r N C t ≤ cnS S I r N C (t + d) := by
  intro d
  induction d with
  | zero => exact Nat.le_refl _
  | succ d ih =>
    show _ ≤ (if seS S I r N C (t + d) then cnS S I r N C (t + d) + 1 else cnS S I r N C (t + d))
    by_cases g : seS S I r N C (t + d) = true
    · rw [if_pos g]; omega
    · rw [if_neg g]; omega
theorem fnS_keep {t : Nat} {v1 : Int32} (h : ∀ j, t ≤ j → j < 1000 → ¬ nI (cnS S I r N C j) = v1) : ∀ d, t + d < 1000 → fnS S I r N C v1 (t + d) = fnS S I r N C v1 t := by
  intro d
  induction d with
  | zero => intro _; rfl
  | succ d ih =>
    intro hd
    show (if seS S I r N C (t + d) then (if nI (cnS S I r N C (t + d)) = v1 then nI (t + d) else fnS S I r N C v1 (t + d)) else fnS S I r N C v1 (t + d)) = _
    rw [if_neg (h (t + d) (by omega) (by omega)), ih (by omega)]
    by_cases g : seS S I r N C (t + d) = true
    · rw [if_pos g]
    · rw [if_neg g]
theorem seen_L (hT : TY S) (hn : 400 < n) (hQ0 : CQ S I r W) (hC : r 2 = nI C) (hC8 : C ≤ 8) {k : Int32 → tHI → tHJ → Prop} (hk : ∀ (X : tHI) (J' : tHJ), CK I X → CJ J J' → k (if alS S I r W C = true then 1 else 0) X J') : ∀ (d f i : Nat) (X : tHI) (J' : tHJ), i + d = C → d < f → alS S I r W i = true → CK I X → CJ J J' → F5_allSeen_L18 n S k f X J' (nI i) := by
  intro d
  induction d with
  | zero =>
    intro f i X J' hi hf ha c1 c2
    obtain ⟨f, rfl⟩ : ∃ g, f = g + 1 := ⟨f - 1, by omega⟩
    have : i = C := by omega
    subst this
    have e75 : X 7 5 = nI i := by have : X 7 5 = r 2 := (hQ0.cg c1).1.1.2.2.2.2; rw [this, hC]
    show F5_allSeen_18 n S k (F5_allSeen_L18 n S k f) X J' (nI i)
    unfold F5_allSeen_18 F5_allSeen_89
    have := hk X J' c1 c2
    rw [if_pos ha] at this
    exact ⟨fun _ => this, fun g => absurd ((by rw [e75]; exact (qle (by omega) (by omega)).mpr (Nat.le_refl _) : X 7 5 ≤ nI i)) g⟩
  | succ d ih =>
    intro f i X J' hi hf ha c1 c2
    obtain ⟨f, rfl⟩ : ∃ g, f = g + 1 := ⟨f - 1, by omega⟩
    have hQ := hQ0.cg c1
    have e75 : X 7 5 = nI C := by have : X 7 5 = r 2 := hQ.1.1.2.2.2.2; rw [this, hC]
    show F5_allSeen_18 n S k (F5_allSeen_L18 n S k f) X J' (nI i)
    unfold F5_allSeen_18
    rw [e75, qn (by omega)]
    refine ⟨fun g => ?_, fun _ => ⟨fun g => ?_, fun _ => ⟨(qin (by omega)).mpr (by omega), (qin (by omega)).mpr (by omega), ?_⟩⟩⟩
    · exfalso; have := (qle (by omega) (by omega)).mp g; omega
    · exfalso; have := (qle (a := 8) (by omega) (by omega)).mp g; omega
    · obtain ⟨⟨b, b1, b2⟩, ⟨p, p1, p2, p3⟩, -⟩ := hQ.1.2.2.2.2.2.1.2.2.2.2 i (by rw [hC, qi (by omega)]; omega)
      obtain ⟨g12, g13, g14⟩ := hQ.1.2.2.2.1 i (by omega)
      have g12 : X 12 i = r (86 + 3 * i) := g12
      have g13 : X 13 i = r (86 + 3 * i + 1) := g13
      have g14 : X 14 i = r (86 + 3 * i + 2) := g14
      rw [g12, g13, b1, p1]
      refine sp_outcome hT hn hQ (b := b) b2 (by omega) (fun X2 J2 y1 y2 => ?_)
      have hb12 := (hQ.has (J := J') b2).1
      have eo : aO S X r b W (nI p) = aO S I r (r (86 + 3 * i)).toNatClampNeg W (r (86 + 3 * i + 1)) := by
        rw [b1, qn (by omega), p1]
        exact aO_I hQ0.FO (c1.1 1 (by decide)) (fun x hx => c1.1 x (by omega))
      rw [eo, y1.1 14 (by decide), g14]
      refine ⟨(qin (by omega)).mpr (by omega), fun g => ?_, fun g => ?_⟩
      · rw [show nI i + 1 = nI (i + 1) from nI_add i 1]
        refine ih f (i + 1) X2 J2 (by omega) (by omega) ?_ (c1.trans y1) (c2.trans y2)
        show (alS S I r W i && okS S I r W i) = true
        rw [ha]
        unfold okS
        rw [decide_eq_true g]
        rfl
      · have := hk X2 J2 (c1.trans y1) (c2.trans y2)
        have ef : alS S I r W (i + 1) = false := by
          show (alS S I r W i && okS S I r W i) = false
          rw [ha]
          unfold okS
          rw [decide_eq_false g]
          rfl
        have := alS_f ef (C - (i + 1))
        rw [show i + 1 + (C - (i + 1)) = C by omega] at this
        rename_i hkk
        rw [this, if_neg (by decide)] at hkk
        exact hkk
/-- between the class's sets -/
def C3 (I X : tHI) : Prop := (∀ x, x ≠ 49 → X x = I x) ∧ ∀ y, 6 ≤ y → X 49 y = I 49 y
theorem pow_N {N : Nat} (h : N ≤ 6) : (1 : Int32) <<< ((nI N) &&& 31) = nI (2 ^ N) := by
  have : N = 0 ∨ N = 1 ∨ N = 2 ∨ N = 3 ∨ N = 4 ∨ N = 5 ∨ N = 6 := by omega
  rcases this with g | g | g | g | g | g | g <;> subst g <;> decide
theorem CQ.set {X : tHI} {t : Nat} (h : CQ S I r (WM 63 r N)) (hN : r 0 = nI N) (hN6 : N ≤ 6) (c : C3 I X) : CQ S (uI (uI (uI X 49 3 (sCh (nI t) r N)) 49 4 (sRe (nI t) r N)) 49 5 (sLe (nI t) r N)) r (WM (nI t) r N) := by
  have hK := h.1.2.2.2.2.2.1
  refine ⟨h.1.cg (fun i hi => by rw [uIn (by omega), uIn (by omega), uIn (by omega), c.1 _ (by omega)]) (fun x hx => by rw [uIn (by omega), uIn (by omega), uIn (by omega), c.1 _ (by omega)]), fun a h3 h12 => ?_, WM_b (WR.of hK.2.1 hK.le hN6) hK.1 hK.2.2.1⟩
  rw [uIe, uIe, uIe]
  by_cases a5 : a = 5
  · subst a5; rw [upe]; rfl
  by_cases a4 : a = 4
  · subst a4; rw [upn (by decide), upe]; rfl
  by_cases a3 : a = 3
  · subst a3; rw [upn (by decide), upn (by decide), upe]; rfl
  rw [upn a5, upn a4, upn a3, c.2 a (by omega), h.2.1 a h3 h12]
  unfold WM
  rw [if_neg a3, if_neg a4, if_neg a5, if_neg a3, if_neg a4, if_neg a5]
theorem sets_L (hT : TY S) (hn : 400 < n) (hQ0 : CQ S I r (WM 63 r N)) (hN : r 0 = nI N) (hN6 : N ≤ 6) (hC : r 2 = nI C) (hC8 : C ≤ 8) {v1 : Int32} (hv1 : -1 ≤ v1.toInt) {k : Int32 → tHI → tHJ → Prop} (hk : ∀ (X : tHI) (J' : tHJ), C3 I X → CJ J J' → k (if v1 = -1 then nI (cnS S I r N C (2 ^ N)) else fnS S I r N C v1 (2 ^ N)) X J') : ∀ (d f t : Nat) (X : tHI) (J' : tHJ), t + d = 2 ^ N → d < f → fnS S I r N C v1 t = -1 → C3 I X → CJ J J' → F5_setsAboard_L23 n S k f X J' v1 (nI (cnS S I r N C t)) (nI (2 ^ N)) (nI t) := by
  have hpow : 2 ^ N ≤ 64 := by
    have : N = 0 ∨ N = 1 ∨ N = 2 ∨ N = 3 ∨ N = 4 ∨ N = 5 ∨ N = 6 := by omega
    rcases this with g | g | g | g | g | g | g <;> subst g <;> decide
  intro d
  induction d with
  | zero =>
    intro f t X J' ht hf hv c1 c2
    obtain ⟨f, rfl⟩ : ∃ g, f = g + 1 := ⟨f - 1, by omega⟩
    have : t = 2 ^ N := by omega
    show F5_setsAboard_23 n S k (F5_setsAboard_L23 n S k f) X J' v1 _ _ (nI t)
    unfold F5_setsAboard_23
    have hh := hk X J' c1 c2
    rw [this] at hv ⊢
    rw [hv] at hh
    exact ⟨fun _ => hh, fun g => absurd ((qle (by omega) (by omega)).mpr (Nat.le_refl _)) g⟩
  | succ d ih =>
    intro f t X J' ht hf hv c1 c2
    obtain ⟨f, rfl⟩ : ∃ g, f = g + 1 := ⟨f - 1, by omega⟩
    have hcl := cnS_le (S := S) (I := I) (r := r) (N := N) (C := C) t
    show F5_setsAboard_23 n S k (F5_setsAboard_L23 n S k f) X J' v1 _ _ (nI t)
    unfold F5_setsAboard_23
    refine ⟨fun g => ?_, fun _ => ?_⟩
    · exfalso; have := (qle (by omega) (by omega)).mp g; omega
    · unfold F5_allSeen
      have hR := hQ0.1
      refine sp_weigh (r := r) (by omega) ?_ (N := N) ?_ hN6 ?_
      · rw [c1.1 3 (by decide), c1.1 4 (by decide), c1.1 5 (by decide), c1.1 6 (by decide)]; exact hR.2.1
      · rw [c1.1 2 (by decide), ← hN]; exact hR.1.2.2.1
      · have hQt := hQ0.set (t := t) hN hN6 c1
        refine seen_L (J := J') hT hn hQt hC hC8 (fun X2 J2 y1 y2 => ?_) C n 0 _ J' (by omega) (by omega) rfl (CK.rf _) (CJ.rf _)
        have es : alS S (uI (uI (uI X 49 3 (sCh (nI t) r N)) 49 4 (sRe (nI t) r N)) 49 5 (sLe (nI t) r N)) r (WM (nI t) r N) C = seS S I r N C t := alS_I hQ0.FO (by rw [uIn (by decide), uIn (by decide), uIn (by decide), c1.1 1 (by decide)]) (fun x hx => by rw [uIn (by omega), uIn (by omega), uIn (by omega), c1.1 x (by omega)]) C
        rw [es]
        have c3 : C3 I X2 := ⟨fun x hx => by rw [y1.1 x hx, uIn hx, uIn hx, uIn hx, c1.1 x hx], fun y hy => by rw [y1.2 y (by omega), uIe, upn (by omega), uIe, upn (by omega), uIe, upn (by omega), c1.2 y hy]⟩
        unfold F5_setsAboard_52
        have e1 : nI t + 1 = nI (t + 1) := nI_add t 1
        have e2 : nI (cnS S I r N C t) + 1 = nI (cnS S I r N C t + 1) := nI_add _ 1
        rw [e1, e2]
        intro _
        cases hz : seS S I r N C t with
        | true =>
          rw [if_pos rfl]
          refine ⟨fun _ => ⟨fun g => ?_, fun g => ?_⟩, fun g => absurd g (by decide)⟩
          · have ec : cnS S I r N C (t + 1) = cnS S I r N C t + 1 := by
              show (if seS S I r N C t then _ else _) = _
              rw [hz, if_pos rfl]
            rw [← ec]
            refine ih f (t + 1) X2 J2 (by omega) (by omega) ?_ c3 (c2.trans y2)
            show (if seS S I r N C t then (if nI (cnS S I r N C t) = v1 then nI t else fnS S I r N C v1 t) else fnS S I r N C v1 t) = -1
            rw [hz, if_pos rfl, if_neg g]
            exact hv
          · have := hk X2 J2 c3 (c2.trans y2)
            have nv : ¬ v1 = -1 := fun q => by
              rw [q] at g
              have := congrArg Int32.toInt g
              rw [qi (by omega), qneg] at this
              omega
            have ef : fnS S I r N C v1 (t + 1) = nI t := by
              show (if seS S I r N C t then (if nI (cnS S I r N C t) = v1 then nI t else fnS S I r N C v1 t) else fnS S I r N C v1 t) = nI t
              rw [hz, if_pos rfl, if_pos g]
            have ec : cnS S I r N C (t + 1) = cnS S I r N C t + 1 := by
              show (if seS S I r N C t then _ else _) = _
              rw [hz, if_pos rfl]
            have ek := fnS_keep (S := S) (I := I) (r := r) (N := N) (C := C) (t := t + 1) (v1 := v1) (fun j hj hj2 q => by
              have m := cnS_mono (S := S) (I := I) (r := r) (N := N) (C := C) (t := t + 1) (j - (t + 1))
              rw [show t + 1 + (j - (t + 1)) = j by omega] at m
              have l := cnS_le (S := S) (I := I) (r := r) (N := N) (C := C) j
              rw [← g] at q
              have := (qeq (by omega) (by omega)).mp q
              omega) (2 ^ N - (t + 1)) (by omega)
            rw [show t + 1 + (2 ^ N - (t + 1)) = 2 ^ N by omega, ef] at ek
            rw [if_neg nv, ek] at this
            exact this
        | false =>
          rw [if_neg (by decide)]
          refine ⟨fun g => absurd rfl g, fun _ => ?_⟩
          have ec : cnS S I r N C (t + 1) = cnS S I r N C t := by
            show (if seS S I r N C t then _ else _) = _
            rw [hz, if_neg (by decide)]
          rw [← ec]
          refine ih f (t + 1) X2 J2 (by omega) (by omega) ?_ c3 (c2.trans y2)
          show (if seS S I r N C t then (if nI (cnS S I r N C t) = v1 then nI t else fnS S I r N C v1 t) else fnS S I r N C v1 t) = -1
          rw [hz, if_neg (by decide)]
          exact hv
end ABO
