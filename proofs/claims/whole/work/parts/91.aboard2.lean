/-! aboard, II -/
section ABM
variable {n : Nat} {S : tSH} {I : tHI} {J : tHJ} {N B C : Nat}
theorem MQB.ofs (h20 : I 61 20 = 0) (hK : RK (I 63)) (n1 : I 63 0 = nI N) (n2 : N ≤ 6) (b1 : I 63 1 = nI B) (b2 : B ≤ 12) (hF : FO S I (I 63)) : MQB S I N B := ⟨⟨h20, n1, n2, hK.2.1, hK.le, hF⟩, WR.of hK.2.1 hK.le n2, b2, b1, fun b hb => WS.of hK n2 (by omega)⟩
theorem seenM_L (hn : 400 < n) (hM : MQB S I N B) (hK : RK (I 63)) (hC : I 63 2 = nI C) (hC8 : C ≤ 8) {t : Nat} (h41 : I 61 41 = nI t) {k : Int32 → tHI → tHJ → Prop} {kb12 : tHI → tHJ → Int32 → Int32 → Int32 → Int32 → Prop} {v1 v2 v3 v4 : Int32} (hk : ∀ (X : tHI) (J' : tHJ), MK I X → MJ J J' → F12_aboard_124 n S k kb12 X J' v1 v2 v3 v4 (if seS S I (I 63) N C t = true then 1 else 0)) : ∀ (d f i : Nat) (X : tHI) (J' : tHJ), i + d = C → d < f → MK I X → MJ J J' → F12_aboard_L37 n S k kb12 f X J' v1 v2 v3 v4 (if alS S I (I 63) (WM (nI t) (I 63) N) i = true then 1 else 0) (nI i) := by
  have hFO := hM.1.2.2.2.2.2
  have hB1 := hM.2.2.2.1
  have hB := hM.2.2.1
  intro d
  induction d with
  | zero =>
    intro f i X J' hi hf c1 c2
    obtain ⟨f, rfl⟩ : ∃ g, f = g + 1 := ⟨f - 1, by omega⟩
    have : i = C := by omega
    subst this
    have e1 : X 63 2 = nI i := by rw [c1.1 63 (by decide)]; exact hC
    show F12_aboard_37 n S k kb12 (F12_aboard_L37 n S k kb12 f) X J' v1 v2 v3 v4 _ (nI i)
    unfold F12_aboard_37
    exact ⟨fun _ => hk X J' c1 c2, fun g => absurd ((by rw [e1]; exact (qle (by omega) (by omega)).mpr (Nat.le_refl _) : X 63 2 ≤ nI i)) g⟩
  | succ d ih =>
    intro f i X J' hi hf c1 c2
    obtain ⟨f, rfl⟩ : ∃ g, f = g + 1 := ⟨f - 1, by omega⟩
    have e63 : X 63 = I 63 := c1.1 63 (by decide)
    show F12_aboard_37 n S k kb12 (F12_aboard_L37 n S k kb12 f) X J' v1 v2 v3 v4 _ (nI i)
    unfold F12_aboard_37
    have q0 : 86 + 3 * nI i = nI (86 + 3 * i) := by rw [ql 86, ql 3, qmul, nI_add]
    have q1 : nI (86 + 3 * i) + 1 = nI (86 + 3 * i + 1) := nI_add _ 1
    have q2 : nI (86 + 3 * i) + 2 = nI (86 + 3 * i + 2) := nI_add _ 2
    rw [e63, hC, q0, q1, q2, qn (by omega), qn (by omega), qn (by omega)]
    refine ⟨fun g => ?_, fun _ => ⟨fun g => ?_, fun g => ⟨(qin (by omega)).mpr (by omega), (qin (by omega)).mpr (by omega), ?_⟩⟩⟩
    · exfalso; have := (qle (by omega) (by omega)).mp g; omega
    · have ef : alS S I (I 63) (WM (nI t) (I 63) N) i = false := by
        cases hz : alS S I (I 63) (WM (nI t) (I 63) N) i with
        | true => rw [hz, if_pos rfl] at g; exact absurd g (by decide)
        | false => rfl
      have ea := alS_f ef (C - i)
      rw [show i + (C - i) = C by omega] at ea
      have := hk X J' c1 c2
      unfold seS at this
      rw [ea] at this
      rw [ef]
      exact this
    · have et : alS S I (I 63) (WM (nI t) (I 63) N) i = true := by
        cases hz : alS S I (I 63) (WM (nI t) (I 63) N) i with
        | true => rfl
        | false => rw [hz] at g; exact absurd rfl g
      obtain ⟨⟨b, b1, b2⟩, -, -⟩ := hK.2.2.2.2 i (by rw [hC, qi (by omega)]; omega)
      have hbB : b < B := by rw [hB1, qi (by omega)] at b2; omega
      rw [b1]
      refine sp_goesNow hn (hM.cg c1) hbB (fun X2 J2 y1 y2 => ⟨(qin (by omega)).mpr (by omega), ?_⟩)
      have eo : aO S X (X 63) b (WI X N) (I 63 (86 + 3 * i + 1)) = aO S I (I 63) (I 63 (86 + 3 * i)).toNatClampNeg (WM (nI t) (I 63) N) (I 63 (86 + 3 * i + 1)) := by
        have eW : WI X N = WM (nI t) (I 63) N := by show WM (X 61 41) (X 63) N = _; rw [c1.2 41 (by decide), h41, e63]
        rw [b1, qn (by omega), eW, e63]
        exact aO_I hFO (c1.1 1 (by decide)) (fun x hx => c1.1 x (by omega))
      rw [eo, y1.1 63 (by decide), e63, show nI i + 1 = nI (i + 1) from nI_add i 1]
      have key := ih f (i + 1) X2 J2 (by omega) (by omega) (c1.trans y1) (c2.trans y2)
      have e2 : (alS S I (I 63) (WM (nI t) (I 63) N) (i + 1) = true) ↔ ((if aO S I (I 63) (I 63 (86 + 3 * i)).toNatClampNeg (WM (nI t) (I 63) N) (I 63 (86 + 3 * i + 1)) = 0 then (1 : Int32) else 0) = (if I 63 (86 + 3 * i + 2) = 1 then (1 : Int32) else 0)) := by
        show ((alS S I (I 63) (WM (nI t) (I 63) N) i && okS S I (I 63) (WM (nI t) (I 63) N) i) = true) ↔ _
        rw [et, Bool.true_and]
        unfold okS
        exact decide_eq_true_iff
      by_cases z : (if aO S I (I 63) (I 63 (86 + 3 * i)).toNatClampNeg (WM (nI t) (I 63) N) (I 63 (86 + 3 * i + 1)) = 0 then (1 : Int32) else 0) = (if I 63 (86 + 3 * i + 2) = 1 then (1 : Int32) else 0)
      · rw [if_pos (e2.mpr z)] at key
        rw [if_pos z]
        exact key
      · rw [if_neg (fun q => z (e2.mp q))] at key
        rw [if_neg z]
        exact key
def MS (I X : tHI) : Prop := (∀ x, x ≠ 61 → X x = I x) ∧ ∀ y, y ∉ [41, 34, 38, 42, 43, 44] → X 61 y = I 61 y
theorem setsM_L (hn : 400 < n) (hM : MQB S I N B) (hK : RK (I 63)) (hC : I 63 2 = nI C) (hC8 : C ≤ 8) (c63 : I 61 41 = 63) {v1 : Int32} {k : Int32 → tHI → tHJ → Prop} (hk : ∀ (X : tHI) (J' : tHJ), MK I X → MJ J J' → k (if v1 = -1 then nI (cnS S I (I 63) N C (2 ^ N)) else fnS S I (I 63) N C v1 (2 ^ N)) X J') : ∀ (d f t : Nat) (X : tHI) (J' : tHJ), t + d = 2 ^ N → d < f → MS I X → MJ J J' → F12_aboard_L12 n S k f X J' v1 (nI (cnS S I (I 63) N C t)) (fnS S I (I 63) N C v1 t) (nI t) := by
  have hN6 := hM.1.2.2.1
  have hN := hM.1.2.1
  have hFO := hM.1.2.2.2.2.2
  have hpow : 2 ^ N ≤ 64 := by
    have : N = 0 ∨ N = 1 ∨ N = 2 ∨ N = 3 ∨ N = 4 ∨ N = 5 ∨ N = 6 := by omega
    rcases this with g | g | g | g | g | g | g <;> subst g <;> decide
  intro d
  induction d with
  | zero =>
    intro f t X J' ht hf c1 c2
    obtain ⟨f, rfl⟩ : ∃ g, f = g + 1 := ⟨f - 1, by omega⟩
    have : t = 2 ^ N := by omega
    show F12_aboard_12 n S k (F12_aboard_L12 n S k f) X J' v1 _ _ (nI t)
    unfold F12_aboard_12
    rw [c1.1 63 (by decide), hN, pow_N hN6, this]
    refine ⟨fun _ => hk _ J' ⟨fun x hx => by rw [uIn hx, c1.1 x hx], fun y hy => ?_⟩ c2, fun g => absurd ((qle (by omega) (by omega)).mpr (Nat.le_refl _)) g⟩
    rw [uIe]
    by_cases g : y = 41
    · subst g; rw [upe, c63]
    · rw [upn g]; exact c1.2 y (fun q => by
        rcases List.mem_cons.mp q with e | e
        · exact g e
        · exact hy e)
  | succ d ih =>
    intro f t X J' ht hf c1 c2
    obtain ⟨f, rfl⟩ : ∃ g, f = g + 1 := ⟨f - 1, by omega⟩
    show F12_aboard_12 n S k (F12_aboard_L12 n S k f) X J' v1 _ _ (nI t)
    unfold F12_aboard_12
    rw [c1.1 63 (by decide), hN, pow_N hN6]
    refine ⟨fun g => ?_, fun _ => ?_⟩
    · exfalso; have := (qle (by omega) (by omega)).mp g; omega
    · have e63 : (uI X 61 41 (nI t)) 63 = I 63 := by rw [uIn (by decide), c1.1 63 (by decide)]
      have e1 : (uI X 61 41 (nI t)) 1 = I 1 := by rw [uIn (by decide), c1.1 1 (by decide)]
      have e89 : ∀ x, 89 ≤ x → (uI X 61 41 (nI t)) x = I x := fun x hx => by rw [uIn (by omega), c1.1 x (by omega)]
      have hMX : MQB S (uI X 61 41 (nI t)) N B := MQB.ofs (by rw [uIe, upn (by decide), c1.2 20 (by decide)]; exact hM.1.1) (by rw [e63]; exact hK) (by rw [e63]; exact hN) hN6 (by rw [e63]; exact hM.2.2.2.1) hM.2.2.1 (by rw [e63]; exact hFO.cg e1 e89 rfl (fun _ _ => rfl))
      refine seenM_L (J := J') hn hMX (by rw [e63]; exact hK) (by rw [e63]; exact hC) hC8 (t := t) (by rw [uIe, upe]) (fun X2 J2 y1 y2 => ?_) C n 0 _ J' (by omega) (by omega) (MK.rf _) (MJ.rf _)
      have es : seS S (uI X 61 41 (nI t)) ((uI X 61 41 (nI t)) 63) N C t = seS S I (I 63) N C t := by rw [e63]; exact seS_I hFO e1 e89
      rw [es]
      unfold F12_aboard_124
      have m2 : MS I X2 := ⟨fun x hx => by rw [y1.1 x hx, uIn hx, c1.1 x hx], fun y hy => by rw [y1.2 y (fun q => hy (List.mem_cons_of_mem _ q)), uIe, upn (fun q => hy (by subst q; decide)), c1.2 y hy]⟩
      have key := ih f (t + 1) X2 J2 (by omega) (by omega) m2 (c2.trans y2)
      have f1 : fnS S I (I 63) N C v1 (t + 1) = if seS S I (I 63) N C t then (if nI (cnS S I (I 63) N C t) = v1 then nI t else fnS S I (I 63) N C v1 t) else fnS S I (I 63) N C v1 t := rfl
      have f2 : cnS S I (I 63) N C (t + 1) = if seS S I (I 63) N C t then cnS S I (I 63) N C t + 1 else cnS S I (I 63) N C t := rfl
      rw [f1, f2] at key
      rw [show nI t + 1 = nI (t + 1) from nI_add t 1]
      cases hz : seS S I (I 63) N C t with
      | true =>
        rw [hz, if_pos rfl, if_pos rfl] at key
        rw [if_pos rfl, if_neg (by decide), if_neg (by decide), show nI (cnS S I (I 63) N C t) + 1 = nI (cnS S I (I 63) N C t + 1) from nI_add _ 1]
        exact key
      | false =>
        rw [hz, if_neg (by decide), if_neg (by decide)] at key
        have e0 : (if false = true then (1 : Int32) else 0) = 0 := rfl
        rw [if_pos e0, if_pos e0]
        exact key
theorem st_aboard (hn : 400 < n) : tSt_aboard n Inv := by
  intro S I J v1 h
  obtain ⟨N, B, n1, n2, b1, b2, c63, hM⟩ := h.mq
  have hRK := h.2.1.2.2.2.2.2.1
  obtain ⟨C, cc1, cc2⟩ := hRK.1.2.2.1
  have hpow : 2 ^ N ≤ 64 := by
    have : N = 0 ∨ N = 1 ∨ N = 2 ∨ N = 3 ∨ N = 4 ∨ N = 5 ∨ N = 6 := by omega
    rcases this with g | g | g | g | g | g | g <;> subst g <;> decide
  have md : ∀ (X : tHI) (X2 : tHI) (J2 : tHJ) (v : Int32), Inv S X2 J2 → X2 63 = I 63 → X2 1 = X 1 → (∀ x, 89 ≤ x → X2 x = X x) → FO S X (I 63) → v = (if v1 = -1 then nI (cnS S X (I 63) N C (2 ^ N)) else fnS S X (I 63) N C v1 (2 ^ N)) → F12_aboard n S X2 J2 v1 (fun y I2 J2 => v = y ∧ Inv S I2 J2) := by
    intro X X2 J2 v hI2 e63 g1 g89 hF hv
    have hI3 := hI2.th
    have e63' : (uI X2 61 0 0) 63 = I 63 := by rw [uIn (by decide)]; exact e63
    have c63' : (uI X2 61 0 0) 61 41 = 63 := hI3.2.2.2.2.2.2.1.2
    obtain ⟨N', B', n1', n2', b1', b2', -, hM'⟩ := hI3.mq
    have eN : N' = N := (qeq (by omega) (by omega)).mp (by rw [← n1', e63', n1])
    subst eN
    unfold F12_aboard
    refine setsM_L hn hM' (by rw [e63']; exact hRK) (by rw [e63']; exact cc1) cc2 c63' (fun X3 J3 z1 z2 => ⟨?_, hI3.keep (KpI.m z1) (KpJ.m z2)⟩) (2 ^ N') n 0 (uI X2 61 0 0) J2 (by omega) (by omega) ⟨fun _ _ => rfl, fun _ _ => rfl⟩ (MJ.rf _)
    rw [e63', cnS_I hF (by rw [uIn (by decide), g1]) (fun x hx => by rw [uIn (by omega), g89 x hx]), fnS_I hF (by rw [uIn (by decide), g1]) (fun x hx => by rw [uIn (by omega), g89 x hx])]
    exact hv
  unfold F11_aboard
  refine ⟨fun c => ?_, fun c => ?_⟩
  · rw [Int32.le_iff_toInt_le, qneg] at c
    refine sp_asIt (r := I 63) (by omega) h.2.1 n1 n2 h.2.2.2.2.2.2.2.1 (fun X x1 x2 hQ => ?_)
    unfold F5_setsAboard
    have e20 : X 2 0 = nI N := by have : X 2 0 = I 63 0 := hQ.1.1.2.2.1; rw [this, n1]
    have ep : (1 : Int32) <<< ((if 6 < X 2 0 then 6 else X 2 0) &&& 31) = nI (2 ^ N) := by
      rw [e20, if_neg (fun q => by have := (qlt (a := 6) (by omega) (by omega)).mp q; omega)]
      exact pow_N n2
    rw [ep]
    refine sets_L (J := J) h.1 hn hQ n1 n2 cc1 cc2 c (fun X2 J2 y1 y2 => ?_) (2 ^ N) n 0 X J (by omega) (by omega) rfl ⟨fun _ _ => rfl, fun _ _ => rfl⟩ (CJ.rf J)
    exact md X X2 J2 _ (h.keep ((KpI.c x1 x2).trans (KpI.c y1.1 (fun y hy => by
      have : y = 8 ∨ y = 9 ∨ y = 10 := by simpa using hy
      exact y1.2 y (by omega)))) (KpJ.c y2)) (by rw [y1.1 63 (by decide), x1 63 (by decide)]) (y1.1 1 (by decide)) (fun x hx => y1.1 x (by omega)) hQ.FO rfl
  · rw [Int32.le_iff_toInt_le, qneg] at c
    refine md I I J (-1) h rfl rfl (fun _ _ => rfl) (FO.of h.2.1) ?_
    have nv : ¬ v1 = -1 := fun q => c (by rw [q, qneg]; omega)
    rw [if_neg nv]
    have := fnS_keep (S := S) (I := I) (r := I 63) (N := N) (C := C) (t := 0) (v1 := v1) (fun j hj hj2 q => by
      have l := cnS_le (S := S) (I := I) (r := I 63) (N := N) (C := C) j
      rw [← q, qi (by omega)] at c
      omega) (2 ^ N) (by omega)
    rw [Nat.zero_add] at this
    rw [this]
    rfl
end ABM
