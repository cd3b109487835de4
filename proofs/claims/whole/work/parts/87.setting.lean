/-! setting, II -/
section STG
variable {n : Nat} {S : tSH} {I : tHI} {J : tHJ} {r W : Nat → Int32} {B : Nat}
theorem plS_I {X : tHI} (h : FO S I r) (e1 : X 1 = I 1) (e89 : ∀ x, 89 ≤ x → X x = I x) : ∀ b, plS S X r W b = plS S I r W b := by
  intro b
  induction b with
  | zero => rfl
  | succ b ih =>
    show plS S X r W b + absI (aT S X r b W 3) * r (38 + 4 * b + 1) = plS S I r W b + absI (aT S I r b W 3) * r (38 + 4 * b + 1)
    rw [ih, aT_I h e1 e89]
theorem bars_in (hT : TY S) (hn : 400 < n) (hQ0 : CQ S I r W) (hB : r 1 = nI B) (hB12 : B ≤ 12) {k : Int32 → tHI → tHJ → Prop} {kb9 : tHI → tHJ → Int32 → Int32 → Int32 → Int32 → Prop} {v1 v2 v3 v4 : Int32} (hk : ∀ (X : tHI) (J' : tHJ), CK I X → CJ J J' → F5_bestBars_94 n S k kb9 X J' v1 v2 v3 v4 (plS S I r W B)) : ∀ (d f b : Nat) (X : tHI) (J' : tHJ), b + d = B → d < f → CK I X → CJ J J' → F5_bestBars_L34 n S k kb9 f X J' v1 v2 v3 v4 (plS S I r W b) (nI b) := by
  intro d
  induction d with
  | zero =>
    intro f b X J' hb hf c1 c2
    obtain ⟨f, rfl⟩ : ∃ g, f = g + 1 := ⟨f - 1, by omega⟩
    have hQ := hQ0.cg c1
    have e70 : X 7 0 = nI B := by have : X 7 0 = r 1 := hQ.1.1.2.2.2.1; rw [this, hB]
    show F5_bestBars_34 n S k kb9 (F5_bestBars_L34 n S k kb9 f) X J' v1 v2 v3 v4 (plS S I r W b) (nI b)
    unfold F5_bestBars_34
    have : b = B := by omega
    subst this
    exact ⟨fun _ => hk X J' c1 c2, fun g => absurd ((by rw [e70]; exact (qle (by omega) (by omega)).mpr (by omega) : X 7 0 ≤ nI b)) g⟩
  | succ d ih =>
    intro f b X J' hb hf c1 c2
    obtain ⟨f, rfl⟩ : ∃ g, f = g + 1 := ⟨f - 1, by omega⟩
    have hQ := hQ0.cg c1
    have e70 : X 7 0 = nI B := by have : X 7 0 = r 1 := hQ.1.1.2.2.2.1; rw [this, hB]
    show F5_bestBars_34 n S k kb9 (F5_bestBars_L34 n S k kb9 f) X J' v1 v2 v3 v4 (plS S I r W b) (nI b)
    unfold F5_bestBars_34
    rw [e70]
    refine ⟨fun g => ?_, fun _ => ⟨fun g => ?_, fun _ => ?_⟩⟩
    · exfalso; have := (qle (by omega) (by omega)).mp g; omega
    · exfalso; have := (qle (a := 12) (by omega) (by omega)).mp g; omega
    · have hbi : (b : Int) < (r 1).toInt := by rw [hB, qi (by omega)]; omega
      refine sp_tellQ hT hn hQ hbi (kd := 3) (by omega) (fun X2 J2 y1 y2 => ?_)
      have hQ2 := hQ.cg y1
      obtain ⟨hb12, -, -, h9, -⟩ := hQ2.has (J := J2) hbi
      have e3 : nI b + 1 = nI (b + 1) := nI_add b 1
      rw [aT_I hQ0.FO (c1.1 1 (by decide)) (fun x hx => c1.1 x (by omega)), qn (by omega), h9, e3]
      exact ⟨(qin (by omega)).mpr hb12, ih f (b + 1) X2 J2 (by omega) (by omega) (c1.trans y1) (c2.trans y2)⟩
def C6 (I X : tHI) : Prop := (∀ x, x ≠ 49 → X x = I x) ∧ ∀ y, 3 ≤ y → y ≠ 6 → y ≠ 7 → X 49 y = I 49 y
theorem C6.trans {I X Y : tHI} (h : C6 I X) (g : CK X Y) : C6 I Y := ⟨fun x q => (g.1 x q).trans (h.1 x q), fun y p q s => (g.2 y p).trans (h.2 y p q s)⟩
theorem CQ.at6 {X : tHI} {v : Int32} (h : CQ S I r W) (c : (∀ x, x ≠ 49 → X x = I x) ∧ ∀ y, 3 ≤ y → y ≠ 6 → X 49 y = I 49 y) (hv : -1000000000 ≤ v.toInt ∧ v.toInt ≤ 1000000000) : CQ S (uI X 49 6 v) r (Wat W 6 v) := by
  refine ⟨h.1.cg (fun i hi => by rw [uIn (by omega), c.1 _ (by omega)]) (fun x hx => by rw [uIn (by omega), c.1 _ (by omega)]), fun a h3 h12 => ?_, fun a h3 h12 => ?_⟩
  · rw [uIe]
    unfold Wat
    by_cases g : a = 6
    · subst g; rw [upe, if_pos rfl]
    · rw [upn g, if_neg g, c.2 a h3 g]; exact h.2.1 a h3 h12
  · unfold Wat
    by_cases g : a = 6
    · rw [if_pos g]; exact hv
    · rw [if_neg g]; exact h.2.2 a h3 h12
theorem bars_out (hT : TY S) (hn : 400 < n) (hQ0 : CQ S I r W) (hB : r 1 = nI B) (hB12 : B ≤ 12) {far : Int32} {k : Int32 → tHI → tHJ → Prop} {v1 : Int32} (hk : ∀ (X : tHI) (J' : tHJ), ((∀ x, x ≠ 49 → X x = I x) ∧ ∀ y, 3 ≤ y → y ≠ 6 → X 49 y = I 49 y) → CJ J J' → k (if v1 = 0 then bbF (fun i => plS S I r (Wat W 6 (vi i)) B) far 19 + 9 else bbL (fun i => plS S I r (Wat W 6 (vi i)) B) far 19) X J') : ∀ (d f i : Nat) (X : tHI) (J' : tHJ), i + d = 19 → d < f → ((∀ x, x ≠ 49 → X x = I x) ∧ ∀ y, 3 ≤ y → y ≠ 6 → X 49 y = I 49 y) → CJ J J' → F5_bestBars_L9 n S k f X J' v1 (bbL (fun i => plS S I r (Wat W 6 (vi i)) B) far i) (bbF (fun i => plS S I r (Wat W 6 (vi i)) B) far i) (vi i) := by
  have z9 : (9 : Int32).toInt = 9 := rfl
  intro d
  induction d with
  | zero =>
    intro f i X J' hi hf c1 c2
    obtain ⟨f, rfl⟩ : ∃ g, f = g + 1 := ⟨f - 1, by omega⟩
    have : i = 19 := by omega
    subst this
    show F5_bestBars_9 n S k (F5_bestBars_L9 n S k f) X J' v1 _ _ (vi 19)
    unfold F5_bestBars_9
    refine ⟨fun _ => hk X J' c1 c2, fun g => ?_⟩
    exfalso
    exact g (by rw [Int32.lt_iff_toInt_lt, vi_i (by omega), z9]; omega)
  | succ d ih =>
    intro f i X J' hi hf c1 c2
    obtain ⟨f, rfl⟩ : ∃ g, f = g + 1 := ⟨f - 1, by omega⟩
    show F5_bestBars_9 n S k (F5_bestBars_L9 n S k f) X J' v1 _ _ (vi i)
    unfold F5_bestBars_9
    refine ⟨fun g => ?_, fun _ => ?_⟩
    · exfalso
      rw [Int32.lt_iff_toInt_lt, vi_i (by omega), z9] at g
      omega
    · have hv := vi_i (i := i) (by omega)
      have hQ6 : CQ S (uI X 49 6 (vi i)) r (Wat W 6 (vi i)) := hQ0.at6 c1 (by omega)
      refine bars_in (J := J') hT hn hQ6 hB hB12 (fun X2 J2 y1 y2 => ?_) B n 0 (uI X 49 6 (vi i)) J' (by omega) (by omega) (CK.rf _) (CJ.rf _)
      rw [plS_I hQ0.FO (by rw [uIn (by decide), c1.1 1 (by decide)]) (fun x hx => by rw [uIn (by omega), c1.1 x (by omega)])]
      unfold F5_bestBars_94
      rw [vi_s (by omega)]
      refine ih f (i + 1) X2 J2 (by omega) (by omega) ⟨fun x hx => by rw [y1.1 x hx, uIn hx, c1.1 x hx], fun y h3 h6 => by rw [y1.2 y h3, uIe, upn h6, c1.2 y h3 h6]⟩ (c2.trans y2)
end STG
section STM
variable {n : Nat} {S : tSH} {I : tHI} {J : tHJ} {r : Nat → Int32} {N B : Nat}
theorem MQB.of (h20 : I 61 20 = 0) (h41 : I 61 41 = 63) (hK : RK (I 63)) (n1 : I 63 0 = nI N) (n2 : N ≤ 6) (b1 : I 63 1 = nI B) (b2 : B ≤ 12) (hF : FO S I (I 63)) : MQB S I N B := ⟨⟨h20, n1, n2, hK.2.1, hK.le, hF⟩, by rw [h41]; exact WR.of hK.2.1 hK.le n2, b2, b1, fun b hb => by show WS (I 63) b (WM (I 61 41) (I 63) N); rw [h41]; exact WS.of hK n2 (by omega)⟩
theorem RK.up8 (h : RK r) {v : Int32} (hv : -9 ≤ v.toInt ∧ v.toInt ≤ 9) : RK (up r 8 v) := by
  obtain ⟨k0, k1, k2, k3, k4⟩ := h
  exact ⟨k0.upd (by omega) (fun q => by omega) (fun q => by omega) (fun _ => hv), k1.r (fun k p q => upn (by omega)), k2.r (upn (by omega)) (fun k p q => upn (by omega)) (fun k p => upn (by omega)), k3.r (fun k p q => upn (by omega)), k4.r (upn (by omega)) (upn (by omega)) (fun k p q => upn (by omega)) (KR.le8 k0)⟩
theorem neg_z (x : Int32) : -x = 0 - x := by simp
theorem barsM_in (hn : 400 < n) {v : Int32} (h63 : I 63 = up r 8 v) (hM : MQB S I N B) (c63 : I 61 41 = 63) {k : Int32 → tHI → tHJ → Prop} {kb36 : tHI → tHJ → Int32 → Int32 → Int32 → Int32 → Int32 → Prop} {v1 v2 v3 v4 v5 : Int32} (hk : ∀ (X : tHI) (J' : tHJ), MK I X → MJ J J' → kb36 X J' v1 v2 (if v3 ≤ plS S I r (Wat (WM 63 r N) 6 v) B then v3 else plS S I r (Wat (WM 63 r N) 6 v) B) (if v3 ≤ plS S I r (Wat (WM 63 r N) 6 v) B then v4 else v5) (v5 + 1)) : ∀ (d f b : Nat) (X : tHI) (J' : tHJ), b + d = B → d < f → MK I X → MJ J J' → F12_setting_L58 n S k kb36 f X J' v1 v2 v3 v4 v5 (plS S I r (Wat (WM 63 r N) 6 v) b) (nI b) := by
  have hB := hM.2.2.1
  have hB1 := hM.2.2.2.1
  have hN6 := hM.1.2.2.1
  intro d
  induction d with
  | zero =>
    intro f b X J' hb hf c1 c2
    obtain ⟨f, rfl⟩ : ∃ g, f = g + 1 := ⟨f - 1, by omega⟩
    show F12_setting_58 n S k kb36 (F12_setting_L58 n S k kb36 f) X J' v1 v2 v3 v4 v5 (plS S I r (Wat (WM 63 r N) 6 v) b) (nI b)
    unfold F12_setting_58
    have : b = B := by omega
    subst this
    have e1 : X 63 1 = nI b := by rw [c1.1 63 (by decide)]; exact hB1
    exact ⟨fun _ => hk X J' c1 c2, fun g => absurd ((by rw [e1]; exact (qle (by omega) (by omega)).mpr (by omega) : X 63 1 ≤ nI b)) g⟩
  | succ d ih =>
    intro f b X J' hb hf c1 c2
    obtain ⟨f, rfl⟩ : ∃ g, f = g + 1 := ⟨f - 1, by omega⟩
    show F12_setting_58 n S k kb36 (F12_setting_L58 n S k kb36 f) X J' v1 v2 v3 v4 v5 (plS S I r (Wat (WM 63 r N) 6 v) b) (nI b)
    unfold F12_setting_58
    have e1 : X 63 1 = nI B := by rw [c1.1 63 (by decide)]; exact hB1
    rw [e1]
    refine ⟨fun g => ?_, fun _ => ?_⟩
    · exfalso; have := (qle (by omega) (by omega)).mp g; omega
    · have hMX := hM.cg c1
      have hb12 : b < 12 := by omega
      refine sp_pulls hn hMX.1 hb12 (hMX.2.2.2.2 b (by omega)) hMX.2.1 (fun X2 J2 y1 y2 => ?_)
      have eX : X 63 = up r 8 v := by rw [c1.1 63 (by decide)]; exact h63
      have ev : aT S X (X 63) b (WI X N) 3 = aT S I r b (Wat (WM 63 r N) 6 v) 3 := by
        rw [aT_MK hM.1.2.2.2.2.2 c1]
        refine aT_row hb12 (fun k p q => by rw [h63]; exact upn (by omega)) (fun a h3 h12 => ?_)
        show WM (I 61 41) (I 63) N a = _
        rw [c63, h63]
        exact WM_8 hN6
      obtain ⟨o1, o2⟩ := ofB (S := S) (I := X2) (J := J2) hb12 (q := 1) (by decide) (v := nI b) rfl (w := 1) rfl
      have e3 : nI b + 1 = nI (b + 1) := nI_add b 1
      rw [ev, o1, y1.1 63 (by decide), eX, upn (show 38 + 4 * b + 1 ≠ 8 by omega), e3, neg_z]
      exact ⟨o2, ih f (b + 1) X2 J2 (by omega) (by omega) (c1.trans y1) (c2.trans y2)⟩
/-- between the model's rounds: the row but for its cell q -/
def MQq (I X : tHI) (q : Nat) : Prop := (∀ x, x ≠ 61 → x ≠ 63 → X x = I x) ∧ (∀ y, y ∉ [34, 38, 42, 43, 44] → X 61 y = I 61 y) ∧ ∃ w, X 63 = up (I 63) q w
theorem up_up {f : Nat → Int32} {q : Nat} {v w : Int32} : up (up f q v) q w = up f q w := by
  funext y
  unfold up
  by_cases g : y = q
  · rw [if_pos g, if_pos g]
  · rw [if_neg g, if_neg g, if_neg g]
theorem up_id {f : Nat → Int32} {q : Nat} : up f q (f q) = f := by
  funext y
  unfold up
  by_cases g : y = q
  · rw [if_pos g, g]
  · rw [if_neg g]
theorem barsM_out (hn : 400 < n) (hM : MQB S I N B) (hK : RK (I 63)) (c63 : I 61 41 = 63) {far : Int32} {k : Int32 → tHI → tHJ → Prop} {v1 : Int32} (hk : ∀ (X : tHI) (J' : tHJ), MK I X → MJ J J' → k (if v1 = 0 then bbF (fun i => plS S I (I 63) (Wat (WM 63 (I 63) N) 6 (vi i)) B) far 19 + 9 else bbL (fun i => plS S I (I 63) (Wat (WM 63 (I 63) N) 6 (vi i)) B) far 19) X J') : ∀ (d f i : Nat) (X : tHI) (J' : tHJ), i + d = 19 → d < f → MQq I X 8 → MJ J J' → F12_setting_L36 n S k f X J' v1 (I 63 8) (bbL (fun i => plS S I (I 63) (Wat (WM 63 (I 63) N) 6 (vi i)) B) far i) (bbF (fun i => plS S I (I 63) (Wat (WM 63 (I 63) N) 6 (vi i)) B) far i) (vi i) := by
  have z10 : (10 : Int32).toInt = 10 := rfl
  intro d
  induction d with
  | zero =>
    intro f i X J' hi hf c1 c2
    obtain ⟨f, rfl⟩ : ∃ g, f = g + 1 := ⟨f - 1, by omega⟩
    have : i = 19 := by omega
    subst this
    show F12_setting_36 n S k (F12_setting_L36 n S k f) X J' v1 _ _ _ (vi 19)
    unfold F12_setting_36
    obtain ⟨m1, m2, w, m3⟩ := c1
    refine ⟨fun _ => hk _ J' ⟨fun x hx => ?_, fun y hy => by rw [uIn (by decide)]; exact m2 y hy⟩ c2, fun g => ?_⟩
    · by_cases g : x = 63
      · subst g; rw [uIe, m3, up_up, up_id]
      · rw [uIn g, m1 x hx g]
    · exfalso
      exact g (by rw [Int32.le_iff_toInt_le, vi_i (by omega), z10]; omega)
  | succ d ih =>
    intro f i X J' hi hf c1 c2
    obtain ⟨f, rfl⟩ : ∃ g, f = g + 1 := ⟨f - 1, by omega⟩
    show F12_setting_36 n S k (F12_setting_L36 n S k f) X J' v1 _ _ _ (vi i)
    unfold F12_setting_36
    refine ⟨fun g => ?_, fun _ => ?_⟩
    · exfalso
      rw [Int32.le_iff_toInt_le, vi_i (by omega), z10] at g
      omega
    · have hv := vi_i (i := i) (by omega)
      obtain ⟨m1, m2, w, m3⟩ := c1
      have e63 : (uI X 63 8 (vi i)) 63 = up (I 63) 8 (vi i) := by rw [uIe, m3, up_up]
      have hFO := hM.1.2.2.2.2.2
      have e1 : (uI X 63 8 (vi i)) 1 = I 1 := by rw [uIn (by decide), m1 1 (by decide) (by decide)]
      have e89 : ∀ x, 89 ≤ x → (uI X 63 8 (vi i)) x = I x := fun x hx => by rw [uIn (by omega), m1 x (by omega) (by omega)]
      have e41 : (uI X 63 8 (vi i)) 61 41 = 63 := by rw [uIn (by decide), m2 41 (by decide)]; exact c63
      have hM2 : MQB S (uI X 63 8 (vi i)) N B := MQB.of (by rw [uIn (by decide), m2 20 (by decide)]; exact hM.1.1) e41 (by rw [e63]; exact hK.up8 (by omega)) (by rw [e63, upn (by decide)]; exact hM.1.2.1) hM.1.2.2.1 (by rw [e63, upn (by decide)]; exact hM.2.2.2.1) hM.2.2.1 (by rw [e63]; exact hFO.cg e1 e89 (upn (by decide)) (fun k hk => upn (by omega)))
      have hB12 := hM.2.2.1
      refine barsM_in (J := J') hn e63 hM2 e41 (fun X2 J2 y1 y2 => ?_) B n 0 (uI X 63 8 (vi i)) J' (by omega) (by omega) (MK.rf _) (MJ.rf _)
      rw [plS_I hFO e1 e89, vi_s (by omega)]
      refine ih f (i + 1) X2 J2 (by omega) (by omega) ⟨fun x p q => by rw [y1.1 x p, uIn q, m1 x p q], fun y hy => by rw [y1.2 y hy, uIn (by decide), m2 y hy], vi i, by rw [y1.1 63 (by decide), e63]⟩ (c2.trans y2)
theorem st_setting (hn : 400 < n) : tSt_setting n Inv := by
  intro S I J v1 h
  obtain ⟨N, B, n1, n2, b1, b2, c63, hM⟩ := h.mq
  have hRK := h.2.1.2.2.2.2.2.1
  have em : V12_in v1.toInt64 0 1 = V11_within v1 0 1 := inwi (by decide) (by decide)
  unfold F11_setting
  refine ⟨fun c => ?_, fun c => ?_⟩
  · refine sp_asIt (r := I 63) (by omega) h.2.1 n1 n2 h.2.2.2.2.2.2.2.1 (fun X x1 x2 hQ => ?_)
    unfold F5_bestBars
    refine bars_out (far := 1000000000) (J := J) h.1 hn hQ b1 b2 (fun X2 J2 y1 y2 => ?_) 19 n 0 X J (by omega) (by omega) ⟨fun _ _ => rfl, fun _ _ _ => rfl⟩ (CJ.rf J)
    have hI2 : Inv S X2 J2 := h.keep ((KpI.c x1 x2).trans (KpI.c y1.1 (fun y hy => by
      have : y = 8 ∨ y = 9 ∨ y = 10 := by simpa using hy
      exact y1.2 y (by omega) (by omega)))) (KpJ.c y2)
    have e63 : X2 63 = I 63 := by rw [y1.1 63 (by decide), x1 63 (by decide)]
    have hI3 := hI2.th
    have e63' : (uI X2 61 0 0) 63 = I 63 := by rw [uIn (by decide)]; exact e63
    have c63' : (uI X2 61 0 0) 61 41 = 63 := hI3.2.2.2.2.2.2.1.2
    obtain ⟨N', B', n1', n2', b1', b2', -, hM'⟩ := hI3.mq
    have eN : N' = N := (qeq (by omega) (by omega)).mp (by rw [← n1', e63', n1])
    have eB : B' = B := (qeq (by omega) (by omega)).mp (by rw [← b1', e63', b1])
    subst eN eB
    have eP : ∀ b W, plS S (uI X2 61 0 0) (I 63) W b = plS S X (I 63) W b := fun b W => plS_I hQ.FO (by rw [uIn (by decide), y1.1 1 (by decide)]) (fun x hx => by rw [uIn (by omega), y1.1 x (by omega)]) b
    show F12_setting n S X2 J2 v1 _
    unfold F12_setting
    refine ⟨fun _ => ?_, fun g => absurd (em.symm.trans g) c⟩
    refine barsM_out (far := 100000000) hn hM' (by rw [e63']; exact hRK) c63' (fun X3 J3 z1 z2 => ⟨?_, hI3.keep (KpI.m z1) (KpJ.m z2)⟩) 19 n 0 (uI X2 61 0 0) J2 (by omega) (by omega) ⟨fun _ _ _ => rfl, fun _ _ => rfl, (uI X2 61 0 0) 63 8, up_id.symm⟩ (MJ.rf _)
    rw [e63']
    have eF : (fun i => plS S (uI X2 61 0 0) (I 63) (Wat (WM 63 (I 63) N') 6 (vi i)) B') = (fun i => plS S X (I 63) (Wat (WM 63 (I 63) N') 6 (vi i)) B') := funext (fun i => eP B' _)
    rw [eF]
    have hb := plS_b (S := S) (I := X) (r := I 63) (W := Wat (WM 63 (I 63) N') 6 (vi 0)) hRK.2.2.2.1 (WR.of hRK.2.1 hRK.le n2).1 (by
      show -9 ≤ (vi 0).toInt ∧ (vi 0).toInt ≤ 9
      rw [vi_i (by omega)]; omega) B' b2
    obtain ⟨f1, f2⟩ := bb_far (P := fun i => plS S X (I 63) (Wat (WM 63 (I 63) N') 6 (vi i)) B') (f1 := 1000000000) (f2 := 100000000) (by
      show plS S X (I 63) (Wat (WM 63 (I 63) N') 6 (vi 0)) B' < 1000000000
      rw [Int32.lt_iff_toInt_lt, show (1000000000 : Int32).toInt = 1000000000 by decide]; omega) (by
      show plS S X (I 63) (Wat (WM 63 (I 63) N') 6 (vi 0)) B' < 100000000
      rw [Int32.lt_iff_toInt_lt, show (100000000 : Int32).toInt = 100000000 by decide]; omega) 18
    rw [f1, f2]
  · show F12_setting n S I J v1 (fun y I2 J2 => -1 = y ∧ Inv S I2 J2)
    unfold F12_setting
    exact ⟨fun g => absurd (em.trans c) g, fun _ => ⟨rfl, h.th⟩⟩
end STM
