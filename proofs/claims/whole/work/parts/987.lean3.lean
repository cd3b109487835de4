/-! leaning, III: the model; both -/
section LM
variable {n : Nat} {S : tSH} {I : tHI} {J : tHJ} {k : Int32 → tHI → tHJ → Prop} {r W : Nat → Int32} {N B b : Nat}
theorem rwG_o {c y : Nat} (h : y < 20 ∨ 26 ≤ y) (hN : N ≤ 6) : rwG r N c y = r y := if_neg (by omega)
theorem rwG_K {c : Nat} (hK : RK r) (hN : N ≤ 6) : RK (rwG r N c) := by
  refine hK.v (fun k hk => rwG_o (by omega) hN) (hK.2.2.1.up (Or.inl (rwG_o (by omega) hN)) (Or.inl (rwG_o (by omega) hN)) (Or.inl (rwG_o (by omega) hN)) (Or.inl (rwG_o (by omega) hN)) (fun i hi => Or.inl (rwG_o (by omega) hN)) (fun i hi => ?_))
  have e9 : 9 + (11 + i) = 20 + i := by omega
  show rwG r N c (9 + (11 + i)) = r (9 + (11 + i)) ∨ ((-2 ≤ (rwG r N c (9 + (11 + i))).toInt ∧ (rwG r N c (9 + (11 + i))).toInt ≤ 2) ∧ _)
  rw [e9]
  by_cases g : 20 ≤ 20 + i ∧ 20 + i - 20 < N ∧ mbL r (20 + i - 20) = true
  · right
    have e : rwG r N c (20 + i) = nI (dgL (mbL r) N c i) - 2 := by
      unfold rwG
      rw [if_pos g]
      unfold vD
      rw [Nat.add_sub_cancel_left] at g ⊢
      rw [if_pos ⟨g.2.1, g.2.2⟩]
    have hd := dgL_lt (m := mbL r) (N := N) (c := c) (l := i)
    rw [e, vD_v _ hd]
    refine ⟨by omega, fun z => ?_⟩
    rw [Nat.add_sub_cancel_left] at g
    have := of_decide_eq_true g.2.2
    rw [z] at this
    exact absurd this (by decide)
  · exact Or.inl (if_neg g)
theorem WM_C {c a : Nat} (hN : N ≤ 6) : WM 63 (rwG r N c) N a = Wat (WM 63 r N) 5 (sI r N c) a := by
  have s : ∀ i, i ≤ 6 → sCh 63 (rwG r N c) i = sCh 63 r i ∧ sRe 63 (rwG r N c) i = sRe 63 r i := by
    intro i
    induction i with
    | zero => intro _; exact ⟨rfl, rfl⟩
    | succ i ih =>
      intro hi
      obtain ⟨h1, h2⟩ := ih (by omega)
      simp only [sCh, sRe]
      rw [h1, h2, rwG_o (by omega) hN, rwG_o (by omega) hN]
      exact ⟨rfl, rfl⟩
  obtain ⟨s1, s2⟩ := s N hN
  unfold WM Wat
  rw [s1, s2, rwG_o (by omega) hN, rwG_o (by omega) hN, rwG_o (by omega) hN]
  by_cases g : a = 5
  · subst g; rfl
  · simp [g]
theorem aQ_row {r' W' : Nat → Int32} (hb : b < 12) (er : ∀ k, 38 ≤ k → k < 86 → r' k = r k) (h : ∀ a, 3 ≤ a → a < 12 → W' a = W a) : aQ S I r' b W' = aQ S I r b W := by
  unfold aQ
  rw [aT_row hb er h, aT_row hb er h, aT_row hb er h, er _ (by omega) (by omega)]
/-- the model's frame -/
def ML (I X : tHI) (N : Nat) : Prop := (∀ x, x ≠ 61 → x ≠ 63 → x ≠ 84 → X x = I x) ∧ (∀ y, y ∉ [34, 38, 42, 43, 44] → X 61 y = I 61 y) ∧ ∀ y, ¬ (20 ≤ y ∧ y - 20 < N ∧ mbL (I 63) (y - 20) = true) → X 63 y = I 63 y
theorem cp_L (hn : 400 < n) {c : Nat} (hN6 : N ≤ 6) {v1 v3 v6 v2 : Int32} {kb : tHI → tHJ → Int32 → Int32 → Int32 → Int32 → Prop} (hg : ¬ v6 ≤ v2) (hk : ∀ X : tHI, (∀ x, x ≠ 84 → X x = I x) → (∀ l, l < 6 → X 84 l = I 63 (20 + l)) → F12_findLeaning_168 n S k kb X J v1 v2 v3 (nI c) v6) : ∀ (d f l : Nat) (X : tHI), l + d = 6 → d < f → (∀ x, x ≠ 84 → X x = I x) → (∀ j, j < l → X 84 j = I 63 (20 + j)) → F12_findLeaning_L132 n S k kb f X J v1 v2 v3 (nI c) v6 (nI l) := by
  intro d
  induction d with
  | zero =>
    intro f l X hl hf c1 c2
    obtain ⟨f, rfl⟩ : ∃ z, f = z + 1 := ⟨f - 1, by omega⟩
    have : l = 6 := by omega
    subst this
    show F12_findLeaning_132 n S k kb (F12_findLeaning_L132 n S k kb f) X J v1 v2 v3 (nI c) v6 (nI 6)
    unfold F12_findLeaning_132
    exact ⟨fun _ => hk X c1 c2, fun z => absurd ((qle (a := 6) (by omega) (by omega)).mpr (Nat.le_refl _)) z⟩
  | succ d ih =>
    intro f l X hl hf c1 c2
    obtain ⟨f, rfl⟩ : ∃ z, f = z + 1 := ⟨f - 1, by omega⟩
    show F12_findLeaning_132 n S k kb (F12_findLeaning_L132 n S k kb f) X J v1 v2 v3 (nI c) v6 (nI l)
    unfold F12_findLeaning_132
    have e20 : 20 + nI l = nI (20 + l) := nI_add 20 l
    rw [e20, qn (by omega), qn (by omega), show nI l + 1 = nI (l + 1) from nI_add l 1]
    refine ⟨fun z => ?_, fun _ => ⟨fun z => absurd z hg, fun _ => ⟨(qin (by omega)).mpr (by omega), (qin (by omega)).mpr (by omega), ih f (l + 1) _ (by omega) (by omega) (fun x hx => by rw [uIn hx]; exact c1 x hx) (fun j hj => ?_)⟩⟩⟩
    · exfalso; have := (qle (a := 6) (by omega) (by omega)).mp z; omega
    · rw [uIe]
      by_cases g : j = l
      · subst g; rw [upe, c1 63 (by decide)]
      · rw [upn g]; exact c2 j (by omega)
theorem dl_L (hn : 16000 < n) (hM : MQB S I N B) (hK : RK (I 63)) (c63 : I 61 41 = 63) (hb : b < B) {c : Nat} (hc : c < 16000) {v2 v3 : Int32} (hv2 : -1 ≤ v2.toInt) {kb : tHI → tHJ → Int32 → Int32 → Int32 → Int32 → Prop} {J0 : tHJ} (hk : ∀ (X : tHI) (J' : tHJ), ML I X N → MJ J0 J' → X 63 = rwG (I 63) N c → (nI (qL S I (I 63) (WM 63 (I 63) N) N b c) ≤ v2 → X 84 = I 84) → (¬ nI (qL S I (I 63) (WM 63 (I 63) N) N b c) ≤ v2 → ∀ l, l < 6 → X 84 l = rwG (I 63) N c (20 + l)) → kb X J' (nI b) (if nI (qL S I (I 63) (WM 63 (I 63) N) N b c) ≤ v2 then v2 else nI (qL S I (I 63) (WM 63 (I 63) N) N b c)) v3 (nI c + 1)) : ∀ (i f : Nat) (X : tHI) (J' : tHJ), i ≤ N → i < f → ML I X N → X 84 = I 84 → MJ J0 J' → (∀ l, i ≤ l → l < N → mbL (I 63) l = true → X 63 (20 + l) = nI (dgL (mbL (I 63)) N c l) - 2) → F12_findLeaning_L75 n S k kb f X J' (nI b) v2 v3 (nI c) (nI (c / pwL (mbL (I 63)) N (N - i))) (nI i - 1) := by
  have hB := hM.2.2.1
  have hB1 := hM.2.2.2.1
  have hN6 := hM.1.2.2.1
  have hN1 := hM.1.2.1
  have hFO := hM.1.2.2.2.2.2
  intro i
  induction i with
  | zero =>
    intro f X J' hi hf c1 c84 cJ c2
    obtain ⟨f, rfl⟩ : ∃ z, f = z + 1 := ⟨f - 1, by omega⟩
    show F12_findLeaning_75 n S k kb (F12_findLeaning_L75 n S k kb f) X J' (nI b) v2 v3 (nI c) _ (nI 0 - 1)
    unfold F12_findLeaning_75
    refine ⟨fun _ => ?_, fun z => absurd (show nI 0 - 1 < 0 by decide) z⟩
    have e63 : X 63 = rwG (I 63) N c := by
      funext y
      by_cases g : 20 ≤ y ∧ y - 20 < N ∧ mbL (I 63) (y - 20) = true
      · have := c2 (y - 20) (by omega) g.2.1 g.2.2
        rw [show 20 + (y - 20) = y by omega] at this
        rw [this]
        unfold rwG
        rw [if_pos g]
        unfold vD
        rw [if_pos ⟨g.2.1, g.2.2⟩]
      · rw [c1.2.2 y g]; unfold rwG; rw [if_neg g]
    have hX1 : X 1 = I 1 := c1.1 1 (by decide) (by decide) (by decide)
    have hX89 : ∀ x, 89 ≤ x → X x = I x := fun x hx => c1.1 x (by omega) (by omega) (by omega)
    have e41 : X 61 41 = 63 := by rw [c1.2.1 41 (by decide)]; exact c63
    have hMX : MQB S X N B := MQB.of (by rw [c1.2.1 20 (by decide)]; exact hM.1.1) e41 (by rw [e63]; exact rwG_K hK hN6) (by rw [e63, rwG_o (by omega) hN6]; exact hN1) hN6 (by rw [e63, rwG_o (by omega) hN6]; exact hB1) hB (by rw [e63]; exact hFO.cg hX1 hX89 (rwG_o (by omega) hN6) (fun y hy => rwG_o (by omega) hN6))
    refine sp_quickM (by omega) hMX (b := b) hb (fun Y J2 y1 y2 => ?_)
    have eq : aQ S X (X 63) b (WI X N) = qL S I (I 63) (WM 63 (I 63) N) N b c := by
      have eW : WI X N = WM 63 (rwG (I 63) N c) N := by show WM (X 61 41) (X 63) N = _; rw [e41, e63]
      rw [eW, e63, aQ_I hFO hX1 hX89]
      exact aQ_row (by omega) (fun y p q => rwG_o (by omega) hN6) (fun a _ _ => WM_C hN6)
    rw [eq]
    have Y63 : Y 63 = rwG (I 63) N c := by rw [y1.1 63 (by decide)]; exact e63
    have mY : ML I Y N := ⟨fun x p q s => by rw [y1.1 x p]; exact c1.1 x p q s, fun y hy => by rw [y1.2 y hy]; exact c1.2.1 y hy, fun y hy => by rw [y1.1 63 (by decide)]; exact c1.2.2 y hy⟩
    have Y84 : Y 84 = I 84 := by rw [y1.1 84 (by decide)]; exact c84
    by_cases g : nI (qL S I (I 63) (WM 63 (I 63) N) N b c) ≤ v2
    · obtain ⟨m, rfl⟩ : ∃ w, n = w + 1 := ⟨n - 1, by omega⟩
      have key := hk Y J2 mY (cJ.trans y2) Y63 (fun _ => Y84) (fun z => absurd g z)
      show F12_findLeaning_132 (m + 1) S k kb (F12_findLeaning_L132 (m + 1) S k kb m) Y J2 (nI b) v2 v3 (nI c) _ 0
      unfold F12_findLeaning_132 F12_findLeaning_168
      exact ⟨fun _ => key, fun _ => ⟨fun _ => key, fun z => absurd g z⟩⟩
    · refine cp_L (I := Y) (by omega) hN6 g (fun Z z1 z2 => ?_) 6 n 0 Y (by omega) (by omega) (fun _ _ => rfl) (fun j hj => by omega)
      unfold F12_findLeaning_168
      exact hk Z J2 ⟨fun x p q s => by rw [z1 x s]; exact mY.1 x p q s, fun y hy => by rw [z1 61 (by decide)]; exact mY.2.1 y hy, fun y hy => by rw [z1 63 (by decide)]; exact mY.2.2 y hy⟩ (cJ.trans y2) (by rw [z1 63 (by decide)]; exact Y63) (fun z => absurd z g) (fun _ l hl => by rw [z2 l hl, Y63])
  | succ i ih =>
    intro f X J' hi hf c1 c84 cJ c2
    obtain ⟨f, rfl⟩ : ∃ z, f = z + 1 := ⟨f - 1, by omega⟩
    show F12_findLeaning_75 n S k kb (F12_findLeaning_L75 n S k kb f) X J' (nI b) v2 v3 (nI c) _ (nI (i + 1) - 1)
    unfold F12_findLeaning_75 F12_findLeaning_116
    have e32 : 32 + nI i = nI (32 + i) := nI_add 32 i
    have e20 : 20 + nI i = nI (20 + i) := nI_add 20 i
    have x32 : X 63 (32 + i) = I 63 (32 + i) := c1.2.2 _ (by omega)
    have hcp : c / pwL (mbL (I 63)) N (N - (i + 1)) ≤ c := Nat.div_le_self _ _
    have lf := lf_step (m := mbL (I 63)) (N := N) (c := c) (l := i) (by omega)
    rw [show N - 1 - i = N - (i + 1) by omega] at lf
    rw [qpred (by omega), Nat.add_sub_cancel, ← Int32.sub_eq_add_neg, e32, e20, qn (by omega), qn (by omega), x32]
    refine ⟨fun z => ?_, fun _ => ⟨(qin (by omega)).mpr (by omega), fun g => ?_, fun g => ⟨(qin (by omega)).mpr (by omega), ?_⟩⟩⟩
    · exfalso; rw [Int32.lt_iff_toInt_lt, qi (by omega), tz0] at z; omega
    · have gm : ¬ mbL (I 63) i = true := fun z => g (of_decide_eq_true z)
      rw [if_neg gm] at lf
      have key := ih f X J' (by omega) (by omega) c1 c84 cJ (fun l h1 h2 h3 => by
        by_cases e : l = i
        · subst e; exact absurd h3 gm
        · exact c2 l (by omega) h2 h3)
      rw [lf] at key
      exact key
    · have gm : mbL (I 63) i = true := decide_eq_true g
      rw [if_pos gm] at lf
      have ed : dgL (mbL (I 63)) N c i = c / pwL (mbL (I 63)) N (N - (i + 1)) % 5 := by
        unfold dgL
        rw [if_pos ⟨by omega, gm⟩, show N - 1 - i = N - (i + 1) by omega]
      have e5 : nI (c / pwL (mbL (I 63)) N (N - (i + 1))) / 5 = nI (c / pwL (mbL (I 63)) N (N - (i + 1)) / 5) := qdv (p := 5) (by omega) (by omega) (by omega)
      have e55 : nI (c / pwL (mbL (I 63)) N (N - (i + 1))) - nI (c / pwL (mbL (I 63)) N (N - (i + 1)) / 5) * 5 = nI (dgL (mbL (I 63)) N c i) := by
        rw [ed, ql 5, qmul, qsub (by omega)]
        congr 1
        omega
      rw [e5, e55, ← lf]
      refine ih f _ J' (by omega) (by omega) ⟨fun x p q s => by rw [uIn q]; exact c1.1 x p q s, fun y hy => by rw [uIn (by decide)]; exact c1.2.1 y hy, fun y hy => ?_⟩ (by rw [uIn (by decide)]; exact c84) cJ (fun l h1 h2 h3 => ?_)
      · rw [uIe, upn (fun z => hy (by subst z; rw [Nat.add_sub_cancel_left]; exact ⟨by omega, by omega, gm⟩))]
        exact c1.2.2 y hy
      · rw [uIe]
        by_cases e : l = i
        · subst e; rw [upe]
        · rw [upn (by omega)]; exact c2 l (by omega) h2 h3
theorem fd_L (hn : 16000 < n) (hM : MQB S I N B) (hK : RK (I 63)) (c63 : I 61 41 = 63) (h66 : ∀ i, i < 17 → I 66 (17 * 16 + i) = I 63 (9 + i)) (hb : b < B) {J0 : tHJ} (hk : ∀ (X : tHI) (J' : tHJ), (∀ x, x ≠ 61 → x ≠ 84 → X x = I x) → (∀ y, y ∉ [34, 38, 42, 43, 44] → X 61 y = I 61 y) → MJ J0 J' → (∀ l, l < 6 → X 84 l = rwG (I 63) N (biL (qL S I (I 63) (WM 63 (I 63) N) N b) (pwL (mbL (I 63)) N N)) (20 + l)) → k (mxL (qL S I (I 63) (WM 63 (I 63) N) N b) (pwL (mbL (I 63)) N N)) X J') : ∀ (e f c : Nat) (X : tHI) (J' : tHJ), c + e = pwL (mbL (I 63)) N N → e < f → ML I X N → MJ J0 J' → (0 < c → ∀ l, l < 6 → X 84 l = rwG (I 63) N (biL (qL S I (I 63) (WM 63 (I 63) N) N b) c) (20 + l)) → F12_findLeaning_L55 n S k f X J' (nI b) (mxL (qL S I (I 63) (WM 63 (I 63) N) N b) c) (nI (pwL (mbL (I 63)) N N)) (nI c) := by
  have hN6 := hM.1.2.2.1
  have hN1 := hM.1.2.1
  have hFO := hM.1.2.2.2.2.2
  have hR0 := pwL_pos (m := mbL (I 63)) (N := N) N
  have hRb := pwL_b (m := mbL (I 63)) hN6 (Nat.le_refl N)
  intro e
  induction e with
  | zero =>
    intro f c X J' hc hf c1 cJ c2
    obtain ⟨f, rfl⟩ : ∃ z, f = z + 1 := ⟨f - 1, by omega⟩
    have : c = pwL (mbL (I 63)) N N := by omega
    show F12_findLeaning_55 n S k (F12_findLeaning_L55 n S k f) X J' (nI b) _ _ (nI c)
    unfold F12_findLeaning_55
    refine ⟨fun _ => ?_, fun z => absurd ((qle (by omega) (by omega)).mpr (by omega)) z⟩
    refine sp_putBack (q := 16) (by omega) (by omega) (fun Y a p q => ?_)
    rw [this] at c2 ⊢
    refine hk Y J' (fun x h1 h2 => ?_) (fun y hy => by rw [a 61 (by decide)]; exact c1.2.1 y hy) cJ (fun l hl => by rw [a 84 (by decide)]; exact c2 hR0 l hl)
    by_cases g : x = 63
    · subst g
      funext y
      by_cases g : y < 9 ∨ 26 ≤ y
      · rw [p y g]; exact c1.2.2 y (by omega)
      · have e := q (y - 9) (by omega)
        rw [show 9 + (y - 9) = y by omega] at e
        rw [e, c1.1 66 (by decide) (by decide) (by decide), h66 _ (by omega), show 9 + (y - 9) = y by omega]
    · rw [a x g]; exact c1.1 x h1 g h2
  | succ e ih =>
    intro f c X J' hc hf c1 cJ c2
    obtain ⟨f, rfl⟩ : ∃ z, f = z + 1 := ⟨f - 1, by omega⟩
    show F12_findLeaning_55 n S k (F12_findLeaning_L55 n S k f) X J' (nI b) _ _ (nI c)
    unfold F12_findLeaning_55
    have hq60 : ∀ c, qL S I (I 63) (WM 63 (I 63) N) N b c ≤ 60 := fun c => aQ_le
    refine ⟨fun z => ?_, fun _ => ?_⟩
    · exfalso; have := (qle (by omega) (by omega)).mp z; omega
    · have x630 : X 63 0 = nI N := by rw [c1.2.2 0 (by omega)]; exact hN1
      rw [x630]
      have hX1 : X 1 = I 1 := c1.1 1 (by decide) (by decide) (by decide)
      have hX89 : ∀ x, 89 ≤ x → X x = I x := fun x hx => c1.1 x (by omega) (by omega) (by omega)
      have em : mxL (qL S I (I 63) (WM 63 (I 63) N) N b) (c + 1) = (if nI (qL S I (I 63) (WM 63 (I 63) N) N b c) ≤ mxL (qL S I (I 63) (WM 63 (I 63) N) N b) c then mxL (qL S I (I 63) (WM 63 (I 63) N) N b) c else nI (qL S I (I 63) (WM 63 (I 63) N) N b c)) := rfl
      have eb : biL (qL S I (I 63) (WM 63 (I 63) N) N b) (c + 1) = (if nI (qL S I (I 63) (WM 63 (I 63) N) N b c) ≤ mxL (qL S I (I 63) (WM 63 (I 63) N) N b) c then biL (qL S I (I 63) (WM 63 (I 63) N) N b) c else c) := rfl
      -- the row as it stands, but for 84
      have hz : ∀ Z : tHI, (∀ x, x ≠ 61 → x ≠ 63 → x ≠ 84 → Z x = I x) → (∀ y, y ∉ [34, 38, 42, 43, 44] → Z 61 y = I 61 y) → Z 63 = I 63 → MQB S Z N B := fun Z a1 a2 a3 => MQB.of (by rw [a2 20 (by decide)]; exact hM.1.1) (by rw [a2 41 (by decide)]; exact c63) (by rw [a3]; exact hK) (by rw [a3]; exact hN1) hN6 (by rw [a3]; exact hM.2.2.2.1) hM.2.2.1 (by rw [a3]; exact hFO.cg (a1 1 (by decide) (by decide) (by decide)) (fun x hx => a1 x (by omega) (by omega) (by omega)) rfl (fun _ _ => rfl))
      -- run about the heap with the row put right
      have hI' : ∀ x, x ≠ 84 → (fun x => if x = 84 then X 84 else I x) x = I x := fun x hx => if_neg hx
      have i63 : (fun x => if x = 84 then X 84 else I x) 63 = I 63 := hI' 63 (by decide)
      have i84 : (fun x => if x = 84 then X 84 else I x) 84 = X 84 := if_pos rfl
      have hMI : MQB S (fun x => if x = 84 then X 84 else I x) N B := hz _ (fun x _ _ h => hI' x h) (fun y _ => congrFun (hI' 61 (by decide)) y) i63
      generalize hV : (fun x => if x = 84 then X 84 else I x) = V at *
      have eq : ∀ c, qL S V (V 63) (WM 63 (V 63) N) N b c = qL S I (I 63) (WM 63 (I 63) N) N b c := fun c => by
        rw [i63]
        exact aQ_I hFO (hI' 1 (by decide)) (fun x hx => hI' x (by omega))
      have mV : ML V X N := ⟨fun x p q s => by rw [hI' x s]; exact c1.1 x p q s, fun y hy => by rw [hI' 61 (by decide)]; exact c1.2.1 y hy, fun y hy => by rw [i63] at hy ⊢; exact c1.2.2 y hy⟩
      have mb := mxL_b hq60 c
      have key := dl_L (I := V) (k := k) (J0 := J0) (c := c) (v2 := mxL (qL S I (I 63) (WM 63 (I 63) N) N b) c) (v3 := nI (pwL (mbL (I 63)) N N)) (kb := F12_findLeaning_L55 n S k f) hn hMI (by rw [i63]; exact hK) (by rw [hI' 61 (by decide)]; exact c63) hb (by omega) mb.1 (fun Y J2 y1 y2 y3 y4 y5 => ?_) N n X J' (Nat.le_refl _) (by omega) mV i84.symm cJ (fun l h1 h2 _ => by omega)
      · rw [i63, Nat.sub_self, show c / pwL (mbL (I 63)) N 0 = c from Nat.div_one c] at key
        exact key
      · rw [eq] at y4 y5 ⊢
        rw [i63] at y3 y5
        rw [← em, show nI c + 1 = nI (c + 1) from nI_add c 1]
        refine ih f (c + 1) Y J2 (by omega) (by omega) ⟨fun x p q s => by rw [y1.1 x p q s, hI' x s], fun y hy => by rw [y1.2.1 y hy, hI' 61 (by decide)], fun y hy => by rw [y3]; unfold rwG; rw [if_neg hy]⟩ y2 (fun _ l hl => ?_)
        rw [eb]
        by_cases g : nI (qL S I (I 63) (WM 63 (I 63) N) N b c) ≤ mxL (qL S I (I 63) (WM 63 (I 63) N) N b) c
        · rw [if_pos g, y4 g, i84]
          have h0 : 0 < c := by
            rcases Nat.eq_zero_or_pos c with y | y
            · exfalso
              subst y
              have g : nI (qL S I (I 63) (WM 63 (I 63) N) N b 0) ≤ -1 := g
              rw [Int32.le_iff_toInt_le, qneg, qi (by have := hq60 0; omega)] at g
              omega
            · exact y
          exact c2 h0 l hl
        · rw [if_neg g]; exact y5 g l hl
theorem sp_findLeaning (hn : 16000 < n) (hM : MQB S I N B) (hK : RK (I 63)) (c63 : I 61 41 = 63) (hb : b < B) (hk : ∀ (X : tHI) (J' : tHJ), (∀ x, x ≠ 61 → x ≠ 66 → x ≠ 84 → X x = I x) → (∀ y, y ∉ [34, 38, 42, 43, 44] → X 61 y = I 61 y) → (∀ y, y < 272 → X 66 y = I 66 y) → MJ J J' → (∀ l, l < 6 → X 84 l = rwG (I 63) N (biL (qL S I (I 63) (WM 63 (I 63) N) N b) (pwL (mbL (I 63)) N N)) (20 + l)) → k (mxL (qL S I (I 63) (WM 63 (I 63) N) N b) (pwL (mbL (I 63)) N N)) X J') : F12_findLeaning n S I J (nI b) k := by
  have hN6 := hM.1.2.2.1
  have hN1 := hM.1.2.1
  have hFO := hM.1.2.2.2.2.2
  have L : ∀ (d f l : Nat), l + d = N → d < f → F12_findLeaning_L7 n S k f I J (nI b) (-1) (nI (rwL (mbL (I 63)) l)) (nI l) := by
    intro d
    induction d with
    | zero =>
      intro f l hl hf
      obtain ⟨f, rfl⟩ : ∃ z, f = z + 1 := ⟨f - 1, by omega⟩
      have : l = N := by omega
      subst this
      show F12_findLeaning_7 n S k (F12_findLeaning_L7 n S k f) I J (nI b) (-1) _ (nI l)
      unfold F12_findLeaning_7
      rw [hN1]
      refine ⟨fun _ => ?_, fun z => absurd ((qle (by omega) (by omega)).mpr (Nat.le_refl _)) z⟩
      refine sp_keepAll (q := 16) (by omega) (by omega) (fun Z z1 z2 z3 => ?_)
      have Z63 : Z 63 = I 63 := z1 63 (by decide)
      have hFZ : FO S Z (I 63) := hFO.cg (z1 1 (by decide)) (fun x hx => z1 x (by omega)) rfl (fun _ _ => rfl)
      have hMZ : MQB S Z l B := MQB.of (by rw [z1 61 (by decide)]; exact hM.1.1) (by rw [z1 61 (by decide)]; exact c63) (by rw [Z63]; exact hK) (by rw [Z63]; exact hN1) hN6 (by rw [Z63]; exact hM.2.2.2.1) hM.2.2.1 (by rw [Z63]; exact hFZ)
      rw [rwL_eq]
      have hRb := pwL_b (m := mbL (I 63)) hN6 (Nat.le_refl l)
      have eq : qL S Z (Z 63) (WM 63 (Z 63) l) l b = qL S I (I 63) (WM 63 (I 63) l) l b := by
        funext c
        rw [Z63]
        exact aQ_I hFO (z1 1 (by decide)) (fun x hx => z1 x (by omega))
      have key := fd_L (I := Z) (k := k) (J0 := J) hn hMZ (by rw [Z63]; exact hK) (by rw [z1 61 (by decide)]; exact c63) (fun i hi => by rw [z3 i hi, Z63]) hb (fun X J' x1 x2 x3 x4 => ?_) (pwL (mbL (I 63)) l l) n 0 Z J (by rw [Z63]; omega) (by omega) ⟨fun _ _ _ _ => rfl, fun _ _ => rfl, fun _ _ => rfl⟩ (MJ.rf J) (fun z => by omega)
      · rw [Z63] at key
        exact key
      · rw [eq, Z63] at x4
        rw [eq, Z63]
        exact hk X J' (fun x p q s => by rw [x1 x p s, z1 x q]) (fun y hy => by rw [x2 y hy, z1 61 (by decide)]) (fun y hy => by rw [x1 66 (by decide) (by decide), z2 y (by omega)]) x3 x4
    | succ d ih =>
      intro f l hl hf
      obtain ⟨f, rfl⟩ : ∃ z, f = z + 1 := ⟨f - 1, by omega⟩
      show F12_findLeaning_7 n S k (F12_findLeaning_L7 n S k f) I J (nI b) (-1) _ (nI l)
      unfold F12_findLeaning_7
      have e32 : 32 + nI l = nI (32 + l) := nI_add 32 l
      rw [hN1, e32, qn (by omega), show nI l + 1 = nI (l + 1) from nI_add l 1]
      refine ⟨fun z => ?_, fun _ => ⟨(qin (by omega)).mpr (by omega), ?_⟩⟩
      · exfalso; have := (qle (by omega) (by omega)).mp z; omega
      · have er : nI (rwL (mbL (I 63)) l) * (if I 63 (32 + l) = 1 then (5 : Int32) else 1) = nI (rwL (mbL (I 63)) (l + 1)) := by
          show _ = nI (rwL (mbL (I 63)) l * (if mbL (I 63) l = true then 5 else 1))
          by_cases g : I 63 (32 + l) = 1
          · rw [if_pos g, if_pos (show mbL (I 63) l = true from decide_eq_true g)]; exact qmul _ 5
          · rw [if_neg g, if_neg (show ¬ mbL (I 63) l = true from fun z => g (of_decide_eq_true z))]; exact qmul _ 1
        rw [er]
        exact ih f (l + 1) (by omega) (by omega)
  unfold F12_findLeaning
  exact L N n 0 (by omega) (by omega)
theorem st_leaning (hn : 16000 < n) : tSt_leaning n Inv := by
  intro S I J v1 v2 h
  obtain ⟨N, B, n1, n2, b1, b2, c63, hM⟩ := h.mq
  have hRK := h.2.1.2.2.2.2.2.1
  have h70 : (I 7 0).toInt = B := by have : I 7 0 = I 63 1 := h.2.1.1.2.2.2.1; rw [this, b1, qi (by omega)]
  have h20 : I 2 0 = nI N := by have : I 2 0 = I 63 0 := h.2.1.1.2.2.1; rw [this, n1]
  have hh := has7 (S := S) (I := I) (J := J) (a := 7) (v := v1)
  rw [h70] at hh
  have ew : ∀ X : tHI, X 63 = I 63 → V12_in v2.toInt64 0 ((X 63 0).toInt64) = V11_within v2 0 (I 2 0) := fun X e => by
    rw [e, n1, h20]
    exact inwi rfl (by rw [Int32.toInt_toInt64])
  unfold F11_leaning F11_leaning_32
  refine ⟨fun c => ?_, fun c => ⟨fun d => ?_, fun d => ?_⟩⟩
  · show F12_leaning n S I J v1 v2 (fun y I2 J2 => -1 = y ∧ Inv S I2 J2)
    unfold F12_leaning F12_leaning_29
    have e63 : (uI I 61 0 0) 63 = I 63 := uIn (by decide)
    have ib := isB (S := S) (I := uI I 61 0 0) (J := J) (v := v1) (by rw [e63]; exact b1) b2
    refine ⟨fun _ => ⟨rfl, h.th⟩, fun z => absurd (ib.mpr (fun w => hh.mp c (by omega))) z⟩
  · have hv1 : 0 ≤ v1.toInt ∧ v1.toInt < B ∧ v1.toInt < 12 := Classical.byContradiction fun w => c (hh.mpr w)
    obtain ⟨b, rfl, hbB, -⟩ := nat_of (v := v1) (m := B) hv1.1 hv1.2.1
    have hbB : b < B := by omega
    have hv2 : 0 ≤ v2.toInt ∧ v2.toInt ≤ N := by have d := wi1.mp d; rw [h20, qi (by omega), tz0] at d; exact d
    obtain ⟨w, rfl, hw, -⟩ := nat_of (v := v2) (m := N + 1) hv2.1 (by omega)
    have hbi : (b : Int) < (I 63 1).toInt := by rw [b1, qi (by omega)]; omega
    refine sp_asIt (r := I 63) (by omega) h.2.1 n1 n2 h.2.2.2.2.2.2.2.1 (fun X x1 x2 hQ => ?_)
    refine sp_bestLeans (J := J) h.1 hn hQ n1 n2 hbi (w := w) (by omega) (fun X2 J2 y1 y2 => ?_)
    have hX : ∀ x, x ∉ [49, 51, 55, 56, 57] → X2 x = I x := fun x hx => by
      have : ¬ (x = 49 ∨ x = 51 ∨ x = 55 ∨ x = 56 ∨ x = 57) := by simpa using hx
      rw [y1.1 x hx, x1 x (by omega)]
    have hI2 : Inv S X2 J2 := h.keep ⟨fun x hx => hX x (fun z => by
      have : x = 49 ∨ x = 51 ∨ x = 55 ∨ x = 56 ∨ x = 57 := by simpa using z
      omega), fun x hx => hX x (fun z => by
      have : x = 49 ∨ x = 51 ∨ x = 55 ∨ x = 56 ∨ x = 57 := by simpa using z
      rcases this with q | q | q | q | q <;> (subst q; revert hx; decide)), fun y _ => by rw [hX 0 (by decide)], fun y _ => by rw [hX 61 (by decide)], by rw [hX 40 (by decide)], fun y hy => by
      have : y = 8 ∨ y = 9 ∨ y = 10 := by simpa using hy
      rw [y1.2 y (by omega) (by omega), x2 y hy], fun y _ => by rw [hX 50 (by decide)], fun y _ => by rw [hX 66 (by decide)]⟩ (KpJ.c y2)
    have hI3 := hI2.th
    have e63 : (uI X2 61 0 0) 63 = I 63 := by rw [uIn (by decide)]; exact hX 63 (by decide)
    have c41 : (uI X2 61 0 0) 61 41 = 63 := hI3.2.2.2.2.2.2.1.2
    obtain ⟨N', B', n1', n2', b1', b2', -, hM'⟩ := hI3.mq
    have eN : N' = N := (qeq (by omega) (by omega)).mp (by rw [← n1', e63, n1])
    have eB : B' = B := (qeq (by omega) (by omega)).mp (by rw [← b1', e63, b1])
    subst eN eB
    have ib := isB (S := S) (I := uI X2 61 0 0) (J := J2) (v := nI b) b1' b2'
    rw [qi (by omega)] at ib
    show F12_leaning n S X2 J2 (nI b) (nI w) (fun y I2 J2 => anE S X (I 63) (WM 63 (I 63) N') N' b w = y ∧ Inv S I2 J2)
    unfold F12_leaning
    refine ⟨fun z => absurd (ib.mp z) (by omega), fun _ => ⟨fun _ => ?_, fun z => ?_⟩⟩
    · refine sp_findLeaning hn hM' (by rw [e63]; exact hRK) c41 hbB (fun X3 J3 w1 w2 w3 w4 w5 => ?_)
      have eq : qL S (uI X2 61 0 0) ((uI X2 61 0 0) 63) (WM 63 ((uI X2 61 0 0) 63) N') N' b = qL S X (I 63) (WM 63 (I 63) N') N' b := by
        funext c
        rw [e63]
        exact aQ_I hQ.FO (by rw [uIn (by decide), y1.1 1 (by decide)]) (fun x hx => by rw [uIn (by omega), y1.1 x (fun z => by
          have : x = 49 ∨ x = 51 ∨ x = 55 ∨ x = 56 ∨ x = 57 := by simpa using z
          omega)])
      rw [eq, e63] at w5
      rw [eq, e63]
      have f63 : X3 63 = I 63 := by rw [w1 63 (by decide) (by decide) (by decide)]; exact e63
      have hI4 : Inv S X3 J3 := hI3.keep ⟨fun x hx => w1 x (by omega) (by omega) (by omega), fun x hx => w1 x (fun q => by subst q; revert hx; decide) (fun q => by subst q; revert hx; decide) (fun q => by subst q; revert hx; decide), fun y _ => by rw [w1 0 (by decide) (by decide) (by decide)], fun y hy => w2 y (fun q => by
        have : y = 34 ∨ y = 38 ∨ y = 42 ∨ y = 43 ∨ y = 44 := by simpa using q
        have : y = 1 ∨ y = 8 ∨ y = 11 ∨ y = 13 ∨ y = 18 ∨ y = 20 ∨ y = 41 ∨ y = 53 ∨ y = 57 := by simpa using hy
        omega), by rw [w1 40 (by decide) (by decide) (by decide)], fun y _ => by rw [w1 49 (by decide) (by decide) (by decide)], fun y _ => by rw [w1 50 (by decide) (by decide) (by decide)], w3⟩ (KpJ.m w4)
      have e0 : nI w = 0 ↔ w = 0 := qeq (b := 0) (by omega) (by omega)
      unfold anE
      by_cases hw0 : w = 0
      · rw [if_pos hw0, if_pos (e0.mpr hw0)]
        exact ⟨⟨fun z => absurd (e0.mpr hw0) z, fun _ => trivial⟩, rfl, hI4⟩
      · have ne : ¬ nI w = 0 := fun z => hw0 (e0.mp z)
        have e32 : 32 + nI w - 1 = nI (32 + (w - 1)) := by rw [show 32 + nI w = nI (32 + w) from nI_add 32 w, qpred (by omega), show 32 + w - 1 = 32 + (w - 1) by omega]
        rw [if_neg hw0, if_neg ne, e32, qpred (by omega), qn (by omega), qn (by omega), f63]
        refine ⟨⟨fun _ => ⟨(qin (by omega)).mpr (by omega), fun _ => trivial, fun _ => ⟨(qin (by omega)).mpr (by omega), trivial⟩⟩, fun z => absurd z ne⟩, ?_, hI4⟩
        by_cases g : I 63 (32 + (w - 1)) = 1
        · have gm : mbL (I 63) (w - 1) = true := decide_eq_true g
          rw [if_pos g, w5 (w - 1) (by omega)]
          congr 1
          unfold rwG
          rw [Nat.add_sub_cancel_left, if_pos ⟨by omega, by omega, gm⟩]
        · rw [if_neg g]
          unfold vD
          rw [if_neg (fun z => g (of_decide_eq_true z.2))]
          decide
    · exfalso; rw [ew (uI X2 61 0 0) e63] at z; exact d z
  · show F12_leaning n S I J v1 v2 (fun y I2 J2 => -1 = y ∧ Inv S I2 J2)
    unfold F12_leaning F12_leaning_29
    have e63 : (uI I 61 0 0) 63 = I 63 := uIn (by decide)
    exact ⟨fun _ => ⟨rfl, h.th⟩, fun _ => ⟨fun z => absurd ((ew (uI I 61 0 0) e63).trans d) z, fun _ => ⟨rfl, h.th⟩⟩⟩
end LM
