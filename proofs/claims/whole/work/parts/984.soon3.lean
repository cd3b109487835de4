/-! soonest, III: the model; both -/
theorem rg_v {p q g kk : Nat} (hp : 1 ≤ p) (hp60 : p ≤ 60) (hq : 1 ≤ q) (hq60 : q ≤ 60) : (loP kk p ≤ q ∧ q ≤ hiP g p) ↔ (q ≤ p + g ∧ p ≤ q + kk) := by
  unfold loP hiP
  split <;> split <;> omega
theorem sb_v : ∀ q, q < 61 → ∀ p, p < 61 → ∀ k, k < 61 → (nI q < nI p - nI k ↔ q + k < p) := by
  intro q hq p hp k hk
  rw [Int32.lt_iff_toInt_lt, ti_sub (by rw [qi (by omega), qi (by omega)]; omega) (by rw [qi (by omega), qi (by omega)]; omega), qi (by omega), qi (by omega), qi (by omega)]
  omega
section SM
variable {n : Nat} {S : tSH} {I : tHI} {J : tHJ} {k : Int32 → tHI → tHJ → Prop} {Q : Nat → Nat} {N B g kk : Nat}
def TM (T : Nat → Nat → Nat) (Q : Nat → Nat) (g kk B : Nat) (u : Nat → Int32) (b p : Nat) : Prop := ∀ b' p', b' < B → 1 ≤ p' → p' ≤ 60 → (b < b' ∨ (b' = b ∧ p' < p)) → u (61 * b' + p') = nI (tbS T Q g kk B (B - b') p')
theorem TM.add {T : Nat → Nat → Nat} {u : Nat → Int32} {b p : Nat} {v : Int32} (h : TM T Q g kk B u b p) (hp : 1 ≤ p) (hp60 : p ≤ 60) (hv : v = nI (tbS T Q g kk B (B - b) p)) : TM T Q g kk B (up u (61 * b + p) v) b (p + 1) := by
  intro b' p' h1 h2 h3 h4
  by_cases e : b' = b ∧ p' = p
  · rw [e.1, e.2, upe]; exact hv
  · rw [upn (by omega)]
    exact h b' p' h1 h2 h3 (by omega)
theorem TM.dn {T : Nat → Nat → Nat} {u : Nat → Int32} {b : Nat} (h : TM T Q g kk B u (b + 1) 61) : TM T Q g kk B u b 1 := fun b' p' h1 h2 h3 h4 => h b' p' h1 h2 h3 (by omega)
/-- the model's frame -/
def MX (I X : tHI) : Prop := (∀ x, x ≠ 61 → x ≠ 82 → X x = I x) ∧ ∀ y, y ∉ [34, 38, 42, 43, 44] → X 61 y = I 61 y
theorem MX.tr {X Y : tHI} (h : MX I X) (z : MK X Y) : MX I Y := ⟨fun x p q => by rw [z.1 x p, h.1 x p q], fun y hy => by rw [z.2 y hy, h.2 y hy]⟩
theorem tmM_v {X : tHI} {b p : Nat} (hK : RK (X 63)) (hb : b < 12) (hp : 1 ≤ p) (hp60 : p ≤ 60) : V12_timeOf S X J (nI b) (nI p) = nI (tmS (X 63) b p) ∧ P12_timeOf S X J (nI b) (nI p) := by
  obtain ⟨v0, p0⟩ := ofB (S := S) (I := X) (J := J) hb (q := 1) (by decide) (v := nI b) rfl (w := 1) rfl
  obtain ⟨l, l1, l2⟩ := (hK.2.2.2.1 b hb).2.1
  have np : ¬ nI p = 0 := fun q => by have := (qeq (b := 0) (by omega) (by omega)).mp q; omega
  unfold V12_timeOf P12_timeOf
  rw [if_neg np, v0]
  refine ⟨?_, fun _ => ⟨p0, np, trivial⟩, fun q => absurd q np⟩
  unfold tmS
  rw [l1, qn (by omega), if_pos l2, ql 60, qmul, qdv (by omega) (by omega) (by omega)]
theorem lf_L {f : Nat → Nat} {b p : Nat} (hb : b + 1 < B) (hB : B ≤ 12) (h1 : I 63 1 = nI B) (hg : I 63 5 = nI g) (hg60 : g ≤ 60) (hk0 : I 63 6 = nI kk) (hkk : kk ≤ 60) (hp : 1 ≤ p) (hp60 : p ≤ 60) (hf : ∀ j, 1 ≤ j → j ≤ 60 → I 82 (61 * (b + 1) + j) = nI (f j) ∧ f j ≤ 100000000) (hk : k (nI (f (nxP f g kk p))) I J) : ∀ (d z q : Nat), q + d = 61 → d < z → 1 ≤ q → F12_leastFrom_L23 n S k z I J (nI b) (nI p) (nI (mnF f (loP kk p) (hiP g p) q)) (nI q) := by
  have hlh := lh (g := g) (k := kk) hp hp60
  intro d
  induction d with
  | zero =>
    intro z q hq hz hq1
    obtain ⟨z, rfl⟩ : ∃ w, z = w + 1 := ⟨z - 1, by omega⟩
    have : q = 61 := by omega
    subst this
    show F12_leastFrom_23 n S k (F12_leastFrom_L23 n S k z) I J (nI b) (nI p) _ (nI 61)
    unfold F12_leastFrom_23 F12_leastFrom_104
    rw [mnF_eq (f := f) (lo := loP kk p) (hi := hiP g p) (p := 61) (by omega) (by omega) (fun j a c => (hf j (by omega) (by omega)).2)]
    exact ⟨fun _ => hk, fun w => absurd ((qlt (a := 60) (by omega) (by omega)).mpr (by omega)) w⟩
  | succ d ih =>
    intro z q hq hz hq1
    obtain ⟨z, rfl⟩ : ∃ w, z = w + 1 := ⟨z - 1, by omega⟩
    show F12_leastFrom_23 n S k (F12_leastFrom_L23 n S k z) I J (nI b) (nI p) (nI (mnF f (loP kk p) (hiP g p) q)) (nI q)
    unfold F12_leastFrom_23
    have i1 : 61 * (nI b + 1) + nI q = nI (61 * (b + 1) + q) := by rw [show nI b + 1 = nI (b + 1) from nI_add b 1, ql 61, qmul, nI_add]
    have eB : nI B - 1 = nI (B - 1) := qpred (by omega)
    obtain ⟨f1, f2⟩ := hf q hq1 (by omega)
    have mb := (mnF_b (f := f) (lo := loP kk p) (hi := hiP g p) q).1
    rw [h1, hg, hk0, i1, eB, qn (by omega), f1, nI_add, show nI q + 1 = nI (q + 1) from nI_add q 1]
    refine ⟨fun w => ?_, fun _ => ⟨fun w => ?_, fun _ => ⟨⟨fun _ => trivial, fun _ => ⟨fun _ => trivial, fun _ => ⟨(qin (by omega)).mpr (by omega), fun _ => trivial, fun _ => trivial⟩⟩⟩, ?_⟩⟩⟩
    · exfalso; have := (qlt (a := 60) (by omega) (by omega)).mp w; omega
    · exfalso; have := (qle (by omega) (by omega)).mp w; omega
    · have key := ih z (q + 1) (by omega) (by omega) (by omega)
      have em : mnF f (loP kk p) (hiP g p) (q + 1) = (if loP kk p ≤ q ∧ q ≤ hiP g p then (if mnF f (loP kk p) (hiP g p) q ≤ f q then mnF f (loP kk p) (hiP g p) q else f q) else mnF f (loP kk p) (hiP g p) q) := rfl
      rw [em] at key
      have hr := rg_v (g := g) (kk := kk) hp hp60 hq1 (show q ≤ 60 by omega)
      have a1 : nI (p + g) < nI q ↔ p + g < q := qlt (by omega) (by omega)
      have a2 := sb_v q (by omega) p (by omega) kk (by omega)
      by_cases c1 : p + g < q
      · rw [if_neg (fun w => by have := hr.mp w; omega)] at key
        rw [if_pos (a1.mpr c1)]; exact key
      · rw [if_neg (fun w => c1 (a1.mp w))]
        by_cases c2 : q + kk < p
        · rw [if_neg (fun w => by have := hr.mp w; omega)] at key
          rw [if_pos (a2.mpr c2)]; exact key
        · rw [if_neg (fun w => c2 (a2.mp w))]
          rw [if_pos (hr.mpr (by omega))] at key
          by_cases c3 : mnF f (loP kk p) (hiP g p) q ≤ f q
          · rw [if_pos c3] at key
            rw [if_pos ((qle (by omega) (by omega)).mpr c3)]; exact key
          · rw [if_neg c3] at key
            rw [if_neg (fun w => c3 ((qle (by omega) (by omega)).mp w))]; exact key
theorem w8 {s t : Nat} (hs : s ≤ 100000000) (ht : t ≤ 5940) : V12_within ((nI t).toInt64 + (nI s).toInt64) 0 100000000 = nI (if t + s ≤ 100000000 then t + s else 100000000) := by
  have z1 : (100000000 : Int32).toInt = 100000000 := rfl
  have e1 : (nI t).toInt64.toInt = t := by rw [Int32.toInt_toInt64, qi (by omega)]
  have e2 : (nI s).toInt64.toInt = s := by rw [Int32.toInt_toInt64, qi (by omega)]
  refine Int32.toInt_inj.mp ?_
  rw [mwi (by decide), tl_add (by rw [e1, e2]; omega) (by rw [e1, e2]; omega), e1, e2, tz0, z1, qi (by split <;> omega)]
  split <;> omega
theorem fm_in (hn : 100 < n) (h1 : I 63 1 = nI B) (hB : B ≤ 12) (hK : RK (I 63)) (hg : I 63 5 = nI g) (hg60 : g ≤ 60) (hk0 : I 63 6 = nI kk) (hkk : kk ≤ 60) (hQ60 : ∀ b, Q b ≤ 60) {kb : tHI → tHJ → Prop} {kb9 : tHI → tHJ → Int32 → Prop} {b : Nat} (hb : b < B) (hk : ∀ X : tHI, (∀ x, x ≠ 82 → X x = I x) → TM (tmS (I 63)) Q g kk B (X 82) b 61 → kb9 X J (nI b - 1)) : ∀ (d f p : Nat) (X : tHI), p + d = 61 → d < f → 1 ≤ p → (∀ x, x ≠ 82 → X x = I x) → TM (tmS (I 63)) Q g kk B (X 82) b p → F12_findSoonest_L21 n S kb kb9 f X J (nI b) (nI (Q b)) (nI p) := by
  intro d
  induction d with
  | zero =>
    intro f p X hp hf hp1 c1 c2
    obtain ⟨f, rfl⟩ : ∃ z, f = z + 1 := ⟨f - 1, by omega⟩
    have : p = 61 := by omega
    subst this
    show F12_findSoonest_21 n S kb kb9 (F12_findSoonest_L21 n S kb kb9 f) X J (nI b) (nI (Q b)) (nI 61)
    unfold F12_findSoonest_21
    refine ⟨fun _ => ?_, fun q => absurd ((qlt (a := 60) (by omega) (by omega)).mpr (by omega)) q⟩
    rw [← Int32.sub_eq_add_neg]
    exact hk X c1 c2
  | succ d ih =>
    intro f p X hp hf hp1 c1 c2
    obtain ⟨f, rfl⟩ : ∃ z, f = z + 1 := ⟨f - 1, by omega⟩
    have h60 := hQ60 b
    have e63 : X 63 = I 63 := c1 63 (by decide)
    have i1 : 61 * nI b + nI p = nI (61 * b + p) := by rw [ql 61, qmul, nI_add]
    have hT := tmS_b (r := I 63)
    have fin : ∀ v : Int32, v = nI (tbS (tmS (I 63)) Q g kk B (B - b) p) → F12_findSoonest_70 n S kb kb9 (F12_findSoonest_L21 n S kb kb9 f) X J (nI b) (nI (Q b)) (nI p) v (nI (61 * b + p)) := by
      intro v hv
      unfold F12_findSoonest_70
      rw [qn (by omega), show nI p + 1 = nI (p + 1) from nI_add p 1]
      refine ⟨(qin (by omega)).mpr (by omega), ih f (p + 1) _ (by omega) (by omega) (by omega) (fun x hx => by rw [uIn hx, c1 x hx]) ?_⟩
      rw [uIe]
      exact c2.add hp1 (by omega) hv
    show F12_findSoonest_21 n S kb kb9 (F12_findSoonest_L21 n S kb kb9 f) X J (nI b) (nI (Q b)) (nI p)
    unfold F12_findSoonest_21
    rw [i1]
    refine ⟨fun q => ?_, fun _ => ⟨fun q => ?_, fun q => ?_⟩⟩
    · exfalso; have := (qlt (a := 60) (by omega) (by omega)).mp q; omega
    · have q := (qle (by omega) (by omega)).mp q
      obtain ⟨tv, tp⟩ := tmM_v (S := S) (J := J) (X := X) (by rw [e63]; exact hK) (b := b) (by omega) hp1 (p := p) (by omega)
      rw [e63] at tv
      refine ⟨tp, ?_⟩
      rw [tv]
      unfold F12_leastFrom
      have eB : nI B - 1 = nI (B - 1) := qpred (by omega)
      rw [e63, h1, eB]
      have ht := hT b p
      by_cases c : B = b + 1
      · rw [if_pos (show nI b = nI (B - 1) by rw [c, Nat.add_sub_cancel])]
        obtain ⟨m, rfl⟩ : ∃ w, n = w + 1 := ⟨n - 1, by omega⟩
        show F12_leastFrom_23 (m + 1) S _ (F12_leastFrom_L23 (m + 1) S _ m) X J (nI b) (nI p) 0 1
        unfold F12_leastFrom_23 F12_leastFrom_104
        rw [e63, h1, eB]
        have go : F12_findSoonest_70 (m + 1) S kb kb9 (F12_findSoonest_L21 (m + 1) S kb kb9 f) X J (nI b) (nI (Q b)) (nI p) (V12_within ((nI (tmS (I 63) b p)).toInt64 + (0 : Int32).toInt64) 0 100000000) (nI (61 * b + p)) := by
          refine fin _ ?_
          have := w8 (s := 0) (t := tmS (I 63) b p) (by omega) ht
          rw [tbS_eq hb, if_neg (by omega), if_pos c]
          exact this
        exact ⟨fun _ => go, fun _ => ⟨fun _ => go, fun w => absurd ((qle (by omega) (by omega)).mpr (by omega)) w⟩⟩
      · rw [if_neg (fun w => by have := (qeq (by omega) (by omega)).mp w; omega)]
        have hb1 : b + 1 < B := by omega
        have hlh := lh (g := g) (k := kk) (p := p) hp1 (by omega)
        have e0 : mnF (tbS (tmS (I 63)) Q g kk B (B - (b + 1))) (loP kk p) (hiP g p) 1 = 100000000 := by
          show (if loP kk p ≤ 0 ∧ 0 ≤ hiP g p then _ else _) = _
          rw [if_neg (by omega)]; rfl
        have key := lf_L (n := n) (S := S) (J := J) (I := X) (k := fun x9 I7 J8 => F12_findSoonest_70 n S kb kb9 (F12_findSoonest_L21 n S kb kb9 f) I7 J8 (nI b) (nI (Q b)) (nI p) (V12_within ((nI (tmS (I 63) b p)).toInt64 + x9.toInt64) 0 100000000) (nI (61 * b + p))) (f := tbS (tmS (I 63)) Q g kk B (B - (b + 1))) (g := g) (kk := kk) (p := p) hb1 hB (by rw [e63]; exact h1) (by rw [e63]; exact hg) hg60 (by rw [e63]; exact hk0) hkk hp1 (by omega) (fun j a c => ⟨c2 (b + 1) j hb1 a c (Or.inl (by omega)), tbS_le hT (by omega)⟩) ?_ 60 n 1 (by omega) (by omega) (by omega)
        · rw [e0] at key; exact key
        refine fin _ ?_
        rw [w8 (tbS_le hT (by omega)) ht, tbS_eq hb, if_neg (show ¬ Q b < p by omega), if_neg c]
    · have q : ¬ p ≤ Q b := fun z => q ((qle (by omega) (by omega)).mpr z)
      exact fin _ (by rw [tbS_eq hb, if_pos (by omega)]; rfl)
theorem fm_out (hn : 400 < n) (hM : MQB S I N B) (hK : RK (I 63)) (hg : I 63 5 = nI g) (hg60 : g ≤ 60) (hk0 : I 63 6 = nI kk) (hkk : kk ≤ 60) {kb : tHI → tHJ → Prop} (hk : ∀ (X : tHI) (J' : tHJ), MX I X → MJ J J' → (∀ b p, b < B → 1 ≤ p → p ≤ 60 → X 82 (61 * b + p) = nI (tbS (tmS (I 63)) (fun b => aQ S I (I 63) b (WI I N)) g kk B (B - b) p)) → kb X J') : ∀ (c f : Nat) (X : tHI) (J' : tHJ), c ≤ B → c < f → MX I X → MJ J J' → (∀ b p, b < B → 1 ≤ p → p ≤ 60 → c ≤ b → X 82 (61 * b + p) = nI (tbS (tmS (I 63)) (fun b => aQ S I (I 63) b (WI I N)) g kk B (B - b) p)) → F12_findSoonest_L9 n S kb f X J' (nI c - 1) := by
  have hB := hM.2.2.1
  have hB1 := hM.2.2.2.1
  have hFO := hM.1.2.2.2.2.2
  intro c
  induction c with
  | zero =>
    intro f X J' hc hf c1 c2 c3
    obtain ⟨f, rfl⟩ : ∃ z, f = z + 1 := ⟨f - 1, by omega⟩
    show F12_findSoonest_9 n S kb (F12_findSoonest_L9 n S kb f) X J' (nI 0 - 1)
    unfold F12_findSoonest_9
    exact ⟨fun _ => hk X J' c1 c2 (fun b p h1 h2 h3 => c3 b p h1 h2 h3 (by omega)), fun q => absurd (show nI 0 - 1 < 0 by decide) q⟩
  | succ c ih =>
    intro f X J' hc hf c1 c2 c3
    obtain ⟨f, rfl⟩ : ∃ z, f = z + 1 := ⟨f - 1, by omega⟩
    show F12_findSoonest_9 n S kb (F12_findSoonest_L9 n S kb f) X J' (nI (c + 1) - 1)
    unfold F12_findSoonest_9
    rw [qpred (by omega), Nat.add_sub_cancel]
    refine ⟨fun q => ?_, fun _ => ?_⟩
    · exfalso; rw [Int32.lt_iff_toInt_lt, qi (by omega), tz0] at q; omega
    · have e63 : X 63 = I 63 := c1.1 63 (by decide) (by decide)
      have e41 : X 61 41 = I 61 41 := c1.2 41 (by decide)
      have eW : WI X N = WI I N := by show WM (X 61 41) (X 63) N = WM (I 61 41) (I 63) N; rw [e41, e63]
      have hX1 : X 1 = I 1 := c1.1 1 (by decide) (by decide)
      have hX89 : ∀ x, 89 ≤ x → X x = I x := fun x hx => c1.1 x (by omega) (by omega)
      have hMX : MQB S X N B := by
        obtain ⟨⟨m1, m2, m3, m4, m5, m6⟩, m7, m8, m9, m10⟩ := hM
        refine ⟨⟨by rw [c1.2 20 (by decide)]; exact m1, by rw [e63]; exact m2, m3, by rw [e63]; exact m4, by rw [e63]; exact m5, by rw [e63]; exact m6.cg hX1 hX89 rfl (fun _ _ => rfl)⟩, by rw [e41, e63]; exact m7, m8, by rw [e63]; exact m9, fun b hb => ?_⟩
        rw [eW, e63]; exact m10 b hb
      refine sp_quickM hn hMX (b := c) (by omega) (fun X2 J2 y1 y2 => ?_)
      have eq : aQ S X (X 63) c (WI X N) = aQ S I (I 63) c (WI I N) := by rw [e63, eW]; exact aQ_I hFO hX1 hX89
      rw [eq]
      have cM2 : MX I X2 := c1.tr y1
      have f63 : X2 63 = I 63 := cM2.1 63 (by decide) (by decide)
      have f82 : X2 82 = X 82 := y1.1 82 (by decide)
      refine fm_in (I := X2) (Q := fun b => aQ S I (I 63) b (WI I N)) (b := c) (g := g) (kk := kk) (by omega) (by rw [f63]; exact hB1) hB (by rw [f63]; exact hK) (by rw [f63]; exact hg) hg60 (by rw [f63]; exact hk0) hkk (fun _ => aQ_le) (by omega) (fun Y y3 y4 => ?_) 60 n 1 X2 (by omega) (by omega) (by omega) (fun _ _ => rfl) (fun b' p' h1 h2 h3 h4 => ?_)
      · rw [f63] at y4
        refine ih f Y J2 (by omega) (by omega) ⟨fun x p q => by rw [y3 x q, cM2.1 x p q], fun y hy => by rw [y3 61 (by decide), cM2.2 y hy]⟩ (c2.trans y2) (fun b p h1 h2 h3 h4 => y4 b p h1 h2 h3 (by omega))
      · rw [f63, f82]
        exact c3 b' p' h1 h2 h3 (by omega)
theorem gl_L {v1 : Int32} {f : Nat → Nat} (hf : ∀ j, 1 ≤ j → j ≤ 60 → I 82 j = nI (f j) ∧ f j ≤ 100000000) (hk1 : f (bpF f 1 59) = 100000000 ∨ v1 = -1 → k (if f (bpF f 1 59) = 100000000 then -1 else nI (f (bpF f 1 59))) I J) (hk2 : f (bpF f 1 59) < 100000000 → ¬ v1 = -1 → F12_soonest_L113 n S k n I J v1 (nI (f (bpF f 1 59))) (-1) 0) : ∀ (d z q : Nat), q + d = 61 → d < z → 1 ≤ q → F12_soonest_L46 n S k z I J v1 (nI (mnF f 1 60 q)) (nI q) := by
  intro d
  induction d with
  | zero =>
    intro z q hq hz hq1
    obtain ⟨z, rfl⟩ : ∃ w, z = w + 1 := ⟨z - 1, by omega⟩
    have : q = 61 := by omega
    subst this
    show F12_soonest_46 n S k (F12_soonest_L46 n S k z) I J v1 _ (nI 61)
    unfold F12_soonest_46 F12_soonest_94
    rw [mnF_eq (f := f) (lo := 1) (hi := 60) (p := 61) (by omega) (by omega) (fun j a c => (hf j a c).2)]
    have hin := bpF_in (f := f) (lo := 1) 59
    have hb := (hf (bpF f 1 59) hin.1 (by omega)).2
    have e59 : bpF f 1 (60 - 1) = bpF f 1 59 := rfl
    rw [e59]
    have e8 : (nI (f (bpF f 1 59)) = 100000000) ↔ f (bpF f 1 59) = 100000000 := qeq (b := 100000000) (by omega) (by omega)
    have e9 : (if nI (f (bpF f 1 59)) = 100000000 then (-1 : Int32) else nI (f (bpF f 1 59))) = (if f (bpF f 1 59) = 100000000 then -1 else nI (f (bpF f 1 59))) := by
      by_cases w : f (bpF f 1 59) = 100000000
      · rw [if_pos (e8.mpr w), if_pos w]
      · rw [if_neg (fun y => w (e8.mp y)), if_neg w]
    rw [e9]
    exact ⟨fun _ => ⟨fun w => hk1 (Or.inl (e8.mp w)), fun w => ⟨fun y => hk2 (Nat.lt_of_le_of_ne hb (fun y => w (e8.mpr y))) y, fun y => hk1 (Or.inr y)⟩⟩, fun w => absurd ((qlt (a := 60) (by omega) (by omega)).mpr (by omega)) w⟩
  | succ d ih =>
    intro z q hq hz hq1
    obtain ⟨z, rfl⟩ : ∃ w, z = w + 1 := ⟨z - 1, by omega⟩
    show F12_soonest_46 n S k (F12_soonest_L46 n S k z) I J v1 (nI (mnF f 1 60 q)) (nI q)
    unfold F12_soonest_46
    obtain ⟨f1, f2⟩ := hf q hq1 (by omega)
    have mb := (mnF_b (f := f) (lo := 1) (hi := 60) q).1
    rw [qn (by omega), f1, show nI q + 1 = nI (q + 1) from nI_add q 1]
    refine ⟨fun w => ?_, fun _ => ⟨(qin (by omega)).mpr (by omega), ⟨fun _ => trivial, fun _ => ⟨(qin (by omega)).mpr (by omega), trivial⟩⟩, ?_⟩⟩
    · exfalso; have := (qlt (a := 60) (by omega) (by omega)).mp w; omega
    · have key := ih z (q + 1) (by omega) (by omega) (by omega)
      have em : mnF f 1 60 (q + 1) = (if 1 ≤ q ∧ q ≤ 60 then (if mnF f 1 60 q ≤ f q then mnF f 1 60 q else f q) else mnF f 1 60 q) := rfl
      rw [em, if_pos (by omega)] at key
      by_cases c3 : mnF f 1 60 q ≤ f q
      · rw [if_pos c3] at key
        rw [if_pos ((qle (by omega) (by omega)).mpr c3)]; exact key
      · rw [if_neg c3] at key
        rw [if_neg (fun w => c3 ((qle (by omega) (by omega)).mp w))]; exact key
/-- the pace before, as the model keeps it -/
def pvS (T : Nat → Nat → Nat) (Q : Nat → Nat) (g kk B : Nat) : Nat → Int32
  | 0 => -1
  | b + 1 => nI (wkS T Q g kk B b)
theorem fp_L (hn : 100 < n) (hB : B ≤ 12) (hK : RK (I 63)) (hg : I 63 5 = nI g) (hg60 : g ≤ 60) (hk0 : I 63 6 = nI kk) (hkk : kk ≤ 60) (hF : ∀ b p, b < B → 1 ≤ p → p ≤ 60 → I 82 (61 * b + p) = nI (tbS (tmS (I 63)) Q g kk B (B - b) p)) {b : Nat} (hb : b < B) {v1 : Int32} {kb113 : tHI → tHJ → Int32 → Int32 → Int32 → Int32 → Prop} (hk : kb113 I J v1 (nI (glS (tmS (I 63)) Q g kk B b) - nI (tmS (I 63) b (wkS (tmS (I 63)) Q g kk B b))) (nI (wkS (tmS (I 63)) Q g kk B b)) (nI (b + 1))) : ∀ (d z q : Nat), q + d = wkS (tmS (I 63)) Q g kk B b → d < z → 1 ≤ q → F12_soonest_L122 n S k kb113 z I J v1 (nI (glS (tmS (I 63)) Q g kk B b)) (pvS (tmS (I 63)) Q g kk B b) (nI b) (nI q) := by
  have hw := wkS_in (T := tmS (I 63)) (Q := Q) (g := g) (k := kk) (B := B) b
  have hgb : glS (tmS (I 63)) Q g kk B b ≤ 100000000 := tbS_le tmS_b (by omega)
  -- what the pace before says of a pace
  have pv : ∀ q, 1 ≤ q → q ≤ 60 → (pvS (tmS (I 63)) Q g kk B b = -1 ∧ b = 0) ∨ (¬ pvS (tmS (I 63)) Q g kk B b = -1 ∧ ∃ c, b = c + 1 ∧ (pvS (tmS (I 63)) Q g kk B b + nI g < nI q ↔ ¬ q ≤ wkS (tmS (I 63)) Q g kk B c + g) ∧ (pvS (tmS (I 63)) Q g kk B b - nI kk ≤ nI q ↔ wkS (tmS (I 63)) Q g kk B c ≤ q + kk)) := by
    intro q h1 h2
    cases b with
    | zero => exact Or.inl ⟨rfl, rfl⟩
    | succ c =>
      right
      have hc := wkS_in (T := tmS (I 63)) (Q := Q) (g := g) (k := kk) (B := B) c
      show ¬ nI (wkS (tmS (I 63)) Q g kk B c) = -1 ∧ _
      refine ⟨fun w => ?_, c, rfl, ?_, ?_⟩
      · have := congrArg Int32.toInt w
        rw [qi (by omega), qneg] at this
        omega
      · show nI (wkS (tmS (I 63)) Q g kk B c) + nI g < nI q ↔ _
        rw [nI_add, qlt (by omega) (by omega)]
        omega
      · show nI (wkS (tmS (I 63)) Q g kk B c) - nI kk ≤ nI q ↔ _
        have := sb_v q (by omega) (wkS (tmS (I 63)) Q g kk B c) (by omega) kk (by omega)
        rw [Int32.le_iff_toInt_le]
        rw [Int32.lt_iff_toInt_lt] at this
        omega
  intro d
  induction d with
  | zero =>
    intro z q hq hz hq1
    obtain ⟨z, rfl⟩ : ∃ w, z = w + 1 := ⟨z - 1, by omega⟩
    have : q = wkS (tmS (I 63)) Q g kk B b := by omega
    subst this
    show F12_soonest_122 n S k kb113 (F12_soonest_L122 n S k kb113 z) I J v1 _ _ (nI b) _
    unfold F12_soonest_122 F12_soonest_180
    have i1 : 61 * nI b + nI (wkS (tmS (I 63)) Q g kk B b) = nI (61 * b + wkS (tmS (I 63)) Q g kk B b) := by rw [ql 61, qmul, nI_add]
    obtain ⟨tv, tp⟩ := tmM_v (S := S) (J := J) (X := I) hK (b := b) (by omega) hw.1 hw.2
    have e := hF b (wkS (tmS (I 63)) Q g kk B b) hb hw.1 hw.2
    change _ = nI (glS (tmS (I 63)) Q g kk B b) at e
    rw [i1, qn (by omega), e, tv, show nI b + 1 = nI (b + 1) from nI_add b 1, hg, hk0]
    refine ⟨(qin (by omega)).mpr (by omega), fun w => absurd rfl w, fun _ => ⟨fun _ => ⟨tp, hk⟩, fun w => ?_⟩⟩
    rcases pv (wkS (tmS (I 63)) Q g kk B b) hw.1 hw.2 with ⟨y, -⟩ | ⟨-, c, rfl, y1, y2⟩
    · exact absurd y w
    · have hin := nxP_in (f := tbS (tmS (I 63)) Q g kk B (B - (c + 1))) (g := g) (k := kk) (wkS_in (T := tmS (I 63)) (Q := Q) (g := g) (k := kk) (B := B) c).1 (wkS_in (T := tmS (I 63)) (Q := Q) (g := g) (k := kk) (B := B) c).2
      have hc := wkS_in (T := tmS (I 63)) (Q := Q) (g := g) (k := kk) (B := B) c
      have hr := (rg_v (g := g) (kk := kk) hc.1 hc.2 hw.1 hw.2).mp ⟨hin.1, hin.2.1⟩
      exact ⟨fun y => absurd (y1.mp y) (by omega), fun _ => ⟨fun _ => ⟨tp, hk⟩, fun y => absurd (y2.mpr (by omega)) y⟩⟩
  | succ d ih =>
    intro z q hq hz hq1
    obtain ⟨z, rfl⟩ : ∃ w, z = w + 1 := ⟨z - 1, by omega⟩
    show F12_soonest_122 n S k kb113 (F12_soonest_L122 n S k kb113 z) I J v1 _ _ (nI b) (nI q)
    unfold F12_soonest_122 F12_soonest_174
    have i1 : 61 * nI b + nI q = nI (61 * b + q) := by rw [ql 61, qmul, nI_add]
    have key := ih z (q + 1) (by omega) (by omega) (by omega)
    have hqb : tbS (tmS (I 63)) Q g kk B (B - b) q ≤ 100000000 := tbS_le tmS_b (by omega)
    rw [i1, qn (by omega), hF b q hb hq1 (by omega), show nI q + 1 = nI (q + 1) from nI_add q 1, hg, hk0]
    refine ⟨(qin (by omega)).mpr (by omega), fun _ => key, fun w => ?_⟩
    have w := (qeq (by omega) (by omega)).mp w
    rcases pv q hq1 (by omega) with ⟨-, y⟩ | ⟨y0, c, rfl, y1, y2⟩
    · exfalso
      subst y
      have := bpF_lt (f := tbS (tmS (I 63)) Q g kk B B) (lo := 1) 59 q hq1 (by have : wkS (tmS (I 63)) Q g kk B 0 = bpF (tbS (tmS (I 63)) Q g kk B B) 1 59 := rfl
                                                                               omega)
      have e2 : glS (tmS (I 63)) Q g kk B 0 = tbS (tmS (I 63)) Q g kk B B (bpF (tbS (tmS (I 63)) Q g kk B B) 1 59) := rfl
      rw [e2] at w
      have e3 : B - 0 = B := rfl
      rw [e3] at w
      omega
    · refine ⟨fun y => absurd y y0, fun _ => ⟨fun _ => key, fun y3 => ⟨fun y4 => ?_, fun _ => key⟩⟩⟩
      exfalso
      have hc := wkS_in (T := tmS (I 63)) (Q := Q) (g := g) (k := kk) (B := B) c
      have g1 : q ≤ wkS (tmS (I 63)) Q g kk B c + g := by
        rcases Nat.lt_or_ge (wkS (tmS (I 63)) Q g kk B c + g) q with z | z
        · exact absurd (y1.mpr (by omega)) y3
        · exact z
      have hr := (rg_v (g := g) (kk := kk) hc.1 hc.2 hq1 (show q ≤ 60 by omega)).mpr ⟨g1, y2.mp y4⟩
      have e2 : wkS (tmS (I 63)) Q g kk B (c + 1) = nxP (tbS (tmS (I 63)) Q g kk B (B - (c + 1))) g kk (wkS (tmS (I 63)) Q g kk B c) := rfl
      have := nxP_lt (f := tbS (tmS (I 63)) Q g kk B (B - (c + 1))) (g := g) (k := kk) (p := wkS (tmS (I 63)) Q g kk B c) hr.1 (by omega)
      have e3 : glS (tmS (I 63)) Q g kk B (c + 1) = tbS (tmS (I 63)) Q g kk B (B - (c + 1)) (nxP (tbS (tmS (I 63)) Q g kk B (B - (c + 1))) g kk (wkS (tmS (I 63)) Q g kk B c)) := rfl
      rw [e3] at w
      omega
theorem wm_L (hn : 100 < n) (hB : B ≤ 12) (hK : RK (I 63)) (hg : I 63 5 = nI g) (hg60 : g ≤ 60) (hk0 : I 63 6 = nI kk) (hkk : kk ≤ 60) (hF : ∀ b p, b < B → 1 ≤ p → p ≤ 60 → I 82 (61 * b + p) = nI (tbS (tmS (I 63)) Q g kk B (B - b) p)) (hQ : ∀ b, b < B → 1 ≤ Q b) {q : Nat} (hq : q < B) (hk : k (nI (wkS (tmS (I 63)) Q g kk B q)) I J) : ∀ (d f b : Nat) (v3 : Int32), b + d = q + 1 → d < f → (b ≤ q → v3 = nI (glS (tmS (I 63)) Q g kk B b)) → F12_soonest_L113 n S k f I J (nI q) v3 (pvS (tmS (I 63)) Q g kk B b) (nI b) := by
  intro d
  induction d with
  | zero =>
    intro f b v3 hb hf hv
    obtain ⟨f, rfl⟩ : ∃ z, f = z + 1 := ⟨f - 1, by omega⟩
    have : b = q + 1 := by omega
    subst this
    show F12_soonest_113 n S k (F12_soonest_L113 n S k f) I J (nI q) v3 _ (nI (q + 1))
    unfold F12_soonest_113
    exact ⟨fun _ => hk, fun z => absurd ((qlt (by omega) (by omega)).mpr (by omega)) z⟩
  | succ d ih =>
    intro f b v3 hb hf hv
    obtain ⟨f, rfl⟩ : ∃ z, f = z + 1 := ⟨f - 1, by omega⟩
    show F12_soonest_113 n S k (F12_soonest_L113 n S k f) I J (nI q) v3 _ (nI b)
    unfold F12_soonest_113
    have hw := wkS_in (T := tmS (I 63)) (Q := Q) (g := g) (k := kk) (B := B) b
    rw [hv (by omega)]
    refine ⟨fun z => ?_, fun _ => fp_L (g := g) (kk := kk) hn hB hK hg hg60 hk0 hkk hF (b := b) (by omega) ?_ (wkS (tmS (I 63)) Q g kk B b - 1) n 1 (by omega) (by omega) (by omega)⟩
    · exfalso; have := (qlt (by omega) (by omega)).mp z; omega
    · obtain ⟨f1, f2, f3⟩ := glS_fin (T := tmS (I 63)) (Q := Q) (g := g) (k := kk) tmS_b hQ hB b (by omega)
      refine ih f (b + 1) _ (by omega) (by omega) (fun z => ?_)
      rw [f3 (by omega), qsub (by omega), Nat.add_sub_cancel_left]
theorem st_soonest (hn : 1000 < n) : tSt_soonest n Inv := by
  intro S I J v1 h
  obtain ⟨N, B, n1, n2, b1, b2, c63, hM⟩ := h.mq
  have hRK := h.2.1.2.2.2.2.2.1
  obtain ⟨g, g1, g2, g3⟩ := hRK.1.2.2.2.2.2.1
  obtain ⟨kk, k1, k2, k3⟩ := hRK.1.2.2.2.2.2.2.1
  have e70 : I 7 0 = nI B := by have : I 7 0 = I 63 1 := h.2.1.1.2.2.2.1; rw [this, b1]
  have h70 : (I 7 0).toInt = B := by rw [e70, qi (by omega)]
  have hin : ∀ X : tHI, X 63 = I 63 → (V12_in v1.toInt64 (-1) ((X 63 1).toInt64 - 1) = 0 ↔ ¬ (-1 ≤ v1.toInt ∧ v1.toInt < B)) := by
    intro X e
    have e1 : (1 : Int64).toInt = 1 := by decide
    have e0 : (-1 : Int64).toInt = -1 := by decide
    have e2 : (nI B).toInt64.toInt = B := by rw [Int32.toInt_toInt64, qi (by omega)]
    rw [mi0, e, b1, Int32.toInt_toInt64, e0, tl_sub (by rw [e1, e2]; omega) (by rw [e1, e2]; omega), e1, e2]
    omega
  have main : (v1 = -1 ∨ ∃ q, v1 = nI q ∧ q < B) → F11_soonest_21 n S (fun x I1 J1 => F12_soonest n S I1 J1 v1 (fun y I2 J2 => x = y ∧ Inv S I2 J2)) I J v1 := by
    intro hv
    have hvi : -1 ≤ v1.toInt ∧ v1.toInt < B := by
      rcases hv with w | ⟨q, q1, q2⟩
      · rw [w, qneg]; omega
      · rw [q1, qi (by omega)]; omega
    unfold F11_soonest_21
    refine sp_asIt (r := I 63) (by omega) h.2.1 n1 n2 h.2.2.2.2.2.2.2.1 (fun X x1 x2 hQ => ?_)
    have x70 : X 7 0 = nI B := by rw [x1 7 (by decide)]; exact e70
    unfold F5_soonestRow
    have e12 : (if 12 < X 7 0 then 12 else X 7 0) = nI B := by
      rw [x70]
      exact if_neg (fun z => by have := (qlt (a := 12) (by omega) (by omega)).mp z; omega)
    rw [e12]
    refine son_L (J := J) h.1 hn hQ b1 b2 g1 g3 k1 k3 hv (fun X2 J2 y1 y2 => ?_) B n 0 X J (by omega) (by omega) rfl (fun j hj => by omega) ⟨fun _ _ _ _ => rfl, fun _ _ => rfl⟩ (CJ.rf J)
    have hX : ∀ x, x ≠ 49 → x ≠ 52 → x ≠ 53 → X2 x = I x := fun x p q s => by rw [y1.1 x p q s, x1 x p]
    have hI2 : Inv S X2 J2 := h.keep ⟨fun x hx => hX x (by omega) (by omega) (by omega), fun x hx => hX x (fun q => by subst q; revert hx; decide) (fun q => by subst q; revert hx; decide) (fun q => by subst q; revert hx; decide), fun y _ => by rw [hX 0 (by decide) (by decide) (by decide)], fun y _ => by rw [hX 61 (by decide) (by decide) (by decide)], by rw [hX 40 (by decide) (by decide) (by decide)], fun y hy => by
      have : y = 8 ∨ y = 9 ∨ y = 10 := by simpa using hy
      rw [y1.2 y (by omega), x2 y hy], fun y _ => by rw [hX 50 (by decide) (by decide) (by decide)], fun y _ => by rw [hX 66 (by decide) (by decide) (by decide)]⟩ (KpJ.c y2)
    have hI3 := hI2.th
    have e63 : (uI X2 61 0 0) 63 = I 63 := by rw [uIn (by decide)]; exact hX 63 (by decide) (by decide) (by decide)
    have c41 : (uI X2 61 0 0) 61 41 = 63 := hI3.2.2.2.2.2.2.1.2
    obtain ⟨N', B', n1', n2', b1', b2', -, hM'⟩ := hI3.mq
    have eN : N' = N := (qeq (by omega) (by omega)).mp (by rw [← n1', e63, n1])
    have eB : B' = B := (qeq (by omega) (by omega)).mp (by rw [← b1', e63, b1])
    subst eN eB
    have eQ : (fun b => aQ S (uI X2 61 0 0) ((uI X2 61 0 0) 63) b (WI (uI X2 61 0 0) N')) = (fun b => aQ S X (I 63) b (WM 63 (I 63) N')) := by
      funext b
      rw [WI63 c41, e63]
      exact aQ_I hQ.FO (by rw [uIn (by decide), y1.1 1 (by decide) (by decide) (by decide)]) (fun x hx => by rw [uIn (by omega), y1.1 x (by omega) (by omega) (by omega)])
    show F12_soonest n S X2 J2 v1 (fun y I2 J2 => anS (tmS (I 63)) (fun b => aQ S X (I 63) b (WM 63 (I 63) N')) g kk B' v1 = y ∧ Inv S I2 J2)
    unfold F12_soonest
    have eh := hin (uI X2 61 0 0) e63
    have e631 : (uI X2 61 0 0) 63 1 = nI B' := by rw [e63]; exact b1
    refine ⟨fun _ => ⟨fun z => ?_, fun z => ?_⟩, fun z => absurd (eh.mp z) (fun w => w hvi)⟩
    · have hB0 : 0 < B' := by
        rcases Nat.eq_zero_or_pos B' with w | w
        · exact absurd (by rw [e631, w]; rfl) z
        · exact w
      unfold F12_findSoonest
      rw [e631]
      refine fm_out (I := uI X2 61 0 0) (J := J2) (N := N') (B := B') (g := g) (kk := kk) (by omega) hM' (by rw [e63]; exact hRK) (by rw [e63]; exact g1) g3 (by rw [e63]; exact k1) k3 (fun X3 J3 w1 w2 w3 => ?_) B' n _ J2 (by omega) (by omega) ⟨fun _ _ _ => rfl, fun _ _ => rfl⟩ (MJ.rf _) (fun b p p1 p2 p3 p4 => by omega)
      rw [eQ, e63] at w3
      have f63 : X3 63 = I 63 := by rw [w1.1 63 (by decide) (by decide)]; exact e63
      have hI4 : Inv S X3 J3 := hI3.keep ⟨fun x hx => w1.1 x (by omega) (by omega), fun x hx => w1.1 x (fun q => by subst q; revert hx; decide) (fun q => by subst q; revert hx; decide), fun y _ => by rw [w1.1 0 (by decide) (by decide)], fun y hy => w1.2 y (fun q => by
        have : y = 34 ∨ y = 38 ∨ y = 42 ∨ y = 43 ∨ y = 44 := by simpa using q
        have : y = 1 ∨ y = 8 ∨ y = 11 ∨ y = 13 ∨ y = 18 ∨ y = 20 ∨ y = 41 ∨ y = 53 ∨ y = 57 := by simpa using hy
        omega), by rw [w1.1 40 (by decide) (by decide)], fun y _ => by rw [w1.1 49 (by decide) (by decide)], fun y _ => by rw [w1.1 50 (by decide) (by decide)], fun y _ => by rw [w1.1 66 (by decide) (by decide)]⟩ (KpJ.m w2)
      have hT := tmS_b (r := I 63)
      have hgin := bpF_in (f := tbS (tmS (I 63)) (fun b => aQ S X (I 63) b (WM 63 (I 63) N')) g kk B' B') (lo := 1) 59
      have egl : glS (tmS (I 63)) (fun b => aQ S X (I 63) b (WM 63 (I 63) N')) g kk B' 0 = tbS (tmS (I 63)) (fun b => aQ S X (I 63) b (WM 63 (I 63) N')) g kk B' B' (bpF (tbS (tmS (I 63)) (fun b => aQ S X (I 63) b (WM 63 (I 63) N')) g kk B' B') 1 59) := rfl
      -- whether every bend can be gone round
      have hz : (zQ (fun b => aQ S X (I 63) b (WM 63 (I 63) N')) B' = true ∧ glS (tmS (I 63)) (fun b => aQ S X (I 63) b (WM 63 (I 63) N')) g kk B' 0 < 100000000) ∨ (zQ (fun b => aQ S X (I 63) b (WM 63 (I 63) N')) B' = false ∧ glS (tmS (I 63)) (fun b => aQ S X (I 63) b (WM 63 (I 63) N')) g kk B' 0 = 100000000) := by
        cases hz : zQ (fun b => aQ S X (I 63) b (WM 63 (I 63) N')) B' with
        | true => exact Or.inl ⟨rfl, (glS_fin (g := g) (k := kk) hT (zQ_t B' hz) b2 0 hB0).1⟩
        | false =>
          obtain ⟨b0, h1, h2⟩ := zQ_n B' hz
          have := tbS_far (Q := fun b => aQ S X (I 63) b (WM 63 (I 63) N')) (g := g) (k := kk) hT b2 h1 h2 b0 (Nat.le_refl _) (bpF (tbS (tmS (I 63)) (fun b => aQ S X (I 63) b (WM 63 (I 63) N')) g kk B' B') 1 59) hgin.1 (by omega)
          rw [show B' - b0 + b0 = B' by omega] at this
          exact Or.inr ⟨rfl, by rw [egl]; exact this⟩
      refine gl_L (f := tbS (tmS (I 63)) (fun b => aQ S X (I 63) b (WM 63 (I 63) N')) g kk B' B') (fun j a c => ⟨?_, tbS_le hT b2⟩) (fun w => ?_) (fun w w' => ?_) 60 n 1 (by omega) (by omega) (by omega)
      · have := w3 0 j hB0 a c
        rw [show 61 * 0 + j = j by omega] at this
        exact this
      · refine ⟨?_, hI4⟩
        unfold anS
        rcases hz with ⟨z1, z2⟩ | ⟨z1, z2⟩
        · rw [egl] at z2
          rw [if_pos z1, if_pos (w.resolve_left (by omega)), if_neg (by omega), egl, if_neg (by omega)]
        · rw [egl] at z2
          rw [z1, if_neg (by decide), if_pos z2]
      · rcases hz with ⟨z1, z2⟩ | ⟨z1, z2⟩
        · obtain ⟨q, q1, q2⟩ := hv.resolve_left w'
          rw [q1]
          have f63' : (tmS (X3 63)) = tmS (I 63) := by rw [f63]
          refine wm_L (I := X3) (Q := fun b => aQ S X (I 63) b (WM 63 (I 63) N')) (B := B') (g := g) (kk := kk) (by omega) b2 (by rw [f63]; exact hRK) (by rw [f63]; exact g1) g3 (by rw [f63]; exact k1) k3 (by rw [f63]; exact w3) (zQ_t B' z1) q2 ⟨?_, hI4⟩ (q + 1) n 0 _ (by omega) (by omega) (fun _ => by rw [f63]; rfl)
          unfold anS
          rw [if_pos z1, if_neg (by rw [← q1]; exact w'), qn (by omega), f63]
        · rw [egl] at z2; omega
    · have hB0 : B' = 0 := (qeq (b := 0) (by omega) (by omega)).mp (by rw [← e631]; exact z)
      refine ⟨?_, hI3⟩
      rcases hv with w | ⟨q, q1, q2⟩
      · unfold anS
        subst hB0
        rw [if_pos (show zQ _ 0 = true from rfl), if_pos w, if_pos rfl]
      · omega
  unfold F11_soonest
  have hh := has7 (S := S) (I := I) (J := J) (a := 7) (v := v1)
  rw [h70] at hh
  refine ⟨fun c => main (Or.inl c), fun c => ⟨fun d => main (Or.inr ?_), fun d => ?_⟩⟩
  · have d2 : 0 ≤ v1.toInt ∧ v1.toInt < B ∧ v1.toInt < 12 := Classical.byContradiction fun w => d (hh.mpr w)
    obtain ⟨q, q1, q2, q3⟩ := nat_of (v := v1) (m := B) d2.1 d2.2.1
    exact ⟨q, q1, by omega⟩
  · show F12_soonest n S I J v1 (fun y I2 J2 => -1 = y ∧ Inv S I2 J2)
    unfold F12_soonest
    have e63 : (uI I 61 0 0) 63 = I 63 := uIn (by decide)
    have eh := hin (uI I 61 0 0) e63
    have d2 := hh.mp d
    have nv : ¬ v1.toInt = -1 := fun w => c (Int32.toInt_inj.mp (by rw [w, qneg]))
    exact ⟨fun z => absurd (eh.mpr (by omega)) z, fun _ => ⟨rfl, h.th⟩⟩
end SM
