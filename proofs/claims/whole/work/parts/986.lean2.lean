/-! leaning, II: the class -/
def mbL (r : Nat → Int32) (l : Nat) : Bool := decide (r (32 + l) = 1)
def vD (N : Nat) (m : Nat → Bool) (d : Nat → Nat) (l : Nat) : Int32 := if l < N ∧ m l = true then nI (d l) - 2 else 0
def fD (N : Nat) (m : Nat → Bool) (r : Nat → Int32) (d : Nat → Nat) (l : Nat) : Int := if l < N ∧ m l = true then ((d l : Int) - 2) * (r (26 + l)).toInt else 0
/-- the row with the leans of a code -/
def rwG (r : Nat → Int32) (N c : Nat) (y : Nat) : Int32 := if 20 ≤ y ∧ y - 20 < N ∧ mbL r (y - 20) = true then vD N (mbL r) (dgL (mbL r) N c) (y - 20) else r y
theorem vD_v : ∀ d, d < 5 → (nI d - 2).toInt = (d : Int) - 2 := by decide +kernel
theorem vD_u : ∀ d, d < 4 → nI d - 2 + 1 = nI (d + 1) - 2 := by decide +kernel
theorem vD_4 : ∀ d, d < 5 → (2 ≤ nI d - 2 ↔ 4 ≤ d) := by decide +kernel
theorem mB63 : ∀ i, i < 6 → mB 63 i = true := by decide +kernel
theorem fD_b {r : Nat → Int32} {N : Nat} {m : Nat → Bool} {d : Nat → Nat} (hK : KL r) (hd : ∀ l, d l < 5) (hN : N ≤ 6) (l : Nat) : -400 ≤ fD N m r d l ∧ fD N m r d l ≤ 400 := by
  unfold fD
  by_cases c : l < N ∧ m l = true
  · rw [if_pos c]
    obtain ⟨w, w1, w2⟩ := (hK l (by omega)).1
    rw [w1, qi (by omega)]
    have h := hd l
    have : d l = 0 ∨ d l = 1 ∨ d l = 2 ∨ d l = 3 ∨ d l = 4 := by omega
    rcases this with g | g | g | g | g <;> rw [g] <;> omega
  · rw [if_neg c]; omega
theorem sm_b {r : Nat → Int32} {N : Nat} {m : Nat → Bool} {d : Nat → Nat} (hK : KL r) (hd : ∀ l, d l < 5) (hN : N ≤ 6) {i : Nat} (hi : i ≤ 6) : -2400 ≤ sgm (fD N m r d) i ∧ sgm (fD N m r d) i ≤ 2400 := by
  have := sgm_b (f := fD N m r d) (M := 400) (fD_b hK hd hN) i
  omega
theorem sI_v {r : Nat → Int32} {N c : Nat} (hK : KL r) (hN : N ≤ 6) : ∀ i, i ≤ N → (sLe 63 (rwG r N c) i).toInt = sgm (fD N (mbL r) r (dgL (mbL r) N c)) i := by
  intro i
  induction i with
  | zero => intro _; rfl
  | succ i ih =>
    intro hi
    have h := ih (by omega)
    have b1 := sm_b (m := mbL r) (d := dgL (mbL r) N c) hK (fun _ => dgL_lt) hN (i := i) (by omega)
    have b2 := fD_b (m := mbL r) (d := dgL (mbL r) N c) hK (fun _ => dgL_lt) hN i
    show (if mB 63 i then (if rwG r N c (32 + i) = 1 then sLe 63 (rwG r N c) i + rwG r N c (20 + i) * rwG r N c (26 + i) else sLe 63 (rwG r N c) i) else sLe 63 (rwG r N c) i).toInt = sgm (fD N (mbL r) r (dgL (mbL r) N c)) i + fD N (mbL r) r (dgL (mbL r) N c) i
    rw [mB63 i (by omega), if_pos rfl]
    have e32 : rwG r N c (32 + i) = r (32 + i) := if_neg (by omega)
    have e26 : rwG r N c (26 + i) = r (26 + i) := if_neg (by omega)
    rw [e32, e26]
    by_cases g : r (32 + i) = 1
    · have gm : mbL r i = true := decide_eq_true g
      have e20 : rwG r N c (20 + i) = nI (dgL (mbL r) N c i) - 2 := by
        unfold rwG vD
        rw [Nat.add_sub_cancel_left, if_pos ⟨by omega, by omega, gm⟩, if_pos ⟨by omega, gm⟩]
      have ef : fD N (mbL r) r (dgL (mbL r) N c) i = ((dgL (mbL r) N c i : Int) - 2) * (r (26 + i)).toInt := if_pos ⟨by omega, gm⟩
      have et : ((nI (dgL (mbL r) N c i) - 2) * r (26 + i)).toInt = fD N (mbL r) r (dgL (mbL r) N c) i := ti_mul (by rw [vD_v _ dgL_lt, ef]) (by omega) (by omega)
      rw [if_pos g, e20, ti_add (by rw [et, h]; omega) (by rw [et, h]; omega), et, h]
    · have ef : fD N (mbL r) r (dgL (mbL r) N c) i = 0 := if_neg (fun z => g (of_decide_eq_true z.2))
      rw [if_neg g, ef, h]; omega
def sI (r : Nat → Int32) (N c : Nat) : Int32 := sLe 63 (rwG r N c) N
theorem sI_6 {r : Nat → Int32} {N c : Nat} (hK : KL r) (hN : N ≤ 6) : (sI r N c).toInt = sgm (fD N (mbL r) r (dgL (mbL r) N c)) 6 := by
  have h := sgm_z (f := fD N (mbL r) r (dgL (mbL r) N c)) (N := N) (fun x hx => if_neg (by omega)) (6 - N)
  rw [show N + (6 - N) = 6 by omega] at h
  rw [h]
  exact sI_v hK hN N (Nat.le_refl _)
/-- the most and its first row -/
def mxL (q : Nat → Nat) : Nat → Int32
  | 0 => -1
  | c + 1 => if nI (q c) ≤ mxL q c then mxL q c else nI (q c)
def biL (q : Nat → Nat) : Nat → Nat
  | 0 => 0
  | c + 1 => if nI (q c) ≤ mxL q c then biL q c else c
theorem mxL_b {q : Nat → Nat} (hq : ∀ c, q c ≤ 60) : ∀ c, -1 ≤ (mxL q c).toInt ∧ (mxL q c).toInt ≤ 60 ∧ (0 < c → 0 ≤ (mxL q c).toInt) := by
  intro c
  induction c with
  | zero => exact ⟨by rw [show mxL q 0 = -1 from rfl, qneg]; omega, by rw [show mxL q 0 = -1 from rfl, qneg]; omega, fun h => by omega⟩
  | succ c ih =>
    show -1 ≤ (if nI (q c) ≤ mxL q c then mxL q c else nI (q c)).toInt ∧ (if nI (q c) ≤ mxL q c then mxL q c else nI (q c)).toInt ≤ 60 ∧ (0 < c + 1 → 0 ≤ (if nI (q c) ≤ mxL q c then mxL q c else nI (q c)).toInt)
    have h := hq c
    by_cases g : nI (q c) ≤ mxL q c
    · rw [if_pos g]
      rw [Int32.le_iff_toInt_le, qi (by omega)] at g
      exact ⟨by omega, by omega, fun _ => by omega⟩
    · rw [if_neg g, qi (by omega)]
      exact ⟨by omega, by omega, fun _ => by omega⟩
theorem mxL_60 {q : Nat → Nat} (hq : ∀ c, q c ≤ 60) {c : Nat} (h : 60 ≤ mxL q c) : ∀ d, mxL q (c + d) = mxL q c ∧ biL q (c + d) = biL q c := by
  intro d
  induction d with
  | zero => exact ⟨rfl, rfl⟩
  | succ d ih =>
    have z : nI (q (c + d)) ≤ mxL q (c + d) := by
      rw [ih.1, Int32.le_iff_toInt_le, qi (by have := hq (c + d); omega)]
      rw [Int32.le_iff_toInt_le, show (60 : Int32).toInt = 60 from rfl] at h
      have := hq (c + d)
      omega
    show (if nI (q (c + d)) ≤ mxL q (c + d) then mxL q (c + d) else nI (q (c + d))) = _ ∧ (if nI (q (c + d)) ≤ mxL q (c + d) then biL q (c + d) else c + d) = _
    rw [if_pos z, if_pos z]
    exact ih
section LE
variable {n : Nat} {S : tSH} {I : tHI} {J : tHJ} {k : Int32 → tHI → tHJ → Prop} {r W : Nat → Int32} {N B b : Nat}
/-- the class's frame -/
def CL (I X : tHI) : Prop := (∀ x, x ∉ [49, 51, 55, 56, 57] → X x = I x) ∧ ∀ y, 3 ≤ y → y ≠ 5 → X 49 y = I 49 y
theorem CL.q {X : tHI} {v : Int32} (c : CL I X) (h : CQ S I r W) (hv : -1000000000 ≤ v.toInt ∧ v.toInt ≤ 1000000000) : CQ S (uI X 49 5 v) r (Wat W 5 v) := by
  have o : ∀ x, x < 49 ∨ 57 < x → (uI X 49 5 v) x = I x := fun x hx => by
    rw [uIn (by omega)]
    exact c.1 x (fun z => by
      have : x = 49 ∨ x = 51 ∨ x = 55 ∨ x = 56 ∨ x = 57 := by simpa using z
      omega)
  refine ⟨h.1.cg (fun i hi => o _ (by omega)) (fun x hx => o x (by omega)), fun a h3 h12 => ?_, fun a h3 h12 => ?_⟩
  · rw [uIe]
    unfold Wat
    by_cases g : a = 5
    · subst g; rw [upe, if_pos rfl]
    · rw [upn g, if_neg g, c.2 a h3 g]; exact h.2.1 a h3 h12
  · unfold Wat
    by_cases g : a = 5
    · rw [if_pos g]; exact hv
    · rw [if_neg g]; exact h.2.2 a h3 h12
/-- what is remembered of sums -/
def ME (S : tSH) (I : tHI) (r W : Nat → Int32) (b : Nat) (u : Nat → Int32) : Prop := ∀ s : Int32, -2400 ≤ s.toInt → s.toInt ≤ 2400 → u (s.toInt + 2400).toNat = -1 ∨ u (s.toInt + 2400).toNat = nI (aQ S I r b (Wat W 5 s))
theorem sp_tried (hT : TY S) (hn : 400 < n) (hQ0 : CQ S I r W) (hb : (b : Int) < (r 1).toInt) {X : tHI} (c1 : CL I X) (hM : ME S I r W b (X 55)) {s : Int32} (hs : X 51 8 = s) (hs1 : -2400 ≤ s.toInt) (hs2 : s.toInt ≤ 2400) (hk : ∀ (Y : tHI) (J' : tHJ), CL I Y → CJ J J' → Y 51 = X 51 → Y 56 = X 56 → Y 57 = X 57 → ME S I r W b (Y 55) → k (nI (aQ S I r b (Wat W 5 s))) Y J') : F5_quickAsTried n S X J (nI b) k := by
  have e24 : (2400 : Int32).toInt = 2400 := rfl
  have ez : (s + 2400).toInt = s.toInt + 2400 := by rw [ti_add (by rw [e24]; omega) (by rw [e24]; omega), e24]
  have eN : s + 2400 = nI (s.toInt + 2400).toNat := by rw [← ez]; exact qof (by omega)
  have l55 : sL S 55 = 4801 := hT.l55
  have hq60 : aQ S I r b (Wat W 5 s) ≤ 60 := aQ_le
  have ic : vp_in (nI (s.toInt + 2400).toNat) 4801 := (qin (by omega)).mpr (by omega)
  unfold F5_quickAsTried F5_quickAsTried_22 F5_quickAsTried_61
  rw [hs, eN, qn (by omega), l55]
  refine ⟨fun z => ?_, fun _ => ⟨fun _ => ⟨ic, fun z => ⟨ic, ?_⟩, fun z => ?_⟩, fun z => ?_⟩⟩
  · exfalso; rw [Int32.lt_iff_toInt_lt, tz0, qi (by omega)] at z; omega
  · rw [(hM s hs1 hs2).resolve_left z]
    exact hk X J c1 (CJ.rf J) rfl rfl rfl hM
  · refine sp_quickest hT hn (c1.q hQ0 (v := s) (by omega)) hb (fun Y J2 y1 y2 => ?_)
    have eq : aQ S (uI X 49 5 s) r b (Wat W 5 s) = aQ S I r b (Wat W 5 s) := aQ_I hQ0.FO (by rw [uIn (by decide), c1.1 1 (by decide)]) (fun x hx => by
      rw [uIn (by omega), c1.1 x (fun z => by
        have : x = 49 ∨ x = 51 ∨ x = 55 ∨ x = 56 ∨ x = 57 := by simpa using z
        omega)])
    rw [eq, uIe, upe]
    refine ⟨ic, ic, hk _ J2 ⟨fun x hx => ?_, fun y h3 h5 => ?_⟩ y2 (by rw [uIn (by decide), y1.1 51 (by decide), uIn (by decide)]) (by rw [uIn (by decide), y1.1 56 (by decide), uIn (by decide)]) (by rw [uIn (by decide), y1.1 57 (by decide), uIn (by decide)]) (fun s' h1 h2 => ?_)⟩
    · have : ¬ (x = 49 ∨ x = 51 ∨ x = 55 ∨ x = 56 ∨ x = 57) := by simpa using hx
      rw [uIn (by omega), y1.1 x (by omega), uIn (by omega)]; exact c1.1 x hx
    · rw [uIn (by decide), y1.2 y h3, uIe, upn h5]; exact c1.2 y h3 h5
    · rw [uIe]
      by_cases g : s' = s
      · subst g; rw [upe]; exact Or.inr rfl
      · rw [upn (fun w => g (Int32.toInt_inj.mp (by omega))), y1.1 55 (by decide), uIn (by decide)]
        exact hM s' h1 h2
  · exfalso; exact z ((qlt (b := 4801) (by omega) (by omega)).mpr (by omega))
/-- the next row of leans -/
theorem nx_L (hL : RLd (I 3) (I 4) (I 5) (I 6) r) (hN : I 2 0 = nI N) (hN6 : N ≤ 6) (hK : KL r) {d0 : Nat → Nat} (hk1 : ∀ (X : tHI) (d : Nat → Nat), nxD N (mbL r) 6 d0 = some d → (∀ x, x ≠ 51 → x ≠ 56 → X x = I x) → (∀ l, l < 6 → X 56 l = vD N (mbL r) d l) → (X 51 8).toInt = sgm (fD N (mbL r) r d) 6 → k 1 X J) (hk0 : ∀ X : tHI, nxD N (mbL r) 6 d0 = none → (∀ x, x ≠ 51 → x ≠ 56 → X x = I x) → k 0 X J) : ∀ (i f : Nat) (X : tHI) (d : Nat → Nat), i ≤ 6 → i < f → (∀ l, d l < 5) → nxD N (mbL r) i d = nxD N (mbL r) 6 d0 → (∀ x, x ≠ 51 → x ≠ 56 → X x = I x) → (∀ l, l < 6 → X 56 l = vD N (mbL r) d l) → (X 51 8).toInt = sgm (fD N (mbL r) r d) 6 → F5_nextTry_L10 n S k f X J (nI i - 1) := by
  intro i
  induction i with
  | zero =>
    intro f X d hi hf hd hx c1 c2 c3
    obtain ⟨f, rfl⟩ : ∃ z, f = z + 1 := ⟨f - 1, by omega⟩
    show F5_nextTry_10 n S k (F5_nextTry_L10 n S k f) X J (nI 0 - 1)
    unfold F5_nextTry_10
    exact ⟨fun _ => hk0 X hx.symm c1, fun z => absurd (show nI 0 - 1 < 0 by decide) z⟩
  | succ i ih =>
    intro f X d hi hf hd hx c1 c2 c3
    obtain ⟨f, rfl⟩ : ∃ z, f = z + 1 := ⟨f - 1, by omega⟩
    show F5_nextTry_10 n S k (F5_nextTry_L10 n S k f) X J (nI (i + 1) - 1)
    unfold F5_nextTry_10 F5_nextTry_97
    rw [qpred (by omega), Nat.add_sub_cancel, ← Int32.sub_eq_add_neg, qn (by omega)]
    have x20 : (X 2 0).toInt = N := by rw [c1 2 (by decide) (by decide), hN, qi (by omega)]
    have hh := has3 (S := S) (I := X) (J := J) (a := 2) (v := nI i)
    rw [x20, qi (by omega)] at hh
    have x5 : X 5 i = r (32 + i) := by rw [c1 5 (by decide) (by decide)]; exact (hL i (by omega)).2.2.1
    have x3 : X 3 i = r (26 + i) := by rw [c1 3 (by decide) (by decide)]; exact (hL i (by omega)).1
    have ic : vp_in (nI i) 6 := (qin (by omega)).mpr (by omega)
    have xd : nxD N (mbL r) (i + 1) d = (if i < N ∧ mbL r i = true then (if d i < 4 then some (fun x => if x = i then d i + 1 else d x) else nxD N (mbL r) i (fun x => if x = i then 0 else d x)) else nxD N (mbL r) i d) := rfl
    rw [xd] at hx
    refine ⟨fun z => ?_, fun _ => ⟨fun z => ?_, fun z => ⟨ic, fun g => ⟨ic, ?_⟩, fun g => ?_⟩⟩⟩
    · exfalso; rw [Int32.lt_iff_toInt_lt, qi (by omega), tz0] at z; omega
    · have z := hh.mp z
      rw [if_neg (fun w => z ⟨by omega, by omega, by omega⟩)] at hx
      exact ih f X d (by omega) (by omega) hd hx c1 c2 c3
    · have hiN : i < N := by
        rcases Nat.lt_or_ge i N with w | w
        · exact w
        · exact absurd (hh.mpr (by omega)) z
      rw [x5] at g
      have gm : mbL r i = true := decide_eq_true g
      rw [if_pos ⟨hiN, gm⟩] at hx
      have hdi := hd i
      have x56 : X 56 i = nI (d i) - 2 := by rw [c2 i (by omega)]; exact if_pos ⟨hiN, gm⟩
      have efd : fD N (mbL r) r d i = ((d i : Int) - 2) * (r (26 + i)).toInt := if_pos ⟨hiN, gm⟩
      obtain ⟨w, w1, w2⟩ := (hK i (by omega)).1
      have wi : (r (26 + i)).toInt = w := by rw [w1, qi (by omega)]
      have sb := sm_b (m := mbL r) (d := d) hK hd hN6 (i := 6) (by omega)
      have h4 := vD_4 (d i) hdi
      rw [x56]
      refine ⟨fun g4 => ⟨ic, ic, ?_⟩, fun g4 => ⟨ic, ic, ic, ?_⟩⟩
      · have g4 := h4.mp g4
        rw [if_neg (by omega)] at hx
        have e51 : (uI X 56 i (-2)) 51 8 = X 51 8 := by rw [uIn (by decide)]
        have e3 : (uI X 56 i (-2)) 3 i = r (26 + i) := by rw [uIn (by decide)]; exact x3
        rw [e51, e3]
        have hd' : ∀ l, (fun x => if x = i then 0 else d x) l < 5 := fun l => by
          show (if l = i then 0 else d l) < 5
          split
          · omega
          · exact hd l
        have e4w : (4 * r (26 + i)).toInt = 4 * w := ti_mul (by rw [wi, show (4 : Int32).toInt = 4 from rfl]) (by omega) (by omega)
        have su := sgm_up (f := fD N (mbL r) r d) (g := fD N (mbL r) r (fun x => if x = i then 0 else d x)) (l := i) (fun x hx => by
          unfold fD
          simp only [if_neg hx]) 6 (by omega)
        have efd' : fD N (mbL r) r (fun x => if x = i then 0 else d x) i = -2 * w := by
          unfold fD
          rw [if_pos ⟨hiN, gm⟩, show (fun x => if x = i then 0 else d x) i = 0 from if_pos rfl, wi]; rfl
        have d4 : d i = 4 := by omega
        rw [efd', efd, wi, d4] at su
        refine ih f _ (fun x => if x = i then 0 else d x) (by omega) (by omega) hd' hx (fun x p q => by rw [uIn p, uIn q]; exact c1 x p q) (fun l hl => ?_) ?_
        · rw [uIn (by decide), uIe]
          by_cases e : l = i
          · subst e
            rw [upe]
            unfold vD
            rw [if_pos ⟨hiN, gm⟩, show (fun x => if x = l then 0 else d x) l = 0 from if_pos rfl]
            decide
          · rw [upn e, c2 l hl]
            unfold vD
            simp only [if_neg e]
        · rw [uIe, upe, ti_sub (by rw [c3, e4w]; omega) (by rw [c3, e4w]; omega), c3, e4w, su]
          omega
      · have g4 : d i < 4 := by
          rcases Nat.lt_or_ge (d i) 4 with w | w
          · exact w
          · exact absurd (h4.mpr w) g4
        rw [if_pos g4] at hx
        have e51 : (uI X 56 i (nI (d i) - 2 + 1)) 51 8 = X 51 8 := by rw [uIn (by decide)]
        have e3 : (uI X 56 i (nI (d i) - 2 + 1)) 3 i = r (26 + i) := by rw [uIn (by decide)]; exact x3
        rw [e51, e3]
        have su := sgm_up (f := fD N (mbL r) r d) (g := fD N (mbL r) r (fun x => if x = i then d i + 1 else d x)) (l := i) (fun x hx => by
          unfold fD
          simp only [if_neg hx]) 6 (by omega)
        have efd' : fD N (mbL r) r (fun x => if x = i then d i + 1 else d x) i = ((d i : Int) - 2) * w + w := by
          unfold fD
          rw [if_pos ⟨hiN, gm⟩, show (fun x => if x = i then d i + 1 else d x) i = d i + 1 from if_pos rfl, wi]
          have : ((d i + 1 : Nat) : Int) - 2 = ((d i : Int) - 2) + 1 := by omega
          rw [this, Int.add_mul, Int.one_mul]
        rw [efd', efd, wi] at su
        refine hk1 _ _ hx.symm (fun x p q => by rw [uIn p, uIn q]; exact c1 x p q) (fun l hl => ?_) ?_
        · rw [uIn (by decide), uIe]
          by_cases e : l = i
          · subst e
            rw [upe]
            unfold vD
            rw [if_pos ⟨hiN, gm⟩, show (fun x => if x = l then d l + 1 else d x) l = d l + 1 from if_pos rfl]
            exact vD_u _ g4
          · rw [upn e, c2 l hl]
            unfold vD
            simp only [if_neg e]
        · rw [uIe, upe, ti_add (by rw [c3, wi]; omega) (by rw [c3, wi]; omega), c3, wi, su]
          omega
    · rw [x5] at g
      rw [if_neg (fun w => g (of_decide_eq_true w.2))] at hx
      exact ih f X d (by omega) (by omega) hd hx c1 c2 c3
def qL (S : tSH) (I : tHI) (r W : Nat → Int32) (N b c : Nat) : Nat := aQ S I r b (Wat W 5 (sI r N c))
/-- the answer -/
def anE (S : tSH) (I : tHI) (r W : Nat → Int32) (N b w : Nat) : Int32 := if w = 0 then mxL (qL S I r W N b) (pwL (mbL r) N N) else vD N (mbL r) (dgL (mbL r) N (biL (qL S I r W N b) (pwL (mbL r) N N))) (w - 1) + 2
theorem bl_L (hT : TY S) (hn : 16000 < n) (hQ0 : CQ S I r W) (hN : r 0 = nI N) (hN6 : N ≤ 6) (hb : (b : Int) < (r 1).toInt) {w : Nat} (hw : w ≤ N) (hk : ∀ (X : tHI) (J' : tHJ), CL I X → CJ J J' → k (anE S I r W N b w) X J') : ∀ (e f c : Nat) (X : tHI) (J' : tHJ), c + e = pwL (mbL r) N N → e < f → CL I X → CJ J J' → ME S I r W b (X 55) → (c < pwL (mbL r) N N → (∀ l, l < 6 → X 56 l = vD N (mbL r) (dgL (mbL r) N c) l) ∧ (X 51 8).toInt = sgm (fD N (mbL r) r (dgL (mbL r) N c)) 6) → (0 < c → ∀ l, l < 6 → X 57 l = vD N (mbL r) (dgL (mbL r) N (biL (qL S I r W N b) c)) l) → F5_bestLeans_L103 n S k f X J' (nI b) (nI w) (mxL (qL S I r W N b) c) (if c < pwL (mbL r) N N then 1 else 0) (nI c) := by
  have hR0 := pwL_pos (m := mbL r) (N := N) N
  have hRb := pwL_b (m := mbL r) hN6 (Nat.le_refl N)
  have hq60 : ∀ c, qL S I r W N b c ≤ 60 := fun c => aQ_le
  have hKL := hQ0.1.2.2.2.2.2.1.2.1
  have o : ∀ X, CL I X → ∀ x, x < 49 → X x = I x := fun X c x hx => c.1 x (fun z => by
    have : x = 49 ∨ x = 51 ∨ x = 55 ∨ x = 56 ∨ x = 57 := by simpa using z
    omega)
  have hI20 : I 2 0 = nI N := by have : I 2 0 = r 0 := hQ0.1.1.2.2.1; rw [this, hN]
  -- the end
  have fin : ∀ (c : Nat) (X : tHI) (J' : tHJ), 0 < c → CL I X → CJ J J' → (∀ l, l < 6 → X 57 l = vD N (mbL r) (dgL (mbL r) N (biL (qL S I r W N b) c)) l) → mxL (qL S I r W N b) (pwL (mbL r) N N) = mxL (qL S I r W N b) c → biL (qL S I r W N b) (pwL (mbL r) N N) = biL (qL S I r W N b) c → F5_bestLeans_168 n S k X J' (nI w) (mxL (qL S I r W N b) c) := by
    intro c X J' hc c1 c2 c3 e1 e2
    have key := hk X J' c1 c2
    unfold anE at key
    rw [e1, e2] at key
    have ew : nI w = 0 ↔ w = 0 := qeq (b := 0) (by omega) (by omega)
    unfold F5_bestLeans_168
    refine ⟨fun z => ?_, fun z => ?_⟩
    · have z0 : ¬ w = 0 := fun y => z (ew.mpr y)
      rw [if_neg z0] at key
      rw [qpred (by omega)]
      have hh := has3 (S := S) (I := X) (J := J') (a := 2) (v := nI (w - 1))
      rw [o X c1 2 (by omega), hI20, qi (by omega), qi (by omega)] at hh
      have nh : ¬ V3_has S X J' 2 (nI (w - 1)) = 0 := fun y => hh.mp y (by omega)
      rw [if_neg nh, qn (by omega), c3 (w - 1) (by omega)]
      exact ⟨⟨fun _ => trivial, fun _ => ⟨(qin (by omega)).mpr (by omega), trivial⟩⟩, key⟩
    · rw [if_pos (ew.mp z)] at key; exact key
  intro e
  induction e with
  | zero =>
    intro f c X J' hc hf c1 c2 c3 c4 c5
    obtain ⟨f, rfl⟩ : ∃ z, f = z + 1 := ⟨f - 1, by omega⟩
    have : c = pwL (mbL r) N N := by omega
    show F5_bestLeans_103 n S k (F5_bestLeans_L103 n S k f) X J' (nI b) (nI w) _ _ (nI c)
    unfold F5_bestLeans_103
    have F := fin c X J' (by omega) c1 c2 (c5 (by omega)) (by rw [this]) (by rw [this])
    rw [if_neg (by omega)]
    exact ⟨fun _ => F, fun _ => ⟨fun _ => F, fun z => absurd rfl z⟩⟩
  | succ e ih =>
    intro f c X J' hc hf c1 c2 c3 c4 c5
    obtain ⟨f, rfl⟩ : ∃ z, f = z + 1 := ⟨f - 1, by omega⟩
    show F5_bestLeans_103 n S k (F5_bestLeans_L103 n S k f) X J' (nI b) (nI w) _ _ (nI c)
    unfold F5_bestLeans_103
    have hcR : c < pwL (mbL r) N N := by omega
    obtain ⟨d1, d2⟩ := c4 hcR
    rw [if_pos hcR]
    refine ⟨fun z => ?_, fun _ => ⟨fun z => absurd z (by decide), fun _ => ⟨fun z => ?_, fun z => ?_⟩⟩⟩
    · exfalso; have := (qle (a := 15625) (by omega) (by omega)).mp z; omega
    · have hm := mxL_60 hq60 z (e + 1)
      rw [hc] at hm
      have hc0 : 0 < c := by
        rcases Nat.eq_zero_or_pos c with y | y
        · subst y; exact absurd (show (60 : Int32) ≤ -1 from z) (by decide)
        · exact y
      exact fin c X J' hc0 c1 c2 (c5 hc0) hm.1 hm.2
    · have hs : X 51 8 = sI r N c := Int32.toInt_inj.mp (by rw [d2, sI_6 hKL hN6])
      have sb := sm_b (m := mbL r) (d := dgL (mbL r) N c) hKL (fun _ => dgL_lt) hN6 (i := 6) (by omega)
      have e6 := sI_6 (c := c) hKL hN6
      refine sp_tried (J := J') hT (by omega) hQ0 hb c1 c3 hs (by omega) (by omega) (fun Y J2 y1 y2 y3 y4 y5 y6 => ?_)
      have eq : aQ S I r b (Wat W 5 (sI r N c)) = qL S I r W N b c := rfl
      rw [eq]
      have em : mxL (qL S I r W N b) (c + 1) = (if nI (qL S I r W N b c) ≤ mxL (qL S I r W N b) c then mxL (qL S I r W N b) c else nI (qL S I r W N b c)) := rfl
      have eb : biL (qL S I r W N b) (c + 1) = (if nI (qL S I r W N b c) ≤ mxL (qL S I r W N b) c then biL (qL S I r W N b) c else c) := rfl
      -- the next row
      have nxt : ∀ Z : tHI, CL I Z → ME S I r W b (Z 55) → Z 51 = X 51 → Z 56 = X 56 → (∀ l, l < 6 → Z 57 l = vD N (mbL r) (dgL (mbL r) N (biL (qL S I r W N b) (c + 1))) l) → F5_bestLeans_156 n S k (F5_bestLeans_L103 n S k f) Z J2 (nI b) (nI w) (mxL (qL S I r W N b) (c + 1)) (nI c) := by
        intro Z z1 z2 z3 z4 z5
        unfold F5_bestLeans_156
        rw [show nI c + 1 = nI (c + 1) from nI_add c 1]
        unfold F5_nextTry
        have hLZ : RLd (Z 3) (Z 4) (Z 5) (Z 6) r := by rw [o Z z1 3 (by omega), o Z z1 4 (by omega), o Z z1 5 (by omega), o Z z1 6 (by omega)]; exact hQ0.1.2.1
        have h6 := nxD_6 (m := mbL r) hN6 hcR
        refine nx_L (I := Z) (d0 := dgL (mbL r) N c) hLZ (by rw [o Z z1 2 (by omega)]; exact hI20) hN6 hKL (fun V d v1 v2 v3 v4 _ => ?_) (fun V v1 v2 _ => ?_) 6 n Z (dgL (mbL r) N c) (by omega) (by omega) (fun _ => dgL_lt) rfl (fun _ _ _ => rfl) (by rw [z4]; exact d1) (by rw [z3]; exact d2)
        · rw [h6] at v1
          by_cases g : c + 1 < pwL (mbL r) N N
          · rw [if_pos g] at v1
            have v1 : dgL (mbL r) N (c + 1) = d := Option.some.inj v1
            subst v1
            have key := ih f (c + 1) V J2 (by omega) (by omega) ⟨fun x hx => by
              have : ¬ (x = 49 ∨ x = 51 ∨ x = 55 ∨ x = 56 ∨ x = 57) := by simpa using hx
              rw [v2 x (by omega) (by omega)]; exact z1.1 x hx, fun y p q => by rw [v2 49 (by decide) (by decide)]; exact z1.2 y p q⟩ (c2.trans y2) (by rw [v2 55 (by decide) (by decide)]; exact z2) (fun _ => ⟨v3, v4⟩) (fun _ l hl => by rw [v2 57 (by decide) (by decide)]; exact z5 l hl)
            rw [if_pos g] at key
            exact key
          · rw [if_neg g] at v1; exact absurd v1 (by simp)
        · rw [h6] at v1
          by_cases g : c + 1 < pwL (mbL r) N N
          · rw [if_pos g] at v1; exact absurd v1 (by simp)
          · have key := ih f (c + 1) V J2 (by omega) (by omega) ⟨fun x hx => by
              have : ¬ (x = 49 ∨ x = 51 ∨ x = 55 ∨ x = 56 ∨ x = 57) := by simpa using hx
              rw [v2 x (by omega) (by omega)]; exact z1.1 x hx, fun y p q => by rw [v2 49 (by decide) (by decide)]; exact z1.2 y p q⟩ (c2.trans y2) (by rw [v2 55 (by decide) (by decide)]; exact z2) (fun z => absurd z g) (fun _ l hl => by rw [v2 57 (by decide) (by decide)]; exact z5 l hl)
            rw [if_neg g] at key
            exact key
      refine ⟨fun g => ?_, fun g => ?_⟩
      · have h0 : 0 < c := by
          rcases Nat.eq_zero_or_pos c with y | y
          · exfalso
            subst y
            have g : nI (qL S I r W N b 0) ≤ -1 := g
            rw [Int32.le_iff_toInt_le, qneg, qi (by have := hq60 0; omega)] at g
            omega
          · exact y
        have := nxt Y y1 y6 y3 y4 (fun l hl => by rw [eb, if_pos g, y5]; exact c5 h0 l hl)
        rw [em, if_pos g] at this
        exact this
      · have cn : ∀ x, x ≠ 57 → (cpI Y 56 0 57 0 6) x = Y x := fun x hx => by funext y; unfold cpI; rw [if_neg (fun z => hx z.1)]
        have := nxt (cpI Y 56 0 57 0 6) ⟨fun x hx => by
          have : ¬ (x = 49 ∨ x = 51 ∨ x = 55 ∨ x = 56 ∨ x = 57) := by simpa using hx
          rw [cn x (by omega)]; exact y1.1 x hx, fun y p q => by rw [cn 49 (by decide)]; exact y1.2 y p q⟩ (by rw [cn 55 (by decide)]; exact y6) (by rw [cn 51 (by decide)]; exact y3) (by rw [cn 56 (by decide)]; exact y4) (fun l hl => by
            rw [eb, if_neg g]
            have e57 : cpI Y 56 0 57 0 6 57 l = Y 56 l := by unfold cpI; rw [if_pos ⟨rfl, by omega, by omega⟩, Nat.zero_add, Nat.sub_zero]
            rw [e57, y4]; exact d1 l hl)
        rw [em, if_neg g] at this
        exact this
theorem b0_L (hT : TY S) (hn : 16000 < n) (hQ0 : CQ S I r W) (hN : r 0 = nI N) (hN6 : N ≤ 6) (hb : (b : Int) < (r 1).toInt) {w : Nat} (hw : w ≤ N) (hk : ∀ (X : tHI) (J' : tHJ), CL I X → CJ J J' → k (anE S I r W N b w) X J') : ∀ (e f i : Nat) (X : tHI), i + e = 6 → e < f → CL I X → (∀ z, z < 4801 → X 55 z = -1) → (∀ l, l < i → X 56 l = vD N (mbL r) (fun _ => 0) l) → (X 51 8).toInt = sgm (fD N (mbL r) r (fun _ => 0)) i → F5_bestLeans_L24 n S k f X J (nI b) (nI w) (nI i) := by
  have hKL := hQ0.1.2.2.2.2.2.1.2.1
  have hI20 : I 2 0 = nI N := by have : I 2 0 = r 0 := hQ0.1.1.2.2.1; rw [this, hN]
  intro e
  induction e with
  | zero =>
    intro f i X hi hf c1 c2 c3 c4
    obtain ⟨f, rfl⟩ : ∃ z, f = z + 1 := ⟨f - 1, by omega⟩
    have : i = 6 := by omega
    subst this
    show F5_bestLeans_24 n S k (F5_bestLeans_L24 n S k f) X J (nI b) (nI w) (nI 6)
    unfold F5_bestLeans_24
    refine ⟨fun _ => ?_, fun z => absurd ((qle (a := 6) (by omega) (by omega)).mpr (Nat.le_refl _)) z⟩
    have e0 : dgL (mbL r) N 0 = fun _ => 0 := by
      funext l
      unfold dgL
      split
      · rw [Nat.zero_div]
      · rfl
    have hR0 := pwL_pos (m := mbL r) (N := N) N
    have hRb := pwL_b (m := mbL r) hN6 (Nat.le_refl N)
    have key := bl_L (J := J) hT hn hQ0 hN hN6 hb hw hk (pwL (mbL r) N N) n 0 X J (by omega) (by omega) c1 (CJ.rf J) (fun s h1 h2 => Or.inl (c2 _ (by omega))) (fun _ => ⟨by rw [e0]; exact c3, by rw [e0]; exact c4⟩) (fun z => by omega)
    rw [if_pos hR0] at key
    exact key
  | succ e ih =>
    intro f i X hi hf c1 c2 c3 c4
    obtain ⟨f, rfl⟩ : ∃ z, f = z + 1 := ⟨f - 1, by omega⟩
    show F5_bestLeans_24 n S k (F5_bestLeans_L24 n S k f) X J (nI b) (nI w) (nI i)
    unfold F5_bestLeans_24
    have o : ∀ x, x < 49 → X x = I x := fun x hx => c1.1 x (fun z => by
      have : x = 49 ∨ x = 51 ∨ x = 55 ∨ x = 56 ∨ x = 57 := by simpa using z
      omega)
    have x20 : (X 2 0).toInt = N := by rw [o 2 (by omega), hI20, qi (by omega)]
    have hh := has3 (S := S) (I := X) (J := J) (a := 2) (v := nI i)
    rw [x20, qi (by omega)] at hh
    have x5 : X 5 i = r (32 + i) := by rw [o 5 (by omega)]; exact (hQ0.1.2.1 i (by omega)).2.2.1
    have x3 : X 3 i = r (26 + i) := by rw [o 3 (by omega)]; exact (hQ0.1.2.1 i (by omega)).1
    have ic : vp_in (nI i) 6 := (qin (by omega)).mpr (by omega)
    have ev : (if V3_has S X J 2 (nI i) = 0 then 0 else if X 5 i = 1 then (-2 : Int32) else 0) = vD N (mbL r) (fun _ => 0) i := by
      unfold vD
      by_cases g : V3_has S X J 2 (nI i) = 0
      · rw [if_pos g, if_neg (fun z => hh.mp g (by omega))]
      · rw [if_neg g]
        have hiN : i < N := by
          rcases Nat.lt_or_ge i N with y | y
          · exact y
          · exact absurd (hh.mpr (by omega)) g
        rw [x5]
        by_cases g2 : r (32 + i) = 1
        · rw [if_pos g2, if_pos ⟨hiN, decide_eq_true g2⟩]; rfl
        · rw [if_neg g2, if_neg (fun z => g2 (of_decide_eq_true z.2))]
    rw [qn (by omega), ev, show nI i + 1 = nI (i + 1) from nI_add i 1]
    refine ⟨fun z => ?_, fun _ => ⟨⟨fun _ => trivial, fun _ => ⟨ic, fun _ => trivial, fun _ => trivial⟩⟩, ic, ic, ic, ?_⟩⟩
    · exfalso; have := (qle (a := 6) (by omega) (by omega)).mp z; omega
    · have e51 : (uI X 56 i (vD N (mbL r) (fun _ => 0) i)) 51 8 = X 51 8 := by rw [uIn (by decide)]
      have e56 : (uI X 56 i (vD N (mbL r) (fun _ => 0) i)) 56 i = vD N (mbL r) (fun _ => 0) i := by rw [uIe, upe]
      have e3 : (uI X 56 i (vD N (mbL r) (fun _ => 0) i)) 3 i = r (26 + i) := by rw [uIn (by decide)]; exact x3
      rw [e51, e56, e3]
      have sb := sm_b (m := mbL r) (d := fun _ => 0) hKL (fun _ => by omega) hN6 (i := i) (by omega)
      have fb := fD_b (m := mbL r) (d := fun _ => 0) hKL (fun _ => by omega) hN6 i
      have em : (vD N (mbL r) (fun _ => 0) i * r (26 + i)).toInt = fD N (mbL r) r (fun _ => 0) i := by
        refine ti_mul ?_ (by omega) (by omega)
        unfold vD fD
        by_cases g : i < N ∧ mbL r i = true
        · rw [if_pos g, if_pos g, vD_v 0 (by omega)]
        · rw [if_neg g, if_neg g, tz0, Int.zero_mul]
      refine ih f (i + 1) _ (by omega) (by omega) ⟨fun x hx => by
        have : ¬ (x = 49 ∨ x = 51 ∨ x = 55 ∨ x = 56 ∨ x = 57) := by simpa using hx
        rw [uIn (by omega), uIn (by omega)]; exact c1.1 x hx, fun y p q => by rw [uIn (by decide), uIn (by decide)]; exact c1.2 y p q⟩ (fun z hz => by rw [uIn (by decide), uIn (by decide)]; exact c2 z hz) (fun l hl => ?_) ?_
      · rw [uIn (by decide), uIe]
        by_cases g : l = i
        · subst g; rw [upe]
        · rw [upn g]; exact c3 l (by omega)
      · rw [uIe, upe, ti_add (by rw [em, c4]; omega) (by rw [em, c4]; omega), em, c4]
        rfl
theorem sp_bestLeans (hT : TY S) (hn : 16000 < n) (hQ0 : CQ S I r W) (hN : r 0 = nI N) (hN6 : N ≤ 6) (hb : (b : Int) < (r 1).toInt) {w : Nat} (hw : w ≤ N) (hk : ∀ (X : tHI) (J' : tHJ), CL I X → CJ J J' → k (anE S I r W N b w) X J') : F5_bestLeans n S I J (nI b) (nI w) k := by
  unfold F5_bestLeans
  refine F_fill (N := 4801) (by omega) hT.l55 (by omega) ?_
  have f0 : ∀ x, x ≠ 55 → fillI I 55 0 4801 (-1) x = I x := fun x hx => by funext y; unfold fillI; rw [if_neg (by omega)]
  have f1 : ∀ y, y < 4801 → fillI I 55 0 4801 (-1) 55 y = -1 := fun y hy => by unfold fillI; rw [if_pos (by omega)]
  generalize fillI I 55 0 4801 (-1) = X0 at *
  refine b0_L hT hn hQ0 hN hN6 hb hw hk 6 n 0 _ (by omega) (by omega) ⟨fun x hx => ?_, fun y p q => by rw [uIn (by decide), f0 49 (by decide)]⟩ (fun z hz => by rw [uIn (by decide)]; exact f1 z hz) (fun l hl => by omega) (by rw [uIe, upe]; rfl)
  have : ¬ (x = 49 ∨ x = 51 ∨ x = 55 ∨ x = 56 ∨ x = 57) := by simpa using hx
  rw [uIn (by omega), f0 x (by omega)]
end LE
