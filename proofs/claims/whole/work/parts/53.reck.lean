/-! the model's reckonAll comes to what its machine says -/
theorem ck_in (v : Int64) : match ck v with
    | none => V12_in v (-1000000000) 1000000000 = 0
    | some u => v = u ∧ ¬ V12_in u (-1000000000) 1000000000 = 0 := by
  have e1 : (1000000000 : Int64).toInt = 1000000000 := by decide +kernel
  have e2 : (-1000000000 : Int64).toInt = -1000000000 := by decide +kernel
  unfold ck
  by_cases h1 : (1000000000 : Int64) < v
  · rw [if_pos h1]
    show V12_in v (-1000000000) 1000000000 = 0
    rw [mi0, e1, e2]
    rw [Int64.lt_iff_toInt_lt, e1] at h1
    omega
  · rw [if_neg h1]
    by_cases h2 : v < -1000000000
    · rw [if_pos h2]
      show V12_in v (-1000000000) 1000000000 = 0
      rw [mi0, e1, e2]
      rw [Int64.lt_iff_toInt_lt, e2] at h2
      omega
    · rw [if_neg h2]
      refine ⟨rfl, ?_⟩
      rw [mi1, e1, e2]
      rw [Int64.lt_iff_toInt_lt, e1] at h1
      rw [Int64.lt_iff_toInt_lt, e2] at h2
      omega
def rkP (I' : tHI) (v : Int64) (o : Option Int64) : Prop := match o with
  | none => ¬ I' 61 38 = 0 ∨ (I' 61 38 = 0 ∧ V12_in v (-1000000000) 1000000000 = 0)
  | some u => I' 61 38 = 0 ∧ v = u ∧ ¬ V12_in u (-1000000000) 1000000000 = 0
theorem rkP_ck {I' : tHI} {v : Int64} (h : I' 61 38 = 0) : rkP I' v (ck v) := by
  have q := ck_in v
  unfold rkP
  cases hc : ck v with
  | none => rw [hc] at q; exact Or.inr ⟨h, q⟩
  | some u => rw [hc] at q; exact ⟨h, q.1, q.2⟩
theorem sp_reckon {n : Nat} {S : tSH} {I : tHI} {J : tHJ} {op : Nat} {a b : Int64} {k : Int64 → tHI → tHJ → Prop} (ho : 20 ≤ op ∧ op ≤ 27) (h38 : I 61 38 = 0) (h : ∀ (I' : tHI) (v : Int64), (∀ x, x ≠ 61 → I' x = I x) → (∀ y, y ≠ 38 → I' 61 y = I 61 y) → rkP I' v (jn (op - 18) a b) → k v I' J) : F12_reckon n S I J (nI op) a b k := by
  have c1 : ∀ m : Nat, m < 100 → (nI op = nI m ↔ op = m) := fun m hm => qeq (by omega) (by omega)
  have same : ∀ v : Int64, rkP I v (jn (op - 18) a b) → k v I J := fun v q => h I v (fun _ _ => rfl) (fun _ _ => rfl) q
  have w38 : ∀ z : Int32, (uI I 61 38 z) 61 38 = z := fun z => by simp [uI]
  have wr : ∀ (z : Int32) (v : Int64), rkP (uI I 61 38 z) v (jn (op - 18) a b) → k v (uI I 61 38 z) J := fun z v q => h _ v (fun x hx => uIn hx) (fun y hy => by rw [uIe]; exact upn hy) q
  have i0 : ∀ m : Nat, m ≤ 1 → ¬ V12_in (nI m).toInt64 (-1000000000) 1000000000 = 0 := fun m hm => by
    rw [mi1, Int32.toInt_toInt64, qi (by omega), show (-1000000000 : Int64).toInt = -1000000000 by decide +kernel, show (1000000000 : Int64).toInt = 1000000000 by decide +kernel]
    omega
  unfold F12_reckon
  simp only [lg_cmp_eq, lg_cmp_ge, lg_cmp_le, w38]
  refine ⟨fun c => ?_, fun c => ?_, fun c => ?_, fun c => ?_, fun c => ?_, fun c => ?_, fun c => ?_, fun c => ?_⟩
  · have c : op = 20 := (c1 20 (by omega)).mp c
    subst c
    refine same _ ?_
    rw [show jn (20 - 18) a b = ck (a + b) by simp [jn]]
    exact rkP_ck h38
  · have c : op = 21 := (c1 21 (by omega)).mp c
    subst c
    refine same _ ?_
    rw [show jn (21 - 18) a b = ck (a - b) by simp [jn]]
    exact rkP_ck h38
  · have c : op = 22 := (c1 22 (by omega)).mp c
    subst c
    refine same _ ?_
    rw [show jn (22 - 18) a b = ck (a * b) by simp [jn]]
    exact rkP_ck h38
  · have c : op = 23 := (c1 23 (by omega)).mp c
    subst c
    by_cases g : b = 0
    · simp only [g, if_true]
      refine ⟨⟨fun q => absurd q (by decide), fun _ => trivial⟩, ?_⟩
      rw [if_neg (by decide)]
      refine wr 1 0 ?_
      rw [show jn (23 - 18) a b = none by simp [jn, g]]
      exact Or.inl (by rw [w38]; decide)
    · simp only [g, if_false, if_true]
      refine ⟨⟨fun _ => ⟨fun q => q, trivial⟩, fun q => absurd trivial q⟩, ?_⟩
      refine wr 0 _ ?_
      rw [show jn (23 - 18) a b = ck (a / b) by simp [jn, g]]
      exact rkP_ck (w38 0)
  · have c : op = 24 := (c1 24 (by omega)).mp c
    subst c
    by_cases g : b = 0
    · simp only [g, if_true]
      refine ⟨⟨fun q => absurd q (by decide), fun _ => trivial⟩, ?_⟩
      rw [if_neg (by decide)]
      refine wr 1 0 ?_
      rw [show jn (24 - 18) a b = none by simp [jn, g]]
      exact Or.inl (by rw [w38]; decide)
    · simp only [g, if_false, if_true]
      refine ⟨⟨fun _ => ⟨fun q => q, trivial⟩, fun q => absurd trivial q⟩, ?_⟩
      refine wr 0 _ ?_
      rw [show jn (24 - 18) a b = ck (a - a / b * b) by simp [jn, g]]
      exact rkP_ck (w38 0)
  · have c : op = 25 := (c1 25 (by omega)).mp c
    subst c
    refine same _ ?_
    by_cases q : a < b
    · have q' : ¬ b ≤ a := by rw [Int64.le_iff_toInt_le]; rw [Int64.lt_iff_toInt_lt] at q; omega
      rw [if_neg q', show jn (25 - 18) a b = some 1 by simp [jn, q]]
      exact ⟨h38, rfl, i0 1 (by omega)⟩
    · have q' : b ≤ a := by rw [Int64.le_iff_toInt_le]; rw [Int64.lt_iff_toInt_lt] at q; omega
      rw [if_pos q', show jn (25 - 18) a b = some 0 by simp [jn, q]]
      exact ⟨h38, rfl, i0 0 (by omega)⟩
  · have c : op = 26 := (c1 26 (by omega)).mp c
    subst c
    refine same _ ?_
    by_cases q : b < a
    · have q' : ¬ a ≤ b := by rw [Int64.le_iff_toInt_le]; rw [Int64.lt_iff_toInt_lt] at q; omega
      rw [if_neg q', show jn (26 - 18) a b = some 1 by simp [jn, q]]
      exact ⟨h38, rfl, i0 1 (by omega)⟩
    · have q' : a ≤ b := by rw [Int64.le_iff_toInt_le]; rw [Int64.lt_iff_toInt_lt] at q; omega
      rw [if_pos q', show jn (26 - 18) a b = some 0 by simp [jn, q]]
      exact ⟨h38, rfl, i0 0 (by omega)⟩
  · have hout := sw_out (lo := 20) (n := 7) (by decide) (by decide) c
    rw [qi (by omega)] at hout
    have e27 : op = 27 := by omega
    subst e27
    refine same _ ?_
    by_cases q : a = b
    · rw [if_pos q, show jn (27 - 18) a b = some 1 by simp [jn, q]]
      exact ⟨h38, rfl, i0 1 (by omega)⟩
    · rw [if_neg q, show jn (27 - 18) a b = some 0 by simp [jn, q]]
      exact ⟨h38, rfl, i0 0 (by omega)⟩
def rkE (r : Option Int64) (I' : tHI) (J' : tHJ) : Prop := match r with
  | none => ¬ I' 61 38 = 0
  | some v => I' 61 38 = 0 ∧ J' 61 39 = v
def lfL (w : Nat → Int64) (o a : Nat) : Option Int64 := if o = 0 then some (nI a).toInt64 else if o ≤ 12 then some (w (o - 1)) else none
def lfO (w : Nat → Int64) (o a : Nat) : Option Int64 := if o = 0 then some (nI a).toInt64 else if o < 7 then some (w (o - 1)) else if o = 7 then (if a < 12 then some (w (6 + a)) else none) else if o = 8 then (if a < 6 then some (w (18 + a)) else none) else none
theorem reck_LL {n : Nat} {S : tSH} {k : tHI → tHJ → Prop} {e : Nat} {op ar : Nat → Nat} {w : Nat → Int64} {at0 : Nat} {I0 : tHI} {J0 : tHJ} (h20 : I0 61 20 = 0) (he : e < 100000) (hop : ∀ i, i < e → op i < 40 ∧ ar i < 100000) (hat : I0 61 34 = nI at0) (hat2 : at0 + 98 + 2 * e ≤ 5510) (h63 : ∀ i, i < e → I0 63 (at0 + 98 + 2 * i) = nI (op i) ∧ I0 63 (at0 + 98 + 2 * i + 1) = nI (ar i)) (hw : ∀ o, 1 ≤ o → o ≤ 12 → J0 79 o = w (o - 1)) {r : Option Int64} (hk : ∀ (I' : tHI) (J' : tHJ), (∀ x, x ≠ 61 → I' x = I0 x) → (∀ y, y ≠ 38 → I' 61 y = I0 61 y) → (∀ x, x ≠ 81 → x ≠ 61 → J' x = J0 x) → (∀ y, y ≠ 39 → J' 61 y = J0 61 y) → rkE r I' J' → k I' J') : ∀ (f i t : Nat) (I : tHI) (J : tHJ), (∀ x, x ≠ 61 → I x = I0 x) → (∀ y, y ≠ 38 → I 61 y = I0 61 y) → (∀ x, x ≠ 81 → J x = J0 x) → i < 100000 → t ≤ 400 → e - i < f → I 61 38 = 0 → mm op ar (lfL w) e i t (J 81) = some r → F12_reckonAll_L10 n S k f I J (nI e) (nI t) (nI i) := by
  have fin : ∀ (I : tHI) (J : tHJ) (t : Nat), (∀ x, x ≠ 61 → I x = I0 x) → (∀ y, y ≠ 38 → I 61 y = I0 61 y) → (∀ x, x ≠ 81 → J x = J0 x) → (rkE r I (uJ J 61 39 (if nI t ≤ 0 then 0 else J 81 0))) → F12_reckonAll_364 n S k I J (nI t) := by
    intro I J t h1 h2 h3 h4
    unfold F12_reckonAll_364
    refine hk _ _ h1 h2 (fun x hx hx2 => ?_) (fun y hy => ?_) h4
    · rw [uJn hx2]; exact h3 x hx
    · rw [uJe, upJn hy, h3 61 (by omega)]
  have brk : ∀ (f i t : Nat) (I : tHI) (J : tHJ), (∀ x, x ≠ 61 → I x = I0 x) → (∀ y, y ≠ 38 → I 61 y = I0 61 y) → (∀ x, x ≠ 81 → J x = J0 x) → 0 < f → ¬ I 61 38 = 0 → r = none → F12_reckonAll_L10 n S k f I J (nI e) (nI t) (nI i) := by
    intro f i t I J h1 h2 h3 hf hb hr
    obtain ⟨f, rfl⟩ : ∃ g, f = g + 1 := ⟨f - 1, by omega⟩
    subst hr
    show F12_reckonAll_10 n S k (F12_reckonAll_L10 n S k f) I J (nI e) (nI t) (nI i)
    unfold F12_reckonAll_10
    exact ⟨fun _ => fin I J t h1 h2 h3 hb, fun _ => ⟨fun _ => fin I J t h1 h2 h3 hb, fun q => absurd q hb⟩⟩
  intro f
  induction f with
  | zero => intro i t I J _ _ _ _ _ hf; omega
  | succ f ih =>
    intro i t I J hI1 hI2 hJ hi ht hf h38 hm
    show F12_reckonAll_10 n S k (F12_reckonAll_L10 n S k f) I J (nI e) (nI t) (nI i)
    unfold F12_reckonAll_10
    have g20 : I 61 20 = 0 := by rw [hI2 20 (by omega)]; exact h20
    refine ⟨fun q => ?_, fun q => ⟨fun q2 => absurd h38 q2, fun _ => ?_⟩⟩
    · rw [qle (by omega) (by omega)] at q
      rw [mm, if_pos q] at hm
      by_cases h1 : t = 1
      · rw [if_pos h1] at hm
        cases hm
        subst h1
        refine fin I J 1 hI1 hI2 hJ ⟨h38, ?_⟩
        rw [if_neg (by decide)]
        rw [uJe, upJe]
      · rw [if_neg h1] at hm
        cases hm
    · rw [qle (by omega) (by omega)] at q
      have hie : i < e := by omega
      obtain ⟨ho, ha⟩ := hop i hie
      obtain ⟨f1, f2⟩ := h63 i hie
      have ga : (I 61 34 + 98) + (2 * nI i) = nI (at0 + 98 + 2 * i) := by rw [hI2 34 (by omega), hat]; rw [ql 98, ql 2, qmul, nI_add, nI_add]
      simp only [g20, if_true, true_implies, not_true, false_implies, and_true, true_and]
      rw [ga]
      have ga2 : nI (at0 + 98 + 2 * i) + 1 = nI (at0 + 98 + 2 * i + 1) := nI_1 _
      rw [ga2, qn (show at0 + 98 + 2 * i < 2147483648 by omega), qn (show at0 + 98 + 2 * i + 1 < 2147483648 by omega), hI1 63 (by omega), f1, f2]
      refine ⟨(qin (by omega)).mpr (by omega), (qin (by omega)).mpr (by omega), ?_⟩
      rw [mm, if_neg q] at hm
      generalize op i = o at *
      generalize ar i = a at *
      have et1 : 0 < t → nI t - 1 = nI (t - 1) := fun g => qpred g
      have et2 : 0 < t → nI t + (-1) = nI (t - 1) := fun g => by rw [← qpred g]; exact (Int32.sub_eq_add_neg _ _).symm
      refine ⟨fun g => ?_, fun g => ?_⟩
      · have g : 20 ≤ o := (qle (a := 20) (by omega) (by omega)).mp g
        rw [if_neg (by omega)] at hm
        by_cases ht0 : t = 0
        · rw [if_pos ht0] at hm; cases hm
        rw [if_neg ht0] at hm
        have in1 : vp_in (nI (t - 1)) 400 := (qin (by omega)).mpr (by omega)
        refine ⟨fun g28 => ⟨fun g28' => ?_, fun g28' => ?_⟩, fun g28 => ?_⟩
        · have g28 : 28 ≤ o := (qle (a := 28) (by omega) (by omega)).mp g28
          have g28' : ¬ o = 28 := fun y => g28' ((qeq (b := 28) (by omega) (by omega)).mpr y)
          rw [if_neg (by omega), if_neg g28'] at hm
          unfold F12_reckonAll_361
          rw [et1 (by omega), et2 (by omega), qn (by omega)]
          refine ⟨in1, ?_⟩
          simp only [lg_cmp_eq]
          have e29 : (nI o = 29) = (o = 29) := propext (qeq (b := 29) (by omega) (by omega))
          simp only [e29]
          by_cases g0 : J 81 (t - 1) = (if o = 29 then 0 else 1)
          · rw [if_pos g0] at hm
            rw [if_pos g0, if_pos g0]
            by_cases gj : i < a
            · rw [if_pos gj] at hm
              rw [show max (i + 1) a = a by omega] at hm
              exact ih a t I J hI1 hI2 hJ (by omega) ht (by omega) h38 hm
            · rw [if_neg gj] at hm; cases hm
          · rw [if_neg g0] at hm
            rw [if_neg g0, if_neg g0, nI_1]
            exact ih (i + 1) (t - 1) I J hI1 hI2 hJ (by omega) (by omega) (by omega) h38 hm
        · have g28' : o = 28 := (qeq (b := 28) (by omega) (by omega)).mp g28'
          subst g28'
          rw [if_neg (by omega), if_pos rfl] at hm
          rw [et1 (by omega), qn (show t - 1 < 2147483648 by omega)]
          refine ⟨in1, in1, ?_⟩
          unfold F12_reckonAll_361
          rw [nI_1]
          refine ih (i + 1) t I _ hI1 hI2 (fun x hx => by rw [uJn hx]; exact hJ x hx) (by omega) ht (by omega) h38 ?_
          rw [uJe]
          exact hm
        · have g28 : ¬ 28 ≤ o := fun y => g28 ((qle (a := 28) (by omega) (by omega)).mpr y)
          rw [if_pos (by omega)] at hm
          by_cases ht1 : t = 1
          · rw [if_pos ht1] at hm; cases hm
          rw [if_neg ht1] at hm
          have et3 : nI (t - 1) - 1 = nI (t - 2) := by rw [qpred (by omega)]; rfl
          rw [et2 (by omega), et3, qn (show t - 2 < 2147483648 by omega), qn (show t - 1 < 2147483648 by omega)]
          have in2 : vp_in (nI (t - 2)) 400 := (qin (by omega)).mpr (by omega)
          refine ⟨in2, in1, ?_⟩
          refine sp_reckon ⟨g, by omega⟩ h38 (fun I' v hv1 hv2 hP => ?_)
          refine ⟨in2, ⟨fun _ => trivial, fun _ => ⟨in2, fun _ => trivial, fun _ => trivial⟩⟩, ?_⟩
          unfold F12_reckonAll_361
          rw [nI_1]
          simp only [uJe, upJe]
          have kI1 : ∀ z, ∀ x, x ≠ 61 → (uI I' 61 38 z) x = I0 x := fun z x hx => by rw [uIn hx, hv1 x hx]; exact hI1 x hx
          have kI2 : ∀ z, ∀ y, y ≠ 38 → (uI I' 61 38 z) 61 y = I0 61 y := fun z y hy => by rw [uIe, upn hy, hv2 y hy]; exact hI2 y hy
          have kJ : ∀ x, x ≠ 81 → (uJ J 81 (t - 2) v) x = J0 x := fun x hx => by rw [uJn hx]; exact hJ x hx
          have w38 : ∀ z : Int32, (uI I' 61 38 z) 61 38 = z := fun z => by simp [uI]
          cases hj : jn (o - 18) (J 81 (t - 2)) (J 81 (t - 1)) with
          | none =>
            rw [hj] at hm hP
            cases hm
            have hz : (if I' 61 38 = 0 then (if V12_in v (-1000000000) 1000000000 = 0 then (1 : Int32) else 0) else 1) = 1 := by
              rcases hP with hP | ⟨hP, hQ⟩
              · rw [if_neg hP]
              · rw [if_pos hP, if_pos hQ]
            rw [hz]
            exact brk f (i + 1) (t - 1) _ _ (kI1 1) (kI2 1) kJ (by omega) (by rw [w38]; decide) rfl
          | some u =>
            rw [hj] at hm hP
            obtain ⟨hP1, rfl, hP2⟩ := hP
            have hz : (if I' 61 38 = 0 then (if V12_in v (-1000000000) 1000000000 = 0 then (1 : Int32) else 0) else 1) = 0 := by
              rw [if_pos hP1, if_neg hP2]
            rw [hz]
            refine ih (i + 1) (t - 1) _ _ (kI1 0) (kI2 0) kJ (by omega) (by omega) (by omega) (w38 0) ?_
            rw [uJe]
            exact hm
      · have g : ¬ 20 ≤ o := fun y => g ((qle (a := 20) (by omega) (by omega)).mpr y)
        rw [if_pos (by omega)] at hm
        by_cases h4 : 400 ≤ t
        · rw [if_pos h4] at hm; cases hm
        rw [if_neg h4] at hm
        cases hl : lfL w o a with
        | none => rw [hl] at hm; cases hm
        | some v =>
          rw [hl] at hm
          have e0 : nI o = 0 ↔ o = 0 := qeq (b := 0) (by omega) (by omega)
          have in3 : vp_in (nI t) 400 := (qin (by omega)).mpr (by omega)
          have next : F12_reckonAll_361 n S k (F12_reckonAll_L10 n S k f) I (uJ J 81 (nI t).toNatClampNeg v) (nI e) (nI t + 1) (nI i + 1) := by
            unfold F12_reckonAll_361
            rw [nI_1, nI_1, qn (by omega)]
            refine ih (i + 1) (t + 1) I _ hI1 hI2 (fun x hx => by rw [uJn hx]; exact hJ x hx) (by omega) (by omega) (by omega) h38 ?_
            rw [uJe]
            exact hm
          by_cases o0 : o = 0
          · subst o0
            refine ⟨⟨fun y => absurd rfl y, fun _ => trivial⟩, in3, ?_⟩
            rw [if_pos (show (nI 0 : Int32) = 0 from rfl)]
            have e : (nI a).toInt64 = v := by simpa [lfL] using hl
            rw [e]
            exact next
          · have o12 : o ≤ 12 := by
              by_cases y : o ≤ 12
              · exact y
              · simp [lfL, o0, y] at hl
            have e : w (o - 1) = v := by simpa [lfL, o0, o12] using hl
            refine ⟨⟨fun _ => (qin (by omega)).mpr (by omega), fun _ => trivial⟩, in3, ?_⟩
            rw [if_neg (fun y => o0 (e0.mp y)), qn (show o < 2147483648 by omega), hJ 79 (by omega), hw o (by omega) o12, e]
            exact next
theorem reck_LO {n : Nat} {S : tSH} {k : tHI → tHJ → Prop} {e : Nat} {op ar : Nat → Nat} {w : Nat → Int64} {I0 : tHI} {J0 : tHJ} (h20 : ¬ I0 61 20 = 0) (he : e < 100000) (hop : ∀ i, i < e → op i < 40 ∧ ar i < 100000) (he4 : e ≤ 400) (h72 : ∀ i, i < e → I0 72 i = nI (op i) ∧ I0 73 i = nI (ar i)) (hw : ∀ o, 1 ≤ o → o < 7 → J0 80 o = w (o - 1)) (hwb : ∀ a, a < 12 → (if V12_isBend S I0 J0 (nI a) = 0 then ((-10) : Int32).toInt64 else (I0 63 (38 + 4 * a)).toInt64) = w (6 + a)) (hwl : ∀ a, a < 6 → (if V12_isLoad S I0 J0 (nI a) = 0 then ((-10) : Int64) else (I0 63 (14 + a)).toInt64) = w (18 + a)) {r : Option Int64} (hk : ∀ (I' : tHI) (J' : tHJ), (∀ x, x ≠ 61 → I' x = I0 x) → (∀ y, y ≠ 38 → I' 61 y = I0 61 y) → (∀ x, x ≠ 81 → x ≠ 61 → J' x = J0 x) → (∀ y, y ≠ 39 → J' 61 y = J0 61 y) → rkE r I' J' → k I' J') : ∀ (f i t : Nat) (I : tHI) (J : tHJ), (∀ x, x ≠ 61 → I x = I0 x) → (∀ y, y ≠ 38 → I 61 y = I0 61 y) → (∀ x, x ≠ 81 → J x = J0 x) → i < 100000 → t ≤ 400 → e - i < f → I 61 38 = 0 → mm op ar (lfO w) e i t (J 81) = some r → F12_reckonAll_L10 n S k f I J (nI e) (nI t) (nI i) := by
  have fin : ∀ (I : tHI) (J : tHJ) (t : Nat), (∀ x, x ≠ 61 → I x = I0 x) → (∀ y, y ≠ 38 → I 61 y = I0 61 y) → (∀ x, x ≠ 81 → J x = J0 x) → (rkE r I (uJ J 61 39 (if nI t ≤ 0 then 0 else J 81 0))) → F12_reckonAll_364 n S k I J (nI t) := by
    intro I J t h1 h2 h3 h4
    unfold F12_reckonAll_364
    refine hk _ _ h1 h2 (fun x hx hx2 => ?_) (fun y hy => ?_) h4
    · rw [uJn hx2]; exact h3 x hx
    · rw [uJe, upJn hy, h3 61 (by omega)]
  have brk : ∀ (f i t : Nat) (I : tHI) (J : tHJ), (∀ x, x ≠ 61 → I x = I0 x) → (∀ y, y ≠ 38 → I 61 y = I0 61 y) → (∀ x, x ≠ 81 → J x = J0 x) → 0 < f → ¬ I 61 38 = 0 → r = none → F12_reckonAll_L10 n S k f I J (nI e) (nI t) (nI i) := by
    intro f i t I J h1 h2 h3 hf hb hr
    obtain ⟨f, rfl⟩ : ∃ g, f = g + 1 := ⟨f - 1, by omega⟩
    subst hr
    show F12_reckonAll_10 n S k (F12_reckonAll_L10 n S k f) I J (nI e) (nI t) (nI i)
    unfold F12_reckonAll_10
    exact ⟨fun _ => fin I J t h1 h2 h3 hb, fun _ => ⟨fun _ => fin I J t h1 h2 h3 hb, fun q => absurd q hb⟩⟩
  intro f
  induction f with
  | zero => intro i t I J _ _ _ _ _ hf; omega
  | succ f ih =>
    intro i t I J hI1 hI2 hJ hi ht hf h38 hm
    show F12_reckonAll_10 n S k (F12_reckonAll_L10 n S k f) I J (nI e) (nI t) (nI i)
    unfold F12_reckonAll_10
    have g20 : ¬ I 61 20 = 0 := by rw [hI2 20 (by omega)]; exact h20
    refine ⟨fun q => ?_, fun q => ⟨fun q2 => absurd h38 q2, fun _ => ?_⟩⟩
    · rw [qle (by omega) (by omega)] at q
      rw [mm, if_pos q] at hm
      by_cases h1 : t = 1
      · rw [if_pos h1] at hm
        cases hm
        subst h1
        refine fin I J 1 hI1 hI2 hJ ⟨h38, ?_⟩
        rw [if_neg (by decide)]
        rw [uJe, upJe]
      · rw [if_neg h1] at hm
        cases hm
    · rw [qle (by omega) (by omega)] at q
      have hie : i < e := by omega
      obtain ⟨ho, ha⟩ := hop i hie
      obtain ⟨f1, f2⟩ := h72 i hie
      simp only [g20, if_false, false_implies, not_false_eq_true, true_implies, and_true, true_and]
      rw [qn (show i < 2147483648 by omega), hI1 72 (by omega), hI1 73 (by omega), f1, f2]
      refine ⟨(qin (by omega)).mpr (by omega), (qin (by omega)).mpr (by omega), ?_⟩
      rw [mm, if_neg q] at hm
      generalize op i = o at *
      generalize ar i = a at *
      have et1 : 0 < t → nI t - 1 = nI (t - 1) := fun g => qpred g
      have et2 : 0 < t → nI t + (-1) = nI (t - 1) := fun g => by rw [← qpred g]; exact (Int32.sub_eq_add_neg _ _).symm
      refine ⟨fun g => ?_, fun g => ?_⟩
      · have g : 20 ≤ o := (qle (a := 20) (by omega) (by omega)).mp g
        rw [if_neg (by omega)] at hm
        by_cases ht0 : t = 0
        · rw [if_pos ht0] at hm; cases hm
        rw [if_neg ht0] at hm
        have in1 : vp_in (nI (t - 1)) 400 := (qin (by omega)).mpr (by omega)
        refine ⟨fun g28 => ⟨fun g28' => ?_, fun g28' => ?_⟩, fun g28 => ?_⟩
        · have g28 : 28 ≤ o := (qle (a := 28) (by omega) (by omega)).mp g28
          have g28' : ¬ o = 28 := fun y => g28' ((qeq (b := 28) (by omega) (by omega)).mpr y)
          rw [if_neg (by omega), if_neg g28'] at hm
          unfold F12_reckonAll_361
          rw [et1 (by omega), et2 (by omega), qn (by omega)]
          refine ⟨in1, ?_⟩
          simp only [lg_cmp_eq]
          have e29 : (nI o = 29) = (o = 29) := propext (qeq (b := 29) (by omega) (by omega))
          simp only [e29]
          by_cases g0 : J 81 (t - 1) = (if o = 29 then 0 else 1)
          · rw [if_pos g0] at hm
            rw [if_pos g0, if_pos g0]
            by_cases gj : i < a
            · rw [if_pos gj] at hm
              rw [show max (i + 1) a = a by omega] at hm
              exact ih a t I J hI1 hI2 hJ (by omega) ht (by omega) h38 hm
            · rw [if_neg gj] at hm; cases hm
          · rw [if_neg g0] at hm
            rw [if_neg g0, if_neg g0, nI_1]
            exact ih (i + 1) (t - 1) I J hI1 hI2 hJ (by omega) (by omega) (by omega) h38 hm
        · have g28' : o = 28 := (qeq (b := 28) (by omega) (by omega)).mp g28'
          subst g28'
          rw [if_neg (by omega), if_pos rfl] at hm
          rw [et1 (by omega), qn (show t - 1 < 2147483648 by omega)]
          refine ⟨in1, in1, ?_⟩
          unfold F12_reckonAll_361
          rw [nI_1]
          refine ih (i + 1) t I _ hI1 hI2 (fun x hx => by rw [uJn hx]; exact hJ x hx) (by omega) ht (by omega) h38 ?_
          rw [uJe]
          exact hm
        · have g28 : ¬ 28 ≤ o := fun y => g28 ((qle (a := 28) (by omega) (by omega)).mpr y)
          rw [if_pos (by omega)] at hm
          by_cases ht1 : t = 1
          · rw [if_pos ht1] at hm; cases hm
          rw [if_neg ht1] at hm
          have et3 : nI (t - 1) - 1 = nI (t - 2) := by rw [qpred (by omega)]; rfl
          rw [et2 (by omega), et3, qn (show t - 2 < 2147483648 by omega), qn (show t - 1 < 2147483648 by omega)]
          have in2 : vp_in (nI (t - 2)) 400 := (qin (by omega)).mpr (by omega)
          refine ⟨in2, in1, ?_⟩
          refine sp_reckon ⟨g, by omega⟩ h38 (fun I' v hv1 hv2 hP => ?_)
          refine ⟨in2, ⟨fun _ => trivial, fun _ => ⟨in2, fun _ => trivial, fun _ => trivial⟩⟩, ?_⟩
          unfold F12_reckonAll_361
          rw [nI_1]
          simp only [uJe, upJe]
          have kI1 : ∀ z, ∀ x, x ≠ 61 → (uI I' 61 38 z) x = I0 x := fun z x hx => by rw [uIn hx, hv1 x hx]; exact hI1 x hx
          have kI2 : ∀ z, ∀ y, y ≠ 38 → (uI I' 61 38 z) 61 y = I0 61 y := fun z y hy => by rw [uIe, upn hy, hv2 y hy]; exact hI2 y hy
          have kJ : ∀ x, x ≠ 81 → (uJ J 81 (t - 2) v) x = J0 x := fun x hx => by rw [uJn hx]; exact hJ x hx
          have w38 : ∀ z : Int32, (uI I' 61 38 z) 61 38 = z := fun z => by simp [uI]
          cases hj : jn (o - 18) (J 81 (t - 2)) (J 81 (t - 1)) with
          | none =>
            rw [hj] at hm hP
            cases hm
            have hz : (if I' 61 38 = 0 then (if V12_in v (-1000000000) 1000000000 = 0 then (1 : Int32) else 0) else 1) = 1 := by
              rcases hP with hP | ⟨hP, hQ⟩
              · rw [if_neg hP]
              · rw [if_pos hP, if_pos hQ]
            rw [hz]
            exact brk f (i + 1) (t - 1) _ _ (kI1 1) (kI2 1) kJ (by omega) (by rw [w38]; decide) rfl
          | some u =>
            rw [hj] at hm hP
            obtain ⟨hP1, rfl, hP2⟩ := hP
            have hz : (if I' 61 38 = 0 then (if V12_in v (-1000000000) 1000000000 = 0 then (1 : Int32) else 0) else 1) = 0 := by
              rw [if_pos hP1, if_neg hP2]
            rw [hz]
            refine ih (i + 1) (t - 1) _ _ (kI1 0) (kI2 0) kJ (by omega) (by omega) (by omega) (w38 0) ?_
            rw [uJe]
            exact hm
      · have g : ¬ 20 ≤ o := fun y => g ((qle (a := 20) (by omega) (by omega)).mpr y)
        rw [if_pos (by omega)] at hm
        by_cases h4 : 400 ≤ t
        · rw [if_pos h4] at hm; cases hm
        rw [if_neg h4] at hm
        cases hl : lfO w o a with
        | none => rw [hl] at hm; cases hm
        | some v =>
          rw [hl] at hm
          have e0 : nI o = 0 ↔ o = 0 := qeq (b := 0) (by omega) (by omega)
          have in3 : vp_in (nI t) 400 := (qin (by omega)).mpr (by omega)
          have next : F12_reckonAll_361 n S k (F12_reckonAll_L10 n S k f) I (uJ J 81 (nI t).toNatClampNeg v) (nI e) (nI t + 1) (nI i + 1) := by
            unfold F12_reckonAll_361
            rw [nI_1, nI_1, qn (by omega)]
            refine ih (i + 1) (t + 1) I _ hI1 hI2 (fun x hx => by rw [uJn hx]; exact hJ x hx) (by omega) (by omega) (by omega) h38 ?_
            rw [uJe]
            exact hm
          have e7 : nI o = 7 ↔ o = 7 := qeq (b := 7) (by omega) (by omega)
          have l7 : 7 ≤ nI o ↔ 7 ≤ o := qle (a := 7) (by omega) (by omega)
          by_cases o0 : o = 0
          · subst o0
            refine ⟨⟨fun y => absurd rfl y, fun _ => trivial⟩, in3, ?_⟩
            rw [if_pos (show (nI 0 : Int32) = 0 from rfl)]
            have e : (nI a).toInt64 = v := by simpa [lfO] using hl
            rw [e]
            exact next
          · rw [if_neg (fun y => o0 (e0.mp y))]
            by_cases o7 : o < 7
            · have e : w (o - 1) = v := by simpa [lfO, o0, o7] using hl
              refine ⟨⟨fun _ => ⟨fun y => absurd (l7.mp y) (by omega), fun _ => (qin (by omega)).mpr (by omega)⟩, fun _ => trivial⟩, in3, ?_⟩
              rw [if_neg (fun y => absurd (l7.mp y) (by omega)), qn (show o < 2147483648 by omega), hJ 80 (by omega), hw o (by omega) o7, e]
              exact next
            · rw [if_pos (l7.mpr (by omega))]
              by_cases o77 : o = 7
              · subst o77
                have a12 : a < 12 := by
                  by_cases y : a < 12
                  · exact y
                  · simp [lfO, y] at hl
                have e : w (6 + a) = v := by simpa [lfO, a12] using hl
                have hb := hwb a a12
                have eb : V12_isBend S I J (nI a) = V12_isBend S I0 J0 (nI a) := by unfold V12_isBend; rw [hI1 63 (by omega)]
                have ei : (38 + 4 * nI a + 0) = nI (38 + 4 * a) := by rw [ql 38, ql 4, ql 0, qmul, nI_add, nI_add]; rfl
                have eo : V12_ofBend S I J (nI a) 0 = I0 63 (38 + 4 * a) := by unfold V12_ofBend; rw [ei, qn (show 38 + 4 * a < 2147483648 by omega), hI1 63 (by omega)]
                refine ⟨⟨fun _ => ⟨fun _ => ⟨fun y => absurd rfl y, fun _ => ⟨fun _ => trivial, fun _ => ?_⟩⟩, fun y => absurd (l7.mpr (by omega)) y⟩, fun _ => trivial⟩, in3, ?_⟩
                · unfold P12_ofBend
                  rw [ei]
                  exact ⟨(qin (show 38 + 4 * a < 2147483648 by omega)).mpr (by omega), trivial⟩
                · rw [if_pos (e7.mpr rfl), eb, eo, hb, e]
                  exact next
              · by_cases o8 : o = 8
                · subst o8
                  have a6 : a < 6 := by
                    by_cases y : a < 6
                    · exact y
                    · simp [lfO, y] at hl
                  have e : w (18 + a) = v := by simpa [lfO, a6] using hl
                  have hb := hwl a a6
                  have eb : V12_isLoad S I J (nI a) = V12_isLoad S I0 J0 (nI a) := by unfold V12_isLoad; rw [hI1 63 (by omega)]
                  have ei : (14 + nI a) = nI (14 + a) := by rw [ql 14, nI_add]
                  refine ⟨⟨fun _ => ⟨fun _ => ⟨fun _ => ⟨fun _ => trivial, fun _ => ?_⟩, fun y => absurd (e7.mp y) (by omega)⟩, fun y => absurd (l7.mpr (by omega)) y⟩, fun _ => trivial⟩, in3, ?_⟩
                  · rw [ei]
                    exact (qin (by omega)).mpr (by omega)
                  · rw [if_neg (fun y => absurd (e7.mp y) (by omega)), eb, ei, qn (show 14 + a < 2147483648 by omega), hI1 63 (by omega), hb, e]
                    exact next
                · exfalso
                  simp [lfO, o0, o7, o77, o8] at hl
