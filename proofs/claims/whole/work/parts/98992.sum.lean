/-! orders: sums by both -/
def rkE1 (r : Option Int64) (I' : tHI) (J' : tHJ) : Prop := match r with
  | none => I' 61 38 = 1
  | some v => I' 61 38 = 0 ∧ J' 61 39 = v
theorem reck_LO1 {n : Nat} {S : tSH} {k : tHI → tHJ → Prop} {e : Nat} {op ar : Nat → Nat} {w : Nat → Int64} {I0 : tHI} {J0 : tHJ} (h20 : ¬ I0 61 20 = 0) (he : e < 100000) (hop : ∀ i, i < e → op i < 40 ∧ ar i < 100000) (he4 : e ≤ 400) (h72 : ∀ i, i < e → I0 72 i = nI (op i) ∧ I0 73 i = nI (ar i)) (hw : ∀ o, 1 ≤ o → o < 7 → J0 80 o = w (o - 1)) (hwb : ∀ a, a < 12 → (if V12_isBend S I0 J0 (nI a) = 0 then ((-10) : Int32).toInt64 else (I0 63 (38 + 4 * a)).toInt64) = w (6 + a)) (hwl : ∀ a, a < 6 → (if V12_isLoad S I0 J0 (nI a) = 0 then ((-10) : Int64) else (I0 63 (14 + a)).toInt64) = w (18 + a)) {r : Option Int64} (hk : ∀ (I' : tHI) (J' : tHJ), (∀ x, x ≠ 61 → I' x = I0 x) → (∀ y, y ≠ 38 → I' 61 y = I0 61 y) → (∀ x, x ≠ 81 → x ≠ 61 → J' x = J0 x) → (∀ y, y ≠ 39 → J' 61 y = J0 61 y) → rkE1 r I' J' → k I' J') : ∀ (f i t : Nat) (I : tHI) (J : tHJ), (∀ x, x ≠ 61 → I x = I0 x) → (∀ y, y ≠ 38 → I 61 y = I0 61 y) → (∀ x, x ≠ 81 → J x = J0 x) → i < 100000 → t ≤ 400 → e - i < f → I 61 38 = 0 → mm op ar (lfO w) e i t (J 81) = some r → F12_reckonAll_L10 n S k f I J (nI e) (nI t) (nI i) := by
  have fin : ∀ (I : tHI) (J : tHJ) (t : Nat), (∀ x, x ≠ 61 → I x = I0 x) → (∀ y, y ≠ 38 → I 61 y = I0 61 y) → (∀ x, x ≠ 81 → J x = J0 x) → (rkE1 r I (uJ J 61 39 (if nI t ≤ 0 then 0 else J 81 0))) → F12_reckonAll_364 n S k I J (nI t) := by
    intro I J t h1 h2 h3 h4
    unfold F12_reckonAll_364
    refine hk _ _ h1 h2 (fun x hx hx2 => ?_) (fun y hy => ?_) h4
    · rw [uJn hx2]; exact h3 x hx
    · rw [uJe, upJn hy, h3 61 (by omega)]
  have brk : ∀ (f i t : Nat) (I : tHI) (J : tHJ), (∀ x, x ≠ 61 → I x = I0 x) → (∀ y, y ≠ 38 → I 61 y = I0 61 y) → (∀ x, x ≠ 81 → J x = J0 x) → 0 < f → I 61 38 = 1 → r = none → F12_reckonAll_L10 n S k f I J (nI e) (nI t) (nI i) := by
    intro f i t I J h1 h2 h3 hf hb hr
    obtain ⟨f, rfl⟩ : ∃ g, f = g + 1 := ⟨f - 1, by omega⟩
    subst hr
    show F12_reckonAll_10 n S k (F12_reckonAll_L10 n S k f) I J (nI e) (nI t) (nI i)
    unfold F12_reckonAll_10
    exact ⟨fun _ => fin I J t h1 h2 h3 hb, fun _ => ⟨fun _ => fin I J t h1 h2 h3 hb, fun q => absurd (hb.symm.trans q) (by decide)⟩⟩
  intro f
  induction f with
  | zero => intro i t I J _ _ _ _ _ hf; omega
  | succ f ih =>
    intro i t I J hI1 hI2 hJ hi ht hf h38 hm
    show F12_reckonAll_10 n S k (F12_reckonAll_L10 n S k f) I J (nI e) (nI t) (nI i)
    unfold F12_reckonAll_10
    have g20 : ¬ I 61 20 = 0 := by rw [hI2 20 (by omega)]; exact h20
    refine ⟨fun q => ?_, fun q => ⟨fun q2 => absurd h38 q2, fun _ => ?_⟩⟩
    · rw [qle (by omega) (by omega)] at q
      rw [mm, if_pos q] at hm
      by_cases h1 : t = 1
      · rw [if_pos h1] at hm
        cases hm
        subst h1
        refine fin I J 1 hI1 hI2 hJ ⟨h38, ?_⟩
        rw [if_neg (by decide)]
        rw [uJe, upJe]
      · rw [if_neg h1] at hm
        cases hm
    · rw [qle (by omega) (by omega)] at q
      have hie : i < e := by omega
      obtain ⟨ho, ha⟩ := hop i hie
      obtain ⟨f1, f2⟩ := h72 i hie
      simp only [g20, if_false, false_implies, not_false_eq_true, true_implies, and_true, true_and]
      rw [qn (show i < 2147483648 by omega), hI1 72 (by omega), hI1 73 (by omega), f1, f2]
      refine ⟨(qin (by omega)).mpr (by omega), (qin (by omega)).mpr (by omega), ?_⟩
      rw [mm, if_neg q] at hm
      generalize op i = o at *
      generalize ar i = a at *
      have et1 : 0 < t → nI t - 1 = nI (t - 1) := fun g => qpred g
      have et2 : 0 < t → nI t + (-1) = nI (t - 1) := fun g => by rw [← qpred g]; exact (Int32.sub_eq_add_neg _ _).symm
      refine ⟨fun g => ?_, fun g => ?_⟩
      · have g : 20 ≤ o := (qle (a := 20) (by omega) (by omega)).mp g
        rw [if_neg (by omega)] at hm
        by_cases ht0 : t = 0
        · rw [if_pos ht0] at hm; cases hm
        rw [if_neg ht0] at hm
        have in1 : vp_in (nI (t - 1)) 400 := (qin (by omega)).mpr (by omega)
        refine ⟨fun g28 => ⟨fun g28' => ?_, fun g28' => ?_⟩, fun g28 => ?_⟩
        · have g28 : 28 ≤ o := (qle (a := 28) (by omega) (by omega)).mp g28
          have g28' : ¬ o = 28 := fun y => g28' ((qeq (b := 28) (by omega) (by omega)).mpr y)
          rw [if_neg (by omega), if_neg g28'] at hm
          unfold F12_reckonAll_361
          rw [et1 (by omega), et2 (by omega), qn (by omega)]
          refine ⟨in1, ?_⟩
          simp only [lg_cmp_eq]
          have e29 : (nI o = 29) = (o = 29) := propext (qeq (b := 29) (by omega) (by omega))
          simp only [e29]
          by_cases g0 : J 81 (t - 1) = (if o = 29 then 0 else 1)
          · rw [if_pos g0] at hm
            rw [if_pos g0, if_pos g0]
            by_cases gj : i < a
            · rw [if_pos gj] at hm
              rw [show max (i + 1) a = a by omega] at hm
              exact ih a t I J hI1 hI2 hJ (by omega) ht (by omega) h38 hm
            · rw [if_neg gj] at hm; cases hm
          · rw [if_neg g0] at hm
            rw [if_neg g0, if_neg g0, nI_1]
            exact ih (i + 1) (t - 1) I J hI1 hI2 hJ (by omega) (by omega) (by omega) h38 hm
        · have g28' : o = 28 := (qeq (b := 28) (by omega) (by omega)).mp g28'
          subst g28'
          rw [if_neg (by omega), if_pos rfl] at hm
          rw [et1 (by omega), qn (show t - 1 < 2147483648 by omega)]
          refine ⟨in1, in1, ?_⟩
          unfold F12_reckonAll_361
          rw [nI_1]
          refine ih (i + 1) t I _ hI1 hI2 (fun x hx => by rw [uJn hx]; exact hJ x hx) (by omega) ht (by omega) h38 ?_
          rw [uJe]
          exact hm
        · have g28 : ¬ 28 ≤ o := fun y => g28 ((qle (a := 28) (by omega) (by omega)).mpr y)
          rw [if_pos (by omega)] at hm
          by_cases ht1 : t = 1
          · rw [if_pos ht1] at hm; cases hm
          rw [if_neg ht1] at hm
          have et3 : nI (t - 1) - 1 = nI (t - 2) := by rw [qpred (by omega)]; rfl
          rw [et2 (by omega), et3, qn (show t - 2 < 2147483648 by omega), qn (show t - 1 < 2147483648 by omega)]
          have in2 : vp_in (nI (t - 2)) 400 := (qin (by omega)).mpr (by omega)
          refine ⟨in2, in1, ?_⟩
          refine sp_reckon ⟨g, by omega⟩ h38 (fun I' v hv1 hv2 hP => ?_)
          refine ⟨in2, ⟨fun _ => trivial, fun _ => ⟨in2, fun _ => trivial, fun _ => trivial⟩⟩, ?_⟩
          unfold F12_reckonAll_361
          rw [nI_1]
          simp only [uJe, upJe]
          have kI1 : ∀ z, ∀ x, x ≠ 61 → (uI I' 61 38 z) x = I0 x := fun z x hx => by rw [uIn hx, hv1 x hx]; exact hI1 x hx
          have kI2 : ∀ z, ∀ y, y ≠ 38 → (uI I' 61 38 z) 61 y = I0 61 y := fun z y hy => by rw [uIe, upn hy, hv2 y hy]; exact hI2 y hy
          have kJ : ∀ x, x ≠ 81 → (uJ J 81 (t - 2) v) x = J0 x := fun x hx => by rw [uJn hx]; exact hJ x hx
          have w38 : ∀ z : Int32, (uI I' 61 38 z) 61 38 = z := fun z => by simp [uI]
          cases hj : jn (o - 18) (J 81 (t - 2)) (J 81 (t - 1)) with
          | none =>
            rw [hj] at hm hP
            cases hm
            have hz : (if I' 61 38 = 0 then (if V12_in v (-1000000000) 1000000000 = 0 then (1 : Int32) else 0) else 1) = 1 := by
              rcases hP with hP | ⟨hP, hQ⟩
              · rw [if_neg hP]
              · rw [if_pos hP, if_pos hQ]
            rw [hz]
            exact brk f (i + 1) (t - 1) _ _ (kI1 1) (kI2 1) kJ (by omega) (w38 1) rfl
          | some u =>
            rw [hj] at hm hP
            obtain ⟨hP1, rfl, hP2⟩ := hP
            have hz : (if I' 61 38 = 0 then (if V12_in v (-1000000000) 1000000000 = 0 then (1 : Int32) else 0) else 1) = 0 := by
              rw [if_pos hP1, if_neg hP2]
            rw [hz]
            refine ih (i + 1) (t - 1) _ _ (kI1 0) (kI2 0) kJ (by omega) (by omega) (by omega) (w38 0) ?_
            rw [uJe]
            exact hm
      · have g : ¬ 20 ≤ o := fun y => g ((qle (a := 20) (by omega) (by omega)).mpr y)
        rw [if_pos (by omega)] at hm
        by_cases h4 : 400 ≤ t
        · rw [if_pos h4] at hm; cases hm
        rw [if_neg h4] at hm
        cases hl : lfO w o a with
        | none => rw [hl] at hm; cases hm
        | some v =>
          rw [hl] at hm
          have e0 : nI o = 0 ↔ o = 0 := qeq (b := 0) (by omega) (by omega)
          have in3 : vp_in (nI t) 400 := (qin (by omega)).mpr (by omega)
          have next : F12_reckonAll_361 n S k (F12_reckonAll_L10 n S k f) I (uJ J 81 (nI t).toNatClampNeg v) (nI e) (nI t + 1) (nI i + 1) := by
            unfold F12_reckonAll_361
            rw [nI_1, nI_1, qn (by omega)]
            refine ih (i + 1) (t + 1) I _ hI1 hI2 (fun x hx => by rw [uJn hx]; exact hJ x hx) (by omega) (by omega) (by omega) h38 ?_
            rw [uJe]
            exact hm
          have e7 : nI o = 7 ↔ o = 7 := qeq (b := 7) (by omega) (by omega)
          have l7 : 7 ≤ nI o ↔ 7 ≤ o := qle (a := 7) (by omega) (by omega)
          by_cases o0 : o = 0
          · subst o0
            refine ⟨⟨fun y => absurd rfl y, fun _ => trivial⟩, in3, ?_⟩
            rw [if_pos (show (nI 0 : Int32) = 0 from rfl)]
            have e : (nI a).toInt64 = v := by simpa [lfO] using hl
            rw [e]
            exact next
          · rw [if_neg (fun y => o0 (e0.mp y))]
            by_cases o7 : o < 7
            · have e : w (o - 1) = v := by simpa [lfO, o0, o7] using hl
              refine ⟨⟨fun _ => ⟨fun y => absurd (l7.mp y) (by omega), fun _ => (qin (by omega)).mpr (by omega)⟩, fun _ => trivial⟩, in3, ?_⟩
              rw [if_neg (fun y => absurd (l7.mp y) (by omega)), qn (show o < 2147483648 by omega), hJ 80 (by omega), hw o (by omega) o7, e]
              exact next
            · rw [if_pos (l7.mpr (by omega))]
              by_cases o77 : o = 7
              · subst o77
                have a12 : a < 12 := by
                  by_cases y : a < 12
                  · exact y
                  · simp [lfO, y] at hl
                have e : w (6 + a) = v := by simpa [lfO, a12] using hl
                have hb := hwb a a12
                have eb : V12_isBend S I J (nI a) = V12_isBend S I0 J0 (nI a) := by unfold V12_isBend; rw [hI1 63 (by omega)]
                have ei : (38 + 4 * nI a + 0) = nI (38 + 4 * a) := by rw [ql 38, ql 4, ql 0, qmul, nI_add, nI_add]; rfl
                have eo : V12_ofBend S I J (nI a) 0 = I0 63 (38 + 4 * a) := by unfold V12_ofBend; rw [ei, qn (show 38 + 4 * a < 2147483648 by omega), hI1 63 (by omega)]
                refine ⟨⟨fun _ => ⟨fun _ => ⟨fun y => absurd rfl y, fun _ => ⟨fun _ => trivial, fun _ => ?_⟩⟩, fun y => absurd (l7.mpr (by omega)) y⟩, fun _ => trivial⟩, in3, ?_⟩
                · unfold P12_ofBend
                  rw [ei]
                  exact ⟨(qin (show 38 + 4 * a < 2147483648 by omega)).mpr (by omega), trivial⟩
                · rw [if_pos (e7.mpr rfl), eb, eo, hb, e]
                  exact next
              · by_cases o8 : o = 8
                · subst o8
                  have a6 : a < 6 := by
                    by_cases y : a < 6
                    · exact y
                    · simp [lfO, y] at hl
                  have e : w (18 + a) = v := by simpa [lfO, a6] using hl
                  have hb := hwl a a6
                  have eb : V12_isLoad S I J (nI a) = V12_isLoad S I0 J0 (nI a) := by unfold V12_isLoad; rw [hI1 63 (by omega)]
                  have ei : (14 + nI a) = nI (14 + a) := by rw [ql 14, nI_add]
                  refine ⟨⟨fun _ => ⟨fun _ => ⟨fun _ => ⟨fun _ => trivial, fun _ => ?_⟩, fun y => absurd (e7.mp y) (by omega)⟩, fun y => absurd (l7.mpr (by omega)) y⟩, fun _ => trivial⟩, in3, ?_⟩
                  · rw [ei]
                    exact (qin (by omega)).mpr (by omega)
                  · rw [if_neg (fun y => absurd (e7.mp y) (by omega)), eb, ei, qn (show 14 + a < 2147483648 by omega), hI1 63 (by omega), hb, e]
                    exact next
                · exfalso
                  simp [lfO, o0, o7, o77, o8] at hl
theorem DC.run {g : Nat → Nat} {nw a b h : Nat} {v : tV} (d : DC g nw a b h v) (h1 : h ≤ 52) (w : Nat → Int64) (s : Nat → Int64) : mc g w nw b a 0 s = v w := by
  obtain ⟨n1, s1⟩ := d.2.2 g (fun _ _ _ => rfl) w b 0 s (Nat.le_refl _) (by omega)
  cases hv : v w with
  | none => exact n1 hv
  | some x =>
    obtain ⟨t1, -, a2, a3⟩ := s1 x hv
    rw [a3, mc, if_pos (Nat.le_refl _), if_pos rfl, a2]
theorem DM.run {lf : (Nat → Int64) → Nat → Nat → Option Int64} {g r : Nat → Nat} {a b h : Nat} {v : tV} (d : DM lf g r a b h v) (h1 : h ≤ 400) (w : Nat → Int64) (s : Nat → Int64) : mm g r (lf w) b a 0 s = some (v w) := by
  obtain ⟨n1, s1⟩ := d.2.2 g r (fun _ _ _ => ⟨rfl, rfl⟩) w b 0 s (Nat.le_refl _) (by omega)
  cases hv : v w with
  | none => exact n1 hv
  | some x =>
    obtain ⟨t1, -, a2, a3⟩ := s1 x hv
    rw [a3, mm, if_pos (Nat.le_refl _), if_pos rfl, a2]
/-- an order's words -/
def oWd (r : Nat → Int32) (dn en : Int32) (a : Nat) : Int32 := if a = 0 then r 10 else if a = 1 then r 9 else if a = 2 then r 11 else if a = 3 then dn else if a = 4 then en else if a = 5 then r 12 else if a < 18 then (if ((a - 6 : Nat) : Int) < (r 1).toInt then r (38 + 4 * (a - 6)) else -10) else (if ((a - 18 : Nat) : Int) < (r 0).toInt then r (14 + (a - 18)) else -10)
def oWq (r : Nat → Int32) (dn en : Int32) (a : Nat) : Int64 := (oWd r dn en a).toInt64
section OS
variable {n : Nat} {S : tSH} {I : tHI} {J : tHJ} {w : Nat → Int64} {o : Option tV}
/-- a stretch of the orders' code, by the class -/
theorem sp_wkC {k : Int64 → tHI → tHJ → Prop} {a b len : Nat} {v : tV} (h47 : sL S 47 = 52) (h42 : sL S 42 = 400) (h58 : sL S 58 = 24) (hn : 400 < n) (h5 : I 41 5 = nI len) (hlen : len ≤ 400) (hb : b ≤ len) (hc : CWd (I 42) len) (d : COp 24 (I 42) a b (some v)) (hw : ∀ a, a < 24 → (I 58 a).toInt64 = w a) (hk : ∀ J', CJ J J' → k (rC (v w)) I J') : F0_work n S I J 41 (nI a) (nI b) 58 k := by
  obtain ⟨h, h1, d⟩ := d
  have hd := d.at
  refine sp_work (c := fun i => (I 42 i).toNatClampNeg) h47 h5 (Nat.le_of_lt hd.1) hb (by omega) (by omega) (fun i hi => ?_) (by show len ≤ sL S 42; omega) h58 (by omega) hw (fun J' hJ => ?_)
  · obtain ⟨x, x1, x2⟩ := hc i hi
    show I 42 i = nI (I 42 i).toNatClampNeg ∧ (I 42 i).toNatClampNeg < _
    rw [x1, qn (by omega)]
    exact ⟨rfl, by omega⟩
  · rw [hd.run (by omega)]
    exact hk J' hJ
theorem span_o {j s : Nat} (h45 : sL S 45 = 37) (hj : j < 12) (hs : s ≤ 2) : V6_spanStart S I J 41 (nI j) (nI s) = I 45 (3 * j + s) ∧ P6_spanStart S I J 41 (nI j) (nI s) := span_at (p := 41) (m := 12) (Nat.le_refl _) hj hs h45 rfl rfl
theorem span_on {j : Nat} (h45 : sL S 45 = 37) (hj : j < 12) : V6_spanStart S I J 41 (nI j + 1) 0 = I 45 (3 * j + 3) ∧ P6_spanStart S I J 41 (nI j + 1) 0 := span_nx (p := 41) (m := 12) (Nat.le_refl _) hj h45
/-- what a sum comes to, for the class -/
def oSc (o : Option tV) (w : Nat → Int64) : Int64 := match o with
  | none => 0
  | some v => rC (v w)
def oTest (o : Option tV) (w : Nat → Int64) : Bool := match o with
  | none => true
  | some v => decide (v w = some 1)
theorem sp_sumC {k : Int64 → tHI → tHJ → Prop} {j s len : Nat} {c : aC5} (h47 : sL S 47 = 52) (h42 : sL S 42 = 400) (h45 : sL S 45 = 37) (h58 : sL S 58 = 24) (hn : 400 < n) (h5 : I 41 5 = nI len) (hlen : len ≤ 400) (hc : CWd (I 42) len) (hj : j < 12) (hR : CRel 24 (I 42) (I 43) (I 44) (I 45) j len c) (hw : ∀ a, a < 24 → (I 58 a).toInt64 = w a) (hs : (s = 0 ∧ o = c.2.2.1) ∨ (s = 1 ∧ o = c.2.2.2.1)) (hk : ∀ J', CJ J J' → k (oSc o w) I J') : F0_sumOf n S I J 41 (nI j) (nI s) 58 k := by
  obtain ⟨a0, a1, a2, a3, r1, r2, ⟨r3, r4, r5, r6⟩, r7, r8, r9, r10⟩ := hR
  have l1 := r8.le; have l2 := r9.le; have l3 := r10.le
  obtain ⟨p1, p2⟩ := span_o (S := S) (I := I) (J := J) (s := s) h45 hj (by omega)
  obtain ⟨p3, p4⟩ := span_o (S := S) (I := I) (J := J) (s := s + 1) h45 hj (by omega)
  obtain ⟨x, y, e1, e2, hx, hy, d⟩ : ∃ x y : Nat, I 45 (3 * j + s) = nI x ∧ I 45 (3 * j + (s + 1)) = nI y ∧ x ≤ y ∧ y ≤ len ∧ COp 24 (I 42) x y o := by
    rcases hs with ⟨rfl, rfl⟩ | ⟨rfl, rfl⟩
    · exact ⟨a0, a1, r3, r4, l1, by omega, r8⟩
    · exact ⟨a1, a2, r4, r5, l2, by omega, r9⟩
  unfold F0_sumOf F0_sumOf_40
  rw [nI_1, p1, p3, e1, e2]
  refine ⟨p2, p4, fun q => ?_, fun q => ?_⟩
  · have q := (qlt (by omega) (by omega)).mp q
    cases o with
    | none => exact absurd (show x = y from d) (by omega)
    | some v => exact sp_wkC h47 h42 h58 hn h5 hlen hy hc d hw hk
  · have q : ¬ x < y := fun g => q ((qlt (by omega) (by omega)).mpr g)
    cases o with
    | none => exact hk J (fun _ _ => rfl)
    | some v =>
      obtain ⟨h, h1, d⟩ := d
      exact absurd d.lt q
theorem sp_soC {k : Int32 → tHI → tHJ → Prop} {j len : Nat} {c : aC5} (h47 : sL S 47 = 52) (h42 : sL S 42 = 400) (h45 : sL S 45 = 37) (h58 : sL S 58 = 24) (hn : 400 < n) (h5 : I 41 5 = nI len) (hlen : len ≤ 400) (hc : CWd (I 42) len) (hj : j < 12) (hR : CRel 24 (I 42) (I 43) (I 44) (I 45) j len c) (hw : ∀ a, a < 24 → (I 58 a).toInt64 = w a) (hk : ∀ J', CJ J J' → k (if oTest c.2.2.2.2 w = true then 1 else 0) I J') : F0_isSo n S I J 41 (nI j) 58 k := by
  obtain ⟨a0, a1, a2, a3, r1, r2, ⟨r3, r4, r5, r6⟩, r7, r8, r9, r10⟩ := hR
  have l1 := r8.le; have l2 := r9.le; have l3 := r10.le
  obtain ⟨p1, p2⟩ := span_o (S := S) (I := I) (J := J) (s := 2) h45 hj (by omega)
  obtain ⟨p3, p4⟩ := span_on (S := S) (I := I) (J := J) h45 hj
  unfold F0_isSo F0_isSo_40 F0_isSo_45
  rw [show (2 : Int32) = nI 2 from rfl, p1, p3, r5, r6]
  generalize c.2.2.2.2 = o at *
  refine ⟨p2, p4, fun q => ?_, fun q => ?_⟩
  · have q := (qle (by omega) (by omega)).mp q
    cases o with
    | none => exact ⟨Or.inr rfl, hk J (fun _ _ => rfl)⟩
    | some v =>
      obtain ⟨h, h1, d⟩ := r10
      exact absurd d.lt (by omega)
  · have q : ¬ a3 ≤ a2 := fun g => q ((qle (by omega) (by omega)).mpr g)
    cases o with
    | none => exact absurd (show a2 = a3 from r10) (by omega)
    | some v =>
      refine sp_wkC h47 h42 h58 hn h5 hlen r7 hc r10 hw (fun J' hJ => ?_)
      have hk := hk J' hJ
      simp only [lg_cmp_eq]
      have e : (rC (v w) = 1) = (oTest (some v) w = true) := by
        show _ = (decide (v w = some 1) = true)
        cases hv : v w with
        | none => simp [rC]
        | some x => simp [rC]
      simp only [e]
      exact hk
/-- what a sum comes to, for the model -/
def SMr (o : Option tV) (w : Nat → Int64) (x : Int32) (I' : tHI) : Prop := match o with
  | none => x = -1 ∧ I' 61 54 = 0
  | some v => match v w with
    | none => I' 61 54 = 1
    | some y => x = y.toInt32 ∧ I' 61 54 = 0
def SFr (I I' : tHI) (J J' : tHJ) : Prop := (∀ x, x ≠ 61 → I' x = I x) ∧ (∀ y, y ≠ 38 → y ≠ 54 → I' 61 y = I 61 y) ∧ (∀ x, x ≠ 81 → x ≠ 61 → J' x = J x) ∧ ∀ y, y ≠ 39 → J' 61 y = J 61 y
theorem SFr.rf (I : tHI) (J : tHJ) : SFr I I J J := ⟨fun _ _ => rfl, fun _ _ _ => rfl, fun _ _ _ => rfl, fun _ _ => rfl⟩
theorem SFr.trans {I X Y : tHI} {J U V : tHJ} (h : SFr I X J U) (g : SFr X Y U V) : SFr I Y J V := ⟨fun x hx => (g.1 x hx).trans (h.1 x hx), fun y a c => (g.2.1 y a c).trans (h.2.1 y a c), fun x a c => (g.2.2.1 x a c).trans (h.2.2.1 x a c), fun y a => (g.2.2.2 y a).trans (h.2.2.2 y a)⟩
theorem oWd_b {r : Nat → Int32} {dn en : Int32} {a : Nat} (ha : a < 12) : oWd r dn en (6 + a) = if (a : Int) < (r 1).toInt then r (38 + 4 * a) else -10 := by
  unfold oWd
  rw [if_neg (by omega), if_neg (by omega), if_neg (by omega), if_neg (by omega), if_neg (by omega), if_neg (by omega), if_pos (by omega), show 6 + a - 6 = a by omega]
theorem oWd_l {r : Nat → Int32} {dn en : Int32} {a : Nat} (ha : a < 6) : oWd r dn en (18 + a) = if (a : Int) < (r 0).toInt then r (14 + a) else -10 := by
  unfold oWd
  rw [if_neg (by omega), if_neg (by omega), if_neg (by omega), if_neg (by omega), if_neg (by omega), if_neg (by omega), if_neg (by omega), show 18 + a - 18 = a by omega]
theorem sp_sumM {k : Int32 → tHI → tHJ → Prop} {r : Nat → Int32} {dn en : Int32} {g ra : Nat → Nat} {v b1 b2 nc N B : Nat} (hn : 400 < n) (h54 : I 61 54 = 0) (h20 : I 61 20 = 0) (hv : v + 1 < 96) (e1 : I 87 v = nI b1) (e2 : I 87 (v + 1) = nI b2) (hb : b2 ≤ nc) (hnc : nc ≤ 400) (h72 : ∀ i, i < nc → I 72 i = nI (g i) ∧ I 73 i = nI (ra i) ∧ g i < 40 ∧ ra i < 100000) (d : MOp lfO g ra b1 b2 o) (h63 : I 63 = r) (hN : r 0 = nI N) (hN6 : N ≤ 6) (hB : r 1 = nI B) (hB12 : B ≤ 12) (hJ : ∀ o, 1 ≤ o → o < 7 → J 80 o = oWq r dn en (o - 1)) (hk : ∀ x I' J', SFr I I' J J' → SMr o (oWq r dn en) x I' → k x I' J') : F12_sumOf n S I J (nI v) k := by
  unfold F12_sumOf F12_sumOf_24
  have w87 : (uI I 61 20 1) 87 = I 87 := uIn (by decide)
  rw [nI_1, w87, qn (by omega), qn (by omega), e1, e2]
  refine ⟨fun y => absurd h54 y, fun _ => ⟨(qin (by omega)).mpr (by omega), (qin (by omega)).mpr (by omega), fun q => ⟨(qin (by omega)).mpr (by omega), (qin (by omega)).mpr (by omega), ?_⟩, fun q => ?_⟩⟩
  · cases o with
    | none => exact absurd (congrArg nI (show b1 = b2 from d)) q
    | some f =>
      have d : DM lfO g ra b1 b2 (b2 - b1) f := d
      unfold F12_reckonAll
      have x61 : ∀ y, y ≠ 20 → y ≠ 38 → (uI (uI I 61 20 1) 61 38 0) 61 y = I 61 y := fun y p q => by rw [uIe, upn q, uIe, upn p]
      have xo : ∀ x, x ≠ 61 → (uI (uI I 61 20 1) 61 38 0) x = I x := fun x p => by rw [uIn p, uIn p]
      have x20 : ¬ (uI (uI I 61 20 1) 61 38 0) 61 20 = 0 := by rw [uIe, upn (by decide), uIe, upe]; decide
      have x38 : (uI (uI I 61 20 1) 61 38 0) 61 38 = 0 := by rw [uIe, upe]
      generalize (uI (uI I 61 20 1) 61 38 0) = X at x61 xo x20 x38 ⊢
      have X63 : X 63 = r := by rw [xo 63 (by decide), h63]
      refine reck_LO1 (op := g) (ar := ra) (w := oWq r dn en) (I0 := X) (J0 := J) (r := f (oWq r dn en)) x20 (by omega) (fun i hi => (h72 i (by omega)).2.2) (by omega) (fun i hi => by rw [xo 72 (by decide), xo 73 (by decide)]; exact ⟨(h72 i (by omega)).1, (h72 i (by omega)).2.1⟩) hJ (fun a ha => ?_) (fun a ha => ?_) (fun I' J' f1 f2 f3 f4 hr => ?_) n b1 0 X J (fun _ _ => rfl) (fun _ _ => rfl) (fun _ _ => rfl) (by have := d.1; omega) (by omega) (by omega) x38 (d.run (by omega) _ _)
      · show _ = (oWd r dn en (6 + a)).toInt64
        rw [oWd_b ha, X63]
        have hi := isB (S := S) (I := X) (J := J) (v := nI a) (by rw [X63]; exact hB) hB12
        rw [qi (by omega)] at hi
        rw [hB, qi (by omega)]
        by_cases c : a < B
        · rw [if_neg (fun y => (hi.mp y) (by omega)), if_pos (by omega)]
        · rw [if_pos (hi.mpr (by omega)), if_neg (by omega)]
      · show _ = (oWd r dn en (18 + a)).toInt64
        rw [oWd_l ha, X63]
        have hi := isLd (S := S) (I := X) (J := J) (v := nI a) (by rw [X63]; exact hN) hN6
        rw [qi (by omega)] at hi
        rw [hN, qi (by omega)]
        by_cases c : a < N
        · rw [if_neg (fun y => (hi.mp y) (by omega)), if_pos (by omega)]
        · rw [if_pos (hi.mpr (by omega)), if_neg (by omega)]; rfl
      · have w38 : (uI I' 61 20 0) 61 38 = I' 61 38 := by rw [uIe, upn (by decide)]
        rw [w38]
        have fr : SFr I (uI (uI I' 61 20 0) 61 54 (I' 61 38)) J J' := by
          refine ⟨fun x hx => by rw [uIn hx, uIn hx, f1 x hx, xo x hx], fun y a c => ?_, f3, f4⟩
          rw [uIe, upn c, uIe]
          by_cases e : y = 20
          · rw [e, upe, h20]
          · rw [upn e, f2 y a, x61 y e a]
        have w54 : (uI (uI I' 61 20 0) 61 54 (I' 61 38)) 61 54 = I' 61 38 := by rw [uIe, upe]
        cases hf : f (oWq r dn en) with
        | none =>
          rw [hf] at hr
          refine ⟨Or.inr hr, hk _ _ _ fr ?_⟩
          show (match f (oWq r dn en) with
            | none => _
            | some y => _)
          rw [hf]
          show _ = _
          rw [w54]; exact hr
        | some x =>
          rw [hf] at hr
          refine ⟨Or.inl hr.1, hk _ _ _ fr ?_⟩
          show (match f (oWq r dn en) with
            | none => _
            | some y => _)
          rw [hf]
          show _ ∧ _
          rw [w54, hr.2]; exact ⟨rfl, hr.1⟩
  · have hle := d.le
    have q := (qeq (by omega) (by omega)).mp q
    cases o with
    | none => exact hk _ _ _ (SFr.rf I J) ⟨rfl, h54⟩
    | some f =>
      have := DN.lt d
      omega
end OS
