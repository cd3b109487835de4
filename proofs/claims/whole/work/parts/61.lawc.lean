/-! what a law tells: its clauses, by the class -/
theorem mc_cg {c c' : Nat → Nat} {w : Nat → Int64} {nw e : Nat} : ∀ (d i t : Nat) (s : Nat → Int64), e - i ≤ d → (∀ j, i ≤ j → j < e → c j = c' j) → mc c w nw e i t s = mc c' w nw e i t s := by
  intro d
  induction d with
  | zero =>
    intro i t s h _
    conv => lhs; rw [mc, if_pos (show e ≤ i by omega)]
    conv => rhs; rw [mc, if_pos (show e ≤ i by omega)]
  | succ d ih =>
    intro i t s h hc
    by_cases g : e ≤ i
    · conv => lhs; rw [mc, if_pos g]
      conv => rhs; rw [mc, if_pos g]
    · conv => lhs; rw [mc, if_neg g, hc i (Nat.le_refl i) (by omega)]
      conv => rhs; rw [mc, if_neg g]
      have r2 : ∀ t s, mc c w nw e (i + 1) t s = mc c' w nw e (i + 1) t s := fun t s => ih (i + 1) t s (by omega) (fun j a b => hc j (by omega) b)
      have r3 : ∀ a t s, mc c w nw e (max i a + 1) t s = mc c' w nw e (max i a + 1) t s := fun a t s => ih (max i a + 1) t s (by omega) (fun j a b => hc j (by omega) b)
      simp only [r2, r3]
def tstC (f1 f4 : Nat → Int32) (w : Nat → Int64) (j : Nat) : Bool := decide ((f4 (3 * j + 2)).toNatClampNeg = (f4 (3 * j + 3)).toNatClampNeg ∨ mc (fun i => (f1 i).toNatClampNeg) w 12 (f4 (3 * j + 3)).toNatClampNeg (f4 (3 * j + 2)).toNatClampNeg 0 (fun _ => 0) = some 1)
def smC (f1 f4 : Nat → Int32) (w : Nat → Int64) (j : Nat) : Option Int64 := mc (fun i => (f1 i).toNatClampNeg) w 12 (f4 (3 * j + 1)).toNatClampNeg (f4 (3 * j)).toNatClampNeg 0 (fun _ => 0)
def toldC (f1 f2 f4 : Nat → Int32) (w : Nat → Int64) (kd : Int32) : Nat → Option Int64
  | 0 => none
  | j + 1 => if f2 j = kd ∧ tstC f1 f4 w j = true then (match smC f1 f4 w j with
    | some v => some v
    | none => toldC f1 f2 f4 w kd j) else toldC f1 f2 f4 w kd j
def banC (f1 f2 f4 : Nat → Int32) (w : Nat → Int64) : Nat → Bool
  | 0 => false
  | j + 1 => banC f1 f2 f4 w j || (decide (f2 j = 5) && tstC f1 f4 w j)
theorem SpE.ind {c : Nat → Nat} {nw ca cb : Nat} {op ar : Nat → Nat} {lf : (Nat → Int64) → Nat → Nat → Option Int64} {ma mb : Nat} (h : SpE c nw ca cb op ar lf ma mb) (w : Nat → Int64) (s s2 : Nat → Int64) : mc c w nw cb ca 0 s = mc c w nw cb ca 0 s2 := Option.some.inj ((h w s (fun _ => 0)).symm.trans (h w s2 (fun _ => 0)))
section LC
variable {n : Nat} {S : tSH} {I : tHI} {J : tHJ} {p wid : Nat} {r : Nat → Int32} {at0 : Nat} {w : Nat → Int64}
/-- where a clause's spans begin, as the class finds it -/
theorem span_at {m j s : Nat} {v : Int32} (hm : m ≤ 12) (hj : j < m) (hs : s ≤ 2) (hl : sL S (p + 4) = 3 * m + 1) (hv : v = nI j) {q : Int32} (hq : q = nI s) : V6_spanStart S I J p v q = I (p + 4) (3 * j + s) ∧ P6_spanStart S I J p v q := by
  subst hv hq
  have e : nI j * 3 + nI s = nI (3 * j + s) := by rw [ql 3, qmul, nI_add]; congr 1; omega
  unfold V6_spanStart P6_spanStart
  rw [e, hl]
  have a1 : ¬ nI (3 * j + s) < 0 := by rw [Int32.lt_iff_toInt_lt, qi (by omega)]; have z : (0 : Int32).toInt = 0 := rfl; omega
  have a2 : ¬ Int32.ofNat (3 * m + 1) ≤ nI (3 * j + s) := fun y => by have := (qle (a := 3 * m + 1) (by omega) (by omega)).mp y; omega
  rw [if_neg a1, if_neg a2, qn (by omega)]
  exact ⟨rfl, fun _ => trivial, fun _ => ⟨fun y => absurd y a2, fun _ => ⟨(qin (by omega)).mpr (by omega), trivial⟩⟩⟩
theorem span_nx {m j : Nat} (hm : m ≤ 12) (hj : j < m) (hl : sL S (p + 4) = 3 * m + 1) : V6_spanStart S I J p (nI j + 1) 0 = I (p + 4) (3 * j + 3) ∧ P6_spanStart S I J p (nI j + 1) 0 := by
  have e : (nI j + 1) * 3 + 0 = nI (3 * j + 3) := by rw [nI_1, ql 3, qmul, ql 0, nI_add]; congr 1; omega
  unfold V6_spanStart P6_spanStart
  rw [e, hl]
  have a1 : ¬ nI (3 * j + 3) < 0 := by rw [Int32.lt_iff_toInt_lt, qi (by omega)]; have z : (0 : Int32).toInt = 0 := rfl; omega
  have a2 : ¬ Int32.ofNat (3 * m + 1) ≤ nI (3 * j + 3) := fun y => by have := (qle (a := 3 * m + 1) (by omega) (by omega)).mp y; omega
  rw [if_neg a1, if_neg a2, qn (by omega)]
  exact ⟨rfl, fun _ => trivial, fun _ => ⟨fun y => absurd y a2, fun _ => ⟨(qin (by omega)).mpr (by omega), trivial⟩⟩⟩
/-- a clause's if -/
theorem sp_isSo (h47 : sL S 47 = 52) (hn : 400 < n) (h : LRel S p (I p) (I (p + 1)) (I (p + 2)) (I (p + 4)) r at0) {j : Nat} (hj : nI j < I p 4) (hj2 : j < 100) (hnw : sL S wid = 12) (hw : ∀ a, a < 12 → (I wid a).toInt64 = w a) {k : Int32 → tHI → tHJ → Prop} (hk : ∀ J' : tHJ, (∀ x, x ≠ 47 → J' x = J x) → k (if tstC (I (p + 1)) (I (p + 4)) w j = true then 1 else 0) I J') : F0_isSo n S I J p (nI j) wid k := by
  obtain ⟨-, m, ln, mn, c, op, ar, ⟨b1, b2, b3⟩, ⟨e4, e5, e6⟩, ⟨l1, l2, l3, l4⟩, hc, ho, hcl⟩ := h
  have hjm : j < m := by rw [e4] at hj; exact (qlt (by omega) (by omega)).mp hj
  obtain ⟨kd, a0, a1, a2, a3, d3, d4, d5, d6, g1, g2, g3, ⟨q0, q1, q2, q3⟩, ⟨o1, o2, o3, o4⟩, g6, g7, g8, g9⟩ := hcl j hjm
  obtain ⟨v1, p1⟩ := span_at (S := S) (I := I) (J := J) (p := p) b1 hjm (s := 2) (by omega) l4 rfl (q := 2) rfl
  obtain ⟨v2, p2⟩ := span_nx (S := S) (I := I) (J := J) (p := p) b1 hjm l4
  unfold F0_isSo F0_isSo_40 F0_isSo_45
  rw [v1, v2, q2, q3]
  refine ⟨p1, p2, fun q => ?_, fun q => ?_⟩
  · have q : a3 ≤ a2 := (qle (by omega) (by omega)).mp q
    have e : tstC (I (p + 1)) (I (p + 4)) w j = true := by
      unfold tstC
      rw [q2, q3]
      exact decide_eq_true (Or.inl (by rw [qn (by omega), qn (by omega)]; omega))
    have hk := hk J (fun _ _ => rfl)
    rw [if_pos e] at hk
    exact ⟨Or.inr rfl, hk⟩
  · have q : ¬ a3 ≤ a2 := fun y => q ((qle (by omega) (by omega)).mpr y)
    obtain ⟨-, -, hE, hB⟩ := g9.resolve_left (fun y => q (by omega))
    refine sp_work (c := c) h47 e5 (by omega) o4 (by omega) (by omega) hc (by omega) hnw (by omega) hw (fun J' hJ' => ?_)
    have hk := hk J' hJ'
    simp only [lg_cmp_eq]
    have e : tstC (I (p + 1)) (I (p + 4)) w j = decide (mc c w 12 a3 a2 0 (J 47) = some 1) := by
      unfold tstC
      rw [q2, q3, qn (show a2 < 2147483648 by omega), qn (show a3 < 2147483648 by omega), mc_cg (c := fun i => (I (p + 1) i).toNatClampNeg) (c' := c) (a3 - a2) a2 0 (fun _ => 0) (Nat.le_refl _) (fun i x y => by rw [(hc i (by omega)).1, qn (by have := (hc i (by omega)).2; omega)]), hE.ind w (fun _ => 0) (J 47)]
      simp only [show ¬ a2 = a3 by omega, false_or]
    rw [e] at hk
    cases hm : mc c w 12 a3 a2 0 (J 47) with
    | none =>
      rw [hm] at hk
      rw [if_neg (by decide)] at hk
      show k (if (2000000000 : Int64) = 1 then 1 else 0) I J'
      rw [if_neg (by decide)]
      exact hk
    | some v =>
      rw [hm] at hk
      show k (if v = 1 then 1 else 0) I J'
      by_cases y : v = 1
      · subst y; simpa using hk
      · rw [if_neg y]
        rw [if_neg (by simpa using y)] at hk
        exact hk
/-- a clause's sum -/
theorem sp_sumOf (h47 : sL S 47 = 52) (hn : 400 < n) (h : LRel S p (I p) (I (p + 1)) (I (p + 2)) (I (p + 4)) r at0) {j : Nat} (hj : nI j < I p 4) (hj2 : j < 100) (h5 : ¬ I (p + 2) j = 5) (hnw : sL S wid = 12) (hw : ∀ a, a < 12 → (I wid a).toInt64 = w a) {k : Int64 → tHI → tHJ → Prop} (hk : ∀ J' : tHJ, (∀ x, x ≠ 47 → J' x = J x) → k (rC (smC (I (p + 1)) (I (p + 4)) w j)) I J') : F0_sumOf n S I J p (nI j) 0 wid k := by
  obtain ⟨-, m, ln, mn, c, op, ar, ⟨b1, b2, b3⟩, ⟨e4, e5, e6⟩, ⟨l1, l2, l3, l4⟩, hc, ho, hcl⟩ := h
  have hjm : j < m := by rw [e4] at hj; exact (qlt (by omega) (by omega)).mp hj
  obtain ⟨kd, a0, a1, a2, a3, d3, d4, d5, d6, g1, g2, g3, ⟨q0, q1, q2, q3⟩, ⟨o1, o2, o3, o4⟩, g6, g7, g8, g9⟩ := hcl j hjm
  have hk5 : kd ≠ 5 := fun y => h5 (by rw [g2, y]; rfl)
  obtain ⟨hlt, hE⟩ := g8 hk5
  obtain ⟨v1, p1⟩ := span_at (S := S) (I := I) (J := J) (p := p) b1 hjm (s := 0) (by omega) l4 rfl (q := 0) rfl
  obtain ⟨v2, p2⟩ := span_at (S := S) (I := I) (J := J) (p := p) b1 hjm (s := 1) (by omega) l4 rfl (q := 0 + 1) rfl
  unfold F0_sumOf F0_sumOf_40
  rw [v1, v2, q1, show 3 * j + 0 = 3 * j from rfl, q0]
  refine ⟨p1, p2, fun q => ?_, fun q => absurd ((qlt (by omega) (by omega)).mpr hlt) q⟩
  refine sp_work (c := c) h47 e5 (by omega) (by omega) (by omega) (by omega) hc (by omega) hnw (by omega) hw (fun J' hJ' => ?_)
  have hk := hk J' hJ'
  have e : smC (I (p + 1)) (I (p + 4)) w j = mc c w 12 a1 a0 0 (J 47) := by
    unfold smC
    rw [q0, q1, qn (show a0 < 2147483648 by omega), qn (show a1 < 2147483648 by omega), mc_cg (c := fun i => (I (p + 1) i).toNatClampNeg) (c' := c) (a1 - a0) a0 0 (fun _ => 0) (Nat.le_refl _) (fun i x y => by rw [(hc i (by omega)).1, qn (by have := (hc i (by omega)).2; omega)]), hE.ind w (fun _ => 0) (J 47)]
  rw [e] at hk
  exact hk
end LC
/-- within what a sum of a law stays -/
def bd (x : Int64) : Prop := -1000000000 ≤ x.toInt ∧ x.toInt ≤ 1000000001
theorem bd_ck {x v : Int64} (h : ck x = some v) : bd v := by
  have e1 : (1000000000 : Int64).toInt = 1000000000 := by decide +kernel
  have e2 : (-1000000000 : Int64).toInt = -1000000000 := by decide +kernel
  unfold ck at h
  split at h
  · cases h
  · split at h
    · cases h
    · rename_i h1 h2
      cases h
      rw [Int64.lt_iff_toInt_lt, e1] at h1
      rw [Int64.lt_iff_toInt_lt, e2] at h2
      exact ⟨by omega, by omega⟩
theorem bd_jn {op : Nat} {a b v : Int64} (h : jn op a b = some v) : bd v := by
  have b0 : bd 0 := by unfold bd; decide
  have b1 : bd 1 := by unfold bd; decide
  unfold jn at h
  split at h
  · exact bd_ck h
  split at h
  · exact bd_ck h
  split at h
  · exact bd_ck h
  split at h
  · split at h
    · cases h
    · exact bd_ck h
  split at h
  · split at h
    · cases h
    · exact bd_ck h
  split at h
  · split at h <;> cases h
    · exact b1
    · exact b0
  split at h
  · split at h <;> cases h
    · exact b1
    · exact b0
  · split at h <;> cases h
    · exact b1
    · exact b0
theorem bd_not {x : Int64} (h : bd x) : bd (1 - x) := by
  obtain ⟨h1, h2⟩ := h
  have e1 : (1 : Int64).toInt = 1 := by decide
  have e := tl_sub (a := 1) (b := x) (by rw [e1]; omega) (by rw [e1]; omega)
  rw [e1] at e
  exact ⟨by omega, by omega⟩
theorem bd_up {s : Nat → Int64} {t k : Nat} {v : Int64} (hs : ∀ j, j < t → bd (s j)) (hv : bd v) : ∀ j, j < t → bd (upJ s k v j) := fun j hj => by
  by_cases g : j = k
  · subst g; rw [upJe]; exact hv
  · rw [upJn g]; exact hs j hj
theorem mc_bd {c : Nat → Nat} {w : Nat → Int64} {nw e : Nat} (hw : ∀ a, a < nw → bd (w a)) : ∀ (d i t : Nat) (s : Nat → Int64) (v : Int64), e - i ≤ d → (∀ j, j < t → bd (s j)) → mc c w nw e i t s = some v → bd v := by
  intro d
  induction d with
  | zero =>
    intro i t s v h hs hv
    rw [mc, if_pos (show e ≤ i by omega)] at hv
    split at hv
    · cases hv; exact hs 0 (by omega)
    · cases hv
  | succ d ih =>
    intro i t s v h hs hv
    rw [mc] at hv
    have hs1 : ∀ x : Int64, bd x → ∀ j, j < t + 1 → bd (upJ s t x j) := fun x hx j hj => by
      by_cases g : j = t
      · subst g; rw [upJe]; exact hx
      · rw [upJn g]; exact hs j (by omega)
    split at hv
    · split at hv
      · cases hv; exact hs 0 (by omega)
      · cases hv
    split at hv
    · split at hv
      · cases hv
      · refine ih _ _ _ _ (by omega) (hs1 _ ?_) hv
        have : c i % 1024 < 1024 := Nat.mod_lt _ (by decide)
        unfold bd
        rw [Int32.toInt_toInt64, qi (by omega)]
        omega
    split at hv
    · split at hv
      · cases hv
      split at hv
      · cases hv
      · exact ih _ _ _ _ (by omega) (hs1 _ (hw _ (by omega))) hv
    split at hv
    · cases hv
    split at hv
    · exact ih _ _ _ _ (by omega) (bd_up hs (bd_not (hs (t - 1) (by omega)))) hv
    split at hv
    · split at hv
      · exact ih _ _ _ _ (by omega) hs hv
      · exact ih _ _ _ _ (by omega) (fun j hj => hs j (by omega)) hv
    split at hv
    · split at hv
      · exact ih _ _ _ _ (by omega) hs hv
      · exact ih _ _ _ _ (by omega) (fun j hj => hs j (by omega)) hv
    split at hv
    · cases hv
    · split at hv
      · cases hv
      · rename_i x hx
        exact ih _ _ _ _ (by omega) (bd_up (fun j hj => hs j (by omega)) (bd_jn hx)) hv
theorem smC_ne {f1 f4 : Nat → Int32} {w : Nat → Int64} {j : Nat} (hw : ∀ a, a < 12 → bd (w a)) {v : Int64} (h : smC f1 f4 w j = some v) : ¬ v = 2000000000 := by
  have b := mc_bd hw _ _ _ _ _ (Nat.le_refl _) (fun j hj => by omega) h
  intro q
  subst q
  exact absurd b (by unfold bd; decide)
/-- the law in force: what it tells by these words -/
def lawT (S : tSH) (I : tHI) (w : Nat → Int64) (kd : Int32) : Option Int64 := match V8_inForce S I (fun _ _ => 0) 1 with
  | none => none
  | some p => toldC (I (p + 1)) (I (p + 2)) (I (p + 4)) w kd (I p 4).toNatClampNeg
def lawB (S : tSH) (I : tHI) (w : Nat → Int64) : Bool := match V8_inForce S I (fun _ _ => 0) 1 with
  | none => false
  | some p => banC (I (p + 1)) (I (p + 2)) (I (p + 4)) w (I p 4).toNatClampNeg
section LD
variable {n : Nat} {S : tSH} {I : tHI} {J : tHJ} {p : Nat} {r : Nat → Int32} {at0 : Nat} {w : Nat → Int64}
/-- what the class's Judge.tell comes to without a law -/
def wout (W : Nat → Int32) (kd : Int32) : Int32 := if kd = 0 then (if 0 < ((600 + (20 * (W 3))) + (W 5)) then ((600 + (20 * (W 3))) + (W 5)) else 0) else if kd = 1 then (if 0 < ((2000 + (10 * (W 4))) - (W 5)) then ((2000 + (10 * (W 4))) - (W 5)) else 0) else if kd = 2 then 60 else if kd = 3 then ((((W 2) * 5) + ((W 3) / 20)) - (W 6)) else (W 1) / 10
theorem sp_without {kd : Nat} (hkd : kd ≤ 4) {k : Int32 → tHI → tHJ → Prop} (h : k (wout (I 49) (nI kd)) I J) : F2_without n S I J (nI kd) k := by
  unfold F2_without
  have : kd = 0 ∨ kd = 1 ∨ kd = 2 ∨ kd = 3 ∨ kd = 4 := by omega
  rcases this with rfl | rfl | rfl | rfl | rfl
  · exact ⟨fun _ => h, fun q => absurd q (by decide), fun q => absurd q (by decide), fun q => absurd q (by decide), fun q => absurd (sw_out (lo := 0) (n := 4) (by decide) (by decide) q) (by decide)⟩
  · exact ⟨fun q => absurd q (by decide), fun _ => h, fun q => absurd q (by decide), fun q => absurd q (by decide), fun q => absurd (sw_out (lo := 0) (n := 4) (by decide) (by decide) q) (by decide)⟩
  · exact ⟨fun q => absurd q (by decide), fun q => absurd q (by decide), fun _ => h, fun q => absurd q (by decide), fun q => absurd (sw_out (lo := 0) (n := 4) (by decide) (by decide) q) (by decide)⟩
  · exact ⟨fun q => absurd q (by decide), fun q => absurd q (by decide), fun q => absurd q (by decide), fun _ => h, fun q => absurd (sw_out (lo := 0) (n := 4) (by decide) (by decide) q) (by decide)⟩
  · exact ⟨fun q => absurd q (by decide), fun q => absurd q (by decide), fun q => absurd q (by decide), fun q => absurd q (by decide), fun _ => h⟩
def tellV (o : Option Int64) (kd : Int32) (W : Nat → Int32) : Int32 := match o with
  | some v => V2_nearest kd v
  | none => wout W kd
theorem kindOf_at {m j : Nat} (hm : m ≤ 12) (hj : j < m) (h4 : I p 4 = nI m) (hl : sL S (p + 2) = m) : V6_kindOf S I J p (nI j) = I (p + 2) j ∧ P6_kindOf S I J p (nI j) := by
  unfold V6_kindOf P6_kindOf
  have a1 : ¬ nI j < 0 := by rw [Int32.lt_iff_toInt_lt, qi (by omega)]; have z : (0 : Int32).toInt = 0 := rfl; omega
  have a2 : ¬ nI m ≤ nI j := fun y => by have := (qle (by omega) (by omega)).mp y; omega
  rw [h4, hl, if_neg a1, if_neg a2, qn (by omega)]
  exact ⟨rfl, fun _ => trivial, fun _ => ⟨fun y => absurd y a2, fun _ => ⟨(qin (by omega)).mpr (by omega), trivial⟩⟩⟩
theorem tell_L (h47 : sL S 47 = 52) (hn : 400 < n) (h : LRel S p (I p) (I (p + 1)) (I (p + 2)) (I (p + 4)) r at0) {kd : Nat} (hkd : kd ≤ 4) (h49 : sL S 49 = 12) (hw : ∀ a, a < 12 → (I 49 a).toInt64 = w a) (hb : ∀ a, a < 12 → bd (w a)) {k : Int32 → tHI → tHJ → Prop} : ∀ (j f : Nat) (J : tHJ), j < f → nI j ≤ I p 4 → j < 100 → (∀ J' : tHJ, (∀ x, x ≠ 47 → J' x = J x) → k (tellV (toldC (I (p + 1)) (I (p + 2)) (I (p + 4)) w (nI kd) j) (nI kd) (I 49)) I J') → F2_tell_L85 n S k f I J (nI kd) (some p) (nI j - 1) := by
  intro j
  induction j with
  | zero =>
    intro f J hf hj hj2 hk
    obtain ⟨f, rfl⟩ : ∃ g, f = g + 1 := ⟨f - 1, by omega⟩
    show F2_tell_85 n S k (F2_tell_L85 n S k f) I J (nI kd) (some p) (nI 0 - 1)
    unfold F2_tell_85
    refine ⟨fun q => (by cases q), fun a8 e => ⟨fun _ => ?_, fun q => absurd (by decide) q⟩⟩
    unfold F2_tell_167
    exact sp_without hkd (hk J (fun _ _ => rfl))
  | succ j ih =>
    intro f J hf hj hj2 hk
    obtain ⟨f, rfl⟩ : ∃ g, f = g + 1 := ⟨f - 1, by omega⟩
    rw [nI_pred]
    show F2_tell_85 n S k (F2_tell_L85 n S k f) I J (nI kd) (some p) (nI j)
    unfold F2_tell_85
    refine ⟨fun q => (by cases q), fun a8 e => ?_⟩
    cases e
    obtain ⟨hp, m, ln, mn, c, op, ar, ⟨b1, b2, b3⟩, ⟨e4, e5, e6⟩, ⟨l1, l2, l3, l4⟩, -⟩ := id h
    have hjm : j < m := by rw [e4] at hj; have := (qle (by omega) (by omega)).mp hj; omega
    have hlt : nI j < I p 4 := by rw [e4]; exact (qlt (by omega) (by omega)).mpr hjm
    obtain ⟨kv, kp⟩ := kindOf_at (S := S) (I := I) (J := J) (p := p) b1 hjm e4 l2
    refine ⟨fun q => ?_, fun _ => ⟨kp, ?_, ?_⟩⟩
    · rw [Int32.lt_iff_toInt_lt, qi (by omega)] at q
      have z : (0 : Int32).toInt = 0 := rfl
      omega
    · intro q
      rw [kv] at q
      unfold F2_tell_161
      refine ⟨fun g => (by cases g), fun a16 g => ?_⟩
      cases g
      have e : nI j + -1 = nI j - 1 := (Int32.sub_eq_add_neg _ _).symm
      rw [e]
      refine ih f J (by omega) (by rw [e4]; exact (qle (by omega) (by omega)).mpr (by omega)) (by omega) (fun J' hJ' => ?_)
      have hk := hk J' hJ'
      simp only [toldC, q, false_and, if_false] at hk
      exact hk
    · intro q
      rw [kv] at q
      refine sp_isSo h47 hn h hlt (by omega) h49 hw (fun J1 hJ1 => ?_)
      intro _
      refine ⟨fun g => ?_, fun g => ?_⟩
      · have ht : tstC (I (p + 1)) (I (p + 4)) w j = true := by
          cases y : tstC (I (p + 1)) (I (p + 4)) w j with
          | true => rfl
          | false => rw [y] at g; exact absurd (if_neg (by decide)) g
        have h5 : ¬ I (p + 2) j = 5 := by
          rw [q]
          intro y
          have := (qeq (a := kd) (b := 5) (by omega) (by omega)).mp y
          omega
        refine sp_sumOf h47 hn h hlt (by omega) h5 h49 hw (fun J2 hJ2 => ?_)
        simp only [lg_cmp_eq]
        have hkk : ∀ J' : tHJ, (∀ x, x ≠ 47 → J' x = J2 x) → k (tellV (match smC (I (p + 1)) (I (p + 4)) w j with | some v => some v | none => toldC (I (p + 1)) (I (p + 2)) (I (p + 4)) w (nI kd) j) (nI kd) (I 49)) I J' := fun J' hJ' => by
          have hk := hk J' (fun x hx => by rw [hJ' x hx, hJ2 x hx, hJ1 x hx])
          simp only [toldC, q, ht, true_and, if_true] at hk
          exact hk
        cases hs : smC (I (p + 1)) (I (p + 4)) w j with
        | none =>
          rw [hs] at hkk
          refine ⟨fun _ => ?_, fun y => absurd rfl y⟩
          unfold F2_tell_161
          refine ⟨fun g => (by cases g), fun a16 g => ?_⟩
          cases g
          have e : nI j + -1 = nI j - 1 := (Int32.sub_eq_add_neg _ _).symm
          rw [e]
          exact ih f J2 (by omega) (by rw [e4]; exact (qle (by omega) (by omega)).mpr (by omega)) (by omega) hkk
        | some v =>
          rw [hs] at hkk
          exact ⟨fun y => absurd y (smC_ne hb hs), fun _ => hkk J2 (fun _ _ => rfl)⟩
      · have ht : tstC (I (p + 1)) (I (p + 4)) w j = false := by
          cases y : tstC (I (p + 1)) (I (p + 4)) w j with
          | true => rw [y] at g; exact absurd g (by rw [if_pos rfl]; decide)
          | false => rfl
        unfold F2_tell_161
        refine ⟨fun g => (by cases g), fun a16 g => ?_⟩
        cases g
        have e : nI j + -1 = nI j - 1 := (Int32.sub_eq_add_neg _ _).symm
        rw [e]
        refine ih f J1 (by omega) (by rw [e4]; exact (qle (by omega) (by omega)).mpr (by omega)) (by omega) (fun J' hJ' => ?_)
        have hk := hk J' (fun x hx => by rw [hJ' x hx, hJ1 x hx])
        simp only [toldC, ht, Bool.false_eq_true, and_false, if_false] at hk
        exact hk
end LD
