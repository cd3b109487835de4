/-! what a law tells, by the model -/
/-- what may have changed in the model's own scratch -/
def MK (I I' : tHI) : Prop := (∀ x, x ≠ 61 → I' x = I x) ∧ ∀ y, y ∉ [34, 38, 42, 43, 44] → I' 61 y = I 61 y
def MJ (J J' : tHJ) : Prop := (∀ x, x ≠ 61 → x ≠ 79 → x ≠ 81 → J' x = J x) ∧ ∀ y, y ≠ 39 → y ≠ 40 → J' 61 y = J 61 y
theorem MK.rf (I : tHI) : MK I I := ⟨fun _ _ => rfl, fun _ _ => rfl⟩
theorem MJ.rf (J : tHJ) : MJ J J := ⟨fun _ _ _ _ => rfl, fun _ _ _ => rfl⟩
theorem MK.trans {I I' I'' : tHI} (h : MK I I') (g : MK I' I'') : MK I I'' := ⟨fun x q => (g.1 x q).trans (h.1 x q), fun x q => (g.2 x q).trans (h.2 x q)⟩
theorem MJ.trans {I I' I'' : tHJ} (h : MJ I I') (g : MJ I' I'') : MJ I I'' := ⟨fun x a b c => (g.1 x a b c).trans (h.1 x a b c), fun x a b => (g.2 x a b).trans (h.2 x a b)⟩
section LM
variable {n : Nat} {S : tSH} {p at0 : Nat} {w : Nat → Int64} {f0 f1 f2 f4 : Nat → Int32}
/-- the model's set, as the words are -/
def setOK (J : tHJ) (w : Nat → Int64) : Prop := ∀ o, 1 ≤ o → o ≤ 12 → J 79 o = w (o - 1)
theorem sp_reckL {I : tHI} {J : tHJ} {k : tHI → tHJ → Prop} {a e mn : Nat} {op ar : Nat → Nat} (hn : 400 < n) (h20 : I 61 20 = 0) (hat : I 61 34 = nI at0) (hat2 : at0 + 900 ≤ 5510) (hmn : mn ≤ 400) (h63 : ∀ i, i < mn → I 63 (at0 + 98 + 2 * i) = nI (op i) ∧ I 63 (at0 + 98 + 2 * i + 1) = nI (ar i) ∧ op i < 40 ∧ ar i < 100000) (hae : a ≤ e) (he : e ≤ mn) (hs : setOK J w) {r : Option Int64} (hm : ∀ s, mm op ar (lfL w) e a 0 s = some r) (hk : ∀ (I' : tHI) (J' : tHJ), (∀ x, x ≠ 61 → I' x = I x) → (∀ y, y ≠ 38 → I' 61 y = I 61 y) → (∀ x, x ≠ 81 → x ≠ 61 → J' x = J x) → (∀ y, y ≠ 39 → J' 61 y = J 61 y) → rkE r I' J' → k I' J') : F12_reckonAll n S I J (nI a) (nI e) k := by
  unfold F12_reckonAll
  exact reck_LL (n := n) (S := S) (I0 := I) (J0 := J) (at0 := at0) (op := op) (ar := ar) (w := w) h20 (by omega) (fun i hi => (h63 i (by omega)).2.2) hat (by omega) (fun i hi => ⟨(h63 i (by omega)).1, (h63 i (by omega)).2.1⟩) hs hk n a 0 _ J (fun x hx => uIn hx) (fun y hy => by rw [uIe]; exact upn hy) (fun _ _ => rfl) (by omega) (by omega) (by omega) (by rw [uIe, upe]) (hm _)
/-- whether the j-th clause holds, and its sum -/
def holdsM (f1 f2 f4 : Nat → Int32) (w : Nat → Int64) (j : Nat) : Bool := tstC f1 f4 w j && (decide (f2 j = 5) || (smC f1 f4 w j).isSome)
theorem sp_isSoM {I : tHI} {J : tHJ} (hn : 400 < n) (h : LRel S p f0 f1 f2 f4 (I 63) at0) (h20 : I 61 20 = 0) (hat : I 61 34 = nI at0) (hat2 : at0 + 900 ≤ 5510) (hs : setOK J w) {j : Nat} (hj : nI j < f0 4) (hj2 : j < 100) {k : Int32 → tHI → tHJ → Prop} (hk : ∀ (I' : tHI) (J' : tHJ), (∀ x, x ≠ 61 → I' x = I x) → (∀ y, y ≠ 38 → I' 61 y = I 61 y) → (∀ x, x ≠ 81 → x ≠ 61 → J' x = J x) → (∀ y, y ≠ 39 → y ≠ 40 → J' 61 y = J 61 y) → (holdsM f1 f2 f4 w j = true → f2 j ≠ 5 → ∀ v, smC f1 f4 w j = some v → J' 61 40 = v) → k (if holdsM f1 f2 f4 w j = true then 1 else 0) I' J') : F12_isSo n S I J (nI (at0 + 2 + 8 * j)) k := by
  obtain ⟨-, m, ln, mn, c, op, ar, ⟨b1, b2, b3⟩, ⟨e4, e5, e6⟩, ⟨l1, l2, l3, l4⟩, hc, ho, hcl⟩ := h
  have hjm : j < m := by rw [e4] at hj; exact (qlt (by omega) (by omega)).mp hj
  obtain ⟨kd, a0, a1, a2, a3, d3, d4, d5, d6, g1, g2, g3, ⟨q0, q1, q2, q3⟩, ⟨o1, o2, o3, o4⟩, ⟨i3, i4, i5, i6⟩, ⟨u1, u2, u3, u4⟩, g8, g9⟩ := hcl j hjm
  generalize hz : at0 + 2 + 8 * j = z at *
  have hz2 : z + 7 < 5510 := by omega
  have ad : ∀ t : Nat, nI z + (OfNat.ofNat t : Int32) = nI (z + t) := fun t => nI_add z t
  have y3 : nI z + 3 = nI (z + 3) := ad 3
  have y4 : nI z + 4 = nI (z + 4) := ad 4
  have y5 : nI z + 5 = nI (z + 5) := ad 5
  have y6 : nI z + 6 = nI (z + 6) := ad 6
  have hsm : smC f1 f4 w j = mc c w 12 a1 a0 0 (fun _ => 0) := by
    unfold smC
    rw [q0, q1, qn (show a0 < 2147483648 by omega), qn (show a1 < 2147483648 by omega), mc_cg (c := fun i => (f1 i).toNatClampNeg) (c' := c) (a1 - a0) a0 0 (fun _ => 0) (Nat.le_refl _) (fun i x y => by rw [(hc i (by omega)).1, qn (by have := (hc i (by omega)).2; omega)])]
  have htst : tstC f1 f4 w j = decide (a2 = a3 ∨ mc c w 12 a3 a2 0 (fun _ => 0) = some 1) := by
    unfold tstC
    rw [q2, q3, qn (show a2 < 2147483648 by omega), qn (show a3 < 2147483648 by omega), mc_cg (c := fun i => (f1 i).toNatClampNeg) (c' := c) (a3 - a2) a2 0 (fun _ => 0) (Nat.le_refl _) (fun i x y => by rw [(hc i (by omega)).1, qn (by have := (hc i (by omega)).2; omega)])]
  -- the sum, once the if holds
  have tail : ∀ (I1 : tHI) (J1 : tHJ), (∀ x, x ≠ 61 → I1 x = I x) → (∀ y, y ≠ 38 → I1 61 y = I 61 y) → (∀ x, x ≠ 81 → x ≠ 61 → J1 x = J x) → (∀ y, y ≠ 39 → y ≠ 40 → J1 61 y = J 61 y) → tstC f1 f4 w j = true → F12_isSo_59 n S k I1 J1 (nI z) := by
    intro I1 J1 h1 h2 h3 h4 ht
    unfold F12_isSo_59
    rw [y3, y4, qn (show z < 2147483648 by omega), qn (show z + 3 < 2147483648 by omega), qn (show z + 4 < 2147483648 by omega), h1 63 (by decide), g3, i3, i4]
    refine ⟨(qin (by omega)).mpr (by omega), fun q => ?_, fun q => ?_⟩
    · have q : kd = 5 := (qeq (b := 5) (by omega) (by omega)).mp q
      have hh : holdsM f1 f2 f4 w j = true := by simp [holdsM, ht, g2, q]; exact Or.inl rfl
      have := hk I1 J1 h1 h2 h3 h4 (fun _ g => absurd (by rw [g2, q]; rfl) g)
      rw [hh, if_pos rfl] at this
      exact this
    · have q : kd ≠ 5 := fun y => q (by rw [y]; rfl)
      have q5 : f2 j ≠ 5 := by rw [g2]; intro y; exact q ((qeq (b := 5) (by omega) (by omega)).mp y)
      obtain ⟨hlt, hE⟩ := g8 q
      refine ⟨(qin (by omega)).mpr (by omega), (qin (by omega)).mpr (by omega), ?_⟩
      refine sp_reckL (w := w) (at0 := at0) (op := op) (ar := ar) (mn := mn) hn (by rw [h2 20 (by decide)]; exact h20) (by rw [h2 34 (by decide)]; exact hat) hat2 b3 (fun i hi => by rw [h1 63 (by decide)]; exact ho i hi) u1 u2 (fun o p1 p2 => by rw [h3 79 (by decide) (by decide)]; exact hs o p1 p2) (r := smC f1 f4 w j) (fun s => by rw [hsm]; exact hE w (fun _ => 0) s) (fun I' J' x1 x2 x3 x4 x5 => ?_)
      have key := hk I' (uJ J' 61 40 (J' 61 39)) (fun x hx => by rw [x1 x hx, h1 x hx]) (fun y hy => by rw [x2 y hy, h2 y hy]) (fun x p1 p2 => by rw [uJn p2, x3 x p1 p2, h3 x p1 p2]) (fun y p1 p2 => by rw [uJe, upJn p2, x4 y p1, h4 y p1 p2])
      cases hv : smC f1 f4 w j with
      | none =>
        rw [hv] at x5
        have hh : holdsM f1 f2 f4 w j = false := by simp [holdsM, hv, q5]
        rw [if_neg x5]
        have := key (fun g => by rw [hh] at g; cases g)
        rw [hh, if_neg (by decide)] at this
        exact this
      | some v =>
        rw [hv] at x5
        have hh : holdsM f1 f2 f4 w j = true := by simp [holdsM, hv, ht]
        rw [if_pos x5.1]
        have := key (fun _ _ v' hv' => by rw [uJe, upJe, x5.2]; exact Option.some.inj (hv.symm.trans hv'))
        rw [hh, if_pos rfl] at this
        exact this
  have no : ∀ (I1 : tHI) (J1 : tHJ), (∀ x, x ≠ 61 → I1 x = I x) → (∀ y, y ≠ 38 → I1 61 y = I 61 y) → (∀ x, x ≠ 81 → x ≠ 61 → J1 x = J x) → (∀ y, y ≠ 39 → y ≠ 40 → J1 61 y = J 61 y) → tstC f1 f4 w j = false → k 0 I1 J1 := by
    intro I1 J1 h1 h2 h3 h4 ht
    have hh : holdsM f1 f2 f4 w j = false := by simp [holdsM, ht]
    have := hk I1 J1 h1 h2 h3 h4 (fun g => by rw [hh] at g; cases g)
    rw [hh, if_neg (by decide)] at this
    exact this
  unfold F12_isSo F12_isSo_57
  rw [y5, y6, qn (show z + 5 < 2147483648 by omega), qn (show z + 6 < 2147483648 by omega), i5, i6]
  refine ⟨(qin (by omega)).mpr (by omega), (qin (by omega)).mpr (by omega), fun q => ?_, fun q => ?_⟩
  · have q : d6 ≤ d5 := (qle (by omega) (by omega)).mp q
    have ha : a2 = a3 := by
      rcases g9 with ⟨x, -⟩ | ⟨-, x, -⟩
      · exact x
      · omega
    exact tail I J (fun _ _ => rfl) (fun _ _ => rfl) (fun _ _ _ => rfl) (fun _ _ _ => rfl) (by rw [htst]; exact decide_eq_true (Or.inl ha))
  · have q : ¬ d6 ≤ d5 := fun y => q ((qle (by omega) (by omega)).mpr y)
    refine ⟨(qin (by omega)).mpr (by omega), (qin (by omega)).mpr (by omega), ?_⟩
    obtain ⟨hal, -, hE, hB⟩ := g9.resolve_left (fun y => q (by omega))
    refine sp_reckL (w := w) (at0 := at0) (op := op) (ar := ar) (mn := mn) hn h20 hat hat2 b3 ho u3 u4 hs (r := mc c w 12 a3 a2 0 (fun _ => 0)) (fun s => hE w (fun _ => 0) s) (fun I' J' x1 x2 x3 x4 x5 => ?_)
    simp only [lg_cmp_eq]
    have x4' : ∀ y, y ≠ 39 → y ≠ 40 → J' 61 y = J 61 y := fun y p1 _ => x4 y p1
    cases hv : mc c w 12 a3 a2 0 (fun _ => 0) with
    | none =>
      rw [hv] at x5
      refine ⟨fun _ => no I' J' x1 x2 x3 x4' ?_, fun y => absurd y x5⟩
      rw [htst, hv]
      exact decide_eq_false (by simp; omega)
    | some v =>
      rw [hv] at x5
      refine ⟨fun y => absurd x5.1 y, fun _ => ⟨fun y => ?_, fun y => ?_⟩⟩
      · rw [x5.2] at y
        refine tail I' J' x1 x2 x3 x4' ?_
        rw [htst, hv]
        rcases hB w _ v hv with g | g
        · exact absurd g y
        · subst g; exact decide_eq_true (Or.inr rfl)
      · rw [x5.2] at y
        subst y
        refine no I' J' x1 x2 x3 x4' ?_
        rw [htst, hv]
        exact decide_eq_false (by simp; omega)
/-- told so far -/
def tld (o : Option Int64) (wo : Int64) : Int64 := match o with
  | some v => v
  | none => wo
theorem tells_L {wo : Int64} {kd : Nat} (hkd : kd ≤ 5) {m : Nat} (hm : f0 4 = nI m) (hm2 : m ≤ 12) {I0 : tHI} {J0 : tHJ} (hn : 400 < n) (h : LRel S p f0 f1 f2 f4 (I0 63) at0) (h20 : I0 61 20 = 0) (hat : I0 61 34 = nI at0) (hat2 : at0 + 900 ≤ 5510) (hs : setOK J0 w) {k : Int64 → tHI → tHJ → Prop} (hk : ∀ (I' : tHI) (J' : tHJ), (∀ x, x ≠ 61 → I' x = I0 x) → (∀ y, y ≠ 38 → I' 61 y = I0 61 y) → (∀ x, x ≠ 81 → x ≠ 61 → J' x = J0 x) → (∀ y, y ≠ 39 → y ≠ 40 → J' 61 y = J0 61 y) → k (if kd = 5 then (if banC f1 f2 f4 w m = true then 1 else wo) else tld (toldC f1 f2 f4 w (nI kd) m) wo) I' J') : ∀ (d f i : Nat) (I : tHI) (J : tHJ), i + d = m → d < f → (∀ x, x ≠ 61 → I x = I0 x) → (∀ y, y ≠ 38 → I 61 y = I0 61 y) → (∀ x, x ≠ 81 → x ≠ 61 → J x = J0 x) → (∀ y, y ≠ 39 → y ≠ 40 → J 61 y = J0 61 y) → F12_tells_L80 n S k f I J (nI kd) (if kd = 5 then (if banC f1 f2 f4 w i = true then 1 else wo) else tld (toldC f1 f2 f4 w (nI kd) i) wo) (nI i) := by
  obtain ⟨-, m', ln, mn, c, op, ar, ⟨b1, b2, b3⟩, ⟨e4, e5, e6⟩, -, -, -, hcl⟩ := id h
  have em : m' = m := (qeq (by omega) (by omega)).mp (e4.symm.trans hm)
  subst em
  intro d
  induction d with
  | zero =>
    intro f i I J hi hf h1 h2 h3 h4
    obtain ⟨f, rfl⟩ : ∃ g, f = g + 1 := ⟨f - 1, by omega⟩
    have : i = m' := by omega
    subst this
    show F12_tells_80 n S k (F12_tells_L80 n S k f) I J (nI kd) _ (nI i)
    unfold F12_tells_80
    have y1 : nI at0 + 1 = nI (at0 + 1) := nI_1 _
    rw [h2 34 (by decide), hat, y1, qn (show at0 + 1 < 2147483648 by omega), h1 63 (by decide), e6]
    exact ⟨(qin (by omega)).mpr (by omega), fun _ => hk I J h1 h2 h3 h4, fun q => absurd ((qle (by omega) (by omega)).mpr (Nat.le_refl i)) q⟩
  | succ d ih =>
    intro f i I J hi hf h1 h2 h3 h4
    obtain ⟨f, rfl⟩ : ∃ g, f = g + 1 := ⟨f - 1, by omega⟩
    show F12_tells_80 n S k (F12_tells_L80 n S k f) I J (nI kd) _ (nI i)
    unfold F12_tells_80 F12_tells_145
    have y1 : nI at0 + 1 = nI (at0 + 1) := nI_1 _
    have y2 : nI at0 + 2 + 8 * nI i = nI (at0 + 2 + 8 * i) := by rw [ql 2, ql 8, qmul, nI_add, nI_add]
    obtain ⟨kc, a0, a1, a2, a3, d3, d4, d5, d6, g1, g2, g3, -⟩ := hcl i (by omega)
    rw [h2 34 (by decide), hat, y1, y2, qn (show at0 + 1 < 2147483648 by omega), qn (show at0 + 2 + 8 * i < 2147483648 by omega), h1 63 (by decide), e6, g3, nI_1]
    refine ⟨(qin (by omega)).mpr (by omega), fun q => ?_, fun _ => ⟨(qin (by omega)).mpr (by omega), fun q => ?_, fun q => ?_⟩⟩
    · have := (qle (by omega) (by omega)).mp q; omega
    · have ne : ¬ f2 i = nI kd := by rw [g2]; exact q
      have e : (if kd = 5 then (if banC f1 f2 f4 w i = true then 1 else wo) else tld (toldC f1 f2 f4 w (nI kd) i) wo) = (if kd = 5 then (if banC f1 f2 f4 w (i + 1) = true then 1 else wo) else tld (toldC f1 f2 f4 w (nI kd) (i + 1)) wo) := by
        by_cases k5 : kd = 5
        · have ne5 : ¬ f2 i = 5 := by rw [k5] at ne; exact ne
          rw [if_pos k5, if_pos k5]
          simp [banC, ne5]
        · rw [if_neg k5, if_neg k5]
          simp [toldC, ne]
      rw [e]
      exact ih f (i + 1) I J (by omega) (by omega) h1 h2 h3 h4
    · have eq : f2 i = nI kd := by rw [g2]; exact q
      refine sp_isSoM (w := w) (f0 := f0) (f1 := f1) (f2 := f2) (f4 := f4) (p := p) hn (by rw [h1 63 (by decide)]; exact h) (by rw [h2 20 (by decide)]; exact h20) (by rw [h2 34 (by decide)]; exact hat) hat2 (fun o p1 p2 => by rw [h3 79 (by decide) (by decide)]; exact hs o p1 p2) (by rw [hm]; exact (qlt (by omega) (by omega)).mpr (by omega)) (by omega) (fun I' J' x1 x2 x3 x4 x5 => ?_)
      intro _
      have e : (if (if holdsM f1 f2 f4 w i = true then (1 : Int32) else 0) = 0 then (if kd = 5 then (if banC f1 f2 f4 w i = true then 1 else wo) else tld (toldC f1 f2 f4 w (nI kd) i) wo) else (if nI kd = 5 then 1 else J' 61 40)) = (if kd = 5 then (if banC f1 f2 f4 w (i + 1) = true then 1 else wo) else tld (toldC f1 f2 f4 w (nI kd) (i + 1)) wo) := by
        have e5' : nI kd = 5 ↔ kd = 5 := qeq (b := 5) (by omega) (by omega)
        by_cases k5 : kd = 5
        · have f5 : f2 i = 5 := by rw [eq, k5]; rfl
          have hh : holdsM f1 f2 f4 w i = tstC f1 f4 w i := by simp [holdsM, f5]
          rw [if_pos k5, if_pos k5, if_pos (e5'.mpr k5), hh]
          cases ht : tstC f1 f4 w i with
          | true => simp [banC, f5, ht]
          | false => simp [banC, ht]
        · have f5 : ¬ f2 i = 5 := by rw [eq]; exact fun y => k5 (e5'.mp y)
          rw [if_neg k5, if_neg k5, if_neg (fun y => k5 (e5'.mp y))]
          cases ht : tstC f1 f4 w i with
          | false => simp [holdsM, ht, toldC]
          | true =>
            cases hv : smC f1 f4 w i with
            | none => simp [holdsM, ht, hv, f5, toldC]
            | some v =>
              have hh : holdsM f1 f2 f4 w i = true := by simp [holdsM, ht, hv]
              rw [hh, x5 hh f5 v hv]
              simp [toldC, eq, ht, hv, tld]
      rw [e]
      exact ih f (i + 1) I' J' (by omega) (by omega) (fun x hx => by rw [x1 x hx, h1 x hx]) (fun y hy => by rw [x2 y hy, h2 y hy]) (fun x p1 p2 => by rw [x3 x p1 p2, h3 x p1 p2]) (fun y p1 p2 => by rw [x4 y p1 p2, h4 y p1 p2])
end LM
