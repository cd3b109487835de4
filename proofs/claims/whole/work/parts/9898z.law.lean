/-! law: the step -/
theorem CDe.at {nw a c h : Nat} {f : Nat → Int32} {v : tV} (d : CDe nw f a c h v) : DC (fun i => (f i).toNatClampNeg) nw a c h v := by
  obtain ⟨g, h1, h2⟩ := d
  refine h2.cg fun i i1 i2 => ?_
  obtain ⟨e1, e2⟩ := h1 i i1 i2
  show (f i).toNatClampNeg = g i
  rw [e1, qn (by omega)]
theorem LRel_new {S : tSH} {p M len nc at0 : Nat} {f0 f1 f2 f3 f4 f71 r : Nat → Int32} {g rr : Nat → Nat} {cs : List aC5} (hp : ty S p 6 ∧ 89 ≤ p ∧ p + 5 ≤ sZ S) (hok : ∀ c, c ∈ cs → CLk 0 c) (hM : cs.length = M) (hM12 : M ≤ 12) (hlen : len ≤ 400) (hnc : nc ≤ 400) (h0 : f0 4 = nI M ∧ f0 5 = nI len ∧ r (at0 + 1) = nI M) (hl : sL S (p + 1) = len ∧ sL S (p + 2) = M ∧ sL S (p + 3) = M ∧ sL S (p + 4) = 3 * M + 1) (hw : CWd f1 len) (hc : ∀ j c, cs[j]? = some c → CRel 12 f1 f2 f3 f4 j len c) (hg : ∀ i, i < nc → r (at0 + 98 + 2 * i) = nI (g i) ∧ r (at0 + 98 + 2 * i + 1) = nI (rr i) ∧ g i < 40 ∧ rr i < 100000) (hr : ∀ k, k < 8 * M → r (at0 + 2 + k) = f71 k) (hm : ∀ j c, cs[j]? = some c → MRl f71 g rr j nc c) : LRel S p f0 f1 f2 f4 r at0 := by
  refine ⟨hp, M, len, nc, fun i => (f1 i).toNatClampNeg, g, rr, ⟨hM12, hlen, hnc⟩, h0, hl, fun i hi => ?_, hg, fun j hj => ?_⟩
  · obtain ⟨w, w1, w2⟩ := hw i hi
    show f1 i = nI (f1 i).toNatClampNeg ∧ (f1 i).toNatClampNeg < 13312
    rw [w1, qn (by omega)]
    exact ⟨rfl, w2⟩
  · obtain ⟨c, hcj⟩ : ∃ c, cs[j]? = some c := ⟨cs[j]'(by omega), List.getElem?_eq_getElem (by omega)⟩
    have hk := hok c (List.mem_of_getElem? hcj)
    obtain ⟨a0, a1, a2, a3, c1, c2, ⟨c3, c4, c5, c6⟩, c7, c8, c9, c10⟩ := hc j c hcj
    obtain ⟨b3, b4, b5, b6, m1, ⟨m2, m3, m4, m5⟩, ⟨m6, m7⟩, m8, m9⟩ := hm j c hcj
    obtain ⟨k1, k2, k3, k4, k5, k6, k7⟩ := hk
    have l1 := c8.le; have l2 := c9.le; have l3 := c10.le; have l4 := m8.le; have l5 := m9.le
    refine ⟨c.1, a0, a1, a2, a3, b3, b4, b5, b6, k1, c1, ?_, ⟨c3, c4, c5, c6⟩, ⟨l1, l2, l3, c7⟩, ⟨?_, ?_, ?_, ?_⟩, ⟨l4, m6, l5, m7⟩, fun h5 => ?_, ?_⟩
    · have := hr (8 * j) (by omega)
      rw [this]; exact m1
    · rw [show at0 + 2 + 8 * j + 3 = at0 + 2 + (8 * j + 3) by omega, hr _ (by omega)]; exact m2
    · rw [show at0 + 2 + 8 * j + 4 = at0 + 2 + (8 * j + 4) by omega, hr _ (by omega)]; exact m3
    · rw [show at0 + 2 + 8 * j + 5 = at0 + 2 + (8 * j + 5) by omega, hr _ (by omega)]; exact m4
    · rw [show at0 + 2 + 8 * j + 6 = at0 + 2 + (8 * j + 6) by omega, hr _ (by omega)]; exact m5
    · obtain ⟨v, ev⟩ := k4 h5
      rw [ev] at c8 m8
      obtain ⟨hh, d1, d2⟩ := c8
      exact ⟨d2.lt, SpE.of d2.at m8 (by omega) (by omega)⟩
    · cases ho : c.2.2.2.2 with
      | none =>
        rw [ho] at c10 m9
        exact Or.inl ⟨c10, m9⟩
      | some v =>
        rw [ho] at c10 m9
        obtain ⟨hh, d1, d2⟩ := c10
        exact Or.inr ⟨d2.lt, DN.lt m9, SpE.of d2.at m9 (by omega) (by omega), SpB.of d2.at (by omega) (k7 v ho)⟩
-- the class's copy of its text
section CI
variable {I : tHI} {J : tHJ} {z : Nat}
theorem NI6_o {x : Nat} {v1 v2 : Int32} (h : x < z ∨ z + 4 < x) : NI6_init (uZI I z) (uZJ J z) z v1 v2 x = I x := by
  unfold NI6_init
  rw [uZI_n (by omega), uZI_n (by omega), uZI_n (by omega), uZI_n (by omega), uIn (by omega), uIn (by omega), uZI_n (by omega)]
theorem CI6_o {x : Nat} (h : x < z ∨ z + 4 < x) : CI6 I J 41 z x = I x := by
  unfold CI6
  rw [uIn (by omega), uIn (by omega), cpIn (by omega), cpIn (by omega), cpIn (by omega), cpIn (by omega), NI6_o h]
theorem CI6_4 : CI6 I J 41 z z 4 = I 41 4 := by
  unfold CI6
  rw [uIe, upn (by decide), uIe, upe]
theorem CI6_5 : CI6 I J 41 z z 5 = I 41 5 := by
  unfold CI6
  rw [uIe, upe]
theorem CI6_1 (hz : 46 ≤ z) {i : Nat} (h : i < (I 41 5).toNatClampNeg) : CI6 I J 41 z (z + 1) i = I 42 i := by
  unfold CI6
  rw [uIn (by omega), uIn (by omega), cpIn (by omega), cpIn (by omega), cpIn (by omega), cpIe, cpA0 h, NI6_o (by omega)]
theorem CI6_2 (hz : 46 ≤ z) {i : Nat} (h : i < (I 41 4).toNatClampNeg) : CI6 I J 41 z (z + 2) i = I 43 i := by
  unfold CI6
  rw [uIn (by omega), uIn (by omega), cpIn (by omega), cpIn (by omega), cpIe, cpA0 h, cpIn (by omega), NI6_o (by omega)]
theorem CI6_3 (hz : 46 ≤ z) {i : Nat} (h : i < (I 41 4).toNatClampNeg) : CI6 I J 41 z (z + 3) i = I 44 i := by
  unfold CI6
  rw [uIn (by omega), uIn (by omega), cpIn (by omega), cpIe, cpA0 h, cpIn (by omega), cpIn (by omega), NI6_o (by omega)]
theorem CI6_e (hz : 46 ≤ z) {i : Nat} (h : i < (I 41 4 * 3 + 1).toNatClampNeg) : CI6 I J 41 z (z + 4) i = I 45 i := by
  unfold CI6
  rw [uIn (by omega), uIn (by omega), cpIe, cpA0 h, cpIn (by omega), cpIn (by omega), cpIn (by omega), NI6_o (by omega)]
theorem NJ6_o {x : Nat} {v1 v2 : Int32} (h : x < z) : NJ6_init (uZI I z) (uZJ J z) z v1 v2 x = J x := by
  unfold NJ6_init
  rw [uZJ_n (by omega), uZJ_n (by omega), uZJ_n (by omega), uZJ_n (by omega), uZJ_n (by omega)]
end CI
/-- the parser has its tape -/
theorem TY.p2 {S : tSH} (h : TY S) : TY (uQ S 40 2 (some 38)) := by
  obtain ⟨hG, t0, h2⟩ := h
  have t40 : ty S 40 4 := tGr.off hG t0 (k := 6) rfl
  have t38 : ty S 38 9 := tGr.off hG t0 (k := 5) rfl
  refine ⟨tGr_uQ hG (fun t ht x hx => ?_), t0, h2⟩
  have e : t = 4 := ht.2.symm.trans t40.2
  subst e
  cases hx
  exact ⟨fun _ _ => t38, fun y => absurd y (by decide), fun y => absurd y (by decide)⟩
section ST
variable {n : Nat} {S : tSH} {I : tHI} {J : tHJ}
theorem Inv.tp2 (h : Inv S I J) : ∃ (z : Nat) (b : Nat → Nat), CTp b z (I 38) (I 39) ∧ MTp b z (I 61) (I 70) := by
  obtain ⟨z, h1, h2, h3, h4⟩ := h.2.2.2.1
  refine ⟨z, fun k => (I 39 k).toNatClampNeg, ⟨h1, h2, fun i hi => ?_⟩, ⟨h1, h3, fun i hi => ?_⟩⟩
  · obtain ⟨-, w, w1, w2⟩ := h4 i hi
    show I 39 i = nI (I 39 i).toNatClampNeg ∧ (I 39 i).toNatClampNeg < 256
    rw [w1, qn (by omega)]; exact ⟨rfl, w2⟩
  · obtain ⟨e, w, w1, w2⟩ := h4 i hi
    show I 70 i = nI (I 39 i).toNatClampNeg ∧ (I 39 i).toNatClampNeg < 256
    rw [← e, w1, qn (by omega)]; exact ⟨rfl, w2⟩
theorem RIm.p2 (h : RIm S I) {X : tHI} (e64 : X 64 = I 64) (e65 : X 65 = I 65) (e2 : ∀ x, 89 ≤ x → X x = I x) : RIm (uQ S 40 2 (some 38)) X := by
  have hq : ∀ x j, x ≠ 40 → sQ (uQ S 40 2 (some 38)) x j = sQ S x j := fun x j hx => by
    show (if x = 40 ∧ j = 2 then some 38 else S.1 x j) = S.1 x j
    rw [if_neg (fun y => hx y.1)]
  refine ⟨fun j hj => ?_, fun a ha => ?_⟩
  · rw [hq 33 j (by decide), e65]
    rcases h.1 j hj with q | ⟨a, q1, q2, q3, q4, q5, q6⟩
    · exact Or.inl q
    · refine Or.inr ⟨a, q1, q2, q3, q4, q5, ?_⟩
      rw [e64]
      exact q6.mv (fun i _ => e2 _ (by omega)) (fun j _ => hq _ _ (by omega)) (fun p p1 p2 _ => ⟨p1, e2 _ p2, e2 _ (by omega), e2 _ (by omega), e2 _ (by omega)⟩) (Nat.le_refl _) (fun _ _ => rfl)
  · rw [hq 33 0 (by decide)] at ha
    rw [hq 33 1 (by decide)]
    exact h.2 a ha
theorem RSt.p2 {r : Nat → Int32} (h : RSt S I 1 r) {X : tHI} (e : ∀ x, 1 ≤ x → x < 16 → X x = I x) (e2 : ∀ x, 89 ≤ x → X x = I x) : RSt (uQ S 40 2 (some 38)) X 1 r := by
  refine h.mv (fun i hi => e _ (by omega) (by omega)) (fun j _ => ?_) (fun p p1 p2 _ => ⟨p1, e2 _ p2, e2 _ (by omega), e2 _ (by omega), e2 _ (by omega)⟩) (Nat.le_refl _) (fun _ _ => rfl)
  show (if 1 + 15 = 40 ∧ j = 2 then some 38 else S.1 (1 + 15) j) = S.1 (1 + 15) j
  rw [if_neg (fun y => absurd y.1 (by decide))]
/-- a text refused -/
theorem Inv.ref (h : Inv S I J) {S' : tSH} (hS : S' = S ∨ S' = uQ S 40 2 (some 38)) {X : tHI} {J' : tHJ} {v : Int32} (eo : ∀ x, x ∉ [0, 38, 40, 41, 42, 43, 44, 45, 59, 61, 62, 71, 72, 73, 74, 75, 87] → X x = I x) (h13' : X 0 13 = I 0 13) (e17 : X 0 17 = I 0 17) (e18 : X 0 18 = stv v) (e59 : X 59 = rfv (I 59) v) (e62 : X 62 = rfv (I 62) v) (e61 : ∀ y, y ∈ [8, 11, 41, 57] → X 61 y = I 61 y) (e1 : X 61 1 = stv v) (e40 : X 40 1 = X 61 18) (e16 : X 0 16 = X 61 53) (h38 : X 38 1 = 0) (h13 : X 61 13 = 0) (h20 : X 61 20 = 0) (hJ : KpJ J J') : Inv S' X J' := by
  have e89 : ∀ x, 89 ≤ x → X x = I x := fun x hx => eo x (fun e => by
    have : x = 0 ∨ x = 38 ∨ x = 40 ∨ x = 41 ∨ x = 42 ∨ x = 43 ∨ x = 44 ∨ x = 45 ∨ x = 59 ∨ x = 61 ∨ x = 62 ∨ x = 71 ∨ x = 72 ∨ x = 73 ∨ x = 74 ∨ x = 75 ∨ x = 87 := by simpa using e
    omega)
  have eI : ∀ x, 1 ≤ x → x < 16 → X x = I x := fun x h1 h2 => eo x (fun e => by
    have : x = 0 ∨ x = 38 ∨ x = 40 ∨ x = 41 ∨ x = 42 ∨ x = 43 ∨ x = 44 ∨ x = 45 ∨ x = 59 ∨ x = 61 ∨ x = 62 ∨ x = 71 ∨ x = 72 ∨ x = 73 ∨ x = 74 ∨ x = 75 ∨ x = 87 := by simpa using e
    omega)
  have e63 : X 63 = I 63 := eo 63 (by decide)
  have hM := RMs.txt (X := X) h.2.2.2.2.2.1 (eo 60 (by decide)) (eo 88 (by decide)) h13' e17 e18 e59 e62 (e61 11 (by decide)) (e61 57 (by decide)) e1 e40 e16
  rcases hS with c | c
  · subst c
    exact h.asm h.1 (by rw [e63]; exact h.2.1.cg (fun i hi => eI _ (by omega) (by omega)) e89) (h.2.2.2.2.1.cg (eo 64 (by decide)) (eo 65 (by decide)) e89) hM h38 h13 (eo 34 (by decide)) (eo 35 (by decide)) (eo 66 (by decide)) (eo 67 (by decide)) (e61 8 (by decide)) (by rw [e63]) (by rw [e63]) (fun _ _ _ => by rw [e63]) (fun _ _ _ => by rw [e63]) h20 (e61 41 (by decide)) (eo 49 (by decide)) (eo 50 (by decide)) hJ
  · subst c
    exact h.asm h.1.p2 (by rw [e63]; exact h.2.1.p2 eI e89) (h.2.2.2.2.1.p2 (eo 64 (by decide)) (eo 65 (by decide)) e89) hM h38 h13 (eo 34 (by decide)) (eo 35 (by decide)) (eo 66 (by decide)) (eo 67 (by decide)) (e61 8 (by decide)) (by rw [e63]) (by rw [e63]) (fun _ _ _ => by rw [e63]) (fun _ _ _ => by rw [e63]) h20 (e61 41 (by decide)) (eo 49 (by decide)) (eo 50 (by decide)) hJ
end ST
