/-! image and back, II -/
section IM
variable {n : Nat} {S : tSH} {I : tHI} {J : tHJ} {k : Int32 → tHI → tHJ → Prop}
theorem TY.of {S' : tSH} (h : TY S) (hG : tGr S') (et : ∀ x t, ty S x t → ty S' x t) (e2 : sZ S ≤ sZ S') (e3 : ∀ x, x < sZ S → sL S' x = sL S x) : TY S' := by
  obtain ⟨-, h1, h2, h3, h4, h5, h6, h7⟩ := h
  exact ⟨hG, et _ _ h1, et _ _ h2, Nat.le_trans h3 e2, by rw [e3 _ (by omega)]; exact h4, by rw [e3 _ (by omega)]; exact h5, by rw [e3 _ (by omega)]; exact h6, by rw [e3 _ (by omega)]; exact h7⟩
/-- the model: a row into an image -/
theorem imgM_L (hn : 6000 < n) {j : Nat} (hj : j < 2) (hk : ∀ X : tHI, (∀ x, x ≠ 64 → X x = I x) → (∀ i, i < 5510 → X 64 (5510 * j + i) = I 63 i) → (∀ y, (y < 5510 * j ∨ 5510 * j + 5510 ≤ y) → X 64 y = I 64 y) → k 0 (uI (uI X 65 j 1) 61 1 0) J) : ∀ (d f i : Nat) (X : tHI), i + d = 5510 → d < f → (∀ x, x ≠ 64 → X x = I x) → (∀ q, q < i → X 64 (5510 * j + q) = I 63 q) → (∀ y, (y < 5510 * j ∨ 5510 * j + 5510 ≤ y) → X 64 y = I 64 y) → F12_image_L23 n S k f X J (nI j) (nI i) := by
  intro d
  induction d with
  | zero =>
    intro f i X hi hf c1 c2 c3
    obtain ⟨f, rfl⟩ : ∃ z, f = z + 1 := ⟨f - 1, by omega⟩
    have : i = 5510 := by omega
    subst this
    show F12_image_23 n S k (F12_image_L23 n S k f) X J (nI j) (nI 5510)
    unfold F12_image_23
    rw [qn (by omega)]
    refine ⟨fun _ => ⟨(qin (by omega)).mpr hj, sp_tell (by decide) ?_⟩, fun z => absurd ((qle (a := 5510) (by omega) (by omega)).mpr (Nat.le_refl _)) z⟩
    rw [mS_p (by decide)]
    exact hk X c1 c2 c3
  | succ d ih =>
    intro f i X hi hf c1 c2 c3
    obtain ⟨f, rfl⟩ : ∃ z, f = z + 1 := ⟨f - 1, by omega⟩
    show F12_image_23 n S k (F12_image_L23 n S k f) X J (nI j) (nI i)
    unfold F12_image_23
    have e1 : 5510 * nI j + nI i = nI (5510 * j + i) := by rw [ql 5510, qmul, nI_add]
    rw [e1, qn (show i < 2147483648 by omega), qn (show 5510 * j + i < 2147483648 by omega), show nI i + 1 = nI (i + 1) from nI_add i 1]
    refine ⟨fun z => ?_, fun _ => ⟨(qin (by omega)).mpr (by omega), (qin (by omega)).mpr (by omega), ?_⟩⟩
    · exfalso; have := (qle (a := 5510) (by omega) (by omega)).mp z; omega
    · refine ih f (i + 1) _ (by omega) (by omega) (fun x hx => by rw [uIn hx]; exact c1 x hx) (fun q hq => ?_) (fun y hy => by rw [uIe, upn (by omega)]; exact c3 y hy)
      rw [uIe]
      by_cases g : q = i
      · subst g; rw [upe, c1 63 (by decide)]
      · rw [upn (by omega)]; exact c2 q (by omega)
theorem bakM_L (hn : 6000 < n) {j : Nat} (hj : j < 2) (hk : ∀ X : tHI, (∀ x, x ≠ 63 → X x = I x) → (∀ i, i < 5510 → X 63 i = I 64 (5510 * j + i)) → k 0 (uI (uI X 61 8 0) 61 1 0) J) : ∀ (d f i : Nat) (X : tHI), i + d = 5510 → d < f → (∀ x, x ≠ 63 → X x = I x) → (∀ q, q < i → X 63 q = I 64 (5510 * j + q)) → F12_back_L39 n S k f X J (nI j) (nI i) := by
  intro d
  induction d with
  | zero =>
    intro f i X hi hf c1 c2
    obtain ⟨f, rfl⟩ : ∃ z, f = z + 1 := ⟨f - 1, by omega⟩
    have : i = 5510 := by omega
    subst this
    show F12_back_39 n S k (F12_back_L39 n S k f) X J (nI j) (nI 5510)
    unfold F12_back_39
    refine ⟨fun _ => sp_settled (by decide) ?_, fun z => absurd ((qle (a := 5510) (by omega) (by omega)).mpr (Nat.le_refl _)) z⟩
    rw [if_neg (by decide), mS_p (by decide)]
    exact hk X c1 c2
  | succ d ih =>
    intro f i X hi hf c1 c2
    obtain ⟨f, rfl⟩ : ∃ z, f = z + 1 := ⟨f - 1, by omega⟩
    show F12_back_39 n S k (F12_back_L39 n S k f) X J (nI j) (nI i)
    unfold F12_back_39
    have e1 : 5510 * nI j + nI i = nI (5510 * j + i) := by rw [ql 5510, qmul, nI_add]
    rw [e1, qn (show i < 2147483648 by omega), qn (show 5510 * j + i < 2147483648 by omega), show nI i + 1 = nI (i + 1) from nI_add i 1]
    refine ⟨fun z => ?_, fun _ => ⟨(qin (by omega)).mpr (by omega), (qin (by omega)).mpr (by omega), ?_⟩⟩
    · exfalso; have := (qle (a := 5510) (by omega) (by omega)).mp z; omega
    · refine ih f (i + 1) _ (by omega) (by omega) (fun x hx => by rw [uIn hx]; exact c1 x hx) (fun q hq => ?_)
      rw [uIe]
      by_cases g : q = i
      · subst g; rw [upe, c1 64 (by decide)]
      · rw [upn g]; exact c2 q (by omega)
theorem st_back (hn : 6000 < n) : tSt_back n Inv := by
  intro S I J v1 h
  have hw1 : V12_in v1.toInt64 0 1 = V11_within v1 0 1 := inwi rfl rfl
  unfold F11_back
  refine ⟨fun c1 => ?_, fun c1 => ?_⟩
  · refine sp_settle h.1.l59 (by decide) ⟨h.1.2.2.1, ?_⟩
    unfold F12_back
    rw [hw1]
    exact ⟨fun z => absurd c1 z, fun _ => h.no (by decide)⟩
  · have hv : 0 ≤ v1.toInt ∧ v1.toInt ≤ 1 := wi1.mp c1
    obtain ⟨j, rfl, hj2, -⟩ := nat_of (v := v1) (m := 2) hv.1 (by omega)
    have hj : j < 2 := by omega
    rw [qn (by omega)]
    refine ⟨(qin (by omega)).mpr hj, fun c2 => ?_, fun a c2 => ?_⟩
    · have e65 : I 65 j = 0 := by
        rcases h.2.2.2.2.1.1 j hj with ⟨-, z⟩ | ⟨a, z, -⟩
        · exact z
        · rw [c2] at z; exact absurd z (by simp)
      refine sp_settle h.1.l59 (by decide) ⟨h.1.2.2.1, ?_⟩
      unfold F12_back
      rw [hw1, qn (by omega)]
      have e : (uI (cS I (-2)) 61 0 0) 65 j = 0 := by rw [uIn (by decide), cS_o (by decide) (by decide)]; exact e65
      exact ⟨fun _ => ⟨(qin (by omega)).mpr hj, fun z => absurd e z, fun _ => h.no (by decide)⟩, fun z => absurd z c1⟩
    · obtain ⟨e65, ta, ha, hz, hR⟩ : ¬ I 65 j = 0 ∧ ty S a 8 ∧ 89 ≤ a ∧ a + 16 ≤ sZ S ∧ RSt S I a (fun k => I 64 (5510 * j + k)) := by
        rcases h.2.2.2.2.1.1 j hj with ⟨z, -⟩ | ⟨a', z, z2⟩
        · rw [c2] at z; exact absurd z (by simp)
        · rw [c2] at z
          have : a = a' := Option.some.inj z
          subst this; exact z2
      have hG := h.1.1
      have t1 : ty S 1 8 := tGr.off hG h.1.2.1 (k := 0) rfl
      refine sp_copySt (by omega) hG (a := 1) (b := a) (by omega) t1 ta (fun S' X g1 g2 g3 g4 => ?_)
      have et : ∀ x t, ty S x t → ty S' x t := fun x t z => ⟨by show x < S'.2.2.2; rw [g2.1]; exact z.1, by show S'.2.1 x = t; rw [g2.1]; exact z.2⟩
      have ez : sZ S' = sZ S := by show S'.2.2.2 = _; rw [g2.1]
      have el : ∀ x, sL S' x = sL S x := fun x => by show S'.2.2.1 x = _; rw [g2.1]
      have hTY : TY S' := h.1.of g1 et (by omega) (fun x _ => el x)
      refine ⟨hTY.2.1, sp_settle hTY.l59 (by decide) ⟨hTY.2.2.1, ?_⟩⟩
      rw [cS_p (by decide)]
      unfold F12_back
      rw [hw1, qn (by omega)]
      have f65 : (uI (uI (uI X 34 1 0) 0 18 0) 61 0 0) 65 j = I 65 j := by rw [uIn (by decide), uIn (by decide), uIn (by decide), g3 65 (by omega)]
      refine ⟨fun _ => ⟨(qin (by omega)).mpr hj, fun _ => ?_, fun z => absurd (f65.symm.trans z) e65⟩, fun z => absurd z c1⟩
      have o : ∀ x, x ≠ 0 → x ≠ 34 → x ≠ 61 → (uI (uI (uI X 34 1 0) 0 18 0) 61 0 0) x = X x := fun x p q s => by rw [uIn s, uIn p, uIn q]
      have o0 : (uI (uI (uI X 34 1 0) 0 18 0) 61 0 0) 0 = up (I 0) 18 0 := by rw [uIn (by decide), uIe, uIn (by decide), g3 0 (by omega)]
      have o34 : (uI (uI (uI X 34 1 0) 0 18 0) 61 0 0) 34 1 = 0 := by rw [uIn (by decide), uIn (by decide), uIe, upe]
      have o61 : (uI (uI (uI X 34 1 0) 0 18 0) 61 0 0) 61 = up (I 61) 0 0 := by rw [uIe, uIn (by decide), uIn (by decide), g3 61 (by omega)]
      generalize (uI (uI (uI X 34 1 0) 0 18 0) 61 0 0) = X5 at *
      refine bakM_L (I := X5) hn hj (fun Y y1 y2 => ⟨rfl, ?_⟩) 5510 n 0 X5 (by omega) (by omega) (fun _ _ => rfl) (fun q hq => by omega)
      have w : ∀ x, x ≠ 0 → x ≠ 34 → x ≠ 61 → x ≠ 63 → (uI (uI Y 61 8 0) 61 1 0) x = X x := fun x p q s t => by rw [uIn s, uIn s, y1 x t, o x p q s]
      have w0 : (uI (uI Y 61 8 0) 61 1 0) 0 = up (I 0) 18 0 := by rw [uIn (by decide), uIn (by decide), y1 0 (by decide), o0]
      have w34 : (uI (uI Y 61 8 0) 61 1 0) 34 1 = 0 := by rw [uIn (by decide), uIn (by decide), y1 34 (by decide)]; exact o34
      have w61 : (uI (uI Y 61 8 0) 61 1 0) 61 = up (up (up (I 61) 0 0) 8 0) 1 0 := by rw [uIe, uIe, y1 61 (by decide), o61]
      have w63 : ∀ i, i < 5510 → (uI (uI Y 61 8 0) 61 1 0) 63 i = I 64 (5510 * j + i) := fun i hi => by rw [uIn (by decide), uIn (by decide), y2 i hi, o 64 (by decide) (by decide) (by decide), g3 64 (by omega)]
      generalize (uI (uI Y 61 8 0) 61 1 0) = V at *
      have wI : ∀ x, 16 < x → x ≠ 34 → x ≠ 61 → x ≠ 63 → V x = I x := fun x p q s t => by rw [w x (by omega) q s t, g3 x (by omega)]
      have hP : ∀ p, ty S p 6 → 89 ≤ p → p + 5 ≤ sZ S → ty S' p 6 ∧ (V p = I p ∧ V (p + 1) = I (p + 1) ∧ V (p + 2) = I (p + 2) ∧ V (p + 4) = I (p + 4)) := fun p q1 q2 q3 => ⟨et _ _ q1, wI _ (by omega) (by omega) (by omega) (by omega), wI _ (by omega) (by omega) (by omega) (by omega), wI _ (by omega) (by omega) (by omega) (by omega), wI _ (by omega) (by omega) (by omega) (by omega)⟩
      have hP' : ∀ p, ty S p 6 → 89 ≤ p → p + 5 ≤ sZ S → ty S' p 6 ∧ (X p = I p ∧ X (p + 1) = I (p + 1) ∧ X (p + 2) = I (p + 2) ∧ X (p + 4) = I (p + 4)) := fun p q1 q2 q3 => ⟨et _ _ q1, g3 _ (by omega), g3 _ (by omega), g3 _ (by omega), g3 _ (by omega)⟩
      refine ⟨hTY, ?_, RH.nil w34 (by rw [w61, upn (by decide), upe]), ?_, ⟨fun i hi => ?_, ?_⟩, ?_, ?_⟩
      · exact ((hR.cp (S' := S') g4 g2.2.2 hP' (by omega) (fun x _ => el x)).cg (fun i hi => w (1 + i) (by omega) (by omega) (by omega) (by omega)) (fun x hx => w x (by omega) (by omega) (by omega) (by omega))).row w63
      · rw [wI 38 (by decide) (by decide) (by decide) (by decide), wI 39 (by decide) (by decide) (by decide) (by decide), wI 70 (by decide) (by decide) (by decide) (by decide)]
        exact h.2.2.2.1.f (by rw [w61, upn (by decide), upn (by decide), upn (by decide)])
      · have e33 : sQ S' 33 i = sQ S 33 i := g2.2.1 _ _ (by decide)
        have e65' : V 65 = I 65 := wI 65 (by decide) (by decide) (by decide) (by decide)
        have e64' : V 64 = I 64 := wI 64 (by decide) (by decide) (by decide) (by decide)
        rw [e33, e65', e64']
        rcases h.2.2.2.2.1.1 i hi with z | ⟨b, z1, z2, z3, z4, z5, z6⟩
        · exact Or.inl z
        · exact Or.inr ⟨b, z1, z2, et _ _ z3, z4, by omega, z6.mv (S' := S') (fun q hq => wI _ (by omega) (by omega) (by omega) (by omega)) (fun q hq => g2.2.1 _ _ (by omega)) hP (by omega) (fun x _ => el x)⟩
      · intro b hb
        rw [show sQ S' 33 0 = sQ S 33 0 from g2.2.1 _ _ (by decide)] at hb
        rw [show sQ S' 33 1 = sQ S 33 1 from g2.2.1 _ _ (by decide)]
        exact h.2.2.2.2.1.2 b hb
      · refine h.2.2.2.2.2.1.st (v := 0) (fun x hx => ?_) w0 (by rw [wI 59 (by decide) (by decide) (by decide) (by decide), rfv_n (by decide)]) (by rw [wI 62 (by decide) (by decide) (by decide) (by decide), rfv_n (by decide)]) (fun y hy => ?_) (by rw [w61, upe]; rfl)
        · have : x = 40 ∨ x = 60 ∨ x = 88 := by simpa using hx
          exact wI x (by omega) (by omega) (by omega) (by omega)
        · have : y = 11 ∨ y = 18 ∨ y = 53 ∨ y = 57 := by simpa using hy
          rw [w61, upn (by omega), upn (by omega), upn (by omega)]
      · exact h.2.2.2.2.2.2.cg (by rw [w61, upn (by decide), upn (by decide), upn (by decide)]) (by rw [w61, upn (by decide), upn (by decide), upn (by decide)]) (fun y _ => by rw [wI 49 (by decide) (by decide) (by decide) (by decide)]) (fun y _ => by rw [wI 50 (by decide) (by decide) (by decide) (by decide)]) (KpJ.rf J)
/-- an image once the State is copied -/
theorem img_fin (hn : 6000 < n) (h : Inv S I J) {j a : Nat} (hj : j < 2) {S' : tSH} {X : tHI} {J' : tHJ} (hG : tGr S') (et : ∀ x t, ty S x t → ty S' x t) (e2 : sZ S ≤ sZ S') (e3 : ∀ x, x < sZ S → sL S' x = sL S x) (eq : ∀ x i, x < sZ S → x ≠ 33 → x ≠ a + 15 → sQ S' x i = sQ S x i) (q1 : sQ S' 33 j = some a) (q2 : ∀ i, i ≠ j → sQ S' 33 i = sQ S 33 i) (ta : ty S' a 8) (ha : 89 ≤ a) (hz : a + 16 ≤ sZ S') (hX : ∀ x, x < sZ S → (x < a ∨ a + 15 < x) → X x = I x) (hR : RSt S' X a (I 63)) (hp : ∀ p, ty S p 6 → p + 5 ≤ sZ S → p + 4 < a ∨ a + 15 < p) (hs : ∀ i b, i < 2 → i ≠ j → sQ S 33 i = some b → b + 16 ≤ sZ S → ty S b 8 → (b + 16 ≤ a ∨ a + 16 ≤ b)) (hJ : KpJ J J') (c1 : ¬ V11_within (nI j) 0 1 = 0) : ty S' 0 11 ∧ F11_settle n S' X J' 0 (fun x I2 J2 => ty S' 61 12 ∧ F12_image n S' I2 J2 (nI j) (fun y I3 J3 => x = y ∧ Inv S' I3 J3)) := by
  have hw1 : V12_in (nI j).toInt64 0 1 = V11_within (nI j) 0 1 := inwi rfl rfl
  have hTY : TY S' := h.1.of hG et e2 e3
  have h89 := h.1.2.2.2.1
  refine ⟨hTY.2.1, sp_settle hTY.l59 (by decide) ⟨hTY.2.2.1, ?_⟩⟩
  rw [cS_p (by decide)]
  unfold F12_image
  rw [hw1]
  refine ⟨fun _ => ?_, fun z => absurd z c1⟩
  have hXs : ∀ x, x < 89 → X x = I x := fun x hx => hX x (by omega) (by omega)
  have o : ∀ x, x ≠ 0 → x ≠ 61 → (uI (uI X 0 18 0) 61 0 0) x = X x := fun x p q => by rw [uIn q, uIn p]
  have o0 : (uI (uI X 0 18 0) 61 0 0) 0 = up (I 0) 18 0 := by rw [uIn (by decide), uIe, hXs 0 (by omega)]
  have o61 : (uI (uI X 0 18 0) 61 0 0) 61 = up (I 61) 0 0 := by rw [uIe, uIn (by decide), hXs 61 (by omega)]
  generalize (uI (uI X 0 18 0) 61 0 0) = X5 at *
  refine imgM_L (I := X5) hn hj (fun Y y1 y2 y3 => ⟨rfl, ?_⟩) 5510 n 0 X5 (by omega) (by omega) (fun _ _ => rfl) (fun q hq => by omega) (fun _ _ => rfl)
  have w : ∀ x, x ≠ 0 → x ≠ 61 → x ≠ 64 → x ≠ 65 → (uI (uI Y 65 j 1) 61 1 0) x = X x := fun x p q s t => by rw [uIn q, uIn t, y1 x s, o x p q]
  have w0 : (uI (uI Y 65 j 1) 61 1 0) 0 = up (I 0) 18 0 := by rw [uIn (by decide), uIn (by decide), y1 0 (by decide), o0]
  have w61 : (uI (uI Y 65 j 1) 61 1 0) 61 = up (up (I 61) 0 0) 1 0 := by rw [uIe, uIn (by decide), y1 61 (by decide), o61]
  have w65 : (uI (uI Y 65 j 1) 61 1 0) 65 = up (I 65) j 1 := by rw [uIn (by decide), uIe, y1 65 (by decide), o 65 (by decide) (by decide), hXs 65 (by omega)]
  have w64 : ∀ i, i < 5510 → (uI (uI Y 65 j 1) 61 1 0) 64 (5510 * j + i) = I 63 i := fun i hi => by rw [uIn (by decide), uIn (by decide), y2 i hi, o 63 (by decide) (by decide), hXs 63 (by omega)]
  have w64' : ∀ y, (y < 5510 * j ∨ 5510 * j + 5510 ≤ y) → (uI (uI Y 65 j 1) 61 1 0) 64 y = I 64 y := fun y hy => by rw [uIn (by decide), uIn (by decide), y3 y hy, o 64 (by decide) (by decide), hXs 64 (by omega)]
  generalize (uI (uI Y 65 j 1) 61 1 0) = V at *
  have wI : ∀ x, x < 89 → x ≠ 0 → x ≠ 61 → x ≠ 64 → x ≠ 65 → V x = I x := fun x p q s t u => by rw [w x q s t u, hXs x p]
  have wB : ∀ x, 89 ≤ x → V x = X x := fun x hx => w x (by omega) (by omega) (by omega) (by omega)
  have hP : ∀ p, ty S p 6 → 89 ≤ p → p + 5 ≤ sZ S → ty S' p 6 ∧ (V p = I p ∧ V (p + 1) = I (p + 1) ∧ V (p + 2) = I (p + 2) ∧ V (p + 4) = I (p + 4)) := fun p g1 g2 g3 => by
    have := hp p g1 g3
    refine ⟨et _ _ g1, ?_, ?_, ?_, ?_⟩ <;> (rw [wB _ (by omega)]; exact hX _ (by omega) (by omega))
  refine ⟨hTY, ?_, ?_, ?_, ⟨fun i hi => ?_, ?_⟩, ?_, ?_⟩
  · rw [wI 63 (by decide) (by decide) (by decide) (by decide) (by decide)]
    exact h.2.1.mv (S' := S') (a := 1) (fun i hi => wI (1 + i) (by omega) (by omega) (by omega) (by omega) (by omega)) (fun i hi => eq _ _ (by omega) (by decide) (by omega)) hP e2 e3
  · rw [wI 34 (by decide) (by decide) (by decide) (by decide) (by decide), wI 35 (by decide) (by decide) (by decide) (by decide) (by decide), wI 66 (by decide) (by decide) (by decide) (by decide) (by decide), wI 67 (by decide) (by decide) (by decide) (by decide) (by decide), wI 63 (by decide) (by decide) (by decide) (by decide) (by decide)]
    exact h.2.2.1.r (by rw [w61, upn (by decide), upn (by decide)]) rfl rfl (fun _ _ _ => rfl) (fun _ _ _ => rfl)
  · rw [wI 38 (by decide) (by decide) (by decide) (by decide) (by decide), wI 39 (by decide) (by decide) (by decide) (by decide) (by decide), wI 70 (by decide) (by decide) (by decide) (by decide) (by decide)]
    exact h.2.2.2.1.f (by rw [w61, upn (by decide), upn (by decide)])
  · by_cases c : i = j
    · subst c
      refine Or.inr ⟨a, q1, by rw [w65, upe]; decide, ta, ha, hz, ?_⟩
      exact (hR.cg (I' := V) (fun q hq => wB _ (by omega)) (fun x hx => wB x hx)).row w64
    · have e33 : sQ S' 33 i = sQ S 33 i := q2 i c
      rw [e33, w65, upn c]
      rcases h.2.2.2.2.1.1 i hi with z | ⟨b, z1, z2, z3, z4, z5, z6⟩
      · exact Or.inl z
      · have hd := hs i b hi c z1 z5 z3
        refine Or.inr ⟨b, z1, z2, et _ _ z3, z4, by omega, ?_⟩
        refine RSt.row (z6.mv (S' := S') (X := V) (a := b) (fun q hq => by rw [wB _ (by omega)]; exact hX _ (by omega) (by omega)) (fun q hq => eq _ _ (by omega) (by omega) (by omega)) hP e2 e3) (fun q hq => w64' _ (by omega))
  · intro b hb hb2
    have hnew : ∀ i, i < 2 → i ≠ j → sQ S 33 i ≠ some a := fun i hi hij z => by
      rcases h.2.2.2.2.1.1 i hi with ⟨z1, -⟩ | ⟨b, z1, z2, z3, z4, z5, z6⟩
      · rw [z] at z1; exact absurd z1 (by simp)
      · rw [z] at z1
        have : a = b := Option.some.inj z1
        subst this
        have := hs i a hi hij z z5 z3
        omega
    have : j = 0 ∨ j = 1 := by omega
    rcases this with g | g
    · subst g
      rw [q1] at hb
      rw [q2 1 (by decide)] at hb2
      exact hnew 1 (by decide) (by decide) (by rw [hb2, hb])
    · subst g
      rw [q1] at hb2
      rw [q2 0 (by decide)] at hb
      exact hnew 0 (by decide) (by decide) (by rw [hb, hb2])
  · refine h.2.2.2.2.2.1.st (v := 0) (fun x hx => ?_) w0 (by rw [wI 59 (by decide) (by decide) (by decide) (by decide) (by decide), rfv_n (by decide)]) (by rw [wI 62 (by decide) (by decide) (by decide) (by decide) (by decide), rfv_n (by decide)]) (fun y hy => ?_) (by rw [w61, upe]; rfl)
    · have : x = 40 ∨ x = 60 ∨ x = 88 := by simpa using hx
      exact wI x (by omega) (by omega) (by omega) (by omega) (by omega)
    · have : y = 11 ∨ y = 18 ∨ y = 53 ∨ y = 57 := by simpa using hy
      rw [w61, upn (by omega), upn (by omega)]
  · exact h.2.2.2.2.2.2.cg (by rw [w61, upn (by decide), upn (by decide)]) (by rw [w61, upn (by decide), upn (by decide)]) (fun y _ => by rw [wI 49 (by decide) (by decide) (by decide) (by decide) (by decide)]) (fun y _ => by rw [wI 50 (by decide) (by decide) (by decide) (by decide) (by decide)]) hJ
theorem uZI_n {I : tHI} {z x : Nat} (h : x ≠ z) : uZI I z x = I x := by funext y; unfold uZI; rw [if_neg h]
theorem uZJ_n {J : tHJ} {z x : Nat} (h : x ≠ z) : uZJ J z x = J x := by funext y; unfold uZJ; rw [if_neg h]
theorem NI8_o {I : tHI} {J : tHJ} {z x : Nat} (h : x < z) : NI8_init (uZI I z) (uZJ J z) z x = I x := by
  unfold NI8_init NI10_init NI7_init NI3_init
  simp only [uIn (show x ≠ z by omega), uIn (show x ≠ z + 1 by omega), uIn (show x ≠ z + 6 by omega), uIn (show x ≠ z + 14 by omega), uZI_n (show x ≠ z by omega), uZI_n (show x ≠ z + 1 by omega), uZI_n (show x ≠ z + 6 by omega), uZI_n (show x ≠ z + 14 by omega), uZI_n (show x ≠ z + 15 by omega), uZI_n (show x ≠ z + 1 + 1 by omega), uZI_n (show x ≠ z + 1 + 2 by omega), uZI_n (show x ≠ z + 1 + 3 by omega), uZI_n (show x ≠ z + 1 + 4 by omega), uZI_n (show x ≠ z + 6 + 1 by omega), uZI_n (show x ≠ z + 6 + 2 by omega), uZI_n (show x ≠ z + 6 + 3 by omega), uZI_n (show x ≠ z + 6 + 4 by omega), uZI_n (show x ≠ z + 6 + 5 by omega), uZI_n (show x ≠ z + 6 + 6 by omega), uZI_n (show x ≠ z + 6 + 7 by omega)]
theorem NJ8_o {I : tHI} {J : tHJ} {z x : Nat} (h : x < z) : NJ8_init (uZI I z) (uZJ J z) z x = J x := by
  unfold NJ8_init NJ10_init NJ7_init NJ3_init
  simp only [uZJ_n (show x ≠ z by omega), uZJ_n (show x ≠ z + 1 by omega), uZJ_n (show x ≠ z + 6 by omega), uZJ_n (show x ≠ z + 14 by omega), uZJ_n (show x ≠ z + 15 by omega), uZJ_n (show x ≠ z + 1 + 1 by omega), uZJ_n (show x ≠ z + 1 + 2 by omega), uZJ_n (show x ≠ z + 1 + 3 by omega), uZJ_n (show x ≠ z + 1 + 4 by omega), uZJ_n (show x ≠ z + 6 + 1 by omega), uZJ_n (show x ≠ z + 6 + 2 by omega), uZJ_n (show x ≠ z + 6 + 3 by omega), uZJ_n (show x ≠ z + 6 + 4 by omega), uZJ_n (show x ≠ z + 6 + 5 by omega), uZJ_n (show x ≠ z + 6 + 6 by omega), uZJ_n (show x ≠ z + 6 + 7 by omega)]
theorem st_image (hn : 6000 < n) : tSt_image n Inv := by
  intro S I J v1 h
  have hw1 : V12_in v1.toInt64 0 1 = V11_within v1 0 1 := inwi rfl rfl
  unfold F11_image
  refine ⟨fun c1 => ?_, fun c1 => ?_⟩
  · refine sp_settle h.1.l59 (by decide) ⟨h.1.2.2.1, ?_⟩
    unfold F12_image
    rw [hw1]
    exact ⟨fun z => absurd c1 z, fun _ => h.no (by decide)⟩
  · have hv : 0 ≤ v1.toInt ∧ v1.toInt ≤ 1 := wi1.mp c1
    obtain ⟨j, rfl, hj2, -⟩ := nat_of (v := v1) (m := 2) hv.1 (by omega)
    have hj : j < 2 := by omega
    have h89 := h.1.2.2.2.1
    have hG := h.1.1
    have t1 : ty S 1 8 := tGr.off hG h.1.2.1 (k := 0) rfl
    have t33 : ty S 33 43 := tGr.off hG h.1.2.1 (k := 2) rfl
    rw [qn (by omega)]
    refine ⟨(qin (by omega)).mpr hj, fun c2 S1 hG1 hN => ?_, fun a c2 => ?_⟩
    · obtain ⟨⟨x1, x2, x3, x4⟩, tz, ez⟩ := hN
      have hG2 : tGr (uQ S1 33 j (some (sZ S))) := tGr_uQ hG1 (fun t ht x hx => by
        have e : t = 43 := ht.2.symm.trans (x2 _ _ t33.1 t33).2
        cases hx
        exact ⟨fun q => by omega, fun _ => tz, fun q => by omega⟩)
      have t1' : ty (uQ S1 33 j (some (sZ S))) 1 8 := x2 _ _ t1.1 t1
      have tz' : ty (uQ S1 33 j (some (sZ S))) (sZ S) 8 := tz
      have hR5 : RSt (uQ S1 33 j (some (sZ S))) (NI8_init (uZI I (sZ S)) (uZJ J (sZ S)) (sZ S)) 1 (I 63) := by
        refine h.2.1.mv (a := 1) (fun i hi => NI8_o (by omega)) (fun i hi => ?_) (fun p p1 p2 p3 => ⟨x2 _ _ p1.1 p1, NI8_o (by omega), NI8_o (by omega), NI8_o (by omega), NI8_o (by omega)⟩) x1 x3
        show (if 1 + 15 = 33 ∧ i = j then some (sZ S) else sQ S1 (1 + 15) i) = _
        rw [if_neg (by omega)]; exact x4 _ _ (by omega)
      refine sp_copySt (by omega) hG2 (a := sZ S) (b := 1) (by omega) tz' t1' (fun S' X g1 g2 g3 g4 => ?_)
      have et : ∀ x t, ty S x t → ty S' x t := fun x t z => by
        have := x2 x t z.1 z
        exact ⟨by show x < S'.2.2.2; rw [g2.1]; exact this.1, by show S'.2.1 x = t; rw [g2.1]; exact this.2⟩
      have ez' : sZ S' = sZ S + 16 := by show S'.2.2.2 = _; rw [g2.1]; exact ez
      have el : ∀ x, sL S' x = sL S1 x := fun x => by show S'.2.2.1 x = _; rw [g2.1]; rfl
      have e33 : ∀ i, sQ S' 33 i = (if i = j then some (sZ S) else sQ S 33 i) := fun i => by
        rw [g2.2.1 33 i (by omega)]
        show (if 33 = 33 ∧ i = j then some (sZ S) else sQ S1 33 i) = _
        by_cases c : i = j
        · rw [if_pos ⟨rfl, c⟩, if_pos c]
        · rw [if_neg (fun z => c z.2), if_neg c]; exact x4 _ _ (by omega)
      refine img_fin hn h hj g1 et (by omega) (fun x hx => by rw [el x]; exact x3 x hx) (fun x i p q s => ?_) (by rw [e33, if_pos rfl]) (fun i hi => by rw [e33, if_neg hi]) ⟨by omega, by show S'.2.1 _ = 8; rw [g2.1]; exact tz.2⟩ h89 (by omega) (fun x p q => by rw [g3 x (by omega)]; exact NI8_o p) ?_ (fun p p1 p2 => by omega) (fun i b _ _ _ p _ => by omega) (fun x hx => NJ8_o (by
        have : x = 76 ∨ x = 77 ∨ x = 78 ∨ x = 86 := by simpa using hx
        omega)) c1
      · rw [g2.2.1 x i s]
        show (if x = 33 ∧ i = j then some (sZ S) else sQ S1 x i) = _
        rw [if_neg (fun z => q z.1)]; exact x4 x i p
      · refine hR5.cp (S' := S') g4 g2.2.2 (fun p p1 p2 p3 => ?_) (by rw [ez']; show S1.2.2.2 ≤ _; rw [show S1.2.2.2 = _ from ez]; omega) (fun x _ => el x)
        have hd := st_pr hG2 tz' p1
        exact ⟨⟨by show p < S'.2.2.2; rw [g2.1]; exact p1.1, by show S'.2.1 p = 6; rw [g2.1]; exact p1.2⟩, g3 _ (by omega), g3 _ (by omega), g3 _ (by omega), g3 _ (by omega)⟩
    · obtain ⟨e65, ta, ha, hz, hR⟩ : ¬ I 65 j = 0 ∧ ty S a 8 ∧ 89 ≤ a ∧ a + 16 ≤ sZ S ∧ RSt S I a (fun k => I 64 (5510 * j + k)) := by
        rcases h.2.2.2.2.1.1 j hj with ⟨z, -⟩ | ⟨a', z, z2⟩
        · rw [c2] at z; exact absurd z (by simp)
        · rw [c2] at z
          have : a = a' := Option.some.inj z
          subst this; exact z2
      refine sp_copySt (by omega) hG (a := a) (b := 1) (by omega) ta t1 (fun S' X g1 g2 g3 g4 => ?_)
      have et : ∀ x t, ty S x t → ty S' x t := fun x t z => ⟨by show x < S'.2.2.2; rw [g2.1]; exact z.1, by show S'.2.1 x = t; rw [g2.1]; exact z.2⟩
      have ez : sZ S' = sZ S := by show S'.2.2.2 = _; rw [g2.1]
      have el : ∀ x, sL S' x = sL S x := fun x => by show S'.2.2.1 x = _; rw [g2.1]
      refine img_fin hn h hj g1 et (by omega) (fun x _ => el x) (fun x i _ _ s => g2.2.1 x i s) (by rw [g2.2.1 33 j (by omega)]; exact c2) (fun i _ => g2.2.1 33 i (by omega)) (et _ _ ta) ha (by omega) (fun x _ q => g3 x q) ?_ (fun p p1 _ => st_pr hG ta p1) (fun i b hi hij hb _ tb => st_st hG tb ta (fun e => ?_)) (KpJ.rf J) c1
      · refine h.2.1.cp (S' := S') g4 g2.2.2 (fun p p1 p2 p3 => ?_) (by omega) (fun x _ => el x)
        have hd := st_pr hG ta p1
        exact ⟨et _ _ p1, g3 _ (by omega), g3 _ (by omega), g3 _ (by omega), g3 _ (by omega)⟩
      · rw [e] at hb
        have h2 := h.2.2.2.2.1.2 a
        have : (j = 0 ∧ i = 1) ∨ (j = 1 ∧ i = 0) := by omega
        rcases this with ⟨p, q⟩ | ⟨p, q⟩
        · rw [p] at c2; rw [q] at hb; exact h2 c2 hb
        · rw [p] at c2; rw [q] at hb; exact h2 hb c2
end IM
