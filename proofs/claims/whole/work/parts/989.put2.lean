/-! putting, II: the class -/
def bnQ (S : tSH) (I : tHI) (r : Nat → Int32) (N l s : Nat) : Bool := banR S I r N (nI s) l
def bitP (N m l : Nat) : Nat := m / 2 ^ (N - 1 - l) % 2
def chP (r : Nat → Int32) (N m : Nat) : Nat → Int32
  | 0 => 0
  | l + 1 => chP r N m l + (if bitP N m l = 0 then 0 else r (26 + l))
def reP (r : Nat → Int32) (N m : Nat) : Nat → Int32
  | 0 => 0
  | l + 1 => reP r N m l + (if bitP N m l = 0 then r (26 + l) else 0)
def WP (r : Nat → Int32) (N m : Nat) : Nat → Int32 := Wat (Wat (WM 63 r N) 3 (chP r N m N)) 4 (reP r N m N)
def tmU (T : Nat → Nat → Nat) (Q : Nat → Nat) : Nat → Nat
  | 0 => 0
  | b + 1 => tmU T Q b + T b (Q b)
def tQ (T : Nat → Nat → Nat) (Q : Nat → Nat) (B : Nat) : Nat := if zQ Q B = true then tmU T Q B else 100000000
theorem tmU_b {T : Nat → Nat → Nat} {Q : Nat → Nat} (hT : ∀ b p, T b p ≤ 5940) : ∀ b, tmU T Q b ≤ 5940 * b := by
  intro b
  induction b with
  | zero => exact Nat.le_refl _
  | succ b ih =>
    have := hT b (Q b)
    show tmU T Q b + T b (Q b) ≤ _
    omega
theorem tQ_b {T : Nat → Nat → Nat} {Q : Nat → Nat} {B : Nat} (hT : ∀ b p, T b p ≤ 5940) (hB : B ≤ 12) : tQ T Q B ≤ 100000000 := by
  have := tmU_b (Q := Q) hT B
  unfold tQ
  split <;> omega
def ttP (S : tSH) (I : tHI) (r : Nat → Int32) (N B m : Nat) : Nat := tQ (tmS r) (fun b => aQ S I r b (WP r N m)) B
theorem bit_b {N m l : Nat} : bitP N m l < 2 := Nat.mod_lt _ (by omega)
theorem chP_b {r : Nat → Int32} {N m : Nat} (hK : KL r) : ∀ l, l ≤ 6 → (∃ q, chP r N m l = nI q ∧ q ≤ 200 * l) ∧ ∃ q, reP r N m l = nI q ∧ q ≤ 200 * l := by
  intro l
  induction l with
  | zero => intro _; exact ⟨⟨0, rfl, by omega⟩, ⟨0, rfl, by omega⟩⟩
  | succ l ih =>
    intro hl
    obtain ⟨⟨q, q1, q2⟩, ⟨p, p1, p2⟩⟩ := ih (by omega)
    obtain ⟨w, w1, w2⟩ := (hK l (by omega)).1
    have e1 : chP r N m (l + 1) = nI q + (if bitP N m l = 0 then 0 else nI w) := by
      show chP r N m l + _ = _
      rw [q1, w1]
    have e2 : reP r N m (l + 1) = nI p + (if bitP N m l = 0 then nI w else 0) := by
      show reP r N m l + _ = _
      rw [p1, w1]
    rw [e1, e2]
    by_cases g : bitP N m l = 0
    · rw [if_pos g, if_pos g, nI_add]
      exact ⟨⟨q, by rw [show nI q + 0 = nI (q + 0) from nI_add q 0]; rfl, by omega⟩, ⟨p + w, rfl, by omega⟩⟩
    · rw [if_neg g, if_neg g, nI_add]
      exact ⟨⟨q + w, rfl, by omega⟩, ⟨p, by rw [show nI p + 0 = nI (p + 0) from nI_add p 0]; rfl, by omega⟩⟩
section PU
variable {n : Nat} {S : tSH} {I : tHI} {J : tHJ} {k : Int32 → tHI → tHJ → Prop} {r W : Nat → Int32} {N B : Nat}
/-- the class's frame -/
def CP (I X : tHI) : Prop := (∀ x, x ∉ [49, 50, 56, 57] → X x = I x) ∧ (∀ y, 5 ≤ y → X 49 y = I 49 y) ∧ ∀ y, y < 6 → X 50 y = I 50 y
theorem CP.rf (I : tHI) : CP I I := ⟨fun _ _ => rfl, fun _ _ => rfl, fun _ _ => rfl⟩
theorem CP.ap {X : tHI} (c : CP I X) {x : Nat} (h : x < 49 ∨ 57 < x) : X x = I x := c.1 x (fun z => by
  have : x = 49 ∨ x = 50 ∨ x = 56 ∨ x = 57 := by simpa using z
  omega)
theorem CP.tr {X Y : tHI} (c : CP I X) (d : CK X Y) : CP I Y := ⟨fun x hx => by
  have : ¬ (x = 49 ∨ x = 50 ∨ x = 56 ∨ x = 57) := by simpa using hx
  rw [d.1 x (by omega)]; exact c.1 x hx, fun y hy => by rw [d.2 y (by omega)]; exact c.2.1 y hy, fun y hy => by rw [d.1 50 (by decide)]; exact c.2.2 y hy⟩
theorem CP.st {X : tHI} (c : CP I X) (h : RSt S I 1 r) : RSt S X 1 r := h.cg (fun i hi => c.ap (by omega)) (fun x hx => c.ap (by omega))
theorem bar_v {X : tHI} (c : CP I X) (hQ : CQ S I r (WM 63 r N)) {l s : Nat} : lawB S X (wl (wLd (X 49) (r (26 + l)) (nI s) (r (32 + l)))) = bnQ S I r N l s := by
  unfold bnQ banR
  rw [lawB_I (I := I) (I' := X) hQ.FO (c.ap (by omega)) (fun x hx => c.ap (by omega))]
  refine lawB_w (wl_cg (fun a ha => ?_))
  unfold wLd
  by_cases a6 : a < 6
  · rw [if_pos a6, if_pos a6]
  · rw [if_neg a6, if_neg a6, c.2.1 a (by omega), hQ.2.1 a (by omega) ha]
theorem try_L {u : Nat → Int32} (hT : TY S) (hn : 400 < n) (hQ : CQ S I r (WM 63 r N)) (hN6 : N ≤ 6) (h50 : ∀ y, y < 6 → I 50 y = -1) {m : Nat} (hm : m < 64) (hk1 : ∀ (X : tHI) (J' : tHJ), okM (bnQ S I r N) N m N = true → CP I X → CJ J J' → X 57 = u → (∀ l, l < N → X 56 l = nI (spS (bnQ S I r N) l (bitP N m l))) → X 49 3 = chP r N m N → X 49 4 = reP r N m N → k 1 X J') (hk0 : ∀ (X : tHI) (J' : tHJ), okM (bnQ S I r N) N m N = false → CP I X → CJ J J' → X 57 = u → k 0 X J') : ∀ (d f l : Nat) (X : tHI) (J' : tHJ), l + d = N → d < f → okM (bnQ S I r N) N m l = true → CP I X → CJ J J' → X 57 = u → (∀ j, j < l → X 56 j = nI (spS (bnQ S I r N) j (bitP N m j))) → F5_tryChair_L8 n S k f X J' (nI m) (nI N) (chP r N m l) (reP r N m l) (nI l) := by
  intro d
  induction d with
  | zero =>
    intro f l X J' hl hf ho c1 c2 c57 c3
    obtain ⟨f, rfl⟩ : ∃ z, f = z + 1 := ⟨f - 1, by omega⟩
    have : l = N := by omega
    subst this
    show F5_tryChair_8 n S k (F5_tryChair_L8 n S k f) X J' (nI m) (nI l) _ _ (nI l)
    unfold F5_tryChair_8 F5_tryChair_166
    refine ⟨fun _ => ?_, fun z => absurd ((qle (by omega) (by omega)).mpr (Nat.le_refl _)) z⟩
    refine hk1 _ J' ho ⟨fun x hx => ?_, fun y hy => ?_, fun y hy => ?_⟩ c2 (by rw [uIn (by decide), uIn (by decide)]; exact c57) (fun j hj => by rw [uIn (by decide), uIn (by decide)]; exact c3 j hj) (by rw [uIe, upn (by decide), uIe, upe]) (by rw [uIe, upe])
    · have : ¬ (x = 49 ∨ x = 50 ∨ x = 56 ∨ x = 57) := by simpa using hx
      rw [uIn (by omega), uIn (by omega)]; exact c1.1 x hx
    · rw [uIe, upn (by omega), uIe, upn (by omega)]; exact c1.2.1 y hy
    · rw [uIn (by decide), uIn (by decide)]; exact c1.2.2 y hy
  | succ d ih =>
    intro f l X J' hl hf ho c1 c2 c57 c3
    obtain ⟨f, rfl⟩ : ∃ z, f = z + 1 := ⟨f - 1, by omega⟩
    show F5_tryChair_8 n S k (F5_tryChair_L8 n S k f) X J' (nI m) (nI N) _ _ (nI l)
    have hb : bitP N m l = 0 ∨ bitP N m l = 1 := by have := bit_b (N := N) (m := m) (l := l); omega
    have es : (nI m >>> (((nI N - 1) - nI l) &&& 31)) &&& 1 = nI (bitP N m l) := by
      rw [qpred (by omega), qsub (by omega), shr (by omega) (by omega), and1m]; rfl
    have e6 : (if nI (bitP N m l) = 1 then (1 : Int32) else 0) = nI (bitP N m l) := by
      rcases hb with g | g <;> rw [g] <;> rfl
    have e2 : (if nI (bitP N m l) = 0 then (0 : Int32) else 2) = nI (2 * bitP N m l) := by
      rcases hb with g | g <;> rw [g] <;> rfl
    have x3 : X 3 l = r (26 + l) := by rw [c1.ap (by omega)]; exact (hQ.1.2.1 l (by omega)).1
    have x5 : X 5 l = r (32 + l) := by rw [c1.ap (by omega)]; exact (hQ.1.2.1 l (by omega)).2.2.1
    have ic : vp_in (nI l) 6 := (qin (by omega)).mpr (by omega)
    have h50X : ∀ (Y : tHI), CP I Y → ∀ y, y < 6 → Y 50 y = -1 := fun Y c y hy => by rw [c.2.2 y hy]; exact h50 y hy
    have eo : okM (bnQ S I r N) N m (l + 1) = (okM (bnQ S I r N) N m l && !(bnQ S I r N l (2 * bitP N m l) && bnQ S I r N l (2 * bitP N m l + 1))) := rfl
    have ez : nI (bitP N m l) = 0 ↔ bitP N m l = 0 := qeq (b := 0) (by omega) (by omega)
    have ec : chP r N m (l + 1) = chP r N m l + (if nI (bitP N m l) = 0 then 0 else r (26 + l)) := by
      show chP r N m l + (if bitP N m l = 0 then 0 else r (26 + l)) = _
      rcases hb with g | g
      · rw [if_pos g, if_pos (ez.mpr g)]
      · rw [if_neg (by omega), if_neg (fun z => by have := ez.mp z; omega)]
    have er : reP r N m (l + 1) = reP r N m l + (if nI (bitP N m l) = 0 then r (26 + l) else 0) := by
      show reP r N m l + (if bitP N m l = 0 then r (26 + l) else 0) = _
      rcases hb with g | g
      · rw [if_pos g, if_pos (ez.mpr g)]
      · rw [if_neg (by omega), if_neg (fun z => by have := ez.mp z; omega)]
    have cb : ∀ Y Z : tHI, CP I Y → (∀ x, x ≠ 50 → Z x = Y x) → (∀ y, y < 6 → Z 50 y = Y 50 y) → CP I Z := fun Y Z c a1 a2 => ⟨fun x hx => by
      have : ¬ (x = 49 ∨ x = 50 ∨ x = 56 ∨ x = 57) := by simpa using hx
      rw [a1 x (by omega)]; exact c.1 x hx, fun y hy => by rw [a1 49 (by decide)]; exact c.2.1 y hy, fun y hy => by rw [a2 y hy]; exact c.2.2 y hy⟩
    -- a spot is found
    have go : ∀ (Y : tHI) (J2 : tHJ) (s : Nat), CP I Y → CJ J J2 → Y 56 = X 56 → Y 57 = X 57 → s = spS (bnQ S I r N) l (bitP N m l) → okM (bnQ S I r N) N m (l + 1) = true → F5_tryChair_121 n S k (F5_tryChair_L8 n S k f) Y J2 (nI m) (nI N) (chP r N m l) (reP r N m l) (nI l) (nI (bitP N m l)) (r (26 + l)) (nI s) := by
      intro Y J2 s y1 y2 y3 y57 es eok
      unfold F5_tryChair_121
      rw [qn (by omega), ← ec, ← er, show nI l + 1 = nI (l + 1) from nI_add l 1]
      refine ⟨ic, ih f (l + 1) _ J2 (by omega) (by omega) eok ⟨fun x hx => ?_, fun y hy => by rw [uIn (by decide)]; exact y1.2.1 y hy, fun y hy => by rw [uIn (by decide)]; exact y1.2.2 y hy⟩ y2 (by rw [uIn (by decide), y57]; exact c57) (fun j hj => ?_)⟩
      · have : ¬ (x = 49 ∨ x = 50 ∨ x = 56 ∨ x = 57) := by simpa using hx
        rw [uIn (by omega)]; exact y1.1 x hx
      · rw [uIe]
        by_cases g : j = l
        · subst g; rw [upe, es]
        · rw [upn g, y3]; exact c3 j (by omega)
    unfold F5_tryChair_8
    rw [es, e6, e2, qn (by omega), x3, x5, show nI (2 * bitP N m l) + 1 = nI (2 * bitP N m l + 1) from nI_add _ 1]
    refine ⟨fun z => ?_, fun _ => ⟨fun z => ?_, fun _ => ⟨ic, ic, ?_⟩⟩⟩
    · exfalso; have := (qle (by omega) (by omega)).mp z; omega
    · exfalso; have := (qle (a := 6) (by omega) (by omega)).mp z; omega
    · refine sp_barred hT hn (c1.st hQ.1) (h50X X c1) (fun Y J2 a1 a2 a3 => ?_)
      rw [bar_v c1 hQ]
      have cY := cb X Y c1 a1 a2
      intro _
      cases z1 : bnQ S I r N l (2 * bitP N m l) with
      | false =>
        rw [if_neg (by decide)]
        refine ⟨fun _ => go Y J2 _ cY (fun x hx => by rw [a3 x hx]; exact c2 x hx) (a1 56 (by decide)) (a1 57 (by decide)) (by unfold spS; rw [z1, if_neg (by decide)]) (by rw [eo, ho, z1]; rfl), fun z => absurd rfl z⟩
      | true =>
        rw [if_pos rfl]
        refine ⟨fun z => absurd z (by decide), fun _ => ?_⟩
        refine sp_barred hT hn (cY.st hQ.1) (h50X Y cY) (fun Z J3 b1 b2 b3 => ?_)
        rw [bar_v cY hQ]
        have cZ := cb Y Z cY b1 b2
        have cJ3 : CJ J J3 := fun x hx => by rw [b3 x hx, a3 x hx]; exact c2 x hx
        intro _
        cases z2 : bnQ S I r N l (2 * bitP N m l + 1) with
        | false =>
          rw [if_neg (by decide)]
          refine ⟨fun _ => go Z J3 _ cZ cJ3 (by rw [b1 56 (by decide), a1 56 (by decide)]) (by rw [b1 57 (by decide), a1 57 (by decide)]) (by unfold spS; rw [z1, if_pos rfl]) (by rw [eo, ho, z1, z2]; rfl), fun z => absurd rfl z⟩
        | true =>
          rw [if_pos rfl]
          refine ⟨fun z => absurd z (by decide), fun _ => hk0 Z J3 ?_ cZ cJ3 (by rw [b1 57 (by decide), a1 57 (by decide)]; exact c57)⟩
          cases z3 : okM (bnQ S I r N) N m N with
          | false => rfl
          | true => exact absurd ⟨z1, z2⟩ ((okM_t N).mp z3 l (by omega))
theorem road_L (hT : TY S) (hn : 400 < n) (hQ : CQ S I r W) (hB1 : r 1 = nI B) (hB : B ≤ 12) (hk : ∀ (X : tHI) (J' : tHJ), CK I X → CJ J J' → k (nI (clS (tQ (tmS r) (fun b => aQ S I r b W) B))) X J') : ∀ (d f b : Nat) (X : tHI) (J' : tHJ), b + d = B → d < f → zQ (fun b => aQ S I r b W) b = true → CK I X → CJ J J' → F5_timeOfRoad_L4 n S k f X J' (nI (tmU (tmS r) (fun b => aQ S I r b W) b)) (nI b) := by
  intro d
  induction d with
  | zero =>
    intro f b X J' hb hf hz c1 c2
    obtain ⟨f, rfl⟩ : ∃ z, f = z + 1 := ⟨f - 1, by omega⟩
    have : b = B := by omega
    subst this
    show F5_timeOfRoad_4 n S k (F5_timeOfRoad_L4 n S k f) X J' _ (nI b)
    unfold F5_timeOfRoad_4
    have x70 : X 7 0 = nI b := by have : X 7 0 = r 1 := (hQ.cg c1).1.1.2.2.2.1; rw [this, hB1]
    have key := hk X J' c1 c2
    have hu := tmU_b (Q := fun b => aQ S I r b W) (tmS_b (r := r)) b
    unfold tQ at key
    rw [if_pos hz] at key
    have e : clS (tmU (tmS r) (fun b => aQ S I r b W) b) = tmU (tmS r) (fun b => aQ S I r b W) b := if_neg (by omega)
    rw [e] at key
    exact ⟨fun _ => key, fun z => absurd (by rw [x70]; exact (qle (by omega) (by omega)).mpr (Nat.le_refl _)) z⟩
  | succ d ih =>
    intro f b X J' hb hf hz c1 c2
    obtain ⟨f, rfl⟩ : ∃ z, f = z + 1 := ⟨f - 1, by omega⟩
    show F5_timeOfRoad_4 n S k (F5_timeOfRoad_L4 n S k f) X J' _ (nI b)
    unfold F5_timeOfRoad_4
    have hQX := hQ.cg c1
    have x70 : X 7 0 = nI B := by have : X 7 0 = r 1 := hQX.1.1.2.2.2.1; rw [this, hB1]
    rw [x70]
    refine ⟨fun z => ?_, fun _ => ?_⟩
    · exfalso; have := (qle (by omega) (by omega)).mp z; omega
    · refine sp_quickest hT hn hQX (b := b) (by rw [hB1, qi (by omega)]; omega) (fun Y J2 y1 y2 => ?_)
      have eq : aQ S X r b W = aQ S I r b W := aQ_I hQ.FO (c1.1 1 (by decide)) (fun x hx => c1.1 x (by omega))
      have hq60 : aQ S I r b W ≤ 60 := aQ_le
      rw [eq]
      have cY := c1.trans y1
      refine ⟨fun z => ?_, fun z => ?_⟩
      · have h1 : 1 ≤ aQ S I r b W := by
          rcases Nat.eq_zero_or_pos (aQ S I r b W) with w | w
          · exact absurd (by rw [w]; rfl) z
          · exact w
        obtain ⟨tv, tp⟩ := tm_v (J' := J2) (hQ.cg cY) hB1 hB (b := b) (by omega) h1 hq60
        rw [tv, nI_add, show nI b + 1 = nI (b + 1) from nI_add b 1]
        refine ⟨tp, ih f (b + 1) Y J2 (by omega) (by omega) ?_ cY (c2.trans y2)⟩
        show (zQ (fun b => aQ S I r b W) b && decide (1 ≤ aQ S I r b W)) = true
        rw [hz, decide_eq_true h1]; rfl
      · have h0 : aQ S I r b W = 0 := (qeq (b := 0) (by omega) (by omega)).mp z
        have key := hk Y J2 cY (c2.trans y2)
        have zf := zQ_f (Q := fun b => aQ S I r b W) (b := b) h0 (B - (b + 1))
        rw [show b + 1 + (B - (b + 1)) = B by omega] at zf
        unfold tQ at key
        rw [zf, if_neg (by decide)] at key
        exact key
/-- the answer -/
def anP (S : tSH) (I : tHI) (r : Nat → Int32) (N B : Nat) (v1 : Int32) : Int32 := if mnV (fPC (bnQ S I r N) N (ttP S I r N B) 100000000) 100000000 (2 ^ N) = 100000000 then -1 else if v1 = -1 then nI (mnV (fPC (bnQ S I r N) N (ttP S I r N B) 100000000) 100000000 (2 ^ N)) else nI (spS (bnQ S I r N) v1.toNatClampNeg (bitP N (mnP (fPC (bnQ S I r N) N (ttP S I r N B) 100000000) 100000000 (2 ^ N)) v1.toNatClampNeg))
theorem bs_L (hT : TY S) (hn : 400 < n) (hQ : CQ S I r (WM 63 r N)) (hN : r 0 = nI N) (hN6 : N ≤ 6) (hB1 : r 1 = nI B) (hB : B ≤ 12) (h50 : ∀ y, y < 6 → I 50 y = -1) {v1 : Int32} (hv : v1 = -1 ∨ ∃ q, v1 = nI q ∧ q < N) (hk : ∀ (X : tHI) (J' : tHJ), CP I X → CJ J J' → k (anP S I r N B v1) X J') : ∀ (d f m : Nat) (X : tHI) (J' : tHJ), m + d = 2 ^ N → d < f → CP I X → CJ J J' → (mnV (fPC (bnQ S I r N) N (ttP S I r N B) 100000000) 100000000 m < 100000000 → ∀ l, l < N → X 57 l = nI (spS (bnQ S I r N) l (bitP N (mnP (fPC (bnQ S I r N) N (ttP S I r N B) 100000000) 100000000 m) l))) → F5_bestSpots_L22 n S k f X J' v1 (nI N) (nI (clS (mnV (fPC (bnQ S I r N) N (ttP S I r N B) 100000000) 100000000 m))) (nI m) := by
  have hpow : 2 ^ N ≤ 64 := by
    have : N = 0 ∨ N = 1 ∨ N = 2 ∨ N = 3 ∨ N = 4 ∨ N = 5 ∨ N = 6 := by omega
    rcases this with g | g | g | g | g | g | g <;> subst g <;> decide
  have hKL := hQ.1.2.2.2.2.2.1.2.1
  have htt : ∀ m, ttP S I r N B m ≤ 100000000 := fun m => tQ_b tmS_b hB
  intro d
  induction d with
  | zero =>
    intro f m X J' hm hf c1 c2 c3
    obtain ⟨f, rfl⟩ : ∃ z, f = z + 1 := ⟨f - 1, by omega⟩
    have : m = 2 ^ N := by omega
    subst this
    show F5_bestSpots_22 n S k (F5_bestSpots_L22 n S k f) X J' v1 (nI N) _ _
    unfold F5_bestSpots_22
    rw [pow_N hN6]
    have key := hk X J' c1 c2
    unfold anP at key
    have mb := (mnV_b (f := fPC (bnQ S I r N) N (ttP S I r N B) 100000000) (F := 100000000) (2 ^ N)).1
    generalize mnV (fPC (bnQ S I r N) N (ttP S I r N B) 100000000) 100000000 (2 ^ N) = V at *
    have hcb := clS_b mb
    have ef : nI (clS V) = 1000000000 ↔ V = 100000000 := by
      rw [show (1000000000 : Int32) = nI 1000000000 from rfl, qeq (by omega) (by omega)]
      unfold clS
      split <;> omega
    refine ⟨fun _ => ⟨fun z => ?_, fun z => ?_⟩, fun z => absurd ((qle (by omega) (by omega)).mpr (Nat.le_refl _)) z⟩
    · have nV : ¬ V = 100000000 := fun y => z (ef.mpr y)
      rw [if_neg nV] at key
      have eV : clS V = V := if_neg nV
      rw [eV]
      refine ⟨fun w => ?_, fun w => by rw [if_pos w] at key; exact key⟩
      rw [if_neg w] at key
      obtain ⟨q, rfl, q2⟩ := hv.resolve_left w
      have hh := has3 (S := S) (I := X) (J := J') (a := 2) (v := nI q)
      have x20 : X 2 0 = nI N := by rw [c1.ap (by omega)]; have : I 2 0 = r 0 := hQ.1.1.2.2.1; rw [this, hN]
      rw [x20, qi (by omega), qi (by omega)] at hh
      have nh : ¬ V3_has S X J' 2 (nI q) = 0 := fun y => hh.mp y (by omega)
      rw [qn (by omega)] at key
      rw [if_neg nh, qn (by omega), c3 (by omega) q q2]
      exact ⟨⟨fun _ => trivial, fun _ => ⟨(qin (by omega)).mpr (by omega), trivial⟩⟩, key⟩
    · rw [if_pos (ef.mp z)] at key; exact key
  | succ d ih =>
    intro f m X J' hm hf c1 c2 c3
    obtain ⟨f, rfl⟩ : ∃ z, f = z + 1 := ⟨f - 1, by omega⟩
    show F5_bestSpots_22 n S k (F5_bestSpots_L22 n S k f) X J' v1 (nI N) _ _
    unfold F5_bestSpots_22
    rw [pow_N hN6]
    refine ⟨fun z => ?_, fun _ => ?_⟩
    · exfalso; have := (qle (by omega) (by omega)).mp z; omega
    · have mb := (mnV_b (f := fPC (bnQ S I r N) N (ttP S I r N B) 100000000) (F := 100000000) m).1
      have em : mnV (fPC (bnQ S I r N) N (ttP S I r N B) 100000000) 100000000 (m + 1) = (if mnV (fPC (bnQ S I r N) N (ttP S I r N B) 100000000) 100000000 m ≤ fPC (bnQ S I r N) N (ttP S I r N B) 100000000 m then mnV (fPC (bnQ S I r N) N (ttP S I r N B) 100000000) 100000000 m else fPC (bnQ S I r N) N (ttP S I r N B) 100000000 m) := rfl
      have ep : mnP (fPC (bnQ S I r N) N (ttP S I r N B) 100000000) 100000000 (m + 1) = (if mnV (fPC (bnQ S I r N) N (ttP S I r N B) 100000000) 100000000 m ≤ fPC (bnQ S I r N) N (ttP S I r N B) 100000000 m then mnP (fPC (bnQ S I r N) N (ttP S I r N B) 100000000) 100000000 m else m) := rfl
      unfold F5_tryChair
      refine try_L (J := J) (u := X 57) hT hn hQ hN6 h50 (m := m) (by omega) (fun Y J2 ok y1 y2 y57 y3 y4 y5 => ?_) (fun Y J2 ok y1 y2 y57 => ?_) N n 0 X J' (by omega) (by omega) rfl c1 c2 rfl (fun j hj => by omega)
      · intro _
        refine ⟨fun _ => ?_, fun z => absurd z (by decide)⟩
        have e3 : fPC (bnQ S I r N) N (ttP S I r N B) 100000000 m = ttP S I r N B m := if_pos ok
        rw [e3] at em ep
        obtain ⟨⟨q, q1, q2⟩, ⟨p, p1, p2⟩⟩ := chP_b (r := r) (N := N) (m := m) hKL N hN6
        -- the class's words now
        have hQY : CQ S Y r (WP r N m) := by
          refine ⟨y1.st hQ.1, fun a h3 h12 => ?_, fun a h3 h12 => ?_⟩
          · unfold WP Wat
            by_cases a4 : a = 4
            · subst a4; rw [if_pos rfl]; exact y5
            · rw [if_neg a4]
              by_cases a3 : a = 3
              · subst a3; rw [if_pos rfl]; exact y4
              · rw [if_neg a3, y1.2.1 a (by omega)]; exact hQ.2.1 a h3 h12
          · unfold WP Wat
            by_cases a4 : a = 4
            · rw [if_pos a4, p1, qi (by omega)]; omega
            · rw [if_neg a4]
              by_cases a3 : a = 3
              · rw [if_pos a3, q1, qi (by omega)]; omega
              · rw [if_neg a3]; exact hQ.2.2 a h3 h12
        have etm := htt m
        have eY : tQ (tmS r) (fun b => aQ S Y r b (WP r N m)) B = ttP S I r N B m := by
          show _ = tQ (tmS r) (fun b => aQ S I r b (WP r N m)) B
          congr 1
          funext b
          exact aQ_I hQ.FO (y1.ap (by omega)) (fun x hx => y1.ap (by omega))
        unfold F5_timeOfRoad
        refine road_L (J := J2) hT hn hQY hB1 hB (fun Z J3 z1 z2 => ?_) B n 0 Y J2 (by omega) (by omega) rfl (CK.rf _) (CJ.rf _)
        rw [eY]
        have cZ := y1.tr z1
        have b1 := clS_b mb
        have b2 := clS_b etm
        have ecl := clS_le mb etm
        unfold F5_bestSpots_73
        rw [show nI m + 1 = nI (m + 1) from nI_add m 1]
        refine ⟨fun z => ?_, fun z => ?_⟩
        · have z := ecl.mp ((qle (by omega) (by omega)).mp z)
          rw [if_pos z] at em ep
          have key := ih f (m + 1) Z J3 (by omega) (by omega) cZ (y2.trans z2) (fun h l hl => by
            rw [em] at h
            rw [ep, z1.1 57 (by decide), y57]; exact c3 h l hl)
          rw [em] at key
          exact key
        · have z : ¬ mnV (fPC (bnQ S I r N) N (ttP S I r N B) 100000000) 100000000 m ≤ ttP S I r N B m := fun w => z ((qle (by omega) (by omega)).mpr (ecl.mpr w))
          rw [if_neg z] at em ep
          have key := ih f (m + 1) (cpI Z 56 0 57 0 6) J3 (by omega) (by omega) ?_ (y2.trans z2) (fun h l hl => by
            have e57 : cpI Z 56 0 57 0 6 57 l = Z 56 l := by unfold cpI; rw [if_pos ⟨rfl, by omega, by omega⟩, Nat.zero_add, Nat.sub_zero]
            rw [ep, e57, z1.1 56 (by decide)]; exact y3 l hl)
          · rw [em] at key
            exact key
          · have cn : ∀ x, x ≠ 57 → (cpI Z 56 0 57 0 6) x = Z x := fun x hx => by funext y; unfold cpI; rw [if_neg (fun z => hx z.1)]
            refine ⟨fun x hx => ?_, fun y hy => by rw [cn 49 (by decide)]; exact cZ.2.1 y hy, fun y hy => by rw [cn 50 (by decide)]; exact cZ.2.2 y hy⟩
            have : ¬ (x = 49 ∨ x = 50 ∨ x = 56 ∨ x = 57) := by simpa using hx
            rw [cn x (by omega)]; exact cZ.1 x hx
      · intro _
        refine ⟨fun z => absurd rfl z, fun _ => ?_⟩
        have e3 : fPC (bnQ S I r N) N (ttP S I r N B) 100000000 m = 100000000 := by unfold fPC; rw [ok, if_neg (by decide)]
        rw [e3, if_pos mb] at em ep
        unfold F5_bestSpots_73
        rw [show nI m + 1 = nI (m + 1) from nI_add m 1]
        have key := ih f (m + 1) Y J2 (by omega) (by omega) y1 y2 (fun h l hl => by
          rw [em] at h
          rw [ep, y57]; exact c3 h l hl)
        rw [em] at key
        exact key
theorem sp_bestSpots (hT : TY S) (hn : 400 < n) (hQ : CQ S I r (WM 63 r N)) (hN : r 0 = nI N) (hN6 : N ≤ 6) (hB1 : r 1 = nI B) (hB : B ≤ 12) (h50 : ∀ y, y < 6 → I 50 y = -1) {v1 : Int32} (hv : v1 = -1 ∨ ∃ q, v1 = nI q ∧ q < N) (hk : ∀ (X : tHI) (J' : tHJ), CP I X → CJ J J' → k (anP S I r N B v1) X J') : F5_bestSpots n S I J v1 k := by
  have hpow : 2 ^ N ≤ 64 := by
    have : N = 0 ∨ N = 1 ∨ N = 2 ∨ N = 3 ∨ N = 4 ∨ N = 5 ∨ N = 6 := by omega
    rcases this with g | g | g | g | g | g | g <;> subst g <;> decide
  have e20 : I 2 0 = nI N := by have : I 2 0 = r 0 := hQ.1.1.2.2.1; rw [this, hN]
  unfold F5_bestSpots
  rw [e20, if_neg (fun q => by have := (qlt (a := 6) (by omega) (by omega)).mp q; omega)]
  exact bs_L (J := J) hT hn hQ hN hN6 hB1 hB h50 hv hk (2 ^ N) n 0 I J (by omega) (by omega) (CP.rf I) (CJ.rf J) (fun h => absurd h (Nat.lt_irrefl _))
end PU
