/-! putting, III: the model; both -/
section PM
variable {n : Nat} {S : tSH} {I : tHI} {J : tHJ} {k : Int32 → tHI → tHJ → Prop} {r W : Nat → Int32} {N B : Nat}
/-- the row with the spots of a code -/
def rwP (r : Nat → Int32) (N c : Nat) (y : Nat) : Int32 := if 14 ≤ y ∧ y - 14 < N then nI (c / 4 ^ (N - 1 - (y - 14)) % 4) else r y
theorem rwP_o {c y : Nat} (h : y < 14 ∨ 20 ≤ y) (hN : N ≤ 6) : rwP r N c y = r y := if_neg (by omega)
theorem rwP_K {c : Nat} (hK : RK r) (hN : N ≤ 6) : RK (rwP r N c) := by
  refine hK.v (fun k hk => rwP_o (by omega) hN) (hK.2.2.1.up (Or.inl (rwP_o (by omega) hN)) (Or.inl (rwP_o (by omega) hN)) (Or.inl (rwP_o (by omega) hN)) (Or.inl (rwP_o (by omega) hN)) (fun i hi => ?_) (fun i hi => Or.inl (rwP_o (by omega) hN)))
  show rwP r N c (9 + (5 + i)) = r (9 + (5 + i)) ∨ ∃ q, rwP r N c (9 + (5 + i)) = nI q ∧ q ≤ 3
  by_cases g : 14 ≤ 9 + (5 + i) ∧ 9 + (5 + i) - 14 < N
  · exact Or.inr ⟨_, if_pos g, by omega⟩
  · exact Or.inl (if_neg g)
theorem WM_P {c a : Nat} (hN : N ≤ 6) : WM 63 (rwP r N c) N a = WP r N (MKS c N) a := by
  have s : ∀ i, i ≤ N → sCh 63 (rwP r N c) i = chP r N (MKS c N) i ∧ sRe 63 (rwP r N c) i = reP r N (MKS c N) i ∧ sLe 63 (rwP r N c) i = sLe 63 r i := by
    intro i
    induction i with
    | zero => intro _; exact ⟨rfl, rfl, rfl⟩
    | succ i ih =>
      intro hi
      obtain ⟨h1, h2, h3⟩ := ih (by omega)
      have e14 : rwP r N c (14 + i) = nI (c / 4 ^ (N - 1 - i) % 4) := by
        unfold rwP
        rw [if_pos (by omega), Nat.add_sub_cancel_left]
      have eb : bitP N (MKS c N) i = c / 4 ^ (N - 1 - i) % 4 / 2 := MKS_bit N (N - 1 - i) (by omega)
      have ec : chP r N (MKS c N) (i + 1) = chP r N (MKS c N) i + (if bitP N (MKS c N) i = 0 then 0 else r (26 + i)) := rfl
      have er : reP r N (MKS c N) (i + 1) = reP r N (MKS c N) i + (if bitP N (MKS c N) i = 0 then r (26 + i) else 0) := rfl
      have l2 : nI (c / 4 ^ (N - 1 - i) % 4) < 2 ↔ c / 4 ^ (N - 1 - i) % 4 < 2 := qlt (b := 2) (by omega) (by omega)
      simp only [sCh, sRe, sLe]
      rw [h1, h2, h3, e14, rwP_o (y := 26 + i) (by omega) hN, rwP_o (y := 32 + i) (by omega) hN, rwP_o (y := 20 + i) (by omega) hN, mB63 i (by omega), ec, er, eb, if_pos rfl, if_pos rfl]
      by_cases g : c / 4 ^ (N - 1 - i) % 4 < 2
      · rw [if_pos (l2.mpr g), if_pos (l2.mpr g), if_pos (show c / 4 ^ (N - 1 - i) % 4 / 2 = 0 by omega), if_pos (show c / 4 ^ (N - 1 - i) % 4 / 2 = 0 by omega), Int32.add_zero]
        exact ⟨rfl, rfl, rfl⟩
      · rw [if_neg (fun z => g (l2.mp z)), if_neg (fun z => g (l2.mp z)), if_neg (show ¬ c / 4 ^ (N - 1 - i) % 4 / 2 = 0 by omega), if_neg (show ¬ c / 4 ^ (N - 1 - i) % 4 / 2 = 0 by omega), Int32.add_zero]
        exact ⟨rfl, rfl, rfl⟩
  obtain ⟨s1, s2, s3⟩ := s N (Nat.le_refl _)
  unfold WP WM Wat
  rw [s1, s2, s3, rwP_o (by omega) hN, rwP_o (by omega) hN, rwP_o (by omega) hN]
  by_cases g4 : a = 4
  · subst g4; rfl
  · by_cases g3 : a = 3
    · subst g3; rfl
    · simp [g3, g4]
/-- the model's frame -/
def MP (I X : tHI) (N : Nat) : Prop := (∀ x, x ≠ 61 → x ≠ 63 → x ≠ 85 → X x = I x) ∧ (∀ y, y ∉ [34, 38, 42, 43, 44] → X 61 y = I 61 y) ∧ ∀ y, ¬ (14 ≤ y ∧ y - 14 < N) → X 63 y = I 63 y
theorem MP.tr {X Y : tHI} (c : MP I X N) (d : MK X Y) : MP I Y N := ⟨fun x p q s => by rw [d.1 x p]; exact c.1 x p q s, fun y hy => by rw [d.2 y hy]; exact c.2.1 y hy, fun y hy => by rw [d.1 63 (by decide)]; exact c.2.2 y hy⟩
theorem all_L (hn : 400 < n) (hM : MQB S I N B) (hK : RK (I 63)) (hk : ∀ (X : tHI) (J' : tHJ), MK I X → MJ J J' → k (nI (tQ (tmS (I 63)) (fun b => aQ S I (I 63) b (WI I N)) B)) X J') : ∀ (d f b : Nat) (X : tHI) (J' : tHJ), b + d = B → d < f → MK I X → MJ J J' → F12_timesOfAll_L4 n S k f X J' (nI (tQ (tmS (I 63)) (fun b => aQ S I (I 63) b (WI I N)) b)) (nI b) := by
  have hB := hM.2.2.1
  have hB1 := hM.2.2.2.1
  have hFO := hM.1.2.2.2.2.2
  intro d
  induction d with
  | zero =>
    intro f b X J' hb hf c1 c2
    obtain ⟨f, rfl⟩ : ∃ z, f = z + 1 := ⟨f - 1, by omega⟩
    have : b = B := by omega
    subst this
    show F12_timesOfAll_4 n S k (F12_timesOfAll_L4 n S k f) X J' _ (nI b)
    unfold F12_timesOfAll_4 F12_timesOfAll_52
    have x1 : X 63 1 = nI b := by rw [c1.1 63 (by decide)]; exact hB1
    exact ⟨fun _ => hk X J' c1 c2, fun z => absurd (by rw [x1]; exact (qle (by omega) (by omega)).mpr (Nat.le_refl _)) z⟩
  | succ d ih =>
    intro f b X J' hb hf c1 c2
    obtain ⟨f, rfl⟩ : ∃ z, f = z + 1 := ⟨f - 1, by omega⟩
    show F12_timesOfAll_4 n S k (F12_timesOfAll_L4 n S k f) X J' _ (nI b)
    unfold F12_timesOfAll_4 F12_timesOfAll_52
    have e63 : X 63 = I 63 := c1.1 63 (by decide)
    have hu := tmU_b (Q := fun b => aQ S I (I 63) b (WI I N)) (tmS_b (r := I 63)) b
    rw [e63, hB1]
    refine ⟨fun z => ?_, fun _ => ⟨fun z => ?_, fun z => ?_⟩⟩
    · exfalso; have := (qle (by omega) (by omega)).mp z; omega
    · have key := hk X J' c1 c2
      cases hz : zQ (fun b => aQ S I (I 63) b (WI I N)) b with
      | true =>
        exfalso
        unfold tQ at z
        rw [if_pos hz] at z
        have := (qle (a := 100000000) (by omega) (by omega)).mp z
        omega
      | false =>
        obtain ⟨b0, h1, h2⟩ := zQ_n b hz
        have zf := zQ_f (Q := fun b => aQ S I (I 63) b (WI I N)) (b := b0) h2 (B - (b0 + 1))
        rw [show b0 + 1 + (B - (b0 + 1)) = B by omega] at zf
        unfold tQ at key ⊢
        rw [zf, if_neg (by decide)] at key
        rw [hz, if_neg (by decide)]
        exact key
    · have hz : zQ (fun b => aQ S I (I 63) b (WI I N)) b = true := by
        cases hz : zQ (fun b => aQ S I (I 63) b (WI I N)) b with
        | true => rfl
        | false =>
          exfalso
          unfold tQ at z
          rw [hz, if_neg (by decide)] at z
          exact z (Int32.le_refl _)
      have et : tQ (tmS (I 63)) (fun b => aQ S I (I 63) b (WI I N)) b = tmU (tmS (I 63)) (fun b => aQ S I (I 63) b (WI I N)) b := if_pos hz
      refine sp_quickM hn (hM.cg c1) (b := b) (by omega) (fun Y J2 y1 y2 => ?_)
      have eW : WI X N = WI I N := by show WM (X 61 41) (X 63) N = WM (I 61 41) (I 63) N; rw [c1.2 41 (by decide), e63]
      have eq : aQ S X (X 63) b (WI X N) = aQ S I (I 63) b (WI I N) := by rw [e63, eW]; exact aQ_I hFO (c1.1 1 (by decide)) (fun x hx => c1.1 x (by omega))
      have hq60 : aQ S I (I 63) b (WI I N) ≤ 60 := aQ_le
      have f63 : Y 63 = I 63 := by rw [y1.1 63 (by decide)]; exact e63
      rw [eq, et, show nI b + 1 = nI (b + 1) from nI_add b 1]
      have ez : nI (aQ S I (I 63) b (WI I N)) = 0 ↔ aQ S I (I 63) b (WI I N) = 0 := qeq (b := 0) (by omega) (by omega)
      have key := ih f (b + 1) Y J2 (by omega) (by omega) (c1.trans y1) (c2.trans y2)
      have eo : zQ (fun b => aQ S I (I 63) b (WI I N)) (b + 1) = (zQ (fun b => aQ S I (I 63) b (WI I N)) b && decide (1 ≤ aQ S I (I 63) b (WI I N))) := rfl
      by_cases g : aQ S I (I 63) b (WI I N) = 0
      · rw [if_pos (ez.mpr g)]
        refine ⟨⟨fun w => absurd (ez.mpr g) w, fun _ => trivial⟩, ?_⟩
        rw [hz, decide_eq_false (by omega)] at eo
        unfold tQ at key
        rw [eo, if_neg (by decide)] at key
        exact key
      · rw [if_neg (fun w => g (ez.mp w))]
        obtain ⟨tv, tp⟩ := tmM_v (S := S) (J := J2) (X := Y) (by rw [f63]; exact hK) (b := b) (by omega) (p := aQ S I (I 63) b (WI I N)) (by omega) hq60
        rw [f63] at tv
        refine ⟨⟨fun _ => ⟨tp, trivial⟩, fun _ => trivial⟩, ?_⟩
        rw [tv, nI_add]
        rw [hz, decide_eq_true (by omega)] at eo
        unfold tQ at key
        rw [eo, if_pos (by decide)] at key
        exact key
theorem cpP_L (hn : 400 < n) (hN6 : N ≤ 6) {v1 v3 v4 v5 v7 : Int32} {kb : tHI → tHJ → Int32 → Int32 → Int32 → Int32 → Int32 → Prop} (hg : ¬ v4 ≤ v7) (hk : ∀ X : tHI, (∀ x, x ≠ 85 → X x = I x) → (∀ l, l < N → X 85 l = I 63 (14 + l)) → F12_putting_179 n S k kb X J v1 (nI N) v3 v4 v5 v7) : ∀ (d f l : Nat) (X : tHI), l + d = N → d < f → (∀ x, x ≠ 85 → X x = I x) → (∀ j, j < l → X 85 j = I 63 (14 + j)) → F12_putting_L143 n S k kb f X J v1 (nI N) v3 v4 v5 v7 (nI l) := by
  intro d
  induction d with
  | zero =>
    intro f l X hl hf c1 c2
    obtain ⟨f, rfl⟩ : ∃ z, f = z + 1 := ⟨f - 1, by omega⟩
    have : l = N := by omega
    subst this
    show F12_putting_143 n S k kb (F12_putting_L143 n S k kb f) X J v1 (nI l) v3 v4 v5 v7 (nI l)
    unfold F12_putting_143
    exact ⟨fun _ => hk X c1 c2, fun z => absurd ((qle (by omega) (by omega)).mpr (Nat.le_refl _)) z⟩
  | succ d ih =>
    intro f l X hl hf c1 c2
    obtain ⟨f, rfl⟩ : ∃ z, f = z + 1 := ⟨f - 1, by omega⟩
    show F12_putting_143 n S k kb (F12_putting_L143 n S k kb f) X J v1 (nI N) v3 v4 v5 v7 (nI l)
    unfold F12_putting_143
    have e14 : 14 + nI l = nI (14 + l) := nI_add 14 l
    rw [e14, qn (by omega), qn (by omega), show nI l + 1 = nI (l + 1) from nI_add l 1]
    refine ⟨fun z => ?_, fun _ => ⟨fun z => absurd z hg, fun _ => ⟨(qin (by omega)).mpr (by omega), (qin (by omega)).mpr (by omega), ih f (l + 1) _ (by omega) (by omega) (fun x hx => by rw [uIn hx]; exact c1 x hx) (fun j hj => ?_)⟩⟩⟩
    · exfalso; have := (qle (by omega) (by omega)).mp z; omega
    · rw [uIe]
      by_cases g : j = l
      · subst g; rw [upe, c1 63 (by decide)]
      · rw [upn g]; exact c2 j (by omega)
theorem tQ_cg {T : Nat → Nat → Nat} {Q Q' : Nat → Nat} {B : Nat} (h : ∀ b, b < B → Q b = Q' b) : tQ T Q B = tQ T Q' B := by
  have cgz : ∀ j, j ≤ B → zQ Q j = zQ Q' j ∧ tmU T Q j = tmU T Q' j := by
    intro j
    induction j with
    | zero => intro _; exact ⟨rfl, rfl⟩
    | succ j ij =>
      intro hj
      obtain ⟨a1, a2⟩ := ij (by omega)
      refine ⟨?_, ?_⟩
      · show (zQ Q j && decide (1 ≤ Q j)) = (zQ Q' j && decide (1 ≤ Q' j))
        rw [a1, h j (by omega)]
      · show tmU T Q j + T j (Q j) = tmU T Q' j + T j (Q' j)
        rw [a2, h j (by omega)]
  obtain ⟨a1, a2⟩ := cgz B (Nat.le_refl _)
  unfold tQ
  rw [a1, a2]
theorem ed_v {c l : Nat} (hc : c < 4096) (hN6 : N ≤ 6) (hl : l < N) : (nI c >>> ((2 * ((nI N - 1) - nI l)) &&& 31)) &&& 3 = nI (c / 4 ^ (N - 1 - l) % 4) := by
  have e4 : (4 : Nat) ^ (N - 1 - l) = 2 ^ (2 * (N - 1 - l)) := by
    rw [Nat.pow_mul]
  rw [e4, qpred (by omega), qsub (by omega), ql 2, qmul, shr (by omega) (by omega), and3m]
theorem cd_fin (hn : 400 < n) (hM : MQB S I N B) (hK : RK (I 63)) (c63 : I 61 41 = 63) {c : Nat} (hc : c < 4096) {v1 v3 : Int32} {V : Nat} (hV : V ≤ 100000000) {kb : tHI → tHJ → Int32 → Int32 → Int32 → Int32 → Int32 → Prop} {J0 : tHJ} (hk : ∀ (X : tHI) (J' : tHJ), MP I X N → MJ J0 J' → (V ≤ fPM (bnQ S I (I 63) N) N (ttP S I (I 63) N B) 100000000 c → X 85 = I 85) → (¬ V ≤ fPM (bnQ S I (I 63) N) N (ttP S I (I 63) N B) 100000000 c → ∀ l, l < N → X 85 l = nI (c / 4 ^ (N - 1 - l) % 4)) → kb X J' v1 (nI N) v3 (nI (if V ≤ fPM (bnQ S I (I 63) N) N (ttP S I (I 63) N B) 100000000 c then V else fPM (bnQ S I (I 63) N) N (ttP S I (I 63) N B) 100000000 c)) (nI c + 1)) : ∀ (X : tHI) (J' : tHJ) (t : Nat), MP I X N → X 85 = I 85 → MJ J0 J' → (∀ j, j < N → X 63 (14 + j) = nI (c / 4 ^ (N - 1 - j) % 4)) → t = fPM (bnQ S I (I 63) N) N (ttP S I (I 63) N B) 100000000 c → t ≤ 100000000 → F12_putting_138 n S k kb X J' v1 (nI N) v3 (nI V) (nI c) (nI t) := by
  have hN6 := hM.1.2.2.1
  intro X J' t c1 c85 cJ c3 et ht
  unfold F12_putting_138
  rw [← et] at hk
  have el : nI V ≤ nI t ↔ V ≤ t := qle (by omega) (by omega)
  by_cases g : V ≤ t
  · obtain ⟨m, rfl⟩ : ∃ w, n = w + 1 := ⟨n - 1, by omega⟩
    have key := hk X J' c1 cJ (fun _ => c85) (fun z => absurd g z)
    show F12_putting_143 (m + 1) S k kb (F12_putting_L143 (m + 1) S k kb m) X J' v1 (nI N) v3 (nI V) (nI c) _ 0
    unfold F12_putting_143 F12_putting_179
    rw [if_pos g] at key
    rw [if_pos (el.mpr g)]
    exact ⟨fun _ => key, fun _ => ⟨fun _ => key, fun z => absurd (el.mpr g) z⟩⟩
  · refine cpP_L (I := X) hn hN6 (fun z => g (el.mp z)) (fun Z z1 z2 => ?_) N n 0 X (by omega) (by omega) (fun _ _ => rfl) (fun j hj => by omega)
    unfold F12_putting_179
    have key := hk Z J' ⟨fun x p q s => by rw [z1 x s]; exact c1.1 x p q s, fun y hy => by rw [z1 61 (by decide)]; exact c1.2.1 y hy, fun y hy => by rw [z1 63 (by decide)]; exact c1.2.2 y hy⟩ cJ (fun z => absurd z g) (fun _ l hl => by rw [z2 l hl]; exact c3 l hl)
    rw [if_neg g] at key
    rw [if_neg (fun z => g (el.mp z))]
    exact key
/-- one code -/
theorem cd_L (hn : 400 < n) (hM : MQB S I N B) (hK : RK (I 63)) (c63 : I 61 41 = 63) {c : Nat} (hc : c < 4096) {v1 v3 : Int32} {V : Nat} (hV : V ≤ 100000000) {kb : tHI → tHJ → Int32 → Int32 → Int32 → Int32 → Int32 → Prop} {J0 : tHJ} (hk : ∀ (X : tHI) (J' : tHJ), MP I X N → MJ J0 J' → (V ≤ fPM (bnQ S I (I 63) N) N (ttP S I (I 63) N B) 100000000 c → X 85 = I 85) → (¬ V ≤ fPM (bnQ S I (I 63) N) N (ttP S I (I 63) N B) 100000000 c → ∀ l, l < N → X 85 l = nI (c / 4 ^ (N - 1 - l) % 4)) → kb X J' v1 (nI N) v3 (nI (if V ≤ fPM (bnQ S I (I 63) N) N (ttP S I (I 63) N B) 100000000 c then V else fPM (bnQ S I (I 63) N) N (ttP S I (I 63) N B) 100000000 c)) (nI c + 1)) : ∀ (d f l : Nat) (X : tHI) (J' : tHJ), l + d = N → d < f → MP I X N → X 85 = I 85 → MJ J0 J' → (∀ j, j < l → X 63 (14 + j) = nI (c / 4 ^ (N - 1 - j) % 4)) → F12_putting_L61 n S k kb f X J' v1 (nI N) v3 (nI V) (nI c) (if okC (bnQ S I (I 63) N) N c l = true then 1 else 0) (nI l) := by
  have hB := hM.2.2.1
  have hB1 := hM.2.2.2.1
  have hN6 := hM.1.2.2.1
  have hN1 := hM.1.2.1
  have hFO := hM.1.2.2.2.2.2
  have fin := cd_fin (J0 := J0) (v1 := v1) (v3 := v3) (kb := kb) (k := k) hn hM hK c63 hc hV hk
  intro d
  induction d with
  | zero =>
    intro f l X J' hl hf c1 c85 cJ c3
    obtain ⟨f, rfl⟩ : ∃ z, f = z + 1 := ⟨f - 1, by omega⟩
    have : l = N := by omega
    subst this
    show F12_putting_61 n S k kb (F12_putting_L61 n S k kb f) X J' v1 (nI l) v3 (nI V) (nI c) _ (nI l)
    unfold F12_putting_61
    refine ⟨fun _ => ⟨fun z => ?_, fun z => ?_⟩, fun z => absurd ((qle (by omega) (by omega)).mpr (Nat.le_refl _)) z⟩
    · have ok : okC (bnQ S I (I 63) l) l c l = false := by
        cases ok : okC (bnQ S I (I 63) l) l c l with
        | true => rw [ok, if_pos rfl] at z; exact absurd z (by decide)
        | false => rfl
      have e8 : fPM (bnQ S I (I 63) l) l (ttP S I (I 63) l B) 100000000 c = 100000000 := if_neg (fun w => by rw [ok] at w; exact absurd w (by decide))
      exact fin X J' _ c1 c85 cJ c3 e8.symm (Nat.le_refl _)
    · have ok : okC (bnQ S I (I 63) l) l c l = true := by
        cases ok : okC (bnQ S I (I 63) l) l c l with
        | true => rfl
        | false => rw [ok, if_neg (by decide)] at z; exact absurd rfl z
      have e63 : X 63 = rwP (I 63) l c := by
        funext y
        unfold rwP
        by_cases g : 14 ≤ y ∧ y - 14 < l
        · rw [if_pos g]
          have := c3 (y - 14) g.2
          rw [show 14 + (y - 14) = y by omega] at this
          exact this
        · rw [if_neg g]; exact c1.2.2 y g
      have hX1 : X 1 = I 1 := c1.1 1 (by decide) (by decide) (by decide)
      have hX89 : ∀ x, 89 ≤ x → X x = I x := fun x hx => c1.1 x (by omega) (by omega) (by omega)
      have e41 : X 61 41 = 63 := by rw [c1.2.1 41 (by decide)]; exact c63
      have hMX : MQB S X l B := MQB.of (by rw [c1.2.1 20 (by decide)]; exact hM.1.1) e41 (by rw [e63]; exact rwP_K hK hN6) (by rw [e63, rwP_o (by omega) hN6]; exact hN1) hN6 (by rw [e63, rwP_o (by omega) hN6]; exact hB1) hB (by rw [e63]; exact hFO.cg hX1 hX89 (rwP_o (by omega) hN6) (fun y hy => rwP_o (by omega) hN6))
      unfold F12_timesOfAll
      refine all_L (J := J') hn hMX (by rw [e63]; exact rwP_K hK hN6) (fun Y J2 y1 y2 => ?_) B n 0 X J' (by omega) (by omega) (MK.rf _) (MJ.rf _)
      have et : tQ (tmS (X 63)) (fun b => aQ S X (X 63) b (WI X l)) B = ttP S I (I 63) l B (MKS c l) := by
        have eW : WI X l = WM 63 (rwP (I 63) l c) l := by show WM (X 61 41) (X 63) l = _; rw [e41, e63]
        have eT : tmS (X 63) = tmS (I 63) := by
          funext b p
          unfold tmS
          rw [e63, rwP_o (by omega) hN6]
        have eQ : ∀ b, b < B → aQ S X (X 63) b (WI X l) = aQ S I (I 63) b (WP (I 63) l (MKS c l)) := fun b hb => by
          rw [eW, e63, aQ_I hFO hX1 hX89]
          exact aQ_row (by omega) (fun y p q => rwP_o (by omega) hN6) (fun a _ _ => WM_P hN6)
        unfold ttP
        rw [eT]
        exact tQ_cg eQ
      rw [et]
      refine fin Y J2 _ (c1.tr y1) (by rw [y1.1 85 (by decide)]; exact c85) (cJ.trans y2) (fun j hj => by rw [y1.1 63 (by decide)]; exact c3 j hj) ?_ (tQ_b tmS_b hB)
      unfold fPM
      rw [if_pos ok]
  | succ d ih =>
    intro f l X J' hl hf c1 c85 cJ c3
    obtain ⟨f, rfl⟩ : ∃ z, f = z + 1 := ⟨f - 1, by omega⟩
    show F12_putting_61 n S k kb (F12_putting_L61 n S k kb f) X J' v1 (nI N) v3 (nI V) (nI c) _ (nI l)
    have ed := ed_v (N := N) (c := c) (l := l) hc hN6 (by omega)
    have e14 : 14 + nI l = nI (14 + l) := nI_add 14 l
    have eo : okC (bnQ S I (I 63) N) N c (l + 1) = (okC (bnQ S I (I 63) N) N c l && !(bnQ S I (I 63) N l (c / 4 ^ (N - 1 - l) % 4))) := rfl
    -- the next load
    have nxt : ∀ (Y : tHI) (J2 : tHJ), MP I Y N → Y 85 = I 85 → MJ J0 J2 → Y 63 = X 63 → F12_putting_L61 n S k kb f (uI Y 63 (14 + l) (nI (c / 4 ^ (N - 1 - l) % 4))) J2 v1 (nI N) v3 (nI V) (nI c) (if okC (bnQ S I (I 63) N) N c (l + 1) = true then 1 else 0) (nI l + 1) := by
      intro Y J2 y1 y2 y3 y4
      rw [show nI l + 1 = nI (l + 1) from nI_add l 1]
      refine ih f (l + 1) _ J2 (by omega) (by omega) ⟨fun x p q s => by rw [uIn q]; exact y1.1 x p q s, fun y hy => by rw [uIn (by decide)]; exact y1.2.1 y hy, fun y hy => ?_⟩ (by rw [uIn (by decide)]; exact y2) y3 (fun j hj => ?_)
      · rw [uIe, upn (by omega)]; exact y1.2.2 y hy
      · rw [uIe]
        by_cases g : j = l
        · subst g; rw [upe]
        · rw [upn (by omega), y4]; exact c3 j (by omega)
    unfold F12_putting_61 F12_putting_102 F12_putting_103
    rw [ed, e14, qn (by omega)]
    refine ⟨fun z => ?_, fun _ => ⟨fun z => ⟨(qin (by omega)).mpr (by omega), ?_⟩, fun z => ?_⟩⟩
    · exfalso; have := (qle (by omega) (by omega)).mp z; omega
    · have ok : okC (bnQ S I (I 63) N) N c l = false := by
        cases ok : okC (bnQ S I (I 63) N) N c l with
        | true => rw [ok, if_pos rfl] at z; exact absurd z (by decide)
        | false => rfl
      have key := nxt X J' c1 c85 cJ rfl
      rw [eo, ok, Bool.false_and, if_neg (by decide)] at key
      exact key
    · have ok : okC (bnQ S I (I 63) N) N c l = true := by
        cases ok : okC (bnQ S I (I 63) N) N c l with
        | true => rfl
        | false => rw [ok, if_neg (by decide)] at z; exact absurd rfl z
      unfold F12_isBanned
      have e26 : 26 + nI l = nI (26 + l) := nI_add 26 l
      have e32 : 32 + nI l = nI (32 + l) := nI_add 32 l
      rw [e26, e32, qn (by omega), qn (by omega)]
      have hX1 : X 1 = I 1 := c1.1 1 (by decide) (by decide) (by decide)
      have hX89 : ∀ x, 89 ≤ x → X x = I x := fun x hx => c1.1 x (by omega) (by omega) (by omega)
      have o : ∀ y, y < 14 ∨ 20 ≤ y → X 63 y = I 63 y := fun y hy => c1.2.2 y (by omega)
      have hFX : FO S X (X 63) := hFO.cg hX1 hX89 (o 4 (by omega)) (fun y hy => o y (by omega))
      refine ⟨(qin (by omega)).mpr (by omega), (qin (by omega)).mpr (by omega), ?_⟩
      refine sp_ban hn (by rw [c1.2.1 20 (by decide)]; exact hM.1.1) hFX (W := WM 63 (I 63) N) (by rw [o 8 (by omega)]; rfl) (by rw [o 13 (by omega)]; rfl) (by rw [o 7 (by omega)]; rfl) (fun Y J2 y1 y2 => ?_)
      have eb : lawB S X (wl (wLd (WM 63 (I 63) N) (X 63 (26 + l)) (nI (c / 4 ^ (N - 1 - l) % 4)) (X 63 (32 + l)))) = bnQ S I (I 63) N l (c / 4 ^ (N - 1 - l) % 4) := by
        rw [o (26 + l) (by omega), o (32 + l) (by omega)]
        exact lawB_I hFO hX1 hX89
      rw [eb]
      intro _ _
      have key := nxt Y J2 (c1.tr y1) (by rw [y1.1 85 (by decide)]; exact c85) (cJ.trans y2) (y1.1 63 (by decide))
      rw [eo, ok, Bool.true_and] at key
      refine ⟨(qin (by omega)).mpr (by omega), ?_⟩
      cases hb : bnQ S I (I 63) N l (c / 4 ^ (N - 1 - l) % 4) with
      | true =>
        rw [hb, if_neg (by decide)] at key
        rw [if_pos rfl, if_neg (by decide)]
        exact key
      | false =>
        rw [hb, if_pos (by decide)] at key
        rw [if_pos (show (if false = true then (1 : Int32) else 0) = 0 from rfl)]
        exact key
theorem pt_L (hn : 5000 < n) (hM : MQB S I N B) (hK : RK (I 63)) (c63 : I 61 41 = 63) (h66 : ∀ i, i < 17 → I 66 (17 * 16 + i) = I 63 (9 + i)) {v1 : Int32} (hv : v1 = -1 ∨ ∃ q, v1 = nI q ∧ q < N) {J0 : tHJ} (hk : ∀ (X : tHI) (J' : tHJ), (∀ x, x ≠ 61 → x ≠ 85 → X x = I x) → (∀ y, y ∉ [34, 38, 42, 43, 44] → X 61 y = I 61 y) → MJ J0 J' → k (anP S I (I 63) N B v1) X J') : ∀ (e f c : Nat) (X : tHI) (J' : tHJ), c + e = 4 ^ N → e < f → MP I X N → MJ J0 J' → (mnV (fPM (bnQ S I (I 63) N) N (ttP S I (I 63) N B) 100000000) 100000000 c < 100000000 → ∀ l, l < N → X 85 l = nI (mnP (fPM (bnQ S I (I 63) N) N (ttP S I (I 63) N B) 100000000) 100000000 c / 4 ^ (N - 1 - l) % 4)) → F12_putting_L49 n S k f X J' v1 (nI N) (nI (4 ^ N)) (nI (mnV (fPM (bnQ S I (I 63) N) N (ttP S I (I 63) N B) 100000000) 100000000 c)) (nI c) := by
  have hN6 := hM.1.2.2.1
  have hFO := hM.1.2.2.2.2.2
  have hpow : 4 ^ N ≤ 4096 := by
    have : N = 0 ∨ N = 1 ∨ N = 2 ∨ N = 3 ∨ N = 4 ∨ N = 5 ∨ N = 6 := by omega
    rcases this with g | g | g | g | g | g | g <;> subst g <;> decide
  intro e
  induction e with
  | zero =>
    intro f c X J' hc hf c1 cJ c2
    obtain ⟨f, rfl⟩ : ∃ z, f = z + 1 := ⟨f - 1, by omega⟩
    have : c = 4 ^ N := by omega
    subst this
    show F12_putting_49 n S k (F12_putting_L49 n S k f) X J' v1 (nI N) _ _ _
    unfold F12_putting_49
    refine ⟨fun _ => ?_, fun z => absurd ((qle (by omega) (by omega)).mpr (Nat.le_refl _)) z⟩
    refine sp_putBack (q := 16) (by omega) (by omega) (fun Y a p q => ?_)
    have key := hk Y J' (fun x h1 h2 => ?_) (fun y hy => by rw [a 61 (by decide)]; exact c1.2.1 y hy) cJ
    · obtain ⟨p1, p2⟩ := put_eq (bn := bnQ S I (I 63) N) (N := N) (tt := ttP S I (I 63) N B) (F := 100000000)
      have mb := (mnV_b (f := fPC (bnQ S I (I 63) N) N (ttP S I (I 63) N B) 100000000) (F := 100000000) (2 ^ N)).1
      unfold anP at key
      rw [p1] at c2 ⊢
      have ef : nI (mnV (fPC (bnQ S I (I 63) N) N (ttP S I (I 63) N B) 100000000) 100000000 (2 ^ N)) = 100000000 ↔ mnV (fPC (bnQ S I (I 63) N) N (ttP S I (I 63) N B) 100000000) 100000000 (2 ^ N) = 100000000 := qeq (b := 100000000) (by omega) (by omega)
      by_cases g : mnV (fPC (bnQ S I (I 63) N) N (ttP S I (I 63) N B) 100000000) 100000000 (2 ^ N) = 100000000
      · rw [if_pos g] at key
        rw [if_pos (ef.mpr g)]
        exact ⟨⟨fun z => absurd (ef.mpr g) z, fun _ => trivial⟩, key⟩
      · rw [if_neg g] at key
        rw [if_neg (fun z => g (ef.mp z))]
        by_cases w : v1 = -1
        · rw [if_pos w] at key
          rw [if_pos w]
          exact ⟨⟨fun _ => ⟨fun z => absurd w z, fun _ => trivial⟩, fun _ => trivial⟩, key⟩
        · rw [if_neg w] at key
          rw [if_neg w]
          obtain ⟨q, rfl, q2⟩ := hv.resolve_left w
          obtain ⟨p3, p4⟩ := p2 (by omega)
          have e85 := c2 (by omega) q q2
          rw [p4, CCS_dig N (N - 1 - q) (by omega), show N - 1 - (N - 1 - q) = q by omega] at e85
          rw [qn (by omega)] at key
          rw [qn (by omega), a 85 (by decide), e85]
          exact ⟨⟨fun _ => ⟨fun _ => ⟨(qin (by omega)).mpr (by omega), trivial⟩, fun z => absurd z w⟩, fun _ => trivial⟩, key⟩
    · by_cases g : x = 63
      · subst g
        funext y
        by_cases g : y < 9 ∨ 26 ≤ y
        · rw [p y g]; exact c1.2.2 y (by omega)
        · have e := q (y - 9) (by omega)
          rw [show 9 + (y - 9) = y by omega] at e
          rw [e, c1.1 66 (by decide) (by decide) (by decide), h66 _ (by omega), show 9 + (y - 9) = y by omega]
      · rw [a x g]; exact c1.1 x h1 g h2
  | succ e ih =>
    intro f c X J' hc hf c1 cJ c2
    obtain ⟨f, rfl⟩ : ∃ z, f = z + 1 := ⟨f - 1, by omega⟩
    show F12_putting_49 n S k (F12_putting_L49 n S k f) X J' v1 (nI N) _ _ _
    unfold F12_putting_49
    refine ⟨fun z => ?_, fun _ => ?_⟩
    · exfalso; have := (qle (by omega) (by omega)).mp z; omega
    · have mb := (mnV_b (f := fPM (bnQ S I (I 63) N) N (ttP S I (I 63) N B) 100000000) (F := 100000000) c).1
      have em : mnV (fPM (bnQ S I (I 63) N) N (ttP S I (I 63) N B) 100000000) 100000000 (c + 1) = (if mnV (fPM (bnQ S I (I 63) N) N (ttP S I (I 63) N B) 100000000) 100000000 c ≤ fPM (bnQ S I (I 63) N) N (ttP S I (I 63) N B) 100000000 c then mnV (fPM (bnQ S I (I 63) N) N (ttP S I (I 63) N B) 100000000) 100000000 c else fPM (bnQ S I (I 63) N) N (ttP S I (I 63) N B) 100000000 c) := rfl
      have ep : mnP (fPM (bnQ S I (I 63) N) N (ttP S I (I 63) N B) 100000000) 100000000 (c + 1) = (if mnV (fPM (bnQ S I (I 63) N) N (ttP S I (I 63) N B) 100000000) 100000000 c ≤ fPM (bnQ S I (I 63) N) N (ttP S I (I 63) N B) 100000000 c then mnP (fPM (bnQ S I (I 63) N) N (ttP S I (I 63) N B) 100000000) 100000000 c else c) := rfl
      -- run about the heap with 85 as it is now
      have hI' : ∀ x, x ≠ 85 → (fun x => if x = 85 then X 85 else I x) x = I x := fun x hx => if_neg hx
      have i85 : (fun x => if x = 85 then X 85 else I x) 85 = X 85 := if_pos rfl
      have i63 : (fun x => if x = 85 then X 85 else I x) 63 = I 63 := hI' 63 (by decide)
      have i61 : (fun x => if x = 85 then X 85 else I x) 61 = I 61 := hI' 61 (by decide)
      generalize hVV : (fun x => if x = 85 then X 85 else I x) = V at *
      have hFV : FO S V (I 63) := hFO.cg (hI' 1 (by decide)) (fun x hx => hI' x (by omega)) rfl (fun _ _ => rfl)
      have hMI : MQB S V N B := MQB.of (by rw [i61]; exact hM.1.1) (by rw [i61]; exact c63) (by rw [i63]; exact hK) (by rw [i63]; exact hM.1.2.1) hN6 (by rw [i63]; exact hM.2.2.2.1) hM.2.2.1 (by rw [i63]; exact hFV)
      have eB : bnQ S V (V 63) N = bnQ S I (I 63) N := by
        funext l s
        rw [i63]
        exact banR_I hFO (hI' 1 (by decide)) (fun x hx => hI' x (by omega))
      have eT : ttP S V (V 63) N B = ttP S I (I 63) N B := by
        funext m
        unfold ttP
        rw [i63]
        congr 1
        funext b
        exact aQ_I hFO (hI' 1 (by decide)) (fun x hx => hI' x (by omega))
      have mV : MP V X N := ⟨fun x p q s => by rw [hI' x s]; exact c1.1 x p q s, fun y hy => by rw [i61]; exact c1.2.1 y hy, fun y hy => by rw [i63]; exact c1.2.2 y hy⟩
      have key := cd_L (n := n) (S := S) (I := V) (k := k) (J0 := J0) (c := c) (V := mnV (fPM (bnQ S I (I 63) N) N (ttP S I (I 63) N B) 100000000) 100000000 c) (v1 := v1) (v3 := nI (4 ^ N)) (kb := F12_putting_L49 n S k f) (by omega) hMI (by rw [i63]; exact hK) (by rw [i61]; exact c63) (by omega) mb (fun Y J2 y1 y2 y3 y4 => ?_) N n 0 X J' (by omega) (by omega) mV i85.symm cJ (fun j hj => by omega)
      · exact key
      · rw [eB, eT] at y3 y4 ⊢
        rw [← em, show nI c + 1 = nI (c + 1) from nI_add c 1]
        refine ih f (c + 1) Y J2 (by omega) (by omega) ⟨fun x p q s => by rw [y1.1 x p q s, hI' x s], fun y hy => by rw [y1.2.1 y hy, i61], fun y hy => by rw [y1.2.2 y hy, i63]⟩ y2 (fun h l hl => ?_)
        rw [ep]
        by_cases g : mnV (fPM (bnQ S I (I 63) N) N (ttP S I (I 63) N B) 100000000) 100000000 c ≤ fPM (bnQ S I (I 63) N) N (ttP S I (I 63) N B) 100000000 c
        · rw [if_pos g, y3 g, i85]
          rw [em, if_pos g] at h
          exact c2 h l hl
        · rw [if_neg g]; exact y4 g l hl
theorem st_putting (hn : 5000 < n) : tSt_putting n Inv := by
  intro S I J v1 h
  obtain ⟨N, B, n1, n2, b1, b2, c63, hM⟩ := h.mq
  have hRK := h.2.1.2.2.2.2.2.1
  have h20 : I 2 0 = nI N := by have : I 2 0 = I 63 0 := h.2.1.1.2.2.1; rw [this, n1]
  have hin : ∀ X : tHI, X 63 = I 63 → (V12_in v1.toInt64 (-1) ((X 63 0).toInt64 - 1) = 0 ↔ ¬ (-1 ≤ v1.toInt ∧ v1.toInt < N)) := by
    intro X e
    have e1 : (1 : Int64).toInt = 1 := by decide
    have e0 : (-1 : Int64).toInt = -1 := by decide
    have e2 : (nI N).toInt64.toInt = N := by rw [Int32.toInt_toInt64, qi (by omega)]
    rw [mi0, e, n1, Int32.toInt_toInt64, e0, tl_sub (by rw [e1, e2]; omega) (by rw [e1, e2]; omega), e1, e2]
    omega
  have main : (v1 = -1 ∨ ∃ q, v1 = nI q ∧ q < N) → F11_putting_21 n S (fun x I1 J1 => F12_putting n S I1 J1 v1 (fun y I2 J2 => x = y ∧ Inv S I2 J2)) I J v1 := by
    intro hv
    have hvi : -1 ≤ v1.toInt ∧ v1.toInt < N := by
      rcases hv with w | ⟨q, q1, q2⟩
      · rw [w, qneg]; omega
      · rw [q1, qi (by omega)]; omega
    unfold F11_putting_21
    refine sp_asIt (r := I 63) (by omega) h.2.1 n1 n2 h.2.2.2.2.2.2.2.1 (fun X x1 x2 hQ => ?_)
    refine sp_bestSpots (J := J) h.1 (by omega) hQ n1 n2 b1 b2 (fun y hy => by rw [x1 50 (by decide)]; exact h.2.2.2.2.2.2.2.2.1 y hy) hv (fun X2 J2 y1 y2 => ?_)
    have hX : ∀ x, x ∉ [49, 50, 56, 57] → X2 x = I x := fun x hx => by
      have : ¬ (x = 49 ∨ x = 50 ∨ x = 56 ∨ x = 57) := by simpa using hx
      rw [y1.1 x hx, x1 x (by omega)]
    have hI2 : Inv S X2 J2 := h.keep ⟨fun x hx => hX x (fun z => by
      have : x = 49 ∨ x = 50 ∨ x = 56 ∨ x = 57 := by simpa using z
      omega), fun x hx => hX x (fun z => by
      have : x = 49 ∨ x = 50 ∨ x = 56 ∨ x = 57 := by simpa using z
      rcases this with q | q | q | q <;> (subst q; revert hx; decide)), fun y _ => by rw [hX 0 (by decide)], fun y _ => by rw [hX 61 (by decide)], by rw [hX 40 (by decide)], fun y hy => by
      have : y = 8 ∨ y = 9 ∨ y = 10 := by simpa using hy
      rw [y1.2.1 y (by omega), x2 y hy], fun y hy => by rw [y1.2.2 y hy, x1 50 (by decide)], fun y _ => by rw [hX 66 (by decide)]⟩ (KpJ.c y2)
    have hI3 := hI2.th
    have e63 : (uI X2 61 0 0) 63 = I 63 := by rw [uIn (by decide)]; exact hX 63 (by decide)
    have c41 : (uI X2 61 0 0) 61 41 = 63 := hI3.2.2.2.2.2.2.1.2
    obtain ⟨N', B', n1', n2', b1', b2', -, hM'⟩ := hI3.mq
    have eN : N' = N := (qeq (by omega) (by omega)).mp (by rw [← n1', e63, n1])
    have eB : B' = B := (qeq (by omega) (by omega)).mp (by rw [← b1', e63, b1])
    subst eN eB
    have g1 : (uI X2 61 0 0) 1 = X 1 := by rw [uIn (by decide), y1.ap (by omega)]
    have g89 : ∀ x, 89 ≤ x → (uI X2 61 0 0) x = X x := fun x hx => by rw [uIn (by omega), y1.ap (by omega)]
    show F12_putting n S X2 J2 v1 (fun y I2 J2 => anP S X (I 63) N' B' v1 = y ∧ Inv S I2 J2)
    unfold F12_putting
    have eh := hin (uI X2 61 0 0) e63
    refine ⟨fun _ => ?_, fun z => absurd (eh.mp z) (fun w => w hvi)⟩
    have e630 : (uI X2 61 0 0) 63 0 = nI N' := by rw [e63]; exact n1
    rw [e630, p4N N' (by omega)]
    generalize (uI X2 61 0 0) = X5 at *
    refine sp_keepAll (q := 16) (by omega) (by omega) (fun Z z1 z2 z3 => ?_)
    have Z63 : Z 63 = I 63 := by rw [z1 63 (by decide)]; exact e63
    have hFX5 : FO S X5 (I 63) := hQ.FO.cg g1 g89 rfl (fun _ _ => rfl)
    have hFZ : FO S Z (I 63) := hFX5.cg (z1 1 (by decide)) (fun x hx => z1 x (by omega)) rfl (fun _ _ => rfl)
    have hMZ : MQB S Z N' B' := MQB.of (by rw [z1 61 (by decide)]; exact hM'.1.1) (by rw [z1 61 (by decide)]; exact c41) (by rw [Z63]; exact hRK) (by rw [Z63]; exact n1) n2 (by rw [Z63]; exact b1) b2 (by rw [Z63]; exact hFZ)
    have hp4 : 4 ^ N' < n := by
      have : N' = 0 ∨ N' = 1 ∨ N' = 2 ∨ N' = 3 ∨ N' = 4 ∨ N' = 5 ∨ N' = 6 := by omega
      rcases this with g | g | g | g | g | g | g <;> rw [g] <;> omega
    refine pt_L (I := Z) (J0 := J2) hn hMZ (by rw [Z63]; exact hRK) (by rw [z1 61 (by decide)]; exact c41) (fun i hi => by rw [z3 i hi, Z63, e63]) hv (fun X3 J3 w1 w2 w3 => ⟨?_, ?_⟩) (4 ^ N') n 0 Z J2 (by omega) hp4 ⟨fun _ _ _ _ => rfl, fun _ _ => rfl, fun _ _ => rfl⟩ (MJ.rf _) (fun z => absurd z (Nat.lt_irrefl _))
    · rw [Z63]
      have eB : bnQ S Z (I 63) N' = bnQ S X (I 63) N' := by
        funext l s
        exact banR_I hQ.FO (by rw [z1 1 (by decide), g1]) (fun x hx => by rw [z1 x (by omega), g89 x hx])
      have eT : ttP S Z (I 63) N' B' = ttP S X (I 63) N' B' := by
        funext m
        unfold ttP
        congr 1
        funext b
        exact aQ_I hQ.FO (by rw [z1 1 (by decide), g1]) (fun x hx => by rw [z1 x (by omega), g89 x hx])
      unfold anP
      rw [eB, eT]
    · exact hI3.keep ⟨fun x hx => by rw [w1 x (by omega) (by omega), z1 x (by omega)], fun x hx => by rw [w1 x (fun q => by subst q; revert hx; decide) (fun q => by subst q; revert hx; decide), z1 x (fun q => by subst q; revert hx; decide)], fun y _ => by rw [w1 0 (by decide) (by decide), z1 0 (by decide)], fun y hy => by rw [w2 y (fun q => by
        have : y = 34 ∨ y = 38 ∨ y = 42 ∨ y = 43 ∨ y = 44 := by simpa using q
        have : y = 1 ∨ y = 8 ∨ y = 11 ∨ y = 13 ∨ y = 18 ∨ y = 20 ∨ y = 41 ∨ y = 53 ∨ y = 57 := by simpa using hy
        omega), z1 61 (by decide)], by rw [w1 40 (by decide) (by decide), z1 40 (by decide)], fun y _ => by rw [w1 49 (by decide) (by decide), z1 49 (by decide)], fun y _ => by rw [w1 50 (by decide) (by decide), z1 50 (by decide)], fun y hy => by rw [w1 66 (by decide) (by decide), z2 y (by omega)]⟩ (KpJ.m w3)
  unfold F11_putting
  have hh := has3 (S := S) (I := I) (J := J) (a := 2) (v := v1)
  rw [h20, qi (by omega)] at hh
  refine ⟨fun c => main (Or.inl c), fun c => ⟨fun d => main (Or.inr ?_), fun d => ?_⟩⟩
  · have d2 : 0 ≤ v1.toInt ∧ v1.toInt < N ∧ v1.toInt < 6 := Classical.byContradiction fun w => d (hh.mpr w)
    obtain ⟨q, q1, q2, q3⟩ := nat_of (v := v1) (m := N) d2.1 d2.2.1
    exact ⟨q, q1, by omega⟩
  · show F12_putting n S I J v1 (fun y I2 J2 => -1 = y ∧ Inv S I2 J2)
    unfold F12_putting
    have e63 : (uI I 61 0 0) 63 = I 63 := uIn (by decide)
    have eh := hin (uI I 61 0 0) e63
    have d2 := hh.mp d
    have nv : ¬ v1.toInt = -1 := fun w => c (Int32.toInt_inj.mp (by rw [w, qneg]))
    exact ⟨fun z => absurd (eh.mpr (by omega)) z, fun _ => ⟨rfl, h.th⟩⟩
end PM
