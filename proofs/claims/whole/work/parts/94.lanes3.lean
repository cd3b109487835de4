/-! lanes, III: the model; both -/
section LN3
variable {n : Nat} {S : tSH} {I : tHI} {J : tHJ} {k : Int32 → tHI → tHJ → Prop} {hs : Nat → Nat} {B lane : Nat}
def X83 (I X : tHI) : Prop := ∀ x, x ≠ 83 → X x = I x
theorem sp_holesM (hn : 10 < n) {b l h : Nat} (hb : b < 12) (hl : l < 3) (h63 : I 63 (38 + 4 * b + 3) = nI h) (hh : h ≤ 31) (hk : k (nI (hol h l)) I J) : F12_holesUnder n S I J (nI b) (nI l) k := by
  obtain ⟨m, rfl⟩ : ∃ m, n = m + 4 := ⟨n - 4, by omega⟩
  obtain ⟨o1, o2⟩ := ofB (S := S) (I := I) (J := J) hb (q := 3) (by decide) (v := nI b) rfl (w := 3) rfl
  have hstep : ∀ (g : Nat) (s : Int32) (x : Nat), x < 3 → F12_holesUnder_L5 (m + 4) S k g I J (nI b) (nI l) (s + ((nI h >>> ((nI l + nI x) &&& 31)) &&& 1)) (nI (x + 1)) → F12_holesUnder_L5 (m + 4) S k (g + 1) I J (nI b) (nI l) s (nI x) := by
    intro g s x hx hka
    show F12_holesUnder_5 (m + 4) S k (F12_holesUnder_L5 (m + 4) S k g) I J (nI b) (nI l) s (nI x)
    unfold F12_holesUnder_5
    refine ⟨fun q => ?_, fun _ => ⟨o2, ?_⟩⟩
    · exfalso; have := (qle (a := 3) (by omega) (by omega)).mp q; omega
    · rw [o1, h63, show nI x + 1 = nI (x + 1) from nI_add x 1]
      exact hka
  have e := hol_m h (by omega) l hl
  unfold F12_holesUnder
  rw [show (0 : Int32) = nI 0 from rfl]
  refine hstep (m + 3) _ 0 (by omega) (hstep (m + 2) _ 1 (by omega) (hstep (m + 1) _ 2 (by omega) ?_))
  rw [show (0 : Int32) = nI 0 from rfl] at e
  rw [e]
  show F12_holesUnder_5 (m + 4) S k (F12_holesUnder_L5 (m + 4) S k m) I J (nI b) (nI l) _ (nI 3)
  unfold F12_holesUnder_5
  exact ⟨fun _ => hk, fun q => absurd ((qle (a := 3) (by omega) (by omega)).mpr (Nat.le_refl _)) q⟩
/-- the first lane that costs least -/
theorem bLn_b {t : Nat → Nat} {f : Nat} (hf : f < 3) : f ≤ bLn t f + 1 ∧ bLn t f ≤ f + 1 := by
  have : f = 0 ∨ f = 1 ∨ f = 2 := by omega
  rcases this with g | g | g <;> subst g
  · show 0 ≤ pck t 0 0 1 + 1 ∧ pck t 0 0 1 ≤ 0 + 1
    unfold pck; split <;> omega
  · show 1 ≤ pck t 1 (pck t 1 0 1) 2 + 1 ∧ pck t 1 (pck t 1 0 1) 2 ≤ 1 + 1
    have := pck_lt (t := t) (f := 1) (a := pck t 1 0 1) (x := 2) (pck_lt (by omega) (by omega)) (by omega)
    omega
  · show 2 ≤ pck t 2 1 2 + 1 ∧ pck t 2 1 2 ≤ 2 + 1
    unfold pck; split <;> omega
theorem bLn_f {t : Nat → Nat} {f : Nat} (hf : f < 3) {x : Nat} (hx : x < bLn t f) (hb : f ≤ x + 1 ∧ x ≤ f + 1) : cst t f x ≠ cst t f (bLn t f) := by
  have : f = 0 ∨ f = 1 ∨ f = 2 := by omega
  rcases this with g | g | g <;> subst g
  · have e : bLn t 0 = pck t 0 0 1 := rfl
    rw [e] at hx ⊢
    unfold pck at hx ⊢
    by_cases c : cst t 0 0 ≤ cst t 0 1
    · rw [if_pos c] at hx; omega
    · rw [if_neg c] at hx ⊢
      have : x = 0 := by omega
      subst this; omega
  · have e : bLn t 1 = pck t 1 (pck t 1 0 1) 2 := rfl
    rw [e] at hx ⊢
    by_cases c : cst t 1 0 ≤ cst t 1 1
    · have e2 : pck t 1 0 1 = 0 := if_pos c
      rw [e2] at hx ⊢
      unfold pck at hx ⊢
      by_cases d : cst t 1 0 ≤ cst t 1 2
      · rw [if_pos d] at hx; omega
      · rw [if_neg d] at hx ⊢
        have : x = 0 ∨ x = 1 := by omega
        rcases this with g | g <;> subst g <;> omega
    · have e2 : pck t 1 0 1 = 1 := if_neg c
      rw [e2] at hx ⊢
      unfold pck at hx ⊢
      by_cases d : cst t 1 1 ≤ cst t 1 2
      · rw [if_pos d] at hx ⊢
        have : x = 0 := by omega
        subst this; omega
      · rw [if_neg d] at hx ⊢
        have : x = 0 ∨ x = 1 := by omega
        rcases this with g | g <;> subst g <;> omega
  · have e : bLn t 2 = pck t 2 1 2 := rfl
    rw [e] at hx ⊢
    unfold pck at hx ⊢
    by_cases c : cst t 2 1 ≤ cst t 2 2
    · rw [if_pos c] at hx ⊢; omega
    · rw [if_neg c] at hx ⊢
      have : x = 1 := by omega
      subst this; omega
theorem sp_first (hn : 10 < n) {t : Nat → Nat} {b f : Nat} (hb : b < 13) (hf : f < 3) (ht : ∀ x, x < 3 → I 83 (3 * b + x) = nI (t x)) (htb : ∀ x, x < 3 → t x ≤ 1000000) {v1 : Int32} {kb : tHI → tHJ → Int32 → Int32 → Int32 → Prop} (hk : kb I J v1 (nI (bLn t f)) (nI b + 1)) : ∀ (d g x : Nat), x + d = bLn t f → d < g → F12_lanes_L173 n S k kb g I J v1 (nI f) (nI b) (nI (cst t f (bLn t f))) (nI x) := by
  have hlt := bLn_lt (t := t) (f := f)
  have hbb := bLn_b (t := t) hf
  intro d
  induction d with
  | zero =>
    intro g x hx hg
    obtain ⟨g, rfl⟩ : ∃ z, g = z + 1 := ⟨g - 1, by omega⟩
    have : x = bLn t f := by omega
    show F12_lanes_173 n S k kb (F12_lanes_L173 n S k kb g) I J v1 (nI f) (nI b) _ (nI x)
    unfold F12_lanes_173
    obtain ⟨vx, px⟩ := lf_v (S := S) (J := J) hb ht (x := x) (by omega) hf
    rw [vx, this, if_pos hbb]
    refine ⟨by rw [← this]; exact px, fun _ => hk, fun q => absurd rfl q⟩
  | succ d ih =>
    intro g x hx hg
    obtain ⟨g, rfl⟩ : ∃ z, g = z + 1 := ⟨g - 1, by omega⟩
    show F12_lanes_173 n S k kb (F12_lanes_L173 n S k kb g) I J v1 (nI f) (nI b) _ (nI x)
    unfold F12_lanes_173
    obtain ⟨vx, px⟩ := lf_v (S := S) (J := J) hb ht (x := x) (by omega) hf
    have b1 := cst_le (f := f) (htb (bLn t f) hlt)
    have b2 := cst_le (f := f) (htb x (by omega))
    rw [vx]
    refine ⟨px, fun q => ?_, fun _ => ?_⟩
    · exfalso
      by_cases c : f ≤ x + 1 ∧ x ≤ f + 1
      · rw [if_pos c] at q
        exact bLn_f hf (by omega) c ((qeq (by omega) (by omega)).mp q)
      · rw [if_neg c] at q
        have := (qeq (by omega) (by omega)).mp q
        omega
    · rw [show nI x + 1 = nI (x + 1) from nI_add x 1]
      exact ih g (x + 1) (by omega) (by omega)
theorem walM_L (hn : 10 < n) (hB : B ≤ 12) (hlane : lane < 3) {q : Nat} (hq2 : 2 ≤ q) (hqB : q ≤ B + 1) (hT : ∀ b x, b < B → x < 3 → I 83 (3 * b + x) = nI (tN hs B (B - b) x)) (hk : k (nI (wlk hs B lane (q - 1))) I J) : ∀ (d f b : Nat), b + d = q - 1 → d < f → F12_lanes_L152 n S k f I J (nI q) (nI (wlk hs B lane b)) (nI b) := by
  have e2 : nI q - 2 = nI (q - 2) := by rw [ql 2, qsub hq2]
  intro d
  induction d with
  | zero =>
    intro f b hb hf
    obtain ⟨f, rfl⟩ : ∃ g, f = g + 1 := ⟨f - 1, by omega⟩
    show F12_lanes_152 n S k (F12_lanes_L152 n S k f) I J (nI q) _ (nI b)
    unfold F12_lanes_152
    have : b = q - 1 := by omega
    rw [e2]
    refine ⟨fun _ => by rw [this]; exact hk, fun g => absurd ((qlt (by omega) (by omega)).mpr (by omega)) g⟩
  | succ d ih =>
    intro f b hb hf
    obtain ⟨f, rfl⟩ : ∃ g, f = g + 1 := ⟨f - 1, by omega⟩
    show F12_lanes_152 n S k (F12_lanes_L152 n S k f) I J (nI q) _ (nI b)
    unfold F12_lanes_152
    rw [e2]
    refine ⟨fun g => ?_, fun _ => ?_⟩
    · exfalso; have := (qlt (by omega) (by omega)).mp g; omega
    · refine sp_leastLane hn (by omega) (wlk_lt hlane b) (fun x hx => hT b x (by omega) hx) (fun x hx => tb6 hB) ?_
      refine sp_first hn (by omega) (wlk_lt hlane b) (fun x hx => hT b x (by omega) hx) (fun x hx => tb6 hB) ?_ (bLn (tN hs B (B - b)) (wlk hs B lane b)) n 0 (by omega) (by have := bLn_lt (t := tN hs B (B - b)) (f := wlk hs B lane b); omega)
      rw [show nI b + 1 = nI (b + 1) from nI_add b 1]
      exact ih f (b + 1) (by omega) (by omega)
theorem lanM_in (hn : 10 < n) (hB : B ≤ 12) (hh : ∀ b, b < 12 → I 63 (38 + 4 * b + 3) = nI (hs b) ∧ hs b ≤ 31) {kb31 : tHI → tHJ → Int32 → Int32 → Int32 → Prop} {v1 : Int32} {b : Nat} (hb : b < B) (hk : ∀ X : tHI, X83 I X → TB (X 83) hs B b 3 → kb31 X J v1 (nI B) (nI b - 1)) : ∀ (d f l : Nat) (X : tHI), l + d = 3 → d < f → X83 I X → TB (X 83) hs B b l → F12_lanes_L38 n S k kb31 f X J v1 (nI B) (nI b) (nI l) := by
  intro d
  induction d with
  | zero =>
    intro f l X hl hf c1 c2
    obtain ⟨f, rfl⟩ : ∃ g, f = g + 1 := ⟨f - 1, by omega⟩
    have : l = 3 := by omega
    subst this
    show F12_lanes_38 n S k kb31 (F12_lanes_L38 n S k kb31 f) X J v1 (nI B) (nI b) (nI 3)
    unfold F12_lanes_38
    refine ⟨fun _ => ?_, fun g => absurd ((qle (a := 3) (by omega) (by omega)).mpr (Nat.le_refl _)) g⟩
    rw [← Int32.sub_eq_add_neg]
    exact hk X c1 c2
  | succ d ih =>
    intro f l X hl hf c1 c2
    obtain ⟨f, rfl⟩ : ∃ g, f = g + 1 := ⟨f - 1, by omega⟩
    show F12_lanes_38 n S k kb31 (F12_lanes_L38 n S k kb31 f) X J v1 (nI B) (nI b) (nI l)
    have hl3 : l < 3 := by omega
    obtain ⟨x1, x2⟩ := hh b (by omega)
    have e1 : nI b + 1 = nI (b + 1) := nI_add b 1
    have e3 : 3 * nI b + nI l = nI (3 * b + l) := by rw [ql 3, qmul, nI_add]
    have hle := hol_le (h := hs b) (l := l)
    have fin : ∀ s0 : Nat, s0 ≤ 1000000 → tN hs B (B - b) l = 100 * hol (hs b) l + s0 → F12_lanes_84 n S k kb31 (F12_lanes_L38 n S k kb31 f) X J v1 (nI B) (nI b) (nI l) (nI s0) (100 * nI (hol (hs b) l)) (nI (3 * b + l)) := by
      intro s0 hs0 et
      unfold F12_lanes_84
      have ev : 100 * nI (hol (hs b) l) + nI s0 = nI (tN hs B (B - b) l) := by rw [ql 100, qmul, nI_add, et]
      rw [ev, show nI l + 1 = nI (l + 1) from nI_add l 1, qn (by omega)]
      refine ⟨(qin (by omega)).mpr (by omega), ih f (l + 1) _ (by omega) (by omega) (fun x hx => by rw [uIn hx, c1 x hx]) ?_⟩
      rw [uIe]
      exact c2.add hl3 rfl
    unfold F12_lanes_38
    rw [e1, e3]
    refine ⟨fun g => ?_, fun _ => ?_⟩
    · exfalso; have := (qle (a := 3) (by omega) (by omega)).mp g; omega
    · refine sp_holesM hn (by omega) hl3 (by rw [c1 63 (by decide)]; exact x1) x2 ?_
      have eB : nI B - 1 = nI (B - 1) := qpred (by omega)
      rw [eB]
      refine ⟨fun g => ?_, fun g => ?_⟩
      · have g2 : b + 1 < B := by
          by_cases z : b + 1 < B
          · exact z
          · exact absurd (by rw [show B - 1 = b by omega]) g
        refine sp_leastLane hn (by omega) hl3 (fun x hx => c2.at (by omega) g2 x hx) (fun x hx => tb6 hB) ?_
        have t2 := tN_le (hs := hs) (B := B) (B - (b + 1)) (bLn (tN hs B (B - (b + 1))) l)
        have t3 := cst_le (f := l) t2
        exact fin _ (by omega) (by rw [tN_eq hb, if_neg (by omega)])
      · have := (qeq (by omega) (by omega)).mp g
        exact fin 0 (by omega) (by rw [tN_eq hb, if_pos (by omega)])
theorem lanM_out (hn : 20 < n) (hB : B ≤ 12) (h11 : I 63 11 = nI lane) (hlane : lane < 3) (hh : ∀ b, b < 12 → I 63 (38 + 4 * b + 3) = nI (hs b) ∧ hs b ≤ 31) {q : Nat} (hqB : q ≤ B + 1) (hk : ∀ X : tHI, X83 I X → k (anL hs B lane q) X J) : ∀ (c f : Nat) (X : tHI), c ≤ B → c < f → X83 I X → (∀ b x, b < B → x < 3 → c ≤ b → X 83 (3 * b + x) = nI (tN hs B (B - b) x)) → F12_lanes_L31 n S k f X J (nI q) (nI B) (nI c - 1) := by
  intro c
  induction c with
  | zero =>
    intro f X hc hf c1 c2
    obtain ⟨f, rfl⟩ : ∃ g, f = g + 1 := ⟨f - 1, by omega⟩
    show F12_lanes_31 n S k (F12_lanes_L31 n S k f) X J (nI q) (nI B) (nI 0 - 1)
    have x11 : X 63 11 = nI lane := by rw [c1 63 (by decide)]; exact h11
    have key := hk X c1
    have fin : ∀ s : Int32, s = s0L hs B lane → F12_lanes_118 n S k X J (nI q) s := by
      intro s e
      unfold F12_lanes_118
      unfold anL at key
      rw [x11, e]
      refine ⟨fun g => ?_, fun g => ?_⟩
      · have g2 : 2 ≤ q := (qle (a := 2) (by omega) (by omega)).mp g
        rw [if_pos g2] at key
        exact walM_L (by omega) hB hlane g2 hqB (fun b x p r => c2 b x p r (by omega)) key (q - 1) n 0 (by omega) (by omega)
      · have g2 : ¬ 2 ≤ q := fun z => g ((qle (a := 2) (by omega) (by omega)).mpr z)
        rw [if_neg g2] at key
        have eq0 : (nI q = 0) ↔ q = 0 := qeq (b := 0) (by omega) (by omega)
        by_cases z : q = 0
        · rw [if_pos z] at key; rw [if_pos (eq0.mpr z)]; exact key
        · rw [if_neg z] at key; rw [if_neg (fun w => z (eq0.mp w))]; exact key
    unfold F12_lanes_31
    rw [x11]
    refine ⟨fun _ => ⟨fun z => ?_, fun z => ?_⟩, fun g => absurd (show nI 0 - 1 < 0 by decide) g⟩
    · have hB0 : B ≠ 0 := fun w => z (by rw [w]; rfl)
      refine sp_leastLane (t := tN hs B B) (b := 0) (f := lane) (by omega) (by omega) hlane (fun x hx => c2 0 x (by omega) hx (by omega)) (fun x hx => by have := tN_le (hs := hs) (B := B) B x; omega) (fin _ ?_)
      unfold s0L
      rw [if_neg hB0]
    · have hB0 : B = 0 := (qeq (b := 0) (by omega) (by omega)).mp z
      refine fin 0 ?_
      unfold s0L
      rw [if_pos hB0]
  | succ c ih =>
    intro f X hc hf c1 c2
    obtain ⟨f, rfl⟩ : ∃ g, f = g + 1 := ⟨f - 1, by omega⟩
    show F12_lanes_31 n S k (F12_lanes_L31 n S k f) X J (nI q) (nI B) (nI (c + 1) - 1)
    unfold F12_lanes_31
    rw [qpred (by omega), Nat.add_sub_cancel]
    refine ⟨fun g => ?_, fun _ => ?_⟩
    · exfalso; rw [Int32.lt_iff_toInt_lt, qi (by omega), tz0] at g; omega
    · refine lanM_in (I := I) (hs := hs) (b := c) (by omega) hB hh (by omega) (fun Y y1 y2 => ih f Y (by omega) (by omega) y1 (fun b x p r s => y2 b x p r (by omega))) 3 n 0 X (by omega) (by omega) c1 (fun b' x p r s => c2 b' x p r (by omega))
theorem st_lanes (hn : 400 < n) : tSt_lanes n Inv := by
  intro S I J v1 h
  have hR := h.2.1
  have hRK := hR.2.2.2.2.2.1
  obtain ⟨B, b1, b2⟩ := hRK.1.2.1
  obtain ⟨lane, l1, l2⟩ := hRK.2.2.1.2.2.1
  have l1 : I 63 11 = nI lane := l1
  have e70 : I 7 0 = nI B := by have : I 7 0 = I 63 1 := hR.1.2.2.2.1; rw [this, b1]
  have hi : (1 + I 7 0).toInt = B + 1 := by rw [e70, show 1 + nI B = nI (1 + B) from nI_add 1 B, qi (by omega)]; omega
  have hi2 : (1 + (I 63 1).toInt64).toInt = B + 1 := by
    have e1 : (1 : Int64).toInt = 1 := by decide
    have e2 : (I 63 1).toInt64.toInt = B := by rw [Int32.toInt_toInt64, b1, qi (by omega)]
    rw [tl_add (by rw [e1, e2]; omega) (by rw [e1, e2]; omega), e1, e2]; omega
  have em : ∀ X : tHI, X 63 = I 63 → V12_in v1.toInt64 0 (1 + (X 63 1).toInt64) = V11_within v1 0 (1 + I 7 0) := fun X e => by rw [e]; exact inwi (by decide) (by rw [hi, hi2])
  have hh : ∀ b, b < 12 → I 63 (38 + 4 * b + 3) = nI (I 63 (38 + 4 * b + 3)).toNatClampNeg ∧ (I 63 (38 + 4 * b + 3)).toNatClampNeg ≤ 31 := fun b hb => by
    obtain ⟨-, -, -, hq, h1, h2⟩ := hRK.2.2.2.1 b hb
    rw [h1, qn (by omega)]
    exact ⟨rfl, h2⟩
  unfold F11_lanes
  refine ⟨fun c => ?_, fun c => ?_⟩
  · have hv : 0 ≤ v1.toInt ∧ v1.toInt ≤ B + 1 := by have c := wi1.mp c; rw [hi, tz0] at c; exact c
    obtain ⟨q, rfl, q2, q3⟩ := nat_of (v := v1) (m := B + 2) hv.1 (by omega)
    unfold F5_lanesRow
    refine F_fill (N := 39) (by omega) h.1.l54 (by omega) ?_
    have f0 : ∀ x, x ≠ 54 → fillI I 54 0 39 0 x = I x := fun x hx => by funext y; unfold fillI; rw [if_neg (by omega)]
    have x70 : fillI I 54 0 39 0 7 0 = nI B := by rw [f0 7 (by decide)]; exact e70
    rw [e70]
    have e12 : (if 12 < nI B then 12 else nI B) = nI B := if_neg (fun z => by have := (qlt (a := 12) (by omega) (by omega)).mp z; omega)
    rw [e12]
    refine lan_out (I := fillI I 54 0 39 0) (hs := fun b => (I 63 (38 + 4 * b + 3)).toNatClampNeg) (lane := lane) (by omega) b2 x70 ?_ (by omega) (fun b hb => ?_) (by omega) (fun X hX => ?_) B n _ (by omega) (by omega) (fun _ _ => rfl) (fun b x p r s => by omega)
    · rw [f0 15 (by decide)]
      have : I 15 1 = I 63 11 := hR.2.2.2.2.1.2.1
      rw [this, l1]
    · rw [f0 11 (by decide)]
      have : I 11 b = I 63 (38 + 4 * b + 3) := (hR.2.2.1 b hb).2.2.2
      rw [this]
      exact hh b hb
    · have hX' : ∀ x, x ≠ 54 → X x = I x := fun x hx => by rw [hX x hx, f0 x hx]
      have hI2 : Inv S X J := h.keep ⟨fun x hx => hX' x (by omega), fun x hx => hX' x (fun q => by subst q; revert hx; decide), fun y _ => by rw [hX' 0 (by decide)], fun y _ => by rw [hX' 61 (by decide)], by rw [hX' 40 (by decide)], fun y _ => by rw [hX' 49 (by decide)], fun y _ => by rw [hX' 50 (by decide)], fun y _ => by rw [hX' 66 (by decide)]⟩ (KpJ.rf J)
      have hI3 := hI2.th
      have e63' : (uI X 61 0 0) 63 = I 63 := by rw [uIn (by decide), hX' 63 (by decide)]
      show F12_lanes n S X J (nI q) _
      unfold F12_lanes
      refine ⟨fun _ => ?_, fun g => absurd ((em (uI X 61 0 0) e63').symm.trans g) c⟩
      rw [e63', b1]
      refine lanM_out (I := uI X 61 0 0) (hs := fun b => (I 63 (38 + 4 * b + 3)).toNatClampNeg) (lane := lane) (by omega) b2 (by rw [e63']; exact l1) (by omega) (fun b hb => by rw [e63']; exact hh b hb) (by omega) (fun Y hY => ⟨rfl, ?_⟩) B n _ (by omega) (by omega) (fun _ _ => rfl) (fun b x p r s => by omega)
      exact hI3.keep ⟨fun x hx => hY x (by omega), fun x hx => hY x (fun q => by subst q; revert hx; decide), fun y _ => by rw [hY 0 (by decide)], fun y _ => by rw [hY 61 (by decide)], by rw [hY 40 (by decide)], fun y _ => by rw [hY 49 (by decide)], fun y _ => by rw [hY 50 (by decide)], fun y _ => by rw [hY 66 (by decide)]⟩ (KpJ.rf J)
  · show F12_lanes n S I J v1 (fun y I2 J2 => -1 = y ∧ Inv S I2 J2)
    unfold F12_lanes
    exact ⟨fun g => absurd ((em (uI I 61 0 0) (uIn (by decide))).trans c) g, fun _ => ⟨rfl, h.th⟩⟩
end LN3
