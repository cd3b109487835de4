/-! learning -/
def mn100 (x : Int32) : Int32 := if x < 100 then x else 100
def rdS (S : tSH) (I : tHI) (r W : Nat → Int32) (s : Int32) : Nat → Int32
  | 0 => s
  | b + 1 => mn100 (rdS S I r W s b + aT S I r b (Wat W 7 (rdS S I r W s b)) 4)
def skS (S : tSH) (I : tHI) (r W : Nat → Int32) (B : Nat) : Nat → Int32
  | 0 => r 13
  | i + 1 => rdS S I r W (skS S I r W B i) B
def frS (sk : Nat → Int32) : Nat → Nat → Int32
  | 0, _ => -1
  | d + 1, i => if 100 ≤ sk i then nI i else frS sk d (i + 1)
section LRN
variable {n : Nat} {S : tSH} {I : tHI} {J : tHJ} {r W : Nat → Int32} {B N : Nat}
theorem rdS_I {X : tHI} {s : Int32} (h : FO S I r) (e1 : X 1 = I 1) (e89 : ∀ x, 89 ≤ x → X x = I x) : ∀ b, rdS S X r W s b = rdS S I r W s b := by
  intro b
  induction b with
  | zero => rfl
  | succ b ih =>
    show mn100 (rdS S X r W s b + aT S X r b (Wat W 7 (rdS S X r W s b)) 4) = mn100 (rdS S I r W s b + aT S I r b (Wat W 7 (rdS S I r W s b)) 4)
    rw [ih, aT_I h e1 e89]
theorem skS_I {X : tHI} (h : FO S I r) (e1 : X 1 = I 1) (e89 : ∀ x, 89 ≤ x → X x = I x) : ∀ i, skS S X r W B i = skS S I r W B i := by
  intro i
  induction i with
  | zero => rfl
  | succ i ih =>
    show rdS S X r W (skS S X r W B i) B = rdS S I r W (skS S I r W B i) B
    rw [ih, rdS_I h e1 e89]
theorem rdS_b {s : Int32} (hB : KB r) (hs : ∃ q, s = nI q ∧ q ≤ 100) : ∀ b, b ≤ 12 → ∃ q, rdS S I r W s b = nI q ∧ q ≤ 100 := by
  intro b
  induction b with
  | zero => intro _; exact hs
  | succ b ih =>
    intro hb
    obtain ⟨q, q1, q2⟩ := ih (by omega)
    obtain ⟨-, ⟨l, l1, l2⟩, -, -⟩ := hB b (by omega)
    obtain ⟨f, f1, f2⟩ := lrn_r (S := S) (I := I) (r := r) (b := b) (W := Wat W 7 (rdS S I r W s b)) (by rw [l1, qi (by omega)]; omega)
    show ∃ q, mn100 (rdS S I r W s b + aT S I r b (Wat W 7 (rdS S I r W s b)) 4) = nI q ∧ q ≤ 100
    rw [f1, q1, nI_add]
    unfold mn100
    by_cases g : nI (q + f) < 100
    · rw [if_pos g]
      have := (qlt (b := 100) (by omega) (by omega)).mp g
      exact ⟨q + f, rfl, by omega⟩
    · rw [if_neg g]; exact ⟨100, rfl, by omega⟩
theorem skS_b (hB : KB r) (hB12 : B ≤ 12) (hs : ∃ q, r 13 = nI q ∧ q ≤ 100) : ∀ i, ∃ q, skS S I r W B i = nI q ∧ q ≤ 100 := by
  intro i
  induction i with
  | zero => exact hs
  | succ i ih => exact rdS_b hB ih B hB12
theorem skS_const {i : Nat} (e : skS S I r W B (i + 1) = skS S I r W B i) : ∀ d, skS S I r W B (i + d) = skS S I r W B i := by
  intro d
  induction d with
  | zero => rfl
  | succ d ih =>
    show rdS S I r W (skS S I r W B (i + d)) B = _
    rw [ih]
    exact e
theorem frS_no {sk : Nat → Int32} : ∀ (d i : Nat), (∀ j, i ≤ j → ¬ 100 ≤ sk j) → frS sk d i = -1 := by
  intro d
  induction d with
  | zero => intro i _; rfl
  | succ d ih =>
    intro i h
    show (if 100 ≤ sk i then nI i else frS sk d (i + 1)) = -1
    rw [if_neg (h i (by omega))]
    exact ih (i + 1) (fun j hj => h j (by omega))
def Cq (I X : tHI) (q : Nat) : Prop := (∀ x, x ≠ 49 → X x = I x) ∧ ∀ y, 3 ≤ y → y ≠ q → X 49 y = I 49 y
theorem CQ.atq {X : tHI} {q : Nat} {v : Int32} (h : CQ S I r W) (c : Cq I X q) (hv : -1000000000 ≤ v.toInt ∧ v.toInt ≤ 1000000000) : CQ S (uI X 49 q v) r (Wat W q v) := by
  refine ⟨h.1.cg (fun i hi => by rw [uIn (by omega), c.1 _ (by omega)]) (fun x hx => by rw [uIn (by omega), c.1 _ (by omega)]), fun a h3 h12 => ?_, fun a h3 h12 => ?_⟩
  · rw [uIe]
    unfold Wat
    by_cases g : a = q
    · subst g; rw [upe, if_pos rfl]
    · rw [upn g, if_neg g, c.2 a h3 g]; exact h.2.1 a h3 h12
  · unfold Wat
    by_cases g : a = q
    · rw [if_pos g]; exact hv
    · rw [if_neg g]; exact h.2.2 a h3 h12
theorem lrn_in (hT : TY S) (hn : 400 < n) (hQ0 : CQ S I r W) (hB : r 1 = nI B) (hB12 : B ≤ 12) {k : Int32 → tHI → tHJ → Prop} {kb30 : tHI → tHJ → Int32 → Int32 → Int32 → Prop} {s v3 v4 : Int32} (hs : ∃ q, s = nI q ∧ q ≤ 100) (hk : ∀ (X : tHI) (J' : tHJ), Cq I X 7 → CJ J J' → F5_roundsToLearn_99 n S k kb30 X J' (nI B) (rdS S I r W s B) v3 v4) : ∀ (d f b : Nat) (X : tHI) (J' : tHJ), b + d = B → d < f → Cq I X 7 → CJ J J' → F5_roundsToLearn_L51 n S k kb30 f X J' (nI B) (rdS S I r W s b) v3 v4 (nI b) := by
  intro d
  induction d with
  | zero =>
    intro f b X J' hb hf c1 c2
    obtain ⟨f, rfl⟩ : ∃ g, f = g + 1 := ⟨f - 1, by omega⟩
    show F5_roundsToLearn_51 n S k kb30 (F5_roundsToLearn_L51 n S k kb30 f) X J' (nI B) (rdS S I r W s b) v3 v4 (nI b)
    unfold F5_roundsToLearn_51
    have : b = B := by omega
    subst this
    exact ⟨fun _ => hk X J' c1 c2, fun g => absurd ((qle (by omega) (by omega)).mpr (Nat.le_refl _)) g⟩
  | succ d ih =>
    intro f b X J' hb hf c1 c2
    obtain ⟨f, rfl⟩ : ∃ g, f = g + 1 := ⟨f - 1, by omega⟩
    show F5_roundsToLearn_51 n S k kb30 (F5_roundsToLearn_L51 n S k kb30 f) X J' (nI B) (rdS S I r W s b) v3 v4 (nI b)
    unfold F5_roundsToLearn_51
    refine ⟨fun g => ?_, fun _ => ⟨fun g => ?_, fun _ => ?_⟩⟩
    · exfalso; have := (qle (by omega) (by omega)).mp g; omega
    · exfalso; have := (qle (a := 12) (by omega) (by omega)).mp g; omega
    · have hbi : (b : Int) < (r 1).toInt := by rw [hB, qi (by omega)]; omega
      obtain ⟨q, q1, q2⟩ := rdS_b (S := S) (I := I) (W := W) hQ0.1.2.2.2.2.2.1.2.2.2.1 hs b (by omega)
      have hQ := hQ0.atq (v := rdS S I r W s b) c1 (by rw [q1, qi (by omega)]; omega)
      refine sp_tellQ hT hn hQ hbi (kd := 4) (by omega) (fun X2 J2 y1 y2 => ?_)
      have e3 : nI b + 1 = nI (b + 1) := nI_add b 1
      rw [aT_I hQ0.FO (by rw [uIn (by decide), c1.1 1 (by decide)]) (fun x hx => by rw [uIn (by omega), c1.1 x (by omega)]), e3]
      exact ih f (b + 1) X2 J2 (by omega) (by omega) ⟨fun x hx => by rw [y1.1 x hx, uIn hx, c1.1 x hx], fun y h3 h7 => by rw [y1.2 y h3, uIe, upn h7, c1.2 y h3 h7]⟩ (c2.trans y2)
theorem lrn_out (hT : TY S) (hn : 400 < n) (hQ0 : CQ S I r W) (hB : r 1 = nI B) (hB12 : B ≤ 12) {k : Int32 → tHI → tHJ → Prop} (hk : ∀ (X : tHI) (J' : tHJ), Cq I X 7 → CJ J J' → k (frS (skS S I r W B) 1000 0) X J') : ∀ (d f i : Nat) (X : tHI) (J' : tHJ), i + d = 1000 → d < f → frS (skS S I r W B) d i = frS (skS S I r W B) 1000 0 → Cq I X 7 → CJ J J' → F5_roundsToLearn_L30 n S k f X J' (nI B) (skS S I r W B i) (nI i) := by
  have hs := skS_b (S := S) (I := I) (W := W) hQ0.1.2.2.2.2.2.1.2.2.2.1 hB12 hQ0.1.2.2.2.2.2.1.2.2.1.2.2.2.1
  intro d
  induction d with
  | zero =>
    intro f i X J' hi hf hr c1 c2
    obtain ⟨f, rfl⟩ : ∃ g, f = g + 1 := ⟨f - 1, by omega⟩
    show F5_roundsToLearn_30 n S k (F5_roundsToLearn_L30 n S k f) X J' (nI B) _ (nI i)
    unfold F5_roundsToLearn_30
    refine ⟨fun _ => ?_, fun g => absurd ((qle (a := 1000) (by omega) (by omega)).mpr (by omega)) g⟩
    have := hk X J' c1 c2
    rw [← hr] at this
    exact this
  | succ d ih =>
    intro f i X J' hi hf hr c1 c2
    obtain ⟨f, rfl⟩ : ∃ g, f = g + 1 := ⟨f - 1, by omega⟩
    show F5_roundsToLearn_30 n S k (F5_roundsToLearn_L30 n S k f) X J' (nI B) _ (nI i)
    unfold F5_roundsToLearn_30
    have hr' : (if 100 ≤ skS S I r W B i then nI i else frS (skS S I r W B) d (i + 1)) = frS (skS S I r W B) 1000 0 := hr
    refine ⟨fun g => ?_, fun _ => ⟨fun g => ?_, fun g => ?_⟩⟩
    · exfalso; have := (qle (a := 1000) (by omega) (by omega)).mp g; omega
    · have ng : ¬ 100 ≤ skS S I r W B i := fun q => by
        rw [Int32.lt_iff_toInt_lt] at g; rw [Int32.le_iff_toInt_le] at q; omega
      rw [if_neg ng] at hr'
      refine lrn_in hT hn hQ0 hB hB12 (hs i) (fun X2 J2 y1 y2 => ?_) B n 0 X J' (by omega) (by omega) c1 c2
      unfold F5_roundsToLearn_99
      refine ⟨fun _ => ?_, fun e => ?_⟩
      · rw [show nI i + 1 = nI (i + 1) from nI_add i 1]
        exact ih f (i + 1) X2 J2 (by omega) (by omega) hr' y1 y2
      · have := hk X2 J2 y1 y2
        rw [← hr', frS_no d (i + 1) (fun j hj => ?_)] at this
        · exact this
        · have e2 := skS_const (S := S) (I := I) (r := r) (W := W) (B := B) (i := i) e (j - i)
          rw [show i + (j - i) = j by omega] at e2
          rw [e2]
          exact ng
    · have pg : 100 ≤ skS S I r W B i := by
        rw [Int32.lt_iff_toInt_lt] at g; rw [Int32.le_iff_toInt_le]; omega
      rw [if_pos pg] at hr'
      have := hk X J' c1 c2
      rw [← hr'] at this
      exact this
end LRN
