/-! the model remembers and puts back -/
section RE
variable {n : Nat} {S : tSH} {I : tHI} {J : tHJ} {k : tHI → tHJ → Prop}
theorem keep_L {q : Nat} (hq : 17 * q + 17 ≤ 306) (hk : ∀ X : tHI, (∀ x, x ≠ 66 → X x = I x) → (∀ y, (y < 17 * q ∨ 17 * q + 17 ≤ y) → X 66 y = I 66 y) → (∀ i, i < 17 → X 66 (17 * q + i) = I 63 (9 + i)) → k X J) : ∀ (d f j : Nat) (X : tHI), j + d = 17 → d < f → (∀ x, x ≠ 66 → X x = I x) → (∀ y, (y < 17 * q ∨ 17 * q + 17 ≤ y) → X 66 y = I 66 y) → (∀ i, i < j → X 66 (17 * q + i) = I 63 (9 + i)) → F12_keepAll_L2 n S k f X J (nI q) (nI j) := by
  intro d
  induction d with
  | zero =>
    intro f j X hj hf a b c
    obtain ⟨f, rfl⟩ : ∃ g, f = g + 1 := ⟨f - 1, by omega⟩
    show F12_keepAll_2 n S k (F12_keepAll_L2 n S k f) X J (nI q) (nI j)
    unfold F12_keepAll_2
    refine ⟨fun _ => hk X a b (fun i hi => c i (by omega)), fun g => ?_⟩
    exact absurd ((qle (a := 17) (by omega) (by omega)).mpr (by omega)) g
  | succ d ih =>
    intro f j X hj hf a b c
    obtain ⟨f, rfl⟩ : ∃ g, f = g + 1 := ⟨f - 1, by omega⟩
    show F12_keepAll_2 n S k (F12_keepAll_L2 n S k f) X J (nI q) (nI j)
    unfold F12_keepAll_2
    refine ⟨fun g => ?_, fun _ => ?_⟩
    · exfalso
      have := (qle (a := 17) (by omega) (by omega)).mp g
      omega
    · have e1 : 9 + nI j = nI (9 + j) := by rw [ql 9, nI_add]
      have e2 : 17 * nI q + nI j = nI (17 * q + j) := by rw [ql 17, qmul, nI_add]
      have e3 : nI j + 1 = nI (j + 1) := nI_add j 1
      rw [e1, e2, e3, qn (by omega), qn (by omega)]
      refine ⟨(qin (by omega)).mpr (by omega), (qin (by omega)).mpr (by omega), ih f (j + 1) _ (by omega) (by omega) (fun x hx => by rw [uIn hx, a x hx]) (fun y hy => by rw [uIe, upn (by omega), b y hy]) (fun i hi => ?_)⟩
      rw [uIe, a 63 (by decide)]
      by_cases g : i = j
      · subst g; rw [upe]
      · rw [upn (by omega)]; exact c i (by omega)
theorem sp_keepAll {q : Nat} (hn : 300 < n) (hq : 17 * q + 17 ≤ 306) (hk : ∀ X : tHI, (∀ x, x ≠ 66 → X x = I x) → (∀ y, (y < 17 * q ∨ 17 * q + 17 ≤ y) → X 66 y = I 66 y) → (∀ i, i < 17 → X 66 (17 * q + i) = I 63 (9 + i)) → k X J) : F12_keepAll n S I J (nI q) k := by
  unfold F12_keepAll
  exact keep_L hq hk 17 n 0 I (by omega) (by omega) (fun _ _ => rfl) (fun _ _ => rfl) (fun i hi => by omega)
theorem back_L {q : Nat} (hq : 17 * q + 17 ≤ 306) (hk : ∀ X : tHI, (∀ x, x ≠ 63 → X x = I x) → (∀ y, (y < 9 ∨ 26 ≤ y) → X 63 y = I 63 y) → (∀ i, i < 17 → X 63 (9 + i) = I 66 (17 * q + i)) → k X J) : ∀ (d f j : Nat) (X : tHI), j + d = 17 → d < f → (∀ x, x ≠ 63 → X x = I x) → (∀ y, (y < 9 ∨ 26 ≤ y) → X 63 y = I 63 y) → (∀ i, i < j → X 63 (9 + i) = I 66 (17 * q + i)) → F12_putBack_L2 n S k f X J (nI q) (nI j) := by
  intro d
  induction d with
  | zero =>
    intro f j X hj hf a b c
    obtain ⟨f, rfl⟩ : ∃ g, f = g + 1 := ⟨f - 1, by omega⟩
    show F12_putBack_2 n S k (F12_putBack_L2 n S k f) X J (nI q) (nI j)
    unfold F12_putBack_2
    refine ⟨fun _ => hk X a b (fun i hi => c i (by omega)), fun g => ?_⟩
    exact absurd ((qle (a := 17) (by omega) (by omega)).mpr (by omega)) g
  | succ d ih =>
    intro f j X hj hf a b c
    obtain ⟨f, rfl⟩ : ∃ g, f = g + 1 := ⟨f - 1, by omega⟩
    show F12_putBack_2 n S k (F12_putBack_L2 n S k f) X J (nI q) (nI j)
    unfold F12_putBack_2
    refine ⟨fun g => ?_, fun _ => ?_⟩
    · exfalso
      have := (qle (a := 17) (by omega) (by omega)).mp g
      omega
    · have e1 : 9 + nI j = nI (9 + j) := by rw [ql 9, nI_add]
      have e2 : 17 * nI q + nI j = nI (17 * q + j) := by rw [ql 17, qmul, nI_add]
      have e3 : nI j + 1 = nI (j + 1) := nI_add j 1
      rw [e1, e2, e3, qn (by omega), qn (by omega)]
      refine ⟨(qin (by omega)).mpr (by omega), (qin (by omega)).mpr (by omega), ih f (j + 1) _ (by omega) (by omega) (fun x hx => by rw [uIn hx, a x hx]) (fun y hy => by rw [uIe, upn (by omega), b y hy]) (fun i hi => ?_)⟩
      rw [uIe, a 66 (by decide)]
      by_cases g : i = j
      · subst g; rw [upe]
      · rw [upn (by omega)]; exact c i (by omega)
theorem sp_putBack {q : Nat} (hn : 300 < n) (hq : 17 * q + 17 ≤ 306) (hk : ∀ X : tHI, (∀ x, x ≠ 63 → X x = I x) → (∀ y, (y < 9 ∨ 26 ≤ y) → X 63 y = I 63 y) → (∀ i, i < 17 → X 63 (9 + i) = I 66 (17 * q + i)) → k X J) : F12_putBack n S I J (nI q) k := by
  unfold F12_putBack
  exact back_L hq hk 17 n 0 I (by omega) (by omega) (fun _ _ => rfl) (fun _ _ => rfl) (fun i hi => by omega)
/-- a stretch moved down by s, from below -/
theorem sh11_L {v1 : Int32} (hk : ∀ X : tHI, (∀ x, x ≠ 66 → X x = I x) → (∀ y, y < 255 → X 66 y = I 66 (17 + y)) → (∀ y, 255 ≤ y → X 66 y = I 66 y) → F12_remember_L41 n S k n X J v1 0) : ∀ (d f j : Nat) (X : tHI), j + d = 255 → d < f → (∀ x, x ≠ 66 → X x = I x) → (∀ y, y < j → X 66 y = I 66 (17 + y)) → (∀ y, j ≤ y → X 66 y = I 66 y) → F12_remember_L11 n S k f X J v1 (nI j) := by
  intro d
  induction d with
  | zero =>
    intro f j X hj hf a b c
    obtain ⟨f, rfl⟩ : ∃ g, f = g + 1 := ⟨f - 1, by omega⟩
    show F12_remember_11 n S k (F12_remember_L11 n S k f) X J v1 (nI j)
    unfold F12_remember_11
    refine ⟨fun _ => hk X a (fun y hy => b y (by omega)) (fun y hy => c y (by omega)), fun g => ?_⟩
    exact absurd ((qle (a := 255) (by omega) (by omega)).mpr (by omega)) g
  | succ d ih =>
    intro f j X hj hf a b c
    obtain ⟨f, rfl⟩ : ∃ g, f = g + 1 := ⟨f - 1, by omega⟩
    show F12_remember_11 n S k (F12_remember_L11 n S k f) X J v1 (nI j)
    unfold F12_remember_11
    refine ⟨fun g => ?_, fun _ => ?_⟩
    · exfalso
      have := (qle (a := 255) (by omega) (by omega)).mp g
      omega
    · have e1 : nI j + 17 = nI (j + 17) := nI_add j 17
      have e3 : nI j + 1 = nI (j + 1) := nI_add j 1
      rw [e1, e3, qn (by omega), qn (by omega)]
      refine ⟨(qin (by omega)).mpr (by omega), (qin (by omega)).mpr (by omega), ih f (j + 1) _ (by omega) (by omega) (fun x hx => by rw [uIn hx, a x hx]) (fun y hy => ?_) (fun y hy => by rw [uIe, upn (by omega), c y (by omega)])⟩
      rw [uIe]
      by_cases g : y = j
      · subst g; rw [upe, c _ (by omega), Nat.add_comm]
      · rw [upn g]; exact b y (by omega)
theorem sh41_L {v1 : Int32} (hk : ∀ X : tHI, (∀ x, x ≠ 67 → X x = I x) → (∀ y, y < 15 → X 67 y = I 67 (1 + y)) → F12_remember_77 n S k (uI X 61 8 (X 61 8 - 1)) J v1) : ∀ (d f j : Nat) (X : tHI), j + d = 15 → d < f → (∀ x, x ≠ 67 → X x = I x) → (∀ y, y < j → X 67 y = I 67 (1 + y)) → (∀ y, j ≤ y → X 67 y = I 67 y) → F12_remember_L41 n S k f X J v1 (nI j) := by
  intro d
  induction d with
  | zero =>
    intro f j X hj hf a b c
    obtain ⟨f, rfl⟩ : ∃ g, f = g + 1 := ⟨f - 1, by omega⟩
    show F12_remember_41 n S k (F12_remember_L41 n S k f) X J v1 (nI j)
    unfold F12_remember_41
    refine ⟨fun _ => hk X a (fun y hy => b y (by omega)), fun g => ?_⟩
    exact absurd ((qle (a := 15) (by omega) (by omega)).mpr (by omega)) g
  | succ d ih =>
    intro f j X hj hf a b c
    obtain ⟨f, rfl⟩ : ∃ g, f = g + 1 := ⟨f - 1, by omega⟩
    show F12_remember_41 n S k (F12_remember_L41 n S k f) X J v1 (nI j)
    unfold F12_remember_41
    refine ⟨fun g => ?_, fun _ => ?_⟩
    · exfalso
      have := (qle (a := 15) (by omega) (by omega)).mp g
      omega
    · have e3 : nI j + 1 = nI (j + 1) := nI_add j 1
      rw [e3, qn (by omega), qn (by omega)]
      refine ⟨(qin (by omega)).mpr (by omega), (qin (by omega)).mpr (by omega), ih f (j + 1) _ (by omega) (by omega) (fun x hx => by rw [uIn hx, a x hx]) (fun y hy => ?_) (fun y hy => by rw [uIe, upn (by omega), c y (by omega)])⟩
      rw [uIe]
      by_cases g : y = j
      · subst g; rw [upe, c _ (by omega), Nat.add_comm]
      · rw [upn g]; exact b y (by omega)
def hf17 (h : Nat) (f : Nat → Int32) (y : Nat) : Int32 := if h = 16 then f (17 + y) else f y
def hf1 (h : Nat) (f : Nat → Int32) (y : Nat) : Int32 := if h = 16 then f (1 + y) else f y
theorem rem77 {h : Nat} {v1 : Int32} (hn : 300 < n) (hh : h < 16) (h61 : I 61 8 = nI h) (hk : ∀ X : tHI, (∀ x, x ≠ 61 → x ≠ 66 → x ≠ 67 → X x = I x) → (∀ y, y ≠ 8 → X 61 y = I 61 y) → X 61 8 = nI (h + 1) → (∀ y, y < 17 * h → X 66 y = I 66 y) → (∀ i, i < 17 → X 66 (17 * h + i) = I 63 (9 + i)) → (∀ y, y < h → X 67 y = I 67 y) → X 67 h = v1 → (∀ y, 272 ≤ y → X 66 y = I 66 y) → k X J) : F12_remember_77 n S k I J v1 := by
  unfold F12_remember_77
  rw [h61]
  refine sp_keepAll hn (by omega) (fun X a b c => ?_)
  have e : X 61 8 = nI h := by rw [a 61 (by decide)]; exact h61
  have e3 : nI h + 1 = nI (h + 1) := nI_add h 1
  have e4 : (uI X 67 h v1) 61 8 = nI h := by rw [uIn (by decide)]; exact e
  rw [e, qn (by omega), e4, e3]
  refine ⟨(qin (by omega)).mpr hh, hk _ (fun x p q r => by rw [uIn p, uIn r, a x q]) (fun y hy => by rw [uIe, upn hy, uIn (by decide), a 61 (by decide)]) (by rw [uIe, upe]) (fun y hy => by rw [uIn (by decide), uIn (by decide), b y (by omega)]) (fun i hi => by rw [uIn (by decide), uIn (by decide), c i hi]) (fun y hy => by rw [uIn (by decide), uIe, upn (by omega), a 67 (by decide)]) (by rw [uIn (by decide), uIe, upe]) (fun y hy => by rw [uIn (by decide), uIn (by decide), b y (by omega)])⟩
theorem sp_remember {h : Nat} {v1 : Int32} (hn : 300 < n) (hh : h ≤ 16) (h61 : I 61 8 = nI h) (hk : ∀ X : tHI, (∀ x, x ≠ 61 → x ≠ 66 → x ≠ 67 → X x = I x) → (∀ y, y ≠ 8 → X 61 y = I 61 y) → X 61 8 = nI (hp h + 1) → (∀ y, y < 17 * hp h → X 66 y = hf17 h (I 66) y) → (∀ i, i < 17 → X 66 (17 * hp h + i) = I 63 (9 + i)) → (∀ y, y < hp h → X 67 y = hf1 h (I 67) y) → X 67 (hp h) = v1 → (∀ y, 272 ≤ y → X 66 y = I 66 y) → k X J) : F12_remember n S I J v1 k := by
  unfold F12_remember
  by_cases c : h = 16
  · subst c
    have e : hp 16 = 15 := rfl
    rw [e] at hk
    refine ⟨fun g => absurd h61 g, fun _ => sh11_L (fun X a b c => sh41_L (I := X) (fun Y a2 b2 => ?_) 15 n 0 X (by omega) (by omega) (fun _ _ => rfl) (fun y hy => by omega) (fun _ _ => rfl)) 255 n 0 I (by omega) (by omega) (fun _ _ => rfl) (fun y hy => by omega) (fun _ _ => rfl)⟩
    have e8 : Y 61 8 = nI 16 := by rw [a2 61 (by decide), a 61 (by decide)]; exact h61
    have e9 : nI 16 - 1 = nI 15 := qpred (by omega)
    rw [e8, e9]
    have w : ∀ x, x ≠ 61 → x ≠ 66 → x ≠ 67 → (uI Y 61 8 (nI 15)) x = I x := fun x p q r => by rw [uIn p, a2 x r, a x q]
    refine rem77 (h := 15) hn (by omega) (by rw [uIe, upe]) (fun X' f1 f2 f3 f4 f5 f6 f7 f8 => ?_)
    refine hk X' (fun x p q r => by rw [f1 x p q r, w x p q r]) (fun y hy => by rw [f2 y hy, uIe, upn hy, a2 61 (by decide), a 61 (by decide)]) f3 (fun y hy => ?_) (fun i hi => by rw [f5 i hi, w 63 (by decide) (by decide) (by decide)]) (fun y hy => ?_) f7 (fun y hy => by rw [f8 y hy, uIn (by decide), a2 66 (by decide), c y (by omega)])
    · rw [f4 y hy, uIn (by decide), a2 66 (by decide), b y (by omega)]; rfl
    · rw [f6 y hy, uIn (by decide), b2 y (by omega), a 67 (by decide)]; rfl
  · have e : hp h = h := if_neg c
    rw [e] at hk
    refine ⟨fun _ => rem77 (h := h) hn (by omega) h61 (fun X f1 f2 f3 f4 f5 f6 f7 f8 => hk X f1 f2 f3 (fun y hy => by rw [f4 y hy]; unfold hf17; rw [if_neg c]) f5 (fun y hy => by rw [f6 y hy]; unfold hf1; rw [if_neg c]) f7 f8), fun g => ?_⟩
    exact absurd ((qeq (b := 16) (by omega) (by omega)).mp (h61.symm.trans g)) c
end RE
