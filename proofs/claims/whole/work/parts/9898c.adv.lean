/-! the class goes on to the next token -/
def Adv (I I' : tHI) : Prop := (∀ x, x ≠ 40 → I' x = I x) ∧ ∀ y, y ∉ [4, 5, 6, 7] → I' 40 y = I 40 y
theorem Adv.rf (I : tHI) : Adv I I := ⟨fun _ _ => rfl, fun _ _ => rfl⟩
theorem Adv.w {I X : tHI} (h : Adv I X) {y : Nat} {v : Int32} (hy : y ∈ [4, 5, 6, 7]) : Adv I (uI X 40 y v) := by
  refine ⟨fun x hx => by rw [uIn hx]; exact h.1 x hx, fun t ht => ?_⟩
  have e : t ≠ y := fun e => ht (by rw [e]; exact hy)
  rw [uIe, upn e]
  exact h.2 t ht
theorem Adv.trans {I X Y : tHI} (h : Adv I X) (g : Adv X Y) : Adv I Y := ⟨fun x hx => (g.1 x hx).trans (h.1 x hx), fun y hy => (g.2 y hy).trans (h.2 y hy)⟩
section ADV
variable {n : Nat} {S : tSH} {J : tHJ} {k : tHI → tHJ → Prop} {b : Nat → Nat} {z : Nat} {I0 : tHI} {q : Nat}
theorem CTp.at {X : tHI} (h : CTp b z (X 38) (X 39)) {i : Nat} (hi : i < z) : V9_byteAt S X J 38 (nI i) = nI (b i) ∧ P9_byteAt S X J 38 (nI i) := by
  obtain ⟨h1, h2⟩ := byt_at (S := S) (I := X) (J := J) h.2.1 hi h.1
  exact ⟨by rw [h1]; exact (h.2.2 i hi).1, h2⟩
theorem CTp.adv {X Y : tHI} (h : CTp b z (X 38) (X 39)) (g : Adv X Y) : CTp b z (Y 38) (Y 39) := by
  rw [g.1 38 (by decide), g.1 39 (by decide)]; exact h
theorem num_up {s i : Nat} (hs : s ≤ i) (hb : 48 ≤ b i ∧ b i ≤ 57) : (if nI (min 1001 (wrd b 10 48 s (i - s))) * 10 + nI (b i) - 48 < 1001 then nI (min 1001 (wrd b 10 48 s (i - s))) * 10 + nI (b i) - 48 else 1001) = nI (min 1001 (wrd b 10 48 s (i + 1 - s))) := by
  have e1 : wrd b 10 48 s (i + 1 - s) = wrd b 10 48 s (i - s) * 10 + (b i - 48) := by
    rw [show i + 1 - s = (i - s) + 1 by omega]
    show wrd b 10 48 s (i - s) * 10 + (b (s + (i - s)) - 48) = _
    rw [show s + (i - s) = i by omega]
  rw [e1]
  generalize wrd b 10 48 s (i - s) = W
  have e2 : nI (min 1001 W) * 10 + nI (b i) - 48 = nI (min 1001 W * 10 + b i - 48) := by
    rw [show nI (min 1001 W) * 10 = nI (min 1001 W * 10) from qmul _ 10, nI_add]
    exact qsub (k := 48) (by omega)
  rw [e2]
  have e3 : nI (min 1001 W * 10 + b i - 48) < (1001 : Int32) ↔ min 1001 W * 10 + b i - 48 < 1001 := qlt (b := 1001) (by omega) (by omega)
  by_cases g : min 1001 W * 10 + b i - 48 < 1001
  · rw [if_pos (e3.mpr g)]; congr 1; omega
  · rw [if_neg (fun y => g (e3.mp y)), show (1001 : Int32) = nI 1001 from rfl]; congr 1; omega
theorem adv_146 (h2 : sQ S 40 2 = some 38) (ht : CTp b z (I0 38) (I0 39)) (hk : ∀ I' : tHI, Adv I0 I' → CT b z (I' 40) q → k I' J) {kb : tHI → tHJ → Int32 → Prop} {i : Nat} {X : tHI} (hX : Adv I0 X) (h1 : aF b z q ≤ i) (hi : i < z) (x4 : X 40 4 = nI i) (x5 : X 40 5 = nI (aF b z q)) (x6 : X 40 6 = nI (aK b z q)) (x7 : aK b z q = 2 → X 40 7 = nI (min 1001 (wrd b 10 48 (aF b z q) (i + 1 - aF b z q)))) (hr : aK b z q ≠ 3 → aR b z (aK b z q) (i + 1) = aE b z q) (h3 : aK b z q = 3 → i = aF b z q) (h0 : aK b z q ≠ 0) (hkb : ∀ Y : tHI, Adv I0 Y → i + 1 < z → Y 40 4 = nI (i + 1) → Y 40 5 = nI (aF b z q) → Y 40 6 = nI (aK b z q) → (aK b z q = 2 → Y 40 7 = nI (min 1001 (wrd b 10 48 (aF b z q) (i + 1 - aF b z q)))) → aK b z q ≠ 3 → kB (b (i + 1)) = aK b z q → kb Y J (nI z)) : F4_advance_146 n S k kb X J (nI z) := by
  have hz := ht.1
  have w4 : (uI X 40 4 (X 40 4 + 1)) 40 4 = nI (i + 1) := by rw [uIe, upe, x4, nI_1]
  have wo : ∀ y, y ≠ 4 → (uI X 40 4 (X 40 4 + 1)) 40 y = X 40 y := fun y hy => by rw [uIe]; exact upn hy
  have hY : Adv I0 (uI X 40 4 (X 40 4 + 1)) := hX.w (by decide)
  have kr := aK_r (b := b) (z := z) q
  have fin : aE b z q = i + 1 → F4_advance_193 n S k (uI X 40 4 (X 40 4 + 1)) J := by
    intro e
    unfold F4_advance_193
    refine hk _ hY ⟨?_, ?_, ?_, fun g => ?_⟩
    · rw [w4, e]
    · rw [wo 5 (by decide), x5]
    · rw [wo 6 (by decide), x6]
    · rw [wo 7 (by decide), x7 g]; unfold aN; rw [e]
  unfold F4_advance_146
  rw [w4]
  refine ⟨fun g => ?_, fun g => ⟨fun g3 => ?_, fun g3 => ⟨38, h2, ?_⟩⟩⟩
  · have g : z ≤ i + 1 := (qle (by omega) (by omega)).mp g
    refine fin ?_
    by_cases c : aK b z q = 3
    · unfold aE; rw [if_neg h0, if_pos c, ← h3 c]
    · rw [← hr c, aR_u, if_neg (fun y => by omega)]
  · rw [wo 6 (by decide), x6] at g3
    have c : aK b z q = 3 := (qeq (b := 3) (by omega) (by omega)).mp g3
    exact fin (by unfold aE; rw [if_neg h0, if_pos c, ← h3 c])
  · have g : ¬ z ≤ i + 1 := fun y => g ((qle (by omega) (by omega)).mpr y)
    rw [wo 6 (by decide), x6] at g3
    have c : aK b z q ≠ 3 := fun y => g3 ((qeq (b := 3) (by omega) (by omega)).mpr y)
    obtain ⟨v1, v2⟩ := (ht.adv hY).at (S := S) (J := J) (i := i + 1) (by omega)
    refine ⟨v2, ?_⟩
    rw [v1, kob (ht.2.2 _ (by omega)).2, wo 6 (by decide), x6]
    have kr2 := kB_r (b (i + 1))
    refine ⟨fun e => ?_, fun e => ?_⟩
    · have e : kB (b (i + 1)) = aK b z q := (qeq (by omega) (by omega)).mp e
      exact hkb _ hY (by omega) w4 (by rw [wo 5 (by decide), x5]) (by rw [wo 6 (by decide), x6]) (fun y => by rw [wo 7 (by decide)]; exact x7 y) c e
    · have e : ¬ kB (b (i + 1)) = aK b z q := fun y => e (by rw [y])
      refine fin ?_
      rw [← hr c, aR_u, if_neg (fun y => e y.2)]
theorem adv_L106 (h2 : sQ S 40 2 = some 38) (ht : CTp b z (I0 38) (I0 39)) (hk : ∀ I' : tHI, Adv I0 I' → CT b z (I' 40) q → k I' J) (h0 : aK b z q ≠ 0) : ∀ (d f i : Nat) (X : tHI), z - i ≤ d → d < f → Adv I0 X → aF b z q ≤ i → i < z → X 40 4 = nI i → X 40 5 = nI (aF b z q) → X 40 6 = nI (aK b z q) → (aK b z q = 2 → X 40 7 = nI (min 1001 (wrd b 10 48 (aF b z q) (i - aF b z q)))) → (aK b z q ≠ 3 → kB (b i) = aK b z q ∧ aR b z (aK b z q) (i + 1) = aE b z q) → (aK b z q = 3 → i = aF b z q) → F4_advance_L106 n S k f X J (nI z) := by
  intro d
  induction d with
  | zero => intro f i X hd _ _ _ hi; omega
  | succ d ih =>
    intro f i X hd hf hX h1 hi x4 x5 x6 x7 hr h3
    obtain ⟨f, rfl⟩ : ∃ g, f = g + 1 := ⟨f - 1, by omega⟩
    have hz := ht.1
    have kr := aK_r (b := b) (z := z) q
    have step : ∀ Y : tHI, Adv I0 Y → i + 1 < z → Y 40 4 = nI (i + 1) → Y 40 5 = nI (aF b z q) → Y 40 6 = nI (aK b z q) → (aK b z q = 2 → Y 40 7 = nI (min 1001 (wrd b 10 48 (aF b z q) (i + 1 - aF b z q)))) → aK b z q ≠ 3 → kB (b (i + 1)) = aK b z q → F4_advance_L106 n S k f Y J (nI z) := by
      intro Y hY g y4 y5 y6 y7 c e
      refine ih f (i + 1) Y (by omega) (by omega) hY (by omega) g y4 y5 y6 y7 (fun _ => ⟨e, ?_⟩) (fun y => absurd y c)
      rw [← (hr c).2]
      conv => rhs; rw [aR_u, if_pos ⟨g, e⟩]
    show F4_advance_106 n S k (F4_advance_L106 n S k f) X J (nI z)
    unfold F4_advance_106
    rw [x6]
    refine ⟨fun g => ?_, fun g => ⟨38, h2, ?_⟩⟩
    · exact adv_146 h2 ht hk hX h1 hi x4 x5 x6 (fun y => absurd (show nI (aK b z q) = 2 by rw [y]; rfl) g) (fun c => (hr c).2) h3 h0 step
    · have c : aK b z q = 2 := (qeq (b := 2) (by omega) (by omega)).mp g
      obtain ⟨v1, v2⟩ := (ht.adv hX).at (S := S) (J := J) hi
      rw [x4]
      refine ⟨v2, ?_⟩
      rw [v1, x7 c, num_up h1 (kB_2.mp (by rw [(hr (by omega)).1, c]))]
      have wo : ∀ y, y ≠ 7 → (uI X 40 7 (nI (min 1001 (wrd b 10 48 (aF b z q) (i + 1 - aF b z q))))) 40 y = X 40 y := fun y hy => by rw [uIe]; exact upn hy
      exact adv_146 h2 ht hk (hX.w (by decide)) h1 hi (by rw [wo 4 (by decide)]; exact x4) (by rw [wo 5 (by decide)]; exact x5) (by rw [wo 6 (by decide)]; exact x6) (fun _ => by rw [uIe, upe]) (fun c => (hr c).2) h3 h0 step
theorem adv_61 (h2 : sQ S 40 2 = some 38) (ht : CTp b z (I0 38) (I0 39)) (hn : 401 < n) (hq : q ≤ z) (hk : ∀ I' : tHI, Adv I0 I' → CT b z (I' 40) q → k I' J) {X : tHI} (hX : Adv I0 X) (x4 : X 40 4 = nI (aF b z q)) : F4_advance_61 n S k X J (nI z) := by
  have hz := ht.1
  have hf := aF_le (b := b) hq
  have w5 : (uI X 40 5 (X 40 4)) 40 5 = nI (aF b z q) := by rw [uIe, upe, x4]
  have wo : ∀ y, y ≠ 5 → (uI X 40 5 (X 40 4)) 40 y = X 40 y := fun y hy => by rw [uIe]; exact upn hy
  have hY : Adv I0 (uI X 40 5 (X 40 4)) := hX.w (by decide)
  unfold F4_advance_61
  rw [wo 4 (by decide), x4]
  rw [x4] at w5 wo hY
  refine ⟨fun g => ⟨38, h2, ?_⟩, fun g => ?_⟩
  · have g : aF b z q < z := (qlt (by omega) (by omega)).mp g
    obtain ⟨v1, v2⟩ := (ht.adv hY).at (S := S) (J := J) g
    refine ⟨v2, ?_⟩
    rw [v1, kob (ht.2.2 _ g).2]
    have h0 : aK b z q ≠ 0 := fun y => by have := aK_0.mp y; omega
    have ek : aK b z q = kB (b (aF b z q)) := by unfold aK; rw [if_neg (by omega)]
    rw [← ek]
    refine adv_L106 h2 ht hk h0 z n (aF b z q) _ (by omega) (by omega) ((hY.w (by decide)).w (by decide)) (Nat.le_refl _) g ?_ ?_ ?_ (fun _ => ?_) (fun c => ⟨ek.symm, ?_⟩) (fun _ => rfl)
    · rw [uIe, upn (by decide), uIe, upn (by decide), wo 4 (by decide), x4]
    · rw [uIe, upn (by decide), uIe, upn (by decide), w5]
    · rw [uIe, upn (by decide), uIe, upe]
    · rw [uIe, upe, Nat.sub_self]; rfl
    · unfold aE; rw [if_neg h0, if_neg c]
  · have g : ¬ aF b z q < z := fun y => g ((qlt (by omega) (by omega)).mpr y)
    have h0 : aK b z q = 0 := aK_0.mpr (by omega)
    refine hk _ (hY.w (by decide)) ⟨?_, ?_, ?_, fun y => by omega⟩
    · rw [uIe, upn (by decide), wo 4 (by decide), x4]; unfold aE; rw [if_pos h0]
    · rw [uIe, upn (by decide), w5]
    · rw [uIe, upe, h0]; rfl
theorem adv_L24 (h2 : sQ S 40 2 = some 38) (ht : CTp b z (I0 38) (I0 39)) (hn : 401 < n) (hq : q ≤ z) (hk : ∀ I' : tHI, Adv I0 I' → CT b z (I' 40) q → k I' J) : ∀ (d f i : Nat) (X : tHI), z - i ≤ d → d < f → Adv I0 X → i ≤ z → aF b z i = aF b z q → X 40 4 = nI i → F4_advance_L24 n S k f X J (nI z) := by
  have hz := ht.1
  intro d
  induction d with
  | zero =>
    intro f i X hd hf hX hi e x4
    obtain ⟨f, rfl⟩ : ∃ g, f = g + 1 := ⟨f - 1, by omega⟩
    show F4_advance_24 n S k (F4_advance_L24 n S k f) X J (nI z)
    unfold F4_advance_24
    rw [x4]
    refine ⟨fun _ => adv_61 h2 ht hn hq hk hX ?_, fun g => absurd ((qle (by omega) (by omega)).mpr (by omega)) g⟩
    rw [x4, ← e, aF_u, if_neg (fun g => by omega)]
  | succ d ih =>
    intro f i X hd hf hX hi e x4
    obtain ⟨f, rfl⟩ : ∃ g, f = g + 1 := ⟨f - 1, by omega⟩
    show F4_advance_24 n S k (F4_advance_L24 n S k f) X J (nI z)
    unfold F4_advance_24
    rw [x4]
    refine ⟨fun g => adv_61 h2 ht hn hq hk hX ?_, fun g => ⟨38, h2, ?_⟩⟩
    · have g : z ≤ i := (qle (by omega) (by omega)).mp g
      rw [x4, ← e, aF_u, if_neg (fun g => by omega)]
    · have g : ¬ z ≤ i := fun y => g ((qle (by omega) (by omega)).mpr y)
      obtain ⟨v1, v2⟩ := (ht.adv hX).at (S := S) (J := J) (i := i) (by omega)
      have hb := (ht.2.2 i (by omega)).2
      refine ⟨v2, ?_⟩
      rw [v1]
      have e32 : nI (b i) = 32 ↔ b i = 32 := qeq (b := 32) (by omega) (by omega)
      refine ⟨fun c => adv_61 h2 ht hn hq hk hX ?_, fun c => ?_⟩
      · rw [x4, ← e, aF_u, if_neg (fun y => c (e32.mpr y.2))]
      · rw [nI_1]
        refine ih f (i + 1) _ (by omega) (by omega) (hX.w (by decide)) (by omega) ?_ (by rw [uIe, upe])
        rw [← e]
        conv => rhs; rw [aF_u, if_pos ⟨by omega, e32.mp c⟩]
/-- from where the last token ends -/
theorem sp_adv (h2 : sQ S 40 2 = some 38) (ht : CTp b z (I0 38) (I0 39)) (hn : 401 < n) (hq : q ≤ z) (h4 : I0 40 4 = nI q) (h6 : ¬ I0 40 6 = 4) (hk : ∀ I' : tHI, Adv I0 I' → CT b z (I' 40) q → k I' J) : F4_advance n S I0 J k := by
  have hz := ht.1
  unfold F4_advance
  refine ⟨fun g => absurd g h6, fun _ => ⟨fun g => (by rw [h2] at g; cases g), fun a ha => ?_⟩⟩
  rw [h2] at ha
  cases ha
  rw [ht.2.1]
  exact adv_L24 h2 ht hn hq hk z n q I0 (by omega) (by omega) (Adv.rf _) hq rfl h4
end ADV
