/-! loads weighed, by the class and by the model -/
def mB (set : Int32) (i : Nat) : Bool := decide (¬ ((set >>> (nI i &&& 31)) &&& 1) = 0)
theorem and1 (x : Int32) : x &&& 1 = 0 ∨ x &&& 1 = 1 := by
  have e : x = nI x.toBitVec.toNat := Int32.toBitVec_inj.mp (by show _ = BitVec.ofNat 32 _; simp)
  have e2 : x &&& 1 = nI (x.toBitVec.toNat &&& 1) := by rw [← nx_and, ← e]; rfl
  rw [e2, Nat.and_one_is_mod]
  rcases Nat.mod_two_eq_zero_or_one x.toBitVec.toNat with q | q <;> rw [q]
  · exact Or.inl rfl
  · exact Or.inr rfl
theorem is_mB {set : Int32} {i : Nat} : V12_is set (nI i) = 0 ↔ mB set i = false := by
  unfold V12_is mB
  rcases and1 (set >>> (nI i &&& 31)) with q | q
  · rw [q]; simp
  · rw [q]; simp
def sCh (set : Int32) (r : Nat → Int32) : Nat → Int32
  | 0 => 0
  | i + 1 => if mB set i then (if r (14 + i) < 2 then sCh set r i else sCh set r i + r (26 + i)) else sCh set r i
def sRe (set : Int32) (r : Nat → Int32) : Nat → Int32
  | 0 => 0
  | i + 1 => if mB set i then (if r (14 + i) < 2 then sRe set r i + r (26 + i) else sRe set r i) else sRe set r i
def sLe (set : Int32) (r : Nat → Int32) : Nat → Int32
  | 0 => 0
  | i + 1 => if mB set i then (if r (32 + i) = 1 then sLe set r i + r (20 + i) * r (26 + i) else sLe set r i) else sLe set r i
section WG
variable {n : Nat} {S : tSH} {k : tHI → tHJ → Prop} {I : tHI} {J : tHJ} {r : Nat → Int32}
theorem weigh_L {set : Int32} (hL : RLd (I 3) (I 4) (I 5) (I 6) r) {N : Nat} (hN : I 2 0 = nI N) (hN6 : N ≤ 6) (hk : k (uI (uI (uI I 49 3 (sCh set r N)) 49 4 (sRe set r N)) 49 5 (sLe set r N)) J) : ∀ (d f i : Nat), i + d = N → d < f → F2_weigh_L19 n S k f I J set (sCh set r i) (sRe set r i) (sLe set r i) (nI i) := by
  intro d
  induction d with
  | zero =>
    intro f i hi hf
    obtain ⟨f, rfl⟩ : ∃ g, f = g + 1 := ⟨f - 1, by omega⟩
    have : i = N := by omega
    subst this
    show F2_weigh_19 n S k (F2_weigh_L19 n S k f) I J set _ _ _ (nI i)
    unfold F2_weigh_19 F2_weigh_124
    rw [hN]
    exact ⟨fun _ => hk, fun q => absurd ((qle (by omega) (by omega)).mpr (Nat.le_refl i)) q⟩
  | succ d ih =>
    intro f i hi hf
    obtain ⟨f, rfl⟩ : ∃ g, f = g + 1 := ⟨f - 1, by omega⟩
    show F2_weigh_19 n S k (F2_weigh_L19 n S k f) I J set _ _ _ (nI i)
    unfold F2_weigh_19
    rw [hN]
    refine ⟨fun q => ?_, fun _ => ⟨fun q => ?_, fun _ => ?_⟩⟩
    · rw [qle (by omega) (by omega)] at q; omega
    · have := (qle (a := 6) (by omega) (by omega)).mp q; omega
    · have hin : vp_in (nI i) 6 := (qin (by omega)).mpr (by omega)
      refine ⟨⟨fun _ => ⟨hin, fun _ => ⟨hin, hin, fun _ => trivial, fun _ => ⟨hin, hin, trivial⟩⟩, fun _ => ⟨hin, hin, fun _ => trivial, fun _ => ⟨hin, hin, trivial⟩⟩⟩, fun _ => trivial⟩, ?_⟩
      obtain ⟨l1, l2, l3, l4⟩ := hL i (by omega)
      rw [qn (by omega), l1, l2, l3, l4, nI_1]
      have e := ih f (i + 1) (by omega) (by omega)
      have b : mB set i = decide (¬ ((set >>> (nI i &&& 31)) &&& 1) = 0) := rfl
      by_cases g : ((set >>> (nI i &&& 31)) &&& 1) = 0
      · have b : mB set i = false := by rw [b]; simp [g]
        rw [if_pos g, if_pos g, if_pos g]
        simp only [sCh, sRe, sLe, b] at e
        exact e
      · have b : mB set i = true := by rw [b]; simp [g]
        rw [if_neg g, if_neg g, if_neg g, show ∀ x : Int32, x + 0 = x from fun x => Int32.add_zero x]
        simp only [sCh, sRe, sLe, b, if_true] at e
        exact e
theorem sp_weigh {set : Int32} (hn : 6 < n) (hL : RLd (I 3) (I 4) (I 5) (I 6) r) {N : Nat} (hN : I 2 0 = nI N) (hN6 : N ≤ 6) (hk : k (uI (uI (uI I 49 3 (sCh set r N)) 49 4 (sRe set r N)) 49 5 (sLe set r N)) J) : F2_weigh n S I J set k := by
  unfold F2_weigh
  exact weigh_L hL hN hN6 hk N n 0 (by omega) (by omega)
theorem weighM_L {set : Int32} {N : Nat} (hN6 : N ≤ 6) {I0 : tHI} (hset : I0 61 41 = set) (hN : I0 63 0 = nI N) (hL : KL (I0 63)) (hk : ∀ X : tHI, (∀ x, x ≠ 61 → X x = I0 x) → (∀ y, y ≠ 42 → y ≠ 43 → y ≠ 44 → X 61 y = I0 61 y) → X 61 42 = sCh set (I0 63) N → X 61 43 = sRe set (I0 63) N → X 61 44 = sLe set (I0 63) N → k X J) : ∀ (d f i : Nat) (X : tHI), i + d = N → d < f → (∀ x, x ≠ 61 → X x = I0 x) → (∀ y, y ≠ 42 → y ≠ 43 → y ≠ 44 → X 61 y = I0 61 y) → X 61 42 = sCh set (I0 63) i → X 61 43 = sRe set (I0 63) i → X 61 44 = sLe set (I0 63) i → F12_weighLoads_L17 n S k f X J (nI i) := by
  intro d
  induction d with
  | zero =>
    intro f i X hi hf h1 h2 h3 h4 h5
    obtain ⟨f, rfl⟩ : ∃ g, f = g + 1 := ⟨f - 1, by omega⟩
    have : i = N := by omega
    subst this
    show F12_weighLoads_17 n S k (F12_weighLoads_L17 n S k f) X J (nI i)
    unfold F12_weighLoads_17
    rw [h1 63 (by decide), hN]
    exact ⟨fun _ => hk X h1 h2 h3 h4 h5, fun q => absurd ((qle (by omega) (by omega)).mpr (Nat.le_refl i)) q⟩
  | succ d ih =>
    intro f i X hi hf h1 h2 h3 h4 h5
    obtain ⟨f, rfl⟩ : ∃ g, f = g + 1 := ⟨f - 1, by omega⟩
    show F12_weighLoads_17 n S k (F12_weighLoads_L17 n S k f) X J (nI i)
    unfold F12_weighLoads_17 F12_weighLoads_132
    have e63 : X 63 = I0 63 := h1 63 (by decide)
    have ad : ∀ m : Nat, (OfNat.ofNat m : Int32) + nI i = nI (m + i) := fun m => nI_add m i
    have a26 : 26 + nI i = nI (26 + i) := ad 26
    have a14 : 14 + nI i = nI (14 + i) := ad 14
    have a32 : 32 + nI i = nI (32 + i) := ad 32
    have a20 : 20 + nI i = nI (20 + i) := ad 20
    rw [e63, hN, h2 41 (by decide) (by decide) (by decide), hset, is_mB, a26, a14, a32, a20, qn (show 26 + i < 2147483648 by omega), qn (show 14 + i < 2147483648 by omega), qn (show 32 + i < 2147483648 by omega), qn (show 20 + i < 2147483648 by omega), nI_1]
    refine ⟨fun q => ?_, fun _ => ⟨fun b => ?_, fun b => ?_⟩⟩
    · rw [qle (by omega) (by omega)] at q; omega
    · refine ih f (i + 1) X (by omega) (by omega) h1 h2 ?_ ?_ ?_
      · rw [h3]; simp only [sCh, b]; rfl
      · rw [h4]; simp only [sRe, b]; rfl
      · rw [h5]; simp only [sLe, b]; rfl
    · have b : mB set i = true := by cases q : mB set i with | true => rfl | false => exact absurd q b
      refine ⟨(qin (by omega)).mpr (by omega), (qin (by omega)).mpr (by omega), (qin (by omega)).mpr (by omega), (qin (by omega)).mpr (by omega), (qin (by omega)).mpr (by omega), ?_⟩
      have sw : (I0 63 (14 + i) ≤ 1) = (I0 63 (14 + i) < 2) := propext (by
        rw [Int32.le_iff_toInt_le, Int32.lt_iff_toInt_lt]
        have z1 : (1 : Int32).toInt = 1 := rfl
        have z2 : (2 : Int32).toInt = 2 := rfl
        omega)
      refine ih f (i + 1) _ (by omega) (by omega) (fun x hx => by rw [uIn hx, uIn hx, uIn hx]; exact h1 x hx) (fun y a b c => by rw [uIe, upn c, uIe, upn b, uIe, upn a]; exact h2 y a b c) ?_ ?_ ?_
      · simp only [uIe, upe, upn (show (42 : Nat) ≠ 44 by decide), upn (show (42 : Nat) ≠ 43 by decide), uIn (show (63 : Nat) ≠ 61 by decide), h3, sw, e63]
        simp only [sCh, b, if_true]
        by_cases g : I0 63 (14 + i) < 2
        · rw [if_pos g, if_pos g]; exact Int32.add_zero _
        · rw [if_neg g, if_neg g]
      · simp only [uIe, upe, upn (show (43 : Nat) ≠ 44 by decide), upn (show (43 : Nat) ≠ 42 by decide), uIn (show (63 : Nat) ≠ 61 by decide), h4, sw, e63]
        simp only [sRe, b, if_true]
        by_cases g : I0 63 (14 + i) < 2
        · rw [if_pos g, if_pos g]
        · rw [if_neg g, if_neg g]; exact Int32.add_zero _
      · simp only [uIe, upe, upn (show (44 : Nat) ≠ 43 by decide), upn (show (44 : Nat) ≠ 42 by decide), uIn (show (63 : Nat) ≠ 61 by decide), h5, sw, e63]
        simp only [sLe, b, if_true]
        rcases (hL i (by omega)).2 with q | q
        · rw [q, if_neg (by decide), Int32.zero_mul, Int32.zero_mul]; exact Int32.add_zero _
        · rw [q, if_pos rfl, Int32.one_mul]
theorem sp_weighM {N : Nat} (hn : 6 < n) (hN6 : N ≤ 6) (hN : I 63 0 = nI N) (hL : KL (I 63)) (hk : ∀ X : tHI, (∀ x, x ≠ 61 → X x = I x) → (∀ y, y ≠ 42 → y ≠ 43 → y ≠ 44 → X 61 y = I 61 y) → X 61 42 = sCh (I 61 41) (I 63) N → X 61 43 = sRe (I 61 41) (I 63) N → X 61 44 = sLe (I 61 41) (I 63) N → k X J) : F12_weighLoads n S I J k := by
  unfold F12_weighLoads
  refine weighM_L (I0 := I) hN6 rfl hN hL hk N n 0 _ (by omega) (by omega) (fun x hx => by rw [uIn hx, uIn hx, uIn hx]) (fun y a b c => by rw [uIe, upn c, uIe, upn b, uIe, upn a]) ?_ ?_ ?_
  · rw [uIe, upn (by decide), uIe, upn (by decide), uIe, upe]; rfl
  · rw [uIe, upn (by decide), uIe, upe]; rfl
  · rw [uIe, upe]; rfl
end WG
