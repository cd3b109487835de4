/-! lanes: holes, the best lane from a lane -/
def pop3 (m : Nat) : Nat := m % 2 + m / 2 % 2 + m / 4 % 2
def hol (h l : Nat) : Nat := pop3 (h / 2 ^ l % 8)
theorem hol_le {h l : Nat} : hol h l ≤ 3 := by unfold hol pop3; omega
theorem hol_c : ∀ h, h < 32 → ∀ l, l < 3 → (nI h >>> (nI l &&& 31)) &&& 7 = nI (h / 2 ^ l % 8) := by decide +kernel
theorem hol_m : ∀ h, h < 32 → ∀ l, l < 3 → (((0 : Int32) + ((nI h >>> ((nI l + nI 0) &&& 31)) &&& 1)) + ((nI h >>> ((nI l + nI 1) &&& 31)) &&& 1)) + ((nI h >>> ((nI l + nI 2) &&& 31)) &&& 1) = nI (hol h l) := by decide +kernel
def cst (t : Nat → Nat) (f x : Nat) : Nat := t x + (if f = x then 0 else 1)
def pck (t : Nat → Nat) (f a x : Nat) : Nat := if cst t f a ≤ cst t f x then a else x
def bLn (t : Nat → Nat) (f : Nat) : Nat := if f = 0 then pck t f 0 1 else if f = 1 then pck t f (pck t f 0 1) 2 else pck t f 1 2
theorem pck_lt {t : Nat → Nat} {f a x : Nat} (ha : a < 3) (hx : x < 3) : pck t f a x < 3 := by unfold pck; split <;> omega
theorem bLn_lt {t : Nat → Nat} {f : Nat} : bLn t f < 3 := by
  unfold bLn
  split
  · exact pck_lt (by omega) (by omega)
  · split
    · exact pck_lt (pck_lt (by omega) (by omega)) (by omega)
    · exact pck_lt (by omega) (by omega)
theorem cst_le {t : Nat → Nat} {f x M : Nat} (h : t x ≤ M) : cst t f x ≤ M + 1 := by unfold cst; split <;> omega
section LN
variable {n : Nat} {S : tSH} {I : tHI} {J : tHJ} {k : Int32 → tHI → tHJ → Prop} {t : Nat → Nat} {b f : Nat}
theorem sp_bits {m : Nat} (hm : m < 8) (hk : k (nI (pop3 m)) I J) : FJ6_bitCount_0f7a4 n S I J (nI m) k := by
  have : m = 0 ∨ m = 1 ∨ m = 2 ∨ m = 3 ∨ m = 4 ∨ m = 5 ∨ m = 6 ∨ m = 7 := by omega
  unfold FJ6_bitCount_0f7a4
  rcases this with g | g | g | g | g | g | g | g <;> subst g
  · exact (congrArg (fun z => k z I J) (by decide +kernel : nI (pop3 0) = _)).mp hk
  · exact (congrArg (fun z => k z I J) (by decide +kernel : nI (pop3 1) = _)).mp hk
  · exact (congrArg (fun z => k z I J) (by decide +kernel : nI (pop3 2) = _)).mp hk
  · exact (congrArg (fun z => k z I J) (by decide +kernel : nI (pop3 3) = _)).mp hk
  · exact (congrArg (fun z => k z I J) (by decide +kernel : nI (pop3 4) = _)).mp hk
  · exact (congrArg (fun z => k z I J) (by decide +kernel : nI (pop3 5) = _)).mp hk
  · exact (congrArg (fun z => k z I J) (by decide +kernel : nI (pop3 6) = _)).mp hk
  · exact (congrArg (fun z => k z I J) (by decide +kernel : nI (pop3 7) = _)).mp hk
theorem cost_v (hb : b < 13) (ht : ∀ x, x < 3 → I 54 (3 * b + x) = nI (t x)) {x : Nat} (hx : x < 3) (hf : f < 3) : V5_costFrom S I J (nI b) (nI f) (nI x) = nI (cst t f x) ∧ P5_costFrom S I J (nI b) (nI f) (nI x) := by
  have e : nI b * 3 + nI x = nI (3 * b + x) := by rw [ql 3, qmul, nI_add, Nat.mul_comm]
  unfold V5_costFrom P5_costFrom cst
  rw [e, qn (by omega), ht x hx]
  refine ⟨?_, (qin (by omega)).mpr (by omega), fun _ => trivial, fun _ => trivial⟩
  by_cases g : f = x
  · subst g; rw [if_pos rfl, if_pos rfl]; exact nI_add _ 0
  · rw [if_neg (fun q => g ((qeq (by omega) (by omega)).mp q)), if_neg g]; exact nI_add _ 1
theorem sp_bestLane (hn : 10 < n) (hb : b < 13) (hf : f < 3) (ht : ∀ x, x < 3 → I 54 (3 * b + x) = nI (t x)) (htb : ∀ x, x < 3 → t x ≤ 1000000) (hk : k (nI (bLn t f)) I J) : F5_bestLane n S I J (nI b) (nI f) k := by
  obtain ⟨m, rfl⟩ : ∃ m, n = m + 4 := ⟨n - 4, by omega⟩
  have hstop : ∀ (g a x : Nat), x < 10 → (f + 1 < x ∨ 3 ≤ x) → k (nI a) I J → F5_bestLane_L13 (m + 4) S k (g + 1) I J (nI b) (nI f) (nI a) (nI x) := by
    intro g a x hx10 hx hka
    show F5_bestLane_13 (m + 4) S k (F5_bestLane_L13 (m + 4) S k g) I J (nI b) (nI f) (nI a) (nI x)
    unfold F5_bestLane_13 F5_bestLane_54
    refine ⟨fun _ => hka, fun q => ⟨fun _ => hka, fun q2 => ?_⟩⟩
    exfalso
    rw [show nI f + 1 = nI (f + 1) from nI_add f 1] at q
    rcases hx with h | h
    · exact q ((qlt (by omega) (by omega)).mpr h)
    · exact q2 ((qle (a := 3) (by omega) (by omega)).mpr h)
  have hstep : ∀ (g a x : Nat), a < 3 → x < 3 → x ≤ f + 1 → F5_bestLane_L13 (m + 4) S k g I J (nI b) (nI f) (nI (pck t f a x)) (nI (x + 1)) → F5_bestLane_L13 (m + 4) S k (g + 1) I J (nI b) (nI f) (nI a) (nI x) := by
    intro g a x ha hx hxf hka
    show F5_bestLane_13 (m + 4) S k (F5_bestLane_L13 (m + 4) S k g) I J (nI b) (nI f) (nI a) (nI x)
    unfold F5_bestLane_13
    refine ⟨fun q => ?_, fun _ => ⟨fun q => ?_, fun _ => ?_⟩⟩
    · exfalso
      rw [show nI f + 1 = nI (f + 1) from nI_add f 1] at q
      have := (qlt (by omega) (by omega)).mp q
      omega
    · exfalso; have := (qle (a := 3) (by omega) (by omega)).mp q; omega
    · obtain ⟨va, pa⟩ := cost_v (S := S) (J := J) hb ht ha hf
      obtain ⟨vx, px⟩ := cost_v (S := S) (J := J) hb ht hx hf
      rw [va, vx, show nI x + 1 = nI (x + 1) from nI_add x 1]
      have ba := cst_le (f := f) (htb a ha)
      have bx := cst_le (f := f) (htb x hx)
      refine ⟨px, pa, ?_⟩
      unfold pck at hka
      by_cases g2 : cst t f a ≤ cst t f x
      · rw [if_pos g2] at hka
        rw [if_pos ((qle (by omega) (by omega)).mpr g2)]; exact hka
      · rw [if_neg g2] at hka
        rw [if_neg (fun q => g2 ((qle (by omega) (by omega)).mp q))]; exact hka
  unfold F5_bestLane
  have : f = 0 ∨ f = 1 ∨ f = 2 := by omega
  rcases this with g | g | g
  · subst g
    have e : (if 0 < nI 0 - 1 then nI 0 - 1 else 0) = nI 0 := by decide
    have e1 : nI 0 + 1 = nI 1 := by decide
    rw [e, e1]
    exact hstep (m + 3) 0 1 (by omega) (by omega) (by omega) (hstop (m + 2) _ 2 (by omega) (by omega) hk)
  · subst g
    have e : (if 0 < nI 1 - 1 then nI 1 - 1 else 0) = nI 0 := by decide
    have e1 : nI 0 + 1 = nI 1 := by decide
    rw [e, e1]
    exact hstep (m + 3) 0 1 (by omega) (by omega) (by omega) (hstep (m + 2) _ 2 (pck_lt (by omega) (by omega)) (by omega) (by omega) (hstop (m + 1) _ 3 (by omega) (by omega) hk))
  · subst g
    have e : (if 0 < nI 2 - 1 then nI 2 - 1 else 0) = nI 1 := by decide
    have e1 : nI 1 + 1 = nI 2 := by decide
    rw [e, e1]
    exact hstep (m + 3) 1 2 (by omega) (by omega) (by omega) (hstop (m + 2) _ 3 (by omega) (by omega) hk)
/-- the model's -/
theorem bes_v : ∀ f, f < 3 → ∀ x, x < 3 → (V12_isBeside (nI f) (nI x) = 0 ↔ ¬ (f ≤ x + 1 ∧ x ≤ f + 1)) := by decide +kernel
theorem lf_v (hb : b < 13) (ht : ∀ x, x < 3 → I 83 (3 * b + x) = nI (t x)) {x : Nat} (hx : x < 3) (hf : f < 3) : V12_laneFrom S I J (nI b) (nI f) (nI x) = (if f ≤ x + 1 ∧ x ≤ f + 1 then nI (cst t f x) else nI 100000000) ∧ P12_laneFrom S I J (nI b) (nI f) (nI x) := by
  have e : 3 * nI b + nI x = nI (3 * b + x) := by rw [ql 3, qmul, nI_add]
  have hbe := bes_v f hf x hx
  unfold V12_laneFrom P12_laneFrom cst
  rw [e, qn (by omega), ht x hx]
  refine ⟨?_, fun _ => trivial, fun _ => ⟨(qin (by omega)).mpr (by omega), fun _ => trivial, fun _ => trivial⟩⟩
  by_cases c : f ≤ x + 1 ∧ x ≤ f + 1
  · rw [if_neg (fun q => hbe.mp q c), if_pos c]
    by_cases g : f = x
    · subst g; rw [if_pos rfl, if_pos rfl]; exact nI_add _ 0
    · rw [if_neg (fun q => g ((qeq (by omega) (by omega)).mp q)), if_neg g]; exact nI_add _ 1
  · rw [if_pos (hbe.mpr c), if_neg c]; rfl
theorem cst_pck {t : Nat → Nat} {f a x : Nat} : cst t f (pck t f a x) = (if cst t f a ≤ cst t f x then cst t f a else cst t f x) := by unfold pck; split <;> rfl
theorem sp_leastLane (hn : 10 < n) (hb : b < 13) (hf : f < 3) (ht : ∀ x, x < 3 → I 83 (3 * b + x) = nI (t x)) (htb : ∀ x, x < 3 → t x ≤ 1000000) (hk : k (nI (cst t f (bLn t f))) I J) : F12_leastLane n S I J (nI b) (nI f) k := by
  obtain ⟨m, rfl⟩ : ∃ m, n = m + 4 := ⟨n - 4, by omega⟩
  have hstop : ∀ (g a : Nat), k (nI a) I J → F12_leastLane_L7 (m + 4) S k (g + 1) I J (nI b) (nI f) (nI a) (nI 3) := by
    intro g a hka
    show F12_leastLane_7 (m + 4) S k (F12_leastLane_L7 (m + 4) S k g) I J (nI b) (nI f) (nI a) (nI 3)
    unfold F12_leastLane_7
    exact ⟨fun _ => hka, fun q => absurd ((qle (a := 3) (by omega) (by omega)).mpr (Nat.le_refl _)) q⟩
  have hstep : ∀ (g a x y : Nat), x < 3 → a ≤ 100000000 → y ≤ 100000000 → nI y = (if f ≤ x + 1 ∧ x ≤ f + 1 then nI (cst t f x) else nI 100000000) → F12_leastLane_L7 (m + 4) S k g I J (nI b) (nI f) (nI (if a ≤ y then a else y)) (nI (x + 1)) → F12_leastLane_L7 (m + 4) S k (g + 1) I J (nI b) (nI f) (nI a) (nI x) := by
    intro g a x y hx ha hy ey hka
    show F12_leastLane_7 (m + 4) S k (F12_leastLane_L7 (m + 4) S k g) I J (nI b) (nI f) (nI a) (nI x)
    unfold F12_leastLane_7
    refine ⟨fun q => ?_, fun _ => ?_⟩
    · exfalso; have := (qle (a := 3) (by omega) (by omega)).mp q; omega
    · obtain ⟨vx, px⟩ := lf_v (S := S) (J := J) hb ht hx hf
      rw [vx, ← ey, show nI x + 1 = nI (x + 1) from nI_add x 1]
      refine ⟨px, ?_⟩
      by_cases g2 : a ≤ y
      · rw [if_pos g2] at hka
        rw [if_pos ((qle (by omega) (by omega)).mpr g2)]; exact hka
      · rw [if_neg g2] at hka
        rw [if_neg (fun q => g2 ((qle (by omega) (by omega)).mp q))]; exact hka
  have b0 := cst_le (f := f) (htb 0 (by omega))
  have b1 := cst_le (f := f) (htb 1 (by omega))
  have b2 := cst_le (f := f) (htb 2 (by omega))
  unfold F12_leastLane
  have e100 : (100000000 : Int32) = nI 100000000 := rfl
  have e0 : (0 : Int32) = nI 0 := rfl
  rw [e100, e0]
  have : f = 0 ∨ f = 1 ∨ f = 2 := by omega
  rcases this with g | g | g
  · subst g
    have hk : k (nI (cst t 0 (pck t 0 0 1))) I J := hk
    rw [cst_pck] at hk
    refine hstep (m + 3) 100000000 0 (cst t 0 0) (by omega) (by omega) (by omega) (by rw [if_pos (by omega)]) (hstep (m + 2) _ 1 (cst t 0 1) (by omega) ?_ (by omega) (by rw [if_pos (by omega)]) (hstep (m + 1) _ 2 100000000 (by omega) ?_ (by omega) (by rw [if_neg (by omega)]) (hstop m _ ?_)))
    · split <;> omega
    · split <;> split <;> omega
    · have e1 : (if 100000000 ≤ cst t 0 0 then 100000000 else cst t 0 0) = cst t 0 0 := if_neg (by omega)
      rw [e1]
      have e2 : (if (if cst t 0 0 ≤ cst t 0 1 then cst t 0 0 else cst t 0 1) ≤ 100000000 then (if cst t 0 0 ≤ cst t 0 1 then cst t 0 0 else cst t 0 1) else 100000000) = (if cst t 0 0 ≤ cst t 0 1 then cst t 0 0 else cst t 0 1) := if_pos (by split <;> omega)
      rw [e2]
      exact hk
  · subst g
    have hk : k (nI (cst t 1 (pck t 1 (pck t 1 0 1) 2))) I J := hk
    rw [cst_pck, cst_pck] at hk
    refine hstep (m + 3) 100000000 0 (cst t 1 0) (by omega) (by omega) (by omega) (by rw [if_pos (by omega)]) (hstep (m + 2) _ 1 (cst t 1 1) (by omega) ?_ (by omega) (by rw [if_pos (by omega)]) (hstep (m + 1) _ 2 (cst t 1 2) (by omega) ?_ (by omega) (by rw [if_pos (by omega)]) (hstop m _ ?_)))
    · split <;> omega
    · split <;> split <;> omega
    · have e1 : (if 100000000 ≤ cst t 1 0 then 100000000 else cst t 1 0) = cst t 1 0 := if_neg (by omega)
      rw [e1]
      exact hk
  · subst g
    have hk : k (nI (cst t 2 (pck t 2 1 2))) I J := hk
    rw [cst_pck] at hk
    refine hstep (m + 3) 100000000 0 100000000 (by omega) (by omega) (by omega) (by rw [if_neg (by omega)]) (hstep (m + 2) _ 1 (cst t 2 1) (by omega) ?_ (by omega) (by rw [if_pos (by omega)]) (hstep (m + 1) _ 2 (cst t 2 2) (by omega) ?_ (by omega) (by rw [if_pos (by omega)]) (hstop m _ ?_)))
    · split <;> omega
    · split <;> split <;> omega
    · have e1 : (if (if 100000000 ≤ 100000000 then 100000000 else 100000000) ≤ cst t 2 1 then (if 100000000 ≤ 100000000 then 100000000 else 100000000) else cst t 2 1) = cst t 2 1 := if_neg (by rw [if_pos (Nat.le_refl _)]; omega)
      rw [e1]
      exact hk
end LN
