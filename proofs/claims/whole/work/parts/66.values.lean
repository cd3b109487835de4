/-! holds, grips, fears, pulls, learns; how it goes; how quick: the same by both sides -/
section VH
variable {o : Option Int64} {W : Nat → Int32} (ho : ∀ v, o = some v → ¬ v = 2000000000)
theorem w600 {ch le : Int32} (h1 : 0 ≤ ch.toInt ∧ ch.toInt ≤ 1200) (h2 : -2400 ≤ le.toInt ∧ le.toInt ≤ 2400) : V12_within ((600 + 20 * ch.toInt64) + le.toInt64) 0 100000000 = (if 0 < ((600 + 20 * ch) + le) then ((600 + 20 * ch) + le) else 0) := by
  have l600 : (600 : Int64).toInt = 600 := by decide
  have l20 : (20 : Int64).toInt = 20 := by decide
  have k600 : (600 : Int32).toInt = 600 := by decide
  have k20 : (20 : Int32).toInt = 20 := by decide
  have z : (0 : Int32).toInt = 0 := rfl
  have m1 : (20 * ch.toInt64).toInt = 20 * ch.toInt := tl_mul (by rw [l20, Int32.toInt_toInt64]) (by omega) (by omega)
  have m2 : (600 + 20 * ch.toInt64).toInt = 600 + 20 * ch.toInt := by rw [tl_add (by rw [m1, l600]; omega) (by rw [m1, l600]; omega), m1, l600]
  have m3 : ((600 + 20 * ch.toInt64) + le.toInt64).toInt = 600 + 20 * ch.toInt + le.toInt := by rw [tl_add (by rw [m2, Int32.toInt_toInt64]; omega) (by rw [m2, Int32.toInt_toInt64]; omega), m2, Int32.toInt_toInt64]
  have n1 : (20 * ch).toInt = 20 * ch.toInt := ti_mul (by rw [k20]) (by omega) (by omega)
  have n2 : (600 + 20 * ch).toInt = 600 + 20 * ch.toInt := by rw [ti_add (by rw [n1, k600]; omega) (by rw [n1, k600]; omega), n1, k600]
  have n3 : ((600 + 20 * ch) + le).toInt = 600 + 20 * ch.toInt + le.toInt := by rw [ti_add (by rw [n2]; omega) (by rw [n2]; omega), n2]
  refine Int32.toInt_inj.mp ?_
  rw [mwi (by decide), m3, z, show (100000000 : Int32).toInt = 100000000 by decide]
  by_cases g : 0 < ((600 + 20 * ch) + le)
  · rw [if_pos g, n3]; rw [Int32.lt_iff_toInt_lt, n3, z] at g; omega
  · rw [if_neg g, z]; rw [Int32.lt_iff_toInt_lt, n3, z] at g; omega
theorem w2000 {re le : Int32} (h1 : 0 ≤ re.toInt ∧ re.toInt ≤ 1200) (h2 : -2400 ≤ le.toInt ∧ le.toInt ≤ 2400) : V12_within ((2000 + 10 * re.toInt64) - le.toInt64) 0 100000000 = (if 0 < ((2000 + 10 * re) - le) then ((2000 + 10 * re) - le) else 0) := by
  have l600 : (2000 : Int64).toInt = 2000 := by decide
  have l20 : (10 : Int64).toInt = 10 := by decide
  have k600 : (2000 : Int32).toInt = 2000 := by decide
  have k20 : (10 : Int32).toInt = 10 := by decide
  have z : (0 : Int32).toInt = 0 := rfl
  have m1 : (10 * re.toInt64).toInt = 10 * re.toInt := tl_mul (by rw [l20, Int32.toInt_toInt64]) (by omega) (by omega)
  have m2 : (2000 + 10 * re.toInt64).toInt = 2000 + 10 * re.toInt := by rw [tl_add (by rw [m1, l600]; omega) (by rw [m1, l600]; omega), m1, l600]
  have m3 : ((2000 + 10 * re.toInt64) - le.toInt64).toInt = 2000 + 10 * re.toInt - le.toInt := by rw [tl_sub (by rw [m2, Int32.toInt_toInt64]; omega) (by rw [m2, Int32.toInt_toInt64]; omega), m2, Int32.toInt_toInt64]
  have n1 : (10 * re).toInt = 10 * re.toInt := ti_mul (by rw [k20]) (by omega) (by omega)
  have n2 : (2000 + 10 * re).toInt = 2000 + 10 * re.toInt := by rw [ti_add (by rw [n1, k600]; omega) (by rw [n1, k600]; omega), n1, k600]
  have n3 : ((2000 + 10 * re) - le).toInt = 2000 + 10 * re.toInt - le.toInt := by rw [ti_sub (by rw [n2]; omega) (by rw [n2]; omega), n2]
  refine Int32.toInt_inj.mp ?_
  rw [mwi (by decide), m3, z, show (100000000 : Int32).toInt = 100000000 by decide]
  by_cases g : 0 < ((2000 + 10 * re) - le)
  · rw [if_pos g, n3]; rw [Int32.lt_iff_toInt_lt, n3, z] at g; omega
  · rw [if_neg g, z]; rw [Int32.lt_iff_toInt_lt, n3, z] at g; omega
end VH
section BE
variable {n : Nat} {S : tSH} {I : tHI} {J : tHJ} {k : Int32 → tHI → tHJ → Prop}
/-- the row's words, for a set of loads -/
abbrev WI (I : tHI) (N : Nat) : Nat → Int32 := WM (I 61 41) (I 63) N
theorem sp_holds (hn : 400 < n) {N : Nat} (hQ : MQ2 S I N) {b : Nat} (hb : b < 12) (hS : WS (I 63) b (WI I N)) (hR : WR (I 61 41) (I 63) N) (hk : ∀ (I' : tHI) (J' : tHJ), MK I I' → MJ J J' → k (aT S I (I 63) b (WI I N) 0) I' J') : F12_holdsOf n S I J (nI b) k := by
  unfold F12_holdsOf
  refine sp_bendM (kd := 0) (wo := fun _ _ => 2000000000) hn hQ hb (by omega) (fun I' J' a1 a2 a3 a4 a5 => ?_) (fun _ _ _ => rfl)
  have key := hk I' J' a1 a2
  have hne : ∀ v, lawT S I (wl (wB (I 63) b (WI I N))) (nI 0) = some v → ¬ v = 2000000000 := fun v hv => told_ne (WSbd hS) hv
  unfold aT at key
  simp only [lg_cmp_eq]
  cases ht : lawT S I (wl (wB (I 63) b (WI I N))) (nI 0) with
  | none =>
    rw [ht] at key
    show k (if (2000000000 : Int64) = 2000000000 then _ else _) I' J'
    rw [if_pos rfl, a3, a5, w600 hR.1 hR.2.2]
    exact key
  | some v =>
    rw [ht] at key
    show k (if v = 2000000000 then _ else V12_within v 0 99999) I' J'
    rw [if_neg (hne v ht), ← near0]
    exact key
theorem sp_grips (hn : 400 < n) {N : Nat} (hQ : MQ2 S I N) {b : Nat} (hb : b < 12) (hS : WS (I 63) b (WI I N)) (hR : WR (I 61 41) (I 63) N) (hk : ∀ (I' : tHI) (J' : tHJ), MK I I' → MJ J J' → k (aT S I (I 63) b (WI I N) 1) I' J') : F12_gripsOf n S I J (nI b) k := by
  unfold F12_gripsOf
  refine sp_bendM (kd := 1) (wo := fun _ _ => 2000000000) hn hQ hb (by omega) (fun I' J' a1 a2 a3 a4 a5 => ?_) (fun _ _ _ => rfl)
  have key := hk I' J' a1 a2
  have hne : ∀ v, lawT S I (wl (wB (I 63) b (WI I N))) (nI 1) = some v → ¬ v = 2000000000 := fun v hv => told_ne (WSbd hS) hv
  unfold aT at key
  simp only [lg_cmp_eq]
  cases ht : lawT S I (wl (wB (I 63) b (WI I N))) (nI 1) with
  | none =>
    rw [ht] at key
    show k (if (2000000000 : Int64) = 2000000000 then _ else _) I' J'
    rw [if_pos rfl, a4, a5, w2000 hR.2.1 hR.2.2]
    exact key
  | some v =>
    rw [ht] at key
    show k (if v = 2000000000 then _ else V12_within v 0 99999) I' J'
    rw [if_neg (hne v ht), ← near1]
    exact key
theorem sp_fears (hn : 400 < n) {N : Nat} (hQ : MQ2 S I N) {b : Nat} (hb : b < 12) (hS : WS (I 63) b (WI I N)) (hR : WR (I 61 41) (I 63) N) (hk : ∀ (I' : tHI) (J' : tHJ), MK I I' → MJ J J' → k (aT S I (I 63) b (WI I N) 2) I' J') : F12_fearsOf n S I J (nI b) k := by
  unfold F12_fearsOf
  refine sp_bendM (kd := 2) (wo := fun _ _ => 60) hn hQ hb (by omega) (fun I' J' a1 a2 a3 a4 a5 => ?_) (fun _ _ _ => rfl)
  have key := hk I' J' a1 a2
  have hne : ∀ v, lawT S I (wl (wB (I 63) b (WI I N))) (nI 2) = some v → ¬ v = 2000000000 := fun v hv => told_ne (WSbd hS) hv
  unfold aT at key
  cases ht : lawT S I (wl (wB (I 63) b (WI I N))) (nI 2) with
  | none =>
    rw [ht] at key
    exact key
  | some v =>
    rw [ht] at key
    show k (V12_within v 0 60) I' J'
    rw [← near2]
    exact key
theorem sp_pulls (hn : 400 < n) {N : Nat} (hQ : MQ2 S I N) {b : Nat} (hb : b < 12) (hS : WS (I 63) b (WI I N)) (hR : WR (I 61 41) (I 63) N) (hk : ∀ (I' : tHI) (J' : tHJ), MK I I' → MJ J J' → k (aT S I (I 63) b (WI I N) 3) I' J') : F12_pullsOf n S I J (nI b) k := by
  unfold F12_pullsOf
  refine sp_bendM (kd := 3) (wo := fun _ _ => 2000000000) hn hQ hb (by omega) (fun I' J' a1 a2 a3 a4 a5 => ?_) (fun _ _ _ => rfl)
  have key := hk I' J' a1 a2
  have hne : ∀ v, lawT S I (wl (wB (I 63) b (WI I N))) (nI 3) = some v → ¬ v = 2000000000 := fun v hv => told_ne (WSbd hS) hv
  unfold aT at key
  obtain ⟨v2, p2⟩ := ofB (S := S) (I := I') (J := J') hb (q := 2) (by decide) (v := nI b) rfl (w := 2) rfl
  simp only [lg_cmp_eq]
  refine ⟨⟨fun _ => trivial, fun _ => ⟨p2, trivial⟩⟩, ?_⟩
  cases ht : lawT S I (wl (wB (I 63) b (WI I N))) (nI 3) with
  | none =>
    rw [ht] at key
    show k (if (2000000000 : Int64) = 2000000000 then _ else _) I' J'
    rw [if_pos rfl, v2, a3, a1.1 63 (by decide)]
    have e : tellV none (nI 3) (wB (I 63) b (WI I N)) = 5 * I 63 (38 + 4 * b + 2) + sCh (I 61 41) (I 63) N / 20 - I 63 8 := by
      show I 63 (38 + 4 * b + 2) * 5 + sCh (I 61 41) (I 63) N / 20 - I 63 8 = _
      rw [Int32.mul_comm]
    rw [e] at key
    exact key
  | some v =>
    rw [ht] at key
    show k (if v = 2000000000 then _ else V12_within v (-99) 99) I' J'
    rw [if_neg (hne v ht), ← near3]
    exact key
theorem long10 {x : Int32} (h : 0 ≤ x.toInt ∧ x.toInt ≤ 99) : V12_within ((x / 10).toInt64) 0 100 = x / 10 := by
  have hb : (x / 10).toInt = x.toInt / 10 := by
    rw [Int32.toInt_div, show (10 : Int32).toInt = 10 from rfl, Int.bmod_def, Int.tdiv_eq_ediv_of_nonneg h.1]
    omega
  refine Int32.toInt_inj.mp ?_
  rw [mwi (by decide), Int32.toInt_toInt64, hb, show (0 : Int32).toInt = 0 from rfl, show (100 : Int32).toInt = 100 from rfl]
  omega
theorem sp_learns (hn : 400 < n) {N : Nat} (hQ : MQ2 S I N) {b : Nat} (hb : b < 12) (hS : WS (I 63) b (WI I N)) (hk : ∀ (I' : tHI) (J' : tHJ), MK I I' → MJ J J' → k (aT S I (I 63) b (WI I N) 4) I' J') : F12_learnsOf n S I J (nI b) k := by
  have o1 := fun (X : tHI) (Y : tHJ) => ofB (S := S) (I := X) (J := Y) hb (q := 1) (by decide) (v := nI b) rfl (w := 1) rfl
  have main : F12_setBend n S I J (nI b) (fun I1 J2 => F12_tells n S I1 J2 (nI 4) ((fun (X : tHI) (_ : tHJ) => (X 63 (38 + 4 * b + 1) / 10).toInt64) I1 J2) (fun x5 I3 J4 => k (V12_within x5 0 100) I3 J4)) := by
    refine sp_bendM (kd := 4) (wo := fun (X : tHI) (_ : tHJ) => (X 63 (38 + 4 * b + 1) / 10).toInt64) hn hQ hb (by omega) (fun I' J' a1 a2 a3 a4 a5 => ?_) (fun X Y e => by rw [e])
    have key := hk I' J' a1 a2
    unfold aT at key
    cases ht : lawT S I (wl (wB (I 63) b (WI I N))) (nI 4) with
    | none =>
      rw [ht] at key
      show k (V12_within ((I 63 (38 + 4 * b + 1) / 10).toInt64) 0 100) I' J'
      rw [long10 hS.2.1]
      exact key
    | some v =>
      rw [ht] at key
      show k (V12_within v 0 100) I' J'
      rw [← near4]
      exact key
  unfold F12_learnsOf
  unfold F12_setBend at main ⊢
  revert main
  have mono : ∀ (f : Nat) (X : tHI) (i : Int32) (k1 k2 : tHI → tHJ → Prop), (∀ A B, k1 A B → k2 A B) → F12_weighLoads_L17 n S k1 f X J i → F12_weighLoads_L17 n S k2 f X J i := by
    intro f
    induction f with
    | zero => intro X i k1 k2 _ h; exact h
    | succ f ih =>
      intro X i k1 k2 hm h
      have h' : F12_weighLoads_17 n S k1 (F12_weighLoads_L17 n S k1 f) X J i := h
      show F12_weighLoads_17 n S k2 (F12_weighLoads_L17 n S k2 f) X J i
      unfold F12_weighLoads_17 F12_weighLoads_132 at h' ⊢
      refine ⟨fun q => hm _ _ (h'.1 q), fun q => ⟨fun q2 => ih _ _ _ _ hm ((h'.2 q).1 q2), fun q2 => ?_⟩⟩
      obtain ⟨u1, u2, u3, u4, u5, u6⟩ := (h'.2 q).2 q2
      exact ⟨u1, u2, u3, u4, u5, ih _ _ _ _ hm u6⟩
  refine mono n _ 0 _ _ (fun A B hab => ?_)
  refine ⟨hab.1, hab.2.1, hab.2.2.1, (o1 _ _).2, ?_⟩
  have e1 : (38 + 4 * nI b + 1 : Int32).toNatClampNeg = 38 + 4 * b + 1 := by
    have e : 38 + 4 * nI b + 1 = nI (38 + 4 * b + 1) := by rw [ql 38, ql 4, ql 1, qmul, nI_add, nI_add]
    rw [e, qn (by omega)]
  have h := hab.2.2.2
  simp only [V12_ofBend, e1] at h ⊢
  exact h
end BE
