/-! what a law tells: Judge.tell and barred as a whole, and the model's tells -/
theorem inForce_J {S : tSH} {I : tHI} {J J' : tHJ} {a : Nat} : V8_inForce S I J a = V8_inForce S I J' a := rfl
/-- the law in force, as the State has it -/
theorem force_ok {S : tSH} {I : tHI} {J : tHJ} {r : Nat → Int32} (h : RSt S I 1 r) : P8_inForce S I J 1 ∧ ((r 4 = -1 ∧ V8_inForce S I J 1 = none) ∨ ∃ f p : Nat, r 4 = nI f ∧ (f : Int) < (r 3).toInt ∧ f < 6 ∧ V8_inForce S I J 1 = some p ∧ LRel S p (I p) (I (p + 1)) (I (p + 2)) (I (p + 4)) r (110 + 900 * f)) := by
  obtain ⟨⟨a1, a2, a3, a4, a5⟩, -, -, -, -, ⟨⟨k0, k1, k2, ⟨w, w1, w2⟩, ⟨k4, k4b⟩, -⟩, -⟩, h7⟩ := h
  have z : (0 : Int32).toInt = 0 := rfl
  unfold P8_inForce V8_inForce
  rw [a1, a2]
  by_cases c : (r 4).toInt < 0
  · have e : r 4 = -1 := Int32.toInt_inj.mp (by have : (-1 : Int32).toInt = -1 := by decide
                                                omega)
    have c' : r 4 < 0 := by rw [Int32.lt_iff_toInt_lt]; exact c
    exact ⟨⟨fun _ => trivial, fun q => absurd c' q⟩, Or.inl ⟨e, if_pos c'⟩⟩
  · obtain ⟨f, hfb, ef⟩ : ∃ f : Nat, f < 2147483648 ∧ r 4 = nI f := ⟨_, (r 4).toNatClampNeg_lt, qof (by omega)⟩
    have hf : (r 4).toInt < w := by rw [w1, qi (by omega)] at k4b; exact k4b
    have hf2 : f < w := by rw [ef, qi hfb] at hf; omega
    have c1 : ¬ r 4 < 0 := by rw [Int32.lt_iff_toInt_lt]; exact c
    have c2 : ¬ r 3 ≤ r 4 := by rw [w1, ef]; intro y; have := (qle (by omega) hfb).mp y; omega
    have c3 : ¬ 6 ≤ r 4 := by rw [ef]; intro y; have := (qle (a := 6) (by omega) hfb).mp y; omega
    obtain ⟨p, hp, hl⟩ := h7 f (by rw [w1, qi (by omega)]; omega)
    refine ⟨⟨fun q => absurd q c1, fun _ => ⟨fun q => absurd q c2, fun _ => ⟨fun q => absurd q c3, fun _ => ⟨by rw [ef]; exact (qin hfb).mpr (by omega), trivial⟩⟩⟩⟩, Or.inr ⟨f, p, ef, by rw [w1, qi (by omega)]; omega, by omega, ?_, hl⟩⟩
    rw [if_neg c1, if_neg c2, if_neg c3, ef, qn hfb]
    exact hp
/-- the words of a bend -/
def wB (r : Nat → Int32) (b : Nat) (W : Nat → Int32) : Nat → Int32 := fun a => if a = 0 then r (38 + 4 * b) else if a = 1 then r (38 + 4 * b + 1) else if a = 2 then r (38 + 4 * b + 2) else W a
def wl (W : Nat → Int32) : Nat → Int64 := fun a => (W a).toInt64
theorem has7 {S : tSH} {I : tHI} {J : tHJ} {a : Nat} {v : Int32} : V7_has S I J a v = 0 ↔ ¬ (0 ≤ v.toInt ∧ v.toInt < (I a 0).toInt ∧ v.toInt < 12) := by
  have z : (0 : Int32).toInt = 0 := rfl
  have z12 : (12 : Int32).toInt = 12 := rfl
  unfold V7_has
  by_cases c1 : v < 0
  · rw [if_pos c1]; rw [Int32.lt_iff_toInt_lt] at c1; simp only [true_iff]; omega
  · rw [if_neg c1]
    rw [Int32.lt_iff_toInt_lt] at c1
    by_cases c2 : I a 0 ≤ v
    · rw [if_pos c2]; rw [Int32.le_iff_toInt_le] at c2; simp only [true_iff]; omega
    · rw [if_neg c2]
      rw [Int32.le_iff_toInt_le] at c2
      by_cases c3 : 12 ≤ v
      · rw [if_pos c3]; rw [Int32.le_iff_toInt_le] at c3; simp only [true_iff]; omega
      · rw [if_neg c3]
        rw [Int32.le_iff_toInt_le] at c3
        constructor
        · intro q; exact absurd q (by decide)
        · intro q; exact absurd ⟨by omega, by omega, by omega⟩ q
section LF
variable {n : Nat} {S : tSH} {I : tHI} {J : tHJ} {r : Nat → Int32}
theorem bd_of {x : Int32} (h1 : -1000000000 ≤ x.toInt) (h2 : x.toInt ≤ 1000000000) : bd x.toInt64 := by
  unfold bd
  rw [Int32.toInt_toInt64]
  omega
theorem sp_tell2 (hT : TY S) (hn : 400 < n) (h : RSt S I 1 r) {b : Nat} (hb : (b : Int) < (r 1).toInt) {kd : Nat} (hkd : kd ≤ 4) (hW : ∀ a, 3 ≤ a → a < 12 → -1000000000 ≤ (I 49 a).toInt ∧ (I 49 a).toInt ≤ 1000000000) {k : Int32 → tHI → tHJ → Prop} (hk : ∀ (I' : tHI) (J' : tHJ), (∀ x, x ≠ 49 → I' x = I x) → (∀ y, 3 ≤ y → I' 49 y = I 49 y) → (∀ x, x ≠ 47 → J' x = J x) → k (tellV (lawT S I (wl (wB r b (I 49))) (nI kd)) (nI kd) (wB r b (I 49))) I' J') : F2_tell n S I J (nI kd) (nI b) k := by
  obtain ⟨w, w1, w2⟩ := h.2.2.2.2.2.1.1.2.1
  have hb12 : b < 12 := by rw [w1, qi (by omega)] at hb; omega
  have h70 : I 7 0 = r 1 := h.1.2.2.2.1
  have hB : RB (I 8) (I 9) (I 10) (I 11) r := h.2.2.1
  obtain ⟨r1, r2, r3, r4⟩ := hB b hb12
  obtain ⟨⟨t1, t1b⟩, ⟨l, l1, l2⟩, ⟨t3, t3b⟩, -⟩ := h.2.2.2.2.2.1.2.2.2.1 b hb12
  unfold F2_tell
  refine ⟨fun _ => ?_, fun q => ?_⟩
  · have hin : vp_in (nI b) 12 := (qin (by omega)).mpr hb12
    refine ⟨hin, hin, hin, ?_⟩
    rw [qn (show b < 2147483648 by omega), uIn (show (9 : Nat) ≠ 49 by decide), uIn (show (10 : Nat) ≠ 49 by decide), uIn (show (10 : Nat) ≠ 49 by decide), r1, r2, r3]
    have e49 : ∀ x, x ≠ 49 → (uI (uI (uI I 49 0 (r (38 + 4 * b))) 49 1 (r (38 + 4 * b + 1))) 49 2 (r (38 + 4 * b + 2))) x = I x := fun x hx => by rw [uIn hx, uIn hx, uIn hx]
    have eW : ∀ a, (uI (uI (uI I 49 0 (r (38 + 4 * b))) 49 1 (r (38 + 4 * b + 1))) 49 2 (r (38 + 4 * b + 2))) 49 a = wB r b (I 49) a := fun a => by
      simp only [uIe, up, wB]
      by_cases a2 : a = 2
      · subst a2; simp
      · by_cases a1 : a = 1
        · subst a1; simp
        · by_cases a0 : a = 0
          · subst a0; simp
          · simp [a0, a1, a2]
    generalize (uI (uI (uI I 49 0 (r (38 + 4 * b))) 49 1 (r (38 + 4 * b + 1))) 49 2 (r (38 + 4 * b + 2))) = X at *
    have eF : V8_inForce S X J 1 = V8_inForce S I (fun _ _ => 0) 1 := by unfold V8_inForce; rw [e49 1 (by decide)]
    have eP : P8_inForce S X J 1 = P8_inForce S I J 1 := by unfold P8_inForce; rw [e49 1 (by decide)]
    obtain ⟨hP, hf⟩ := force_ok (J := fun _ _ => 0) h
    rw [eF, eP]
    have hX : ∀ y, 3 ≤ y → X 49 y = I 49 y := fun y hy => by rw [eW]; simp [wB, show ¬ y = 0 by omega, show ¬ y = 1 by omega, show ¬ y = 2 by omega]
    have e49f : X 49 = wB r b (I 49) := funext eW
    refine ⟨(force_ok (J := J) h).1, fun q => ?_, fun p q => ?_⟩
    · unfold F2_tell_77
      refine ⟨fun _ => ?_, fun a6 g => (by cases g)⟩
      obtain ⟨m, rfl⟩ : ∃ m, n = m + 1 := ⟨n - 1, by omega⟩
      show F2_tell_85 (m + 1) S k (F2_tell_L85 (m + 1) S k m) X J (nI kd) none (0 - 1)
      unfold F2_tell_85
      have fin : F2_tell_167 (m + 1) S k X J (nI kd) := by
        unfold F2_tell_167
        refine sp_without hkd ?_
        have := hk X J e49 hX (fun _ _ => rfl)
        have el : lawT S I (wl (wB r b (I 49))) (nI kd) = none := by unfold lawT; rw [q]
        rw [el] at this
        rw [e49f]
        exact this
      exact ⟨fun _ => ⟨fun _ => fin, fun _ => fin⟩, fun a8 g => (by cases g)⟩
    · unfold F2_tell_77
      refine ⟨fun g => (by cases g), fun a6 g => ?_⟩
      cases g
      have hl : ∃ at0, LRel S p (I p) (I (p + 1)) (I (p + 2)) (I (p + 4)) r at0 := by
        rcases hf with ⟨-, g⟩ | ⟨f, p', -, -, -, g, gl⟩
        · rw [q] at g; cases g
        · rw [q] at g; cases g; exact ⟨_, gl⟩
      obtain ⟨at0, hl⟩ := hl
      have hp : 89 ≤ p := hl.1.2.1
      have hlX : LRel S p (X p) (X (p + 1)) (X (p + 2)) (X (p + 4)) r at0 := by
        rw [e49 p (by omega), e49 (p + 1) (by omega), e49 (p + 2) (by omega), e49 (p + 4) (by omega)]; exact hl
      obtain ⟨-, m, ln, mn, c, op, ar, ⟨b1, b2, b3⟩, ⟨e4, e5, e6⟩, -⟩ := id hl
      have e4X : X p 4 = nI m := by rw [e49 p (by omega)]; exact e4
      rw [e4X]
      refine tell_L (w := wl (wB r b (I 49))) (at0 := at0) (r := r) hT.l47 hn hlX hkd hT.l49 (fun a ha => by rw [eW]; rfl) (fun a ha => ?_) m n J (by omega) (by rw [e4X]; exact (qle (by omega) (by omega)).mpr (Nat.le_refl m)) (by omega) (fun J' hJ' => ?_)
      · show bd (wB r b (I 49) a).toInt64
        by_cases a0 : a = 0
        · subst a0; exact bd_of (by show _ ≤ (r (38 + 4 * b)).toInt; omega) (by show (r (38 + 4 * b)).toInt ≤ _; omega)
        · by_cases a1 : a = 1
          · subst a1
            refine bd_of (by show _ ≤ (r (38 + 4 * b + 1)).toInt; rw [l1, qi (by omega)]; omega) (by show (r (38 + 4 * b + 1)).toInt ≤ _; rw [l1, qi (by omega)]; omega)
          · by_cases a2 : a = 2
            · subst a2; exact bd_of (by show _ ≤ (r (38 + 4 * b + 2)).toInt; omega) (by show (r (38 + 4 * b + 2)).toInt ≤ _; omega)
            · have : wB r b (I 49) a = I 49 a := by simp [wB, a0, a1, a2]
              rw [this]
              exact bd_of (hW a (by omega) ha).1 (hW a (by omega) ha).2
      · have := hk X J' e49 hX hJ'
        have el : lawT S I (wl (wB r b (I 49))) (nI kd) = toldC (X (p + 1)) (X (p + 2)) (X (p + 4)) (wl (wB r b (I 49))) (nI kd) m := by
          unfold lawT
          rw [q]
          show toldC (I (p + 1)) (I (p + 2)) (I (p + 4)) _ _ (I p 4).toNatClampNeg = _
          rw [e4, qn (by omega), e49 (p + 1) (by omega), e49 (p + 2) (by omega), e49 (p + 4) (by omega)]
        rw [el] at this
        rw [e49f]
        exact this
  · exfalso
    rw [has7, qi (by omega), h70] at q
    omega
/-- the words of a load on a spot -/
def wLd (W : Nat → Int32) (we sp al : Int32) : Nat → Int32 := fun a => if a < 6 then -1 else if a = 8 then we else if a = 9 then sp else if a = 10 then al else W a
theorem banC_up {f1 f2 f4 : Nat → Int32} {w : Nat → Int64} {i : Nat} : ∀ (d m : Nat), i + d = m → banC f1 f2 f4 w i = true → banC f1 f2 f4 w m = true := by
  intro d
  induction d with
  | zero => intro m h q; have : i = m := by omega
            subst this; exact q
  | succ d ih => intro m h q
                 obtain ⟨m, rfl⟩ : ∃ g, m = g + 1 := ⟨m - 1, by omega⟩
                 simp only [banC, ih m (by omega) q, Bool.true_or]
theorem barred_L {p at0 : Nat} {w : Nat → Int64} (h47 : sL S 47 = 52) (hn : 400 < n) (h : LRel S p (I p) (I (p + 1)) (I (p + 2)) (I (p + 4)) r at0) (h50 : sL S 50 = 12) (hw : ∀ a, a < 12 → (I 50 a).toInt64 = w a) {m : Nat} (hm : I p 4 = nI m) (hm2 : m ≤ 12) {k : Int32 → tHI → tHJ → Prop} : ∀ (d f i : Nat) (J : tHJ), i + d = m → d < f → banC (I (p + 1)) (I (p + 2)) (I (p + 4)) w i = false → (∀ J' : tHJ, (∀ x, x ≠ 47 → J' x = J x) → k (if banC (I (p + 1)) (I (p + 2)) (I (p + 4)) w m = true then 1 else 0) I J') → F2_barred_L85 n S k f I J p (nI i) := by
  intro d
  induction d with
  | zero =>
    intro f i J hi hf hb hk
    obtain ⟨f, rfl⟩ : ∃ g, f = g + 1 := ⟨f - 1, by omega⟩
    have : i = m := by omega
    subst this
    show F2_barred_85 n S k (F2_barred_L85 n S k f) I J p (nI i)
    unfold F2_barred_85
    rw [hm]
    refine ⟨fun _ => ?_, fun q => absurd ((qle (by omega) (by omega)).mpr (Nat.le_refl i)) q⟩
    have := hk J (fun _ _ => rfl)
    rw [hb, if_neg (by decide)] at this
    exact this
  | succ d ih =>
    intro f i J hi hf hb hk
    obtain ⟨f, rfl⟩ : ∃ g, f = g + 1 := ⟨f - 1, by omega⟩
    show F2_barred_85 n S k (F2_barred_L85 n S k f) I J p (nI i)
    unfold F2_barred_85 F2_barred_126
    obtain ⟨-, m', ln, mn, c, op, ar, ⟨b1, b2, b3⟩, ⟨e4, e5, e6⟩, ⟨l1, l2, l3, l4⟩, -⟩ := id h
    have em : m' = m := (qeq (by omega) (by omega)).mp (e4.symm.trans hm)
    subst em
    obtain ⟨kv, kp⟩ := kindOf_at (S := S) (I := I) (J := J) (p := p) b1 (show i < m' by omega) e4 l2
    have hlt : nI i < I p 4 := by rw [hm]; exact (qlt (by omega) (by omega)).mpr (by omega)
    rw [hm, nI_1]
    refine ⟨fun q => ?_, fun _ => ⟨kp, fun q => ?_, fun q => ?_⟩⟩
    · have := (qle (by omega) (by omega)).mp q; omega
    · rw [kv] at q
      refine ih f (i + 1) J (by omega) (by omega) ?_ hk
      simp [banC, hb, q]
    · rw [kv] at q
      refine sp_isSo h47 hn h hlt (by omega) h50 hw (fun J1 hJ1 => ?_)
      intro _
      refine ⟨fun g => ?_, fun g => ?_⟩
      · have ht : tstC (I (p + 1)) (I (p + 4)) w i = false := by
          cases y : tstC (I (p + 1)) (I (p + 4)) w i with
          | true => rw [y] at g; exact absurd g (by rw [if_pos rfl]; decide)
          | false => rfl
        refine ih f (i + 1) J1 (by omega) (by omega) ?_ (fun J' hJ' => hk J' (fun x hx => by rw [hJ' x hx, hJ1 x hx]))
        simp [banC, hb, ht]
      · have ht : tstC (I (p + 1)) (I (p + 4)) w i = true := by
          cases y : tstC (I (p + 1)) (I (p + 4)) w i with
          | true => rfl
          | false => rw [y] at g; exact absurd (if_neg (by decide)) g
        have := hk J1 hJ1
        rw [banC_up (i := i + 1) d m' (by omega) (by simp [banC, ht, q]), if_pos rfl] at this
        exact this
theorem sp_barred (hT : TY S) (hn : 400 < n) (h : RSt S I 1 r) (h50 : ∀ y, y < 6 → I 50 y = -1) {we sp al : Int32} {k : Int32 → tHI → tHJ → Prop} (hk : ∀ (I' : tHI) (J' : tHJ), (∀ x, x ≠ 50 → I' x = I x) → (∀ y, y < 6 → I' 50 y = I 50 y) → (∀ x, x ≠ 47 → J' x = J x) → k (if lawB S I (wl (wLd (I 49) we sp al)) = true then 1 else 0) I' J') : F2_barred n S I J we sp al k := by
  obtain ⟨hP, hf⟩ := force_ok (J := J) h
  unfold F2_barred
  refine ⟨hP, fun q => ?_, fun p q => ?_⟩
  · have := hk I J (fun _ _ => rfl) (fun _ _ => rfl) (fun _ _ => rfl)
    have el : lawB S I (wl (wLd (I 49) we sp al)) = false := by unfold lawB; rw [show V8_inForce S I (fun _ _ => 0) 1 = none from q]
    rw [el, if_neg (by decide)] at this
    exact this
  · simp only [uIn (show (49 : Nat) ≠ 50 by decide)]
    have hl : ∃ at0, LRel S p (I p) (I (p + 1)) (I (p + 2)) (I (p + 4)) r at0 := by
      rcases hf with ⟨-, g⟩ | ⟨f, p', -, -, -, g, gl⟩
      · rw [q] at g; cases g
      · rw [q] at g; cases g; exact ⟨_, gl⟩
    obtain ⟨at0, hl⟩ := hl
    have hp : 89 ≤ p := hl.1.2.1
    have e50 : ∀ x, x ≠ 50 → (uI (uI (uI (uI (uI (uI I 50 6 (I 49 6)) 50 7 (I 49 7)) 50 11 (I 49 11)) 50 8 we) 50 9 sp) 50 10 al) x = I x := fun x hx => by rw [uIn hx, uIn hx, uIn hx, uIn hx, uIn hx, uIn hx]
    have eW : ∀ a, a < 12 → (uI (uI (uI (uI (uI (uI I 50 6 (I 49 6)) 50 7 (I 49 7)) 50 11 (I 49 11)) 50 8 we) 50 9 sp) 50 10 al) 50 a = wLd (I 49) we sp al a := fun a ha => by
      simp only [uIe, up, wLd]
      have : a = 0 ∨ a = 1 ∨ a = 2 ∨ a = 3 ∨ a = 4 ∨ a = 5 ∨ a = 6 ∨ a = 7 ∨ a = 8 ∨ a = 9 ∨ a = 10 ∨ a = 11 := by omega
      rcases this with g | g | g | g | g | g | g | g | g | g | g | g <;> subst g <;> simp <;> exact h50 _ (by omega)
    have eL : ∀ y, y < 6 → (uI (uI (uI (uI (uI (uI I 50 6 (I 49 6)) 50 7 (I 49 7)) 50 11 (I 49 11)) 50 8 we) 50 9 sp) 50 10 al) 50 y = I 50 y := fun y hy => by
      rw [eW y (by omega), h50 y hy]; simp [wLd, hy]
    generalize (uI (uI (uI (uI (uI (uI I 50 6 (I 49 6)) 50 7 (I 49 7)) 50 11 (I 49 11)) 50 8 we) 50 9 sp) 50 10 al) = X at *
    have hlX : LRel S p (X p) (X (p + 1)) (X (p + 2)) (X (p + 4)) r at0 := by
      rw [e50 p (by omega), e50 (p + 1) (by omega), e50 (p + 2) (by omega), e50 (p + 4) (by omega)]; exact hl
    obtain ⟨-, m, ln, mn, c, op, ar, ⟨b1, b2, b3⟩, ⟨e4, e5, e6⟩, -⟩ := id hl
    have e4X : X p 4 = nI m := by rw [e50 p (by omega)]; exact e4
    refine barred_L (w := wl (wLd (I 49) we sp al)) hT.l47 hn hlX hT.l50 (fun a ha => by rw [eW a ha]; rfl) e4X b1 m n 0 J (by omega) (by omega) rfl (fun J' hJ' => ?_)
    have := hk X J' e50 eL hJ'
    have el : lawB S I (wl (wLd (I 49) we sp al)) = banC (X (p + 1)) (X (p + 2)) (X (p + 4)) (wl (wLd (I 49) we sp al)) m := by
      unfold lawB
      rw [show V8_inForce S I (fun _ _ => 0) 1 = some p from q]
      show banC (I (p + 1)) (I (p + 2)) (I (p + 4)) _ (I p 4).toNatClampNeg = _
      rw [e4, qn (by omega), e50 (p + 1) (by omega), e50 (p + 2) (by omega), e50 (p + 4) (by omega)]
    rw [el] at this
    exact this
end LF
