/-! soonest, II: the class -/
def tmS (r : Nat → Int32) (b p : Nat) : Nat := (if (r (38 + 4 * b + 1)).toNatClampNeg ≤ 99 then (r (38 + 4 * b + 1)).toNatClampNeg else 99) * 60 / p
theorem tmS_b {r : Nat → Int32} (b p : Nat) : tmS r b p ≤ 5940 := by
  unfold tmS
  refine Nat.le_trans (Nat.div_le_self _ _) ?_
  split <;> omega
def zQ (Q : Nat → Nat) : Nat → Bool
  | 0 => true
  | b + 1 => zQ Q b && decide (1 ≤ Q b)
theorem zQ_t {Q : Nat → Nat} : ∀ B, zQ Q B = true → ∀ b, b < B → 1 ≤ Q b := by
  intro B
  induction B with
  | zero => intro _ b hb; omega
  | succ B ih =>
    intro h b hb
    have h : (zQ Q B && decide (1 ≤ Q B)) = true := h
    rw [Bool.and_eq_true] at h
    by_cases c : b = B
    · subst c; exact of_decide_eq_true h.2
    · exact ih h.1 b (by omega)
theorem zQ_f {Q : Nat → Nat} {b : Nat} (hb : Q b = 0) : ∀ d, zQ Q (b + 1 + d) = false := by
  intro d
  induction d with
  | zero =>
    show (zQ Q b && decide (1 ≤ Q b)) = false
    rw [decide_eq_false (by omega), Bool.and_false]
  | succ d ih =>
    show (zQ Q (b + 1 + d) && decide (1 ≤ Q (b + 1 + d))) = false
    rw [ih]; rfl
theorem zQ_n {Q : Nat → Nat} : ∀ B, zQ Q B = false → ∃ b, b < B ∧ Q b = 0 := by
  intro B
  induction B with
  | zero => intro h; exact absurd (show true = false from h) (by decide)
  | succ B ih =>
    intro h
    by_cases c : zQ Q B = true
    · refine ⟨B, by omega, ?_⟩
      have h : (zQ Q B && decide (1 ≤ Q B)) = false := h
      rw [c, Bool.true_and] at h
      have := of_decide_eq_false h
      omega
    · obtain ⟨b, h1, h2⟩ := ih (by cases z : zQ Q B with
        | true => exact absurd z c
        | false => rfl)
      exact ⟨b, by omega, h2⟩
def anS (T : Nat → Nat → Nat) (Q : Nat → Nat) (g k B : Nat) (v1 : Int32) : Int32 := if zQ Q B = true then (if v1 = -1 then (if B = 0 then 0 else nI (glS T Q g k B 0)) else nI (wkS T Q g k B v1.toNatClampNeg)) else -1
theorem qdv {a p : Nat} (h : a < 2147483648) (hp : 0 < p) (hp2 : p < 2147483648) : nI a / nI p = nI (a / p) := by
  refine Int32.toInt_inj.mp ?_
  have h0 : a / p ≤ a := Nat.div_le_self _ _
  have h1 : a / p < 2147483648 := by omega
  rw [Int32.toInt_div, qi h, qi h1, qi hp2, Int.bmod_def]
  have e : (a : Int).tdiv p = ((a / p : Nat) : Int) := rfl
  rw [e]
  generalize a / p = z at *
  omega
theorem lo_v : ∀ p, p < 61 → ∀ k, k < 61 → (if (1 : Int32) < (if nI p - nI k < 60 then nI p - nI k else 60) then (if nI p - nI k < 60 then nI p - nI k else 60) else 1) = nI (loP k p) := by decide +kernel
section SN
variable {n : Nat} {S : tSH} {I : tHI} {J : tHJ} {k : Int32 → tHI → tHJ → Prop} {f : Nat → Nat} {b : Nat}
theorem bp_L (hb : b < 13) (hf : ∀ j, 1 ≤ j → j ≤ 60 → I 53 (61 * b + j) = nI (clS (f j)) ∧ f j ≤ 100000000) {lo d h : Nat} (hlo : 1 ≤ lo) (hd : lo + d ≤ 60) (hh : h < 200) (hh2 : h = lo + d ∨ (lo + d = 60 ∧ 60 ≤ h)) (hk : k (nI (bpF f lo d)) I J) : ∀ (e g x : Nat), x + e = d → e < g → F5_bestPace_L18 n S k g I J (nI b) (nI h) (nI (bpF f lo x)) (nI (lo + x + 1)) := by
  intro e
  induction e with
  | zero =>
    intro g x hx hg
    obtain ⟨g, rfl⟩ : ∃ z, g = z + 1 := ⟨g - 1, by omega⟩
    have : x = d := by omega
    subst this
    show F5_bestPace_18 n S k (F5_bestPace_L18 n S k g) I J (nI b) (nI h) (nI (bpF f lo x)) (nI (lo + x + 1))
    unfold F5_bestPace_18 F5_bestPace_68
    refine ⟨fun _ => hk, fun q => ⟨fun _ => hk, fun q2 => ?_⟩⟩
    exfalso
    rcases hh2 with z | z
    · exact q ((qlt (by omega) (by omega)).mpr (by omega))
    · exact q2 ((qlt (a := 60) (by omega) (by omega)).mpr (by omega))
  | succ e ih =>
    intro g x hx hg
    obtain ⟨g, rfl⟩ : ∃ z, g = z + 1 := ⟨g - 1, by omega⟩
    show F5_bestPace_18 n S k (F5_bestPace_L18 n S k g) I J (nI b) (nI h) (nI (bpF f lo x)) (nI (lo + x + 1))
    unfold F5_bestPace_18
    have hin := bpF_in (f := f) (lo := lo) x
    obtain ⟨a1, a2⟩ := hf (bpF f lo x) (by omega) (by omega)
    obtain ⟨c1, c2⟩ := hf (lo + x + 1) (by omega) (by omega)
    have i1 : nI b * 61 + nI (lo + x + 1) = nI (61 * b + (lo + x + 1)) := by rw [ql 61, qmul, nI_add, Nat.mul_comm]
    have i2 : nI b * 61 + nI (bpF f lo x) = nI (61 * b + bpF f lo x) := by rw [ql 61, qmul, nI_add, Nat.mul_comm]
    have b1 := clS_b a2
    have b2 := clS_b c2
    rw [i1, i2, qn (by omega), qn (by omega), a1, c1, show nI (lo + x + 1) + 1 = nI (lo + x + 1 + 1) from nI_add _ 1]
    refine ⟨fun q => ?_, fun _ => ⟨fun q => ?_, fun _ => ⟨(qin (by omega)).mpr (by omega), (qin (by omega)).mpr (by omega), ?_⟩⟩⟩
    · exfalso; have := (qlt (by omega) (by omega)).mp q; omega
    · exfalso; have := (qlt (a := 60) (by omega) (by omega)).mp q; omega
    · have key := ih g (x + 1) (by omega) (by omega)
      have e1 : bpF f lo (x + 1) = (if f (bpF f lo x) ≤ f (lo + x + 1) then bpF f lo x else lo + x + 1) := rfl
      rw [e1] at key
      by_cases c : f (bpF f lo x) ≤ f (lo + x + 1)
      · rw [if_pos c] at key
        rw [if_pos ((qle (by omega) (by omega)).mpr ((clS_le a2 c2).mpr c))]
        exact key
      · rw [if_neg c] at key
        rw [if_neg (fun q => c ((clS_le a2 c2).mp ((qle (by omega) (by omega)).mp q)))]
        exact key
/-- the best pace that can be reached from a pace -/
theorem sp_bp (hn : 100 < n) (hb : b < 13) (hf : ∀ j, 1 ≤ j → j ≤ 60 → I 53 (61 * b + j) = nI (clS (f j)) ∧ f j ≤ 100000000) {p g kk : Nat} (hp : 1 ≤ p) (hp60 : p ≤ 60) (hg : g ≤ 60) (hkk : kk ≤ 60) (hk : k (nI (nxP f g kk p)) I J) : F5_bestPace n S I J (nI b) (nI p - nI kk) (nI p + nI g) k := by
  have h1 := lh (g := g) (k := kk) hp hp60
  unfold F5_bestPace
  rw [lo_v p (by omega) kk (by omega), nI_add, show nI (loP kk p) + 1 = nI (loP kk p + 0 + 1) from nI_add _ 1]
  refine bp_L (f := f) (lo := loP kk p) (d := hiP g p - loP kk p) (h := p + g) hb hf h1.1 (by omega) (by omega) ?_ hk (hiP g p - loP kk p) n 0 (by omega) (by omega)
  have e : loP kk p + (hiP g p - loP kk p) = hiP g p := by omega
  rw [e]
  unfold hiP
  split
  · exact Or.inl rfl
  · exact Or.inr ⟨rfl, by omega⟩
/-- the best pace of all -/
theorem sp_bp0 (hn : 100 < n) (hf : ∀ j, 1 ≤ j → j ≤ 60 → I 53 (61 * 0 + j) = nI (clS (f j)) ∧ f j ≤ 100000000) (hk : k (nI (bpF f 1 59)) I J) : F5_bestPace n S I J 0 1 60 k := by
  unfold F5_bestPace
  have e : (if (1 : Int32) < (if (1 : Int32) < 60 then 1 else 60) then (if (1 : Int32) < 60 then 1 else 60) else 1) = nI 1 := by decide
  rw [e, show nI 1 + 1 = nI (1 + 0 + 1) from nI_add 1 1]
  exact bp_L (f := f) (b := 0) (lo := 1) (d := 59) (h := 60) (by omega) hf (by omega) (by omega) (by omega) (Or.inl rfl) hk 59 n 0 (by omega) (by omega)
end SN
section SN2
variable {n : Nat} {S : tSH} {I : tHI} {J : tHJ} {k : Int32 → tHI → tHJ → Prop} {r W : Nat → Int32} {Q : Nat → Nat} {B g kk : Nat}
/-- the class's table, filled down to a bend and up to a pace -/
def TS (T : Nat → Nat → Nat) (Q : Nat → Nat) (g kk B : Nat) (u : Nat → Int32) (b p : Nat) : Prop := ∀ b' p', b' < B → 1 ≤ p' → p' ≤ 60 → u (61 * b' + p') = (if b < b' ∨ (b' = b ∧ p' < p) then nI (clS (tbS T Q g kk B (B - b') p')) else nI 1000000000)
def X53 (I X : tHI) : Prop := ∀ x, x ≠ 53 → X x = I x
theorem TS.row {T : Nat → Nat → Nat} {u : Nat → Int32} {b p : Nat} (hT : ∀ b p, T b p ≤ 5940) (hB : B ≤ 12) (h : TS T Q g kk B u b p) (hb : b + 1 < B) : ∀ j, 1 ≤ j → j ≤ 60 → u (61 * (b + 1) + j) = nI (clS (tbS T Q g kk B (B - (b + 1)) j)) ∧ tbS T Q g kk B (B - (b + 1)) j ≤ 100000000 := fun j h1 h2 => by
  have := h (b + 1) j hb h1 h2
  rw [if_pos (Or.inl (by omega))] at this
  exact ⟨this, tbS_le hT (by omega)⟩
theorem TS.add {T : Nat → Nat → Nat} {u : Nat → Int32} {b p : Nat} {v : Int32} (h : TS T Q g kk B u b p) (hp : 1 ≤ p) (hp60 : p ≤ 60) (hv : v = nI (clS (tbS T Q g kk B (B - b) p))) : TS T Q g kk B (up u (61 * b + p) v) b (p + 1) := by
  intro b' p' h1 h2 h3
  by_cases e : b' = b ∧ p' = p
  · rw [e.1, e.2, upe, if_pos (Or.inr ⟨rfl, by omega⟩)]; exact hv
  · rw [upn (by omega), h b' p' h1 h2 h3]
    by_cases c : b < b' ∨ (b' = b ∧ p' < p)
    · rw [if_pos c, if_pos (by omega)]
    · rw [if_neg c, if_neg (by omega)]
theorem TS.dn {T : Nat → Nat → Nat} {u : Nat → Int32} {b p : Nat} (h : TS T Q g kk B u (b + 1) p) (hq : Q (b + 1) < p) (hb : b + 1 < B) : TS T Q g kk B u b 1 := by
  intro b' p' h1 h2 h3
  rw [h b' p' h1 h2 h3]
  by_cases c : b + 1 < b' ∨ (b' = b + 1 ∧ p' < p)
  · rw [if_pos c, if_pos (by omega)]
  · rw [if_neg c]
    by_cases d : b' = b + 1
    · rw [if_pos (by omega), d, tbS_eq hb, if_pos (by omega)]; rfl
    · rw [if_neg (by omega)]
theorem tm_v {X : tHI} {J' : tHJ} {b p : Nat} (hQ : CQ S X r W) (hB1 : r 1 = nI B) (hB : B ≤ 12) (hb : b < B) (hp : 1 ≤ p) (hp60 : p ≤ 60) : V7_timeAt S X J' 7 (nI b) (nI p) = nI (tmS r b p) ∧ P7_timeAt S X J' 7 (nI b) (nI p) := by
  have hbi : (b : Int) < (r 1).toInt := by rw [hB1, qi (by omega)]; omega
  obtain ⟨hb12, hh, h8, h9, ht⟩ := hQ.has (J := J') hbi
  obtain ⟨l, l1, l2⟩ := (hQ.1.2.2.2.2.2.1.2.2.2.1 b hb12).2.1
  have np : ¬ nI p ≤ 0 := fun q => by have := (qle (b := 0) (by omega) (by omega)).mp q; omega
  unfold V7_timeAt P7_timeAt
  rw [if_neg hh, if_neg np, qn (by omega)]
  refine ⟨?_, fun _ => trivial, fun _ => ⟨fun _ => trivial, fun q => ⟨(qin (by omega)).mpr hb12, fun y => by have := (qeq (b := 0) (by omega) (by omega)).mp y; omega, trivial⟩⟩⟩
  show X 9 b * 60 / nI p = _
  unfold tmS
  rw [h9, l1, qn (by omega), if_pos l2, ql 60, qmul, qdv (by omega) (by omega) (by omega)]
theorem fl_in (hn : 100 < n) (hQ0 : CQ S I r W) (hB1 : r 1 = nI B) (hB : B ≤ 12) (hg : r 5 = nI g) (hg60 : g ≤ 60) (hk0 : r 6 = nI kk) (hkk : kk ≤ 60) (hQs : ∀ b, b < B → I 52 b = nI (Q b)) (hQ60 : ∀ b, Q b ≤ 60) {kb : tHI → tHJ → Prop} {kb13 : tHI → tHJ → Int32 → Int32 → Prop} {b : Nat} (hb : b < B) (hk : ∀ X : tHI, X53 I X → TS (tmS r) Q g kk B (X 53) b (Q b + 1) → kb13 X J (nI B) (nI b - 1)) : ∀ (d f p : Nat) (X : tHI), p + d = Q b + 1 → d < f → 1 ≤ p → X53 I X → TS (tmS r) Q g kk B (X 53) b p → F5_fillLeast_L19 n S kb kb13 f X J (nI B) (nI b) (nI p) := by
  intro d
  induction d with
  | zero =>
    intro f p X hp hf hp1 c1 c2
    obtain ⟨f, rfl⟩ : ∃ z, f = z + 1 := ⟨f - 1, by omega⟩
    have : p = Q b + 1 := by omega
    subst this
    show F5_fillLeast_19 n S kb kb13 (F5_fillLeast_L19 n S kb kb13 f) X J (nI B) (nI b) (nI (Q b + 1))
    unfold F5_fillLeast_19
    have h60 := hQ60 b
    rw [qn (by omega), c1 52 (by decide), hQs b hb]
    refine ⟨(qin (by omega)).mpr (by omega), fun _ => ?_, fun q => absurd ((qlt (by omega) (by omega)).mpr (by omega)) q⟩
    rw [← Int32.sub_eq_add_neg]
    exact hk X c1 c2
  | succ d ih =>
    intro f p X hp hf hp1 c1 c2
    obtain ⟨f, rfl⟩ : ∃ z, f = z + 1 := ⟨f - 1, by omega⟩
    have h60 := hQ60 b
    have hQX : CQ S X r W := ⟨hQ0.1.cg (fun i hi => c1 _ (by omega)) (fun x hx => c1 x (by omega)), fun a h3 h12 => by rw [c1 49 (by decide)]; exact hQ0.2.1 a h3 h12, hQ0.2.2⟩
    obtain ⟨tv, tp⟩ := tm_v (J' := J) hQX hB1 hB hb hp1 (p := p) (by omega)
    have x155 : X 15 6 = nI g := by have : X 15 6 = r 5 := hQX.1.2.2.2.2.1.2.2.2.2.2.2.1; rw [this, hg]
    have x156 : X 15 7 = nI kk := by have : X 15 7 = r 6 := hQX.1.2.2.2.2.1.2.2.2.2.2.2.2.1; rw [this, hk0]
    have hT := tmS_b (r := r)
    have hTb := tmS_b (r := r) b p
    have i1 : nI b * 61 + nI p = nI (61 * b + p) := by rw [ql 61, qmul, nI_add, Nat.mul_comm]
    have fin : ∀ s : Nat, s ≤ 100000000 → (s ≤ 71280 ∨ s = 100000000) → tbS (tmS r) Q g kk B (B - b) p = (if tmS r b p + s ≤ 100000000 then tmS r b p + s else 100000000) → F5_fillLeast_88 n S kb kb13 (F5_fillLeast_L19 n S kb kb13 f) X J (nI B) (nI b) (nI p) (nI (clS s)) := by
      intro s hs hs2 et
      unfold F5_fillLeast_88
      have hc := clS_b hs
      rw [tv, i1, nI_add, qn (by omega), show nI p + 1 = nI (p + 1) from nI_add p 1]
      refine ⟨tp, (qin (by omega)).mpr (by omega), ih f (p + 1) _ (by omega) (by omega) (by omega) (fun x hx => by rw [uIn hx, c1 x hx]) ?_⟩
      rw [uIe]
      refine c2.add hp1 (by omega) ?_
      rw [et]
      by_cases z : nI (tmS r b p + clS s) < 1000000000
      · rw [if_pos z]
        have z := (qlt (b := 1000000000) (by omega) (by omega)).mp z
        congr 1
        unfold clS at z ⊢
        split at z
        · omega
        · rw [if_neg (by assumption)]; split <;> split <;> omega
      · rw [if_neg z]
        have z : ¬ tmS r b p + clS s < 1000000000 := fun w => z ((qlt (b := 1000000000) (by omega) (by omega)).mpr w)
        show nI 1000000000 = _
        congr 1
        unfold clS at z ⊢
        split at z
        · split <;> split <;> omega
        · omega
    show F5_fillLeast_19 n S kb kb13 (F5_fillLeast_L19 n S kb kb13 f) X J (nI B) (nI b) (nI p)
    unfold F5_fillLeast_19
    rw [qn (by omega), c1 52 (by decide), hQs b hb, x155, x156, show nI b + 1 = nI (b + 1) from nI_add b 1]
    refine ⟨(qin (by omega)).mpr (by omega), fun q => ?_, fun _ => ⟨fun q => ?_, fun q => ?_⟩⟩
    · exfalso; have := (qlt (by omega) (by omega)).mp q; omega
    · have := (qle (by omega) (by omega)).mp q
      exact fin 0 (by omega) (by omega) (by rw [tbS_eq hb, if_neg (by omega), if_pos (show B = b + 1 by omega)])
    · have hb1 : b + 1 < B := by
        rcases Nat.lt_or_ge (b + 1) B with z | z
        · exact z
        · exact absurd ((qle (by omega) (by omega)).mpr z) q
      refine sp_bp hn (by omega) (c2.row hT hB hb1) hp1 (by omega) hg60 hkk ?_
      have hin := nxP_in (f := tbS (tmS r) Q g kk B (B - (b + 1))) (g := g) (k := kk) hp1 (by omega)
      obtain ⟨w1, w2⟩ := c2.row hT hB hb1 _ hin.2.2.1 hin.2.2.2
      have i2 : nI (b + 1) * 61 + nI (nxP (tbS (tmS r) Q g kk B (B - (b + 1))) g kk p) = nI (61 * (b + 1) + nxP (tbS (tmS r) Q g kk B (B - (b + 1))) g kk p) := by rw [ql 61, qmul, nI_add, Nat.mul_comm]
      rw [i2, qn (by omega), w1]
      refine ⟨(qin (by omega)).mpr (by omega), fin _ w2 ?_ (by rw [tbS_eq hb, if_neg (by omega), if_neg (show ¬ B = b + 1 by omega)])⟩
      rcases tbS_b (Q := Q) (g := g) (k := kk) (B := B) hT (B - (b + 1)) (nxP (tbS (tmS r) Q g kk B (B - (b + 1))) g kk p) (by omega) with z | z
      · exact Or.inl (by omega)
      · exact Or.inr z
theorem fl_out (hn : 100 < n) (hQ0 : CQ S I r W) (hB1 : r 1 = nI B) (hB : B ≤ 12) (hg : r 5 = nI g) (hg60 : g ≤ 60) (hk0 : r 6 = nI kk) (hkk : kk ≤ 60) (hQs : ∀ b, b < B → I 52 b = nI (Q b)) (hQ60 : ∀ b, Q b ≤ 60) {kb : tHI → tHJ → Prop} (hk : ∀ X : tHI, X53 I X → (∀ b p, b < B → 1 ≤ p → p ≤ 60 → X 53 (61 * b + p) = nI (clS (tbS (tmS r) Q g kk B (B - b) p))) → kb X J) : ∀ (c f : Nat) (X : tHI), c ≤ B → c < f → X53 I X → (∀ b p, b < B → 1 ≤ p → p ≤ 60 → X 53 (61 * b + p) = (if c ≤ b then nI (clS (tbS (tmS r) Q g kk B (B - b) p)) else nI 1000000000)) → F5_fillLeast_L13 n S kb f X J (nI B) (nI c - 1) := by
  intro c
  induction c with
  | zero =>
    intro f X hc hf c1 c2
    obtain ⟨f, rfl⟩ : ∃ z, f = z + 1 := ⟨f - 1, by omega⟩
    show F5_fillLeast_13 n S kb (F5_fillLeast_L13 n S kb f) X J (nI B) (nI 0 - 1)
    unfold F5_fillLeast_13
    exact ⟨fun _ => hk X c1 (fun b p h1 h2 h3 => by rw [c2 b p h1 h2 h3, if_pos (by omega)]), fun q => absurd (show nI 0 - 1 < 0 by decide) q⟩
  | succ c ih =>
    intro f X hc hf c1 c2
    obtain ⟨f, rfl⟩ : ∃ z, f = z + 1 := ⟨f - 1, by omega⟩
    show F5_fillLeast_13 n S kb (F5_fillLeast_L13 n S kb f) X J (nI B) (nI (c + 1) - 1)
    unfold F5_fillLeast_13
    rw [qpred (by omega), Nat.add_sub_cancel]
    have h60 := hQ60 c
    refine ⟨fun q => ?_, fun _ => ?_⟩
    · exfalso; rw [Int32.lt_iff_toInt_lt, qi (by omega), tz0] at q; omega
    · refine fl_in (I := I) (Q := Q) (b := c) hn hQ0 hB1 hB hg hg60 hk0 hkk hQs hQ60 (by omega) (fun Y y1 y2 => ih f Y (by omega) (by omega) y1 (fun b p h1 h2 h3 => ?_)) (Q c) n 1 X (by omega) (by omega) (by omega) c1 (fun b' p' h1 h2 h3 => ?_)
      · rw [y2 b p h1 h2 h3]
        by_cases d : c ≤ b
        · rw [if_pos d]
          by_cases e : c < b ∨ (b = c ∧ p < Q c + 1)
          · rw [if_pos e]
          · rw [if_neg e]
            have : b = c := by omega
            subst this
            rw [tbS_eq h1, if_pos (by omega)]; rfl
        · rw [if_neg d, if_neg (by omega)]
      · rw [c2 b' p' h1 h2 h3]
        by_cases d : c + 1 ≤ b'
        · rw [if_pos d, if_pos (by omega)]
        · rw [if_neg d, if_neg (by omega)]
theorem wk_L (hn : 100 < n) (hB : B ≤ 12) (hx5 : I 15 6 = nI g) (hg60 : g ≤ 60) (hx6 : I 15 7 = nI kk) (hkk : kk ≤ 60) (hF : ∀ b p, b < B → 1 ≤ p → p ≤ 60 → I 53 (61 * b + p) = nI (clS (tbS (tmS r) Q g kk B (B - b) p))) {q : Nat} (hq : q < B) (hk : k (nI (wkS (tmS r) Q g kk B q)) I J) : ∀ (d f b : Nat), b + d = q → d < f → F5_soonestRow_L98 n S k f I J (nI q) (nI (wkS (tmS r) Q g kk B b)) (nI (b + 1)) := by
  intro d
  induction d with
  | zero =>
    intro f b hb hf
    obtain ⟨f, rfl⟩ : ∃ z, f = z + 1 := ⟨f - 1, by omega⟩
    have : b = q := by omega
    subst this
    show F5_soonestRow_98 n S k (F5_soonestRow_L98 n S k f) I J (nI b) _ (nI (b + 1))
    unfold F5_soonestRow_98
    exact ⟨fun _ => hk, fun z => absurd ((qlt (by omega) (by omega)).mpr (by omega)) z⟩
  | succ d ih =>
    intro f b hb hf
    obtain ⟨f, rfl⟩ : ∃ z, f = z + 1 := ⟨f - 1, by omega⟩
    show F5_soonestRow_98 n S k (F5_soonestRow_L98 n S k f) I J (nI q) _ (nI (b + 1))
    unfold F5_soonestRow_98
    rw [hx5, hx6, show nI (b + 1) + 1 = nI (b + 1 + 1) from nI_add _ 1]
    have hw := wkS_in (T := tmS r) (Q := Q) (g := g) (k := kk) (B := B) b
    refine ⟨fun z => ?_, fun _ => ?_⟩
    · exfalso; have := (qlt (by omega) (by omega)).mp z; omega
    · exact sp_bp (f := tbS (tmS r) Q g kk B (B - (b + 1))) hn (by omega) (fun j h1 h2 => ⟨hF (b + 1) j (by omega) h1 h2, tbS_le tmS_b (by omega)⟩) hw.1 hw.2 hg60 hkk (ih f (b + 1) (by omega) (by omega))
/-- the class's frame -/
def CS (I X : tHI) : Prop := (∀ x, x ≠ 49 → x ≠ 52 → x ≠ 53 → X x = I x) ∧ ∀ y, 3 ≤ y → X 49 y = I 49 y
theorem CS.q {X : tHI} (c : CS I X) (h : CQ S I r W) : CQ S X r W := ⟨h.1.cg (fun i hi => c.1 _ (by omega) (by omega) (by omega)) (fun x hx => c.1 x (by omega) (by omega) (by omega)), fun a h3 h12 => by rw [c.2 a h3]; exact h.2.1 a h3 h12, h.2.2⟩
theorem son_L (hT : TY S) (hn : 1000 < n) (hQ0 : CQ S I r W) (hB1 : r 1 = nI B) (hB : B ≤ 12) (hg : r 5 = nI g) (hg60 : g ≤ 60) (hk0 : r 6 = nI kk) (hkk : kk ≤ 60) {v1 : Int32} (hv : v1 = -1 ∨ ∃ q, v1 = nI q ∧ q < B) (hk : ∀ (X : tHI) (J' : tHJ), CS I X → CJ J J' → k (anS (tmS r) (fun b => aQ S I r b W) g kk B v1) X J') : ∀ (d f b : Nat) (X : tHI) (J' : tHJ), b + d = B → d < f → zQ (fun b => aQ S I r b W) b = true → (∀ j, j < b → X 52 j = nI (aQ S I r j W)) → CS I X → CJ J J' → F5_soonestRow_L18 n S k f X J' v1 (nI B) (nI b) := by
  intro d
  induction d with
  | zero =>
    intro f b X J' hb hf hz h52 c1 c2
    obtain ⟨f, rfl⟩ : ∃ z, f = z + 1 := ⟨f - 1, by omega⟩
    have : b = B := by omega
    subst this
    show F5_soonestRow_18 n S k (F5_soonestRow_L18 n S k f) X J' v1 (nI b) (nI b)
    unfold F5_soonestRow_18
    refine ⟨fun _ => ?_, fun q => absurd ((qle (by omega) (by omega)).mpr (Nat.le_refl _)) q⟩
    have hQX := c1.q hQ0
    unfold F5_fillLeast
    refine F_fill (N := 793) (by omega) hT.l53 (by omega) ?_
    have f0 : ∀ x, x ≠ 53 → fillI X 53 0 793 1000000000 x = X x := fun x hx => by funext y; unfold fillI; rw [if_neg (by omega)]
    have f1 : ∀ y, y < 793 → fillI X 53 0 793 1000000000 53 y = nI 1000000000 := fun y hy => by unfold fillI; rw [if_pos (by omega)]; rfl
    generalize fillI X 53 0 793 1000000000 = X0 at *
    have hQ00 : CQ S X0 r W := ⟨hQX.1.cg (fun i hi => f0 _ (by omega)) (fun x hx => f0 x (by omega)), fun a h3 h12 => by rw [f0 49 (by decide)]; exact hQX.2.1 a h3 h12, hQX.2.2⟩
    refine fl_out (I := X0) (Q := fun b => aQ S I r b W) (by omega) hQ00 hB1 hB hg hg60 hk0 hkk (fun j hj => by rw [f0 52 (by decide)]; exact h52 j hj) (fun _ => aQ_le) (fun Y y1 y2 => ?_) b n X0 (by omega) (by omega) (fun _ _ => rfl) (fun b' p' h1 h2 h3 => by rw [if_neg (by omega)]; exact f1 _ (by omega))
    have cY : CS I Y := ⟨fun x h1 h2 h3 => by rw [y1 x h3, f0 x h3, c1.1 x h1 h2 h3], fun y h3 => by rw [y1 49 (by decide), f0 49 (by decide), c1.2 y h3]⟩
    have key := hk Y J' cY c2
    have hQY := cY.q hQ0
    have x155 : Y 15 6 = nI g := by have : Y 15 6 = r 5 := hQY.1.2.2.2.2.1.2.2.2.2.2.2.1; rw [this, hg]
    have x156 : Y 15 7 = nI kk := by have : Y 15 7 = r 6 := hQY.1.2.2.2.2.1.2.2.2.2.2.2.2.1; rw [this, hk0]
    unfold anS at key
    rw [if_pos hz] at key
    refine ⟨fun z => ?_, fun z => ?_⟩
    · have hB0 : 0 < b := by
        rcases Nat.eq_zero_or_pos b with w | w
        · exact absurd (by rw [w]; rfl) z
        · exact w
      refine sp_bp0 (f := tbS (tmS r) (fun b => aQ S I r b W) g kk b b) (by omega) (fun j h1 h2 => ⟨y2 0 j hB0 h1 h2, tbS_le tmS_b hB⟩) ?_
      have hw := wkS_in (T := tmS r) (Q := fun b => aQ S I r b W) (g := g) (k := kk) (B := b) 0
      have ew : bpF (tbS (tmS r) (fun b => aQ S I r b W) g kk b b) 1 59 = wkS (tmS r) (fun b => aQ S I r b W) g kk b 0 := rfl
      rw [ew]
      refine ⟨fun w => ?_, fun w => ?_⟩
      · rw [if_neg w] at key
        obtain ⟨q, q1, q2⟩ := hv.resolve_left w
        rw [q1, qn (by omega)] at key
        rw [q1]
        exact wk_L (r := r) (Q := fun b => aQ S I r b W) (by omega) hB x155 hg60 x156 hkk y2 q2 key q n 0 (by omega) (by omega)
      · rw [if_pos w, if_neg (show ¬ b = 0 by omega)] at key
        have hgl := glS_fin (T := tmS r) (Q := fun b => aQ S I r b W) (g := g) (k := kk) tmS_b (zQ_t b hz) hB 0 hB0
        have e53 := y2 0 (wkS (tmS r) (fun b => aQ S I r b W) g kk b 0) hB0 hw.1 hw.2
        rw [qn (by omega)]
        refine ⟨(qin (by omega)).mpr (by omega), ?_⟩
        rw [show 61 * 0 + wkS (tmS r) (fun b => aQ S I r b W) g kk b 0 = wkS (tmS r) (fun b => aQ S I r b W) g kk b 0 by omega] at e53
        rw [e53]
        have e2 : clS (tbS (tmS r) (fun b => aQ S I r b W) g kk b (b - 0) (wkS (tmS r) (fun b => aQ S I r b W) g kk b 0)) = glS (tmS r) (fun b => aQ S I r b W) g kk b 0 := by
          unfold clS
          exact if_neg (fun z => by have := hgl.1; unfold glS at this; omega)
        rw [e2]
        exact key
    · have hB0 : b = 0 := (qeq (b := 0) (by omega) (by omega)).mp z
      rcases hv with w | ⟨q, q1, q2⟩
      · rw [if_pos w, if_pos hB0] at key
        rw [if_pos w]; exact key
      · omega
  | succ d ih =>
    intro f b X J' hb hf hz h52 c1 c2
    obtain ⟨f, rfl⟩ : ∃ z, f = z + 1 := ⟨f - 1, by omega⟩
    show F5_soonestRow_18 n S k (F5_soonestRow_L18 n S k f) X J' v1 (nI B) (nI b)
    unfold F5_soonestRow_18
    have hQX := c1.q hQ0
    refine ⟨fun q => ?_, fun _ => ?_⟩
    · exfalso; have := (qle (by omega) (by omega)).mp q; omega
    · refine sp_quickest hT (by omega) hQX (b := b) (by rw [hB1, qi (by omega)]; omega) (fun X2 J2 y1 y2 => ?_)
      have eq : aQ S X r b W = aQ S I r b W := aQ_I hQ0.FO (c1.1 1 (by decide) (by decide) (by decide)) (fun x hx => c1.1 x (by omega) (by omega) (by omega))
      have hq60 : aQ S I r b W ≤ 60 := aQ_le
      rw [eq, qn (by omega), uIe, upe]
      have cS2 : CS I (uI X2 52 b (nI (aQ S I r b W))) := ⟨fun x h1 h2 h3 => by rw [uIn h2, y1.1 x h1, c1.1 x h1 h2 h3], fun y h3 => by rw [uIn (by decide), y1.2 y h3, c1.2 y h3]⟩
      refine ⟨(qin (by omega)).mpr (by omega), (qin (by omega)).mpr (by omega), fun z => ?_, fun z => ?_⟩
      · rw [show nI b + 1 = nI (b + 1) from nI_add b 1]
        have h1 : 1 ≤ aQ S I r b W := by
          rcases Nat.eq_zero_or_pos (aQ S I r b W) with w | w
          · exact absurd (by rw [w]; rfl) z
          · exact w
        refine ih f (b + 1) _ J2 (by omega) (by omega) ?_ (fun j hj => ?_) cS2 (c2.trans y2)
        · show (zQ (fun b => aQ S I r b W) b && decide (1 ≤ aQ S I r b W)) = true
          rw [hz, decide_eq_true h1]; rfl
        · rw [uIe]
          by_cases w : j = b
          · subst w; rw [upe]
          · rw [upn w, y1.1 52 (by decide)]; exact h52 j (by omega)
      · have h0 : aQ S I r b W = 0 := (qeq (b := 0) (by omega) (by omega)).mp z
        have key := hk _ J2 cS2 (c2.trans y2)
        unfold anS at key
        have zf := zQ_f (Q := fun b => aQ S I r b W) (b := b) h0 (B - (b + 1))
        rw [show b + 1 + (B - (b + 1)) = B by omega] at zf
        rw [zf, if_neg (by decide)] at key
        exact key
end SN2
