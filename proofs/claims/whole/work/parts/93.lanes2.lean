/-! lanes, II: the tables -/
def tN (hs : Nat → Nat) (B : Nat) : Nat → Nat → Nat
  | 0, _ => 0
  | d + 1, l => 100 * hol (hs (B - (d + 1))) l + (if d = 0 then 0 else cst (tN hs B d) l (bLn (tN hs B d) l))
theorem tN_le {hs : Nat → Nat} {B : Nat} : ∀ d l, tN hs B d l ≤ 301 * d := by
  intro d
  induction d with
  | zero => intro l; exact Nat.le_refl _
  | succ d ih =>
    intro l
    show 100 * hol (hs (B - (d + 1))) l + (if d = 0 then 0 else cst (tN hs B d) l (bLn (tN hs B d) l)) ≤ _
    have h1 := hol_le (h := hs (B - (d + 1))) (l := l)
    have h2 := cst_le (f := l) (ih (bLn (tN hs B d) l))
    split <;> omega
def wlk (hs : Nat → Nat) (B lane : Nat) : Nat → Nat
  | 0 => lane
  | b + 1 => bLn (tN hs B (B - b)) (wlk hs B lane b)
theorem wlk_lt {hs : Nat → Nat} {B lane : Nat} (h : lane < 3) : ∀ b, wlk hs B lane b < 3 := by
  intro b
  cases b with
  | zero => exact h
  | succ b => exact bLn_lt
def s0L (hs : Nat → Nat) (B lane : Nat) : Int32 := if B = 0 then 0 else nI (cst (tN hs B B) lane (bLn (tN hs B B) lane))
def anL (hs : Nat → Nat) (B lane q : Nat) : Int32 := if 2 ≤ q then nI (wlk hs B lane (q - 1)) else (if q = 0 then s0L hs B lane / 100 else s0L hs B lane - s0L hs B lane / 100 * 100)
def TB (g : Nat → Int32) (hs : Nat → Nat) (B b l : Nat) : Prop := ∀ b' x, b' < B → x < 3 → (b < b' ∨ (b' = b ∧ x < l)) → g (3 * b' + x) = nI (tN hs B (B - b') x)
theorem TB.at {g : Nat → Int32} {hs : Nat → Nat} {B b l b' : Nat} (h : TB g hs B b l) (h1 : b < b') (h2 : b' < B) : ∀ x, x < 3 → g (3 * b' + x) = nI (tN hs B (B - b') x) := fun x hx => h b' x h2 hx (Or.inl h1)
theorem TB.add {g : Nat → Int32} {hs : Nat → Nat} {B b l : Nat} {v : Int32} (h : TB g hs B b l) (hl : l < 3) (hv : v = nI (tN hs B (B - b) l)) : TB (up g (3 * b + l) v) hs B b (l + 1) := by
  intro b' x h1 h2 h3
  by_cases e : b' = b ∧ x = l
  · rw [e.1, e.2, upe]; exact hv
  · rw [upn (by omega)]
    exact h b' x h1 h2 (by omega)
theorem TB.dn {g : Nat → Int32} {hs : Nat → Nat} {B b : Nat} (h : TB g hs B (b + 1) 3) : TB g hs B b 0 := fun b' x h1 h2 h3 => h b' x h1 h2 (by omega)
theorem tN_eq {hs : Nat → Nat} {B b l : Nat} (hb : b < B) : tN hs B (B - b) l = 100 * hol (hs b) l + (if B = b + 1 then 0 else cst (tN hs B (B - (b + 1))) l (bLn (tN hs B (B - (b + 1))) l)) := by
  obtain ⟨d, hd⟩ : ∃ d, B - b = d + 1 := ⟨B - b - 1, by omega⟩
  rw [hd]
  show 100 * hol (hs (B - (d + 1))) l + (if d = 0 then 0 else cst (tN hs B d) l (bLn (tN hs B d) l)) = _
  rw [show B - (d + 1) = b by omega, show B - (b + 1) = d by omega]
  by_cases c : d = 0
  · rw [if_pos c, if_pos (by omega)]
  · rw [if_neg c, if_neg (by omega)]
section LN2
variable {n : Nat} {S : tSH} {I : tHI} {J : tHJ} {k : Int32 → tHI → tHJ → Prop} {hs : Nat → Nat} {B lane : Nat}
def X54 (I X : tHI) : Prop := ∀ x, x ≠ 54 → X x = I x
theorem tb6 {B b x : Nat} (h : B ≤ 12) : tN hs B (B - b) x ≤ 1000000 := by
  have := tN_le (hs := hs) (B := B) (B - b) x
  omega
theorem wal_L (hn : 10 < n) (hB : B ≤ 12) (hlane : lane < 3) {q : Nat} (hq2 : 2 ≤ q) (hqB : q ≤ B + 1) (hT : ∀ b x, b < B → x < 3 → I 54 (3 * b + x) = nI (tN hs B (B - b) x)) (hk : k (nI (wlk hs B lane (q - 1))) I J) : ∀ (d f b : Nat), b + d = q - 1 → d < f → F5_lanesRow_L173 n S k f I J (nI q) (nI (wlk hs B lane b)) (nI b) := by
  have e2 : nI q - 2 = nI (q - 2) := by rw [ql 2, qsub hq2]
  intro d
  induction d with
  | zero =>
    intro f b hb hf
    obtain ⟨f, rfl⟩ : ∃ g, f = g + 1 := ⟨f - 1, by omega⟩
    show F5_lanesRow_173 n S k (F5_lanesRow_L173 n S k f) I J (nI q) _ (nI b)
    unfold F5_lanesRow_173
    have : b = q - 1 := by omega
    rw [e2]
    refine ⟨fun _ => by rw [this]; exact hk, fun g => absurd ((qlt (by omega) (by omega)).mpr (by omega)) g⟩
  | succ d ih =>
    intro f b hb hf
    obtain ⟨f, rfl⟩ : ∃ g, f = g + 1 := ⟨f - 1, by omega⟩
    show F5_lanesRow_173 n S k (F5_lanesRow_L173 n S k f) I J (nI q) _ (nI b)
    unfold F5_lanesRow_173
    rw [e2]
    refine ⟨fun g => ?_, fun _ => ?_⟩
    · exfalso; have := (qlt (by omega) (by omega)).mp g; omega
    · refine sp_bestLane hn (by omega) (wlk_lt hlane b) (fun x hx => hT b x (by omega) hx) (fun x hx => tb6 hB) ?_
      rw [show nI b + 1 = nI (b + 1) from nI_add b 1]
      exact ih f (b + 1) (by omega) (by omega)
/-- the class's table -/
theorem lan_in (hn : 10 < n) (hB : B ≤ 12) (h70 : I 7 0 = nI B) (hh : ∀ b, b < 12 → I 11 b = nI (hs b) ∧ hs b ≤ 31) {kb28 : tHI → tHJ → Int32 → Int32 → Int32 → Prop} {v1 : Int32} {b : Nat} (hb : b < B) (hk : ∀ X : tHI, X54 I X → TB (X 54) hs B b 3 → kb28 X J v1 (nI B) (nI b - 1)) : ∀ (d f l : Nat) (X : tHI), l + d = 3 → d < f → X54 I X → TB (X 54) hs B b l → F5_lanesRow_L35 n S k kb28 f X J v1 (nI B) (nI b) (nI l) := by
  intro d
  induction d with
  | zero =>
    intro f l X hl hf c1 c2
    obtain ⟨f, rfl⟩ : ∃ g, f = g + 1 := ⟨f - 1, by omega⟩
    have : l = 3 := by omega
    subst this
    show F5_lanesRow_35 n S k kb28 (F5_lanesRow_L35 n S k kb28 f) X J v1 (nI B) (nI b) (nI 3)
    unfold F5_lanesRow_35
    refine ⟨fun _ => ?_, fun g => absurd ((qle (a := 3) (by omega) (by omega)).mpr (Nat.le_refl _)) g⟩
    rw [← Int32.sub_eq_add_neg]
    exact hk X c1 c2
  | succ d ih =>
    intro f l X hl hf c1 c2
    obtain ⟨f, rfl⟩ : ∃ g, f = g + 1 := ⟨f - 1, by omega⟩
    show F5_lanesRow_35 n S k kb28 (F5_lanesRow_L35 n S k kb28 f) X J v1 (nI B) (nI b) (nI l)
    have hl3 : l < 3 := by omega
    have x70 : (X 7 0).toInt = B := by rw [c1 7 (by decide), h70, qi (by omega)]
    have x11 := hh b (by omega)
    have e1 : nI b + 1 = nI (b + 1) := nI_add b 1
    have e3 : nI b * 3 + nI l = nI (3 * b + l) := by rw [ql 3, qmul, nI_add, Nat.mul_comm]
    have fin : ∀ s0 : Nat, s0 ≤ 1000000 → tN hs B (B - b) l = 100 * hol (hs b) l + s0 → F5_lanesRow_70 n S k kb28 (F5_lanesRow_L35 n S k kb28 f) X J v1 (nI B) (nI b) (nI l) (nI s0) := by
      intro s0 hs0 et
      unfold F5_lanesRow_70 F7_holesUnder F7_holesUnder_26
      have hhas : ¬ V7_has S X J 7 (nI b) = 0 := fun q => by have := has7.mp q; rw [x70, qi (by omega)] at this; omega
      refine ⟨fun q => absurd q hhas, fun _ => ⟨(qin (by omega)).mpr (by omega), ?_⟩⟩
      have ex : X (7 + 4) (nI b).toNatClampNeg = nI (hs b) := by rw [qn (by omega)]; show X 11 b = _; rw [c1 11 (by decide)]; exact x11.1
      rw [ex, hol_c (hs b) (by omega) l hl3]
      refine sp_bits (by omega) ?_
      have eh : pop3 (hs b / 2 ^ l % 8) = hol (hs b) l := rfl
      have hle := hol_le (h := hs b) (l := l)
      rw [eh, e3, qn (by omega)]
      have ev : nI (hol (hs b) l) * 100 + nI s0 = nI (tN hs B (B - b) l) := by rw [ql 100, qmul, nI_add, et, Nat.mul_comm]
      show vp_in (nI (3 * b + l)) 39 ∧ F5_lanesRow_L35 n S k kb28 f (uI X 54 (3 * b + l) (nI (hol (hs b) l) * 100 + nI s0)) J v1 (nI B) (nI b) (nI l + 1)
      rw [ev, show nI l + 1 = nI (l + 1) from nI_add l 1]
      refine ⟨(qin (by omega)).mpr (by omega), ih f (l + 1) _ (by omega) (by omega) (fun x hx => by rw [uIn hx, c1 x hx]) ?_⟩
      rw [uIe]
      exact c2.add hl3 rfl
    unfold F5_lanesRow_35
    rw [e1]
    refine ⟨fun g => ?_, fun _ => ⟨fun g => ?_, fun g => ?_⟩⟩
    · exfalso; have := (qle (a := 3) (by omega) (by omega)).mp g; omega
    · have := (qle (by omega) (by omega)).mp g
      exact fin 0 (by omega) (by rw [tN_eq hb, if_pos (by omega)])
    · have g2 : b + 1 < B := by
        by_cases z : b + 1 < B
        · exact z
        · exact absurd ((qle (by omega) (by omega)).mpr (by omega)) g
      refine sp_bestLane hn (by omega) hl3 (fun x hx => c2.at (by omega) g2 x hx) (fun x hx => tb6 hB) ?_
      obtain ⟨cv, cp⟩ := cost_v (S := S) (J := J) (I := X) (t := tN hs B (B - (b + 1))) (b := b + 1) (f := l) (by omega) (fun x hx => c2.at (by omega) g2 x hx) (bLn_lt (t := tN hs B (B - (b + 1))) (f := l)) hl3
      rw [cv]
      have := cst_le (f := l) (tb6 (hs := hs) (b := b + 1) (x := bLn (tN hs B (B - (b + 1))) l) hB)
      have t2 := tN_le (hs := hs) (B := B) (B - (b + 1)) (bLn (tN hs B (B - (b + 1))) l)
      have t3 := cst_le (f := l) t2
      exact ⟨cp, fin _ (by omega) (by rw [tN_eq hb, if_neg (by omega)])⟩
theorem lan_out (hn : 20 < n) (hB : B ≤ 12) (h70 : I 7 0 = nI B) (h151 : I 15 1 = nI lane) (hlane : lane < 3) (hh : ∀ b, b < 12 → I 11 b = nI (hs b) ∧ hs b ≤ 31) {q : Nat} (hqB : q ≤ B + 1) (hk : ∀ X : tHI, X54 I X → k (anL hs B lane q) X J) : ∀ (c f : Nat) (X : tHI), c ≤ B → c < f → X54 I X → (∀ b x, b < B → x < 3 → c ≤ b → X 54 (3 * b + x) = nI (tN hs B (B - b) x)) → F5_lanesRow_L28 n S k f X J (nI q) (nI B) (nI c - 1) := by
  intro c
  induction c with
  | zero =>
    intro f X hc hf c1 c2
    obtain ⟨f, rfl⟩ : ∃ g, f = g + 1 := ⟨f - 1, by omega⟩
    show F5_lanesRow_28 n S k (F5_lanesRow_L28 n S k f) X J (nI q) (nI B) (nI 0 - 1)
    unfold F5_lanesRow_28 F5_lanesRow_150
    have x151 : X 15 1 = nI lane := by rw [c1 15 (by decide)]; exact h151
    have key := hk X c1
    unfold anL at key
    rw [x151]
    refine ⟨fun _ => ⟨fun g => ?_, fun g => ?_⟩, fun g => absurd (show nI 0 - 1 < 0 by decide) g⟩
    · have g2 : 2 ≤ q := (qle (a := 2) (by omega) (by omega)).mp g
      rw [if_pos g2] at key
      exact wal_L (by omega) hB hlane g2 hqB (fun b x p r => c2 b x p r (by omega)) key (q - 1) n 0 (by omega) (by omega)
    · have g2 : ¬ 2 ≤ q := fun z => g ((qle (a := 2) (by omega) (by omega)).mpr z)
      rw [if_neg g2] at key
      have eq0 : (nI q = 0) ↔ q = 0 := qeq (b := 0) (by omega) (by omega)
      have e0 : ∀ s : Int32, (if nI q = 0 then s / 100 else s - s / 100 * 100) = (if q = 0 then s / 100 else s - s / 100 * 100) := fun s => by
        by_cases z : q = 0
        · rw [if_pos z, if_pos (eq0.mpr z)]
        · rw [if_neg z, if_neg (fun w => z (eq0.mp w))]
      refine ⟨fun z => ?_, fun z => ?_⟩
      · have hB0 : B ≠ 0 := fun w => z (by rw [w]; rfl)
        refine sp_bestLane (t := tN hs B B) (b := 0) (f := lane) (by omega) (by omega) hlane (fun x hx => c2 0 x (by omega) hx (by omega)) (fun x hx => by have := tN_le (hs := hs) (B := B) B x; omega) ?_
        obtain ⟨cv, cp⟩ := cost_v (S := S) (J := J) (I := X) (t := tN hs B B) (b := 0) (f := lane) (by omega) (fun x hx => c2 0 x (by omega) hx (by omega)) (bLn_lt (t := tN hs B B) (f := lane)) hlane
        rw [show (0 : Int32) = nI 0 from rfl, cv]
        refine ⟨cp, ?_⟩
        unfold s0L at key
        rw [if_neg hB0] at key
        have := e0 (nI (cst (tN hs B B) lane (bLn (tN hs B B) lane)))
        rw [show (0 : Int32) = nI 0 from rfl] at this
        rw [this]
        exact key
      · have hB0 : B = 0 := (qeq (b := 0) (by omega) (by omega)).mp z
        unfold s0L at key
        rw [if_pos hB0] at key
        rw [e0]
        exact key
  | succ c ih =>
    intro f X hc hf c1 c2
    obtain ⟨f, rfl⟩ : ∃ g, f = g + 1 := ⟨f - 1, by omega⟩
    show F5_lanesRow_28 n S k (F5_lanesRow_L28 n S k f) X J (nI q) (nI B) (nI (c + 1) - 1)
    unfold F5_lanesRow_28
    rw [qpred (by omega), Nat.add_sub_cancel]
    refine ⟨fun g => ?_, fun _ => ?_⟩
    · exfalso; rw [Int32.lt_iff_toInt_lt, qi (by omega), tz0] at g; omega
    · refine lan_in (I := I) (hs := hs) (b := c) (by omega) hB h70 hh (by omega) (fun Y y1 y2 => ih f Y (by omega) (by omega) y1 (fun b x p r s => y2 b x p r (by omega))) 3 n 0 X (by omega) (by omega) c1 (fun b' x p r s => c2 b' x p r (by omega))
end LN2
