/-! the class's parser: what its small helpers do -/
/-- what reading leaves alone -/
def CF (I I' : tHI) : Prop := (∀ x, x ≠ 40 → x ≠ 41 → x ≠ 42 → I' x = I x) ∧ I' 40 3 = I 40 3 ∧ ∀ y, y ≠ 5 → I' 41 y = I 41 y
theorem CF.rf (I : tHI) : CF I I := ⟨fun _ _ _ _ => rfl, rfl, fun _ _ => rfl⟩
theorem CF.trans {I X Y : tHI} (h : CF I X) (g : CF X Y) : CF I Y := ⟨fun x a c d => (g.1 x a c d).trans (h.1 x a c d), g.2.1.trans h.2.1, fun y hy => (g.2.2 y hy).trans (h.2.2 y hy)⟩
theorem CF.adv {I X Y : tHI} (h : CF I X) (g : Adv X Y) : CF I Y := ⟨fun x a c d => (g.1 x a).trans (h.1 x a c d), (g.2 3 (by decide)).trans h.2.1, fun y hy => (congrFun (g.1 41 (by decide)) y).trans (h.2.2 y hy)⟩
theorem CF.w40 {I X : tHI} (h : CF I X) {y : Nat} {v : Int32} (hy : y ≠ 3) : CF I (uI X 40 y v) := ⟨fun x a c d => (uIn a).trans (h.1 x a c d), by rw [uIe, upn (fun e => hy e.symm)]; exact h.2.1, fun t ht => by rw [uIn (by decide)]; exact h.2.2 t ht⟩
theorem CF.w41 {I X : tHI} (h : CF I X) {v : Int32} : CF I (uI X 41 5 v) := ⟨fun x a c d => (uIn c).trans (h.1 x a c d), by rw [uIn (by decide)]; exact h.2.1, fun t ht => by rw [uIe, upn ht]; exact h.2.2 t ht⟩
theorem CF.w42 {I X : tHI} (h : CF I X) {y : Nat} {v : Int32} : CF I (uI X 42 y v) := ⟨fun x a c d => (uIn d).trans (h.1 x a c d), by rw [uIn (by decide)]; exact h.2.1, fun t ht => by rw [uIn (by decide)]; exact h.2.2 t ht⟩
/-- all is well so far: the token at q, m parts, len ops -/
def CG (b : Nat → Nat) (z : Nat) (f40 f41 : Nat → Int32) (q m len : Nat) : Prop := CT b z f40 q ∧ f40 1 = -1 ∧ f40 8 = nI m ∧ m ≤ 50 ∧ f41 5 = nI len ∧ len ≤ aF b z q ∧ q ≤ z
/-- it failed, at x -/
def CX (f40 f41 : Nat → Int32) (x : Nat) : Prop := f40 1 = nI x ∧ x ≤ 400 ∧ f40 6 = 4 ∧ ∃ l, l ≤ 400 ∧ f41 5 = nI l
section HLP
variable {n : Nat} {S : tSH} {I : tHI} {J : tHJ} {b : Nat → Nat} {z q m len x : Nat} {k : tHI → tHJ → Prop} {k1 : Int32 → tHI → tHJ → Prop}
theorem CG.k4 (h : CG b z (I 40) (I 41) q m len) : ¬ I 40 6 = 4 := by
  rw [h.1.2.2.1]
  have kr := aK_r (b := b) (z := z) q
  exact fun y => by have := (qeq (b := 4) (by omega) (by omega)).mp y; omega
theorem bad_sign {c : Int32} (h : I 40 6 = 4) (hk : k1 0 I J) : F4_isSign n S I J c k1 := by
  unfold F4_isSign F4_isSign_34 F4_isSign_35
  rw [h]
  exact ⟨fun _ => ⟨Or.inl rfl, hk⟩, fun g => absurd g (by decide)⟩
theorem bad_word {i : Nat} (h : I 40 6 = 4) (hk : k1 (-1) I J) : F4_wordIn n S I J i k1 := by
  unfold F4_wordIn F4_wordIn_15
  rw [h]
  exact ⟨fun _ => hk, fun g => absurd g (by decide)⟩
theorem bad_adv (h : I 40 6 = 4) (hk : k I J) : F4_advance n S I J k := by
  unfold F4_advance F4_advance_15
  exact ⟨fun _ => hk, fun g => absurd h g⟩
theorem bad_fail (h : CX (I 40) (I 41) x) (hk : ∀ I', CF I I' → CX (I' 40) (I' 41) x → k I' J) : F4_fail n S I J k := by
  obtain ⟨h1, h2, h3, l, h4, h5⟩ := h
  have e : ¬ I 40 1 = -1 := by
    rw [h1]
    intro y
    have := congrArg Int32.toInt y
    rw [qi (by omega), qneg] at this
    omega
  unfold F4_fail F4_fail_16
  refine ⟨fun _ => hk _ ((CF.rf I).w40 (by decide)) ⟨?_, h2, ?_, l, h4, ?_⟩, fun g => absurd g e⟩
  · rw [uIe, upn (by decide)]; exact h1
  · rw [uIe, upe]
  · rw [uIn (by decide)]; exact h5
theorem bad_emit (h42 : sL S 42 = 400) {v1 v2 : Int32} (h : CX (I 40) (I 41) x) (hk : ∀ v I', CF I I' → CX (I' 40) (I' 41) x → k1 v I' J) : F6_emit n S I J 41 v1 v2 k1 := by
  obtain ⟨h1, h2, h3, l, h4, h5⟩ := h
  unfold F6_emit F6_emit_38
  rw [h42, h5]
  refine ⟨fun _ => hk _ _ (CF.rf I) ⟨h1, h2, h3, l, h4, h5⟩, fun g => ?_⟩
  have g : l < 400 := by
    rcases Nat.lt_or_ge l 400 with c | c
    · exact c
    · exact absurd ((qle (by omega) (by omega)).mpr c) g
  refine ⟨(qin (by omega)).mpr g, hk _ _ (CF.rf I).w42.w41 ⟨?_, h2, ?_, l + 1, by omega, ?_⟩⟩
  · rw [uIn (by decide), uIn (by decide)]; exact h1
  · rw [uIn (by decide), uIn (by decide)]; exact h3
  · rw [uIe, upe, uIn (by decide), h5, nI_1]
theorem bad_land (h42 : sL S 42 = 400) {v1 : Int32} (h : CX (I 40) (I 41) x) (hk : ∀ I', CF I I' → CX (I' 40) (I' 41) x → k I' J) : F6_landFrom n S I J 41 v1 k := by
  obtain ⟨h1, h2, h3, l, h4, h5⟩ := h
  unfold F6_landFrom F6_landFrom_25
  rw [h42, h5]
  refine ⟨fun _ => hk _ (CF.rf I) ⟨h1, h2, h3, l, h4, h5⟩, fun g0 => ⟨fun _ => hk _ (CF.rf I) ⟨h1, h2, h3, l, h4, h5⟩, fun g => ?_⟩⟩
  have hin : vp_in v1 400 := by
    rw [vp_in_iff]
    rw [Int32.lt_iff_toInt_lt] at g0
    rw [Int32.le_iff_toInt_le, qi (by omega)] at g
    have e : (0 : Int32).toInt = 0 := rfl
    omega
  refine ⟨hin, hin, hk _ (CF.rf I).w42 ⟨?_, h2, ?_, l, h4, ?_⟩⟩
  · rw [uIn (by decide)]; exact h1
  · rw [uIn (by decide)]; exact h3
  · rw [uIn (by decide)]; exact h5
/-- the first fault -/
theorem sp_fail (h : CG b z (I 40) (I 41) q m len) (hz : z ≤ 400) (hk : ∀ I', CF I I' → CX (I' 40) (I' 41) (aF b z q) → k I' J) : F4_fail n S I J k := by
  obtain ⟨h1, h2, h3, h4, h5, h6, h7⟩ := h
  have := aF_le (b := b) h7
  unfold F4_fail F4_fail_16
  refine ⟨fun g => absurd h2 g, fun _ => hk _ (((CF.rf I).w40 (by decide)).w40 (by decide)) ⟨?_, by omega, ?_, len, by omega, ?_⟩⟩
  · rw [uIe, upn (by decide), uIe, upe, h1.2.1]
  · rw [uIe, upe]
  · rw [uIn (by decide), uIn (by decide)]; exact h5
theorem sp_emit (h42 : sL S 42 = 400) (h : I 41 5 = nI len) (hl : len < 400) {op ar : Nat} (hk : k1 (nI len) (uI (uI I 42 len (nI (op * 1024 + ar))) 41 5 (nI (len + 1))) J) : F6_emit n S I J 41 (nI op) (nI ar) k1 := by
  unfold F6_emit F6_emit_38
  rw [h42, h]
  refine ⟨fun g => ?_, fun _ => ⟨(qin (by omega)).mpr hl, ?_⟩⟩
  · have := (qle (by omega) (by omega)).mp g; omega
  · rw [qn (by omega), show nI op * 1024 = nI (op * 1024) from qmul op 1024, nI_add]
    have e : (uI I 42 len (nI (op * 1024 + ar))) 41 5 = nI len := by rw [uIn (by decide)]; exact h
    rw [e, nI_1]
    have e2 : (uI (uI I 42 len (nI (op * 1024 + ar))) 41 5 (nI (len + 1))) 41 5 = nI (len + 1) := by rw [uIe, upe]
    rw [e2, qpred (by omega), show len + 1 - 1 = len by omega]
    exact hk
theorem sp_land (h42 : sL S 42 = 400) (h : I 41 5 = nI len) (hl : len ≤ 400) {p w : Nat} (hp : p < len) (hw : I 42 p = nI w) (hk : k (uI I 42 p (nI (w + len))) J) : F6_landFrom n S I J 41 (nI p) k := by
  have hin : vp_in (nI p) 400 := (qin (by omega)).mpr (by omega)
  unfold F6_landFrom F6_landFrom_25
  rw [h42, h, qn (by omega), hw, nI_add]
  refine ⟨fun g => ?_, fun _ => ⟨fun g => ?_, fun _ => ⟨hin, hin, hk⟩⟩⟩
  · rw [Int32.lt_iff_toInt_lt, qi (by omega)] at g
    have e : (0 : Int32).toInt = 0 := rfl
    omega
  · have := (qle (by omega) (by omega)).mp g; omega
/-- on to the next token -/
theorem CG.adv (h2 : sQ S 40 2 = some 38) (ht : CTp b z (I 38) (I 39)) (hn : 1001 < n) (h : CG b z (I 40) (I 41) q m len) (hk : ∀ I', Adv I I' → CG b z (I' 40) (I' 41) (aE b z q) m len → k I' J) : F4_advance n S I J k := by
  have h4 := h.k4
  obtain ⟨h1, hf, hm, hm2, hl, hl2, hq⟩ := h
  obtain ⟨e1, e2⟩ := aE_le (b := b) hq
  have u := aF_ge (b := b) (z := z) (aE b z q)
  refine sp_adv h2 ht (by omega) e2 h1.1 h4 (fun I' hA hC => hk I' hA ⟨hC, ?_, ?_, hm2, ?_, by omega, e2⟩)
  · rw [hA.2 1 (by decide)]; exact hf
  · rw [hA.2 8 (by decide)]; exact hm
  · rw [hA.1 41 (by decide)]; exact hl
theorem CTp.cf {X : tHI} (h : CTp b z (I 38) (I 39)) (g : CF I X) : CTp b z (X 38) (X 39) := by
  rw [g.1 38 (by decide) (by decide) (by decide), g.1 39 (by decide) (by decide) (by decide)]; exact h
theorem sp_xsign (h2 : sQ S 40 2 = some 38) (ht : CTp b z (I 38) (I 39)) (hn : 1001 < n) (h : CG b z (I 40) (I 41) q m len) {c : Nat} (h0 : 0 < c) (h1 : c < 256) (hy : aS b z q = c → ∀ I', Adv I I' → CG b z (I' 40) (I' 41) (aE b z q) m len → k I' J) (hx : aS b z q ≠ c → ∀ I', CF I I' → CX (I' 40) (I' 41) (aF b z q) → k I' J) : F4_expectSign n S I J (nI c) k := by
  unfold F4_expectSign F4_expectSign_19
  refine sp_sign h2 ht h.1 h0 h1 (fun _ => ?_)
  by_cases g : aS b z q = c
  · rw [if_pos g]
    exact ⟨fun y => absurd y (by decide), fun _ => CG.adv h2 ht hn h (hy g)⟩
  · rw [if_neg g]
    exact ⟨fun _ => sp_fail h ht.1 (hx g), fun y => absurd rfl y⟩
theorem bad_xsign {c : Int32} (h : CX (I 40) (I 41) x) (hk : ∀ I', CF I I' → CX (I' 40) (I' 41) x → k I' J) : F4_expectSign n S I J c k := by
  unfold F4_expectSign F4_expectSign_19
  exact bad_sign h.2.2.1 (fun _ => ⟨fun _ => bad_fail h hk, fun y => absurd rfl y⟩)
theorem sp_num (h2 : sQ S 40 2 = some 38) (ht : CTp b z (I 38) (I 39)) (hn : 1001 < n) (h : CG b z (I 40) (I 41) q m len) {lo hi : Nat} (hlo : lo ≤ hi) (hhi : hi ≤ 1000) (hy : aK b z q = 2 ∧ lo ≤ aN b z q ∧ aN b z q ≤ hi → ∀ I', Adv I I' → CG b z (I' 40) (I' 41) (aE b z q) m len → k1 (nI (aN b z q)) I' J) (hx : ¬ (aK b z q = 2 ∧ lo ≤ aN b z q ∧ aN b z q ≤ hi) → ∀ I', CF I I' → CX (I' 40) (I' 41) (aF b z q) → k1 (nI lo) I' J) : F4_expectNumber n S I J (nI lo) (nI hi) k1 := by
  have kr := aK_r (b := b) (z := z) q
  have e2 : nI (aK b z q) = 2 ↔ aK b z q = 2 := qeq (b := 2) (by omega) (by omega)
  unfold F4_expectNumber F4_expectNumber_24
  rw [h.1.2.2.1]
  refine ⟨fun g => sp_fail h ht.1 (hx (fun y => g (e2.mpr y.1))), fun g => ?_⟩
  have g := e2.mp g
  rw [h.1.2.2.2 g]
  refine ⟨fun c => ?_, fun c => ⟨fun d => ?_, fun d => ?_⟩⟩
  · have c := (qlt (by omega) (by omega)).mp c
    exact sp_fail h ht.1 (hx (fun y => by omega))
  · have c : ¬ min 1001 (aN b z q) < lo := fun y => c ((qlt (by omega) (by omega)).mpr y)
    have d := (qle (by omega) (by omega)).mp d
    rw [show min 1001 (aN b z q) = aN b z q by omega]
    exact CG.adv h2 ht hn h (hy ⟨g, by omega, by omega⟩)
  · have d : ¬ min 1001 (aN b z q) ≤ hi := fun y => d ((qle (by omega) (by omega)).mpr y)
    exact sp_fail h ht.1 (hx (fun y => by omega))
theorem bad_num {lo hi : Int32} (h : CX (I 40) (I 41) x) (hk : ∀ I', CF I I' → CX (I' 40) (I' 41) x → k1 lo I' J) : F4_expectNumber n S I J lo hi k1 := by
  unfold F4_expectNumber F4_expectNumber_24
  rw [h.2.2.1]
  exact ⟨fun _ => bad_fail h hk, fun y => absurd y (by decide)⟩
end HLP
/-- a stretch of the class's code, and what it tells -/
def CDe (nw : Nat) (f : Nat → Int32) (a c h : Nat) (v : tV) : Prop := ∃ g : Nat → Nat, (∀ i, a ≤ i → i < c → f i = nI (g i) ∧ g i < 13312) ∧ DC g nw a c h v
theorem CDe.cg {nw a c h : Nat} {f f' : Nat → Int32} {v : tV} (d : CDe nw f a c h v) (e : ∀ i, a ≤ i → i < c → f' i = f i) : CDe nw f' a c h v := by
  obtain ⟨g, h1, h2⟩ := d
  exact ⟨g, fun i p r => by rw [e i p r]; exact h1 i p r, h2⟩
theorem CDe.hh {nw a c h h' : Nat} {f : Nat → Int32} {v : tV} (d : CDe nw f a c h v) (e : h' = h) : CDe nw f a c h' v := by rw [e]; exact d
theorem CDe.leaf {nw a w : Nat} {f : Nat → Int32} {v : tV} (e : f a = nI w) (hg : (w / 1024 = 0 ∧ v = fun _ => some (nI (w % 1024)).toInt64) ∨ (w / 1024 = 1 ∧ w % 1024 < nw ∧ v = fun u => some (u (w % 1024)))) : CDe nw f a (a + 1) 1 v := by
  refine ⟨fun _ => w, fun i p r => ?_, DC.leaf hg⟩
  have : i = a := by omega
  subst this
  refine ⟨e, ?_⟩
  show w < 13312
  rcases hg with g | g <;> omega
theorem CDe.bin {nw a m c h1 h2 op : Nat} {f : Nat → Int32} {u v : tV} (d1 : CDe nw f a m h1 u) (d2 : CDe nw f m c h2 v) (ho : 2 ≤ op ∧ op ≤ 9) (e : f c = nI (op * 1024)) : CDe nw f a (c + 1) (h1 + h2) (vBin op u v) := by
  obtain ⟨g, p1, p2⟩ := d1
  obtain ⟨g', r1, r2⟩ := d2
  have ha := p2.1
  have hc := r2.1
  refine ⟨fun i => if i < m then g i else if i < c then g' i else op * 1024, fun i i1 i2 => ?_, DC.bin (p2.cg fun i i1 i2 => if_pos i2) (r2.cg fun i i1 i2 => by rw [if_neg (by omega), if_pos i2]) ho ?_⟩
  · dsimp only
    by_cases c1 : i < m
    · rw [if_pos c1]; exact p1 i i1 c1
    · rw [if_neg c1]
      by_cases c2 : i < c
      · rw [if_pos c2]; exact r1 i (by omega) c2
      · rw [if_neg c2, show i = c by omega]; exact ⟨e, by omega⟩
  · rw [if_neg (by omega), if_neg (by omega)]; omega
theorem CDe.not {nw a c h : Nat} {f : Nat → Int32} {u : tV} (d : CDe nw f a c h u) (e : f c = nI 10240) : CDe nw f a (c + 1) h (vNot u) := by
  obtain ⟨g, p1, p2⟩ := d
  have ha := p2.1
  refine ⟨fun i => if i < c then g i else 10240, fun i i1 i2 => ?_, DC.not (p2.cg fun i i1 i2 => if_pos i2) ?_⟩
  · dsimp only
    by_cases c1 : i < c
    · rw [if_pos c1]; exact p1 i i1 c1
    · rw [if_neg c1, show i = c by omega]; exact ⟨e, by omega⟩
  · rw [if_neg (by omega)]
theorem CDe.jmp {nw a m c h1 h2 o : Nat} {f : Nat → Int32} {u v : tV} (d1 : CDe nw f a m h1 u) (d2 : CDe nw f (m + 1) c h2 v) (ho : o = 11 ∨ o = 12) (e : f m = nI (o * 1024 + c)) (hc : c ≤ 400) : CDe nw f a c (h1 + h2) (aJ o u v) := by
  obtain ⟨g, p1, p2⟩ := d1
  obtain ⟨g', r1, r2⟩ := d2
  have ha := p2.1
  have hc2 := r2.1
  have ev : aJ o u v = vJmp (if o = 11 then 0 else 1) u v := by
    unfold aJ
    rcases ho with z | z <;> subst z <;> rfl
  rw [ev]
  refine ⟨fun i => if i < m then g i else if i = m then o * 1024 + c else g' i, fun i i1 i2 => ?_, DC.jmp (p2.cg fun i i1 i2 => if_pos i2) (r2.cg fun i i1 i2 => by rw [if_neg (by omega), if_neg (by omega)]) ho ?_ (by omega)⟩
  · dsimp only
    by_cases c1 : i < m
    · rw [if_pos c1]; exact p1 i i1 c1
    · rw [if_neg c1]
      by_cases c2 : i = m
      · rw [if_pos c2, c2]; exact ⟨e, by omega⟩
      · rw [if_neg c2]; exact r1 i (by omega) i2
  · rw [if_neg (by omega), if_pos rfl]
