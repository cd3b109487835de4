/-! the model's words, signs and small steps -/
section EXS
variable {n : Nat} {S : tSH} {b : Nat → Nat} {z ord q : Nat}
theorem isW_h {I : tHI} {J : tHJ} (h : MT b z (I 61) (J 61 17) q) {w : Int64} {wl : List Nat} (hw : w.toInt = (hR wl.reverse : Nat)) (hl : ltr wl) (hlen : wl.length ≤ 10) : V12_isWord S I J w = 0 ↔ ¬ (aK b z q = 1 ∧ aTx b z q = wl) := by
  have kr := aK_r (b := b) (z := z) q
  have e1 : nI (aK b z q) = 1 ↔ aK b z q = 1 := qeq (b := 1) (by omega) (by omega)
  obtain ⟨h14, h15, h16, hm, -⟩ := h
  unfold V12_isWord
  rw [h16]
  by_cases g : aK b z q = 1
  · rw [if_pos (e1.mpr g)]
    obtain ⟨m1, m2⟩ := hm g
    have key : lg_cmp (J 61 17) w = 0 ↔ aTx b z q = wl := by
      rw [lg_cmp_eq]
      unfold aTx
      rw [fT_r]
      by_cases c : aE b z q - aF b z q ≤ 10
      · have m1 := m1 c
        rw [wrd_h] at m1
        have hlt : ltr (rT b (aF b z q) (aE b z q - aF b z q)) := by
          intro x hx
          obtain ⟨j, j1, j2, j3⟩ := rT_m _ _ _ _ hx
          have hk := aE_k (Or.inl g) j j1 (by omega)
          rw [g] at hk
          rw [j3]; exact kB_1.mp hk
        have hlr : ltr wl.reverse := fun x hx => hl x (List.mem_reverse.mp hx)
        refine ⟨fun e => ?_, fun e => ?_⟩
        · rw [e, hw] at m1
          have m1 : hR wl.reverse = hR (rT b (aF b z q) (aE b z q - aF b z q)) := by omega
          have := hR_i _ _ hlr hlt m1
          rw [← this, List.reverse_reverse]
        · refine Int64.toInt_inj.mp ?_
          rw [m1, hw, ← e, List.reverse_reverse]
      · have m2 := m2 (by omega)
        refine ⟨fun e => ?_, fun e => ?_⟩
        · rw [← e, m2] at hw
          have : (-1 : Int64).toInt = -1 := by decide +kernel
          omega
        · have : (rT b (aF b z q) (aE b z q - aF b z q)).reverse.length = wl.length := by rw [e]
          rw [List.length_reverse, rT_len] at this
          omega
    by_cases c : lg_cmp (J 61 17) w = 0
    · rw [if_pos c]; exact ⟨fun y => absurd y (by decide), fun y => absurd ⟨g, key.mp c⟩ y⟩
    · rw [if_neg c]; exact ⟨fun _ y => c (key.mpr y.2), fun _ => rfl⟩
  · rw [if_neg (fun y => g (e1.mp y))]
    exact ⟨fun _ y => g y.1, fun _ => rfl⟩
/-- one word alone -/
theorem isW_1 {I : tHI} {J : tHJ} (h : MT b z (I 61) (J 61 17) q) {i : Nat} {w : Int64} {wl : List Nat} (hi : WL i = [wl]) (hw : w.toInt = (hR wl.reverse : Nat)) (hl : ltr wl) (hlen : wl.length ≤ 10) : V12_isWord S I J w = 0 ↔ ¬ aX b z q i = some 0 := by
  rw [isW_h h hw hl hlen]
  unfold aX
  rw [hi]
  have e : ixW (aTx b z q) [wl] 0 = if aTx b z q = wl then some 0 else none := rfl
  rw [e]
  by_cases g : aK b z q = 1
  · rw [if_pos g]
    by_cases c : aTx b z q = wl
    · rw [if_pos c]; exact ⟨fun y => absurd ⟨g, c⟩ y, fun y => absurd rfl y⟩
    · rw [if_neg c]; exact ⟨fun _ y => (by cases y), fun _ y => c y.2⟩
  · rw [if_neg g]; exact ⟨fun _ y => (by cases y), fun _ y => g y.1⟩
theorem ltr_d {wl : List Nat} (h : wl.all (fun c => decide (97 ≤ c ∧ c ≤ 122)) = true) : ltr wl := fun c hc => of_decide_eq_true (List.all_eq_true.mp h c hc)
theorem isW_or {I : tHI} {J : tHJ} (h : MT b z (I 61) (J 61 17) q) : V12_isWord S I J 498 = 0 ↔ ¬ aX b z q 4 = some 0 := isW_1 h (wl := [111, 114]) rfl (by decide +kernel) (ltr_d (by decide)) (by decide)
theorem isW_and {I : tHI} {J : tHJ} (h : MT b z (I 61) (J 61 17) q) : V12_isWord S I J 1476 = 0 ↔ ¬ aX b z q 5 = some 0 := isW_1 h (wl := [97, 110, 100]) rfl (by decide +kernel) (ltr_d (by decide)) (by decide)
theorem isW_not {I : tHI} {J : tHJ} (h : MT b z (I 61) (J 61 17) q) : V12_isWord S I J 14836 = 0 ↔ ¬ aX b z q 6 = some 0 := isW_1 h (wl := [110, 111, 116]) rfl (by decide +kernel) (ltr_d (by decide)) (by decide)
theorem isW_if {I : tHI} {J : tHJ} (h : MT b z (I 61) (J 61 17) q) : V12_isWord S I J 294 = 0 ↔ ¬ aX b z q 3 = some 0 := isW_1 h (wl := [105, 102]) rfl (by decide +kernel) (ltr_d (by decide)) (by decide)
theorem isW_at {I : tHI} {J : tHJ} (h : MT b z (I 61) (J 61 17) q) : V12_isWord S I J 52 = 0 ↔ ¬ aX b z q 0 = some 0 := isW_1 h (wl := [97, 116]) rfl (by decide +kernel) (ltr_d (by decide)) (by decide)
theorem isW_by {I : tHI} {J : tHJ} (h : MT b z (I 61) (J 61 17) q) : V12_isWord S I J 89 = 0 ↔ ¬ aX b z q 1 = some 0 := isW_1 h (wl := [98, 121]) rfl (by decide +kernel) (ltr_d (by decide)) (by decide)
theorem isW_times {I : tHI} {J : tHJ} (h : MT b z (I 61) (J 61 17) q) : V12_isWord S I J 21279923 = 0 ↔ ¬ aX b z q 2 = some 0 := isW_1 h (wl := [116, 105, 109, 101, 115]) rfl (by decide +kernel) (ltr_d (by decide)) (by decide)
theorem isS {I : tHI} {J : tHJ} (h : MT b z (I 61) (J 61 17) q) {c : Nat} (h0 : 0 < c) (h1 : c < 256) : V12_isSign S I J (nI c) = 0 ↔ ¬ aS b z q = c := by
  have kr := aK_r (b := b) (z := z) q
  have e3 : nI (aK b z q) = 3 ↔ aK b z q = 3 := qeq (b := 3) (by omega) (by omega)
  obtain ⟨h14, h15, h16, -, -, hm⟩ := h
  unfold V12_isSign aS
  rw [h16]
  by_cases g : aK b z q = 3
  · rw [if_pos (e3.mpr g), if_pos g]
    have hm := hm g
    have key : lg_cmp (J 61 17) (nI c).toInt64 = 0 ↔ b (aF b z q) = c := by
      rw [lg_cmp_eq, ← Int64.toInt_inj, hm, Int32.toInt_toInt64, qi (by omega)]
      omega
    by_cases e : b (aF b z q) = c
    · rw [if_pos (key.mpr e)]; exact ⟨fun y => absurd y (by decide), fun y => absurd e y⟩
    · rw [if_neg (fun y => e (key.mp y))]; exact ⟨fun _ => e, fun _ => rfl⟩
  · rw [if_neg (fun y => g (e3.mp y)), if_neg g]; exact ⟨fun _ => by omega, fun _ => rfl⟩
/-- a row of words, as numbers; each but once -/
def hsh (ws : List (List Nat)) (l : List Int64) : Bool := (List.range ws.length).all (fun i => decide ((l.getD i 0).toInt = (hR (ws.getD i []).reverse : Nat)) && (ws.getD i []).all (fun c => decide (97 ≤ c ∧ c ≤ 122)) && decide ((ws.getD i []).length ≤ 10) && decide (ixW (ws.getD i []) (ws.drop (i + 1)) (i + 1) = none) && decide (ws.drop i = ws.getD i [] :: ws.drop (i + 1)))
theorem hsh_at {ws : List (List Nat)} {l : List Int64} (h : hsh ws l = true) {i : Nat} (hi : i < ws.length) : (l.getD i 0).toInt = (hR (ws.getD i []).reverse : Nat) ∧ ltr (ws.getD i []) ∧ (ws.getD i []).length ≤ 10 ∧ ixW (ws.getD i []) (ws.drop (i + 1)) (i + 1) = none ∧ ws.drop i = ws.getD i [] :: ws.drop (i + 1) := by
  have := List.all_eq_true.mp h i (List.mem_range.mpr hi)
  simp only [Bool.and_eq_true, decide_eq_true_eq] at this
  obtain ⟨⟨⟨⟨h1, h2⟩, h3⟩, h4⟩, h5⟩ := this
  exact ⟨h1, ltr_d h2, h3, h4, h5⟩
theorem hsh76 : hsh (WL 8) w76 = true := by decide +kernel
theorem hsh77 : hsh (WL 7) w77 = true := by decide +kernel
theorem hsh78 : hsh (WL 10) w78 = true := by decide +kernel
theorem hsh86 : hsh (WL 9) w86 = true := by decide +kernel
/-- one step through such a row -/
theorem row_st {I : tHI} {J : tHJ} (h : MT b z (I 61) (J 61 17) q) {ws : List (List Nat)} {l : List Int64} (hw : hsh ws l = true) {i : Nat} (hi : i < ws.length) (v : Int32) (off : Nat) (g : Option Nat → Int32) (hg : g none = v) (hs : ∀ j, g (some j) = nI (j + off)) : (match (if aK b z q = 1 then ixW (aTx b z q) (ws.drop (i + 1)) (i + 1) else none) with
    | none => if V12_isWord S I J (l.getD i 0) = 0 then v else nI (i + off)
    | some j => nI (j + off)) = g (if aK b z q = 1 then ixW (aTx b z q) (ws.drop i) i else none) := by
  obtain ⟨h1, h2, h3, h4, h5⟩ := hsh_at hw hi
  have key := isW_h (S := S) h h1 h2 h3
  by_cases c : aK b z q = 1
  · rw [if_pos c, if_pos c, h5]
    show _ = g (if aTx b z q = ws.getD i [] then some i else ixW (aTx b z q) (ws.drop (i + 1)) (i + 1))
    by_cases e : aTx b z q = ws.getD i []
    · rw [if_pos e, e, h4, hs]
      exact if_neg (fun y => key.mp y ⟨c, e⟩)
    · rw [if_neg e]
      cases hx : ixW (aTx b z q) (ws.drop (i + 1)) (i + 1) with
      | none =>
        rw [hg]
        exact if_pos (key.mpr (fun y => e y.2))
      | some j => rw [hs]
  · rw [if_neg c, if_neg c, hg]
    exact if_pos (key.mpr (fun y => c y.1))
def pV (o : Option Nat) : Int32 := match o with
  | none => -1
  | some i => nI (i + 1)
def pV2 (v : Int32) (off : Nat) (o : Option Nat) : Int32 := match o with
  | none => v
  | some j => nI (j + off)
theorem part_L {I : tHI} {J : tHJ} {k : Int32 → tHI → tHJ → Prop} (h : MT b z (I 61) (J 61 17) q) (hJ : ∀ i, i < 12 → J 76 i = w76.getD i 0) : ∀ (d f i : Nat) (v : Int32), i + d = 12 → d < f → k (pV2 v 1 (if aK b z q = 1 then ixW (aTx b z q) ((WL 8).drop i) i else none)) I J → F12_partAt_L4 n S k f I J v (nI i) := by
  intro d
  induction d with
  | zero =>
    intro f i v hi hf hk
    obtain ⟨f, rfl⟩ : ∃ g, f = g + 1 := ⟨f - 1, by omega⟩
    have hi : i = 12 := hi
    subst hi
    have e : (if aK b z q = 1 then ixW (aTx b z q) ((WL 8).drop 12) 12 else none) = none := by
      split <;> rfl
    rw [e] at hk
    show F12_partAt_4 n S k (F12_partAt_L4 n S k f) I J v (nI 12)
    unfold F12_partAt_4
    exact ⟨fun _ => hk, fun y => absurd (show (12 : Int32) ≤ nI 12 by decide) y⟩
  | succ d ih =>
    intro f i v hi hf hk
    obtain ⟨f, rfl⟩ : ∃ g, f = g + 1 := ⟨f - 1, by omega⟩
    show F12_partAt_4 n S k (F12_partAt_L4 n S k f) I J v (nI i)
    unfold F12_partAt_4
    refine ⟨fun y => absurd ((qle (a := 12) (by omega) (by omega)).mp y) (by omega), fun _ => ⟨(qin (by omega)).mpr (by omega), ?_⟩⟩
    rw [qn (by omega), hJ i (by omega), nI_1]
    refine ih f (i + 1) _ (by omega) (by omega) ?_
    have := row_st (S := S) h hsh76 (i := i) (show i < (WL 8).length by show i < 12; omega) v 1 (pV2 v 1) rfl (fun _ => rfl)
    rw [← this] at hk
    exact hk
theorem sp_part {I : tHI} {J : tHJ} {k : Int32 → tHI → tHJ → Prop} (hn : 1001 < n) (h : MT b z (I 61) (J 61 17) q) (hJ : ∀ i, i < 12 → J 76 i = w76.getD i 0) (hk : k (pV (aX b z q 8)) I J) : F12_partAt n S I J k := by
  unfold F12_partAt
  refine part_L h hJ 12 n 0 _ rfl (by omega) ?_
  have e : pV2 (-1) 1 (if aK b z q = 1 then ixW (aTx b z q) ((WL 8).drop 0) 0 else none) = pV (aX b z q 8) := by
    show pV2 (-1) 1 (aX b z q 8) = _
    cases aX b z q 8 <;> rfl
  rw [e]; exact hk
theorem opart_L {I : tHI} {J : tHJ} {k : Int32 → tHI → tHJ → Prop} (h : MT b z (I 61) (J 61 17) q) (hJ : ∀ i, i < 8 → J 77 i = w77.getD i 0) : ∀ (d f i : Nat) (v : Int32), i + d = 8 → d < f → k (pV2 v 1 (if aK b z q = 1 then ixW (aTx b z q) ((WL 7).drop i) i else none)) I J → F12_orderPartAt_L4 n S k f I J v (nI i) := by
  intro d
  induction d with
  | zero =>
    intro f i v hi hf hk
    obtain ⟨f, rfl⟩ : ∃ g, f = g + 1 := ⟨f - 1, by omega⟩
    have hi : i = 8 := hi
    subst hi
    have e : (if aK b z q = 1 then ixW (aTx b z q) ((WL 7).drop 8) 8 else none) = none := by
      split <;> rfl
    rw [e] at hk
    show F12_orderPartAt_4 n S k (F12_orderPartAt_L4 n S k f) I J v (nI 8)
    unfold F12_orderPartAt_4
    exact ⟨fun _ => hk, fun y => absurd (show (8 : Int32) ≤ nI 8 by decide) y⟩
  | succ d ih =>
    intro f i v hi hf hk
    obtain ⟨f, rfl⟩ : ∃ g, f = g + 1 := ⟨f - 1, by omega⟩
    show F12_orderPartAt_4 n S k (F12_orderPartAt_L4 n S k f) I J v (nI i)
    unfold F12_orderPartAt_4
    refine ⟨fun y => absurd ((qle (a := 8) (by omega) (by omega)).mp y) (by omega), fun _ => ⟨(qin (by omega)).mpr (by omega), ?_⟩⟩
    rw [qn (by omega), hJ i (by omega), nI_1]
    refine ih f (i + 1) _ (by omega) (by omega) ?_
    have := row_st (S := S) h hsh77 (i := i) (show i < (WL 7).length by show i < 8; omega) v 1 (pV2 v 1) rfl (fun _ => rfl)
    rw [← this] at hk
    exact hk
theorem sp_opart {I : tHI} {J : tHJ} {k : Int32 → tHI → tHJ → Prop} (hn : 1001 < n) (h : MT b z (I 61) (J 61 17) q) (hJ : ∀ i, i < 8 → J 77 i = w77.getD i 0) (hk : k (pV (aX b z q 7)) I J) : F12_orderPartAt n S I J k := by
  unfold F12_orderPartAt
  refine opart_L h hJ 8 n 0 _ rfl (by omega) ?_
  have e : pV2 (-1) 1 (if aK b z q = 1 then ixW (aTx b z q) ((WL 7).drop 0) 0 else none) = pV (aX b z q 7) := by
    show pV2 (-1) 1 (aX b z q 7) = _
    cases aX b z q 7 <;> rfl
  rw [e]; exact hk
/-- reading an expression: where it stands -/
def MG (b : Nat → Nat) (z : Nat) (I : tHI) (J : tHJ) (q m br nc : Nat) (pl : List (Nat × Nat)) (g r : Nat → Nat) : Prop := MT b z (I 61) (J 61 17) q ∧ q ≤ z ∧ I 61 19 = 0 ∧ I 61 18 = -1 ∧ I 61 26 = nI m ∧ m ≤ 50 ∧ I 61 30 = nI br ∧ MPi I nc pl g r ∧ pl.length ≤ aF b z q ∧ nc + pend pl ≤ aF b z q
theorem MPi.ad {I X : tHI} {J Y : tHJ} {nc : Nat} {pl : List (Nat × Nat)} {g r : Nat → Nat} (h : MPi I nc pl g r) (a : MAd I X J Y) : MPi X nc pl g r := by
  unfold MPi
  rw [a.2.1 23 (by decide), a.2.1 29 (by decide), a.1 74 (by decide), a.1 75 (by decide), a.1 72 (by decide), a.1 73 (by decide)]
  exact h
theorem MG_next {I : tHI} {J : tHJ} {k : tHI → tHJ → Prop} (ht : MTp b z (I 61) (I 70)) (hn : 1001 < n) {m br nc : Nat} {pl : List (Nat × Nat)} {g r : Nat → Nat} (h : MT b z (I 61) (J 61 17) q) (hq : q ≤ z) (h19 : I 61 19 = 0) (h18 : I 61 18 = -1) (h26 : I 61 26 = nI m) (hm : m ≤ 50) (h30 : I 61 30 = nI br) (hP : MPi I nc pl g r) (hl : pl.length ≤ aF b z (aE b z q)) (hp : nc + pend pl ≤ aF b z (aE b z q)) (hk : ∀ (I' : tHI) (J' : tHJ), MAd I I' J J' → MG b z I' J' (aE b z q) m br nc pl g r → k I' J') : F12_next n S I J k := by
  obtain ⟨e1, e2⟩ := aE_le (b := b) hq
  refine sp_next ht hn e2 h.2.1 (fun I' J' a t => hk I' J' a ⟨t, e2, ?_, ?_, ?_, hm, ?_, hP.ad a, hl, hp⟩)
  · rw [a.2.1 19 (by decide)]; exact h19
  · rw [a.2.1 18 (by decide)]; exact h18
  · rw [a.2.1 26 (by decide)]; exact h26
  · rw [a.2.1 30 (by decide)]; exact h30
theorem MG.next {I : tHI} {J : tHJ} {k : tHI → tHJ → Prop} (ht : MTp b z (I 61) (I 70)) (hn : 1001 < n) {m br nc : Nat} {pl : List (Nat × Nat)} {g r : Nat → Nat} (h : MG b z I J q m br nc pl g r) (hk : ∀ (I' : tHI) (J' : tHJ), MAd I I' J J' → MG b z I' J' (aE b z q) m br nc pl g r → k I' J') : F12_next n S I J k := by
  obtain ⟨h1, h2, h3, h4, h5, h6, h7, h8, h9, h10⟩ := h
  obtain ⟨e1, e2⟩ := aE_le (b := b) h2
  have u := aF_ge (b := b) (z := z) (aE b z q)
  exact MG_next ht hn h1 h2 h3 h4 h5 h6 h7 h8 (by omega) (by omega) hk
theorem must_y {I : tHI} {J : tHJ} {k : tHI → tHJ → Prop} {v : Int32} (hv : ¬ v = 0) (h19 : I 61 19 = 0) (hk : F12_next n S I J k) : F12_must n S I J v k := by
  unfold F12_must F12_must_24 F12_must_35
  exact ⟨fun y => absurd h19 y, fun _ => ⟨fun _ => ⟨fun y => absurd h19 y, fun _ => hk⟩, fun y => absurd y hv⟩⟩
theorem must_n {I : tHI} {J : tHJ} {k : tHI → tHJ → Prop} {v : Int32} (hv : v = 0) (h19 : I 61 19 = 0) (hk : k (uI (uI I 61 19 1) 61 18 (I 61 14)) J) : F12_must n S I J v k := by
  have e : (uI I 61 19 1) 61 14 = I 61 14 := by rw [uIe, upn (by decide)]
  have e2 : ∀ v, ¬ (uI (uI I 61 19 1) 61 18 v) 61 19 = 0 := fun v => by rw [uIe, upn (by decide), uIe, upe]; decide
  unfold F12_must F12_must_24 F12_must_35
  rw [e]
  exact ⟨fun y => absurd h19 y, fun _ => ⟨fun y => absurd hv y, fun _ => ⟨fun _ => hk, fun y => absurd y (e2 _)⟩⟩⟩
end EXS
