/-! what stands between calls: the class's and the model's cells tell the same -/
def SpE (c : Nat → Nat) (nw ca cb : Nat) (op ar : Nat → Nat) (lf : (Nat → Int64) → Nat → Nat → Option Int64) (ma mb : Nat) : Prop := ∀ (w : Nat → Int64) (s s' : Nat → Int64), mm op ar (lf w) mb ma 0 s' = some (mc c w nw cb ca 0 s)
def SpB (c : Nat → Nat) (nw ca cb : Nat) : Prop := ∀ (w : Nat → Int64) (s : Nat → Int64) (v : Int64), mc c w nw cb ca 0 s = some v → v = 0 ∨ v = 1
def LCl (f2 f4 r : Nat → Int32) (at0 ln mn : Nat) (c op ar : Nat → Nat) (j : Nat) : Prop := ∃ kd a0 a1 a2 a3 b3 b4 b5 b6 : Nat, kd ≤ 5 ∧ f2 j = nI kd ∧ r (at0 + 2 + 8 * j) = nI kd ∧
  (f4 (3 * j) = nI a0 ∧ f4 (3 * j + 1) = nI a1 ∧ f4 (3 * j + 2) = nI a2 ∧ f4 (3 * j + 3) = nI a3) ∧ (a0 ≤ a1 ∧ a1 ≤ a2 ∧ a2 ≤ a3 ∧ a3 ≤ ln) ∧
  (r (at0 + 2 + 8 * j + 3) = nI b3 ∧ r (at0 + 2 + 8 * j + 4) = nI b4 ∧ r (at0 + 2 + 8 * j + 5) = nI b5 ∧ r (at0 + 2 + 8 * j + 6) = nI b6) ∧ (b3 ≤ b4 ∧ b4 ≤ mn ∧ b5 ≤ b6 ∧ b6 ≤ mn) ∧
  (kd ≠ 5 → a0 < a1 ∧ SpE c 12 a0 a1 op ar lfL b3 b4) ∧ ((a2 = a3 ∧ b5 = b6) ∨ (a2 < a3 ∧ b5 < b6 ∧ SpE c 12 a2 a3 op ar lfL b5 b6 ∧ SpB c 12 a2 a3))
/-- a law as the class has it (its object's own cells, code, kinds, starts) and as the model has it (in its row, at a place) -/
def LRel (S : tSH) (p : Nat) (f0 f1 f2 f4 r : Nat → Int32) (at0 : Nat) : Prop := (ty S p 6 ∧ 89 ≤ p ∧ p + 5 ≤ sZ S) ∧ ∃ (m ln mn : Nat) (c op ar : Nat → Nat),
  (m ≤ 12 ∧ ln ≤ 400 ∧ mn ≤ 400) ∧ (f0 4 = nI m ∧ f0 5 = nI ln ∧ r (at0 + 1) = nI m) ∧ (sL S (p + 1) = ln ∧ sL S (p + 2) = m ∧ sL S (p + 3) = m ∧ sL S (p + 4) = 3 * m + 1) ∧
  (∀ i, i < ln → f1 i = nI (c i) ∧ c i < 13312) ∧ (∀ i, i < mn → r (at0 + 98 + 2 * i) = nI (op i) ∧ r (at0 + 98 + 2 * i + 1) = nI (ar i) ∧ op i < 40 ∧ ar i < 100000) ∧ ∀ j, j < m → LCl f2 f4 r at0 ln mn c op ar j
def RN (s l rd r : Nat → Int32) : Prop := s 4 = r 3 ∧ s 5 = r 4 ∧ l 0 = r 0 ∧ rd 0 = r 1 ∧ rd 5 = r 2
def RLd (w sp al le r : Nat → Int32) : Prop := ∀ i, i < 6 → w i = r (26 + i) ∧ sp i = r (14 + i) ∧ al i = r (32 + i) ∧ le i = r (20 + i)
def RB (tu lo ca ho r : Nat → Int32) : Prop := ∀ b, b < 12 → tu b = r (38 + 4 * b) ∧ lo b = r (38 + 4 * b + 1) ∧ ca b = r (38 + 4 * b + 2) ∧ ho b = r (38 + 4 * b + 3)
def RG (sb sp sw r : Nat → Int32) : Prop := ∀ s, s < 8 → sb s = r (86 + 3 * s) ∧ sp s = r (86 + 3 * s + 1) ∧ sw s = r (86 + 3 * s + 2)
def RT (t r : Nat → Int32) : Prop := t 0 = r 8 ∧ t 1 = r 11 ∧ t 2 = r 9 ∧ t 3 = r 10 ∧ t 4 = r 12 ∧ t 5 = r 13 ∧ t 6 = r 5 ∧ t 7 = r 6 ∧ t 8 = r 7
/-- the seventeen that an undo brings back -/
def KV (r v : Nat → Int32) : Prop := (∃ a : Nat, v 0 = nI a ∧ (a = 0 ∨ (a : Int) < (r 1).toInt) ∧ a ≤ 12) ∧ (∃ p, v 1 = nI p ∧ p ≤ 60) ∧ (∃ l, v 2 = nI l ∧ l ≤ 2) ∧ (∃ s, v 4 = nI s ∧ s ≤ 100) ∧ ∀ i, i < 6 → (∃ q, v (5 + i) = nI q ∧ q ≤ 3) ∧ (-2 ≤ (v (11 + i)).toInt ∧ (v (11 + i)).toInt ≤ 2) ∧ (r (32 + i) = 0 → v (11 + i) = 0)
def KR (r : Nat → Int32) : Prop := (∃ n, r 0 = nI n ∧ n ≤ 6) ∧ (∃ n, r 1 = nI n ∧ n ≤ 12) ∧ (∃ n, r 2 = nI n ∧ n ≤ 8) ∧ (∃ n, r 3 = nI n ∧ n ≤ 6) ∧ (-1 ≤ (r 4).toInt ∧ (r 4).toInt < (r 3).toInt) ∧ (∃ g, r 5 = nI g ∧ 1 ≤ g ∧ g ≤ 60) ∧ (∃ g, r 6 = nI g ∧ 1 ≤ g ∧ g ≤ 60) ∧ (∃ g, r 7 = nI g ∧ g ≤ 9) ∧ (-9 ≤ (r 8).toInt ∧ (r 8).toInt ≤ 9)
def KL (r : Nat → Int32) : Prop := ∀ i, i < 6 → (∃ w, r (26 + i) = nI w ∧ w ≤ 200) ∧ (r (32 + i) = 0 ∨ r (32 + i) = 1)
def KB (r : Nat → Int32) : Prop := ∀ b, b < 12 → (-9 ≤ (r (38 + 4 * b)).toInt ∧ (r (38 + 4 * b)).toInt ≤ 9) ∧ (∃ l, r (38 + 4 * b + 1) = nI l ∧ l ≤ 99) ∧ (-3 ≤ (r (38 + 4 * b + 2)).toInt ∧ (r (38 + 4 * b + 2)).toInt ≤ 3) ∧ (∃ h, r (38 + 4 * b + 3) = nI h ∧ h ≤ 31)
def KG (r : Nat → Int32) : Prop := ∀ s : Nat, (s : Int) < (r 2).toInt → (∃ b : Nat, r (86 + 3 * s) = nI b ∧ (b : Int) < (r 1).toInt) ∧ (∃ p, r (86 + 3 * s + 1) = nI p ∧ 1 ≤ p ∧ p ≤ 60) ∧ (r (86 + 3 * s + 2) = 0 ∨ r (86 + 3 * s + 2) = 1)
/-- the laws of a State -/
def RW (S : tSH) (I : tHI) (a : Nat) (r : Nat → Int32) : Prop := ∀ i : Nat, (i : Int) < (r 3).toInt → ∃ p, sQ S (a + 15) i = some p ∧ LRel S p (I p) (I (p + 1)) (I (p + 2)) (I (p + 4)) r (110 + 900 * i)
def rV (r : Nat → Int32) : Nat → Int32 := fun i => r (9 + i)
def RK (r : Nat → Int32) : Prop := KR r ∧ KL r ∧ KV r (rV r) ∧ KB r ∧ KG r
/-- a State and the model's row (or a kept one) -/
def RSt (S : tSH) (I : tHI) (a : Nat) (r : Nat → Int32) : Prop := RN (I a) (I (a + 1)) (I (a + 6)) r ∧ RLd (I (a + 2)) (I (a + 3)) (I (a + 4)) (I (a + 5)) r ∧ RB (I (a + 7)) (I (a + 8)) (I (a + 9)) (I (a + 10)) r ∧ RG (I (a + 11)) (I (a + 12)) (I (a + 13)) r ∧ RT (I (a + 14)) r ∧ RK r ∧ RW S I a r
def HR (h k : Nat) (f35 f66 f67 r : Nat → Int32) : Prop := (∃ q, q ≤ 5 ∧ f35 (9 * k) = nI q ∧ f67 k = nI q) ∧ (f35 (9 * k + 1) = f66 (17 * k) ∧ f35 (9 * k + 2) = f66 (17 * k + 1) ∧ f35 (9 * k + 3) = f66 (17 * k + 2) ∧ f35 (9 * k + 4) = f66 (17 * k + 3) ∧ f35 (9 * k + 5) = f66 (17 * k + 4)) ∧ KV r (fun i => f66 (17 * k + i)) ∧
  ((f35 (9 * k + 6) = -1 ∧ ∀ i, i < 12 → f66 (17 * k + (5 + i)) = (if k + 1 = h then r (9 + (5 + i)) else f66 (17 * (k + 1) + (5 + i)))) ∨
   (∃ l : Nat, f35 (9 * k + 6) = nI l ∧ l < 6 ∧ (l : Int) < (r 0).toInt ∧ f35 (9 * k + 7) = f66 (17 * k + (5 + l)) ∧ f35 (9 * k + 8) = f66 (17 * k + (11 + l)) ∧ ∀ i, i < 6 → i ≠ l → f66 (17 * k + (5 + i)) = (if k + 1 = h then r (9 + (5 + i)) else f66 (17 * (k + 1) + (5 + i))) ∧ f66 (17 * k + (11 + i)) = (if k + 1 = h then r (9 + (11 + i)) else f66 (17 * (k + 1) + (11 + i)))))
def RH (f34 f35 f61 f66 f67 r : Nat → Int32) : Prop := ∃ h, h ≤ 16 ∧ f34 1 = nI h ∧ f61 8 = nI h ∧ ∀ k, k < h → HR h k f35 f66 f67 r
def RTp (f38 f39 f61 f70 : Nat → Int32) : Prop := ∃ z, z ≤ 400 ∧ f38 1 = nI z ∧ f61 13 = nI z ∧ ∀ k, k < z → f39 k = f70 k ∧ ∃ b, f39 k = nI b ∧ b < 256
def RIm (S : tSH) (I : tHI) : Prop := (∀ j, j < 2 → (sQ S 33 j = none ∧ I 65 j = 0) ∨ ∃ a, sQ S 33 j = some a ∧ ¬ I 65 j = 0 ∧ ty S a 8 ∧ 89 ≤ a ∧ a + 16 ≤ sZ S ∧ RSt S I a (fun k => I 64 (5510 * j + k))) ∧ ∀ a, sQ S 33 0 = some a → sQ S 33 1 ≠ some a
def RM (f0 f40 f59 f60 f61 f62 f88 : Nat → Int32) : Prop := (f40 1 = f61 18 ∧ f0 16 = f61 53 ∧ f0 17 = f61 11 ∧ f0 18 = f61 1) ∧ (f59 1 = f62 1 ∧ f59 2 = f62 2 ∧ f59 3 = f62 3 ∧ f59 5 = f62 5 ∧ f59 6 = f62 6) ∧ ((f0 13 = 0 ∧ f61 57 = 0) ∨ (¬ f0 13 = 0 ∧ ¬ f61 57 = 0 ∧ f60 2 = f88 0 ∧ f60 3 = f88 1 ∧ f60 4 = f88 2 ∧ f60 5 = f88 3))
def RMs (I : tHI) : Prop := RM (I 0) (I 40) (I 59) (I 60) (I 61) (I 62) (I 88)
def w76 : List Int64 := [677454, 409031, 102140082, 3409202, 595572, 398382, 67155, 20293004, 777297172, 639476, 1451717, 441828]
def w77 : List Int64 := [525413, 464660, 631941, 146885, 5705892, 273816755, 677454, 639476]
def w78 : List Int64 := [8892563, 7939603, 6456915, 17478035, 407947731, 67027]
def w86 : List Int64 := [7219, 2688357, 394693, 17076, 398382, 599173]
def RCn (I : tHI) (J : tHJ) : Prop := (I 61 20 = 0 ∧ I 61 41 = 63) ∧ (I 49 8 = -1 ∧ I 49 9 = -1 ∧ I 49 10 = -1) ∧ (∀ i, i < 6 → I 50 i = -1) ∧ (∀ i, i < 12 → J 76 i = w76.getD i 0) ∧ (∀ i, i < 8 → J 77 i = w77.getD i 0) ∧ (∀ i, i < 6 → J 78 i = w78.getD i 0) ∧ ∀ i, i < 6 → J 86 i = w86.getD i 0
def TY (S : tSH) : Prop := tGr S ∧ ty S 0 11 ∧ ty S 61 12 ∧ 89 ≤ sZ S ∧ sL S 42 = 400 ∧ sL S 43 = 12 ∧ sL S 44 = 12 ∧ sL S 45 = 37
def Inv (S : tSH) (I : tHI) (J : tHJ) : Prop := TY S ∧ RSt S I 1 (I 63) ∧ RH (I 34) (I 35) (I 61) (I 66) (I 67) (I 63) ∧ RTp (I 38) (I 39) (I 61) (I 70) ∧ RIm S I ∧ RMs I ∧ RCn I J
theorem Inv.T : tInvT Inv := fun _ _ _ h => ⟨h.1.1, h.1.2.1, h.1.2.2.1⟩
-- lengths of the class's own rows
theorem TY.l59 {S : tSH} (h : TY S) : sL S 59 = 7 := tGr.len h.1 h.2.1 (k := 11) rfl (by decide)
theorem TY.l47 {S : tSH} (h : TY S) : sL S 47 = 52 := tGr.len h.1 (tGr.off h.1 h.2.1 (k := 7) rfl) (k := 0) rfl (by decide)
theorem TY.l49 {S : tSH} (h : TY S) : sL S 49 = 12 := tGr.len h.1 (tGr.off h.1 h.2.1 (k := 8) rfl) (k := 0) rfl (by decide)
theorem TY.l50 {S : tSH} (h : TY S) : sL S 50 = 12 := tGr.len h.1 (tGr.off h.1 h.2.1 (k := 8) rfl) (k := 1) rfl (by decide)
theorem TY.l58 {S : tSH} (h : TY S) : sL S 58 = 24 := tGr.len h.1 h.2.1 (k := 10) rfl (by decide)
theorem TY.l55 {S : tSH} (h : TY S) : sL S 55 = 4801 := tGr.len h.1 (tGr.off h.1 h.2.1 (k := 9) rfl) (k := 5) rfl (by decide)
theorem TY.l53 {S : tSH} (h : TY S) : sL S 53 = 793 := tGr.len h.1 (tGr.off h.1 h.2.1 (k := 9) rfl) (k := 3) rfl (by decide)
theorem TY.l54 {S : tSH} (h : TY S) : sL S 54 = 39 := tGr.len h.1 (tGr.off h.1 h.2.1 (k := 9) rfl) (k := 4) rfl (by decide)
theorem TY.l35 {S : tSH} (h : TY S) : sL S 35 = 144 := tGr.len h.1 (tGr.off h.1 h.2.1 (k := 3) rfl) (k := 0) rfl (by decide)
theorem TY.l37 {S : tSH} (h : TY S) : sL S 37 = 144 := tGr.len h.1 (tGr.off h.1 h.2.1 (k := 4) rfl) (k := 0) rfl (by decide)
theorem LRel.r {S : tSH} {p : Nat} {f0 f1 f2 f4 r r' : Nat → Int32} {at0 : Nat} (h : LRel S p f0 f1 f2 f4 r at0) (e : ∀ k, at0 ≤ k → k < at0 + 900 → r' k = r k) : LRel S p f0 f1 f2 f4 r' at0 := by
  obtain ⟨h1, m, ln, mn, c, op, ar, ⟨h2, h2a, h2b⟩, ⟨h3, h3b, h3c⟩, h4, h5, h6, h7⟩ := h
  refine ⟨h1, m, ln, mn, c, op, ar, ⟨h2, h2a, h2b⟩, ⟨h3, h3b, by rw [e _ (by omega) (by omega)]; exact h3c⟩, h4, h5, fun i hi => ?_, fun j hj => ?_⟩
  · rw [e _ (by omega) (by omega), e _ (by omega) (by omega)]
    exact h6 i hi
  · obtain ⟨kd, a0, a1, a2, a3, b3, b4, b5, b6, g1, g2, g3, g4, g5, ⟨g6, g7, g8, g9⟩, g10⟩ := h7 j hj
    refine ⟨kd, a0, a1, a2, a3, b3, b4, b5, b6, g1, g2, by rw [e _ (by omega) (by omega)]; exact g3, g4, g5, ⟨?_, ?_, ?_, ?_⟩, g10⟩
    · rw [e _ (by omega) (by omega)]; exact g6
    · rw [e _ (by omega) (by omega)]; exact g7
    · rw [e _ (by omega) (by omega)]; exact g8
    · rw [e _ (by omega) (by omega)]; exact g9
theorem RW.I {S : tSH} {I I' : tHI} {a : Nat} {r : Nat → Int32} (h : RW S I a r) (e : ∀ x, 89 ≤ x → I' x = I x) : RW S I' a r := fun i hi => by
  obtain ⟨p, h1, h2⟩ := h i hi
  have hp : 89 ≤ p := h2.1.2.1
  refine ⟨p, h1, ?_⟩
  rw [e p hp, e (p + 1) (by omega), e (p + 2) (by omega), e (p + 4) (by omega)]
  exact h2
theorem RW.r {S : tSH} {I : tHI} {a : Nat} {r r' : Nat → Int32} (h : RW S I a r) (h3 : r' 3 = r 3) (e : ∀ k, 110 ≤ k → r' k = r k) : RW S I a r' := fun i hi => by
  obtain ⟨p, h1, h2⟩ := h i (by rw [← h3]; exact hi)
  exact ⟨p, h1, h2.r (fun k hk _ => e k (by omega))⟩
theorem RSt.cg {S : tSH} {I I' : tHI} {a : Nat} {r : Nat → Int32} (h : RSt S I a r) (e : ∀ i, i < 15 → I' (a + i) = I (a + i)) (e2 : ∀ x, 89 ≤ x → I' x = I x) : RSt S I' a r := by
  obtain ⟨h1, h2, h3, h4, h5, h6, h7⟩ := h
  have e0 : I' a = I a := e 0 (by omega)
  refine ⟨?_, ?_, ?_, ?_, ?_, h6, h7.I e2⟩
  · rw [e0, e 1 (by omega), e 6 (by omega)]; exact h1
  · rw [e 2 (by omega), e 3 (by omega), e 4 (by omega), e 5 (by omega)]; exact h2
  · rw [e 7 (by omega), e 8 (by omega), e 9 (by omega), e 10 (by omega)]; exact h3
  · rw [e 11 (by omega), e 12 (by omega), e 13 (by omega)]; exact h4
  · rw [e 14 (by omega)]; exact h5
theorem RIm.cg {S : tSH} {I I' : tHI} (h : RIm S I) (e64 : I' 64 = I 64) (e65 : I' 65 = I 65) (e2 : ∀ x, 89 ≤ x → I' x = I x) : RIm S I' := by
  refine ⟨fun j hj => ?_, h.2⟩
  rcases h.1 j hj with ⟨q1, q2⟩ | ⟨a, q1, q2, q3, q4, q5, q6⟩
  · exact Or.inl ⟨q1, by rw [e65]; exact q2⟩
  · refine Or.inr ⟨a, q1, by rw [e65]; exact q2, q3, q4, q5, ?_⟩
    rw [e64]
    exact q6.cg (fun i hi => e2 _ (by omega)) e2
/-- what a question leaves alone -/
def KpI (I I' : tHI) : Prop := (∀ x, 89 ≤ x → I' x = I x) ∧ (∀ x, x ∈ [1, 2, 3, 4, 5, 6, 7, 8, 9, 10, 11, 12, 13, 14, 15, 34, 35, 38, 39, 59, 60, 62, 63, 64, 65, 67, 70, 88] → I' x = I x) ∧ (∀ y, y ∈ [13, 16, 17, 18] → I' 0 y = I 0 y) ∧ (∀ y, y ∈ [1, 8, 11, 13, 18, 20, 41, 53, 57] → I' 61 y = I 61 y) ∧ I' 40 1 = I 40 1 ∧ (∀ y, y ∈ [8, 9, 10] → I' 49 y = I 49 y) ∧ (∀ y, y < 6 → I' 50 y = I 50 y) ∧ ∀ y, y < 272 → I' 66 y = I 66 y
def KpJ (J J' : tHJ) : Prop := ∀ x, x ∈ [76, 77, 78, 86] → J' x = J x
theorem KpI.rf (I : tHI) : KpI I I := ⟨fun _ _ => rfl, fun _ _ => rfl, fun _ _ => rfl, fun _ _ => rfl, rfl, fun _ _ => rfl, fun _ _ => rfl, fun _ _ => rfl⟩
theorem KpI.trans {I I' I'' : tHI} (h : KpI I I') (g : KpI I' I'') : KpI I I'' := ⟨fun x q => (g.1 x q).trans (h.1 x q), fun x q => (g.2.1 x q).trans (h.2.1 x q), fun x q => (g.2.2.1 x q).trans (h.2.2.1 x q), fun x q => (g.2.2.2.1 x q).trans (h.2.2.2.1 x q), g.2.2.2.2.1.trans h.2.2.2.2.1, fun x q => (g.2.2.2.2.2.1 x q).trans (h.2.2.2.2.2.1 x q), fun x q => (g.2.2.2.2.2.2.1 x q).trans (h.2.2.2.2.2.2.1 x q), fun x q => (g.2.2.2.2.2.2.2 x q).trans (h.2.2.2.2.2.2.2 x q)⟩
theorem KpJ.trans {I I' I'' : tHJ} (h : KpJ I I') (g : KpJ I' I'') : KpJ I I'' := fun x q => (g x q).trans (h x q)
theorem KpJ.rf (J : tHJ) : KpJ J J := fun _ _ => rfl
theorem HR.cg {h k : Nat} {f35 f66 f67 r f66' : Nat → Int32} (hk : k < h) (hh : h ≤ 16) (q : HR h k f35 f66 f67 r) (e : ∀ y, y < 272 → f66' y = f66 y) : HR h k f35 f66' f67 r := by
  obtain ⟨q1, ⟨a1, a2, a3, a4, a5⟩, ⟨b1, b2, b3, b4, b5⟩, q4⟩ := q
  refine ⟨q1, ⟨?_, ?_, ?_, ?_, ?_⟩, ⟨?_, ?_, ?_, ?_, fun i hi => ?_⟩, ?_⟩
  · rw [e _ (by omega)]; exact a1
  · rw [e _ (by omega)]; exact a2
  · rw [e _ (by omega)]; exact a3
  · rw [e _ (by omega)]; exact a4
  · rw [e _ (by omega)]; exact a5
  · show ∃ a : Nat, f66' (17 * k + 0) = nI a ∧ _
    rw [e _ (by omega)]; exact b1
  · show ∃ a : Nat, f66' (17 * k + 1) = nI a ∧ _
    rw [e _ (by omega)]; exact b2
  · show ∃ a : Nat, f66' (17 * k + 2) = nI a ∧ _
    rw [e _ (by omega)]; exact b3
  · show ∃ a : Nat, f66' (17 * k + 4) = nI a ∧ _
    rw [e _ (by omega)]; exact b4
  · have := b5 i hi
    simp only at this ⊢
    rw [e _ (by omega), e _ (by omega)]
    exact this
  · rcases q4 with ⟨c1, c2⟩ | ⟨l, c1, c2, c3, c4, c5, c6⟩
    · refine Or.inl ⟨c1, fun i hi => ?_⟩
      have := c2 i hi
      rw [e _ (by omega)]
      by_cases g : k + 1 = h
      · rw [if_pos g] at this ⊢; exact this
      · rw [if_neg g] at this ⊢; rw [e _ (by omega)]; exact this
    · refine Or.inr ⟨l, c1, c2, c3, ?_, ?_, fun i hi hl => ?_⟩
      · rw [e _ (by omega)]; exact c4
      · rw [e _ (by omega)]; exact c5
      · have := c6 i hi hl
        rw [e (17 * k + (5 + i)) (by omega), e (17 * k + (11 + i)) (by omega)]
        by_cases g : k + 1 = h
        · rw [if_pos g, if_pos g] at this ⊢; exact this
        · rw [if_neg g, if_neg g] at this ⊢; rw [e (17 * (k + 1) + (5 + i)) (by omega), e (17 * (k + 1) + (11 + i)) (by omega)]; exact this
theorem Inv.keep {S : tSH} {I I' : tHI} {J J' : tHJ} (h : Inv S I J) (hI : KpI I I') (hJ : KpJ J J') : Inv S I' J' := by
  obtain ⟨k1, k2, k3, k4, k5, k6, k7, k8⟩ := hI
  obtain ⟨h1, h2, ⟨z, z1, z2, z3, z4⟩, ⟨u, u1, u2, u3, u4⟩, h5, ⟨⟨m1, m2, m3, m4⟩, m5, m6⟩, ⟨n1, n1b⟩, ⟨n2, n3, n4⟩, n5, n6, n7, n8, n9⟩ := h
  have e34 := k2 34 (by decide); have e35 := k2 35 (by decide); have e38 := k2 38 (by decide); have e39 := k2 39 (by decide)
  have e63 := k2 63 (by decide); have e67 := k2 67 (by decide); have e70 := k2 70 (by decide); have e64 := k2 64 (by decide); have e65 := k2 65 (by decide)
  have e59 := k2 59 (by decide); have e62 := k2 62 (by decide); have e60 := k2 60 (by decide); have e88 := k2 88 (by decide)
  refine ⟨h1, ?_, ?_, ?_, ?_, ?_, ?_⟩
  · rw [e63]
    refine h2.cg (fun i hi => k2 (1 + i) ?_) k1
    have : 1 + i = 1 ∨ 1 + i = 2 ∨ 1 + i = 3 ∨ 1 + i = 4 ∨ 1 + i = 5 ∨ 1 + i = 6 ∨ 1 + i = 7 ∨ 1 + i = 8 ∨ 1 + i = 9 ∨ 1 + i = 10 ∨ 1 + i = 11 ∨ 1 + i = 12 ∨ 1 + i = 13 ∨ 1 + i = 14 ∨ 1 + i = 15 := by omega
    rcases this with g | g | g | g | g | g | g | g | g | g | g | g | g | g | g <;> rw [g] <;> decide
  · rw [e34, e35, e63, e67]
    exact ⟨z, z1, z2, by rw [k4 8 (by decide)]; exact z3, fun k hk => (z4 k hk).cg hk z1 k8⟩
  · rw [e38, e39, e70]
    exact ⟨u, u1, u2, by rw [k4 13 (by decide)]; exact u3, u4⟩
  · exact h5.cg e64 e65 k1
  · refine ⟨⟨?_, ?_, ?_, ?_⟩, ?_, ?_⟩
    · rw [k5, k4 18 (by decide)]; exact m1
    · rw [k3 16 (by decide), k4 53 (by decide)]; exact m2
    · rw [k3 17 (by decide), k4 11 (by decide)]; exact m3
    · rw [k3 18 (by decide), k4 1 (by decide)]; exact m4
    · rw [e59, e62]; exact m5
    · rw [k3 13 (by decide), k4 57 (by decide), e60, e88]; exact m6
  · refine ⟨⟨?_, ?_⟩, ⟨?_, ?_, ?_⟩, fun i hi => ?_, ?_, ?_, ?_, ?_⟩
    · rw [k4 20 (by decide)]; exact n1
    · rw [k4 41 (by decide)]; exact n1b
    · rw [k6 8 (by decide)]; exact n2
    · rw [k6 9 (by decide)]; exact n3
    · rw [k6 10 (by decide)]; exact n4
    · rw [k7 i hi]; exact n5 i hi
    · rw [hJ 76 (by decide)]; exact n6
    · rw [hJ 77 (by decide)]; exact n7
    · rw [hJ 78 (by decide)]; exact n8
    · rw [hJ 86 (by decide)]; exact n9
