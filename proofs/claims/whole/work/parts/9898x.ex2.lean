/-! the model reads a whole text -/
section EX2
variable {n : Nat} {S : tSH} {b : Nat → Nat} {z ord : Nat} {I0 : tHI} {J0 : tHJ}
theorem end_bad {I : tHI} {J : tHJ} {E : tHI → tHJ → Prop} (h : ¬ I 61 19 = 0) (hk : E (uI (uI I 61 20 0) 61 13 0) J) : F12_endText n S I J E := by
  unfold F12_endText F12_endText_19
  exact ⟨fun _ => hk, fun y => absurd y h⟩
theorem end_good {I : tHI} {J : tHJ} {E : tHI → tHJ → Prop} {q m nc : Nat} {g r : Nat → Nat} (h : MEx b z I J q m nc g r) (h0 : aK b z q = 0 → E (uI (uI I 61 20 0) 61 13 0) J) (h1 : aK b z q ≠ 0 → ∀ I', MFt I I' J J → ¬ I' 61 19 = 0 → I' 61 18 = nI (aF b z q) → E (uI (uI I' 61 20 0) 61 13 0) J) : F12_endText n S I J E := by
  have kr := aK_r (b := b) (z := z) q
  have e0 : nI (aK b z q) = 0 ↔ aK b z q = 0 := qeq (b := 0) (by omega) (by omega)
  unfold F12_endText F12_endText_19
  rw [h.1.2.2.1]
  refine ⟨fun y => absurd h.2.2.1 y, fun _ => ⟨fun y => h0 (e0.mp y), fun y => must_n rfl h.2.2.1 ?_⟩⟩
  rw [h.1.1]
  exact h1 (fun e => y (e0.mpr e)) _ (((MFt.rf I J).w61 (by decide)).w61 (by decide)) (by rw [uIe, upn (by decide), uIe, upe]; decide) (by rw [uIe, upe])
theorem lawT_L (ht : MTp b z (I0 61) (I0 70)) (hn : 2000 < n) (hord : I0 61 20 = nI 0) (h76 : ∀ i, i < 12 → J0 76 i = w76.getD i 0) (h77 : ∀ i, i < 8 → J0 77 i = w77.getD i 0) (h78 : ∀ i, i < 6 → J0 78 i = w78.getD i 0) {k : Int32 → tHI → tHJ → Prop} {E : tHI → tHJ → Prop} (hE : ∀ I J, F12_endText n S I J E → F12_law_64 n S k I J) {res : Nat ⊕ List aC5} (hbad : ∀ x, res = .inl x → ∀ I' J', MFt I0 I' J0 J' → ¬ I' 61 19 = 0 → I' 61 18 = nI x → E (uI (uI I' 61 20 0) 61 13 0) J') (hgd : ∀ cs, res = .inr cs → ∀ I' J' q m nc g r, MFt I0 I' J0 J' → MTS b z I' J' q m nc g r cs → E (uI (uI I' 61 20 0) 61 13 0) J') : ∀ (d f j q m nc : Nat) (g r : Nat → Nat) (cs : List aC5) (I : tHI) (J : tHJ), j + d = 12 → d + 1 < f → MFt I0 I J0 J → MTS b z I J q m nc g r cs → cs.length = j → aTl b z 0 j q m cs = res → F12_law_L37 n S k f I J := by
  have badL : ∀ (f x : Nat) (I : tHI) (J : tHJ), 0 < f → res = .inl x → MFt I0 I J0 J → ¬ I 61 19 = 0 → I 61 18 = nI x → F12_law_L37 n S k f I J := by
    intro f x I J hf hr a1 a2 a3
    obtain ⟨f, rfl⟩ : ∃ g, f = g + 1 := ⟨f - 1, by omega⟩
    show F12_law_37 n S k (F12_law_L37 n S k f) I J
    unfold F12_law_37
    exact ⟨fun _ => hE _ _ (end_bad a2 (hbad x hr I J a1 a2 a3)), fun y => absurd y a2⟩
  intro d
  induction d with
  | zero =>
    intro f j q m nc g r cs I J hj hf hI hT hc he
    obtain ⟨f, rfl⟩ : ∃ g, f = g + 2 := ⟨f - 2, by omega⟩
    have hj : j = 12 := by omega
    subst hj
    have es : V12_isSign S I J 59 = 0 ↔ ¬ aS b z q = 59 := isS hT.1.1 (c := 59) (by decide) (by decide)
    show F12_law_37 n S k (F12_law_L37 n S k (f + 1)) I J
    unfold F12_law_37
    unfold aTl at he
    refine ⟨fun y => absurd hT.1.2.2.1 y, fun _ => ⟨fun y => ?_, fun y => ?_⟩⟩
    · rw [if_neg (es.mp y)] at he
      refine hE _ _ (end_good hT.1 (fun h0 => ?_) (fun h0 I' a1 a2 a3 => ?_))
      · rw [if_pos h0] at he; exact hgd cs he.symm I J q m nc g r hI hT
      · rw [if_neg h0] at he; exact hbad _ he.symm I' J (hI.trans a1) a2 a3
    · have y : aS b z q = 59 := Classical.not_not.mp (fun h => y (es.mpr h))
      rw [if_pos y] at he
      refine hT.1.next (ht.ft hI) (by omega) (fun I1 J1 a1 e1 => ?_)
      have hI1 := hI.ad a1
      have hT1 : MTS b z I1 J1 (aE b z q) m nc g r cs := ⟨e1, by rw [a1.2.1 21 (by decide)]; exact hT.2.1, hT.2.2.1, by rw [a1.1 71 (by decide)]; exact hT.2.2.2⟩
      exact sp_mlaw (ht.ft hI1) hn (by rw [hI1.2.1 20 (by decide)]; exact hord) (fun i hi => by rw [hI1.2.2.1 76 (by decide)]; exact h76 i hi) (fun i hi => by rw [hI1.2.2.1 77 (by decide)]; exact h77 i hi) (fun i hi => by rw [hI1.2.2.1 78 (by decide)]; exact h78 i hi) hT1 (fun _ I' J' b1 b2 b3 => badL (f + 1) _ I' J' (by omega) he.symm (hI1.trans b1) b2 b3) (fun h => absurd h (by omega))
  | succ d ih =>
    intro f j q m nc g r cs I J hj hf hI hT hc he
    obtain ⟨f, rfl⟩ : ∃ g, f = g + 2 := ⟨f - 2, by omega⟩
    have es : V12_isSign S I J 59 = 0 ↔ ¬ aS b z q = 59 := isS hT.1.1 (c := 59) (by decide) (by decide)
    show F12_law_37 n S k (F12_law_L37 n S k (f + 1)) I J
    unfold F12_law_37
    unfold aTl at he
    refine ⟨fun y => absurd hT.1.2.2.1 y, fun _ => ⟨fun y => ?_, fun y => ?_⟩⟩
    · rw [if_neg (es.mp y)] at he
      refine hE _ _ (end_good hT.1 (fun h0 => ?_) (fun h0 I' a1 a2 a3 => ?_))
      · rw [if_pos h0] at he; exact hgd cs he.symm I J q m nc g r hI hT
      · rw [if_neg h0] at he; exact hbad _ he.symm I' J (hI.trans a1) a2 a3
    · have y : aS b z q = 59 := Classical.not_not.mp (fun h => y (es.mpr h))
      rw [if_pos y] at he
      refine hT.1.next (ht.ft hI) (by omega) (fun I1 J1 a1 e1 => ?_)
      have hI1 := hI.ad a1
      have hT1 : MTS b z I1 J1 (aE b z q) m nc g r cs := ⟨e1, by rw [a1.2.1 21 (by decide)]; exact hT.2.1, hT.2.2.1, by rw [a1.1 71 (by decide)]; exact hT.2.2.2⟩
      have eT : aTe b z 0 (12 - j) (aE b z q) m cs = (match aCl b z 0 (aE b z q) m with
        | .inl x => .inl x
        | .inr (q', m', c) => aTl b z 0 (j + 1) q' m' (cs ++ [c])) := by
        rw [show 12 - j = (12 - (j + 1)) + 1 by omega]
        rfl
      rw [eT] at he
      refine sp_mlaw (ht.ft hI1) hn (by rw [hI1.2.1 20 (by decide)]; exact hord) (fun i hi => by rw [hI1.2.2.1 76 (by decide)]; exact h76 i hi) (fun i hi => by rw [hI1.2.2.1 77 (by decide)]; exact h77 i hi) (fun i hi => by rw [hI1.2.2.1 78 (by decide)]; exact h78 i hi) hT1 (fun h => absurd h (by omega)) (fun _ => ⟨fun x hx I' J' b1 b2 b3 => ?_, fun q' m' cl hx I' J' nc' g' r' b1 t1 => ?_⟩)
      · rw [hx] at he
        exact badL (f + 1) x I' J' (by omega) he.symm (hI1.trans b1) b2 b3
      · rw [hx] at he
        exact ih (f + 1) (j + 1) q' m' nc' g' r' (cs ++ [cl]) I' J' (by omega) (by omega) (hI1.trans b1) t1 (by rw [List.length_append]; show cs.length + 1 = j + 1; omega) he
theorem ordT_L (ht : MTp b z (I0 61) (I0 70)) (hn : 2000 < n) (hord : I0 61 20 = nI 1) (h76 : ∀ i, i < 12 → J0 76 i = w76.getD i 0) (h77 : ∀ i, i < 8 → J0 77 i = w77.getD i 0) (h86 : ∀ i, i < 6 → J0 86 i = w86.getD i 0) {k : Int32 → tHI → tHJ → Prop} {E : tHI → tHJ → Prop} (hE : ∀ I J, F12_endText n S I J E → F12_orders_46 n S k I J) {res : Nat ⊕ List aC5} (hbad : ∀ x, res = .inl x → ∀ I' J', MFt I0 I' J0 J' → ¬ I' 61 19 = 0 → I' 61 18 = nI x → E (uI (uI I' 61 20 0) 61 13 0) J') (hgd : ∀ cs, res = .inr cs → ∀ I' J' q m nc g r, MFt I0 I' J0 J' → MTo b z I' J' q m nc g r cs → E (uI (uI I' 61 20 0) 61 13 0) J') : ∀ (d f j q m nc : Nat) (g r : Nat → Nat) (cs : List aC5) (I : tHI) (J : tHJ), j + d = 12 → d + 1 < f → MFt I0 I J0 J → MTo b z I J q m nc g r cs → cs.length = j → aTl b z 1 j q m cs = res → F12_orders_L19 n S k f I J := by
  have badL : ∀ (f x : Nat) (I : tHI) (J : tHJ), 0 < f → res = .inl x → BO I0 I J0 J x → F12_orders_L19 n S k f I J := by
    intro f x I J hf hr a
    obtain ⟨f, rfl⟩ : ∃ g, f = g + 1 := ⟨f - 1, by omega⟩
    show F12_orders_19 n S k (F12_orders_L19 n S k f) I J
    unfold F12_orders_19
    exact ⟨fun _ => hE _ _ (end_bad a.2.1 (hbad x hr I J a.1 a.2.1 a.2.2)), fun y => absurd y a.2.1⟩
  intro d
  induction d with
  | zero =>
    intro f j q m nc g r cs I J hj hf hI hT hc he
    obtain ⟨f, rfl⟩ : ∃ g, f = g + 2 := ⟨f - 2, by omega⟩
    have hj : j = 12 := by omega
    subst hj
    have es : V12_isSign S I J 59 = 0 ↔ ¬ aS b z q = 59 := isS hT.1.1 (c := 59) (by decide) (by decide)
    show F12_orders_19 n S k (F12_orders_L19 n S k (f + 1)) I J
    unfold F12_orders_19
    unfold aTl at he
    refine ⟨fun y => absurd hT.1.2.2.1 y, fun _ => ⟨fun y => ?_, fun y => ?_⟩⟩
    · rw [if_neg (es.mp y)] at he
      refine hE _ _ (end_good hT.1 (fun h0 => ?_) (fun h0 I' a1 a2 a3 => ?_))
      · rw [if_pos h0] at he; exact hgd cs he.symm I J q m nc g r hI hT
      · rw [if_neg h0] at he; exact hbad _ he.symm I' J (hI.trans a1) a2 a3
    · have y : aS b z q = 59 := Classical.not_not.mp (fun h => y (es.mpr h))
      rw [if_pos y] at he
      refine hT.1.next (ht.ft hI) (by omega) (fun I1 J1 a1 e1 => ?_)
      have hI1 := hI.ad a1
      have hT1 : MTo b z I1 J1 (aE b z q) m nc g r cs := ⟨e1, by rw [a1.2.1 21 (by decide)]; exact hT.2.1, hT.2.2.1, by rw [a1.1 87 (by decide)]; exact hT.2.2.2⟩
      exact sp_morder (ht.ft hI1) hn (by rw [hI1.2.1 20 (by decide)]; exact hord) (fun i hi => by rw [hI1.2.2.1 76 (by decide)]; exact h76 i hi) (fun i hi => by rw [hI1.2.2.1 77 (by decide)]; exact h77 i hi) (fun i hi => by rw [hI1.2.2.1 86 (by decide)]; exact h86 i hi) hT1 (fun _ I' J' b1 => badL (f + 1) _ I' J' (by omega) he.symm ⟨hI1.trans b1.1, b1.2⟩) (fun h => absurd h (by omega))
  | succ d ih =>
    intro f j q m nc g r cs I J hj hf hI hT hc he
    obtain ⟨f, rfl⟩ : ∃ g, f = g + 2 := ⟨f - 2, by omega⟩
    have es : V12_isSign S I J 59 = 0 ↔ ¬ aS b z q = 59 := isS hT.1.1 (c := 59) (by decide) (by decide)
    show F12_orders_19 n S k (F12_orders_L19 n S k (f + 1)) I J
    unfold F12_orders_19
    unfold aTl at he
    refine ⟨fun y => absurd hT.1.2.2.1 y, fun _ => ⟨fun y => ?_, fun y => ?_⟩⟩
    · rw [if_neg (es.mp y)] at he
      refine hE _ _ (end_good hT.1 (fun h0 => ?_) (fun h0 I' a1 a2 a3 => ?_))
      · rw [if_pos h0] at he; exact hgd cs he.symm I J q m nc g r hI hT
      · rw [if_neg h0] at he; exact hbad _ he.symm I' J (hI.trans a1) a2 a3
    · have y : aS b z q = 59 := Classical.not_not.mp (fun h => y (es.mpr h))
      rw [if_pos y] at he
      refine hT.1.next (ht.ft hI) (by omega) (fun I1 J1 a1 e1 => ?_)
      have hI1 := hI.ad a1
      have hT1 : MTo b z I1 J1 (aE b z q) m nc g r cs := ⟨e1, by rw [a1.2.1 21 (by decide)]; exact hT.2.1, hT.2.2.1, by rw [a1.1 87 (by decide)]; exact hT.2.2.2⟩
      have eT : aTe b z 1 (12 - j) (aE b z q) m cs = (match aCl b z 1 (aE b z q) m with
        | .inl x => .inl x
        | .inr (q', m', c) => aTl b z 1 (j + 1) q' m' (cs ++ [c])) := by
        rw [show 12 - j = (12 - (j + 1)) + 1 by omega]
        rfl
      rw [eT] at he
      refine sp_morder (ht.ft hI1) hn (by rw [hI1.2.1 20 (by decide)]; exact hord) (fun i hi => by rw [hI1.2.2.1 76 (by decide)]; exact h76 i hi) (fun i hi => by rw [hI1.2.2.1 77 (by decide)]; exact h77 i hi) (fun i hi => by rw [hI1.2.2.1 86 (by decide)]; exact h86 i hi) hT1 (fun h => absurd h (by omega)) (fun _ => ⟨fun x hx I' J' b1 => ?_, fun q' m' cl hx I' J' nc' g' r' b1 t1 => ?_⟩)
      · rw [hx] at he
        exact badL (f + 1) x I' J' (by omega) he.symm ⟨hI1.trans b1.1, b1.2⟩
      · rw [hx] at he
        exact ih (f + 1) (j + 1) q' m' nc' g' r' (cs ++ [cl]) I' J' (by omega) (by omega) (hI1.trans b1) t1 (by rw [List.length_append]; show cs.length + 1 = j + 1; omega) he
/-- what a text leaves alone -/
def MFu (I I' : tHI) (J J' : tHJ) : Prop := (∀ x, x ∉ [61, 71, 72, 73, 74, 75, 87] → I' x = I x) ∧ (∀ y, y ∉ [14, 15, 16, 18, 19, 20, 21, 23, 26, 29, 30] → I' 61 y = I 61 y) ∧ (∀ x, x ≠ 61 → J' x = J x) ∧ ∀ y, y ≠ 17 → J' 61 y = J 61 y
theorem MFu.of {I X Y : tHI} {J U V : tHJ} (h : MFu I X J U) (g : MFt X Y U V) : MFu I Y J V := ⟨fun x hx => (g.1 x hx).trans (h.1 x hx), fun y hy => (g.2.1 y (fun e => hy (by
  have : y = 14 ∨ y = 15 ∨ y = 16 ∨ y = 18 ∨ y = 19 ∨ y = 21 ∨ y = 23 ∨ y = 26 ∨ y = 29 ∨ y = 30 := by simpa using e
  rcases this with c | c | c | c | c | c | c | c | c | c <;> rw [c] <;> decide))).trans (h.2.1 y hy), fun x hx => (g.2.2.1 x hx).trans (h.2.2.1 x hx), fun y hy => (g.2.2.2 y hy).trans (h.2.2.2 y hy)⟩
/-- the beginning -/
theorem sp_begin {I : tHI} {J : tHJ} {K : tHI → tHJ → Prop} (ht : MTp b z (I 61) (I 70)) (hn : 1001 < n) (hord2 : ord ≤ 1) (hk : ∀ I' J', MFu I I' J J' → MTp b z (I' 61) (I' 70) → I' 61 20 = nI ord → MEx b z I' J' 0 0 0 (fun _ => 0) (fun _ => 0) → I' 61 21 = 0 → K I' J') : F12_beginText n S I J (nI ord) K := by
  have hbz : bz (nI ord) := by
    rcases (show ord = 0 ∨ ord = 1 by omega) with e | e <;> subst e
    · exact Or.inl rfl
    · exact Or.inr rfl
  unfold F12_beginText F12_begin
  refine ⟨hbz, ?_⟩
  have x61 : ∀ y, (uI (uI (uI (uI I 61 20 (nI ord)) 61 15 0) 61 19 0) 61 18 (-1)) 61 y = up (up (up (up (I 61) 20 (nI ord)) 15 0) 19 0) 18 (-1) y := fun y => by rw [uIe, uIe, uIe, uIe]
  have x70 : ∀ x, x ≠ 61 → (uI (uI (uI (uI I 61 20 (nI ord)) 61 15 0) 61 19 0) 61 18 (-1)) x = I x := fun x hx => by rw [uIn hx, uIn hx, uIn hx, uIn hx]
  generalize (uI (uI (uI (uI I 61 20 (nI ord)) 61 15 0) 61 19 0) 61 18 (-1)) = X at x61 x70 ⊢
  have htX : MTp b z (X 61) (X 70) := by
    unfold MTp
    rw [x61, upn (by decide), upn (by decide), upn (by decide), upn (by decide), x70 70 (by decide)]
    exact ht
  refine sp_next htX hn (Nat.zero_le z) (by rw [x61, upn (by decide), upn (by decide), upe]; rfl) (fun I1 J1 a1 t1 => ?_)
  have y61 : ∀ y, y ≠ 21 → y ≠ 23 → y ≠ 26 → (uI (uI (uI I1 61 21 0) 61 23 0) 61 26 0) 61 y = I1 61 y := fun y h1 h2 h3 => by rw [uIe, upn h3, uIe, upn h2, uIe, upn h1]
  have yo : ∀ x, x ≠ 61 → (uI (uI (uI I1 61 21 0) 61 23 0) 61 26 0) x = I1 x := fun x hx => by rw [uIn hx, uIn hx, uIn hx]
  refine hk _ J1 ⟨fun x hx => ?_, fun y hy => ?_, a1.2.2.1, a1.2.2.2⟩ ?_ ?_ ⟨?_, Nat.zero_le _, ?_, ?_, ?_, by omega, ?_, Nat.zero_le _, fun i hi => by omega⟩ ?_
  · have h61 : x ≠ 61 := fun e => hx (by rw [e]; decide)
    rw [yo x h61, a1.1 x h61, x70 x h61]
  · have e : ∀ t, t ∈ [14, 15, 16, 18, 19, 20, 21, 23, 26, 29, 30] → y ≠ t := fun t ht e => hy (by rw [e]; exact ht)
    have hn3 : y ∉ [14, 15, 16] := fun c => by
      have : y = 14 ∨ y = 15 ∨ y = 16 := by simpa using c
      rcases this with c | c | c
      · exact e 14 (by decide) c
      · exact e 15 (by decide) c
      · exact e 16 (by decide) c
    rw [y61 y (e 21 (by decide)) (e 23 (by decide)) (e 26 (by decide)), a1.2.1 y hn3, x61, upn (e 18 (by decide)), upn (e 19 (by decide)), upn (e 15 (by decide)), upn (e 20 (by decide))]
  · unfold MTp
    rw [y61 13 (by decide) (by decide) (by decide), yo 70 (by decide), a1.2.1 13 (by decide), a1.1 70 (by decide)]
    exact htX
  · rw [y61 20 (by decide) (by decide) (by decide), a1.2.1 20 (by decide), x61, upn (by decide), upn (by decide), upn (by decide), upe]
  · obtain ⟨t, t2, t3, t4⟩ := t1
    exact ⟨by rw [y61 14 (by decide) (by decide) (by decide)]; exact t, by rw [y61 15 (by decide) (by decide) (by decide)]; exact t2, by rw [y61 16 (by decide) (by decide) (by decide)]; exact t3, t4⟩
  · rw [y61 19 (by decide) (by decide) (by decide), a1.2.1 19 (by decide), x61, upn (by decide), upe]
  · rw [y61 18 (by decide) (by decide) (by decide), a1.2.1 18 (by decide), x61, upe]
  · rw [uIe, upe]; rfl
  · rw [uIe, upn (by decide), uIe, upe]; rfl
  · rw [uIe, upn (by decide), uIe, upn (by decide), uIe, upe]
/-- a law's text by the model -/
theorem sp_lawT {I : tHI} {J : tHJ} {k : Int32 → tHI → tHJ → Prop} {E : tHI → tHJ → Prop} (ht : MTp b z (I 61) (I 70)) (hn : 2000 < n) (h76 : ∀ i, i < 12 → J 76 i = w76.getD i 0) (h77 : ∀ i, i < 8 → J 77 i = w77.getD i 0) (h78 : ∀ i, i < 6 → J 78 i = w78.getD i 0) (hE : ∀ I J, F12_endText n S I J E → F12_law_64 n S k I J) (hbad : ∀ x, aTe b z 0 12 0 0 [] = .inl x → ∀ I' J', MFu I I' J J' → ¬ I' 61 19 = 0 → I' 61 18 = nI x → E (uI (uI I' 61 20 0) 61 13 0) J') (hgd : ∀ cs, aTe b z 0 12 0 0 [] = .inr cs → ∀ I' J' q m nc g r, MFu I I' J J' → MTS b z I' J' q m nc g r cs → E (uI (uI I' 61 20 0) 61 13 0) J') : F12_beginText n S I J (nI 0) (fun I2 J3 => F12_readLaw n S I2 J3 (fun I4 J5 => F12_law_L37 n S k n I4 J5)) := by
  refine sp_begin ht (by omega) (by omega) (fun I1 J1 u1 t1 o1 e1 c1 => ?_)
  have g76 : ∀ i, i < 12 → J1 76 i = w76.getD i 0 := fun i hi => by rw [u1.2.2.1 76 (by decide)]; exact h76 i hi
  have g77 : ∀ i, i < 8 → J1 77 i = w77.getD i 0 := fun i hi => by rw [u1.2.2.1 77 (by decide)]; exact h77 i hi
  have g78 : ∀ i, i < 6 → J1 78 i = w78.getD i 0 := fun i hi => by rw [u1.2.2.1 78 (by decide)]; exact h78 i hi
  have hT1 : MTS b z I1 J1 0 0 0 (fun _ => 0) (fun _ => 0) [] := ⟨e1, c1, by decide, fun j c hj => (by cases hj)⟩
  have eT : aTe b z 0 12 0 0 [] = (match aCl b z 0 0 0 with
    | .inl x => .inl x
    | .inr (q', m', c) => aTl b z 0 1 q' m' ([] ++ [c])) := rfl
  refine sp_mlaw t1 hn o1 g76 g77 g78 hT1 (fun h => absurd h (by decide)) (fun _ => ⟨fun x hx I' J' b1 b2 b3 => ?_, fun q' m' cl hx I' J' nc' g' r' b1 t2 => ?_⟩)
  · rw [hx] at eT
    obtain ⟨n', rfl⟩ : ∃ g, n = g + 1 := ⟨n - 1, by omega⟩
    show F12_law_37 (n' + 1) S k (F12_law_L37 (n' + 1) S k n') I' J'
    unfold F12_law_37
    exact ⟨fun _ => hE _ _ (end_bad b2 (hbad x eT I' J' (u1.of b1) b2 b3)), fun y => absurd y b2⟩
  · rw [hx] at eT
    exact lawT_L (I0 := I1) (J0 := J1) (res := aTe b z 0 12 0 0 []) t1 hn o1 g76 g77 g78 hE (fun x ex I3 J3 a1 a2 a3 => hbad x ex I3 J3 (u1.of a1) a2 a3) (fun cs ecs I3 J3 q m nc g r a1 a2 => hgd cs ecs I3 J3 q m nc g r (u1.of a1) a2) 11 n 1 q' m' nc' g' r' ([] ++ [cl]) I' J' rfl (by omega) b1 t2 rfl eT.symm
theorem sp_ordT {I : tHI} {J : tHJ} {k : Int32 → tHI → tHJ → Prop} {E : tHI → tHJ → Prop} (ht : MTp b z (I 61) (I 70)) (hn : 2000 < n) (h76 : ∀ i, i < 12 → J 76 i = w76.getD i 0) (h77 : ∀ i, i < 8 → J 77 i = w77.getD i 0) (h86 : ∀ i, i < 6 → J 86 i = w86.getD i 0) (hE : ∀ I J, F12_endText n S I J E → F12_orders_46 n S k I J) (hbad : ∀ x, aTe b z 1 12 0 0 [] = .inl x → ∀ I' J', MFu I I' J J' → ¬ I' 61 19 = 0 → I' 61 18 = nI x → E (uI (uI I' 61 20 0) 61 13 0) J') (hgd : ∀ cs, aTe b z 1 12 0 0 [] = .inr cs → ∀ I' J' q m nc g r, MFu I I' J J' → MTo b z I' J' q m nc g r cs → E (uI (uI I' 61 20 0) 61 13 0) J') : F12_beginText n S I J (nI 1) (fun I1 J2 => F12_readOrder n S I1 J2 (fun I3 J4 => F12_orders_L19 n S k n I3 J4)) := by
  refine sp_begin ht (by omega) (by omega) (fun I1 J1 u1 t1 o1 e1 c1 => ?_)
  have g76 : ∀ i, i < 12 → J1 76 i = w76.getD i 0 := fun i hi => by rw [u1.2.2.1 76 (by decide)]; exact h76 i hi
  have g77 : ∀ i, i < 8 → J1 77 i = w77.getD i 0 := fun i hi => by rw [u1.2.2.1 77 (by decide)]; exact h77 i hi
  have g86 : ∀ i, i < 6 → J1 86 i = w86.getD i 0 := fun i hi => by rw [u1.2.2.1 86 (by decide)]; exact h86 i hi
  have hT1 : MTo b z I1 J1 0 0 0 (fun _ => 0) (fun _ => 0) [] := ⟨e1, c1, by decide, fun j c hj => (by cases hj)⟩
  have eT : aTe b z 1 12 0 0 [] = (match aCl b z 1 0 0 with
    | .inl x => .inl x
    | .inr (q', m', c) => aTl b z 1 1 q' m' ([] ++ [c])) := rfl
  refine sp_morder t1 hn o1 g76 g77 g86 hT1 (fun h => absurd h (by decide)) (fun _ => ⟨fun x hx I' J' b1 => ?_, fun q' m' cl hx I' J' nc' g' r' b1 t2 => ?_⟩)
  · rw [hx] at eT
    obtain ⟨n', rfl⟩ : ∃ g, n = g + 1 := ⟨n - 1, by omega⟩
    show F12_orders_19 (n' + 1) S k (F12_orders_L19 (n' + 1) S k n') I' J'
    unfold F12_orders_19
    exact ⟨fun _ => hE _ _ (end_bad b1.2.1 (hbad x eT I' J' (u1.of b1.1) b1.2.1 b1.2.2)), fun y => absurd y b1.2.1⟩
  · rw [hx] at eT
    exact ordT_L (I0 := I1) (J0 := J1) (res := aTe b z 1 12 0 0 []) t1 hn o1 g76 g77 g86 hE (fun x ex I3 J3 a1 a2 a3 => hbad x ex I3 J3 (u1.of a1) a2 a3) (fun cs ecs I3 J3 q m nc g r a1 a2 => hgd cs ecs I3 J3 q m nc g r (u1.of a1) a2) 11 n 1 q' m' nc' g' r' ([] ++ [cl]) I' J' rfl (by omega) b1 t2 rfl eT.symm
end EX2
