/-! the class reads a text -/
section EU
variable {n : Nat} {S : tSH} {J : tHJ} {b : Nat → Nat} {z ord : Nat} {I0 : tHI} {k : Int32 → tHI → tHJ → Prop}
/-- behind a clause -/
def aTl (b : Nat → Nat) (z ord j q m : Nat) (cs : List aC5) : Nat ⊕ List aC5 := if aS b z q = 59 then aTe b z ord (12 - j) (aE b z q) m cs else if aK b z q = 0 then .inr cs else .inl (aF b z q)
def Fr6 (I I' : tHI) : Prop := ∀ x, x ∉ [40, 41, 42, 43, 44, 45] → I' x = I x
theorem bad_89 {I : tHI} {x : Nat} (h : BYd I0 I x) (hk : ∀ I', BYd I0 I' x → k 0 I' J) : F4_read_89 n S k I J := by
  have e1 : ∀ I' : tHI, CX (I' 40) (I' 41) x → ¬ I' 40 1 = -1 := fun I' c y => by
    rw [c.1] at y
    have := congrArg Int32.toInt y
    have := c.2.1
    rw [qi (by omega), qneg] at *
    omega
  unfold F4_read_89 F4_read_100
  refine ⟨fun y => ?_, fun _ => bad_fail h.2.1 (fun I' d1 d2 => ?_)⟩
  · rw [h.2.1.2.2.1] at y; exact absurd y (by decide)
  · rw [if_neg (e1 I' d2)]
    exact hk I' (h.cf d1 d2)
theorem bad_L47 {I : tHI} {x f : Nat} {v : Int32} (h : BYd I0 I x) (hk : ∀ I', BYd I0 I' x → k 0 I' J) : F4_read_L47 n S k (f + 1) I J v := by
  show F4_read_47 n S k (F4_read_L47 n S k f) I J v
  unfold F4_read_47
  exact ⟨fun _ => bad_89 h hk, fun _ => bad_sign h.2.1.2.2.1 (fun _ => ⟨fun _ => bad_89 h hk, fun y => absurd rfl y⟩)⟩
theorem read_L47 (h2 : sQ S 40 2 = some 38) (h42 : sL S 42 = 400) (h43 : sL S 43 = 12) (h44 : sL S 44 = 12) (h45 : sL S 45 = 37) (hn : 1001 < n) (hz : z ≤ 400) (hord2 : ord ≤ 1) (ht : CTp b z (I0 38) (I0 39)) (hord : I0 40 3 = nI ord) {res : Nat ⊕ List aC5} (hbad : ∀ x, res = .inl x → ∀ I' X, CFt I0 X → BYd X I' x → k 0 I' J) (hgd : ∀ cs, res = .inr cs → ∀ I' q m len, CFt I0 I' → CTS b z (if ord = 0 then 12 else 24) I' q m len cs → k 1 I' J) : ∀ (d f j q m len : Nat) (cs : List aC5) (I : tHI), j + d = 12 → d + 1 < f → CFt I0 I → CTS b z (if ord = 0 then 12 else 24) I q m len cs → cs.length = j → aTl b z ord j q m cs = res → F4_read_L47 n S k f I J (nI j) := by
  intro d
  induction d with
  | zero =>
    intro f j q m len cs I hj hf hI hT hc he
    obtain ⟨f, rfl⟩ : ∃ g, f = g + 2 := ⟨f - 2, by omega⟩
    have hj : j = 12 := by omega
    subst hj
    have htI : CTp b z (I 38) (I 39) := by rw [hI.1 38 (by decide), hI.1 39 (by decide)]; exact ht
    show F4_read_47 n S k (F4_read_L47 n S k (f + 1)) I J (nI 12)
    unfold F4_read_47 F4_read_83
    refine ⟨fun y => absurd y (by decide), fun _ => sp_sign (c := 59) h2 htI hT.1.1 (by decide) (by decide) (fun _ => ?_)⟩
    unfold aTl at he
    by_cases c : aS b z q = 59
    · rw [if_pos c] at he
      rw [if_pos c]
      refine ⟨fun y => absurd y (by decide), fun _ => CG.adv h2 htI hn hT.1 (fun I1 a1 g1 => ?_)⟩
      have hI1 : CFt I0 I1 := hI.cf ((CF.rf I).adv a1)
      refine ⟨fun y => absurd rfl y, fun _ => sp_fail g1 hz (fun I2 d1 d2 => ?_)⟩
      have e41 : I1 41 4 = nI 12 := by rw [a1.1 41 (by decide), hT.2.1, hc]
      exact bad_L47 (I0 := I1) ⟨(CFt.rf I1).cf d1, d2, 12, by omega, by rw [d1.2.2 4 (by decide)]; exact e41⟩ (fun I3 b3 => hbad _ he.symm I3 I1 hI1 b3)
    · rw [if_neg c] at he
      rw [if_neg c]
      refine ⟨fun _ => ?_, fun y => absurd rfl y⟩
      unfold F4_read_89 F4_read_100
      rw [hT.1.1.2.2.1]
      have kr := aK_r (b := b) (z := z) q
      have e0 : nI (aK b z q) = 0 ↔ aK b z q = 0 := qeq (b := 0) (by omega) (by omega)
      refine ⟨fun y => ?_, fun y => ?_⟩
      · rw [if_pos (e0.mp y)] at he
        rw [if_pos hT.1.2.1]
        exact hgd cs he.symm I q m len hI hT
      · rw [if_neg (fun g => y (e0.mpr g))] at he
        refine sp_fail hT.1 hz (fun I2 d1 d2 => ?_)
        have hb : BYd I I2 (aF b z q) := ⟨(CFt.rf I).cf d1, d2, 12, by omega, by rw [d1.2.2 4 (by decide), hT.2.1, hc]⟩
        have e1 : ¬ I2 40 1 = -1 := fun y => by
          rw [d2.1] at y
          have h1 := congrArg Int32.toInt y
          have h2 := d2.2.1
          rw [qi (by omega), qneg] at h1
          omega
        rw [if_neg e1]
        exact hbad _ he.symm I2 I hI hb
  | succ d ih =>
    intro f j q m len cs I hj hf hI hT hc he
    obtain ⟨f, rfl⟩ : ∃ g, f = g + 2 := ⟨f - 2, by omega⟩
    have htI : CTp b z (I 38) (I 39) := by rw [hI.1 38 (by decide), hI.1 39 (by decide)]; exact ht
    show F4_read_47 n S k (F4_read_L47 n S k (f + 1)) I J (nI j)
    unfold F4_read_47 F4_read_83
    refine ⟨fun y => absurd ((qlt (a := 12) (by omega) (by omega)).mp y) (by omega), fun _ => sp_sign (c := 59) h2 htI hT.1.1 (by decide) (by decide) (fun _ => ?_)⟩
    unfold aTl at he
    by_cases c : aS b z q = 59
    · rw [if_pos c] at he
      rw [if_pos c]
      refine ⟨fun y => absurd y (by decide), fun _ => CG.adv h2 htI hn hT.1 (fun I1 a1 g1 => ?_)⟩
      have hI1 : CFt I0 I1 := hI.cf ((CF.rf I).adv a1)
      have hT1 : CTS b z (if ord = 0 then 12 else 24) I1 (aE b z q) m len cs := by
        obtain ⟨t1, t2, t3, t4, t5, t6⟩ := hT
        unfold CTS
        rw [a1.1 42 (by decide), a1.1 43 (by decide), a1.1 44 (by decide), a1.1 45 (by decide), a1.1 41 (by decide)]
        rw [a1.1 41 (by decide)] at g1
        exact ⟨g1, t2, t3, t4, t5, t6⟩
      refine ⟨fun _ => ?_, fun y => absurd ((qeq (b := 12) (by omega) (by omega)).mp y) (by omega)⟩
      have e1 : aTe b z ord (12 - j) (aE b z q) m cs = (match aCl b z ord (aE b z q) m with
        | .inl x => .inl x
        | .inr (q', m', c) => aTl b z ord (j + 1) q' m' (cs ++ [c])) := by
        rw [show 12 - j = (12 - (j + 1)) + 1 by omega]
        rfl
      rw [e1] at he
      refine sp_clause h2 h42 h43 h44 h45 hn hz hord2 (by rw [hI1.1 38 (by decide), hI1.1 39 (by decide)]; exact ht) (by rw [hI1.2]; exact hord) (by omega) hT1 ⟨fun x hx I' hb => ?_, fun q' m' cl hx I' len' f1 t1 => ?_⟩
      · rw [hx] at he
        exact bad_L47 hb (fun I3 b3 => hbad x he.symm I3 I1 hI1 b3)
      · rw [hx] at he
        rw [nI_1]
        exact ih (f + 1) (j + 1) q' m' len' (cs ++ [cl]) I' (by omega) (by omega) (hI1.trans f1) t1 (by rw [List.length_append]; show cs.length + 1 = j + 1; omega) he
    · rw [if_neg c] at he
      rw [if_neg c]
      refine ⟨fun _ => ?_, fun y => absurd rfl y⟩
      unfold F4_read_89 F4_read_100
      rw [hT.1.1.2.2.1]
      have kr := aK_r (b := b) (z := z) q
      have e0 : nI (aK b z q) = 0 ↔ aK b z q = 0 := qeq (b := 0) (by omega) (by omega)
      refine ⟨fun y => ?_, fun y => ?_⟩
      · rw [if_pos (e0.mp y)] at he
        rw [if_pos hT.1.2.1]
        exact hgd cs he.symm I q m len hI hT
      · rw [if_neg (fun g => y (e0.mpr g))] at he
        refine sp_fail hT.1 hz (fun I2 d1 d2 => ?_)
        have hb : BYd I I2 (aF b z q) := ⟨(CFt.rf I).cf d1, d2, j, by omega, by rw [d1.2.2 4 (by decide), hT.2.1, hc]⟩
        have e1 : ¬ I2 40 1 = -1 := fun y => by
          rw [d2.1] at y
          have h1 := congrArg Int32.toInt y
          have h2 := d2.2.1
          rw [qi (by omega), qneg] at h1
          omega
        rw [if_neg e1]
        exact hbad _ he.symm I2 I hI hb
/-- a whole text -/
theorem sp_read {I : tHI} (h42 : sL S 42 = 400) (h43 : sL S 43 = 12) (h44 : sL S 44 = 12) (h45 : sL S 45 = 37) (hn : 1001 < n) (hord2 : ord ≤ 1) (ht : CTp b z (I 38) (I 39)) (hbad : ∀ x, aTe b z ord 12 0 0 [] = .inl x → ∀ I', Fr6 I I' → I' 40 1 = nI x → x ≤ 400 → k 0 I' J) (hgd : ∀ cs, aTe b z ord 12 0 0 [] = .inr cs → ∀ I' q m len, Fr6 I I' → CTS b z (if ord = 0 then 12 else 24) I' q m len cs → k 1 I' J) : F4_read n S I J 38 (nI ord) k := by
  have hz := ht.1
  have h2 : sQ (uQ S 40 2 (some 38)) 40 2 = some 38 := by simp [uQ, sQ]
  unfold F4_read F4_read_5 F6_restart
  have hbz : bz (nI ord) := by
    rcases (show ord = 0 ∨ ord = 1 by omega) with e | e <;> subst e
    · exact Or.inl rfl
    · exact Or.inr rfl
  refine ⟨hbz, ?_⟩
  have x40 : ∀ y, (uI (uI (uI (uI (uI (uI (uI I 40 3 (nI ord)) 40 1 (-1)) 40 6 0) 40 4 0) 40 8 0) 41 4 0) 41 5 0) 40 y = up (up (up (up (up (I 40) 3 (nI ord)) 1 (-1)) 6 0) 4 0) 8 0 y := fun y => by
    rw [uIn (by decide), uIn (by decide), uIe, uIe, uIe, uIe, uIe]
  have x41 : ∀ y, (uI (uI (uI (uI (uI (uI (uI I 40 3 (nI ord)) 40 1 (-1)) 40 6 0) 40 4 0) 40 8 0) 41 4 0) 41 5 0) 41 y = up (up (I 41) 4 0) 5 0 y := fun y => by
    rw [uIe, uIe, uIn (by decide), uIn (by decide), uIn (by decide), uIn (by decide), uIn (by decide)]
  have fr : Fr6 I (uI (uI (uI (uI (uI (uI (uI I 40 3 (nI ord)) 40 1 (-1)) 40 6 0) 40 4 0) 40 8 0) 41 4 0) 41 5 0) := by
    intro x hx
    have n0 : x ≠ 40 := fun e => hx (by rw [e]; decide)
    have n1 : x ≠ 41 := fun e => hx (by rw [e]; decide)
    rw [uIn n1, uIn n1, uIn n0, uIn n0, uIn n0, uIn n0, uIn n0]
  generalize (uI (uI (uI (uI (uI (uI (uI I 40 3 (nI ord)) 40 1 (-1)) 40 6 0) 40 4 0) 40 8 0) 41 4 0) 41 5 0) = X at x40 x41 fr ⊢
  have htX : CTp b z (X 38) (X 39) := by rw [fr 38 (by decide), fr 39 (by decide)]; exact ht
  refine sp_adv h2 htX (by omega) (Nat.zero_le _) (by rw [x40, upn (by decide), upe]; rfl) (by rw [x40, upn (by decide), upn (by decide), upe]; decide) (fun I1 a1 ct => ?_)
  have hord : I1 40 3 = nI ord := by rw [a1.2 3 (by decide), x40, upn (by decide), upn (by decide), upn (by decide), upn (by decide), upe]
  have fr1 : Fr6 I I1 := fun x hx => by rw [a1.1 x (fun e => hx (by rw [e]; decide))]; exact fr x hx
  have ht1 : CTp b z (I1 38) (I1 39) := by rw [fr1 38 (by decide), fr1 39 (by decide)]; exact ht
  have hT1 : CTS b z (if ord = 0 then 12 else 24) I1 0 0 0 [] := by
    refine ⟨⟨ct, ?_, ?_, by omega, ?_, by omega, by omega⟩, ?_, by decide, fun i hi => by omega, fun j c hj => (by cases hj), fun h => absurd rfl h⟩
    · rw [a1.2 1 (by decide), x40, upn (by decide), upn (by decide), upn (by decide), upe]
    · rw [a1.2 8 (by decide), x40, upe]; rfl
    · rw [a1.1 41 (by decide), x41, upe]; rfl
    · rw [a1.1 41 (by decide), x41, upn (by decide), upe]; rfl
  have e1 : aTe b z ord 12 0 0 [] = (match aCl b z ord 0 0 with
    | .inl x => .inl x
    | .inr (q', m', c) => aTl b z ord 1 q' m' ([] ++ [c])) := rfl
  have fr2 : ∀ I', CFt I1 I' → Fr6 I I' := fun I' h x hx => (h.1 x hx).trans (fr1 x hx)
  refine sp_clause h2 h42 h43 h44 h45 hn hz hord2 ht1 hord (by decide) hT1 ⟨fun x hx I' hb => ?_, fun q' m' cl hx I' len' f1 t1 => ?_⟩
  · rw [hx] at e1
    obtain ⟨n', rfl⟩ : ∃ g, n = g + 1 := ⟨n - 1, by omega⟩
    exact bad_L47 hb (fun I3 b3 => hbad x e1 I3 (fr2 I3 b3.1) b3.2.1.1 b3.2.1.2.1)
  · rw [hx] at e1
    refine read_L47 (I0 := I1) (res := aTe b z ord 12 0 0 []) h2 h42 h43 h44 h45 hn hz hord2 ht1 hord (fun x ex I3 X c1 b3 => hbad x ex I3 (fr2 I3 (c1.trans b3.1)) b3.2.1.1 b3.2.1.2.1) (fun cs ecs I3 q m len c1 t3 => hgd cs ecs I3 q m len (fr2 I3 c1) t3) 11 n 1 q' m' len' ([] ++ [cl]) I' rfl (by omega) f1 t1 rfl e1.symm
end EU
