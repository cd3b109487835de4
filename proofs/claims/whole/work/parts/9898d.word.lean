/-! words: the class compares letters, the model numbers to the base 32 -/
def fT (b : Nat → Nat) : Nat → Nat → List Nat
  | _, 0 => []
  | p, l + 1 => b p :: fT b (p + 1) l
def rT (b : Nat → Nat) (s : Nat) : Nat → List Nat
  | 0 => []
  | l + 1 => b (s + l) :: rT b s l
theorem fT_r (b : Nat → Nat) : ∀ (l s : Nat), fT b s l = (rT b s l).reverse := by
  have key : ∀ (l s : Nat), fT b s (l + 1) = fT b s l ++ [b (s + l)] := by
    intro l
    induction l with
    | zero => intro s; rfl
    | succ l ih =>
      intro s
      show b s :: fT b (s + 1) (l + 1) = (b s :: fT b (s + 1) l) ++ [b (s + (l + 1))]
      rw [ih (s + 1), show s + 1 + l = s + (l + 1) by omega]
      rfl
  intro l
  induction l with
  | zero => intro s; rfl
  | succ l ih =>
    intro s
    rw [key, ih]
    show _ = (b (s + l) :: rT b s l).reverse
    rw [List.reverse_cons]
def hR : List Nat → Nat
  | [] => 0
  | c :: t => hR t * 32 + (c - 96)
theorem wrd_h (b : Nat → Nat) (s : Nat) : ∀ l, wrd b 32 96 s l = hR (rT b s l) := by
  intro l
  induction l with
  | zero => rfl
  | succ l ih =>
    show wrd b 32 96 s l * 32 + (b (s + l) - 96) = hR (rT b s l) * 32 + (b (s + l) - 96)
    rw [ih]
def ltr (w : List Nat) : Prop := ∀ c, c ∈ w → 97 ≤ c ∧ c ≤ 122
theorem hR_i : ∀ (t u : List Nat), ltr t → ltr u → hR t = hR u → t = u := by
  intro t
  induction t with
  | nil =>
    intro u _ hu h
    cases u with
    | nil => rfl
    | cons d u =>
      have := hu d (List.mem_cons_self ..)
      have h : 0 = hR u * 32 + (d - 96) := h
      omega
  | cons c t ih =>
    intro u ht hu h
    have hc := ht c (List.mem_cons_self ..)
    cases u with
    | nil =>
      have h : hR t * 32 + (c - 96) = 0 := h
      omega
    | cons d u =>
      have hd := hu d (List.mem_cons_self ..)
      have h : hR t * 32 + (c - 96) = hR u * 32 + (d - 96) := h
      have e1 : c = d := by omega
      have e2 : hR t = hR u := by omega
      rw [e1, ih u (fun x hx => ht x (List.mem_cons_of_mem _ hx)) (fun x hx => hu x (List.mem_cons_of_mem _ hx)) e2]
theorem hR_b : ∀ (t : List Nat), ltr t → hR t < 32 ^ t.length := by
  intro t
  induction t with
  | nil => intro _; decide
  | cons c t ih =>
    intro ht
    have hc := ht c (List.mem_cons_self ..)
    have h2 := ih (fun x hx => ht x (List.mem_cons_of_mem _ hx))
    show hR t * 32 + (c - 96) < 32 ^ (t.length + 1)
    rw [Nat.pow_succ]
    omega
theorem rT_len (b : Nat → Nat) (s : Nat) : ∀ l, (rT b s l).length = l := by
  intro l
  induction l with
  | zero => rfl
  | succ l ih => show (rT b s l).length + 1 = l + 1; rw [ih]
theorem rT_m (b : Nat → Nat) (s : Nat) : ∀ l c, c ∈ rT b s l → ∃ j, s ≤ j ∧ j < s + l ∧ c = b j := by
  intro l
  induction l with
  | zero => intro c hc; cases hc
  | succ l ih =>
    intro c hc
    rcases List.mem_cons.mp hc with e | e
    · exact ⟨s + l, by omega, by omega, e⟩
    · obtain ⟨j, h1, h2, h3⟩ := ih c e
      exact ⟨j, h1, by omega, h3⟩
/-- the token's letters -/
def aTx (b : Nat → Nat) (z q : Nat) : List Nat := fT b (aF b z q) (aE b z q - aF b z q)
/-- the sign, 0 if it is none -/
def aS (b : Nat → Nat) (z q : Nat) : Nat := if aK b z q = 3 then b (aF b z q) else 0
def WL (i : Nat) : List (List Nat) := match i with
  | 0 => [[97, 116]]
  | 1 => [[98, 121]]
  | 2 => [[116, 105, 109, 101, 115]]
  | 3 => [[105, 102]]
  | 4 => [[111, 114]]
  | 5 => [[97, 110, 100]]
  | 6 => [[110, 111, 116]]
  | 7 => [[112, 97, 99, 101], [110, 101, 120, 116], [115, 105, 100, 101], [100, 111, 110, 101], [101, 110, 100, 101, 100], [104, 101, 100, 103, 101, 115], [116, 117, 114, 110], [115, 112, 111, 116]]
  | 8 => [[116, 117, 114, 110], [108, 111, 110, 103], [99, 97, 109, 98, 101, 114], [99, 104, 97, 105, 114], [114, 101, 115, 116], [108, 101, 97, 110], [98, 97, 114, 115], [115, 107, 105, 108, 108], [119, 101, 105, 103, 104, 116], [115, 112, 111, 116], [97, 108, 105, 118, 101], [109, 111, 111, 100]]
  | 9 => [[103, 97, 115], [98, 114, 97, 107, 101], [108, 97, 110, 101], [112, 117, 116], [108, 101, 97, 110], [114, 105, 100, 101]]
  | 10 => [[104, 111, 108, 100, 115], [103, 114, 105, 112, 115], [102, 101, 97, 114, 115], [112, 117, 108, 108, 115], [108, 101, 97, 114, 110, 115], [98, 97, 110, 115]]
  | _ => []
def ixW (t : List Nat) : List (List Nat) → Nat → Option Nat
  | [], _ => none
  | w :: ws, i => if t = w then some i else ixW t ws (i + 1)
def chs (ws : List (List Nat)) : List Nat := ws.flatMap (fun w => w ++ [32])
/-- the class's way over a list of words: what is left of the token, none if it differs -/
def wS (t : List Nat) : List Nat → Nat → Option (List Nat) → Option Nat
  | [], _, _ => none
  | c :: cs, i, r => if c = 32 then (if r = some [] then some i else wS t cs (i + 1) (some t)) else (match r with
    | some (x :: r') => if x = c then wS t cs i (some r') else wS t cs i none
    | _ => wS t cs i none)
theorem wS_w (t : List Nat) (cs : List Nat) : ∀ (w : List Nat) (i : Nat), 32 ∉ w → (∀ r, wS t (w ++ 32 :: cs) i (some r) = if r = w then some i else wS t cs (i + 1) (some t)) ∧ wS t (w ++ 32 :: cs) i none = wS t cs (i + 1) (some t) := by
  intro w
  induction w with
  | nil =>
    intro i _
    refine ⟨fun r => ?_, ?_⟩
    · show (if 32 = 32 then (if some r = some [] then some i else wS t cs (i + 1) (some t)) else _) = _
      rw [if_pos rfl]
      by_cases g : r = []
      · rw [g, if_pos rfl, if_pos rfl]
      · rw [if_neg (fun y => g (Option.some.inj y)), if_neg g]
    · show (if 32 = 32 then (if (none : Option (List Nat)) = some [] then some i else wS t cs (i + 1) (some t)) else _) = _
      rw [if_pos rfl, if_neg (fun y => by cases y)]
  | cons c w ih =>
    intro i hw
    have h32 : ¬ c = 32 := fun y => hw (by rw [y]; exact List.mem_cons_self ..)
    obtain ⟨h1, h2⟩ := ih i (fun y => hw (List.mem_cons_of_mem _ y))
    refine ⟨fun r => ?_, ?_⟩
    · cases r with
      | nil =>
        show (if c = 32 then _ else wS t (w ++ 32 :: cs) i none) = _
        rw [if_neg h32, h2, if_neg (fun y => by cases y)]
      | cons x r =>
        show (if c = 32 then _ else (if x = c then wS t (w ++ 32 :: cs) i (some r) else wS t (w ++ 32 :: cs) i none)) = _
        rw [if_neg h32]
        by_cases g : x = c
        · rw [if_pos g, h1 r, g]
          by_cases g2 : r = w
          · rw [if_pos g2, if_pos (by rw [g2])]
          · rw [if_neg g2, if_neg (fun y => g2 (List.cons.inj y).2)]
        · rw [if_neg g, h2, if_neg (fun y => g (List.cons.inj y).1)]
    · show (if c = 32 then _ else wS t (w ++ 32 :: cs) i none) = _
      rw [if_neg h32, h2]
theorem wS_l (t : List Nat) : ∀ (ws : List (List Nat)) (i : Nat), (∀ w, w ∈ ws → 32 ∉ w) → wS t (chs ws) i (some t) = ixW t ws i := by
  intro ws
  induction ws with
  | nil => intro i _; rfl
  | cons w ws ih =>
    intro i h
    have e : chs (w :: ws) = w ++ 32 :: chs ws := by
      unfold chs
      rw [List.flatMap_cons, List.append_assoc]
      rfl
    rw [e, (wS_w t (chs ws) w i (h w (List.mem_cons_self ..))).1 t]
    show _ = if t = w then some i else ixW t ws (i + 1)
    rw [ih (i + 1) (fun x hx => h x (List.mem_cons_of_mem _ hx))]
theorem WL_32 : ∀ i, i < 11 → ∀ w, w ∈ WL i → 32 ∉ w := by decide +kernel
theorem WL_len : ∀ i, i < 11 → tSlen.getD i 0 = (chs (WL i)).length := by decide +kernel
theorem WL_ch : ∀ i, i < 11 → ∀ j, j < tSlen.getD i 0 → tSch i (nI j) = nI ((chs (WL i)).getD j 0) ∧ (chs (WL i)).getD j 0 < 256 := by decide +kernel
def wV (o : Option Nat) : Int32 := match o with
  | none => -1
  | some i => nI i
section WRD
variable {n : Nat} {S : tSH} {I : tHI} {J : tHJ} {k : Int32 → tHI → tHJ → Prop} {b : Nat → Nat} {z q : Nat}
theorem word_L (h2 : sQ S 40 2 = some 38) (ht : CTp b z (I 38) (I 39)) (h4 : I 40 4 = nI (aE b z q)) (h5 : I 40 5 = nI (aF b z q)) (hq : aE b z q ≤ z) (hfe : aF b z q ≤ aE b z q) {i1 : Nat} (hi : i1 < 11) : ∀ (d f j idx : Nat) (v3 v4 : Int32) (r : Option (List Nat)), j + d = tSlen.getD i1 0 → d < f → idx ≤ j → ((r = none ∧ v4 = 0) ∨ (v4 = 1 ∧ ∃ p, p ≤ aE b z q ∧ v3 = nI p ∧ r = some (fT b p (aE b z q - p)))) → k (wV (wS (aTx b z q) ((chs (WL i1)).drop j) idx r)) I J → F4_wordIn_L30 n S k f I J i1 (nI idx) v3 v4 (nI j) := by
  have hz := ht.1
  have hl : ∀ i, i < 11 → tSlen.getD i 0 < 1000 := by decide +kernel
  have hl := hl i1 hi
  intro d
  induction d with
  | zero =>
    intro f j idx v3 v4 r hj hf hx hr hk
    obtain ⟨f, rfl⟩ : ∃ g, f = g + 1 := ⟨f - 1, by omega⟩
    show F4_wordIn_30 n S k (F4_wordIn_L30 n S k f) I J i1 (nI idx) v3 v4 (nI j)
    unfold F4_wordIn_30
    rw [List.drop_eq_nil_of_le (by rw [← WL_len i1 hi]; omega)] at hk
    exact ⟨fun _ => hk, fun g => absurd ((qle (by omega) (by omega)).mpr (by omega)) g⟩
  | succ d ih =>
    intro f j idx v3 v4 r hj hf hx hr hk
    obtain ⟨f, rfl⟩ : ∃ g, f = g + 1 := ⟨f - 1, by omega⟩
    obtain ⟨c1, c2⟩ := WL_ch i1 hi j (by omega)
    have hd : (chs (WL i1)).drop j = (chs (WL i1)).getD j 0 :: (chs (WL i1)).drop (j + 1) := by
      have hlt : j < (chs (WL i1)).length := by rw [← WL_len i1 hi]; omega
      rw [List.drop_eq_getElem_cons hlt, List.getD_eq_getElem?_getD, List.getElem?_eq_getElem hlt]; rfl
    rw [hd] at hk
    generalize (chs (WL i1)).getD j 0 = c at hk c1 c2
    show F4_wordIn_30 n S k (F4_wordIn_L30 n S k f) I J i1 (nI idx) v3 v4 (nI j)
    unfold F4_wordIn_30 F4_wordIn_108 F4_wordIn_84 F4_wordIn_85 F4_wordIn_119
    rw [c1, h4, h5, nI_1, nI_1]
    have e32 : nI c = 32 ↔ c = 32 := qeq (b := 32) (by omega) (by omega)
    refine ⟨fun g => absurd ((qle (by omega) (by omega)).mp g) (by omega), fun _ => ⟨(qin (by omega)).mpr (by omega), fun g => ?_, fun g => ?_⟩⟩
    · have g := e32.mp g
      unfold wS at hk
      rw [if_pos g] at hk
      have nxt : ¬ r = some [] → F4_wordIn_L30 n S k f I J i1 (nI (idx + 1)) (nI (aF b z q)) 1 (nI (j + 1)) := by
        intro c
        rw [if_neg c] at hk
        exact ih f (j + 1) (idx + 1) _ _ (some (aTx b z q)) (by omega) (by omega) (by omega) (Or.inr ⟨rfl, aF b z q, hfe, rfl, rfl⟩) hk
      rcases hr with ⟨r1, r2⟩ | ⟨r1, p, r2, r3, r4⟩
      · refine ⟨fun _ => nxt (fun y => by rw [r1] at y; cases y), fun y => absurd r2 y⟩
      · refine ⟨fun y => by rw [r1] at y; exact absurd y (by decide), fun _ => ⟨fun y => nxt (fun e => y ?_), fun y => ?_⟩⟩
        · rw [r4] at e
          have e := Option.some.inj e
          have : aE b z q - p = 0 := by
            cases h : aE b z q - p with
            | zero => rfl
            | succ m => rw [h] at e; cases e
          rw [r3]; congr 1; omega
        · rw [r3] at y
          have y : p = aE b z q := (qeq (by omega) (by omega)).mp y
          rw [if_pos (by rw [r4, y, Nat.sub_self]; rfl)] at hk
          exact hk
    · have g : ¬ c = 32 := fun y => g (e32.mpr y)
      unfold wS at hk
      rw [if_neg g] at hk
      rcases hr with ⟨r1, r2⟩ | ⟨r1, p, r2, r3, r4⟩
      · rw [r1] at hk
        exact ⟨fun _ => ih f (j + 1) idx _ _ none (by omega) (by omega) (by omega) (Or.inl ⟨rfl, rfl⟩) hk, fun y => absurd r2 y⟩
      · refine ⟨fun y => by rw [r1] at y; exact absurd y (by decide), fun _ => ⟨fun y => ?_, fun y => ⟨38, h2, ?_⟩⟩⟩
        · rw [r3] at y
          have y : aE b z q ≤ p := (qle (by omega) (by omega)).mp y
          rw [r4, show aE b z q - p = 0 by omega] at hk
          exact ih f (j + 1) idx _ _ none (by omega) (by omega) (by omega) (Or.inl ⟨rfl, rfl⟩) hk
        · rw [r3] at y
          have y : ¬ aE b z q ≤ p := fun h => y ((qle (by omega) (by omega)).mpr h)
          obtain ⟨v1, v2⟩ := ht.at (S := S) (J := J) (i := p) (by omega)
          have hb := (ht.2.2 p (by omega)).2
          rw [r3]
          refine ⟨v2, ?_⟩
          rw [v1, nI_1]
          rw [r4, show aE b z q - p = (aE b z q - (p + 1)) + 1 by omega] at hk
          have hk : k (wV (if b p = c then wS (aTx b z q) ((chs (WL i1)).drop (j + 1)) idx (some (fT b (p + 1) (aE b z q - (p + 1)))) else wS (aTx b z q) ((chs (WL i1)).drop (j + 1)) idx none)) I J := hk
          by_cases e : b p = c
          · rw [if_pos e] at hk
            rw [if_pos (by rw [e])]
            exact ih f (j + 1) idx _ _ _ (by omega) (by omega) (by omega) (Or.inr ⟨rfl, p + 1, by omega, rfl, rfl⟩) hk
          · rw [if_neg e] at hk
            rw [if_neg (fun y => e ((qeq (by omega) (by omega)).mp y))]
            exact ih f (j + 1) idx _ _ _ (by omega) (by omega) (by omega) (Or.inl ⟨rfl, rfl⟩) hk
/-- which word of a list the token is, none if it is no word at all -/
def aX (b : Nat → Nat) (z q i : Nat) : Option Nat := if aK b z q = 1 then ixW (aTx b z q) (WL i) 0 else none
theorem sp_word (h2 : sQ S 40 2 = some 38) (ht : CTp b z (I 38) (I 39)) (hc : CT b z (I 40) q) (hq : q ≤ z) (hn : 1001 < n) {i1 : Nat} (hi : i1 < 11) (hk : k (wV (aX b z q i1)) I J) : F4_wordIn n S I J i1 k := by
  have hz := ht.1
  have hl : ∀ i, i < 11 → tSlen.getD i 0 < 1000 := by decide +kernel
  have hl := hl i1 hi
  have kr := aK_r (b := b) (z := z) q
  have e1 : nI (aK b z q) = 1 ↔ aK b z q = 1 := qeq (b := 1) (by omega) (by omega)
  obtain ⟨fe, ez⟩ := aE_le (b := b) hq
  unfold F4_wordIn F4_wordIn_15
  unfold aX at hk
  rw [hc.2.2.1, hc.2.1]
  refine ⟨fun g => ?_, fun g => ⟨fun y => (by rw [h2] at y; cases y), fun a _ => ?_⟩⟩
  · rw [if_neg (fun y => g (e1.mpr y))] at hk; exact hk
  · rw [if_pos (e1.mp g)] at hk
    refine word_L h2 ht hc.1 hc.2.1 ez fe hi (tSlen.getD i1 0) n 0 0 _ _ (some (aTx b z q)) (by omega) (by omega) (Nat.le_refl _) (Or.inr ⟨rfl, aF b z q, fe, rfl, rfl⟩) ?_
    show k (wV (wS (aTx b z q) (chs (WL i1)) 0 (some (aTx b z q)))) I J
    rw [wS_l _ _ _ (WL_32 i1 hi)]
    exact hk
theorem sp_sign (h2 : sQ S 40 2 = some 38) (ht : CTp b z (I 38) (I 39)) (hc : CT b z (I 40) q) {c : Nat} (h0 : 0 < c) (h1 : c < 256) (hk : k (if aS b z q = c then 1 else 0) I J) : F4_isSign n S I J (nI c) k := by
  have hz := ht.1
  have kr := aK_r (b := b) (z := z) q
  have e3 : nI (aK b z q) = 3 ↔ aK b z q = 3 := qeq (b := 3) (by omega) (by omega)
  unfold F4_isSign F4_isSign_34 F4_isSign_35
  rw [hc.2.2.1, hc.2.1]
  unfold aS at hk
  refine ⟨fun g => ⟨Or.inl rfl, ?_⟩, fun g => ⟨fun y => (by rw [h2] at y; cases y), fun a ha => ?_⟩⟩
  · rw [if_neg (fun y => g (e3.mpr y)), if_neg (by omega)] at hk; exact hk
  · rw [h2] at ha
    cases ha
    have g := e3.mp g
    have hlt : aF b z q < z := (aE_gt (by omega)).2.2
    obtain ⟨v1, v2⟩ := ht.at (S := S) (J := J) hlt
    have hb := (ht.2.2 _ hlt).2
    refine ⟨v2, ?_⟩
    rw [v1]
    rw [if_pos g] at hk
    by_cases e : b (aF b z q) = c
    · rw [if_pos e] at hk; rw [if_pos (by rw [e])]; exact hk
    · rw [if_neg e] at hk; rw [if_neg (fun y => e ((qeq (by omega) (by omega)).mp y))]; exact hk
end WRD
