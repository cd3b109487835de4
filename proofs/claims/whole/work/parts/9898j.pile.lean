/-! the model's pile: what waits on it, and how it is settled -/
def upN (f : Nat → Nat) (k v : Nat) : Nat → Nat := fun i => if i = k then v else f i
theorem upNe {f : Nat → Nat} {k v : Nat} : upN f k v k = v := by simp [upN]
theorem upNn {f : Nat → Nat} {k v i : Nat} (h : i ≠ k) : upN f k v i = f i := by simp [upN, h]
def bnd (o : Nat) : Nat := if 31 ≤ o then 0 else if o = 30 then 1 else if o = 29 then 2 else if o = 28 then 3 else if 25 ≤ o then 4 else if 22 ≤ o then 6 else 5
theorem bnd_v {o : Nat} (h : o < 100) : V12_binds (nI o) = nI (bnd o) := by
  have key : ∀ o, o < 100 → V12_binds (nI o) = nI (bnd o) := by decide +kernel
  exact key o h
theorem bnd_le (o : Nat) : bnd o ≤ 6 := by
  unfold bnd
  split
  · omega
  split
  · omega
  split
  · omega
  split
  · omega
  split
  · omega
  split <;> omega
def PL (f74 f75 : Nat → Int32) : List (Nat × Nat) → Prop
  | [] => True
  | e :: t => f74 t.length = nI e.1 ∧ f75 t.length = nI e.2 ∧ e.1 ≤ 32 ∧ 20 ≤ e.1 ∧ e.2 < 400 ∧ PL f74 f75 t
theorem PL.cg {f74 f75 g74 g75 : Nat → Int32} : ∀ {pl : List (Nat × Nat)}, PL f74 f75 pl → (∀ i, i < pl.length → g74 i = f74 i ∧ g75 i = f75 i) → PL g74 g75 pl := by
  intro pl
  induction pl with
  | nil => intro _ _; trivial
  | cons e t ih =>
    intro h hc
    obtain ⟨h1, h2, h3, h4, h5, h6⟩ := h
    have hl : t.length < (e :: t).length := Nat.lt_succ_self _
    exact ⟨by rw [(hc _ hl).1]; exact h1, by rw [(hc _ hl).2]; exact h2, h3, h4, h5, ih h6 (fun i hi => hc i (Nat.lt_succ_of_lt hi))⟩
theorem PL.sfx {f74 f75 : Nat → Int32} : ∀ {s t : List (Nat × Nat)}, PL f74 f75 (s ++ t) → PL f74 f75 t := by
  intro s
  induction s with
  | nil => intro t h; exact h
  | cons e s ih => intro t h; exact ih h.2.2.2.2.2
def pend : List (Nat × Nat) → Nat
  | [] => 0
  | e :: t => (if e.1 ≤ 28 then 1 else 0) + pend t
theorem pend_app : ∀ (s t : List (Nat × Nat)), pend (s ++ t) = pend s + pend t := by
  intro s
  induction s with
  | nil => intro t; show pend t = 0 + pend t; omega
  | cons e s ih =>
    intro t
    show (if e.1 ≤ 28 then 1 else 0) + pend (s ++ t) = (if e.1 ≤ 28 then 1 else 0) + pend s + pend t
    rw [ih t]; omega
/-- the innermost bracket -/
def innr : List (Nat × Nat) → Option Nat
  | [] => none
  | e :: t => if 31 ≤ e.1 then some e.1 else innr t
/-- a comparison on top, behind sums -/
def cmpd : List (Nat × Nat) → Bool
  | [] => false
  | e :: t => if e.1 ≤ 24 then cmpd t else decide (e.1 ≤ 27)
def sett (l : Nat) : List (Nat × Nat) → (Nat → Nat) → (Nat → Nat) → Nat → List (Nat × Nat) × (Nat → Nat) × (Nat → Nat) × Nat
  | [], g, r, nc => ([], g, r, nc)
  | e :: t, g, r, nc => if bnd e.1 < l then (e :: t, g, r, nc) else if e.1 = 29 ∨ e.1 = 30 then sett l t g (upN r e.2 nc) nc else sett l t (upN g nc e.1) (upN r nc 0) (nc + 1)
/-- the model's code and pile -/
def MPi (I : tHI) (nc : Nat) (pl : List (Nat × Nat)) (g r : Nat → Nat) : Prop := I 61 23 = nI nc ∧ I 61 29 = nI pl.length ∧ PL (I 74) (I 75) pl ∧ pl.length ≤ 400 ∧ nc + pend pl ≤ 400 ∧ ∀ i, i < nc → I 72 i = nI (g i) ∧ I 73 i = nI (r i) ∧ g i < 40 ∧ r i < 100000
/-- what reading by the model leaves alone -/
def MFr (I I' : tHI) (J J' : tHJ) : Prop := (∀ x, x ∉ [61, 72, 73, 74, 75] → I' x = I x) ∧ (∀ y, y ∉ [14, 15, 16, 18, 19, 23, 26, 29, 30] → I' 61 y = I 61 y) ∧ (∀ x, x ≠ 61 → J' x = J x) ∧ ∀ y, y ≠ 17 → J' 61 y = J 61 y
theorem MFr.rf (I : tHI) (J : tHJ) : MFr I I J J := ⟨fun _ _ => rfl, fun _ _ => rfl, fun _ _ => rfl, fun _ _ => rfl⟩
theorem MFr.trans {I X Y : tHI} {J U V : tHJ} (h : MFr I X J U) (g : MFr X Y U V) : MFr I Y J V := ⟨fun x hx => (g.1 x hx).trans (h.1 x hx), fun x hx => (g.2.1 x hx).trans (h.2.1 x hx), fun x hx => (g.2.2.1 x hx).trans (h.2.2.1 x hx), fun x hx => (g.2.2.2 x hx).trans (h.2.2.2 x hx)⟩
theorem MFr.ad {I X Y : tHI} {J U V : tHJ} (h : MFr I X J U) (g : MAd X Y U V) : MFr I Y J V := by
  refine h.trans ⟨fun x hx => g.1 x (fun e => hx (by rw [e]; decide)), fun y hy => g.2.1 y (fun e => hy ?_), g.2.2.1, g.2.2.2⟩
  revert e; revert y
  intro y _ e
  have : y = 14 ∨ y = 15 ∨ y = 16 := by simpa using e
  rcases this with c | c | c <;> rw [c] <;> decide
theorem MFr.w61 {I X : tHI} {J U : tHJ} (h : MFr I X J U) {y : Nat} {v : Int32} (hy : y ∈ [14, 15, 16, 18, 19, 23, 26, 29, 30]) : MFr I (uI X 61 y v) J U := by
  refine ⟨fun x hx => ?_, fun t ht => ?_, h.2.2.1, h.2.2.2⟩
  · have e : x ≠ 61 := fun e => hx (by rw [e]; decide)
    rw [uIn e]; exact h.1 x hx
  · have e : t ≠ y := fun e => ht (by rw [e]; exact hy)
    rw [uIe, upn e]; exact h.2.1 t ht
theorem MFr.wa {I X : tHI} {J U : tHJ} (h : MFr I X J U) {a y : Nat} {v : Int32} (ha : a ∈ [72, 73, 74, 75]) : MFr I (uI X a y v) J U := by
  have e61 : 61 ≠ a := fun e => by rw [← e] at ha; revert ha; decide
  refine ⟨fun x hx => ?_, fun t ht => ?_, h.2.2.1, h.2.2.2⟩
  · have e : x ≠ a := fun e => hx (by rw [e]; exact List.mem_cons_of_mem _ ha)
    rw [uIn e]; exact h.1 x hx
  · rw [uIn e61]; exact h.2.1 t ht
/-- settling writes code, and takes from the pile -/
def MSe (I I' : tHI) : Prop := (∀ x, x ∉ [61, 72, 73] → I' x = I x) ∧ ∀ y, y ∉ [23, 29] → I' 61 y = I 61 y
theorem MSe.rf (I : tHI) : MSe I I := ⟨fun _ _ => rfl, fun _ _ => rfl⟩
theorem MSe.w61 {I X : tHI} (h : MSe I X) {y : Nat} {v : Int32} (hy : y ∈ [23, 29]) : MSe I (uI X 61 y v) := by
  refine ⟨fun x hx => ?_, fun t ht => ?_⟩
  · have e : x ≠ 61 := fun e => hx (by rw [e]; decide)
    rw [uIn e]; exact h.1 x hx
  · have e : t ≠ y := fun e => ht (by rw [e]; exact hy)
    rw [uIe, upn e]; exact h.2 t ht
theorem MSe.wa {I X : tHI} (h : MSe I X) {a y : Nat} {v : Int32} (ha : a ∈ [72, 73]) : MSe I (uI X a y v) := by
  have e61 : 61 ≠ a := fun e => by rw [← e] at ha; revert ha; decide
  refine ⟨fun x hx => ?_, fun t ht => ?_⟩
  · have e : x ≠ a := fun e => hx (by rw [e]; exact List.mem_cons_of_mem _ ha)
    rw [uIn e]; exact h.1 x hx
  · rw [uIn e61]; exact h.2 t ht
theorem MSe.fr {I X : tHI} (h : MSe I X) (J : tHJ) : MFr I X J J := by
  refine ⟨fun x hx => h.1 x (fun e => hx ?_), fun y hy => h.2 y (fun e => hy ?_), fun _ _ => rfl, fun _ _ => rfl⟩
  · have : x = 61 ∨ x = 72 ∨ x = 73 := by simpa using e
    rcases this with c | c | c <;> rw [c] <;> decide
  · have : y = 23 ∨ y = 29 := by simpa using e
    rcases this with c | c <;> rw [c] <;> decide
section PIL
variable {n : Nat} {S : tSH} {J : tHJ}
theorem sp_memit {I : tHI} {k : tHI → tHJ → Prop} {nc o a : Nat} (h : I 61 23 = nI nc) (hc : nc < 400) (hk : k (uI (uI (uI I 72 nc (nI o)) 73 nc (nI a)) 61 23 (nI (nc + 1))) J) : F12_emit n S I J (nI o) (nI a) k := by
  unfold F12_emit
  have e1 : (uI I 72 (I 61 23).toNatClampNeg (nI o)) 61 23 = nI nc := by rw [uIn (by decide)]; exact h
  rw [e1, h, qn (by omega)]
  have e2 : (uI (uI I 72 nc (nI o)) 73 nc (nI a)) 61 23 = nI nc := by rw [uIn (by decide), uIn (by decide)]; exact h
  rw [e2, nI_1]
  exact ⟨(qin (by omega)).mpr hc, (qin (by omega)).mpr hc, hk⟩
theorem sp_mpush {I : tHI} {k : tHI → tHJ → Prop} {p o a : Nat} (h : I 61 29 = nI p) (hc : p < 400) (hk : k (uI (uI (uI I 74 p (nI o)) 75 p (nI a)) 61 29 (nI (p + 1))) J) : F12_push n S I J (nI o) (nI a) k := by
  unfold F12_push
  have e1 : (uI I 74 (I 61 29).toNatClampNeg (nI o)) 61 29 = nI p := by rw [uIn (by decide)]; exact h
  rw [e1, h, qn (by omega)]
  have e2 : (uI (uI I 74 p (nI o)) 75 p (nI a)) 61 29 = nI p := by rw [uIn (by decide), uIn (by decide)]; exact h
  rw [e2, nI_1]
  exact ⟨(qin (by omega)).mpr hc, (qin (by omega)).mpr hc, hk⟩
theorem MPi.push {I : tHI} {nc : Nat} {pl : List (Nat × Nat)} {g r : Nat → Nat} (h : MPi I nc pl g r) {o a : Nat} (ho : 20 ≤ o ∧ o ≤ 32) (ha : a < 400) (hl : pl.length < 400) (hp : nc + pend ((o, a) :: pl) ≤ 400) : MPi (uI (uI (uI I 74 pl.length (nI o)) 75 pl.length (nI a)) 61 29 (nI (pl.length + 1))) nc ((o, a) :: pl) g r := by
  obtain ⟨h1, h2, h3, h4, h5, h6⟩ := h
  refine ⟨?_, ?_, ⟨?_, ?_, ho.2, ho.1, ha, h3.cg (fun i hi => ⟨?_, ?_⟩)⟩, hl, hp, fun i hi => ?_⟩
  · rw [uIe, upn (by decide), uIn (by decide), uIn (by decide)]; exact h1
  · rw [uIe, upe]; rfl
  · rw [uIn (by decide), uIn (by decide), uIe, upe]
  · rw [uIn (by decide), uIe, upe]
  · rw [uIn (by decide), uIn (by decide), uIe, upn (by omega)]
  · rw [uIn (by decide), uIe, upn (by omega), uIn (by decide)]
  · rw [uIn (by decide), uIn (by decide), uIn (by decide), uIn (by decide), uIn (by decide), uIn (by decide)]; exact h6 i hi
theorem MPi.emit {I : tHI} {nc : Nat} {pl : List (Nat × Nat)} {g r : Nat → Nat} (h : MPi I nc pl g r) {o a : Nat} (ho : o < 40) (ha : a < 100000) (hp : nc + 1 + pend pl ≤ 400) : MPi (uI (uI (uI I 72 nc (nI o)) 73 nc (nI a)) 61 23 (nI (nc + 1))) (nc + 1) pl (upN g nc o) (upN r nc a) := by
  obtain ⟨h1, h2, h3, h4, h5, h6⟩ := h
  refine ⟨?_, ?_, h3.cg (fun i hi => ⟨?_, ?_⟩), h4, hp, fun i hi => ?_⟩
  · rw [uIe, upe]
  · rw [uIe, upn (by decide), uIn (by decide), uIn (by decide)]; exact h2
  · rw [uIn (by decide), uIn (by decide), uIn (by decide)]
  · rw [uIn (by decide), uIn (by decide), uIn (by decide)]
  · by_cases c : i = nc
    · subst c
      rw [uIn (by decide), uIn (by decide), uIe, upe, upNe, upNe, uIn (by decide), uIe, upe]
      exact ⟨rfl, rfl, ho, ha⟩
    · rw [uIn (by decide), uIn (by decide), uIe, upn c, upNn c, upNn c, uIn (by decide), uIe, upn c, uIn (by decide)]
      exact h6 i (by omega)
theorem settM_L {I0 : tHI} {k : tHI → tHJ → Prop} {l : Nat} (hl0 : 1 ≤ l) (hl : l ≤ 6) : ∀ (pl : List (Nat × Nat)) (f nc : Nat) (g r : Nat → Nat) (I : tHI), pl.length < f → MSe I0 I → MPi I nc pl g r → (∀ I', MSe I0 I' → MPi I' (sett l pl g r nc).2.2.2 (sett l pl g r nc).1 (sett l pl g r nc).2.1 (sett l pl g r nc).2.2.1 → k I' J) → F12_settle_L0 n S k f I J (nI l) := by
  intro pl
  induction pl with
  | nil =>
    intro f nc g r I hf hM h hk
    obtain ⟨f, rfl⟩ : ∃ g, f = g + 1 := ⟨f - 1, by have : (0 : Nat) < f := hf; omega⟩
    show F12_settle_0 n S k (F12_settle_L0 n S k f) I J (nI l)
    unfold F12_settle_0 F12_settle_101
    rw [h.2.1]
    exact ⟨fun _ => hk I hM h, fun y => absurd (show nI (List.length ([] : List (Nat × Nat))) ≤ 0 by decide) y⟩
  | cons e t ih =>
    intro f nc g r I hf hM h hk
    obtain ⟨f, rfl⟩ : ∃ g, f = g + 1 := ⟨f - 1, by have : (e :: t).length = t.length + 1 := rfl; omega⟩
    have hf : t.length + 1 < f + 1 := hf
    obtain ⟨o, a⟩ := e
    obtain ⟨h1, h2, ⟨p1, p2, p3, p4, p5, p6⟩, h4, h5, h6⟩ := h
    have h2 : I 61 29 = nI (t.length + 1) := h2
    have h4 : t.length + 1 ≤ 400 := h4
    have h5 : nc + ((if o ≤ 28 then 1 else 0) + pend t) ≤ 400 := h5
    have p1 : I 74 t.length = nI o := p1
    have p2 : I 75 t.length = nI a := p2
    have p3 : o ≤ 32 := p3
    have p4 : 20 ≤ o := p4
    have p5 : a < 400 := p5
    have p6 : PL (I 74) (I 75) t := p6
    have hin : vp_in (nI t.length) 400 := (qin (by omega)).mpr (by omega)
    show F12_settle_0 n S k (F12_settle_L0 n S k f) I J (nI l)
    unfold F12_settle_0 F12_settle_101 F12_settle_63
    have e29 : (uI I 61 29 (I 61 29 - 1)) 61 29 = nI t.length := by rw [uIe, upe, h2, qpred (by omega)]; rfl
    have e74 : (uI I 61 29 (I 61 29 - 1)) 74 = I 74 := uIn (by decide)
    have e75 : (uI I 61 29 (I 61 29 - 1)) 75 = I 75 := uIn (by decide)
    have e23 : (uI I 61 29 (I 61 29 - 1)) 61 23 = nI nc := by rw [uIe, upn (by decide)]; exact h1
    rw [e29, e74, e75, e23, h2, show nI (t.length + 1) - 1 = nI t.length by rw [qpred (by omega)]; rfl, qn (by omega), p1, p2, qn (show a < 2147483648 by omega), bnd_v (by omega)]
    have hb := bnd_le o
    have es : sett l ((o, a) :: t) g r nc = (if bnd o < l then ((o, a) :: t, g, r, nc) else if o = 29 ∨ o = 30 then sett l t g (upN r a nc) nc else sett l t (upN g nc o) (upN r nc 0) (nc + 1)) := rfl
    rw [es] at hk
    have hM2 : MSe I0 (uI I 61 29 (nI t.length)) := hM.w61 (by decide)
    have hc : ∀ m : Nat, m < 100 → (nI o = nI m ↔ o = m) := fun m hm => qeq (by omega) (by omega)
    have patch : o = 29 ∨ o = 30 → F12_settle_L0 n S k f (uI (uI I 61 29 (nI t.length)) 73 a (nI nc)) J (nI l) ∨ bnd o < l := by
      intro ho
      by_cases c : bnd o < l
      · exact Or.inr c
      · refine Or.inl ?_
        rw [if_neg c, if_pos ho] at hk
        refine ih f nc g (upN r a nc) _ (by omega) (hM2.wa (by decide)) ⟨?_, ?_, ?_, by omega, ?_, fun i hi => ?_⟩ hk
        · rw [uIn (by decide), uIe, upn (by decide)]; exact h1
        · rw [uIn (by decide), uIe, upe]
        · rw [uIn (by decide), uIn (by decide), uIn (by decide), uIn (by decide)]; exact p6
        · have : ¬ o ≤ 28 := by rcases ho with y | y <;> omega
          rw [if_neg this] at h5; omega
        · obtain ⟨q1, q2, q3, q4⟩ := h6 i hi
          rw [uIn (by decide), uIn (by decide), uIe]
          refine ⟨q1, ?_, q3, ?_⟩
          · by_cases y : i = a
            · subst y; rw [upe, upNe]
            · rw [upn y, upNn y, uIn (by decide)]; exact q2
          · by_cases y : i = a
            · subst y; rw [upNe]; omega
            · rw [upNn y]; exact q4
    refine ⟨fun y => absurd ((qle (b := 0) (by omega) (by omega)).mp y) (by omega), fun _ => ⟨hin, fun y => ?_, fun y => ?_⟩⟩
    · rw [if_pos ((qlt (by omega) (by omega)).mp y)] at hk
      exact hk I hM ⟨h1, h2, ⟨p1, p2, p3, p4, p5, p6⟩, h4, h5, h6⟩
    · have y : ¬ bnd o < l := fun g => y ((qlt (by omega) (by omega)).mpr g)
      refine ⟨hin, fun c => ?_, fun c => ⟨hin, fun c2 => ⟨hin, ?_⟩, fun c2 => ?_⟩⟩
      · exact ⟨hin, (qin (by omega)).mpr (by omega), (patch (Or.inl ((hc 29 (by omega)).mp c))).resolve_right y⟩
      · have no : ¬ (o = 29 ∨ o = 30) := by
          intro g
          rcases g with g | g
          · exact c ((hc 29 (by omega)).mpr g)
          · exact c2 ((hc 30 (by omega)).mpr g)
        rw [if_neg y, if_neg no] at hk
        have o28 : o ≤ 28 := by
          have y2 := y
          unfold bnd at y2
          by_cases g : 31 ≤ o
          · rw [if_pos g] at y2
            omega
          · omega
        rw [if_pos o28] at h5
        refine sp_memit (nc := nc) (a := 0) (by rw [uIe, upn (by decide)]; exact h1) (by omega) ?_
        have hMP : MPi (uI I 61 29 (nI t.length)) nc t g r := by
          refine ⟨?_, ?_, ?_, by omega, by omega, fun i hi => ?_⟩
          · rw [uIe, upn (by decide)]; exact h1
          · rw [uIe, upe]
          · rw [uIn (by decide), uIn (by decide)]; exact p6
          · rw [uIn (by decide), uIn (by decide)]; exact h6 i hi
        exact ih f (nc + 1) _ _ _ (by omega) (((hM2.wa (by decide)).wa (by decide)).w61 (by decide)) (hMP.emit (by omega) (by omega) (by omega)) hk
      · exact ⟨hin, (qin (by omega)).mpr (by omega), (patch (Or.inr ((hc 30 (by omega)).mp c2))).resolve_right y⟩
theorem sp_msett {I : tHI} {k : tHI → tHJ → Prop} {l : Nat} (hl0 : 1 ≤ l) (hl : l ≤ 6) (hn : 1001 < n) {pl : List (Nat × Nat)} {nc : Nat} {g r : Nat → Nat} (h : MPi I nc pl g r) (hk : ∀ I', MSe I I' → MPi I' (sett l pl g r nc).2.2.2 (sett l pl g r nc).1 (sett l pl g r nc).2.1 (sett l pl g r nc).2.2.1 → k I' J) : F12_settle n S I J (nI l) k := by
  unfold F12_settle
  have := h.2.2.2.1
  exact settM_L hl0 hl pl n nc g r I (by omega) (MSe.rf I) h hk
theorem lst_snoc : ∀ (l : List (Nat × Nat)), l = [] ∨ ∃ s x, l = s ++ [x] := by
  intro l
  induction l with
  | nil => exact Or.inl rfl
  | cons e t ih =>
    rcases ih with h | ⟨s, x, h⟩
    · exact Or.inr ⟨[], e, by rw [h]; rfl⟩
    · exact Or.inr ⟨e :: s, x, by rw [h]; rfl⟩
def iV (o : Option Nat) : Int32 := match o with
  | none => -1
  | some i => nI i
theorem innr_b : ∀ (pl : List (Nat × Nat)), (∀ e, e ∈ pl → e.1 ≤ 32) → ∀ o, innr pl = some o → o = 31 ∨ o = 32 := by
  intro pl
  induction pl with
  | nil => intro _ o h; cases h
  | cons e t ih =>
    intro hb o h
    have h : (if 31 ≤ e.1 then some e.1 else innr t) = some o := h
    by_cases g : 31 ≤ e.1
    · rw [if_pos g] at h
      have := hb e (List.mem_cons_self ..)
      have h := Option.some.inj h
      omega
    · rw [if_neg g] at h
      exact ih (fun x hx => hb x (List.mem_cons_of_mem _ hx)) o h
theorem PL.b {f74 f75 : Nat → Int32} : ∀ {pl : List (Nat × Nat)}, PL f74 f75 pl → ∀ e, e ∈ pl → e.1 ≤ 32 := by
  intro pl
  induction pl with
  | nil => intro _ e h; cases h
  | cons e t ih =>
    intro h x hx
    rcases List.mem_cons.mp hx with c | c
    · rw [c]; exact h.2.2.1
    · exact ih h.2.2.2.2.2 x c
theorem inner_L {I : tHI} {k : Int32 → tHI → tHJ → Prop} {pl : List (Nat × Nat)} (h29 : I 61 29 = nI pl.length) (hP : PL (I 74) (I 75) pl) (hl : pl.length ≤ 400) (hk : k (iV (innr pl)) I J) : ∀ (d f : Nat) (s t : List (Nat × Nat)), s.length = d → d < f → pl = s ++ t → F12_inner_L4 n S k f I J (iV (innr t)) (nI t.length) := by
  intro d
  induction d with
  | zero =>
    intro f s t hs hf e
    obtain ⟨f, rfl⟩ : ∃ g, f = g + 1 := ⟨f - 1, by omega⟩
    have hs : s = [] := List.eq_nil_of_length_eq_zero hs
    subst hs
    have e : pl = t := e
    subst e
    show F12_inner_4 n S k (F12_inner_L4 n S k f) I J _ _
    unfold F12_inner_4
    rw [h29]
    exact ⟨fun _ => hk, fun y => absurd ((qle (by omega) (by omega)).mpr (Nat.le_refl _)) y⟩
  | succ d ih =>
    intro f s t hs hf e
    obtain ⟨f, rfl⟩ : ∃ g, f = g + 1 := ⟨f - 1, by omega⟩
    rcases lst_snoc s with h | ⟨s', x, h⟩
    · rw [h] at hs; cases hs
    · subst h
      have e : pl = s' ++ (x :: t) := by rw [e, List.append_assoc]; rfl
      have hs' : s'.length = d := by
        have : (s' ++ [x]).length = s'.length + 1 := List.length_append
        omega
      have hlen : pl.length = s'.length + (t.length + 1) := by rw [e]; exact List.length_append
      have hx : PL (I 74) (I 75) (x :: t) := by rw [e] at hP; exact hP.sfx
      have hin : vp_in (nI t.length) 400 := (qin (by omega)).mpr (by omega)
      show F12_inner_4 n S k (F12_inner_L4 n S k f) I J _ _
      unfold F12_inner_4
      rw [h29, qn (by omega), hx.1, nI_1]
      have l31 : nI x.1 < 31 ↔ x.1 < 31 := by have := hx.2.2.1; exact qlt (b := 31) (by omega) (by omega)
      refine ⟨fun y => absurd ((qle (by omega) (by omega)).mp y) (by omega), fun _ => ⟨hin, ⟨fun _ => trivial, fun _ => ⟨hin, trivial⟩⟩, ?_⟩⟩
      have ev : (if nI x.1 < 31 then iV (innr t) else nI x.1) = iV (innr (x :: t)) := by
        show _ = iV (if 31 ≤ x.1 then some x.1 else innr t)
        by_cases g : x.1 < 31
        · rw [if_pos (l31.mpr g), if_neg (show ¬ 31 ≤ x.1 by omega)]
        · rw [if_neg (fun y => g (l31.mp y)), if_pos (show 31 ≤ x.1 by omega)]; rfl
      rw [ev]
      exact ih f s' (x :: t) hs' (by omega) e
theorem sp_inner {I : tHI} {k : Int32 → tHI → tHJ → Prop} {pl : List (Nat × Nat)} (hn : 1001 < n) (h29 : I 61 29 = nI pl.length) (hP : PL (I 74) (I 75) pl) (hl : pl.length ≤ 400) (hk : k (iV (innr pl)) I J) : F12_inner n S I J k := by
  unfold F12_inner
  exact inner_L h29 hP hl hk pl.length n pl [] rfl (by omega) (List.append_nil pl).symm
theorem compd_L {I : tHI} {k : Int32 → tHI → tHJ → Prop} : ∀ (t : List (Nat × Nat)) (f : Nat), t.length < f → PL (I 74) (I 75) t → t.length ≤ 400 → k (if cmpd t = true then 1 else 0) I J → F12_isCompared_L7 n S k f I J (nI t.length - 1) := by
  intro t
  induction t with
  | nil =>
    intro f hf _ _ hk
    obtain ⟨f, rfl⟩ : ∃ g, f = g + 1 := ⟨f - 1, by have : (0 : Nat) < f := hf; omega⟩
    show F12_isCompared_7 n S k (F12_isCompared_L7 n S k f) I J _
    have e : nI (List.length ([] : List (Nat × Nat))) - 1 < (0 : Int32) := by decide +kernel
    unfold F12_isCompared_7 F12_isCompared_36
    rw [if_pos e]
    exact ⟨fun _ => ⟨⟨fun _ => trivial, fun y => absurd e y⟩, hk⟩, fun y => absurd e y⟩
  | cons x t ih =>
    intro f hf hP hl hk
    obtain ⟨f, rfl⟩ : ∃ g, f = g + 1 := ⟨f - 1, by have : (x :: t).length = t.length + 1 := rfl; omega⟩
    have hf : t.length + 1 < f + 1 := hf
    have hl : t.length + 1 ≤ 400 := hl
    have hin : vp_in (nI t.length) 400 := (qin (by omega)).mpr (by omega)
    have e : nI (x :: t).length - 1 = nI t.length := by show nI (t.length + 1) - 1 = _; rw [qpred (by omega)]; rfl
    have n0 : ¬ nI t.length < (0 : Int32) := fun y => by rw [Int32.lt_iff_toInt_lt, qi (by omega)] at y; have : (0 : Int32).toInt = 0 := rfl; omega
    have hx3 := hP.2.2.1
    have hx4 := hP.2.2.2.1
    have i1 : V12_in (nI x.1).toInt64 20 24 = 0 ↔ ¬ x.1 ≤ 24 := by
      rw [mi0, Int32.toInt_toInt64, qi (by omega), show (20 : Int64).toInt = 20 by decide +kernel, show (24 : Int64).toInt = 24 by decide +kernel]
      omega
    have i2 : V12_in (nI x.1).toInt64 25 27 = 0 ↔ ¬ (25 ≤ x.1 ∧ x.1 ≤ 27) := by
      rw [mi0, Int32.toInt_toInt64, qi (by omega), show (25 : Int64).toInt = 25 by decide +kernel, show (27 : Int64).toInt = 27 by decide +kernel]
      omega
    have hk : k (if (if x.1 ≤ 24 then cmpd t else decide (x.1 ≤ 27)) = true then 1 else 0) I J := hk
    show F12_isCompared_7 n S k (F12_isCompared_L7 n S k f) I J _
    unfold F12_isCompared_7 F12_isCompared_36
    rw [e, if_neg n0, qn (by omega), hP.1]
    refine ⟨fun y => absurd y n0, fun _ => ⟨hin, fun y => ?_, fun y => ?_⟩⟩
    · have y := i1.mp y
      rw [if_neg y] at hk
      refine ⟨⟨fun y => absurd y n0, fun _ => ⟨hin, fun _ => trivial, fun _ => trivial⟩⟩, ?_⟩
      by_cases c : x.1 ≤ 27
      · rw [if_pos (decide_eq_true c)] at hk
        rw [if_neg (fun y => i2.mp y ⟨by omega, c⟩)]
        exact hk
      · rw [if_neg (fun y => c (of_decide_eq_true y))] at hk
        rw [if_pos (i2.mpr (fun y => c y.2))]
        exact hk
    · have y : x.1 ≤ 24 := Classical.not_not.mp (fun g => y (i1.mpr g))
      rw [if_pos y] at hk
      rw [show nI t.length + (-1) = nI t.length - 1 from (Int32.sub_eq_add_neg _ _).symm]
      exact ih f (by omega) hP.2.2.2.2.2 (by omega) hk
theorem sp_compd {I : tHI} {k : Int32 → tHI → tHJ → Prop} {pl : List (Nat × Nat)} (hn : 1001 < n) (h29 : I 61 29 = nI pl.length) (hP : PL (I 74) (I 75) pl) (hl : pl.length ≤ 400) (hk : k (if cmpd pl = true then 1 else 0) I J) : F12_isCompared n S I J k := by
  unfold F12_isCompared
  rw [h29]
  exact compd_L pl n (by omega) hP hl hk
end PIL
