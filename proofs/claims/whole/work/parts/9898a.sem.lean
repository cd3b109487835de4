/-! what a text's code tells, for both machines -/
abbrev tV : Type := (Nat → Int64) → Option Int64
def vBin (op : Nat) (u v : tV) : tV := fun w => match u w with
  | none => none
  | some a => match v w with
    | none => none
    | some b => jn op a b
def vNot (u : tV) : tV := fun w => match u w with
  | none => none
  | some a => some (1 - a)
def vJmp (m : Int64) (u v : tV) : tV := fun w => match u w with
  | none => none
  | some a => if a = m then some a else v w
/-- the class's code from a to b puts v on its stack, with h leaves at most -/
def DC (g : Nat → Nat) (nw a b h : Nat) (v : tV) : Prop := a < b ∧ 1 ≤ h ∧ ∀ c : Nat → Nat, (∀ i, a ≤ i → i < b → c i = g i) → ∀ (w : Nat → Int64) (e t : Nat) (s : Nat → Int64), b ≤ e → t + h ≤ 52 → (v w = none → mc c w nw e a t s = none) ∧ ∀ x, v w = some x → ∃ s', (∀ i, i < t → s' i = s i) ∧ s' t = x ∧ mc c w nw e a t s = mc c w nw e b (t + 1) s'
def DM (lf : (Nat → Int64) → Nat → Nat → Option Int64) (g r : Nat → Nat) (a b h : Nat) (v : tV) : Prop := a < b ∧ 1 ≤ h ∧ ∀ op ar : Nat → Nat, (∀ i, a ≤ i → i < b → op i = g i ∧ ar i = r i) → ∀ (w : Nat → Int64) (e t : Nat) (s : Nat → Int64), b ≤ e → t + h ≤ 400 → (v w = none → mm op ar (lf w) e a t s = some none) ∧ ∀ x, v w = some x → ∃ s', (∀ i, i < t → s' i = s i) ∧ s' t = x ∧ mm op ar (lf w) e a t s = mm op ar (lf w) e b (t + 1) s'
section SEM
variable {g g' r r' : Nat → Nat} {nw a b m h h1 h2 : Nat} {u v : tV} {lf : (Nat → Int64) → Nat → Nat → Option Int64}
theorem vBin_n {op : Nat} {w : Nat → Int64} (h : u w = none) : vBin op u v w = none := by unfold vBin; rw [h]
theorem vBin_m {op : Nat} {w : Nat → Int64} {y : Int64} (h : u w = some y) (h2 : v w = none) : vBin op u v w = none := by unfold vBin; rw [h, h2]
theorem vBin_s {op : Nat} {w : Nat → Int64} {y y2 : Int64} (h : u w = some y) (h2 : v w = some y2) : vBin op u v w = jn op y y2 := by unfold vBin; rw [h, h2]
theorem DC.cg (d : DC g nw a b h v) (e : ∀ i, a ≤ i → i < b → g' i = g i) : DC g' nw a b h v := ⟨d.1, d.2.1, fun c hc => d.2.2 c (fun i p q => by rw [hc i p q, e i p q])⟩
theorem DM.cg (d : DM lf g r a b h v) (e : ∀ i, a ≤ i → i < b → g' i = g i ∧ r' i = r i) : DM lf g' r' a b h v := ⟨d.1, d.2.1, fun c k hc => d.2.2 c k (fun i p q => by rw [(hc i p q).1, (hc i p q).2, (e i p q).1, (e i p q).2]; exact ⟨rfl, rfl⟩)⟩
theorem DC.leaf (hg : (g a / 1024 = 0 ∧ v = fun _ => some (nI (g a % 1024)).toInt64) ∨ (g a / 1024 = 1 ∧ g a % 1024 < nw ∧ v = fun w => some (w (g a % 1024)))) : DC g nw a (a + 1) 1 v := by
  refine ⟨by omega, by omega, fun c hc w e t s hb ht => ?_⟩
  have ec := hc a (by omega) (by omega)
  rcases hg with ⟨p, q⟩ | ⟨p, p2, q⟩
  · subst q
    refine ⟨fun z => (by cases z), fun x hx => ⟨upJ s t x, fun i hi => upJn (by omega), upJe, ?_⟩⟩
    have hx : (nI (g a % 1024)).toInt64 = x := Option.some.inj hx
    rw [mc, if_neg (by omega), ec, if_pos p, if_neg (by omega), hx]
  · subst q
    refine ⟨fun z => (by cases z), fun x hx => ⟨upJ s t x, fun i hi => upJn (by omega), upJe, ?_⟩⟩
    have hx : w (g a % 1024) = x := Option.some.inj hx
    rw [mc, if_neg (by omega), ec, if_neg (by omega), if_pos p, if_neg (by omega), if_neg (by omega), hx]
theorem DM.leaf (hg : g a < 20) (hv : ∀ w, ∃ x, lf w (g a) (r a) = some x ∧ v w = some x) : DM lf g r a (a + 1) 1 v := by
  refine ⟨by omega, by omega, fun c k hc w e t s hb ht => ?_⟩
  obtain ⟨ec, ek⟩ := hc a (by omega) (by omega)
  obtain ⟨x, x1, x2⟩ := hv w
  refine ⟨fun z => (by rw [x2] at z; cases z), fun y hy => ⟨upJ s t y, fun i hi => upJn (by omega), upJe, ?_⟩⟩
  rw [x2] at hy
  have hy : x = y := Option.some.inj hy
  rw [mm, if_neg (by omega), ec, ek, if_pos hg, if_neg (by omega), x1, ← hy]
theorem DC.bin (d1 : DC g nw a m h1 u) (d2 : DC g nw m b h2 v) {op : Nat} (ho : 2 ≤ op ∧ op ≤ 9) (hg : g b / 1024 = op) : DC g nw a (b + 1) (h1 + h2) (vBin op u v) := by
  obtain ⟨p1, p2, p3⟩ := d1
  obtain ⟨q1, q2, q3⟩ := d2
  refine ⟨by omega, by omega, fun c hc w e t s hb ht => ?_⟩
  obtain ⟨n1, s1⟩ := p3 c (fun i x y => hc i x (by omega)) w e t s (by omega) (by omega)
  cases hu : u w with
  | none =>
    refine ⟨fun _ => n1 hu, fun x hx => ?_⟩
    rw [vBin_n hu] at hx; cases hx
  | some y =>
    obtain ⟨s', g1, g2, g3⟩ := s1 y hu
    obtain ⟨n2, s2⟩ := q3 c (fun i x y => hc i (by omega) (by omega)) w e (t + 1) s' (by omega) (by omega)
    cases hv : v w with
    | none =>
      refine ⟨fun _ => by rw [g3]; exact n2 hv, fun x hx => ?_⟩
      rw [vBin_m hu hv] at hx; cases hx
    | some y2 =>
      obtain ⟨s'', k1, k2, k3⟩ := s2 y2 hv
      have eb : c b / 1024 = op := by rw [hc b (by omega) (by omega)]; exact hg
      have ev : vBin op u v w = jn op y y2 := vBin_s hu hv
      have step : mc c w nw e b (t + 1 + 1) s'' = (match jn op y y2 with
        | none => none
        | some z => mc c w nw e (b + 1) (t + 1) (upJ s'' t z)) := by
        rw [mc, if_neg (by omega), if_neg (by omega), if_neg (by omega), if_neg (by omega), if_neg (by omega), if_neg (by omega), if_neg (by omega), if_neg (by omega), eb]
        rw [show t + 1 + 1 - 2 = t by omega, show t + 1 + 1 - 1 = t + 1 by omega, k2, k1 t (by omega), g2]
        rfl
      rw [ev, g3, k3, step]
      cases hj : jn op y y2 with
      | none => exact ⟨fun _ => rfl, fun x hx => (by cases hx)⟩
      | some z =>
        refine ⟨fun hx => (by cases hx), fun x hx => ⟨upJ s'' t z, fun i hi => by rw [upJn (by omega), k1 i (by omega), g1 i hi], by rw [upJe]; exact Option.some.inj hx, rfl⟩⟩
theorem DM.bin (d1 : DM lf g r a m h1 u) (d2 : DM lf g r m b h2 v) {op : Nat} (ho : 2 ≤ op ∧ op ≤ 9) (hg : g b = op + 18) : DM lf g r a (b + 1) (h1 + h2) (vBin op u v) := by
  obtain ⟨p1, p2, p3⟩ := d1
  obtain ⟨q1, q2, q3⟩ := d2
  refine ⟨by omega, by omega, fun c k hc w e t s hb ht => ?_⟩
  obtain ⟨n1, s1⟩ := p3 c k (fun i x y => hc i x (by omega)) w e t s (by omega) (by omega)
  cases hu : u w with
  | none =>
    refine ⟨fun _ => n1 hu, fun x hx => ?_⟩
    rw [vBin_n hu] at hx; cases hx
  | some y =>
    obtain ⟨s', g1, g2, g3⟩ := s1 y hu
    obtain ⟨n2, s2⟩ := q3 c k (fun i x y => hc i (by omega) (by omega)) w e (t + 1) s' (by omega) (by omega)
    cases hv : v w with
    | none =>
      refine ⟨fun _ => by rw [g3]; exact n2 hv, fun x hx => ?_⟩
      rw [vBin_m hu hv] at hx; cases hx
    | some y2 =>
      obtain ⟨s'', k1, k2, k3⟩ := s2 y2 hv
      have eb : c b = op + 18 := by rw [(hc b (by omega) (by omega)).1]; exact hg
      have ev : vBin op u v w = jn op y y2 := vBin_s hu hv
      have step : mm c k (lf w) e b (t + 1 + 1) s'' = (match jn op y y2 with
        | none => some none
        | some z => mm c k (lf w) e (b + 1) (t + 1) (upJ s'' t z)) := by
        rw [mm, if_neg (by omega), if_neg (by omega), if_neg (by omega), if_pos (by omega), if_neg (by omega), eb]
        rw [show t + 1 + 1 - 2 = t by omega, show t + 1 + 1 - 1 = t + 1 by omega, show op + 18 - 18 = op by omega, k2, k1 t (by omega), g2]
        rfl
      rw [ev, g3, k3, step]
      cases hj : jn op y y2 with
      | none => exact ⟨fun _ => rfl, fun x hx => (by cases hx)⟩
      | some z =>
        refine ⟨fun hx => (by cases hx), fun x hx => ⟨upJ s'' t z, fun i hi => by rw [upJn (by omega), k1 i (by omega), g1 i hi], by rw [upJe]; exact Option.some.inj hx, rfl⟩⟩
theorem DC.not (d : DC g nw a b h u) (hg : g b / 1024 = 10) : DC g nw a (b + 1) h (vNot u) := by
  obtain ⟨p1, p2, p3⟩ := d
  refine ⟨by omega, p2, fun c hc w e t s hb ht => ?_⟩
  obtain ⟨n1, s1⟩ := p3 c (fun i x y => hc i x (by omega)) w e t s (by omega) (by omega)
  cases hu : u w with
  | none =>
    refine ⟨fun _ => n1 hu, fun x hx => ?_⟩
    unfold vNot at hx; rw [hu] at hx; cases hx
  | some y =>
    obtain ⟨s', g1, g2, g3⟩ := s1 y hu
    have eb : c b / 1024 = 10 := by rw [hc b (by omega) (by omega)]; exact hg
    have ev : vNot u w = some (1 - y) := by unfold vNot; rw [hu]
    refine ⟨fun z => (by rw [ev] at z; cases z), fun x hx => ?_⟩
    rw [ev] at hx
    have hx : 1 - y = x := Option.some.inj hx
    refine ⟨upJ s' t x, fun i hi => by rw [upJn (by omega), g1 i hi], upJe, ?_⟩
    rw [g3, mc, if_neg (by omega), if_neg (by omega), if_neg (by omega), if_neg (by omega), if_pos eb, show t + 1 - 1 = t by omega, g2, hx]
theorem DM.not (d : DM lf g r a b h u) (hg : g b = 28) : DM lf g r a (b + 1) h (vNot u) := by
  obtain ⟨p1, p2, p3⟩ := d
  refine ⟨by omega, p2, fun c k hc w e t s hb ht => ?_⟩
  obtain ⟨n1, s1⟩ := p3 c k (fun i x y => hc i x (by omega)) w e t s (by omega) (by omega)
  cases hu : u w with
  | none =>
    refine ⟨fun _ => n1 hu, fun x hx => ?_⟩
    unfold vNot at hx; rw [hu] at hx; cases hx
  | some y =>
    obtain ⟨s', g1, g2, g3⟩ := s1 y hu
    have eb : c b = 28 := by rw [(hc b (by omega) (by omega)).1]; exact hg
    have ev : vNot u w = some (1 - y) := by unfold vNot; rw [hu]
    refine ⟨fun z => (by rw [ev] at z; cases z), fun x hx => ?_⟩
    rw [ev] at hx
    have hx : 1 - y = x := Option.some.inj hx
    refine ⟨upJ s' t x, fun i hi => by rw [upJn (by omega), g1 i hi], upJe, ?_⟩
    rw [g3, mm, if_neg (by omega), if_neg (by omega), if_neg (by omega), if_neg (by omega), if_pos eb, show t + 1 - 1 = t by omega, g2, hx]
theorem DC.jmp (d1 : DC g nw a m h1 u) (d2 : DC g nw (m + 1) b h2 v) {o : Nat} (ho : o = 11 ∨ o = 12) (hg : g m = o * 1024 + b) (hb : b < 1024) : DC g nw a b (h1 + h2) (vJmp (if o = 11 then 0 else 1) u v) := by
  obtain ⟨p1, p2, p3⟩ := d1
  obtain ⟨q1, q2, q3⟩ := d2
  refine ⟨by omega, by omega, fun c hc w e t s hbe ht => ?_⟩
  obtain ⟨n1, s1⟩ := p3 c (fun i x y => hc i x (by omega)) w e t s (by omega) (by omega)
  cases hu : u w with
  | none =>
    refine ⟨fun _ => n1 hu, fun x hx => ?_⟩
    unfold vJmp at hx; rw [hu] at hx; cases hx
  | some y =>
    obtain ⟨s', g1, g2, g3⟩ := s1 y hu
    have em : c m = o * 1024 + b := by rw [hc m (by omega) (by omega)]; exact hg
    have e1 : c m / 1024 = o := by omega
    have e2 : c m % 1024 = b := by omega
    have step : mc c w nw e m (t + 1) s' = (if y = (if o = 11 then 0 else 1) then mc c w nw e b (t + 1) s' else mc c w nw e (m + 1) t s') := by
      rw [mc, if_neg (by omega), if_neg (by omega), if_neg (by omega), if_neg (by omega), if_neg (by omega), e2, show t + 1 - 1 = t by omega, g2, show max m (b - 1) + 1 = b by omega, e1]
      rcases ho with z | z <;> subst z
      · rw [if_pos rfl, if_pos rfl]
      · rw [if_neg (show ¬ (12 : Nat) = 11 by decide), if_pos rfl, if_neg (show ¬ (12 : Nat) = 11 by decide)]
    by_cases q : y = (if o = 11 then 0 else 1)
    · have ev : vJmp (if o = 11 then 0 else 1) u v w = some y := by unfold vJmp; rw [hu]; simp only [if_pos q]
      rw [if_pos q] at step
      refine ⟨fun z => (by rw [ev] at z; cases z), fun x hx => ⟨s', g1, ?_, by rw [g3, step]⟩⟩
      rw [ev] at hx
      rw [g2]; exact Option.some.inj hx
    · have ev : vJmp (if o = 11 then 0 else 1) u v w = v w := by unfold vJmp; rw [hu]; simp only [if_neg q]
      rw [if_neg q] at step
      obtain ⟨n2, s2⟩ := q3 c (fun i x y => hc i (by omega) (by omega)) w e t s' (by omega) (by omega)
      rw [ev, g3, step]
      refine ⟨n2, fun x hx => ?_⟩
      obtain ⟨s'', k1, k2, k3⟩ := s2 x hx
      exact ⟨s'', fun i hi => by rw [k1 i hi, g1 i hi], k2, k3⟩
theorem DM.jmp (d1 : DM lf g r a m h1 u) (d2 : DM lf g r (m + 1) b h2 v) {o : Nat} (ho : o = 29 ∨ o = 30) (hg : g m = o) (hr : r m = b) : DM lf g r a b (h1 + h2) (vJmp (if o = 29 then 0 else 1) u v) := by
  obtain ⟨p1, p2, p3⟩ := d1
  obtain ⟨q1, q2, q3⟩ := d2
  refine ⟨by omega, by omega, fun c k hc w e t s hbe ht => ?_⟩
  obtain ⟨n1, s1⟩ := p3 c k (fun i x y => hc i x (by omega)) w e t s (by omega) (by omega)
  cases hu : u w with
  | none =>
    refine ⟨fun _ => n1 hu, fun x hx => ?_⟩
    unfold vJmp at hx; rw [hu] at hx; cases hx
  | some y =>
    obtain ⟨s', g1, g2, g3⟩ := s1 y hu
    obtain ⟨em, ek⟩ := hc m (by omega) (by omega)
    rw [hg] at em
    rw [hr] at ek
    have step : mm c k (lf w) e m (t + 1) s' = (if y = (if o = 29 then 0 else 1) then mm c k (lf w) e b (t + 1) s' else mm c k (lf w) e (m + 1) t s') := by
      rw [mm, if_neg (by omega), if_neg (by omega), if_neg (by omega), if_neg (by omega), if_neg (by omega), em, ek, show t + 1 - 1 = t by omega, g2, if_pos (show m < b by omega), show max (m + 1) b = b by omega]
    by_cases q : y = (if o = 29 then 0 else 1)
    · have ev : vJmp (if o = 29 then 0 else 1) u v w = some y := by unfold vJmp; rw [hu]; simp only [if_pos q]
      rw [if_pos q] at step
      refine ⟨fun z => (by rw [ev] at z; cases z), fun x hx => ⟨s', g1, ?_, by rw [g3, step]⟩⟩
      rw [ev] at hx
      rw [g2]; exact Option.some.inj hx
    · have ev : vJmp (if o = 29 then 0 else 1) u v w = v w := by unfold vJmp; rw [hu]; simp only [if_neg q]
      rw [if_neg q] at step
      obtain ⟨n2, s2⟩ := q3 c k (fun i x y => hc i (by omega) (by omega)) w e t s' (by omega) (by omega)
      rw [ev, g3, step]
      refine ⟨n2, fun x hx => ?_⟩
      obtain ⟨s'', k1, k2, k3⟩ := s2 x hx
      exact ⟨s'', fun i hi => by rw [k1 i hi, g1 i hi], k2, k3⟩
/-- both tell the same -/
theorem SpE.of {c op ar : Nat → Nat} {ca cb ma mb : Nat} (d1 : DC c nw ca cb h1 v) (d2 : DM lf op ar ma mb h2 v) (e1 : h1 ≤ 52) (e2 : h2 ≤ 400) : SpE c nw ca cb op ar lf ma mb := by
  intro w s s'
  obtain ⟨n1, s1⟩ := d1.2.2 c (fun _ _ _ => rfl) w cb 0 s (Nat.le_refl _) (by omega)
  obtain ⟨n2, s2⟩ := d2.2.2 op ar (fun _ _ _ => ⟨rfl, rfl⟩) w mb 0 s' (Nat.le_refl _) (by omega)
  cases hv : v w with
  | none => rw [n1 hv, n2 hv]
  | some x =>
    obtain ⟨t1, -, a2, a3⟩ := s1 x hv
    obtain ⟨t2, -, b2, b3⟩ := s2 x hv
    rw [a3, b3, mc, mm, if_pos (Nat.le_refl _), if_pos (Nat.le_refl _), if_pos rfl, if_pos rfl, a2, b2]
def vTF (v : tV) : Prop := ∀ w x, v w = some x → x = 0 ∨ x = 1
theorem SpB.of {c : Nat → Nat} {ca cb : Nat} (d1 : DC c nw ca cb h1 v) (e1 : h1 ≤ 52) (hv : vTF v) : SpB c nw ca cb := by
  intro w s x hx
  obtain ⟨n1, s1⟩ := d1.2.2 c (fun _ _ _ => rfl) w cb 0 s (Nat.le_refl _) (by omega)
  cases h : v w with
  | none => rw [n1 h] at hx; cases hx
  | some y =>
    obtain ⟨t1, -, a2, a3⟩ := s1 y h
    rw [a3, mc, if_pos (Nat.le_refl _), if_pos rfl, a2] at hx
    have : y = x := Option.some.inj hx
    rw [← this]; exact hv w y h
theorem vTF.not (hv : vTF v) : vTF (vNot v) ∧ vNot (vNot v) = v := by
  have k : ∀ w, vNot v w = match v w with
    | none => none
    | some a => some (1 - a) := fun _ => rfl
  refine ⟨fun w x hx => ?_, ?_⟩
  · rw [k] at hx
    cases h : v w with
    | none => rw [h] at hx; cases hx
    | some y =>
      rw [h] at hx
      have hx : 1 - y = x := Option.some.inj hx
      rcases hv w y h with z | z <;> subst z <;> rw [← hx]
      · exact Or.inr (by decide)
      · exact Or.inl (by decide)
  · funext w
    unfold vNot
    cases h : v w with
    | none => rfl
    | some y => rcases hv w y h with z | z <;> subst z <;> rfl
theorem vTF.jmp (h1 : vTF u) (h2 : vTF v) {m : Int64} : vTF (vJmp m u v) := by
  intro w x hx
  unfold vJmp at hx
  cases h : u w with
  | none => rw [h] at hx; cases hx
  | some y =>
    rw [h] at hx
    simp only at hx
    by_cases q : y = m
    · rw [if_pos q] at hx
      have : y = x := Option.some.inj hx
      rw [← this]; exact h1 w y h
    · rw [if_neg q] at hx; exact h2 w x hx
theorem vTF.cmp {op : Nat} (ho : 7 ≤ op ∧ op ≤ 9) : vTF (vBin op u v) := by
  intro w x hx
  cases h : u w with
  | none => rw [vBin_n h] at hx; cases hx
  | some y =>
    cases h2 : v w with
    | none => rw [vBin_m h h2] at hx; cases hx
    | some y2 =>
      rw [vBin_s h h2] at hx
      have : op = 7 ∨ op = 8 ∨ op = 9 := by omega
      rcases this with z | z | z <;> subst z
      · have hx : (if y < y2 then (1 : Int64) else 0) = x := Option.some.inj hx
        rw [← hx]; split <;> simp
      · have hx : (if y2 < y then (1 : Int64) else 0) = x := Option.some.inj hx
        rw [← hx]; split <;> simp
      · have hx : (if y = y2 then (1 : Int64) else 0) = x := Option.some.inj hx
        rw [← hx]; split <;> simp
end SEM
