/-! orders: kept and given back -/
section ORK
variable {n : Nat} {S : tSH} {I : tHI} {J : tHJ}
theorem keep77 {k : Int32 → tHI → tHJ → Prop} {v1 : Int32} (hk : ∀ Y : tHI, (∀ x, x ≠ 68 → Y x = I x) → (∀ y, y < 272 → Y 68 y = I 66 y) → F12_orders_L104 n S k n Y J v1 0) : ∀ (d f i : Nat) (Y : tHI), i + d = 272 → d < f → (∀ x, x ≠ 68 → Y x = I x) → (∀ y, y < i → Y 68 y = I 66 y) → F12_orders_L77 n S k f Y J v1 (nI i) := by
  intro d
  induction d with
  | zero =>
    intro f i Y hi hf h1 h2
    obtain ⟨f, rfl⟩ : ∃ g, f = g + 1 := ⟨f - 1, by omega⟩
    show F12_orders_77 n S k (F12_orders_L77 n S k f) Y J v1 (nI i)
    unfold F12_orders_77
    exact ⟨fun _ => hk Y h1 (fun y hy => h2 y (by omega)), fun y => absurd ((qle (a := 272) (by omega) (by omega)).mpr (by omega)) y⟩
  | succ d ih =>
    intro f i Y hi hf h1 h2
    obtain ⟨f, rfl⟩ : ∃ g, f = g + 1 := ⟨f - 1, by omega⟩
    show F12_orders_77 n S k (F12_orders_L77 n S k f) Y J v1 (nI i)
    unfold F12_orders_77
    rw [qn (by omega), nI_1]
    refine ⟨fun y => absurd ((qle (a := 272) (by omega) (by omega)).mp y) (by omega), fun _ => ⟨(qin (by omega)).mpr (by omega), (qin (by omega)).mpr (by omega), ?_⟩⟩
    refine ih f (i + 1) _ (by omega) (by omega) (fun x hx => by rw [uIn hx]; exact h1 x hx) (fun y hy => ?_)
    rw [uIe]
    by_cases e : y = i
    · subst e; rw [upe, h1 66 (by decide)]
    · rw [upn e]; exact h2 y (by omega)
theorem keep104 {k : Int32 → tHI → tHJ → Prop} {v1 : Int32} (hk : ∀ Y : tHI, (∀ x, x ≠ 69 → Y x = I x) → (∀ y, y < 16 → Y 69 y = I 67 y) → F12_orders_L140 n S k n (uI (uI Y 61 51 0) 61 52 (-1)) J v1 0) : ∀ (d f i : Nat) (Y : tHI), i + d = 16 → d < f → (∀ x, x ≠ 69 → Y x = I x) → (∀ y, y < i → Y 69 y = I 67 y) → F12_orders_L104 n S k f Y J v1 (nI i) := by
  intro d
  induction d with
  | zero =>
    intro f i Y hi hf h1 h2
    obtain ⟨f, rfl⟩ : ∃ g, f = g + 1 := ⟨f - 1, by omega⟩
    show F12_orders_104 n S k (F12_orders_L104 n S k f) Y J v1 (nI i)
    unfold F12_orders_104
    exact ⟨fun _ => hk Y h1 (fun y hy => h2 y (by omega)), fun y => absurd ((qle (a := 16) (by omega) (by omega)).mpr (by omega)) y⟩
  | succ d ih =>
    intro f i Y hi hf h1 h2
    obtain ⟨f, rfl⟩ : ∃ g, f = g + 1 := ⟨f - 1, by omega⟩
    show F12_orders_104 n S k (F12_orders_L104 n S k f) Y J v1 (nI i)
    unfold F12_orders_104
    rw [qn (by omega), nI_1]
    refine ⟨fun y => absurd ((qle (a := 16) (by omega) (by omega)).mp y) (by omega), fun _ => ⟨(qin (by omega)).mpr (by omega), (qin (by omega)).mpr (by omega), ?_⟩⟩
    refine ih f (i + 1) _ (by omega) (by omega) (fun x hx => by rw [uIn hx]; exact h1 x hx) (fun y hy => ?_)
    rw [uIe]
    by_cases e : y = i
    · subst e; rw [upe, h1 67 (by decide)]
    · rw [upn e]; exact h2 y (by omega)
theorem give35 {k : tHI → tHJ → Prop} {v1 : Int32} (hk : ∀ Y : tHI, (∀ x, x ≠ 67 → Y x = I x) → (∀ y, y < 16 → Y 67 y = I 69 y) → k (uI Y 61 8 v1) J) : ∀ (d f i : Nat) (Y : tHI), i + d = 16 → d < f → (∀ x, x ≠ 67 → Y x = I x) → (∀ y, y < i → Y 67 y = I 69 y) → F12_giveBack_L35 n S k f Y J v1 (nI i) := by
  intro d
  induction d with
  | zero =>
    intro f i Y hi hf h1 h2
    obtain ⟨f, rfl⟩ : ∃ g, f = g + 1 := ⟨f - 1, by omega⟩
    show F12_giveBack_35 n S k (F12_giveBack_L35 n S k f) Y J v1 (nI i)
    unfold F12_giveBack_35
    exact ⟨fun _ => hk Y h1 (fun y hy => h2 y (by omega)), fun y => absurd ((qle (a := 16) (by omega) (by omega)).mpr (by omega)) y⟩
  | succ d ih =>
    intro f i Y hi hf h1 h2
    obtain ⟨f, rfl⟩ : ∃ g, f = g + 1 := ⟨f - 1, by omega⟩
    show F12_giveBack_35 n S k (F12_giveBack_L35 n S k f) Y J v1 (nI i)
    unfold F12_giveBack_35
    rw [qn (by omega), nI_1]
    refine ⟨fun y => absurd ((qle (a := 16) (by omega) (by omega)).mp y) (by omega), fun _ => ⟨(qin (by omega)).mpr (by omega), (qin (by omega)).mpr (by omega), ?_⟩⟩
    refine ih f (i + 1) _ (by omega) (by omega) (fun x hx => by rw [uIn hx]; exact h1 x hx) (fun y hy => ?_)
    rw [uIe]
    by_cases e : y = i
    · subst e; rw [upe, h1 69 (by decide)]
    · rw [upn e]; exact h2 y (by omega)
theorem give8 {k : tHI → tHJ → Prop} {v1 : Int32} (hk : ∀ Y : tHI, (∀ x, x ≠ 66 → Y x = I x) → (∀ y, y < 272 → Y 66 y = I 68 y) → F12_giveBack_L35 n S k n Y J v1 0) : ∀ (d f i : Nat) (Y : tHI), i + d = 272 → d < f → (∀ x, x ≠ 66 → Y x = I x) → (∀ y, y < i → Y 66 y = I 68 y) → F12_giveBack_L8 n S k f Y J v1 (nI i) := by
  intro d
  induction d with
  | zero =>
    intro f i Y hi hf h1 h2
    obtain ⟨f, rfl⟩ : ∃ g, f = g + 1 := ⟨f - 1, by omega⟩
    show F12_giveBack_8 n S k (F12_giveBack_L8 n S k f) Y J v1 (nI i)
    unfold F12_giveBack_8
    exact ⟨fun _ => hk Y h1 (fun y hy => h2 y (by omega)), fun y => absurd ((qle (a := 272) (by omega) (by omega)).mpr (by omega)) y⟩
  | succ d ih =>
    intro f i Y hi hf h1 h2
    obtain ⟨f, rfl⟩ : ∃ g, f = g + 1 := ⟨f - 1, by omega⟩
    show F12_giveBack_8 n S k (F12_giveBack_L8 n S k f) Y J v1 (nI i)
    unfold F12_giveBack_8
    rw [qn (by omega), nI_1]
    refine ⟨fun y => absurd ((qle (a := 272) (by omega) (by omega)).mp y) (by omega), fun _ => ⟨(qin (by omega)).mpr (by omega), (qin (by omega)).mpr (by omega), ?_⟩⟩
    refine ih f (i + 1) _ (by omega) (by omega) (fun x hx => by rw [uIn hx]; exact h1 x hx) (fun y hy => ?_)
    rw [uIe]
    by_cases e : y = i
    · subst e; rw [upe, h1 68 (by decide)]
    · rw [upn e]; exact h2 y (by omega)
theorem sp_giveBack {k : tHI → tHJ → Prop} {v1 : Int32} (hn : 400 < n) (hk : ∀ X : tHI, (∀ x, x ∉ [61, 63, 66, 67] → X x = I x) → (∀ y, y ≠ 8 → X 61 y = I 61 y) → X 61 8 = v1 → (∀ y, (y < 9 ∨ 26 ≤ y) → X 63 y = I 63 y) → (∀ i, i < 17 → X 63 (9 + i) = I 66 (289 + i)) → (∀ y, y < 272 → X 66 y = I 68 y) → (∀ y, y < 16 → X 67 y = I 69 y) → k X J) : F12_giveBack n S I J v1 k := by
  unfold F12_giveBack
  refine sp_putBack (q := 17) (by omega) (by omega) (fun X a b c => ?_)
  refine give8 (I := X) (fun Y y1 y2 => give35 (I := Y) (fun Z z1 z2 => ?_) 16 n 0 Y (by omega) (by omega) (fun _ _ => rfl) (fun y hy => by omega)) 272 n 0 X (by omega) (by omega) (fun _ _ => rfl) (fun y hy => by omega)
  refine hk _ (fun x hx => ?_) (fun y hy => ?_) (by rw [uIe, upe]) (fun y hy => ?_) (fun i hi => ?_) (fun y hy => ?_) (fun y hy => ?_)
  · have ne : ∀ t, t ∈ [61, 63, 66, 67] → x ≠ t := fun t ht e => hx (by rw [e]; exact ht)
    rw [uIn (ne 61 (by decide)), z1 x (ne 67 (by decide)), y1 x (ne 66 (by decide)), a x (ne 63 (by decide))]
  · rw [uIe, upn hy, z1 61 (by decide), y1 61 (by decide), a 61 (by decide)]
  · rw [uIn (by decide), z1 63 (by decide), y1 63 (by decide)]; exact b y hy
  · rw [uIn (by decide), z1 63 (by decide), y1 63 (by decide)]; exact c i hi
  · rw [uIn (by decide), z1 66 (by decide), y2 y hy, a 68 (by decide)]
  · rw [uIn (by decide), z2 y hy, y1 69 (by decide), a 69 (by decide)]
/-- what can be undone, seen from cells that agree below -/
theorem HR.cg3 {h k : Nat} {f35 f66 f67 g35 g66 g67 r : Nat → Int32} (hk : k < h) (q : HR h k f35 f66 f67 r) (e35 : ∀ y, y < 9 * h → g35 y = f35 y) (e66 : ∀ y, y < 17 * h → g66 y = f66 y) (e67 : ∀ y, y < h → g67 y = f67 y) : HR h k g35 g66 g67 r := by
  obtain ⟨⟨q0, q1, q2, q3⟩, ⟨a1, a2, a3, a4, a5⟩, kv, q4⟩ := q
  have nx : ∀ i, i < 17 → (if k + 1 = h then r (9 + i) else g66 (17 * (k + 1) + i)) = (if k + 1 = h then r (9 + i) else f66 (17 * (k + 1) + i)) := fun i hi => by
    by_cases g : k + 1 = h
    · rw [if_pos g, if_pos g]
    · rw [if_neg g, if_neg g, e66 _ (by omega)]
  refine ⟨⟨q0, q1, by rw [e35 _ (by omega)]; exact q2, by rw [e67 _ hk]; exact q3⟩, ⟨?_, ?_, ?_, ?_, ?_⟩, kv.r rfl (fun _ _ _ => rfl) (fun i hi => e66 _ (by omega)), ?_⟩
  · rw [e35 _ (by omega), e66 _ (by omega)]; exact a1
  · rw [e35 _ (by omega), e66 _ (by omega)]; exact a2
  · rw [e35 _ (by omega), e66 _ (by omega)]; exact a3
  · rw [e35 _ (by omega), e66 _ (by omega)]; exact a4
  · rw [e35 _ (by omega), e66 _ (by omega)]; exact a5
  · rcases q4 with ⟨c1, c2⟩ | ⟨l, c1, c2, c3, c4, c5, c6⟩
    · refine Or.inl ⟨by rw [e35 _ (by omega)]; exact c1, fun i hi => ?_⟩
      rw [e66 _ (by omega), nx _ (by omega)]; exact c2 i hi
    · refine Or.inr ⟨l, by rw [e35 _ (by omega)]; exact c1, c2, c3, ?_, ?_, fun i hi hl => ?_⟩
      · rw [e35 _ (by omega), e66 _ (by omega)]; exact c4
      · rw [e35 _ (by omega), e66 _ (by omega)]; exact c5
      · rw [e66 (17 * k + (5 + i)) (by omega), e66 (17 * k + (11 + i)) (by omega), nx _ (by omega), nx _ (by omega)]; exact c6 i hi hl
end ORK
/-! how many acts are done -/
section ODN
variable {S : tSH} {I : tHI} {N : Nat}
theorem oRun_dn {c : aC5} {s s' : oT} {q : Nat} (h : s.2.2.2.2.1 = nI q) (e : oRun S I N c s = some s') : ∃ q', s'.2.2.2.2.1 = nI q' ∧ q' ≤ q + 1 := by
  have act : ∀ a b, oAct S I N c.1 a b s = some s' → ∃ q', s'.2.2.2.2.1 = nI q' ∧ q' ≤ q + 1 := by
    intro a b e
    unfold oAct at e
    by_cases w : whyA S I s.1 N c.1 a b = 0
    · rw [if_pos w] at e
      cases e
      refine ⟨q + 1, ?_, Nat.le_refl _⟩
      show s.2.2.2.2.1 + 1 = _
      rw [h, nI_1]
    · rw [if_neg w] at e; cases e
  unfold oRun at e
  by_cases t : oTest c.2.2.2.2 (oWs s) = true
  · rw [if_pos t] at e
    cases h1 : oArg c.2.2.1 (oWs s) with
    | none => rw [h1] at e; cases e
    | some x =>
      rw [h1] at e
      have e : (match oArg c.2.2.2.1 (oWs s) with
        | none => none
        | some b => oAct S I N c.1 x.toInt32 b.toInt32 s) = some s' := e
      cases h2 : oArg c.2.2.2.1 (oWs s) with
      | none => rw [h2] at e; cases e
      | some y => rw [h2] at e; exact act _ _ e
  · rw [if_neg t] at e
    cases e; exact ⟨q, h, by omega⟩
theorem oRep_dn {c : aC5} : ∀ (f : Nat) (s s' : oT) (q : Nat), s.2.2.2.2.1 = nI q → oRep S I N c f s = some s' → ∃ q', s'.2.2.2.2.1 = nI q' ∧ q' ≤ q + f := by
  intro f
  induction f with
  | zero => intro s s' q h e; cases e; exact ⟨q, h, Nat.le_refl _⟩
  | succ f ih =>
    intro s s' q h e
    have e : (match oRun S I N c s with
      | none => none
      | some s' => oRep S I N c f s') = some s' := e
    cases h1 : oRun S I N c s with
    | none => rw [h1] at e; cases e
    | some x =>
      rw [h1] at e
      obtain ⟨q1, a1, a2⟩ := oRun_dn h h1
      obtain ⟨q2, b1, b2⟩ := ih x s' q1 a1 e
      exact ⟨q2, b1, by omega⟩
theorem oAll_dn : ∀ (cs : List aC5) (j : Nat) (s s' : oT) (q : Nat), (∀ c, c ∈ cs → CLk 1 c) → s.2.2.2.2.1 = nI q → oAll S I N cs j s = .inr s' → ∃ q', s'.2.2.2.2.1 = nI q' ∧ q' ≤ q + 20 * cs.length := by
  intro cs
  induction cs with
  | nil => intro j s s' q _ h e; cases e; exact ⟨q, h, by omega⟩
  | cons c cs ih =>
    intro j s s' q hok h e
    have e : (match oRep S I N c c.2.1 s with
      | none => .inl j
      | some s' => oAll S I N cs (j + 1) s') = (.inr s' : Nat ⊕ oT) := e
    cases h1 : oRep S I N c c.2.1 s with
    | none => rw [h1] at e; cases e
    | some x =>
      rw [h1] at e
      obtain ⟨q1, a1, a2⟩ := oRep_dn _ _ _ _ h h1
      obtain ⟨q2, b1, b2⟩ := ih (j + 1) x s' q1 (fun c' hc => hok c' (List.mem_cons_of_mem _ hc)) a1 e
      have := (hok c List.mem_cons_self).2.1.2
      refine ⟨q2, b1, ?_⟩
      show q2 ≤ q + 20 * (cs.length + 1)
      omega
end ODN
