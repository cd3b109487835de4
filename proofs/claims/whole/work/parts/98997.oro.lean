/-! orders: run by the model, II -/
section ORO
variable {n : Nat} {S S0 : tSH} {I0 B : tHI} {r0 : Nat → Int32} {N NB : Nat}
theorem sp_runM (hn : 400 < n) (hV : VQ S0 I0 S B) (hF : FO S B r0) (hN : r0 0 = nI N) (hN6 : N ≤ 6) (hB1 : r0 1 = nI NB) (hB12 : NB ≤ 12) (h20 : B 61 20 = 0) (h41 : B 61 41 = 63) {j nc : Nat} {g ra : Nat → Nat} {c : aC5} (hR : MRo (B 87) g ra j nc c) (hnc : nc ≤ 400) (h72 : ∀ i, i < nc → B 72 i = nI (g i) ∧ B 73 i = nI (ra i) ∧ g i < 40 ∧ ra i < 100000) (hj : j < 12) (hk : CLk 1 c) {s : oT} {X : tHI} {J : tHJ} (hM : oM B s X) (hO : oOK r0 s) {k : Int32 → tHI → tHJ → Prop} (hno : oRun S0 I0 N c s = none → ∀ X' J', oMf B X' → (∀ j, j < 9 ∨ 26 ≤ j → X' 63 j = r0 j) → KpJ J J' → k (-3) X' J') (hyes : ∀ s', oRun S0 I0 N c s = some s' → ∀ X' J', oM B s' X' → KpJ J J' → k 0 X' J') : F12_run n S X J (nI (8 * j)) k := by
  obtain ⟨b1, b2, b3, b4, b5, b6, -, ⟨m1, m2, m3, m4, m5, m6⟩, ⟨t2, t4, t6⟩, p1, p2, p3⟩ := id hR
  have e5 : nI (8 * j) + 5 = nI (8 * j + 5) := nI_add _ 5
  have e6 : nI (8 * j) + 6 = nI (8 * j + 6) := nI_add _ 6
  have sN : s.1 0 = nI N := by rw [hO.2.1 0 (by omega)]; exact hN
  have sB : s.1 1 = nI NB := by rw [hO.2.1 1 (by omega)]; exact hB1
  obtain ⟨x63, x51, x52⟩ : X 63 = s.1 ∧ X 61 51 = s.2.2.2.2.1 ∧ X 61 52 = s.2.2.2.2.2 := ⟨hM.1.1, hM.2.1.1, hM.2.1.2⟩
  unfold F12_run F12_run_123
  rw [e5, e6, x63, x51, x52, qn (by omega), qn (by omega)]
  have hM0 := hM.w54 (v := 0)
  have h54 : (uI X 61 54 0) 61 54 = 0 := by rw [uIe, upe]
  generalize (uI X 61 54 0) = Y at hM0 h54 ⊢
  have kj0 : KpJ J (uJ (uJ (uJ (uJ (uJ (uJ J 80 1 (s.1 10).toInt64) 80 2 (s.1 9).toInt64) 80 3 (s.1 11).toInt64) 80 4 s.2.2.2.2.1.toInt64) 80 5 s.2.2.2.2.2.toInt64) 80 6 (s.1 12).toInt64) := fun x hx => by
    have : x ≠ 80 := fun e => by rw [e] at hx; revert hx; decide
    rw [uJn this, uJn this, uJn this, uJn this, uJn this, uJn this]
  have hJ : ∀ o, 1 ≤ o → o < 7 → (uJ (uJ (uJ (uJ (uJ (uJ J 80 1 (s.1 10).toInt64) 80 2 (s.1 9).toInt64) 80 3 (s.1 11).toInt64) 80 4 s.2.2.2.2.1.toInt64) 80 5 s.2.2.2.2.2.toInt64) 80 6 (s.1 12).toInt64) 80 o = oWs s (o - 1) := by
    intro o h1 h2
    have : o = 1 ∨ o = 2 ∨ o = 3 ∨ o = 4 ∨ o = 5 ∨ o = 6 := by omega
    rcases this with e | e | e | e | e | e <;> subst e
    · rw [uJe, upJn (by decide), uJe, upJn (by decide), uJe, upJn (by decide), uJe, upJn (by decide), uJe, upJn (by decide), uJe, upJe]; rfl
    · rw [uJe, upJn (by decide), uJe, upJn (by decide), uJe, upJn (by decide), uJe, upJn (by decide), uJe, upJe]; rfl
    · rw [uJe, upJn (by decide), uJe, upJn (by decide), uJe, upJn (by decide), uJe, upJe]; rfl
    · rw [uJe, upJn (by decide), uJe, upJn (by decide), uJe, upJe]; rfl
    · rw [uJe, upJn (by decide), uJe, upJe]; rfl
    · rw [uJe, upJe]; rfl
  generalize (uJ (uJ (uJ (uJ (uJ (uJ J 80 1 (s.1 10).toInt64) 80 2 (s.1 9).toInt64) 80 3 (s.1 11).toInt64) 80 4 s.2.2.2.2.1.toInt64) 80 5 s.2.2.2.2.2.toInt64) 80 6 (s.1 12).toInt64) = U at kj0 hJ ⊢
  have y87 : Y 87 = B 87 := hM0.2.2.1 87 (by decide)
  have l3 := p3.le
  rw [y87, m5, m6]
  have eR : oTest c.2.2.2.2 (oWs s) = false → oRun S0 I0 N c s = some s := fun t => by unfold oRun; rw [if_neg (by rw [t]; decide)]
  refine ⟨(qin (by omega)).mpr (by omega), (qin (by omega)).mpr (by omega), fun q => ?_, fun q => ?_⟩
  · have q := (qle (by omega) (by omega)).mp q
    have ht : oTest c.2.2.2.2 (oWs s) = true := by
      cases ho : c.2.2.2.2 with
      | none => rfl
      | some v => rw [ho] at p3; exact absurd (DN.lt p3) (by omega)
    exact sp_run125 hn hV hF hN hN6 hB1 hB12 h20 h41 hR hnc h72 hj hk hM0 h54 hO hJ ht (fun e X' J' a1 a2 a3 => hno e X' J' a1 a2 (kj0.trans a3)) (fun s' e X' J' a1 a2 => hyes s' e X' J' a1 (kj0.trans a2))
  · have q : ¬ b6 ≤ b5 := fun g => q ((qle (by omega) (by omega)).mpr g)
    refine sp_sumM (o := c.2.2.2.2) (r := s.1) (dn := s.2.2.2.2.1) (en := s.2.2.2.2.2) (g := g) (ra := ra) (b1 := b5) (b2 := b6) (nc := nc) (N := N) (B := NB) hn h54 (by rw [hM0.2.2.2.1 20 (by decide)]; exact h20) (by omega) (by rw [y87]; exact m5) (by rw [y87]; exact m6) t6 hnc (fun i hi => by rw [hM0.2.2.1 72 (by decide), hM0.2.2.1 73 (by decide)]; exact h72 i hi) p3 hM0.1.1 sN hN6 sB hB12 hJ (fun x Z J1 f1 r1 => ?_)
    have hMZ := hM0.sf f1
    have kj1 : KpJ J J1 := kj0.trans (KpJ.sf f1)
    have hvt := hk.2.2.2.2.2.2
    have run : ∀ (h : Z 61 54 = 0) (ht : oTest c.2.2.2.2 (oWs s) = true), F12_run_125 n S k Z J1 (nI (8 * j)) := fun h ht => sp_run125 hn hV hF hN hN6 hB1 hB12 h20 h41 hR hnc h72 hj hk hMZ h hO (fun o a b => by rw [f1.2.2.1 80 (by decide) (by decide)]; exact hJ o a b) ht (fun e X' J' a1 a2 a3 => hno e X' J' a1 a2 (kj1.trans a3)) (fun s' e X' J' a1 a2 => hyes s' e X' J' a1 (kj1.trans a2))
    cases ho : c.2.2.2.2 with
    | none => rw [ho] at p3; exact absurd (show b5 = b6 from p3) (by omega)
    | some v =>
      rw [ho] at r1 eR run
      have et : oTest (some v) (oWs s) = decide (v (oWs s) = some 1) := rfl
      have r1 : (match v (oWs s) with
        | none => Z 61 54 = 1
        | some y => x = y.toInt32 ∧ Z 61 54 = 0) := r1
      cases hv : v (oWs s) with
      | none =>
        rw [hv] at r1 et
        have r1 : Z 61 54 = 1 := r1
        have n54 : ¬ Z 61 54 = 0 := by rw [r1]; decide
        exact ⟨fun _ => hyes s (eR (by rw [et]; rfl)) Z J1 hMZ kj1, fun y => absurd y n54⟩
      | some y =>
        rw [hv] at r1 et
        have r1 : x = y.toInt32 ∧ Z 61 54 = 0 := r1
        refine ⟨fun g => absurd r1.2 g, fun _ => ?_⟩
        rcases hvt v ho _ _ hv with e | e
        · subst e
          have ex : x = 0 := by rw [r1.1]; decide +kernel
          refine ⟨fun g => absurd ex g, fun _ => hyes s (eR (by rw [et]; exact decide_eq_false (fun g => by have := Option.some.inj g; revert this; decide))) Z J1 hMZ kj1⟩
        · subst e
          have ex : ¬ x = 0 := by rw [r1.1]; decide +kernel
          refine ⟨fun _ => run r1.2 (by rw [et]; exact decide_eq_true rfl), fun g => absurd g ex⟩
/-- a clause as often as it says -/
theorem sp_repM (hn : 400 < n) (hV : VQ S0 I0 S B) (hF : FO S B r0) (hN : r0 0 = nI N) (hN6 : N ≤ 6) (hB1 : r0 1 = nI NB) (hB12 : NB ≤ 12) (h20 : B 61 20 = 0) (h41 : B 61 41 = 63) {j nc : Nat} {g ra : Nat → Nat} {c : aC5} (hR : MRo (B 87) g ra j nc c) (hnc : nc ≤ 400) (h72 : ∀ i, i < nc → B 72 i = nI (g i) ∧ B 73 i = nI (ra i) ∧ g i < 40 ∧ ra i < 100000) (hj : j < 12) (hk : CLk 1 c) {k : Int32 → tHI → tHJ → Prop} {kb : tHI → tHJ → Int32 → Int32 → Prop} {v1 : Int32} : ∀ (d f i : Nat) (s : oT) (X : tHI) (J : tHJ), i + d = c.2.1 → d < f → oM B s X → oOK r0 s → (oRep S0 I0 N c d s = none → ∀ X' J', oMf B X' → (∀ j, j < 9 ∨ 26 ≤ j → X' 63 j = r0 j) → KpJ J J' → F12_giveBack n S X' J' v1 (fun I22 J23 => F12_tell n S (uI I22 61 53 (nI j)) J23 (-3) (fun x I24 J25 => k x I24 J25))) → (∀ s', oRep S0 I0 N c d s = some s' → ∀ X' J', oM B s' X' → KpJ J J' → kb X' J' v1 (nI (j + 1))) → F12_orders_L150 n S k kb f X J v1 (nI j) (nI i) := by
  have m7 : B 87 (8 * j + 7) = nI c.2.1 := by obtain ⟨b1, b2, b3, b4, b5, b6, ⟨-, m7⟩, -⟩ := hR; exact m7
  have e8 : 8 * nI j = nI (8 * j) := qmulr _ 8
  have e7 : nI (8 * j) + 7 = nI (8 * j + 7) := nI_add _ 7
  have t20 := hk.2.1.2
  intro d
  induction d with
  | zero =>
    intro f i s X J hi hf hM hO hno hyes
    obtain ⟨f, rfl⟩ : ∃ g, f = g + 1 := ⟨f - 1, by omega⟩
    show F12_orders_150 n S k kb (F12_orders_L150 n S k kb f) X J v1 (nI j) (nI i)
    unfold F12_orders_150
    rw [e8, e7, qn (by omega), hM.2.2.1 87 (by decide), m7, nI_1]
    exact ⟨(qin (by omega)).mpr (by omega), fun _ => hyes s rfl X J hM (KpJ.rf J), fun y => absurd ((qle (by omega) (by omega)).mpr (by omega)) y⟩
  | succ d ih =>
    intro f i s X J hi hf hM hO hno hyes
    obtain ⟨f, rfl⟩ : ∃ g, f = g + 1 := ⟨f - 1, by omega⟩
    show F12_orders_150 n S k kb (F12_orders_L150 n S k kb f) X J v1 (nI j) (nI i)
    unfold F12_orders_150
    rw [e8, e7, qn (by omega), hM.2.2.1 87 (by decide), m7, nI_1]
    have eR : oRep S0 I0 N c (d + 1) s = (match oRun S0 I0 N c s with
      | none => none
      | some s' => oRep S0 I0 N c d s') := rfl
    rw [eR] at hno hyes
    refine ⟨(qin (by omega)).mpr (by omega), fun y => absurd ((qle (by omega) (by omega)).mp y) (by omega), fun _ => ?_⟩
    refine sp_runM hn hV hF hN hN6 hB1 hB12 h20 h41 hR hnc h72 hj hk hM hO (fun en X' J' a1 a2 a3 => ?_) (fun s' es X' J' a1 a2 => ?_)
    · rw [en] at hno
      exact ⟨fun y => absurd y (by decide), fun _ => hno rfl X' J' a1 a2 a3⟩
    · rw [es] at hno hyes
      refine ⟨fun _ => ?_, fun y => absurd (by decide) y⟩
      rw [nI_1]
      exact ih f (i + 1) s' X' J' (by omega) (by omega) a1 (oRun_ok hO hN hN6 es) (fun e X2 J2 b1 b2 b3 => hno e X2 J2 b1 b2 (a2.trans b3)) (fun s2 e X2 J2 b1 b2 => hyes s2 e X2 J2 b1 (a2.trans b2))
/-- all clauses -/
theorem sp_allM (hn : 400 < n) (hV : VQ S0 I0 S B) (hF : FO S B r0) (hN : r0 0 = nI N) (hN6 : N ≤ 6) (hB1 : r0 1 = nI NB) (hB12 : NB ≤ 12) (h20 : B 61 20 = 0) (h41 : B 61 41 = 63) {nc : Nat} {g ra : Nat → Nat} {cs : List aC5} (hcs : cs.length ≤ 12) (h21 : B 61 21 = nI cs.length) (hR : ∀ j c, cs[j]? = some c → MRo (B 87) g ra j nc c) (hnc : nc ≤ 400) (h72 : ∀ i, i < nc → B 72 i = nI (g i) ∧ B 73 i = nI (ra i) ∧ g i < 40 ∧ ra i < 100000) (hok : ∀ c, c ∈ cs → CLk 1 c) {k : Int32 → tHI → tHJ → Prop} {v1 : Int32} : ∀ (cs2 pre : List aC5) (f : Nat) (s : oT) (X : tHI) (J : tHJ), cs = pre ++ cs2 → cs2.length < f → oM B s X → oOK r0 s → (∀ j, oAll S0 I0 N cs2 pre.length s = .inl j → ∀ X' J', oMf B X' → (∀ j, j < 9 ∨ 26 ≤ j → X' 63 j = r0 j) → KpJ J J' → F12_giveBack n S X' J' v1 (fun I22 J23 => F12_tell n S (uI I22 61 53 (nI j)) J23 (-3) (fun x I24 J25 => k x I24 J25))) → (∀ s', oAll S0 I0 N cs2 pre.length s = .inr s' → ∀ X' J', oM B s' X' → oOK r0 s' → KpJ J J' → F12_tell n S X' J' (X' 61 51) (fun x I14 J15 => k x I14 J15)) → F12_orders_L140 n S k f X J v1 (nI pre.length) := by
  intro cs2
  induction cs2 with
  | nil =>
    intro pre f s X J e hf hM hO hno hyes
    obtain ⟨f, rfl⟩ : ∃ g, f = g + 1 := ⟨f - 1, by omega⟩
    rw [List.append_nil] at e
    subst e
    show F12_orders_140 n S k (F12_orders_L140 n S k f) X J v1 (nI cs.length)
    unfold F12_orders_140
    rw [hM.2.2.2.1 21 (by decide), h21]
    exact ⟨fun _ => hyes s rfl X J hM hO (KpJ.rf J), fun y => absurd ((qle (by omega) (by omega)).mpr (Nat.le_refl _)) y⟩
  | cons c cs2 ih =>
    intro pre f s X J e hf hM hO hno hyes
    have hf : cs2.length + 1 < f := hf
    obtain ⟨f, rfl⟩ : ∃ g, f = g + 1 := ⟨f - 1, by omega⟩
    have el : cs.length = pre.length + (cs2.length + 1) := by rw [e, List.length_append]; rfl
    have hg : cs[pre.length]? = some c := by rw [e, List.getElem?_append_right (Nat.le_refl _), Nat.sub_self]; rfl
    have hck := hok c (List.mem_of_getElem? hg)
    have hRc := hR pre.length c hg
    have nl : ¬ nI cs.length ≤ nI pre.length := fun y => by have := (qle (by omega) (by omega)).mp y; omega
    show F12_orders_140 n S k (F12_orders_L140 n S k f) X J v1 (nI pre.length)
    unfold F12_orders_140
    rw [hM.2.2.2.1 21 (by decide), h21]
    refine ⟨fun y => absurd y nl, fun _ => ?_⟩
    have eA : oAll S0 I0 N (c :: cs2) pre.length s = (match oRep S0 I0 N c c.2.1 s with
      | none => .inl pre.length
      | some s' => oAll S0 I0 N cs2 (pre.length + 1) s') := rfl
    rw [eA] at hno hyes
    refine sp_repM hn hV hF hN hN6 hB1 hB12 h20 h41 hRc hnc h72 (by omega) hck c.2.1 n 0 s X J (by omega) (by have := hck.2.1.2; omega) hM hO (fun en X' J' a1 a2 a3 => ?_) (fun s' es X' J' a1 a2 => ?_)
    · rw [en] at hno
      exact hno pre.length rfl X' J' a1 a2 a3
    · rw [es] at hno hyes
      have hO' := oRep_ok hN hN6 _ _ _ hO es
      have epl : (pre ++ [c]).length = pre.length + 1 := by rw [List.length_append]; rfl
      rw [← epl]
      refine ih (pre ++ [c]) f s' X' J' (by rw [e, List.append_assoc]; rfl) (by omega) a1 hO' (fun j ej X2 J2 b1 b2 b3 => ?_) (fun s2 e2 X2 J2 b1 b2 b3 => ?_)
      · rw [epl] at ej
        exact hno j ej X2 J2 b1 b2 (a2.trans b3)
      · rw [epl] at e2
        exact hyes s2 e2 X2 J2 b1 b2 (a2.trans b3)
end ORO
