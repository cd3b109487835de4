/-! orders: all clauses by the class; acts by the model -/
section ORD
variable {n : Nat} {S S0 : tSH} {I0 B : tHI} {r0 : Nat → Int32} {N : Nat}
theorem sp_ordC (hT : TY S) (hn : 400 < n) (hV : VQ S0 I0 S B) (hF : FO S B r0) (hN : r0 0 = nI N) (hN6 : N ≤ 6) (h49 : B 49 8 = -1 ∧ B 49 9 = -1 ∧ B 49 10 = -1) (h50 : ∀ y, y < 6 → B 50 y = -1) {len : Nat} {cs : List aC5} (h5 : B 41 5 = nI len) (hlen : len ≤ 400) (hc : CWd (B 42) len) (h4 : B 41 4 = nI cs.length) (hcs : cs.length ≤ 12) (hok : ∀ c, c ∈ cs → CLk 1 c) (hR : ∀ j c, cs[j]? = some c → CRel 24 (B 42) (B 43) (B 44) (B 45) j len c) {k : Int32 → tSH → tHI → tHJ → Prop} : ∀ (cs2 pre : List aC5) (f : Nat) (s : oT) (X : tHI) (J : tHJ), cs = pre ++ cs2 → cs2.length < f → oC S B s X → oOK r0 s → (∀ j, oAll S0 I0 N cs2 pre.length s = .inl j → ∀ X' J', oCf B X' → CJ J J' → F8_copyFrom n S X' J' 1 17 (fun S2 I2 J2 => ty S2 0 11 ∧ F1_copyFrom n S2 I2 J2 34 36 (fun I3 J3 => F11_settle n S2 (uI I3 0 16 (nI j)) J3 (-3) (fun x I4 J4 => k x S2 I4 J4)))) → (∀ s', oAll S0 I0 N cs2 pre.length s = .inr s' → ∀ X' J', oC S B s' X' → oOK r0 s' → CJ J J' → F11_settle n S X' J' (X' 0 14) (fun x I2 J2 => k x S I2 J2)) → F11_orders_L n S k f X J (nI pre.length) := by
  intro cs2
  induction cs2 with
  | nil =>
    intro pre f s X J e hf hC hO hno hyes
    obtain ⟨f, rfl⟩ : ∃ g, f = g + 1 := ⟨f - 1, by omega⟩
    rw [List.append_nil] at e
    subst e
    have x4 : X 41 4 = nI cs.length := by rw [hC.2.2.2.1 41 (by decide)]; exact h4
    unfold F11_orders_L
    rw [x4]
    exact ⟨fun _ => hyes s rfl X J hC hO (CJ.rf J), fun y => absurd ((qle (by omega) (by omega)).mpr (Nat.le_refl _)) y⟩
  | cons c cs2 ih =>
    intro pre f s X J e hf hC hO hno hyes
    have hf : cs2.length + 1 < f := hf
    obtain ⟨f, rfl⟩ : ∃ g, f = g + 1 := ⟨f - 1, by omega⟩
    have el : cs.length = pre.length + (cs2.length + 1) := by rw [e, List.length_append]; rfl
    have hg : cs[pre.length]? = some c := by rw [e, List.getElem?_append_right (Nat.le_refl _), Nat.sub_self]; rfl
    have hck := hok c (List.mem_of_getElem? hg)
    have hRc := hR pre.length c hg
    have o41 := hC.2.2.2.1
    have x4 : X 41 4 = nI cs.length := by rw [o41 41 (by decide)]; exact h4
    have l43 := hT.2.2.2.2.2.1
    have l44 := hT.2.2.2.2.2.2.1
    have nn : ¬ nI pre.length < 0 := fun y => by
      rw [Int32.lt_iff_toInt_lt, qi (by omega), tz0] at y
      omega
    have nl : ¬ nI cs.length ≤ nI pre.length := fun y => by have := (qle (by omega) (by omega)).mp y; omega
    unfold F11_orders_L
    rw [x4]
    refine ⟨fun y => absurd y nl, fun _ => ?_⟩
    obtain ⟨-, -, -, -, r1, r2, -⟩ := id hRc
    have vk : V6_kindOf S X J 41 (nI pre.length) = nI c.1 := by
      unfold V6_kindOf
      rw [x4, if_neg nn, if_neg nl, qn (by omega)]
      show X 43 pre.length = _
      rw [o41 43 (by decide)]; exact r1
    have vt : V6_timesOf S X J 41 (nI pre.length) = nI c.2.1 := by
      unfold V6_timesOf
      rw [x4, if_neg nn, if_neg nl, qn (by omega)]
      show X 44 pre.length = _
      rw [o41 44 (by decide)]; exact r2
    have eA : oAll S0 I0 N (c :: cs2) pre.length s = (match oRep S0 I0 N c c.2.1 s with
      | none => .inl pre.length
      | some s' => oAll S0 I0 N cs2 (pre.length + 1) s') := rfl
    rw [eA] at hno hyes
    unfold F11_runClause P6_kindOf P6_timesOf
    rw [vk, vt, x4]
    refine ⟨⟨fun _ => trivial, fun _ => ⟨fun _ => trivial, fun _ => ⟨?_, trivial⟩⟩⟩, ⟨fun _ => trivial, fun _ => ⟨fun _ => trivial, fun _ => ⟨?_, trivial⟩⟩⟩, ?_⟩
    · show vp_in _ (sL S 43)
      rw [l43]; exact (qin (by omega)).mpr (by omega)
    · show vp_in _ (sL S 44)
      rw [l44]; exact (qin (by omega)).mpr (by omega)
    refine sp_runC hT hn hV hF hN hN6 h49 h50 h5 hlen hc (by omega) hRc hck.1 hck.2.1.2 c.2.1 n 0 s X J (by omega) (by have := hck.2.1.2; omega) hC hO (fun en X' J' a1 a2 => ?_) (fun s' es X' J' a1 a2 => ?_)
    · rw [en] at hno
      exact ⟨fun _ => hno pre.length rfl X' J' a1 a2, fun y => absurd rfl y⟩
    · rw [es] at hno hyes
      refine ⟨fun y => absurd y (by decide), fun _ => ?_⟩
      have hO' := oRep_ok hN hN6 _ _ _ hO es
      have epl : (pre ++ [c]).length = pre.length + 1 := by rw [List.length_append]; rfl
      rw [nI_1, ← epl]
      refine ih (pre ++ [c]) f s' X' J' (by rw [e, List.append_assoc]; rfl) (by omega) a1 hO' (fun j ej X2 J2 b1 b2 => ?_) (fun s2 e2 X2 J2 b1 b2 b3 => ?_)
      · rw [epl] at ej
        exact hno j ej X2 J2 b1 (a2.trans b2)
      · rw [epl] at e2
        exact hyes s2 e2 X2 J2 b1 b2 (a2.trans b3)
end ORD
section OAM
variable {n : Nat} {S : tSH} {I : tHI} {J : tHJ} {r : Nat → Int32} {N kd : Nat} {a b : Int32}
theorem big_i {v : Int64} (h : v = 2000000000) : v.toInt32.toInt = 2000000000 := by subst h; decide +kernel
theorem why_big1 (hK : RK r) (hN6 : N ≤ 6) (hkd : kd ≤ 4) (ha : a.toInt = 2000000000) : ¬ whyA S I r N kd a b = 0 := by
  obtain ⟨g, g1, g2, g3⟩ := hK.1.2.2.2.2.2.1
  have g4 : (r 5).toInt = g := by rw [g1, qi (by omega)]
  obtain ⟨d, d1, d2, d3⟩ := hK.1.2.2.2.2.2.2.1
  have d4 : (r 6).toInt = d := by rw [d1, qi (by omega)]
  have n1 : ¬ (-1 : Int32) = 0 := by decide
  have n2 : ¬ (-2 : Int32) = 0 := by decide
  intro hw
  unfold whyA at hw
  by_cases k0 : kd = 0
  · rw [if_pos k0, if_neg (by omega)] at hw; exact n1 hw
  rw [if_neg k0] at hw
  by_cases k1 : kd = 1
  · rw [if_pos k1, if_neg (by omega)] at hw; exact n1 hw
  rw [if_neg k1] at hw
  by_cases k2 : kd = 2
  · rw [if_pos k2, if_neg (by omega)] at hw; exact n1 hw
  rw [if_neg k2] at hw
  by_cases k3 : kd = 3
  · rw [if_pos k3] at hw
    by_cases c : 0 ≤ b.toInt ∧ b.toInt ≤ 3
    · rw [if_pos c, if_neg (by omega)] at hw; exact n2 hw
    · rw [if_neg c] at hw; exact n1 hw
  rw [if_neg k3, if_pos (by omega)] at hw
  by_cases c : -2 ≤ b.toInt ∧ b.toInt ≤ 2
  · rw [if_pos c, if_neg (by omega)] at hw; exact n2 hw
  · rw [if_neg c] at hw; exact n1 hw
theorem why_big2 (hkd : kd = 3 ∨ kd = 4) (hb : b.toInt = 2000000000) : ¬ whyA S I r N kd a b = 0 := by
  have n1 : ¬ (-1 : Int32) = 0 := by decide
  intro hw
  rcases hkd with k | k <;> subst k
  · unfold whyA at hw
    rw [if_neg (by decide), if_neg (by decide), if_neg (by decide), if_pos rfl, if_neg (by omega)] at hw; exact n1 hw
  · unfold whyA at hw
    rw [if_neg (by decide), if_neg (by decide), if_neg (by decide), if_neg (by decide), if_pos rfl, if_neg (by omega)] at hw; exact n1 hw
theorem act_b {b' : Int32} (hkd : kd ≤ 5) (h : ¬ (kd = 3 ∨ kd = 4)) : whyA S I r N kd a b = whyA S I r N kd a b' ∧ stepA S I r N kd a b = stepA S I r N kd a b' ∧ ansA S I r N kd a b = ansA S I r N kd a b' := by
  have : kd = 0 ∨ kd = 1 ∨ kd = 2 ∨ kd = 5 := by omega
  rcases this with k | k | k | k <;> subst k <;> exact ⟨by unfold whyA; simp, by unfold stepA; simp, by unfold ansA; simp⟩
theorem act_5 {a' b' : Int32} : whyA S I r N 5 a b = whyA S I r N 5 a' b' ∧ stepA S I r N 5 a b = stepA S I r N 5 a' b' ∧ ansA S I r N 5 a b = ansA S I r N 5 a' b' := ⟨by unfold whyA; simp, by unfold stepA; simp, by unfold ansA; simp⟩
/-- a sum as the model has it -/
def oMx (o : Option tV) (w : Nat → Int64) (x : Int32) : Prop := match o with
  | none => x = -1
  | some v => ∃ y, v w = some y ∧ x = y.toInt32
def oActM (S : tSH) (I : tHI) (N kd : Nat) (a b : Int32) (s : oT) : Option oT := oAct S I N kd a b s
theorem oArg_some {v : tV} {w : Nat → Int64} {y : Int64} (h : v w = some y) : oArg (some v) w = if y = 2000000000 then none else some y := by
  unfold oArg
  have e : oSc (some v) w = y := by show rC (v w) = y; rw [h]; rfl
  rw [e]
theorem oArg_no {v : tV} {w : Nat → Int64} (h : v w = none) : oArg (some v) w = none := by
  unfold oArg
  have e : oSc (some v) w = 2000000000 := by show rC (v w) = _; rw [h]; rfl
  rw [e, if_pos rfl]
theorem oArg_none {w : Nat → Int64} : oArg none w = some 0 := by
  unfold oArg
  rw [show oSc none w = 0 from rfl, if_neg (by decide)]
/-- by the model's own sums the act comes to the same -/
theorem oRun_m {c : aC5} {s : oT} {x4 x7 : Int32} (hk : CLk 1 c) (hK : RK s.1) (hN6 : N ≤ 6) (ht : oTest c.2.2.2.2 (oWs s) = true) (h1 : oMx c.2.2.1 (oWs s) x4) (h2 : oMx c.2.2.2.1 (oWs s) x7) : oRun S I N c s = oAct S I N c.1 x4 x7 s := by
  obtain ⟨kd, tm, o1, o2, o3⟩ := c
  obtain ⟨k1, k2, k3, k4, k5, k6, k7⟩ := hk
  have k1 : kd ≤ 5 := k1
  have k3 : kd = 5 → o1 = none := k3
  have k4 : kd ≠ 5 → ∃ v, o1 = some v := k4
  have k5 : (1 = 0 ∨ ¬ (kd = 3 ∨ kd = 4)) → o2 = none := k5
  have k6 : ¬ (1 = 0 ∨ ¬ (kd = 3 ∨ kd = 4)) → ∃ v, o2 = some v := k6
  have h1 : oMx o1 (oWs s) x4 := h1
  have h2 : oMx o2 (oWs s) x7 := h2
  have e : oRun S I N (kd, tm, o1, o2, o3) s = (match oArg o1 (oWs s) with
    | none => none
    | some a => match oArg o2 (oWs s) with
      | none => none
      | some b => oAct S I N kd a.toInt32 b.toInt32 s) := by
    unfold oRun
    rw [if_pos ht]
    rfl
  rw [e]
  show _ = oAct S I N kd x4 x7 s
  have key : ∀ a b a' b' : Int32, (whyA S I s.1 N kd a b = whyA S I s.1 N kd a' b' ∧ stepA S I s.1 N kd a b = stepA S I s.1 N kd a' b' ∧ ansA S I s.1 N kd a b = ansA S I s.1 N kd a' b') → oAct S I N kd a b s = oAct S I N kd a' b' s := by
    intro a b a' b' ⟨p1, p2, p3⟩
    unfold oAct
    rw [p1, p2, p3]
  have none_of : ¬ whyA S I s.1 N kd x4 x7 = 0 → oAct S I N kd x4 x7 s = none := fun q => if_neg q
  by_cases c5 : kd = 5
  · subst c5
    have e1 := k3 rfl
    have e2 := k5 (Or.inr (by omega))
    subst e1 e2
    rw [oArg_none]
    show (match oArg none (oWs s) with
      | none => none
      | some b => oAct S I N 5 (0 : Int64).toInt32 b.toInt32 s) = _
    rw [oArg_none]
    exact key _ _ _ _ act_5
  · obtain ⟨v1, e1⟩ := k4 c5
    subst e1
    obtain ⟨y1, f1, f2⟩ := h1
    rw [oArg_some f1]
    by_cases b1 : y1 = 2000000000
    · rw [if_pos b1]
      show none = _
      rw [none_of (why_big1 hK hN6 (by omega) (by rw [f2]; exact big_i b1))]
    · rw [if_neg b1]
      show (match oArg o2 (oWs s) with
        | none => none
        | some b => oAct S I N kd y1.toInt32 b.toInt32 s) = _
      by_cases c3 : kd = 3 ∨ kd = 4
      · obtain ⟨v2, e2⟩ := k6 (fun g => by rcases g with g | g; exact absurd g (by decide); exact g c3)
        subst e2
        obtain ⟨y2, d1, d2⟩ := h2
        rw [oArg_some d1]
        by_cases b2 : y2 = 2000000000
        · rw [if_pos b2]
          show none = _
          rw [none_of (why_big2 c3 (by rw [d2]; exact big_i b2))]
        · rw [if_neg b2]
          show oAct S I N kd y1.toInt32 y2.toInt32 s = _
          rw [f2, d2]
      · have e2 := k5 (Or.inr c3)
        subst e2
        rw [oArg_none]
        show oAct S I N kd y1.toInt32 (0 : Int64).toInt32 s = _
        rw [← f2]
        exact key _ _ _ _ (act_b k1 c3)
theorem oRun_n {c : aC5} {s : oT} (ht : oTest c.2.2.2.2 (oWs s) = true) (h : oArg c.2.2.1 (oWs s) = none ∨ oArg c.2.2.2.1 (oWs s) = none) : oRun S I N c s = none := by
  unfold oRun
  rw [if_pos ht]
  cases h1 : oArg c.2.2.1 (oWs s) with
  | none => rfl
  | some x =>
    cases h2 : oArg c.2.2.2.1 (oWs s) with
    | none => rfl
    | some y =>
      rcases h with g | g
      · rw [h1] at g; cases g
      · rw [h2] at g; cases g
theorem sp_actM {B h : Nat} {k : Int32 → tHI → tHJ → Prop} (hn : 400 < n) (hM : MQB S I N B) (hK : RK (I 63)) (c63 : I 61 41 = 63) (hh : h ≤ 16) (h61 : I 61 8 = nI h) (hkd : kd ≤ 5) (hno : MNo S I J N kd a b k) (hyes : MYes S I J N h kd a b k) : F12_act n S I J (nI kd) a b k := by
  have ne : ∀ m : Nat, m < 2147483648 → nI kd = nI m → kd = m := fun m hm e => (qeq (by omega) hm).mp e
  unfold F12_act
  refine ⟨fun e => ?_, fun e => ?_, fun e => ?_, fun e => ?_, fun e => ?_, fun e => ?_⟩
  · have := ne 0 (by omega) e
    subst this
    exact sp_gasM hn hK hh h61 hno hyes
  · have := ne 1 (by omega) e
    subst this
    exact sp_brakeM hn hK hh h61 hno hyes
  · have := ne 2 (by omega) e
    subst this
    exact sp_laneM hn hK hh h61 hno hyes
  · have := ne 3 (by omega) e
    subst this
    exact sp_putM hn hM c63 hh h61 hno hyes
  · have := ne 4 (by omega) e
    subst this
    exact sp_leanM hn hK hM.1.2.1 hM.1.2.2.1 hh h61 hno hyes
  · have hs := sw_i (by omega) (by omega) e
    rw [qi (by omega)] at hs
    have : kd = 5 := by omega
    subst this
    exact sp_rideM hn hM hK c63 hh h61 hno hyes
end OAM
