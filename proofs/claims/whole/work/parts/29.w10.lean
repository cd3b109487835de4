set_option maxRecDepth 100000 in
theorem W2_outcome_80 {K : tK} {B : tB} {S : tSH} {MC MS : Nat} (hO : tKO K B RX2 cX2_outcome 5) (hR : kR K = tRm 6 MC MS) (hG : tGr S) {n : Nat} (t0 : ty S 48 2) {k : Int32 → tHI → tHJ → Prop} (hQ : tRet K B (tQi B (tPi S k)) 0 0 (some .int)) {I : tHI} {J : tHJ} {s0 : Int32} (h : F2_outcome_80 n S k I J s0) : tWG K B 0 0 S I J 80 [none, none, none, none, none] [vI s0] := by
  exact gIret hO hQ (by decide +kernel) ⟨rfl, h⟩
set_option maxRecDepth 100000 in
theorem W2_outcome_75 {K : tK} {B : tB} {S : tSH} {MC MS : Nat} (hO : tKO K B RX2 cX2_outcome 5) (hR : kR K = tRm 6 MC MS) (hG : tGr S) {n : Nat} (t0 : ty S 48 2) {k : Int32 → tHI → tHJ → Prop} (hQ : tRet K B (tQi B (tPi S k)) 0 0 (some .int)) {I : tHI} {J : tHJ} (h : F2_outcome_75 n S k I J) : tWG K B 0 0 S I J 75 [none, none, none, none, none] [] := by
  refine gBk (pe := 80) hO [oI (.iconst 0) 0, o0 (.goto 4)] (by decide +kernel) (show tWG K B 0 0 S I J 80 [none, none, none, none, none] [vI 0] from ?_)
  exact W2_outcome_80 hO hR hG t0 hQ h
set_option maxRecDepth 20000 in
theorem hc2_outcome : tCV yX2_outcome cX2_outcome 5 (some .int) 2 := ⟨⟨(List.mem_of_getElem? (i := 969) rfl), (List.mem_of_getElem? (i := 37) (by decide +kernel)), by decide +kernel⟩, (List.mem_of_getElem? (i := 967) (by decide +kernel)), (List.mem_of_getElem? (i := 968) (by decide +kernel))⟩
set_option maxRecDepth 100000 in
theorem M2_outcome {l : Launch} {B : tB} {S : tSH} {I : tHI} {J : tHJ} {v1 : Int32} {v2 : Int32} {n : Nat} {k : Int32 → tHI → tHJ → Prop} (t0 : ty S 48 2) (h : F2_outcome n S I J v1 v2 k) : Met l yX2_outcome (tWs yX2_outcome cX2_outcome 5 (some .int)) (tRm 6 0 0) (tPc B [vR 48, vI v1, vI v2] S I J) (tQi B (tPi S k)) 0 0 (tA B) :=
  tEntry (by decide +kernel) [some (vR 48), some (vI v1), some (vI v2), none, none] rfl rfl (Nat.le_of_ble_eq_true rfl) (fun K hl hR hO hQ hG => by
  subst hl
  refine gBk (pe := 8) hO [o0 (.aload_n 0), oF (.getfield 18) 2 2 155 1, oF (.getfield 94) 8 1 447 7, o0 (.iload_n 1)] (by decide +kernel) (And.intro t0 (And.intro rfl (And.intro (tGr.abs hG t0 (k := 2) rfl) (And.intro rfl (show tWG K B 0 0 S I J 8 [some (vR 48), some (vI v1), some (vI v2), none, none] [vI v1, vR 7] from ?_)))))
  refine gCVi_z hO (M7_has (tGr.off hG (tGr.abs hG t0 (k := 2) rfl) (k := 1) rfl)) hc7_has (idx := 98) (w := 452) (by decide +kernel) hR (by omega) (tGr.off hG (tGr.abs hG t0 (k := 2) rfl) (k := 1) rfl) ⟨by decide, rfl⟩ (vs := [vI v1]) (st := []) ⟨rfl, Nat.le_of_ble_eq_true rfl, rfl⟩ (by decide +kernel) (fun z1 => ?_)
  have hj2 : ∀ (m3 : Int32), m3 = (if (V7_has S I J 7 v1) = 0 then 0 else (I 8 v1.toNatClampNeg)) → tWG K B 0 0 S I J 30 [some (vR 48), some (vI v1), some (vI v2), none, none] [vI m3] := by
    intro m3 em3
    subst em3
    have h := h.2
    refine gBk (pe := 39) hO [o0 (.istore_n 3), o0 (.iload_n 3), o0 (.iload_n 2), o0 .imul, o0 (.iload_n 2), o0 .imul, o0 (.istore 4), o0 (.iload_n 3)] (by decide +kernel) (And.intro (Nat.le_of_ble_eq_true rfl) (And.intro (Nat.le_of_ble_eq_true rfl) (show tWG K B 0 0 S I J 39 [some (vR 48), some (vI v1), some (vI v2), some (vI (if (V7_has S I J 7 v1) = 0 then 0 else (I 8 v1.toNatClampNeg))), some (vI (((if (V7_has S I J 7 v1) = 0 then 0 else (I 8 v1.toNatClampNeg)) * v2) * v2))] [vI (if (V7_has S I J 7 v1) = 0 then 0 else (I 8 v1.toNatClampNeg))] from ?_)))
    refine gIfLe hO (off := 20) (tgt := 59) (by decide +kernel) (by decide) (fun c5 => ?_) (fun c5 => ?_)
    · have h := h.1 c5
      refine gBk (pe := 60) hO [o0 (.iload_n 3)] (by decide +kernel) (show tWG K B 0 0 S I J 60 [some (vR 48), some (vI v1), some (vI v2), some (vI (if (V7_has S I J 7 v1) = 0 then 0 else (I 8 v1.toNatClampNeg))), some (vI (((if (V7_has S I J 7 v1) = 0 then 0 else (I 8 v1.toNatClampNeg)) * v2) * v2))] [vI (if (V7_has S I J 7 v1) = 0 then 0 else (I 8 v1.toNatClampNeg))] from ?_)
      refine gIfEq hO (off := 15) (tgt := 75) (by decide +kernel) (by decide) (fun c6 => ?_) (fun c6 => ?_)
      · have h := h.1 c6
        exact gWeak (L' := [none, none, none, none, none]) trivial (W2_outcome_75 hO hR hG t0 hQ h)
      · have h := h.2 c6
        refine gBk (pe := 69) hO [o0 (.iload 4), o0 .ineg, o0 (.aload_n 0), oI (.iconst 0) 0, o0 (.iload_n 1)] (by decide +kernel) (show tWG K B 0 0 S I J 69 [some (vR 48), some (vI v1), some (vI v2), some (vI (if (V7_has S I J 7 v1) = 0 then 0 else (I 8 v1.toNatClampNeg))), some (vI (((if (V7_has S I J 7 v1) = 0 then 0 else (I 8 v1.toNatClampNeg)) * v2) * v2))] [vI v1, vI 0, vR 48, vI (-(((if (V7_has S I J 7 v1) = 0 then 0 else (I 8 v1.toNatClampNeg)) * v2) * v2))] from ?_)
        refine gCVi_c hO (M2_tell t0 h) hc2_tell (idx := 148) (w := 970) (by decide +kernel) hR (by omega) t0 ⟨by decide, rfl⟩ (vs := [vI 0, vI v1]) (st := [vI (-(((if (V7_has S I J 7 v1) = 0 then 0 else (I 8 v1.toNatClampNeg)) * v2) * v2))]) ⟨rfl, Nat.le_of_ble_eq_true rfl, rfl⟩ (by decide +kernel) (fun x9 I7 J8 h => ?_)
        have hj10 : ∀ (m11 : Int32), m11 = (if x9 < (-(((if (V7_has S I J 7 v1) = 0 then 0 else (I 8 v1.toNatClampNeg)) * v2) * v2)) then (1 : Int32) else 0) → tWG K B 0 0 S I7 J8 80 [none, none, none, none, none] [vI m11] := by
          intro m11 em11
          subst em11
          exact gIret hO hQ (by decide +kernel) ⟨rfl, h⟩
        refine gIcGt hO (off := 7) (tgt := 79) (by decide +kernel) (by decide) (fun c12 => ?_) (fun c12 => ?_)
        · refine gBk (pe := 80) hO [oI (.iconst 1) 1] (by decide +kernel) (show tWG K B 0 0 S I7 J8 80 [some (vR 48), some (vI v1), some (vI v2), some (vI (if (V7_has S I J 7 v1) = 0 then 0 else (I 8 v1.toNatClampNeg))), some (vI (((if (V7_has S I J 7 v1) = 0 then 0 else (I 8 v1.toNatClampNeg)) * v2) * v2))] [vI 1] from ?_)
          exact gWeak (L' := [none, none, none, none, none]) trivial (hj10 _ (Eq.symm (if_pos c12)))
        · refine gBk (pe := 80) hO [oI (.iconst 0) 0, o0 (.goto 4)] (by decide +kernel) (show tWG K B 0 0 S I7 J8 80 [some (vR 48), some (vI v1), some (vI v2), some (vI (if (V7_has S I J 7 v1) = 0 then 0 else (I 8 v1.toNatClampNeg))), some (vI (((if (V7_has S I J 7 v1) = 0 then 0 else (I 8 v1.toNatClampNeg)) * v2) * v2))] [vI 0] from ?_)
          exact gWeak (L' := [none, none, none, none, none]) trivial (hj10 _ (Eq.symm (if_neg c12)))
    · have h := h.2 c5
      refine gBk (pe := 47) hO [o0 (.iload 4), o0 (.aload_n 0), oI (.iconst 1) 1, o0 (.iload_n 1)] (by decide +kernel) (show tWG K B 0 0 S I J 47 [some (vR 48), some (vI v1), some (vI v2), some (vI (if (V7_has S I J 7 v1) = 0 then 0 else (I 8 v1.toNatClampNeg))), some (vI (((if (V7_has S I J 7 v1) = 0 then 0 else (I 8 v1.toNatClampNeg)) * v2) * v2))] [vI v1, vI 1, vR 48, vI (((if (V7_has S I J 7 v1) = 0 then 0 else (I 8 v1.toNatClampNeg)) * v2) * v2)] from ?_)
      refine gCVi_c hO (M2_tell t0 h) hc2_tell (idx := 148) (w := 970) (by decide +kernel) hR (by omega) t0 ⟨by decide, rfl⟩ (vs := [vI 1, vI v1]) (st := [vI (((if (V7_has S I J 7 v1) = 0 then 0 else (I 8 v1.toNatClampNeg)) * v2) * v2)]) ⟨rfl, Nat.le_of_ble_eq_true rfl, rfl⟩ (by decide +kernel) (fun x15 I13 J14 h => ?_)
      have hj16 : ∀ (m17 : Int32), m17 = (if x15 < (((if (V7_has S I J 7 v1) = 0 then 0 else (I 8 v1.toNatClampNeg)) * v2) * v2) then (2 : Int32) else 0) → tWG K B 0 0 S I13 J14 58 [none, none, none, none, none] [vI m17] := by
        intro m17 em17
        subst em17
        exact gIret hO hQ (by decide +kernel) ⟨rfl, h⟩
      refine gIcGt hO (off := 7) (tgt := 57) (by decide +kernel) (by decide) (fun c18 => ?_) (fun c18 => ?_)
      · refine gBk (pe := 58) hO [oI (.iconst 2) 2] (by decide +kernel) (show tWG K B 0 0 S I13 J14 58 [some (vR 48), some (vI v1), some (vI v2), some (vI (if (V7_has S I J 7 v1) = 0 then 0 else (I 8 v1.toNatClampNeg))), some (vI (((if (V7_has S I J 7 v1) = 0 then 0 else (I 8 v1.toNatClampNeg)) * v2) * v2))] [vI 2] from ?_)
        exact gWeak (L' := [none, none, none, none, none]) trivial (hj16 _ (Eq.symm (if_pos c18)))
      · refine gBk (pe := 58) hO [oI (.iconst 0) 0, o0 (.goto 4)] (by decide +kernel) (show tWG K B 0 0 S I13 J14 58 [some (vR 48), some (vI v1), some (vI v2), some (vI (if (V7_has S I J 7 v1) = 0 then 0 else (I 8 v1.toNatClampNeg))), some (vI (((if (V7_has S I J 7 v1) = 0 then 0 else (I 8 v1.toNatClampNeg)) * v2) * v2))] [vI 0] from ?_)
        exact gWeak (L' := [none, none, none, none, none]) trivial (hj16 _ (Eq.symm (if_neg c18)))
  have h := h.1
  refine gIfEq hO (off := 18) (tgt := 29) (by decide +kernel) (by decide) (fun c4 => ?_) (fun c4 => ?_)
  · have h := h.1 c4
    refine gBk (pe := 30) hO [oI (.iconst 0) 0] (by decide +kernel) (show tWG K B 0 0 S I J 30 [some (vR 48), some (vI v1), some (vI v2), none, none] [vI 0] from ?_)
    exact (hj2 _ (Eq.symm (if_pos c4)))
  · have h := h.2 c4
    refine gBk (pe := 30) hO [o0 (.aload_n 0), oF (.getfield 18) 2 2 155 1, oF (.getfield 94) 8 1 447 7, oF (.getfield 104) 7 1 448 8, o0 (.iload_n 1), o0 .iaload, o0 (.goto 4)] (by decide +kernel) (And.intro t0 (And.intro rfl (And.intro (tGr.abs hG t0 (k := 2) rfl) (And.intro rfl (And.intro (tGr.off hG (tGr.abs hG t0 (k := 2) rfl) (k := 1) rfl) (And.intro rfl (And.intro (tGr.off hG (tGr.off hG (tGr.abs hG t0 (k := 2) rfl) (k := 1) rfl) (k := 1) rfl) (And.intro (tin (tGr.len hG (tGr.off hG (tGr.abs hG t0 (k := 2) rfl) (k := 1) rfl) (k := 1) rfl (by decide)) h.1) (show tWG K B 0 0 S I J 30 [some (vR 48), some (vI v1), some (vI v2), none, none] [vI (I 8 v1.toNatClampNeg)] from ?_)))))))))
    have h := h.2
    exact (hj2 _ (Eq.symm (if_neg c4))))
set_option maxRecDepth 100000 in
theorem W2_quickest_88 {K : tK} {B : tB} {S : tSH} {MC MS : Nat} (hO : tKO K B RX2 cX2_quickest 5) (hR : kR K = tRm 6 MC MS) (hG : tGr S) {n : Nat} (t0 : ty S 48 2) {k : Int32 → tHI → tHJ → Prop} (hQ : tRet K B (tQi B (tPi S k)) 0 0 (some .int)) {I : tHI} {J : tHJ} {v3 : Int32} (h : F2_quickest_88 n S k I J v3) : tWG K B 0 0 S I J 88 [none, none, none, some (vI v3), none] [] := by
  refine gBk (pe := 89) hO [o0 (.iload_n 3)] (by decide +kernel) (show tWG K B 0 0 S I J 89 [none, none, none, some (vI v3), none] [vI v3] from ?_)
  exact gIret hO hQ (by decide +kernel) ⟨rfl, h⟩
set_option maxRecDepth 100000 in
theorem W2_quickest_65 {K : tK} {B : tB} {S : tSH} {MC MS : Nat} (hO : tKO K B RX2 cX2_quickest 5) (hR : kR K = tRm 6 MC MS) (hG : tGr S) {n : Nat} (t0 : ty S 48 2) {k : Int32 → tHI → tHJ → Prop} (hQ : tRet K B (tQi B (tPi S k)) 0 0 (some .int)) {kb65 : tHI → tHJ → Int32 → Int32 → Int32 → Prop} (hkb65 : ∀ (I : tHI) (J : tHJ) (v2 : Int32) (v3 : Int32) (v4 : Int32), kb65 I J v2 v3 v4 → tWG K B 0 0 S I J 65 [none, none, some (vI v2), some (vI v3), some (vI v4)] []) {I : tHI} {J : tHJ} {v2 : Int32} {v3 : Int32} {v4 : Int32} (h : F2_quickest_65 n S k kb65 I J v2 v3 v4) : tWG K B 0 0 S I J 65 [none, none, some (vI v2), some (vI v3), some (vI v4)] [] := by
  refine gBk (pe := 66) hO [o0 (.iload_n 3)] (by decide +kernel) (show tWG K B 0 0 S I J 66 [none, none, some (vI v2), some (vI v3), some (vI v4)] [vI v3] from ?_)
  refine gIfLe hO (off := 22) (tgt := 88) (by decide +kernel) (by decide) (fun c15 => ?_) (fun c15 => ?_)
  · have h := h.1 c15
    exact gWeak (L' := [none, none, none, some (vI v3), none]) ⟨rfl, trivial⟩ (W2_quickest_88 hO hR hG t0 hQ h)
  · have h := h.2 c15
    refine gBk (pe := 70) hO [o0 (.iload_n 2)] (by decide +kernel) (show tWG K B 0 0 S I J 70 [none, none, some (vI v2), some (vI v3), some (vI v4)] [vI v2] from ?_)
    refine gAbs hO (idx := 153) (w := 1172) (by decide +kernel) hR (by omega) (st := []) (Nat.le_of_ble_eq_true rfl) rfl (by decide +kernel) ?_
    refine gBk (pe := 79) hO [o0 (.iload_n 3), o0 .imul, o0 (.iload_n 3), o0 .imul, o0 (.iload 4)] (by decide +kernel) (show tWG K B 0 0 S I J 79 [none, none, some (vI v2), some (vI v3), some (vI v4)] [vI v4, vI (((if 0 ≤ v2 then v2 else 0 - v2) * v3) * v3)] from ?_)
    refine gIcLe hO (off := 9) (tgt := 88) (by decide +kernel) (by decide) (fun c16 => ?_) (fun c16 => ?_)
    · have h := h.1 c16
      exact gWeak (L' := [none, none, none, some (vI v3), none]) ⟨rfl, trivial⟩ (W2_quickest_88 hO hR hG t0 hQ h)
    · have h := h.2 c16
      refine gBk (pe := 65) hO [oI (.iinc 3 (-1)) (-1), o0 (.goto (-20))] (by decide +kernel) (show tWG K B 0 0 S I J 65 [none, none, some (vI v2), some (vI (v3 + (-1))), some (vI v4)] [] from ?_)
      exact hkb65 _ _ _ _ _ h
theorem W2_quickest_L65 {K : tK} {B : tB} {S : tSH} {MC MS : Nat} (hO : tKO K B RX2 cX2_quickest 5) (hR : kR K = tRm 6 MC MS) (hG : tGr S) {n : Nat} (t0 : ty S 48 2) {k : Int32 → tHI → tHJ → Prop} (hQ : tRet K B (tQi B (tPi S k)) 0 0 (some .int)) : ∀ (f : Nat) (I : tHI) (J : tHJ) (v2 : Int32) (v3 : Int32) (v4 : Int32), F2_quickest_L65 n S k f I J v2 v3 v4 → tWG K B 0 0 S I J 65 [none, none, some (vI v2), some (vI v3), some (vI v4)] [] := by
  intro f
  induction f with
  | zero => intro I J v2 v3 v4 h; exact h.elim
  | succ f ih => intro I J v2 v3 v4 h; exact W2_quickest_65 hO hR hG t0 hQ ih h
set_option maxRecDepth 20000 in
theorem hc2_quickest : tCV yX2_quickest cX2_quickest 5 (some .int) 1 := ⟨⟨(List.mem_of_getElem? (i := 1171) rfl), (List.mem_of_getElem? (i := 37) (by decide +kernel)), by decide +kernel⟩, (List.mem_of_getElem? (i := 1169) (by decide +kernel)), (List.mem_of_getElem? (i := 1170) (by decide +kernel))⟩
set_option maxRecDepth 100000 in
theorem M2_quickest {l : Launch} {B : tB} {S : tSH} {I : tHI} {J : tHJ} {v1 : Int32} {n : Nat} {k : Int32 → tHI → tHJ → Prop} (t0 : ty S 48 2) (h : F2_quickest n S I J v1 k) : Met l yX2_quickest (tWs yX2_quickest cX2_quickest 5 (some .int)) (tRm 6 0 0) (tPc B [vR 48, vI v1] S I J) (tQi B (tPi S k)) 0 0 (tA B) :=
  tEntry (by decide +kernel) [some (vR 48), some (vI v1), none, none, none] rfl rfl (Nat.le_of_ble_eq_true rfl) (fun K hl hR hO hQ hG => by
  subst hl
  refine gBk (pe := 8) hO [o0 (.aload_n 0), oF (.getfield 18) 2 2 155 1, oF (.getfield 94) 8 1 447 7, o0 (.iload_n 1)] (by decide +kernel) (And.intro t0 (And.intro rfl (And.intro (tGr.abs hG t0 (k := 2) rfl) (And.intro rfl (show tWG K B 0 0 S I J 8 [some (vR 48), some (vI v1), none, none, none] [vI v1, vR 7] from ?_)))))
  refine gCVi_z hO (M7_has (tGr.off hG (tGr.abs hG t0 (k := 2) rfl) (k := 1) rfl)) hc7_has (idx := 98) (w := 452) (by decide +kernel) hR (by omega) (tGr.off hG (tGr.abs hG t0 (k := 2) rfl) (k := 1) rfl) ⟨by decide, rfl⟩ (vs := [vI v1]) (st := []) ⟨rfl, Nat.le_of_ble_eq_true rfl, rfl⟩ (by decide +kernel) (fun z1 => ?_)
  have hj2 : ∀ (m3 : Int32), m3 = (if (V7_has S I J 7 v1) = 0 then 0 else (I 8 v1.toNatClampNeg)) → tWG K B 0 0 S I J 30 [some (vR 48), some (vI v1), none, none, none] [vI m3] := by
    intro m3 em3
    subst em3
    have h := h.2
    refine gBk (pe := 36) hO [o0 (.istore_n 2), oI (.bipush 60) 60, o0 (.aload_n 0), oI (.iconst 2) 2, o0 (.iload_n 1)] (by decide +kernel) (And.intro (Nat.le_of_ble_eq_true rfl) (show tWG K B 0 0 S I J 36 [some (vR 48), some (vI v1), some (vI (if (V7_has S I J 7 v1) = 0 then 0 else (I 8 v1.toNatClampNeg))), none, none] [vI v1, vI 2, vR 48, vI 60] from ?_))
    refine gCVi_c hO (M2_tell t0 h) hc2_tell (idx := 148) (w := 970) (by decide +kernel) hR (by omega) t0 ⟨by decide, rfl⟩ (vs := [vI 2, vI v1]) (st := [vI 60]) ⟨rfl, Nat.le_of_ble_eq_true rfl, rfl⟩ (by decide +kernel) (fun x7 I5 J6 h => ?_)
    refine gMin hO (idx := 151) (w := 976) (by decide +kernel) hR (by omega) (st := []) (Nat.le_of_ble_eq_true rfl) rfl (by decide +kernel) ?_
    refine gBk (pe := 44) hO [o0 (.istore_n 3), o0 (.iload_n 2)] (by decide +kernel) (And.intro (Nat.le_of_ble_eq_true rfl) (show tWG K B 0 0 S I5 J6 44 [some (vR 48), some (vI v1), some (vI (if (V7_has S I J 7 v1) = 0 then 0 else (I 8 v1.toNatClampNeg))), some (vI (if x7 < 60 then x7 else 60)), none] [vI (if (V7_has S I J 7 v1) = 0 then 0 else (I 8 v1.toNatClampNeg))] from ?_))
    refine gIfNe hO (off := 5) (tgt := 49) (by decide +kernel) (by decide) (fun c8 => ?_) (fun c8 => ?_)
    · have h := h.1 c8
      refine gBk (pe := 51) hO [o0 (.aload_n 0), o0 (.iload_n 2)] (by decide +kernel) (show tWG K B 0 0 S I5 J6 51 [some (vR 48), some (vI v1), some (vI (if (V7_has S I J 7 v1) = 0 then 0 else (I 8 v1.toNatClampNeg))), some (vI (if x7 < 60 then x7 else 60)), none] [vI (if (V7_has S I J 7 v1) = 0 then 0 else (I 8 v1.toNatClampNeg)), vR 48] from ?_)
      have hj9 : ∀ (m10 : Int32), m10 = (if (if (V7_has S I J 7 v1) = 0 then 0 else (I 8 v1.toNatClampNeg)) ≤ 0 then (0 : Int32) else 1) → tWG K B 0 0 S I5 J6 59 [none, some (vI v1), some (vI (if (V7_has S I J 7 v1) = 0 then 0 else (I 8 v1.toNatClampNeg))), some (vI (if x7 < 60 then x7 else 60)), none] [vI m10, vR 48] := by
        intro m10 em10
        subst em10
        refine gBk (pe := 60) hO [o0 (.iload_n 1)] (by decide +kernel) (show tWG K B 0 0 S I5 J6 60 [none, some (vI v1), some (vI (if (V7_has S I J 7 v1) = 0 then 0 else (I 8 v1.toNatClampNeg))), some (vI (if x7 < 60 then x7 else 60)), none] [vI v1, vI (if (if (V7_has S I J 7 v1) = 0 then 0 else (I 8 v1.toNatClampNeg)) ≤ 0 then (0 : Int32) else 1), vR 48] from ?_)
        refine gCVi_c hO (M2_tell t0 h) hc2_tell (idx := 148) (w := 970) (by decide +kernel) hR (by omega) t0 ⟨by decide, rfl⟩ (vs := [vI (if (if (V7_has S I J 7 v1) = 0 then 0 else (I 8 v1.toNatClampNeg)) ≤ 0 then (0 : Int32) else 1), vI v1]) (st := []) ⟨rfl, Nat.le_of_ble_eq_true rfl, rfl⟩ (by decide +kernel) (fun x14 I12 J13 h => ?_)
        refine gBk (pe := 65) hO [o0 (.istore 4)] (by decide +kernel) (And.intro (Nat.le_of_ble_eq_true rfl) (show tWG K B 0 0 S I12 J13 65 [none, some (vI v1), some (vI (if (V7_has S I J 7 v1) = 0 then 0 else (I 8 v1.toNatClampNeg))), some (vI (if x7 < 60 then x7 else 60)), some (vI x14)] [] from ?_))
        exact gWeak (L' := [none, none, some (vI (if (V7_has S I J 7 v1) = 0 then 0 else (I 8 v1.toNatClampNeg))), some (vI (if x7 < 60 then x7 else 60)), some (vI x14)]) ⟨rfl, rfl, rfl, trivial⟩ (W2_quickest_L65 hO hR hG t0 hQ n _ _ _ _ _ h)
      refine gIfLe hO (off := 7) (tgt := 58) (by decide +kernel) (by decide) (fun c11 => ?_) (fun c11 => ?_)
      · refine gBk (pe := 59) hO [oI (.iconst 0) 0] (by decide +kernel) (show tWG K B 0 0 S I5 J6 59 [some (vR 48), some (vI v1), some (vI (if (V7_has S I J 7 v1) = 0 then 0 else (I 8 v1.toNatClampNeg))), some (vI (if x7 < 60 then x7 else 60)), none] [vI 0, vR 48] from ?_)
        exact gWeak (L' := [none, some (vI v1), some (vI (if (V7_has S I J 7 v1) = 0 then 0 else (I 8 v1.toNatClampNeg))), some (vI (if x7 < 60 then x7 else 60)), none]) ⟨rfl, rfl, rfl, trivial⟩ (hj9 _ (Eq.symm (if_pos c11)))
      · refine gBk (pe := 59) hO [oI (.iconst 1) 1, o0 (.goto 4)] (by decide +kernel) (show tWG K B 0 0 S I5 J6 59 [some (vR 48), some (vI v1), some (vI (if (V7_has S I J 7 v1) = 0 then 0 else (I 8 v1.toNatClampNeg))), some (vI (if x7 < 60 then x7 else 60)), none] [vI 1, vR 48] from ?_)
        exact gWeak (L' := [none, some (vI v1), some (vI (if (V7_has S I J 7 v1) = 0 then 0 else (I 8 v1.toNatClampNeg))), some (vI (if x7 < 60 then x7 else 60)), none]) ⟨rfl, rfl, rfl, trivial⟩ (hj9 _ (Eq.symm (if_neg c11)))
    · have h := h.2 c8
      refine gBk (pe := 48) hO [o0 (.iload_n 3)] (by decide +kernel) (show tWG K B 0 0 S I5 J6 48 [some (vR 48), some (vI v1), some (vI (if (V7_has S I J 7 v1) = 0 then 0 else (I 8 v1.toNatClampNeg))), some (vI (if x7 < 60 then x7 else 60)), none] [vI (if x7 < 60 then x7 else 60)] from ?_)
      exact gIret hO hQ (by decide +kernel) ⟨rfl, h⟩
  have h := h.1
  refine gIfEq hO (off := 18) (tgt := 29) (by decide +kernel) (by decide) (fun c4 => ?_) (fun c4 => ?_)
  · have h := h.1 c4
    refine gBk (pe := 30) hO [oI (.iconst 0) 0] (by decide +kernel) (show tWG K B 0 0 S I J 30 [some (vR 48), some (vI v1), none, none, none] [vI 0] from ?_)
    exact (hj2 _ (Eq.symm (if_pos c4)))
  · have h := h.2 c4
    refine gBk (pe := 30) hO [o0 (.aload_n 0), oF (.getfield 18) 2 2 155 1, oF (.getfield 94) 8 1 447 7, oF (.getfield 104) 7 1 448 8, o0 (.iload_n 1), o0 .iaload, o0 (.goto 4)] (by decide +kernel) (And.intro t0 (And.intro rfl (And.intro (tGr.abs hG t0 (k := 2) rfl) (And.intro rfl (And.intro (tGr.off hG (tGr.abs hG t0 (k := 2) rfl) (k := 1) rfl) (And.intro rfl (And.intro (tGr.off hG (tGr.off hG (tGr.abs hG t0 (k := 2) rfl) (k := 1) rfl) (k := 1) rfl) (And.intro (tin (tGr.len hG (tGr.off hG (tGr.abs hG t0 (k := 2) rfl) (k := 1) rfl) (k := 1) rfl (by decide)) h.1) (show tWG K B 0 0 S I J 30 [some (vR 48), some (vI v1), none, none, none] [vI (I 8 v1.toNatClampNeg)] from ?_)))))))))
    have h := h.2
    exact (hj2 _ (Eq.symm (if_neg c4))))
set_option maxRecDepth 100000 in
theorem W2_drive_45 {K : tK} {B : tB} {S : tSH} {MC MS : Nat} (hO : tKO K B RX2 cX2_drive 3) (hR : kR K = tRm 6 MC MS) (hG : tGr S) {n : Nat} (t0 : ty S 48 2) {k : tHI → tHJ → Prop} (hQ : tRet K B (tQv B (tPv S k)) 0 0 none) {I : tHI} {J : tHJ} {a1 : Nat} (t1 : ty S a1 10) (h : F2_drive_45 n S k I J a1) : tWG K B 0 0 S I J 45 [some (vR 48), some (vR a1), none] [] := by
  refine gBk (pe := 62) hO [o0 (.aload_n 1), o0 (.aload_n 1), oF (.getfield 156) 10 2 975 0, oI (.iconst 1) 1, o0 .iadd, o0 (.aload_n 0), oF (.getfield 18) 2 2 155 1, oF (.getfield 94) 8 1 447 7, oF (.getfield 165) 7 0 979 0] (by decide +kernel) (And.intro t1 (And.intro t0 (And.intro rfl (And.intro (tGr.abs hG t0 (k := 2) rfl) (And.intro rfl (And.intro (tGr.off hG (tGr.abs hG t0 (k := 2) rfl) (k := 1) rfl) (show tWG K B 0 0 S I J 62 [some (vR 48), some (vR a1), none] [vI (I 7 0), vI ((I a1 2) + 1), vR a1] from ?_)))))))
  have hj2 : ∀ (m3 : Int32), m3 = (if ((I a1 2) + 1) < (I 7 0) then ((I a1 2) + 1) else 0) → tWG K B 0 0 S I J 75 [some (vR 48), some (vR a1), none] [vI m3, vR a1] := by
    intro m3 em3
    subst em3
    refine gBk (pe := 89) hO [oF (.putfield 156) 10 2 975 0, o0 (.aload_n 0), oF (.getfield 11) 2 0 153 49, oI (.bipush 7) 7, o0 (.aload_n 1), oF (.getfield 44) 10 5 261 0, o0 .iastore] (by decide +kernel) (And.intro t1 (And.intro t0 (And.intro rfl (And.intro t1 (And.intro (tGr.off hG t0 (k := 0) rfl) (And.intro (tin (tGr.len hG t0 (k := 0) rfl (by decide)) (tvi (by decide +kernel))) (show tWG K B 0 0 S (uI (uI I a1 2 (if ((I a1 2) + 1) < (I 7 0) then ((I a1 2) + 1) else 0)) 49 7 ((uI I a1 2 (if ((I a1 2) + 1) < (I 7 0) then ((I a1 2) + 1) else 0)) a1 5)) J 89 [some (vR 48), some (vR a1), none] [] from ?_)))))))
    exact gVret hO hQ (by decide +kernel) ⟨rfl, h⟩
  refine gIcLt hO (off := 7) (tgt := 69) (by decide +kernel) (by decide) (fun c4 => ?_) (fun c4 => ?_)
  · refine gBk (pe := 75) hO [o0 (.aload_n 1), oF (.getfield 156) 10 2 975 0, oI (.iconst 1) 1, o0 .iadd] (by decide +kernel) (And.intro t1 (show tWG K B 0 0 S I J 75 [some (vR 48), some (vR a1), none] [vI ((I a1 2) + 1), vR a1] from ?_))
    exact (hj2 _ (Eq.symm (if_pos c4)))
  · refine gBk (pe := 75) hO [oI (.iconst 0) 0, o0 (.goto 9)] (by decide +kernel) (show tWG K B 0 0 S I J 75 [some (vR 48), some (vR a1), none] [vI 0, vR a1] from ?_)
    exact (hj2 _ (Eq.symm (if_neg c4)))
set_option maxRecDepth 20000 in
theorem hc2_drive : tCV yX2_drive cX2_drive 3 none 2 := ⟨⟨(List.mem_of_getElem? (i := 974) rfl), (List.mem_of_getElem? (i := 37) (by decide +kernel)), by decide +kernel⟩, (List.mem_of_getElem? (i := 972) (by decide +kernel)), (List.mem_of_getElem? (i := 973) (by decide +kernel))⟩
set_option maxRecDepth 100000 in
theorem M2_drive {l : Launch} {B : tB} {S : tSH} {I : tHI} {J : tHJ} {a1 : Nat} {v2 : Int32} {n : Nat} {k : tHI → tHJ → Prop} (t0 : ty S 48 2) (t1 : ty S a1 10) (h : F2_drive n S I J a1 v2 k) : Met l yX2_drive (tWs yX2_drive cX2_drive 3 none) (tRm 6 0 0) (tPc B [vR 48, vR a1, vI v2] S I J) (tQv B (tPv S k)) 0 0 (tA B) :=
  tEntry (by decide +kernel) [some (vR 48), some (vR a1), some (vI v2)] rfl rfl (Nat.le_of_ble_eq_true rfl) (fun K hl hR hO hQ hG => by
  subst hl
  refine gBk (pe := 1) hO [o0 (.iload_n 2)] (by decide +kernel) (show tWG K B 0 0 S I J 1 [some (vR 48), some (vR a1), some (vI v2)] [vI v2] from ?_)
  refine gIfNe hO (off := 29) (tgt := 30) (by decide +kernel) (by decide) (fun c1 => ?_) (fun c1 => ?_)
  · have h := h.1 c1
    refine gBk (pe := 45) hO [o0 (.aload_n 1), o0 .dup, oF (.getfield 159) 10 4 977 0, oI (.iconst 1) 1, o0 .iadd, oF (.putfield 159) 10 4 977 0, o0 (.aload_n 1), oI (.iconst 0) 0, oF (.putfield 162) 10 3 978 0] (by decide +kernel) (And.intro t1 (And.intro t1 (And.intro t1 (show tWG K B 0 0 S (uI (uI I a1 4 ((I a1 4) + 1)) a1 3 0) J 45 [some (vR 48), some (vR a1), some (vI v2)] [] from ?_))))
    exact gWeak (L' := [some (vR 48), some (vR a1), none]) ⟨rfl, rfl, trivial⟩ (W2_drive_45 hO hR hG t0 hQ t1 h)
  · have h := h.2 c1
    refine gBk (pe := 17) hO [o0 (.aload_n 1), oI (.bipush 100) 100, o0 (.aload_n 1), oF (.getfield 44) 10 5 261 0, o0 (.aload_n 0), oI (.iconst 4) 4, o0 (.aload_n 1), oF (.getfield 156) 10 2 975 0] (by decide +kernel) (And.intro t1 (And.intro t1 (show tWG K B 0 0 S I J 17 [some (vR 48), some (vR a1), some (vI v2)] [vI (I a1 2), vI 4, vR 48, vI (I a1 5), vI 100, vR a1] from ?_)))
    refine gCVi_c hO (M2_tell t0 h) hc2_tell (idx := 148) (w := 970) (by decide +kernel) hR (by omega) t0 ⟨by decide, rfl⟩ (vs := [vI 4, vI (I a1 2)]) (st := [vI (I a1 5), vI 100, vR a1]) ⟨rfl, Nat.le_of_ble_eq_true rfl, rfl⟩ (by decide +kernel) (fun x7 I5 J6 h => ?_)
    refine gBk (pe := 21) hO [o0 .iadd] (by decide +kernel) (show tWG K B 0 0 S I5 J6 21 [some (vR 48), some (vR a1), some (vI v2)] [vI ((I a1 5) + x7), vI 100, vR a1] from ?_)
    refine gMin hO (idx := 151) (w := 976) (by decide +kernel) hR (by omega) (st := [vR a1]) (Nat.le_of_ble_eq_true rfl) rfl (by decide +kernel) ?_
    refine gBk (pe := 45) hO [oF (.putfield 44) 10 5 261 0, o0 (.goto 18)] (by decide +kernel) (And.intro t1 (show tWG K B 0 0 S (uI I5 a1 5 (if ((I a1 5) + x7) < 100 then ((I a1 5) + x7) else 100)) J6 45 [some (vR 48), some (vR a1), some (vI v2)] [] from ?_))
    exact gWeak (L' := [some (vR 48), some (vR a1), none]) ⟨rfl, rfl, trivial⟩ (W2_drive_45 hO hR hG t0 hQ t1 h))
set_option maxRecDepth 100000 in
theorem W4_readClause_164 {K : tK} {B : tB} {S : tSH} {MC MS : Nat} (hO : tKO K B RX4 cX4_readClause 3) (hR : kR K = tRm 81 MC MS) (hG : tGr S) {n : Nat} (t0 : ty S 40 4) {k : tHI → tHJ → Prop} (hQ : tRet K B (tQv B (tPv S k)) 0 0 none) {I : tHI} {J : tHJ} {v1 : Int32} {v2 : Int32} (h : F4_readClause_164 n S k I J v1 v2) : tWG K B 0 0 S I J 164 [some (vR 40), some (vI v1), some (vI v2)] [] := by
  refine gBk (pe := 170) hO [o0 (.aload_n 0), oF (.getfield 14) 4 0 121 41, o0 (.iload_n 1), o0 (.iload_n 2)] (by decide +kernel) (And.intro t0 (And.intro rfl (show tWG K B 0 0 S I J 170 [some (vR 40), some (vI v1), some (vI v2)] [vI v2, vI v1, vR 41] from ?_)))
  refine gCVv_c hO (M6_close (tGr.off hG t0 (k := 0) rfl) h) hc6_close (idx := 124) (w := 743) (by decide +kernel) hR (by omega) (tGr.off hG t0 (k := 0) rfl) ⟨by decide, rfl⟩ (vs := [vI v1, vI v2]) (st := []) ⟨rfl, Nat.le_of_ble_eq_true rfl, rfl⟩ (by decide +kernel) (fun I23 J24 h => ?_)
  exact gVret hO hQ (by decide +kernel) ⟨rfl, h⟩
set_option maxRecDepth 100000 in
theorem W4_readClause_146 {K : tK} {B : tB} {S : tSH} {MC MS : Nat} (hO : tKO K B RX4 cX4_readClause 3) (hR : kR K = tRm 81 MC MS) (hG : tGr S) {n : Nat} (t0 : ty S 40 4) {k : tHI → tHJ → Prop} (hQ : tRet K B (tQv B (tPv S k)) 0 0 none) {I : tHI} {J : tHJ} {v1 : Int32} {v2 : Int32} (h : F4_readClause_146 n S k I J v1 v2) : tWG K B 0 0 S I J 146 [some (vR 40), some (vI v1), some (vI v2)] [] := by
  refine gBk (pe := 147) hO [o0 (.aload_n 0)] (by decide +kernel) (show tWG K B 0 0 S I J 147 [some (vR 40), some (vI v1), some (vI v2)] [vR 40] from ?_)
  refine s_ldcs hO (i := 3) (idx := 119) rfl rfl (by decide +kernel) ?_
  refine gCVi_c hO (M4_wordIn t0 (show 3 < 11 by decide) h) hc4_wordIn (idx := 91) (w := 634) (by decide +kernel) hR (by omega) t0 ⟨by decide, rfl⟩ (vs := [vA (tadK B 3)]) (st := []) ⟨rfl, Nat.le_of_ble_eq_true rfl, rfl⟩ (by decide +kernel) (fun x21 I19 J20 h => ?_)
  refine gIfNe hO (off := 12) (tgt := 164) (by decide +kernel) (by decide) (fun c22 => ?_) (fun c22 => ?_)
  · have h := h.1 c22
    exact W4_readClause_164 hO hR hG t0 hQ h
  · have h := h.2 c22
    refine gBk (pe := 156) hO [o0 (.aload_n 0)] (by decide +kernel) (show tWG K B 0 0 S I19 J20 156 [some (vR 40), some (vI v1), some (vI v2)] [vR 40] from ?_)
    refine gCVv_c hO (M4_advance t0 h) hc4_advance (idx := 50) (w := 620) (by decide +kernel) hR (by omega) t0 ⟨by decide, rfl⟩ (vs := []) (st := []) ⟨rfl, Nat.le_of_ble_eq_true rfl, rfl⟩ (by decide +kernel) (fun I25 J26 h => ?_)
    refine gBk (pe := 161) hO [o0 (.aload_n 0), oI (.iconst 0) 0] (by decide +kernel) (show tWG K B 0 0 S I25 J26 161 [some (vR 40), some (vI v1), some (vI v2)] [vI 0, vR 40] from ?_)
    refine gCVv_c hO ((M4_rec t0 60).1 _ _ _ _ h) hc4_readTest (idx := 121) (w := 727) (by decide +kernel) hR (by omega) t0 ⟨by decide, rfl⟩ (vs := [vI 0]) (st := []) ⟨rfl, Nat.le_of_ble_eq_true rfl, rfl⟩ (by decide +kernel) (fun I27 J28 h => ?_)
    exact W4_readClause_164 hO hR hG t0 hQ h
set_option maxRecDepth 100000 in
theorem W4_readClause_108 {K : tK} {B : tB} {S : tSH} {MC MS : Nat} (hO : tKO K B RX4 cX4_readClause 3) (hR : kR K = tRm 81 MC MS) (hG : tGr S) {n : Nat} (t0 : ty S 40 4) {k : tHI → tHJ → Prop} (hQ : tRet K B (tQv B (tPv S k)) 0 0 none) {I : tHI} {J : tHJ} {v1 : Int32} (h : F4_readClause_108 n S k I J v1) : tWG K B 0 0 S I J 108 [some (vR 40), some (vI v1), none] [] := by
  refine gBk (pe := 113) hO [o0 (.aload_n 0), oF (.getfield 14) 4 0 121 41, oI (.iconst 2) 2] (by decide +kernel) (And.intro t0 (And.intro rfl (show tWG K B 0 0 S I J 113 [some (vR 40), some (vI v1), none] [vI 2, vR 41] from ?_)))
  refine gCVv_c hO (M6_beginSpan (tGr.off hG t0 (k := 0) rfl) h) hc6_beginSpan (idx := 99) (w := 691) (by decide +kernel) hR (by omega) (tGr.off hG t0 (k := 0) rfl) ⟨by decide, rfl⟩ (vs := [vI 2]) (st := []) ⟨rfl, Nat.le_of_ble_eq_true rfl, rfl⟩ (by decide +kernel) (fun I16 J17 h => ?_)
  refine gBk (pe := 122) hO [oI (.iconst 1) 1, o0 (.istore_n 2), o0 (.aload_n 0), oF (.getfield 28) 4 3 124 0] (by decide +kernel) (And.intro (Nat.le_of_ble_eq_true rfl) (And.intro t0 (show tWG K B 0 0 S I16 J17 122 [some (vR 40), some (vI v1), some (vI 1)] [vI (I16 40 3)] from ?_)))
  refine gIfEq hO (off := 24) (tgt := 146) (by decide +kernel) (by decide) (fun c18 => ?_) (fun c18 => ?_)
  · have h := h.1 c18
    exact W4_readClause_146 hO hR hG t0 hQ h
  · have h := h.2 c18
    refine gBk (pe := 126) hO [o0 (.aload_n 0)] (by decide +kernel) (show tWG K B 0 0 S I16 J17 126 [some (vR 40), some (vI v1), some (vI 1)] [vR 40] from ?_)
    refine s_ldcs hO (i := 2) (idx := 114) rfl rfl (by decide +kernel) ?_
    refine gCVi_c hO (M4_wordIn t0 (show 2 < 11 by decide) h) hc4_wordIn (idx := 91) (w := 634) (by decide +kernel) hR (by omega) t0 ⟨by decide, rfl⟩ (vs := [vA (tadK B 2)]) (st := []) ⟨rfl, Nat.le_of_ble_eq_true rfl, rfl⟩ (by decide +kernel) (fun x31 I29 J30 h => ?_)
    refine gIfNe hO (off := 15) (tgt := 146) (by decide +kernel) (by decide) (fun c32 => ?_) (fun c32 => ?_)
    · have h := h.1 c32
      exact W4_readClause_146 hO hR hG t0 hQ h
    · have h := h.2 c32
      refine gBk (pe := 135) hO [o0 (.aload_n 0)] (by decide +kernel) (show tWG K B 0 0 S I29 J30 135 [some (vR 40), some (vI v1), some (vI 1)] [vR 40] from ?_)
      refine gCVv_c hO (M4_advance t0 h) hc4_advance (idx := 50) (w := 620) (by decide +kernel) hR (by omega) t0 ⟨by decide, rfl⟩ (vs := []) (st := []) ⟨rfl, Nat.le_of_ble_eq_true rfl, rfl⟩ (by decide +kernel) (fun I33 J34 h => ?_)
      refine gBk (pe := 142) hO [o0 (.aload_n 0), oI (.iconst 1) 1, oI (.bipush 20) 20] (by decide +kernel) (show tWG K B 0 0 S I33 J34 142 [some (vR 40), some (vI v1), some (vI 1)] [vI 20, vI 1, vR 40] from ?_)
      refine gCVi_c hO (M4_expectNumber t0 h) hc4_expectNumber (idx := 116) (w := 715) (by decide +kernel) hR (by omega) t0 ⟨by decide, rfl⟩ (vs := [vI 1, vI 20]) (st := []) ⟨rfl, Nat.le_of_ble_eq_true rfl, rfl⟩ (by decide +kernel) (fun x37 I35 J36 h => ?_)
      refine gBk (pe := 146) hO [o0 (.istore_n 2)] (by decide +kernel) (And.intro (Nat.le_of_ble_eq_true rfl) (show tWG K B 0 0 S I35 J36 146 [some (vR 40), some (vI v1), some (vI x37)] [] from ?_))
      exact W4_readClause_146 hO hR hG t0 hQ h
set_option maxRecDepth 100000 in
theorem W4_readClause_100 {K : tK} {B : tB} {S : tSH} {MC MS : Nat} (hO : tKO K B RX4 cX4_readClause 3) (hR : kR K = tRm 81 MC MS) (hG : tGr S) {n : Nat} (t0 : ty S 40 4) {k : tHI → tHJ → Prop} (hQ : tRet K B (tQv B (tPv S k)) 0 0 none) {I : tHI} {J : tHJ} {v1 : Int32} {s0 : Nat} (q0 : s0 < 11) (h : F4_readClause_100 n S k I J v1 s0) : tWG K B 0 0 S I J 100 [some (vR 40), some (vI v1), none] [vA (tadK B s0), vR 40] := by
  refine gCVv_c hO (M4_expectWord t0 q0 h) hc4_expectWord (idx := 110) (w := 723) (by decide +kernel) hR (by omega) t0 ⟨by decide, rfl⟩ (vs := [vA (tadK B s0)]) (st := []) ⟨rfl, Nat.le_of_ble_eq_true rfl, rfl⟩ (by decide +kernel) (fun I40 J41 h => ?_)
  refine gBk (pe := 105) hO [o0 (.aload_n 0), oI (.iconst 0) 0] (by decide +kernel) (show tWG K B 0 0 S I40 J41 105 [some (vR 40), some (vI v1), none] [vI 0, vR 40] from ?_)
  refine gCVv_c hO ((M4_rec t0 60).2.2.2.1 _ _ _ _ h) hc4_readSum (idx := 103) (w := 695) (by decide +kernel) hR (by omega) t0 ⟨by decide, rfl⟩ (vs := [vI 0]) (st := []) ⟨rfl, Nat.le_of_ble_eq_true rfl, rfl⟩ (by decide +kernel) (fun I42 J43 h => ?_)
  exact W4_readClause_108 hO hR hG t0 hQ h
set_option maxRecDepth 100000 in
theorem W4_readClause_87 {K : tK} {B : tB} {S : tSH} {MC MS : Nat} (hO : tKO K B RX4 cX4_readClause 3) (hR : kR K = tRm 81 MC MS) (hG : tGr S) {n : Nat} (t0 : ty S 40 4) {k : tHI → tHJ → Prop} (hQ : tRet K B (tQv B (tPv S k)) 0 0 none) {I : tHI} {J : tHJ} {v1 : Int32} (h : F4_readClause_87 n S k I J v1) : tWG K B 0 0 S I J 87 [some (vR 40), some (vI v1), none] [] := by
  refine gBk (pe := 90) hO [o0 (.aload_n 0), o0 (.iload_n 1), oI (.iconst 3) 3] (by decide +kernel) (show tWG K B 0 0 S I J 90 [some (vR 40), some (vI v1), none] [vI 3, vI v1, vR 40] from ?_)
  refine gIcNe hO (off := 8) (tgt := 98) (by decide +kernel) (by decide) (fun c39 => ?_) (fun c39 => ?_)
  · have h := h.1 c39
    refine s_ldcs hO (i := 1) (idx := 108) rfl rfl (by decide +kernel) ?_
    exact W4_readClause_100 hO hR hG t0 hQ (show 1 < 11 by decide) h
  · have h := h.2 c39
    refine s_ldcs hO (i := 0) (idx := 106) rfl rfl (by decide +kernel) ?_
    refine gBk (pe := 100) hO [o0 (.goto 5)] (by decide +kernel) (show tWG K B 0 0 S I J 100 [some (vR 40), some (vI v1), none] [vA (tadK B 0), vR 40] from ?_)
    exact W4_readClause_100 hO hR hG t0 hQ (show 0 < 11 by decide) h
set_option maxRecDepth 100000 in
theorem W4_readClause_62 {K : tK} {B : tB} {S : tSH} {MC MS : Nat} (hO : tKO K B RX4 cX4_readClause 3) (hR : kR K = tRm 81 MC MS) (hG : tGr S) {n : Nat} (t0 : ty S 40 4) {k : tHI → tHJ → Prop} (hQ : tRet K B (tQv B (tPv S k)) 0 0 none) {I : tHI} {J : tHJ} {v1 : Int32} (h : F4_readClause_62 n S k I J v1) : tWG K B 0 0 S I J 62 [some (vR 40), some (vI v1), none] [] := by
  refine gBk (pe := 67) hO [o0 (.aload_n 0), oF (.getfield 14) 4 0 121 41, oI (.iconst 1) 1] (by decide +kernel) (And.intro t0 (And.intro rfl (show tWG K B 0 0 S I J 67 [some (vR 40), some (vI v1), none] [vI 1, vR 41] from ?_)))
  refine gCVv_c hO (M6_beginSpan (tGr.off hG t0 (k := 0) rfl) h) hc6_beginSpan (idx := 99) (w := 691) (by decide +kernel) hR (by omega) (tGr.off hG t0 (k := 0) rfl) ⟨by decide, rfl⟩ (vs := [vI 1]) (st := []) ⟨rfl, Nat.le_of_ble_eq_true rfl, rfl⟩ (by decide +kernel) (fun I13 J14 h => ?_)
  refine gBk (pe := 74) hO [o0 (.aload_n 0), oF (.getfield 28) 4 3 124 0] (by decide +kernel) (And.intro t0 (show tWG K B 0 0 S I13 J14 74 [some (vR 40), some (vI v1), none] [vI (I13 40 3)] from ?_))
  refine gIfEq hO (off := 34) (tgt := 108) (by decide +kernel) (by decide) (fun c15 => ?_) (fun c15 => ?_)
  · have h := h.1 c15
    exact W4_readClause_108 hO hR hG t0 hQ h
  · have h := h.2 c15
    refine gBk (pe := 79) hO [o0 (.iload_n 1), oI (.iconst 3) 3] (by decide +kernel) (show tWG K B 0 0 S I13 J14 79 [some (vR 40), some (vI v1), none] [vI 3, vI v1] from ?_)
    refine gIcEq hO (off := 8) (tgt := 87) (by decide +kernel) (by decide) (fun c38 => ?_) (fun c38 => ?_)
    · have h := h.1 c38
      exact W4_readClause_87 hO hR hG t0 hQ h
    · have h := h.2 c38
      refine gBk (pe := 84) hO [o0 (.iload_n 1), oI (.iconst 4) 4] (by decide +kernel) (show tWG K B 0 0 S I13 J14 84 [some (vR 40), some (vI v1), none] [vI 4, vI v1] from ?_)
      refine gIcNe hO (off := 24) (tgt := 108) (by decide +kernel) (by decide) (fun c44 => ?_) (fun c44 => ?_)
      · have h := h.1 c44
        exact W4_readClause_108 hO hR hG t0 hQ h
      · have h := h.2 c44
        exact W4_readClause_87 hO hR hG t0 hQ h
set_option maxRecDepth 100000 in
theorem W4_readClause_15 {K : tK} {B : tB} {S : tSH} {MC MS : Nat} (hO : tKO K B RX4 cX4_readClause 3) (hR : kR K = tRm 81 MC MS) (hG : tGr S) {n : Nat} (t0 : ty S 40 4) {k : tHI → tHJ → Prop} (hQ : tRet K B (tQv B (tPv S k)) 0 0 none) {I : tHI} {J : tHJ} {s0 : Nat} (q0 : s0 < 11) (h : F4_readClause_15 n S k I J s0) : tWG K B 0 0 S I J 15 [some (vR 40), none, none] [vA (tadK B s0), vR 40] := by
  refine gCVi_c hO (M4_wordIn t0 q0 h) hc4_wordIn (idx := 91) (w := 634) (by decide +kernel) hR (by omega) t0 ⟨by decide, rfl⟩ (vs := [vA (tadK B s0)]) (st := []) ⟨rfl, Nat.le_of_ble_eq_true rfl, rfl⟩ (by decide +kernel) (fun x4 I2 J3 h => ?_)
  refine gBk (pe := 21) hO [o0 (.istore_n 1), o0 (.iload_n 1), oI (.iconst (-1)) (-1)] (by decide +kernel) (And.intro (Nat.le_of_ble_eq_true rfl) (show tWG K B 0 0 S I2 J3 21 [some (vR 40), some (vI x4), none] [vI (-1), vI x4] from ?_))
  refine gIcNe hO (off := 8) (tgt := 29) (by decide +kernel) (by decide) (fun c5 => ?_) (fun c5 => ?_)
  · have h := h.1 c5
    refine gBk (pe := 30) hO [o0 (.aload_n 0)] (by decide +kernel) (show tWG K B 0 0 S I2 J3 30 [some (vR 40), some (vI x4), none] [vR 40] from ?_)
    refine gCVv_c hO (M4_advance t0 h) hc4_advance (idx := 50) (w := 620) (by decide +kernel) hR (by omega) t0 ⟨by decide, rfl⟩ (vs := []) (st := []) ⟨rfl, Nat.le_of_ble_eq_true rfl, rfl⟩ (by decide +kernel) (fun I6 J7 h => ?_)
    refine gBk (pe := 38) hO [o0 (.aload_n 0), oF (.getfield 14) 4 0 121 41, oI (.iconst 0) 0] (by decide +kernel) (And.intro t0 (And.intro rfl (show tWG K B 0 0 S I6 J7 38 [some (vR 40), some (vI x4), none] [vI 0, vR 41] from ?_)))
    refine gCVv_c hO (M6_beginSpan (tGr.off hG t0 (k := 0) rfl) h) hc6_beginSpan (idx := 99) (w := 691) (by decide +kernel) hR (by omega) (tGr.off hG t0 (k := 0) rfl) ⟨by decide, rfl⟩ (vs := [vI 0]) (st := []) ⟨rfl, Nat.le_of_ble_eq_true rfl, rfl⟩ (by decide +kernel) (fun I8 J9 h => ?_)
    refine gBk (pe := 46) hO [o0 (.iload_n 1), o0 (.aload_n 0), oF (.getfield 28) 4 3 124 0] (by decide +kernel) (And.intro t0 (show tWG K B 0 0 S I8 J9 46 [some (vR 40), some (vI x4), none] [vI (I8 40 3), vI x4] from ?_))
    have hj10 : tWG K B 0 0 S I8 J9 54 [some (vR 40), some (vI x4), none] [vI 5, vI x4] := by
      refine gIcEq hO (off := 8) (tgt := 62) (by decide +kernel) (by decide) (fun c12 => ?_) (fun c12 => ?_)
      · have h := h.1 c12
        exact W4_readClause_62 hO hR hG t0 hQ h
      · have h := h.2 c12
        refine gBk (pe := 59) hO [o0 (.aload_n 0), oI (.iconst 0) 0] (by decide +kernel) (show tWG K B 0 0 S I8 J9 59 [some (vR 40), some (vI x4), none] [vI 0, vR 40] from ?_)
        refine gCVv_c hO ((M4_rec t0 60).2.2.2.1 _ _ _ _ h) hc4_readSum (idx := 103) (w := 695) (by decide +kernel) hR (by omega) t0 ⟨by decide, rfl⟩ (vs := [vI 0]) (st := []) ⟨rfl, Nat.le_of_ble_eq_true rfl, rfl⟩ (by decide +kernel) (fun I45 J46 h => ?_)
        exact W4_readClause_62 hO hR hG t0 hQ h
    refine gIfEq hO (off := 7) (tgt := 53) (by decide +kernel) (by decide) (fun c11 => ?_) (fun c11 => ?_)
    · refine gBk (pe := 54) hO [oI (.iconst 5) 5] (by decide +kernel) (show tWG K B 0 0 S I8 J9 54 [some (vR 40), some (vI x4), none] [vI 5, vI x4] from ?_)
      exact hj10
    · refine gBk (pe := 54) hO [oI (.iconst 5) 5, o0 (.goto 4)] (by decide +kernel) (show tWG K B 0 0 S I8 J9 54 [some (vR 40), some (vI x4), none] [vI 5, vI x4] from ?_)
      exact hj10
  · have h := h.2 c5
    refine gBk (pe := 25) hO [o0 (.aload_n 0)] (by decide +kernel) (show tWG K B 0 0 S I2 J3 25 [some (vR 40), some (vI x4), none] [vR 40] from ?_)
    refine gCVv_c hO (M4_fail t0 h) hc4_fail (idx := 60) (w := 687) (by decide +kernel) hR (by omega) t0 ⟨by decide, rfl⟩ (vs := []) (st := []) ⟨rfl, Nat.le_of_ble_eq_true rfl, rfl⟩ (by decide +kernel) (fun I47 J48 h => ?_)
    exact gVret hO hQ (by decide +kernel) ⟨rfl, h⟩
set_option maxRecDepth 20000 in
theorem hc4_readClause : tCV yX4_readClause cX4_readClause 3 none 0 := ⟨⟨(List.mem_of_getElem? (i := 633) rfl), (List.mem_of_getElem? (i := 29) (by decide +kernel)), by decide +kernel⟩, (List.mem_of_getElem? (i := 631) (by decide +kernel)), (List.mem_of_getElem? (i := 632) (by decide +kernel))⟩
set_option maxRecDepth 100000 in
theorem M4_readClause {l : Launch} {B : tB} {S : tSH} {I : tHI} {J : tHJ} {n : Nat} {k : tHI → tHJ → Prop} (t0 : ty S 40 4) (h : F4_readClause n S I J k) : Met l yX4_readClause (tWs yX4_readClause cX4_readClause 3 none) (tRm 81 0 0) (tPc B [vR 40] S I J) (tQv B (tPv S k)) 0 0 (tA B) :=
  tEntry (by decide +kernel) [some (vR 40), none, none] rfl rfl (Nat.le_of_ble_eq_true rfl) (fun K hl hR hO hQ hG => by
  subst hl
  refine gBk (pe := 5) hO [o0 (.aload_n 0), o0 (.aload_n 0), oF (.getfield 28) 4 3 124 0] (by decide +kernel) (And.intro t0 (show tWG K B 0 0 S I J 5 [some (vR 40), none, none] [vI (I 40 3), vR 40] from ?_))
  refine gIfEq hO (off := 8) (tgt := 13) (by decide +kernel) (by decide) (fun c1 => ?_) (fun c1 => ?_)
  · have h := h.1 c1
    refine s_ldcs hO (i := 10) (idx := 97) rfl rfl (by decide +kernel) ?_
    exact W4_readClause_15 hO hR hG t0 hQ (show 10 < 11 by decide) h
  · have h := h.2 c1
    refine s_ldcs hO (i := 9) (idx := 95) rfl rfl (by decide +kernel) ?_
    refine gBk (pe := 15) hO [o0 (.goto 5)] (by decide +kernel) (show tWG K B 0 0 S I J 15 [some (vR 40), none, none] [vA (tadK B 9), vR 40] from ?_)
    exact W4_readClause_15 hO hR hG t0 hQ (show 9 < 11 by decide) h)
set_option maxRecDepth 100000 in
theorem W5_soonestRow_98 {K : tK} {B : tB} {S : tSH} {MC MS : Nat} (hO : tKO K B RX5 cX5_soonestRow 5) (hR : kR K = tRm 7 MC MS) (hG : tGr S) {n : Nat} (t0 : ty S 51 5) {k : Int32 → tHI → tHJ → Prop} (hQ : tRet K B (tQi B (tPi S k)) 0 0 (some .int)) {kb98 : tHI → tHJ → Int32 → Int32 → Int32 → Prop} (hkb98 : ∀ (I : tHI) (J : tHJ) (v1 : Int32) (v3 : Int32) (v4 : Int32), kb98 I J v1 v3 v4 → tWG K B 0 0 S I J 98 [some (vR 51), some (vI v1), none, some (vI v3), some (vI v4)] []) {I : tHI} {J : tHJ} {v1 : Int32} {v3 : Int32} {v4 : Int32} (h : F5_soonestRow_98 n S k kb98 I J v1 v3 v4) : tWG K B 0 0 S I J 98 [some (vR 51), some (vI v1), none, some (vI v3), some (vI v4)] [] := by
  refine gBk (pe := 101) hO [o0 (.iload 4), o0 (.iload_n 1)] (by decide +kernel) (show tWG K B 0 0 S I J 101 [some (vR 51), some (vI v1), none, some (vI v3), some (vI v4)] [vI v1, vI v4] from ?_)
  refine gIcGt hO (off := 40) (tgt := 141) (by decide +kernel) (by decide) (fun c9 => ?_) (fun c9 => ?_)
  · have h := h.1 c9
    refine gBk (pe := 142) hO [o0 (.iload_n 3)] (by decide +kernel) (show tWG K B 0 0 S I J 142 [some (vR 51), some (vI v1), none, some (vI v3), some (vI v4)] [vI v3] from ?_)
    exact gIret hO hQ (by decide +kernel) ⟨rfl, h⟩
  · have h := h.2 c9
    refine gBk (pe := 131) hO [o0 (.aload_n 0), o0 (.iload 4), o0 (.iload_n 3), o0 (.aload_n 0), oF (.getfield 34) 5 0 172 1, oF (.getfield 73) 8 2 1201 15, oF (.getfield 77) 10 7 1202 0, o0 .isub, o0 (.iload_n 3), o0 (.aload_n 0), oF (.getfield 34) 5 0 172 1, oF (.getfield 73) 8 2 1201 15, oF (.getfield 82) 10 6 1203 0, o0 .iadd] (by decide +kernel) (And.intro t0 (And.intro rfl (And.intro (tGr.abs hG t0 (k := 0) rfl) (And.intro rfl (And.intro (tGr.off hG (tGr.abs hG t0 (k := 0) rfl) (k := 2) rfl) (And.intro t0 (And.intro rfl (And.intro (tGr.abs hG t0 (k := 0) rfl) (And.intro rfl (And.intro (tGr.off hG (tGr.abs hG t0 (k := 0) rfl) (k := 2) rfl) (show tWG K B 0 0 S I J 131 [some (vR 51), some (vI v1), none, some (vI v3), some (vI v4)] [vI (v3 + (I 15 6)), vI (v3 - (I 15 7)), vI v4, vR 51] from ?_)))))))))))
    refine gCVi_c hO (M5_bestPace t0 h) hc5_bestPace (idx := 69) (w := 1211) (by decide +kernel) hR (by omega) t0 ⟨by decide, rfl⟩ (vs := [vI v4, vI (v3 - (I 15 7)), vI (v3 + (I 15 6))]) (st := []) ⟨rfl, Nat.le_of_ble_eq_true rfl, rfl⟩ (by decide +kernel) (fun x12 I10 J11 h => ?_)
    refine gBk (pe := 98) hO [o0 (.istore_n 3), oI (.iinc 4 1) 1, o0 (.goto (-40))] (by decide +kernel) (And.intro (Nat.le_of_ble_eq_true rfl) (show tWG K B 0 0 S I10 J11 98 [some (vR 51), some (vI v1), none, some (vI x12), some (vI (v4 + 1))] [] from ?_))
    exact hkb98 _ _ _ _ _ h
theorem W5_soonestRow_L98 {K : tK} {B : tB} {S : tSH} {MC MS : Nat} (hO : tKO K B RX5 cX5_soonestRow 5) (hR : kR K = tRm 7 MC MS) (hG : tGr S) {n : Nat} (t0 : ty S 51 5) {k : Int32 → tHI → tHJ → Prop} (hQ : tRet K B (tQi B (tPi S k)) 0 0 (some .int)) : ∀ (f : Nat) (I : tHI) (J : tHJ) (v1 : Int32) (v3 : Int32) (v4 : Int32), F5_soonestRow_L98 n S k f I J v1 v3 v4 → tWG K B 0 0 S I J 98 [some (vR 51), some (vI v1), none, some (vI v3), some (vI v4)] [] := by
  intro f
  induction f with
  | zero => intro I J v1 v3 v4 h; exact h.elim
  | succ f ih => intro I J v1 v3 v4 h; exact W5_soonestRow_98 hO hR hG t0 hQ ih h
set_option maxRecDepth 100000 in
theorem W5_soonestRow_18 {K : tK} {B : tB} {S : tSH} {MC MS : Nat} (hO : tKO K B RX5 cX5_soonestRow 5) (hR : kR K = tRm 7 MC MS) (hG : tGr S) {n : Nat} (t0 : ty S 51 5) {k : Int32 → tHI → tHJ → Prop} (hQ : tRet K B (tQi B (tPi S k)) 0 0 (some .int)) {kb18 : tHI → tHJ → Int32 → Int32 → Int32 → Prop} (hkb18 : ∀ (I : tHI) (J : tHJ) (v1 : Int32) (v2 : Int32) (v3 : Int32), kb18 I J v1 v2 v3 → tWG K B 0 0 S I J 18 [some (vR 51), some (vI v1), some (vI v2), some (vI v3), none] []) {I : tHI} {J : tHJ} {v1 : Int32} {v2 : Int32} {v3 : Int32} (h : F5_soonestRow_18 n S k kb18 I J v1 v2 v3) : tWG K B 0 0 S I J 18 [some (vR 51), some (vI v1), some (vI v2), some (vI v3), none] [] := by
  refine gBk (pe := 20) hO [o0 (.iload_n 3), o0 (.iload_n 2)] (by decide +kernel) (show tWG K B 0 0 S I J 20 [some (vR 51), some (vI v1), some (vI v2), some (vI v3), none] [vI v2, vI v3] from ?_)
  refine gIcGe hO (off := 34) (tgt := 54) (by decide +kernel) (by decide) (fun c1 => ?_) (fun c1 => ?_)
  · have h := h.1 c1
    refine gBk (pe := 56) hO [o0 (.aload_n 0), o0 (.iload_n 2)] (by decide +kernel) (show tWG K B 0 0 S I J 56 [some (vR 51), some (vI v1), some (vI v2), some (vI v3), none] [vI v2, vR 51] from ?_)
    refine gCVv_c hO (M5_fillLeast t0 h) hc5_fillLeast (idx := 65) (w := 1205) (by decide +kernel) hR (by omega) t0 ⟨by decide, rfl⟩ (vs := [vI v2]) (st := []) ⟨rfl, Nat.le_of_ble_eq_true rfl, rfl⟩ (by decide +kernel) (fun I2 J3 h => ?_)
    refine gBk (pe := 60) hO [o0 (.iload_n 2)] (by decide +kernel) (show tWG K B 0 0 S I2 J3 60 [some (vR 51), some (vI v1), some (vI v2), some (vI v3), none] [vI v2] from ?_)
    refine gIfNe hO (off := 14) (tgt := 74) (by decide +kernel) (by decide) (fun c4 => ?_) (fun c4 => ?_)
    · have h := h.1 c4
      refine gBk (pe := 79) hO [o0 (.aload_n 0), oI (.iconst 0) 0, oI (.iconst 1) 1, oI (.bipush 60) 60] (by decide +kernel) (show tWG K B 0 0 S I2 J3 79 [some (vR 51), some (vI v1), some (vI v2), some (vI v3), none] [vI 60, vI 1, vI 0, vR 51] from ?_)
      refine gCVi_c hO (M5_bestPace t0 h) hc5_bestPace (idx := 69) (w := 1211) (by decide +kernel) hR (by omega) t0 ⟨by decide, rfl⟩ (vs := [vI 0, vI 1, vI 60]) (st := []) ⟨rfl, Nat.le_of_ble_eq_true rfl, rfl⟩ (by decide +kernel) (fun x7 I5 J6 h => ?_)
      refine gBk (pe := 85) hO [o0 (.istore_n 3), o0 (.iload_n 1), oI (.iconst (-1)) (-1)] (by decide +kernel) (And.intro (Nat.le_of_ble_eq_true rfl) (show tWG K B 0 0 S I5 J6 85 [some (vR 51), some (vI v1), some (vI v2), some (vI x7), none] [vI (-1), vI v1] from ?_))
      refine gIcNe hO (off := 10) (tgt := 95) (by decide +kernel) (by decide) (fun c8 => ?_) (fun c8 => ?_)
      · have h := h.1 c8
        refine gBk (pe := 98) hO [oI (.iconst 1) 1, o0 (.istore 4)] (by decide +kernel) (And.intro (Nat.le_of_ble_eq_true rfl) (show tWG K B 0 0 S I5 J6 98 [some (vR 51), some (vI v1), some (vI v2), some (vI x7), some (vI 1)] [] from ?_))
        exact gWeak (L' := [some (vR 51), some (vI v1), none, some (vI x7), some (vI 1)]) ⟨rfl, rfl, rfl, rfl, trivial⟩ (W5_soonestRow_L98 hO hR hG t0 hQ n _ _ _ _ _ h)
      · have h := h.2 c8
        refine gBk (pe := 94) hO [o0 (.aload_n 0), oF (.getfield 15) 5 3 166 53, o0 (.iload_n 3), o0 .iaload] (by decide +kernel) (And.intro t0 (And.intro rfl (And.intro (tGr.off hG t0 (k := 3) rfl) (And.intro (tin (tGr.len hG t0 (k := 3) rfl (by decide)) h.1) (show tWG K B 0 0 S I5 J6 94 [some (vR 51), some (vI v1), some (vI v2), some (vI x7), none] [vI (I5 53 x7.toNatClampNeg)] from ?_)))))
        have h := h.2
        exact gIret hO hQ (by decide +kernel) ⟨rfl, h⟩
    · have h := h.2 c4
      refine gBk (pe := 65) hO [o0 (.iload_n 1), oI (.iconst (-1)) (-1)] (by decide +kernel) (show tWG K B 0 0 S I2 J3 65 [some (vR 51), some (vI v1), some (vI v2), some (vI v3), none] [vI (-1), vI v1] from ?_)
      have hj13 : ∀ (m14 : Int32), m14 = (if v1 = (-1) then (0 : Int32) else (-1)) → tWG K B 0 0 S I2 J3 73 [none, none, none, none, none] [vI m14] := by
        intro m14 em14
        subst em14
        exact gIret hO hQ (by decide +kernel) ⟨rfl, h⟩
      refine gIcNe hO (off := 7) (tgt := 72) (by decide +kernel) (by decide) (fun c15 => ?_) (fun c15 => ?_)
      · refine gBk (pe := 73) hO [oI (.iconst (-1)) (-1)] (by decide +kernel) (show tWG K B 0 0 S I2 J3 73 [some (vR 51), some (vI v1), some (vI v2), some (vI v3), none] [vI (-1)] from ?_)
        exact gWeak (L' := [none, none, none, none, none]) trivial (hj13 _ (Eq.symm (if_neg c15)))
      · refine gBk (pe := 73) hO [oI (.iconst 0) 0, o0 (.goto 4)] (by decide +kernel) (show tWG K B 0 0 S I2 J3 73 [some (vR 51), some (vI v1), some (vI v2), some (vI v3), none] [vI 0] from ?_)
        exact gWeak (L' := [none, none, none, none, none]) trivial (hj13 _ (Eq.symm (if_pos c15)))
  · have h := h.2 c1
    refine gBk (pe := 33) hO [o0 (.aload_n 0), oF (.getfield 9) 5 2 165 52, o0 (.iload_n 3), o0 (.aload_n 0), oF (.getfield 38) 5 1 173 48, o0 (.iload_n 3)] (by decide +kernel) (And.intro t0 (And.intro rfl (And.intro t0 (And.intro rfl (show tWG K B 0 0 S I J 33 [some (vR 51), some (vI v1), some (vI v2), some (vI v3), none] [vI v3, vR 48, vI v3, vR 52] from ?_)))))
    refine gCVi_c hO (M2_quickest (tGr.abs hG t0 (k := 1) rfl) h) hc2_quickest (idx := 59) (w := 1204) (by decide +kernel) hR (by omega) (tGr.abs hG t0 (k := 1) rfl) ⟨by decide, rfl⟩ (vs := [vI v3]) (st := [vI v3, vR 52]) ⟨rfl, Nat.le_of_ble_eq_true rfl, rfl⟩ (by decide +kernel) (fun x18 I16 J17 h => ?_)
    refine gBk (pe := 43) hO [o0 .iastore, o0 (.aload_n 0), oF (.getfield 9) 5 2 165 52, o0 (.iload_n 3), o0 .iaload] (by decide +kernel) (And.intro (tGr.off hG t0 (k := 2) rfl) (And.intro (tin (tGr.len hG t0 (k := 2) rfl (by decide)) h.1) (And.intro t0 (And.intro rfl (And.intro (tGr.off hG t0 (k := 2) rfl) (And.intro (tin (tGr.len hG t0 (k := 2) rfl (by decide)) h.2.1) (show tWG K B 0 0 S (uI I16 52 v3.toNatClampNeg x18) J17 43 [some (vR 51), some (vI v1), some (vI v2), some (vI v3), none] [vI ((uI I16 52 v3.toNatClampNeg x18) 52 v3.toNatClampNeg)] from ?_)))))))
    have h := h.2.2
    refine gIfNe hO (off := 5) (tgt := 48) (by decide +kernel) (by decide) (fun c19 => ?_) (fun c19 => ?_)
    · have h := h.1 c19
      refine gBk (pe := 18) hO [oI (.iinc 3 1) 1, o0 (.goto (-33))] (by decide +kernel) (show tWG K B 0 0 S (uI I16 52 v3.toNatClampNeg x18) J17 18 [some (vR 51), some (vI v1), some (vI v2), some (vI (v3 + 1)), none] [] from ?_)
      exact hkb18 _ _ _ _ _ h
    · have h := h.2 c19
      refine gBk (pe := 47) hO [oI (.iconst (-1)) (-1)] (by decide +kernel) (show tWG K B 0 0 S (uI I16 52 v3.toNatClampNeg x18) J17 47 [some (vR 51), some (vI v1), some (vI v2), some (vI v3), none] [vI (-1)] from ?_)
      exact gIret hO hQ (by decide +kernel) ⟨rfl, h⟩
theorem W5_soonestRow_L18 {K : tK} {B : tB} {S : tSH} {MC MS : Nat} (hO : tKO K B RX5 cX5_soonestRow 5) (hR : kR K = tRm 7 MC MS) (hG : tGr S) {n : Nat} (t0 : ty S 51 5) {k : Int32 → tHI → tHJ → Prop} (hQ : tRet K B (tQi B (tPi S k)) 0 0 (some .int)) : ∀ (f : Nat) (I : tHI) (J : tHJ) (v1 : Int32) (v2 : Int32) (v3 : Int32), F5_soonestRow_L18 n S k f I J v1 v2 v3 → tWG K B 0 0 S I J 18 [some (vR 51), some (vI v1), some (vI v2), some (vI v3), none] [] := by
  intro f
  induction f with
  | zero => intro I J v1 v2 v3 h; exact h.elim
  | succ f ih => intro I J v1 v2 v3 h; exact W5_soonestRow_18 hO hR hG t0 hQ ih h
set_option maxRecDepth 20000 in
theorem hc5_soonestRow : tCV yX5_soonestRow cX5_soonestRow 5 (some .int) 1 := ⟨⟨(List.mem_of_getElem? (i := 1197) rfl), (List.mem_of_getElem? (i := 41) (by decide +kernel)), by decide +kernel⟩, (List.mem_of_getElem? (i := 1195) (by decide +kernel)), (List.mem_of_getElem? (i := 1196) (by decide +kernel))⟩
set_option maxRecDepth 100000 in
theorem M5_soonestRow {l : Launch} {B : tB} {S : tSH} {I : tHI} {J : tHJ} {v1 : Int32} {n : Nat} {k : Int32 → tHI → tHJ → Prop} (t0 : ty S 51 5) (h : F5_soonestRow n S I J v1 k) : Met l yX5_soonestRow (tWs yX5_soonestRow cX5_soonestRow 5 (some .int)) (tRm 7 0 0) (tPc B [vR 51, vI v1] S I J) (tQi B (tPi S k)) 0 0 (tA B) :=
  tEntry (by decide +kernel) [some (vR 51), some (vI v1), none, none, none] rfl rfl (Nat.le_of_ble_eq_true rfl) (fun K hl hR hO hQ hG => by
  subst hl
  refine gBk (pe := 12) hO [o0 (.aload_n 0), oF (.getfield 34) 5 0 172 1, oF (.getfield 42) 8 1 1198 7, oF (.getfield 48) 7 0 1199 0, oI (.bipush 12) 12] (by decide +kernel) (And.intro t0 (And.intro rfl (And.intro (tGr.abs hG t0 (k := 0) rfl) (And.intro rfl (And.intro (tGr.off hG (tGr.abs hG t0 (k := 0) rfl) (k := 1) rfl) (show tWG K B 0 0 S I J 12 [some (vR 51), some (vI v1), none, none, none] [vI 12, vI (I 7 0)] from ?_))))))
  refine gMin hO (idx := 53) (w := 1200) (by decide +kernel) hR (by omega) (st := []) (Nat.le_of_ble_eq_true rfl) rfl (by decide +kernel) ?_
  refine gBk (pe := 18) hO [o0 (.istore_n 2), oI (.iconst 0) 0, o0 (.istore_n 3)] (by decide +kernel) (And.intro (Nat.le_of_ble_eq_true rfl) (And.intro (Nat.le_of_ble_eq_true rfl) (show tWG K B 0 0 S I J 18 [some (vR 51), some (vI v1), some (vI (if 12 < (I 7 0) then 12 else (I 7 0))), some (vI 0), none] [] from ?_)))
  exact W5_soonestRow_L18 hO hR hG t0 hQ n _ _ _ _ _ h)
set_option maxRecDepth 100000 in
theorem W5_lanesRow_173 {K : tK} {B : tB} {S : tSH} {MC MS : Nat} (hO : tKO K B RX5 cX5_lanesRow 6) (hR : kR K = tRm 4 MC MS) (hG : tGr S) {n : Nat} (t0 : ty S 51 5) {k : Int32 → tHI → tHJ → Prop} (hQ : tRet K B (tQi B (tPi S k)) 0 0 (some .int)) {kb173 : tHI → tHJ → Int32 → Int32 → Int32 → Prop} (hkb173 : ∀ (I : tHI) (J : tHJ) (v1 : Int32) (v3 : Int32) (v4 : Int32), kb173 I J v1 v3 v4 → tWG K B 0 0 S I J 173 [some (vR 51), some (vI v1), none, some (vI v3), some (vI v4), none] []) {I : tHI} {J : tHJ} {v1 : Int32} {v3 : Int32} {v4 : Int32} (h : F5_lanesRow_173 n S k kb173 I J v1 v3 v4) : tWG K B 0 0 S I J 173 [some (vR 51), some (vI v1), none, some (vI v3), some (vI v4), none] [] := by
  refine gBk (pe := 178) hO [o0 (.iload 4), o0 (.iload_n 1), oI (.iconst 2) 2, o0 .isub] (by decide +kernel) (show tWG K B 0 0 S I J 178 [some (vR 51), some (vI v1), none, some (vI v3), some (vI v4), none] [vI (v1 - 2), vI v4] from ?_)
  refine gIcGt hO (off := 17) (tgt := 195) (by decide +kernel) (by decide) (fun c5 => ?_) (fun c5 => ?_)
  · have h := h.1 c5
    refine gBk (pe := 196) hO [o0 (.iload_n 3)] (by decide +kernel) (show tWG K B 0 0 S I J 196 [some (vR 51), some (vI v1), none, some (vI v3), some (vI v4), none] [vI v3] from ?_)
    exact gIret hO hQ (by decide +kernel) ⟨rfl, h⟩
  · have h := h.2 c5
    refine gBk (pe := 185) hO [o0 (.aload_n 0), o0 (.iload 4), o0 (.iload_n 3)] (by decide +kernel) (show tWG K B 0 0 S I J 185 [some (vR 51), some (vI v1), none, some (vI v3), some (vI v4), none] [vI v3, vI v4, vR 51] from ?_)
    refine gCVi_c hO (M5_bestLane t0 h) hc5_bestLane (idx := 98) (w := 1238) (by decide +kernel) hR (by omega) t0 ⟨by decide, rfl⟩ (vs := [vI v4, vI v3]) (st := []) ⟨rfl, Nat.le_of_ble_eq_true rfl, rfl⟩ (by decide +kernel) (fun x8 I6 J7 h => ?_)
    refine gBk (pe := 173) hO [o0 (.istore_n 3), oI (.iinc 4 1) 1, o0 (.goto (-19))] (by decide +kernel) (And.intro (Nat.le_of_ble_eq_true rfl) (show tWG K B 0 0 S I6 J7 173 [some (vR 51), some (vI v1), none, some (vI x8), some (vI (v4 + 1)), none] [] from ?_))
    exact hkb173 _ _ _ _ _ h
theorem W5_lanesRow_L173 {K : tK} {B : tB} {S : tSH} {MC MS : Nat} (hO : tKO K B RX5 cX5_lanesRow 6) (hR : kR K = tRm 4 MC MS) (hG : tGr S) {n : Nat} (t0 : ty S 51 5) {k : Int32 → tHI → tHJ → Prop} (hQ : tRet K B (tQi B (tPi S k)) 0 0 (some .int)) : ∀ (f : Nat) (I : tHI) (J : tHJ) (v1 : Int32) (v3 : Int32) (v4 : Int32), F5_lanesRow_L173 n S k f I J v1 v3 v4 → tWG K B 0 0 S I J 173 [some (vR 51), some (vI v1), none, some (vI v3), some (vI v4), none] [] := by
  intro f
  induction f with
  | zero => intro I J v1 v3 v4 h; exact h.elim
  | succ f ih => intro I J v1 v3 v4 h; exact W5_lanesRow_173 hO hR hG t0 hQ ih h
set_option maxRecDepth 100000 in
theorem W5_lanesRow_150 {K : tK} {B : tB} {S : tSH} {MC MS : Nat} (hO : tKO K B RX5 cX5_lanesRow 6) (hR : kR K = tRm 4 MC MS) (hG : tGr S) {n : Nat} (t0 : ty S 51 5) {k : Int32 → tHI → tHJ → Prop} (hQ : tRet K B (tQi B (tPi S k)) 0 0 (some .int)) {I : tHI} {J : tHJ} {v1 : Int32} {s0 : Int32} (h : F5_lanesRow_150 n S k I J v1 s0) : tWG K B 0 0 S I J 150 [none, some (vI v1), none, none, none, none] [vI s0] := by
  refine gBk (pe := 153) hO [o0 (.istore 4), o0 (.iload_n 1)] (by decide +kernel) (And.intro (Nat.le_of_ble_eq_true rfl) (show tWG K B 0 0 S I J 153 [none, some (vI v1), none, none, some (vI s0), none] [vI v1] from ?_))
  have hj13 : ∀ (m14 : Int32), m14 = (if v1 = 0 then (s0 / 100) else (s0 - s0 / 100 * 100)) → tWG K B 0 0 S I J 169 [none, none, none, none, none, none] [vI m14] := by
    intro m14 em14
    subst em14
    exact gIret hO hQ (by decide +kernel) ⟨rfl, h⟩
  refine gIfNe hO (off := 11) (tgt := 164) (by decide +kernel) (by decide) (fun c15 => ?_) (fun c15 => ?_)
  · refine gBk (pe := 169) hO [o0 (.iload 4), oI (.bipush 100) 100, o0 .irem] (by decide +kernel) (And.intro (by decide) (show tWG K B 0 0 S I J 169 [none, some (vI v1), none, none, some (vI s0), none] [vI (s0 - s0 / 100 * 100)] from ?_))
    exact gWeak (L' := [none, none, none, none, none, none]) trivial (hj13 _ (Eq.symm (if_neg c15)))
  · refine gBk (pe := 169) hO [o0 (.iload 4), oI (.bipush 100) 100, o0 .idiv, o0 (.goto 8)] (by decide +kernel) (And.intro (by decide) (show tWG K B 0 0 S I J 169 [none, some (vI v1), none, none, some (vI s0), none] [vI (s0 / 100)] from ?_))
    exact gWeak (L' := [none, none, none, none, none, none]) trivial (hj13 _ (Eq.symm (if_pos c15)))
set_option maxRecDepth 100000 in
theorem W5_lanesRow_70 {K : tK} {B : tB} {S : tSH} {MC MS : Nat} (hO : tKO K B RX5 cX5_lanesRow 6) (hR : kR K = tRm 4 MC MS) (hG : tGr S) {n : Nat} (t0 : ty S 51 5) {k : Int32 → tHI → tHJ → Prop} (hQ : tRet K B (tQi B (tPi S k)) 0 0 (some .int)) {kb28 : tHI → tHJ → Int32 → Int32 → Int32 → Prop} (hkb28 : ∀ (I : tHI) (J : tHJ) (v1 : Int32) (v2 : Int32) (v3 : Int32), kb28 I J v1 v2 v3 → tWG K B 0 0 S I J 28 [some (vR 51), some (vI v1), some (vI v2), some (vI v3), none, none] []) {kb35 : tHI → tHJ → Int32 → Int32 → Int32 → Int32 → Prop} (hkb35 : ∀ (I : tHI) (J : tHJ) (v1 : Int32) (v2 : Int32) (v3 : Int32) (v4 : Int32), kb35 I J v1 v2 v3 v4 → tWG K B 0 0 S I J 35 [some (vR 51), some (vI v1), some (vI v2), some (vI v3), some (vI v4), none] []) {I : tHI} {J : tHJ} {v1 : Int32} {v2 : Int32} {v3 : Int32} {v4 : Int32} {s0 : Int32} (h : F5_lanesRow_70 n S k kb28 kb35 I J v1 v2 v3 v4 s0) : tWG K B 0 0 S I J 70 [some (vR 51), some (vI v1), some (vI v2), some (vI v3), some (vI v4), none] [vI s0] := by
  refine gBk (pe := 92) hO [o0 (.istore 5), o0 (.aload_n 0), oF (.getfield 18) 5 4 167 54, o0 (.iload_n 3), oI (.iconst 3) 3, o0 .imul, o0 (.iload 4), o0 .iadd, o0 (.aload_n 0), oF (.getfield 34) 5 0 172 1, oF (.getfield 42) 8 1 1198 7, o0 (.iload_n 3), o0 (.iload 4)] (by decide +kernel) (And.intro (Nat.le_of_ble_eq_true rfl) (And.intro t0 (And.intro rfl (And.intro t0 (And.intro rfl (And.intro (tGr.abs hG t0 (k := 0) rfl) (And.intro rfl (show tWG K B 0 0 S I J 92 [some (vR 51), some (vI v1), some (vI v2), some (vI v3), some (vI v4), some (vI s0)] [vI v4, vI v3, vR 7, vI ((v3 * 3) + v4), vR 54] from ?_))))))))
  refine gCVi_c hO (M7_holesUnder (tGr.off hG (tGr.abs hG t0 (k := 0) rfl) (k := 1) rfl) h) hc7_holesUnder (idx := 104) (w := 1246) (by decide +kernel) hR (by omega) (tGr.off hG (tGr.abs hG t0 (k := 0) rfl) (k := 1) rfl) ⟨by decide, rfl⟩ (vs := [vI v3, vI v4]) (st := [vI ((v3 * 3) + v4), vR 54]) ⟨rfl, Nat.le_of_ble_eq_true rfl, rfl⟩ (by decide +kernel) (fun x20 I18 J19 h => ?_)
  refine gBk (pe := 35) hO [oI (.bipush 100) 100, o0 .imul, o0 (.iload 5), o0 .iadd, o0 .iastore, oI (.iinc 4 1) 1, o0 (.goto (-70))] (by decide +kernel) (And.intro (tGr.off hG t0 (k := 4) rfl) (And.intro (tin (tGr.len hG t0 (k := 4) rfl (by decide)) h.1) (show tWG K B 0 0 S (uI I18 54 ((v3 * 3) + v4).toNatClampNeg ((x20 * 100) + s0)) J19 35 [some (vR 51), some (vI v1), some (vI v2), some (vI v3), some (vI (v4 + 1)), some (vI s0)] [] from ?_)))
  have h := h.2
  exact gWeak (L' := [some (vR 51), some (vI v1), some (vI v2), some (vI v3), some (vI (v4 + 1)), none]) ⟨rfl, rfl, rfl, rfl, rfl, trivial⟩ (hkb35 _ _ _ _ _ _ h)
set_option maxRecDepth 100000 in
theorem W5_lanesRow_35 {K : tK} {B : tB} {S : tSH} {MC MS : Nat} (hO : tKO K B RX5 cX5_lanesRow 6) (hR : kR K = tRm 4 MC MS) (hG : tGr S) {n : Nat} (t0 : ty S 51 5) {k : Int32 → tHI → tHJ → Prop} (hQ : tRet K B (tQi B (tPi S k)) 0 0 (some .int)) {kb28 : tHI → tHJ → Int32 → Int32 → Int32 → Prop} (hkb28 : ∀ (I : tHI) (J : tHJ) (v1 : Int32) (v2 : Int32) (v3 : Int32), kb28 I J v1 v2 v3 → tWG K B 0 0 S I J 28 [some (vR 51), some (vI v1), some (vI v2), some (vI v3), none, none] []) {kb35 : tHI → tHJ → Int32 → Int32 → Int32 → Int32 → Prop} (hkb35 : ∀ (I : tHI) (J : tHJ) (v1 : Int32) (v2 : Int32) (v3 : Int32) (v4 : Int32), kb35 I J v1 v2 v3 v4 → tWG K B 0 0 S I J 35 [some (vR 51), some (vI v1), some (vI v2), some (vI v3), some (vI v4), none] []) {I : tHI} {J : tHJ} {v1 : Int32} {v2 : Int32} {v3 : Int32} {v4 : Int32} (h : F5_lanesRow_35 n S k kb28 kb35 I J v1 v2 v3 v4) : tWG K B 0 0 S I J 35 [some (vR 51), some (vI v1), some (vI v2), some (vI v3), some (vI v4), none] [] := by
  refine gBk (pe := 38) hO [o0 (.iload 4), oI (.iconst 3) 3] (by decide +kernel) (show tWG K B 0 0 S I J 38 [some (vR 51), some (vI v1), some (vI v2), some (vI v3), some (vI v4), none] [vI 3, vI v4] from ?_)
  refine gIcGe hO (off := 70) (tgt := 108) (by decide +kernel) (by decide) (fun c16 => ?_) (fun c16 => ?_)
  · have h := h.1 c16
    refine gBk (pe := 28) hO [oI (.iinc 3 (-1)) (-1), o0 (.goto (-83))] (by decide +kernel) (show tWG K B 0 0 S I J 28 [some (vR 51), some (vI v1), some (vI v2), some (vI (v3 + (-1))), some (vI v4), none] [] from ?_)
    exact gWeak (L' := [some (vR 51), some (vI v1), some (vI v2), some (vI (v3 + (-1))), none, none]) ⟨rfl, rfl, rfl, rfl, trivial⟩ (hkb28 _ _ _ _ _ h)
  · have h := h.2 c16
    refine gBk (pe := 45) hO [o0 (.iload_n 3), oI (.iconst 1) 1, o0 .iadd, o0 (.iload_n 2)] (by decide +kernel) (show tWG K B 0 0 S I J 45 [some (vR 51), some (vI v1), some (vI v2), some (vI v3), some (vI v4), none] [vI v2, vI (v3 + 1)] from ?_)
    refine gIcGe hO (off := 24) (tgt := 69) (by decide +kernel) (by decide) (fun c17 => ?_) (fun c17 => ?_)
    · have h := h.1 c17
      refine gBk (pe := 70) hO [oI (.iconst 0) 0] (by decide +kernel) (show tWG K B 0 0 S I J 70 [some (vR 51), some (vI v1), some (vI v2), some (vI v3), some (vI v4), none] [vI 0] from ?_)
      exact W5_lanesRow_70 hO hR hG t0 hQ hkb28 hkb35 h
    · have h := h.2 c17
      refine gBk (pe := 60) hO [o0 (.aload_n 0), o0 (.iload_n 3), oI (.iconst 1) 1, o0 .iadd, o0 (.iload 4), o0 (.aload_n 0), o0 (.iload_n 3), oI (.iconst 1) 1, o0 .iadd, o0 (.iload 4)] (by decide +kernel) (show tWG K B 0 0 S I J 60 [some (vR 51), some (vI v1), some (vI v2), some (vI v3), some (vI v4), none] [vI v4, vI (v3 + 1), vR 51, vI v4, vI (v3 + 1), vR 51] from ?_)
      refine gCVi_c hO (M5_bestLane t0 h) hc5_bestLane (idx := 98) (w := 1238) (by decide +kernel) hR (by omega) t0 ⟨by decide, rfl⟩ (vs := [vI (v3 + 1), vI v4]) (st := [vI v4, vI (v3 + 1), vR 51]) ⟨rfl, Nat.le_of_ble_eq_true rfl, rfl⟩ (by decide +kernel) (fun x23 I21 J22 h => ?_)
      refine gCVi_p hO (M5_costFrom t0 h.1) hc5_costFrom (idx := 101) (w := 1242) (by decide +kernel) hR (by omega) t0 ⟨by decide, rfl⟩ (vs := [vI (v3 + 1), vI v4, vI x23]) (st := []) ⟨rfl, Nat.le_of_ble_eq_true rfl, rfl⟩ (by decide +kernel) ?_
      have h := h.2
      refine gBk (pe := 70) hO [o0 (.goto 4)] (by decide +kernel) (show tWG K B 0 0 S I21 J22 70 [some (vR 51), some (vI v1), some (vI v2), some (vI v3), some (vI v4), none] [vI (V5_costFrom S I21 J22 (v3 + 1) v4 x23)] from ?_)
      exact W5_lanesRow_70 hO hR hG t0 hQ hkb28 hkb35 h
theorem W5_lanesRow_L35 {K : tK} {B : tB} {S : tSH} {MC MS : Nat} (hO : tKO K B RX5 cX5_lanesRow 6) (hR : kR K = tRm 4 MC MS) (hG : tGr S) {n : Nat} (t0 : ty S 51 5) {k : Int32 → tHI → tHJ → Prop} (hQ : tRet K B (tQi B (tPi S k)) 0 0 (some .int)) {kb28 : tHI → tHJ → Int32 → Int32 → Int32 → Prop} (hkb28 : ∀ (I : tHI) (J : tHJ) (v1 : Int32) (v2 : Int32) (v3 : Int32), kb28 I J v1 v2 v3 → tWG K B 0 0 S I J 28 [some (vR 51), some (vI v1), some (vI v2), some (vI v3), none, none] []) : ∀ (f : Nat) (I : tHI) (J : tHJ) (v1 : Int32) (v2 : Int32) (v3 : Int32) (v4 : Int32), F5_lanesRow_L35 n S k kb28 f I J v1 v2 v3 v4 → tWG K B 0 0 S I J 35 [some (vR 51), some (vI v1), some (vI v2), some (vI v3), some (vI v4), none] [] := by
  intro f
  induction f with
  | zero => intro I J v1 v2 v3 v4 h; exact h.elim
  | succ f ih => intro I J v1 v2 v3 v4 h; exact W5_lanesRow_35 hO hR hG t0 hQ hkb28 ih h
set_option maxRecDepth 100000 in
theorem W5_lanesRow_28 {K : tK} {B : tB} {S : tSH} {MC MS : Nat} (hO : tKO K B RX5 cX5_lanesRow 6) (hR : kR K = tRm 4 MC MS) (hG : tGr S) {n : Nat} (t0 : ty S 51 5) {k : Int32 → tHI → tHJ → Prop} (hQ : tRet K B (tQi B (tPi S k)) 0 0 (some .int)) {kb28 : tHI → tHJ → Int32 → Int32 → Int32 → Prop} (hkb28 : ∀ (I : tHI) (J : tHJ) (v1 : Int32) (v2 : Int32) (v3 : Int32), kb28 I J v1 v2 v3 → tWG K B 0 0 S I J 28 [some (vR 51), some (vI v1), some (vI v2), some (vI v3), none, none] []) {I : tHI} {J : tHJ} {v1 : Int32} {v2 : Int32} {v3 : Int32} (h : F5_lanesRow_28 n S k kb28 I J v1 v2 v3) : tWG K B 0 0 S I J 28 [some (vR 51), some (vI v1), some (vI v2), some (vI v3), none, none] [] := by
  refine gBk (pe := 29) hO [o0 (.iload_n 3)] (by decide +kernel) (show tWG K B 0 0 S I J 29 [some (vR 51), some (vI v1), some (vI v2), some (vI v3), none, none] [vI v3] from ?_)
  refine gIfLt hO (off := 85) (tgt := 114) (by decide +kernel) (by decide) (fun c3 => ?_) (fun c3 => ?_)
  · have h := h.1 c3
    refine gBk (pe := 127) hO [o0 (.aload_n 0), oF (.getfield 34) 5 0 172 1, oF (.getfield 73) 8 2 1201 15, oF (.getfield 107) 10 1 1237 0, o0 (.istore_n 3), o0 (.iload_n 1), oI (.iconst 2) 2] (by decide +kernel) (And.intro t0 (And.intro rfl (And.intro (tGr.abs hG t0 (k := 0) rfl) (And.intro rfl (And.intro (tGr.off hG (tGr.abs hG t0 (k := 0) rfl) (k := 2) rfl) (And.intro (Nat.le_of_ble_eq_true rfl) (show tWG K B 0 0 S I J 127 [some (vR 51), some (vI v1), some (vI v2), some (vI (I 15 1)), none, none] [vI 2, vI v1] from ?_)))))))
    refine gIcGe hO (off := 43) (tgt := 170) (by decide +kernel) (by decide) (fun c4 => ?_) (fun c4 => ?_)
    · have h := h.1 c4
      refine gBk (pe := 173) hO [oI (.iconst 0) 0, o0 (.istore 4)] (by decide +kernel) (And.intro (Nat.le_of_ble_eq_true rfl) (show tWG K B 0 0 S I J 173 [some (vR 51), some (vI v1), some (vI v2), some (vI (I 15 1)), some (vI 0), none] [] from ?_))
      exact gWeak (L' := [some (vR 51), some (vI v1), none, some (vI (I 15 1)), some (vI 0), none]) ⟨rfl, rfl, rfl, rfl, trivial⟩ (W5_lanesRow_L173 hO hR hG t0 hQ n _ _ _ _ _ h)
    · have h := h.2 c4
      refine gBk (pe := 131) hO [o0 (.iload_n 2)] (by decide +kernel) (show tWG K B 0 0 S I J 131 [some (vR 51), some (vI v1), some (vI v2), some (vI (I 15 1)), none, none] [vI v2] from ?_)
      refine gIfNe hO (off := 7) (tgt := 138) (by decide +kernel) (by decide) (fun c9 => ?_) (fun c9 => ?_)
      · have h := h.1 c9
        refine gBk (pe := 144) hO [o0 (.aload_n 0), oI (.iconst 0) 0, o0 (.iload_n 3), o0 (.aload_n 0), oI (.iconst 0) 0, o0 (.iload_n 3)] (by decide +kernel) (show tWG K B 0 0 S I J 144 [some (vR 51), some (vI v1), some (vI v2), some (vI (I 15 1)), none, none] [vI (I 15 1), vI 0, vR 51, vI (I 15 1), vI 0, vR 51] from ?_)
        refine gCVi_c hO (M5_bestLane t0 h) hc5_bestLane (idx := 98) (w := 1238) (by decide +kernel) hR (by omega) t0 ⟨by decide, rfl⟩ (vs := [vI 0, vI (I 15 1)]) (st := [vI (I 15 1), vI 0, vR 51]) ⟨rfl, Nat.le_of_ble_eq_true rfl, rfl⟩ (by decide +kernel) (fun x12 I10 J11 h => ?_)
        refine gCVi_p hO (M5_costFrom t0 h.1) hc5_costFrom (idx := 101) (w := 1242) (by decide +kernel) hR (by omega) t0 ⟨by decide, rfl⟩ (vs := [vI 0, vI (I 15 1), vI x12]) (st := []) ⟨rfl, Nat.le_of_ble_eq_true rfl, rfl⟩ (by decide +kernel) ?_
        have h := h.2
        exact gWeak (L' := [none, some (vI v1), none, none, none, none]) ⟨rfl, trivial⟩ (W5_lanesRow_150 hO hR hG t0 hQ h)
      · have h := h.2 c9
        refine gBk (pe := 150) hO [oI (.iconst 0) 0, o0 (.goto 15)] (by decide +kernel) (show tWG K B 0 0 S I J 150 [some (vR 51), some (vI v1), some (vI v2), some (vI (I 15 1)), none, none] [vI 0] from ?_)
        exact gWeak (L' := [none, some (vI v1), none, none, none, none]) ⟨rfl, trivial⟩ (W5_lanesRow_150 hO hR hG t0 hQ h)
  · have h := h.2 c3
    refine gBk (pe := 35) hO [oI (.iconst 0) 0, o0 (.istore 4)] (by decide +kernel) (And.intro (Nat.le_of_ble_eq_true rfl) (show tWG K B 0 0 S I J 35 [some (vR 51), some (vI v1), some (vI v2), some (vI v3), some (vI 0), none] [] from ?_))
    exact W5_lanesRow_L35 hO hR hG t0 hQ hkb28 n _ _ _ _ _ _ h
theorem W5_lanesRow_L28 {K : tK} {B : tB} {S : tSH} {MC MS : Nat} (hO : tKO K B RX5 cX5_lanesRow 6) (hR : kR K = tRm 4 MC MS) (hG : tGr S) {n : Nat} (t0 : ty S 51 5) {k : Int32 → tHI → tHJ → Prop} (hQ : tRet K B (tQi B (tPi S k)) 0 0 (some .int)) : ∀ (f : Nat) (I : tHI) (J : tHJ) (v1 : Int32) (v2 : Int32) (v3 : Int32), F5_lanesRow_L28 n S k f I J v1 v2 v3 → tWG K B 0 0 S I J 28 [some (vR 51), some (vI v1), some (vI v2), some (vI v3), none, none] [] := by
  intro f
  induction f with
  | zero => intro I J v1 v2 v3 h; exact h.elim
  | succ f ih => intro I J v1 v2 v3 h; exact W5_lanesRow_28 hO hR hG t0 hQ ih h
set_option maxRecDepth 20000 in
theorem hc5_lanesRow : tCV yX5_lanesRow cX5_lanesRow 6 (some .int) 1 := ⟨⟨(List.mem_of_getElem? (i := 1236) rfl), (List.mem_of_getElem? (i := 41) (by decide +kernel)), by decide +kernel⟩, (List.mem_of_getElem? (i := 1234) (by decide +kernel)), (List.mem_of_getElem? (i := 1235) (by decide +kernel))⟩
set_option maxRecDepth 100000 in
theorem M5_lanesRow {l : Launch} {B : tB} {S : tSH} {I : tHI} {J : tHJ} {v1 : Int32} {n : Nat} {k : Int32 → tHI → tHJ → Prop} (t0 : ty S 51 5) (h : F5_lanesRow n S I J v1 k) : Met l yX5_lanesRow (tWs yX5_lanesRow cX5_lanesRow 6 (some .int)) (tRm 4 0 0) (tPc B [vR 51, vI v1] S I J) (tQi B (tPi S k)) 0 0 (tA B) :=
  tEntry (by decide +kernel) [some (vR 51), some (vI v1), none, none, none, none] rfl rfl (Nat.le_of_ble_eq_true rfl) (fun K hl hR hO hQ hG => by
  subst hl
  refine gBk (pe := 12) hO [o0 (.aload_n 0), oF (.getfield 34) 5 0 172 1, oF (.getfield 42) 8 1 1198 7, oF (.getfield 48) 7 0 1199 0, oI (.bipush 12) 12] (by decide +kernel) (And.intro t0 (And.intro rfl (And.intro (tGr.abs hG t0 (k := 0) rfl) (And.intro rfl (And.intro (tGr.off hG (tGr.abs hG t0 (k := 0) rfl) (k := 1) rfl) (show tWG K B 0 0 S I J 12 [some (vR 51), some (vI v1), none, none, none, none] [vI 12, vI (I 7 0)] from ?_))))))
  refine gMin hO (idx := 53) (w := 1200) (by decide +kernel) hR (by omega) (st := []) (Nat.le_of_ble_eq_true rfl) rfl (by decide +kernel) ?_
  refine gBk (pe := 21) hO [o0 (.istore_n 2), o0 (.aload_n 0), oF (.getfield 18) 5 4 167 54, oI (.iconst 0) 0] (by decide +kernel) (And.intro (Nat.le_of_ble_eq_true rfl) (And.intro t0 (And.intro rfl (show tWG K B 0 0 S I J 21 [some (vR 51), some (vI v1), some (vI (if 12 < (I 7 0) then 12 else (I 7 0))), none, none, none] [vI 0, vR 54] from ?_))))
  refine gCSv_c hO (MJ7_fill_53178 (tGr.off hG t0 (k := 4) rfl) h) hcJ7_fill_53178 (idx := 86) (w := 1210) (by decide +kernel) hR (by omega) (vs := [vR 54, vI 0]) (st := []) ⟨rfl, Nat.le_of_ble_eq_true rfl, rfl⟩ (by decide +kernel) (fun I1 J2 h => ?_)
  refine gBk (pe := 28) hO [o0 (.iload_n 2), oI (.iconst 1) 1, o0 .isub, o0 (.istore_n 3)] (by decide +kernel) (And.intro (Nat.le_of_ble_eq_true rfl) (show tWG K B 0 0 S I1 J2 28 [some (vR 51), some (vI v1), some (vI (if 12 < (I 7 0) then 12 else (I 7 0))), some (vI ((if 12 < (I 7 0) then 12 else (I 7 0)) - 1)), none, none] [] from ?_))
  exact W5_lanesRow_L28 hO hR hG t0 hQ n _ _ _ _ _ h)
set_option maxRecDepth 100000 in
theorem W5_quickAsTried_22 {K : tK} {B : tB} {S : tSH} {MC MS : Nat} (hO : tKO K B RX5 cX5_quickAsTried 3) (hR : kR K = tRm 7 MC MS) (hG : tGr S) {n : Nat} (t0 : ty S 51 5) {k : Int32 → tHI → tHJ → Prop} (hQ : tRet K B (tQi B (tPi S k)) 0 0 (some .int)) {I : tHI} {J : tHJ} (h : F5_quickAsTried_22 n S k I J) : tWG K B 0 0 S I J 22 [none, none, none] [] := by
  refine gBk (pe := 23) hO [oI (.iconst 0) 0] (by decide +kernel) (show tWG K B 0 0 S I J 23 [none, none, none] [vI 0] from ?_)
  exact gIret hO hQ (by decide +kernel) ⟨rfl, h⟩
set_option maxRecDepth 100000 in
theorem W5_quickAsTried_61 {K : tK} {B : tB} {S : tSH} {MC MS : Nat} (hO : tKO K B RX5 cX5_quickAsTried 3) (hR : kR K = tRm 7 MC MS) (hG : tGr S) {n : Nat} (t0 : ty S 51 5) {k : Int32 → tHI → tHJ → Prop} (hQ : tRet K B (tQi B (tPi S k)) 0 0 (some .int)) {I : tHI} {J : tHJ} {v2 : Int32} (h : F5_quickAsTried_61 n S k I J v2) : tWG K B 0 0 S I J 61 [some (vR 51), none, some (vI v2)] [] := by
  refine gBk (pe := 67) hO [o0 (.aload_n 0), oF (.getfield 21) 5 5 168 55, o0 (.iload_n 2), o0 .iaload] (by decide +kernel) (And.intro t0 (And.intro rfl (And.intro (tGr.off hG t0 (k := 5) rfl) (And.intro (tin (tGr.len hG t0 (k := 5) rfl (by decide)) h.1) (show tWG K B 0 0 S I J 67 [some (vR 51), none, some (vI v2)] [vI (I 55 v2.toNatClampNeg)] from ?_)))))
  have h := h.2
  exact gIret hO hQ (by decide +kernel) ⟨rfl, h⟩
set_option maxRecDepth 20000 in
theorem hc5_quickAsTried : tCV yX5_quickAsTried cX5_quickAsTried 3 (some .int) 1 := ⟨⟨(List.mem_of_getElem? (i := 1289) rfl), (List.mem_of_getElem? (i := 41) (by decide +kernel)), by decide +kernel⟩, (List.mem_of_getElem? (i := 1287) (by decide +kernel)), (List.mem_of_getElem? (i := 1288) (by decide +kernel))⟩
set_option maxRecDepth 100000 in
theorem M5_quickAsTried {l : Launch} {B : tB} {S : tSH} {I : tHI} {J : tHJ} {v1 : Int32} {n : Nat} {k : Int32 → tHI → tHJ → Prop} (t0 : ty S 51 5) (h : F5_quickAsTried n S I J v1 k) : Met l yX5_quickAsTried (tWs yX5_quickAsTried cX5_quickAsTried 3 (some .int)) (tRm 7 0 0) (tPc B [vR 51, vI v1] S I J) (tQi B (tPi S k)) 0 0 (tA B) :=
  tEntry (by decide +kernel) [some (vR 51), some (vI v1), none] rfl rfl (Nat.le_of_ble_eq_true rfl) (fun K hl hR hO hQ hG => by
  subst hl
  refine gBk (pe := 10) hO [o0 (.aload_n 0), oF (.getfield 30) 5 8 171 0, oI (.sipush 2400) 2400, o0 .iadd, o0 (.istore_n 2), o0 (.iload_n 2)] (by decide +kernel) (And.intro t0 (And.intro (Nat.le_of_ble_eq_true rfl) (show tWG K B 0 0 S I J 10 [some (vR 51), some (vI v1), some (vI ((I 51 8) + 2400))] [vI ((I 51 8) + 2400)] from ?_)))
  refine gIfLt hO (off := 12) (tgt := 22) (by decide +kernel) (by decide) (fun c1 => ?_) (fun c1 => ?_)
  · have h := h.1 c1
    exact gWeak (L' := [none, none, none]) trivial (W5_quickAsTried_22 hO hR hG t0 hQ h)
  · have h := h.2 c1
    refine gBk (pe := 19) hO [o0 (.iload_n 2), o0 (.aload_n 0), oF (.getfield 21) 5 5 168 55, oF .arraylength 40 0 0 0] (by decide +kernel) (And.intro t0 (And.intro rfl (And.intro (tGr.off hG t0 (k := 5) rfl) (show tWG K B 0 0 S I J 19 [some (vR 51), some (vI v1), some (vI ((I 51 8) + 2400))] [vI (Int32.ofNat (sL S 55)), vI ((I 51 8) + 2400)] from ?_))))
    refine gIcLt hO (off := 5) (tgt := 24) (by decide +kernel) (by decide) (fun c2 => ?_) (fun c2 => ?_)
    · have h := h.1 c2
      refine gBk (pe := 31) hO [o0 (.aload_n 0), oF (.getfield 21) 5 5 168 55, o0 (.iload_n 2), o0 .iaload, oI (.iconst (-1)) (-1)] (by decide +kernel) (And.intro t0 (And.intro rfl (And.intro (tGr.off hG t0 (k := 5) rfl) (And.intro (tin (tGr.len hG t0 (k := 5) rfl (by decide)) h.1) (show tWG K B 0 0 S I J 31 [some (vR 51), some (vI v1), some (vI ((I 51 8) + 2400))] [vI (-1), vI (I 55 ((I 51 8) + 2400).toNatClampNeg)] from ?_)))))
      have h := h.2
      refine gIcNe hO (off := 30) (tgt := 61) (by decide +kernel) (by decide) (fun c3 => ?_) (fun c3 => ?_)
      · have h := h.1 c3
        exact gWeak (L' := [some (vR 51), none, some (vI ((I 51 8) + 2400))]) ⟨rfl, rfl, trivial⟩ (W5_quickAsTried_61 hO hR hG t0 hQ h)
      · have h := h.2 c3
        refine gBk (pe := 57) hO [o0 (.aload_n 0), oF (.getfield 38) 5 1 173 48, oF (.getfield 139) 2 0 1290 49, oI (.iconst 5) 5, o0 (.aload_n 0), oF (.getfield 30) 5 8 171 0, o0 .iastore, o0 (.aload_n 0), oF (.getfield 21) 5 5 168 55, o0 (.iload_n 2), o0 (.aload_n 0), oF (.getfield 38) 5 1 173 48, o0 (.iload_n 1)] (by decide +kernel) (And.intro t0 (And.intro rfl (And.intro (tGr.abs hG t0 (k := 1) rfl) (And.intro rfl (And.intro t0 (And.intro (tGr.off hG (tGr.abs hG t0 (k := 1) rfl) (k := 0) rfl) (And.intro (tin (tGr.len hG (tGr.abs hG t0 (k := 1) rfl) (k := 0) rfl (by decide)) (tvi (by decide +kernel))) (And.intro t0 (And.intro rfl (And.intro t0 (And.intro rfl (show tWG K B 0 0 S (uI I 49 5 (I 51 8)) J 57 [some (vR 51), some (vI v1), some (vI ((I 51 8) + 2400))] [vI v1, vR 48, vI ((I 51 8) + 2400), vR 55] from ?_))))))))))))
        refine gCVi_c hO (M2_quickest (tGr.abs hG t0 (k := 1) rfl) h) hc2_quickest (idx := 59) (w := 1204) (by decide +kernel) hR (by omega) (tGr.abs hG t0 (k := 1) rfl) ⟨by decide, rfl⟩ (vs := [vI v1]) (st := [vI ((I 51 8) + 2400), vR 55]) ⟨rfl, Nat.le_of_ble_eq_true rfl, rfl⟩ (by decide +kernel) (fun x6 I4 J5 h => ?_)
        refine gBk (pe := 61) hO [o0 .iastore] (by decide +kernel) (And.intro (tGr.off hG t0 (k := 5) rfl) (And.intro (tin (tGr.len hG t0 (k := 5) rfl (by decide)) h.1) (show tWG K B 0 0 S (uI I4 55 ((I 51 8) + 2400).toNatClampNeg x6) J5 61 [some (vR 51), some (vI v1), some (vI ((I 51 8) + 2400))] [] from ?_)))
        have h := h.2
        exact gWeak (L' := [some (vR 51), none, some (vI ((I 51 8) + 2400))]) ⟨rfl, rfl, trivial⟩ (W5_quickAsTried_61 hO hR hG t0 hQ h)
    · have h := h.2 c2
      exact gWeak (L' := [none, none, none]) trivial (W5_quickAsTried_22 hO hR hG t0 hQ h))
set_option maxRecDepth 100000 in
theorem W5_tryChair_166 {K : tK} {B : tB} {S : tSH} {MC MS : Nat} (hO : tKO K B RX5 cX5_tryChair 10) (hR : kR K = tRm 6 MC MS) (hG : tGr S) {n : Nat} (t0 : ty S 51 5) {k : Int32 → tHI → tHJ → Prop} (hQ : tRet K B (tQi B (tPb S k)) 0 0 (some .boolean)) {I : tHI} {J : tHJ} {v3 : Int32} {v4 : Int32} (h : F5_tryChair_166 n S k I J v3 v4) : tWG K B 0 0 S I J 166 [some (vR 51), none, none, some (vI v3), some (vI v4), none, none, none, none, none] [] := by
  refine gBk (pe := 188) hO [o0 (.aload_n 0), oF (.getfield 38) 5 1 173 48, oF (.getfield 139) 2 0 1290 49, oI (.iconst 3) 3, o0 (.iload_n 3), o0 .iastore, o0 (.aload_n 0), oF (.getfield 38) 5 1 173 48, oF (.getfield 139) 2 0 1290 49, oI (.iconst 4) 4, o0 (.iload 4), o0 .iastore, oI (.iconst 1) 1] (by decide +kernel) (And.intro t0 (And.intro rfl (And.intro (tGr.abs hG t0 (k := 1) rfl) (And.intro rfl (And.intro (tGr.off hG (tGr.abs hG t0 (k := 1) rfl) (k := 0) rfl) (And.intro (tin (tGr.len hG (tGr.abs hG t0 (k := 1) rfl) (k := 0) rfl (by decide)) (tvi (by decide +kernel))) (And.intro t0 (And.intro rfl (And.intro (tGr.abs hG t0 (k := 1) rfl) (And.intro rfl (And.intro (tGr.off hG (tGr.abs hG t0 (k := 1) rfl) (k := 0) rfl) (And.intro (tin (tGr.len hG (tGr.abs hG t0 (k := 1) rfl) (k := 0) rfl (by decide)) (tvi (by decide +kernel))) (show tWG K B 0 0 S (uI (uI I 49 3 v3) 49 4 v4) J 188 [some (vR 51), none, none, some (vI v3), some (vI v4), none, none, none, none, none] [vI 1] from ?_)))))))))))))
  exact gZret hO hQ (by decide +kernel) (Or.inr rfl) ⟨rfl, (Or.inr rfl), h⟩
set_option maxRecDepth 100000 in
theorem W5_tryChair_121 {K : tK} {B : tB} {S : tSH} {MC MS : Nat} (hO : tKO K B RX5 cX5_tryChair 10) (hR : kR K = tRm 6 MC MS) (hG : tGr S) {n : Nat} (t0 : ty S 51 5) {k : Int32 → tHI → tHJ → Prop} (hQ : tRet K B (tQi B (tPb S k)) 0 0 (some .boolean)) {kb8 : tHI → tHJ → Int32 → Int32 → Int32 → Int32 → Int32 → Prop} (hkb8 : ∀ (I : tHI) (J : tHJ) (v1 : Int32) (v2 : Int32) (v3 : Int32) (v4 : Int32) (v5 : Int32), kb8 I J v1 v2 v3 v4 v5 → tWG K B 0 0 S I J 8 [some (vR 51), some (vI v1), some (vI v2), some (vI v3), some (vI v4), some (vI v5), none, none, none, none] []) {I : tHI} {J : tHJ} {v1 : Int32} {v2 : Int32} {v3 : Int32} {v4 : Int32} {v5 : Int32} {v6 : Int32} {v7 : Int32} {v9 : Int32} (h : F5_tryChair_121 n S k kb8 I J v1 v2 v3 v4 v5 v6 v7 v9) : tWG K B 0 0 S I J 121 [some (vR 51), some (vI v1), some (vI v2), some (vI v3), some (vI v4), some (vI v5), some (vI v6), some (vI v7), none, some (vI v9)] [] := by
  refine gBk (pe := 133) hO [o0 (.aload_n 0), oF (.getfield 24) 5 6 169 56, o0 (.iload 5), o0 (.iload 9), o0 .iastore, o0 (.iload_n 3), o0 (.iload 6)] (by decide +kernel) (And.intro t0 (And.intro rfl (And.intro (tGr.off hG t0 (k := 6) rfl) (And.intro (tin (tGr.len hG t0 (k := 6) rfl (by decide)) h.1) (show tWG K B 0 0 S (uI I 56 v5.toNatClampNeg v9) J 133 [some (vR 51), some (vI v1), some (vI v2), some (vI v3), some (vI v4), some (vI v5), some (vI v6), some (vI v7), none, some (vI v9)] [vI v6, vI v3] from ?_)))))
  have h := h.2
  have hj14 : ∀ (m15 : Int32), m15 = (if v6 = 0 then 0 else v7) → tWG K B 0 0 S (uI I 56 v5.toNatClampNeg v9) J 142 [some (vR 51), some (vI v1), some (vI v2), none, some (vI v4), some (vI v5), some (vI v6), some (vI v7), none, none] [vI m15, vI v3] := by
    intro m15 em15
    subst em15
    refine gBk (pe := 148) hO [o0 .iadd, o0 (.istore_n 3), o0 (.iload 4), o0 (.iload 6)] (by decide +kernel) (And.intro (Nat.le_of_ble_eq_true rfl) (show tWG K B 0 0 S (uI I 56 v5.toNatClampNeg v9) J 148 [some (vR 51), some (vI v1), some (vI v2), some (vI (v3 + (if v6 = 0 then 0 else v7))), some (vI v4), some (vI v5), some (vI v6), some (vI v7), none, none] [vI v6, vI v4] from ?_))
    have hj17 : ∀ (m18 : Int32), m18 = (if v6 = 0 then v7 else 0) → tWG K B 0 0 S (uI I 56 v5.toNatClampNeg v9) J 157 [some (vR 51), some (vI v1), some (vI v2), some (vI (v3 + (if v6 = 0 then 0 else v7))), none, some (vI v5), none, none, none, none] [vI m18, vI v4] := by
      intro m18 em18
      subst em18
      refine gBk (pe := 8) hO [o0 .iadd, o0 (.istore 4), oI (.iinc 5 1) 1, o0 (.goto (-155))] (by decide +kernel) (And.intro (Nat.le_of_ble_eq_true rfl) (show tWG K B 0 0 S (uI I 56 v5.toNatClampNeg v9) J 8 [some (vR 51), some (vI v1), some (vI v2), some (vI (v3 + (if v6 = 0 then 0 else v7))), some (vI (v4 + (if v6 = 0 then v7 else 0))), some (vI (v5 + 1)), none, none, none, none] [] from ?_))
      exact hkb8 _ _ _ _ _ _ _ h
    refine gIfEq hO (off := 7) (tgt := 155) (by decide +kernel) (by decide) (fun c19 => ?_) (fun c19 => ?_)
    · refine gBk (pe := 157) hO [o0 (.iload 7)] (by decide +kernel) (show tWG K B 0 0 S (uI I 56 v5.toNatClampNeg v9) J 157 [some (vR 51), some (vI v1), some (vI v2), some (vI (v3 + (if v6 = 0 then 0 else v7))), some (vI v4), some (vI v5), some (vI v6), some (vI v7), none, none] [vI v7, vI v4] from ?_)
      exact gWeak (L' := [some (vR 51), some (vI v1), some (vI v2), some (vI (v3 + (if v6 = 0 then 0 else v7))), none, some (vI v5), none, none, none, none]) ⟨rfl, rfl, rfl, rfl, rfl, trivial⟩ (hj17 _ (Eq.symm (if_pos c19)))
    · refine gBk (pe := 157) hO [oI (.iconst 0) 0, o0 (.goto 5)] (by decide +kernel) (show tWG K B 0 0 S (uI I 56 v5.toNatClampNeg v9) J 157 [some (vR 51), some (vI v1), some (vI v2), some (vI (v3 + (if v6 = 0 then 0 else v7))), some (vI v4), some (vI v5), some (vI v6), some (vI v7), none, none] [vI 0, vI v4] from ?_)
      exact gWeak (L' := [some (vR 51), some (vI v1), some (vI v2), some (vI (v3 + (if v6 = 0 then 0 else v7))), none, some (vI v5), none, none, none, none]) ⟨rfl, rfl, rfl, rfl, rfl, trivial⟩ (hj17 _ (Eq.symm (if_neg c19)))
  refine gIfEq hO (off := 8) (tgt := 141) (by decide +kernel) (by decide) (fun c16 => ?_) (fun c16 => ?_)
  · refine gBk (pe := 142) hO [oI (.iconst 0) 0] (by decide +kernel) (show tWG K B 0 0 S (uI I 56 v5.toNatClampNeg v9) J 142 [some (vR 51), some (vI v1), some (vI v2), some (vI v3), some (vI v4), some (vI v5), some (vI v6), some (vI v7), none, some (vI v9)] [vI 0, vI v3] from ?_)
    exact gWeak (L' := [some (vR 51), some (vI v1), some (vI v2), none, some (vI v4), some (vI v5), some (vI v6), some (vI v7), none, none]) ⟨rfl, rfl, rfl, rfl, rfl, rfl, rfl, trivial⟩ (hj14 _ (Eq.symm (if_pos c16)))
  · refine gBk (pe := 142) hO [o0 (.iload 7), o0 (.goto 4)] (by decide +kernel) (show tWG K B 0 0 S (uI I 56 v5.toNatClampNeg v9) J 142 [some (vR 51), some (vI v1), some (vI v2), some (vI v3), some (vI v4), some (vI v5), some (vI v6), some (vI v7), none, some (vI v9)] [vI v7, vI v3] from ?_)
    exact gWeak (L' := [some (vR 51), some (vI v1), some (vI v2), none, some (vI v4), some (vI v5), some (vI v6), some (vI v7), none, none]) ⟨rfl, rfl, rfl, rfl, rfl, rfl, rfl, trivial⟩ (hj14 _ (Eq.symm (if_neg c16)))
set_option maxRecDepth 100000 in
theorem W5_tryChair_8 {K : tK} {B : tB} {S : tSH} {MC MS : Nat} (hO : tKO K B RX5 cX5_tryChair 10) (hR : kR K = tRm 6 MC MS) (hG : tGr S) {n : Nat} (t0 : ty S 51 5) {k : Int32 → tHI → tHJ → Prop} (hQ : tRet K B (tQi B (tPb S k)) 0 0 (some .boolean)) {kb8 : tHI → tHJ → Int32 → Int32 → Int32 → Int32 → Int32 → Prop} (hkb8 : ∀ (I : tHI) (J : tHJ) (v1 : Int32) (v2 : Int32) (v3 : Int32) (v4 : Int32) (v5 : Int32), kb8 I J v1 v2 v3 v4 v5 → tWG K B 0 0 S I J 8 [some (vR 51), some (vI v1), some (vI v2), some (vI v3), some (vI v4), some (vI v5), none, none, none, none] []) {I : tHI} {J : tHJ} {v1 : Int32} {v2 : Int32} {v3 : Int32} {v4 : Int32} {v5 : Int32} (h : F5_tryChair_8 n S k kb8 I J v1 v2 v3 v4 v5) : tWG K B 0 0 S I J 8 [some (vR 51), some (vI v1), some (vI v2), some (vI v3), some (vI v4), some (vI v5), none, none, none, none] [] := by
  refine gBk (pe := 11) hO [o0 (.iload 5), o0 (.iload_n 2)] (by decide +kernel) (show tWG K B 0 0 S I J 11 [some (vR 51), some (vI v1), some (vI v2), some (vI v3), some (vI v4), some (vI v5), none, none, none, none] [vI v2, vI v5] from ?_)
  refine gIcGe hO (off := 155) (tgt := 166) (by decide +kernel) (by decide) (fun c1 => ?_) (fun c1 => ?_)
  · have h := h.1 c1
    exact gWeak (L' := [some (vR 51), none, none, some (vI v3), some (vI v4), none, none, none, none, none]) ⟨rfl, rfl, rfl, trivial⟩ (W5_tryChair_166 hO hR hG t0 hQ h)
  · have h := h.2 c1
    refine gBk (pe := 18) hO [o0 (.iload 5), oI (.bipush 6) 6] (by decide +kernel) (show tWG K B 0 0 S I J 18 [some (vR 51), some (vI v1), some (vI v2), some (vI v3), some (vI v4), some (vI v5), none, none, none, none] [vI 6, vI v5] from ?_)
    refine gIcGe hO (off := 148) (tgt := 166) (by decide +kernel) (by decide) (fun c2 => ?_) (fun c2 => ?_)
    · have h := h.1 c2
      exact gWeak (L' := [some (vR 51), none, none, some (vI v3), some (vI v4), none, none, none, none, none]) ⟨rfl, rfl, rfl, trivial⟩ (W5_tryChair_166 hO hR hG t0 hQ h)
    · have h := h.2 c2
      refine gBk (pe := 32) hO [o0 (.iload_n 1), o0 (.iload_n 2), oI (.iconst 1) 1, o0 .isub, o0 (.iload 5), o0 .isub, o0 .ishr, oI (.iconst 1) 1, o0 .iand, oI (.iconst 1) 1] (by decide +kernel) (show tWG K B 0 0 S I J 32 [some (vR 51), some (vI v1), some (vI v2), some (vI v3), some (vI v4), some (vI v5), none, none, none, none] [vI 1, vI ((v1 >>> (((v2 - 1) - v5) &&& 31)) &&& 1)] from ?_)
      have hj3 : ∀ (m4 : Int32), m4 = (if ((v1 >>> (((v2 - 1) - v5) &&& 31)) &&& 1) = 1 then (1 : Int32) else 0) → tWG K B 0 0 S I J 40 [some (vR 51), some (vI v1), some (vI v2), some (vI v3), some (vI v4), some (vI v5), none, none, none, none] [vI m4] := by
        intro m4 em4
        subst em4
        refine gBk (pe := 74) hO [o0 (.istore 6), o0 (.aload_n 0), oF (.getfield 34) 5 0 172 1, oF (.getfield 110) 8 0 1281 2, oF (.getfield 123) 3 1 1283 3, o0 (.iload 5), o0 .iaload, o0 (.istore 7), o0 (.aload_n 0), oF (.getfield 34) 5 0 172 1, oF (.getfield 110) 8 0 1281 2, oF (.getfield 120) 3 3 1282 5, o0 (.iload 5), o0 .iaload, o0 (.istore 8), o0 (.iload 6)] (by decide +kernel) (And.intro (Nat.le_of_ble_eq_true rfl) (And.intro t0 (And.intro rfl (And.intro (tGr.abs hG t0 (k := 0) rfl) (And.intro rfl (And.intro (tGr.off hG (tGr.abs hG t0 (k := 0) rfl) (k := 0) rfl) (And.intro rfl (And.intro (tGr.off hG (tGr.off hG (tGr.abs hG t0 (k := 0) rfl) (k := 0) rfl) (k := 1) rfl) (And.intro (tin (tGr.len hG (tGr.off hG (tGr.abs hG t0 (k := 0) rfl) (k := 0) rfl) (k := 1) rfl (by decide)) h.1) (And.intro (Nat.le_of_ble_eq_true rfl) (And.intro t0 (And.intro rfl (And.intro (tGr.abs hG t0 (k := 0) rfl) (And.intro rfl (And.intro (tGr.off hG (tGr.abs hG t0 (k := 0) rfl) (k := 0) rfl) (And.intro rfl (And.intro (tGr.off hG (tGr.off hG (tGr.abs hG t0 (k := 0) rfl) (k := 0) rfl) (k := 3) rfl) (And.intro (tin (tGr.len hG (tGr.off hG (tGr.abs hG t0 (k := 0) rfl) (k := 0) rfl) (k := 3) rfl (by decide)) h.2.1) (And.intro (Nat.le_of_ble_eq_true rfl) (show tWG K B 0 0 S I J 74 [some (vR 51), some (vI v1), some (vI v2), some (vI v3), some (vI v4), some (vI v5), some (vI (if ((v1 >>> (((v2 - 1) - v5) &&& 31)) &&& 1) = 1 then (1 : Int32) else 0)), some (vI (I 3 v5.toNatClampNeg)), some (vI (I 5 v5.toNatClampNeg)), none] [vI (if ((v1 >>> (((v2 - 1) - v5) &&& 31)) &&& 1) = 1 then (1 : Int32) else 0)] from ?_))))))))))))))))))))
        have h := h.2.2
        have hj6 : ∀ (m7 : Int32), m7 = (if (if ((v1 >>> (((v2 - 1) - v5) &&& 31)) &&& 1) = 1 then (1 : Int32) else 0) = 0 then (0 : Int32) else 2) → tWG K B 0 0 S I J 82 [some (vR 51), some (vI v1), some (vI v2), some (vI v3), some (vI v4), some (vI v5), some (vI (if ((v1 >>> (((v2 - 1) - v5) &&& 31)) &&& 1) = 1 then (1 : Int32) else 0)), some (vI (I 3 v5.toNatClampNeg)), some (vI (I 5 v5.toNatClampNeg)), none] [vI m7] := by
          intro m7 em7
          subst em7
          refine gBk (pe := 94) hO [o0 (.istore 9), o0 (.aload_n 0), oF (.getfield 38) 5 1 173 48, o0 (.iload 7), o0 (.iload 9), o0 (.iload 8)] (by decide +kernel) (And.intro (Nat.le_of_ble_eq_true rfl) (And.intro t0 (And.intro rfl (show tWG K B 0 0 S I J 94 [some (vR 51), some (vI v1), some (vI v2), some (vI v3), some (vI v4), some (vI v5), some (vI (if ((v1 >>> (((v2 - 1) - v5) &&& 31)) &&& 1) = 1 then (1 : Int32) else 0)), some (vI (I 3 v5.toNatClampNeg)), some (vI (I 5 v5.toNatClampNeg)), some (vI (if (if ((v1 >>> (((v2 - 1) - v5) &&& 31)) &&& 1) = 1 then (1 : Int32) else 0) = 0 then (0 : Int32) else 2))] [vI (I 5 v5.toNatClampNeg), vI (if (if ((v1 >>> (((v2 - 1) - v5) &&& 31)) &&& 1) = 1 then (1 : Int32) else 0) = 0 then (0 : Int32) else 2), vI (I 3 v5.toNatClampNeg), vR 48] from ?_))))
          refine gCVi_b hO (M2_barred (tGr.abs hG t0 (k := 1) rfl) h) hc2_barred (idx := 151) (w := 1316) (by decide +kernel) hR (by omega) (tGr.abs hG t0 (k := 1) rfl) ⟨by decide, rfl⟩ (vs := [vI (I 3 v5.toNatClampNeg), vI (if (if ((v1 >>> (((v2 - 1) - v5) &&& 31)) &&& 1) = 1 then (1 : Int32) else 0) = 0 then (0 : Int32) else 2), vI (I 5 v5.toNatClampNeg)]) (st := []) ⟨rfl, Nat.le_of_ble_eq_true rfl, rfl⟩ (by decide +kernel) (fun x11 I9 J10 z12 h => ?_)
          have h := h z12
          refine gIfEq hO (off := 24) (tgt := 121) (by decide +kernel) (by decide) (fun c13 => ?_) (fun c13 => ?_)
          · have h := h.1 c13
            exact gWeak (L' := [some (vR 51), some (vI v1), some (vI v2), some (vI v3), some (vI v4), some (vI v5), some (vI (if ((v1 >>> (((v2 - 1) - v5) &&& 31)) &&& 1) = 1 then (1 : Int32) else 0)), some (vI (I 3 v5.toNatClampNeg)), none, some (vI (if (if ((v1 >>> (((v2 - 1) - v5) &&& 31)) &&& 1) = 1 then (1 : Int32) else 0) = 0 then (0 : Int32) else 2))]) ⟨rfl, rfl, rfl, rfl, rfl, rfl, rfl, rfl, rfl, trivial⟩ (W5_tryChair_121 hO hR hG t0 hQ hkb8 h)
          · have h := h.2 c13
            refine gBk (pe := 113) hO [oI (.iinc 9 1) 1, o0 (.aload_n 0), oF (.getfield 38) 5 1 173 48, o0 (.iload 7), o0 (.iload 9), o0 (.iload 8)] (by decide +kernel) (And.intro t0 (And.intro rfl (show tWG K B 0 0 S I9 J10 113 [some (vR 51), some (vI v1), some (vI v2), some (vI v3), some (vI v4), some (vI v5), some (vI (if ((v1 >>> (((v2 - 1) - v5) &&& 31)) &&& 1) = 1 then (1 : Int32) else 0)), some (vI (I 3 v5.toNatClampNeg)), some (vI (I 5 v5.toNatClampNeg)), some (vI ((if (if ((v1 >>> (((v2 - 1) - v5) &&& 31)) &&& 1) = 1 then (1 : Int32) else 0) = 0 then (0 : Int32) else 2) + 1))] [vI (I 5 v5.toNatClampNeg), vI ((if (if ((v1 >>> (((v2 - 1) - v5) &&& 31)) &&& 1) = 1 then (1 : Int32) else 0) = 0 then (0 : Int32) else 2) + 1), vI (I 3 v5.toNatClampNeg), vR 48] from ?_)))
            refine gCVi_b hO (M2_barred (tGr.abs hG t0 (k := 1) rfl) h) hc2_barred (idx := 151) (w := 1316) (by decide +kernel) hR (by omega) (tGr.abs hG t0 (k := 1) rfl) ⟨by decide, rfl⟩ (vs := [vI (I 3 v5.toNatClampNeg), vI ((if (if ((v1 >>> (((v2 - 1) - v5) &&& 31)) &&& 1) = 1 then (1 : Int32) else 0) = 0 then (0 : Int32) else 2) + 1), vI (I 5 v5.toNatClampNeg)]) (st := []) ⟨rfl, Nat.le_of_ble_eq_true rfl, rfl⟩ (by decide +kernel) (fun x22 I20 J21 z23 h => ?_)
            have h := h z23
            refine gIfEq hO (off := 5) (tgt := 121) (by decide +kernel) (by decide) (fun c24 => ?_) (fun c24 => ?_)
            · have h := h.1 c24
              exact gWeak (L' := [some (vR 51), some (vI v1), some (vI v2), some (vI v3), some (vI v4), some (vI v5), some (vI (if ((v1 >>> (((v2 - 1) - v5) &&& 31)) &&& 1) = 1 then (1 : Int32) else 0)), some (vI (I 3 v5.toNatClampNeg)), none, some (vI ((if (if ((v1 >>> (((v2 - 1) - v5) &&& 31)) &&& 1) = 1 then (1 : Int32) else 0) = 0 then (0 : Int32) else 2) + 1))]) ⟨rfl, rfl, rfl, rfl, rfl, rfl, rfl, rfl, rfl, trivial⟩ (W5_tryChair_121 hO hR hG t0 hQ hkb8 h)
            · have h := h.2 c24
              refine gBk (pe := 120) hO [oI (.iconst 0) 0] (by decide +kernel) (show tWG K B 0 0 S I20 J21 120 [some (vR 51), some (vI v1), some (vI v2), some (vI v3), some (vI v4), some (vI v5), some (vI (if ((v1 >>> (((v2 - 1) - v5) &&& 31)) &&& 1) = 1 then (1 : Int32) else 0)), some (vI (I 3 v5.toNatClampNeg)), some (vI (I 5 v5.toNatClampNeg)), some (vI ((if (if ((v1 >>> (((v2 - 1) - v5) &&& 31)) &&& 1) = 1 then (1 : Int32) else 0) = 0 then (0 : Int32) else 2) + 1))] [vI 0] from ?_)
              exact gZret hO hQ (by decide +kernel) (Or.inl rfl) ⟨rfl, (Or.inl rfl), h⟩
        refine gIfEq hO (off := 7) (tgt := 81) (by decide +kernel) (by decide) (fun c8 => ?_) (fun c8 => ?_)
        · refine gBk (pe := 82) hO [oI (.iconst 0) 0] (by decide +kernel) (show tWG K B 0 0 S I J 82 [some (vR 51), some (vI v1), some (vI v2), some (vI v3), some (vI v4), some (vI v5), some (vI (if ((v1 >>> (((v2 - 1) - v5) &&& 31)) &&& 1) = 1 then (1 : Int32) else 0)), some (vI (I 3 v5.toNatClampNeg)), some (vI (I 5 v5.toNatClampNeg)), none] [vI 0] from ?_)
          exact (hj6 _ (Eq.symm (if_pos c8)))
        · refine gBk (pe := 82) hO [oI (.iconst 2) 2, o0 (.goto 4)] (by decide +kernel) (show tWG K B 0 0 S I J 82 [some (vR 51), some (vI v1), some (vI v2), some (vI v3), some (vI v4), some (vI v5), some (vI (if ((v1 >>> (((v2 - 1) - v5) &&& 31)) &&& 1) = 1 then (1 : Int32) else 0)), some (vI (I 3 v5.toNatClampNeg)), some (vI (I 5 v5.toNatClampNeg)), none] [vI 2] from ?_)
          exact (hj6 _ (Eq.symm (if_neg c8)))
      refine gIcNe hO (off := 7) (tgt := 39) (by decide +kernel) (by decide) (fun c5 => ?_) (fun c5 => ?_)
      · refine gBk (pe := 40) hO [oI (.iconst 0) 0] (by decide +kernel) (show tWG K B 0 0 S I J 40 [some (vR 51), some (vI v1), some (vI v2), some (vI v3), some (vI v4), some (vI v5), none, none, none, none] [vI 0] from ?_)
        exact (hj3 _ (Eq.symm (if_neg c5)))
      · refine gBk (pe := 40) hO [oI (.iconst 1) 1, o0 (.goto 4)] (by decide +kernel) (show tWG K B 0 0 S I J 40 [some (vR 51), some (vI v1), some (vI v2), some (vI v3), some (vI v4), some (vI v5), none, none, none, none] [vI 1] from ?_)
        exact (hj3 _ (Eq.symm (if_pos c5)))
theorem W5_tryChair_L8 {K : tK} {B : tB} {S : tSH} {MC MS : Nat} (hO : tKO K B RX5 cX5_tryChair 10) (hR : kR K = tRm 6 MC MS) (hG : tGr S) {n : Nat} (t0 : ty S 51 5) {k : Int32 → tHI → tHJ → Prop} (hQ : tRet K B (tQi B (tPb S k)) 0 0 (some .boolean)) : ∀ (f : Nat) (I : tHI) (J : tHJ) (v1 : Int32) (v2 : Int32) (v3 : Int32) (v4 : Int32) (v5 : Int32), F5_tryChair_L8 n S k f I J v1 v2 v3 v4 v5 → tWG K B 0 0 S I J 8 [some (vR 51), some (vI v1), some (vI v2), some (vI v3), some (vI v4), some (vI v5), none, none, none, none] [] := by
  intro f
  induction f with
  | zero => intro I J v1 v2 v3 v4 v5 h; exact h.elim
  | succ f ih => intro I J v1 v2 v3 v4 v5 h; exact W5_tryChair_8 hO hR hG t0 hQ ih h
set_option maxRecDepth 20000 in
theorem hc5_tryChair : tCV yX5_tryChair cX5_tryChair 10 (some .boolean) 2 := ⟨⟨(List.mem_of_getElem? (i := 1315) rfl), (List.mem_of_getElem? (i := 41) (by decide +kernel)), by decide +kernel⟩, (List.mem_of_getElem? (i := 1313) (by decide +kernel)), (List.mem_of_getElem? (i := 1314) (by decide +kernel))⟩
set_option maxRecDepth 100000 in
theorem M5_tryChair {l : Launch} {B : tB} {S : tSH} {I : tHI} {J : tHJ} {v1 : Int32} {v2 : Int32} {n : Nat} {k : Int32 → tHI → tHJ → Prop} (t0 : ty S 51 5) (h : F5_tryChair n S I J v1 v2 k) : Met l yX5_tryChair (tWs yX5_tryChair cX5_tryChair 10 (some .boolean)) (tRm 6 0 0) (tPc B [vR 51, vI v1, vI v2] S I J) (tQi B (tPb S k)) 0 0 (tA B) :=
  tEntry (by decide +kernel) [some (vR 51), some (vI v1), some (vI v2), none, none, none, none, none, none, none] rfl rfl (Nat.le_of_ble_eq_true rfl) (fun K hl hR hO hQ hG => by
  subst hl
  refine gBk (pe := 8) hO [oI (.iconst 0) 0, o0 (.istore_n 3), oI (.iconst 0) 0, o0 (.istore 4), oI (.iconst 0) 0, o0 (.istore 5)] (by decide +kernel) (And.intro (Nat.le_of_ble_eq_true rfl) (And.intro (Nat.le_of_ble_eq_true rfl) (And.intro (Nat.le_of_ble_eq_true rfl) (show tWG K B 0 0 S I J 8 [some (vR 51), some (vI v1), some (vI v2), some (vI 0), some (vI 0), some (vI 0), none, none, none, none] [] from ?_))))
  exact W5_tryChair_L8 hO hR hG t0 hQ n _ _ _ _ _ _ _ h)
set_option maxRecDepth 100000 in
theorem W5_timeOfRoad_4 {K : tK} {B : tB} {S : tSH} {MC MS : Nat} (hO : tKO K B RX5 cX5_timeOfRoad 4) (hR : kR K = tRm 7 MC MS) (hG : tGr S) {n : Nat} (t0 : ty S 51 5) {k : Int32 → tHI → tHJ → Prop} (hQ : tRet K B (tQi B (tPi S k)) 0 0 (some .int)) {kb4 : tHI → tHJ → Int32 → Int32 → Prop} (hkb4 : ∀ (I : tHI) (J : tHJ) (v1 : Int32) (v2 : Int32), kb4 I J v1 v2 → tWG K B 0 0 S I J 4 [some (vR 51), some (vI v1), some (vI v2), none] []) {I : tHI} {J : tHJ} {v1 : Int32} {v2 : Int32} (h : F5_timeOfRoad_4 n S k kb4 I J v1 v2) : tWG K B 0 0 S I J 4 [some (vR 51), some (vI v1), some (vI v2), none] [] := by
  refine gBk (pe := 15) hO [o0 (.iload_n 2), o0 (.aload_n 0), oF (.getfield 34) 5 0 172 1, oF (.getfield 42) 8 1 1198 7, oF (.getfield 48) 7 0 1199 0] (by decide +kernel) (And.intro t0 (And.intro rfl (And.intro (tGr.abs hG t0 (k := 0) rfl) (And.intro rfl (And.intro (tGr.off hG (tGr.abs hG t0 (k := 0) rfl) (k := 1) rfl) (show tWG K B 0 0 S I J 15 [some (vR 51), some (vI v1), some (vI v2), none] [vI (I 7 0), vI v2] from ?_))))))
  refine gIcGe hO (off := 40) (tgt := 55) (by decide +kernel) (by decide) (fun c1 => ?_) (fun c1 => ?_)
  · have h := h.1 c1
    refine gBk (pe := 56) hO [o0 (.iload_n 1)] (by decide +kernel) (show tWG K B 0 0 S I J 56 [some (vR 51), some (vI v1), some (vI v2), none] [vI v1] from ?_)
    exact gIret hO hQ (by decide +kernel) ⟨rfl, h⟩
  · have h := h.2 c1
    refine gBk (pe := 23) hO [o0 (.aload_n 0), oF (.getfield 38) 5 1 173 48, o0 (.iload_n 2)] (by decide +kernel) (And.intro t0 (And.intro rfl (show tWG K B 0 0 S I J 23 [some (vR 51), some (vI v1), some (vI v2), none] [vI v2, vR 48] from ?_)))
    refine gCVi_c hO (M2_quickest (tGr.abs hG t0 (k := 1) rfl) h) hc2_quickest (idx := 59) (w := 1204) (by decide +kernel) hR (by omega) (tGr.abs hG t0 (k := 1) rfl) ⟨by decide, rfl⟩ (vs := [vI v2]) (st := []) ⟨rfl, Nat.le_of_ble_eq_true rfl, rfl⟩ (by decide +kernel) (fun x4 I2 J3 h => ?_)
    refine gBk (pe := 28) hO [o0 (.istore_n 3), o0 (.iload_n 3)] (by decide +kernel) (And.intro (Nat.le_of_ble_eq_true rfl) (show tWG K B 0 0 S I2 J3 28 [some (vR 51), some (vI v1), some (vI v2), some (vI x4)] [vI x4] from ?_))
    refine gIfNe hO (off := 6) (tgt := 34) (by decide +kernel) (by decide) (fun c5 => ?_) (fun c5 => ?_)
    · have h := h.1 c5
      refine gBk (pe := 44) hO [o0 (.iload_n 1), o0 (.aload_n 0), oF (.getfield 34) 5 0 172 1, oF (.getfield 42) 8 1 1198 7, o0 (.iload_n 2), o0 (.iload_n 3)] (by decide +kernel) (And.intro t0 (And.intro rfl (And.intro (tGr.abs hG t0 (k := 0) rfl) (And.intro rfl (show tWG K B 0 0 S I2 J3 44 [some (vR 51), some (vI v1), some (vI v2), some (vI x4)] [vI x4, vI v2, vR 7, vI v1] from ?_)))))
      refine gCVi_p hO (M7_timeAt (tGr.off hG (tGr.abs hG t0 (k := 0) rfl) (k := 1) rfl) h.1) hc7_timeAt (idx := 92) (w := 1216) (by decide +kernel) hR (by omega) (tGr.off hG (tGr.abs hG t0 (k := 0) rfl) (k := 1) rfl) ⟨by decide, rfl⟩ (vs := [vI v2, vI x4]) (st := [vI v1]) ⟨rfl, Nat.le_of_ble_eq_true rfl, rfl⟩ (by decide +kernel) ?_
      have h := h.2
      refine gBk (pe := 4) hO [o0 .iadd, o0 (.istore_n 1), oI (.iinc 2 1) 1, o0 (.goto (-48))] (by decide +kernel) (And.intro (Nat.le_of_ble_eq_true rfl) (show tWG K B 0 0 S I2 J3 4 [some (vR 51), some (vI (v1 + (V7_timeAt S I2 J3 7 v2 x4))), some (vI (v2 + 1)), some (vI x4)] [] from ?_))
      exact gWeak (L' := [some (vR 51), some (vI (v1 + (V7_timeAt S I2 J3 7 v2 x4))), some (vI (v2 + 1)), none]) ⟨rfl, rfl, rfl, trivial⟩ (hkb4 _ _ _ _ h)
    · have h := h.2 c5
      refine gBk (pe := 33) hO [(.ldc 85, (0, 0, 1209, 0), 1000000000, 0)] (by decide +kernel) (show tWG K B 0 0 S I2 J3 33 [some (vR 51), some (vI v1), some (vI v2), some (vI x4)] [vI 1000000000] from ?_)
      exact gIret hO hQ (by decide +kernel) ⟨rfl, h⟩
theorem W5_timeOfRoad_L4 {K : tK} {B : tB} {S : tSH} {MC MS : Nat} (hO : tKO K B RX5 cX5_timeOfRoad 4) (hR : kR K = tRm 7 MC MS) (hG : tGr S) {n : Nat} (t0 : ty S 51 5) {k : Int32 → tHI → tHJ → Prop} (hQ : tRet K B (tQi B (tPi S k)) 0 0 (some .int)) : ∀ (f : Nat) (I : tHI) (J : tHJ) (v1 : Int32) (v2 : Int32), F5_timeOfRoad_L4 n S k f I J v1 v2 → tWG K B 0 0 S I J 4 [some (vR 51), some (vI v1), some (vI v2), none] [] := by
  intro f
  induction f with
  | zero => intro I J v1 v2 h; exact h.elim
  | succ f ih => intro I J v1 v2 h; exact W5_timeOfRoad_4 hO hR hG t0 hQ ih h
set_option maxRecDepth 20000 in
theorem hc5_timeOfRoad : tCV yX5_timeOfRoad cX5_timeOfRoad 4 (some .int) 0 := ⟨⟨(List.mem_of_getElem? (i := 1320) rfl), (List.mem_of_getElem? (i := 41) (by decide +kernel)), by decide +kernel⟩, (List.mem_of_getElem? (i := 1318) (by decide +kernel)), (List.mem_of_getElem? (i := 1319) (by decide +kernel))⟩
set_option maxRecDepth 100000 in
theorem M5_timeOfRoad {l : Launch} {B : tB} {S : tSH} {I : tHI} {J : tHJ} {n : Nat} {k : Int32 → tHI → tHJ → Prop} (t0 : ty S 51 5) (h : F5_timeOfRoad n S I J k) : Met l yX5_timeOfRoad (tWs yX5_timeOfRoad cX5_timeOfRoad 4 (some .int)) (tRm 7 0 0) (tPc B [vR 51] S I J) (tQi B (tPi S k)) 0 0 (tA B) :=
  tEntry (by decide +kernel) [some (vR 51), none, none, none] rfl rfl (Nat.le_of_ble_eq_true rfl) (fun K hl hR hO hQ hG => by
  subst hl
  refine gBk (pe := 4) hO [oI (.iconst 0) 0, o0 (.istore_n 1), oI (.iconst 0) 0, o0 (.istore_n 2)] (by decide +kernel) (And.intro (Nat.le_of_ble_eq_true rfl) (And.intro (Nat.le_of_ble_eq_true rfl) (show tWG K B 0 0 S I J 4 [some (vR 51), some (vI 0), some (vI 0), none] [] from ?_)))
  exact W5_timeOfRoad_L4 hO hR hG t0 hQ n _ _ _ _ h)
set_option maxRecDepth 100000 in
theorem W5_bestBars_94 {K : tK} {B : tB} {S : tSH} {MC MS : Nat} (hO : tKO K B RX5 cX5_bestBars 7) (hR : kR K = tRm 6 MC MS) (hG : tGr S) {n : Nat} (t0 : ty S 51 5) {k : Int32 → tHI → tHJ → Prop} (hQ : tRet K B (tQi B (tPi S k)) 0 0 (some .int)) {kb9 : tHI → tHJ → Int32 → Int32 → Int32 → Int32 → Prop} (hkb9 : ∀ (I : tHI) (J : tHJ) (v1 : Int32) (v2 : Int32) (v3 : Int32) (v4 : Int32), kb9 I J v1 v2 v3 v4 → tWG K B 0 0 S I J 9 [some (vR 51), some (vI v1), some (vI v2), some (vI v3), some (vI v4), none, none] []) {I : tHI} {J : tHJ} {v1 : Int32} {v2 : Int32} {v3 : Int32} {v4 : Int32} {v5 : Int32} (h : F5_bestBars_94 n S k kb9 I J v1 v2 v3 v4 v5) : tWG K B 0 0 S I J 94 [some (vR 51), some (vI v1), some (vI v2), some (vI v3), some (vI v4), some (vI v5), none] [] := by
  refine gBk (pe := 97) hO [o0 (.iload 5), o0 (.iload_n 2)] (by decide +kernel) (show tWG K B 0 0 S I J 97 [some (vR 51), some (vI v1), some (vI v2), some (vI v3), some (vI v4), some (vI v5), none] [vI v2, vI v5] from ?_)
  have hj6 : ∀ (m7 : Int32) (m8 : Int32), m7 = (if v2 ≤ v5 then v2 else v5) → m8 = (if v2 ≤ v5 then v3 else v4) → tWG K B 0 0 S I J 106 [some (vR 51), some (vI v1), some (vI m7), some (vI m8), some (vI v4), none, none] [] := by
    intro m7 m8 em7 em8
    subst em7
    subst em8
    refine gBk (pe := 9) hO [oI (.iinc 4 1) 1, o0 (.goto (-100))] (by decide +kernel) (show tWG K B 0 0 S I J 9 [some (vR 51), some (vI v1), some (vI (if v2 ≤ v5 then v2 else v5)), some (vI (if v2 ≤ v5 then v3 else v4)), some (vI (v4 + 1)), none, none] [] from ?_)
    exact hkb9 _ _ _ _ _ _ h
  refine gIcGe hO (off := 9) (tgt := 106) (by decide +kernel) (by decide) (fun c9 => ?_) (fun c9 => ?_)
  · exact gWeak (L' := [some (vR 51), some (vI v1), some (vI v2), some (vI v3), some (vI v4), none, none]) ⟨rfl, rfl, rfl, rfl, rfl, trivial⟩ (hj6 _ _ (Eq.symm (if_pos c9)) (Eq.symm (if_pos c9)))
  · refine gBk (pe := 106) hO [o0 (.iload 5), o0 (.istore_n 2), o0 (.iload 4), o0 (.istore_n 3)] (by decide +kernel) (And.intro (Nat.le_of_ble_eq_true rfl) (And.intro (Nat.le_of_ble_eq_true rfl) (show tWG K B 0 0 S I J 106 [some (vR 51), some (vI v1), some (vI v5), some (vI v4), some (vI v4), some (vI v5), none] [] from ?_)))
    exact gWeak (L' := [some (vR 51), some (vI v1), some (vI v5), some (vI v4), some (vI v4), none, none]) ⟨rfl, rfl, rfl, rfl, rfl, trivial⟩ (hj6 _ _ (Eq.symm (if_neg c9)) (Eq.symm (if_neg c9)))
set_option maxRecDepth 100000 in
theorem W5_bestBars_34 {K : tK} {B : tB} {S : tSH} {MC MS : Nat} (hO : tKO K B RX5 cX5_bestBars 7) (hR : kR K = tRm 6 MC MS) (hG : tGr S) {n : Nat} (t0 : ty S 51 5) {k : Int32 → tHI → tHJ → Prop} (hQ : tRet K B (tQi B (tPi S k)) 0 0 (some .int)) {kb9 : tHI → tHJ → Int32 → Int32 → Int32 → Int32 → Prop} (hkb9 : ∀ (I : tHI) (J : tHJ) (v1 : Int32) (v2 : Int32) (v3 : Int32) (v4 : Int32), kb9 I J v1 v2 v3 v4 → tWG K B 0 0 S I J 9 [some (vR 51), some (vI v1), some (vI v2), some (vI v3), some (vI v4), none, none] []) {kb34 : tHI → tHJ → Int32 → Int32 → Int32 → Int32 → Int32 → Int32 → Prop} (hkb34 : ∀ (I : tHI) (J : tHJ) (v1 : Int32) (v2 : Int32) (v3 : Int32) (v4 : Int32) (v5 : Int32) (v6 : Int32), kb34 I J v1 v2 v3 v4 v5 v6 → tWG K B 0 0 S I J 34 [some (vR 51), some (vI v1), some (vI v2), some (vI v3), some (vI v4), some (vI v5), some (vI v6)] []) {I : tHI} {J : tHJ} {v1 : Int32} {v2 : Int32} {v3 : Int32} {v4 : Int32} {v5 : Int32} {v6 : Int32} (h : F5_bestBars_34 n S k kb9 kb34 I J v1 v2 v3 v4 v5 v6) : tWG K B 0 0 S I J 34 [some (vR 51), some (vI v1), some (vI v2), some (vI v3), some (vI v4), some (vI v5), some (vI v6)] [] := by
  refine gBk (pe := 46) hO [o0 (.iload 6), o0 (.aload_n 0), oF (.getfield 34) 5 0 172 1, oF (.getfield 42) 8 1 1198 7, oF (.getfield 48) 7 0 1199 0] (by decide +kernel) (And.intro t0 (And.intro rfl (And.intro (tGr.abs hG t0 (k := 0) rfl) (And.intro rfl (And.intro (tGr.off hG (tGr.abs hG t0 (k := 0) rfl) (k := 1) rfl) (show tWG K B 0 0 S I J 46 [some (vR 51), some (vI v1), some (vI v2), some (vI v3), some (vI v4), some (vI v5), some (vI v6)] [vI (I 7 0), vI v6] from ?_))))))
  refine gIcGe hO (off := 48) (tgt := 94) (by decide +kernel) (by decide) (fun c5 => ?_) (fun c5 => ?_)
  · have h := h.1 c5
    exact gWeak (L' := [some (vR 51), some (vI v1), some (vI v2), some (vI v3), some (vI v4), some (vI v5), none]) ⟨rfl, rfl, rfl, rfl, rfl, rfl, trivial⟩ (W5_bestBars_94 hO hR hG t0 hQ hkb9 h)
  · have h := h.2 c5
    refine gBk (pe := 53) hO [o0 (.iload 6), oI (.bipush 12) 12] (by decide +kernel) (show tWG K B 0 0 S I J 53 [some (vR 51), some (vI v1), some (vI v2), some (vI v3), some (vI v4), some (vI v5), some (vI v6)] [vI 12, vI v6] from ?_)
    refine gIcGe hO (off := 41) (tgt := 94) (by decide +kernel) (by decide) (fun c10 => ?_) (fun c10 => ?_)
    · have h := h.1 c10
      exact gWeak (L' := [some (vR 51), some (vI v1), some (vI v2), some (vI v3), some (vI v4), some (vI v5), none]) ⟨rfl, rfl, rfl, rfl, rfl, rfl, trivial⟩ (W5_bestBars_94 hO hR hG t0 hQ hkb9 h)
    · have h := h.2 c10
      refine gBk (pe := 65) hO [o0 (.iload 5), o0 (.aload_n 0), oF (.getfield 38) 5 1 173 48, oI (.iconst 3) 3, o0 (.iload 6)] (by decide +kernel) (And.intro t0 (And.intro rfl (show tWG K B 0 0 S I J 65 [some (vR 51), some (vI v1), some (vI v2), some (vI v3), some (vI v4), some (vI v5), some (vI v6)] [vI v6, vI 3, vR 48, vI v5] from ?_)))
      refine gCVi_c hO (M2_tell (tGr.abs hG t0 (k := 1) rfl) h) hc2_tell (idx := 155) (w := 1339) (by decide +kernel) hR (by omega) (tGr.abs hG t0 (k := 1) rfl) ⟨by decide, rfl⟩ (vs := [vI 3, vI v6]) (st := [vI v5]) ⟨rfl, Nat.le_of_ble_eq_true rfl, rfl⟩ (by decide +kernel) (fun x13 I11 J12 h => ?_)
      refine gAbs hO (idx := 158) (w := 1337) (by decide +kernel) hR (by omega) (st := [vI v5]) (Nat.le_of_ble_eq_true rfl) rfl (by decide +kernel) ?_
      refine gBk (pe := 34) hO [o0 (.aload_n 0), oF (.getfield 34) 5 0 172 1, oF (.getfield 42) 8 1 1198 7, oF (.getfield 161) 7 2 1338 9, o0 (.iload 6), o0 .iaload, o0 .imul, o0 .iadd, o0 (.istore 5), oI (.iinc 6 1) 1, o0 (.goto (-57))] (by decide +kernel) (And.intro t0 (And.intro rfl (And.intro (tGr.abs hG t0 (k := 0) rfl) (And.intro rfl (And.intro (tGr.off hG (tGr.abs hG t0 (k := 0) rfl) (k := 1) rfl) (And.intro rfl (And.intro (tGr.off hG (tGr.off hG (tGr.abs hG t0 (k := 0) rfl) (k := 1) rfl) (k := 2) rfl) (And.intro (tin (tGr.len hG (tGr.off hG (tGr.abs hG t0 (k := 0) rfl) (k := 1) rfl) (k := 2) rfl (by decide)) h.1) (And.intro (Nat.le_of_ble_eq_true rfl) (show tWG K B 0 0 S I11 J12 34 [some (vR 51), some (vI v1), some (vI v2), some (vI v3), some (vI v4), some (vI (v5 + ((if 0 ≤ x13 then x13 else 0 - x13) * (I11 9 v6.toNatClampNeg)))), some (vI (v6 + 1))] [] from ?_))))))))))
      have h := h.2
      exact hkb34 _ _ _ _ _ _ _ _ h
theorem W5_bestBars_L34 {K : tK} {B : tB} {S : tSH} {MC MS : Nat} (hO : tKO K B RX5 cX5_bestBars 7) (hR : kR K = tRm 6 MC MS) (hG : tGr S) {n : Nat} (t0 : ty S 51 5) {k : Int32 → tHI → tHJ → Prop} (hQ : tRet K B (tQi B (tPi S k)) 0 0 (some .int)) {kb9 : tHI → tHJ → Int32 → Int32 → Int32 → Int32 → Prop} (hkb9 : ∀ (I : tHI) (J : tHJ) (v1 : Int32) (v2 : Int32) (v3 : Int32) (v4 : Int32), kb9 I J v1 v2 v3 v4 → tWG K B 0 0 S I J 9 [some (vR 51), some (vI v1), some (vI v2), some (vI v3), some (vI v4), none, none] []) : ∀ (f : Nat) (I : tHI) (J : tHJ) (v1 : Int32) (v2 : Int32) (v3 : Int32) (v4 : Int32) (v5 : Int32) (v6 : Int32), F5_bestBars_L34 n S k kb9 f I J v1 v2 v3 v4 v5 v6 → tWG K B 0 0 S I J 34 [some (vR 51), some (vI v1), some (vI v2), some (vI v3), some (vI v4), some (vI v5), some (vI v6)] [] := by
  intro f
  induction f with
  | zero => intro I J v1 v2 v3 v4 v5 v6 h; exact h.elim
  | succ f ih => intro I J v1 v2 v3 v4 v5 v6 h; exact W5_bestBars_34 hO hR hG t0 hQ hkb9 ih h
set_option maxRecDepth 100000 in
theorem W5_bestBars_9 {K : tK} {B : tB} {S : tSH} {MC MS : Nat} (hO : tKO K B RX5 cX5_bestBars 7) (hR : kR K = tRm 6 MC MS) (hG : tGr S) {n : Nat} (t0 : ty S 51 5) {k : Int32 → tHI → tHJ → Prop} (hQ : tRet K B (tQi B (tPi S k)) 0 0 (some .int)) {kb9 : tHI → tHJ → Int32 → Int32 → Int32 → Int32 → Prop} (hkb9 : ∀ (I : tHI) (J : tHJ) (v1 : Int32) (v2 : Int32) (v3 : Int32) (v4 : Int32), kb9 I J v1 v2 v3 v4 → tWG K B 0 0 S I J 9 [some (vR 51), some (vI v1), some (vI v2), some (vI v3), some (vI v4), none, none] []) {I : tHI} {J : tHJ} {v1 : Int32} {v2 : Int32} {v3 : Int32} {v4 : Int32} (h : F5_bestBars_9 n S k kb9 I J v1 v2 v3 v4) : tWG K B 0 0 S I J 9 [some (vR 51), some (vI v1), some (vI v2), some (vI v3), some (vI v4), none, none] [] := by
  refine gBk (pe := 13) hO [o0 (.iload 4), oI (.bipush 9) 9] (by decide +kernel) (show tWG K B 0 0 S I J 13 [some (vR 51), some (vI v1), some (vI v2), some (vI v3), some (vI v4), none, none] [vI 9, vI v4] from ?_)
  refine gIcGt hO (off := 99) (tgt := 112) (by decide +kernel) (by decide) (fun c1 => ?_) (fun c1 => ?_)
  · have h := h.1 c1
    refine gBk (pe := 113) hO [o0 (.iload_n 1)] (by decide +kernel) (show tWG K B 0 0 S I J 113 [some (vR 51), some (vI v1), some (vI v2), some (vI v3), some (vI v4), none, none] [vI v1] from ?_)
    have hj2 : ∀ (m3 : Int32), m3 = (if v1 = 0 then (v3 + 9) else v2) → tWG K B 0 0 S I J 124 [none, none, none, none, none, none, none] [vI m3] := by
      intro m3 em3
      subst em3
      exact gIret hO hQ (by decide +kernel) ⟨rfl, h⟩
    refine gIfNe hO (off := 10) (tgt := 123) (by decide +kernel) (by decide) (fun c4 => ?_) (fun c4 => ?_)
    · refine gBk (pe := 124) hO [o0 (.iload_n 2)] (by decide +kernel) (show tWG K B 0 0 S I J 124 [some (vR 51), some (vI v1), some (vI v2), some (vI v3), some (vI v4), none, none] [vI v2] from ?_)
      exact gWeak (L' := [none, none, none, none, none, none, none]) trivial (hj2 _ (Eq.symm (if_neg c4)))
    · refine gBk (pe := 124) hO [o0 (.iload_n 3), oI (.bipush 9) 9, o0 .iadd, o0 (.goto 4)] (by decide +kernel) (show tWG K B 0 0 S I J 124 [some (vR 51), some (vI v1), some (vI v2), some (vI v3), some (vI v4), none, none] [vI (v3 + 9)] from ?_)
      exact gWeak (L' := [none, none, none, none, none, none, none]) trivial (hj2 _ (Eq.symm (if_pos c4)))
  · have h := h.2 c1
    refine gBk (pe := 34) hO [o0 (.aload_n 0), oF (.getfield 38) 5 1 173 48, oF (.getfield 139) 2 0 1290 49, oI (.bipush 6) 6, o0 (.iload 4), o0 .iastore, oI (.iconst 0) 0, o0 (.istore 5), oI (.iconst 0) 0, o0 (.istore 6)] (by decide +kernel) (And.intro t0 (And.intro rfl (And.intro (tGr.abs hG t0 (k := 1) rfl) (And.intro rfl (And.intro (tGr.off hG (tGr.abs hG t0 (k := 1) rfl) (k := 0) rfl) (And.intro (tin (tGr.len hG (tGr.abs hG t0 (k := 1) rfl) (k := 0) rfl (by decide)) (tvi (by decide +kernel))) (And.intro (Nat.le_of_ble_eq_true rfl) (And.intro (Nat.le_of_ble_eq_true rfl) (show tWG K B 0 0 S (uI I 49 6 v4) J 34 [some (vR 51), some (vI v1), some (vI v2), some (vI v3), some (vI v4), some (vI 0), some (vI 0)] [] from ?_)))))))))
    exact W5_bestBars_L34 hO hR hG t0 hQ hkb9 n _ _ _ _ _ _ _ _ h
theorem W5_bestBars_L9 {K : tK} {B : tB} {S : tSH} {MC MS : Nat} (hO : tKO K B RX5 cX5_bestBars 7) (hR : kR K = tRm 6 MC MS) (hG : tGr S) {n : Nat} (t0 : ty S 51 5) {k : Int32 → tHI → tHJ → Prop} (hQ : tRet K B (tQi B (tPi S k)) 0 0 (some .int)) : ∀ (f : Nat) (I : tHI) (J : tHJ) (v1 : Int32) (v2 : Int32) (v3 : Int32) (v4 : Int32), F5_bestBars_L9 n S k f I J v1 v2 v3 v4 → tWG K B 0 0 S I J 9 [some (vR 51), some (vI v1), some (vI v2), some (vI v3), some (vI v4), none, none] [] := by
  intro f
  induction f with
  | zero => intro I J v1 v2 v3 v4 h; exact h.elim
  | succ f ih => intro I J v1 v2 v3 v4 h; exact W5_bestBars_9 hO hR hG t0 hQ ih h
set_option maxRecDepth 20000 in
theorem hc5_bestBars : tCV yX5_bestBars cX5_bestBars 7 (some .int) 1 := ⟨⟨(List.mem_of_getElem? (i := 1336) rfl), (List.mem_of_getElem? (i := 41) (by decide +kernel)), by decide +kernel⟩, (List.mem_of_getElem? (i := 1334) (by decide +kernel)), (List.mem_of_getElem? (i := 1335) (by decide +kernel))⟩
set_option maxRecDepth 100000 in
theorem M5_bestBars {l : Launch} {B : tB} {S : tSH} {I : tHI} {J : tHJ} {v1 : Int32} {n : Nat} {k : Int32 → tHI → tHJ → Prop} (t0 : ty S 51 5) (h : F5_bestBars n S I J v1 k) : Met l yX5_bestBars (tWs yX5_bestBars cX5_bestBars 7 (some .int)) (tRm 6 0 0) (tPc B [vR 51, vI v1] S I J) (tQi B (tPi S k)) 0 0 (tA B) :=
  tEntry (by decide +kernel) [some (vR 51), some (vI v1), none, none, none, none, none] rfl rfl (Nat.le_of_ble_eq_true rfl) (fun K hl hR hO hQ hG => by
  subst hl
  refine gBk (pe := 9) hO [(.ldc 85, (0, 0, 1209, 0), 1000000000, 0), o0 (.istore_n 2), oI (.iconst 0) 0, o0 (.istore_n 3), oI (.bipush (-9)) (-9), o0 (.istore 4)] (by decide +kernel) (And.intro (Nat.le_of_ble_eq_true rfl) (And.intro (Nat.le_of_ble_eq_true rfl) (And.intro (Nat.le_of_ble_eq_true rfl) (show tWG K B 0 0 S I J 9 [some (vR 51), some (vI v1), some (vI 1000000000), some (vI 0), some (vI (-9)), none, none] [] from ?_))))
  exact W5_bestBars_L9 hO hR hG t0 hQ n _ _ _ _ _ _ h)
set_option maxRecDepth 100000 in
theorem W5_roundsToLearn_99 {K : tK} {B : tB} {S : tSH} {MC MS : Nat} (hO : tKO K B RX5 cX5_roundsToLearn 6) (hR : kR K = tRm 6 MC MS) (hG : tGr S) {n : Nat} (t0 : ty S 51 5) {k : Int32 → tHI → tHJ → Prop} (hQ : tRet K B (tQi B (tPi S k)) 0 0 (some .int)) {kb30 : tHI → tHJ → Int32 → Int32 → Int32 → Prop} (hkb30 : ∀ (I : tHI) (J : tHJ) (v1 : Int32) (v2 : Int32) (v3 : Int32), kb30 I J v1 v2 v3 → tWG K B 0 0 S I J 30 [some (vR 51), some (vI v1), some (vI v2), some (vI v3), none, none] []) {I : tHI} {J : tHJ} {v1 : Int32} {v2 : Int32} {v3 : Int32} {v4 : Int32} (h : F5_roundsToLearn_99 n S k kb30 I J v1 v2 v3 v4) : tWG K B 0 0 S I J 99 [some (vR 51), some (vI v1), some (vI v2), some (vI v3), some (vI v4), none] [] := by
  refine gBk (pe := 102) hO [o0 (.iload_n 2), o0 (.iload 4)] (by decide +kernel) (show tWG K B 0 0 S I J 102 [some (vR 51), some (vI v1), some (vI v2), some (vI v3), some (vI v4), none] [vI v4, vI v2] from ?_)
  refine gIcNe hO (off := 5) (tgt := 107) (by decide +kernel) (by decide) (fun c5 => ?_) (fun c5 => ?_)
  · have h := h.1 c5
    refine gBk (pe := 30) hO [oI (.iinc 3 1) 1, o0 (.goto (-80))] (by decide +kernel) (show tWG K B 0 0 S I J 30 [some (vR 51), some (vI v1), some (vI v2), some (vI (v3 + 1)), some (vI v4), none] [] from ?_)
    exact gWeak (L' := [some (vR 51), some (vI v1), some (vI v2), some (vI (v3 + 1)), none, none]) ⟨rfl, rfl, rfl, rfl, trivial⟩ (hkb30 _ _ _ _ _ h)
  · have h := h.2 c5
    refine gBk (pe := 106) hO [oI (.iconst (-1)) (-1)] (by decide +kernel) (show tWG K B 0 0 S I J 106 [some (vR 51), some (vI v1), some (vI v2), some (vI v3), some (vI v4), none] [vI (-1)] from ?_)
    exact gIret hO hQ (by decide +kernel) ⟨rfl, h⟩
set_option maxRecDepth 100000 in
theorem W5_roundsToLearn_51 {K : tK} {B : tB} {S : tSH} {MC MS : Nat} (hO : tKO K B RX5 cX5_roundsToLearn 6) (hR : kR K = tRm 6 MC MS) (hG : tGr S) {n : Nat} (t0 : ty S 51 5) {k : Int32 → tHI → tHJ → Prop} (hQ : tRet K B (tQi B (tPi S k)) 0 0 (some .int)) {kb30 : tHI → tHJ → Int32 → Int32 → Int32 → Prop} (hkb30 : ∀ (I : tHI) (J : tHJ) (v1 : Int32) (v2 : Int32) (v3 : Int32), kb30 I J v1 v2 v3 → tWG K B 0 0 S I J 30 [some (vR 51), some (vI v1), some (vI v2), some (vI v3), none, none] []) {kb51 : tHI → tHJ → Int32 → Int32 → Int32 → Int32 → Int32 → Prop} (hkb51 : ∀ (I : tHI) (J : tHJ) (v1 : Int32) (v2 : Int32) (v3 : Int32) (v4 : Int32) (v5 : Int32), kb51 I J v1 v2 v3 v4 v5 → tWG K B 0 0 S I J 51 [some (vR 51), some (vI v1), some (vI v2), some (vI v3), some (vI v4), some (vI v5)] []) {I : tHI} {J : tHJ} {v1 : Int32} {v2 : Int32} {v3 : Int32} {v4 : Int32} {v5 : Int32} (h : F5_roundsToLearn_51 n S k kb30 kb51 I J v1 v2 v3 v4 v5) : tWG K B 0 0 S I J 51 [some (vR 51), some (vI v1), some (vI v2), some (vI v3), some (vI v4), some (vI v5)] [] := by
  refine gBk (pe := 54) hO [o0 (.iload 5), o0 (.iload_n 1)] (by decide +kernel) (show tWG K B 0 0 S I J 54 [some (vR 51), some (vI v1), some (vI v2), some (vI v3), some (vI v4), some (vI v5)] [vI v1, vI v5] from ?_)
  refine gIcGe hO (off := 45) (tgt := 99) (by decide +kernel) (by decide) (fun c4 => ?_) (fun c4 => ?_)
  · have h := h.1 c4
    exact gWeak (L' := [some (vR 51), some (vI v1), some (vI v2), some (vI v3), some (vI v4), none]) ⟨rfl, rfl, rfl, rfl, rfl, trivial⟩ (W5_roundsToLearn_99 hO hR hG t0 hQ hkb30 h)
  · have h := h.2 c4
    refine gBk (pe := 61) hO [o0 (.iload 5), oI (.bipush 12) 12] (by decide +kernel) (show tWG K B 0 0 S I J 61 [some (vR 51), some (vI v1), some (vI v2), some (vI v3), some (vI v4), some (vI v5)] [vI 12, vI v5] from ?_)
    refine gIcGe hO (off := 38) (tgt := 99) (by decide +kernel) (by decide) (fun c6 => ?_) (fun c6 => ?_)
    · have h := h.1 c6
      exact gWeak (L' := [some (vR 51), some (vI v1), some (vI v2), some (vI v3), some (vI v4), none]) ⟨rfl, rfl, rfl, rfl, rfl, trivial⟩ (W5_roundsToLearn_99 hO hR hG t0 hQ hkb30 h)
    · have h := h.2 c6
      refine gBk (pe := 85) hO [o0 (.aload_n 0), oF (.getfield 38) 5 1 173 48, oF (.getfield 139) 2 0 1290 49, oI (.bipush 7) 7, o0 (.iload_n 2), o0 .iastore, oI (.bipush 100) 100, o0 (.iload_n 2), o0 (.aload_n 0), oF (.getfield 38) 5 1 173 48, oI (.iconst 4) 4, o0 (.iload 5)] (by decide +kernel) (And.intro t0 (And.intro rfl (And.intro (tGr.abs hG t0 (k := 1) rfl) (And.intro rfl (And.intro (tGr.off hG (tGr.abs hG t0 (k := 1) rfl) (k := 0) rfl) (And.intro (tin (tGr.len hG (tGr.abs hG t0 (k := 1) rfl) (k := 0) rfl (by decide)) (tvi (by decide +kernel))) (And.intro t0 (And.intro rfl (show tWG K B 0 0 S (uI I 49 7 v2) J 85 [some (vR 51), some (vI v1), some (vI v2), some (vI v3), some (vI v4), some (vI v5)] [vI v5, vI 4, vR 48, vI v2, vI 100] from ?_)))))))))
      refine gCVi_c hO (M2_tell (tGr.abs hG t0 (k := 1) rfl) h) hc2_tell (idx := 155) (w := 1339) (by decide +kernel) hR (by omega) (tGr.abs hG t0 (k := 1) rfl) ⟨by decide, rfl⟩ (vs := [vI 4, vI v5]) (st := [vI v2, vI 100]) ⟨rfl, Nat.le_of_ble_eq_true rfl, rfl⟩ (by decide +kernel) (fun x9 I7 J8 h => ?_)
      refine gBk (pe := 89) hO [o0 .iadd] (by decide +kernel) (show tWG K B 0 0 S I7 J8 89 [some (vR 51), some (vI v1), some (vI v2), some (vI v3), some (vI v4), some (vI v5)] [vI (v2 + x9), vI 100] from ?_)
      refine gMin hO (idx := 53) (w := 1200) (by decide +kernel) hR (by omega) (st := []) (Nat.le_of_ble_eq_true rfl) rfl (by decide +kernel) ?_
      refine gBk (pe := 51) hO [o0 (.istore_n 2), oI (.iinc 5 1) 1, o0 (.goto (-45))] (by decide +kernel) (And.intro (Nat.le_of_ble_eq_true rfl) (show tWG K B 0 0 S I7 J8 51 [some (vR 51), some (vI v1), some (vI (if (v2 + x9) < 100 then (v2 + x9) else 100)), some (vI v3), some (vI v4), some (vI (v5 + 1))] [] from ?_))
      exact hkb51 _ _ _ _ _ _ _ h
theorem W5_roundsToLearn_L51 {K : tK} {B : tB} {S : tSH} {MC MS : Nat} (hO : tKO K B RX5 cX5_roundsToLearn 6) (hR : kR K = tRm 6 MC MS) (hG : tGr S) {n : Nat} (t0 : ty S 51 5) {k : Int32 → tHI → tHJ → Prop} (hQ : tRet K B (tQi B (tPi S k)) 0 0 (some .int)) {kb30 : tHI → tHJ → Int32 → Int32 → Int32 → Prop} (hkb30 : ∀ (I : tHI) (J : tHJ) (v1 : Int32) (v2 : Int32) (v3 : Int32), kb30 I J v1 v2 v3 → tWG K B 0 0 S I J 30 [some (vR 51), some (vI v1), some (vI v2), some (vI v3), none, none] []) : ∀ (f : Nat) (I : tHI) (J : tHJ) (v1 : Int32) (v2 : Int32) (v3 : Int32) (v4 : Int32) (v5 : Int32), F5_roundsToLearn_L51 n S k kb30 f I J v1 v2 v3 v4 v5 → tWG K B 0 0 S I J 51 [some (vR 51), some (vI v1), some (vI v2), some (vI v3), some (vI v4), some (vI v5)] [] := by
  intro f
  induction f with
  | zero => intro I J v1 v2 v3 v4 v5 h; exact h.elim
  | succ f ih => intro I J v1 v2 v3 v4 v5 h; exact W5_roundsToLearn_51 hO hR hG t0 hQ hkb30 ih h
set_option maxRecDepth 100000 in
theorem W5_roundsToLearn_30 {K : tK} {B : tB} {S : tSH} {MC MS : Nat} (hO : tKO K B RX5 cX5_roundsToLearn 6) (hR : kR K = tRm 6 MC MS) (hG : tGr S) {n : Nat} (t0 : ty S 51 5) {k : Int32 → tHI → tHJ → Prop} (hQ : tRet K B (tQi B (tPi S k)) 0 0 (some .int)) {kb30 : tHI → tHJ → Int32 → Int32 → Int32 → Prop} (hkb30 : ∀ (I : tHI) (J : tHJ) (v1 : Int32) (v2 : Int32) (v3 : Int32), kb30 I J v1 v2 v3 → tWG K B 0 0 S I J 30 [some (vR 51), some (vI v1), some (vI v2), some (vI v3), none, none] []) {I : tHI} {J : tHJ} {v1 : Int32} {v2 : Int32} {v3 : Int32} (h : F5_roundsToLearn_30 n S k kb30 I J v1 v2 v3) : tWG K B 0 0 S I J 30 [some (vR 51), some (vI v1), some (vI v2), some (vI v3), none, none] [] := by
  refine gBk (pe := 34) hO [o0 (.iload_n 3), oI (.sipush 1000) 1000] (by decide +kernel) (show tWG K B 0 0 S I J 34 [some (vR 51), some (vI v1), some (vI v2), some (vI v3), none, none] [vI 1000, vI v3] from ?_)
  refine gIcGe hO (off := 79) (tgt := 113) (by decide +kernel) (by decide) (fun c2 => ?_) (fun c2 => ?_)
  · have h := h.1 c2
    refine gBk (pe := 114) hO [oI (.iconst (-1)) (-1)] (by decide +kernel) (show tWG K B 0 0 S I J 114 [some (vR 51), some (vI v1), some (vI v2), some (vI v3), none, none] [vI (-1)] from ?_)
    exact gIret hO hQ (by decide +kernel) ⟨rfl, h⟩
  · have h := h.2 c2
    refine gBk (pe := 40) hO [o0 (.iload_n 2), oI (.bipush 100) 100] (by decide +kernel) (show tWG K B 0 0 S I J 40 [some (vR 51), some (vI v1), some (vI v2), some (vI v3), none, none] [vI 100, vI v2] from ?_)
    refine gIcLt hO (off := 5) (tgt := 45) (by decide +kernel) (by decide) (fun c3 => ?_) (fun c3 => ?_)
    · have h := h.1 c3
      refine gBk (pe := 51) hO [o0 (.iload_n 2), o0 (.istore 4), oI (.iconst 0) 0, o0 (.istore 5)] (by decide +kernel) (And.intro (Nat.le_of_ble_eq_true rfl) (And.intro (Nat.le_of_ble_eq_true rfl) (show tWG K B 0 0 S I J 51 [some (vR 51), some (vI v1), some (vI v2), some (vI v3), some (vI v2), some (vI 0)] [] from ?_)))
      exact W5_roundsToLearn_L51 hO hR hG t0 hQ hkb30 n _ _ _ _ _ _ _ h
    · have h := h.2 c3
      refine gBk (pe := 44) hO [o0 (.iload_n 3)] (by decide +kernel) (show tWG K B 0 0 S I J 44 [some (vR 51), some (vI v1), some (vI v2), some (vI v3), none, none] [vI v3] from ?_)
      exact gIret hO hQ (by decide +kernel) ⟨rfl, h⟩
theorem W5_roundsToLearn_L30 {K : tK} {B : tB} {S : tSH} {MC MS : Nat} (hO : tKO K B RX5 cX5_roundsToLearn 6) (hR : kR K = tRm 6 MC MS) (hG : tGr S) {n : Nat} (t0 : ty S 51 5) {k : Int32 → tHI → tHJ → Prop} (hQ : tRet K B (tQi B (tPi S k)) 0 0 (some .int)) : ∀ (f : Nat) (I : tHI) (J : tHJ) (v1 : Int32) (v2 : Int32) (v3 : Int32), F5_roundsToLearn_L30 n S k f I J v1 v2 v3 → tWG K B 0 0 S I J 30 [some (vR 51), some (vI v1), some (vI v2), some (vI v3), none, none] [] := by
  intro f
  induction f with
  | zero => intro I J v1 v2 v3 h; exact h.elim
  | succ f ih => intro I J v1 v2 v3 h; exact W5_roundsToLearn_30 hO hR hG t0 hQ ih h
set_option maxRecDepth 20000 in
theorem hc5_roundsToLearn : tCV yX5_roundsToLearn cX5_roundsToLearn 6 (some .int) 0 := ⟨⟨(List.mem_of_getElem? (i := 1351) rfl), (List.mem_of_getElem? (i := 41) (by decide +kernel)), by decide +kernel⟩, (List.mem_of_getElem? (i := 1349) (by decide +kernel)), (List.mem_of_getElem? (i := 1350) (by decide +kernel))⟩
set_option maxRecDepth 100000 in
theorem M5_roundsToLearn {l : Launch} {B : tB} {S : tSH} {I : tHI} {J : tHJ} {n : Nat} {k : Int32 → tHI → tHJ → Prop} (t0 : ty S 51 5) (h : F5_roundsToLearn n S I J k) : Met l yX5_roundsToLearn (tWs yX5_roundsToLearn cX5_roundsToLearn 6 (some .int)) (tRm 6 0 0) (tPc B [vR 51] S I J) (tQi B (tPi S k)) 0 0 (tA B) :=
  tEntry (by decide +kernel) [some (vR 51), none, none, none, none, none] rfl rfl (Nat.le_of_ble_eq_true rfl) (fun K hl hR hO hQ hG => by
  subst hl
  refine gBk (pe := 23) hO [o0 (.aload_n 0), oF (.getfield 34) 5 0 172 1, oF (.getfield 42) 8 1 1198 7, oF (.getfield 48) 7 0 1199 0, o0 (.istore_n 1), o0 (.aload_n 0), oF (.getfield 34) 5 0 172 1, oF (.getfield 73) 8 2 1201 15, oF (.getfield 164) 10 5 1352 0, o0 (.istore_n 2), o0 (.iload_n 1)] (by decide +kernel) (And.intro t0 (And.intro rfl (And.intro (tGr.abs hG t0 (k := 0) rfl) (And.intro rfl (And.intro (tGr.off hG (tGr.abs hG t0 (k := 0) rfl) (k := 1) rfl) (And.intro (Nat.le_of_ble_eq_true rfl) (And.intro t0 (And.intro rfl (And.intro (tGr.abs hG t0 (k := 0) rfl) (And.intro rfl (And.intro (tGr.off hG (tGr.abs hG t0 (k := 0) rfl) (k := 2) rfl) (And.intro (Nat.le_of_ble_eq_true rfl) (show tWG K B 0 0 S I J 23 [some (vR 51), some (vI (I 7 0)), some (vI (I 15 5)), none, none, none] [vI (I 7 0)] from ?_)))))))))))))
  refine gIfNe hO (off := 5) (tgt := 28) (by decide +kernel) (by decide) (fun c1 => ?_) (fun c1 => ?_)
  · have h := h.1 c1
    refine gBk (pe := 30) hO [oI (.iconst 0) 0, o0 (.istore_n 3)] (by decide +kernel) (And.intro (Nat.le_of_ble_eq_true rfl) (show tWG K B 0 0 S I J 30 [some (vR 51), some (vI (I 7 0)), some (vI (I 15 5)), some (vI 0), none, none] [] from ?_))
    exact W5_roundsToLearn_L30 hO hR hG t0 hQ n _ _ _ _ _ h
  · have h := h.2 c1
    refine gBk (pe := 27) hO [oI (.iconst (-1)) (-1)] (by decide +kernel) (show tWG K B 0 0 S I J 27 [some (vR 51), some (vI (I 7 0)), some (vI (I 15 5)), none, none, none] [vI (-1)] from ?_)
    exact gIret hO hQ (by decide +kernel) ⟨rfl, h⟩)
set_option maxRecDepth 100000 in
theorem W5_allSeen_89 {K : tK} {B : tB} {S : tSH} {MC MS : Nat} (hO : tKO K B RX5 cX5_allSeen 5) (hR : kR K = tRm 7 MC MS) (hG : tGr S) {n : Nat} (t0 : ty S 51 5) {k : Int32 → tHI → tHJ → Prop} (hQ : tRet K B (tQi B (tPb S k)) 0 0 (some .boolean)) {I : tHI} {J : tHJ} (h : F5_allSeen_89 n S k I J) : tWG K B 0 0 S I J 89 [none, none, none, none, none] [] := by
  refine gBk (pe := 90) hO [oI (.iconst 1) 1] (by decide +kernel) (show tWG K B 0 0 S I J 90 [none, none, none, none, none] [vI 1] from ?_)
  exact gZret hO hQ (by decide +kernel) (Or.inr rfl) ⟨rfl, (Or.inr rfl), h⟩
set_option maxRecDepth 100000 in
theorem W5_allSeen_18 {K : tK} {B : tB} {S : tSH} {MC MS : Nat} (hO : tKO K B RX5 cX5_allSeen 5) (hR : kR K = tRm 7 MC MS) (hG : tGr S) {n : Nat} (t0 : ty S 51 5) {k : Int32 → tHI → tHJ → Prop} (hQ : tRet K B (tQi B (tPb S k)) 0 0 (some .boolean)) {kb18 : tHI → tHJ → Int32 → Prop} (hkb18 : ∀ (I : tHI) (J : tHJ) (v3 : Int32), kb18 I J v3 → tWG K B 0 0 S I J 18 [some (vR 51), none, some (vR 7), some (vI v3), none] []) {I : tHI} {J : tHJ} {v3 : Int32} (h : F5_allSeen_18 n S k kb18 I J v3) : tWG K B 0 0 S I J 18 [some (vR 51), none, some (vR 7), some (vI v3), none] [] := by
  refine gBk (pe := 23) hO [o0 (.iload_n 3), o0 (.aload_n 2), oF (.getfield 173) 7 5 1389 0] (by decide +kernel) (And.intro (tGr.off hG (tGr.abs hG t0 (k := 0) rfl) (k := 1) rfl) (show tWG K B 0 0 S I J 23 [some (vR 51), none, some (vR 7), some (vI v3), none] [vI (I 7 5), vI v3] from ?_))
  refine gIcGe hO (off := 66) (tgt := 89) (by decide +kernel) (by decide) (fun c3 => ?_) (fun c3 => ?_)
  · have h := h.1 c3
    exact gWeak (L' := [none, none, none, none, none]) trivial (W5_allSeen_89 hO hR hG t0 hQ h)
  · have h := h.2 c3
    refine gBk (pe := 29) hO [o0 (.iload_n 3), oI (.bipush 8) 8] (by decide +kernel) (show tWG K B 0 0 S I J 29 [some (vR 51), none, some (vR 7), some (vI v3), none] [vI 8, vI v3] from ?_)
    refine gIcGe hO (off := 60) (tgt := 89) (by decide +kernel) (by decide) (fun c4 => ?_) (fun c4 => ?_)
    · have h := h.1 c4
      exact gWeak (L' := [none, none, none, none, none]) trivial (W5_allSeen_89 hO hR hG t0 hQ h)
    · have h := h.2 c4
      refine gBk (pe := 48) hO [o0 (.aload_n 0), oF (.getfield 38) 5 1 173 48, o0 (.aload_n 2), oF (.getfield 176) 7 6 1390 12, o0 (.iload_n 3), o0 .iaload, o0 (.aload_n 2), oF (.getfield 179) 7 7 1391 13, o0 (.iload_n 3), o0 .iaload] (by decide +kernel) (And.intro t0 (And.intro rfl (And.intro (tGr.off hG (tGr.abs hG t0 (k := 0) rfl) (k := 1) rfl) (And.intro rfl (And.intro (tGr.off hG (tGr.off hG (tGr.abs hG t0 (k := 0) rfl) (k := 1) rfl) (k := 6) rfl) (And.intro (tin (tGr.len hG (tGr.off hG (tGr.abs hG t0 (k := 0) rfl) (k := 1) rfl) (k := 6) rfl (by decide)) h.1) (And.intro (tGr.off hG (tGr.abs hG t0 (k := 0) rfl) (k := 1) rfl) (And.intro rfl (And.intro (tGr.off hG (tGr.off hG (tGr.abs hG t0 (k := 0) rfl) (k := 1) rfl) (k := 7) rfl) (And.intro (tin (tGr.len hG (tGr.off hG (tGr.abs hG t0 (k := 0) rfl) (k := 1) rfl) (k := 7) rfl (by decide)) h.2.1) (show tWG K B 0 0 S I J 48 [some (vR 51), none, some (vR 7), some (vI v3), none] [vI (I 13 v3.toNatClampNeg), vI (I 12 v3.toNatClampNeg), vR 48] from ?_)))))))))))
      have h := h.2.2
      refine gCVi_c hO (M2_outcome (tGr.abs hG t0 (k := 1) rfl) h) hc2_outcome (idx := 182) (w := 1394) (by decide +kernel) hR (by omega) (tGr.abs hG t0 (k := 1) rfl) ⟨by decide, rfl⟩ (vs := [vI (I 12 v3.toNatClampNeg), vI (I 13 v3.toNatClampNeg)]) (st := []) ⟨rfl, Nat.le_of_ble_eq_true rfl, rfl⟩ (by decide +kernel) (fun x7 I5 J6 h => ?_)
      have hj8 : ∀ (m9 : Int32), m9 = (if x7 = 0 then (1 : Int32) else 0) → tWG K B 0 0 S I5 J6 59 [some (vR 51), none, some (vR 7), some (vI v3), none] [vI m9] := by
        intro m9 em9
        subst em9
        refine gBk (pe := 70) hO [o0 (.istore 4), o0 (.iload 4), o0 (.aload_n 2), oF (.getfield 185) 7 8 1392 14, o0 (.iload_n 3), o0 .iaload, oI (.iconst 1) 1] (by decide +kernel) (And.intro (Nat.le_of_ble_eq_true rfl) (And.intro (tGr.off hG (tGr.abs hG t0 (k := 0) rfl) (k := 1) rfl) (And.intro rfl (And.intro (tGr.off hG (tGr.off hG (tGr.abs hG t0 (k := 0) rfl) (k := 1) rfl) (k := 8) rfl) (And.intro (tin (tGr.len hG (tGr.off hG (tGr.abs hG t0 (k := 0) rfl) (k := 1) rfl) (k := 8) rfl (by decide)) h.1) (show tWG K B 0 0 S I5 J6 70 [some (vR 51), none, some (vR 7), some (vI v3), some (vI (if x7 = 0 then (1 : Int32) else 0))] [vI 1, vI (I5 14 v3.toNatClampNeg), vI (if x7 = 0 then (1 : Int32) else 0)] from ?_))))))
        have h := h.2
        have hj11 : ∀ (m12 : Int32), m12 = (if (I5 14 v3.toNatClampNeg) = 1 then (1 : Int32) else 0) → tWG K B 0 0 S I5 J6 78 [some (vR 51), none, some (vR 7), some (vI v3), none] [vI m12, vI (if x7 = 0 then (1 : Int32) else 0)] := by
          intro m12 em12
          subst em12
          refine gIcEq hO (off := 5) (tgt := 83) (by decide +kernel) (by decide) (fun c14 => ?_) (fun c14 => ?_)
          · have h := h.1 c14
            refine gBk (pe := 18) hO [oI (.iinc 3 1) 1, o0 (.goto (-68))] (by decide +kernel) (show tWG K B 0 0 S I5 J6 18 [some (vR 51), none, some (vR 7), some (vI (v3 + 1)), none] [] from ?_)
            exact hkb18 _ _ _ h
          · have h := h.2 c14
            refine gBk (pe := 82) hO [oI (.iconst 0) 0] (by decide +kernel) (show tWG K B 0 0 S I5 J6 82 [some (vR 51), none, some (vR 7), some (vI v3), none] [vI 0] from ?_)
            exact gZret hO hQ (by decide +kernel) (Or.inl rfl) ⟨rfl, (Or.inl rfl), h⟩
        refine gIcNe hO (off := 7) (tgt := 77) (by decide +kernel) (by decide) (fun c13 => ?_) (fun c13 => ?_)
        · refine gBk (pe := 78) hO [oI (.iconst 0) 0] (by decide +kernel) (show tWG K B 0 0 S I5 J6 78 [some (vR 51), none, some (vR 7), some (vI v3), some (vI (if x7 = 0 then (1 : Int32) else 0))] [vI 0, vI (if x7 = 0 then (1 : Int32) else 0)] from ?_)
          exact gWeak (L' := [some (vR 51), none, some (vR 7), some (vI v3), none]) ⟨rfl, rfl, rfl, trivial⟩ (hj11 _ (Eq.symm (if_neg c13)))
        · refine gBk (pe := 78) hO [oI (.iconst 1) 1, o0 (.goto 4)] (by decide +kernel) (show tWG K B 0 0 S I5 J6 78 [some (vR 51), none, some (vR 7), some (vI v3), some (vI (if x7 = 0 then (1 : Int32) else 0))] [vI 1, vI (if x7 = 0 then (1 : Int32) else 0)] from ?_)
          exact gWeak (L' := [some (vR 51), none, some (vR 7), some (vI v3), none]) ⟨rfl, rfl, rfl, trivial⟩ (hj11 _ (Eq.symm (if_pos c13)))
      refine gIfNe hO (off := 7) (tgt := 58) (by decide +kernel) (by decide) (fun c10 => ?_) (fun c10 => ?_)
      · refine gBk (pe := 59) hO [oI (.iconst 0) 0] (by decide +kernel) (show tWG K B 0 0 S I5 J6 59 [some (vR 51), none, some (vR 7), some (vI v3), none] [vI 0] from ?_)
        exact (hj8 _ (Eq.symm (if_neg c10)))
      · refine gBk (pe := 59) hO [oI (.iconst 1) 1, o0 (.goto 4)] (by decide +kernel) (show tWG K B 0 0 S I5 J6 59 [some (vR 51), none, some (vR 7), some (vI v3), none] [vI 1] from ?_)
        exact (hj8 _ (Eq.symm (if_pos c10)))
theorem W5_allSeen_L18 {K : tK} {B : tB} {S : tSH} {MC MS : Nat} (hO : tKO K B RX5 cX5_allSeen 5) (hR : kR K = tRm 7 MC MS) (hG : tGr S) {n : Nat} (t0 : ty S 51 5) {k : Int32 → tHI → tHJ → Prop} (hQ : tRet K B (tQi B (tPb S k)) 0 0 (some .boolean)) : ∀ (f : Nat) (I : tHI) (J : tHJ) (v3 : Int32), F5_allSeen_L18 n S k f I J v3 → tWG K B 0 0 S I J 18 [some (vR 51), none, some (vR 7), some (vI v3), none] [] := by
  intro f
  induction f with
  | zero => intro I J v3 h; exact h.elim
  | succ f ih => intro I J v3 h; exact W5_allSeen_18 hO hR hG t0 hQ ih h
set_option maxRecDepth 20000 in
theorem hc5_allSeen : tCV yX5_allSeen cX5_allSeen 5 (some .boolean) 1 := ⟨⟨(List.mem_of_getElem? (i := 1388) rfl), (List.mem_of_getElem? (i := 41) (by decide +kernel)), by decide +kernel⟩, (List.mem_of_getElem? (i := 1386) (by decide +kernel)), (List.mem_of_getElem? (i := 1387) (by decide +kernel))⟩
set_option maxRecDepth 100000 in
theorem M5_allSeen {l : Launch} {B : tB} {S : tSH} {I : tHI} {J : tHJ} {v1 : Int32} {n : Nat} {k : Int32 → tHI → tHJ → Prop} (t0 : ty S 51 5) (h : F5_allSeen n S I J v1 k) : Met l yX5_allSeen (tWs yX5_allSeen cX5_allSeen 5 (some .boolean)) (tRm 7 0 0) (tPc B [vR 51, vI v1] S I J) (tQi B (tPb S k)) 0 0 (tA B) :=
  tEntry (by decide +kernel) [some (vR 51), some (vI v1), none, none, none] rfl rfl (Nat.le_of_ble_eq_true rfl) (fun K hl hR hO hQ hG => by
  subst hl
  refine gBk (pe := 13) hO [o0 (.aload_n 0), oF (.getfield 34) 5 0 172 1, oF (.getfield 42) 8 1 1198 7, o0 (.astore_n 2), o0 (.aload_n 0), oF (.getfield 38) 5 1 173 48, o0 (.iload_n 1)] (by decide +kernel) (And.intro t0 (And.intro rfl (And.intro (tGr.abs hG t0 (k := 0) rfl) (And.intro rfl (And.intro (Nat.le_of_ble_eq_true rfl) (And.intro t0 (And.intro rfl (show tWG K B 0 0 S I J 13 [some (vR 51), some (vI v1), some (vR 7), none, none] [vI v1, vR 48] from ?_))))))))
  refine gCVv_c hO (M2_weigh (tGr.abs hG t0 (k := 1) rfl) h) hc2_weigh (idx := 170) (w := 1393) (by decide +kernel) hR (by omega) (tGr.abs hG t0 (k := 1) rfl) ⟨by decide, rfl⟩ (vs := [vI v1]) (st := []) ⟨rfl, Nat.le_of_ble_eq_true rfl, rfl⟩ (by decide +kernel) (fun I1 J2 h => ?_)
  refine gBk (pe := 18) hO [oI (.iconst 0) 0, o0 (.istore_n 3)] (by decide +kernel) (And.intro (Nat.le_of_ble_eq_true rfl) (show tWG K B 0 0 S I1 J2 18 [some (vR 51), some (vI v1), some (vR 7), some (vI 0), none] [] from ?_))
  exact gWeak (L' := [some (vR 51), none, some (vR 7), some (vI 0), none]) ⟨rfl, rfl, rfl, trivial⟩ (W5_allSeen_L18 hO hR hG t0 hQ n _ _ _ h))
set_option maxRecDepth 100000 in
theorem W11_load_29 {K : tK} {B : tB} {S : tSH} {MC MS : Nat} (hO : tKO K B RX11 cX11_load 4) (hR : kR K = tRm 6 MC MS) (hG : tGr S) {n : Nat} (t0 : ty S 0 11) {k : Int32 → tHI → tHJ → Prop} (hQ : tRet K B (tQi B (tPi S k)) 0 0 (some .int)) {I : tHI} {J : tHJ} (h : F11_load_29 n S k I J) : tWG K B 0 0 S I J 29 [some (vR 0), none, none, none] [] := by
  refine gBk (pe := 31) hO [o0 (.aload_n 0), oI (.iconst (-1)) (-1)] (by decide +kernel) (show tWG K B 0 0 S I J 31 [some (vR 0), none, none, none] [vI (-1), vR 0] from ?_)
  refine gCVi_c hO (M11_settle t0 h) hc11_settle (idx := 110) (w := 248) (by decide +kernel) hR (by omega) t0 ⟨by decide, rfl⟩ (vs := [vI (-1)]) (st := []) ⟨rfl, Nat.le_of_ble_eq_true rfl, rfl⟩ (by decide +kernel) (fun x5 I3 J4 h => ?_)
  exact gIret hO hQ (by decide +kernel) ⟨rfl, h⟩
set_option maxRecDepth 20000 in
theorem hc11_load : tCV yX11_load cX11_load 4 (some .int) 3 := ⟨⟨(List.mem_of_getElem? (i := 241) rfl), (List.mem_of_getElem? (i := 2) (by decide +kernel)), by decide +kernel⟩, (List.mem_of_getElem? (i := 239) (by decide +kernel)), (List.mem_of_getElem? (i := 240) (by decide +kernel))⟩
set_option maxRecDepth 100000 in
theorem M11_load {l : Launch} {B : tB} {S : tSH} {I : tHI} {J : tHJ} {v1 : Int32} {v2 : Int32} {v3 : Int32} {n : Nat} {k : Int32 → tHI → tHJ → Prop} (t0 : ty S 0 11) (h : F11_load n S I J v1 v2 v3 k) : Met l yX11_load (tWs yX11_load cX11_load 4 (some .int)) (tRm 6 0 0) (tPc B [vR 0, vI v1, vI v2, vI v3] S I J) (tQi B (tPi S k)) 0 0 (tA B) :=
  tEntry (by decide +kernel) [some (vR 0), some (vI v1), some (vI v2), some (vI v3)] rfl rfl (Nat.le_of_ble_eq_true rfl) (fun K hl hR hO hQ hG => by
  subst hl
  refine gBk (pe := 5) hO [o0 (.iload_n 1), oI (.iconst 0) 0, oI (.sipush 200) 200] (by decide +kernel) (show tWG K B 0 0 S I J 5 [some (vR 0), some (vI v1), some (vI v2), some (vI v3)] [vI 200, vI 0, vI v1] from ?_)
  refine gCSi_z hO (M11_within) hc11_within (idx := 106) (w := 245) (by decide +kernel) hR (by omega) (vs := [vI v1, vI 0, vI 200]) (st := []) ⟨rfl, Nat.le_of_ble_eq_true rfl, rfl⟩ (by decide +kernel) (fun z1 => ?_)
  refine gIfEq hO (off := 21) (tgt := 29) (by decide +kernel) (by decide) (fun c2 => ?_) (fun c2 => ?_)
  · have h := h.1 c2
    exact gWeak (L' := [some (vR 0), none, none, none]) ⟨rfl, trivial⟩ (W11_load_29 hO hR hG t0 hQ h)
  · have h := h.2 c2
    refine gBk (pe := 14) hO [o0 (.iload_n 2), oI (.iconst 0) 0, oI (.iconst 3) 3] (by decide +kernel) (show tWG K B 0 0 S I J 14 [some (vR 0), some (vI v1), some (vI v2), some (vI v3)] [vI 3, vI 0, vI v2] from ?_)
    refine gCSi_z hO (M11_within) hc11_within (idx := 106) (w := 245) (by decide +kernel) hR (by omega) (vs := [vI v2, vI 0, vI 3]) (st := []) ⟨rfl, Nat.le_of_ble_eq_true rfl, rfl⟩ (by decide +kernel) (fun z6 => ?_)
    refine gIfEq hO (off := 12) (tgt := 29) (by decide +kernel) (by decide) (fun c7 => ?_) (fun c7 => ?_)
    · have h := h.1 c7
      exact gWeak (L' := [some (vR 0), none, none, none]) ⟨rfl, trivial⟩ (W11_load_29 hO hR hG t0 hQ h)
    · have h := h.2 c7
      refine gBk (pe := 23) hO [o0 (.iload_n 3), oI (.iconst 0) 0, oI (.iconst 1) 1] (by decide +kernel) (show tWG K B 0 0 S I J 23 [some (vR 0), some (vI v1), some (vI v2), some (vI v3)] [vI 1, vI 0, vI v3] from ?_)
      refine gCSi_z hO (M11_within) hc11_within (idx := 106) (w := 245) (by decide +kernel) hR (by omega) (vs := [vI v3, vI 0, vI 1]) (st := []) ⟨rfl, Nat.le_of_ble_eq_true rfl, rfl⟩ (by decide +kernel) (fun z8 => ?_)
      refine gIfNe hO (off := 9) (tgt := 35) (by decide +kernel) (by decide) (fun c9 => ?_) (fun c9 => ?_)
      · have h := h.1 c9
        refine gBk (pe := 39) hO [o0 (.aload_n 0), oF (.getfield 59) 11 8 38 48] (by decide +kernel) (And.intro t0 (And.intro rfl (show tWG K B 0 0 S I J 39 [some (vR 0), some (vI v1), some (vI v2), some (vI v3)] [vR 48] from ?_)))
        refine gCVv_c hO (M2_asItStands (tGr.off hG t0 (k := 8) rfl) h) hc2_asItStands (idx := 114) (w := 255) (by decide +kernel) hR (by omega) (tGr.off hG t0 (k := 8) rfl) ⟨by decide, rfl⟩ (vs := []) (st := []) ⟨rfl, Nat.le_of_ble_eq_true rfl, rfl⟩ (by decide +kernel) (fun I10 J11 h => ?_)
        refine gBk (pe := 49) hO [o0 (.aload_n 0), oF (.getfield 59) 11 8 38 48, o0 (.iload_n 1), o0 (.iload_n 2), o0 (.iload_n 3)] (by decide +kernel) (And.intro t0 (And.intro rfl (show tWG K B 0 0 S I10 J11 49 [some (vR 0), some (vI v1), some (vI v2), some (vI v3)] [vI v3, vI v2, vI v1, vR 48] from ?_)))
        refine gCVi_b hO (M2_barred (tGr.off hG t0 (k := 8) rfl) h) hc2_barred (idx := 117) (w := 273) (by decide +kernel) hR (by omega) (tGr.off hG t0 (k := 8) rfl) ⟨by decide, rfl⟩ (vs := [vI v1, vI v2, vI v3]) (st := []) ⟨rfl, Nat.le_of_ble_eq_true rfl, rfl⟩ (by decide +kernel) (fun x14 I12 J13 z15 h => ?_)
        have h := h z15
        refine gIfEq hO (off := 10) (tgt := 62) (by decide +kernel) (by decide) (fun c16 => ?_) (fun c16 => ?_)
        · have h := h.1 c16
          refine gBk (pe := 74) hO [o0 (.aload_n 0), oF (.getfield 12) 11 0 15 1, oF (.getfield 120) 8 0 242 2, oF (.getfield 124) 3 0 243 0, oI (.bipush 6) 6] (by decide +kernel) (And.intro t0 (And.intro rfl (And.intro (tGr.off hG t0 (k := 0) rfl) (And.intro rfl (And.intro (tGr.off hG (tGr.off hG t0 (k := 0) rfl) (k := 0) rfl) (show tWG K B 0 0 S I12 J13 74 [some (vR 0), some (vI v1), some (vI v2), some (vI v3)] [vI 6, vI (I12 2 0)] from ?_))))))
          refine gIcLt hO (off := 10) (tgt := 84) (by decide +kernel) (by decide) (fun c17 => ?_) (fun c17 => ?_)
          · have h := h.1 c17
            refine gBk (pe := 103) hO [o0 (.aload_n 0), oF (.getfield 26) 11 3 21 34, oI (.iconst 0) 0, oF (.putfield 129) 1 1 244 0, o0 (.aload_n 0), o0 (.aload_n 0), oF (.getfield 12) 11 0 15 1, oF (.getfield 120) 8 0 242 2, o0 (.iload_n 1), o0 (.iload_n 2), o0 (.iload_n 3)] (by decide +kernel) (And.intro t0 (And.intro rfl (And.intro (tGr.off hG t0 (k := 3) rfl) (And.intro t0 (And.intro rfl (And.intro (tGr.off hG t0 (k := 0) rfl) (And.intro rfl (show tWG K B 0 0 S (uI I12 34 1 0) J13 103 [some (vR 0), some (vI v1), some (vI v2), some (vI v3)] [vI v3, vI v2, vI v1, vR 2, vR 0] from ?_))))))))
            refine gCVi_c hO (M3_add (tGr.off hG (tGr.off hG t0 (k := 0) rfl) (k := 0) rfl) h) hc3_add (idx := 132) (w := 308) (by decide +kernel) hR (by omega) (tGr.off hG (tGr.off hG t0 (k := 0) rfl) (k := 0) rfl) ⟨by decide, rfl⟩ (vs := [vI v1, vI v2, vI v3]) (st := [vR 0]) ⟨rfl, Nat.le_of_ble_eq_true rfl, rfl⟩ (by decide +kernel) (fun x20 I18 J19 h => ?_)
            refine gCVi_c hO (M11_settle t0 h) hc11_settle (idx := 110) (w := 248) (by decide +kernel) hR (by omega) t0 ⟨by decide, rfl⟩ (vs := [vI x20]) (st := []) ⟨rfl, Nat.le_of_ble_eq_true rfl, rfl⟩ (by decide +kernel) (fun x23 I21 J22 h => ?_)
            exact gIret hO hQ (by decide +kernel) ⟨rfl, h⟩
          · have h := h.2 c17
            refine gBk (pe := 80) hO [o0 (.aload_n 0), oI (.bipush (-5)) (-5)] (by decide +kernel) (show tWG K B 0 0 S I12 J13 80 [some (vR 0), some (vI v1), some (vI v2), some (vI v3)] [vI (-5), vR 0] from ?_)
            refine gCVi_c hO (M11_settle t0 h) hc11_settle (idx := 110) (w := 248) (by decide +kernel) hR (by omega) t0 ⟨by decide, rfl⟩ (vs := [vI (-5)]) (st := []) ⟨rfl, Nat.le_of_ble_eq_true rfl, rfl⟩ (by decide +kernel) (fun x26 I24 J25 h => ?_)
            exact gIret hO hQ (by decide +kernel) ⟨rfl, h⟩
        · have h := h.2 c16
          refine gBk (pe := 58) hO [o0 (.aload_n 0), oI (.bipush (-3)) (-3)] (by decide +kernel) (show tWG K B 0 0 S I12 J13 58 [some (vR 0), some (vI v1), some (vI v2), some (vI v3)] [vI (-3), vR 0] from ?_)
          refine gCVi_c hO (M11_settle t0 h) hc11_settle (idx := 110) (w := 248) (by decide +kernel) hR (by omega) t0 ⟨by decide, rfl⟩ (vs := [vI (-3)]) (st := []) ⟨rfl, Nat.le_of_ble_eq_true rfl, rfl⟩ (by decide +kernel) (fun x29 I27 J28 h => ?_)
          exact gIret hO hQ (by decide +kernel) ⟨rfl, h⟩
      · have h := h.2 c9
        exact gWeak (L' := [some (vR 0), none, none, none]) ⟨rfl, trivial⟩ (W11_load_29 hO hR hG t0 hQ h))
set_option maxRecDepth 100000 in
theorem W11_of_26 {K : tK} {B : tB} {S : tSH} {MC MS : Nat} (hO : tKO K B RX11 cX11_of 4) (hR : kR K = tRm 6 MC MS) (hG : tGr S) {n : Nat} (t0 : ty S 0 11) {k : Int32 → tHI → tHJ → Prop} (hQ : tRet K B (tQi B (tPi S k)) 0 0 (some .int)) {I : tHI} {J : tHJ} (h : F11_of_26 n S k I J) : tWG K B 0 0 S I J 26 [none, none, none, none] [] := by
  refine gBk (pe := 29) hO [oI (.sipush (-1000)) (-1000)] (by decide +kernel) (show tWG K B 0 0 S I J 29 [none, none, none, none] [vI (-1000)] from ?_)
  exact gIret hO hQ (by decide +kernel) ⟨rfl, h⟩
set_option maxRecDepth 20000 in
theorem hc11_of : tCV yX11_of cX11_of 4 (some .int) 2 := ⟨⟨(List.mem_of_getElem? (i := 376) rfl), (List.mem_of_getElem? (i := 2) (by decide +kernel)), by decide +kernel⟩, (List.mem_of_getElem? (i := 374) (by decide +kernel)), (List.mem_of_getElem? (i := 375) (by decide +kernel))⟩
set_option maxRecDepth 100000 in
theorem M11_of {l : Launch} {B : tB} {S : tSH} {I : tHI} {J : tHJ} {v1 : Int32} {v2 : Int32} {n : Nat} {k : Int32 → tHI → tHJ → Prop} (t0 : ty S 0 11) (h : F11_of n S I J v1 v2 k) : Met l yX11_of (tWs yX11_of cX11_of 4 (some .int)) (tRm 6 0 0) (tPc B [vR 0, vI v1, vI v2] S I J) (tQi B (tPi S k)) 0 0 (tA B) :=
  tEntry (by decide +kernel) [some (vR 0), some (vI v1), some (vI v2), none] rfl rfl (Nat.le_of_ble_eq_true rfl) (fun K hl hR hO hQ hG => by
  subst hl
  refine gBk (pe := 10) hO [o0 (.aload_n 0), oF (.getfield 12) 11 0 15 1, oF (.getfield 120) 8 0 242 2, o0 (.astore_n 3), o0 (.aload_n 3), o0 (.iload_n 1)] (by decide +kernel) (And.intro t0 (And.intro rfl (And.intro (tGr.off hG t0 (k := 0) rfl) (And.intro rfl (And.intro (Nat.le_of_ble_eq_true rfl) (show tWG K B 0 0 S I J 10 [some (vR 0), some (vI v1), some (vI v2), some (vR 2)] [vI v1, vR 2] from ?_))))))
  refine gCVi_z hO (M3_has (tGr.off hG (tGr.off hG t0 (k := 0) rfl) (k := 0) rfl)) hc3_has (idx := 136) (w := 381) (by decide +kernel) hR (by omega) (tGr.off hG (tGr.off hG t0 (k := 0) rfl) (k := 0) rfl) ⟨by decide, rfl⟩ (vs := [vI v1]) (st := []) ⟨rfl, Nat.le_of_ble_eq_true rfl, rfl⟩ (by decide +kernel) (fun z1 => ?_)
  refine gIfEq hO (off := 13) (tgt := 26) (by decide +kernel) (by decide) (fun c2 => ?_) (fun c2 => ?_)
  · have h := h.1 c2
    exact gWeak (L' := [none, none, none, none]) trivial (W11_of_26 hO hR hG t0 hQ h)
  · have h := h.2 c2
    refine gBk (pe := 20) hO [o0 (.iload_n 2), oI (.iconst 0) 0, oI (.bipush 7) 7] (by decide +kernel) (show tWG K B 0 0 S I J 20 [some (vR 0), some (vI v1), some (vI v2), some (vR 2)] [vI 7, vI 0, vI v2] from ?_)
    refine gCSi_z hO (M11_within) hc11_within (idx := 106) (w := 245) (by decide +kernel) hR (by omega) (vs := [vI v2, vI 0, vI 7]) (st := []) ⟨rfl, Nat.le_of_ble_eq_true rfl, rfl⟩ (by decide +kernel) (fun z3 => ?_)
    refine gIfNe hO (off := 7) (tgt := 30) (by decide +kernel) (by decide) (fun c4 => ?_) (fun c4 => ?_)
    · have h := h.1 c4
      refine gBk (pe := 31) hO [o0 (.iload_n 2)] (by decide +kernel) (show tWG K B 0 0 S I J 31 [some (vR 0), some (vI v1), some (vI v2), some (vR 2)] [vI v2] from ?_)
      by_cases c5 : v2 = 0
      · have h := h.1 c5
        refine gSwIn hO (dflt := 57) (lo := 0) (hi := 3) (offs := #[29, 36, 43, 50]) (len := 29) (off := 29) (tgt := 60) 0 c5 (by decide +kernel) (by decide +kernel) ?_
        refine gBk (pe := 66) hO [o0 (.aload_n 3), oF (.getfield 140) 3 1 377 3, o0 (.iload_n 1), o0 .iaload] (by decide +kernel) (And.intro (tGr.off hG (tGr.off hG t0 (k := 0) rfl) (k := 0) rfl) (And.intro rfl (And.intro (tGr.off hG (tGr.off hG (tGr.off hG t0 (k := 0) rfl) (k := 0) rfl) (k := 1) rfl) (And.intro (tin (tGr.len hG (tGr.off hG (tGr.off hG t0 (k := 0) rfl) (k := 0) rfl) (k := 1) rfl (by decide)) h.1) (show tWG K B 0 0 S I J 66 [some (vR 0), some (vI v1), some (vI v2), some (vR 2)] [vI (I 3 v1.toNatClampNeg)] from ?_)))))
        have h := h.2
        exact gIret hO hQ (by decide +kernel) ⟨rfl, h⟩
      have h := h.2
      by_cases c6 : v2 = 1
      · have h := h.1 c6
        refine gSwIn hO (dflt := 57) (lo := 0) (hi := 3) (offs := #[29, 36, 43, 50]) (len := 29) (off := 36) (tgt := 67) 1 c6 (by decide +kernel) (by decide +kernel) ?_
        refine gBk (pe := 73) hO [o0 (.aload_n 3), oF (.getfield 143) 3 2 378 4, o0 (.iload_n 1), o0 .iaload] (by decide +kernel) (And.intro (tGr.off hG (tGr.off hG t0 (k := 0) rfl) (k := 0) rfl) (And.intro rfl (And.intro (tGr.off hG (tGr.off hG (tGr.off hG t0 (k := 0) rfl) (k := 0) rfl) (k := 2) rfl) (And.intro (tin (tGr.len hG (tGr.off hG (tGr.off hG t0 (k := 0) rfl) (k := 0) rfl) (k := 2) rfl (by decide)) h.1) (show tWG K B 0 0 S I J 73 [some (vR 0), some (vI v1), some (vI v2), some (vR 2)] [vI (I 4 v1.toNatClampNeg)] from ?_)))))
        have h := h.2
        exact gIret hO hQ (by decide +kernel) ⟨rfl, h⟩
      have h := h.2
      by_cases c7 : v2 = 2
      · have h := h.1 c7
        refine gSwIn hO (dflt := 57) (lo := 0) (hi := 3) (offs := #[29, 36, 43, 50]) (len := 29) (off := 43) (tgt := 74) 2 c7 (by decide +kernel) (by decide +kernel) ?_
        refine gBk (pe := 80) hO [o0 (.aload_n 3), oF (.getfield 146) 3 3 379 5, o0 (.iload_n 1), o0 .iaload] (by decide +kernel) (And.intro (tGr.off hG (tGr.off hG t0 (k := 0) rfl) (k := 0) rfl) (And.intro rfl (And.intro (tGr.off hG (tGr.off hG (tGr.off hG t0 (k := 0) rfl) (k := 0) rfl) (k := 3) rfl) (And.intro (tin (tGr.len hG (tGr.off hG (tGr.off hG t0 (k := 0) rfl) (k := 0) rfl) (k := 3) rfl (by decide)) h.1) (show tWG K B 0 0 S I J 80 [some (vR 0), some (vI v1), some (vI v2), some (vR 2)] [vI (I 5 v1.toNatClampNeg)] from ?_)))))
        have h := h.2
        exact gIret hO hQ (by decide +kernel) ⟨rfl, h⟩
      have h := h.2
      by_cases c8 : v2 = 3
      · have h := h.1 c8
        refine gSwIn hO (dflt := 57) (lo := 0) (hi := 3) (offs := #[29, 36, 43, 50]) (len := 29) (off := 50) (tgt := 81) 3 c8 (by decide +kernel) (by decide +kernel) ?_
        refine gBk (pe := 87) hO [o0 (.aload_n 3), oF (.getfield 149) 3 4 380 6, o0 (.iload_n 1), o0 .iaload] (by decide +kernel) (And.intro (tGr.off hG (tGr.off hG t0 (k := 0) rfl) (k := 0) rfl) (And.intro rfl (And.intro (tGr.off hG (tGr.off hG (tGr.off hG t0 (k := 0) rfl) (k := 0) rfl) (k := 4) rfl) (And.intro (tin (tGr.len hG (tGr.off hG (tGr.off hG t0 (k := 0) rfl) (k := 0) rfl) (k := 4) rfl (by decide)) h.1) (show tWG K B 0 0 S I J 87 [some (vR 0), some (vI v1), some (vI v2), some (vR 2)] [vI (I 6 v1.toNatClampNeg)] from ?_)))))
        have h := h.2
        exact gIret hO hQ (by decide +kernel) ⟨rfl, h⟩
      have h := h.2
      have hsw : swN 0 v2 4 := ⟨⟨⟨⟨True.intro, c5⟩, c6⟩, c7⟩, c8⟩
      have h := h hsw
      refine gSwOut hO (dflt := 57) (lo := 0) (hi := 3) (offs := #[29, 36, 43, 50]) (len := 29) (tgt := 88) (by decide +kernel) (sw_out (by decide) (by decide) hsw) (by decide) ?_
      refine gBk (pe := 92) hO [o0 (.aload_n 0), oF (.getfield 59) 11 8 38 48] (by decide +kernel) (And.intro t0 (And.intro rfl (show tWG K B 0 0 S I J 92 [some (vR 0), some (vI v1), some (vI v2), some (vR 2)] [vR 48] from ?_)))
      refine gCVv_c hO (M2_asItStands (tGr.off hG t0 (k := 8) rfl) h) hc2_asItStands (idx := 114) (w := 255) (by decide +kernel) hR (by omega) (tGr.off hG t0 (k := 8) rfl) ⟨by decide, rfl⟩ (vs := []) (st := []) ⟨rfl, Nat.le_of_ble_eq_true rfl, rfl⟩ (by decide +kernel) (fun I9 J10 h => ?_)
      refine gBk (pe := 114) hO [o0 (.aload_n 0), oF (.getfield 59) 11 8 38 48, o0 (.aload_n 3), oF (.getfield 140) 3 1 377 3, o0 (.iload_n 1), o0 .iaload, o0 (.iload_n 2), oI (.iconst 4) 4, o0 .isub, o0 (.aload_n 3), oF (.getfield 146) 3 3 379 5, o0 (.iload_n 1), o0 .iaload] (by decide +kernel) (And.intro t0 (And.intro rfl (And.intro (tGr.off hG (tGr.off hG t0 (k := 0) rfl) (k := 0) rfl) (And.intro rfl (And.intro (tGr.off hG (tGr.off hG (tGr.off hG t0 (k := 0) rfl) (k := 0) rfl) (k := 1) rfl) (And.intro (tin (tGr.len hG (tGr.off hG (tGr.off hG t0 (k := 0) rfl) (k := 0) rfl) (k := 1) rfl (by decide)) h.1) (And.intro (tGr.off hG (tGr.off hG t0 (k := 0) rfl) (k := 0) rfl) (And.intro rfl (And.intro (tGr.off hG (tGr.off hG (tGr.off hG t0 (k := 0) rfl) (k := 0) rfl) (k := 3) rfl) (And.intro (tin (tGr.len hG (tGr.off hG (tGr.off hG t0 (k := 0) rfl) (k := 0) rfl) (k := 3) rfl (by decide)) h.2.1) (show tWG K B 0 0 S I9 J10 114 [some (vR 0), some (vI v1), some (vI v2), some (vR 2)] [vI (I9 5 v1.toNatClampNeg), vI (v2 - 4), vI (I9 3 v1.toNatClampNeg), vR 48] from ?_)))))))))))
      have h := h.2.2
      refine gCVi_b hO (M2_barred (tGr.off hG t0 (k := 8) rfl) h) hc2_barred (idx := 117) (w := 273) (by decide +kernel) hR (by omega) (tGr.off hG t0 (k := 8) rfl) ⟨by decide, rfl⟩ (vs := [vI (I9 3 v1.toNatClampNeg), vI (v2 - 4), vI (I9 5 v1.toNatClampNeg)]) (st := []) ⟨rfl, Nat.le_of_ble_eq_true rfl, rfl⟩ (by decide +kernel) (fun x13 I11 J12 z14 h => ?_)
      have h := h z14
      have hj15 : ∀ (m16 : Int32), m16 = (if x13 = 0 then (0 : Int32) else 1) → tWG K B 0 0 S I11 J12 125 [none, none, none, none] [vI m16] := by
        intro m16 em16
        subst em16
        exact gIret hO hQ (by decide +kernel) ⟨rfl, h⟩
      refine gIfEq hO (off := 7) (tgt := 124) (by decide +kernel) (by decide) (fun c17 => ?_) (fun c17 => ?_)
      · refine gBk (pe := 125) hO [oI (.iconst 0) 0] (by decide +kernel) (show tWG K B 0 0 S I11 J12 125 [some (vR 0), some (vI v1), some (vI v2), some (vR 2)] [vI 0] from ?_)
        exact gWeak (L' := [none, none, none, none]) trivial (hj15 _ (Eq.symm (if_pos c17)))
      · refine gBk (pe := 125) hO [oI (.iconst 1) 1, o0 (.goto 4)] (by decide +kernel) (show tWG K B 0 0 S I11 J12 125 [some (vR 0), some (vI v1), some (vI v2), some (vR 2)] [vI 1] from ?_)
        exact gWeak (L' := [none, none, none, none]) trivial (hj15 _ (Eq.symm (if_neg c17)))
    · have h := h.2 c4
      exact gWeak (L' := [none, none, none, none]) trivial (W11_of_26 hO hR hG t0 hQ h))
