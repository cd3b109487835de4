def F4_read_100 (n : Nat) (S : tSH) (k : Int32 → tHI → tHJ → Prop) (I : tHI) (J : tHJ) : Prop := k (if (I 40 1) = (-1) then (1 : Int32) else 0) I J
def F4_read_89 (n : Nat) (S : tSH) (k : Int32 → tHI → tHJ → Prop) (I : tHI) (J : tHJ) : Prop := (((I 40 6) = 0 → F4_read_100 n S k I J) ∧ (¬ (I 40 6) = 0 → F4_fail n S I J (fun I12 J13 => F4_read_100 n S k I12 J13)))
def F4_read_83 (n : Nat) (S : tSH) (k : Int32 → tHI → tHJ → Prop) (kb47 : tHI → tHJ → Int32 → Prop) (I : tHI) (J : tHJ) (v3 : Int32) : Prop := kb47 I J (v3 + 1)
def F4_read_47 (n : Nat) (S : tSH) (k : Int32 → tHI → tHJ → Prop) (kb47 : tHI → tHJ → Int32 → Prop) (I : tHI) (J : tHJ) (v3 : Int32) : Prop := ((12 < v3 → F4_read_89 n S k I J) ∧ (¬ 12 < v3 → F4_isSign n S I J 59 (fun x16 I14 J15 => bz x16 → ((x16 = 0 → F4_read_89 n S k I14 J15) ∧ (¬ x16 = 0 → F4_advance n S I14 J15 (fun I19 J20 => ((¬ v3 = 12 → F4_readClause n S I19 J20 (fun I22 J23 => F4_read_83 n S k kb47 I22 J23 v3)) ∧ (v3 = 12 → F4_fail n S I19 J20 (fun I24 J25 => F4_read_83 n S k kb47 I24 J25 v3)))))))))
def F4_read_L47 (n : Nat) (S : tSH) (k : Int32 → tHI → tHJ → Prop) : Nat → tHI → tHJ → Int32 → Prop
  | 0, _, _, _ => False
  | f + 1, I, J, v3 => F4_read_47 n S k (F4_read_L47 n S k f) I J v3
def F4_read_5 (n : Nat) (S : tSH) (k : Int32 → tHI → tHJ → Prop) (I : tHI) (J : tHJ) (v2 : Int32) : Prop := bz v2 ∧ F6_restart n S (uI (uI (uI (uI (uI I 40 3 v2) 40 1 (-1)) 40 6 0) 40 4 0) 40 8 0) J 41 (fun I1 J2 => F4_advance n S I1 J2 (fun I3 J4 => F4_readClause n S I3 J4 (fun I5 J6 => F4_read_L47 n S k n I5 J6 1)))
def F4_read (n : Nat) (S : tSH) (I : tHI) (J : tHJ) (a1 : Nat) (v2 : Int32) (k : Int32 → tHI → tHJ → Prop) : Prop := F4_read_5 n (uQ S 40 2 (some a1)) k I J v2
set_option maxRecDepth 100000 in
theorem W4_read_100 {K : tK} {B : tB} {S : tSH} {MC MS : Nat} (hO : tKO K B RX4 cX4_read 4) (hR : kR K = tRm 82 MC MS) (hG : tGr S) {n : Nat} (t0 : ty S 40 4) {k : Int32 → tHI → tHJ → Prop} (hQ : tRet K B (tQi B (tPb S k)) 0 0 (some .boolean)) {I : tHI} {J : tHJ} (h : F4_read_100 n S k I J) : tWG K B 0 0 S I J 100 [some (vR 40), none, none, none] [] := by
  refine gBk (pe := 105) hO [o0 (.aload_n 0), oF (.getfield 20) 4 1 122 0, oI (.iconst (-1)) (-1)] (by decide +kernel) (And.intro t0 (show tWG K B 0 0 S I J 105 [some (vR 40), none, none, none] [vI (-1), vI (I 40 1)] from ?_))
  have hj9 : ∀ (m10 : Int32), m10 = (if (I 40 1) = (-1) then (1 : Int32) else 0) → tWG K B 0 0 S I J 113 [none, none, none, none] [vI m10] := by
    intro m10 em10
    subst em10
    exact gZret hO hQ (by decide +kernel) (bz_if (Or.inr rfl) (Or.inl rfl)) ⟨rfl, (bz_if (Or.inr rfl) (Or.inl rfl)), h⟩
  refine gIcNe hO (off := 7) (tgt := 112) (by decide +kernel) (by decide) (fun c11 => ?_) (fun c11 => ?_)
  · refine gBk (pe := 113) hO [oI (.iconst 0) 0] (by decide +kernel) (show tWG K B 0 0 S I J 113 [some (vR 40), none, none, none] [vI 0] from ?_)
    exact gWeak (L' := [none, none, none, none]) trivial (hj9 _ (Eq.symm (if_neg c11)))
  · refine gBk (pe := 113) hO [oI (.iconst 1) 1, o0 (.goto 4)] (by decide +kernel) (show tWG K B 0 0 S I J 113 [some (vR 40), none, none, none] [vI 1] from ?_)
    exact gWeak (L' := [none, none, none, none]) trivial (hj9 _ (Eq.symm (if_pos c11)))
set_option maxRecDepth 100000 in
theorem W4_read_89 {K : tK} {B : tB} {S : tSH} {MC MS : Nat} (hO : tKO K B RX4 cX4_read 4) (hR : kR K = tRm 82 MC MS) (hG : tGr S) {n : Nat} (t0 : ty S 40 4) {k : Int32 → tHI → tHJ → Prop} (hQ : tRet K B (tQi B (tPb S k)) 0 0 (some .boolean)) {I : tHI} {J : tHJ} (h : F4_read_89 n S k I J) : tWG K B 0 0 S I J 89 [some (vR 40), none, none, none] [] := by
  refine gBk (pe := 93) hO [o0 (.aload_n 0), oF (.getfield 38) 4 6 127 0] (by decide +kernel) (And.intro t0 (show tWG K B 0 0 S I J 93 [some (vR 40), none, none, none] [vI (I 40 6)] from ?_))
  refine gIfEq hO (off := 7) (tgt := 100) (by decide +kernel) (by decide) (fun c8 => ?_) (fun c8 => ?_)
  · have h := h.1 c8
    exact W4_read_100 hO hR hG t0 hQ h
  · have h := h.2 c8
    refine gBk (pe := 97) hO [o0 (.aload_n 0)] (by decide +kernel) (show tWG K B 0 0 S I J 97 [some (vR 40), none, none, none] [vR 40] from ?_)
    refine gCVv_c hO (M4_fail t0 h) hc4_fail (idx := 60) (w := 687) (by decide +kernel) hR (by omega) t0 ⟨by decide, rfl⟩ (vs := []) (st := []) ⟨rfl, Nat.le_of_ble_eq_true rfl, rfl⟩ (by decide +kernel) (fun I12 J13 h => ?_)
    exact W4_read_100 hO hR hG t0 hQ h
set_option maxRecDepth 100000 in
theorem W4_read_83 {K : tK} {B : tB} {S : tSH} {MC MS : Nat} (hO : tKO K B RX4 cX4_read 4) (hR : kR K = tRm 82 MC MS) (hG : tGr S) {n : Nat} (t0 : ty S 40 4) {k : Int32 → tHI → tHJ → Prop} (hQ : tRet K B (tQi B (tPb S k)) 0 0 (some .boolean)) {kb47 : tHI → tHJ → Int32 → Prop} (hkb47 : ∀ (I : tHI) (J : tHJ) (v3 : Int32), kb47 I J v3 → tWG K B 0 0 S I J 47 [some (vR 40), none, none, some (vI v3)] []) {I : tHI} {J : tHJ} {v3 : Int32} (h : F4_read_83 n S k kb47 I J v3) : tWG K B 0 0 S I J 83 [some (vR 40), none, none, some (vI v3)] [] := by
  refine gBk (pe := 47) hO [oI (.iinc 3 1) 1, o0 (.goto (-39))] (by decide +kernel) (show tWG K B 0 0 S I J 47 [some (vR 40), none, none, some (vI (v3 + 1))] [] from ?_)
  exact hkb47 _ _ _ h
set_option maxRecDepth 100000 in
theorem W4_read_47 {K : tK} {B : tB} {S : tSH} {MC MS : Nat} (hO : tKO K B RX4 cX4_read 4) (hR : kR K = tRm 82 MC MS) (hG : tGr S) {n : Nat} (t0 : ty S 40 4) {k : Int32 → tHI → tHJ → Prop} (hQ : tRet K B (tQi B (tPb S k)) 0 0 (some .boolean)) {kb47 : tHI → tHJ → Int32 → Prop} (hkb47 : ∀ (I : tHI) (J : tHJ) (v3 : Int32), kb47 I J v3 → tWG K B 0 0 S I J 47 [some (vR 40), none, none, some (vI v3)] []) {I : tHI} {J : tHJ} {v3 : Int32} (h : F4_read_47 n S k kb47 I J v3) : tWG K B 0 0 S I J 47 [some (vR 40), none, none, some (vI v3)] [] := by
  refine gBk (pe := 50) hO [o0 (.iload_n 3), oI (.bipush 12) 12] (by decide +kernel) (show tWG K B 0 0 S I J 50 [some (vR 40), none, none, some (vI v3)] [vI 12, vI v3] from ?_)
  refine gIcGt hO (off := 39) (tgt := 89) (by decide +kernel) (by decide) (fun c7 => ?_) (fun c7 => ?_)
  · have h := h.1 c7
    exact gWeak (L' := [some (vR 40), none, none, none]) ⟨rfl, trivial⟩ (W4_read_89 hO hR hG t0 hQ h)
  · have h := h.2 c7
    refine gBk (pe := 56) hO [o0 (.aload_n 0), oI (.bipush 59) 59] (by decide +kernel) (show tWG K B 0 0 S I J 56 [some (vR 40), none, none, some (vI v3)] [vI 59, vR 40] from ?_)
    refine gCVi_b hO (M4_isSign t0 h) hc4_isSign (idx := 56) (w := 702) (by decide +kernel) hR (by omega) t0 ⟨by decide, rfl⟩ (vs := [vI 59]) (st := []) ⟨rfl, Nat.le_of_ble_eq_true rfl, rfl⟩ (by decide +kernel) (fun x16 I14 J15 z17 h => ?_)
    have h := h z17
    refine gIfEq hO (off := 30) (tgt := 89) (by decide +kernel) (by decide) (fun c18 => ?_) (fun c18 => ?_)
    · have h := h.1 c18
      exact gWeak (L' := [some (vR 40), none, none, none]) ⟨rfl, trivial⟩ (W4_read_89 hO hR hG t0 hQ h)
    · have h := h.2 c18
      refine gBk (pe := 63) hO [o0 (.aload_n 0)] (by decide +kernel) (show tWG K B 0 0 S I14 J15 63 [some (vR 40), none, none, some (vI v3)] [vR 40] from ?_)
      refine gCVv_c hO (M4_advance t0 h) hc4_advance (idx := 50) (w := 620) (by decide +kernel) hR (by omega) t0 ⟨by decide, rfl⟩ (vs := []) (st := []) ⟨rfl, Nat.le_of_ble_eq_true rfl, rfl⟩ (by decide +kernel) (fun I19 J20 h => ?_)
      refine gBk (pe := 69) hO [o0 (.iload_n 3), oI (.bipush 12) 12] (by decide +kernel) (show tWG K B 0 0 S I19 J20 69 [some (vR 40), none, none, some (vI v3)] [vI 12, vI v3] from ?_)
      refine gIcNe hO (off := 10) (tgt := 79) (by decide +kernel) (by decide) (fun c21 => ?_) (fun c21 => ?_)
      · have h := h.1 c21
        refine gBk (pe := 80) hO [o0 (.aload_n 0)] (by decide +kernel) (show tWG K B 0 0 S I19 J20 80 [some (vR 40), none, none, some (vI v3)] [vR 40] from ?_)
        refine gCVv_c hO (M4_readClause t0 h) hc4_readClause (idx := 53) (w := 630) (by decide +kernel) hR (by omega) t0 ⟨by decide, rfl⟩ (vs := []) (st := []) ⟨rfl, Nat.le_of_ble_eq_true rfl, rfl⟩ (by decide +kernel) (fun I22 J23 h => ?_)
        exact W4_read_83 hO hR hG t0 hQ hkb47 h
      · have h := h.2 c21
        refine gBk (pe := 73) hO [o0 (.aload_n 0)] (by decide +kernel) (show tWG K B 0 0 S I19 J20 73 [some (vR 40), none, none, some (vI v3)] [vR 40] from ?_)
        refine gCVv_c hO (M4_fail t0 h) hc4_fail (idx := 60) (w := 687) (by decide +kernel) hR (by omega) t0 ⟨by decide, rfl⟩ (vs := []) (st := []) ⟨rfl, Nat.le_of_ble_eq_true rfl, rfl⟩ (by decide +kernel) (fun I24 J25 h => ?_)
        refine gBk (pe := 83) hO [o0 (.goto 7)] (by decide +kernel) (show tWG K B 0 0 S I24 J25 83 [some (vR 40), none, none, some (vI v3)] [] from ?_)
        exact W4_read_83 hO hR hG t0 hQ hkb47 h
theorem W4_read_L47 {K : tK} {B : tB} {S : tSH} {MC MS : Nat} (hO : tKO K B RX4 cX4_read 4) (hR : kR K = tRm 82 MC MS) (hG : tGr S) {n : Nat} (t0 : ty S 40 4) {k : Int32 → tHI → tHJ → Prop} (hQ : tRet K B (tQi B (tPb S k)) 0 0 (some .boolean)) : ∀ (f : Nat) (I : tHI) (J : tHJ) (v3 : Int32), F4_read_L47 n S k f I J v3 → tWG K B 0 0 S I J 47 [some (vR 40), none, none, some (vI v3)] [] := by
  intro f
  induction f with
  | zero => intro I J v3 h; exact h.elim
  | succ f ih => intro I J v3 h; exact W4_read_47 hO hR hG t0 hQ ih h
set_option maxRecDepth 100000 in
theorem W4_read_5 {K : tK} {B : tB} {S : tSH} {MC MS : Nat} (hO : tKO K B RX4 cX4_read 4) (hR : kR K = tRm 82 MC MS) (hG : tGr S) {n : Nat} (t0 : ty S 40 4) {k : Int32 → tHI → tHJ → Prop} (hQ : tRet K B (tQi B (tPb S k)) 0 0 (some .boolean)) {I : tHI} {J : tHJ} {v2 : Int32} (h : F4_read_5 n S k I J v2) : tWG K B 0 0 S I J 5 [some (vR 40), none, some (vI v2), none] [] := by
  refine gBk (pe := 34) hO [o0 (.aload_n 0), o0 (.iload_n 2), oF (.putfield 28) 4 3 124 0, o0 (.aload_n 0), oI (.iconst (-1)) (-1), oF (.putfield 20) 4 1 122 0, o0 (.aload_n 0), oI (.iconst 0) 0, oF (.putfield 38) 4 6 127 0, o0 (.aload_n 0), oI (.iconst 0) 0, oF (.putfield 32) 4 4 125 0, o0 (.aload_n 0), oI (.iconst 0) 0, oF (.putfield 44) 4 8 129 0, o0 (.aload_n 0), oF (.getfield 14) 4 0 121 41] (by decide +kernel) (And.intro t0 (And.intro h.1 (And.intro t0 (And.intro t0 (And.intro t0 (And.intro t0 (And.intro t0 (And.intro rfl (show tWG K B 0 0 S (uI (uI (uI (uI (uI I 40 3 v2) 40 1 (-1)) 40 6 0) 40 4 0) 40 8 0) J 34 [some (vR 40), none, some (vI v2), none] [vR 41] from ?_)))))))))
  have h := h.2
  refine gCVv_c hO (M6_restart (tGr.off hG t0 (k := 0) rfl) h) hc6_restart (idx := 47) (w := 616) (by decide +kernel) hR (by omega) (tGr.off hG t0 (k := 0) rfl) ⟨by decide, rfl⟩ (vs := []) (st := []) ⟨rfl, Nat.le_of_ble_eq_true rfl, rfl⟩ (by decide +kernel) (fun I1 J2 h => ?_)
  refine gBk (pe := 38) hO [o0 (.aload_n 0)] (by decide +kernel) (show tWG K B 0 0 S I1 J2 38 [some (vR 40), none, some (vI v2), none] [vR 40] from ?_)
  refine gCVv_c hO (M4_advance t0 h) hc4_advance (idx := 50) (w := 620) (by decide +kernel) hR (by omega) t0 ⟨by decide, rfl⟩ (vs := []) (st := []) ⟨rfl, Nat.le_of_ble_eq_true rfl, rfl⟩ (by decide +kernel) (fun I3 J4 h => ?_)
  refine gBk (pe := 42) hO [o0 (.aload_n 0)] (by decide +kernel) (show tWG K B 0 0 S I3 J4 42 [some (vR 40), none, some (vI v2), none] [vR 40] from ?_)
  refine gCVv_c hO (M4_readClause t0 h) hc4_readClause (idx := 53) (w := 630) (by decide +kernel) hR (by omega) t0 ⟨by decide, rfl⟩ (vs := []) (st := []) ⟨rfl, Nat.le_of_ble_eq_true rfl, rfl⟩ (by decide +kernel) (fun I5 J6 h => ?_)
  refine gBk (pe := 47) hO [oI (.iconst 1) 1, o0 (.istore_n 3)] (by decide +kernel) (And.intro (Nat.le_of_ble_eq_true rfl) (show tWG K B 0 0 S I5 J6 47 [some (vR 40), none, some (vI v2), some (vI 1)] [] from ?_))
  exact gWeak (L' := [some (vR 40), none, none, some (vI 1)]) ⟨rfl, rfl, trivial⟩ (W4_read_L47 hO hR hG t0 hQ n _ _ _ h)
set_option maxRecDepth 20000 in
theorem hc4_read : tCV yX4_read cX4_read 4 (some .boolean) 2 := ⟨⟨(List.mem_of_getElem? (i := 615) rfl), (List.mem_of_getElem? (i := 29) (by decide +kernel)), by decide +kernel⟩, (List.mem_of_getElem? (i := 613) (by decide +kernel)), (List.mem_of_getElem? (i := 614) (by decide +kernel))⟩
set_option maxRecDepth 100000 in
theorem M4_read {l : Launch} {B : tB} {S : tSH} {I : tHI} {J : tHJ} {a1 : Nat} {v2 : Int32} {n : Nat} {k : Int32 → tHI → tHJ → Prop} (t0 : ty S 40 4) (t1 : ty S a1 9) (h : F4_read n S I J a1 v2 k) : Met l yX4_read (tWs yX4_read cX4_read 4 (some .boolean)) (tRm 82 0 0) (tPc B [vR 40, vR a1, vI v2] S I J) (tQi B (tPb (uQ S 40 2 (some a1)) k)) 0 0 (tA B) :=
  tEntry (by decide +kernel) [some (vR 40), some (vR a1), some (vI v2), none] rfl rfl (Nat.le_of_ble_eq_true rfl) (fun K hl hR hO hQ hG => by
  subst hl
  refine gBk (pe := 2) hO [o0 (.aload_n 0), o0 (.aload_n 1)] (by decide +kernel) (show tWG K B 0 0 S I J 2 [some (vR 40), some (vR a1), some (vI v2), none] [vR a1, vR 40] from ?_)
  have hG2 : tGr (uQ S 40 2 (some a1)) := tGr_uQ hG (fun t ht x hx => by
    have e : t = 4 := ht.2.symm.trans t0.2
    cases hx
    exact ⟨fun _ _ => by subst e; exact t1, fun q => by omega, fun q => by omega⟩)
  refine s_putq hO t0 (k := 2) (i := 123) (x := 24) (Nat.le_of_ble_eq_true rfl) (by decide +kernel) (by decide +kernel) (by decide +kernel) (ft := tTy 4 2) (by decide +kernel) (by decide +kernel) hG2 (by decide +kernel) ?_
  replace hG := hG2
  replace t0 : ty (uQ S 40 2 (some a1)) 40 4 := t0
  exact gWeak (L' := [some (vR 40), none, some (vI v2), none]) ⟨rfl, rfl, trivial⟩ (W4_read_5 hO hR hG t0 hQ h))
