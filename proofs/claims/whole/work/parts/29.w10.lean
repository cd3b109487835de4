set_option maxRecDepth 100000 in
theorem W5_quickAsTried_22 {K : tK} {B : tB} {S : tSH} {MC MS : Nat} (hO : tKO K B RX5 cX5_quickAsTried 3) (hR : kR K = tRm 7 MC MS) (hG : tGr S) {n : Nat} (t0 : ty S 51 5) {k : Int32 → tHI → tHJ → Prop} (hQ : tRet K B (tQi B (tPi S k)) 0 0 (some .int)) {I : tHI} {J : tHJ} (h : F5_quickAsTried_22 n S k I J) : tWG K B 0 0 S I J 22 [none, none, none] [] := by
  refine gBk (pe := 23) hO [oI (.iconst 0) 0] (by decide +kernel) (show tWG K B 0 0 S I J 23 [none, none, none] [vI 0] from ?_)
  exact gIret hO hQ (by decide +kernel) ⟨rfl, h⟩
set_option maxRecDepth 100000 in
theorem W5_quickAsTried_61 {K : tK} {B : tB} {S : tSH} {MC MS : Nat} (hO : tKO K B RX5 cX5_quickAsTried 3) (hR : kR K = tRm 7 MC MS) (hG : tGr S) {n : Nat} (t0 : ty S 51 5) {k : Int32 → tHI → tHJ → Prop} (hQ : tRet K B (tQi B (tPi S k)) 0 0 (some .int)) {I : tHI} {J : tHJ} {v2 : Int32} (h : F5_quickAsTried_61 n S k I J v2) : tWG K B 0 0 S I J 61 [some (vR 51), none, some (vI v2)] [] := by
  refine gBk (pe := 67) hO [o0 (.aload_n 0), oF (.getfield 21) 5 5 168 55, o0 (.iload_n 2), o0 .iaload] (by decide +kernel) (And.intro t0 (And.intro rfl (And.intro (tGr.off hG t0 (k := 5) rfl) (And.intro (tin (tGr.len hG t0 (k := 5) rfl (by decide)) h.1) (show tWG K B 0 0 S I J 67 [some (vR 51), none, some (vI v2)] [vI (I 55 v2.toNatClampNeg)] from ?_)))))
  have h := h.2
  exact gIret hO hQ (by decide +kernel) ⟨rfl, h⟩
set_option maxRecDepth 20000 in
theorem hc5_quickAsTried : tCV yX5_quickAsTried cX5_quickAsTried 3 (some .int) 1 := ⟨⟨(List.mem_of_getElem? (i := 1289) rfl), (List.mem_of_getElem? (i := 41) (by decide +kernel)), by decide +kernel⟩, (List.mem_of_getElem? (i := 1287) (by decide +kernel)), (List.mem_of_getElem? (i := 1288) (by decide +kernel))⟩
set_option maxRecDepth 100000 in
theorem M5_quickAsTried {l : Launch} {B : tB} {S : tSH} {I : tHI} {J : tHJ} {v1 : Int32} {n : Nat} {k : Int32 → tHI → tHJ → Prop} (t0 : ty S 51 5) (h : F5_quickAsTried n S I J v1 k) : Met l yX5_quickAsTried (tWs yX5_quickAsTried cX5_quickAsTried 3 (some .int)) (tRm 7 0 0) (tPc B [vR 51, vI v1] S I J) (tQi B (tPi S k)) 0 0 (tA B) :=
  tEntry (by decide +kernel) [some (vR 51), some (vI v1), none] rfl rfl (Nat.le_of_ble_eq_true rfl) (fun K hl hR hO hQ hG => by
  subst hl
  refine gBk (pe := 10) hO [o0 (.aload_n 0), oF (.getfield 30) 5 8 171 0, oI (.sipush 2400) 2400, o0 .iadd, o0 (.istore_n 2), o0 (.iload_n 2)] (by decide +kernel) (And.intro t0 (And.intro (Nat.le_of_ble_eq_true rfl) (show tWG K B 0 0 S I J 10 [some (vR 51), some (vI v1), some (vI ((I 51 8) + 2400))] [vI ((I 51 8) + 2400)] from ?_)))
  refine gIfLt hO (off := 12) (tgt := 22) (by decide +kernel) (by decide) (fun c1 => ?_) (fun c1 => ?_)
  · have h := h.1 c1
    exact gWeak (L' := [none, none, none]) trivial (W5_quickAsTried_22 hO hR hG t0 hQ h)
  · have h := h.2 c1
    refine gBk (pe := 19) hO [o0 (.iload_n 2), o0 (.aload_n 0), oF (.getfield 21) 5 5 168 55, oF .arraylength 40 0 0 0] (by decide +kernel) (And.intro t0 (And.intro rfl (And.intro (tGr.off hG t0 (k := 5) rfl) (show tWG K B 0 0 S I J 19 [some (vR 51), some (vI v1), some (vI ((I 51 8) + 2400))] [vI (Int32.ofNat (sL S 55)), vI ((I 51 8) + 2400)] from ?_))))
    refine gIcLt hO (off := 5) (tgt := 24) (by decide +kernel) (by decide) (fun c2 => ?_) (fun c2 => ?_)
    · have h := h.1 c2
      refine gBk (pe := 31) hO [o0 (.aload_n 0), oF (.getfield 21) 5 5 168 55, o0 (.iload_n 2), o0 .iaload, oI (.iconst (-1)) (-1)] (by decide +kernel) (And.intro t0 (And.intro rfl (And.intro (tGr.off hG t0 (k := 5) rfl) (And.intro (tin (tGr.len hG t0 (k := 5) rfl (by decide)) h.1) (show tWG K B 0 0 S I J 31 [some (vR 51), some (vI v1), some (vI ((I 51 8) + 2400))] [vI (-1), vI (I 55 ((I 51 8) + 2400).toNatClampNeg)] from ?_)))))
      have h := h.2
      refine gIcNe hO (off := 30) (tgt := 61) (by decide +kernel) (by decide) (fun c3 => ?_) (fun c3 => ?_)
      · have h := h.1 c3
        exact gWeak (L' := [some (vR 51), none, some (vI ((I 51 8) + 2400))]) ⟨rfl, rfl, trivial⟩ (W5_quickAsTried_61 hO hR hG t0 hQ h)
      · have h := h.2 c3
        refine gBk (pe := 57) hO [o0 (.aload_n 0), oF (.getfield 38) 5 1 173 48, oF (.getfield 139) 2 0 1290 49, oI (.iconst 5) 5, o0 (.aload_n 0), oF (.getfield 30) 5 8 171 0, o0 .iastore, o0 (.aload_n 0), oF (.getfield 21) 5 5 168 55, o0 (.iload_n 2), o0 (.aload_n 0), oF (.getfield 38) 5 1 173 48, o0 (.iload_n 1)] (by decide +kernel) (And.intro t0 (And.intro rfl (And.intro (tGr.abs hG t0 (k := 1) rfl) (And.intro rfl (And.intro t0 (And.intro (tGr.off hG (tGr.abs hG t0 (k := 1) rfl) (k := 0) rfl) (And.intro (tin (tGr.len hG (tGr.abs hG t0 (k := 1) rfl) (k := 0) rfl (by decide)) (tvi (by decide +kernel))) (And.intro t0 (And.intro rfl (And.intro t0 (And.intro rfl (show tWG K B 0 0 S (uI I 49 5 (I 51 8)) J 57 [some (vR 51), some (vI v1), some (vI ((I 51 8) + 2400))] [vI v1, vR 48, vI ((I 51 8) + 2400), vR 55] from ?_))))))))))))
        refine gCVi_c hO (M2_quickest (tGr.abs hG t0 (k := 1) rfl) h) hc2_quickest (idx := 59) (w := 1204) (by decide +kernel) hR (by omega) (tGr.abs hG t0 (k := 1) rfl) ⟨by decide, rfl⟩ (vs := [vI v1]) (st := [vI ((I 51 8) + 2400), vR 55]) ⟨rfl, Nat.le_of_ble_eq_true rfl, rfl⟩ (by decide +kernel) (fun x6 I4 J5 h => ?_)
        refine gBk (pe := 61) hO [o0 .iastore] (by decide +kernel) (And.intro (tGr.off hG t0 (k := 5) rfl) (And.intro (tin (tGr.len hG t0 (k := 5) rfl (by decide)) h.1) (show tWG K B 0 0 S (uI I4 55 ((I 51 8) + 2400).toNatClampNeg x6) J5 61 [some (vR 51), some (vI v1), some (vI ((I 51 8) + 2400))] [] from ?_)))
        have h := h.2
        exact gWeak (L' := [some (vR 51), none, some (vI ((I 51 8) + 2400))]) ⟨rfl, rfl, trivial⟩ (W5_quickAsTried_61 hO hR hG t0 hQ h)
    · have h := h.2 c2
      exact gWeak (L' := [none, none, none]) trivial (W5_quickAsTried_22 hO hR hG t0 hQ h))
set_option maxRecDepth 100000 in
theorem W5_tryChair_166 {K : tK} {B : tB} {S : tSH} {MC MS : Nat} (hO : tKO K B RX5 cX5_tryChair 10) (hR : kR K = tRm 6 MC MS) (hG : tGr S) {n : Nat} (t0 : ty S 51 5) {k : Int32 → tHI → tHJ → Prop} (hQ : tRet K B (tQi B (tPb S k)) 0 0 (some .boolean)) {I : tHI} {J : tHJ} {v3 : Int32} {v4 : Int32} (h : F5_tryChair_166 n S k I J v3 v4) : tWG K B 0 0 S I J 166 [some (vR 51), none, none, some (vI v3), some (vI v4), none, none, none, none, none] [] := by
  refine gBk (pe := 188) hO [o0 (.aload_n 0), oF (.getfield 38) 5 1 173 48, oF (.getfield 139) 2 0 1290 49, oI (.iconst 3) 3, o0 (.iload_n 3), o0 .iastore, o0 (.aload_n 0), oF (.getfield 38) 5 1 173 48, oF (.getfield 139) 2 0 1290 49, oI (.iconst 4) 4, o0 (.iload 4), o0 .iastore, oI (.iconst 1) 1] (by decide +kernel) (And.intro t0 (And.intro rfl (And.intro (tGr.abs hG t0 (k := 1) rfl) (And.intro rfl (And.intro (tGr.off hG (tGr.abs hG t0 (k := 1) rfl) (k := 0) rfl) (And.intro (tin (tGr.len hG (tGr.abs hG t0 (k := 1) rfl) (k := 0) rfl (by decide)) (tvi (by decide +kernel))) (And.intro t0 (And.intro rfl (And.intro (tGr.abs hG t0 (k := 1) rfl) (And.intro rfl (And.intro (tGr.off hG (tGr.abs hG t0 (k := 1) rfl) (k := 0) rfl) (And.intro (tin (tGr.len hG (tGr.abs hG t0 (k := 1) rfl) (k := 0) rfl (by decide)) (tvi (by decide +kernel))) (show tWG K B 0 0 S (uI (uI I 49 3 v3) 49 4 v4) J 188 [some (vR 51), none, none, some (vI v3), some (vI v4), none, none, none, none, none] [vI 1] from ?_)))))))))))))
  exact gZret hO hQ (by decide +kernel) (Or.inr rfl) ⟨rfl, (Or.inr rfl), h⟩
set_option maxRecDepth 100000 in
theorem W5_tryChair_121 {K : tK} {B : tB} {S : tSH} {MC MS : Nat} (hO : tKO K B RX5 cX5_tryChair 10) (hR : kR K = tRm 6 MC MS) (hG : tGr S) {n : Nat} (t0 : ty S 51 5) {k : Int32 → tHI → tHJ → Prop} (hQ : tRet K B (tQi B (tPb S k)) 0 0 (some .boolean)) {kb8 : tHI → tHJ → Int32 → Int32 → Int32 → Int32 → Int32 → Prop} (hkb8 : ∀ (I : tHI) (J : tHJ) (v1 : Int32) (v2 : Int32) (v3 : Int32) (v4 : Int32) (v5 : Int32), kb8 I J v1 v2 v3 v4 v5 → tWG K B 0 0 S I J 8 [some (vR 51), some (vI v1), some (vI v2), some (vI v3), some (vI v4), some (vI v5), none, none, none, none] []) {I : tHI} {J : tHJ} {v1 : Int32} {v2 : Int32} {v3 : Int32} {v4 : Int32} {v5 : Int32} {v6 : Int32} {v7 : Int32} {v9 : Int32} (h : F5_tryChair_121 n S k kb8 I J v1 v2 v3 v4 v5 v6 v7 v9) : tWG K B 0 0 S I J 121 [some (vR 51), some (vI v1), some (vI v2), some (vI v3), some (vI v4), some (vI v5), some (vI v6), some (vI v7), none, some (vI v9)] [] := by
  refine gBk (pe := 133) hO [o0 (.aload_n 0), oF (.getfield 24) 5 6 169 56, o0 (.iload 5), o0 (.iload 9), o0 .iastore, o0 (.iload_n 3), o0 (.iload 6)] (by decide +kernel) (And.intro t0 (And.intro rfl (And.intro (tGr.off hG t0 (k := 6) rfl) (And.intro (tin (tGr.len hG t0 (k := 6) rfl (by decide)) h.1) (show tWG K B 0 0 S (uI I 56 v5.toNatClampNeg v9) J 133 [some (vR 51), some (vI v1), some (vI v2), some (vI v3), some (vI v4), some (vI v5), some (vI v6), some (vI v7), none, some (vI v9)] [vI v6, vI v3] from ?_)))))
  have h := h.2
  have hj14 : ∀ (m15 : Int32), m15 = (if v6 = 0 then 0 else v7) → tWG K B 0 0 S (uI I 56 v5.toNatClampNeg v9) J 142 [some (vR 51), some (vI v1), some (vI v2), none, some (vI v4), some (vI v5), some (vI v6), some (vI v7), none, none] [vI m15, vI v3] := by
    intro m15 em15
    subst em15
    refine gBk (pe := 148) hO [o0 .iadd, o0 (.istore_n 3), o0 (.iload 4), o0 (.iload 6)] (by decide +kernel) (And.intro (Nat.le_of_ble_eq_true rfl) (show tWG K B 0 0 S (uI I 56 v5.toNatClampNeg v9) J 148 [some (vR 51), some (vI v1), some (vI v2), some (vI (v3 + (if v6 = 0 then 0 else v7))), some (vI v4), some (vI v5), some (vI v6), some (vI v7), none, none] [vI v6, vI v4] from ?_))
    have hj17 : ∀ (m18 : Int32), m18 = (if v6 = 0 then v7 else 0) → tWG K B 0 0 S (uI I 56 v5.toNatClampNeg v9) J 157 [some (vR 51), some (vI v1), some (vI v2), some (vI (v3 + (if v6 = 0 then 0 else v7))), none, some (vI v5), none, none, none, none] [vI m18, vI v4] := by
      intro m18 em18
      subst em18
      refine gBk (pe := 8) hO [o0 .iadd, o0 (.istore 4), oI (.iinc 5 1) 1, o0 (.goto (-155))] (by decide +kernel) (And.intro (Nat.le_of_ble_eq_true rfl) (show tWG K B 0 0 S (uI I 56 v5.toNatClampNeg v9) J 8 [some (vR 51), some (vI v1), some (vI v2), some (vI (v3 + (if v6 = 0 then 0 else v7))), some (vI (v4 + (if v6 = 0 then v7 else 0))), some (vI (v5 + 1)), none, none, none, none] [] from ?_))
      exact hkb8 _ _ _ _ _ _ _ h
    refine gIfEq hO (off := 7) (tgt := 155) (by decide +kernel) (by decide) (fun c19 => ?_) (fun c19 => ?_)
    · refine gBk (pe := 157) hO [o0 (.iload 7)] (by decide +kernel) (show tWG K B 0 0 S (uI I 56 v5.toNatClampNeg v9) J 157 [some (vR 51), some (vI v1), some (vI v2), some (vI (v3 + (if v6 = 0 then 0 else v7))), some (vI v4), some (vI v5), some (vI v6), some (vI v7), none, none] [vI v7, vI v4] from ?_)
      exact gWeak (L' := [some (vR 51), some (vI v1), some (vI v2), some (vI (v3 + (if v6 = 0 then 0 else v7))), none, some (vI v5), none, none, none, none]) ⟨rfl, rfl, rfl, rfl, rfl, trivial⟩ (hj17 _ (Eq.symm (if_pos c19)))
    · refine gBk (pe := 157) hO [oI (.iconst 0) 0, o0 (.goto 5)] (by decide +kernel) (show tWG K B 0 0 S (uI I 56 v5.toNatClampNeg v9) J 157 [some (vR 51), some (vI v1), some (vI v2), some (vI (v3 + (if v6 = 0 then 0 else v7))), some (vI v4), some (vI v5), some (vI v6), some (vI v7), none, none] [vI 0, vI v4] from ?_)
      exact gWeak (L' := [some (vR 51), some (vI v1), some (vI v2), some (vI (v3 + (if v6 = 0 then 0 else v7))), none, some (vI v5), none, none, none, none]) ⟨rfl, rfl, rfl, rfl, rfl, trivial⟩ (hj17 _ (Eq.symm (if_neg c19)))
  refine gIfEq hO (off := 8) (tgt := 141) (by decide +kernel) (by decide) (fun c16 => ?_) (fun c16 => ?_)
  · refine gBk (pe := 142) hO [oI (.iconst 0) 0] (by decide +kernel) (show tWG K B 0 0 S (uI I 56 v5.toNatClampNeg v9) J 142 [some (vR 51), some (vI v1), some (vI v2), some (vI v3), some (vI v4), some (vI v5), some (vI v6), some (vI v7), none, some (vI v9)] [vI 0, vI v3] from ?_)
    exact gWeak (L' := [some (vR 51), some (vI v1), some (vI v2), none, some (vI v4), some (vI v5), some (vI v6), some (vI v7), none, none]) ⟨rfl, rfl, rfl, rfl, rfl, rfl, rfl, trivial⟩ (hj14 _ (Eq.symm (if_pos c16)))
  · refine gBk (pe := 142) hO [o0 (.iload 7), o0 (.goto 4)] (by decide +kernel) (show tWG K B 0 0 S (uI I 56 v5.toNatClampNeg v9) J 142 [some (vR 51), some (vI v1), some (vI v2), some (vI v3), some (vI v4), some (vI v5), some (vI v6), some (vI v7), none, some (vI v9)] [vI v7, vI v3] from ?_)
    exact gWeak (L' := [some (vR 51), some (vI v1), some (vI v2), none, some (vI v4), some (vI v5), some (vI v6), some (vI v7), none, none]) ⟨rfl, rfl, rfl, rfl, rfl, rfl, rfl, trivial⟩ (hj14 _ (Eq.symm (if_neg c16)))
set_option maxRecDepth 100000 in
theorem W5_tryChair_8 {K : tK} {B : tB} {S : tSH} {MC MS : Nat} (hO : tKO K B RX5 cX5_tryChair 10) (hR : kR K = tRm 6 MC MS) (hG : tGr S) {n : Nat} (t0 : ty S 51 5) {k : Int32 → tHI → tHJ → Prop} (hQ : tRet K B (tQi B (tPb S k)) 0 0 (some .boolean)) {kb8 : tHI → tHJ → Int32 → Int32 → Int32 → Int32 → Int32 → Prop} (hkb8 : ∀ (I : tHI) (J : tHJ) (v1 : Int32) (v2 : Int32) (v3 : Int32) (v4 : Int32) (v5 : Int32), kb8 I J v1 v2 v3 v4 v5 → tWG K B 0 0 S I J 8 [some (vR 51), some (vI v1), some (vI v2), some (vI v3), some (vI v4), some (vI v5), none, none, none, none] []) {I : tHI} {J : tHJ} {v1 : Int32} {v2 : Int32} {v3 : Int32} {v4 : Int32} {v5 : Int32} (h : F5_tryChair_8 n S k kb8 I J v1 v2 v3 v4 v5) : tWG K B 0 0 S I J 8 [some (vR 51), some (vI v1), some (vI v2), some (vI v3), some (vI v4), some (vI v5), none, none, none, none] [] := by
  refine gBk (pe := 11) hO [o0 (.iload 5), o0 (.iload_n 2)] (by decide +kernel) (show tWG K B 0 0 S I J 11 [some (vR 51), some (vI v1), some (vI v2), some (vI v3), some (vI v4), some (vI v5), none, none, none, none] [vI v2, vI v5] from ?_)
  refine gIcGe hO (off := 155) (tgt := 166) (by decide +kernel) (by decide) (fun c1 => ?_) (fun c1 => ?_)
  · have h := h.1 c1
    exact gWeak (L' := [some (vR 51), none, none, some (vI v3), some (vI v4), none, none, none, none, none]) ⟨rfl, rfl, rfl, trivial⟩ (W5_tryChair_166 hO hR hG t0 hQ h)
  · have h := h.2 c1
    refine gBk (pe := 18) hO [o0 (.iload 5), oI (.bipush 6) 6] (by decide +kernel) (show tWG K B 0 0 S I J 18 [some (vR 51), some (vI v1), some (vI v2), some (vI v3), some (vI v4), some (vI v5), none, none, none, none] [vI 6, vI v5] from ?_)
    refine gIcGe hO (off := 148) (tgt := 166) (by decide +kernel) (by decide) (fun c2 => ?_) (fun c2 => ?_)
    · have h := h.1 c2
      exact gWeak (L' := [some (vR 51), none, none, some (vI v3), some (vI v4), none, none, none, none, none]) ⟨rfl, rfl, rfl, trivial⟩ (W5_tryChair_166 hO hR hG t0 hQ h)
    · have h := h.2 c2
      refine gBk (pe := 32) hO [o0 (.iload_n 1), o0 (.iload_n 2), oI (.iconst 1) 1, o0 .isub, o0 (.iload 5), o0 .isub, o0 .ishr, oI (.iconst 1) 1, o0 .iand, oI (.iconst 1) 1] (by decide +kernel) (show tWG K B 0 0 S I J 32 [some (vR 51), some (vI v1), some (vI v2), some (vI v3), some (vI v4), some (vI v5), none, none, none, none] [vI 1, vI ((v1 >>> (((v2 - 1) - v5) &&& 31)) &&& 1)] from ?_)
      have hj3 : ∀ (m4 : Int32), m4 = (if ((v1 >>> (((v2 - 1) - v5) &&& 31)) &&& 1) = 1 then (1 : Int32) else 0) → tWG K B 0 0 S I J 40 [some (vR 51), some (vI v1), some (vI v2), some (vI v3), some (vI v4), some (vI v5), none, none, none, none] [vI m4] := by
        intro m4 em4
        subst em4
        refine gBk (pe := 74) hO [o0 (.istore 6), o0 (.aload_n 0), oF (.getfield 34) 5 0 172 1, oF (.getfield 110) 8 0 1281 2, oF (.getfield 123) 3 1 1283 3, o0 (.iload 5), o0 .iaload, o0 (.istore 7), o0 (.aload_n 0), oF (.getfield 34) 5 0 172 1, oF (.getfield 110) 8 0 1281 2, oF (.getfield 120) 3 3 1282 5, o0 (.iload 5), o0 .iaload, o0 (.istore 8), o0 (.iload 6)] (by decide +kernel) (And.intro (Nat.le_of_ble_eq_true rfl) (And.intro t0 (And.intro rfl (And.intro (tGr.abs hG t0 (k := 0) rfl) (And.intro rfl (And.intro (tGr.off hG (tGr.abs hG t0 (k := 0) rfl) (k := 0) rfl) (And.intro rfl (And.intro (tGr.off hG (tGr.off hG (tGr.abs hG t0 (k := 0) rfl) (k := 0) rfl) (k := 1) rfl) (And.intro (tin (tGr.len hG (tGr.off hG (tGr.abs hG t0 (k := 0) rfl) (k := 0) rfl) (k := 1) rfl (by decide)) h.1) (And.intro (Nat.le_of_ble_eq_true rfl) (And.intro t0 (And.intro rfl (And.intro (tGr.abs hG t0 (k := 0) rfl) (And.intro rfl (And.intro (tGr.off hG (tGr.abs hG t0 (k := 0) rfl) (k := 0) rfl) (And.intro rfl (And.intro (tGr.off hG (tGr.off hG (tGr.abs hG t0 (k := 0) rfl) (k := 0) rfl) (k := 3) rfl) (And.intro (tin (tGr.len hG (tGr.off hG (tGr.abs hG t0 (k := 0) rfl) (k := 0) rfl) (k := 3) rfl (by decide)) h.2.1) (And.intro (Nat.le_of_ble_eq_true rfl) (show tWG K B 0 0 S I J 74 [some (vR 51), some (vI v1), some (vI v2), some (vI v3), some (vI v4), some (vI v5), some (vI (if ((v1 >>> (((v2 - 1) - v5) &&& 31)) &&& 1) = 1 then (1 : Int32) else 0)), some (vI (I 3 v5.toNatClampNeg)), some (vI (I 5 v5.toNatClampNeg)), none] [vI (if ((v1 >>> (((v2 - 1) - v5) &&& 31)) &&& 1) = 1 then (1 : Int32) else 0)] from ?_))))))))))))))))))))
        have h := h.2.2
        have hj6 : ∀ (m7 : Int32), m7 = (if (if ((v1 >>> (((v2 - 1) - v5) &&& 31)) &&& 1) = 1 then (1 : Int32) else 0) = 0 then (0 : Int32) else 2) → tWG K B 0 0 S I J 82 [some (vR 51), some (vI v1), some (vI v2), some (vI v3), some (vI v4), some (vI v5), some (vI (if ((v1 >>> (((v2 - 1) - v5) &&& 31)) &&& 1) = 1 then (1 : Int32) else 0)), some (vI (I 3 v5.toNatClampNeg)), some (vI (I 5 v5.toNatClampNeg)), none] [vI m7] := by
          intro m7 em7
          subst em7
          refine gBk (pe := 94) hO [o0 (.istore 9), o0 (.aload_n 0), oF (.getfield 38) 5 1 173 48, o0 (.iload 7), o0 (.iload 9), o0 (.iload 8)] (by decide +kernel) (And.intro (Nat.le_of_ble_eq_true rfl) (And.intro t0 (And.intro rfl (show tWG K B 0 0 S I J 94 [some (vR 51), some (vI v1), some (vI v2), some (vI v3), some (vI v4), some (vI v5), some (vI (if ((v1 >>> (((v2 - 1) - v5) &&& 31)) &&& 1) = 1 then (1 : Int32) else 0)), some (vI (I 3 v5.toNatClampNeg)), some (vI (I 5 v5.toNatClampNeg)), some (vI (if (if ((v1 >>> (((v2 - 1) - v5) &&& 31)) &&& 1) = 1 then (1 : Int32) else 0) = 0 then (0 : Int32) else 2))] [vI (I 5 v5.toNatClampNeg), vI (if (if ((v1 >>> (((v2 - 1) - v5) &&& 31)) &&& 1) = 1 then (1 : Int32) else 0) = 0 then (0 : Int32) else 2), vI (I 3 v5.toNatClampNeg), vR 48] from ?_))))
          refine gCVi_b hO (M2_barred (tGr.abs hG t0 (k := 1) rfl) h) hc2_barred (idx := 151) (w := 1316) (by decide +kernel) hR (by omega) (tGr.abs hG t0 (k := 1) rfl) ⟨by decide, rfl⟩ (vs := [vI (I 3 v5.toNatClampNeg), vI (if (if ((v1 >>> (((v2 - 1) - v5) &&& 31)) &&& 1) = 1 then (1 : Int32) else 0) = 0 then (0 : Int32) else 2), vI (I 5 v5.toNatClampNeg)]) (st := []) ⟨rfl, Nat.le_of_ble_eq_true rfl, rfl⟩ (by decide +kernel) (fun x11 I9 J10 z12 h => ?_)
          have h := h z12
          refine gIfEq hO (off := 24) (tgt := 121) (by decide +kernel) (by decide) (fun c13 => ?_) (fun c13 => ?_)
          · have h := h.1 c13
            exact gWeak (L' := [some (vR 51), some (vI v1), some (vI v2), some (vI v3), some (vI v4), some (vI v5), some (vI (if ((v1 >>> (((v2 - 1) - v5) &&& 31)) &&& 1) = 1 then (1 : Int32) else 0)), some (vI (I 3 v5.toNatClampNeg)), none, some (vI (if (if ((v1 >>> (((v2 - 1) - v5) &&& 31)) &&& 1) = 1 then (1 : Int32) else 0) = 0 then (0 : Int32) else 2))]) ⟨rfl, rfl, rfl, rfl, rfl, rfl, rfl, rfl, rfl, trivial⟩ (W5_tryChair_121 hO hR hG t0 hQ hkb8 h)
          · have h := h.2 c13
            refine gBk (pe := 113) hO [oI (.iinc 9 1) 1, o0 (.aload_n 0), oF (.getfield 38) 5 1 173 48, o0 (.iload 7), o0 (.iload 9), o0 (.iload 8)] (by decide +kernel) (And.intro t0 (And.intro rfl (show tWG K B 0 0 S I9 J10 113 [some (vR 51), some (vI v1), some (vI v2), some (vI v3), some (vI v4), some (vI v5), some (vI (if ((v1 >>> (((v2 - 1) - v5) &&& 31)) &&& 1) = 1 then (1 : Int32) else 0)), some (vI (I 3 v5.toNatClampNeg)), some (vI (I 5 v5.toNatClampNeg)), some (vI ((if (if ((v1 >>> (((v2 - 1) - v5) &&& 31)) &&& 1) = 1 then (1 : Int32) else 0) = 0 then (0 : Int32) else 2) + 1))] [vI (I 5 v5.toNatClampNeg), vI ((if (if ((v1 >>> (((v2 - 1) - v5) &&& 31)) &&& 1) = 1 then (1 : Int32) else 0) = 0 then (0 : Int32) else 2) + 1), vI (I 3 v5.toNatClampNeg), vR 48] from ?_)))
            refine gCVi_b hO (M2_barred (tGr.abs hG t0 (k := 1) rfl) h) hc2_barred (idx := 151) (w := 1316) (by decide +kernel) hR (by omega) (tGr.abs hG t0 (k := 1) rfl) ⟨by decide, rfl⟩ (vs := [vI (I 3 v5.toNatClampNeg), vI ((if (if ((v1 >>> (((v2 - 1) - v5) &&& 31)) &&& 1) = 1 then (1 : Int32) else 0) = 0 then (0 : Int32) else 2) + 1), vI (I 5 v5.toNatClampNeg)]) (st := []) ⟨rfl, Nat.le_of_ble_eq_true rfl, rfl⟩ (by decide +kernel) (fun x22 I20 J21 z23 h => ?_)
            have h := h z23
            refine gIfEq hO (off := 5) (tgt := 121) (by decide +kernel) (by decide) (fun c24 => ?_) (fun c24 => ?_)
            · have h := h.1 c24
              exact gWeak (L' := [some (vR 51), some (vI v1), some (vI v2), some (vI v3), some (vI v4), some (vI v5), some (vI (if ((v1 >>> (((v2 - 1) - v5) &&& 31)) &&& 1) = 1 then (1 : Int32) else 0)), some (vI (I 3 v5.toNatClampNeg)), none, some (vI ((if (if ((v1 >>> (((v2 - 1) - v5) &&& 31)) &&& 1) = 1 then (1 : Int32) else 0) = 0 then (0 : Int32) else 2) + 1))]) ⟨rfl, rfl, rfl, rfl, rfl, rfl, rfl, rfl, rfl, trivial⟩ (W5_tryChair_121 hO hR hG t0 hQ hkb8 h)
            · have h := h.2 c24
              refine gBk (pe := 120) hO [oI (.iconst 0) 0] (by decide +kernel) (show tWG K B 0 0 S I20 J21 120 [some (vR 51), some (vI v1), some (vI v2), some (vI v3), some (vI v4), some (vI v5), some (vI (if ((v1 >>> (((v2 - 1) - v5) &&& 31)) &&& 1) = 1 then (1 : Int32) else 0)), some (vI (I 3 v5.toNatClampNeg)), some (vI (I 5 v5.toNatClampNeg)), some (vI ((if (if ((v1 >>> (((v2 - 1) - v5) &&& 31)) &&& 1) = 1 then (1 : Int32) else 0) = 0 then (0 : Int32) else 2) + 1))] [vI 0] from ?_)
              exact gZret hO hQ (by decide +kernel) (Or.inl rfl) ⟨rfl, (Or.inl rfl), h⟩
        refine gIfEq hO (off := 7) (tgt := 81) (by decide +kernel) (by decide) (fun c8 => ?_) (fun c8 => ?_)
        · refine gBk (pe := 82) hO [oI (.iconst 0) 0] (by decide +kernel) (show tWG K B 0 0 S I J 82 [some (vR 51), some (vI v1), some (vI v2), some (vI v3), some (vI v4), some (vI v5), some (vI (if ((v1 >>> (((v2 - 1) - v5) &&& 31)) &&& 1) = 1 then (1 : Int32) else 0)), some (vI (I 3 v5.toNatClampNeg)), some (vI (I 5 v5.toNatClampNeg)), none] [vI 0] from ?_)
          exact (hj6 _ (Eq.symm (if_pos c8)))
        · refine gBk (pe := 82) hO [oI (.iconst 2) 2, o0 (.goto 4)] (by decide +kernel) (show tWG K B 0 0 S I J 82 [some (vR 51), some (vI v1), some (vI v2), some (vI v3), some (vI v4), some (vI v5), some (vI (if ((v1 >>> (((v2 - 1) - v5) &&& 31)) &&& 1) = 1 then (1 : Int32) else 0)), some (vI (I 3 v5.toNatClampNeg)), some (vI (I 5 v5.toNatClampNeg)), none] [vI 2] from ?_)
          exact (hj6 _ (Eq.symm (if_neg c8)))
      refine gIcNe hO (off := 7) (tgt := 39) (by decide +kernel) (by decide) (fun c5 => ?_) (fun c5 => ?_)
      · refine gBk (pe := 40) hO [oI (.iconst 0) 0] (by decide +kernel) (show tWG K B 0 0 S I J 40 [some (vR 51), some (vI v1), some (vI v2), some (vI v3), some (vI v4), some (vI v5), none, none, none, none] [vI 0] from ?_)
        exact (hj3 _ (Eq.symm (if_neg c5)))
      · refine gBk (pe := 40) hO [oI (.iconst 1) 1, o0 (.goto 4)] (by decide +kernel) (show tWG K B 0 0 S I J 40 [some (vR 51), some (vI v1), some (vI v2), some (vI v3), some (vI v4), some (vI v5), none, none, none, none] [vI 1] from ?_)
        exact (hj3 _ (Eq.symm (if_pos c5)))
theorem W5_tryChair_L8 {K : tK} {B : tB} {S : tSH} {MC MS : Nat} (hO : tKO K B RX5 cX5_tryChair 10) (hR : kR K = tRm 6 MC MS) (hG : tGr S) {n : Nat} (t0 : ty S 51 5) {k : Int32 → tHI → tHJ → Prop} (hQ : tRet K B (tQi B (tPb S k)) 0 0 (some .boolean)) : ∀ (f : Nat) (I : tHI) (J : tHJ) (v1 : Int32) (v2 : Int32) (v3 : Int32) (v4 : Int32) (v5 : Int32), F5_tryChair_L8 n S k f I J v1 v2 v3 v4 v5 → tWG K B 0 0 S I J 8 [some (vR 51), some (vI v1), some (vI v2), some (vI v3), some (vI v4), some (vI v5), none, none, none, none] [] := by
  intro f
  induction f with
  | zero => intro I J v1 v2 v3 v4 v5 h; exact h.elim
  | succ f ih => intro I J v1 v2 v3 v4 v5 h; exact W5_tryChair_8 hO hR hG t0 hQ ih h
set_option maxRecDepth 20000 in
theorem hc5_tryChair : tCV yX5_tryChair cX5_tryChair 10 (some .boolean) 2 := ⟨⟨(List.mem_of_getElem? (i := 1315) rfl), (List.mem_of_getElem? (i := 41) (by decide +kernel)), by decide +kernel⟩, (List.mem_of_getElem? (i := 1313) (by decide +kernel)), (List.mem_of_getElem? (i := 1314) (by decide +kernel))⟩
set_option maxRecDepth 100000 in
theorem M5_tryChair {l : Launch} {B : tB} {S : tSH} {I : tHI} {J : tHJ} {v1 : Int32} {v2 : Int32} {n : Nat} {k : Int32 → tHI → tHJ → Prop} (t0 : ty S 51 5) (h : F5_tryChair n S I J v1 v2 k) : Met l yX5_tryChair (tWs yX5_tryChair cX5_tryChair 10 (some .boolean)) (tRm 6 0 0) (tPc B [vR 51, vI v1, vI v2] S I J) (tQi B (tPb S k)) 0 0 (tA B) :=
  tEntry (by decide +kernel) [some (vR 51), some (vI v1), some (vI v2), none, none, none, none, none, none, none] rfl rfl (Nat.le_of_ble_eq_true rfl) (fun K hl hR hO hQ hG => by
  subst hl
  refine gBk (pe := 8) hO [oI (.iconst 0) 0, o0 (.istore_n 3), oI (.iconst 0) 0, o0 (.istore 4), oI (.iconst 0) 0, o0 (.istore 5)] (by decide +kernel) (And.intro (Nat.le_of_ble_eq_true rfl) (And.intro (Nat.le_of_ble_eq_true rfl) (And.intro (Nat.le_of_ble_eq_true rfl) (show tWG K B 0 0 S I J 8 [some (vR 51), some (vI v1), some (vI v2), some (vI 0), some (vI 0), some (vI 0), none, none, none, none] [] from ?_))))
  exact W5_tryChair_L8 hO hR hG t0 hQ n _ _ _ _ _ _ _ h)
set_option maxRecDepth 100000 in
theorem W5_timeOfRoad_4 {K : tK} {B : tB} {S : tSH} {MC MS : Nat} (hO : tKO K B RX5 cX5_timeOfRoad 4) (hR : kR K = tRm 7 MC MS) (hG : tGr S) {n : Nat} (t0 : ty S 51 5) {k : Int32 → tHI → tHJ → Prop} (hQ : tRet K B (tQi B (tPi S k)) 0 0 (some .int)) {kb4 : tHI → tHJ → Int32 → Int32 → Prop} (hkb4 : ∀ (I : tHI) (J : tHJ) (v1 : Int32) (v2 : Int32), kb4 I J v1 v2 → tWG K B 0 0 S I J 4 [some (vR 51), some (vI v1), some (vI v2), none] []) {I : tHI} {J : tHJ} {v1 : Int32} {v2 : Int32} (h : F5_timeOfRoad_4 n S k kb4 I J v1 v2) : tWG K B 0 0 S I J 4 [some (vR 51), some (vI v1), some (vI v2), none] [] := by
  refine gBk (pe := 15) hO [o0 (.iload_n 2), o0 (.aload_n 0), oF (.getfield 34) 5 0 172 1, oF (.getfield 42) 8 1 1198 7, oF (.getfield 48) 7 0 1199 0] (by decide +kernel) (And.intro t0 (And.intro rfl (And.intro (tGr.abs hG t0 (k := 0) rfl) (And.intro rfl (And.intro (tGr.off hG (tGr.abs hG t0 (k := 0) rfl) (k := 1) rfl) (show tWG K B 0 0 S I J 15 [some (vR 51), some (vI v1), some (vI v2), none] [vI (I 7 0), vI v2] from ?_))))))
  refine gIcGe hO (off := 40) (tgt := 55) (by decide +kernel) (by decide) (fun c1 => ?_) (fun c1 => ?_)
  · have h := h.1 c1
    refine gBk (pe := 56) hO [o0 (.iload_n 1)] (by decide +kernel) (show tWG K B 0 0 S I J 56 [some (vR 51), some (vI v1), some (vI v2), none] [vI v1] from ?_)
    exact gIret hO hQ (by decide +kernel) ⟨rfl, h⟩
  · have h := h.2 c1
    refine gBk (pe := 23) hO [o0 (.aload_n 0), oF (.getfield 38) 5 1 173 48, o0 (.iload_n 2)] (by decide +kernel) (And.intro t0 (And.intro rfl (show tWG K B 0 0 S I J 23 [some (vR 51), some (vI v1), some (vI v2), none] [vI v2, vR 48] from ?_)))
    refine gCVi_c hO (M2_quickest (tGr.abs hG t0 (k := 1) rfl) h) hc2_quickest (idx := 59) (w := 1204) (by decide +kernel) hR (by omega) (tGr.abs hG t0 (k := 1) rfl) ⟨by decide, rfl⟩ (vs := [vI v2]) (st := []) ⟨rfl, Nat.le_of_ble_eq_true rfl, rfl⟩ (by decide +kernel) (fun x4 I2 J3 h => ?_)
    refine gBk (pe := 28) hO [o0 (.istore_n 3), o0 (.iload_n 3)] (by decide +kernel) (And.intro (Nat.le_of_ble_eq_true rfl) (show tWG K B 0 0 S I2 J3 28 [some (vR 51), some (vI v1), some (vI v2), some (vI x4)] [vI x4] from ?_))
    refine gIfNe hO (off := 6) (tgt := 34) (by decide +kernel) (by decide) (fun c5 => ?_) (fun c5 => ?_)
    · have h := h.1 c5
      refine gBk (pe := 44) hO [o0 (.iload_n 1), o0 (.aload_n 0), oF (.getfield 34) 5 0 172 1, oF (.getfield 42) 8 1 1198 7, o0 (.iload_n 2), o0 (.iload_n 3)] (by decide +kernel) (And.intro t0 (And.intro rfl (And.intro (tGr.abs hG t0 (k := 0) rfl) (And.intro rfl (show tWG K B 0 0 S I2 J3 44 [some (vR 51), some (vI v1), some (vI v2), some (vI x4)] [vI x4, vI v2, vR 7, vI v1] from ?_)))))
      refine gCVi_p hO (M7_timeAt (tGr.off hG (tGr.abs hG t0 (k := 0) rfl) (k := 1) rfl) h.1) hc7_timeAt (idx := 92) (w := 1216) (by decide +kernel) hR (by omega) (tGr.off hG (tGr.abs hG t0 (k := 0) rfl) (k := 1) rfl) ⟨by decide, rfl⟩ (vs := [vI v2, vI x4]) (st := [vI v1]) ⟨rfl, Nat.le_of_ble_eq_true rfl, rfl⟩ (by decide +kernel) ?_
      have h := h.2
      refine gBk (pe := 4) hO [o0 .iadd, o0 (.istore_n 1), oI (.iinc 2 1) 1, o0 (.goto (-48))] (by decide +kernel) (And.intro (Nat.le_of_ble_eq_true rfl) (show tWG K B 0 0 S I2 J3 4 [some (vR 51), some (vI (v1 + (V7_timeAt S I2 J3 7 v2 x4))), some (vI (v2 + 1)), some (vI x4)] [] from ?_))
      exact gWeak (L' := [some (vR 51), some (vI (v1 + (V7_timeAt S I2 J3 7 v2 x4))), some (vI (v2 + 1)), none]) ⟨rfl, rfl, rfl, trivial⟩ (hkb4 _ _ _ _ h)
    · have h := h.2 c5
      refine gBk (pe := 33) hO [(.ldc 85, (0, 0, 1209, 0), 1000000000, 0)] (by decide +kernel) (show tWG K B 0 0 S I2 J3 33 [some (vR 51), some (vI v1), some (vI v2), some (vI x4)] [vI 1000000000] from ?_)
      exact gIret hO hQ (by decide +kernel) ⟨rfl, h⟩
theorem W5_timeOfRoad_L4 {K : tK} {B : tB} {S : tSH} {MC MS : Nat} (hO : tKO K B RX5 cX5_timeOfRoad 4) (hR : kR K = tRm 7 MC MS) (hG : tGr S) {n : Nat} (t0 : ty S 51 5) {k : Int32 → tHI → tHJ → Prop} (hQ : tRet K B (tQi B (tPi S k)) 0 0 (some .int)) : ∀ (f : Nat) (I : tHI) (J : tHJ) (v1 : Int32) (v2 : Int32), F5_timeOfRoad_L4 n S k f I J v1 v2 → tWG K B 0 0 S I J 4 [some (vR 51), some (vI v1), some (vI v2), none] [] := by
  intro f
  induction f with
  | zero => intro I J v1 v2 h; exact h.elim
  | succ f ih => intro I J v1 v2 h; exact W5_timeOfRoad_4 hO hR hG t0 hQ ih h
set_option maxRecDepth 20000 in
theorem hc5_timeOfRoad : tCV yX5_timeOfRoad cX5_timeOfRoad 4 (some .int) 0 := ⟨⟨(List.mem_of_getElem? (i := 1320) rfl), (List.mem_of_getElem? (i := 41) (by decide +kernel)), by decide +kernel⟩, (List.mem_of_getElem? (i := 1318) (by decide +kernel)), (List.mem_of_getElem? (i := 1319) (by decide +kernel))⟩
set_option maxRecDepth 100000 in
theorem M5_timeOfRoad {l : Launch} {B : tB} {S : tSH} {I : tHI} {J : tHJ} {n : Nat} {k : Int32 → tHI → tHJ → Prop} (t0 : ty S 51 5) (h : F5_timeOfRoad n S I J k) : Met l yX5_timeOfRoad (tWs yX5_timeOfRoad cX5_timeOfRoad 4 (some .int)) (tRm 7 0 0) (tPc B [vR 51] S I J) (tQi B (tPi S k)) 0 0 (tA B) :=
  tEntry (by decide +kernel) [some (vR 51), none, none, none] rfl rfl (Nat.le_of_ble_eq_true rfl) (fun K hl hR hO hQ hG => by
  subst hl
  refine gBk (pe := 4) hO [oI (.iconst 0) 0, o0 (.istore_n 1), oI (.iconst 0) 0, o0 (.istore_n 2)] (by decide +kernel) (And.intro (Nat.le_of_ble_eq_true rfl) (And.intro (Nat.le_of_ble_eq_true rfl) (show tWG K B 0 0 S I J 4 [some (vR 51), some (vI 0), some (vI 0), none] [] from ?_)))
  exact W5_timeOfRoad_L4 hO hR hG t0 hQ n _ _ _ _ h)
set_option maxRecDepth 100000 in
theorem W5_bestBars_94 {K : tK} {B : tB} {S : tSH} {MC MS : Nat} (hO : tKO K B RX5 cX5_bestBars 7) (hR : kR K = tRm 6 MC MS) (hG : tGr S) {n : Nat} (t0 : ty S 51 5) {k : Int32 → tHI → tHJ → Prop} (hQ : tRet K B (tQi B (tPi S k)) 0 0 (some .int)) {kb9 : tHI → tHJ → Int32 → Int32 → Int32 → Int32 → Prop} (hkb9 : ∀ (I : tHI) (J : tHJ) (v1 : Int32) (v2 : Int32) (v3 : Int32) (v4 : Int32), kb9 I J v1 v2 v3 v4 → tWG K B 0 0 S I J 9 [some (vR 51), some (vI v1), some (vI v2), some (vI v3), some (vI v4), none, none] []) {I : tHI} {J : tHJ} {v1 : Int32} {v2 : Int32} {v3 : Int32} {v4 : Int32} {v5 : Int32} (h : F5_bestBars_94 n S k kb9 I J v1 v2 v3 v4 v5) : tWG K B 0 0 S I J 94 [some (vR 51), some (vI v1), some (vI v2), some (vI v3), some (vI v4), some (vI v5), none] [] := by
  refine gBk (pe := 97) hO [o0 (.iload 5), o0 (.iload_n 2)] (by decide +kernel) (show tWG K B 0 0 S I J 97 [some (vR 51), some (vI v1), some (vI v2), some (vI v3), some (vI v4), some (vI v5), none] [vI v2, vI v5] from ?_)
  have hj6 : ∀ (m7 : Int32) (m8 : Int32), m7 = (if v2 ≤ v5 then v2 else v5) → m8 = (if v2 ≤ v5 then v3 else v4) → tWG K B 0 0 S I J 106 [some (vR 51), some (vI v1), some (vI m7), some (vI m8), some (vI v4), none, none] [] := by
    intro m7 m8 em7 em8
    subst em7
    subst em8
    refine gBk (pe := 9) hO [oI (.iinc 4 1) 1, o0 (.goto (-100))] (by decide +kernel) (show tWG K B 0 0 S I J 9 [some (vR 51), some (vI v1), some (vI (if v2 ≤ v5 then v2 else v5)), some (vI (if v2 ≤ v5 then v3 else v4)), some (vI (v4 + 1)), none, none] [] from ?_)
    exact hkb9 _ _ _ _ _ _ h
  refine gIcGe hO (off := 9) (tgt := 106) (by decide +kernel) (by decide) (fun c9 => ?_) (fun c9 => ?_)
  · exact gWeak (L' := [some (vR 51), some (vI v1), some (vI v2), some (vI v3), some (vI v4), none, none]) ⟨rfl, rfl, rfl, rfl, rfl, trivial⟩ (hj6 _ _ (Eq.symm (if_pos c9)) (Eq.symm (if_pos c9)))
  · refine gBk (pe := 106) hO [o0 (.iload 5), o0 (.istore_n 2), o0 (.iload 4), o0 (.istore_n 3)] (by decide +kernel) (And.intro (Nat.le_of_ble_eq_true rfl) (And.intro (Nat.le_of_ble_eq_true rfl) (show tWG K B 0 0 S I J 106 [some (vR 51), some (vI v1), some (vI v5), some (vI v4), some (vI v4), some (vI v5), none] [] from ?_)))
    exact gWeak (L' := [some (vR 51), some (vI v1), some (vI v5), some (vI v4), some (vI v4), none, none]) ⟨rfl, rfl, rfl, rfl, rfl, trivial⟩ (hj6 _ _ (Eq.symm (if_neg c9)) (Eq.symm (if_neg c9)))
set_option maxRecDepth 100000 in
theorem W5_bestBars_34 {K : tK} {B : tB} {S : tSH} {MC MS : Nat} (hO : tKO K B RX5 cX5_bestBars 7) (hR : kR K = tRm 6 MC MS) (hG : tGr S) {n : Nat} (t0 : ty S 51 5) {k : Int32 → tHI → tHJ → Prop} (hQ : tRet K B (tQi B (tPi S k)) 0 0 (some .int)) {kb9 : tHI → tHJ → Int32 → Int32 → Int32 → Int32 → Prop} (hkb9 : ∀ (I : tHI) (J : tHJ) (v1 : Int32) (v2 : Int32) (v3 : Int32) (v4 : Int32), kb9 I J v1 v2 v3 v4 → tWG K B 0 0 S I J 9 [some (vR 51), some (vI v1), some (vI v2), some (vI v3), some (vI v4), none, none] []) {kb34 : tHI → tHJ → Int32 → Int32 → Int32 → Int32 → Int32 → Int32 → Prop} (hkb34 : ∀ (I : tHI) (J : tHJ) (v1 : Int32) (v2 : Int32) (v3 : Int32) (v4 : Int32) (v5 : Int32) (v6 : Int32), kb34 I J v1 v2 v3 v4 v5 v6 → tWG K B 0 0 S I J 34 [some (vR 51), some (vI v1), some (vI v2), some (vI v3), some (vI v4), some (vI v5), some (vI v6)] []) {I : tHI} {J : tHJ} {v1 : Int32} {v2 : Int32} {v3 : Int32} {v4 : Int32} {v5 : Int32} {v6 : Int32} (h : F5_bestBars_34 n S k kb9 kb34 I J v1 v2 v3 v4 v5 v6) : tWG K B 0 0 S I J 34 [some (vR 51), some (vI v1), some (vI v2), some (vI v3), some (vI v4), some (vI v5), some (vI v6)] [] := by
  refine gBk (pe := 46) hO [o0 (.iload 6), o0 (.aload_n 0), oF (.getfield 34) 5 0 172 1, oF (.getfield 42) 8 1 1198 7, oF (.getfield 48) 7 0 1199 0] (by decide +kernel) (And.intro t0 (And.intro rfl (And.intro (tGr.abs hG t0 (k := 0) rfl) (And.intro rfl (And.intro (tGr.off hG (tGr.abs hG t0 (k := 0) rfl) (k := 1) rfl) (show tWG K B 0 0 S I J 46 [some (vR 51), some (vI v1), some (vI v2), some (vI v3), some (vI v4), some (vI v5), some (vI v6)] [vI (I 7 0), vI v6] from ?_))))))
  refine gIcGe hO (off := 48) (tgt := 94) (by decide +kernel) (by decide) (fun c5 => ?_) (fun c5 => ?_)
  · have h := h.1 c5
    exact gWeak (L' := [some (vR 51), some (vI v1), some (vI v2), some (vI v3), some (vI v4), some (vI v5), none]) ⟨rfl, rfl, rfl, rfl, rfl, rfl, trivial⟩ (W5_bestBars_94 hO hR hG t0 hQ hkb9 h)
  · have h := h.2 c5
    refine gBk (pe := 53) hO [o0 (.iload 6), oI (.bipush 12) 12] (by decide +kernel) (show tWG K B 0 0 S I J 53 [some (vR 51), some (vI v1), some (vI v2), some (vI v3), some (vI v4), some (vI v5), some (vI v6)] [vI 12, vI v6] from ?_)
    refine gIcGe hO (off := 41) (tgt := 94) (by decide +kernel) (by decide) (fun c10 => ?_) (fun c10 => ?_)
    · have h := h.1 c10
      exact gWeak (L' := [some (vR 51), some (vI v1), some (vI v2), some (vI v3), some (vI v4), some (vI v5), none]) ⟨rfl, rfl, rfl, rfl, rfl, rfl, trivial⟩ (W5_bestBars_94 hO hR hG t0 hQ hkb9 h)
    · have h := h.2 c10
      refine gBk (pe := 65) hO [o0 (.iload 5), o0 (.aload_n 0), oF (.getfield 38) 5 1 173 48, oI (.iconst 3) 3, o0 (.iload 6)] (by decide +kernel) (And.intro t0 (And.intro rfl (show tWG K B 0 0 S I J 65 [some (vR 51), some (vI v1), some (vI v2), some (vI v3), some (vI v4), some (vI v5), some (vI v6)] [vI v6, vI 3, vR 48, vI v5] from ?_)))
      refine gCVi_c hO (M2_tell (tGr.abs hG t0 (k := 1) rfl) h) hc2_tell (idx := 155) (w := 1339) (by decide +kernel) hR (by omega) (tGr.abs hG t0 (k := 1) rfl) ⟨by decide, rfl⟩ (vs := [vI 3, vI v6]) (st := [vI v5]) ⟨rfl, Nat.le_of_ble_eq_true rfl, rfl⟩ (by decide +kernel) (fun x13 I11 J12 h => ?_)
      refine gAbs hO (idx := 158) (w := 1337) (by decide +kernel) hR (by omega) (st := [vI v5]) (Nat.le_of_ble_eq_true rfl) rfl (by decide +kernel) ?_
      refine gBk (pe := 34) hO [o0 (.aload_n 0), oF (.getfield 34) 5 0 172 1, oF (.getfield 42) 8 1 1198 7, oF (.getfield 161) 7 2 1338 9, o0 (.iload 6), o0 .iaload, o0 .imul, o0 .iadd, o0 (.istore 5), oI (.iinc 6 1) 1, o0 (.goto (-57))] (by decide +kernel) (And.intro t0 (And.intro rfl (And.intro (tGr.abs hG t0 (k := 0) rfl) (And.intro rfl (And.intro (tGr.off hG (tGr.abs hG t0 (k := 0) rfl) (k := 1) rfl) (And.intro rfl (And.intro (tGr.off hG (tGr.off hG (tGr.abs hG t0 (k := 0) rfl) (k := 1) rfl) (k := 2) rfl) (And.intro (tin (tGr.len hG (tGr.off hG (tGr.abs hG t0 (k := 0) rfl) (k := 1) rfl) (k := 2) rfl (by decide)) h.1) (And.intro (Nat.le_of_ble_eq_true rfl) (show tWG K B 0 0 S I11 J12 34 [some (vR 51), some (vI v1), some (vI v2), some (vI v3), some (vI v4), some (vI (v5 + ((if 0 ≤ x13 then x13 else 0 - x13) * (I11 9 v6.toNatClampNeg)))), some (vI (v6 + 1))] [] from ?_))))))))))
      have h := h.2
      exact hkb34 _ _ _ _ _ _ _ _ h
theorem W5_bestBars_L34 {K : tK} {B : tB} {S : tSH} {MC MS : Nat} (hO : tKO K B RX5 cX5_bestBars 7) (hR : kR K = tRm 6 MC MS) (hG : tGr S) {n : Nat} (t0 : ty S 51 5) {k : Int32 → tHI → tHJ → Prop} (hQ : tRet K B (tQi B (tPi S k)) 0 0 (some .int)) {kb9 : tHI → tHJ → Int32 → Int32 → Int32 → Int32 → Prop} (hkb9 : ∀ (I : tHI) (J : tHJ) (v1 : Int32) (v2 : Int32) (v3 : Int32) (v4 : Int32), kb9 I J v1 v2 v3 v4 → tWG K B 0 0 S I J 9 [some (vR 51), some (vI v1), some (vI v2), some (vI v3), some (vI v4), none, none] []) : ∀ (f : Nat) (I : tHI) (J : tHJ) (v1 : Int32) (v2 : Int32) (v3 : Int32) (v4 : Int32) (v5 : Int32) (v6 : Int32), F5_bestBars_L34 n S k kb9 f I J v1 v2 v3 v4 v5 v6 → tWG K B 0 0 S I J 34 [some (vR 51), some (vI v1), some (vI v2), some (vI v3), some (vI v4), some (vI v5), some (vI v6)] [] := by
  intro f
  induction f with
  | zero => intro I J v1 v2 v3 v4 v5 v6 h; exact h.elim
  | succ f ih => intro I J v1 v2 v3 v4 v5 v6 h; exact W5_bestBars_34 hO hR hG t0 hQ hkb9 ih h
set_option maxRecDepth 100000 in
theorem W5_bestBars_9 {K : tK} {B : tB} {S : tSH} {MC MS : Nat} (hO : tKO K B RX5 cX5_bestBars 7) (hR : kR K = tRm 6 MC MS) (hG : tGr S) {n : Nat} (t0 : ty S 51 5) {k : Int32 → tHI → tHJ → Prop} (hQ : tRet K B (tQi B (tPi S k)) 0 0 (some .int)) {kb9 : tHI → tHJ → Int32 → Int32 → Int32 → Int32 → Prop} (hkb9 : ∀ (I : tHI) (J : tHJ) (v1 : Int32) (v2 : Int32) (v3 : Int32) (v4 : Int32), kb9 I J v1 v2 v3 v4 → tWG K B 0 0 S I J 9 [some (vR 51), some (vI v1), some (vI v2), some (vI v3), some (vI v4), none, none] []) {I : tHI} {J : tHJ} {v1 : Int32} {v2 : Int32} {v3 : Int32} {v4 : Int32} (h : F5_bestBars_9 n S k kb9 I J v1 v2 v3 v4) : tWG K B 0 0 S I J 9 [some (vR 51), some (vI v1), some (vI v2), some (vI v3), some (vI v4), none, none] [] := by
  refine gBk (pe := 13) hO [o0 (.iload 4), oI (.bipush 9) 9] (by decide +kernel) (show tWG K B 0 0 S I J 13 [some (vR 51), some (vI v1), some (vI v2), some (vI v3), some (vI v4), none, none] [vI 9, vI v4] from ?_)
  refine gIcGt hO (off := 99) (tgt := 112) (by decide +kernel) (by decide) (fun c1 => ?_) (fun c1 => ?_)
  · have h := h.1 c1
    refine gBk (pe := 113) hO [o0 (.iload_n 1)] (by decide +kernel) (show tWG K B 0 0 S I J 113 [some (vR 51), some (vI v1), some (vI v2), some (vI v3), some (vI v4), none, none] [vI v1] from ?_)
    have hj2 : ∀ (m3 : Int32), m3 = (if v1 = 0 then (v3 + 9) else v2) → tWG K B 0 0 S I J 124 [none, none, none, none, none, none, none] [vI m3] := by
      intro m3 em3
      subst em3
      exact gIret hO hQ (by decide +kernel) ⟨rfl, h⟩
    refine gIfNe hO (off := 10) (tgt := 123) (by decide +kernel) (by decide) (fun c4 => ?_) (fun c4 => ?_)
    · refine gBk (pe := 124) hO [o0 (.iload_n 2)] (by decide +kernel) (show tWG K B 0 0 S I J 124 [some (vR 51), some (vI v1), some (vI v2), some (vI v3), some (vI v4), none, none] [vI v2] from ?_)
      exact gWeak (L' := [none, none, none, none, none, none, none]) trivial (hj2 _ (Eq.symm (if_neg c4)))
    · refine gBk (pe := 124) hO [o0 (.iload_n 3), oI (.bipush 9) 9, o0 .iadd, o0 (.goto 4)] (by decide +kernel) (show tWG K B 0 0 S I J 124 [some (vR 51), some (vI v1), some (vI v2), some (vI v3), some (vI v4), none, none] [vI (v3 + 9)] from ?_)
      exact gWeak (L' := [none, none, none, none, none, none, none]) trivial (hj2 _ (Eq.symm (if_pos c4)))
  · have h := h.2 c1
    refine gBk (pe := 34) hO [o0 (.aload_n 0), oF (.getfield 38) 5 1 173 48, oF (.getfield 139) 2 0 1290 49, oI (.bipush 6) 6, o0 (.iload 4), o0 .iastore, oI (.iconst 0) 0, o0 (.istore 5), oI (.iconst 0) 0, o0 (.istore 6)] (by decide +kernel) (And.intro t0 (And.intro rfl (And.intro (tGr.abs hG t0 (k := 1) rfl) (And.intro rfl (And.intro (tGr.off hG (tGr.abs hG t0 (k := 1) rfl) (k := 0) rfl) (And.intro (tin (tGr.len hG (tGr.abs hG t0 (k := 1) rfl) (k := 0) rfl (by decide)) (tvi (by decide +kernel))) (And.intro (Nat.le_of_ble_eq_true rfl) (And.intro (Nat.le_of_ble_eq_true rfl) (show tWG K B 0 0 S (uI I 49 6 v4) J 34 [some (vR 51), some (vI v1), some (vI v2), some (vI v3), some (vI v4), some (vI 0), some (vI 0)] [] from ?_)))))))))
    exact W5_bestBars_L34 hO hR hG t0 hQ hkb9 n _ _ _ _ _ _ _ _ h
theorem W5_bestBars_L9 {K : tK} {B : tB} {S : tSH} {MC MS : Nat} (hO : tKO K B RX5 cX5_bestBars 7) (hR : kR K = tRm 6 MC MS) (hG : tGr S) {n : Nat} (t0 : ty S 51 5) {k : Int32 → tHI → tHJ → Prop} (hQ : tRet K B (tQi B (tPi S k)) 0 0 (some .int)) : ∀ (f : Nat) (I : tHI) (J : tHJ) (v1 : Int32) (v2 : Int32) (v3 : Int32) (v4 : Int32), F5_bestBars_L9 n S k f I J v1 v2 v3 v4 → tWG K B 0 0 S I J 9 [some (vR 51), some (vI v1), some (vI v2), some (vI v3), some (vI v4), none, none] [] := by
  intro f
  induction f with
  | zero => intro I J v1 v2 v3 v4 h; exact h.elim
  | succ f ih => intro I J v1 v2 v3 v4 h; exact W5_bestBars_9 hO hR hG t0 hQ ih h
set_option maxRecDepth 20000 in
theorem hc5_bestBars : tCV yX5_bestBars cX5_bestBars 7 (some .int) 1 := ⟨⟨(List.mem_of_getElem? (i := 1336) rfl), (List.mem_of_getElem? (i := 41) (by decide +kernel)), by decide +kernel⟩, (List.mem_of_getElem? (i := 1334) (by decide +kernel)), (List.mem_of_getElem? (i := 1335) (by decide +kernel))⟩
set_option maxRecDepth 100000 in
theorem M5_bestBars {l : Launch} {B : tB} {S : tSH} {I : tHI} {J : tHJ} {v1 : Int32} {n : Nat} {k : Int32 → tHI → tHJ → Prop} (t0 : ty S 51 5) (h : F5_bestBars n S I J v1 k) : Met l yX5_bestBars (tWs yX5_bestBars cX5_bestBars 7 (some .int)) (tRm 6 0 0) (tPc B [vR 51, vI v1] S I J) (tQi B (tPi S k)) 0 0 (tA B) :=
  tEntry (by decide +kernel) [some (vR 51), some (vI v1), none, none, none, none, none] rfl rfl (Nat.le_of_ble_eq_true rfl) (fun K hl hR hO hQ hG => by
  subst hl
  refine gBk (pe := 9) hO [(.ldc 85, (0, 0, 1209, 0), 1000000000, 0), o0 (.istore_n 2), oI (.iconst 0) 0, o0 (.istore_n 3), oI (.bipush (-9)) (-9), o0 (.istore 4)] (by decide +kernel) (And.intro (Nat.le_of_ble_eq_true rfl) (And.intro (Nat.le_of_ble_eq_true rfl) (And.intro (Nat.le_of_ble_eq_true rfl) (show tWG K B 0 0 S I J 9 [some (vR 51), some (vI v1), some (vI 1000000000), some (vI 0), some (vI (-9)), none, none] [] from ?_))))
  exact W5_bestBars_L9 hO hR hG t0 hQ n _ _ _ _ _ _ h)
set_option maxRecDepth 100000 in
theorem W5_roundsToLearn_99 {K : tK} {B : tB} {S : tSH} {MC MS : Nat} (hO : tKO K B RX5 cX5_roundsToLearn 6) (hR : kR K = tRm 6 MC MS) (hG : tGr S) {n : Nat} (t0 : ty S 51 5) {k : Int32 → tHI → tHJ → Prop} (hQ : tRet K B (tQi B (tPi S k)) 0 0 (some .int)) {kb30 : tHI → tHJ → Int32 → Int32 → Int32 → Prop} (hkb30 : ∀ (I : tHI) (J : tHJ) (v1 : Int32) (v2 : Int32) (v3 : Int32), kb30 I J v1 v2 v3 → tWG K B 0 0 S I J 30 [some (vR 51), some (vI v1), some (vI v2), some (vI v3), none, none] []) {I : tHI} {J : tHJ} {v1 : Int32} {v2 : Int32} {v3 : Int32} {v4 : Int32} (h : F5_roundsToLearn_99 n S k kb30 I J v1 v2 v3 v4) : tWG K B 0 0 S I J 99 [some (vR 51), some (vI v1), some (vI v2), some (vI v3), some (vI v4), none] [] := by
  refine gBk (pe := 102) hO [o0 (.iload_n 2), o0 (.iload 4)] (by decide +kernel) (show tWG K B 0 0 S I J 102 [some (vR 51), some (vI v1), some (vI v2), some (vI v3), some (vI v4), none] [vI v4, vI v2] from ?_)
  refine gIcNe hO (off := 5) (tgt := 107) (by decide +kernel) (by decide) (fun c5 => ?_) (fun c5 => ?_)
  · have h := h.1 c5
    refine gBk (pe := 30) hO [oI (.iinc 3 1) 1, o0 (.goto (-80))] (by decide +kernel) (show tWG K B 0 0 S I J 30 [some (vR 51), some (vI v1), some (vI v2), some (vI (v3 + 1)), some (vI v4), none] [] from ?_)
    exact gWeak (L' := [some (vR 51), some (vI v1), some (vI v2), some (vI (v3 + 1)), none, none]) ⟨rfl, rfl, rfl, rfl, trivial⟩ (hkb30 _ _ _ _ _ h)
  · have h := h.2 c5
    refine gBk (pe := 106) hO [oI (.iconst (-1)) (-1)] (by decide +kernel) (show tWG K B 0 0 S I J 106 [some (vR 51), some (vI v1), some (vI v2), some (vI v3), some (vI v4), none] [vI (-1)] from ?_)
    exact gIret hO hQ (by decide +kernel) ⟨rfl, h⟩
set_option maxRecDepth 100000 in
theorem W5_roundsToLearn_51 {K : tK} {B : tB} {S : tSH} {MC MS : Nat} (hO : tKO K B RX5 cX5_roundsToLearn 6) (hR : kR K = tRm 6 MC MS) (hG : tGr S) {n : Nat} (t0 : ty S 51 5) {k : Int32 → tHI → tHJ → Prop} (hQ : tRet K B (tQi B (tPi S k)) 0 0 (some .int)) {kb30 : tHI → tHJ → Int32 → Int32 → Int32 → Prop} (hkb30 : ∀ (I : tHI) (J : tHJ) (v1 : Int32) (v2 : Int32) (v3 : Int32), kb30 I J v1 v2 v3 → tWG K B 0 0 S I J 30 [some (vR 51), some (vI v1), some (vI v2), some (vI v3), none, none] []) {kb51 : tHI → tHJ → Int32 → Int32 → Int32 → Int32 → Int32 → Prop} (hkb51 : ∀ (I : tHI) (J : tHJ) (v1 : Int32) (v2 : Int32) (v3 : Int32) (v4 : Int32) (v5 : Int32), kb51 I J v1 v2 v3 v4 v5 → tWG K B 0 0 S I J 51 [some (vR 51), some (vI v1), some (vI v2), some (vI v3), some (vI v4), some (vI v5)] []) {I : tHI} {J : tHJ} {v1 : Int32} {v2 : Int32} {v3 : Int32} {v4 : Int32} {v5 : Int32} (h : F5_roundsToLearn_51 n S k kb30 kb51 I J v1 v2 v3 v4 v5) : tWG K B 0 0 S I J 51 [some (vR 51), some (vI v1), some (vI v2), some (vI v3), some (vI v4), some (vI v5)] [] := by
  refine gBk (pe := 54) hO [o0 (.iload 5), o0 (.iload_n 1)] (by decide +kernel) (show tWG K B 0 0 S I J 54 [some (vR 51), some (vI v1), some (vI v2), some (vI v3), some (vI v4), some (vI v5)] [vI v1, vI v5] from ?_)
  refine gIcGe hO (off := 45) (tgt := 99) (by decide +kernel) (by decide) (fun c4 => ?_) (fun c4 => ?_)
  · have h := h.1 c4
    exact gWeak (L' := [some (vR 51), some (vI v1), some (vI v2), some (vI v3), some (vI v4), none]) ⟨rfl, rfl, rfl, rfl, rfl, trivial⟩ (W5_roundsToLearn_99 hO hR hG t0 hQ hkb30 h)
  · have h := h.2 c4
    refine gBk (pe := 61) hO [o0 (.iload 5), oI (.bipush 12) 12] (by decide +kernel) (show tWG K B 0 0 S I J 61 [some (vR 51), some (vI v1), some (vI v2), some (vI v3), some (vI v4), some (vI v5)] [vI 12, vI v5] from ?_)
    refine gIcGe hO (off := 38) (tgt := 99) (by decide +kernel) (by decide) (fun c6 => ?_) (fun c6 => ?_)
    · have h := h.1 c6
      exact gWeak (L' := [some (vR 51), some (vI v1), some (vI v2), some (vI v3), some (vI v4), none]) ⟨rfl, rfl, rfl, rfl, rfl, trivial⟩ (W5_roundsToLearn_99 hO hR hG t0 hQ hkb30 h)
    · have h := h.2 c6
      refine gBk (pe := 85) hO [o0 (.aload_n 0), oF (.getfield 38) 5 1 173 48, oF (.getfield 139) 2 0 1290 49, oI (.bipush 7) 7, o0 (.iload_n 2), o0 .iastore, oI (.bipush 100) 100, o0 (.iload_n 2), o0 (.aload_n 0), oF (.getfield 38) 5 1 173 48, oI (.iconst 4) 4, o0 (.iload 5)] (by decide +kernel) (And.intro t0 (And.intro rfl (And.intro (tGr.abs hG t0 (k := 1) rfl) (And.intro rfl (And.intro (tGr.off hG (tGr.abs hG t0 (k := 1) rfl) (k := 0) rfl) (And.intro (tin (tGr.len hG (tGr.abs hG t0 (k := 1) rfl) (k := 0) rfl (by decide)) (tvi (by decide +kernel))) (And.intro t0 (And.intro rfl (show tWG K B 0 0 S (uI I 49 7 v2) J 85 [some (vR 51), some (vI v1), some (vI v2), some (vI v3), some (vI v4), some (vI v5)] [vI v5, vI 4, vR 48, vI v2, vI 100] from ?_)))))))))
      refine gCVi_c hO (M2_tell (tGr.abs hG t0 (k := 1) rfl) h) hc2_tell (idx := 155) (w := 1339) (by decide +kernel) hR (by omega) (tGr.abs hG t0 (k := 1) rfl) ⟨by decide, rfl⟩ (vs := [vI 4, vI v5]) (st := [vI v2, vI 100]) ⟨rfl, Nat.le_of_ble_eq_true rfl, rfl⟩ (by decide +kernel) (fun x9 I7 J8 h => ?_)
      refine gBk (pe := 89) hO [o0 .iadd] (by decide +kernel) (show tWG K B 0 0 S I7 J8 89 [some (vR 51), some (vI v1), some (vI v2), some (vI v3), some (vI v4), some (vI v5)] [vI (v2 + x9), vI 100] from ?_)
      refine gMin hO (idx := 53) (w := 1200) (by decide +kernel) hR (by omega) (st := []) (Nat.le_of_ble_eq_true rfl) rfl (by decide +kernel) ?_
      refine gBk (pe := 51) hO [o0 (.istore_n 2), oI (.iinc 5 1) 1, o0 (.goto (-45))] (by decide +kernel) (And.intro (Nat.le_of_ble_eq_true rfl) (show tWG K B 0 0 S I7 J8 51 [some (vR 51), some (vI v1), some (vI (if (v2 + x9) < 100 then (v2 + x9) else 100)), some (vI v3), some (vI v4), some (vI (v5 + 1))] [] from ?_))
      exact hkb51 _ _ _ _ _ _ _ h
theorem W5_roundsToLearn_L51 {K : tK} {B : tB} {S : tSH} {MC MS : Nat} (hO : tKO K B RX5 cX5_roundsToLearn 6) (hR : kR K = tRm 6 MC MS) (hG : tGr S) {n : Nat} (t0 : ty S 51 5) {k : Int32 → tHI → tHJ → Prop} (hQ : tRet K B (tQi B (tPi S k)) 0 0 (some .int)) {kb30 : tHI → tHJ → Int32 → Int32 → Int32 → Prop} (hkb30 : ∀ (I : tHI) (J : tHJ) (v1 : Int32) (v2 : Int32) (v3 : Int32), kb30 I J v1 v2 v3 → tWG K B 0 0 S I J 30 [some (vR 51), some (vI v1), some (vI v2), some (vI v3), none, none] []) : ∀ (f : Nat) (I : tHI) (J : tHJ) (v1 : Int32) (v2 : Int32) (v3 : Int32) (v4 : Int32) (v5 : Int32), F5_roundsToLearn_L51 n S k kb30 f I J v1 v2 v3 v4 v5 → tWG K B 0 0 S I J 51 [some (vR 51), some (vI v1), some (vI v2), some (vI v3), some (vI v4), some (vI v5)] [] := by
  intro f
  induction f with
  | zero => intro I J v1 v2 v3 v4 v5 h; exact h.elim
  | succ f ih => intro I J v1 v2 v3 v4 v5 h; exact W5_roundsToLearn_51 hO hR hG t0 hQ hkb30 ih h
set_option maxRecDepth 100000 in
theorem W5_roundsToLearn_30 {K : tK} {B : tB} {S : tSH} {MC MS : Nat} (hO : tKO K B RX5 cX5_roundsToLearn 6) (hR : kR K = tRm 6 MC MS) (hG : tGr S) {n : Nat} (t0 : ty S 51 5) {k : Int32 → tHI → tHJ → Prop} (hQ : tRet K B (tQi B (tPi S k)) 0 0 (some .int)) {kb30 : tHI → tHJ → Int32 → Int32 → Int32 → Prop} (hkb30 : ∀ (I : tHI) (J : tHJ) (v1 : Int32) (v2 : Int32) (v3 : Int32), kb30 I J v1 v2 v3 → tWG K B 0 0 S I J 30 [some (vR 51), some (vI v1), some (vI v2), some (vI v3), none, none] []) {I : tHI} {J : tHJ} {v1 : Int32} {v2 : Int32} {v3 : Int32} (h : F5_roundsToLearn_30 n S k kb30 I J v1 v2 v3) : tWG K B 0 0 S I J 30 [some (vR 51), some (vI v1), some (vI v2), some (vI v3), none, none] [] := by
  refine gBk (pe := 34) hO [o0 (.iload_n 3), oI (.sipush 1000) 1000] (by decide +kernel) (show tWG K B 0 0 S I J 34 [some (vR 51), some (vI v1), some (vI v2), some (vI v3), none, none] [vI 1000, vI v3] from ?_)
  refine gIcGe hO (off := 79) (tgt := 113) (by decide +kernel) (by decide) (fun c2 => ?_) (fun c2 => ?_)
  · have h := h.1 c2
    refine gBk (pe := 114) hO [oI (.iconst (-1)) (-1)] (by decide +kernel) (show tWG K B 0 0 S I J 114 [some (vR 51), some (vI v1), some (vI v2), some (vI v3), none, none] [vI (-1)] from ?_)
    exact gIret hO hQ (by decide +kernel) ⟨rfl, h⟩
  · have h := h.2 c2
    refine gBk (pe := 40) hO [o0 (.iload_n 2), oI (.bipush 100) 100] (by decide +kernel) (show tWG K B 0 0 S I J 40 [some (vR 51), some (vI v1), some (vI v2), some (vI v3), none, none] [vI 100, vI v2] from ?_)
    refine gIcLt hO (off := 5) (tgt := 45) (by decide +kernel) (by decide) (fun c3 => ?_) (fun c3 => ?_)
    · have h := h.1 c3
      refine gBk (pe := 51) hO [o0 (.iload_n 2), o0 (.istore 4), oI (.iconst 0) 0, o0 (.istore 5)] (by decide +kernel) (And.intro (Nat.le_of_ble_eq_true rfl) (And.intro (Nat.le_of_ble_eq_true rfl) (show tWG K B 0 0 S I J 51 [some (vR 51), some (vI v1), some (vI v2), some (vI v3), some (vI v2), some (vI 0)] [] from ?_)))
      exact W5_roundsToLearn_L51 hO hR hG t0 hQ hkb30 n _ _ _ _ _ _ _ h
    · have h := h.2 c3
      refine gBk (pe := 44) hO [o0 (.iload_n 3)] (by decide +kernel) (show tWG K B 0 0 S I J 44 [some (vR 51), some (vI v1), some (vI v2), some (vI v3), none, none] [vI v3] from ?_)
      exact gIret hO hQ (by decide +kernel) ⟨rfl, h⟩
theorem W5_roundsToLearn_L30 {K : tK} {B : tB} {S : tSH} {MC MS : Nat} (hO : tKO K B RX5 cX5_roundsToLearn 6) (hR : kR K = tRm 6 MC MS) (hG : tGr S) {n : Nat} (t0 : ty S 51 5) {k : Int32 → tHI → tHJ → Prop} (hQ : tRet K B (tQi B (tPi S k)) 0 0 (some .int)) : ∀ (f : Nat) (I : tHI) (J : tHJ) (v1 : Int32) (v2 : Int32) (v3 : Int32), F5_roundsToLearn_L30 n S k f I J v1 v2 v3 → tWG K B 0 0 S I J 30 [some (vR 51), some (vI v1), some (vI v2), some (vI v3), none, none] [] := by
  intro f
  induction f with
  | zero => intro I J v1 v2 v3 h; exact h.elim
  | succ f ih => intro I J v1 v2 v3 h; exact W5_roundsToLearn_30 hO hR hG t0 hQ ih h
set_option maxRecDepth 20000 in
theorem hc5_roundsToLearn : tCV yX5_roundsToLearn cX5_roundsToLearn 6 (some .int) 0 := ⟨⟨(List.mem_of_getElem? (i := 1351) rfl), (List.mem_of_getElem? (i := 41) (by decide +kernel)), by decide +kernel⟩, (List.mem_of_getElem? (i := 1349) (by decide +kernel)), (List.mem_of_getElem? (i := 1350) (by decide +kernel))⟩
set_option maxRecDepth 100000 in
theorem M5_roundsToLearn {l : Launch} {B : tB} {S : tSH} {I : tHI} {J : tHJ} {n : Nat} {k : Int32 → tHI → tHJ → Prop} (t0 : ty S 51 5) (h : F5_roundsToLearn n S I J k) : Met l yX5_roundsToLearn (tWs yX5_roundsToLearn cX5_roundsToLearn 6 (some .int)) (tRm 6 0 0) (tPc B [vR 51] S I J) (tQi B (tPi S k)) 0 0 (tA B) :=
  tEntry (by decide +kernel) [some (vR 51), none, none, none, none, none] rfl rfl (Nat.le_of_ble_eq_true rfl) (fun K hl hR hO hQ hG => by
  subst hl
  refine gBk (pe := 23) hO [o0 (.aload_n 0), oF (.getfield 34) 5 0 172 1, oF (.getfield 42) 8 1 1198 7, oF (.getfield 48) 7 0 1199 0, o0 (.istore_n 1), o0 (.aload_n 0), oF (.getfield 34) 5 0 172 1, oF (.getfield 73) 8 2 1201 15, oF (.getfield 164) 10 5 1352 0, o0 (.istore_n 2), o0 (.iload_n 1)] (by decide +kernel) (And.intro t0 (And.intro rfl (And.intro (tGr.abs hG t0 (k := 0) rfl) (And.intro rfl (And.intro (tGr.off hG (tGr.abs hG t0 (k := 0) rfl) (k := 1) rfl) (And.intro (Nat.le_of_ble_eq_true rfl) (And.intro t0 (And.intro rfl (And.intro (tGr.abs hG t0 (k := 0) rfl) (And.intro rfl (And.intro (tGr.off hG (tGr.abs hG t0 (k := 0) rfl) (k := 2) rfl) (And.intro (Nat.le_of_ble_eq_true rfl) (show tWG K B 0 0 S I J 23 [some (vR 51), some (vI (I 7 0)), some (vI (I 15 5)), none, none, none] [vI (I 7 0)] from ?_)))))))))))))
  refine gIfNe hO (off := 5) (tgt := 28) (by decide +kernel) (by decide) (fun c1 => ?_) (fun c1 => ?_)
  · have h := h.1 c1
    refine gBk (pe := 30) hO [oI (.iconst 0) 0, o0 (.istore_n 3)] (by decide +kernel) (And.intro (Nat.le_of_ble_eq_true rfl) (show tWG K B 0 0 S I J 30 [some (vR 51), some (vI (I 7 0)), some (vI (I 15 5)), some (vI 0), none, none] [] from ?_))
    exact W5_roundsToLearn_L30 hO hR hG t0 hQ n _ _ _ _ _ h
  · have h := h.2 c1
    refine gBk (pe := 27) hO [oI (.iconst (-1)) (-1)] (by decide +kernel) (show tWG K B 0 0 S I J 27 [some (vR 51), some (vI (I 7 0)), some (vI (I 15 5)), none, none, none] [vI (-1)] from ?_)
    exact gIret hO hQ (by decide +kernel) ⟨rfl, h⟩)
set_option maxRecDepth 100000 in
theorem W5_allSeen_89 {K : tK} {B : tB} {S : tSH} {MC MS : Nat} (hO : tKO K B RX5 cX5_allSeen 5) (hR : kR K = tRm 7 MC MS) (hG : tGr S) {n : Nat} (t0 : ty S 51 5) {k : Int32 → tHI → tHJ → Prop} (hQ : tRet K B (tQi B (tPb S k)) 0 0 (some .boolean)) {I : tHI} {J : tHJ} (h : F5_allSeen_89 n S k I J) : tWG K B 0 0 S I J 89 [none, none, none, none, none] [] := by
  refine gBk (pe := 90) hO [oI (.iconst 1) 1] (by decide +kernel) (show tWG K B 0 0 S I J 90 [none, none, none, none, none] [vI 1] from ?_)
  exact gZret hO hQ (by decide +kernel) (Or.inr rfl) ⟨rfl, (Or.inr rfl), h⟩
set_option maxRecDepth 100000 in
theorem W5_allSeen_18 {K : tK} {B : tB} {S : tSH} {MC MS : Nat} (hO : tKO K B RX5 cX5_allSeen 5) (hR : kR K = tRm 7 MC MS) (hG : tGr S) {n : Nat} (t0 : ty S 51 5) {k : Int32 → tHI → tHJ → Prop} (hQ : tRet K B (tQi B (tPb S k)) 0 0 (some .boolean)) {kb18 : tHI → tHJ → Int32 → Prop} (hkb18 : ∀ (I : tHI) (J : tHJ) (v3 : Int32), kb18 I J v3 → tWG K B 0 0 S I J 18 [some (vR 51), none, some (vR 7), some (vI v3), none] []) {I : tHI} {J : tHJ} {v3 : Int32} (h : F5_allSeen_18 n S k kb18 I J v3) : tWG K B 0 0 S I J 18 [some (vR 51), none, some (vR 7), some (vI v3), none] [] := by
  refine gBk (pe := 23) hO [o0 (.iload_n 3), o0 (.aload_n 2), oF (.getfield 173) 7 5 1389 0] (by decide +kernel) (And.intro (tGr.off hG (tGr.abs hG t0 (k := 0) rfl) (k := 1) rfl) (show tWG K B 0 0 S I J 23 [some (vR 51), none, some (vR 7), some (vI v3), none] [vI (I 7 5), vI v3] from ?_))
  refine gIcGe hO (off := 66) (tgt := 89) (by decide +kernel) (by decide) (fun c3 => ?_) (fun c3 => ?_)
  · have h := h.1 c3
    exact gWeak (L' := [none, none, none, none, none]) trivial (W5_allSeen_89 hO hR hG t0 hQ h)
  · have h := h.2 c3
    refine gBk (pe := 29) hO [o0 (.iload_n 3), oI (.bipush 8) 8] (by decide +kernel) (show tWG K B 0 0 S I J 29 [some (vR 51), none, some (vR 7), some (vI v3), none] [vI 8, vI v3] from ?_)
    refine gIcGe hO (off := 60) (tgt := 89) (by decide +kernel) (by decide) (fun c4 => ?_) (fun c4 => ?_)
    · have h := h.1 c4
      exact gWeak (L' := [none, none, none, none, none]) trivial (W5_allSeen_89 hO hR hG t0 hQ h)
    · have h := h.2 c4
      refine gBk (pe := 48) hO [o0 (.aload_n 0), oF (.getfield 38) 5 1 173 48, o0 (.aload_n 2), oF (.getfield 176) 7 6 1390 12, o0 (.iload_n 3), o0 .iaload, o0 (.aload_n 2), oF (.getfield 179) 7 7 1391 13, o0 (.iload_n 3), o0 .iaload] (by decide +kernel) (And.intro t0 (And.intro rfl (And.intro (tGr.off hG (tGr.abs hG t0 (k := 0) rfl) (k := 1) rfl) (And.intro rfl (And.intro (tGr.off hG (tGr.off hG (tGr.abs hG t0 (k := 0) rfl) (k := 1) rfl) (k := 6) rfl) (And.intro (tin (tGr.len hG (tGr.off hG (tGr.abs hG t0 (k := 0) rfl) (k := 1) rfl) (k := 6) rfl (by decide)) h.1) (And.intro (tGr.off hG (tGr.abs hG t0 (k := 0) rfl) (k := 1) rfl) (And.intro rfl (And.intro (tGr.off hG (tGr.off hG (tGr.abs hG t0 (k := 0) rfl) (k := 1) rfl) (k := 7) rfl) (And.intro (tin (tGr.len hG (tGr.off hG (tGr.abs hG t0 (k := 0) rfl) (k := 1) rfl) (k := 7) rfl (by decide)) h.2.1) (show tWG K B 0 0 S I J 48 [some (vR 51), none, some (vR 7), some (vI v3), none] [vI (I 13 v3.toNatClampNeg), vI (I 12 v3.toNatClampNeg), vR 48] from ?_)))))))))))
      have h := h.2.2
      refine gCVi_c hO (M2_outcome (tGr.abs hG t0 (k := 1) rfl) h) hc2_outcome (idx := 182) (w := 1394) (by decide +kernel) hR (by omega) (tGr.abs hG t0 (k := 1) rfl) ⟨by decide, rfl⟩ (vs := [vI (I 12 v3.toNatClampNeg), vI (I 13 v3.toNatClampNeg)]) (st := []) ⟨rfl, Nat.le_of_ble_eq_true rfl, rfl⟩ (by decide +kernel) (fun x7 I5 J6 h => ?_)
      have hj8 : ∀ (m9 : Int32), m9 = (if x7 = 0 then (1 : Int32) else 0) → tWG K B 0 0 S I5 J6 59 [some (vR 51), none, some (vR 7), some (vI v3), none] [vI m9] := by
        intro m9 em9
        subst em9
        refine gBk (pe := 70) hO [o0 (.istore 4), o0 (.iload 4), o0 (.aload_n 2), oF (.getfield 185) 7 8 1392 14, o0 (.iload_n 3), o0 .iaload, oI (.iconst 1) 1] (by decide +kernel) (And.intro (Nat.le_of_ble_eq_true rfl) (And.intro (tGr.off hG (tGr.abs hG t0 (k := 0) rfl) (k := 1) rfl) (And.intro rfl (And.intro (tGr.off hG (tGr.off hG (tGr.abs hG t0 (k := 0) rfl) (k := 1) rfl) (k := 8) rfl) (And.intro (tin (tGr.len hG (tGr.off hG (tGr.abs hG t0 (k := 0) rfl) (k := 1) rfl) (k := 8) rfl (by decide)) h.1) (show tWG K B 0 0 S I5 J6 70 [some (vR 51), none, some (vR 7), some (vI v3), some (vI (if x7 = 0 then (1 : Int32) else 0))] [vI 1, vI (I5 14 v3.toNatClampNeg), vI (if x7 = 0 then (1 : Int32) else 0)] from ?_))))))
        have h := h.2
        have hj11 : ∀ (m12 : Int32), m12 = (if (I5 14 v3.toNatClampNeg) = 1 then (1 : Int32) else 0) → tWG K B 0 0 S I5 J6 78 [some (vR 51), none, some (vR 7), some (vI v3), none] [vI m12, vI (if x7 = 0 then (1 : Int32) else 0)] := by
          intro m12 em12
          subst em12
          refine gIcEq hO (off := 5) (tgt := 83) (by decide +kernel) (by decide) (fun c14 => ?_) (fun c14 => ?_)
          · have h := h.1 c14
            refine gBk (pe := 18) hO [oI (.iinc 3 1) 1, o0 (.goto (-68))] (by decide +kernel) (show tWG K B 0 0 S I5 J6 18 [some (vR 51), none, some (vR 7), some (vI (v3 + 1)), none] [] from ?_)
            exact hkb18 _ _ _ h
          · have h := h.2 c14
            refine gBk (pe := 82) hO [oI (.iconst 0) 0] (by decide +kernel) (show tWG K B 0 0 S I5 J6 82 [some (vR 51), none, some (vR 7), some (vI v3), none] [vI 0] from ?_)
            exact gZret hO hQ (by decide +kernel) (Or.inl rfl) ⟨rfl, (Or.inl rfl), h⟩
        refine gIcNe hO (off := 7) (tgt := 77) (by decide +kernel) (by decide) (fun c13 => ?_) (fun c13 => ?_)
        · refine gBk (pe := 78) hO [oI (.iconst 0) 0] (by decide +kernel) (show tWG K B 0 0 S I5 J6 78 [some (vR 51), none, some (vR 7), some (vI v3), some (vI (if x7 = 0 then (1 : Int32) else 0))] [vI 0, vI (if x7 = 0 then (1 : Int32) else 0)] from ?_)
          exact gWeak (L' := [some (vR 51), none, some (vR 7), some (vI v3), none]) ⟨rfl, rfl, rfl, trivial⟩ (hj11 _ (Eq.symm (if_neg c13)))
        · refine gBk (pe := 78) hO [oI (.iconst 1) 1, o0 (.goto 4)] (by decide +kernel) (show tWG K B 0 0 S I5 J6 78 [some (vR 51), none, some (vR 7), some (vI v3), some (vI (if x7 = 0 then (1 : Int32) else 0))] [vI 1, vI (if x7 = 0 then (1 : Int32) else 0)] from ?_)
          exact gWeak (L' := [some (vR 51), none, some (vR 7), some (vI v3), none]) ⟨rfl, rfl, rfl, trivial⟩ (hj11 _ (Eq.symm (if_pos c13)))
      refine gIfNe hO (off := 7) (tgt := 58) (by decide +kernel) (by decide) (fun c10 => ?_) (fun c10 => ?_)
      · refine gBk (pe := 59) hO [oI (.iconst 0) 0] (by decide +kernel) (show tWG K B 0 0 S I5 J6 59 [some (vR 51), none, some (vR 7), some (vI v3), none] [vI 0] from ?_)
        exact (hj8 _ (Eq.symm (if_neg c10)))
      · refine gBk (pe := 59) hO [oI (.iconst 1) 1, o0 (.goto 4)] (by decide +kernel) (show tWG K B 0 0 S I5 J6 59 [some (vR 51), none, some (vR 7), some (vI v3), none] [vI 1] from ?_)
        exact (hj8 _ (Eq.symm (if_pos c10)))
theorem W5_allSeen_L18 {K : tK} {B : tB} {S : tSH} {MC MS : Nat} (hO : tKO K B RX5 cX5_allSeen 5) (hR : kR K = tRm 7 MC MS) (hG : tGr S) {n : Nat} (t0 : ty S 51 5) {k : Int32 → tHI → tHJ → Prop} (hQ : tRet K B (tQi B (tPb S k)) 0 0 (some .boolean)) : ∀ (f : Nat) (I : tHI) (J : tHJ) (v3 : Int32), F5_allSeen_L18 n S k f I J v3 → tWG K B 0 0 S I J 18 [some (vR 51), none, some (vR 7), some (vI v3), none] [] := by
  intro f
  induction f with
  | zero => intro I J v3 h; exact h.elim
  | succ f ih => intro I J v3 h; exact W5_allSeen_18 hO hR hG t0 hQ ih h
set_option maxRecDepth 20000 in
theorem hc5_allSeen : tCV yX5_allSeen cX5_allSeen 5 (some .boolean) 1 := ⟨⟨(List.mem_of_getElem? (i := 1388) rfl), (List.mem_of_getElem? (i := 41) (by decide +kernel)), by decide +kernel⟩, (List.mem_of_getElem? (i := 1386) (by decide +kernel)), (List.mem_of_getElem? (i := 1387) (by decide +kernel))⟩
set_option maxRecDepth 100000 in
theorem M5_allSeen {l : Launch} {B : tB} {S : tSH} {I : tHI} {J : tHJ} {v1 : Int32} {n : Nat} {k : Int32 → tHI → tHJ → Prop} (t0 : ty S 51 5) (h : F5_allSeen n S I J v1 k) : Met l yX5_allSeen (tWs yX5_allSeen cX5_allSeen 5 (some .boolean)) (tRm 7 0 0) (tPc B [vR 51, vI v1] S I J) (tQi B (tPb S k)) 0 0 (tA B) :=
  tEntry (by decide +kernel) [some (vR 51), some (vI v1), none, none, none] rfl rfl (Nat.le_of_ble_eq_true rfl) (fun K hl hR hO hQ hG => by
  subst hl
  refine gBk (pe := 13) hO [o0 (.aload_n 0), oF (.getfield 34) 5 0 172 1, oF (.getfield 42) 8 1 1198 7, o0 (.astore_n 2), o0 (.aload_n 0), oF (.getfield 38) 5 1 173 48, o0 (.iload_n 1)] (by decide +kernel) (And.intro t0 (And.intro rfl (And.intro (tGr.abs hG t0 (k := 0) rfl) (And.intro rfl (And.intro (Nat.le_of_ble_eq_true rfl) (And.intro t0 (And.intro rfl (show tWG K B 0 0 S I J 13 [some (vR 51), some (vI v1), some (vR 7), none, none] [vI v1, vR 48] from ?_))))))))
  refine gCVv_c hO (M2_weigh (tGr.abs hG t0 (k := 1) rfl) h) hc2_weigh (idx := 170) (w := 1393) (by decide +kernel) hR (by omega) (tGr.abs hG t0 (k := 1) rfl) ⟨by decide, rfl⟩ (vs := [vI v1]) (st := []) ⟨rfl, Nat.le_of_ble_eq_true rfl, rfl⟩ (by decide +kernel) (fun I1 J2 h => ?_)
  refine gBk (pe := 18) hO [oI (.iconst 0) 0, o0 (.istore_n 3)] (by decide +kernel) (And.intro (Nat.le_of_ble_eq_true rfl) (show tWG K B 0 0 S I1 J2 18 [some (vR 51), some (vI v1), some (vR 7), some (vI 0), none] [] from ?_))
  exact gWeak (L' := [some (vR 51), none, some (vR 7), some (vI 0), none]) ⟨rfl, rfl, rfl, trivial⟩ (W5_allSeen_L18 hO hR hG t0 hQ n _ _ _ h))
set_option maxRecDepth 100000 in
theorem W11_load_29 {K : tK} {B : tB} {S : tSH} {MC MS : Nat} (hO : tKO K B RX11 cX11_load 4) (hR : kR K = tRm 6 MC MS) (hG : tGr S) {n : Nat} (t0 : ty S 0 11) {k : Int32 → tHI → tHJ → Prop} (hQ : tRet K B (tQi B (tPi S k)) 0 0 (some .int)) {I : tHI} {J : tHJ} (h : F11_load_29 n S k I J) : tWG K B 0 0 S I J 29 [some (vR 0), none, none, none] [] := by
  refine gBk (pe := 31) hO [o0 (.aload_n 0), oI (.iconst (-1)) (-1)] (by decide +kernel) (show tWG K B 0 0 S I J 31 [some (vR 0), none, none, none] [vI (-1), vR 0] from ?_)
  refine gCVi_c hO (M11_settle t0 h) hc11_settle (idx := 110) (w := 248) (by decide +kernel) hR (by omega) t0 ⟨by decide, rfl⟩ (vs := [vI (-1)]) (st := []) ⟨rfl, Nat.le_of_ble_eq_true rfl, rfl⟩ (by decide +kernel) (fun x5 I3 J4 h => ?_)
  exact gIret hO hQ (by decide +kernel) ⟨rfl, h⟩
set_option maxRecDepth 20000 in
theorem hc11_load : tCV yX11_load cX11_load 4 (some .int) 3 := ⟨⟨(List.mem_of_getElem? (i := 241) rfl), (List.mem_of_getElem? (i := 2) (by decide +kernel)), by decide +kernel⟩, (List.mem_of_getElem? (i := 239) (by decide +kernel)), (List.mem_of_getElem? (i := 240) (by decide +kernel))⟩
set_option maxRecDepth 100000 in
theorem M11_load {l : Launch} {B : tB} {S : tSH} {I : tHI} {J : tHJ} {v1 : Int32} {v2 : Int32} {v3 : Int32} {n : Nat} {k : Int32 → tHI → tHJ → Prop} (t0 : ty S 0 11) (h : F11_load n S I J v1 v2 v3 k) : Met l yX11_load (tWs yX11_load cX11_load 4 (some .int)) (tRm 6 0 0) (tPc B [vR 0, vI v1, vI v2, vI v3] S I J) (tQi B (tPi S k)) 0 0 (tA B) :=
  tEntry (by decide +kernel) [some (vR 0), some (vI v1), some (vI v2), some (vI v3)] rfl rfl (Nat.le_of_ble_eq_true rfl) (fun K hl hR hO hQ hG => by
  subst hl
  refine gBk (pe := 5) hO [o0 (.iload_n 1), oI (.iconst 0) 0, oI (.sipush 200) 200] (by decide +kernel) (show tWG K B 0 0 S I J 5 [some (vR 0), some (vI v1), some (vI v2), some (vI v3)] [vI 200, vI 0, vI v1] from ?_)
  refine gCSi_z hO (M11_within) hc11_within (idx := 106) (w := 245) (by decide +kernel) hR (by omega) (vs := [vI v1, vI 0, vI 200]) (st := []) ⟨rfl, Nat.le_of_ble_eq_true rfl, rfl⟩ (by decide +kernel) (fun z1 => ?_)
  refine gIfEq hO (off := 21) (tgt := 29) (by decide +kernel) (by decide) (fun c2 => ?_) (fun c2 => ?_)
  · have h := h.1 c2
    exact gWeak (L' := [some (vR 0), none, none, none]) ⟨rfl, trivial⟩ (W11_load_29 hO hR hG t0 hQ h)
  · have h := h.2 c2
    refine gBk (pe := 14) hO [o0 (.iload_n 2), oI (.iconst 0) 0, oI (.iconst 3) 3] (by decide +kernel) (show tWG K B 0 0 S I J 14 [some (vR 0), some (vI v1), some (vI v2), some (vI v3)] [vI 3, vI 0, vI v2] from ?_)
    refine gCSi_z hO (M11_within) hc11_within (idx := 106) (w := 245) (by decide +kernel) hR (by omega) (vs := [vI v2, vI 0, vI 3]) (st := []) ⟨rfl, Nat.le_of_ble_eq_true rfl, rfl⟩ (by decide +kernel) (fun z6 => ?_)
    refine gIfEq hO (off := 12) (tgt := 29) (by decide +kernel) (by decide) (fun c7 => ?_) (fun c7 => ?_)
    · have h := h.1 c7
      exact gWeak (L' := [some (vR 0), none, none, none]) ⟨rfl, trivial⟩ (W11_load_29 hO hR hG t0 hQ h)
    · have h := h.2 c7
      refine gBk (pe := 23) hO [o0 (.iload_n 3), oI (.iconst 0) 0, oI (.iconst 1) 1] (by decide +kernel) (show tWG K B 0 0 S I J 23 [some (vR 0), some (vI v1), some (vI v2), some (vI v3)] [vI 1, vI 0, vI v3] from ?_)
      refine gCSi_z hO (M11_within) hc11_within (idx := 106) (w := 245) (by decide +kernel) hR (by omega) (vs := [vI v3, vI 0, vI 1]) (st := []) ⟨rfl, Nat.le_of_ble_eq_true rfl, rfl⟩ (by decide +kernel) (fun z8 => ?_)
      refine gIfNe hO (off := 9) (tgt := 35) (by decide +kernel) (by decide) (fun c9 => ?_) (fun c9 => ?_)
      · have h := h.1 c9
        refine gBk (pe := 39) hO [o0 (.aload_n 0), oF (.getfield 59) 11 8 38 48] (by decide +kernel) (And.intro t0 (And.intro rfl (show tWG K B 0 0 S I J 39 [some (vR 0), some (vI v1), some (vI v2), some (vI v3)] [vR 48] from ?_)))
        refine gCVv_c hO (M2_asItStands (tGr.off hG t0 (k := 8) rfl) h) hc2_asItStands (idx := 114) (w := 255) (by decide +kernel) hR (by omega) (tGr.off hG t0 (k := 8) rfl) ⟨by decide, rfl⟩ (vs := []) (st := []) ⟨rfl, Nat.le_of_ble_eq_true rfl, rfl⟩ (by decide +kernel) (fun I10 J11 h => ?_)
        refine gBk (pe := 49) hO [o0 (.aload_n 0), oF (.getfield 59) 11 8 38 48, o0 (.iload_n 1), o0 (.iload_n 2), o0 (.iload_n 3)] (by decide +kernel) (And.intro t0 (And.intro rfl (show tWG K B 0 0 S I10 J11 49 [some (vR 0), some (vI v1), some (vI v2), some (vI v3)] [vI v3, vI v2, vI v1, vR 48] from ?_)))
        refine gCVi_b hO (M2_barred (tGr.off hG t0 (k := 8) rfl) h) hc2_barred (idx := 117) (w := 273) (by decide +kernel) hR (by omega) (tGr.off hG t0 (k := 8) rfl) ⟨by decide, rfl⟩ (vs := [vI v1, vI v2, vI v3]) (st := []) ⟨rfl, Nat.le_of_ble_eq_true rfl, rfl⟩ (by decide +kernel) (fun x14 I12 J13 z15 h => ?_)
        have h := h z15
        refine gIfEq hO (off := 10) (tgt := 62) (by decide +kernel) (by decide) (fun c16 => ?_) (fun c16 => ?_)
        · have h := h.1 c16
          refine gBk (pe := 74) hO [o0 (.aload_n 0), oF (.getfield 12) 11 0 15 1, oF (.getfield 120) 8 0 242 2, oF (.getfield 124) 3 0 243 0, oI (.bipush 6) 6] (by decide +kernel) (And.intro t0 (And.intro rfl (And.intro (tGr.off hG t0 (k := 0) rfl) (And.intro rfl (And.intro (tGr.off hG (tGr.off hG t0 (k := 0) rfl) (k := 0) rfl) (show tWG K B 0 0 S I12 J13 74 [some (vR 0), some (vI v1), some (vI v2), some (vI v3)] [vI 6, vI (I12 2 0)] from ?_))))))
          refine gIcLt hO (off := 10) (tgt := 84) (by decide +kernel) (by decide) (fun c17 => ?_) (fun c17 => ?_)
          · have h := h.1 c17
            refine gBk (pe := 103) hO [o0 (.aload_n 0), oF (.getfield 26) 11 3 21 34, oI (.iconst 0) 0, oF (.putfield 129) 1 1 244 0, o0 (.aload_n 0), o0 (.aload_n 0), oF (.getfield 12) 11 0 15 1, oF (.getfield 120) 8 0 242 2, o0 (.iload_n 1), o0 (.iload_n 2), o0 (.iload_n 3)] (by decide +kernel) (And.intro t0 (And.intro rfl (And.intro (tGr.off hG t0 (k := 3) rfl) (And.intro t0 (And.intro rfl (And.intro (tGr.off hG t0 (k := 0) rfl) (And.intro rfl (show tWG K B 0 0 S (uI I12 34 1 0) J13 103 [some (vR 0), some (vI v1), some (vI v2), some (vI v3)] [vI v3, vI v2, vI v1, vR 2, vR 0] from ?_))))))))
            refine gCVi_c hO (M3_add (tGr.off hG (tGr.off hG t0 (k := 0) rfl) (k := 0) rfl) h) hc3_add (idx := 132) (w := 308) (by decide +kernel) hR (by omega) (tGr.off hG (tGr.off hG t0 (k := 0) rfl) (k := 0) rfl) ⟨by decide, rfl⟩ (vs := [vI v1, vI v2, vI v3]) (st := [vR 0]) ⟨rfl, Nat.le_of_ble_eq_true rfl, rfl⟩ (by decide +kernel) (fun x20 I18 J19 h => ?_)
            refine gCVi_c hO (M11_settle t0 h) hc11_settle (idx := 110) (w := 248) (by decide +kernel) hR (by omega) t0 ⟨by decide, rfl⟩ (vs := [vI x20]) (st := []) ⟨rfl, Nat.le_of_ble_eq_true rfl, rfl⟩ (by decide +kernel) (fun x23 I21 J22 h => ?_)
            exact gIret hO hQ (by decide +kernel) ⟨rfl, h⟩
          · have h := h.2 c17
            refine gBk (pe := 80) hO [o0 (.aload_n 0), oI (.bipush (-5)) (-5)] (by decide +kernel) (show tWG K B 0 0 S I12 J13 80 [some (vR 0), some (vI v1), some (vI v2), some (vI v3)] [vI (-5), vR 0] from ?_)
            refine gCVi_c hO (M11_settle t0 h) hc11_settle (idx := 110) (w := 248) (by decide +kernel) hR (by omega) t0 ⟨by decide, rfl⟩ (vs := [vI (-5)]) (st := []) ⟨rfl, Nat.le_of_ble_eq_true rfl, rfl⟩ (by decide +kernel) (fun x26 I24 J25 h => ?_)
            exact gIret hO hQ (by decide +kernel) ⟨rfl, h⟩
        · have h := h.2 c16
          refine gBk (pe := 58) hO [o0 (.aload_n 0), oI (.bipush (-3)) (-3)] (by decide +kernel) (show tWG K B 0 0 S I12 J13 58 [some (vR 0), some (vI v1), some (vI v2), some (vI v3)] [vI (-3), vR 0] from ?_)
          refine gCVi_c hO (M11_settle t0 h) hc11_settle (idx := 110) (w := 248) (by decide +kernel) hR (by omega) t0 ⟨by decide, rfl⟩ (vs := [vI (-3)]) (st := []) ⟨rfl, Nat.le_of_ble_eq_true rfl, rfl⟩ (by decide +kernel) (fun x29 I27 J28 h => ?_)
          exact gIret hO hQ (by decide +kernel) ⟨rfl, h⟩
      · have h := h.2 c9
        exact gWeak (L' := [some (vR 0), none, none, none]) ⟨rfl, trivial⟩ (W11_load_29 hO hR hG t0 hQ h))
set_option maxRecDepth 100000 in
theorem W11_of_26 {K : tK} {B : tB} {S : tSH} {MC MS : Nat} (hO : tKO K B RX11 cX11_of 4) (hR : kR K = tRm 6 MC MS) (hG : tGr S) {n : Nat} (t0 : ty S 0 11) {k : Int32 → tHI → tHJ → Prop} (hQ : tRet K B (tQi B (tPi S k)) 0 0 (some .int)) {I : tHI} {J : tHJ} (h : F11_of_26 n S k I J) : tWG K B 0 0 S I J 26 [none, none, none, none] [] := by
  refine gBk (pe := 29) hO [oI (.sipush (-1000)) (-1000)] (by decide +kernel) (show tWG K B 0 0 S I J 29 [none, none, none, none] [vI (-1000)] from ?_)
  exact gIret hO hQ (by decide +kernel) ⟨rfl, h⟩
set_option maxRecDepth 20000 in
theorem hc11_of : tCV yX11_of cX11_of 4 (some .int) 2 := ⟨⟨(List.mem_of_getElem? (i := 376) rfl), (List.mem_of_getElem? (i := 2) (by decide +kernel)), by decide +kernel⟩, (List.mem_of_getElem? (i := 374) (by decide +kernel)), (List.mem_of_getElem? (i := 375) (by decide +kernel))⟩
set_option maxRecDepth 100000 in
theorem M11_of {l : Launch} {B : tB} {S : tSH} {I : tHI} {J : tHJ} {v1 : Int32} {v2 : Int32} {n : Nat} {k : Int32 → tHI → tHJ → Prop} (t0 : ty S 0 11) (h : F11_of n S I J v1 v2 k) : Met l yX11_of (tWs yX11_of cX11_of 4 (some .int)) (tRm 6 0 0) (tPc B [vR 0, vI v1, vI v2] S I J) (tQi B (tPi S k)) 0 0 (tA B) :=
  tEntry (by decide +kernel) [some (vR 0), some (vI v1), some (vI v2), none] rfl rfl (Nat.le_of_ble_eq_true rfl) (fun K hl hR hO hQ hG => by
  subst hl
  refine gBk (pe := 10) hO [o0 (.aload_n 0), oF (.getfield 12) 11 0 15 1, oF (.getfield 120) 8 0 242 2, o0 (.astore_n 3), o0 (.aload_n 3), o0 (.iload_n 1)] (by decide +kernel) (And.intro t0 (And.intro rfl (And.intro (tGr.off hG t0 (k := 0) rfl) (And.intro rfl (And.intro (Nat.le_of_ble_eq_true rfl) (show tWG K B 0 0 S I J 10 [some (vR 0), some (vI v1), some (vI v2), some (vR 2)] [vI v1, vR 2] from ?_))))))
  refine gCVi_z hO (M3_has (tGr.off hG (tGr.off hG t0 (k := 0) rfl) (k := 0) rfl)) hc3_has (idx := 136) (w := 381) (by decide +kernel) hR (by omega) (tGr.off hG (tGr.off hG t0 (k := 0) rfl) (k := 0) rfl) ⟨by decide, rfl⟩ (vs := [vI v1]) (st := []) ⟨rfl, Nat.le_of_ble_eq_true rfl, rfl⟩ (by decide +kernel) (fun z1 => ?_)
  refine gIfEq hO (off := 13) (tgt := 26) (by decide +kernel) (by decide) (fun c2 => ?_) (fun c2 => ?_)
  · have h := h.1 c2
    exact gWeak (L' := [none, none, none, none]) trivial (W11_of_26 hO hR hG t0 hQ h)
  · have h := h.2 c2
    refine gBk (pe := 20) hO [o0 (.iload_n 2), oI (.iconst 0) 0, oI (.bipush 7) 7] (by decide +kernel) (show tWG K B 0 0 S I J 20 [some (vR 0), some (vI v1), some (vI v2), some (vR 2)] [vI 7, vI 0, vI v2] from ?_)
    refine gCSi_z hO (M11_within) hc11_within (idx := 106) (w := 245) (by decide +kernel) hR (by omega) (vs := [vI v2, vI 0, vI 7]) (st := []) ⟨rfl, Nat.le_of_ble_eq_true rfl, rfl⟩ (by decide +kernel) (fun z3 => ?_)
    refine gIfNe hO (off := 7) (tgt := 30) (by decide +kernel) (by decide) (fun c4 => ?_) (fun c4 => ?_)
    · have h := h.1 c4
      refine gBk (pe := 31) hO [o0 (.iload_n 2)] (by decide +kernel) (show tWG K B 0 0 S I J 31 [some (vR 0), some (vI v1), some (vI v2), some (vR 2)] [vI v2] from ?_)
      by_cases c5 : v2 = 0
      · have h := h.1 c5
        refine gSwIn hO (dflt := 57) (lo := 0) (hi := 3) (offs := #[29, 36, 43, 50]) (len := 29) (off := 29) (tgt := 60) 0 c5 (by decide +kernel) (by decide +kernel) ?_
        refine gBk (pe := 66) hO [o0 (.aload_n 3), oF (.getfield 140) 3 1 377 3, o0 (.iload_n 1), o0 .iaload] (by decide +kernel) (And.intro (tGr.off hG (tGr.off hG t0 (k := 0) rfl) (k := 0) rfl) (And.intro rfl (And.intro (tGr.off hG (tGr.off hG (tGr.off hG t0 (k := 0) rfl) (k := 0) rfl) (k := 1) rfl) (And.intro (tin (tGr.len hG (tGr.off hG (tGr.off hG t0 (k := 0) rfl) (k := 0) rfl) (k := 1) rfl (by decide)) h.1) (show tWG K B 0 0 S I J 66 [some (vR 0), some (vI v1), some (vI v2), some (vR 2)] [vI (I 3 v1.toNatClampNeg)] from ?_)))))
        have h := h.2
        exact gIret hO hQ (by decide +kernel) ⟨rfl, h⟩
      have h := h.2
      by_cases c6 : v2 = 1
      · have h := h.1 c6
        refine gSwIn hO (dflt := 57) (lo := 0) (hi := 3) (offs := #[29, 36, 43, 50]) (len := 29) (off := 36) (tgt := 67) 1 c6 (by decide +kernel) (by decide +kernel) ?_
        refine gBk (pe := 73) hO [o0 (.aload_n 3), oF (.getfield 143) 3 2 378 4, o0 (.iload_n 1), o0 .iaload] (by decide +kernel) (And.intro (tGr.off hG (tGr.off hG t0 (k := 0) rfl) (k := 0) rfl) (And.intro rfl (And.intro (tGr.off hG (tGr.off hG (tGr.off hG t0 (k := 0) rfl) (k := 0) rfl) (k := 2) rfl) (And.intro (tin (tGr.len hG (tGr.off hG (tGr.off hG t0 (k := 0) rfl) (k := 0) rfl) (k := 2) rfl (by decide)) h.1) (show tWG K B 0 0 S I J 73 [some (vR 0), some (vI v1), some (vI v2), some (vR 2)] [vI (I 4 v1.toNatClampNeg)] from ?_)))))
        have h := h.2
        exact gIret hO hQ (by decide +kernel) ⟨rfl, h⟩
      have h := h.2
      by_cases c7 : v2 = 2
      · have h := h.1 c7
        refine gSwIn hO (dflt := 57) (lo := 0) (hi := 3) (offs := #[29, 36, 43, 50]) (len := 29) (off := 43) (tgt := 74) 2 c7 (by decide +kernel) (by decide +kernel) ?_
        refine gBk (pe := 80) hO [o0 (.aload_n 3), oF (.getfield 146) 3 3 379 5, o0 (.iload_n 1), o0 .iaload] (by decide +kernel) (And.intro (tGr.off hG (tGr.off hG t0 (k := 0) rfl) (k := 0) rfl) (And.intro rfl (And.intro (tGr.off hG (tGr.off hG (tGr.off hG t0 (k := 0) rfl) (k := 0) rfl) (k := 3) rfl) (And.intro (tin (tGr.len hG (tGr.off hG (tGr.off hG t0 (k := 0) rfl) (k := 0) rfl) (k := 3) rfl (by decide)) h.1) (show tWG K B 0 0 S I J 80 [some (vR 0), some (vI v1), some (vI v2), some (vR 2)] [vI (I 5 v1.toNatClampNeg)] from ?_)))))
        have h := h.2
        exact gIret hO hQ (by decide +kernel) ⟨rfl, h⟩
      have h := h.2
      by_cases c8 : v2 = 3
      · have h := h.1 c8
        refine gSwIn hO (dflt := 57) (lo := 0) (hi := 3) (offs := #[29, 36, 43, 50]) (len := 29) (off := 50) (tgt := 81) 3 c8 (by decide +kernel) (by decide +kernel) ?_
        refine gBk (pe := 87) hO [o0 (.aload_n 3), oF (.getfield 149) 3 4 380 6, o0 (.iload_n 1), o0 .iaload] (by decide +kernel) (And.intro (tGr.off hG (tGr.off hG t0 (k := 0) rfl) (k := 0) rfl) (And.intro rfl (And.intro (tGr.off hG (tGr.off hG (tGr.off hG t0 (k := 0) rfl) (k := 0) rfl) (k := 4) rfl) (And.intro (tin (tGr.len hG (tGr.off hG (tGr.off hG t0 (k := 0) rfl) (k := 0) rfl) (k := 4) rfl (by decide)) h.1) (show tWG K B 0 0 S I J 87 [some (vR 0), some (vI v1), some (vI v2), some (vR 2)] [vI (I 6 v1.toNatClampNeg)] from ?_)))))
        have h := h.2
        exact gIret hO hQ (by decide +kernel) ⟨rfl, h⟩
      have h := h.2
      have hsw : swN 0 v2 4 := ⟨⟨⟨⟨True.intro, c5⟩, c6⟩, c7⟩, c8⟩
      have h := h hsw
      refine gSwOut hO (dflt := 57) (lo := 0) (hi := 3) (offs := #[29, 36, 43, 50]) (len := 29) (tgt := 88) (by decide +kernel) (sw_out (by decide) (by decide) hsw) (by decide) ?_
      refine gBk (pe := 92) hO [o0 (.aload_n 0), oF (.getfield 59) 11 8 38 48] (by decide +kernel) (And.intro t0 (And.intro rfl (show tWG K B 0 0 S I J 92 [some (vR 0), some (vI v1), some (vI v2), some (vR 2)] [vR 48] from ?_)))
      refine gCVv_c hO (M2_asItStands (tGr.off hG t0 (k := 8) rfl) h) hc2_asItStands (idx := 114) (w := 255) (by decide +kernel) hR (by omega) (tGr.off hG t0 (k := 8) rfl) ⟨by decide, rfl⟩ (vs := []) (st := []) ⟨rfl, Nat.le_of_ble_eq_true rfl, rfl⟩ (by decide +kernel) (fun I9 J10 h => ?_)
      refine gBk (pe := 114) hO [o0 (.aload_n 0), oF (.getfield 59) 11 8 38 48, o0 (.aload_n 3), oF (.getfield 140) 3 1 377 3, o0 (.iload_n 1), o0 .iaload, o0 (.iload_n 2), oI (.iconst 4) 4, o0 .isub, o0 (.aload_n 3), oF (.getfield 146) 3 3 379 5, o0 (.iload_n 1), o0 .iaload] (by decide +kernel) (And.intro t0 (And.intro rfl (And.intro (tGr.off hG (tGr.off hG t0 (k := 0) rfl) (k := 0) rfl) (And.intro rfl (And.intro (tGr.off hG (tGr.off hG (tGr.off hG t0 (k := 0) rfl) (k := 0) rfl) (k := 1) rfl) (And.intro (tin (tGr.len hG (tGr.off hG (tGr.off hG t0 (k := 0) rfl) (k := 0) rfl) (k := 1) rfl (by decide)) h.1) (And.intro (tGr.off hG (tGr.off hG t0 (k := 0) rfl) (k := 0) rfl) (And.intro rfl (And.intro (tGr.off hG (tGr.off hG (tGr.off hG t0 (k := 0) rfl) (k := 0) rfl) (k := 3) rfl) (And.intro (tin (tGr.len hG (tGr.off hG (tGr.off hG t0 (k := 0) rfl) (k := 0) rfl) (k := 3) rfl (by decide)) h.2.1) (show tWG K B 0 0 S I9 J10 114 [some (vR 0), some (vI v1), some (vI v2), some (vR 2)] [vI (I9 5 v1.toNatClampNeg), vI (v2 - 4), vI (I9 3 v1.toNatClampNeg), vR 48] from ?_)))))))))))
      have h := h.2.2
      refine gCVi_b hO (M2_barred (tGr.off hG t0 (k := 8) rfl) h) hc2_barred (idx := 117) (w := 273) (by decide +kernel) hR (by omega) (tGr.off hG t0 (k := 8) rfl) ⟨by decide, rfl⟩ (vs := [vI (I9 3 v1.toNatClampNeg), vI (v2 - 4), vI (I9 5 v1.toNatClampNeg)]) (st := []) ⟨rfl, Nat.le_of_ble_eq_true rfl, rfl⟩ (by decide +kernel) (fun x13 I11 J12 z14 h => ?_)
      have h := h z14
      have hj15 : ∀ (m16 : Int32), m16 = (if x13 = 0 then (0 : Int32) else 1) → tWG K B 0 0 S I11 J12 125 [none, none, none, none] [vI m16] := by
        intro m16 em16
        subst em16
        exact gIret hO hQ (by decide +kernel) ⟨rfl, h⟩
      refine gIfEq hO (off := 7) (tgt := 124) (by decide +kernel) (by decide) (fun c17 => ?_) (fun c17 => ?_)
      · refine gBk (pe := 125) hO [oI (.iconst 0) 0] (by decide +kernel) (show tWG K B 0 0 S I11 J12 125 [some (vR 0), some (vI v1), some (vI v2), some (vR 2)] [vI 0] from ?_)
        exact gWeak (L' := [none, none, none, none]) trivial (hj15 _ (Eq.symm (if_pos c17)))
      · refine gBk (pe := 125) hO [oI (.iconst 1) 1, o0 (.goto 4)] (by decide +kernel) (show tWG K B 0 0 S I11 J12 125 [some (vR 0), some (vI v1), some (vI v2), some (vR 2)] [vI 1] from ?_)
        exact gWeak (L' := [none, none, none, none]) trivial (hj15 _ (Eq.symm (if_neg c17)))
    · have h := h.2 c4
      exact gWeak (L' := [none, none, none, none]) trivial (W11_of_26 hO hR hG t0 hQ h))
set_option maxRecDepth 20000 in
theorem hc11_bend : tCV yX11_bend cX11_bend 5 (some .int) 4 := ⟨⟨(List.mem_of_getElem? (i := 397) rfl), (List.mem_of_getElem? (i := 2) (by decide +kernel)), by decide +kernel⟩, (List.mem_of_getElem? (i := 395) (by decide +kernel)), (List.mem_of_getElem? (i := 396) (by decide +kernel))⟩
set_option maxRecDepth 100000 in
theorem M11_bend {l : Launch} {B : tB} {S : tSH} {I : tHI} {J : tHJ} {v1 : Int32} {v2 : Int32} {v3 : Int32} {v4 : Int32} {n : Nat} {k : Int32 → tHI → tHJ → Prop} (t0 : ty S 0 11) (h : F11_bend n S I J v1 v2 v3 v4 k) : Met l yX11_bend (tWs yX11_bend cX11_bend 5 (some .int)) (tRm 4 0 0) (tPc B [vR 0, vI v1, vI v2, vI v3, vI v4] S I J) (tQi B (tPi S k)) 0 0 (tA B) :=
  tEntry (by decide +kernel) [some (vR 0), some (vI v1), some (vI v2), some (vI v3), some (vI v4)] rfl rfl (Nat.le_of_ble_eq_true rfl) (fun K hl hR hO hQ hG => by
  subst hl
  refine gBk (pe := 5) hO [o0 (.iload_n 1), o0 (.iload_n 2), o0 (.iload_n 3), o0 (.iload 4)] (by decide +kernel) (show tWG K B 0 0 S I J 5 [some (vR 0), some (vI v1), some (vI v2), some (vI v3), some (vI v4)] [vI v4, vI v3, vI v2, vI v1] from ?_)
  refine gCSi_z hO (M7_canBe) hc7_canBe (idx := 152) (w := 400) (by decide +kernel) hR (by omega) (vs := [vI v1, vI v2, vI v3, vI v4]) (st := []) ⟨rfl, Nat.le_of_ble_eq_true rfl, rfl⟩ (by decide +kernel) (fun z1 => ?_)
  refine gIfNe hO (off := 9) (tgt := 17) (by decide +kernel) (by decide) (fun c2 => ?_) (fun c2 => ?_)
  · have h := h.1 c2
    refine gBk (pe := 29) hO [o0 (.aload_n 0), oF (.getfield 12) 11 0 15 1, oF (.getfield 158) 8 1 398 7, oF (.getfield 162) 7 0 399 0, oI (.bipush 12) 12] (by decide +kernel) (And.intro t0 (And.intro rfl (And.intro (tGr.off hG t0 (k := 0) rfl) (And.intro rfl (And.intro (tGr.off hG (tGr.off hG t0 (k := 0) rfl) (k := 1) rfl) (show tWG K B 0 0 S I J 29 [some (vR 0), some (vI v1), some (vI v2), some (vI v3), some (vI v4)] [vI 12, vI (I 7 0)] from ?_))))))
    refine gIcLt hO (off := 10) (tgt := 39) (by decide +kernel) (by decide) (fun c3 => ?_) (fun c3 => ?_)
    · have h := h.1 c3
      refine gBk (pe := 60) hO [o0 (.aload_n 0), oF (.getfield 26) 11 3 21 34, oI (.iconst 0) 0, oF (.putfield 129) 1 1 244 0, o0 (.aload_n 0), o0 (.aload_n 0), oF (.getfield 12) 11 0 15 1, oF (.getfield 158) 8 1 398 7, o0 (.iload_n 1), o0 (.iload_n 2), o0 (.iload_n 3), o0 (.iload 4)] (by decide +kernel) (And.intro t0 (And.intro rfl (And.intro (tGr.off hG t0 (k := 3) rfl) (And.intro t0 (And.intro rfl (And.intro (tGr.off hG t0 (k := 0) rfl) (And.intro rfl (show tWG K B 0 0 S (uI I 34 1 0) J 60 [some (vR 0), some (vI v1), some (vI v2), some (vI v3), some (vI v4)] [vI v4, vI v3, vI v2, vI v1, vR 7, vR 0] from ?_))))))))
      refine gCVi_c hO (M7_add (tGr.off hG (tGr.off hG t0 (k := 0) rfl) (k := 1) rfl) h) hc7_add (idx := 163) (w := 403) (by decide +kernel) hR (by omega) (tGr.off hG (tGr.off hG t0 (k := 0) rfl) (k := 1) rfl) ⟨by decide, rfl⟩ (vs := [vI v1, vI v2, vI v3, vI v4]) (st := [vR 0]) ⟨rfl, Nat.le_of_ble_eq_true rfl, rfl⟩ (by decide +kernel) (fun x6 I4 J5 h => ?_)
      refine gCVi_c hO (M11_settle t0 h) hc11_settle (idx := 110) (w := 248) (by decide +kernel) hR (by omega) t0 ⟨by decide, rfl⟩ (vs := [vI x6]) (st := []) ⟨rfl, Nat.le_of_ble_eq_true rfl, rfl⟩ (by decide +kernel) (fun x9 I7 J8 h => ?_)
      exact gIret hO hQ (by decide +kernel) ⟨rfl, h⟩
    · have h := h.2 c3
      refine gBk (pe := 35) hO [o0 (.aload_n 0), oI (.bipush (-5)) (-5)] (by decide +kernel) (show tWG K B 0 0 S I J 35 [some (vR 0), some (vI v1), some (vI v2), some (vI v3), some (vI v4)] [vI (-5), vR 0] from ?_)
      refine gCVi_c hO (M11_settle t0 h) hc11_settle (idx := 110) (w := 248) (by decide +kernel) hR (by omega) t0 ⟨by decide, rfl⟩ (vs := [vI (-5)]) (st := []) ⟨rfl, Nat.le_of_ble_eq_true rfl, rfl⟩ (by decide +kernel) (fun x12 I10 J11 h => ?_)
      exact gIret hO hQ (by decide +kernel) ⟨rfl, h⟩
  · have h := h.2 c2
    refine gBk (pe := 13) hO [o0 (.aload_n 0), oI (.iconst (-1)) (-1)] (by decide +kernel) (show tWG K B 0 0 S I J 13 [some (vR 0), some (vI v1), some (vI v2), some (vI v3), some (vI v4)] [vI (-1), vR 0] from ?_)
    refine gCVi_c hO (M11_settle t0 h) hc11_settle (idx := 110) (w := 248) (by decide +kernel) hR (by omega) t0 ⟨by decide, rfl⟩ (vs := [vI (-1)]) (st := []) ⟨rfl, Nat.le_of_ble_eq_true rfl, rfl⟩ (by decide +kernel) (fun x15 I13 J14 h => ?_)
    exact gIret hO hQ (by decide +kernel) ⟨rfl, h⟩)
set_option maxRecDepth 20000 in
theorem hc11_clear : tCV yX11_clear cX11_clear 2 (some .int) 0 := ⟨⟨(List.mem_of_getElem? (i := 423) rfl), (List.mem_of_getElem? (i := 2) (by decide +kernel)), by decide +kernel⟩, (List.mem_of_getElem? (i := 421) (by decide +kernel)), (List.mem_of_getElem? (i := 422) (by decide +kernel))⟩
set_option maxRecDepth 100000 in
theorem M11_clear {l : Launch} {B : tB} {S : tSH} {I : tHI} {J : tHJ} {n : Nat} {k : Int32 → tHI → tHJ → Prop} (t0 : ty S 0 11) (h : F11_clear n S I J k) : Met l yX11_clear (tWs yX11_clear cX11_clear 2 (some .int)) (tRm 4 0 0) (tPc B [vR 0] S I J) (tQi B (tPi S k)) 0 0 (tA B) :=
  tEntry (by decide +kernel) [some (vR 0), none] rfl rfl (Nat.le_of_ble_eq_true rfl) (fun K hl hR hO hQ hG => by
  subst hl
  refine gBk (pe := 12) hO [o0 (.aload_n 0), oF (.getfield 12) 11 0 15 1, oF (.getfield 158) 8 1 398 7, oF (.getfield 162) 7 0 399 0, o0 (.istore_n 1), o0 (.iload_n 1)] (by decide +kernel) (And.intro t0 (And.intro rfl (And.intro (tGr.off hG t0 (k := 0) rfl) (And.intro rfl (And.intro (tGr.off hG (tGr.off hG t0 (k := 0) rfl) (k := 1) rfl) (And.intro (Nat.le_of_ble_eq_true rfl) (show tWG K B 0 0 S I J 12 [some (vR 0), some (vI (I 7 0))] [vI (I 7 0)] from ?_)))))))
  refine gIfNe hO (off := 10) (tgt := 22) (by decide +kernel) (by decide) (fun c1 => ?_) (fun c1 => ?_)
  · have h := h.1 c1
    refine gBk (pe := 65) hO [o0 (.aload_n 0), oF (.getfield 12) 11 0 15 1, oF (.getfield 158) 8 1 398 7, oI (.iconst 0) 0, oF (.putfield 162) 7 0 399 0, o0 (.aload_n 0), oF (.getfield 12) 11 0 15 1, oF (.getfield 158) 8 1 398 7, oI (.iconst 0) 0, oF (.putfield 166) 7 5 424 0, o0 (.aload_n 0), oF (.getfield 12) 11 0 15 1, oF (.getfield 169) 8 2 425 15, oI (.iconst 0) 0, oF (.putfield 172) 10 2 426 0, o0 (.aload_n 0), oF (.getfield 26) 11 3 21 34, oI (.iconst 0) 0, oF (.putfield 129) 1 1 244 0, o0 (.aload_n 0), o0 (.iload_n 1)] (by decide +kernel) (And.intro t0 (And.intro rfl (And.intro (tGr.off hG t0 (k := 0) rfl) (And.intro rfl (And.intro (tGr.off hG (tGr.off hG t0 (k := 0) rfl) (k := 1) rfl) (And.intro t0 (And.intro rfl (And.intro (tGr.off hG t0 (k := 0) rfl) (And.intro rfl (And.intro (tGr.off hG (tGr.off hG t0 (k := 0) rfl) (k := 1) rfl) (And.intro t0 (And.intro rfl (And.intro (tGr.off hG t0 (k := 0) rfl) (And.intro rfl (And.intro (tGr.off hG (tGr.off hG t0 (k := 0) rfl) (k := 2) rfl) (And.intro t0 (And.intro rfl (And.intro (tGr.off hG t0 (k := 3) rfl) (show tWG K B 0 0 S (uI (uI (uI (uI I 7 0 0) 7 5 0) 15 2 0) 34 1 0) J 65 [some (vR 0), some (vI (I 7 0))] [vI (I 7 0), vR 0] from ?_)))))))))))))))))))
    refine gCVi_c hO (M11_settle t0 h) hc11_settle (idx := 110) (w := 248) (by decide +kernel) hR (by omega) t0 ⟨by decide, rfl⟩ (vs := [vI (I 7 0)]) (st := []) ⟨rfl, Nat.le_of_ble_eq_true rfl, rfl⟩ (by decide +kernel) (fun x4 I2 J3 h => ?_)
    exact gIret hO hQ (by decide +kernel) ⟨rfl, h⟩
  · have h := h.2 c1
    refine gBk (pe := 18) hO [o0 (.aload_n 0), oI (.bipush (-3)) (-3)] (by decide +kernel) (show tWG K B 0 0 S I J 18 [some (vR 0), some (vI (I 7 0))] [vI (-3), vR 0] from ?_)
    refine gCVi_c hO (M11_settle t0 h) hc11_settle (idx := 110) (w := 248) (by decide +kernel) hR (by omega) t0 ⟨by decide, rfl⟩ (vs := [vI (-3)]) (st := []) ⟨rfl, Nat.le_of_ble_eq_true rfl, rfl⟩ (by decide +kernel) (fun x7 I5 J6 h => ?_)
    exact gIret hO hQ (by decide +kernel) ⟨rfl, h⟩)
set_option maxRecDepth 100000 in
theorem W11_at_26 {K : tK} {B : tB} {S : tSH} {MC MS : Nat} (hO : tKO K B RX11 cX11_at 4) (hR : kR K = tRm 6 MC MS) (hG : tGr S) {n : Nat} (t0 : ty S 0 11) {k : Int32 → tHI → tHJ → Prop} (hQ : tRet K B (tQi B (tPi S k)) 0 0 (some .int)) {I : tHI} {J : tHJ} (h : F11_at_26 n S k I J) : tWG K B 0 0 S I J 26 [none, none, none, none] [] := by
  refine gBk (pe := 29) hO [oI (.sipush (-1000)) (-1000)] (by decide +kernel) (show tWG K B 0 0 S I J 29 [none, none, none, none] [vI (-1000)] from ?_)
  exact gIret hO hQ (by decide +kernel) ⟨rfl, h⟩
set_option maxRecDepth 20000 in
theorem hc11_at : tCV yX11_at cX11_at 4 (some .int) 2 := ⟨⟨(List.mem_of_getElem? (i := 434) rfl), (List.mem_of_getElem? (i := 2) (by decide +kernel)), by decide +kernel⟩, (List.mem_of_getElem? (i := 432) (by decide +kernel)), (List.mem_of_getElem? (i := 433) (by decide +kernel))⟩
set_option maxRecDepth 100000 in
theorem M11_at {l : Launch} {B : tB} {S : tSH} {I : tHI} {J : tHJ} {v1 : Int32} {v2 : Int32} {n : Nat} {k : Int32 → tHI → tHJ → Prop} (t0 : ty S 0 11) (h : F11_at n S I J v1 v2 k) : Met l yX11_at (tWs yX11_at cX11_at 4 (some .int)) (tRm 6 0 0) (tPc B [vR 0, vI v1, vI v2] S I J) (tQi B (tPi S k)) 0 0 (tA B) :=
  tEntry (by decide +kernel) [some (vR 0), some (vI v1), some (vI v2), none] rfl rfl (Nat.le_of_ble_eq_true rfl) (fun K hl hR hO hQ hG => by
  subst hl
  refine gBk (pe := 10) hO [o0 (.aload_n 0), oF (.getfield 12) 11 0 15 1, oF (.getfield 158) 8 1 398 7, o0 (.astore_n 3), o0 (.aload_n 3), o0 (.iload_n 1)] (by decide +kernel) (And.intro t0 (And.intro rfl (And.intro (tGr.off hG t0 (k := 0) rfl) (And.intro rfl (And.intro (Nat.le_of_ble_eq_true rfl) (show tWG K B 0 0 S I J 10 [some (vR 0), some (vI v1), some (vI v2), some (vR 7)] [vI v1, vR 7] from ?_))))))
  refine gCVi_z hO (M7_has (tGr.off hG (tGr.off hG t0 (k := 0) rfl) (k := 1) rfl)) hc7_has (idx := 175) (w := 439) (by decide +kernel) hR (by omega) (tGr.off hG (tGr.off hG t0 (k := 0) rfl) (k := 1) rfl) ⟨by decide, rfl⟩ (vs := [vI v1]) (st := []) ⟨rfl, Nat.le_of_ble_eq_true rfl, rfl⟩ (by decide +kernel) (fun z1 => ?_)
  refine gIfEq hO (off := 13) (tgt := 26) (by decide +kernel) (by decide) (fun c2 => ?_) (fun c2 => ?_)
  · have h := h.1 c2
    exact gWeak (L' := [none, none, none, none]) trivial (W11_at_26 hO hR hG t0 hQ h)
  · have h := h.2 c2
    refine gBk (pe := 20) hO [o0 (.iload_n 2), oI (.iconst 0) 0, oI (.bipush 8) 8] (by decide +kernel) (show tWG K B 0 0 S I J 20 [some (vR 0), some (vI v1), some (vI v2), some (vR 7)] [vI 8, vI 0, vI v2] from ?_)
    refine gCSi_z hO (M11_within) hc11_within (idx := 106) (w := 245) (by decide +kernel) hR (by omega) (vs := [vI v2, vI 0, vI 8]) (st := []) ⟨rfl, Nat.le_of_ble_eq_true rfl, rfl⟩ (by decide +kernel) (fun z3 => ?_)
    refine gIfNe hO (off := 7) (tgt := 30) (by decide +kernel) (by decide) (fun c4 => ?_) (fun c4 => ?_)
    · have h := h.1 c4
      refine gBk (pe := 31) hO [o0 (.iload_n 2)] (by decide +kernel) (show tWG K B 0 0 S I J 31 [some (vR 0), some (vI v1), some (vI v2), some (vR 7)] [vI v2] from ?_)
      by_cases c5 : v2 = 0
      · have h := h.1 c5
        refine gSwIn hO (dflt := 57) (lo := 0) (hi := 3) (offs := #[29, 36, 43, 50]) (len := 29) (off := 29) (tgt := 60) 0 c5 (by decide +kernel) (by decide +kernel) ?_
        refine gBk (pe := 66) hO [o0 (.aload_n 3), oF (.getfield 176) 7 1 435 8, o0 (.iload_n 1), o0 .iaload] (by decide +kernel) (And.intro (tGr.off hG (tGr.off hG t0 (k := 0) rfl) (k := 1) rfl) (And.intro rfl (And.intro (tGr.off hG (tGr.off hG (tGr.off hG t0 (k := 0) rfl) (k := 1) rfl) (k := 1) rfl) (And.intro (tin (tGr.len hG (tGr.off hG (tGr.off hG t0 (k := 0) rfl) (k := 1) rfl) (k := 1) rfl (by decide)) h.1) (show tWG K B 0 0 S I J 66 [some (vR 0), some (vI v1), some (vI v2), some (vR 7)] [vI (I 8 v1.toNatClampNeg)] from ?_)))))
        have h := h.2
        exact gIret hO hQ (by decide +kernel) ⟨rfl, h⟩
      have h := h.2
      by_cases c6 : v2 = 1
      · have h := h.1 c6
        refine gSwIn hO (dflt := 57) (lo := 0) (hi := 3) (offs := #[29, 36, 43, 50]) (len := 29) (off := 36) (tgt := 67) 1 c6 (by decide +kernel) (by decide +kernel) ?_
        refine gBk (pe := 73) hO [o0 (.aload_n 3), oF (.getfield 179) 7 2 436 9, o0 (.iload_n 1), o0 .iaload] (by decide +kernel) (And.intro (tGr.off hG (tGr.off hG t0 (k := 0) rfl) (k := 1) rfl) (And.intro rfl (And.intro (tGr.off hG (tGr.off hG (tGr.off hG t0 (k := 0) rfl) (k := 1) rfl) (k := 2) rfl) (And.intro (tin (tGr.len hG (tGr.off hG (tGr.off hG t0 (k := 0) rfl) (k := 1) rfl) (k := 2) rfl (by decide)) h.1) (show tWG K B 0 0 S I J 73 [some (vR 0), some (vI v1), some (vI v2), some (vR 7)] [vI (I 9 v1.toNatClampNeg)] from ?_)))))
        have h := h.2
        exact gIret hO hQ (by decide +kernel) ⟨rfl, h⟩
      have h := h.2
      by_cases c7 : v2 = 2
      · have h := h.1 c7
        refine gSwIn hO (dflt := 57) (lo := 0) (hi := 3) (offs := #[29, 36, 43, 50]) (len := 29) (off := 43) (tgt := 74) 2 c7 (by decide +kernel) (by decide +kernel) ?_
        refine gBk (pe := 80) hO [o0 (.aload_n 3), oF (.getfield 182) 7 3 437 10, o0 (.iload_n 1), o0 .iaload] (by decide +kernel) (And.intro (tGr.off hG (tGr.off hG t0 (k := 0) rfl) (k := 1) rfl) (And.intro rfl (And.intro (tGr.off hG (tGr.off hG (tGr.off hG t0 (k := 0) rfl) (k := 1) rfl) (k := 3) rfl) (And.intro (tin (tGr.len hG (tGr.off hG (tGr.off hG t0 (k := 0) rfl) (k := 1) rfl) (k := 3) rfl (by decide)) h.1) (show tWG K B 0 0 S I J 80 [some (vR 0), some (vI v1), some (vI v2), some (vR 7)] [vI (I 10 v1.toNatClampNeg)] from ?_)))))
        have h := h.2
        exact gIret hO hQ (by decide +kernel) ⟨rfl, h⟩
      have h := h.2
      by_cases c8 : v2 = 3
      · have h := h.1 c8
        refine gSwIn hO (dflt := 57) (lo := 0) (hi := 3) (offs := #[29, 36, 43, 50]) (len := 29) (off := 50) (tgt := 81) 3 c8 (by decide +kernel) (by decide +kernel) ?_
        refine gBk (pe := 87) hO [o0 (.aload_n 3), oF (.getfield 185) 7 4 438 11, o0 (.iload_n 1), o0 .iaload] (by decide +kernel) (And.intro (tGr.off hG (tGr.off hG t0 (k := 0) rfl) (k := 1) rfl) (And.intro rfl (And.intro (tGr.off hG (tGr.off hG (tGr.off hG t0 (k := 0) rfl) (k := 1) rfl) (k := 4) rfl) (And.intro (tin (tGr.len hG (tGr.off hG (tGr.off hG t0 (k := 0) rfl) (k := 1) rfl) (k := 4) rfl (by decide)) h.1) (show tWG K B 0 0 S I J 87 [some (vR 0), some (vI v1), some (vI v2), some (vR 7)] [vI (I 11 v1.toNatClampNeg)] from ?_)))))
        have h := h.2
        exact gIret hO hQ (by decide +kernel) ⟨rfl, h⟩
      have h := h.2
      have hsw : swN 0 v2 4 := ⟨⟨⟨⟨True.intro, c5⟩, c6⟩, c7⟩, c8⟩
      have h := h hsw
      refine gSwOut hO (dflt := 57) (lo := 0) (hi := 3) (offs := #[29, 36, 43, 50]) (len := 29) (tgt := 88) (by decide +kernel) (sw_out (by decide) (by decide) hsw) (by decide) ?_
      refine gBk (pe := 92) hO [o0 (.aload_n 0), oF (.getfield 59) 11 8 38 48] (by decide +kernel) (And.intro t0 (And.intro rfl (show tWG K B 0 0 S I J 92 [some (vR 0), some (vI v1), some (vI v2), some (vR 7)] [vR 48] from ?_)))
      refine gCVv_c hO (M2_asItStands (tGr.off hG t0 (k := 8) rfl) h) hc2_asItStands (idx := 114) (w := 255) (by decide +kernel) hR (by omega) (tGr.off hG t0 (k := 8) rfl) ⟨by decide, rfl⟩ (vs := []) (st := []) ⟨rfl, Nat.le_of_ble_eq_true rfl, rfl⟩ (by decide +kernel) (fun I9 J10 h => ?_)
      refine gBk (pe := 103) hO [o0 (.aload_n 0), oF (.getfield 59) 11 8 38 48, o0 (.iload_n 2), oI (.iconst 4) 4, o0 .isub, o0 (.iload_n 1)] (by decide +kernel) (And.intro t0 (And.intro rfl (show tWG K B 0 0 S I9 J10 103 [some (vR 0), some (vI v1), some (vI v2), some (vR 7)] [vI v1, vI (v2 - 4), vR 48] from ?_)))
      refine gCVi_c hO (M2_tell (tGr.off hG t0 (k := 8) rfl) h) hc2_tell (idx := 188) (w := 443) (by decide +kernel) hR (by omega) (tGr.off hG t0 (k := 8) rfl) ⟨by decide, rfl⟩ (vs := [vI (v2 - 4), vI v1]) (st := []) ⟨rfl, Nat.le_of_ble_eq_true rfl, rfl⟩ (by decide +kernel) (fun x13 I11 J12 h => ?_)
      exact gIret hO hQ (by decide +kernel) ⟨rfl, h⟩
    · have h := h.2 c4
      exact gWeak (L' := [none, none, none, none]) trivial (W11_at_26 hO hR hG t0 hQ h))
set_option maxRecDepth 20000 in
theorem hc11_bars : tCV yX11_bars cX11_bars 3 (some .int) 1 := ⟨⟨(List.mem_of_getElem? (i := 529) rfl), (List.mem_of_getElem? (i := 2) (by decide +kernel)), by decide +kernel⟩, (List.mem_of_getElem? (i := 527) (by decide +kernel)), (List.mem_of_getElem? (i := 528) (by decide +kernel))⟩
set_option maxRecDepth 100000 in
theorem M11_bars {l : Launch} {B : tB} {S : tSH} {I : tHI} {J : tHJ} {v1 : Int32} {n : Nat} {k : Int32 → tHI → tHJ → Prop} (t0 : ty S 0 11) (h : F11_bars n S I J v1 k) : Met l yX11_bars (tWs yX11_bars cX11_bars 3 (some .int)) (tRm 4 0 0) (tPc B [vR 0, vI v1] S I J) (tQi B (tPi S k)) 0 0 (tA B) :=
  tEntry (by decide +kernel) [some (vR 0), some (vI v1), none] rfl rfl (Nat.le_of_ble_eq_true rfl) (fun K hl hR hO hQ hG => by
  subst hl
  refine gBk (pe := 5) hO [o0 (.iload_n 1), oI (.bipush (-9)) (-9), oI (.bipush 9) 9] (by decide +kernel) (show tWG K B 0 0 S I J 5 [some (vR 0), some (vI v1), none] [vI 9, vI (-9), vI v1] from ?_)
  refine gCSi_z hO (M11_within) hc11_within (idx := 106) (w := 245) (by decide +kernel) hR (by omega) (vs := [vI v1, vI (-9), vI 9]) (st := []) ⟨rfl, Nat.le_of_ble_eq_true rfl, rfl⟩ (by decide +kernel) (fun z1 => ?_)
  refine gIfNe hO (off := 9) (tgt := 17) (by decide +kernel) (by decide) (fun c2 => ?_) (fun c2 => ?_)
  · have h := h.1 c2
    refine gBk (pe := 44) hO [o0 (.aload_n 0), oF (.getfield 12) 11 0 15 1, oF (.getfield 169) 8 2 425 15, oF (.getfield 192) 10 0 530 0, o0 (.istore_n 2), o0 (.aload_n 0), oF (.getfield 12) 11 0 15 1, oF (.getfield 169) 8 2 425 15, o0 (.iload_n 1), oF (.putfield 192) 10 0 530 0, o0 (.aload_n 0), o0 (.iload_n 2), oI (.bipush 9) 9, o0 .iadd] (by decide +kernel) (And.intro t0 (And.intro rfl (And.intro (tGr.off hG t0 (k := 0) rfl) (And.intro rfl (And.intro (tGr.off hG (tGr.off hG t0 (k := 0) rfl) (k := 2) rfl) (And.intro (Nat.le_of_ble_eq_true rfl) (And.intro t0 (And.intro rfl (And.intro (tGr.off hG t0 (k := 0) rfl) (And.intro rfl (And.intro (tGr.off hG (tGr.off hG t0 (k := 0) rfl) (k := 2) rfl) (show tWG K B 0 0 S (uI I 15 0 v1) J 44 [some (vR 0), some (vI v1), some (vI (I 15 0))] [vI ((I 15 0) + 9), vR 0] from ?_))))))))))))
    refine gCVi_c hO (M11_settle t0 h) hc11_settle (idx := 110) (w := 248) (by decide +kernel) hR (by omega) t0 ⟨by decide, rfl⟩ (vs := [vI ((I 15 0) + 9)]) (st := []) ⟨rfl, Nat.le_of_ble_eq_true rfl, rfl⟩ (by decide +kernel) (fun x5 I3 J4 h => ?_)
    exact gIret hO hQ (by decide +kernel) ⟨rfl, h⟩
  · have h := h.2 c2
    refine gBk (pe := 13) hO [o0 (.aload_n 0), oI (.iconst (-1)) (-1)] (by decide +kernel) (show tWG K B 0 0 S I J 13 [some (vR 0), some (vI v1), none] [vI (-1), vR 0] from ?_)
    refine gCVi_c hO (M11_settle t0 h) hc11_settle (idx := 110) (w := 248) (by decide +kernel) hR (by omega) t0 ⟨by decide, rfl⟩ (vs := [vI (-1)]) (st := []) ⟨rfl, Nat.le_of_ble_eq_true rfl, rfl⟩ (by decide +kernel) (fun x8 I6 J7 h => ?_)
    exact gIret hO hQ (by decide +kernel) ⟨rfl, h⟩)
set_option maxRecDepth 20000 in
theorem hc11_terms : tCV yX11_terms cX11_terms 6 (some .int) 2 := ⟨⟨(List.mem_of_getElem? (i := 542) rfl), (List.mem_of_getElem? (i := 2) (by decide +kernel)), by decide +kernel⟩, (List.mem_of_getElem? (i := 540) (by decide +kernel)), (List.mem_of_getElem? (i := 541) (by decide +kernel))⟩
set_option maxRecDepth 100000 in
theorem M11_terms {l : Launch} {B : tB} {S : tSH} {I : tHI} {J : tHJ} {v1 : Int32} {v2 : Int32} {n : Nat} {k : Int32 → tHI → tHJ → Prop} (t0 : ty S 0 11) (h : F11_terms n S I J v1 v2 k) : Met l yX11_terms (tWs yX11_terms cX11_terms 6 (some .int)) (tRm 4 0 0) (tPc B [vR 0, vI v1, vI v2] S I J) (tQi B (tPi S k)) 0 0 (tA B) :=
  tEntry (by decide +kernel) [some (vR 0), some (vI v1), some (vI v2), none, none, none] rfl rfl (Nat.le_of_ble_eq_true rfl) (fun K hl hR hO hQ hG => by
  subst hl
  refine gBk (pe := 10) hO [o0 (.aload_n 0), oF (.getfield 12) 11 0 15 1, oF (.getfield 169) 8 2 425 15, o0 (.astore_n 3), o0 (.iload_n 1), oI (.iconst 2) 2] (by decide +kernel) (And.intro t0 (And.intro rfl (And.intro (tGr.off hG t0 (k := 0) rfl) (And.intro rfl (And.intro (Nat.le_of_ble_eq_true rfl) (show tWG K B 0 0 S I J 10 [some (vR 0), some (vI v1), some (vI v2), some (vR 15), none, none] [vI 2, vI v1] from ?_))))))
  have hj4 : ∀ (m5 : Int32), m5 = (if v1 = 2 then (V11_within v2 0 9) else (if (V11_within v1 0 1) = 0 then 0 else (if (V11_within v2 1 60) = 0 then (0 : Int32) else 1))) → tWG K B 0 0 S I J 47 [some (vR 0), some (vI v1), some (vI v2), some (vR 15), none, none] [vI m5] := by
    intro m5 em5
    subst em5
    refine gBk (pe := 51) hO [o0 (.istore 4), o0 (.iload 4)] (by decide +kernel) (And.intro (Nat.le_of_ble_eq_true rfl) (show tWG K B 0 0 S I J 51 [some (vR 0), some (vI v1), some (vI v2), some (vR 15), some (vI (if v1 = 2 then (V11_within v2 0 9) else (if (V11_within v1 0 1) = 0 then 0 else (if (V11_within v2 1 60) = 0 then (0 : Int32) else 1)))), none] [vI (if v1 = 2 then (V11_within v2 0 9) else (if (V11_within v1 0 1) = 0 then 0 else (if (V11_within v2 1 60) = 0 then (0 : Int32) else 1)))] from ?_))
    refine gIfNe hO (off := 9) (tgt := 60) (by decide +kernel) (by decide) (fun c12 => ?_) (fun c12 => ?_)
    · have h := h.1 c12
      refine gBk (pe := 62) hO [o0 (.aload_n 3), o0 (.iload_n 1)] (by decide +kernel) (show tWG K B 0 0 S I J 62 [some (vR 0), some (vI v1), some (vI v2), some (vR 15), some (vI (if v1 = 2 then (V11_within v2 0 9) else (if (V11_within v1 0 1) = 0 then 0 else (if (V11_within v2 1 60) = 0 then (0 : Int32) else 1)))), none] [vI v1, vR 15] from ?_)
      refine gCVi_p hO (M10_term (tGr.off hG (tGr.off hG t0 (k := 0) rfl) (k := 2) rfl)) hc10_term (idx := 195) (w := 543) (by decide +kernel) hR (by omega) (tGr.off hG (tGr.off hG t0 (k := 0) rfl) (k := 2) rfl) ⟨by decide, rfl⟩ (vs := [vI v1]) (st := []) ⟨rfl, Nat.le_of_ble_eq_true rfl, rfl⟩ (by decide +kernel) ?_
      refine gBk (pe := 70) hO [o0 (.istore 5), o0 (.aload_n 3), o0 (.iload_n 1), o0 (.iload_n 2)] (by decide +kernel) (And.intro (Nat.le_of_ble_eq_true rfl) (show tWG K B 0 0 S I J 70 [some (vR 0), some (vI v1), some (vI v2), some (vR 15), some (vI (if v1 = 2 then (V11_within v2 0 9) else (if (V11_within v1 0 1) = 0 then 0 else (if (V11_within v2 1 60) = 0 then (0 : Int32) else 1)))), some (vI (V10_term S I J 15 v1))] [vI v2, vI v1, vR 15] from ?_))
      refine gCVv_c hO (M10_setTerm (tGr.off hG (tGr.off hG t0 (k := 0) rfl) (k := 2) rfl) h) hc10_setTerm (idx := 198) (w := 547) (by decide +kernel) hR (by omega) (tGr.off hG (tGr.off hG t0 (k := 0) rfl) (k := 2) rfl) ⟨by decide, rfl⟩ (vs := [vI v1, vI v2]) (st := []) ⟨rfl, Nat.le_of_ble_eq_true rfl, rfl⟩ (by decide +kernel) (fun I13 J14 h => ?_)
      refine gBk (pe := 76) hO [o0 (.aload_n 0), o0 (.iload 5)] (by decide +kernel) (show tWG K B 0 0 S I13 J14 76 [some (vR 0), some (vI v1), some (vI v2), some (vR 15), some (vI (if v1 = 2 then (V11_within v2 0 9) else (if (V11_within v1 0 1) = 0 then 0 else (if (V11_within v2 1 60) = 0 then (0 : Int32) else 1)))), some (vI (V10_term S I J 15 v1))] [vI (V10_term S I J 15 v1), vR 0] from ?_)
      refine gCVi_c hO (M11_settle t0 h) hc11_settle (idx := 110) (w := 248) (by decide +kernel) hR (by omega) t0 ⟨by decide, rfl⟩ (vs := [vI (V10_term S I J 15 v1)]) (st := []) ⟨rfl, Nat.le_of_ble_eq_true rfl, rfl⟩ (by decide +kernel) (fun x17 I15 J16 h => ?_)
      exact gIret hO hQ (by decide +kernel) ⟨rfl, h⟩
    · have h := h.2 c12
      refine gBk (pe := 56) hO [o0 (.aload_n 0), oI (.iconst (-1)) (-1)] (by decide +kernel) (show tWG K B 0 0 S I J 56 [some (vR 0), some (vI v1), some (vI v2), some (vR 15), some (vI (if v1 = 2 then (V11_within v2 0 9) else (if (V11_within v1 0 1) = 0 then 0 else (if (V11_within v2 1 60) = 0 then (0 : Int32) else 1)))), none] [vI (-1), vR 0] from ?_)
      refine gCVi_c hO (M11_settle t0 h) hc11_settle (idx := 110) (w := 248) (by decide +kernel) hR (by omega) t0 ⟨by decide, rfl⟩ (vs := [vI (-1)]) (st := []) ⟨rfl, Nat.le_of_ble_eq_true rfl, rfl⟩ (by decide +kernel) (fun x20 I18 J19 h => ?_)
      exact gIret hO hQ (by decide +kernel) ⟨rfl, h⟩
  refine gIcNe hO (off := 13) (tgt := 23) (by decide +kernel) (by decide) (fun c6 => ?_) (fun c6 => ?_)
  · refine gBk (pe := 26) hO [o0 (.iload_n 1), oI (.iconst 0) 0, oI (.iconst 1) 1] (by decide +kernel) (show tWG K B 0 0 S I J 26 [some (vR 0), some (vI v1), some (vI v2), some (vR 15), none, none] [vI 1, vI 0, vI v1] from ?_)
    refine gCSi_z hO (M11_within) hc11_within (idx := 106) (w := 245) (by decide +kernel) hR (by omega) (vs := [vI v1, vI 0, vI 1]) (st := []) ⟨rfl, Nat.le_of_ble_eq_true rfl, rfl⟩ (by decide +kernel) (fun z7 => ?_)
    refine gIfEq hO (off := 17) (tgt := 46) (by decide +kernel) (by decide) (fun c8 => ?_) (fun c8 => ?_)
    · refine gBk (pe := 47) hO [oI (.iconst 0) 0] (by decide +kernel) (show tWG K B 0 0 S I J 47 [some (vR 0), some (vI v1), some (vI v2), some (vR 15), none, none] [vI 0] from ?_)
      exact (hj4 _ (Eq.symm ((if_neg c6).trans (if_pos c8))))
    · refine gBk (pe := 36) hO [o0 (.iload_n 2), oI (.iconst 1) 1, oI (.bipush 60) 60] (by decide +kernel) (show tWG K B 0 0 S I J 36 [some (vR 0), some (vI v1), some (vI v2), some (vR 15), none, none] [vI 60, vI 1, vI v2] from ?_)
      refine gCSi_z hO (M11_within) hc11_within (idx := 106) (w := 245) (by decide +kernel) hR (by omega) (vs := [vI v2, vI 1, vI 60]) (st := []) ⟨rfl, Nat.le_of_ble_eq_true rfl, rfl⟩ (by decide +kernel) (fun z9 => ?_)
      refine gIfEq hO (off := 7) (tgt := 46) (by decide +kernel) (by decide) (fun c10 => ?_) (fun c10 => ?_)
      · refine gBk (pe := 47) hO [oI (.iconst 0) 0] (by decide +kernel) (show tWG K B 0 0 S I J 47 [some (vR 0), some (vI v1), some (vI v2), some (vR 15), none, none] [vI 0] from ?_)
        exact (hj4 _ (Eq.symm ((if_neg c6).trans ((if_neg c8).trans (if_pos c10)))))
      · refine gBk (pe := 47) hO [oI (.iconst 1) 1, o0 (.goto 4)] (by decide +kernel) (show tWG K B 0 0 S I J 47 [some (vR 0), some (vI v1), some (vI v2), some (vR 15), none, none] [vI 1] from ?_)
        exact (hj4 _ (Eq.symm ((if_neg c6).trans ((if_neg c8).trans (if_neg c10)))))
  · refine gBk (pe := 17) hO [o0 (.iload_n 2), oI (.iconst 0) 0, oI (.bipush 9) 9] (by decide +kernel) (show tWG K B 0 0 S I J 17 [some (vR 0), some (vI v1), some (vI v2), some (vR 15), none, none] [vI 9, vI 0, vI v2] from ?_)
    refine gCSi_z hO (M11_within) hc11_within (idx := 106) (w := 245) (by decide +kernel) hR (by omega) (vs := [vI v2, vI 0, vI 9]) (st := []) ⟨rfl, Nat.le_of_ble_eq_true rfl, rfl⟩ (by decide +kernel) (fun z11 => ?_)
    refine gBk (pe := 47) hO [o0 (.goto 27)] (by decide +kernel) (show tWG K B 0 0 S I J 47 [some (vR 0), some (vI v1), some (vI v2), some (vR 15), none, none] [vI (V11_within v2 0 9)] from ?_)
    exact (hj4 _ (Eq.symm (if_pos c6))))
set_option maxRecDepth 100000 in
theorem W11_row_23 {K : tK} {B : tB} {S : tSH} {MC MS : Nat} (hO : tKO K B RX11 cX11_row 4) (hR : kR K = tRm 5 MC MS) (hG : tGr S) {n : Nat} (t0 : ty S 0 11) {k : Int32 → tHI → tHJ → Prop} (hQ : tRet K B (tQi B (tPi S k)) 0 0 (some .int)) {kb23 : tHI → tHJ → Int32 → Int32 → Int32 → Prop} (hkb23 : ∀ (I : tHI) (J : tHJ) (v1 : Int32) (v2 : Int32) (v3 : Int32), kb23 I J v1 v2 v3 → tWG K B 0 0 S I J 23 [some (vR 0), some (vI v1), some (vI v2), some (vI v3)] []) {I : tHI} {J : tHJ} {v1 : Int32} {v2 : Int32} {v3 : Int32} (h : F11_row_23 n S k kb23 I J v1 v2 v3) : tWG K B 0 0 S I J 23 [some (vR 0), some (vI v1), some (vI v2), some (vI v3)] [] := by
  refine gBk (pe := 31) hO [o0 (.iload_n 3), o0 (.aload_n 0), oF (.getfield 36) 11 5 26 38, oF (.getfield 202) 9 1 559 0] (by decide +kernel) (And.intro t0 (And.intro rfl (And.intro (tGr.off hG t0 (k := 5) rfl) (show tWG K B 0 0 S I J 31 [some (vR 0), some (vI v1), some (vI v2), some (vI v3)] [vI (I 38 1), vI v3] from ?_))))
  refine gIcGe hO (off := 26) (tgt := 57) (by decide +kernel) (by decide) (fun c2 => ?_) (fun c2 => ?_)
  · have h := h.1 c2
    refine gBk (pe := 80) hO [o0 (.aload_n 0), oF (.getfield 36) 11 5 26 38, oI (.iconst 0) 0, oF (.putfield 202) 9 1 559 0, o0 (.aload_n 0), o0 (.iload_n 2), oF (.putfield 100) 11 17 54 0, o0 (.aload_n 0), oF (.getfield 26) 11 3 21 34, oI (.iconst 0) 0, oF (.putfield 129) 1 1 244 0, o0 (.aload_n 0), o0 (.iload_n 1)] (by decide +kernel) (And.intro t0 (And.intro rfl (And.intro (tGr.off hG t0 (k := 5) rfl) (And.intro t0 (And.intro t0 (And.intro rfl (And.intro (tGr.off hG t0 (k := 3) rfl) (show tWG K B 0 0 S (uI (uI (uI I 38 1 0) 0 17 v2) 34 1 0) J 80 [some (vR 0), some (vI v1), some (vI v2), some (vI v3)] [vI v1, vR 0] from ?_))))))))
    refine gCVi_c hO (M11_settle t0 h) hc11_settle (idx := 110) (w := 248) (by decide +kernel) hR (by omega) t0 ⟨by decide, rfl⟩ (vs := [vI v1]) (st := []) ⟨rfl, Nat.le_of_ble_eq_true rfl, rfl⟩ (by decide +kernel) (fun x5 I3 J4 h => ?_)
    exact gIret hO hQ (by decide +kernel) ⟨rfl, h⟩
  · have h := h.2 c2
    refine gBk (pe := 36) hO [o0 (.aload_n 0), o0 (.iload_n 3)] (by decide +kernel) (show tWG K B 0 0 S I J 36 [some (vR 0), some (vI v1), some (vI v2), some (vI v3)] [vI v3, vR 0] from ?_)
    refine gCVi_b hO (M11_addFromTape t0 h) hc11_addFromTape (idx := 207) (w := 585) (by decide +kernel) hR (by omega) t0 ⟨by decide, rfl⟩ (vs := [vI v3]) (st := []) ⟨rfl, Nat.le_of_ble_eq_true rfl, rfl⟩ (by decide +kernel) (fun x8 I6 J7 z9 h => ?_)
    have h := h z9
    have hj10 : ∀ (m11 : Int32) (m12 : Int32), m11 = (if x8 = 0 then v1 else (v1 + 1)) → m12 = (if x8 = 0 then (v2 + 1) else v2) → tWG K B 0 0 S I6 J7 51 [some (vR 0), some (vI m11), some (vI m12), some (vI v3)] [] := by
      intro m11 m12 em11 em12
      subst em11
      subst em12
      refine gBk (pe := 23) hO [oI (.iinc 3 4) 4, o0 (.goto (-31))] (by decide +kernel) (show tWG K B 0 0 S I6 J7 23 [some (vR 0), some (vI (if x8 = 0 then v1 else (v1 + 1))), some (vI (if x8 = 0 then (v2 + 1) else v2)), some (vI (v3 + 4))] [] from ?_)
      exact hkb23 _ _ _ _ _ h
    refine gIfEq hO (off := 9) (tgt := 48) (by decide +kernel) (by decide) (fun c13 => ?_) (fun c13 => ?_)
    · refine gBk (pe := 51) hO [oI (.iinc 2 1) 1] (by decide +kernel) (show tWG K B 0 0 S I6 J7 51 [some (vR 0), some (vI v1), some (vI (v2 + 1)), some (vI v3)] [] from ?_)
      exact (hj10 _ _ (Eq.symm (if_pos c13)) (Eq.symm (if_pos c13)))
    · refine gBk (pe := 51) hO [oI (.iinc 1 1) 1, o0 (.goto 6)] (by decide +kernel) (show tWG K B 0 0 S I6 J7 51 [some (vR 0), some (vI (v1 + 1)), some (vI v2), some (vI v3)] [] from ?_)
      exact (hj10 _ _ (Eq.symm (if_neg c13)) (Eq.symm (if_neg c13)))
theorem W11_row_L23 {K : tK} {B : tB} {S : tSH} {MC MS : Nat} (hO : tKO K B RX11 cX11_row 4) (hR : kR K = tRm 5 MC MS) (hG : tGr S) {n : Nat} (t0 : ty S 0 11) {k : Int32 → tHI → tHJ → Prop} (hQ : tRet K B (tQi B (tPi S k)) 0 0 (some .int)) : ∀ (f : Nat) (I : tHI) (J : tHJ) (v1 : Int32) (v2 : Int32) (v3 : Int32), F11_row_L23 n S k f I J v1 v2 v3 → tWG K B 0 0 S I J 23 [some (vR 0), some (vI v1), some (vI v2), some (vI v3)] [] := by
  intro f
  induction f with
  | zero => intro I J v1 v2 v3 h; exact h.elim
  | succ f ih => intro I J v1 v2 v3 h; exact W11_row_23 hO hR hG t0 hQ ih h
set_option maxRecDepth 20000 in
theorem hc11_row : tCV yX11_row cX11_row 4 (some .int) 0 := ⟨⟨(List.mem_of_getElem? (i := 584) rfl), (List.mem_of_getElem? (i := 2) (by decide +kernel)), by decide +kernel⟩, (List.mem_of_getElem? (i := 582) (by decide +kernel)), (List.mem_of_getElem? (i := 583) (by decide +kernel))⟩
set_option maxRecDepth 100000 in
theorem M11_row {l : Launch} {B : tB} {S : tSH} {I : tHI} {J : tHJ} {n : Nat} {k : Int32 → tHI → tHJ → Prop} (t0 : ty S 0 11) (h : F11_row n S I J k) : Met l yX11_row (tWs yX11_row cX11_row 4 (some .int)) (tRm 5 0 0) (tPc B [vR 0] S I J) (tQi B (tPi S k)) 0 0 (tA B) :=
  tEntry (by decide +kernel) [some (vR 0), none, none, none] rfl rfl (Nat.le_of_ble_eq_true rfl) (fun K hl hR hO hQ hG => by
  subst hl
  refine gBk (pe := 7) hO [o0 (.aload_n 0), oF (.getfield 36) 11 5 26 38, oF (.getfield 202) 9 1 559 0] (by decide +kernel) (And.intro t0 (And.intro rfl (And.intro (tGr.off hG t0 (k := 5) rfl) (show tWG K B 0 0 S I J 7 [some (vR 0), none, none, none] [vI (I 38 1)] from ?_))))
  refine gIfNe hO (off := 10) (tgt := 17) (by decide +kernel) (by decide) (fun c1 => ?_) (fun c1 => ?_)
  · have h := h.1 c1
    refine gBk (pe := 23) hO [oI (.iconst 0) 0, o0 (.istore_n 1), oI (.iconst 0) 0, o0 (.istore_n 2), oI (.iconst 0) 0, o0 (.istore_n 3)] (by decide +kernel) (And.intro (Nat.le_of_ble_eq_true rfl) (And.intro (Nat.le_of_ble_eq_true rfl) (And.intro (Nat.le_of_ble_eq_true rfl) (show tWG K B 0 0 S I J 23 [some (vR 0), some (vI 0), some (vI 0), some (vI 0)] [] from ?_))))
    exact W11_row_L23 hO hR hG t0 hQ n _ _ _ _ _ h
  · have h := h.2 c1
    refine gBk (pe := 13) hO [o0 (.aload_n 0), oI (.bipush (-6)) (-6)] (by decide +kernel) (show tWG K B 0 0 S I J 13 [some (vR 0), none, none, none] [vI (-6), vR 0] from ?_)
    refine gCVi_c hO (M11_settle t0 h) hc11_settle (idx := 110) (w := 248) (by decide +kernel) hR (by omega) t0 ⟨by decide, rfl⟩ (vs := [vI (-6)]) (st := []) ⟨rfl, Nat.le_of_ble_eq_true rfl, rfl⟩ (by decide +kernel) (fun x16 I14 J15 h => ?_)
    exact gIret hO hQ (by decide +kernel) ⟨rfl, h⟩)
set_option maxRecDepth 20000 in
theorem hc11_force : tCV yX11_force cX11_force 3 (some .int) 1 := ⟨⟨(List.mem_of_getElem? (i := 1090) rfl), (List.mem_of_getElem? (i := 2) (by decide +kernel)), by decide +kernel⟩, (List.mem_of_getElem? (i := 1088) (by decide +kernel)), (List.mem_of_getElem? (i := 1089) (by decide +kernel))⟩
set_option maxRecDepth 100000 in
theorem M11_force {l : Launch} {B : tB} {S : tSH} {I : tHI} {J : tHJ} {v1 : Int32} {n : Nat} {k : Int32 → tHI → tHJ → Prop} (t0 : ty S 0 11) (h : F11_force n S I J v1 k) : Met l yX11_force (tWs yX11_force cX11_force 3 (some .int)) (tRm 4 0 0) (tPc B [vR 0, vI v1] S I J) (tQi B (tPi S k)) 0 0 (tA B) :=
  tEntry (by decide +kernel) [some (vR 0), some (vI v1), none] rfl rfl (Nat.le_of_ble_eq_true rfl) (fun K hl hR hO hQ hG => by
  subst hl
  refine gBk (pe := 11) hO [o0 (.iload_n 1), oI (.iconst (-1)) (-1), o0 (.aload_n 0), oF (.getfield 12) 11 0 15 1, oF (.getfield 213) 8 4 610 0, oI (.iconst 1) 1, o0 .isub] (by decide +kernel) (And.intro t0 (And.intro rfl (And.intro (tGr.off hG t0 (k := 0) rfl) (show tWG K B 0 0 S I J 11 [some (vR 0), some (vI v1), none] [vI ((I 1 4) - 1), vI (-1), vI v1] from ?_))))
  refine gCSi_z hO (M11_within) hc11_within (idx := 106) (w := 245) (by decide +kernel) hR (by omega) (vs := [vI v1, vI (-1), vI ((I 1 4) - 1)]) (st := []) ⟨rfl, Nat.le_of_ble_eq_true rfl, rfl⟩ (by decide +kernel) (fun z1 => ?_)
  refine gIfNe hO (off := 10) (tgt := 24) (by decide +kernel) (by decide) (fun c2 => ?_) (fun c2 => ?_)
  · have h := h.1 c2
    refine gBk (pe := 42) hO [o0 (.aload_n 0), oF (.getfield 12) 11 0 15 1, oF (.getfield 282) 8 5 1091 0, o0 (.istore_n 2), o0 (.aload_n 0), oF (.getfield 12) 11 0 15 1, o0 (.iload_n 1), oF (.putfield 282) 8 5 1091 0, o0 (.aload_n 0), oI (.iconst 0) 0] (by decide +kernel) (And.intro t0 (And.intro rfl (And.intro (tGr.off hG t0 (k := 0) rfl) (And.intro (Nat.le_of_ble_eq_true rfl) (And.intro t0 (And.intro rfl (And.intro (tGr.off hG t0 (k := 0) rfl) (show tWG K B 0 0 S (uI I 1 5 v1) J 42 [some (vR 0), some (vI v1), some (vI (I 1 5))] [vI 0, vR 0] from ?_))))))))
    refine gCVi_c hO (M11_settle t0 h) hc11_settle (idx := 110) (w := 248) (by decide +kernel) hR (by omega) t0 ⟨by decide, rfl⟩ (vs := [vI 0]) (st := []) ⟨rfl, Nat.le_of_ble_eq_true rfl, rfl⟩ (by decide +kernel) (fun x5 I3 J4 h => ?_)
    refine gBk (pe := 47) hO [o0 .pop, o0 (.iload_n 2)] (by decide +kernel) (show tWG K B 0 0 S I3 J4 47 [some (vR 0), some (vI v1), some (vI (I 1 5))] [vI (I 1 5)] from ?_)
    exact gIret hO hQ (by decide +kernel) ⟨rfl, h⟩
  · have h := h.2 c2
    refine gBk (pe := 20) hO [o0 (.aload_n 0), oI (.bipush (-2)) (-2)] (by decide +kernel) (show tWG K B 0 0 S I J 20 [some (vR 0), some (vI v1), none] [vI (-2), vR 0] from ?_)
    refine gCVi_c hO (M11_settle t0 h) hc11_settle (idx := 110) (w := 248) (by decide +kernel) hR (by omega) t0 ⟨by decide, rfl⟩ (vs := [vI (-2)]) (st := []) ⟨rfl, Nat.le_of_ble_eq_true rfl, rfl⟩ (by decide +kernel) (fun x8 I6 J7 h => ?_)
    exact gIret hO hQ (by decide +kernel) ⟨rfl, h⟩)
set_option maxRecDepth 100000 in
theorem W11_whyNot_191 {K : tK} {B : tB} {S : tSH} {MC MS : Nat} (hO : tKO K B RX11 cX11_whyNot 6) (hR : kR K = tRm 6 MC MS) (hG : tGr S) {n : Nat} (t0 : ty S 0 11) {k : Int32 → tHI → tHJ → Prop} (hQ : tRet K B (tQi B (tPi S k)) 0 0 (some .int)) {I : tHI} {J : tHJ} {s0 : Int32} (h : F11_whyNot_191 n S k I J s0) : tWG K B 0 0 S I J 191 [none, none, none, none, none, none] [vI s0] := by
  exact gIret hO hQ (by decide +kernel) ⟨rfl, h⟩
set_option maxRecDepth 100000 in
theorem W11_whyNot_185 {K : tK} {B : tB} {S : tSH} {MC MS : Nat} (hO : tKO K B RX11 cX11_whyNot 6) (hR : kR K = tRm 6 MC MS) (hG : tGr S) {n : Nat} (t0 : ty S 0 11) {k : Int32 → tHI → tHJ → Prop} (hQ : tRet K B (tQi B (tPi S k)) 0 0 (some .int)) {I : tHI} {J : tHJ} (h : F11_whyNot_185 n S k I J) : tWG K B 0 0 S I J 185 [none, none, none, none, none, none] [] := by
  refine gBk (pe := 191) hO [oI (.bipush (-3)) (-3), o0 (.goto 4)] (by decide +kernel) (show tWG K B 0 0 S I J 191 [none, none, none, none, none, none] [vI (-3)] from ?_)
  exact W11_whyNot_191 hO hR hG t0 hQ h
set_option maxRecDepth 20000 in
theorem hc11_whyNot : tCV yX11_whyNot cX11_whyNot 6 (some .int) 3 := ⟨⟨(List.mem_of_getElem? (i := 946) rfl), (List.mem_of_getElem? (i := 2) (by decide +kernel)), by decide +kernel⟩, (List.mem_of_getElem? (i := 944) (by decide +kernel)), (List.mem_of_getElem? (i := 945) (by decide +kernel))⟩
set_option maxRecDepth 100000 in
theorem M11_whyNot {l : Launch} {B : tB} {S : tSH} {I : tHI} {J : tHJ} {v1 : Int32} {v2 : Int32} {v3 : Int32} {n : Nat} {k : Int32 → tHI → tHJ → Prop} (t0 : ty S 0 11) (h : F11_whyNot n S I J v1 v2 v3 k) : Met l yX11_whyNot (tWs yX11_whyNot cX11_whyNot 6 (some .int)) (tRm 6 0 0) (tPc B [vR 0, vI v1, vI v2, vI v3] S I J) (tQi B (tPi S k)) 0 0 (tA B) :=
  tEntry (by decide +kernel) [some (vR 0), some (vI v1), some (vI v2), some (vI v3), none, none] rfl rfl (Nat.le_of_ble_eq_true rfl) (fun K hl hR hO hQ hG => by
  subst hl
  refine gBk (pe := 19) hO [o0 (.aload_n 0), oF (.getfield 12) 11 0 15 1, oF (.getfield 169) 8 2 425 15, o0 (.astore 4), o0 (.aload_n 0), oF (.getfield 12) 11 0 15 1, oF (.getfield 120) 8 0 242 2, o0 (.astore 5), o0 (.iload_n 1)] (by decide +kernel) (And.intro t0 (And.intro rfl (And.intro (tGr.off hG t0 (k := 0) rfl) (And.intro rfl (And.intro (Nat.le_of_ble_eq_true rfl) (And.intro t0 (And.intro rfl (And.intro (tGr.off hG t0 (k := 0) rfl) (And.intro rfl (And.intro (Nat.le_of_ble_eq_true rfl) (show tWG K B 0 0 S I J 19 [some (vR 0), some (vI v1), some (vI v2), some (vI v3), some (vR 15), some (vR 2)] [vI v1] from ?_)))))))))))
  by_cases c1 : v1 = 0
  · have h := h.1 c1
    refine gSwIn hO (dflt := 214) (lo := 0) (hi := 4) (offs := #[33, 52, 71, 103, 173]) (len := 33) (off := 33) (tgt := 52) 0 c1 (by decide +kernel) (by decide +kernel) ?_
    refine gBk (pe := 59) hO [o0 (.iload_n 2), oI (.iconst 1) 1, o0 (.aload 4), oF (.getfield 307) 10 6 947 0] (by decide +kernel) (And.intro (tGr.off hG (tGr.off hG t0 (k := 0) rfl) (k := 2) rfl) (show tWG K B 0 0 S I J 59 [some (vR 0), some (vI v1), some (vI v2), some (vI v3), some (vR 15), some (vR 2)] [vI (I 15 6), vI 1, vI v2] from ?_))
    refine gCSi_z hO (M11_within) hc11_within (idx := 106) (w := 245) (by decide +kernel) hR (by omega) (vs := [vI v2, vI 1, vI (I 15 6)]) (st := []) ⟨rfl, Nat.le_of_ble_eq_true rfl, rfl⟩ (by decide +kernel) (fun z2 => ?_)
    have hj3 : ∀ (m4 : Int32), m4 = (if (V11_within v2 1 (I 15 6)) = 0 then ((-1) : Int32) else 0) → tWG K B 0 0 S I J 70 [none, none, none, none, none, none] [vI m4] := by
      intro m4 em4
      subst em4
      exact gIret hO hQ (by decide +kernel) ⟨rfl, h⟩
    refine gIfEq hO (off := 7) (tgt := 69) (by decide +kernel) (by decide) (fun c5 => ?_) (fun c5 => ?_)
    · refine gBk (pe := 70) hO [oI (.iconst (-1)) (-1)] (by decide +kernel) (show tWG K B 0 0 S I J 70 [some (vR 0), some (vI v1), some (vI v2), some (vI v3), some (vR 15), some (vR 2)] [vI (-1)] from ?_)
      exact gWeak (L' := [none, none, none, none, none, none]) trivial (hj3 _ (Eq.symm (if_pos c5)))
    · refine gBk (pe := 70) hO [oI (.iconst 0) 0, o0 (.goto 4)] (by decide +kernel) (show tWG K B 0 0 S I J 70 [some (vR 0), some (vI v1), some (vI v2), some (vI v3), some (vR 15), some (vR 2)] [vI 0] from ?_)
      exact gWeak (L' := [none, none, none, none, none, none]) trivial (hj3 _ (Eq.symm (if_neg c5)))
  have h := h.2
  by_cases c6 : v1 = 1
  · have h := h.1 c6
    refine gSwIn hO (dflt := 214) (lo := 0) (hi := 4) (offs := #[33, 52, 71, 103, 173]) (len := 33) (off := 52) (tgt := 71) 1 c6 (by decide +kernel) (by decide +kernel) ?_
    refine gBk (pe := 78) hO [o0 (.iload_n 2), oI (.iconst 1) 1, o0 (.aload 4), oF (.getfield 310) 10 7 948 0] (by decide +kernel) (And.intro (tGr.off hG (tGr.off hG t0 (k := 0) rfl) (k := 2) rfl) (show tWG K B 0 0 S I J 78 [some (vR 0), some (vI v1), some (vI v2), some (vI v3), some (vR 15), some (vR 2)] [vI (I 15 7), vI 1, vI v2] from ?_))
    refine gCSi_z hO (M11_within) hc11_within (idx := 106) (w := 245) (by decide +kernel) hR (by omega) (vs := [vI v2, vI 1, vI (I 15 7)]) (st := []) ⟨rfl, Nat.le_of_ble_eq_true rfl, rfl⟩ (by decide +kernel) (fun z7 => ?_)
    have hj8 : ∀ (m9 : Int32), m9 = (if (V11_within v2 1 (I 15 7)) = 0 then ((-1) : Int32) else 0) → tWG K B 0 0 S I J 89 [none, none, none, none, none, none] [vI m9] := by
      intro m9 em9
      subst em9
      exact gIret hO hQ (by decide +kernel) ⟨rfl, h⟩
    refine gIfEq hO (off := 7) (tgt := 88) (by decide +kernel) (by decide) (fun c10 => ?_) (fun c10 => ?_)
    · refine gBk (pe := 89) hO [oI (.iconst (-1)) (-1)] (by decide +kernel) (show tWG K B 0 0 S I J 89 [some (vR 0), some (vI v1), some (vI v2), some (vI v3), some (vR 15), some (vR 2)] [vI (-1)] from ?_)
      exact gWeak (L' := [none, none, none, none, none, none]) trivial (hj8 _ (Eq.symm (if_pos c10)))
    · refine gBk (pe := 89) hO [oI (.iconst 0) 0, o0 (.goto 4)] (by decide +kernel) (show tWG K B 0 0 S I J 89 [some (vR 0), some (vI v1), some (vI v2), some (vI v3), some (vR 15), some (vR 2)] [vI 0] from ?_)
      exact gWeak (L' := [none, none, none, none, none, none]) trivial (hj8 _ (Eq.symm (if_neg c10)))
  have h := h.2
  by_cases c11 : v1 = 2
  · have h := h.1 c11
    refine gSwIn hO (dflt := 214) (lo := 0) (hi := 4) (offs := #[33, 52, 71, 103, 173]) (len := 33) (off := 71) (tgt := 90) 2 c11 (by decide +kernel) (by decide +kernel) ?_
    refine gBk (pe := 93) hO [o0 (.iload_n 2), oI (.iconst 0) 0, oI (.iconst 2) 2] (by decide +kernel) (show tWG K B 0 0 S I J 93 [some (vR 0), some (vI v1), some (vI v2), some (vI v3), some (vR 15), some (vR 2)] [vI 2, vI 0, vI v2] from ?_)
    refine gCSi_z hO (M11_within) hc11_within (idx := 106) (w := 245) (by decide +kernel) hR (by omega) (vs := [vI v2, vI 0, vI 2]) (st := []) ⟨rfl, Nat.le_of_ble_eq_true rfl, rfl⟩ (by decide +kernel) (fun z12 => ?_)
    refine gIfNe hO (off := 5) (tgt := 101) (by decide +kernel) (by decide) (fun c13 => ?_) (fun c13 => ?_)
    · have h := h.1 c13
      refine gBk (pe := 108) hO [o0 (.iload_n 2), o0 (.aload 4), oF (.getfield 273) 10 1 934 0, o0 .isub] (by decide +kernel) (And.intro (tGr.off hG (tGr.off hG t0 (k := 0) rfl) (k := 2) rfl) (show tWG K B 0 0 S I J 108 [some (vR 0), some (vI v1), some (vI v2), some (vI v3), some (vR 15), some (vR 2)] [vI (v2 - (I 15 1))] from ?_))
      refine gAbs hO (idx := 313) (w := 949) (by decide +kernel) hR (by omega) (st := []) (Nat.le_of_ble_eq_true rfl) rfl (by decide +kernel) ?_
      refine gBk (pe := 112) hO [oI (.iconst 1) 1] (by decide +kernel) (show tWG K B 0 0 S I J 112 [some (vR 0), some (vI v1), some (vI v2), some (vI v3), some (vR 15), some (vR 2)] [vI 1, vI (if 0 ≤ (v2 - (I 15 1)) then (v2 - (I 15 1)) else 0 - (v2 - (I 15 1)))] from ?_)
      have hj14 : ∀ (m15 : Int32), m15 = (if (if 0 ≤ (v2 - (I 15 1)) then (v2 - (I 15 1)) else 0 - (v2 - (I 15 1))) ≤ 1 then (0 : Int32) else (-3)) → tWG K B 0 0 S I J 121 [none, none, none, none, none, none] [vI m15] := by
        intro m15 em15
        subst em15
        exact gIret hO hQ (by decide +kernel) ⟨rfl, h⟩
      refine gIcLe hO (off := 8) (tgt := 120) (by decide +kernel) (by decide) (fun c16 => ?_) (fun c16 => ?_)
      · refine gBk (pe := 121) hO [oI (.iconst 0) 0] (by decide +kernel) (show tWG K B 0 0 S I J 121 [some (vR 0), some (vI v1), some (vI v2), some (vI v3), some (vR 15), some (vR 2)] [vI 0] from ?_)
        exact gWeak (L' := [none, none, none, none, none, none]) trivial (hj14 _ (Eq.symm (if_pos c16)))
      · refine gBk (pe := 121) hO [oI (.bipush (-3)) (-3), o0 (.goto 4)] (by decide +kernel) (show tWG K B 0 0 S I J 121 [some (vR 0), some (vI v1), some (vI v2), some (vI v3), some (vR 15), some (vR 2)] [vI (-3)] from ?_)
        exact gWeak (L' := [none, none, none, none, none, none]) trivial (hj14 _ (Eq.symm (if_neg c16)))
    · have h := h.2 c13
      refine gBk (pe := 100) hO [oI (.iconst (-1)) (-1)] (by decide +kernel) (show tWG K B 0 0 S I J 100 [some (vR 0), some (vI v1), some (vI v2), some (vI v3), some (vR 15), some (vR 2)] [vI (-1)] from ?_)
      exact gIret hO hQ (by decide +kernel) ⟨rfl, h⟩
  have h := h.2
  by_cases c17 : v1 = 3
  · have h := h.1 c17
    refine gSwIn hO (dflt := 214) (lo := 0) (hi := 4) (offs := #[33, 52, 71, 103, 173]) (len := 33) (off := 103) (tgt := 122) 3 c17 (by decide +kernel) (by decide +kernel) ?_
    refine gBk (pe := 125) hO [o0 (.iload_n 3), oI (.iconst 0) 0, oI (.iconst 3) 3] (by decide +kernel) (show tWG K B 0 0 S I J 125 [some (vR 0), some (vI v1), some (vI v2), some (vI v3), some (vR 15), some (vR 2)] [vI 3, vI 0, vI v3] from ?_)
    refine gCSi_z hO (M11_within) hc11_within (idx := 106) (w := 245) (by decide +kernel) hR (by omega) (vs := [vI v3, vI 0, vI 3]) (st := []) ⟨rfl, Nat.le_of_ble_eq_true rfl, rfl⟩ (by decide +kernel) (fun z18 => ?_)
    refine gIfNe hO (off := 5) (tgt := 133) (by decide +kernel) (by decide) (fun c19 => ?_) (fun c19 => ?_)
    · have h := h.1 c19
      refine gBk (pe := 136) hO [o0 (.aload 5), o0 (.iload_n 2)] (by decide +kernel) (show tWG K B 0 0 S I J 136 [some (vR 0), some (vI v1), some (vI v2), some (vI v3), some (vR 15), some (vR 2)] [vI v2, vR 2] from ?_)
      refine gCVi_z hO (M3_has (tGr.off hG (tGr.off hG t0 (k := 0) rfl) (k := 0) rfl)) hc3_has (idx := 136) (w := 381) (by decide +kernel) hR (by omega) (tGr.off hG (tGr.off hG t0 (k := 0) rfl) (k := 0) rfl) ⟨by decide, rfl⟩ (vs := [vI v2]) (st := []) ⟨rfl, Nat.le_of_ble_eq_true rfl, rfl⟩ (by decide +kernel) (fun z20 => ?_)
      refine gIfNe hO (off := 6) (tgt := 145) (by decide +kernel) (by decide) (fun c21 => ?_) (fun c21 => ?_)
      · have h := h.1 c21
        refine gBk (pe := 149) hO [o0 (.aload_n 0), oF (.getfield 59) 11 8 38 48] (by decide +kernel) (And.intro t0 (And.intro rfl (show tWG K B 0 0 S I J 149 [some (vR 0), some (vI v1), some (vI v2), some (vI v3), some (vR 15), some (vR 2)] [vR 48] from ?_)))
        refine gCVv_c hO (M2_asItStands (tGr.off hG t0 (k := 8) rfl) h) hc2_asItStands (idx := 114) (w := 255) (by decide +kernel) hR (by omega) (tGr.off hG t0 (k := 8) rfl) ⟨by decide, rfl⟩ (vs := []) (st := []) ⟨rfl, Nat.le_of_ble_eq_true rfl, rfl⟩ (by decide +kernel) (fun I22 J23 h => ?_)
        refine gBk (pe := 157) hO [o0 (.aload 4), oF (.getfield 270) 10 3 933 0] (by decide +kernel) (And.intro (tGr.off hG (tGr.off hG t0 (k := 0) rfl) (k := 2) rfl) (show tWG K B 0 0 S I22 J23 157 [some (vR 0), some (vI v1), some (vI v2), some (vI v3), some (vR 15), some (vR 2)] [vI (I22 15 3)] from ?_))
        refine gIfGt hO (off := 28) (tgt := 185) (by decide +kernel) (by decide) (fun c24 => ?_) (fun c24 => ?_)
        · have h := h.1 c24
          exact gWeak (L' := [none, none, none, none, none, none]) trivial (W11_whyNot_185 hO hR hG t0 hQ h)
        · have h := h.2 c24
          refine gBk (pe := 179) hO [o0 (.aload_n 0), oF (.getfield 59) 11 8 38 48, o0 (.aload 5), oF (.getfield 140) 3 1 377 3, o0 (.iload_n 2), o0 .iaload, o0 (.iload_n 3), o0 (.aload 5), oF (.getfield 146) 3 3 379 5, o0 (.iload_n 2), o0 .iaload] (by decide +kernel) (And.intro t0 (And.intro rfl (And.intro (tGr.off hG (tGr.off hG t0 (k := 0) rfl) (k := 0) rfl) (And.intro rfl (And.intro (tGr.off hG (tGr.off hG (tGr.off hG t0 (k := 0) rfl) (k := 0) rfl) (k := 1) rfl) (And.intro (tin (tGr.len hG (tGr.off hG (tGr.off hG t0 (k := 0) rfl) (k := 0) rfl) (k := 1) rfl (by decide)) h.1) (And.intro (tGr.off hG (tGr.off hG t0 (k := 0) rfl) (k := 0) rfl) (And.intro rfl (And.intro (tGr.off hG (tGr.off hG (tGr.off hG t0 (k := 0) rfl) (k := 0) rfl) (k := 3) rfl) (And.intro (tin (tGr.len hG (tGr.off hG (tGr.off hG t0 (k := 0) rfl) (k := 0) rfl) (k := 3) rfl (by decide)) h.2.1) (show tWG K B 0 0 S I22 J23 179 [some (vR 0), some (vI v1), some (vI v2), some (vI v3), some (vR 15), some (vR 2)] [vI (I22 5 v2.toNatClampNeg), vI v3, vI (I22 3 v2.toNatClampNeg), vR 48] from ?_)))))))))))
          have h := h.2.2
          refine gCVi_b hO (M2_barred (tGr.off hG t0 (k := 8) rfl) h) hc2_barred (idx := 117) (w := 273) (by decide +kernel) hR (by omega) (tGr.off hG t0 (k := 8) rfl) ⟨by decide, rfl⟩ (vs := [vI (I22 3 v2.toNatClampNeg), vI v3, vI (I22 5 v2.toNatClampNeg)]) (st := []) ⟨rfl, Nat.le_of_ble_eq_true rfl, rfl⟩ (by decide +kernel) (fun x27 I25 J26 z28 h => ?_)
          have h := h z28
          have hj29 : ∀ (m30 : Int32), m30 = (if x27 = 0 then (0 : Int32) else (-3)) → tWG K B 0 0 S I25 J26 191 [none, none, none, none, none, none] [vI m30] := by
            intro m30 em30
            subst em30
            exact gIret hO hQ (by decide +kernel) ⟨rfl, h⟩
          refine gIfEq hO (off := 8) (tgt := 190) (by decide +kernel) (by decide) (fun c31 => ?_) (fun c31 => ?_)
          · refine gBk (pe := 191) hO [oI (.iconst 0) 0] (by decide +kernel) (show tWG K B 0 0 S I25 J26 191 [some (vR 0), some (vI v1), some (vI v2), some (vI v3), some (vR 15), some (vR 2)] [vI 0] from ?_)
            exact gWeak (L' := [none, none, none, none, none, none]) trivial (hj29 _ (Eq.symm (if_pos c31)))
          · refine gBk (pe := 191) hO [oI (.bipush (-3)) (-3), o0 (.goto 4)] (by decide +kernel) (show tWG K B 0 0 S I25 J26 191 [some (vR 0), some (vI v1), some (vI v2), some (vI v3), some (vR 15), some (vR 2)] [vI (-3)] from ?_)
            exact gWeak (L' := [none, none, none, none, none, none]) trivial (hj29 _ (Eq.symm (if_neg c31)))
      · have h := h.2 c21
        refine gBk (pe := 144) hO [oI (.bipush (-2)) (-2)] (by decide +kernel) (show tWG K B 0 0 S I J 144 [some (vR 0), some (vI v1), some (vI v2), some (vI v3), some (vR 15), some (vR 2)] [vI (-2)] from ?_)
        exact gIret hO hQ (by decide +kernel) ⟨rfl, h⟩
    · have h := h.2 c19
      refine gBk (pe := 132) hO [oI (.iconst (-1)) (-1)] (by decide +kernel) (show tWG K B 0 0 S I J 132 [some (vR 0), some (vI v1), some (vI v2), some (vI v3), some (vR 15), some (vR 2)] [vI (-1)] from ?_)
      exact gIret hO hQ (by decide +kernel) ⟨rfl, h⟩
  have h := h.2
  by_cases c32 : v1 = 4
  · have h := h.1 c32
    refine gSwIn hO (dflt := 214) (lo := 0) (hi := 4) (offs := #[33, 52, 71, 103, 173]) (len := 33) (off := 173) (tgt := 192) 4 c32 (by decide +kernel) (by decide +kernel) ?_
    refine gBk (pe := 196) hO [o0 (.iload_n 3), oI (.bipush (-2)) (-2), oI (.iconst 2) 2] (by decide +kernel) (show tWG K B 0 0 S I J 196 [some (vR 0), some (vI v1), some (vI v2), some (vI v3), some (vR 15), some (vR 2)] [vI 2, vI (-2), vI v3] from ?_)
    refine gCSi_z hO (M11_within) hc11_within (idx := 106) (w := 245) (by decide +kernel) hR (by omega) (vs := [vI v3, vI (-2), vI 2]) (st := []) ⟨rfl, Nat.le_of_ble_eq_true rfl, rfl⟩ (by decide +kernel) (fun z33 => ?_)
    refine gIfNe hO (off := 5) (tgt := 204) (by decide +kernel) (by decide) (fun c34 => ?_) (fun c34 => ?_)
    · have h := h.1 c34
      refine gBk (pe := 207) hO [o0 (.aload 5), o0 (.iload_n 2)] (by decide +kernel) (show tWG K B 0 0 S I J 207 [some (vR 0), some (vI v1), some (vI v2), some (vI v3), some (vR 15), some (vR 2)] [vI v2, vR 2] from ?_)
      refine gCVi_z hO (M3_has (tGr.off hG (tGr.off hG t0 (k := 0) rfl) (k := 0) rfl)) hc3_has (idx := 136) (w := 381) (by decide +kernel) hR (by omega) (tGr.off hG (tGr.off hG t0 (k := 0) rfl) (k := 0) rfl) ⟨by decide, rfl⟩ (vs := [vI v2]) (st := []) ⟨rfl, Nat.le_of_ble_eq_true rfl, rfl⟩ (by decide +kernel) (fun z35 => ?_)
      refine gIfNe hO (off := 6) (tgt := 216) (by decide +kernel) (by decide) (fun c36 => ?_) (fun c36 => ?_)
      · have h := h.1 c36
        refine gBk (pe := 223) hO [o0 (.aload 5), oF (.getfield 146) 3 3 379 5, o0 (.iload_n 2), o0 .iaload] (by decide +kernel) (And.intro (tGr.off hG (tGr.off hG t0 (k := 0) rfl) (k := 0) rfl) (And.intro rfl (And.intro (tGr.off hG (tGr.off hG (tGr.off hG t0 (k := 0) rfl) (k := 0) rfl) (k := 3) rfl) (And.intro (tin (tGr.len hG (tGr.off hG (tGr.off hG t0 (k := 0) rfl) (k := 0) rfl) (k := 3) rfl (by decide)) h.1) (show tWG K B 0 0 S I J 223 [some (vR 0), some (vI v1), some (vI v2), some (vI v3), some (vR 15), some (vR 2)] [vI (I 5 v2.toNatClampNeg)] from ?_)))))
        have h := h.2
        have hj37 : ∀ (m38 : Int32), m38 = (if (I 5 v2.toNatClampNeg) = 0 then ((-3) : Int32) else 0) → tWG K B 0 0 S I J 232 [none, none, none, none, none, none] [vI m38] := by
          intro m38 em38
          subst em38
          exact gIret hO hQ (by decide +kernel) ⟨rfl, h⟩
        refine gIfNe hO (off := 8) (tgt := 231) (by decide +kernel) (by decide) (fun c39 => ?_) (fun c39 => ?_)
        · refine gBk (pe := 232) hO [oI (.iconst 0) 0] (by decide +kernel) (show tWG K B 0 0 S I J 232 [some (vR 0), some (vI v1), some (vI v2), some (vI v3), some (vR 15), some (vR 2)] [vI 0] from ?_)
          exact gWeak (L' := [none, none, none, none, none, none]) trivial (hj37 _ (Eq.symm (if_neg c39)))
        · refine gBk (pe := 232) hO [oI (.bipush (-3)) (-3), o0 (.goto 4)] (by decide +kernel) (show tWG K B 0 0 S I J 232 [some (vR 0), some (vI v1), some (vI v2), some (vI v3), some (vR 15), some (vR 2)] [vI (-3)] from ?_)
          exact gWeak (L' := [none, none, none, none, none, none]) trivial (hj37 _ (Eq.symm (if_pos c39)))
      · have h := h.2 c36
        refine gBk (pe := 215) hO [oI (.bipush (-2)) (-2)] (by decide +kernel) (show tWG K B 0 0 S I J 215 [some (vR 0), some (vI v1), some (vI v2), some (vI v3), some (vR 15), some (vR 2)] [vI (-2)] from ?_)
        exact gIret hO hQ (by decide +kernel) ⟨rfl, h⟩
    · have h := h.2 c34
      refine gBk (pe := 203) hO [oI (.iconst (-1)) (-1)] (by decide +kernel) (show tWG K B 0 0 S I J 203 [some (vR 0), some (vI v1), some (vI v2), some (vI v3), some (vR 15), some (vR 2)] [vI (-1)] from ?_)
      exact gIret hO hQ (by decide +kernel) ⟨rfl, h⟩
  have h := h.2
  have hsw : swN 0 v1 5 := ⟨⟨⟨⟨⟨True.intro, c1⟩, c6⟩, c11⟩, c17⟩, c32⟩
  have h := h hsw
  refine gSwOut hO (dflt := 214) (lo := 0) (hi := 4) (offs := #[33, 52, 71, 103, 173]) (len := 33) (tgt := 233) (by decide +kernel) (sw_out (by decide) (by decide) hsw) (by decide) ?_
  refine gBk (pe := 238) hO [o0 (.aload 4), oF (.getfield 270) 10 3 933 0] (by decide +kernel) (And.intro (tGr.off hG (tGr.off hG t0 (k := 0) rfl) (k := 2) rfl) (show tWG K B 0 0 S I J 238 [some (vR 0), some (vI v1), some (vI v2), some (vI v3), some (vR 15), some (vR 2)] [vI (I 15 3)] from ?_))
  have hj40 : ∀ (m41 : Int32), m41 = (if (I 15 3) = 0 then (-3) else (if (I 7 0) = 0 then ((-3) : Int32) else 0)) → tWG K B 0 0 S I J 260 [none, none, none, none, none, none] [vI m41] := by
    intro m41 em41
    subst em41
    exact gIret hO hQ (by decide +kernel) ⟨rfl, h⟩
  refine gIfEq hO (off := 16) (tgt := 254) (by decide +kernel) (by decide) (fun c42 => ?_) (fun c42 => ?_)
  · refine gBk (pe := 260) hO [oI (.bipush (-3)) (-3), o0 (.goto 4)] (by decide +kernel) (show tWG K B 0 0 S I J 260 [some (vR 0), some (vI v1), some (vI v2), some (vI v3), some (vR 15), some (vR 2)] [vI (-3)] from ?_)
    exact gWeak (L' := [none, none, none, none, none, none]) trivial (hj40 _ (Eq.symm (if_pos c42)))
  · refine gBk (pe := 251) hO [o0 (.aload_n 0), oF (.getfield 12) 11 0 15 1, oF (.getfield 158) 8 1 398 7, oF (.getfield 162) 7 0 399 0] (by decide +kernel) (And.intro t0 (And.intro rfl (And.intro (tGr.off hG t0 (k := 0) rfl) (And.intro rfl (And.intro (tGr.off hG (tGr.off hG t0 (k := 0) rfl) (k := 1) rfl) (show tWG K B 0 0 S I J 251 [some (vR 0), some (vI v1), some (vI v2), some (vI v3), some (vR 15), some (vR 2)] [vI (I 7 0)] from ?_))))))
    refine gIfNe hO (off := 8) (tgt := 259) (by decide +kernel) (by decide) (fun c43 => ?_) (fun c43 => ?_)
    · refine gBk (pe := 260) hO [oI (.iconst 0) 0] (by decide +kernel) (show tWG K B 0 0 S I J 260 [some (vR 0), some (vI v1), some (vI v2), some (vI v3), some (vR 15), some (vR 2)] [vI 0] from ?_)
      exact gWeak (L' := [none, none, none, none, none, none]) trivial (hj40 _ (Eq.symm ((if_neg c42).trans (if_neg c43))))
    · refine gBk (pe := 260) hO [oI (.bipush (-3)) (-3), o0 (.goto 4)] (by decide +kernel) (show tWG K B 0 0 S I J 260 [some (vR 0), some (vI v1), some (vI v2), some (vI v3), some (vR 15), some (vR 2)] [vI (-3)] from ?_)
      exact gWeak (L' := [none, none, none, none, none, none]) trivial (hj40 _ (Eq.symm ((if_neg c42).trans (if_pos c43)))))
set_option maxRecDepth 20000 in
theorem hc11_undo : tCV yX11_undo cX11_undo 1 (some .int) 0 := ⟨⟨(List.mem_of_getElem? (i := 1147) rfl), (List.mem_of_getElem? (i := 2) (by decide +kernel)), by decide +kernel⟩, (List.mem_of_getElem? (i := 1145) (by decide +kernel)), (List.mem_of_getElem? (i := 1146) (by decide +kernel))⟩
set_option maxRecDepth 100000 in
theorem M11_undo {l : Launch} {B : tB} {S : tSH} {I : tHI} {J : tHJ} {n : Nat} {k : Int32 → tHI → tHJ → Prop} (t0 : ty S 0 11) (h : F11_undo n S I J k) : Met l yX11_undo (tWs yX11_undo cX11_undo 1 (some .int)) (tRm 4 0 0) (tPc B [vR 0] S I J) (tQi B (tPi S k)) 0 0 (tA B) :=
  tEntry (by decide +kernel) [some (vR 0)] rfl rfl (Nat.le_of_ble_eq_true rfl) (fun K hl hR hO hQ hG => by
  subst hl
  refine gBk (pe := 7) hO [o0 (.aload_n 0), oF (.getfield 26) 11 3 21 34, oF (.getfield 129) 1 1 244 0] (by decide +kernel) (And.intro t0 (And.intro rfl (And.intro (tGr.off hG t0 (k := 3) rfl) (show tWG K B 0 0 S I J 7 [some (vR 0)] [vI (I 34 1)] from ?_))))
  refine gIfNe hO (off := 10) (tgt := 17) (by decide +kernel) (by decide) (fun c1 => ?_) (fun c1 => ?_)
  · have h := h.1 c1
    refine gBk (pe := 26) hO [o0 (.aload_n 0), o0 (.aload_n 0), oF (.getfield 26) 11 3 21 34, o0 (.aload_n 0), oF (.getfield 12) 11 0 15 1] (by decide +kernel) (And.intro t0 (And.intro rfl (And.intro t0 (And.intro rfl (show tWG K B 0 0 S I J 26 [some (vR 0)] [vR 1, vR 34, vR 0] from ?_)))))
    refine gCVi_c hO (M1_takeBack (tGr.off hG t0 (k := 3) rfl) (tGr.off hG t0 (k := 0) rfl) h) hc1_takeBack (idx := 316) (w := 1148) (by decide +kernel) hR (by omega) (tGr.off hG t0 (k := 3) rfl) ⟨by decide, rfl⟩ (vs := [vR 1]) (st := [vR 0]) ⟨rfl, Nat.le_of_ble_eq_true rfl, rfl⟩ (by decide +kernel) (fun x4 I2 J3 h => ?_)
    refine gCVi_c hO (M11_settle t0 h) hc11_settle (idx := 110) (w := 248) (by decide +kernel) hR (by omega) t0 ⟨by decide, rfl⟩ (vs := [vI x4]) (st := []) ⟨rfl, Nat.le_of_ble_eq_true rfl, rfl⟩ (by decide +kernel) (fun x7 I5 J6 h => ?_)
    exact gIret hO hQ (by decide +kernel) ⟨rfl, h⟩
  · have h := h.2 c1
    refine gBk (pe := 13) hO [o0 (.aload_n 0), oI (.bipush (-3)) (-3)] (by decide +kernel) (show tWG K B 0 0 S I J 13 [some (vR 0)] [vI (-3), vR 0] from ?_)
    refine gCVi_c hO (M11_settle t0 h) hc11_settle (idx := 110) (w := 248) (by decide +kernel) hR (by omega) t0 ⟨by decide, rfl⟩ (vs := [vI (-3)]) (st := []) ⟨rfl, Nat.le_of_ble_eq_true rfl, rfl⟩ (by decide +kernel) (fun x10 I8 J9 h => ?_)
    exact gIret hO hQ (by decide +kernel) ⟨rfl, h⟩)
set_option maxRecDepth 100000 in
theorem W11_goes_24 {K : tK} {B : tB} {S : tSH} {MC MS : Nat} (hO : tKO K B RX11 cX11_goes 3) (hR : kR K = tRm 7 MC MS) (hG : tGr S) {n : Nat} (t0 : ty S 0 11) {k : Int32 → tHI → tHJ → Prop} (hQ : tRet K B (tQi B (tPi S k)) 0 0 (some .int)) {I : tHI} {J : tHJ} (h : F11_goes_24 n S k I J) : tWG K B 0 0 S I J 24 [none, none, none] [] := by
  refine gBk (pe := 25) hO [oI (.iconst (-1)) (-1)] (by decide +kernel) (show tWG K B 0 0 S I J 25 [none, none, none] [vI (-1)] from ?_)
  exact gIret hO hQ (by decide +kernel) ⟨rfl, h⟩
set_option maxRecDepth 20000 in
theorem hc11_goes : tCV yX11_goes cX11_goes 3 (some .int) 2 := ⟨⟨(List.mem_of_getElem? (i := 1159) rfl), (List.mem_of_getElem? (i := 2) (by decide +kernel)), by decide +kernel⟩, (List.mem_of_getElem? (i := 1157) (by decide +kernel)), (List.mem_of_getElem? (i := 1158) (by decide +kernel))⟩
set_option maxRecDepth 100000 in
theorem M11_goes {l : Launch} {B : tB} {S : tSH} {I : tHI} {J : tHJ} {v1 : Int32} {v2 : Int32} {n : Nat} {k : Int32 → tHI → tHJ → Prop} (t0 : ty S 0 11) (h : F11_goes n S I J v1 v2 k) : Met l yX11_goes (tWs yX11_goes cX11_goes 3 (some .int)) (tRm 7 0 0) (tPc B [vR 0, vI v1, vI v2] S I J) (tQi B (tPi S k)) 0 0 (tA B) :=
  tEntry (by decide +kernel) [some (vR 0), some (vI v1), some (vI v2)] rfl rfl (Nat.le_of_ble_eq_true rfl) (fun K hl hR hO hQ hG => by
  subst hl
  refine gBk (pe := 8) hO [o0 (.aload_n 0), oF (.getfield 12) 11 0 15 1, oF (.getfield 158) 8 1 398 7, o0 (.iload_n 1)] (by decide +kernel) (And.intro t0 (And.intro rfl (And.intro (tGr.off hG t0 (k := 0) rfl) (And.intro rfl (show tWG K B 0 0 S I J 8 [some (vR 0), some (vI v1), some (vI v2)] [vI v1, vR 7] from ?_)))))
  refine gCVi_z hO (M7_has (tGr.off hG (tGr.off hG t0 (k := 0) rfl) (k := 1) rfl)) hc7_has (idx := 175) (w := 439) (by decide +kernel) hR (by omega) (tGr.off hG (tGr.off hG t0 (k := 0) rfl) (k := 1) rfl) ⟨by decide, rfl⟩ (vs := [vI v1]) (st := []) ⟨rfl, Nat.le_of_ble_eq_true rfl, rfl⟩ (by decide +kernel) (fun z1 => ?_)
  refine gIfEq hO (off := 13) (tgt := 24) (by decide +kernel) (by decide) (fun c2 => ?_) (fun c2 => ?_)
  · have h := h.1 c2
    exact gWeak (L' := [none, none, none]) trivial (W11_goes_24 hO hR hG t0 hQ h)
  · have h := h.2 c2
    refine gBk (pe := 18) hO [o0 (.iload_n 2), oI (.iconst 1) 1, oI (.bipush 60) 60] (by decide +kernel) (show tWG K B 0 0 S I J 18 [some (vR 0), some (vI v1), some (vI v2)] [vI 60, vI 1, vI v2] from ?_)
    refine gCSi_z hO (M11_within) hc11_within (idx := 106) (w := 245) (by decide +kernel) hR (by omega) (vs := [vI v2, vI 1, vI 60]) (st := []) ⟨rfl, Nat.le_of_ble_eq_true rfl, rfl⟩ (by decide +kernel) (fun z3 => ?_)
    refine gIfNe hO (off := 5) (tgt := 26) (by decide +kernel) (by decide) (fun c4 => ?_) (fun c4 => ?_)
    · have h := h.1 c4
      refine gBk (pe := 30) hO [o0 (.aload_n 0), oF (.getfield 59) 11 8 38 48] (by decide +kernel) (And.intro t0 (And.intro rfl (show tWG K B 0 0 S I J 30 [some (vR 0), some (vI v1), some (vI v2)] [vR 48] from ?_)))
      refine gCVv_c hO (M2_asItStands (tGr.off hG t0 (k := 8) rfl) h) hc2_asItStands (idx := 114) (w := 255) (by decide +kernel) hR (by omega) (tGr.off hG t0 (k := 8) rfl) ⟨by decide, rfl⟩ (vs := []) (st := []) ⟨rfl, Nat.le_of_ble_eq_true rfl, rfl⟩ (by decide +kernel) (fun I5 J6 h => ?_)
      refine gBk (pe := 39) hO [o0 (.aload_n 0), oF (.getfield 59) 11 8 38 48, o0 (.iload_n 1), o0 (.iload_n 2)] (by decide +kernel) (And.intro t0 (And.intro rfl (show tWG K B 0 0 S I5 J6 39 [some (vR 0), some (vI v1), some (vI v2)] [vI v2, vI v1, vR 48] from ?_)))
      refine gCVi_c hO (M2_outcome (tGr.off hG t0 (k := 8) rfl) h) hc2_outcome (idx := 300) (w := 966) (by decide +kernel) hR (by omega) (tGr.off hG t0 (k := 8) rfl) ⟨by decide, rfl⟩ (vs := [vI v1, vI v2]) (st := []) ⟨rfl, Nat.le_of_ble_eq_true rfl, rfl⟩ (by decide +kernel) (fun x9 I7 J8 h => ?_)
      exact gIret hO hQ (by decide +kernel) ⟨rfl, h⟩
    · have h := h.2 c4
      exact gWeak (L' := [none, none, none]) trivial (W11_goes_24 hO hR hG t0 hQ h))
set_option maxRecDepth 100000 in
theorem W11_quick_23 {K : tK} {B : tB} {S : tSH} {MC MS : Nat} (hO : tKO K B RX11 cX11_quick 4) (hR : kR K = tRm 7 MC MS) (hG : tGr S) {n : Nat} (t0 : ty S 0 11) {k : Int32 → tHI → tHJ → Prop} (hQ : tRet K B (tQi B (tPi S k)) 0 0 (some .int)) {I : tHI} {J : tHJ} (h : F11_quick_23 n S k I J) : tWG K B 0 0 S I J 23 [none, none, none, none] [] := by
  refine gBk (pe := 24) hO [oI (.iconst (-1)) (-1)] (by decide +kernel) (show tWG K B 0 0 S I J 24 [none, none, none, none] [vI (-1)] from ?_)
  exact gIret hO hQ (by decide +kernel) ⟨rfl, h⟩
set_option maxRecDepth 20000 in
theorem hc11_quick : tCV yX11_quick cX11_quick 4 (some .int) 2 := ⟨⟨(List.mem_of_getElem? (i := 1167) rfl), (List.mem_of_getElem? (i := 2) (by decide +kernel)), by decide +kernel⟩, (List.mem_of_getElem? (i := 1165) (by decide +kernel)), (List.mem_of_getElem? (i := 1166) (by decide +kernel))⟩
set_option maxRecDepth 100000 in
theorem M11_quick {l : Launch} {B : tB} {S : tSH} {I : tHI} {J : tHJ} {v1 : Int32} {v2 : Int32} {n : Nat} {k : Int32 → tHI → tHJ → Prop} (t0 : ty S 0 11) (h : F11_quick n S I J v1 v2 k) : Met l yX11_quick (tWs yX11_quick cX11_quick 4 (some .int)) (tRm 7 0 0) (tPc B [vR 0, vI v1, vI v2] S I J) (tQi B (tPi S k)) 0 0 (tA B) :=
  tEntry (by decide +kernel) [some (vR 0), some (vI v1), some (vI v2), none] rfl rfl (Nat.le_of_ble_eq_true rfl) (fun K hl hR hO hQ hG => by
  subst hl
  refine gBk (pe := 8) hO [o0 (.aload_n 0), oF (.getfield 12) 11 0 15 1, oF (.getfield 158) 8 1 398 7, o0 (.iload_n 1)] (by decide +kernel) (And.intro t0 (And.intro rfl (And.intro (tGr.off hG t0 (k := 0) rfl) (And.intro rfl (show tWG K B 0 0 S I J 8 [some (vR 0), some (vI v1), some (vI v2), none] [vI v1, vR 7] from ?_)))))
  refine gCVi_z hO (M7_has (tGr.off hG (tGr.off hG t0 (k := 0) rfl) (k := 1) rfl)) hc7_has (idx := 175) (w := 439) (by decide +kernel) hR (by omega) (tGr.off hG (tGr.off hG t0 (k := 0) rfl) (k := 1) rfl) ⟨by decide, rfl⟩ (vs := [vI v1]) (st := []) ⟨rfl, Nat.le_of_ble_eq_true rfl, rfl⟩ (by decide +kernel) (fun z1 => ?_)
  refine gIfEq hO (off := 12) (tgt := 23) (by decide +kernel) (by decide) (fun c2 => ?_) (fun c2 => ?_)
  · have h := h.1 c2
    exact gWeak (L' := [none, none, none, none]) trivial (W11_quick_23 hO hR hG t0 hQ h)
  · have h := h.2 c2
    refine gBk (pe := 17) hO [o0 (.iload_n 2), oI (.iconst 0) 0, oI (.iconst 1) 1] (by decide +kernel) (show tWG K B 0 0 S I J 17 [some (vR 0), some (vI v1), some (vI v2), none] [vI 1, vI 0, vI v2] from ?_)
    refine gCSi_z hO (M11_within) hc11_within (idx := 106) (w := 245) (by decide +kernel) hR (by omega) (vs := [vI v2, vI 0, vI 1]) (st := []) ⟨rfl, Nat.le_of_ble_eq_true rfl, rfl⟩ (by decide +kernel) (fun z3 => ?_)
    refine gIfNe hO (off := 5) (tgt := 25) (by decide +kernel) (by decide) (fun c4 => ?_) (fun c4 => ?_)
    · have h := h.1 c4
      refine gBk (pe := 29) hO [o0 (.aload_n 0), oF (.getfield 59) 11 8 38 48] (by decide +kernel) (And.intro t0 (And.intro rfl (show tWG K B 0 0 S I J 29 [some (vR 0), some (vI v1), some (vI v2), none] [vR 48] from ?_)))
      refine gCVv_c hO (M2_asItStands (tGr.off hG t0 (k := 8) rfl) h) hc2_asItStands (idx := 114) (w := 255) (by decide +kernel) hR (by omega) (tGr.off hG t0 (k := 8) rfl) ⟨by decide, rfl⟩ (vs := []) (st := []) ⟨rfl, Nat.le_of_ble_eq_true rfl, rfl⟩ (by decide +kernel) (fun I5 J6 h => ?_)
      refine gBk (pe := 37) hO [o0 (.aload_n 0), oF (.getfield 59) 11 8 38 48, o0 (.iload_n 1)] (by decide +kernel) (And.intro t0 (And.intro rfl (show tWG K B 0 0 S I5 J6 37 [some (vR 0), some (vI v1), some (vI v2), none] [vI v1, vR 48] from ?_)))
      refine gCVi_c hO (M2_quickest (tGr.off hG t0 (k := 8) rfl) h) hc2_quickest (idx := 320) (w := 1168) (by decide +kernel) hR (by omega) (tGr.off hG t0 (k := 8) rfl) ⟨by decide, rfl⟩ (vs := [vI v1]) (st := []) ⟨rfl, Nat.le_of_ble_eq_true rfl, rfl⟩ (by decide +kernel) (fun x9 I7 J8 h => ?_)
      refine gBk (pe := 42) hO [o0 (.istore_n 3), o0 (.iload_n 2)] (by decide +kernel) (And.intro (Nat.le_of_ble_eq_true rfl) (show tWG K B 0 0 S I7 J8 42 [some (vR 0), some (vI v1), some (vI v2), some (vI x9)] [vI v2] from ?_))
      have hj10 : ∀ (m11 : Int32), m11 = (if v2 = 0 then x9 else (V7_timeAt S I7 J8 7 v1 x9)) → tWG K B 0 0 S I7 J8 61 [none, none, none, none] [vI m11] := by
        intro m11 em11
        subst em11
        have h := h.2
        exact gIret hO hQ (by decide +kernel) ⟨rfl, h⟩
      have h := h.1
      refine gIfNe hO (off := 7) (tgt := 49) (by decide +kernel) (by decide) (fun c12 => ?_) (fun c12 => ?_)
      · have h := h.1 c12
        refine gBk (pe := 58) hO [o0 (.aload_n 0), oF (.getfield 12) 11 0 15 1, oF (.getfield 158) 8 1 398 7, o0 (.iload_n 1), o0 (.iload_n 3)] (by decide +kernel) (And.intro t0 (And.intro rfl (And.intro (tGr.off hG t0 (k := 0) rfl) (And.intro rfl (show tWG K B 0 0 S I7 J8 58 [some (vR 0), some (vI v1), some (vI v2), some (vI x9)] [vI x9, vI v1, vR 7] from ?_)))))
        refine gCVi_p hO (M7_timeAt (tGr.off hG (tGr.off hG t0 (k := 0) rfl) (k := 1) rfl) h.1) hc7_timeAt (idx := 323) (w := 1173) (by decide +kernel) hR (by omega) (tGr.off hG (tGr.off hG t0 (k := 0) rfl) (k := 1) rfl) ⟨by decide, rfl⟩ (vs := [vI v1, vI x9]) (st := []) ⟨rfl, Nat.le_of_ble_eq_true rfl, rfl⟩ (by decide +kernel) ?_
        have h := h.2
        exact gWeak (L' := [none, none, none, none]) trivial (hj10 _ (Eq.symm (if_neg c12)))
      · have h := h.2 c12
        refine gBk (pe := 61) hO [o0 (.iload_n 3), o0 (.goto 15)] (by decide +kernel) (show tWG K B 0 0 S I7 J8 61 [some (vR 0), some (vI v1), some (vI v2), some (vI x9)] [vI x9] from ?_)
        exact gWeak (L' := [none, none, none, none]) trivial (hj10 _ (Eq.symm (if_pos c12)))
    · have h := h.2 c4
      exact gWeak (L' := [none, none, none, none]) trivial (W11_quick_23 hO hR hG t0 hQ h))
