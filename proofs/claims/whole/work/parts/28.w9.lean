set_option maxRecDepth 100000 in
theorem W5_fillLeast_88 {K : tK} {B : tB} {S : tSH} {MC MS : Nat} (hO : tKO K B RX5 cX5_fillLeast 6) (hR : kR K = tRm 4 MC MS) (hG : tGr S) {n : Nat} (t0 : ty S 51 5) {k : tHI → tHJ → Prop} (hQ : tRet K B (tQv B (tPv S k)) 0 0 none) {kb13 : tHI → tHJ → Int32 → Int32 → Prop} (hkb13 : ∀ (I : tHI) (J : tHJ) (v1 : Int32) (v2 : Int32), kb13 I J v1 v2 → tWG K B 0 0 S I J 13 [some (vR 51), some (vI v1), some (vI v2), none, none, none] []) {kb19 : tHI → tHJ → Int32 → Int32 → Int32 → Prop} (hkb19 : ∀ (I : tHI) (J : tHJ) (v1 : Int32) (v2 : Int32) (v3 : Int32), kb19 I J v1 v2 v3 → tWG K B 0 0 S I J 19 [some (vR 51), some (vI v1), some (vI v2), some (vI v3), none, none] []) {I : tHI} {J : tHJ} {v1 : Int32} {v2 : Int32} {v3 : Int32} {v4 : Int32} (h : F5_fillLeast_88 n S k kb13 kb19 I J v1 v2 v3 v4) : tWG K B 0 0 S I J 88 [some (vR 51), some (vI v1), some (vI v2), some (vI v3), some (vI v4), none] [] := by
  refine gBk (pe := 98) hO [o0 (.aload_n 0), oF (.getfield 15) 5 3 166 53, o0 (.iload_n 2), oI (.bipush 61) 61, o0 .imul, o0 (.iload_n 3), o0 .iadd] (by decide +kernel) (And.intro t0 (And.intro rfl (show tWG K B 0 0 S I J 98 [some (vR 51), some (vI v1), some (vI v2), some (vI v3), some (vI v4), none] [vI ((v2 * 61) + v3), vR 53] from ?_)))
  refine gBk (pe := 109) hO [(.ldc 85, (0, 0, 1209, 0), 1000000000, 0), o0 (.aload_n 0), oF (.getfield 34) 5 0 172 1, oF (.getfield 42) 8 1 1198 7, o0 (.iload_n 2), o0 (.iload_n 3)] (by decide +kernel) (And.intro t0 (And.intro rfl (And.intro (tGr.abs hG t0 (k := 0) rfl) (And.intro rfl (show tWG K B 0 0 S I J 109 [some (vR 51), some (vI v1), some (vI v2), some (vI v3), some (vI v4), none] [vI v3, vI v2, vR 7, vI 1000000000, vI ((v2 * 61) + v3), vR 53] from ?_)))))
  refine gCVi_p hO (M7_timeAt (tGr.off hG (tGr.abs hG t0 (k := 0) rfl) (k := 1) rfl) h.1) hc7_timeAt (idx := 92) (w := 1216) (by decide +kernel) hR (by omega) (tGr.off hG (tGr.abs hG t0 (k := 0) rfl) (k := 1) rfl) ⟨by decide, rfl⟩ (vs := [vI v2, vI v3]) (st := [vI 1000000000, vI ((v2 * 61) + v3), vR 53]) ⟨rfl, Nat.le_of_ble_eq_true rfl, rfl⟩ (by decide +kernel) ?_
  have h := h.2
  refine gBk (pe := 115) hO [o0 (.iload 4), o0 .iadd] (by decide +kernel) (show tWG K B 0 0 S I J 115 [some (vR 51), some (vI v1), some (vI v2), some (vI v3), some (vI v4), none] [vI ((V7_timeAt S I J 7 v2 v3) + v4), vI 1000000000, vI ((v2 * 61) + v3), vR 53] from ?_)
  refine gMin hO (idx := 53) (w := 1200) (by decide +kernel) hR (by omega) (st := [vI ((v2 * 61) + v3), vR 53]) (Nat.le_of_ble_eq_true rfl) rfl (by decide +kernel) ?_
  refine gBk (pe := 19) hO [o0 .iastore, oI (.iinc 3 1) 1, o0 (.goto (-103))] (by decide +kernel) (And.intro (tGr.off hG t0 (k := 3) rfl) (And.intro (tin (tGr.len hG t0 (k := 3) rfl (by decide)) h.1) (show tWG K B 0 0 S (uI I 53 ((v2 * 61) + v3).toNatClampNeg (if ((V7_timeAt S I J 7 v2 v3) + v4) < 1000000000 then ((V7_timeAt S I J 7 v2 v3) + v4) else 1000000000)) J 19 [some (vR 51), some (vI v1), some (vI v2), some (vI (v3 + 1)), some (vI v4), none] [] from ?_)))
  have h := h.2
  exact gWeak (L' := [some (vR 51), some (vI v1), some (vI v2), some (vI (v3 + 1)), none, none]) ⟨rfl, rfl, rfl, rfl, trivial⟩ (hkb19 _ _ _ _ _ h)
set_option maxRecDepth 100000 in
theorem W5_fillLeast_19 {K : tK} {B : tB} {S : tSH} {MC MS : Nat} (hO : tKO K B RX5 cX5_fillLeast 6) (hR : kR K = tRm 4 MC MS) (hG : tGr S) {n : Nat} (t0 : ty S 51 5) {k : tHI → tHJ → Prop} (hQ : tRet K B (tQv B (tPv S k)) 0 0 none) {kb13 : tHI → tHJ → Int32 → Int32 → Prop} (hkb13 : ∀ (I : tHI) (J : tHJ) (v1 : Int32) (v2 : Int32), kb13 I J v1 v2 → tWG K B 0 0 S I J 13 [some (vR 51), some (vI v1), some (vI v2), none, none, none] []) {kb19 : tHI → tHJ → Int32 → Int32 → Int32 → Prop} (hkb19 : ∀ (I : tHI) (J : tHJ) (v1 : Int32) (v2 : Int32) (v3 : Int32), kb19 I J v1 v2 v3 → tWG K B 0 0 S I J 19 [some (vR 51), some (vI v1), some (vI v2), some (vI v3), none, none] []) {I : tHI} {J : tHJ} {v1 : Int32} {v2 : Int32} {v3 : Int32} (h : F5_fillLeast_19 n S k kb13 kb19 I J v1 v2 v3) : tWG K B 0 0 S I J 19 [some (vR 51), some (vI v1), some (vI v2), some (vI v3), none, none] [] := by
  refine gBk (pe := 26) hO [o0 (.iload_n 3), o0 (.aload_n 0), oF (.getfield 9) 5 2 165 52, o0 (.iload_n 2), o0 .iaload] (by decide +kernel) (And.intro t0 (And.intro rfl (And.intro (tGr.off hG t0 (k := 2) rfl) (And.intro (tin (tGr.len hG t0 (k := 2) rfl (by decide)) h.1) (show tWG K B 0 0 S I J 26 [some (vR 51), some (vI v1), some (vI v2), some (vI v3), none, none] [vI (I 52 v2.toNatClampNeg), vI v3] from ?_)))))
  have h := h.2
  refine gIcGt hO (off := 99) (tgt := 125) (by decide +kernel) (by decide) (fun c4 => ?_) (fun c4 => ?_)
  · have h := h.1 c4
    refine gBk (pe := 13) hO [oI (.iinc 2 (-1)) (-1), o0 (.goto (-115))] (by decide +kernel) (show tWG K B 0 0 S I J 13 [some (vR 51), some (vI v1), some (vI (v2 + (-1))), some (vI v3), none, none] [] from ?_)
    exact gWeak (L' := [some (vR 51), some (vI v1), some (vI (v2 + (-1))), none, none, none]) ⟨rfl, rfl, rfl, trivial⟩ (hkb13 _ _ _ _ h)
  · have h := h.2 c4
    refine gBk (pe := 36) hO [oI (.iconst 0) 0, o0 (.istore 4), o0 (.iload_n 2), oI (.iconst 1) 1, o0 .iadd, o0 (.iload_n 1)] (by decide +kernel) (And.intro (Nat.le_of_ble_eq_true rfl) (show tWG K B 0 0 S I J 36 [some (vR 51), some (vI v1), some (vI v2), some (vI v3), some (vI 0), none] [vI v1, vI (v2 + 1)] from ?_))
    refine gIcGe hO (off := 52) (tgt := 88) (by decide +kernel) (by decide) (fun c5 => ?_) (fun c5 => ?_)
    · have h := h.1 c5
      exact W5_fillLeast_88 hO hR hG t0 hQ hkb13 hkb19 h
    · have h := h.2 c5
      refine gBk (pe := 67) hO [o0 (.aload_n 0), o0 (.iload_n 2), oI (.iconst 1) 1, o0 .iadd, o0 (.iload_n 3), o0 (.aload_n 0), oF (.getfield 34) 5 0 172 1, oF (.getfield 73) 8 2 1201 15, oF (.getfield 77) 10 7 1202 0, o0 .isub, o0 (.iload_n 3), o0 (.aload_n 0), oF (.getfield 34) 5 0 172 1, oF (.getfield 73) 8 2 1201 15, oF (.getfield 82) 10 6 1203 0, o0 .iadd] (by decide +kernel) (And.intro t0 (And.intro rfl (And.intro (tGr.abs hG t0 (k := 0) rfl) (And.intro rfl (And.intro (tGr.off hG (tGr.abs hG t0 (k := 0) rfl) (k := 2) rfl) (And.intro t0 (And.intro rfl (And.intro (tGr.abs hG t0 (k := 0) rfl) (And.intro rfl (And.intro (tGr.off hG (tGr.abs hG t0 (k := 0) rfl) (k := 2) rfl) (show tWG K B 0 0 S I J 67 [some (vR 51), some (vI v1), some (vI v2), some (vI v3), some (vI 0), none] [vI (v3 + (I 15 6)), vI (v3 - (I 15 7)), vI (v2 + 1), vR 51] from ?_)))))))))))
      refine gCVi_c hO (M5_bestPace t0 h) hc5_bestPace (idx := 69) (w := 1211) (by decide +kernel) hR (by omega) t0 ⟨by decide, rfl⟩ (vs := [vI (v2 + 1), vI (v3 - (I 15 7)), vI (v3 + (I 15 6))]) (st := []) ⟨rfl, Nat.le_of_ble_eq_true rfl, rfl⟩ (by decide +kernel) (fun x8 I6 J7 h => ?_)
      refine gBk (pe := 88) hO [o0 (.istore 5), o0 (.aload_n 0), oF (.getfield 15) 5 3 166 53, o0 (.iload_n 2), oI (.iconst 1) 1, o0 .iadd, oI (.bipush 61) 61, o0 .imul, o0 (.iload 5), o0 .iadd, o0 .iaload, o0 (.istore 4)] (by decide +kernel) (And.intro (Nat.le_of_ble_eq_true rfl) (And.intro t0 (And.intro rfl (And.intro (tGr.off hG t0 (k := 3) rfl) (And.intro (tin (tGr.len hG t0 (k := 3) rfl (by decide)) h.1) (And.intro (Nat.le_of_ble_eq_true rfl) (show tWG K B 0 0 S I6 J7 88 [some (vR 51), some (vI v1), some (vI v2), some (vI v3), some (vI (I6 53 (((v2 + 1) * 61) + x8).toNatClampNeg)), some (vI x8)] [] from ?_)))))))
      have h := h.2
      exact gWeak (L' := [some (vR 51), some (vI v1), some (vI v2), some (vI v3), some (vI (I6 53 (((v2 + 1) * 61) + x8).toNatClampNeg)), none]) ⟨rfl, rfl, rfl, rfl, rfl, trivial⟩ (W5_fillLeast_88 hO hR hG t0 hQ hkb13 hkb19 h)
theorem W5_fillLeast_L19 {K : tK} {B : tB} {S : tSH} {MC MS : Nat} (hO : tKO K B RX5 cX5_fillLeast 6) (hR : kR K = tRm 4 MC MS) (hG : tGr S) {n : Nat} (t0 : ty S 51 5) {k : tHI → tHJ → Prop} (hQ : tRet K B (tQv B (tPv S k)) 0 0 none) {kb13 : tHI → tHJ → Int32 → Int32 → Prop} (hkb13 : ∀ (I : tHI) (J : tHJ) (v1 : Int32) (v2 : Int32), kb13 I J v1 v2 → tWG K B 0 0 S I J 13 [some (vR 51), some (vI v1), some (vI v2), none, none, none] []) : ∀ (f : Nat) (I : tHI) (J : tHJ) (v1 : Int32) (v2 : Int32) (v3 : Int32), F5_fillLeast_L19 n S k kb13 f I J v1 v2 v3 → tWG K B 0 0 S I J 19 [some (vR 51), some (vI v1), some (vI v2), some (vI v3), none, none] [] := by
  intro f
  induction f with
  | zero => intro I J v1 v2 v3 h; exact h.elim
  | succ f ih => intro I J v1 v2 v3 h; exact W5_fillLeast_19 hO hR hG t0 hQ hkb13 ih h
set_option maxRecDepth 100000 in
theorem W5_fillLeast_13 {K : tK} {B : tB} {S : tSH} {MC MS : Nat} (hO : tKO K B RX5 cX5_fillLeast 6) (hR : kR K = tRm 4 MC MS) (hG : tGr S) {n : Nat} (t0 : ty S 51 5) {k : tHI → tHJ → Prop} (hQ : tRet K B (tQv B (tPv S k)) 0 0 none) {kb13 : tHI → tHJ → Int32 → Int32 → Prop} (hkb13 : ∀ (I : tHI) (J : tHJ) (v1 : Int32) (v2 : Int32), kb13 I J v1 v2 → tWG K B 0 0 S I J 13 [some (vR 51), some (vI v1), some (vI v2), none, none, none] []) {I : tHI} {J : tHJ} {v1 : Int32} {v2 : Int32} (h : F5_fillLeast_13 n S k kb13 I J v1 v2) : tWG K B 0 0 S I J 13 [some (vR 51), some (vI v1), some (vI v2), none, none, none] [] := by
  refine gBk (pe := 14) hO [o0 (.iload_n 2)] (by decide +kernel) (show tWG K B 0 0 S I J 14 [some (vR 51), some (vI v1), some (vI v2), none, none, none] [vI v2] from ?_)
  refine gIfLt hO (off := 117) (tgt := 131) (by decide +kernel) (by decide) (fun c3 => ?_) (fun c3 => ?_)
  · have h := h.1 c3
    exact gVret hO hQ (by decide +kernel) ⟨rfl, h⟩
  · have h := h.2 c3
    refine gBk (pe := 19) hO [oI (.iconst 1) 1, o0 (.istore_n 3)] (by decide +kernel) (And.intro (Nat.le_of_ble_eq_true rfl) (show tWG K B 0 0 S I J 19 [some (vR 51), some (vI v1), some (vI v2), some (vI 1), none, none] [] from ?_))
    exact W5_fillLeast_L19 hO hR hG t0 hQ hkb13 n _ _ _ _ _ h
theorem W5_fillLeast_L13 {K : tK} {B : tB} {S : tSH} {MC MS : Nat} (hO : tKO K B RX5 cX5_fillLeast 6) (hR : kR K = tRm 4 MC MS) (hG : tGr S) {n : Nat} (t0 : ty S 51 5) {k : tHI → tHJ → Prop} (hQ : tRet K B (tQv B (tPv S k)) 0 0 none) : ∀ (f : Nat) (I : tHI) (J : tHJ) (v1 : Int32) (v2 : Int32), F5_fillLeast_L13 n S k f I J v1 v2 → tWG K B 0 0 S I J 13 [some (vR 51), some (vI v1), some (vI v2), none, none, none] [] := by
  intro f
  induction f with
  | zero => intro I J v1 v2 h; exact h.elim
  | succ f ih => intro I J v1 v2 h; exact W5_fillLeast_13 hO hR hG t0 hQ ih h
set_option maxRecDepth 20000 in
theorem hc5_fillLeast : tCV yX5_fillLeast cX5_fillLeast 6 none 1 := ⟨⟨(List.mem_of_getElem? (i := 1208) rfl), (List.mem_of_getElem? (i := 41) (by decide +kernel)), by decide +kernel⟩, (List.mem_of_getElem? (i := 1206) (by decide +kernel)), (List.mem_of_getElem? (i := 1207) (by decide +kernel))⟩
set_option maxRecDepth 100000 in
theorem M5_fillLeast {l : Launch} {B : tB} {S : tSH} {I : tHI} {J : tHJ} {v1 : Int32} {n : Nat} {k : tHI → tHJ → Prop} (t0 : ty S 51 5) (h : F5_fillLeast n S I J v1 k) : Met l yX5_fillLeast (tWs yX5_fillLeast cX5_fillLeast 6 none) (tRm 4 0 0) (tPc B [vR 51, vI v1] S I J) (tQv B (tPv S k)) 0 0 (tA B) :=
  tEntry (by decide +kernel) [some (vR 51), some (vI v1), none, none, none, none] rfl rfl (Nat.le_of_ble_eq_true rfl) (fun K hl hR hO hQ hG => by
  subst hl
  refine gBk (pe := 4) hO [o0 (.aload_n 0), oF (.getfield 15) 5 3 166 53] (by decide +kernel) (And.intro t0 (And.intro rfl (show tWG K B 0 0 S I J 4 [some (vR 51), some (vI v1), none, none, none, none] [vR 53] from ?_)))
  refine gBk (pe := 6) hO [(.ldc 85, (0, 0, 1209, 0), 1000000000, 0)] (by decide +kernel) (show tWG K B 0 0 S I J 6 [some (vR 51), some (vI v1), none, none, none, none] [vI 1000000000, vR 53] from ?_)
  refine gCSv_c hO (MJ7_fill_53178 (tGr.off hG t0 (k := 3) rfl) h) hcJ7_fill_53178 (idx := 86) (w := 1210) (by decide +kernel) hR (by omega) (vs := [vR 53, vI 1000000000]) (st := []) ⟨rfl, Nat.le_of_ble_eq_true rfl, rfl⟩ (by decide +kernel) (fun I1 J2 h => ?_)
  refine gBk (pe := 13) hO [o0 (.iload_n 1), oI (.iconst 1) 1, o0 .isub, o0 (.istore_n 2)] (by decide +kernel) (And.intro (Nat.le_of_ble_eq_true rfl) (show tWG K B 0 0 S I1 J2 13 [some (vR 51), some (vI v1), some (vI (v1 - 1)), none, none, none] [] from ?_))
  exact W5_fillLeast_L13 hO hR hG t0 hQ n _ _ _ _ h)
set_option maxRecDepth 20000 in
theorem hc7_canBe : tCm yX7_canBe cX7_canBe 4 (some .boolean) 4 ∧ Cond.static yX7_canBe ∈ wsL_law := ⟨⟨(List.mem_of_getElem? (i := 402) rfl), (List.mem_of_getElem? (i := 65) (by decide +kernel)), by decide +kernel⟩, (List.mem_of_getElem? (i := 401) (by decide +kernel))⟩
set_option maxRecDepth 100000 in
theorem M7_canBe {l : Launch} {B : tB} {S : tSH} {I : tHI} {J : tHJ} {v0 : Int32} {v1 : Int32} {v2 : Int32} {v3 : Int32} : Met l yX7_canBe (tWs yX7_canBe cX7_canBe 4 (some .boolean)) (tRm 3 0 0) (tPc B [vI v0, vI v1, vI v2, vI v3] S I J) (tQi B (tPz S I J (V7_canBe v0 v1 v2 v3))) 0 0 (tA B) :=
  tEntry (by decide +kernel) [some (vI v0), some (vI v1), some (vI v2), some (vI v3)] rfl rfl (Nat.le_of_ble_eq_true rfl) (fun K hl hR hO hQ hG => by
  subst hl
  refine gBk (pe := 5) hO [o0 (.iload_n 0), oI (.bipush (-9)) (-9), oI (.bipush 9) 9] (by decide +kernel) (show tWG K B 0 0 S I J 5 [some (vI v0), some (vI v1), some (vI v2), some (vI v3)] [vI 9, vI (-9), vI v0] from ?_)
  refine gCNi_z hO (M11_within) hc11_within (idx := 40) (w := 6) rfl hR (by omega) (vs := [vI v0, vI (-9), vI 9]) (st := []) ⟨rfl, Nat.le_of_ble_eq_true rfl, rfl⟩ (by decide +kernel) (fun z1 => ?_)
  refine gIfEq hO (off := 37) (tgt := 45) (by decide +kernel) (by decide) (fun c2 => ?_) (fun c2 => ?_)
  · refine gBk (pe := 46) hO [oI (.iconst 0) 0] (by decide +kernel) (show tWG K B 0 0 S I J 46 [some (vI v0), some (vI v1), some (vI v2), some (vI v3)] [vI 0] from ?_)
    exact gZret hO hQ (by decide +kernel) (Or.inl rfl) ⟨(Eq.symm (if_pos c2)), (Or.inl rfl), rfl⟩
  · refine gBk (pe := 15) hO [o0 (.iload_n 1), oI (.iconst 1) 1, oI (.bipush 99) 99] (by decide +kernel) (show tWG K B 0 0 S I J 15 [some (vI v0), some (vI v1), some (vI v2), some (vI v3)] [vI 99, vI 1, vI v1] from ?_)
    refine gCNi_z hO (M11_within) hc11_within (idx := 40) (w := 6) rfl hR (by omega) (vs := [vI v1, vI 1, vI 99]) (st := []) ⟨rfl, Nat.le_of_ble_eq_true rfl, rfl⟩ (by decide +kernel) (fun z3 => ?_)
    refine gIfEq hO (off := 27) (tgt := 45) (by decide +kernel) (by decide) (fun c4 => ?_) (fun c4 => ?_)
    · refine gBk (pe := 46) hO [oI (.iconst 0) 0] (by decide +kernel) (show tWG K B 0 0 S I J 46 [some (vI v0), some (vI v1), some (vI v2), some (vI v3)] [vI 0] from ?_)
      exact gZret hO hQ (by decide +kernel) (Or.inl rfl) ⟨(Eq.symm ((if_neg c2).trans (if_pos c4))), (Or.inl rfl), rfl⟩
    · refine gBk (pe := 25) hO [o0 (.iload_n 2), oI (.bipush (-3)) (-3), oI (.iconst 3) 3] (by decide +kernel) (show tWG K B 0 0 S I J 25 [some (vI v0), some (vI v1), some (vI v2), some (vI v3)] [vI 3, vI (-3), vI v2] from ?_)
      refine gCNi_z hO (M11_within) hc11_within (idx := 40) (w := 6) rfl hR (by omega) (vs := [vI v2, vI (-3), vI 3]) (st := []) ⟨rfl, Nat.le_of_ble_eq_true rfl, rfl⟩ (by decide +kernel) (fun z5 => ?_)
      refine gIfEq hO (off := 17) (tgt := 45) (by decide +kernel) (by decide) (fun c6 => ?_) (fun c6 => ?_)
      · refine gBk (pe := 46) hO [oI (.iconst 0) 0] (by decide +kernel) (show tWG K B 0 0 S I J 46 [some (vI v0), some (vI v1), some (vI v2), some (vI v3)] [vI 0] from ?_)
        exact gZret hO hQ (by decide +kernel) (Or.inl rfl) ⟨(Eq.symm ((if_neg c2).trans ((if_neg c4).trans (if_pos c6)))), (Or.inl rfl), rfl⟩
      · refine gBk (pe := 35) hO [o0 (.iload_n 3), oI (.iconst 0) 0, oI (.bipush 31) 31] (by decide +kernel) (show tWG K B 0 0 S I J 35 [some (vI v0), some (vI v1), some (vI v2), some (vI v3)] [vI 31, vI 0, vI v3] from ?_)
        refine gCNi_z hO (M11_within) hc11_within (idx := 40) (w := 6) rfl hR (by omega) (vs := [vI v3, vI 0, vI 31]) (st := []) ⟨rfl, Nat.le_of_ble_eq_true rfl, rfl⟩ (by decide +kernel) (fun z7 => ?_)
        refine gIfEq hO (off := 7) (tgt := 45) (by decide +kernel) (by decide) (fun c8 => ?_) (fun c8 => ?_)
        · refine gBk (pe := 46) hO [oI (.iconst 0) 0] (by decide +kernel) (show tWG K B 0 0 S I J 46 [some (vI v0), some (vI v1), some (vI v2), some (vI v3)] [vI 0] from ?_)
          exact gZret hO hQ (by decide +kernel) (Or.inl rfl) ⟨(Eq.symm ((if_neg c2).trans ((if_neg c4).trans ((if_neg c6).trans (if_pos c8))))), (Or.inl rfl), rfl⟩
        · refine gBk (pe := 46) hO [oI (.iconst 1) 1, o0 (.goto 4)] (by decide +kernel) (show tWG K B 0 0 S I J 46 [some (vI v0), some (vI v1), some (vI v2), some (vI v3)] [vI 1] from ?_)
          exact gZret hO hQ (by decide +kernel) (Or.inr rfl) ⟨(Eq.symm ((if_neg c2).trans ((if_neg c4).trans ((if_neg c6).trans (if_neg c8))))), (Or.inr rfl), rfl⟩)
set_option maxRecDepth 100000 in
theorem W7_holesUnder_26 {K : tK} {B : tB} {S : tSH} {MC MS : Nat} (hO : tKO K B RX7 cX7_holesUnder 3) (hR : kR K = tRm 3 MC MS) (hG : tGr S) {n : Nat} {a : Nat} (t0 : ty S a 7) {k : Int32 → tHI → tHJ → Prop} (hQ : tRet K B (tQi B (tPi S k)) 0 0 (some .int)) {I : tHI} {J : tHJ} {s0 : Int32} (h : F7_holesUnder_26 n S a k I J s0) : tWG K B 0 0 S I J 26 [none, none, none] [vI s0] := by
  exact gIret hO hQ (by decide +kernel) ⟨rfl, h⟩
set_option maxRecDepth 20000 in
theorem hc7_holesUnder : tCV yX7_holesUnder cX7_holesUnder 3 (some .int) 2 := ⟨⟨(List.mem_of_getElem? (i := 1249) rfl), (List.mem_of_getElem? (i := 65) (by decide +kernel)), by decide +kernel⟩, (List.mem_of_getElem? (i := 1247) (by decide +kernel)), (List.mem_of_getElem? (i := 1248) (by decide +kernel))⟩
set_option maxRecDepth 100000 in
theorem M7_holesUnder {l : Launch} {B : tB} {S : tSH} {I : tHI} {J : tHJ} {a : Nat} {v1 : Int32} {v2 : Int32} {n : Nat} {k : Int32 → tHI → tHJ → Prop} (t0 : ty S a 7) (h : F7_holesUnder n S I J a v1 v2 k) : Met l yX7_holesUnder (tWs yX7_holesUnder cX7_holesUnder 3 (some .int)) (tRm 3 0 0) (tPc B [vR a, vI v1, vI v2] S I J) (tQi B (tPi S k)) 0 0 (tA B) :=
  tEntry (by decide +kernel) [some (vR a), some (vI v1), some (vI v2)] rfl rfl (Nat.le_of_ble_eq_true rfl) (fun K hl hR hO hQ hG => by
  subst hl
  refine gBk (pe := 2) hO [o0 (.aload_n 0), o0 (.iload_n 1)] (by decide +kernel) (show tWG K B 0 0 S I J 2 [some (vR a), some (vI v1), some (vI v2)] [vI v1, vR a] from ?_)
  refine gCVi_z hO (M7_has t0) hc7_has (idx := 44) (w := 1177) (by decide +kernel) hR (by omega) t0 ⟨by decide, rfl⟩ (vs := [vI v1]) (st := []) ⟨rfl, Nat.le_of_ble_eq_true rfl, rfl⟩ (by decide +kernel) (fun z1 => ?_)
  refine gIfEq hO (off := 20) (tgt := 25) (by decide +kernel) (by decide) (fun c2 => ?_) (fun c2 => ?_)
  · have h := h.1 c2
    refine gBk (pe := 26) hO [oI (.iconst 0) 0] (by decide +kernel) (show tWG K B 0 0 S I J 26 [some (vR a), some (vI v1), some (vI v2)] [vI 0] from ?_)
    exact gWeak (L' := [none, none, none]) trivial (W7_holesUnder_26 hO hR hG t0 hQ h)
  · have h := h.2 c2
    refine gBk (pe := 19) hO [o0 (.aload_n 0), oF (.getfield 25) 7 4 88 0, o0 (.iload_n 1), o0 .iaload, o0 (.iload_n 2), o0 .ishr, oI (.bipush 7) 7, o0 .iand] (by decide +kernel) (And.intro t0 (And.intro (tGr.off hG t0 (k := 4) rfl) (And.intro (tin (tGr.len hG t0 (k := 4) rfl (by decide)) h.1) (show tWG K B 0 0 S I J 19 [some (vR a), some (vI v1), some (vI v2)] [vI (((I (a + 4) v1.toNatClampNeg) >>> (v2 &&& 31)) &&& 7)] from ?_))))
    have h := h.2
    refine gCSi_c hO (MJ6_bitCount_0f7a4 h) hcJ6_bitCount_0f7a4 (idx := 48) (w := 1250) (by decide +kernel) hR (by omega) (vs := [vI (((I (a + 4) v1.toNatClampNeg) >>> (v2 &&& 31)) &&& 7)]) (st := []) ⟨rfl, Nat.le_of_ble_eq_true rfl, rfl⟩ (by decide +kernel) (fun x5 I3 J4 h => ?_)
    refine gBk (pe := 26) hO [o0 (.goto 4)] (by decide +kernel) (show tWG K B 0 0 S I3 J4 26 [some (vR a), some (vI v1), some (vI v2)] [vI x5] from ?_)
    exact gWeak (L' := [none, none, none]) trivial (W7_holesUnder_26 hO hR hG t0 hQ h))
set_option maxRecDepth 20000 in
theorem hc11_end : tCV yX11_end cX11_end 2 (some .int) 1 := ⟨⟨(List.mem_of_getElem? (i := 576) rfl), (List.mem_of_getElem? (i := 2) (by decide +kernel)), by decide +kernel⟩, (List.mem_of_getElem? (i := 574) (by decide +kernel)), (List.mem_of_getElem? (i := 575) (by decide +kernel))⟩
set_option maxRecDepth 100000 in
theorem M11_end {l : Launch} {B : tB} {S : tSH} {I : tHI} {J : tHJ} {v1 : Int32} {n : Nat} {k : Int32 → tHI → tHJ → Prop} (t0 : ty S 0 11) (h : F11_end n S I J v1 k) : Met l yX11_end (tWs yX11_end cX11_end 2 (some .int)) (tRm 3 0 0) (tPc B [vR 0, vI v1] S I J) (tQi B (tPi S k)) 0 0 (tA B) :=
  tEntry (by decide +kernel) [some (vR 0), some (vI v1)] rfl rfl (Nat.le_of_ble_eq_true rfl) (fun K hl hR hO hQ hG => by
  subst hl
  refine gBk (pe := 9) hO [o0 (.iload_n 1), oI (.iconst 0) 0, o0 (.aload_n 0), oF (.getfield 36) 11 5 26 38, oF (.getfield 202) 9 1 559 0] (by decide +kernel) (And.intro t0 (And.intro rfl (And.intro (tGr.off hG t0 (k := 5) rfl) (show tWG K B 0 0 S I J 9 [some (vR 0), some (vI v1)] [vI (I 38 1), vI 0, vI v1] from ?_))))
  refine gCSi_z hO (M11_within) hc11_within (idx := 106) (w := 245) (by decide +kernel) hR (by omega) (vs := [vI v1, vI 0, vI (I 38 1)]) (st := []) ⟨rfl, Nat.le_of_ble_eq_true rfl, rfl⟩ (by decide +kernel) (fun z1 => ?_)
  refine gIfNe hO (off := 5) (tgt := 17) (by decide +kernel) (by decide) (fun c2 => ?_) (fun c2 => ?_)
  · have h := h.1 c2
    refine gBk (pe := 26) hO [o0 (.aload_n 0), oF (.getfield 36) 11 5 26 38, o0 (.iload_n 1), oF (.putfield 202) 9 1 559 0, o0 (.iload_n 1)] (by decide +kernel) (And.intro t0 (And.intro rfl (And.intro (tGr.off hG t0 (k := 5) rfl) (show tWG K B 0 0 S (uI I 38 1 v1) J 26 [some (vR 0), some (vI v1)] [vI v1] from ?_))))
    exact gIret hO hQ (by decide +kernel) ⟨rfl, h⟩
  · have h := h.2 c2
    refine gBk (pe := 16) hO [oI (.iconst (-1)) (-1)] (by decide +kernel) (show tWG K B 0 0 S I J 16 [some (vR 0), some (vI v1)] [vI (-1)] from ?_)
    exact gIret hO hQ (by decide +kernel) ⟨rfl, h⟩)
set_option maxRecDepth 100000 in
theorem W11_addFromTape_28 {K : tK} {B : tB} {S : tSH} {MC MS : Nat} (hO : tKO K B RX11 cX11_addFromTape 6) (hR : kR K = tRm 4 MC MS) (hG : tGr S) {n : Nat} (t0 : ty S 0 11) {k : Int32 → tHI → tHJ → Prop} (hQ : tRet K B (tQi B (tPb S k)) 0 0 (some .boolean)) {I : tHI} {J : tHJ} (h : F11_addFromTape_28 n S k I J) : tWG K B 0 0 S I J 28 [none, none, none, none, none, none] [] := by
  refine gBk (pe := 29) hO [oI (.iconst 0) 0] (by decide +kernel) (show tWG K B 0 0 S I J 29 [none, none, none, none, none, none] [vI 0] from ?_)
  exact gZret hO hQ (by decide +kernel) (Or.inl rfl) ⟨rfl, (Or.inl rfl), h⟩
set_option maxRecDepth 20000 in
theorem hc11_addFromTape : tCV yX11_addFromTape cX11_addFromTape 6 (some .boolean) 1 := ⟨⟨(List.mem_of_getElem? (i := 588) rfl), (List.mem_of_getElem? (i := 2) (by decide +kernel)), by decide +kernel⟩, (List.mem_of_getElem? (i := 586) (by decide +kernel)), (List.mem_of_getElem? (i := 587) (by decide +kernel))⟩
set_option maxRecDepth 100000 in
theorem M11_addFromTape {l : Launch} {B : tB} {S : tSH} {I : tHI} {J : tHJ} {v1 : Int32} {n : Nat} {k : Int32 → tHI → tHJ → Prop} (t0 : ty S 0 11) (h : F11_addFromTape n S I J v1 k) : Met l yX11_addFromTape (tWs yX11_addFromTape cX11_addFromTape 6 (some .boolean)) (tRm 4 0 0) (tPc B [vR 0, vI v1] S I J) (tQi B (tPb S k)) 0 0 (tA B) :=
  tEntry (by decide +kernel) [some (vR 0), some (vI v1), none, none, none, none] rfl rfl (Nat.le_of_ble_eq_true rfl) (fun K hl hR hO hQ hG => by
  subst hl
  refine gBk (pe := 10) hO [o0 (.iload_n 1), oI (.iconst 4) 4, o0 .iadd, o0 (.aload_n 0), oF (.getfield 36) 11 5 26 38, oF (.getfield 202) 9 1 559 0] (by decide +kernel) (And.intro t0 (And.intro rfl (And.intro (tGr.off hG t0 (k := 5) rfl) (show tWG K B 0 0 S I J 10 [some (vR 0), some (vI v1), none, none, none, none] [vI (I 38 1), vI (v1 + 4)] from ?_))))
  refine gIcGt hO (off := 18) (tgt := 28) (by decide +kernel) (by decide) (fun c1 => ?_) (fun c1 => ?_)
  · have h := h.1 c1
    exact gWeak (L' := [none, none, none, none, none, none]) trivial (W11_addFromTape_28 hO hR hG t0 hQ h)
  · have h := h.2 c1
    refine gBk (pe := 25) hO [o0 (.aload_n 0), oF (.getfield 12) 11 0 15 1, oF (.getfield 158) 8 1 398 7, oF (.getfield 162) 7 0 399 0, oI (.bipush 12) 12] (by decide +kernel) (And.intro t0 (And.intro rfl (And.intro (tGr.off hG t0 (k := 0) rfl) (And.intro rfl (And.intro (tGr.off hG (tGr.off hG t0 (k := 0) rfl) (k := 1) rfl) (show tWG K B 0 0 S I J 25 [some (vR 0), some (vI v1), none, none, none, none] [vI 12, vI (I 7 0)] from ?_))))))
    refine gIcLt hO (off := 5) (tgt := 30) (by decide +kernel) (by decide) (fun c2 => ?_) (fun c2 => ?_)
    · have h := h.1 c2
      refine gBk (pe := 35) hO [o0 (.aload_n 0), oF (.getfield 36) 11 5 26 38, o0 (.iload_n 1)] (by decide +kernel) (And.intro t0 (And.intro rfl (show tWG K B 0 0 S I J 35 [some (vR 0), some (vI v1), none, none, none, none] [vI v1, vR 38] from ?_)))
      refine gCVi_p hO (M9_byteAt (tGr.off hG t0 (k := 5) rfl) h.1) hc9_byteAt (idx := 210) (w := 589) (by decide +kernel) hR (by omega) (tGr.off hG t0 (k := 5) rfl) ⟨by decide, rfl⟩ (vs := [vI v1]) (st := []) ⟨rfl, Nat.le_of_ble_eq_true rfl, rfl⟩ (by decide +kernel) ?_
      have h := h.2
      refine gBk (pe := 49) hO [oI (.bipush 9) 9, o0 .isub, o0 (.istore_n 2), o0 (.aload_n 0), oF (.getfield 36) 11 5 26 38, o0 (.iload_n 1), oI (.iconst 1) 1, o0 .iadd] (by decide +kernel) (And.intro (Nat.le_of_ble_eq_true rfl) (And.intro t0 (And.intro rfl (show tWG K B 0 0 S I J 49 [some (vR 0), some (vI v1), some (vI ((V9_byteAt S I J 38 v1) - 9)), none, none, none] [vI (v1 + 1), vR 38] from ?_))))
      refine gCVi_p hO (M9_byteAt (tGr.off hG t0 (k := 5) rfl) h.1) hc9_byteAt (idx := 210) (w := 589) (by decide +kernel) hR (by omega) (tGr.off hG t0 (k := 5) rfl) ⟨by decide, rfl⟩ (vs := [vI (v1 + 1)]) (st := []) ⟨rfl, Nat.le_of_ble_eq_true rfl, rfl⟩ (by decide +kernel) ?_
      have h := h.2
      refine gBk (pe := 60) hO [o0 (.istore_n 3), o0 (.aload_n 0), oF (.getfield 36) 11 5 26 38, o0 (.iload_n 1), oI (.iconst 2) 2, o0 .iadd] (by decide +kernel) (And.intro (Nat.le_of_ble_eq_true rfl) (And.intro t0 (And.intro rfl (show tWG K B 0 0 S I J 60 [some (vR 0), some (vI v1), some (vI ((V9_byteAt S I J 38 v1) - 9)), some (vI (V9_byteAt S I J 38 (v1 + 1))), none, none] [vI (v1 + 2), vR 38] from ?_))))
      refine gCVi_p hO (M9_byteAt (tGr.off hG t0 (k := 5) rfl) h.1) hc9_byteAt (idx := 210) (w := 589) (by decide +kernel) hR (by omega) (tGr.off hG t0 (k := 5) rfl) ⟨by decide, rfl⟩ (vs := [vI (v1 + 2)]) (st := []) ⟨rfl, Nat.le_of_ble_eq_true rfl, rfl⟩ (by decide +kernel) ?_
      have h := h.2
      refine gBk (pe := 74) hO [oI (.iconst 3) 3, o0 .isub, o0 (.istore 4), o0 (.aload_n 0), oF (.getfield 36) 11 5 26 38, o0 (.iload_n 1), oI (.iconst 3) 3, o0 .iadd] (by decide +kernel) (And.intro (Nat.le_of_ble_eq_true rfl) (And.intro t0 (And.intro rfl (show tWG K B 0 0 S I J 74 [some (vR 0), some (vI v1), some (vI ((V9_byteAt S I J 38 v1) - 9)), some (vI (V9_byteAt S I J 38 (v1 + 1))), some (vI ((V9_byteAt S I J 38 (v1 + 2)) - 3)), none] [vI (v1 + 3), vR 38] from ?_))))
      refine gCVi_p hO (M9_byteAt (tGr.off hG t0 (k := 5) rfl) h.1) hc9_byteAt (idx := 210) (w := 589) (by decide +kernel) hR (by omega) (tGr.off hG t0 (k := 5) rfl) ⟨by decide, rfl⟩ (vs := [vI (v1 + 3)]) (st := []) ⟨rfl, Nat.le_of_ble_eq_true rfl, rfl⟩ (by decide +kernel) ?_
      have h := h.2
      refine gBk (pe := 85) hO [o0 (.istore 5), o0 (.iload_n 2), o0 (.iload_n 3), o0 (.iload 4), o0 (.iload 5)] (by decide +kernel) (And.intro (Nat.le_of_ble_eq_true rfl) (show tWG K B 0 0 S I J 85 [some (vR 0), some (vI v1), some (vI ((V9_byteAt S I J 38 v1) - 9)), some (vI (V9_byteAt S I J 38 (v1 + 1))), some (vI ((V9_byteAt S I J 38 (v1 + 2)) - 3)), some (vI (V9_byteAt S I J 38 (v1 + 3)))] [vI (V9_byteAt S I J 38 (v1 + 3)), vI ((V9_byteAt S I J 38 (v1 + 2)) - 3), vI (V9_byteAt S I J 38 (v1 + 1)), vI ((V9_byteAt S I J 38 v1) - 9)] from ?_))
      refine gCSi_z hO (M7_canBe) hc7_canBe (idx := 152) (w := 400) (by decide +kernel) hR (by omega) (vs := [vI ((V9_byteAt S I J 38 v1) - 9), vI (V9_byteAt S I J 38 (v1 + 1)), vI ((V9_byteAt S I J 38 (v1 + 2)) - 3), vI (V9_byteAt S I J 38 (v1 + 3))]) (st := []) ⟨rfl, Nat.le_of_ble_eq_true rfl, rfl⟩ (by decide +kernel) (fun z3 => ?_)
      refine gIfNe hO (off := 5) (tgt := 93) (by decide +kernel) (by decide) (fun c4 => ?_) (fun c4 => ?_)
      · have h := h.1 c4
        refine gBk (pe := 106) hO [o0 (.aload_n 0), oF (.getfield 12) 11 0 15 1, oF (.getfield 158) 8 1 398 7, o0 (.iload_n 2), o0 (.iload_n 3), o0 (.iload 4), o0 (.iload 5)] (by decide +kernel) (And.intro t0 (And.intro rfl (And.intro (tGr.off hG t0 (k := 0) rfl) (And.intro rfl (show tWG K B 0 0 S I J 106 [some (vR 0), some (vI v1), some (vI ((V9_byteAt S I J 38 v1) - 9)), some (vI (V9_byteAt S I J 38 (v1 + 1))), some (vI ((V9_byteAt S I J 38 (v1 + 2)) - 3)), some (vI (V9_byteAt S I J 38 (v1 + 3)))] [vI (V9_byteAt S I J 38 (v1 + 3)), vI ((V9_byteAt S I J 38 (v1 + 2)) - 3), vI (V9_byteAt S I J 38 (v1 + 1)), vI ((V9_byteAt S I J 38 v1) - 9), vR 7] from ?_)))))
        refine gCVi_c hO (M7_add (tGr.off hG (tGr.off hG t0 (k := 0) rfl) (k := 1) rfl) h) hc7_add (idx := 163) (w := 403) (by decide +kernel) hR (by omega) (tGr.off hG (tGr.off hG t0 (k := 0) rfl) (k := 1) rfl) ⟨by decide, rfl⟩ (vs := [vI ((V9_byteAt S I J 38 v1) - 9), vI (V9_byteAt S I J 38 (v1 + 1)), vI ((V9_byteAt S I J 38 (v1 + 2)) - 3), vI (V9_byteAt S I J 38 (v1 + 3))]) (st := []) ⟨rfl, Nat.le_of_ble_eq_true rfl, rfl⟩ (by decide +kernel) (fun x7 I5 J6 h => ?_)
        refine gBk (pe := 111) hO [o0 .pop, oI (.iconst 1) 1] (by decide +kernel) (show tWG K B 0 0 S I5 J6 111 [some (vR 0), some (vI v1), some (vI ((V9_byteAt S I J 38 v1) - 9)), some (vI (V9_byteAt S I J 38 (v1 + 1))), some (vI ((V9_byteAt S I J 38 (v1 + 2)) - 3)), some (vI (V9_byteAt S I J 38 (v1 + 3)))] [vI 1] from ?_)
        exact gZret hO hQ (by decide +kernel) (Or.inr rfl) ⟨rfl, (Or.inr rfl), h⟩
      · have h := h.2 c4
        refine gBk (pe := 92) hO [oI (.iconst 0) 0] (by decide +kernel) (show tWG K B 0 0 S I J 92 [some (vR 0), some (vI v1), some (vI ((V9_byteAt S I J 38 v1) - 9)), some (vI (V9_byteAt S I J 38 (v1 + 1))), some (vI ((V9_byteAt S I J 38 (v1 + 2)) - 3)), some (vI (V9_byteAt S I J 38 (v1 + 3)))] [vI 0] from ?_)
        exact gZret hO hQ (by decide +kernel) (Or.inl rfl) ⟨rfl, (Or.inl rfl), h⟩
    · have h := h.2 c2
      exact gWeak (L' := [none, none, none, none, none, none]) trivial (W11_addFromTape_28 hO hR hG t0 hQ h))
set_option maxRecDepth 20000 in
theorem hc11_count : tCV yX11_count cX11_count 3 (some .int) 1 := ⟨⟨(List.mem_of_getElem? (i := 1450) rfl), (List.mem_of_getElem? (i := 2) (by decide +kernel)), by decide +kernel⟩, (List.mem_of_getElem? (i := 1448) (by decide +kernel)), (List.mem_of_getElem? (i := 1449) (by decide +kernel))⟩
set_option maxRecDepth 100000 in
theorem M11_count {l : Launch} {B : tB} {S : tSH} {I : tHI} {J : tHJ} {v1 : Int32} {n : Nat} {k : Int32 → tHI → tHJ → Prop} (t0 : ty S 0 11) (h : F11_count n S I J v1 k) : Met l yX11_count (tWs yX11_count cX11_count 3 (some .int)) (tRm 3 0 0) (tPc B [vR 0, vI v1] S I J) (tQi B (tPi S k)) 0 0 (tA B) :=
  tEntry (by decide +kernel) [some (vR 0), some (vI v1), none] rfl rfl (Nat.le_of_ble_eq_true rfl) (fun K hl hR hO hQ hG => by
  subst hl
  refine gBk (pe := 9) hO [o0 (.aload_n 0), oF (.getfield 12) 11 0 15 1, oF (.getfield 169) 8 2 425 15, o0 (.astore_n 2), o0 (.iload_n 1)] (by decide +kernel) (And.intro t0 (And.intro rfl (And.intro (tGr.off hG t0 (k := 0) rfl) (And.intro rfl (And.intro (Nat.le_of_ble_eq_true rfl) (show tWG K B 0 0 S I J 9 [some (vR 0), some (vI v1), some (vR 15)] [vI v1] from ?_))))))
  by_cases c1 : v1 = 0
  · have h := h.1 c1
    refine gSwIn hO (dflt := 221) (lo := 0) (hi := 17) (offs := #[87, 98, 109, 120, 128, 136, 144, 151, 158, 165, 172, 180, 188, 193, 198, 203, 208, 213]) (len := 87) (off := 87) (tgt := 96) 0 c1 (by decide +kernel) (by decide +kernel) ?_
    refine gBk (pe := 106) hO [o0 (.aload_n 0), oF (.getfield 12) 11 0 15 1, oF (.getfield 120) 8 0 242 2, oF (.getfield 124) 3 0 243 0] (by decide +kernel) (And.intro t0 (And.intro rfl (And.intro (tGr.off hG t0 (k := 0) rfl) (And.intro rfl (And.intro (tGr.off hG (tGr.off hG t0 (k := 0) rfl) (k := 0) rfl) (show tWG K B 0 0 S I J 106 [some (vR 0), some (vI v1), some (vR 15)] [vI (I 2 0)] from ?_))))))
    exact gIret hO hQ (by decide +kernel) ⟨rfl, h⟩
  have h := h.2
  by_cases c2 : v1 = 1
  · have h := h.1 c2
    refine gSwIn hO (dflt := 221) (lo := 0) (hi := 17) (offs := #[87, 98, 109, 120, 128, 136, 144, 151, 158, 165, 172, 180, 188, 193, 198, 203, 208, 213]) (len := 87) (off := 98) (tgt := 107) 1 c2 (by decide +kernel) (by decide +kernel) ?_
    refine gBk (pe := 117) hO [o0 (.aload_n 0), oF (.getfield 12) 11 0 15 1, oF (.getfield 158) 8 1 398 7, oF (.getfield 162) 7 0 399 0] (by decide +kernel) (And.intro t0 (And.intro rfl (And.intro (tGr.off hG t0 (k := 0) rfl) (And.intro rfl (And.intro (tGr.off hG (tGr.off hG t0 (k := 0) rfl) (k := 1) rfl) (show tWG K B 0 0 S I J 117 [some (vR 0), some (vI v1), some (vR 15)] [vI (I 7 0)] from ?_))))))
    exact gIret hO hQ (by decide +kernel) ⟨rfl, h⟩
  have h := h.2
  by_cases c3 : v1 = 2
  · have h := h.1 c3
    refine gSwIn hO (dflt := 221) (lo := 0) (hi := 17) (offs := #[87, 98, 109, 120, 128, 136, 144, 151, 158, 165, 172, 180, 188, 193, 198, 203, 208, 213]) (len := 87) (off := 109) (tgt := 118) 2 c3 (by decide +kernel) (by decide +kernel) ?_
    refine gBk (pe := 128) hO [o0 (.aload_n 0), oF (.getfield 12) 11 0 15 1, oF (.getfield 158) 8 1 398 7, oF (.getfield 166) 7 5 424 0] (by decide +kernel) (And.intro t0 (And.intro rfl (And.intro (tGr.off hG t0 (k := 0) rfl) (And.intro rfl (And.intro (tGr.off hG (tGr.off hG t0 (k := 0) rfl) (k := 1) rfl) (show tWG K B 0 0 S I J 128 [some (vR 0), some (vI v1), some (vR 15)] [vI (I 7 5)] from ?_))))))
    exact gIret hO hQ (by decide +kernel) ⟨rfl, h⟩
  have h := h.2
  by_cases c4 : v1 = 3
  · have h := h.1 c4
    refine gSwIn hO (dflt := 221) (lo := 0) (hi := 17) (offs := #[87, 98, 109, 120, 128, 136, 144, 151, 158, 165, 172, 180, 188, 193, 198, 203, 208, 213]) (len := 87) (off := 120) (tgt := 129) 3 c4 (by decide +kernel) (by decide +kernel) ?_
    refine gBk (pe := 136) hO [o0 (.aload_n 0), oF (.getfield 12) 11 0 15 1, oF (.getfield 213) 8 4 610 0] (by decide +kernel) (And.intro t0 (And.intro rfl (And.intro (tGr.off hG t0 (k := 0) rfl) (show tWG K B 0 0 S I J 136 [some (vR 0), some (vI v1), some (vR 15)] [vI (I 1 4)] from ?_))))
    exact gIret hO hQ (by decide +kernel) ⟨rfl, h⟩
  have h := h.2
  by_cases c5 : v1 = 4
  · have h := h.1 c5
    refine gSwIn hO (dflt := 221) (lo := 0) (hi := 17) (offs := #[87, 98, 109, 120, 128, 136, 144, 151, 158, 165, 172, 180, 188, 193, 198, 203, 208, 213]) (len := 87) (off := 128) (tgt := 137) 4 c5 (by decide +kernel) (by decide +kernel) ?_
    refine gBk (pe := 144) hO [o0 (.aload_n 0), oF (.getfield 26) 11 3 21 34, oF (.getfield 129) 1 1 244 0] (by decide +kernel) (And.intro t0 (And.intro rfl (And.intro (tGr.off hG t0 (k := 3) rfl) (show tWG K B 0 0 S I J 144 [some (vR 0), some (vI v1), some (vR 15)] [vI (I 34 1)] from ?_))))
    exact gIret hO hQ (by decide +kernel) ⟨rfl, h⟩
  have h := h.2
  by_cases c6 : v1 = 5
  · have h := h.1 c6
    refine gSwIn hO (dflt := 221) (lo := 0) (hi := 17) (offs := #[87, 98, 109, 120, 128, 136, 144, 151, 158, 165, 172, 180, 188, 193, 198, 203, 208, 213]) (len := 87) (off := 136) (tgt := 145) 5 c6 (by decide +kernel) (by decide +kernel) ?_
    refine gBk (pe := 152) hO [o0 (.aload_n 0), oF (.getfield 36) 11 5 26 38, oF (.getfield 202) 9 1 559 0] (by decide +kernel) (And.intro t0 (And.intro rfl (And.intro (tGr.off hG t0 (k := 5) rfl) (show tWG K B 0 0 S I J 152 [some (vR 0), some (vI v1), some (vR 15)] [vI (I 38 1)] from ?_))))
    exact gIret hO hQ (by decide +kernel) ⟨rfl, h⟩
  have h := h.2
  by_cases c7 : v1 = 6
  · have h := h.1 c7
    refine gSwIn hO (dflt := 221) (lo := 0) (hi := 17) (offs := #[87, 98, 109, 120, 128, 136, 144, 151, 158, 165, 172, 180, 188, 193, 198, 203, 208, 213]) (len := 87) (off := 144) (tgt := 153) 6 c7 (by decide +kernel) (by decide +kernel) ?_
    refine gBk (pe := 159) hO [o0 (.aload_n 0), oF (.getfield 76) 11 11 45 59, oI (.iconst 1) 1, o0 .iaload] (by decide +kernel) (And.intro t0 (And.intro rfl (And.intro (tGr.off hG t0 (k := 11) rfl) (And.intro (tin (tGr.len hG t0 (k := 11) rfl (by decide)) (tvi (by decide +kernel))) (show tWG K B 0 0 S I J 159 [some (vR 0), some (vI v1), some (vR 15)] [vI (I 59 1)] from ?_)))))
    exact gIret hO hQ (by decide +kernel) ⟨rfl, h⟩
  have h := h.2
  by_cases c8 : v1 = 7
  · have h := h.1 c8
    refine gSwIn hO (dflt := 221) (lo := 0) (hi := 17) (offs := #[87, 98, 109, 120, 128, 136, 144, 151, 158, 165, 172, 180, 188, 193, 198, 203, 208, 213]) (len := 87) (off := 151) (tgt := 160) 7 c8 (by decide +kernel) (by decide +kernel) ?_
    refine gBk (pe := 166) hO [o0 (.aload_n 0), oF (.getfield 76) 11 11 45 59, oI (.iconst 2) 2, o0 .iaload] (by decide +kernel) (And.intro t0 (And.intro rfl (And.intro (tGr.off hG t0 (k := 11) rfl) (And.intro (tin (tGr.len hG t0 (k := 11) rfl (by decide)) (tvi (by decide +kernel))) (show tWG K B 0 0 S I J 166 [some (vR 0), some (vI v1), some (vR 15)] [vI (I 59 2)] from ?_)))))
    exact gIret hO hQ (by decide +kernel) ⟨rfl, h⟩
  have h := h.2
  by_cases c9 : v1 = 8
  · have h := h.1 c9
    refine gSwIn hO (dflt := 221) (lo := 0) (hi := 17) (offs := #[87, 98, 109, 120, 128, 136, 144, 151, 158, 165, 172, 180, 188, 193, 198, 203, 208, 213]) (len := 87) (off := 158) (tgt := 167) 8 c9 (by decide +kernel) (by decide +kernel) ?_
    refine gBk (pe := 173) hO [o0 (.aload_n 0), oF (.getfield 76) 11 11 45 59, oI (.iconst 3) 3, o0 .iaload] (by decide +kernel) (And.intro t0 (And.intro rfl (And.intro (tGr.off hG t0 (k := 11) rfl) (And.intro (tin (tGr.len hG t0 (k := 11) rfl (by decide)) (tvi (by decide +kernel))) (show tWG K B 0 0 S I J 173 [some (vR 0), some (vI v1), some (vR 15)] [vI (I 59 3)] from ?_)))))
    exact gIret hO hQ (by decide +kernel) ⟨rfl, h⟩
  have h := h.2
  by_cases c10 : v1 = 9
  · have h := h.1 c10
    refine gSwIn hO (dflt := 221) (lo := 0) (hi := 17) (offs := #[87, 98, 109, 120, 128, 136, 144, 151, 158, 165, 172, 180, 188, 193, 198, 203, 208, 213]) (len := 87) (off := 165) (tgt := 174) 9 c10 (by decide +kernel) (by decide +kernel) ?_
    refine gBk (pe := 180) hO [o0 (.aload_n 0), oF (.getfield 76) 11 11 45 59, oI (.iconst 5) 5, o0 .iaload] (by decide +kernel) (And.intro t0 (And.intro rfl (And.intro (tGr.off hG t0 (k := 11) rfl) (And.intro (tin (tGr.len hG t0 (k := 11) rfl (by decide)) (tvi (by decide +kernel))) (show tWG K B 0 0 S I J 180 [some (vR 0), some (vI v1), some (vR 15)] [vI (I 59 5)] from ?_)))))
    exact gIret hO hQ (by decide +kernel) ⟨rfl, h⟩
  have h := h.2
  by_cases c11 : v1 = 10
  · have h := h.1 c11
    refine gSwIn hO (dflt := 221) (lo := 0) (hi := 17) (offs := #[87, 98, 109, 120, 128, 136, 144, 151, 158, 165, 172, 180, 188, 193, 198, 203, 208, 213]) (len := 87) (off := 172) (tgt := 181) 10 c11 (by decide +kernel) (by decide +kernel) ?_
    refine gBk (pe := 188) hO [o0 (.aload_n 0), oF (.getfield 76) 11 11 45 59, oI (.bipush 6) 6, o0 .iaload] (by decide +kernel) (And.intro t0 (And.intro rfl (And.intro (tGr.off hG t0 (k := 11) rfl) (And.intro (tin (tGr.len hG t0 (k := 11) rfl (by decide)) (tvi (by decide +kernel))) (show tWG K B 0 0 S I J 188 [some (vR 0), some (vI v1), some (vR 15)] [vI (I 59 6)] from ?_)))))
    exact gIret hO hQ (by decide +kernel) ⟨rfl, h⟩
  have h := h.2
  by_cases c12 : v1 = 11
  · have h := h.1 c12
    refine gSwIn hO (dflt := 221) (lo := 0) (hi := 17) (offs := #[87, 98, 109, 120, 128, 136, 144, 151, 158, 165, 172, 180, 188, 193, 198, 203, 208, 213]) (len := 87) (off := 180) (tgt := 189) 11 c12 (by decide +kernel) (by decide +kernel) ?_
    refine gBk (pe := 196) hO [o0 (.aload_n 0), oF (.getfield 12) 11 0 15 1, oF (.getfield 282) 8 5 1091 0] (by decide +kernel) (And.intro t0 (And.intro rfl (And.intro (tGr.off hG t0 (k := 0) rfl) (show tWG K B 0 0 S I J 196 [some (vR 0), some (vI v1), some (vR 15)] [vI (I 1 5)] from ?_))))
    exact gIret hO hQ (by decide +kernel) ⟨rfl, h⟩
  have h := h.2
  by_cases c13 : v1 = 12
  · have h := h.1 c13
    refine gSwIn hO (dflt := 221) (lo := 0) (hi := 17) (offs := #[87, 98, 109, 120, 128, 136, 144, 151, 158, 165, 172, 180, 188, 193, 198, 203, 208, 213]) (len := 87) (off := 188) (tgt := 197) 12 c13 (by decide +kernel) (by decide +kernel) ?_
    refine gBk (pe := 201) hO [o0 (.aload_n 2), oF (.getfield 172) 10 2 426 0] (by decide +kernel) (And.intro (tGr.off hG (tGr.off hG t0 (k := 0) rfl) (k := 2) rfl) (show tWG K B 0 0 S I J 201 [some (vR 0), some (vI v1), some (vR 15)] [vI (I 15 2)] from ?_))
    exact gIret hO hQ (by decide +kernel) ⟨rfl, h⟩
  have h := h.2
  by_cases c14 : v1 = 13
  · have h := h.1 c14
    refine gSwIn hO (dflt := 221) (lo := 0) (hi := 17) (offs := #[87, 98, 109, 120, 128, 136, 144, 151, 158, 165, 172, 180, 188, 193, 198, 203, 208, 213]) (len := 87) (off := 193) (tgt := 202) 13 c14 (by decide +kernel) (by decide +kernel) ?_
    refine gBk (pe := 206) hO [o0 (.aload_n 2), oF (.getfield 270) 10 3 933 0] (by decide +kernel) (And.intro (tGr.off hG (tGr.off hG t0 (k := 0) rfl) (k := 2) rfl) (show tWG K B 0 0 S I J 206 [some (vR 0), some (vI v1), some (vR 15)] [vI (I 15 3)] from ?_))
    exact gIret hO hQ (by decide +kernel) ⟨rfl, h⟩
  have h := h.2
  by_cases c15 : v1 = 14
  · have h := h.1 c15
    refine gSwIn hO (dflt := 221) (lo := 0) (hi := 17) (offs := #[87, 98, 109, 120, 128, 136, 144, 151, 158, 165, 172, 180, 188, 193, 198, 203, 208, 213]) (len := 87) (off := 198) (tgt := 207) 14 c15 (by decide +kernel) (by decide +kernel) ?_
    refine gBk (pe := 211) hO [o0 (.aload_n 2), oF (.getfield 273) 10 1 934 0] (by decide +kernel) (And.intro (tGr.off hG (tGr.off hG t0 (k := 0) rfl) (k := 2) rfl) (show tWG K B 0 0 S I J 211 [some (vR 0), some (vI v1), some (vR 15)] [vI (I 15 1)] from ?_))
    exact gIret hO hQ (by decide +kernel) ⟨rfl, h⟩
  have h := h.2
  by_cases c16 : v1 = 15
  · have h := h.1 c16
    refine gSwIn hO (dflt := 221) (lo := 0) (hi := 17) (offs := #[87, 98, 109, 120, 128, 136, 144, 151, 158, 165, 172, 180, 188, 193, 198, 203, 208, 213]) (len := 87) (off := 203) (tgt := 212) 15 c16 (by decide +kernel) (by decide +kernel) ?_
    refine gBk (pe := 216) hO [o0 (.aload_n 2), oF (.getfield 276) 10 4 935 0] (by decide +kernel) (And.intro (tGr.off hG (tGr.off hG t0 (k := 0) rfl) (k := 2) rfl) (show tWG K B 0 0 S I J 216 [some (vR 0), some (vI v1), some (vR 15)] [vI (I 15 4)] from ?_))
    exact gIret hO hQ (by decide +kernel) ⟨rfl, h⟩
  have h := h.2
  by_cases c17 : v1 = 16
  · have h := h.1 c17
    refine gSwIn hO (dflt := 221) (lo := 0) (hi := 17) (offs := #[87, 98, 109, 120, 128, 136, 144, 151, 158, 165, 172, 180, 188, 193, 198, 203, 208, 213]) (len := 87) (off := 208) (tgt := 217) 16 c17 (by decide +kernel) (by decide +kernel) ?_
    refine gBk (pe := 221) hO [o0 (.aload_n 2), oF (.getfield 361) 10 5 1426 0] (by decide +kernel) (And.intro (tGr.off hG (tGr.off hG t0 (k := 0) rfl) (k := 2) rfl) (show tWG K B 0 0 S I J 221 [some (vR 0), some (vI v1), some (vR 15)] [vI (I 15 5)] from ?_))
    exact gIret hO hQ (by decide +kernel) ⟨rfl, h⟩
  have h := h.2
  by_cases c18 : v1 = 17
  · have h := h.1 c18
    refine gSwIn hO (dflt := 221) (lo := 0) (hi := 17) (offs := #[87, 98, 109, 120, 128, 136, 144, 151, 158, 165, 172, 180, 188, 193, 198, 203, 208, 213]) (len := 87) (off := 213) (tgt := 222) 17 c18 (by decide +kernel) (by decide +kernel) ?_
    refine gBk (pe := 229) hO [o0 (.aload_n 2), oF (.getfield 192) 10 0 530 0, oI (.bipush 9) 9, o0 .iadd] (by decide +kernel) (And.intro (tGr.off hG (tGr.off hG t0 (k := 0) rfl) (k := 2) rfl) (show tWG K B 0 0 S I J 229 [some (vR 0), some (vI v1), some (vR 15)] [vI ((I 15 0) + 9)] from ?_))
    exact gIret hO hQ (by decide +kernel) ⟨rfl, h⟩
  have h := h.2
  have hsw : swN 0 v1 18 := ⟨⟨⟨⟨⟨⟨⟨⟨⟨⟨⟨⟨⟨⟨⟨⟨⟨⟨True.intro, c1⟩, c2⟩, c3⟩, c4⟩, c5⟩, c6⟩, c7⟩, c8⟩, c9⟩, c10⟩, c11⟩, c12⟩, c13⟩, c14⟩, c15⟩, c16⟩, c17⟩, c18⟩
  have h := h hsw
  refine gSwOut hO (dflt := 221) (lo := 0) (hi := 17) (offs := #[87, 98, 109, 120, 128, 136, 144, 151, 158, 165, 172, 180, 188, 193, 198, 203, 208, 213]) (len := 87) (tgt := 230) (by decide +kernel) (sw_out (by decide) (by decide) hsw) (by decide) ?_
  refine gBk (pe := 235) hO [o0 (.iload_n 1), oI (.bipush 18) 18, oI (.bipush 20) 20] (by decide +kernel) (show tWG K B 0 0 S I J 235 [some (vR 0), some (vI v1), some (vR 15)] [vI 20, vI 18, vI v1] from ?_)
  refine gCSi_z hO (M11_within) hc11_within (idx := 106) (w := 245) (by decide +kernel) hR (by omega) (vs := [vI v1, vI 18, vI 20]) (st := []) ⟨rfl, Nat.le_of_ble_eq_true rfl, rfl⟩ (by decide +kernel) (fun z19 => ?_)
  have hj20 : ∀ (m21 : Int32), m21 = (if (V11_within v1 18 20) = 0 then (-1) else (V10_term S I J 15 (v1 - 18))) → tWG K B 0 0 S I J 253 [none, none, none] [vI m21] := by
    intro m21 em21
    subst em21
    exact gIret hO hQ (by decide +kernel) ⟨rfl, h⟩
  refine gIfEq hO (off := 14) (tgt := 252) (by decide +kernel) (by decide) (fun c22 => ?_) (fun c22 => ?_)
  · refine gBk (pe := 253) hO [oI (.iconst (-1)) (-1)] (by decide +kernel) (show tWG K B 0 0 S I J 253 [some (vR 0), some (vI v1), some (vR 15)] [vI (-1)] from ?_)
    exact gWeak (L' := [none, none, none]) trivial (hj20 _ (Eq.symm (if_pos c22)))
  · refine gBk (pe := 246) hO [o0 (.aload_n 2), o0 (.iload_n 1), oI (.bipush 18) 18, o0 .isub] (by decide +kernel) (show tWG K B 0 0 S I J 246 [some (vR 0), some (vI v1), some (vR 15)] [vI (v1 - 18), vR 15] from ?_)
    refine gCVi_p hO (M10_term (tGr.off hG (tGr.off hG t0 (k := 0) rfl) (k := 2) rfl)) hc10_term (idx := 195) (w := 543) (by decide +kernel) hR (by omega) (tGr.off hG (tGr.off hG t0 (k := 0) rfl) (k := 2) rfl) ⟨by decide, rfl⟩ (vs := [vI (v1 - 18)]) (st := []) ⟨rfl, Nat.le_of_ble_eq_true rfl, rfl⟩ (by decide +kernel) ?_
    refine gBk (pe := 253) hO [o0 (.goto 4)] (by decide +kernel) (show tWG K B 0 0 S I J 253 [some (vR 0), some (vI v1), some (vR 15)] [vI (V10_term S I J 15 (v1 - 18))] from ?_)
    exact gWeak (L' := [none, none, none]) trivial (hj20 _ (Eq.symm (if_neg c22))))
set_option maxRecDepth 100000 in
theorem W11_settle_36 {K : tK} {B : tB} {S : tSH} {MC MS : Nat} (hO : tKO K B RX11 cX11_settle 2) (hR : kR K = tRm 3 MC MS) (hG : tGr S) {n : Nat} (t0 : ty S 0 11) {k : Int32 → tHI → tHJ → Prop} (hQ : tRet K B (tQi B (tPi S k)) 0 0 (some .int)) {I : tHI} {J : tHJ} {v1 : Int32} (h : F11_settle_36 n S k I J v1) : tWG K B 0 0 S I J 36 [none, some (vI v1)] [] := by
  refine gBk (pe := 37) hO [o0 (.iload_n 1)] (by decide +kernel) (show tWG K B 0 0 S I J 37 [none, some (vI v1)] [vI v1] from ?_)
  exact gIret hO hQ (by decide +kernel) ⟨rfl, h⟩
set_option maxRecDepth 20000 in
theorem hc11_settle : tCV yX11_settle cX11_settle 2 (some .int) 1 := ⟨⟨(List.mem_of_getElem? (i := 251) rfl), (List.mem_of_getElem? (i := 2) (by decide +kernel)), by decide +kernel⟩, (List.mem_of_getElem? (i := 249) (by decide +kernel)), (List.mem_of_getElem? (i := 250) (by decide +kernel))⟩
set_option maxRecDepth 100000 in
theorem M11_settle {l : Launch} {B : tB} {S : tSH} {I : tHI} {J : tHJ} {v1 : Int32} {n : Nat} {k : Int32 → tHI → tHJ → Prop} (t0 : ty S 0 11) (h : F11_settle n S I J v1 k) : Met l yX11_settle (tWs yX11_settle cX11_settle 2 (some .int)) (tRm 3 0 0) (tPc B [vR 0, vI v1] S I J) (tQi B (tPi S k)) 0 0 (tA B) :=
  tEntry (by decide +kernel) [some (vR 0), some (vI v1)] rfl rfl (Nat.le_of_ble_eq_true rfl) (fun K hl hR hO hQ hG => by
  subst hl
  refine gBk (pe := 3) hO [o0 (.aload_n 0), oI (.iconst 0) 0, o0 (.iload_n 1)] (by decide +kernel) (show tWG K B 0 0 S I J 3 [some (vR 0), some (vI v1)] [vI v1, vI 0, vR 0] from ?_)
  refine gMin hO (idx := 292) (w := 252) (by decide +kernel) hR (by omega) (st := [vR 0]) (Nat.le_of_ble_eq_true rfl) rfl (by decide +kernel) ?_
  refine gBk (pe := 19) hO [oF (.putfield 103) 11 18 55 0, o0 (.iload_n 1), o0 .ineg, oI (.iconst 1) 1, o0 (.aload_n 0), oF (.getfield 76) 11 11 45 59, oF .arraylength 40 0 0 0, oI (.iconst 1) 1, o0 .isub] (by decide +kernel) (And.intro t0 (And.intro t0 (And.intro rfl (And.intro (tGr.off hG t0 (k := 11) rfl) (show tWG K B 0 0 S (uI I 0 18 (if v1 < 0 then v1 else 0)) J 19 [some (vR 0), some (vI v1)] [vI ((Int32.ofNat (sL S 59)) - 1), vI 1, vI (-v1)] from ?_)))))
  refine gCSi_z hO (M11_within) hc11_within (idx := 106) (w := 245) (by decide +kernel) hR (by omega) (vs := [vI (-v1), vI 1, vI ((Int32.ofNat (sL S 59)) - 1)]) (st := []) ⟨rfl, Nat.le_of_ble_eq_true rfl, rfl⟩ (by decide +kernel) (fun z1 => ?_)
  refine gIfEq hO (off := 14) (tgt := 36) (by decide +kernel) (by decide) (fun c2 => ?_) (fun c2 => ?_)
  · have h := h.1 c2
    exact gWeak (L' := [none, some (vI v1)]) ⟨rfl, trivial⟩ (W11_settle_36 hO hR hG t0 hQ h)
  · have h := h.2 c2
    refine gBk (pe := 36) hO [o0 (.aload_n 0), oF (.getfield 76) 11 11 45 59, o0 (.iload_n 1), o0 .ineg, o0 .dup2, o0 .iaload, oI (.iconst 1) 1, o0 .iadd, o0 .iastore] (by decide +kernel) (And.intro t0 (And.intro rfl (And.intro (tGr.off hG t0 (k := 11) rfl) (And.intro (tin (tGr.len hG t0 (k := 11) rfl (by decide)) h.1) (And.intro (tGr.off hG t0 (k := 11) rfl) (And.intro (tin (tGr.len hG t0 (k := 11) rfl (by decide)) h.2.1) (show tWG K B 0 0 S (uI (uI I 0 18 (if v1 < 0 then v1 else 0)) 59 (-v1).toNatClampNeg (((uI I 0 18 (if v1 < 0 then v1 else 0)) 59 (-v1).toNatClampNeg) + 1)) J 36 [some (vR 0), some (vI v1)] [] from ?_)))))))
    have h := h.2.2
    exact gWeak (L' := [none, some (vI v1)]) ⟨rfl, trivial⟩ (W11_settle_36 hO hR hG t0 hQ h))
set_option maxRecDepth 100000 in
theorem W12_load_39 {K : tK} {B : tB} {S : tSH} {MC MS : Nat} (hO : tKO K B RX12 cX12_load 5) (hR : kR K = tRm 8 MC MS) (hG : tGr S) {n : Nat} (t0 : ty S 61 12) {k : Int32 → tHI → tHJ → Prop} (hQ : tRet K B (tQi B (tPi S k)) 0 0 (some .int)) {I : tHI} {J : tHJ} (h : F12_load_39 n S k I J) : tWG K B 0 0 S I J 39 [some (vR 61), none, none, none, none] [] := by
  refine gBk (pe := 41) hO [o0 (.aload_n 0), oI (.iconst (-1)) (-1)] (by decide +kernel) (show tWG K B 0 0 S I J 41 [some (vR 61), none, none, none, none] [vI (-1), vR 61] from ?_)
  refine gCVi_c hO (M12_tell t0 h) hc12_tell (idx := 170) (w := 322) (by decide +kernel) hR (by omega) t0 ⟨by decide, rfl⟩ (vs := [vI (-1)]) (st := []) ⟨rfl, Nat.le_of_ble_eq_true rfl, rfl⟩ (by decide +kernel) (fun x5 I3 J4 h => ?_)
  exact gIret hO hQ (by decide +kernel) ⟨rfl, h⟩
set_option maxRecDepth 20000 in
theorem hc12_load : tCV yX12_load cX12_load 5 (some .int) 3 := ⟨⟨(List.mem_of_getElem? (i := 315) rfl), (List.mem_of_getElem? (i := 5) (by decide +kernel)), by decide +kernel⟩, (List.mem_of_getElem? (i := 313) (by decide +kernel)), (List.mem_of_getElem? (i := 314) (by decide +kernel))⟩
set_option maxRecDepth 100000 in
theorem M12_load {l : Launch} {B : tB} {S : tSH} {I : tHI} {J : tHJ} {v1 : Int32} {v2 : Int32} {v3 : Int32} {n : Nat} {k : Int32 → tHI → tHJ → Prop} (t0 : ty S 61 12) (h : F12_load n S I J v1 v2 v3 k) : Met l yX12_load (tWs yX12_load cX12_load 5 (some .int)) (tRm 8 0 0) (tPc B [vR 61, vI v1, vI v2, vI v3] S I J) (tQi B (tPi S k)) 0 0 (tA B) :=
  tEntry (by decide +kernel) [some (vR 61), some (vI v1), some (vI v2), some (vI v3), none] rfl rfl (Nat.le_of_ble_eq_true rfl) (fun K hl hR hO hQ hG => by
  subst hl
  refine gBk (pe := 8) hO [o0 (.aload_n 0), oI (.iconst 0) 0, oF (.putfield 161) 12 0 316 0, o0 (.iload_n 1), o0 .i2l, oJ (.lconst 0) 0 0] (by decide +kernel) (And.intro t0 (show tWG K B 0 0 S (uI I 61 0 0) J 8 [some (vR 61), some (vI v1), some (vI v2), some (vI v3), none] [vL 0, vL v1.toInt64] from ?_))
  refine gBk (pe := 11) hO [(.ldc2_w 188, (0, 0, 317, 0), 0, 200)] (by decide +kernel) (show tWG K B 0 0 S (uI I 61 0 0) J 11 [some (vR 61), some (vI v1), some (vI v2), some (vI v3), none] [vL 200, vL 0, vL v1.toInt64] from ?_)
  refine gCSi_z hO (M12_in) hc12_in (idx := 181) (w := 319) (by decide +kernel) hR (by omega) (vs := [vL v1.toInt64, vL 0, vL 200]) (st := []) ⟨rfl, Nat.le_of_ble_eq_true rfl, rfl⟩ (by decide +kernel) (fun z1 => ?_)
  refine gIfEq hO (off := 25) (tgt := 39) (by decide +kernel) (by decide) (fun c2 => ?_) (fun c2 => ?_)
  · have h := h.1 c2
    exact gWeak (L' := [some (vR 61), none, none, none, none]) ⟨rfl, trivial⟩ (W12_load_39 hO hR hG t0 hQ h)
  · have h := h.2 c2
    refine gBk (pe := 20) hO [o0 (.iload_n 2), o0 .i2l, oJ (.lconst 0) 0 0] (by decide +kernel) (show tWG K B 0 0 S (uI I 61 0 0) J 20 [some (vR 61), some (vI v1), some (vI v2), some (vI v3), none] [vL 0, vL v2.toInt64] from ?_)
    refine gBk (pe := 23) hO [(.ldc2_w 190, (0, 0, 318, 0), 0, 3)] (by decide +kernel) (show tWG K B 0 0 S (uI I 61 0 0) J 23 [some (vR 61), some (vI v1), some (vI v2), some (vI v3), none] [vL 3, vL 0, vL v2.toInt64] from ?_)
    refine gCSi_z hO (M12_in) hc12_in (idx := 181) (w := 319) (by decide +kernel) hR (by omega) (vs := [vL v2.toInt64, vL 0, vL 3]) (st := []) ⟨rfl, Nat.le_of_ble_eq_true rfl, rfl⟩ (by decide +kernel) (fun z6 => ?_)
    refine gIfEq hO (off := 13) (tgt := 39) (by decide +kernel) (by decide) (fun c7 => ?_) (fun c7 => ?_)
    · have h := h.1 c7
      exact gWeak (L' := [some (vR 61), none, none, none, none]) ⟨rfl, trivial⟩ (W12_load_39 hO hR hG t0 hQ h)
    · have h := h.2 c7
      refine gBk (pe := 33) hO [o0 (.iload_n 3), o0 .i2l, oJ (.lconst 0) 0 0, oJ (.lconst 1) 0 1] (by decide +kernel) (show tWG K B 0 0 S (uI I 61 0 0) J 33 [some (vR 61), some (vI v1), some (vI v2), some (vI v3), none] [vL 1, vL 0, vL v3.toInt64] from ?_)
      refine gCSi_z hO (M12_in) hc12_in (idx := 181) (w := 319) (by decide +kernel) hR (by omega) (vs := [vL v3.toInt64, vL 0, vL 1]) (st := []) ⟨rfl, Nat.le_of_ble_eq_true rfl, rfl⟩ (by decide +kernel) (fun z8 => ?_)
      refine gIfNe hO (off := 9) (tgt := 45) (by decide +kernel) (by decide) (fun c9 => ?_) (fun c9 => ?_)
      · have h := h.1 c9
        refine gBk (pe := 49) hO [o0 (.aload_n 0), o0 (.iload_n 1), o0 (.iload_n 3), o0 (.iload_n 2)] (by decide +kernel) (show tWG K B 0 0 S (uI I 61 0 0) J 49 [some (vR 61), some (vI v1), some (vI v2), some (vI v3), none] [vI v2, vI v3, vI v1, vR 61] from ?_)
        refine gCVi_b hO (M12_isBannedBy t0 h) hc12_isBannedBy (idx := 192) (w := 327) (by decide +kernel) hR (by omega) t0 ⟨by decide, rfl⟩ (vs := [vI v1, vI v3, vI v2]) (st := []) ⟨rfl, Nat.le_of_ble_eq_true rfl, rfl⟩ (by decide +kernel) (fun x12 I10 J11 z13 h => ?_)
        have h := h z13
        refine gIfEq hO (off := 10) (tgt := 62) (by decide +kernel) (by decide) (fun c14 => ?_) (fun c14 => ?_)
        · have h := h.1 c14
          refine gBk (pe := 74) hO [o0 (.aload_n 0), oF (.getfield 13) 12 3 179 63, oI (.iconst 0) 0, o0 .iaload, o0 (.istore 4), o0 (.iload 4), oI (.bipush 6) 6] (by decide +kernel) (And.intro t0 (And.intro rfl (And.intro (tGr.off hG t0 (k := 3) rfl) (And.intro (tin (tGr.len hG t0 (k := 3) rfl (by decide)) (tvi (by decide +kernel))) (And.intro (Nat.le_of_ble_eq_true rfl) (show tWG K B 0 0 S I10 J11 74 [some (vR 61), some (vI v1), some (vI v2), some (vI v3), some (vI (I10 63 0))] [vI 6, vI (I10 63 0)] from ?_))))))
          refine gIcNe hO (off := 10) (tgt := 84) (by decide +kernel) (by decide) (fun c15 => ?_) (fun c15 => ?_)
          · have h := h.1 c15
            refine gBk (pe := 141) hO [o0 (.aload_n 0), oF (.getfield 13) 12 3 179 63, oI (.bipush 26) 26, o0 (.iload 4), o0 .iadd, o0 (.iload_n 1), o0 .iastore, o0 (.aload_n 0), oF (.getfield 13) 12 3 179 63, oI (.bipush 32) 32, o0 (.iload 4), o0 .iadd, o0 (.iload_n 3), o0 .iastore, o0 (.aload_n 0), oF (.getfield 13) 12 3 179 63, oI (.bipush 14) 14, o0 (.iload 4), o0 .iadd, o0 (.iload_n 2), o0 .iastore, o0 (.aload_n 0), oF (.getfield 13) 12 3 179 63, oI (.bipush 20) 20, o0 (.iload 4), o0 .iadd, oI (.iconst 0) 0, o0 .iastore, o0 (.aload_n 0), oF (.getfield 13) 12 3 179 63, oI (.iconst 0) 0, o0 .dup2, o0 .iaload, oI (.iconst 1) 1, o0 .iadd, o0 .iastore, o0 (.aload_n 0), o0 (.iload 4)] (by decide +kernel) (And.intro t0 (And.intro rfl (And.intro (tGr.off hG t0 (k := 3) rfl) (And.intro (tin (tGr.len hG t0 (k := 3) rfl (by decide)) h.1) (And.intro t0 (And.intro rfl (And.intro (tGr.off hG t0 (k := 3) rfl) (And.intro (tin (tGr.len hG t0 (k := 3) rfl (by decide)) h.2.1) (And.intro t0 (And.intro rfl (And.intro (tGr.off hG t0 (k := 3) rfl) (And.intro (tin (tGr.len hG t0 (k := 3) rfl (by decide)) h.2.2.1) (And.intro t0 (And.intro rfl (And.intro (tGr.off hG t0 (k := 3) rfl) (And.intro (tin (tGr.len hG t0 (k := 3) rfl (by decide)) h.2.2.2.1) (And.intro t0 (And.intro rfl (And.intro (tGr.off hG t0 (k := 3) rfl) (And.intro (tin (tGr.len hG t0 (k := 3) rfl (by decide)) (tvi (by decide +kernel))) (And.intro (tGr.off hG t0 (k := 3) rfl) (And.intro (tin (tGr.len hG t0 (k := 3) rfl (by decide)) (tvi (by decide +kernel))) (show tWG K B 0 0 S (uI (uI (uI (uI (uI I10 63 (26 + (I10 63 0)).toNatClampNeg v1) 63 (32 + (I10 63 0)).toNatClampNeg v3) 63 (14 + (I10 63 0)).toNatClampNeg v2) 63 (20 + (I10 63 0)).toNatClampNeg 0) 63 0 (((uI (uI (uI (uI I10 63 (26 + (I10 63 0)).toNatClampNeg v1) 63 (32 + (I10 63 0)).toNatClampNeg v3) 63 (14 + (I10 63 0)).toNatClampNeg v2) 63 (20 + (I10 63 0)).toNatClampNeg 0) 63 0) + 1)) J11 141 [some (vR 61), some (vI v1), some (vI v2), some (vI v3), some (vI (I10 63 0))] [vI (I10 63 0), vR 61] from ?_)))))))))))))))))))))))
            have h := h.2.2.2.2
            refine gCVi_c hO (M12_settled t0 h) hc12_settled (idx := 185) (w := 368) (by decide +kernel) hR (by omega) t0 ⟨by decide, rfl⟩ (vs := [vI (I10 63 0)]) (st := []) ⟨rfl, Nat.le_of_ble_eq_true rfl, rfl⟩ (by decide +kernel) (fun x18 I16 J17 h => ?_)
            exact gIret hO hQ (by decide +kernel) ⟨rfl, h⟩
          · have h := h.2 c15
            refine gBk (pe := 80) hO [o0 (.aload_n 0), oI (.bipush (-5)) (-5)] (by decide +kernel) (show tWG K B 0 0 S I10 J11 80 [some (vR 61), some (vI v1), some (vI v2), some (vI v3), some (vI (I10 63 0))] [vI (-5), vR 61] from ?_)
            refine gCVi_c hO (M12_tell t0 h) hc12_tell (idx := 170) (w := 322) (by decide +kernel) hR (by omega) t0 ⟨by decide, rfl⟩ (vs := [vI (-5)]) (st := []) ⟨rfl, Nat.le_of_ble_eq_true rfl, rfl⟩ (by decide +kernel) (fun x21 I19 J20 h => ?_)
            exact gIret hO hQ (by decide +kernel) ⟨rfl, h⟩
        · have h := h.2 c14
          refine gBk (pe := 58) hO [o0 (.aload_n 0), oI (.bipush (-3)) (-3)] (by decide +kernel) (show tWG K B 0 0 S I10 J11 58 [some (vR 61), some (vI v1), some (vI v2), some (vI v3), none] [vI (-3), vR 61] from ?_)
          refine gCVi_c hO (M12_tell t0 h) hc12_tell (idx := 170) (w := 322) (by decide +kernel) hR (by omega) t0 ⟨by decide, rfl⟩ (vs := [vI (-3)]) (st := []) ⟨rfl, Nat.le_of_ble_eq_true rfl, rfl⟩ (by decide +kernel) (fun x24 I22 J23 h => ?_)
          exact gIret hO hQ (by decide +kernel) ⟨rfl, h⟩
      · have h := h.2 c9
        exact gWeak (L' := [some (vR 61), none, none, none, none]) ⟨rfl, trivial⟩ (W12_load_39 hO hR hG t0 hQ h))
set_option maxRecDepth 100000 in
theorem W12_of_25 {K : tK} {B : tB} {S : tSH} {MC MS : Nat} (hO : tKO K B RX12 cX12_of 3) (hR : kR K = tRm 9 MC MS) (hG : tGr S) {n : Nat} (t0 : ty S 61 12) {k : Int32 → tHI → tHJ → Prop} (hQ : tRet K B (tQi B (tPi S k)) 0 0 (some .int)) {I : tHI} {J : tHJ} (h : F12_of_25 n S k I J) : tWG K B 0 0 S I J 25 [none, none, none] [] := by
  refine gBk (pe := 28) hO [oI (.sipush (-1000)) (-1000)] (by decide +kernel) (show tWG K B 0 0 S I J 28 [none, none, none] [vI (-1000)] from ?_)
  exact gIret hO hQ (by decide +kernel) ⟨rfl, h⟩
set_option maxRecDepth 20000 in
theorem hc12_of : tCV yX12_of cX12_of 3 (some .int) 2 := ⟨⟨(List.mem_of_getElem? (i := 388) rfl), (List.mem_of_getElem? (i := 5) (by decide +kernel)), by decide +kernel⟩, (List.mem_of_getElem? (i := 386) (by decide +kernel)), (List.mem_of_getElem? (i := 387) (by decide +kernel))⟩
set_option maxRecDepth 100000 in
theorem M12_of {l : Launch} {B : tB} {S : tSH} {I : tHI} {J : tHJ} {v1 : Int32} {v2 : Int32} {n : Nat} {k : Int32 → tHI → tHJ → Prop} (t0 : ty S 61 12) (h : F12_of n S I J v1 v2 k) : Met l yX12_of (tWs yX12_of cX12_of 3 (some .int)) (tRm 9 0 0) (tPc B [vR 61, vI v1, vI v2] S I J) (tQi B (tPi S k)) 0 0 (tA B) :=
  tEntry (by decide +kernel) [some (vR 61), some (vI v1), some (vI v2)] rfl rfl (Nat.le_of_ble_eq_true rfl) (fun K hl hR hO hQ hG => by
  subst hl
  refine gBk (pe := 7) hO [o0 (.aload_n 0), oI (.iconst 0) 0, oF (.putfield 161) 12 0 316 0, o0 (.aload_n 0), o0 (.iload_n 1)] (by decide +kernel) (And.intro t0 (show tWG K B 0 0 S (uI I 61 0 0) J 7 [some (vR 61), some (vI v1), some (vI v2)] [vI v1, vR 61] from ?_))
  refine gCVi_z hO (M12_isLoad t0) hc12_isLoad (idx := 196) (w := 360) (by decide +kernel) hR (by omega) t0 ⟨by decide, rfl⟩ (vs := [vI v1]) (st := []) ⟨rfl, Nat.le_of_ble_eq_true rfl, rfl⟩ (by decide +kernel) (fun z1 => ?_)
  refine gIfEq hO (off := 15) (tgt := 25) (by decide +kernel) (by decide) (fun c2 => ?_) (fun c2 => ?_)
  · have h := h.1 c2
    exact gWeak (L' := [none, none, none]) trivial (W12_of_25 hO hR hG t0 hQ h)
  · have h := h.2 c2
    refine gBk (pe := 16) hO [o0 (.iload_n 2), o0 .i2l, oJ (.lconst 0) 0 0] (by decide +kernel) (show tWG K B 0 0 S (uI I 61 0 0) J 16 [some (vR 61), some (vI v1), some (vI v2)] [vL 0, vL v2.toInt64] from ?_)
    refine gBk (pe := 19) hO [(.ldc2_w 200, (0, 0, 389, 0), 0, 7)] (by decide +kernel) (show tWG K B 0 0 S (uI I 61 0 0) J 19 [some (vR 61), some (vI v1), some (vI v2)] [vL 7, vL 0, vL v2.toInt64] from ?_)
    refine gCSi_z hO (M12_in) hc12_in (idx := 181) (w := 319) (by decide +kernel) hR (by omega) (vs := [vL v2.toInt64, vL 0, vL 7]) (st := []) ⟨rfl, Nat.le_of_ble_eq_true rfl, rfl⟩ (by decide +kernel) (fun z3 => ?_)
    refine gIfNe hO (off := 7) (tgt := 29) (by decide +kernel) (by decide) (fun c4 => ?_) (fun c4 => ?_)
    · have h := h.1 c4
      refine gBk (pe := 30) hO [o0 (.iload_n 2)] (by decide +kernel) (show tWG K B 0 0 S (uI I 61 0 0) J 30 [some (vR 61), some (vI v1), some (vI v2)] [vI v2] from ?_)
      by_cases c5 : v2 = 0
      · have h := h.1 c5
        refine gSwIn hO (dflt := 70) (lo := 0) (hi := 3) (offs := #[30, 40, 50, 60]) (len := 30) (off := 30) (tgt := 60) 0 c5 (by decide +kernel) (by decide +kernel) ?_
        refine gBk (pe := 69) hO [o0 (.aload_n 0), oF (.getfield 13) 12 3 179 63, oI (.bipush 26) 26, o0 (.iload_n 1), o0 .iadd, o0 .iaload] (by decide +kernel) (And.intro t0 (And.intro rfl (And.intro (tGr.off hG t0 (k := 3) rfl) (And.intro (tin (tGr.len hG t0 (k := 3) rfl (by decide)) h.1) (show tWG K B 0 0 S (uI I 61 0 0) J 69 [some (vR 61), some (vI v1), some (vI v2)] [vI ((uI I 61 0 0) 63 (26 + v1).toNatClampNeg)] from ?_)))))
        have h := h.2
        exact gIret hO hQ (by decide +kernel) ⟨rfl, h⟩
      have h := h.2
      by_cases c6 : v2 = 1
      · have h := h.1 c6
        refine gSwIn hO (dflt := 70) (lo := 0) (hi := 3) (offs := #[30, 40, 50, 60]) (len := 30) (off := 40) (tgt := 70) 1 c6 (by decide +kernel) (by decide +kernel) ?_
        refine gBk (pe := 79) hO [o0 (.aload_n 0), oF (.getfield 13) 12 3 179 63, oI (.bipush 14) 14, o0 (.iload_n 1), o0 .iadd, o0 .iaload] (by decide +kernel) (And.intro t0 (And.intro rfl (And.intro (tGr.off hG t0 (k := 3) rfl) (And.intro (tin (tGr.len hG t0 (k := 3) rfl (by decide)) h.1) (show tWG K B 0 0 S (uI I 61 0 0) J 79 [some (vR 61), some (vI v1), some (vI v2)] [vI ((uI I 61 0 0) 63 (14 + v1).toNatClampNeg)] from ?_)))))
        have h := h.2
        exact gIret hO hQ (by decide +kernel) ⟨rfl, h⟩
      have h := h.2
      by_cases c7 : v2 = 2
      · have h := h.1 c7
        refine gSwIn hO (dflt := 70) (lo := 0) (hi := 3) (offs := #[30, 40, 50, 60]) (len := 30) (off := 50) (tgt := 80) 2 c7 (by decide +kernel) (by decide +kernel) ?_
        refine gBk (pe := 89) hO [o0 (.aload_n 0), oF (.getfield 13) 12 3 179 63, oI (.bipush 32) 32, o0 (.iload_n 1), o0 .iadd, o0 .iaload] (by decide +kernel) (And.intro t0 (And.intro rfl (And.intro (tGr.off hG t0 (k := 3) rfl) (And.intro (tin (tGr.len hG t0 (k := 3) rfl (by decide)) h.1) (show tWG K B 0 0 S (uI I 61 0 0) J 89 [some (vR 61), some (vI v1), some (vI v2)] [vI ((uI I 61 0 0) 63 (32 + v1).toNatClampNeg)] from ?_)))))
        have h := h.2
        exact gIret hO hQ (by decide +kernel) ⟨rfl, h⟩
      have h := h.2
      by_cases c8 : v2 = 3
      · have h := h.1 c8
        refine gSwIn hO (dflt := 70) (lo := 0) (hi := 3) (offs := #[30, 40, 50, 60]) (len := 30) (off := 60) (tgt := 90) 3 c8 (by decide +kernel) (by decide +kernel) ?_
        refine gBk (pe := 99) hO [o0 (.aload_n 0), oF (.getfield 13) 12 3 179 63, oI (.bipush 20) 20, o0 (.iload_n 1), o0 .iadd, o0 .iaload] (by decide +kernel) (And.intro t0 (And.intro rfl (And.intro (tGr.off hG t0 (k := 3) rfl) (And.intro (tin (tGr.len hG t0 (k := 3) rfl (by decide)) h.1) (show tWG K B 0 0 S (uI I 61 0 0) J 99 [some (vR 61), some (vI v1), some (vI v2)] [vI ((uI I 61 0 0) 63 (20 + v1).toNatClampNeg)] from ?_)))))
        have h := h.2
        exact gIret hO hQ (by decide +kernel) ⟨rfl, h⟩
      have h := h.2
      have hsw : swN 0 v2 4 := ⟨⟨⟨⟨True.intro, c5⟩, c6⟩, c7⟩, c8⟩
      have h := h hsw
      refine gSwOut hO (dflt := 70) (lo := 0) (hi := 3) (offs := #[30, 40, 50, 60]) (len := 30) (tgt := 100) (by decide +kernel) (sw_out (by decide) (by decide) hsw) (by decide) ?_
      refine gBk (pe := 105) hO [o0 (.aload_n 0), o0 (.iload_n 1), o0 (.iload_n 2), oI (.iconst 4) 4, o0 .isub] (by decide +kernel) (show tWG K B 0 0 S (uI I 61 0 0) J 105 [some (vR 61), some (vI v1), some (vI v2)] [vI (v2 - 4), vI v1, vR 61] from ?_)
      refine gCVi_b hO (M12_isBanned t0 h) hc12_isBanned (idx := 202) (w := 390) (by decide +kernel) hR (by omega) t0 ⟨by decide, rfl⟩ (vs := [vI v1, vI (v2 - 4)]) (st := []) ⟨rfl, Nat.le_of_ble_eq_true rfl, rfl⟩ (by decide +kernel) (fun x11 I9 J10 z12 h => ?_)
      have h := h z12
      have hj13 : ∀ (m14 : Int32), m14 = (if x11 = 0 then (0 : Int32) else 1) → tWG K B 0 0 S I9 J10 116 [none, none, none] [vI m14] := by
        intro m14 em14
        subst em14
        exact gIret hO hQ (by decide +kernel) ⟨rfl, h⟩
      refine gIfEq hO (off := 7) (tgt := 115) (by decide +kernel) (by decide) (fun c15 => ?_) (fun c15 => ?_)
      · refine gBk (pe := 116) hO [oI (.iconst 0) 0] (by decide +kernel) (show tWG K B 0 0 S I9 J10 116 [some (vR 61), some (vI v1), some (vI v2)] [vI 0] from ?_)
        exact gWeak (L' := [none, none, none]) trivial (hj13 _ (Eq.symm (if_pos c15)))
      · refine gBk (pe := 116) hO [oI (.iconst 1) 1, o0 (.goto 4)] (by decide +kernel) (show tWG K B 0 0 S I9 J10 116 [some (vR 61), some (vI v1), some (vI v2)] [vI 1] from ?_)
        exact gWeak (L' := [none, none, none]) trivial (hj13 _ (Eq.symm (if_neg c15)))
    · have h := h.2 c4
      exact gWeak (L' := [none, none, none]) trivial (W12_of_25 hO hR hG t0 hQ h))
set_option maxRecDepth 100000 in
theorem W12_at_25 {K : tK} {B : tB} {S : tSH} {MC MS : Nat} (hO : tKO K B RX12 cX12_at 3) (hR : kR K = tRm 8 MC MS) (hG : tGr S) {n : Nat} (t0 : ty S 61 12) {k : Int32 → tHI → tHJ → Prop} (hQ : tRet K B (tQi B (tPi S k)) 0 0 (some .int)) {I : tHI} {J : tHJ} (h : F12_at_25 n S k I J) : tWG K B 0 0 S I J 25 [none, none, none] [] := by
  refine gBk (pe := 28) hO [oI (.sipush (-1000)) (-1000)] (by decide +kernel) (show tWG K B 0 0 S I J 28 [none, none, none] [vI (-1000)] from ?_)
  exact gIret hO hQ (by decide +kernel) ⟨rfl, h⟩
set_option maxRecDepth 20000 in
theorem hc12_at : tCV yX12_at cX12_at 3 (some .int) 2 := ⟨⟨(List.mem_of_getElem? (i := 479) rfl), (List.mem_of_getElem? (i := 5) (by decide +kernel)), by decide +kernel⟩, (List.mem_of_getElem? (i := 477) (by decide +kernel)), (List.mem_of_getElem? (i := 478) (by decide +kernel))⟩
set_option maxRecDepth 100000 in
theorem M12_at {l : Launch} {B : tB} {S : tSH} {I : tHI} {J : tHJ} {v1 : Int32} {v2 : Int32} {n : Nat} {k : Int32 → tHI → tHJ → Prop} (t0 : ty S 61 12) (h : F12_at n S I J v1 v2 k) : Met l yX12_at (tWs yX12_at cX12_at 3 (some .int)) (tRm 8 0 0) (tPc B [vR 61, vI v1, vI v2] S I J) (tQi B (tPi S k)) 0 0 (tA B) :=
  tEntry (by decide +kernel) [some (vR 61), some (vI v1), some (vI v2)] rfl rfl (Nat.le_of_ble_eq_true rfl) (fun K hl hR hO hQ hG => by
  subst hl
  refine gBk (pe := 7) hO [o0 (.aload_n 0), oI (.iconst 0) 0, oF (.putfield 161) 12 0 316 0, o0 (.aload_n 0), o0 (.iload_n 1)] (by decide +kernel) (And.intro t0 (show tWG K B 0 0 S (uI I 61 0 0) J 7 [some (vR 61), some (vI v1), some (vI v2)] [vI v1, vR 61] from ?_))
  refine gCVi_z hO (M12_isBend t0) hc12_isBend (idx := 220) (w := 352) (by decide +kernel) hR (by omega) t0 ⟨by decide, rfl⟩ (vs := [vI v1]) (st := []) ⟨rfl, Nat.le_of_ble_eq_true rfl, rfl⟩ (by decide +kernel) (fun z1 => ?_)
  refine gIfEq hO (off := 15) (tgt := 25) (by decide +kernel) (by decide) (fun c2 => ?_) (fun c2 => ?_)
  · have h := h.1 c2
    exact gWeak (L' := [none, none, none]) trivial (W12_at_25 hO hR hG t0 hQ h)
  · have h := h.2 c2
    refine gBk (pe := 16) hO [o0 (.iload_n 2), o0 .i2l, oJ (.lconst 0) 0 0] (by decide +kernel) (show tWG K B 0 0 S (uI I 61 0 0) J 16 [some (vR 61), some (vI v1), some (vI v2)] [vL 0, vL v2.toInt64] from ?_)
    refine gBk (pe := 19) hO [(.ldc2_w 223, (0, 0, 480, 0), 0, 8)] (by decide +kernel) (show tWG K B 0 0 S (uI I 61 0 0) J 19 [some (vR 61), some (vI v1), some (vI v2)] [vL 8, vL 0, vL v2.toInt64] from ?_)
    refine gCSi_z hO (M12_in) hc12_in (idx := 181) (w := 319) (by decide +kernel) hR (by omega) (vs := [vL v2.toInt64, vL 0, vL 8]) (st := []) ⟨rfl, Nat.le_of_ble_eq_true rfl, rfl⟩ (by decide +kernel) (fun z3 => ?_)
    refine gIfNe hO (off := 7) (tgt := 29) (by decide +kernel) (by decide) (fun c4 => ?_) (fun c4 => ?_)
    · have h := h.1 c4
      refine gBk (pe := 30) hO [o0 (.iload_n 2)] (by decide +kernel) (show tWG K B 0 0 S (uI I 61 0 0) J 30 [some (vR 61), some (vI v1), some (vI v2)] [vI v2] from ?_)
      by_cases c5 : v2 = 4
      · have h := h.1 c5
        refine gSwIn hO (dflt := 64) (lo := 4) (hi := 8) (offs := #[34, 40, 46, 52, 58]) (len := 34) (off := 34) (tgt := 64) 4 c5 (by decide +kernel) (by decide +kernel) ?_
        refine gBk (pe := 66) hO [o0 (.aload_n 0), o0 (.iload_n 1)] (by decide +kernel) (show tWG K B 0 0 S (uI I 61 0 0) J 66 [some (vR 61), some (vI v1), some (vI v2)] [vI v1, vR 61] from ?_)
        refine gCVi_c hO (M12_holdsOf t0 h) hc12_holdsOf (idx := 225) (w := 481) (by decide +kernel) hR (by omega) t0 ⟨by decide, rfl⟩ (vs := [vI v1]) (st := []) ⟨rfl, Nat.le_of_ble_eq_true rfl, rfl⟩ (by decide +kernel) (fun x8 I6 J7 h => ?_)
        exact gIret hO hQ (by decide +kernel) ⟨rfl, h⟩
      have h := h.2
      by_cases c9 : v2 = 5
      · have h := h.1 c9
        refine gSwIn hO (dflt := 64) (lo := 4) (hi := 8) (offs := #[34, 40, 46, 52, 58]) (len := 34) (off := 40) (tgt := 70) 5 c9 (by decide +kernel) (by decide +kernel) ?_
        refine gBk (pe := 72) hO [o0 (.aload_n 0), o0 (.iload_n 1)] (by decide +kernel) (show tWG K B 0 0 S (uI I 61 0 0) J 72 [some (vR 61), some (vI v1), some (vI v2)] [vI v1, vR 61] from ?_)
        refine gCVi_c hO (M12_gripsOf t0 h) hc12_gripsOf (idx := 228) (w := 507) (by decide +kernel) hR (by omega) t0 ⟨by decide, rfl⟩ (vs := [vI v1]) (st := []) ⟨rfl, Nat.le_of_ble_eq_true rfl, rfl⟩ (by decide +kernel) (fun x12 I10 J11 h => ?_)
        exact gIret hO hQ (by decide +kernel) ⟨rfl, h⟩
      have h := h.2
      by_cases c13 : v2 = 6
      · have h := h.1 c13
        refine gSwIn hO (dflt := 64) (lo := 4) (hi := 8) (offs := #[34, 40, 46, 52, 58]) (len := 34) (off := 46) (tgt := 76) 6 c13 (by decide +kernel) (by decide +kernel) ?_
        refine gBk (pe := 78) hO [o0 (.aload_n 0), o0 (.iload_n 1)] (by decide +kernel) (show tWG K B 0 0 S (uI I 61 0 0) J 78 [some (vR 61), some (vI v1), some (vI v2)] [vI v1, vR 61] from ?_)
        refine gCVi_c hO (M12_fearsOf t0 h) hc12_fearsOf (idx := 231) (w := 513) (by decide +kernel) hR (by omega) t0 ⟨by decide, rfl⟩ (vs := [vI v1]) (st := []) ⟨rfl, Nat.le_of_ble_eq_true rfl, rfl⟩ (by decide +kernel) (fun x16 I14 J15 h => ?_)
        exact gIret hO hQ (by decide +kernel) ⟨rfl, h⟩
      have h := h.2
      by_cases c17 : v2 = 7
      · have h := h.1 c17
        refine gSwIn hO (dflt := 64) (lo := 4) (hi := 8) (offs := #[34, 40, 46, 52, 58]) (len := 34) (off := 52) (tgt := 82) 7 c17 (by decide +kernel) (by decide +kernel) ?_
        refine gBk (pe := 84) hO [o0 (.aload_n 0), o0 (.iload_n 1)] (by decide +kernel) (show tWG K B 0 0 S (uI I 61 0 0) J 84 [some (vR 61), some (vI v1), some (vI v2)] [vI v1, vR 61] from ?_)
        refine gCVi_c hO (M12_pullsOf t0 h) hc12_pullsOf (idx := 234) (w := 518) (by decide +kernel) hR (by omega) t0 ⟨by decide, rfl⟩ (vs := [vI v1]) (st := []) ⟨rfl, Nat.le_of_ble_eq_true rfl, rfl⟩ (by decide +kernel) (fun x20 I18 J19 h => ?_)
        exact gIret hO hQ (by decide +kernel) ⟨rfl, h⟩
      have h := h.2
      by_cases c21 : v2 = 8
      · have h := h.1 c21
        refine gSwIn hO (dflt := 64) (lo := 4) (hi := 8) (offs := #[34, 40, 46, 52, 58]) (len := 34) (off := 58) (tgt := 88) 8 c21 (by decide +kernel) (by decide +kernel) ?_
        refine gBk (pe := 90) hO [o0 (.aload_n 0), o0 (.iload_n 1)] (by decide +kernel) (show tWG K B 0 0 S (uI I 61 0 0) J 90 [some (vR 61), some (vI v1), some (vI v2)] [vI v1, vR 61] from ?_)
        refine gCVi_c hO (M12_learnsOf t0 h) hc12_learnsOf (idx := 237) (w := 522) (by decide +kernel) hR (by omega) t0 ⟨by decide, rfl⟩ (vs := [vI v1]) (st := []) ⟨rfl, Nat.le_of_ble_eq_true rfl, rfl⟩ (by decide +kernel) (fun x24 I22 J23 h => ?_)
        exact gIret hO hQ (by decide +kernel) ⟨rfl, h⟩
      have h := h.2
      have hsw : swN 4 v2 5 := ⟨⟨⟨⟨⟨True.intro, c5⟩, c9⟩, c13⟩, c17⟩, c21⟩
      have h := h hsw
      refine gSwOut hO (dflt := 64) (lo := 4) (hi := 8) (offs := #[34, 40, 46, 52, 58]) (len := 34) (tgt := 94) (by decide +kernel) (sw_out (by decide) (by decide) hsw) (by decide) ?_
      refine gBk (pe := 97) hO [o0 (.aload_n 0), o0 (.iload_n 1), o0 (.iload_n 2)] (by decide +kernel) (show tWG K B 0 0 S (uI I 61 0 0) J 97 [some (vR 61), some (vI v1), some (vI v2)] [vI v2, vI v1, vR 61] from ?_)
      refine gCVi_p hO (M12_ofBend t0 h.1) hc12_ofBend (idx := 240) (w := 356) (by decide +kernel) hR (by omega) t0 ⟨by decide, rfl⟩ (vs := [vI v1, vI v2]) (st := []) ⟨rfl, Nat.le_of_ble_eq_true rfl, rfl⟩ (by decide +kernel) ?_
      have h := h.2
      exact gIret hO hQ (by decide +kernel) ⟨rfl, h⟩
    · have h := h.2 c4
      exact gWeak (L' := [none, none, none]) trivial (W12_at_25 hO hR hG t0 hQ h))
set_option maxRecDepth 20000 in
theorem hc12_begin : tCV yX12_begin cX12_begin 1 none 0 := ⟨⟨(List.mem_of_getElem? (i := 777) rfl), (List.mem_of_getElem? (i := 5) (by decide +kernel)), by decide +kernel⟩, (List.mem_of_getElem? (i := 775) (by decide +kernel)), (List.mem_of_getElem? (i := 776) (by decide +kernel))⟩
set_option maxRecDepth 100000 in
theorem M12_begin {l : Launch} {B : tB} {S : tSH} {I : tHI} {J : tHJ} {n : Nat} {k : tHI → tHJ → Prop} (t0 : ty S 61 12) (h : F12_begin n S I J k) : Met l yX12_begin (tWs yX12_begin cX12_begin 1 none) (tRm 4 0 0) (tPc B [vR 61] S I J) (tQv B (tPv S k)) 0 0 (tA B) :=
  tEntry (by decide +kernel) [some (vR 61)] rfl rfl (Nat.le_of_ble_eq_true rfl) (fun K hl hR hO hQ hG => by
  subst hl
  refine gBk (pe := 16) hO [o0 (.aload_n 0), oI (.iconst 0) 0, oF (.putfield 258) 12 15 778 0, o0 (.aload_n 0), oI (.iconst 0) 0, oF (.putfield 261) 12 19 766 0, o0 (.aload_n 0), oI (.iconst (-1)) (-1), oF (.putfield 38) 12 18 188 0, o0 (.aload_n 0)] (by decide +kernel) (And.intro t0 (And.intro t0 (And.intro (Or.inl rfl) (And.intro t0 (show tWG K B 0 0 S (uI (uI (uI I 61 15 0) 61 19 0) 61 18 (-1)) J 16 [some (vR 61)] [vR 61] from ?_)))))
  refine gCVv_c hO (M12_next t0 h) hc12_next (idx := 265) (w := 779) (by decide +kernel) hR (by omega) t0 ⟨by decide, rfl⟩ (vs := []) (st := []) ⟨rfl, Nat.le_of_ble_eq_true rfl, rfl⟩ (by decide +kernel) (fun I1 J2 h => ?_)
  exact gVret hO hQ (by decide +kernel) ⟨rfl, h⟩)
set_option maxRecDepth 20000 in
theorem hc12_beginText : tCV yX12_beginText cX12_beginText 2 none 1 := ⟨⟨(List.mem_of_getElem? (i := 772) rfl), (List.mem_of_getElem? (i := 5) (by decide +kernel)), by decide +kernel⟩, (List.mem_of_getElem? (i := 770) (by decide +kernel)), (List.mem_of_getElem? (i := 771) (by decide +kernel))⟩
set_option maxRecDepth 100000 in
theorem M12_beginText {l : Launch} {B : tB} {S : tSH} {I : tHI} {J : tHJ} {v1 : Int32} {n : Nat} {k : tHI → tHJ → Prop} (t0 : ty S 61 12) (h : F12_beginText n S I J v1 k) : Met l yX12_beginText (tWs yX12_beginText cX12_beginText 2 none) (tRm 5 0 0) (tPc B [vR 61, vI v1] S I J) (tQv B (tPv S k)) 0 0 (tA B) :=
  tEntry (by decide +kernel) [some (vR 61), some (vI v1)] rfl rfl (Nat.le_of_ble_eq_true rfl) (fun K hl hR hO hQ hG => by
  subst hl
  refine gBk (pe := 6) hO [o0 (.aload_n 0), o0 (.iload_n 1), oF (.putfield 340) 12 20 348 0, o0 (.aload_n 0)] (by decide +kernel) (And.intro t0 (And.intro h.1 (show tWG K B 0 0 S (uI I 61 20 v1) J 6 [some (vR 61), some (vI v1)] [vR 61] from ?_)))
  have h := h.2
  refine gCVv_c hO (M12_begin t0 h) hc12_begin (idx := 393) (w := 774) (by decide +kernel) hR (by omega) t0 ⟨by decide, rfl⟩ (vs := []) (st := []) ⟨rfl, Nat.le_of_ble_eq_true rfl, rfl⟩ (by decide +kernel) (fun I1 J2 h => ?_)
  refine gBk (pe := 24) hO [o0 (.aload_n 0), oI (.iconst 0) 0, oF (.putfield 396) 12 21 767 0, o0 (.aload_n 0), oI (.iconst 0) 0, oF (.putfield 300) 12 23 768 0, o0 (.aload_n 0), oI (.iconst 0) 0, oF (.putfield 331) 12 26 773 0] (by decide +kernel) (And.intro t0 (And.intro t0 (And.intro t0 (show tWG K B 0 0 S (uI (uI (uI I1 61 21 0) 61 23 0) 61 26 0) J2 24 [some (vR 61), some (vI v1)] [] from ?_))))
  exact gVret hO hQ (by decide +kernel) ⟨rfl, h⟩)
set_option maxRecDepth 100000 in
theorem W12_law_145 {K : tK} {B : tB} {S : tSH} {MC MS : Nat} (hO : tKO K B RX12 cX12_law 3) (hR : kR K = tRm 10 MC MS) (hG : tGr S) {n : Nat} (t0 : ty S 61 12) {k : Int32 → tHI → tHJ → Prop} (hQ : tRet K B (tQi B (tPi S k)) 0 0 (some .int)) {kb145 : tHI → tHJ → Int32 → Int32 → Prop} (hkb145 : ∀ (I : tHI) (J : tHJ) (v1 : Int32) (v2 : Int32), kb145 I J v1 v2 → tWG K B 0 0 S I J 145 [some (vR 61), some (vI v1), some (vI v2)] []) {I : tHI} {J : tHJ} {v1 : Int32} {v2 : Int32} (h : F12_law_145 n S k kb145 I J v1 v2) : tWG K B 0 0 S I J 145 [some (vR 61), some (vI v1), some (vI v2)] [] := by
  refine gBk (pe := 150) hO [o0 (.iload_n 2), o0 (.aload_n 0), oF (.getfield 300) 12 23 768 0] (by decide +kernel) (And.intro t0 (show tWG K B 0 0 S I J 150 [some (vR 61), some (vI v1), some (vI v2)] [vI (I 61 23), vI v2] from ?_))
  refine gIcGe hO (off := 49) (tgt := 199) (by decide +kernel) (by decide) (fun c11 => ?_) (fun c11 => ?_)
  · have h := h.1 c11
    refine gBk (pe := 218) hO [o0 (.aload_n 0), oF (.getfield 13) 12 3 179 63, oI (.iconst 3) 3, o0 .dup2, o0 .iaload, oI (.iconst 1) 1, o0 .iadd, o0 .iastore, o0 (.aload_n 0), o0 (.aload_n 0), oF (.getfield 13) 12 3 179 63, oI (.iconst 3) 3, o0 .iaload, oI (.iconst 1) 1, o0 .isub] (by decide +kernel) (And.intro t0 (And.intro rfl (And.intro (tGr.off hG t0 (k := 3) rfl) (And.intro (tin (tGr.len hG t0 (k := 3) rfl (by decide)) (tvi (by decide +kernel))) (And.intro (tGr.off hG t0 (k := 3) rfl) (And.intro (tin (tGr.len hG t0 (k := 3) rfl (by decide)) (tvi (by decide +kernel))) (And.intro t0 (And.intro rfl (And.intro (tGr.off hG t0 (k := 3) rfl) (And.intro (tin (tGr.len hG t0 (k := 3) rfl (by decide)) (tvi (by decide +kernel))) (show tWG K B 0 0 S (uI I 63 3 ((I 63 3) + 1)) J 218 [some (vR 61), some (vI v1), some (vI v2)] [vI (((uI I 63 3 ((I 63 3) + 1)) 63 3) - 1), vR 61] from ?_)))))))))))
    refine gCVi_c hO (M12_tell t0 h) hc12_tell (idx := 170) (w := 322) (by decide +kernel) hR (by omega) t0 ⟨by decide, rfl⟩ (vs := [vI (((uI I 63 3 ((I 63 3) + 1)) 63 3) - 1)]) (st := []) ⟨rfl, Nat.le_of_ble_eq_true rfl, rfl⟩ (by decide +kernel) (fun x14 I12 J13 h => ?_)
    exact gIret hO hQ (by decide +kernel) ⟨rfl, h⟩
  · have h := h.2 c11
    refine gBk (pe := 145) hO [o0 (.aload_n 0), oF (.getfield 13) 12 3 179 63, o0 (.iload_n 1), oI (.bipush 98) 98, o0 .iadd, oI (.iconst 2) 2, o0 (.iload_n 2), o0 .imul, o0 .iadd, o0 (.aload_n 0), oF (.getfield 45) 12 24 190 72, o0 (.iload_n 2), o0 .iaload, o0 .iastore, o0 (.aload_n 0), oF (.getfield 13) 12 3 179 63, o0 (.iload_n 1), oI (.bipush 98) 98, o0 .iadd, oI (.iconst 2) 2, o0 (.iload_n 2), o0 .imul, o0 .iadd, oI (.iconst 1) 1, o0 .iadd, o0 (.aload_n 0), oF (.getfield 48) 12 25 191 73, o0 (.iload_n 2), o0 .iaload, o0 .iastore, oI (.iinc 2 1) 1, o0 (.goto (-51))] (by decide +kernel) (And.intro t0 (And.intro rfl (And.intro t0 (And.intro rfl (And.intro (tGr.off hG t0 (k := 24) rfl) (And.intro (tin (tGr.len hG t0 (k := 24) rfl (by decide)) h.1) (And.intro (tGr.off hG t0 (k := 3) rfl) (And.intro (tin (tGr.len hG t0 (k := 3) rfl (by decide)) h.2.1) (And.intro t0 (And.intro rfl (And.intro t0 (And.intro rfl (And.intro (tGr.off hG t0 (k := 25) rfl) (And.intro (tin (tGr.len hG t0 (k := 25) rfl (by decide)) h.2.2.1) (And.intro (tGr.off hG t0 (k := 3) rfl) (And.intro (tin (tGr.len hG t0 (k := 3) rfl (by decide)) h.2.2.2.1) (show tWG K B 0 0 S (uI (uI I 63 ((v1 + 98) + (2 * v2)).toNatClampNeg (I 72 v2.toNatClampNeg)) 63 (((v1 + 98) + (2 * v2)) + 1).toNatClampNeg ((uI I 63 ((v1 + 98) + (2 * v2)).toNatClampNeg (I 72 v2.toNatClampNeg)) 73 v2.toNatClampNeg)) J 145 [some (vR 61), some (vI v1), some (vI (v2 + 1))] [] from ?_)))))))))))))))))
    have h := h.2.2.2.2
    exact hkb145 _ _ _ _ h
theorem W12_law_L145 {K : tK} {B : tB} {S : tSH} {MC MS : Nat} (hO : tKO K B RX12 cX12_law 3) (hR : kR K = tRm 10 MC MS) (hG : tGr S) {n : Nat} (t0 : ty S 61 12) {k : Int32 → tHI → tHJ → Prop} (hQ : tRet K B (tQi B (tPi S k)) 0 0 (some .int)) : ∀ (f : Nat) (I : tHI) (J : tHJ) (v1 : Int32) (v2 : Int32), F12_law_L145 n S k f I J v1 v2 → tWG K B 0 0 S I J 145 [some (vR 61), some (vI v1), some (vI v2)] [] := by
  intro f
  induction f with
  | zero => intro I J v1 v2 h; exact h.elim
  | succ f ih => intro I J v1 v2 h; exact W12_law_145 hO hR hG t0 hQ ih h
set_option maxRecDepth 100000 in
theorem W12_law_110 {K : tK} {B : tB} {S : tSH} {MC MS : Nat} (hO : tKO K B RX12 cX12_law 3) (hR : kR K = tRm 10 MC MS) (hG : tGr S) {n : Nat} (t0 : ty S 61 12) {k : Int32 → tHI → tHJ → Prop} (hQ : tRet K B (tQi B (tPi S k)) 0 0 (some .int)) {kb110 : tHI → tHJ → Int32 → Int32 → Prop} (hkb110 : ∀ (I : tHI) (J : tHJ) (v1 : Int32) (v2 : Int32), kb110 I J v1 v2 → tWG K B 0 0 S I J 110 [some (vR 61), some (vI v1), some (vI v2)] []) {I : tHI} {J : tHJ} {v1 : Int32} {v2 : Int32} (h : F12_law_110 n S k kb110 I J v1 v2) : tWG K B 0 0 S I J 110 [some (vR 61), some (vI v1), some (vI v2)] [] := by
  refine gBk (pe := 118) hO [o0 (.iload_n 2), oI (.bipush 8) 8, o0 (.aload_n 0), oF (.getfield 396) 12 21 767 0, o0 .imul] (by decide +kernel) (And.intro t0 (show tWG K B 0 0 S I J 118 [some (vR 61), some (vI v1), some (vI v2)] [vI (8 * (I 61 21)), vI v2] from ?_))
  refine gIcGe hO (off := 25) (tgt := 143) (by decide +kernel) (by decide) (fun c10 => ?_) (fun c10 => ?_)
  · have h := h.1 c10
    refine gBk (pe := 145) hO [oI (.iconst 0) 0, o0 (.istore_n 2)] (by decide +kernel) (And.intro (Nat.le_of_ble_eq_true rfl) (show tWG K B 0 0 S I J 145 [some (vR 61), some (vI v1), some (vI 0)] [] from ?_))
    exact W12_law_L145 hO hR hG t0 hQ n _ _ _ _ h
  · have h := h.2 c10
    refine gBk (pe := 110) hO [o0 (.aload_n 0), oF (.getfield 13) 12 3 179 63, o0 (.iload_n 1), oI (.iconst 2) 2, o0 .iadd, o0 (.iload_n 2), o0 .iadd, o0 (.aload_n 0), oF (.getfield 42) 12 22 189 71, o0 (.iload_n 2), o0 .iaload, o0 .iastore, oI (.iinc 2 1) 1, o0 (.goto (-30))] (by decide +kernel) (And.intro t0 (And.intro rfl (And.intro t0 (And.intro rfl (And.intro (tGr.off hG t0 (k := 22) rfl) (And.intro (tin (tGr.len hG t0 (k := 22) rfl (by decide)) h.1) (And.intro (tGr.off hG t0 (k := 3) rfl) (And.intro (tin (tGr.len hG t0 (k := 3) rfl (by decide)) h.2.1) (show tWG K B 0 0 S (uI I 63 ((v1 + 2) + v2).toNatClampNeg (I 71 v2.toNatClampNeg)) J 110 [some (vR 61), some (vI v1), some (vI (v2 + 1))] [] from ?_)))))))))
    have h := h.2.2
    exact hkb110 _ _ _ _ h
theorem W12_law_L110 {K : tK} {B : tB} {S : tSH} {MC MS : Nat} (hO : tKO K B RX12 cX12_law 3) (hR : kR K = tRm 10 MC MS) (hG : tGr S) {n : Nat} (t0 : ty S 61 12) {k : Int32 → tHI → tHJ → Prop} (hQ : tRet K B (tQi B (tPi S k)) 0 0 (some .int)) : ∀ (f : Nat) (I : tHI) (J : tHJ) (v1 : Int32) (v2 : Int32), F12_law_L110 n S k f I J v1 v2 → tWG K B 0 0 S I J 110 [some (vR 61), some (vI v1), some (vI v2)] [] := by
  intro f
  induction f with
  | zero => intro I J v1 v2 h; exact h.elim
  | succ f ih => intro I J v1 v2 h; exact W12_law_110 hO hR hG t0 hQ ih h
set_option maxRecDepth 100000 in
theorem W12_law_64 {K : tK} {B : tB} {S : tSH} {MC MS : Nat} (hO : tKO K B RX12 cX12_law 3) (hR : kR K = tRm 10 MC MS) (hG : tGr S) {n : Nat} (t0 : ty S 61 12) {k : Int32 → tHI → tHJ → Prop} (hQ : tRet K B (tQi B (tPi S k)) 0 0 (some .int)) {I : tHI} {J : tHJ} (h : F12_law_64 n S k I J) : tWG K B 0 0 S I J 64 [some (vR 61), none, none] [] := by
  refine gBk (pe := 65) hO [o0 (.aload_n 0)] (by decide +kernel) (show tWG K B 0 0 S I J 65 [some (vR 61), none, none] [vR 61] from ?_)
  refine gCVv_c hO (M12_endText t0 h) hc12_endText (idx := 410) (w := 887) (by decide +kernel) hR (by omega) t0 ⟨by decide, rfl⟩ (vs := []) (st := []) ⟨rfl, Nat.le_of_ble_eq_true rfl, rfl⟩ (by decide +kernel) (fun I7 J8 h => ?_)
  refine gBk (pe := 72) hO [o0 (.aload_n 0), oF (.getfield 261) 12 19 766 0] (by decide +kernel) (And.intro t0 (show tWG K B 0 0 S I7 J8 72 [some (vR 61), none, none] [vI (I7 61 19)] from ?_))
  refine gIfEq hO (off := 10) (tgt := 82) (by decide +kernel) (by decide) (fun c9 => ?_) (fun c9 => ?_)
  · have h := h.1 c9
    refine gBk (pe := 110) hO [oI (.bipush 110) 110, oI (.sipush 900) 900, o0 (.aload_n 0), oF (.getfield 13) 12 3 179 63, oI (.iconst 3) 3, o0 .iaload, o0 .imul, o0 .iadd, o0 (.istore_n 1), o0 (.aload_n 0), oF (.getfield 13) 12 3 179 63, o0 (.iload_n 1), oI (.iconst 1) 1, o0 .iadd, o0 (.aload_n 0), oF (.getfield 396) 12 21 767 0, o0 .iastore, oI (.iconst 0) 0, o0 (.istore_n 2)] (by decide +kernel) (And.intro t0 (And.intro rfl (And.intro (tGr.off hG t0 (k := 3) rfl) (And.intro (tin (tGr.len hG t0 (k := 3) rfl (by decide)) (tvi (by decide +kernel))) (And.intro (Nat.le_of_ble_eq_true rfl) (And.intro t0 (And.intro rfl (And.intro t0 (And.intro (tGr.off hG t0 (k := 3) rfl) (And.intro (tin (tGr.len hG t0 (k := 3) rfl (by decide)) h.1) (And.intro (Nat.le_of_ble_eq_true rfl) (show tWG K B 0 0 S (uI I7 63 ((110 + (900 * (I7 63 3))) + 1).toNatClampNeg (I7 61 21)) J8 110 [some (vR 61), some (vI (110 + (900 * (I7 63 3)))), some (vI 0)] [] from ?_))))))))))))
    have h := h.2
    exact W12_law_L110 hO hR hG t0 hQ n _ _ _ _ h
  · have h := h.2 c9
    refine gBk (pe := 78) hO [o0 (.aload_n 0), oI (.bipush (-6)) (-6)] (by decide +kernel) (show tWG K B 0 0 S I7 J8 78 [some (vR 61), none, none] [vI (-6), vR 61] from ?_)
    refine gCVi_c hO (M12_tell t0 h) hc12_tell (idx := 170) (w := 322) (by decide +kernel) hR (by omega) t0 ⟨by decide, rfl⟩ (vs := [vI (-6)]) (st := []) ⟨rfl, Nat.le_of_ble_eq_true rfl, rfl⟩ (by decide +kernel) (fun x17 I15 J16 h => ?_)
    exact gIret hO hQ (by decide +kernel) ⟨rfl, h⟩
set_option maxRecDepth 100000 in
theorem W12_law_37 {K : tK} {B : tB} {S : tSH} {MC MS : Nat} (hO : tKO K B RX12 cX12_law 3) (hR : kR K = tRm 10 MC MS) (hG : tGr S) {n : Nat} (t0 : ty S 61 12) {k : Int32 → tHI → tHJ → Prop} (hQ : tRet K B (tQi B (tPi S k)) 0 0 (some .int)) {kb37 : tHI → tHJ → Prop} (hkb37 : ∀ (I : tHI) (J : tHJ) , kb37 I J  → tWG K B 0 0 S I J 37 [some (vR 61), none, none] []) {I : tHI} {J : tHJ} (h : F12_law_37 n S k kb37 I J) : tWG K B 0 0 S I J 37 [some (vR 61), none, none] [] := by
  refine gBk (pe := 41) hO [o0 (.aload_n 0), oF (.getfield 261) 12 19 766 0] (by decide +kernel) (And.intro t0 (show tWG K B 0 0 S I J 41 [some (vR 61), none, none] [vI (I 61 19)] from ?_))
  refine gIfNe hO (off := 23) (tgt := 64) (by decide +kernel) (by decide) (fun c6 => ?_) (fun c6 => ?_)
  · have h := h.1 c6
    exact W12_law_64 hO hR hG t0 hQ h
  · have h := h.2 c6
    refine gBk (pe := 47) hO [o0 (.aload_n 0), oI (.bipush 59) 59] (by decide +kernel) (show tWG K B 0 0 S I J 47 [some (vR 61), none, none] [vI 59, vR 61] from ?_)
    refine gCVi_z hO (M12_isSign t0) hc12_isSign (idx := 334) (w := 824) (by decide +kernel) hR (by omega) t0 ⟨by decide, rfl⟩ (vs := [vI 59]) (st := []) ⟨rfl, Nat.le_of_ble_eq_true rfl, rfl⟩ (by decide +kernel) (fun z18 => ?_)
    refine gIfEq hO (off := 14) (tgt := 64) (by decide +kernel) (by decide) (fun c19 => ?_) (fun c19 => ?_)
    · have h := h.1 c19
      exact W12_law_64 hO hR hG t0 hQ h
    · have h := h.2 c19
      refine gBk (pe := 54) hO [o0 (.aload_n 0)] (by decide +kernel) (show tWG K B 0 0 S I J 54 [some (vR 61), none, none] [vR 61] from ?_)
      refine gCVv_c hO (M12_next t0 h) hc12_next (idx := 265) (w := 779) (by decide +kernel) hR (by omega) t0 ⟨by decide, rfl⟩ (vs := []) (st := []) ⟨rfl, Nat.le_of_ble_eq_true rfl, rfl⟩ (by decide +kernel) (fun I20 J21 h => ?_)
      refine gBk (pe := 58) hO [o0 (.aload_n 0)] (by decide +kernel) (show tWG K B 0 0 S I20 J21 58 [some (vR 61), none, none] [vR 61] from ?_)
      refine gCVv_c hO (M12_readLaw t0 h) hc12_readLaw (idx := 407) (w := 796) (by decide +kernel) hR (by omega) t0 ⟨by decide, rfl⟩ (vs := []) (st := []) ⟨rfl, Nat.le_of_ble_eq_true rfl, rfl⟩ (by decide +kernel) (fun I22 J23 h => ?_)
      refine gBk (pe := 37) hO [o0 (.goto (-24))] (by decide +kernel) (show tWG K B 0 0 S I22 J23 37 [some (vR 61), none, none] [] from ?_)
      exact hkb37 _ _ h
theorem W12_law_L37 {K : tK} {B : tB} {S : tSH} {MC MS : Nat} (hO : tKO K B RX12 cX12_law 3) (hR : kR K = tRm 10 MC MS) (hG : tGr S) {n : Nat} (t0 : ty S 61 12) {k : Int32 → tHI → tHJ → Prop} (hQ : tRet K B (tQi B (tPi S k)) 0 0 (some .int)) : ∀ (f : Nat) (I : tHI) (J : tHJ) , F12_law_L37 n S k f I J  → tWG K B 0 0 S I J 37 [some (vR 61), none, none] [] := by
  intro f
  induction f with
  | zero => intro I J  h; exact h.elim
  | succ f ih => intro I J  h; exact W12_law_37 hO hR hG t0 hQ ih h
set_option maxRecDepth 20000 in
theorem hc12_law : tCV yX12_law cX12_law 3 (some .int) 0 := ⟨⟨(List.mem_of_getElem? (i := 765) rfl), (List.mem_of_getElem? (i := 5) (by decide +kernel)), by decide +kernel⟩, (List.mem_of_getElem? (i := 763) (by decide +kernel)), (List.mem_of_getElem? (i := 764) (by decide +kernel))⟩
set_option maxRecDepth 100000 in
theorem M12_law {l : Launch} {B : tB} {S : tSH} {I : tHI} {J : tHJ} {n : Nat} {k : Int32 → tHI → tHJ → Prop} (t0 : ty S 61 12) (h : F12_law n S I J k) : Met l yX12_law (tWs yX12_law cX12_law 3 (some .int)) (tRm 10 0 0) (tPc B [vR 61] S I J) (tQi B (tPi S k)) 0 0 (tA B) :=
  tEntry (by decide +kernel) [some (vR 61), none, none] rfl rfl (Nat.le_of_ble_eq_true rfl) (fun K hl hR hO hQ hG => by
  subst hl
  refine gBk (pe := 13) hO [o0 (.aload_n 0), oI (.iconst 0) 0, oF (.putfield 161) 12 0 316 0, o0 (.aload_n 0), oF (.getfield 13) 12 3 179 63, oI (.iconst 3) 3, o0 .iaload, oI (.bipush 6) 6] (by decide +kernel) (And.intro t0 (And.intro t0 (And.intro rfl (And.intro (tGr.off hG t0 (k := 3) rfl) (And.intro (tin (tGr.len hG t0 (k := 3) rfl (by decide)) (tvi (by decide +kernel))) (show tWG K B 0 0 S (uI I 61 0 0) J 13 [some (vR 61), none, none] [vI 6, vI ((uI I 61 0 0) 63 3)] from ?_))))))
  refine gIcNe hO (off := 15) (tgt := 28) (by decide +kernel) (by decide) (fun c1 => ?_) (fun c1 => ?_)
  · have h := h.1 c1
    refine gBk (pe := 30) hO [o0 (.aload_n 0), oI (.iconst 0) 0] (by decide +kernel) (show tWG K B 0 0 S (uI I 61 0 0) J 30 [some (vR 61), none, none] [vI 0, vR 61] from ?_)
    refine gCVv_c hO (M12_beginText t0 h) hc12_beginText (idx := 404) (w := 769) (by decide +kernel) hR (by omega) t0 ⟨by decide, rfl⟩ (vs := [vI 0]) (st := []) ⟨rfl, Nat.le_of_ble_eq_true rfl, rfl⟩ (by decide +kernel) (fun I2 J3 h => ?_)
    refine gBk (pe := 34) hO [o0 (.aload_n 0)] (by decide +kernel) (show tWG K B 0 0 S I2 J3 34 [some (vR 61), none, none] [vR 61] from ?_)
    refine gCVv_c hO (M12_readLaw t0 h) hc12_readLaw (idx := 407) (w := 796) (by decide +kernel) hR (by omega) t0 ⟨by decide, rfl⟩ (vs := []) (st := []) ⟨rfl, Nat.le_of_ble_eq_true rfl, rfl⟩ (by decide +kernel) (fun I4 J5 h => ?_)
    exact W12_law_L37 hO hR hG t0 hQ n _ _ h
  · have h := h.2 c1
    refine gBk (pe := 24) hO [o0 (.aload_n 0), oI (.iconst 0) 0, oF (.putfield 249) 12 13 568 0, o0 (.aload_n 0), oI (.bipush (-5)) (-5)] (by decide +kernel) (And.intro t0 (show tWG K B 0 0 S (uI (uI I 61 0 0) 61 13 0) J 24 [some (vR 61), none, none] [vI (-5), vR 61] from ?_))
    refine gCVi_c hO (M12_tell t0 h) hc12_tell (idx := 170) (w := 322) (by decide +kernel) hR (by omega) t0 ⟨by decide, rfl⟩ (vs := [vI (-5)]) (st := []) ⟨rfl, Nat.le_of_ble_eq_true rfl, rfl⟩ (by decide +kernel) (fun x26 I24 J25 h => ?_)
    exact gIret hO hQ (by decide +kernel) ⟨rfl, h⟩)
set_option maxRecDepth 100000 in
theorem W12_orders_150 {K : tK} {B : tB} {S : tSH} {MC MS : Nat} (hO : tKO K B RX12 cX12_orders 4) (hR : kR K = tRm 13 MC MS) (hG : tGr S) {n : Nat} (t0 : ty S 61 12) {k : Int32 → tHI → tHJ → Prop} (hQ : tRet K B (tQi B (tPi S k)) 0 0 (some .int)) {kb140 : tHI → tHJ → Int32 → Int32 → Prop} (hkb140 : ∀ (I : tHI) (J : tHJ) (v1 : Int32) (v2 : Int32), kb140 I J v1 v2 → tWG K B 0 0 S I J 140 [some (vR 61), some (vI v1), some (vI v2), none] []) {kb150 : tHI → tHJ → Int32 → Int32 → Int32 → Prop} (hkb150 : ∀ (I : tHI) (J : tHJ) (v1 : Int32) (v2 : Int32) (v3 : Int32), kb150 I J v1 v2 v3 → tWG K B 0 0 S I J 150 [some (vR 61), some (vI v1), some (vI v2), some (vI v3)] []) {I : tHI} {J : tHJ} {v1 : Int32} {v2 : Int32} {v3 : Int32} (h : F12_orders_150 n S k kb140 kb150 I J v1 v2 v3) : tWG K B 0 0 S I J 150 [some (vR 61), some (vI v1), some (vI v2), some (vI v3)] [] := by
  refine gBk (pe := 163) hO [o0 (.iload_n 3), o0 (.aload_n 0), oF (.getfield 152) 12 50 235 87, oI (.bipush 8) 8, o0 (.iload_n 2), o0 .imul, oI (.bipush 7) 7, o0 .iadd, o0 .iaload] (by decide +kernel) (And.intro t0 (And.intro rfl (And.intro (tGr.off hG t0 (k := 50) rfl) (And.intro (tin (tGr.len hG t0 (k := 50) rfl (by decide)) h.1) (show tWG K B 0 0 S I J 163 [some (vR 61), some (vI v1), some (vI v2), some (vI v3)] [vI (I 87 ((8 * v2) + 7).toNatClampNeg), vI v3] from ?_)))))
  have h := h.2
  refine gIcGe hO (off := 37) (tgt := 200) (by decide +kernel) (by decide) (fun c17 => ?_) (fun c17 => ?_)
  · have h := h.1 c17
    refine gBk (pe := 140) hO [oI (.iinc 2 1) 1, o0 (.goto (-63))] (by decide +kernel) (show tWG K B 0 0 S I J 140 [some (vR 61), some (vI v1), some (vI (v2 + 1)), some (vI v3)] [] from ?_)
    exact gWeak (L' := [some (vR 61), some (vI v1), some (vI (v2 + 1)), none]) ⟨rfl, rfl, rfl, trivial⟩ (hkb140 _ _ _ _ h)
  · have h := h.2 c17
    refine gBk (pe := 171) hO [o0 (.aload_n 0), oI (.bipush 8) 8, o0 (.iload_n 2), o0 .imul] (by decide +kernel) (show tWG K B 0 0 S I J 171 [some (vR 61), some (vI v1), some (vI v2), some (vI v3)] [vI (8 * v2), vR 61] from ?_)
    refine gCVi_c hO (M12_run t0 h) hc12_run (idx := 570) (w := 1001) (by decide +kernel) hR (by omega) t0 ⟨by decide, rfl⟩ (vs := [vI (8 * v2)]) (st := []) ⟨rfl, Nat.le_of_ble_eq_true rfl, rfl⟩ (by decide +kernel) (fun x20 I18 J19 h => ?_)
    refine gIfGe hO (off := 20) (tgt := 194) (by decide +kernel) (by decide) (fun c21 => ?_) (fun c21 => ?_)
    · have h := h.1 c21
      refine gBk (pe := 150) hO [oI (.iinc 3 1) 1, o0 (.goto (-47))] (by decide +kernel) (show tWG K B 0 0 S I18 J19 150 [some (vR 61), some (vI v1), some (vI v2), some (vI (v3 + 1))] [] from ?_)
      exact hkb150 _ _ _ _ _ h
    · have h := h.2 c21
      refine gBk (pe := 179) hO [o0 (.aload_n 0), o0 (.iload_n 1)] (by decide +kernel) (show tWG K B 0 0 S I18 J19 179 [some (vR 61), some (vI v1), some (vI v2), some (vI v3)] [vI v1, vR 61] from ?_)
      refine gCVv_c hO (M12_giveBack t0 h) hc12_giveBack (idx := 573) (w := 1062) (by decide +kernel) hR (by omega) t0 ⟨by decide, rfl⟩ (vs := [vI v1]) (st := []) ⟨rfl, Nat.le_of_ble_eq_true rfl, rfl⟩ (by decide +kernel) (fun I22 J23 h => ?_)
      refine gBk (pe := 190) hO [o0 (.aload_n 0), o0 (.iload_n 2), oF (.putfield 155) 12 53 236 0, o0 (.aload_n 0), oI (.bipush (-3)) (-3)] (by decide +kernel) (And.intro t0 (show tWG K B 0 0 S (uI I22 61 53 v2) J23 190 [some (vR 61), some (vI v1), some (vI v2), some (vI v3)] [vI (-3), vR 61] from ?_))
      refine gCVi_c hO (M12_tell t0 h) hc12_tell (idx := 170) (w := 322) (by decide +kernel) hR (by omega) t0 ⟨by decide, rfl⟩ (vs := [vI (-3)]) (st := []) ⟨rfl, Nat.le_of_ble_eq_true rfl, rfl⟩ (by decide +kernel) (fun x26 I24 J25 h => ?_)
      exact gIret hO hQ (by decide +kernel) ⟨rfl, h⟩
theorem W12_orders_L150 {K : tK} {B : tB} {S : tSH} {MC MS : Nat} (hO : tKO K B RX12 cX12_orders 4) (hR : kR K = tRm 13 MC MS) (hG : tGr S) {n : Nat} (t0 : ty S 61 12) {k : Int32 → tHI → tHJ → Prop} (hQ : tRet K B (tQi B (tPi S k)) 0 0 (some .int)) {kb140 : tHI → tHJ → Int32 → Int32 → Prop} (hkb140 : ∀ (I : tHI) (J : tHJ) (v1 : Int32) (v2 : Int32), kb140 I J v1 v2 → tWG K B 0 0 S I J 140 [some (vR 61), some (vI v1), some (vI v2), none] []) : ∀ (f : Nat) (I : tHI) (J : tHJ) (v1 : Int32) (v2 : Int32) (v3 : Int32), F12_orders_L150 n S k kb140 f I J v1 v2 v3 → tWG K B 0 0 S I J 150 [some (vR 61), some (vI v1), some (vI v2), some (vI v3)] [] := by
  intro f
  induction f with
  | zero => intro I J v1 v2 v3 h; exact h.elim
  | succ f ih => intro I J v1 v2 v3 h; exact W12_orders_150 hO hR hG t0 hQ hkb140 ih h
set_option maxRecDepth 100000 in
theorem W12_orders_140 {K : tK} {B : tB} {S : tSH} {MC MS : Nat} (hO : tKO K B RX12 cX12_orders 4) (hR : kR K = tRm 13 MC MS) (hG : tGr S) {n : Nat} (t0 : ty S 61 12) {k : Int32 → tHI → tHJ → Prop} (hQ : tRet K B (tQi B (tPi S k)) 0 0 (some .int)) {kb140 : tHI → tHJ → Int32 → Int32 → Prop} (hkb140 : ∀ (I : tHI) (J : tHJ) (v1 : Int32) (v2 : Int32), kb140 I J v1 v2 → tWG K B 0 0 S I J 140 [some (vR 61), some (vI v1), some (vI v2), none] []) {I : tHI} {J : tHJ} {v1 : Int32} {v2 : Int32} (h : F12_orders_140 n S k kb140 I J v1 v2) : tWG K B 0 0 S I J 140 [some (vR 61), some (vI v1), some (vI v2), none] [] := by
  refine gBk (pe := 145) hO [o0 (.iload_n 2), o0 (.aload_n 0), oF (.getfield 396) 12 21 767 0] (by decide +kernel) (And.intro t0 (show tWG K B 0 0 S I J 145 [some (vR 61), some (vI v1), some (vI v2), none] [vI (I 61 21), vI v2] from ?_))
  refine gIcGe hO (off := 61) (tgt := 206) (by decide +kernel) (by decide) (fun c13 => ?_) (fun c13 => ?_)
  · have h := h.1 c13
    refine gBk (pe := 211) hO [o0 (.aload_n 0), o0 (.aload_n 0), oF (.getfield 555) 12 51 984 0] (by decide +kernel) (And.intro t0 (show tWG K B 0 0 S I J 211 [some (vR 61), some (vI v1), some (vI v2), none] [vI (I 61 51), vR 61] from ?_))
    refine gCVi_c hO (M12_tell t0 h) hc12_tell (idx := 170) (w := 322) (by decide +kernel) hR (by omega) t0 ⟨by decide, rfl⟩ (vs := [vI (I 61 51)]) (st := []) ⟨rfl, Nat.le_of_ble_eq_true rfl, rfl⟩ (by decide +kernel) (fun x16 I14 J15 h => ?_)
    exact gIret hO hQ (by decide +kernel) ⟨rfl, h⟩
  · have h := h.2 c13
    refine gBk (pe := 150) hO [oI (.iconst 0) 0, o0 (.istore_n 3)] (by decide +kernel) (And.intro (Nat.le_of_ble_eq_true rfl) (show tWG K B 0 0 S I J 150 [some (vR 61), some (vI v1), some (vI v2), some (vI 0)] [] from ?_))
    exact W12_orders_L150 hO hR hG t0 hQ hkb140 n _ _ _ _ _ h
theorem W12_orders_L140 {K : tK} {B : tB} {S : tSH} {MC MS : Nat} (hO : tKO K B RX12 cX12_orders 4) (hR : kR K = tRm 13 MC MS) (hG : tGr S) {n : Nat} (t0 : ty S 61 12) {k : Int32 → tHI → tHJ → Prop} (hQ : tRet K B (tQi B (tPi S k)) 0 0 (some .int)) : ∀ (f : Nat) (I : tHI) (J : tHJ) (v1 : Int32) (v2 : Int32), F12_orders_L140 n S k f I J v1 v2 → tWG K B 0 0 S I J 140 [some (vR 61), some (vI v1), some (vI v2), none] [] := by
  intro f
  induction f with
  | zero => intro I J v1 v2 h; exact h.elim
  | succ f ih => intro I J v1 v2 h; exact W12_orders_140 hO hR hG t0 hQ ih h
set_option maxRecDepth 100000 in
theorem W12_orders_104 {K : tK} {B : tB} {S : tSH} {MC MS : Nat} (hO : tKO K B RX12 cX12_orders 4) (hR : kR K = tRm 13 MC MS) (hG : tGr S) {n : Nat} (t0 : ty S 61 12) {k : Int32 → tHI → tHJ → Prop} (hQ : tRet K B (tQi B (tPi S k)) 0 0 (some .int)) {kb104 : tHI → tHJ → Int32 → Int32 → Prop} (hkb104 : ∀ (I : tHI) (J : tHJ) (v1 : Int32) (v2 : Int32), kb104 I J v1 v2 → tWG K B 0 0 S I J 104 [some (vR 61), some (vI v1), some (vI v2), none] []) {I : tHI} {J : tHJ} {v1 : Int32} {v2 : Int32} (h : F12_orders_104 n S k kb104 I J v1 v2) : tWG K B 0 0 S I J 104 [some (vR 61), some (vI v1), some (vI v2), none] [] := by
  refine gBk (pe := 107) hO [o0 (.iload_n 2), oI (.bipush 16) 16] (by decide +kernel) (show tWG K B 0 0 S I J 107 [some (vR 61), some (vI v1), some (vI v2), none] [vI 16, vI v2] from ?_)
  refine gIcGe hO (off := 21) (tgt := 128) (by decide +kernel) (by decide) (fun c12 => ?_) (fun c12 => ?_)
  · have h := h.1 c12
    refine gBk (pe := 140) hO [o0 (.aload_n 0), oI (.iconst 0) 0, oF (.putfield 555) 12 51 984 0, o0 (.aload_n 0), oI (.iconst (-1)) (-1), oF (.putfield 558) 12 52 985 0, oI (.iconst 0) 0, o0 (.istore_n 2)] (by decide +kernel) (And.intro t0 (And.intro t0 (And.intro (Nat.le_of_ble_eq_true rfl) (show tWG K B 0 0 S (uI (uI I 61 51 0) 61 52 (-1)) J 140 [some (vR 61), some (vI v1), some (vI 0), none] [] from ?_))))
    exact W12_orders_L140 hO hR hG t0 hQ n _ _ _ _ h
  · have h := h.2 c12
    refine gBk (pe := 104) hO [o0 (.aload_n 0), oF (.getfield 32) 12 10 186 69, o0 (.iload_n 2), o0 (.aload_n 0), oF (.getfield 26) 12 7 184 67, o0 (.iload_n 2), o0 .iaload, o0 .iastore, oI (.iinc 2 1) 1, o0 (.goto (-21))] (by decide +kernel) (And.intro t0 (And.intro rfl (And.intro t0 (And.intro rfl (And.intro (tGr.off hG t0 (k := 7) rfl) (And.intro (tin (tGr.len hG t0 (k := 7) rfl (by decide)) h.1) (And.intro (tGr.off hG t0 (k := 10) rfl) (And.intro (tin (tGr.len hG t0 (k := 10) rfl (by decide)) h.2.1) (show tWG K B 0 0 S (uI I 69 v2.toNatClampNeg (I 67 v2.toNatClampNeg)) J 104 [some (vR 61), some (vI v1), some (vI (v2 + 1)), none] [] from ?_)))))))))
    have h := h.2.2
    exact hkb104 _ _ _ _ h
theorem W12_orders_L104 {K : tK} {B : tB} {S : tSH} {MC MS : Nat} (hO : tKO K B RX12 cX12_orders 4) (hR : kR K = tRm 13 MC MS) (hG : tGr S) {n : Nat} (t0 : ty S 61 12) {k : Int32 → tHI → tHJ → Prop} (hQ : tRet K B (tQi B (tPi S k)) 0 0 (some .int)) : ∀ (f : Nat) (I : tHI) (J : tHJ) (v1 : Int32) (v2 : Int32), F12_orders_L104 n S k f I J v1 v2 → tWG K B 0 0 S I J 104 [some (vR 61), some (vI v1), some (vI v2), none] [] := by
  intro f
  induction f with
  | zero => intro I J v1 v2 h; exact h.elim
  | succ f ih => intro I J v1 v2 h; exact W12_orders_104 hO hR hG t0 hQ ih h
set_option maxRecDepth 100000 in
theorem W12_orders_77 {K : tK} {B : tB} {S : tSH} {MC MS : Nat} (hO : tKO K B RX12 cX12_orders 4) (hR : kR K = tRm 13 MC MS) (hG : tGr S) {n : Nat} (t0 : ty S 61 12) {k : Int32 → tHI → tHJ → Prop} (hQ : tRet K B (tQi B (tPi S k)) 0 0 (some .int)) {kb77 : tHI → tHJ → Int32 → Int32 → Prop} (hkb77 : ∀ (I : tHI) (J : tHJ) (v1 : Int32) (v2 : Int32), kb77 I J v1 v2 → tWG K B 0 0 S I J 77 [some (vR 61), some (vI v1), some (vI v2), none] []) {I : tHI} {J : tHJ} {v1 : Int32} {v2 : Int32} (h : F12_orders_77 n S k kb77 I J v1 v2) : tWG K B 0 0 S I J 77 [some (vR 61), some (vI v1), some (vI v2), none] [] := by
  refine gBk (pe := 81) hO [o0 (.iload_n 2), oI (.sipush 272) 272] (by decide +kernel) (show tWG K B 0 0 S I J 81 [some (vR 61), some (vI v1), some (vI v2), none] [vI 272, vI v2] from ?_)
  refine gIcGe hO (off := 21) (tgt := 102) (by decide +kernel) (by decide) (fun c11 => ?_) (fun c11 => ?_)
  · have h := h.1 c11
    refine gBk (pe := 104) hO [oI (.iconst 0) 0, o0 (.istore_n 2)] (by decide +kernel) (And.intro (Nat.le_of_ble_eq_true rfl) (show tWG K B 0 0 S I J 104 [some (vR 61), some (vI v1), some (vI 0), none] [] from ?_))
    exact W12_orders_L104 hO hR hG t0 hQ n _ _ _ _ h
  · have h := h.2 c11
    refine gBk (pe := 77) hO [o0 (.aload_n 0), oF (.getfield 29) 12 9 185 68, o0 (.iload_n 2), o0 (.aload_n 0), oF (.getfield 23) 12 6 183 66, o0 (.iload_n 2), o0 .iaload, o0 .iastore, oI (.iinc 2 1) 1, o0 (.goto (-22))] (by decide +kernel) (And.intro t0 (And.intro rfl (And.intro t0 (And.intro rfl (And.intro (tGr.off hG t0 (k := 6) rfl) (And.intro (tin (tGr.len hG t0 (k := 6) rfl (by decide)) h.1) (And.intro (tGr.off hG t0 (k := 9) rfl) (And.intro (tin (tGr.len hG t0 (k := 9) rfl (by decide)) h.2.1) (show tWG K B 0 0 S (uI I 68 v2.toNatClampNeg (I 66 v2.toNatClampNeg)) J 77 [some (vR 61), some (vI v1), some (vI (v2 + 1)), none] [] from ?_)))))))))
    have h := h.2.2
    exact hkb77 _ _ _ _ h
theorem W12_orders_L77 {K : tK} {B : tB} {S : tSH} {MC MS : Nat} (hO : tKO K B RX12 cX12_orders 4) (hR : kR K = tRm 13 MC MS) (hG : tGr S) {n : Nat} (t0 : ty S 61 12) {k : Int32 → tHI → tHJ → Prop} (hQ : tRet K B (tQi B (tPi S k)) 0 0 (some .int)) : ∀ (f : Nat) (I : tHI) (J : tHJ) (v1 : Int32) (v2 : Int32), F12_orders_L77 n S k f I J v1 v2 → tWG K B 0 0 S I J 77 [some (vR 61), some (vI v1), some (vI v2), none] [] := by
  intro f
  induction f with
  | zero => intro I J v1 v2 h; exact h.elim
  | succ f ih => intro I J v1 v2 h; exact W12_orders_77 hO hR hG t0 hQ ih h
set_option maxRecDepth 100000 in
theorem W12_orders_46 {K : tK} {B : tB} {S : tSH} {MC MS : Nat} (hO : tKO K B RX12 cX12_orders 4) (hR : kR K = tRm 13 MC MS) (hG : tGr S) {n : Nat} (t0 : ty S 61 12) {k : Int32 → tHI → tHJ → Prop} (hQ : tRet K B (tQi B (tPi S k)) 0 0 (some .int)) {I : tHI} {J : tHJ} (h : F12_orders_46 n S k I J) : tWG K B 0 0 S I J 46 [some (vR 61), none, none, none] [] := by
  refine gBk (pe := 47) hO [o0 (.aload_n 0)] (by decide +kernel) (show tWG K B 0 0 S I J 47 [some (vR 61), none, none, none] [vR 61] from ?_)
  refine gCVv_c hO (M12_endText t0 h) hc12_endText (idx := 410) (w := 887) (by decide +kernel) hR (by omega) t0 ⟨by decide, rfl⟩ (vs := []) (st := []) ⟨rfl, Nat.le_of_ble_eq_true rfl, rfl⟩ (by decide +kernel) (fun I6 J7 h => ?_)
  refine gBk (pe := 54) hO [o0 (.aload_n 0), oF (.getfield 261) 12 19 766 0] (by decide +kernel) (And.intro t0 (show tWG K B 0 0 S I6 J7 54 [some (vR 61), none, none, none] [vI (I6 61 19)] from ?_))
  refine gIfEq hO (off := 10) (tgt := 64) (by decide +kernel) (by decide) (fun c8 => ?_) (fun c8 => ?_)
  · have h := h.1 c8
    refine gBk (pe := 67) hO [o0 (.aload_n 0), oI (.bipush 17) 17] (by decide +kernel) (show tWG K B 0 0 S I6 J7 67 [some (vR 61), none, none, none] [vI 17, vR 61] from ?_)
    refine gCVv_c hO (M12_keepAll t0 h) hc12_keepAll (idx := 174) (w := 997) (by decide +kernel) hR (by omega) t0 ⟨by decide, rfl⟩ (vs := [vI 17]) (st := []) ⟨rfl, Nat.le_of_ble_eq_true rfl, rfl⟩ (by decide +kernel) (fun I9 J10 h => ?_)
    refine gBk (pe := 77) hO [o0 (.aload_n 0), oF (.getfield 167) 12 8 372 0, o0 (.istore_n 1), oI (.iconst 0) 0, o0 (.istore_n 2)] (by decide +kernel) (And.intro t0 (And.intro (Nat.le_of_ble_eq_true rfl) (And.intro (Nat.le_of_ble_eq_true rfl) (show tWG K B 0 0 S I9 J10 77 [some (vR 61), some (vI (I9 61 8)), some (vI 0), none] [] from ?_))))
    exact W12_orders_L77 hO hR hG t0 hQ n _ _ _ _ h
  · have h := h.2 c8
    refine gBk (pe := 60) hO [o0 (.aload_n 0), oI (.bipush (-6)) (-6)] (by decide +kernel) (show tWG K B 0 0 S I6 J7 60 [some (vR 61), none, none, none] [vI (-6), vR 61] from ?_)
    refine gCVi_c hO (M12_tell t0 h) hc12_tell (idx := 170) (w := 322) (by decide +kernel) hR (by omega) t0 ⟨by decide, rfl⟩ (vs := [vI (-6)]) (st := []) ⟨rfl, Nat.le_of_ble_eq_true rfl, rfl⟩ (by decide +kernel) (fun x29 I27 J28 h => ?_)
    exact gIret hO hQ (by decide +kernel) ⟨rfl, h⟩
set_option maxRecDepth 100000 in
theorem W12_orders_19 {K : tK} {B : tB} {S : tSH} {MC MS : Nat} (hO : tKO K B RX12 cX12_orders 4) (hR : kR K = tRm 13 MC MS) (hG : tGr S) {n : Nat} (t0 : ty S 61 12) {k : Int32 → tHI → tHJ → Prop} (hQ : tRet K B (tQi B (tPi S k)) 0 0 (some .int)) {kb19 : tHI → tHJ → Prop} (hkb19 : ∀ (I : tHI) (J : tHJ) , kb19 I J  → tWG K B 0 0 S I J 19 [some (vR 61), none, none, none] []) {I : tHI} {J : tHJ} (h : F12_orders_19 n S k kb19 I J) : tWG K B 0 0 S I J 19 [some (vR 61), none, none, none] [] := by
  refine gBk (pe := 23) hO [o0 (.aload_n 0), oF (.getfield 261) 12 19 766 0] (by decide +kernel) (And.intro t0 (show tWG K B 0 0 S I J 23 [some (vR 61), none, none, none] [vI (I 61 19)] from ?_))
  refine gIfNe hO (off := 23) (tgt := 46) (by decide +kernel) (by decide) (fun c5 => ?_) (fun c5 => ?_)
  · have h := h.1 c5
    exact W12_orders_46 hO hR hG t0 hQ h
  · have h := h.2 c5
    refine gBk (pe := 29) hO [o0 (.aload_n 0), oI (.bipush 59) 59] (by decide +kernel) (show tWG K B 0 0 S I J 29 [some (vR 61), none, none, none] [vI 59, vR 61] from ?_)
    refine gCVi_z hO (M12_isSign t0) hc12_isSign (idx := 334) (w := 824) (by decide +kernel) hR (by omega) t0 ⟨by decide, rfl⟩ (vs := [vI 59]) (st := []) ⟨rfl, Nat.le_of_ble_eq_true rfl, rfl⟩ (by decide +kernel) (fun z30 => ?_)
    refine gIfEq hO (off := 14) (tgt := 46) (by decide +kernel) (by decide) (fun c31 => ?_) (fun c31 => ?_)
    · have h := h.1 c31
      exact W12_orders_46 hO hR hG t0 hQ h
    · have h := h.2 c31
      refine gBk (pe := 36) hO [o0 (.aload_n 0)] (by decide +kernel) (show tWG K B 0 0 S I J 36 [some (vR 61), none, none, none] [vR 61] from ?_)
      refine gCVv_c hO (M12_next t0 h) hc12_next (idx := 265) (w := 779) (by decide +kernel) hR (by omega) t0 ⟨by decide, rfl⟩ (vs := []) (st := []) ⟨rfl, Nat.le_of_ble_eq_true rfl, rfl⟩ (by decide +kernel) (fun I32 J33 h => ?_)
      refine gBk (pe := 40) hO [o0 (.aload_n 0)] (by decide +kernel) (show tWG K B 0 0 S I32 J33 40 [some (vR 61), none, none, none] [vR 61] from ?_)
      refine gCVv_c hO (M12_readOrder t0 h) hc12_readOrder (idx := 567) (w := 986) (by decide +kernel) hR (by omega) t0 ⟨by decide, rfl⟩ (vs := []) (st := []) ⟨rfl, Nat.le_of_ble_eq_true rfl, rfl⟩ (by decide +kernel) (fun I34 J35 h => ?_)
      refine gBk (pe := 19) hO [o0 (.goto (-24))] (by decide +kernel) (show tWG K B 0 0 S I34 J35 19 [some (vR 61), none, none, none] [] from ?_)
      exact hkb19 _ _ h
theorem W12_orders_L19 {K : tK} {B : tB} {S : tSH} {MC MS : Nat} (hO : tKO K B RX12 cX12_orders 4) (hR : kR K = tRm 13 MC MS) (hG : tGr S) {n : Nat} (t0 : ty S 61 12) {k : Int32 → tHI → tHJ → Prop} (hQ : tRet K B (tQi B (tPi S k)) 0 0 (some .int)) : ∀ (f : Nat) (I : tHI) (J : tHJ) , F12_orders_L19 n S k f I J  → tWG K B 0 0 S I J 19 [some (vR 61), none, none, none] [] := by
  intro f
  induction f with
  | zero => intro I J  h; exact h.elim
  | succ f ih => intro I J  h; exact W12_orders_19 hO hR hG t0 hQ ih h
set_option maxRecDepth 20000 in
theorem hc12_orders : tCV yX12_orders cX12_orders 4 (some .int) 0 := ⟨⟨(List.mem_of_getElem? (i := 983) rfl), (List.mem_of_getElem? (i := 5) (by decide +kernel)), by decide +kernel⟩, (List.mem_of_getElem? (i := 981) (by decide +kernel)), (List.mem_of_getElem? (i := 982) (by decide +kernel))⟩
set_option maxRecDepth 100000 in
theorem M12_orders {l : Launch} {B : tB} {S : tSH} {I : tHI} {J : tHJ} {n : Nat} {k : Int32 → tHI → tHJ → Prop} (t0 : ty S 61 12) (h : F12_orders n S I J k) : Met l yX12_orders (tWs yX12_orders cX12_orders 4 (some .int)) (tRm 13 0 0) (tPc B [vR 61] S I J) (tQi B (tPi S k)) 0 0 (tA B) :=
  tEntry (by decide +kernel) [some (vR 61), none, none, none] rfl rfl (Nat.le_of_ble_eq_true rfl) (fun K hl hR hO hQ hG => by
  subst hl
  refine gBk (pe := 12) hO [o0 (.aload_n 0), oI (.iconst 0) 0, oF (.putfield 161) 12 0 316 0, o0 (.aload_n 0), oI (.iconst (-1)) (-1), oF (.putfield 155) 12 53 236 0, o0 (.aload_n 0), oI (.iconst 1) 1] (by decide +kernel) (And.intro t0 (And.intro t0 (show tWG K B 0 0 S (uI (uI I 61 0 0) 61 53 (-1)) J 12 [some (vR 61), none, none, none] [vI 1, vR 61] from ?_)))
  refine gCVv_c hO (M12_beginText t0 h) hc12_beginText (idx := 404) (w := 769) (by decide +kernel) hR (by omega) t0 ⟨by decide, rfl⟩ (vs := [vI 1]) (st := []) ⟨rfl, Nat.le_of_ble_eq_true rfl, rfl⟩ (by decide +kernel) (fun I1 J2 h => ?_)
  refine gBk (pe := 16) hO [o0 (.aload_n 0)] (by decide +kernel) (show tWG K B 0 0 S I1 J2 16 [some (vR 61), none, none, none] [vR 61] from ?_)
  refine gCVv_c hO (M12_readOrder t0 h) hc12_readOrder (idx := 567) (w := 986) (by decide +kernel) hR (by omega) t0 ⟨by decide, rfl⟩ (vs := []) (st := []) ⟨rfl, Nat.le_of_ble_eq_true rfl, rfl⟩ (by decide +kernel) (fun I3 J4 h => ?_)
  exact W12_orders_L19 hO hR hG t0 hQ n _ _ h)
set_option maxRecDepth 100000 in
theorem W0_isSo_45 {K : tK} {B : tB} {S : tSH} {MC MS : Nat} (hO : tKO K B RX0 cX0_isSo 6) (hR : kR K = tRm 4 MC MS) (hG : tGr S) {n : Nat} (t0 : ty S 46 0) {k : Int32 → tHI → tHJ → Prop} (hQ : tRet K B (tQi B (tPb S k)) 0 0 (some .boolean)) {I : tHI} {J : tHJ} {s0 : Int32} (h : F0_isSo_45 n S k I J s0) : tWG K B 0 0 S I J 45 [none, none, none, none, none, none] [vI s0] := by
  exact gZret hO hQ (by decide +kernel) h.1 ⟨rfl, h.1, h.2⟩
set_option maxRecDepth 100000 in
theorem W0_isSo_40 {K : tK} {B : tB} {S : tSH} {MC MS : Nat} (hO : tKO K B RX0 cX0_isSo 6) (hR : kR K = tRm 4 MC MS) (hG : tGr S) {n : Nat} (t0 : ty S 46 0) {k : Int32 → tHI → tHJ → Prop} (hQ : tRet K B (tQi B (tPb S k)) 0 0 (some .boolean)) {I : tHI} {J : tHJ} (h : F0_isSo_40 n S k I J) : tWG K B 0 0 S I J 40 [none, none, none, none, none, none] [] := by
  refine gBk (pe := 45) hO [oI (.iconst 1) 1, o0 (.goto 4)] (by decide +kernel) (show tWG K B 0 0 S I J 45 [none, none, none, none, none, none] [vI 1] from ?_)
  exact W0_isSo_45 hO hR hG t0 hQ h
set_option maxRecDepth 20000 in
theorem hc0_isSo : tCV yX0_isSo cX0_isSo 6 (some .boolean) 3 := ⟨⟨(List.mem_of_getElem? (i := 289) rfl), (List.mem_of_getElem? (i := 33) (by decide +kernel)), by decide +kernel⟩, (List.mem_of_getElem? (i := 287) (by decide +kernel)), (List.mem_of_getElem? (i := 288) (by decide +kernel))⟩
set_option maxRecDepth 100000 in
theorem M0_isSo {l : Launch} {B : tB} {S : tSH} {I : tHI} {J : tHJ} {a1 : Nat} {v2 : Int32} {a3 : Nat} {n : Nat} {k : Int32 → tHI → tHJ → Prop} (t0 : ty S 46 0) (t1 : ty S a1 6) (t3 : ty S a3 40) (h : F0_isSo n S I J a1 v2 a3 k) : Met l yX0_isSo (tWs yX0_isSo cX0_isSo 6 (some .boolean)) (tRm 4 0 0) (tPc B [vR 46, vR a1, vI v2, vR a3] S I J) (tQi B (tPb S k)) 0 0 (tA B) :=
  tEntry (by decide +kernel) [some (vR 46), some (vR a1), some (vI v2), some (vR a3), none, none] rfl rfl (Nat.le_of_ble_eq_true rfl) (fun K hl hR hO hQ hG => by
  subst hl
  refine gBk (pe := 3) hO [o0 (.aload_n 1), o0 (.iload_n 2), oI (.iconst 2) 2] (by decide +kernel) (show tWG K B 0 0 S I J 3 [some (vR 46), some (vR a1), some (vI v2), some (vR a3), none, none] [vI 2, vI v2, vR a1] from ?_)
  refine gCVi_p hO (M6_spanStart t1 h.1) hc6_spanStart (idx := 17) (w := 290) (by decide +kernel) hR (by omega) t1 ⟨by decide, rfl⟩ (vs := [vI v2, vI 2]) (st := []) ⟨rfl, Nat.le_of_ble_eq_true rfl, rfl⟩ (by decide +kernel) ?_
  have h := h.2
  refine gBk (pe := 13) hO [o0 (.istore 4), o0 (.aload_n 1), o0 (.iload_n 2), oI (.iconst 1) 1, o0 .iadd, oI (.iconst 0) 0] (by decide +kernel) (And.intro (Nat.le_of_ble_eq_true rfl) (show tWG K B 0 0 S I J 13 [some (vR 46), some (vR a1), some (vI v2), some (vR a3), some (vI (V6_spanStart S I J a1 v2 2)), none] [vI 0, vI (v2 + 1), vR a1] from ?_))
  refine gCVi_p hO (M6_spanStart t1 h.1) hc6_spanStart (idx := 17) (w := 290) (by decide +kernel) hR (by omega) t1 ⟨by decide, rfl⟩ (vs := [vI (v2 + 1), vI 0]) (st := []) ⟨rfl, Nat.le_of_ble_eq_true rfl, rfl⟩ (by decide +kernel) ?_
  have h := h.2
  refine gBk (pe := 22) hO [o0 (.istore 5), o0 (.iload 4), o0 (.iload 5)] (by decide +kernel) (And.intro (Nat.le_of_ble_eq_true rfl) (show tWG K B 0 0 S I J 22 [some (vR 46), some (vR a1), some (vI v2), some (vR a3), some (vI (V6_spanStart S I J a1 v2 2)), some (vI (V6_spanStart S I J a1 (v2 + 1) 0))] [vI (V6_spanStart S I J a1 (v2 + 1) 0), vI (V6_spanStart S I J a1 v2 2)] from ?_))
  refine gIcGe hO (off := 18) (tgt := 40) (by decide +kernel) (by decide) (fun c1 => ?_) (fun c1 => ?_)
  · have h := h.1 c1
    exact gWeak (L' := [none, none, none, none, none, none]) trivial (W0_isSo_40 hO hR hG t0 hQ h)
  · have h := h.2 c1
    refine gBk (pe := 32) hO [o0 (.aload_n 0), o0 (.aload_n 1), o0 (.iload 4), o0 (.iload 5), o0 (.aload_n 3)] (by decide +kernel) (show tWG K B 0 0 S I J 32 [some (vR 46), some (vR a1), some (vI v2), some (vR a3), some (vI (V6_spanStart S I J a1 v2 2)), some (vI (V6_spanStart S I J a1 (v2 + 1) 0))] [vR a3, vI (V6_spanStart S I J a1 (v2 + 1) 0), vI (V6_spanStart S I J a1 v2 2), vR a1, vR 46] from ?_)
    refine gCVl_c hO (M0_work t0 t1 t3 h) hc0_work (idx := 21) (w := 294) (by decide +kernel) hR (by omega) t0 ⟨by decide, rfl⟩ (vs := [vR a1, vI (V6_spanStart S I J a1 v2 2), vI (V6_spanStart S I J a1 (v2 + 1) 0), vR a3]) (st := []) ⟨rfl, Nat.le_of_ble_eq_true rfl, rfl⟩ (by decide +kernel) (fun x4 I2 J3 h => ?_)
    refine gBk (pe := 37) hO [oJ (.lconst 1) 0 1, o0 .lcmp] (by decide +kernel) (show tWG K B 0 0 S I2 J3 37 [some (vR 46), some (vR a1), some (vI v2), some (vR a3), some (vI (V6_spanStart S I J a1 v2 2)), some (vI (V6_spanStart S I J a1 (v2 + 1) 0))] [vI (lg_cmp x4 1)] from ?_)
    have hj5 : ∀ (m6 : Int32), m6 = (if (lg_cmp x4 1) = 0 then (1 : Int32) else 0) → tWG K B 0 0 S I2 J3 45 [none, none, none, none, none, none] [vI m6] := by
      intro m6 em6
      subst em6
      exact gZret hO hQ (by decide +kernel) (bz_if (Or.inr rfl) (Or.inl rfl)) ⟨rfl, (bz_if (Or.inr rfl) (Or.inl rfl)), h⟩
    refine gIfNe hO (off := 7) (tgt := 44) (by decide +kernel) (by decide) (fun c7 => ?_) (fun c7 => ?_)
    · refine gBk (pe := 45) hO [oI (.iconst 0) 0] (by decide +kernel) (show tWG K B 0 0 S I2 J3 45 [some (vR 46), some (vR a1), some (vI v2), some (vR a3), some (vI (V6_spanStart S I J a1 v2 2)), some (vI (V6_spanStart S I J a1 (v2 + 1) 0))] [vI 0] from ?_)
      exact gWeak (L' := [none, none, none, none, none, none]) trivial (hj5 _ (Eq.symm (if_neg c7)))
    · refine gBk (pe := 45) hO [oI (.iconst 1) 1, o0 (.goto 4)] (by decide +kernel) (show tWG K B 0 0 S I2 J3 45 [some (vR 46), some (vR a1), some (vI v2), some (vR a3), some (vI (V6_spanStart S I J a1 v2 2)), some (vI (V6_spanStart S I J a1 (v2 + 1) 0))] [vI 1] from ?_)
      exact gWeak (L' := [none, none, none, none, none, none]) trivial (hj5 _ (Eq.symm (if_pos c7))))
set_option maxRecDepth 100000 in
theorem W0_sumOf_40 {K : tK} {B : tB} {S : tSH} {MC MS : Nat} (hO : tKO K B RX0 cX0_sumOf 7) (hR : kR K = tRm 4 MC MS) (hG : tGr S) {n : Nat} (t0 : ty S 46 0) {k : Int64 → tHI → tHJ → Prop} (hQ : tRet K B (tQl B (tPl S k)) 0 0 (some .long)) {I : tHI} {J : tHJ} {s0 : Int64} (h : F0_sumOf_40 n S k I J s0) : tWG K B 0 0 S I J 40 [none, none, none, none, none, none, none] [vL s0] := by
  exact gLret hO hQ (by decide +kernel) ⟨rfl, h⟩
set_option maxRecDepth 20000 in
theorem hc0_sumOf : tCV yX0_sumOf cX0_sumOf 7 (some .long) 4 := ⟨⟨(List.mem_of_getElem? (i := 456) rfl), (List.mem_of_getElem? (i := 33) (by decide +kernel)), by decide +kernel⟩, (List.mem_of_getElem? (i := 454) (by decide +kernel)), (List.mem_of_getElem? (i := 455) (by decide +kernel))⟩
set_option maxRecDepth 100000 in
theorem M0_sumOf {l : Launch} {B : tB} {S : tSH} {I : tHI} {J : tHJ} {a1 : Nat} {v2 : Int32} {v3 : Int32} {a4 : Nat} {n : Nat} {k : Int64 → tHI → tHJ → Prop} (t0 : ty S 46 0) (t1 : ty S a1 6) (t4 : ty S a4 40) (h : F0_sumOf n S I J a1 v2 v3 a4 k) : Met l yX0_sumOf (tWs yX0_sumOf cX0_sumOf 7 (some .long)) (tRm 4 0 0) (tPc B [vR 46, vR a1, vI v2, vI v3, vR a4] S I J) (tQl B (tPl S k)) 0 0 (tA B) :=
  tEntry (by decide +kernel) [some (vR 46), some (vR a1), some (vI v2), some (vI v3), some (vR a4), none, none] rfl rfl (Nat.le_of_ble_eq_true rfl) (fun K hl hR hO hQ hG => by
  subst hl
  refine gBk (pe := 3) hO [o0 (.aload_n 1), o0 (.iload_n 2), o0 (.iload_n 3)] (by decide +kernel) (show tWG K B 0 0 S I J 3 [some (vR 46), some (vR a1), some (vI v2), some (vI v3), some (vR a4), none, none] [vI v3, vI v2, vR a1] from ?_)
  refine gCVi_p hO (M6_spanStart t1 h.1) hc6_spanStart (idx := 17) (w := 290) (by decide +kernel) hR (by omega) t1 ⟨by decide, rfl⟩ (vs := [vI v2, vI v3]) (st := []) ⟨rfl, Nat.le_of_ble_eq_true rfl, rfl⟩ (by decide +kernel) ?_
  have h := h.2
  refine gBk (pe := 13) hO [o0 (.istore 5), o0 (.aload_n 1), o0 (.iload_n 2), o0 (.iload_n 3), oI (.iconst 1) 1, o0 .iadd] (by decide +kernel) (And.intro (Nat.le_of_ble_eq_true rfl) (show tWG K B 0 0 S I J 13 [some (vR 46), some (vR a1), some (vI v2), some (vI v3), some (vR a4), some (vI (V6_spanStart S I J a1 v2 v3)), none] [vI (v3 + 1), vI v2, vR a1] from ?_))
  refine gCVi_p hO (M6_spanStart t1 h.1) hc6_spanStart (idx := 17) (w := 290) (by decide +kernel) hR (by omega) t1 ⟨by decide, rfl⟩ (vs := [vI v2, vI (v3 + 1)]) (st := []) ⟨rfl, Nat.le_of_ble_eq_true rfl, rfl⟩ (by decide +kernel) ?_
  have h := h.2
  refine gBk (pe := 22) hO [o0 (.istore 6), o0 (.iload 5), o0 (.iload 6)] (by decide +kernel) (And.intro (Nat.le_of_ble_eq_true rfl) (show tWG K B 0 0 S I J 22 [some (vR 46), some (vR a1), some (vI v2), some (vI v3), some (vR a4), some (vI (V6_spanStart S I J a1 v2 v3)), some (vI (V6_spanStart S I J a1 v2 (v3 + 1)))] [vI (V6_spanStart S I J a1 v2 (v3 + 1)), vI (V6_spanStart S I J a1 v2 v3)] from ?_))
  refine gIcLt hO (off := 7) (tgt := 29) (by decide +kernel) (by decide) (fun c1 => ?_) (fun c1 => ?_)
  · have h := h.1 c1
    refine gBk (pe := 37) hO [o0 (.aload_n 0), o0 (.aload_n 1), o0 (.iload 5), o0 (.iload 6), o0 (.aload 4)] (by decide +kernel) (show tWG K B 0 0 S I J 37 [some (vR 46), some (vR a1), some (vI v2), some (vI v3), some (vR a4), some (vI (V6_spanStart S I J a1 v2 v3)), some (vI (V6_spanStart S I J a1 v2 (v3 + 1)))] [vR a4, vI (V6_spanStart S I J a1 v2 (v3 + 1)), vI (V6_spanStart S I J a1 v2 v3), vR a1, vR 46] from ?_)
    refine gCVl_c hO (M0_work t0 t1 t4 h) hc0_work (idx := 21) (w := 294) (by decide +kernel) hR (by omega) t0 ⟨by decide, rfl⟩ (vs := [vR a1, vI (V6_spanStart S I J a1 v2 v3), vI (V6_spanStart S I J a1 v2 (v3 + 1)), vR a4]) (st := []) ⟨rfl, Nat.le_of_ble_eq_true rfl, rfl⟩ (by decide +kernel) (fun x4 I2 J3 h => ?_)
    exact gWeak (L' := [none, none, none, none, none, none, none]) trivial (W0_sumOf_40 hO hR hG t0 hQ h)
  · have h := h.2 c1
    refine gBk (pe := 40) hO [oJ (.lconst 0) 0 0, o0 (.goto 14)] (by decide +kernel) (show tWG K B 0 0 S I J 40 [some (vR 46), some (vR a1), some (vI v2), some (vI v3), some (vR a4), some (vI (V6_spanStart S I J a1 v2 v3)), some (vI (V6_spanStart S I J a1 v2 (v3 + 1)))] [vL 0] from ?_)
    exact gWeak (L' := [none, none, none, none, none, none, none]) trivial (W0_sumOf_40 hO hR hG t0 hQ h))
set_option maxRecDepth 100000 in
theorem W2_barred_126 {K : tK} {B : tB} {S : tSH} {MC MS : Nat} (hO : tKO K B RX2 cX2_barred 6) (hR : kR K = tRm 5 MC MS) (hG : tGr S) {n : Nat} (t0 : ty S 48 2) {k : Int32 → tHI → tHJ → Prop} (hQ : tRet K B (tQi B (tPb S k)) 0 0 (some .boolean)) {kb85 : tHI → tHJ → Nat → Int32 → Prop} (hkb85 : ∀ (I : tHI) (J : tHJ) (a4 : Nat) (v5 : Int32), ty S a4 6 → kb85 I J a4 v5 → tWG K B 0 0 S I J 85 [some (vR 48), none, none, none, some (vR a4), some (vI v5)] []) {I : tHI} {J : tHJ} {a4 : Nat} {v5 : Int32} (t4 : ty S a4 6) (h : F2_barred_126 n S k kb85 I J a4 v5) : tWG K B 0 0 S I J 126 [some (vR 48), none, none, none, some (vR a4), some (vI v5)] [] := by
  refine gBk (pe := 85) hO [oI (.iinc 5 1) 1, o0 (.goto (-44))] (by decide +kernel) (show tWG K B 0 0 S I J 85 [some (vR 48), none, none, none, some (vR a4), some (vI (v5 + 1))] [] from ?_)
  exact hkb85 _ _ _ _ t4 h
set_option maxRecDepth 100000 in
theorem W2_barred_85 {K : tK} {B : tB} {S : tSH} {MC MS : Nat} (hO : tKO K B RX2 cX2_barred 6) (hR : kR K = tRm 5 MC MS) (hG : tGr S) {n : Nat} (t0 : ty S 48 2) {k : Int32 → tHI → tHJ → Prop} (hQ : tRet K B (tQi B (tPb S k)) 0 0 (some .boolean)) {kb85 : tHI → tHJ → Nat → Int32 → Prop} (hkb85 : ∀ (I : tHI) (J : tHJ) (a4 : Nat) (v5 : Int32), ty S a4 6 → kb85 I J a4 v5 → tWG K B 0 0 S I J 85 [some (vR 48), none, none, none, some (vR a4), some (vI v5)] []) {I : tHI} {J : tHJ} {a4 : Nat} {v5 : Int32} (t4 : ty S a4 6) (h : F2_barred_85 n S k kb85 I J a4 v5) : tWG K B 0 0 S I J 85 [some (vR 48), none, none, none, some (vR a4), some (vI v5)] [] := by
  refine gBk (pe := 92) hO [o0 (.iload 5), o0 (.aload 4), oF (.getfield 79) 6 4 277 0] (by decide +kernel) (And.intro t4 (show tWG K B 0 0 S I J 92 [some (vR 48), none, none, none, some (vR a4), some (vI v5)] [vI (I a4 4), vI v5] from ?_))
  refine gIcGe hO (off := 40) (tgt := 132) (by decide +kernel) (by decide) (fun c4 => ?_) (fun c4 => ?_)
  · have h := h.1 c4
    refine gBk (pe := 133) hO [oI (.iconst 0) 0] (by decide +kernel) (show tWG K B 0 0 S I J 133 [some (vR 48), none, none, none, some (vR a4), some (vI v5)] [vI 0] from ?_)
    exact gZret hO hQ (by decide +kernel) (Or.inl rfl) ⟨rfl, (Or.inl rfl), h⟩
  · have h := h.2 c4
    refine gBk (pe := 99) hO [o0 (.aload 4), o0 (.iload 5)] (by decide +kernel) (show tWG K B 0 0 S I J 99 [some (vR 48), none, none, none, some (vR a4), some (vI v5)] [vI v5, vR a4] from ?_)
    refine gCVi_p hO (M6_kindOf t4 h.1) hc6_kindOf (idx := 84) (w := 282) (by decide +kernel) hR (by omega) t4 ⟨by decide, rfl⟩ (vs := [vI v5]) (st := []) ⟨rfl, Nat.le_of_ble_eq_true rfl, rfl⟩ (by decide +kernel) ?_
    have h := h.2
    refine gBk (pe := 103) hO [oI (.iconst 5) 5] (by decide +kernel) (show tWG K B 0 0 S I J 103 [some (vR 48), none, none, none, some (vR a4), some (vI v5)] [vI 5, vI (V6_kindOf S I J a4 v5)] from ?_)
    refine gIcNe hO (off := 23) (tgt := 126) (by decide +kernel) (by decide) (fun c5 => ?_) (fun c5 => ?_)
    · have h := h.1 c5
      exact W2_barred_126 hO hR hG t0 hQ hkb85 t4 h
    · have h := h.2 c5
      refine gBk (pe := 118) hO [o0 (.aload_n 0), oF (.getfield 22) 2 3 156 46, o0 (.aload 4), o0 (.iload 5), o0 (.aload_n 0), oF (.getfield 15) 2 1 154 50] (by decide +kernel) (And.intro t0 (And.intro rfl (And.intro t0 (And.intro rfl (show tWG K B 0 0 S I J 118 [some (vR 48), none, none, none, some (vR a4), some (vI v5)] [vR 50, vI v5, vR a4, vR 46] from ?_)))))
      refine gCVi_b hO (M0_isSo (tGr.abs hG t0 (k := 3) rfl) t4 (tGr.off hG t0 (k := 1) rfl) h) hc0_isSo (idx := 88) (w := 286) (by decide +kernel) hR (by omega) (tGr.abs hG t0 (k := 3) rfl) ⟨by decide, rfl⟩ (vs := [vR a4, vI v5, vR 50]) (st := []) ⟨rfl, Nat.le_of_ble_eq_true rfl, rfl⟩ (by decide +kernel) (fun x8 I6 J7 z9 h => ?_)
      have h := h z9
      refine gIfEq hO (off := 5) (tgt := 126) (by decide +kernel) (by decide) (fun c10 => ?_) (fun c10 => ?_)
      · have h := h.1 c10
        exact W2_barred_126 hO hR hG t0 hQ hkb85 t4 h
      · have h := h.2 c10
        refine gBk (pe := 125) hO [oI (.iconst 1) 1] (by decide +kernel) (show tWG K B 0 0 S I6 J7 125 [some (vR 48), none, none, none, some (vR a4), some (vI v5)] [vI 1] from ?_)
        exact gZret hO hQ (by decide +kernel) (Or.inr rfl) ⟨rfl, (Or.inr rfl), h⟩
theorem W2_barred_L85 {K : tK} {B : tB} {S : tSH} {MC MS : Nat} (hO : tKO K B RX2 cX2_barred 6) (hR : kR K = tRm 5 MC MS) (hG : tGr S) {n : Nat} (t0 : ty S 48 2) {k : Int32 → tHI → tHJ → Prop} (hQ : tRet K B (tQi B (tPb S k)) 0 0 (some .boolean)) : ∀ (f : Nat) (I : tHI) (J : tHJ) (a4 : Nat) (v5 : Int32), (ty S a4 6) → F2_barred_L85 n S k f I J a4 v5 → tWG K B 0 0 S I J 85 [some (vR 48), none, none, none, some (vR a4), some (vI v5)] [] := by
  intro f
  induction f with
  | zero => intro I J a4 v5 t4 h; exact h.elim
  | succ f ih => intro I J a4 v5 t4 h; exact W2_barred_85 hO hR hG t0 hQ ih t4 h
set_option maxRecDepth 20000 in
theorem hc2_barred : tCV yX2_barred cX2_barred 6 (some .boolean) 3 := ⟨⟨(List.mem_of_getElem? (i := 276) rfl), (List.mem_of_getElem? (i := 37) (by decide +kernel)), by decide +kernel⟩, (List.mem_of_getElem? (i := 274) (by decide +kernel)), (List.mem_of_getElem? (i := 275) (by decide +kernel))⟩
set_option maxRecDepth 100000 in
theorem M2_barred {l : Launch} {B : tB} {S : tSH} {I : tHI} {J : tHJ} {v1 : Int32} {v2 : Int32} {v3 : Int32} {n : Nat} {k : Int32 → tHI → tHJ → Prop} (t0 : ty S 48 2) (h : F2_barred n S I J v1 v2 v3 k) : Met l yX2_barred (tWs yX2_barred cX2_barred 6 (some .boolean)) (tRm 5 0 0) (tPc B [vR 48, vI v1, vI v2, vI v3] S I J) (tQi B (tPb S k)) 0 0 (tA B) :=
  tEntry (by decide +kernel) [some (vR 48), some (vI v1), some (vI v2), some (vI v3), none, none] rfl rfl (Nat.le_of_ble_eq_true rfl) (fun K hl hR hO hQ hG => by
  subst hl
  refine gBk (pe := 4) hO [o0 (.aload_n 0), oF (.getfield 18) 2 2 155 1] (by decide +kernel) (And.intro t0 (And.intro rfl (show tWG K B 0 0 S I J 4 [some (vR 48), some (vI v1), some (vI v2), some (vI v3), none, none] [vR 1] from ?_)))
  refine gCVq_o hO (M8_inForce (tGr.abs hG t0 (k := 2) rfl) h.1) hc8_inForce (idx := 75) (w := 278) (by decide +kernel) hR (by omega) (tGr.abs hG t0 (k := 2) rfl) ⟨by decide, rfl⟩ (vs := []) (st := []) ⟨rfl, Nat.le_of_ble_eq_true rfl, rfl⟩ (by decide +kernel) (fun z1 => ?_)
  have h := h.2
  refine gCaseO (fun e3 => ?_) (fun a2 e3 => ?_)
  · have h := h.1 e3
    refine gBk (pe := 11) hO [o0 (.astore 4), o0 (.aload 4)] (by decide +kernel) (And.intro (Nat.le_of_ble_eq_true rfl) (show tWG K B 0 0 S I J 11 [some (vR 48), some (vI v1), some (vI v2), some (vI v3), some (vN), none] [vN] from ?_))
    refine gIfnonnull hO (o := none) (off := 5) (tgt := 16) (by decide +kernel) (by decide) (fun _ e => by cases e) (fun _ => ?_)
    refine gBk (pe := 15) hO [oI (.iconst 0) 0] (by decide +kernel) (show tWG K B 0 0 S I J 15 [some (vR 48), some (vI v1), some (vI v2), some (vI v3), some (vN), none] [vI 0] from ?_)
    exact gZret hO hQ (by decide +kernel) (Or.inl rfl) ⟨rfl, (Or.inl rfl), h⟩
  · have h := h.2 a2 e3
    refine gBk (pe := 11) hO [o0 (.astore 4), o0 (.aload 4)] (by decide +kernel) (And.intro (Nat.le_of_ble_eq_true rfl) (show tWG K B 0 0 S I J 11 [some (vR 48), some (vI v1), some (vI v2), some (vI v3), some (vR a2), none] [vR a2] from ?_))
    refine gIfnonnull hO (o := some a2) (off := 5) (tgt := 16) (by decide +kernel) (by decide) (fun _ _ => ?_) (fun e => by cases e)
    refine gBk (pe := 85) hO [o0 (.aload_n 0), oF (.getfield 15) 2 1 154 50, oI (.bipush 6) 6, o0 (.aload_n 0), oF (.getfield 11) 2 0 153 49, oI (.bipush 6) 6, o0 .iaload, o0 .iastore, o0 (.aload_n 0), oF (.getfield 15) 2 1 154 50, oI (.bipush 7) 7, o0 (.aload_n 0), oF (.getfield 11) 2 0 153 49, oI (.bipush 7) 7, o0 .iaload, o0 .iastore, o0 (.aload_n 0), oF (.getfield 15) 2 1 154 50, oI (.bipush 11) 11, o0 (.aload_n 0), oF (.getfield 11) 2 0 153 49, oI (.bipush 11) 11, o0 .iaload, o0 .iastore, o0 (.aload_n 0), oF (.getfield 15) 2 1 154 50, oI (.bipush 8) 8, o0 (.iload_n 1), o0 .iastore, o0 (.aload_n 0), oF (.getfield 15) 2 1 154 50, oI (.bipush 9) 9, o0 (.iload_n 2), o0 .iastore, o0 (.aload_n 0), oF (.getfield 15) 2 1 154 50, oI (.bipush 10) 10, o0 (.iload_n 3), o0 .iastore, oI (.iconst 0) 0, o0 (.istore 5)] (by decide +kernel) (And.intro t0 (And.intro rfl (And.intro t0 (And.intro rfl (And.intro (tGr.off hG t0 (k := 0) rfl) (And.intro (tin (tGr.len hG t0 (k := 0) rfl (by decide)) (tvi (by decide +kernel))) (And.intro (tGr.off hG t0 (k := 1) rfl) (And.intro (tin (tGr.len hG t0 (k := 1) rfl (by decide)) (tvi (by decide +kernel))) (And.intro t0 (And.intro rfl (And.intro t0 (And.intro rfl (And.intro (tGr.off hG t0 (k := 0) rfl) (And.intro (tin (tGr.len hG t0 (k := 0) rfl (by decide)) (tvi (by decide +kernel))) (And.intro (tGr.off hG t0 (k := 1) rfl) (And.intro (tin (tGr.len hG t0 (k := 1) rfl (by decide)) (tvi (by decide +kernel))) (And.intro t0 (And.intro rfl (And.intro t0 (And.intro rfl (And.intro (tGr.off hG t0 (k := 0) rfl) (And.intro (tin (tGr.len hG t0 (k := 0) rfl (by decide)) (tvi (by decide +kernel))) (And.intro (tGr.off hG t0 (k := 1) rfl) (And.intro (tin (tGr.len hG t0 (k := 1) rfl (by decide)) (tvi (by decide +kernel))) (And.intro t0 (And.intro rfl (And.intro (tGr.off hG t0 (k := 1) rfl) (And.intro (tin (tGr.len hG t0 (k := 1) rfl (by decide)) (tvi (by decide +kernel))) (And.intro t0 (And.intro rfl (And.intro (tGr.off hG t0 (k := 1) rfl) (And.intro (tin (tGr.len hG t0 (k := 1) rfl (by decide)) (tvi (by decide +kernel))) (And.intro t0 (And.intro rfl (And.intro (tGr.off hG t0 (k := 1) rfl) (And.intro (tin (tGr.len hG t0 (k := 1) rfl (by decide)) (tvi (by decide +kernel))) (And.intro (Nat.le_of_ble_eq_true rfl) (show tWG K B 0 0 S (uI (uI (uI (uI (uI (uI I 50 6 (I 49 6)) 50 7 ((uI I 50 6 (I 49 6)) 49 7)) 50 11 ((uI (uI I 50 6 (I 49 6)) 50 7 ((uI I 50 6 (I 49 6)) 49 7)) 49 11)) 50 8 v1) 50 9 v2) 50 10 v3) J 85 [some (vR 48), some (vI v1), some (vI v2), some (vI v3), some (vR a2), some (vI 0)] [] from ?_))))))))))))))))))))))))))))))))))))))
    exact gWeak (L' := [some (vR 48), none, none, none, some (vR a2), some (vI 0)]) ⟨rfl, rfl, rfl, trivial⟩ (W2_barred_L85 hO hR hG t0 hQ n _ _ _ _ (z1 _ e3) h))
set_option maxRecDepth 100000 in
theorem W2_tell_167 {K : tK} {B : tB} {S : tSH} {MC MS : Nat} (hO : tKO K B RX2 cX2_tell 9) (hR : kR K = tRm 5 MC MS) (hG : tGr S) {n : Nat} (t0 : ty S 48 2) {k : Int32 → tHI → tHJ → Prop} (hQ : tRet K B (tQi B (tPi S k)) 0 0 (some .int)) {I : tHI} {J : tHJ} {v1 : Int32} (h : F2_tell_167 n S k I J v1) : tWG K B 0 0 S I J 167 [some (vR 48), some (vI v1), none, none, none, none, none, none, none] [] := by
  refine gBk (pe := 169) hO [o0 (.aload_n 0), o0 (.iload_n 1)] (by decide +kernel) (show tWG K B 0 0 S I J 169 [some (vR 48), some (vI v1), none, none, none, none, none, none, none] [vI v1, vR 48] from ?_)
  refine gCVi_c hO (M2_without t0 h) hc2_without (idx := 123) (w := 471) (by decide +kernel) hR (by omega) t0 ⟨by decide, rfl⟩ (vs := [vI v1]) (st := []) ⟨rfl, Nat.le_of_ble_eq_true rfl, rfl⟩ (by decide +kernel) (fun x13 I11 J12 h => ?_)
  exact gIret hO hQ (by decide +kernel) ⟨rfl, h⟩
set_option maxRecDepth 100000 in
theorem W2_tell_161 {K : tK} {B : tB} {S : tSH} {MC MS : Nat} (hO : tKO K B RX2 cX2_tell 9) (hR : kR K = tRm 5 MC MS) (hG : tGr S) {n : Nat} (t0 : ty S 48 2) {k : Int32 → tHI → tHJ → Prop} (hQ : tRet K B (tQi B (tPi S k)) 0 0 (some .int)) {kb85 : tHI → tHJ → Int32 → Option Nat → Int32 → Prop} (hkb85 : ∀ (I : tHI) (J : tHJ) (v1 : Int32) (o4 : Option Nat) (v6 : Int32), (∀ x, o4 = some x → ty S x 6) → kb85 I J v1 o4 v6 → tWG K B 0 0 S I J 85 [some (vR 48), some (vI v1), none, none, some (vO o4), none, some (vI v6), none, none] []) {I : tHI} {J : tHJ} {v1 : Int32} {o4 : Option Nat} {v6 : Int32} (t4 : ∀ x, o4 = some x → ty S x 6) (h : F2_tell_161 n S k kb85 I J v1 o4 v6) : tWG K B 0 0 S I J 161 [some (vR 48), some (vI v1), none, none, some (vO o4), none, some (vI v6), none, none] [] := by
  cases o4 with
  | none =>
    have h := h.1 rfl
    refine gBk (pe := 85) hO [oI (.iinc 6 (-1)) (-1), o0 (.goto (-79))] (by decide +kernel) (show tWG K B 0 0 S I J 85 [some (vR 48), some (vI v1), none, none, some (vN), none, some (vI (v6 + (-1))), none, none] [] from ?_)
    exact hkb85 _ _ _ _ _ (fun _ q => by cases q) h
  | some a16 =>
    have h := h.2 a16 rfl
    refine gBk (pe := 85) hO [oI (.iinc 6 (-1)) (-1), o0 (.goto (-79))] (by decide +kernel) (show tWG K B 0 0 S I J 85 [some (vR 48), some (vI v1), none, none, some (vR a16), none, some (vI (v6 + (-1))), none, none] [] from ?_)
    exact hkb85 _ _ _ _ _ (fun _ q => by cases q; exact (t4 _ rfl)) h
set_option maxRecDepth 100000 in
theorem W2_tell_85 {K : tK} {B : tB} {S : tSH} {MC MS : Nat} (hO : tKO K B RX2 cX2_tell 9) (hR : kR K = tRm 5 MC MS) (hG : tGr S) {n : Nat} (t0 : ty S 48 2) {k : Int32 → tHI → tHJ → Prop} (hQ : tRet K B (tQi B (tPi S k)) 0 0 (some .int)) {kb85 : tHI → tHJ → Int32 → Option Nat → Int32 → Prop} (hkb85 : ∀ (I : tHI) (J : tHJ) (v1 : Int32) (o4 : Option Nat) (v6 : Int32), (∀ x, o4 = some x → ty S x 6) → kb85 I J v1 o4 v6 → tWG K B 0 0 S I J 85 [some (vR 48), some (vI v1), none, none, some (vO o4), none, some (vI v6), none, none] []) {I : tHI} {J : tHJ} {v1 : Int32} {o4 : Option Nat} {v6 : Int32} (t4 : ∀ x, o4 = some x → ty S x 6) (h : F2_tell_85 n S k kb85 I J v1 o4 v6) : tWG K B 0 0 S I J 85 [some (vR 48), some (vI v1), none, none, some (vO o4), none, some (vI v6), none, none] [] := by
  cases o4 with
  | none =>
    have h := h.1 rfl
    refine gBk (pe := 87) hO [o0 (.iload 6)] (by decide +kernel) (show tWG K B 0 0 S I J 87 [some (vR 48), some (vI v1), none, none, some (vN), none, some (vI v6), none, none] [vI v6] from ?_)
    refine gIfLt hO (off := 80) (tgt := 167) (by decide +kernel) (by decide) (fun c10 => ?_) (fun c10 => ?_)
    · have h := h.1 c10
      exact gWeak (L' := [some (vR 48), some (vI v1), none, none, none, none, none, none, none]) ⟨rfl, rfl, trivial⟩ (W2_tell_167 hO hR hG t0 hQ h)
    · have h := h.2 c10
      refine gBk (pe := 92) hO [o0 (.aload 4)] (by decide +kernel) (show tWG K B 0 0 S I J 92 [some (vR 48), some (vI v1), none, none, some (vN), none, some (vI v6), none, none] [vN] from ?_)
      refine gIfnull hO (o := none) (off := 75) (tgt := 167) (by decide +kernel) (by decide) (fun _ => ?_) (fun _ e => by cases e)
      exact gWeak (L' := [some (vR 48), some (vI v1), none, none, none, none, none, none, none]) ⟨rfl, rfl, trivial⟩ (W2_tell_167 hO hR hG t0 hQ h)
  | some a8 =>
    have h := h.2 a8 rfl
    refine gBk (pe := 87) hO [o0 (.iload 6)] (by decide +kernel) (show tWG K B 0 0 S I J 87 [some (vR 48), some (vI v1), none, none, some (vR a8), none, some (vI v6), none, none] [vI v6] from ?_)
    refine gIfLt hO (off := 80) (tgt := 167) (by decide +kernel) (by decide) (fun c14 => ?_) (fun c14 => ?_)
    · have h := h.1 c14
      exact gWeak (L' := [some (vR 48), some (vI v1), none, none, none, none, none, none, none]) ⟨rfl, rfl, trivial⟩ (W2_tell_167 hO hR hG t0 hQ h)
    · have h := h.2 c14
      refine gBk (pe := 92) hO [o0 (.aload 4)] (by decide +kernel) (show tWG K B 0 0 S I J 92 [some (vR 48), some (vI v1), none, none, some (vR a8), none, some (vI v6), none, none] [vR a8] from ?_)
      refine gIfnull hO (o := some a8) (off := 75) (tgt := 167) (by decide +kernel) (by decide) (fun e => by cases e) (fun _ _ => ?_)
      refine gBk (pe := 99) hO [o0 (.aload 4), o0 (.iload 6)] (by decide +kernel) (show tWG K B 0 0 S I J 99 [some (vR 48), some (vI v1), none, none, some (vR a8), none, some (vI v6), none, none] [vI v6, vR a8] from ?_)
      refine gCVi_p hO (M6_kindOf (t4 _ rfl) h.1) hc6_kindOf (idx := 84) (w := 282) (by decide +kernel) hR (by omega) (t4 _ rfl) ⟨by decide, rfl⟩ (vs := [vI v6]) (st := []) ⟨rfl, Nat.le_of_ble_eq_true rfl, rfl⟩ (by decide +kernel) ?_
      have h := h.2
      refine gBk (pe := 103) hO [o0 (.iload_n 1)] (by decide +kernel) (show tWG K B 0 0 S I J 103 [some (vR 48), some (vI v1), none, none, some (vR a8), none, some (vI v6), none, none] [vI v1, vI (V6_kindOf S I J a8 v6)] from ?_)
      refine gIcNe hO (off := 58) (tgt := 161) (by decide +kernel) (by decide) (fun c15 => ?_) (fun c15 => ?_)
      · have h := h.1 c15
        exact W2_tell_161 hO hR hG t0 hQ hkb85 (fun _ q => by cases q; exact (t4 _ rfl)) h
      · have h := h.2 c15
        refine gBk (pe := 118) hO [o0 (.aload_n 0), oF (.getfield 22) 2 3 156 46, o0 (.aload 4), o0 (.iload 6), o0 (.aload_n 0), oF (.getfield 11) 2 0 153 49] (by decide +kernel) (And.intro t0 (And.intro rfl (And.intro t0 (And.intro rfl (show tWG K B 0 0 S I J 118 [some (vR 48), some (vI v1), none, none, some (vR a8), none, some (vI v6), none, none] [vR 49, vI v6, vR a8, vR 46] from ?_)))))
        refine gCVi_b hO (M0_isSo (tGr.abs hG t0 (k := 3) rfl) (t4 _ rfl) (tGr.off hG t0 (k := 0) rfl) h) hc0_isSo (idx := 88) (w := 286) (by decide +kernel) hR (by omega) (tGr.abs hG t0 (k := 3) rfl) ⟨by decide, rfl⟩ (vs := [vR a8, vI v6, vR 49]) (st := []) ⟨rfl, Nat.le_of_ble_eq_true rfl, rfl⟩ (by decide +kernel) (fun x20 I18 J19 z21 h => ?_)
        have h := h z21
        refine gIfNe hO (off := 6) (tgt := 127) (by decide +kernel) (by decide) (fun c22 => ?_) (fun c22 => ?_)
        · have h := h.1 c22
          refine gBk (pe := 140) hO [o0 (.aload_n 0), oF (.getfield 22) 2 3 156 46, o0 (.aload 4), o0 (.iload 6), oI (.iconst 0) 0, o0 (.aload_n 0), oF (.getfield 11) 2 0 153 49] (by decide +kernel) (And.intro t0 (And.intro rfl (And.intro t0 (And.intro rfl (show tWG K B 0 0 S I18 J19 140 [some (vR 48), some (vI v1), none, none, some (vR a8), none, some (vI v6), none, none] [vR 49, vI 0, vI v6, vR a8, vR 46] from ?_)))))
          refine gCVl_c hO (M0_sumOf (tGr.abs hG t0 (k := 3) rfl) (t4 _ rfl) (tGr.off hG t0 (k := 0) rfl) h) hc0_sumOf (idx := 113) (w := 453) (by decide +kernel) hR (by omega) (tGr.abs hG t0 (k := 3) rfl) ⟨by decide, rfl⟩ (vs := [vR a8, vI v6, vI 0, vR 49]) (st := []) ⟨rfl, Nat.le_of_ble_eq_true rfl, rfl⟩ (by decide +kernel) (fun x25 I23 J24 h => ?_)
          refine gBk (pe := 147) hO [o0 (.lstore 7), o0 (.lload 7)] (by decide +kernel) (And.intro (Nat.le_of_ble_eq_true rfl) (show tWG K B 0 0 S I23 J24 147 [some (vR 48), some (vI v1), none, none, some (vR a8), none, some (vI v6), some (vL x25), none] [vL x25] from ?_))
          refine gBk (pe := 151) hO [(.ldc2_w 117, (0, 0, 451, 0), 0, 2000000000), o0 .lcmp] (by decide +kernel) (show tWG K B 0 0 S I23 J24 151 [some (vR 48), some (vI v1), none, none, some (vR a8), none, some (vI v6), some (vL x25), none] [vI (lg_cmp x25 2000000000)] from ?_)
          refine gIfEq hO (off := 10) (tgt := 161) (by decide +kernel) (by decide) (fun c26 => ?_) (fun c26 => ?_)
          · have h := h.1 c26
            exact gWeak (L' := [some (vR 48), some (vI v1), none, none, some (vR a8), none, some (vI v6), none, none]) ⟨rfl, rfl, rfl, rfl, trivial⟩ (W2_tell_161 hO hR hG t0 hQ hkb85 (fun _ q => by cases q; exact (t4 _ rfl)) h)
          · have h := h.2 c26
            refine gBk (pe := 157) hO [o0 (.iload_n 1), o0 (.lload 7)] (by decide +kernel) (show tWG K B 0 0 S I23 J24 157 [some (vR 48), some (vI v1), none, none, some (vR a8), none, some (vI v6), some (vL x25), none] [vL x25, vI v1] from ?_)
            refine gCSi_p hO (M2_nearest) hc2_nearest (idx := 119) (w := 457) (by decide +kernel) hR (by omega) (vs := [vI v1, vL x25]) (st := []) ⟨rfl, Nat.le_of_ble_eq_true rfl, rfl⟩ (by decide +kernel) ?_
            exact gIret hO hQ (by decide +kernel) ⟨rfl, h⟩
        · have h := h.2 c22
          refine gBk (pe := 161) hO [o0 (.goto 37)] (by decide +kernel) (show tWG K B 0 0 S I18 J19 161 [some (vR 48), some (vI v1), none, none, some (vR a8), none, some (vI v6), none, none] [] from ?_)
          exact W2_tell_161 hO hR hG t0 hQ hkb85 (fun _ q => by cases q; exact (t4 _ rfl)) h
theorem W2_tell_L85 {K : tK} {B : tB} {S : tSH} {MC MS : Nat} (hO : tKO K B RX2 cX2_tell 9) (hR : kR K = tRm 5 MC MS) (hG : tGr S) {n : Nat} (t0 : ty S 48 2) {k : Int32 → tHI → tHJ → Prop} (hQ : tRet K B (tQi B (tPi S k)) 0 0 (some .int)) : ∀ (f : Nat) (I : tHI) (J : tHJ) (v1 : Int32) (o4 : Option Nat) (v6 : Int32), (∀ x, o4 = some x → ty S x 6) → F2_tell_L85 n S k f I J v1 o4 v6 → tWG K B 0 0 S I J 85 [some (vR 48), some (vI v1), none, none, some (vO o4), none, some (vI v6), none, none] [] := by
  intro f
  induction f with
  | zero => intro I J v1 o4 v6 t4 h; exact h.elim
  | succ f ih => intro I J v1 o4 v6 t4 h; exact W2_tell_85 hO hR hG t0 hQ ih t4 h
set_option maxRecDepth 100000 in
theorem W2_tell_77 {K : tK} {B : tB} {S : tSH} {MC MS : Nat} (hO : tKO K B RX2 cX2_tell 9) (hR : kR K = tRm 5 MC MS) (hG : tGr S) {n : Nat} (t0 : ty S 48 2) {k : Int32 → tHI → tHJ → Prop} (hQ : tRet K B (tQi B (tPi S k)) 0 0 (some .int)) {I : tHI} {J : tHJ} {v1 : Int32} {o4 : Option Nat} {s0 : Int32} (t4 : ∀ x, o4 = some x → ty S x 6) (h : F2_tell_77 n S k I J v1 o4 s0) : tWG K B 0 0 S I J 77 [some (vR 48), some (vI v1), none, none, some (vO o4), none, none, none, none] [vI s0] := by
  cases o4 with
  | none =>
    have h := h.1 rfl
    refine gBk (pe := 85) hO [o0 (.istore 5), o0 (.iload 5), oI (.iconst 1) 1, o0 .isub, o0 (.istore 6)] (by decide +kernel) (And.intro (Nat.le_of_ble_eq_true rfl) (And.intro (Nat.le_of_ble_eq_true rfl) (show tWG K B 0 0 S I J 85 [some (vR 48), some (vI v1), none, none, some (vN), some (vI s0), some (vI (s0 - 1)), none, none] [] from ?_)))
    exact gWeak (L' := [some (vR 48), some (vI v1), none, none, some (vN), none, some (vI (s0 - 1)), none, none]) ⟨rfl, rfl, rfl, rfl, trivial⟩ (W2_tell_L85 hO hR hG t0 hQ n _ _ _ _ _ (fun _ q => by cases q) h)
  | some a6 =>
    have h := h.2 a6 rfl
    refine gBk (pe := 85) hO [o0 (.istore 5), o0 (.iload 5), oI (.iconst 1) 1, o0 .isub, o0 (.istore 6)] (by decide +kernel) (And.intro (Nat.le_of_ble_eq_true rfl) (And.intro (Nat.le_of_ble_eq_true rfl) (show tWG K B 0 0 S I J 85 [some (vR 48), some (vI v1), none, none, some (vR a6), some (vI s0), some (vI (s0 - 1)), none, none] [] from ?_)))
    exact gWeak (L' := [some (vR 48), some (vI v1), none, none, some (vR a6), none, some (vI (s0 - 1)), none, none]) ⟨rfl, rfl, rfl, rfl, trivial⟩ (W2_tell_L85 hO hR hG t0 hQ n _ _ _ _ _ (fun _ q => by cases q; exact (t4 _ rfl)) h)
set_option maxRecDepth 20000 in
theorem hc2_tell : tCV yX2_tell cX2_tell 9 (some .int) 2 := ⟨⟨(List.mem_of_getElem? (i := 446) rfl), (List.mem_of_getElem? (i := 37) (by decide +kernel)), by decide +kernel⟩, (List.mem_of_getElem? (i := 444) (by decide +kernel)), (List.mem_of_getElem? (i := 445) (by decide +kernel))⟩
set_option maxRecDepth 100000 in
theorem M2_tell {l : Launch} {B : tB} {S : tSH} {I : tHI} {J : tHJ} {v1 : Int32} {v2 : Int32} {n : Nat} {k : Int32 → tHI → tHJ → Prop} (t0 : ty S 48 2) (h : F2_tell n S I J v1 v2 k) : Met l yX2_tell (tWs yX2_tell cX2_tell 9 (some .int)) (tRm 5 0 0) (tPc B [vR 48, vI v1, vI v2] S I J) (tQi B (tPi S k)) 0 0 (tA B) :=
  tEntry (by decide +kernel) [some (vR 48), some (vI v1), some (vI v2), none, none, none, none, none, none] rfl rfl (Nat.le_of_ble_eq_true rfl) (fun K hl hR hO hQ hG => by
  subst hl
  refine gBk (pe := 10) hO [o0 (.aload_n 0), oF (.getfield 18) 2 2 155 1, oF (.getfield 94) 8 1 447 7, o0 (.astore_n 3), o0 (.aload_n 3), o0 (.iload_n 2)] (by decide +kernel) (And.intro t0 (And.intro rfl (And.intro (tGr.abs hG t0 (k := 2) rfl) (And.intro rfl (And.intro (Nat.le_of_ble_eq_true rfl) (show tWG K B 0 0 S I J 10 [some (vR 48), some (vI v1), some (vI v2), some (vR 7), none, none, none, none, none] [vI v2, vR 7] from ?_))))))
  refine gCVi_z hO (M7_has (tGr.off hG (tGr.abs hG t0 (k := 2) rfl) (k := 1) rfl)) hc7_has (idx := 98) (w := 452) (by decide +kernel) hR (by omega) (tGr.off hG (tGr.abs hG t0 (k := 2) rfl) (k := 1) rfl) ⟨by decide, rfl⟩ (vs := [vI v2]) (st := []) ⟨rfl, Nat.le_of_ble_eq_true rfl, rfl⟩ (by decide +kernel) (fun z1 => ?_)
  refine gIfNe hO (off := 5) (tgt := 18) (by decide +kernel) (by decide) (fun c2 => ?_) (fun c2 => ?_)
  · have h := h.1 c2
    refine gBk (pe := 58) hO [o0 (.aload_n 0), oF (.getfield 11) 2 0 153 49, oI (.iconst 0) 0, o0 (.aload_n 3), oF (.getfield 104) 7 1 448 8, o0 (.iload_n 2), o0 .iaload, o0 .iastore, o0 (.aload_n 0), oF (.getfield 11) 2 0 153 49, oI (.iconst 1) 1, o0 (.aload_n 3), oF (.getfield 107) 7 2 449 9, o0 (.iload_n 2), o0 .iaload, o0 .iastore, o0 (.aload_n 0), oF (.getfield 11) 2 0 153 49, oI (.iconst 2) 2, o0 (.aload_n 3), oF (.getfield 110) 7 3 450 10, o0 (.iload_n 2), o0 .iaload, o0 .iastore, o0 (.aload_n 0), oF (.getfield 18) 2 2 155 1] (by decide +kernel) (And.intro t0 (And.intro rfl (And.intro (tGr.off hG (tGr.abs hG t0 (k := 2) rfl) (k := 1) rfl) (And.intro rfl (And.intro (tGr.off hG (tGr.off hG (tGr.abs hG t0 (k := 2) rfl) (k := 1) rfl) (k := 1) rfl) (And.intro (tin (tGr.len hG (tGr.off hG (tGr.abs hG t0 (k := 2) rfl) (k := 1) rfl) (k := 1) rfl (by decide)) h.1) (And.intro (tGr.off hG t0 (k := 0) rfl) (And.intro (tin (tGr.len hG t0 (k := 0) rfl (by decide)) (tvi (by decide +kernel))) (And.intro t0 (And.intro rfl (And.intro (tGr.off hG (tGr.abs hG t0 (k := 2) rfl) (k := 1) rfl) (And.intro rfl (And.intro (tGr.off hG (tGr.off hG (tGr.abs hG t0 (k := 2) rfl) (k := 1) rfl) (k := 2) rfl) (And.intro (tin (tGr.len hG (tGr.off hG (tGr.abs hG t0 (k := 2) rfl) (k := 1) rfl) (k := 2) rfl (by decide)) h.2.1) (And.intro (tGr.off hG t0 (k := 0) rfl) (And.intro (tin (tGr.len hG t0 (k := 0) rfl (by decide)) (tvi (by decide +kernel))) (And.intro t0 (And.intro rfl (And.intro (tGr.off hG (tGr.abs hG t0 (k := 2) rfl) (k := 1) rfl) (And.intro rfl (And.intro (tGr.off hG (tGr.off hG (tGr.abs hG t0 (k := 2) rfl) (k := 1) rfl) (k := 3) rfl) (And.intro (tin (tGr.len hG (tGr.off hG (tGr.abs hG t0 (k := 2) rfl) (k := 1) rfl) (k := 3) rfl (by decide)) h.2.2.1) (And.intro (tGr.off hG t0 (k := 0) rfl) (And.intro (tin (tGr.len hG t0 (k := 0) rfl (by decide)) (tvi (by decide +kernel))) (And.intro t0 (And.intro rfl (show tWG K B 0 0 S (uI (uI (uI I 49 0 (I 8 v2.toNatClampNeg)) 49 1 ((uI I 49 0 (I 8 v2.toNatClampNeg)) 9 v2.toNatClampNeg)) 49 2 ((uI (uI I 49 0 (I 8 v2.toNatClampNeg)) 49 1 ((uI I 49 0 (I 8 v2.toNatClampNeg)) 9 v2.toNatClampNeg)) 10 v2.toNatClampNeg)) J 58 [some (vR 48), some (vI v1), some (vI v2), some (vR 7), none, none, none, none, none] [vR 1] from ?_)))))))))))))))))))))))))))
    have h := h.2.2.2
    refine gCVq_o hO (M8_inForce (tGr.abs hG t0 (k := 2) rfl) h.1) hc8_inForce (idx := 75) (w := 278) (by decide +kernel) hR (by omega) (tGr.abs hG t0 (k := 2) rfl) ⟨by decide, rfl⟩ (vs := []) (st := []) ⟨rfl, Nat.le_of_ble_eq_true rfl, rfl⟩ (by decide +kernel) (fun z3 => ?_)
    have h := h.2
    refine gCaseO (fun e5 => ?_) (fun a4 e5 => ?_)
    · have h := h.1 e5
      refine gBk (pe := 65) hO [o0 (.astore 4), o0 (.aload 4)] (by decide +kernel) (And.intro (Nat.le_of_ble_eq_true rfl) (show tWG K B 0 0 S (uI (uI (uI I 49 0 (I 8 v2.toNatClampNeg)) 49 1 ((uI I 49 0 (I 8 v2.toNatClampNeg)) 9 v2.toNatClampNeg)) 49 2 ((uI (uI I 49 0 (I 8 v2.toNatClampNeg)) 49 1 ((uI I 49 0 (I 8 v2.toNatClampNeg)) 9 v2.toNatClampNeg)) 10 v2.toNatClampNeg)) J 65 [some (vR 48), some (vI v1), some (vI v2), some (vR 7), some (vN), none, none, none, none] [vN] from ?_))
      refine gIfnonnull hO (o := none) (off := 7) (tgt := 72) (by decide +kernel) (by decide) (fun _ e => by cases e) (fun _ => ?_)
      refine gBk (pe := 77) hO [oI (.iconst 0) 0, o0 (.goto 8)] (by decide +kernel) (show tWG K B 0 0 S (uI (uI (uI I 49 0 (I 8 v2.toNatClampNeg)) 49 1 ((uI I 49 0 (I 8 v2.toNatClampNeg)) 9 v2.toNatClampNeg)) 49 2 ((uI (uI I 49 0 (I 8 v2.toNatClampNeg)) 49 1 ((uI I 49 0 (I 8 v2.toNatClampNeg)) 9 v2.toNatClampNeg)) 10 v2.toNatClampNeg)) J 77 [some (vR 48), some (vI v1), some (vI v2), some (vR 7), some (vN), none, none, none, none] [vI 0] from ?_)
      exact gWeak (L' := [some (vR 48), some (vI v1), none, none, some (vN), none, none, none, none]) ⟨rfl, rfl, rfl, trivial⟩ (W2_tell_77 hO hR hG t0 hQ (fun _ q => by cases q) h)
    · have h := h.2 a4 e5
      refine gBk (pe := 65) hO [o0 (.astore 4), o0 (.aload 4)] (by decide +kernel) (And.intro (Nat.le_of_ble_eq_true rfl) (show tWG K B 0 0 S (uI (uI (uI I 49 0 (I 8 v2.toNatClampNeg)) 49 1 ((uI I 49 0 (I 8 v2.toNatClampNeg)) 9 v2.toNatClampNeg)) 49 2 ((uI (uI I 49 0 (I 8 v2.toNatClampNeg)) 49 1 ((uI I 49 0 (I 8 v2.toNatClampNeg)) 9 v2.toNatClampNeg)) 10 v2.toNatClampNeg)) J 65 [some (vR 48), some (vI v1), some (vI v2), some (vR 7), some (vR a4), none, none, none, none] [vR a4] from ?_))
      refine gIfnonnull hO (o := some a4) (off := 7) (tgt := 72) (by decide +kernel) (by decide) (fun _ _ => ?_) (fun e => by cases e)
      refine gBk (pe := 77) hO [o0 (.aload 4), oF (.getfield 79) 6 4 277 0] (by decide +kernel) (And.intro (z3 _ e5) (show tWG K B 0 0 S (uI (uI (uI I 49 0 (I 8 v2.toNatClampNeg)) 49 1 ((uI I 49 0 (I 8 v2.toNatClampNeg)) 9 v2.toNatClampNeg)) 49 2 ((uI (uI I 49 0 (I 8 v2.toNatClampNeg)) 49 1 ((uI I 49 0 (I 8 v2.toNatClampNeg)) 9 v2.toNatClampNeg)) 10 v2.toNatClampNeg)) J 77 [some (vR 48), some (vI v1), some (vI v2), some (vR 7), some (vR a4), none, none, none, none] [vI ((uI (uI (uI I 49 0 (I 8 v2.toNatClampNeg)) 49 1 ((uI I 49 0 (I 8 v2.toNatClampNeg)) 9 v2.toNatClampNeg)) 49 2 ((uI (uI I 49 0 (I 8 v2.toNatClampNeg)) 49 1 ((uI I 49 0 (I 8 v2.toNatClampNeg)) 9 v2.toNatClampNeg)) 10 v2.toNatClampNeg)) a4 4)] from ?_))
      exact gWeak (L' := [some (vR 48), some (vI v1), none, none, some (vR a4), none, none, none, none]) ⟨rfl, rfl, rfl, trivial⟩ (W2_tell_77 hO hR hG t0 hQ (fun _ q => by cases q; exact (z3 _ e5)) h)
  · have h := h.2 c2
    refine gBk (pe := 17) hO [oI (.iconst 0) 0] (by decide +kernel) (show tWG K B 0 0 S I J 17 [some (vR 48), some (vI v1), some (vI v2), some (vR 7), none, none, none, none, none] [vI 0] from ?_)
    exact gIret hO hQ (by decide +kernel) ⟨rfl, h⟩)
