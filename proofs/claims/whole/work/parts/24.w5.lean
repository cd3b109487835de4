set_option maxRecDepth 100000 in
theorem W12_leastFrom_104 {K : tK} {B : tB} {S : tSH} {MC MS : Nat} (hO : tKO K B RX12 cX12_leastFrom 6) (hR : kR K = tRm 2 MC MS) (hG : tGr S) {n : Nat} (t0 : ty S 61 12) {k : Int32 → tHI → tHJ → Prop} (hQ : tRet K B (tQi B (tPi S k)) 0 0 (some .int)) {I : tHI} {J : tHJ} {v3 : Int32} (h : F12_leastFrom_104 n S k I J v3) : tWG K B 0 0 S I J 104 [none, none, none, some (vI v3), none, none] [] := by
  refine gBk (pe := 105) hO [o0 (.iload_n 3)] (by decide +kernel) (show tWG K B 0 0 S I J 105 [none, none, none, some (vI v3), none, none] [vI v3] from ?_)
  exact gIret hO hQ (by decide +kernel) ⟨rfl, h⟩
set_option maxRecDepth 100000 in
theorem W12_leastFrom_23 {K : tK} {B : tB} {S : tSH} {MC MS : Nat} (hO : tKO K B RX12 cX12_leastFrom 6) (hR : kR K = tRm 2 MC MS) (hG : tGr S) {n : Nat} (t0 : ty S 61 12) {k : Int32 → tHI → tHJ → Prop} (hQ : tRet K B (tQi B (tPi S k)) 0 0 (some .int)) {kb23 : tHI → tHJ → Int32 → Int32 → Int32 → Int32 → Prop} (hkb23 : ∀ (I : tHI) (J : tHJ) (v1 : Int32) (v2 : Int32) (v3 : Int32) (v4 : Int32), kb23 I J v1 v2 v3 v4 → tWG K B 0 0 S I J 23 [some (vR 61), some (vI v1), some (vI v2), some (vI v3), some (vI v4), none] []) {I : tHI} {J : tHJ} {v1 : Int32} {v2 : Int32} {v3 : Int32} {v4 : Int32} (h : F12_leastFrom_23 n S k kb23 I J v1 v2 v3 v4) : tWG K B 0 0 S I J 23 [some (vR 61), some (vI v1), some (vI v2), some (vI v3), some (vI v4), none] [] := by
  refine gBk (pe := 27) hO [o0 (.iload 4), oI (.bipush 60) 60] (by decide +kernel) (show tWG K B 0 0 S I J 27 [some (vR 61), some (vI v1), some (vI v2), some (vI v3), some (vI v4), none] [vI 60, vI v4] from ?_)
  refine gIcGt hO (off := 77) (tgt := 104) (by decide +kernel) (by decide) (fun c4 => ?_) (fun c4 => ?_)
  · have h := h.1 c4
    exact gWeak (L' := [none, none, none, some (vI v3), none, none]) ⟨rfl, trivial⟩ (W12_leastFrom_104 hO hR hG t0 hQ h)
  · have h := h.2 c4
    refine gBk (pe := 39) hO [o0 (.iload_n 1), o0 (.aload_n 0), oF (.getfield 13) 12 3 179 63, oI (.iconst 1) 1, o0 .iaload, oI (.iconst 1) 1, o0 .isub] (by decide +kernel) (And.intro t0 (And.intro rfl (And.intro (tGr.off hG t0 (k := 3) rfl) (And.intro (tin (tGr.len hG t0 (k := 3) rfl (by decide)) (tvi (by decide +kernel))) (show tWG K B 0 0 S I J 39 [some (vR 61), some (vI v1), some (vI v2), some (vI v3), some (vI v4), none] [vI ((I 63 1) - 1), vI v1] from ?_)))))
    refine gIcGe hO (off := 65) (tgt := 104) (by decide +kernel) (by decide) (fun c5 => ?_) (fun c5 => ?_)
    · have h := h.1 c5
      exact gWeak (L' := [none, none, none, some (vI v3), none, none]) ⟨rfl, trivial⟩ (W12_leastFrom_104 hO hR hG t0 hQ h)
    · have h := h.2 c5
      refine gBk (pe := 52) hO [o0 (.iload 4), o0 (.iload_n 2), o0 (.aload_n 0), oF (.getfield 13) 12 3 179 63, oI (.iconst 5) 5, o0 .iaload, o0 .iadd] (by decide +kernel) (And.intro t0 (And.intro rfl (And.intro (tGr.off hG t0 (k := 3) rfl) (And.intro (tin (tGr.len hG t0 (k := 3) rfl (by decide)) (tvi (by decide +kernel))) (show tWG K B 0 0 S I J 52 [some (vR 61), some (vI v1), some (vI v2), some (vI v3), some (vI v4), none] [vI (v2 + (I 63 5)), vI v4] from ?_)))))
      have hj6 : ∀ (m7 : Int32), m7 = (if (v2 + (I 63 5)) < v4 then v3 else (if v4 < (v2 - (I 63 6)) then v3 else (if v3 ≤ (I 82 ((61 * (v1 + 1)) + v4).toNatClampNeg) then v3 else (I 82 ((61 * (v1 + 1)) + v4).toNatClampNeg)))) → tWG K B 0 0 S I J 98 [some (vR 61), some (vI v1), some (vI v2), some (vI m7), some (vI v4), none] [] := by
        intro m7 em7
        subst em7
        have h := h.2
        refine gBk (pe := 23) hO [oI (.iinc 4 1) 1, o0 (.goto (-78))] (by decide +kernel) (show tWG K B 0 0 S I J 23 [some (vR 61), some (vI v1), some (vI v2), some (vI (if (v2 + (I 63 5)) < v4 then v3 else (if v4 < (v2 - (I 63 6)) then v3 else (if v3 ≤ (I 82 ((61 * (v1 + 1)) + v4).toNatClampNeg) then v3 else (I 82 ((61 * (v1 + 1)) + v4).toNatClampNeg))))), some (vI (v4 + 1)), none] [] from ?_)
        exact hkb23 _ _ _ _ _ _ h
      have h := h.1
      refine gIcGt hO (off := 46) (tgt := 98) (by decide +kernel) (by decide) (fun c8 => ?_) (fun c8 => ?_)
      · have h := h.1 c8
        exact (hj6 _ (Eq.symm (if_pos c8)))
      · have h := h.2 c8
        refine gBk (pe := 66) hO [o0 (.iload 4), o0 (.iload_n 2), o0 (.aload_n 0), oF (.getfield 13) 12 3 179 63, oI (.bipush 6) 6, o0 .iaload, o0 .isub] (by decide +kernel) (And.intro t0 (And.intro rfl (And.intro (tGr.off hG t0 (k := 3) rfl) (And.intro (tin (tGr.len hG t0 (k := 3) rfl (by decide)) (tvi (by decide +kernel))) (show tWG K B 0 0 S I J 66 [some (vR 61), some (vI v1), some (vI v2), some (vI v3), some (vI v4), none] [vI (v2 - (I 63 6)), vI v4] from ?_)))))
        refine gIcLt hO (off := 32) (tgt := 98) (by decide +kernel) (by decide) (fun c9 => ?_) (fun c9 => ?_)
        · have h := h.1 c9
          exact (hj6 _ (Eq.symm ((if_neg c8).trans (if_pos c9))))
        · have h := h.2 c9
          refine gBk (pe := 88) hO [o0 (.aload_n 0), oF (.getfield 127) 12 45 225 82, oI (.bipush 61) 61, o0 (.iload_n 1), oI (.iconst 1) 1, o0 .iadd, o0 .imul, o0 (.iload 4), o0 .iadd, o0 .iaload, o0 (.istore 5), o0 (.iload 5), o0 (.iload_n 3)] (by decide +kernel) (And.intro t0 (And.intro rfl (And.intro (tGr.off hG t0 (k := 45) rfl) (And.intro (tin (tGr.len hG t0 (k := 45) rfl (by decide)) h.1) (And.intro (Nat.le_of_ble_eq_true rfl) (show tWG K B 0 0 S I J 88 [some (vR 61), some (vI v1), some (vI v2), some (vI v3), some (vI v4), some (vI (I 82 ((61 * (v1 + 1)) + v4).toNatClampNeg))] [vI v3, vI (I 82 ((61 * (v1 + 1)) + v4).toNatClampNeg)] from ?_))))))
          have h := h.2
          refine gIcGe hO (off := 8) (tgt := 96) (by decide +kernel) (by decide) (fun c10 => ?_) (fun c10 => ?_)
          · have h := h.1 c10
            refine gBk (pe := 98) hO [o0 (.iload_n 3), o0 (.istore_n 3)] (by decide +kernel) (And.intro (Nat.le_of_ble_eq_true rfl) (show tWG K B 0 0 S I J 98 [some (vR 61), some (vI v1), some (vI v2), some (vI v3), some (vI v4), some (vI (I 82 ((61 * (v1 + 1)) + v4).toNatClampNeg))] [] from ?_))
            exact gWeak (L' := [some (vR 61), some (vI v1), some (vI v2), some (vI v3), some (vI v4), none]) ⟨rfl, rfl, rfl, rfl, rfl, trivial⟩ (hj6 _ (Eq.symm ((if_neg c8).trans ((if_neg c9).trans (if_pos c10)))))
          · have h := h.2 c10
            refine gBk (pe := 98) hO [o0 (.iload 5), o0 (.goto 4), o0 (.istore_n 3)] (by decide +kernel) (And.intro (Nat.le_of_ble_eq_true rfl) (show tWG K B 0 0 S I J 98 [some (vR 61), some (vI v1), some (vI v2), some (vI (I 82 ((61 * (v1 + 1)) + v4).toNatClampNeg)), some (vI v4), some (vI (I 82 ((61 * (v1 + 1)) + v4).toNatClampNeg))] [] from ?_))
            exact gWeak (L' := [some (vR 61), some (vI v1), some (vI v2), some (vI (I 82 ((61 * (v1 + 1)) + v4).toNatClampNeg)), some (vI v4), none]) ⟨rfl, rfl, rfl, rfl, rfl, trivial⟩ (hj6 _ (Eq.symm ((if_neg c8).trans ((if_neg c9).trans (if_neg c10)))))
theorem W12_leastFrom_L23 {K : tK} {B : tB} {S : tSH} {MC MS : Nat} (hO : tKO K B RX12 cX12_leastFrom 6) (hR : kR K = tRm 2 MC MS) (hG : tGr S) {n : Nat} (t0 : ty S 61 12) {k : Int32 → tHI → tHJ → Prop} (hQ : tRet K B (tQi B (tPi S k)) 0 0 (some .int)) : ∀ (f : Nat) (I : tHI) (J : tHJ) (v1 : Int32) (v2 : Int32) (v3 : Int32) (v4 : Int32), F12_leastFrom_L23 n S k f I J v1 v2 v3 v4 → tWG K B 0 0 S I J 23 [some (vR 61), some (vI v1), some (vI v2), some (vI v3), some (vI v4), none] [] := by
  intro f
  induction f with
  | zero => intro I J v1 v2 v3 v4 h; exact h.elim
  | succ f ih => intro I J v1 v2 v3 v4 h; exact W12_leastFrom_23 hO hR hG t0 hQ ih h
set_option maxRecDepth 20000 in
theorem hc12_leastFrom : tCV yX12_leastFrom cX12_leastFrom 6 (some .int) 2 := ⟨⟨(List.mem_of_getElem? (i := 1228) rfl), (List.mem_of_getElem? (i := 5) (by decide +kernel)), by decide +kernel⟩, (List.mem_of_getElem? (i := 1226) (by decide +kernel)), (List.mem_of_getElem? (i := 1227) (by decide +kernel))⟩
set_option maxRecDepth 100000 in
theorem M12_leastFrom {l : Launch} {B : tB} {S : tSH} {I : tHI} {J : tHJ} {v1 : Int32} {v2 : Int32} {n : Nat} {k : Int32 → tHI → tHJ → Prop} (t0 : ty S 61 12) (h : F12_leastFrom n S I J v1 v2 k) : Met l yX12_leastFrom (tWs yX12_leastFrom cX12_leastFrom 6 (some .int)) (tRm 2 0 0) (tPc B [vR 61, vI v1, vI v2] S I J) (tQi B (tPi S k)) 0 0 (tA B) :=
  tEntry (by decide +kernel) [some (vR 61), some (vI v1), some (vI v2), none, none, none] rfl rfl (Nat.le_of_ble_eq_true rfl) (fun K hl hR hO hQ hG => by
  subst hl
  refine gBk (pe := 9) hO [o0 (.iload_n 1), o0 (.aload_n 0), oF (.getfield 13) 12 3 179 63, oI (.iconst 1) 1, o0 .iaload, oI (.iconst 1) 1, o0 .isub] (by decide +kernel) (And.intro t0 (And.intro rfl (And.intro (tGr.off hG t0 (k := 3) rfl) (And.intro (tin (tGr.len hG t0 (k := 3) rfl (by decide)) (tvi (by decide +kernel))) (show tWG K B 0 0 S I J 9 [some (vR 61), some (vI v1), some (vI v2), none, none, none] [vI ((I 63 1) - 1), vI v1] from ?_)))))
  have hj1 : ∀ (m2 : Int32), m2 = (if v1 = ((I 63 1) - 1) then (0 : Int32) else 100000000) → tWG K B 0 0 S I J 19 [some (vR 61), some (vI v1), some (vI v2), none, none, none] [vI m2] := by
    intro m2 em2
    subst em2
    refine gBk (pe := 23) hO [o0 (.istore_n 3), oI (.iconst 1) 1, o0 (.istore 4)] (by decide +kernel) (And.intro (Nat.le_of_ble_eq_true rfl) (And.intro (Nat.le_of_ble_eq_true rfl) (show tWG K B 0 0 S I J 23 [some (vR 61), some (vI v1), some (vI v2), some (vI (if v1 = ((I 63 1) - 1) then (0 : Int32) else 100000000)), some (vI 1), none] [] from ?_)))
    exact W12_leastFrom_L23 hO hR hG t0 hQ n _ _ _ _ _ _ h
  refine gIcNe hO (off := 7) (tgt := 16) (by decide +kernel) (by decide) (fun c3 => ?_) (fun c3 => ?_)
  · refine gBk (pe := 19) hO [(.ldc_w 467, (0, 0, 490, 0), 100000000, 0)] (by decide +kernel) (show tWG K B 0 0 S I J 19 [some (vR 61), some (vI v1), some (vI v2), none, none, none] [vI 100000000] from ?_)
    exact (hj1 _ (Eq.symm (if_neg c3)))
  · refine gBk (pe := 19) hO [oI (.iconst 0) 0, o0 (.goto 6)] (by decide +kernel) (show tWG K B 0 0 S I J 19 [some (vR 61), some (vI v1), some (vI v2), none, none, none] [vI 0] from ?_)
    exact (hj1 _ (Eq.symm (if_pos c3))))
set_option maxRecDepth 100000 in
theorem W12_findSoonest_70 {K : tK} {B : tB} {S : tSH} {MC MS : Nat} (hO : tKO K B RX12 cX12_findSoonest 4) (hR : kR K = tRm 9 MC MS) (hG : tGr S) {n : Nat} (t0 : ty S 61 12) {k : tHI → tHJ → Prop} (hQ : tRet K B (tQv B (tPv S k)) 0 0 none) {kb9 : tHI → tHJ → Int32 → Prop} (hkb9 : ∀ (I : tHI) (J : tHJ) (v1 : Int32), kb9 I J v1 → tWG K B 0 0 S I J 9 [some (vR 61), some (vI v1), none, none] []) {kb21 : tHI → tHJ → Int32 → Int32 → Int32 → Prop} (hkb21 : ∀ (I : tHI) (J : tHJ) (v1 : Int32) (v2 : Int32) (v3 : Int32), kb21 I J v1 v2 v3 → tWG K B 0 0 S I J 21 [some (vR 61), some (vI v1), some (vI v2), some (vI v3)] []) {I : tHI} {J : tHJ} {v1 : Int32} {v2 : Int32} {v3 : Int32} {s0 : Int32} {s1 : Int32} (h : F12_findSoonest_70 n S k kb9 kb21 I J v1 v2 v3 s0 s1) : tWG K B 0 0 S I J 70 [some (vR 61), some (vI v1), some (vI v2), some (vI v3)] [vI s0, vI s1, vR 82] := by
  refine gBk (pe := 21) hO [o0 .iastore, oI (.iinc 3 1) 1, o0 (.goto (-53))] (by decide +kernel) (And.intro (tGr.off hG t0 (k := 45) rfl) (And.intro (tin (tGr.len hG t0 (k := 45) rfl (by decide)) h.1) (show tWG K B 0 0 S (uI I 82 s1.toNatClampNeg s0) J 21 [some (vR 61), some (vI v1), some (vI v2), some (vI (v3 + 1))] [] from ?_)))
  have h := h.2
  exact hkb21 _ _ _ _ _ h
set_option maxRecDepth 100000 in
theorem W12_findSoonest_21 {K : tK} {B : tB} {S : tSH} {MC MS : Nat} (hO : tKO K B RX12 cX12_findSoonest 4) (hR : kR K = tRm 9 MC MS) (hG : tGr S) {n : Nat} (t0 : ty S 61 12) {k : tHI → tHJ → Prop} (hQ : tRet K B (tQv B (tPv S k)) 0 0 none) {kb9 : tHI → tHJ → Int32 → Prop} (hkb9 : ∀ (I : tHI) (J : tHJ) (v1 : Int32), kb9 I J v1 → tWG K B 0 0 S I J 9 [some (vR 61), some (vI v1), none, none] []) {kb21 : tHI → tHJ → Int32 → Int32 → Int32 → Prop} (hkb21 : ∀ (I : tHI) (J : tHJ) (v1 : Int32) (v2 : Int32) (v3 : Int32), kb21 I J v1 v2 v3 → tWG K B 0 0 S I J 21 [some (vR 61), some (vI v1), some (vI v2), some (vI v3)] []) {I : tHI} {J : tHJ} {v1 : Int32} {v2 : Int32} {v3 : Int32} (h : F12_findSoonest_21 n S k kb9 kb21 I J v1 v2 v3) : tWG K B 0 0 S I J 21 [some (vR 61), some (vI v1), some (vI v2), some (vI v3)] [] := by
  refine gBk (pe := 24) hO [o0 (.iload_n 3), oI (.bipush 60) 60] (by decide +kernel) (show tWG K B 0 0 S I J 24 [some (vR 61), some (vI v1), some (vI v2), some (vI v3)] [vI 60, vI v3] from ?_)
  refine gIcGt hO (off := 53) (tgt := 77) (by decide +kernel) (by decide) (fun c5 => ?_) (fun c5 => ?_)
  · have h := h.1 c5
    refine gBk (pe := 9) hO [oI (.iinc 1 (-1)) (-1), o0 (.goto (-71))] (by decide +kernel) (show tWG K B 0 0 S I J 9 [some (vR 61), some (vI (v1 + (-1))), some (vI v2), some (vI v3)] [] from ?_)
    exact gWeak (L' := [some (vR 61), some (vI (v1 + (-1))), none, none]) ⟨rfl, rfl, trivial⟩ (hkb9 _ _ _ h)
  · have h := h.2 c5
    refine gBk (pe := 39) hO [o0 (.aload_n 0), oF (.getfield 127) 12 45 225 82, oI (.bipush 61) 61, o0 (.iload_n 1), o0 .imul, o0 (.iload_n 3), o0 .iadd, o0 (.iload_n 3), o0 (.iload_n 2)] (by decide +kernel) (And.intro t0 (And.intro rfl (show tWG K B 0 0 S I J 39 [some (vR 61), some (vI v1), some (vI v2), some (vI v3)] [vI v2, vI v3, vI ((61 * v1) + v3), vR 82] from ?_)))
    refine gIcLe hO (off := 9) (tgt := 48) (by decide +kernel) (by decide) (fun c6 => ?_) (fun c6 => ?_)
    · have h := h.1 c6
      refine gBk (pe := 51) hO [o0 (.aload_n 0), o0 (.iload_n 1), o0 (.iload_n 3)] (by decide +kernel) (show tWG K B 0 0 S I J 51 [some (vR 61), some (vI v1), some (vI v2), some (vI v3)] [vI v3, vI v1, vR 61, vI ((61 * v1) + v3), vR 82] from ?_)
      refine gCVi_p hO (M12_timeOf t0 h.1) hc12_timeOf (idx := 484) (w := 1186) (by decide +kernel) hR (by omega) t0 ⟨by decide, rfl⟩ (vs := [vI v1, vI v3]) (st := [vI ((61 * v1) + v3), vR 82]) ⟨rfl, Nat.le_of_ble_eq_true rfl, rfl⟩ (by decide +kernel) ?_
      have h := h.2
      refine gBk (pe := 58) hO [o0 .i2l, o0 (.aload_n 0), o0 (.iload_n 1), o0 (.iload_n 3)] (by decide +kernel) (show tWG K B 0 0 S I J 58 [some (vR 61), some (vI v1), some (vI v2), some (vI v3)] [vI v3, vI v1, vR 61, vL ((V12_timeOf S I J v1 v3).toInt64), vI ((61 * v1) + v3), vR 82] from ?_)
      refine gCVi_c hO (M12_leastFrom t0 h) hc12_leastFrom (idx := 487) (w := 1225) (by decide +kernel) hR (by omega) t0 ⟨by decide, rfl⟩ (vs := [vI v1, vI v3]) (st := [vL ((V12_timeOf S I J v1 v3).toInt64), vI ((61 * v1) + v3), vR 82]) ⟨rfl, Nat.le_of_ble_eq_true rfl, rfl⟩ (by decide +kernel) (fun x9 I7 J8 h => ?_)
      refine gBk (pe := 64) hO [o0 .i2l, o0 .ladd, oI (.iconst 0) 0] (by decide +kernel) (show tWG K B 0 0 S I7 J8 64 [some (vR 61), some (vI v1), some (vI v2), some (vI v3)] [vI 0, vL ((V12_timeOf S I J v1 v3).toInt64 + x9.toInt64), vI ((61 * v1) + v3), vR 82] from ?_)
      refine gBk (pe := 67) hO [(.ldc_w 467, (0, 0, 490, 0), 100000000, 0)] (by decide +kernel) (show tWG K B 0 0 S I7 J8 67 [some (vR 61), some (vI v1), some (vI v2), some (vI v3)] [vI 100000000, vI 0, vL ((V12_timeOf S I J v1 v3).toInt64 + x9.toInt64), vI ((61 * v1) + v3), vR 82] from ?_)
      refine gCSi_p hO (M12_within) hc12_within (idx := 468) (w := 504) (by decide +kernel) hR (by omega) (vs := [vL ((V12_timeOf S I J v1 v3).toInt64 + x9.toInt64), vI 0, vI 100000000]) (st := [vI ((61 * v1) + v3), vR 82]) ⟨rfl, Nat.le_of_ble_eq_true rfl, rfl⟩ (by decide +kernel) ?_
      exact W12_findSoonest_70 hO hR hG t0 hQ hkb9 hkb21 h
    · have h := h.2 c6
      refine gBk (pe := 70) hO [(.ldc_w 467, (0, 0, 490, 0), 100000000, 0), o0 (.goto 25)] (by decide +kernel) (show tWG K B 0 0 S I J 70 [some (vR 61), some (vI v1), some (vI v2), some (vI v3)] [vI 100000000, vI ((61 * v1) + v3), vR 82] from ?_)
      exact W12_findSoonest_70 hO hR hG t0 hQ hkb9 hkb21 h
theorem W12_findSoonest_L21 {K : tK} {B : tB} {S : tSH} {MC MS : Nat} (hO : tKO K B RX12 cX12_findSoonest 4) (hR : kR K = tRm 9 MC MS) (hG : tGr S) {n : Nat} (t0 : ty S 61 12) {k : tHI → tHJ → Prop} (hQ : tRet K B (tQv B (tPv S k)) 0 0 none) {kb9 : tHI → tHJ → Int32 → Prop} (hkb9 : ∀ (I : tHI) (J : tHJ) (v1 : Int32), kb9 I J v1 → tWG K B 0 0 S I J 9 [some (vR 61), some (vI v1), none, none] []) : ∀ (f : Nat) (I : tHI) (J : tHJ) (v1 : Int32) (v2 : Int32) (v3 : Int32), F12_findSoonest_L21 n S k kb9 f I J v1 v2 v3 → tWG K B 0 0 S I J 21 [some (vR 61), some (vI v1), some (vI v2), some (vI v3)] [] := by
  intro f
  induction f with
  | zero => intro I J v1 v2 v3 h; exact h.elim
  | succ f ih => intro I J v1 v2 v3 h; exact W12_findSoonest_21 hO hR hG t0 hQ hkb9 ih h
set_option maxRecDepth 100000 in
theorem W12_findSoonest_9 {K : tK} {B : tB} {S : tSH} {MC MS : Nat} (hO : tKO K B RX12 cX12_findSoonest 4) (hR : kR K = tRm 9 MC MS) (hG : tGr S) {n : Nat} (t0 : ty S 61 12) {k : tHI → tHJ → Prop} (hQ : tRet K B (tQv B (tPv S k)) 0 0 none) {kb9 : tHI → tHJ → Int32 → Prop} (hkb9 : ∀ (I : tHI) (J : tHJ) (v1 : Int32), kb9 I J v1 → tWG K B 0 0 S I J 9 [some (vR 61), some (vI v1), none, none] []) {I : tHI} {J : tHJ} {v1 : Int32} (h : F12_findSoonest_9 n S k kb9 I J v1) : tWG K B 0 0 S I J 9 [some (vR 61), some (vI v1), none, none] [] := by
  refine gBk (pe := 10) hO [o0 (.iload_n 1)] (by decide +kernel) (show tWG K B 0 0 S I J 10 [some (vR 61), some (vI v1), none, none] [vI v1] from ?_)
  refine gIfLt hO (off := 73) (tgt := 83) (by decide +kernel) (by decide) (fun c1 => ?_) (fun c1 => ?_)
  · have h := h.1 c1
    exact gVret hO hQ (by decide +kernel) ⟨rfl, h⟩
  · have h := h.2 c1
    refine gBk (pe := 15) hO [o0 (.aload_n 0), o0 (.iload_n 1)] (by decide +kernel) (show tWG K B 0 0 S I J 15 [some (vR 61), some (vI v1), none, none] [vI v1, vR 61] from ?_)
    refine gCVi_c hO (M12_quickest t0 h) hc12_quickest (idx := 481) (w := 1182) (by decide +kernel) hR (by omega) t0 ⟨by decide, rfl⟩ (vs := [vI v1]) (st := []) ⟨rfl, Nat.le_of_ble_eq_true rfl, rfl⟩ (by decide +kernel) (fun x4 I2 J3 h => ?_)
    refine gBk (pe := 21) hO [o0 (.istore_n 2), oI (.iconst 1) 1, o0 (.istore_n 3)] (by decide +kernel) (And.intro (Nat.le_of_ble_eq_true rfl) (And.intro (Nat.le_of_ble_eq_true rfl) (show tWG K B 0 0 S I2 J3 21 [some (vR 61), some (vI v1), some (vI x4), some (vI 1)] [] from ?_)))
    exact W12_findSoonest_L21 hO hR hG t0 hQ hkb9 n _ _ _ _ _ h
theorem W12_findSoonest_L9 {K : tK} {B : tB} {S : tSH} {MC MS : Nat} (hO : tKO K B RX12 cX12_findSoonest 4) (hR : kR K = tRm 9 MC MS) (hG : tGr S) {n : Nat} (t0 : ty S 61 12) {k : tHI → tHJ → Prop} (hQ : tRet K B (tQv B (tPv S k)) 0 0 none) : ∀ (f : Nat) (I : tHI) (J : tHJ) (v1 : Int32), F12_findSoonest_L9 n S k f I J v1 → tWG K B 0 0 S I J 9 [some (vR 61), some (vI v1), none, none] [] := by
  intro f
  induction f with
  | zero => intro I J v1 h; exact h.elim
  | succ f ih => intro I J v1 h; exact W12_findSoonest_9 hO hR hG t0 hQ ih h
set_option maxRecDepth 20000 in
theorem hc12_findSoonest : tCV yX12_findSoonest cX12_findSoonest 4 none 0 := ⟨⟨(List.mem_of_getElem? (i := 1224) rfl), (List.mem_of_getElem? (i := 5) (by decide +kernel)), by decide +kernel⟩, (List.mem_of_getElem? (i := 1222) (by decide +kernel)), (List.mem_of_getElem? (i := 1223) (by decide +kernel))⟩
set_option maxRecDepth 100000 in
theorem M12_findSoonest {l : Launch} {B : tB} {S : tSH} {I : tHI} {J : tHJ} {n : Nat} {k : tHI → tHJ → Prop} (t0 : ty S 61 12) (h : F12_findSoonest n S I J k) : Met l yX12_findSoonest (tWs yX12_findSoonest cX12_findSoonest 4 none) (tRm 9 0 0) (tPc B [vR 61] S I J) (tQv B (tPv S k)) 0 0 (tA B) :=
  tEntry (by decide +kernel) [some (vR 61), none, none, none] rfl rfl (Nat.le_of_ble_eq_true rfl) (fun K hl hR hO hQ hG => by
  subst hl
  refine gBk (pe := 9) hO [o0 (.aload_n 0), oF (.getfield 13) 12 3 179 63, oI (.iconst 1) 1, o0 .iaload, oI (.iconst 1) 1, o0 .isub, o0 (.istore_n 1)] (by decide +kernel) (And.intro t0 (And.intro rfl (And.intro (tGr.off hG t0 (k := 3) rfl) (And.intro (tin (tGr.len hG t0 (k := 3) rfl (by decide)) (tvi (by decide +kernel))) (And.intro (Nat.le_of_ble_eq_true rfl) (show tWG K B 0 0 S I J 9 [some (vR 61), some (vI ((I 63 1) - 1)), none, none] [] from ?_))))))
  exact W12_findSoonest_L9 hO hR hG t0 hQ n _ _ _ h)
set_option maxRecDepth 100000 in
theorem W12_soonest_94 {K : tK} {B : tB} {S : tSH} {MC MS : Nat} (hO : tKO K B RX12 cX12_soonest 7) (hR : kR K = tRm 10 MC MS) (hG : tGr S) {n : Nat} (t0 : ty S 61 12) {k : Int32 → tHI → tHJ → Prop} (hQ : tRet K B (tQi B (tPi S k)) 0 0 (some .int)) {I : tHI} {J : tHJ} {v3 : Int32} (h : F12_soonest_94 n S k I J v3) : tWG K B 0 0 S I J 94 [none, none, none, some (vI v3), none, none, none] [] := by
  refine gBk (pe := 95) hO [o0 (.iload_n 3)] (by decide +kernel) (show tWG K B 0 0 S I J 95 [none, none, none, some (vI v3), none, none, none] [vI v3] from ?_)
  refine gBk (pe := 98) hO [(.ldc_w 467, (0, 0, 490, 0), 100000000, 0)] (by decide +kernel) (show tWG K B 0 0 S I J 98 [none, none, none, some (vI v3), none, none, none] [vI 100000000, vI v3] from ?_)
  have hj8 : ∀ (m9 : Int32), m9 = (if v3 = 100000000 then (-1) else v3) → tWG K B 0 0 S I J 106 [none, none, none, none, none, none, none] [vI m9] := by
    intro m9 em9
    subst em9
    exact gIret hO hQ (by decide +kernel) ⟨rfl, h⟩
  refine gIcNe hO (off := 7) (tgt := 105) (by decide +kernel) (by decide) (fun c10 => ?_) (fun c10 => ?_)
  · refine gBk (pe := 106) hO [o0 (.iload_n 3)] (by decide +kernel) (show tWG K B 0 0 S I J 106 [none, none, none, some (vI v3), none, none, none] [vI v3] from ?_)
    exact gWeak (L' := [none, none, none, none, none, none, none]) trivial (hj8 _ (Eq.symm (if_neg c10)))
  · refine gBk (pe := 106) hO [oI (.iconst (-1)) (-1), o0 (.goto 4)] (by decide +kernel) (show tWG K B 0 0 S I J 106 [none, none, none, some (vI v3), none, none, none] [vI (-1)] from ?_)
    exact gWeak (L' := [none, none, none, none, none, none, none]) trivial (hj8 _ (Eq.symm (if_pos c10)))
set_option maxRecDepth 100000 in
theorem W12_soonest_174 {K : tK} {B : tB} {S : tSH} {MC MS : Nat} (hO : tKO K B RX12 cX12_soonest 7) (hR : kR K = tRm 10 MC MS) (hG : tGr S) {n : Nat} (t0 : ty S 61 12) {k : Int32 → tHI → tHJ → Prop} (hQ : tRet K B (tQi B (tPi S k)) 0 0 (some .int)) {kb113 : tHI → tHJ → Int32 → Int32 → Int32 → Int32 → Prop} (hkb113 : ∀ (I : tHI) (J : tHJ) (v1 : Int32) (v3 : Int32) (v4 : Int32) (v5 : Int32), kb113 I J v1 v3 v4 v5 → tWG K B 0 0 S I J 113 [some (vR 61), some (vI v1), none, some (vI v3), some (vI v4), some (vI v5), none] []) {kb122 : tHI → tHJ → Int32 → Int32 → Int32 → Int32 → Int32 → Prop} (hkb122 : ∀ (I : tHI) (J : tHJ) (v1 : Int32) (v3 : Int32) (v4 : Int32) (v5 : Int32) (v6 : Int32), kb122 I J v1 v3 v4 v5 v6 → tWG K B 0 0 S I J 122 [some (vR 61), some (vI v1), none, some (vI v3), some (vI v4), some (vI v5), some (vI v6)] []) {I : tHI} {J : tHJ} {v1 : Int32} {v3 : Int32} {v4 : Int32} {v5 : Int32} {v6 : Int32} (h : F12_soonest_174 n S k kb113 kb122 I J v1 v3 v4 v5 v6) : tWG K B 0 0 S I J 174 [some (vR 61), some (vI v1), none, some (vI v3), some (vI v4), some (vI v5), some (vI v6)] [] := by
  refine gBk (pe := 122) hO [oI (.iinc 6 1) 1, o0 (.goto (-55))] (by decide +kernel) (show tWG K B 0 0 S I J 122 [some (vR 61), some (vI v1), none, some (vI v3), some (vI v4), some (vI v5), some (vI (v6 + 1))] [] from ?_)
  exact hkb122 _ _ _ _ _ _ _ h
set_option maxRecDepth 100000 in
theorem W12_soonest_180 {K : tK} {B : tB} {S : tSH} {MC MS : Nat} (hO : tKO K B RX12 cX12_soonest 7) (hR : kR K = tRm 10 MC MS) (hG : tGr S) {n : Nat} (t0 : ty S 61 12) {k : Int32 → tHI → tHJ → Prop} (hQ : tRet K B (tQi B (tPi S k)) 0 0 (some .int)) {kb113 : tHI → tHJ → Int32 → Int32 → Int32 → Int32 → Prop} (hkb113 : ∀ (I : tHI) (J : tHJ) (v1 : Int32) (v3 : Int32) (v4 : Int32) (v5 : Int32), kb113 I J v1 v3 v4 v5 → tWG K B 0 0 S I J 113 [some (vR 61), some (vI v1), none, some (vI v3), some (vI v4), some (vI v5), none] []) {I : tHI} {J : tHJ} {v1 : Int32} {v3 : Int32} {v5 : Int32} {v6 : Int32} (h : F12_soonest_180 n S k kb113 I J v1 v3 v5 v6) : tWG K B 0 0 S I J 180 [some (vR 61), some (vI v1), none, some (vI v3), none, some (vI v5), some (vI v6)] [] := by
  refine gBk (pe := 190) hO [o0 (.iload 6), o0 (.istore 4), o0 (.iload_n 3), o0 (.aload_n 0), o0 (.iload 5), o0 (.iload 6)] (by decide +kernel) (And.intro (Nat.le_of_ble_eq_true rfl) (show tWG K B 0 0 S I J 190 [some (vR 61), some (vI v1), none, some (vI v3), some (vI v6), some (vI v5), some (vI v6)] [vI v6, vI v5, vR 61, vI v3] from ?_))
  refine gCVi_p hO (M12_timeOf t0 h.1) hc12_timeOf (idx := 484) (w := 1186) (by decide +kernel) hR (by omega) t0 ⟨by decide, rfl⟩ (vs := [vI v5, vI v6]) (st := [vI v3]) ⟨rfl, Nat.le_of_ble_eq_true rfl, rfl⟩ (by decide +kernel) ?_
  have h := h.2
  refine gBk (pe := 113) hO [o0 .isub, o0 (.istore_n 3), oI (.iinc 5 1) 1, o0 (.goto (-85))] (by decide +kernel) (And.intro (Nat.le_of_ble_eq_true rfl) (show tWG K B 0 0 S I J 113 [some (vR 61), some (vI v1), none, some (vI (v3 - (V12_timeOf S I J v5 v6))), some (vI v6), some (vI (v5 + 1)), some (vI v6)] [] from ?_))
  exact gWeak (L' := [some (vR 61), some (vI v1), none, some (vI (v3 - (V12_timeOf S I J v5 v6))), some (vI v6), some (vI (v5 + 1)), none]) ⟨rfl, rfl, rfl, rfl, rfl, trivial⟩ (hkb113 _ _ _ _ _ _ h)
set_option maxRecDepth 100000 in
theorem W12_soonest_122 {K : tK} {B : tB} {S : tSH} {MC MS : Nat} (hO : tKO K B RX12 cX12_soonest 7) (hR : kR K = tRm 10 MC MS) (hG : tGr S) {n : Nat} (t0 : ty S 61 12) {k : Int32 → tHI → tHJ → Prop} (hQ : tRet K B (tQi B (tPi S k)) 0 0 (some .int)) {kb113 : tHI → tHJ → Int32 → Int32 → Int32 → Int32 → Prop} (hkb113 : ∀ (I : tHI) (J : tHJ) (v1 : Int32) (v3 : Int32) (v4 : Int32) (v5 : Int32), kb113 I J v1 v3 v4 v5 → tWG K B 0 0 S I J 113 [some (vR 61), some (vI v1), none, some (vI v3), some (vI v4), some (vI v5), none] []) {kb122 : tHI → tHJ → Int32 → Int32 → Int32 → Int32 → Int32 → Prop} (hkb122 : ∀ (I : tHI) (J : tHJ) (v1 : Int32) (v3 : Int32) (v4 : Int32) (v5 : Int32) (v6 : Int32), kb122 I J v1 v3 v4 v5 v6 → tWG K B 0 0 S I J 122 [some (vR 61), some (vI v1), none, some (vI v3), some (vI v4), some (vI v5), some (vI v6)] []) {I : tHI} {J : tHJ} {v1 : Int32} {v3 : Int32} {v4 : Int32} {v5 : Int32} {v6 : Int32} (h : F12_soonest_122 n S k kb113 kb122 I J v1 v3 v4 v5 v6) : tWG K B 0 0 S I J 122 [some (vR 61), some (vI v1), none, some (vI v3), some (vI v4), some (vI v5), some (vI v6)] [] := by
  refine gBk (pe := 136) hO [o0 (.aload_n 0), oF (.getfield 127) 12 45 225 82, oI (.bipush 61) 61, o0 (.iload 5), o0 .imul, o0 (.iload 6), o0 .iadd, o0 .iaload, o0 (.iload_n 3)] (by decide +kernel) (And.intro t0 (And.intro rfl (And.intro (tGr.off hG t0 (k := 45) rfl) (And.intro (tin (tGr.len hG t0 (k := 45) rfl (by decide)) h.1) (show tWG K B 0 0 S I J 136 [some (vR 61), some (vI v1), none, some (vI v3), some (vI v4), some (vI v5), some (vI v6)] [vI v3, vI (I 82 ((61 * v5) + v6).toNatClampNeg)] from ?_)))))
  have h := h.2
  refine gIcNe hO (off := 38) (tgt := 174) (by decide +kernel) (by decide) (fun c13 => ?_) (fun c13 => ?_)
  · have h := h.1 c13
    exact W12_soonest_174 hO hR hG t0 hQ hkb113 hkb122 h
  · have h := h.2 c13
    refine gBk (pe := 142) hO [o0 (.iload 4), oI (.iconst (-1)) (-1)] (by decide +kernel) (show tWG K B 0 0 S I J 142 [some (vR 61), some (vI v1), none, some (vI v3), some (vI v4), some (vI v5), some (vI v6)] [vI (-1), vI v4] from ?_)
    refine gIcEq hO (off := 38) (tgt := 180) (by decide +kernel) (by decide) (fun c14 => ?_) (fun c14 => ?_)
    · have h := h.1 c14
      exact gWeak (L' := [some (vR 61), some (vI v1), none, some (vI v3), none, some (vI v5), some (vI v6)]) ⟨rfl, rfl, rfl, rfl, rfl, trivial⟩ (W12_soonest_180 hO hR hG t0 hQ hkb113 h)
    · have h := h.2 c14
      refine gBk (pe := 156) hO [o0 (.iload 6), o0 (.iload 4), o0 (.aload_n 0), oF (.getfield 13) 12 3 179 63, oI (.iconst 5) 5, o0 .iaload, o0 .iadd] (by decide +kernel) (And.intro t0 (And.intro rfl (And.intro (tGr.off hG t0 (k := 3) rfl) (And.intro (tin (tGr.len hG t0 (k := 3) rfl (by decide)) (tvi (by decide +kernel))) (show tWG K B 0 0 S I J 156 [some (vR 61), some (vI v1), none, some (vI v3), some (vI v4), some (vI v5), some (vI v6)] [vI (v4 + (I 63 5)), vI v6] from ?_)))))
      refine gIcGt hO (off := 18) (tgt := 174) (by decide +kernel) (by decide) (fun c15 => ?_) (fun c15 => ?_)
      · have h := h.1 c15
        exact W12_soonest_174 hO hR hG t0 hQ hkb113 hkb122 h
      · have h := h.2 c15
        refine gBk (pe := 171) hO [o0 (.iload 6), o0 (.iload 4), o0 (.aload_n 0), oF (.getfield 13) 12 3 179 63, oI (.bipush 6) 6, o0 .iaload, o0 .isub] (by decide +kernel) (And.intro t0 (And.intro rfl (And.intro (tGr.off hG t0 (k := 3) rfl) (And.intro (tin (tGr.len hG t0 (k := 3) rfl (by decide)) (tvi (by decide +kernel))) (show tWG K B 0 0 S I J 171 [some (vR 61), some (vI v1), none, some (vI v3), some (vI v4), some (vI v5), some (vI v6)] [vI (v4 - (I 63 6)), vI v6] from ?_)))))
        refine gIcGe hO (off := 9) (tgt := 180) (by decide +kernel) (by decide) (fun c16 => ?_) (fun c16 => ?_)
        · have h := h.1 c16
          exact gWeak (L' := [some (vR 61), some (vI v1), none, some (vI v3), none, some (vI v5), some (vI v6)]) ⟨rfl, rfl, rfl, rfl, rfl, trivial⟩ (W12_soonest_180 hO hR hG t0 hQ hkb113 h)
        · have h := h.2 c16
          exact W12_soonest_174 hO hR hG t0 hQ hkb113 hkb122 h
theorem W12_soonest_L122 {K : tK} {B : tB} {S : tSH} {MC MS : Nat} (hO : tKO K B RX12 cX12_soonest 7) (hR : kR K = tRm 10 MC MS) (hG : tGr S) {n : Nat} (t0 : ty S 61 12) {k : Int32 → tHI → tHJ → Prop} (hQ : tRet K B (tQi B (tPi S k)) 0 0 (some .int)) {kb113 : tHI → tHJ → Int32 → Int32 → Int32 → Int32 → Prop} (hkb113 : ∀ (I : tHI) (J : tHJ) (v1 : Int32) (v3 : Int32) (v4 : Int32) (v5 : Int32), kb113 I J v1 v3 v4 v5 → tWG K B 0 0 S I J 113 [some (vR 61), some (vI v1), none, some (vI v3), some (vI v4), some (vI v5), none] []) : ∀ (f : Nat) (I : tHI) (J : tHJ) (v1 : Int32) (v3 : Int32) (v4 : Int32) (v5 : Int32) (v6 : Int32), F12_soonest_L122 n S k kb113 f I J v1 v3 v4 v5 v6 → tWG K B 0 0 S I J 122 [some (vR 61), some (vI v1), none, some (vI v3), some (vI v4), some (vI v5), some (vI v6)] [] := by
  intro f
  induction f with
  | zero => intro I J v1 v3 v4 v5 v6 h; exact h.elim
  | succ f ih => intro I J v1 v3 v4 v5 v6 h; exact W12_soonest_122 hO hR hG t0 hQ hkb113 ih h
set_option maxRecDepth 100000 in
theorem W12_soonest_113 {K : tK} {B : tB} {S : tSH} {MC MS : Nat} (hO : tKO K B RX12 cX12_soonest 7) (hR : kR K = tRm 10 MC MS) (hG : tGr S) {n : Nat} (t0 : ty S 61 12) {k : Int32 → tHI → tHJ → Prop} (hQ : tRet K B (tQi B (tPi S k)) 0 0 (some .int)) {kb113 : tHI → tHJ → Int32 → Int32 → Int32 → Int32 → Prop} (hkb113 : ∀ (I : tHI) (J : tHJ) (v1 : Int32) (v3 : Int32) (v4 : Int32) (v5 : Int32), kb113 I J v1 v3 v4 v5 → tWG K B 0 0 S I J 113 [some (vR 61), some (vI v1), none, some (vI v3), some (vI v4), some (vI v5), none] []) {I : tHI} {J : tHJ} {v1 : Int32} {v3 : Int32} {v4 : Int32} {v5 : Int32} (h : F12_soonest_113 n S k kb113 I J v1 v3 v4 v5) : tWG K B 0 0 S I J 113 [some (vR 61), some (vI v1), none, some (vI v3), some (vI v4), some (vI v5), none] [] := by
  refine gBk (pe := 116) hO [o0 (.iload 5), o0 (.iload_n 1)] (by decide +kernel) (show tWG K B 0 0 S I J 116 [some (vR 61), some (vI v1), none, some (vI v3), some (vI v4), some (vI v5), none] [vI v1, vI v5] from ?_)
  refine gIcGt hO (off := 85) (tgt := 201) (by decide +kernel) (by decide) (fun c12 => ?_) (fun c12 => ?_)
  · have h := h.1 c12
    refine gBk (pe := 203) hO [o0 (.iload 4)] (by decide +kernel) (show tWG K B 0 0 S I J 203 [some (vR 61), some (vI v1), none, some (vI v3), some (vI v4), some (vI v5), none] [vI v4] from ?_)
    exact gIret hO hQ (by decide +kernel) ⟨rfl, h⟩
  · have h := h.2 c12
    refine gBk (pe := 122) hO [oI (.iconst 1) 1, o0 (.istore 6)] (by decide +kernel) (And.intro (Nat.le_of_ble_eq_true rfl) (show tWG K B 0 0 S I J 122 [some (vR 61), some (vI v1), none, some (vI v3), some (vI v4), some (vI v5), some (vI 1)] [] from ?_))
    exact W12_soonest_L122 hO hR hG t0 hQ hkb113 n _ _ _ _ _ _ _ h
theorem W12_soonest_L113 {K : tK} {B : tB} {S : tSH} {MC MS : Nat} (hO : tKO K B RX12 cX12_soonest 7) (hR : kR K = tRm 10 MC MS) (hG : tGr S) {n : Nat} (t0 : ty S 61 12) {k : Int32 → tHI → tHJ → Prop} (hQ : tRet K B (tQi B (tPi S k)) 0 0 (some .int)) : ∀ (f : Nat) (I : tHI) (J : tHJ) (v1 : Int32) (v3 : Int32) (v4 : Int32) (v5 : Int32), F12_soonest_L113 n S k f I J v1 v3 v4 v5 → tWG K B 0 0 S I J 113 [some (vR 61), some (vI v1), none, some (vI v3), some (vI v4), some (vI v5), none] [] := by
  intro f
  induction f with
  | zero => intro I J v1 v3 v4 v5 h; exact h.elim
  | succ f ih => intro I J v1 v3 v4 v5 h; exact W12_soonest_113 hO hR hG t0 hQ ih h
set_option maxRecDepth 100000 in
theorem W12_soonest_46 {K : tK} {B : tB} {S : tSH} {MC MS : Nat} (hO : tKO K B RX12 cX12_soonest 7) (hR : kR K = tRm 10 MC MS) (hG : tGr S) {n : Nat} (t0 : ty S 61 12) {k : Int32 → tHI → tHJ → Prop} (hQ : tRet K B (tQi B (tPi S k)) 0 0 (some .int)) {kb46 : tHI → tHJ → Int32 → Int32 → Int32 → Prop} (hkb46 : ∀ (I : tHI) (J : tHJ) (v1 : Int32) (v3 : Int32) (v4 : Int32), kb46 I J v1 v3 v4 → tWG K B 0 0 S I J 46 [some (vR 61), some (vI v1), none, some (vI v3), some (vI v4), none, none] []) {I : tHI} {J : tHJ} {v1 : Int32} {v3 : Int32} {v4 : Int32} (h : F12_soonest_46 n S k kb46 I J v1 v3 v4) : tWG K B 0 0 S I J 46 [some (vR 61), some (vI v1), none, some (vI v3), some (vI v4), none, none] [] := by
  refine gBk (pe := 50) hO [o0 (.iload 4), oI (.bipush 60) 60] (by decide +kernel) (show tWG K B 0 0 S I J 50 [some (vR 61), some (vI v1), none, some (vI v3), some (vI v4), none, none] [vI 60, vI v4] from ?_)
  refine gIcGt hO (off := 32) (tgt := 82) (by decide +kernel) (by decide) (fun c6 => ?_) (fun c6 => ?_)
  · have h := h.1 c6
    refine gBk (pe := 83) hO [o0 (.iload_n 3)] (by decide +kernel) (show tWG K B 0 0 S I J 83 [some (vR 61), some (vI v1), none, some (vI v3), some (vI v4), none, none] [vI v3] from ?_)
    refine gBk (pe := 86) hO [(.ldc_w 467, (0, 0, 490, 0), 100000000, 0)] (by decide +kernel) (show tWG K B 0 0 S I J 86 [some (vR 61), some (vI v1), none, some (vI v3), some (vI v4), none, none] [vI 100000000, vI v3] from ?_)
    refine gIcEq hO (off := 8) (tgt := 94) (by decide +kernel) (by decide) (fun c7 => ?_) (fun c7 => ?_)
    · have h := h.1 c7
      exact gWeak (L' := [none, none, none, some (vI v3), none, none, none]) ⟨rfl, trivial⟩ (W12_soonest_94 hO hR hG t0 hQ h)
    · have h := h.2 c7
      refine gBk (pe := 91) hO [o0 (.iload_n 1), oI (.iconst (-1)) (-1)] (by decide +kernel) (show tWG K B 0 0 S I J 91 [some (vR 61), some (vI v1), none, some (vI v3), some (vI v4), none, none] [vI (-1), vI v1] from ?_)
      refine gIcNe hO (off := 16) (tgt := 107) (by decide +kernel) (by decide) (fun c11 => ?_) (fun c11 => ?_)
      · have h := h.1 c11
        refine gBk (pe := 113) hO [oI (.iconst (-1)) (-1), o0 (.istore 4), oI (.iconst 0) 0, o0 (.istore 5)] (by decide +kernel) (And.intro (Nat.le_of_ble_eq_true rfl) (And.intro (Nat.le_of_ble_eq_true rfl) (show tWG K B 0 0 S I J 113 [some (vR 61), some (vI v1), none, some (vI v3), some (vI (-1)), some (vI 0), none] [] from ?_)))
        exact W12_soonest_L113 hO hR hG t0 hQ n _ _ _ _ _ _ h
      · have h := h.2 c11
        exact gWeak (L' := [none, none, none, some (vI v3), none, none, none]) ⟨rfl, trivial⟩ (W12_soonest_94 hO hR hG t0 hQ h)
  · have h := h.2 c6
    refine gBk (pe := 61) hO [o0 (.aload_n 0), oF (.getfield 127) 12 45 225 82, o0 (.iload 4), o0 .iaload, o0 (.iload_n 3)] (by decide +kernel) (And.intro t0 (And.intro rfl (And.intro (tGr.off hG t0 (k := 45) rfl) (And.intro (tin (tGr.len hG t0 (k := 45) rfl (by decide)) h.1) (show tWG K B 0 0 S I J 61 [some (vR 61), some (vI v1), none, some (vI v3), some (vI v4), none, none] [vI v3, vI (I 82 v4.toNatClampNeg)] from ?_)))))
    have h := h.2
    have hj17 : ∀ (m18 : Int32), m18 = (if v3 ≤ (I 82 v4.toNatClampNeg) then v3 else (I 82 v4.toNatClampNeg)) → tWG K B 0 0 S I J 75 [some (vR 61), some (vI v1), none, none, some (vI v4), none, none] [vI m18] := by
      intro m18 em18
      subst em18
      have h := h.2
      refine gBk (pe := 46) hO [o0 (.istore_n 3), oI (.iinc 4 1) 1, o0 (.goto (-33))] (by decide +kernel) (And.intro (Nat.le_of_ble_eq_true rfl) (show tWG K B 0 0 S I J 46 [some (vR 61), some (vI v1), none, some (vI (if v3 ≤ (I 82 v4.toNatClampNeg) then v3 else (I 82 v4.toNatClampNeg))), some (vI (v4 + 1)), none, none] [] from ?_))
      exact hkb46 _ _ _ _ _ h
    have h := h.1
    refine gIcGe hO (off := 13) (tgt := 74) (by decide +kernel) (by decide) (fun c19 => ?_) (fun c19 => ?_)
    · have h := h.1 c19
      refine gBk (pe := 75) hO [o0 (.iload_n 3)] (by decide +kernel) (show tWG K B 0 0 S I J 75 [some (vR 61), some (vI v1), none, some (vI v3), some (vI v4), none, none] [vI v3] from ?_)
      exact gWeak (L' := [some (vR 61), some (vI v1), none, none, some (vI v4), none, none]) ⟨rfl, rfl, rfl, trivial⟩ (hj17 _ (Eq.symm (if_pos c19)))
    · have h := h.2 c19
      refine gBk (pe := 75) hO [o0 (.aload_n 0), oF (.getfield 127) 12 45 225 82, o0 (.iload 4), o0 .iaload, o0 (.goto 4)] (by decide +kernel) (And.intro t0 (And.intro rfl (And.intro (tGr.off hG t0 (k := 45) rfl) (And.intro (tin (tGr.len hG t0 (k := 45) rfl (by decide)) h.1) (show tWG K B 0 0 S I J 75 [some (vR 61), some (vI v1), none, some (vI v3), some (vI v4), none, none] [vI (I 82 v4.toNatClampNeg)] from ?_)))))
      have h := h.2
      exact gWeak (L' := [some (vR 61), some (vI v1), none, none, some (vI v4), none, none]) ⟨rfl, rfl, rfl, trivial⟩ (hj17 _ (Eq.symm (if_neg c19)))
theorem W12_soonest_L46 {K : tK} {B : tB} {S : tSH} {MC MS : Nat} (hO : tKO K B RX12 cX12_soonest 7) (hR : kR K = tRm 10 MC MS) (hG : tGr S) {n : Nat} (t0 : ty S 61 12) {k : Int32 → tHI → tHJ → Prop} (hQ : tRet K B (tQi B (tPi S k)) 0 0 (some .int)) : ∀ (f : Nat) (I : tHI) (J : tHJ) (v1 : Int32) (v3 : Int32) (v4 : Int32), F12_soonest_L46 n S k f I J v1 v3 v4 → tWG K B 0 0 S I J 46 [some (vR 61), some (vI v1), none, some (vI v3), some (vI v4), none, none] [] := by
  intro f
  induction f with
  | zero => intro I J v1 v3 v4 h; exact h.elim
  | succ f ih => intro I J v1 v3 v4 h; exact W12_soonest_46 hO hR hG t0 hQ ih h
set_option maxRecDepth 20000 in
theorem hc12_soonest : tCV yX12_soonest cX12_soonest 7 (some .int) 1 := ⟨⟨(List.mem_of_getElem? (i := 1220) rfl), (List.mem_of_getElem? (i := 5) (by decide +kernel)), by decide +kernel⟩, (List.mem_of_getElem? (i := 1218) (by decide +kernel)), (List.mem_of_getElem? (i := 1219) (by decide +kernel))⟩
set_option maxRecDepth 100000 in
theorem M12_soonest {l : Launch} {B : tB} {S : tSH} {I : tHI} {J : tHJ} {v1 : Int32} {n : Nat} {k : Int32 → tHI → tHJ → Prop} (t0 : ty S 61 12) (h : F12_soonest n S I J v1 k) : Met l yX12_soonest (tWs yX12_soonest cX12_soonest 7 (some .int)) (tRm 10 0 0) (tPc B [vR 61, vI v1] S I J) (tQi B (tPi S k)) 0 0 (tA B) :=
  tEntry (by decide +kernel) [some (vR 61), some (vI v1), none, none, none, none, none] rfl rfl (Nat.le_of_ble_eq_true rfl) (fun K hl hR hO hQ hG => by
  subst hl
  refine gBk (pe := 14) hO [o0 (.aload_n 0), oI (.iconst 0) 0, oF (.putfield 161) 12 0 316 0, o0 (.aload_n 0), oF (.getfield 13) 12 3 179 63, oI (.iconst 1) 1, o0 .iaload, o0 (.istore_n 2), o0 (.iload_n 1), o0 .i2l] (by decide +kernel) (And.intro t0 (And.intro t0 (And.intro rfl (And.intro (tGr.off hG t0 (k := 3) rfl) (And.intro (tin (tGr.len hG t0 (k := 3) rfl (by decide)) (tvi (by decide +kernel))) (And.intro (Nat.le_of_ble_eq_true rfl) (show tWG K B 0 0 S (uI I 61 0 0) J 14 [some (vR 61), some (vI v1), some (vI ((uI I 61 0 0) 63 1)), none, none, none, none] [vL v1.toInt64] from ?_)))))))
  refine gBk (pe := 21) hO [(.ldc2_w 288, (0, 0, 331, 0), 0, (-1)), o0 (.iload_n 2), o0 .i2l, oJ (.lconst 1) 0 1, o0 .lsub] (by decide +kernel) (show tWG K B 0 0 S (uI I 61 0 0) J 21 [some (vR 61), some (vI v1), some (vI ((uI I 61 0 0) 63 1)), none, none, none, none] [vL (((uI I 61 0 0) 63 1).toInt64 - 1), vL (-1), vL v1.toInt64] from ?_)
  refine gCSi_z hO (M12_in) hc12_in (idx := 181) (w := 319) (by decide +kernel) hR (by omega) (vs := [vL v1.toInt64, vL (-1), vL (((uI I 61 0 0) 63 1).toInt64 - 1)]) (st := []) ⟨rfl, Nat.le_of_ble_eq_true rfl, rfl⟩ (by decide +kernel) (fun z1 => ?_)
  refine gIfNe hO (off := 5) (tgt := 29) (by decide +kernel) (by decide) (fun c2 => ?_) (fun c2 => ?_)
  · have h := h.1 c2
    refine gBk (pe := 30) hO [o0 (.iload_n 2)] (by decide +kernel) (show tWG K B 0 0 S (uI I 61 0 0) J 30 [some (vR 61), some (vI v1), some (vI ((uI I 61 0 0) 63 1)), none, none, none, none] [vI ((uI I 61 0 0) 63 1)] from ?_)
    refine gIfNe hO (off := 5) (tgt := 35) (by decide +kernel) (by decide) (fun c3 => ?_) (fun c3 => ?_)
    · have h := h.1 c3
      refine gBk (pe := 36) hO [o0 (.aload_n 0)] (by decide +kernel) (show tWG K B 0 0 S (uI I 61 0 0) J 36 [some (vR 61), some (vI v1), some (vI ((uI I 61 0 0) 63 1)), none, none, none, none] [vR 61] from ?_)
      refine gCVv_c hO (M12_findSoonest t0 h) hc12_findSoonest (idx := 490) (w := 1221) (by decide +kernel) hR (by omega) t0 ⟨by decide, rfl⟩ (vs := []) (st := []) ⟨rfl, Nat.le_of_ble_eq_true rfl, rfl⟩ (by decide +kernel) (fun I4 J5 h => ?_)
      refine gBk (pe := 46) hO [(.ldc_w 467, (0, 0, 490, 0), 100000000, 0), o0 (.istore_n 3), oI (.iconst 1) 1, o0 (.istore 4)] (by decide +kernel) (And.intro (Nat.le_of_ble_eq_true rfl) (And.intro (Nat.le_of_ble_eq_true rfl) (show tWG K B 0 0 S I4 J5 46 [some (vR 61), some (vI v1), some (vI ((uI I 61 0 0) 63 1)), some (vI 100000000), some (vI 1), none, none] [] from ?_)))
      exact gWeak (L' := [some (vR 61), some (vI v1), none, some (vI 100000000), some (vI 1), none, none]) ⟨rfl, rfl, rfl, rfl, trivial⟩ (W12_soonest_L46 hO hR hG t0 hQ n _ _ _ _ _ h)
    · have h := h.2 c3
      refine gBk (pe := 34) hO [oI (.iconst 0) 0] (by decide +kernel) (show tWG K B 0 0 S (uI I 61 0 0) J 34 [some (vR 61), some (vI v1), some (vI ((uI I 61 0 0) 63 1)), none, none, none, none] [vI 0] from ?_)
      exact gIret hO hQ (by decide +kernel) ⟨rfl, h⟩
  · have h := h.2 c2
    refine gBk (pe := 28) hO [oI (.iconst (-1)) (-1)] (by decide +kernel) (show tWG K B 0 0 S (uI I 61 0 0) J 28 [some (vR 61), some (vI v1), some (vI ((uI I 61 0 0) 63 1)), none, none, none, none] [vI (-1)] from ?_)
    exact gIret hO hQ (by decide +kernel) ⟨rfl, h⟩)
set_option maxRecDepth 100000 in
theorem W12_holesUnder_5 {K : tK} {B : tB} {S : tSH} {MC MS : Nat} (hO : tKO K B RX12 cX12_holesUnder 5) (hR : kR K = tRm 3 MC MS) (hG : tGr S) {n : Nat} (t0 : ty S 61 12) {k : Int32 → tHI → tHJ → Prop} (hQ : tRet K B (tQi B (tPi S k)) 0 0 (some .int)) {kb5 : tHI → tHJ → Int32 → Int32 → Int32 → Int32 → Prop} (hkb5 : ∀ (I : tHI) (J : tHJ) (v1 : Int32) (v2 : Int32) (v3 : Int32) (v4 : Int32), kb5 I J v1 v2 v3 v4 → tWG K B 0 0 S I J 5 [some (vR 61), some (vI v1), some (vI v2), some (vI v3), some (vI v4)] []) {I : tHI} {J : tHJ} {v1 : Int32} {v2 : Int32} {v3 : Int32} {v4 : Int32} (h : F12_holesUnder_5 n S k kb5 I J v1 v2 v3 v4) : tWG K B 0 0 S I J 5 [some (vR 61), some (vI v1), some (vI v2), some (vI v3), some (vI v4)] [] := by
  refine gBk (pe := 8) hO [o0 (.iload 4), oI (.iconst 3) 3] (by decide +kernel) (show tWG K B 0 0 S I J 8 [some (vR 61), some (vI v1), some (vI v2), some (vI v3), some (vI v4)] [vI 3, vI v4] from ?_)
  refine gIcGe hO (off := 25) (tgt := 33) (by decide +kernel) (by decide) (fun c1 => ?_) (fun c1 => ?_)
  · have h := h.1 c1
    refine gBk (pe := 34) hO [o0 (.iload_n 3)] (by decide +kernel) (show tWG K B 0 0 S I J 34 [some (vR 61), some (vI v1), some (vI v2), some (vI v3), some (vI v4)] [vI v3] from ?_)
    exact gIret hO hQ (by decide +kernel) ⟨rfl, h⟩
  · have h := h.2 c1
    refine gBk (pe := 15) hO [o0 (.iload_n 3), o0 (.aload_n 0), o0 (.iload_n 1), oI (.iconst 3) 3] (by decide +kernel) (show tWG K B 0 0 S I J 15 [some (vR 61), some (vI v1), some (vI v2), some (vI v3), some (vI v4)] [vI 3, vI v1, vR 61, vI v3] from ?_)
    refine gCVi_p hO (M12_ofBend t0 h.1) hc12_ofBend (idx := 240) (w := 356) (by decide +kernel) hR (by omega) t0 ⟨by decide, rfl⟩ (vs := [vI v1, vI 3]) (st := [vI v3]) ⟨rfl, Nat.le_of_ble_eq_true rfl, rfl⟩ (by decide +kernel) ?_
    have h := h.2
    refine gBk (pe := 5) hO [o0 (.iload_n 2), o0 (.iload 4), o0 .iadd, o0 .ishr, oI (.iconst 1) 1, o0 .iand, o0 .iadd, o0 (.istore_n 3), oI (.iinc 4 1) 1, o0 (.goto (-25))] (by decide +kernel) (And.intro (Nat.le_of_ble_eq_true rfl) (show tWG K B 0 0 S I J 5 [some (vR 61), some (vI v1), some (vI v2), some (vI (v3 + (((V12_ofBend S I J v1 3) >>> ((v2 + v4) &&& 31)) &&& 1))), some (vI (v4 + 1))] [] from ?_))
    exact hkb5 _ _ _ _ _ _ h
theorem W12_holesUnder_L5 {K : tK} {B : tB} {S : tSH} {MC MS : Nat} (hO : tKO K B RX12 cX12_holesUnder 5) (hR : kR K = tRm 3 MC MS) (hG : tGr S) {n : Nat} (t0 : ty S 61 12) {k : Int32 → tHI → tHJ → Prop} (hQ : tRet K B (tQi B (tPi S k)) 0 0 (some .int)) : ∀ (f : Nat) (I : tHI) (J : tHJ) (v1 : Int32) (v2 : Int32) (v3 : Int32) (v4 : Int32), F12_holesUnder_L5 n S k f I J v1 v2 v3 v4 → tWG K B 0 0 S I J 5 [some (vR 61), some (vI v1), some (vI v2), some (vI v3), some (vI v4)] [] := by
  intro f
  induction f with
  | zero => intro I J v1 v2 v3 v4 h; exact h.elim
  | succ f ih => intro I J v1 v2 v3 v4 h; exact W12_holesUnder_5 hO hR hG t0 hQ ih h
set_option maxRecDepth 20000 in
theorem hc12_holesUnder : tCV yX12_holesUnder cX12_holesUnder 5 (some .int) 2 := ⟨⟨(List.mem_of_getElem? (i := 1264) rfl), (List.mem_of_getElem? (i := 5) (by decide +kernel)), by decide +kernel⟩, (List.mem_of_getElem? (i := 1262) (by decide +kernel)), (List.mem_of_getElem? (i := 1263) (by decide +kernel))⟩
set_option maxRecDepth 100000 in
theorem M12_holesUnder {l : Launch} {B : tB} {S : tSH} {I : tHI} {J : tHJ} {v1 : Int32} {v2 : Int32} {n : Nat} {k : Int32 → tHI → tHJ → Prop} (t0 : ty S 61 12) (h : F12_holesUnder n S I J v1 v2 k) : Met l yX12_holesUnder (tWs yX12_holesUnder cX12_holesUnder 5 (some .int)) (tRm 3 0 0) (tPc B [vR 61, vI v1, vI v2] S I J) (tQi B (tPi S k)) 0 0 (tA B) :=
  tEntry (by decide +kernel) [some (vR 61), some (vI v1), some (vI v2), none, none] rfl rfl (Nat.le_of_ble_eq_true rfl) (fun K hl hR hO hQ hG => by
  subst hl
  refine gBk (pe := 5) hO [oI (.iconst 0) 0, o0 (.istore_n 3), oI (.iconst 0) 0, o0 (.istore 4)] (by decide +kernel) (And.intro (Nat.le_of_ble_eq_true rfl) (And.intro (Nat.le_of_ble_eq_true rfl) (show tWG K B 0 0 S I J 5 [some (vR 61), some (vI v1), some (vI v2), some (vI 0), some (vI 0)] [] from ?_)))
  exact W12_holesUnder_L5 hO hR hG t0 hQ n _ _ _ _ _ _ h)
set_option maxRecDepth 20000 in
theorem hc12_isBeside : tCm yX12_isBeside cX12_isBeside 2 (some .boolean) 2 ∧ Cond.static yX12_isBeside ∈ wsL_law := ⟨⟨(List.mem_of_getElem? (i := 1033) rfl), (List.mem_of_getElem? (i := 5) (by decide +kernel)), by decide +kernel⟩, (List.mem_of_getElem? (i := 1032) (by decide +kernel))⟩
set_option maxRecDepth 100000 in
theorem M12_isBeside {l : Launch} {B : tB} {S : tSH} {I : tHI} {J : tHJ} {v0 : Int32} {v1 : Int32} : Met l yX12_isBeside (tWs yX12_isBeside cX12_isBeside 2 (some .boolean)) (tRm 3 0 0) (tPc B [vI v0, vI v1] S I J) (tQi B (tPz S I J (V12_isBeside v0 v1))) 0 0 (tA B) :=
  tEntry (by decide +kernel) [some (vI v0), some (vI v1)] rfl rfl (Nat.le_of_ble_eq_true rfl) (fun K hl hR hO hQ hG => by
  subst hl
  refine gBk (pe := 4) hO [o0 (.iload_n 0), o0 (.iload_n 1), o0 .isub, o0 .i2l] (by decide +kernel) (show tWG K B 0 0 S I J 4 [some (vI v0), some (vI v1)] [vL ((v0 - v1).toInt64)] from ?_)
  refine gBk (pe := 8) hO [(.ldc2_w 288, (0, 0, 331, 0), 0, (-1)), oJ (.lconst 1) 0 1] (by decide +kernel) (show tWG K B 0 0 S I J 8 [some (vI v0), some (vI v1)] [vL 1, vL (-1), vL ((v0 - v1).toInt64)] from ?_)
  refine gCSi_z hO (M12_in) hc12_in (idx := 181) (w := 319) (by decide +kernel) hR (by omega) (vs := [vL ((v0 - v1).toInt64), vL (-1), vL 1]) (st := []) ⟨rfl, Nat.le_of_ble_eq_true rfl, rfl⟩ (by decide +kernel) (fun z1 => ?_)
  exact gZret hO hQ (by decide +kernel) (Z12_in ((v0 - v1).toInt64) (-1) 1) ⟨rfl, (Z12_in ((v0 - v1).toInt64) (-1) 1), rfl⟩)
set_option maxRecDepth 20000 in
theorem hc12_laneFrom : tCV yX12_laneFrom cX12_laneFrom 4 (some .int) 3 := ⟨⟨(List.mem_of_getElem? (i := 1272) rfl), (List.mem_of_getElem? (i := 5) (by decide +kernel)), by decide +kernel⟩, (List.mem_of_getElem? (i := 1270) (by decide +kernel)), (List.mem_of_getElem? (i := 1271) (by decide +kernel))⟩
set_option maxRecDepth 100000 in
theorem M12_laneFrom {l : Launch} {B : tB} {S : tSH} {I : tHI} {J : tHJ} {v1 : Int32} {v2 : Int32} {v3 : Int32} (t0 : ty S 61 12) (h : P12_laneFrom S I J v1 v2 v3) : Met l yX12_laneFrom (tWs yX12_laneFrom cX12_laneFrom 4 (some .int)) (tRm 4 0 0) (tPc B [vR 61, vI v1, vI v2, vI v3] S I J) (tQi B (tPp S I J (V12_laneFrom S I J v1 v2 v3))) 0 0 (tA B) :=
  tEntry (by decide +kernel) [some (vR 61), some (vI v1), some (vI v2), some (vI v3)] rfl rfl (Nat.le_of_ble_eq_true rfl) (fun K hl hR hO hQ hG => by
  subst hl
  refine gBk (pe := 2) hO [o0 (.iload_n 2), o0 (.iload_n 3)] (by decide +kernel) (show tWG K B 0 0 S I J 2 [some (vR 61), some (vI v1), some (vI v2), some (vI v3)] [vI v3, vI v2] from ?_)
  refine gCSi_z hO (M12_isBeside) hc12_isBeside (idx := 493) (w := 1031) (by decide +kernel) hR (by omega) (vs := [vI v2, vI v3]) (st := []) ⟨rfl, Nat.le_of_ble_eq_true rfl, rfl⟩ (by decide +kernel) (fun z1 => ?_)
  refine gIfEq hO (off := 27) (tgt := 32) (by decide +kernel) (by decide) (fun c2 => ?_) (fun c2 => ?_)
  · have h := h.1 c2
    refine gBk (pe := 35) hO [(.ldc_w 467, (0, 0, 490, 0), 100000000, 0)] (by decide +kernel) (show tWG K B 0 0 S I J 35 [some (vR 61), some (vI v1), some (vI v2), some (vI v3)] [vI 100000000] from ?_)
    exact gIret hO hQ (by decide +kernel) ⟨(Eq.symm (if_pos c2)), rfl⟩
  · have h := h.2 c2
    refine gBk (pe := 20) hO [o0 (.aload_n 0), oF (.getfield 130) 12 46 226 83, oI (.iconst 3) 3, o0 (.iload_n 1), o0 .imul, o0 (.iload_n 3), o0 .iadd, o0 .iaload, o0 (.iload_n 2), o0 (.iload_n 3)] (by decide +kernel) (And.intro t0 (And.intro rfl (And.intro (tGr.off hG t0 (k := 46) rfl) (And.intro (tin (tGr.len hG t0 (k := 46) rfl (by decide)) h.1) (show tWG K B 0 0 S I J 20 [some (vR 61), some (vI v1), some (vI v2), some (vI v3)] [vI v3, vI v2, vI (I 83 ((3 * v1) + v3).toNatClampNeg)] from ?_)))))
    have h := h.2
    refine gIcNe hO (off := 7) (tgt := 27) (by decide +kernel) (by decide) (fun c3 => ?_) (fun c3 => ?_)
    · have h := h.1 c3
      refine gBk (pe := 35) hO [oI (.iconst 1) 1, o0 .iadd, o0 (.goto 6)] (by decide +kernel) (show tWG K B 0 0 S I J 35 [some (vR 61), some (vI v1), some (vI v2), some (vI v3)] [vI ((I 83 ((3 * v1) + v3).toNatClampNeg) + 1)] from ?_)
      exact gIret hO hQ (by decide +kernel) ⟨(Eq.symm ((if_neg c2).trans (if_neg c3))), rfl⟩
    · have h := h.2 c3
      refine gBk (pe := 35) hO [oI (.iconst 0) 0, o0 (.goto 4), o0 .iadd, o0 (.goto 6)] (by decide +kernel) (show tWG K B 0 0 S I J 35 [some (vR 61), some (vI v1), some (vI v2), some (vI v3)] [vI ((I 83 ((3 * v1) + v3).toNatClampNeg) + 0)] from ?_)
      exact gIret hO hQ (by decide +kernel) ⟨(Eq.symm ((if_neg c2).trans (if_pos c3))), rfl⟩)
set_option maxRecDepth 100000 in
theorem W12_leastLane_7 {K : tK} {B : tB} {S : tSH} {MC MS : Nat} (hO : tKO K B RX12 cX12_leastLane 6) (hR : kR K = tRm 5 MC MS) (hG : tGr S) {n : Nat} (t0 : ty S 61 12) {k : Int32 → tHI → tHJ → Prop} (hQ : tRet K B (tQi B (tPi S k)) 0 0 (some .int)) {kb7 : tHI → tHJ → Int32 → Int32 → Int32 → Int32 → Prop} (hkb7 : ∀ (I : tHI) (J : tHJ) (v1 : Int32) (v2 : Int32) (v3 : Int32) (v4 : Int32), kb7 I J v1 v2 v3 v4 → tWG K B 0 0 S I J 7 [some (vR 61), some (vI v1), some (vI v2), some (vI v3), some (vI v4), none] []) {I : tHI} {J : tHJ} {v1 : Int32} {v2 : Int32} {v3 : Int32} {v4 : Int32} (h : F12_leastLane_7 n S k kb7 I J v1 v2 v3 v4) : tWG K B 0 0 S I J 7 [some (vR 61), some (vI v1), some (vI v2), some (vI v3), some (vI v4), none] [] := by
  refine gBk (pe := 10) hO [o0 (.iload 4), oI (.iconst 3) 3] (by decide +kernel) (show tWG K B 0 0 S I J 10 [some (vR 61), some (vI v1), some (vI v2), some (vI v3), some (vI v4), none] [vI 3, vI v4] from ?_)
  refine gIcGe hO (off := 32) (tgt := 42) (by decide +kernel) (by decide) (fun c1 => ?_) (fun c1 => ?_)
  · have h := h.1 c1
    refine gBk (pe := 43) hO [o0 (.iload_n 3)] (by decide +kernel) (show tWG K B 0 0 S I J 43 [some (vR 61), some (vI v1), some (vI v2), some (vI v3), some (vI v4), none] [vI v3] from ?_)
    exact gIret hO hQ (by decide +kernel) ⟨rfl, h⟩
  · have h := h.2 c1
    refine gBk (pe := 18) hO [o0 (.aload_n 0), o0 (.iload_n 1), o0 (.iload_n 2), o0 (.iload 4)] (by decide +kernel) (show tWG K B 0 0 S I J 18 [some (vR 61), some (vI v1), some (vI v2), some (vI v3), some (vI v4), none] [vI v4, vI v2, vI v1, vR 61] from ?_)
    refine gCVi_p hO (M12_laneFrom t0 h.1) hc12_laneFrom (idx := 496) (w := 1269) (by decide +kernel) hR (by omega) t0 ⟨by decide, rfl⟩ (vs := [vI v1, vI v2, vI v4]) (st := []) ⟨rfl, Nat.le_of_ble_eq_true rfl, rfl⟩ (by decide +kernel) ?_
    have h := h.2
    refine gBk (pe := 26) hO [o0 (.istore 5), o0 (.iload 5), o0 (.iload_n 3)] (by decide +kernel) (And.intro (Nat.le_of_ble_eq_true rfl) (show tWG K B 0 0 S I J 26 [some (vR 61), some (vI v1), some (vI v2), some (vI v3), some (vI v4), some (vI (V12_laneFrom S I J v1 v2 v4))] [vI v3, vI (V12_laneFrom S I J v1 v2 v4)] from ?_))
    have hj2 : ∀ (m3 : Int32), m3 = (if v3 ≤ (V12_laneFrom S I J v1 v2 v4) then v3 else (V12_laneFrom S I J v1 v2 v4)) → tWG K B 0 0 S I J 35 [some (vR 61), some (vI v1), some (vI v2), none, some (vI v4), none] [vI m3] := by
      intro m3 em3
      subst em3
      refine gBk (pe := 7) hO [o0 (.istore_n 3), oI (.iinc 4 1) 1, o0 (.goto (-32))] (by decide +kernel) (And.intro (Nat.le_of_ble_eq_true rfl) (show tWG K B 0 0 S I J 7 [some (vR 61), some (vI v1), some (vI v2), some (vI (if v3 ≤ (V12_laneFrom S I J v1 v2 v4) then v3 else (V12_laneFrom S I J v1 v2 v4))), some (vI (v4 + 1)), none] [] from ?_))
      exact hkb7 _ _ _ _ _ _ h
    refine gIcGe hO (off := 8) (tgt := 34) (by decide +kernel) (by decide) (fun c4 => ?_) (fun c4 => ?_)
    · refine gBk (pe := 35) hO [o0 (.iload_n 3)] (by decide +kernel) (show tWG K B 0 0 S I J 35 [some (vR 61), some (vI v1), some (vI v2), some (vI v3), some (vI v4), some (vI (V12_laneFrom S I J v1 v2 v4))] [vI v3] from ?_)
      exact gWeak (L' := [some (vR 61), some (vI v1), some (vI v2), none, some (vI v4), none]) ⟨rfl, rfl, rfl, rfl, trivial⟩ (hj2 _ (Eq.symm (if_pos c4)))
    · refine gBk (pe := 35) hO [o0 (.iload 5), o0 (.goto 4)] (by decide +kernel) (show tWG K B 0 0 S I J 35 [some (vR 61), some (vI v1), some (vI v2), some (vI v3), some (vI v4), some (vI (V12_laneFrom S I J v1 v2 v4))] [vI (V12_laneFrom S I J v1 v2 v4)] from ?_)
      exact gWeak (L' := [some (vR 61), some (vI v1), some (vI v2), none, some (vI v4), none]) ⟨rfl, rfl, rfl, rfl, trivial⟩ (hj2 _ (Eq.symm (if_neg c4)))
theorem W12_leastLane_L7 {K : tK} {B : tB} {S : tSH} {MC MS : Nat} (hO : tKO K B RX12 cX12_leastLane 6) (hR : kR K = tRm 5 MC MS) (hG : tGr S) {n : Nat} (t0 : ty S 61 12) {k : Int32 → tHI → tHJ → Prop} (hQ : tRet K B (tQi B (tPi S k)) 0 0 (some .int)) : ∀ (f : Nat) (I : tHI) (J : tHJ) (v1 : Int32) (v2 : Int32) (v3 : Int32) (v4 : Int32), F12_leastLane_L7 n S k f I J v1 v2 v3 v4 → tWG K B 0 0 S I J 7 [some (vR 61), some (vI v1), some (vI v2), some (vI v3), some (vI v4), none] [] := by
  intro f
  induction f with
  | zero => intro I J v1 v2 v3 v4 h; exact h.elim
  | succ f ih => intro I J v1 v2 v3 v4 h; exact W12_leastLane_7 hO hR hG t0 hQ ih h
set_option maxRecDepth 20000 in
theorem hc12_leastLane : tCV yX12_leastLane cX12_leastLane 6 (some .int) 2 := ⟨⟨(List.mem_of_getElem? (i := 1268) rfl), (List.mem_of_getElem? (i := 5) (by decide +kernel)), by decide +kernel⟩, (List.mem_of_getElem? (i := 1266) (by decide +kernel)), (List.mem_of_getElem? (i := 1267) (by decide +kernel))⟩
set_option maxRecDepth 100000 in
theorem M12_leastLane {l : Launch} {B : tB} {S : tSH} {I : tHI} {J : tHJ} {v1 : Int32} {v2 : Int32} {n : Nat} {k : Int32 → tHI → tHJ → Prop} (t0 : ty S 61 12) (h : F12_leastLane n S I J v1 v2 k) : Met l yX12_leastLane (tWs yX12_leastLane cX12_leastLane 6 (some .int)) (tRm 5 0 0) (tPc B [vR 61, vI v1, vI v2] S I J) (tQi B (tPi S k)) 0 0 (tA B) :=
  tEntry (by decide +kernel) [some (vR 61), some (vI v1), some (vI v2), none, none, none] rfl rfl (Nat.le_of_ble_eq_true rfl) (fun K hl hR hO hQ hG => by
  subst hl
  refine gBk (pe := 7) hO [(.ldc_w 467, (0, 0, 490, 0), 100000000, 0), o0 (.istore_n 3), oI (.iconst 0) 0, o0 (.istore 4)] (by decide +kernel) (And.intro (Nat.le_of_ble_eq_true rfl) (And.intro (Nat.le_of_ble_eq_true rfl) (show tWG K B 0 0 S I J 7 [some (vR 61), some (vI v1), some (vI v2), some (vI 100000000), some (vI 0), none] [] from ?_)))
  exact W12_leastLane_L7 hO hR hG t0 hQ n _ _ _ _ _ _ h)
set_option maxRecDepth 100000 in
theorem W12_lanes_173 {K : tK} {B : tB} {S : tSH} {MC MS : Nat} (hO : tKO K B RX12 cX12_lanes 8) (hR : kR K = tRm 6 MC MS) (hG : tGr S) {n : Nat} (t0 : ty S 61 12) {k : Int32 → tHI → tHJ → Prop} (hQ : tRet K B (tQi B (tPi S k)) 0 0 (some .int)) {kb152 : tHI → tHJ → Int32 → Int32 → Int32 → Prop} (hkb152 : ∀ (I : tHI) (J : tHJ) (v1 : Int32) (v4 : Int32) (v5 : Int32), kb152 I J v1 v4 v5 → tWG K B 0 0 S I J 152 [some (vR 61), some (vI v1), none, none, some (vI v4), some (vI v5), none, none] []) {kb173 : tHI → tHJ → Int32 → Int32 → Int32 → Int32 → Int32 → Prop} (hkb173 : ∀ (I : tHI) (J : tHJ) (v1 : Int32) (v4 : Int32) (v5 : Int32) (v6 : Int32) (v7 : Int32), kb173 I J v1 v4 v5 v6 v7 → tWG K B 0 0 S I J 173 [some (vR 61), some (vI v1), none, none, some (vI v4), some (vI v5), some (vI v6), some (vI v7)] []) {I : tHI} {J : tHJ} {v1 : Int32} {v4 : Int32} {v5 : Int32} {v6 : Int32} {v7 : Int32} (h : F12_lanes_173 n S k kb152 kb173 I J v1 v4 v5 v6 v7) : tWG K B 0 0 S I J 173 [some (vR 61), some (vI v1), none, none, some (vI v4), some (vI v5), some (vI v6), some (vI v7)] [] := by
  refine gBk (pe := 180) hO [o0 (.aload_n 0), o0 (.iload 5), o0 (.iload 4), o0 (.iload 7)] (by decide +kernel) (show tWG K B 0 0 S I J 180 [some (vR 61), some (vI v1), none, none, some (vI v4), some (vI v5), some (vI v6), some (vI v7)] [vI v7, vI v4, vI v5, vR 61] from ?_)
  refine gCVi_p hO (M12_laneFrom t0 h.1) hc12_laneFrom (idx := 496) (w := 1269) (by decide +kernel) hR (by omega) t0 ⟨by decide, rfl⟩ (vs := [vI v5, vI v4, vI v7]) (st := []) ⟨rfl, Nat.le_of_ble_eq_true rfl, rfl⟩ (by decide +kernel) ?_
  have h := h.2
  refine gBk (pe := 185) hO [o0 (.iload 6)] (by decide +kernel) (show tWG K B 0 0 S I J 185 [some (vR 61), some (vI v1), none, none, some (vI v4), some (vI v5), some (vI v6), some (vI v7)] [vI v6, vI (V12_laneFrom S I J v5 v4 v7)] from ?_)
  refine gIcEq hO (off := 9) (tgt := 194) (by decide +kernel) (by decide) (fun c13 => ?_) (fun c13 => ?_)
  · have h := h.1 c13
    refine gBk (pe := 152) hO [o0 (.iload 7), o0 (.istore 4), oI (.iinc 5 1) 1, o0 (.goto (-49))] (by decide +kernel) (And.intro (Nat.le_of_ble_eq_true rfl) (show tWG K B 0 0 S I J 152 [some (vR 61), some (vI v1), none, none, some (vI v7), some (vI (v5 + 1)), some (vI v6), some (vI v7)] [] from ?_))
    exact gWeak (L' := [some (vR 61), some (vI v1), none, none, some (vI v7), some (vI (v5 + 1)), none, none]) ⟨rfl, rfl, rfl, rfl, trivial⟩ (hkb152 _ _ _ _ _ h)
  · have h := h.2 c13
    refine gBk (pe := 173) hO [oI (.iinc 7 1) 1, o0 (.goto (-18))] (by decide +kernel) (show tWG K B 0 0 S I J 173 [some (vR 61), some (vI v1), none, none, some (vI v4), some (vI v5), some (vI v6), some (vI (v7 + 1))] [] from ?_)
    exact hkb173 _ _ _ _ _ _ _ h
theorem W12_lanes_L173 {K : tK} {B : tB} {S : tSH} {MC MS : Nat} (hO : tKO K B RX12 cX12_lanes 8) (hR : kR K = tRm 6 MC MS) (hG : tGr S) {n : Nat} (t0 : ty S 61 12) {k : Int32 → tHI → tHJ → Prop} (hQ : tRet K B (tQi B (tPi S k)) 0 0 (some .int)) {kb152 : tHI → tHJ → Int32 → Int32 → Int32 → Prop} (hkb152 : ∀ (I : tHI) (J : tHJ) (v1 : Int32) (v4 : Int32) (v5 : Int32), kb152 I J v1 v4 v5 → tWG K B 0 0 S I J 152 [some (vR 61), some (vI v1), none, none, some (vI v4), some (vI v5), none, none] []) : ∀ (f : Nat) (I : tHI) (J : tHJ) (v1 : Int32) (v4 : Int32) (v5 : Int32) (v6 : Int32) (v7 : Int32), F12_lanes_L173 n S k kb152 f I J v1 v4 v5 v6 v7 → tWG K B 0 0 S I J 173 [some (vR 61), some (vI v1), none, none, some (vI v4), some (vI v5), some (vI v6), some (vI v7)] [] := by
  intro f
  induction f with
  | zero => intro I J v1 v4 v5 v6 v7 h; exact h.elim
  | succ f ih => intro I J v1 v4 v5 v6 v7 h; exact W12_lanes_173 hO hR hG t0 hQ hkb152 ih h
set_option maxRecDepth 100000 in
theorem W12_lanes_152 {K : tK} {B : tB} {S : tSH} {MC MS : Nat} (hO : tKO K B RX12 cX12_lanes 8) (hR : kR K = tRm 6 MC MS) (hG : tGr S) {n : Nat} (t0 : ty S 61 12) {k : Int32 → tHI → tHJ → Prop} (hQ : tRet K B (tQi B (tPi S k)) 0 0 (some .int)) {kb152 : tHI → tHJ → Int32 → Int32 → Int32 → Prop} (hkb152 : ∀ (I : tHI) (J : tHJ) (v1 : Int32) (v4 : Int32) (v5 : Int32), kb152 I J v1 v4 v5 → tWG K B 0 0 S I J 152 [some (vR 61), some (vI v1), none, none, some (vI v4), some (vI v5), none, none] []) {I : tHI} {J : tHJ} {v1 : Int32} {v4 : Int32} {v5 : Int32} (h : F12_lanes_152 n S k kb152 I J v1 v4 v5) : tWG K B 0 0 S I J 152 [some (vR 61), some (vI v1), none, none, some (vI v4), some (vI v5), none, none] [] := by
  refine gBk (pe := 157) hO [o0 (.iload 5), o0 (.iload_n 1), oI (.iconst 2) 2, o0 .isub] (by decide +kernel) (show tWG K B 0 0 S I J 157 [some (vR 61), some (vI v1), none, none, some (vI v4), some (vI v5), none, none] [vI (v1 - 2), vI v5] from ?_)
  refine gIcGt hO (off := 47) (tgt := 204) (by decide +kernel) (by decide) (fun c9 => ?_) (fun c9 => ?_)
  · have h := h.1 c9
    refine gBk (pe := 206) hO [o0 (.iload 4)] (by decide +kernel) (show tWG K B 0 0 S I J 206 [some (vR 61), some (vI v1), none, none, some (vI v4), some (vI v5), none, none] [vI v4] from ?_)
    exact gIret hO hQ (by decide +kernel) ⟨rfl, h⟩
  · have h := h.2 c9
    refine gBk (pe := 165) hO [o0 (.aload_n 0), o0 (.iload 5), o0 (.iload 4)] (by decide +kernel) (show tWG K B 0 0 S I J 165 [some (vR 61), some (vI v1), none, none, some (vI v4), some (vI v5), none, none] [vI v4, vI v5, vR 61] from ?_)
    refine gCVi_c hO (M12_leastLane t0 h) hc12_leastLane (idx := 503) (w := 1265) (by decide +kernel) hR (by omega) t0 ⟨by decide, rfl⟩ (vs := [vI v5, vI v4]) (st := []) ⟨rfl, Nat.le_of_ble_eq_true rfl, rfl⟩ (by decide +kernel) (fun x12 I10 J11 h => ?_)
    refine gBk (pe := 173) hO [o0 (.istore 6), oI (.iconst 0) 0, o0 (.istore 7)] (by decide +kernel) (And.intro (Nat.le_of_ble_eq_true rfl) (And.intro (Nat.le_of_ble_eq_true rfl) (show tWG K B 0 0 S I10 J11 173 [some (vR 61), some (vI v1), none, none, some (vI v4), some (vI v5), some (vI x12), some (vI 0)] [] from ?_)))
    exact W12_lanes_L173 hO hR hG t0 hQ hkb152 n _ _ _ _ _ _ _ h
theorem W12_lanes_L152 {K : tK} {B : tB} {S : tSH} {MC MS : Nat} (hO : tKO K B RX12 cX12_lanes 8) (hR : kR K = tRm 6 MC MS) (hG : tGr S) {n : Nat} (t0 : ty S 61 12) {k : Int32 → tHI → tHJ → Prop} (hQ : tRet K B (tQi B (tPi S k)) 0 0 (some .int)) : ∀ (f : Nat) (I : tHI) (J : tHJ) (v1 : Int32) (v4 : Int32) (v5 : Int32), F12_lanes_L152 n S k f I J v1 v4 v5 → tWG K B 0 0 S I J 152 [some (vR 61), some (vI v1), none, none, some (vI v4), some (vI v5), none, none] [] := by
  intro f
  induction f with
  | zero => intro I J v1 v4 v5 h; exact h.elim
  | succ f ih => intro I J v1 v4 v5 h; exact W12_lanes_152 hO hR hG t0 hQ ih h
set_option maxRecDepth 100000 in
theorem W12_lanes_118 {K : tK} {B : tB} {S : tSH} {MC MS : Nat} (hO : tKO K B RX12 cX12_lanes 8) (hR : kR K = tRm 6 MC MS) (hG : tGr S) {n : Nat} (t0 : ty S 61 12) {k : Int32 → tHI → tHJ → Prop} (hQ : tRet K B (tQi B (tPi S k)) 0 0 (some .int)) {I : tHI} {J : tHJ} {v1 : Int32} {s0 : Int32} (h : F12_lanes_118 n S k I J v1 s0) : tWG K B 0 0 S I J 118 [some (vR 61), some (vI v1), none, none, none, none, none, none] [vI s0] := by
  refine gBk (pe := 121) hO [o0 (.istore_n 3), o0 (.iload_n 1), oI (.iconst 2) 2] (by decide +kernel) (And.intro (Nat.le_of_ble_eq_true rfl) (show tWG K B 0 0 S I J 121 [some (vR 61), some (vI v1), none, some (vI s0), none, none, none, none] [vI 2, vI v1] from ?_))
  refine gIcGe hO (off := 19) (tgt := 140) (by decide +kernel) (by decide) (fun c8 => ?_) (fun c8 => ?_)
  · have h := h.1 c8
    refine gBk (pe := 152) hO [o0 (.aload_n 0), oF (.getfield 13) 12 3 179 63, oI (.bipush 11) 11, o0 .iaload, o0 (.istore 4), oI (.iconst 0) 0, o0 (.istore 5)] (by decide +kernel) (And.intro t0 (And.intro rfl (And.intro (tGr.off hG t0 (k := 3) rfl) (And.intro (tin (tGr.len hG t0 (k := 3) rfl (by decide)) (tvi (by decide +kernel))) (And.intro (Nat.le_of_ble_eq_true rfl) (And.intro (Nat.le_of_ble_eq_true rfl) (show tWG K B 0 0 S I J 152 [some (vR 61), some (vI v1), none, some (vI s0), some (vI (I 63 11)), some (vI 0), none, none] [] from ?_)))))))
    exact gWeak (L' := [some (vR 61), some (vI v1), none, none, some (vI (I 63 11)), some (vI 0), none, none]) ⟨rfl, rfl, rfl, rfl, trivial⟩ (W12_lanes_L152 hO hR hG t0 hQ n _ _ _ _ _ h)
  · have h := h.2 c8
    refine gBk (pe := 125) hO [o0 (.iload_n 1)] (by decide +kernel) (show tWG K B 0 0 S I J 125 [some (vR 61), some (vI v1), none, some (vI s0), none, none, none, none] [vI v1] from ?_)
    have hj14 : ∀ (m15 : Int32), m15 = (if v1 = 0 then (s0 / 100) else (s0 - s0 / 100 * 100)) → tWG K B 0 0 S I J 139 [none, none, none, none, none, none, none, none] [vI m15] := by
      intro m15 em15
      subst em15
      exact gIret hO hQ (by decide +kernel) ⟨rfl, h⟩
    refine gIfNe hO (off := 10) (tgt := 135) (by decide +kernel) (by decide) (fun c16 => ?_) (fun c16 => ?_)
    · refine gBk (pe := 139) hO [o0 (.iload_n 3), oI (.bipush 100) 100, o0 .irem] (by decide +kernel) (And.intro (by decide) (show tWG K B 0 0 S I J 139 [some (vR 61), some (vI v1), none, some (vI s0), none, none, none, none] [vI (s0 - s0 / 100 * 100)] from ?_))
      exact gWeak (L' := [none, none, none, none, none, none, none, none]) trivial (hj14 _ (Eq.symm (if_neg c16)))
    · refine gBk (pe := 139) hO [o0 (.iload_n 3), oI (.bipush 100) 100, o0 .idiv, o0 (.goto 7)] (by decide +kernel) (And.intro (by decide) (show tWG K B 0 0 S I J 139 [some (vR 61), some (vI v1), none, some (vI s0), none, none, none, none] [vI (s0 / 100)] from ?_))
      exact gWeak (L' := [none, none, none, none, none, none, none, none]) trivial (hj14 _ (Eq.symm (if_pos c16)))
set_option maxRecDepth 100000 in
theorem W12_lanes_84 {K : tK} {B : tB} {S : tSH} {MC MS : Nat} (hO : tKO K B RX12 cX12_lanes 8) (hR : kR K = tRm 6 MC MS) (hG : tGr S) {n : Nat} (t0 : ty S 61 12) {k : Int32 → tHI → tHJ → Prop} (hQ : tRet K B (tQi B (tPi S k)) 0 0 (some .int)) {kb31 : tHI → tHJ → Int32 → Int32 → Int32 → Prop} (hkb31 : ∀ (I : tHI) (J : tHJ) (v1 : Int32) (v2 : Int32) (v3 : Int32), kb31 I J v1 v2 v3 → tWG K B 0 0 S I J 31 [some (vR 61), some (vI v1), some (vI v2), some (vI v3), none, none, none, none] []) {kb38 : tHI → tHJ → Int32 → Int32 → Int32 → Int32 → Prop} (hkb38 : ∀ (I : tHI) (J : tHJ) (v1 : Int32) (v2 : Int32) (v3 : Int32) (v4 : Int32), kb38 I J v1 v2 v3 v4 → tWG K B 0 0 S I J 38 [some (vR 61), some (vI v1), some (vI v2), some (vI v3), some (vI v4), none, none, none] []) {I : tHI} {J : tHJ} {v1 : Int32} {v2 : Int32} {v3 : Int32} {v4 : Int32} {s0 : Int32} {s1 : Int32} {s2 : Int32} (h : F12_lanes_84 n S k kb31 kb38 I J v1 v2 v3 v4 s0 s1 s2) : tWG K B 0 0 S I J 84 [some (vR 61), some (vI v1), some (vI v2), some (vI v3), some (vI v4), none, none, none] [vI s0, vI s1, vI s2, vR 83] := by
  refine gBk (pe := 38) hO [o0 .iadd, o0 .iastore, oI (.iinc 4 1) 1, o0 (.goto (-51))] (by decide +kernel) (And.intro (tGr.off hG t0 (k := 46) rfl) (And.intro (tin (tGr.len hG t0 (k := 46) rfl (by decide)) h.1) (show tWG K B 0 0 S (uI I 83 s2.toNatClampNeg (s1 + s0)) J 38 [some (vR 61), some (vI v1), some (vI v2), some (vI v3), some (vI (v4 + 1)), none, none, none] [] from ?_)))
  have h := h.2
  exact hkb38 _ _ _ _ _ _ h
set_option maxRecDepth 100000 in
theorem W12_lanes_38 {K : tK} {B : tB} {S : tSH} {MC MS : Nat} (hO : tKO K B RX12 cX12_lanes 8) (hR : kR K = tRm 6 MC MS) (hG : tGr S) {n : Nat} (t0 : ty S 61 12) {k : Int32 → tHI → tHJ → Prop} (hQ : tRet K B (tQi B (tPi S k)) 0 0 (some .int)) {kb31 : tHI → tHJ → Int32 → Int32 → Int32 → Prop} (hkb31 : ∀ (I : tHI) (J : tHJ) (v1 : Int32) (v2 : Int32) (v3 : Int32), kb31 I J v1 v2 v3 → tWG K B 0 0 S I J 31 [some (vR 61), some (vI v1), some (vI v2), some (vI v3), none, none, none, none] []) {kb38 : tHI → tHJ → Int32 → Int32 → Int32 → Int32 → Prop} (hkb38 : ∀ (I : tHI) (J : tHJ) (v1 : Int32) (v2 : Int32) (v3 : Int32) (v4 : Int32), kb38 I J v1 v2 v3 v4 → tWG K B 0 0 S I J 38 [some (vR 61), some (vI v1), some (vI v2), some (vI v3), some (vI v4), none, none, none] []) {I : tHI} {J : tHJ} {v1 : Int32} {v2 : Int32} {v3 : Int32} {v4 : Int32} (h : F12_lanes_38 n S k kb31 kb38 I J v1 v2 v3 v4) : tWG K B 0 0 S I J 38 [some (vR 61), some (vI v1), some (vI v2), some (vI v3), some (vI v4), none, none, none] [] := by
  refine gBk (pe := 41) hO [o0 (.iload 4), oI (.iconst 3) 3] (by decide +kernel) (show tWG K B 0 0 S I J 41 [some (vR 61), some (vI v1), some (vI v2), some (vI v3), some (vI v4), none, none, none] [vI 3, vI v4] from ?_)
  refine gIcGe hO (off := 51) (tgt := 92) (by decide +kernel) (by decide) (fun c17 => ?_) (fun c17 => ?_)
  · have h := h.1 c17
    refine gBk (pe := 31) hO [oI (.iinc 3 (-1)) (-1), o0 (.goto (-64))] (by decide +kernel) (show tWG K B 0 0 S I J 31 [some (vR 61), some (vI v1), some (vI v2), some (vI (v3 + (-1))), some (vI v4), none, none, none] [] from ?_)
    exact gWeak (L' := [some (vR 61), some (vI v1), some (vI v2), some (vI (v3 + (-1))), none, none, none, none]) ⟨rfl, rfl, rfl, rfl, trivial⟩ (hkb31 _ _ _ _ _ h)
  · have h := h.2 c17
    refine gBk (pe := 60) hO [o0 (.aload_n 0), oF (.getfield 130) 12 46 226 83, oI (.iconst 3) 3, o0 (.iload_n 3), o0 .imul, o0 (.iload 4), o0 .iadd, oI (.bipush 100) 100, o0 (.aload_n 0), o0 (.iload_n 3), o0 (.iload 4)] (by decide +kernel) (And.intro t0 (And.intro rfl (show tWG K B 0 0 S I J 60 [some (vR 61), some (vI v1), some (vI v2), some (vI v3), some (vI v4), none, none, none] [vI v4, vI v3, vR 61, vI 100, vI ((3 * v3) + v4), vR 83] from ?_)))
    refine gCVi_c hO (M12_holesUnder t0 h) hc12_holesUnder (idx := 500) (w := 1261) (by decide +kernel) hR (by omega) t0 ⟨by decide, rfl⟩ (vs := [vI v3, vI v4]) (st := [vI 100, vI ((3 * v3) + v4), vR 83]) ⟨rfl, Nat.le_of_ble_eq_true rfl, rfl⟩ (by decide +kernel) (fun x20 I18 J19 h => ?_)
    refine gBk (pe := 68) hO [o0 .imul, o0 (.iload_n 3), o0 (.iload_n 2), oI (.iconst 1) 1, o0 .isub] (by decide +kernel) (show tWG K B 0 0 S I18 J19 68 [some (vR 61), some (vI v1), some (vI v2), some (vI v3), some (vI v4), none, none, none] [vI (v2 - 1), vI v3, vI (100 * x20), vI ((3 * v3) + v4), vR 83] from ?_)
    refine gIcNe hO (off := 7) (tgt := 75) (by decide +kernel) (by decide) (fun c21 => ?_) (fun c21 => ?_)
    · have h := h.1 c21
      refine gBk (pe := 81) hO [o0 (.aload_n 0), o0 (.iload_n 3), oI (.iconst 1) 1, o0 .iadd, o0 (.iload 4)] (by decide +kernel) (show tWG K B 0 0 S I18 J19 81 [some (vR 61), some (vI v1), some (vI v2), some (vI v3), some (vI v4), none, none, none] [vI v4, vI (v3 + 1), vR 61, vI (100 * x20), vI ((3 * v3) + v4), vR 83] from ?_)
      refine gCVi_c hO (M12_leastLane t0 h) hc12_leastLane (idx := 503) (w := 1265) (by decide +kernel) hR (by omega) t0 ⟨by decide, rfl⟩ (vs := [vI (v3 + 1), vI v4]) (st := [vI (100 * x20), vI ((3 * v3) + v4), vR 83]) ⟨rfl, Nat.le_of_ble_eq_true rfl, rfl⟩ (by decide +kernel) (fun x24 I22 J23 h => ?_)
      exact W12_lanes_84 hO hR hG t0 hQ hkb31 hkb38 h
    · have h := h.2 c21
      refine gBk (pe := 84) hO [oI (.iconst 0) 0, o0 (.goto 12)] (by decide +kernel) (show tWG K B 0 0 S I18 J19 84 [some (vR 61), some (vI v1), some (vI v2), some (vI v3), some (vI v4), none, none, none] [vI 0, vI (100 * x20), vI ((3 * v3) + v4), vR 83] from ?_)
      exact W12_lanes_84 hO hR hG t0 hQ hkb31 hkb38 h
theorem W12_lanes_L38 {K : tK} {B : tB} {S : tSH} {MC MS : Nat} (hO : tKO K B RX12 cX12_lanes 8) (hR : kR K = tRm 6 MC MS) (hG : tGr S) {n : Nat} (t0 : ty S 61 12) {k : Int32 → tHI → tHJ → Prop} (hQ : tRet K B (tQi B (tPi S k)) 0 0 (some .int)) {kb31 : tHI → tHJ → Int32 → Int32 → Int32 → Prop} (hkb31 : ∀ (I : tHI) (J : tHJ) (v1 : Int32) (v2 : Int32) (v3 : Int32), kb31 I J v1 v2 v3 → tWG K B 0 0 S I J 31 [some (vR 61), some (vI v1), some (vI v2), some (vI v3), none, none, none, none] []) : ∀ (f : Nat) (I : tHI) (J : tHJ) (v1 : Int32) (v2 : Int32) (v3 : Int32) (v4 : Int32), F12_lanes_L38 n S k kb31 f I J v1 v2 v3 v4 → tWG K B 0 0 S I J 38 [some (vR 61), some (vI v1), some (vI v2), some (vI v3), some (vI v4), none, none, none] [] := by
  intro f
  induction f with
  | zero => intro I J v1 v2 v3 v4 h; exact h.elim
  | succ f ih => intro I J v1 v2 v3 v4 h; exact W12_lanes_38 hO hR hG t0 hQ hkb31 ih h
set_option maxRecDepth 100000 in
theorem W12_lanes_31 {K : tK} {B : tB} {S : tSH} {MC MS : Nat} (hO : tKO K B RX12 cX12_lanes 8) (hR : kR K = tRm 6 MC MS) (hG : tGr S) {n : Nat} (t0 : ty S 61 12) {k : Int32 → tHI → tHJ → Prop} (hQ : tRet K B (tQi B (tPi S k)) 0 0 (some .int)) {kb31 : tHI → tHJ → Int32 → Int32 → Int32 → Prop} (hkb31 : ∀ (I : tHI) (J : tHJ) (v1 : Int32) (v2 : Int32) (v3 : Int32), kb31 I J v1 v2 v3 → tWG K B 0 0 S I J 31 [some (vR 61), some (vI v1), some (vI v2), some (vI v3), none, none, none, none] []) {I : tHI} {J : tHJ} {v1 : Int32} {v2 : Int32} {v3 : Int32} (h : F12_lanes_31 n S k kb31 I J v1 v2 v3) : tWG K B 0 0 S I J 31 [some (vR 61), some (vI v1), some (vI v2), some (vI v3), none, none, none, none] [] := by
  refine gBk (pe := 32) hO [o0 (.iload_n 3)] (by decide +kernel) (show tWG K B 0 0 S I J 32 [some (vR 61), some (vI v1), some (vI v2), some (vI v3), none, none, none, none] [vI v3] from ?_)
  refine gIfLt hO (off := 66) (tgt := 98) (by decide +kernel) (by decide) (fun c3 => ?_) (fun c3 => ?_)
  · have h := h.1 c3
    refine gBk (pe := 99) hO [o0 (.iload_n 2)] (by decide +kernel) (show tWG K B 0 0 S I J 99 [some (vR 61), some (vI v1), some (vI v2), some (vI v3), none, none, none, none] [vI v2] from ?_)
    refine gIfNe hO (off := 7) (tgt := 106) (by decide +kernel) (by decide) (fun c4 => ?_) (fun c4 => ?_)
    · have h := h.1 c4
      refine gBk (pe := 115) hO [o0 (.aload_n 0), oI (.iconst 0) 0, o0 (.aload_n 0), oF (.getfield 13) 12 3 179 63, oI (.bipush 11) 11, o0 .iaload] (by decide +kernel) (And.intro t0 (And.intro rfl (And.intro (tGr.off hG t0 (k := 3) rfl) (And.intro (tin (tGr.len hG t0 (k := 3) rfl (by decide)) (tvi (by decide +kernel))) (show tWG K B 0 0 S I J 115 [some (vR 61), some (vI v1), some (vI v2), some (vI v3), none, none, none, none] [vI (I 63 11), vI 0, vR 61] from ?_)))))
      refine gCVi_c hO (M12_leastLane t0 h) hc12_leastLane (idx := 503) (w := 1265) (by decide +kernel) hR (by omega) t0 ⟨by decide, rfl⟩ (vs := [vI 0, vI (I 63 11)]) (st := []) ⟨rfl, Nat.le_of_ble_eq_true rfl, rfl⟩ (by decide +kernel) (fun x7 I5 J6 h => ?_)
      exact gWeak (L' := [some (vR 61), some (vI v1), none, none, none, none, none, none]) ⟨rfl, rfl, trivial⟩ (W12_lanes_118 hO hR hG t0 hQ h)
    · have h := h.2 c4
      refine gBk (pe := 118) hO [oI (.iconst 0) 0, o0 (.goto 15)] (by decide +kernel) (show tWG K B 0 0 S I J 118 [some (vR 61), some (vI v1), some (vI v2), some (vI v3), none, none, none, none] [vI 0] from ?_)
      exact gWeak (L' := [some (vR 61), some (vI v1), none, none, none, none, none, none]) ⟨rfl, rfl, trivial⟩ (W12_lanes_118 hO hR hG t0 hQ h)
  · have h := h.2 c3
    refine gBk (pe := 38) hO [oI (.iconst 0) 0, o0 (.istore 4)] (by decide +kernel) (And.intro (Nat.le_of_ble_eq_true rfl) (show tWG K B 0 0 S I J 38 [some (vR 61), some (vI v1), some (vI v2), some (vI v3), some (vI 0), none, none, none] [] from ?_))
    exact W12_lanes_L38 hO hR hG t0 hQ hkb31 n _ _ _ _ _ _ h
theorem W12_lanes_L31 {K : tK} {B : tB} {S : tSH} {MC MS : Nat} (hO : tKO K B RX12 cX12_lanes 8) (hR : kR K = tRm 6 MC MS) (hG : tGr S) {n : Nat} (t0 : ty S 61 12) {k : Int32 → tHI → tHJ → Prop} (hQ : tRet K B (tQi B (tPi S k)) 0 0 (some .int)) : ∀ (f : Nat) (I : tHI) (J : tHJ) (v1 : Int32) (v2 : Int32) (v3 : Int32), F12_lanes_L31 n S k f I J v1 v2 v3 → tWG K B 0 0 S I J 31 [some (vR 61), some (vI v1), some (vI v2), some (vI v3), none, none, none, none] [] := by
  intro f
  induction f with
  | zero => intro I J v1 v2 v3 h; exact h.elim
  | succ f ih => intro I J v1 v2 v3 h; exact W12_lanes_31 hO hR hG t0 hQ ih h
set_option maxRecDepth 20000 in
theorem hc12_lanes : tCV yX12_lanes cX12_lanes 8 (some .int) 1 := ⟨⟨(List.mem_of_getElem? (i := 1260) rfl), (List.mem_of_getElem? (i := 5) (by decide +kernel)), by decide +kernel⟩, (List.mem_of_getElem? (i := 1258) (by decide +kernel)), (List.mem_of_getElem? (i := 1259) (by decide +kernel))⟩
set_option maxRecDepth 100000 in
theorem M12_lanes {l : Launch} {B : tB} {S : tSH} {I : tHI} {J : tHJ} {v1 : Int32} {n : Nat} {k : Int32 → tHI → tHJ → Prop} (t0 : ty S 61 12) (h : F12_lanes n S I J v1 k) : Met l yX12_lanes (tWs yX12_lanes cX12_lanes 8 (some .int)) (tRm 6 0 0) (tPc B [vR 61, vI v1] S I J) (tQi B (tPi S k)) 0 0 (tA B) :=
  tEntry (by decide +kernel) [some (vR 61), some (vI v1), none, none, none, none, none, none] rfl rfl (Nat.le_of_ble_eq_true rfl) (fun K hl hR hO hQ hG => by
  subst hl
  refine gBk (pe := 19) hO [o0 (.aload_n 0), oI (.iconst 0) 0, oF (.putfield 161) 12 0 316 0, o0 (.aload_n 0), oF (.getfield 13) 12 3 179 63, oI (.iconst 1) 1, o0 .iaload, o0 (.istore_n 2), o0 (.iload_n 1), o0 .i2l, oJ (.lconst 0) 0 0, oJ (.lconst 1) 0 1, o0 (.iload_n 2), o0 .i2l, o0 .ladd] (by decide +kernel) (And.intro t0 (And.intro t0 (And.intro rfl (And.intro (tGr.off hG t0 (k := 3) rfl) (And.intro (tin (tGr.len hG t0 (k := 3) rfl (by decide)) (tvi (by decide +kernel))) (And.intro (Nat.le_of_ble_eq_true rfl) (show tWG K B 0 0 S (uI I 61 0 0) J 19 [some (vR 61), some (vI v1), some (vI ((uI I 61 0 0) 63 1)), none, none, none, none, none] [vL (1 + ((uI I 61 0 0) 63 1).toInt64), vL 0, vL v1.toInt64] from ?_)))))))
  refine gCSi_z hO (M12_in) hc12_in (idx := 181) (w := 319) (by decide +kernel) hR (by omega) (vs := [vL v1.toInt64, vL 0, vL (1 + ((uI I 61 0 0) 63 1).toInt64)]) (st := []) ⟨rfl, Nat.le_of_ble_eq_true rfl, rfl⟩ (by decide +kernel) (fun z1 => ?_)
  refine gIfNe hO (off := 5) (tgt := 27) (by decide +kernel) (by decide) (fun c2 => ?_) (fun c2 => ?_)
  · have h := h.1 c2
    refine gBk (pe := 31) hO [o0 (.iload_n 2), oI (.iconst 1) 1, o0 .isub, o0 (.istore_n 3)] (by decide +kernel) (And.intro (Nat.le_of_ble_eq_true rfl) (show tWG K B 0 0 S (uI I 61 0 0) J 31 [some (vR 61), some (vI v1), some (vI ((uI I 61 0 0) 63 1)), some (vI (((uI I 61 0 0) 63 1) - 1)), none, none, none, none] [] from ?_))
    exact W12_lanes_L31 hO hR hG t0 hQ n _ _ _ _ _ h
  · have h := h.2 c2
    refine gBk (pe := 26) hO [oI (.iconst (-1)) (-1)] (by decide +kernel) (show tWG K B 0 0 S (uI I 61 0 0) J 26 [some (vR 61), some (vI v1), some (vI ((uI I 61 0 0) 63 1)), none, none, none, none, none] [vI (-1)] from ?_)
    exact gIret hO hQ (by decide +kernel) ⟨rfl, h⟩)
set_option maxRecDepth 100000 in
theorem W12_findLeaning_168 {K : tK} {B : tB} {S : tSH} {MC MS : Nat} (hO : tKO K B RX12 cX12_findLeaning 8) (hR : kR K = tRm 9 MC MS) (hG : tGr S) {n : Nat} (t0 : ty S 61 12) {k : Int32 → tHI → tHJ → Prop} (hQ : tRet K B (tQi B (tPi S k)) 0 0 (some .int)) {kb55 : tHI → tHJ → Int32 → Int32 → Int32 → Int32 → Prop} (hkb55 : ∀ (I : tHI) (J : tHJ) (v1 : Int32) (v2 : Int32) (v3 : Int32) (v4 : Int32), kb55 I J v1 v2 v3 v4 → tWG K B 0 0 S I J 55 [some (vR 61), some (vI v1), some (vI v2), some (vI v3), some (vI v4), none, none, none] []) {I : tHI} {J : tHJ} {v1 : Int32} {v2 : Int32} {v3 : Int32} {v4 : Int32} {v6 : Int32} (h : F12_findLeaning_168 n S k kb55 I J v1 v2 v3 v4 v6) : tWG K B 0 0 S I J 168 [some (vR 61), some (vI v1), some (vI v2), some (vI v3), some (vI v4), none, some (vI v6), none] [] := by
  refine gBk (pe := 171) hO [o0 (.iload 6), o0 (.iload_n 2)] (by decide +kernel) (show tWG K B 0 0 S I J 171 [some (vR 61), some (vI v1), some (vI v2), some (vI v3), some (vI v4), none, some (vI v6), none] [vI v2, vI v6] from ?_)
  have hj12 : ∀ (m13 : Int32), m13 = (if v6 ≤ v2 then v2 else v6) → tWG K B 0 0 S I J 180 [some (vR 61), some (vI v1), none, some (vI v3), some (vI v4), none, none, none] [vI m13] := by
    intro m13 em13
    subst em13
    refine gBk (pe := 55) hO [o0 (.istore_n 2), oI (.iinc 4 1) 1, o0 (.goto (-129))] (by decide +kernel) (And.intro (Nat.le_of_ble_eq_true rfl) (show tWG K B 0 0 S I J 55 [some (vR 61), some (vI v1), some (vI (if v6 ≤ v2 then v2 else v6)), some (vI v3), some (vI (v4 + 1)), none, none, none] [] from ?_))
    exact hkb55 _ _ _ _ _ _ h
  refine gIcLe hO (off := 8) (tgt := 179) (by decide +kernel) (by decide) (fun c14 => ?_) (fun c14 => ?_)
  · refine gBk (pe := 180) hO [o0 (.iload_n 2)] (by decide +kernel) (show tWG K B 0 0 S I J 180 [some (vR 61), some (vI v1), some (vI v2), some (vI v3), some (vI v4), none, some (vI v6), none] [vI v2] from ?_)
    exact gWeak (L' := [some (vR 61), some (vI v1), none, some (vI v3), some (vI v4), none, none, none]) ⟨rfl, rfl, rfl, rfl, trivial⟩ (hj12 _ (Eq.symm (if_pos c14)))
  · refine gBk (pe := 180) hO [o0 (.iload 6), o0 (.goto 4)] (by decide +kernel) (show tWG K B 0 0 S I J 180 [some (vR 61), some (vI v1), some (vI v2), some (vI v3), some (vI v4), none, some (vI v6), none] [vI v6] from ?_)
    exact gWeak (L' := [some (vR 61), some (vI v1), none, some (vI v3), some (vI v4), none, none, none]) ⟨rfl, rfl, rfl, rfl, trivial⟩ (hj12 _ (Eq.symm (if_neg c14)))
set_option maxRecDepth 100000 in
theorem W12_findLeaning_132 {K : tK} {B : tB} {S : tSH} {MC MS : Nat} (hO : tKO K B RX12 cX12_findLeaning 8) (hR : kR K = tRm 9 MC MS) (hG : tGr S) {n : Nat} (t0 : ty S 61 12) {k : Int32 → tHI → tHJ → Prop} (hQ : tRet K B (tQi B (tPi S k)) 0 0 (some .int)) {kb55 : tHI → tHJ → Int32 → Int32 → Int32 → Int32 → Prop} (hkb55 : ∀ (I : tHI) (J : tHJ) (v1 : Int32) (v2 : Int32) (v3 : Int32) (v4 : Int32), kb55 I J v1 v2 v3 v4 → tWG K B 0 0 S I J 55 [some (vR 61), some (vI v1), some (vI v2), some (vI v3), some (vI v4), none, none, none] []) {kb132 : tHI → tHJ → Int32 → Int32 → Int32 → Int32 → Int32 → Int32 → Prop} (hkb132 : ∀ (I : tHI) (J : tHJ) (v1 : Int32) (v2 : Int32) (v3 : Int32) (v4 : Int32) (v6 : Int32) (v7 : Int32), kb132 I J v1 v2 v3 v4 v6 v7 → tWG K B 0 0 S I J 132 [some (vR 61), some (vI v1), some (vI v2), some (vI v3), some (vI v4), none, some (vI v6), some (vI v7)] []) {I : tHI} {J : tHJ} {v1 : Int32} {v2 : Int32} {v3 : Int32} {v4 : Int32} {v6 : Int32} {v7 : Int32} (h : F12_findLeaning_132 n S k kb55 kb132 I J v1 v2 v3 v4 v6 v7) : tWG K B 0 0 S I J 132 [some (vR 61), some (vI v1), some (vI v2), some (vI v3), some (vI v4), none, some (vI v6), some (vI v7)] [] := by
  refine gBk (pe := 136) hO [o0 (.iload 7), oI (.bipush 6) 6] (by decide +kernel) (show tWG K B 0 0 S I J 136 [some (vR 61), some (vI v1), some (vI v2), some (vI v3), some (vI v4), none, some (vI v6), some (vI v7)] [vI 6, vI v7] from ?_)
  refine gIcGe hO (off := 32) (tgt := 168) (by decide +kernel) (by decide) (fun c11 => ?_) (fun c11 => ?_)
  · have h := h.1 c11
    exact gWeak (L' := [some (vR 61), some (vI v1), some (vI v2), some (vI v3), some (vI v4), none, some (vI v6), none]) ⟨rfl, rfl, rfl, rfl, rfl, rfl, trivial⟩ (W12_findLeaning_168 hO hR hG t0 hQ hkb55 h)
  · have h := h.2 c11
    refine gBk (pe := 142) hO [o0 (.iload 6), o0 (.iload_n 2)] (by decide +kernel) (show tWG K B 0 0 S I J 142 [some (vR 61), some (vI v1), some (vI v2), some (vI v3), some (vI v4), none, some (vI v6), some (vI v7)] [vI v2, vI v6] from ?_)
    refine gIcLe hO (off := 26) (tgt := 168) (by decide +kernel) (by decide) (fun c15 => ?_) (fun c15 => ?_)
    · have h := h.1 c15
      exact gWeak (L' := [some (vR 61), some (vI v1), some (vI v2), some (vI v3), some (vI v4), none, some (vI v6), none]) ⟨rfl, rfl, rfl, rfl, rfl, rfl, trivial⟩ (W12_findLeaning_168 hO hR hG t0 hQ hkb55 h)
    · have h := h.2 c15
      refine gBk (pe := 132) hO [o0 (.aload_n 0), oF (.getfield 133) 12 47 227 84, o0 (.iload 7), o0 (.aload_n 0), oF (.getfield 13) 12 3 179 63, oI (.bipush 20) 20, o0 (.iload 7), o0 .iadd, o0 .iaload, o0 .iastore, oI (.iinc 7 1) 1, o0 (.goto (-33))] (by decide +kernel) (And.intro t0 (And.intro rfl (And.intro t0 (And.intro rfl (And.intro (tGr.off hG t0 (k := 3) rfl) (And.intro (tin (tGr.len hG t0 (k := 3) rfl (by decide)) h.1) (And.intro (tGr.off hG t0 (k := 47) rfl) (And.intro (tin (tGr.len hG t0 (k := 47) rfl (by decide)) h.2.1) (show tWG K B 0 0 S (uI I 84 v7.toNatClampNeg (I 63 (20 + v7).toNatClampNeg)) J 132 [some (vR 61), some (vI v1), some (vI v2), some (vI v3), some (vI v4), none, some (vI v6), some (vI (v7 + 1))] [] from ?_)))))))))
      have h := h.2.2
      exact hkb132 _ _ _ _ _ _ _ _ h
theorem W12_findLeaning_L132 {K : tK} {B : tB} {S : tSH} {MC MS : Nat} (hO : tKO K B RX12 cX12_findLeaning 8) (hR : kR K = tRm 9 MC MS) (hG : tGr S) {n : Nat} (t0 : ty S 61 12) {k : Int32 → tHI → tHJ → Prop} (hQ : tRet K B (tQi B (tPi S k)) 0 0 (some .int)) {kb55 : tHI → tHJ → Int32 → Int32 → Int32 → Int32 → Prop} (hkb55 : ∀ (I : tHI) (J : tHJ) (v1 : Int32) (v2 : Int32) (v3 : Int32) (v4 : Int32), kb55 I J v1 v2 v3 v4 → tWG K B 0 0 S I J 55 [some (vR 61), some (vI v1), some (vI v2), some (vI v3), some (vI v4), none, none, none] []) : ∀ (f : Nat) (I : tHI) (J : tHJ) (v1 : Int32) (v2 : Int32) (v3 : Int32) (v4 : Int32) (v6 : Int32) (v7 : Int32), F12_findLeaning_L132 n S k kb55 f I J v1 v2 v3 v4 v6 v7 → tWG K B 0 0 S I J 132 [some (vR 61), some (vI v1), some (vI v2), some (vI v3), some (vI v4), none, some (vI v6), some (vI v7)] [] := by
  intro f
  induction f with
  | zero => intro I J v1 v2 v3 v4 v6 v7 h; exact h.elim
  | succ f ih => intro I J v1 v2 v3 v4 v6 v7 h; exact W12_findLeaning_132 hO hR hG t0 hQ hkb55 ih h
set_option maxRecDepth 100000 in
theorem W12_findLeaning_116 {K : tK} {B : tB} {S : tSH} {MC MS : Nat} (hO : tKO K B RX12 cX12_findLeaning 8) (hR : kR K = tRm 9 MC MS) (hG : tGr S) {n : Nat} (t0 : ty S 61 12) {k : Int32 → tHI → tHJ → Prop} (hQ : tRet K B (tQi B (tPi S k)) 0 0 (some .int)) {kb55 : tHI → tHJ → Int32 → Int32 → Int32 → Int32 → Prop} (hkb55 : ∀ (I : tHI) (J : tHJ) (v1 : Int32) (v2 : Int32) (v3 : Int32) (v4 : Int32), kb55 I J v1 v2 v3 v4 → tWG K B 0 0 S I J 55 [some (vR 61), some (vI v1), some (vI v2), some (vI v3), some (vI v4), none, none, none] []) {kb75 : tHI → tHJ → Int32 → Int32 → Int32 → Int32 → Int32 → Int32 → Prop} (hkb75 : ∀ (I : tHI) (J : tHJ) (v1 : Int32) (v2 : Int32) (v3 : Int32) (v4 : Int32) (v5 : Int32) (v6 : Int32), kb75 I J v1 v2 v3 v4 v5 v6 → tWG K B 0 0 S I J 75 [some (vR 61), some (vI v1), some (vI v2), some (vI v3), some (vI v4), some (vI v5), some (vI v6), none] []) {I : tHI} {J : tHJ} {v1 : Int32} {v2 : Int32} {v3 : Int32} {v4 : Int32} {v5 : Int32} {v6 : Int32} (h : F12_findLeaning_116 n S k kb55 kb75 I J v1 v2 v3 v4 v5 v6) : tWG K B 0 0 S I J 116 [some (vR 61), some (vI v1), some (vI v2), some (vI v3), some (vI v4), some (vI v5), some (vI v6), none] [] := by
  refine gBk (pe := 75) hO [oI (.iinc 6 (-1)) (-1), o0 (.goto (-44))] (by decide +kernel) (show tWG K B 0 0 S I J 75 [some (vR 61), some (vI v1), some (vI v2), some (vI v3), some (vI v4), some (vI v5), some (vI (v6 + (-1))), none] [] from ?_)
  exact hkb75 _ _ _ _ _ _ _ _ h
set_option maxRecDepth 100000 in
theorem W12_findLeaning_75 {K : tK} {B : tB} {S : tSH} {MC MS : Nat} (hO : tKO K B RX12 cX12_findLeaning 8) (hR : kR K = tRm 9 MC MS) (hG : tGr S) {n : Nat} (t0 : ty S 61 12) {k : Int32 → tHI → tHJ → Prop} (hQ : tRet K B (tQi B (tPi S k)) 0 0 (some .int)) {kb55 : tHI → tHJ → Int32 → Int32 → Int32 → Int32 → Prop} (hkb55 : ∀ (I : tHI) (J : tHJ) (v1 : Int32) (v2 : Int32) (v3 : Int32) (v4 : Int32), kb55 I J v1 v2 v3 v4 → tWG K B 0 0 S I J 55 [some (vR 61), some (vI v1), some (vI v2), some (vI v3), some (vI v4), none, none, none] []) {kb75 : tHI → tHJ → Int32 → Int32 → Int32 → Int32 → Int32 → Int32 → Prop} (hkb75 : ∀ (I : tHI) (J : tHJ) (v1 : Int32) (v2 : Int32) (v3 : Int32) (v4 : Int32) (v5 : Int32) (v6 : Int32), kb75 I J v1 v2 v3 v4 v5 v6 → tWG K B 0 0 S I J 75 [some (vR 61), some (vI v1), some (vI v2), some (vI v3), some (vI v4), some (vI v5), some (vI v6), none] []) {I : tHI} {J : tHJ} {v1 : Int32} {v2 : Int32} {v3 : Int32} {v4 : Int32} {v5 : Int32} {v6 : Int32} (h : F12_findLeaning_75 n S k kb55 kb75 I J v1 v2 v3 v4 v5 v6) : tWG K B 0 0 S I J 75 [some (vR 61), some (vI v1), some (vI v2), some (vI v3), some (vI v4), some (vI v5), some (vI v6), none] [] := by
  refine gBk (pe := 77) hO [o0 (.iload 6)] (by decide +kernel) (show tWG K B 0 0 S I J 77 [some (vR 61), some (vI v1), some (vI v2), some (vI v3), some (vI v4), some (vI v5), some (vI v6), none] [vI v6] from ?_)
  refine gIfLt hO (off := 45) (tgt := 122) (by decide +kernel) (by decide) (fun c7 => ?_) (fun c7 => ?_)
  · have h := h.1 c7
    refine gBk (pe := 124) hO [o0 (.aload_n 0), o0 (.iload_n 1)] (by decide +kernel) (show tWG K B 0 0 S I J 124 [some (vR 61), some (vI v1), some (vI v2), some (vI v3), some (vI v4), some (vI v5), some (vI v6), none] [vI v1, vR 61] from ?_)
    refine gCVi_c hO (M12_quickest t0 h) hc12_quickest (idx := 481) (w := 1182) (by decide +kernel) hR (by omega) t0 ⟨by decide, rfl⟩ (vs := [vI v1]) (st := []) ⟨rfl, Nat.le_of_ble_eq_true rfl, rfl⟩ (by decide +kernel) (fun x10 I8 J9 h => ?_)
    refine gBk (pe := 132) hO [o0 (.istore 6), oI (.iconst 0) 0, o0 (.istore 7)] (by decide +kernel) (And.intro (Nat.le_of_ble_eq_true rfl) (And.intro (Nat.le_of_ble_eq_true rfl) (show tWG K B 0 0 S I8 J9 132 [some (vR 61), some (vI v1), some (vI v2), some (vI v3), some (vI v4), some (vI v5), some (vI x10), some (vI 0)] [] from ?_)))
    exact gWeak (L' := [some (vR 61), some (vI v1), some (vI v2), some (vI v3), some (vI v4), none, some (vI x10), some (vI 0)]) ⟨rfl, rfl, rfl, rfl, rfl, rfl, rfl, trivial⟩ (W12_findLeaning_L132 hO hR hG t0 hQ hkb55 n _ _ _ _ _ _ _ _ h)
  · have h := h.2 c7
    refine gBk (pe := 91) hO [o0 (.aload_n 0), oF (.getfield 13) 12 3 179 63, oI (.bipush 32) 32, o0 (.iload 6), o0 .iadd, o0 .iaload, oI (.iconst 1) 1] (by decide +kernel) (And.intro t0 (And.intro rfl (And.intro (tGr.off hG t0 (k := 3) rfl) (And.intro (tin (tGr.len hG t0 (k := 3) rfl (by decide)) h.1) (show tWG K B 0 0 S I J 91 [some (vR 61), some (vI v1), some (vI v2), some (vI v3), some (vI v4), some (vI v5), some (vI v6), none] [vI 1, vI (I 63 (32 + v6).toNatClampNeg)] from ?_)))))
    have h := h.2
    refine gIcNe hO (off := 25) (tgt := 116) (by decide +kernel) (by decide) (fun c16 => ?_) (fun c16 => ?_)
    · have h := h.1 c16
      exact W12_findLeaning_116 hO hR hG t0 hQ hkb55 hkb75 h
    · have h := h.2 c16
      refine gBk (pe := 116) hO [o0 (.aload_n 0), oF (.getfield 13) 12 3 179 63, oI (.bipush 20) 20, o0 (.iload 6), o0 .iadd, o0 (.iload 5), oI (.iconst 5) 5, o0 .irem, oI (.iconst 2) 2, o0 .isub, o0 .iastore, o0 (.iload 5), oI (.iconst 5) 5, o0 .idiv, o0 (.istore 5)] (by decide +kernel) (And.intro t0 (And.intro rfl (And.intro (by decide) (And.intro (tGr.off hG t0 (k := 3) rfl) (And.intro (tin (tGr.len hG t0 (k := 3) rfl (by decide)) h.1) (And.intro (by decide) (And.intro (Nat.le_of_ble_eq_true rfl) (show tWG K B 0 0 S (uI I 63 (20 + v6).toNatClampNeg ((v5 - v5 / 5 * 5) - 2)) J 116 [some (vR 61), some (vI v1), some (vI v2), some (vI v3), some (vI v4), some (vI (v5 / 5)), some (vI v6), none] [] from ?_))))))))
      have h := h.2
      exact W12_findLeaning_116 hO hR hG t0 hQ hkb55 hkb75 h
theorem W12_findLeaning_L75 {K : tK} {B : tB} {S : tSH} {MC MS : Nat} (hO : tKO K B RX12 cX12_findLeaning 8) (hR : kR K = tRm 9 MC MS) (hG : tGr S) {n : Nat} (t0 : ty S 61 12) {k : Int32 → tHI → tHJ → Prop} (hQ : tRet K B (tQi B (tPi S k)) 0 0 (some .int)) {kb55 : tHI → tHJ → Int32 → Int32 → Int32 → Int32 → Prop} (hkb55 : ∀ (I : tHI) (J : tHJ) (v1 : Int32) (v2 : Int32) (v3 : Int32) (v4 : Int32), kb55 I J v1 v2 v3 v4 → tWG K B 0 0 S I J 55 [some (vR 61), some (vI v1), some (vI v2), some (vI v3), some (vI v4), none, none, none] []) : ∀ (f : Nat) (I : tHI) (J : tHJ) (v1 : Int32) (v2 : Int32) (v3 : Int32) (v4 : Int32) (v5 : Int32) (v6 : Int32), F12_findLeaning_L75 n S k kb55 f I J v1 v2 v3 v4 v5 v6 → tWG K B 0 0 S I J 75 [some (vR 61), some (vI v1), some (vI v2), some (vI v3), some (vI v4), some (vI v5), some (vI v6), none] [] := by
  intro f
  induction f with
  | zero => intro I J v1 v2 v3 v4 v5 v6 h; exact h.elim
  | succ f ih => intro I J v1 v2 v3 v4 v5 v6 h; exact W12_findLeaning_75 hO hR hG t0 hQ hkb55 ih h
set_option maxRecDepth 100000 in
theorem W12_findLeaning_55 {K : tK} {B : tB} {S : tSH} {MC MS : Nat} (hO : tKO K B RX12 cX12_findLeaning 8) (hR : kR K = tRm 9 MC MS) (hG : tGr S) {n : Nat} (t0 : ty S 61 12) {k : Int32 → tHI → tHJ → Prop} (hQ : tRet K B (tQi B (tPi S k)) 0 0 (some .int)) {kb55 : tHI → tHJ → Int32 → Int32 → Int32 → Int32 → Prop} (hkb55 : ∀ (I : tHI) (J : tHJ) (v1 : Int32) (v2 : Int32) (v3 : Int32) (v4 : Int32), kb55 I J v1 v2 v3 v4 → tWG K B 0 0 S I J 55 [some (vR 61), some (vI v1), some (vI v2), some (vI v3), some (vI v4), none, none, none] []) {I : tHI} {J : tHJ} {v1 : Int32} {v2 : Int32} {v3 : Int32} {v4 : Int32} (h : F12_findLeaning_55 n S k kb55 I J v1 v2 v3 v4) : tWG K B 0 0 S I J 55 [some (vR 61), some (vI v1), some (vI v2), some (vI v3), some (vI v4), none, none, none] [] := by
  refine gBk (pe := 58) hO [o0 (.iload 4), o0 (.iload_n 3)] (by decide +kernel) (show tWG K B 0 0 S I J 58 [some (vR 61), some (vI v1), some (vI v2), some (vI v3), some (vI v4), none, none, none] [vI v3, vI v4] from ?_)
  refine gIcGe hO (off := 129) (tgt := 187) (by decide +kernel) (by decide) (fun c4 => ?_) (fun c4 => ?_)
  · have h := h.1 c4
    refine gBk (pe := 190) hO [o0 (.aload_n 0), oI (.bipush 16) 16] (by decide +kernel) (show tWG K B 0 0 S I J 190 [some (vR 61), some (vI v1), some (vI v2), some (vI v3), some (vI v4), none, none, none] [vI 16, vR 61] from ?_)
    refine gCVv_c hO (M12_putBack t0 h) hc12_putBack (idx := 178) (w := 1066) (by decide +kernel) hR (by omega) t0 ⟨by decide, rfl⟩ (vs := [vI 16]) (st := []) ⟨rfl, Nat.le_of_ble_eq_true rfl, rfl⟩ (by decide +kernel) (fun I5 J6 h => ?_)
    refine gBk (pe := 194) hO [o0 (.iload_n 2)] (by decide +kernel) (show tWG K B 0 0 S I5 J6 194 [some (vR 61), some (vI v1), some (vI v2), some (vI v3), some (vI v4), none, none, none] [vI v2] from ?_)
    exact gIret hO hQ (by decide +kernel) ⟨rfl, h⟩
  · have h := h.2 c4
    refine gBk (pe := 75) hO [o0 (.iload 4), o0 (.istore 5), o0 (.aload_n 0), oF (.getfield 13) 12 3 179 63, oI (.iconst 0) 0, o0 .iaload, oI (.iconst 1) 1, o0 .isub, o0 (.istore 6)] (by decide +kernel) (And.intro (Nat.le_of_ble_eq_true rfl) (And.intro t0 (And.intro rfl (And.intro (tGr.off hG t0 (k := 3) rfl) (And.intro (tin (tGr.len hG t0 (k := 3) rfl (by decide)) (tvi (by decide +kernel))) (And.intro (Nat.le_of_ble_eq_true rfl) (show tWG K B 0 0 S I J 75 [some (vR 61), some (vI v1), some (vI v2), some (vI v3), some (vI v4), some (vI v4), some (vI ((I 63 0) - 1)), none] [] from ?_)))))))
    exact W12_findLeaning_L75 hO hR hG t0 hQ hkb55 n _ _ _ _ _ _ _ _ h
theorem W12_findLeaning_L55 {K : tK} {B : tB} {S : tSH} {MC MS : Nat} (hO : tKO K B RX12 cX12_findLeaning 8) (hR : kR K = tRm 9 MC MS) (hG : tGr S) {n : Nat} (t0 : ty S 61 12) {k : Int32 → tHI → tHJ → Prop} (hQ : tRet K B (tQi B (tPi S k)) 0 0 (some .int)) : ∀ (f : Nat) (I : tHI) (J : tHJ) (v1 : Int32) (v2 : Int32) (v3 : Int32) (v4 : Int32), F12_findLeaning_L55 n S k f I J v1 v2 v3 v4 → tWG K B 0 0 S I J 55 [some (vR 61), some (vI v1), some (vI v2), some (vI v3), some (vI v4), none, none, none] [] := by
  intro f
  induction f with
  | zero => intro I J v1 v2 v3 v4 h; exact h.elim
  | succ f ih => intro I J v1 v2 v3 v4 h; exact W12_findLeaning_55 hO hR hG t0 hQ ih h
set_option maxRecDepth 100000 in
theorem W12_findLeaning_7 {K : tK} {B : tB} {S : tSH} {MC MS : Nat} (hO : tKO K B RX12 cX12_findLeaning 8) (hR : kR K = tRm 9 MC MS) (hG : tGr S) {n : Nat} (t0 : ty S 61 12) {k : Int32 → tHI → tHJ → Prop} (hQ : tRet K B (tQi B (tPi S k)) 0 0 (some .int)) {kb7 : tHI → tHJ → Int32 → Int32 → Int32 → Int32 → Prop} (hkb7 : ∀ (I : tHI) (J : tHJ) (v1 : Int32) (v2 : Int32) (v3 : Int32) (v4 : Int32), kb7 I J v1 v2 v3 v4 → tWG K B 0 0 S I J 7 [some (vR 61), some (vI v1), some (vI v2), some (vI v3), some (vI v4), none, none, none] []) {I : tHI} {J : tHJ} {v1 : Int32} {v2 : Int32} {v3 : Int32} {v4 : Int32} (h : F12_findLeaning_7 n S k kb7 I J v1 v2 v3 v4) : tWG K B 0 0 S I J 7 [some (vR 61), some (vI v1), some (vI v2), some (vI v3), some (vI v4), none, none, none] [] := by
  refine gBk (pe := 15) hO [o0 (.iload 4), o0 (.aload_n 0), oF (.getfield 13) 12 3 179 63, oI (.iconst 0) 0, o0 .iaload] (by decide +kernel) (And.intro t0 (And.intro rfl (And.intro (tGr.off hG t0 (k := 3) rfl) (And.intro (tin (tGr.len hG t0 (k := 3) rfl (by decide)) (tvi (by decide +kernel))) (show tWG K B 0 0 S I J 15 [some (vR 61), some (vI v1), some (vI v2), some (vI v3), some (vI v4), none, none, none] [vI (I 63 0), vI v4] from ?_)))))
  refine gIcGe hO (off := 31) (tgt := 46) (by decide +kernel) (by decide) (fun c1 => ?_) (fun c1 => ?_)
  · have h := h.1 c1
    refine gBk (pe := 49) hO [o0 (.aload_n 0), oI (.bipush 16) 16] (by decide +kernel) (show tWG K B 0 0 S I J 49 [some (vR 61), some (vI v1), some (vI v2), some (vI v3), some (vI v4), none, none, none] [vI 16, vR 61] from ?_)
    refine gCVv_c hO (M12_keepAll t0 h) hc12_keepAll (idx := 174) (w := 997) (by decide +kernel) hR (by omega) t0 ⟨by decide, rfl⟩ (vs := [vI 16]) (st := []) ⟨rfl, Nat.le_of_ble_eq_true rfl, rfl⟩ (by decide +kernel) (fun I2 J3 h => ?_)
    refine gBk (pe := 55) hO [oI (.iconst 0) 0, o0 (.istore 4)] (by decide +kernel) (And.intro (Nat.le_of_ble_eq_true rfl) (show tWG K B 0 0 S I2 J3 55 [some (vR 61), some (vI v1), some (vI v2), some (vI v3), some (vI 0), none, none, none] [] from ?_))
    exact W12_findLeaning_L55 hO hR hG t0 hQ n _ _ _ _ _ _ h
  · have h := h.2 c1
    refine gBk (pe := 30) hO [o0 (.iload_n 3), o0 (.aload_n 0), oF (.getfield 13) 12 3 179 63, oI (.bipush 32) 32, o0 (.iload 4), o0 .iadd, o0 .iaload, oI (.iconst 1) 1] (by decide +kernel) (And.intro t0 (And.intro rfl (And.intro (tGr.off hG t0 (k := 3) rfl) (And.intro (tin (tGr.len hG t0 (k := 3) rfl (by decide)) h.1) (show tWG K B 0 0 S I J 30 [some (vR 61), some (vI v1), some (vI v2), some (vI v3), some (vI v4), none, none, none] [vI 1, vI (I 63 (32 + v4).toNatClampNeg), vI v3] from ?_)))))
    have h := h.2
    have hj17 : ∀ (m18 : Int32), m18 = (if (I 63 (32 + v4).toNatClampNeg) = 1 then (5 : Int32) else 1) → tWG K B 0 0 S I J 38 [some (vR 61), some (vI v1), some (vI v2), none, some (vI v4), none, none, none] [vI m18, vI v3] := by
      intro m18 em18
      subst em18
      refine gBk (pe := 7) hO [o0 .imul, o0 (.istore_n 3), oI (.iinc 4 1) 1, o0 (.goto (-36))] (by decide +kernel) (And.intro (Nat.le_of_ble_eq_true rfl) (show tWG K B 0 0 S I J 7 [some (vR 61), some (vI v1), some (vI v2), some (vI (v3 * (if (I 63 (32 + v4).toNatClampNeg) = 1 then (5 : Int32) else 1))), some (vI (v4 + 1)), none, none, none] [] from ?_))
      exact hkb7 _ _ _ _ _ _ h
    refine gIcNe hO (off := 7) (tgt := 37) (by decide +kernel) (by decide) (fun c19 => ?_) (fun c19 => ?_)
    · refine gBk (pe := 38) hO [oI (.iconst 1) 1] (by decide +kernel) (show tWG K B 0 0 S I J 38 [some (vR 61), some (vI v1), some (vI v2), some (vI v3), some (vI v4), none, none, none] [vI 1, vI v3] from ?_)
      exact gWeak (L' := [some (vR 61), some (vI v1), some (vI v2), none, some (vI v4), none, none, none]) ⟨rfl, rfl, rfl, rfl, trivial⟩ (hj17 _ (Eq.symm (if_neg c19)))
    · refine gBk (pe := 38) hO [oI (.iconst 5) 5, o0 (.goto 4)] (by decide +kernel) (show tWG K B 0 0 S I J 38 [some (vR 61), some (vI v1), some (vI v2), some (vI v3), some (vI v4), none, none, none] [vI 5, vI v3] from ?_)
      exact gWeak (L' := [some (vR 61), some (vI v1), some (vI v2), none, some (vI v4), none, none, none]) ⟨rfl, rfl, rfl, rfl, trivial⟩ (hj17 _ (Eq.symm (if_pos c19)))
theorem W12_findLeaning_L7 {K : tK} {B : tB} {S : tSH} {MC MS : Nat} (hO : tKO K B RX12 cX12_findLeaning 8) (hR : kR K = tRm 9 MC MS) (hG : tGr S) {n : Nat} (t0 : ty S 61 12) {k : Int32 → tHI → tHJ → Prop} (hQ : tRet K B (tQi B (tPi S k)) 0 0 (some .int)) : ∀ (f : Nat) (I : tHI) (J : tHJ) (v1 : Int32) (v2 : Int32) (v3 : Int32) (v4 : Int32), F12_findLeaning_L7 n S k f I J v1 v2 v3 v4 → tWG K B 0 0 S I J 7 [some (vR 61), some (vI v1), some (vI v2), some (vI v3), some (vI v4), none, none, none] [] := by
  intro f
  induction f with
  | zero => intro I J v1 v2 v3 v4 h; exact h.elim
  | succ f ih => intro I J v1 v2 v3 v4 h; exact W12_findLeaning_7 hO hR hG t0 hQ ih h
set_option maxRecDepth 20000 in
theorem hc12_findLeaning : tCV yX12_findLeaning cX12_findLeaning 8 (some .int) 1 := ⟨⟨(List.mem_of_getElem? (i := 1302) rfl), (List.mem_of_getElem? (i := 5) (by decide +kernel)), by decide +kernel⟩, (List.mem_of_getElem? (i := 1300) (by decide +kernel)), (List.mem_of_getElem? (i := 1301) (by decide +kernel))⟩
set_option maxRecDepth 100000 in
theorem M12_findLeaning {l : Launch} {B : tB} {S : tSH} {I : tHI} {J : tHJ} {v1 : Int32} {n : Nat} {k : Int32 → tHI → tHJ → Prop} (t0 : ty S 61 12) (h : F12_findLeaning n S I J v1 k) : Met l yX12_findLeaning (tWs yX12_findLeaning cX12_findLeaning 8 (some .int)) (tRm 9 0 0) (tPc B [vR 61, vI v1] S I J) (tQi B (tPi S k)) 0 0 (tA B) :=
  tEntry (by decide +kernel) [some (vR 61), some (vI v1), none, none, none, none, none, none] rfl rfl (Nat.le_of_ble_eq_true rfl) (fun K hl hR hO hQ hG => by
  subst hl
  refine gBk (pe := 7) hO [oI (.iconst (-1)) (-1), o0 (.istore_n 2), oI (.iconst 1) 1, o0 (.istore_n 3), oI (.iconst 0) 0, o0 (.istore 4)] (by decide +kernel) (And.intro (Nat.le_of_ble_eq_true rfl) (And.intro (Nat.le_of_ble_eq_true rfl) (And.intro (Nat.le_of_ble_eq_true rfl) (show tWG K B 0 0 S I J 7 [some (vR 61), some (vI v1), some (vI (-1)), some (vI 1), some (vI 0), none, none, none] [] from ?_))))
  exact W12_findLeaning_L7 hO hR hG t0 hQ n _ _ _ _ _ _ h)
set_option maxRecDepth 100000 in
theorem W12_leaning_29 {K : tK} {B : tB} {S : tSH} {MC MS : Nat} (hO : tKO K B RX12 cX12_leaning 4) (hR : kR K = tRm 10 MC MS) (hG : tGr S) {n : Nat} (t0 : ty S 61 12) {k : Int32 → tHI → tHJ → Prop} (hQ : tRet K B (tQi B (tPi S k)) 0 0 (some .int)) {I : tHI} {J : tHJ} (h : F12_leaning_29 n S k I J) : tWG K B 0 0 S I J 29 [none, none, none, none] [] := by
  refine gBk (pe := 30) hO [oI (.iconst (-1)) (-1)] (by decide +kernel) (show tWG K B 0 0 S I J 30 [none, none, none, none] [vI (-1)] from ?_)
  exact gIret hO hQ (by decide +kernel) ⟨rfl, h⟩
set_option maxRecDepth 20000 in
theorem hc12_leaning : tCV yX12_leaning cX12_leaning 4 (some .int) 2 := ⟨⟨(List.mem_of_getElem? (i := 1298) rfl), (List.mem_of_getElem? (i := 5) (by decide +kernel)), by decide +kernel⟩, (List.mem_of_getElem? (i := 1296) (by decide +kernel)), (List.mem_of_getElem? (i := 1297) (by decide +kernel))⟩
set_option maxRecDepth 100000 in
theorem M12_leaning {l : Launch} {B : tB} {S : tSH} {I : tHI} {J : tHJ} {v1 : Int32} {v2 : Int32} {n : Nat} {k : Int32 → tHI → tHJ → Prop} (t0 : ty S 61 12) (h : F12_leaning n S I J v1 v2 k) : Met l yX12_leaning (tWs yX12_leaning cX12_leaning 4 (some .int)) (tRm 10 0 0) (tPc B [vR 61, vI v1, vI v2] S I J) (tQi B (tPi S k)) 0 0 (tA B) :=
  tEntry (by decide +kernel) [some (vR 61), some (vI v1), some (vI v2), none] rfl rfl (Nat.le_of_ble_eq_true rfl) (fun K hl hR hO hQ hG => by
  subst hl
  refine gBk (pe := 7) hO [o0 (.aload_n 0), oI (.iconst 0) 0, oF (.putfield 161) 12 0 316 0, o0 (.aload_n 0), o0 (.iload_n 1)] (by decide +kernel) (And.intro t0 (show tWG K B 0 0 S (uI I 61 0 0) J 7 [some (vR 61), some (vI v1), some (vI v2), none] [vI v1, vR 61] from ?_))
  refine gCVi_z hO (M12_isBend t0) hc12_isBend (idx := 220) (w := 352) (by decide +kernel) hR (by omega) t0 ⟨by decide, rfl⟩ (vs := [vI v1]) (st := []) ⟨rfl, Nat.le_of_ble_eq_true rfl, rfl⟩ (by decide +kernel) (fun z1 => ?_)
  refine gIfEq hO (off := 19) (tgt := 29) (by decide +kernel) (by decide) (fun c2 => ?_) (fun c2 => ?_)
  · have h := h.1 c2
    exact gWeak (L' := [none, none, none, none]) trivial (W12_leaning_29 hO hR hG t0 hQ h)
  · have h := h.2 c2
    refine gBk (pe := 23) hO [o0 (.iload_n 2), o0 .i2l, oJ (.lconst 0) 0 0, o0 (.aload_n 0), oF (.getfield 13) 12 3 179 63, oI (.iconst 0) 0, o0 .iaload, o0 .i2l] (by decide +kernel) (And.intro t0 (And.intro rfl (And.intro (tGr.off hG t0 (k := 3) rfl) (And.intro (tin (tGr.len hG t0 (k := 3) rfl (by decide)) (tvi (by decide +kernel))) (show tWG K B 0 0 S (uI I 61 0 0) J 23 [some (vR 61), some (vI v1), some (vI v2), none] [vL (((uI I 61 0 0) 63 0).toInt64), vL 0, vL v2.toInt64] from ?_)))))
    refine gCSi_z hO (M12_in) hc12_in (idx := 181) (w := 319) (by decide +kernel) hR (by omega) (vs := [vL v2.toInt64, vL 0, vL (((uI I 61 0 0) 63 0).toInt64)]) (st := []) ⟨rfl, Nat.le_of_ble_eq_true rfl, rfl⟩ (by decide +kernel) (fun z3 => ?_)
    refine gIfNe hO (off := 5) (tgt := 31) (by decide +kernel) (by decide) (fun c4 => ?_) (fun c4 => ?_)
    · have h := h.1 c4
      refine gBk (pe := 33) hO [o0 (.aload_n 0), o0 (.iload_n 1)] (by decide +kernel) (show tWG K B 0 0 S (uI I 61 0 0) J 33 [some (vR 61), some (vI v1), some (vI v2), none] [vI v1, vR 61] from ?_)
      refine gCVi_c hO (M12_findLeaning t0 h) hc12_findLeaning (idx := 506) (w := 1299) (by decide +kernel) hR (by omega) t0 ⟨by decide, rfl⟩ (vs := [vI v1]) (st := []) ⟨rfl, Nat.le_of_ble_eq_true rfl, rfl⟩ (by decide +kernel) (fun x7 I5 J6 h => ?_)
      refine gBk (pe := 38) hO [o0 (.istore_n 3), o0 (.iload_n 2)] (by decide +kernel) (And.intro (Nat.le_of_ble_eq_true rfl) (show tWG K B 0 0 S I5 J6 38 [some (vR 61), some (vI v1), some (vI v2), some (vI x7)] [vI v2] from ?_))
      have hj8 : ∀ (m9 : Int32), m9 = (if v2 = 0 then x7 else (if (I5 63 ((32 + v2) - 1).toNatClampNeg) = 1 then ((I5 84 (v2 - 1).toNatClampNeg) + 2) else 2)) → tWG K B 0 0 S I5 J6 74 [none, none, none, none] [vI m9] := by
        intro m9 em9
        subst em9
        have h := h.2
        exact gIret hO hQ (by decide +kernel) ⟨rfl, h⟩
      have h := h.1
      refine gIfNe hO (off := 7) (tgt := 45) (by decide +kernel) (by decide) (fun c10 => ?_) (fun c10 => ?_)
      · have h := h.1 c10
        refine gBk (pe := 57) hO [o0 (.aload_n 0), oF (.getfield 13) 12 3 179 63, oI (.bipush 32) 32, o0 (.iload_n 2), o0 .iadd, oI (.iconst 1) 1, o0 .isub, o0 .iaload, oI (.iconst 1) 1] (by decide +kernel) (And.intro t0 (And.intro rfl (And.intro (tGr.off hG t0 (k := 3) rfl) (And.intro (tin (tGr.len hG t0 (k := 3) rfl (by decide)) h.1) (show tWG K B 0 0 S I5 J6 57 [some (vR 61), some (vI v1), some (vI v2), some (vI x7)] [vI 1, vI (I5 63 ((32 + v2) - 1).toNatClampNeg)] from ?_)))))
        have h := h.2
        refine gIcNe hO (off := 16) (tgt := 73) (by decide +kernel) (by decide) (fun c11 => ?_) (fun c11 => ?_)
        · have h := h.1 c11
          refine gBk (pe := 74) hO [oI (.iconst 2) 2] (by decide +kernel) (show tWG K B 0 0 S I5 J6 74 [some (vR 61), some (vI v1), some (vI v2), some (vI x7)] [vI 2] from ?_)
          exact gWeak (L' := [none, none, none, none]) trivial (hj8 _ (Eq.symm ((if_neg c10).trans (if_neg c11))))
        · have h := h.2 c11
          refine gBk (pe := 74) hO [o0 (.aload_n 0), oF (.getfield 133) 12 47 227 84, o0 (.iload_n 2), oI (.iconst 1) 1, o0 .isub, o0 .iaload, oI (.iconst 2) 2, o0 .iadd, o0 (.goto 4)] (by decide +kernel) (And.intro t0 (And.intro rfl (And.intro (tGr.off hG t0 (k := 47) rfl) (And.intro (tin (tGr.len hG t0 (k := 47) rfl (by decide)) h.1) (show tWG K B 0 0 S I5 J6 74 [some (vR 61), some (vI v1), some (vI v2), some (vI x7)] [vI ((I5 84 (v2 - 1).toNatClampNeg) + 2)] from ?_)))))
          have h := h.2
          exact gWeak (L' := [none, none, none, none]) trivial (hj8 _ (Eq.symm ((if_neg c10).trans (if_pos c11))))
      · have h := h.2 c10
        refine gBk (pe := 74) hO [o0 (.iload_n 3), o0 (.goto 32)] (by decide +kernel) (show tWG K B 0 0 S I5 J6 74 [some (vR 61), some (vI v1), some (vI v2), some (vI x7)] [vI x7] from ?_)
        exact gWeak (L' := [none, none, none, none]) trivial (hj8 _ (Eq.symm (if_pos c10)))
    · have h := h.2 c4
      exact gWeak (L' := [none, none, none, none]) trivial (W12_leaning_29 hO hR hG t0 hQ h))
set_option maxRecDepth 100000 in
theorem W12_timesOfAll_52 {K : tK} {B : tB} {S : tSH} {MC MS : Nat} (hO : tKO K B RX12 cX12_timesOfAll 4) (hR : kR K = tRm 9 MC MS) (hG : tGr S) {n : Nat} (t0 : ty S 61 12) {k : Int32 → tHI → tHJ → Prop} (hQ : tRet K B (tQi B (tPi S k)) 0 0 (some .int)) {I : tHI} {J : tHJ} {v1 : Int32} (h : F12_timesOfAll_52 n S k I J v1) : tWG K B 0 0 S I J 52 [none, some (vI v1), none, none] [] := by
  refine gBk (pe := 53) hO [o0 (.iload_n 1)] (by decide +kernel) (show tWG K B 0 0 S I J 53 [none, some (vI v1), none, none] [vI v1] from ?_)
  exact gIret hO hQ (by decide +kernel) ⟨rfl, h⟩
set_option maxRecDepth 100000 in
theorem W12_timesOfAll_4 {K : tK} {B : tB} {S : tSH} {MC MS : Nat} (hO : tKO K B RX12 cX12_timesOfAll 4) (hR : kR K = tRm 9 MC MS) (hG : tGr S) {n : Nat} (t0 : ty S 61 12) {k : Int32 → tHI → tHJ → Prop} (hQ : tRet K B (tQi B (tPi S k)) 0 0 (some .int)) {kb4 : tHI → tHJ → Int32 → Int32 → Prop} (hkb4 : ∀ (I : tHI) (J : tHJ) (v1 : Int32) (v2 : Int32), kb4 I J v1 v2 → tWG K B 0 0 S I J 4 [some (vR 61), some (vI v1), some (vI v2), none] []) {I : tHI} {J : tHJ} {v1 : Int32} {v2 : Int32} (h : F12_timesOfAll_4 n S k kb4 I J v1 v2) : tWG K B 0 0 S I J 4 [some (vR 61), some (vI v1), some (vI v2), none] [] := by
  refine gBk (pe := 11) hO [o0 (.iload_n 2), o0 (.aload_n 0), oF (.getfield 13) 12 3 179 63, oI (.iconst 1) 1, o0 .iaload] (by decide +kernel) (And.intro t0 (And.intro rfl (And.intro (tGr.off hG t0 (k := 3) rfl) (And.intro (tin (tGr.len hG t0 (k := 3) rfl (by decide)) (tvi (by decide +kernel))) (show tWG K B 0 0 S I J 11 [some (vR 61), some (vI v1), some (vI v2), none] [vI (I 63 1), vI v2] from ?_)))))
  refine gIcGe hO (off := 41) (tgt := 52) (by decide +kernel) (by decide) (fun c1 => ?_) (fun c1 => ?_)
  · have h := h.1 c1
    exact gWeak (L' := [none, some (vI v1), none, none]) ⟨rfl, trivial⟩ (W12_timesOfAll_52 hO hR hG t0 hQ h)
  · have h := h.2 c1
    refine gBk (pe := 15) hO [o0 (.iload_n 1)] (by decide +kernel) (show tWG K B 0 0 S I J 15 [some (vR 61), some (vI v1), some (vI v2), none] [vI v1] from ?_)
    refine gBk (pe := 18) hO [(.ldc_w 467, (0, 0, 490, 0), 100000000, 0)] (by decide +kernel) (show tWG K B 0 0 S I J 18 [some (vR 61), some (vI v1), some (vI v2), none] [vI 100000000, vI v1] from ?_)
    refine gIcGe hO (off := 34) (tgt := 52) (by decide +kernel) (by decide) (fun c2 => ?_) (fun c2 => ?_)
    · have h := h.1 c2
      exact gWeak (L' := [none, some (vI v1), none, none]) ⟨rfl, trivial⟩ (W12_timesOfAll_52 hO hR hG t0 hQ h)
    · have h := h.2 c2
      refine gBk (pe := 23) hO [o0 (.aload_n 0), o0 (.iload_n 2)] (by decide +kernel) (show tWG K B 0 0 S I J 23 [some (vR 61), some (vI v1), some (vI v2), none] [vI v2, vR 61] from ?_)
      refine gCVi_c hO (M12_quickest t0 h) hc12_quickest (idx := 481) (w := 1182) (by decide +kernel) hR (by omega) t0 ⟨by decide, rfl⟩ (vs := [vI v2]) (st := []) ⟨rfl, Nat.le_of_ble_eq_true rfl, rfl⟩ (by decide +kernel) (fun x5 I3 J4 h => ?_)
      refine gBk (pe := 28) hO [o0 (.istore_n 3), o0 (.iload_n 3)] (by decide +kernel) (And.intro (Nat.le_of_ble_eq_true rfl) (show tWG K B 0 0 S I3 J4 28 [some (vR 61), some (vI v1), some (vI v2), some (vI x5)] [vI x5] from ?_))
      have hj6 : ∀ (m7 : Int32), m7 = (if x5 = 0 then 100000000 else (v1 + (V12_timeOf S I3 J4 v2 x5))) → tWG K B 0 0 S I3 J4 45 [some (vR 61), none, some (vI v2), none] [vI m7] := by
        intro m7 em7
        subst em7
        have h := h.2
        refine gBk (pe := 4) hO [o0 (.istore_n 1), oI (.iinc 2 1) 1, o0 (.goto (-45))] (by decide +kernel) (And.intro (Nat.le_of_ble_eq_true rfl) (show tWG K B 0 0 S I3 J4 4 [some (vR 61), some (vI (if x5 = 0 then 100000000 else (v1 + (V12_timeOf S I3 J4 v2 x5)))), some (vI (v2 + 1)), none] [] from ?_))
        exact hkb4 _ _ _ _ h
      have h := h.1
      refine gIfNe hO (off := 9) (tgt := 37) (by decide +kernel) (by decide) (fun c8 => ?_) (fun c8 => ?_)
      · have h := h.1 c8
        refine gBk (pe := 41) hO [o0 (.iload_n 1), o0 (.aload_n 0), o0 (.iload_n 2), o0 (.iload_n 3)] (by decide +kernel) (show tWG K B 0 0 S I3 J4 41 [some (vR 61), some (vI v1), some (vI v2), some (vI x5)] [vI x5, vI v2, vR 61, vI v1] from ?_)
        refine gCVi_p hO (M12_timeOf t0 h.1) hc12_timeOf (idx := 484) (w := 1186) (by decide +kernel) hR (by omega) t0 ⟨by decide, rfl⟩ (vs := [vI v2, vI x5]) (st := [vI v1]) ⟨rfl, Nat.le_of_ble_eq_true rfl, rfl⟩ (by decide +kernel) ?_
        have h := h.2
        refine gBk (pe := 45) hO [o0 .iadd] (by decide +kernel) (show tWG K B 0 0 S I3 J4 45 [some (vR 61), some (vI v1), some (vI v2), some (vI x5)] [vI (v1 + (V12_timeOf S I3 J4 v2 x5))] from ?_)
        exact gWeak (L' := [some (vR 61), none, some (vI v2), none]) ⟨rfl, rfl, trivial⟩ (hj6 _ (Eq.symm (if_neg c8)))
      · have h := h.2 c8
        refine gBk (pe := 45) hO [(.ldc_w 467, (0, 0, 490, 0), 100000000, 0), o0 (.goto 11)] (by decide +kernel) (show tWG K B 0 0 S I3 J4 45 [some (vR 61), some (vI v1), some (vI v2), some (vI x5)] [vI 100000000] from ?_)
        exact gWeak (L' := [some (vR 61), none, some (vI v2), none]) ⟨rfl, rfl, trivial⟩ (hj6 _ (Eq.symm (if_pos c8)))
theorem W12_timesOfAll_L4 {K : tK} {B : tB} {S : tSH} {MC MS : Nat} (hO : tKO K B RX12 cX12_timesOfAll 4) (hR : kR K = tRm 9 MC MS) (hG : tGr S) {n : Nat} (t0 : ty S 61 12) {k : Int32 → tHI → tHJ → Prop} (hQ : tRet K B (tQi B (tPi S k)) 0 0 (some .int)) : ∀ (f : Nat) (I : tHI) (J : tHJ) (v1 : Int32) (v2 : Int32), F12_timesOfAll_L4 n S k f I J v1 v2 → tWG K B 0 0 S I J 4 [some (vR 61), some (vI v1), some (vI v2), none] [] := by
  intro f
  induction f with
  | zero => intro I J v1 v2 h; exact h.elim
  | succ f ih => intro I J v1 v2 h; exact W12_timesOfAll_4 hO hR hG t0 hQ ih h
set_option maxRecDepth 20000 in
theorem hc12_timesOfAll : tCV yX12_timesOfAll cX12_timesOfAll 4 (some .int) 0 := ⟨⟨(List.mem_of_getElem? (i := 1328) rfl), (List.mem_of_getElem? (i := 5) (by decide +kernel)), by decide +kernel⟩, (List.mem_of_getElem? (i := 1326) (by decide +kernel)), (List.mem_of_getElem? (i := 1327) (by decide +kernel))⟩
set_option maxRecDepth 100000 in
theorem M12_timesOfAll {l : Launch} {B : tB} {S : tSH} {I : tHI} {J : tHJ} {n : Nat} {k : Int32 → tHI → tHJ → Prop} (t0 : ty S 61 12) (h : F12_timesOfAll n S I J k) : Met l yX12_timesOfAll (tWs yX12_timesOfAll cX12_timesOfAll 4 (some .int)) (tRm 9 0 0) (tPc B [vR 61] S I J) (tQi B (tPi S k)) 0 0 (tA B) :=
  tEntry (by decide +kernel) [some (vR 61), none, none, none] rfl rfl (Nat.le_of_ble_eq_true rfl) (fun K hl hR hO hQ hG => by
  subst hl
  refine gBk (pe := 4) hO [oI (.iconst 0) 0, o0 (.istore_n 1), oI (.iconst 0) 0, o0 (.istore_n 2)] (by decide +kernel) (And.intro (Nat.le_of_ble_eq_true rfl) (And.intro (Nat.le_of_ble_eq_true rfl) (show tWG K B 0 0 S I J 4 [some (vR 61), some (vI 0), some (vI 0), none] [] from ?_)))
  exact W12_timesOfAll_L4 hO hR hG t0 hQ n _ _ _ _ h)
set_option maxRecDepth 100000 in
theorem W12_putting_179 {K : tK} {B : tB} {S : tSH} {MC MS : Nat} (hO : tKO K B RX12 cX12_putting 9) (hR : kR K = tRm 10 MC MS) (hG : tGr S) {n : Nat} (t0 : ty S 61 12) {k : Int32 → tHI → tHJ → Prop} (hQ : tRet K B (tQi B (tPi S k)) 0 0 (some .int)) {kb49 : tHI → tHJ → Int32 → Int32 → Int32 → Int32 → Int32 → Prop} (hkb49 : ∀ (I : tHI) (J : tHJ) (v1 : Int32) (v2 : Int32) (v3 : Int32) (v4 : Int32) (v5 : Int32), kb49 I J v1 v2 v3 v4 v5 → tWG K B 0 0 S I J 49 [some (vR 61), some (vI v1), some (vI v2), some (vI v3), some (vI v4), some (vI v5), none, none, none] []) {I : tHI} {J : tHJ} {v1 : Int32} {v2 : Int32} {v3 : Int32} {v4 : Int32} {v5 : Int32} {v7 : Int32} (h : F12_putting_179 n S k kb49 I J v1 v2 v3 v4 v5 v7) : tWG K B 0 0 S I J 179 [some (vR 61), some (vI v1), some (vI v2), some (vI v3), some (vI v4), some (vI v5), none, some (vI v7), none] [] := by
  refine gBk (pe := 183) hO [o0 (.iload 7), o0 (.iload 4)] (by decide +kernel) (show tWG K B 0 0 S I J 183 [some (vR 61), some (vI v1), some (vI v2), some (vI v3), some (vI v4), some (vI v5), none, some (vI v7), none] [vI v4, vI v7] from ?_)
  have hj15 : ∀ (m16 : Int32), m16 = (if v4 ≤ v7 then v4 else v7) → tWG K B 0 0 S I J 193 [some (vR 61), some (vI v1), some (vI v2), some (vI v3), none, some (vI v5), none, none, none] [vI m16] := by
    intro m16 em16
    subst em16
    refine gBk (pe := 49) hO [o0 (.istore 4), oI (.iinc 5 1) 1, o0 (.goto (-149))] (by decide +kernel) (And.intro (Nat.le_of_ble_eq_true rfl) (show tWG K B 0 0 S I J 49 [some (vR 61), some (vI v1), some (vI v2), some (vI v3), some (vI (if v4 ≤ v7 then v4 else v7)), some (vI (v5 + 1)), none, none, none] [] from ?_))
    exact hkb49 _ _ _ _ _ _ _ h
  refine gIcGe hO (off := 8) (tgt := 191) (by decide +kernel) (by decide) (fun c17 => ?_) (fun c17 => ?_)
  · refine gBk (pe := 193) hO [o0 (.iload 4)] (by decide +kernel) (show tWG K B 0 0 S I J 193 [some (vR 61), some (vI v1), some (vI v2), some (vI v3), some (vI v4), some (vI v5), none, some (vI v7), none] [vI v4] from ?_)
    exact gWeak (L' := [some (vR 61), some (vI v1), some (vI v2), some (vI v3), none, some (vI v5), none, none, none]) ⟨rfl, rfl, rfl, rfl, rfl, trivial⟩ (hj15 _ (Eq.symm (if_pos c17)))
  · refine gBk (pe := 193) hO [o0 (.iload 7), o0 (.goto 5)] (by decide +kernel) (show tWG K B 0 0 S I J 193 [some (vR 61), some (vI v1), some (vI v2), some (vI v3), some (vI v4), some (vI v5), none, some (vI v7), none] [vI v7] from ?_)
    exact gWeak (L' := [some (vR 61), some (vI v1), some (vI v2), some (vI v3), none, some (vI v5), none, none, none]) ⟨rfl, rfl, rfl, rfl, rfl, trivial⟩ (hj15 _ (Eq.symm (if_neg c17)))
set_option maxRecDepth 100000 in
theorem W12_putting_143 {K : tK} {B : tB} {S : tSH} {MC MS : Nat} (hO : tKO K B RX12 cX12_putting 9) (hR : kR K = tRm 10 MC MS) (hG : tGr S) {n : Nat} (t0 : ty S 61 12) {k : Int32 → tHI → tHJ → Prop} (hQ : tRet K B (tQi B (tPi S k)) 0 0 (some .int)) {kb49 : tHI → tHJ → Int32 → Int32 → Int32 → Int32 → Int32 → Prop} (hkb49 : ∀ (I : tHI) (J : tHJ) (v1 : Int32) (v2 : Int32) (v3 : Int32) (v4 : Int32) (v5 : Int32), kb49 I J v1 v2 v3 v4 v5 → tWG K B 0 0 S I J 49 [some (vR 61), some (vI v1), some (vI v2), some (vI v3), some (vI v4), some (vI v5), none, none, none] []) {kb143 : tHI → tHJ → Int32 → Int32 → Int32 → Int32 → Int32 → Int32 → Int32 → Prop} (hkb143 : ∀ (I : tHI) (J : tHJ) (v1 : Int32) (v2 : Int32) (v3 : Int32) (v4 : Int32) (v5 : Int32) (v7 : Int32) (v8 : Int32), kb143 I J v1 v2 v3 v4 v5 v7 v8 → tWG K B 0 0 S I J 143 [some (vR 61), some (vI v1), some (vI v2), some (vI v3), some (vI v4), some (vI v5), none, some (vI v7), some (vI v8)] []) {I : tHI} {J : tHJ} {v1 : Int32} {v2 : Int32} {v3 : Int32} {v4 : Int32} {v5 : Int32} {v7 : Int32} {v8 : Int32} (h : F12_putting_143 n S k kb49 kb143 I J v1 v2 v3 v4 v5 v7 v8) : tWG K B 0 0 S I J 143 [some (vR 61), some (vI v1), some (vI v2), some (vI v3), some (vI v4), some (vI v5), none, some (vI v7), some (vI v8)] [] := by
  refine gBk (pe := 146) hO [o0 (.iload 8), o0 (.iload_n 2)] (by decide +kernel) (show tWG K B 0 0 S I J 146 [some (vR 61), some (vI v1), some (vI v2), some (vI v3), some (vI v4), some (vI v5), none, some (vI v7), some (vI v8)] [vI v2, vI v8] from ?_)
  refine gIcGe hO (off := 33) (tgt := 179) (by decide +kernel) (by decide) (fun c14 => ?_) (fun c14 => ?_)
  · have h := h.1 c14
    exact gWeak (L' := [some (vR 61), some (vI v1), some (vI v2), some (vI v3), some (vI v4), some (vI v5), none, some (vI v7), none]) ⟨rfl, rfl, rfl, rfl, rfl, rfl, rfl, trivial⟩ (W12_putting_179 hO hR hG t0 hQ hkb49 h)
  · have h := h.2 c14
    refine gBk (pe := 153) hO [o0 (.iload 7), o0 (.iload 4)] (by decide +kernel) (show tWG K B 0 0 S I J 153 [some (vR 61), some (vI v1), some (vI v2), some (vI v3), some (vI v4), some (vI v5), none, some (vI v7), some (vI v8)] [vI v4, vI v7] from ?_)
    refine gIcGe hO (off := 26) (tgt := 179) (by decide +kernel) (by decide) (fun c18 => ?_) (fun c18 => ?_)
    · have h := h.1 c18
      exact gWeak (L' := [some (vR 61), some (vI v1), some (vI v2), some (vI v3), some (vI v4), some (vI v5), none, some (vI v7), none]) ⟨rfl, rfl, rfl, rfl, rfl, rfl, rfl, trivial⟩ (W12_putting_179 hO hR hG t0 hQ hkb49 h)
    · have h := h.2 c18
      refine gBk (pe := 143) hO [o0 (.aload_n 0), oF (.getfield 136) 12 48 228 85, o0 (.iload 8), o0 (.aload_n 0), oF (.getfield 13) 12 3 179 63, oI (.bipush 14) 14, o0 (.iload 8), o0 .iadd, o0 .iaload, o0 .iastore, oI (.iinc 8 1) 1, o0 (.goto (-33))] (by decide +kernel) (And.intro t0 (And.intro rfl (And.intro t0 (And.intro rfl (And.intro (tGr.off hG t0 (k := 3) rfl) (And.intro (tin (tGr.len hG t0 (k := 3) rfl (by decide)) h.1) (And.intro (tGr.off hG t0 (k := 48) rfl) (And.intro (tin (tGr.len hG t0 (k := 48) rfl (by decide)) h.2.1) (show tWG K B 0 0 S (uI I 85 v8.toNatClampNeg (I 63 (14 + v8).toNatClampNeg)) J 143 [some (vR 61), some (vI v1), some (vI v2), some (vI v3), some (vI v4), some (vI v5), none, some (vI v7), some (vI (v8 + 1))] [] from ?_)))))))))
      have h := h.2.2
      exact hkb143 _ _ _ _ _ _ _ _ _ h
theorem W12_putting_L143 {K : tK} {B : tB} {S : tSH} {MC MS : Nat} (hO : tKO K B RX12 cX12_putting 9) (hR : kR K = tRm 10 MC MS) (hG : tGr S) {n : Nat} (t0 : ty S 61 12) {k : Int32 → tHI → tHJ → Prop} (hQ : tRet K B (tQi B (tPi S k)) 0 0 (some .int)) {kb49 : tHI → tHJ → Int32 → Int32 → Int32 → Int32 → Int32 → Prop} (hkb49 : ∀ (I : tHI) (J : tHJ) (v1 : Int32) (v2 : Int32) (v3 : Int32) (v4 : Int32) (v5 : Int32), kb49 I J v1 v2 v3 v4 v5 → tWG K B 0 0 S I J 49 [some (vR 61), some (vI v1), some (vI v2), some (vI v3), some (vI v4), some (vI v5), none, none, none] []) : ∀ (f : Nat) (I : tHI) (J : tHJ) (v1 : Int32) (v2 : Int32) (v3 : Int32) (v4 : Int32) (v5 : Int32) (v7 : Int32) (v8 : Int32), F12_putting_L143 n S k kb49 f I J v1 v2 v3 v4 v5 v7 v8 → tWG K B 0 0 S I J 143 [some (vR 61), some (vI v1), some (vI v2), some (vI v3), some (vI v4), some (vI v5), none, some (vI v7), some (vI v8)] [] := by
  intro f
  induction f with
  | zero => intro I J v1 v2 v3 v4 v5 v7 v8 h; exact h.elim
  | succ f ih => intro I J v1 v2 v3 v4 v5 v7 v8 h; exact W12_putting_143 hO hR hG t0 hQ hkb49 ih h
set_option maxRecDepth 100000 in
theorem W12_putting_138 {K : tK} {B : tB} {S : tSH} {MC MS : Nat} (hO : tKO K B RX12 cX12_putting 9) (hR : kR K = tRm 10 MC MS) (hG : tGr S) {n : Nat} (t0 : ty S 61 12) {k : Int32 → tHI → tHJ → Prop} (hQ : tRet K B (tQi B (tPi S k)) 0 0 (some .int)) {kb49 : tHI → tHJ → Int32 → Int32 → Int32 → Int32 → Int32 → Prop} (hkb49 : ∀ (I : tHI) (J : tHJ) (v1 : Int32) (v2 : Int32) (v3 : Int32) (v4 : Int32) (v5 : Int32), kb49 I J v1 v2 v3 v4 v5 → tWG K B 0 0 S I J 49 [some (vR 61), some (vI v1), some (vI v2), some (vI v3), some (vI v4), some (vI v5), none, none, none] []) {I : tHI} {J : tHJ} {v1 : Int32} {v2 : Int32} {v3 : Int32} {v4 : Int32} {v5 : Int32} {s0 : Int32} (h : F12_putting_138 n S k kb49 I J v1 v2 v3 v4 v5 s0) : tWG K B 0 0 S I J 138 [some (vR 61), some (vI v1), some (vI v2), some (vI v3), some (vI v4), some (vI v5), none, none, none] [vI s0] := by
  refine gBk (pe := 143) hO [o0 (.istore 7), oI (.iconst 0) 0, o0 (.istore 8)] (by decide +kernel) (And.intro (Nat.le_of_ble_eq_true rfl) (And.intro (Nat.le_of_ble_eq_true rfl) (show tWG K B 0 0 S I J 143 [some (vR 61), some (vI v1), some (vI v2), some (vI v3), some (vI v4), some (vI v5), none, some (vI s0), some (vI 0)] [] from ?_)))
  exact W12_putting_L143 hO hR hG t0 hQ hkb49 n _ _ _ _ _ _ _ _ _ h
set_option maxRecDepth 100000 in
theorem W12_putting_103 {K : tK} {B : tB} {S : tSH} {MC MS : Nat} (hO : tKO K B RX12 cX12_putting 9) (hR : kR K = tRm 10 MC MS) (hG : tGr S) {n : Nat} (t0 : ty S 61 12) {k : Int32 → tHI → tHJ → Prop} (hQ : tRet K B (tQi B (tPi S k)) 0 0 (some .int)) {kb49 : tHI → tHJ → Int32 → Int32 → Int32 → Int32 → Int32 → Prop} (hkb49 : ∀ (I : tHI) (J : tHJ) (v1 : Int32) (v2 : Int32) (v3 : Int32) (v4 : Int32) (v5 : Int32), kb49 I J v1 v2 v3 v4 v5 → tWG K B 0 0 S I J 49 [some (vR 61), some (vI v1), some (vI v2), some (vI v3), some (vI v4), some (vI v5), none, none, none] []) {kb61 : tHI → tHJ → Int32 → Int32 → Int32 → Int32 → Int32 → Int32 → Int32 → Prop} (hkb61 : ∀ (I : tHI) (J : tHJ) (v1 : Int32) (v2 : Int32) (v3 : Int32) (v4 : Int32) (v5 : Int32) (v6 : Int32) (v7 : Int32), kb61 I J v1 v2 v3 v4 v5 v6 v7 → tWG K B 0 0 S I J 61 [some (vR 61), some (vI v1), some (vI v2), some (vI v3), some (vI v4), some (vI v5), some (vI v6), some (vI v7), none] []) {I : tHI} {J : tHJ} {v1 : Int32} {v2 : Int32} {v3 : Int32} {v4 : Int32} {v5 : Int32} {v7 : Int32} {v8 : Int32} {s0 : Int32} (h : F12_putting_103 n S k kb49 kb61 I J v1 v2 v3 v4 v5 v7 v8 s0) : tWG K B 0 0 S I J 103 [some (vR 61), some (vI v1), some (vI v2), some (vI v3), some (vI v4), some (vI v5), none, some (vI v7), some (vI v8)] [vI s0] := by
  refine gBk (pe := 61) hO [o0 (.istore 6), o0 (.aload_n 0), oF (.getfield 13) 12 3 179 63, oI (.bipush 14) 14, o0 (.iload 7), o0 .iadd, o0 (.iload 8), o0 .iastore, oI (.iinc 7 1) 1, o0 (.goto (-59))] (by decide +kernel) (And.intro (Nat.le_of_ble_eq_true rfl) (And.intro t0 (And.intro rfl (And.intro (tGr.off hG t0 (k := 3) rfl) (And.intro (tin (tGr.len hG t0 (k := 3) rfl (by decide)) h.1) (show tWG K B 0 0 S (uI I 63 (14 + v7).toNatClampNeg v8) J 61 [some (vR 61), some (vI v1), some (vI v2), some (vI v3), some (vI v4), some (vI v5), some (vI s0), some (vI (v7 + 1)), some (vI v8)] [] from ?_))))))
  have h := h.2
  exact gWeak (L' := [some (vR 61), some (vI v1), some (vI v2), some (vI v3), some (vI v4), some (vI v5), some (vI s0), some (vI (v7 + 1)), none]) ⟨rfl, rfl, rfl, rfl, rfl, rfl, rfl, rfl, trivial⟩ (hkb61 _ _ _ _ _ _ _ _ _ h)
set_option maxRecDepth 100000 in
theorem W12_putting_102 {K : tK} {B : tB} {S : tSH} {MC MS : Nat} (hO : tKO K B RX12 cX12_putting 9) (hR : kR K = tRm 10 MC MS) (hG : tGr S) {n : Nat} (t0 : ty S 61 12) {k : Int32 → tHI → tHJ → Prop} (hQ : tRet K B (tQi B (tPi S k)) 0 0 (some .int)) {kb49 : tHI → tHJ → Int32 → Int32 → Int32 → Int32 → Int32 → Prop} (hkb49 : ∀ (I : tHI) (J : tHJ) (v1 : Int32) (v2 : Int32) (v3 : Int32) (v4 : Int32) (v5 : Int32), kb49 I J v1 v2 v3 v4 v5 → tWG K B 0 0 S I J 49 [some (vR 61), some (vI v1), some (vI v2), some (vI v3), some (vI v4), some (vI v5), none, none, none] []) {kb61 : tHI → tHJ → Int32 → Int32 → Int32 → Int32 → Int32 → Int32 → Int32 → Prop} (hkb61 : ∀ (I : tHI) (J : tHJ) (v1 : Int32) (v2 : Int32) (v3 : Int32) (v4 : Int32) (v5 : Int32) (v6 : Int32) (v7 : Int32), kb61 I J v1 v2 v3 v4 v5 v6 v7 → tWG K B 0 0 S I J 61 [some (vR 61), some (vI v1), some (vI v2), some (vI v3), some (vI v4), some (vI v5), some (vI v6), some (vI v7), none] []) {I : tHI} {J : tHJ} {v1 : Int32} {v2 : Int32} {v3 : Int32} {v4 : Int32} {v5 : Int32} {v7 : Int32} {v8 : Int32} (h : F12_putting_102 n S k kb49 kb61 I J v1 v2 v3 v4 v5 v7 v8) : tWG K B 0 0 S I J 102 [some (vR 61), some (vI v1), some (vI v2), some (vI v3), some (vI v4), some (vI v5), none, some (vI v7), some (vI v8)] [] := by
  refine gBk (pe := 103) hO [oI (.iconst 0) 0] (by decide +kernel) (show tWG K B 0 0 S I J 103 [some (vR 61), some (vI v1), some (vI v2), some (vI v3), some (vI v4), some (vI v5), none, some (vI v7), some (vI v8)] [vI 0] from ?_)
  exact W12_putting_103 hO hR hG t0 hQ hkb49 hkb61 h
set_option maxRecDepth 100000 in
theorem W12_putting_61 {K : tK} {B : tB} {S : tSH} {MC MS : Nat} (hO : tKO K B RX12 cX12_putting 9) (hR : kR K = tRm 10 MC MS) (hG : tGr S) {n : Nat} (t0 : ty S 61 12) {k : Int32 → tHI → tHJ → Prop} (hQ : tRet K B (tQi B (tPi S k)) 0 0 (some .int)) {kb49 : tHI → tHJ → Int32 → Int32 → Int32 → Int32 → Int32 → Prop} (hkb49 : ∀ (I : tHI) (J : tHJ) (v1 : Int32) (v2 : Int32) (v3 : Int32) (v4 : Int32) (v5 : Int32), kb49 I J v1 v2 v3 v4 v5 → tWG K B 0 0 S I J 49 [some (vR 61), some (vI v1), some (vI v2), some (vI v3), some (vI v4), some (vI v5), none, none, none] []) {kb61 : tHI → tHJ → Int32 → Int32 → Int32 → Int32 → Int32 → Int32 → Int32 → Prop} (hkb61 : ∀ (I : tHI) (J : tHJ) (v1 : Int32) (v2 : Int32) (v3 : Int32) (v4 : Int32) (v5 : Int32) (v6 : Int32) (v7 : Int32), kb61 I J v1 v2 v3 v4 v5 v6 v7 → tWG K B 0 0 S I J 61 [some (vR 61), some (vI v1), some (vI v2), some (vI v3), some (vI v4), some (vI v5), some (vI v6), some (vI v7), none] []) {I : tHI} {J : tHJ} {v1 : Int32} {v2 : Int32} {v3 : Int32} {v4 : Int32} {v5 : Int32} {v6 : Int32} {v7 : Int32} (h : F12_putting_61 n S k kb49 kb61 I J v1 v2 v3 v4 v5 v6 v7) : tWG K B 0 0 S I J 61 [some (vR 61), some (vI v1), some (vI v2), some (vI v3), some (vI v4), some (vI v5), some (vI v6), some (vI v7), none] [] := by
  refine gBk (pe := 64) hO [o0 (.iload 7), o0 (.iload_n 2)] (by decide +kernel) (show tWG K B 0 0 S I J 64 [some (vR 61), some (vI v1), some (vI v2), some (vI v3), some (vI v4), some (vI v5), some (vI v6), some (vI v7), none] [vI v2, vI v7] from ?_)
  refine gIcGe hO (off := 59) (tgt := 123) (by decide +kernel) (by decide) (fun c12 => ?_) (fun c12 => ?_)
  · have h := h.1 c12
    refine gBk (pe := 125) hO [o0 (.iload 6)] (by decide +kernel) (show tWG K B 0 0 S I J 125 [some (vR 61), some (vI v1), some (vI v2), some (vI v3), some (vI v4), some (vI v5), some (vI v6), some (vI v7), none] [vI v6] from ?_)
    refine gIfEq hO (off := 10) (tgt := 135) (by decide +kernel) (by decide) (fun c13 => ?_) (fun c13 => ?_)
    · have h := h.1 c13
      refine gBk (pe := 138) hO [(.ldc_w 467, (0, 0, 490, 0), 100000000, 0)] (by decide +kernel) (show tWG K B 0 0 S I J 138 [some (vR 61), some (vI v1), some (vI v2), some (vI v3), some (vI v4), some (vI v5), some (vI v6), some (vI v7), none] [vI 100000000] from ?_)
      exact gWeak (L' := [some (vR 61), some (vI v1), some (vI v2), some (vI v3), some (vI v4), some (vI v5), none, none, none]) ⟨rfl, rfl, rfl, rfl, rfl, rfl, trivial⟩ (W12_putting_138 hO hR hG t0 hQ hkb49 h)
    · have h := h.2 c13
      refine gBk (pe := 129) hO [o0 (.aload_n 0)] (by decide +kernel) (show tWG K B 0 0 S I J 129 [some (vR 61), some (vI v1), some (vI v2), some (vI v3), some (vI v4), some (vI v5), some (vI v6), some (vI v7), none] [vR 61] from ?_)
      refine gCVi_c hO (M12_timesOfAll t0 h) hc12_timesOfAll (idx := 509) (w := 1325) (by decide +kernel) hR (by omega) t0 ⟨by decide, rfl⟩ (vs := []) (st := []) ⟨rfl, Nat.le_of_ble_eq_true rfl, rfl⟩ (by decide +kernel) (fun x21 I19 J20 h => ?_)
      refine gBk (pe := 138) hO [o0 (.goto 6)] (by decide +kernel) (show tWG K B 0 0 S I19 J20 138 [some (vR 61), some (vI v1), some (vI v2), some (vI v3), some (vI v4), some (vI v5), some (vI v6), some (vI v7), none] [vI x21] from ?_)
      exact gWeak (L' := [some (vR 61), some (vI v1), some (vI v2), some (vI v3), some (vI v4), some (vI v5), none, none, none]) ⟨rfl, rfl, rfl, rfl, rfl, rfl, trivial⟩ (W12_putting_138 hO hR hG t0 hQ hkb49 h)
  · have h := h.2 c12
    refine gBk (pe := 84) hO [o0 (.iload 5), oI (.iconst 2) 2, o0 (.iload_n 2), oI (.iconst 1) 1, o0 .isub, o0 (.iload 7), o0 .isub, o0 .imul, o0 .ishr, oI (.iconst 3) 3, o0 .iand, o0 (.istore 8), o0 (.iload 6)] (by decide +kernel) (And.intro (Nat.le_of_ble_eq_true rfl) (show tWG K B 0 0 S I J 84 [some (vR 61), some (vI v1), some (vI v2), some (vI v3), some (vI v4), some (vI v5), some (vI v6), some (vI v7), some (vI ((v5 >>> ((2 * ((v2 - 1) - v7)) &&& 31)) &&& 3))] [vI v6] from ?_))
    refine gIfEq hO (off := 18) (tgt := 102) (by decide +kernel) (by decide) (fun c22 => ?_) (fun c22 => ?_)
    · have h := h.1 c22
      exact gWeak (L' := [some (vR 61), some (vI v1), some (vI v2), some (vI v3), some (vI v4), some (vI v5), none, some (vI v7), some (vI ((v5 >>> ((2 * ((v2 - 1) - v7)) &&& 31)) &&& 3))]) ⟨rfl, rfl, rfl, rfl, rfl, rfl, rfl, rfl, trivial⟩ (W12_putting_102 hO hR hG t0 hQ hkb49 hkb61 h)
    · have h := h.2 c22
      refine gBk (pe := 92) hO [o0 (.aload_n 0), o0 (.iload 7), o0 (.iload 8)] (by decide +kernel) (show tWG K B 0 0 S I J 92 [some (vR 61), some (vI v1), some (vI v2), some (vI v3), some (vI v4), some (vI v5), some (vI v6), some (vI v7), some (vI ((v5 >>> ((2 * ((v2 - 1) - v7)) &&& 31)) &&& 3))] [vI ((v5 >>> ((2 * ((v2 - 1) - v7)) &&& 31)) &&& 3), vI v7, vR 61] from ?_)
      refine gCVi_b hO (M12_isBanned t0 h) hc12_isBanned (idx := 202) (w := 390) (by decide +kernel) hR (by omega) t0 ⟨by decide, rfl⟩ (vs := [vI v7, vI ((v5 >>> ((2 * ((v2 - 1) - v7)) &&& 31)) &&& 3)]) (st := []) ⟨rfl, Nat.le_of_ble_eq_true rfl, rfl⟩ (by decide +kernel) (fun x25 I23 J24 z26 h => ?_)
      have h := h z26
      have hj27 : ∀ (m28 : Int32), m28 = (if x25 = 0 then (1 : Int32) else 0) → tWG K B 0 0 S I23 J24 103 [some (vR 61), some (vI v1), some (vI v2), some (vI v3), some (vI v4), some (vI v5), none, some (vI v7), some (vI ((v5 >>> ((2 * ((v2 - 1) - v7)) &&& 31)) &&& 3))] [vI m28] := by
        intro m28 em28
        subst em28
        refine gBk (pe := 61) hO [o0 (.istore 6), o0 (.aload_n 0), oF (.getfield 13) 12 3 179 63, oI (.bipush 14) 14, o0 (.iload 7), o0 .iadd, o0 (.iload 8), o0 .iastore, oI (.iinc 7 1) 1, o0 (.goto (-59))] (by decide +kernel) (And.intro (Nat.le_of_ble_eq_true rfl) (And.intro t0 (And.intro rfl (And.intro (tGr.off hG t0 (k := 3) rfl) (And.intro (tin (tGr.len hG t0 (k := 3) rfl (by decide)) h.1) (show tWG K B 0 0 S (uI I23 63 (14 + v7).toNatClampNeg ((v5 >>> ((2 * ((v2 - 1) - v7)) &&& 31)) &&& 3)) J24 61 [some (vR 61), some (vI v1), some (vI v2), some (vI v3), some (vI v4), some (vI v5), some (vI (if x25 = 0 then (1 : Int32) else 0)), some (vI (v7 + 1)), some (vI ((v5 >>> ((2 * ((v2 - 1) - v7)) &&& 31)) &&& 3))] [] from ?_))))))
        have h := h.2
        exact gWeak (L' := [some (vR 61), some (vI v1), some (vI v2), some (vI v3), some (vI v4), some (vI v5), some (vI (if x25 = 0 then (1 : Int32) else 0)), some (vI (v7 + 1)), none]) ⟨rfl, rfl, rfl, rfl, rfl, rfl, rfl, rfl, trivial⟩ (hkb61 _ _ _ _ _ _ _ _ _ h)
      refine gIfNe hO (off := 7) (tgt := 102) (by decide +kernel) (by decide) (fun c29 => ?_) (fun c29 => ?_)
      · refine gBk (pe := 103) hO [oI (.iconst 0) 0] (by decide +kernel) (show tWG K B 0 0 S I23 J24 103 [some (vR 61), some (vI v1), some (vI v2), some (vI v3), some (vI v4), some (vI v5), some (vI v6), some (vI v7), some (vI ((v5 >>> ((2 * ((v2 - 1) - v7)) &&& 31)) &&& 3))] [vI 0] from ?_)
        exact gWeak (L' := [some (vR 61), some (vI v1), some (vI v2), some (vI v3), some (vI v4), some (vI v5), none, some (vI v7), some (vI ((v5 >>> ((2 * ((v2 - 1) - v7)) &&& 31)) &&& 3))]) ⟨rfl, rfl, rfl, rfl, rfl, rfl, rfl, rfl, trivial⟩ (hj27 _ (Eq.symm (if_neg c29)))
      · refine gBk (pe := 103) hO [oI (.iconst 1) 1, o0 (.goto 4)] (by decide +kernel) (show tWG K B 0 0 S I23 J24 103 [some (vR 61), some (vI v1), some (vI v2), some (vI v3), some (vI v4), some (vI v5), some (vI v6), some (vI v7), some (vI ((v5 >>> ((2 * ((v2 - 1) - v7)) &&& 31)) &&& 3))] [vI 1] from ?_)
        exact gWeak (L' := [some (vR 61), some (vI v1), some (vI v2), some (vI v3), some (vI v4), some (vI v5), none, some (vI v7), some (vI ((v5 >>> ((2 * ((v2 - 1) - v7)) &&& 31)) &&& 3))]) ⟨rfl, rfl, rfl, rfl, rfl, rfl, rfl, rfl, trivial⟩ (hj27 _ (Eq.symm (if_pos c29)))
theorem W12_putting_L61 {K : tK} {B : tB} {S : tSH} {MC MS : Nat} (hO : tKO K B RX12 cX12_putting 9) (hR : kR K = tRm 10 MC MS) (hG : tGr S) {n : Nat} (t0 : ty S 61 12) {k : Int32 → tHI → tHJ → Prop} (hQ : tRet K B (tQi B (tPi S k)) 0 0 (some .int)) {kb49 : tHI → tHJ → Int32 → Int32 → Int32 → Int32 → Int32 → Prop} (hkb49 : ∀ (I : tHI) (J : tHJ) (v1 : Int32) (v2 : Int32) (v3 : Int32) (v4 : Int32) (v5 : Int32), kb49 I J v1 v2 v3 v4 v5 → tWG K B 0 0 S I J 49 [some (vR 61), some (vI v1), some (vI v2), some (vI v3), some (vI v4), some (vI v5), none, none, none] []) : ∀ (f : Nat) (I : tHI) (J : tHJ) (v1 : Int32) (v2 : Int32) (v3 : Int32) (v4 : Int32) (v5 : Int32) (v6 : Int32) (v7 : Int32), F12_putting_L61 n S k kb49 f I J v1 v2 v3 v4 v5 v6 v7 → tWG K B 0 0 S I J 61 [some (vR 61), some (vI v1), some (vI v2), some (vI v3), some (vI v4), some (vI v5), some (vI v6), some (vI v7), none] [] := by
  intro f
  induction f with
  | zero => intro I J v1 v2 v3 v4 v5 v6 v7 h; exact h.elim
  | succ f ih => intro I J v1 v2 v3 v4 v5 v6 v7 h; exact W12_putting_61 hO hR hG t0 hQ hkb49 ih h
set_option maxRecDepth 100000 in
theorem W12_putting_49 {K : tK} {B : tB} {S : tSH} {MC MS : Nat} (hO : tKO K B RX12 cX12_putting 9) (hR : kR K = tRm 10 MC MS) (hG : tGr S) {n : Nat} (t0 : ty S 61 12) {k : Int32 → tHI → tHJ → Prop} (hQ : tRet K B (tQi B (tPi S k)) 0 0 (some .int)) {kb49 : tHI → tHJ → Int32 → Int32 → Int32 → Int32 → Int32 → Prop} (hkb49 : ∀ (I : tHI) (J : tHJ) (v1 : Int32) (v2 : Int32) (v3 : Int32) (v4 : Int32) (v5 : Int32), kb49 I J v1 v2 v3 v4 v5 → tWG K B 0 0 S I J 49 [some (vR 61), some (vI v1), some (vI v2), some (vI v3), some (vI v4), some (vI v5), none, none, none] []) {I : tHI} {J : tHJ} {v1 : Int32} {v2 : Int32} {v3 : Int32} {v4 : Int32} {v5 : Int32} (h : F12_putting_49 n S k kb49 I J v1 v2 v3 v4 v5) : tWG K B 0 0 S I J 49 [some (vR 61), some (vI v1), some (vI v2), some (vI v3), some (vI v4), some (vI v5), none, none, none] [] := by
  refine gBk (pe := 52) hO [o0 (.iload 5), o0 (.iload_n 3)] (by decide +kernel) (show tWG K B 0 0 S I J 52 [some (vR 61), some (vI v1), some (vI v2), some (vI v3), some (vI v4), some (vI v5), none, none, none] [vI v3, vI v5] from ?_)
  refine gIcGe hO (off := 149) (tgt := 201) (by decide +kernel) (by decide) (fun c5 => ?_) (fun c5 => ?_)
  · have h := h.1 c5
    refine gBk (pe := 204) hO [o0 (.aload_n 0), oI (.bipush 16) 16] (by decide +kernel) (show tWG K B 0 0 S I J 204 [some (vR 61), some (vI v1), some (vI v2), some (vI v3), some (vI v4), some (vI v5), none, none, none] [vI 16, vR 61] from ?_)
    refine gCVv_c hO (M12_putBack t0 h) hc12_putBack (idx := 178) (w := 1066) (by decide +kernel) hR (by omega) t0 ⟨by decide, rfl⟩ (vs := [vI 16]) (st := []) ⟨rfl, Nat.le_of_ble_eq_true rfl, rfl⟩ (by decide +kernel) (fun I6 J7 h => ?_)
    refine gBk (pe := 209) hO [o0 (.iload 4)] (by decide +kernel) (show tWG K B 0 0 S I6 J7 209 [some (vR 61), some (vI v1), some (vI v2), some (vI v3), some (vI v4), some (vI v5), none, none, none] [vI v4] from ?_)
    refine gBk (pe := 212) hO [(.ldc_w 467, (0, 0, 490, 0), 100000000, 0)] (by decide +kernel) (show tWG K B 0 0 S I6 J7 212 [some (vR 61), some (vI v1), some (vI v2), some (vI v3), some (vI v4), some (vI v5), none, none, none] [vI 100000000, vI v4] from ?_)
    have hj8 : ∀ (m9 : Int32), m9 = (if v4 = 100000000 then (-1) else (if v1 = (-1) then v4 else (I6 85 v1.toNatClampNeg))) → tWG K B 0 0 S I6 J7 235 [none, none, none, none, none, none, none, none, none] [vI m9] := by
      intro m9 em9
      subst em9
      have h := h.2
      exact gIret hO hQ (by decide +kernel) ⟨rfl, h⟩
    have h := h.1
    refine gIcNe hO (off := 7) (tgt := 219) (by decide +kernel) (by decide) (fun c10 => ?_) (fun c10 => ?_)
    · have h := h.1 c10
      refine gBk (pe := 221) hO [o0 (.iload_n 1), oI (.iconst (-1)) (-1)] (by decide +kernel) (show tWG K B 0 0 S I6 J7 221 [some (vR 61), some (vI v1), some (vI v2), some (vI v3), some (vI v4), some (vI v5), none, none, none] [vI (-1), vI v1] from ?_)
      refine gIcNe hO (off := 8) (tgt := 229) (by decide +kernel) (by decide) (fun c11 => ?_) (fun c11 => ?_)
      · have h := h.1 c11
        refine gBk (pe := 235) hO [o0 (.aload_n 0), oF (.getfield 136) 12 48 228 85, o0 (.iload_n 1), o0 .iaload] (by decide +kernel) (And.intro t0 (And.intro rfl (And.intro (tGr.off hG t0 (k := 48) rfl) (And.intro (tin (tGr.len hG t0 (k := 48) rfl (by decide)) h.1) (show tWG K B 0 0 S I6 J7 235 [some (vR 61), some (vI v1), some (vI v2), some (vI v3), some (vI v4), some (vI v5), none, none, none] [vI (I6 85 v1.toNatClampNeg)] from ?_)))))
        have h := h.2
        exact gWeak (L' := [none, none, none, none, none, none, none, none, none]) trivial (hj8 _ (Eq.symm ((if_neg c10).trans (if_neg c11))))
      · have h := h.2 c11
        refine gBk (pe := 235) hO [o0 (.iload 4), o0 (.goto 9)] (by decide +kernel) (show tWG K B 0 0 S I6 J7 235 [some (vR 61), some (vI v1), some (vI v2), some (vI v3), some (vI v4), some (vI v5), none, none, none] [vI v4] from ?_)
        exact gWeak (L' := [none, none, none, none, none, none, none, none, none]) trivial (hj8 _ (Eq.symm ((if_neg c10).trans (if_pos c11))))
    · have h := h.2 c10
      refine gBk (pe := 235) hO [oI (.iconst (-1)) (-1), o0 (.goto 19)] (by decide +kernel) (show tWG K B 0 0 S I6 J7 235 [some (vR 61), some (vI v1), some (vI v2), some (vI v3), some (vI v4), some (vI v5), none, none, none] [vI (-1)] from ?_)
      exact gWeak (L' := [none, none, none, none, none, none, none, none, none]) trivial (hj8 _ (Eq.symm (if_pos c10)))
  · have h := h.2 c5
    refine gBk (pe := 61) hO [oI (.iconst 1) 1, o0 (.istore 6), oI (.iconst 0) 0, o0 (.istore 7)] (by decide +kernel) (And.intro (Nat.le_of_ble_eq_true rfl) (And.intro (Nat.le_of_ble_eq_true rfl) (show tWG K B 0 0 S I J 61 [some (vR 61), some (vI v1), some (vI v2), some (vI v3), some (vI v4), some (vI v5), some (vI 1), some (vI 0), none] [] from ?_)))
    exact W12_putting_L61 hO hR hG t0 hQ hkb49 n _ _ _ _ _ _ _ _ _ h
theorem W12_putting_L49 {K : tK} {B : tB} {S : tSH} {MC MS : Nat} (hO : tKO K B RX12 cX12_putting 9) (hR : kR K = tRm 10 MC MS) (hG : tGr S) {n : Nat} (t0 : ty S 61 12) {k : Int32 → tHI → tHJ → Prop} (hQ : tRet K B (tQi B (tPi S k)) 0 0 (some .int)) : ∀ (f : Nat) (I : tHI) (J : tHJ) (v1 : Int32) (v2 : Int32) (v3 : Int32) (v4 : Int32) (v5 : Int32), F12_putting_L49 n S k f I J v1 v2 v3 v4 v5 → tWG K B 0 0 S I J 49 [some (vR 61), some (vI v1), some (vI v2), some (vI v3), some (vI v4), some (vI v5), none, none, none] [] := by
  intro f
  induction f with
  | zero => intro I J v1 v2 v3 v4 v5 h; exact h.elim
  | succ f ih => intro I J v1 v2 v3 v4 v5 h; exact W12_putting_49 hO hR hG t0 hQ ih h
set_option maxRecDepth 20000 in
theorem hc12_putting : tCV yX12_putting cX12_putting 9 (some .int) 1 := ⟨⟨(List.mem_of_getElem? (i := 1324) rfl), (List.mem_of_getElem? (i := 5) (by decide +kernel)), by decide +kernel⟩, (List.mem_of_getElem? (i := 1322) (by decide +kernel)), (List.mem_of_getElem? (i := 1323) (by decide +kernel))⟩
set_option maxRecDepth 100000 in
theorem M12_putting {l : Launch} {B : tB} {S : tSH} {I : tHI} {J : tHJ} {v1 : Int32} {n : Nat} {k : Int32 → tHI → tHJ → Prop} (t0 : ty S 61 12) (h : F12_putting n S I J v1 k) : Met l yX12_putting (tWs yX12_putting cX12_putting 9 (some .int)) (tRm 10 0 0) (tPc B [vR 61, vI v1] S I J) (tQi B (tPi S k)) 0 0 (tA B) :=
  tEntry (by decide +kernel) [some (vR 61), some (vI v1), none, none, none, none, none, none, none] rfl rfl (Nat.le_of_ble_eq_true rfl) (fun K hl hR hO hQ hG => by
  subst hl
  refine gBk (pe := 14) hO [o0 (.aload_n 0), oI (.iconst 0) 0, oF (.putfield 161) 12 0 316 0, o0 (.aload_n 0), oF (.getfield 13) 12 3 179 63, oI (.iconst 0) 0, o0 .iaload, o0 (.istore_n 2), o0 (.iload_n 1), o0 .i2l] (by decide +kernel) (And.intro t0 (And.intro t0 (And.intro rfl (And.intro (tGr.off hG t0 (k := 3) rfl) (And.intro (tin (tGr.len hG t0 (k := 3) rfl (by decide)) (tvi (by decide +kernel))) (And.intro (Nat.le_of_ble_eq_true rfl) (show tWG K B 0 0 S (uI I 61 0 0) J 14 [some (vR 61), some (vI v1), some (vI ((uI I 61 0 0) 63 0)), none, none, none, none, none, none] [vL v1.toInt64] from ?_)))))))
  refine gBk (pe := 21) hO [(.ldc2_w 288, (0, 0, 331, 0), 0, (-1)), o0 (.iload_n 2), o0 .i2l, oJ (.lconst 1) 0 1, o0 .lsub] (by decide +kernel) (show tWG K B 0 0 S (uI I 61 0 0) J 21 [some (vR 61), some (vI v1), some (vI ((uI I 61 0 0) 63 0)), none, none, none, none, none, none] [vL (((uI I 61 0 0) 63 0).toInt64 - 1), vL (-1), vL v1.toInt64] from ?_)
  refine gCSi_z hO (M12_in) hc12_in (idx := 181) (w := 319) (by decide +kernel) hR (by omega) (vs := [vL v1.toInt64, vL (-1), vL (((uI I 61 0 0) 63 0).toInt64 - 1)]) (st := []) ⟨rfl, Nat.le_of_ble_eq_true rfl, rfl⟩ (by decide +kernel) (fun z1 => ?_)
  refine gIfNe hO (off := 5) (tgt := 29) (by decide +kernel) (by decide) (fun c2 => ?_) (fun c2 => ?_)
  · have h := h.1 c2
    refine gBk (pe := 35) hO [oI (.iconst 1) 1, oI (.iconst 2) 2, o0 (.iload_n 2), o0 .imul, o0 .ishl, o0 (.istore_n 3)] (by decide +kernel) (And.intro (Nat.le_of_ble_eq_true rfl) (show tWG K B 0 0 S (uI I 61 0 0) J 35 [some (vR 61), some (vI v1), some (vI ((uI I 61 0 0) 63 0)), some (vI (1 <<< ((2 * ((uI I 61 0 0) 63 0)) &&& 31))), none, none, none, none, none] [] from ?_))
    refine gBk (pe := 43) hO [(.ldc_w 467, (0, 0, 490, 0), 100000000, 0), o0 (.istore 4), o0 (.aload_n 0), oI (.bipush 16) 16] (by decide +kernel) (And.intro (Nat.le_of_ble_eq_true rfl) (show tWG K B 0 0 S (uI I 61 0 0) J 43 [some (vR 61), some (vI v1), some (vI ((uI I 61 0 0) 63 0)), some (vI (1 <<< ((2 * ((uI I 61 0 0) 63 0)) &&& 31))), some (vI 100000000), none, none, none, none] [vI 16, vR 61] from ?_))
    refine gCVv_c hO (M12_keepAll t0 h) hc12_keepAll (idx := 174) (w := 997) (by decide +kernel) hR (by omega) t0 ⟨by decide, rfl⟩ (vs := [vI 16]) (st := []) ⟨rfl, Nat.le_of_ble_eq_true rfl, rfl⟩ (by decide +kernel) (fun I3 J4 h => ?_)
    refine gBk (pe := 49) hO [oI (.iconst 0) 0, o0 (.istore 5)] (by decide +kernel) (And.intro (Nat.le_of_ble_eq_true rfl) (show tWG K B 0 0 S I3 J4 49 [some (vR 61), some (vI v1), some (vI ((uI I 61 0 0) 63 0)), some (vI (1 <<< ((2 * ((uI I 61 0 0) 63 0)) &&& 31))), some (vI 100000000), some (vI 0), none, none, none] [] from ?_))
    exact W12_putting_L49 hO hR hG t0 hQ n _ _ _ _ _ _ _ h
  · have h := h.2 c2
    refine gBk (pe := 28) hO [oI (.iconst (-1)) (-1)] (by decide +kernel) (show tWG K B 0 0 S (uI I 61 0 0) J 28 [some (vR 61), some (vI v1), some (vI ((uI I 61 0 0) 63 0)), none, none, none, none, none, none] [vI (-1)] from ?_)
    exact gIret hO hQ (by decide +kernel) ⟨rfl, h⟩)
set_option maxRecDepth 100000 in
theorem W12_setting_58 {K : tK} {B : tB} {S : tSH} {MC MS : Nat} (hO : tKO K B RX12 cX12_setting 9) (hR : kR K = tRm 8 MC MS) (hG : tGr S) {n : Nat} (t0 : ty S 61 12) {k : Int32 → tHI → tHJ → Prop} (hQ : tRet K B (tQi B (tPi S k)) 0 0 (some .int)) {kb36 : tHI → tHJ → Int32 → Int32 → Int32 → Int32 → Int32 → Prop} (hkb36 : ∀ (I : tHI) (J : tHJ) (v1 : Int32) (v2 : Int32) (v3 : Int32) (v4 : Int32) (v5 : Int32), kb36 I J v1 v2 v3 v4 v5 → tWG K B 0 0 S I J 36 [some (vR 61), some (vI v1), some (vI v2), some (vI v3), some (vI v4), some (vI v5), none, none, none] []) {kb58 : tHI → tHJ → Int32 → Int32 → Int32 → Int32 → Int32 → Int32 → Int32 → Prop} (hkb58 : ∀ (I : tHI) (J : tHJ) (v1 : Int32) (v2 : Int32) (v3 : Int32) (v4 : Int32) (v5 : Int32) (v6 : Int32) (v7 : Int32), kb58 I J v1 v2 v3 v4 v5 v6 v7 → tWG K B 0 0 S I J 58 [some (vR 61), some (vI v1), some (vI v2), some (vI v3), some (vI v4), some (vI v5), some (vI v6), some (vI v7), none] []) {I : tHI} {J : tHJ} {v1 : Int32} {v2 : Int32} {v3 : Int32} {v4 : Int32} {v5 : Int32} {v6 : Int32} {v7 : Int32} (h : F12_setting_58 n S k kb36 kb58 I J v1 v2 v3 v4 v5 v6 v7) : tWG K B 0 0 S I J 58 [some (vR 61), some (vI v1), some (vI v2), some (vI v3), some (vI v4), some (vI v5), some (vI v6), some (vI v7), none] [] := by
  refine gBk (pe := 66) hO [o0 (.iload 7), o0 (.aload_n 0), oF (.getfield 13) 12 3 179 63, oI (.iconst 1) 1, o0 .iaload] (by decide +kernel) (And.intro t0 (And.intro rfl (And.intro (tGr.off hG t0 (k := 3) rfl) (And.intro (tin (tGr.len hG t0 (k := 3) rfl (by decide)) (tvi (by decide +kernel))) (show tWG K B 0 0 S I J 66 [some (vR 61), some (vI v1), some (vI v2), some (vI v3), some (vI v4), some (vI v5), some (vI v6), some (vI v7), none] [vI (I 63 1), vI v7] from ?_)))))
  refine gIcGe hO (off := 43) (tgt := 109) (by decide +kernel) (by decide) (fun c7 => ?_) (fun c7 => ?_)
  · have h := h.1 c7
    refine gBk (pe := 112) hO [o0 (.iload 6), o0 (.iload_n 3)] (by decide +kernel) (show tWG K B 0 0 S I J 112 [some (vR 61), some (vI v1), some (vI v2), some (vI v3), some (vI v4), some (vI v5), some (vI v6), some (vI v7), none] [vI v3, vI v6] from ?_)
    have hj8 : ∀ (m9 : Int32), m9 = (if v3 ≤ v6 then v4 else v5) → tWG K B 0 0 S I J 122 [some (vR 61), some (vI v1), some (vI v2), some (vI v3), none, some (vI v5), some (vI v6), none, none] [vI m9] := by
      intro m9 em9
      subst em9
      refine gBk (pe := 127) hO [o0 (.istore 4), o0 (.iload 6), o0 (.iload_n 3)] (by decide +kernel) (And.intro (Nat.le_of_ble_eq_true rfl) (show tWG K B 0 0 S I J 127 [some (vR 61), some (vI v1), some (vI v2), some (vI v3), some (vI (if v3 ≤ v6 then v4 else v5)), some (vI v5), some (vI v6), none, none] [vI v3, vI v6] from ?_))
      have hj11 : ∀ (m12 : Int32), m12 = (if v3 ≤ v6 then v3 else v6) → tWG K B 0 0 S I J 136 [some (vR 61), some (vI v1), some (vI v2), none, some (vI (if v3 ≤ v6 then v4 else v5)), some (vI v5), none, none, none] [vI m12] := by
        intro m12 em12
        subst em12
        refine gBk (pe := 36) hO [o0 (.istore_n 3), oI (.iinc 5 1) 1, o0 (.goto (-104))] (by decide +kernel) (And.intro (Nat.le_of_ble_eq_true rfl) (show tWG K B 0 0 S I J 36 [some (vR 61), some (vI v1), some (vI v2), some (vI (if v3 ≤ v6 then v3 else v6)), some (vI (if v3 ≤ v6 then v4 else v5)), some (vI (v5 + 1)), none, none, none] [] from ?_))
        exact hkb36 _ _ _ _ _ _ _ h
      refine gIcGe hO (off := 8) (tgt := 135) (by decide +kernel) (by decide) (fun c13 => ?_) (fun c13 => ?_)
      · refine gBk (pe := 136) hO [o0 (.iload_n 3)] (by decide +kernel) (show tWG K B 0 0 S I J 136 [some (vR 61), some (vI v1), some (vI v2), some (vI v3), some (vI (if v3 ≤ v6 then v4 else v5)), some (vI v5), some (vI v6), none, none] [vI v3] from ?_)
        exact gWeak (L' := [some (vR 61), some (vI v1), some (vI v2), none, some (vI (if v3 ≤ v6 then v4 else v5)), some (vI v5), none, none, none]) ⟨rfl, rfl, rfl, rfl, rfl, trivial⟩ (hj11 _ (Eq.symm (if_pos c13)))
      · refine gBk (pe := 136) hO [o0 (.iload 6), o0 (.goto 4)] (by decide +kernel) (show tWG K B 0 0 S I J 136 [some (vR 61), some (vI v1), some (vI v2), some (vI v3), some (vI (if v3 ≤ v6 then v4 else v5)), some (vI v5), some (vI v6), none, none] [vI v6] from ?_)
        exact gWeak (L' := [some (vR 61), some (vI v1), some (vI v2), none, some (vI (if v3 ≤ v6 then v4 else v5)), some (vI v5), none, none, none]) ⟨rfl, rfl, rfl, rfl, rfl, trivial⟩ (hj11 _ (Eq.symm (if_neg c13)))
    refine gIcGe hO (off := 8) (tgt := 120) (by decide +kernel) (by decide) (fun c10 => ?_) (fun c10 => ?_)
    · refine gBk (pe := 122) hO [o0 (.iload 4)] (by decide +kernel) (show tWG K B 0 0 S I J 122 [some (vR 61), some (vI v1), some (vI v2), some (vI v3), some (vI v4), some (vI v5), some (vI v6), some (vI v7), none] [vI v4] from ?_)
      exact gWeak (L' := [some (vR 61), some (vI v1), some (vI v2), some (vI v3), none, some (vI v5), some (vI v6), none, none]) ⟨rfl, rfl, rfl, rfl, rfl, rfl, trivial⟩ (hj8 _ (Eq.symm (if_pos c10)))
    · refine gBk (pe := 122) hO [o0 (.iload 5), o0 (.goto 5)] (by decide +kernel) (show tWG K B 0 0 S I J 122 [some (vR 61), some (vI v1), some (vI v2), some (vI v3), some (vI v4), some (vI v5), some (vI v6), some (vI v7), none] [vI v5] from ?_)
      exact gWeak (L' := [some (vR 61), some (vI v1), some (vI v2), some (vI v3), none, some (vI v5), some (vI v6), none, none]) ⟨rfl, rfl, rfl, rfl, rfl, rfl, trivial⟩ (hj8 _ (Eq.symm (if_neg c10)))
  · have h := h.2 c7
    refine gBk (pe := 72) hO [o0 (.aload_n 0), o0 (.iload 7)] (by decide +kernel) (show tWG K B 0 0 S I J 72 [some (vR 61), some (vI v1), some (vI v2), some (vI v3), some (vI v4), some (vI v5), some (vI v6), some (vI v7), none] [vI v7, vR 61] from ?_)
    refine gCVi_c hO (M12_pullsOf t0 h) hc12_pullsOf (idx := 234) (w := 518) (by decide +kernel) hR (by omega) t0 ⟨by decide, rfl⟩ (vs := [vI v7]) (st := []) ⟨rfl, Nat.le_of_ble_eq_true rfl, rfl⟩ (by decide +kernel) (fun x16 I14 J15 h => ?_)
    refine gBk (pe := 81) hO [o0 (.istore 8), o0 (.iload 6), o0 (.iload 8)] (by decide +kernel) (And.intro (Nat.le_of_ble_eq_true rfl) (show tWG K B 0 0 S I14 J15 81 [some (vR 61), some (vI v1), some (vI v2), some (vI v3), some (vI v4), some (vI v5), some (vI v6), some (vI v7), some (vI x16)] [vI x16, vI v6] from ?_))
    have hj17 : ∀ (m18 : Int32), m18 = (if 0 ≤ x16 then x16 else (-x16)) → tWG K B 0 0 S I14 J15 92 [some (vR 61), some (vI v1), some (vI v2), some (vI v3), some (vI v4), some (vI v5), none, some (vI v7), none] [vI m18, vI v6] := by
      intro m18 em18
      subst em18
      refine gBk (pe := 96) hO [o0 (.aload_n 0), o0 (.iload 7), oI (.iconst 1) 1] (by decide +kernel) (show tWG K B 0 0 S I14 J15 96 [some (vR 61), some (vI v1), some (vI v2), some (vI v3), some (vI v4), some (vI v5), none, some (vI v7), none] [vI 1, vI v7, vR 61, vI (if 0 ≤ x16 then x16 else (-x16)), vI v6] from ?_)
      refine gCVi_p hO (M12_ofBend t0 h.1) hc12_ofBend (idx := 240) (w := 356) (by decide +kernel) hR (by omega) t0 ⟨by decide, rfl⟩ (vs := [vI v7, vI 1]) (st := [vI (if 0 ≤ x16 then x16 else (-x16)), vI v6]) ⟨rfl, Nat.le_of_ble_eq_true rfl, rfl⟩ (by decide +kernel) ?_
      have h := h.2
      refine gBk (pe := 58) hO [o0 .imul, o0 .iadd, o0 (.istore 6), oI (.iinc 7 1) 1, o0 (.goto (-48))] (by decide +kernel) (And.intro (Nat.le_of_ble_eq_true rfl) (show tWG K B 0 0 S I14 J15 58 [some (vR 61), some (vI v1), some (vI v2), some (vI v3), some (vI v4), some (vI v5), some (vI (v6 + ((if 0 ≤ x16 then x16 else (-x16)) * (V12_ofBend S I14 J15 v7 1)))), some (vI (v7 + 1)), none] [] from ?_))
      exact hkb58 _ _ _ _ _ _ _ _ _ h
    refine gIfGe hO (off := 9) (tgt := 90) (by decide +kernel) (by decide) (fun c19 => ?_) (fun c19 => ?_)
    · refine gBk (pe := 92) hO [o0 (.iload 8)] (by decide +kernel) (show tWG K B 0 0 S I14 J15 92 [some (vR 61), some (vI v1), some (vI v2), some (vI v3), some (vI v4), some (vI v5), some (vI v6), some (vI v7), some (vI x16)] [vI x16, vI v6] from ?_)
      exact gWeak (L' := [some (vR 61), some (vI v1), some (vI v2), some (vI v3), some (vI v4), some (vI v5), none, some (vI v7), none]) ⟨rfl, rfl, rfl, rfl, rfl, rfl, rfl, trivial⟩ (hj17 _ (Eq.symm (if_pos c19)))
    · refine gBk (pe := 92) hO [o0 (.iload 8), o0 .ineg, o0 (.goto 5)] (by decide +kernel) (show tWG K B 0 0 S I14 J15 92 [some (vR 61), some (vI v1), some (vI v2), some (vI v3), some (vI v4), some (vI v5), some (vI v6), some (vI v7), some (vI x16)] [vI (-x16), vI v6] from ?_)
      exact gWeak (L' := [some (vR 61), some (vI v1), some (vI v2), some (vI v3), some (vI v4), some (vI v5), none, some (vI v7), none]) ⟨rfl, rfl, rfl, rfl, rfl, rfl, rfl, trivial⟩ (hj17 _ (Eq.symm (if_neg c19)))
theorem W12_setting_L58 {K : tK} {B : tB} {S : tSH} {MC MS : Nat} (hO : tKO K B RX12 cX12_setting 9) (hR : kR K = tRm 8 MC MS) (hG : tGr S) {n : Nat} (t0 : ty S 61 12) {k : Int32 → tHI → tHJ → Prop} (hQ : tRet K B (tQi B (tPi S k)) 0 0 (some .int)) {kb36 : tHI → tHJ → Int32 → Int32 → Int32 → Int32 → Int32 → Prop} (hkb36 : ∀ (I : tHI) (J : tHJ) (v1 : Int32) (v2 : Int32) (v3 : Int32) (v4 : Int32) (v5 : Int32), kb36 I J v1 v2 v3 v4 v5 → tWG K B 0 0 S I J 36 [some (vR 61), some (vI v1), some (vI v2), some (vI v3), some (vI v4), some (vI v5), none, none, none] []) : ∀ (f : Nat) (I : tHI) (J : tHJ) (v1 : Int32) (v2 : Int32) (v3 : Int32) (v4 : Int32) (v5 : Int32) (v6 : Int32) (v7 : Int32), F12_setting_L58 n S k kb36 f I J v1 v2 v3 v4 v5 v6 v7 → tWG K B 0 0 S I J 58 [some (vR 61), some (vI v1), some (vI v2), some (vI v3), some (vI v4), some (vI v5), some (vI v6), some (vI v7), none] [] := by
  intro f
  induction f with
  | zero => intro I J v1 v2 v3 v4 v5 v6 v7 h; exact h.elim
  | succ f ih => intro I J v1 v2 v3 v4 v5 v6 v7 h; exact W12_setting_58 hO hR hG t0 hQ hkb36 ih h
set_option maxRecDepth 100000 in
theorem W12_setting_36 {K : tK} {B : tB} {S : tSH} {MC MS : Nat} (hO : tKO K B RX12 cX12_setting 9) (hR : kR K = tRm 8 MC MS) (hG : tGr S) {n : Nat} (t0 : ty S 61 12) {k : Int32 → tHI → tHJ → Prop} (hQ : tRet K B (tQi B (tPi S k)) 0 0 (some .int)) {kb36 : tHI → tHJ → Int32 → Int32 → Int32 → Int32 → Int32 → Prop} (hkb36 : ∀ (I : tHI) (J : tHJ) (v1 : Int32) (v2 : Int32) (v3 : Int32) (v4 : Int32) (v5 : Int32), kb36 I J v1 v2 v3 v4 v5 → tWG K B 0 0 S I J 36 [some (vR 61), some (vI v1), some (vI v2), some (vI v3), some (vI v4), some (vI v5), none, none, none] []) {I : tHI} {J : tHJ} {v1 : Int32} {v2 : Int32} {v3 : Int32} {v4 : Int32} {v5 : Int32} (h : F12_setting_36 n S k kb36 I J v1 v2 v3 v4 v5) : tWG K B 0 0 S I J 36 [some (vR 61), some (vI v1), some (vI v2), some (vI v3), some (vI v4), some (vI v5), none, none, none] [] := by
  refine gBk (pe := 40) hO [o0 (.iload 5), oI (.bipush 10) 10] (by decide +kernel) (show tWG K B 0 0 S I J 40 [some (vR 61), some (vI v1), some (vI v2), some (vI v3), some (vI v4), some (vI v5), none, none, none] [vI 10, vI v5] from ?_)
  refine gIcGe hO (off := 103) (tgt := 143) (by decide +kernel) (by decide) (fun c3 => ?_) (fun c3 => ?_)
  · have h := h.1 c3
    refine gBk (pe := 152) hO [o0 (.aload_n 0), oF (.getfield 13) 12 3 179 63, oI (.bipush 8) 8, o0 (.iload_n 2), o0 .iastore, o0 (.iload_n 1)] (by decide +kernel) (And.intro t0 (And.intro rfl (And.intro (tGr.off hG t0 (k := 3) rfl) (And.intro (tin (tGr.len hG t0 (k := 3) rfl (by decide)) (tvi (by decide +kernel))) (show tWG K B 0 0 S (uI I 63 8 v2) J 152 [some (vR 61), some (vI v1), some (vI v2), some (vI v3), some (vI v4), some (vI v5), none, none, none] [vI v1] from ?_)))))
    have hj4 : ∀ (m5 : Int32), m5 = (if v1 = 0 then (v4 + 9) else v3) → tWG K B 0 0 S (uI I 63 8 v2) J 164 [none, none, none, none, none, none, none, none, none] [vI m5] := by
      intro m5 em5
      subst em5
      exact gIret hO hQ (by decide +kernel) ⟨rfl, h⟩
    refine gIfNe hO (off := 11) (tgt := 163) (by decide +kernel) (by decide) (fun c6 => ?_) (fun c6 => ?_)
    · refine gBk (pe := 164) hO [o0 (.iload_n 3)] (by decide +kernel) (show tWG K B 0 0 S (uI I 63 8 v2) J 164 [some (vR 61), some (vI v1), some (vI v2), some (vI v3), some (vI v4), some (vI v5), none, none, none] [vI v3] from ?_)
      exact gWeak (L' := [none, none, none, none, none, none, none, none, none]) trivial (hj4 _ (Eq.symm (if_neg c6)))
    · refine gBk (pe := 164) hO [o0 (.iload 4), oI (.bipush 9) 9, o0 .iadd, o0 (.goto 4)] (by decide +kernel) (show tWG K B 0 0 S (uI I 63 8 v2) J 164 [some (vR 61), some (vI v1), some (vI v2), some (vI v3), some (vI v4), some (vI v5), none, none, none] [vI (v4 + 9)] from ?_)
      exact gWeak (L' := [none, none, none, none, none, none, none, none, none]) trivial (hj4 _ (Eq.symm (if_pos c6)))
  · have h := h.2 c3
    refine gBk (pe := 58) hO [o0 (.aload_n 0), oF (.getfield 13) 12 3 179 63, oI (.bipush 8) 8, o0 (.iload 5), o0 .iastore, oI (.iconst 0) 0, o0 (.istore 6), oI (.iconst 0) 0, o0 (.istore 7)] (by decide +kernel) (And.intro t0 (And.intro rfl (And.intro (tGr.off hG t0 (k := 3) rfl) (And.intro (tin (tGr.len hG t0 (k := 3) rfl (by decide)) (tvi (by decide +kernel))) (And.intro (Nat.le_of_ble_eq_true rfl) (And.intro (Nat.le_of_ble_eq_true rfl) (show tWG K B 0 0 S (uI I 63 8 v5) J 58 [some (vR 61), some (vI v1), some (vI v2), some (vI v3), some (vI v4), some (vI v5), some (vI 0), some (vI 0), none] [] from ?_)))))))
    exact W12_setting_L58 hO hR hG t0 hQ hkb36 n _ _ _ _ _ _ _ _ _ h
theorem W12_setting_L36 {K : tK} {B : tB} {S : tSH} {MC MS : Nat} (hO : tKO K B RX12 cX12_setting 9) (hR : kR K = tRm 8 MC MS) (hG : tGr S) {n : Nat} (t0 : ty S 61 12) {k : Int32 → tHI → tHJ → Prop} (hQ : tRet K B (tQi B (tPi S k)) 0 0 (some .int)) : ∀ (f : Nat) (I : tHI) (J : tHJ) (v1 : Int32) (v2 : Int32) (v3 : Int32) (v4 : Int32) (v5 : Int32), F12_setting_L36 n S k f I J v1 v2 v3 v4 v5 → tWG K B 0 0 S I J 36 [some (vR 61), some (vI v1), some (vI v2), some (vI v3), some (vI v4), some (vI v5), none, none, none] [] := by
  intro f
  induction f with
  | zero => intro I J v1 v2 v3 v4 v5 h; exact h.elim
  | succ f ih => intro I J v1 v2 v3 v4 v5 h; exact W12_setting_36 hO hR hG t0 hQ ih h
set_option maxRecDepth 20000 in
theorem hc12_setting : tCV yX12_setting cX12_setting 9 (some .int) 1 := ⟨⟨(List.mem_of_getElem? (i := 1343) rfl), (List.mem_of_getElem? (i := 5) (by decide +kernel)), by decide +kernel⟩, (List.mem_of_getElem? (i := 1341) (by decide +kernel)), (List.mem_of_getElem? (i := 1342) (by decide +kernel))⟩
set_option maxRecDepth 100000 in
theorem M12_setting {l : Launch} {B : tB} {S : tSH} {I : tHI} {J : tHJ} {v1 : Int32} {n : Nat} {k : Int32 → tHI → tHJ → Prop} (t0 : ty S 61 12) (h : F12_setting n S I J v1 k) : Met l yX12_setting (tWs yX12_setting cX12_setting 9 (some .int)) (tRm 8 0 0) (tPc B [vR 61, vI v1] S I J) (tQi B (tPi S k)) 0 0 (tA B) :=
  tEntry (by decide +kernel) [some (vR 61), some (vI v1), none, none, none, none, none, none, none] rfl rfl (Nat.le_of_ble_eq_true rfl) (fun K hl hR hO hQ hG => by
  subst hl
  refine gBk (pe := 9) hO [o0 (.aload_n 0), oI (.iconst 0) 0, oF (.putfield 161) 12 0 316 0, o0 (.iload_n 1), o0 .i2l, oJ (.lconst 0) 0 0, oJ (.lconst 1) 0 1] (by decide +kernel) (And.intro t0 (show tWG K B 0 0 S (uI I 61 0 0) J 9 [some (vR 61), some (vI v1), none, none, none, none, none, none, none] [vL 1, vL 0, vL v1.toInt64] from ?_))
  refine gCSi_z hO (M12_in) hc12_in (idx := 181) (w := 319) (by decide +kernel) hR (by omega) (vs := [vL v1.toInt64, vL 0, vL 1]) (st := []) ⟨rfl, Nat.le_of_ble_eq_true rfl, rfl⟩ (by decide +kernel) (fun z1 => ?_)
  refine gIfNe hO (off := 5) (tgt := 17) (by decide +kernel) (by decide) (fun c2 => ?_) (fun c2 => ?_)
  · have h := h.1 c2
    refine gBk (pe := 25) hO [o0 (.aload_n 0), oF (.getfield 13) 12 3 179 63, oI (.bipush 8) 8, o0 .iaload, o0 (.istore_n 2)] (by decide +kernel) (And.intro t0 (And.intro rfl (And.intro (tGr.off hG t0 (k := 3) rfl) (And.intro (tin (tGr.len hG t0 (k := 3) rfl (by decide)) (tvi (by decide +kernel))) (And.intro (Nat.le_of_ble_eq_true rfl) (show tWG K B 0 0 S (uI I 61 0 0) J 25 [some (vR 61), some (vI v1), some (vI ((uI I 61 0 0) 63 8)), none, none, none, none, none, none] [] from ?_))))))
    refine gBk (pe := 36) hO [(.ldc_w 467, (0, 0, 490, 0), 100000000, 0), o0 (.istore_n 3), oI (.iconst 0) 0, o0 (.istore 4), oI (.bipush (-9)) (-9), o0 (.istore 5)] (by decide +kernel) (And.intro (Nat.le_of_ble_eq_true rfl) (And.intro (Nat.le_of_ble_eq_true rfl) (And.intro (Nat.le_of_ble_eq_true rfl) (show tWG K B 0 0 S (uI I 61 0 0) J 36 [some (vR 61), some (vI v1), some (vI ((uI I 61 0 0) 63 8)), some (vI 100000000), some (vI 0), some (vI (-9)), none, none, none] [] from ?_))))
    exact W12_setting_L36 hO hR hG t0 hQ n _ _ _ _ _ _ _ h
  · have h := h.2 c2
    refine gBk (pe := 16) hO [oI (.iconst (-1)) (-1)] (by decide +kernel) (show tWG K B 0 0 S (uI I 61 0 0) J 16 [some (vR 61), some (vI v1), none, none, none, none, none, none, none] [vI (-1)] from ?_)
    exact gIret hO hQ (by decide +kernel) ⟨rfl, h⟩)
