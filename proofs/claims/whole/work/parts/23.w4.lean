set_option maxRecDepth 100000 in
theorem W12_weighLoads_132 {K : tK} {B : tB} {S : tSH} {MC MS : Nat} (hO : tKO K B RX12 cX12_weighLoads 3) (hR : kR K = tRm 3 MC MS) (hG : tGr S) {n : Nat} (t0 : ty S 61 12) {k : tHI → tHJ → Prop} (hQ : tRet K B (tQv B (tPv S k)) 0 0 none) {kb17 : tHI → tHJ → Int32 → Prop} (hkb17 : ∀ (I : tHI) (J : tHJ) (v1 : Int32), kb17 I J v1 → tWG K B 0 0 S I J 17 [some (vR 61), some (vI v1), none] []) {I : tHI} {J : tHJ} {v1 : Int32} (h : F12_weighLoads_132 n S k kb17 I J v1) : tWG K B 0 0 S I J 132 [some (vR 61), some (vI v1), none] [] := by
  refine gBk (pe := 17) hO [oI (.iinc 1 1) 1, o0 (.goto (-118))] (by decide +kernel) (show tWG K B 0 0 S I J 17 [some (vR 61), some (vI (v1 + 1)), none] [] from ?_)
  exact hkb17 _ _ _ h
set_option maxRecDepth 100000 in
theorem W12_weighLoads_17 {K : tK} {B : tB} {S : tSH} {MC MS : Nat} (hO : tKO K B RX12 cX12_weighLoads 3) (hR : kR K = tRm 3 MC MS) (hG : tGr S) {n : Nat} (t0 : ty S 61 12) {k : tHI → tHJ → Prop} (hQ : tRet K B (tQv B (tPv S k)) 0 0 none) {kb17 : tHI → tHJ → Int32 → Prop} (hkb17 : ∀ (I : tHI) (J : tHJ) (v1 : Int32), kb17 I J v1 → tWG K B 0 0 S I J 17 [some (vR 61), some (vI v1), none] []) {I : tHI} {J : tHJ} {v1 : Int32} (h : F12_weighLoads_17 n S k kb17 I J v1) : tWG K B 0 0 S I J 17 [some (vR 61), some (vI v1), none] [] := by
  refine gBk (pe := 24) hO [o0 (.iload_n 1), o0 (.aload_n 0), oF (.getfield 13) 12 3 179 63, oI (.iconst 0) 0, o0 .iaload] (by decide +kernel) (And.intro t0 (And.intro rfl (And.intro (tGr.off hG t0 (k := 3) rfl) (And.intro (tin (tGr.len hG t0 (k := 3) rfl (by decide)) (tvi (by decide +kernel))) (show tWG K B 0 0 S I J 24 [some (vR 61), some (vI v1), none] [vI (I 63 0), vI v1] from ?_)))))
  refine gIcGe hO (off := 114) (tgt := 138) (by decide +kernel) (by decide) (fun c1 => ?_) (fun c1 => ?_)
  · have h := h.1 c1
    exact gVret hO hQ (by decide +kernel) ⟨rfl, h⟩
  · have h := h.2 c1
    refine gBk (pe := 32) hO [o0 (.aload_n 0), oF (.getfield 124) 12 41 224 0, o0 (.iload_n 1)] (by decide +kernel) (And.intro t0 (show tWG K B 0 0 S I J 32 [some (vR 61), some (vI v1), none] [vI v1, vI (I 61 41)] from ?_))
    refine gCSi_z hO (M12_is) hc12_is (idx := 450) (w := 501) (by decide +kernel) hR (by omega) (vs := [vI (I 61 41), vI v1]) (st := []) ⟨rfl, Nat.le_of_ble_eq_true rfl, rfl⟩ (by decide +kernel) (fun z2 => ?_)
    refine gIfEq hO (off := 97) (tgt := 132) (by decide +kernel) (by decide) (fun c3 => ?_) (fun c3 => ?_)
    · have h := h.1 c3
      exact W12_weighLoads_132 hO hR hG t0 hQ hkb17 h
    · have h := h.2 c3
      refine gBk (pe := 63) hO [o0 (.aload_n 0), oF (.getfield 13) 12 3 179 63, oI (.bipush 26) 26, o0 (.iload_n 1), o0 .iadd, o0 .iaload, o0 (.istore_n 2), o0 (.aload_n 0), o0 .dup, oF (.getfield 441) 12 42 488 0, o0 (.aload_n 0), oF (.getfield 13) 12 3 179 63, oI (.bipush 14) 14, o0 (.iload_n 1), o0 .iadd, o0 .iaload, oI (.iconst 1) 1] (by decide +kernel) (And.intro t0 (And.intro rfl (And.intro (tGr.off hG t0 (k := 3) rfl) (And.intro (tin (tGr.len hG t0 (k := 3) rfl (by decide)) h.1) (And.intro (Nat.le_of_ble_eq_true rfl) (And.intro t0 (And.intro t0 (And.intro rfl (And.intro (tGr.off hG t0 (k := 3) rfl) (And.intro (tin (tGr.len hG t0 (k := 3) rfl (by decide)) h.2.1) (show tWG K B 0 0 S I J 63 [some (vR 61), some (vI v1), some (vI (I 63 (26 + v1).toNatClampNeg))] [vI 1, vI (I 63 (14 + v1).toNatClampNeg), vI (I 61 42), vR 61] from ?_)))))))))))
      have h := h.2.2
      have hj4 : ∀ (m5 : Int32), m5 = (if (I 63 (14 + v1).toNatClampNeg) ≤ 1 then 0 else (I 63 (26 + v1).toNatClampNeg)) → tWG K B 0 0 S I J 71 [some (vR 61), some (vI v1), some (vI (I 63 (26 + v1).toNatClampNeg))] [vI m5, vI (I 61 42), vR 61] := by
        intro m5 em5
        subst em5
        refine gBk (pe := 90) hO [o0 .iadd, oF (.putfield 441) 12 42 488 0, o0 (.aload_n 0), o0 .dup, oF (.getfield 444) 12 43 496 0, o0 (.aload_n 0), oF (.getfield 13) 12 3 179 63, oI (.bipush 14) 14, o0 (.iload_n 1), o0 .iadd, o0 .iaload, oI (.iconst 1) 1] (by decide +kernel) (And.intro t0 (And.intro t0 (And.intro t0 (And.intro rfl (And.intro (tGr.off hG t0 (k := 3) rfl) (And.intro (tin (tGr.len hG t0 (k := 3) rfl (by decide)) h.1) (show tWG K B 0 0 S (uI I 61 42 ((I 61 42) + (if (I 63 (14 + v1).toNatClampNeg) ≤ 1 then 0 else (I 63 (26 + v1).toNatClampNeg)))) J 90 [some (vR 61), some (vI v1), some (vI (I 63 (26 + v1).toNatClampNeg))] [vI 1, vI ((uI I 61 42 ((I 61 42) + (if (I 63 (14 + v1).toNatClampNeg) ≤ 1 then 0 else (I 63 (26 + v1).toNatClampNeg)))) 63 (14 + v1).toNatClampNeg), vI ((uI I 61 42 ((I 61 42) + (if (I 63 (14 + v1).toNatClampNeg) ≤ 1 then 0 else (I 63 (26 + v1).toNatClampNeg)))) 61 43), vR 61] from ?_)))))))
        have h := h.2
        have hj7 : ∀ (m8 : Int32), m8 = (if ((uI I 61 42 ((I 61 42) + (if (I 63 (14 + v1).toNatClampNeg) ≤ 1 then 0 else (I 63 (26 + v1).toNatClampNeg)))) 63 (14 + v1).toNatClampNeg) ≤ 1 then (I 63 (26 + v1).toNatClampNeg) else 0) → tWG K B 0 0 S (uI I 61 42 ((I 61 42) + (if (I 63 (14 + v1).toNatClampNeg) ≤ 1 then 0 else (I 63 (26 + v1).toNatClampNeg)))) J 98 [some (vR 61), some (vI v1), some (vI (I 63 (26 + v1).toNatClampNeg))] [vI m8, vI ((uI I 61 42 ((I 61 42) + (if (I 63 (14 + v1).toNatClampNeg) ≤ 1 then 0 else (I 63 (26 + v1).toNatClampNeg)))) 61 43), vR 61] := by
          intro m8 em8
          subst em8
          refine gBk (pe := 132) hO [o0 .iadd, oF (.putfield 444) 12 43 496 0, o0 (.aload_n 0), o0 .dup, oF (.getfield 447) 12 44 489 0, o0 (.aload_n 0), oF (.getfield 13) 12 3 179 63, oI (.bipush 32) 32, o0 (.iload_n 1), o0 .iadd, o0 .iaload, o0 (.aload_n 0), oF (.getfield 13) 12 3 179 63, oI (.bipush 20) 20, o0 (.iload_n 1), o0 .iadd, o0 .iaload, o0 .imul, o0 (.iload_n 2), o0 .imul, o0 .iadd, oF (.putfield 447) 12 44 489 0] (by decide +kernel) (And.intro t0 (And.intro t0 (And.intro t0 (And.intro rfl (And.intro (tGr.off hG t0 (k := 3) rfl) (And.intro (tin (tGr.len hG t0 (k := 3) rfl (by decide)) h.1) (And.intro t0 (And.intro rfl (And.intro (tGr.off hG t0 (k := 3) rfl) (And.intro (tin (tGr.len hG t0 (k := 3) rfl (by decide)) h.2.1) (And.intro t0 (show tWG K B 0 0 S (uI (uI (uI I 61 42 ((I 61 42) + (if (I 63 (14 + v1).toNatClampNeg) ≤ 1 then 0 else (I 63 (26 + v1).toNatClampNeg)))) 61 43 (((uI I 61 42 ((I 61 42) + (if (I 63 (14 + v1).toNatClampNeg) ≤ 1 then 0 else (I 63 (26 + v1).toNatClampNeg)))) 61 43) + (if ((uI I 61 42 ((I 61 42) + (if (I 63 (14 + v1).toNatClampNeg) ≤ 1 then 0 else (I 63 (26 + v1).toNatClampNeg)))) 63 (14 + v1).toNatClampNeg) ≤ 1 then (I 63 (26 + v1).toNatClampNeg) else 0))) 61 44 (((uI (uI I 61 42 ((I 61 42) + (if (I 63 (14 + v1).toNatClampNeg) ≤ 1 then 0 else (I 63 (26 + v1).toNatClampNeg)))) 61 43 (((uI I 61 42 ((I 61 42) + (if (I 63 (14 + v1).toNatClampNeg) ≤ 1 then 0 else (I 63 (26 + v1).toNatClampNeg)))) 61 43) + (if ((uI I 61 42 ((I 61 42) + (if (I 63 (14 + v1).toNatClampNeg) ≤ 1 then 0 else (I 63 (26 + v1).toNatClampNeg)))) 63 (14 + v1).toNatClampNeg) ≤ 1 then (I 63 (26 + v1).toNatClampNeg) else 0))) 61 44) + ((((uI (uI I 61 42 ((I 61 42) + (if (I 63 (14 + v1).toNatClampNeg) ≤ 1 then 0 else (I 63 (26 + v1).toNatClampNeg)))) 61 43 (((uI I 61 42 ((I 61 42) + (if (I 63 (14 + v1).toNatClampNeg) ≤ 1 then 0 else (I 63 (26 + v1).toNatClampNeg)))) 61 43) + (if ((uI I 61 42 ((I 61 42) + (if (I 63 (14 + v1).toNatClampNeg) ≤ 1 then 0 else (I 63 (26 + v1).toNatClampNeg)))) 63 (14 + v1).toNatClampNeg) ≤ 1 then (I 63 (26 + v1).toNatClampNeg) else 0))) 63 (32 + v1).toNatClampNeg) * ((uI (uI I 61 42 ((I 61 42) + (if (I 63 (14 + v1).toNatClampNeg) ≤ 1 then 0 else (I 63 (26 + v1).toNatClampNeg)))) 61 43 (((uI I 61 42 ((I 61 42) + (if (I 63 (14 + v1).toNatClampNeg) ≤ 1 then 0 else (I 63 (26 + v1).toNatClampNeg)))) 61 43) + (if ((uI I 61 42 ((I 61 42) + (if (I 63 (14 + v1).toNatClampNeg) ≤ 1 then 0 else (I 63 (26 + v1).toNatClampNeg)))) 63 (14 + v1).toNatClampNeg) ≤ 1 then (I 63 (26 + v1).toNatClampNeg) else 0))) 63 (20 + v1).toNatClampNeg)) * (I 63 (26 + v1).toNatClampNeg)))) J 132 [some (vR 61), some (vI v1), some (vI (I 63 (26 + v1).toNatClampNeg))] [] from ?_))))))))))))
          have h := h.2.2
          exact gWeak (L' := [some (vR 61), some (vI v1), none]) ⟨rfl, rfl, trivial⟩ (W12_weighLoads_132 hO hR hG t0 hQ hkb17 h)
        refine gIcLe hO (off := 7) (tgt := 97) (by decide +kernel) (by decide) (fun c9 => ?_) (fun c9 => ?_)
        · refine gBk (pe := 98) hO [o0 (.iload_n 2)] (by decide +kernel) (show tWG K B 0 0 S (uI I 61 42 ((I 61 42) + (if (I 63 (14 + v1).toNatClampNeg) ≤ 1 then 0 else (I 63 (26 + v1).toNatClampNeg)))) J 98 [some (vR 61), some (vI v1), some (vI (I 63 (26 + v1).toNatClampNeg))] [vI (I 63 (26 + v1).toNatClampNeg), vI ((uI I 61 42 ((I 61 42) + (if (I 63 (14 + v1).toNatClampNeg) ≤ 1 then 0 else (I 63 (26 + v1).toNatClampNeg)))) 61 43), vR 61] from ?_)
          exact (hj7 _ (Eq.symm (if_pos c9)))
        · refine gBk (pe := 98) hO [oI (.iconst 0) 0, o0 (.goto 4)] (by decide +kernel) (show tWG K B 0 0 S (uI I 61 42 ((I 61 42) + (if (I 63 (14 + v1).toNatClampNeg) ≤ 1 then 0 else (I 63 (26 + v1).toNatClampNeg)))) J 98 [some (vR 61), some (vI v1), some (vI (I 63 (26 + v1).toNatClampNeg))] [vI 0, vI ((uI I 61 42 ((I 61 42) + (if (I 63 (14 + v1).toNatClampNeg) ≤ 1 then 0 else (I 63 (26 + v1).toNatClampNeg)))) 61 43), vR 61] from ?_)
          exact (hj7 _ (Eq.symm (if_neg c9)))
      refine gIcLe hO (off := 7) (tgt := 70) (by decide +kernel) (by decide) (fun c6 => ?_) (fun c6 => ?_)
      · refine gBk (pe := 71) hO [oI (.iconst 0) 0] (by decide +kernel) (show tWG K B 0 0 S I J 71 [some (vR 61), some (vI v1), some (vI (I 63 (26 + v1).toNatClampNeg))] [vI 0, vI (I 61 42), vR 61] from ?_)
        exact (hj4 _ (Eq.symm (if_pos c6)))
      · refine gBk (pe := 71) hO [o0 (.iload_n 2), o0 (.goto 4)] (by decide +kernel) (show tWG K B 0 0 S I J 71 [some (vR 61), some (vI v1), some (vI (I 63 (26 + v1).toNatClampNeg))] [vI (I 63 (26 + v1).toNatClampNeg), vI (I 61 42), vR 61] from ?_)
        exact (hj4 _ (Eq.symm (if_neg c6)))
theorem W12_weighLoads_L17 {K : tK} {B : tB} {S : tSH} {MC MS : Nat} (hO : tKO K B RX12 cX12_weighLoads 3) (hR : kR K = tRm 3 MC MS) (hG : tGr S) {n : Nat} (t0 : ty S 61 12) {k : tHI → tHJ → Prop} (hQ : tRet K B (tQv B (tPv S k)) 0 0 none) : ∀ (f : Nat) (I : tHI) (J : tHJ) (v1 : Int32), F12_weighLoads_L17 n S k f I J v1 → tWG K B 0 0 S I J 17 [some (vR 61), some (vI v1), none] [] := by
  intro f
  induction f with
  | zero => intro I J v1 h; exact h.elim
  | succ f ih => intro I J v1 h; exact W12_weighLoads_17 hO hR hG t0 hQ ih h
set_option maxRecDepth 20000 in
theorem hc12_weighLoads : tCV yX12_weighLoads cX12_weighLoads 3 none 0 := ⟨⟨(List.mem_of_getElem? (i := 500) rfl), (List.mem_of_getElem? (i := 5) (by decide +kernel)), by decide +kernel⟩, (List.mem_of_getElem? (i := 498) (by decide +kernel)), (List.mem_of_getElem? (i := 499) (by decide +kernel))⟩
set_option maxRecDepth 100000 in
theorem M12_weighLoads {l : Launch} {B : tB} {S : tSH} {I : tHI} {J : tHJ} {n : Nat} {k : tHI → tHJ → Prop} (t0 : ty S 61 12) (h : F12_weighLoads n S I J k) : Met l yX12_weighLoads (tWs yX12_weighLoads cX12_weighLoads 3 none) (tRm 3 0 0) (tPc B [vR 61] S I J) (tQv B (tPv S k)) 0 0 (tA B) :=
  tEntry (by decide +kernel) [some (vR 61), none, none] rfl rfl (Nat.le_of_ble_eq_true rfl) (fun K hl hR hO hQ hG => by
  subst hl
  refine gBk (pe := 17) hO [o0 (.aload_n 0), oI (.iconst 0) 0, oF (.putfield 441) 12 42 488 0, o0 (.aload_n 0), oI (.iconst 0) 0, oF (.putfield 444) 12 43 496 0, o0 (.aload_n 0), oI (.iconst 0) 0, oF (.putfield 447) 12 44 489 0, oI (.iconst 0) 0, o0 (.istore_n 1)] (by decide +kernel) (And.intro t0 (And.intro t0 (And.intro t0 (And.intro (Nat.le_of_ble_eq_true rfl) (show tWG K B 0 0 S (uI (uI (uI I 61 42 0) 61 43 0) 61 44 0) J 17 [some (vR 61), some (vI 0), none] [] from ?_)))))
  exact W12_weighLoads_L17 hO hR hG t0 hQ n _ _ _ h)
set_option maxRecDepth 20000 in
theorem hc12_setBend : tCV yX12_setBend cX12_setBend 2 none 1 := ⟨⟨(List.mem_of_getElem? (i := 495) rfl), (List.mem_of_getElem? (i := 5) (by decide +kernel)), by decide +kernel⟩, (List.mem_of_getElem? (i := 493) (by decide +kernel)), (List.mem_of_getElem? (i := 494) (by decide +kernel))⟩
set_option maxRecDepth 100000 in
theorem M12_setBend {l : Launch} {B : tB} {S : tSH} {I : tHI} {J : tHJ} {v1 : Int32} {n : Nat} {k : tHI → tHJ → Prop} (t0 : ty S 61 12) (h : F12_setBend n S I J v1 k) : Met l yX12_setBend (tWs yX12_setBend cX12_setBend 2 none) (tRm 4 0 0) (tPc B [vR 61, vI v1] S I J) (tQv B (tPv S k)) 0 0 (tA B) :=
  tEntry (by decide +kernel) [some (vR 61), some (vI v1)] rfl rfl (Nat.le_of_ble_eq_true rfl) (fun K hl hR hO hQ hG => by
  subst hl
  refine gBk (pe := 1) hO [o0 (.aload_n 0)] (by decide +kernel) (show tWG K B 0 0 S I J 1 [some (vR 61), some (vI v1)] [vR 61] from ?_)
  refine gCVv_c hO (M12_weighLoads t0 h) hc12_weighLoads (idx := 453) (w := 497) (by decide +kernel) hR (by omega) t0 ⟨by decide, rfl⟩ (vs := []) (st := []) ⟨rfl, Nat.le_of_ble_eq_true rfl, rfl⟩ (by decide +kernel) (fun I1 J2 h => ?_)
  refine gBk (pe := 12) hO [o0 (.aload_n 0), oF (.getfield 115) 12 35 221 79, oI (.iconst 1) 1, o0 (.aload_n 0), o0 (.iload_n 1), oI (.iconst 0) 0] (by decide +kernel) (And.intro t0 (And.intro rfl (show tWG K B 0 0 S I1 J2 12 [some (vR 61), some (vI v1)] [vI 0, vI v1, vR 61, vI 1, vR 79] from ?_)))
  refine gCVi_p hO (M12_ofBend t0 h.1) hc12_ofBend (idx := 240) (w := 356) (by decide +kernel) hR (by omega) t0 ⟨by decide, rfl⟩ (vs := [vI v1, vI 0]) (st := [vI 1, vR 79]) ⟨rfl, Nat.le_of_ble_eq_true rfl, rfl⟩ (by decide +kernel) ?_
  have h := h.2
  refine gBk (pe := 25) hO [o0 .i2l, o0 .lastore, o0 (.aload_n 0), oF (.getfield 115) 12 35 221 79, oI (.iconst 2) 2, o0 (.aload_n 0), o0 (.iload_n 1), oI (.iconst 1) 1] (by decide +kernel) (And.intro (tGr.off hG t0 (k := 35) rfl) (And.intro (tin (tGr.len hG t0 (k := 35) rfl (by decide)) (tvi (by decide +kernel))) (And.intro t0 (And.intro rfl (show tWG K B 0 0 S I1 (uJ J2 79 1 (V12_ofBend S I1 J2 v1 0).toInt64) 25 [some (vR 61), some (vI v1)] [vI 1, vI v1, vR 61, vI 2, vR 79] from ?_)))))
  refine gCVi_p hO (M12_ofBend t0 h.1) hc12_ofBend (idx := 240) (w := 356) (by decide +kernel) hR (by omega) t0 ⟨by decide, rfl⟩ (vs := [vI v1, vI 1]) (st := [vI 2, vR 79]) ⟨rfl, Nat.le_of_ble_eq_true rfl, rfl⟩ (by decide +kernel) ?_
  have h := h.2
  refine gBk (pe := 38) hO [o0 .i2l, o0 .lastore, o0 (.aload_n 0), oF (.getfield 115) 12 35 221 79, oI (.iconst 3) 3, o0 (.aload_n 0), o0 (.iload_n 1), oI (.iconst 2) 2] (by decide +kernel) (And.intro (tGr.off hG t0 (k := 35) rfl) (And.intro (tin (tGr.len hG t0 (k := 35) rfl (by decide)) (tvi (by decide +kernel))) (And.intro t0 (And.intro rfl (show tWG K B 0 0 S I1 (uJ (uJ J2 79 1 (V12_ofBend S I1 J2 v1 0).toInt64) 79 2 (V12_ofBend S I1 (uJ J2 79 1 (V12_ofBend S I1 J2 v1 0).toInt64) v1 1).toInt64) 38 [some (vR 61), some (vI v1)] [vI 2, vI v1, vR 61, vI 3, vR 79] from ?_)))))
  refine gCVi_p hO (M12_ofBend t0 h.1) hc12_ofBend (idx := 240) (w := 356) (by decide +kernel) hR (by omega) t0 ⟨by decide, rfl⟩ (vs := [vI v1, vI 2]) (st := [vI 3, vR 79]) ⟨rfl, Nat.le_of_ble_eq_true rfl, rfl⟩ (by decide +kernel) ?_
  have h := h.2
  refine gBk (pe := 83) hO [o0 .i2l, o0 .lastore, o0 (.aload_n 0), oF (.getfield 115) 12 35 221 79, oI (.iconst 4) 4, o0 (.aload_n 0), oF (.getfield 441) 12 42 488 0, o0 .i2l, o0 .lastore, o0 (.aload_n 0), oF (.getfield 115) 12 35 221 79, oI (.iconst 5) 5, o0 (.aload_n 0), oF (.getfield 444) 12 43 496 0, o0 .i2l, o0 .lastore, o0 (.aload_n 0), oF (.getfield 115) 12 35 221 79, oI (.bipush 6) 6, o0 (.aload_n 0), oF (.getfield 447) 12 44 489 0, o0 .i2l, o0 .lastore, o0 (.aload_n 0), oF (.getfield 115) 12 35 221 79, oI (.bipush 9) 9] (by decide +kernel) (And.intro (tGr.off hG t0 (k := 35) rfl) (And.intro (tin (tGr.len hG t0 (k := 35) rfl (by decide)) (tvi (by decide +kernel))) (And.intro t0 (And.intro rfl (And.intro t0 (And.intro (tGr.off hG t0 (k := 35) rfl) (And.intro (tin (tGr.len hG t0 (k := 35) rfl (by decide)) (tvi (by decide +kernel))) (And.intro t0 (And.intro rfl (And.intro t0 (And.intro (tGr.off hG t0 (k := 35) rfl) (And.intro (tin (tGr.len hG t0 (k := 35) rfl (by decide)) (tvi (by decide +kernel))) (And.intro t0 (And.intro rfl (And.intro t0 (And.intro (tGr.off hG t0 (k := 35) rfl) (And.intro (tin (tGr.len hG t0 (k := 35) rfl (by decide)) (tvi (by decide +kernel))) (And.intro t0 (And.intro rfl (show tWG K B 0 0 S I1 (uJ (uJ (uJ (uJ (uJ (uJ J2 79 1 (V12_ofBend S I1 J2 v1 0).toInt64) 79 2 (V12_ofBend S I1 (uJ J2 79 1 (V12_ofBend S I1 J2 v1 0).toInt64) v1 1).toInt64) 79 3 (V12_ofBend S I1 (uJ (uJ J2 79 1 (V12_ofBend S I1 J2 v1 0).toInt64) 79 2 (V12_ofBend S I1 (uJ J2 79 1 (V12_ofBend S I1 J2 v1 0).toInt64) v1 1).toInt64) v1 2).toInt64) 79 4 (I1 61 42).toInt64) 79 5 (I1 61 43).toInt64) 79 6 (I1 61 44).toInt64) 83 [some (vR 61), some (vI v1)] [vI 9, vR 79] from ?_))))))))))))))))))))
  refine gBk (pe := 93) hO [(.ldc2_w 288, (0, 0, 331, 0), 0, (-1)), o0 .lastore, o0 (.aload_n 0), oF (.getfield 115) 12 35 221 79, oI (.bipush 10) 10] (by decide +kernel) (And.intro (tGr.off hG t0 (k := 35) rfl) (And.intro (tin (tGr.len hG t0 (k := 35) rfl (by decide)) (tvi (by decide +kernel))) (And.intro t0 (And.intro rfl (show tWG K B 0 0 S I1 (uJ (uJ (uJ (uJ (uJ (uJ (uJ J2 79 1 (V12_ofBend S I1 J2 v1 0).toInt64) 79 2 (V12_ofBend S I1 (uJ J2 79 1 (V12_ofBend S I1 J2 v1 0).toInt64) v1 1).toInt64) 79 3 (V12_ofBend S I1 (uJ (uJ J2 79 1 (V12_ofBend S I1 J2 v1 0).toInt64) 79 2 (V12_ofBend S I1 (uJ J2 79 1 (V12_ofBend S I1 J2 v1 0).toInt64) v1 1).toInt64) v1 2).toInt64) 79 4 (I1 61 42).toInt64) 79 5 (I1 61 43).toInt64) 79 6 (I1 61 44).toInt64) 79 9 (-1)) 93 [some (vR 61), some (vI v1)] [vI 10, vR 79] from ?_)))))
  refine gBk (pe := 103) hO [(.ldc2_w 288, (0, 0, 331, 0), 0, (-1)), o0 .lastore, o0 (.aload_n 0), oF (.getfield 115) 12 35 221 79, oI (.bipush 11) 11] (by decide +kernel) (And.intro (tGr.off hG t0 (k := 35) rfl) (And.intro (tin (tGr.len hG t0 (k := 35) rfl (by decide)) (tvi (by decide +kernel))) (And.intro t0 (And.intro rfl (show tWG K B 0 0 S I1 (uJ (uJ (uJ (uJ (uJ (uJ (uJ (uJ J2 79 1 (V12_ofBend S I1 J2 v1 0).toInt64) 79 2 (V12_ofBend S I1 (uJ J2 79 1 (V12_ofBend S I1 J2 v1 0).toInt64) v1 1).toInt64) 79 3 (V12_ofBend S I1 (uJ (uJ J2 79 1 (V12_ofBend S I1 J2 v1 0).toInt64) 79 2 (V12_ofBend S I1 (uJ J2 79 1 (V12_ofBend S I1 J2 v1 0).toInt64) v1 1).toInt64) v1 2).toInt64) 79 4 (I1 61 42).toInt64) 79 5 (I1 61 43).toInt64) 79 6 (I1 61 44).toInt64) 79 9 (-1)) 79 10 (-1)) 103 [some (vR 61), some (vI v1)] [vI 11, vR 79] from ?_)))))
  refine gBk (pe := 107) hO [(.ldc2_w 288, (0, 0, 331, 0), 0, (-1)), o0 .lastore] (by decide +kernel) (And.intro (tGr.off hG t0 (k := 35) rfl) (And.intro (tin (tGr.len hG t0 (k := 35) rfl (by decide)) (tvi (by decide +kernel))) (show tWG K B 0 0 S I1 (uJ (uJ (uJ (uJ (uJ (uJ (uJ (uJ (uJ J2 79 1 (V12_ofBend S I1 J2 v1 0).toInt64) 79 2 (V12_ofBend S I1 (uJ J2 79 1 (V12_ofBend S I1 J2 v1 0).toInt64) v1 1).toInt64) 79 3 (V12_ofBend S I1 (uJ (uJ J2 79 1 (V12_ofBend S I1 J2 v1 0).toInt64) 79 2 (V12_ofBend S I1 (uJ J2 79 1 (V12_ofBend S I1 J2 v1 0).toInt64) v1 1).toInt64) v1 2).toInt64) 79 4 (I1 61 42).toInt64) 79 5 (I1 61 43).toInt64) 79 6 (I1 61 44).toInt64) 79 9 (-1)) 79 10 (-1)) 79 11 (-1)) 107 [some (vR 61), some (vI v1)] [] from ?_)))
  exact gVret hO hQ (by decide +kernel) ⟨rfl, h⟩)
set_option maxRecDepth 20000 in
theorem hc12_holdsOf : tCV yX12_holdsOf cX12_holdsOf 4 (some .int) 1 := ⟨⟨(List.mem_of_getElem? (i := 484) rfl), (List.mem_of_getElem? (i := 5) (by decide +kernel)), by decide +kernel⟩, (List.mem_of_getElem? (i := 482) (by decide +kernel)), (List.mem_of_getElem? (i := 483) (by decide +kernel))⟩
set_option maxRecDepth 100000 in
theorem M12_holdsOf {l : Launch} {B : tB} {S : tSH} {I : tHI} {J : tHJ} {v1 : Int32} {n : Nat} {k : Int32 → tHI → tHJ → Prop} (t0 : ty S 61 12) (h : F12_holdsOf n S I J v1 k) : Met l yX12_holdsOf (tWs yX12_holdsOf cX12_holdsOf 4 (some .int)) (tRm 7 0 0) (tPc B [vR 61, vI v1] S I J) (tQi B (tPi S k)) 0 0 (tA B) :=
  tEntry (by decide +kernel) [some (vR 61), some (vI v1), none, none] rfl rfl (Nat.le_of_ble_eq_true rfl) (fun K hl hR hO hQ hG => by
  subst hl
  refine gBk (pe := 2) hO [o0 (.aload_n 0), o0 (.iload_n 1)] (by decide +kernel) (show tWG K B 0 0 S I J 2 [some (vR 61), some (vI v1), none, none] [vI v1, vR 61] from ?_)
  refine gCVv_c hO (M12_setBend t0 h) hc12_setBend (idx := 456) (w := 492) (by decide +kernel) hR (by omega) t0 ⟨by decide, rfl⟩ (vs := [vI v1]) (st := []) ⟨rfl, Nat.le_of_ble_eq_true rfl, rfl⟩ (by decide +kernel) (fun I1 J2 h => ?_)
  refine gBk (pe := 7) hO [o0 (.aload_n 0), oI (.iconst 0) 0] (by decide +kernel) (show tWG K B 0 0 S I1 J2 7 [some (vR 61), some (vI v1), none, none] [vI 0, vR 61] from ?_)
  refine gBk (pe := 10) hO [(.ldc2_w 459, (0, 0, 485, 0), 0, 2000000000)] (by decide +kernel) (show tWG K B 0 0 S I1 J2 10 [some (vR 61), some (vI v1), none, none] [vL 2000000000, vI 0, vR 61] from ?_)
  refine gCVl_c hO (M12_tells t0 h) hc12_tells (idx := 461) (w := 332) (by decide +kernel) hR (by omega) t0 ⟨by decide, rfl⟩ (vs := [vI 0, vL 2000000000]) (st := []) ⟨rfl, Nat.le_of_ble_eq_true rfl, rfl⟩ (by decide +kernel) (fun x5 I3 J4 h => ?_)
  refine gBk (pe := 15) hO [o0 (.lstore_n 2), o0 (.lload_n 2)] (by decide +kernel) (And.intro (Nat.le_of_ble_eq_true rfl) (show tWG K B 0 0 S I3 J4 15 [some (vR 61), some (vI v1), some (vL x5), none] [vL x5] from ?_))
  refine gBk (pe := 19) hO [(.ldc2_w 459, (0, 0, 485, 0), 0, 2000000000), o0 .lcmp] (by decide +kernel) (show tWG K B 0 0 S I3 J4 19 [some (vR 61), some (vI v1), some (vL x5), none] [vI (lg_cmp x5 2000000000)] from ?_)
  have hj6 : ∀ (m7 : Int32), m7 = (if (lg_cmp x5 2000000000) = 0 then (V12_within ((600 + (20 * (I3 61 42).toInt64)) + (I3 61 44).toInt64) 0 100000000) else (V12_within x5 0 99999)) → tWG K B 0 0 S I3 J4 59 [none, none, none, none] [vI m7] := by
    intro m7 em7
    subst em7
    exact gIret hO hQ (by decide +kernel) ⟨rfl, h⟩
  refine gIfNe hO (off := 32) (tgt := 51) (by decide +kernel) (by decide) (fun c8 => ?_) (fun c8 => ?_)
  · refine gBk (pe := 53) hO [o0 (.lload_n 2), oI (.iconst 0) 0] (by decide +kernel) (show tWG K B 0 0 S I3 J4 53 [some (vR 61), some (vI v1), some (vL x5), none] [vI 0, vL x5] from ?_)
    refine gBk (pe := 56) hO [(.ldc_w 472, (0, 0, 491, 0), 99999, 0)] (by decide +kernel) (show tWG K B 0 0 S I3 J4 56 [some (vR 61), some (vI v1), some (vL x5), none] [vI 99999, vI 0, vL x5] from ?_)
    refine gCSi_p hO (M12_within) hc12_within (idx := 468) (w := 504) (by decide +kernel) hR (by omega) (vs := [vL x5, vI 0, vI 99999]) (st := []) ⟨rfl, Nat.le_of_ble_eq_true rfl, rfl⟩ (by decide +kernel) ?_
    exact gWeak (L' := [none, none, none, none]) trivial (hj6 _ (Eq.symm (if_neg c8)))
  · refine gBk (pe := 25) hO [(.ldc2_w 465, (0, 0, 486, 0), 0, 600)] (by decide +kernel) (show tWG K B 0 0 S I3 J4 25 [some (vR 61), some (vI v1), some (vL x5), none] [vL 600] from ?_)
    refine gBk (pe := 42) hO [(.ldc2_w 313, (0, 0, 487, 0), 0, 20), o0 (.aload_n 0), oF (.getfield 441) 12 42 488 0, o0 .i2l, o0 .lmul, o0 .ladd, o0 (.aload_n 0), oF (.getfield 447) 12 44 489 0, o0 .i2l, o0 .ladd, oI (.iconst 0) 0] (by decide +kernel) (And.intro t0 (And.intro t0 (show tWG K B 0 0 S I3 J4 42 [some (vR 61), some (vI v1), some (vL x5), none] [vI 0, vL ((600 + (20 * (I3 61 42).toInt64)) + (I3 61 44).toInt64)] from ?_)))
    refine gBk (pe := 45) hO [(.ldc_w 467, (0, 0, 490, 0), 100000000, 0)] (by decide +kernel) (show tWG K B 0 0 S I3 J4 45 [some (vR 61), some (vI v1), some (vL x5), none] [vI 100000000, vI 0, vL ((600 + (20 * (I3 61 42).toInt64)) + (I3 61 44).toInt64)] from ?_)
    refine gCSi_p hO (M12_within) hc12_within (idx := 468) (w := 504) (by decide +kernel) hR (by omega) (vs := [vL ((600 + (20 * (I3 61 42).toInt64)) + (I3 61 44).toInt64), vI 0, vI 100000000]) (st := []) ⟨rfl, Nat.le_of_ble_eq_true rfl, rfl⟩ (by decide +kernel) ?_
    refine gBk (pe := 59) hO [o0 (.goto 11)] (by decide +kernel) (show tWG K B 0 0 S I3 J4 59 [some (vR 61), some (vI v1), some (vL x5), none] [vI (V12_within ((600 + (20 * (I3 61 42).toInt64)) + (I3 61 44).toInt64) 0 100000000)] from ?_)
    exact gWeak (L' := [none, none, none, none]) trivial (hj6 _ (Eq.symm (if_pos c8))))
set_option maxRecDepth 20000 in
theorem hc12_gripsOf : tCV yX12_gripsOf cX12_gripsOf 4 (some .int) 1 := ⟨⟨(List.mem_of_getElem? (i := 510) rfl), (List.mem_of_getElem? (i := 5) (by decide +kernel)), by decide +kernel⟩, (List.mem_of_getElem? (i := 508) (by decide +kernel)), (List.mem_of_getElem? (i := 509) (by decide +kernel))⟩
set_option maxRecDepth 100000 in
theorem M12_gripsOf {l : Launch} {B : tB} {S : tSH} {I : tHI} {J : tHJ} {v1 : Int32} {n : Nat} {k : Int32 → tHI → tHJ → Prop} (t0 : ty S 61 12) (h : F12_gripsOf n S I J v1 k) : Met l yX12_gripsOf (tWs yX12_gripsOf cX12_gripsOf 4 (some .int)) (tRm 7 0 0) (tPc B [vR 61, vI v1] S I J) (tQi B (tPi S k)) 0 0 (tA B) :=
  tEntry (by decide +kernel) [some (vR 61), some (vI v1), none, none] rfl rfl (Nat.le_of_ble_eq_true rfl) (fun K hl hR hO hQ hG => by
  subst hl
  refine gBk (pe := 2) hO [o0 (.aload_n 0), o0 (.iload_n 1)] (by decide +kernel) (show tWG K B 0 0 S I J 2 [some (vR 61), some (vI v1), none, none] [vI v1, vR 61] from ?_)
  refine gCVv_c hO (M12_setBend t0 h) hc12_setBend (idx := 456) (w := 492) (by decide +kernel) hR (by omega) t0 ⟨by decide, rfl⟩ (vs := [vI v1]) (st := []) ⟨rfl, Nat.le_of_ble_eq_true rfl, rfl⟩ (by decide +kernel) (fun I1 J2 h => ?_)
  refine gBk (pe := 7) hO [o0 (.aload_n 0), oI (.iconst 1) 1] (by decide +kernel) (show tWG K B 0 0 S I1 J2 7 [some (vR 61), some (vI v1), none, none] [vI 1, vR 61] from ?_)
  refine gBk (pe := 10) hO [(.ldc2_w 459, (0, 0, 485, 0), 0, 2000000000)] (by decide +kernel) (show tWG K B 0 0 S I1 J2 10 [some (vR 61), some (vI v1), none, none] [vL 2000000000, vI 1, vR 61] from ?_)
  refine gCVl_c hO (M12_tells t0 h) hc12_tells (idx := 461) (w := 332) (by decide +kernel) hR (by omega) t0 ⟨by decide, rfl⟩ (vs := [vI 1, vL 2000000000]) (st := []) ⟨rfl, Nat.le_of_ble_eq_true rfl, rfl⟩ (by decide +kernel) (fun x5 I3 J4 h => ?_)
  refine gBk (pe := 15) hO [o0 (.lstore_n 2), o0 (.lload_n 2)] (by decide +kernel) (And.intro (Nat.le_of_ble_eq_true rfl) (show tWG K B 0 0 S I3 J4 15 [some (vR 61), some (vI v1), some (vL x5), none] [vL x5] from ?_))
  refine gBk (pe := 19) hO [(.ldc2_w 459, (0, 0, 485, 0), 0, 2000000000), o0 .lcmp] (by decide +kernel) (show tWG K B 0 0 S I3 J4 19 [some (vR 61), some (vI v1), some (vL x5), none] [vI (lg_cmp x5 2000000000)] from ?_)
  have hj6 : ∀ (m7 : Int32), m7 = (if (lg_cmp x5 2000000000) = 0 then (V12_within ((2000 + (10 * (I3 61 43).toInt64)) - (I3 61 44).toInt64) 0 100000000) else (V12_within x5 0 99999)) → tWG K B 0 0 S I3 J4 59 [none, none, none, none] [vI m7] := by
    intro m7 em7
    subst em7
    exact gIret hO hQ (by decide +kernel) ⟨rfl, h⟩
  refine gIfNe hO (off := 32) (tgt := 51) (by decide +kernel) (by decide) (fun c8 => ?_) (fun c8 => ?_)
  · refine gBk (pe := 53) hO [o0 (.lload_n 2), oI (.iconst 0) 0] (by decide +kernel) (show tWG K B 0 0 S I3 J4 53 [some (vR 61), some (vI v1), some (vL x5), none] [vI 0, vL x5] from ?_)
    refine gBk (pe := 56) hO [(.ldc_w 472, (0, 0, 491, 0), 99999, 0)] (by decide +kernel) (show tWG K B 0 0 S I3 J4 56 [some (vR 61), some (vI v1), some (vL x5), none] [vI 99999, vI 0, vL x5] from ?_)
    refine gCSi_p hO (M12_within) hc12_within (idx := 468) (w := 504) (by decide +kernel) hR (by omega) (vs := [vL x5, vI 0, vI 99999]) (st := []) ⟨rfl, Nat.le_of_ble_eq_true rfl, rfl⟩ (by decide +kernel) ?_
    exact gWeak (L' := [none, none, none, none]) trivial (hj6 _ (Eq.symm (if_neg c8)))
  · refine gBk (pe := 25) hO [(.ldc2_w 473, (0, 0, 511, 0), 0, 2000)] (by decide +kernel) (show tWG K B 0 0 S I3 J4 25 [some (vR 61), some (vI v1), some (vL x5), none] [vL 2000] from ?_)
    refine gBk (pe := 42) hO [(.ldc2_w 292, (0, 0, 512, 0), 0, 10), o0 (.aload_n 0), oF (.getfield 444) 12 43 496 0, o0 .i2l, o0 .lmul, o0 .ladd, o0 (.aload_n 0), oF (.getfield 447) 12 44 489 0, o0 .i2l, o0 .lsub, oI (.iconst 0) 0] (by decide +kernel) (And.intro t0 (And.intro t0 (show tWG K B 0 0 S I3 J4 42 [some (vR 61), some (vI v1), some (vL x5), none] [vI 0, vL ((2000 + (10 * (I3 61 43).toInt64)) - (I3 61 44).toInt64)] from ?_)))
    refine gBk (pe := 45) hO [(.ldc_w 467, (0, 0, 490, 0), 100000000, 0)] (by decide +kernel) (show tWG K B 0 0 S I3 J4 45 [some (vR 61), some (vI v1), some (vL x5), none] [vI 100000000, vI 0, vL ((2000 + (10 * (I3 61 43).toInt64)) - (I3 61 44).toInt64)] from ?_)
    refine gCSi_p hO (M12_within) hc12_within (idx := 468) (w := 504) (by decide +kernel) hR (by omega) (vs := [vL ((2000 + (10 * (I3 61 43).toInt64)) - (I3 61 44).toInt64), vI 0, vI 100000000]) (st := []) ⟨rfl, Nat.le_of_ble_eq_true rfl, rfl⟩ (by decide +kernel) ?_
    refine gBk (pe := 59) hO [o0 (.goto 11)] (by decide +kernel) (show tWG K B 0 0 S I3 J4 59 [some (vR 61), some (vI v1), some (vL x5), none] [vI (V12_within ((2000 + (10 * (I3 61 43).toInt64)) - (I3 61 44).toInt64) 0 100000000)] from ?_)
    exact gWeak (L' := [none, none, none, none]) trivial (hj6 _ (Eq.symm (if_pos c8))))
set_option maxRecDepth 20000 in
theorem hc12_fearsOf : tCV yX12_fearsOf cX12_fearsOf 2 (some .int) 1 := ⟨⟨(List.mem_of_getElem? (i := 516) rfl), (List.mem_of_getElem? (i := 5) (by decide +kernel)), by decide +kernel⟩, (List.mem_of_getElem? (i := 514) (by decide +kernel)), (List.mem_of_getElem? (i := 515) (by decide +kernel))⟩
set_option maxRecDepth 100000 in
theorem M12_fearsOf {l : Launch} {B : tB} {S : tSH} {I : tHI} {J : tHJ} {v1 : Int32} {n : Nat} {k : Int32 → tHI → tHJ → Prop} (t0 : ty S 61 12) (h : F12_fearsOf n S I J v1 k) : Met l yX12_fearsOf (tWs yX12_fearsOf cX12_fearsOf 2 (some .int)) (tRm 7 0 0) (tPc B [vR 61, vI v1] S I J) (tQi B (tPi S k)) 0 0 (tA B) :=
  tEntry (by decide +kernel) [some (vR 61), some (vI v1)] rfl rfl (Nat.le_of_ble_eq_true rfl) (fun K hl hR hO hQ hG => by
  subst hl
  refine gBk (pe := 2) hO [o0 (.aload_n 0), o0 (.iload_n 1)] (by decide +kernel) (show tWG K B 0 0 S I J 2 [some (vR 61), some (vI v1)] [vI v1, vR 61] from ?_)
  refine gCVv_c hO (M12_setBend t0 h) hc12_setBend (idx := 456) (w := 492) (by decide +kernel) hR (by omega) t0 ⟨by decide, rfl⟩ (vs := [vI v1]) (st := []) ⟨rfl, Nat.le_of_ble_eq_true rfl, rfl⟩ (by decide +kernel) (fun I1 J2 h => ?_)
  refine gBk (pe := 7) hO [o0 (.aload_n 0), oI (.iconst 2) 2] (by decide +kernel) (show tWG K B 0 0 S I1 J2 7 [some (vR 61), some (vI v1)] [vI 2, vR 61] from ?_)
  refine gBk (pe := 10) hO [(.ldc2_w 247, (0, 0, 517, 0), 0, 60)] (by decide +kernel) (show tWG K B 0 0 S I1 J2 10 [some (vR 61), some (vI v1)] [vL 60, vI 2, vR 61] from ?_)
  refine gCVl_c hO (M12_tells t0 h) hc12_tells (idx := 461) (w := 332) (by decide +kernel) hR (by omega) t0 ⟨by decide, rfl⟩ (vs := [vI 2, vL 60]) (st := []) ⟨rfl, Nat.le_of_ble_eq_true rfl, rfl⟩ (by decide +kernel) (fun x5 I3 J4 h => ?_)
  refine gBk (pe := 16) hO [oI (.iconst 0) 0, oI (.bipush 60) 60] (by decide +kernel) (show tWG K B 0 0 S I3 J4 16 [some (vR 61), some (vI v1)] [vI 60, vI 0, vL x5] from ?_)
  refine gCSi_p hO (M12_within) hc12_within (idx := 468) (w := 504) (by decide +kernel) hR (by omega) (vs := [vL x5, vI 0, vI 60]) (st := []) ⟨rfl, Nat.le_of_ble_eq_true rfl, rfl⟩ (by decide +kernel) ?_
  exact gIret hO hQ (by decide +kernel) ⟨rfl, h⟩)
set_option maxRecDepth 20000 in
theorem hc12_pullsOf : tCV yX12_pullsOf cX12_pullsOf 4 (some .int) 1 := ⟨⟨(List.mem_of_getElem? (i := 521) rfl), (List.mem_of_getElem? (i := 5) (by decide +kernel)), by decide +kernel⟩, (List.mem_of_getElem? (i := 519) (by decide +kernel)), (List.mem_of_getElem? (i := 520) (by decide +kernel))⟩
set_option maxRecDepth 100000 in
theorem M12_pullsOf {l : Launch} {B : tB} {S : tSH} {I : tHI} {J : tHJ} {v1 : Int32} {n : Nat} {k : Int32 → tHI → tHJ → Prop} (t0 : ty S 61 12) (h : F12_pullsOf n S I J v1 k) : Met l yX12_pullsOf (tWs yX12_pullsOf cX12_pullsOf 4 (some .int)) (tRm 7 0 0) (tPc B [vR 61, vI v1] S I J) (tQi B (tPi S k)) 0 0 (tA B) :=
  tEntry (by decide +kernel) [some (vR 61), some (vI v1), none, none] rfl rfl (Nat.le_of_ble_eq_true rfl) (fun K hl hR hO hQ hG => by
  subst hl
  refine gBk (pe := 2) hO [o0 (.aload_n 0), o0 (.iload_n 1)] (by decide +kernel) (show tWG K B 0 0 S I J 2 [some (vR 61), some (vI v1), none, none] [vI v1, vR 61] from ?_)
  refine gCVv_c hO (M12_setBend t0 h) hc12_setBend (idx := 456) (w := 492) (by decide +kernel) hR (by omega) t0 ⟨by decide, rfl⟩ (vs := [vI v1]) (st := []) ⟨rfl, Nat.le_of_ble_eq_true rfl, rfl⟩ (by decide +kernel) (fun I1 J2 h => ?_)
  refine gBk (pe := 7) hO [o0 (.aload_n 0), oI (.iconst 3) 3] (by decide +kernel) (show tWG K B 0 0 S I1 J2 7 [some (vR 61), some (vI v1), none, none] [vI 3, vR 61] from ?_)
  refine gBk (pe := 10) hO [(.ldc2_w 459, (0, 0, 485, 0), 0, 2000000000)] (by decide +kernel) (show tWG K B 0 0 S I1 J2 10 [some (vR 61), some (vI v1), none, none] [vL 2000000000, vI 3, vR 61] from ?_)
  refine gCVl_c hO (M12_tells t0 h) hc12_tells (idx := 461) (w := 332) (by decide +kernel) hR (by omega) t0 ⟨by decide, rfl⟩ (vs := [vI 3, vL 2000000000]) (st := []) ⟨rfl, Nat.le_of_ble_eq_true rfl, rfl⟩ (by decide +kernel) (fun x5 I3 J4 h => ?_)
  refine gBk (pe := 15) hO [o0 (.lstore_n 2), o0 (.lload_n 2)] (by decide +kernel) (And.intro (Nat.le_of_ble_eq_true rfl) (show tWG K B 0 0 S I3 J4 15 [some (vR 61), some (vI v1), some (vL x5), none] [vL x5] from ?_))
  refine gBk (pe := 19) hO [(.ldc2_w 459, (0, 0, 485, 0), 0, 2000000000), o0 .lcmp] (by decide +kernel) (show tWG K B 0 0 S I3 J4 19 [some (vR 61), some (vI v1), some (vL x5), none] [vI (lg_cmp x5 2000000000)] from ?_)
  have hj6 : ∀ (m7 : Int32), m7 = (if (lg_cmp x5 2000000000) = 0 then (((5 * (V12_ofBend S I3 J4 v1 2)) + ((I3 61 42) / 20)) - (I3 63 8)) else (V12_within x5 (-99) 99)) → tWG K B 0 0 S I3 J4 57 [none, none, none, none] [vI m7] := by
    intro m7 em7
    subst em7
    have h := h.2
    exact gIret hO hQ (by decide +kernel) ⟨rfl, h⟩
  have h := h.1
  refine gIfNe hO (off := 30) (tgt := 49) (by decide +kernel) (by decide) (fun c8 => ?_) (fun c8 => ?_)
  · have h := h.1 c8
    refine gBk (pe := 54) hO [o0 (.lload_n 2), oI (.bipush (-99)) (-99), oI (.bipush 99) 99] (by decide +kernel) (show tWG K B 0 0 S I3 J4 54 [some (vR 61), some (vI v1), some (vL x5), none] [vI 99, vI (-99), vL x5] from ?_)
    refine gCSi_p hO (M12_within) hc12_within (idx := 468) (w := 504) (by decide +kernel) hR (by omega) (vs := [vL x5, vI (-99), vI 99]) (st := []) ⟨rfl, Nat.le_of_ble_eq_true rfl, rfl⟩ (by decide +kernel) ?_
    exact gWeak (L' := [none, none, none, none]) trivial (hj6 _ (Eq.symm (if_neg c8)))
  · have h := h.2 c8
    refine gBk (pe := 26) hO [oI (.iconst 5) 5, o0 (.aload_n 0), o0 (.iload_n 1), oI (.iconst 2) 2] (by decide +kernel) (show tWG K B 0 0 S I3 J4 26 [some (vR 61), some (vI v1), some (vL x5), none] [vI 2, vI v1, vR 61, vI 5] from ?_)
    refine gCVi_p hO (M12_ofBend t0 h.1) hc12_ofBend (idx := 240) (w := 356) (by decide +kernel) hR (by omega) t0 ⟨by decide, rfl⟩ (vs := [vI v1, vI 2]) (st := [vI 5]) ⟨rfl, Nat.le_of_ble_eq_true rfl, rfl⟩ (by decide +kernel) ?_
    have h := h.2
    refine gBk (pe := 57) hO [o0 .imul, o0 (.aload_n 0), oF (.getfield 441) 12 42 488 0, oI (.bipush 20) 20, o0 .idiv, o0 .iadd, o0 (.aload_n 0), oF (.getfield 13) 12 3 179 63, oI (.bipush 8) 8, o0 .iaload, o0 .isub, o0 (.goto 11)] (by decide +kernel) (And.intro t0 (And.intro (by decide) (And.intro t0 (And.intro rfl (And.intro (tGr.off hG t0 (k := 3) rfl) (And.intro (tin (tGr.len hG t0 (k := 3) rfl (by decide)) (tvi (by decide +kernel))) (show tWG K B 0 0 S I3 J4 57 [some (vR 61), some (vI v1), some (vL x5), none] [vI (((5 * (V12_ofBend S I3 J4 v1 2)) + ((I3 61 42) / 20)) - (I3 63 8))] from ?_)))))))
    exact gWeak (L' := [none, none, none, none]) trivial (hj6 _ (Eq.symm (if_pos c8))))
set_option maxRecDepth 20000 in
theorem hc12_learnsOf : tCV yX12_learnsOf cX12_learnsOf 2 (some .int) 1 := ⟨⟨(List.mem_of_getElem? (i := 525) rfl), (List.mem_of_getElem? (i := 5) (by decide +kernel)), by decide +kernel⟩, (List.mem_of_getElem? (i := 523) (by decide +kernel)), (List.mem_of_getElem? (i := 524) (by decide +kernel))⟩
set_option maxRecDepth 100000 in
theorem M12_learnsOf {l : Launch} {B : tB} {S : tSH} {I : tHI} {J : tHJ} {v1 : Int32} {n : Nat} {k : Int32 → tHI → tHJ → Prop} (t0 : ty S 61 12) (h : F12_learnsOf n S I J v1 k) : Met l yX12_learnsOf (tWs yX12_learnsOf cX12_learnsOf 2 (some .int)) (tRm 7 0 0) (tPc B [vR 61, vI v1] S I J) (tQi B (tPi S k)) 0 0 (tA B) :=
  tEntry (by decide +kernel) [some (vR 61), some (vI v1)] rfl rfl (Nat.le_of_ble_eq_true rfl) (fun K hl hR hO hQ hG => by
  subst hl
  refine gBk (pe := 2) hO [o0 (.aload_n 0), o0 (.iload_n 1)] (by decide +kernel) (show tWG K B 0 0 S I J 2 [some (vR 61), some (vI v1)] [vI v1, vR 61] from ?_)
  refine gCVv_c hO (M12_setBend t0 h) hc12_setBend (idx := 456) (w := 492) (by decide +kernel) hR (by omega) t0 ⟨by decide, rfl⟩ (vs := [vI v1]) (st := []) ⟨rfl, Nat.le_of_ble_eq_true rfl, rfl⟩ (by decide +kernel) (fun I1 J2 h => ?_)
  refine gBk (pe := 10) hO [o0 (.aload_n 0), oI (.iconst 4) 4, o0 (.aload_n 0), o0 (.iload_n 1), oI (.iconst 1) 1] (by decide +kernel) (show tWG K B 0 0 S I1 J2 10 [some (vR 61), some (vI v1)] [vI 1, vI v1, vR 61, vI 4, vR 61] from ?_)
  refine gCVi_p hO (M12_ofBend t0 h.1) hc12_ofBend (idx := 240) (w := 356) (by decide +kernel) hR (by omega) t0 ⟨by decide, rfl⟩ (vs := [vI v1, vI 1]) (st := [vI 4, vR 61]) ⟨rfl, Nat.le_of_ble_eq_true rfl, rfl⟩ (by decide +kernel) ?_
  have h := h.2
  refine gBk (pe := 17) hO [oI (.bipush 10) 10, o0 .idiv, o0 .i2l] (by decide +kernel) (And.intro (by decide) (show tWG K B 0 0 S I1 J2 17 [some (vR 61), some (vI v1)] [vL (((V12_ofBend S I1 J2 v1 1) / 10).toInt64), vI 4, vR 61] from ?_))
  refine gCVl_c hO (M12_tells t0 h) hc12_tells (idx := 461) (w := 332) (by decide +kernel) hR (by omega) t0 ⟨by decide, rfl⟩ (vs := [vI 4, vL (((V12_ofBend S I1 J2 v1 1) / 10).toInt64)]) (st := []) ⟨rfl, Nat.le_of_ble_eq_true rfl, rfl⟩ (by decide +kernel) (fun x5 I3 J4 h => ?_)
  refine gBk (pe := 23) hO [oI (.iconst 0) 0, oI (.bipush 100) 100] (by decide +kernel) (show tWG K B 0 0 S I3 J4 23 [some (vR 61), some (vI v1)] [vI 100, vI 0, vL x5] from ?_)
  refine gCSi_p hO (M12_within) hc12_within (idx := 468) (w := 504) (by decide +kernel) hR (by omega) (vs := [vL x5, vI 0, vI 100]) (st := []) ⟨rfl, Nat.le_of_ble_eq_true rfl, rfl⟩ (by decide +kernel) ?_
  exact gIret hO hQ (by decide +kernel) ⟨rfl, h⟩)
set_option maxRecDepth 100000 in
theorem W12_isBannedBy_3 {K : tK} {B : tB} {S : tSH} {MC MS : Nat} (hO : tKO K B RX12 cX12_isBannedBy 5) (hR : kR K = tRm 7 MC MS) (hG : tGr S) {n : Nat} (t0 : ty S 61 12) {k : Int32 → tHI → tHJ → Prop} (hQ : tRet K B (tQi B (tPb S k)) 0 0 (some .boolean)) {kb3 : tHI → tHJ → Int32 → Int32 → Int32 → Int32 → Prop} (hkb3 : ∀ (I : tHI) (J : tHJ) (v1 : Int32) (v2 : Int32) (v3 : Int32) (v4 : Int32), kb3 I J v1 v2 v3 v4 → tWG K B 0 0 S I J 3 [some (vR 61), some (vI v1), some (vI v2), some (vI v3), some (vI v4)] []) {I : tHI} {J : tHJ} {v1 : Int32} {v2 : Int32} {v3 : Int32} {v4 : Int32} (h : F12_isBannedBy_3 n S k kb3 I J v1 v2 v3 v4) : tWG K B 0 0 S I J 3 [some (vR 61), some (vI v1), some (vI v2), some (vI v3), some (vI v4)] [] := by
  refine gBk (pe := 7) hO [o0 (.iload 4), oI (.bipush 7) 7] (by decide +kernel) (show tWG K B 0 0 S I J 7 [some (vR 61), some (vI v1), some (vI v2), some (vI v3), some (vI v4)] [vI 7, vI v4] from ?_)
  refine gIcGe hO (off := 19) (tgt := 26) (by decide +kernel) (by decide) (fun c1 => ?_) (fun c1 => ?_)
  · have h := h.1 c1
    refine gBk (pe := 56) hO [o0 (.aload_n 0), oF (.getfield 115) 12 35 221 79, oI (.bipush 9) 9, o0 (.iload_n 1), o0 .i2l, o0 .lastore, o0 (.aload_n 0), oF (.getfield 115) 12 35 221 79, oI (.bipush 10) 10, o0 (.iload_n 3), o0 .i2l, o0 .lastore, o0 (.aload_n 0), oF (.getfield 115) 12 35 221 79, oI (.bipush 11) 11, o0 (.iload_n 2), o0 .i2l, o0 .lastore, o0 (.aload_n 0), oI (.iconst 5) 5, oJ (.lconst 0) 0 0] (by decide +kernel) (And.intro t0 (And.intro rfl (And.intro (tGr.off hG t0 (k := 35) rfl) (And.intro (tin (tGr.len hG t0 (k := 35) rfl (by decide)) (tvi (by decide +kernel))) (And.intro t0 (And.intro rfl (And.intro (tGr.off hG t0 (k := 35) rfl) (And.intro (tin (tGr.len hG t0 (k := 35) rfl (by decide)) (tvi (by decide +kernel))) (And.intro t0 (And.intro rfl (And.intro (tGr.off hG t0 (k := 35) rfl) (And.intro (tin (tGr.len hG t0 (k := 35) rfl (by decide)) (tvi (by decide +kernel))) (show tWG K B 0 0 S I (uJ (uJ (uJ J 79 9 v1.toInt64) 79 10 v3.toInt64) 79 11 v2.toInt64) 56 [some (vR 61), some (vI v1), some (vI v2), some (vI v3), some (vI v4)] [vL 0, vI 5, vR 61] from ?_)))))))))))))
    refine gCVl_c hO (M12_tells t0 h) hc12_tells (idx := 461) (w := 332) (by decide +kernel) hR (by omega) t0 ⟨by decide, rfl⟩ (vs := [vI 5, vL 0]) (st := []) ⟨rfl, Nat.le_of_ble_eq_true rfl, rfl⟩ (by decide +kernel) (fun x4 I2 J3 h => ?_)
    refine gBk (pe := 61) hO [oJ (.lconst 1) 0 1, o0 .lcmp] (by decide +kernel) (show tWG K B 0 0 S I2 J3 61 [some (vR 61), some (vI v1), some (vI v2), some (vI v3), some (vI v4)] [vI (lg_cmp x4 1)] from ?_)
    have hj5 : ∀ (m6 : Int32), m6 = (if (lg_cmp x4 1) = 0 then (1 : Int32) else 0) → tWG K B 0 0 S I2 J3 69 [none, none, none, none, none] [vI m6] := by
      intro m6 em6
      subst em6
      exact gZret hO hQ (by decide +kernel) (bz_if (Or.inr rfl) (Or.inl rfl)) ⟨rfl, (bz_if (Or.inr rfl) (Or.inl rfl)), h⟩
    refine gIfNe hO (off := 7) (tgt := 68) (by decide +kernel) (by decide) (fun c7 => ?_) (fun c7 => ?_)
    · refine gBk (pe := 69) hO [oI (.iconst 0) 0] (by decide +kernel) (show tWG K B 0 0 S I2 J3 69 [some (vR 61), some (vI v1), some (vI v2), some (vI v3), some (vI v4)] [vI 0] from ?_)
      exact gWeak (L' := [none, none, none, none, none]) trivial (hj5 _ (Eq.symm (if_neg c7)))
    · refine gBk (pe := 69) hO [oI (.iconst 1) 1, o0 (.goto 4)] (by decide +kernel) (show tWG K B 0 0 S I2 J3 69 [some (vR 61), some (vI v1), some (vI v2), some (vI v3), some (vI v4)] [vI 1] from ?_)
      exact gWeak (L' := [none, none, none, none, none]) trivial (hj5 _ (Eq.symm (if_pos c7)))
  · have h := h.2 c1
    refine gBk (pe := 16) hO [o0 (.aload_n 0), oF (.getfield 115) 12 35 221 79, o0 (.iload 4)] (by decide +kernel) (And.intro t0 (And.intro rfl (show tWG K B 0 0 S I J 16 [some (vR 61), some (vI v1), some (vI v2), some (vI v3), some (vI v4)] [vI v4, vR 79] from ?_)))
    refine gBk (pe := 3) hO [(.ldc2_w 288, (0, 0, 331, 0), 0, (-1)), o0 .lastore, oI (.iinc 4 1) 1, o0 (.goto (-20))] (by decide +kernel) (And.intro (tGr.off hG t0 (k := 35) rfl) (And.intro (tin (tGr.len hG t0 (k := 35) rfl (by decide)) h.1) (show tWG K B 0 0 S I (uJ J 79 v4.toNatClampNeg (-1)) 3 [some (vR 61), some (vI v1), some (vI v2), some (vI v3), some (vI (v4 + 1))] [] from ?_)))
    have h := h.2
    exact hkb3 _ _ _ _ _ _ h
theorem W12_isBannedBy_L3 {K : tK} {B : tB} {S : tSH} {MC MS : Nat} (hO : tKO K B RX12 cX12_isBannedBy 5) (hR : kR K = tRm 7 MC MS) (hG : tGr S) {n : Nat} (t0 : ty S 61 12) {k : Int32 → tHI → tHJ → Prop} (hQ : tRet K B (tQi B (tPb S k)) 0 0 (some .boolean)) : ∀ (f : Nat) (I : tHI) (J : tHJ) (v1 : Int32) (v2 : Int32) (v3 : Int32) (v4 : Int32), F12_isBannedBy_L3 n S k f I J v1 v2 v3 v4 → tWG K B 0 0 S I J 3 [some (vR 61), some (vI v1), some (vI v2), some (vI v3), some (vI v4)] [] := by
  intro f
  induction f with
  | zero => intro I J v1 v2 v3 v4 h; exact h.elim
  | succ f ih => intro I J v1 v2 v3 v4 h; exact W12_isBannedBy_3 hO hR hG t0 hQ ih h
set_option maxRecDepth 20000 in
theorem hc12_isBannedBy : tCV yX12_isBannedBy cX12_isBannedBy 5 (some .boolean) 3 := ⟨⟨(List.mem_of_getElem? (i := 330) rfl), (List.mem_of_getElem? (i := 5) (by decide +kernel)), by decide +kernel⟩, (List.mem_of_getElem? (i := 328) (by decide +kernel)), (List.mem_of_getElem? (i := 329) (by decide +kernel))⟩
set_option maxRecDepth 100000 in
theorem M12_isBannedBy {l : Launch} {B : tB} {S : tSH} {I : tHI} {J : tHJ} {v1 : Int32} {v2 : Int32} {v3 : Int32} {n : Nat} {k : Int32 → tHI → tHJ → Prop} (t0 : ty S 61 12) (h : F12_isBannedBy n S I J v1 v2 v3 k) : Met l yX12_isBannedBy (tWs yX12_isBannedBy cX12_isBannedBy 5 (some .boolean)) (tRm 7 0 0) (tPc B [vR 61, vI v1, vI v2, vI v3] S I J) (tQi B (tPb S k)) 0 0 (tA B) :=
  tEntry (by decide +kernel) [some (vR 61), some (vI v1), some (vI v2), some (vI v3), none] rfl rfl (Nat.le_of_ble_eq_true rfl) (fun K hl hR hO hQ hG => by
  subst hl
  refine gBk (pe := 3) hO [oI (.iconst 1) 1, o0 (.istore 4)] (by decide +kernel) (And.intro (Nat.le_of_ble_eq_true rfl) (show tWG K B 0 0 S I J 3 [some (vR 61), some (vI v1), some (vI v2), some (vI v3), some (vI 1)] [] from ?_))
  exact W12_isBannedBy_L3 hO hR hG t0 hQ n _ _ _ _ _ _ h)
set_option maxRecDepth 20000 in
theorem hc12_isBanned : tCV yX12_isBanned cX12_isBanned 3 (some .boolean) 2 := ⟨⟨(List.mem_of_getElem? (i := 393) rfl), (List.mem_of_getElem? (i := 5) (by decide +kernel)), by decide +kernel⟩, (List.mem_of_getElem? (i := 391) (by decide +kernel)), (List.mem_of_getElem? (i := 392) (by decide +kernel))⟩
set_option maxRecDepth 100000 in
theorem M12_isBanned {l : Launch} {B : tB} {S : tSH} {I : tHI} {J : tHJ} {v1 : Int32} {v2 : Int32} {n : Nat} {k : Int32 → tHI → tHJ → Prop} (t0 : ty S 61 12) (h : F12_isBanned n S I J v1 v2 k) : Met l yX12_isBanned (tWs yX12_isBanned cX12_isBanned 3 (some .boolean)) (tRm 8 0 0) (tPc B [vR 61, vI v1, vI v2] S I J) (tQi B (tPb S k)) 0 0 (tA B) :=
  tEntry (by decide +kernel) [some (vR 61), some (vI v1), some (vI v2)] rfl rfl (Nat.le_of_ble_eq_true rfl) (fun K hl hR hO hQ hG => by
  subst hl
  refine gBk (pe := 20) hO [o0 (.aload_n 0), o0 (.aload_n 0), oF (.getfield 13) 12 3 179 63, oI (.bipush 26) 26, o0 (.iload_n 1), o0 .iadd, o0 .iaload, o0 (.aload_n 0), oF (.getfield 13) 12 3 179 63, oI (.bipush 32) 32, o0 (.iload_n 1), o0 .iadd, o0 .iaload, o0 (.iload_n 2)] (by decide +kernel) (And.intro t0 (And.intro rfl (And.intro (tGr.off hG t0 (k := 3) rfl) (And.intro (tin (tGr.len hG t0 (k := 3) rfl (by decide)) h.1) (And.intro t0 (And.intro rfl (And.intro (tGr.off hG t0 (k := 3) rfl) (And.intro (tin (tGr.len hG t0 (k := 3) rfl (by decide)) h.2.1) (show tWG K B 0 0 S I J 20 [some (vR 61), some (vI v1), some (vI v2)] [vI v2, vI (I 63 (32 + v1).toNatClampNeg), vI (I 63 (26 + v1).toNatClampNeg), vR 61] from ?_)))))))))
  have h := h.2.2
  refine gCVi_b hO (M12_isBannedBy t0 h) hc12_isBannedBy (idx := 192) (w := 327) (by decide +kernel) hR (by omega) t0 ⟨by decide, rfl⟩ (vs := [vI (I 63 (26 + v1).toNatClampNeg), vI (I 63 (32 + v1).toNatClampNeg), vI v2]) (st := []) ⟨rfl, Nat.le_of_ble_eq_true rfl, rfl⟩ (by decide +kernel) (fun x3 I1 J2 z4 h => ?_)
  have h := h z4
  exact gZret hO hQ (by decide +kernel) z4 ⟨rfl, z4, h⟩)
set_option maxRecDepth 20000 in
theorem hc12_goesBy : tCm yX12_goesBy cX12_goesBy 5 (some .int) 4 ∧ Cond.static yX12_goesBy ∈ wsL_law := ⟨⟨(List.mem_of_getElem? (i := 1057) rfl), (List.mem_of_getElem? (i := 5) (by decide +kernel)), by decide +kernel⟩, (List.mem_of_getElem? (i := 1056) (by decide +kernel))⟩
set_option maxRecDepth 100000 in
theorem M12_goesBy {l : Launch} {B : tB} {S : tSH} {I : tHI} {J : tHJ} {v0 : Int32} {v1 : Int32} {v2 : Int32} {v3 : Int32} : Met l yX12_goesBy (tWs yX12_goesBy cX12_goesBy 5 (some .int)) (tRm 2 0 0) (tPc B [vI v0, vI v1, vI v2, vI v3] S I J) (tQi B (tPp S I J (V12_goesBy v0 v1 v2 v3))) 0 0 (tA B) :=
  tEntry (by decide +kernel) [some (vI v0), some (vI v1), some (vI v2), some (vI v3), none] rfl rfl (Nat.le_of_ble_eq_true rfl) (fun K hl hR hO hQ hG => by
  subst hl
  refine gBk (pe := 9) hO [o0 (.iload_n 0), o0 (.iload_n 1), o0 .imul, o0 (.iload_n 1), o0 .imul, o0 (.istore 4), o0 (.iload 4)] (by decide +kernel) (And.intro (Nat.le_of_ble_eq_true rfl) (show tWG K B 0 0 S I J 9 [some (vI v0), some (vI v1), some (vI v2), some (vI v3), some (vI ((v0 * v1) * v1))] [vI ((v0 * v1) * v1)] from ?_))
  refine gIfLe hO (off := 13) (tgt := 22) (by decide +kernel) (by decide) (fun c1 => ?_) (fun c1 => ?_)
  · refine gBk (pe := 24) hO [o0 (.iload 4)] (by decide +kernel) (show tWG K B 0 0 S I J 24 [some (vI v0), some (vI v1), some (vI v2), some (vI v3), some (vI ((v0 * v1) * v1))] [vI ((v0 * v1) * v1)] from ?_)
    refine gIfGe hO (off := 14) (tgt := 38) (by decide +kernel) (by decide) (fun c2 => ?_) (fun c2 => ?_)
    · refine gBk (pe := 39) hO [oI (.iconst 0) 0] (by decide +kernel) (show tWG K B 0 0 S I J 39 [some (vI v0), some (vI v1), some (vI v2), some (vI v3), some (vI ((v0 * v1) * v1))] [vI 0] from ?_)
      exact gIret hO hQ (by decide +kernel) ⟨(Eq.symm ((if_pos c1).trans (if_pos c2))), rfl⟩
    · refine gBk (pe := 31) hO [o0 (.iload 4), o0 .ineg, o0 (.iload_n 2)] (by decide +kernel) (show tWG K B 0 0 S I J 31 [some (vI v0), some (vI v1), some (vI v2), some (vI v3), some (vI ((v0 * v1) * v1))] [vI v2, vI (-((v0 * v1) * v1))] from ?_)
      refine gIcLe hO (off := 7) (tgt := 38) (by decide +kernel) (by decide) (fun c3 => ?_) (fun c3 => ?_)
      · refine gBk (pe := 39) hO [oI (.iconst 0) 0] (by decide +kernel) (show tWG K B 0 0 S I J 39 [some (vI v0), some (vI v1), some (vI v2), some (vI v3), some (vI ((v0 * v1) * v1))] [vI 0] from ?_)
        exact gIret hO hQ (by decide +kernel) ⟨(Eq.symm ((if_pos c1).trans ((if_neg c2).trans (if_pos c3)))), rfl⟩
      · refine gBk (pe := 39) hO [oI (.iconst 1) 1, o0 (.goto 4)] (by decide +kernel) (show tWG K B 0 0 S I J 39 [some (vI v0), some (vI v1), some (vI v2), some (vI v3), some (vI ((v0 * v1) * v1))] [vI 1] from ?_)
        exact gIret hO hQ (by decide +kernel) ⟨(Eq.symm ((if_pos c1).trans ((if_neg c2).trans (if_neg c3)))), rfl⟩
  · refine gBk (pe := 15) hO [o0 (.iload 4), o0 (.iload_n 3)] (by decide +kernel) (show tWG K B 0 0 S I J 15 [some (vI v0), some (vI v1), some (vI v2), some (vI v3), some (vI ((v0 * v1) * v1))] [vI v3, vI ((v0 * v1) * v1)] from ?_)
    refine gIcLe hO (off := 7) (tgt := 22) (by decide +kernel) (by decide) (fun c4 => ?_) (fun c4 => ?_)
    · refine gBk (pe := 24) hO [o0 (.iload 4)] (by decide +kernel) (show tWG K B 0 0 S I J 24 [some (vI v0), some (vI v1), some (vI v2), some (vI v3), some (vI ((v0 * v1) * v1))] [vI ((v0 * v1) * v1)] from ?_)
      refine gIfGe hO (off := 14) (tgt := 38) (by decide +kernel) (by decide) (fun c5 => ?_) (fun c5 => ?_)
      · refine gBk (pe := 39) hO [oI (.iconst 0) 0] (by decide +kernel) (show tWG K B 0 0 S I J 39 [some (vI v0), some (vI v1), some (vI v2), some (vI v3), some (vI ((v0 * v1) * v1))] [vI 0] from ?_)
        exact gIret hO hQ (by decide +kernel) ⟨(Eq.symm ((if_neg c1).trans ((if_pos c4).trans (if_pos c5)))), rfl⟩
      · refine gBk (pe := 31) hO [o0 (.iload 4), o0 .ineg, o0 (.iload_n 2)] (by decide +kernel) (show tWG K B 0 0 S I J 31 [some (vI v0), some (vI v1), some (vI v2), some (vI v3), some (vI ((v0 * v1) * v1))] [vI v2, vI (-((v0 * v1) * v1))] from ?_)
        refine gIcLe hO (off := 7) (tgt := 38) (by decide +kernel) (by decide) (fun c6 => ?_) (fun c6 => ?_)
        · refine gBk (pe := 39) hO [oI (.iconst 0) 0] (by decide +kernel) (show tWG K B 0 0 S I J 39 [some (vI v0), some (vI v1), some (vI v2), some (vI v3), some (vI ((v0 * v1) * v1))] [vI 0] from ?_)
          exact gIret hO hQ (by decide +kernel) ⟨(Eq.symm ((if_neg c1).trans ((if_pos c4).trans ((if_neg c5).trans (if_pos c6))))), rfl⟩
        · refine gBk (pe := 39) hO [oI (.iconst 1) 1, o0 (.goto 4)] (by decide +kernel) (show tWG K B 0 0 S I J 39 [some (vI v0), some (vI v1), some (vI v2), some (vI v3), some (vI ((v0 * v1) * v1))] [vI 1] from ?_)
          exact gIret hO hQ (by decide +kernel) ⟨(Eq.symm ((if_neg c1).trans ((if_pos c4).trans ((if_neg c5).trans (if_neg c6))))), rfl⟩
    · refine gBk (pe := 39) hO [oI (.iconst 2) 2, o0 (.goto 20)] (by decide +kernel) (show tWG K B 0 0 S I J 39 [some (vI v0), some (vI v1), some (vI v2), some (vI v3), some (vI ((v0 * v1) * v1))] [vI 2] from ?_)
      exact gIret hO hQ (by decide +kernel) ⟨(Eq.symm ((if_neg c1).trans (if_neg c4))), rfl⟩)
set_option maxRecDepth 20000 in
theorem hc12_goesNow : tCV yX12_goesNow cX12_goesNow 3 (some .int) 2 := ⟨⟨(List.mem_of_getElem? (i := 1054) rfl), (List.mem_of_getElem? (i := 5) (by decide +kernel)), by decide +kernel⟩, (List.mem_of_getElem? (i := 1052) (by decide +kernel)), (List.mem_of_getElem? (i := 1053) (by decide +kernel))⟩
set_option maxRecDepth 100000 in
theorem M12_goesNow {l : Launch} {B : tB} {S : tSH} {I : tHI} {J : tHJ} {v1 : Int32} {v2 : Int32} {n : Nat} {k : Int32 → tHI → tHJ → Prop} (t0 : ty S 61 12) (h : F12_goesNow n S I J v1 v2 k) : Met l yX12_goesNow (tWs yX12_goesNow cX12_goesNow 3 (some .int)) (tRm 8 0 0) (tPc B [vR 61, vI v1, vI v2] S I J) (tQi B (tPi S k)) 0 0 (tA B) :=
  tEntry (by decide +kernel) [some (vR 61), some (vI v1), some (vI v2)] rfl rfl (Nat.le_of_ble_eq_true rfl) (fun K hl hR hO hQ hG => by
  subst hl
  refine gBk (pe := 3) hO [o0 (.aload_n 0), o0 (.iload_n 1), oI (.iconst 0) 0] (by decide +kernel) (show tWG K B 0 0 S I J 3 [some (vR 61), some (vI v1), some (vI v2)] [vI 0, vI v1, vR 61] from ?_)
  refine gCVi_p hO (M12_ofBend t0 h.1) hc12_ofBend (idx := 240) (w := 356) (by decide +kernel) hR (by omega) t0 ⟨by decide, rfl⟩ (vs := [vI v1, vI 0]) (st := []) ⟨rfl, Nat.le_of_ble_eq_true rfl, rfl⟩ (by decide +kernel) ?_
  have h := h.2
  refine gBk (pe := 9) hO [o0 (.iload_n 2), o0 (.aload_n 0), o0 (.iload_n 1)] (by decide +kernel) (show tWG K B 0 0 S I J 9 [some (vR 61), some (vI v1), some (vI v2)] [vI v1, vR 61, vI v2, vI (V12_ofBend S I J v1 0)] from ?_)
  refine gCVi_c hO (M12_holdsOf t0 h) hc12_holdsOf (idx := 225) (w := 481) (by decide +kernel) hR (by omega) t0 ⟨by decide, rfl⟩ (vs := [vI v1]) (st := [vI v2, vI (V12_ofBend S I J v1 0)]) ⟨rfl, Nat.le_of_ble_eq_true rfl, rfl⟩ (by decide +kernel) (fun x3 I1 J2 h => ?_)
  refine gBk (pe := 14) hO [o0 (.aload_n 0), o0 (.iload_n 1)] (by decide +kernel) (show tWG K B 0 0 S I1 J2 14 [some (vR 61), some (vI v1), some (vI v2)] [vI v1, vR 61, vI x3, vI v2, vI (V12_ofBend S I J v1 0)] from ?_)
  refine gCVi_c hO (M12_gripsOf t0 h) hc12_gripsOf (idx := 228) (w := 507) (by decide +kernel) hR (by omega) t0 ⟨by decide, rfl⟩ (vs := [vI v1]) (st := [vI x3, vI v2, vI (V12_ofBend S I J v1 0)]) ⟨rfl, Nat.le_of_ble_eq_true rfl, rfl⟩ (by decide +kernel) (fun x6 I4 J5 h => ?_)
  refine gCSi_p hO (M12_goesBy) hc12_goesBy (idx := 475) (w := 1055) (by decide +kernel) hR (by omega) (vs := [vI (V12_ofBend S I J v1 0), vI v2, vI x3, vI x6]) (st := []) ⟨rfl, Nat.le_of_ble_eq_true rfl, rfl⟩ (by decide +kernel) ?_
  exact gIret hO hQ (by decide +kernel) ⟨rfl, h⟩)
set_option maxRecDepth 100000 in
theorem W12_goes_35 {K : tK} {B : tB} {S : tSH} {MC MS : Nat} (hO : tKO K B RX12 cX12_goes 3) (hR : kR K = tRm 9 MC MS) (hG : tGr S) {n : Nat} (t0 : ty S 61 12) {k : Int32 → tHI → tHJ → Prop} (hQ : tRet K B (tQi B (tPi S k)) 0 0 (some .int)) {I : tHI} {J : tHJ} {s0 : Int32} (h : F12_goes_35 n S k I J s0) : tWG K B 0 0 S I J 35 [none, none, none] [vI s0] := by
  exact gIret hO hQ (by decide +kernel) ⟨rfl, h⟩
set_option maxRecDepth 100000 in
theorem W12_goes_34 {K : tK} {B : tB} {S : tSH} {MC MS : Nat} (hO : tKO K B RX12 cX12_goes 3) (hR : kR K = tRm 9 MC MS) (hG : tGr S) {n : Nat} (t0 : ty S 61 12) {k : Int32 → tHI → tHJ → Prop} (hQ : tRet K B (tQi B (tPi S k)) 0 0 (some .int)) {I : tHI} {J : tHJ} (h : F12_goes_34 n S k I J) : tWG K B 0 0 S I J 34 [none, none, none] [] := by
  refine gBk (pe := 35) hO [oI (.iconst (-1)) (-1)] (by decide +kernel) (show tWG K B 0 0 S I J 35 [none, none, none] [vI (-1)] from ?_)
  exact W12_goes_35 hO hR hG t0 hQ h
set_option maxRecDepth 20000 in
theorem hc12_goes : tCV yX12_goes cX12_goes 3 (some .int) 2 := ⟨⟨(List.mem_of_getElem? (i := 1163) rfl), (List.mem_of_getElem? (i := 5) (by decide +kernel)), by decide +kernel⟩, (List.mem_of_getElem? (i := 1161) (by decide +kernel)), (List.mem_of_getElem? (i := 1162) (by decide +kernel))⟩
set_option maxRecDepth 100000 in
theorem M12_goes {l : Launch} {B : tB} {S : tSH} {I : tHI} {J : tHJ} {v1 : Int32} {v2 : Int32} {n : Nat} {k : Int32 → tHI → tHJ → Prop} (t0 : ty S 61 12) (h : F12_goes n S I J v1 v2 k) : Met l yX12_goes (tWs yX12_goes cX12_goes 3 (some .int)) (tRm 9 0 0) (tPc B [vR 61, vI v1, vI v2] S I J) (tQi B (tPi S k)) 0 0 (tA B) :=
  tEntry (by decide +kernel) [some (vR 61), some (vI v1), some (vI v2)] rfl rfl (Nat.le_of_ble_eq_true rfl) (fun K hl hR hO hQ hG => by
  subst hl
  refine gBk (pe := 7) hO [o0 (.aload_n 0), oI (.iconst 0) 0, oF (.putfield 161) 12 0 316 0, o0 (.aload_n 0), o0 (.iload_n 1)] (by decide +kernel) (And.intro t0 (show tWG K B 0 0 S (uI I 61 0 0) J 7 [some (vR 61), some (vI v1), some (vI v2)] [vI v1, vR 61] from ?_))
  refine gCVi_z hO (M12_isBend t0) hc12_isBend (idx := 220) (w := 352) (by decide +kernel) hR (by omega) t0 ⟨by decide, rfl⟩ (vs := [vI v1]) (st := []) ⟨rfl, Nat.le_of_ble_eq_true rfl, rfl⟩ (by decide +kernel) (fun z1 => ?_)
  refine gIfEq hO (off := 24) (tgt := 34) (by decide +kernel) (by decide) (fun c2 => ?_) (fun c2 => ?_)
  · have h := h.1 c2
    exact gWeak (L' := [none, none, none]) trivial (W12_goes_34 hO hR hG t0 hQ h)
  · have h := h.2 c2
    refine gBk (pe := 16) hO [o0 (.iload_n 2), o0 .i2l, oJ (.lconst 1) 0 1] (by decide +kernel) (show tWG K B 0 0 S (uI I 61 0 0) J 16 [some (vR 61), some (vI v1), some (vI v2)] [vL 1, vL v2.toInt64] from ?_)
    refine gBk (pe := 19) hO [(.ldc2_w 247, (0, 0, 517, 0), 0, 60)] (by decide +kernel) (show tWG K B 0 0 S (uI I 61 0 0) J 19 [some (vR 61), some (vI v1), some (vI v2)] [vL 60, vL 1, vL v2.toInt64] from ?_)
    refine gCSi_z hO (M12_in) hc12_in (idx := 181) (w := 319) (by decide +kernel) hR (by omega) (vs := [vL v2.toInt64, vL 1, vL 60]) (st := []) ⟨rfl, Nat.le_of_ble_eq_true rfl, rfl⟩ (by decide +kernel) (fun z3 => ?_)
    refine gIfEq hO (off := 12) (tgt := 34) (by decide +kernel) (by decide) (fun c4 => ?_) (fun c4 => ?_)
    · have h := h.1 c4
      exact gWeak (L' := [none, none, none]) trivial (W12_goes_34 hO hR hG t0 hQ h)
    · have h := h.2 c4
      refine gBk (pe := 28) hO [o0 (.aload_n 0), o0 (.iload_n 1), o0 (.iload_n 2)] (by decide +kernel) (show tWG K B 0 0 S (uI I 61 0 0) J 28 [some (vR 61), some (vI v1), some (vI v2)] [vI v2, vI v1, vR 61] from ?_)
      refine gCVi_c hO (M12_goesNow t0 h) hc12_goesNow (idx := 478) (w := 1051) (by decide +kernel) hR (by omega) t0 ⟨by decide, rfl⟩ (vs := [vI v1, vI v2]) (st := []) ⟨rfl, Nat.le_of_ble_eq_true rfl, rfl⟩ (by decide +kernel) (fun x7 I5 J6 h => ?_)
      refine gBk (pe := 35) hO [o0 (.goto 4)] (by decide +kernel) (show tWG K B 0 0 S I5 J6 35 [some (vR 61), some (vI v1), some (vI v2)] [vI x7] from ?_)
      exact gWeak (L' := [none, none, none]) trivial (W12_goes_35 hO hR hG t0 hQ h))
set_option maxRecDepth 100000 in
theorem W12_quickest_46 {K : tK} {B : tB} {S : tSH} {MC MS : Nat} (hO : tKO K B RX12 cX12_quickest 5) (hR : kR K = tRm 8 MC MS) (hG : tGr S) {n : Nat} (t0 : ty S 61 12) {k : Int32 → tHI → tHJ → Prop} (hQ : tRet K B (tQi B (tPi S k)) 0 0 (some .int)) {I : tHI} {J : tHJ} {v4 : Int32} (h : F12_quickest_46 n S k I J v4) : tWG K B 0 0 S I J 46 [none, none, none, none, some (vI v4)] [] := by
  refine gBk (pe := 48) hO [o0 (.iload 4)] (by decide +kernel) (show tWG K B 0 0 S I J 48 [none, none, none, none, some (vI v4)] [vI v4] from ?_)
  exact gIret hO hQ (by decide +kernel) ⟨rfl, h⟩
set_option maxRecDepth 100000 in
theorem W12_quickest_19 {K : tK} {B : tB} {S : tSH} {MC MS : Nat} (hO : tKO K B RX12 cX12_quickest 5) (hR : kR K = tRm 8 MC MS) (hG : tGr S) {n : Nat} (t0 : ty S 61 12) {k : Int32 → tHI → tHJ → Prop} (hQ : tRet K B (tQi B (tPi S k)) 0 0 (some .int)) {kb19 : tHI → tHJ → Int32 → Int32 → Int32 → Int32 → Prop} (hkb19 : ∀ (I : tHI) (J : tHJ) (v1 : Int32) (v2 : Int32) (v3 : Int32) (v4 : Int32), kb19 I J v1 v2 v3 v4 → tWG K B 0 0 S I J 19 [some (vR 61), some (vI v1), some (vI v2), some (vI v3), some (vI v4)] []) {I : tHI} {J : tHJ} {v1 : Int32} {v2 : Int32} {v3 : Int32} {v4 : Int32} (h : F12_quickest_19 n S k kb19 I J v1 v2 v3 v4) : tWG K B 0 0 S I J 19 [some (vR 61), some (vI v1), some (vI v2), some (vI v3), some (vI v4)] [] := by
  refine gBk (pe := 21) hO [o0 (.iload 4)] (by decide +kernel) (show tWG K B 0 0 S I J 21 [some (vR 61), some (vI v1), some (vI v2), some (vI v3), some (vI v4)] [vI v4] from ?_)
  refine gIfLe hO (off := 25) (tgt := 46) (by decide +kernel) (by decide) (fun c10 => ?_) (fun c10 => ?_)
  · have h := h.1 c10
    exact gWeak (L' := [none, none, none, none, some (vI v4)]) ⟨rfl, trivial⟩ (W12_quickest_46 hO hR hG t0 hQ h)
  · have h := h.2 c10
    refine gBk (pe := 27) hO [o0 (.aload_n 0), o0 (.iload_n 1), oI (.iconst 0) 0] (by decide +kernel) (show tWG K B 0 0 S I J 27 [some (vR 61), some (vI v1), some (vI v2), some (vI v3), some (vI v4)] [vI 0, vI v1, vR 61] from ?_)
    refine gCVi_p hO (M12_ofBend t0 h.1) hc12_ofBend (idx := 240) (w := 356) (by decide +kernel) hR (by omega) t0 ⟨by decide, rfl⟩ (vs := [vI v1, vI 0]) (st := []) ⟨rfl, Nat.le_of_ble_eq_true rfl, rfl⟩ (by decide +kernel) ?_
    have h := h.2
    refine gBk (pe := 34) hO [o0 (.iload 4), o0 (.iload_n 2), o0 (.iload_n 3)] (by decide +kernel) (show tWG K B 0 0 S I J 34 [some (vR 61), some (vI v1), some (vI v2), some (vI v3), some (vI v4)] [vI v3, vI v2, vI v4, vI (V12_ofBend S I J v1 0)] from ?_)
    refine gCSi_p hO (M12_goesBy) hc12_goesBy (idx := 475) (w := 1055) (by decide +kernel) hR (by omega) (vs := [vI (V12_ofBend S I J v1 0), vI v4, vI v2, vI v3]) (st := []) ⟨rfl, Nat.le_of_ble_eq_true rfl, rfl⟩ (by decide +kernel) ?_
    refine gIfEq hO (off := 9) (tgt := 46) (by decide +kernel) (by decide) (fun c11 => ?_) (fun c11 => ?_)
    · have h := h.1 c11
      exact gWeak (L' := [none, none, none, none, some (vI v4)]) ⟨rfl, trivial⟩ (W12_quickest_46 hO hR hG t0 hQ h)
    · have h := h.2 c11
      refine gBk (pe := 19) hO [oI (.iinc 4 (-1)) (-1), o0 (.goto (-24))] (by decide +kernel) (show tWG K B 0 0 S I J 19 [some (vR 61), some (vI v1), some (vI v2), some (vI v3), some (vI (v4 + (-1)))] [] from ?_)
      exact hkb19 _ _ _ _ _ _ h
theorem W12_quickest_L19 {K : tK} {B : tB} {S : tSH} {MC MS : Nat} (hO : tKO K B RX12 cX12_quickest 5) (hR : kR K = tRm 8 MC MS) (hG : tGr S) {n : Nat} (t0 : ty S 61 12) {k : Int32 → tHI → tHJ → Prop} (hQ : tRet K B (tQi B (tPi S k)) 0 0 (some .int)) : ∀ (f : Nat) (I : tHI) (J : tHJ) (v1 : Int32) (v2 : Int32) (v3 : Int32) (v4 : Int32), F12_quickest_L19 n S k f I J v1 v2 v3 v4 → tWG K B 0 0 S I J 19 [some (vR 61), some (vI v1), some (vI v2), some (vI v3), some (vI v4)] [] := by
  intro f
  induction f with
  | zero => intro I J v1 v2 v3 v4 h; exact h.elim
  | succ f ih => intro I J v1 v2 v3 v4 h; exact W12_quickest_19 hO hR hG t0 hQ ih h
set_option maxRecDepth 20000 in
theorem hc12_quickest : tCV yX12_quickest cX12_quickest 5 (some .int) 1 := ⟨⟨(List.mem_of_getElem? (i := 1185) rfl), (List.mem_of_getElem? (i := 5) (by decide +kernel)), by decide +kernel⟩, (List.mem_of_getElem? (i := 1183) (by decide +kernel)), (List.mem_of_getElem? (i := 1184) (by decide +kernel))⟩
set_option maxRecDepth 100000 in
theorem M12_quickest {l : Launch} {B : tB} {S : tSH} {I : tHI} {J : tHJ} {v1 : Int32} {n : Nat} {k : Int32 → tHI → tHJ → Prop} (t0 : ty S 61 12) (h : F12_quickest n S I J v1 k) : Met l yX12_quickest (tWs yX12_quickest cX12_quickest 5 (some .int)) (tRm 8 0 0) (tPc B [vR 61, vI v1] S I J) (tQi B (tPi S k)) 0 0 (tA B) :=
  tEntry (by decide +kernel) [some (vR 61), some (vI v1), none, none, none] rfl rfl (Nat.le_of_ble_eq_true rfl) (fun K hl hR hO hQ hG => by
  subst hl
  refine gBk (pe := 2) hO [o0 (.aload_n 0), o0 (.iload_n 1)] (by decide +kernel) (show tWG K B 0 0 S I J 2 [some (vR 61), some (vI v1), none, none, none] [vI v1, vR 61] from ?_)
  refine gCVi_c hO (M12_holdsOf t0 h) hc12_holdsOf (idx := 225) (w := 481) (by decide +kernel) hR (by omega) t0 ⟨by decide, rfl⟩ (vs := [vI v1]) (st := []) ⟨rfl, Nat.le_of_ble_eq_true rfl, rfl⟩ (by decide +kernel) (fun x3 I1 J2 h => ?_)
  refine gBk (pe := 8) hO [o0 (.istore_n 2), o0 (.aload_n 0), o0 (.iload_n 1)] (by decide +kernel) (And.intro (Nat.le_of_ble_eq_true rfl) (show tWG K B 0 0 S I1 J2 8 [some (vR 61), some (vI v1), some (vI x3), none, none] [vI v1, vR 61] from ?_))
  refine gCVi_c hO (M12_gripsOf t0 h) hc12_gripsOf (idx := 228) (w := 507) (by decide +kernel) hR (by omega) t0 ⟨by decide, rfl⟩ (vs := [vI v1]) (st := []) ⟨rfl, Nat.le_of_ble_eq_true rfl, rfl⟩ (by decide +kernel) (fun x6 I4 J5 h => ?_)
  refine gBk (pe := 14) hO [o0 (.istore_n 3), o0 (.aload_n 0), o0 (.iload_n 1)] (by decide +kernel) (And.intro (Nat.le_of_ble_eq_true rfl) (show tWG K B 0 0 S I4 J5 14 [some (vR 61), some (vI v1), some (vI x3), some (vI x6), none] [vI v1, vR 61] from ?_))
  refine gCVi_c hO (M12_fearsOf t0 h) hc12_fearsOf (idx := 231) (w := 513) (by decide +kernel) hR (by omega) t0 ⟨by decide, rfl⟩ (vs := [vI v1]) (st := []) ⟨rfl, Nat.le_of_ble_eq_true rfl, rfl⟩ (by decide +kernel) (fun x9 I7 J8 h => ?_)
  refine gBk (pe := 19) hO [o0 (.istore 4)] (by decide +kernel) (And.intro (Nat.le_of_ble_eq_true rfl) (show tWG K B 0 0 S I7 J8 19 [some (vR 61), some (vI v1), some (vI x3), some (vI x6), some (vI x9)] [] from ?_))
  exact W12_quickest_L19 hO hR hG t0 hQ n _ _ _ _ _ _ h)
set_option maxRecDepth 20000 in
theorem hc12_timeOf : tCV yX12_timeOf cX12_timeOf 3 (some .int) 2 := ⟨⟨(List.mem_of_getElem? (i := 1189) rfl), (List.mem_of_getElem? (i := 5) (by decide +kernel)), by decide +kernel⟩, (List.mem_of_getElem? (i := 1187) (by decide +kernel)), (List.mem_of_getElem? (i := 1188) (by decide +kernel))⟩
set_option maxRecDepth 100000 in
theorem M12_timeOf {l : Launch} {B : tB} {S : tSH} {I : tHI} {J : tHJ} {v1 : Int32} {v2 : Int32} (t0 : ty S 61 12) (h : P12_timeOf S I J v1 v2) : Met l yX12_timeOf (tWs yX12_timeOf cX12_timeOf 3 (some .int)) (tRm 3 0 0) (tPc B [vR 61, vI v1, vI v2] S I J) (tQi B (tPp S I J (V12_timeOf S I J v1 v2))) 0 0 (tA B) :=
  tEntry (by decide +kernel) [some (vR 61), some (vI v1), some (vI v2)] rfl rfl (Nat.le_of_ble_eq_true rfl) (fun K hl hR hO hQ hG => by
  subst hl
  refine gBk (pe := 1) hO [o0 (.iload_n 2)] (by decide +kernel) (show tWG K B 0 0 S I J 1 [some (vR 61), some (vI v1), some (vI v2)] [vI v2] from ?_)
  refine gIfNe hO (off := 7) (tgt := 8) (by decide +kernel) (by decide) (fun c1 => ?_) (fun c1 => ?_)
  · have h := h.1 c1
    refine gBk (pe := 11) hO [o0 (.aload_n 0), o0 (.iload_n 1), oI (.iconst 1) 1] (by decide +kernel) (show tWG K B 0 0 S I J 11 [some (vR 61), some (vI v1), some (vI v2)] [vI 1, vI v1, vR 61] from ?_)
    refine gCVi_p hO (M12_ofBend t0 h.1) hc12_ofBend (idx := 240) (w := 356) (by decide +kernel) hR (by omega) t0 ⟨by decide, rfl⟩ (vs := [vI v1, vI 1]) (st := []) ⟨rfl, Nat.le_of_ble_eq_true rfl, rfl⟩ (by decide +kernel) ?_
    have h := h.2
    refine gBk (pe := 19) hO [oI (.bipush 60) 60, o0 .imul, o0 (.iload_n 2), o0 .idiv] (by decide +kernel) (And.intro h.1 (show tWG K B 0 0 S I J 19 [some (vR 61), some (vI v1), some (vI v2)] [vI (((V12_ofBend S I J v1 1) * 60) / v2)] from ?_))
    have h := h.2
    exact gIret hO hQ (by decide +kernel) ⟨(Eq.symm (if_neg c1)), rfl⟩
  · have h := h.2 c1
    refine gBk (pe := 19) hO [oI (.iconst 0) 0, o0 (.goto 14)] (by decide +kernel) (show tWG K B 0 0 S I J 19 [some (vR 61), some (vI v1), some (vI v2)] [vI 0] from ?_)
    exact gIret hO hQ (by decide +kernel) ⟨(Eq.symm (if_pos c1)), rfl⟩)
set_option maxRecDepth 100000 in
theorem W12_quick_23 {K : tK} {B : tB} {S : tSH} {MC MS : Nat} (hO : tKO K B RX12 cX12_quick 4) (hR : kR K = tRm 9 MC MS) (hG : tGr S) {n : Nat} (t0 : ty S 61 12) {k : Int32 → tHI → tHJ → Prop} (hQ : tRet K B (tQi B (tPi S k)) 0 0 (some .int)) {I : tHI} {J : tHJ} (h : F12_quick_23 n S k I J) : tWG K B 0 0 S I J 23 [none, none, none, none] [] := by
  refine gBk (pe := 24) hO [oI (.iconst (-1)) (-1)] (by decide +kernel) (show tWG K B 0 0 S I J 24 [none, none, none, none] [vI (-1)] from ?_)
  exact gIret hO hQ (by decide +kernel) ⟨rfl, h⟩
set_option maxRecDepth 20000 in
theorem hc12_quick : tCV yX12_quick cX12_quick 4 (some .int) 2 := ⟨⟨(List.mem_of_getElem? (i := 1181) rfl), (List.mem_of_getElem? (i := 5) (by decide +kernel)), by decide +kernel⟩, (List.mem_of_getElem? (i := 1179) (by decide +kernel)), (List.mem_of_getElem? (i := 1180) (by decide +kernel))⟩
set_option maxRecDepth 100000 in
theorem M12_quick {l : Launch} {B : tB} {S : tSH} {I : tHI} {J : tHJ} {v1 : Int32} {v2 : Int32} {n : Nat} {k : Int32 → tHI → tHJ → Prop} (t0 : ty S 61 12) (h : F12_quick n S I J v1 v2 k) : Met l yX12_quick (tWs yX12_quick cX12_quick 4 (some .int)) (tRm 9 0 0) (tPc B [vR 61, vI v1, vI v2] S I J) (tQi B (tPi S k)) 0 0 (tA B) :=
  tEntry (by decide +kernel) [some (vR 61), some (vI v1), some (vI v2), none] rfl rfl (Nat.le_of_ble_eq_true rfl) (fun K hl hR hO hQ hG => by
  subst hl
  refine gBk (pe := 7) hO [o0 (.aload_n 0), oI (.iconst 0) 0, oF (.putfield 161) 12 0 316 0, o0 (.aload_n 0), o0 (.iload_n 1)] (by decide +kernel) (And.intro t0 (show tWG K B 0 0 S (uI I 61 0 0) J 7 [some (vR 61), some (vI v1), some (vI v2), none] [vI v1, vR 61] from ?_))
  refine gCVi_z hO (M12_isBend t0) hc12_isBend (idx := 220) (w := 352) (by decide +kernel) hR (by omega) t0 ⟨by decide, rfl⟩ (vs := [vI v1]) (st := []) ⟨rfl, Nat.le_of_ble_eq_true rfl, rfl⟩ (by decide +kernel) (fun z1 => ?_)
  refine gIfEq hO (off := 13) (tgt := 23) (by decide +kernel) (by decide) (fun c2 => ?_) (fun c2 => ?_)
  · have h := h.1 c2
    exact gWeak (L' := [none, none, none, none]) trivial (W12_quick_23 hO hR hG t0 hQ h)
  · have h := h.2 c2
    refine gBk (pe := 17) hO [o0 (.iload_n 2), o0 .i2l, oJ (.lconst 0) 0 0, oJ (.lconst 1) 0 1] (by decide +kernel) (show tWG K B 0 0 S (uI I 61 0 0) J 17 [some (vR 61), some (vI v1), some (vI v2), none] [vL 1, vL 0, vL v2.toInt64] from ?_)
    refine gCSi_z hO (M12_in) hc12_in (idx := 181) (w := 319) (by decide +kernel) hR (by omega) (vs := [vL v2.toInt64, vL 0, vL 1]) (st := []) ⟨rfl, Nat.le_of_ble_eq_true rfl, rfl⟩ (by decide +kernel) (fun z3 => ?_)
    refine gIfNe hO (off := 5) (tgt := 25) (by decide +kernel) (by decide) (fun c4 => ?_) (fun c4 => ?_)
    · have h := h.1 c4
      refine gBk (pe := 27) hO [o0 (.aload_n 0), o0 (.iload_n 1)] (by decide +kernel) (show tWG K B 0 0 S (uI I 61 0 0) J 27 [some (vR 61), some (vI v1), some (vI v2), none] [vI v1, vR 61] from ?_)
      refine gCVi_c hO (M12_quickest t0 h) hc12_quickest (idx := 481) (w := 1182) (by decide +kernel) hR (by omega) t0 ⟨by decide, rfl⟩ (vs := [vI v1]) (st := []) ⟨rfl, Nat.le_of_ble_eq_true rfl, rfl⟩ (by decide +kernel) (fun x7 I5 J6 h => ?_)
      refine gBk (pe := 32) hO [o0 (.istore_n 3), o0 (.iload_n 2)] (by decide +kernel) (And.intro (Nat.le_of_ble_eq_true rfl) (show tWG K B 0 0 S I5 J6 32 [some (vR 61), some (vI v1), some (vI v2), some (vI x7)] [vI v2] from ?_))
      have hj8 : ∀ (m9 : Int32), m9 = (if v2 = 0 then x7 else (V12_timeOf S I5 J6 v1 x7)) → tWG K B 0 0 S I5 J6 45 [none, none, none, none] [vI m9] := by
        intro m9 em9
        subst em9
        have h := h.2
        exact gIret hO hQ (by decide +kernel) ⟨rfl, h⟩
      have h := h.1
      refine gIfNe hO (off := 7) (tgt := 39) (by decide +kernel) (by decide) (fun c10 => ?_) (fun c10 => ?_)
      · have h := h.1 c10
        refine gBk (pe := 42) hO [o0 (.aload_n 0), o0 (.iload_n 1), o0 (.iload_n 3)] (by decide +kernel) (show tWG K B 0 0 S I5 J6 42 [some (vR 61), some (vI v1), some (vI v2), some (vI x7)] [vI x7, vI v1, vR 61] from ?_)
        refine gCVi_p hO (M12_timeOf t0 h.1) hc12_timeOf (idx := 484) (w := 1186) (by decide +kernel) hR (by omega) t0 ⟨by decide, rfl⟩ (vs := [vI v1, vI x7]) (st := []) ⟨rfl, Nat.le_of_ble_eq_true rfl, rfl⟩ (by decide +kernel) ?_
        have h := h.2
        exact gWeak (L' := [none, none, none, none]) trivial (hj8 _ (Eq.symm (if_neg c10)))
      · have h := h.2 c10
        refine gBk (pe := 45) hO [o0 (.iload_n 3), o0 (.goto 9)] (by decide +kernel) (show tWG K B 0 0 S I5 J6 45 [some (vR 61), some (vI v1), some (vI v2), some (vI x7)] [vI x7] from ?_)
        exact gWeak (L' := [none, none, none, none]) trivial (hj8 _ (Eq.symm (if_pos c10)))
    · have h := h.2 c4
      exact gWeak (L' := [none, none, none, none]) trivial (W12_quick_23 hO hR hG t0 hQ h))
set_option maxRecDepth 100000 in
theorem W12_leastFrom_104 {K : tK} {B : tB} {S : tSH} {MC MS : Nat} (hO : tKO K B RX12 cX12_leastFrom 6) (hR : kR K = tRm 2 MC MS) (hG : tGr S) {n : Nat} (t0 : ty S 61 12) {k : Int32 → tHI → tHJ → Prop} (hQ : tRet K B (tQi B (tPi S k)) 0 0 (some .int)) {I : tHI} {J : tHJ} {v3 : Int32} (h : F12_leastFrom_104 n S k I J v3) : tWG K B 0 0 S I J 104 [none, none, none, some (vI v3), none, none] [] := by
  refine gBk (pe := 105) hO [o0 (.iload_n 3)] (by decide +kernel) (show tWG K B 0 0 S I J 105 [none, none, none, some (vI v3), none, none] [vI v3] from ?_)
  exact gIret hO hQ (by decide +kernel) ⟨rfl, h⟩
set_option maxRecDepth 100000 in
theorem W12_leastFrom_23 {K : tK} {B : tB} {S : tSH} {MC MS : Nat} (hO : tKO K B RX12 cX12_leastFrom 6) (hR : kR K = tRm 2 MC MS) (hG : tGr S) {n : Nat} (t0 : ty S 61 12) {k : Int32 → tHI → tHJ → Prop} (hQ : tRet K B (tQi B (tPi S k)) 0 0 (some .int)) {kb23 : tHI → tHJ → Int32 → Int32 → Int32 → Int32 → Prop} (hkb23 : ∀ (I : tHI) (J : tHJ) (v1 : Int32) (v2 : Int32) (v3 : Int32) (v4 : Int32), kb23 I J v1 v2 v3 v4 → tWG K B 0 0 S I J 23 [some (vR 61), some (vI v1), some (vI v2), some (vI v3), some (vI v4), none] []) {I : tHI} {J : tHJ} {v1 : Int32} {v2 : Int32} {v3 : Int32} {v4 : Int32} (h : F12_leastFrom_23 n S k kb23 I J v1 v2 v3 v4) : tWG K B 0 0 S I J 23 [some (vR 61), some (vI v1), some (vI v2), some (vI v3), some (vI v4), none] [] := by
  refine gBk (pe := 27) hO [o0 (.iload 4), oI (.bipush 60) 60] (by decide +kernel) (show tWG K B 0 0 S I J 27 [some (vR 61), some (vI v1), some (vI v2), some (vI v3), some (vI v4), none] [vI 60, vI v4] from ?_)
  refine gIcGt hO (off := 77) (tgt := 104) (by decide +kernel) (by decide) (fun c4 => ?_) (fun c4 => ?_)
  · have h := h.1 c4
    exact gWeak (L' := [none, none, none, some (vI v3), none, none]) ⟨rfl, trivial⟩ (W12_leastFrom_104 hO hR hG t0 hQ h)
  · have h := h.2 c4
    refine gBk (pe := 39) hO [o0 (.iload_n 1), o0 (.aload_n 0), oF (.getfield 13) 12 3 179 63, oI (.iconst 1) 1, o0 .iaload, oI (.iconst 1) 1, o0 .isub] (by decide +kernel) (And.intro t0 (And.intro rfl (And.intro (tGr.off hG t0 (k := 3) rfl) (And.intro (tin (tGr.len hG t0 (k := 3) rfl (by decide)) (tvi (by decide +kernel))) (show tWG K B 0 0 S I J 39 [some (vR 61), some (vI v1), some (vI v2), some (vI v3), some (vI v4), none] [vI ((I 63 1) - 1), vI v1] from ?_)))))
    refine gIcGe hO (off := 65) (tgt := 104) (by decide +kernel) (by decide) (fun c5 => ?_) (fun c5 => ?_)
    · have h := h.1 c5
      exact gWeak (L' := [none, none, none, some (vI v3), none, none]) ⟨rfl, trivial⟩ (W12_leastFrom_104 hO hR hG t0 hQ h)
    · have h := h.2 c5
      refine gBk (pe := 52) hO [o0 (.iload 4), o0 (.iload_n 2), o0 (.aload_n 0), oF (.getfield 13) 12 3 179 63, oI (.iconst 5) 5, o0 .iaload, o0 .iadd] (by decide +kernel) (And.intro t0 (And.intro rfl (And.intro (tGr.off hG t0 (k := 3) rfl) (And.intro (tin (tGr.len hG t0 (k := 3) rfl (by decide)) (tvi (by decide +kernel))) (show tWG K B 0 0 S I J 52 [some (vR 61), some (vI v1), some (vI v2), some (vI v3), some (vI v4), none] [vI (v2 + (I 63 5)), vI v4] from ?_)))))
      have hj6 : ∀ (m7 : Int32), m7 = (if (v2 + (I 63 5)) < v4 then v3 else (if v4 < (v2 - (I 63 6)) then v3 else (if v3 ≤ (I 82 ((61 * (v1 + 1)) + v4).toNatClampNeg) then v3 else (I 82 ((61 * (v1 + 1)) + v4).toNatClampNeg)))) → tWG K B 0 0 S I J 98 [some (vR 61), some (vI v1), some (vI v2), some (vI m7), some (vI v4), none] [] := by
        intro m7 em7
        subst em7
        have h := h.2
        refine gBk (pe := 23) hO [oI (.iinc 4 1) 1, o0 (.goto (-78))] (by decide +kernel) (show tWG K B 0 0 S I J 23 [some (vR 61), some (vI v1), some (vI v2), some (vI (if (v2 + (I 63 5)) < v4 then v3 else (if v4 < (v2 - (I 63 6)) then v3 else (if v3 ≤ (I 82 ((61 * (v1 + 1)) + v4).toNatClampNeg) then v3 else (I 82 ((61 * (v1 + 1)) + v4).toNatClampNeg))))), some (vI (v4 + 1)), none] [] from ?_)
        exact hkb23 _ _ _ _ _ _ h
      have h := h.1
      refine gIcGt hO (off := 46) (tgt := 98) (by decide +kernel) (by decide) (fun c8 => ?_) (fun c8 => ?_)
      · have h := h.1 c8
        exact (hj6 _ (Eq.symm (if_pos c8)))
      · have h := h.2 c8
        refine gBk (pe := 66) hO [o0 (.iload 4), o0 (.iload_n 2), o0 (.aload_n 0), oF (.getfield 13) 12 3 179 63, oI (.bipush 6) 6, o0 .iaload, o0 .isub] (by decide +kernel) (And.intro t0 (And.intro rfl (And.intro (tGr.off hG t0 (k := 3) rfl) (And.intro (tin (tGr.len hG t0 (k := 3) rfl (by decide)) (tvi (by decide +kernel))) (show tWG K B 0 0 S I J 66 [some (vR 61), some (vI v1), some (vI v2), some (vI v3), some (vI v4), none] [vI (v2 - (I 63 6)), vI v4] from ?_)))))
        refine gIcLt hO (off := 32) (tgt := 98) (by decide +kernel) (by decide) (fun c9 => ?_) (fun c9 => ?_)
        · have h := h.1 c9
          exact (hj6 _ (Eq.symm ((if_neg c8).trans (if_pos c9))))
        · have h := h.2 c9
          refine gBk (pe := 88) hO [o0 (.aload_n 0), oF (.getfield 127) 12 45 225 82, oI (.bipush 61) 61, o0 (.iload_n 1), oI (.iconst 1) 1, o0 .iadd, o0 .imul, o0 (.iload 4), o0 .iadd, o0 .iaload, o0 (.istore 5), o0 (.iload 5), o0 (.iload_n 3)] (by decide +kernel) (And.intro t0 (And.intro rfl (And.intro (tGr.off hG t0 (k := 45) rfl) (And.intro (tin (tGr.len hG t0 (k := 45) rfl (by decide)) h.1) (And.intro (Nat.le_of_ble_eq_true rfl) (show tWG K B 0 0 S I J 88 [some (vR 61), some (vI v1), some (vI v2), some (vI v3), some (vI v4), some (vI (I 82 ((61 * (v1 + 1)) + v4).toNatClampNeg))] [vI v3, vI (I 82 ((61 * (v1 + 1)) + v4).toNatClampNeg)] from ?_))))))
          have h := h.2
          refine gIcGe hO (off := 8) (tgt := 96) (by decide +kernel) (by decide) (fun c10 => ?_) (fun c10 => ?_)
          · have h := h.1 c10
            refine gBk (pe := 98) hO [o0 (.iload_n 3), o0 (.istore_n 3)] (by decide +kernel) (And.intro (Nat.le_of_ble_eq_true rfl) (show tWG K B 0 0 S I J 98 [some (vR 61), some (vI v1), some (vI v2), some (vI v3), some (vI v4), some (vI (I 82 ((61 * (v1 + 1)) + v4).toNatClampNeg))] [] from ?_))
            exact gWeak (L' := [some (vR 61), some (vI v1), some (vI v2), some (vI v3), some (vI v4), none]) ⟨rfl, rfl, rfl, rfl, rfl, trivial⟩ (hj6 _ (Eq.symm ((if_neg c8).trans ((if_neg c9).trans (if_pos c10)))))
          · have h := h.2 c10
            refine gBk (pe := 98) hO [o0 (.iload 5), o0 (.goto 4), o0 (.istore_n 3)] (by decide +kernel) (And.intro (Nat.le_of_ble_eq_true rfl) (show tWG K B 0 0 S I J 98 [some (vR 61), some (vI v1), some (vI v2), some (vI (I 82 ((61 * (v1 + 1)) + v4).toNatClampNeg)), some (vI v4), some (vI (I 82 ((61 * (v1 + 1)) + v4).toNatClampNeg))] [] from ?_))
            exact gWeak (L' := [some (vR 61), some (vI v1), some (vI v2), some (vI (I 82 ((61 * (v1 + 1)) + v4).toNatClampNeg)), some (vI v4), none]) ⟨rfl, rfl, rfl, rfl, rfl, trivial⟩ (hj6 _ (Eq.symm ((if_neg c8).trans ((if_neg c9).trans (if_neg c10)))))
theorem W12_leastFrom_L23 {K : tK} {B : tB} {S : tSH} {MC MS : Nat} (hO : tKO K B RX12 cX12_leastFrom 6) (hR : kR K = tRm 2 MC MS) (hG : tGr S) {n : Nat} (t0 : ty S 61 12) {k : Int32 → tHI → tHJ → Prop} (hQ : tRet K B (tQi B (tPi S k)) 0 0 (some .int)) : ∀ (f : Nat) (I : tHI) (J : tHJ) (v1 : Int32) (v2 : Int32) (v3 : Int32) (v4 : Int32), F12_leastFrom_L23 n S k f I J v1 v2 v3 v4 → tWG K B 0 0 S I J 23 [some (vR 61), some (vI v1), some (vI v2), some (vI v3), some (vI v4), none] [] := by
  intro f
  induction f with
  | zero => intro I J v1 v2 v3 v4 h; exact h.elim
  | succ f ih => intro I J v1 v2 v3 v4 h; exact W12_leastFrom_23 hO hR hG t0 hQ ih h
set_option maxRecDepth 20000 in
theorem hc12_leastFrom : tCV yX12_leastFrom cX12_leastFrom 6 (some .int) 2 := ⟨⟨(List.mem_of_getElem? (i := 1228) rfl), (List.mem_of_getElem? (i := 5) (by decide +kernel)), by decide +kernel⟩, (List.mem_of_getElem? (i := 1226) (by decide +kernel)), (List.mem_of_getElem? (i := 1227) (by decide +kernel))⟩
set_option maxRecDepth 100000 in
theorem M12_leastFrom {l : Launch} {B : tB} {S : tSH} {I : tHI} {J : tHJ} {v1 : Int32} {v2 : Int32} {n : Nat} {k : Int32 → tHI → tHJ → Prop} (t0 : ty S 61 12) (h : F12_leastFrom n S I J v1 v2 k) : Met l yX12_leastFrom (tWs yX12_leastFrom cX12_leastFrom 6 (some .int)) (tRm 2 0 0) (tPc B [vR 61, vI v1, vI v2] S I J) (tQi B (tPi S k)) 0 0 (tA B) :=
  tEntry (by decide +kernel) [some (vR 61), some (vI v1), some (vI v2), none, none, none] rfl rfl (Nat.le_of_ble_eq_true rfl) (fun K hl hR hO hQ hG => by
  subst hl
  refine gBk (pe := 9) hO [o0 (.iload_n 1), o0 (.aload_n 0), oF (.getfield 13) 12 3 179 63, oI (.iconst 1) 1, o0 .iaload, oI (.iconst 1) 1, o0 .isub] (by decide +kernel) (And.intro t0 (And.intro rfl (And.intro (tGr.off hG t0 (k := 3) rfl) (And.intro (tin (tGr.len hG t0 (k := 3) rfl (by decide)) (tvi (by decide +kernel))) (show tWG K B 0 0 S I J 9 [some (vR 61), some (vI v1), some (vI v2), none, none, none] [vI ((I 63 1) - 1), vI v1] from ?_)))))
  have hj1 : ∀ (m2 : Int32), m2 = (if v1 = ((I 63 1) - 1) then (0 : Int32) else 100000000) → tWG K B 0 0 S I J 19 [some (vR 61), some (vI v1), some (vI v2), none, none, none] [vI m2] := by
    intro m2 em2
    subst em2
    refine gBk (pe := 23) hO [o0 (.istore_n 3), oI (.iconst 1) 1, o0 (.istore 4)] (by decide +kernel) (And.intro (Nat.le_of_ble_eq_true rfl) (And.intro (Nat.le_of_ble_eq_true rfl) (show tWG K B 0 0 S I J 23 [some (vR 61), some (vI v1), some (vI v2), some (vI (if v1 = ((I 63 1) - 1) then (0 : Int32) else 100000000)), some (vI 1), none] [] from ?_)))
    exact W12_leastFrom_L23 hO hR hG t0 hQ n _ _ _ _ _ _ h
  refine gIcNe hO (off := 7) (tgt := 16) (by decide +kernel) (by decide) (fun c3 => ?_) (fun c3 => ?_)
  · refine gBk (pe := 19) hO [(.ldc_w 467, (0, 0, 490, 0), 100000000, 0)] (by decide +kernel) (show tWG K B 0 0 S I J 19 [some (vR 61), some (vI v1), some (vI v2), none, none, none] [vI 100000000] from ?_)
    exact (hj1 _ (Eq.symm (if_neg c3)))
  · refine gBk (pe := 19) hO [oI (.iconst 0) 0, o0 (.goto 6)] (by decide +kernel) (show tWG K B 0 0 S I J 19 [some (vR 61), some (vI v1), some (vI v2), none, none, none] [vI 0] from ?_)
    exact (hj1 _ (Eq.symm (if_pos c3))))
set_option maxRecDepth 100000 in
theorem W12_findSoonest_70 {K : tK} {B : tB} {S : tSH} {MC MS : Nat} (hO : tKO K B RX12 cX12_findSoonest 4) (hR : kR K = tRm 9 MC MS) (hG : tGr S) {n : Nat} (t0 : ty S 61 12) {k : tHI → tHJ → Prop} (hQ : tRet K B (tQv B (tPv S k)) 0 0 none) {kb9 : tHI → tHJ → Int32 → Prop} (hkb9 : ∀ (I : tHI) (J : tHJ) (v1 : Int32), kb9 I J v1 → tWG K B 0 0 S I J 9 [some (vR 61), some (vI v1), none, none] []) {kb21 : tHI → tHJ → Int32 → Int32 → Int32 → Prop} (hkb21 : ∀ (I : tHI) (J : tHJ) (v1 : Int32) (v2 : Int32) (v3 : Int32), kb21 I J v1 v2 v3 → tWG K B 0 0 S I J 21 [some (vR 61), some (vI v1), some (vI v2), some (vI v3)] []) {I : tHI} {J : tHJ} {v1 : Int32} {v2 : Int32} {v3 : Int32} {s0 : Int32} {s1 : Int32} (h : F12_findSoonest_70 n S k kb9 kb21 I J v1 v2 v3 s0 s1) : tWG K B 0 0 S I J 70 [some (vR 61), some (vI v1), some (vI v2), some (vI v3)] [vI s0, vI s1, vR 82] := by
  refine gBk (pe := 21) hO [o0 .iastore, oI (.iinc 3 1) 1, o0 (.goto (-53))] (by decide +kernel) (And.intro (tGr.off hG t0 (k := 45) rfl) (And.intro (tin (tGr.len hG t0 (k := 45) rfl (by decide)) h.1) (show tWG K B 0 0 S (uI I 82 s1.toNatClampNeg s0) J 21 [some (vR 61), some (vI v1), some (vI v2), some (vI (v3 + 1))] [] from ?_)))
  have h := h.2
  exact hkb21 _ _ _ _ _ h
set_option maxRecDepth 100000 in
theorem W12_findSoonest_21 {K : tK} {B : tB} {S : tSH} {MC MS : Nat} (hO : tKO K B RX12 cX12_findSoonest 4) (hR : kR K = tRm 9 MC MS) (hG : tGr S) {n : Nat} (t0 : ty S 61 12) {k : tHI → tHJ → Prop} (hQ : tRet K B (tQv B (tPv S k)) 0 0 none) {kb9 : tHI → tHJ → Int32 → Prop} (hkb9 : ∀ (I : tHI) (J : tHJ) (v1 : Int32), kb9 I J v1 → tWG K B 0 0 S I J 9 [some (vR 61), some (vI v1), none, none] []) {kb21 : tHI → tHJ → Int32 → Int32 → Int32 → Prop} (hkb21 : ∀ (I : tHI) (J : tHJ) (v1 : Int32) (v2 : Int32) (v3 : Int32), kb21 I J v1 v2 v3 → tWG K B 0 0 S I J 21 [some (vR 61), some (vI v1), some (vI v2), some (vI v3)] []) {I : tHI} {J : tHJ} {v1 : Int32} {v2 : Int32} {v3 : Int32} (h : F12_findSoonest_21 n S k kb9 kb21 I J v1 v2 v3) : tWG K B 0 0 S I J 21 [some (vR 61), some (vI v1), some (vI v2), some (vI v3)] [] := by
  refine gBk (pe := 24) hO [o0 (.iload_n 3), oI (.bipush 60) 60] (by decide +kernel) (show tWG K B 0 0 S I J 24 [some (vR 61), some (vI v1), some (vI v2), some (vI v3)] [vI 60, vI v3] from ?_)
  refine gIcGt hO (off := 53) (tgt := 77) (by decide +kernel) (by decide) (fun c5 => ?_) (fun c5 => ?_)
  · have h := h.1 c5
    refine gBk (pe := 9) hO [oI (.iinc 1 (-1)) (-1), o0 (.goto (-71))] (by decide +kernel) (show tWG K B 0 0 S I J 9 [some (vR 61), some (vI (v1 + (-1))), some (vI v2), some (vI v3)] [] from ?_)
    exact gWeak (L' := [some (vR 61), some (vI (v1 + (-1))), none, none]) ⟨rfl, rfl, trivial⟩ (hkb9 _ _ _ h)
  · have h := h.2 c5
    refine gBk (pe := 39) hO [o0 (.aload_n 0), oF (.getfield 127) 12 45 225 82, oI (.bipush 61) 61, o0 (.iload_n 1), o0 .imul, o0 (.iload_n 3), o0 .iadd, o0 (.iload_n 3), o0 (.iload_n 2)] (by decide +kernel) (And.intro t0 (And.intro rfl (show tWG K B 0 0 S I J 39 [some (vR 61), some (vI v1), some (vI v2), some (vI v3)] [vI v2, vI v3, vI ((61 * v1) + v3), vR 82] from ?_)))
    refine gIcLe hO (off := 9) (tgt := 48) (by decide +kernel) (by decide) (fun c6 => ?_) (fun c6 => ?_)
    · have h := h.1 c6
      refine gBk (pe := 51) hO [o0 (.aload_n 0), o0 (.iload_n 1), o0 (.iload_n 3)] (by decide +kernel) (show tWG K B 0 0 S I J 51 [some (vR 61), some (vI v1), some (vI v2), some (vI v3)] [vI v3, vI v1, vR 61, vI ((61 * v1) + v3), vR 82] from ?_)
      refine gCVi_p hO (M12_timeOf t0 h.1) hc12_timeOf (idx := 484) (w := 1186) (by decide +kernel) hR (by omega) t0 ⟨by decide, rfl⟩ (vs := [vI v1, vI v3]) (st := [vI ((61 * v1) + v3), vR 82]) ⟨rfl, Nat.le_of_ble_eq_true rfl, rfl⟩ (by decide +kernel) ?_
      have h := h.2
      refine gBk (pe := 58) hO [o0 .i2l, o0 (.aload_n 0), o0 (.iload_n 1), o0 (.iload_n 3)] (by decide +kernel) (show tWG K B 0 0 S I J 58 [some (vR 61), some (vI v1), some (vI v2), some (vI v3)] [vI v3, vI v1, vR 61, vL ((V12_timeOf S I J v1 v3).toInt64), vI ((61 * v1) + v3), vR 82] from ?_)
      refine gCVi_c hO (M12_leastFrom t0 h) hc12_leastFrom (idx := 487) (w := 1225) (by decide +kernel) hR (by omega) t0 ⟨by decide, rfl⟩ (vs := [vI v1, vI v3]) (st := [vL ((V12_timeOf S I J v1 v3).toInt64), vI ((61 * v1) + v3), vR 82]) ⟨rfl, Nat.le_of_ble_eq_true rfl, rfl⟩ (by decide +kernel) (fun x9 I7 J8 h => ?_)
      refine gBk (pe := 64) hO [o0 .i2l, o0 .ladd, oI (.iconst 0) 0] (by decide +kernel) (show tWG K B 0 0 S I7 J8 64 [some (vR 61), some (vI v1), some (vI v2), some (vI v3)] [vI 0, vL ((V12_timeOf S I J v1 v3).toInt64 + x9.toInt64), vI ((61 * v1) + v3), vR 82] from ?_)
      refine gBk (pe := 67) hO [(.ldc_w 467, (0, 0, 490, 0), 100000000, 0)] (by decide +kernel) (show tWG K B 0 0 S I7 J8 67 [some (vR 61), some (vI v1), some (vI v2), some (vI v3)] [vI 100000000, vI 0, vL ((V12_timeOf S I J v1 v3).toInt64 + x9.toInt64), vI ((61 * v1) + v3), vR 82] from ?_)
      refine gCSi_p hO (M12_within) hc12_within (idx := 468) (w := 504) (by decide +kernel) hR (by omega) (vs := [vL ((V12_timeOf S I J v1 v3).toInt64 + x9.toInt64), vI 0, vI 100000000]) (st := [vI ((61 * v1) + v3), vR 82]) ⟨rfl, Nat.le_of_ble_eq_true rfl, rfl⟩ (by decide +kernel) ?_
      exact W12_findSoonest_70 hO hR hG t0 hQ hkb9 hkb21 h
    · have h := h.2 c6
      refine gBk (pe := 70) hO [(.ldc_w 467, (0, 0, 490, 0), 100000000, 0), o0 (.goto 25)] (by decide +kernel) (show tWG K B 0 0 S I J 70 [some (vR 61), some (vI v1), some (vI v2), some (vI v3)] [vI 100000000, vI ((61 * v1) + v3), vR 82] from ?_)
      exact W12_findSoonest_70 hO hR hG t0 hQ hkb9 hkb21 h
theorem W12_findSoonest_L21 {K : tK} {B : tB} {S : tSH} {MC MS : Nat} (hO : tKO K B RX12 cX12_findSoonest 4) (hR : kR K = tRm 9 MC MS) (hG : tGr S) {n : Nat} (t0 : ty S 61 12) {k : tHI → tHJ → Prop} (hQ : tRet K B (tQv B (tPv S k)) 0 0 none) {kb9 : tHI → tHJ → Int32 → Prop} (hkb9 : ∀ (I : tHI) (J : tHJ) (v1 : Int32), kb9 I J v1 → tWG K B 0 0 S I J 9 [some (vR 61), some (vI v1), none, none] []) : ∀ (f : Nat) (I : tHI) (J : tHJ) (v1 : Int32) (v2 : Int32) (v3 : Int32), F12_findSoonest_L21 n S k kb9 f I J v1 v2 v3 → tWG K B 0 0 S I J 21 [some (vR 61), some (vI v1), some (vI v2), some (vI v3)] [] := by
  intro f
  induction f with
  | zero => intro I J v1 v2 v3 h; exact h.elim
  | succ f ih => intro I J v1 v2 v3 h; exact W12_findSoonest_21 hO hR hG t0 hQ hkb9 ih h
set_option maxRecDepth 100000 in
theorem W12_findSoonest_9 {K : tK} {B : tB} {S : tSH} {MC MS : Nat} (hO : tKO K B RX12 cX12_findSoonest 4) (hR : kR K = tRm 9 MC MS) (hG : tGr S) {n : Nat} (t0 : ty S 61 12) {k : tHI → tHJ → Prop} (hQ : tRet K B (tQv B (tPv S k)) 0 0 none) {kb9 : tHI → tHJ → Int32 → Prop} (hkb9 : ∀ (I : tHI) (J : tHJ) (v1 : Int32), kb9 I J v1 → tWG K B 0 0 S I J 9 [some (vR 61), some (vI v1), none, none] []) {I : tHI} {J : tHJ} {v1 : Int32} (h : F12_findSoonest_9 n S k kb9 I J v1) : tWG K B 0 0 S I J 9 [some (vR 61), some (vI v1), none, none] [] := by
  refine gBk (pe := 10) hO [o0 (.iload_n 1)] (by decide +kernel) (show tWG K B 0 0 S I J 10 [some (vR 61), some (vI v1), none, none] [vI v1] from ?_)
  refine gIfLt hO (off := 73) (tgt := 83) (by decide +kernel) (by decide) (fun c1 => ?_) (fun c1 => ?_)
  · have h := h.1 c1
    exact gVret hO hQ (by decide +kernel) ⟨rfl, h⟩
  · have h := h.2 c1
    refine gBk (pe := 15) hO [o0 (.aload_n 0), o0 (.iload_n 1)] (by decide +kernel) (show tWG K B 0 0 S I J 15 [some (vR 61), some (vI v1), none, none] [vI v1, vR 61] from ?_)
    refine gCVi_c hO (M12_quickest t0 h) hc12_quickest (idx := 481) (w := 1182) (by decide +kernel) hR (by omega) t0 ⟨by decide, rfl⟩ (vs := [vI v1]) (st := []) ⟨rfl, Nat.le_of_ble_eq_true rfl, rfl⟩ (by decide +kernel) (fun x4 I2 J3 h => ?_)
    refine gBk (pe := 21) hO [o0 (.istore_n 2), oI (.iconst 1) 1, o0 (.istore_n 3)] (by decide +kernel) (And.intro (Nat.le_of_ble_eq_true rfl) (And.intro (Nat.le_of_ble_eq_true rfl) (show tWG K B 0 0 S I2 J3 21 [some (vR 61), some (vI v1), some (vI x4), some (vI 1)] [] from ?_)))
    exact W12_findSoonest_L21 hO hR hG t0 hQ hkb9 n _ _ _ _ _ h
theorem W12_findSoonest_L9 {K : tK} {B : tB} {S : tSH} {MC MS : Nat} (hO : tKO K B RX12 cX12_findSoonest 4) (hR : kR K = tRm 9 MC MS) (hG : tGr S) {n : Nat} (t0 : ty S 61 12) {k : tHI → tHJ → Prop} (hQ : tRet K B (tQv B (tPv S k)) 0 0 none) : ∀ (f : Nat) (I : tHI) (J : tHJ) (v1 : Int32), F12_findSoonest_L9 n S k f I J v1 → tWG K B 0 0 S I J 9 [some (vR 61), some (vI v1), none, none] [] := by
  intro f
  induction f with
  | zero => intro I J v1 h; exact h.elim
  | succ f ih => intro I J v1 h; exact W12_findSoonest_9 hO hR hG t0 hQ ih h
set_option maxRecDepth 20000 in
theorem hc12_findSoonest : tCV yX12_findSoonest cX12_findSoonest 4 none 0 := ⟨⟨(List.mem_of_getElem? (i := 1224) rfl), (List.mem_of_getElem? (i := 5) (by decide +kernel)), by decide +kernel⟩, (List.mem_of_getElem? (i := 1222) (by decide +kernel)), (List.mem_of_getElem? (i := 1223) (by decide +kernel))⟩
set_option maxRecDepth 100000 in
theorem M12_findSoonest {l : Launch} {B : tB} {S : tSH} {I : tHI} {J : tHJ} {n : Nat} {k : tHI → tHJ → Prop} (t0 : ty S 61 12) (h : F12_findSoonest n S I J k) : Met l yX12_findSoonest (tWs yX12_findSoonest cX12_findSoonest 4 none) (tRm 9 0 0) (tPc B [vR 61] S I J) (tQv B (tPv S k)) 0 0 (tA B) :=
  tEntry (by decide +kernel) [some (vR 61), none, none, none] rfl rfl (Nat.le_of_ble_eq_true rfl) (fun K hl hR hO hQ hG => by
  subst hl
  refine gBk (pe := 9) hO [o0 (.aload_n 0), oF (.getfield 13) 12 3 179 63, oI (.iconst 1) 1, o0 .iaload, oI (.iconst 1) 1, o0 .isub, o0 (.istore_n 1)] (by decide +kernel) (And.intro t0 (And.intro rfl (And.intro (tGr.off hG t0 (k := 3) rfl) (And.intro (tin (tGr.len hG t0 (k := 3) rfl (by decide)) (tvi (by decide +kernel))) (And.intro (Nat.le_of_ble_eq_true rfl) (show tWG K B 0 0 S I J 9 [some (vR 61), some (vI ((I 63 1) - 1)), none, none] [] from ?_))))))
  exact W12_findSoonest_L9 hO hR hG t0 hQ n _ _ _ h)
set_option maxRecDepth 100000 in
theorem W12_soonest_94 {K : tK} {B : tB} {S : tSH} {MC MS : Nat} (hO : tKO K B RX12 cX12_soonest 7) (hR : kR K = tRm 10 MC MS) (hG : tGr S) {n : Nat} (t0 : ty S 61 12) {k : Int32 → tHI → tHJ → Prop} (hQ : tRet K B (tQi B (tPi S k)) 0 0 (some .int)) {I : tHI} {J : tHJ} {v3 : Int32} (h : F12_soonest_94 n S k I J v3) : tWG K B 0 0 S I J 94 [none, none, none, some (vI v3), none, none, none] [] := by
  refine gBk (pe := 95) hO [o0 (.iload_n 3)] (by decide +kernel) (show tWG K B 0 0 S I J 95 [none, none, none, some (vI v3), none, none, none] [vI v3] from ?_)
  refine gBk (pe := 98) hO [(.ldc_w 467, (0, 0, 490, 0), 100000000, 0)] (by decide +kernel) (show tWG K B 0 0 S I J 98 [none, none, none, some (vI v3), none, none, none] [vI 100000000, vI v3] from ?_)
  have hj8 : ∀ (m9 : Int32), m9 = (if v3 = 100000000 then (-1) else v3) → tWG K B 0 0 S I J 106 [none, none, none, none, none, none, none] [vI m9] := by
    intro m9 em9
    subst em9
    exact gIret hO hQ (by decide +kernel) ⟨rfl, h⟩
  refine gIcNe hO (off := 7) (tgt := 105) (by decide +kernel) (by decide) (fun c10 => ?_) (fun c10 => ?_)
  · refine gBk (pe := 106) hO [o0 (.iload_n 3)] (by decide +kernel) (show tWG K B 0 0 S I J 106 [none, none, none, some (vI v3), none, none, none] [vI v3] from ?_)
    exact gWeak (L' := [none, none, none, none, none, none, none]) trivial (hj8 _ (Eq.symm (if_neg c10)))
  · refine gBk (pe := 106) hO [oI (.iconst (-1)) (-1), o0 (.goto 4)] (by decide +kernel) (show tWG K B 0 0 S I J 106 [none, none, none, some (vI v3), none, none, none] [vI (-1)] from ?_)
    exact gWeak (L' := [none, none, none, none, none, none, none]) trivial (hj8 _ (Eq.symm (if_pos c10)))
set_option maxRecDepth 100000 in
theorem W12_soonest_174 {K : tK} {B : tB} {S : tSH} {MC MS : Nat} (hO : tKO K B RX12 cX12_soonest 7) (hR : kR K = tRm 10 MC MS) (hG : tGr S) {n : Nat} (t0 : ty S 61 12) {k : Int32 → tHI → tHJ → Prop} (hQ : tRet K B (tQi B (tPi S k)) 0 0 (some .int)) {kb113 : tHI → tHJ → Int32 → Int32 → Int32 → Int32 → Prop} (hkb113 : ∀ (I : tHI) (J : tHJ) (v1 : Int32) (v3 : Int32) (v4 : Int32) (v5 : Int32), kb113 I J v1 v3 v4 v5 → tWG K B 0 0 S I J 113 [some (vR 61), some (vI v1), none, some (vI v3), some (vI v4), some (vI v5), none] []) {kb122 : tHI → tHJ → Int32 → Int32 → Int32 → Int32 → Int32 → Prop} (hkb122 : ∀ (I : tHI) (J : tHJ) (v1 : Int32) (v3 : Int32) (v4 : Int32) (v5 : Int32) (v6 : Int32), kb122 I J v1 v3 v4 v5 v6 → tWG K B 0 0 S I J 122 [some (vR 61), some (vI v1), none, some (vI v3), some (vI v4), some (vI v5), some (vI v6)] []) {I : tHI} {J : tHJ} {v1 : Int32} {v3 : Int32} {v4 : Int32} {v5 : Int32} {v6 : Int32} (h : F12_soonest_174 n S k kb113 kb122 I J v1 v3 v4 v5 v6) : tWG K B 0 0 S I J 174 [some (vR 61), some (vI v1), none, some (vI v3), some (vI v4), some (vI v5), some (vI v6)] [] := by
  refine gBk (pe := 122) hO [oI (.iinc 6 1) 1, o0 (.goto (-55))] (by decide +kernel) (show tWG K B 0 0 S I J 122 [some (vR 61), some (vI v1), none, some (vI v3), some (vI v4), some (vI v5), some (vI (v6 + 1))] [] from ?_)
  exact hkb122 _ _ _ _ _ _ _ h
set_option maxRecDepth 100000 in
theorem W12_soonest_180 {K : tK} {B : tB} {S : tSH} {MC MS : Nat} (hO : tKO K B RX12 cX12_soonest 7) (hR : kR K = tRm 10 MC MS) (hG : tGr S) {n : Nat} (t0 : ty S 61 12) {k : Int32 → tHI → tHJ → Prop} (hQ : tRet K B (tQi B (tPi S k)) 0 0 (some .int)) {kb113 : tHI → tHJ → Int32 → Int32 → Int32 → Int32 → Prop} (hkb113 : ∀ (I : tHI) (J : tHJ) (v1 : Int32) (v3 : Int32) (v4 : Int32) (v5 : Int32), kb113 I J v1 v3 v4 v5 → tWG K B 0 0 S I J 113 [some (vR 61), some (vI v1), none, some (vI v3), some (vI v4), some (vI v5), none] []) {I : tHI} {J : tHJ} {v1 : Int32} {v3 : Int32} {v5 : Int32} {v6 : Int32} (h : F12_soonest_180 n S k kb113 I J v1 v3 v5 v6) : tWG K B 0 0 S I J 180 [some (vR 61), some (vI v1), none, some (vI v3), none, some (vI v5), some (vI v6)] [] := by
  refine gBk (pe := 190) hO [o0 (.iload 6), o0 (.istore 4), o0 (.iload_n 3), o0 (.aload_n 0), o0 (.iload 5), o0 (.iload 6)] (by decide +kernel) (And.intro (Nat.le_of_ble_eq_true rfl) (show tWG K B 0 0 S I J 190 [some (vR 61), some (vI v1), none, some (vI v3), some (vI v6), some (vI v5), some (vI v6)] [vI v6, vI v5, vR 61, vI v3] from ?_))
  refine gCVi_p hO (M12_timeOf t0 h.1) hc12_timeOf (idx := 484) (w := 1186) (by decide +kernel) hR (by omega) t0 ⟨by decide, rfl⟩ (vs := [vI v5, vI v6]) (st := [vI v3]) ⟨rfl, Nat.le_of_ble_eq_true rfl, rfl⟩ (by decide +kernel) ?_
  have h := h.2
  refine gBk (pe := 113) hO [o0 .isub, o0 (.istore_n 3), oI (.iinc 5 1) 1, o0 (.goto (-85))] (by decide +kernel) (And.intro (Nat.le_of_ble_eq_true rfl) (show tWG K B 0 0 S I J 113 [some (vR 61), some (vI v1), none, some (vI (v3 - (V12_timeOf S I J v5 v6))), some (vI v6), some (vI (v5 + 1)), some (vI v6)] [] from ?_))
  exact gWeak (L' := [some (vR 61), some (vI v1), none, some (vI (v3 - (V12_timeOf S I J v5 v6))), some (vI v6), some (vI (v5 + 1)), none]) ⟨rfl, rfl, rfl, rfl, rfl, trivial⟩ (hkb113 _ _ _ _ _ _ h)
set_option maxRecDepth 100000 in
theorem W12_soonest_122 {K : tK} {B : tB} {S : tSH} {MC MS : Nat} (hO : tKO K B RX12 cX12_soonest 7) (hR : kR K = tRm 10 MC MS) (hG : tGr S) {n : Nat} (t0 : ty S 61 12) {k : Int32 → tHI → tHJ → Prop} (hQ : tRet K B (tQi B (tPi S k)) 0 0 (some .int)) {kb113 : tHI → tHJ → Int32 → Int32 → Int32 → Int32 → Prop} (hkb113 : ∀ (I : tHI) (J : tHJ) (v1 : Int32) (v3 : Int32) (v4 : Int32) (v5 : Int32), kb113 I J v1 v3 v4 v5 → tWG K B 0 0 S I J 113 [some (vR 61), some (vI v1), none, some (vI v3), some (vI v4), some (vI v5), none] []) {kb122 : tHI → tHJ → Int32 → Int32 → Int32 → Int32 → Int32 → Prop} (hkb122 : ∀ (I : tHI) (J : tHJ) (v1 : Int32) (v3 : Int32) (v4 : Int32) (v5 : Int32) (v6 : Int32), kb122 I J v1 v3 v4 v5 v6 → tWG K B 0 0 S I J 122 [some (vR 61), some (vI v1), none, some (vI v3), some (vI v4), some (vI v5), some (vI v6)] []) {I : tHI} {J : tHJ} {v1 : Int32} {v3 : Int32} {v4 : Int32} {v5 : Int32} {v6 : Int32} (h : F12_soonest_122 n S k kb113 kb122 I J v1 v3 v4 v5 v6) : tWG K B 0 0 S I J 122 [some (vR 61), some (vI v1), none, some (vI v3), some (vI v4), some (vI v5), some (vI v6)] [] := by
  refine gBk (pe := 136) hO [o0 (.aload_n 0), oF (.getfield 127) 12 45 225 82, oI (.bipush 61) 61, o0 (.iload 5), o0 .imul, o0 (.iload 6), o0 .iadd, o0 .iaload, o0 (.iload_n 3)] (by decide +kernel) (And.intro t0 (And.intro rfl (And.intro (tGr.off hG t0 (k := 45) rfl) (And.intro (tin (tGr.len hG t0 (k := 45) rfl (by decide)) h.1) (show tWG K B 0 0 S I J 136 [some (vR 61), some (vI v1), none, some (vI v3), some (vI v4), some (vI v5), some (vI v6)] [vI v3, vI (I 82 ((61 * v5) + v6).toNatClampNeg)] from ?_)))))
  have h := h.2
  refine gIcNe hO (off := 38) (tgt := 174) (by decide +kernel) (by decide) (fun c13 => ?_) (fun c13 => ?_)
  · have h := h.1 c13
    exact W12_soonest_174 hO hR hG t0 hQ hkb113 hkb122 h
  · have h := h.2 c13
    refine gBk (pe := 142) hO [o0 (.iload 4), oI (.iconst (-1)) (-1)] (by decide +kernel) (show tWG K B 0 0 S I J 142 [some (vR 61), some (vI v1), none, some (vI v3), some (vI v4), some (vI v5), some (vI v6)] [vI (-1), vI v4] from ?_)
    refine gIcEq hO (off := 38) (tgt := 180) (by decide +kernel) (by decide) (fun c14 => ?_) (fun c14 => ?_)
    · have h := h.1 c14
      exact gWeak (L' := [some (vR 61), some (vI v1), none, some (vI v3), none, some (vI v5), some (vI v6)]) ⟨rfl, rfl, rfl, rfl, rfl, trivial⟩ (W12_soonest_180 hO hR hG t0 hQ hkb113 h)
    · have h := h.2 c14
      refine gBk (pe := 156) hO [o0 (.iload 6), o0 (.iload 4), o0 (.aload_n 0), oF (.getfield 13) 12 3 179 63, oI (.iconst 5) 5, o0 .iaload, o0 .iadd] (by decide +kernel) (And.intro t0 (And.intro rfl (And.intro (tGr.off hG t0 (k := 3) rfl) (And.intro (tin (tGr.len hG t0 (k := 3) rfl (by decide)) (tvi (by decide +kernel))) (show tWG K B 0 0 S I J 156 [some (vR 61), some (vI v1), none, some (vI v3), some (vI v4), some (vI v5), some (vI v6)] [vI (v4 + (I 63 5)), vI v6] from ?_)))))
      refine gIcGt hO (off := 18) (tgt := 174) (by decide +kernel) (by decide) (fun c15 => ?_) (fun c15 => ?_)
      · have h := h.1 c15
        exact W12_soonest_174 hO hR hG t0 hQ hkb113 hkb122 h
      · have h := h.2 c15
        refine gBk (pe := 171) hO [o0 (.iload 6), o0 (.iload 4), o0 (.aload_n 0), oF (.getfield 13) 12 3 179 63, oI (.bipush 6) 6, o0 .iaload, o0 .isub] (by decide +kernel) (And.intro t0 (And.intro rfl (And.intro (tGr.off hG t0 (k := 3) rfl) (And.intro (tin (tGr.len hG t0 (k := 3) rfl (by decide)) (tvi (by decide +kernel))) (show tWG K B 0 0 S I J 171 [some (vR 61), some (vI v1), none, some (vI v3), some (vI v4), some (vI v5), some (vI v6)] [vI (v4 - (I 63 6)), vI v6] from ?_)))))
        refine gIcGe hO (off := 9) (tgt := 180) (by decide +kernel) (by decide) (fun c16 => ?_) (fun c16 => ?_)
        · have h := h.1 c16
          exact gWeak (L' := [some (vR 61), some (vI v1), none, some (vI v3), none, some (vI v5), some (vI v6)]) ⟨rfl, rfl, rfl, rfl, rfl, trivial⟩ (W12_soonest_180 hO hR hG t0 hQ hkb113 h)
        · have h := h.2 c16
          exact W12_soonest_174 hO hR hG t0 hQ hkb113 hkb122 h
theorem W12_soonest_L122 {K : tK} {B : tB} {S : tSH} {MC MS : Nat} (hO : tKO K B RX12 cX12_soonest 7) (hR : kR K = tRm 10 MC MS) (hG : tGr S) {n : Nat} (t0 : ty S 61 12) {k : Int32 → tHI → tHJ → Prop} (hQ : tRet K B (tQi B (tPi S k)) 0 0 (some .int)) {kb113 : tHI → tHJ → Int32 → Int32 → Int32 → Int32 → Prop} (hkb113 : ∀ (I : tHI) (J : tHJ) (v1 : Int32) (v3 : Int32) (v4 : Int32) (v5 : Int32), kb113 I J v1 v3 v4 v5 → tWG K B 0 0 S I J 113 [some (vR 61), some (vI v1), none, some (vI v3), some (vI v4), some (vI v5), none] []) : ∀ (f : Nat) (I : tHI) (J : tHJ) (v1 : Int32) (v3 : Int32) (v4 : Int32) (v5 : Int32) (v6 : Int32), F12_soonest_L122 n S k kb113 f I J v1 v3 v4 v5 v6 → tWG K B 0 0 S I J 122 [some (vR 61), some (vI v1), none, some (vI v3), some (vI v4), some (vI v5), some (vI v6)] [] := by
  intro f
  induction f with
  | zero => intro I J v1 v3 v4 v5 v6 h; exact h.elim
  | succ f ih => intro I J v1 v3 v4 v5 v6 h; exact W12_soonest_122 hO hR hG t0 hQ hkb113 ih h
set_option maxRecDepth 100000 in
theorem W12_soonest_113 {K : tK} {B : tB} {S : tSH} {MC MS : Nat} (hO : tKO K B RX12 cX12_soonest 7) (hR : kR K = tRm 10 MC MS) (hG : tGr S) {n : Nat} (t0 : ty S 61 12) {k : Int32 → tHI → tHJ → Prop} (hQ : tRet K B (tQi B (tPi S k)) 0 0 (some .int)) {kb113 : tHI → tHJ → Int32 → Int32 → Int32 → Int32 → Prop} (hkb113 : ∀ (I : tHI) (J : tHJ) (v1 : Int32) (v3 : Int32) (v4 : Int32) (v5 : Int32), kb113 I J v1 v3 v4 v5 → tWG K B 0 0 S I J 113 [some (vR 61), some (vI v1), none, some (vI v3), some (vI v4), some (vI v5), none] []) {I : tHI} {J : tHJ} {v1 : Int32} {v3 : Int32} {v4 : Int32} {v5 : Int32} (h : F12_soonest_113 n S k kb113 I J v1 v3 v4 v5) : tWG K B 0 0 S I J 113 [some (vR 61), some (vI v1), none, some (vI v3), some (vI v4), some (vI v5), none] [] := by
  refine gBk (pe := 116) hO [o0 (.iload 5), o0 (.iload_n 1)] (by decide +kernel) (show tWG K B 0 0 S I J 116 [some (vR 61), some (vI v1), none, some (vI v3), some (vI v4), some (vI v5), none] [vI v1, vI v5] from ?_)
  refine gIcGt hO (off := 85) (tgt := 201) (by decide +kernel) (by decide) (fun c12 => ?_) (fun c12 => ?_)
  · have h := h.1 c12
    refine gBk (pe := 203) hO [o0 (.iload 4)] (by decide +kernel) (show tWG K B 0 0 S I J 203 [some (vR 61), some (vI v1), none, some (vI v3), some (vI v4), some (vI v5), none] [vI v4] from ?_)
    exact gIret hO hQ (by decide +kernel) ⟨rfl, h⟩
  · have h := h.2 c12
    refine gBk (pe := 122) hO [oI (.iconst 1) 1, o0 (.istore 6)] (by decide +kernel) (And.intro (Nat.le_of_ble_eq_true rfl) (show tWG K B 0 0 S I J 122 [some (vR 61), some (vI v1), none, some (vI v3), some (vI v4), some (vI v5), some (vI 1)] [] from ?_))
    exact W12_soonest_L122 hO hR hG t0 hQ hkb113 n _ _ _ _ _ _ _ h
theorem W12_soonest_L113 {K : tK} {B : tB} {S : tSH} {MC MS : Nat} (hO : tKO K B RX12 cX12_soonest 7) (hR : kR K = tRm 10 MC MS) (hG : tGr S) {n : Nat} (t0 : ty S 61 12) {k : Int32 → tHI → tHJ → Prop} (hQ : tRet K B (tQi B (tPi S k)) 0 0 (some .int)) : ∀ (f : Nat) (I : tHI) (J : tHJ) (v1 : Int32) (v3 : Int32) (v4 : Int32) (v5 : Int32), F12_soonest_L113 n S k f I J v1 v3 v4 v5 → tWG K B 0 0 S I J 113 [some (vR 61), some (vI v1), none, some (vI v3), some (vI v4), some (vI v5), none] [] := by
  intro f
  induction f with
  | zero => intro I J v1 v3 v4 v5 h; exact h.elim
  | succ f ih => intro I J v1 v3 v4 v5 h; exact W12_soonest_113 hO hR hG t0 hQ ih h
set_option maxRecDepth 100000 in
theorem W12_soonest_46 {K : tK} {B : tB} {S : tSH} {MC MS : Nat} (hO : tKO K B RX12 cX12_soonest 7) (hR : kR K = tRm 10 MC MS) (hG : tGr S) {n : Nat} (t0 : ty S 61 12) {k : Int32 → tHI → tHJ → Prop} (hQ : tRet K B (tQi B (tPi S k)) 0 0 (some .int)) {kb46 : tHI → tHJ → Int32 → Int32 → Int32 → Prop} (hkb46 : ∀ (I : tHI) (J : tHJ) (v1 : Int32) (v3 : Int32) (v4 : Int32), kb46 I J v1 v3 v4 → tWG K B 0 0 S I J 46 [some (vR 61), some (vI v1), none, some (vI v3), some (vI v4), none, none] []) {I : tHI} {J : tHJ} {v1 : Int32} {v3 : Int32} {v4 : Int32} (h : F12_soonest_46 n S k kb46 I J v1 v3 v4) : tWG K B 0 0 S I J 46 [some (vR 61), some (vI v1), none, some (vI v3), some (vI v4), none, none] [] := by
  refine gBk (pe := 50) hO [o0 (.iload 4), oI (.bipush 60) 60] (by decide +kernel) (show tWG K B 0 0 S I J 50 [some (vR 61), some (vI v1), none, some (vI v3), some (vI v4), none, none] [vI 60, vI v4] from ?_)
  refine gIcGt hO (off := 32) (tgt := 82) (by decide +kernel) (by decide) (fun c6 => ?_) (fun c6 => ?_)
  · have h := h.1 c6
    refine gBk (pe := 83) hO [o0 (.iload_n 3)] (by decide +kernel) (show tWG K B 0 0 S I J 83 [some (vR 61), some (vI v1), none, some (vI v3), some (vI v4), none, none] [vI v3] from ?_)
    refine gBk (pe := 86) hO [(.ldc_w 467, (0, 0, 490, 0), 100000000, 0)] (by decide +kernel) (show tWG K B 0 0 S I J 86 [some (vR 61), some (vI v1), none, some (vI v3), some (vI v4), none, none] [vI 100000000, vI v3] from ?_)
    refine gIcEq hO (off := 8) (tgt := 94) (by decide +kernel) (by decide) (fun c7 => ?_) (fun c7 => ?_)
    · have h := h.1 c7
      exact gWeak (L' := [none, none, none, some (vI v3), none, none, none]) ⟨rfl, trivial⟩ (W12_soonest_94 hO hR hG t0 hQ h)
    · have h := h.2 c7
      refine gBk (pe := 91) hO [o0 (.iload_n 1), oI (.iconst (-1)) (-1)] (by decide +kernel) (show tWG K B 0 0 S I J 91 [some (vR 61), some (vI v1), none, some (vI v3), some (vI v4), none, none] [vI (-1), vI v1] from ?_)
      refine gIcNe hO (off := 16) (tgt := 107) (by decide +kernel) (by decide) (fun c11 => ?_) (fun c11 => ?_)
      · have h := h.1 c11
        refine gBk (pe := 113) hO [oI (.iconst (-1)) (-1), o0 (.istore 4), oI (.iconst 0) 0, o0 (.istore 5)] (by decide +kernel) (And.intro (Nat.le_of_ble_eq_true rfl) (And.intro (Nat.le_of_ble_eq_true rfl) (show tWG K B 0 0 S I J 113 [some (vR 61), some (vI v1), none, some (vI v3), some (vI (-1)), some (vI 0), none] [] from ?_)))
        exact W12_soonest_L113 hO hR hG t0 hQ n _ _ _ _ _ _ h
      · have h := h.2 c11
        exact gWeak (L' := [none, none, none, some (vI v3), none, none, none]) ⟨rfl, trivial⟩ (W12_soonest_94 hO hR hG t0 hQ h)
  · have h := h.2 c6
    refine gBk (pe := 61) hO [o0 (.aload_n 0), oF (.getfield 127) 12 45 225 82, o0 (.iload 4), o0 .iaload, o0 (.iload_n 3)] (by decide +kernel) (And.intro t0 (And.intro rfl (And.intro (tGr.off hG t0 (k := 45) rfl) (And.intro (tin (tGr.len hG t0 (k := 45) rfl (by decide)) h.1) (show tWG K B 0 0 S I J 61 [some (vR 61), some (vI v1), none, some (vI v3), some (vI v4), none, none] [vI v3, vI (I 82 v4.toNatClampNeg)] from ?_)))))
    have h := h.2
    have hj17 : ∀ (m18 : Int32), m18 = (if v3 ≤ (I 82 v4.toNatClampNeg) then v3 else (I 82 v4.toNatClampNeg)) → tWG K B 0 0 S I J 75 [some (vR 61), some (vI v1), none, none, some (vI v4), none, none] [vI m18] := by
      intro m18 em18
      subst em18
      have h := h.2
      refine gBk (pe := 46) hO [o0 (.istore_n 3), oI (.iinc 4 1) 1, o0 (.goto (-33))] (by decide +kernel) (And.intro (Nat.le_of_ble_eq_true rfl) (show tWG K B 0 0 S I J 46 [some (vR 61), some (vI v1), none, some (vI (if v3 ≤ (I 82 v4.toNatClampNeg) then v3 else (I 82 v4.toNatClampNeg))), some (vI (v4 + 1)), none, none] [] from ?_))
      exact hkb46 _ _ _ _ _ h
    have h := h.1
    refine gIcGe hO (off := 13) (tgt := 74) (by decide +kernel) (by decide) (fun c19 => ?_) (fun c19 => ?_)
    · have h := h.1 c19
      refine gBk (pe := 75) hO [o0 (.iload_n 3)] (by decide +kernel) (show tWG K B 0 0 S I J 75 [some (vR 61), some (vI v1), none, some (vI v3), some (vI v4), none, none] [vI v3] from ?_)
      exact gWeak (L' := [some (vR 61), some (vI v1), none, none, some (vI v4), none, none]) ⟨rfl, rfl, rfl, trivial⟩ (hj17 _ (Eq.symm (if_pos c19)))
    · have h := h.2 c19
      refine gBk (pe := 75) hO [o0 (.aload_n 0), oF (.getfield 127) 12 45 225 82, o0 (.iload 4), o0 .iaload, o0 (.goto 4)] (by decide +kernel) (And.intro t0 (And.intro rfl (And.intro (tGr.off hG t0 (k := 45) rfl) (And.intro (tin (tGr.len hG t0 (k := 45) rfl (by decide)) h.1) (show tWG K B 0 0 S I J 75 [some (vR 61), some (vI v1), none, some (vI v3), some (vI v4), none, none] [vI (I 82 v4.toNatClampNeg)] from ?_)))))
      have h := h.2
      exact gWeak (L' := [some (vR 61), some (vI v1), none, none, some (vI v4), none, none]) ⟨rfl, rfl, rfl, trivial⟩ (hj17 _ (Eq.symm (if_neg c19)))
theorem W12_soonest_L46 {K : tK} {B : tB} {S : tSH} {MC MS : Nat} (hO : tKO K B RX12 cX12_soonest 7) (hR : kR K = tRm 10 MC MS) (hG : tGr S) {n : Nat} (t0 : ty S 61 12) {k : Int32 → tHI → tHJ → Prop} (hQ : tRet K B (tQi B (tPi S k)) 0 0 (some .int)) : ∀ (f : Nat) (I : tHI) (J : tHJ) (v1 : Int32) (v3 : Int32) (v4 : Int32), F12_soonest_L46 n S k f I J v1 v3 v4 → tWG K B 0 0 S I J 46 [some (vR 61), some (vI v1), none, some (vI v3), some (vI v4), none, none] [] := by
  intro f
  induction f with
  | zero => intro I J v1 v3 v4 h; exact h.elim
  | succ f ih => intro I J v1 v3 v4 h; exact W12_soonest_46 hO hR hG t0 hQ ih h
set_option maxRecDepth 20000 in
theorem hc12_soonest : tCV yX12_soonest cX12_soonest 7 (some .int) 1 := ⟨⟨(List.mem_of_getElem? (i := 1220) rfl), (List.mem_of_getElem? (i := 5) (by decide +kernel)), by decide +kernel⟩, (List.mem_of_getElem? (i := 1218) (by decide +kernel)), (List.mem_of_getElem? (i := 1219) (by decide +kernel))⟩
set_option maxRecDepth 100000 in
theorem M12_soonest {l : Launch} {B : tB} {S : tSH} {I : tHI} {J : tHJ} {v1 : Int32} {n : Nat} {k : Int32 → tHI → tHJ → Prop} (t0 : ty S 61 12) (h : F12_soonest n S I J v1 k) : Met l yX12_soonest (tWs yX12_soonest cX12_soonest 7 (some .int)) (tRm 10 0 0) (tPc B [vR 61, vI v1] S I J) (tQi B (tPi S k)) 0 0 (tA B) :=
  tEntry (by decide +kernel) [some (vR 61), some (vI v1), none, none, none, none, none] rfl rfl (Nat.le_of_ble_eq_true rfl) (fun K hl hR hO hQ hG => by
  subst hl
  refine gBk (pe := 14) hO [o0 (.aload_n 0), oI (.iconst 0) 0, oF (.putfield 161) 12 0 316 0, o0 (.aload_n 0), oF (.getfield 13) 12 3 179 63, oI (.iconst 1) 1, o0 .iaload, o0 (.istore_n 2), o0 (.iload_n 1), o0 .i2l] (by decide +kernel) (And.intro t0 (And.intro t0 (And.intro rfl (And.intro (tGr.off hG t0 (k := 3) rfl) (And.intro (tin (tGr.len hG t0 (k := 3) rfl (by decide)) (tvi (by decide +kernel))) (And.intro (Nat.le_of_ble_eq_true rfl) (show tWG K B 0 0 S (uI I 61 0 0) J 14 [some (vR 61), some (vI v1), some (vI ((uI I 61 0 0) 63 1)), none, none, none, none] [vL v1.toInt64] from ?_)))))))
  refine gBk (pe := 21) hO [(.ldc2_w 288, (0, 0, 331, 0), 0, (-1)), o0 (.iload_n 2), o0 .i2l, oJ (.lconst 1) 0 1, o0 .lsub] (by decide +kernel) (show tWG K B 0 0 S (uI I 61 0 0) J 21 [some (vR 61), some (vI v1), some (vI ((uI I 61 0 0) 63 1)), none, none, none, none] [vL (((uI I 61 0 0) 63 1).toInt64 - 1), vL (-1), vL v1.toInt64] from ?_)
  refine gCSi_z hO (M12_in) hc12_in (idx := 181) (w := 319) (by decide +kernel) hR (by omega) (vs := [vL v1.toInt64, vL (-1), vL (((uI I 61 0 0) 63 1).toInt64 - 1)]) (st := []) ⟨rfl, Nat.le_of_ble_eq_true rfl, rfl⟩ (by decide +kernel) (fun z1 => ?_)
  refine gIfNe hO (off := 5) (tgt := 29) (by decide +kernel) (by decide) (fun c2 => ?_) (fun c2 => ?_)
  · have h := h.1 c2
    refine gBk (pe := 30) hO [o0 (.iload_n 2)] (by decide +kernel) (show tWG K B 0 0 S (uI I 61 0 0) J 30 [some (vR 61), some (vI v1), some (vI ((uI I 61 0 0) 63 1)), none, none, none, none] [vI ((uI I 61 0 0) 63 1)] from ?_)
    refine gIfNe hO (off := 5) (tgt := 35) (by decide +kernel) (by decide) (fun c3 => ?_) (fun c3 => ?_)
    · have h := h.1 c3
      refine gBk (pe := 36) hO [o0 (.aload_n 0)] (by decide +kernel) (show tWG K B 0 0 S (uI I 61 0 0) J 36 [some (vR 61), some (vI v1), some (vI ((uI I 61 0 0) 63 1)), none, none, none, none] [vR 61] from ?_)
      refine gCVv_c hO (M12_findSoonest t0 h) hc12_findSoonest (idx := 490) (w := 1221) (by decide +kernel) hR (by omega) t0 ⟨by decide, rfl⟩ (vs := []) (st := []) ⟨rfl, Nat.le_of_ble_eq_true rfl, rfl⟩ (by decide +kernel) (fun I4 J5 h => ?_)
      refine gBk (pe := 46) hO [(.ldc_w 467, (0, 0, 490, 0), 100000000, 0), o0 (.istore_n 3), oI (.iconst 1) 1, o0 (.istore 4)] (by decide +kernel) (And.intro (Nat.le_of_ble_eq_true rfl) (And.intro (Nat.le_of_ble_eq_true rfl) (show tWG K B 0 0 S I4 J5 46 [some (vR 61), some (vI v1), some (vI ((uI I 61 0 0) 63 1)), some (vI 100000000), some (vI 1), none, none] [] from ?_)))
      exact gWeak (L' := [some (vR 61), some (vI v1), none, some (vI 100000000), some (vI 1), none, none]) ⟨rfl, rfl, rfl, rfl, trivial⟩ (W12_soonest_L46 hO hR hG t0 hQ n _ _ _ _ _ h)
    · have h := h.2 c3
      refine gBk (pe := 34) hO [oI (.iconst 0) 0] (by decide +kernel) (show tWG K B 0 0 S (uI I 61 0 0) J 34 [some (vR 61), some (vI v1), some (vI ((uI I 61 0 0) 63 1)), none, none, none, none] [vI 0] from ?_)
      exact gIret hO hQ (by decide +kernel) ⟨rfl, h⟩
  · have h := h.2 c2
    refine gBk (pe := 28) hO [oI (.iconst (-1)) (-1)] (by decide +kernel) (show tWG K B 0 0 S (uI I 61 0 0) J 28 [some (vR 61), some (vI v1), some (vI ((uI I 61 0 0) 63 1)), none, none, none, none] [vI (-1)] from ?_)
    exact gIret hO hQ (by decide +kernel) ⟨rfl, h⟩)
set_option maxRecDepth 100000 in
theorem W12_holesUnder_5 {K : tK} {B : tB} {S : tSH} {MC MS : Nat} (hO : tKO K B RX12 cX12_holesUnder 5) (hR : kR K = tRm 3 MC MS) (hG : tGr S) {n : Nat} (t0 : ty S 61 12) {k : Int32 → tHI → tHJ → Prop} (hQ : tRet K B (tQi B (tPi S k)) 0 0 (some .int)) {kb5 : tHI → tHJ → Int32 → Int32 → Int32 → Int32 → Prop} (hkb5 : ∀ (I : tHI) (J : tHJ) (v1 : Int32) (v2 : Int32) (v3 : Int32) (v4 : Int32), kb5 I J v1 v2 v3 v4 → tWG K B 0 0 S I J 5 [some (vR 61), some (vI v1), some (vI v2), some (vI v3), some (vI v4)] []) {I : tHI} {J : tHJ} {v1 : Int32} {v2 : Int32} {v3 : Int32} {v4 : Int32} (h : F12_holesUnder_5 n S k kb5 I J v1 v2 v3 v4) : tWG K B 0 0 S I J 5 [some (vR 61), some (vI v1), some (vI v2), some (vI v3), some (vI v4)] [] := by
  refine gBk (pe := 8) hO [o0 (.iload 4), oI (.iconst 3) 3] (by decide +kernel) (show tWG K B 0 0 S I J 8 [some (vR 61), some (vI v1), some (vI v2), some (vI v3), some (vI v4)] [vI 3, vI v4] from ?_)
  refine gIcGe hO (off := 25) (tgt := 33) (by decide +kernel) (by decide) (fun c1 => ?_) (fun c1 => ?_)
  · have h := h.1 c1
    refine gBk (pe := 34) hO [o0 (.iload_n 3)] (by decide +kernel) (show tWG K B 0 0 S I J 34 [some (vR 61), some (vI v1), some (vI v2), some (vI v3), some (vI v4)] [vI v3] from ?_)
    exact gIret hO hQ (by decide +kernel) ⟨rfl, h⟩
  · have h := h.2 c1
    refine gBk (pe := 15) hO [o0 (.iload_n 3), o0 (.aload_n 0), o0 (.iload_n 1), oI (.iconst 3) 3] (by decide +kernel) (show tWG K B 0 0 S I J 15 [some (vR 61), some (vI v1), some (vI v2), some (vI v3), some (vI v4)] [vI 3, vI v1, vR 61, vI v3] from ?_)
    refine gCVi_p hO (M12_ofBend t0 h.1) hc12_ofBend (idx := 240) (w := 356) (by decide +kernel) hR (by omega) t0 ⟨by decide, rfl⟩ (vs := [vI v1, vI 3]) (st := [vI v3]) ⟨rfl, Nat.le_of_ble_eq_true rfl, rfl⟩ (by decide +kernel) ?_
    have h := h.2
    refine gBk (pe := 5) hO [o0 (.iload_n 2), o0 (.iload 4), o0 .iadd, o0 .ishr, oI (.iconst 1) 1, o0 .iand, o0 .iadd, o0 (.istore_n 3), oI (.iinc 4 1) 1, o0 (.goto (-25))] (by decide +kernel) (And.intro (Nat.le_of_ble_eq_true rfl) (show tWG K B 0 0 S I J 5 [some (vR 61), some (vI v1), some (vI v2), some (vI (v3 + (((V12_ofBend S I J v1 3) >>> ((v2 + v4) &&& 31)) &&& 1))), some (vI (v4 + 1))] [] from ?_))
    exact hkb5 _ _ _ _ _ _ h
theorem W12_holesUnder_L5 {K : tK} {B : tB} {S : tSH} {MC MS : Nat} (hO : tKO K B RX12 cX12_holesUnder 5) (hR : kR K = tRm 3 MC MS) (hG : tGr S) {n : Nat} (t0 : ty S 61 12) {k : Int32 → tHI → tHJ → Prop} (hQ : tRet K B (tQi B (tPi S k)) 0 0 (some .int)) : ∀ (f : Nat) (I : tHI) (J : tHJ) (v1 : Int32) (v2 : Int32) (v3 : Int32) (v4 : Int32), F12_holesUnder_L5 n S k f I J v1 v2 v3 v4 → tWG K B 0 0 S I J 5 [some (vR 61), some (vI v1), some (vI v2), some (vI v3), some (vI v4)] [] := by
  intro f
  induction f with
  | zero => intro I J v1 v2 v3 v4 h; exact h.elim
  | succ f ih => intro I J v1 v2 v3 v4 h; exact W12_holesUnder_5 hO hR hG t0 hQ ih h
set_option maxRecDepth 20000 in
theorem hc12_holesUnder : tCV yX12_holesUnder cX12_holesUnder 5 (some .int) 2 := ⟨⟨(List.mem_of_getElem? (i := 1264) rfl), (List.mem_of_getElem? (i := 5) (by decide +kernel)), by decide +kernel⟩, (List.mem_of_getElem? (i := 1262) (by decide +kernel)), (List.mem_of_getElem? (i := 1263) (by decide +kernel))⟩
set_option maxRecDepth 100000 in
theorem M12_holesUnder {l : Launch} {B : tB} {S : tSH} {I : tHI} {J : tHJ} {v1 : Int32} {v2 : Int32} {n : Nat} {k : Int32 → tHI → tHJ → Prop} (t0 : ty S 61 12) (h : F12_holesUnder n S I J v1 v2 k) : Met l yX12_holesUnder (tWs yX12_holesUnder cX12_holesUnder 5 (some .int)) (tRm 3 0 0) (tPc B [vR 61, vI v1, vI v2] S I J) (tQi B (tPi S k)) 0 0 (tA B) :=
  tEntry (by decide +kernel) [some (vR 61), some (vI v1), some (vI v2), none, none] rfl rfl (Nat.le_of_ble_eq_true rfl) (fun K hl hR hO hQ hG => by
  subst hl
  refine gBk (pe := 5) hO [oI (.iconst 0) 0, o0 (.istore_n 3), oI (.iconst 0) 0, o0 (.istore 4)] (by decide +kernel) (And.intro (Nat.le_of_ble_eq_true rfl) (And.intro (Nat.le_of_ble_eq_true rfl) (show tWG K B 0 0 S I J 5 [some (vR 61), some (vI v1), some (vI v2), some (vI 0), some (vI 0)] [] from ?_)))
  exact W12_holesUnder_L5 hO hR hG t0 hQ n _ _ _ _ _ _ h)
set_option maxRecDepth 20000 in
theorem hc12_isBeside : tCm yX12_isBeside cX12_isBeside 2 (some .boolean) 2 ∧ Cond.static yX12_isBeside ∈ wsL_law := ⟨⟨(List.mem_of_getElem? (i := 1033) rfl), (List.mem_of_getElem? (i := 5) (by decide +kernel)), by decide +kernel⟩, (List.mem_of_getElem? (i := 1032) (by decide +kernel))⟩
set_option maxRecDepth 100000 in
theorem M12_isBeside {l : Launch} {B : tB} {S : tSH} {I : tHI} {J : tHJ} {v0 : Int32} {v1 : Int32} : Met l yX12_isBeside (tWs yX12_isBeside cX12_isBeside 2 (some .boolean)) (tRm 3 0 0) (tPc B [vI v0, vI v1] S I J) (tQi B (tPz S I J (V12_isBeside v0 v1))) 0 0 (tA B) :=
  tEntry (by decide +kernel) [some (vI v0), some (vI v1)] rfl rfl (Nat.le_of_ble_eq_true rfl) (fun K hl hR hO hQ hG => by
  subst hl
  refine gBk (pe := 4) hO [o0 (.iload_n 0), o0 (.iload_n 1), o0 .isub, o0 .i2l] (by decide +kernel) (show tWG K B 0 0 S I J 4 [some (vI v0), some (vI v1)] [vL ((v0 - v1).toInt64)] from ?_)
  refine gBk (pe := 8) hO [(.ldc2_w 288, (0, 0, 331, 0), 0, (-1)), oJ (.lconst 1) 0 1] (by decide +kernel) (show tWG K B 0 0 S I J 8 [some (vI v0), some (vI v1)] [vL 1, vL (-1), vL ((v0 - v1).toInt64)] from ?_)
  refine gCSi_z hO (M12_in) hc12_in (idx := 181) (w := 319) (by decide +kernel) hR (by omega) (vs := [vL ((v0 - v1).toInt64), vL (-1), vL 1]) (st := []) ⟨rfl, Nat.le_of_ble_eq_true rfl, rfl⟩ (by decide +kernel) (fun z1 => ?_)
  exact gZret hO hQ (by decide +kernel) (Z12_in ((v0 - v1).toInt64) (-1) 1) ⟨rfl, (Z12_in ((v0 - v1).toInt64) (-1) 1), rfl⟩)
set_option maxRecDepth 20000 in
theorem hc12_laneFrom : tCV yX12_laneFrom cX12_laneFrom 4 (some .int) 3 := ⟨⟨(List.mem_of_getElem? (i := 1272) rfl), (List.mem_of_getElem? (i := 5) (by decide +kernel)), by decide +kernel⟩, (List.mem_of_getElem? (i := 1270) (by decide +kernel)), (List.mem_of_getElem? (i := 1271) (by decide +kernel))⟩
set_option maxRecDepth 100000 in
theorem M12_laneFrom {l : Launch} {B : tB} {S : tSH} {I : tHI} {J : tHJ} {v1 : Int32} {v2 : Int32} {v3 : Int32} (t0 : ty S 61 12) (h : P12_laneFrom S I J v1 v2 v3) : Met l yX12_laneFrom (tWs yX12_laneFrom cX12_laneFrom 4 (some .int)) (tRm 4 0 0) (tPc B [vR 61, vI v1, vI v2, vI v3] S I J) (tQi B (tPp S I J (V12_laneFrom S I J v1 v2 v3))) 0 0 (tA B) :=
  tEntry (by decide +kernel) [some (vR 61), some (vI v1), some (vI v2), some (vI v3)] rfl rfl (Nat.le_of_ble_eq_true rfl) (fun K hl hR hO hQ hG => by
  subst hl
  refine gBk (pe := 2) hO [o0 (.iload_n 2), o0 (.iload_n 3)] (by decide +kernel) (show tWG K B 0 0 S I J 2 [some (vR 61), some (vI v1), some (vI v2), some (vI v3)] [vI v3, vI v2] from ?_)
  refine gCSi_z hO (M12_isBeside) hc12_isBeside (idx := 493) (w := 1031) (by decide +kernel) hR (by omega) (vs := [vI v2, vI v3]) (st := []) ⟨rfl, Nat.le_of_ble_eq_true rfl, rfl⟩ (by decide +kernel) (fun z1 => ?_)
  refine gIfEq hO (off := 27) (tgt := 32) (by decide +kernel) (by decide) (fun c2 => ?_) (fun c2 => ?_)
  · have h := h.1 c2
    refine gBk (pe := 35) hO [(.ldc_w 467, (0, 0, 490, 0), 100000000, 0)] (by decide +kernel) (show tWG K B 0 0 S I J 35 [some (vR 61), some (vI v1), some (vI v2), some (vI v3)] [vI 100000000] from ?_)
    exact gIret hO hQ (by decide +kernel) ⟨(Eq.symm (if_pos c2)), rfl⟩
  · have h := h.2 c2
    refine gBk (pe := 20) hO [o0 (.aload_n 0), oF (.getfield 130) 12 46 226 83, oI (.iconst 3) 3, o0 (.iload_n 1), o0 .imul, o0 (.iload_n 3), o0 .iadd, o0 .iaload, o0 (.iload_n 2), o0 (.iload_n 3)] (by decide +kernel) (And.intro t0 (And.intro rfl (And.intro (tGr.off hG t0 (k := 46) rfl) (And.intro (tin (tGr.len hG t0 (k := 46) rfl (by decide)) h.1) (show tWG K B 0 0 S I J 20 [some (vR 61), some (vI v1), some (vI v2), some (vI v3)] [vI v3, vI v2, vI (I 83 ((3 * v1) + v3).toNatClampNeg)] from ?_)))))
    have h := h.2
    refine gIcNe hO (off := 7) (tgt := 27) (by decide +kernel) (by decide) (fun c3 => ?_) (fun c3 => ?_)
    · have h := h.1 c3
      refine gBk (pe := 35) hO [oI (.iconst 1) 1, o0 .iadd, o0 (.goto 6)] (by decide +kernel) (show tWG K B 0 0 S I J 35 [some (vR 61), some (vI v1), some (vI v2), some (vI v3)] [vI ((I 83 ((3 * v1) + v3).toNatClampNeg) + 1)] from ?_)
      exact gIret hO hQ (by decide +kernel) ⟨(Eq.symm ((if_neg c2).trans (if_neg c3))), rfl⟩
    · have h := h.2 c3
      refine gBk (pe := 35) hO [oI (.iconst 0) 0, o0 (.goto 4), o0 .iadd, o0 (.goto 6)] (by decide +kernel) (show tWG K B 0 0 S I J 35 [some (vR 61), some (vI v1), some (vI v2), some (vI v3)] [vI ((I 83 ((3 * v1) + v3).toNatClampNeg) + 0)] from ?_)
      exact gIret hO hQ (by decide +kernel) ⟨(Eq.symm ((if_neg c2).trans (if_pos c3))), rfl⟩)
set_option maxRecDepth 100000 in
theorem W12_leastLane_7 {K : tK} {B : tB} {S : tSH} {MC MS : Nat} (hO : tKO K B RX12 cX12_leastLane 6) (hR : kR K = tRm 5 MC MS) (hG : tGr S) {n : Nat} (t0 : ty S 61 12) {k : Int32 → tHI → tHJ → Prop} (hQ : tRet K B (tQi B (tPi S k)) 0 0 (some .int)) {kb7 : tHI → tHJ → Int32 → Int32 → Int32 → Int32 → Prop} (hkb7 : ∀ (I : tHI) (J : tHJ) (v1 : Int32) (v2 : Int32) (v3 : Int32) (v4 : Int32), kb7 I J v1 v2 v3 v4 → tWG K B 0 0 S I J 7 [some (vR 61), some (vI v1), some (vI v2), some (vI v3), some (vI v4), none] []) {I : tHI} {J : tHJ} {v1 : Int32} {v2 : Int32} {v3 : Int32} {v4 : Int32} (h : F12_leastLane_7 n S k kb7 I J v1 v2 v3 v4) : tWG K B 0 0 S I J 7 [some (vR 61), some (vI v1), some (vI v2), some (vI v3), some (vI v4), none] [] := by
  refine gBk (pe := 10) hO [o0 (.iload 4), oI (.iconst 3) 3] (by decide +kernel) (show tWG K B 0 0 S I J 10 [some (vR 61), some (vI v1), some (vI v2), some (vI v3), some (vI v4), none] [vI 3, vI v4] from ?_)
  refine gIcGe hO (off := 32) (tgt := 42) (by decide +kernel) (by decide) (fun c1 => ?_) (fun c1 => ?_)
  · have h := h.1 c1
    refine gBk (pe := 43) hO [o0 (.iload_n 3)] (by decide +kernel) (show tWG K B 0 0 S I J 43 [some (vR 61), some (vI v1), some (vI v2), some (vI v3), some (vI v4), none] [vI v3] from ?_)
    exact gIret hO hQ (by decide +kernel) ⟨rfl, h⟩
  · have h := h.2 c1
    refine gBk (pe := 18) hO [o0 (.aload_n 0), o0 (.iload_n 1), o0 (.iload_n 2), o0 (.iload 4)] (by decide +kernel) (show tWG K B 0 0 S I J 18 [some (vR 61), some (vI v1), some (vI v2), some (vI v3), some (vI v4), none] [vI v4, vI v2, vI v1, vR 61] from ?_)
    refine gCVi_p hO (M12_laneFrom t0 h.1) hc12_laneFrom (idx := 496) (w := 1269) (by decide +kernel) hR (by omega) t0 ⟨by decide, rfl⟩ (vs := [vI v1, vI v2, vI v4]) (st := []) ⟨rfl, Nat.le_of_ble_eq_true rfl, rfl⟩ (by decide +kernel) ?_
    have h := h.2
    refine gBk (pe := 26) hO [o0 (.istore 5), o0 (.iload 5), o0 (.iload_n 3)] (by decide +kernel) (And.intro (Nat.le_of_ble_eq_true rfl) (show tWG K B 0 0 S I J 26 [some (vR 61), some (vI v1), some (vI v2), some (vI v3), some (vI v4), some (vI (V12_laneFrom S I J v1 v2 v4))] [vI v3, vI (V12_laneFrom S I J v1 v2 v4)] from ?_))
    have hj2 : ∀ (m3 : Int32), m3 = (if v3 ≤ (V12_laneFrom S I J v1 v2 v4) then v3 else (V12_laneFrom S I J v1 v2 v4)) → tWG K B 0 0 S I J 35 [some (vR 61), some (vI v1), some (vI v2), none, some (vI v4), none] [vI m3] := by
      intro m3 em3
      subst em3
      refine gBk (pe := 7) hO [o0 (.istore_n 3), oI (.iinc 4 1) 1, o0 (.goto (-32))] (by decide +kernel) (And.intro (Nat.le_of_ble_eq_true rfl) (show tWG K B 0 0 S I J 7 [some (vR 61), some (vI v1), some (vI v2), some (vI (if v3 ≤ (V12_laneFrom S I J v1 v2 v4) then v3 else (V12_laneFrom S I J v1 v2 v4))), some (vI (v4 + 1)), none] [] from ?_))
      exact hkb7 _ _ _ _ _ _ h
    refine gIcGe hO (off := 8) (tgt := 34) (by decide +kernel) (by decide) (fun c4 => ?_) (fun c4 => ?_)
    · refine gBk (pe := 35) hO [o0 (.iload_n 3)] (by decide +kernel) (show tWG K B 0 0 S I J 35 [some (vR 61), some (vI v1), some (vI v2), some (vI v3), some (vI v4), some (vI (V12_laneFrom S I J v1 v2 v4))] [vI v3] from ?_)
      exact gWeak (L' := [some (vR 61), some (vI v1), some (vI v2), none, some (vI v4), none]) ⟨rfl, rfl, rfl, rfl, trivial⟩ (hj2 _ (Eq.symm (if_pos c4)))
    · refine gBk (pe := 35) hO [o0 (.iload 5), o0 (.goto 4)] (by decide +kernel) (show tWG K B 0 0 S I J 35 [some (vR 61), some (vI v1), some (vI v2), some (vI v3), some (vI v4), some (vI (V12_laneFrom S I J v1 v2 v4))] [vI (V12_laneFrom S I J v1 v2 v4)] from ?_)
      exact gWeak (L' := [some (vR 61), some (vI v1), some (vI v2), none, some (vI v4), none]) ⟨rfl, rfl, rfl, rfl, trivial⟩ (hj2 _ (Eq.symm (if_neg c4)))
theorem W12_leastLane_L7 {K : tK} {B : tB} {S : tSH} {MC MS : Nat} (hO : tKO K B RX12 cX12_leastLane 6) (hR : kR K = tRm 5 MC MS) (hG : tGr S) {n : Nat} (t0 : ty S 61 12) {k : Int32 → tHI → tHJ → Prop} (hQ : tRet K B (tQi B (tPi S k)) 0 0 (some .int)) : ∀ (f : Nat) (I : tHI) (J : tHJ) (v1 : Int32) (v2 : Int32) (v3 : Int32) (v4 : Int32), F12_leastLane_L7 n S k f I J v1 v2 v3 v4 → tWG K B 0 0 S I J 7 [some (vR 61), some (vI v1), some (vI v2), some (vI v3), some (vI v4), none] [] := by
  intro f
  induction f with
  | zero => intro I J v1 v2 v3 v4 h; exact h.elim
  | succ f ih => intro I J v1 v2 v3 v4 h; exact W12_leastLane_7 hO hR hG t0 hQ ih h
set_option maxRecDepth 20000 in
theorem hc12_leastLane : tCV yX12_leastLane cX12_leastLane 6 (some .int) 2 := ⟨⟨(List.mem_of_getElem? (i := 1268) rfl), (List.mem_of_getElem? (i := 5) (by decide +kernel)), by decide +kernel⟩, (List.mem_of_getElem? (i := 1266) (by decide +kernel)), (List.mem_of_getElem? (i := 1267) (by decide +kernel))⟩
set_option maxRecDepth 100000 in
theorem M12_leastLane {l : Launch} {B : tB} {S : tSH} {I : tHI} {J : tHJ} {v1 : Int32} {v2 : Int32} {n : Nat} {k : Int32 → tHI → tHJ → Prop} (t0 : ty S 61 12) (h : F12_leastLane n S I J v1 v2 k) : Met l yX12_leastLane (tWs yX12_leastLane cX12_leastLane 6 (some .int)) (tRm 5 0 0) (tPc B [vR 61, vI v1, vI v2] S I J) (tQi B (tPi S k)) 0 0 (tA B) :=
  tEntry (by decide +kernel) [some (vR 61), some (vI v1), some (vI v2), none, none, none] rfl rfl (Nat.le_of_ble_eq_true rfl) (fun K hl hR hO hQ hG => by
  subst hl
  refine gBk (pe := 7) hO [(.ldc_w 467, (0, 0, 490, 0), 100000000, 0), o0 (.istore_n 3), oI (.iconst 0) 0, o0 (.istore 4)] (by decide +kernel) (And.intro (Nat.le_of_ble_eq_true rfl) (And.intro (Nat.le_of_ble_eq_true rfl) (show tWG K B 0 0 S I J 7 [some (vR 61), some (vI v1), some (vI v2), some (vI 100000000), some (vI 0), none] [] from ?_)))
  exact W12_leastLane_L7 hO hR hG t0 hQ n _ _ _ _ _ _ h)
set_option maxRecDepth 100000 in
theorem W12_lanes_173 {K : tK} {B : tB} {S : tSH} {MC MS : Nat} (hO : tKO K B RX12 cX12_lanes 8) (hR : kR K = tRm 6 MC MS) (hG : tGr S) {n : Nat} (t0 : ty S 61 12) {k : Int32 → tHI → tHJ → Prop} (hQ : tRet K B (tQi B (tPi S k)) 0 0 (some .int)) {kb152 : tHI → tHJ → Int32 → Int32 → Int32 → Prop} (hkb152 : ∀ (I : tHI) (J : tHJ) (v1 : Int32) (v4 : Int32) (v5 : Int32), kb152 I J v1 v4 v5 → tWG K B 0 0 S I J 152 [some (vR 61), some (vI v1), none, none, some (vI v4), some (vI v5), none, none] []) {kb173 : tHI → tHJ → Int32 → Int32 → Int32 → Int32 → Int32 → Prop} (hkb173 : ∀ (I : tHI) (J : tHJ) (v1 : Int32) (v4 : Int32) (v5 : Int32) (v6 : Int32) (v7 : Int32), kb173 I J v1 v4 v5 v6 v7 → tWG K B 0 0 S I J 173 [some (vR 61), some (vI v1), none, none, some (vI v4), some (vI v5), some (vI v6), some (vI v7)] []) {I : tHI} {J : tHJ} {v1 : Int32} {v4 : Int32} {v5 : Int32} {v6 : Int32} {v7 : Int32} (h : F12_lanes_173 n S k kb152 kb173 I J v1 v4 v5 v6 v7) : tWG K B 0 0 S I J 173 [some (vR 61), some (vI v1), none, none, some (vI v4), some (vI v5), some (vI v6), some (vI v7)] [] := by
  refine gBk (pe := 180) hO [o0 (.aload_n 0), o0 (.iload 5), o0 (.iload 4), o0 (.iload 7)] (by decide +kernel) (show tWG K B 0 0 S I J 180 [some (vR 61), some (vI v1), none, none, some (vI v4), some (vI v5), some (vI v6), some (vI v7)] [vI v7, vI v4, vI v5, vR 61] from ?_)
  refine gCVi_p hO (M12_laneFrom t0 h.1) hc12_laneFrom (idx := 496) (w := 1269) (by decide +kernel) hR (by omega) t0 ⟨by decide, rfl⟩ (vs := [vI v5, vI v4, vI v7]) (st := []) ⟨rfl, Nat.le_of_ble_eq_true rfl, rfl⟩ (by decide +kernel) ?_
  have h := h.2
  refine gBk (pe := 185) hO [o0 (.iload 6)] (by decide +kernel) (show tWG K B 0 0 S I J 185 [some (vR 61), some (vI v1), none, none, some (vI v4), some (vI v5), some (vI v6), some (vI v7)] [vI v6, vI (V12_laneFrom S I J v5 v4 v7)] from ?_)
  refine gIcEq hO (off := 9) (tgt := 194) (by decide +kernel) (by decide) (fun c13 => ?_) (fun c13 => ?_)
  · have h := h.1 c13
    refine gBk (pe := 152) hO [o0 (.iload 7), o0 (.istore 4), oI (.iinc 5 1) 1, o0 (.goto (-49))] (by decide +kernel) (And.intro (Nat.le_of_ble_eq_true rfl) (show tWG K B 0 0 S I J 152 [some (vR 61), some (vI v1), none, none, some (vI v7), some (vI (v5 + 1)), some (vI v6), some (vI v7)] [] from ?_))
    exact gWeak (L' := [some (vR 61), some (vI v1), none, none, some (vI v7), some (vI (v5 + 1)), none, none]) ⟨rfl, rfl, rfl, rfl, trivial⟩ (hkb152 _ _ _ _ _ h)
  · have h := h.2 c13
    refine gBk (pe := 173) hO [oI (.iinc 7 1) 1, o0 (.goto (-18))] (by decide +kernel) (show tWG K B 0 0 S I J 173 [some (vR 61), some (vI v1), none, none, some (vI v4), some (vI v5), some (vI v6), some (vI (v7 + 1))] [] from ?_)
    exact hkb173 _ _ _ _ _ _ _ h
theorem W12_lanes_L173 {K : tK} {B : tB} {S : tSH} {MC MS : Nat} (hO : tKO K B RX12 cX12_lanes 8) (hR : kR K = tRm 6 MC MS) (hG : tGr S) {n : Nat} (t0 : ty S 61 12) {k : Int32 → tHI → tHJ → Prop} (hQ : tRet K B (tQi B (tPi S k)) 0 0 (some .int)) {kb152 : tHI → tHJ → Int32 → Int32 → Int32 → Prop} (hkb152 : ∀ (I : tHI) (J : tHJ) (v1 : Int32) (v4 : Int32) (v5 : Int32), kb152 I J v1 v4 v5 → tWG K B 0 0 S I J 152 [some (vR 61), some (vI v1), none, none, some (vI v4), some (vI v5), none, none] []) : ∀ (f : Nat) (I : tHI) (J : tHJ) (v1 : Int32) (v4 : Int32) (v5 : Int32) (v6 : Int32) (v7 : Int32), F12_lanes_L173 n S k kb152 f I J v1 v4 v5 v6 v7 → tWG K B 0 0 S I J 173 [some (vR 61), some (vI v1), none, none, some (vI v4), some (vI v5), some (vI v6), some (vI v7)] [] := by
  intro f
  induction f with
  | zero => intro I J v1 v4 v5 v6 v7 h; exact h.elim
  | succ f ih => intro I J v1 v4 v5 v6 v7 h; exact W12_lanes_173 hO hR hG t0 hQ hkb152 ih h
set_option maxRecDepth 100000 in
theorem W12_lanes_152 {K : tK} {B : tB} {S : tSH} {MC MS : Nat} (hO : tKO K B RX12 cX12_lanes 8) (hR : kR K = tRm 6 MC MS) (hG : tGr S) {n : Nat} (t0 : ty S 61 12) {k : Int32 → tHI → tHJ → Prop} (hQ : tRet K B (tQi B (tPi S k)) 0 0 (some .int)) {kb152 : tHI → tHJ → Int32 → Int32 → Int32 → Prop} (hkb152 : ∀ (I : tHI) (J : tHJ) (v1 : Int32) (v4 : Int32) (v5 : Int32), kb152 I J v1 v4 v5 → tWG K B 0 0 S I J 152 [some (vR 61), some (vI v1), none, none, some (vI v4), some (vI v5), none, none] []) {I : tHI} {J : tHJ} {v1 : Int32} {v4 : Int32} {v5 : Int32} (h : F12_lanes_152 n S k kb152 I J v1 v4 v5) : tWG K B 0 0 S I J 152 [some (vR 61), some (vI v1), none, none, some (vI v4), some (vI v5), none, none] [] := by
  refine gBk (pe := 157) hO [o0 (.iload 5), o0 (.iload_n 1), oI (.iconst 2) 2, o0 .isub] (by decide +kernel) (show tWG K B 0 0 S I J 157 [some (vR 61), some (vI v1), none, none, some (vI v4), some (vI v5), none, none] [vI (v1 - 2), vI v5] from ?_)
  refine gIcGt hO (off := 47) (tgt := 204) (by decide +kernel) (by decide) (fun c9 => ?_) (fun c9 => ?_)
  · have h := h.1 c9
    refine gBk (pe := 206) hO [o0 (.iload 4)] (by decide +kernel) (show tWG K B 0 0 S I J 206 [some (vR 61), some (vI v1), none, none, some (vI v4), some (vI v5), none, none] [vI v4] from ?_)
    exact gIret hO hQ (by decide +kernel) ⟨rfl, h⟩
  · have h := h.2 c9
    refine gBk (pe := 165) hO [o0 (.aload_n 0), o0 (.iload 5), o0 (.iload 4)] (by decide +kernel) (show tWG K B 0 0 S I J 165 [some (vR 61), some (vI v1), none, none, some (vI v4), some (vI v5), none, none] [vI v4, vI v5, vR 61] from ?_)
    refine gCVi_c hO (M12_leastLane t0 h) hc12_leastLane (idx := 503) (w := 1265) (by decide +kernel) hR (by omega) t0 ⟨by decide, rfl⟩ (vs := [vI v5, vI v4]) (st := []) ⟨rfl, Nat.le_of_ble_eq_true rfl, rfl⟩ (by decide +kernel) (fun x12 I10 J11 h => ?_)
    refine gBk (pe := 173) hO [o0 (.istore 6), oI (.iconst 0) 0, o0 (.istore 7)] (by decide +kernel) (And.intro (Nat.le_of_ble_eq_true rfl) (And.intro (Nat.le_of_ble_eq_true rfl) (show tWG K B 0 0 S I10 J11 173 [some (vR 61), some (vI v1), none, none, some (vI v4), some (vI v5), some (vI x12), some (vI 0)] [] from ?_)))
    exact W12_lanes_L173 hO hR hG t0 hQ hkb152 n _ _ _ _ _ _ _ h
theorem W12_lanes_L152 {K : tK} {B : tB} {S : tSH} {MC MS : Nat} (hO : tKO K B RX12 cX12_lanes 8) (hR : kR K = tRm 6 MC MS) (hG : tGr S) {n : Nat} (t0 : ty S 61 12) {k : Int32 → tHI → tHJ → Prop} (hQ : tRet K B (tQi B (tPi S k)) 0 0 (some .int)) : ∀ (f : Nat) (I : tHI) (J : tHJ) (v1 : Int32) (v4 : Int32) (v5 : Int32), F12_lanes_L152 n S k f I J v1 v4 v5 → tWG K B 0 0 S I J 152 [some (vR 61), some (vI v1), none, none, some (vI v4), some (vI v5), none, none] [] := by
  intro f
  induction f with
  | zero => intro I J v1 v4 v5 h; exact h.elim
  | succ f ih => intro I J v1 v4 v5 h; exact W12_lanes_152 hO hR hG t0 hQ ih h
set_option maxRecDepth 100000 in
theorem W12_lanes_118 {K : tK} {B : tB} {S : tSH} {MC MS : Nat} (hO : tKO K B RX12 cX12_lanes 8) (hR : kR K = tRm 6 MC MS) (hG : tGr S) {n : Nat} (t0 : ty S 61 12) {k : Int32 → tHI → tHJ → Prop} (hQ : tRet K B (tQi B (tPi S k)) 0 0 (some .int)) {I : tHI} {J : tHJ} {v1 : Int32} {s0 : Int32} (h : F12_lanes_118 n S k I J v1 s0) : tWG K B 0 0 S I J 118 [some (vR 61), some (vI v1), none, none, none, none, none, none] [vI s0] := by
  refine gBk (pe := 121) hO [o0 (.istore_n 3), o0 (.iload_n 1), oI (.iconst 2) 2] (by decide +kernel) (And.intro (Nat.le_of_ble_eq_true rfl) (show tWG K B 0 0 S I J 121 [some (vR 61), some (vI v1), none, some (vI s0), none, none, none, none] [vI 2, vI v1] from ?_))
  refine gIcGe hO (off := 19) (tgt := 140) (by decide +kernel) (by decide) (fun c8 => ?_) (fun c8 => ?_)
  · have h := h.1 c8
    refine gBk (pe := 152) hO [o0 (.aload_n 0), oF (.getfield 13) 12 3 179 63, oI (.bipush 11) 11, o0 .iaload, o0 (.istore 4), oI (.iconst 0) 0, o0 (.istore 5)] (by decide +kernel) (And.intro t0 (And.intro rfl (And.intro (tGr.off hG t0 (k := 3) rfl) (And.intro (tin (tGr.len hG t0 (k := 3) rfl (by decide)) (tvi (by decide +kernel))) (And.intro (Nat.le_of_ble_eq_true rfl) (And.intro (Nat.le_of_ble_eq_true rfl) (show tWG K B 0 0 S I J 152 [some (vR 61), some (vI v1), none, some (vI s0), some (vI (I 63 11)), some (vI 0), none, none] [] from ?_)))))))
    exact gWeak (L' := [some (vR 61), some (vI v1), none, none, some (vI (I 63 11)), some (vI 0), none, none]) ⟨rfl, rfl, rfl, rfl, trivial⟩ (W12_lanes_L152 hO hR hG t0 hQ n _ _ _ _ _ h)
  · have h := h.2 c8
    refine gBk (pe := 125) hO [o0 (.iload_n 1)] (by decide +kernel) (show tWG K B 0 0 S I J 125 [some (vR 61), some (vI v1), none, some (vI s0), none, none, none, none] [vI v1] from ?_)
    have hj14 : ∀ (m15 : Int32), m15 = (if v1 = 0 then (s0 / 100) else (s0 - s0 / 100 * 100)) → tWG K B 0 0 S I J 139 [none, none, none, none, none, none, none, none] [vI m15] := by
      intro m15 em15
      subst em15
      exact gIret hO hQ (by decide +kernel) ⟨rfl, h⟩
    refine gIfNe hO (off := 10) (tgt := 135) (by decide +kernel) (by decide) (fun c16 => ?_) (fun c16 => ?_)
    · refine gBk (pe := 139) hO [o0 (.iload_n 3), oI (.bipush 100) 100, o0 .irem] (by decide +kernel) (And.intro (by decide) (show tWG K B 0 0 S I J 139 [some (vR 61), some (vI v1), none, some (vI s0), none, none, none, none] [vI (s0 - s0 / 100 * 100)] from ?_))
      exact gWeak (L' := [none, none, none, none, none, none, none, none]) trivial (hj14 _ (Eq.symm (if_neg c16)))
    · refine gBk (pe := 139) hO [o0 (.iload_n 3), oI (.bipush 100) 100, o0 .idiv, o0 (.goto 7)] (by decide +kernel) (And.intro (by decide) (show tWG K B 0 0 S I J 139 [some (vR 61), some (vI v1), none, some (vI s0), none, none, none, none] [vI (s0 / 100)] from ?_))
      exact gWeak (L' := [none, none, none, none, none, none, none, none]) trivial (hj14 _ (Eq.symm (if_pos c16)))
set_option maxRecDepth 100000 in
theorem W12_lanes_84 {K : tK} {B : tB} {S : tSH} {MC MS : Nat} (hO : tKO K B RX12 cX12_lanes 8) (hR : kR K = tRm 6 MC MS) (hG : tGr S) {n : Nat} (t0 : ty S 61 12) {k : Int32 → tHI → tHJ → Prop} (hQ : tRet K B (tQi B (tPi S k)) 0 0 (some .int)) {kb31 : tHI → tHJ → Int32 → Int32 → Int32 → Prop} (hkb31 : ∀ (I : tHI) (J : tHJ) (v1 : Int32) (v2 : Int32) (v3 : Int32), kb31 I J v1 v2 v3 → tWG K B 0 0 S I J 31 [some (vR 61), some (vI v1), some (vI v2), some (vI v3), none, none, none, none] []) {kb38 : tHI → tHJ → Int32 → Int32 → Int32 → Int32 → Prop} (hkb38 : ∀ (I : tHI) (J : tHJ) (v1 : Int32) (v2 : Int32) (v3 : Int32) (v4 : Int32), kb38 I J v1 v2 v3 v4 → tWG K B 0 0 S I J 38 [some (vR 61), some (vI v1), some (vI v2), some (vI v3), some (vI v4), none, none, none] []) {I : tHI} {J : tHJ} {v1 : Int32} {v2 : Int32} {v3 : Int32} {v4 : Int32} {s0 : Int32} {s1 : Int32} {s2 : Int32} (h : F12_lanes_84 n S k kb31 kb38 I J v1 v2 v3 v4 s0 s1 s2) : tWG K B 0 0 S I J 84 [some (vR 61), some (vI v1), some (vI v2), some (vI v3), some (vI v4), none, none, none] [vI s0, vI s1, vI s2, vR 83] := by
  refine gBk (pe := 38) hO [o0 .iadd, o0 .iastore, oI (.iinc 4 1) 1, o0 (.goto (-51))] (by decide +kernel) (And.intro (tGr.off hG t0 (k := 46) rfl) (And.intro (tin (tGr.len hG t0 (k := 46) rfl (by decide)) h.1) (show tWG K B 0 0 S (uI I 83 s2.toNatClampNeg (s1 + s0)) J 38 [some (vR 61), some (vI v1), some (vI v2), some (vI v3), some (vI (v4 + 1)), none, none, none] [] from ?_)))
  have h := h.2
  exact hkb38 _ _ _ _ _ _ h
set_option maxRecDepth 100000 in
theorem W12_lanes_38 {K : tK} {B : tB} {S : tSH} {MC MS : Nat} (hO : tKO K B RX12 cX12_lanes 8) (hR : kR K = tRm 6 MC MS) (hG : tGr S) {n : Nat} (t0 : ty S 61 12) {k : Int32 → tHI → tHJ → Prop} (hQ : tRet K B (tQi B (tPi S k)) 0 0 (some .int)) {kb31 : tHI → tHJ → Int32 → Int32 → Int32 → Prop} (hkb31 : ∀ (I : tHI) (J : tHJ) (v1 : Int32) (v2 : Int32) (v3 : Int32), kb31 I J v1 v2 v3 → tWG K B 0 0 S I J 31 [some (vR 61), some (vI v1), some (vI v2), some (vI v3), none, none, none, none] []) {kb38 : tHI → tHJ → Int32 → Int32 → Int32 → Int32 → Prop} (hkb38 : ∀ (I : tHI) (J : tHJ) (v1 : Int32) (v2 : Int32) (v3 : Int32) (v4 : Int32), kb38 I J v1 v2 v3 v4 → tWG K B 0 0 S I J 38 [some (vR 61), some (vI v1), some (vI v2), some (vI v3), some (vI v4), none, none, none] []) {I : tHI} {J : tHJ} {v1 : Int32} {v2 : Int32} {v3 : Int32} {v4 : Int32} (h : F12_lanes_38 n S k kb31 kb38 I J v1 v2 v3 v4) : tWG K B 0 0 S I J 38 [some (vR 61), some (vI v1), some (vI v2), some (vI v3), some (vI v4), none, none, none] [] := by
  refine gBk (pe := 41) hO [o0 (.iload 4), oI (.iconst 3) 3] (by decide +kernel) (show tWG K B 0 0 S I J 41 [some (vR 61), some (vI v1), some (vI v2), some (vI v3), some (vI v4), none, none, none] [vI 3, vI v4] from ?_)
  refine gIcGe hO (off := 51) (tgt := 92) (by decide +kernel) (by decide) (fun c17 => ?_) (fun c17 => ?_)
  · have h := h.1 c17
    refine gBk (pe := 31) hO [oI (.iinc 3 (-1)) (-1), o0 (.goto (-64))] (by decide +kernel) (show tWG K B 0 0 S I J 31 [some (vR 61), some (vI v1), some (vI v2), some (vI (v3 + (-1))), some (vI v4), none, none, none] [] from ?_)
    exact gWeak (L' := [some (vR 61), some (vI v1), some (vI v2), some (vI (v3 + (-1))), none, none, none, none]) ⟨rfl, rfl, rfl, rfl, trivial⟩ (hkb31 _ _ _ _ _ h)
  · have h := h.2 c17
    refine gBk (pe := 60) hO [o0 (.aload_n 0), oF (.getfield 130) 12 46 226 83, oI (.iconst 3) 3, o0 (.iload_n 3), o0 .imul, o0 (.iload 4), o0 .iadd, oI (.bipush 100) 100, o0 (.aload_n 0), o0 (.iload_n 3), o0 (.iload 4)] (by decide +kernel) (And.intro t0 (And.intro rfl (show tWG K B 0 0 S I J 60 [some (vR 61), some (vI v1), some (vI v2), some (vI v3), some (vI v4), none, none, none] [vI v4, vI v3, vR 61, vI 100, vI ((3 * v3) + v4), vR 83] from ?_)))
    refine gCVi_c hO (M12_holesUnder t0 h) hc12_holesUnder (idx := 500) (w := 1261) (by decide +kernel) hR (by omega) t0 ⟨by decide, rfl⟩ (vs := [vI v3, vI v4]) (st := [vI 100, vI ((3 * v3) + v4), vR 83]) ⟨rfl, Nat.le_of_ble_eq_true rfl, rfl⟩ (by decide +kernel) (fun x20 I18 J19 h => ?_)
    refine gBk (pe := 68) hO [o0 .imul, o0 (.iload_n 3), o0 (.iload_n 2), oI (.iconst 1) 1, o0 .isub] (by decide +kernel) (show tWG K B 0 0 S I18 J19 68 [some (vR 61), some (vI v1), some (vI v2), some (vI v3), some (vI v4), none, none, none] [vI (v2 - 1), vI v3, vI (100 * x20), vI ((3 * v3) + v4), vR 83] from ?_)
    refine gIcNe hO (off := 7) (tgt := 75) (by decide +kernel) (by decide) (fun c21 => ?_) (fun c21 => ?_)
    · have h := h.1 c21
      refine gBk (pe := 81) hO [o0 (.aload_n 0), o0 (.iload_n 3), oI (.iconst 1) 1, o0 .iadd, o0 (.iload 4)] (by decide +kernel) (show tWG K B 0 0 S I18 J19 81 [some (vR 61), some (vI v1), some (vI v2), some (vI v3), some (vI v4), none, none, none] [vI v4, vI (v3 + 1), vR 61, vI (100 * x20), vI ((3 * v3) + v4), vR 83] from ?_)
      refine gCVi_c hO (M12_leastLane t0 h) hc12_leastLane (idx := 503) (w := 1265) (by decide +kernel) hR (by omega) t0 ⟨by decide, rfl⟩ (vs := [vI (v3 + 1), vI v4]) (st := [vI (100 * x20), vI ((3 * v3) + v4), vR 83]) ⟨rfl, Nat.le_of_ble_eq_true rfl, rfl⟩ (by decide +kernel) (fun x24 I22 J23 h => ?_)
      exact W12_lanes_84 hO hR hG t0 hQ hkb31 hkb38 h
    · have h := h.2 c21
      refine gBk (pe := 84) hO [oI (.iconst 0) 0, o0 (.goto 12)] (by decide +kernel) (show tWG K B 0 0 S I18 J19 84 [some (vR 61), some (vI v1), some (vI v2), some (vI v3), some (vI v4), none, none, none] [vI 0, vI (100 * x20), vI ((3 * v3) + v4), vR 83] from ?_)
      exact W12_lanes_84 hO hR hG t0 hQ hkb31 hkb38 h
theorem W12_lanes_L38 {K : tK} {B : tB} {S : tSH} {MC MS : Nat} (hO : tKO K B RX12 cX12_lanes 8) (hR : kR K = tRm 6 MC MS) (hG : tGr S) {n : Nat} (t0 : ty S 61 12) {k : Int32 → tHI → tHJ → Prop} (hQ : tRet K B (tQi B (tPi S k)) 0 0 (some .int)) {kb31 : tHI → tHJ → Int32 → Int32 → Int32 → Prop} (hkb31 : ∀ (I : tHI) (J : tHJ) (v1 : Int32) (v2 : Int32) (v3 : Int32), kb31 I J v1 v2 v3 → tWG K B 0 0 S I J 31 [some (vR 61), some (vI v1), some (vI v2), some (vI v3), none, none, none, none] []) : ∀ (f : Nat) (I : tHI) (J : tHJ) (v1 : Int32) (v2 : Int32) (v3 : Int32) (v4 : Int32), F12_lanes_L38 n S k kb31 f I J v1 v2 v3 v4 → tWG K B 0 0 S I J 38 [some (vR 61), some (vI v1), some (vI v2), some (vI v3), some (vI v4), none, none, none] [] := by
  intro f
  induction f with
  | zero => intro I J v1 v2 v3 v4 h; exact h.elim
  | succ f ih => intro I J v1 v2 v3 v4 h; exact W12_lanes_38 hO hR hG t0 hQ hkb31 ih h
set_option maxRecDepth 100000 in
theorem W12_lanes_31 {K : tK} {B : tB} {S : tSH} {MC MS : Nat} (hO : tKO K B RX12 cX12_lanes 8) (hR : kR K = tRm 6 MC MS) (hG : tGr S) {n : Nat} (t0 : ty S 61 12) {k : Int32 → tHI → tHJ → Prop} (hQ : tRet K B (tQi B (tPi S k)) 0 0 (some .int)) {kb31 : tHI → tHJ → Int32 → Int32 → Int32 → Prop} (hkb31 : ∀ (I : tHI) (J : tHJ) (v1 : Int32) (v2 : Int32) (v3 : Int32), kb31 I J v1 v2 v3 → tWG K B 0 0 S I J 31 [some (vR 61), some (vI v1), some (vI v2), some (vI v3), none, none, none, none] []) {I : tHI} {J : tHJ} {v1 : Int32} {v2 : Int32} {v3 : Int32} (h : F12_lanes_31 n S k kb31 I J v1 v2 v3) : tWG K B 0 0 S I J 31 [some (vR 61), some (vI v1), some (vI v2), some (vI v3), none, none, none, none] [] := by
  refine gBk (pe := 32) hO [o0 (.iload_n 3)] (by decide +kernel) (show tWG K B 0 0 S I J 32 [some (vR 61), some (vI v1), some (vI v2), some (vI v3), none, none, none, none] [vI v3] from ?_)
  refine gIfLt hO (off := 66) (tgt := 98) (by decide +kernel) (by decide) (fun c3 => ?_) (fun c3 => ?_)
  · have h := h.1 c3
    refine gBk (pe := 99) hO [o0 (.iload_n 2)] (by decide +kernel) (show tWG K B 0 0 S I J 99 [some (vR 61), some (vI v1), some (vI v2), some (vI v3), none, none, none, none] [vI v2] from ?_)
    refine gIfNe hO (off := 7) (tgt := 106) (by decide +kernel) (by decide) (fun c4 => ?_) (fun c4 => ?_)
    · have h := h.1 c4
      refine gBk (pe := 115) hO [o0 (.aload_n 0), oI (.iconst 0) 0, o0 (.aload_n 0), oF (.getfield 13) 12 3 179 63, oI (.bipush 11) 11, o0 .iaload] (by decide +kernel) (And.intro t0 (And.intro rfl (And.intro (tGr.off hG t0 (k := 3) rfl) (And.intro (tin (tGr.len hG t0 (k := 3) rfl (by decide)) (tvi (by decide +kernel))) (show tWG K B 0 0 S I J 115 [some (vR 61), some (vI v1), some (vI v2), some (vI v3), none, none, none, none] [vI (I 63 11), vI 0, vR 61] from ?_)))))
      refine gCVi_c hO (M12_leastLane t0 h) hc12_leastLane (idx := 503) (w := 1265) (by decide +kernel) hR (by omega) t0 ⟨by decide, rfl⟩ (vs := [vI 0, vI (I 63 11)]) (st := []) ⟨rfl, Nat.le_of_ble_eq_true rfl, rfl⟩ (by decide +kernel) (fun x7 I5 J6 h => ?_)
      exact gWeak (L' := [some (vR 61), some (vI v1), none, none, none, none, none, none]) ⟨rfl, rfl, trivial⟩ (W12_lanes_118 hO hR hG t0 hQ h)
    · have h := h.2 c4
      refine gBk (pe := 118) hO [oI (.iconst 0) 0, o0 (.goto 15)] (by decide +kernel) (show tWG K B 0 0 S I J 118 [some (vR 61), some (vI v1), some (vI v2), some (vI v3), none, none, none, none] [vI 0] from ?_)
      exact gWeak (L' := [some (vR 61), some (vI v1), none, none, none, none, none, none]) ⟨rfl, rfl, trivial⟩ (W12_lanes_118 hO hR hG t0 hQ h)
  · have h := h.2 c3
    refine gBk (pe := 38) hO [oI (.iconst 0) 0, o0 (.istore 4)] (by decide +kernel) (And.intro (Nat.le_of_ble_eq_true rfl) (show tWG K B 0 0 S I J 38 [some (vR 61), some (vI v1), some (vI v2), some (vI v3), some (vI 0), none, none, none] [] from ?_))
    exact W12_lanes_L38 hO hR hG t0 hQ hkb31 n _ _ _ _ _ _ h
theorem W12_lanes_L31 {K : tK} {B : tB} {S : tSH} {MC MS : Nat} (hO : tKO K B RX12 cX12_lanes 8) (hR : kR K = tRm 6 MC MS) (hG : tGr S) {n : Nat} (t0 : ty S 61 12) {k : Int32 → tHI → tHJ → Prop} (hQ : tRet K B (tQi B (tPi S k)) 0 0 (some .int)) : ∀ (f : Nat) (I : tHI) (J : tHJ) (v1 : Int32) (v2 : Int32) (v3 : Int32), F12_lanes_L31 n S k f I J v1 v2 v3 → tWG K B 0 0 S I J 31 [some (vR 61), some (vI v1), some (vI v2), some (vI v3), none, none, none, none] [] := by
  intro f
  induction f with
  | zero => intro I J v1 v2 v3 h; exact h.elim
  | succ f ih => intro I J v1 v2 v3 h; exact W12_lanes_31 hO hR hG t0 hQ ih h
set_option maxRecDepth 20000 in
theorem hc12_lanes : tCV yX12_lanes cX12_lanes 8 (some .int) 1 := ⟨⟨(List.mem_of_getElem? (i := 1260) rfl), (List.mem_of_getElem? (i := 5) (by decide +kernel)), by decide +kernel⟩, (List.mem_of_getElem? (i := 1258) (by decide +kernel)), (List.mem_of_getElem? (i := 1259) (by decide +kernel))⟩
set_option maxRecDepth 100000 in
theorem M12_lanes {l : Launch} {B : tB} {S : tSH} {I : tHI} {J : tHJ} {v1 : Int32} {n : Nat} {k : Int32 → tHI → tHJ → Prop} (t0 : ty S 61 12) (h : F12_lanes n S I J v1 k) : Met l yX12_lanes (tWs yX12_lanes cX12_lanes 8 (some .int)) (tRm 6 0 0) (tPc B [vR 61, vI v1] S I J) (tQi B (tPi S k)) 0 0 (tA B) :=
  tEntry (by decide +kernel) [some (vR 61), some (vI v1), none, none, none, none, none, none] rfl rfl (Nat.le_of_ble_eq_true rfl) (fun K hl hR hO hQ hG => by
  subst hl
  refine gBk (pe := 19) hO [o0 (.aload_n 0), oI (.iconst 0) 0, oF (.putfield 161) 12 0 316 0, o0 (.aload_n 0), oF (.getfield 13) 12 3 179 63, oI (.iconst 1) 1, o0 .iaload, o0 (.istore_n 2), o0 (.iload_n 1), o0 .i2l, oJ (.lconst 0) 0 0, oJ (.lconst 1) 0 1, o0 (.iload_n 2), o0 .i2l, o0 .ladd] (by decide +kernel) (And.intro t0 (And.intro t0 (And.intro rfl (And.intro (tGr.off hG t0 (k := 3) rfl) (And.intro (tin (tGr.len hG t0 (k := 3) rfl (by decide)) (tvi (by decide +kernel))) (And.intro (Nat.le_of_ble_eq_true rfl) (show tWG K B 0 0 S (uI I 61 0 0) J 19 [some (vR 61), some (vI v1), some (vI ((uI I 61 0 0) 63 1)), none, none, none, none, none] [vL (1 + ((uI I 61 0 0) 63 1).toInt64), vL 0, vL v1.toInt64] from ?_)))))))
  refine gCSi_z hO (M12_in) hc12_in (idx := 181) (w := 319) (by decide +kernel) hR (by omega) (vs := [vL v1.toInt64, vL 0, vL (1 + ((uI I 61 0 0) 63 1).toInt64)]) (st := []) ⟨rfl, Nat.le_of_ble_eq_true rfl, rfl⟩ (by decide +kernel) (fun z1 => ?_)
  refine gIfNe hO (off := 5) (tgt := 27) (by decide +kernel) (by decide) (fun c2 => ?_) (fun c2 => ?_)
  · have h := h.1 c2
    refine gBk (pe := 31) hO [o0 (.iload_n 2), oI (.iconst 1) 1, o0 .isub, o0 (.istore_n 3)] (by decide +kernel) (And.intro (Nat.le_of_ble_eq_true rfl) (show tWG K B 0 0 S (uI I 61 0 0) J 31 [some (vR 61), some (vI v1), some (vI ((uI I 61 0 0) 63 1)), some (vI (((uI I 61 0 0) 63 1) - 1)), none, none, none, none] [] from ?_))
    exact W12_lanes_L31 hO hR hG t0 hQ n _ _ _ _ _ h
  · have h := h.2 c2
    refine gBk (pe := 26) hO [oI (.iconst (-1)) (-1)] (by decide +kernel) (show tWG K B 0 0 S (uI I 61 0 0) J 26 [some (vR 61), some (vI v1), some (vI ((uI I 61 0 0) 63 1)), none, none, none, none, none] [vI (-1)] from ?_)
    exact gIret hO hQ (by decide +kernel) ⟨rfl, h⟩)
