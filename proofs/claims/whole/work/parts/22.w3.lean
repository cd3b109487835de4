set_option maxRecDepth 100000 in
theorem W12_must_35 {K : tK} {B : tB} {S : tSH} {MC MS : Nat} (hO : tKO K B RX12 cX12_must 2) (hR : kR K = tRm 4 MC MS) (hG : tGr S) {n : Nat} (t0 : ty S 61 12) {k : tHI → tHJ → Prop} (hQ : tRet K B (tQv B (tPv S k)) 0 0 none) {I : tHI} {J : tHJ} (h : F12_must_35 n S k I J) : tWG K B 0 0 S I J 35 [none, none] [] := by
  exact gVret hO hQ (by decide +kernel) ⟨rfl, h⟩
set_option maxRecDepth 100000 in
theorem W12_must_24 {K : tK} {B : tB} {S : tSH} {MC MS : Nat} (hO : tKO K B RX12 cX12_must 2) (hR : kR K = tRm 4 MC MS) (hG : tGr S) {n : Nat} (t0 : ty S 61 12) {k : tHI → tHJ → Prop} (hQ : tRet K B (tQv B (tPv S k)) 0 0 none) {I : tHI} {J : tHJ} (h : F12_must_24 n S k I J) : tWG K B 0 0 S I J 24 [some (vR 61), none] [] := by
  refine gBk (pe := 28) hO [o0 (.aload_n 0), oF (.getfield 261) 12 19 766 0] (by decide +kernel) (And.intro t0 (show tWG K B 0 0 S I J 28 [some (vR 61), none] [vI (I 61 19)] from ?_))
  refine gIfNe hO (off := 7) (tgt := 35) (by decide +kernel) (by decide) (fun c2 => ?_) (fun c2 => ?_)
  · have h := h.1 c2
    exact gWeak (L' := [none, none]) trivial (W12_must_35 hO hR hG t0 hQ h)
  · have h := h.2 c2
    refine gBk (pe := 32) hO [o0 (.aload_n 0)] (by decide +kernel) (show tWG K B 0 0 S I J 32 [some (vR 61), none] [vR 61] from ?_)
    refine gCVv_c hO (M12_next t0 h) hc12_next (idx := 265) (w := 779) (by decide +kernel) hR (by omega) t0 ⟨by decide, rfl⟩ (vs := []) (st := []) ⟨rfl, Nat.le_of_ble_eq_true rfl, rfl⟩ (by decide +kernel) (fun I3 J4 h => ?_)
    exact gWeak (L' := [none, none]) trivial (W12_must_35 hO hR hG t0 hQ h)
set_option maxRecDepth 20000 in
theorem hc12_must : tCV yX12_must cX12_must 2 none 1 := ⟨⟨(List.mem_of_getElem? (i := 808) rfl), (List.mem_of_getElem? (i := 5) (by decide +kernel)), by decide +kernel⟩, (List.mem_of_getElem? (i := 806) (by decide +kernel)), (List.mem_of_getElem? (i := 807) (by decide +kernel))⟩
set_option maxRecDepth 100000 in
theorem M12_must {l : Launch} {B : tB} {S : tSH} {I : tHI} {J : tHJ} {v1 : Int32} {n : Nat} {k : tHI → tHJ → Prop} (t0 : ty S 61 12) (h : F12_must n S I J v1 k) : Met l yX12_must (tWs yX12_must cX12_must 2 none) (tRm 4 0 0) (tPc B [vR 61, vI v1] S I J) (tQv B (tPv S k)) 0 0 (tA B) :=
  tEntry (by decide +kernel) [some (vR 61), some (vI v1)] rfl rfl (Nat.le_of_ble_eq_true rfl) (fun K hl hR hO hQ hG => by
  subst hl
  refine gBk (pe := 4) hO [o0 (.aload_n 0), oF (.getfield 261) 12 19 766 0] (by decide +kernel) (And.intro t0 (show tWG K B 0 0 S I J 4 [some (vR 61), some (vI v1)] [vI (I 61 19)] from ?_))
  refine gIfNe hO (off := 20) (tgt := 24) (by decide +kernel) (by decide) (fun c1 => ?_) (fun c1 => ?_)
  · have h := h.1 c1
    exact gWeak (L' := [some (vR 61), none]) ⟨rfl, trivial⟩ (W12_must_24 hO hR hG t0 hQ h)
  · have h := h.2 c1
    refine gBk (pe := 8) hO [o0 (.iload_n 1)] (by decide +kernel) (show tWG K B 0 0 S I J 8 [some (vR 61), some (vI v1)] [vI v1] from ?_)
    refine gIfNe hO (off := 16) (tgt := 24) (by decide +kernel) (by decide) (fun c5 => ?_) (fun c5 => ?_)
    · have h := h.1 c5
      exact gWeak (L' := [some (vR 61), none]) ⟨rfl, trivial⟩ (W12_must_24 hO hR hG t0 hQ h)
    · have h := h.2 c5
      refine gBk (pe := 24) hO [o0 (.aload_n 0), oI (.iconst 1) 1, oF (.putfield 261) 12 19 766 0, o0 (.aload_n 0), o0 (.aload_n 0), oF (.getfield 268) 12 14 783 0, oF (.putfield 38) 12 18 188 0] (by decide +kernel) (And.intro t0 (And.intro (Or.inr rfl) (And.intro t0 (And.intro t0 (show tWG K B 0 0 S (uI (uI I 61 19 1) 61 18 ((uI I 61 19 1) 61 14)) J 24 [some (vR 61), some (vI v1)] [] from ?_)))))
      exact gWeak (L' := [some (vR 61), none]) ⟨rfl, trivial⟩ (W12_must_24 hO hR hG t0 hQ h))
set_option maxRecDepth 20000 in
theorem hc12_number : tCV yX12_number cX12_number 6 (some .int) 2 := ⟨⟨(List.mem_of_getElem? (i := 858) rfl), (List.mem_of_getElem? (i := 5) (by decide +kernel)), by decide +kernel⟩, (List.mem_of_getElem? (i := 856) (by decide +kernel)), (List.mem_of_getElem? (i := 857) (by decide +kernel))⟩
set_option maxRecDepth 100000 in
theorem M12_number {l : Launch} {B : tB} {S : tSH} {I : tHI} {J : tHJ} {w1 : Int64} {w3 : Int64} {n : Nat} {k : Int32 → tHI → tHJ → Prop} (t0 : ty S 61 12) (h : F12_number n S I J w1 w3 k) : Met l yX12_number (tWs yX12_number cX12_number 6 (some .int)) (tRm 5 0 0) (tPc B [vR 61, vL w1, vL w3] S I J) (tQi B (tPi S k)) 0 0 (tA B) :=
  tEntry (by decide +kernel) [some (vR 61), some (vL w1), none, some (vL w3), none, none] rfl rfl (Nat.le_of_ble_eq_true rfl) (fun K hl hR hO hQ hG => by
  subst hl
  refine gBk (pe := 13) hO [o0 (.aload_n 0), oF (.getfield 271) 12 17 784 0, o0 .l2i, o0 (.istore 5), o0 (.aload_n 0), o0 (.aload_n 0), oF (.getfield 281) 12 16 785 0, oI (.iconst 2) 2] (by decide +kernel) (And.intro t0 (And.intro (Nat.le_of_ble_eq_true rfl) (And.intro t0 (show tWG K B 0 0 S I J 13 [some (vR 61), some (vL w1), none, some (vL w3), none, some (vI ((J 61 17).toInt32))] [vI 2, vI (I 61 16), vR 61] from ?_))))
  have hj2 : ∀ (m3 : Int32), m3 = (if (I 61 16) = 2 then (if (V12_in (J 61 17) w1 w3) = 0 then (0 : Int32) else 1) else 0) → tWG K B 0 0 S I J 33 [none, none, none, none, none, some (vI ((J 61 17).toInt32))] [vI m3, vR 61] := by
    intro m3 em3
    subst em3
    refine gCVv_c hO (M12_must t0 h) hc12_must (idx := 296) (w := 805) (by decide +kernel) hR (by omega) t0 ⟨by decide, rfl⟩ (vs := [vI (if (I 61 16) = 2 then (if (V12_in (J 61 17) w1 w3) = 0 then (0 : Int32) else 1) else 0)]) (st := []) ⟨rfl, Nat.le_of_ble_eq_true rfl, rfl⟩ (by decide +kernel) (fun I7 J8 h => ?_)
    refine gBk (pe := 38) hO [o0 (.iload 5)] (by decide +kernel) (show tWG K B 0 0 S I7 J8 38 [none, none, none, none, none, some (vI ((J 61 17).toInt32))] [vI ((J 61 17).toInt32)] from ?_)
    exact gIret hO hQ (by decide +kernel) ⟨rfl, h⟩
  refine gIcNe hO (off := 19) (tgt := 32) (by decide +kernel) (by decide) (fun c4 => ?_) (fun c4 => ?_)
  · refine gBk (pe := 33) hO [oI (.iconst 0) 0] (by decide +kernel) (show tWG K B 0 0 S I J 33 [some (vR 61), some (vL w1), none, some (vL w3), none, some (vI ((J 61 17).toInt32))] [vI 0, vR 61] from ?_)
    exact gWeak (L' := [none, none, none, none, none, some (vI ((J 61 17).toInt32))]) ⟨rfl, trivial⟩ (hj2 _ (Eq.symm (if_neg c4)))
  · refine gBk (pe := 22) hO [o0 (.aload_n 0), oF (.getfield 271) 12 17 784 0, o0 (.lload_n 1), o0 (.lload_n 3)] (by decide +kernel) (And.intro t0 (show tWG K B 0 0 S I J 22 [some (vR 61), some (vL w1), none, some (vL w3), none, some (vI ((J 61 17).toInt32))] [vL w3, vL w1, vL (J 61 17), vR 61] from ?_))
    refine gCSi_z hO (M12_in) hc12_in (idx := 181) (w := 319) (by decide +kernel) hR (by omega) (vs := [vL (J 61 17), vL w1, vL w3]) (st := [vR 61]) ⟨rfl, Nat.le_of_ble_eq_true rfl, rfl⟩ (by decide +kernel) (fun z5 => ?_)
    refine gIfEq hO (off := 7) (tgt := 32) (by decide +kernel) (by decide) (fun c6 => ?_) (fun c6 => ?_)
    · refine gBk (pe := 33) hO [oI (.iconst 0) 0] (by decide +kernel) (show tWG K B 0 0 S I J 33 [some (vR 61), some (vL w1), none, some (vL w3), none, some (vI ((J 61 17).toInt32))] [vI 0, vR 61] from ?_)
      exact gWeak (L' := [none, none, none, none, none, some (vI ((J 61 17).toInt32))]) ⟨rfl, trivial⟩ (hj2 _ (Eq.symm ((if_pos c4).trans (if_pos c6))))
    · refine gBk (pe := 33) hO [oI (.iconst 1) 1, o0 (.goto 4)] (by decide +kernel) (show tWG K B 0 0 S I J 33 [some (vR 61), some (vL w1), none, some (vL w3), none, some (vI ((J 61 17).toInt32))] [vI 1, vR 61] from ?_)
      exact gWeak (L' := [none, none, none, none, none, some (vI ((J 61 17).toInt32))]) ⟨rfl, trivial⟩ (hj2 _ (Eq.symm ((if_pos c4).trans (if_neg c6)))))
set_option maxRecDepth 20000 in
theorem hc12_fault : tCV yX12_fault cX12_fault 1 (some .int) 0 := ⟨⟨(List.mem_of_getElem? (i := 1078) rfl), (List.mem_of_getElem? (i := 5) (by decide +kernel)), by decide +kernel⟩, (List.mem_of_getElem? (i := 1076) (by decide +kernel)), (List.mem_of_getElem? (i := 1077) (by decide +kernel))⟩
set_option maxRecDepth 100000 in
theorem M12_fault {l : Launch} {B : tB} {S : tSH} {I : tHI} {J : tHJ} {n : Nat} {k : Int32 → tHI → tHJ → Prop} (t0 : ty S 61 12) (h : F12_fault n S I J k) : Met l yX12_fault (tWs yX12_fault cX12_fault 1 (some .int)) (tRm 2 0 0) (tPc B [vR 61] S I J) (tQi B (tPi S k)) 0 0 (tA B) :=
  tEntry (by decide +kernel) [some (vR 61)] rfl rfl (Nat.le_of_ble_eq_true rfl) (fun K hl hR hO hQ hG => by
  subst hl
  refine gBk (pe := 9) hO [o0 (.aload_n 0), oI (.iconst 0) 0, oF (.putfield 161) 12 0 316 0, o0 (.aload_n 0), oF (.getfield 38) 12 18 188 0] (by decide +kernel) (And.intro t0 (And.intro t0 (show tWG K B 0 0 S (uI I 61 0 0) J 9 [some (vR 61)] [vI ((uI I 61 0 0) 61 18)] from ?_)))
  exact gIret hO hQ (by decide +kernel) ⟨rfl, h⟩)
set_option maxRecDepth 20000 in
theorem hc12_emit : tCV yX12_emit cX12_emit 3 none 2 := ⟨⟨(List.mem_of_getElem? (i := 854) rfl), (List.mem_of_getElem? (i := 5) (by decide +kernel)), by decide +kernel⟩, (List.mem_of_getElem? (i := 852) (by decide +kernel)), (List.mem_of_getElem? (i := 853) (by decide +kernel))⟩
set_option maxRecDepth 100000 in
theorem M12_emit {l : Launch} {B : tB} {S : tSH} {I : tHI} {J : tHJ} {v1 : Int32} {v2 : Int32} {n : Nat} {k : tHI → tHJ → Prop} (t0 : ty S 61 12) (h : F12_emit n S I J v1 v2 k) : Met l yX12_emit (tWs yX12_emit cX12_emit 3 none) (tRm 2 0 0) (tPc B [vR 61, vI v1, vI v2] S I J) (tQv B (tPv S k)) 0 0 (tA B) :=
  tEntry (by decide +kernel) [some (vR 61), some (vI v1), some (vI v2)] rfl rfl (Nat.le_of_ble_eq_true rfl) (fun K hl hR hO hQ hG => by
  subst hl
  refine gBk (pe := 30) hO [o0 (.aload_n 0), oF (.getfield 45) 12 24 190 72, o0 (.aload_n 0), oF (.getfield 300) 12 23 768 0, o0 (.iload_n 1), o0 .iastore, o0 (.aload_n 0), oF (.getfield 48) 12 25 191 73, o0 (.aload_n 0), oF (.getfield 300) 12 23 768 0, o0 (.iload_n 2), o0 .iastore, o0 (.aload_n 0), o0 .dup, oF (.getfield 300) 12 23 768 0, oI (.iconst 1) 1, o0 .iadd, oF (.putfield 300) 12 23 768 0] (by decide +kernel) (And.intro t0 (And.intro rfl (And.intro t0 (And.intro (tGr.off hG t0 (k := 24) rfl) (And.intro (tin (tGr.len hG t0 (k := 24) rfl (by decide)) h.1) (And.intro t0 (And.intro rfl (And.intro t0 (And.intro (tGr.off hG t0 (k := 25) rfl) (And.intro (tin (tGr.len hG t0 (k := 25) rfl (by decide)) h.2.1) (And.intro t0 (And.intro t0 (show tWG K B 0 0 S (uI (uI (uI I 72 (I 61 23).toNatClampNeg v1) 73 ((uI I 72 (I 61 23).toNatClampNeg v1) 61 23).toNatClampNeg v2) 61 23 (((uI (uI I 72 (I 61 23).toNatClampNeg v1) 73 ((uI I 72 (I 61 23).toNatClampNeg v1) 61 23).toNatClampNeg v2) 61 23) + 1)) J 30 [some (vR 61), some (vI v1), some (vI v2)] [] from ?_)))))))))))))
  have h := h.2.2
  exact gVret hO hQ (by decide +kernel) ⟨rfl, h⟩)
set_option maxRecDepth 20000 in
theorem hc12_push : tCV yX12_push cX12_push 3 none 2 := ⟨⟨(List.mem_of_getElem? (i := 823) rfl), (List.mem_of_getElem? (i := 5) (by decide +kernel)), by decide +kernel⟩, (List.mem_of_getElem? (i := 821) (by decide +kernel)), (List.mem_of_getElem? (i := 822) (by decide +kernel))⟩
set_option maxRecDepth 100000 in
theorem M12_push {l : Launch} {B : tB} {S : tSH} {I : tHI} {J : tHJ} {v1 : Int32} {v2 : Int32} {n : Nat} {k : tHI → tHJ → Prop} (t0 : ty S 61 12) (h : F12_push n S I J v1 v2 k) : Met l yX12_push (tWs yX12_push cX12_push 3 none) (tRm 2 0 0) (tPc B [vR 61, vI v1, vI v2] S I J) (tQv B (tPv S k)) 0 0 (tA B) :=
  tEntry (by decide +kernel) [some (vR 61), some (vI v1), some (vI v2)] rfl rfl (Nat.le_of_ble_eq_true rfl) (fun K hl hR hO hQ hG => by
  subst hl
  refine gBk (pe := 30) hO [o0 (.aload_n 0), oF (.getfield 51) 12 27 192 74, o0 (.aload_n 0), oF (.getfield 303) 12 29 813 0, o0 (.iload_n 1), o0 .iastore, o0 (.aload_n 0), oF (.getfield 54) 12 28 193 75, o0 (.aload_n 0), oF (.getfield 303) 12 29 813 0, o0 (.iload_n 2), o0 .iastore, o0 (.aload_n 0), o0 .dup, oF (.getfield 303) 12 29 813 0, oI (.iconst 1) 1, o0 .iadd, oF (.putfield 303) 12 29 813 0] (by decide +kernel) (And.intro t0 (And.intro rfl (And.intro t0 (And.intro (tGr.off hG t0 (k := 27) rfl) (And.intro (tin (tGr.len hG t0 (k := 27) rfl (by decide)) h.1) (And.intro t0 (And.intro rfl (And.intro t0 (And.intro (tGr.off hG t0 (k := 28) rfl) (And.intro (tin (tGr.len hG t0 (k := 28) rfl (by decide)) h.2.1) (And.intro t0 (And.intro t0 (show tWG K B 0 0 S (uI (uI (uI I 74 (I 61 29).toNatClampNeg v1) 75 ((uI I 74 (I 61 29).toNatClampNeg v1) 61 29).toNatClampNeg v2) 61 29 (((uI (uI I 74 (I 61 29).toNatClampNeg v1) 75 ((uI I 74 (I 61 29).toNatClampNeg v1) 61 29).toNatClampNeg v2) 61 29) + 1)) J 30 [some (vR 61), some (vI v1), some (vI v2)] [] from ?_)))))))))))))
  have h := h.2.2
  exact gVret hO hQ (by decide +kernel) ⟨rfl, h⟩)
set_option maxRecDepth 20000 in
theorem hc12_binds : tCm yX12_binds cX12_binds 1 (some .int) 1 ∧ Cond.static yX12_binds ∈ wsL_law := ⟨⟨(List.mem_of_getElem? (i := 865) rfl), (List.mem_of_getElem? (i := 5) (by decide +kernel)), by decide +kernel⟩, (List.mem_of_getElem? (i := 864) (by decide +kernel))⟩
set_option maxRecDepth 100000 in
theorem M12_binds {l : Launch} {B : tB} {S : tSH} {I : tHI} {J : tHJ} {v0 : Int32} : Met l yX12_binds (tWs yX12_binds cX12_binds 1 (some .int)) (tRm 2 0 0) (tPc B [vI v0] S I J) (tQi B (tPp S I J (V12_binds v0))) 0 0 (tA B) :=
  tEntry (by decide +kernel) [some (vI v0)] rfl rfl (Nat.le_of_ble_eq_true rfl) (fun K hl hR hO hQ hG => by
  subst hl
  refine gBk (pe := 3) hO [o0 (.iload_n 0), oI (.bipush 31) 31] (by decide +kernel) (show tWG K B 0 0 S I J 3 [some (vI v0)] [vI 31, vI v0] from ?_)
  refine gIcLt hO (off := 7) (tgt := 10) (by decide +kernel) (by decide) (fun c1 => ?_) (fun c1 => ?_)
  · refine gBk (pe := 13) hO [o0 (.iload_n 0), oI (.bipush 30) 30] (by decide +kernel) (show tWG K B 0 0 S I J 13 [some (vI v0)] [vI 30, vI v0] from ?_)
    refine gIcNe hO (off := 7) (tgt := 20) (by decide +kernel) (by decide) (fun c2 => ?_) (fun c2 => ?_)
    · refine gBk (pe := 23) hO [o0 (.iload_n 0), oI (.bipush 29) 29] (by decide +kernel) (show tWG K B 0 0 S I J 23 [some (vI v0)] [vI 29, vI v0] from ?_)
      refine gIcNe hO (off := 7) (tgt := 30) (by decide +kernel) (by decide) (fun c3 => ?_) (fun c3 => ?_)
      · refine gBk (pe := 33) hO [o0 (.iload_n 0), oI (.bipush 28) 28] (by decide +kernel) (show tWG K B 0 0 S I J 33 [some (vI v0)] [vI 28, vI v0] from ?_)
        refine gIcNe hO (off := 7) (tgt := 40) (by decide +kernel) (by decide) (fun c4 => ?_) (fun c4 => ?_)
        · refine gBk (pe := 43) hO [o0 (.iload_n 0), oI (.bipush 25) 25] (by decide +kernel) (show tWG K B 0 0 S I J 43 [some (vI v0)] [vI 25, vI v0] from ?_)
          refine gIcLt hO (off := 7) (tgt := 50) (by decide +kernel) (by decide) (fun c5 => ?_) (fun c5 => ?_)
          · refine gBk (pe := 53) hO [o0 (.iload_n 0), oI (.bipush 22) 22] (by decide +kernel) (show tWG K B 0 0 S I J 53 [some (vI v0)] [vI 22, vI v0] from ?_)
            refine gIcLt hO (off := 8) (tgt := 61) (by decide +kernel) (by decide) (fun c6 => ?_) (fun c6 => ?_)
            · refine gBk (pe := 62) hO [oI (.iconst 5) 5] (by decide +kernel) (show tWG K B 0 0 S I J 62 [some (vI v0)] [vI 5] from ?_)
              exact gIret hO hQ (by decide +kernel) ⟨(Eq.symm ((if_pos c1).trans ((if_neg c2).trans ((if_neg c3).trans ((if_neg c4).trans ((if_pos c5).trans (if_pos c6))))))), rfl⟩
            · refine gBk (pe := 62) hO [oI (.bipush 6) 6, o0 (.goto 4)] (by decide +kernel) (show tWG K B 0 0 S I J 62 [some (vI v0)] [vI 6] from ?_)
              exact gIret hO hQ (by decide +kernel) ⟨(Eq.symm ((if_pos c1).trans ((if_neg c2).trans ((if_neg c3).trans ((if_neg c4).trans ((if_pos c5).trans (if_neg c6))))))), rfl⟩
          · refine gBk (pe := 62) hO [oI (.iconst 4) 4, o0 (.goto 15)] (by decide +kernel) (show tWG K B 0 0 S I J 62 [some (vI v0)] [vI 4] from ?_)
            exact gIret hO hQ (by decide +kernel) ⟨(Eq.symm ((if_pos c1).trans ((if_neg c2).trans ((if_neg c3).trans ((if_neg c4).trans (if_neg c5)))))), rfl⟩
        · refine gBk (pe := 62) hO [oI (.iconst 3) 3, o0 (.goto 25)] (by decide +kernel) (show tWG K B 0 0 S I J 62 [some (vI v0)] [vI 3] from ?_)
          exact gIret hO hQ (by decide +kernel) ⟨(Eq.symm ((if_pos c1).trans ((if_neg c2).trans ((if_neg c3).trans (if_pos c4))))), rfl⟩
      · refine gBk (pe := 62) hO [oI (.iconst 2) 2, o0 (.goto 35)] (by decide +kernel) (show tWG K B 0 0 S I J 62 [some (vI v0)] [vI 2] from ?_)
        exact gIret hO hQ (by decide +kernel) ⟨(Eq.symm ((if_pos c1).trans ((if_neg c2).trans (if_pos c3)))), rfl⟩
    · refine gBk (pe := 62) hO [oI (.iconst 1) 1, o0 (.goto 45)] (by decide +kernel) (show tWG K B 0 0 S I J 62 [some (vI v0)] [vI 1] from ?_)
      exact gIret hO hQ (by decide +kernel) ⟨(Eq.symm ((if_pos c1).trans (if_pos c2))), rfl⟩
  · refine gBk (pe := 62) hO [oI (.iconst 0) 0, o0 (.goto 55)] (by decide +kernel) (show tWG K B 0 0 S I J 62 [some (vI v0)] [vI 0] from ?_)
    exact gIret hO hQ (by decide +kernel) ⟨(Eq.symm (if_neg c1)), rfl⟩)
set_option maxRecDepth 100000 in
theorem W12_inner_4 {K : tK} {B : tB} {S : tSH} {MC MS : Nat} (hO : tKO K B RX12 cX12_inner 3) (hR : kR K = tRm 2 MC MS) (hG : tGr S) {n : Nat} (t0 : ty S 61 12) {k : Int32 → tHI → tHJ → Prop} (hQ : tRet K B (tQi B (tPi S k)) 0 0 (some .int)) {kb4 : tHI → tHJ → Int32 → Int32 → Prop} (hkb4 : ∀ (I : tHI) (J : tHJ) (v1 : Int32) (v2 : Int32), kb4 I J v1 v2 → tWG K B 0 0 S I J 4 [some (vR 61), some (vI v1), some (vI v2)] []) {I : tHI} {J : tHJ} {v1 : Int32} {v2 : Int32} (h : F12_inner_4 n S k kb4 I J v1 v2) : tWG K B 0 0 S I J 4 [some (vR 61), some (vI v1), some (vI v2)] [] := by
  refine gBk (pe := 9) hO [o0 (.iload_n 2), o0 (.aload_n 0), oF (.getfield 303) 12 29 813 0] (by decide +kernel) (And.intro t0 (show tWG K B 0 0 S I J 9 [some (vR 61), some (vI v1), some (vI v2)] [vI (I 61 29), vI v2] from ?_))
  refine gIcGe hO (off := 31) (tgt := 40) (by decide +kernel) (by decide) (fun c1 => ?_) (fun c1 => ?_)
  · have h := h.1 c1
    refine gBk (pe := 41) hO [o0 (.iload_n 1)] (by decide +kernel) (show tWG K B 0 0 S I J 41 [some (vR 61), some (vI v1), some (vI v2)] [vI v1] from ?_)
    exact gIret hO hQ (by decide +kernel) ⟨rfl, h⟩
  · have h := h.2 c1
    refine gBk (pe := 20) hO [o0 (.aload_n 0), oF (.getfield 51) 12 27 192 74, o0 (.iload_n 2), o0 .iaload, oI (.bipush 31) 31] (by decide +kernel) (And.intro t0 (And.intro rfl (And.intro (tGr.off hG t0 (k := 27) rfl) (And.intro (tin (tGr.len hG t0 (k := 27) rfl (by decide)) h.1) (show tWG K B 0 0 S I J 20 [some (vR 61), some (vI v1), some (vI v2)] [vI 31, vI (I 74 v2.toNatClampNeg)] from ?_)))))
    have h := h.2
    have hj2 : ∀ (m3 : Int32), m3 = (if (I 74 v2.toNatClampNeg) < 31 then v1 else (I 74 v2.toNatClampNeg)) → tWG K B 0 0 S I J 33 [some (vR 61), none, some (vI v2)] [vI m3] := by
      intro m3 em3
      subst em3
      have h := h.2
      refine gBk (pe := 4) hO [o0 (.istore_n 1), oI (.iinc 2 1) 1, o0 (.goto (-33))] (by decide +kernel) (And.intro (Nat.le_of_ble_eq_true rfl) (show tWG K B 0 0 S I J 4 [some (vR 61), some (vI (if (I 74 v2.toNatClampNeg) < 31 then v1 else (I 74 v2.toNatClampNeg))), some (vI (v2 + 1))] [] from ?_))
      exact hkb4 _ _ _ _ h
    have h := h.1
    refine gIcLt hO (off := 12) (tgt := 32) (by decide +kernel) (by decide) (fun c4 => ?_) (fun c4 => ?_)
    · have h := h.1 c4
      refine gBk (pe := 33) hO [o0 (.iload_n 1)] (by decide +kernel) (show tWG K B 0 0 S I J 33 [some (vR 61), some (vI v1), some (vI v2)] [vI v1] from ?_)
      exact gWeak (L' := [some (vR 61), none, some (vI v2)]) ⟨rfl, rfl, trivial⟩ (hj2 _ (Eq.symm (if_pos c4)))
    · have h := h.2 c4
      refine gBk (pe := 33) hO [o0 (.aload_n 0), oF (.getfield 51) 12 27 192 74, o0 (.iload_n 2), o0 .iaload, o0 (.goto 4)] (by decide +kernel) (And.intro t0 (And.intro rfl (And.intro (tGr.off hG t0 (k := 27) rfl) (And.intro (tin (tGr.len hG t0 (k := 27) rfl (by decide)) h.1) (show tWG K B 0 0 S I J 33 [some (vR 61), some (vI v1), some (vI v2)] [vI (I 74 v2.toNatClampNeg)] from ?_)))))
      have h := h.2
      exact gWeak (L' := [some (vR 61), none, some (vI v2)]) ⟨rfl, rfl, trivial⟩ (hj2 _ (Eq.symm (if_neg c4)))
theorem W12_inner_L4 {K : tK} {B : tB} {S : tSH} {MC MS : Nat} (hO : tKO K B RX12 cX12_inner 3) (hR : kR K = tRm 2 MC MS) (hG : tGr S) {n : Nat} (t0 : ty S 61 12) {k : Int32 → tHI → tHJ → Prop} (hQ : tRet K B (tQi B (tPi S k)) 0 0 (some .int)) : ∀ (f : Nat) (I : tHI) (J : tHJ) (v1 : Int32) (v2 : Int32), F12_inner_L4 n S k f I J v1 v2 → tWG K B 0 0 S I J 4 [some (vR 61), some (vI v1), some (vI v2)] [] := by
  intro f
  induction f with
  | zero => intro I J v1 v2 h; exact h.elim
  | succ f ih => intro I J v1 v2 h; exact W12_inner_4 hO hR hG t0 hQ ih h
set_option maxRecDepth 20000 in
theorem hc12_inner : tCV yX12_inner cX12_inner 3 (some .int) 0 := ⟨⟨(List.mem_of_getElem? (i := 873) rfl), (List.mem_of_getElem? (i := 5) (by decide +kernel)), by decide +kernel⟩, (List.mem_of_getElem? (i := 871) (by decide +kernel)), (List.mem_of_getElem? (i := 872) (by decide +kernel))⟩
set_option maxRecDepth 100000 in
theorem M12_inner {l : Launch} {B : tB} {S : tSH} {I : tHI} {J : tHJ} {n : Nat} {k : Int32 → tHI → tHJ → Prop} (t0 : ty S 61 12) (h : F12_inner n S I J k) : Met l yX12_inner (tWs yX12_inner cX12_inner 3 (some .int)) (tRm 2 0 0) (tPc B [vR 61] S I J) (tQi B (tPi S k)) 0 0 (tA B) :=
  tEntry (by decide +kernel) [some (vR 61), none, none] rfl rfl (Nat.le_of_ble_eq_true rfl) (fun K hl hR hO hQ hG => by
  subst hl
  refine gBk (pe := 4) hO [oI (.iconst (-1)) (-1), o0 (.istore_n 1), oI (.iconst 0) 0, o0 (.istore_n 2)] (by decide +kernel) (And.intro (Nat.le_of_ble_eq_true rfl) (And.intro (Nat.le_of_ble_eq_true rfl) (show tWG K B 0 0 S I J 4 [some (vR 61), some (vI (-1)), some (vI 0)] [] from ?_)))
  exact W12_inner_L4 hO hR hG t0 hQ n _ _ _ _ h)
set_option maxRecDepth 100000 in
theorem W12_isCompared_36 {K : tK} {B : tB} {S : tSH} {MC MS : Nat} (hO : tKO K B RX12 cX12_isCompared 2) (hR : kR K = tRm 3 MC MS) (hG : tGr S) {n : Nat} (t0 : ty S 61 12) {k : Int32 → tHI → tHJ → Prop} (hQ : tRet K B (tQi B (tPb S k)) 0 0 (some .boolean)) {I : tHI} {J : tHJ} {v1 : Int32} (h : F12_isCompared_36 n S k I J v1) : tWG K B 0 0 S I J 36 [some (vR 61), some (vI v1)] [] := by
  refine gBk (pe := 37) hO [o0 (.iload_n 1)] (by decide +kernel) (show tWG K B 0 0 S I J 37 [some (vR 61), some (vI v1)] [vI v1] from ?_)
  have hj3 : ∀ (m4 : Int32), m4 = (if v1 < 0 then 0 else (if (V12_in ((I 74 v1.toNatClampNeg).toInt64) 25 27) = 0 then (0 : Int32) else 1)) → tWG K B 0 0 S I J 64 [none, none] [vI m4] := by
    intro m4 em4
    subst em4
    have h := h.2
    exact gZret hO hQ (by decide +kernel) (bz_if (Or.inl rfl) (bz_if (Or.inl rfl) (Or.inr rfl))) ⟨rfl, (bz_if (Or.inl rfl) (bz_if (Or.inl rfl) (Or.inr rfl))), h⟩
  have h := h.1
  refine gIfLt hO (off := 26) (tgt := 63) (by decide +kernel) (by decide) (fun c5 => ?_) (fun c5 => ?_)
  · have h := h.1 c5
    refine gBk (pe := 64) hO [oI (.iconst 0) 0] (by decide +kernel) (show tWG K B 0 0 S I J 64 [some (vR 61), some (vI v1)] [vI 0] from ?_)
    exact gWeak (L' := [none, none]) trivial (hj3 _ (Eq.symm (if_pos c5)))
  · have h := h.2 c5
    refine gBk (pe := 47) hO [o0 (.aload_n 0), oF (.getfield 51) 12 27 192 74, o0 (.iload_n 1), o0 .iaload, o0 .i2l] (by decide +kernel) (And.intro t0 (And.intro rfl (And.intro (tGr.off hG t0 (k := 27) rfl) (And.intro (tin (tGr.len hG t0 (k := 27) rfl (by decide)) h.1) (show tWG K B 0 0 S I J 47 [some (vR 61), some (vI v1)] [vL ((I 74 v1.toNatClampNeg).toInt64)] from ?_)))))
    have h := h.2
    refine gBk (pe := 50) hO [(.ldc2_w 317, (0, 0, 879, 0), 0, 25)] (by decide +kernel) (show tWG K B 0 0 S I J 50 [some (vR 61), some (vI v1)] [vL 25, vL ((I 74 v1.toNatClampNeg).toInt64)] from ?_)
    refine gBk (pe := 53) hO [(.ldc2_w 319, (0, 0, 880, 0), 0, 27)] (by decide +kernel) (show tWG K B 0 0 S I J 53 [some (vR 61), some (vI v1)] [vL 27, vL 25, vL ((I 74 v1.toNatClampNeg).toInt64)] from ?_)
    refine gCSi_z hO (M12_in) hc12_in (idx := 181) (w := 319) (by decide +kernel) hR (by omega) (vs := [vL ((I 74 v1.toNatClampNeg).toInt64), vL 25, vL 27]) (st := []) ⟨rfl, Nat.le_of_ble_eq_true rfl, rfl⟩ (by decide +kernel) (fun z6 => ?_)
    refine gIfEq hO (off := 7) (tgt := 63) (by decide +kernel) (by decide) (fun c7 => ?_) (fun c7 => ?_)
    · have h := h.1 c7
      refine gBk (pe := 64) hO [oI (.iconst 0) 0] (by decide +kernel) (show tWG K B 0 0 S I J 64 [some (vR 61), some (vI v1)] [vI 0] from ?_)
      exact gWeak (L' := [none, none]) trivial (hj3 _ (Eq.symm ((if_neg c5).trans (if_pos c7))))
    · have h := h.2 c7
      refine gBk (pe := 64) hO [oI (.iconst 1) 1, o0 (.goto 4)] (by decide +kernel) (show tWG K B 0 0 S I J 64 [some (vR 61), some (vI v1)] [vI 1] from ?_)
      exact gWeak (L' := [none, none]) trivial (hj3 _ (Eq.symm ((if_neg c5).trans (if_neg c7))))
set_option maxRecDepth 100000 in
theorem W12_isCompared_7 {K : tK} {B : tB} {S : tSH} {MC MS : Nat} (hO : tKO K B RX12 cX12_isCompared 2) (hR : kR K = tRm 3 MC MS) (hG : tGr S) {n : Nat} (t0 : ty S 61 12) {k : Int32 → tHI → tHJ → Prop} (hQ : tRet K B (tQi B (tPb S k)) 0 0 (some .boolean)) {kb7 : tHI → tHJ → Int32 → Prop} (hkb7 : ∀ (I : tHI) (J : tHJ) (v1 : Int32), kb7 I J v1 → tWG K B 0 0 S I J 7 [some (vR 61), some (vI v1)] []) {I : tHI} {J : tHJ} {v1 : Int32} (h : F12_isCompared_7 n S k kb7 I J v1) : tWG K B 0 0 S I J 7 [some (vR 61), some (vI v1)] [] := by
  refine gBk (pe := 8) hO [o0 (.iload_n 1)] (by decide +kernel) (show tWG K B 0 0 S I J 8 [some (vR 61), some (vI v1)] [vI v1] from ?_)
  refine gIfLt hO (off := 28) (tgt := 36) (by decide +kernel) (by decide) (fun c1 => ?_) (fun c1 => ?_)
  · have h := h.1 c1
    exact W12_isCompared_36 hO hR hG t0 hQ h
  · have h := h.2 c1
    refine gBk (pe := 18) hO [o0 (.aload_n 0), oF (.getfield 51) 12 27 192 74, o0 (.iload_n 1), o0 .iaload, o0 .i2l] (by decide +kernel) (And.intro t0 (And.intro rfl (And.intro (tGr.off hG t0 (k := 27) rfl) (And.intro (tin (tGr.len hG t0 (k := 27) rfl (by decide)) h.1) (show tWG K B 0 0 S I J 18 [some (vR 61), some (vI v1)] [vL ((I 74 v1.toNatClampNeg).toInt64)] from ?_)))))
    have h := h.2
    refine gBk (pe := 21) hO [(.ldc2_w 313, (0, 0, 487, 0), 0, 20)] (by decide +kernel) (show tWG K B 0 0 S I J 21 [some (vR 61), some (vI v1)] [vL 20, vL ((I 74 v1.toNatClampNeg).toInt64)] from ?_)
    refine gBk (pe := 24) hO [(.ldc2_w 315, (0, 0, 878, 0), 0, 24)] (by decide +kernel) (show tWG K B 0 0 S I J 24 [some (vR 61), some (vI v1)] [vL 24, vL 20, vL ((I 74 v1.toNatClampNeg).toInt64)] from ?_)
    refine gCSi_z hO (M12_in) hc12_in (idx := 181) (w := 319) (by decide +kernel) hR (by omega) (vs := [vL ((I 74 v1.toNatClampNeg).toInt64), vL 20, vL 24]) (st := []) ⟨rfl, Nat.le_of_ble_eq_true rfl, rfl⟩ (by decide +kernel) (fun z8 => ?_)
    refine gIfEq hO (off := 9) (tgt := 36) (by decide +kernel) (by decide) (fun c9 => ?_) (fun c9 => ?_)
    · have h := h.1 c9
      exact W12_isCompared_36 hO hR hG t0 hQ h
    · have h := h.2 c9
      refine gBk (pe := 7) hO [oI (.iinc 1 (-1)) (-1), o0 (.goto (-26))] (by decide +kernel) (show tWG K B 0 0 S I J 7 [some (vR 61), some (vI (v1 + (-1)))] [] from ?_)
      exact hkb7 _ _ _ h
theorem W12_isCompared_L7 {K : tK} {B : tB} {S : tSH} {MC MS : Nat} (hO : tKO K B RX12 cX12_isCompared 2) (hR : kR K = tRm 3 MC MS) (hG : tGr S) {n : Nat} (t0 : ty S 61 12) {k : Int32 → tHI → tHJ → Prop} (hQ : tRet K B (tQi B (tPb S k)) 0 0 (some .boolean)) : ∀ (f : Nat) (I : tHI) (J : tHJ) (v1 : Int32), F12_isCompared_L7 n S k f I J v1 → tWG K B 0 0 S I J 7 [some (vR 61), some (vI v1)] [] := by
  intro f
  induction f with
  | zero => intro I J v1 h; exact h.elim
  | succ f ih => intro I J v1 h; exact W12_isCompared_7 hO hR hG t0 hQ ih h
set_option maxRecDepth 20000 in
theorem hc12_isCompared : tCV yX12_isCompared cX12_isCompared 2 (some .boolean) 0 := ⟨⟨(List.mem_of_getElem? (i := 877) rfl), (List.mem_of_getElem? (i := 5) (by decide +kernel)), by decide +kernel⟩, (List.mem_of_getElem? (i := 875) (by decide +kernel)), (List.mem_of_getElem? (i := 876) (by decide +kernel))⟩
set_option maxRecDepth 100000 in
theorem M12_isCompared {l : Launch} {B : tB} {S : tSH} {I : tHI} {J : tHJ} {n : Nat} {k : Int32 → tHI → tHJ → Prop} (t0 : ty S 61 12) (h : F12_isCompared n S I J k) : Met l yX12_isCompared (tWs yX12_isCompared cX12_isCompared 2 (some .boolean)) (tRm 3 0 0) (tPc B [vR 61] S I J) (tQi B (tPb S k)) 0 0 (tA B) :=
  tEntry (by decide +kernel) [some (vR 61), none] rfl rfl (Nat.le_of_ble_eq_true rfl) (fun K hl hR hO hQ hG => by
  subst hl
  refine gBk (pe := 7) hO [o0 (.aload_n 0), oF (.getfield 303) 12 29 813 0, oI (.iconst 1) 1, o0 .isub, o0 (.istore_n 1)] (by decide +kernel) (And.intro t0 (And.intro (Nat.le_of_ble_eq_true rfl) (show tWG K B 0 0 S I J 7 [some (vR 61), some (vI ((I 61 29) - 1))] [] from ?_)))
  exact W12_isCompared_L7 hO hR hG t0 hQ n _ _ _ h)
set_option maxRecDepth 100000 in
theorem W12_partAt_4 {K : tK} {B : tB} {S : tSH} {MC MS : Nat} (hO : tKO K B RX12 cX12_partAt 3) (hR : kR K = tRm 3 MC MS) (hG : tGr S) {n : Nat} (t0 : ty S 61 12) {k : Int32 → tHI → tHJ → Prop} (hQ : tRet K B (tQi B (tPi S k)) 0 0 (some .int)) {kb4 : tHI → tHJ → Int32 → Int32 → Prop} (hkb4 : ∀ (I : tHI) (J : tHJ) (v1 : Int32) (v2 : Int32), kb4 I J v1 v2 → tWG K B 0 0 S I J 4 [some (vR 61), some (vI v1), some (vI v2)] []) {I : tHI} {J : tHJ} {v1 : Int32} {v2 : Int32} (h : F12_partAt_4 n S k kb4 I J v1 v2) : tWG K B 0 0 S I J 4 [some (vR 61), some (vI v1), some (vI v2)] [] := by
  refine gBk (pe := 7) hO [o0 (.iload_n 2), oI (.bipush 12) 12] (by decide +kernel) (show tWG K B 0 0 S I J 7 [some (vR 61), some (vI v1), some (vI v2)] [vI 12, vI v2] from ?_)
  refine gIcGe hO (off := 30) (tgt := 37) (by decide +kernel) (by decide) (fun c1 => ?_) (fun c1 => ?_)
  · have h := h.1 c1
    refine gBk (pe := 38) hO [o0 (.iload_n 1)] (by decide +kernel) (show tWG K B 0 0 S I J 38 [some (vR 61), some (vI v1), some (vI v2)] [vI v1] from ?_)
    exact gIret hO hQ (by decide +kernel) ⟨rfl, h⟩
  · have h := h.2 c1
    refine gBk (pe := 17) hO [o0 (.aload_n 0), o0 (.aload_n 0), oF (.getfield 81) 12 31 206 76, o0 (.iload_n 2), o0 .laload] (by decide +kernel) (And.intro t0 (And.intro rfl (And.intro (tGr.off hG t0 (k := 31) rfl) (And.intro (tin (tGr.len hG t0 (k := 31) rfl (by decide)) h.1) (show tWG K B 0 0 S I J 17 [some (vR 61), some (vI v1), some (vI v2)] [vL (J 76 v2.toNatClampNeg), vR 61] from ?_)))))
    have h := h.2
    refine gCVi_z hO (M12_isWord t0) hc12_isWord (idx := 321) (w := 801) (by decide +kernel) hR (by omega) t0 ⟨by decide, rfl⟩ (vs := [vL (J 76 v2.toNatClampNeg)]) (st := []) ⟨rfl, Nat.le_of_ble_eq_true rfl, rfl⟩ (by decide +kernel) (fun z2 => ?_)
    have hj3 : ∀ (m4 : Int32), m4 = (if (V12_isWord S I J (J 76 v2.toNatClampNeg)) = 0 then v1 else (v2 + 1)) → tWG K B 0 0 S I J 30 [some (vR 61), none, some (vI v2)] [vI m4] := by
      intro m4 em4
      subst em4
      refine gBk (pe := 4) hO [o0 (.istore_n 1), oI (.iinc 2 1) 1, o0 (.goto (-30))] (by decide +kernel) (And.intro (Nat.le_of_ble_eq_true rfl) (show tWG K B 0 0 S I J 4 [some (vR 61), some (vI (if (V12_isWord S I J (J 76 v2.toNatClampNeg)) = 0 then v1 else (v2 + 1))), some (vI (v2 + 1))] [] from ?_))
      exact hkb4 _ _ _ _ h
    refine gIfEq hO (off := 9) (tgt := 29) (by decide +kernel) (by decide) (fun c5 => ?_) (fun c5 => ?_)
    · refine gBk (pe := 30) hO [o0 (.iload_n 1)] (by decide +kernel) (show tWG K B 0 0 S I J 30 [some (vR 61), some (vI v1), some (vI v2)] [vI v1] from ?_)
      exact gWeak (L' := [some (vR 61), none, some (vI v2)]) ⟨rfl, rfl, trivial⟩ (hj3 _ (Eq.symm (if_pos c5)))
    · refine gBk (pe := 30) hO [o0 (.iload_n 2), oI (.iconst 1) 1, o0 .iadd, o0 (.goto 4)] (by decide +kernel) (show tWG K B 0 0 S I J 30 [some (vR 61), some (vI v1), some (vI v2)] [vI (v2 + 1)] from ?_)
      exact gWeak (L' := [some (vR 61), none, some (vI v2)]) ⟨rfl, rfl, trivial⟩ (hj3 _ (Eq.symm (if_neg c5)))
theorem W12_partAt_L4 {K : tK} {B : tB} {S : tSH} {MC MS : Nat} (hO : tKO K B RX12 cX12_partAt 3) (hR : kR K = tRm 3 MC MS) (hG : tGr S) {n : Nat} (t0 : ty S 61 12) {k : Int32 → tHI → tHJ → Prop} (hQ : tRet K B (tQi B (tPi S k)) 0 0 (some .int)) : ∀ (f : Nat) (I : tHI) (J : tHJ) (v1 : Int32) (v2 : Int32), F12_partAt_L4 n S k f I J v1 v2 → tWG K B 0 0 S I J 4 [some (vR 61), some (vI v1), some (vI v2)] [] := by
  intro f
  induction f with
  | zero => intro I J v1 v2 h; exact h.elim
  | succ f ih => intro I J v1 v2 h; exact W12_partAt_4 hO hR hG t0 hQ ih h
set_option maxRecDepth 20000 in
theorem hc12_partAt : tCV yX12_partAt cX12_partAt 3 (some .int) 0 := ⟨⟨(List.mem_of_getElem? (i := 846) rfl), (List.mem_of_getElem? (i := 5) (by decide +kernel)), by decide +kernel⟩, (List.mem_of_getElem? (i := 844) (by decide +kernel)), (List.mem_of_getElem? (i := 845) (by decide +kernel))⟩
set_option maxRecDepth 100000 in
theorem M12_partAt {l : Launch} {B : tB} {S : tSH} {I : tHI} {J : tHJ} {n : Nat} {k : Int32 → tHI → tHJ → Prop} (t0 : ty S 61 12) (h : F12_partAt n S I J k) : Met l yX12_partAt (tWs yX12_partAt cX12_partAt 3 (some .int)) (tRm 3 0 0) (tPc B [vR 61] S I J) (tQi B (tPi S k)) 0 0 (tA B) :=
  tEntry (by decide +kernel) [some (vR 61), none, none] rfl rfl (Nat.le_of_ble_eq_true rfl) (fun K hl hR hO hQ hG => by
  subst hl
  refine gBk (pe := 4) hO [oI (.iconst (-1)) (-1), o0 (.istore_n 1), oI (.iconst 0) 0, o0 (.istore_n 2)] (by decide +kernel) (And.intro (Nat.le_of_ble_eq_true rfl) (And.intro (Nat.le_of_ble_eq_true rfl) (show tWG K B 0 0 S I J 4 [some (vR 61), some (vI (-1)), some (vI 0)] [] from ?_)))
  exact W12_partAt_L4 hO hR hG t0 hQ n _ _ _ _ h)
set_option maxRecDepth 100000 in
theorem W12_orderPartAt_4 {K : tK} {B : tB} {S : tSH} {MC MS : Nat} (hO : tKO K B RX12 cX12_orderPartAt 3) (hR : kR K = tRm 3 MC MS) (hG : tGr S) {n : Nat} (t0 : ty S 61 12) {k : Int32 → tHI → tHJ → Prop} (hQ : tRet K B (tQi B (tPi S k)) 0 0 (some .int)) {kb4 : tHI → tHJ → Int32 → Int32 → Prop} (hkb4 : ∀ (I : tHI) (J : tHJ) (v1 : Int32) (v2 : Int32), kb4 I J v1 v2 → tWG K B 0 0 S I J 4 [some (vR 61), some (vI v1), some (vI v2)] []) {I : tHI} {J : tHJ} {v1 : Int32} {v2 : Int32} (h : F12_orderPartAt_4 n S k kb4 I J v1 v2) : tWG K B 0 0 S I J 4 [some (vR 61), some (vI v1), some (vI v2)] [] := by
  refine gBk (pe := 7) hO [o0 (.iload_n 2), oI (.bipush 8) 8] (by decide +kernel) (show tWG K B 0 0 S I J 7 [some (vR 61), some (vI v1), some (vI v2)] [vI 8, vI v2] from ?_)
  refine gIcGe hO (off := 30) (tgt := 37) (by decide +kernel) (by decide) (fun c1 => ?_) (fun c1 => ?_)
  · have h := h.1 c1
    refine gBk (pe := 38) hO [o0 (.iload_n 1)] (by decide +kernel) (show tWG K B 0 0 S I J 38 [some (vR 61), some (vI v1), some (vI v2)] [vI v1] from ?_)
    exact gIret hO hQ (by decide +kernel) ⟨rfl, h⟩
  · have h := h.2 c1
    refine gBk (pe := 17) hO [o0 (.aload_n 0), o0 (.aload_n 0), oF (.getfield 97) 12 32 213 77, o0 (.iload_n 2), o0 .laload] (by decide +kernel) (And.intro t0 (And.intro rfl (And.intro (tGr.off hG t0 (k := 32) rfl) (And.intro (tin (tGr.len hG t0 (k := 32) rfl (by decide)) h.1) (show tWG K B 0 0 S I J 17 [some (vR 61), some (vI v1), some (vI v2)] [vL (J 77 v2.toNatClampNeg), vR 61] from ?_)))))
    have h := h.2
    refine gCVi_z hO (M12_isWord t0) hc12_isWord (idx := 321) (w := 801) (by decide +kernel) hR (by omega) t0 ⟨by decide, rfl⟩ (vs := [vL (J 77 v2.toNatClampNeg)]) (st := []) ⟨rfl, Nat.le_of_ble_eq_true rfl, rfl⟩ (by decide +kernel) (fun z2 => ?_)
    have hj3 : ∀ (m4 : Int32), m4 = (if (V12_isWord S I J (J 77 v2.toNatClampNeg)) = 0 then v1 else (v2 + 1)) → tWG K B 0 0 S I J 30 [some (vR 61), none, some (vI v2)] [vI m4] := by
      intro m4 em4
      subst em4
      refine gBk (pe := 4) hO [o0 (.istore_n 1), oI (.iinc 2 1) 1, o0 (.goto (-30))] (by decide +kernel) (And.intro (Nat.le_of_ble_eq_true rfl) (show tWG K B 0 0 S I J 4 [some (vR 61), some (vI (if (V12_isWord S I J (J 77 v2.toNatClampNeg)) = 0 then v1 else (v2 + 1))), some (vI (v2 + 1))] [] from ?_))
      exact hkb4 _ _ _ _ h
    refine gIfEq hO (off := 9) (tgt := 29) (by decide +kernel) (by decide) (fun c5 => ?_) (fun c5 => ?_)
    · refine gBk (pe := 30) hO [o0 (.iload_n 1)] (by decide +kernel) (show tWG K B 0 0 S I J 30 [some (vR 61), some (vI v1), some (vI v2)] [vI v1] from ?_)
      exact gWeak (L' := [some (vR 61), none, some (vI v2)]) ⟨rfl, rfl, trivial⟩ (hj3 _ (Eq.symm (if_pos c5)))
    · refine gBk (pe := 30) hO [o0 (.iload_n 2), oI (.iconst 1) 1, o0 .iadd, o0 (.goto 4)] (by decide +kernel) (show tWG K B 0 0 S I J 30 [some (vR 61), some (vI v1), some (vI v2)] [vI (v2 + 1)] from ?_)
      exact gWeak (L' := [some (vR 61), none, some (vI v2)]) ⟨rfl, rfl, trivial⟩ (hj3 _ (Eq.symm (if_neg c5)))
theorem W12_orderPartAt_L4 {K : tK} {B : tB} {S : tSH} {MC MS : Nat} (hO : tKO K B RX12 cX12_orderPartAt 3) (hR : kR K = tRm 3 MC MS) (hG : tGr S) {n : Nat} (t0 : ty S 61 12) {k : Int32 → tHI → tHJ → Prop} (hQ : tRet K B (tQi B (tPi S k)) 0 0 (some .int)) : ∀ (f : Nat) (I : tHI) (J : tHJ) (v1 : Int32) (v2 : Int32), F12_orderPartAt_L4 n S k f I J v1 v2 → tWG K B 0 0 S I J 4 [some (vR 61), some (vI v1), some (vI v2)] [] := by
  intro f
  induction f with
  | zero => intro I J v1 v2 h; exact h.elim
  | succ f ih => intro I J v1 v2 h; exact W12_orderPartAt_4 hO hR hG t0 hQ ih h
set_option maxRecDepth 20000 in
theorem hc12_orderPartAt : tCV yX12_orderPartAt cX12_orderPartAt 3 (some .int) 0 := ⟨⟨(List.mem_of_getElem? (i := 842) rfl), (List.mem_of_getElem? (i := 5) (by decide +kernel)), by decide +kernel⟩, (List.mem_of_getElem? (i := 840) (by decide +kernel)), (List.mem_of_getElem? (i := 841) (by decide +kernel))⟩
set_option maxRecDepth 100000 in
theorem M12_orderPartAt {l : Launch} {B : tB} {S : tSH} {I : tHI} {J : tHJ} {n : Nat} {k : Int32 → tHI → tHJ → Prop} (t0 : ty S 61 12) (h : F12_orderPartAt n S I J k) : Met l yX12_orderPartAt (tWs yX12_orderPartAt cX12_orderPartAt 3 (some .int)) (tRm 3 0 0) (tPc B [vR 61] S I J) (tQi B (tPi S k)) 0 0 (tA B) :=
  tEntry (by decide +kernel) [some (vR 61), none, none] rfl rfl (Nat.le_of_ble_eq_true rfl) (fun K hl hR hO hQ hG => by
  subst hl
  refine gBk (pe := 4) hO [oI (.iconst (-1)) (-1), o0 (.istore_n 1), oI (.iconst 0) 0, o0 (.istore_n 2)] (by decide +kernel) (And.intro (Nat.le_of_ble_eq_true rfl) (And.intro (Nat.le_of_ble_eq_true rfl) (show tWG K B 0 0 S I J 4 [some (vR 61), some (vI (-1)), some (vI 0)] [] from ?_)))
  exact W12_orderPartAt_L4 hO hR hG t0 hQ n _ _ _ _ h)
set_option maxRecDepth 100000 in
theorem W12_openBracket_41 {K : tK} {B : tB} {S : tSH} {MC MS : Nat} (hO : tKO K B RX12 cX12_openBracket 2) (hR : kR K = tRm 5 MC MS) (hG : tGr S) {n : Nat} (t0 : ty S 61 12) {k : tHI → tHJ → Prop} (hQ : tRet K B (tQv B (tPv S k)) 0 0 none) {I : tHI} {J : tHJ} (h : F12_openBracket_41 n S k I J) : tWG K B 0 0 S I J 41 [none, none] [] := by
  exact gVret hO hQ (by decide +kernel) ⟨rfl, h⟩
set_option maxRecDepth 20000 in
theorem hc12_openBracket : tCV yX12_openBracket cX12_openBracket 2 none 1 := ⟨⟨(List.mem_of_getElem? (i := 831) rfl), (List.mem_of_getElem? (i := 5) (by decide +kernel)), by decide +kernel⟩, (List.mem_of_getElem? (i := 829) (by decide +kernel)), (List.mem_of_getElem? (i := 830) (by decide +kernel))⟩
set_option maxRecDepth 100000 in
theorem M12_openBracket {l : Launch} {B : tB} {S : tSH} {I : tHI} {J : tHJ} {v1 : Int32} {n : Nat} {k : tHI → tHJ → Prop} (t0 : ty S 61 12) (h : F12_openBracket n S I J v1 k) : Met l yX12_openBracket (tWs yX12_openBracket cX12_openBracket 2 none) (tRm 5 0 0) (tPc B [vR 61, vI v1] S I J) (tQv B (tPv S k)) 0 0 (tA B) :=
  tEntry (by decide +kernel) [some (vR 61), some (vI v1)] rfl rfl (Nat.le_of_ble_eq_true rfl) (fun K hl hR hO hQ hG => by
  subst hl
  refine gBk (pe := 7) hO [o0 (.aload_n 0), o0 (.aload_n 0), oF (.getfield 325) 12 30 814 0, oI (.bipush 8) 8] (by decide +kernel) (And.intro t0 (show tWG K B 0 0 S I J 7 [some (vR 61), some (vI v1)] [vI 8, vI (I 61 30), vR 61] from ?_))
  have hj1 : ∀ (m2 : Int32), m2 = (if 8 ≤ (I 61 30) then (0 : Int32) else 1) → tWG K B 0 0 S I J 15 [some (vR 61), some (vI v1)] [vI m2, vR 61] := by
    intro m2 em2
    subst em2
    refine gCVv_c hO (M12_must t0 h) hc12_must (idx := 296) (w := 805) (by decide +kernel) hR (by omega) t0 ⟨by decide, rfl⟩ (vs := [vI (if 8 ≤ (I 61 30) then (0 : Int32) else 1)]) (st := []) ⟨rfl, Nat.le_of_ble_eq_true rfl, rfl⟩ (by decide +kernel) (fun I4 J5 h => ?_)
    refine gBk (pe := 22) hO [o0 (.aload_n 0), oF (.getfield 261) 12 19 766 0] (by decide +kernel) (And.intro t0 (show tWG K B 0 0 S I4 J5 22 [some (vR 61), some (vI v1)] [vI (I4 61 19)] from ?_))
    refine gIfNe hO (off := 19) (tgt := 41) (by decide +kernel) (by decide) (fun c6 => ?_) (fun c6 => ?_)
    · have h := h.1 c6
      exact gWeak (L' := [none, none]) trivial (W12_openBracket_41 hO hR hG t0 hQ h)
    · have h := h.2 c6
      refine gBk (pe := 38) hO [o0 (.aload_n 0), o0 .dup, oF (.getfield 325) 12 30 814 0, oI (.iconst 1) 1, o0 .iadd, oF (.putfield 325) 12 30 814 0, o0 (.aload_n 0), o0 (.iload_n 1), oI (.iconst 0) 0] (by decide +kernel) (And.intro t0 (And.intro t0 (show tWG K B 0 0 S (uI I4 61 30 ((I4 61 30) + 1)) J5 38 [some (vR 61), some (vI v1)] [vI 0, vI v1, vR 61] from ?_)))
      refine gCVv_c hO (M12_push t0 h) hc12_push (idx := 328) (w := 820) (by decide +kernel) hR (by omega) t0 ⟨by decide, rfl⟩ (vs := [vI v1, vI 0]) (st := []) ⟨rfl, Nat.le_of_ble_eq_true rfl, rfl⟩ (by decide +kernel) (fun I7 J8 h => ?_)
      exact gWeak (L' := [none, none]) trivial (W12_openBracket_41 hO hR hG t0 hQ h)
  refine gIcGe hO (off := 7) (tgt := 14) (by decide +kernel) (by decide) (fun c3 => ?_) (fun c3 => ?_)
  · refine gBk (pe := 15) hO [oI (.iconst 0) 0] (by decide +kernel) (show tWG K B 0 0 S I J 15 [some (vR 61), some (vI v1)] [vI 0, vR 61] from ?_)
    exact (hj1 _ (Eq.symm (if_pos c3)))
  · refine gBk (pe := 15) hO [oI (.iconst 1) 1, o0 (.goto 4)] (by decide +kernel) (show tWG K B 0 0 S I J 15 [some (vR 61), some (vI v1)] [vI 1, vR 61] from ?_)
    exact (hj1 _ (Eq.symm (if_neg c3))))
set_option maxRecDepth 100000 in
theorem W12_leaf_45 {K : tK} {B : tB} {S : tSH} {MC MS : Nat} (hO : tKO K B RX12 cX12_leaf 4) (hR : kR K = tRm 5 MC MS) (hG : tGr S) {n : Nat} (t0 : ty S 61 12) {k : tHI → tHJ → Prop} (hQ : tRet K B (tQv B (tPv S k)) 0 0 none) {I : tHI} {J : tHJ} (h : F12_leaf_45 n S k I J) : tWG K B 0 0 S I J 45 [none, none, none, none] [] := by
  exact gVret hO hQ (by decide +kernel) ⟨rfl, h⟩
set_option maxRecDepth 20000 in
theorem hc12_leaf : tCV yX12_leaf cX12_leaf 4 none 3 := ⟨⟨(List.mem_of_getElem? (i := 850) rfl), (List.mem_of_getElem? (i := 5) (by decide +kernel)), by decide +kernel⟩, (List.mem_of_getElem? (i := 848) (by decide +kernel)), (List.mem_of_getElem? (i := 849) (by decide +kernel))⟩
set_option maxRecDepth 100000 in
theorem M12_leaf {l : Launch} {B : tB} {S : tSH} {I : tHI} {J : tHJ} {v1 : Int32} {v2 : Int32} {v3 : Int32} {n : Nat} {k : tHI → tHJ → Prop} (t0 : ty S 61 12) (h : F12_leaf n S I J v1 v2 v3 k) : Met l yX12_leaf (tWs yX12_leaf cX12_leaf 4 none) (tRm 5 0 0) (tPc B [vR 61, vI v1, vI v2, vI v3] S I J) (tQv B (tPv S k)) 0 0 (tA B) :=
  tEntry (by decide +kernel) [some (vR 61), some (vI v1), some (vI v2), some (vI v3)] rfl rfl (Nat.le_of_ble_eq_true rfl) (fun K hl hR hO hQ hG => by
  subst hl
  refine gBk (pe := 2) hO [o0 (.aload_n 0), o0 (.iload_n 1)] (by decide +kernel) (show tWG K B 0 0 S I J 2 [some (vR 61), some (vI v1), some (vI v2), some (vI v3)] [vI v1, vR 61] from ?_)
  have hj1 : ∀ (m2 : Int32), m2 = (if v1 = 0 then 0 else (if 50 ≤ (I 61 26) then (0 : Int32) else 1)) → tWG K B 0 0 S I J 19 [some (vR 61), none, some (vI v2), some (vI v3)] [vI m2, vR 61] := by
    intro m2 em2
    subst em2
    refine gCVv_c hO (M12_must t0 h) hc12_must (idx := 296) (w := 805) (by decide +kernel) hR (by omega) t0 ⟨by decide, rfl⟩ (vs := [vI (if v1 = 0 then 0 else (if 50 ≤ (I 61 26) then (0 : Int32) else 1))]) (st := []) ⟨rfl, Nat.le_of_ble_eq_true rfl, rfl⟩ (by decide +kernel) (fun I5 J6 h => ?_)
    refine gBk (pe := 26) hO [o0 (.aload_n 0), oF (.getfield 261) 12 19 766 0] (by decide +kernel) (And.intro t0 (show tWG K B 0 0 S I5 J6 26 [some (vR 61), none, some (vI v2), some (vI v3)] [vI (I5 61 19)] from ?_))
    refine gIfNe hO (off := 19) (tgt := 45) (by decide +kernel) (by decide) (fun c7 => ?_) (fun c7 => ?_)
    · have h := h.1 c7
      exact gWeak (L' := [none, none, none, none]) trivial (W12_leaf_45 hO hR hG t0 hQ h)
    · have h := h.2 c7
      refine gBk (pe := 32) hO [o0 (.aload_n 0), o0 (.iload_n 2), o0 (.iload_n 3)] (by decide +kernel) (show tWG K B 0 0 S I5 J6 32 [some (vR 61), none, some (vI v2), some (vI v3)] [vI v3, vI v2, vR 61] from ?_)
      refine gCVv_c hO (M12_emit t0 h) hc12_emit (idx := 309) (w := 851) (by decide +kernel) hR (by omega) t0 ⟨by decide, rfl⟩ (vs := [vI v2, vI v3]) (st := []) ⟨rfl, Nat.le_of_ble_eq_true rfl, rfl⟩ (by decide +kernel) (fun I8 J9 h => ?_)
      refine gBk (pe := 45) hO [o0 (.aload_n 0), o0 .dup, oF (.getfield 331) 12 26 773 0, oI (.iconst 1) 1, o0 .iadd, oF (.putfield 331) 12 26 773 0] (by decide +kernel) (And.intro t0 (And.intro t0 (show tWG K B 0 0 S (uI I8 61 26 ((I8 61 26) + 1)) J9 45 [some (vR 61), none, some (vI v2), some (vI v3)] [] from ?_)))
      exact gWeak (L' := [none, none, none, none]) trivial (W12_leaf_45 hO hR hG t0 hQ h)
  refine gIfEq hO (off := 16) (tgt := 18) (by decide +kernel) (by decide) (fun c3 => ?_) (fun c3 => ?_)
  · refine gBk (pe := 19) hO [oI (.iconst 0) 0] (by decide +kernel) (show tWG K B 0 0 S I J 19 [some (vR 61), some (vI v1), some (vI v2), some (vI v3)] [vI 0, vR 61] from ?_)
    exact gWeak (L' := [some (vR 61), none, some (vI v2), some (vI v3)]) ⟨rfl, rfl, rfl, trivial⟩ (hj1 _ (Eq.symm (if_pos c3)))
  · refine gBk (pe := 11) hO [o0 (.aload_n 0), oF (.getfield 331) 12 26 773 0, oI (.bipush 50) 50] (by decide +kernel) (And.intro t0 (show tWG K B 0 0 S I J 11 [some (vR 61), some (vI v1), some (vI v2), some (vI v3)] [vI 50, vI (I 61 26), vR 61] from ?_))
    refine gIcGe hO (off := 7) (tgt := 18) (by decide +kernel) (by decide) (fun c4 => ?_) (fun c4 => ?_)
    · refine gBk (pe := 19) hO [oI (.iconst 0) 0] (by decide +kernel) (show tWG K B 0 0 S I J 19 [some (vR 61), some (vI v1), some (vI v2), some (vI v3)] [vI 0, vR 61] from ?_)
      exact gWeak (L' := [some (vR 61), none, some (vI v2), some (vI v3)]) ⟨rfl, rfl, rfl, trivial⟩ (hj1 _ (Eq.symm ((if_neg c3).trans (if_pos c4))))
    · refine gBk (pe := 19) hO [oI (.iconst 1) 1, o0 (.goto 4)] (by decide +kernel) (show tWG K B 0 0 S I J 19 [some (vR 61), some (vI v1), some (vI v2), some (vI v3)] [vI 1, vR 61] from ?_)
      exact gWeak (L' := [some (vR 61), none, some (vI v2), some (vI v3)]) ⟨rfl, rfl, rfl, trivial⟩ (hj1 _ (Eq.symm ((if_neg c3).trans (if_neg c4)))))
set_option maxRecDepth 100000 in
theorem W12_readPart_155 {K : tK} {B : tB} {S : tSH} {MC MS : Nat} (hO : tKO K B RX12 cX12_readPart 4) (hR : kR K = tRm 6 MC MS) (hG : tGr S) {n : Nat} (t0 : ty S 61 12) {k : Int32 → tHI → tHJ → Prop} (hQ : tRet K B (tQi B (tPi S k)) 0 0 (some .int)) {I : tHI} {J : tHJ} (h : F12_readPart_155 n S k I J) : tWG K B 0 0 S I J 155 [none, none, none, none] [] := by
  refine gBk (pe := 156) hO [oI (.iconst 3) 3] (by decide +kernel) (show tWG K B 0 0 S I J 156 [none, none, none, none] [vI 3] from ?_)
  exact gIret hO hQ (by decide +kernel) ⟨rfl, h⟩
set_option maxRecDepth 100000 in
theorem W12_readPart_35 {K : tK} {B : tB} {S : tSH} {MC MS : Nat} (hO : tKO K B RX12 cX12_readPart 4) (hR : kR K = tRm 6 MC MS) (hG : tGr S) {n : Nat} (t0 : ty S 61 12) {k : Int32 → tHI → tHJ → Prop} (hQ : tRet K B (tQi B (tPi S k)) 0 0 (some .int)) {I : tHI} {J : tHJ} {s0 : Int32} (h : F12_readPart_35 n S k I J s0) : tWG K B 0 0 S I J 35 [some (vR 61), none, none, none] [vI s0] := by
  refine gBk (pe := 41) hO [o0 (.istore_n 1), o0 (.aload_n 0), oF (.getfield 281) 12 16 785 0, oI (.iconst 2) 2] (by decide +kernel) (And.intro (Nat.le_of_ble_eq_true rfl) (And.intro t0 (show tWG K B 0 0 S I J 41 [some (vR 61), some (vI s0), none, none] [vI 2, vI (I 61 16)] from ?_)))
  have hj7 : ∀ (m8 : Int32), m8 = (if (I 61 16) = 2 then (if 0 < (lg_cmp (J 61 17) 1000) then (0 : Int32) else 1) else 0) → tWG K B 0 0 S I J 60 [some (vR 61), some (vI s0), none, none] [vI m8] := by
    intro m8 em8
    subst em8
    refine gBk (pe := 64) hO [o0 (.istore_n 2), o0 (.aload_n 0), o0 (.iload_n 1), oI (.iconst (-1)) (-1)] (by decide +kernel) (And.intro (Nat.le_of_ble_eq_true rfl) (show tWG K B 0 0 S I J 64 [some (vR 61), some (vI s0), some (vI (if (I 61 16) = 2 then (if 0 < (lg_cmp (J 61 17) 1000) then (0 : Int32) else 1) else 0)), none] [vI (-1), vI s0, vR 61] from ?_))
    have hj11 : ∀ (m12 : Int32), m12 = (if s0 = (-1) then (if (if (I 61 16) = 2 then (if 0 < (lg_cmp (J 61 17) 1000) then (0 : Int32) else 1) else 0) = 0 then (0 : Int32) else 1) else 1) → tWG K B 0 0 S I J 76 [some (vR 61), some (vI s0), some (vI (if (I 61 16) = 2 then (if 0 < (lg_cmp (J 61 17) 1000) then (0 : Int32) else 1) else 0)), none] [vI m12, vR 61] := by
      intro m12 em12
      subst em12
      refine gBk (pe := 78) hO [o0 (.iload_n 1), oI (.iconst (-1)) (-1)] (by decide +kernel) (show tWG K B 0 0 S I J 78 [some (vR 61), some (vI s0), some (vI (if (I 61 16) = 2 then (if 0 < (lg_cmp (J 61 17) 1000) then (0 : Int32) else 1) else 0)), none] [vI (-1), vI s0, vI (if s0 = (-1) then (if (if (I 61 16) = 2 then (if 0 < (lg_cmp (J 61 17) 1000) then (0 : Int32) else 1) else 0) = 0 then (0 : Int32) else 1) else 1), vR 61] from ?_)
      have hj15 : ∀ (m16 : Int32), m16 = (if s0 = (-1) then 0 else s0) → tWG K B 0 0 S I J 86 [some (vR 61), some (vI s0), some (vI (if (I 61 16) = 2 then (if 0 < (lg_cmp (J 61 17) 1000) then (0 : Int32) else 1) else 0)), none] [vI m16, vI (if s0 = (-1) then (if (if (I 61 16) = 2 then (if 0 < (lg_cmp (J 61 17) 1000) then (0 : Int32) else 1) else 0) = 0 then (0 : Int32) else 1) else 1), vR 61] := by
        intro m16 em16
        subst em16
        refine gBk (pe := 87) hO [o0 (.iload_n 2)] (by decide +kernel) (show tWG K B 0 0 S I J 87 [some (vR 61), some (vI s0), some (vI (if (I 61 16) = 2 then (if 0 < (lg_cmp (J 61 17) 1000) then (0 : Int32) else 1) else 0)), none] [vI (if (I 61 16) = 2 then (if 0 < (lg_cmp (J 61 17) 1000) then (0 : Int32) else 1) else 0), vI (if s0 = (-1) then 0 else s0), vI (if s0 = (-1) then (if (if (I 61 16) = 2 then (if 0 < (lg_cmp (J 61 17) 1000) then (0 : Int32) else 1) else 0) = 0 then (0 : Int32) else 1) else 1), vR 61] from ?_)
        have hj18 : ∀ (m19 : Int32), m19 = (if (if (I 61 16) = 2 then (if 0 < (lg_cmp (J 61 17) 1000) then (0 : Int32) else 1) else 0) = 0 then 0 else (J 61 17).toInt32) → tWG K B 0 0 S I J 99 [some (vR 61), some (vI s0), none, none] [vI m19, vI (if s0 = (-1) then 0 else s0), vI (if s0 = (-1) then (if (if (I 61 16) = 2 then (if 0 < (lg_cmp (J 61 17) 1000) then (0 : Int32) else 1) else 0) = 0 then (0 : Int32) else 1) else 1), vR 61] := by
          intro m19 em19
          subst em19
          refine gCVv_c hO (M12_leaf t0 h) hc12_leaf (idx := 352) (w := 847) (by decide +kernel) hR (by omega) t0 ⟨by decide, rfl⟩ (vs := [vI (if s0 = (-1) then (if (if (I 61 16) = 2 then (if 0 < (lg_cmp (J 61 17) 1000) then (0 : Int32) else 1) else 0) = 0 then (0 : Int32) else 1) else 1), vI (if s0 = (-1) then 0 else s0), vI (if (if (I 61 16) = 2 then (if 0 < (lg_cmp (J 61 17) 1000) then (0 : Int32) else 1) else 0) = 0 then 0 else (J 61 17).toInt32)]) (st := []) ⟨rfl, Nat.le_of_ble_eq_true rfl, rfl⟩ (by decide +kernel) (fun I21 J22 h => ?_)
          refine gBk (pe := 106) hO [o0 (.aload_n 0), oF (.getfield 340) 12 20 348 0] (by decide +kernel) (And.intro t0 (show tWG K B 0 0 S I21 J22 106 [some (vR 61), some (vI s0), none, none] [vI (I21 61 20)] from ?_))
          refine gIfEq hO (off := 49) (tgt := 155) (by decide +kernel) (by decide) (fun c23 => ?_) (fun c23 => ?_)
          · have h := h.1 c23
            exact gWeak (L' := [none, none, none, none]) trivial (W12_readPart_155 hO hR hG t0 hQ h)
          · have h := h.2 c23
            refine gBk (pe := 112) hO [o0 (.iload_n 1), oI (.bipush 7) 7] (by decide +kernel) (show tWG K B 0 0 S I21 J22 112 [some (vR 61), some (vI s0), none, none] [vI 7, vI s0] from ?_)
            refine gIcLt hO (off := 43) (tgt := 155) (by decide +kernel) (by decide) (fun c24 => ?_) (fun c24 => ?_)
            · have h := h.1 c24
              exact gWeak (L' := [none, none, none, none]) trivial (W12_readPart_155 hO hR hG t0 hQ h)
            · have h := h.2 c24
              refine gBk (pe := 119) hO [o0 (.aload_n 0), oF (.getfield 261) 12 19 766 0] (by decide +kernel) (And.intro t0 (show tWG K B 0 0 S I21 J22 119 [some (vR 61), some (vI s0), none, none] [vI (I21 61 19)] from ?_))
              refine gIfNe hO (off := 36) (tgt := 155) (by decide +kernel) (by decide) (fun c25 => ?_) (fun c25 => ?_)
              · have h := h.1 c25
                exact gWeak (L' := [none, none, none, none]) trivial (W12_readPart_155 hO hR hG t0 hQ h)
              · have h := h.2 c25
                refine gBk (pe := 139) hO [o0 (.aload_n 0), oF (.getfield 300) 12 23 768 0, oI (.iconst 1) 1, o0 .isub, o0 (.istore_n 3), o0 (.aload_n 0), oF (.getfield 48) 12 25 191 73, o0 (.iload_n 3), o0 (.aload_n 0), oJ (.lconst 0) 0 0, o0 (.iload_n 1), oI (.bipush 7) 7] (by decide +kernel) (And.intro t0 (And.intro (Nat.le_of_ble_eq_true rfl) (And.intro t0 (And.intro rfl (show tWG K B 0 0 S I21 J22 139 [some (vR 61), some (vI s0), none, some (vI ((I21 61 23) - 1))] [vI 7, vI s0, vL 0, vR 61, vI ((I21 61 23) - 1), vR 73] from ?_)))))
                have hj26 : ∀ (m27 : Int64), m27 = (if s0 = 7 then (11 : Int64) else 5) → tWG K B 0 0 S I21 J22 151 [none, none, none, none] [vL m27, vL 0, vR 61, vI ((I21 61 23) - 1), vR 73] := by
                  intro m27 em27
                  subst em27
                  refine gCVi_c hO (M12_number t0 h) hc12_number (idx := 360) (w := 855) (by decide +kernel) hR (by omega) t0 ⟨by decide, rfl⟩ (vs := [vL 0, vL (if s0 = 7 then (11 : Int64) else 5)]) (st := [vI ((I21 61 23) - 1), vR 73]) ⟨rfl, Nat.le_of_ble_eq_true rfl, rfl⟩ (by decide +kernel) (fun x31 I29 J30 h => ?_)
                  refine gBk (pe := 155) hO [o0 .iastore] (by decide +kernel) (And.intro (tGr.off hG t0 (k := 25) rfl) (And.intro (tin (tGr.len hG t0 (k := 25) rfl (by decide)) h.1) (show tWG K B 0 0 S (uI I29 73 ((I21 61 23) - 1).toNatClampNeg x31) J30 155 [none, none, none, none] [] from ?_)))
                  have h := h.2
                  exact W12_readPart_155 hO hR hG t0 hQ h
                refine gIcNe hO (off := 9) (tgt := 148) (by decide +kernel) (by decide) (fun c28 => ?_) (fun c28 => ?_)
                · refine gBk (pe := 151) hO [(.ldc2_w 358, (0, 0, 838, 0), 0, 5)] (by decide +kernel) (show tWG K B 0 0 S I21 J22 151 [some (vR 61), some (vI s0), none, some (vI ((I21 61 23) - 1))] [vL 5, vL 0, vR 61, vI ((I21 61 23) - 1), vR 73] from ?_)
                  exact gWeak (L' := [none, none, none, none]) trivial (hj26 _ (Eq.symm (if_neg c28)))
                · refine gBk (pe := 151) hO [(.ldc2_w 356, (0, 0, 837, 0), 0, 11), o0 (.goto 6)] (by decide +kernel) (show tWG K B 0 0 S I21 J22 151 [some (vR 61), some (vI s0), none, some (vI ((I21 61 23) - 1))] [vL 11, vL 0, vR 61, vI ((I21 61 23) - 1), vR 73] from ?_)
                  exact gWeak (L' := [none, none, none, none]) trivial (hj26 _ (Eq.symm (if_pos c28)))
        refine gIfEq hO (off := 11) (tgt := 98) (by decide +kernel) (by decide) (fun c20 => ?_) (fun c20 => ?_)
        · refine gBk (pe := 99) hO [oI (.iconst 0) 0] (by decide +kernel) (show tWG K B 0 0 S I J 99 [some (vR 61), some (vI s0), some (vI (if (I 61 16) = 2 then (if 0 < (lg_cmp (J 61 17) 1000) then (0 : Int32) else 1) else 0)), none] [vI 0, vI (if s0 = (-1) then 0 else s0), vI (if s0 = (-1) then (if (if (I 61 16) = 2 then (if 0 < (lg_cmp (J 61 17) 1000) then (0 : Int32) else 1) else 0) = 0 then (0 : Int32) else 1) else 1), vR 61] from ?_)
          exact gWeak (L' := [some (vR 61), some (vI s0), none, none]) ⟨rfl, rfl, trivial⟩ (hj18 _ (Eq.symm (if_pos c20)))
        · refine gBk (pe := 99) hO [o0 (.aload_n 0), oF (.getfield 271) 12 17 784 0, o0 .l2i, o0 (.goto 4)] (by decide +kernel) (And.intro t0 (show tWG K B 0 0 S I J 99 [some (vR 61), some (vI s0), some (vI (if (I 61 16) = 2 then (if 0 < (lg_cmp (J 61 17) 1000) then (0 : Int32) else 1) else 0)), none] [vI ((J 61 17).toInt32), vI (if s0 = (-1) then 0 else s0), vI (if s0 = (-1) then (if (if (I 61 16) = 2 then (if 0 < (lg_cmp (J 61 17) 1000) then (0 : Int32) else 1) else 0) = 0 then (0 : Int32) else 1) else 1), vR 61] from ?_))
          exact gWeak (L' := [some (vR 61), some (vI s0), none, none]) ⟨rfl, rfl, trivial⟩ (hj18 _ (Eq.symm (if_neg c20)))
      refine gIcNe hO (off := 7) (tgt := 85) (by decide +kernel) (by decide) (fun c17 => ?_) (fun c17 => ?_)
      · refine gBk (pe := 86) hO [o0 (.iload_n 1)] (by decide +kernel) (show tWG K B 0 0 S I J 86 [some (vR 61), some (vI s0), some (vI (if (I 61 16) = 2 then (if 0 < (lg_cmp (J 61 17) 1000) then (0 : Int32) else 1) else 0)), none] [vI s0, vI (if s0 = (-1) then (if (if (I 61 16) = 2 then (if 0 < (lg_cmp (J 61 17) 1000) then (0 : Int32) else 1) else 0) = 0 then (0 : Int32) else 1) else 1), vR 61] from ?_)
        exact (hj15 _ (Eq.symm (if_neg c17)))
      · refine gBk (pe := 86) hO [oI (.iconst 0) 0, o0 (.goto 4)] (by decide +kernel) (show tWG K B 0 0 S I J 86 [some (vR 61), some (vI s0), some (vI (if (I 61 16) = 2 then (if 0 < (lg_cmp (J 61 17) 1000) then (0 : Int32) else 1) else 0)), none] [vI 0, vI (if s0 = (-1) then (if (if (I 61 16) = 2 then (if 0 < (lg_cmp (J 61 17) 1000) then (0 : Int32) else 1) else 0) = 0 then (0 : Int32) else 1) else 1), vR 61] from ?_)
        exact (hj15 _ (Eq.symm (if_pos c17)))
    refine gIcNe hO (off := 7) (tgt := 71) (by decide +kernel) (by decide) (fun c13 => ?_) (fun c13 => ?_)
    · refine gBk (pe := 76) hO [oI (.iconst 1) 1, o0 (.goto 4)] (by decide +kernel) (show tWG K B 0 0 S I J 76 [some (vR 61), some (vI s0), some (vI (if (I 61 16) = 2 then (if 0 < (lg_cmp (J 61 17) 1000) then (0 : Int32) else 1) else 0)), none] [vI 1, vR 61] from ?_)
      exact (hj11 _ (Eq.symm (if_neg c13)))
    · refine gBk (pe := 68) hO [o0 (.iload_n 2)] (by decide +kernel) (show tWG K B 0 0 S I J 68 [some (vR 61), some (vI s0), some (vI (if (I 61 16) = 2 then (if 0 < (lg_cmp (J 61 17) 1000) then (0 : Int32) else 1) else 0)), none] [vI (if (I 61 16) = 2 then (if 0 < (lg_cmp (J 61 17) 1000) then (0 : Int32) else 1) else 0), vR 61] from ?_)
      refine gIfEq hO (off := 7) (tgt := 75) (by decide +kernel) (by decide) (fun c14 => ?_) (fun c14 => ?_)
      · refine gBk (pe := 76) hO [oI (.iconst 0) 0] (by decide +kernel) (show tWG K B 0 0 S I J 76 [some (vR 61), some (vI s0), some (vI (if (I 61 16) = 2 then (if 0 < (lg_cmp (J 61 17) 1000) then (0 : Int32) else 1) else 0)), none] [vI 0, vR 61] from ?_)
        exact (hj11 _ (Eq.symm ((if_pos c13).trans (if_pos c14))))
      · refine gBk (pe := 76) hO [oI (.iconst 1) 1, o0 (.goto 4)] (by decide +kernel) (show tWG K B 0 0 S I J 76 [some (vR 61), some (vI s0), some (vI (if (I 61 16) = 2 then (if 0 < (lg_cmp (J 61 17) 1000) then (0 : Int32) else 1) else 0)), none] [vI 1, vR 61] from ?_)
        exact (hj11 _ (Eq.symm ((if_pos c13).trans (if_neg c14))))
  refine gIcNe hO (off := 18) (tgt := 59) (by decide +kernel) (by decide) (fun c9 => ?_) (fun c9 => ?_)
  · refine gBk (pe := 60) hO [oI (.iconst 0) 0] (by decide +kernel) (show tWG K B 0 0 S I J 60 [some (vR 61), some (vI s0), none, none] [vI 0] from ?_)
    exact (hj7 _ (Eq.symm (if_neg c9)))
  · refine gBk (pe := 48) hO [o0 (.aload_n 0), oF (.getfield 271) 12 17 784 0] (by decide +kernel) (And.intro t0 (show tWG K B 0 0 S I J 48 [some (vR 61), some (vI s0), none, none] [vL (J 61 17)] from ?_))
    refine gBk (pe := 52) hO [(.ldc2_w 350, (0, 0, 836, 0), 0, 1000), o0 .lcmp] (by decide +kernel) (show tWG K B 0 0 S I J 52 [some (vR 61), some (vI s0), none, none] [vI (lg_cmp (J 61 17) 1000)] from ?_)
    refine gIfGt hO (off := 7) (tgt := 59) (by decide +kernel) (by decide) (fun c10 => ?_) (fun c10 => ?_)
    · refine gBk (pe := 60) hO [oI (.iconst 0) 0] (by decide +kernel) (show tWG K B 0 0 S I J 60 [some (vR 61), some (vI s0), none, none] [vI 0] from ?_)
      exact (hj7 _ (Eq.symm ((if_pos c9).trans (if_pos c10))))
    · refine gBk (pe := 60) hO [oI (.iconst 1) 1, o0 (.goto 4)] (by decide +kernel) (show tWG K B 0 0 S I J 60 [some (vR 61), some (vI s0), none, none] [vI 1] from ?_)
      exact (hj7 _ (Eq.symm ((if_pos c9).trans (if_neg c10))))
set_option maxRecDepth 20000 in
theorem hc12_readPart : tCV yX12_readPart cX12_readPart 4 (some .int) 0 := ⟨⟨(List.mem_of_getElem? (i := 835) rfl), (List.mem_of_getElem? (i := 5) (by decide +kernel)), by decide +kernel⟩, (List.mem_of_getElem? (i := 833) (by decide +kernel)), (List.mem_of_getElem? (i := 834) (by decide +kernel))⟩
set_option maxRecDepth 100000 in
theorem M12_readPart {l : Launch} {B : tB} {S : tSH} {I : tHI} {J : tHJ} {n : Nat} {k : Int32 → tHI → tHJ → Prop} (t0 : ty S 61 12) (h : F12_readPart n S I J k) : Met l yX12_readPart (tWs yX12_readPart cX12_readPart 4 (some .int)) (tRm 6 0 0) (tPc B [vR 61] S I J) (tQi B (tPi S k)) 0 0 (tA B) :=
  tEntry (by decide +kernel) [some (vR 61), none, none, none] rfl rfl (Nat.le_of_ble_eq_true rfl) (fun K hl hR hO hQ hG => by
  subst hl
  refine gBk (pe := 3) hO [o0 (.aload_n 0), oI (.bipush 91) 91] (by decide +kernel) (show tWG K B 0 0 S I J 3 [some (vR 61), none, none, none] [vI 91, vR 61] from ?_)
  refine gCVi_z hO (M12_isSign t0) hc12_isSign (idx := 334) (w := 824) (by decide +kernel) hR (by omega) t0 ⟨by decide, rfl⟩ (vs := [vI 91]) (st := []) ⟨rfl, Nat.le_of_ble_eq_true rfl, rfl⟩ (by decide +kernel) (fun z1 => ?_)
  refine gIfEq hO (off := 11) (tgt := 17) (by decide +kernel) (by decide) (fun c2 => ?_) (fun c2 => ?_)
  · have h := h.1 c2
    refine gBk (pe := 21) hO [o0 (.aload_n 0), oF (.getfield 340) 12 20 348 0] (by decide +kernel) (And.intro t0 (show tWG K B 0 0 S I J 21 [some (vR 61), none, none, none] [vI (I 61 20)] from ?_))
    refine gIfEq hO (off := 10) (tgt := 31) (by decide +kernel) (by decide) (fun c3 => ?_) (fun c3 => ?_)
    · have h := h.1 c3
      refine gBk (pe := 32) hO [o0 (.aload_n 0)] (by decide +kernel) (show tWG K B 0 0 S I J 32 [some (vR 61), none, none, none] [vR 61] from ?_)
      refine gCVi_c hO (M12_partAt t0 h) hc12_partAt (idx := 347) (w := 843) (by decide +kernel) hR (by omega) t0 ⟨by decide, rfl⟩ (vs := []) (st := []) ⟨rfl, Nat.le_of_ble_eq_true rfl, rfl⟩ (by decide +kernel) (fun x6 I4 J5 h => ?_)
      exact W12_readPart_35 hO hR hG t0 hQ h
    · have h := h.2 c3
      refine gBk (pe := 25) hO [o0 (.aload_n 0)] (by decide +kernel) (show tWG K B 0 0 S I J 25 [some (vR 61), none, none, none] [vR 61] from ?_)
      refine gCVi_c hO (M12_orderPartAt t0 h) hc12_orderPartAt (idx := 343) (w := 839) (by decide +kernel) hR (by omega) t0 ⟨by decide, rfl⟩ (vs := []) (st := []) ⟨rfl, Nat.le_of_ble_eq_true rfl, rfl⟩ (by decide +kernel) (fun x34 I32 J33 h => ?_)
      refine gBk (pe := 35) hO [o0 (.goto 7)] (by decide +kernel) (show tWG K B 0 0 S I32 J33 35 [some (vR 61), none, none, none] [vI x34] from ?_)
      exact W12_readPart_35 hO hR hG t0 hQ h
  · have h := h.2 c2
    refine gBk (pe := 12) hO [o0 (.aload_n 0), oI (.bipush 32) 32] (by decide +kernel) (show tWG K B 0 0 S I J 12 [some (vR 61), none, none, none] [vI 32, vR 61] from ?_)
    refine gCVv_c hO (M12_openBracket t0 h) hc12_openBracket (idx := 337) (w := 828) (by decide +kernel) hR (by omega) t0 ⟨by decide, rfl⟩ (vs := [vI 32]) (st := []) ⟨rfl, Nat.le_of_ble_eq_true rfl, rfl⟩ (by decide +kernel) (fun I35 J36 h => ?_)
    refine gBk (pe := 16) hO [oI (.iconst 1) 1] (by decide +kernel) (show tWG K B 0 0 S I35 J36 16 [some (vR 61), none, none, none] [vI 1] from ?_)
    exact gIret hO hQ (by decide +kernel) ⟨rfl, h⟩)
set_option maxRecDepth 20000 in
theorem hc12_readPlain : tCV yX12_readPlain cX12_readPlain 1 (some .int) 0 := ⟨⟨(List.mem_of_getElem? (i := 818) rfl), (List.mem_of_getElem? (i := 5) (by decide +kernel)), by decide +kernel⟩, (List.mem_of_getElem? (i := 816) (by decide +kernel)), (List.mem_of_getElem? (i := 817) (by decide +kernel))⟩
set_option maxRecDepth 100000 in
theorem M12_readPlain {l : Launch} {B : tB} {S : tSH} {I : tHI} {J : tHJ} {n : Nat} {k : Int32 → tHI → tHJ → Prop} (t0 : ty S 61 12) (h : F12_readPlain n S I J k) : Met l yX12_readPlain (tWs yX12_readPlain cX12_readPlain 1 (some .int)) (tRm 7 0 0) (tPc B [vR 61] S I J) (tQi B (tPi S k)) 0 0 (tA B) :=
  tEntry (by decide +kernel) [some (vR 61)] rfl rfl (Nat.le_of_ble_eq_true rfl) (fun K hl hR hO hQ hG => by
  subst hl
  refine gBk (pe := 1) hO [o0 (.aload_n 0)] (by decide +kernel) (show tWG K B 0 0 S I J 1 [some (vR 61)] [vR 61] from ?_)
  refine gBk (pe := 4) hO [(.ldc2_w 364, (0, 0, 819, 0), 0, 14836)] (by decide +kernel) (show tWG K B 0 0 S I J 4 [some (vR 61)] [vL 14836, vR 61] from ?_)
  refine gCVi_z hO (M12_isWord t0) hc12_isWord (idx := 321) (w := 801) (by decide +kernel) hR (by omega) t0 ⟨by decide, rfl⟩ (vs := [vL 14836]) (st := []) ⟨rfl, Nat.le_of_ble_eq_true rfl, rfl⟩ (by decide +kernel) (fun z1 => ?_)
  refine gIfEq hO (off := 16) (tgt := 23) (by decide +kernel) (by decide) (fun c2 => ?_) (fun c2 => ?_)
  · have h := h.1 c2
    refine gBk (pe := 26) hO [o0 (.aload_n 0), oI (.bipush 40) 40] (by decide +kernel) (show tWG K B 0 0 S I J 26 [some (vR 61)] [vI 40, vR 61] from ?_)
    refine gCVi_z hO (M12_isSign t0) hc12_isSign (idx := 334) (w := 824) (by decide +kernel) hR (by omega) t0 ⟨by decide, rfl⟩ (vs := [vI 40]) (st := []) ⟨rfl, Nat.le_of_ble_eq_true rfl, rfl⟩ (by decide +kernel) (fun z3 => ?_)
    refine gIfEq hO (off := 11) (tgt := 40) (by decide +kernel) (by decide) (fun c4 => ?_) (fun c4 => ?_)
    · have h := h.1 c4
      refine gBk (pe := 41) hO [o0 (.aload_n 0)] (by decide +kernel) (show tWG K B 0 0 S I J 41 [some (vR 61)] [vR 61] from ?_)
      refine gCVi_c hO (M12_readPart t0 h) hc12_readPart (idx := 366) (w := 832) (by decide +kernel) hR (by omega) t0 ⟨by decide, rfl⟩ (vs := []) (st := []) ⟨rfl, Nat.le_of_ble_eq_true rfl, rfl⟩ (by decide +kernel) (fun x7 I5 J6 h => ?_)
      exact gIret hO hQ (by decide +kernel) ⟨rfl, h⟩
    · have h := h.2 c4
      refine gBk (pe := 35) hO [o0 (.aload_n 0), oI (.bipush 31) 31] (by decide +kernel) (show tWG K B 0 0 S I J 35 [some (vR 61)] [vI 31, vR 61] from ?_)
      refine gCVv_c hO (M12_openBracket t0 h) hc12_openBracket (idx := 337) (w := 828) (by decide +kernel) hR (by omega) t0 ⟨by decide, rfl⟩ (vs := [vI 31]) (st := []) ⟨rfl, Nat.le_of_ble_eq_true rfl, rfl⟩ (by decide +kernel) (fun I8 J9 h => ?_)
      refine gBk (pe := 39) hO [oI (.iconst 0) 0] (by decide +kernel) (show tWG K B 0 0 S I8 J9 39 [some (vR 61)] [vI 0] from ?_)
      exact gIret hO hQ (by decide +kernel) ⟨rfl, h⟩
  · have h := h.2 c2
    refine gBk (pe := 14) hO [o0 (.aload_n 0), oI (.bipush 28) 28, oI (.iconst 0) 0] (by decide +kernel) (show tWG K B 0 0 S I J 14 [some (vR 61)] [vI 0, vI 28, vR 61] from ?_)
    refine gCVv_c hO (M12_push t0 h) hc12_push (idx := 328) (w := 820) (by decide +kernel) hR (by omega) t0 ⟨by decide, rfl⟩ (vs := [vI 28, vI 0]) (st := []) ⟨rfl, Nat.le_of_ble_eq_true rfl, rfl⟩ (by decide +kernel) (fun I10 J11 h => ?_)
    refine gBk (pe := 18) hO [o0 (.aload_n 0)] (by decide +kernel) (show tWG K B 0 0 S I10 J11 18 [some (vR 61)] [vR 61] from ?_)
    refine gCVv_c hO (M12_next t0 h) hc12_next (idx := 265) (w := 779) (by decide +kernel) hR (by omega) t0 ⟨by decide, rfl⟩ (vs := []) (st := []) ⟨rfl, Nat.le_of_ble_eq_true rfl, rfl⟩ (by decide +kernel) (fun I12 J13 h => ?_)
    refine gBk (pe := 22) hO [oI (.iconst 0) 0] (by decide +kernel) (show tWG K B 0 0 S I12 J13 22 [some (vR 61)] [vI 0] from ?_)
    exact gIret hO hQ (by decide +kernel) ⟨rfl, h⟩)
set_option maxRecDepth 100000 in
theorem W12_endText_19 {K : tK} {B : tB} {S : tSH} {MC MS : Nat} (hO : tKO K B RX12 cX12_endText 1) (hR : kR K = tRm 5 MC MS) (hG : tGr S) {n : Nat} (t0 : ty S 61 12) {k : tHI → tHJ → Prop} (hQ : tRet K B (tQv B (tPv S k)) 0 0 none) {I : tHI} {J : tHJ} (h : F12_endText_19 n S k I J) : tWG K B 0 0 S I J 19 [some (vR 61)] [] := by
  refine gBk (pe := 29) hO [o0 (.aload_n 0), oI (.iconst 0) 0, oF (.putfield 340) 12 20 348 0, o0 (.aload_n 0), oI (.iconst 0) 0, oF (.putfield 249) 12 13 568 0] (by decide +kernel) (And.intro t0 (And.intro (Or.inl rfl) (And.intro t0 (show tWG K B 0 0 S (uI (uI I 61 20 0) 61 13 0) J 29 [some (vR 61)] [] from ?_))))
  exact gVret hO hQ (by decide +kernel) ⟨rfl, h⟩
set_option maxRecDepth 20000 in
theorem hc12_endText : tCV yX12_endText cX12_endText 1 none 0 := ⟨⟨(List.mem_of_getElem? (i := 890) rfl), (List.mem_of_getElem? (i := 5) (by decide +kernel)), by decide +kernel⟩, (List.mem_of_getElem? (i := 888) (by decide +kernel)), (List.mem_of_getElem? (i := 889) (by decide +kernel))⟩
set_option maxRecDepth 100000 in
theorem M12_endText {l : Launch} {B : tB} {S : tSH} {I : tHI} {J : tHJ} {n : Nat} {k : tHI → tHJ → Prop} (t0 : ty S 61 12) (h : F12_endText n S I J k) : Met l yX12_endText (tWs yX12_endText cX12_endText 1 none) (tRm 5 0 0) (tPc B [vR 61] S I J) (tQv B (tPv S k)) 0 0 (tA B) :=
  tEntry (by decide +kernel) [some (vR 61)] rfl rfl (Nat.le_of_ble_eq_true rfl) (fun K hl hR hO hQ hG => by
  subst hl
  refine gBk (pe := 4) hO [o0 (.aload_n 0), oF (.getfield 261) 12 19 766 0] (by decide +kernel) (And.intro t0 (show tWG K B 0 0 S I J 4 [some (vR 61)] [vI (I 61 19)] from ?_))
  refine gIfNe hO (off := 15) (tgt := 19) (by decide +kernel) (by decide) (fun c1 => ?_) (fun c1 => ?_)
  · have h := h.1 c1
    exact W12_endText_19 hO hR hG t0 hQ h
  · have h := h.2 c1
    refine gBk (pe := 11) hO [o0 (.aload_n 0), oF (.getfield 281) 12 16 785 0] (by decide +kernel) (And.intro t0 (show tWG K B 0 0 S I J 11 [some (vR 61)] [vI (I 61 16)] from ?_))
    refine gIfEq hO (off := 8) (tgt := 19) (by decide +kernel) (by decide) (fun c2 => ?_) (fun c2 => ?_)
    · have h := h.1 c2
      exact W12_endText_19 hO hR hG t0 hQ h
    · have h := h.2 c2
      refine gBk (pe := 16) hO [o0 (.aload_n 0), oI (.iconst 0) 0] (by decide +kernel) (show tWG K B 0 0 S I J 16 [some (vR 61)] [vI 0, vR 61] from ?_)
      refine gCVv_c hO (M12_must t0 h) hc12_must (idx := 296) (w := 805) (by decide +kernel) hR (by omega) t0 ⟨by decide, rfl⟩ (vs := [vI 0]) (st := []) ⟨rfl, Nat.le_of_ble_eq_true rfl, rfl⟩ (by decide +kernel) (fun I3 J4 h => ?_)
      exact W12_endText_19 hO hR hG t0 hQ h)
set_option maxRecDepth 100000 in
theorem W12_force_43 {K : tK} {B : tB} {S : tSH} {MC MS : Nat} (hO : tKO K B RX12 cX12_force 2) (hR : kR K = tRm 3 MC MS) (hG : tGr S) {n : Nat} (t0 : ty S 61 12) {k : Int32 → tHI → tHJ → Prop} (hQ : tRet K B (tQi B (tPi S k)) 0 0 (some .int)) {I : tHI} {J : tHJ} {s0 : Int32} (h : F12_force_43 n S k I J s0) : tWG K B 0 0 S I J 43 [none, none] [vI s0] := by
  exact gIret hO hQ (by decide +kernel) ⟨rfl, h⟩
set_option maxRecDepth 100000 in
theorem W12_force_28 {K : tK} {B : tB} {S : tSH} {MC MS : Nat} (hO : tKO K B RX12 cX12_force 2) (hR : kR K = tRm 3 MC MS) (hG : tGr S) {n : Nat} (t0 : ty S 61 12) {k : Int32 → tHI → tHJ → Prop} (hQ : tRet K B (tQi B (tPi S k)) 0 0 (some .int)) {I : tHI} {J : tHJ} {v1 : Int32} (h : F12_force_28 n S k I J v1) : tWG K B 0 0 S I J 28 [some (vR 61), some (vI v1)] [] := by
  refine gBk (pe := 31) hO [o0 (.aload_n 0), oI (.iconst 4) 4, o0 (.iload_n 1)] (by decide +kernel) (show tWG K B 0 0 S I J 31 [some (vR 61), some (vI v1)] [vI v1, vI 4, vR 61] from ?_)
  refine gCVi_c hO (M12_change t0 h) hc12_change (idx := 244) (w := 535) (by decide +kernel) hR (by omega) t0 ⟨by decide, rfl⟩ (vs := [vI 4, vI v1]) (st := []) ⟨rfl, Nat.le_of_ble_eq_true rfl, rfl⟩ (by decide +kernel) (fun x4 I2 J3 h => ?_)
  refine gBk (pe := 43) hO [o0 (.goto 9)] (by decide +kernel) (show tWG K B 0 0 S I2 J3 43 [some (vR 61), some (vI v1)] [vI x4] from ?_)
  exact gWeak (L' := [none, none]) trivial (W12_force_43 hO hR hG t0 hQ h)
set_option maxRecDepth 20000 in
theorem hc12_force : tCV yX12_force cX12_force 2 (some .int) 1 := ⟨⟨(List.mem_of_getElem? (i := 1095) rfl), (List.mem_of_getElem? (i := 5) (by decide +kernel)), by decide +kernel⟩, (List.mem_of_getElem? (i := 1093) (by decide +kernel)), (List.mem_of_getElem? (i := 1094) (by decide +kernel))⟩
set_option maxRecDepth 100000 in
theorem M12_force {l : Launch} {B : tB} {S : tSH} {I : tHI} {J : tHJ} {v1 : Int32} {n : Nat} {k : Int32 → tHI → tHJ → Prop} (t0 : ty S 61 12) (h : F12_force n S I J v1 k) : Met l yX12_force (tWs yX12_force cX12_force 2 (some .int)) (tRm 3 0 0) (tPc B [vR 61, vI v1] S I J) (tQi B (tPi S k)) 0 0 (tA B) :=
  tEntry (by decide +kernel) [some (vR 61), some (vI v1)] rfl rfl (Nat.le_of_ble_eq_true rfl) (fun K hl hR hO hQ hG => by
  subst hl
  refine gBk (pe := 7) hO [o0 (.aload_n 0), oI (.iconst 0) 0, oF (.putfield 161) 12 0 316 0, o0 (.iload_n 1), oI (.iconst (-1)) (-1)] (by decide +kernel) (And.intro t0 (show tWG K B 0 0 S (uI I 61 0 0) J 7 [some (vR 61), some (vI v1)] [vI (-1), vI v1] from ?_))
  refine gIcEq hO (off := 21) (tgt := 28) (by decide +kernel) (by decide) (fun c1 => ?_) (fun c1 => ?_)
  · have h := h.1 c1
    exact W12_force_28 hO hR hG t0 hQ h
  · have h := h.2 c1
    refine gBk (pe := 22) hO [o0 (.iload_n 1), o0 .i2l, oJ (.lconst 0) 0 0, o0 (.aload_n 0), oF (.getfield 13) 12 3 179 63, oI (.iconst 3) 3, o0 .iaload, o0 .i2l, oJ (.lconst 1) 0 1, o0 .lsub] (by decide +kernel) (And.intro t0 (And.intro rfl (And.intro (tGr.off hG t0 (k := 3) rfl) (And.intro (tin (tGr.len hG t0 (k := 3) rfl (by decide)) (tvi (by decide +kernel))) (show tWG K B 0 0 S (uI I 61 0 0) J 22 [some (vR 61), some (vI v1)] [vL (((uI I 61 0 0) 63 3).toInt64 - 1), vL 0, vL v1.toInt64] from ?_)))))
    refine gCSi_z hO (M12_in) hc12_in (idx := 181) (w := 319) (by decide +kernel) hR (by omega) (vs := [vL v1.toInt64, vL 0, vL (((uI I 61 0 0) 63 3).toInt64 - 1)]) (st := []) ⟨rfl, Nat.le_of_ble_eq_true rfl, rfl⟩ (by decide +kernel) (fun z5 => ?_)
    refine gIfEq hO (off := 12) (tgt := 37) (by decide +kernel) (by decide) (fun c6 => ?_) (fun c6 => ?_)
    · have h := h.1 c6
      refine gBk (pe := 40) hO [o0 (.aload_n 0), oI (.bipush (-2)) (-2)] (by decide +kernel) (show tWG K B 0 0 S (uI I 61 0 0) J 40 [some (vR 61), some (vI v1)] [vI (-2), vR 61] from ?_)
      refine gCVi_c hO (M12_tell t0 h) hc12_tell (idx := 170) (w := 322) (by decide +kernel) hR (by omega) t0 ⟨by decide, rfl⟩ (vs := [vI (-2)]) (st := []) ⟨rfl, Nat.le_of_ble_eq_true rfl, rfl⟩ (by decide +kernel) (fun x9 I7 J8 h => ?_)
      exact gWeak (L' := [none, none]) trivial (W12_force_43 hO hR hG t0 hQ h)
    · have h := h.2 c6
      exact W12_force_28 hO hR hG t0 hQ h)
set_option maxRecDepth 20000 in
theorem hc12_reckon : tCV yX12_reckon cX12_reckon 6 (some .long) 3 := ⟨⟨(List.mem_of_getElem? (i := 367) rfl), (List.mem_of_getElem? (i := 5) (by decide +kernel)), by decide +kernel⟩, (List.mem_of_getElem? (i := 365) (by decide +kernel)), (List.mem_of_getElem? (i := 366) (by decide +kernel))⟩
set_option maxRecDepth 100000 in
theorem M12_reckon {l : Launch} {B : tB} {S : tSH} {I : tHI} {J : tHJ} {v1 : Int32} {w2 : Int64} {w4 : Int64} {n : Nat} {k : Int64 → tHI → tHJ → Prop} (t0 : ty S 61 12) (h : F12_reckon n S I J v1 w2 w4 k) : Met l yX12_reckon (tWs yX12_reckon cX12_reckon 6 (some .long)) (tRm 2 0 0) (tPc B [vR 61, vI v1, vL w2, vL w4] S I J) (tQl B (tPl S k)) 0 0 (tA B) :=
  tEntry (by decide +kernel) [some (vR 61), some (vI v1), some (vL w2), none, some (vL w4), none] rfl rfl (Nat.le_of_ble_eq_true rfl) (fun K hl hR hO hQ hG => by
  subst hl
  refine gBk (pe := 1) hO [o0 (.iload_n 1)] (by decide +kernel) (show tWG K B 0 0 S I J 1 [some (vR 61), some (vI v1), some (vL w2), none, some (vL w4), none] [vI v1] from ?_)
  by_cases c1 : v1 = 20
  · have h := h.1 c1
    refine gSwIn hO (dflt := 148) (lo := 20) (hi := 26) (offs := #[43, 48, 53, 58, 90, 122, 135]) (len := 43) (off := 43) (tgt := 44) 20 c1 (by decide +kernel) (by decide +kernel) ?_
    refine gBk (pe := 48) hO [o0 (.lload_n 2), o0 (.lload 4), o0 .ladd] (by decide +kernel) (show tWG K B 0 0 S I J 48 [some (vR 61), some (vI v1), some (vL w2), none, some (vL w4), none] [vL (w2 + w4)] from ?_)
    exact gLret hO hQ (by decide +kernel) ⟨rfl, h⟩
  have h := h.2
  by_cases c2 : v1 = 21
  · have h := h.1 c2
    refine gSwIn hO (dflt := 148) (lo := 20) (hi := 26) (offs := #[43, 48, 53, 58, 90, 122, 135]) (len := 43) (off := 48) (tgt := 49) 21 c2 (by decide +kernel) (by decide +kernel) ?_
    refine gBk (pe := 53) hO [o0 (.lload_n 2), o0 (.lload 4), o0 .lsub] (by decide +kernel) (show tWG K B 0 0 S I J 53 [some (vR 61), some (vI v1), some (vL w2), none, some (vL w4), none] [vL (w2 - w4)] from ?_)
    exact gLret hO hQ (by decide +kernel) ⟨rfl, h⟩
  have h := h.2
  by_cases c3 : v1 = 22
  · have h := h.1 c3
    refine gSwIn hO (dflt := 148) (lo := 20) (hi := 26) (offs := #[43, 48, 53, 58, 90, 122, 135]) (len := 43) (off := 53) (tgt := 54) 22 c3 (by decide +kernel) (by decide +kernel) ?_
    refine gBk (pe := 58) hO [o0 (.lload_n 2), o0 (.lload 4), o0 .lmul] (by decide +kernel) (show tWG K B 0 0 S I J 58 [some (vR 61), some (vI v1), some (vL w2), none, some (vL w4), none] [vL (w2 * w4)] from ?_)
    exact gLret hO hQ (by decide +kernel) ⟨rfl, h⟩
  have h := h.2
  by_cases c4 : v1 = 23
  · have h := h.1 c4
    refine gSwIn hO (dflt := 148) (lo := 20) (hi := 26) (offs := #[43, 48, 53, 58, 90, 122, 135]) (len := 43) (off := 58) (tgt := 59) 23 c4 (by decide +kernel) (by decide +kernel) ?_
    refine gBk (pe := 64) hO [o0 (.aload_n 0), o0 (.lload 4), oJ (.lconst 0) 0 0, o0 .lcmp] (by decide +kernel) (show tWG K B 0 0 S I J 64 [some (vR 61), some (vI v1), some (vL w2), none, some (vL w4), none] [vI (lg_cmp w4 0), vR 61] from ?_)
    have hj5 : ∀ (m6 : Int32), m6 = (if (lg_cmp w4 0) = 0 then (1 : Int32) else 0) → tWG K B 0 0 S I J 72 [some (vR 61), none, some (vL w2), none, some (vL w4), none] [vI m6, vR 61] := by
      intro m6 em6
      subst em6
      refine gBk (pe := 79) hO [oF (.putfield 413) 12 38 342 0, o0 (.aload_n 0), oF (.getfield 413) 12 38 342 0] (by decide +kernel) (And.intro t0 (And.intro (bz_if (Or.inr rfl) (Or.inl rfl)) (And.intro t0 (show tWG K B 0 0 S (uI I 61 38 (if (lg_cmp w4 0) = 0 then (1 : Int32) else 0)) J 79 [some (vR 61), none, some (vL w2), none, some (vL w4), none] [vI ((uI I 61 38 (if (lg_cmp w4 0) = 0 then (1 : Int32) else 0)) 61 38)] from ?_))))
      have hj8 : ∀ (m9 : Int64), m9 = (if ((uI I 61 38 (if (lg_cmp w4 0) = 0 then (1 : Int32) else 0)) 61 38) = 0 then (w2 / w4) else 0) → tWG K B 0 0 S (uI I 61 38 (if (lg_cmp w4 0) = 0 then (1 : Int32) else 0)) J 90 [none, none, none, none, none, none] [vL m9] := by
        intro m9 em9
        subst em9
        have h := h.2
        exact gLret hO hQ (by decide +kernel) ⟨rfl, h⟩
      have h := h.1
      refine gIfEq hO (off := 7) (tgt := 86) (by decide +kernel) (by decide) (fun c10 => ?_) (fun c10 => ?_)
      · have h := h.1 c10
        refine gBk (pe := 90) hO [o0 (.lload_n 2), o0 (.lload 4), o0 .ldiv] (by decide +kernel) (And.intro h.1 (show tWG K B 0 0 S (uI I 61 38 (if (lg_cmp w4 0) = 0 then (1 : Int32) else 0)) J 90 [some (vR 61), none, some (vL w2), none, some (vL w4), none] [vL (w2 / w4)] from ?_))
        have h := h.2
        exact gWeak (L' := [none, none, none, none, none, none]) trivial (hj8 _ (Eq.symm (if_pos c10)))
      · have h := h.2 c10
        refine gBk (pe := 90) hO [oJ (.lconst 0) 0 0, o0 (.goto 7)] (by decide +kernel) (show tWG K B 0 0 S (uI I 61 38 (if (lg_cmp w4 0) = 0 then (1 : Int32) else 0)) J 90 [some (vR 61), none, some (vL w2), none, some (vL w4), none] [vL 0] from ?_)
        exact gWeak (L' := [none, none, none, none, none, none]) trivial (hj8 _ (Eq.symm (if_neg c10)))
    refine gIfNe hO (off := 7) (tgt := 71) (by decide +kernel) (by decide) (fun c7 => ?_) (fun c7 => ?_)
    · refine gBk (pe := 72) hO [oI (.iconst 0) 0] (by decide +kernel) (show tWG K B 0 0 S I J 72 [some (vR 61), some (vI v1), some (vL w2), none, some (vL w4), none] [vI 0, vR 61] from ?_)
      exact gWeak (L' := [some (vR 61), none, some (vL w2), none, some (vL w4), none]) ⟨rfl, rfl, rfl, trivial⟩ (hj5 _ (Eq.symm (if_neg c7)))
    · refine gBk (pe := 72) hO [oI (.iconst 1) 1, o0 (.goto 4)] (by decide +kernel) (show tWG K B 0 0 S I J 72 [some (vR 61), some (vI v1), some (vL w2), none, some (vL w4), none] [vI 1, vR 61] from ?_)
      exact gWeak (L' := [some (vR 61), none, some (vL w2), none, some (vL w4), none]) ⟨rfl, rfl, rfl, trivial⟩ (hj5 _ (Eq.symm (if_pos c7)))
  have h := h.2
  by_cases c11 : v1 = 24
  · have h := h.1 c11
    refine gSwIn hO (dflt := 148) (lo := 20) (hi := 26) (offs := #[43, 48, 53, 58, 90, 122, 135]) (len := 43) (off := 90) (tgt := 91) 24 c11 (by decide +kernel) (by decide +kernel) ?_
    refine gBk (pe := 96) hO [o0 (.aload_n 0), o0 (.lload 4), oJ (.lconst 0) 0 0, o0 .lcmp] (by decide +kernel) (show tWG K B 0 0 S I J 96 [some (vR 61), some (vI v1), some (vL w2), none, some (vL w4), none] [vI (lg_cmp w4 0), vR 61] from ?_)
    have hj12 : ∀ (m13 : Int32), m13 = (if (lg_cmp w4 0) = 0 then (1 : Int32) else 0) → tWG K B 0 0 S I J 104 [some (vR 61), none, some (vL w2), none, some (vL w4), none] [vI m13, vR 61] := by
      intro m13 em13
      subst em13
      refine gBk (pe := 111) hO [oF (.putfield 413) 12 38 342 0, o0 (.aload_n 0), oF (.getfield 413) 12 38 342 0] (by decide +kernel) (And.intro t0 (And.intro (bz_if (Or.inr rfl) (Or.inl rfl)) (And.intro t0 (show tWG K B 0 0 S (uI I 61 38 (if (lg_cmp w4 0) = 0 then (1 : Int32) else 0)) J 111 [some (vR 61), none, some (vL w2), none, some (vL w4), none] [vI ((uI I 61 38 (if (lg_cmp w4 0) = 0 then (1 : Int32) else 0)) 61 38)] from ?_))))
      have hj15 : ∀ (m16 : Int64), m16 = (if ((uI I 61 38 (if (lg_cmp w4 0) = 0 then (1 : Int32) else 0)) 61 38) = 0 then (w2 - w2 / w4 * w4) else 0) → tWG K B 0 0 S (uI I 61 38 (if (lg_cmp w4 0) = 0 then (1 : Int32) else 0)) J 122 [none, none, none, none, none, none] [vL m16] := by
        intro m16 em16
        subst em16
        have h := h.2
        exact gLret hO hQ (by decide +kernel) ⟨rfl, h⟩
      have h := h.1
      refine gIfEq hO (off := 7) (tgt := 118) (by decide +kernel) (by decide) (fun c17 => ?_) (fun c17 => ?_)
      · have h := h.1 c17
        refine gBk (pe := 122) hO [o0 (.lload_n 2), o0 (.lload 4), o0 .lrem] (by decide +kernel) (And.intro h.1 (show tWG K B 0 0 S (uI I 61 38 (if (lg_cmp w4 0) = 0 then (1 : Int32) else 0)) J 122 [some (vR 61), none, some (vL w2), none, some (vL w4), none] [vL (w2 - w2 / w4 * w4)] from ?_))
        have h := h.2
        exact gWeak (L' := [none, none, none, none, none, none]) trivial (hj15 _ (Eq.symm (if_pos c17)))
      · have h := h.2 c17
        refine gBk (pe := 122) hO [oJ (.lconst 0) 0 0, o0 (.goto 7)] (by decide +kernel) (show tWG K B 0 0 S (uI I 61 38 (if (lg_cmp w4 0) = 0 then (1 : Int32) else 0)) J 122 [some (vR 61), none, some (vL w2), none, some (vL w4), none] [vL 0] from ?_)
        exact gWeak (L' := [none, none, none, none, none, none]) trivial (hj15 _ (Eq.symm (if_neg c17)))
    refine gIfNe hO (off := 7) (tgt := 103) (by decide +kernel) (by decide) (fun c14 => ?_) (fun c14 => ?_)
    · refine gBk (pe := 104) hO [oI (.iconst 0) 0] (by decide +kernel) (show tWG K B 0 0 S I J 104 [some (vR 61), some (vI v1), some (vL w2), none, some (vL w4), none] [vI 0, vR 61] from ?_)
      exact gWeak (L' := [some (vR 61), none, some (vL w2), none, some (vL w4), none]) ⟨rfl, rfl, rfl, trivial⟩ (hj12 _ (Eq.symm (if_neg c14)))
    · refine gBk (pe := 104) hO [oI (.iconst 1) 1, o0 (.goto 4)] (by decide +kernel) (show tWG K B 0 0 S I J 104 [some (vR 61), some (vI v1), some (vL w2), none, some (vL w4), none] [vI 1, vR 61] from ?_)
      exact gWeak (L' := [some (vR 61), none, some (vL w2), none, some (vL w4), none]) ⟨rfl, rfl, rfl, trivial⟩ (hj12 _ (Eq.symm (if_pos c14)))
  have h := h.2
  by_cases c18 : v1 = 25
  · have h := h.1 c18
    refine gSwIn hO (dflt := 148) (lo := 20) (hi := 26) (offs := #[43, 48, 53, 58, 90, 122, 135]) (len := 43) (off := 122) (tgt := 123) 25 c18 (by decide +kernel) (by decide +kernel) ?_
    refine gBk (pe := 127) hO [o0 (.lload_n 2), o0 (.lload 4), o0 .lcmp] (by decide +kernel) (show tWG K B 0 0 S I J 127 [some (vR 61), some (vI v1), some (vL w2), none, some (vL w4), none] [vI (lg_cmp w2 w4)] from ?_)
    have hj19 : ∀ (m20 : Int64), m20 = (if 0 ≤ (lg_cmp w2 w4) then (0 : Int64) else 1) → tWG K B 0 0 S I J 135 [none, none, none, none, none, none] [vL m20] := by
      intro m20 em20
      subst em20
      exact gLret hO hQ (by decide +kernel) ⟨rfl, h⟩
    refine gIfGe hO (off := 7) (tgt := 134) (by decide +kernel) (by decide) (fun c21 => ?_) (fun c21 => ?_)
    · refine gBk (pe := 135) hO [oJ (.lconst 0) 0 0] (by decide +kernel) (show tWG K B 0 0 S I J 135 [some (vR 61), some (vI v1), some (vL w2), none, some (vL w4), none] [vL 0] from ?_)
      exact gWeak (L' := [none, none, none, none, none, none]) trivial (hj19 _ (Eq.symm (if_pos c21)))
    · refine gBk (pe := 135) hO [oJ (.lconst 1) 0 1, o0 (.goto 4)] (by decide +kernel) (show tWG K B 0 0 S I J 135 [some (vR 61), some (vI v1), some (vL w2), none, some (vL w4), none] [vL 1] from ?_)
      exact gWeak (L' := [none, none, none, none, none, none]) trivial (hj19 _ (Eq.symm (if_neg c21)))
  have h := h.2
  by_cases c22 : v1 = 26
  · have h := h.1 c22
    refine gSwIn hO (dflt := 148) (lo := 20) (hi := 26) (offs := #[43, 48, 53, 58, 90, 122, 135]) (len := 43) (off := 135) (tgt := 136) 26 c22 (by decide +kernel) (by decide +kernel) ?_
    refine gBk (pe := 140) hO [o0 (.lload_n 2), o0 (.lload 4), o0 .lcmp] (by decide +kernel) (show tWG K B 0 0 S I J 140 [some (vR 61), some (vI v1), some (vL w2), none, some (vL w4), none] [vI (lg_cmp w2 w4)] from ?_)
    have hj23 : ∀ (m24 : Int64), m24 = (if (lg_cmp w2 w4) ≤ 0 then (0 : Int64) else 1) → tWG K B 0 0 S I J 148 [none, none, none, none, none, none] [vL m24] := by
      intro m24 em24
      subst em24
      exact gLret hO hQ (by decide +kernel) ⟨rfl, h⟩
    refine gIfLe hO (off := 7) (tgt := 147) (by decide +kernel) (by decide) (fun c25 => ?_) (fun c25 => ?_)
    · refine gBk (pe := 148) hO [oJ (.lconst 0) 0 0] (by decide +kernel) (show tWG K B 0 0 S I J 148 [some (vR 61), some (vI v1), some (vL w2), none, some (vL w4), none] [vL 0] from ?_)
      exact gWeak (L' := [none, none, none, none, none, none]) trivial (hj23 _ (Eq.symm (if_pos c25)))
    · refine gBk (pe := 148) hO [oJ (.lconst 1) 0 1, o0 (.goto 4)] (by decide +kernel) (show tWG K B 0 0 S I J 148 [some (vR 61), some (vI v1), some (vL w2), none, some (vL w4), none] [vL 1] from ?_)
      exact gWeak (L' := [none, none, none, none, none, none]) trivial (hj23 _ (Eq.symm (if_neg c25)))
  have h := h.2
  have hsw : swN 20 v1 7 := ⟨⟨⟨⟨⟨⟨⟨True.intro, c1⟩, c2⟩, c3⟩, c4⟩, c11⟩, c18⟩, c22⟩
  have h := h hsw
  refine gSwOut hO (dflt := 148) (lo := 20) (hi := 26) (offs := #[43, 48, 53, 58, 90, 122, 135]) (len := 43) (tgt := 149) (by decide +kernel) (sw_out (by decide) (by decide) hsw) (by decide) ?_
  refine gBk (pe := 153) hO [o0 (.lload_n 2), o0 (.lload 4), o0 .lcmp] (by decide +kernel) (show tWG K B 0 0 S I J 153 [some (vR 61), some (vI v1), some (vL w2), none, some (vL w4), none] [vI (lg_cmp w2 w4)] from ?_)
  have hj26 : ∀ (m27 : Int64), m27 = (if (lg_cmp w2 w4) = 0 then (1 : Int64) else 0) → tWG K B 0 0 S I J 161 [none, none, none, none, none, none] [vL m27] := by
    intro m27 em27
    subst em27
    exact gLret hO hQ (by decide +kernel) ⟨rfl, h⟩
  refine gIfNe hO (off := 7) (tgt := 160) (by decide +kernel) (by decide) (fun c28 => ?_) (fun c28 => ?_)
  · refine gBk (pe := 161) hO [oJ (.lconst 0) 0 0] (by decide +kernel) (show tWG K B 0 0 S I J 161 [some (vR 61), some (vI v1), some (vL w2), none, some (vL w4), none] [vL 0] from ?_)
    exact gWeak (L' := [none, none, none, none, none, none]) trivial (hj26 _ (Eq.symm (if_neg c28)))
  · refine gBk (pe := 161) hO [oJ (.lconst 1) 0 1, o0 (.goto 4)] (by decide +kernel) (show tWG K B 0 0 S I J 161 [some (vR 61), some (vI v1), some (vL w2), none, some (vL w4), none] [vL 1] from ?_)
    exact gWeak (L' := [none, none, none, none, none, none]) trivial (hj26 _ (Eq.symm (if_pos c28))))
set_option maxRecDepth 100000 in
theorem W12_reckonAll_364 {K : tK} {B : tB} {S : tSH} {MC MS : Nat} (hO : tKO K B RX12 cX12_reckonAll 7) (hR : kR K = tRm 4 MC MS) (hG : tGr S) {n : Nat} (t0 : ty S 61 12) {k : tHI → tHJ → Prop} (hQ : tRet K B (tQv B (tPv S k)) 0 0 none) {I : tHI} {J : tHJ} {v3 : Int32} (h : F12_reckonAll_364 n S k I J v3) : tWG K B 0 0 S I J 364 [some (vR 61), none, none, some (vI v3), none, none, none] [] := by
  refine gBk (pe := 366) hO [o0 (.aload_n 0), o0 (.iload_n 3)] (by decide +kernel) (show tWG K B 0 0 S I J 366 [some (vR 61), none, none, some (vI v3), none, none, none] [vI v3, vR 61] from ?_)
  have hj2 : ∀ (m3 : Int64), m3 = (if v3 ≤ 0 then 0 else (J 81 0)) → tWG K B 0 0 S I J 379 [none, none, none, none, none, none, none] [vL m3, vR 61] := by
    intro m3 em3
    subst em3
    refine gBk (pe := 382) hO [oF (.putfield 429) 12 39 343 0] (by decide +kernel) (And.intro t0 (show tWG K B 0 0 S I (uJ J 61 39 (if v3 ≤ 0 then 0 else (J 81 0))) 382 [none, none, none, none, none, none, none] [] from ?_))
    exact gVret hO hQ (by decide +kernel) ⟨rfl, h⟩
  refine gIfLe hO (off := 12) (tgt := 378) (by decide +kernel) (by decide) (fun c4 => ?_) (fun c4 => ?_)
  · refine gBk (pe := 379) hO [oJ (.lconst 0) 0 0] (by decide +kernel) (show tWG K B 0 0 S I J 379 [some (vR 61), none, none, some (vI v3), none, none, none] [vL 0, vR 61] from ?_)
    exact gWeak (L' := [none, none, none, none, none, none, none]) trivial (hj2 _ (Eq.symm (if_pos c4)))
  · refine gBk (pe := 379) hO [o0 (.aload_n 0), oF (.getfield 121) 12 37 223 81, oI (.iconst 0) 0, o0 .laload, o0 (.goto 4)] (by decide +kernel) (And.intro t0 (And.intro rfl (And.intro (tGr.off hG t0 (k := 37) rfl) (And.intro (tin (tGr.len hG t0 (k := 37) rfl (by decide)) (tvi (by decide +kernel))) (show tWG K B 0 0 S I J 379 [some (vR 61), none, none, some (vI v3), none, none, none] [vL (J 81 0), vR 61] from ?_)))))
    exact gWeak (L' := [none, none, none, none, none, none, none]) trivial (hj2 _ (Eq.symm (if_neg c4)))
set_option maxRecDepth 100000 in
theorem W12_reckonAll_361 {K : tK} {B : tB} {S : tSH} {MC MS : Nat} (hO : tKO K B RX12 cX12_reckonAll 7) (hR : kR K = tRm 4 MC MS) (hG : tGr S) {n : Nat} (t0 : ty S 61 12) {k : tHI → tHJ → Prop} (hQ : tRet K B (tQv B (tPv S k)) 0 0 none) {kb10 : tHI → tHJ → Int32 → Int32 → Int32 → Prop} (hkb10 : ∀ (I : tHI) (J : tHJ) (v2 : Int32) (v3 : Int32) (v4 : Int32), kb10 I J v2 v3 v4 → tWG K B 0 0 S I J 10 [some (vR 61), none, some (vI v2), some (vI v3), some (vI v4), none, none] []) {I : tHI} {J : tHJ} {v2 : Int32} {v3 : Int32} {v4 : Int32} (h : F12_reckonAll_361 n S k kb10 I J v2 v3 v4) : tWG K B 0 0 S I J 361 [some (vR 61), none, some (vI v2), some (vI v3), some (vI v4), none, none] [] := by
  refine gBk (pe := 10) hO [o0 (.goto (-351))] (by decide +kernel) (show tWG K B 0 0 S I J 10 [some (vR 61), none, some (vI v2), some (vI v3), some (vI v4), none, none] [] from ?_)
  exact hkb10 _ _ _ _ _ h
set_option maxRecDepth 100000 in
theorem W12_reckonAll_10 {K : tK} {B : tB} {S : tSH} {MC MS : Nat} (hO : tKO K B RX12 cX12_reckonAll 7) (hR : kR K = tRm 4 MC MS) (hG : tGr S) {n : Nat} (t0 : ty S 61 12) {k : tHI → tHJ → Prop} (hQ : tRet K B (tQv B (tPv S k)) 0 0 none) {kb10 : tHI → tHJ → Int32 → Int32 → Int32 → Prop} (hkb10 : ∀ (I : tHI) (J : tHJ) (v2 : Int32) (v3 : Int32) (v4 : Int32), kb10 I J v2 v3 v4 → tWG K B 0 0 S I J 10 [some (vR 61), none, some (vI v2), some (vI v3), some (vI v4), none, none] []) {I : tHI} {J : tHJ} {v2 : Int32} {v3 : Int32} {v4 : Int32} (h : F12_reckonAll_10 n S k kb10 I J v2 v3 v4) : tWG K B 0 0 S I J 10 [some (vR 61), none, some (vI v2), some (vI v3), some (vI v4), none, none] [] := by
  refine gBk (pe := 13) hO [o0 (.iload 4), o0 (.iload_n 2)] (by decide +kernel) (show tWG K B 0 0 S I J 13 [some (vR 61), none, some (vI v2), some (vI v3), some (vI v4), none, none] [vI v2, vI v4] from ?_)
  refine gIcGe hO (off := 351) (tgt := 364) (by decide +kernel) (by decide) (fun c1 => ?_) (fun c1 => ?_)
  · have h := h.1 c1
    exact gWeak (L' := [some (vR 61), none, none, some (vI v3), none, none, none]) ⟨rfl, rfl, trivial⟩ (W12_reckonAll_364 hO hR hG t0 hQ h)
  · have h := h.2 c1
    refine gBk (pe := 20) hO [o0 (.aload_n 0), oF (.getfield 413) 12 38 342 0] (by decide +kernel) (And.intro t0 (show tWG K B 0 0 S I J 20 [some (vR 61), none, some (vI v2), some (vI v3), some (vI v4), none, none] [vI (I 61 38)] from ?_))
    refine gIfNe hO (off := 344) (tgt := 364) (by decide +kernel) (by decide) (fun c5 => ?_) (fun c5 => ?_)
    · have h := h.1 c5
      exact gWeak (L' := [some (vR 61), none, none, some (vI v3), none, none, none]) ⟨rfl, rfl, trivial⟩ (W12_reckonAll_364 hO hR hG t0 hQ h)
    · have h := h.2 c5
      refine gBk (pe := 27) hO [o0 (.aload_n 0), oF (.getfield 340) 12 20 348 0] (by decide +kernel) (And.intro t0 (show tWG K B 0 0 S I J 27 [some (vR 61), none, some (vI v2), some (vI v3), some (vI v4), none, none] [vI (I 61 20)] from ?_))
      have hj6 : ∀ (m7 : Int32), m7 = (if (I 61 20) = 0 then (I 63 (((I 61 34) + 98) + (2 * v4)).toNatClampNeg) else (I 72 v4.toNatClampNeg)) → tWG K B 0 0 S I J 57 [some (vR 61), none, some (vI v2), some (vI v3), some (vI v4), none, none] [vI m7] := by
        intro m7 em7
        subst em7
        have h := h.2
        refine gBk (pe := 63) hO [o0 (.istore 5), o0 (.aload_n 0), oF (.getfield 340) 12 20 348 0] (by decide +kernel) (And.intro (Nat.le_of_ble_eq_true rfl) (And.intro t0 (show tWG K B 0 0 S I J 63 [some (vR 61), none, some (vI v2), some (vI v3), some (vI v4), some (vI (if (I 61 20) = 0 then (I 63 (((I 61 34) + 98) + (2 * v4)).toNatClampNeg) else (I 72 v4.toNatClampNeg))), none] [vI (I 61 20)] from ?_)))
        have hj9 : ∀ (m10 : Int32), m10 = (if (I 61 20) = 0 then (I 63 ((((I 61 34) + 98) + (2 * v4)) + 1).toNatClampNeg) else (I 73 v4.toNatClampNeg)) → tWG K B 0 0 S I J 95 [some (vR 61), none, some (vI v2), some (vI v3), some (vI v4), some (vI (if (I 61 20) = 0 then (I 63 (((I 61 34) + 98) + (2 * v4)).toNatClampNeg) else (I 72 v4.toNatClampNeg))), none] [vI m10] := by
          intro m10 em10
          subst em10
          have h := h.2
          refine gBk (pe := 104) hO [o0 (.istore 6), oI (.iinc 4 1) 1, o0 (.iload 5), oI (.bipush 20) 20] (by decide +kernel) (And.intro (Nat.le_of_ble_eq_true rfl) (show tWG K B 0 0 S I J 104 [some (vR 61), none, some (vI v2), some (vI v3), some (vI (v4 + 1)), some (vI (if (I 61 20) = 0 then (I 63 (((I 61 34) + 98) + (2 * v4)).toNatClampNeg) else (I 72 v4.toNatClampNeg))), some (vI (if (I 61 20) = 0 then (I 63 ((((I 61 34) + 98) + (2 * v4)) + 1).toNatClampNeg) else (I 73 v4.toNatClampNeg)))] [vI 20, vI (if (I 61 20) = 0 then (I 63 (((I 61 34) + 98) + (2 * v4)).toNatClampNeg) else (I 72 v4.toNatClampNeg))] from ?_))
          refine gIcGe hO (off := 118) (tgt := 222) (by decide +kernel) (by decide) (fun c12 => ?_) (fun c12 => ?_)
          · have h := h.1 c12
            refine gBk (pe := 226) hO [o0 (.iload 5), oI (.bipush 28) 28] (by decide +kernel) (show tWG K B 0 0 S I J 226 [some (vR 61), none, some (vI v2), some (vI v3), some (vI (v4 + 1)), some (vI (if (I 61 20) = 0 then (I 63 (((I 61 34) + 98) + (2 * v4)).toNatClampNeg) else (I 72 v4.toNatClampNeg))), some (vI (if (I 61 20) = 0 then (I 63 ((((I 61 34) + 98) + (2 * v4)) + 1).toNatClampNeg) else (I 73 v4.toNatClampNeg)))] [vI 28, vI (if (I 61 20) = 0 then (I 63 (((I 61 34) + 98) + (2 * v4)).toNatClampNeg) else (I 72 v4.toNatClampNeg))] from ?_)
            refine gIcGe hO (off := 73) (tgt := 299) (by decide +kernel) (by decide) (fun c13 => ?_) (fun c13 => ?_)
            · have h := h.1 c13
              refine gBk (pe := 303) hO [o0 (.iload 5), oI (.bipush 28) 28] (by decide +kernel) (show tWG K B 0 0 S I J 303 [some (vR 61), none, some (vI v2), some (vI v3), some (vI (v4 + 1)), some (vI (if (I 61 20) = 0 then (I 63 (((I 61 34) + 98) + (2 * v4)).toNatClampNeg) else (I 72 v4.toNatClampNeg))), some (vI (if (I 61 20) = 0 then (I 63 ((((I 61 34) + 98) + (2 * v4)) + 1).toNatClampNeg) else (I 73 v4.toNatClampNeg)))] [vI 28, vI (if (I 61 20) = 0 then (I 63 (((I 61 34) + 98) + (2 * v4)).toNatClampNeg) else (I 72 v4.toNatClampNeg))] from ?_)
              refine gIcNe hO (off := 24) (tgt := 327) (by decide +kernel) (by decide) (fun c14 => ?_) (fun c14 => ?_)
              · have h := h.1 c14
                refine gBk (pe := 339) hO [o0 (.aload_n 0), oF (.getfield 121) 12 37 223 81, o0 (.iload_n 3), oI (.iconst 1) 1, o0 .isub, o0 .laload, o0 (.iload 5), oI (.bipush 29) 29] (by decide +kernel) (And.intro t0 (And.intro rfl (And.intro (tGr.off hG t0 (k := 37) rfl) (And.intro (tin (tGr.len hG t0 (k := 37) rfl (by decide)) h.1) (show tWG K B 0 0 S I J 339 [some (vR 61), none, some (vI v2), some (vI v3), some (vI (v4 + 1)), some (vI (if (I 61 20) = 0 then (I 63 (((I 61 34) + 98) + (2 * v4)).toNatClampNeg) else (I 72 v4.toNatClampNeg))), some (vI (if (I 61 20) = 0 then (I 63 ((((I 61 34) + 98) + (2 * v4)) + 1).toNatClampNeg) else (I 73 v4.toNatClampNeg)))] [vI 29, vI (if (I 61 20) = 0 then (I 63 (((I 61 34) + 98) + (2 * v4)).toNatClampNeg) else (I 72 v4.toNatClampNeg)), vL (J 81 (v3 - 1).toNatClampNeg)] from ?_)))))
                have h := h.2
                have hj15 : ∀ (m16 : Int64), m16 = (if (if (I 61 20) = 0 then (I 63 (((I 61 34) + 98) + (2 * v4)).toNatClampNeg) else (I 72 v4.toNatClampNeg)) = 29 then (0 : Int64) else 1) → tWG K B 0 0 S I J 347 [some (vR 61), none, some (vI v2), some (vI v3), some (vI (v4 + 1)), none, some (vI (if (I 61 20) = 0 then (I 63 ((((I 61 34) + 98) + (2 * v4)) + 1).toNatClampNeg) else (I 73 v4.toNatClampNeg)))] [vL m16, vL (J 81 (v3 - 1).toNatClampNeg)] := by
                  intro m16 em16
                  subst em16
                  refine gBk (pe := 348) hO [o0 .lcmp] (by decide +kernel) (show tWG K B 0 0 S I J 348 [some (vR 61), none, some (vI v2), some (vI v3), some (vI (v4 + 1)), none, some (vI (if (I 61 20) = 0 then (I 63 ((((I 61 34) + 98) + (2 * v4)) + 1).toNatClampNeg) else (I 73 v4.toNatClampNeg)))] [vI (lg_cmp (J 81 (v3 - 1).toNatClampNeg) (if (if (I 61 20) = 0 then (I 63 (((I 61 34) + 98) + (2 * v4)).toNatClampNeg) else (I 72 v4.toNatClampNeg)) = 29 then (0 : Int64) else 1))] from ?_)
                  have hj18 : ∀ (m19 : Int32) (m20 : Int32), m19 = (if (lg_cmp (J 81 (v3 - 1).toNatClampNeg) (if (if (I 61 20) = 0 then (I 63 (((I 61 34) + 98) + (2 * v4)).toNatClampNeg) else (I 72 v4.toNatClampNeg)) = 29 then (0 : Int64) else 1)) = 0 then v3 else (v3 + (-1))) → m20 = (if (lg_cmp (J 81 (v3 - 1).toNatClampNeg) (if (if (I 61 20) = 0 then (I 63 (((I 61 34) + 98) + (2 * v4)).toNatClampNeg) else (I 72 v4.toNatClampNeg)) = 29 then (0 : Int64) else 1)) = 0 then (if (I 61 20) = 0 then (I 63 ((((I 61 34) + 98) + (2 * v4)) + 1).toNatClampNeg) else (I 73 v4.toNatClampNeg)) else (v4 + 1)) → tWG K B 0 0 S I J 361 [some (vR 61), none, some (vI v2), some (vI m19), some (vI m20), none, none] [] := by
                    intro m19 m20 em19 em20
                    subst em19
                    subst em20
                    exact W12_reckonAll_361 hO hR hG t0 hQ hkb10 h
                  refine gIfNe hO (off := 10) (tgt := 358) (by decide +kernel) (by decide) (fun c21 => ?_) (fun c21 => ?_)
                  · refine gBk (pe := 361) hO [oI (.iinc 3 (-1)) (-1)] (by decide +kernel) (show tWG K B 0 0 S I J 361 [some (vR 61), none, some (vI v2), some (vI (v3 + (-1))), some (vI (v4 + 1)), none, some (vI (if (I 61 20) = 0 then (I 63 ((((I 61 34) + 98) + (2 * v4)) + 1).toNatClampNeg) else (I 73 v4.toNatClampNeg)))] [] from ?_)
                    exact gWeak (L' := [some (vR 61), none, some (vI v2), some (vI (v3 + (-1))), some (vI (v4 + 1)), none, none]) ⟨rfl, rfl, rfl, rfl, trivial⟩ (hj18 _ _ (Eq.symm (if_neg c21)) (Eq.symm (if_neg c21)))
                  · refine gBk (pe := 361) hO [o0 (.iload 6), o0 (.istore 4), o0 (.goto 6)] (by decide +kernel) (And.intro (Nat.le_of_ble_eq_true rfl) (show tWG K B 0 0 S I J 361 [some (vR 61), none, some (vI v2), some (vI v3), some (vI (if (I 61 20) = 0 then (I 63 ((((I 61 34) + 98) + (2 * v4)) + 1).toNatClampNeg) else (I 73 v4.toNatClampNeg))), none, some (vI (if (I 61 20) = 0 then (I 63 ((((I 61 34) + 98) + (2 * v4)) + 1).toNatClampNeg) else (I 73 v4.toNatClampNeg)))] [] from ?_))
                    exact gWeak (L' := [some (vR 61), none, some (vI v2), some (vI v3), some (vI (if (I 61 20) = 0 then (I 63 ((((I 61 34) + 98) + (2 * v4)) + 1).toNatClampNeg) else (I 73 v4.toNatClampNeg))), none, none]) ⟨rfl, rfl, rfl, rfl, trivial⟩ (hj18 _ _ (Eq.symm (if_pos c21)) (Eq.symm (if_pos c21)))
                refine gIcNe hO (off := 7) (tgt := 346) (by decide +kernel) (by decide) (fun c17 => ?_) (fun c17 => ?_)
                · refine gBk (pe := 347) hO [oJ (.lconst 1) 0 1] (by decide +kernel) (show tWG K B 0 0 S I J 347 [some (vR 61), none, some (vI v2), some (vI v3), some (vI (v4 + 1)), some (vI (if (I 61 20) = 0 then (I 63 (((I 61 34) + 98) + (2 * v4)).toNatClampNeg) else (I 72 v4.toNatClampNeg))), some (vI (if (I 61 20) = 0 then (I 63 ((((I 61 34) + 98) + (2 * v4)) + 1).toNatClampNeg) else (I 73 v4.toNatClampNeg)))] [vL 1, vL (J 81 (v3 - 1).toNatClampNeg)] from ?_)
                  exact gWeak (L' := [some (vR 61), none, some (vI v2), some (vI v3), some (vI (v4 + 1)), none, some (vI (if (I 61 20) = 0 then (I 63 ((((I 61 34) + 98) + (2 * v4)) + 1).toNatClampNeg) else (I 73 v4.toNatClampNeg)))]) ⟨rfl, rfl, rfl, rfl, rfl, trivial⟩ (hj15 _ (Eq.symm (if_neg c17)))
                · refine gBk (pe := 347) hO [oJ (.lconst 0) 0 0, o0 (.goto 4)] (by decide +kernel) (show tWG K B 0 0 S I J 347 [some (vR 61), none, some (vI v2), some (vI v3), some (vI (v4 + 1)), some (vI (if (I 61 20) = 0 then (I 63 (((I 61 34) + 98) + (2 * v4)).toNatClampNeg) else (I 72 v4.toNatClampNeg))), some (vI (if (I 61 20) = 0 then (I 63 ((((I 61 34) + 98) + (2 * v4)) + 1).toNatClampNeg) else (I 73 v4.toNatClampNeg)))] [vL 0, vL (J 81 (v3 - 1).toNatClampNeg)] from ?_)
                  exact gWeak (L' := [some (vR 61), none, some (vI v2), some (vI v3), some (vI (v4 + 1)), none, some (vI (if (I 61 20) = 0 then (I 63 ((((I 61 34) + 98) + (2 * v4)) + 1).toNatClampNeg) else (I 73 v4.toNatClampNeg)))]) ⟨rfl, rfl, rfl, rfl, rfl, trivial⟩ (hj15 _ (Eq.symm (if_pos c17)))
              · have h := h.2 c14
                refine gBk (pe := 361) hO [o0 (.aload_n 0), oF (.getfield 121) 12 37 223 81, o0 (.iload_n 3), oI (.iconst 1) 1, o0 .isub, oJ (.lconst 1) 0 1, o0 (.aload_n 0), oF (.getfield 121) 12 37 223 81, o0 (.iload_n 3), oI (.iconst 1) 1, o0 .isub, o0 .laload, o0 .lsub, o0 .lastore, o0 (.goto 37)] (by decide +kernel) (And.intro t0 (And.intro rfl (And.intro t0 (And.intro rfl (And.intro (tGr.off hG t0 (k := 37) rfl) (And.intro (tin (tGr.len hG t0 (k := 37) rfl (by decide)) h.1) (And.intro (tGr.off hG t0 (k := 37) rfl) (And.intro (tin (tGr.len hG t0 (k := 37) rfl (by decide)) h.2.1) (show tWG K B 0 0 S I (uJ J 81 (v3 - 1).toNatClampNeg (1 - (J 81 (v3 - 1).toNatClampNeg))) 361 [some (vR 61), none, some (vI v2), some (vI v3), some (vI (v4 + 1)), some (vI (if (I 61 20) = 0 then (I 63 (((I 61 34) + 98) + (2 * v4)).toNatClampNeg) else (I 72 v4.toNatClampNeg))), some (vI (if (I 61 20) = 0 then (I 63 ((((I 61 34) + 98) + (2 * v4)) + 1).toNatClampNeg) else (I 73 v4.toNatClampNeg)))] [] from ?_)))))))))
                have h := h.2.2
                exact gWeak (L' := [some (vR 61), none, some (vI v2), some (vI v3), some (vI (v4 + 1)), none, none]) ⟨rfl, rfl, rfl, rfl, trivial⟩ (W12_reckonAll_361 hO hR hG t0 hQ hkb10 h)
            · have h := h.2 c13
              refine gBk (pe := 256) hO [oI (.iinc 3 (-1)) (-1), o0 (.aload_n 0), oF (.getfield 121) 12 37 223 81, o0 (.iload_n 3), oI (.iconst 1) 1, o0 .isub, o0 (.aload_n 0), o0 (.iload 5), o0 (.aload_n 0), oF (.getfield 121) 12 37 223 81, o0 (.iload_n 3), oI (.iconst 1) 1, o0 .isub, o0 .laload, o0 (.aload_n 0), oF (.getfield 121) 12 37 223 81, o0 (.iload_n 3), o0 .laload] (by decide +kernel) (And.intro t0 (And.intro rfl (And.intro t0 (And.intro rfl (And.intro (tGr.off hG t0 (k := 37) rfl) (And.intro (tin (tGr.len hG t0 (k := 37) rfl (by decide)) h.1) (And.intro t0 (And.intro rfl (And.intro (tGr.off hG t0 (k := 37) rfl) (And.intro (tin (tGr.len hG t0 (k := 37) rfl (by decide)) h.2.1) (show tWG K B 0 0 S I J 256 [some (vR 61), none, some (vI v2), some (vI (v3 + (-1))), some (vI (v4 + 1)), some (vI (if (I 61 20) = 0 then (I 63 (((I 61 34) + 98) + (2 * v4)).toNatClampNeg) else (I 72 v4.toNatClampNeg))), some (vI (if (I 61 20) = 0 then (I 63 ((((I 61 34) + 98) + (2 * v4)) + 1).toNatClampNeg) else (I 73 v4.toNatClampNeg)))] [vL (J 81 (v3 + (-1)).toNatClampNeg), vL (J 81 ((v3 + (-1)) - 1).toNatClampNeg), vI (if (I 61 20) = 0 then (I 63 (((I 61 34) + 98) + (2 * v4)).toNatClampNeg) else (I 72 v4.toNatClampNeg)), vR 61, vI ((v3 + (-1)) - 1), vR 81] from ?_)))))))))))
              have h := h.2.2
              refine gCVl_c hO (M12_reckon t0 h) hc12_reckon (idx := 421) (w := 364) (by decide +kernel) hR (by omega) t0 ⟨by decide, rfl⟩ (vs := [vI (if (I 61 20) = 0 then (I 63 (((I 61 34) + 98) + (2 * v4)).toNatClampNeg) else (I 72 v4.toNatClampNeg)), vL (J 81 ((v3 + (-1)) - 1).toNatClampNeg), vL (J 81 (v3 + (-1)).toNatClampNeg)]) (st := [vI ((v3 + (-1)) - 1), vR 81]) ⟨rfl, Nat.le_of_ble_eq_true rfl, rfl⟩ (by decide +kernel) (fun x24 I22 J23 h => ?_)
              refine gBk (pe := 265) hO [o0 .lastore, o0 (.aload_n 0), o0 (.aload_n 0), oF (.getfield 413) 12 38 342 0] (by decide +kernel) (And.intro (tGr.off hG t0 (k := 37) rfl) (And.intro (tin (tGr.len hG t0 (k := 37) rfl (by decide)) h.1) (And.intro t0 (show tWG K B 0 0 S I22 (uJ J23 81 ((v3 + (-1)) - 1).toNatClampNeg x24) 265 [some (vR 61), none, some (vI v2), some (vI (v3 + (-1))), some (vI (v4 + 1)), some (vI (if (I 61 20) = 0 then (I 63 (((I 61 34) + 98) + (2 * v4)).toNatClampNeg) else (I 72 v4.toNatClampNeg))), some (vI (if (I 61 20) = 0 then (I 63 ((((I 61 34) + 98) + (2 * v4)) + 1).toNatClampNeg) else (I 73 v4.toNatClampNeg)))] [vI (I22 61 38), vR 61] from ?_))))
              have h := h.2
              have hj26 : ∀ (m27 : Int32), m27 = (if (I22 61 38) = 0 then (if (V12_in ((uJ J23 81 ((v3 + (-1)) - 1).toNatClampNeg x24) 81 ((v3 + (-1)) - 1).toNatClampNeg) (-1000000000) 1000000000) = 0 then (1 : Int32) else 0) else 1) → tWG K B 0 0 S I22 (uJ J23 81 ((v3 + (-1)) - 1).toNatClampNeg x24) 293 [some (vR 61), none, some (vI v2), some (vI (v3 + (-1))), some (vI (v4 + 1)), none, none] [vI m27, vR 61] := by
                intro m27 em27
                subst em27
                have h := h.2
                refine gBk (pe := 361) hO [oF (.putfield 413) 12 38 342 0, o0 (.goto 65)] (by decide +kernel) (And.intro t0 (And.intro (bz_if (bz_if (Or.inr rfl) (Or.inl rfl)) (Or.inr rfl)) (show tWG K B 0 0 S (uI I22 61 38 (if (I22 61 38) = 0 then (if (V12_in ((uJ J23 81 ((v3 + (-1)) - 1).toNatClampNeg x24) 81 ((v3 + (-1)) - 1).toNatClampNeg) (-1000000000) 1000000000) = 0 then (1 : Int32) else 0) else 1)) (uJ J23 81 ((v3 + (-1)) - 1).toNatClampNeg x24) 361 [some (vR 61), none, some (vI v2), some (vI (v3 + (-1))), some (vI (v4 + 1)), none, none] [] from ?_)))
                exact W12_reckonAll_361 hO hR hG t0 hQ hkb10 h
              have h := h.1
              refine gIfNe hO (off := 23) (tgt := 288) (by decide +kernel) (by decide) (fun c28 => ?_) (fun c28 => ?_)
              · have h := h.1 c28
                refine gBk (pe := 293) hO [oI (.iconst 1) 1, o0 (.goto 4)] (by decide +kernel) (show tWG K B 0 0 S I22 (uJ J23 81 ((v3 + (-1)) - 1).toNatClampNeg x24) 293 [some (vR 61), none, some (vI v2), some (vI (v3 + (-1))), some (vI (v4 + 1)), some (vI (if (I 61 20) = 0 then (I 63 (((I 61 34) + 98) + (2 * v4)).toNatClampNeg) else (I 72 v4.toNatClampNeg))), some (vI (if (I 61 20) = 0 then (I 63 ((((I 61 34) + 98) + (2 * v4)) + 1).toNatClampNeg) else (I 73 v4.toNatClampNeg)))] [vI 1, vR 61] from ?_)
                exact gWeak (L' := [some (vR 61), none, some (vI v2), some (vI (v3 + (-1))), some (vI (v4 + 1)), none, none]) ⟨rfl, rfl, rfl, rfl, trivial⟩ (hj26 _ (Eq.symm (if_neg c28)))
              · have h := h.2 c28
                refine gBk (pe := 276) hO [o0 (.aload_n 0), oF (.getfield 121) 12 37 223 81, o0 (.iload_n 3), oI (.iconst 1) 1, o0 .isub, o0 .laload] (by decide +kernel) (And.intro t0 (And.intro rfl (And.intro (tGr.off hG t0 (k := 37) rfl) (And.intro (tin (tGr.len hG t0 (k := 37) rfl (by decide)) h.1) (show tWG K B 0 0 S I22 (uJ J23 81 ((v3 + (-1)) - 1).toNatClampNeg x24) 276 [some (vR 61), none, some (vI v2), some (vI (v3 + (-1))), some (vI (v4 + 1)), some (vI (if (I 61 20) = 0 then (I 63 (((I 61 34) + 98) + (2 * v4)).toNatClampNeg) else (I 72 v4.toNatClampNeg))), some (vI (if (I 61 20) = 0 then (I 63 ((((I 61 34) + 98) + (2 * v4)) + 1).toNatClampNeg) else (I 73 v4.toNatClampNeg)))] [vL ((uJ J23 81 ((v3 + (-1)) - 1).toNatClampNeg x24) 81 ((v3 + (-1)) - 1).toNatClampNeg), vR 61] from ?_)))))
                have h := h.2
                refine gBk (pe := 279) hO [(.ldc2_w 425, (0, 0, 350, 0), 0, (-1000000000))] (by decide +kernel) (show tWG K B 0 0 S I22 (uJ J23 81 ((v3 + (-1)) - 1).toNatClampNeg x24) 279 [some (vR 61), none, some (vI v2), some (vI (v3 + (-1))), some (vI (v4 + 1)), some (vI (if (I 61 20) = 0 then (I 63 (((I 61 34) + 98) + (2 * v4)).toNatClampNeg) else (I 72 v4.toNatClampNeg))), some (vI (if (I 61 20) = 0 then (I 63 ((((I 61 34) + 98) + (2 * v4)) + 1).toNatClampNeg) else (I 73 v4.toNatClampNeg)))] [vL (-1000000000), vL ((uJ J23 81 ((v3 + (-1)) - 1).toNatClampNeg x24) 81 ((v3 + (-1)) - 1).toNatClampNeg), vR 61] from ?_)
                refine gBk (pe := 282) hO [(.ldc2_w 427, (0, 0, 351, 0), 0, 1000000000)] (by decide +kernel) (show tWG K B 0 0 S I22 (uJ J23 81 ((v3 + (-1)) - 1).toNatClampNeg x24) 282 [some (vR 61), none, some (vI v2), some (vI (v3 + (-1))), some (vI (v4 + 1)), some (vI (if (I 61 20) = 0 then (I 63 (((I 61 34) + 98) + (2 * v4)).toNatClampNeg) else (I 72 v4.toNatClampNeg))), some (vI (if (I 61 20) = 0 then (I 63 ((((I 61 34) + 98) + (2 * v4)) + 1).toNatClampNeg) else (I 73 v4.toNatClampNeg)))] [vL 1000000000, vL (-1000000000), vL ((uJ J23 81 ((v3 + (-1)) - 1).toNatClampNeg x24) 81 ((v3 + (-1)) - 1).toNatClampNeg), vR 61] from ?_)
                refine gCSi_z hO (M12_in) hc12_in (idx := 181) (w := 319) (by decide +kernel) hR (by omega) (vs := [vL ((uJ J23 81 ((v3 + (-1)) - 1).toNatClampNeg x24) 81 ((v3 + (-1)) - 1).toNatClampNeg), vL (-1000000000), vL 1000000000]) (st := [vR 61]) ⟨rfl, Nat.le_of_ble_eq_true rfl, rfl⟩ (by decide +kernel) (fun z29 => ?_)
                refine gIfNe hO (off := 7) (tgt := 292) (by decide +kernel) (by decide) (fun c30 => ?_) (fun c30 => ?_)
                · have h := h.1 c30
                  refine gBk (pe := 293) hO [oI (.iconst 0) 0] (by decide +kernel) (show tWG K B 0 0 S I22 (uJ J23 81 ((v3 + (-1)) - 1).toNatClampNeg x24) 293 [some (vR 61), none, some (vI v2), some (vI (v3 + (-1))), some (vI (v4 + 1)), some (vI (if (I 61 20) = 0 then (I 63 (((I 61 34) + 98) + (2 * v4)).toNatClampNeg) else (I 72 v4.toNatClampNeg))), some (vI (if (I 61 20) = 0 then (I 63 ((((I 61 34) + 98) + (2 * v4)) + 1).toNatClampNeg) else (I 73 v4.toNatClampNeg)))] [vI 0, vR 61] from ?_)
                  exact gWeak (L' := [some (vR 61), none, some (vI v2), some (vI (v3 + (-1))), some (vI (v4 + 1)), none, none]) ⟨rfl, rfl, rfl, rfl, trivial⟩ (hj26 _ (Eq.symm ((if_pos c28).trans (if_neg c30))))
                · have h := h.2 c30
                  refine gBk (pe := 293) hO [oI (.iconst 1) 1, o0 (.goto 4)] (by decide +kernel) (show tWG K B 0 0 S I22 (uJ J23 81 ((v3 + (-1)) - 1).toNatClampNeg x24) 293 [some (vR 61), none, some (vI v2), some (vI (v3 + (-1))), some (vI (v4 + 1)), some (vI (if (I 61 20) = 0 then (I 63 (((I 61 34) + 98) + (2 * v4)).toNatClampNeg) else (I 72 v4.toNatClampNeg))), some (vI (if (I 61 20) = 0 then (I 63 ((((I 61 34) + 98) + (2 * v4)) + 1).toNatClampNeg) else (I 73 v4.toNatClampNeg)))] [vI 1, vR 61] from ?_)
                  exact gWeak (L' := [some (vR 61), none, some (vI v2), some (vI (v3 + (-1))), some (vI (v4 + 1)), none, none]) ⟨rfl, rfl, rfl, rfl, trivial⟩ (hj26 _ (Eq.symm ((if_pos c28).trans (if_pos c30))))
          · have h := h.2 c12
            refine gBk (pe := 114) hO [o0 (.aload_n 0), oF (.getfield 121) 12 37 223 81, o0 (.iload_n 3), o0 (.iload 5)] (by decide +kernel) (And.intro t0 (And.intro rfl (show tWG K B 0 0 S I J 114 [some (vR 61), none, some (vI v2), some (vI v3), some (vI (v4 + 1)), some (vI (if (I 61 20) = 0 then (I 63 (((I 61 34) + 98) + (2 * v4)).toNatClampNeg) else (I 72 v4.toNatClampNeg))), some (vI (if (I 61 20) = 0 then (I 63 ((((I 61 34) + 98) + (2 * v4)) + 1).toNatClampNeg) else (I 73 v4.toNatClampNeg)))] [vI (if (I 61 20) = 0 then (I 63 (((I 61 34) + 98) + (2 * v4)).toNatClampNeg) else (I 72 v4.toNatClampNeg)), vI v3, vR 81] from ?_)))
            have hj33 : ∀ (m34 : Int64), m34 = (if (if (I 61 20) = 0 then (I 63 (((I 61 34) + 98) + (2 * v4)).toNatClampNeg) else (I 72 v4.toNatClampNeg)) = 0 then (if (I 61 20) = 0 then (I 63 ((((I 61 34) + 98) + (2 * v4)) + 1).toNatClampNeg) else (I 73 v4.toNatClampNeg)).toInt64 else (if (I 61 20) = 0 then (J 79 (if (I 61 20) = 0 then (I 63 (((I 61 34) + 98) + (2 * v4)).toNatClampNeg) else (I 72 v4.toNatClampNeg)).toNatClampNeg) else (if 7 ≤ (if (I 61 20) = 0 then (I 63 (((I 61 34) + 98) + (2 * v4)).toNatClampNeg) else (I 72 v4.toNatClampNeg)) then (if (if (I 61 20) = 0 then (I 63 (((I 61 34) + 98) + (2 * v4)).toNatClampNeg) else (I 72 v4.toNatClampNeg)) = 7 then (if (V12_isBend S I J (if (I 61 20) = 0 then (I 63 ((((I 61 34) + 98) + (2 * v4)) + 1).toNatClampNeg) else (I 73 v4.toNatClampNeg))) = 0 then ((-10) : Int32).toInt64 else (V12_ofBend S I J (if (I 61 20) = 0 then (I 63 ((((I 61 34) + 98) + (2 * v4)) + 1).toNatClampNeg) else (I 73 v4.toNatClampNeg)) 0).toInt64) else (if (V12_isLoad S I J (if (I 61 20) = 0 then (I 63 ((((I 61 34) + 98) + (2 * v4)) + 1).toNatClampNeg) else (I 73 v4.toNatClampNeg))) = 0 then (-10) else (I 63 (14 + (if (I 61 20) = 0 then (I 63 ((((I 61 34) + 98) + (2 * v4)) + 1).toNatClampNeg) else (I 73 v4.toNatClampNeg))).toNatClampNeg).toInt64)) else (J 80 (if (I 61 20) = 0 then (I 63 (((I 61 34) + 98) + (2 * v4)).toNatClampNeg) else (I 72 v4.toNatClampNeg)).toNatClampNeg)))) → tWG K B 0 0 S I J 215 [some (vR 61), none, some (vI v2), some (vI v3), some (vI (v4 + 1)), none, none] [vL m34, vI v3, vR 81] := by
              intro m34 em34
              subst em34
              have h := h.2
              refine gBk (pe := 361) hO [o0 .lastore, oI (.iinc 3 1) 1, o0 (.goto 142)] (by decide +kernel) (And.intro (tGr.off hG t0 (k := 37) rfl) (And.intro (tin (tGr.len hG t0 (k := 37) rfl (by decide)) h.1) (show tWG K B 0 0 S I (uJ J 81 v3.toNatClampNeg (if (if (I 61 20) = 0 then (I 63 (((I 61 34) + 98) + (2 * v4)).toNatClampNeg) else (I 72 v4.toNatClampNeg)) = 0 then (if (I 61 20) = 0 then (I 63 ((((I 61 34) + 98) + (2 * v4)) + 1).toNatClampNeg) else (I 73 v4.toNatClampNeg)).toInt64 else (if (I 61 20) = 0 then (J 79 (if (I 61 20) = 0 then (I 63 (((I 61 34) + 98) + (2 * v4)).toNatClampNeg) else (I 72 v4.toNatClampNeg)).toNatClampNeg) else (if 7 ≤ (if (I 61 20) = 0 then (I 63 (((I 61 34) + 98) + (2 * v4)).toNatClampNeg) else (I 72 v4.toNatClampNeg)) then (if (if (I 61 20) = 0 then (I 63 (((I 61 34) + 98) + (2 * v4)).toNatClampNeg) else (I 72 v4.toNatClampNeg)) = 7 then (if (V12_isBend S I J (if (I 61 20) = 0 then (I 63 ((((I 61 34) + 98) + (2 * v4)) + 1).toNatClampNeg) else (I 73 v4.toNatClampNeg))) = 0 then ((-10) : Int32).toInt64 else (V12_ofBend S I J (if (I 61 20) = 0 then (I 63 ((((I 61 34) + 98) + (2 * v4)) + 1).toNatClampNeg) else (I 73 v4.toNatClampNeg)) 0).toInt64) else (if (V12_isLoad S I J (if (I 61 20) = 0 then (I 63 ((((I 61 34) + 98) + (2 * v4)) + 1).toNatClampNeg) else (I 73 v4.toNatClampNeg))) = 0 then (-10) else (I 63 (14 + (if (I 61 20) = 0 then (I 63 ((((I 61 34) + 98) + (2 * v4)) + 1).toNatClampNeg) else (I 73 v4.toNatClampNeg))).toNatClampNeg).toInt64)) else (J 80 (if (I 61 20) = 0 then (I 63 (((I 61 34) + 98) + (2 * v4)).toNatClampNeg) else (I 72 v4.toNatClampNeg)).toNatClampNeg))))) 361 [some (vR 61), none, some (vI v2), some (vI (v3 + 1)), some (vI (v4 + 1)), none, none] [] from ?_)))
              have h := h.2
              exact W12_reckonAll_361 hO hR hG t0 hQ hkb10 h
            have h := h.1
            refine gIfNe hO (off := 9) (tgt := 123) (by decide +kernel) (by decide) (fun c35 => ?_) (fun c35 => ?_)
            · have h := h.1 c35
              refine gBk (pe := 127) hO [o0 (.aload_n 0), oF (.getfield 340) 12 20 348 0] (by decide +kernel) (And.intro t0 (show tWG K B 0 0 S I J 127 [some (vR 61), none, some (vI v2), some (vI v3), some (vI (v4 + 1)), some (vI (if (I 61 20) = 0 then (I 63 (((I 61 34) + 98) + (2 * v4)).toNatClampNeg) else (I 72 v4.toNatClampNeg))), some (vI (if (I 61 20) = 0 then (I 63 ((((I 61 34) + 98) + (2 * v4)) + 1).toNatClampNeg) else (I 73 v4.toNatClampNeg)))] [vI (I 61 20), vI v3, vR 81] from ?_))
              refine gIfNe hO (off := 13) (tgt := 140) (by decide +kernel) (by decide) (fun c36 => ?_) (fun c36 => ?_)
              · have h := h.1 c36
                refine gBk (pe := 144) hO [o0 (.iload 5), oI (.bipush 7) 7] (by decide +kernel) (show tWG K B 0 0 S I J 144 [some (vR 61), none, some (vI v2), some (vI v3), some (vI (v4 + 1)), some (vI (if (I 61 20) = 0 then (I 63 (((I 61 34) + 98) + (2 * v4)).toNatClampNeg) else (I 72 v4.toNatClampNeg))), some (vI (if (I 61 20) = 0 then (I 63 ((((I 61 34) + 98) + (2 * v4)) + 1).toNatClampNeg) else (I 73 v4.toNatClampNeg)))] [vI 7, vI (if (I 61 20) = 0 then (I 63 (((I 61 34) + 98) + (2 * v4)).toNatClampNeg) else (I 72 v4.toNatClampNeg)), vI v3, vR 81] from ?_)
                refine gIcGe hO (off := 13) (tgt := 157) (by decide +kernel) (by decide) (fun c37 => ?_) (fun c37 => ?_)
                · have h := h.1 c37
                  refine gBk (pe := 161) hO [o0 (.iload 5), oI (.bipush 7) 7] (by decide +kernel) (show tWG K B 0 0 S I J 161 [some (vR 61), none, some (vI v2), some (vI v3), some (vI (v4 + 1)), some (vI (if (I 61 20) = 0 then (I 63 (((I 61 34) + 98) + (2 * v4)).toNatClampNeg) else (I 72 v4.toNatClampNeg))), some (vI (if (I 61 20) = 0 then (I 63 ((((I 61 34) + 98) + (2 * v4)) + 1).toNatClampNeg) else (I 73 v4.toNatClampNeg)))] [vI 7, vI (if (I 61 20) = 0 then (I 63 (((I 61 34) + 98) + (2 * v4)).toNatClampNeg) else (I 72 v4.toNatClampNeg)), vI v3, vR 81] from ?_)
                  refine gIcNe hO (off := 28) (tgt := 189) (by decide +kernel) (by decide) (fun c38 => ?_) (fun c38 => ?_)
                  · have h := h.1 c38
                    refine gBk (pe := 192) hO [o0 (.aload_n 0), o0 (.iload 6)] (by decide +kernel) (show tWG K B 0 0 S I J 192 [some (vR 61), none, some (vI v2), some (vI v3), some (vI (v4 + 1)), some (vI (if (I 61 20) = 0 then (I 63 (((I 61 34) + 98) + (2 * v4)).toNatClampNeg) else (I 72 v4.toNatClampNeg))), some (vI (if (I 61 20) = 0 then (I 63 ((((I 61 34) + 98) + (2 * v4)) + 1).toNatClampNeg) else (I 73 v4.toNatClampNeg)))] [vI (if (I 61 20) = 0 then (I 63 ((((I 61 34) + 98) + (2 * v4)) + 1).toNatClampNeg) else (I 73 v4.toNatClampNeg)), vR 61, vI v3, vR 81] from ?_)
                    refine gCVi_z hO (M12_isLoad t0) hc12_isLoad (idx := 196) (w := 360) (by decide +kernel) hR (by omega) t0 ⟨by decide, rfl⟩ (vs := [vI (if (I 61 20) = 0 then (I 63 ((((I 61 34) + 98) + (2 * v4)) + 1).toNatClampNeg) else (I 73 v4.toNatClampNeg))]) (st := [vI v3, vR 81]) ⟨rfl, Nat.le_of_ble_eq_true rfl, rfl⟩ (by decide +kernel) (fun z39 => ?_)
                    refine gIfEq hO (off := 17) (tgt := 212) (by decide +kernel) (by decide) (fun c40 => ?_) (fun c40 => ?_)
                    · have h := h.1 c40
                      refine gBk (pe := 215) hO [(.ldc2_w 419, (0, 0, 349, 0), 0, (-10))] (by decide +kernel) (show tWG K B 0 0 S I J 215 [some (vR 61), none, some (vI v2), some (vI v3), some (vI (v4 + 1)), some (vI (if (I 61 20) = 0 then (I 63 (((I 61 34) + 98) + (2 * v4)).toNatClampNeg) else (I 72 v4.toNatClampNeg))), some (vI (if (I 61 20) = 0 then (I 63 ((((I 61 34) + 98) + (2 * v4)) + 1).toNatClampNeg) else (I 73 v4.toNatClampNeg)))] [vL (-10), vI v3, vR 81] from ?_)
                      exact gWeak (L' := [some (vR 61), none, some (vI v2), some (vI v3), some (vI (v4 + 1)), none, none]) ⟨rfl, rfl, rfl, rfl, trivial⟩ (hj33 _ (Eq.symm ((if_neg c35).trans ((if_neg c36).trans ((if_pos c37).trans ((if_neg c38).trans (if_pos c40)))))))
                    · have h := h.2 c40
                      refine gBk (pe := 215) hO [o0 (.aload_n 0), oF (.getfield 13) 12 3 179 63, oI (.bipush 14) 14, o0 (.iload 6), o0 .iadd, o0 .iaload, o0 .i2l, o0 (.goto 6)] (by decide +kernel) (And.intro t0 (And.intro rfl (And.intro (tGr.off hG t0 (k := 3) rfl) (And.intro (tin (tGr.len hG t0 (k := 3) rfl (by decide)) h.1) (show tWG K B 0 0 S I J 215 [some (vR 61), none, some (vI v2), some (vI v3), some (vI (v4 + 1)), some (vI (if (I 61 20) = 0 then (I 63 (((I 61 34) + 98) + (2 * v4)).toNatClampNeg) else (I 72 v4.toNatClampNeg))), some (vI (if (I 61 20) = 0 then (I 63 ((((I 61 34) + 98) + (2 * v4)) + 1).toNatClampNeg) else (I 73 v4.toNatClampNeg)))] [vL ((I 63 (14 + (if (I 61 20) = 0 then (I 63 ((((I 61 34) + 98) + (2 * v4)) + 1).toNatClampNeg) else (I 73 v4.toNatClampNeg))).toNatClampNeg).toInt64), vI v3, vR 81] from ?_)))))
                      have h := h.2
                      exact gWeak (L' := [some (vR 61), none, some (vI v2), some (vI v3), some (vI (v4 + 1)), none, none]) ⟨rfl, rfl, rfl, rfl, trivial⟩ (hj33 _ (Eq.symm ((if_neg c35).trans ((if_neg c36).trans ((if_pos c37).trans ((if_neg c38).trans (if_neg c40)))))))
                  · have h := h.2 c38
                    refine gBk (pe := 167) hO [o0 (.aload_n 0), o0 (.iload 6)] (by decide +kernel) (show tWG K B 0 0 S I J 167 [some (vR 61), none, some (vI v2), some (vI v3), some (vI (v4 + 1)), some (vI (if (I 61 20) = 0 then (I 63 (((I 61 34) + 98) + (2 * v4)).toNatClampNeg) else (I 72 v4.toNatClampNeg))), some (vI (if (I 61 20) = 0 then (I 63 ((((I 61 34) + 98) + (2 * v4)) + 1).toNatClampNeg) else (I 73 v4.toNatClampNeg)))] [vI (if (I 61 20) = 0 then (I 63 ((((I 61 34) + 98) + (2 * v4)) + 1).toNatClampNeg) else (I 73 v4.toNatClampNeg)), vR 61, vI v3, vR 81] from ?_)
                    refine gCVi_z hO (M12_isBend t0) hc12_isBend (idx := 220) (w := 352) (by decide +kernel) hR (by omega) t0 ⟨by decide, rfl⟩ (vs := [vI (if (I 61 20) = 0 then (I 63 ((((I 61 34) + 98) + (2 * v4)) + 1).toNatClampNeg) else (I 73 v4.toNatClampNeg))]) (st := [vI v3, vR 81]) ⟨rfl, Nat.le_of_ble_eq_true rfl, rfl⟩ (by decide +kernel) (fun z41 => ?_)
                    refine gIfEq hO (off := 13) (tgt := 183) (by decide +kernel) (by decide) (fun c42 => ?_) (fun c42 => ?_)
                    · have h := h.1 c42
                      refine gBk (pe := 215) hO [oI (.bipush (-10)) (-10), o0 .i2l, o0 (.goto 29)] (by decide +kernel) (show tWG K B 0 0 S I J 215 [some (vR 61), none, some (vI v2), some (vI v3), some (vI (v4 + 1)), some (vI (if (I 61 20) = 0 then (I 63 (((I 61 34) + 98) + (2 * v4)).toNatClampNeg) else (I 72 v4.toNatClampNeg))), some (vI (if (I 61 20) = 0 then (I 63 ((((I 61 34) + 98) + (2 * v4)) + 1).toNatClampNeg) else (I 73 v4.toNatClampNeg)))] [vL (((-10) : Int32).toInt64), vI v3, vR 81] from ?_)
                      exact gWeak (L' := [some (vR 61), none, some (vI v2), some (vI v3), some (vI (v4 + 1)), none, none]) ⟨rfl, rfl, rfl, rfl, trivial⟩ (hj33 _ (Eq.symm ((if_neg c35).trans ((if_neg c36).trans ((if_pos c37).trans ((if_pos c38).trans (if_pos c42)))))))
                    · have h := h.2 c42
                      refine gBk (pe := 177) hO [o0 (.aload_n 0), o0 (.iload 6), oI (.iconst 0) 0] (by decide +kernel) (show tWG K B 0 0 S I J 177 [some (vR 61), none, some (vI v2), some (vI v3), some (vI (v4 + 1)), some (vI (if (I 61 20) = 0 then (I 63 (((I 61 34) + 98) + (2 * v4)).toNatClampNeg) else (I 72 v4.toNatClampNeg))), some (vI (if (I 61 20) = 0 then (I 63 ((((I 61 34) + 98) + (2 * v4)) + 1).toNatClampNeg) else (I 73 v4.toNatClampNeg)))] [vI 0, vI (if (I 61 20) = 0 then (I 63 ((((I 61 34) + 98) + (2 * v4)) + 1).toNatClampNeg) else (I 73 v4.toNatClampNeg)), vR 61, vI v3, vR 81] from ?_)
                      refine gCVi_p hO (M12_ofBend t0 h.1) hc12_ofBend (idx := 240) (w := 356) (by decide +kernel) hR (by omega) t0 ⟨by decide, rfl⟩ (vs := [vI (if (I 61 20) = 0 then (I 63 ((((I 61 34) + 98) + (2 * v4)) + 1).toNatClampNeg) else (I 73 v4.toNatClampNeg)), vI 0]) (st := [vI v3, vR 81]) ⟨rfl, Nat.le_of_ble_eq_true rfl, rfl⟩ (by decide +kernel) ?_
                      have h := h.2
                      refine gBk (pe := 215) hO [o0 (.goto 5), o0 .i2l, o0 (.goto 29)] (by decide +kernel) (show tWG K B 0 0 S I J 215 [some (vR 61), none, some (vI v2), some (vI v3), some (vI (v4 + 1)), some (vI (if (I 61 20) = 0 then (I 63 (((I 61 34) + 98) + (2 * v4)).toNatClampNeg) else (I 72 v4.toNatClampNeg))), some (vI (if (I 61 20) = 0 then (I 63 ((((I 61 34) + 98) + (2 * v4)) + 1).toNatClampNeg) else (I 73 v4.toNatClampNeg)))] [vL ((V12_ofBend S I J (if (I 61 20) = 0 then (I 63 ((((I 61 34) + 98) + (2 * v4)) + 1).toNatClampNeg) else (I 73 v4.toNatClampNeg)) 0).toInt64), vI v3, vR 81] from ?_)
                      exact gWeak (L' := [some (vR 61), none, some (vI v2), some (vI v3), some (vI (v4 + 1)), none, none]) ⟨rfl, rfl, rfl, rfl, trivial⟩ (hj33 _ (Eq.symm ((if_neg c35).trans ((if_neg c36).trans ((if_pos c37).trans ((if_pos c38).trans (if_neg c42)))))))
                · have h := h.2 c37
                  refine gBk (pe := 215) hO [o0 (.aload_n 0), oF (.getfield 118) 12 36 222 80, o0 (.iload 5), o0 .laload, o0 (.goto 61)] (by decide +kernel) (And.intro t0 (And.intro rfl (And.intro (tGr.off hG t0 (k := 36) rfl) (And.intro (tin (tGr.len hG t0 (k := 36) rfl (by decide)) h.1) (show tWG K B 0 0 S I J 215 [some (vR 61), none, some (vI v2), some (vI v3), some (vI (v4 + 1)), some (vI (if (I 61 20) = 0 then (I 63 (((I 61 34) + 98) + (2 * v4)).toNatClampNeg) else (I 72 v4.toNatClampNeg))), some (vI (if (I 61 20) = 0 then (I 63 ((((I 61 34) + 98) + (2 * v4)) + 1).toNatClampNeg) else (I 73 v4.toNatClampNeg)))] [vL (J 80 (if (I 61 20) = 0 then (I 63 (((I 61 34) + 98) + (2 * v4)).toNatClampNeg) else (I 72 v4.toNatClampNeg)).toNatClampNeg), vI v3, vR 81] from ?_)))))
                  have h := h.2
                  exact gWeak (L' := [some (vR 61), none, some (vI v2), some (vI v3), some (vI (v4 + 1)), none, none]) ⟨rfl, rfl, rfl, rfl, trivial⟩ (hj33 _ (Eq.symm ((if_neg c35).trans ((if_neg c36).trans (if_neg c37)))))
              · have h := h.2 c36
                refine gBk (pe := 215) hO [o0 (.aload_n 0), oF (.getfield 115) 12 35 221 79, o0 (.iload 5), o0 .laload, o0 (.goto 78)] (by decide +kernel) (And.intro t0 (And.intro rfl (And.intro (tGr.off hG t0 (k := 35) rfl) (And.intro (tin (tGr.len hG t0 (k := 35) rfl (by decide)) h.1) (show tWG K B 0 0 S I J 215 [some (vR 61), none, some (vI v2), some (vI v3), some (vI (v4 + 1)), some (vI (if (I 61 20) = 0 then (I 63 (((I 61 34) + 98) + (2 * v4)).toNatClampNeg) else (I 72 v4.toNatClampNeg))), some (vI (if (I 61 20) = 0 then (I 63 ((((I 61 34) + 98) + (2 * v4)) + 1).toNatClampNeg) else (I 73 v4.toNatClampNeg)))] [vL (J 79 (if (I 61 20) = 0 then (I 63 (((I 61 34) + 98) + (2 * v4)).toNatClampNeg) else (I 72 v4.toNatClampNeg)).toNatClampNeg), vI v3, vR 81] from ?_)))))
                have h := h.2
                exact gWeak (L' := [some (vR 61), none, some (vI v2), some (vI v3), some (vI (v4 + 1)), none, none]) ⟨rfl, rfl, rfl, rfl, trivial⟩ (hj33 _ (Eq.symm ((if_neg c35).trans (if_pos c36))))
            · have h := h.2 c35
              refine gBk (pe := 215) hO [o0 (.iload 6), o0 .i2l, o0 (.goto 95)] (by decide +kernel) (show tWG K B 0 0 S I J 215 [some (vR 61), none, some (vI v2), some (vI v3), some (vI (v4 + 1)), some (vI (if (I 61 20) = 0 then (I 63 (((I 61 34) + 98) + (2 * v4)).toNatClampNeg) else (I 72 v4.toNatClampNeg))), some (vI (if (I 61 20) = 0 then (I 63 ((((I 61 34) + 98) + (2 * v4)) + 1).toNatClampNeg) else (I 73 v4.toNatClampNeg)))] [vL ((if (I 61 20) = 0 then (I 63 ((((I 61 34) + 98) + (2 * v4)) + 1).toNatClampNeg) else (I 73 v4.toNatClampNeg)).toInt64), vI v3, vR 81] from ?_)
              exact gWeak (L' := [some (vR 61), none, some (vI v2), some (vI v3), some (vI (v4 + 1)), none, none]) ⟨rfl, rfl, rfl, rfl, trivial⟩ (hj33 _ (Eq.symm (if_pos c35)))
        have h := h.1
        refine gIfEq hO (off := 13) (tgt := 76) (by decide +kernel) (by decide) (fun c11 => ?_) (fun c11 => ?_)
        · have h := h.1 c11
          refine gBk (pe := 95) hO [o0 (.aload_n 0), oF (.getfield 13) 12 3 179 63, o0 (.aload_n 0), oF (.getfield 416) 12 34 336 0, oI (.bipush 98) 98, o0 .iadd, oI (.iconst 2) 2, o0 (.iload 4), o0 .imul, o0 .iadd, oI (.iconst 1) 1, o0 .iadd, o0 .iaload] (by decide +kernel) (And.intro t0 (And.intro rfl (And.intro t0 (And.intro (tGr.off hG t0 (k := 3) rfl) (And.intro (tin (tGr.len hG t0 (k := 3) rfl (by decide)) h.1) (show tWG K B 0 0 S I J 95 [some (vR 61), none, some (vI v2), some (vI v3), some (vI v4), some (vI (if (I 61 20) = 0 then (I 63 (((I 61 34) + 98) + (2 * v4)).toNatClampNeg) else (I 72 v4.toNatClampNeg))), none] [vI (I 63 ((((I 61 34) + 98) + (2 * v4)) + 1).toNatClampNeg)] from ?_))))))
          have h := h.2
          exact (hj9 _ (Eq.symm (if_pos c11)))
        · have h := h.2 c11
          refine gBk (pe := 95) hO [o0 (.aload_n 0), oF (.getfield 48) 12 25 191 73, o0 (.iload 4), o0 .iaload, o0 (.goto 22)] (by decide +kernel) (And.intro t0 (And.intro rfl (And.intro (tGr.off hG t0 (k := 25) rfl) (And.intro (tin (tGr.len hG t0 (k := 25) rfl (by decide)) h.1) (show tWG K B 0 0 S I J 95 [some (vR 61), none, some (vI v2), some (vI v3), some (vI v4), some (vI (if (I 61 20) = 0 then (I 63 (((I 61 34) + 98) + (2 * v4)).toNatClampNeg) else (I 72 v4.toNatClampNeg))), none] [vI (I 73 v4.toNatClampNeg)] from ?_)))))
          have h := h.2
          exact (hj9 _ (Eq.symm (if_neg c11)))
      have h := h.1
      refine gIfEq hO (off := 13) (tgt := 40) (by decide +kernel) (by decide) (fun c8 => ?_) (fun c8 => ?_)
      · have h := h.1 c8
        refine gBk (pe := 57) hO [o0 (.aload_n 0), oF (.getfield 13) 12 3 179 63, o0 (.aload_n 0), oF (.getfield 416) 12 34 336 0, oI (.bipush 98) 98, o0 .iadd, oI (.iconst 2) 2, o0 (.iload 4), o0 .imul, o0 .iadd, o0 .iaload] (by decide +kernel) (And.intro t0 (And.intro rfl (And.intro t0 (And.intro (tGr.off hG t0 (k := 3) rfl) (And.intro (tin (tGr.len hG t0 (k := 3) rfl (by decide)) h.1) (show tWG K B 0 0 S I J 57 [some (vR 61), none, some (vI v2), some (vI v3), some (vI v4), none, none] [vI (I 63 (((I 61 34) + 98) + (2 * v4)).toNatClampNeg)] from ?_))))))
        have h := h.2
        exact (hj6 _ (Eq.symm (if_pos c8)))
      · have h := h.2 c8
        refine gBk (pe := 57) hO [o0 (.aload_n 0), oF (.getfield 45) 12 24 190 72, o0 (.iload 4), o0 .iaload, o0 (.goto 20)] (by decide +kernel) (And.intro t0 (And.intro rfl (And.intro (tGr.off hG t0 (k := 24) rfl) (And.intro (tin (tGr.len hG t0 (k := 24) rfl (by decide)) h.1) (show tWG K B 0 0 S I J 57 [some (vR 61), none, some (vI v2), some (vI v3), some (vI v4), none, none] [vI (I 72 v4.toNatClampNeg)] from ?_)))))
        have h := h.2
        exact (hj6 _ (Eq.symm (if_neg c8)))
theorem W12_reckonAll_L10 {K : tK} {B : tB} {S : tSH} {MC MS : Nat} (hO : tKO K B RX12 cX12_reckonAll 7) (hR : kR K = tRm 4 MC MS) (hG : tGr S) {n : Nat} (t0 : ty S 61 12) {k : tHI → tHJ → Prop} (hQ : tRet K B (tQv B (tPv S k)) 0 0 none) : ∀ (f : Nat) (I : tHI) (J : tHJ) (v2 : Int32) (v3 : Int32) (v4 : Int32), F12_reckonAll_L10 n S k f I J v2 v3 v4 → tWG K B 0 0 S I J 10 [some (vR 61), none, some (vI v2), some (vI v3), some (vI v4), none, none] [] := by
  intro f
  induction f with
  | zero => intro I J v2 v3 v4 h; exact h.elim
  | succ f ih => intro I J v2 v3 v4 h; exact W12_reckonAll_10 hO hR hG t0 hQ ih h
set_option maxRecDepth 20000 in
theorem hc12_reckonAll : tCV yX12_reckonAll cX12_reckonAll 7 none 2 := ⟨⟨(List.mem_of_getElem? (i := 347) rfl), (List.mem_of_getElem? (i := 5) (by decide +kernel)), by decide +kernel⟩, (List.mem_of_getElem? (i := 345) (by decide +kernel)), (List.mem_of_getElem? (i := 346) (by decide +kernel))⟩
set_option maxRecDepth 100000 in
theorem M12_reckonAll {l : Launch} {B : tB} {S : tSH} {I : tHI} {J : tHJ} {v1 : Int32} {v2 : Int32} {n : Nat} {k : tHI → tHJ → Prop} (t0 : ty S 61 12) (h : F12_reckonAll n S I J v1 v2 k) : Met l yX12_reckonAll (tWs yX12_reckonAll cX12_reckonAll 7 none) (tRm 4 0 0) (tPc B [vR 61, vI v1, vI v2] S I J) (tQv B (tPv S k)) 0 0 (tA B) :=
  tEntry (by decide +kernel) [some (vR 61), some (vI v1), some (vI v2), none, none, none, none] rfl rfl (Nat.le_of_ble_eq_true rfl) (fun K hl hR hO hQ hG => by
  subst hl
  refine gBk (pe := 10) hO [o0 (.aload_n 0), oI (.iconst 0) 0, oF (.putfield 413) 12 38 342 0, oI (.iconst 0) 0, o0 (.istore_n 3), o0 (.iload_n 1), o0 (.istore 4)] (by decide +kernel) (And.intro t0 (And.intro (Or.inl rfl) (And.intro (Nat.le_of_ble_eq_true rfl) (And.intro (Nat.le_of_ble_eq_true rfl) (show tWG K B 0 0 S (uI I 61 38 0) J 10 [some (vR 61), some (vI v1), some (vI v2), some (vI 0), some (vI v1), none, none] [] from ?_)))))
  exact gWeak (L' := [some (vR 61), none, some (vI v2), some (vI 0), some (vI v1), none, none]) ⟨rfl, rfl, rfl, rfl, trivial⟩ (W12_reckonAll_L10 hO hR hG t0 hQ n _ _ _ _ _ h))
set_option maxRecDepth 100000 in
theorem W12_isSo_59 {K : tK} {B : tB} {S : tSH} {MC MS : Nat} (hO : tKO K B RX12 cX12_isSo 2) (hR : kR K = tRm 5 MC MS) (hG : tGr S) {n : Nat} (t0 : ty S 61 12) {k : Int32 → tHI → tHJ → Prop} (hQ : tRet K B (tQi B (tPb S k)) 0 0 (some .boolean)) {I : tHI} {J : tHJ} {v1 : Int32} (h : F12_isSo_59 n S k I J v1) : tWG K B 0 0 S I J 59 [some (vR 61), some (vI v1)] [] := by
  refine gBk (pe := 66) hO [o0 (.aload_n 0), oF (.getfield 13) 12 3 179 63, o0 (.iload_n 1), o0 .iaload, oI (.iconst 5) 5] (by decide +kernel) (And.intro t0 (And.intro rfl (And.intro (tGr.off hG t0 (k := 3) rfl) (And.intro (tin (tGr.len hG t0 (k := 3) rfl (by decide)) h.1) (show tWG K B 0 0 S I J 66 [some (vR 61), some (vI v1)] [vI 5, vI (I 63 v1.toNatClampNeg)] from ?_)))))
  have h := h.2
  refine gIcEq hO (off := 44) (tgt := 110) (by decide +kernel) (by decide) (fun c2 => ?_) (fun c2 => ?_)
  · have h := h.1 c2
    refine gBk (pe := 111) hO [oI (.iconst 1) 1] (by decide +kernel) (show tWG K B 0 0 S I J 111 [some (vR 61), some (vI v1)] [vI 1] from ?_)
    exact gZret hO hQ (by decide +kernel) (Or.inr rfl) ⟨rfl, (Or.inr rfl), h⟩
  · have h := h.2 c2
    refine gBk (pe := 86) hO [o0 (.aload_n 0), o0 (.aload_n 0), oF (.getfield 13) 12 3 179 63, o0 (.iload_n 1), oI (.iconst 3) 3, o0 .iadd, o0 .iaload, o0 (.aload_n 0), oF (.getfield 13) 12 3 179 63, o0 (.iload_n 1), oI (.iconst 4) 4, o0 .iadd, o0 .iaload] (by decide +kernel) (And.intro t0 (And.intro rfl (And.intro (tGr.off hG t0 (k := 3) rfl) (And.intro (tin (tGr.len hG t0 (k := 3) rfl (by decide)) h.1) (And.intro t0 (And.intro rfl (And.intro (tGr.off hG t0 (k := 3) rfl) (And.intro (tin (tGr.len hG t0 (k := 3) rfl (by decide)) h.2.1) (show tWG K B 0 0 S I J 86 [some (vR 61), some (vI v1)] [vI (I 63 (v1 + 4).toNatClampNeg), vI (I 63 (v1 + 3).toNatClampNeg), vR 61] from ?_)))))))))
    have h := h.2.2
    refine gCVv_c hO (M12_reckonAll t0 h) hc12_reckonAll (idx := 432) (w := 344) (by decide +kernel) hR (by omega) t0 ⟨by decide, rfl⟩ (vs := [vI (I 63 (v1 + 3).toNatClampNeg), vI (I 63 (v1 + 4).toNatClampNeg)]) (st := []) ⟨rfl, Nat.le_of_ble_eq_true rfl, rfl⟩ (by decide +kernel) (fun I3 J4 h => ?_)
    refine gBk (pe := 101) hO [o0 (.aload_n 0), o0 (.aload_n 0), oF (.getfield 429) 12 39 343 0, oF (.putfield 435) 12 40 337 0, o0 (.aload_n 0), oF (.getfield 413) 12 38 342 0] (by decide +kernel) (And.intro t0 (And.intro t0 (And.intro t0 (show tWG K B 0 0 S I3 (uJ J4 61 40 (J4 61 39)) 101 [some (vR 61), some (vI v1)] [vI (I3 61 38)] from ?_))))
    have hj5 : ∀ (m6 : Int32), m6 = (if (I3 61 38) = 0 then (1 : Int32) else 0) → tWG K B 0 0 S I3 (uJ J4 61 40 (J4 61 39)) 109 [none, none] [vI m6] := by
      intro m6 em6
      subst em6
      exact gZret hO hQ (by decide +kernel) (bz_if (Or.inr rfl) (Or.inl rfl)) ⟨rfl, (bz_if (Or.inr rfl) (Or.inl rfl)), h⟩
    refine gIfNe hO (off := 7) (tgt := 108) (by decide +kernel) (by decide) (fun c7 => ?_) (fun c7 => ?_)
    · refine gBk (pe := 109) hO [oI (.iconst 0) 0] (by decide +kernel) (show tWG K B 0 0 S I3 (uJ J4 61 40 (J4 61 39)) 109 [some (vR 61), some (vI v1)] [vI 0] from ?_)
      exact gWeak (L' := [none, none]) trivial (hj5 _ (Eq.symm (if_neg c7)))
    · refine gBk (pe := 109) hO [oI (.iconst 1) 1, o0 (.goto 4)] (by decide +kernel) (show tWG K B 0 0 S I3 (uJ J4 61 40 (J4 61 39)) 109 [some (vR 61), some (vI v1)] [vI 1] from ?_)
      exact gWeak (L' := [none, none]) trivial (hj5 _ (Eq.symm (if_pos c7)))
set_option maxRecDepth 100000 in
theorem W12_isSo_57 {K : tK} {B : tB} {S : tSH} {MC MS : Nat} (hO : tKO K B RX12 cX12_isSo 2) (hR : kR K = tRm 5 MC MS) (hG : tGr S) {n : Nat} (t0 : ty S 61 12) {k : Int32 → tHI → tHJ → Prop} (hQ : tRet K B (tQi B (tPb S k)) 0 0 (some .boolean)) {I : tHI} {J : tHJ} (h : F12_isSo_57 n S k I J) : tWG K B 0 0 S I J 57 [none, none] [] := by
  refine gBk (pe := 58) hO [oI (.iconst 0) 0] (by decide +kernel) (show tWG K B 0 0 S I J 58 [none, none] [vI 0] from ?_)
  exact gZret hO hQ (by decide +kernel) (Or.inl rfl) ⟨rfl, (Or.inl rfl), h⟩
set_option maxRecDepth 20000 in
theorem hc12_isSo : tCV yX12_isSo cX12_isSo 2 (some .boolean) 1 := ⟨⟨(List.mem_of_getElem? (i := 341) rfl), (List.mem_of_getElem? (i := 5) (by decide +kernel)), by decide +kernel⟩, (List.mem_of_getElem? (i := 339) (by decide +kernel)), (List.mem_of_getElem? (i := 340) (by decide +kernel))⟩
set_option maxRecDepth 100000 in
theorem M12_isSo {l : Launch} {B : tB} {S : tSH} {I : tHI} {J : tHJ} {v1 : Int32} {n : Nat} {k : Int32 → tHI → tHJ → Prop} (t0 : ty S 61 12) (h : F12_isSo n S I J v1 k) : Met l yX12_isSo (tWs yX12_isSo cX12_isSo 2 (some .boolean)) (tRm 5 0 0) (tPc B [vR 61, vI v1] S I J) (tQi B (tPb S k)) 0 0 (tA B) :=
  tEntry (by decide +kernel) [some (vR 61), some (vI v1)] rfl rfl (Nat.le_of_ble_eq_true rfl) (fun K hl hR hO hQ hG => by
  subst hl
  refine gBk (pe := 17) hO [o0 (.aload_n 0), oF (.getfield 13) 12 3 179 63, o0 (.iload_n 1), oI (.iconst 5) 5, o0 .iadd, o0 .iaload, o0 (.aload_n 0), oF (.getfield 13) 12 3 179 63, o0 (.iload_n 1), oI (.bipush 6) 6, o0 .iadd, o0 .iaload] (by decide +kernel) (And.intro t0 (And.intro rfl (And.intro (tGr.off hG t0 (k := 3) rfl) (And.intro (tin (tGr.len hG t0 (k := 3) rfl (by decide)) h.1) (And.intro t0 (And.intro rfl (And.intro (tGr.off hG t0 (k := 3) rfl) (And.intro (tin (tGr.len hG t0 (k := 3) rfl (by decide)) h.2.1) (show tWG K B 0 0 S I J 17 [some (vR 61), some (vI v1)] [vI (I 63 (v1 + 6).toNatClampNeg), vI (I 63 (v1 + 5).toNatClampNeg)] from ?_)))))))))
  have h := h.2.2
  refine gIcGe hO (off := 42) (tgt := 59) (by decide +kernel) (by decide) (fun c1 => ?_) (fun c1 => ?_)
  · have h := h.1 c1
    exact W12_isSo_59 hO hR hG t0 hQ h
  · have h := h.2 c1
    refine gBk (pe := 38) hO [o0 (.aload_n 0), o0 (.aload_n 0), oF (.getfield 13) 12 3 179 63, o0 (.iload_n 1), oI (.iconst 5) 5, o0 .iadd, o0 .iaload, o0 (.aload_n 0), oF (.getfield 13) 12 3 179 63, o0 (.iload_n 1), oI (.bipush 6) 6, o0 .iadd, o0 .iaload] (by decide +kernel) (And.intro t0 (And.intro rfl (And.intro (tGr.off hG t0 (k := 3) rfl) (And.intro (tin (tGr.len hG t0 (k := 3) rfl (by decide)) h.1) (And.intro t0 (And.intro rfl (And.intro (tGr.off hG t0 (k := 3) rfl) (And.intro (tin (tGr.len hG t0 (k := 3) rfl (by decide)) h.2.1) (show tWG K B 0 0 S I J 38 [some (vR 61), some (vI v1)] [vI (I 63 (v1 + 6).toNatClampNeg), vI (I 63 (v1 + 5).toNatClampNeg), vR 61] from ?_)))))))))
    have h := h.2.2
    refine gCVv_c hO (M12_reckonAll t0 h) hc12_reckonAll (idx := 432) (w := 344) (by decide +kernel) hR (by omega) t0 ⟨by decide, rfl⟩ (vs := [vI (I 63 (v1 + 5).toNatClampNeg), vI (I 63 (v1 + 6).toNatClampNeg)]) (st := []) ⟨rfl, Nat.le_of_ble_eq_true rfl, rfl⟩ (by decide +kernel) (fun I8 J9 h => ?_)
    refine gBk (pe := 45) hO [o0 (.aload_n 0), oF (.getfield 413) 12 38 342 0] (by decide +kernel) (And.intro t0 (show tWG K B 0 0 S I8 J9 45 [some (vR 61), some (vI v1)] [vI (I8 61 38)] from ?_))
    refine gIfNe hO (off := 12) (tgt := 57) (by decide +kernel) (by decide) (fun c10 => ?_) (fun c10 => ?_)
    · have h := h.1 c10
      exact gWeak (L' := [none, none]) trivial (W12_isSo_57 hO hR hG t0 hQ h)
    · have h := h.2 c10
      refine gBk (pe := 54) hO [o0 (.aload_n 0), oF (.getfield 429) 12 39 343 0, oJ (.lconst 0) 0 0, o0 .lcmp] (by decide +kernel) (And.intro t0 (show tWG K B 0 0 S I8 J9 54 [some (vR 61), some (vI v1)] [vI (lg_cmp (J9 61 39) 0)] from ?_))
      refine gIfNe hO (off := 5) (tgt := 59) (by decide +kernel) (by decide) (fun c11 => ?_) (fun c11 => ?_)
      · have h := h.1 c11
        exact W12_isSo_59 hO hR hG t0 hQ h
      · have h := h.2 c11
        exact gWeak (L' := [none, none]) trivial (W12_isSo_57 hO hR hG t0 hQ h))
set_option maxRecDepth 100000 in
theorem W12_tells_145 {K : tK} {B : tB} {S : tSH} {MC MS : Nat} (hO : tKO K B RX12 cX12_tells 8) (hR : kR K = tRm 6 MC MS) (hG : tGr S) {n : Nat} (t0 : ty S 61 12) {k : Int64 → tHI → tHJ → Prop} (hQ : tRet K B (tQl B (tPl S k)) 0 0 (some .long)) {kb80 : tHI → tHJ → Int32 → Int64 → Int32 → Prop} (hkb80 : ∀ (I : tHI) (J : tHJ) (v1 : Int32) (w4 : Int64) (v6 : Int32), kb80 I J v1 w4 v6 → tWG K B 0 0 S I J 80 [some (vR 61), some (vI v1), none, none, some (vL w4), none, some (vI v6), none] []) {I : tHI} {J : tHJ} {v1 : Int32} {w4 : Int64} {v6 : Int32} (h : F12_tells_145 n S k kb80 I J v1 w4 v6) : tWG K B 0 0 S I J 145 [some (vR 61), some (vI v1), none, none, some (vL w4), none, some (vI v6), none] [] := by
  refine gBk (pe := 80) hO [oI (.iinc 6 1) 1, o0 (.goto (-68))] (by decide +kernel) (show tWG K B 0 0 S I J 80 [some (vR 61), some (vI v1), none, none, some (vL w4), none, some (vI (v6 + 1)), none] [] from ?_)
  exact hkb80 _ _ _ _ _ h
set_option maxRecDepth 100000 in
theorem W12_tells_80 {K : tK} {B : tB} {S : tSH} {MC MS : Nat} (hO : tKO K B RX12 cX12_tells 8) (hR : kR K = tRm 6 MC MS) (hG : tGr S) {n : Nat} (t0 : ty S 61 12) {k : Int64 → tHI → tHJ → Prop} (hQ : tRet K B (tQl B (tPl S k)) 0 0 (some .long)) {kb80 : tHI → tHJ → Int32 → Int64 → Int32 → Prop} (hkb80 : ∀ (I : tHI) (J : tHJ) (v1 : Int32) (w4 : Int64) (v6 : Int32), kb80 I J v1 w4 v6 → tWG K B 0 0 S I J 80 [some (vR 61), some (vI v1), none, none, some (vL w4), none, some (vI v6), none] []) {I : tHI} {J : tHJ} {v1 : Int32} {w4 : Int64} {v6 : Int32} (h : F12_tells_80 n S k kb80 I J v1 w4 v6) : tWG K B 0 0 S I J 80 [some (vR 61), some (vI v1), none, none, some (vL w4), none, some (vI v6), none] [] := by
  refine gBk (pe := 93) hO [o0 (.iload 6), o0 (.aload_n 0), oF (.getfield 13) 12 3 179 63, o0 (.aload_n 0), oF (.getfield 416) 12 34 336 0, oI (.iconst 1) 1, o0 .iadd, o0 .iaload] (by decide +kernel) (And.intro t0 (And.intro rfl (And.intro t0 (And.intro (tGr.off hG t0 (k := 3) rfl) (And.intro (tin (tGr.len hG t0 (k := 3) rfl (by decide)) h.1) (show tWG K B 0 0 S I J 93 [some (vR 61), some (vI v1), none, none, some (vL w4), none, some (vI v6), none] [vI (I 63 ((I 61 34) + 1).toNatClampNeg), vI v6] from ?_))))))
  have h := h.2
  refine gIcGe hO (off := 58) (tgt := 151) (by decide +kernel) (by decide) (fun c2 => ?_) (fun c2 => ?_)
  · have h := h.1 c2
    refine gBk (pe := 153) hO [o0 (.lload 4)] (by decide +kernel) (show tWG K B 0 0 S I J 153 [some (vR 61), some (vI v1), none, none, some (vL w4), none, some (vI v6), none] [vL w4] from ?_)
    exact gLret hO hQ (by decide +kernel) ⟨rfl, h⟩
  · have h := h.2 c2
    refine gBk (pe := 118) hO [o0 (.aload_n 0), oF (.getfield 416) 12 34 336 0, oI (.iconst 2) 2, o0 .iadd, oI (.bipush 8) 8, o0 (.iload 6), o0 .imul, o0 .iadd, o0 (.istore 7), o0 (.aload_n 0), oF (.getfield 13) 12 3 179 63, o0 (.iload 7), o0 .iaload, o0 (.iload_n 1)] (by decide +kernel) (And.intro t0 (And.intro (Nat.le_of_ble_eq_true rfl) (And.intro t0 (And.intro rfl (And.intro (tGr.off hG t0 (k := 3) rfl) (And.intro (tin (tGr.len hG t0 (k := 3) rfl (by decide)) h.1) (show tWG K B 0 0 S I J 118 [some (vR 61), some (vI v1), none, none, some (vL w4), none, some (vI v6), some (vI (((I 61 34) + 2) + (8 * v6)))] [vI v1, vI (I 63 (((I 61 34) + 2) + (8 * v6)).toNatClampNeg)] from ?_)))))))
    have h := h.2
    refine gIcNe hO (off := 27) (tgt := 145) (by decide +kernel) (by decide) (fun c3 => ?_) (fun c3 => ?_)
    · have h := h.1 c3
      exact gWeak (L' := [some (vR 61), some (vI v1), none, none, some (vL w4), none, some (vI v6), none]) ⟨rfl, rfl, rfl, rfl, trivial⟩ (W12_tells_145 hO hR hG t0 hQ hkb80 h)
    · have h := h.2 c3
      refine gBk (pe := 124) hO [o0 (.aload_n 0), o0 (.iload 7)] (by decide +kernel) (show tWG K B 0 0 S I J 124 [some (vR 61), some (vI v1), none, none, some (vL w4), none, some (vI v6), some (vI (((I 61 34) + 2) + (8 * v6)))] [vI (((I 61 34) + 2) + (8 * v6)), vR 61] from ?_)
      refine gCVi_b hO (M12_isSo t0 h) hc12_isSo (idx := 438) (w := 338) (by decide +kernel) hR (by omega) t0 ⟨by decide, rfl⟩ (vs := [vI (((I 61 34) + 2) + (8 * v6))]) (st := []) ⟨rfl, Nat.le_of_ble_eq_true rfl, rfl⟩ (by decide +kernel) (fun x6 I4 J5 z7 h => ?_)
      have h := h z7
      have hj8 : ∀ (m9 : Int64), m9 = (if x6 = 0 then w4 else (if v1 = 5 then 1 else (J5 61 40))) → tWG K B 0 0 S I4 J5 145 [some (vR 61), some (vI v1), none, none, some (vL m9), none, some (vI v6), none] [] := by
        intro m9 em9
        subst em9
        exact W12_tells_145 hO hR hG t0 hQ hkb80 h
      refine gIfEq hO (off := 18) (tgt := 145) (by decide +kernel) (by decide) (fun c10 => ?_) (fun c10 => ?_)
      · exact gWeak (L' := [some (vR 61), some (vI v1), none, none, some (vL w4), none, some (vI v6), none]) ⟨rfl, rfl, rfl, rfl, trivial⟩ (hj8 _ (Eq.symm (if_pos c10)))
      · refine gBk (pe := 132) hO [o0 (.iload_n 1), oI (.iconst 5) 5] (by decide +kernel) (show tWG K B 0 0 S I4 J5 132 [some (vR 61), some (vI v1), none, none, some (vL w4), none, some (vI v6), some (vI (((I 61 34) + 2) + (8 * v6)))] [vI 5, vI v1] from ?_)
        refine gIcNe hO (off := 7) (tgt := 139) (by decide +kernel) (by decide) (fun c11 => ?_) (fun c11 => ?_)
        · refine gBk (pe := 145) hO [o0 (.aload_n 0), oF (.getfield 435) 12 40 337 0, o0 (.lstore 4)] (by decide +kernel) (And.intro t0 (And.intro (Nat.le_of_ble_eq_true rfl) (show tWG K B 0 0 S I4 J5 145 [some (vR 61), some (vI v1), none, none, some (vL (J5 61 40)), none, some (vI v6), some (vI (((I 61 34) + 2) + (8 * v6)))] [] from ?_)))
          exact gWeak (L' := [some (vR 61), some (vI v1), none, none, some (vL (J5 61 40)), none, some (vI v6), none]) ⟨rfl, rfl, rfl, rfl, trivial⟩ (hj8 _ (Eq.symm ((if_neg c10).trans (if_neg c11))))
        · refine gBk (pe := 145) hO [oJ (.lconst 1) 0 1, o0 (.goto 7), o0 (.lstore 4)] (by decide +kernel) (And.intro (Nat.le_of_ble_eq_true rfl) (show tWG K B 0 0 S I4 J5 145 [some (vR 61), some (vI v1), none, none, some (vL 1), none, some (vI v6), some (vI (((I 61 34) + 2) + (8 * v6)))] [] from ?_))
          exact gWeak (L' := [some (vR 61), some (vI v1), none, none, some (vL 1), none, some (vI v6), none]) ⟨rfl, rfl, rfl, rfl, trivial⟩ (hj8 _ (Eq.symm ((if_neg c10).trans (if_pos c11))))
theorem W12_tells_L80 {K : tK} {B : tB} {S : tSH} {MC MS : Nat} (hO : tKO K B RX12 cX12_tells 8) (hR : kR K = tRm 6 MC MS) (hG : tGr S) {n : Nat} (t0 : ty S 61 12) {k : Int64 → tHI → tHJ → Prop} (hQ : tRet K B (tQl B (tPl S k)) 0 0 (some .long)) : ∀ (f : Nat) (I : tHI) (J : tHJ) (v1 : Int32) (w4 : Int64) (v6 : Int32), F12_tells_L80 n S k f I J v1 w4 v6 → tWG K B 0 0 S I J 80 [some (vR 61), some (vI v1), none, none, some (vL w4), none, some (vI v6), none] [] := by
  intro f
  induction f with
  | zero => intro I J v1 w4 v6 h; exact h.elim
  | succ f ih => intro I J v1 w4 v6 h; exact W12_tells_80 hO hR hG t0 hQ ih h
set_option maxRecDepth 20000 in
theorem hc12_tells : tCV yX12_tells cX12_tells 8 (some .long) 2 := ⟨⟨(List.mem_of_getElem? (i := 335) rfl), (List.mem_of_getElem? (i := 5) (by decide +kernel)), by decide +kernel⟩, (List.mem_of_getElem? (i := 333) (by decide +kernel)), (List.mem_of_getElem? (i := 334) (by decide +kernel))⟩
set_option maxRecDepth 100000 in
theorem M12_tells {l : Launch} {B : tB} {S : tSH} {I : tHI} {J : tHJ} {v1 : Int32} {w2 : Int64} {n : Nat} {k : Int64 → tHI → tHJ → Prop} (t0 : ty S 61 12) (h : F12_tells n S I J v1 w2 k) : Met l yX12_tells (tWs yX12_tells cX12_tells 8 (some .long)) (tRm 6 0 0) (tPc B [vR 61, vI v1, vL w2] S I J) (tQl B (tPl S k)) 0 0 (tA B) :=
  tEntry (by decide +kernel) [some (vR 61), some (vI v1), some (vL w2), none, none, none, none, none] rfl rfl (Nat.le_of_ble_eq_true rfl) (fun K hl hR hO hQ hG => by
  subst hl
  refine gBk (pe := 7) hO [o0 (.aload_n 0), oF (.getfield 13) 12 3 179 63, oI (.iconst 4) 4, o0 .iaload, oI (.iconst (-1)) (-1)] (by decide +kernel) (And.intro t0 (And.intro rfl (And.intro (tGr.off hG t0 (k := 3) rfl) (And.intro (tin (tGr.len hG t0 (k := 3) rfl (by decide)) (tvi (by decide +kernel))) (show tWG K B 0 0 S I J 7 [some (vR 61), some (vI v1), some (vL w2), none, none, none, none, none] [vI (-1), vI (I 63 4)] from ?_)))))
  refine gIcNe hO (off := 5) (tgt := 12) (by decide +kernel) (by decide) (fun c1 => ?_) (fun c1 => ?_)
  · have h := h.1 c1
    refine gBk (pe := 80) hO [o0 (.aload_n 0), oI (.bipush 110) 110, oI (.sipush 900) 900, o0 (.aload_n 0), oF (.getfield 13) 12 3 179 63, oI (.iconst 4) 4, o0 .iaload, o0 .imul, o0 .iadd, oF (.putfield 416) 12 34 336 0, o0 (.aload_n 0), oF (.getfield 115) 12 35 221 79, oI (.bipush 7) 7, o0 (.aload_n 0), oF (.getfield 13) 12 3 179 63, oI (.bipush 8) 8, o0 .iaload, o0 .i2l, o0 .lastore, o0 (.aload_n 0), oF (.getfield 115) 12 35 221 79, oI (.bipush 8) 8, o0 (.aload_n 0), oF (.getfield 13) 12 3 179 63, oI (.bipush 13) 13, o0 .iaload, o0 .i2l, o0 .lastore, o0 (.aload_n 0), oF (.getfield 115) 12 35 221 79, oI (.bipush 12) 12, o0 (.aload_n 0), oF (.getfield 13) 12 3 179 63, oI (.bipush 7) 7, o0 .iaload, o0 .i2l, o0 .lastore, o0 (.lload_n 2), o0 (.lstore 4), oI (.iconst 0) 0, o0 (.istore 6)] (by decide +kernel) (And.intro t0 (And.intro rfl (And.intro (tGr.off hG t0 (k := 3) rfl) (And.intro (tin (tGr.len hG t0 (k := 3) rfl (by decide)) (tvi (by decide +kernel))) (And.intro t0 (And.intro t0 (And.intro rfl (And.intro t0 (And.intro rfl (And.intro (tGr.off hG t0 (k := 3) rfl) (And.intro (tin (tGr.len hG t0 (k := 3) rfl (by decide)) (tvi (by decide +kernel))) (And.intro (tGr.off hG t0 (k := 35) rfl) (And.intro (tin (tGr.len hG t0 (k := 35) rfl (by decide)) (tvi (by decide +kernel))) (And.intro t0 (And.intro rfl (And.intro t0 (And.intro rfl (And.intro (tGr.off hG t0 (k := 3) rfl) (And.intro (tin (tGr.len hG t0 (k := 3) rfl (by decide)) (tvi (by decide +kernel))) (And.intro (tGr.off hG t0 (k := 35) rfl) (And.intro (tin (tGr.len hG t0 (k := 35) rfl (by decide)) (tvi (by decide +kernel))) (And.intro t0 (And.intro rfl (And.intro t0 (And.intro rfl (And.intro (tGr.off hG t0 (k := 3) rfl) (And.intro (tin (tGr.len hG t0 (k := 3) rfl (by decide)) (tvi (by decide +kernel))) (And.intro (tGr.off hG t0 (k := 35) rfl) (And.intro (tin (tGr.len hG t0 (k := 35) rfl (by decide)) (tvi (by decide +kernel))) (And.intro (Nat.le_of_ble_eq_true rfl) (And.intro (Nat.le_of_ble_eq_true rfl) (show tWG K B 0 0 S (uI I 61 34 (110 + (900 * (I 63 4)))) (uJ (uJ (uJ J 79 7 ((uI I 61 34 (110 + (900 * (I 63 4)))) 63 8).toInt64) 79 8 ((uI I 61 34 (110 + (900 * (I 63 4)))) 63 13).toInt64) 79 12 ((uI I 61 34 (110 + (900 * (I 63 4)))) 63 7).toInt64) 80 [some (vR 61), some (vI v1), some (vL w2), none, some (vL w2), none, some (vI 0), none] [] from ?_))))))))))))))))))))))))))))))))
    exact gWeak (L' := [some (vR 61), some (vI v1), none, none, some (vL w2), none, some (vI 0), none]) ⟨rfl, rfl, rfl, rfl, trivial⟩ (W12_tells_L80 hO hR hG t0 hQ n _ _ _ _ _ h)
  · have h := h.2 c1
    refine gBk (pe := 11) hO [o0 (.lload_n 2)] (by decide +kernel) (show tWG K B 0 0 S I J 11 [some (vR 61), some (vI v1), some (vL w2), none, none, none, none, none] [vL w2] from ?_)
    exact gLret hO hQ (by decide +kernel) ⟨rfl, h⟩)
