set_option maxRecDepth 20000 in
theorem hc12_isWord : tCV yX12_isWord cX12_isWord 3 (some .boolean) 1 := ⟨⟨(List.mem_of_getElem? (i := 804) rfl), (List.mem_of_getElem? (i := 5) (by decide +kernel)), by decide +kernel⟩, (List.mem_of_getElem? (i := 802) (by decide +kernel)), (List.mem_of_getElem? (i := 803) (by decide +kernel))⟩
set_option maxRecDepth 100000 in
theorem M12_isWord {l : Launch} {B : tB} {S : tSH} {I : tHI} {J : tHJ} {w1 : Int64} (t0 : ty S 61 12) : Met l yX12_isWord (tWs yX12_isWord cX12_isWord 3 (some .boolean)) (tRm 2 0 0) (tPc B [vR 61, vL w1] S I J) (tQi B (tPz S I J (V12_isWord S I J w1))) 0 0 (tA B) :=
  tEntry (by decide +kernel) [some (vR 61), some (vL w1), none] rfl rfl (Nat.le_of_ble_eq_true rfl) (fun K hl hR hO hQ hG => by
  subst hl
  refine gBk (pe := 5) hO [o0 (.aload_n 0), oF (.getfield 281) 12 16 785 0, oI (.iconst 1) 1] (by decide +kernel) (And.intro t0 (show tWG K B 0 0 S I J 5 [some (vR 61), some (vL w1), none] [vI 1, vI (I 61 16)] from ?_))
  refine gIcNe hO (off := 16) (tgt := 21) (by decide +kernel) (by decide) (fun c1 => ?_) (fun c1 => ?_)
  · refine gBk (pe := 22) hO [oI (.iconst 0) 0] (by decide +kernel) (show tWG K B 0 0 S I J 22 [some (vR 61), some (vL w1), none] [vI 0] from ?_)
    exact gZret hO hQ (by decide +kernel) (Or.inl rfl) ⟨(Eq.symm (if_neg c1)), (Or.inl rfl), rfl⟩
  · refine gBk (pe := 14) hO [o0 (.aload_n 0), oF (.getfield 271) 12 17 784 0, o0 (.lload_n 1), o0 .lcmp] (by decide +kernel) (And.intro t0 (show tWG K B 0 0 S I J 14 [some (vR 61), some (vL w1), none] [vI (lg_cmp (J 61 17) w1)] from ?_))
    refine gIfNe hO (off := 7) (tgt := 21) (by decide +kernel) (by decide) (fun c2 => ?_) (fun c2 => ?_)
    · refine gBk (pe := 22) hO [oI (.iconst 0) 0] (by decide +kernel) (show tWG K B 0 0 S I J 22 [some (vR 61), some (vL w1), none] [vI 0] from ?_)
      exact gZret hO hQ (by decide +kernel) (Or.inl rfl) ⟨(Eq.symm ((if_pos c1).trans (if_neg c2))), (Or.inl rfl), rfl⟩
    · refine gBk (pe := 22) hO [oI (.iconst 1) 1, o0 (.goto 4)] (by decide +kernel) (show tWG K B 0 0 S I J 22 [some (vR 61), some (vL w1), none] [vI 1] from ?_)
      exact gZret hO hQ (by decide +kernel) (Or.inr rfl) ⟨(Eq.symm ((if_pos c1).trans (if_pos c2))), (Or.inr rfl), rfl⟩)
set_option maxRecDepth 20000 in
theorem hc12_isSign : tCV yX12_isSign cX12_isSign 2 (some .boolean) 1 := ⟨⟨(List.mem_of_getElem? (i := 827) rfl), (List.mem_of_getElem? (i := 5) (by decide +kernel)), by decide +kernel⟩, (List.mem_of_getElem? (i := 825) (by decide +kernel)), (List.mem_of_getElem? (i := 826) (by decide +kernel))⟩
set_option maxRecDepth 100000 in
theorem M12_isSign {l : Launch} {B : tB} {S : tSH} {I : tHI} {J : tHJ} {v1 : Int32} (t0 : ty S 61 12) : Met l yX12_isSign (tWs yX12_isSign cX12_isSign 2 (some .boolean)) (tRm 2 0 0) (tPc B [vR 61, vI v1] S I J) (tQi B (tPz S I J (V12_isSign S I J v1))) 0 0 (tA B) :=
  tEntry (by decide +kernel) [some (vR 61), some (vI v1)] rfl rfl (Nat.le_of_ble_eq_true rfl) (fun K hl hR hO hQ hG => by
  subst hl
  refine gBk (pe := 5) hO [o0 (.aload_n 0), oF (.getfield 281) 12 16 785 0, oI (.iconst 3) 3] (by decide +kernel) (And.intro t0 (show tWG K B 0 0 S I J 5 [some (vR 61), some (vI v1)] [vI 3, vI (I 61 16)] from ?_))
  refine gIcNe hO (off := 17) (tgt := 22) (by decide +kernel) (by decide) (fun c1 => ?_) (fun c1 => ?_)
  · refine gBk (pe := 23) hO [oI (.iconst 0) 0] (by decide +kernel) (show tWG K B 0 0 S I J 23 [some (vR 61), some (vI v1)] [vI 0] from ?_)
    exact gZret hO hQ (by decide +kernel) (Or.inl rfl) ⟨(Eq.symm (if_neg c1)), (Or.inl rfl), rfl⟩
  · refine gBk (pe := 15) hO [o0 (.aload_n 0), oF (.getfield 271) 12 17 784 0, o0 (.iload_n 1), o0 .i2l, o0 .lcmp] (by decide +kernel) (And.intro t0 (show tWG K B 0 0 S I J 15 [some (vR 61), some (vI v1)] [vI (lg_cmp (J 61 17) v1.toInt64)] from ?_))
    refine gIfNe hO (off := 7) (tgt := 22) (by decide +kernel) (by decide) (fun c2 => ?_) (fun c2 => ?_)
    · refine gBk (pe := 23) hO [oI (.iconst 0) 0] (by decide +kernel) (show tWG K B 0 0 S I J 23 [some (vR 61), some (vI v1)] [vI 0] from ?_)
      exact gZret hO hQ (by decide +kernel) (Or.inl rfl) ⟨(Eq.symm ((if_pos c1).trans (if_neg c2))), (Or.inl rfl), rfl⟩
    · refine gBk (pe := 23) hO [oI (.iconst 1) 1, o0 (.goto 4)] (by decide +kernel) (show tWG K B 0 0 S I J 23 [some (vR 61), some (vI v1)] [vI 1] from ?_)
      exact gZret hO hQ (by decide +kernel) (Or.inr rfl) ⟨(Eq.symm ((if_pos c1).trans (if_pos c2))), (Or.inr rfl), rfl⟩)
set_option maxRecDepth 100000 in
theorem W12_must_35 {K : tK} {B : tB} {S : tSH} {MC MS : Nat} (hO : tKO K B RX12 cX12_must 2) (hR : kR K = tRm 4 MC MS) (hG : tGr S) {n : Nat} (t0 : ty S 61 12) {k : tHI → tHJ → Prop} (hQ : tRet K B (tQv B (tPv S k)) 0 0 none) {I : tHI} {J : tHJ} (h : F12_must_35 n S k I J) : tWG K B 0 0 S I J 35 [none, none] [] := by
  exact gVret hO hQ (by decide +kernel) ⟨rfl, h⟩
set_option maxRecDepth 100000 in
theorem W12_must_24 {K : tK} {B : tB} {S : tSH} {MC MS : Nat} (hO : tKO K B RX12 cX12_must 2) (hR : kR K = tRm 4 MC MS) (hG : tGr S) {n : Nat} (t0 : ty S 61 12) {k : tHI → tHJ → Prop} (hQ : tRet K B (tQv B (tPv S k)) 0 0 none) {I : tHI} {J : tHJ} (h : F12_must_24 n S k I J) : tWG K B 0 0 S I J 24 [some (vR 61), none] [] := by
  refine gBk (pe := 28) hO [o0 (.aload_n 0), oF (.getfield 261) 12 19 766 0] (by decide +kernel) (And.intro t0 (show tWG K B 0 0 S I J 28 [some (vR 61), none] [vI (I 61 19)] from ?_))
  refine gIfNe hO (off := 7) (tgt := 35) (by decide +kernel) (by decide) (fun c2 => ?_) (fun c2 => ?_)
  · have h := h.1 c2
    exact gWeak (L' := [none, none]) trivial (W12_must_35 hO hR hG t0 hQ h)
  · have h := h.2 c2
    refine gBk (pe := 32) hO [o0 (.aload_n 0)] (by decide +kernel) (show tWG K B 0 0 S I J 32 [some (vR 61), none] [vR 61] from ?_)
    refine gCVv_c hO (M12_next t0 h) hc12_next (idx := 265) (w := 779) (by decide +kernel) hR (by omega) t0 ⟨by decide, rfl⟩ (vs := []) (st := []) ⟨rfl, Nat.le_of_ble_eq_true rfl, rfl⟩ (by decide +kernel) (fun I3 J4 h => ?_)
    exact gWeak (L' := [none, none]) trivial (W12_must_35 hO hR hG t0 hQ h)
set_option maxRecDepth 20000 in
theorem hc12_must : tCV yX12_must cX12_must 2 none 1 := ⟨⟨(List.mem_of_getElem? (i := 808) rfl), (List.mem_of_getElem? (i := 5) (by decide +kernel)), by decide +kernel⟩, (List.mem_of_getElem? (i := 806) (by decide +kernel)), (List.mem_of_getElem? (i := 807) (by decide +kernel))⟩
set_option maxRecDepth 100000 in
theorem M12_must {l : Launch} {B : tB} {S : tSH} {I : tHI} {J : tHJ} {v1 : Int32} {n : Nat} {k : tHI → tHJ → Prop} (t0 : ty S 61 12) (h : F12_must n S I J v1 k) : Met l yX12_must (tWs yX12_must cX12_must 2 none) (tRm 4 0 0) (tPc B [vR 61, vI v1] S I J) (tQv B (tPv S k)) 0 0 (tA B) :=
  tEntry (by decide +kernel) [some (vR 61), some (vI v1)] rfl rfl (Nat.le_of_ble_eq_true rfl) (fun K hl hR hO hQ hG => by
  subst hl
  refine gBk (pe := 4) hO [o0 (.aload_n 0), oF (.getfield 261) 12 19 766 0] (by decide +kernel) (And.intro t0 (show tWG K B 0 0 S I J 4 [some (vR 61), some (vI v1)] [vI (I 61 19)] from ?_))
  refine gIfNe hO (off := 20) (tgt := 24) (by decide +kernel) (by decide) (fun c1 => ?_) (fun c1 => ?_)
  · have h := h.1 c1
    exact gWeak (L' := [some (vR 61), none]) ⟨rfl, trivial⟩ (W12_must_24 hO hR hG t0 hQ h)
  · have h := h.2 c1
    refine gBk (pe := 8) hO [o0 (.iload_n 1)] (by decide +kernel) (show tWG K B 0 0 S I J 8 [some (vR 61), some (vI v1)] [vI v1] from ?_)
    refine gIfNe hO (off := 16) (tgt := 24) (by decide +kernel) (by decide) (fun c5 => ?_) (fun c5 => ?_)
    · have h := h.1 c5
      exact gWeak (L' := [some (vR 61), none]) ⟨rfl, trivial⟩ (W12_must_24 hO hR hG t0 hQ h)
    · have h := h.2 c5
      refine gBk (pe := 24) hO [o0 (.aload_n 0), oI (.iconst 1) 1, oF (.putfield 261) 12 19 766 0, o0 (.aload_n 0), o0 (.aload_n 0), oF (.getfield 268) 12 14 783 0, oF (.putfield 38) 12 18 188 0] (by decide +kernel) (And.intro t0 (And.intro (Or.inr rfl) (And.intro t0 (And.intro t0 (show tWG K B 0 0 S (uI (uI I 61 19 1) 61 18 ((uI I 61 19 1) 61 14)) J 24 [some (vR 61), some (vI v1)] [] from ?_)))))
      exact gWeak (L' := [some (vR 61), none]) ⟨rfl, trivial⟩ (W12_must_24 hO hR hG t0 hQ h))
set_option maxRecDepth 20000 in
theorem hc12_number : tCV yX12_number cX12_number 6 (some .int) 2 := ⟨⟨(List.mem_of_getElem? (i := 858) rfl), (List.mem_of_getElem? (i := 5) (by decide +kernel)), by decide +kernel⟩, (List.mem_of_getElem? (i := 856) (by decide +kernel)), (List.mem_of_getElem? (i := 857) (by decide +kernel))⟩
set_option maxRecDepth 100000 in
theorem M12_number {l : Launch} {B : tB} {S : tSH} {I : tHI} {J : tHJ} {w1 : Int64} {w3 : Int64} {n : Nat} {k : Int32 → tHI → tHJ → Prop} (t0 : ty S 61 12) (h : F12_number n S I J w1 w3 k) : Met l yX12_number (tWs yX12_number cX12_number 6 (some .int)) (tRm 5 0 0) (tPc B [vR 61, vL w1, vL w3] S I J) (tQi B (tPi S k)) 0 0 (tA B) :=
  tEntry (by decide +kernel) [some (vR 61), some (vL w1), none, some (vL w3), none, none] rfl rfl (Nat.le_of_ble_eq_true rfl) (fun K hl hR hO hQ hG => by
  subst hl
  refine gBk (pe := 13) hO [o0 (.aload_n 0), oF (.getfield 271) 12 17 784 0, o0 .l2i, o0 (.istore 5), o0 (.aload_n 0), o0 (.aload_n 0), oF (.getfield 281) 12 16 785 0, oI (.iconst 2) 2] (by decide +kernel) (And.intro t0 (And.intro (Nat.le_of_ble_eq_true rfl) (And.intro t0 (show tWG K B 0 0 S I J 13 [some (vR 61), some (vL w1), none, some (vL w3), none, some (vI ((J 61 17).toInt32))] [vI 2, vI (I 61 16), vR 61] from ?_))))
  have hj2 : ∀ (m3 : Int32), m3 = (if (I 61 16) = 2 then (if (V12_in (J 61 17) w1 w3) = 0 then (0 : Int32) else 1) else 0) → tWG K B 0 0 S I J 33 [none, none, none, none, none, some (vI ((J 61 17).toInt32))] [vI m3, vR 61] := by
    intro m3 em3
    subst em3
    refine gCVv_c hO (M12_must t0 h) hc12_must (idx := 296) (w := 805) (by decide +kernel) hR (by omega) t0 ⟨by decide, rfl⟩ (vs := [vI (if (I 61 16) = 2 then (if (V12_in (J 61 17) w1 w3) = 0 then (0 : Int32) else 1) else 0)]) (st := []) ⟨rfl, Nat.le_of_ble_eq_true rfl, rfl⟩ (by decide +kernel) (fun I7 J8 h => ?_)
    refine gBk (pe := 38) hO [o0 (.iload 5)] (by decide +kernel) (show tWG K B 0 0 S I7 J8 38 [none, none, none, none, none, some (vI ((J 61 17).toInt32))] [vI ((J 61 17).toInt32)] from ?_)
    exact gIret hO hQ (by decide +kernel) ⟨rfl, h⟩
  refine gIcNe hO (off := 19) (tgt := 32) (by decide +kernel) (by decide) (fun c4 => ?_) (fun c4 => ?_)
  · refine gBk (pe := 33) hO [oI (.iconst 0) 0] (by decide +kernel) (show tWG K B 0 0 S I J 33 [some (vR 61), some (vL w1), none, some (vL w3), none, some (vI ((J 61 17).toInt32))] [vI 0, vR 61] from ?_)
    exact gWeak (L' := [none, none, none, none, none, some (vI ((J 61 17).toInt32))]) ⟨rfl, trivial⟩ (hj2 _ (Eq.symm (if_neg c4)))
  · refine gBk (pe := 22) hO [o0 (.aload_n 0), oF (.getfield 271) 12 17 784 0, o0 (.lload_n 1), o0 (.lload_n 3)] (by decide +kernel) (And.intro t0 (show tWG K B 0 0 S I J 22 [some (vR 61), some (vL w1), none, some (vL w3), none, some (vI ((J 61 17).toInt32))] [vL w3, vL w1, vL (J 61 17), vR 61] from ?_))
    refine gCSi_z hO (M12_in) hc12_in (idx := 181) (w := 319) (by decide +kernel) hR (by omega) (vs := [vL (J 61 17), vL w1, vL w3]) (st := [vR 61]) ⟨rfl, Nat.le_of_ble_eq_true rfl, rfl⟩ (by decide +kernel) (fun z5 => ?_)
    refine gIfEq hO (off := 7) (tgt := 32) (by decide +kernel) (by decide) (fun c6 => ?_) (fun c6 => ?_)
    · refine gBk (pe := 33) hO [oI (.iconst 0) 0] (by decide +kernel) (show tWG K B 0 0 S I J 33 [some (vR 61), some (vL w1), none, some (vL w3), none, some (vI ((J 61 17).toInt32))] [vI 0, vR 61] from ?_)
      exact gWeak (L' := [none, none, none, none, none, some (vI ((J 61 17).toInt32))]) ⟨rfl, trivial⟩ (hj2 _ (Eq.symm ((if_pos c4).trans (if_pos c6))))
    · refine gBk (pe := 33) hO [oI (.iconst 1) 1, o0 (.goto 4)] (by decide +kernel) (show tWG K B 0 0 S I J 33 [some (vR 61), some (vL w1), none, some (vL w3), none, some (vI ((J 61 17).toInt32))] [vI 1, vR 61] from ?_)
      exact gWeak (L' := [none, none, none, none, none, some (vI ((J 61 17).toInt32))]) ⟨rfl, trivial⟩ (hj2 _ (Eq.symm ((if_pos c4).trans (if_neg c6)))))
set_option maxRecDepth 20000 in
theorem hc12_fault : tCV yX12_fault cX12_fault 1 (some .int) 0 := ⟨⟨(List.mem_of_getElem? (i := 1078) rfl), (List.mem_of_getElem? (i := 5) (by decide +kernel)), by decide +kernel⟩, (List.mem_of_getElem? (i := 1076) (by decide +kernel)), (List.mem_of_getElem? (i := 1077) (by decide +kernel))⟩
set_option maxRecDepth 100000 in
theorem M12_fault {l : Launch} {B : tB} {S : tSH} {I : tHI} {J : tHJ} {n : Nat} {k : Int32 → tHI → tHJ → Prop} (t0 : ty S 61 12) (h : F12_fault n S I J k) : Met l yX12_fault (tWs yX12_fault cX12_fault 1 (some .int)) (tRm 2 0 0) (tPc B [vR 61] S I J) (tQi B (tPi S k)) 0 0 (tA B) :=
  tEntry (by decide +kernel) [some (vR 61)] rfl rfl (Nat.le_of_ble_eq_true rfl) (fun K hl hR hO hQ hG => by
  subst hl
  refine gBk (pe := 9) hO [o0 (.aload_n 0), oI (.iconst 0) 0, oF (.putfield 161) 12 0 316 0, o0 (.aload_n 0), oF (.getfield 38) 12 18 188 0] (by decide +kernel) (And.intro t0 (And.intro t0 (show tWG K B 0 0 S (uI I 61 0 0) J 9 [some (vR 61)] [vI ((uI I 61 0 0) 61 18)] from ?_)))
  exact gIret hO hQ (by decide +kernel) ⟨rfl, h⟩)
set_option maxRecDepth 20000 in
theorem hc12_emit : tCV yX12_emit cX12_emit 3 none 2 := ⟨⟨(List.mem_of_getElem? (i := 854) rfl), (List.mem_of_getElem? (i := 5) (by decide +kernel)), by decide +kernel⟩, (List.mem_of_getElem? (i := 852) (by decide +kernel)), (List.mem_of_getElem? (i := 853) (by decide +kernel))⟩
set_option maxRecDepth 100000 in
theorem M12_emit {l : Launch} {B : tB} {S : tSH} {I : tHI} {J : tHJ} {v1 : Int32} {v2 : Int32} {n : Nat} {k : tHI → tHJ → Prop} (t0 : ty S 61 12) (h : F12_emit n S I J v1 v2 k) : Met l yX12_emit (tWs yX12_emit cX12_emit 3 none) (tRm 2 0 0) (tPc B [vR 61, vI v1, vI v2] S I J) (tQv B (tPv S k)) 0 0 (tA B) :=
  tEntry (by decide +kernel) [some (vR 61), some (vI v1), some (vI v2)] rfl rfl (Nat.le_of_ble_eq_true rfl) (fun K hl hR hO hQ hG => by
  subst hl
  refine gBk (pe := 30) hO [o0 (.aload_n 0), oF (.getfield 45) 12 24 190 72, o0 (.aload_n 0), oF (.getfield 300) 12 23 768 0, o0 (.iload_n 1), o0 .iastore, o0 (.aload_n 0), oF (.getfield 48) 12 25 191 73, o0 (.aload_n 0), oF (.getfield 300) 12 23 768 0, o0 (.iload_n 2), o0 .iastore, o0 (.aload_n 0), o0 .dup, oF (.getfield 300) 12 23 768 0, oI (.iconst 1) 1, o0 .iadd, oF (.putfield 300) 12 23 768 0] (by decide +kernel) (And.intro t0 (And.intro rfl (And.intro t0 (And.intro (tGr.off hG t0 (k := 24) rfl) (And.intro (tin (tGr.len hG t0 (k := 24) rfl (by decide)) h.1) (And.intro t0 (And.intro rfl (And.intro t0 (And.intro (tGr.off hG t0 (k := 25) rfl) (And.intro (tin (tGr.len hG t0 (k := 25) rfl (by decide)) h.2.1) (And.intro t0 (And.intro t0 (show tWG K B 0 0 S (uI (uI (uI I 72 (I 61 23).toNatClampNeg v1) 73 ((uI I 72 (I 61 23).toNatClampNeg v1) 61 23).toNatClampNeg v2) 61 23 (((uI (uI I 72 (I 61 23).toNatClampNeg v1) 73 ((uI I 72 (I 61 23).toNatClampNeg v1) 61 23).toNatClampNeg v2) 61 23) + 1)) J 30 [some (vR 61), some (vI v1), some (vI v2)] [] from ?_)))))))))))))
  have h := h.2.2
  exact gVret hO hQ (by decide +kernel) ⟨rfl, h⟩)
set_option maxRecDepth 20000 in
theorem hc12_push : tCV yX12_push cX12_push 3 none 2 := ⟨⟨(List.mem_of_getElem? (i := 823) rfl), (List.mem_of_getElem? (i := 5) (by decide +kernel)), by decide +kernel⟩, (List.mem_of_getElem? (i := 821) (by decide +kernel)), (List.mem_of_getElem? (i := 822) (by decide +kernel))⟩
set_option maxRecDepth 100000 in
theorem M12_push {l : Launch} {B : tB} {S : tSH} {I : tHI} {J : tHJ} {v1 : Int32} {v2 : Int32} {n : Nat} {k : tHI → tHJ → Prop} (t0 : ty S 61 12) (h : F12_push n S I J v1 v2 k) : Met l yX12_push (tWs yX12_push cX12_push 3 none) (tRm 2 0 0) (tPc B [vR 61, vI v1, vI v2] S I J) (tQv B (tPv S k)) 0 0 (tA B) :=
  tEntry (by decide +kernel) [some (vR 61), some (vI v1), some (vI v2)] rfl rfl (Nat.le_of_ble_eq_true rfl) (fun K hl hR hO hQ hG => by
  subst hl
  refine gBk (pe := 30) hO [o0 (.aload_n 0), oF (.getfield 51) 12 27 192 74, o0 (.aload_n 0), oF (.getfield 303) 12 29 813 0, o0 (.iload_n 1), o0 .iastore, o0 (.aload_n 0), oF (.getfield 54) 12 28 193 75, o0 (.aload_n 0), oF (.getfield 303) 12 29 813 0, o0 (.iload_n 2), o0 .iastore, o0 (.aload_n 0), o0 .dup, oF (.getfield 303) 12 29 813 0, oI (.iconst 1) 1, o0 .iadd, oF (.putfield 303) 12 29 813 0] (by decide +kernel) (And.intro t0 (And.intro rfl (And.intro t0 (And.intro (tGr.off hG t0 (k := 27) rfl) (And.intro (tin (tGr.len hG t0 (k := 27) rfl (by decide)) h.1) (And.intro t0 (And.intro rfl (And.intro t0 (And.intro (tGr.off hG t0 (k := 28) rfl) (And.intro (tin (tGr.len hG t0 (k := 28) rfl (by decide)) h.2.1) (And.intro t0 (And.intro t0 (show tWG K B 0 0 S (uI (uI (uI I 74 (I 61 29).toNatClampNeg v1) 75 ((uI I 74 (I 61 29).toNatClampNeg v1) 61 29).toNatClampNeg v2) 61 29 (((uI (uI I 74 (I 61 29).toNatClampNeg v1) 75 ((uI I 74 (I 61 29).toNatClampNeg v1) 61 29).toNatClampNeg v2) 61 29) + 1)) J 30 [some (vR 61), some (vI v1), some (vI v2)] [] from ?_)))))))))))))
  have h := h.2.2
  exact gVret hO hQ (by decide +kernel) ⟨rfl, h⟩)
set_option maxRecDepth 20000 in
theorem hc12_binds : tCm yX12_binds cX12_binds 1 (some .int) 1 ∧ Cond.static yX12_binds ∈ wsL_law := ⟨⟨(List.mem_of_getElem? (i := 865) rfl), (List.mem_of_getElem? (i := 5) (by decide +kernel)), by decide +kernel⟩, (List.mem_of_getElem? (i := 864) (by decide +kernel))⟩
set_option maxRecDepth 100000 in
theorem M12_binds {l : Launch} {B : tB} {S : tSH} {I : tHI} {J : tHJ} {v0 : Int32} : Met l yX12_binds (tWs yX12_binds cX12_binds 1 (some .int)) (tRm 2 0 0) (tPc B [vI v0] S I J) (tQi B (tPp S I J (V12_binds v0))) 0 0 (tA B) :=
  tEntry (by decide +kernel) [some (vI v0)] rfl rfl (Nat.le_of_ble_eq_true rfl) (fun K hl hR hO hQ hG => by
  subst hl
  refine gBk (pe := 3) hO [o0 (.iload_n 0), oI (.bipush 31) 31] (by decide +kernel) (show tWG K B 0 0 S I J 3 [some (vI v0)] [vI 31, vI v0] from ?_)
  refine gIcLt hO (off := 7) (tgt := 10) (by decide +kernel) (by decide) (fun c1 => ?_) (fun c1 => ?_)
  · refine gBk (pe := 13) hO [o0 (.iload_n 0), oI (.bipush 30) 30] (by decide +kernel) (show tWG K B 0 0 S I J 13 [some (vI v0)] [vI 30, vI v0] from ?_)
    refine gIcNe hO (off := 7) (tgt := 20) (by decide +kernel) (by decide) (fun c2 => ?_) (fun c2 => ?_)
    · refine gBk (pe := 23) hO [o0 (.iload_n 0), oI (.bipush 29) 29] (by decide +kernel) (show tWG K B 0 0 S I J 23 [some (vI v0)] [vI 29, vI v0] from ?_)
      refine gIcNe hO (off := 7) (tgt := 30) (by decide +kernel) (by decide) (fun c3 => ?_) (fun c3 => ?_)
      · refine gBk (pe := 33) hO [o0 (.iload_n 0), oI (.bipush 28) 28] (by decide +kernel) (show tWG K B 0 0 S I J 33 [some (vI v0)] [vI 28, vI v0] from ?_)
        refine gIcNe hO (off := 7) (tgt := 40) (by decide +kernel) (by decide) (fun c4 => ?_) (fun c4 => ?_)
        · refine gBk (pe := 43) hO [o0 (.iload_n 0), oI (.bipush 25) 25] (by decide +kernel) (show tWG K B 0 0 S I J 43 [some (vI v0)] [vI 25, vI v0] from ?_)
          refine gIcLt hO (off := 7) (tgt := 50) (by decide +kernel) (by decide) (fun c5 => ?_) (fun c5 => ?_)
          · refine gBk (pe := 53) hO [o0 (.iload_n 0), oI (.bipush 22) 22] (by decide +kernel) (show tWG K B 0 0 S I J 53 [some (vI v0)] [vI 22, vI v0] from ?_)
            refine gIcLt hO (off := 8) (tgt := 61) (by decide +kernel) (by decide) (fun c6 => ?_) (fun c6 => ?_)
            · refine gBk (pe := 62) hO [oI (.iconst 5) 5] (by decide +kernel) (show tWG K B 0 0 S I J 62 [some (vI v0)] [vI 5] from ?_)
              exact gIret hO hQ (by decide +kernel) ⟨(Eq.symm ((if_pos c1).trans ((if_neg c2).trans ((if_neg c3).trans ((if_neg c4).trans ((if_pos c5).trans (if_pos c6))))))), rfl⟩
            · refine gBk (pe := 62) hO [oI (.bipush 6) 6, o0 (.goto 4)] (by decide +kernel) (show tWG K B 0 0 S I J 62 [some (vI v0)] [vI 6] from ?_)
              exact gIret hO hQ (by decide +kernel) ⟨(Eq.symm ((if_pos c1).trans ((if_neg c2).trans ((if_neg c3).trans ((if_neg c4).trans ((if_pos c5).trans (if_neg c6))))))), rfl⟩
          · refine gBk (pe := 62) hO [oI (.iconst 4) 4, o0 (.goto 15)] (by decide +kernel) (show tWG K B 0 0 S I J 62 [some (vI v0)] [vI 4] from ?_)
            exact gIret hO hQ (by decide +kernel) ⟨(Eq.symm ((if_pos c1).trans ((if_neg c2).trans ((if_neg c3).trans ((if_neg c4).trans (if_neg c5)))))), rfl⟩
        · refine gBk (pe := 62) hO [oI (.iconst 3) 3, o0 (.goto 25)] (by decide +kernel) (show tWG K B 0 0 S I J 62 [some (vI v0)] [vI 3] from ?_)
          exact gIret hO hQ (by decide +kernel) ⟨(Eq.symm ((if_pos c1).trans ((if_neg c2).trans ((if_neg c3).trans (if_pos c4))))), rfl⟩
      · refine gBk (pe := 62) hO [oI (.iconst 2) 2, o0 (.goto 35)] (by decide +kernel) (show tWG K B 0 0 S I J 62 [some (vI v0)] [vI 2] from ?_)
        exact gIret hO hQ (by decide +kernel) ⟨(Eq.symm ((if_pos c1).trans ((if_neg c2).trans (if_pos c3)))), rfl⟩
    · refine gBk (pe := 62) hO [oI (.iconst 1) 1, o0 (.goto 45)] (by decide +kernel) (show tWG K B 0 0 S I J 62 [some (vI v0)] [vI 1] from ?_)
      exact gIret hO hQ (by decide +kernel) ⟨(Eq.symm ((if_pos c1).trans (if_pos c2))), rfl⟩
  · refine gBk (pe := 62) hO [oI (.iconst 0) 0, o0 (.goto 55)] (by decide +kernel) (show tWG K B 0 0 S I J 62 [some (vI v0)] [vI 0] from ?_)
    exact gIret hO hQ (by decide +kernel) ⟨(Eq.symm (if_neg c1)), rfl⟩)
set_option maxRecDepth 100000 in
theorem W12_settle_101 {K : tK} {B : tB} {S : tSH} {MC MS : Nat} (hO : tKO K B RX12 cX12_settle 2) (hR : kR K = tRm 3 MC MS) (hG : tGr S) {n : Nat} (t0 : ty S 61 12) {k : tHI → tHJ → Prop} (hQ : tRet K B (tQv B (tPv S k)) 0 0 none) {I : tHI} {J : tHJ} (h : F12_settle_101 n S k I J) : tWG K B 0 0 S I J 101 [none, none] [] := by
  exact gVret hO hQ (by decide +kernel) ⟨rfl, h⟩
set_option maxRecDepth 100000 in
theorem W12_settle_63 {K : tK} {B : tB} {S : tSH} {MC MS : Nat} (hO : tKO K B RX12 cX12_settle 2) (hR : kR K = tRm 3 MC MS) (hG : tGr S) {n : Nat} (t0 : ty S 61 12) {k : tHI → tHJ → Prop} (hQ : tRet K B (tQv B (tPv S k)) 0 0 none) {kb0 : tHI → tHJ → Int32 → Prop} (hkb0 : ∀ (I : tHI) (J : tHJ) (v1 : Int32), kb0 I J v1 → tWG K B 0 0 S I J 0 [some (vR 61), some (vI v1)] []) {I : tHI} {J : tHJ} {v1 : Int32} (h : F12_settle_63 n S k kb0 I J v1) : tWG K B 0 0 S I J 63 [some (vR 61), some (vI v1)] [] := by
  refine gBk (pe := 0) hO [o0 (.aload_n 0), oF (.getfield 48) 12 25 191 73, o0 (.aload_n 0), oF (.getfield 54) 12 28 193 75, o0 (.aload_n 0), oF (.getfield 303) 12 29 813 0, o0 .iaload, o0 (.aload_n 0), oF (.getfield 300) 12 23 768 0, o0 .iastore, o0 (.goto (-81))] (by decide +kernel) (And.intro t0 (And.intro rfl (And.intro t0 (And.intro rfl (And.intro t0 (And.intro (tGr.off hG t0 (k := 28) rfl) (And.intro (tin (tGr.len hG t0 (k := 28) rfl (by decide)) h.1) (And.intro t0 (And.intro (tGr.off hG t0 (k := 25) rfl) (And.intro (tin (tGr.len hG t0 (k := 25) rfl (by decide)) h.2.1) (show tWG K B 0 0 S (uI I 73 (I 75 (I 61 29).toNatClampNeg).toNatClampNeg (I 61 23)) J 0 [some (vR 61), some (vI v1)] [] from ?_)))))))))))
  have h := h.2.2
  exact hkb0 _ _ _ h
set_option maxRecDepth 100000 in
theorem W12_settle_0 {K : tK} {B : tB} {S : tSH} {MC MS : Nat} (hO : tKO K B RX12 cX12_settle 2) (hR : kR K = tRm 3 MC MS) (hG : tGr S) {n : Nat} (t0 : ty S 61 12) {k : tHI → tHJ → Prop} (hQ : tRet K B (tQv B (tPv S k)) 0 0 none) {kb0 : tHI → tHJ → Int32 → Prop} (hkb0 : ∀ (I : tHI) (J : tHJ) (v1 : Int32), kb0 I J v1 → tWG K B 0 0 S I J 0 [some (vR 61), some (vI v1)] []) {I : tHI} {J : tHJ} {v1 : Int32} (h : F12_settle_0 n S k kb0 I J v1) : tWG K B 0 0 S I J 0 [some (vR 61), some (vI v1)] [] := by
  refine gBk (pe := 4) hO [o0 (.aload_n 0), oF (.getfield 303) 12 29 813 0] (by decide +kernel) (And.intro t0 (show tWG K B 0 0 S I J 4 [some (vR 61), some (vI v1)] [vI (I 61 29)] from ?_))
  refine gIfLe hO (off := 97) (tgt := 101) (by decide +kernel) (by decide) (fun c1 => ?_) (fun c1 => ?_)
  · have h := h.1 c1
    exact gWeak (L' := [none, none]) trivial (W12_settle_101 hO hR hG t0 hQ h)
  · have h := h.2 c1
    refine gBk (pe := 18) hO [o0 (.aload_n 0), oF (.getfield 51) 12 27 192 74, o0 (.aload_n 0), oF (.getfield 303) 12 29 813 0, oI (.iconst 1) 1, o0 .isub, o0 .iaload] (by decide +kernel) (And.intro t0 (And.intro rfl (And.intro t0 (And.intro (tGr.off hG t0 (k := 27) rfl) (And.intro (tin (tGr.len hG t0 (k := 27) rfl (by decide)) h.1) (show tWG K B 0 0 S I J 18 [some (vR 61), some (vI v1)] [vI (I 74 ((I 61 29) - 1).toNatClampNeg)] from ?_))))))
    have h := h.2
    refine gCSi_p hO (M12_binds) hc12_binds (idx := 306) (w := 863) (by decide +kernel) hR (by omega) (vs := [vI (I 74 ((I 61 29) - 1).toNatClampNeg)]) (st := []) ⟨rfl, Nat.le_of_ble_eq_true rfl, rfl⟩ (by decide +kernel) ?_
    refine gBk (pe := 22) hO [o0 (.iload_n 1)] (by decide +kernel) (show tWG K B 0 0 S I J 22 [some (vR 61), some (vI v1)] [vI v1, vI (V12_binds (I 74 ((I 61 29) - 1).toNatClampNeg))] from ?_)
    refine gIcLt hO (off := 79) (tgt := 101) (by decide +kernel) (by decide) (fun c2 => ?_) (fun c2 => ?_)
    · have h := h.1 c2
      exact gWeak (L' := [none, none]) trivial (W12_settle_101 hO hR hG t0 hQ h)
    · have h := h.2 c2
      refine gBk (pe := 46) hO [o0 (.aload_n 0), o0 .dup, oF (.getfield 303) 12 29 813 0, oI (.iconst 1) 1, o0 .isub, oF (.putfield 303) 12 29 813 0, o0 (.aload_n 0), oF (.getfield 51) 12 27 192 74, o0 (.aload_n 0), oF (.getfield 303) 12 29 813 0, o0 .iaload, oI (.bipush 29) 29] (by decide +kernel) (And.intro t0 (And.intro t0 (And.intro t0 (And.intro rfl (And.intro t0 (And.intro (tGr.off hG t0 (k := 27) rfl) (And.intro (tin (tGr.len hG t0 (k := 27) rfl (by decide)) h.1) (show tWG K B 0 0 S (uI I 61 29 ((I 61 29) - 1)) J 46 [some (vR 61), some (vI v1)] [vI 29, vI ((uI I 61 29 ((I 61 29) - 1)) 74 ((uI I 61 29 ((I 61 29) - 1)) 61 29).toNatClampNeg)] from ?_))))))))
      have h := h.2
      refine gIcEq hO (off := 17) (tgt := 63) (by decide +kernel) (by decide) (fun c3 => ?_) (fun c3 => ?_)
      · have h := h.1 c3
        exact W12_settle_63 hO hR hG t0 hQ hkb0 h
      · have h := h.2 c3
        refine gBk (pe := 60) hO [o0 (.aload_n 0), oF (.getfield 51) 12 27 192 74, o0 (.aload_n 0), oF (.getfield 303) 12 29 813 0, o0 .iaload, oI (.bipush 30) 30] (by decide +kernel) (And.intro t0 (And.intro rfl (And.intro t0 (And.intro (tGr.off hG t0 (k := 27) rfl) (And.intro (tin (tGr.len hG t0 (k := 27) rfl (by decide)) h.1) (show tWG K B 0 0 S (uI I 61 29 ((I 61 29) - 1)) J 60 [some (vR 61), some (vI v1)] [vI 30, vI ((uI I 61 29 ((I 61 29) - 1)) 74 ((uI I 61 29 ((I 61 29) - 1)) 61 29).toNatClampNeg)] from ?_))))))
        have h := h.2
        refine gIcNe hO (off := 24) (tgt := 84) (by decide +kernel) (by decide) (fun c4 => ?_) (fun c4 => ?_)
        · have h := h.1 c4
          refine gBk (pe := 95) hO [o0 (.aload_n 0), o0 (.aload_n 0), oF (.getfield 51) 12 27 192 74, o0 (.aload_n 0), oF (.getfield 303) 12 29 813 0, o0 .iaload, oI (.iconst 0) 0] (by decide +kernel) (And.intro t0 (And.intro rfl (And.intro t0 (And.intro (tGr.off hG t0 (k := 27) rfl) (And.intro (tin (tGr.len hG t0 (k := 27) rfl (by decide)) h.1) (show tWG K B 0 0 S (uI I 61 29 ((I 61 29) - 1)) J 95 [some (vR 61), some (vI v1)] [vI 0, vI ((uI I 61 29 ((I 61 29) - 1)) 74 ((uI I 61 29 ((I 61 29) - 1)) 61 29).toNatClampNeg), vR 61] from ?_))))))
          have h := h.2
          refine gCVv_c hO (M12_emit t0 h) hc12_emit (idx := 309) (w := 851) (by decide +kernel) hR (by omega) t0 ⟨by decide, rfl⟩ (vs := [vI ((uI I 61 29 ((I 61 29) - 1)) 74 ((uI I 61 29 ((I 61 29) - 1)) 61 29).toNatClampNeg), vI 0]) (st := []) ⟨rfl, Nat.le_of_ble_eq_true rfl, rfl⟩ (by decide +kernel) (fun I5 J6 h => ?_)
          refine gBk (pe := 0) hO [o0 (.goto (-98))] (by decide +kernel) (show tWG K B 0 0 S I5 J6 0 [some (vR 61), some (vI v1)] [] from ?_)
          exact hkb0 _ _ _ h
        · have h := h.2 c4
          exact W12_settle_63 hO hR hG t0 hQ hkb0 h
theorem W12_settle_L0 {K : tK} {B : tB} {S : tSH} {MC MS : Nat} (hO : tKO K B RX12 cX12_settle 2) (hR : kR K = tRm 3 MC MS) (hG : tGr S) {n : Nat} (t0 : ty S 61 12) {k : tHI → tHJ → Prop} (hQ : tRet K B (tQv B (tPv S k)) 0 0 none) : ∀ (f : Nat) (I : tHI) (J : tHJ) (v1 : Int32), F12_settle_L0 n S k f I J v1 → tWG K B 0 0 S I J 0 [some (vR 61), some (vI v1)] [] := by
  intro f
  induction f with
  | zero => intro I J v1 h; exact h.elim
  | succ f ih => intro I J v1 h; exact W12_settle_0 hO hR hG t0 hQ ih h
set_option maxRecDepth 20000 in
theorem hc12_settle : tCV yX12_settle cX12_settle 2 none 1 := ⟨⟨(List.mem_of_getElem? (i := 869) rfl), (List.mem_of_getElem? (i := 5) (by decide +kernel)), by decide +kernel⟩, (List.mem_of_getElem? (i := 867) (by decide +kernel)), (List.mem_of_getElem? (i := 868) (by decide +kernel))⟩
set_option maxRecDepth 100000 in
theorem M12_settle {l : Launch} {B : tB} {S : tSH} {I : tHI} {J : tHJ} {v1 : Int32} {n : Nat} {k : tHI → tHJ → Prop} (t0 : ty S 61 12) (h : F12_settle n S I J v1 k) : Met l yX12_settle (tWs yX12_settle cX12_settle 2 none) (tRm 3 0 0) (tPc B [vR 61, vI v1] S I J) (tQv B (tPv S k)) 0 0 (tA B) :=
  tEntry (by decide +kernel) [some (vR 61), some (vI v1)] rfl rfl (Nat.le_of_ble_eq_true rfl) (fun K hl hR hO hQ hG => by
  subst hl
  exact W12_settle_L0 hO hR hG t0 hQ n _ _ _ h)
set_option maxRecDepth 100000 in
theorem W12_inner_4 {K : tK} {B : tB} {S : tSH} {MC MS : Nat} (hO : tKO K B RX12 cX12_inner 3) (hR : kR K = tRm 2 MC MS) (hG : tGr S) {n : Nat} (t0 : ty S 61 12) {k : Int32 → tHI → tHJ → Prop} (hQ : tRet K B (tQi B (tPi S k)) 0 0 (some .int)) {kb4 : tHI → tHJ → Int32 → Int32 → Prop} (hkb4 : ∀ (I : tHI) (J : tHJ) (v1 : Int32) (v2 : Int32), kb4 I J v1 v2 → tWG K B 0 0 S I J 4 [some (vR 61), some (vI v1), some (vI v2)] []) {I : tHI} {J : tHJ} {v1 : Int32} {v2 : Int32} (h : F12_inner_4 n S k kb4 I J v1 v2) : tWG K B 0 0 S I J 4 [some (vR 61), some (vI v1), some (vI v2)] [] := by
  refine gBk (pe := 9) hO [o0 (.iload_n 2), o0 (.aload_n 0), oF (.getfield 303) 12 29 813 0] (by decide +kernel) (And.intro t0 (show tWG K B 0 0 S I J 9 [some (vR 61), some (vI v1), some (vI v2)] [vI (I 61 29), vI v2] from ?_))
  refine gIcGe hO (off := 31) (tgt := 40) (by decide +kernel) (by decide) (fun c1 => ?_) (fun c1 => ?_)
  · have h := h.1 c1
    refine gBk (pe := 41) hO [o0 (.iload_n 1)] (by decide +kernel) (show tWG K B 0 0 S I J 41 [some (vR 61), some (vI v1), some (vI v2)] [vI v1] from ?_)
    exact gIret hO hQ (by decide +kernel) ⟨rfl, h⟩
  · have h := h.2 c1
    refine gBk (pe := 20) hO [o0 (.aload_n 0), oF (.getfield 51) 12 27 192 74, o0 (.iload_n 2), o0 .iaload, oI (.bipush 31) 31] (by decide +kernel) (And.intro t0 (And.intro rfl (And.intro (tGr.off hG t0 (k := 27) rfl) (And.intro (tin (tGr.len hG t0 (k := 27) rfl (by decide)) h.1) (show tWG K B 0 0 S I J 20 [some (vR 61), some (vI v1), some (vI v2)] [vI 31, vI (I 74 v2.toNatClampNeg)] from ?_)))))
    have h := h.2
    have hj2 : ∀ (m3 : Int32), m3 = (if (I 74 v2.toNatClampNeg) < 31 then v1 else (I 74 v2.toNatClampNeg)) → tWG K B 0 0 S I J 33 [some (vR 61), none, some (vI v2)] [vI m3] := by
      intro m3 em3
      subst em3
      have h := h.2
      refine gBk (pe := 4) hO [o0 (.istore_n 1), oI (.iinc 2 1) 1, o0 (.goto (-33))] (by decide +kernel) (And.intro (Nat.le_of_ble_eq_true rfl) (show tWG K B 0 0 S I J 4 [some (vR 61), some (vI (if (I 74 v2.toNatClampNeg) < 31 then v1 else (I 74 v2.toNatClampNeg))), some (vI (v2 + 1))] [] from ?_))
      exact hkb4 _ _ _ _ h
    have h := h.1
    refine gIcLt hO (off := 12) (tgt := 32) (by decide +kernel) (by decide) (fun c4 => ?_) (fun c4 => ?_)
    · have h := h.1 c4
      refine gBk (pe := 33) hO [o0 (.iload_n 1)] (by decide +kernel) (show tWG K B 0 0 S I J 33 [some (vR 61), some (vI v1), some (vI v2)] [vI v1] from ?_)
      exact gWeak (L' := [some (vR 61), none, some (vI v2)]) ⟨rfl, rfl, trivial⟩ (hj2 _ (Eq.symm (if_pos c4)))
    · have h := h.2 c4
      refine gBk (pe := 33) hO [o0 (.aload_n 0), oF (.getfield 51) 12 27 192 74, o0 (.iload_n 2), o0 .iaload, o0 (.goto 4)] (by decide +kernel) (And.intro t0 (And.intro rfl (And.intro (tGr.off hG t0 (k := 27) rfl) (And.intro (tin (tGr.len hG t0 (k := 27) rfl (by decide)) h.1) (show tWG K B 0 0 S I J 33 [some (vR 61), some (vI v1), some (vI v2)] [vI (I 74 v2.toNatClampNeg)] from ?_)))))
      have h := h.2
      exact gWeak (L' := [some (vR 61), none, some (vI v2)]) ⟨rfl, rfl, trivial⟩ (hj2 _ (Eq.symm (if_neg c4)))
theorem W12_inner_L4 {K : tK} {B : tB} {S : tSH} {MC MS : Nat} (hO : tKO K B RX12 cX12_inner 3) (hR : kR K = tRm 2 MC MS) (hG : tGr S) {n : Nat} (t0 : ty S 61 12) {k : Int32 → tHI → tHJ → Prop} (hQ : tRet K B (tQi B (tPi S k)) 0 0 (some .int)) : ∀ (f : Nat) (I : tHI) (J : tHJ) (v1 : Int32) (v2 : Int32), F12_inner_L4 n S k f I J v1 v2 → tWG K B 0 0 S I J 4 [some (vR 61), some (vI v1), some (vI v2)] [] := by
  intro f
  induction f with
  | zero => intro I J v1 v2 h; exact h.elim
  | succ f ih => intro I J v1 v2 h; exact W12_inner_4 hO hR hG t0 hQ ih h
set_option maxRecDepth 20000 in
theorem hc12_inner : tCV yX12_inner cX12_inner 3 (some .int) 0 := ⟨⟨(List.mem_of_getElem? (i := 873) rfl), (List.mem_of_getElem? (i := 5) (by decide +kernel)), by decide +kernel⟩, (List.mem_of_getElem? (i := 871) (by decide +kernel)), (List.mem_of_getElem? (i := 872) (by decide +kernel))⟩
set_option maxRecDepth 100000 in
theorem M12_inner {l : Launch} {B : tB} {S : tSH} {I : tHI} {J : tHJ} {n : Nat} {k : Int32 → tHI → tHJ → Prop} (t0 : ty S 61 12) (h : F12_inner n S I J k) : Met l yX12_inner (tWs yX12_inner cX12_inner 3 (some .int)) (tRm 2 0 0) (tPc B [vR 61] S I J) (tQi B (tPi S k)) 0 0 (tA B) :=
  tEntry (by decide +kernel) [some (vR 61), none, none] rfl rfl (Nat.le_of_ble_eq_true rfl) (fun K hl hR hO hQ hG => by
  subst hl
  refine gBk (pe := 4) hO [oI (.iconst (-1)) (-1), o0 (.istore_n 1), oI (.iconst 0) 0, o0 (.istore_n 2)] (by decide +kernel) (And.intro (Nat.le_of_ble_eq_true rfl) (And.intro (Nat.le_of_ble_eq_true rfl) (show tWG K B 0 0 S I J 4 [some (vR 61), some (vI (-1)), some (vI 0)] [] from ?_)))
  exact W12_inner_L4 hO hR hG t0 hQ n _ _ _ _ h)
set_option maxRecDepth 100000 in
theorem W12_isCompared_36 {K : tK} {B : tB} {S : tSH} {MC MS : Nat} (hO : tKO K B RX12 cX12_isCompared 2) (hR : kR K = tRm 3 MC MS) (hG : tGr S) {n : Nat} (t0 : ty S 61 12) {k : Int32 → tHI → tHJ → Prop} (hQ : tRet K B (tQi B (tPb S k)) 0 0 (some .boolean)) {I : tHI} {J : tHJ} {v1 : Int32} (h : F12_isCompared_36 n S k I J v1) : tWG K B 0 0 S I J 36 [some (vR 61), some (vI v1)] [] := by
  refine gBk (pe := 37) hO [o0 (.iload_n 1)] (by decide +kernel) (show tWG K B 0 0 S I J 37 [some (vR 61), some (vI v1)] [vI v1] from ?_)
  have hj3 : ∀ (m4 : Int32), m4 = (if v1 < 0 then 0 else (if (V12_in ((I 74 v1.toNatClampNeg).toInt64) 25 27) = 0 then (0 : Int32) else 1)) → tWG K B 0 0 S I J 64 [none, none] [vI m4] := by
    intro m4 em4
    subst em4
    have h := h.2
    exact gZret hO hQ (by decide +kernel) (bz_if (Or.inl rfl) (bz_if (Or.inl rfl) (Or.inr rfl))) ⟨rfl, (bz_if (Or.inl rfl) (bz_if (Or.inl rfl) (Or.inr rfl))), h⟩
  have h := h.1
  refine gIfLt hO (off := 26) (tgt := 63) (by decide +kernel) (by decide) (fun c5 => ?_) (fun c5 => ?_)
  · have h := h.1 c5
    refine gBk (pe := 64) hO [oI (.iconst 0) 0] (by decide +kernel) (show tWG K B 0 0 S I J 64 [some (vR 61), some (vI v1)] [vI 0] from ?_)
    exact gWeak (L' := [none, none]) trivial (hj3 _ (Eq.symm (if_pos c5)))
  · have h := h.2 c5
    refine gBk (pe := 47) hO [o0 (.aload_n 0), oF (.getfield 51) 12 27 192 74, o0 (.iload_n 1), o0 .iaload, o0 .i2l] (by decide +kernel) (And.intro t0 (And.intro rfl (And.intro (tGr.off hG t0 (k := 27) rfl) (And.intro (tin (tGr.len hG t0 (k := 27) rfl (by decide)) h.1) (show tWG K B 0 0 S I J 47 [some (vR 61), some (vI v1)] [vL ((I 74 v1.toNatClampNeg).toInt64)] from ?_)))))
    have h := h.2
    refine gBk (pe := 50) hO [(.ldc2_w 317, (0, 0, 879, 0), 0, 25)] (by decide +kernel) (show tWG K B 0 0 S I J 50 [some (vR 61), some (vI v1)] [vL 25, vL ((I 74 v1.toNatClampNeg).toInt64)] from ?_)
    refine gBk (pe := 53) hO [(.ldc2_w 319, (0, 0, 880, 0), 0, 27)] (by decide +kernel) (show tWG K B 0 0 S I J 53 [some (vR 61), some (vI v1)] [vL 27, vL 25, vL ((I 74 v1.toNatClampNeg).toInt64)] from ?_)
    refine gCSi_z hO (M12_in) hc12_in (idx := 181) (w := 319) (by decide +kernel) hR (by omega) (vs := [vL ((I 74 v1.toNatClampNeg).toInt64), vL 25, vL 27]) (st := []) ⟨rfl, Nat.le_of_ble_eq_true rfl, rfl⟩ (by decide +kernel) (fun z6 => ?_)
    refine gIfEq hO (off := 7) (tgt := 63) (by decide +kernel) (by decide) (fun c7 => ?_) (fun c7 => ?_)
    · have h := h.1 c7
      refine gBk (pe := 64) hO [oI (.iconst 0) 0] (by decide +kernel) (show tWG K B 0 0 S I J 64 [some (vR 61), some (vI v1)] [vI 0] from ?_)
      exact gWeak (L' := [none, none]) trivial (hj3 _ (Eq.symm ((if_neg c5).trans (if_pos c7))))
    · have h := h.2 c7
      refine gBk (pe := 64) hO [oI (.iconst 1) 1, o0 (.goto 4)] (by decide +kernel) (show tWG K B 0 0 S I J 64 [some (vR 61), some (vI v1)] [vI 1] from ?_)
      exact gWeak (L' := [none, none]) trivial (hj3 _ (Eq.symm ((if_neg c5).trans (if_neg c7))))
set_option maxRecDepth 100000 in
theorem W12_isCompared_7 {K : tK} {B : tB} {S : tSH} {MC MS : Nat} (hO : tKO K B RX12 cX12_isCompared 2) (hR : kR K = tRm 3 MC MS) (hG : tGr S) {n : Nat} (t0 : ty S 61 12) {k : Int32 → tHI → tHJ → Prop} (hQ : tRet K B (tQi B (tPb S k)) 0 0 (some .boolean)) {kb7 : tHI → tHJ → Int32 → Prop} (hkb7 : ∀ (I : tHI) (J : tHJ) (v1 : Int32), kb7 I J v1 → tWG K B 0 0 S I J 7 [some (vR 61), some (vI v1)] []) {I : tHI} {J : tHJ} {v1 : Int32} (h : F12_isCompared_7 n S k kb7 I J v1) : tWG K B 0 0 S I J 7 [some (vR 61), some (vI v1)] [] := by
  refine gBk (pe := 8) hO [o0 (.iload_n 1)] (by decide +kernel) (show tWG K B 0 0 S I J 8 [some (vR 61), some (vI v1)] [vI v1] from ?_)
  refine gIfLt hO (off := 28) (tgt := 36) (by decide +kernel) (by decide) (fun c1 => ?_) (fun c1 => ?_)
  · have h := h.1 c1
    exact W12_isCompared_36 hO hR hG t0 hQ h
  · have h := h.2 c1
    refine gBk (pe := 18) hO [o0 (.aload_n 0), oF (.getfield 51) 12 27 192 74, o0 (.iload_n 1), o0 .iaload, o0 .i2l] (by decide +kernel) (And.intro t0 (And.intro rfl (And.intro (tGr.off hG t0 (k := 27) rfl) (And.intro (tin (tGr.len hG t0 (k := 27) rfl (by decide)) h.1) (show tWG K B 0 0 S I J 18 [some (vR 61), some (vI v1)] [vL ((I 74 v1.toNatClampNeg).toInt64)] from ?_)))))
    have h := h.2
    refine gBk (pe := 21) hO [(.ldc2_w 313, (0, 0, 487, 0), 0, 20)] (by decide +kernel) (show tWG K B 0 0 S I J 21 [some (vR 61), some (vI v1)] [vL 20, vL ((I 74 v1.toNatClampNeg).toInt64)] from ?_)
    refine gBk (pe := 24) hO [(.ldc2_w 315, (0, 0, 878, 0), 0, 24)] (by decide +kernel) (show tWG K B 0 0 S I J 24 [some (vR 61), some (vI v1)] [vL 24, vL 20, vL ((I 74 v1.toNatClampNeg).toInt64)] from ?_)
    refine gCSi_z hO (M12_in) hc12_in (idx := 181) (w := 319) (by decide +kernel) hR (by omega) (vs := [vL ((I 74 v1.toNatClampNeg).toInt64), vL 20, vL 24]) (st := []) ⟨rfl, Nat.le_of_ble_eq_true rfl, rfl⟩ (by decide +kernel) (fun z8 => ?_)
    refine gIfEq hO (off := 9) (tgt := 36) (by decide +kernel) (by decide) (fun c9 => ?_) (fun c9 => ?_)
    · have h := h.1 c9
      exact W12_isCompared_36 hO hR hG t0 hQ h
    · have h := h.2 c9
      refine gBk (pe := 7) hO [oI (.iinc 1 (-1)) (-1), o0 (.goto (-26))] (by decide +kernel) (show tWG K B 0 0 S I J 7 [some (vR 61), some (vI (v1 + (-1)))] [] from ?_)
      exact hkb7 _ _ _ h
theorem W12_isCompared_L7 {K : tK} {B : tB} {S : tSH} {MC MS : Nat} (hO : tKO K B RX12 cX12_isCompared 2) (hR : kR K = tRm 3 MC MS) (hG : tGr S) {n : Nat} (t0 : ty S 61 12) {k : Int32 → tHI → tHJ → Prop} (hQ : tRet K B (tQi B (tPb S k)) 0 0 (some .boolean)) : ∀ (f : Nat) (I : tHI) (J : tHJ) (v1 : Int32), F12_isCompared_L7 n S k f I J v1 → tWG K B 0 0 S I J 7 [some (vR 61), some (vI v1)] [] := by
  intro f
  induction f with
  | zero => intro I J v1 h; exact h.elim
  | succ f ih => intro I J v1 h; exact W12_isCompared_7 hO hR hG t0 hQ ih h
set_option maxRecDepth 20000 in
theorem hc12_isCompared : tCV yX12_isCompared cX12_isCompared 2 (some .boolean) 0 := ⟨⟨(List.mem_of_getElem? (i := 877) rfl), (List.mem_of_getElem? (i := 5) (by decide +kernel)), by decide +kernel⟩, (List.mem_of_getElem? (i := 875) (by decide +kernel)), (List.mem_of_getElem? (i := 876) (by decide +kernel))⟩
set_option maxRecDepth 100000 in
theorem M12_isCompared {l : Launch} {B : tB} {S : tSH} {I : tHI} {J : tHJ} {n : Nat} {k : Int32 → tHI → tHJ → Prop} (t0 : ty S 61 12) (h : F12_isCompared n S I J k) : Met l yX12_isCompared (tWs yX12_isCompared cX12_isCompared 2 (some .boolean)) (tRm 3 0 0) (tPc B [vR 61] S I J) (tQi B (tPb S k)) 0 0 (tA B) :=
  tEntry (by decide +kernel) [some (vR 61), none] rfl rfl (Nat.le_of_ble_eq_true rfl) (fun K hl hR hO hQ hG => by
  subst hl
  refine gBk (pe := 7) hO [o0 (.aload_n 0), oF (.getfield 303) 12 29 813 0, oI (.iconst 1) 1, o0 .isub, o0 (.istore_n 1)] (by decide +kernel) (And.intro t0 (And.intro (Nat.le_of_ble_eq_true rfl) (show tWG K B 0 0 S I J 7 [some (vR 61), some (vI ((I 61 29) - 1))] [] from ?_)))
  exact W12_isCompared_L7 hO hR hG t0 hQ n _ _ _ h)
set_option maxRecDepth 100000 in
theorem W12_partAt_4 {K : tK} {B : tB} {S : tSH} {MC MS : Nat} (hO : tKO K B RX12 cX12_partAt 3) (hR : kR K = tRm 3 MC MS) (hG : tGr S) {n : Nat} (t0 : ty S 61 12) {k : Int32 → tHI → tHJ → Prop} (hQ : tRet K B (tQi B (tPi S k)) 0 0 (some .int)) {kb4 : tHI → tHJ → Int32 → Int32 → Prop} (hkb4 : ∀ (I : tHI) (J : tHJ) (v1 : Int32) (v2 : Int32), kb4 I J v1 v2 → tWG K B 0 0 S I J 4 [some (vR 61), some (vI v1), some (vI v2)] []) {I : tHI} {J : tHJ} {v1 : Int32} {v2 : Int32} (h : F12_partAt_4 n S k kb4 I J v1 v2) : tWG K B 0 0 S I J 4 [some (vR 61), some (vI v1), some (vI v2)] [] := by
  refine gBk (pe := 7) hO [o0 (.iload_n 2), oI (.bipush 12) 12] (by decide +kernel) (show tWG K B 0 0 S I J 7 [some (vR 61), some (vI v1), some (vI v2)] [vI 12, vI v2] from ?_)
  refine gIcGe hO (off := 30) (tgt := 37) (by decide +kernel) (by decide) (fun c1 => ?_) (fun c1 => ?_)
  · have h := h.1 c1
    refine gBk (pe := 38) hO [o0 (.iload_n 1)] (by decide +kernel) (show tWG K B 0 0 S I J 38 [some (vR 61), some (vI v1), some (vI v2)] [vI v1] from ?_)
    exact gIret hO hQ (by decide +kernel) ⟨rfl, h⟩
  · have h := h.2 c1
    refine gBk (pe := 17) hO [o0 (.aload_n 0), o0 (.aload_n 0), oF (.getfield 81) 12 31 206 76, o0 (.iload_n 2), o0 .laload] (by decide +kernel) (And.intro t0 (And.intro rfl (And.intro (tGr.off hG t0 (k := 31) rfl) (And.intro (tin (tGr.len hG t0 (k := 31) rfl (by decide)) h.1) (show tWG K B 0 0 S I J 17 [some (vR 61), some (vI v1), some (vI v2)] [vL (J 76 v2.toNatClampNeg), vR 61] from ?_)))))
    have h := h.2
    refine gCVi_z hO (M12_isWord t0) hc12_isWord (idx := 321) (w := 801) (by decide +kernel) hR (by omega) t0 ⟨by decide, rfl⟩ (vs := [vL (J 76 v2.toNatClampNeg)]) (st := []) ⟨rfl, Nat.le_of_ble_eq_true rfl, rfl⟩ (by decide +kernel) (fun z2 => ?_)
    have hj3 : ∀ (m4 : Int32), m4 = (if (V12_isWord S I J (J 76 v2.toNatClampNeg)) = 0 then v1 else (v2 + 1)) → tWG K B 0 0 S I J 30 [some (vR 61), none, some (vI v2)] [vI m4] := by
      intro m4 em4
      subst em4
      refine gBk (pe := 4) hO [o0 (.istore_n 1), oI (.iinc 2 1) 1, o0 (.goto (-30))] (by decide +kernel) (And.intro (Nat.le_of_ble_eq_true rfl) (show tWG K B 0 0 S I J 4 [some (vR 61), some (vI (if (V12_isWord S I J (J 76 v2.toNatClampNeg)) = 0 then v1 else (v2 + 1))), some (vI (v2 + 1))] [] from ?_))
      exact hkb4 _ _ _ _ h
    refine gIfEq hO (off := 9) (tgt := 29) (by decide +kernel) (by decide) (fun c5 => ?_) (fun c5 => ?_)
    · refine gBk (pe := 30) hO [o0 (.iload_n 1)] (by decide +kernel) (show tWG K B 0 0 S I J 30 [some (vR 61), some (vI v1), some (vI v2)] [vI v1] from ?_)
      exact gWeak (L' := [some (vR 61), none, some (vI v2)]) ⟨rfl, rfl, trivial⟩ (hj3 _ (Eq.symm (if_pos c5)))
    · refine gBk (pe := 30) hO [o0 (.iload_n 2), oI (.iconst 1) 1, o0 .iadd, o0 (.goto 4)] (by decide +kernel) (show tWG K B 0 0 S I J 30 [some (vR 61), some (vI v1), some (vI v2)] [vI (v2 + 1)] from ?_)
      exact gWeak (L' := [some (vR 61), none, some (vI v2)]) ⟨rfl, rfl, trivial⟩ (hj3 _ (Eq.symm (if_neg c5)))
theorem W12_partAt_L4 {K : tK} {B : tB} {S : tSH} {MC MS : Nat} (hO : tKO K B RX12 cX12_partAt 3) (hR : kR K = tRm 3 MC MS) (hG : tGr S) {n : Nat} (t0 : ty S 61 12) {k : Int32 → tHI → tHJ → Prop} (hQ : tRet K B (tQi B (tPi S k)) 0 0 (some .int)) : ∀ (f : Nat) (I : tHI) (J : tHJ) (v1 : Int32) (v2 : Int32), F12_partAt_L4 n S k f I J v1 v2 → tWG K B 0 0 S I J 4 [some (vR 61), some (vI v1), some (vI v2)] [] := by
  intro f
  induction f with
  | zero => intro I J v1 v2 h; exact h.elim
  | succ f ih => intro I J v1 v2 h; exact W12_partAt_4 hO hR hG t0 hQ ih h
set_option maxRecDepth 20000 in
theorem hc12_partAt : tCV yX12_partAt cX12_partAt 3 (some .int) 0 := ⟨⟨(List.mem_of_getElem? (i := 846) rfl), (List.mem_of_getElem? (i := 5) (by decide +kernel)), by decide +kernel⟩, (List.mem_of_getElem? (i := 844) (by decide +kernel)), (List.mem_of_getElem? (i := 845) (by decide +kernel))⟩
set_option maxRecDepth 100000 in
theorem M12_partAt {l : Launch} {B : tB} {S : tSH} {I : tHI} {J : tHJ} {n : Nat} {k : Int32 → tHI → tHJ → Prop} (t0 : ty S 61 12) (h : F12_partAt n S I J k) : Met l yX12_partAt (tWs yX12_partAt cX12_partAt 3 (some .int)) (tRm 3 0 0) (tPc B [vR 61] S I J) (tQi B (tPi S k)) 0 0 (tA B) :=
  tEntry (by decide +kernel) [some (vR 61), none, none] rfl rfl (Nat.le_of_ble_eq_true rfl) (fun K hl hR hO hQ hG => by
  subst hl
  refine gBk (pe := 4) hO [oI (.iconst (-1)) (-1), o0 (.istore_n 1), oI (.iconst 0) 0, o0 (.istore_n 2)] (by decide +kernel) (And.intro (Nat.le_of_ble_eq_true rfl) (And.intro (Nat.le_of_ble_eq_true rfl) (show tWG K B 0 0 S I J 4 [some (vR 61), some (vI (-1)), some (vI 0)] [] from ?_)))
  exact W12_partAt_L4 hO hR hG t0 hQ n _ _ _ _ h)
set_option maxRecDepth 100000 in
theorem W12_orderPartAt_4 {K : tK} {B : tB} {S : tSH} {MC MS : Nat} (hO : tKO K B RX12 cX12_orderPartAt 3) (hR : kR K = tRm 3 MC MS) (hG : tGr S) {n : Nat} (t0 : ty S 61 12) {k : Int32 → tHI → tHJ → Prop} (hQ : tRet K B (tQi B (tPi S k)) 0 0 (some .int)) {kb4 : tHI → tHJ → Int32 → Int32 → Prop} (hkb4 : ∀ (I : tHI) (J : tHJ) (v1 : Int32) (v2 : Int32), kb4 I J v1 v2 → tWG K B 0 0 S I J 4 [some (vR 61), some (vI v1), some (vI v2)] []) {I : tHI} {J : tHJ} {v1 : Int32} {v2 : Int32} (h : F12_orderPartAt_4 n S k kb4 I J v1 v2) : tWG K B 0 0 S I J 4 [some (vR 61), some (vI v1), some (vI v2)] [] := by
  refine gBk (pe := 7) hO [o0 (.iload_n 2), oI (.bipush 8) 8] (by decide +kernel) (show tWG K B 0 0 S I J 7 [some (vR 61), some (vI v1), some (vI v2)] [vI 8, vI v2] from ?_)
  refine gIcGe hO (off := 30) (tgt := 37) (by decide +kernel) (by decide) (fun c1 => ?_) (fun c1 => ?_)
  · have h := h.1 c1
    refine gBk (pe := 38) hO [o0 (.iload_n 1)] (by decide +kernel) (show tWG K B 0 0 S I J 38 [some (vR 61), some (vI v1), some (vI v2)] [vI v1] from ?_)
    exact gIret hO hQ (by decide +kernel) ⟨rfl, h⟩
  · have h := h.2 c1
    refine gBk (pe := 17) hO [o0 (.aload_n 0), o0 (.aload_n 0), oF (.getfield 97) 12 32 213 77, o0 (.iload_n 2), o0 .laload] (by decide +kernel) (And.intro t0 (And.intro rfl (And.intro (tGr.off hG t0 (k := 32) rfl) (And.intro (tin (tGr.len hG t0 (k := 32) rfl (by decide)) h.1) (show tWG K B 0 0 S I J 17 [some (vR 61), some (vI v1), some (vI v2)] [vL (J 77 v2.toNatClampNeg), vR 61] from ?_)))))
    have h := h.2
    refine gCVi_z hO (M12_isWord t0) hc12_isWord (idx := 321) (w := 801) (by decide +kernel) hR (by omega) t0 ⟨by decide, rfl⟩ (vs := [vL (J 77 v2.toNatClampNeg)]) (st := []) ⟨rfl, Nat.le_of_ble_eq_true rfl, rfl⟩ (by decide +kernel) (fun z2 => ?_)
    have hj3 : ∀ (m4 : Int32), m4 = (if (V12_isWord S I J (J 77 v2.toNatClampNeg)) = 0 then v1 else (v2 + 1)) → tWG K B 0 0 S I J 30 [some (vR 61), none, some (vI v2)] [vI m4] := by
      intro m4 em4
      subst em4
      refine gBk (pe := 4) hO [o0 (.istore_n 1), oI (.iinc 2 1) 1, o0 (.goto (-30))] (by decide +kernel) (And.intro (Nat.le_of_ble_eq_true rfl) (show tWG K B 0 0 S I J 4 [some (vR 61), some (vI (if (V12_isWord S I J (J 77 v2.toNatClampNeg)) = 0 then v1 else (v2 + 1))), some (vI (v2 + 1))] [] from ?_))
      exact hkb4 _ _ _ _ h
    refine gIfEq hO (off := 9) (tgt := 29) (by decide +kernel) (by decide) (fun c5 => ?_) (fun c5 => ?_)
    · refine gBk (pe := 30) hO [o0 (.iload_n 1)] (by decide +kernel) (show tWG K B 0 0 S I J 30 [some (vR 61), some (vI v1), some (vI v2)] [vI v1] from ?_)
      exact gWeak (L' := [some (vR 61), none, some (vI v2)]) ⟨rfl, rfl, trivial⟩ (hj3 _ (Eq.symm (if_pos c5)))
    · refine gBk (pe := 30) hO [o0 (.iload_n 2), oI (.iconst 1) 1, o0 .iadd, o0 (.goto 4)] (by decide +kernel) (show tWG K B 0 0 S I J 30 [some (vR 61), some (vI v1), some (vI v2)] [vI (v2 + 1)] from ?_)
      exact gWeak (L' := [some (vR 61), none, some (vI v2)]) ⟨rfl, rfl, trivial⟩ (hj3 _ (Eq.symm (if_neg c5)))
theorem W12_orderPartAt_L4 {K : tK} {B : tB} {S : tSH} {MC MS : Nat} (hO : tKO K B RX12 cX12_orderPartAt 3) (hR : kR K = tRm 3 MC MS) (hG : tGr S) {n : Nat} (t0 : ty S 61 12) {k : Int32 → tHI → tHJ → Prop} (hQ : tRet K B (tQi B (tPi S k)) 0 0 (some .int)) : ∀ (f : Nat) (I : tHI) (J : tHJ) (v1 : Int32) (v2 : Int32), F12_orderPartAt_L4 n S k f I J v1 v2 → tWG K B 0 0 S I J 4 [some (vR 61), some (vI v1), some (vI v2)] [] := by
  intro f
  induction f with
  | zero => intro I J v1 v2 h; exact h.elim
  | succ f ih => intro I J v1 v2 h; exact W12_orderPartAt_4 hO hR hG t0 hQ ih h
set_option maxRecDepth 20000 in
theorem hc12_orderPartAt : tCV yX12_orderPartAt cX12_orderPartAt 3 (some .int) 0 := ⟨⟨(List.mem_of_getElem? (i := 842) rfl), (List.mem_of_getElem? (i := 5) (by decide +kernel)), by decide +kernel⟩, (List.mem_of_getElem? (i := 840) (by decide +kernel)), (List.mem_of_getElem? (i := 841) (by decide +kernel))⟩
set_option maxRecDepth 100000 in
theorem M12_orderPartAt {l : Launch} {B : tB} {S : tSH} {I : tHI} {J : tHJ} {n : Nat} {k : Int32 → tHI → tHJ → Prop} (t0 : ty S 61 12) (h : F12_orderPartAt n S I J k) : Met l yX12_orderPartAt (tWs yX12_orderPartAt cX12_orderPartAt 3 (some .int)) (tRm 3 0 0) (tPc B [vR 61] S I J) (tQi B (tPi S k)) 0 0 (tA B) :=
  tEntry (by decide +kernel) [some (vR 61), none, none] rfl rfl (Nat.le_of_ble_eq_true rfl) (fun K hl hR hO hQ hG => by
  subst hl
  refine gBk (pe := 4) hO [oI (.iconst (-1)) (-1), o0 (.istore_n 1), oI (.iconst 0) 0, o0 (.istore_n 2)] (by decide +kernel) (And.intro (Nat.le_of_ble_eq_true rfl) (And.intro (Nat.le_of_ble_eq_true rfl) (show tWG K B 0 0 S I J 4 [some (vR 61), some (vI (-1)), some (vI 0)] [] from ?_)))
  exact W12_orderPartAt_L4 hO hR hG t0 hQ n _ _ _ _ h)
set_option maxRecDepth 100000 in
theorem W12_openBracket_41 {K : tK} {B : tB} {S : tSH} {MC MS : Nat} (hO : tKO K B RX12 cX12_openBracket 2) (hR : kR K = tRm 5 MC MS) (hG : tGr S) {n : Nat} (t0 : ty S 61 12) {k : tHI → tHJ → Prop} (hQ : tRet K B (tQv B (tPv S k)) 0 0 none) {I : tHI} {J : tHJ} (h : F12_openBracket_41 n S k I J) : tWG K B 0 0 S I J 41 [none, none] [] := by
  exact gVret hO hQ (by decide +kernel) ⟨rfl, h⟩
set_option maxRecDepth 20000 in
theorem hc12_openBracket : tCV yX12_openBracket cX12_openBracket 2 none 1 := ⟨⟨(List.mem_of_getElem? (i := 831) rfl), (List.mem_of_getElem? (i := 5) (by decide +kernel)), by decide +kernel⟩, (List.mem_of_getElem? (i := 829) (by decide +kernel)), (List.mem_of_getElem? (i := 830) (by decide +kernel))⟩
set_option maxRecDepth 100000 in
theorem M12_openBracket {l : Launch} {B : tB} {S : tSH} {I : tHI} {J : tHJ} {v1 : Int32} {n : Nat} {k : tHI → tHJ → Prop} (t0 : ty S 61 12) (h : F12_openBracket n S I J v1 k) : Met l yX12_openBracket (tWs yX12_openBracket cX12_openBracket 2 none) (tRm 5 0 0) (tPc B [vR 61, vI v1] S I J) (tQv B (tPv S k)) 0 0 (tA B) :=
  tEntry (by decide +kernel) [some (vR 61), some (vI v1)] rfl rfl (Nat.le_of_ble_eq_true rfl) (fun K hl hR hO hQ hG => by
  subst hl
  refine gBk (pe := 7) hO [o0 (.aload_n 0), o0 (.aload_n 0), oF (.getfield 325) 12 30 814 0, oI (.bipush 8) 8] (by decide +kernel) (And.intro t0 (show tWG K B 0 0 S I J 7 [some (vR 61), some (vI v1)] [vI 8, vI (I 61 30), vR 61] from ?_))
  have hj1 : ∀ (m2 : Int32), m2 = (if 8 ≤ (I 61 30) then (0 : Int32) else 1) → tWG K B 0 0 S I J 15 [some (vR 61), some (vI v1)] [vI m2, vR 61] := by
    intro m2 em2
    subst em2
    refine gCVv_c hO (M12_must t0 h) hc12_must (idx := 296) (w := 805) (by decide +kernel) hR (by omega) t0 ⟨by decide, rfl⟩ (vs := [vI (if 8 ≤ (I 61 30) then (0 : Int32) else 1)]) (st := []) ⟨rfl, Nat.le_of_ble_eq_true rfl, rfl⟩ (by decide +kernel) (fun I4 J5 h => ?_)
    refine gBk (pe := 22) hO [o0 (.aload_n 0), oF (.getfield 261) 12 19 766 0] (by decide +kernel) (And.intro t0 (show tWG K B 0 0 S I4 J5 22 [some (vR 61), some (vI v1)] [vI (I4 61 19)] from ?_))
    refine gIfNe hO (off := 19) (tgt := 41) (by decide +kernel) (by decide) (fun c6 => ?_) (fun c6 => ?_)
    · have h := h.1 c6
      exact gWeak (L' := [none, none]) trivial (W12_openBracket_41 hO hR hG t0 hQ h)
    · have h := h.2 c6
      refine gBk (pe := 38) hO [o0 (.aload_n 0), o0 .dup, oF (.getfield 325) 12 30 814 0, oI (.iconst 1) 1, o0 .iadd, oF (.putfield 325) 12 30 814 0, o0 (.aload_n 0), o0 (.iload_n 1), oI (.iconst 0) 0] (by decide +kernel) (And.intro t0 (And.intro t0 (show tWG K B 0 0 S (uI I4 61 30 ((I4 61 30) + 1)) J5 38 [some (vR 61), some (vI v1)] [vI 0, vI v1, vR 61] from ?_)))
      refine gCVv_c hO (M12_push t0 h) hc12_push (idx := 328) (w := 820) (by decide +kernel) hR (by omega) t0 ⟨by decide, rfl⟩ (vs := [vI v1, vI 0]) (st := []) ⟨rfl, Nat.le_of_ble_eq_true rfl, rfl⟩ (by decide +kernel) (fun I7 J8 h => ?_)
      exact gWeak (L' := [none, none]) trivial (W12_openBracket_41 hO hR hG t0 hQ h)
  refine gIcGe hO (off := 7) (tgt := 14) (by decide +kernel) (by decide) (fun c3 => ?_) (fun c3 => ?_)
  · refine gBk (pe := 15) hO [oI (.iconst 0) 0] (by decide +kernel) (show tWG K B 0 0 S I J 15 [some (vR 61), some (vI v1)] [vI 0, vR 61] from ?_)
    exact (hj1 _ (Eq.symm (if_pos c3)))
  · refine gBk (pe := 15) hO [oI (.iconst 1) 1, o0 (.goto 4)] (by decide +kernel) (show tWG K B 0 0 S I J 15 [some (vR 61), some (vI v1)] [vI 1, vR 61] from ?_)
    exact (hj1 _ (Eq.symm (if_neg c3))))
set_option maxRecDepth 100000 in
theorem W12_leaf_45 {K : tK} {B : tB} {S : tSH} {MC MS : Nat} (hO : tKO K B RX12 cX12_leaf 4) (hR : kR K = tRm 5 MC MS) (hG : tGr S) {n : Nat} (t0 : ty S 61 12) {k : tHI → tHJ → Prop} (hQ : tRet K B (tQv B (tPv S k)) 0 0 none) {I : tHI} {J : tHJ} (h : F12_leaf_45 n S k I J) : tWG K B 0 0 S I J 45 [none, none, none, none] [] := by
  exact gVret hO hQ (by decide +kernel) ⟨rfl, h⟩
set_option maxRecDepth 20000 in
theorem hc12_leaf : tCV yX12_leaf cX12_leaf 4 none 3 := ⟨⟨(List.mem_of_getElem? (i := 850) rfl), (List.mem_of_getElem? (i := 5) (by decide +kernel)), by decide +kernel⟩, (List.mem_of_getElem? (i := 848) (by decide +kernel)), (List.mem_of_getElem? (i := 849) (by decide +kernel))⟩
set_option maxRecDepth 100000 in
theorem M12_leaf {l : Launch} {B : tB} {S : tSH} {I : tHI} {J : tHJ} {v1 : Int32} {v2 : Int32} {v3 : Int32} {n : Nat} {k : tHI → tHJ → Prop} (t0 : ty S 61 12) (h : F12_leaf n S I J v1 v2 v3 k) : Met l yX12_leaf (tWs yX12_leaf cX12_leaf 4 none) (tRm 5 0 0) (tPc B [vR 61, vI v1, vI v2, vI v3] S I J) (tQv B (tPv S k)) 0 0 (tA B) :=
  tEntry (by decide +kernel) [some (vR 61), some (vI v1), some (vI v2), some (vI v3)] rfl rfl (Nat.le_of_ble_eq_true rfl) (fun K hl hR hO hQ hG => by
  subst hl
  refine gBk (pe := 2) hO [o0 (.aload_n 0), o0 (.iload_n 1)] (by decide +kernel) (show tWG K B 0 0 S I J 2 [some (vR 61), some (vI v1), some (vI v2), some (vI v3)] [vI v1, vR 61] from ?_)
  have hj1 : ∀ (m2 : Int32), m2 = (if v1 = 0 then 0 else (if 50 ≤ (I 61 26) then (0 : Int32) else 1)) → tWG K B 0 0 S I J 19 [some (vR 61), none, some (vI v2), some (vI v3)] [vI m2, vR 61] := by
    intro m2 em2
    subst em2
    refine gCVv_c hO (M12_must t0 h) hc12_must (idx := 296) (w := 805) (by decide +kernel) hR (by omega) t0 ⟨by decide, rfl⟩ (vs := [vI (if v1 = 0 then 0 else (if 50 ≤ (I 61 26) then (0 : Int32) else 1))]) (st := []) ⟨rfl, Nat.le_of_ble_eq_true rfl, rfl⟩ (by decide +kernel) (fun I5 J6 h => ?_)
    refine gBk (pe := 26) hO [o0 (.aload_n 0), oF (.getfield 261) 12 19 766 0] (by decide +kernel) (And.intro t0 (show tWG K B 0 0 S I5 J6 26 [some (vR 61), none, some (vI v2), some (vI v3)] [vI (I5 61 19)] from ?_))
    refine gIfNe hO (off := 19) (tgt := 45) (by decide +kernel) (by decide) (fun c7 => ?_) (fun c7 => ?_)
    · have h := h.1 c7
      exact gWeak (L' := [none, none, none, none]) trivial (W12_leaf_45 hO hR hG t0 hQ h)
    · have h := h.2 c7
      refine gBk (pe := 32) hO [o0 (.aload_n 0), o0 (.iload_n 2), o0 (.iload_n 3)] (by decide +kernel) (show tWG K B 0 0 S I5 J6 32 [some (vR 61), none, some (vI v2), some (vI v3)] [vI v3, vI v2, vR 61] from ?_)
      refine gCVv_c hO (M12_emit t0 h) hc12_emit (idx := 309) (w := 851) (by decide +kernel) hR (by omega) t0 ⟨by decide, rfl⟩ (vs := [vI v2, vI v3]) (st := []) ⟨rfl, Nat.le_of_ble_eq_true rfl, rfl⟩ (by decide +kernel) (fun I8 J9 h => ?_)
      refine gBk (pe := 45) hO [o0 (.aload_n 0), o0 .dup, oF (.getfield 331) 12 26 773 0, oI (.iconst 1) 1, o0 .iadd, oF (.putfield 331) 12 26 773 0] (by decide +kernel) (And.intro t0 (And.intro t0 (show tWG K B 0 0 S (uI I8 61 26 ((I8 61 26) + 1)) J9 45 [some (vR 61), none, some (vI v2), some (vI v3)] [] from ?_)))
      exact gWeak (L' := [none, none, none, none]) trivial (W12_leaf_45 hO hR hG t0 hQ h)
  refine gIfEq hO (off := 16) (tgt := 18) (by decide +kernel) (by decide) (fun c3 => ?_) (fun c3 => ?_)
  · refine gBk (pe := 19) hO [oI (.iconst 0) 0] (by decide +kernel) (show tWG K B 0 0 S I J 19 [some (vR 61), some (vI v1), some (vI v2), some (vI v3)] [vI 0, vR 61] from ?_)
    exact gWeak (L' := [some (vR 61), none, some (vI v2), some (vI v3)]) ⟨rfl, rfl, rfl, trivial⟩ (hj1 _ (Eq.symm (if_pos c3)))
  · refine gBk (pe := 11) hO [o0 (.aload_n 0), oF (.getfield 331) 12 26 773 0, oI (.bipush 50) 50] (by decide +kernel) (And.intro t0 (show tWG K B 0 0 S I J 11 [some (vR 61), some (vI v1), some (vI v2), some (vI v3)] [vI 50, vI (I 61 26), vR 61] from ?_))
    refine gIcGe hO (off := 7) (tgt := 18) (by decide +kernel) (by decide) (fun c4 => ?_) (fun c4 => ?_)
    · refine gBk (pe := 19) hO [oI (.iconst 0) 0] (by decide +kernel) (show tWG K B 0 0 S I J 19 [some (vR 61), some (vI v1), some (vI v2), some (vI v3)] [vI 0, vR 61] from ?_)
      exact gWeak (L' := [some (vR 61), none, some (vI v2), some (vI v3)]) ⟨rfl, rfl, rfl, trivial⟩ (hj1 _ (Eq.symm ((if_neg c3).trans (if_pos c4))))
    · refine gBk (pe := 19) hO [oI (.iconst 1) 1, o0 (.goto 4)] (by decide +kernel) (show tWG K B 0 0 S I J 19 [some (vR 61), some (vI v1), some (vI v2), some (vI v3)] [vI 1, vR 61] from ?_)
      exact gWeak (L' := [some (vR 61), none, some (vI v2), some (vI v3)]) ⟨rfl, rfl, rfl, trivial⟩ (hj1 _ (Eq.symm ((if_neg c3).trans (if_neg c4)))))
set_option maxRecDepth 100000 in
theorem W12_readPart_155 {K : tK} {B : tB} {S : tSH} {MC MS : Nat} (hO : tKO K B RX12 cX12_readPart 4) (hR : kR K = tRm 6 MC MS) (hG : tGr S) {n : Nat} (t0 : ty S 61 12) {k : Int32 → tHI → tHJ → Prop} (hQ : tRet K B (tQi B (tPi S k)) 0 0 (some .int)) {I : tHI} {J : tHJ} (h : F12_readPart_155 n S k I J) : tWG K B 0 0 S I J 155 [none, none, none, none] [] := by
  refine gBk (pe := 156) hO [oI (.iconst 3) 3] (by decide +kernel) (show tWG K B 0 0 S I J 156 [none, none, none, none] [vI 3] from ?_)
  exact gIret hO hQ (by decide +kernel) ⟨rfl, h⟩
set_option maxRecDepth 100000 in
theorem W12_readPart_35 {K : tK} {B : tB} {S : tSH} {MC MS : Nat} (hO : tKO K B RX12 cX12_readPart 4) (hR : kR K = tRm 6 MC MS) (hG : tGr S) {n : Nat} (t0 : ty S 61 12) {k : Int32 → tHI → tHJ → Prop} (hQ : tRet K B (tQi B (tPi S k)) 0 0 (some .int)) {I : tHI} {J : tHJ} {s0 : Int32} (h : F12_readPart_35 n S k I J s0) : tWG K B 0 0 S I J 35 [some (vR 61), none, none, none] [vI s0] := by
  refine gBk (pe := 41) hO [o0 (.istore_n 1), o0 (.aload_n 0), oF (.getfield 281) 12 16 785 0, oI (.iconst 2) 2] (by decide +kernel) (And.intro (Nat.le_of_ble_eq_true rfl) (And.intro t0 (show tWG K B 0 0 S I J 41 [some (vR 61), some (vI s0), none, none] [vI 2, vI (I 61 16)] from ?_)))
  have hj7 : ∀ (m8 : Int32), m8 = (if (I 61 16) = 2 then (if 0 < (lg_cmp (J 61 17) 1000) then (0 : Int32) else 1) else 0) → tWG K B 0 0 S I J 60 [some (vR 61), some (vI s0), none, none] [vI m8] := by
    intro m8 em8
    subst em8
    refine gBk (pe := 64) hO [o0 (.istore_n 2), o0 (.aload_n 0), o0 (.iload_n 1), oI (.iconst (-1)) (-1)] (by decide +kernel) (And.intro (Nat.le_of_ble_eq_true rfl) (show tWG K B 0 0 S I J 64 [some (vR 61), some (vI s0), some (vI (if (I 61 16) = 2 then (if 0 < (lg_cmp (J 61 17) 1000) then (0 : Int32) else 1) else 0)), none] [vI (-1), vI s0, vR 61] from ?_))
    have hj11 : ∀ (m12 : Int32), m12 = (if s0 = (-1) then (if (if (I 61 16) = 2 then (if 0 < (lg_cmp (J 61 17) 1000) then (0 : Int32) else 1) else 0) = 0 then (0 : Int32) else 1) else 1) → tWG K B 0 0 S I J 76 [some (vR 61), some (vI s0), some (vI (if (I 61 16) = 2 then (if 0 < (lg_cmp (J 61 17) 1000) then (0 : Int32) else 1) else 0)), none] [vI m12, vR 61] := by
      intro m12 em12
      subst em12
      refine gBk (pe := 78) hO [o0 (.iload_n 1), oI (.iconst (-1)) (-1)] (by decide +kernel) (show tWG K B 0 0 S I J 78 [some (vR 61), some (vI s0), some (vI (if (I 61 16) = 2 then (if 0 < (lg_cmp (J 61 17) 1000) then (0 : Int32) else 1) else 0)), none] [vI (-1), vI s0, vI (if s0 = (-1) then (if (if (I 61 16) = 2 then (if 0 < (lg_cmp (J 61 17) 1000) then (0 : Int32) else 1) else 0) = 0 then (0 : Int32) else 1) else 1), vR 61] from ?_)
      have hj15 : ∀ (m16 : Int32), m16 = (if s0 = (-1) then 0 else s0) → tWG K B 0 0 S I J 86 [some (vR 61), some (vI s0), some (vI (if (I 61 16) = 2 then (if 0 < (lg_cmp (J 61 17) 1000) then (0 : Int32) else 1) else 0)), none] [vI m16, vI (if s0 = (-1) then (if (if (I 61 16) = 2 then (if 0 < (lg_cmp (J 61 17) 1000) then (0 : Int32) else 1) else 0) = 0 then (0 : Int32) else 1) else 1), vR 61] := by
        intro m16 em16
        subst em16
        refine gBk (pe := 87) hO [o0 (.iload_n 2)] (by decide +kernel) (show tWG K B 0 0 S I J 87 [some (vR 61), some (vI s0), some (vI (if (I 61 16) = 2 then (if 0 < (lg_cmp (J 61 17) 1000) then (0 : Int32) else 1) else 0)), none] [vI (if (I 61 16) = 2 then (if 0 < (lg_cmp (J 61 17) 1000) then (0 : Int32) else 1) else 0), vI (if s0 = (-1) then 0 else s0), vI (if s0 = (-1) then (if (if (I 61 16) = 2 then (if 0 < (lg_cmp (J 61 17) 1000) then (0 : Int32) else 1) else 0) = 0 then (0 : Int32) else 1) else 1), vR 61] from ?_)
        have hj18 : ∀ (m19 : Int32), m19 = (if (if (I 61 16) = 2 then (if 0 < (lg_cmp (J 61 17) 1000) then (0 : Int32) else 1) else 0) = 0 then 0 else (J 61 17).toInt32) → tWG K B 0 0 S I J 99 [some (vR 61), some (vI s0), none, none] [vI m19, vI (if s0 = (-1) then 0 else s0), vI (if s0 = (-1) then (if (if (I 61 16) = 2 then (if 0 < (lg_cmp (J 61 17) 1000) then (0 : Int32) else 1) else 0) = 0 then (0 : Int32) else 1) else 1), vR 61] := by
          intro m19 em19
          subst em19
          refine gCVv_c hO (M12_leaf t0 h) hc12_leaf (idx := 352) (w := 847) (by decide +kernel) hR (by omega) t0 ⟨by decide, rfl⟩ (vs := [vI (if s0 = (-1) then (if (if (I 61 16) = 2 then (if 0 < (lg_cmp (J 61 17) 1000) then (0 : Int32) else 1) else 0) = 0 then (0 : Int32) else 1) else 1), vI (if s0 = (-1) then 0 else s0), vI (if (if (I 61 16) = 2 then (if 0 < (lg_cmp (J 61 17) 1000) then (0 : Int32) else 1) else 0) = 0 then 0 else (J 61 17).toInt32)]) (st := []) ⟨rfl, Nat.le_of_ble_eq_true rfl, rfl⟩ (by decide +kernel) (fun I21 J22 h => ?_)
          refine gBk (pe := 106) hO [o0 (.aload_n 0), oF (.getfield 340) 12 20 348 0] (by decide +kernel) (And.intro t0 (show tWG K B 0 0 S I21 J22 106 [some (vR 61), some (vI s0), none, none] [vI (I21 61 20)] from ?_))
          refine gIfEq hO (off := 49) (tgt := 155) (by decide +kernel) (by decide) (fun c23 => ?_) (fun c23 => ?_)
          · have h := h.1 c23
            exact gWeak (L' := [none, none, none, none]) trivial (W12_readPart_155 hO hR hG t0 hQ h)
          · have h := h.2 c23
            refine gBk (pe := 112) hO [o0 (.iload_n 1), oI (.bipush 7) 7] (by decide +kernel) (show tWG K B 0 0 S I21 J22 112 [some (vR 61), some (vI s0), none, none] [vI 7, vI s0] from ?_)
            refine gIcLt hO (off := 43) (tgt := 155) (by decide +kernel) (by decide) (fun c24 => ?_) (fun c24 => ?_)
            · have h := h.1 c24
              exact gWeak (L' := [none, none, none, none]) trivial (W12_readPart_155 hO hR hG t0 hQ h)
            · have h := h.2 c24
              refine gBk (pe := 119) hO [o0 (.aload_n 0), oF (.getfield 261) 12 19 766 0] (by decide +kernel) (And.intro t0 (show tWG K B 0 0 S I21 J22 119 [some (vR 61), some (vI s0), none, none] [vI (I21 61 19)] from ?_))
              refine gIfNe hO (off := 36) (tgt := 155) (by decide +kernel) (by decide) (fun c25 => ?_) (fun c25 => ?_)
              · have h := h.1 c25
                exact gWeak (L' := [none, none, none, none]) trivial (W12_readPart_155 hO hR hG t0 hQ h)
              · have h := h.2 c25
                refine gBk (pe := 139) hO [o0 (.aload_n 0), oF (.getfield 300) 12 23 768 0, oI (.iconst 1) 1, o0 .isub, o0 (.istore_n 3), o0 (.aload_n 0), oF (.getfield 48) 12 25 191 73, o0 (.iload_n 3), o0 (.aload_n 0), oJ (.lconst 0) 0 0, o0 (.iload_n 1), oI (.bipush 7) 7] (by decide +kernel) (And.intro t0 (And.intro (Nat.le_of_ble_eq_true rfl) (And.intro t0 (And.intro rfl (show tWG K B 0 0 S I21 J22 139 [some (vR 61), some (vI s0), none, some (vI ((I21 61 23) - 1))] [vI 7, vI s0, vL 0, vR 61, vI ((I21 61 23) - 1), vR 73] from ?_)))))
                have hj26 : ∀ (m27 : Int64), m27 = (if s0 = 7 then (11 : Int64) else 5) → tWG K B 0 0 S I21 J22 151 [none, none, none, none] [vL m27, vL 0, vR 61, vI ((I21 61 23) - 1), vR 73] := by
                  intro m27 em27
                  subst em27
                  refine gCVi_c hO (M12_number t0 h) hc12_number (idx := 360) (w := 855) (by decide +kernel) hR (by omega) t0 ⟨by decide, rfl⟩ (vs := [vL 0, vL (if s0 = 7 then (11 : Int64) else 5)]) (st := [vI ((I21 61 23) - 1), vR 73]) ⟨rfl, Nat.le_of_ble_eq_true rfl, rfl⟩ (by decide +kernel) (fun x31 I29 J30 h => ?_)
                  refine gBk (pe := 155) hO [o0 .iastore] (by decide +kernel) (And.intro (tGr.off hG t0 (k := 25) rfl) (And.intro (tin (tGr.len hG t0 (k := 25) rfl (by decide)) h.1) (show tWG K B 0 0 S (uI I29 73 ((I21 61 23) - 1).toNatClampNeg x31) J30 155 [none, none, none, none] [] from ?_)))
                  have h := h.2
                  exact W12_readPart_155 hO hR hG t0 hQ h
                refine gIcNe hO (off := 9) (tgt := 148) (by decide +kernel) (by decide) (fun c28 => ?_) (fun c28 => ?_)
                · refine gBk (pe := 151) hO [(.ldc2_w 358, (0, 0, 838, 0), 0, 5)] (by decide +kernel) (show tWG K B 0 0 S I21 J22 151 [some (vR 61), some (vI s0), none, some (vI ((I21 61 23) - 1))] [vL 5, vL 0, vR 61, vI ((I21 61 23) - 1), vR 73] from ?_)
                  exact gWeak (L' := [none, none, none, none]) trivial (hj26 _ (Eq.symm (if_neg c28)))
                · refine gBk (pe := 151) hO [(.ldc2_w 356, (0, 0, 837, 0), 0, 11), o0 (.goto 6)] (by decide +kernel) (show tWG K B 0 0 S I21 J22 151 [some (vR 61), some (vI s0), none, some (vI ((I21 61 23) - 1))] [vL 11, vL 0, vR 61, vI ((I21 61 23) - 1), vR 73] from ?_)
                  exact gWeak (L' := [none, none, none, none]) trivial (hj26 _ (Eq.symm (if_pos c28)))
        refine gIfEq hO (off := 11) (tgt := 98) (by decide +kernel) (by decide) (fun c20 => ?_) (fun c20 => ?_)
        · refine gBk (pe := 99) hO [oI (.iconst 0) 0] (by decide +kernel) (show tWG K B 0 0 S I J 99 [some (vR 61), some (vI s0), some (vI (if (I 61 16) = 2 then (if 0 < (lg_cmp (J 61 17) 1000) then (0 : Int32) else 1) else 0)), none] [vI 0, vI (if s0 = (-1) then 0 else s0), vI (if s0 = (-1) then (if (if (I 61 16) = 2 then (if 0 < (lg_cmp (J 61 17) 1000) then (0 : Int32) else 1) else 0) = 0 then (0 : Int32) else 1) else 1), vR 61] from ?_)
          exact gWeak (L' := [some (vR 61), some (vI s0), none, none]) ⟨rfl, rfl, trivial⟩ (hj18 _ (Eq.symm (if_pos c20)))
        · refine gBk (pe := 99) hO [o0 (.aload_n 0), oF (.getfield 271) 12 17 784 0, o0 .l2i, o0 (.goto 4)] (by decide +kernel) (And.intro t0 (show tWG K B 0 0 S I J 99 [some (vR 61), some (vI s0), some (vI (if (I 61 16) = 2 then (if 0 < (lg_cmp (J 61 17) 1000) then (0 : Int32) else 1) else 0)), none] [vI ((J 61 17).toInt32), vI (if s0 = (-1) then 0 else s0), vI (if s0 = (-1) then (if (if (I 61 16) = 2 then (if 0 < (lg_cmp (J 61 17) 1000) then (0 : Int32) else 1) else 0) = 0 then (0 : Int32) else 1) else 1), vR 61] from ?_))
          exact gWeak (L' := [some (vR 61), some (vI s0), none, none]) ⟨rfl, rfl, trivial⟩ (hj18 _ (Eq.symm (if_neg c20)))
      refine gIcNe hO (off := 7) (tgt := 85) (by decide +kernel) (by decide) (fun c17 => ?_) (fun c17 => ?_)
      · refine gBk (pe := 86) hO [o0 (.iload_n 1)] (by decide +kernel) (show tWG K B 0 0 S I J 86 [some (vR 61), some (vI s0), some (vI (if (I 61 16) = 2 then (if 0 < (lg_cmp (J 61 17) 1000) then (0 : Int32) else 1) else 0)), none] [vI s0, vI (if s0 = (-1) then (if (if (I 61 16) = 2 then (if 0 < (lg_cmp (J 61 17) 1000) then (0 : Int32) else 1) else 0) = 0 then (0 : Int32) else 1) else 1), vR 61] from ?_)
        exact (hj15 _ (Eq.symm (if_neg c17)))
      · refine gBk (pe := 86) hO [oI (.iconst 0) 0, o0 (.goto 4)] (by decide +kernel) (show tWG K B 0 0 S I J 86 [some (vR 61), some (vI s0), some (vI (if (I 61 16) = 2 then (if 0 < (lg_cmp (J 61 17) 1000) then (0 : Int32) else 1) else 0)), none] [vI 0, vI (if s0 = (-1) then (if (if (I 61 16) = 2 then (if 0 < (lg_cmp (J 61 17) 1000) then (0 : Int32) else 1) else 0) = 0 then (0 : Int32) else 1) else 1), vR 61] from ?_)
        exact (hj15 _ (Eq.symm (if_pos c17)))
    refine gIcNe hO (off := 7) (tgt := 71) (by decide +kernel) (by decide) (fun c13 => ?_) (fun c13 => ?_)
    · refine gBk (pe := 76) hO [oI (.iconst 1) 1, o0 (.goto 4)] (by decide +kernel) (show tWG K B 0 0 S I J 76 [some (vR 61), some (vI s0), some (vI (if (I 61 16) = 2 then (if 0 < (lg_cmp (J 61 17) 1000) then (0 : Int32) else 1) else 0)), none] [vI 1, vR 61] from ?_)
      exact (hj11 _ (Eq.symm (if_neg c13)))
    · refine gBk (pe := 68) hO [o0 (.iload_n 2)] (by decide +kernel) (show tWG K B 0 0 S I J 68 [some (vR 61), some (vI s0), some (vI (if (I 61 16) = 2 then (if 0 < (lg_cmp (J 61 17) 1000) then (0 : Int32) else 1) else 0)), none] [vI (if (I 61 16) = 2 then (if 0 < (lg_cmp (J 61 17) 1000) then (0 : Int32) else 1) else 0), vR 61] from ?_)
      refine gIfEq hO (off := 7) (tgt := 75) (by decide +kernel) (by decide) (fun c14 => ?_) (fun c14 => ?_)
      · refine gBk (pe := 76) hO [oI (.iconst 0) 0] (by decide +kernel) (show tWG K B 0 0 S I J 76 [some (vR 61), some (vI s0), some (vI (if (I 61 16) = 2 then (if 0 < (lg_cmp (J 61 17) 1000) then (0 : Int32) else 1) else 0)), none] [vI 0, vR 61] from ?_)
        exact (hj11 _ (Eq.symm ((if_pos c13).trans (if_pos c14))))
      · refine gBk (pe := 76) hO [oI (.iconst 1) 1, o0 (.goto 4)] (by decide +kernel) (show tWG K B 0 0 S I J 76 [some (vR 61), some (vI s0), some (vI (if (I 61 16) = 2 then (if 0 < (lg_cmp (J 61 17) 1000) then (0 : Int32) else 1) else 0)), none] [vI 1, vR 61] from ?_)
        exact (hj11 _ (Eq.symm ((if_pos c13).trans (if_neg c14))))
  refine gIcNe hO (off := 18) (tgt := 59) (by decide +kernel) (by decide) (fun c9 => ?_) (fun c9 => ?_)
  · refine gBk (pe := 60) hO [oI (.iconst 0) 0] (by decide +kernel) (show tWG K B 0 0 S I J 60 [some (vR 61), some (vI s0), none, none] [vI 0] from ?_)
    exact (hj7 _ (Eq.symm (if_neg c9)))
  · refine gBk (pe := 48) hO [o0 (.aload_n 0), oF (.getfield 271) 12 17 784 0] (by decide +kernel) (And.intro t0 (show tWG K B 0 0 S I J 48 [some (vR 61), some (vI s0), none, none] [vL (J 61 17)] from ?_))
    refine gBk (pe := 52) hO [(.ldc2_w 350, (0, 0, 836, 0), 0, 1000), o0 .lcmp] (by decide +kernel) (show tWG K B 0 0 S I J 52 [some (vR 61), some (vI s0), none, none] [vI (lg_cmp (J 61 17) 1000)] from ?_)
    refine gIfGt hO (off := 7) (tgt := 59) (by decide +kernel) (by decide) (fun c10 => ?_) (fun c10 => ?_)
    · refine gBk (pe := 60) hO [oI (.iconst 0) 0] (by decide +kernel) (show tWG K B 0 0 S I J 60 [some (vR 61), some (vI s0), none, none] [vI 0] from ?_)
      exact (hj7 _ (Eq.symm ((if_pos c9).trans (if_pos c10))))
    · refine gBk (pe := 60) hO [oI (.iconst 1) 1, o0 (.goto 4)] (by decide +kernel) (show tWG K B 0 0 S I J 60 [some (vR 61), some (vI s0), none, none] [vI 1] from ?_)
      exact (hj7 _ (Eq.symm ((if_pos c9).trans (if_neg c10))))
set_option maxRecDepth 20000 in
theorem hc12_readPart : tCV yX12_readPart cX12_readPart 4 (some .int) 0 := ⟨⟨(List.mem_of_getElem? (i := 835) rfl), (List.mem_of_getElem? (i := 5) (by decide +kernel)), by decide +kernel⟩, (List.mem_of_getElem? (i := 833) (by decide +kernel)), (List.mem_of_getElem? (i := 834) (by decide +kernel))⟩
set_option maxRecDepth 100000 in
theorem M12_readPart {l : Launch} {B : tB} {S : tSH} {I : tHI} {J : tHJ} {n : Nat} {k : Int32 → tHI → tHJ → Prop} (t0 : ty S 61 12) (h : F12_readPart n S I J k) : Met l yX12_readPart (tWs yX12_readPart cX12_readPart 4 (some .int)) (tRm 6 0 0) (tPc B [vR 61] S I J) (tQi B (tPi S k)) 0 0 (tA B) :=
  tEntry (by decide +kernel) [some (vR 61), none, none, none] rfl rfl (Nat.le_of_ble_eq_true rfl) (fun K hl hR hO hQ hG => by
  subst hl
  refine gBk (pe := 3) hO [o0 (.aload_n 0), oI (.bipush 91) 91] (by decide +kernel) (show tWG K B 0 0 S I J 3 [some (vR 61), none, none, none] [vI 91, vR 61] from ?_)
  refine gCVi_z hO (M12_isSign t0) hc12_isSign (idx := 334) (w := 824) (by decide +kernel) hR (by omega) t0 ⟨by decide, rfl⟩ (vs := [vI 91]) (st := []) ⟨rfl, Nat.le_of_ble_eq_true rfl, rfl⟩ (by decide +kernel) (fun z1 => ?_)
  refine gIfEq hO (off := 11) (tgt := 17) (by decide +kernel) (by decide) (fun c2 => ?_) (fun c2 => ?_)
  · have h := h.1 c2
    refine gBk (pe := 21) hO [o0 (.aload_n 0), oF (.getfield 340) 12 20 348 0] (by decide +kernel) (And.intro t0 (show tWG K B 0 0 S I J 21 [some (vR 61), none, none, none] [vI (I 61 20)] from ?_))
    refine gIfEq hO (off := 10) (tgt := 31) (by decide +kernel) (by decide) (fun c3 => ?_) (fun c3 => ?_)
    · have h := h.1 c3
      refine gBk (pe := 32) hO [o0 (.aload_n 0)] (by decide +kernel) (show tWG K B 0 0 S I J 32 [some (vR 61), none, none, none] [vR 61] from ?_)
      refine gCVi_c hO (M12_partAt t0 h) hc12_partAt (idx := 347) (w := 843) (by decide +kernel) hR (by omega) t0 ⟨by decide, rfl⟩ (vs := []) (st := []) ⟨rfl, Nat.le_of_ble_eq_true rfl, rfl⟩ (by decide +kernel) (fun x6 I4 J5 h => ?_)
      exact W12_readPart_35 hO hR hG t0 hQ h
    · have h := h.2 c3
      refine gBk (pe := 25) hO [o0 (.aload_n 0)] (by decide +kernel) (show tWG K B 0 0 S I J 25 [some (vR 61), none, none, none] [vR 61] from ?_)
      refine gCVi_c hO (M12_orderPartAt t0 h) hc12_orderPartAt (idx := 343) (w := 839) (by decide +kernel) hR (by omega) t0 ⟨by decide, rfl⟩ (vs := []) (st := []) ⟨rfl, Nat.le_of_ble_eq_true rfl, rfl⟩ (by decide +kernel) (fun x34 I32 J33 h => ?_)
      refine gBk (pe := 35) hO [o0 (.goto 7)] (by decide +kernel) (show tWG K B 0 0 S I32 J33 35 [some (vR 61), none, none, none] [vI x34] from ?_)
      exact W12_readPart_35 hO hR hG t0 hQ h
  · have h := h.2 c2
    refine gBk (pe := 12) hO [o0 (.aload_n 0), oI (.bipush 32) 32] (by decide +kernel) (show tWG K B 0 0 S I J 12 [some (vR 61), none, none, none] [vI 32, vR 61] from ?_)
    refine gCVv_c hO (M12_openBracket t0 h) hc12_openBracket (idx := 337) (w := 828) (by decide +kernel) hR (by omega) t0 ⟨by decide, rfl⟩ (vs := [vI 32]) (st := []) ⟨rfl, Nat.le_of_ble_eq_true rfl, rfl⟩ (by decide +kernel) (fun I35 J36 h => ?_)
    refine gBk (pe := 16) hO [oI (.iconst 1) 1] (by decide +kernel) (show tWG K B 0 0 S I35 J36 16 [some (vR 61), none, none, none] [vI 1] from ?_)
    exact gIret hO hQ (by decide +kernel) ⟨rfl, h⟩)
set_option maxRecDepth 20000 in
theorem hc12_readPlain : tCV yX12_readPlain cX12_readPlain 1 (some .int) 0 := ⟨⟨(List.mem_of_getElem? (i := 818) rfl), (List.mem_of_getElem? (i := 5) (by decide +kernel)), by decide +kernel⟩, (List.mem_of_getElem? (i := 816) (by decide +kernel)), (List.mem_of_getElem? (i := 817) (by decide +kernel))⟩
set_option maxRecDepth 100000 in
theorem M12_readPlain {l : Launch} {B : tB} {S : tSH} {I : tHI} {J : tHJ} {n : Nat} {k : Int32 → tHI → tHJ → Prop} (t0 : ty S 61 12) (h : F12_readPlain n S I J k) : Met l yX12_readPlain (tWs yX12_readPlain cX12_readPlain 1 (some .int)) (tRm 7 0 0) (tPc B [vR 61] S I J) (tQi B (tPi S k)) 0 0 (tA B) :=
  tEntry (by decide +kernel) [some (vR 61)] rfl rfl (Nat.le_of_ble_eq_true rfl) (fun K hl hR hO hQ hG => by
  subst hl
  refine gBk (pe := 1) hO [o0 (.aload_n 0)] (by decide +kernel) (show tWG K B 0 0 S I J 1 [some (vR 61)] [vR 61] from ?_)
  refine gBk (pe := 4) hO [(.ldc2_w 364, (0, 0, 819, 0), 0, 14836)] (by decide +kernel) (show tWG K B 0 0 S I J 4 [some (vR 61)] [vL 14836, vR 61] from ?_)
  refine gCVi_z hO (M12_isWord t0) hc12_isWord (idx := 321) (w := 801) (by decide +kernel) hR (by omega) t0 ⟨by decide, rfl⟩ (vs := [vL 14836]) (st := []) ⟨rfl, Nat.le_of_ble_eq_true rfl, rfl⟩ (by decide +kernel) (fun z1 => ?_)
  refine gIfEq hO (off := 16) (tgt := 23) (by decide +kernel) (by decide) (fun c2 => ?_) (fun c2 => ?_)
  · have h := h.1 c2
    refine gBk (pe := 26) hO [o0 (.aload_n 0), oI (.bipush 40) 40] (by decide +kernel) (show tWG K B 0 0 S I J 26 [some (vR 61)] [vI 40, vR 61] from ?_)
    refine gCVi_z hO (M12_isSign t0) hc12_isSign (idx := 334) (w := 824) (by decide +kernel) hR (by omega) t0 ⟨by decide, rfl⟩ (vs := [vI 40]) (st := []) ⟨rfl, Nat.le_of_ble_eq_true rfl, rfl⟩ (by decide +kernel) (fun z3 => ?_)
    refine gIfEq hO (off := 11) (tgt := 40) (by decide +kernel) (by decide) (fun c4 => ?_) (fun c4 => ?_)
    · have h := h.1 c4
      refine gBk (pe := 41) hO [o0 (.aload_n 0)] (by decide +kernel) (show tWG K B 0 0 S I J 41 [some (vR 61)] [vR 61] from ?_)
      refine gCVi_c hO (M12_readPart t0 h) hc12_readPart (idx := 366) (w := 832) (by decide +kernel) hR (by omega) t0 ⟨by decide, rfl⟩ (vs := []) (st := []) ⟨rfl, Nat.le_of_ble_eq_true rfl, rfl⟩ (by decide +kernel) (fun x7 I5 J6 h => ?_)
      exact gIret hO hQ (by decide +kernel) ⟨rfl, h⟩
    · have h := h.2 c4
      refine gBk (pe := 35) hO [o0 (.aload_n 0), oI (.bipush 31) 31] (by decide +kernel) (show tWG K B 0 0 S I J 35 [some (vR 61)] [vI 31, vR 61] from ?_)
      refine gCVv_c hO (M12_openBracket t0 h) hc12_openBracket (idx := 337) (w := 828) (by decide +kernel) hR (by omega) t0 ⟨by decide, rfl⟩ (vs := [vI 31]) (st := []) ⟨rfl, Nat.le_of_ble_eq_true rfl, rfl⟩ (by decide +kernel) (fun I8 J9 h => ?_)
      refine gBk (pe := 39) hO [oI (.iconst 0) 0] (by decide +kernel) (show tWG K B 0 0 S I8 J9 39 [some (vR 61)] [vI 0] from ?_)
      exact gIret hO hQ (by decide +kernel) ⟨rfl, h⟩
  · have h := h.2 c2
    refine gBk (pe := 14) hO [o0 (.aload_n 0), oI (.bipush 28) 28, oI (.iconst 0) 0] (by decide +kernel) (show tWG K B 0 0 S I J 14 [some (vR 61)] [vI 0, vI 28, vR 61] from ?_)
    refine gCVv_c hO (M12_push t0 h) hc12_push (idx := 328) (w := 820) (by decide +kernel) hR (by omega) t0 ⟨by decide, rfl⟩ (vs := [vI 28, vI 0]) (st := []) ⟨rfl, Nat.le_of_ble_eq_true rfl, rfl⟩ (by decide +kernel) (fun I10 J11 h => ?_)
    refine gBk (pe := 18) hO [o0 (.aload_n 0)] (by decide +kernel) (show tWG K B 0 0 S I10 J11 18 [some (vR 61)] [vR 61] from ?_)
    refine gCVv_c hO (M12_next t0 h) hc12_next (idx := 265) (w := 779) (by decide +kernel) hR (by omega) t0 ⟨by decide, rfl⟩ (vs := []) (st := []) ⟨rfl, Nat.le_of_ble_eq_true rfl, rfl⟩ (by decide +kernel) (fun I12 J13 h => ?_)
    refine gBk (pe := 22) hO [oI (.iconst 0) 0] (by decide +kernel) (show tWG K B 0 0 S I12 J13 22 [some (vR 61)] [vI 0] from ?_)
    exact gIret hO hQ (by decide +kernel) ⟨rfl, h⟩)
set_option maxRecDepth 100000 in
theorem W12_behindSum_245 {K : tK} {B : tB} {S : tSH} {MC MS : Nat} (hO : tKO K B RX12 cX12_behindSum 4) (hR : kR K = tRm 5 MC MS) (hG : tGr S) {n : Nat} (t0 : ty S 61 12) {k : Int32 → tHI → tHJ → Prop} (hQ : tRet K B (tQi B (tPi S k)) 0 0 (some .int)) {I : tHI} {J : tHJ} (h : F12_behindSum_245 n S k I J) : tWG K B 0 0 S I J 245 [none, none, none, none] [] := by
  refine gBk (pe := 246) hO [oI (.iconst 1) 1] (by decide +kernel) (show tWG K B 0 0 S I J 246 [none, none, none, none] [vI 1] from ?_)
  exact gIret hO hQ (by decide +kernel) ⟨rfl, h⟩
set_option maxRecDepth 100000 in
theorem W12_behindSum_163 {K : tK} {B : tB} {S : tSH} {MC MS : Nat} (hO : tKO K B RX12 cX12_behindSum 4) (hR : kR K = tRm 5 MC MS) (hG : tGr S) {n : Nat} (t0 : ty S 61 12) {k : Int32 → tHI → tHJ → Prop} (hQ : tRet K B (tQi B (tPi S k)) 0 0 (some .int)) {I : tHI} {J : tHJ} (h : F12_behindSum_163 n S k I J) : tWG K B 0 0 S I J 163 [some (vR 61), none, none, none] [] := by
  refine gBk (pe := 164) hO [o0 (.aload_n 0)] (by decide +kernel) (show tWG K B 0 0 S I J 164 [some (vR 61), none, none, none] [vR 61] from ?_)
  refine gCVi_b hO (M12_isCompared t0 h) hc12_isCompared (idx := 375) (w := 874) (by decide +kernel) hR (by omega) t0 ⟨by decide, rfl⟩ (vs := []) (st := []) ⟨rfl, Nat.le_of_ble_eq_true rfl, rfl⟩ (by decide +kernel) (fun x25 I23 J24 z26 h => ?_)
  have h := h z26
  refine gIfEq hO (off := 5) (tgt := 172) (by decide +kernel) (by decide) (fun c27 => ?_) (fun c27 => ?_)
  · have h := h.1 c27
    refine gBk (pe := 175) hO [o0 (.aload_n 0), oI (.bipush 60) 60] (by decide +kernel) (show tWG K B 0 0 S I23 J24 175 [some (vR 61), none, none, none] [vI 60, vR 61] from ?_)
    refine gCVi_z hO (M12_isSign t0) hc12_isSign (idx := 334) (w := 824) (by decide +kernel) hR (by omega) t0 ⟨by decide, rfl⟩ (vs := [vI 60]) (st := []) ⟨rfl, Nat.le_of_ble_eq_true rfl, rfl⟩ (by decide +kernel) (fun z28 => ?_)
    have hj30 : ∀ (m31 : Int32), m31 = (if (V12_isSign S I23 J24 60) = 0 then (if (V12_isSign S I23 J24 62) = 0 then (27 : Int32) else 26) else 25) → tWG K B 0 0 S I23 J24 202 [some (vR 61), none, none, none] [vI m31] := by
      intro m31 em31
      subst em31
      refine gBk (pe := 207) hO [o0 (.istore_n 2), o0 (.aload_n 0), o0 (.iload_n 2), oI (.bipush 27) 27] (by decide +kernel) (And.intro (Nat.le_of_ble_eq_true rfl) (show tWG K B 0 0 S I23 J24 207 [some (vR 61), none, some (vI (if (V12_isSign S I23 J24 60) = 0 then (if (V12_isSign S I23 J24 62) = 0 then (27 : Int32) else 26) else 25)), none] [vI 27, vI (if (V12_isSign S I23 J24 60) = 0 then (if (V12_isSign S I23 J24 62) = 0 then (27 : Int32) else 26) else 25), vR 61] from ?_))
      have hj36 : ∀ (m37 : Int32), m37 = (if (if (V12_isSign S I23 J24 60) = 0 then (if (V12_isSign S I23 J24 62) = 0 then (27 : Int32) else 26) else 25) = 27 then (if (V12_isSign S I23 J24 61) = 0 then (0 : Int32) else 1) else 1) → tWG K B 0 0 S I23 J24 224 [some (vR 61), none, some (vI (if (V12_isSign S I23 J24 60) = 0 then (if (V12_isSign S I23 J24 62) = 0 then (27 : Int32) else 26) else 25)), none] [vI m37, vR 61] := by
        intro m37 em37
        subst em37
        refine gCVv_c hO (M12_must t0 h) hc12_must (idx := 296) (w := 805) (by decide +kernel) hR (by omega) t0 ⟨by decide, rfl⟩ (vs := [vI (if (if (V12_isSign S I23 J24 60) = 0 then (if (V12_isSign S I23 J24 62) = 0 then (27 : Int32) else 26) else 25) = 27 then (if (V12_isSign S I23 J24 61) = 0 then (0 : Int32) else 1) else 1)]) (st := []) ⟨rfl, Nat.le_of_ble_eq_true rfl, rfl⟩ (by decide +kernel) (fun I41 J42 h => ?_)
        refine gBk (pe := 231) hO [o0 (.aload_n 0), oF (.getfield 261) 12 19 766 0] (by decide +kernel) (And.intro t0 (show tWG K B 0 0 S I41 J42 231 [some (vR 61), none, some (vI (if (V12_isSign S I23 J24 60) = 0 then (if (V12_isSign S I23 J24 62) = 0 then (27 : Int32) else 26) else 25)), none] [vI (I41 61 19)] from ?_))
        refine gIfNe hO (off := 14) (tgt := 245) (by decide +kernel) (by decide) (fun c43 => ?_) (fun c43 => ?_)
        · have h := h.1 c43
          exact gWeak (L' := [none, none, none, none]) trivial (W12_behindSum_245 hO hR hG t0 hQ h)
        · have h := h.2 c43
          refine gBk (pe := 236) hO [o0 (.aload_n 0), oI (.iconst 5) 5] (by decide +kernel) (show tWG K B 0 0 S I41 J42 236 [some (vR 61), none, some (vI (if (V12_isSign S I23 J24 60) = 0 then (if (V12_isSign S I23 J24 62) = 0 then (27 : Int32) else 26) else 25)), none] [vI 5, vR 61] from ?_)
          refine gCVv_c hO (M12_settle t0 h) hc12_settle (idx := 369) (w := 866) (by decide +kernel) hR (by omega) t0 ⟨by decide, rfl⟩ (vs := [vI 5]) (st := []) ⟨rfl, Nat.le_of_ble_eq_true rfl, rfl⟩ (by decide +kernel) (fun I44 J45 h => ?_)
          refine gBk (pe := 242) hO [o0 (.aload_n 0), o0 (.iload_n 2), oI (.iconst 0) 0] (by decide +kernel) (show tWG K B 0 0 S I44 J45 242 [some (vR 61), none, some (vI (if (V12_isSign S I23 J24 60) = 0 then (if (V12_isSign S I23 J24 62) = 0 then (27 : Int32) else 26) else 25)), none] [vI 0, vI (if (V12_isSign S I23 J24 60) = 0 then (if (V12_isSign S I23 J24 62) = 0 then (27 : Int32) else 26) else 25), vR 61] from ?_)
          refine gCVv_c hO (M12_push t0 h) hc12_push (idx := 328) (w := 820) (by decide +kernel) hR (by omega) t0 ⟨by decide, rfl⟩ (vs := [vI (if (V12_isSign S I23 J24 60) = 0 then (if (V12_isSign S I23 J24 62) = 0 then (27 : Int32) else 26) else 25), vI 0]) (st := []) ⟨rfl, Nat.le_of_ble_eq_true rfl, rfl⟩ (by decide +kernel) (fun I46 J47 h => ?_)
          exact gWeak (L' := [none, none, none, none]) trivial (W12_behindSum_245 hO hR hG t0 hQ h)
      refine gIcNe hO (off := 12) (tgt := 219) (by decide +kernel) (by decide) (fun c38 => ?_) (fun c38 => ?_)
      · refine gBk (pe := 224) hO [oI (.iconst 1) 1, o0 (.goto 4)] (by decide +kernel) (show tWG K B 0 0 S I23 J24 224 [some (vR 61), none, some (vI (if (V12_isSign S I23 J24 60) = 0 then (if (V12_isSign S I23 J24 62) = 0 then (27 : Int32) else 26) else 25)), none] [vI 1, vR 61] from ?_)
        exact (hj36 _ (Eq.symm (if_neg c38)))
      · refine gBk (pe := 213) hO [o0 (.aload_n 0), oI (.bipush 61) 61] (by decide +kernel) (show tWG K B 0 0 S I23 J24 213 [some (vR 61), none, some (vI (if (V12_isSign S I23 J24 60) = 0 then (if (V12_isSign S I23 J24 62) = 0 then (27 : Int32) else 26) else 25)), none] [vI 61, vR 61, vR 61] from ?_)
        refine gCVi_z hO (M12_isSign t0) hc12_isSign (idx := 334) (w := 824) (by decide +kernel) hR (by omega) t0 ⟨by decide, rfl⟩ (vs := [vI 61]) (st := [vR 61]) ⟨rfl, Nat.le_of_ble_eq_true rfl, rfl⟩ (by decide +kernel) (fun z39 => ?_)
        refine gIfEq hO (off := 7) (tgt := 223) (by decide +kernel) (by decide) (fun c40 => ?_) (fun c40 => ?_)
        · refine gBk (pe := 224) hO [oI (.iconst 0) 0] (by decide +kernel) (show tWG K B 0 0 S I23 J24 224 [some (vR 61), none, some (vI (if (V12_isSign S I23 J24 60) = 0 then (if (V12_isSign S I23 J24 62) = 0 then (27 : Int32) else 26) else 25)), none] [vI 0, vR 61] from ?_)
          exact (hj36 _ (Eq.symm ((if_pos c38).trans (if_pos c40))))
        · refine gBk (pe := 224) hO [oI (.iconst 1) 1, o0 (.goto 4)] (by decide +kernel) (show tWG K B 0 0 S I23 J24 224 [some (vR 61), none, some (vI (if (V12_isSign S I23 J24 60) = 0 then (if (V12_isSign S I23 J24 62) = 0 then (27 : Int32) else 26) else 25)), none] [vI 1, vR 61] from ?_)
          exact (hj36 _ (Eq.symm ((if_pos c38).trans (if_neg c40))))
    refine gIfEq hO (off := 8) (tgt := 186) (by decide +kernel) (by decide) (fun c32 => ?_) (fun c32 => ?_)
    · refine gBk (pe := 189) hO [o0 (.aload_n 0), oI (.bipush 62) 62] (by decide +kernel) (show tWG K B 0 0 S I23 J24 189 [some (vR 61), none, none, none] [vI 62, vR 61] from ?_)
      refine gCVi_z hO (M12_isSign t0) hc12_isSign (idx := 334) (w := 824) (by decide +kernel) hR (by omega) t0 ⟨by decide, rfl⟩ (vs := [vI 62]) (st := []) ⟨rfl, Nat.le_of_ble_eq_true rfl, rfl⟩ (by decide +kernel) (fun z33 => ?_)
      refine gIfEq hO (off := 8) (tgt := 200) (by decide +kernel) (by decide) (fun c34 => ?_) (fun c34 => ?_)
      · refine gBk (pe := 202) hO [oI (.bipush 27) 27] (by decide +kernel) (show tWG K B 0 0 S I23 J24 202 [some (vR 61), none, none, none] [vI 27] from ?_)
        exact (hj30 _ (Eq.symm ((if_pos c32).trans (if_pos c34))))
      · refine gBk (pe := 202) hO [oI (.bipush 26) 26, o0 (.goto 5)] (by decide +kernel) (show tWG K B 0 0 S I23 J24 202 [some (vR 61), none, none, none] [vI 26] from ?_)
        exact (hj30 _ (Eq.symm ((if_pos c32).trans (if_neg c34))))
    · refine gBk (pe := 202) hO [oI (.bipush 25) 25, o0 (.goto 19)] (by decide +kernel) (show tWG K B 0 0 S I23 J24 202 [some (vR 61), none, none, none] [vI 25] from ?_)
      exact (hj30 _ (Eq.symm (if_neg c32)))
  · have h := h.2 c27
    refine gBk (pe := 171) hO [oI (.iconst 2) 2] (by decide +kernel) (show tWG K B 0 0 S I23 J24 171 [some (vR 61), none, none, none] [vI 2] from ?_)
    exact gIret hO hQ (by decide +kernel) ⟨rfl, h⟩
set_option maxRecDepth 100000 in
theorem W12_behindSum_150 {K : tK} {B : tB} {S : tSH} {MC MS : Nat} (hO : tKO K B RX12 cX12_behindSum 4) (hR : kR K = tRm 5 MC MS) (hG : tGr S) {n : Nat} (t0 : ty S 61 12) {k : Int32 → tHI → tHJ → Prop} (hQ : tRet K B (tQi B (tPi S k)) 0 0 (some .int)) {I : tHI} {J : tHJ} (h : F12_behindSum_150 n S k I J) : tWG K B 0 0 S I J 150 [none, none, none, none] [] := by
  refine gBk (pe := 151) hO [oI (.iconst 3) 3] (by decide +kernel) (show tWG K B 0 0 S I J 151 [none, none, none, none] [vI 3] from ?_)
  exact gIret hO hQ (by decide +kernel) ⟨rfl, h⟩
set_option maxRecDepth 20000 in
theorem hc12_behindSum : tCV yX12_behindSum cX12_behindSum 4 (some .int) 1 := ⟨⟨(List.mem_of_getElem? (i := 862) rfl), (List.mem_of_getElem? (i := 5) (by decide +kernel)), by decide +kernel⟩, (List.mem_of_getElem? (i := 860) (by decide +kernel)), (List.mem_of_getElem? (i := 861) (by decide +kernel))⟩
set_option maxRecDepth 100000 in
theorem M12_behindSum {l : Launch} {B : tB} {S : tSH} {I : tHI} {J : tHJ} {v1 : Int32} {n : Nat} {k : Int32 → tHI → tHJ → Prop} (t0 : ty S 61 12) (h : F12_behindSum n S I J v1 k) : Met l yX12_behindSum (tWs yX12_behindSum cX12_behindSum 4 (some .int)) (tRm 5 0 0) (tPc B [vR 61, vI v1] S I J) (tQi B (tPi S k)) 0 0 (tA B) :=
  tEntry (by decide +kernel) [some (vR 61), some (vI v1), none, none] rfl rfl (Nat.le_of_ble_eq_true rfl) (fun K hl hR hO hQ hG => by
  subst hl
  refine gBk (pe := 3) hO [o0 (.aload_n 0), oI (.bipush 43) 43] (by decide +kernel) (show tWG K B 0 0 S I J 3 [some (vR 61), some (vI v1), none, none] [vI 43, vR 61] from ?_)
  refine gCVi_z hO (M12_isSign t0) hc12_isSign (idx := 334) (w := 824) (by decide +kernel) hR (by omega) t0 ⟨by decide, rfl⟩ (vs := [vI 43]) (st := []) ⟨rfl, Nat.le_of_ble_eq_true rfl, rfl⟩ (by decide +kernel) (fun z1 => ?_)
  have hj6 : ∀ (m7 : Int32), m7 = (if (V12_isSign S I J 43) = 0 then (if (V12_isSign S I J 45) = 0 then (if (V12_isSign S I J 42) = 0 then (if (V12_isSign S I J 47) = 0 then (if (V12_isSign S I J 37) = 0 then ((-1) : Int32) else 24) else 23) else 22) else 21) else 20) → tWG K B 0 0 S I J 71 [some (vR 61), some (vI v1), none, none] [vI m7] := by
    intro m7 em7
    subst em7
    refine gBk (pe := 74) hO [o0 (.istore_n 2), o0 (.iload_n 2), oI (.iconst (-1)) (-1)] (by decide +kernel) (And.intro (Nat.le_of_ble_eq_true rfl) (show tWG K B 0 0 S I J 74 [some (vR 61), some (vI v1), some (vI (if (V12_isSign S I J 43) = 0 then (if (V12_isSign S I J 45) = 0 then (if (V12_isSign S I J 42) = 0 then (if (V12_isSign S I J 47) = 0 then (if (V12_isSign S I J 37) = 0 then ((-1) : Int32) else 24) else 23) else 22) else 21) else 20)), none] [vI (-1), vI (if (V12_isSign S I J 43) = 0 then (if (V12_isSign S I J 45) = 0 then (if (V12_isSign S I J 42) = 0 then (if (V12_isSign S I J 47) = 0 then (if (V12_isSign S I J 37) = 0 then ((-1) : Int32) else 24) else 23) else 22) else 21) else 20)] from ?_))
    refine gIcEq hO (off := 23) (tgt := 97) (by decide +kernel) (by decide) (fun c17 => ?_) (fun c17 => ?_)
    · have h := h.1 c17
      refine gBk (pe := 98) hO [o0 (.aload_n 0)] (by decide +kernel) (show tWG K B 0 0 S I J 98 [some (vR 61), some (vI v1), some (vI (if (V12_isSign S I J 43) = 0 then (if (V12_isSign S I J 45) = 0 then (if (V12_isSign S I J 42) = 0 then (if (V12_isSign S I J 47) = 0 then (if (V12_isSign S I J 37) = 0 then ((-1) : Int32) else 24) else 23) else 22) else 21) else 20)), none] [vR 61] from ?_)
      refine gCVi_c hO (M12_inner t0 h) hc12_inner (idx := 372) (w := 870) (by decide +kernel) hR (by omega) t0 ⟨by decide, rfl⟩ (vs := []) (st := []) ⟨rfl, Nat.le_of_ble_eq_true rfl, rfl⟩ (by decide +kernel) (fun x20 I18 J19 h => ?_)
      refine gBk (pe := 105) hO [o0 (.istore_n 3), o0 (.iload_n 3), oI (.bipush 32) 32] (by decide +kernel) (And.intro (Nat.le_of_ble_eq_true rfl) (show tWG K B 0 0 S I18 J19 105 [some (vR 61), some (vI v1), some (vI (if (V12_isSign S I J 43) = 0 then (if (V12_isSign S I J 45) = 0 then (if (V12_isSign S I J 42) = 0 then (if (V12_isSign S I J 47) = 0 then (if (V12_isSign S I J 37) = 0 then ((-1) : Int32) else 24) else 23) else 22) else 21) else 20)), some (vI x20)] [vI 32, vI x20] from ?_))
      refine gIcNe hO (off := 47) (tgt := 152) (by decide +kernel) (by decide) (fun c21 => ?_) (fun c21 => ?_)
      · have h := h.1 c21
        refine gBk (pe := 154) hO [o0 (.iload_n 3), oI (.iconst (-1)) (-1)] (by decide +kernel) (show tWG K B 0 0 S I18 J19 154 [some (vR 61), some (vI v1), some (vI (if (V12_isSign S I J 43) = 0 then (if (V12_isSign S I J 45) = 0 then (if (V12_isSign S I J 42) = 0 then (if (V12_isSign S I J 47) = 0 then (if (V12_isSign S I J 37) = 0 then ((-1) : Int32) else 24) else 23) else 22) else 21) else 20)), some (vI x20)] [vI (-1), vI x20] from ?_)
        refine gIcNe hO (off := 9) (tgt := 163) (by decide +kernel) (by decide) (fun c22 => ?_) (fun c22 => ?_)
        · have h := h.1 c22
          exact gWeak (L' := [some (vR 61), none, none, none]) ⟨rfl, trivial⟩ (W12_behindSum_163 hO hR hG t0 hQ h)
        · have h := h.2 c22
          refine gBk (pe := 158) hO [o0 (.iload_n 1)] (by decide +kernel) (show tWG K B 0 0 S I18 J19 158 [some (vR 61), some (vI v1), some (vI (if (V12_isSign S I J 43) = 0 then (if (V12_isSign S I J 45) = 0 then (if (V12_isSign S I J 42) = 0 then (if (V12_isSign S I J 47) = 0 then (if (V12_isSign S I J 37) = 0 then ((-1) : Int32) else 24) else 23) else 22) else 21) else 20)), some (vI x20)] [vI v1] from ?_)
          refine gIfNe hO (off := 5) (tgt := 163) (by decide +kernel) (by decide) (fun c48 => ?_) (fun c48 => ?_)
          · have h := h.1 c48
            exact gWeak (L' := [some (vR 61), none, none, none]) ⟨rfl, trivial⟩ (W12_behindSum_163 hO hR hG t0 hQ h)
          · have h := h.2 c48
            refine gBk (pe := 162) hO [oI (.iconst 4) 4] (by decide +kernel) (show tWG K B 0 0 S I18 J19 162 [some (vR 61), some (vI v1), some (vI (if (V12_isSign S I J 43) = 0 then (if (V12_isSign S I J 45) = 0 then (if (V12_isSign S I J 42) = 0 then (if (V12_isSign S I J 47) = 0 then (if (V12_isSign S I J 37) = 0 then ((-1) : Int32) else 24) else 23) else 22) else 21) else 20)), some (vI x20)] [vI 4] from ?_)
            exact gIret hO hQ (by decide +kernel) ⟨rfl, h⟩
      · have h := h.2 c21
        refine gBk (pe := 112) hO [o0 (.aload_n 0), o0 (.aload_n 0), oI (.bipush 93) 93] (by decide +kernel) (show tWG K B 0 0 S I18 J19 112 [some (vR 61), some (vI v1), some (vI (if (V12_isSign S I J 43) = 0 then (if (V12_isSign S I J 45) = 0 then (if (V12_isSign S I J 42) = 0 then (if (V12_isSign S I J 47) = 0 then (if (V12_isSign S I J 37) = 0 then ((-1) : Int32) else 24) else 23) else 22) else 21) else 20)), some (vI x20)] [vI 93, vR 61, vR 61] from ?_)
        refine gCVi_z hO (M12_isSign t0) hc12_isSign (idx := 334) (w := 824) (by decide +kernel) hR (by omega) t0 ⟨by decide, rfl⟩ (vs := [vI 93]) (st := [vR 61]) ⟨rfl, Nat.le_of_ble_eq_true rfl, rfl⟩ (by decide +kernel) (fun z49 => ?_)
        refine gCVv_c hO (M12_must t0 h) hc12_must (idx := 296) (w := 805) (by decide +kernel) hR (by omega) t0 ⟨by decide, rfl⟩ (vs := [vI (V12_isSign S I18 J19 93)]) (st := []) ⟨rfl, Nat.le_of_ble_eq_true rfl, rfl⟩ (by decide +kernel) (fun I50 J51 h => ?_)
        refine gBk (pe := 122) hO [o0 (.aload_n 0), oF (.getfield 261) 12 19 766 0] (by decide +kernel) (And.intro t0 (show tWG K B 0 0 S I50 J51 122 [some (vR 61), some (vI v1), some (vI (if (V12_isSign S I J 43) = 0 then (if (V12_isSign S I J 45) = 0 then (if (V12_isSign S I J 42) = 0 then (if (V12_isSign S I J 47) = 0 then (if (V12_isSign S I J 37) = 0 then ((-1) : Int32) else 24) else 23) else 22) else 21) else 20)), some (vI x20)] [vI (I50 61 19)] from ?_))
        refine gIfNe hO (off := 28) (tgt := 150) (by decide +kernel) (by decide) (fun c52 => ?_) (fun c52 => ?_)
        · have h := h.1 c52
          exact gWeak (L' := [none, none, none, none]) trivial (W12_behindSum_150 hO hR hG t0 hQ h)
        · have h := h.2 c52
          refine gBk (pe := 127) hO [o0 (.aload_n 0), oI (.iconst 5) 5] (by decide +kernel) (show tWG K B 0 0 S I50 J51 127 [some (vR 61), some (vI v1), some (vI (if (V12_isSign S I J 43) = 0 then (if (V12_isSign S I J 45) = 0 then (if (V12_isSign S I J 42) = 0 then (if (V12_isSign S I J 47) = 0 then (if (V12_isSign S I J 37) = 0 then ((-1) : Int32) else 24) else 23) else 22) else 21) else 20)), some (vI x20)] [vI 5, vR 61] from ?_)
          refine gCVv_c hO (M12_settle t0 h) hc12_settle (idx := 369) (w := 866) (by decide +kernel) hR (by omega) t0 ⟨by decide, rfl⟩ (vs := [vI 5]) (st := []) ⟨rfl, Nat.le_of_ble_eq_true rfl, rfl⟩ (by decide +kernel) (fun I53 J54 h => ?_)
          refine gBk (pe := 150) hO [o0 (.aload_n 0), o0 .dup, oF (.getfield 303) 12 29 813 0, oI (.iconst 1) 1, o0 .isub, oF (.putfield 303) 12 29 813 0, o0 (.aload_n 0), o0 .dup, oF (.getfield 325) 12 30 814 0, oI (.iconst 1) 1, o0 .isub, oF (.putfield 325) 12 30 814 0] (by decide +kernel) (And.intro t0 (And.intro t0 (And.intro t0 (And.intro t0 (show tWG K B 0 0 S (uI (uI I53 61 29 ((I53 61 29) - 1)) 61 30 (((uI I53 61 29 ((I53 61 29) - 1)) 61 30) - 1)) J54 150 [some (vR 61), some (vI v1), some (vI (if (V12_isSign S I J 43) = 0 then (if (V12_isSign S I J 45) = 0 then (if (V12_isSign S I J 42) = 0 then (if (V12_isSign S I J 47) = 0 then (if (V12_isSign S I J 37) = 0 then ((-1) : Int32) else 24) else 23) else 22) else 21) else 20)), some (vI x20)] [] from ?_)))))
          exact gWeak (L' := [none, none, none, none]) trivial (W12_behindSum_150 hO hR hG t0 hQ h)
    · have h := h.2 c17
      refine gBk (pe := 79) hO [o0 (.aload_n 0), o0 (.iload_n 2)] (by decide +kernel) (show tWG K B 0 0 S I J 79 [some (vR 61), some (vI v1), some (vI (if (V12_isSign S I J 43) = 0 then (if (V12_isSign S I J 45) = 0 then (if (V12_isSign S I J 42) = 0 then (if (V12_isSign S I J 47) = 0 then (if (V12_isSign S I J 37) = 0 then ((-1) : Int32) else 24) else 23) else 22) else 21) else 20)), none] [vI (if (V12_isSign S I J 43) = 0 then (if (V12_isSign S I J 45) = 0 then (if (V12_isSign S I J 42) = 0 then (if (V12_isSign S I J 47) = 0 then (if (V12_isSign S I J 37) = 0 then ((-1) : Int32) else 24) else 23) else 22) else 21) else 20), vR 61] from ?_)
      refine gCSi_p hO (M12_binds) hc12_binds (idx := 306) (w := 863) (by decide +kernel) hR (by omega) (vs := [vI (if (V12_isSign S I J 43) = 0 then (if (V12_isSign S I J 45) = 0 then (if (V12_isSign S I J 42) = 0 then (if (V12_isSign S I J 47) = 0 then (if (V12_isSign S I J 37) = 0 then ((-1) : Int32) else 24) else 23) else 22) else 21) else 20)]) (st := [vR 61]) ⟨rfl, Nat.le_of_ble_eq_true rfl, rfl⟩ (by decide +kernel) ?_
      refine gCVv_c hO (M12_settle t0 h) hc12_settle (idx := 369) (w := 866) (by decide +kernel) hR (by omega) t0 ⟨by decide, rfl⟩ (vs := [vI (V12_binds (if (V12_isSign S I J 43) = 0 then (if (V12_isSign S I J 45) = 0 then (if (V12_isSign S I J 42) = 0 then (if (V12_isSign S I J 47) = 0 then (if (V12_isSign S I J 37) = 0 then ((-1) : Int32) else 24) else 23) else 22) else 21) else 20))]) (st := []) ⟨rfl, Nat.le_of_ble_eq_true rfl, rfl⟩ (by decide +kernel) (fun I55 J56 h => ?_)
      refine gBk (pe := 88) hO [o0 (.aload_n 0), o0 (.iload_n 2), oI (.iconst 0) 0] (by decide +kernel) (show tWG K B 0 0 S I55 J56 88 [some (vR 61), some (vI v1), some (vI (if (V12_isSign S I J 43) = 0 then (if (V12_isSign S I J 45) = 0 then (if (V12_isSign S I J 42) = 0 then (if (V12_isSign S I J 47) = 0 then (if (V12_isSign S I J 37) = 0 then ((-1) : Int32) else 24) else 23) else 22) else 21) else 20)), none] [vI 0, vI (if (V12_isSign S I J 43) = 0 then (if (V12_isSign S I J 45) = 0 then (if (V12_isSign S I J 42) = 0 then (if (V12_isSign S I J 47) = 0 then (if (V12_isSign S I J 37) = 0 then ((-1) : Int32) else 24) else 23) else 22) else 21) else 20), vR 61] from ?_)
      refine gCVv_c hO (M12_push t0 h) hc12_push (idx := 328) (w := 820) (by decide +kernel) hR (by omega) t0 ⟨by decide, rfl⟩ (vs := [vI (if (V12_isSign S I J 43) = 0 then (if (V12_isSign S I J 45) = 0 then (if (V12_isSign S I J 42) = 0 then (if (V12_isSign S I J 47) = 0 then (if (V12_isSign S I J 37) = 0 then ((-1) : Int32) else 24) else 23) else 22) else 21) else 20), vI 0]) (st := []) ⟨rfl, Nat.le_of_ble_eq_true rfl, rfl⟩ (by decide +kernel) (fun I57 J58 h => ?_)
      refine gBk (pe := 92) hO [o0 (.aload_n 0)] (by decide +kernel) (show tWG K B 0 0 S I57 J58 92 [some (vR 61), some (vI v1), some (vI (if (V12_isSign S I J 43) = 0 then (if (V12_isSign S I J 45) = 0 then (if (V12_isSign S I J 42) = 0 then (if (V12_isSign S I J 47) = 0 then (if (V12_isSign S I J 37) = 0 then ((-1) : Int32) else 24) else 23) else 22) else 21) else 20)), none] [vR 61] from ?_)
      refine gCVv_c hO (M12_next t0 h) hc12_next (idx := 265) (w := 779) (by decide +kernel) hR (by omega) t0 ⟨by decide, rfl⟩ (vs := []) (st := []) ⟨rfl, Nat.le_of_ble_eq_true rfl, rfl⟩ (by decide +kernel) (fun I59 J60 h => ?_)
      refine gBk (pe := 96) hO [oI (.iconst 1) 1] (by decide +kernel) (show tWG K B 0 0 S I59 J60 96 [some (vR 61), some (vI v1), some (vI (if (V12_isSign S I J 43) = 0 then (if (V12_isSign S I J 45) = 0 then (if (V12_isSign S I J 42) = 0 then (if (V12_isSign S I J 47) = 0 then (if (V12_isSign S I J 37) = 0 then ((-1) : Int32) else 24) else 23) else 22) else 21) else 20)), none] [vI 1] from ?_)
      exact gIret hO hQ (by decide +kernel) ⟨rfl, h⟩
  refine gIfEq hO (off := 8) (tgt := 14) (by decide +kernel) (by decide) (fun c8 => ?_) (fun c8 => ?_)
  · refine gBk (pe := 17) hO [o0 (.aload_n 0), oI (.bipush 45) 45] (by decide +kernel) (show tWG K B 0 0 S I J 17 [some (vR 61), some (vI v1), none, none] [vI 45, vR 61] from ?_)
    refine gCVi_z hO (M12_isSign t0) hc12_isSign (idx := 334) (w := 824) (by decide +kernel) hR (by omega) t0 ⟨by decide, rfl⟩ (vs := [vI 45]) (st := []) ⟨rfl, Nat.le_of_ble_eq_true rfl, rfl⟩ (by decide +kernel) (fun z9 => ?_)
    refine gIfEq hO (off := 8) (tgt := 28) (by decide +kernel) (by decide) (fun c10 => ?_) (fun c10 => ?_)
    · refine gBk (pe := 31) hO [o0 (.aload_n 0), oI (.bipush 42) 42] (by decide +kernel) (show tWG K B 0 0 S I J 31 [some (vR 61), some (vI v1), none, none] [vI 42, vR 61] from ?_)
      refine gCVi_z hO (M12_isSign t0) hc12_isSign (idx := 334) (w := 824) (by decide +kernel) hR (by omega) t0 ⟨by decide, rfl⟩ (vs := [vI 42]) (st := []) ⟨rfl, Nat.le_of_ble_eq_true rfl, rfl⟩ (by decide +kernel) (fun z11 => ?_)
      refine gIfEq hO (off := 8) (tgt := 42) (by decide +kernel) (by decide) (fun c12 => ?_) (fun c12 => ?_)
      · refine gBk (pe := 45) hO [o0 (.aload_n 0), oI (.bipush 47) 47] (by decide +kernel) (show tWG K B 0 0 S I J 45 [some (vR 61), some (vI v1), none, none] [vI 47, vR 61] from ?_)
        refine gCVi_z hO (M12_isSign t0) hc12_isSign (idx := 334) (w := 824) (by decide +kernel) hR (by omega) t0 ⟨by decide, rfl⟩ (vs := [vI 47]) (st := []) ⟨rfl, Nat.le_of_ble_eq_true rfl, rfl⟩ (by decide +kernel) (fun z13 => ?_)
        refine gIfEq hO (off := 8) (tgt := 56) (by decide +kernel) (by decide) (fun c14 => ?_) (fun c14 => ?_)
        · refine gBk (pe := 59) hO [o0 (.aload_n 0), oI (.bipush 37) 37] (by decide +kernel) (show tWG K B 0 0 S I J 59 [some (vR 61), some (vI v1), none, none] [vI 37, vR 61] from ?_)
          refine gCVi_z hO (M12_isSign t0) hc12_isSign (idx := 334) (w := 824) (by decide +kernel) hR (by omega) t0 ⟨by decide, rfl⟩ (vs := [vI 37]) (st := []) ⟨rfl, Nat.le_of_ble_eq_true rfl, rfl⟩ (by decide +kernel) (fun z15 => ?_)
          refine gIfEq hO (off := 8) (tgt := 70) (by decide +kernel) (by decide) (fun c16 => ?_) (fun c16 => ?_)
          · refine gBk (pe := 71) hO [oI (.iconst (-1)) (-1)] (by decide +kernel) (show tWG K B 0 0 S I J 71 [some (vR 61), some (vI v1), none, none] [vI (-1)] from ?_)
            exact (hj6 _ (Eq.symm ((if_pos c8).trans ((if_pos c10).trans ((if_pos c12).trans ((if_pos c14).trans (if_pos c16)))))))
          · refine gBk (pe := 71) hO [oI (.bipush 24) 24, o0 (.goto 4)] (by decide +kernel) (show tWG K B 0 0 S I J 71 [some (vR 61), some (vI v1), none, none] [vI 24] from ?_)
            exact (hj6 _ (Eq.symm ((if_pos c8).trans ((if_pos c10).trans ((if_pos c12).trans ((if_pos c14).trans (if_neg c16)))))))
        · refine gBk (pe := 71) hO [oI (.bipush 23) 23, o0 (.goto 18)] (by decide +kernel) (show tWG K B 0 0 S I J 71 [some (vR 61), some (vI v1), none, none] [vI 23] from ?_)
          exact (hj6 _ (Eq.symm ((if_pos c8).trans ((if_pos c10).trans ((if_pos c12).trans (if_neg c14))))))
      · refine gBk (pe := 71) hO [oI (.bipush 22) 22, o0 (.goto 32)] (by decide +kernel) (show tWG K B 0 0 S I J 71 [some (vR 61), some (vI v1), none, none] [vI 22] from ?_)
        exact (hj6 _ (Eq.symm ((if_pos c8).trans ((if_pos c10).trans (if_neg c12)))))
    · refine gBk (pe := 71) hO [oI (.bipush 21) 21, o0 (.goto 46)] (by decide +kernel) (show tWG K B 0 0 S I J 71 [some (vR 61), some (vI v1), none, none] [vI 21] from ?_)
      exact (hj6 _ (Eq.symm ((if_pos c8).trans (if_neg c10))))
  · refine gBk (pe := 71) hO [oI (.bipush 20) 20, o0 (.goto 60)] (by decide +kernel) (show tWG K B 0 0 S I J 71 [some (vR 61), some (vI v1), none, none] [vI 20] from ?_)
    exact (hj6 _ (Eq.symm (if_neg c8))))
set_option maxRecDepth 100000 in
theorem W12_behindTest_22 {K : tK} {B : tB} {S : tSH} {MC MS : Nat} (hO : tKO K B RX12 cX12_behindTest 2) (hR : kR K = tRm 5 MC MS) (hG : tGr S) {n : Nat} (t0 : ty S 61 12) {k : Int32 → tHI → tHJ → Prop} (hQ : tRet K B (tQi B (tPi S k)) 0 0 (some .int)) {I : tHI} {J : tHJ} {v1 : Int32} (h : F12_behindTest_22 n S k I J v1) : tWG K B 0 0 S I J 22 [some (vR 61), some (vI v1)] [] := by
  refine gBk (pe := 24) hO [o0 (.aload_n 0), o0 (.iload_n 1)] (by decide +kernel) (show tWG K B 0 0 S I J 24 [some (vR 61), some (vI v1)] [vI v1, vR 61] from ?_)
  have hj3 : ∀ (m4 : Int32), m4 = (if v1 = 0 then (1 : Int32) else 2) → tWG K B 0 0 S I J 32 [some (vR 61), some (vI v1)] [vI m4, vR 61] := by
    intro m4 em4
    subst em4
    refine gCVv_c hO (M12_settle t0 h) hc12_settle (idx := 369) (w := 866) (by decide +kernel) hR (by omega) t0 ⟨by decide, rfl⟩ (vs := [vI (if v1 = 0 then (1 : Int32) else 2)]) (st := []) ⟨rfl, Nat.le_of_ble_eq_true rfl, rfl⟩ (by decide +kernel) (fun I6 J7 h => ?_)
    refine gBk (pe := 37) hO [o0 (.aload_n 0), o0 (.iload_n 1)] (by decide +kernel) (show tWG K B 0 0 S I6 J7 37 [some (vR 61), some (vI v1)] [vI v1, vR 61] from ?_)
    have hj8 : ∀ (m9 : Int32), m9 = (if v1 = 0 then (30 : Int32) else 29) → tWG K B 0 0 S I6 J7 47 [some (vR 61), some (vI v1)] [vI m9, vR 61] := by
      intro m9 em9
      subst em9
      refine gBk (pe := 51) hO [o0 (.aload_n 0), oF (.getfield 300) 12 23 768 0] (by decide +kernel) (And.intro t0 (show tWG K B 0 0 S I6 J7 51 [some (vR 61), some (vI v1)] [vI (I6 61 23), vI (if v1 = 0 then (30 : Int32) else 29), vR 61] from ?_))
      refine gCVv_c hO (M12_push t0 h) hc12_push (idx := 328) (w := 820) (by decide +kernel) hR (by omega) t0 ⟨by decide, rfl⟩ (vs := [vI (if v1 = 0 then (30 : Int32) else 29), vI (I6 61 23)]) (st := []) ⟨rfl, Nat.le_of_ble_eq_true rfl, rfl⟩ (by decide +kernel) (fun I11 J12 h => ?_)
      refine gBk (pe := 56) hO [o0 (.aload_n 0), o0 (.iload_n 1)] (by decide +kernel) (show tWG K B 0 0 S I11 J12 56 [some (vR 61), some (vI v1)] [vI v1, vR 61] from ?_)
      have hj13 : ∀ (m14 : Int32), m14 = (if v1 = 0 then (30 : Int32) else 29) → tWG K B 0 0 S I11 J12 66 [some (vR 61), none] [vI m14, vR 61] := by
        intro m14 em14
        subst em14
        refine gBk (pe := 67) hO [oI (.iconst 0) 0] (by decide +kernel) (show tWG K B 0 0 S I11 J12 67 [some (vR 61), none] [vI 0, vI (if v1 = 0 then (30 : Int32) else 29), vR 61] from ?_)
        refine gCVv_c hO (M12_emit t0 h) hc12_emit (idx := 309) (w := 851) (by decide +kernel) hR (by omega) t0 ⟨by decide, rfl⟩ (vs := [vI (if v1 = 0 then (30 : Int32) else 29), vI 0]) (st := []) ⟨rfl, Nat.le_of_ble_eq_true rfl, rfl⟩ (by decide +kernel) (fun I16 J17 h => ?_)
        refine gBk (pe := 71) hO [o0 (.aload_n 0)] (by decide +kernel) (show tWG K B 0 0 S I16 J17 71 [some (vR 61), none] [vR 61] from ?_)
        refine gCVv_c hO (M12_next t0 h) hc12_next (idx := 265) (w := 779) (by decide +kernel) hR (by omega) t0 ⟨by decide, rfl⟩ (vs := []) (st := []) ⟨rfl, Nat.le_of_ble_eq_true rfl, rfl⟩ (by decide +kernel) (fun I18 J19 h => ?_)
        refine gBk (pe := 75) hO [oI (.iconst 0) 0] (by decide +kernel) (show tWG K B 0 0 S I18 J19 75 [some (vR 61), none] [vI 0] from ?_)
        exact gIret hO hQ (by decide +kernel) ⟨rfl, h⟩
      refine gIfEq hO (off := 8) (tgt := 64) (by decide +kernel) (by decide) (fun c15 => ?_) (fun c15 => ?_)
      · refine gBk (pe := 66) hO [oI (.bipush 30) 30] (by decide +kernel) (show tWG K B 0 0 S I11 J12 66 [some (vR 61), some (vI v1)] [vI 30, vR 61] from ?_)
        exact gWeak (L' := [some (vR 61), none]) ⟨rfl, trivial⟩ (hj13 _ (Eq.symm (if_pos c15)))
      · refine gBk (pe := 66) hO [oI (.bipush 29) 29, o0 (.goto 5)] (by decide +kernel) (show tWG K B 0 0 S I11 J12 66 [some (vR 61), some (vI v1)] [vI 29, vR 61] from ?_)
        exact gWeak (L' := [some (vR 61), none]) ⟨rfl, trivial⟩ (hj13 _ (Eq.symm (if_neg c15)))
    refine gIfEq hO (off := 8) (tgt := 45) (by decide +kernel) (by decide) (fun c10 => ?_) (fun c10 => ?_)
    · refine gBk (pe := 47) hO [oI (.bipush 30) 30] (by decide +kernel) (show tWG K B 0 0 S I6 J7 47 [some (vR 61), some (vI v1)] [vI 30, vR 61] from ?_)
      exact (hj8 _ (Eq.symm (if_pos c10)))
    · refine gBk (pe := 47) hO [oI (.bipush 29) 29, o0 (.goto 5)] (by decide +kernel) (show tWG K B 0 0 S I6 J7 47 [some (vR 61), some (vI v1)] [vI 29, vR 61] from ?_)
      exact (hj8 _ (Eq.symm (if_neg c10)))
  refine gIfEq hO (off := 7) (tgt := 31) (by decide +kernel) (by decide) (fun c5 => ?_) (fun c5 => ?_)
  · refine gBk (pe := 32) hO [oI (.iconst 1) 1] (by decide +kernel) (show tWG K B 0 0 S I J 32 [some (vR 61), some (vI v1)] [vI 1, vR 61] from ?_)
    exact (hj3 _ (Eq.symm (if_pos c5)))
  · refine gBk (pe := 32) hO [oI (.iconst 2) 2, o0 (.goto 4)] (by decide +kernel) (show tWG K B 0 0 S I J 32 [some (vR 61), some (vI v1)] [vI 2, vR 61] from ?_)
    exact (hj3 _ (Eq.symm (if_neg c5)))
set_option maxRecDepth 100000 in
theorem W12_behindTest_128 {K : tK} {B : tB} {S : tSH} {MC MS : Nat} (hO : tKO K B RX12 cX12_behindTest 2) (hR : kR K = tRm 5 MC MS) (hG : tGr S) {n : Nat} (t0 : ty S 61 12) {k : Int32 → tHI → tHJ → Prop} (hQ : tRet K B (tQi B (tPi S k)) 0 0 (some .int)) {I : tHI} {J : tHJ} (h : F12_behindTest_128 n S k I J) : tWG K B 0 0 S I J 128 [none, none] [] := by
  refine gBk (pe := 129) hO [oI (.iconst 2) 2] (by decide +kernel) (show tWG K B 0 0 S I J 129 [none, none] [vI 2] from ?_)
  exact gIret hO hQ (by decide +kernel) ⟨rfl, h⟩
set_option maxRecDepth 20000 in
theorem hc12_behindTest : tCV yX12_behindTest cX12_behindTest 2 (some .int) 0 := ⟨⟨(List.mem_of_getElem? (i := 884) rfl), (List.mem_of_getElem? (i := 5) (by decide +kernel)), by decide +kernel⟩, (List.mem_of_getElem? (i := 882) (by decide +kernel)), (List.mem_of_getElem? (i := 883) (by decide +kernel))⟩
set_option maxRecDepth 100000 in
theorem M12_behindTest {l : Launch} {B : tB} {S : tSH} {I : tHI} {J : tHJ} {n : Nat} {k : Int32 → tHI → tHJ → Prop} (t0 : ty S 61 12) (h : F12_behindTest n S I J k) : Met l yX12_behindTest (tWs yX12_behindTest cX12_behindTest 2 (some .int)) (tRm 5 0 0) (tPc B [vR 61] S I J) (tQi B (tPi S k)) 0 0 (tA B) :=
  tEntry (by decide +kernel) [some (vR 61), none] rfl rfl (Nat.le_of_ble_eq_true rfl) (fun K hl hR hO hQ hG => by
  subst hl
  refine gBk (pe := 1) hO [o0 (.aload_n 0)] (by decide +kernel) (show tWG K B 0 0 S I J 1 [some (vR 61), none] [vR 61] from ?_)
  refine gBk (pe := 4) hO [(.ldc2_w 379, (0, 0, 885, 0), 0, 1476)] (by decide +kernel) (show tWG K B 0 0 S I J 4 [some (vR 61), none] [vL 1476, vR 61] from ?_)
  refine gCVi_z hO (M12_isWord t0) hc12_isWord (idx := 321) (w := 801) (by decide +kernel) hR (by omega) t0 ⟨by decide, rfl⟩ (vs := [vL 1476]) (st := []) ⟨rfl, Nat.le_of_ble_eq_true rfl, rfl⟩ (by decide +kernel) (fun z1 => ?_)
  refine gBk (pe := 9) hO [o0 (.istore_n 1), o0 (.iload_n 1)] (by decide +kernel) (And.intro (Nat.le_of_ble_eq_true rfl) (show tWG K B 0 0 S I J 9 [some (vR 61), some (vI (V12_isWord S I J 1476))] [vI (V12_isWord S I J 1476)] from ?_))
  refine gIfNe hO (off := 13) (tgt := 22) (by decide +kernel) (by decide) (fun c2 => ?_) (fun c2 => ?_)
  · have h := h.1 c2
    exact W12_behindTest_22 hO hR hG t0 hQ h
  · have h := h.2 c2
    refine gBk (pe := 13) hO [o0 (.aload_n 0)] (by decide +kernel) (show tWG K B 0 0 S I J 13 [some (vR 61), some (vI (V12_isWord S I J 1476))] [vR 61] from ?_)
    refine gBk (pe := 16) hO [(.ldc2_w 381, (0, 0, 886, 0), 0, 498)] (by decide +kernel) (show tWG K B 0 0 S I J 16 [some (vR 61), some (vI (V12_isWord S I J 1476))] [vL 498, vR 61] from ?_)
    refine gCVi_z hO (M12_isWord t0) hc12_isWord (idx := 321) (w := 801) (by decide +kernel) hR (by omega) t0 ⟨by decide, rfl⟩ (vs := [vL 498]) (st := []) ⟨rfl, Nat.le_of_ble_eq_true rfl, rfl⟩ (by decide +kernel) (fun z20 => ?_)
    refine gIfEq hO (off := 57) (tgt := 76) (by decide +kernel) (by decide) (fun c21 => ?_) (fun c21 => ?_)
    · have h := h.1 c21
      refine gBk (pe := 77) hO [o0 (.aload_n 0)] (by decide +kernel) (show tWG K B 0 0 S I J 77 [some (vR 61), some (vI (V12_isWord S I J 1476))] [vR 61] from ?_)
      refine gCVi_c hO (M12_inner t0 h) hc12_inner (idx := 372) (w := 870) (by decide +kernel) hR (by omega) t0 ⟨by decide, rfl⟩ (vs := []) (st := []) ⟨rfl, Nat.le_of_ble_eq_true rfl, rfl⟩ (by decide +kernel) (fun x24 I22 J23 h => ?_)
      refine gBk (pe := 81) hO [oI (.iconst (-1)) (-1)] (by decide +kernel) (show tWG K B 0 0 S I22 J23 81 [some (vR 61), some (vI (V12_isWord S I J 1476))] [vI (-1), vI x24] from ?_)
      refine gIcNe hO (off := 5) (tgt := 86) (by decide +kernel) (by decide) (fun c25 => ?_) (fun c25 => ?_)
      · have h := h.1 c25
        refine gBk (pe := 90) hO [o0 (.aload_n 0), o0 (.aload_n 0), oI (.bipush 41) 41] (by decide +kernel) (show tWG K B 0 0 S I22 J23 90 [some (vR 61), some (vI (V12_isWord S I J 1476))] [vI 41, vR 61, vR 61] from ?_)
        refine gCVi_z hO (M12_isSign t0) hc12_isSign (idx := 334) (w := 824) (by decide +kernel) hR (by omega) t0 ⟨by decide, rfl⟩ (vs := [vI 41]) (st := [vR 61]) ⟨rfl, Nat.le_of_ble_eq_true rfl, rfl⟩ (by decide +kernel) (fun z26 => ?_)
        refine gCVv_c hO (M12_must t0 h) hc12_must (idx := 296) (w := 805) (by decide +kernel) hR (by omega) t0 ⟨by decide, rfl⟩ (vs := [vI (V12_isSign S I22 J23 41)]) (st := []) ⟨rfl, Nat.le_of_ble_eq_true rfl, rfl⟩ (by decide +kernel) (fun I27 J28 h => ?_)
        refine gBk (pe := 100) hO [o0 (.aload_n 0), oF (.getfield 261) 12 19 766 0] (by decide +kernel) (And.intro t0 (show tWG K B 0 0 S I27 J28 100 [some (vR 61), some (vI (V12_isWord S I J 1476))] [vI (I27 61 19)] from ?_))
        refine gIfNe hO (off := 28) (tgt := 128) (by decide +kernel) (by decide) (fun c29 => ?_) (fun c29 => ?_)
        · have h := h.1 c29
          exact gWeak (L' := [none, none]) trivial (W12_behindTest_128 hO hR hG t0 hQ h)
        · have h := h.2 c29
          refine gBk (pe := 105) hO [o0 (.aload_n 0), oI (.iconst 1) 1] (by decide +kernel) (show tWG K B 0 0 S I27 J28 105 [some (vR 61), some (vI (V12_isWord S I J 1476))] [vI 1, vR 61] from ?_)
          refine gCVv_c hO (M12_settle t0 h) hc12_settle (idx := 369) (w := 866) (by decide +kernel) hR (by omega) t0 ⟨by decide, rfl⟩ (vs := [vI 1]) (st := []) ⟨rfl, Nat.le_of_ble_eq_true rfl, rfl⟩ (by decide +kernel) (fun I30 J31 h => ?_)
          refine gBk (pe := 128) hO [o0 (.aload_n 0), o0 .dup, oF (.getfield 303) 12 29 813 0, oI (.iconst 1) 1, o0 .isub, oF (.putfield 303) 12 29 813 0, o0 (.aload_n 0), o0 .dup, oF (.getfield 325) 12 30 814 0, oI (.iconst 1) 1, o0 .isub, oF (.putfield 325) 12 30 814 0] (by decide +kernel) (And.intro t0 (And.intro t0 (And.intro t0 (And.intro t0 (show tWG K B 0 0 S (uI (uI I30 61 29 ((I30 61 29) - 1)) 61 30 (((uI I30 61 29 ((I30 61 29) - 1)) 61 30) - 1)) J31 128 [some (vR 61), some (vI (V12_isWord S I J 1476))] [] from ?_)))))
          exact gWeak (L' := [none, none]) trivial (W12_behindTest_128 hO hR hG t0 hQ h)
      · have h := h.2 c25
        refine gBk (pe := 85) hO [oI (.iconst 4) 4] (by decide +kernel) (show tWG K B 0 0 S I22 J23 85 [some (vR 61), some (vI (V12_isWord S I J 1476))] [vI 4] from ?_)
        exact gIret hO hQ (by decide +kernel) ⟨rfl, h⟩
    · have h := h.2 c21
      exact W12_behindTest_22 hO hR hG t0 hQ h)
set_option maxRecDepth 100000 in
theorem W12_readExpression_76 {K : tK} {B : tB} {S : tSH} {MC MS : Nat} (hO : tKO K B RX12 cX12_readExpression 3) (hR : kR K = tRm 8 MC MS) (hG : tGr S) {n : Nat} (t0 : ty S 61 12) {k : tHI → tHJ → Prop} (hQ : tRet K B (tQv B (tPv S k)) 0 0 none) {I : tHI} {J : tHJ} (h : F12_readExpression_76 n S k I J) : tWG K B 0 0 S I J 76 [some (vR 61), none, none] [] := by
  refine gBk (pe := 78) hO [o0 (.aload_n 0), oI (.iconst 1) 1] (by decide +kernel) (show tWG K B 0 0 S I J 78 [some (vR 61), none, none] [vI 1, vR 61] from ?_)
  refine gCVv_c hO (M12_settle t0 h) hc12_settle (idx := 369) (w := 866) (by decide +kernel) hR (by omega) t0 ⟨by decide, rfl⟩ (vs := [vI 1]) (st := []) ⟨rfl, Nat.le_of_ble_eq_true rfl, rfl⟩ (by decide +kernel) (fun I5 J6 h => ?_)
  exact gVret hO hQ (by decide +kernel) ⟨rfl, h⟩
set_option maxRecDepth 100000 in
theorem W12_readExpression_72 {K : tK} {B : tB} {S : tSH} {MC MS : Nat} (hO : tKO K B RX12 cX12_readExpression 3) (hR : kR K = tRm 8 MC MS) (hG : tGr S) {n : Nat} (t0 : ty S 61 12) {k : tHI → tHJ → Prop} (hQ : tRet K B (tQv B (tPv S k)) 0 0 none) {kb20 : tHI → tHJ → Int32 → Int32 → Prop} (hkb20 : ∀ (I : tHI) (J : tHJ) (v1 : Int32) (v2 : Int32), kb20 I J v1 v2 → tWG K B 0 0 S I J 20 [some (vR 61), some (vI v1), some (vI v2)] []) {I : tHI} {J : tHJ} {v1 : Int32} {s0 : Int32} (h : F12_readExpression_72 n S k kb20 I J v1 s0) : tWG K B 0 0 S I J 72 [some (vR 61), some (vI v1), none] [vI s0] := by
  refine gBk (pe := 20) hO [o0 (.istore_n 2), o0 (.goto (-53))] (by decide +kernel) (And.intro (Nat.le_of_ble_eq_true rfl) (show tWG K B 0 0 S I J 20 [some (vR 61), some (vI v1), some (vI s0)] [] from ?_))
  exact hkb20 _ _ _ _ h
set_option maxRecDepth 100000 in
theorem W12_readExpression_20 {K : tK} {B : tB} {S : tSH} {MC MS : Nat} (hO : tKO K B RX12 cX12_readExpression 3) (hR : kR K = tRm 8 MC MS) (hG : tGr S) {n : Nat} (t0 : ty S 61 12) {k : tHI → tHJ → Prop} (hQ : tRet K B (tQv B (tPv S k)) 0 0 none) {kb20 : tHI → tHJ → Int32 → Int32 → Prop} (hkb20 : ∀ (I : tHI) (J : tHJ) (v1 : Int32) (v2 : Int32), kb20 I J v1 v2 → tWG K B 0 0 S I J 20 [some (vR 61), some (vI v1), some (vI v2)] []) {I : tHI} {J : tHJ} {v1 : Int32} {v2 : Int32} (h : F12_readExpression_20 n S k kb20 I J v1 v2) : tWG K B 0 0 S I J 20 [some (vR 61), some (vI v1), some (vI v2)] [] := by
  refine gBk (pe := 24) hO [o0 (.aload_n 0), oF (.getfield 261) 12 19 766 0] (by decide +kernel) (And.intro t0 (show tWG K B 0 0 S I J 24 [some (vR 61), some (vI v1), some (vI v2)] [vI (I 61 19)] from ?_))
  refine gIfNe hO (off := 52) (tgt := 76) (by decide +kernel) (by decide) (fun c4 => ?_) (fun c4 => ?_)
  · have h := h.1 c4
    exact gWeak (L' := [some (vR 61), none, none]) ⟨rfl, trivial⟩ (W12_readExpression_76 hO hR hG t0 hQ h)
  · have h := h.2 c4
    refine gBk (pe := 29) hO [o0 (.iload_n 2), oI (.iconst 4) 4] (by decide +kernel) (show tWG K B 0 0 S I J 29 [some (vR 61), some (vI v1), some (vI v2)] [vI 4, vI v2] from ?_)
    refine gIcEq hO (off := 47) (tgt := 76) (by decide +kernel) (by decide) (fun c7 => ?_) (fun c7 => ?_)
    · have h := h.1 c7
      exact gWeak (L' := [some (vR 61), none, none]) ⟨rfl, trivial⟩ (W12_readExpression_76 hO hR hG t0 hQ h)
    · have h := h.2 c7
      refine gBk (pe := 33) hO [o0 (.iload_n 2)] (by decide +kernel) (show tWG K B 0 0 S I J 33 [some (vR 61), some (vI v1), some (vI v2)] [vI v2] from ?_)
      refine gIfNe hO (off := 10) (tgt := 43) (by decide +kernel) (by decide) (fun c8 => ?_) (fun c8 => ?_)
      · have h := h.1 c8
        refine gBk (pe := 45) hO [o0 (.iload_n 2), oI (.iconst 1) 1] (by decide +kernel) (show tWG K B 0 0 S I J 45 [some (vR 61), some (vI v1), some (vI v2)] [vI 1, vI v2] from ?_)
        refine gIcNe hO (off := 10) (tgt := 55) (by decide +kernel) (by decide) (fun c9 => ?_) (fun c9 => ?_)
        · have h := h.1 c9
          refine gBk (pe := 57) hO [o0 (.iload_n 2), oI (.iconst 3) 3] (by decide +kernel) (show tWG K B 0 0 S I J 57 [some (vR 61), some (vI v1), some (vI v2)] [vI 3, vI v2] from ?_)
          refine gIcNe hO (off := 11) (tgt := 68) (by decide +kernel) (by decide) (fun c10 => ?_) (fun c10 => ?_)
          · have h := h.1 c10
            refine gBk (pe := 69) hO [o0 (.aload_n 0)] (by decide +kernel) (show tWG K B 0 0 S I J 69 [some (vR 61), some (vI v1), some (vI v2)] [vR 61] from ?_)
            refine gCVi_c hO (M12_behindTest t0 h) hc12_behindTest (idx := 390) (w := 881) (by decide +kernel) hR (by omega) t0 ⟨by decide, rfl⟩ (vs := []) (st := []) ⟨rfl, Nat.le_of_ble_eq_true rfl, rfl⟩ (by decide +kernel) (fun x13 I11 J12 h => ?_)
            exact gWeak (L' := [some (vR 61), some (vI v1), none]) ⟨rfl, rfl, trivial⟩ (W12_readExpression_72 hO hR hG t0 hQ hkb20 h)
          · have h := h.2 c10
            refine gBk (pe := 62) hO [o0 (.aload_n 0), o0 (.iload_n 1)] (by decide +kernel) (show tWG K B 0 0 S I J 62 [some (vR 61), some (vI v1), some (vI v2)] [vI v1, vR 61] from ?_)
            refine gCVi_c hO (M12_behindSum t0 h) hc12_behindSum (idx := 386) (w := 859) (by decide +kernel) hR (by omega) t0 ⟨by decide, rfl⟩ (vs := [vI v1]) (st := []) ⟨rfl, Nat.le_of_ble_eq_true rfl, rfl⟩ (by decide +kernel) (fun x16 I14 J15 h => ?_)
            refine gBk (pe := 72) hO [o0 (.goto 7)] (by decide +kernel) (show tWG K B 0 0 S I14 J15 72 [some (vR 61), some (vI v1), some (vI v2)] [vI x16] from ?_)
            exact gWeak (L' := [some (vR 61), some (vI v1), none]) ⟨rfl, rfl, trivial⟩ (W12_readExpression_72 hO hR hG t0 hQ hkb20 h)
        · have h := h.2 c9
          refine gBk (pe := 49) hO [o0 (.aload_n 0)] (by decide +kernel) (show tWG K B 0 0 S I J 49 [some (vR 61), some (vI v1), some (vI v2)] [vR 61] from ?_)
          refine gCVi_c hO (M12_readPart t0 h) hc12_readPart (idx := 366) (w := 832) (by decide +kernel) hR (by omega) t0 ⟨by decide, rfl⟩ (vs := []) (st := []) ⟨rfl, Nat.le_of_ble_eq_true rfl, rfl⟩ (by decide +kernel) (fun x19 I17 J18 h => ?_)
          refine gBk (pe := 72) hO [o0 (.goto 20)] (by decide +kernel) (show tWG K B 0 0 S I17 J18 72 [some (vR 61), some (vI v1), some (vI v2)] [vI x19] from ?_)
          exact gWeak (L' := [some (vR 61), some (vI v1), none]) ⟨rfl, rfl, trivial⟩ (W12_readExpression_72 hO hR hG t0 hQ hkb20 h)
      · have h := h.2 c8
        refine gBk (pe := 37) hO [o0 (.aload_n 0)] (by decide +kernel) (show tWG K B 0 0 S I J 37 [some (vR 61), some (vI v1), some (vI v2)] [vR 61] from ?_)
        refine gCVi_c hO (M12_readPlain t0 h) hc12_readPlain (idx := 383) (w := 815) (by decide +kernel) hR (by omega) t0 ⟨by decide, rfl⟩ (vs := []) (st := []) ⟨rfl, Nat.le_of_ble_eq_true rfl, rfl⟩ (by decide +kernel) (fun x22 I20 J21 h => ?_)
        refine gBk (pe := 72) hO [o0 (.goto 32)] (by decide +kernel) (show tWG K B 0 0 S I20 J21 72 [some (vR 61), some (vI v1), some (vI v2)] [vI x22] from ?_)
        exact gWeak (L' := [some (vR 61), some (vI v1), none]) ⟨rfl, rfl, trivial⟩ (W12_readExpression_72 hO hR hG t0 hQ hkb20 h)
theorem W12_readExpression_L20 {K : tK} {B : tB} {S : tSH} {MC MS : Nat} (hO : tKO K B RX12 cX12_readExpression 3) (hR : kR K = tRm 8 MC MS) (hG : tGr S) {n : Nat} (t0 : ty S 61 12) {k : tHI → tHJ → Prop} (hQ : tRet K B (tQv B (tPv S k)) 0 0 none) : ∀ (f : Nat) (I : tHI) (J : tHJ) (v1 : Int32) (v2 : Int32), F12_readExpression_L20 n S k f I J v1 v2 → tWG K B 0 0 S I J 20 [some (vR 61), some (vI v1), some (vI v2)] [] := by
  intro f
  induction f with
  | zero => intro I J v1 v2 h; exact h.elim
  | succ f ih => intro I J v1 v2 h; exact W12_readExpression_20 hO hR hG t0 hQ ih h
set_option maxRecDepth 20000 in
theorem hc12_readExpression : tCV yX12_readExpression cX12_readExpression 3 none 1 := ⟨⟨(List.mem_of_getElem? (i := 812) rfl), (List.mem_of_getElem? (i := 5) (by decide +kernel)), by decide +kernel⟩, (List.mem_of_getElem? (i := 810) (by decide +kernel)), (List.mem_of_getElem? (i := 811) (by decide +kernel))⟩
set_option maxRecDepth 100000 in
theorem M12_readExpression {l : Launch} {B : tB} {S : tSH} {I : tHI} {J : tHJ} {v1 : Int32} {n : Nat} {k : tHI → tHJ → Prop} (t0 : ty S 61 12) (h : F12_readExpression n S I J v1 k) : Met l yX12_readExpression (tWs yX12_readExpression cX12_readExpression 3 none) (tRm 8 0 0) (tPc B [vR 61, vI v1] S I J) (tQv B (tPv S k)) 0 0 (tA B) :=
  tEntry (by decide +kernel) [some (vR 61), some (vI v1), none] rfl rfl (Nat.le_of_ble_eq_true rfl) (fun K hl hR hO hQ hG => by
  subst hl
  refine gBk (pe := 11) hO [o0 (.aload_n 0), oI (.iconst 0) 0, oF (.putfield 303) 12 29 813 0, o0 (.aload_n 0), oI (.iconst 0) 0, oF (.putfield 325) 12 30 814 0, o0 (.iload_n 1)] (by decide +kernel) (And.intro t0 (And.intro t0 (show tWG K B 0 0 S (uI (uI I 61 29 0) 61 30 0) J 11 [some (vR 61), some (vI v1), none] [vI v1] from ?_)))
  have hj1 : ∀ (m2 : Int32), m2 = (if v1 = 0 then (1 : Int32) else 0) → tWG K B 0 0 S (uI (uI I 61 29 0) 61 30 0) J 19 [some (vR 61), some (vI v1), none] [vI m2] := by
    intro m2 em2
    subst em2
    refine gBk (pe := 20) hO [o0 (.istore_n 2)] (by decide +kernel) (And.intro (Nat.le_of_ble_eq_true rfl) (show tWG K B 0 0 S (uI (uI I 61 29 0) 61 30 0) J 20 [some (vR 61), some (vI v1), some (vI (if v1 = 0 then (1 : Int32) else 0))] [] from ?_))
    exact W12_readExpression_L20 hO hR hG t0 hQ n _ _ _ _ h
  refine gIfEq hO (off := 7) (tgt := 18) (by decide +kernel) (by decide) (fun c3 => ?_) (fun c3 => ?_)
  · refine gBk (pe := 19) hO [oI (.iconst 1) 1] (by decide +kernel) (show tWG K B 0 0 S (uI (uI I 61 29 0) 61 30 0) J 19 [some (vR 61), some (vI v1), none] [vI 1] from ?_)
    exact (hj1 _ (Eq.symm (if_pos c3)))
  · refine gBk (pe := 19) hO [oI (.iconst 0) 0, o0 (.goto 4)] (by decide +kernel) (show tWG K B 0 0 S (uI (uI I 61 29 0) 61 30 0) J 19 [some (vR 61), some (vI v1), none] [vI 0] from ?_)
    exact (hj1 _ (Eq.symm (if_neg c3))))
set_option maxRecDepth 100000 in
theorem W12_endText_19 {K : tK} {B : tB} {S : tSH} {MC MS : Nat} (hO : tKO K B RX12 cX12_endText 1) (hR : kR K = tRm 5 MC MS) (hG : tGr S) {n : Nat} (t0 : ty S 61 12) {k : tHI → tHJ → Prop} (hQ : tRet K B (tQv B (tPv S k)) 0 0 none) {I : tHI} {J : tHJ} (h : F12_endText_19 n S k I J) : tWG K B 0 0 S I J 19 [some (vR 61)] [] := by
  refine gBk (pe := 29) hO [o0 (.aload_n 0), oI (.iconst 0) 0, oF (.putfield 340) 12 20 348 0, o0 (.aload_n 0), oI (.iconst 0) 0, oF (.putfield 249) 12 13 568 0] (by decide +kernel) (And.intro t0 (And.intro (Or.inl rfl) (And.intro t0 (show tWG K B 0 0 S (uI (uI I 61 20 0) 61 13 0) J 29 [some (vR 61)] [] from ?_))))
  exact gVret hO hQ (by decide +kernel) ⟨rfl, h⟩
set_option maxRecDepth 20000 in
theorem hc12_endText : tCV yX12_endText cX12_endText 1 none 0 := ⟨⟨(List.mem_of_getElem? (i := 890) rfl), (List.mem_of_getElem? (i := 5) (by decide +kernel)), by decide +kernel⟩, (List.mem_of_getElem? (i := 888) (by decide +kernel)), (List.mem_of_getElem? (i := 889) (by decide +kernel))⟩
set_option maxRecDepth 100000 in
theorem M12_endText {l : Launch} {B : tB} {S : tSH} {I : tHI} {J : tHJ} {n : Nat} {k : tHI → tHJ → Prop} (t0 : ty S 61 12) (h : F12_endText n S I J k) : Met l yX12_endText (tWs yX12_endText cX12_endText 1 none) (tRm 5 0 0) (tPc B [vR 61] S I J) (tQv B (tPv S k)) 0 0 (tA B) :=
  tEntry (by decide +kernel) [some (vR 61)] rfl rfl (Nat.le_of_ble_eq_true rfl) (fun K hl hR hO hQ hG => by
  subst hl
  refine gBk (pe := 4) hO [o0 (.aload_n 0), oF (.getfield 261) 12 19 766 0] (by decide +kernel) (And.intro t0 (show tWG K B 0 0 S I J 4 [some (vR 61)] [vI (I 61 19)] from ?_))
  refine gIfNe hO (off := 15) (tgt := 19) (by decide +kernel) (by decide) (fun c1 => ?_) (fun c1 => ?_)
  · have h := h.1 c1
    exact W12_endText_19 hO hR hG t0 hQ h
  · have h := h.2 c1
    refine gBk (pe := 11) hO [o0 (.aload_n 0), oF (.getfield 281) 12 16 785 0] (by decide +kernel) (And.intro t0 (show tWG K B 0 0 S I J 11 [some (vR 61)] [vI (I 61 16)] from ?_))
    refine gIfEq hO (off := 8) (tgt := 19) (by decide +kernel) (by decide) (fun c2 => ?_) (fun c2 => ?_)
    · have h := h.1 c2
      exact W12_endText_19 hO hR hG t0 hQ h
    · have h := h.2 c2
      refine gBk (pe := 16) hO [o0 (.aload_n 0), oI (.iconst 0) 0] (by decide +kernel) (show tWG K B 0 0 S I J 16 [some (vR 61)] [vI 0, vR 61] from ?_)
      refine gCVv_c hO (M12_must t0 h) hc12_must (idx := 296) (w := 805) (by decide +kernel) hR (by omega) t0 ⟨by decide, rfl⟩ (vs := [vI 0]) (st := []) ⟨rfl, Nat.le_of_ble_eq_true rfl, rfl⟩ (by decide +kernel) (fun I3 J4 h => ?_)
      exact W12_endText_19 hO hR hG t0 hQ h)
set_option maxRecDepth 100000 in
theorem W12_readLaw_186 {K : tK} {B : tB} {S : tSH} {MC MS : Nat} (hO : tKO K B RX12 cX12_readLaw 4) (hR : kR K = tRm 9 MC MS) (hG : tGr S) {n : Nat} (t0 : ty S 61 12) {k : tHI → tHJ → Prop} (hQ : tRet K B (tQv B (tPv S k)) 0 0 none) {I : tHI} {J : tHJ} {v2 : Int32} (h : F12_readLaw_186 n S k I J v2) : tWG K B 0 0 S I J 186 [some (vR 61), none, some (vI v2), none] [] := by
  refine gBk (pe := 199) hO [o0 (.aload_n 0), oF (.getfield 42) 12 22 189 71, o0 (.iload_n 2), oI (.bipush 6) 6, o0 .iadd, o0 (.aload_n 0), oF (.getfield 300) 12 23 768 0, o0 .iastore] (by decide +kernel) (And.intro t0 (And.intro rfl (And.intro t0 (And.intro (tGr.off hG t0 (k := 22) rfl) (And.intro (tin (tGr.len hG t0 (k := 22) rfl (by decide)) h.1) (show tWG K B 0 0 S (uI I 71 (v2 + 6).toNatClampNeg (I 61 23)) J 199 [some (vR 61), none, some (vI v2), none] [] from ?_))))))
  have h := h.2
  exact gVret hO hQ (by decide +kernel) ⟨rfl, h⟩
set_option maxRecDepth 100000 in
theorem W12_readLaw_136 {K : tK} {B : tB} {S : tSH} {MC MS : Nat} (hO : tKO K B RX12 cX12_readLaw 4) (hR : kR K = tRm 9 MC MS) (hG : tGr S) {n : Nat} (t0 : ty S 61 12) {k : tHI → tHJ → Prop} (hQ : tRet K B (tQv B (tPv S k)) 0 0 none) {I : tHI} {J : tHJ} {v2 : Int32} (h : F12_readLaw_136 n S k I J v2) : tWG K B 0 0 S I J 136 [some (vR 61), none, some (vI v2), none] [] := by
  refine gBk (pe := 164) hO [o0 (.aload_n 0), oF (.getfield 42) 12 22 189 71, o0 (.iload_n 2), oI (.iconst 4) 4, o0 .iadd, o0 (.aload_n 0), oF (.getfield 300) 12 23 768 0, o0 .iastore, o0 (.aload_n 0), oF (.getfield 42) 12 22 189 71, o0 (.iload_n 2), oI (.iconst 5) 5, o0 .iadd, o0 (.aload_n 0), oF (.getfield 300) 12 23 768 0, o0 .iastore, o0 (.aload_n 0), oF (.getfield 261) 12 19 766 0] (by decide +kernel) (And.intro t0 (And.intro rfl (And.intro t0 (And.intro (tGr.off hG t0 (k := 22) rfl) (And.intro (tin (tGr.len hG t0 (k := 22) rfl (by decide)) h.1) (And.intro t0 (And.intro rfl (And.intro t0 (And.intro (tGr.off hG t0 (k := 22) rfl) (And.intro (tin (tGr.len hG t0 (k := 22) rfl (by decide)) h.2.1) (And.intro t0 (show tWG K B 0 0 S (uI (uI I 71 (v2 + 4).toNatClampNeg (I 61 23)) 71 (v2 + 5).toNatClampNeg ((uI I 71 (v2 + 4).toNatClampNeg (I 61 23)) 61 23)) J 164 [some (vR 61), none, some (vI v2), none] [vI ((uI (uI I 71 (v2 + 4).toNatClampNeg (I 61 23)) 71 (v2 + 5).toNatClampNeg ((uI I 71 (v2 + 4).toNatClampNeg (I 61 23)) 61 23)) 61 19)] from ?_))))))))))))
  have h := h.2.2
  refine gIfNe hO (off := 22) (tgt := 186) (by decide +kernel) (by decide) (fun c11 => ?_) (fun c11 => ?_)
  · have h := h.1 c11
    exact W12_readLaw_186 hO hR hG t0 hQ h
  · have h := h.2 c11
    refine gBk (pe := 168) hO [o0 (.aload_n 0)] (by decide +kernel) (show tWG K B 0 0 S (uI (uI I 71 (v2 + 4).toNatClampNeg (I 61 23)) 71 (v2 + 5).toNatClampNeg ((uI I 71 (v2 + 4).toNatClampNeg (I 61 23)) 61 23)) J 168 [some (vR 61), none, some (vI v2), none] [vR 61] from ?_)
    refine gBk (pe := 171) hO [(.ldc2_w 402, (0, 0, 800, 0), 0, 294)] (by decide +kernel) (show tWG K B 0 0 S (uI (uI I 71 (v2 + 4).toNatClampNeg (I 61 23)) 71 (v2 + 5).toNatClampNeg ((uI I 71 (v2 + 4).toNatClampNeg (I 61 23)) 61 23)) J 171 [some (vR 61), none, some (vI v2), none] [vL 294, vR 61] from ?_)
    refine gCVi_z hO (M12_isWord t0) hc12_isWord (idx := 321) (w := 801) (by decide +kernel) hR (by omega) t0 ⟨by decide, rfl⟩ (vs := [vL 294]) (st := []) ⟨rfl, Nat.le_of_ble_eq_true rfl, rfl⟩ (by decide +kernel) (fun z12 => ?_)
    refine gIfEq hO (off := 12) (tgt := 186) (by decide +kernel) (by decide) (fun c13 => ?_) (fun c13 => ?_)
    · have h := h.1 c13
      exact W12_readLaw_186 hO hR hG t0 hQ h
    · have h := h.2 c13
      refine gBk (pe := 178) hO [o0 (.aload_n 0)] (by decide +kernel) (show tWG K B 0 0 S (uI (uI I 71 (v2 + 4).toNatClampNeg (I 61 23)) 71 (v2 + 5).toNatClampNeg ((uI I 71 (v2 + 4).toNatClampNeg (I 61 23)) 61 23)) J 178 [some (vR 61), none, some (vI v2), none] [vR 61] from ?_)
      refine gCVv_c hO (M12_next t0 h) hc12_next (idx := 265) (w := 779) (by decide +kernel) hR (by omega) t0 ⟨by decide, rfl⟩ (vs := []) (st := []) ⟨rfl, Nat.le_of_ble_eq_true rfl, rfl⟩ (by decide +kernel) (fun I14 J15 h => ?_)
      refine gBk (pe := 183) hO [o0 (.aload_n 0), oI (.iconst 1) 1] (by decide +kernel) (show tWG K B 0 0 S I14 J15 183 [some (vR 61), none, some (vI v2), none] [vI 1, vR 61] from ?_)
      refine gCVv_c hO (M12_readExpression t0 h) hc12_readExpression (idx := 399) (w := 809) (by decide +kernel) hR (by omega) t0 ⟨by decide, rfl⟩ (vs := [vI 1]) (st := []) ⟨rfl, Nat.le_of_ble_eq_true rfl, rfl⟩ (by decide +kernel) (fun I16 J17 h => ?_)
      exact W12_readLaw_186 hO hR hG t0 hQ h
set_option maxRecDepth 100000 in
theorem W12_readLaw_76 {K : tK} {B : tB} {S : tSH} {MC MS : Nat} (hO : tKO K B RX12 cX12_readLaw 4) (hR : kR K = tRm 9 MC MS) (hG : tGr S) {n : Nat} (t0 : ty S 61 12) {k : tHI → tHJ → Prop} (hQ : tRet K B (tQv B (tPv S k)) 0 0 none) {kb76 : tHI → tHJ → Int32 → Int32 → Int32 → Prop} (hkb76 : ∀ (I : tHI) (J : tHJ) (v1 : Int32) (v2 : Int32) (v3 : Int32), kb76 I J v1 v2 v3 → tWG K B 0 0 S I J 76 [some (vR 61), some (vI v1), some (vI v2), some (vI v3)] []) {I : tHI} {J : tHJ} {v1 : Int32} {v2 : Int32} {v3 : Int32} (h : F12_readLaw_76 n S k kb76 I J v1 v2 v3) : tWG K B 0 0 S I J 76 [some (vR 61), some (vI v1), some (vI v2), some (vI v3)] [] := by
  refine gBk (pe := 79) hO [o0 (.iload_n 3), oI (.bipush 8) 8] (by decide +kernel) (show tWG K B 0 0 S I J 79 [some (vR 61), some (vI v1), some (vI v2), some (vI v3)] [vI 8, vI v3] from ?_)
  refine gIcGe hO (off := 18) (tgt := 97) (by decide +kernel) (by decide) (fun c9 => ?_) (fun c9 => ?_)
  · have h := h.1 c9
    refine gBk (pe := 128) hO [o0 (.aload_n 0), oF (.getfield 42) 12 22 189 71, o0 (.iload_n 2), o0 (.iload_n 1), o0 .iastore, o0 (.aload_n 0), o0 .dup, oF (.getfield 396) 12 21 767 0, oI (.iconst 1) 1, o0 .iadd, oF (.putfield 396) 12 21 767 0, o0 (.aload_n 0), oF (.getfield 42) 12 22 189 71, o0 (.iload_n 2), oI (.iconst 3) 3, o0 .iadd, o0 (.aload_n 0), oF (.getfield 300) 12 23 768 0, o0 .iastore, o0 (.iload_n 1), oI (.iconst 5) 5] (by decide +kernel) (And.intro t0 (And.intro rfl (And.intro (tGr.off hG t0 (k := 22) rfl) (And.intro (tin (tGr.len hG t0 (k := 22) rfl (by decide)) h.1) (And.intro t0 (And.intro t0 (And.intro t0 (And.intro rfl (And.intro t0 (And.intro (tGr.off hG t0 (k := 22) rfl) (And.intro (tin (tGr.len hG t0 (k := 22) rfl (by decide)) h.2.1) (show tWG K B 0 0 S (uI (uI (uI I 71 v2.toNatClampNeg v1) 61 21 (((uI I 71 v2.toNatClampNeg v1) 61 21) + 1)) 71 (v2 + 3).toNatClampNeg ((uI (uI I 71 v2.toNatClampNeg v1) 61 21 (((uI I 71 v2.toNatClampNeg v1) 61 21) + 1)) 61 23)) J 128 [some (vR 61), some (vI v1), some (vI v2), some (vI v3)] [vI 5, vI v1] from ?_))))))))))))
    have h := h.2.2
    refine gIcEq hO (off := 8) (tgt := 136) (by decide +kernel) (by decide) (fun c10 => ?_) (fun c10 => ?_)
    · have h := h.1 c10
      exact gWeak (L' := [some (vR 61), none, some (vI v2), none]) ⟨rfl, rfl, trivial⟩ (W12_readLaw_136 hO hR hG t0 hQ h)
    · have h := h.2 c10
      refine gBk (pe := 133) hO [o0 (.aload_n 0), oI (.iconst 0) 0] (by decide +kernel) (show tWG K B 0 0 S (uI (uI (uI I 71 v2.toNatClampNeg v1) 61 21 (((uI I 71 v2.toNatClampNeg v1) 61 21) + 1)) 71 (v2 + 3).toNatClampNeg ((uI (uI I 71 v2.toNatClampNeg v1) 61 21 (((uI I 71 v2.toNatClampNeg v1) 61 21) + 1)) 61 23)) J 133 [some (vR 61), some (vI v1), some (vI v2), some (vI v3)] [vI 0, vR 61] from ?_)
      refine gCVv_c hO (M12_readExpression t0 h) hc12_readExpression (idx := 399) (w := 809) (by decide +kernel) hR (by omega) t0 ⟨by decide, rfl⟩ (vs := [vI 0]) (st := []) ⟨rfl, Nat.le_of_ble_eq_true rfl, rfl⟩ (by decide +kernel) (fun I18 J19 h => ?_)
      exact gWeak (L' := [some (vR 61), none, some (vI v2), none]) ⟨rfl, rfl, trivial⟩ (W12_readLaw_136 hO hR hG t0 hQ h)
  · have h := h.2 c9
    refine gBk (pe := 76) hO [o0 (.aload_n 0), oF (.getfield 42) 12 22 189 71, o0 (.iload_n 2), o0 (.iload_n 3), o0 .iadd, oI (.iconst 0) 0, o0 .iastore, oI (.iinc 3 1) 1, o0 (.goto (-18))] (by decide +kernel) (And.intro t0 (And.intro rfl (And.intro (tGr.off hG t0 (k := 22) rfl) (And.intro (tin (tGr.len hG t0 (k := 22) rfl (by decide)) h.1) (show tWG K B 0 0 S (uI I 71 (v2 + v3).toNatClampNeg 0) J 76 [some (vR 61), some (vI v1), some (vI v2), some (vI (v3 + 1))] [] from ?_)))))
    have h := h.2
    exact hkb76 _ _ _ _ _ h
theorem W12_readLaw_L76 {K : tK} {B : tB} {S : tSH} {MC MS : Nat} (hO : tKO K B RX12 cX12_readLaw 4) (hR : kR K = tRm 9 MC MS) (hG : tGr S) {n : Nat} (t0 : ty S 61 12) {k : tHI → tHJ → Prop} (hQ : tRet K B (tQv B (tPv S k)) 0 0 none) : ∀ (f : Nat) (I : tHI) (J : tHJ) (v1 : Int32) (v2 : Int32) (v3 : Int32), F12_readLaw_L76 n S k f I J v1 v2 v3 → tWG K B 0 0 S I J 76 [some (vR 61), some (vI v1), some (vI v2), some (vI v3)] [] := by
  intro f
  induction f with
  | zero => intro I J v1 v2 v3 h; exact h.elim
  | succ f ih => intro I J v1 v2 v3 h; exact W12_readLaw_76 hO hR hG t0 hQ ih h
set_option maxRecDepth 100000 in
theorem W12_readLaw_4 {K : tK} {B : tB} {S : tSH} {MC MS : Nat} (hO : tKO K B RX12 cX12_readLaw 4) (hR : kR K = tRm 9 MC MS) (hG : tGr S) {n : Nat} (t0 : ty S 61 12) {k : tHI → tHJ → Prop} (hQ : tRet K B (tQv B (tPv S k)) 0 0 none) {kb4 : tHI → tHJ → Int32 → Int32 → Prop} (hkb4 : ∀ (I : tHI) (J : tHJ) (v1 : Int32) (v2 : Int32), kb4 I J v1 v2 → tWG K B 0 0 S I J 4 [some (vR 61), some (vI v1), some (vI v2), none] []) {I : tHI} {J : tHJ} {v1 : Int32} {v2 : Int32} (h : F12_readLaw_4 n S k kb4 I J v1 v2) : tWG K B 0 0 S I J 4 [some (vR 61), some (vI v1), some (vI v2), none] [] := by
  refine gBk (pe := 7) hO [o0 (.iload_n 2), oI (.bipush 6) 6] (by decide +kernel) (show tWG K B 0 0 S I J 7 [some (vR 61), some (vI v1), some (vI v2), none] [vI 6, vI v2] from ?_)
  refine gIcGe hO (off := 28) (tgt := 35) (by decide +kernel) (by decide) (fun c1 => ?_) (fun c1 => ?_)
  · have h := h.1 c1
    refine gBk (pe := 38) hO [o0 (.aload_n 0), o0 (.iload_n 1), oI (.iconst (-1)) (-1)] (by decide +kernel) (show tWG K B 0 0 S I J 38 [some (vR 61), some (vI v1), some (vI v2), none] [vI (-1), vI v1, vR 61] from ?_)
    have hj2 : ∀ (m3 : Int32), m3 = (if v1 = (-1) then 0 else (if 12 ≤ (I 61 21) then (0 : Int32) else 1)) → tWG K B 0 0 S I J 55 [some (vR 61), some (vI v1), none, none] [vI m3, vR 61] := by
      intro m3 em3
      subst em3
      refine gCVv_c hO (M12_must t0 h) hc12_must (idx := 296) (w := 805) (by decide +kernel) hR (by omega) t0 ⟨by decide, rfl⟩ (vs := [vI (if v1 = (-1) then 0 else (if 12 ≤ (I 61 21) then (0 : Int32) else 1))]) (st := []) ⟨rfl, Nat.le_of_ble_eq_true rfl, rfl⟩ (by decide +kernel) (fun I6 J7 h => ?_)
      refine gBk (pe := 62) hO [o0 (.aload_n 0), oF (.getfield 261) 12 19 766 0] (by decide +kernel) (And.intro t0 (show tWG K B 0 0 S I6 J7 62 [some (vR 61), some (vI v1), none, none] [vI (I6 61 19)] from ?_))
      refine gIfEq hO (off := 4) (tgt := 66) (by decide +kernel) (by decide) (fun c8 => ?_) (fun c8 => ?_)
      · have h := h.1 c8
        refine gBk (pe := 76) hO [oI (.bipush 8) 8, o0 (.aload_n 0), oF (.getfield 396) 12 21 767 0, o0 .imul, o0 (.istore_n 2), oI (.iconst 0) 0, o0 (.istore_n 3)] (by decide +kernel) (And.intro t0 (And.intro (Nat.le_of_ble_eq_true rfl) (And.intro (Nat.le_of_ble_eq_true rfl) (show tWG K B 0 0 S I6 J7 76 [some (vR 61), some (vI v1), some (vI (8 * (I6 61 21))), some (vI 0)] [] from ?_))))
        exact W12_readLaw_L76 hO hR hG t0 hQ n _ _ _ _ _ h
      · have h := h.2 c8
        exact gVret hO hQ (by decide +kernel) ⟨rfl, h⟩
    refine gIcEq hO (off := 16) (tgt := 54) (by decide +kernel) (by decide) (fun c4 => ?_) (fun c4 => ?_)
    · refine gBk (pe := 55) hO [oI (.iconst 0) 0] (by decide +kernel) (show tWG K B 0 0 S I J 55 [some (vR 61), some (vI v1), some (vI v2), none] [vI 0, vR 61] from ?_)
      exact gWeak (L' := [some (vR 61), some (vI v1), none, none]) ⟨rfl, rfl, trivial⟩ (hj2 _ (Eq.symm (if_pos c4)))
    · refine gBk (pe := 47) hO [o0 (.aload_n 0), oF (.getfield 396) 12 21 767 0, oI (.bipush 12) 12] (by decide +kernel) (And.intro t0 (show tWG K B 0 0 S I J 47 [some (vR 61), some (vI v1), some (vI v2), none] [vI 12, vI (I 61 21), vR 61] from ?_))
      refine gIcGe hO (off := 7) (tgt := 54) (by decide +kernel) (by decide) (fun c5 => ?_) (fun c5 => ?_)
      · refine gBk (pe := 55) hO [oI (.iconst 0) 0] (by decide +kernel) (show tWG K B 0 0 S I J 55 [some (vR 61), some (vI v1), some (vI v2), none] [vI 0, vR 61] from ?_)
        exact gWeak (L' := [some (vR 61), some (vI v1), none, none]) ⟨rfl, rfl, trivial⟩ (hj2 _ (Eq.symm ((if_neg c4).trans (if_pos c5))))
      · refine gBk (pe := 55) hO [oI (.iconst 1) 1, o0 (.goto 4)] (by decide +kernel) (show tWG K B 0 0 S I J 55 [some (vR 61), some (vI v1), some (vI v2), none] [vI 1, vR 61] from ?_)
        exact gWeak (L' := [some (vR 61), some (vI v1), none, none]) ⟨rfl, rfl, trivial⟩ (hj2 _ (Eq.symm ((if_neg c4).trans (if_neg c5))))
  · have h := h.2 c1
    refine gBk (pe := 17) hO [o0 (.aload_n 0), o0 (.aload_n 0), oF (.getfield 112) 12 33 220 78, o0 (.iload_n 2), o0 .laload] (by decide +kernel) (And.intro t0 (And.intro rfl (And.intro (tGr.off hG t0 (k := 33) rfl) (And.intro (tin (tGr.len hG t0 (k := 33) rfl (by decide)) h.1) (show tWG K B 0 0 S I J 17 [some (vR 61), some (vI v1), some (vI v2), none] [vL (J 78 v2.toNatClampNeg), vR 61] from ?_)))))
    have h := h.2
    refine gCVi_z hO (M12_isWord t0) hc12_isWord (idx := 321) (w := 801) (by decide +kernel) hR (by omega) t0 ⟨by decide, rfl⟩ (vs := [vL (J 78 v2.toNatClampNeg)]) (st := []) ⟨rfl, Nat.le_of_ble_eq_true rfl, rfl⟩ (by decide +kernel) (fun z20 => ?_)
    have hj21 : ∀ (m22 : Int32), m22 = (if (V12_isWord S I J (J 78 v2.toNatClampNeg)) = 0 then v1 else v2) → tWG K B 0 0 S I J 28 [some (vR 61), none, some (vI v2), none] [vI m22] := by
      intro m22 em22
      subst em22
      refine gBk (pe := 4) hO [o0 (.istore_n 1), oI (.iinc 2 1) 1, o0 (.goto (-28))] (by decide +kernel) (And.intro (Nat.le_of_ble_eq_true rfl) (show tWG K B 0 0 S I J 4 [some (vR 61), some (vI (if (V12_isWord S I J (J 78 v2.toNatClampNeg)) = 0 then v1 else v2)), some (vI (v2 + 1)), none] [] from ?_))
      exact hkb4 _ _ _ _ h
    refine gIfEq hO (off := 7) (tgt := 27) (by decide +kernel) (by decide) (fun c23 => ?_) (fun c23 => ?_)
    · refine gBk (pe := 28) hO [o0 (.iload_n 1)] (by decide +kernel) (show tWG K B 0 0 S I J 28 [some (vR 61), some (vI v1), some (vI v2), none] [vI v1] from ?_)
      exact gWeak (L' := [some (vR 61), none, some (vI v2), none]) ⟨rfl, rfl, trivial⟩ (hj21 _ (Eq.symm (if_pos c23)))
    · refine gBk (pe := 28) hO [o0 (.iload_n 2), o0 (.goto 4)] (by decide +kernel) (show tWG K B 0 0 S I J 28 [some (vR 61), some (vI v1), some (vI v2), none] [vI v2] from ?_)
      exact gWeak (L' := [some (vR 61), none, some (vI v2), none]) ⟨rfl, rfl, trivial⟩ (hj21 _ (Eq.symm (if_neg c23)))
theorem W12_readLaw_L4 {K : tK} {B : tB} {S : tSH} {MC MS : Nat} (hO : tKO K B RX12 cX12_readLaw 4) (hR : kR K = tRm 9 MC MS) (hG : tGr S) {n : Nat} (t0 : ty S 61 12) {k : tHI → tHJ → Prop} (hQ : tRet K B (tQv B (tPv S k)) 0 0 none) : ∀ (f : Nat) (I : tHI) (J : tHJ) (v1 : Int32) (v2 : Int32), F12_readLaw_L4 n S k f I J v1 v2 → tWG K B 0 0 S I J 4 [some (vR 61), some (vI v1), some (vI v2), none] [] := by
  intro f
  induction f with
  | zero => intro I J v1 v2 h; exact h.elim
  | succ f ih => intro I J v1 v2 h; exact W12_readLaw_4 hO hR hG t0 hQ ih h
set_option maxRecDepth 20000 in
theorem hc12_readLaw : tCV yX12_readLaw cX12_readLaw 4 none 0 := ⟨⟨(List.mem_of_getElem? (i := 799) rfl), (List.mem_of_getElem? (i := 5) (by decide +kernel)), by decide +kernel⟩, (List.mem_of_getElem? (i := 797) (by decide +kernel)), (List.mem_of_getElem? (i := 798) (by decide +kernel))⟩
set_option maxRecDepth 100000 in
theorem M12_readLaw {l : Launch} {B : tB} {S : tSH} {I : tHI} {J : tHJ} {n : Nat} {k : tHI → tHJ → Prop} (t0 : ty S 61 12) (h : F12_readLaw n S I J k) : Met l yX12_readLaw (tWs yX12_readLaw cX12_readLaw 4 none) (tRm 9 0 0) (tPc B [vR 61] S I J) (tQv B (tPv S k)) 0 0 (tA B) :=
  tEntry (by decide +kernel) [some (vR 61), none, none, none] rfl rfl (Nat.le_of_ble_eq_true rfl) (fun K hl hR hO hQ hG => by
  subst hl
  refine gBk (pe := 4) hO [oI (.iconst (-1)) (-1), o0 (.istore_n 1), oI (.iconst 0) 0, o0 (.istore_n 2)] (by decide +kernel) (And.intro (Nat.le_of_ble_eq_true rfl) (And.intro (Nat.le_of_ble_eq_true rfl) (show tWG K B 0 0 S I J 4 [some (vR 61), some (vI (-1)), some (vI 0), none] [] from ?_)))
  exact W12_readLaw_L4 hO hR hG t0 hQ n _ _ _ _ h)
set_option maxRecDepth 100000 in
theorem W12_force_43 {K : tK} {B : tB} {S : tSH} {MC MS : Nat} (hO : tKO K B RX12 cX12_force 2) (hR : kR K = tRm 3 MC MS) (hG : tGr S) {n : Nat} (t0 : ty S 61 12) {k : Int32 → tHI → tHJ → Prop} (hQ : tRet K B (tQi B (tPi S k)) 0 0 (some .int)) {I : tHI} {J : tHJ} {s0 : Int32} (h : F12_force_43 n S k I J s0) : tWG K B 0 0 S I J 43 [none, none] [vI s0] := by
  exact gIret hO hQ (by decide +kernel) ⟨rfl, h⟩
set_option maxRecDepth 100000 in
theorem W12_force_28 {K : tK} {B : tB} {S : tSH} {MC MS : Nat} (hO : tKO K B RX12 cX12_force 2) (hR : kR K = tRm 3 MC MS) (hG : tGr S) {n : Nat} (t0 : ty S 61 12) {k : Int32 → tHI → tHJ → Prop} (hQ : tRet K B (tQi B (tPi S k)) 0 0 (some .int)) {I : tHI} {J : tHJ} {v1 : Int32} (h : F12_force_28 n S k I J v1) : tWG K B 0 0 S I J 28 [some (vR 61), some (vI v1)] [] := by
  refine gBk (pe := 31) hO [o0 (.aload_n 0), oI (.iconst 4) 4, o0 (.iload_n 1)] (by decide +kernel) (show tWG K B 0 0 S I J 31 [some (vR 61), some (vI v1)] [vI v1, vI 4, vR 61] from ?_)
  refine gCVi_c hO (M12_change t0 h) hc12_change (idx := 244) (w := 535) (by decide +kernel) hR (by omega) t0 ⟨by decide, rfl⟩ (vs := [vI 4, vI v1]) (st := []) ⟨rfl, Nat.le_of_ble_eq_true rfl, rfl⟩ (by decide +kernel) (fun x4 I2 J3 h => ?_)
  refine gBk (pe := 43) hO [o0 (.goto 9)] (by decide +kernel) (show tWG K B 0 0 S I2 J3 43 [some (vR 61), some (vI v1)] [vI x4] from ?_)
  exact gWeak (L' := [none, none]) trivial (W12_force_43 hO hR hG t0 hQ h)
set_option maxRecDepth 20000 in
theorem hc12_force : tCV yX12_force cX12_force 2 (some .int) 1 := ⟨⟨(List.mem_of_getElem? (i := 1095) rfl), (List.mem_of_getElem? (i := 5) (by decide +kernel)), by decide +kernel⟩, (List.mem_of_getElem? (i := 1093) (by decide +kernel)), (List.mem_of_getElem? (i := 1094) (by decide +kernel))⟩
set_option maxRecDepth 100000 in
theorem M12_force {l : Launch} {B : tB} {S : tSH} {I : tHI} {J : tHJ} {v1 : Int32} {n : Nat} {k : Int32 → tHI → tHJ → Prop} (t0 : ty S 61 12) (h : F12_force n S I J v1 k) : Met l yX12_force (tWs yX12_force cX12_force 2 (some .int)) (tRm 3 0 0) (tPc B [vR 61, vI v1] S I J) (tQi B (tPi S k)) 0 0 (tA B) :=
  tEntry (by decide +kernel) [some (vR 61), some (vI v1)] rfl rfl (Nat.le_of_ble_eq_true rfl) (fun K hl hR hO hQ hG => by
  subst hl
  refine gBk (pe := 7) hO [o0 (.aload_n 0), oI (.iconst 0) 0, oF (.putfield 161) 12 0 316 0, o0 (.iload_n 1), oI (.iconst (-1)) (-1)] (by decide +kernel) (And.intro t0 (show tWG K B 0 0 S (uI I 61 0 0) J 7 [some (vR 61), some (vI v1)] [vI (-1), vI v1] from ?_))
  refine gIcEq hO (off := 21) (tgt := 28) (by decide +kernel) (by decide) (fun c1 => ?_) (fun c1 => ?_)
  · have h := h.1 c1
    exact W12_force_28 hO hR hG t0 hQ h
  · have h := h.2 c1
    refine gBk (pe := 22) hO [o0 (.iload_n 1), o0 .i2l, oJ (.lconst 0) 0 0, o0 (.aload_n 0), oF (.getfield 13) 12 3 179 63, oI (.iconst 3) 3, o0 .iaload, o0 .i2l, oJ (.lconst 1) 0 1, o0 .lsub] (by decide +kernel) (And.intro t0 (And.intro rfl (And.intro (tGr.off hG t0 (k := 3) rfl) (And.intro (tin (tGr.len hG t0 (k := 3) rfl (by decide)) (tvi (by decide +kernel))) (show tWG K B 0 0 S (uI I 61 0 0) J 22 [some (vR 61), some (vI v1)] [vL (((uI I 61 0 0) 63 3).toInt64 - 1), vL 0, vL v1.toInt64] from ?_)))))
    refine gCSi_z hO (M12_in) hc12_in (idx := 181) (w := 319) (by decide +kernel) hR (by omega) (vs := [vL v1.toInt64, vL 0, vL (((uI I 61 0 0) 63 3).toInt64 - 1)]) (st := []) ⟨rfl, Nat.le_of_ble_eq_true rfl, rfl⟩ (by decide +kernel) (fun z5 => ?_)
    refine gIfEq hO (off := 12) (tgt := 37) (by decide +kernel) (by decide) (fun c6 => ?_) (fun c6 => ?_)
    · have h := h.1 c6
      refine gBk (pe := 40) hO [o0 (.aload_n 0), oI (.bipush (-2)) (-2)] (by decide +kernel) (show tWG K B 0 0 S (uI I 61 0 0) J 40 [some (vR 61), some (vI v1)] [vI (-2), vR 61] from ?_)
      refine gCVi_c hO (M12_tell t0 h) hc12_tell (idx := 170) (w := 322) (by decide +kernel) hR (by omega) t0 ⟨by decide, rfl⟩ (vs := [vI (-2)]) (st := []) ⟨rfl, Nat.le_of_ble_eq_true rfl, rfl⟩ (by decide +kernel) (fun x9 I7 J8 h => ?_)
      exact gWeak (L' := [none, none]) trivial (W12_force_43 hO hR hG t0 hQ h)
    · have h := h.2 c6
      exact W12_force_28 hO hR hG t0 hQ h)
