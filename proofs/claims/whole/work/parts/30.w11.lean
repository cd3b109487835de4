set_option maxRecDepth 20000 in
theorem hc11_bend : tCV yX11_bend cX11_bend 5 (some .int) 4 := ⟨⟨(List.mem_of_getElem? (i := 397) rfl), (List.mem_of_getElem? (i := 2) (by decide +kernel)), by decide +kernel⟩, (List.mem_of_getElem? (i := 395) (by decide +kernel)), (List.mem_of_getElem? (i := 396) (by decide +kernel))⟩
set_option maxRecDepth 100000 in
theorem M11_bend {l : Launch} {B : tB} {S : tSH} {I : tHI} {J : tHJ} {v1 : Int32} {v2 : Int32} {v3 : Int32} {v4 : Int32} {n : Nat} {k : Int32 → tHI → tHJ → Prop} (t0 : ty S 0 11) (h : F11_bend n S I J v1 v2 v3 v4 k) : Met l yX11_bend (tWs yX11_bend cX11_bend 5 (some .int)) (tRm 4 0 0) (tPc B [vR 0, vI v1, vI v2, vI v3, vI v4] S I J) (tQi B (tPi S k)) 0 0 (tA B) :=
  tEntry (by decide +kernel) [some (vR 0), some (vI v1), some (vI v2), some (vI v3), some (vI v4)] rfl rfl (Nat.le_of_ble_eq_true rfl) (fun K hl hR hO hQ hG => by
  subst hl
  refine gBk (pe := 5) hO [o0 (.iload_n 1), o0 (.iload_n 2), o0 (.iload_n 3), o0 (.iload 4)] (by decide +kernel) (show tWG K B 0 0 S I J 5 [some (vR 0), some (vI v1), some (vI v2), some (vI v3), some (vI v4)] [vI v4, vI v3, vI v2, vI v1] from ?_)
  refine gCSi_z hO (M7_canBe) hc7_canBe (idx := 152) (w := 400) (by decide +kernel) hR (by omega) (vs := [vI v1, vI v2, vI v3, vI v4]) (st := []) ⟨rfl, Nat.le_of_ble_eq_true rfl, rfl⟩ (by decide +kernel) (fun z1 => ?_)
  refine gIfNe hO (off := 9) (tgt := 17) (by decide +kernel) (by decide) (fun c2 => ?_) (fun c2 => ?_)
  · have h := h.1 c2
    refine gBk (pe := 29) hO [o0 (.aload_n 0), oF (.getfield 12) 11 0 15 1, oF (.getfield 158) 8 1 398 7, oF (.getfield 162) 7 0 399 0, oI (.bipush 12) 12] (by decide +kernel) (And.intro t0 (And.intro rfl (And.intro (tGr.off hG t0 (k := 0) rfl) (And.intro rfl (And.intro (tGr.off hG (tGr.off hG t0 (k := 0) rfl) (k := 1) rfl) (show tWG K B 0 0 S I J 29 [some (vR 0), some (vI v1), some (vI v2), some (vI v3), some (vI v4)] [vI 12, vI (I 7 0)] from ?_))))))
    refine gIcLt hO (off := 10) (tgt := 39) (by decide +kernel) (by decide) (fun c3 => ?_) (fun c3 => ?_)
    · have h := h.1 c3
      refine gBk (pe := 60) hO [o0 (.aload_n 0), oF (.getfield 26) 11 3 21 34, oI (.iconst 0) 0, oF (.putfield 129) 1 1 244 0, o0 (.aload_n 0), o0 (.aload_n 0), oF (.getfield 12) 11 0 15 1, oF (.getfield 158) 8 1 398 7, o0 (.iload_n 1), o0 (.iload_n 2), o0 (.iload_n 3), o0 (.iload 4)] (by decide +kernel) (And.intro t0 (And.intro rfl (And.intro (tGr.off hG t0 (k := 3) rfl) (And.intro t0 (And.intro rfl (And.intro (tGr.off hG t0 (k := 0) rfl) (And.intro rfl (show tWG K B 0 0 S (uI I 34 1 0) J 60 [some (vR 0), some (vI v1), some (vI v2), some (vI v3), some (vI v4)] [vI v4, vI v3, vI v2, vI v1, vR 7, vR 0] from ?_))))))))
      refine gCVi_c hO (M7_add (tGr.off hG (tGr.off hG t0 (k := 0) rfl) (k := 1) rfl) h) hc7_add (idx := 163) (w := 403) (by decide +kernel) hR (by omega) (tGr.off hG (tGr.off hG t0 (k := 0) rfl) (k := 1) rfl) ⟨by decide, rfl⟩ (vs := [vI v1, vI v2, vI v3, vI v4]) (st := [vR 0]) ⟨rfl, Nat.le_of_ble_eq_true rfl, rfl⟩ (by decide +kernel) (fun x6 I4 J5 h => ?_)
      refine gCVi_c hO (M11_settle t0 h) hc11_settle (idx := 110) (w := 248) (by decide +kernel) hR (by omega) t0 ⟨by decide, rfl⟩ (vs := [vI x6]) (st := []) ⟨rfl, Nat.le_of_ble_eq_true rfl, rfl⟩ (by decide +kernel) (fun x9 I7 J8 h => ?_)
      exact gIret hO hQ (by decide +kernel) ⟨rfl, h⟩
    · have h := h.2 c3
      refine gBk (pe := 35) hO [o0 (.aload_n 0), oI (.bipush (-5)) (-5)] (by decide +kernel) (show tWG K B 0 0 S I J 35 [some (vR 0), some (vI v1), some (vI v2), some (vI v3), some (vI v4)] [vI (-5), vR 0] from ?_)
      refine gCVi_c hO (M11_settle t0 h) hc11_settle (idx := 110) (w := 248) (by decide +kernel) hR (by omega) t0 ⟨by decide, rfl⟩ (vs := [vI (-5)]) (st := []) ⟨rfl, Nat.le_of_ble_eq_true rfl, rfl⟩ (by decide +kernel) (fun x12 I10 J11 h => ?_)
      exact gIret hO hQ (by decide +kernel) ⟨rfl, h⟩
  · have h := h.2 c2
    refine gBk (pe := 13) hO [o0 (.aload_n 0), oI (.iconst (-1)) (-1)] (by decide +kernel) (show tWG K B 0 0 S I J 13 [some (vR 0), some (vI v1), some (vI v2), some (vI v3), some (vI v4)] [vI (-1), vR 0] from ?_)
    refine gCVi_c hO (M11_settle t0 h) hc11_settle (idx := 110) (w := 248) (by decide +kernel) hR (by omega) t0 ⟨by decide, rfl⟩ (vs := [vI (-1)]) (st := []) ⟨rfl, Nat.le_of_ble_eq_true rfl, rfl⟩ (by decide +kernel) (fun x15 I13 J14 h => ?_)
    exact gIret hO hQ (by decide +kernel) ⟨rfl, h⟩)
set_option maxRecDepth 20000 in
theorem hc11_clear : tCV yX11_clear cX11_clear 2 (some .int) 0 := ⟨⟨(List.mem_of_getElem? (i := 423) rfl), (List.mem_of_getElem? (i := 2) (by decide +kernel)), by decide +kernel⟩, (List.mem_of_getElem? (i := 421) (by decide +kernel)), (List.mem_of_getElem? (i := 422) (by decide +kernel))⟩
set_option maxRecDepth 100000 in
theorem M11_clear {l : Launch} {B : tB} {S : tSH} {I : tHI} {J : tHJ} {n : Nat} {k : Int32 → tHI → tHJ → Prop} (t0 : ty S 0 11) (h : F11_clear n S I J k) : Met l yX11_clear (tWs yX11_clear cX11_clear 2 (some .int)) (tRm 4 0 0) (tPc B [vR 0] S I J) (tQi B (tPi S k)) 0 0 (tA B) :=
  tEntry (by decide +kernel) [some (vR 0), none] rfl rfl (Nat.le_of_ble_eq_true rfl) (fun K hl hR hO hQ hG => by
  subst hl
  refine gBk (pe := 12) hO [o0 (.aload_n 0), oF (.getfield 12) 11 0 15 1, oF (.getfield 158) 8 1 398 7, oF (.getfield 162) 7 0 399 0, o0 (.istore_n 1), o0 (.iload_n 1)] (by decide +kernel) (And.intro t0 (And.intro rfl (And.intro (tGr.off hG t0 (k := 0) rfl) (And.intro rfl (And.intro (tGr.off hG (tGr.off hG t0 (k := 0) rfl) (k := 1) rfl) (And.intro (Nat.le_of_ble_eq_true rfl) (show tWG K B 0 0 S I J 12 [some (vR 0), some (vI (I 7 0))] [vI (I 7 0)] from ?_)))))))
  refine gIfNe hO (off := 10) (tgt := 22) (by decide +kernel) (by decide) (fun c1 => ?_) (fun c1 => ?_)
  · have h := h.1 c1
    refine gBk (pe := 65) hO [o0 (.aload_n 0), oF (.getfield 12) 11 0 15 1, oF (.getfield 158) 8 1 398 7, oI (.iconst 0) 0, oF (.putfield 162) 7 0 399 0, o0 (.aload_n 0), oF (.getfield 12) 11 0 15 1, oF (.getfield 158) 8 1 398 7, oI (.iconst 0) 0, oF (.putfield 166) 7 5 424 0, o0 (.aload_n 0), oF (.getfield 12) 11 0 15 1, oF (.getfield 169) 8 2 425 15, oI (.iconst 0) 0, oF (.putfield 172) 10 2 426 0, o0 (.aload_n 0), oF (.getfield 26) 11 3 21 34, oI (.iconst 0) 0, oF (.putfield 129) 1 1 244 0, o0 (.aload_n 0), o0 (.iload_n 1)] (by decide +kernel) (And.intro t0 (And.intro rfl (And.intro (tGr.off hG t0 (k := 0) rfl) (And.intro rfl (And.intro (tGr.off hG (tGr.off hG t0 (k := 0) rfl) (k := 1) rfl) (And.intro t0 (And.intro rfl (And.intro (tGr.off hG t0 (k := 0) rfl) (And.intro rfl (And.intro (tGr.off hG (tGr.off hG t0 (k := 0) rfl) (k := 1) rfl) (And.intro t0 (And.intro rfl (And.intro (tGr.off hG t0 (k := 0) rfl) (And.intro rfl (And.intro (tGr.off hG (tGr.off hG t0 (k := 0) rfl) (k := 2) rfl) (And.intro t0 (And.intro rfl (And.intro (tGr.off hG t0 (k := 3) rfl) (show tWG K B 0 0 S (uI (uI (uI (uI I 7 0 0) 7 5 0) 15 2 0) 34 1 0) J 65 [some (vR 0), some (vI (I 7 0))] [vI (I 7 0), vR 0] from ?_)))))))))))))))))))
    refine gCVi_c hO (M11_settle t0 h) hc11_settle (idx := 110) (w := 248) (by decide +kernel) hR (by omega) t0 ⟨by decide, rfl⟩ (vs := [vI (I 7 0)]) (st := []) ⟨rfl, Nat.le_of_ble_eq_true rfl, rfl⟩ (by decide +kernel) (fun x4 I2 J3 h => ?_)
    exact gIret hO hQ (by decide +kernel) ⟨rfl, h⟩
  · have h := h.2 c1
    refine gBk (pe := 18) hO [o0 (.aload_n 0), oI (.bipush (-3)) (-3)] (by decide +kernel) (show tWG K B 0 0 S I J 18 [some (vR 0), some (vI (I 7 0))] [vI (-3), vR 0] from ?_)
    refine gCVi_c hO (M11_settle t0 h) hc11_settle (idx := 110) (w := 248) (by decide +kernel) hR (by omega) t0 ⟨by decide, rfl⟩ (vs := [vI (-3)]) (st := []) ⟨rfl, Nat.le_of_ble_eq_true rfl, rfl⟩ (by decide +kernel) (fun x7 I5 J6 h => ?_)
    exact gIret hO hQ (by decide +kernel) ⟨rfl, h⟩)
set_option maxRecDepth 100000 in
theorem W11_at_26 {K : tK} {B : tB} {S : tSH} {MC MS : Nat} (hO : tKO K B RX11 cX11_at 4) (hR : kR K = tRm 6 MC MS) (hG : tGr S) {n : Nat} (t0 : ty S 0 11) {k : Int32 → tHI → tHJ → Prop} (hQ : tRet K B (tQi B (tPi S k)) 0 0 (some .int)) {I : tHI} {J : tHJ} (h : F11_at_26 n S k I J) : tWG K B 0 0 S I J 26 [none, none, none, none] [] := by
  refine gBk (pe := 29) hO [oI (.sipush (-1000)) (-1000)] (by decide +kernel) (show tWG K B 0 0 S I J 29 [none, none, none, none] [vI (-1000)] from ?_)
  exact gIret hO hQ (by decide +kernel) ⟨rfl, h⟩
set_option maxRecDepth 20000 in
theorem hc11_at : tCV yX11_at cX11_at 4 (some .int) 2 := ⟨⟨(List.mem_of_getElem? (i := 434) rfl), (List.mem_of_getElem? (i := 2) (by decide +kernel)), by decide +kernel⟩, (List.mem_of_getElem? (i := 432) (by decide +kernel)), (List.mem_of_getElem? (i := 433) (by decide +kernel))⟩
set_option maxRecDepth 100000 in
theorem M11_at {l : Launch} {B : tB} {S : tSH} {I : tHI} {J : tHJ} {v1 : Int32} {v2 : Int32} {n : Nat} {k : Int32 → tHI → tHJ → Prop} (t0 : ty S 0 11) (h : F11_at n S I J v1 v2 k) : Met l yX11_at (tWs yX11_at cX11_at 4 (some .int)) (tRm 6 0 0) (tPc B [vR 0, vI v1, vI v2] S I J) (tQi B (tPi S k)) 0 0 (tA B) :=
  tEntry (by decide +kernel) [some (vR 0), some (vI v1), some (vI v2), none] rfl rfl (Nat.le_of_ble_eq_true rfl) (fun K hl hR hO hQ hG => by
  subst hl
  refine gBk (pe := 10) hO [o0 (.aload_n 0), oF (.getfield 12) 11 0 15 1, oF (.getfield 158) 8 1 398 7, o0 (.astore_n 3), o0 (.aload_n 3), o0 (.iload_n 1)] (by decide +kernel) (And.intro t0 (And.intro rfl (And.intro (tGr.off hG t0 (k := 0) rfl) (And.intro rfl (And.intro (Nat.le_of_ble_eq_true rfl) (show tWG K B 0 0 S I J 10 [some (vR 0), some (vI v1), some (vI v2), some (vR 7)] [vI v1, vR 7] from ?_))))))
  refine gCVi_z hO (M7_has (tGr.off hG (tGr.off hG t0 (k := 0) rfl) (k := 1) rfl)) hc7_has (idx := 175) (w := 439) (by decide +kernel) hR (by omega) (tGr.off hG (tGr.off hG t0 (k := 0) rfl) (k := 1) rfl) ⟨by decide, rfl⟩ (vs := [vI v1]) (st := []) ⟨rfl, Nat.le_of_ble_eq_true rfl, rfl⟩ (by decide +kernel) (fun z1 => ?_)
  refine gIfEq hO (off := 13) (tgt := 26) (by decide +kernel) (by decide) (fun c2 => ?_) (fun c2 => ?_)
  · have h := h.1 c2
    exact gWeak (L' := [none, none, none, none]) trivial (W11_at_26 hO hR hG t0 hQ h)
  · have h := h.2 c2
    refine gBk (pe := 20) hO [o0 (.iload_n 2), oI (.iconst 0) 0, oI (.bipush 8) 8] (by decide +kernel) (show tWG K B 0 0 S I J 20 [some (vR 0), some (vI v1), some (vI v2), some (vR 7)] [vI 8, vI 0, vI v2] from ?_)
    refine gCSi_z hO (M11_within) hc11_within (idx := 106) (w := 245) (by decide +kernel) hR (by omega) (vs := [vI v2, vI 0, vI 8]) (st := []) ⟨rfl, Nat.le_of_ble_eq_true rfl, rfl⟩ (by decide +kernel) (fun z3 => ?_)
    refine gIfNe hO (off := 7) (tgt := 30) (by decide +kernel) (by decide) (fun c4 => ?_) (fun c4 => ?_)
    · have h := h.1 c4
      refine gBk (pe := 31) hO [o0 (.iload_n 2)] (by decide +kernel) (show tWG K B 0 0 S I J 31 [some (vR 0), some (vI v1), some (vI v2), some (vR 7)] [vI v2] from ?_)
      by_cases c5 : v2 = 0
      · have h := h.1 c5
        refine gSwIn hO (dflt := 57) (lo := 0) (hi := 3) (offs := #[29, 36, 43, 50]) (len := 29) (off := 29) (tgt := 60) 0 c5 (by decide +kernel) (by decide +kernel) ?_
        refine gBk (pe := 66) hO [o0 (.aload_n 3), oF (.getfield 176) 7 1 435 8, o0 (.iload_n 1), o0 .iaload] (by decide +kernel) (And.intro (tGr.off hG (tGr.off hG t0 (k := 0) rfl) (k := 1) rfl) (And.intro rfl (And.intro (tGr.off hG (tGr.off hG (tGr.off hG t0 (k := 0) rfl) (k := 1) rfl) (k := 1) rfl) (And.intro (tin (tGr.len hG (tGr.off hG (tGr.off hG t0 (k := 0) rfl) (k := 1) rfl) (k := 1) rfl (by decide)) h.1) (show tWG K B 0 0 S I J 66 [some (vR 0), some (vI v1), some (vI v2), some (vR 7)] [vI (I 8 v1.toNatClampNeg)] from ?_)))))
        have h := h.2
        exact gIret hO hQ (by decide +kernel) ⟨rfl, h⟩
      have h := h.2
      by_cases c6 : v2 = 1
      · have h := h.1 c6
        refine gSwIn hO (dflt := 57) (lo := 0) (hi := 3) (offs := #[29, 36, 43, 50]) (len := 29) (off := 36) (tgt := 67) 1 c6 (by decide +kernel) (by decide +kernel) ?_
        refine gBk (pe := 73) hO [o0 (.aload_n 3), oF (.getfield 179) 7 2 436 9, o0 (.iload_n 1), o0 .iaload] (by decide +kernel) (And.intro (tGr.off hG (tGr.off hG t0 (k := 0) rfl) (k := 1) rfl) (And.intro rfl (And.intro (tGr.off hG (tGr.off hG (tGr.off hG t0 (k := 0) rfl) (k := 1) rfl) (k := 2) rfl) (And.intro (tin (tGr.len hG (tGr.off hG (tGr.off hG t0 (k := 0) rfl) (k := 1) rfl) (k := 2) rfl (by decide)) h.1) (show tWG K B 0 0 S I J 73 [some (vR 0), some (vI v1), some (vI v2), some (vR 7)] [vI (I 9 v1.toNatClampNeg)] from ?_)))))
        have h := h.2
        exact gIret hO hQ (by decide +kernel) ⟨rfl, h⟩
      have h := h.2
      by_cases c7 : v2 = 2
      · have h := h.1 c7
        refine gSwIn hO (dflt := 57) (lo := 0) (hi := 3) (offs := #[29, 36, 43, 50]) (len := 29) (off := 43) (tgt := 74) 2 c7 (by decide +kernel) (by decide +kernel) ?_
        refine gBk (pe := 80) hO [o0 (.aload_n 3), oF (.getfield 182) 7 3 437 10, o0 (.iload_n 1), o0 .iaload] (by decide +kernel) (And.intro (tGr.off hG (tGr.off hG t0 (k := 0) rfl) (k := 1) rfl) (And.intro rfl (And.intro (tGr.off hG (tGr.off hG (tGr.off hG t0 (k := 0) rfl) (k := 1) rfl) (k := 3) rfl) (And.intro (tin (tGr.len hG (tGr.off hG (tGr.off hG t0 (k := 0) rfl) (k := 1) rfl) (k := 3) rfl (by decide)) h.1) (show tWG K B 0 0 S I J 80 [some (vR 0), some (vI v1), some (vI v2), some (vR 7)] [vI (I 10 v1.toNatClampNeg)] from ?_)))))
        have h := h.2
        exact gIret hO hQ (by decide +kernel) ⟨rfl, h⟩
      have h := h.2
      by_cases c8 : v2 = 3
      · have h := h.1 c8
        refine gSwIn hO (dflt := 57) (lo := 0) (hi := 3) (offs := #[29, 36, 43, 50]) (len := 29) (off := 50) (tgt := 81) 3 c8 (by decide +kernel) (by decide +kernel) ?_
        refine gBk (pe := 87) hO [o0 (.aload_n 3), oF (.getfield 185) 7 4 438 11, o0 (.iload_n 1), o0 .iaload] (by decide +kernel) (And.intro (tGr.off hG (tGr.off hG t0 (k := 0) rfl) (k := 1) rfl) (And.intro rfl (And.intro (tGr.off hG (tGr.off hG (tGr.off hG t0 (k := 0) rfl) (k := 1) rfl) (k := 4) rfl) (And.intro (tin (tGr.len hG (tGr.off hG (tGr.off hG t0 (k := 0) rfl) (k := 1) rfl) (k := 4) rfl (by decide)) h.1) (show tWG K B 0 0 S I J 87 [some (vR 0), some (vI v1), some (vI v2), some (vR 7)] [vI (I 11 v1.toNatClampNeg)] from ?_)))))
        have h := h.2
        exact gIret hO hQ (by decide +kernel) ⟨rfl, h⟩
      have h := h.2
      have hsw : swN 0 v2 4 := ⟨⟨⟨⟨True.intro, c5⟩, c6⟩, c7⟩, c8⟩
      have h := h hsw
      refine gSwOut hO (dflt := 57) (lo := 0) (hi := 3) (offs := #[29, 36, 43, 50]) (len := 29) (tgt := 88) (by decide +kernel) (sw_out (by decide) (by decide) hsw) (by decide) ?_
      refine gBk (pe := 92) hO [o0 (.aload_n 0), oF (.getfield 59) 11 8 38 48] (by decide +kernel) (And.intro t0 (And.intro rfl (show tWG K B 0 0 S I J 92 [some (vR 0), some (vI v1), some (vI v2), some (vR 7)] [vR 48] from ?_)))
      refine gCVv_c hO (M2_asItStands (tGr.off hG t0 (k := 8) rfl) h) hc2_asItStands (idx := 114) (w := 255) (by decide +kernel) hR (by omega) (tGr.off hG t0 (k := 8) rfl) ⟨by decide, rfl⟩ (vs := []) (st := []) ⟨rfl, Nat.le_of_ble_eq_true rfl, rfl⟩ (by decide +kernel) (fun I9 J10 h => ?_)
      refine gBk (pe := 103) hO [o0 (.aload_n 0), oF (.getfield 59) 11 8 38 48, o0 (.iload_n 2), oI (.iconst 4) 4, o0 .isub, o0 (.iload_n 1)] (by decide +kernel) (And.intro t0 (And.intro rfl (show tWG K B 0 0 S I9 J10 103 [some (vR 0), some (vI v1), some (vI v2), some (vR 7)] [vI v1, vI (v2 - 4), vR 48] from ?_)))
      refine gCVi_c hO (M2_tell (tGr.off hG t0 (k := 8) rfl) h) hc2_tell (idx := 188) (w := 443) (by decide +kernel) hR (by omega) (tGr.off hG t0 (k := 8) rfl) ⟨by decide, rfl⟩ (vs := [vI (v2 - 4), vI v1]) (st := []) ⟨rfl, Nat.le_of_ble_eq_true rfl, rfl⟩ (by decide +kernel) (fun x13 I11 J12 h => ?_)
      exact gIret hO hQ (by decide +kernel) ⟨rfl, h⟩
    · have h := h.2 c4
      exact gWeak (L' := [none, none, none, none]) trivial (W11_at_26 hO hR hG t0 hQ h))
set_option maxRecDepth 20000 in
theorem hc11_bars : tCV yX11_bars cX11_bars 3 (some .int) 1 := ⟨⟨(List.mem_of_getElem? (i := 529) rfl), (List.mem_of_getElem? (i := 2) (by decide +kernel)), by decide +kernel⟩, (List.mem_of_getElem? (i := 527) (by decide +kernel)), (List.mem_of_getElem? (i := 528) (by decide +kernel))⟩
set_option maxRecDepth 100000 in
theorem M11_bars {l : Launch} {B : tB} {S : tSH} {I : tHI} {J : tHJ} {v1 : Int32} {n : Nat} {k : Int32 → tHI → tHJ → Prop} (t0 : ty S 0 11) (h : F11_bars n S I J v1 k) : Met l yX11_bars (tWs yX11_bars cX11_bars 3 (some .int)) (tRm 4 0 0) (tPc B [vR 0, vI v1] S I J) (tQi B (tPi S k)) 0 0 (tA B) :=
  tEntry (by decide +kernel) [some (vR 0), some (vI v1), none] rfl rfl (Nat.le_of_ble_eq_true rfl) (fun K hl hR hO hQ hG => by
  subst hl
  refine gBk (pe := 5) hO [o0 (.iload_n 1), oI (.bipush (-9)) (-9), oI (.bipush 9) 9] (by decide +kernel) (show tWG K B 0 0 S I J 5 [some (vR 0), some (vI v1), none] [vI 9, vI (-9), vI v1] from ?_)
  refine gCSi_z hO (M11_within) hc11_within (idx := 106) (w := 245) (by decide +kernel) hR (by omega) (vs := [vI v1, vI (-9), vI 9]) (st := []) ⟨rfl, Nat.le_of_ble_eq_true rfl, rfl⟩ (by decide +kernel) (fun z1 => ?_)
  refine gIfNe hO (off := 9) (tgt := 17) (by decide +kernel) (by decide) (fun c2 => ?_) (fun c2 => ?_)
  · have h := h.1 c2
    refine gBk (pe := 44) hO [o0 (.aload_n 0), oF (.getfield 12) 11 0 15 1, oF (.getfield 169) 8 2 425 15, oF (.getfield 192) 10 0 530 0, o0 (.istore_n 2), o0 (.aload_n 0), oF (.getfield 12) 11 0 15 1, oF (.getfield 169) 8 2 425 15, o0 (.iload_n 1), oF (.putfield 192) 10 0 530 0, o0 (.aload_n 0), o0 (.iload_n 2), oI (.bipush 9) 9, o0 .iadd] (by decide +kernel) (And.intro t0 (And.intro rfl (And.intro (tGr.off hG t0 (k := 0) rfl) (And.intro rfl (And.intro (tGr.off hG (tGr.off hG t0 (k := 0) rfl) (k := 2) rfl) (And.intro (Nat.le_of_ble_eq_true rfl) (And.intro t0 (And.intro rfl (And.intro (tGr.off hG t0 (k := 0) rfl) (And.intro rfl (And.intro (tGr.off hG (tGr.off hG t0 (k := 0) rfl) (k := 2) rfl) (show tWG K B 0 0 S (uI I 15 0 v1) J 44 [some (vR 0), some (vI v1), some (vI (I 15 0))] [vI ((I 15 0) + 9), vR 0] from ?_))))))))))))
    refine gCVi_c hO (M11_settle t0 h) hc11_settle (idx := 110) (w := 248) (by decide +kernel) hR (by omega) t0 ⟨by decide, rfl⟩ (vs := [vI ((I 15 0) + 9)]) (st := []) ⟨rfl, Nat.le_of_ble_eq_true rfl, rfl⟩ (by decide +kernel) (fun x5 I3 J4 h => ?_)
    exact gIret hO hQ (by decide +kernel) ⟨rfl, h⟩
  · have h := h.2 c2
    refine gBk (pe := 13) hO [o0 (.aload_n 0), oI (.iconst (-1)) (-1)] (by decide +kernel) (show tWG K B 0 0 S I J 13 [some (vR 0), some (vI v1), none] [vI (-1), vR 0] from ?_)
    refine gCVi_c hO (M11_settle t0 h) hc11_settle (idx := 110) (w := 248) (by decide +kernel) hR (by omega) t0 ⟨by decide, rfl⟩ (vs := [vI (-1)]) (st := []) ⟨rfl, Nat.le_of_ble_eq_true rfl, rfl⟩ (by decide +kernel) (fun x8 I6 J7 h => ?_)
    exact gIret hO hQ (by decide +kernel) ⟨rfl, h⟩)
set_option maxRecDepth 20000 in
theorem hc11_terms : tCV yX11_terms cX11_terms 6 (some .int) 2 := ⟨⟨(List.mem_of_getElem? (i := 542) rfl), (List.mem_of_getElem? (i := 2) (by decide +kernel)), by decide +kernel⟩, (List.mem_of_getElem? (i := 540) (by decide +kernel)), (List.mem_of_getElem? (i := 541) (by decide +kernel))⟩
set_option maxRecDepth 100000 in
theorem M11_terms {l : Launch} {B : tB} {S : tSH} {I : tHI} {J : tHJ} {v1 : Int32} {v2 : Int32} {n : Nat} {k : Int32 → tHI → tHJ → Prop} (t0 : ty S 0 11) (h : F11_terms n S I J v1 v2 k) : Met l yX11_terms (tWs yX11_terms cX11_terms 6 (some .int)) (tRm 4 0 0) (tPc B [vR 0, vI v1, vI v2] S I J) (tQi B (tPi S k)) 0 0 (tA B) :=
  tEntry (by decide +kernel) [some (vR 0), some (vI v1), some (vI v2), none, none, none] rfl rfl (Nat.le_of_ble_eq_true rfl) (fun K hl hR hO hQ hG => by
  subst hl
  refine gBk (pe := 10) hO [o0 (.aload_n 0), oF (.getfield 12) 11 0 15 1, oF (.getfield 169) 8 2 425 15, o0 (.astore_n 3), o0 (.iload_n 1), oI (.iconst 2) 2] (by decide +kernel) (And.intro t0 (And.intro rfl (And.intro (tGr.off hG t0 (k := 0) rfl) (And.intro rfl (And.intro (Nat.le_of_ble_eq_true rfl) (show tWG K B 0 0 S I J 10 [some (vR 0), some (vI v1), some (vI v2), some (vR 15), none, none] [vI 2, vI v1] from ?_))))))
  have hj4 : ∀ (m5 : Int32), m5 = (if v1 = 2 then (V11_within v2 0 9) else (if (V11_within v1 0 1) = 0 then 0 else (if (V11_within v2 1 60) = 0 then (0 : Int32) else 1))) → tWG K B 0 0 S I J 47 [some (vR 0), some (vI v1), some (vI v2), some (vR 15), none, none] [vI m5] := by
    intro m5 em5
    subst em5
    refine gBk (pe := 51) hO [o0 (.istore 4), o0 (.iload 4)] (by decide +kernel) (And.intro (Nat.le_of_ble_eq_true rfl) (show tWG K B 0 0 S I J 51 [some (vR 0), some (vI v1), some (vI v2), some (vR 15), some (vI (if v1 = 2 then (V11_within v2 0 9) else (if (V11_within v1 0 1) = 0 then 0 else (if (V11_within v2 1 60) = 0 then (0 : Int32) else 1)))), none] [vI (if v1 = 2 then (V11_within v2 0 9) else (if (V11_within v1 0 1) = 0 then 0 else (if (V11_within v2 1 60) = 0 then (0 : Int32) else 1)))] from ?_))
    refine gIfNe hO (off := 9) (tgt := 60) (by decide +kernel) (by decide) (fun c12 => ?_) (fun c12 => ?_)
    · have h := h.1 c12
      refine gBk (pe := 62) hO [o0 (.aload_n 3), o0 (.iload_n 1)] (by decide +kernel) (show tWG K B 0 0 S I J 62 [some (vR 0), some (vI v1), some (vI v2), some (vR 15), some (vI (if v1 = 2 then (V11_within v2 0 9) else (if (V11_within v1 0 1) = 0 then 0 else (if (V11_within v2 1 60) = 0 then (0 : Int32) else 1)))), none] [vI v1, vR 15] from ?_)
      refine gCVi_p hO (M10_term (tGr.off hG (tGr.off hG t0 (k := 0) rfl) (k := 2) rfl)) hc10_term (idx := 195) (w := 543) (by decide +kernel) hR (by omega) (tGr.off hG (tGr.off hG t0 (k := 0) rfl) (k := 2) rfl) ⟨by decide, rfl⟩ (vs := [vI v1]) (st := []) ⟨rfl, Nat.le_of_ble_eq_true rfl, rfl⟩ (by decide +kernel) ?_
      refine gBk (pe := 70) hO [o0 (.istore 5), o0 (.aload_n 3), o0 (.iload_n 1), o0 (.iload_n 2)] (by decide +kernel) (And.intro (Nat.le_of_ble_eq_true rfl) (show tWG K B 0 0 S I J 70 [some (vR 0), some (vI v1), some (vI v2), some (vR 15), some (vI (if v1 = 2 then (V11_within v2 0 9) else (if (V11_within v1 0 1) = 0 then 0 else (if (V11_within v2 1 60) = 0 then (0 : Int32) else 1)))), some (vI (V10_term S I J 15 v1))] [vI v2, vI v1, vR 15] from ?_))
      refine gCVv_c hO (M10_setTerm (tGr.off hG (tGr.off hG t0 (k := 0) rfl) (k := 2) rfl) h) hc10_setTerm (idx := 198) (w := 547) (by decide +kernel) hR (by omega) (tGr.off hG (tGr.off hG t0 (k := 0) rfl) (k := 2) rfl) ⟨by decide, rfl⟩ (vs := [vI v1, vI v2]) (st := []) ⟨rfl, Nat.le_of_ble_eq_true rfl, rfl⟩ (by decide +kernel) (fun I13 J14 h => ?_)
      refine gBk (pe := 76) hO [o0 (.aload_n 0), o0 (.iload 5)] (by decide +kernel) (show tWG K B 0 0 S I13 J14 76 [some (vR 0), some (vI v1), some (vI v2), some (vR 15), some (vI (if v1 = 2 then (V11_within v2 0 9) else (if (V11_within v1 0 1) = 0 then 0 else (if (V11_within v2 1 60) = 0 then (0 : Int32) else 1)))), some (vI (V10_term S I J 15 v1))] [vI (V10_term S I J 15 v1), vR 0] from ?_)
      refine gCVi_c hO (M11_settle t0 h) hc11_settle (idx := 110) (w := 248) (by decide +kernel) hR (by omega) t0 ⟨by decide, rfl⟩ (vs := [vI (V10_term S I J 15 v1)]) (st := []) ⟨rfl, Nat.le_of_ble_eq_true rfl, rfl⟩ (by decide +kernel) (fun x17 I15 J16 h => ?_)
      exact gIret hO hQ (by decide +kernel) ⟨rfl, h⟩
    · have h := h.2 c12
      refine gBk (pe := 56) hO [o0 (.aload_n 0), oI (.iconst (-1)) (-1)] (by decide +kernel) (show tWG K B 0 0 S I J 56 [some (vR 0), some (vI v1), some (vI v2), some (vR 15), some (vI (if v1 = 2 then (V11_within v2 0 9) else (if (V11_within v1 0 1) = 0 then 0 else (if (V11_within v2 1 60) = 0 then (0 : Int32) else 1)))), none] [vI (-1), vR 0] from ?_)
      refine gCVi_c hO (M11_settle t0 h) hc11_settle (idx := 110) (w := 248) (by decide +kernel) hR (by omega) t0 ⟨by decide, rfl⟩ (vs := [vI (-1)]) (st := []) ⟨rfl, Nat.le_of_ble_eq_true rfl, rfl⟩ (by decide +kernel) (fun x20 I18 J19 h => ?_)
      exact gIret hO hQ (by decide +kernel) ⟨rfl, h⟩
  refine gIcNe hO (off := 13) (tgt := 23) (by decide +kernel) (by decide) (fun c6 => ?_) (fun c6 => ?_)
  · refine gBk (pe := 26) hO [o0 (.iload_n 1), oI (.iconst 0) 0, oI (.iconst 1) 1] (by decide +kernel) (show tWG K B 0 0 S I J 26 [some (vR 0), some (vI v1), some (vI v2), some (vR 15), none, none] [vI 1, vI 0, vI v1] from ?_)
    refine gCSi_z hO (M11_within) hc11_within (idx := 106) (w := 245) (by decide +kernel) hR (by omega) (vs := [vI v1, vI 0, vI 1]) (st := []) ⟨rfl, Nat.le_of_ble_eq_true rfl, rfl⟩ (by decide +kernel) (fun z7 => ?_)
    refine gIfEq hO (off := 17) (tgt := 46) (by decide +kernel) (by decide) (fun c8 => ?_) (fun c8 => ?_)
    · refine gBk (pe := 47) hO [oI (.iconst 0) 0] (by decide +kernel) (show tWG K B 0 0 S I J 47 [some (vR 0), some (vI v1), some (vI v2), some (vR 15), none, none] [vI 0] from ?_)
      exact (hj4 _ (Eq.symm ((if_neg c6).trans (if_pos c8))))
    · refine gBk (pe := 36) hO [o0 (.iload_n 2), oI (.iconst 1) 1, oI (.bipush 60) 60] (by decide +kernel) (show tWG K B 0 0 S I J 36 [some (vR 0), some (vI v1), some (vI v2), some (vR 15), none, none] [vI 60, vI 1, vI v2] from ?_)
      refine gCSi_z hO (M11_within) hc11_within (idx := 106) (w := 245) (by decide +kernel) hR (by omega) (vs := [vI v2, vI 1, vI 60]) (st := []) ⟨rfl, Nat.le_of_ble_eq_true rfl, rfl⟩ (by decide +kernel) (fun z9 => ?_)
      refine gIfEq hO (off := 7) (tgt := 46) (by decide +kernel) (by decide) (fun c10 => ?_) (fun c10 => ?_)
      · refine gBk (pe := 47) hO [oI (.iconst 0) 0] (by decide +kernel) (show tWG K B 0 0 S I J 47 [some (vR 0), some (vI v1), some (vI v2), some (vR 15), none, none] [vI 0] from ?_)
        exact (hj4 _ (Eq.symm ((if_neg c6).trans ((if_neg c8).trans (if_pos c10)))))
      · refine gBk (pe := 47) hO [oI (.iconst 1) 1, o0 (.goto 4)] (by decide +kernel) (show tWG K B 0 0 S I J 47 [some (vR 0), some (vI v1), some (vI v2), some (vR 15), none, none] [vI 1] from ?_)
        exact (hj4 _ (Eq.symm ((if_neg c6).trans ((if_neg c8).trans (if_neg c10)))))
  · refine gBk (pe := 17) hO [o0 (.iload_n 2), oI (.iconst 0) 0, oI (.bipush 9) 9] (by decide +kernel) (show tWG K B 0 0 S I J 17 [some (vR 0), some (vI v1), some (vI v2), some (vR 15), none, none] [vI 9, vI 0, vI v2] from ?_)
    refine gCSi_z hO (M11_within) hc11_within (idx := 106) (w := 245) (by decide +kernel) hR (by omega) (vs := [vI v2, vI 0, vI 9]) (st := []) ⟨rfl, Nat.le_of_ble_eq_true rfl, rfl⟩ (by decide +kernel) (fun z11 => ?_)
    refine gBk (pe := 47) hO [o0 (.goto 27)] (by decide +kernel) (show tWG K B 0 0 S I J 47 [some (vR 0), some (vI v1), some (vI v2), some (vR 15), none, none] [vI (V11_within v2 0 9)] from ?_)
    exact (hj4 _ (Eq.symm (if_pos c6))))
set_option maxRecDepth 100000 in
theorem W11_row_23 {K : tK} {B : tB} {S : tSH} {MC MS : Nat} (hO : tKO K B RX11 cX11_row 4) (hR : kR K = tRm 5 MC MS) (hG : tGr S) {n : Nat} (t0 : ty S 0 11) {k : Int32 → tHI → tHJ → Prop} (hQ : tRet K B (tQi B (tPi S k)) 0 0 (some .int)) {kb23 : tHI → tHJ → Int32 → Int32 → Int32 → Prop} (hkb23 : ∀ (I : tHI) (J : tHJ) (v1 : Int32) (v2 : Int32) (v3 : Int32), kb23 I J v1 v2 v3 → tWG K B 0 0 S I J 23 [some (vR 0), some (vI v1), some (vI v2), some (vI v3)] []) {I : tHI} {J : tHJ} {v1 : Int32} {v2 : Int32} {v3 : Int32} (h : F11_row_23 n S k kb23 I J v1 v2 v3) : tWG K B 0 0 S I J 23 [some (vR 0), some (vI v1), some (vI v2), some (vI v3)] [] := by
  refine gBk (pe := 31) hO [o0 (.iload_n 3), o0 (.aload_n 0), oF (.getfield 36) 11 5 26 38, oF (.getfield 202) 9 1 559 0] (by decide +kernel) (And.intro t0 (And.intro rfl (And.intro (tGr.off hG t0 (k := 5) rfl) (show tWG K B 0 0 S I J 31 [some (vR 0), some (vI v1), some (vI v2), some (vI v3)] [vI (I 38 1), vI v3] from ?_))))
  refine gIcGe hO (off := 26) (tgt := 57) (by decide +kernel) (by decide) (fun c2 => ?_) (fun c2 => ?_)
  · have h := h.1 c2
    refine gBk (pe := 80) hO [o0 (.aload_n 0), oF (.getfield 36) 11 5 26 38, oI (.iconst 0) 0, oF (.putfield 202) 9 1 559 0, o0 (.aload_n 0), o0 (.iload_n 2), oF (.putfield 100) 11 17 54 0, o0 (.aload_n 0), oF (.getfield 26) 11 3 21 34, oI (.iconst 0) 0, oF (.putfield 129) 1 1 244 0, o0 (.aload_n 0), o0 (.iload_n 1)] (by decide +kernel) (And.intro t0 (And.intro rfl (And.intro (tGr.off hG t0 (k := 5) rfl) (And.intro t0 (And.intro t0 (And.intro rfl (And.intro (tGr.off hG t0 (k := 3) rfl) (show tWG K B 0 0 S (uI (uI (uI I 38 1 0) 0 17 v2) 34 1 0) J 80 [some (vR 0), some (vI v1), some (vI v2), some (vI v3)] [vI v1, vR 0] from ?_))))))))
    refine gCVi_c hO (M11_settle t0 h) hc11_settle (idx := 110) (w := 248) (by decide +kernel) hR (by omega) t0 ⟨by decide, rfl⟩ (vs := [vI v1]) (st := []) ⟨rfl, Nat.le_of_ble_eq_true rfl, rfl⟩ (by decide +kernel) (fun x5 I3 J4 h => ?_)
    exact gIret hO hQ (by decide +kernel) ⟨rfl, h⟩
  · have h := h.2 c2
    refine gBk (pe := 36) hO [o0 (.aload_n 0), o0 (.iload_n 3)] (by decide +kernel) (show tWG K B 0 0 S I J 36 [some (vR 0), some (vI v1), some (vI v2), some (vI v3)] [vI v3, vR 0] from ?_)
    refine gCVi_b hO (M11_addFromTape t0 h) hc11_addFromTape (idx := 207) (w := 585) (by decide +kernel) hR (by omega) t0 ⟨by decide, rfl⟩ (vs := [vI v3]) (st := []) ⟨rfl, Nat.le_of_ble_eq_true rfl, rfl⟩ (by decide +kernel) (fun x8 I6 J7 z9 h => ?_)
    have h := h z9
    have hj10 : ∀ (m11 : Int32) (m12 : Int32), m11 = (if x8 = 0 then v1 else (v1 + 1)) → m12 = (if x8 = 0 then (v2 + 1) else v2) → tWG K B 0 0 S I6 J7 51 [some (vR 0), some (vI m11), some (vI m12), some (vI v3)] [] := by
      intro m11 m12 em11 em12
      subst em11
      subst em12
      refine gBk (pe := 23) hO [oI (.iinc 3 4) 4, o0 (.goto (-31))] (by decide +kernel) (show tWG K B 0 0 S I6 J7 23 [some (vR 0), some (vI (if x8 = 0 then v1 else (v1 + 1))), some (vI (if x8 = 0 then (v2 + 1) else v2)), some (vI (v3 + 4))] [] from ?_)
      exact hkb23 _ _ _ _ _ h
    refine gIfEq hO (off := 9) (tgt := 48) (by decide +kernel) (by decide) (fun c13 => ?_) (fun c13 => ?_)
    · refine gBk (pe := 51) hO [oI (.iinc 2 1) 1] (by decide +kernel) (show tWG K B 0 0 S I6 J7 51 [some (vR 0), some (vI v1), some (vI (v2 + 1)), some (vI v3)] [] from ?_)
      exact (hj10 _ _ (Eq.symm (if_pos c13)) (Eq.symm (if_pos c13)))
    · refine gBk (pe := 51) hO [oI (.iinc 1 1) 1, o0 (.goto 6)] (by decide +kernel) (show tWG K B 0 0 S I6 J7 51 [some (vR 0), some (vI (v1 + 1)), some (vI v2), some (vI v3)] [] from ?_)
      exact (hj10 _ _ (Eq.symm (if_neg c13)) (Eq.symm (if_neg c13)))
theorem W11_row_L23 {K : tK} {B : tB} {S : tSH} {MC MS : Nat} (hO : tKO K B RX11 cX11_row 4) (hR : kR K = tRm 5 MC MS) (hG : tGr S) {n : Nat} (t0 : ty S 0 11) {k : Int32 → tHI → tHJ → Prop} (hQ : tRet K B (tQi B (tPi S k)) 0 0 (some .int)) : ∀ (f : Nat) (I : tHI) (J : tHJ) (v1 : Int32) (v2 : Int32) (v3 : Int32), F11_row_L23 n S k f I J v1 v2 v3 → tWG K B 0 0 S I J 23 [some (vR 0), some (vI v1), some (vI v2), some (vI v3)] [] := by
  intro f
  induction f with
  | zero => intro I J v1 v2 v3 h; exact h.elim
  | succ f ih => intro I J v1 v2 v3 h; exact W11_row_23 hO hR hG t0 hQ ih h
set_option maxRecDepth 20000 in
theorem hc11_row : tCV yX11_row cX11_row 4 (some .int) 0 := ⟨⟨(List.mem_of_getElem? (i := 584) rfl), (List.mem_of_getElem? (i := 2) (by decide +kernel)), by decide +kernel⟩, (List.mem_of_getElem? (i := 582) (by decide +kernel)), (List.mem_of_getElem? (i := 583) (by decide +kernel))⟩
set_option maxRecDepth 100000 in
theorem M11_row {l : Launch} {B : tB} {S : tSH} {I : tHI} {J : tHJ} {n : Nat} {k : Int32 → tHI → tHJ → Prop} (t0 : ty S 0 11) (h : F11_row n S I J k) : Met l yX11_row (tWs yX11_row cX11_row 4 (some .int)) (tRm 5 0 0) (tPc B [vR 0] S I J) (tQi B (tPi S k)) 0 0 (tA B) :=
  tEntry (by decide +kernel) [some (vR 0), none, none, none] rfl rfl (Nat.le_of_ble_eq_true rfl) (fun K hl hR hO hQ hG => by
  subst hl
  refine gBk (pe := 7) hO [o0 (.aload_n 0), oF (.getfield 36) 11 5 26 38, oF (.getfield 202) 9 1 559 0] (by decide +kernel) (And.intro t0 (And.intro rfl (And.intro (tGr.off hG t0 (k := 5) rfl) (show tWG K B 0 0 S I J 7 [some (vR 0), none, none, none] [vI (I 38 1)] from ?_))))
  refine gIfNe hO (off := 10) (tgt := 17) (by decide +kernel) (by decide) (fun c1 => ?_) (fun c1 => ?_)
  · have h := h.1 c1
    refine gBk (pe := 23) hO [oI (.iconst 0) 0, o0 (.istore_n 1), oI (.iconst 0) 0, o0 (.istore_n 2), oI (.iconst 0) 0, o0 (.istore_n 3)] (by decide +kernel) (And.intro (Nat.le_of_ble_eq_true rfl) (And.intro (Nat.le_of_ble_eq_true rfl) (And.intro (Nat.le_of_ble_eq_true rfl) (show tWG K B 0 0 S I J 23 [some (vR 0), some (vI 0), some (vI 0), some (vI 0)] [] from ?_))))
    exact W11_row_L23 hO hR hG t0 hQ n _ _ _ _ _ h
  · have h := h.2 c1
    refine gBk (pe := 13) hO [o0 (.aload_n 0), oI (.bipush (-6)) (-6)] (by decide +kernel) (show tWG K B 0 0 S I J 13 [some (vR 0), none, none, none] [vI (-6), vR 0] from ?_)
    refine gCVi_c hO (M11_settle t0 h) hc11_settle (idx := 110) (w := 248) (by decide +kernel) hR (by omega) t0 ⟨by decide, rfl⟩ (vs := [vI (-6)]) (st := []) ⟨rfl, Nat.le_of_ble_eq_true rfl, rfl⟩ (by decide +kernel) (fun x16 I14 J15 h => ?_)
    exact gIret hO hQ (by decide +kernel) ⟨rfl, h⟩)
set_option maxRecDepth 20000 in
theorem hc11_force : tCV yX11_force cX11_force 3 (some .int) 1 := ⟨⟨(List.mem_of_getElem? (i := 1090) rfl), (List.mem_of_getElem? (i := 2) (by decide +kernel)), by decide +kernel⟩, (List.mem_of_getElem? (i := 1088) (by decide +kernel)), (List.mem_of_getElem? (i := 1089) (by decide +kernel))⟩
set_option maxRecDepth 100000 in
theorem M11_force {l : Launch} {B : tB} {S : tSH} {I : tHI} {J : tHJ} {v1 : Int32} {n : Nat} {k : Int32 → tHI → tHJ → Prop} (t0 : ty S 0 11) (h : F11_force n S I J v1 k) : Met l yX11_force (tWs yX11_force cX11_force 3 (some .int)) (tRm 4 0 0) (tPc B [vR 0, vI v1] S I J) (tQi B (tPi S k)) 0 0 (tA B) :=
  tEntry (by decide +kernel) [some (vR 0), some (vI v1), none] rfl rfl (Nat.le_of_ble_eq_true rfl) (fun K hl hR hO hQ hG => by
  subst hl
  refine gBk (pe := 11) hO [o0 (.iload_n 1), oI (.iconst (-1)) (-1), o0 (.aload_n 0), oF (.getfield 12) 11 0 15 1, oF (.getfield 213) 8 4 610 0, oI (.iconst 1) 1, o0 .isub] (by decide +kernel) (And.intro t0 (And.intro rfl (And.intro (tGr.off hG t0 (k := 0) rfl) (show tWG K B 0 0 S I J 11 [some (vR 0), some (vI v1), none] [vI ((I 1 4) - 1), vI (-1), vI v1] from ?_))))
  refine gCSi_z hO (M11_within) hc11_within (idx := 106) (w := 245) (by decide +kernel) hR (by omega) (vs := [vI v1, vI (-1), vI ((I 1 4) - 1)]) (st := []) ⟨rfl, Nat.le_of_ble_eq_true rfl, rfl⟩ (by decide +kernel) (fun z1 => ?_)
  refine gIfNe hO (off := 10) (tgt := 24) (by decide +kernel) (by decide) (fun c2 => ?_) (fun c2 => ?_)
  · have h := h.1 c2
    refine gBk (pe := 42) hO [o0 (.aload_n 0), oF (.getfield 12) 11 0 15 1, oF (.getfield 282) 8 5 1091 0, o0 (.istore_n 2), o0 (.aload_n 0), oF (.getfield 12) 11 0 15 1, o0 (.iload_n 1), oF (.putfield 282) 8 5 1091 0, o0 (.aload_n 0), oI (.iconst 0) 0] (by decide +kernel) (And.intro t0 (And.intro rfl (And.intro (tGr.off hG t0 (k := 0) rfl) (And.intro (Nat.le_of_ble_eq_true rfl) (And.intro t0 (And.intro rfl (And.intro (tGr.off hG t0 (k := 0) rfl) (show tWG K B 0 0 S (uI I 1 5 v1) J 42 [some (vR 0), some (vI v1), some (vI (I 1 5))] [vI 0, vR 0] from ?_))))))))
    refine gCVi_c hO (M11_settle t0 h) hc11_settle (idx := 110) (w := 248) (by decide +kernel) hR (by omega) t0 ⟨by decide, rfl⟩ (vs := [vI 0]) (st := []) ⟨rfl, Nat.le_of_ble_eq_true rfl, rfl⟩ (by decide +kernel) (fun x5 I3 J4 h => ?_)
    refine gBk (pe := 47) hO [o0 .pop, o0 (.iload_n 2)] (by decide +kernel) (show tWG K B 0 0 S I3 J4 47 [some (vR 0), some (vI v1), some (vI (I 1 5))] [vI (I 1 5)] from ?_)
    exact gIret hO hQ (by decide +kernel) ⟨rfl, h⟩
  · have h := h.2 c2
    refine gBk (pe := 20) hO [o0 (.aload_n 0), oI (.bipush (-2)) (-2)] (by decide +kernel) (show tWG K B 0 0 S I J 20 [some (vR 0), some (vI v1), none] [vI (-2), vR 0] from ?_)
    refine gCVi_c hO (M11_settle t0 h) hc11_settle (idx := 110) (w := 248) (by decide +kernel) hR (by omega) t0 ⟨by decide, rfl⟩ (vs := [vI (-2)]) (st := []) ⟨rfl, Nat.le_of_ble_eq_true rfl, rfl⟩ (by decide +kernel) (fun x8 I6 J7 h => ?_)
    exact gIret hO hQ (by decide +kernel) ⟨rfl, h⟩)
set_option maxRecDepth 100000 in
theorem W11_whyNot_191 {K : tK} {B : tB} {S : tSH} {MC MS : Nat} (hO : tKO K B RX11 cX11_whyNot 6) (hR : kR K = tRm 6 MC MS) (hG : tGr S) {n : Nat} (t0 : ty S 0 11) {k : Int32 → tHI → tHJ → Prop} (hQ : tRet K B (tQi B (tPi S k)) 0 0 (some .int)) {I : tHI} {J : tHJ} {s0 : Int32} (h : F11_whyNot_191 n S k I J s0) : tWG K B 0 0 S I J 191 [none, none, none, none, none, none] [vI s0] := by
  exact gIret hO hQ (by decide +kernel) ⟨rfl, h⟩
set_option maxRecDepth 100000 in
theorem W11_whyNot_185 {K : tK} {B : tB} {S : tSH} {MC MS : Nat} (hO : tKO K B RX11 cX11_whyNot 6) (hR : kR K = tRm 6 MC MS) (hG : tGr S) {n : Nat} (t0 : ty S 0 11) {k : Int32 → tHI → tHJ → Prop} (hQ : tRet K B (tQi B (tPi S k)) 0 0 (some .int)) {I : tHI} {J : tHJ} (h : F11_whyNot_185 n S k I J) : tWG K B 0 0 S I J 185 [none, none, none, none, none, none] [] := by
  refine gBk (pe := 191) hO [oI (.bipush (-3)) (-3), o0 (.goto 4)] (by decide +kernel) (show tWG K B 0 0 S I J 191 [none, none, none, none, none, none] [vI (-3)] from ?_)
  exact W11_whyNot_191 hO hR hG t0 hQ h
set_option maxRecDepth 20000 in
theorem hc11_whyNot : tCV yX11_whyNot cX11_whyNot 6 (some .int) 3 := ⟨⟨(List.mem_of_getElem? (i := 946) rfl), (List.mem_of_getElem? (i := 2) (by decide +kernel)), by decide +kernel⟩, (List.mem_of_getElem? (i := 944) (by decide +kernel)), (List.mem_of_getElem? (i := 945) (by decide +kernel))⟩
set_option maxRecDepth 100000 in
theorem M11_whyNot {l : Launch} {B : tB} {S : tSH} {I : tHI} {J : tHJ} {v1 : Int32} {v2 : Int32} {v3 : Int32} {n : Nat} {k : Int32 → tHI → tHJ → Prop} (t0 : ty S 0 11) (h : F11_whyNot n S I J v1 v2 v3 k) : Met l yX11_whyNot (tWs yX11_whyNot cX11_whyNot 6 (some .int)) (tRm 6 0 0) (tPc B [vR 0, vI v1, vI v2, vI v3] S I J) (tQi B (tPi S k)) 0 0 (tA B) :=
  tEntry (by decide +kernel) [some (vR 0), some (vI v1), some (vI v2), some (vI v3), none, none] rfl rfl (Nat.le_of_ble_eq_true rfl) (fun K hl hR hO hQ hG => by
  subst hl
  refine gBk (pe := 19) hO [o0 (.aload_n 0), oF (.getfield 12) 11 0 15 1, oF (.getfield 169) 8 2 425 15, o0 (.astore 4), o0 (.aload_n 0), oF (.getfield 12) 11 0 15 1, oF (.getfield 120) 8 0 242 2, o0 (.astore 5), o0 (.iload_n 1)] (by decide +kernel) (And.intro t0 (And.intro rfl (And.intro (tGr.off hG t0 (k := 0) rfl) (And.intro rfl (And.intro (Nat.le_of_ble_eq_true rfl) (And.intro t0 (And.intro rfl (And.intro (tGr.off hG t0 (k := 0) rfl) (And.intro rfl (And.intro (Nat.le_of_ble_eq_true rfl) (show tWG K B 0 0 S I J 19 [some (vR 0), some (vI v1), some (vI v2), some (vI v3), some (vR 15), some (vR 2)] [vI v1] from ?_)))))))))))
  by_cases c1 : v1 = 0
  · have h := h.1 c1
    refine gSwIn hO (dflt := 214) (lo := 0) (hi := 4) (offs := #[33, 52, 71, 103, 173]) (len := 33) (off := 33) (tgt := 52) 0 c1 (by decide +kernel) (by decide +kernel) ?_
    refine gBk (pe := 59) hO [o0 (.iload_n 2), oI (.iconst 1) 1, o0 (.aload 4), oF (.getfield 307) 10 6 947 0] (by decide +kernel) (And.intro (tGr.off hG (tGr.off hG t0 (k := 0) rfl) (k := 2) rfl) (show tWG K B 0 0 S I J 59 [some (vR 0), some (vI v1), some (vI v2), some (vI v3), some (vR 15), some (vR 2)] [vI (I 15 6), vI 1, vI v2] from ?_))
    refine gCSi_z hO (M11_within) hc11_within (idx := 106) (w := 245) (by decide +kernel) hR (by omega) (vs := [vI v2, vI 1, vI (I 15 6)]) (st := []) ⟨rfl, Nat.le_of_ble_eq_true rfl, rfl⟩ (by decide +kernel) (fun z2 => ?_)
    have hj3 : ∀ (m4 : Int32), m4 = (if (V11_within v2 1 (I 15 6)) = 0 then ((-1) : Int32) else 0) → tWG K B 0 0 S I J 70 [none, none, none, none, none, none] [vI m4] := by
      intro m4 em4
      subst em4
      exact gIret hO hQ (by decide +kernel) ⟨rfl, h⟩
    refine gIfEq hO (off := 7) (tgt := 69) (by decide +kernel) (by decide) (fun c5 => ?_) (fun c5 => ?_)
    · refine gBk (pe := 70) hO [oI (.iconst (-1)) (-1)] (by decide +kernel) (show tWG K B 0 0 S I J 70 [some (vR 0), some (vI v1), some (vI v2), some (vI v3), some (vR 15), some (vR 2)] [vI (-1)] from ?_)
      exact gWeak (L' := [none, none, none, none, none, none]) trivial (hj3 _ (Eq.symm (if_pos c5)))
    · refine gBk (pe := 70) hO [oI (.iconst 0) 0, o0 (.goto 4)] (by decide +kernel) (show tWG K B 0 0 S I J 70 [some (vR 0), some (vI v1), some (vI v2), some (vI v3), some (vR 15), some (vR 2)] [vI 0] from ?_)
      exact gWeak (L' := [none, none, none, none, none, none]) trivial (hj3 _ (Eq.symm (if_neg c5)))
  have h := h.2
  by_cases c6 : v1 = 1
  · have h := h.1 c6
    refine gSwIn hO (dflt := 214) (lo := 0) (hi := 4) (offs := #[33, 52, 71, 103, 173]) (len := 33) (off := 52) (tgt := 71) 1 c6 (by decide +kernel) (by decide +kernel) ?_
    refine gBk (pe := 78) hO [o0 (.iload_n 2), oI (.iconst 1) 1, o0 (.aload 4), oF (.getfield 310) 10 7 948 0] (by decide +kernel) (And.intro (tGr.off hG (tGr.off hG t0 (k := 0) rfl) (k := 2) rfl) (show tWG K B 0 0 S I J 78 [some (vR 0), some (vI v1), some (vI v2), some (vI v3), some (vR 15), some (vR 2)] [vI (I 15 7), vI 1, vI v2] from ?_))
    refine gCSi_z hO (M11_within) hc11_within (idx := 106) (w := 245) (by decide +kernel) hR (by omega) (vs := [vI v2, vI 1, vI (I 15 7)]) (st := []) ⟨rfl, Nat.le_of_ble_eq_true rfl, rfl⟩ (by decide +kernel) (fun z7 => ?_)
    have hj8 : ∀ (m9 : Int32), m9 = (if (V11_within v2 1 (I 15 7)) = 0 then ((-1) : Int32) else 0) → tWG K B 0 0 S I J 89 [none, none, none, none, none, none] [vI m9] := by
      intro m9 em9
      subst em9
      exact gIret hO hQ (by decide +kernel) ⟨rfl, h⟩
    refine gIfEq hO (off := 7) (tgt := 88) (by decide +kernel) (by decide) (fun c10 => ?_) (fun c10 => ?_)
    · refine gBk (pe := 89) hO [oI (.iconst (-1)) (-1)] (by decide +kernel) (show tWG K B 0 0 S I J 89 [some (vR 0), some (vI v1), some (vI v2), some (vI v3), some (vR 15), some (vR 2)] [vI (-1)] from ?_)
      exact gWeak (L' := [none, none, none, none, none, none]) trivial (hj8 _ (Eq.symm (if_pos c10)))
    · refine gBk (pe := 89) hO [oI (.iconst 0) 0, o0 (.goto 4)] (by decide +kernel) (show tWG K B 0 0 S I J 89 [some (vR 0), some (vI v1), some (vI v2), some (vI v3), some (vR 15), some (vR 2)] [vI 0] from ?_)
      exact gWeak (L' := [none, none, none, none, none, none]) trivial (hj8 _ (Eq.symm (if_neg c10)))
  have h := h.2
  by_cases c11 : v1 = 2
  · have h := h.1 c11
    refine gSwIn hO (dflt := 214) (lo := 0) (hi := 4) (offs := #[33, 52, 71, 103, 173]) (len := 33) (off := 71) (tgt := 90) 2 c11 (by decide +kernel) (by decide +kernel) ?_
    refine gBk (pe := 93) hO [o0 (.iload_n 2), oI (.iconst 0) 0, oI (.iconst 2) 2] (by decide +kernel) (show tWG K B 0 0 S I J 93 [some (vR 0), some (vI v1), some (vI v2), some (vI v3), some (vR 15), some (vR 2)] [vI 2, vI 0, vI v2] from ?_)
    refine gCSi_z hO (M11_within) hc11_within (idx := 106) (w := 245) (by decide +kernel) hR (by omega) (vs := [vI v2, vI 0, vI 2]) (st := []) ⟨rfl, Nat.le_of_ble_eq_true rfl, rfl⟩ (by decide +kernel) (fun z12 => ?_)
    refine gIfNe hO (off := 5) (tgt := 101) (by decide +kernel) (by decide) (fun c13 => ?_) (fun c13 => ?_)
    · have h := h.1 c13
      refine gBk (pe := 108) hO [o0 (.iload_n 2), o0 (.aload 4), oF (.getfield 273) 10 1 934 0, o0 .isub] (by decide +kernel) (And.intro (tGr.off hG (tGr.off hG t0 (k := 0) rfl) (k := 2) rfl) (show tWG K B 0 0 S I J 108 [some (vR 0), some (vI v1), some (vI v2), some (vI v3), some (vR 15), some (vR 2)] [vI (v2 - (I 15 1))] from ?_))
      refine gAbs hO (idx := 313) (w := 949) (by decide +kernel) hR (by omega) (st := []) (Nat.le_of_ble_eq_true rfl) rfl (by decide +kernel) ?_
      refine gBk (pe := 112) hO [oI (.iconst 1) 1] (by decide +kernel) (show tWG K B 0 0 S I J 112 [some (vR 0), some (vI v1), some (vI v2), some (vI v3), some (vR 15), some (vR 2)] [vI 1, vI (if 0 ≤ (v2 - (I 15 1)) then (v2 - (I 15 1)) else 0 - (v2 - (I 15 1)))] from ?_)
      have hj14 : ∀ (m15 : Int32), m15 = (if (if 0 ≤ (v2 - (I 15 1)) then (v2 - (I 15 1)) else 0 - (v2 - (I 15 1))) ≤ 1 then (0 : Int32) else (-3)) → tWG K B 0 0 S I J 121 [none, none, none, none, none, none] [vI m15] := by
        intro m15 em15
        subst em15
        exact gIret hO hQ (by decide +kernel) ⟨rfl, h⟩
      refine gIcLe hO (off := 8) (tgt := 120) (by decide +kernel) (by decide) (fun c16 => ?_) (fun c16 => ?_)
      · refine gBk (pe := 121) hO [oI (.iconst 0) 0] (by decide +kernel) (show tWG K B 0 0 S I J 121 [some (vR 0), some (vI v1), some (vI v2), some (vI v3), some (vR 15), some (vR 2)] [vI 0] from ?_)
        exact gWeak (L' := [none, none, none, none, none, none]) trivial (hj14 _ (Eq.symm (if_pos c16)))
      · refine gBk (pe := 121) hO [oI (.bipush (-3)) (-3), o0 (.goto 4)] (by decide +kernel) (show tWG K B 0 0 S I J 121 [some (vR 0), some (vI v1), some (vI v2), some (vI v3), some (vR 15), some (vR 2)] [vI (-3)] from ?_)
        exact gWeak (L' := [none, none, none, none, none, none]) trivial (hj14 _ (Eq.symm (if_neg c16)))
    · have h := h.2 c13
      refine gBk (pe := 100) hO [oI (.iconst (-1)) (-1)] (by decide +kernel) (show tWG K B 0 0 S I J 100 [some (vR 0), some (vI v1), some (vI v2), some (vI v3), some (vR 15), some (vR 2)] [vI (-1)] from ?_)
      exact gIret hO hQ (by decide +kernel) ⟨rfl, h⟩
  have h := h.2
  by_cases c17 : v1 = 3
  · have h := h.1 c17
    refine gSwIn hO (dflt := 214) (lo := 0) (hi := 4) (offs := #[33, 52, 71, 103, 173]) (len := 33) (off := 103) (tgt := 122) 3 c17 (by decide +kernel) (by decide +kernel) ?_
    refine gBk (pe := 125) hO [o0 (.iload_n 3), oI (.iconst 0) 0, oI (.iconst 3) 3] (by decide +kernel) (show tWG K B 0 0 S I J 125 [some (vR 0), some (vI v1), some (vI v2), some (vI v3), some (vR 15), some (vR 2)] [vI 3, vI 0, vI v3] from ?_)
    refine gCSi_z hO (M11_within) hc11_within (idx := 106) (w := 245) (by decide +kernel) hR (by omega) (vs := [vI v3, vI 0, vI 3]) (st := []) ⟨rfl, Nat.le_of_ble_eq_true rfl, rfl⟩ (by decide +kernel) (fun z18 => ?_)
    refine gIfNe hO (off := 5) (tgt := 133) (by decide +kernel) (by decide) (fun c19 => ?_) (fun c19 => ?_)
    · have h := h.1 c19
      refine gBk (pe := 136) hO [o0 (.aload 5), o0 (.iload_n 2)] (by decide +kernel) (show tWG K B 0 0 S I J 136 [some (vR 0), some (vI v1), some (vI v2), some (vI v3), some (vR 15), some (vR 2)] [vI v2, vR 2] from ?_)
      refine gCVi_z hO (M3_has (tGr.off hG (tGr.off hG t0 (k := 0) rfl) (k := 0) rfl)) hc3_has (idx := 136) (w := 381) (by decide +kernel) hR (by omega) (tGr.off hG (tGr.off hG t0 (k := 0) rfl) (k := 0) rfl) ⟨by decide, rfl⟩ (vs := [vI v2]) (st := []) ⟨rfl, Nat.le_of_ble_eq_true rfl, rfl⟩ (by decide +kernel) (fun z20 => ?_)
      refine gIfNe hO (off := 6) (tgt := 145) (by decide +kernel) (by decide) (fun c21 => ?_) (fun c21 => ?_)
      · have h := h.1 c21
        refine gBk (pe := 149) hO [o0 (.aload_n 0), oF (.getfield 59) 11 8 38 48] (by decide +kernel) (And.intro t0 (And.intro rfl (show tWG K B 0 0 S I J 149 [some (vR 0), some (vI v1), some (vI v2), some (vI v3), some (vR 15), some (vR 2)] [vR 48] from ?_)))
        refine gCVv_c hO (M2_asItStands (tGr.off hG t0 (k := 8) rfl) h) hc2_asItStands (idx := 114) (w := 255) (by decide +kernel) hR (by omega) (tGr.off hG t0 (k := 8) rfl) ⟨by decide, rfl⟩ (vs := []) (st := []) ⟨rfl, Nat.le_of_ble_eq_true rfl, rfl⟩ (by decide +kernel) (fun I22 J23 h => ?_)
        refine gBk (pe := 157) hO [o0 (.aload 4), oF (.getfield 270) 10 3 933 0] (by decide +kernel) (And.intro (tGr.off hG (tGr.off hG t0 (k := 0) rfl) (k := 2) rfl) (show tWG K B 0 0 S I22 J23 157 [some (vR 0), some (vI v1), some (vI v2), some (vI v3), some (vR 15), some (vR 2)] [vI (I22 15 3)] from ?_))
        refine gIfGt hO (off := 28) (tgt := 185) (by decide +kernel) (by decide) (fun c24 => ?_) (fun c24 => ?_)
        · have h := h.1 c24
          exact gWeak (L' := [none, none, none, none, none, none]) trivial (W11_whyNot_185 hO hR hG t0 hQ h)
        · have h := h.2 c24
          refine gBk (pe := 179) hO [o0 (.aload_n 0), oF (.getfield 59) 11 8 38 48, o0 (.aload 5), oF (.getfield 140) 3 1 377 3, o0 (.iload_n 2), o0 .iaload, o0 (.iload_n 3), o0 (.aload 5), oF (.getfield 146) 3 3 379 5, o0 (.iload_n 2), o0 .iaload] (by decide +kernel) (And.intro t0 (And.intro rfl (And.intro (tGr.off hG (tGr.off hG t0 (k := 0) rfl) (k := 0) rfl) (And.intro rfl (And.intro (tGr.off hG (tGr.off hG (tGr.off hG t0 (k := 0) rfl) (k := 0) rfl) (k := 1) rfl) (And.intro (tin (tGr.len hG (tGr.off hG (tGr.off hG t0 (k := 0) rfl) (k := 0) rfl) (k := 1) rfl (by decide)) h.1) (And.intro (tGr.off hG (tGr.off hG t0 (k := 0) rfl) (k := 0) rfl) (And.intro rfl (And.intro (tGr.off hG (tGr.off hG (tGr.off hG t0 (k := 0) rfl) (k := 0) rfl) (k := 3) rfl) (And.intro (tin (tGr.len hG (tGr.off hG (tGr.off hG t0 (k := 0) rfl) (k := 0) rfl) (k := 3) rfl (by decide)) h.2.1) (show tWG K B 0 0 S I22 J23 179 [some (vR 0), some (vI v1), some (vI v2), some (vI v3), some (vR 15), some (vR 2)] [vI (I22 5 v2.toNatClampNeg), vI v3, vI (I22 3 v2.toNatClampNeg), vR 48] from ?_)))))))))))
          have h := h.2.2
          refine gCVi_b hO (M2_barred (tGr.off hG t0 (k := 8) rfl) h) hc2_barred (idx := 117) (w := 273) (by decide +kernel) hR (by omega) (tGr.off hG t0 (k := 8) rfl) ⟨by decide, rfl⟩ (vs := [vI (I22 3 v2.toNatClampNeg), vI v3, vI (I22 5 v2.toNatClampNeg)]) (st := []) ⟨rfl, Nat.le_of_ble_eq_true rfl, rfl⟩ (by decide +kernel) (fun x27 I25 J26 z28 h => ?_)
          have h := h z28
          have hj29 : ∀ (m30 : Int32), m30 = (if x27 = 0 then (0 : Int32) else (-3)) → tWG K B 0 0 S I25 J26 191 [none, none, none, none, none, none] [vI m30] := by
            intro m30 em30
            subst em30
            exact gIret hO hQ (by decide +kernel) ⟨rfl, h⟩
          refine gIfEq hO (off := 8) (tgt := 190) (by decide +kernel) (by decide) (fun c31 => ?_) (fun c31 => ?_)
          · refine gBk (pe := 191) hO [oI (.iconst 0) 0] (by decide +kernel) (show tWG K B 0 0 S I25 J26 191 [some (vR 0), some (vI v1), some (vI v2), some (vI v3), some (vR 15), some (vR 2)] [vI 0] from ?_)
            exact gWeak (L' := [none, none, none, none, none, none]) trivial (hj29 _ (Eq.symm (if_pos c31)))
          · refine gBk (pe := 191) hO [oI (.bipush (-3)) (-3), o0 (.goto 4)] (by decide +kernel) (show tWG K B 0 0 S I25 J26 191 [some (vR 0), some (vI v1), some (vI v2), some (vI v3), some (vR 15), some (vR 2)] [vI (-3)] from ?_)
            exact gWeak (L' := [none, none, none, none, none, none]) trivial (hj29 _ (Eq.symm (if_neg c31)))
      · have h := h.2 c21
        refine gBk (pe := 144) hO [oI (.bipush (-2)) (-2)] (by decide +kernel) (show tWG K B 0 0 S I J 144 [some (vR 0), some (vI v1), some (vI v2), some (vI v3), some (vR 15), some (vR 2)] [vI (-2)] from ?_)
        exact gIret hO hQ (by decide +kernel) ⟨rfl, h⟩
    · have h := h.2 c19
      refine gBk (pe := 132) hO [oI (.iconst (-1)) (-1)] (by decide +kernel) (show tWG K B 0 0 S I J 132 [some (vR 0), some (vI v1), some (vI v2), some (vI v3), some (vR 15), some (vR 2)] [vI (-1)] from ?_)
      exact gIret hO hQ (by decide +kernel) ⟨rfl, h⟩
  have h := h.2
  by_cases c32 : v1 = 4
  · have h := h.1 c32
    refine gSwIn hO (dflt := 214) (lo := 0) (hi := 4) (offs := #[33, 52, 71, 103, 173]) (len := 33) (off := 173) (tgt := 192) 4 c32 (by decide +kernel) (by decide +kernel) ?_
    refine gBk (pe := 196) hO [o0 (.iload_n 3), oI (.bipush (-2)) (-2), oI (.iconst 2) 2] (by decide +kernel) (show tWG K B 0 0 S I J 196 [some (vR 0), some (vI v1), some (vI v2), some (vI v3), some (vR 15), some (vR 2)] [vI 2, vI (-2), vI v3] from ?_)
    refine gCSi_z hO (M11_within) hc11_within (idx := 106) (w := 245) (by decide +kernel) hR (by omega) (vs := [vI v3, vI (-2), vI 2]) (st := []) ⟨rfl, Nat.le_of_ble_eq_true rfl, rfl⟩ (by decide +kernel) (fun z33 => ?_)
    refine gIfNe hO (off := 5) (tgt := 204) (by decide +kernel) (by decide) (fun c34 => ?_) (fun c34 => ?_)
    · have h := h.1 c34
      refine gBk (pe := 207) hO [o0 (.aload 5), o0 (.iload_n 2)] (by decide +kernel) (show tWG K B 0 0 S I J 207 [some (vR 0), some (vI v1), some (vI v2), some (vI v3), some (vR 15), some (vR 2)] [vI v2, vR 2] from ?_)
      refine gCVi_z hO (M3_has (tGr.off hG (tGr.off hG t0 (k := 0) rfl) (k := 0) rfl)) hc3_has (idx := 136) (w := 381) (by decide +kernel) hR (by omega) (tGr.off hG (tGr.off hG t0 (k := 0) rfl) (k := 0) rfl) ⟨by decide, rfl⟩ (vs := [vI v2]) (st := []) ⟨rfl, Nat.le_of_ble_eq_true rfl, rfl⟩ (by decide +kernel) (fun z35 => ?_)
      refine gIfNe hO (off := 6) (tgt := 216) (by decide +kernel) (by decide) (fun c36 => ?_) (fun c36 => ?_)
      · have h := h.1 c36
        refine gBk (pe := 223) hO [o0 (.aload 5), oF (.getfield 146) 3 3 379 5, o0 (.iload_n 2), o0 .iaload] (by decide +kernel) (And.intro (tGr.off hG (tGr.off hG t0 (k := 0) rfl) (k := 0) rfl) (And.intro rfl (And.intro (tGr.off hG (tGr.off hG (tGr.off hG t0 (k := 0) rfl) (k := 0) rfl) (k := 3) rfl) (And.intro (tin (tGr.len hG (tGr.off hG (tGr.off hG t0 (k := 0) rfl) (k := 0) rfl) (k := 3) rfl (by decide)) h.1) (show tWG K B 0 0 S I J 223 [some (vR 0), some (vI v1), some (vI v2), some (vI v3), some (vR 15), some (vR 2)] [vI (I 5 v2.toNatClampNeg)] from ?_)))))
        have h := h.2
        have hj37 : ∀ (m38 : Int32), m38 = (if (I 5 v2.toNatClampNeg) = 0 then ((-3) : Int32) else 0) → tWG K B 0 0 S I J 232 [none, none, none, none, none, none] [vI m38] := by
          intro m38 em38
          subst em38
          exact gIret hO hQ (by decide +kernel) ⟨rfl, h⟩
        refine gIfNe hO (off := 8) (tgt := 231) (by decide +kernel) (by decide) (fun c39 => ?_) (fun c39 => ?_)
        · refine gBk (pe := 232) hO [oI (.iconst 0) 0] (by decide +kernel) (show tWG K B 0 0 S I J 232 [some (vR 0), some (vI v1), some (vI v2), some (vI v3), some (vR 15), some (vR 2)] [vI 0] from ?_)
          exact gWeak (L' := [none, none, none, none, none, none]) trivial (hj37 _ (Eq.symm (if_neg c39)))
        · refine gBk (pe := 232) hO [oI (.bipush (-3)) (-3), o0 (.goto 4)] (by decide +kernel) (show tWG K B 0 0 S I J 232 [some (vR 0), some (vI v1), some (vI v2), some (vI v3), some (vR 15), some (vR 2)] [vI (-3)] from ?_)
          exact gWeak (L' := [none, none, none, none, none, none]) trivial (hj37 _ (Eq.symm (if_pos c39)))
      · have h := h.2 c36
        refine gBk (pe := 215) hO [oI (.bipush (-2)) (-2)] (by decide +kernel) (show tWG K B 0 0 S I J 215 [some (vR 0), some (vI v1), some (vI v2), some (vI v3), some (vR 15), some (vR 2)] [vI (-2)] from ?_)
        exact gIret hO hQ (by decide +kernel) ⟨rfl, h⟩
    · have h := h.2 c34
      refine gBk (pe := 203) hO [oI (.iconst (-1)) (-1)] (by decide +kernel) (show tWG K B 0 0 S I J 203 [some (vR 0), some (vI v1), some (vI v2), some (vI v3), some (vR 15), some (vR 2)] [vI (-1)] from ?_)
      exact gIret hO hQ (by decide +kernel) ⟨rfl, h⟩
  have h := h.2
  have hsw : swN 0 v1 5 := ⟨⟨⟨⟨⟨True.intro, c1⟩, c6⟩, c11⟩, c17⟩, c32⟩
  have h := h hsw
  refine gSwOut hO (dflt := 214) (lo := 0) (hi := 4) (offs := #[33, 52, 71, 103, 173]) (len := 33) (tgt := 233) (by decide +kernel) (sw_out (by decide) (by decide) hsw) (by decide) ?_
  refine gBk (pe := 238) hO [o0 (.aload 4), oF (.getfield 270) 10 3 933 0] (by decide +kernel) (And.intro (tGr.off hG (tGr.off hG t0 (k := 0) rfl) (k := 2) rfl) (show tWG K B 0 0 S I J 238 [some (vR 0), some (vI v1), some (vI v2), some (vI v3), some (vR 15), some (vR 2)] [vI (I 15 3)] from ?_))
  have hj40 : ∀ (m41 : Int32), m41 = (if (I 15 3) = 0 then (-3) else (if (I 7 0) = 0 then ((-3) : Int32) else 0)) → tWG K B 0 0 S I J 260 [none, none, none, none, none, none] [vI m41] := by
    intro m41 em41
    subst em41
    exact gIret hO hQ (by decide +kernel) ⟨rfl, h⟩
  refine gIfEq hO (off := 16) (tgt := 254) (by decide +kernel) (by decide) (fun c42 => ?_) (fun c42 => ?_)
  · refine gBk (pe := 260) hO [oI (.bipush (-3)) (-3), o0 (.goto 4)] (by decide +kernel) (show tWG K B 0 0 S I J 260 [some (vR 0), some (vI v1), some (vI v2), some (vI v3), some (vR 15), some (vR 2)] [vI (-3)] from ?_)
    exact gWeak (L' := [none, none, none, none, none, none]) trivial (hj40 _ (Eq.symm (if_pos c42)))
  · refine gBk (pe := 251) hO [o0 (.aload_n 0), oF (.getfield 12) 11 0 15 1, oF (.getfield 158) 8 1 398 7, oF (.getfield 162) 7 0 399 0] (by decide +kernel) (And.intro t0 (And.intro rfl (And.intro (tGr.off hG t0 (k := 0) rfl) (And.intro rfl (And.intro (tGr.off hG (tGr.off hG t0 (k := 0) rfl) (k := 1) rfl) (show tWG K B 0 0 S I J 251 [some (vR 0), some (vI v1), some (vI v2), some (vI v3), some (vR 15), some (vR 2)] [vI (I 7 0)] from ?_))))))
    refine gIfNe hO (off := 8) (tgt := 259) (by decide +kernel) (by decide) (fun c43 => ?_) (fun c43 => ?_)
    · refine gBk (pe := 260) hO [oI (.iconst 0) 0] (by decide +kernel) (show tWG K B 0 0 S I J 260 [some (vR 0), some (vI v1), some (vI v2), some (vI v3), some (vR 15), some (vR 2)] [vI 0] from ?_)
      exact gWeak (L' := [none, none, none, none, none, none]) trivial (hj40 _ (Eq.symm ((if_neg c42).trans (if_neg c43))))
    · refine gBk (pe := 260) hO [oI (.bipush (-3)) (-3), o0 (.goto 4)] (by decide +kernel) (show tWG K B 0 0 S I J 260 [some (vR 0), some (vI v1), some (vI v2), some (vI v3), some (vR 15), some (vR 2)] [vI (-3)] from ?_)
      exact gWeak (L' := [none, none, none, none, none, none]) trivial (hj40 _ (Eq.symm ((if_neg c42).trans (if_pos c43)))))
set_option maxRecDepth 20000 in
theorem hc11_undo : tCV yX11_undo cX11_undo 1 (some .int) 0 := ⟨⟨(List.mem_of_getElem? (i := 1147) rfl), (List.mem_of_getElem? (i := 2) (by decide +kernel)), by decide +kernel⟩, (List.mem_of_getElem? (i := 1145) (by decide +kernel)), (List.mem_of_getElem? (i := 1146) (by decide +kernel))⟩
set_option maxRecDepth 100000 in
theorem M11_undo {l : Launch} {B : tB} {S : tSH} {I : tHI} {J : tHJ} {n : Nat} {k : Int32 → tHI → tHJ → Prop} (t0 : ty S 0 11) (h : F11_undo n S I J k) : Met l yX11_undo (tWs yX11_undo cX11_undo 1 (some .int)) (tRm 4 0 0) (tPc B [vR 0] S I J) (tQi B (tPi S k)) 0 0 (tA B) :=
  tEntry (by decide +kernel) [some (vR 0)] rfl rfl (Nat.le_of_ble_eq_true rfl) (fun K hl hR hO hQ hG => by
  subst hl
  refine gBk (pe := 7) hO [o0 (.aload_n 0), oF (.getfield 26) 11 3 21 34, oF (.getfield 129) 1 1 244 0] (by decide +kernel) (And.intro t0 (And.intro rfl (And.intro (tGr.off hG t0 (k := 3) rfl) (show tWG K B 0 0 S I J 7 [some (vR 0)] [vI (I 34 1)] from ?_))))
  refine gIfNe hO (off := 10) (tgt := 17) (by decide +kernel) (by decide) (fun c1 => ?_) (fun c1 => ?_)
  · have h := h.1 c1
    refine gBk (pe := 26) hO [o0 (.aload_n 0), o0 (.aload_n 0), oF (.getfield 26) 11 3 21 34, o0 (.aload_n 0), oF (.getfield 12) 11 0 15 1] (by decide +kernel) (And.intro t0 (And.intro rfl (And.intro t0 (And.intro rfl (show tWG K B 0 0 S I J 26 [some (vR 0)] [vR 1, vR 34, vR 0] from ?_)))))
    refine gCVi_c hO (M1_takeBack (tGr.off hG t0 (k := 3) rfl) (tGr.off hG t0 (k := 0) rfl) h) hc1_takeBack (idx := 316) (w := 1148) (by decide +kernel) hR (by omega) (tGr.off hG t0 (k := 3) rfl) ⟨by decide, rfl⟩ (vs := [vR 1]) (st := [vR 0]) ⟨rfl, Nat.le_of_ble_eq_true rfl, rfl⟩ (by decide +kernel) (fun x4 I2 J3 h => ?_)
    refine gCVi_c hO (M11_settle t0 h) hc11_settle (idx := 110) (w := 248) (by decide +kernel) hR (by omega) t0 ⟨by decide, rfl⟩ (vs := [vI x4]) (st := []) ⟨rfl, Nat.le_of_ble_eq_true rfl, rfl⟩ (by decide +kernel) (fun x7 I5 J6 h => ?_)
    exact gIret hO hQ (by decide +kernel) ⟨rfl, h⟩
  · have h := h.2 c1
    refine gBk (pe := 13) hO [o0 (.aload_n 0), oI (.bipush (-3)) (-3)] (by decide +kernel) (show tWG K B 0 0 S I J 13 [some (vR 0)] [vI (-3), vR 0] from ?_)
    refine gCVi_c hO (M11_settle t0 h) hc11_settle (idx := 110) (w := 248) (by decide +kernel) hR (by omega) t0 ⟨by decide, rfl⟩ (vs := [vI (-3)]) (st := []) ⟨rfl, Nat.le_of_ble_eq_true rfl, rfl⟩ (by decide +kernel) (fun x10 I8 J9 h => ?_)
    exact gIret hO hQ (by decide +kernel) ⟨rfl, h⟩)
set_option maxRecDepth 100000 in
theorem W11_goes_24 {K : tK} {B : tB} {S : tSH} {MC MS : Nat} (hO : tKO K B RX11 cX11_goes 3) (hR : kR K = tRm 7 MC MS) (hG : tGr S) {n : Nat} (t0 : ty S 0 11) {k : Int32 → tHI → tHJ → Prop} (hQ : tRet K B (tQi B (tPi S k)) 0 0 (some .int)) {I : tHI} {J : tHJ} (h : F11_goes_24 n S k I J) : tWG K B 0 0 S I J 24 [none, none, none] [] := by
  refine gBk (pe := 25) hO [oI (.iconst (-1)) (-1)] (by decide +kernel) (show tWG K B 0 0 S I J 25 [none, none, none] [vI (-1)] from ?_)
  exact gIret hO hQ (by decide +kernel) ⟨rfl, h⟩
set_option maxRecDepth 20000 in
theorem hc11_goes : tCV yX11_goes cX11_goes 3 (some .int) 2 := ⟨⟨(List.mem_of_getElem? (i := 1159) rfl), (List.mem_of_getElem? (i := 2) (by decide +kernel)), by decide +kernel⟩, (List.mem_of_getElem? (i := 1157) (by decide +kernel)), (List.mem_of_getElem? (i := 1158) (by decide +kernel))⟩
set_option maxRecDepth 100000 in
theorem M11_goes {l : Launch} {B : tB} {S : tSH} {I : tHI} {J : tHJ} {v1 : Int32} {v2 : Int32} {n : Nat} {k : Int32 → tHI → tHJ → Prop} (t0 : ty S 0 11) (h : F11_goes n S I J v1 v2 k) : Met l yX11_goes (tWs yX11_goes cX11_goes 3 (some .int)) (tRm 7 0 0) (tPc B [vR 0, vI v1, vI v2] S I J) (tQi B (tPi S k)) 0 0 (tA B) :=
  tEntry (by decide +kernel) [some (vR 0), some (vI v1), some (vI v2)] rfl rfl (Nat.le_of_ble_eq_true rfl) (fun K hl hR hO hQ hG => by
  subst hl
  refine gBk (pe := 8) hO [o0 (.aload_n 0), oF (.getfield 12) 11 0 15 1, oF (.getfield 158) 8 1 398 7, o0 (.iload_n 1)] (by decide +kernel) (And.intro t0 (And.intro rfl (And.intro (tGr.off hG t0 (k := 0) rfl) (And.intro rfl (show tWG K B 0 0 S I J 8 [some (vR 0), some (vI v1), some (vI v2)] [vI v1, vR 7] from ?_)))))
  refine gCVi_z hO (M7_has (tGr.off hG (tGr.off hG t0 (k := 0) rfl) (k := 1) rfl)) hc7_has (idx := 175) (w := 439) (by decide +kernel) hR (by omega) (tGr.off hG (tGr.off hG t0 (k := 0) rfl) (k := 1) rfl) ⟨by decide, rfl⟩ (vs := [vI v1]) (st := []) ⟨rfl, Nat.le_of_ble_eq_true rfl, rfl⟩ (by decide +kernel) (fun z1 => ?_)
  refine gIfEq hO (off := 13) (tgt := 24) (by decide +kernel) (by decide) (fun c2 => ?_) (fun c2 => ?_)
  · have h := h.1 c2
    exact gWeak (L' := [none, none, none]) trivial (W11_goes_24 hO hR hG t0 hQ h)
  · have h := h.2 c2
    refine gBk (pe := 18) hO [o0 (.iload_n 2), oI (.iconst 1) 1, oI (.bipush 60) 60] (by decide +kernel) (show tWG K B 0 0 S I J 18 [some (vR 0), some (vI v1), some (vI v2)] [vI 60, vI 1, vI v2] from ?_)
    refine gCSi_z hO (M11_within) hc11_within (idx := 106) (w := 245) (by decide +kernel) hR (by omega) (vs := [vI v2, vI 1, vI 60]) (st := []) ⟨rfl, Nat.le_of_ble_eq_true rfl, rfl⟩ (by decide +kernel) (fun z3 => ?_)
    refine gIfNe hO (off := 5) (tgt := 26) (by decide +kernel) (by decide) (fun c4 => ?_) (fun c4 => ?_)
    · have h := h.1 c4
      refine gBk (pe := 30) hO [o0 (.aload_n 0), oF (.getfield 59) 11 8 38 48] (by decide +kernel) (And.intro t0 (And.intro rfl (show tWG K B 0 0 S I J 30 [some (vR 0), some (vI v1), some (vI v2)] [vR 48] from ?_)))
      refine gCVv_c hO (M2_asItStands (tGr.off hG t0 (k := 8) rfl) h) hc2_asItStands (idx := 114) (w := 255) (by decide +kernel) hR (by omega) (tGr.off hG t0 (k := 8) rfl) ⟨by decide, rfl⟩ (vs := []) (st := []) ⟨rfl, Nat.le_of_ble_eq_true rfl, rfl⟩ (by decide +kernel) (fun I5 J6 h => ?_)
      refine gBk (pe := 39) hO [o0 (.aload_n 0), oF (.getfield 59) 11 8 38 48, o0 (.iload_n 1), o0 (.iload_n 2)] (by decide +kernel) (And.intro t0 (And.intro rfl (show tWG K B 0 0 S I5 J6 39 [some (vR 0), some (vI v1), some (vI v2)] [vI v2, vI v1, vR 48] from ?_)))
      refine gCVi_c hO (M2_outcome (tGr.off hG t0 (k := 8) rfl) h) hc2_outcome (idx := 300) (w := 966) (by decide +kernel) hR (by omega) (tGr.off hG t0 (k := 8) rfl) ⟨by decide, rfl⟩ (vs := [vI v1, vI v2]) (st := []) ⟨rfl, Nat.le_of_ble_eq_true rfl, rfl⟩ (by decide +kernel) (fun x9 I7 J8 h => ?_)
      exact gIret hO hQ (by decide +kernel) ⟨rfl, h⟩
    · have h := h.2 c4
      exact gWeak (L' := [none, none, none]) trivial (W11_goes_24 hO hR hG t0 hQ h))
set_option maxRecDepth 100000 in
theorem W11_quick_23 {K : tK} {B : tB} {S : tSH} {MC MS : Nat} (hO : tKO K B RX11 cX11_quick 4) (hR : kR K = tRm 7 MC MS) (hG : tGr S) {n : Nat} (t0 : ty S 0 11) {k : Int32 → tHI → tHJ → Prop} (hQ : tRet K B (tQi B (tPi S k)) 0 0 (some .int)) {I : tHI} {J : tHJ} (h : F11_quick_23 n S k I J) : tWG K B 0 0 S I J 23 [none, none, none, none] [] := by
  refine gBk (pe := 24) hO [oI (.iconst (-1)) (-1)] (by decide +kernel) (show tWG K B 0 0 S I J 24 [none, none, none, none] [vI (-1)] from ?_)
  exact gIret hO hQ (by decide +kernel) ⟨rfl, h⟩
set_option maxRecDepth 20000 in
theorem hc11_quick : tCV yX11_quick cX11_quick 4 (some .int) 2 := ⟨⟨(List.mem_of_getElem? (i := 1167) rfl), (List.mem_of_getElem? (i := 2) (by decide +kernel)), by decide +kernel⟩, (List.mem_of_getElem? (i := 1165) (by decide +kernel)), (List.mem_of_getElem? (i := 1166) (by decide +kernel))⟩
set_option maxRecDepth 100000 in
theorem M11_quick {l : Launch} {B : tB} {S : tSH} {I : tHI} {J : tHJ} {v1 : Int32} {v2 : Int32} {n : Nat} {k : Int32 → tHI → tHJ → Prop} (t0 : ty S 0 11) (h : F11_quick n S I J v1 v2 k) : Met l yX11_quick (tWs yX11_quick cX11_quick 4 (some .int)) (tRm 7 0 0) (tPc B [vR 0, vI v1, vI v2] S I J) (tQi B (tPi S k)) 0 0 (tA B) :=
  tEntry (by decide +kernel) [some (vR 0), some (vI v1), some (vI v2), none] rfl rfl (Nat.le_of_ble_eq_true rfl) (fun K hl hR hO hQ hG => by
  subst hl
  refine gBk (pe := 8) hO [o0 (.aload_n 0), oF (.getfield 12) 11 0 15 1, oF (.getfield 158) 8 1 398 7, o0 (.iload_n 1)] (by decide +kernel) (And.intro t0 (And.intro rfl (And.intro (tGr.off hG t0 (k := 0) rfl) (And.intro rfl (show tWG K B 0 0 S I J 8 [some (vR 0), some (vI v1), some (vI v2), none] [vI v1, vR 7] from ?_)))))
  refine gCVi_z hO (M7_has (tGr.off hG (tGr.off hG t0 (k := 0) rfl) (k := 1) rfl)) hc7_has (idx := 175) (w := 439) (by decide +kernel) hR (by omega) (tGr.off hG (tGr.off hG t0 (k := 0) rfl) (k := 1) rfl) ⟨by decide, rfl⟩ (vs := [vI v1]) (st := []) ⟨rfl, Nat.le_of_ble_eq_true rfl, rfl⟩ (by decide +kernel) (fun z1 => ?_)
  refine gIfEq hO (off := 12) (tgt := 23) (by decide +kernel) (by decide) (fun c2 => ?_) (fun c2 => ?_)
  · have h := h.1 c2
    exact gWeak (L' := [none, none, none, none]) trivial (W11_quick_23 hO hR hG t0 hQ h)
  · have h := h.2 c2
    refine gBk (pe := 17) hO [o0 (.iload_n 2), oI (.iconst 0) 0, oI (.iconst 1) 1] (by decide +kernel) (show tWG K B 0 0 S I J 17 [some (vR 0), some (vI v1), some (vI v2), none] [vI 1, vI 0, vI v2] from ?_)
    refine gCSi_z hO (M11_within) hc11_within (idx := 106) (w := 245) (by decide +kernel) hR (by omega) (vs := [vI v2, vI 0, vI 1]) (st := []) ⟨rfl, Nat.le_of_ble_eq_true rfl, rfl⟩ (by decide +kernel) (fun z3 => ?_)
    refine gIfNe hO (off := 5) (tgt := 25) (by decide +kernel) (by decide) (fun c4 => ?_) (fun c4 => ?_)
    · have h := h.1 c4
      refine gBk (pe := 29) hO [o0 (.aload_n 0), oF (.getfield 59) 11 8 38 48] (by decide +kernel) (And.intro t0 (And.intro rfl (show tWG K B 0 0 S I J 29 [some (vR 0), some (vI v1), some (vI v2), none] [vR 48] from ?_)))
      refine gCVv_c hO (M2_asItStands (tGr.off hG t0 (k := 8) rfl) h) hc2_asItStands (idx := 114) (w := 255) (by decide +kernel) hR (by omega) (tGr.off hG t0 (k := 8) rfl) ⟨by decide, rfl⟩ (vs := []) (st := []) ⟨rfl, Nat.le_of_ble_eq_true rfl, rfl⟩ (by decide +kernel) (fun I5 J6 h => ?_)
      refine gBk (pe := 37) hO [o0 (.aload_n 0), oF (.getfield 59) 11 8 38 48, o0 (.iload_n 1)] (by decide +kernel) (And.intro t0 (And.intro rfl (show tWG K B 0 0 S I5 J6 37 [some (vR 0), some (vI v1), some (vI v2), none] [vI v1, vR 48] from ?_)))
      refine gCVi_c hO (M2_quickest (tGr.off hG t0 (k := 8) rfl) h) hc2_quickest (idx := 320) (w := 1168) (by decide +kernel) hR (by omega) (tGr.off hG t0 (k := 8) rfl) ⟨by decide, rfl⟩ (vs := [vI v1]) (st := []) ⟨rfl, Nat.le_of_ble_eq_true rfl, rfl⟩ (by decide +kernel) (fun x9 I7 J8 h => ?_)
      refine gBk (pe := 42) hO [o0 (.istore_n 3), o0 (.iload_n 2)] (by decide +kernel) (And.intro (Nat.le_of_ble_eq_true rfl) (show tWG K B 0 0 S I7 J8 42 [some (vR 0), some (vI v1), some (vI v2), some (vI x9)] [vI v2] from ?_))
      have hj10 : ∀ (m11 : Int32), m11 = (if v2 = 0 then x9 else (V7_timeAt S I7 J8 7 v1 x9)) → tWG K B 0 0 S I7 J8 61 [none, none, none, none] [vI m11] := by
        intro m11 em11
        subst em11
        have h := h.2
        exact gIret hO hQ (by decide +kernel) ⟨rfl, h⟩
      have h := h.1
      refine gIfNe hO (off := 7) (tgt := 49) (by decide +kernel) (by decide) (fun c12 => ?_) (fun c12 => ?_)
      · have h := h.1 c12
        refine gBk (pe := 58) hO [o0 (.aload_n 0), oF (.getfield 12) 11 0 15 1, oF (.getfield 158) 8 1 398 7, o0 (.iload_n 1), o0 (.iload_n 3)] (by decide +kernel) (And.intro t0 (And.intro rfl (And.intro (tGr.off hG t0 (k := 0) rfl) (And.intro rfl (show tWG K B 0 0 S I7 J8 58 [some (vR 0), some (vI v1), some (vI v2), some (vI x9)] [vI x9, vI v1, vR 7] from ?_)))))
        refine gCVi_p hO (M7_timeAt (tGr.off hG (tGr.off hG t0 (k := 0) rfl) (k := 1) rfl) h.1) hc7_timeAt (idx := 323) (w := 1173) (by decide +kernel) hR (by omega) (tGr.off hG (tGr.off hG t0 (k := 0) rfl) (k := 1) rfl) ⟨by decide, rfl⟩ (vs := [vI v1, vI x9]) (st := []) ⟨rfl, Nat.le_of_ble_eq_true rfl, rfl⟩ (by decide +kernel) ?_
        have h := h.2
        exact gWeak (L' := [none, none, none, none]) trivial (hj10 _ (Eq.symm (if_neg c12)))
      · have h := h.2 c12
        refine gBk (pe := 61) hO [o0 (.iload_n 3), o0 (.goto 15)] (by decide +kernel) (show tWG K B 0 0 S I7 J8 61 [some (vR 0), some (vI v1), some (vI v2), some (vI x9)] [vI x9] from ?_)
        exact gWeak (L' := [none, none, none, none]) trivial (hj10 _ (Eq.symm (if_pos c12)))
    · have h := h.2 c4
      exact gWeak (L' := [none, none, none, none]) trivial (W11_quick_23 hO hR hG t0 hQ h))
set_option maxRecDepth 100000 in
theorem W11_soonest_21 {K : tK} {B : tB} {S : tSH} {MC MS : Nat} (hO : tKO K B RX11 cX11_soonest 2) (hR : kR K = tRm 8 MC MS) (hG : tGr S) {n : Nat} (t0 : ty S 0 11) {k : Int32 → tHI → tHJ → Prop} (hQ : tRet K B (tQi B (tPi S k)) 0 0 (some .int)) {I : tHI} {J : tHJ} {v1 : Int32} (h : F11_soonest_21 n S k I J v1) : tWG K B 0 0 S I J 21 [some (vR 0), some (vI v1)] [] := by
  refine gBk (pe := 25) hO [o0 (.aload_n 0), oF (.getfield 59) 11 8 38 48] (by decide +kernel) (And.intro t0 (And.intro rfl (show tWG K B 0 0 S I J 25 [some (vR 0), some (vI v1)] [vR 48] from ?_)))
  refine gCVv_c hO (M2_asItStands (tGr.off hG t0 (k := 8) rfl) h) hc2_asItStands (idx := 114) (w := 255) (by decide +kernel) hR (by omega) (tGr.off hG t0 (k := 8) rfl) ⟨by decide, rfl⟩ (vs := []) (st := []) ⟨rfl, Nat.le_of_ble_eq_true rfl, rfl⟩ (by decide +kernel) (fun I2 J3 h => ?_)
  refine gBk (pe := 33) hO [o0 (.aload_n 0), oF (.getfield 68) 11 9 42 51, o0 (.iload_n 1)] (by decide +kernel) (And.intro t0 (And.intro rfl (show tWG K B 0 0 S I2 J3 33 [some (vR 0), some (vI v1)] [vI v1, vR 51] from ?_)))
  refine gCVi_c hO (M5_soonestRow (tGr.off hG t0 (k := 9) rfl) h) hc5_soonestRow (idx := 326) (w := 1194) (by decide +kernel) hR (by omega) (tGr.off hG t0 (k := 9) rfl) ⟨by decide, rfl⟩ (vs := [vI v1]) (st := []) ⟨rfl, Nat.le_of_ble_eq_true rfl, rfl⟩ (by decide +kernel) (fun x6 I4 J5 h => ?_)
  exact gIret hO hQ (by decide +kernel) ⟨rfl, h⟩
set_option maxRecDepth 20000 in
theorem hc11_soonest : tCV yX11_soonest cX11_soonest 2 (some .int) 1 := ⟨⟨(List.mem_of_getElem? (i := 1193) rfl), (List.mem_of_getElem? (i := 2) (by decide +kernel)), by decide +kernel⟩, (List.mem_of_getElem? (i := 1191) (by decide +kernel)), (List.mem_of_getElem? (i := 1192) (by decide +kernel))⟩
set_option maxRecDepth 100000 in
theorem M11_soonest {l : Launch} {B : tB} {S : tSH} {I : tHI} {J : tHJ} {v1 : Int32} {n : Nat} {k : Int32 → tHI → tHJ → Prop} (t0 : ty S 0 11) (h : F11_soonest n S I J v1 k) : Met l yX11_soonest (tWs yX11_soonest cX11_soonest 2 (some .int)) (tRm 8 0 0) (tPc B [vR 0, vI v1] S I J) (tQi B (tPi S k)) 0 0 (tA B) :=
  tEntry (by decide +kernel) [some (vR 0), some (vI v1)] rfl rfl (Nat.le_of_ble_eq_true rfl) (fun K hl hR hO hQ hG => by
  subst hl
  refine gBk (pe := 2) hO [o0 (.iload_n 1), oI (.iconst (-1)) (-1)] (by decide +kernel) (show tWG K B 0 0 S I J 2 [some (vR 0), some (vI v1)] [vI (-1), vI v1] from ?_)
  refine gIcEq hO (off := 19) (tgt := 21) (by decide +kernel) (by decide) (fun c1 => ?_) (fun c1 => ?_)
  · have h := h.1 c1
    exact W11_soonest_21 hO hR hG t0 hQ h
  · have h := h.2 c1
    refine gBk (pe := 13) hO [o0 (.aload_n 0), oF (.getfield 12) 11 0 15 1, oF (.getfield 158) 8 1 398 7, o0 (.iload_n 1)] (by decide +kernel) (And.intro t0 (And.intro rfl (And.intro (tGr.off hG t0 (k := 0) rfl) (And.intro rfl (show tWG K B 0 0 S I J 13 [some (vR 0), some (vI v1)] [vI v1, vR 7] from ?_)))))
    refine gCVi_z hO (M7_has (tGr.off hG (tGr.off hG t0 (k := 0) rfl) (k := 1) rfl)) hc7_has (idx := 175) (w := 439) (by decide +kernel) hR (by omega) (tGr.off hG (tGr.off hG t0 (k := 0) rfl) (k := 1) rfl) ⟨by decide, rfl⟩ (vs := [vI v1]) (st := []) ⟨rfl, Nat.le_of_ble_eq_true rfl, rfl⟩ (by decide +kernel) (fun z7 => ?_)
    refine gIfNe hO (off := 5) (tgt := 21) (by decide +kernel) (by decide) (fun c8 => ?_) (fun c8 => ?_)
    · have h := h.1 c8
      exact W11_soonest_21 hO hR hG t0 hQ h
    · have h := h.2 c8
      refine gBk (pe := 20) hO [oI (.iconst (-1)) (-1)] (by decide +kernel) (show tWG K B 0 0 S I J 20 [some (vR 0), some (vI v1)] [vI (-1)] from ?_)
      exact gIret hO hQ (by decide +kernel) ⟨rfl, h⟩)
set_option maxRecDepth 20000 in
theorem hc11_lanes : tCV yX11_lanes cX11_lanes 2 (some .int) 1 := ⟨⟨(List.mem_of_getElem? (i := 1232) rfl), (List.mem_of_getElem? (i := 2) (by decide +kernel)), by decide +kernel⟩, (List.mem_of_getElem? (i := 1230) (by decide +kernel)), (List.mem_of_getElem? (i := 1231) (by decide +kernel))⟩
set_option maxRecDepth 100000 in
theorem M11_lanes {l : Launch} {B : tB} {S : tSH} {I : tHI} {J : tHJ} {v1 : Int32} {n : Nat} {k : Int32 → tHI → tHJ → Prop} (t0 : ty S 0 11) (h : F11_lanes n S I J v1 k) : Met l yX11_lanes (tWs yX11_lanes cX11_lanes 2 (some .int)) (tRm 5 0 0) (tPc B [vR 0, vI v1] S I J) (tQi B (tPi S k)) 0 0 (tA B) :=
  tEntry (by decide +kernel) [some (vR 0), some (vI v1)] rfl rfl (Nat.le_of_ble_eq_true rfl) (fun K hl hR hO hQ hG => by
  subst hl
  refine gBk (pe := 14) hO [o0 (.iload_n 1), oI (.iconst 0) 0, oI (.iconst 1) 1, o0 (.aload_n 0), oF (.getfield 12) 11 0 15 1, oF (.getfield 158) 8 1 398 7, oF (.getfield 162) 7 0 399 0, o0 .iadd] (by decide +kernel) (And.intro t0 (And.intro rfl (And.intro (tGr.off hG t0 (k := 0) rfl) (And.intro rfl (And.intro (tGr.off hG (tGr.off hG t0 (k := 0) rfl) (k := 1) rfl) (show tWG K B 0 0 S I J 14 [some (vR 0), some (vI v1)] [vI (1 + (I 7 0)), vI 0, vI v1] from ?_))))))
  refine gCSi_z hO (M11_within) hc11_within (idx := 106) (w := 245) (by decide +kernel) hR (by omega) (vs := [vI v1, vI 0, vI (1 + (I 7 0))]) (st := []) ⟨rfl, Nat.le_of_ble_eq_true rfl, rfl⟩ (by decide +kernel) (fun z1 => ?_)
  refine gIfNe hO (off := 5) (tgt := 22) (by decide +kernel) (by decide) (fun c2 => ?_) (fun c2 => ?_)
  · have h := h.1 c2
    refine gBk (pe := 27) hO [o0 (.aload_n 0), oF (.getfield 68) 11 9 42 51, o0 (.iload_n 1)] (by decide +kernel) (And.intro t0 (And.intro rfl (show tWG K B 0 0 S I J 27 [some (vR 0), some (vI v1)] [vI v1, vR 51] from ?_)))
    refine gCVi_c hO (M5_lanesRow (tGr.off hG t0 (k := 9) rfl) h) hc5_lanesRow (idx := 329) (w := 1233) (by decide +kernel) hR (by omega) (tGr.off hG t0 (k := 9) rfl) ⟨by decide, rfl⟩ (vs := [vI v1]) (st := []) ⟨rfl, Nat.le_of_ble_eq_true rfl, rfl⟩ (by decide +kernel) (fun x5 I3 J4 h => ?_)
    exact gIret hO hQ (by decide +kernel) ⟨rfl, h⟩
  · have h := h.2 c2
    refine gBk (pe := 21) hO [oI (.iconst (-1)) (-1)] (by decide +kernel) (show tWG K B 0 0 S I J 21 [some (vR 0), some (vI v1)] [vI (-1)] from ?_)
    exact gIret hO hQ (by decide +kernel) ⟨rfl, h⟩)
set_option maxRecDepth 20000 in
theorem hc11_setting : tCV yX11_setting cX11_setting 2 (some .int) 1 := ⟨⟨(List.mem_of_getElem? (i := 1332) rfl), (List.mem_of_getElem? (i := 2) (by decide +kernel)), by decide +kernel⟩, (List.mem_of_getElem? (i := 1330) (by decide +kernel)), (List.mem_of_getElem? (i := 1331) (by decide +kernel))⟩
set_option maxRecDepth 100000 in
theorem M11_setting {l : Launch} {B : tB} {S : tSH} {I : tHI} {J : tHJ} {v1 : Int32} {n : Nat} {k : Int32 → tHI → tHJ → Prop} (t0 : ty S 0 11) (h : F11_setting n S I J v1 k) : Met l yX11_setting (tWs yX11_setting cX11_setting 2 (some .int)) (tRm 7 0 0) (tPc B [vR 0, vI v1] S I J) (tQi B (tPi S k)) 0 0 (tA B) :=
  tEntry (by decide +kernel) [some (vR 0), some (vI v1)] rfl rfl (Nat.le_of_ble_eq_true rfl) (fun K hl hR hO hQ hG => by
  subst hl
  refine gBk (pe := 3) hO [o0 (.iload_n 1), oI (.iconst 0) 0, oI (.iconst 1) 1] (by decide +kernel) (show tWG K B 0 0 S I J 3 [some (vR 0), some (vI v1)] [vI 1, vI 0, vI v1] from ?_)
  refine gCSi_z hO (M11_within) hc11_within (idx := 106) (w := 245) (by decide +kernel) hR (by omega) (vs := [vI v1, vI 0, vI 1]) (st := []) ⟨rfl, Nat.le_of_ble_eq_true rfl, rfl⟩ (by decide +kernel) (fun z1 => ?_)
  refine gIfNe hO (off := 5) (tgt := 11) (by decide +kernel) (by decide) (fun c2 => ?_) (fun c2 => ?_)
  · have h := h.1 c2
    refine gBk (pe := 15) hO [o0 (.aload_n 0), oF (.getfield 59) 11 8 38 48] (by decide +kernel) (And.intro t0 (And.intro rfl (show tWG K B 0 0 S I J 15 [some (vR 0), some (vI v1)] [vR 48] from ?_)))
    refine gCVv_c hO (M2_asItStands (tGr.off hG t0 (k := 8) rfl) h) hc2_asItStands (idx := 114) (w := 255) (by decide +kernel) hR (by omega) (tGr.off hG t0 (k := 8) rfl) ⟨by decide, rfl⟩ (vs := []) (st := []) ⟨rfl, Nat.le_of_ble_eq_true rfl, rfl⟩ (by decide +kernel) (fun I3 J4 h => ?_)
    refine gBk (pe := 23) hO [o0 (.aload_n 0), oF (.getfield 68) 11 9 42 51, o0 (.iload_n 1)] (by decide +kernel) (And.intro t0 (And.intro rfl (show tWG K B 0 0 S I3 J4 23 [some (vR 0), some (vI v1)] [vI v1, vR 51] from ?_)))
    refine gCVi_c hO (M5_bestBars (tGr.off hG t0 (k := 9) rfl) h) hc5_bestBars (idx := 338) (w := 1333) (by decide +kernel) hR (by omega) (tGr.off hG t0 (k := 9) rfl) ⟨by decide, rfl⟩ (vs := [vI v1]) (st := []) ⟨rfl, Nat.le_of_ble_eq_true rfl, rfl⟩ (by decide +kernel) (fun x7 I5 J6 h => ?_)
    exact gIret hO hQ (by decide +kernel) ⟨rfl, h⟩
  · have h := h.2 c2
    refine gBk (pe := 10) hO [oI (.iconst (-1)) (-1)] (by decide +kernel) (show tWG K B 0 0 S I J 10 [some (vR 0), some (vI v1)] [vI (-1)] from ?_)
    exact gIret hO hQ (by decide +kernel) ⟨rfl, h⟩)
set_option maxRecDepth 20000 in
theorem hc11_learning : tCV yX11_learning cX11_learning 1 (some .int) 0 := ⟨⟨(List.mem_of_getElem? (i := 1347) rfl), (List.mem_of_getElem? (i := 2) (by decide +kernel)), by decide +kernel⟩, (List.mem_of_getElem? (i := 1345) (by decide +kernel)), (List.mem_of_getElem? (i := 1346) (by decide +kernel))⟩
set_option maxRecDepth 100000 in
theorem M11_learning {l : Launch} {B : tB} {S : tSH} {I : tHI} {J : tHJ} {n : Nat} {k : Int32 → tHI → tHJ → Prop} (t0 : ty S 0 11) (h : F11_learning n S I J k) : Met l yX11_learning (tWs yX11_learning cX11_learning 1 (some .int)) (tRm 7 0 0) (tPc B [vR 0] S I J) (tQi B (tPi S k)) 0 0 (tA B) :=
  tEntry (by decide +kernel) [some (vR 0)] rfl rfl (Nat.le_of_ble_eq_true rfl) (fun K hl hR hO hQ hG => by
  subst hl
  refine gBk (pe := 4) hO [o0 (.aload_n 0), oF (.getfield 59) 11 8 38 48] (by decide +kernel) (And.intro t0 (And.intro rfl (show tWG K B 0 0 S I J 4 [some (vR 0)] [vR 48] from ?_)))
  refine gCVv_c hO (M2_asItStands (tGr.off hG t0 (k := 8) rfl) h) hc2_asItStands (idx := 114) (w := 255) (by decide +kernel) hR (by omega) (tGr.off hG t0 (k := 8) rfl) ⟨by decide, rfl⟩ (vs := []) (st := []) ⟨rfl, Nat.le_of_ble_eq_true rfl, rfl⟩ (by decide +kernel) (fun I1 J2 h => ?_)
  refine gBk (pe := 11) hO [o0 (.aload_n 0), oF (.getfield 68) 11 9 42 51] (by decide +kernel) (And.intro t0 (And.intro rfl (show tWG K B 0 0 S I1 J2 11 [some (vR 0)] [vR 51] from ?_)))
  refine gCVi_c hO (M5_roundsToLearn (tGr.off hG t0 (k := 9) rfl) h) hc5_roundsToLearn (idx := 341) (w := 1348) (by decide +kernel) hR (by omega) (tGr.off hG t0 (k := 9) rfl) ⟨by decide, rfl⟩ (vs := []) (st := []) ⟨rfl, Nat.le_of_ble_eq_true rfl, rfl⟩ (by decide +kernel) (fun x5 I3 J4 h => ?_)
  exact gIret hO hQ (by decide +kernel) ⟨rfl, h⟩)
set_option maxRecDepth 100000 in
theorem W11_sight_19 {K : tK} {B : tB} {S : tSH} {MC MS : Nat} (hO : tKO K B RX11 cX11_sight 4) (hR : kR K = tRm 4 MC MS) (hG : tGr S) {n : Nat} (t0 : ty S 0 11) {k : Int32 → tHI → tHJ → Prop} (hQ : tRet K B (tQi B (tPi S k)) 0 0 (some .int)) {I : tHI} {J : tHJ} (h : F11_sight_19 n S k I J) : tWG K B 0 0 S I J 19 [some (vR 0), none, none, none] [] := by
  refine gBk (pe := 21) hO [o0 (.aload_n 0), oI (.iconst (-1)) (-1)] (by decide +kernel) (show tWG K B 0 0 S I J 21 [some (vR 0), none, none, none] [vI (-1), vR 0] from ?_)
  refine gCVi_c hO (M11_settle t0 h) hc11_settle (idx := 110) (w := 248) (by decide +kernel) hR (by omega) t0 ⟨by decide, rfl⟩ (vs := [vI (-1)]) (st := []) ⟨rfl, Nat.le_of_ble_eq_true rfl, rfl⟩ (by decide +kernel) (fun x5 I3 J4 h => ?_)
  exact gIret hO hQ (by decide +kernel) ⟨rfl, h⟩
set_option maxRecDepth 20000 in
theorem hc11_sight : tCV yX11_sight cX11_sight 4 (some .int) 3 := ⟨⟨(List.mem_of_getElem? (i := 1360) rfl), (List.mem_of_getElem? (i := 2) (by decide +kernel)), by decide +kernel⟩, (List.mem_of_getElem? (i := 1358) (by decide +kernel)), (List.mem_of_getElem? (i := 1359) (by decide +kernel))⟩
set_option maxRecDepth 100000 in
theorem M11_sight {l : Launch} {B : tB} {S : tSH} {I : tHI} {J : tHJ} {v1 : Int32} {v2 : Int32} {v3 : Int32} {n : Nat} {k : Int32 → tHI → tHJ → Prop} (t0 : ty S 0 11) (h : F11_sight n S I J v1 v2 v3 k) : Met l yX11_sight (tWs yX11_sight cX11_sight 4 (some .int)) (tRm 4 0 0) (tPc B [vR 0, vI v1, vI v2, vI v3] S I J) (tQi B (tPi S k)) 0 0 (tA B) :=
  tEntry (by decide +kernel) [some (vR 0), some (vI v1), some (vI v2), some (vI v3)] rfl rfl (Nat.le_of_ble_eq_true rfl) (fun K hl hR hO hQ hG => by
  subst hl
  refine gBk (pe := 4) hO [o0 (.iload_n 2), oI (.iconst 1) 1, oI (.bipush 60) 60] (by decide +kernel) (show tWG K B 0 0 S I J 4 [some (vR 0), some (vI v1), some (vI v2), some (vI v3)] [vI 60, vI 1, vI v2] from ?_)
  refine gCSi_z hO (M11_within) hc11_within (idx := 106) (w := 245) (by decide +kernel) hR (by omega) (vs := [vI v2, vI 1, vI 60]) (st := []) ⟨rfl, Nat.le_of_ble_eq_true rfl, rfl⟩ (by decide +kernel) (fun z1 => ?_)
  refine gIfEq hO (off := 12) (tgt := 19) (by decide +kernel) (by decide) (fun c2 => ?_) (fun c2 => ?_)
  · have h := h.1 c2
    exact gWeak (L' := [some (vR 0), none, none, none]) ⟨rfl, trivial⟩ (W11_sight_19 hO hR hG t0 hQ h)
  · have h := h.2 c2
    refine gBk (pe := 13) hO [o0 (.iload_n 3), oI (.iconst 0) 0, oI (.iconst 1) 1] (by decide +kernel) (show tWG K B 0 0 S I J 13 [some (vR 0), some (vI v1), some (vI v2), some (vI v3)] [vI 1, vI 0, vI v3] from ?_)
    refine gCSi_z hO (M11_within) hc11_within (idx := 106) (w := 245) (by decide +kernel) hR (by omega) (vs := [vI v3, vI 0, vI 1]) (st := []) ⟨rfl, Nat.le_of_ble_eq_true rfl, rfl⟩ (by decide +kernel) (fun z6 => ?_)
    refine gIfNe hO (off := 9) (tgt := 25) (by decide +kernel) (by decide) (fun c7 => ?_) (fun c7 => ?_)
    · have h := h.1 c7
      refine gBk (pe := 33) hO [o0 (.aload_n 0), oF (.getfield 12) 11 0 15 1, oF (.getfield 158) 8 1 398 7, o0 (.iload_n 1)] (by decide +kernel) (And.intro t0 (And.intro rfl (And.intro (tGr.off hG t0 (k := 0) rfl) (And.intro rfl (show tWG K B 0 0 S I J 33 [some (vR 0), some (vI v1), some (vI v2), some (vI v3)] [vI v1, vR 7] from ?_)))))
      refine gCVi_z hO (M7_has (tGr.off hG (tGr.off hG t0 (k := 0) rfl) (k := 1) rfl)) hc7_has (idx := 175) (w := 439) (by decide +kernel) hR (by omega) (tGr.off hG (tGr.off hG t0 (k := 0) rfl) (k := 1) rfl) ⟨by decide, rfl⟩ (vs := [vI v1]) (st := []) ⟨rfl, Nat.le_of_ble_eq_true rfl, rfl⟩ (by decide +kernel) (fun z8 => ?_)
      refine gIfNe hO (off := 10) (tgt := 46) (by decide +kernel) (by decide) (fun c9 => ?_) (fun c9 => ?_)
      · have h := h.1 c9
        refine gBk (pe := 58) hO [o0 (.aload_n 0), oF (.getfield 12) 11 0 15 1, oF (.getfield 158) 8 1 398 7, oF (.getfield 166) 7 5 424 0, oI (.bipush 8) 8] (by decide +kernel) (And.intro t0 (And.intro rfl (And.intro (tGr.off hG t0 (k := 0) rfl) (And.intro rfl (And.intro (tGr.off hG (tGr.off hG t0 (k := 0) rfl) (k := 1) rfl) (show tWG K B 0 0 S I J 58 [some (vR 0), some (vI v1), some (vI v2), some (vI v3)] [vI 8, vI (I 7 5)] from ?_))))))
        refine gIcLt hO (off := 10) (tgt := 68) (by decide +kernel) (by decide) (fun c10 => ?_) (fun c10 => ?_)
        · have h := h.1 c10
          refine gBk (pe := 79) hO [o0 (.aload_n 0), o0 (.aload_n 0), oF (.getfield 12) 11 0 15 1, oF (.getfield 158) 8 1 398 7, o0 (.iload_n 1), o0 (.iload_n 2), o0 (.iload_n 3)] (by decide +kernel) (And.intro t0 (And.intro rfl (And.intro (tGr.off hG t0 (k := 0) rfl) (And.intro rfl (show tWG K B 0 0 S I J 79 [some (vR 0), some (vI v1), some (vI v2), some (vI v3)] [vI v3, vI v2, vI v1, vR 7, vR 0] from ?_)))))
          refine gCVi_c hO (M7_see (tGr.off hG (tGr.off hG t0 (k := 0) rfl) (k := 1) rfl) h) hc7_see (idx := 345) (w := 1361) (by decide +kernel) hR (by omega) (tGr.off hG (tGr.off hG t0 (k := 0) rfl) (k := 1) rfl) ⟨by decide, rfl⟩ (vs := [vI v1, vI v2, vI v3]) (st := [vR 0]) ⟨rfl, Nat.le_of_ble_eq_true rfl, rfl⟩ (by decide +kernel) (fun x13 I11 J12 h => ?_)
          refine gCVi_c hO (M11_settle t0 h) hc11_settle (idx := 110) (w := 248) (by decide +kernel) hR (by omega) t0 ⟨by decide, rfl⟩ (vs := [vI x13]) (st := []) ⟨rfl, Nat.le_of_ble_eq_true rfl, rfl⟩ (by decide +kernel) (fun x16 I14 J15 h => ?_)
          exact gIret hO hQ (by decide +kernel) ⟨rfl, h⟩
        · have h := h.2 c10
          refine gBk (pe := 64) hO [o0 (.aload_n 0), oI (.bipush (-5)) (-5)] (by decide +kernel) (show tWG K B 0 0 S I J 64 [some (vR 0), some (vI v1), some (vI v2), some (vI v3)] [vI (-5), vR 0] from ?_)
          refine gCVi_c hO (M11_settle t0 h) hc11_settle (idx := 110) (w := 248) (by decide +kernel) hR (by omega) t0 ⟨by decide, rfl⟩ (vs := [vI (-5)]) (st := []) ⟨rfl, Nat.le_of_ble_eq_true rfl, rfl⟩ (by decide +kernel) (fun x19 I17 J18 h => ?_)
          exact gIret hO hQ (by decide +kernel) ⟨rfl, h⟩
      · have h := h.2 c9
        refine gBk (pe := 42) hO [o0 (.aload_n 0), oI (.bipush (-2)) (-2)] (by decide +kernel) (show tWG K B 0 0 S I J 42 [some (vR 0), some (vI v1), some (vI v2), some (vI v3)] [vI (-2), vR 0] from ?_)
        refine gCVi_c hO (M11_settle t0 h) hc11_settle (idx := 110) (w := 248) (by decide +kernel) hR (by omega) t0 ⟨by decide, rfl⟩ (vs := [vI (-2)]) (st := []) ⟨rfl, Nat.le_of_ble_eq_true rfl, rfl⟩ (by decide +kernel) (fun x22 I20 J21 h => ?_)
        exact gIret hO hQ (by decide +kernel) ⟨rfl, h⟩
    · have h := h.2 c7
      exact gWeak (L' := [some (vR 0), none, none, none]) ⟨rfl, trivial⟩ (W11_sight_19 hO hR hG t0 hQ h))
set_option maxRecDepth 100000 in
theorem W11_days_21 {K : tK} {B : tB} {S : tSH} {MC MS : Nat} (hO : tKO K B RX11 cX11_days 8) (hR : kR K = tRm 7 MC MS) (hG : tGr S) {n : Nat} (t0 : ty S 0 11) {k : Int32 → tHI → tHJ → Prop} (hQ : tRet K B (tQi B (tPi S k)) 0 0 (some .int)) {I : tHI} {J : tHJ} (h : F11_days_21 n S k I J) : tWG K B 0 0 S I J 21 [some (vR 0), none, none, none, none, none, none, none] [] := by
  refine gBk (pe := 23) hO [o0 (.aload_n 0), oI (.iconst (-1)) (-1)] (by decide +kernel) (show tWG K B 0 0 S I J 23 [some (vR 0), none, none, none, none, none, none, none] [vI (-1), vR 0] from ?_)
  refine gCVi_c hO (M11_settle t0 h) hc11_settle (idx := 110) (w := 248) (by decide +kernel) hR (by omega) t0 ⟨by decide, rfl⟩ (vs := [vI (-1)]) (st := []) ⟨rfl, Nat.le_of_ble_eq_true rfl, rfl⟩ (by decide +kernel) (fun x5 I3 J4 h => ?_)
  exact gIret hO hQ (by decide +kernel) ⟨rfl, h⟩
set_option maxRecDepth 100000 in
theorem W11_days_106 {K : tK} {B : tB} {S : tSH} {MC MS : Nat} (hO : tKO K B RX11 cX11_days 8) (hR : kR K = tRm 7 MC MS) (hG : tGr S) {n : Nat} (t0 : ty S 0 11) {k : Int32 → tHI → tHJ → Prop} (hQ : tRet K B (tQi B (tPi S k)) 0 0 (some .int)) {kb106 : tHI → tHJ → Int32 → Int32 → Int64 → Int32 → Prop} (hkb106 : ∀ (I : tHI) (J : tHJ) (v2 : Int32) (v3 : Int32) (w4 : Int64) (v6 : Int32), kb106 I J v2 v3 w4 v6 → tWG K B 0 0 S I J 106 [some (vR 0), none, some (vI v2), some (vI v3), some (vL w4), none, some (vI v6), none] []) {I : tHI} {J : tHJ} {v2 : Int32} {v3 : Int32} {w4 : Int64} {v6 : Int32} (h : F11_days_106 n S k kb106 I J v2 v3 w4 v6) : tWG K B 0 0 S I J 106 [some (vR 0), none, some (vI v2), some (vI v3), some (vL w4), none, some (vI v6), none] [] := by
  refine gBk (pe := 109) hO [o0 (.iload 6), o0 (.iload_n 2)] (by decide +kernel) (show tWG K B 0 0 S I J 109 [some (vR 0), none, some (vI v2), some (vI v3), some (vL w4), none, some (vI v6), none] [vI v2, vI v6] from ?_)
  refine gIcGe hO (off := 108) (tgt := 217) (by decide +kernel) (by decide) (fun c13 => ?_) (fun c13 => ?_)
  · have h := h.1 c13
    refine gBk (pe := 227) hO [o0 (.aload_n 0), o0 (.iload_n 2), o0 (.aload_n 0), oF (.getfield 82) 11 12 49 60, oF (.getfield 276) 10 4 935 0, o0 .isub] (by decide +kernel) (And.intro t0 (And.intro rfl (And.intro (tGr.off hG t0 (k := 12) rfl) (show tWG K B 0 0 S I J 227 [some (vR 0), none, some (vI v2), some (vI v3), some (vL w4), none, some (vI v6), none] [vI (v2 - (I 60 4)), vR 0] from ?_))))
    refine gCVi_c hO (M11_settle t0 h) hc11_settle (idx := 110) (w := 248) (by decide +kernel) hR (by omega) t0 ⟨by decide, rfl⟩ (vs := [vI (v2 - (I 60 4))]) (st := []) ⟨rfl, Nat.le_of_ble_eq_true rfl, rfl⟩ (by decide +kernel) (fun x16 I14 J15 h => ?_)
    exact gIret hO hQ (by decide +kernel) ⟨rfl, h⟩
  · have h := h.2 c13
    refine gBk (pe := 114) hO [o0 (.lload 4)] (by decide +kernel) (show tWG K B 0 0 S I J 114 [some (vR 0), none, some (vI v2), some (vI v3), some (vL w4), none, some (vI v6), none] [vL w4] from ?_)
    refine gBk (pe := 118) hO [(.ldc2_w 355, (0, 0, 1404, 0), 0, 1103), o0 .lmul] (by decide +kernel) (show tWG K B 0 0 S I J 118 [some (vR 0), none, some (vI v2), some (vI v3), some (vL w4), none, some (vI v6), none] [vL (w4 * 1103)] from ?_)
    refine gBk (pe := 122) hO [(.ldc2_w 357, (0, 0, 1405, 0), 0, 12345), o0 .ladd] (by decide +kernel) (show tWG K B 0 0 S I J 122 [some (vR 0), none, some (vI v2), some (vI v3), some (vL w4), none, some (vI v6), none] [vL ((w4 * 1103) + 12345)] from ?_)
    refine gBk (pe := 130) hO [(.ldc2_w 359, (0, 0, 1406, 0), 0, 1000003), o0 .lrem, o0 (.lstore 4), o0 (.iload_n 3), oI (.iconst 1) 1] (by decide +kernel) (And.intro (by decide) (And.intro (Nat.le_of_ble_eq_true rfl) (show tWG K B 0 0 S I J 130 [some (vR 0), none, some (vI v2), some (vI v3), some (vL (((w4 * 1103) + 12345) - ((w4 * 1103) + 12345) / 1000003 * 1000003)), none, some (vI v6), none] [vI 1, vI v3] from ?_)))
    have hj17 : ∀ (m18 : Int32), m18 = (if 1 ≤ v3 then ((((w4 * 1103) + 12345) - ((w4 * 1103) + 12345) / 1000003 * 1000003) - (((w4 * 1103) + 12345) - ((w4 * 1103) + 12345) / 1000003 * 1000003) / v3.toInt64 * v3.toInt64).toInt32 else 0) → tWG K B 0 0 S I J 143 [some (vR 0), none, some (vI v2), some (vI v3), some (vL (((w4 * 1103) + 12345) - ((w4 * 1103) + 12345) / 1000003 * 1000003)), none, some (vI v6), none] [vI m18] := by
      intro m18 em18
      subst em18
      have h := h.2
      refine gBk (pe := 170) hO [o0 (.istore 7), o0 (.aload_n 0), oF (.getfield 82) 11 12 49 60, oI (.iconst 1) 1, oI (.bipush 60) 60, o0 (.aload_n 0), oF (.getfield 82) 11 12 49 60, oF (.getfield 270) 10 3 933 0, o0 (.iload 7), o0 .iadd, o0 (.aload_n 0), oF (.getfield 82) 11 12 49 60, oF (.getfield 310) 10 7 948 0, o0 .isub] (by decide +kernel) (And.intro (Nat.le_of_ble_eq_true rfl) (And.intro t0 (And.intro rfl (And.intro t0 (And.intro rfl (And.intro (tGr.off hG t0 (k := 12) rfl) (And.intro t0 (And.intro rfl (And.intro (tGr.off hG t0 (k := 12) rfl) (show tWG K B 0 0 S I J 170 [some (vR 0), none, some (vI v2), some (vI v3), some (vL (((w4 * 1103) + 12345) - ((w4 * 1103) + 12345) / 1000003 * 1000003)), none, some (vI v6), some (vI (if 1 ≤ v3 then ((((w4 * 1103) + 12345) - ((w4 * 1103) + 12345) / 1000003 * 1000003) - (((w4 * 1103) + 12345) - ((w4 * 1103) + 12345) / 1000003 * 1000003) / v3.toInt64 * v3.toInt64).toInt32 else 0))] [vI (((I 60 3) + (if 1 ≤ v3 then ((((w4 * 1103) + 12345) - ((w4 * 1103) + 12345) / 1000003 * 1000003) - (((w4 * 1103) + 12345) - ((w4 * 1103) + 12345) / 1000003 * 1000003) / v3.toInt64 * v3.toInt64).toInt32 else 0)) - (I 60 7)), vI 60, vI 1, vR 60] from ?_))))))))))
      refine gMin hO (idx := 292) (w := 252) (by decide +kernel) hR (by omega) (st := [vI 1, vR 60]) (Nat.le_of_ble_eq_true rfl) rfl (by decide +kernel) ?_
      refine gMax hO (idx := 297) (w := 942) (by decide +kernel) hR (by omega) (st := [vR 60]) (Nat.le_of_ble_eq_true rfl) rfl (by decide +kernel) ?_
      refine gBk (pe := 205) hO [oF (.putfield 270) 10 3 933 0, o0 (.aload_n 0), oF (.getfield 59) 11 8 38 48, o0 (.aload_n 0), oF (.getfield 82) 11 12 49 60, o0 (.aload_n 0), oF (.getfield 59) 11 8 38 48, o0 (.aload_n 0), oF (.getfield 82) 11 12 49 60, oF (.getfield 172) 10 2 426 0, o0 (.aload_n 0), oF (.getfield 82) 11 12 49 60, oF (.getfield 270) 10 3 933 0] (by decide +kernel) (And.intro (tGr.off hG t0 (k := 12) rfl) (And.intro t0 (And.intro rfl (And.intro t0 (And.intro rfl (And.intro t0 (And.intro rfl (And.intro t0 (And.intro rfl (And.intro (tGr.off hG t0 (k := 12) rfl) (And.intro t0 (And.intro rfl (And.intro (tGr.off hG t0 (k := 12) rfl) (show tWG K B 0 0 S (uI I 60 3 (if 1 < (if (((I 60 3) + (if 1 ≤ v3 then ((((w4 * 1103) + 12345) - ((w4 * 1103) + 12345) / 1000003 * 1000003) - (((w4 * 1103) + 12345) - ((w4 * 1103) + 12345) / 1000003 * 1000003) / v3.toInt64 * v3.toInt64).toInt32 else 0)) - (I 60 7)) < 60 then (((I 60 3) + (if 1 ≤ v3 then ((((w4 * 1103) + 12345) - ((w4 * 1103) + 12345) / 1000003 * 1000003) - (((w4 * 1103) + 12345) - ((w4 * 1103) + 12345) / 1000003 * 1000003) / v3.toInt64 * v3.toInt64).toInt32 else 0)) - (I 60 7)) else 60) then (if (((I 60 3) + (if 1 ≤ v3 then ((((w4 * 1103) + 12345) - ((w4 * 1103) + 12345) / 1000003 * 1000003) - (((w4 * 1103) + 12345) - ((w4 * 1103) + 12345) / 1000003 * 1000003) / v3.toInt64 * v3.toInt64).toInt32 else 0)) - (I 60 7)) < 60 then (((I 60 3) + (if 1 ≤ v3 then ((((w4 * 1103) + 12345) - ((w4 * 1103) + 12345) / 1000003 * 1000003) - (((w4 * 1103) + 12345) - ((w4 * 1103) + 12345) / 1000003 * 1000003) / v3.toInt64 * v3.toInt64).toInt32 else 0)) - (I 60 7)) else 60) else 1)) J 205 [some (vR 0), none, some (vI v2), some (vI v3), some (vL (((w4 * 1103) + 12345) - ((w4 * 1103) + 12345) / 1000003 * 1000003)), none, some (vI v6), some (vI (if 1 ≤ v3 then ((((w4 * 1103) + 12345) - ((w4 * 1103) + 12345) / 1000003 * 1000003) - (((w4 * 1103) + 12345) - ((w4 * 1103) + 12345) / 1000003 * 1000003) / v3.toInt64 * v3.toInt64).toInt32 else 0))] [vI ((uI I 60 3 (if 1 < (if (((I 60 3) + (if 1 ≤ v3 then ((((w4 * 1103) + 12345) - ((w4 * 1103) + 12345) / 1000003 * 1000003) - (((w4 * 1103) + 12345) - ((w4 * 1103) + 12345) / 1000003 * 1000003) / v3.toInt64 * v3.toInt64).toInt32 else 0)) - (I 60 7)) < 60 then (((I 60 3) + (if 1 ≤ v3 then ((((w4 * 1103) + 12345) - ((w4 * 1103) + 12345) / 1000003 * 1000003) - (((w4 * 1103) + 12345) - ((w4 * 1103) + 12345) / 1000003 * 1000003) / v3.toInt64 * v3.toInt64).toInt32 else 0)) - (I 60 7)) else 60) then (if (((I 60 3) + (if 1 ≤ v3 then ((((w4 * 1103) + 12345) - ((w4 * 1103) + 12345) / 1000003 * 1000003) - (((w4 * 1103) + 12345) - ((w4 * 1103) + 12345) / 1000003 * 1000003) / v3.toInt64 * v3.toInt64).toInt32 else 0)) - (I 60 7)) < 60 then (((I 60 3) + (if 1 ≤ v3 then ((((w4 * 1103) + 12345) - ((w4 * 1103) + 12345) / 1000003 * 1000003) - (((w4 * 1103) + 12345) - ((w4 * 1103) + 12345) / 1000003 * 1000003) / v3.toInt64 * v3.toInt64).toInt32 else 0)) - (I 60 7)) else 60) else 1)) 60 3), vI ((uI I 60 3 (if 1 < (if (((I 60 3) + (if 1 ≤ v3 then ((((w4 * 1103) + 12345) - ((w4 * 1103) + 12345) / 1000003 * 1000003) - (((w4 * 1103) + 12345) - ((w4 * 1103) + 12345) / 1000003 * 1000003) / v3.toInt64 * v3.toInt64).toInt32 else 0)) - (I 60 7)) < 60 then (((I 60 3) + (if 1 ≤ v3 then ((((w4 * 1103) + 12345) - ((w4 * 1103) + 12345) / 1000003 * 1000003) - (((w4 * 1103) + 12345) - ((w4 * 1103) + 12345) / 1000003 * 1000003) / v3.toInt64 * v3.toInt64).toInt32 else 0)) - (I 60 7)) else 60) then (if (((I 60 3) + (if 1 ≤ v3 then ((((w4 * 1103) + 12345) - ((w4 * 1103) + 12345) / 1000003 * 1000003) - (((w4 * 1103) + 12345) - ((w4 * 1103) + 12345) / 1000003 * 1000003) / v3.toInt64 * v3.toInt64).toInt32 else 0)) - (I 60 7)) < 60 then (((I 60 3) + (if 1 ≤ v3 then ((((w4 * 1103) + 12345) - ((w4 * 1103) + 12345) / 1000003 * 1000003) - (((w4 * 1103) + 12345) - ((w4 * 1103) + 12345) / 1000003 * 1000003) / v3.toInt64 * v3.toInt64).toInt32 else 0)) - (I 60 7)) else 60) else 1)) 60 2), vR 48, vR 60, vR 48] from ?_))))))))))))))
      refine gCVi_c hO (M2_outcome (tGr.off hG t0 (k := 8) rfl) h) hc2_outcome (idx := 300) (w := 966) (by decide +kernel) hR (by omega) (tGr.off hG t0 (k := 8) rfl) ⟨by decide, rfl⟩ (vs := [vI ((uI I 60 3 (if 1 < (if (((I 60 3) + (if 1 ≤ v3 then ((((w4 * 1103) + 12345) - ((w4 * 1103) + 12345) / 1000003 * 1000003) - (((w4 * 1103) + 12345) - ((w4 * 1103) + 12345) / 1000003 * 1000003) / v3.toInt64 * v3.toInt64).toInt32 else 0)) - (I 60 7)) < 60 then (((I 60 3) + (if 1 ≤ v3 then ((((w4 * 1103) + 12345) - ((w4 * 1103) + 12345) / 1000003 * 1000003) - (((w4 * 1103) + 12345) - ((w4 * 1103) + 12345) / 1000003 * 1000003) / v3.toInt64 * v3.toInt64).toInt32 else 0)) - (I 60 7)) else 60) then (if (((I 60 3) + (if 1 ≤ v3 then ((((w4 * 1103) + 12345) - ((w4 * 1103) + 12345) / 1000003 * 1000003) - (((w4 * 1103) + 12345) - ((w4 * 1103) + 12345) / 1000003 * 1000003) / v3.toInt64 * v3.toInt64).toInt32 else 0)) - (I 60 7)) < 60 then (((I 60 3) + (if 1 ≤ v3 then ((((w4 * 1103) + 12345) - ((w4 * 1103) + 12345) / 1000003 * 1000003) - (((w4 * 1103) + 12345) - ((w4 * 1103) + 12345) / 1000003 * 1000003) / v3.toInt64 * v3.toInt64).toInt32 else 0)) - (I 60 7)) else 60) else 1)) 60 2), vI ((uI I 60 3 (if 1 < (if (((I 60 3) + (if 1 ≤ v3 then ((((w4 * 1103) + 12345) - ((w4 * 1103) + 12345) / 1000003 * 1000003) - (((w4 * 1103) + 12345) - ((w4 * 1103) + 12345) / 1000003 * 1000003) / v3.toInt64 * v3.toInt64).toInt32 else 0)) - (I 60 7)) < 60 then (((I 60 3) + (if 1 ≤ v3 then ((((w4 * 1103) + 12345) - ((w4 * 1103) + 12345) / 1000003 * 1000003) - (((w4 * 1103) + 12345) - ((w4 * 1103) + 12345) / 1000003 * 1000003) / v3.toInt64 * v3.toInt64).toInt32 else 0)) - (I 60 7)) else 60) then (if (((I 60 3) + (if 1 ≤ v3 then ((((w4 * 1103) + 12345) - ((w4 * 1103) + 12345) / 1000003 * 1000003) - (((w4 * 1103) + 12345) - ((w4 * 1103) + 12345) / 1000003 * 1000003) / v3.toInt64 * v3.toInt64).toInt32 else 0)) - (I 60 7)) < 60 then (((I 60 3) + (if 1 ≤ v3 then ((((w4 * 1103) + 12345) - ((w4 * 1103) + 12345) / 1000003 * 1000003) - (((w4 * 1103) + 12345) - ((w4 * 1103) + 12345) / 1000003 * 1000003) / v3.toInt64 * v3.toInt64).toInt32 else 0)) - (I 60 7)) else 60) else 1)) 60 3)]) (st := [vR 60, vR 48]) ⟨rfl, Nat.le_of_ble_eq_true rfl, rfl⟩ (by decide +kernel) (fun x22 I20 J21 h => ?_)
      refine gCVv_c hO (M2_drive (tGr.off hG t0 (k := 8) rfl) (tGr.off hG t0 (k := 12) rfl) h) hc2_drive (idx := 303) (w := 971) (by decide +kernel) hR (by omega) (tGr.off hG t0 (k := 8) rfl) ⟨by decide, rfl⟩ (vs := [vR 60, vI x22]) (st := []) ⟨rfl, Nat.le_of_ble_eq_true rfl, rfl⟩ (by decide +kernel) (fun I23 J24 h => ?_)
      refine gBk (pe := 106) hO [oI (.iinc 6 1) 1, o0 (.goto (-108))] (by decide +kernel) (show tWG K B 0 0 S I23 J24 106 [some (vR 0), none, some (vI v2), some (vI v3), some (vL (((w4 * 1103) + 12345) - ((w4 * 1103) + 12345) / 1000003 * 1000003)), none, some (vI (v6 + 1)), some (vI (if 1 ≤ v3 then ((((w4 * 1103) + 12345) - ((w4 * 1103) + 12345) / 1000003 * 1000003) - (((w4 * 1103) + 12345) - ((w4 * 1103) + 12345) / 1000003 * 1000003) / v3.toInt64 * v3.toInt64).toInt32 else 0))] [] from ?_)
      exact gWeak (L' := [some (vR 0), none, some (vI v2), some (vI v3), some (vL (((w4 * 1103) + 12345) - ((w4 * 1103) + 12345) / 1000003 * 1000003)), none, some (vI (v6 + 1)), none]) ⟨rfl, rfl, rfl, rfl, rfl, trivial⟩ (hkb106 _ _ _ _ _ _ h)
    have h := h.1
    refine gIcGe hO (off := 7) (tgt := 137) (by decide +kernel) (by decide) (fun c19 => ?_) (fun c19 => ?_)
    · have h := h.1 c19
      refine gBk (pe := 143) hO [o0 (.lload 4), o0 (.iload_n 3), o0 .i2l, o0 .lrem, o0 .l2i] (by decide +kernel) (And.intro h.1 (show tWG K B 0 0 S I J 143 [some (vR 0), none, some (vI v2), some (vI v3), some (vL (((w4 * 1103) + 12345) - ((w4 * 1103) + 12345) / 1000003 * 1000003)), none, some (vI v6), none] [vI (((((w4 * 1103) + 12345) - ((w4 * 1103) + 12345) / 1000003 * 1000003) - (((w4 * 1103) + 12345) - ((w4 * 1103) + 12345) / 1000003 * 1000003) / v3.toInt64 * v3.toInt64).toInt32)] from ?_))
      have h := h.2
      exact (hj17 _ (Eq.symm (if_pos c19)))
    · have h := h.2 c19
      refine gBk (pe := 143) hO [oI (.iconst 0) 0, o0 (.goto 9)] (by decide +kernel) (show tWG K B 0 0 S I J 143 [some (vR 0), none, some (vI v2), some (vI v3), some (vL (((w4 * 1103) + 12345) - ((w4 * 1103) + 12345) / 1000003 * 1000003)), none, some (vI v6), none] [vI 0] from ?_)
      exact (hj17 _ (Eq.symm (if_neg c19)))
theorem W11_days_L106 {K : tK} {B : tB} {S : tSH} {MC MS : Nat} (hO : tKO K B RX11 cX11_days 8) (hR : kR K = tRm 7 MC MS) (hG : tGr S) {n : Nat} (t0 : ty S 0 11) {k : Int32 → tHI → tHJ → Prop} (hQ : tRet K B (tQi B (tPi S k)) 0 0 (some .int)) : ∀ (f : Nat) (I : tHI) (J : tHJ) (v2 : Int32) (v3 : Int32) (w4 : Int64) (v6 : Int32), F11_days_L106 n S k f I J v2 v3 w4 v6 → tWG K B 0 0 S I J 106 [some (vR 0), none, some (vI v2), some (vI v3), some (vL w4), none, some (vI v6), none] [] := by
  intro f
  induction f with
  | zero => intro I J v2 v3 w4 v6 h; exact h.elim
  | succ f ih => intro I J v2 v3 w4 v6 h; exact W11_days_106 hO hR hG t0 hQ ih h
set_option maxRecDepth 20000 in
theorem hc11_days : tCV yX11_days cX11_days 8 (some .int) 2 := ⟨⟨(List.mem_of_getElem? (i := 1402) rfl), (List.mem_of_getElem? (i := 2) (by decide +kernel)), by decide +kernel⟩, (List.mem_of_getElem? (i := 1400) (by decide +kernel)), (List.mem_of_getElem? (i := 1401) (by decide +kernel))⟩
set_option maxRecDepth 100000 in
theorem M11_days {l : Launch} {B : tB} {S : tSH} {I : tHI} {J : tHJ} {v1 : Int32} {v2 : Int32} {n : Nat} {k : Int32 → tHI → tHJ → Prop} (t0 : ty S 0 11) (h : F11_days n S I J v1 v2 k) : Met l yX11_days (tWs yX11_days cX11_days 8 (some .int)) (tRm 7 0 0) (tPc B [vR 0, vI v1, vI v2] S I J) (tQi B (tPi S k)) 0 0 (tA B) :=
  tEntry (by decide +kernel) [some (vR 0), some (vI v1), some (vI v2), none, none, none, none, none] rfl rfl (Nat.le_of_ble_eq_true rfl) (fun K hl hR hO hQ hG => by
  subst hl
  refine gBk (pe := 2) hO [o0 (.iload_n 1), oI (.iconst 0) 0] (by decide +kernel) (show tWG K B 0 0 S I J 2 [some (vR 0), some (vI v1), some (vI v2), none, none, none, none, none] [vI 0, vI v1] from ?_)
  refine gBk (pe := 5) hO [(.ldc_w 351, (0, 0, 1403, 0), 1000000, 0)] (by decide +kernel) (show tWG K B 0 0 S I J 5 [some (vR 0), some (vI v1), some (vI v2), none, none, none, none, none] [vI 1000000, vI 0, vI v1] from ?_)
  refine gCSi_z hO (M11_within) hc11_within (idx := 106) (w := 245) (by decide +kernel) hR (by omega) (vs := [vI v1, vI 0, vI 1000000]) (st := []) ⟨rfl, Nat.le_of_ble_eq_true rfl, rfl⟩ (by decide +kernel) (fun z1 => ?_)
  refine gIfEq hO (off := 13) (tgt := 21) (by decide +kernel) (by decide) (fun c2 => ?_) (fun c2 => ?_)
  · have h := h.1 c2
    exact gWeak (L' := [some (vR 0), none, none, none, none, none, none, none]) ⟨rfl, trivial⟩ (W11_days_21 hO hR hG t0 hQ h)
  · have h := h.2 c2
    refine gBk (pe := 15) hO [o0 (.iload_n 2), oI (.iconst 1) 1, oI (.bipush 100) 100] (by decide +kernel) (show tWG K B 0 0 S I J 15 [some (vR 0), some (vI v1), some (vI v2), none, none, none, none, none] [vI 100, vI 1, vI v2] from ?_)
    refine gCSi_z hO (M11_within) hc11_within (idx := 106) (w := 245) (by decide +kernel) hR (by omega) (vs := [vI v2, vI 1, vI 100]) (st := []) ⟨rfl, Nat.le_of_ble_eq_true rfl, rfl⟩ (by decide +kernel) (fun z6 => ?_)
    refine gIfNe hO (off := 9) (tgt := 27) (by decide +kernel) (by decide) (fun c7 => ?_) (fun c7 => ?_)
    · have h := h.1 c7
      refine gBk (pe := 37) hO [o0 (.aload_n 0), oF (.getfield 12) 11 0 15 1, oF (.getfield 158) 8 1 398 7, oF (.getfield 162) 7 0 399 0] (by decide +kernel) (And.intro t0 (And.intro rfl (And.intro (tGr.off hG t0 (k := 0) rfl) (And.intro rfl (And.intro (tGr.off hG (tGr.off hG t0 (k := 0) rfl) (k := 1) rfl) (show tWG K B 0 0 S I J 37 [some (vR 0), some (vI v1), some (vI v2), none, none, none, none, none] [vI (I 7 0)] from ?_))))))
      refine gIfNe hO (off := 10) (tgt := 47) (by decide +kernel) (by decide) (fun c8 => ?_) (fun c8 => ?_)
      · have h := h.1 c8
        refine gBk (pe := 58) hO [o0 (.aload_n 0), oF (.getfield 82) 11 12 49 60, o0 (.aload_n 0), oF (.getfield 12) 11 0 15 1, oF (.getfield 169) 8 2 425 15] (by decide +kernel) (And.intro t0 (And.intro rfl (And.intro t0 (And.intro rfl (And.intro (tGr.off hG t0 (k := 0) rfl) (And.intro rfl (show tWG K B 0 0 S I J 58 [some (vR 0), some (vI v1), some (vI v2), none, none, none, none, none] [vR 15, vR 60] from ?_)))))))
        refine gCVv_c hO (M10_copyFrom (tGr.off hG t0 (k := 12) rfl) (tGr.off hG (tGr.off hG t0 (k := 0) rfl) (k := 2) rfl) h) hc10_copyFrom (idx := 352) (w := 1407) (by decide +kernel) hR (by omega) (tGr.off hG t0 (k := 12) rfl) ⟨by decide, rfl⟩ (vs := [vR 15]) (st := []) ⟨rfl, Nat.le_of_ble_eq_true rfl, rfl⟩ (by decide +kernel) (fun I9 J10 h => ?_)
        refine gBk (pe := 78) hO [o0 (.aload_n 0), oF (.getfield 82) 11 12 49 60, oI (.iconst 0) 0, oF (.putfield 276) 10 4 935 0, o0 (.aload_n 0), oI (.iconst 1) 1, oF (.putfield 86) 11 13 50 0, o0 (.aload_n 0), oF (.getfield 59) 11 8 38 48] (by decide +kernel) (And.intro t0 (And.intro rfl (And.intro (tGr.off hG t0 (k := 12) rfl) (And.intro t0 (And.intro (Or.inr rfl) (And.intro t0 (And.intro rfl (show tWG K B 0 0 S (uI (uI I9 60 4 0) 0 13 1) J10 78 [some (vR 0), some (vI v1), some (vI v2), none, none, none, none, none] [vR 48] from ?_))))))))
        refine gCVv_c hO (M2_asItStands (tGr.off hG t0 (k := 8) rfl) h) hc2_asItStands (idx := 114) (w := 255) (by decide +kernel) hR (by omega) (tGr.off hG t0 (k := 8) rfl) ⟨by decide, rfl⟩ (vs := []) (st := []) ⟨rfl, Nat.le_of_ble_eq_true rfl, rfl⟩ (by decide +kernel) (fun I11 J12 h => ?_)
        refine gBk (pe := 106) hO [o0 (.aload_n 0), oF (.getfield 82) 11 12 49 60, oF (.getfield 307) 10 6 947 0, o0 (.aload_n 0), oF (.getfield 82) 11 12 49 60, oF (.getfield 310) 10 7 948 0, o0 .iadd, oI (.iconst 1) 1, o0 .iadd, o0 (.istore_n 3), o0 (.iload_n 1), o0 .i2l, o0 (.lstore 4), oI (.iconst 0) 0, o0 (.istore 6)] (by decide +kernel) (And.intro t0 (And.intro rfl (And.intro (tGr.off hG t0 (k := 12) rfl) (And.intro t0 (And.intro rfl (And.intro (tGr.off hG t0 (k := 12) rfl) (And.intro (Nat.le_of_ble_eq_true rfl) (And.intro (Nat.le_of_ble_eq_true rfl) (And.intro (Nat.le_of_ble_eq_true rfl) (show tWG K B 0 0 S I11 J12 106 [some (vR 0), some (vI v1), some (vI v2), some (vI (((I11 60 6) + (I11 60 7)) + 1)), some (vL v1.toInt64), none, some (vI 0), none] [] from ?_))))))))))
        exact gWeak (L' := [some (vR 0), none, some (vI v2), some (vI (((I11 60 6) + (I11 60 7)) + 1)), some (vL v1.toInt64), none, some (vI 0), none]) ⟨rfl, rfl, rfl, rfl, rfl, trivial⟩ (W11_days_L106 hO hR hG t0 hQ n _ _ _ _ _ _ h)
      · have h := h.2 c8
        refine gBk (pe := 43) hO [o0 (.aload_n 0), oI (.bipush (-3)) (-3)] (by decide +kernel) (show tWG K B 0 0 S I J 43 [some (vR 0), some (vI v1), some (vI v2), none, none, none, none, none] [vI (-3), vR 0] from ?_)
        refine gCVi_c hO (M11_settle t0 h) hc11_settle (idx := 110) (w := 248) (by decide +kernel) hR (by omega) t0 ⟨by decide, rfl⟩ (vs := [vI (-3)]) (st := []) ⟨rfl, Nat.le_of_ble_eq_true rfl, rfl⟩ (by decide +kernel) (fun x27 I25 J26 h => ?_)
        exact gIret hO hQ (by decide +kernel) ⟨rfl, h⟩
    · have h := h.2 c7
      exact gWeak (L' := [some (vR 0), none, none, none, none, none, none, none]) ⟨rfl, trivial⟩ (W11_days_21 hO hR hG t0 hQ h))
set_option maxRecDepth 100000 in
theorem W5_bestLeans_168 {K : tK} {B : tB} {S : tSH} {MC MS : Nat} (hO : tKO K B RX5 cX5_bestLeans 8) (hR : kR K = tRm 8 MC MS) (hG : tGr S) {n : Nat} (t0 : ty S 51 5) {k : Int32 → tHI → tHJ → Prop} (hQ : tRet K B (tQi B (tPi S k)) 0 0 (some .int)) {I : tHI} {J : tHJ} {v2 : Int32} {v4 : Int32} (h : F5_bestLeans_168 n S k I J v2 v4) : tWG K B 0 0 S I J 168 [some (vR 51), none, some (vI v2), some (vR 2), some (vI v4), none, none, none] [] := by
  refine gBk (pe := 169) hO [o0 (.iload_n 2)] (by decide +kernel) (show tWG K B 0 0 S I J 169 [some (vR 51), none, some (vI v2), some (vR 2), some (vI v4), none, none, none] [vI v2] from ?_)
  refine gIfNe hO (off := 6) (tgt := 175) (by decide +kernel) (by decide) (fun c5 => ?_) (fun c5 => ?_)
  · have h := h.1 c5
    refine gBk (pe := 179) hO [o0 (.aload_n 3), o0 (.iload_n 2), oI (.iconst 1) 1, o0 .isub] (by decide +kernel) (show tWG K B 0 0 S I J 179 [some (vR 51), none, some (vI v2), some (vR 2), some (vI v4), none, none, none] [vI (v2 - 1), vR 2] from ?_)
    refine gCVi_z hO (M3_has (tGr.off hG (tGr.abs hG t0 (k := 0) rfl) (k := 0) rfl)) hc3_has (idx := 114) (w := 1285) (by decide +kernel) hR (by omega) (tGr.off hG (tGr.abs hG t0 (k := 0) rfl) (k := 0) rfl) ⟨by decide, rfl⟩ (vs := [vI (v2 - 1)]) (st := []) ⟨rfl, Nat.le_of_ble_eq_true rfl, rfl⟩ (by decide +kernel) (fun z6 => ?_)
    have hj7 : ∀ (m8 : Int32), m8 = (if (V3_has S I J 2 (v2 - 1)) = 0 then (-1) else ((I 57 (v2 - 1).toNatClampNeg) + 2)) → tWG K B 0 0 S I J 199 [none, none, none, none, none, none, none, none] [vI m8] := by
      intro m8 em8
      subst em8
      have h := h.2
      exact gIret hO hQ (by decide +kernel) ⟨rfl, h⟩
    have h := h.1
    refine gIfEq hO (off := 16) (tgt := 198) (by decide +kernel) (by decide) (fun c9 => ?_) (fun c9 => ?_)
    · have h := h.1 c9
      refine gBk (pe := 199) hO [oI (.iconst (-1)) (-1)] (by decide +kernel) (show tWG K B 0 0 S I J 199 [some (vR 51), none, some (vI v2), some (vR 2), some (vI v4), none, none, none] [vI (-1)] from ?_)
      exact gWeak (L' := [none, none, none, none, none, none, none, none]) trivial (hj7 _ (Eq.symm (if_pos c9)))
    · have h := h.2 c9
      refine gBk (pe := 199) hO [o0 (.aload_n 0), oF (.getfield 27) 5 7 170 57, o0 (.iload_n 2), oI (.iconst 1) 1, o0 .isub, o0 .iaload, oI (.iconst 2) 2, o0 .iadd, o0 (.goto 4)] (by decide +kernel) (And.intro t0 (And.intro rfl (And.intro (tGr.off hG t0 (k := 7) rfl) (And.intro (tin (tGr.len hG t0 (k := 7) rfl (by decide)) h.1) (show tWG K B 0 0 S I J 199 [some (vR 51), none, some (vI v2), some (vR 2), some (vI v4), none, none, none] [vI ((I 57 (v2 - 1).toNatClampNeg) + 2)] from ?_)))))
      have h := h.2
      exact gWeak (L' := [none, none, none, none, none, none, none, none]) trivial (hj7 _ (Eq.symm (if_neg c9)))
  · have h := h.2 c5
    refine gBk (pe := 174) hO [o0 (.iload 4)] (by decide +kernel) (show tWG K B 0 0 S I J 174 [some (vR 51), none, some (vI v2), some (vR 2), some (vI v4), none, none, none] [vI v4] from ?_)
    exact gIret hO hQ (by decide +kernel) ⟨rfl, h⟩
set_option maxRecDepth 100000 in
theorem W5_bestLeans_156 {K : tK} {B : tB} {S : tSH} {MC MS : Nat} (hO : tKO K B RX5 cX5_bestLeans 8) (hR : kR K = tRm 8 MC MS) (hG : tGr S) {n : Nat} (t0 : ty S 51 5) {k : Int32 → tHI → tHJ → Prop} (hQ : tRet K B (tQi B (tPi S k)) 0 0 (some .int)) {kb103 : tHI → tHJ → Int32 → Int32 → Int32 → Int32 → Int32 → Prop} (hkb103 : ∀ (I : tHI) (J : tHJ) (v1 : Int32) (v2 : Int32) (v4 : Int32) (v5 : Int32) (v6 : Int32), kb103 I J v1 v2 v4 v5 v6 → tWG K B 0 0 S I J 103 [some (vR 51), some (vI v1), some (vI v2), some (vR 2), some (vI v4), some (vI v5), some (vI v6), none] []) {I : tHI} {J : tHJ} {v1 : Int32} {v2 : Int32} {v4 : Int32} {v6 : Int32} (h : F5_bestLeans_156 n S k kb103 I J v1 v2 v4 v6) : tWG K B 0 0 S I J 156 [some (vR 51), some (vI v1), some (vI v2), some (vR 2), some (vI v4), none, some (vI v6), none] [] := by
  refine gBk (pe := 157) hO [o0 (.aload_n 0)] (by decide +kernel) (show tWG K B 0 0 S I J 157 [some (vR 51), some (vI v1), some (vI v2), some (vR 2), some (vI v4), none, some (vI v6), none] [vR 51] from ?_)
  refine gCVi_b hO (M5_nextTry t0 h) hc5_nextTry (idx := 135) (w := 1291) (by decide +kernel) hR (by omega) t0 ⟨by decide, rfl⟩ (vs := []) (st := []) ⟨rfl, Nat.le_of_ble_eq_true rfl, rfl⟩ (by decide +kernel) (fun x18 I16 J17 z19 h => ?_)
  have h := h z19
  refine gBk (pe := 103) hO [o0 (.istore 5), oI (.iinc 6 1) 1, o0 (.goto (-62))] (by decide +kernel) (And.intro (Nat.le_of_ble_eq_true rfl) (show tWG K B 0 0 S I16 J17 103 [some (vR 51), some (vI v1), some (vI v2), some (vR 2), some (vI v4), some (vI x18), some (vI (v6 + 1)), none] [] from ?_))
  exact hkb103 _ _ _ _ _ _ _ h
set_option maxRecDepth 100000 in
theorem W5_bestLeans_103 {K : tK} {B : tB} {S : tSH} {MC MS : Nat} (hO : tKO K B RX5 cX5_bestLeans 8) (hR : kR K = tRm 8 MC MS) (hG : tGr S) {n : Nat} (t0 : ty S 51 5) {k : Int32 → tHI → tHJ → Prop} (hQ : tRet K B (tQi B (tPi S k)) 0 0 (some .int)) {kb103 : tHI → tHJ → Int32 → Int32 → Int32 → Int32 → Int32 → Prop} (hkb103 : ∀ (I : tHI) (J : tHJ) (v1 : Int32) (v2 : Int32) (v4 : Int32) (v5 : Int32) (v6 : Int32), kb103 I J v1 v2 v4 v5 v6 → tWG K B 0 0 S I J 103 [some (vR 51), some (vI v1), some (vI v2), some (vR 2), some (vI v4), some (vI v5), some (vI v6), none] []) {I : tHI} {J : tHJ} {v1 : Int32} {v2 : Int32} {v4 : Int32} {v5 : Int32} {v6 : Int32} (h : F5_bestLeans_103 n S k kb103 I J v1 v2 v4 v5 v6) : tWG K B 0 0 S I J 103 [some (vR 51), some (vI v1), some (vI v2), some (vR 2), some (vI v4), some (vI v5), some (vI v6), none] [] := by
  refine gBk (pe := 108) hO [o0 (.iload 6), oI (.sipush 15625) 15625] (by decide +kernel) (show tWG K B 0 0 S I J 108 [some (vR 51), some (vI v1), some (vI v2), some (vR 2), some (vI v4), some (vI v5), some (vI v6), none] [vI 15625, vI v6] from ?_)
  refine gIcGe hO (off := 60) (tgt := 168) (by decide +kernel) (by decide) (fun c4 => ?_) (fun c4 => ?_)
  · have h := h.1 c4
    exact gWeak (L' := [some (vR 51), none, some (vI v2), some (vR 2), some (vI v4), none, none, none]) ⟨rfl, rfl, rfl, rfl, trivial⟩ (W5_bestLeans_168 hO hR hG t0 hQ h)
  · have h := h.2 c4
    refine gBk (pe := 113) hO [o0 (.iload 5)] (by decide +kernel) (show tWG K B 0 0 S I J 113 [some (vR 51), some (vI v1), some (vI v2), some (vR 2), some (vI v4), some (vI v5), some (vI v6), none] [vI v5] from ?_)
    refine gIfEq hO (off := 55) (tgt := 168) (by decide +kernel) (by decide) (fun c10 => ?_) (fun c10 => ?_)
    · have h := h.1 c10
      exact gWeak (L' := [some (vR 51), none, some (vI v2), some (vR 2), some (vI v4), none, none, none]) ⟨rfl, rfl, rfl, rfl, trivial⟩ (W5_bestLeans_168 hO hR hG t0 hQ h)
    · have h := h.2 c10
      refine gBk (pe := 120) hO [o0 (.iload 4), oI (.bipush 60) 60] (by decide +kernel) (show tWG K B 0 0 S I J 120 [some (vR 51), some (vI v1), some (vI v2), some (vR 2), some (vI v4), some (vI v5), some (vI v6), none] [vI 60, vI v4] from ?_)
      refine gIcGe hO (off := 48) (tgt := 168) (by decide +kernel) (by decide) (fun c11 => ?_) (fun c11 => ?_)
      · have h := h.1 c11
        exact gWeak (L' := [some (vR 51), none, some (vI v2), some (vR 2), some (vI v4), none, none, none]) ⟨rfl, rfl, rfl, rfl, trivial⟩ (W5_bestLeans_168 hO hR hG t0 hQ h)
      · have h := h.2 c11
        refine gBk (pe := 125) hO [o0 (.aload_n 0), o0 (.iload_n 1)] (by decide +kernel) (show tWG K B 0 0 S I J 125 [some (vR 51), some (vI v1), some (vI v2), some (vR 2), some (vI v4), some (vI v5), some (vI v6), none] [vI v1, vR 51] from ?_)
        refine gCVi_c hO (M5_quickAsTried t0 h) hc5_quickAsTried (idx := 126) (w := 1286) (by decide +kernel) hR (by omega) t0 ⟨by decide, rfl⟩ (vs := [vI v1]) (st := []) ⟨rfl, Nat.le_of_ble_eq_true rfl, rfl⟩ (by decide +kernel) (fun x14 I12 J13 h => ?_)
        refine gBk (pe := 134) hO [o0 (.istore 7), o0 (.iload 7), o0 (.iload 4)] (by decide +kernel) (And.intro (Nat.le_of_ble_eq_true rfl) (show tWG K B 0 0 S I12 J13 134 [some (vR 51), some (vI v1), some (vI v2), some (vR 2), some (vI v4), some (vI v5), some (vI v6), some (vI x14)] [vI v4, vI x14] from ?_))
        refine gIcLe hO (off := 22) (tgt := 156) (by decide +kernel) (by decide) (fun c15 => ?_) (fun c15 => ?_)
        · have h := h.1 c15
          exact gWeak (L' := [some (vR 51), some (vI v1), some (vI v2), some (vR 2), some (vI v4), none, some (vI v6), none]) ⟨rfl, rfl, rfl, rfl, rfl, rfl, trivial⟩ (W5_bestLeans_156 hO hR hG t0 hQ hkb103 h)
        · have h := h.2 c15
          refine gBk (pe := 153) hO [o0 (.iload 7), o0 (.istore 4), o0 (.aload_n 0), oF (.getfield 24) 5 6 169 56, oI (.iconst 0) 0, o0 (.aload_n 0), oF (.getfield 27) 5 7 170 57, oI (.iconst 0) 0, oI (.bipush 6) 6] (by decide +kernel) (And.intro (Nat.le_of_ble_eq_true rfl) (And.intro t0 (And.intro rfl (And.intro t0 (And.intro rfl (show tWG K B 0 0 S I12 J13 153 [some (vR 51), some (vI v1), some (vI v2), some (vR 2), some (vI x14), some (vI v5), some (vI v6), some (vI x14)] [vI 6, vI 0, vR 57, vI 0, vR 56] from ?_))))))
          refine gCopy hO (tGr.off hG t0 (k := 6) rfl) (tGr.off hG t0 (k := 7) rfl) (tcpr (tGr.len hG t0 (k := 6) rfl (by decide)) (tGr.len hG t0 (k := 7) rfl (by decide)) (by decide +kernel)) (idx := 129) (w := 1284) (by decide +kernel) hR (by omega) (Nat.le_of_ble_eq_true rfl) rfl (by decide +kernel) (show tWG K B 0 0 S (cpI I12 56 0 57 0 6) J13 156 [some (vR 51), some (vI v1), some (vI v2), some (vR 2), some (vI x14), some (vI v5), some (vI v6), some (vI x14)] [] from ?_)
          exact gWeak (L' := [some (vR 51), some (vI v1), some (vI v2), some (vR 2), some (vI x14), none, some (vI v6), none]) ⟨rfl, rfl, rfl, rfl, rfl, rfl, trivial⟩ (W5_bestLeans_156 hO hR hG t0 hQ hkb103 h)
theorem W5_bestLeans_L103 {K : tK} {B : tB} {S : tSH} {MC MS : Nat} (hO : tKO K B RX5 cX5_bestLeans 8) (hR : kR K = tRm 8 MC MS) (hG : tGr S) {n : Nat} (t0 : ty S 51 5) {k : Int32 → tHI → tHJ → Prop} (hQ : tRet K B (tQi B (tPi S k)) 0 0 (some .int)) : ∀ (f : Nat) (I : tHI) (J : tHJ) (v1 : Int32) (v2 : Int32) (v4 : Int32) (v5 : Int32) (v6 : Int32), F5_bestLeans_L103 n S k f I J v1 v2 v4 v5 v6 → tWG K B 0 0 S I J 103 [some (vR 51), some (vI v1), some (vI v2), some (vR 2), some (vI v4), some (vI v5), some (vI v6), none] [] := by
  intro f
  induction f with
  | zero => intro I J v1 v2 v4 v5 v6 h; exact h.elim
  | succ f ih => intro I J v1 v2 v4 v5 v6 h; exact W5_bestLeans_103 hO hR hG t0 hQ ih h
set_option maxRecDepth 100000 in
theorem W5_bestLeans_24 {K : tK} {B : tB} {S : tSH} {MC MS : Nat} (hO : tKO K B RX5 cX5_bestLeans 8) (hR : kR K = tRm 8 MC MS) (hG : tGr S) {n : Nat} (t0 : ty S 51 5) {k : Int32 → tHI → tHJ → Prop} (hQ : tRet K B (tQi B (tPi S k)) 0 0 (some .int)) {kb24 : tHI → tHJ → Int32 → Int32 → Int32 → Prop} (hkb24 : ∀ (I : tHI) (J : tHJ) (v1 : Int32) (v2 : Int32) (v4 : Int32), kb24 I J v1 v2 v4 → tWG K B 0 0 S I J 24 [some (vR 51), some (vI v1), some (vI v2), some (vR 2), some (vI v4), none, none, none] []) {I : tHI} {J : tHJ} {v1 : Int32} {v2 : Int32} {v4 : Int32} (h : F5_bestLeans_24 n S k kb24 I J v1 v2 v4) : tWG K B 0 0 S I J 24 [some (vR 51), some (vI v1), some (vI v2), some (vR 2), some (vI v4), none, none, none] [] := by
  refine gBk (pe := 28) hO [o0 (.iload 4), oI (.bipush 6) 6] (by decide +kernel) (show tWG K B 0 0 S I J 28 [some (vR 51), some (vI v1), some (vI v2), some (vR 2), some (vI v4), none, none, none] [vI 6, vI v4] from ?_)
  refine gIcGe hO (off := 66) (tgt := 94) (by decide +kernel) (by decide) (fun c3 => ?_) (fun c3 => ?_)
  · have h := h.1 c3
    refine gBk (pe := 103) hO [oI (.iconst (-1)) (-1), o0 (.istore 4), oI (.iconst 1) 1, o0 (.istore 5), oI (.iconst 0) 0, o0 (.istore 6)] (by decide +kernel) (And.intro (Nat.le_of_ble_eq_true rfl) (And.intro (Nat.le_of_ble_eq_true rfl) (And.intro (Nat.le_of_ble_eq_true rfl) (show tWG K B 0 0 S I J 103 [some (vR 51), some (vI v1), some (vI v2), some (vR 2), some (vI (-1)), some (vI 1), some (vI 0), none] [] from ?_))))
    exact W5_bestLeans_L103 hO hR hG t0 hQ n _ _ _ _ _ _ _ h
  · have h := h.2 c3
    refine gBk (pe := 40) hO [o0 (.aload_n 0), oF (.getfield 24) 5 6 169 56, o0 (.iload 4), o0 (.aload_n 3), o0 (.iload 4)] (by decide +kernel) (And.intro t0 (And.intro rfl (show tWG K B 0 0 S I J 40 [some (vR 51), some (vI v1), some (vI v2), some (vR 2), some (vI v4), none, none, none] [vI v4, vR 2, vI v4, vR 56] from ?_)))
    refine gCVi_z hO (M3_has (tGr.off hG (tGr.abs hG t0 (k := 0) rfl) (k := 0) rfl)) hc3_has (idx := 114) (w := 1285) (by decide +kernel) hR (by omega) (tGr.off hG (tGr.abs hG t0 (k := 0) rfl) (k := 0) rfl) ⟨by decide, rfl⟩ (vs := [vI v4]) (st := [vI v4, vR 56]) ⟨rfl, Nat.le_of_ble_eq_true rfl, rfl⟩ (by decide +kernel) (fun z20 => ?_)
    have hj21 : ∀ (m22 : Int32), m22 = (if (V3_has S I J 2 v4) = 0 then 0 else (if (I 5 v4.toNatClampNeg) = 1 then ((-2) : Int32) else 0)) → tWG K B 0 0 S I J 63 [some (vR 51), some (vI v1), some (vI v2), some (vR 2), some (vI v4), none, none, none] [vI m22, vI v4, vR 56] := by
      intro m22 em22
      subst em22
      have h := h.2
      refine gBk (pe := 24) hO [o0 .iastore, o0 (.aload_n 0), o0 .dup, oF (.getfield 30) 5 8 171 0, o0 (.aload_n 0), oF (.getfield 24) 5 6 169 56, o0 (.iload 4), o0 .iaload, o0 (.aload_n 3), oF (.getfield 123) 3 1 1283 3, o0 (.iload 4), o0 .iaload, o0 .imul, o0 .iadd, oF (.putfield 30) 5 8 171 0, oI (.iinc 4 1) 1, o0 (.goto (-67))] (by decide +kernel) (And.intro (tGr.off hG t0 (k := 6) rfl) (And.intro (tin (tGr.len hG t0 (k := 6) rfl (by decide)) h.1) (And.intro t0 (And.intro t0 (And.intro rfl (And.intro (tGr.off hG t0 (k := 6) rfl) (And.intro (tin (tGr.len hG t0 (k := 6) rfl (by decide)) h.2.1) (And.intro (tGr.off hG (tGr.abs hG t0 (k := 0) rfl) (k := 0) rfl) (And.intro rfl (And.intro (tGr.off hG (tGr.off hG (tGr.abs hG t0 (k := 0) rfl) (k := 0) rfl) (k := 1) rfl) (And.intro (tin (tGr.len hG (tGr.off hG (tGr.abs hG t0 (k := 0) rfl) (k := 0) rfl) (k := 1) rfl (by decide)) h.2.2.1) (And.intro t0 (show tWG K B 0 0 S (uI (uI I 56 v4.toNatClampNeg (if (V3_has S I J 2 v4) = 0 then 0 else (if (I 5 v4.toNatClampNeg) = 1 then ((-2) : Int32) else 0))) 51 8 (((uI I 56 v4.toNatClampNeg (if (V3_has S I J 2 v4) = 0 then 0 else (if (I 5 v4.toNatClampNeg) = 1 then ((-2) : Int32) else 0))) 51 8) + (((uI I 56 v4.toNatClampNeg (if (V3_has S I J 2 v4) = 0 then 0 else (if (I 5 v4.toNatClampNeg) = 1 then ((-2) : Int32) else 0))) 56 v4.toNatClampNeg) * ((uI I 56 v4.toNatClampNeg (if (V3_has S I J 2 v4) = 0 then 0 else (if (I 5 v4.toNatClampNeg) = 1 then ((-2) : Int32) else 0))) 3 v4.toNatClampNeg)))) J 24 [some (vR 51), some (vI v1), some (vI v2), some (vR 2), some (vI (v4 + 1)), none, none, none] [] from ?_)))))))))))))
      have h := h.2.2.2
      exact hkb24 _ _ _ _ _ h
    have h := h.1
    refine gIfEq hO (off := 19) (tgt := 62) (by decide +kernel) (by decide) (fun c23 => ?_) (fun c23 => ?_)
    · have h := h.1 c23
      refine gBk (pe := 63) hO [oI (.iconst 0) 0] (by decide +kernel) (show tWG K B 0 0 S I J 63 [some (vR 51), some (vI v1), some (vI v2), some (vR 2), some (vI v4), none, none, none] [vI 0, vI v4, vR 56] from ?_)
      exact (hj21 _ (Eq.symm (if_pos c23)))
    · have h := h.2 c23
      refine gBk (pe := 54) hO [o0 (.aload_n 3), oF (.getfield 120) 3 3 1282 5, o0 (.iload 4), o0 .iaload, oI (.iconst 1) 1] (by decide +kernel) (And.intro (tGr.off hG (tGr.abs hG t0 (k := 0) rfl) (k := 0) rfl) (And.intro rfl (And.intro (tGr.off hG (tGr.off hG (tGr.abs hG t0 (k := 0) rfl) (k := 0) rfl) (k := 3) rfl) (And.intro (tin (tGr.len hG (tGr.off hG (tGr.abs hG t0 (k := 0) rfl) (k := 0) rfl) (k := 3) rfl (by decide)) h.1) (show tWG K B 0 0 S I J 54 [some (vR 51), some (vI v1), some (vI v2), some (vR 2), some (vI v4), none, none, none] [vI 1, vI (I 5 v4.toNatClampNeg), vI v4, vR 56] from ?_)))))
      have h := h.2
      refine gIcNe hO (off := 8) (tgt := 62) (by decide +kernel) (by decide) (fun c24 => ?_) (fun c24 => ?_)
      · have h := h.1 c24
        refine gBk (pe := 63) hO [oI (.iconst 0) 0] (by decide +kernel) (show tWG K B 0 0 S I J 63 [some (vR 51), some (vI v1), some (vI v2), some (vR 2), some (vI v4), none, none, none] [vI 0, vI v4, vR 56] from ?_)
        exact (hj21 _ (Eq.symm ((if_neg c23).trans (if_neg c24))))
      · have h := h.2 c24
        refine gBk (pe := 63) hO [oI (.bipush (-2)) (-2), o0 (.goto 4)] (by decide +kernel) (show tWG K B 0 0 S I J 63 [some (vR 51), some (vI v1), some (vI v2), some (vR 2), some (vI v4), none, none, none] [vI (-2), vI v4, vR 56] from ?_)
        exact (hj21 _ (Eq.symm ((if_neg c23).trans (if_pos c24))))
theorem W5_bestLeans_L24 {K : tK} {B : tB} {S : tSH} {MC MS : Nat} (hO : tKO K B RX5 cX5_bestLeans 8) (hR : kR K = tRm 8 MC MS) (hG : tGr S) {n : Nat} (t0 : ty S 51 5) {k : Int32 → tHI → tHJ → Prop} (hQ : tRet K B (tQi B (tPi S k)) 0 0 (some .int)) : ∀ (f : Nat) (I : tHI) (J : tHJ) (v1 : Int32) (v2 : Int32) (v4 : Int32), F5_bestLeans_L24 n S k f I J v1 v2 v4 → tWG K B 0 0 S I J 24 [some (vR 51), some (vI v1), some (vI v2), some (vR 2), some (vI v4), none, none, none] [] := by
  intro f
  induction f with
  | zero => intro I J v1 v2 v4 h; exact h.elim
  | succ f ih => intro I J v1 v2 v4 h; exact W5_bestLeans_24 hO hR hG t0 hQ ih h
set_option maxRecDepth 20000 in
theorem hc5_bestLeans : tCV yX5_bestLeans cX5_bestLeans 8 (some .int) 2 := ⟨⟨(List.mem_of_getElem? (i := 1280) rfl), (List.mem_of_getElem? (i := 41) (by decide +kernel)), by decide +kernel⟩, (List.mem_of_getElem? (i := 1278) (by decide +kernel)), (List.mem_of_getElem? (i := 1279) (by decide +kernel))⟩
set_option maxRecDepth 100000 in
theorem M5_bestLeans {l : Launch} {B : tB} {S : tSH} {I : tHI} {J : tHJ} {v1 : Int32} {v2 : Int32} {n : Nat} {k : Int32 → tHI → tHJ → Prop} (t0 : ty S 51 5) (h : F5_bestLeans n S I J v1 v2 k) : Met l yX5_bestLeans (tWs yX5_bestLeans cX5_bestLeans 8 (some .int)) (tRm 8 0 0) (tPc B [vR 51, vI v1, vI v2] S I J) (tQi B (tPi S k)) 0 0 (tA B) :=
  tEntry (by decide +kernel) [some (vR 51), some (vI v1), some (vI v2), none, none, none, none, none] rfl rfl (Nat.le_of_ble_eq_true rfl) (fun K hl hR hO hQ hG => by
  subst hl
  refine gBk (pe := 13) hO [o0 (.aload_n 0), oF (.getfield 34) 5 0 172 1, oF (.getfield 110) 8 0 1281 2, o0 (.astore_n 3), o0 (.aload_n 0), oF (.getfield 21) 5 5 168 55, oI (.iconst (-1)) (-1)] (by decide +kernel) (And.intro t0 (And.intro rfl (And.intro (tGr.abs hG t0 (k := 0) rfl) (And.intro rfl (And.intro (Nat.le_of_ble_eq_true rfl) (And.intro t0 (And.intro rfl (show tWG K B 0 0 S I J 13 [some (vR 51), some (vI v1), some (vI v2), some (vR 2), none, none, none, none] [vI (-1), vR 55] from ?_))))))))
  refine gCSv_c hO (MJ7_fill_53178 (tGr.off hG t0 (k := 5) rfl) h) hcJ7_fill_53178 (idx := 86) (w := 1210) (by decide +kernel) hR (by omega) (vs := [vR 55, vI (-1)]) (st := []) ⟨rfl, Nat.le_of_ble_eq_true rfl, rfl⟩ (by decide +kernel) (fun I1 J2 h => ?_)
  refine gBk (pe := 24) hO [o0 (.aload_n 0), oI (.iconst 0) 0, oF (.putfield 30) 5 8 171 0, oI (.iconst 0) 0, o0 (.istore 4)] (by decide +kernel) (And.intro t0 (And.intro (Nat.le_of_ble_eq_true rfl) (show tWG K B 0 0 S (uI I1 51 8 0) J2 24 [some (vR 51), some (vI v1), some (vI v2), some (vR 2), some (vI 0), none, none, none] [] from ?_)))
  exact W5_bestLeans_L24 hO hR hG t0 hQ n _ _ _ _ _ h)
set_option maxRecDepth 100000 in
theorem W5_bestSpots_73 {K : tK} {B : tB} {S : tSH} {MC MS : Nat} (hO : tKO K B RX5 cX5_bestSpots 6) (hR : kR K = tRm 8 MC MS) (hG : tGr S) {n : Nat} (t0 : ty S 51 5) {k : Int32 → tHI → tHJ → Prop} (hQ : tRet K B (tQi B (tPi S k)) 0 0 (some .int)) {kb22 : tHI → tHJ → Int32 → Int32 → Int32 → Int32 → Prop} (hkb22 : ∀ (I : tHI) (J : tHJ) (v1 : Int32) (v2 : Int32) (v3 : Int32) (v4 : Int32), kb22 I J v1 v2 v3 v4 → tWG K B 0 0 S I J 22 [some (vR 51), some (vI v1), some (vI v2), some (vI v3), some (vI v4), none] []) {I : tHI} {J : tHJ} {v1 : Int32} {v2 : Int32} {v3 : Int32} {v4 : Int32} (h : F5_bestSpots_73 n S k kb22 I J v1 v2 v3 v4) : tWG K B 0 0 S I J 73 [some (vR 51), some (vI v1), some (vI v2), some (vI v3), some (vI v4), none] [] := by
  refine gBk (pe := 22) hO [oI (.iinc 4 1) 1, o0 (.goto (-54))] (by decide +kernel) (show tWG K B 0 0 S I J 22 [some (vR 51), some (vI v1), some (vI v2), some (vI v3), some (vI (v4 + 1)), none] [] from ?_)
  exact hkb22 _ _ _ _ _ _ h
set_option maxRecDepth 100000 in
theorem W5_bestSpots_22 {K : tK} {B : tB} {S : tSH} {MC MS : Nat} (hO : tKO K B RX5 cX5_bestSpots 6) (hR : kR K = tRm 8 MC MS) (hG : tGr S) {n : Nat} (t0 : ty S 51 5) {k : Int32 → tHI → tHJ → Prop} (hQ : tRet K B (tQi B (tPi S k)) 0 0 (some .int)) {kb22 : tHI → tHJ → Int32 → Int32 → Int32 → Int32 → Prop} (hkb22 : ∀ (I : tHI) (J : tHJ) (v1 : Int32) (v2 : Int32) (v3 : Int32) (v4 : Int32), kb22 I J v1 v2 v3 v4 → tWG K B 0 0 S I J 22 [some (vR 51), some (vI v1), some (vI v2), some (vI v3), some (vI v4), none] []) {I : tHI} {J : tHJ} {v1 : Int32} {v2 : Int32} {v3 : Int32} {v4 : Int32} (h : F5_bestSpots_22 n S k kb22 I J v1 v2 v3 v4) : tWG K B 0 0 S I J 22 [some (vR 51), some (vI v1), some (vI v2), some (vI v3), some (vI v4), none] [] := by
  refine gBk (pe := 27) hO [o0 (.iload 4), oI (.iconst 1) 1, o0 (.iload_n 2), o0 .ishl] (by decide +kernel) (show tWG K B 0 0 S I J 27 [some (vR 51), some (vI v1), some (vI v2), some (vI v3), some (vI v4), none] [vI (1 <<< (v2 &&& 31)), vI v4] from ?_)
  refine gIcGe hO (off := 52) (tgt := 79) (by decide +kernel) (by decide) (fun c1 => ?_) (fun c1 => ?_)
  · have h := h.1 c1
    refine gBk (pe := 80) hO [o0 (.iload_n 3)] (by decide +kernel) (show tWG K B 0 0 S I J 80 [some (vR 51), some (vI v1), some (vI v2), some (vI v3), some (vI v4), none] [vI v3] from ?_)
    refine gBk (pe := 82) hO [(.ldc 85, (0, 0, 1209, 0), 1000000000, 0)] (by decide +kernel) (show tWG K B 0 0 S I J 82 [some (vR 51), some (vI v1), some (vI v2), some (vI v3), some (vI v4), none] [vI 1000000000, vI v3] from ?_)
    refine gIcNe hO (off := 5) (tgt := 87) (by decide +kernel) (by decide) (fun c2 => ?_) (fun c2 => ?_)
    · have h := h.1 c2
      refine gBk (pe := 89) hO [o0 (.iload_n 1), oI (.iconst (-1)) (-1)] (by decide +kernel) (show tWG K B 0 0 S I J 89 [some (vR 51), some (vI v1), some (vI v2), some (vI v3), some (vI v4), none] [vI (-1), vI v1] from ?_)
      refine gIcNe hO (off := 5) (tgt := 94) (by decide +kernel) (by decide) (fun c3 => ?_) (fun c3 => ?_)
      · have h := h.1 c3
        refine gBk (pe := 102) hO [o0 (.aload_n 0), oF (.getfield 34) 5 0 172 1, oF (.getfield 110) 8 0 1281 2, o0 (.iload_n 1)] (by decide +kernel) (And.intro t0 (And.intro rfl (And.intro (tGr.abs hG t0 (k := 0) rfl) (And.intro rfl (show tWG K B 0 0 S I J 102 [some (vR 51), some (vI v1), some (vI v2), some (vI v3), some (vI v4), none] [vI v1, vR 2] from ?_)))))
        refine gCVi_z hO (M3_has (tGr.off hG (tGr.abs hG t0 (k := 0) rfl) (k := 0) rfl)) hc3_has (idx := 114) (w := 1285) (by decide +kernel) hR (by omega) (tGr.off hG (tGr.abs hG t0 (k := 0) rfl) (k := 0) rfl) ⟨by decide, rfl⟩ (vs := [vI v1]) (st := []) ⟨rfl, Nat.le_of_ble_eq_true rfl, rfl⟩ (by decide +kernel) (fun z4 => ?_)
        have hj5 : ∀ (m6 : Int32), m6 = (if (V3_has S I J 2 v1) = 0 then (-1) else (I 57 v1.toNatClampNeg)) → tWG K B 0 0 S I J 118 [none, none, none, none, none, none] [vI m6] := by
          intro m6 em6
          subst em6
          have h := h.2
          exact gIret hO hQ (by decide +kernel) ⟨rfl, h⟩
        have h := h.1
        refine gIfEq hO (off := 12) (tgt := 117) (by decide +kernel) (by decide) (fun c7 => ?_) (fun c7 => ?_)
        · have h := h.1 c7
          refine gBk (pe := 118) hO [oI (.iconst (-1)) (-1)] (by decide +kernel) (show tWG K B 0 0 S I J 118 [some (vR 51), some (vI v1), some (vI v2), some (vI v3), some (vI v4), none] [vI (-1)] from ?_)
          exact gWeak (L' := [none, none, none, none, none, none]) trivial (hj5 _ (Eq.symm (if_pos c7)))
        · have h := h.2 c7
          refine gBk (pe := 118) hO [o0 (.aload_n 0), oF (.getfield 27) 5 7 170 57, o0 (.iload_n 1), o0 .iaload, o0 (.goto 4)] (by decide +kernel) (And.intro t0 (And.intro rfl (And.intro (tGr.off hG t0 (k := 7) rfl) (And.intro (tin (tGr.len hG t0 (k := 7) rfl (by decide)) h.1) (show tWG K B 0 0 S I J 118 [some (vR 51), some (vI v1), some (vI v2), some (vI v3), some (vI v4), none] [vI (I 57 v1.toNatClampNeg)] from ?_)))))
          have h := h.2
          exact gWeak (L' := [none, none, none, none, none, none]) trivial (hj5 _ (Eq.symm (if_neg c7)))
      · have h := h.2 c3
        refine gBk (pe := 93) hO [o0 (.iload_n 3)] (by decide +kernel) (show tWG K B 0 0 S I J 93 [some (vR 51), some (vI v1), some (vI v2), some (vI v3), some (vI v4), none] [vI v3] from ?_)
        exact gIret hO hQ (by decide +kernel) ⟨rfl, h⟩
    · have h := h.2 c2
      refine gBk (pe := 86) hO [oI (.iconst (-1)) (-1)] (by decide +kernel) (show tWG K B 0 0 S I J 86 [some (vR 51), some (vI v1), some (vI v2), some (vI v3), some (vI v4), none] [vI (-1)] from ?_)
      exact gIret hO hQ (by decide +kernel) ⟨rfl, h⟩
  · have h := h.2 c1
    refine gBk (pe := 34) hO [o0 (.aload_n 0), o0 (.iload 4), o0 (.iload_n 2)] (by decide +kernel) (show tWG K B 0 0 S I J 34 [some (vR 51), some (vI v1), some (vI v2), some (vI v3), some (vI v4), none] [vI v2, vI v4, vR 51] from ?_)
    refine gCVi_b hO (M5_tryChair t0 h) hc5_tryChair (idx := 143) (w := 1312) (by decide +kernel) hR (by omega) t0 ⟨by decide, rfl⟩ (vs := [vI v4, vI v2]) (st := []) ⟨rfl, Nat.le_of_ble_eq_true rfl, rfl⟩ (by decide +kernel) (fun x10 I8 J9 z11 h => ?_)
    have h := h z11
    refine gIfNe hO (off := 6) (tgt := 43) (by decide +kernel) (by decide) (fun c12 => ?_) (fun c12 => ?_)
    · have h := h.1 c12
      refine gBk (pe := 44) hO [o0 (.aload_n 0)] (by decide +kernel) (show tWG K B 0 0 S I8 J9 44 [some (vR 51), some (vI v1), some (vI v2), some (vI v3), some (vI v4), none] [vR 51] from ?_)
      refine gCVi_c hO (M5_timeOfRoad t0 h) hc5_timeOfRoad (idx := 147) (w := 1317) (by decide +kernel) hR (by omega) t0 ⟨by decide, rfl⟩ (vs := []) (st := []) ⟨rfl, Nat.le_of_ble_eq_true rfl, rfl⟩ (by decide +kernel) (fun x15 I13 J14 h => ?_)
      refine gBk (pe := 52) hO [o0 (.istore 5), o0 (.iload 5), o0 (.iload_n 3)] (by decide +kernel) (And.intro (Nat.le_of_ble_eq_true rfl) (show tWG K B 0 0 S I13 J14 52 [some (vR 51), some (vI v1), some (vI v2), some (vI v3), some (vI v4), some (vI x15)] [vI v3, vI x15] from ?_))
      refine gIcGe hO (off := 21) (tgt := 73) (by decide +kernel) (by decide) (fun c16 => ?_) (fun c16 => ?_)
      · have h := h.1 c16
        exact gWeak (L' := [some (vR 51), some (vI v1), some (vI v2), some (vI v3), some (vI v4), none]) ⟨rfl, rfl, rfl, rfl, rfl, trivial⟩ (W5_bestSpots_73 hO hR hG t0 hQ hkb22 h)
      · have h := h.2 c16
        refine gBk (pe := 70) hO [o0 (.iload 5), o0 (.istore_n 3), o0 (.aload_n 0), oF (.getfield 24) 5 6 169 56, oI (.iconst 0) 0, o0 (.aload_n 0), oF (.getfield 27) 5 7 170 57, oI (.iconst 0) 0, oI (.bipush 6) 6] (by decide +kernel) (And.intro (Nat.le_of_ble_eq_true rfl) (And.intro t0 (And.intro rfl (And.intro t0 (And.intro rfl (show tWG K B 0 0 S I13 J14 70 [some (vR 51), some (vI v1), some (vI v2), some (vI x15), some (vI v4), some (vI x15)] [vI 6, vI 0, vR 57, vI 0, vR 56] from ?_))))))
        refine gCopy hO (tGr.off hG t0 (k := 6) rfl) (tGr.off hG t0 (k := 7) rfl) (tcpr (tGr.len hG t0 (k := 6) rfl (by decide)) (tGr.len hG t0 (k := 7) rfl (by decide)) (by decide +kernel)) (idx := 129) (w := 1284) (by decide +kernel) hR (by omega) (Nat.le_of_ble_eq_true rfl) rfl (by decide +kernel) (show tWG K B 0 0 S (cpI I13 56 0 57 0 6) J14 73 [some (vR 51), some (vI v1), some (vI v2), some (vI x15), some (vI v4), some (vI x15)] [] from ?_)
        exact gWeak (L' := [some (vR 51), some (vI v1), some (vI v2), some (vI x15), some (vI v4), none]) ⟨rfl, rfl, rfl, rfl, rfl, trivial⟩ (W5_bestSpots_73 hO hR hG t0 hQ hkb22 h)
    · have h := h.2 c12
      refine gBk (pe := 73) hO [o0 (.goto 33)] (by decide +kernel) (show tWG K B 0 0 S I8 J9 73 [some (vR 51), some (vI v1), some (vI v2), some (vI v3), some (vI v4), none] [] from ?_)
      exact W5_bestSpots_73 hO hR hG t0 hQ hkb22 h
theorem W5_bestSpots_L22 {K : tK} {B : tB} {S : tSH} {MC MS : Nat} (hO : tKO K B RX5 cX5_bestSpots 6) (hR : kR K = tRm 8 MC MS) (hG : tGr S) {n : Nat} (t0 : ty S 51 5) {k : Int32 → tHI → tHJ → Prop} (hQ : tRet K B (tQi B (tPi S k)) 0 0 (some .int)) : ∀ (f : Nat) (I : tHI) (J : tHJ) (v1 : Int32) (v2 : Int32) (v3 : Int32) (v4 : Int32), F5_bestSpots_L22 n S k f I J v1 v2 v3 v4 → tWG K B 0 0 S I J 22 [some (vR 51), some (vI v1), some (vI v2), some (vI v3), some (vI v4), none] [] := by
  intro f
  induction f with
  | zero => intro I J v1 v2 v3 v4 h; exact h.elim
  | succ f ih => intro I J v1 v2 v3 v4 h; exact W5_bestSpots_22 hO hR hG t0 hQ ih h
set_option maxRecDepth 20000 in
theorem hc5_bestSpots : tCV yX5_bestSpots cX5_bestSpots 6 (some .int) 1 := ⟨⟨(List.mem_of_getElem? (i := 1310) rfl), (List.mem_of_getElem? (i := 41) (by decide +kernel)), by decide +kernel⟩, (List.mem_of_getElem? (i := 1308) (by decide +kernel)), (List.mem_of_getElem? (i := 1309) (by decide +kernel))⟩
set_option maxRecDepth 100000 in
theorem M5_bestSpots {l : Launch} {B : tB} {S : tSH} {I : tHI} {J : tHJ} {v1 : Int32} {n : Nat} {k : Int32 → tHI → tHJ → Prop} (t0 : ty S 51 5) (h : F5_bestSpots n S I J v1 k) : Met l yX5_bestSpots (tWs yX5_bestSpots cX5_bestSpots 6 (some .int)) (tRm 8 0 0) (tPc B [vR 51, vI v1] S I J) (tQi B (tPi S k)) 0 0 (tA B) :=
  tEntry (by decide +kernel) [some (vR 51), some (vI v1), none, none, none, none] rfl rfl (Nat.le_of_ble_eq_true rfl) (fun K hl hR hO hQ hG => by
  subst hl
  refine gBk (pe := 12) hO [o0 (.aload_n 0), oF (.getfield 34) 5 0 172 1, oF (.getfield 110) 8 0 1281 2, oF (.getfield 142) 3 0 1311 0, oI (.bipush 6) 6] (by decide +kernel) (And.intro t0 (And.intro rfl (And.intro (tGr.abs hG t0 (k := 0) rfl) (And.intro rfl (And.intro (tGr.off hG (tGr.abs hG t0 (k := 0) rfl) (k := 0) rfl) (show tWG K B 0 0 S I J 12 [some (vR 51), some (vI v1), none, none, none, none] [vI 6, vI (I 2 0)] from ?_))))))
  refine gMin hO (idx := 53) (w := 1200) (by decide +kernel) hR (by omega) (st := []) (Nat.le_of_ble_eq_true rfl) rfl (by decide +kernel) ?_
  refine gBk (pe := 16) hO [o0 (.istore_n 2)] (by decide +kernel) (And.intro (Nat.le_of_ble_eq_true rfl) (show tWG K B 0 0 S I J 16 [some (vR 51), some (vI v1), some (vI (if 6 < (I 2 0) then 6 else (I 2 0))), none, none, none] [] from ?_))
  refine gBk (pe := 22) hO [(.ldc 85, (0, 0, 1209, 0), 1000000000, 0), o0 (.istore_n 3), oI (.iconst 0) 0, o0 (.istore 4)] (by decide +kernel) (And.intro (Nat.le_of_ble_eq_true rfl) (And.intro (Nat.le_of_ble_eq_true rfl) (show tWG K B 0 0 S I J 22 [some (vR 51), some (vI v1), some (vI (if 6 < (I 2 0) then 6 else (I 2 0))), some (vI 1000000000), some (vI 0), none] [] from ?_)))
  exact W5_bestSpots_L22 hO hR hG t0 hQ n _ _ _ _ _ _ h)
set_option maxRecDepth 100000 in
theorem W5_setsAboard_52 {K : tK} {B : tB} {S : tSH} {MC MS : Nat} (hO : tKO K B RX5 cX5_setsAboard 5) (hR : kR K = tRm 8 MC MS) (hG : tGr S) {n : Nat} (t0 : ty S 51 5) {k : Int32 → tHI → tHJ → Prop} (hQ : tRet K B (tQi B (tPi S k)) 0 0 (some .int)) {kb23 : tHI → tHJ → Int32 → Int32 → Int32 → Int32 → Prop} (hkb23 : ∀ (I : tHI) (J : tHJ) (v1 : Int32) (v2 : Int32) (v3 : Int32) (v4 : Int32), kb23 I J v1 v2 v3 v4 → tWG K B 0 0 S I J 23 [some (vR 51), some (vI v1), some (vI v2), some (vI v3), some (vI v4)] []) {I : tHI} {J : tHJ} {v1 : Int32} {v2 : Int32} {v3 : Int32} {v4 : Int32} (h : F5_setsAboard_52 n S k kb23 I J v1 v2 v3 v4) : tWG K B 0 0 S I J 52 [some (vR 51), some (vI v1), some (vI v2), some (vI v3), some (vI v4)] [] := by
  refine gBk (pe := 23) hO [oI (.iinc 4 1) 1, o0 (.goto (-32))] (by decide +kernel) (show tWG K B 0 0 S I J 23 [some (vR 51), some (vI v1), some (vI v2), some (vI v3), some (vI (v4 + 1))] [] from ?_)
  exact hkb23 _ _ _ _ _ _ h
set_option maxRecDepth 100000 in
theorem W5_setsAboard_23 {K : tK} {B : tB} {S : tSH} {MC MS : Nat} (hO : tKO K B RX5 cX5_setsAboard 5) (hR : kR K = tRm 8 MC MS) (hG : tGr S) {n : Nat} (t0 : ty S 51 5) {k : Int32 → tHI → tHJ → Prop} (hQ : tRet K B (tQi B (tPi S k)) 0 0 (some .int)) {kb23 : tHI → tHJ → Int32 → Int32 → Int32 → Int32 → Prop} (hkb23 : ∀ (I : tHI) (J : tHJ) (v1 : Int32) (v2 : Int32) (v3 : Int32) (v4 : Int32), kb23 I J v1 v2 v3 v4 → tWG K B 0 0 S I J 23 [some (vR 51), some (vI v1), some (vI v2), some (vI v3), some (vI v4)] []) {I : tHI} {J : tHJ} {v1 : Int32} {v2 : Int32} {v3 : Int32} {v4 : Int32} (h : F5_setsAboard_23 n S k kb23 I J v1 v2 v3 v4) : tWG K B 0 0 S I J 23 [some (vR 51), some (vI v1), some (vI v2), some (vI v3), some (vI v4)] [] := by
  refine gBk (pe := 26) hO [o0 (.iload 4), o0 (.iload_n 3)] (by decide +kernel) (show tWG K B 0 0 S I J 26 [some (vR 51), some (vI v1), some (vI v2), some (vI v3), some (vI v4)] [vI v3, vI v4] from ?_)
  refine gIcGe hO (off := 32) (tgt := 58) (by decide +kernel) (by decide) (fun c1 => ?_) (fun c1 => ?_)
  · have h := h.1 c1
    refine gBk (pe := 60) hO [o0 (.iload_n 1), oI (.iconst (-1)) (-1)] (by decide +kernel) (show tWG K B 0 0 S I J 60 [some (vR 51), some (vI v1), some (vI v2), some (vI v3), some (vI v4)] [vI (-1), vI v1] from ?_)
    have hj2 : ∀ (m3 : Int32), m3 = (if v1 = (-1) then v2 else (-1)) → tWG K B 0 0 S I J 68 [none, none, none, none, none] [vI m3] := by
      intro m3 em3
      subst em3
      exact gIret hO hQ (by decide +kernel) ⟨rfl, h⟩
    refine gIcNe hO (off := 7) (tgt := 67) (by decide +kernel) (by decide) (fun c4 => ?_) (fun c4 => ?_)
    · refine gBk (pe := 68) hO [oI (.iconst (-1)) (-1)] (by decide +kernel) (show tWG K B 0 0 S I J 68 [some (vR 51), some (vI v1), some (vI v2), some (vI v3), some (vI v4)] [vI (-1)] from ?_)
      exact gWeak (L' := [none, none, none, none, none]) trivial (hj2 _ (Eq.symm (if_neg c4)))
    · refine gBk (pe := 68) hO [o0 (.iload_n 2), o0 (.goto 4)] (by decide +kernel) (show tWG K B 0 0 S I J 68 [some (vR 51), some (vI v1), some (vI v2), some (vI v3), some (vI v4)] [vI v2] from ?_)
      exact gWeak (L' := [none, none, none, none, none]) trivial (hj2 _ (Eq.symm (if_pos c4)))
  · have h := h.2 c1
    refine gBk (pe := 32) hO [o0 (.aload_n 0), o0 (.iload 4)] (by decide +kernel) (show tWG K B 0 0 S I J 32 [some (vR 51), some (vI v1), some (vI v2), some (vI v3), some (vI v4)] [vI v4, vR 51] from ?_)
    refine gCVi_b hO (M5_allSeen t0 h) hc5_allSeen (idx := 167) (w := 1385) (by decide +kernel) hR (by omega) t0 ⟨by decide, rfl⟩ (vs := [vI v4]) (st := []) ⟨rfl, Nat.le_of_ble_eq_true rfl, rfl⟩ (by decide +kernel) (fun x7 I5 J6 z8 h => ?_)
    have h := h z8
    refine gIfNe hO (off := 6) (tgt := 41) (by decide +kernel) (by decide) (fun c9 => ?_) (fun c9 => ?_)
    · have h := h.1 c9
      refine gBk (pe := 43) hO [o0 (.iload_n 2), o0 (.iload_n 1)] (by decide +kernel) (show tWG K B 0 0 S I5 J6 43 [some (vR 51), some (vI v1), some (vI v2), some (vI v3), some (vI v4)] [vI v1, vI v2] from ?_)
      refine gIcNe hO (off := 6) (tgt := 49) (by decide +kernel) (by decide) (fun c10 => ?_) (fun c10 => ?_)
      · have h := h.1 c10
        refine gBk (pe := 52) hO [oI (.iinc 2 1) 1] (by decide +kernel) (show tWG K B 0 0 S I5 J6 52 [some (vR 51), some (vI v1), some (vI (v2 + 1)), some (vI v3), some (vI v4)] [] from ?_)
        exact W5_setsAboard_52 hO hR hG t0 hQ hkb23 h
      · have h := h.2 c10
        refine gBk (pe := 48) hO [o0 (.iload 4)] (by decide +kernel) (show tWG K B 0 0 S I5 J6 48 [some (vR 51), some (vI v1), some (vI v2), some (vI v3), some (vI v4)] [vI v4] from ?_)
        exact gIret hO hQ (by decide +kernel) ⟨rfl, h⟩
    · have h := h.2 c9
      refine gBk (pe := 52) hO [o0 (.goto 14)] (by decide +kernel) (show tWG K B 0 0 S I5 J6 52 [some (vR 51), some (vI v1), some (vI v2), some (vI v3), some (vI v4)] [] from ?_)
      exact W5_setsAboard_52 hO hR hG t0 hQ hkb23 h
theorem W5_setsAboard_L23 {K : tK} {B : tB} {S : tSH} {MC MS : Nat} (hO : tKO K B RX5 cX5_setsAboard 5) (hR : kR K = tRm 8 MC MS) (hG : tGr S) {n : Nat} (t0 : ty S 51 5) {k : Int32 → tHI → tHJ → Prop} (hQ : tRet K B (tQi B (tPi S k)) 0 0 (some .int)) : ∀ (f : Nat) (I : tHI) (J : tHJ) (v1 : Int32) (v2 : Int32) (v3 : Int32) (v4 : Int32), F5_setsAboard_L23 n S k f I J v1 v2 v3 v4 → tWG K B 0 0 S I J 23 [some (vR 51), some (vI v1), some (vI v2), some (vI v3), some (vI v4)] [] := by
  intro f
  induction f with
  | zero => intro I J v1 v2 v3 v4 h; exact h.elim
  | succ f ih => intro I J v1 v2 v3 v4 h; exact W5_setsAboard_23 hO hR hG t0 hQ ih h
set_option maxRecDepth 20000 in
theorem hc5_setsAboard : tCV yX5_setsAboard cX5_setsAboard 5 (some .int) 1 := ⟨⟨(List.mem_of_getElem? (i := 1384) rfl), (List.mem_of_getElem? (i := 41) (by decide +kernel)), by decide +kernel⟩, (List.mem_of_getElem? (i := 1382) (by decide +kernel)), (List.mem_of_getElem? (i := 1383) (by decide +kernel))⟩
set_option maxRecDepth 100000 in
theorem M5_setsAboard {l : Launch} {B : tB} {S : tSH} {I : tHI} {J : tHJ} {v1 : Int32} {n : Nat} {k : Int32 → tHI → tHJ → Prop} (t0 : ty S 51 5) (h : F5_setsAboard n S I J v1 k) : Met l yX5_setsAboard (tWs yX5_setsAboard cX5_setsAboard 5 (some .int)) (tRm 8 0 0) (tPc B [vR 51, vI v1] S I J) (tQi B (tPi S k)) 0 0 (tA B) :=
  tEntry (by decide +kernel) [some (vR 51), some (vI v1), none, none, none] rfl rfl (Nat.le_of_ble_eq_true rfl) (fun K hl hR hO hQ hG => by
  subst hl
  refine gBk (pe := 15) hO [oI (.iconst 0) 0, o0 (.istore_n 2), oI (.iconst 1) 1, o0 (.aload_n 0), oF (.getfield 34) 5 0 172 1, oF (.getfield 110) 8 0 1281 2, oF (.getfield 142) 3 0 1311 0, oI (.bipush 6) 6] (by decide +kernel) (And.intro (Nat.le_of_ble_eq_true rfl) (And.intro t0 (And.intro rfl (And.intro (tGr.abs hG t0 (k := 0) rfl) (And.intro rfl (And.intro (tGr.off hG (tGr.abs hG t0 (k := 0) rfl) (k := 0) rfl) (show tWG K B 0 0 S I J 15 [some (vR 51), some (vI v1), some (vI 0), none, none] [vI 6, vI (I 2 0), vI 1] from ?_)))))))
  refine gMin hO (idx := 53) (w := 1200) (by decide +kernel) hR (by omega) (st := [vI 1]) (Nat.le_of_ble_eq_true rfl) rfl (by decide +kernel) ?_
  refine gBk (pe := 23) hO [o0 .ishl, o0 (.istore_n 3), oI (.iconst 0) 0, o0 (.istore 4)] (by decide +kernel) (And.intro (Nat.le_of_ble_eq_true rfl) (And.intro (Nat.le_of_ble_eq_true rfl) (show tWG K B 0 0 S I J 23 [some (vR 51), some (vI v1), some (vI 0), some (vI (1 <<< ((if 6 < (I 2 0) then 6 else (I 2 0)) &&& 31))), some (vI 0)] [] from ?_)))
  exact W5_setsAboard_L23 hO hR hG t0 hQ n _ _ _ _ _ _ h)
set_option maxRecDepth 20000 in
theorem hc11_act : tCV yX11_act cX11_act 8 (some .int) 3 := ⟨⟨(List.mem_of_getElem? (i := 941) rfl), (List.mem_of_getElem? (i := 2) (by decide +kernel)), by decide +kernel⟩, (List.mem_of_getElem? (i := 939) (by decide +kernel)), (List.mem_of_getElem? (i := 940) (by decide +kernel))⟩
set_option maxRecDepth 100000 in
theorem M11_act {l : Launch} {B : tB} {S : tSH} {I : tHI} {J : tHJ} {v1 : Int32} {v2 : Int32} {v3 : Int32} {n : Nat} {k : Int32 → tHI → tHJ → Prop} (t0 : ty S 0 11) (h : F11_act n S I J v1 v2 v3 k) : Met l yX11_act (tWs yX11_act cX11_act 8 (some .int)) (tRm 7 0 0) (tPc B [vR 0, vI v1, vI v2, vI v3] S I J) (tQi B (tPi S k)) 0 0 (tA B) :=
  tEntry (by decide +kernel) [some (vR 0), some (vI v1), some (vI v2), some (vI v3), none, none, none, none] rfl rfl (Nat.le_of_ble_eq_true rfl) (fun K hl hR hO hQ hG => by
  subst hl
  refine gBk (pe := 4) hO [o0 (.aload_n 0), o0 (.iload_n 1), o0 (.iload_n 2), o0 (.iload_n 3)] (by decide +kernel) (show tWG K B 0 0 S I J 4 [some (vR 0), some (vI v1), some (vI v2), some (vI v3), none, none, none, none] [vI v3, vI v2, vI v1, vR 0] from ?_)
  refine gCVi_c hO (M11_whyNot t0 h) hc11_whyNot (idx := 285) (w := 943) (by decide +kernel) hR (by omega) t0 ⟨by decide, rfl⟩ (vs := [vI v1, vI v2, vI v3]) (st := []) ⟨rfl, Nat.le_of_ble_eq_true rfl, rfl⟩ (by decide +kernel) (fun x3 I1 J2 h => ?_)
  refine gBk (pe := 11) hO [o0 (.istore 4), o0 (.iload 4)] (by decide +kernel) (And.intro (Nat.le_of_ble_eq_true rfl) (show tWG K B 0 0 S I1 J2 11 [some (vR 0), some (vI v1), some (vI v2), some (vI v3), some (vI x3), none, none, none] [vI x3] from ?_))
  refine gIfEq hO (off := 6) (tgt := 17) (by decide +kernel) (by decide) (fun c4 => ?_) (fun c4 => ?_)
  · have h := h.1 c4
    refine gBk (pe := 27) hO [o0 (.aload_n 0), oF (.getfield 26) 11 3 21 34, o0 (.aload_n 0), oF (.getfield 12) 11 0 15 1, o0 (.iload_n 1), o0 (.iload_n 2)] (by decide +kernel) (And.intro t0 (And.intro rfl (And.intro t0 (And.intro rfl (show tWG K B 0 0 S I1 J2 27 [some (vR 0), some (vI v1), some (vI v2), some (vI v3), some (vI x3), none, none, none] [vI v2, vI v1, vR 1, vR 34] from ?_)))))
    refine gCVv_c hO (M1_note (tGr.off hG t0 (k := 3) rfl) (tGr.off hG t0 (k := 0) rfl) h) hc1_note (idx := 288) (w := 952) (by decide +kernel) hR (by omega) (tGr.off hG t0 (k := 3) rfl) ⟨by decide, rfl⟩ (vs := [vR 1, vI v1, vI v2]) (st := []) ⟨rfl, Nat.le_of_ble_eq_true rfl, rfl⟩ (by decide +kernel) (fun I5 J6 h => ?_)
    refine gBk (pe := 40) hO [o0 (.aload_n 0), oF (.getfield 12) 11 0 15 1, oF (.getfield 169) 8 2 425 15, o0 (.astore 5), o0 (.iload_n 1)] (by decide +kernel) (And.intro t0 (And.intro rfl (And.intro (tGr.off hG t0 (k := 0) rfl) (And.intro rfl (And.intro (Nat.le_of_ble_eq_true rfl) (show tWG K B 0 0 S I5 J6 40 [some (vR 0), some (vI v1), some (vI v2), some (vI v3), some (vI x3), some (vR 15), none, none] [vI v1] from ?_))))))
    by_cases c7 : v1 = 0
    · have h := h.1 c7
      refine gSwIn hO (dflt := 159) (lo := 0) (hi := 4) (offs := #[36, 59, 81, 97, 127]) (len := 36) (off := 36) (tgt := 76) 0 c7 (by decide +kernel) (by decide +kernel) ?_
      refine gBk (pe := 87) hO [o0 (.aload 5), oI (.bipush 60) 60, o0 (.aload 5), oF (.getfield 270) 10 3 933 0, o0 (.iload_n 2), o0 .iadd] (by decide +kernel) (And.intro (tGr.off hG (tGr.off hG t0 (k := 0) rfl) (k := 2) rfl) (show tWG K B 0 0 S I5 J6 87 [some (vR 0), some (vI v1), some (vI v2), some (vI v3), some (vI x3), some (vR 15), none, none] [vI ((I5 15 3) + v2), vI 60, vR 15] from ?_))
      refine gMin hO (idx := 292) (w := 252) (by decide +kernel) hR (by omega) (st := [vR 15]) (Nat.le_of_ble_eq_true rfl) rfl (by decide +kernel) ?_
      refine gBk (pe := 98) hO [oF (.putfield 270) 10 3 933 0, o0 (.aload 5), oF (.getfield 270) 10 3 933 0] (by decide +kernel) (And.intro (tGr.off hG (tGr.off hG t0 (k := 0) rfl) (k := 2) rfl) (And.intro (tGr.off hG (tGr.off hG t0 (k := 0) rfl) (k := 2) rfl) (show tWG K B 0 0 S (uI I5 15 3 (if ((I5 15 3) + v2) < 60 then ((I5 15 3) + v2) else 60)) J6 98 [some (vR 0), some (vI v1), some (vI v2), some (vI v3), some (vI x3), some (vR 15), none, none] [vI ((uI I5 15 3 (if ((I5 15 3) + v2) < 60 then ((I5 15 3) + v2) else 60)) 15 3)] from ?_)))
      exact gIret hO hQ (by decide +kernel) ⟨rfl, h⟩
    have h := h.2
    by_cases c8 : v1 = 1
    · have h := h.1 c8
      refine gSwIn hO (dflt := 159) (lo := 0) (hi := 4) (offs := #[36, 59, 81, 97, 127]) (len := 36) (off := 59) (tgt := 99) 1 c8 (by decide +kernel) (by decide +kernel) ?_
      refine gBk (pe := 109) hO [o0 (.aload 5), oI (.iconst 0) 0, o0 (.aload 5), oF (.getfield 270) 10 3 933 0, o0 (.iload_n 2), o0 .isub] (by decide +kernel) (And.intro (tGr.off hG (tGr.off hG t0 (k := 0) rfl) (k := 2) rfl) (show tWG K B 0 0 S I5 J6 109 [some (vR 0), some (vI v1), some (vI v2), some (vI v3), some (vI x3), some (vR 15), none, none] [vI ((I5 15 3) - v2), vI 0, vR 15] from ?_))
      refine gMax hO (idx := 297) (w := 942) (by decide +kernel) hR (by omega) (st := [vR 15]) (Nat.le_of_ble_eq_true rfl) rfl (by decide +kernel) ?_
      refine gBk (pe := 120) hO [oF (.putfield 270) 10 3 933 0, o0 (.aload 5), oF (.getfield 270) 10 3 933 0] (by decide +kernel) (And.intro (tGr.off hG (tGr.off hG t0 (k := 0) rfl) (k := 2) rfl) (And.intro (tGr.off hG (tGr.off hG t0 (k := 0) rfl) (k := 2) rfl) (show tWG K B 0 0 S (uI I5 15 3 (if 0 < ((I5 15 3) - v2) then ((I5 15 3) - v2) else 0)) J6 120 [some (vR 0), some (vI v1), some (vI v2), some (vI v3), some (vI x3), some (vR 15), none, none] [vI ((uI I5 15 3 (if 0 < ((I5 15 3) - v2) then ((I5 15 3) - v2) else 0)) 15 3)] from ?_)))
      exact gIret hO hQ (by decide +kernel) ⟨rfl, h⟩
    have h := h.2
    by_cases c9 : v1 = 2
    · have h := h.1 c9
      refine gSwIn hO (dflt := 159) (lo := 0) (hi := 4) (offs := #[36, 59, 81, 97, 127]) (len := 36) (off := 81) (tgt := 121) 2 c9 (by decide +kernel) (by decide +kernel) ?_
      refine gBk (pe := 136) hO [o0 (.aload 5), oF (.getfield 273) 10 1 934 0, o0 (.istore 6), o0 (.aload 5), o0 (.iload_n 2), oF (.putfield 273) 10 1 934 0, o0 (.iload 6)] (by decide +kernel) (And.intro (tGr.off hG (tGr.off hG t0 (k := 0) rfl) (k := 2) rfl) (And.intro (Nat.le_of_ble_eq_true rfl) (And.intro (tGr.off hG (tGr.off hG t0 (k := 0) rfl) (k := 2) rfl) (show tWG K B 0 0 S (uI I5 15 1 v2) J6 136 [some (vR 0), some (vI v1), some (vI v2), some (vI v3), some (vI x3), some (vR 15), some (vI (I5 15 1)), none] [vI (I5 15 1)] from ?_))))
      exact gIret hO hQ (by decide +kernel) ⟨rfl, h⟩
    have h := h.2
    by_cases c10 : v1 = 3
    · have h := h.1 c10
      refine gSwIn hO (dflt := 159) (lo := 0) (hi := 4) (offs := #[36, 59, 81, 97, 127]) (len := 36) (off := 97) (tgt := 137) 3 c10 (by decide +kernel) (by decide +kernel) ?_
      refine gBk (pe := 166) hO [o0 (.aload_n 0), oF (.getfield 12) 11 0 15 1, oF (.getfield 120) 8 0 242 2, oF (.getfield 143) 3 2 378 4, o0 (.iload_n 2), o0 .iaload, o0 (.istore 6), o0 (.aload_n 0), oF (.getfield 12) 11 0 15 1, oF (.getfield 120) 8 0 242 2, oF (.getfield 143) 3 2 378 4, o0 (.iload_n 2), o0 (.iload_n 3), o0 .iastore, o0 (.iload 6)] (by decide +kernel) (And.intro t0 (And.intro rfl (And.intro (tGr.off hG t0 (k := 0) rfl) (And.intro rfl (And.intro (tGr.off hG (tGr.off hG t0 (k := 0) rfl) (k := 0) rfl) (And.intro rfl (And.intro (tGr.off hG (tGr.off hG (tGr.off hG t0 (k := 0) rfl) (k := 0) rfl) (k := 2) rfl) (And.intro (tin (tGr.len hG (tGr.off hG (tGr.off hG t0 (k := 0) rfl) (k := 0) rfl) (k := 2) rfl (by decide)) h.1) (And.intro (Nat.le_of_ble_eq_true rfl) (And.intro t0 (And.intro rfl (And.intro (tGr.off hG t0 (k := 0) rfl) (And.intro rfl (And.intro (tGr.off hG (tGr.off hG t0 (k := 0) rfl) (k := 0) rfl) (And.intro rfl (And.intro (tGr.off hG (tGr.off hG (tGr.off hG t0 (k := 0) rfl) (k := 0) rfl) (k := 2) rfl) (And.intro (tin (tGr.len hG (tGr.off hG (tGr.off hG t0 (k := 0) rfl) (k := 0) rfl) (k := 2) rfl (by decide)) h.2.1) (show tWG K B 0 0 S (uI I5 4 v2.toNatClampNeg v3) J6 166 [some (vR 0), some (vI v1), some (vI v2), some (vI v3), some (vI x3), some (vR 15), some (vI (I5 4 v2.toNatClampNeg)), none] [vI (I5 4 v2.toNatClampNeg)] from ?_))))))))))))))))))
      have h := h.2.2
      exact gIret hO hQ (by decide +kernel) ⟨rfl, h⟩
    have h := h.2
    by_cases c11 : v1 = 4
    · have h := h.1 c11
      refine gSwIn hO (dflt := 159) (lo := 0) (hi := 4) (offs := #[36, 59, 81, 97, 127]) (len := 36) (off := 127) (tgt := 167) 4 c11 (by decide +kernel) (by decide +kernel) ?_
      refine gBk (pe := 198) hO [o0 (.aload_n 0), oF (.getfield 12) 11 0 15 1, oF (.getfield 120) 8 0 242 2, oF (.getfield 149) 3 4 380 6, o0 (.iload_n 2), o0 .iaload, o0 (.istore 6), o0 (.aload_n 0), oF (.getfield 12) 11 0 15 1, oF (.getfield 120) 8 0 242 2, oF (.getfield 149) 3 4 380 6, o0 (.iload_n 2), o0 (.iload_n 3), o0 .iastore, o0 (.iload 6), oI (.iconst 2) 2, o0 .iadd] (by decide +kernel) (And.intro t0 (And.intro rfl (And.intro (tGr.off hG t0 (k := 0) rfl) (And.intro rfl (And.intro (tGr.off hG (tGr.off hG t0 (k := 0) rfl) (k := 0) rfl) (And.intro rfl (And.intro (tGr.off hG (tGr.off hG (tGr.off hG t0 (k := 0) rfl) (k := 0) rfl) (k := 4) rfl) (And.intro (tin (tGr.len hG (tGr.off hG (tGr.off hG t0 (k := 0) rfl) (k := 0) rfl) (k := 4) rfl (by decide)) h.1) (And.intro (Nat.le_of_ble_eq_true rfl) (And.intro t0 (And.intro rfl (And.intro (tGr.off hG t0 (k := 0) rfl) (And.intro rfl (And.intro (tGr.off hG (tGr.off hG t0 (k := 0) rfl) (k := 0) rfl) (And.intro rfl (And.intro (tGr.off hG (tGr.off hG (tGr.off hG t0 (k := 0) rfl) (k := 0) rfl) (k := 4) rfl) (And.intro (tin (tGr.len hG (tGr.off hG (tGr.off hG t0 (k := 0) rfl) (k := 0) rfl) (k := 4) rfl (by decide)) h.2.1) (show tWG K B 0 0 S (uI I5 6 v2.toNatClampNeg v3) J6 198 [some (vR 0), some (vI v1), some (vI v2), some (vI v3), some (vI x3), some (vR 15), some (vI (I5 6 v2.toNatClampNeg)), none] [vI ((I5 6 v2.toNatClampNeg) + 2)] from ?_))))))))))))))))))
      have h := h.2.2
      exact gIret hO hQ (by decide +kernel) ⟨rfl, h⟩
    have h := h.2
    have hsw : swN 0 v1 5 := ⟨⟨⟨⟨⟨True.intro, c7⟩, c8⟩, c9⟩, c10⟩, c11⟩
    have h := h hsw
    refine gSwOut hO (dflt := 159) (lo := 0) (hi := 4) (offs := #[36, 59, 81, 97, 127]) (len := 36) (tgt := 199) (by decide +kernel) (sw_out (by decide) (by decide) hsw) (by decide) ?_
    refine gBk (pe := 203) hO [o0 (.aload_n 0), oF (.getfield 59) 11 8 38 48] (by decide +kernel) (And.intro t0 (And.intro rfl (show tWG K B 0 0 S I5 J6 203 [some (vR 0), some (vI v1), some (vI v2), some (vI v3), some (vI x3), some (vR 15), none, none] [vR 48] from ?_)))
    refine gCVv_c hO (M2_asItStands (tGr.off hG t0 (k := 8) rfl) h) hc2_asItStands (idx := 114) (w := 255) (by decide +kernel) hR (by omega) (tGr.off hG t0 (k := 8) rfl) ⟨by decide, rfl⟩ (vs := []) (st := []) ⟨rfl, Nat.le_of_ble_eq_true rfl, rfl⟩ (by decide +kernel) (fun I12 J13 h => ?_)
    refine gBk (pe := 220) hO [o0 (.aload_n 0), oF (.getfield 59) 11 8 38 48, o0 (.aload 5), oF (.getfield 172) 10 2 426 0, o0 (.aload 5), oF (.getfield 270) 10 3 933 0] (by decide +kernel) (And.intro t0 (And.intro rfl (And.intro (tGr.off hG (tGr.off hG t0 (k := 0) rfl) (k := 2) rfl) (And.intro (tGr.off hG (tGr.off hG t0 (k := 0) rfl) (k := 2) rfl) (show tWG K B 0 0 S I12 J13 220 [some (vR 0), some (vI v1), some (vI v2), some (vI v3), some (vI x3), some (vR 15), none, none] [vI (I12 15 3), vI (I12 15 2), vR 48] from ?_)))))
    refine gCVi_c hO (M2_outcome (tGr.off hG t0 (k := 8) rfl) h) hc2_outcome (idx := 300) (w := 966) (by decide +kernel) hR (by omega) (tGr.off hG t0 (k := 8) rfl) ⟨by decide, rfl⟩ (vs := [vI (I12 15 2), vI (I12 15 3)]) (st := []) ⟨rfl, Nat.le_of_ble_eq_true rfl, rfl⟩ (by decide +kernel) (fun x16 I14 J15 h => ?_)
    refine gBk (pe := 233) hO [o0 (.istore 7), o0 (.aload_n 0), oF (.getfield 59) 11 8 38 48, o0 (.aload 5), o0 (.iload 7)] (by decide +kernel) (And.intro (Nat.le_of_ble_eq_true rfl) (And.intro t0 (And.intro rfl (show tWG K B 0 0 S I14 J15 233 [some (vR 0), some (vI v1), some (vI v2), some (vI v3), some (vI x3), some (vR 15), none, some (vI x16)] [vI x16, vR 15, vR 48] from ?_))))
    refine gCVv_c hO (M2_drive (tGr.off hG t0 (k := 8) rfl) (tGr.off hG (tGr.off hG t0 (k := 0) rfl) (k := 2) rfl) h) hc2_drive (idx := 303) (w := 971) (by decide +kernel) hR (by omega) (tGr.off hG t0 (k := 8) rfl) ⟨by decide, rfl⟩ (vs := [vR 15, vI x16]) (st := []) ⟨rfl, Nat.le_of_ble_eq_true rfl, rfl⟩ (by decide +kernel) (fun I17 J18 h => ?_)
    refine gBk (pe := 238) hO [o0 (.iload 7)] (by decide +kernel) (show tWG K B 0 0 S I17 J18 238 [some (vR 0), some (vI v1), some (vI v2), some (vI v3), some (vI x3), some (vR 15), none, some (vI x16)] [vI x16] from ?_)
    exact gIret hO hQ (by decide +kernel) ⟨rfl, h⟩
  · have h := h.2 c4
    refine gBk (pe := 16) hO [o0 (.iload 4)] (by decide +kernel) (show tWG K B 0 0 S I1 J2 16 [some (vR 0), some (vI v1), some (vI v2), some (vI v3), some (vI x3), none, none, none] [vI x3] from ?_)
    exact gIret hO hQ (by decide +kernel) ⟨rfl, h⟩)
