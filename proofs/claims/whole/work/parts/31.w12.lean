set_option maxRecDepth 100000 in
theorem W11_leaning_32 {K : tK} {B : tB} {S : tSH} {MC MS : Nat} (hO : tKO K B RX11 cX11_leaning 3) (hR : kR K = tRm 9 MC MS) (hG : tGr S) {n : Nat} (t0 : ty S 0 11) {k : Int32 → tHI → tHJ → Prop} (hQ : tRet K B (tQi B (tPi S k)) 0 0 (some .int)) {I : tHI} {J : tHJ} (h : F11_leaning_32 n S k I J) : tWG K B 0 0 S I J 32 [none, none, none] [] := by
  refine gBk (pe := 33) hO [oI (.iconst (-1)) (-1)] (by decide +kernel) (show tWG K B 0 0 S I J 33 [none, none, none] [vI (-1)] from ?_)
  exact gIret hO hQ (by decide +kernel) ⟨rfl, h⟩
set_option maxRecDepth 20000 in
theorem hc11_leaning : tCV yX11_leaning cX11_leaning 3 (some .int) 2 := ⟨⟨(List.mem_of_getElem? (i := 1276) rfl), (List.mem_of_getElem? (i := 2) (by decide +kernel)), by decide +kernel⟩, (List.mem_of_getElem? (i := 1274) (by decide +kernel)), (List.mem_of_getElem? (i := 1275) (by decide +kernel))⟩
set_option maxRecDepth 100000 in
theorem M11_leaning {l : Launch} {B : tB} {S : tSH} {I : tHI} {J : tHJ} {v1 : Int32} {v2 : Int32} {n : Nat} {k : Int32 → tHI → tHJ → Prop} (t0 : ty S 0 11) (h : F11_leaning n S I J v1 v2 k) : Met l yX11_leaning (tWs yX11_leaning cX11_leaning 3 (some .int)) (tRm 9 0 0) (tPc B [vR 0, vI v1, vI v2] S I J) (tQi B (tPi S k)) 0 0 (tA B) :=
  tEntry (by decide +kernel) [some (vR 0), some (vI v1), some (vI v2)] rfl rfl (Nat.le_of_ble_eq_true rfl) (fun K hl hR hO hQ hG => by
  subst hl
  refine gBk (pe := 8) hO [o0 (.aload_n 0), oF (.getfield 12) 11 0 15 1, oF (.getfield 158) 8 1 398 7, o0 (.iload_n 1)] (by decide +kernel) (And.intro t0 (And.intro rfl (And.intro (tGr.off hG t0 (k := 0) rfl) (And.intro rfl (show tWG K B 0 0 S I J 8 [some (vR 0), some (vI v1), some (vI v2)] [vI v1, vR 7] from ?_)))))
  refine gCVi_z hO (M7_has (tGr.off hG (tGr.off hG t0 (k := 0) rfl) (k := 1) rfl)) hc7_has (idx := 175) (w := 439) (by decide +kernel) hR (by omega) (tGr.off hG (tGr.off hG t0 (k := 0) rfl) (k := 1) rfl) ⟨by decide, rfl⟩ (vs := [vI v1]) (st := []) ⟨rfl, Nat.le_of_ble_eq_true rfl, rfl⟩ (by decide +kernel) (fun z1 => ?_)
  refine gIfEq hO (off := 21) (tgt := 32) (by decide +kernel) (by decide) (fun c2 => ?_) (fun c2 => ?_)
  · have h := h.1 c2
    exact gWeak (L' := [none, none, none]) trivial (W11_leaning_32 hO hR hG t0 hQ h)
  · have h := h.2 c2
    refine gBk (pe := 26) hO [o0 (.iload_n 2), oI (.iconst 0) 0, o0 (.aload_n 0), oF (.getfield 12) 11 0 15 1, oF (.getfield 120) 8 0 242 2, oF (.getfield 124) 3 0 243 0] (by decide +kernel) (And.intro t0 (And.intro rfl (And.intro (tGr.off hG t0 (k := 0) rfl) (And.intro rfl (And.intro (tGr.off hG (tGr.off hG t0 (k := 0) rfl) (k := 0) rfl) (show tWG K B 0 0 S I J 26 [some (vR 0), some (vI v1), some (vI v2)] [vI (I 2 0), vI 0, vI v2] from ?_))))))
    refine gCSi_z hO (M11_within) hc11_within (idx := 106) (w := 245) (by decide +kernel) hR (by omega) (vs := [vI v2, vI 0, vI (I 2 0)]) (st := []) ⟨rfl, Nat.le_of_ble_eq_true rfl, rfl⟩ (by decide +kernel) (fun z3 => ?_)
    refine gIfNe hO (off := 5) (tgt := 34) (by decide +kernel) (by decide) (fun c4 => ?_) (fun c4 => ?_)
    · have h := h.1 c4
      refine gBk (pe := 38) hO [o0 (.aload_n 0), oF (.getfield 59) 11 8 38 48] (by decide +kernel) (And.intro t0 (And.intro rfl (show tWG K B 0 0 S I J 38 [some (vR 0), some (vI v1), some (vI v2)] [vR 48] from ?_)))
      refine gCVv_c hO (M2_asItStands (tGr.off hG t0 (k := 8) rfl) h) hc2_asItStands (idx := 114) (w := 255) (by decide +kernel) hR (by omega) (tGr.off hG t0 (k := 8) rfl) ⟨by decide, rfl⟩ (vs := []) (st := []) ⟨rfl, Nat.le_of_ble_eq_true rfl, rfl⟩ (by decide +kernel) (fun I5 J6 h => ?_)
      refine gBk (pe := 47) hO [o0 (.aload_n 0), oF (.getfield 68) 11 9 42 51, o0 (.iload_n 1), o0 (.iload_n 2)] (by decide +kernel) (And.intro t0 (And.intro rfl (show tWG K B 0 0 S I5 J6 47 [some (vR 0), some (vI v1), some (vI v2)] [vI v2, vI v1, vR 51] from ?_)))
      refine gCVi_c hO (M5_bestLeans (tGr.off hG t0 (k := 9) rfl) h) hc5_bestLeans (idx := 332) (w := 1277) (by decide +kernel) hR (by omega) (tGr.off hG t0 (k := 9) rfl) ⟨by decide, rfl⟩ (vs := [vI v1, vI v2]) (st := []) ⟨rfl, Nat.le_of_ble_eq_true rfl, rfl⟩ (by decide +kernel) (fun x9 I7 J8 h => ?_)
      exact gIret hO hQ (by decide +kernel) ⟨rfl, h⟩
    · have h := h.2 c4
      exact gWeak (L' := [none, none, none]) trivial (W11_leaning_32 hO hR hG t0 hQ h))
set_option maxRecDepth 100000 in
theorem W11_putting_21 {K : tK} {B : tB} {S : tSH} {MC MS : Nat} (hO : tKO K B RX11 cX11_putting 2) (hR : kR K = tRm 9 MC MS) (hG : tGr S) {n : Nat} (t0 : ty S 0 11) {k : Int32 → tHI → tHJ → Prop} (hQ : tRet K B (tQi B (tPi S k)) 0 0 (some .int)) {I : tHI} {J : tHJ} {v1 : Int32} (h : F11_putting_21 n S k I J v1) : tWG K B 0 0 S I J 21 [some (vR 0), some (vI v1)] [] := by
  refine gBk (pe := 25) hO [o0 (.aload_n 0), oF (.getfield 59) 11 8 38 48] (by decide +kernel) (And.intro t0 (And.intro rfl (show tWG K B 0 0 S I J 25 [some (vR 0), some (vI v1)] [vR 48] from ?_)))
  refine gCVv_c hO (M2_asItStands (tGr.off hG t0 (k := 8) rfl) h) hc2_asItStands (idx := 114) (w := 255) (by decide +kernel) hR (by omega) (tGr.off hG t0 (k := 8) rfl) ⟨by decide, rfl⟩ (vs := []) (st := []) ⟨rfl, Nat.le_of_ble_eq_true rfl, rfl⟩ (by decide +kernel) (fun I2 J3 h => ?_)
  refine gBk (pe := 33) hO [o0 (.aload_n 0), oF (.getfield 68) 11 9 42 51, o0 (.iload_n 1)] (by decide +kernel) (And.intro t0 (And.intro rfl (show tWG K B 0 0 S I2 J3 33 [some (vR 0), some (vI v1)] [vI v1, vR 51] from ?_)))
  refine gCVi_c hO (M5_bestSpots (tGr.off hG t0 (k := 9) rfl) h) hc5_bestSpots (idx := 335) (w := 1307) (by decide +kernel) hR (by omega) (tGr.off hG t0 (k := 9) rfl) ⟨by decide, rfl⟩ (vs := [vI v1]) (st := []) ⟨rfl, Nat.le_of_ble_eq_true rfl, rfl⟩ (by decide +kernel) (fun x6 I4 J5 h => ?_)
  exact gIret hO hQ (by decide +kernel) ⟨rfl, h⟩
set_option maxRecDepth 20000 in
theorem hc11_putting : tCV yX11_putting cX11_putting 2 (some .int) 1 := ⟨⟨(List.mem_of_getElem? (i := 1306) rfl), (List.mem_of_getElem? (i := 2) (by decide +kernel)), by decide +kernel⟩, (List.mem_of_getElem? (i := 1304) (by decide +kernel)), (List.mem_of_getElem? (i := 1305) (by decide +kernel))⟩
set_option maxRecDepth 100000 in
theorem M11_putting {l : Launch} {B : tB} {S : tSH} {I : tHI} {J : tHJ} {v1 : Int32} {n : Nat} {k : Int32 → tHI → tHJ → Prop} (t0 : ty S 0 11) (h : F11_putting n S I J v1 k) : Met l yX11_putting (tWs yX11_putting cX11_putting 2 (some .int)) (tRm 9 0 0) (tPc B [vR 0, vI v1] S I J) (tQi B (tPi S k)) 0 0 (tA B) :=
  tEntry (by decide +kernel) [some (vR 0), some (vI v1)] rfl rfl (Nat.le_of_ble_eq_true rfl) (fun K hl hR hO hQ hG => by
  subst hl
  refine gBk (pe := 2) hO [o0 (.iload_n 1), oI (.iconst (-1)) (-1)] (by decide +kernel) (show tWG K B 0 0 S I J 2 [some (vR 0), some (vI v1)] [vI (-1), vI v1] from ?_)
  refine gIcEq hO (off := 19) (tgt := 21) (by decide +kernel) (by decide) (fun c1 => ?_) (fun c1 => ?_)
  · have h := h.1 c1
    exact W11_putting_21 hO hR hG t0 hQ h
  · have h := h.2 c1
    refine gBk (pe := 13) hO [o0 (.aload_n 0), oF (.getfield 12) 11 0 15 1, oF (.getfield 120) 8 0 242 2, o0 (.iload_n 1)] (by decide +kernel) (And.intro t0 (And.intro rfl (And.intro (tGr.off hG t0 (k := 0) rfl) (And.intro rfl (show tWG K B 0 0 S I J 13 [some (vR 0), some (vI v1)] [vI v1, vR 2] from ?_)))))
    refine gCVi_z hO (M3_has (tGr.off hG (tGr.off hG t0 (k := 0) rfl) (k := 0) rfl)) hc3_has (idx := 136) (w := 381) (by decide +kernel) hR (by omega) (tGr.off hG (tGr.off hG t0 (k := 0) rfl) (k := 0) rfl) ⟨by decide, rfl⟩ (vs := [vI v1]) (st := []) ⟨rfl, Nat.le_of_ble_eq_true rfl, rfl⟩ (by decide +kernel) (fun z7 => ?_)
    refine gIfNe hO (off := 5) (tgt := 21) (by decide +kernel) (by decide) (fun c8 => ?_) (fun c8 => ?_)
    · have h := h.1 c8
      exact W11_putting_21 hO hR hG t0 hQ h
    · have h := h.2 c8
      refine gBk (pe := 20) hO [oI (.iconst (-1)) (-1)] (by decide +kernel) (show tWG K B 0 0 S I J 20 [some (vR 0), some (vI v1)] [vI (-1)] from ?_)
      exact gIret hO hQ (by decide +kernel) ⟨rfl, h⟩)
set_option maxRecDepth 20000 in
theorem hc11_aboard : tCV yX11_aboard cX11_aboard 2 (some .int) 1 := ⟨⟨(List.mem_of_getElem? (i := 1380) rfl), (List.mem_of_getElem? (i := 2) (by decide +kernel)), by decide +kernel⟩, (List.mem_of_getElem? (i := 1378) (by decide +kernel)), (List.mem_of_getElem? (i := 1379) (by decide +kernel))⟩
set_option maxRecDepth 100000 in
theorem M11_aboard {l : Launch} {B : tB} {S : tSH} {I : tHI} {J : tHJ} {v1 : Int32} {n : Nat} {k : Int32 → tHI → tHJ → Prop} (t0 : ty S 0 11) (h : F11_aboard n S I J v1 k) : Met l yX11_aboard (tWs yX11_aboard cX11_aboard 2 (some .int)) (tRm 9 0 0) (tPc B [vR 0, vI v1] S I J) (tQi B (tPi S k)) 0 0 (tA B) :=
  tEntry (by decide +kernel) [some (vR 0), some (vI v1)] rfl rfl (Nat.le_of_ble_eq_true rfl) (fun K hl hR hO hQ hG => by
  subst hl
  refine gBk (pe := 2) hO [o0 (.iload_n 1), oI (.iconst (-1)) (-1)] (by decide +kernel) (show tWG K B 0 0 S I J 2 [some (vR 0), some (vI v1)] [vI (-1), vI v1] from ?_)
  refine gIcGe hO (off := 5) (tgt := 7) (by decide +kernel) (by decide) (fun c1 => ?_) (fun c1 => ?_)
  · have h := h.1 c1
    refine gBk (pe := 11) hO [o0 (.aload_n 0), oF (.getfield 59) 11 8 38 48] (by decide +kernel) (And.intro t0 (And.intro rfl (show tWG K B 0 0 S I J 11 [some (vR 0), some (vI v1)] [vR 48] from ?_)))
    refine gCVv_c hO (M2_asItStands (tGr.off hG t0 (k := 8) rfl) h) hc2_asItStands (idx := 114) (w := 255) (by decide +kernel) hR (by omega) (tGr.off hG t0 (k := 8) rfl) ⟨by decide, rfl⟩ (vs := []) (st := []) ⟨rfl, Nat.le_of_ble_eq_true rfl, rfl⟩ (by decide +kernel) (fun I2 J3 h => ?_)
    refine gBk (pe := 19) hO [o0 (.aload_n 0), oF (.getfield 68) 11 9 42 51, o0 (.iload_n 1)] (by decide +kernel) (And.intro t0 (And.intro rfl (show tWG K B 0 0 S I2 J3 19 [some (vR 0), some (vI v1)] [vI v1, vR 51] from ?_)))
    refine gCVi_c hO (M5_setsAboard (tGr.off hG t0 (k := 9) rfl) h) hc5_setsAboard (idx := 348) (w := 1381) (by decide +kernel) hR (by omega) (tGr.off hG t0 (k := 9) rfl) ⟨by decide, rfl⟩ (vs := [vI v1]) (st := []) ⟨rfl, Nat.le_of_ble_eq_true rfl, rfl⟩ (by decide +kernel) (fun x6 I4 J5 h => ?_)
    exact gIret hO hQ (by decide +kernel) ⟨rfl, h⟩
  · have h := h.2 c1
    refine gBk (pe := 6) hO [oI (.iconst (-1)) (-1)] (by decide +kernel) (show tWG K B 0 0 S I J 6 [some (vR 0), some (vI v1)] [vI (-1)] from ?_)
    exact gIret hO hQ (by decide +kernel) ⟨rfl, h⟩)
set_option maxRecDepth 100000 in
theorem W11_runClause_141 {K : tK} {B : tB} {S : tSH} {MC MS : Nat} (hO : tKO K B RX11 cX11_runClause 11) (hR : kR K = tRm 8 MC MS) (hG : tGr S) {n : Nat} (t0 : ty S 0 11) {k : Int32 → tHI → tHJ → Prop} (hQ : tRet K B (tQi B (tPb S k)) 0 0 (some .boolean)) {kb16 : tHI → tHJ → Nat → Int32 → Int32 → Int32 → Int32 → Prop} (hkb16 : ∀ (I : tHI) (J : tHJ) (a1 : Nat) (v2 : Int32) (v3 : Int32) (v4 : Int32) (v5 : Int32), ty S a1 6 → kb16 I J a1 v2 v3 v4 v5 → tWG K B 0 0 S I J 16 [some (vR 0), some (vR a1), some (vI v2), some (vI v3), some (vI v4), some (vI v5), none, none, none, none, none] []) {I : tHI} {J : tHJ} {a1 : Nat} {v2 : Int32} {v3 : Int32} {v4 : Int32} {v5 : Int32} (t1 : ty S a1 6) (h : F11_runClause_141 n S k kb16 I J a1 v2 v3 v4 v5) : tWG K B 0 0 S I J 141 [some (vR 0), some (vR a1), some (vI v2), some (vI v3), some (vI v4), some (vI v5), none, none, none, none, none] [] := by
  refine gBk (pe := 16) hO [oI (.iinc 5 1) 1, o0 (.goto (-128))] (by decide +kernel) (show tWG K B 0 0 S I J 16 [some (vR 0), some (vR a1), some (vI v2), some (vI v3), some (vI v4), some (vI (v5 + 1)), none, none, none, none, none] [] from ?_)
  exact hkb16 _ _ _ _ _ _ _ t1 h
set_option maxRecDepth 100000 in
theorem W11_runClause_16 {K : tK} {B : tB} {S : tSH} {MC MS : Nat} (hO : tKO K B RX11 cX11_runClause 11) (hR : kR K = tRm 8 MC MS) (hG : tGr S) {n : Nat} (t0 : ty S 0 11) {k : Int32 → tHI → tHJ → Prop} (hQ : tRet K B (tQi B (tPb S k)) 0 0 (some .boolean)) {kb16 : tHI → tHJ → Nat → Int32 → Int32 → Int32 → Int32 → Prop} (hkb16 : ∀ (I : tHI) (J : tHJ) (a1 : Nat) (v2 : Int32) (v3 : Int32) (v4 : Int32) (v5 : Int32), ty S a1 6 → kb16 I J a1 v2 v3 v4 v5 → tWG K B 0 0 S I J 16 [some (vR 0), some (vR a1), some (vI v2), some (vI v3), some (vI v4), some (vI v5), none, none, none, none, none] []) {I : tHI} {J : tHJ} {a1 : Nat} {v2 : Int32} {v3 : Int32} {v4 : Int32} {v5 : Int32} (t1 : ty S a1 6) (h : F11_runClause_16 n S k kb16 I J a1 v2 v3 v4 v5) : tWG K B 0 0 S I J 16 [some (vR 0), some (vR a1), some (vI v2), some (vI v3), some (vI v4), some (vI v5), none, none, none, none, none] [] := by
  refine gBk (pe := 20) hO [o0 (.iload 5), o0 (.iload 4)] (by decide +kernel) (show tWG K B 0 0 S I J 20 [some (vR 0), some (vR a1), some (vI v2), some (vI v3), some (vI v4), some (vI v5), none, none, none, none, none] [vI v4, vI v5] from ?_)
  refine gIcGe hO (off := 127) (tgt := 147) (by decide +kernel) (by decide) (fun c1 => ?_) (fun c1 => ?_)
  · have h := h.1 c1
    refine gBk (pe := 148) hO [oI (.iconst 1) 1] (by decide +kernel) (show tWG K B 0 0 S I J 148 [some (vR 0), some (vR a1), some (vI v2), some (vI v3), some (vI v4), some (vI v5), none, none, none, none, none] [vI 1] from ?_)
    exact gZret hO hQ (by decide +kernel) (Or.inr rfl) ⟨rfl, (Or.inr rfl), h⟩
  · have h := h.2 c1
    refine gBk (pe := 24) hO [o0 (.aload_n 0)] (by decide +kernel) (show tWG K B 0 0 S I J 24 [some (vR 0), some (vR a1), some (vI v2), some (vI v3), some (vI v4), some (vI v5), none, none, none, none, none] [vR 0] from ?_)
    refine gCVv_c hO (M11_setOrderWords t0 h) hc11_setOrderWords (idx := 254) (w := 929) (by decide +kernel) hR (by omega) t0 ⟨by decide, rfl⟩ (vs := []) (st := []) ⟨rfl, Nat.le_of_ble_eq_true rfl, rfl⟩ (by decide +kernel) (fun I2 J3 h => ?_)
    refine gBk (pe := 37) hO [o0 (.aload_n 0), oF (.getfield 50) 11 7 34 46, o0 (.aload_n 1), o0 (.iload_n 2), o0 (.aload_n 0), oF (.getfield 72) 11 10 44 58] (by decide +kernel) (And.intro t0 (And.intro rfl (And.intro t0 (And.intro rfl (show tWG K B 0 0 S I2 J3 37 [some (vR 0), some (vR a1), some (vI v2), some (vI v3), some (vI v4), some (vI v5), none, none, none, none, none] [vR 58, vI v2, vR a1, vR 46] from ?_)))))
    refine gCVi_b hO (M0_isSo (tGr.off hG t0 (k := 7) rfl) t1 (tGr.off hG t0 (k := 10) rfl) h) hc0_isSo (idx := 257) (w := 936) (by decide +kernel) hR (by omega) (tGr.off hG t0 (k := 7) rfl) ⟨by decide, rfl⟩ (vs := [vR a1, vI v2, vR 58]) (st := []) ⟨rfl, Nat.le_of_ble_eq_true rfl, rfl⟩ (by decide +kernel) (fun x6 I4 J5 z7 h => ?_)
    have h := h z7
    refine gIfNe hO (off := 6) (tgt := 46) (by decide +kernel) (by decide) (fun c8 => ?_) (fun c8 => ?_)
    · have h := h.1 c8
      refine gBk (pe := 57) hO [o0 (.aload_n 0), oF (.getfield 50) 11 7 34 46, o0 (.aload_n 1), o0 (.iload_n 2), oI (.iconst 0) 0, o0 (.aload_n 0), oF (.getfield 72) 11 10 44 58] (by decide +kernel) (And.intro t0 (And.intro rfl (And.intro t0 (And.intro rfl (show tWG K B 0 0 S I4 J5 57 [some (vR 0), some (vR a1), some (vI v2), some (vI v3), some (vI v4), some (vI v5), none, none, none, none, none] [vR 58, vI 0, vI v2, vR a1, vR 46] from ?_)))))
      refine gCVl_c hO (M0_sumOf (tGr.off hG t0 (k := 7) rfl) t1 (tGr.off hG t0 (k := 10) rfl) h) hc0_sumOf (idx := 261) (w := 937) (by decide +kernel) hR (by omega) (tGr.off hG t0 (k := 7) rfl) ⟨by decide, rfl⟩ (vs := [vR a1, vI v2, vI 0, vR 58]) (st := []) ⟨rfl, Nat.le_of_ble_eq_true rfl, rfl⟩ (by decide +kernel) (fun x11 I9 J10 h => ?_)
      refine gBk (pe := 64) hO [o0 (.lstore 6), o0 (.lload 6)] (by decide +kernel) (And.intro (Nat.le_of_ble_eq_true rfl) (show tWG K B 0 0 S I9 J10 64 [some (vR 0), some (vR a1), some (vI v2), some (vI v3), some (vI v4), some (vI v5), some (vL x11), none, none, none, none] [vL x11] from ?_))
      refine gBk (pe := 68) hO [(.ldc2_w 265, (0, 0, 923, 0), 0, 2000000000), o0 .lcmp] (by decide +kernel) (show tWG K B 0 0 S I9 J10 68 [some (vR 0), some (vR a1), some (vI v2), some (vI v3), some (vI v4), some (vI v5), some (vL x11), none, none, none, none] [vI (lg_cmp x11 2000000000)] from ?_)
      refine gIfNe hO (off := 5) (tgt := 73) (by decide +kernel) (by decide) (fun c12 => ?_) (fun c12 => ?_)
      · have h := h.1 c12
        refine gBk (pe := 84) hO [o0 (.aload_n 0), oF (.getfield 50) 11 7 34 46, o0 (.aload_n 1), o0 (.iload_n 2), oI (.iconst 1) 1, o0 (.aload_n 0), oF (.getfield 72) 11 10 44 58] (by decide +kernel) (And.intro t0 (And.intro rfl (And.intro t0 (And.intro rfl (show tWG K B 0 0 S I9 J10 84 [some (vR 0), some (vR a1), some (vI v2), some (vI v3), some (vI v4), some (vI v5), some (vL x11), none, none, none, none] [vR 58, vI 1, vI v2, vR a1, vR 46] from ?_)))))
        refine gCVl_c hO (M0_sumOf (tGr.off hG t0 (k := 7) rfl) t1 (tGr.off hG t0 (k := 10) rfl) h) hc0_sumOf (idx := 261) (w := 937) (by decide +kernel) hR (by omega) (tGr.off hG t0 (k := 7) rfl) ⟨by decide, rfl⟩ (vs := [vR a1, vI v2, vI 1, vR 58]) (st := []) ⟨rfl, Nat.le_of_ble_eq_true rfl, rfl⟩ (by decide +kernel) (fun x15 I13 J14 h => ?_)
        refine gBk (pe := 91) hO [o0 (.lstore 8), o0 (.lload 8)] (by decide +kernel) (And.intro (Nat.le_of_ble_eq_true rfl) (show tWG K B 0 0 S I13 J14 91 [some (vR 0), some (vR a1), some (vI v2), some (vI v3), some (vI v4), some (vI v5), some (vL x11), none, some (vL x15), none, none] [vL x15] from ?_))
        refine gBk (pe := 95) hO [(.ldc2_w 265, (0, 0, 923, 0), 0, 2000000000), o0 .lcmp] (by decide +kernel) (show tWG K B 0 0 S I13 J14 95 [some (vR 0), some (vR a1), some (vI v2), some (vI v3), some (vI v4), some (vI v5), some (vL x11), none, some (vL x15), none, none] [vI (lg_cmp x15 2000000000)] from ?_)
        refine gIfNe hO (off := 5) (tgt := 100) (by decide +kernel) (by decide) (fun c16 => ?_) (fun c16 => ?_)
        · have h := h.1 c16
          refine gBk (pe := 108) hO [o0 (.aload_n 0), o0 (.iload_n 3), o0 (.lload 6), o0 .l2i, o0 (.lload 8), o0 .l2i] (by decide +kernel) (show tWG K B 0 0 S I13 J14 108 [some (vR 0), some (vR a1), some (vI v2), some (vI v3), some (vI v4), some (vI v5), some (vL x11), none, some (vL x15), none, none] [vI x15.toInt32, vI x11.toInt32, vI v3, vR 0] from ?_)
          refine gCVi_c hO (M11_act t0 h) hc11_act (idx := 267) (w := 938) (by decide +kernel) hR (by omega) t0 ⟨by decide, rfl⟩ (vs := [vI v3, vI x11.toInt32, vI x15.toInt32]) (st := []) ⟨rfl, Nat.le_of_ble_eq_true rfl, rfl⟩ (by decide +kernel) (fun x19 I17 J18 h => ?_)
          refine gBk (pe := 115) hO [o0 (.istore 10), o0 (.iload 10)] (by decide +kernel) (And.intro (Nat.le_of_ble_eq_true rfl) (show tWG K B 0 0 S I17 J18 115 [some (vR 0), some (vR a1), some (vI v2), some (vI v3), some (vI v4), some (vI v5), some (vL x11), none, some (vL x15), none, some (vI x19)] [vI x19] from ?_))
          refine gIfGe hO (off := 5) (tgt := 120) (by decide +kernel) (by decide) (fun c20 => ?_) (fun c20 => ?_)
          · have h := h.1 c20
            refine gBk (pe := 132) hO [o0 (.aload_n 0), o0 .dup, oF (.getfield 90) 11 14 51 0, oI (.iconst 1) 1, o0 .iadd, oF (.putfield 90) 11 14 51 0, o0 (.iload_n 3), oI (.iconst 5) 5] (by decide +kernel) (And.intro t0 (And.intro t0 (show tWG K B 0 0 S (uI I17 0 14 ((I17 0 14) + 1)) J18 132 [some (vR 0), some (vR a1), some (vI v2), some (vI v3), some (vI v4), some (vI v5), some (vL x11), none, some (vL x15), none, some (vI x19)] [vI 5, vI v3] from ?_)))
            refine gIcNe hO (off := 9) (tgt := 141) (by decide +kernel) (by decide) (fun c21 => ?_) (fun c21 => ?_)
            · have h := h.1 c21
              exact gWeak (L' := [some (vR 0), some (vR a1), some (vI v2), some (vI v3), some (vI v4), some (vI v5), none, none, none, none, none]) ⟨rfl, rfl, rfl, rfl, rfl, rfl, trivial⟩ (W11_runClause_141 hO hR hG t0 hQ hkb16 t1 h)
            · have h := h.2 c21
              refine gBk (pe := 141) hO [o0 (.aload_n 0), o0 (.iload 10), oF (.putfield 94) 11 15 52 0] (by decide +kernel) (And.intro t0 (show tWG K B 0 0 S (uI (uI I17 0 14 ((I17 0 14) + 1)) 0 15 x19) J18 141 [some (vR 0), some (vR a1), some (vI v2), some (vI v3), some (vI v4), some (vI v5), some (vL x11), none, some (vL x15), none, some (vI x19)] [] from ?_))
              exact gWeak (L' := [some (vR 0), some (vR a1), some (vI v2), some (vI v3), some (vI v4), some (vI v5), none, none, none, none, none]) ⟨rfl, rfl, rfl, rfl, rfl, rfl, trivial⟩ (W11_runClause_141 hO hR hG t0 hQ hkb16 t1 h)
          · have h := h.2 c20
            refine gBk (pe := 119) hO [oI (.iconst 0) 0] (by decide +kernel) (show tWG K B 0 0 S I17 J18 119 [some (vR 0), some (vR a1), some (vI v2), some (vI v3), some (vI v4), some (vI v5), some (vL x11), none, some (vL x15), none, some (vI x19)] [vI 0] from ?_)
            exact gZret hO hQ (by decide +kernel) (Or.inl rfl) ⟨rfl, (Or.inl rfl), h⟩
        · have h := h.2 c16
          refine gBk (pe := 99) hO [oI (.iconst 0) 0] (by decide +kernel) (show tWG K B 0 0 S I13 J14 99 [some (vR 0), some (vR a1), some (vI v2), some (vI v3), some (vI v4), some (vI v5), some (vL x11), none, some (vL x15), none, none] [vI 0] from ?_)
          exact gZret hO hQ (by decide +kernel) (Or.inl rfl) ⟨rfl, (Or.inl rfl), h⟩
      · have h := h.2 c12
        refine gBk (pe := 72) hO [oI (.iconst 0) 0] (by decide +kernel) (show tWG K B 0 0 S I9 J10 72 [some (vR 0), some (vR a1), some (vI v2), some (vI v3), some (vI v4), some (vI v5), some (vL x11), none, none, none, none] [vI 0] from ?_)
        exact gZret hO hQ (by decide +kernel) (Or.inl rfl) ⟨rfl, (Or.inl rfl), h⟩
    · have h := h.2 c8
      refine gBk (pe := 141) hO [o0 (.goto 98)] (by decide +kernel) (show tWG K B 0 0 S I4 J5 141 [some (vR 0), some (vR a1), some (vI v2), some (vI v3), some (vI v4), some (vI v5), none, none, none, none, none] [] from ?_)
      exact W11_runClause_141 hO hR hG t0 hQ hkb16 t1 h
theorem W11_runClause_L16 {K : tK} {B : tB} {S : tSH} {MC MS : Nat} (hO : tKO K B RX11 cX11_runClause 11) (hR : kR K = tRm 8 MC MS) (hG : tGr S) {n : Nat} (t0 : ty S 0 11) {k : Int32 → tHI → tHJ → Prop} (hQ : tRet K B (tQi B (tPb S k)) 0 0 (some .boolean)) : ∀ (f : Nat) (I : tHI) (J : tHJ) (a1 : Nat) (v2 : Int32) (v3 : Int32) (v4 : Int32) (v5 : Int32), (ty S a1 6) → F11_runClause_L16 n S k f I J a1 v2 v3 v4 v5 → tWG K B 0 0 S I J 16 [some (vR 0), some (vR a1), some (vI v2), some (vI v3), some (vI v4), some (vI v5), none, none, none, none, none] [] := by
  intro f
  induction f with
  | zero => intro I J a1 v2 v3 v4 v5 t1 h; exact h.elim
  | succ f ih => intro I J a1 v2 v3 v4 v5 t1 h; exact W11_runClause_16 hO hR hG t0 hQ ih t1 h
set_option maxRecDepth 20000 in
theorem hc11_runClause : tCV yX11_runClause cX11_runClause 11 (some .boolean) 2 := ⟨⟨(List.mem_of_getElem? (i := 922) rfl), (List.mem_of_getElem? (i := 2) (by decide +kernel)), by decide +kernel⟩, (List.mem_of_getElem? (i := 920) (by decide +kernel)), (List.mem_of_getElem? (i := 921) (by decide +kernel))⟩
set_option maxRecDepth 100000 in
theorem M11_runClause {l : Launch} {B : tB} {S : tSH} {I : tHI} {J : tHJ} {a1 : Nat} {v2 : Int32} {n : Nat} {k : Int32 → tHI → tHJ → Prop} (t0 : ty S 0 11) (t1 : ty S a1 6) (h : F11_runClause n S I J a1 v2 k) : Met l yX11_runClause (tWs yX11_runClause cX11_runClause 11 (some .boolean)) (tRm 8 0 0) (tPc B [vR 0, vR a1, vI v2] S I J) (tQi B (tPb S k)) 0 0 (tA B) :=
  tEntry (by decide +kernel) [some (vR 0), some (vR a1), some (vI v2), none, none, none, none, none, none, none, none] rfl rfl (Nat.le_of_ble_eq_true rfl) (fun K hl hR hO hQ hG => by
  subst hl
  refine gBk (pe := 2) hO [o0 (.aload_n 1), o0 (.iload_n 2)] (by decide +kernel) (show tWG K B 0 0 S I J 2 [some (vR 0), some (vR a1), some (vI v2), none, none, none, none, none, none, none, none] [vI v2, vR a1] from ?_)
  refine gCVi_p hO (M6_kindOf t1 h.1) hc6_kindOf (idx := 248) (w := 924) (by decide +kernel) hR (by omega) t1 ⟨by decide, rfl⟩ (vs := [vI v2]) (st := []) ⟨rfl, Nat.le_of_ble_eq_true rfl, rfl⟩ (by decide +kernel) ?_
  have h := h.2
  refine gBk (pe := 8) hO [o0 (.istore_n 3), o0 (.aload_n 1), o0 (.iload_n 2)] (by decide +kernel) (And.intro (Nat.le_of_ble_eq_true rfl) (show tWG K B 0 0 S I J 8 [some (vR 0), some (vR a1), some (vI v2), some (vI (V6_kindOf S I J a1 v2)), none, none, none, none, none, none, none] [vI v2, vR a1] from ?_))
  refine gCVi_p hO (M6_timesOf t1 h.1) hc6_timesOf (idx := 251) (w := 925) (by decide +kernel) hR (by omega) t1 ⟨by decide, rfl⟩ (vs := [vI v2]) (st := []) ⟨rfl, Nat.le_of_ble_eq_true rfl, rfl⟩ (by decide +kernel) ?_
  have h := h.2
  refine gBk (pe := 16) hO [o0 (.istore 4), oI (.iconst 0) 0, o0 (.istore 5)] (by decide +kernel) (And.intro (Nat.le_of_ble_eq_true rfl) (And.intro (Nat.le_of_ble_eq_true rfl) (show tWG K B 0 0 S I J 16 [some (vR 0), some (vR a1), some (vI v2), some (vI (V6_kindOf S I J a1 v2)), some (vI (V6_timesOf S I J a1 v2)), some (vI 0), none, none, none, none, none] [] from ?_)))
  exact W11_runClause_L16 hO hR hG t0 hQ n _ _ _ _ _ _ _ t1 h)
set_option maxRecDepth 20000 in
theorem hc11_gas : tCV yX11_gas cX11_gas 2 (some .int) 1 := ⟨⟨(List.mem_of_getElem? (i := 1099) rfl), (List.mem_of_getElem? (i := 2) (by decide +kernel)), by decide +kernel⟩, (List.mem_of_getElem? (i := 1097) (by decide +kernel)), (List.mem_of_getElem? (i := 1098) (by decide +kernel))⟩
set_option maxRecDepth 100000 in
theorem M11_gas {l : Launch} {B : tB} {S : tSH} {I : tHI} {J : tHJ} {v1 : Int32} {n : Nat} {k : Int32 → tHI → tHJ → Prop} (t0 : ty S 0 11) (h : F11_gas n S I J v1 k) : Met l yX11_gas (tWs yX11_gas cX11_gas 2 (some .int)) (tRm 8 0 0) (tPc B [vR 0, vI v1] S I J) (tQi B (tPi S k)) 0 0 (tA B) :=
  tEntry (by decide +kernel) [some (vR 0), some (vI v1)] rfl rfl (Nat.le_of_ble_eq_true rfl) (fun K hl hR hO hQ hG => by
  subst hl
  refine gBk (pe := 5) hO [o0 (.aload_n 0), o0 (.aload_n 0), oI (.iconst 0) 0, o0 (.iload_n 1), oI (.iconst 0) 0] (by decide +kernel) (show tWG K B 0 0 S I J 5 [some (vR 0), some (vI v1)] [vI 0, vI v1, vI 0, vR 0, vR 0] from ?_)
  refine gCVi_c hO (M11_act t0 h) hc11_act (idx := 267) (w := 938) (by decide +kernel) hR (by omega) t0 ⟨by decide, rfl⟩ (vs := [vI 0, vI v1, vI 0]) (st := [vR 0]) ⟨rfl, Nat.le_of_ble_eq_true rfl, rfl⟩ (by decide +kernel) (fun x3 I1 J2 h => ?_)
  refine gCVi_c hO (M11_settle t0 h) hc11_settle (idx := 110) (w := 248) (by decide +kernel) hR (by omega) t0 ⟨by decide, rfl⟩ (vs := [vI x3]) (st := []) ⟨rfl, Nat.le_of_ble_eq_true rfl, rfl⟩ (by decide +kernel) (fun x6 I4 J5 h => ?_)
  exact gIret hO hQ (by decide +kernel) ⟨rfl, h⟩)
set_option maxRecDepth 20000 in
theorem hc11_brake : tCV yX11_brake cX11_brake 2 (some .int) 1 := ⟨⟨(List.mem_of_getElem? (i := 1107) rfl), (List.mem_of_getElem? (i := 2) (by decide +kernel)), by decide +kernel⟩, (List.mem_of_getElem? (i := 1105) (by decide +kernel)), (List.mem_of_getElem? (i := 1106) (by decide +kernel))⟩
set_option maxRecDepth 100000 in
theorem M11_brake {l : Launch} {B : tB} {S : tSH} {I : tHI} {J : tHJ} {v1 : Int32} {n : Nat} {k : Int32 → tHI → tHJ → Prop} (t0 : ty S 0 11) (h : F11_brake n S I J v1 k) : Met l yX11_brake (tWs yX11_brake cX11_brake 2 (some .int)) (tRm 8 0 0) (tPc B [vR 0, vI v1] S I J) (tQi B (tPi S k)) 0 0 (tA B) :=
  tEntry (by decide +kernel) [some (vR 0), some (vI v1)] rfl rfl (Nat.le_of_ble_eq_true rfl) (fun K hl hR hO hQ hG => by
  subst hl
  refine gBk (pe := 5) hO [o0 (.aload_n 0), o0 (.aload_n 0), oI (.iconst 1) 1, o0 (.iload_n 1), oI (.iconst 0) 0] (by decide +kernel) (show tWG K B 0 0 S I J 5 [some (vR 0), some (vI v1)] [vI 0, vI v1, vI 1, vR 0, vR 0] from ?_)
  refine gCVi_c hO (M11_act t0 h) hc11_act (idx := 267) (w := 938) (by decide +kernel) hR (by omega) t0 ⟨by decide, rfl⟩ (vs := [vI 1, vI v1, vI 0]) (st := [vR 0]) ⟨rfl, Nat.le_of_ble_eq_true rfl, rfl⟩ (by decide +kernel) (fun x3 I1 J2 h => ?_)
  refine gCVi_c hO (M11_settle t0 h) hc11_settle (idx := 110) (w := 248) (by decide +kernel) hR (by omega) t0 ⟨by decide, rfl⟩ (vs := [vI x3]) (st := []) ⟨rfl, Nat.le_of_ble_eq_true rfl, rfl⟩ (by decide +kernel) (fun x6 I4 J5 h => ?_)
  exact gIret hO hQ (by decide +kernel) ⟨rfl, h⟩)
set_option maxRecDepth 20000 in
theorem hc11_lane : tCV yX11_lane cX11_lane 2 (some .int) 1 := ⟨⟨(List.mem_of_getElem? (i := 1115) rfl), (List.mem_of_getElem? (i := 2) (by decide +kernel)), by decide +kernel⟩, (List.mem_of_getElem? (i := 1113) (by decide +kernel)), (List.mem_of_getElem? (i := 1114) (by decide +kernel))⟩
set_option maxRecDepth 100000 in
theorem M11_lane {l : Launch} {B : tB} {S : tSH} {I : tHI} {J : tHJ} {v1 : Int32} {n : Nat} {k : Int32 → tHI → tHJ → Prop} (t0 : ty S 0 11) (h : F11_lane n S I J v1 k) : Met l yX11_lane (tWs yX11_lane cX11_lane 2 (some .int)) (tRm 8 0 0) (tPc B [vR 0, vI v1] S I J) (tQi B (tPi S k)) 0 0 (tA B) :=
  tEntry (by decide +kernel) [some (vR 0), some (vI v1)] rfl rfl (Nat.le_of_ble_eq_true rfl) (fun K hl hR hO hQ hG => by
  subst hl
  refine gBk (pe := 5) hO [o0 (.aload_n 0), o0 (.aload_n 0), oI (.iconst 2) 2, o0 (.iload_n 1), oI (.iconst 0) 0] (by decide +kernel) (show tWG K B 0 0 S I J 5 [some (vR 0), some (vI v1)] [vI 0, vI v1, vI 2, vR 0, vR 0] from ?_)
  refine gCVi_c hO (M11_act t0 h) hc11_act (idx := 267) (w := 938) (by decide +kernel) hR (by omega) t0 ⟨by decide, rfl⟩ (vs := [vI 2, vI v1, vI 0]) (st := [vR 0]) ⟨rfl, Nat.le_of_ble_eq_true rfl, rfl⟩ (by decide +kernel) (fun x3 I1 J2 h => ?_)
  refine gCVi_c hO (M11_settle t0 h) hc11_settle (idx := 110) (w := 248) (by decide +kernel) hR (by omega) t0 ⟨by decide, rfl⟩ (vs := [vI x3]) (st := []) ⟨rfl, Nat.le_of_ble_eq_true rfl, rfl⟩ (by decide +kernel) (fun x6 I4 J5 h => ?_)
  exact gIret hO hQ (by decide +kernel) ⟨rfl, h⟩)
set_option maxRecDepth 20000 in
theorem hc11_put : tCV yX11_put cX11_put 3 (some .int) 2 := ⟨⟨(List.mem_of_getElem? (i := 1123) rfl), (List.mem_of_getElem? (i := 2) (by decide +kernel)), by decide +kernel⟩, (List.mem_of_getElem? (i := 1121) (by decide +kernel)), (List.mem_of_getElem? (i := 1122) (by decide +kernel))⟩
set_option maxRecDepth 100000 in
theorem M11_put {l : Launch} {B : tB} {S : tSH} {I : tHI} {J : tHJ} {v1 : Int32} {v2 : Int32} {n : Nat} {k : Int32 → tHI → tHJ → Prop} (t0 : ty S 0 11) (h : F11_put n S I J v1 v2 k) : Met l yX11_put (tWs yX11_put cX11_put 3 (some .int)) (tRm 8 0 0) (tPc B [vR 0, vI v1, vI v2] S I J) (tQi B (tPi S k)) 0 0 (tA B) :=
  tEntry (by decide +kernel) [some (vR 0), some (vI v1), some (vI v2)] rfl rfl (Nat.le_of_ble_eq_true rfl) (fun K hl hR hO hQ hG => by
  subst hl
  refine gBk (pe := 5) hO [o0 (.aload_n 0), o0 (.aload_n 0), oI (.iconst 3) 3, o0 (.iload_n 1), o0 (.iload_n 2)] (by decide +kernel) (show tWG K B 0 0 S I J 5 [some (vR 0), some (vI v1), some (vI v2)] [vI v2, vI v1, vI 3, vR 0, vR 0] from ?_)
  refine gCVi_c hO (M11_act t0 h) hc11_act (idx := 267) (w := 938) (by decide +kernel) hR (by omega) t0 ⟨by decide, rfl⟩ (vs := [vI 3, vI v1, vI v2]) (st := [vR 0]) ⟨rfl, Nat.le_of_ble_eq_true rfl, rfl⟩ (by decide +kernel) (fun x3 I1 J2 h => ?_)
  refine gCVi_c hO (M11_settle t0 h) hc11_settle (idx := 110) (w := 248) (by decide +kernel) hR (by omega) t0 ⟨by decide, rfl⟩ (vs := [vI x3]) (st := []) ⟨rfl, Nat.le_of_ble_eq_true rfl, rfl⟩ (by decide +kernel) (fun x6 I4 J5 h => ?_)
  exact gIret hO hQ (by decide +kernel) ⟨rfl, h⟩)
set_option maxRecDepth 20000 in
theorem hc11_lean : tCV yX11_lean cX11_lean 3 (some .int) 2 := ⟨⟨(List.mem_of_getElem? (i := 1131) rfl), (List.mem_of_getElem? (i := 2) (by decide +kernel)), by decide +kernel⟩, (List.mem_of_getElem? (i := 1129) (by decide +kernel)), (List.mem_of_getElem? (i := 1130) (by decide +kernel))⟩
set_option maxRecDepth 100000 in
theorem M11_lean {l : Launch} {B : tB} {S : tSH} {I : tHI} {J : tHJ} {v1 : Int32} {v2 : Int32} {n : Nat} {k : Int32 → tHI → tHJ → Prop} (t0 : ty S 0 11) (h : F11_lean n S I J v1 v2 k) : Met l yX11_lean (tWs yX11_lean cX11_lean 3 (some .int)) (tRm 8 0 0) (tPc B [vR 0, vI v1, vI v2] S I J) (tQi B (tPi S k)) 0 0 (tA B) :=
  tEntry (by decide +kernel) [some (vR 0), some (vI v1), some (vI v2)] rfl rfl (Nat.le_of_ble_eq_true rfl) (fun K hl hR hO hQ hG => by
  subst hl
  refine gBk (pe := 5) hO [o0 (.aload_n 0), o0 (.aload_n 0), oI (.iconst 4) 4, o0 (.iload_n 1), o0 (.iload_n 2)] (by decide +kernel) (show tWG K B 0 0 S I J 5 [some (vR 0), some (vI v1), some (vI v2)] [vI v2, vI v1, vI 4, vR 0, vR 0] from ?_)
  refine gCVi_c hO (M11_act t0 h) hc11_act (idx := 267) (w := 938) (by decide +kernel) hR (by omega) t0 ⟨by decide, rfl⟩ (vs := [vI 4, vI v1, vI v2]) (st := [vR 0]) ⟨rfl, Nat.le_of_ble_eq_true rfl, rfl⟩ (by decide +kernel) (fun x3 I1 J2 h => ?_)
  refine gCVi_c hO (M11_settle t0 h) hc11_settle (idx := 110) (w := 248) (by decide +kernel) hR (by omega) t0 ⟨by decide, rfl⟩ (vs := [vI x3]) (st := []) ⟨rfl, Nat.le_of_ble_eq_true rfl, rfl⟩ (by decide +kernel) (fun x6 I4 J5 h => ?_)
  exact gIret hO hQ (by decide +kernel) ⟨rfl, h⟩)
set_option maxRecDepth 20000 in
theorem hc11_ride : tCV yX11_ride cX11_ride 1 (some .int) 0 := ⟨⟨(List.mem_of_getElem? (i := 1139) rfl), (List.mem_of_getElem? (i := 2) (by decide +kernel)), by decide +kernel⟩, (List.mem_of_getElem? (i := 1137) (by decide +kernel)), (List.mem_of_getElem? (i := 1138) (by decide +kernel))⟩
set_option maxRecDepth 100000 in
theorem M11_ride {l : Launch} {B : tB} {S : tSH} {I : tHI} {J : tHJ} {n : Nat} {k : Int32 → tHI → tHJ → Prop} (t0 : ty S 0 11) (h : F11_ride n S I J k) : Met l yX11_ride (tWs yX11_ride cX11_ride 1 (some .int)) (tRm 8 0 0) (tPc B [vR 0] S I J) (tQi B (tPi S k)) 0 0 (tA B) :=
  tEntry (by decide +kernel) [some (vR 0)] rfl rfl (Nat.le_of_ble_eq_true rfl) (fun K hl hR hO hQ hG => by
  subst hl
  refine gBk (pe := 5) hO [o0 (.aload_n 0), o0 (.aload_n 0), oI (.iconst 5) 5, oI (.iconst 0) 0, oI (.iconst 0) 0] (by decide +kernel) (show tWG K B 0 0 S I J 5 [some (vR 0)] [vI 0, vI 0, vI 5, vR 0, vR 0] from ?_)
  refine gCVi_c hO (M11_act t0 h) hc11_act (idx := 267) (w := 938) (by decide +kernel) hR (by omega) t0 ⟨by decide, rfl⟩ (vs := [vI 5, vI 0, vI 0]) (st := [vR 0]) ⟨rfl, Nat.le_of_ble_eq_true rfl, rfl⟩ (by decide +kernel) (fun x3 I1 J2 h => ?_)
  refine gCVi_c hO (M11_settle t0 h) hc11_settle (idx := 110) (w := 248) (by decide +kernel) hR (by omega) t0 ⟨by decide, rfl⟩ (vs := [vI x3]) (st := []) ⟨rfl, Nat.le_of_ble_eq_true rfl, rfl⟩ (by decide +kernel) (fun x6 I4 J5 h => ?_)
  exact gIret hO hQ (by decide +kernel) ⟨rfl, h⟩)
