set_option maxRecDepth 20000 in
theorem hc12_learn : tCV yX12_learn cX12_learn 2 none 1 := ⟨⟨(List.mem_of_getElem? (i := 1061) rfl), (List.mem_of_getElem? (i := 5) (by decide +kernel)), by decide +kernel⟩, (List.mem_of_getElem? (i := 1059) (by decide +kernel)), (List.mem_of_getElem? (i := 1060) (by decide +kernel))⟩
set_option maxRecDepth 100000 in
theorem M12_learn {l : Launch} {B : tB} {S : tSH} {I : tHI} {J : tHJ} {v1 : Int32} {n : Nat} {k : tHI → tHJ → Prop} (t0 : ty S 61 12) (h : F12_learn n S I J v1 k) : Met l yX12_learn (tWs yX12_learn cX12_learn 2 none) (tRm 8 0 0) (tPc B [vR 61, vI v1] S I J) (tQv B (tPv S k)) 0 0 (tA B) :=
  tEntry (by decide +kernel) [some (vR 61), some (vI v1)] rfl rfl (Nat.le_of_ble_eq_true rfl) (fun K hl hR hO hQ hG => by
  subst hl
  refine gBk (pe := 15) hO [o0 (.aload_n 0), oF (.getfield 13) 12 3 179 63, oI (.bipush 13) 13, o0 (.aload_n 0), oF (.getfield 13) 12 3 179 63, oI (.bipush 13) 13, o0 .iaload, o0 (.aload_n 0), o0 (.iload_n 1)] (by decide +kernel) (And.intro t0 (And.intro rfl (And.intro t0 (And.intro rfl (And.intro (tGr.off hG t0 (k := 3) rfl) (And.intro (tin (tGr.len hG t0 (k := 3) rfl (by decide)) (tvi (by decide +kernel))) (show tWG K B 0 0 S I J 15 [some (vR 61), some (vI v1)] [vI v1, vR 61, vI (I 63 13), vI 13, vR 63] from ?_)))))))
  refine gCVi_c hO (M12_learnsOf t0 h) hc12_learnsOf (idx := 237) (w := 522) (by decide +kernel) hR (by omega) t0 ⟨by decide, rfl⟩ (vs := [vI v1]) (st := [vI (I 63 13), vI 13, vR 63]) ⟨rfl, Nat.le_of_ble_eq_true rfl, rfl⟩ (by decide +kernel) (fun x3 I1 J2 h => ?_)
  refine gBk (pe := 23) hO [o0 .iadd, o0 .i2l, oI (.iconst 0) 0, oI (.bipush 100) 100] (by decide +kernel) (show tWG K B 0 0 S I1 J2 23 [some (vR 61), some (vI v1)] [vI 100, vI 0, vL (((I 63 13) + x3).toInt64), vI 13, vR 63] from ?_)
  refine gCSi_p hO (M12_within) hc12_within (idx := 468) (w := 504) (by decide +kernel) hR (by omega) (vs := [vL (((I 63 13) + x3).toInt64), vI 0, vI 100]) (st := [vI 13, vR 63]) ⟨rfl, Nat.le_of_ble_eq_true rfl, rfl⟩ (by decide +kernel) ?_
  refine gBk (pe := 27) hO [o0 .iastore] (by decide +kernel) (And.intro (tGr.off hG t0 (k := 3) rfl) (And.intro (tin (tGr.len hG t0 (k := 3) rfl (by decide)) (tvi (by decide +kernel))) (show tWG K B 0 0 S (uI I1 63 13 (V12_within (((I 63 13) + x3).toInt64) 0 100)) J2 27 [some (vR 61), some (vI v1)] [] from ?_)))
  exact gVret hO hQ (by decide +kernel) ⟨rfl, h⟩)
set_option maxRecDepth 100000 in
theorem W12_learning_72 {K : tK} {B : tB} {S : tSH} {MC MS : Nat} (hO : tKO K B RX12 cX12_learning 3) (hR : kR K = tRm 9 MC MS) (hG : tGr S) {n : Nat} (t0 : ty S 61 12) {k : Int32 → tHI → tHJ → Prop} (hQ : tRet K B (tQi B (tPi S k)) 0 0 (some .int)) {I : tHI} {J : tHJ} {v1 : Int32} (h : F12_learning_72 n S k I J v1) : tWG K B 0 0 S I J 72 [some (vR 61), some (vI v1), none] [] := by
  refine gBk (pe := 75) hO [o0 (.aload_n 0), oI (.bipush 16) 16] (by decide +kernel) (show tWG K B 0 0 S I J 75 [some (vR 61), some (vI v1), none] [vI 16, vR 61] from ?_)
  refine gCVv_c hO (M12_putBack t0 h) hc12_putBack (idx := 178) (w := 1066) (by decide +kernel) hR (by omega) t0 ⟨by decide, rfl⟩ (vs := [vI 16]) (st := []) ⟨rfl, Nat.le_of_ble_eq_true rfl, rfl⟩ (by decide +kernel) (fun I5 J6 h => ?_)
  refine gBk (pe := 82) hO [o0 (.iload_n 1), oI (.sipush 1000) 1000] (by decide +kernel) (show tWG K B 0 0 S I5 J6 82 [some (vR 61), some (vI v1), none] [vI 1000, vI v1] from ?_)
  have hj7 : ∀ (m8 : Int32), m8 = (if v1 = 1000 then (-1) else v1) → tWG K B 0 0 S I5 J6 90 [none, none, none] [vI m8] := by
    intro m8 em8
    subst em8
    exact gIret hO hQ (by decide +kernel) ⟨rfl, h⟩
  refine gIcNe hO (off := 7) (tgt := 89) (by decide +kernel) (by decide) (fun c9 => ?_) (fun c9 => ?_)
  · refine gBk (pe := 90) hO [o0 (.iload_n 1)] (by decide +kernel) (show tWG K B 0 0 S I5 J6 90 [some (vR 61), some (vI v1), none] [vI v1] from ?_)
    exact gWeak (L' := [none, none, none]) trivial (hj7 _ (Eq.symm (if_neg c9)))
  · refine gBk (pe := 90) hO [oI (.iconst (-1)) (-1), o0 (.goto 4)] (by decide +kernel) (show tWG K B 0 0 S I5 J6 90 [some (vR 61), some (vI v1), none] [vI (-1)] from ?_)
    exact gWeak (L' := [none, none, none]) trivial (hj7 _ (Eq.symm (if_pos c9)))
set_option maxRecDepth 100000 in
theorem W12_learning_45 {K : tK} {B : tB} {S : tSH} {MC MS : Nat} (hO : tKO K B RX12 cX12_learning 3) (hR : kR K = tRm 9 MC MS) (hG : tGr S) {n : Nat} (t0 : ty S 61 12) {k : Int32 → tHI → tHJ → Prop} (hQ : tRet K B (tQi B (tPi S k)) 0 0 (some .int)) {kb24 : tHI → tHJ → Int32 → Prop} (hkb24 : ∀ (I : tHI) (J : tHJ) (v1 : Int32), kb24 I J v1 → tWG K B 0 0 S I J 24 [some (vR 61), some (vI v1), none] []) {kb45 : tHI → tHJ → Int32 → Int32 → Prop} (hkb45 : ∀ (I : tHI) (J : tHJ) (v1 : Int32) (v2 : Int32), kb45 I J v1 v2 → tWG K B 0 0 S I J 45 [some (vR 61), some (vI v1), some (vI v2)] []) {I : tHI} {J : tHJ} {v1 : Int32} {v2 : Int32} (h : F12_learning_45 n S k kb24 kb45 I J v1 v2) : tWG K B 0 0 S I J 45 [some (vR 61), some (vI v1), some (vI v2)] [] := by
  refine gBk (pe := 52) hO [o0 (.iload_n 2), o0 (.aload_n 0), oF (.getfield 13) 12 3 179 63, oI (.iconst 1) 1, o0 .iaload] (by decide +kernel) (And.intro t0 (And.intro rfl (And.intro (tGr.off hG t0 (k := 3) rfl) (And.intro (tin (tGr.len hG t0 (k := 3) rfl (by decide)) (tvi (by decide +kernel))) (show tWG K B 0 0 S I J 52 [some (vR 61), some (vI v1), some (vI v2)] [vI (I 63 1), vI v2] from ?_)))))
  refine gIcGe hO (off := 14) (tgt := 66) (by decide +kernel) (by decide) (fun c11 => ?_) (fun c11 => ?_)
  · have h := h.1 c11
    refine gBk (pe := 24) hO [oI (.iinc 1 1) 1, o0 (.goto (-45))] (by decide +kernel) (show tWG K B 0 0 S I J 24 [some (vR 61), some (vI (v1 + 1)), some (vI v2)] [] from ?_)
    exact gWeak (L' := [some (vR 61), some (vI (v1 + 1)), none]) ⟨rfl, rfl, trivial⟩ (hkb24 _ _ _ h)
  · have h := h.2 c11
    refine gBk (pe := 57) hO [o0 (.aload_n 0), o0 (.iload_n 2)] (by decide +kernel) (show tWG K B 0 0 S I J 57 [some (vR 61), some (vI v1), some (vI v2)] [vI v2, vR 61] from ?_)
    refine gCVv_c hO (M12_learn t0 h) hc12_learn (idx := 512) (w := 1058) (by decide +kernel) hR (by omega) t0 ⟨by decide, rfl⟩ (vs := [vI v2]) (st := []) ⟨rfl, Nat.le_of_ble_eq_true rfl, rfl⟩ (by decide +kernel) (fun I12 J13 h => ?_)
    refine gBk (pe := 45) hO [oI (.iinc 2 1) 1, o0 (.goto (-18))] (by decide +kernel) (show tWG K B 0 0 S I12 J13 45 [some (vR 61), some (vI v1), some (vI (v2 + 1))] [] from ?_)
    exact hkb45 _ _ _ _ h
theorem W12_learning_L45 {K : tK} {B : tB} {S : tSH} {MC MS : Nat} (hO : tKO K B RX12 cX12_learning 3) (hR : kR K = tRm 9 MC MS) (hG : tGr S) {n : Nat} (t0 : ty S 61 12) {k : Int32 → tHI → tHJ → Prop} (hQ : tRet K B (tQi B (tPi S k)) 0 0 (some .int)) {kb24 : tHI → tHJ → Int32 → Prop} (hkb24 : ∀ (I : tHI) (J : tHJ) (v1 : Int32), kb24 I J v1 → tWG K B 0 0 S I J 24 [some (vR 61), some (vI v1), none] []) : ∀ (f : Nat) (I : tHI) (J : tHJ) (v1 : Int32) (v2 : Int32), F12_learning_L45 n S k kb24 f I J v1 v2 → tWG K B 0 0 S I J 45 [some (vR 61), some (vI v1), some (vI v2)] [] := by
  intro f
  induction f with
  | zero => intro I J v1 v2 h; exact h.elim
  | succ f ih => intro I J v1 v2 h; exact W12_learning_45 hO hR hG t0 hQ hkb24 ih h
set_option maxRecDepth 100000 in
theorem W12_learning_24 {K : tK} {B : tB} {S : tSH} {MC MS : Nat} (hO : tKO K B RX12 cX12_learning 3) (hR : kR K = tRm 9 MC MS) (hG : tGr S) {n : Nat} (t0 : ty S 61 12) {k : Int32 → tHI → tHJ → Prop} (hQ : tRet K B (tQi B (tPi S k)) 0 0 (some .int)) {kb24 : tHI → tHJ → Int32 → Prop} (hkb24 : ∀ (I : tHI) (J : tHJ) (v1 : Int32), kb24 I J v1 → tWG K B 0 0 S I J 24 [some (vR 61), some (vI v1), none] []) {I : tHI} {J : tHJ} {v1 : Int32} (h : F12_learning_24 n S k kb24 I J v1) : tWG K B 0 0 S I J 24 [some (vR 61), some (vI v1), none] [] := by
  refine gBk (pe := 33) hO [o0 (.aload_n 0), oF (.getfield 13) 12 3 179 63, oI (.bipush 13) 13, o0 .iaload, oI (.bipush 100) 100] (by decide +kernel) (And.intro t0 (And.intro rfl (And.intro (tGr.off hG t0 (k := 3) rfl) (And.intro (tin (tGr.len hG t0 (k := 3) rfl (by decide)) (tvi (by decide +kernel))) (show tWG K B 0 0 S I J 33 [some (vR 61), some (vI v1), none] [vI 100, vI (I 63 13)] from ?_)))))
  refine gIcGe hO (off := 39) (tgt := 72) (by decide +kernel) (by decide) (fun c4 => ?_) (fun c4 => ?_)
  · have h := h.1 c4
    exact W12_learning_72 hO hR hG t0 hQ h
  · have h := h.2 c4
    refine gBk (pe := 40) hO [o0 (.iload_n 1), oI (.sipush 1000) 1000] (by decide +kernel) (show tWG K B 0 0 S I J 40 [some (vR 61), some (vI v1), none] [vI 1000, vI v1] from ?_)
    refine gIcGe hO (off := 32) (tgt := 72) (by decide +kernel) (by decide) (fun c10 => ?_) (fun c10 => ?_)
    · have h := h.1 c10
      exact W12_learning_72 hO hR hG t0 hQ h
    · have h := h.2 c10
      refine gBk (pe := 45) hO [oI (.iconst 0) 0, o0 (.istore_n 2)] (by decide +kernel) (And.intro (Nat.le_of_ble_eq_true rfl) (show tWG K B 0 0 S I J 45 [some (vR 61), some (vI v1), some (vI 0)] [] from ?_))
      exact W12_learning_L45 hO hR hG t0 hQ hkb24 n _ _ _ _ h
theorem W12_learning_L24 {K : tK} {B : tB} {S : tSH} {MC MS : Nat} (hO : tKO K B RX12 cX12_learning 3) (hR : kR K = tRm 9 MC MS) (hG : tGr S) {n : Nat} (t0 : ty S 61 12) {k : Int32 → tHI → tHJ → Prop} (hQ : tRet K B (tQi B (tPi S k)) 0 0 (some .int)) : ∀ (f : Nat) (I : tHI) (J : tHJ) (v1 : Int32), F12_learning_L24 n S k f I J v1 → tWG K B 0 0 S I J 24 [some (vR 61), some (vI v1), none] [] := by
  intro f
  induction f with
  | zero => intro I J v1 h; exact h.elim
  | succ f ih => intro I J v1 h; exact W12_learning_24 hO hR hG t0 hQ ih h
set_option maxRecDepth 20000 in
theorem hc12_learning : tCV yX12_learning cX12_learning 3 (some .int) 0 := ⟨⟨(List.mem_of_getElem? (i := 1356) rfl), (List.mem_of_getElem? (i := 5) (by decide +kernel)), by decide +kernel⟩, (List.mem_of_getElem? (i := 1354) (by decide +kernel)), (List.mem_of_getElem? (i := 1355) (by decide +kernel))⟩
set_option maxRecDepth 100000 in
theorem M12_learning {l : Launch} {B : tB} {S : tSH} {I : tHI} {J : tHJ} {n : Nat} {k : Int32 → tHI → tHJ → Prop} (t0 : ty S 61 12) (h : F12_learning n S I J k) : Met l yX12_learning (tWs yX12_learning cX12_learning 3 (some .int)) (tRm 9 0 0) (tPc B [vR 61] S I J) (tQi B (tPi S k)) 0 0 (tA B) :=
  tEntry (by decide +kernel) [some (vR 61), none, none] rfl rfl (Nat.le_of_ble_eq_true rfl) (fun K hl hR hO hQ hG => by
  subst hl
  refine gBk (pe := 11) hO [o0 (.aload_n 0), oI (.iconst 0) 0, oF (.putfield 161) 12 0 316 0, o0 (.aload_n 0), oF (.getfield 13) 12 3 179 63, oI (.iconst 1) 1, o0 .iaload] (by decide +kernel) (And.intro t0 (And.intro t0 (And.intro rfl (And.intro (tGr.off hG t0 (k := 3) rfl) (And.intro (tin (tGr.len hG t0 (k := 3) rfl (by decide)) (tvi (by decide +kernel))) (show tWG K B 0 0 S (uI I 61 0 0) J 11 [some (vR 61), none, none] [vI ((uI I 61 0 0) 63 1)] from ?_))))))
  refine gIfNe hO (off := 5) (tgt := 16) (by decide +kernel) (by decide) (fun c1 => ?_) (fun c1 => ?_)
  · have h := h.1 c1
    refine gBk (pe := 19) hO [o0 (.aload_n 0), oI (.bipush 16) 16] (by decide +kernel) (show tWG K B 0 0 S (uI I 61 0 0) J 19 [some (vR 61), none, none] [vI 16, vR 61] from ?_)
    refine gCVv_c hO (M12_keepAll t0 h) hc12_keepAll (idx := 174) (w := 997) (by decide +kernel) hR (by omega) t0 ⟨by decide, rfl⟩ (vs := [vI 16]) (st := []) ⟨rfl, Nat.le_of_ble_eq_true rfl, rfl⟩ (by decide +kernel) (fun I2 J3 h => ?_)
    refine gBk (pe := 24) hO [oI (.iconst 0) 0, o0 (.istore_n 1)] (by decide +kernel) (And.intro (Nat.le_of_ble_eq_true rfl) (show tWG K B 0 0 S I2 J3 24 [some (vR 61), some (vI 0), none] [] from ?_))
    exact W12_learning_L24 hO hR hG t0 hQ n _ _ _ h
  · have h := h.2 c1
    refine gBk (pe := 15) hO [oI (.iconst (-1)) (-1)] (by decide +kernel) (show tWG K B 0 0 S (uI I 61 0 0) J 15 [some (vR 61), none, none] [vI (-1)] from ?_)
    exact gIret hO hQ (by decide +kernel) ⟨rfl, h⟩)
set_option maxRecDepth 100000 in
theorem W12_sight_27 {K : tK} {B : tB} {S : tSH} {MC MS : Nat} (hO : tKO K B RX12 cX12_sight 5) (hR : kR K = tRm 4 MC MS) (hG : tGr S) {n : Nat} (t0 : ty S 61 12) {k : Int32 → tHI → tHJ → Prop} (hQ : tRet K B (tQi B (tPi S k)) 0 0 (some .int)) {I : tHI} {J : tHJ} (h : F12_sight_27 n S k I J) : tWG K B 0 0 S I J 27 [some (vR 61), none, none, none, none] [] := by
  refine gBk (pe := 29) hO [o0 (.aload_n 0), oI (.iconst (-1)) (-1)] (by decide +kernel) (show tWG K B 0 0 S I J 29 [some (vR 61), none, none, none, none] [vI (-1), vR 61] from ?_)
  refine gCVi_c hO (M12_tell t0 h) hc12_tell (idx := 170) (w := 322) (by decide +kernel) hR (by omega) t0 ⟨by decide, rfl⟩ (vs := [vI (-1)]) (st := []) ⟨rfl, Nat.le_of_ble_eq_true rfl, rfl⟩ (by decide +kernel) (fun x5 I3 J4 h => ?_)
  exact gIret hO hQ (by decide +kernel) ⟨rfl, h⟩
set_option maxRecDepth 20000 in
theorem hc12_sight : tCV yX12_sight cX12_sight 5 (some .int) 3 := ⟨⟨(List.mem_of_getElem? (i := 1368) rfl), (List.mem_of_getElem? (i := 5) (by decide +kernel)), by decide +kernel⟩, (List.mem_of_getElem? (i := 1366) (by decide +kernel)), (List.mem_of_getElem? (i := 1367) (by decide +kernel))⟩
set_option maxRecDepth 100000 in
theorem M12_sight {l : Launch} {B : tB} {S : tSH} {I : tHI} {J : tHJ} {v1 : Int32} {v2 : Int32} {v3 : Int32} {n : Nat} {k : Int32 → tHI → tHJ → Prop} (t0 : ty S 61 12) (h : F12_sight n S I J v1 v2 v3 k) : Met l yX12_sight (tWs yX12_sight cX12_sight 5 (some .int)) (tRm 4 0 0) (tPc B [vR 61, vI v1, vI v2, vI v3] S I J) (tQi B (tPi S k)) 0 0 (tA B) :=
  tEntry (by decide +kernel) [some (vR 61), some (vI v1), some (vI v2), some (vI v3), none] rfl rfl (Nat.le_of_ble_eq_true rfl) (fun K hl hR hO hQ hG => by
  subst hl
  refine gBk (pe := 8) hO [o0 (.aload_n 0), oI (.iconst 0) 0, oF (.putfield 161) 12 0 316 0, o0 (.iload_n 2), o0 .i2l, oJ (.lconst 1) 0 1] (by decide +kernel) (And.intro t0 (show tWG K B 0 0 S (uI I 61 0 0) J 8 [some (vR 61), some (vI v1), some (vI v2), some (vI v3), none] [vL 1, vL v2.toInt64] from ?_))
  refine gBk (pe := 11) hO [(.ldc2_w 247, (0, 0, 517, 0), 0, 60)] (by decide +kernel) (show tWG K B 0 0 S (uI I 61 0 0) J 11 [some (vR 61), some (vI v1), some (vI v2), some (vI v3), none] [vL 60, vL 1, vL v2.toInt64] from ?_)
  refine gCSi_z hO (M12_in) hc12_in (idx := 181) (w := 319) (by decide +kernel) hR (by omega) (vs := [vL v2.toInt64, vL 1, vL 60]) (st := []) ⟨rfl, Nat.le_of_ble_eq_true rfl, rfl⟩ (by decide +kernel) (fun z1 => ?_)
  refine gIfEq hO (off := 13) (tgt := 27) (by decide +kernel) (by decide) (fun c2 => ?_) (fun c2 => ?_)
  · have h := h.1 c2
    exact gWeak (L' := [some (vR 61), none, none, none, none]) ⟨rfl, trivial⟩ (W12_sight_27 hO hR hG t0 hQ h)
  · have h := h.2 c2
    refine gBk (pe := 21) hO [o0 (.iload_n 3), o0 .i2l, oJ (.lconst 0) 0 0, oJ (.lconst 1) 0 1] (by decide +kernel) (show tWG K B 0 0 S (uI I 61 0 0) J 21 [some (vR 61), some (vI v1), some (vI v2), some (vI v3), none] [vL 1, vL 0, vL v3.toInt64] from ?_)
    refine gCSi_z hO (M12_in) hc12_in (idx := 181) (w := 319) (by decide +kernel) hR (by omega) (vs := [vL v3.toInt64, vL 0, vL 1]) (st := []) ⟨rfl, Nat.le_of_ble_eq_true rfl, rfl⟩ (by decide +kernel) (fun z6 => ?_)
    refine gIfNe hO (off := 9) (tgt := 33) (by decide +kernel) (by decide) (fun c7 => ?_) (fun c7 => ?_)
    · have h := h.1 c7
      refine gBk (pe := 35) hO [o0 (.aload_n 0), o0 (.iload_n 1)] (by decide +kernel) (show tWG K B 0 0 S (uI I 61 0 0) J 35 [some (vR 61), some (vI v1), some (vI v2), some (vI v3), none] [vI v1, vR 61] from ?_)
      refine gCVi_z hO (M12_isBend t0) hc12_isBend (idx := 220) (w := 352) (by decide +kernel) hR (by omega) t0 ⟨by decide, rfl⟩ (vs := [vI v1]) (st := []) ⟨rfl, Nat.le_of_ble_eq_true rfl, rfl⟩ (by decide +kernel) (fun z8 => ?_)
      refine gIfNe hO (off := 10) (tgt := 48) (by decide +kernel) (by decide) (fun c9 => ?_) (fun c9 => ?_)
      · have h := h.1 c9
        refine gBk (pe := 60) hO [o0 (.aload_n 0), oF (.getfield 13) 12 3 179 63, oI (.iconst 2) 2, o0 .iaload, o0 (.istore 4), o0 (.iload 4), oI (.bipush 8) 8] (by decide +kernel) (And.intro t0 (And.intro rfl (And.intro (tGr.off hG t0 (k := 3) rfl) (And.intro (tin (tGr.len hG t0 (k := 3) rfl (by decide)) (tvi (by decide +kernel))) (And.intro (Nat.le_of_ble_eq_true rfl) (show tWG K B 0 0 S (uI I 61 0 0) J 60 [some (vR 61), some (vI v1), some (vI v2), some (vI v3), some (vI ((uI I 61 0 0) 63 2))] [vI 8, vI ((uI I 61 0 0) 63 2)] from ?_))))))
        refine gIcNe hO (off := 10) (tgt := 70) (by decide +kernel) (by decide) (fun c10 => ?_) (fun c10 => ?_)
        · have h := h.1 c10
          refine gBk (pe := 128) hO [o0 (.aload_n 0), oF (.getfield 13) 12 3 179 63, oI (.bipush 86) 86, oI (.iconst 3) 3, o0 (.iload 4), o0 .imul, o0 .iadd, o0 (.iload_n 1), o0 .iastore, o0 (.aload_n 0), oF (.getfield 13) 12 3 179 63, oI (.bipush 86) 86, oI (.iconst 3) 3, o0 (.iload 4), o0 .imul, o0 .iadd, oI (.iconst 1) 1, o0 .iadd, o0 (.iload_n 2), o0 .iastore, o0 (.aload_n 0), oF (.getfield 13) 12 3 179 63, oI (.bipush 86) 86, oI (.iconst 3) 3, o0 (.iload 4), o0 .imul, o0 .iadd, oI (.iconst 2) 2, o0 .iadd, o0 (.iload_n 3), o0 .iastore, o0 (.aload_n 0), oF (.getfield 13) 12 3 179 63, oI (.iconst 2) 2, o0 .dup2, o0 .iaload, oI (.iconst 1) 1, o0 .iadd, o0 .iastore, o0 (.aload_n 0), o0 (.iload 4), oI (.iconst 1) 1, o0 .iadd] (by decide +kernel) (And.intro t0 (And.intro rfl (And.intro (tGr.off hG t0 (k := 3) rfl) (And.intro (tin (tGr.len hG t0 (k := 3) rfl (by decide)) h.1) (And.intro t0 (And.intro rfl (And.intro (tGr.off hG t0 (k := 3) rfl) (And.intro (tin (tGr.len hG t0 (k := 3) rfl (by decide)) h.2.1) (And.intro t0 (And.intro rfl (And.intro (tGr.off hG t0 (k := 3) rfl) (And.intro (tin (tGr.len hG t0 (k := 3) rfl (by decide)) h.2.2.1) (And.intro t0 (And.intro rfl (And.intro (tGr.off hG t0 (k := 3) rfl) (And.intro (tin (tGr.len hG t0 (k := 3) rfl (by decide)) (tvi (by decide +kernel))) (And.intro (tGr.off hG t0 (k := 3) rfl) (And.intro (tin (tGr.len hG t0 (k := 3) rfl (by decide)) (tvi (by decide +kernel))) (show tWG K B 0 0 S (uI (uI (uI (uI (uI I 61 0 0) 63 (86 + (3 * ((uI I 61 0 0) 63 2))).toNatClampNeg v1) 63 ((86 + (3 * ((uI I 61 0 0) 63 2))) + 1).toNatClampNeg v2) 63 ((86 + (3 * ((uI I 61 0 0) 63 2))) + 2).toNatClampNeg v3) 63 2 (((uI (uI (uI (uI I 61 0 0) 63 (86 + (3 * ((uI I 61 0 0) 63 2))).toNatClampNeg v1) 63 ((86 + (3 * ((uI I 61 0 0) 63 2))) + 1).toNatClampNeg v2) 63 ((86 + (3 * ((uI I 61 0 0) 63 2))) + 2).toNatClampNeg v3) 63 2) + 1)) J 128 [some (vR 61), some (vI v1), some (vI v2), some (vI v3), some (vI ((uI I 61 0 0) 63 2))] [vI (((uI I 61 0 0) 63 2) + 1), vR 61] from ?_)))))))))))))))))))
          have h := h.2.2.2
          refine gCVi_c hO (M12_tell t0 h) hc12_tell (idx := 170) (w := 322) (by decide +kernel) hR (by omega) t0 ⟨by decide, rfl⟩ (vs := [vI (((uI I 61 0 0) 63 2) + 1)]) (st := []) ⟨rfl, Nat.le_of_ble_eq_true rfl, rfl⟩ (by decide +kernel) (fun x13 I11 J12 h => ?_)
          exact gIret hO hQ (by decide +kernel) ⟨rfl, h⟩
        · have h := h.2 c10
          refine gBk (pe := 66) hO [o0 (.aload_n 0), oI (.bipush (-5)) (-5)] (by decide +kernel) (show tWG K B 0 0 S (uI I 61 0 0) J 66 [some (vR 61), some (vI v1), some (vI v2), some (vI v3), some (vI ((uI I 61 0 0) 63 2))] [vI (-5), vR 61] from ?_)
          refine gCVi_c hO (M12_tell t0 h) hc12_tell (idx := 170) (w := 322) (by decide +kernel) hR (by omega) t0 ⟨by decide, rfl⟩ (vs := [vI (-5)]) (st := []) ⟨rfl, Nat.le_of_ble_eq_true rfl, rfl⟩ (by decide +kernel) (fun x16 I14 J15 h => ?_)
          exact gIret hO hQ (by decide +kernel) ⟨rfl, h⟩
      · have h := h.2 c9
        refine gBk (pe := 44) hO [o0 (.aload_n 0), oI (.bipush (-2)) (-2)] (by decide +kernel) (show tWG K B 0 0 S (uI I 61 0 0) J 44 [some (vR 61), some (vI v1), some (vI v2), some (vI v3), none] [vI (-2), vR 61] from ?_)
        refine gCVi_c hO (M12_tell t0 h) hc12_tell (idx := 170) (w := 322) (by decide +kernel) hR (by omega) t0 ⟨by decide, rfl⟩ (vs := [vI (-2)]) (st := []) ⟨rfl, Nat.le_of_ble_eq_true rfl, rfl⟩ (by decide +kernel) (fun x19 I17 J18 h => ?_)
        exact gIret hO hQ (by decide +kernel) ⟨rfl, h⟩
    · have h := h.2 c7
      exact gWeak (L' := [some (vR 61), none, none, none, none]) ⟨rfl, trivial⟩ (W12_sight_27 hO hR hG t0 hQ h))
set_option maxRecDepth 20000 in
theorem hc12_forget : tCV yX12_forget cX12_forget 2 (some .int) 0 := ⟨⟨(List.mem_of_getElem? (i := 1376) rfl), (List.mem_of_getElem? (i := 5) (by decide +kernel)), by decide +kernel⟩, (List.mem_of_getElem? (i := 1374) (by decide +kernel)), (List.mem_of_getElem? (i := 1375) (by decide +kernel))⟩
set_option maxRecDepth 100000 in
theorem M12_forget {l : Launch} {B : tB} {S : tSH} {I : tHI} {J : tHJ} {n : Nat} {k : Int32 → tHI → tHJ → Prop} (t0 : ty S 61 12) (h : F12_forget n S I J k) : Met l yX12_forget (tWs yX12_forget cX12_forget 2 (some .int)) (tRm 2 0 0) (tPc B [vR 61] S I J) (tQi B (tPi S k)) 0 0 (tA B) :=
  tEntry (by decide +kernel) [some (vR 61), none] rfl rfl (Nat.le_of_ble_eq_true rfl) (fun K hl hR hO hQ hG => by
  subst hl
  refine gBk (pe := 20) hO [o0 (.aload_n 0), oI (.iconst 0) 0, oF (.putfield 161) 12 0 316 0, o0 (.aload_n 0), oF (.getfield 13) 12 3 179 63, oI (.iconst 2) 2, o0 .iaload, o0 (.istore_n 1), o0 (.aload_n 0), oF (.getfield 13) 12 3 179 63, oI (.iconst 2) 2, oI (.iconst 0) 0, o0 .iastore, o0 (.iload_n 1)] (by decide +kernel) (And.intro t0 (And.intro t0 (And.intro rfl (And.intro (tGr.off hG t0 (k := 3) rfl) (And.intro (tin (tGr.len hG t0 (k := 3) rfl (by decide)) (tvi (by decide +kernel))) (And.intro (Nat.le_of_ble_eq_true rfl) (And.intro t0 (And.intro rfl (And.intro (tGr.off hG t0 (k := 3) rfl) (And.intro (tin (tGr.len hG t0 (k := 3) rfl (by decide)) (tvi (by decide +kernel))) (show tWG K B 0 0 S (uI (uI I 61 0 0) 63 2 0) J 20 [some (vR 61), some (vI ((uI I 61 0 0) 63 2))] [vI ((uI I 61 0 0) 63 2)] from ?_)))))))))))
  exact gIret hO hQ (by decide +kernel) ⟨rfl, h⟩)
set_option maxRecDepth 100000 in
theorem W12_aboard_124 {K : tK} {B : tB} {S : tSH} {MC MS : Nat} (hO : tKO K B RX12 cX12_aboard 8) (hR : kR K = tRm 9 MC MS) (hG : tGr S) {n : Nat} (t0 : ty S 61 12) {k : Int32 → tHI → tHJ → Prop} (hQ : tRet K B (tQi B (tPi S k)) 0 0 (some .int)) {kb12 : tHI → tHJ → Int32 → Int32 → Int32 → Int32 → Prop} (hkb12 : ∀ (I : tHI) (J : tHJ) (v1 : Int32) (v2 : Int32) (v3 : Int32) (v4 : Int32), kb12 I J v1 v2 v3 v4 → tWG K B 0 0 S I J 12 [some (vR 61), some (vI v1), some (vI v2), some (vI v3), some (vI v4), none, none, none] []) {I : tHI} {J : tHJ} {v1 : Int32} {v2 : Int32} {v3 : Int32} {v4 : Int32} {v5 : Int32} (h : F12_aboard_124 n S k kb12 I J v1 v2 v3 v4 v5) : tWG K B 0 0 S I J 124 [some (vR 61), some (vI v1), some (vI v2), some (vI v3), some (vI v4), some (vI v5), none, none] [] := by
  refine gBk (pe := 126) hO [o0 (.iload 5)] (by decide +kernel) (show tWG K B 0 0 S I J 126 [some (vR 61), some (vI v1), some (vI v2), some (vI v3), some (vI v4), some (vI v5), none, none] [vI v5] from ?_)
  have hj6 : ∀ (m7 : Int32) (m8 : Int32), m7 = (if v5 = 0 then v2 else (v2 + 1)) → m8 = (if v5 = 0 then v3 else (if v2 = v1 then v4 else v3)) → tWG K B 0 0 S I J 144 [some (vR 61), some (vI v1), some (vI m7), some (vI m8), some (vI v4), none, none, none] [] := by
    intro m7 m8 em7 em8
    subst em7
    subst em8
    refine gBk (pe := 12) hO [oI (.iinc 4 1) 1, o0 (.goto (-135))] (by decide +kernel) (show tWG K B 0 0 S I J 12 [some (vR 61), some (vI v1), some (vI (if v5 = 0 then v2 else (v2 + 1))), some (vI (if v5 = 0 then v3 else (if v2 = v1 then v4 else v3))), some (vI (v4 + 1)), none, none, none] [] from ?_)
    exact hkb12 _ _ _ _ _ _ h
  refine gIfEq hO (off := 18) (tgt := 144) (by decide +kernel) (by decide) (fun c9 => ?_) (fun c9 => ?_)
  · exact gWeak (L' := [some (vR 61), some (vI v1), some (vI v2), some (vI v3), some (vI v4), none, none, none]) ⟨rfl, rfl, rfl, rfl, rfl, trivial⟩ (hj6 _ _ (Eq.symm (if_pos c9)) (Eq.symm (if_pos c9)))
  · refine gBk (pe := 131) hO [o0 (.iload_n 2), o0 (.iload_n 1)] (by decide +kernel) (show tWG K B 0 0 S I J 131 [some (vR 61), some (vI v1), some (vI v2), some (vI v3), some (vI v4), some (vI v5), none, none] [vI v1, vI v2] from ?_)
    refine gIcNe hO (off := 8) (tgt := 139) (by decide +kernel) (by decide) (fun c10 => ?_) (fun c10 => ?_)
    · refine gBk (pe := 144) hO [o0 (.iload_n 3), o0 (.istore_n 3), oI (.iinc 2 1) 1] (by decide +kernel) (And.intro (Nat.le_of_ble_eq_true rfl) (show tWG K B 0 0 S I J 144 [some (vR 61), some (vI v1), some (vI (v2 + 1)), some (vI v3), some (vI v4), some (vI v5), none, none] [] from ?_))
      exact gWeak (L' := [some (vR 61), some (vI v1), some (vI (v2 + 1)), some (vI v3), some (vI v4), none, none, none]) ⟨rfl, rfl, rfl, rfl, rfl, trivial⟩ (hj6 _ _ (Eq.symm (if_neg c9)) (Eq.symm ((if_neg c9).trans (if_neg c10))))
    · refine gBk (pe := 144) hO [o0 (.iload 4), o0 (.goto 4), o0 (.istore_n 3), oI (.iinc 2 1) 1] (by decide +kernel) (And.intro (Nat.le_of_ble_eq_true rfl) (show tWG K B 0 0 S I J 144 [some (vR 61), some (vI v1), some (vI (v2 + 1)), some (vI v4), some (vI v4), some (vI v5), none, none] [] from ?_))
      exact gWeak (L' := [some (vR 61), some (vI v1), some (vI (v2 + 1)), some (vI v4), some (vI v4), none, none, none]) ⟨rfl, rfl, rfl, rfl, rfl, trivial⟩ (hj6 _ _ (Eq.symm (if_neg c9)) (Eq.symm ((if_neg c9).trans (if_pos c10))))
set_option maxRecDepth 100000 in
theorem W12_aboard_37 {K : tK} {B : tB} {S : tSH} {MC MS : Nat} (hO : tKO K B RX12 cX12_aboard 8) (hR : kR K = tRm 9 MC MS) (hG : tGr S) {n : Nat} (t0 : ty S 61 12) {k : Int32 → tHI → tHJ → Prop} (hQ : tRet K B (tQi B (tPi S k)) 0 0 (some .int)) {kb12 : tHI → tHJ → Int32 → Int32 → Int32 → Int32 → Prop} (hkb12 : ∀ (I : tHI) (J : tHJ) (v1 : Int32) (v2 : Int32) (v3 : Int32) (v4 : Int32), kb12 I J v1 v2 v3 v4 → tWG K B 0 0 S I J 12 [some (vR 61), some (vI v1), some (vI v2), some (vI v3), some (vI v4), none, none, none] []) {kb37 : tHI → tHJ → Int32 → Int32 → Int32 → Int32 → Int32 → Int32 → Prop} (hkb37 : ∀ (I : tHI) (J : tHJ) (v1 : Int32) (v2 : Int32) (v3 : Int32) (v4 : Int32) (v5 : Int32) (v6 : Int32), kb37 I J v1 v2 v3 v4 v5 v6 → tWG K B 0 0 S I J 37 [some (vR 61), some (vI v1), some (vI v2), some (vI v3), some (vI v4), some (vI v5), some (vI v6), none] []) {I : tHI} {J : tHJ} {v1 : Int32} {v2 : Int32} {v3 : Int32} {v4 : Int32} {v5 : Int32} {v6 : Int32} (h : F12_aboard_37 n S k kb12 kb37 I J v1 v2 v3 v4 v5 v6) : tWG K B 0 0 S I J 37 [some (vR 61), some (vI v1), some (vI v2), some (vI v3), some (vI v4), some (vI v5), some (vI v6), none] [] := by
  refine gBk (pe := 45) hO [o0 (.iload 6), o0 (.aload_n 0), oF (.getfield 13) 12 3 179 63, oI (.iconst 2) 2, o0 .iaload] (by decide +kernel) (And.intro t0 (And.intro rfl (And.intro (tGr.off hG t0 (k := 3) rfl) (And.intro (tin (tGr.len hG t0 (k := 3) rfl (by decide)) (tvi (by decide +kernel))) (show tWG K B 0 0 S I J 45 [some (vR 61), some (vI v1), some (vI v2), some (vI v3), some (vI v4), some (vI v5), some (vI v6), none] [vI (I 63 2), vI v6] from ?_)))))
  refine gIcGe hO (off := 79) (tgt := 124) (by decide +kernel) (by decide) (fun c5 => ?_) (fun c5 => ?_)
  · have h := h.1 c5
    exact gWeak (L' := [some (vR 61), some (vI v1), some (vI v2), some (vI v3), some (vI v4), some (vI v5), none, none]) ⟨rfl, rfl, rfl, rfl, rfl, rfl, trivial⟩ (W12_aboard_124 hO hR hG t0 hQ hkb12 h)
  · have h := h.2 c5
    refine gBk (pe := 50) hO [o0 (.iload 5)] (by decide +kernel) (show tWG K B 0 0 S I J 50 [some (vR 61), some (vI v1), some (vI v2), some (vI v3), some (vI v4), some (vI v5), some (vI v6), none] [vI v5] from ?_)
    refine gIfEq hO (off := 74) (tgt := 124) (by decide +kernel) (by decide) (fun c11 => ?_) (fun c11 => ?_)
    · have h := h.1 c11
      exact gWeak (L' := [some (vR 61), some (vI v1), some (vI v2), some (vI v3), some (vI v4), some (vI v5), none, none]) ⟨rfl, rfl, rfl, rfl, rfl, rfl, trivial⟩ (W12_aboard_124 hO hR hG t0 hQ hkb12 h)
    · have h := h.2 c11
      refine gBk (pe := 79) hO [oI (.bipush 86) 86, oI (.iconst 3) 3, o0 (.iload 6), o0 .imul, o0 .iadd, o0 (.istore 7), o0 (.aload_n 0), o0 (.aload_n 0), oF (.getfield 13) 12 3 179 63, o0 (.iload 7), o0 .iaload, o0 (.aload_n 0), oF (.getfield 13) 12 3 179 63, o0 (.iload 7), oI (.iconst 1) 1, o0 .iadd, o0 .iaload] (by decide +kernel) (And.intro (Nat.le_of_ble_eq_true rfl) (And.intro t0 (And.intro rfl (And.intro (tGr.off hG t0 (k := 3) rfl) (And.intro (tin (tGr.len hG t0 (k := 3) rfl (by decide)) h.1) (And.intro t0 (And.intro rfl (And.intro (tGr.off hG t0 (k := 3) rfl) (And.intro (tin (tGr.len hG t0 (k := 3) rfl (by decide)) h.2.1) (show tWG K B 0 0 S I J 79 [some (vR 61), some (vI v1), some (vI v2), some (vI v3), some (vI v4), some (vI v5), some (vI v6), some (vI (86 + (3 * v6)))] [vI (I 63 ((86 + (3 * v6)) + 1).toNatClampNeg), vI (I 63 (86 + (3 * v6)).toNatClampNeg), vR 61] from ?_))))))))))
      have h := h.2.2
      refine gCVi_c hO (M12_goesNow t0 h) hc12_goesNow (idx := 478) (w := 1051) (by decide +kernel) hR (by omega) t0 ⟨by decide, rfl⟩ (vs := [vI (I 63 (86 + (3 * v6)).toNatClampNeg), vI (I 63 ((86 + (3 * v6)) + 1).toNatClampNeg)]) (st := []) ⟨rfl, Nat.le_of_ble_eq_true rfl, rfl⟩ (by decide +kernel) (fun x14 I12 J13 h => ?_)
      have hj15 : ∀ (m16 : Int32), m16 = (if x14 = 0 then (1 : Int32) else 0) → tWG K B 0 0 S I12 J13 90 [some (vR 61), some (vI v1), some (vI v2), some (vI v3), some (vI v4), none, some (vI v6), some (vI (86 + (3 * v6)))] [vI m16] := by
        intro m16 em16
        subst em16
        refine gBk (pe := 100) hO [o0 (.aload_n 0), oF (.getfield 13) 12 3 179 63, o0 (.iload 7), oI (.iconst 2) 2, o0 .iadd, o0 .iaload, oI (.iconst 1) 1] (by decide +kernel) (And.intro t0 (And.intro rfl (And.intro (tGr.off hG t0 (k := 3) rfl) (And.intro (tin (tGr.len hG t0 (k := 3) rfl (by decide)) h.1) (show tWG K B 0 0 S I12 J13 100 [some (vR 61), some (vI v1), some (vI v2), some (vI v3), some (vI v4), none, some (vI v6), some (vI (86 + (3 * v6)))] [vI 1, vI (I12 63 ((86 + (3 * v6)) + 2).toNatClampNeg), vI (if x14 = 0 then (1 : Int32) else 0)] from ?_)))))
        have h := h.2
        have hj18 : ∀ (m19 : Int32), m19 = (if (I12 63 ((86 + (3 * v6)) + 2).toNatClampNeg) = 1 then (1 : Int32) else 0) → tWG K B 0 0 S I12 J13 108 [some (vR 61), some (vI v1), some (vI v2), some (vI v3), some (vI v4), none, some (vI v6), none] [vI m19, vI (if x14 = 0 then (1 : Int32) else 0)] := by
          intro m19 em19
          subst em19
          have hj21 : ∀ (m22 : Int32), m22 = (if (if x14 = 0 then (1 : Int32) else 0) = (if (I12 63 ((86 + (3 * v6)) + 2).toNatClampNeg) = 1 then (1 : Int32) else 0) then (1 : Int32) else 0) → tWG K B 0 0 S I12 J13 116 [some (vR 61), some (vI v1), some (vI v2), some (vI v3), some (vI v4), none, some (vI v6), none] [vI m22] := by
            intro m22 em22
            subst em22
            refine gBk (pe := 37) hO [o0 (.istore 5), oI (.iinc 6 1) 1, o0 (.goto (-84))] (by decide +kernel) (And.intro (Nat.le_of_ble_eq_true rfl) (show tWG K B 0 0 S I12 J13 37 [some (vR 61), some (vI v1), some (vI v2), some (vI v3), some (vI v4), some (vI (if (if x14 = 0 then (1 : Int32) else 0) = (if (I12 63 ((86 + (3 * v6)) + 2).toNatClampNeg) = 1 then (1 : Int32) else 0) then (1 : Int32) else 0)), some (vI (v6 + 1)), none] [] from ?_))
            exact hkb37 _ _ _ _ _ _ _ _ h
          refine gIcNe hO (off := 7) (tgt := 115) (by decide +kernel) (by decide) (fun c23 => ?_) (fun c23 => ?_)
          · refine gBk (pe := 116) hO [oI (.iconst 0) 0] (by decide +kernel) (show tWG K B 0 0 S I12 J13 116 [some (vR 61), some (vI v1), some (vI v2), some (vI v3), some (vI v4), none, some (vI v6), none] [vI 0] from ?_)
            exact (hj21 _ (Eq.symm (if_neg c23)))
          · refine gBk (pe := 116) hO [oI (.iconst 1) 1, o0 (.goto 4)] (by decide +kernel) (show tWG K B 0 0 S I12 J13 116 [some (vR 61), some (vI v1), some (vI v2), some (vI v3), some (vI v4), none, some (vI v6), none] [vI 1] from ?_)
            exact (hj21 _ (Eq.symm (if_pos c23)))
        refine gIcNe hO (off := 7) (tgt := 107) (by decide +kernel) (by decide) (fun c20 => ?_) (fun c20 => ?_)
        · refine gBk (pe := 108) hO [oI (.iconst 0) 0] (by decide +kernel) (show tWG K B 0 0 S I12 J13 108 [some (vR 61), some (vI v1), some (vI v2), some (vI v3), some (vI v4), none, some (vI v6), some (vI (86 + (3 * v6)))] [vI 0, vI (if x14 = 0 then (1 : Int32) else 0)] from ?_)
          exact gWeak (L' := [some (vR 61), some (vI v1), some (vI v2), some (vI v3), some (vI v4), none, some (vI v6), none]) ⟨rfl, rfl, rfl, rfl, rfl, rfl, trivial⟩ (hj18 _ (Eq.symm (if_neg c20)))
        · refine gBk (pe := 108) hO [oI (.iconst 1) 1, o0 (.goto 4)] (by decide +kernel) (show tWG K B 0 0 S I12 J13 108 [some (vR 61), some (vI v1), some (vI v2), some (vI v3), some (vI v4), none, some (vI v6), some (vI (86 + (3 * v6)))] [vI 1, vI (if x14 = 0 then (1 : Int32) else 0)] from ?_)
          exact gWeak (L' := [some (vR 61), some (vI v1), some (vI v2), some (vI v3), some (vI v4), none, some (vI v6), none]) ⟨rfl, rfl, rfl, rfl, rfl, rfl, trivial⟩ (hj18 _ (Eq.symm (if_pos c20)))
      refine gIfNe hO (off := 7) (tgt := 89) (by decide +kernel) (by decide) (fun c17 => ?_) (fun c17 => ?_)
      · refine gBk (pe := 90) hO [oI (.iconst 0) 0] (by decide +kernel) (show tWG K B 0 0 S I12 J13 90 [some (vR 61), some (vI v1), some (vI v2), some (vI v3), some (vI v4), some (vI v5), some (vI v6), some (vI (86 + (3 * v6)))] [vI 0] from ?_)
        exact gWeak (L' := [some (vR 61), some (vI v1), some (vI v2), some (vI v3), some (vI v4), none, some (vI v6), some (vI (86 + (3 * v6)))]) ⟨rfl, rfl, rfl, rfl, rfl, rfl, rfl, trivial⟩ (hj15 _ (Eq.symm (if_neg c17)))
      · refine gBk (pe := 90) hO [oI (.iconst 1) 1, o0 (.goto 4)] (by decide +kernel) (show tWG K B 0 0 S I12 J13 90 [some (vR 61), some (vI v1), some (vI v2), some (vI v3), some (vI v4), some (vI v5), some (vI v6), some (vI (86 + (3 * v6)))] [vI 1] from ?_)
        exact gWeak (L' := [some (vR 61), some (vI v1), some (vI v2), some (vI v3), some (vI v4), none, some (vI v6), some (vI (86 + (3 * v6)))]) ⟨rfl, rfl, rfl, rfl, rfl, rfl, rfl, trivial⟩ (hj15 _ (Eq.symm (if_pos c17)))
theorem W12_aboard_L37 {K : tK} {B : tB} {S : tSH} {MC MS : Nat} (hO : tKO K B RX12 cX12_aboard 8) (hR : kR K = tRm 9 MC MS) (hG : tGr S) {n : Nat} (t0 : ty S 61 12) {k : Int32 → tHI → tHJ → Prop} (hQ : tRet K B (tQi B (tPi S k)) 0 0 (some .int)) {kb12 : tHI → tHJ → Int32 → Int32 → Int32 → Int32 → Prop} (hkb12 : ∀ (I : tHI) (J : tHJ) (v1 : Int32) (v2 : Int32) (v3 : Int32) (v4 : Int32), kb12 I J v1 v2 v3 v4 → tWG K B 0 0 S I J 12 [some (vR 61), some (vI v1), some (vI v2), some (vI v3), some (vI v4), none, none, none] []) : ∀ (f : Nat) (I : tHI) (J : tHJ) (v1 : Int32) (v2 : Int32) (v3 : Int32) (v4 : Int32) (v5 : Int32) (v6 : Int32), F12_aboard_L37 n S k kb12 f I J v1 v2 v3 v4 v5 v6 → tWG K B 0 0 S I J 37 [some (vR 61), some (vI v1), some (vI v2), some (vI v3), some (vI v4), some (vI v5), some (vI v6), none] [] := by
  intro f
  induction f with
  | zero => intro I J v1 v2 v3 v4 v5 v6 h; exact h.elim
  | succ f ih => intro I J v1 v2 v3 v4 v5 v6 h; exact W12_aboard_37 hO hR hG t0 hQ hkb12 ih h
set_option maxRecDepth 100000 in
theorem W12_aboard_12 {K : tK} {B : tB} {S : tSH} {MC MS : Nat} (hO : tKO K B RX12 cX12_aboard 8) (hR : kR K = tRm 9 MC MS) (hG : tGr S) {n : Nat} (t0 : ty S 61 12) {k : Int32 → tHI → tHJ → Prop} (hQ : tRet K B (tQi B (tPi S k)) 0 0 (some .int)) {kb12 : tHI → tHJ → Int32 → Int32 → Int32 → Int32 → Prop} (hkb12 : ∀ (I : tHI) (J : tHJ) (v1 : Int32) (v2 : Int32) (v3 : Int32) (v4 : Int32), kb12 I J v1 v2 v3 v4 → tWG K B 0 0 S I J 12 [some (vR 61), some (vI v1), some (vI v2), some (vI v3), some (vI v4), none, none, none] []) {I : tHI} {J : tHJ} {v1 : Int32} {v2 : Int32} {v3 : Int32} {v4 : Int32} (h : F12_aboard_12 n S k kb12 I J v1 v2 v3 v4) : tWG K B 0 0 S I J 12 [some (vR 61), some (vI v1), some (vI v2), some (vI v3), some (vI v4), none, none, none] [] := by
  refine gBk (pe := 22) hO [o0 (.iload 4), oI (.iconst 1) 1, o0 (.aload_n 0), oF (.getfield 13) 12 3 179 63, oI (.iconst 0) 0, o0 .iaload, o0 .ishl] (by decide +kernel) (And.intro t0 (And.intro rfl (And.intro (tGr.off hG t0 (k := 3) rfl) (And.intro (tin (tGr.len hG t0 (k := 3) rfl (by decide)) (tvi (by decide +kernel))) (show tWG K B 0 0 S I J 22 [some (vR 61), some (vI v1), some (vI v2), some (vI v3), some (vI v4), none, none, none] [vI (1 <<< ((I 63 0) &&& 31)), vI v4] from ?_)))))
  refine gIcGe hO (off := 128) (tgt := 150) (by decide +kernel) (by decide) (fun c1 => ?_) (fun c1 => ?_)
  · have h := h.1 c1
    refine gBk (pe := 158) hO [o0 (.aload_n 0), oI (.bipush 63) 63, oF (.putfield 124) 12 41 224 0, o0 (.iload_n 1), oI (.iconst (-1)) (-1)] (by decide +kernel) (And.intro t0 (show tWG K B 0 0 S (uI I 61 41 63) J 158 [some (vR 61), some (vI v1), some (vI v2), some (vI v3), some (vI v4), none, none, none] [vI (-1), vI v1] from ?_))
    have hj2 : ∀ (m3 : Int32), m3 = (if v1 = (-1) then v2 else v3) → tWG K B 0 0 S (uI I 61 41 63) J 166 [none, none, none, none, none, none, none, none] [vI m3] := by
      intro m3 em3
      subst em3
      exact gIret hO hQ (by decide +kernel) ⟨rfl, h⟩
    refine gIcNe hO (off := 7) (tgt := 165) (by decide +kernel) (by decide) (fun c4 => ?_) (fun c4 => ?_)
    · refine gBk (pe := 166) hO [o0 (.iload_n 3)] (by decide +kernel) (show tWG K B 0 0 S (uI I 61 41 63) J 166 [some (vR 61), some (vI v1), some (vI v2), some (vI v3), some (vI v4), none, none, none] [vI v3] from ?_)
      exact gWeak (L' := [none, none, none, none, none, none, none, none]) trivial (hj2 _ (Eq.symm (if_neg c4)))
    · refine gBk (pe := 166) hO [o0 (.iload_n 2), o0 (.goto 4)] (by decide +kernel) (show tWG K B 0 0 S (uI I 61 41 63) J 166 [some (vR 61), some (vI v1), some (vI v2), some (vI v3), some (vI v4), none, none, none] [vI v2] from ?_)
      exact gWeak (L' := [none, none, none, none, none, none, none, none]) trivial (hj2 _ (Eq.symm (if_pos c4)))
  · have h := h.2 c1
    refine gBk (pe := 37) hO [o0 (.aload_n 0), o0 (.iload 4), oF (.putfield 124) 12 41 224 0, oI (.iconst 1) 1, o0 (.istore 5), oI (.iconst 0) 0, o0 (.istore 6)] (by decide +kernel) (And.intro t0 (And.intro (Nat.le_of_ble_eq_true rfl) (And.intro (Nat.le_of_ble_eq_true rfl) (show tWG K B 0 0 S (uI I 61 41 v4) J 37 [some (vR 61), some (vI v1), some (vI v2), some (vI v3), some (vI v4), some (vI 1), some (vI 0), none] [] from ?_))))
    exact W12_aboard_L37 hO hR hG t0 hQ hkb12 n _ _ _ _ _ _ _ _ h
theorem W12_aboard_L12 {K : tK} {B : tB} {S : tSH} {MC MS : Nat} (hO : tKO K B RX12 cX12_aboard 8) (hR : kR K = tRm 9 MC MS) (hG : tGr S) {n : Nat} (t0 : ty S 61 12) {k : Int32 → tHI → tHJ → Prop} (hQ : tRet K B (tQi B (tPi S k)) 0 0 (some .int)) : ∀ (f : Nat) (I : tHI) (J : tHJ) (v1 : Int32) (v2 : Int32) (v3 : Int32) (v4 : Int32), F12_aboard_L12 n S k f I J v1 v2 v3 v4 → tWG K B 0 0 S I J 12 [some (vR 61), some (vI v1), some (vI v2), some (vI v3), some (vI v4), none, none, none] [] := by
  intro f
  induction f with
  | zero => intro I J v1 v2 v3 v4 h; exact h.elim
  | succ f ih => intro I J v1 v2 v3 v4 h; exact W12_aboard_12 hO hR hG t0 hQ ih h
set_option maxRecDepth 20000 in
theorem hc12_aboard : tCV yX12_aboard cX12_aboard 8 (some .int) 1 := ⟨⟨(List.mem_of_getElem? (i := 1398) rfl), (List.mem_of_getElem? (i := 5) (by decide +kernel)), by decide +kernel⟩, (List.mem_of_getElem? (i := 1396) (by decide +kernel)), (List.mem_of_getElem? (i := 1397) (by decide +kernel))⟩
set_option maxRecDepth 100000 in
theorem M12_aboard {l : Launch} {B : tB} {S : tSH} {I : tHI} {J : tHJ} {v1 : Int32} {n : Nat} {k : Int32 → tHI → tHJ → Prop} (t0 : ty S 61 12) (h : F12_aboard n S I J v1 k) : Met l yX12_aboard (tWs yX12_aboard cX12_aboard 8 (some .int)) (tRm 9 0 0) (tPc B [vR 61, vI v1] S I J) (tQi B (tPi S k)) 0 0 (tA B) :=
  tEntry (by decide +kernel) [some (vR 61), some (vI v1), none, none, none, none, none, none] rfl rfl (Nat.le_of_ble_eq_true rfl) (fun K hl hR hO hQ hG => by
  subst hl
  refine gBk (pe := 12) hO [o0 (.aload_n 0), oI (.iconst 0) 0, oF (.putfield 161) 12 0 316 0, oI (.iconst 0) 0, o0 (.istore_n 2), oI (.iconst (-1)) (-1), o0 (.istore_n 3), oI (.iconst 0) 0, o0 (.istore 4)] (by decide +kernel) (And.intro t0 (And.intro (Nat.le_of_ble_eq_true rfl) (And.intro (Nat.le_of_ble_eq_true rfl) (And.intro (Nat.le_of_ble_eq_true rfl) (show tWG K B 0 0 S (uI I 61 0 0) J 12 [some (vR 61), some (vI v1), some (vI 0), some (vI (-1)), some (vI 0), none, none, none] [] from ?_)))))
  exact W12_aboard_L12 hO hR hG t0 hQ n _ _ _ _ _ _ h)
set_option maxRecDepth 20000 in
theorem hc12_gasNow : tCV yX12_gasNow cX12_gasNow 2 (some .int) 1 := ⟨⟨(List.mem_of_getElem? (i := 1017) rfl), (List.mem_of_getElem? (i := 5) (by decide +kernel)), by decide +kernel⟩, (List.mem_of_getElem? (i := 1015) (by decide +kernel)), (List.mem_of_getElem? (i := 1016) (by decide +kernel))⟩
set_option maxRecDepth 100000 in
theorem M12_gasNow {l : Launch} {B : tB} {S : tSH} {I : tHI} {J : tHJ} {v1 : Int32} {n : Nat} {k : Int32 → tHI → tHJ → Prop} (t0 : ty S 61 12) (h : F12_gasNow n S I J v1 k) : Met l yX12_gasNow (tWs yX12_gasNow cX12_gasNow 2 (some .int)) (tRm 4 0 0) (tPc B [vR 61, vI v1] S I J) (tQi B (tPi S k)) 0 0 (tA B) :=
  tEntry (by decide +kernel) [some (vR 61), some (vI v1)] rfl rfl (Nat.le_of_ble_eq_true rfl) (fun K hl hR hO hQ hG => by
  subst hl
  refine gBk (pe := 10) hO [o0 (.iload_n 1), o0 .i2l, oJ (.lconst 1) 0 1, o0 (.aload_n 0), oF (.getfield 13) 12 3 179 63, oI (.iconst 5) 5, o0 .iaload, o0 .i2l] (by decide +kernel) (And.intro t0 (And.intro rfl (And.intro (tGr.off hG t0 (k := 3) rfl) (And.intro (tin (tGr.len hG t0 (k := 3) rfl (by decide)) (tvi (by decide +kernel))) (show tWG K B 0 0 S I J 10 [some (vR 61), some (vI v1)] [vL ((I 63 5).toInt64), vL 1, vL v1.toInt64] from ?_)))))
  refine gCSi_z hO (M12_in) hc12_in (idx := 181) (w := 319) (by decide +kernel) hR (by omega) (vs := [vL v1.toInt64, vL 1, vL ((I 63 5).toInt64)]) (st := []) ⟨rfl, Nat.le_of_ble_eq_true rfl, rfl⟩ (by decide +kernel) (fun z1 => ?_)
  refine gIfNe hO (off := 5) (tgt := 18) (by decide +kernel) (by decide) (fun c2 => ?_) (fun c2 => ?_)
  · have h := h.1 c2
    refine gBk (pe := 20) hO [o0 (.aload_n 0), oI (.iconst 0) 0] (by decide +kernel) (show tWG K B 0 0 S I J 20 [some (vR 61), some (vI v1)] [vI 0, vR 61] from ?_)
    refine gCVv_c hO (M12_remember t0 h) hc12_remember (idx := 515) (w := 1018) (by decide +kernel) hR (by omega) t0 ⟨by decide, rfl⟩ (vs := [vI 0]) (st := []) ⟨rfl, Nat.le_of_ble_eq_true rfl, rfl⟩ (by decide +kernel) (fun I3 J4 h => ?_)
    refine gBk (pe := 42) hO [o0 (.aload_n 0), oF (.getfield 13) 12 3 179 63, oI (.bipush 10) 10, o0 (.aload_n 0), oF (.getfield 13) 12 3 179 63, oI (.bipush 10) 10, o0 .iaload, o0 (.iload_n 1), o0 .iadd, o0 .i2l, oI (.iconst 0) 0, oI (.bipush 60) 60] (by decide +kernel) (And.intro t0 (And.intro rfl (And.intro t0 (And.intro rfl (And.intro (tGr.off hG t0 (k := 3) rfl) (And.intro (tin (tGr.len hG t0 (k := 3) rfl (by decide)) (tvi (by decide +kernel))) (show tWG K B 0 0 S I3 J4 42 [some (vR 61), some (vI v1)] [vI 60, vI 0, vL (((I3 63 10) + v1).toInt64), vI 10, vR 63] from ?_)))))))
    refine gCSi_p hO (M12_within) hc12_within (idx := 468) (w := 504) (by decide +kernel) hR (by omega) (vs := [vL (((I3 63 10) + v1).toInt64), vI 0, vI 60]) (st := [vI 10, vR 63]) ⟨rfl, Nat.le_of_ble_eq_true rfl, rfl⟩ (by decide +kernel) ?_
    refine gBk (pe := 53) hO [o0 .iastore, o0 (.aload_n 0), oF (.getfield 13) 12 3 179 63, oI (.bipush 10) 10, o0 .iaload] (by decide +kernel) (And.intro (tGr.off hG t0 (k := 3) rfl) (And.intro (tin (tGr.len hG t0 (k := 3) rfl (by decide)) (tvi (by decide +kernel))) (And.intro t0 (And.intro rfl (And.intro (tGr.off hG t0 (k := 3) rfl) (And.intro (tin (tGr.len hG t0 (k := 3) rfl (by decide)) (tvi (by decide +kernel))) (show tWG K B 0 0 S (uI I3 63 10 (V12_within (((I3 63 10) + v1).toInt64) 0 60)) J4 53 [some (vR 61), some (vI v1)] [vI ((uI I3 63 10 (V12_within (((I3 63 10) + v1).toInt64) 0 60)) 63 10)] from ?_)))))))
    exact gIret hO hQ (by decide +kernel) ⟨rfl, h⟩
  · have h := h.2 c2
    refine gBk (pe := 17) hO [oI (.iconst (-1)) (-1)] (by decide +kernel) (show tWG K B 0 0 S I J 17 [some (vR 61), some (vI v1)] [vI (-1)] from ?_)
    exact gIret hO hQ (by decide +kernel) ⟨rfl, h⟩)
set_option maxRecDepth 20000 in
theorem hc12_gas : tCV yX12_gas cX12_gas 2 (some .int) 1 := ⟨⟨(List.mem_of_getElem? (i := 1103) rfl), (List.mem_of_getElem? (i := 5) (by decide +kernel)), by decide +kernel⟩, (List.mem_of_getElem? (i := 1101) (by decide +kernel)), (List.mem_of_getElem? (i := 1102) (by decide +kernel))⟩
set_option maxRecDepth 100000 in
theorem M12_gas {l : Launch} {B : tB} {S : tSH} {I : tHI} {J : tHJ} {v1 : Int32} {n : Nat} {k : Int32 → tHI → tHJ → Prop} (t0 : ty S 61 12) (h : F12_gas n S I J v1 k) : Met l yX12_gas (tWs yX12_gas cX12_gas 2 (some .int)) (tRm 5 0 0) (tPc B [vR 61, vI v1] S I J) (tQi B (tPi S k)) 0 0 (tA B) :=
  tEntry (by decide +kernel) [some (vR 61), some (vI v1)] rfl rfl (Nat.le_of_ble_eq_true rfl) (fun K hl hR hO hQ hG => by
  subst hl
  refine gBk (pe := 8) hO [o0 (.aload_n 0), oI (.iconst 0) 0, oF (.putfield 161) 12 0 316 0, o0 (.aload_n 0), o0 (.aload_n 0), o0 (.iload_n 1)] (by decide +kernel) (And.intro t0 (show tWG K B 0 0 S (uI I 61 0 0) J 8 [some (vR 61), some (vI v1)] [vI v1, vR 61, vR 61] from ?_))
  refine gCVi_c hO (M12_gasNow t0 h) hc12_gasNow (idx := 518) (w := 1014) (by decide +kernel) hR (by omega) t0 ⟨by decide, rfl⟩ (vs := [vI v1]) (st := [vR 61]) ⟨rfl, Nat.le_of_ble_eq_true rfl, rfl⟩ (by decide +kernel) (fun x3 I1 J2 h => ?_)
  refine gCVi_c hO (M12_tell t0 h) hc12_tell (idx := 170) (w := 322) (by decide +kernel) hR (by omega) t0 ⟨by decide, rfl⟩ (vs := [vI x3]) (st := []) ⟨rfl, Nat.le_of_ble_eq_true rfl, rfl⟩ (by decide +kernel) (fun x6 I4 J5 h => ?_)
  exact gIret hO hQ (by decide +kernel) ⟨rfl, h⟩)
set_option maxRecDepth 20000 in
theorem hc12_brakeNow : tCV yX12_brakeNow cX12_brakeNow 2 (some .int) 1 := ⟨⟨(List.mem_of_getElem? (i := 1025) rfl), (List.mem_of_getElem? (i := 5) (by decide +kernel)), by decide +kernel⟩, (List.mem_of_getElem? (i := 1023) (by decide +kernel)), (List.mem_of_getElem? (i := 1024) (by decide +kernel))⟩
set_option maxRecDepth 100000 in
theorem M12_brakeNow {l : Launch} {B : tB} {S : tSH} {I : tHI} {J : tHJ} {v1 : Int32} {n : Nat} {k : Int32 → tHI → tHJ → Prop} (t0 : ty S 61 12) (h : F12_brakeNow n S I J v1 k) : Met l yX12_brakeNow (tWs yX12_brakeNow cX12_brakeNow 2 (some .int)) (tRm 4 0 0) (tPc B [vR 61, vI v1] S I J) (tQi B (tPi S k)) 0 0 (tA B) :=
  tEntry (by decide +kernel) [some (vR 61), some (vI v1)] rfl rfl (Nat.le_of_ble_eq_true rfl) (fun K hl hR hO hQ hG => by
  subst hl
  refine gBk (pe := 11) hO [o0 (.iload_n 1), o0 .i2l, oJ (.lconst 1) 0 1, o0 (.aload_n 0), oF (.getfield 13) 12 3 179 63, oI (.bipush 6) 6, o0 .iaload, o0 .i2l] (by decide +kernel) (And.intro t0 (And.intro rfl (And.intro (tGr.off hG t0 (k := 3) rfl) (And.intro (tin (tGr.len hG t0 (k := 3) rfl (by decide)) (tvi (by decide +kernel))) (show tWG K B 0 0 S I J 11 [some (vR 61), some (vI v1)] [vL ((I 63 6).toInt64), vL 1, vL v1.toInt64] from ?_)))))
  refine gCSi_z hO (M12_in) hc12_in (idx := 181) (w := 319) (by decide +kernel) hR (by omega) (vs := [vL v1.toInt64, vL 1, vL ((I 63 6).toInt64)]) (st := []) ⟨rfl, Nat.le_of_ble_eq_true rfl, rfl⟩ (by decide +kernel) (fun z1 => ?_)
  refine gIfNe hO (off := 5) (tgt := 19) (by decide +kernel) (by decide) (fun c2 => ?_) (fun c2 => ?_)
  · have h := h.1 c2
    refine gBk (pe := 21) hO [o0 (.aload_n 0), oI (.iconst 1) 1] (by decide +kernel) (show tWG K B 0 0 S I J 21 [some (vR 61), some (vI v1)] [vI 1, vR 61] from ?_)
    refine gCVv_c hO (M12_remember t0 h) hc12_remember (idx := 515) (w := 1018) (by decide +kernel) hR (by omega) t0 ⟨by decide, rfl⟩ (vs := [vI 1]) (st := []) ⟨rfl, Nat.le_of_ble_eq_true rfl, rfl⟩ (by decide +kernel) (fun I3 J4 h => ?_)
    refine gBk (pe := 43) hO [o0 (.aload_n 0), oF (.getfield 13) 12 3 179 63, oI (.bipush 10) 10, o0 (.aload_n 0), oF (.getfield 13) 12 3 179 63, oI (.bipush 10) 10, o0 .iaload, o0 (.iload_n 1), o0 .isub, o0 .i2l, oI (.iconst 0) 0, oI (.bipush 60) 60] (by decide +kernel) (And.intro t0 (And.intro rfl (And.intro t0 (And.intro rfl (And.intro (tGr.off hG t0 (k := 3) rfl) (And.intro (tin (tGr.len hG t0 (k := 3) rfl (by decide)) (tvi (by decide +kernel))) (show tWG K B 0 0 S I3 J4 43 [some (vR 61), some (vI v1)] [vI 60, vI 0, vL (((I3 63 10) - v1).toInt64), vI 10, vR 63] from ?_)))))))
    refine gCSi_p hO (M12_within) hc12_within (idx := 468) (w := 504) (by decide +kernel) hR (by omega) (vs := [vL (((I3 63 10) - v1).toInt64), vI 0, vI 60]) (st := [vI 10, vR 63]) ⟨rfl, Nat.le_of_ble_eq_true rfl, rfl⟩ (by decide +kernel) ?_
    refine gBk (pe := 54) hO [o0 .iastore, o0 (.aload_n 0), oF (.getfield 13) 12 3 179 63, oI (.bipush 10) 10, o0 .iaload] (by decide +kernel) (And.intro (tGr.off hG t0 (k := 3) rfl) (And.intro (tin (tGr.len hG t0 (k := 3) rfl (by decide)) (tvi (by decide +kernel))) (And.intro t0 (And.intro rfl (And.intro (tGr.off hG t0 (k := 3) rfl) (And.intro (tin (tGr.len hG t0 (k := 3) rfl (by decide)) (tvi (by decide +kernel))) (show tWG K B 0 0 S (uI I3 63 10 (V12_within (((I3 63 10) - v1).toInt64) 0 60)) J4 54 [some (vR 61), some (vI v1)] [vI ((uI I3 63 10 (V12_within (((I3 63 10) - v1).toInt64) 0 60)) 63 10)] from ?_)))))))
    exact gIret hO hQ (by decide +kernel) ⟨rfl, h⟩
  · have h := h.2 c2
    refine gBk (pe := 18) hO [oI (.iconst (-1)) (-1)] (by decide +kernel) (show tWG K B 0 0 S I J 18 [some (vR 61), some (vI v1)] [vI (-1)] from ?_)
    exact gIret hO hQ (by decide +kernel) ⟨rfl, h⟩)
set_option maxRecDepth 20000 in
theorem hc12_brake : tCV yX12_brake cX12_brake 2 (some .int) 1 := ⟨⟨(List.mem_of_getElem? (i := 1111) rfl), (List.mem_of_getElem? (i := 5) (by decide +kernel)), by decide +kernel⟩, (List.mem_of_getElem? (i := 1109) (by decide +kernel)), (List.mem_of_getElem? (i := 1110) (by decide +kernel))⟩
set_option maxRecDepth 100000 in
theorem M12_brake {l : Launch} {B : tB} {S : tSH} {I : tHI} {J : tHJ} {v1 : Int32} {n : Nat} {k : Int32 → tHI → tHJ → Prop} (t0 : ty S 61 12) (h : F12_brake n S I J v1 k) : Met l yX12_brake (tWs yX12_brake cX12_brake 2 (some .int)) (tRm 5 0 0) (tPc B [vR 61, vI v1] S I J) (tQi B (tPi S k)) 0 0 (tA B) :=
  tEntry (by decide +kernel) [some (vR 61), some (vI v1)] rfl rfl (Nat.le_of_ble_eq_true rfl) (fun K hl hR hO hQ hG => by
  subst hl
  refine gBk (pe := 8) hO [o0 (.aload_n 0), oI (.iconst 0) 0, oF (.putfield 161) 12 0 316 0, o0 (.aload_n 0), o0 (.aload_n 0), o0 (.iload_n 1)] (by decide +kernel) (And.intro t0 (show tWG K B 0 0 S (uI I 61 0 0) J 8 [some (vR 61), some (vI v1)] [vI v1, vR 61, vR 61] from ?_))
  refine gCVi_c hO (M12_brakeNow t0 h) hc12_brakeNow (idx := 521) (w := 1022) (by decide +kernel) hR (by omega) t0 ⟨by decide, rfl⟩ (vs := [vI v1]) (st := [vR 61]) ⟨rfl, Nat.le_of_ble_eq_true rfl, rfl⟩ (by decide +kernel) (fun x3 I1 J2 h => ?_)
  refine gCVi_c hO (M12_tell t0 h) hc12_tell (idx := 170) (w := 322) (by decide +kernel) hR (by omega) t0 ⟨by decide, rfl⟩ (vs := [vI x3]) (st := []) ⟨rfl, Nat.le_of_ble_eq_true rfl, rfl⟩ (by decide +kernel) (fun x6 I4 J5 h => ?_)
  exact gIret hO hQ (by decide +kernel) ⟨rfl, h⟩)
set_option maxRecDepth 20000 in
theorem hc12_laneNow : tCV yX12_laneNow cX12_laneNow 3 (some .int) 1 := ⟨⟨(List.mem_of_getElem? (i := 1029) rfl), (List.mem_of_getElem? (i := 5) (by decide +kernel)), by decide +kernel⟩, (List.mem_of_getElem? (i := 1027) (by decide +kernel)), (List.mem_of_getElem? (i := 1028) (by decide +kernel))⟩
set_option maxRecDepth 100000 in
theorem M12_laneNow {l : Launch} {B : tB} {S : tSH} {I : tHI} {J : tHJ} {v1 : Int32} {n : Nat} {k : Int32 → tHI → tHJ → Prop} (t0 : ty S 61 12) (h : F12_laneNow n S I J v1 k) : Met l yX12_laneNow (tWs yX12_laneNow cX12_laneNow 3 (some .int)) (tRm 4 0 0) (tPc B [vR 61, vI v1] S I J) (tQi B (tPi S k)) 0 0 (tA B) :=
  tEntry (by decide +kernel) [some (vR 61), some (vI v1), none] rfl rfl (Nat.le_of_ble_eq_true rfl) (fun K hl hR hO hQ hG => by
  subst hl
  refine gBk (pe := 3) hO [o0 (.iload_n 1), o0 .i2l, oJ (.lconst 0) 0 0] (by decide +kernel) (show tWG K B 0 0 S I J 3 [some (vR 61), some (vI v1), none] [vL 0, vL v1.toInt64] from ?_)
  refine gBk (pe := 6) hO [(.ldc2_w 524, (0, 0, 1030, 0), 0, 2)] (by decide +kernel) (show tWG K B 0 0 S I J 6 [some (vR 61), some (vI v1), none] [vL 2, vL 0, vL v1.toInt64] from ?_)
  refine gCSi_z hO (M12_in) hc12_in (idx := 181) (w := 319) (by decide +kernel) hR (by omega) (vs := [vL v1.toInt64, vL 0, vL 2]) (st := []) ⟨rfl, Nat.le_of_ble_eq_true rfl, rfl⟩ (by decide +kernel) (fun z1 => ?_)
  refine gIfNe hO (off := 5) (tgt := 14) (by decide +kernel) (by decide) (fun c2 => ?_) (fun c2 => ?_)
  · have h := h.1 c2
    refine gBk (pe := 22) hO [o0 (.iload_n 1), o0 (.aload_n 0), oF (.getfield 13) 12 3 179 63, oI (.bipush 11) 11, o0 .iaload] (by decide +kernel) (And.intro t0 (And.intro rfl (And.intro (tGr.off hG t0 (k := 3) rfl) (And.intro (tin (tGr.len hG t0 (k := 3) rfl (by decide)) (tvi (by decide +kernel))) (show tWG K B 0 0 S I J 22 [some (vR 61), some (vI v1), none] [vI (I 63 11), vI v1] from ?_)))))
    refine gCSi_z hO (M12_isBeside) hc12_isBeside (idx := 493) (w := 1031) (by decide +kernel) hR (by omega) (vs := [vI v1, vI (I 63 11)]) (st := []) ⟨rfl, Nat.le_of_ble_eq_true rfl, rfl⟩ (by decide +kernel) (fun z3 => ?_)
    refine gIfNe hO (off := 6) (tgt := 31) (by decide +kernel) (by decide) (fun c4 => ?_) (fun c4 => ?_)
    · have h := h.1 c4
      refine gBk (pe := 33) hO [o0 (.aload_n 0), oI (.iconst 2) 2] (by decide +kernel) (show tWG K B 0 0 S I J 33 [some (vR 61), some (vI v1), none] [vI 2, vR 61] from ?_)
      refine gCVv_c hO (M12_remember t0 h) hc12_remember (idx := 515) (w := 1018) (by decide +kernel) hR (by omega) t0 ⟨by decide, rfl⟩ (vs := [vI 2]) (st := []) ⟨rfl, Nat.le_of_ble_eq_true rfl, rfl⟩ (by decide +kernel) (fun I5 J6 h => ?_)
      refine gBk (pe := 53) hO [o0 (.aload_n 0), oF (.getfield 13) 12 3 179 63, oI (.bipush 11) 11, o0 .iaload, o0 (.istore_n 2), o0 (.aload_n 0), oF (.getfield 13) 12 3 179 63, oI (.bipush 11) 11, o0 (.iload_n 1), o0 .iastore, o0 (.iload_n 2)] (by decide +kernel) (And.intro t0 (And.intro rfl (And.intro (tGr.off hG t0 (k := 3) rfl) (And.intro (tin (tGr.len hG t0 (k := 3) rfl (by decide)) (tvi (by decide +kernel))) (And.intro (Nat.le_of_ble_eq_true rfl) (And.intro t0 (And.intro rfl (And.intro (tGr.off hG t0 (k := 3) rfl) (And.intro (tin (tGr.len hG t0 (k := 3) rfl (by decide)) (tvi (by decide +kernel))) (show tWG K B 0 0 S (uI I5 63 11 v1) J6 53 [some (vR 61), some (vI v1), some (vI (I5 63 11))] [vI (I5 63 11)] from ?_))))))))))
      exact gIret hO hQ (by decide +kernel) ⟨rfl, h⟩
    · have h := h.2 c4
      refine gBk (pe := 30) hO [oI (.bipush (-3)) (-3)] (by decide +kernel) (show tWG K B 0 0 S I J 30 [some (vR 61), some (vI v1), none] [vI (-3)] from ?_)
      exact gIret hO hQ (by decide +kernel) ⟨rfl, h⟩
  · have h := h.2 c2
    refine gBk (pe := 13) hO [oI (.iconst (-1)) (-1)] (by decide +kernel) (show tWG K B 0 0 S I J 13 [some (vR 61), some (vI v1), none] [vI (-1)] from ?_)
    exact gIret hO hQ (by decide +kernel) ⟨rfl, h⟩)
set_option maxRecDepth 20000 in
theorem hc12_lane : tCV yX12_lane cX12_lane 2 (some .int) 1 := ⟨⟨(List.mem_of_getElem? (i := 1119) rfl), (List.mem_of_getElem? (i := 5) (by decide +kernel)), by decide +kernel⟩, (List.mem_of_getElem? (i := 1117) (by decide +kernel)), (List.mem_of_getElem? (i := 1118) (by decide +kernel))⟩
set_option maxRecDepth 100000 in
theorem M12_lane {l : Launch} {B : tB} {S : tSH} {I : tHI} {J : tHJ} {v1 : Int32} {n : Nat} {k : Int32 → tHI → tHJ → Prop} (t0 : ty S 61 12) (h : F12_lane n S I J v1 k) : Met l yX12_lane (tWs yX12_lane cX12_lane 2 (some .int)) (tRm 5 0 0) (tPc B [vR 61, vI v1] S I J) (tQi B (tPi S k)) 0 0 (tA B) :=
  tEntry (by decide +kernel) [some (vR 61), some (vI v1)] rfl rfl (Nat.le_of_ble_eq_true rfl) (fun K hl hR hO hQ hG => by
  subst hl
  refine gBk (pe := 8) hO [o0 (.aload_n 0), oI (.iconst 0) 0, oF (.putfield 161) 12 0 316 0, o0 (.aload_n 0), o0 (.aload_n 0), o0 (.iload_n 1)] (by decide +kernel) (And.intro t0 (show tWG K B 0 0 S (uI I 61 0 0) J 8 [some (vR 61), some (vI v1)] [vI v1, vR 61, vR 61] from ?_))
  refine gCVi_c hO (M12_laneNow t0 h) hc12_laneNow (idx := 526) (w := 1026) (by decide +kernel) hR (by omega) t0 ⟨by decide, rfl⟩ (vs := [vI v1]) (st := [vR 61]) ⟨rfl, Nat.le_of_ble_eq_true rfl, rfl⟩ (by decide +kernel) (fun x3 I1 J2 h => ?_)
  refine gCVi_c hO (M12_tell t0 h) hc12_tell (idx := 170) (w := 322) (by decide +kernel) hR (by omega) t0 ⟨by decide, rfl⟩ (vs := [vI x3]) (st := []) ⟨rfl, Nat.le_of_ble_eq_true rfl, rfl⟩ (by decide +kernel) (fun x6 I4 J5 h => ?_)
  exact gIret hO hQ (by decide +kernel) ⟨rfl, h⟩)
set_option maxRecDepth 100000 in
theorem W12_putNow_44 {K : tK} {B : tB} {S : tSH} {MC MS : Nat} (hO : tKO K B RX12 cX12_putNow 4) (hR : kR K = tRm 9 MC MS) (hG : tGr S) {n : Nat} (t0 : ty S 61 12) {k : Int32 → tHI → tHJ → Prop} (hQ : tRet K B (tQi B (tPi S k)) 0 0 (some .int)) {I : tHI} {J : tHJ} (h : F12_putNow_44 n S k I J) : tWG K B 0 0 S I J 44 [none, none, none, none] [] := by
  refine gBk (pe := 46) hO [oI (.bipush (-3)) (-3)] (by decide +kernel) (show tWG K B 0 0 S I J 46 [none, none, none, none] [vI (-3)] from ?_)
  exact gIret hO hQ (by decide +kernel) ⟨rfl, h⟩
set_option maxRecDepth 20000 in
theorem hc12_putNow : tCV yX12_putNow cX12_putNow 4 (some .int) 2 := ⟨⟨(List.mem_of_getElem? (i := 1037) rfl), (List.mem_of_getElem? (i := 5) (by decide +kernel)), by decide +kernel⟩, (List.mem_of_getElem? (i := 1035) (by decide +kernel)), (List.mem_of_getElem? (i := 1036) (by decide +kernel))⟩
set_option maxRecDepth 100000 in
theorem M12_putNow {l : Launch} {B : tB} {S : tSH} {I : tHI} {J : tHJ} {v1 : Int32} {v2 : Int32} {n : Nat} {k : Int32 → tHI → tHJ → Prop} (t0 : ty S 61 12) (h : F12_putNow n S I J v1 v2 k) : Met l yX12_putNow (tWs yX12_putNow cX12_putNow 4 (some .int)) (tRm 9 0 0) (tPc B [vR 61, vI v1, vI v2] S I J) (tQi B (tPi S k)) 0 0 (tA B) :=
  tEntry (by decide +kernel) [some (vR 61), some (vI v1), some (vI v2), none] rfl rfl (Nat.le_of_ble_eq_true rfl) (fun K hl hR hO hQ hG => by
  subst hl
  refine gBk (pe := 3) hO [o0 (.iload_n 2), o0 .i2l, oJ (.lconst 0) 0 0] (by decide +kernel) (show tWG K B 0 0 S I J 3 [some (vR 61), some (vI v1), some (vI v2), none] [vL 0, vL v2.toInt64] from ?_)
  refine gBk (pe := 6) hO [(.ldc2_w 190, (0, 0, 318, 0), 0, 3)] (by decide +kernel) (show tWG K B 0 0 S I J 6 [some (vR 61), some (vI v1), some (vI v2), none] [vL 3, vL 0, vL v2.toInt64] from ?_)
  refine gCSi_z hO (M12_in) hc12_in (idx := 181) (w := 319) (by decide +kernel) hR (by omega) (vs := [vL v2.toInt64, vL 0, vL 3]) (st := []) ⟨rfl, Nat.le_of_ble_eq_true rfl, rfl⟩ (by decide +kernel) (fun z1 => ?_)
  refine gIfNe hO (off := 5) (tgt := 14) (by decide +kernel) (by decide) (fun c2 => ?_) (fun c2 => ?_)
  · have h := h.1 c2
    refine gBk (pe := 16) hO [o0 (.aload_n 0), o0 (.iload_n 1)] (by decide +kernel) (show tWG K B 0 0 S I J 16 [some (vR 61), some (vI v1), some (vI v2), none] [vI v1, vR 61] from ?_)
    refine gCVi_z hO (M12_isLoad t0) hc12_isLoad (idx := 196) (w := 360) (by decide +kernel) hR (by omega) t0 ⟨by decide, rfl⟩ (vs := [vI v1]) (st := []) ⟨rfl, Nat.le_of_ble_eq_true rfl, rfl⟩ (by decide +kernel) (fun z3 => ?_)
    refine gIfNe hO (off := 6) (tgt := 25) (by decide +kernel) (by decide) (fun c4 => ?_) (fun c4 => ?_)
    · have h := h.1 c4
      refine gBk (pe := 28) hO [o0 (.aload_n 0), o0 (.iload_n 1), o0 (.iload_n 2)] (by decide +kernel) (show tWG K B 0 0 S I J 28 [some (vR 61), some (vI v1), some (vI v2), none] [vI v2, vI v1, vR 61] from ?_)
      refine gCVi_b hO (M12_isBanned t0 h) hc12_isBanned (idx := 202) (w := 390) (by decide +kernel) hR (by omega) t0 ⟨by decide, rfl⟩ (vs := [vI v1, vI v2]) (st := []) ⟨rfl, Nat.le_of_ble_eq_true rfl, rfl⟩ (by decide +kernel) (fun x7 I5 J6 z8 h => ?_)
      have h := h z8
      refine gIfNe hO (off := 13) (tgt := 44) (by decide +kernel) (by decide) (fun c9 => ?_) (fun c9 => ?_)
      · have h := h.1 c9
        exact gWeak (L' := [none, none, none, none]) trivial (W12_putNow_44 hO hR hG t0 hQ h)
      · have h := h.2 c9
        refine gBk (pe := 41) hO [o0 (.aload_n 0), oF (.getfield 13) 12 3 179 63, oI (.bipush 10) 10, o0 .iaload] (by decide +kernel) (And.intro t0 (And.intro rfl (And.intro (tGr.off hG t0 (k := 3) rfl) (And.intro (tin (tGr.len hG t0 (k := 3) rfl (by decide)) (tvi (by decide +kernel))) (show tWG K B 0 0 S I5 J6 41 [some (vR 61), some (vI v1), some (vI v2), none] [vI (I5 63 10)] from ?_)))))
        refine gIfLe hO (off := 6) (tgt := 47) (by decide +kernel) (by decide) (fun c10 => ?_) (fun c10 => ?_)
        · have h := h.1 c10
          refine gBk (pe := 49) hO [o0 (.aload_n 0), oI (.iconst 3) 3] (by decide +kernel) (show tWG K B 0 0 S I5 J6 49 [some (vR 61), some (vI v1), some (vI v2), none] [vI 3, vR 61] from ?_)
          refine gCVv_c hO (M12_remember t0 h) hc12_remember (idx := 515) (w := 1018) (by decide +kernel) hR (by omega) t0 ⟨by decide, rfl⟩ (vs := [vI 3]) (st := []) ⟨rfl, Nat.le_of_ble_eq_true rfl, rfl⟩ (by decide +kernel) (fun I11 J12 h => ?_)
          refine gBk (pe := 73) hO [o0 (.aload_n 0), oF (.getfield 13) 12 3 179 63, oI (.bipush 14) 14, o0 (.iload_n 1), o0 .iadd, o0 .iaload, o0 (.istore_n 3), o0 (.aload_n 0), oF (.getfield 13) 12 3 179 63, oI (.bipush 14) 14, o0 (.iload_n 1), o0 .iadd, o0 (.iload_n 2), o0 .iastore, o0 (.iload_n 3)] (by decide +kernel) (And.intro t0 (And.intro rfl (And.intro (tGr.off hG t0 (k := 3) rfl) (And.intro (tin (tGr.len hG t0 (k := 3) rfl (by decide)) h.1) (And.intro (Nat.le_of_ble_eq_true rfl) (And.intro t0 (And.intro rfl (And.intro (tGr.off hG t0 (k := 3) rfl) (And.intro (tin (tGr.len hG t0 (k := 3) rfl (by decide)) h.2.1) (show tWG K B 0 0 S (uI I11 63 (14 + v1).toNatClampNeg v2) J12 73 [some (vR 61), some (vI v1), some (vI v2), some (vI (I11 63 (14 + v1).toNatClampNeg))] [vI (I11 63 (14 + v1).toNatClampNeg)] from ?_))))))))))
          have h := h.2.2
          exact gIret hO hQ (by decide +kernel) ⟨rfl, h⟩
        · have h := h.2 c10
          exact gWeak (L' := [none, none, none, none]) trivial (W12_putNow_44 hO hR hG t0 hQ h)
    · have h := h.2 c4
      refine gBk (pe := 24) hO [oI (.bipush (-2)) (-2)] (by decide +kernel) (show tWG K B 0 0 S I J 24 [some (vR 61), some (vI v1), some (vI v2), none] [vI (-2)] from ?_)
      exact gIret hO hQ (by decide +kernel) ⟨rfl, h⟩
  · have h := h.2 c2
    refine gBk (pe := 13) hO [oI (.iconst (-1)) (-1)] (by decide +kernel) (show tWG K B 0 0 S I J 13 [some (vR 61), some (vI v1), some (vI v2), none] [vI (-1)] from ?_)
    exact gIret hO hQ (by decide +kernel) ⟨rfl, h⟩)
set_option maxRecDepth 20000 in
theorem hc12_put : tCV yX12_put cX12_put 3 (some .int) 2 := ⟨⟨(List.mem_of_getElem? (i := 1127) rfl), (List.mem_of_getElem? (i := 5) (by decide +kernel)), by decide +kernel⟩, (List.mem_of_getElem? (i := 1125) (by decide +kernel)), (List.mem_of_getElem? (i := 1126) (by decide +kernel))⟩
set_option maxRecDepth 100000 in
theorem M12_put {l : Launch} {B : tB} {S : tSH} {I : tHI} {J : tHJ} {v1 : Int32} {v2 : Int32} {n : Nat} {k : Int32 → tHI → tHJ → Prop} (t0 : ty S 61 12) (h : F12_put n S I J v1 v2 k) : Met l yX12_put (tWs yX12_put cX12_put 3 (some .int)) (tRm 10 0 0) (tPc B [vR 61, vI v1, vI v2] S I J) (tQi B (tPi S k)) 0 0 (tA B) :=
  tEntry (by decide +kernel) [some (vR 61), some (vI v1), some (vI v2)] rfl rfl (Nat.le_of_ble_eq_true rfl) (fun K hl hR hO hQ hG => by
  subst hl
  refine gBk (pe := 9) hO [o0 (.aload_n 0), oI (.iconst 0) 0, oF (.putfield 161) 12 0 316 0, o0 (.aload_n 0), o0 (.aload_n 0), o0 (.iload_n 1), o0 (.iload_n 2)] (by decide +kernel) (And.intro t0 (show tWG K B 0 0 S (uI I 61 0 0) J 9 [some (vR 61), some (vI v1), some (vI v2)] [vI v2, vI v1, vR 61, vR 61] from ?_))
  refine gCVi_c hO (M12_putNow t0 h) hc12_putNow (idx := 529) (w := 1034) (by decide +kernel) hR (by omega) t0 ⟨by decide, rfl⟩ (vs := [vI v1, vI v2]) (st := [vR 61]) ⟨rfl, Nat.le_of_ble_eq_true rfl, rfl⟩ (by decide +kernel) (fun x3 I1 J2 h => ?_)
  refine gCVi_c hO (M12_tell t0 h) hc12_tell (idx := 170) (w := 322) (by decide +kernel) hR (by omega) t0 ⟨by decide, rfl⟩ (vs := [vI x3]) (st := []) ⟨rfl, Nat.le_of_ble_eq_true rfl, rfl⟩ (by decide +kernel) (fun x6 I4 J5 h => ?_)
  exact gIret hO hQ (by decide +kernel) ⟨rfl, h⟩)
set_option maxRecDepth 20000 in
theorem hc12_leanNow : tCV yX12_leanNow cX12_leanNow 4 (some .int) 2 := ⟨⟨(List.mem_of_getElem? (i := 1041) rfl), (List.mem_of_getElem? (i := 5) (by decide +kernel)), by decide +kernel⟩, (List.mem_of_getElem? (i := 1039) (by decide +kernel)), (List.mem_of_getElem? (i := 1040) (by decide +kernel))⟩
set_option maxRecDepth 100000 in
theorem M12_leanNow {l : Launch} {B : tB} {S : tSH} {I : tHI} {J : tHJ} {v1 : Int32} {v2 : Int32} {n : Nat} {k : Int32 → tHI → tHJ → Prop} (t0 : ty S 61 12) (h : F12_leanNow n S I J v1 v2 k) : Met l yX12_leanNow (tWs yX12_leanNow cX12_leanNow 4 (some .int)) (tRm 4 0 0) (tPc B [vR 61, vI v1, vI v2] S I J) (tQi B (tPi S k)) 0 0 (tA B) :=
  tEntry (by decide +kernel) [some (vR 61), some (vI v1), some (vI v2), none] rfl rfl (Nat.le_of_ble_eq_true rfl) (fun K hl hR hO hQ hG => by
  subst hl
  refine gBk (pe := 2) hO [o0 (.iload_n 2), o0 .i2l] (by decide +kernel) (show tWG K B 0 0 S I J 2 [some (vR 61), some (vI v1), some (vI v2), none] [vL v2.toInt64] from ?_)
  refine gBk (pe := 5) hO [(.ldc2_w 532, (0, 0, 1042, 0), 0, (-2))] (by decide +kernel) (show tWG K B 0 0 S I J 5 [some (vR 61), some (vI v1), some (vI v2), none] [vL (-2), vL v2.toInt64] from ?_)
  refine gBk (pe := 8) hO [(.ldc2_w 524, (0, 0, 1030, 0), 0, 2)] (by decide +kernel) (show tWG K B 0 0 S I J 8 [some (vR 61), some (vI v1), some (vI v2), none] [vL 2, vL (-2), vL v2.toInt64] from ?_)
  refine gCSi_z hO (M12_in) hc12_in (idx := 181) (w := 319) (by decide +kernel) hR (by omega) (vs := [vL v2.toInt64, vL (-2), vL 2]) (st := []) ⟨rfl, Nat.le_of_ble_eq_true rfl, rfl⟩ (by decide +kernel) (fun z1 => ?_)
  refine gIfNe hO (off := 5) (tgt := 16) (by decide +kernel) (by decide) (fun c2 => ?_) (fun c2 => ?_)
  · have h := h.1 c2
    refine gBk (pe := 18) hO [o0 (.aload_n 0), o0 (.iload_n 1)] (by decide +kernel) (show tWG K B 0 0 S I J 18 [some (vR 61), some (vI v1), some (vI v2), none] [vI v1, vR 61] from ?_)
    refine gCVi_z hO (M12_isLoad t0) hc12_isLoad (idx := 196) (w := 360) (by decide +kernel) hR (by omega) t0 ⟨by decide, rfl⟩ (vs := [vI v1]) (st := []) ⟨rfl, Nat.le_of_ble_eq_true rfl, rfl⟩ (by decide +kernel) (fun z3 => ?_)
    refine gIfNe hO (off := 6) (tgt := 27) (by decide +kernel) (by decide) (fun c4 => ?_) (fun c4 => ?_)
    · have h := h.1 c4
      refine gBk (pe := 36) hO [o0 (.aload_n 0), oF (.getfield 13) 12 3 179 63, oI (.bipush 32) 32, o0 (.iload_n 1), o0 .iadd, o0 .iaload] (by decide +kernel) (And.intro t0 (And.intro rfl (And.intro (tGr.off hG t0 (k := 3) rfl) (And.intro (tin (tGr.len hG t0 (k := 3) rfl (by decide)) h.1) (show tWG K B 0 0 S I J 36 [some (vR 61), some (vI v1), some (vI v2), none] [vI (I 63 (32 + v1).toNatClampNeg)] from ?_)))))
      have h := h.2
      refine gIfNe hO (off := 6) (tgt := 42) (by decide +kernel) (by decide) (fun c5 => ?_) (fun c5 => ?_)
      · have h := h.1 c5
        refine gBk (pe := 44) hO [o0 (.aload_n 0), oI (.iconst 4) 4] (by decide +kernel) (show tWG K B 0 0 S I J 44 [some (vR 61), some (vI v1), some (vI v2), none] [vI 4, vR 61] from ?_)
        refine gCVv_c hO (M12_remember t0 h) hc12_remember (idx := 515) (w := 1018) (by decide +kernel) hR (by omega) t0 ⟨by decide, rfl⟩ (vs := [vI 4]) (st := []) ⟨rfl, Nat.le_of_ble_eq_true rfl, rfl⟩ (by decide +kernel) (fun I6 J7 h => ?_)
        refine gBk (pe := 70) hO [o0 (.aload_n 0), oF (.getfield 13) 12 3 179 63, oI (.bipush 20) 20, o0 (.iload_n 1), o0 .iadd, o0 .iaload, o0 (.istore_n 3), o0 (.aload_n 0), oF (.getfield 13) 12 3 179 63, oI (.bipush 20) 20, o0 (.iload_n 1), o0 .iadd, o0 (.iload_n 2), o0 .iastore, o0 (.iload_n 3), oI (.iconst 2) 2, o0 .iadd] (by decide +kernel) (And.intro t0 (And.intro rfl (And.intro (tGr.off hG t0 (k := 3) rfl) (And.intro (tin (tGr.len hG t0 (k := 3) rfl (by decide)) h.1) (And.intro (Nat.le_of_ble_eq_true rfl) (And.intro t0 (And.intro rfl (And.intro (tGr.off hG t0 (k := 3) rfl) (And.intro (tin (tGr.len hG t0 (k := 3) rfl (by decide)) h.2.1) (show tWG K B 0 0 S (uI I6 63 (20 + v1).toNatClampNeg v2) J7 70 [some (vR 61), some (vI v1), some (vI v2), some (vI (I6 63 (20 + v1).toNatClampNeg))] [vI ((I6 63 (20 + v1).toNatClampNeg) + 2)] from ?_))))))))))
        have h := h.2.2
        exact gIret hO hQ (by decide +kernel) ⟨rfl, h⟩
      · have h := h.2 c5
        refine gBk (pe := 41) hO [oI (.bipush (-3)) (-3)] (by decide +kernel) (show tWG K B 0 0 S I J 41 [some (vR 61), some (vI v1), some (vI v2), none] [vI (-3)] from ?_)
        exact gIret hO hQ (by decide +kernel) ⟨rfl, h⟩
    · have h := h.2 c4
      refine gBk (pe := 26) hO [oI (.bipush (-2)) (-2)] (by decide +kernel) (show tWG K B 0 0 S I J 26 [some (vR 61), some (vI v1), some (vI v2), none] [vI (-2)] from ?_)
      exact gIret hO hQ (by decide +kernel) ⟨rfl, h⟩
  · have h := h.2 c2
    refine gBk (pe := 15) hO [oI (.iconst (-1)) (-1)] (by decide +kernel) (show tWG K B 0 0 S I J 15 [some (vR 61), some (vI v1), some (vI v2), none] [vI (-1)] from ?_)
    exact gIret hO hQ (by decide +kernel) ⟨rfl, h⟩)
set_option maxRecDepth 20000 in
theorem hc12_lean : tCV yX12_lean cX12_lean 3 (some .int) 2 := ⟨⟨(List.mem_of_getElem? (i := 1135) rfl), (List.mem_of_getElem? (i := 5) (by decide +kernel)), by decide +kernel⟩, (List.mem_of_getElem? (i := 1133) (by decide +kernel)), (List.mem_of_getElem? (i := 1134) (by decide +kernel))⟩
set_option maxRecDepth 100000 in
theorem M12_lean {l : Launch} {B : tB} {S : tSH} {I : tHI} {J : tHJ} {v1 : Int32} {v2 : Int32} {n : Nat} {k : Int32 → tHI → tHJ → Prop} (t0 : ty S 61 12) (h : F12_lean n S I J v1 v2 k) : Met l yX12_lean (tWs yX12_lean cX12_lean 3 (some .int)) (tRm 5 0 0) (tPc B [vR 61, vI v1, vI v2] S I J) (tQi B (tPi S k)) 0 0 (tA B) :=
  tEntry (by decide +kernel) [some (vR 61), some (vI v1), some (vI v2)] rfl rfl (Nat.le_of_ble_eq_true rfl) (fun K hl hR hO hQ hG => by
  subst hl
  refine gBk (pe := 9) hO [o0 (.aload_n 0), oI (.iconst 0) 0, oF (.putfield 161) 12 0 316 0, o0 (.aload_n 0), o0 (.aload_n 0), o0 (.iload_n 1), o0 (.iload_n 2)] (by decide +kernel) (And.intro t0 (show tWG K B 0 0 S (uI I 61 0 0) J 9 [some (vR 61), some (vI v1), some (vI v2)] [vI v2, vI v1, vR 61, vR 61] from ?_))
  refine gCVi_c hO (M12_leanNow t0 h) hc12_leanNow (idx := 534) (w := 1038) (by decide +kernel) hR (by omega) t0 ⟨by decide, rfl⟩ (vs := [vI v1, vI v2]) (st := [vR 61]) ⟨rfl, Nat.le_of_ble_eq_true rfl, rfl⟩ (by decide +kernel) (fun x3 I1 J2 h => ?_)
  refine gCVi_c hO (M12_tell t0 h) hc12_tell (idx := 170) (w := 322) (by decide +kernel) hR (by omega) t0 ⟨by decide, rfl⟩ (vs := [vI x3]) (st := []) ⟨rfl, Nat.le_of_ble_eq_true rfl, rfl⟩ (by decide +kernel) (fun x6 I4 J5 h => ?_)
  exact gIret hO hQ (by decide +kernel) ⟨rfl, h⟩)
set_option maxRecDepth 100000 in
theorem W12_rideIt_52 {K : tK} {B : tB} {S : tSH} {MC MS : Nat} (hO : tKO K B RX12 cX12_rideIt 3) (hR : kR K = tRm 9 MC MS) (hG : tGr S) {n : Nat} (t0 : ty S 61 12) {k : Int32 → tHI → tHJ → Prop} (hQ : tRet K B (tQi B (tPi S k)) 0 0 (some .int)) {I : tHI} {J : tHJ} {v1 : Int32} {v2 : Int32} (h : F12_rideIt_52 n S k I J v1 v2) : tWG K B 0 0 S I J 52 [some (vR 61), some (vI v1), some (vI v2)] [] := by
  refine gBk (pe := 67) hO [o0 (.aload_n 0), oF (.getfield 13) 12 3 179 63, oI (.bipush 9) 9, o0 (.iload_n 1), o0 (.aload_n 0), oF (.getfield 13) 12 3 179 63, oI (.iconst 1) 1, o0 .iaload, oI (.iconst 1) 1, o0 .isub] (by decide +kernel) (And.intro t0 (And.intro rfl (And.intro t0 (And.intro rfl (And.intro (tGr.off hG t0 (k := 3) rfl) (And.intro (tin (tGr.len hG t0 (k := 3) rfl (by decide)) (tvi (by decide +kernel))) (show tWG K B 0 0 S I J 67 [some (vR 61), some (vI v1), some (vI v2)] [vI ((I 63 1) - 1), vI v1, vI 9, vR 63] from ?_)))))))
  have hj5 : ∀ (m6 : Int32), m6 = (if v1 = ((I 63 1) - 1) then 0 else (v1 + 1)) → tWG K B 0 0 S I J 77 [none, none, some (vI v2)] [vI m6, vI 9, vR 63] := by
    intro m6 em6
    subst em6
    refine gBk (pe := 79) hO [o0 .iastore, o0 (.iload_n 2)] (by decide +kernel) (And.intro (tGr.off hG t0 (k := 3) rfl) (And.intro (tin (tGr.len hG t0 (k := 3) rfl (by decide)) (tvi (by decide +kernel))) (show tWG K B 0 0 S (uI I 63 9 (if v1 = ((I 63 1) - 1) then 0 else (v1 + 1))) J 79 [none, none, some (vI v2)] [vI v2] from ?_)))
    exact gIret hO hQ (by decide +kernel) ⟨rfl, h⟩
  refine gIcNe hO (off := 7) (tgt := 74) (by decide +kernel) (by decide) (fun c7 => ?_) (fun c7 => ?_)
  · refine gBk (pe := 77) hO [o0 (.iload_n 1), oI (.iconst 1) 1, o0 .iadd] (by decide +kernel) (show tWG K B 0 0 S I J 77 [some (vR 61), some (vI v1), some (vI v2)] [vI (v1 + 1), vI 9, vR 63] from ?_)
    exact gWeak (L' := [none, none, some (vI v2)]) ⟨rfl, trivial⟩ (hj5 _ (Eq.symm (if_neg c7)))
  · refine gBk (pe := 77) hO [oI (.iconst 0) 0, o0 (.goto 6)] (by decide +kernel) (show tWG K B 0 0 S I J 77 [some (vR 61), some (vI v1), some (vI v2)] [vI 0, vI 9, vR 63] from ?_)
    exact gWeak (L' := [none, none, some (vI v2)]) ⟨rfl, trivial⟩ (hj5 _ (Eq.symm (if_pos c7)))
set_option maxRecDepth 20000 in
theorem hc12_rideIt : tCV yX12_rideIt cX12_rideIt 3 (some .int) 0 := ⟨⟨(List.mem_of_getElem? (i := 1050) rfl), (List.mem_of_getElem? (i := 5) (by decide +kernel)), by decide +kernel⟩, (List.mem_of_getElem? (i := 1048) (by decide +kernel)), (List.mem_of_getElem? (i := 1049) (by decide +kernel))⟩
set_option maxRecDepth 100000 in
theorem M12_rideIt {l : Launch} {B : tB} {S : tSH} {I : tHI} {J : tHJ} {n : Nat} {k : Int32 → tHI → tHJ → Prop} (t0 : ty S 61 12) (h : F12_rideIt n S I J k) : Met l yX12_rideIt (tWs yX12_rideIt cX12_rideIt 3 (some .int)) (tRm 9 0 0) (tPc B [vR 61] S I J) (tQi B (tPi S k)) 0 0 (tA B) :=
  tEntry (by decide +kernel) [some (vR 61), none, none] rfl rfl (Nat.le_of_ble_eq_true rfl) (fun K hl hR hO hQ hG => by
  subst hl
  refine gBk (pe := 17) hO [o0 (.aload_n 0), oF (.getfield 13) 12 3 179 63, oI (.bipush 9) 9, o0 .iaload, o0 (.istore_n 1), o0 (.aload_n 0), o0 (.iload_n 1), o0 (.aload_n 0), oF (.getfield 13) 12 3 179 63, oI (.bipush 10) 10, o0 .iaload] (by decide +kernel) (And.intro t0 (And.intro rfl (And.intro (tGr.off hG t0 (k := 3) rfl) (And.intro (tin (tGr.len hG t0 (k := 3) rfl (by decide)) (tvi (by decide +kernel))) (And.intro (Nat.le_of_ble_eq_true rfl) (And.intro t0 (And.intro rfl (And.intro (tGr.off hG t0 (k := 3) rfl) (And.intro (tin (tGr.len hG t0 (k := 3) rfl (by decide)) (tvi (by decide +kernel))) (show tWG K B 0 0 S I J 17 [some (vR 61), some (vI (I 63 9)), none] [vI (I 63 10), vI (I 63 9), vR 61] from ?_))))))))))
  refine gCVi_c hO (M12_goesNow t0 h) hc12_goesNow (idx := 478) (w := 1051) (by decide +kernel) hR (by omega) t0 ⟨by decide, rfl⟩ (vs := [vI (I 63 9), vI (I 63 10)]) (st := []) ⟨rfl, Nat.le_of_ble_eq_true rfl, rfl⟩ (by decide +kernel) (fun x3 I1 J2 h => ?_)
  refine gBk (pe := 22) hO [o0 (.istore_n 2), o0 (.iload_n 2)] (by decide +kernel) (And.intro (Nat.le_of_ble_eq_true rfl) (show tWG K B 0 0 S I1 J2 22 [some (vR 61), some (vI (I 63 9)), some (vI x3)] [vI x3] from ?_))
  refine gIfNe hO (off := 11) (tgt := 33) (by decide +kernel) (by decide) (fun c4 => ?_) (fun c4 => ?_)
  · have h := h.1 c4
    refine gBk (pe := 52) hO [o0 (.aload_n 0), oF (.getfield 13) 12 3 179 63, oI (.bipush 12) 12, o0 .dup2, o0 .iaload, oI (.iconst 1) 1, o0 .iadd, o0 .iastore, o0 (.aload_n 0), oF (.getfield 13) 12 3 179 63, oI (.bipush 10) 10, oI (.iconst 0) 0, o0 .iastore] (by decide +kernel) (And.intro t0 (And.intro rfl (And.intro (tGr.off hG t0 (k := 3) rfl) (And.intro (tin (tGr.len hG t0 (k := 3) rfl (by decide)) (tvi (by decide +kernel))) (And.intro (tGr.off hG t0 (k := 3) rfl) (And.intro (tin (tGr.len hG t0 (k := 3) rfl (by decide)) (tvi (by decide +kernel))) (And.intro t0 (And.intro rfl (And.intro (tGr.off hG t0 (k := 3) rfl) (And.intro (tin (tGr.len hG t0 (k := 3) rfl (by decide)) (tvi (by decide +kernel))) (show tWG K B 0 0 S (uI (uI I1 63 12 ((I1 63 12) + 1)) 63 10 0) J2 52 [some (vR 61), some (vI (I 63 9)), some (vI x3)] [] from ?_)))))))))))
    exact W12_rideIt_52 hO hR hG t0 hQ h
  · have h := h.2 c4
    refine gBk (pe := 27) hO [o0 (.aload_n 0), o0 (.iload_n 1)] (by decide +kernel) (show tWG K B 0 0 S I1 J2 27 [some (vR 61), some (vI (I 63 9)), some (vI x3)] [vI (I 63 9), vR 61] from ?_)
    refine gCVv_c hO (M12_learn t0 h) hc12_learn (idx := 512) (w := 1058) (by decide +kernel) hR (by omega) t0 ⟨by decide, rfl⟩ (vs := [vI (I 63 9)]) (st := []) ⟨rfl, Nat.le_of_ble_eq_true rfl, rfl⟩ (by decide +kernel) (fun I8 J9 h => ?_)
    refine gBk (pe := 52) hO [o0 (.goto 22)] (by decide +kernel) (show tWG K B 0 0 S I8 J9 52 [some (vR 61), some (vI (I 63 9)), some (vI x3)] [] from ?_)
    exact W12_rideIt_52 hO hR hG t0 hQ h)
set_option maxRecDepth 100000 in
theorem W12_rideNow_19 {K : tK} {B : tB} {S : tSH} {MC MS : Nat} (hO : tKO K B RX12 cX12_rideNow 1) (hR : kR K = tRm 10 MC MS) (hG : tGr S) {n : Nat} (t0 : ty S 61 12) {k : Int32 → tHI → tHJ → Prop} (hQ : tRet K B (tQi B (tPi S k)) 0 0 (some .int)) {I : tHI} {J : tHJ} (h : F12_rideNow_19 n S k I J) : tWG K B 0 0 S I J 19 [none] [] := by
  refine gBk (pe := 21) hO [oI (.bipush (-3)) (-3)] (by decide +kernel) (show tWG K B 0 0 S I J 21 [none] [vI (-3)] from ?_)
  exact gIret hO hQ (by decide +kernel) ⟨rfl, h⟩
set_option maxRecDepth 20000 in
theorem hc12_rideNow : tCV yX12_rideNow cX12_rideNow 1 (some .int) 0 := ⟨⟨(List.mem_of_getElem? (i := 1046) rfl), (List.mem_of_getElem? (i := 5) (by decide +kernel)), by decide +kernel⟩, (List.mem_of_getElem? (i := 1044) (by decide +kernel)), (List.mem_of_getElem? (i := 1045) (by decide +kernel))⟩
set_option maxRecDepth 100000 in
theorem M12_rideNow {l : Launch} {B : tB} {S : tSH} {I : tHI} {J : tHJ} {n : Nat} {k : Int32 → tHI → tHJ → Prop} (t0 : ty S 61 12) (h : F12_rideNow n S I J k) : Met l yX12_rideNow (tWs yX12_rideNow cX12_rideNow 1 (some .int)) (tRm 10 0 0) (tPc B [vR 61] S I J) (tQi B (tPi S k)) 0 0 (tA B) :=
  tEntry (by decide +kernel) [some (vR 61)] rfl rfl (Nat.le_of_ble_eq_true rfl) (fun K hl hR hO hQ hG => by
  subst hl
  refine gBk (pe := 7) hO [o0 (.aload_n 0), oF (.getfield 13) 12 3 179 63, oI (.bipush 10) 10, o0 .iaload] (by decide +kernel) (And.intro t0 (And.intro rfl (And.intro (tGr.off hG t0 (k := 3) rfl) (And.intro (tin (tGr.len hG t0 (k := 3) rfl (by decide)) (tvi (by decide +kernel))) (show tWG K B 0 0 S I J 7 [some (vR 61)] [vI (I 63 10)] from ?_)))))
  refine gIfEq hO (off := 12) (tgt := 19) (by decide +kernel) (by decide) (fun c1 => ?_) (fun c1 => ?_)
  · have h := h.1 c1
    exact gWeak (L' := [none]) trivial (W12_rideNow_19 hO hR hG t0 hQ h)
  · have h := h.2 c1
    refine gBk (pe := 16) hO [o0 (.aload_n 0), oF (.getfield 13) 12 3 179 63, oI (.iconst 1) 1, o0 .iaload] (by decide +kernel) (And.intro t0 (And.intro rfl (And.intro (tGr.off hG t0 (k := 3) rfl) (And.intro (tin (tGr.len hG t0 (k := 3) rfl (by decide)) (tvi (by decide +kernel))) (show tWG K B 0 0 S I J 16 [some (vR 61)] [vI (I 63 1)] from ?_)))))
    refine gIfNe hO (off := 6) (tgt := 22) (by decide +kernel) (by decide) (fun c2 => ?_) (fun c2 => ?_)
    · have h := h.1 c2
      refine gBk (pe := 24) hO [o0 (.aload_n 0), oI (.iconst 5) 5] (by decide +kernel) (show tWG K B 0 0 S I J 24 [some (vR 61)] [vI 5, vR 61] from ?_)
      refine gCVv_c hO (M12_remember t0 h) hc12_remember (idx := 515) (w := 1018) (by decide +kernel) hR (by omega) t0 ⟨by decide, rfl⟩ (vs := [vI 5]) (st := []) ⟨rfl, Nat.le_of_ble_eq_true rfl, rfl⟩ (by decide +kernel) (fun I3 J4 h => ?_)
      refine gBk (pe := 28) hO [o0 (.aload_n 0)] (by decide +kernel) (show tWG K B 0 0 S I3 J4 28 [some (vR 61)] [vR 61] from ?_)
      refine gCVi_c hO (M12_rideIt t0 h) hc12_rideIt (idx := 537) (w := 1047) (by decide +kernel) hR (by omega) t0 ⟨by decide, rfl⟩ (vs := []) (st := []) ⟨rfl, Nat.le_of_ble_eq_true rfl, rfl⟩ (by decide +kernel) (fun x7 I5 J6 h => ?_)
      exact gIret hO hQ (by decide +kernel) ⟨rfl, h⟩
    · have h := h.2 c2
      exact gWeak (L' := [none]) trivial (W12_rideNow_19 hO hR hG t0 hQ h))
set_option maxRecDepth 20000 in
theorem hc12_ride : tCV yX12_ride cX12_ride 1 (some .int) 0 := ⟨⟨(List.mem_of_getElem? (i := 1143) rfl), (List.mem_of_getElem? (i := 5) (by decide +kernel)), by decide +kernel⟩, (List.mem_of_getElem? (i := 1141) (by decide +kernel)), (List.mem_of_getElem? (i := 1142) (by decide +kernel))⟩
set_option maxRecDepth 100000 in
theorem M12_ride {l : Launch} {B : tB} {S : tSH} {I : tHI} {J : tHJ} {n : Nat} {k : Int32 → tHI → tHJ → Prop} (t0 : ty S 61 12) (h : F12_ride n S I J k) : Met l yX12_ride (tWs yX12_ride cX12_ride 1 (some .int)) (tRm 11 0 0) (tPc B [vR 61] S I J) (tQi B (tPi S k)) 0 0 (tA B) :=
  tEntry (by decide +kernel) [some (vR 61)] rfl rfl (Nat.le_of_ble_eq_true rfl) (fun K hl hR hO hQ hG => by
  subst hl
  refine gBk (pe := 7) hO [o0 (.aload_n 0), oI (.iconst 0) 0, oF (.putfield 161) 12 0 316 0, o0 (.aload_n 0), o0 (.aload_n 0)] (by decide +kernel) (And.intro t0 (show tWG K B 0 0 S (uI I 61 0 0) J 7 [some (vR 61)] [vR 61, vR 61] from ?_))
  refine gCVi_c hO (M12_rideNow t0 h) hc12_rideNow (idx := 540) (w := 1043) (by decide +kernel) hR (by omega) t0 ⟨by decide, rfl⟩ (vs := []) (st := [vR 61]) ⟨rfl, Nat.le_of_ble_eq_true rfl, rfl⟩ (by decide +kernel) (fun x3 I1 J2 h => ?_)
  refine gCVi_c hO (M12_tell t0 h) hc12_tell (idx := 170) (w := 322) (by decide +kernel) hR (by omega) t0 ⟨by decide, rfl⟩ (vs := [vI x3]) (st := []) ⟨rfl, Nat.le_of_ble_eq_true rfl, rfl⟩ (by decide +kernel) (fun x6 I4 J5 h => ?_)
  exact gIret hO hQ (by decide +kernel) ⟨rfl, h⟩)
set_option maxRecDepth 100000 in
theorem W12_readSum_22 {K : tK} {B : tB} {S : tSH} {MC MS : Nat} (hO : tKO K B RX12 cX12_readSum 2) (hR : kR K = tRm 9 MC MS) (hG : tGr S) {n : Nat} (t0 : ty S 61 12) {k : tHI → tHJ → Prop} (hQ : tRet K B (tQv B (tPv S k)) 0 0 none) {I : tHI} {J : tHJ} {v1 : Int32} (h : F12_readSum_22 n S k I J v1) : tWG K B 0 0 S I J 22 [some (vR 61), some (vI v1)] [] := by
  refine gBk (pe := 34) hO [o0 (.aload_n 0), oF (.getfield 152) 12 50 235 87, o0 (.iload_n 1), oI (.iconst 1) 1, o0 .iadd, o0 (.aload_n 0), oF (.getfield 300) 12 23 768 0, o0 .iastore] (by decide +kernel) (And.intro t0 (And.intro rfl (And.intro t0 (And.intro (tGr.off hG t0 (k := 50) rfl) (And.intro (tin (tGr.len hG t0 (k := 50) rfl (by decide)) h.1) (show tWG K B 0 0 S (uI I 87 (v1 + 1).toNatClampNeg (I 61 23)) J 34 [some (vR 61), some (vI v1)] [] from ?_))))))
  have h := h.2
  exact gVret hO hQ (by decide +kernel) ⟨rfl, h⟩
set_option maxRecDepth 20000 in
theorem hc12_readSum : tCV yX12_readSum cX12_readSum 2 none 1 := ⟨⟨(List.mem_of_getElem? (i := 996) rfl), (List.mem_of_getElem? (i := 5) (by decide +kernel)), by decide +kernel⟩, (List.mem_of_getElem? (i := 994) (by decide +kernel)), (List.mem_of_getElem? (i := 995) (by decide +kernel))⟩
set_option maxRecDepth 100000 in
theorem M12_readSum {l : Launch} {B : tB} {S : tSH} {I : tHI} {J : tHJ} {v1 : Int32} {n : Nat} {k : tHI → tHJ → Prop} (t0 : ty S 61 12) (h : F12_readSum n S I J v1 k) : Met l yX12_readSum (tWs yX12_readSum cX12_readSum 2 none) (tRm 9 0 0) (tPc B [vR 61, vI v1] S I J) (tQv B (tPv S k)) 0 0 (tA B) :=
  tEntry (by decide +kernel) [some (vR 61), some (vI v1)] rfl rfl (Nat.le_of_ble_eq_true rfl) (fun K hl hR hO hQ hG => by
  subst hl
  refine gBk (pe := 14) hO [o0 (.aload_n 0), oF (.getfield 152) 12 50 235 87, o0 (.iload_n 1), o0 (.aload_n 0), oF (.getfield 300) 12 23 768 0, o0 .iastore, o0 (.aload_n 0), oF (.getfield 261) 12 19 766 0] (by decide +kernel) (And.intro t0 (And.intro rfl (And.intro t0 (And.intro (tGr.off hG t0 (k := 50) rfl) (And.intro (tin (tGr.len hG t0 (k := 50) rfl (by decide)) h.1) (And.intro t0 (show tWG K B 0 0 S (uI I 87 v1.toNatClampNeg (I 61 23)) J 14 [some (vR 61), some (vI v1)] [vI ((uI I 87 v1.toNatClampNeg (I 61 23)) 61 19)] from ?_)))))))
  have h := h.2
  refine gIfNe hO (off := 8) (tgt := 22) (by decide +kernel) (by decide) (fun c1 => ?_) (fun c1 => ?_)
  · have h := h.1 c1
    exact W12_readSum_22 hO hR hG t0 hQ h
  · have h := h.2 c1
    refine gBk (pe := 19) hO [o0 (.aload_n 0), oI (.iconst 0) 0] (by decide +kernel) (show tWG K B 0 0 S (uI I 87 v1.toNatClampNeg (I 61 23)) J 19 [some (vR 61), some (vI v1)] [vI 0, vR 61] from ?_)
    refine gCVv_c hO (M12_readExpression t0 h) hc12_readExpression (idx := 399) (w := 809) (by decide +kernel) hR (by omega) t0 ⟨by decide, rfl⟩ (vs := [vI 0]) (st := []) ⟨rfl, Nat.le_of_ble_eq_true rfl, rfl⟩ (by decide +kernel) (fun I2 J3 h => ?_)
    exact W12_readSum_22 hO hR hG t0 hQ h)
set_option maxRecDepth 100000 in
theorem W12_readOrder_258 {K : tK} {B : tB} {S : tSH} {MC MS : Nat} (hO : tKO K B RX12 cX12_readOrder 4) (hR : kR K = tRm 10 MC MS) (hG : tGr S) {n : Nat} (t0 : ty S 61 12) {k : tHI → tHJ → Prop} (hQ : tRet K B (tQv B (tPv S k)) 0 0 none) {I : tHI} {J : tHJ} {v2 : Int32} (h : F12_readOrder_258 n S k I J v2) : tWG K B 0 0 S I J 258 [some (vR 61), none, some (vI v2), none] [] := by
  refine gBk (pe := 271) hO [o0 (.aload_n 0), oF (.getfield 152) 12 50 235 87, o0 (.iload_n 2), oI (.bipush 6) 6, o0 .iadd, o0 (.aload_n 0), oF (.getfield 300) 12 23 768 0, o0 .iastore] (by decide +kernel) (And.intro t0 (And.intro rfl (And.intro t0 (And.intro (tGr.off hG t0 (k := 50) rfl) (And.intro (tin (tGr.len hG t0 (k := 50) rfl (by decide)) h.1) (show tWG K B 0 0 S (uI I 87 (v2 + 6).toNatClampNeg (I 61 23)) J 271 [some (vR 61), none, some (vI v2), none] [] from ?_))))))
  have h := h.2
  exact gVret hO hQ (by decide +kernel) ⟨rfl, h⟩
set_option maxRecDepth 100000 in
theorem W12_readOrder_220 {K : tK} {B : tB} {S : tSH} {MC MS : Nat} (hO : tKO K B RX12 cX12_readOrder 4) (hR : kR K = tRm 10 MC MS) (hG : tGr S) {n : Nat} (t0 : ty S 61 12) {k : tHI → tHJ → Prop} (hQ : tRet K B (tQv B (tPv S k)) 0 0 none) {I : tHI} {J : tHJ} {v2 : Int32} (h : F12_readOrder_220 n S k I J v2) : tWG K B 0 0 S I J 220 [some (vR 61), none, some (vI v2), none] [] := by
  refine gBk (pe := 236) hO [o0 (.aload_n 0), oF (.getfield 152) 12 50 235 87, o0 (.iload_n 2), oI (.iconst 5) 5, o0 .iadd, o0 (.aload_n 0), oF (.getfield 300) 12 23 768 0, o0 .iastore, o0 (.aload_n 0), oF (.getfield 261) 12 19 766 0] (by decide +kernel) (And.intro t0 (And.intro rfl (And.intro t0 (And.intro (tGr.off hG t0 (k := 50) rfl) (And.intro (tin (tGr.len hG t0 (k := 50) rfl (by decide)) h.1) (And.intro t0 (show tWG K B 0 0 S (uI I 87 (v2 + 5).toNatClampNeg (I 61 23)) J 236 [some (vR 61), none, some (vI v2), none] [vI ((uI I 87 (v2 + 5).toNatClampNeg (I 61 23)) 61 19)] from ?_)))))))
  have h := h.2
  refine gIfNe hO (off := 22) (tgt := 258) (by decide +kernel) (by decide) (fun c16 => ?_) (fun c16 => ?_)
  · have h := h.1 c16
    exact W12_readOrder_258 hO hR hG t0 hQ h
  · have h := h.2 c16
    refine gBk (pe := 240) hO [o0 (.aload_n 0)] (by decide +kernel) (show tWG K B 0 0 S (uI I 87 (v2 + 5).toNatClampNeg (I 61 23)) J 240 [some (vR 61), none, some (vI v2), none] [vR 61] from ?_)
    refine gBk (pe := 243) hO [(.ldc2_w 402, (0, 0, 800, 0), 0, 294)] (by decide +kernel) (show tWG K B 0 0 S (uI I 87 (v2 + 5).toNatClampNeg (I 61 23)) J 243 [some (vR 61), none, some (vI v2), none] [vL 294, vR 61] from ?_)
    refine gCVi_z hO (M12_isWord t0) hc12_isWord (idx := 321) (w := 801) (by decide +kernel) hR (by omega) t0 ⟨by decide, rfl⟩ (vs := [vL 294]) (st := []) ⟨rfl, Nat.le_of_ble_eq_true rfl, rfl⟩ (by decide +kernel) (fun z17 => ?_)
    refine gIfEq hO (off := 12) (tgt := 258) (by decide +kernel) (by decide) (fun c18 => ?_) (fun c18 => ?_)
    · have h := h.1 c18
      exact W12_readOrder_258 hO hR hG t0 hQ h
    · have h := h.2 c18
      refine gBk (pe := 250) hO [o0 (.aload_n 0)] (by decide +kernel) (show tWG K B 0 0 S (uI I 87 (v2 + 5).toNatClampNeg (I 61 23)) J 250 [some (vR 61), none, some (vI v2), none] [vR 61] from ?_)
      refine gCVv_c hO (M12_next t0 h) hc12_next (idx := 265) (w := 779) (by decide +kernel) hR (by omega) t0 ⟨by decide, rfl⟩ (vs := []) (st := []) ⟨rfl, Nat.le_of_ble_eq_true rfl, rfl⟩ (by decide +kernel) (fun I19 J20 h => ?_)
      refine gBk (pe := 255) hO [o0 (.aload_n 0), oI (.iconst 1) 1] (by decide +kernel) (show tWG K B 0 0 S I19 J20 255 [some (vR 61), none, some (vI v2), none] [vI 1, vR 61] from ?_)
      refine gCVv_c hO (M12_readExpression t0 h) hc12_readExpression (idx := 399) (w := 809) (by decide +kernel) hR (by omega) t0 ⟨by decide, rfl⟩ (vs := [vI 1]) (st := []) ⟨rfl, Nat.le_of_ble_eq_true rfl, rfl⟩ (by decide +kernel) (fun I21 J22 h => ?_)
      exact W12_readOrder_258 hO hR hG t0 hQ h
set_option maxRecDepth 100000 in
theorem W12_readOrder_172 {K : tK} {B : tB} {S : tSH} {MC MS : Nat} (hO : tKO K B RX12 cX12_readOrder 4) (hR : kR K = tRm 10 MC MS) (hG : tGr S) {n : Nat} (t0 : ty S 61 12) {k : tHI → tHJ → Prop} (hQ : tRet K B (tQv B (tPv S k)) 0 0 none) {I : tHI} {J : tHJ} {v2 : Int32} (h : F12_readOrder_172 n S k I J v2) : tWG K B 0 0 S I J 172 [some (vR 61), none, some (vI v2), none] [] := by
  refine gBk (pe := 186) hO [o0 (.aload_n 0), oF (.getfield 152) 12 50 235 87, o0 (.iload_n 2), oI (.bipush 7) 7, o0 .iadd, oI (.iconst 1) 1, o0 .iastore, o0 (.aload_n 0), oF (.getfield 261) 12 19 766 0] (by decide +kernel) (And.intro t0 (And.intro rfl (And.intro (tGr.off hG t0 (k := 50) rfl) (And.intro (tin (tGr.len hG t0 (k := 50) rfl (by decide)) h.1) (And.intro t0 (show tWG K B 0 0 S (uI I 87 (v2 + 7).toNatClampNeg 1) J 186 [some (vR 61), none, some (vI v2), none] [vI ((uI I 87 (v2 + 7).toNatClampNeg 1) 61 19)] from ?_))))))
  have h := h.2
  refine gIfNe hO (off := 34) (tgt := 220) (by decide +kernel) (by decide) (fun c15 => ?_) (fun c15 => ?_)
  · have h := h.1 c15
    exact W12_readOrder_220 hO hR hG t0 hQ h
  · have h := h.2 c15
    refine gBk (pe := 190) hO [o0 (.aload_n 0)] (by decide +kernel) (show tWG K B 0 0 S (uI I 87 (v2 + 7).toNatClampNeg 1) J 190 [some (vR 61), none, some (vI v2), none] [vR 61] from ?_)
    refine gBk (pe := 193) hO [(.ldc2_w 550, (0, 0, 992, 0), 0, 21279923)] (by decide +kernel) (show tWG K B 0 0 S (uI I 87 (v2 + 7).toNatClampNeg 1) J 193 [some (vR 61), none, some (vI v2), none] [vL 21279923, vR 61] from ?_)
    refine gCVi_z hO (M12_isWord t0) hc12_isWord (idx := 321) (w := 801) (by decide +kernel) hR (by omega) t0 ⟨by decide, rfl⟩ (vs := [vL 21279923]) (st := []) ⟨rfl, Nat.le_of_ble_eq_true rfl, rfl⟩ (by decide +kernel) (fun z23 => ?_)
    refine gIfEq hO (off := 24) (tgt := 220) (by decide +kernel) (by decide) (fun c24 => ?_) (fun c24 => ?_)
    · have h := h.1 c24
      exact W12_readOrder_220 hO hR hG t0 hQ h
    · have h := h.2 c24
      refine gBk (pe := 200) hO [o0 (.aload_n 0)] (by decide +kernel) (show tWG K B 0 0 S (uI I 87 (v2 + 7).toNatClampNeg 1) J 200 [some (vR 61), none, some (vI v2), none] [vR 61] from ?_)
      refine gCVv_c hO (M12_next t0 h) hc12_next (idx := 265) (w := 779) (by decide +kernel) hR (by omega) t0 ⟨by decide, rfl⟩ (vs := []) (st := []) ⟨rfl, Nat.le_of_ble_eq_true rfl, rfl⟩ (by decide +kernel) (fun I25 J26 h => ?_)
      refine gBk (pe := 213) hO [o0 (.aload_n 0), oF (.getfield 152) 12 50 235 87, o0 (.iload_n 2), oI (.bipush 7) 7, o0 .iadd, o0 (.aload_n 0), oJ (.lconst 1) 0 1] (by decide +kernel) (And.intro t0 (And.intro rfl (show tWG K B 0 0 S I25 J26 213 [some (vR 61), none, some (vI v2), none] [vL 1, vR 61, vI (v2 + 7), vR 87] from ?_)))
      refine gBk (pe := 216) hO [(.ldc2_w 313, (0, 0, 487, 0), 0, 20)] (by decide +kernel) (show tWG K B 0 0 S I25 J26 216 [some (vR 61), none, some (vI v2), none] [vL 20, vL 1, vR 61, vI (v2 + 7), vR 87] from ?_)
      refine gCVi_c hO (M12_number t0 h) hc12_number (idx := 360) (w := 855) (by decide +kernel) hR (by omega) t0 ⟨by decide, rfl⟩ (vs := [vL 1, vL 20]) (st := [vI (v2 + 7), vR 87]) ⟨rfl, Nat.le_of_ble_eq_true rfl, rfl⟩ (by decide +kernel) (fun x29 I27 J28 h => ?_)
      refine gBk (pe := 220) hO [o0 .iastore] (by decide +kernel) (And.intro (tGr.off hG t0 (k := 50) rfl) (And.intro (tin (tGr.len hG t0 (k := 50) rfl (by decide)) h.1) (show tWG K B 0 0 S (uI I27 87 (v2 + 7).toNatClampNeg x29) J28 220 [some (vR 61), none, some (vI v2), none] [] from ?_)))
      have h := h.2
      exact W12_readOrder_220 hO hR hG t0 hQ h
set_option maxRecDepth 100000 in
theorem W12_readOrder_165 {K : tK} {B : tB} {S : tSH} {MC MS : Nat} (hO : tKO K B RX12 cX12_readOrder 4) (hR : kR K = tRm 10 MC MS) (hG : tGr S) {n : Nat} (t0 : ty S 61 12) {k : tHI → tHJ → Prop} (hQ : tRet K B (tQv B (tPv S k)) 0 0 none) {I : tHI} {J : tHJ} {v2 : Int32} (h : F12_readOrder_165 n S k I J v2) : tWG K B 0 0 S I J 165 [some (vR 61), none, some (vI v2), none] [] := by
  refine gBk (pe := 169) hO [o0 (.aload_n 0), o0 (.iload_n 2), oI (.iconst 3) 3, o0 .iadd] (by decide +kernel) (show tWG K B 0 0 S I J 169 [some (vR 61), none, some (vI v2), none] [vI (v2 + 3), vR 61] from ?_)
  refine gCVv_c hO (M12_readSum t0 h) hc12_readSum (idx := 543) (w := 993) (by decide +kernel) hR (by omega) t0 ⟨by decide, rfl⟩ (vs := [vI (v2 + 3)]) (st := []) ⟨rfl, Nat.le_of_ble_eq_true rfl, rfl⟩ (by decide +kernel) (fun I13 J14 h => ?_)
  exact W12_readOrder_172 hO hR hG t0 hQ h
set_option maxRecDepth 100000 in
theorem W12_readOrder_136 {K : tK} {B : tB} {S : tSH} {MC MS : Nat} (hO : tKO K B RX12 cX12_readOrder 4) (hR : kR K = tRm 10 MC MS) (hG : tGr S) {n : Nat} (t0 : ty S 61 12) {k : tHI → tHJ → Prop} (hQ : tRet K B (tQv B (tPv S k)) 0 0 none) {I : tHI} {J : tHJ} {v1 : Int32} {v2 : Int32} (h : F12_readOrder_136 n S k I J v1 v2) : tWG K B 0 0 S I J 136 [some (vR 61), some (vI v1), some (vI v2), none] [] := by
  refine gBk (pe := 140) hO [o0 (.aload_n 0), oF (.getfield 261) 12 19 766 0] (by decide +kernel) (And.intro t0 (show tWG K B 0 0 S I J 140 [some (vR 61), some (vI v1), some (vI v2), none] [vI (I 61 19)] from ?_))
  refine gIfNe hO (off := 25) (tgt := 165) (by decide +kernel) (by decide) (fun c12 => ?_) (fun c12 => ?_)
  · have h := h.1 c12
    exact gWeak (L' := [some (vR 61), none, some (vI v2), none]) ⟨rfl, rfl, trivial⟩ (W12_readOrder_165 hO hR hG t0 hQ h)
  · have h := h.2 c12
    refine gBk (pe := 147) hO [o0 (.aload_n 0), o0 (.aload_n 0), o0 (.iload_n 1), oI (.iconst 3) 3] (by decide +kernel) (show tWG K B 0 0 S I J 147 [some (vR 61), some (vI v1), some (vI v2), none] [vI 3, vI v1, vR 61, vR 61] from ?_)
    have hj30 : ∀ (m31 : Int64), m31 = (if v1 = 3 then (52 : Int64) else 89) → tWG K B 0 0 S I J 159 [some (vR 61), none, some (vI v2), none] [vL m31, vR 61, vR 61] := by
      intro m31 em31
      subst em31
      refine gCVi_z hO (M12_isWord t0) hc12_isWord (idx := 321) (w := 801) (by decide +kernel) hR (by omega) t0 ⟨by decide, rfl⟩ (vs := [vL (if v1 = 3 then (52 : Int64) else 89)]) (st := [vR 61]) ⟨rfl, Nat.le_of_ble_eq_true rfl, rfl⟩ (by decide +kernel) (fun z33 => ?_)
      refine gCVv_c hO (M12_must t0 h) hc12_must (idx := 296) (w := 805) (by decide +kernel) hR (by omega) t0 ⟨by decide, rfl⟩ (vs := [vI (V12_isWord S I J (if v1 = 3 then (52 : Int64) else 89))]) (st := []) ⟨rfl, Nat.le_of_ble_eq_true rfl, rfl⟩ (by decide +kernel) (fun I34 J35 h => ?_)
      exact W12_readOrder_165 hO hR hG t0 hQ h
    refine gIcNe hO (off := 9) (tgt := 156) (by decide +kernel) (by decide) (fun c32 => ?_) (fun c32 => ?_)
    · refine gBk (pe := 159) hO [(.ldc2_w 548, (0, 0, 991, 0), 0, 89)] (by decide +kernel) (show tWG K B 0 0 S I J 159 [some (vR 61), some (vI v1), some (vI v2), none] [vL 89, vR 61, vR 61] from ?_)
      exact gWeak (L' := [some (vR 61), none, some (vI v2), none]) ⟨rfl, rfl, trivial⟩ (hj30 _ (Eq.symm (if_neg c32)))
    · refine gBk (pe := 159) hO [(.ldc2_w 546, (0, 0, 990, 0), 0, 52), o0 (.goto 6)] (by decide +kernel) (show tWG K B 0 0 S I J 159 [some (vR 61), some (vI v1), some (vI v2), none] [vL 52, vR 61, vR 61] from ?_)
      exact gWeak (L' := [some (vR 61), none, some (vI v2), none]) ⟨rfl, rfl, trivial⟩ (hj30 _ (Eq.symm (if_pos c32)))
set_option maxRecDepth 100000 in
theorem W12_readOrder_126 {K : tK} {B : tB} {S : tSH} {MC MS : Nat} (hO : tKO K B RX12 cX12_readOrder 4) (hR : kR K = tRm 10 MC MS) (hG : tGr S) {n : Nat} (t0 : ty S 61 12) {k : tHI → tHJ → Prop} (hQ : tRet K B (tQv B (tPv S k)) 0 0 none) {I : tHI} {J : tHJ} {v1 : Int32} {v2 : Int32} (h : F12_readOrder_126 n S k I J v1 v2) : tWG K B 0 0 S I J 126 [some (vR 61), some (vI v1), some (vI v2), none] [] := by
  refine gBk (pe := 128) hO [o0 (.iload_n 1), oI (.iconst 3) 3] (by decide +kernel) (show tWG K B 0 0 S I J 128 [some (vR 61), some (vI v1), some (vI v2), none] [vI 3, vI v1] from ?_)
  refine gIcEq hO (off := 8) (tgt := 136) (by decide +kernel) (by decide) (fun c11 => ?_) (fun c11 => ?_)
  · have h := h.1 c11
    exact W12_readOrder_136 hO hR hG t0 hQ h
  · have h := h.2 c11
    refine gBk (pe := 133) hO [o0 (.iload_n 1), oI (.iconst 4) 4] (by decide +kernel) (show tWG K B 0 0 S I J 133 [some (vR 61), some (vI v1), some (vI v2), none] [vI 4, vI v1] from ?_)
    refine gIcNe hO (off := 39) (tgt := 172) (by decide +kernel) (by decide) (fun c36 => ?_) (fun c36 => ?_)
    · have h := h.1 c36
      exact gWeak (L' := [some (vR 61), none, some (vI v2), none]) ⟨rfl, rfl, trivial⟩ (W12_readOrder_172 hO hR hG t0 hQ h)
    · have h := h.2 c36
      exact W12_readOrder_136 hO hR hG t0 hQ h
set_option maxRecDepth 100000 in
theorem W12_readOrder_86 {K : tK} {B : tB} {S : tSH} {MC MS : Nat} (hO : tKO K B RX12 cX12_readOrder 4) (hR : kR K = tRm 10 MC MS) (hG : tGr S) {n : Nat} (t0 : ty S 61 12) {k : tHI → tHJ → Prop} (hQ : tRet K B (tQv B (tPv S k)) 0 0 none) {kb86 : tHI → tHJ → Int32 → Int32 → Int32 → Prop} (hkb86 : ∀ (I : tHI) (J : tHJ) (v1 : Int32) (v2 : Int32) (v3 : Int32), kb86 I J v1 v2 v3 → tWG K B 0 0 S I J 86 [some (vR 61), some (vI v1), some (vI v2), some (vI v3)] []) {I : tHI} {J : tHJ} {v1 : Int32} {v2 : Int32} {v3 : Int32} (h : F12_readOrder_86 n S k kb86 I J v1 v2 v3) : tWG K B 0 0 S I J 86 [some (vR 61), some (vI v1), some (vI v2), some (vI v3)] [] := by
  refine gBk (pe := 89) hO [o0 (.iload_n 3), oI (.bipush 8) 8] (by decide +kernel) (show tWG K B 0 0 S I J 89 [some (vR 61), some (vI v1), some (vI v2), some (vI v3)] [vI 8, vI v3] from ?_)
  refine gIcGe hO (off := 18) (tgt := 107) (by decide +kernel) (by decide) (fun c9 => ?_) (fun c9 => ?_)
  · have h := h.1 c9
    refine gBk (pe := 116) hO [o0 (.aload_n 0), oF (.getfield 152) 12 50 235 87, o0 (.iload_n 2), o0 (.iload_n 1), o0 .iastore, o0 (.iload_n 1), oI (.iconst 5) 5] (by decide +kernel) (And.intro t0 (And.intro rfl (And.intro (tGr.off hG t0 (k := 50) rfl) (And.intro (tin (tGr.len hG t0 (k := 50) rfl (by decide)) h.1) (show tWG K B 0 0 S (uI I 87 v2.toNatClampNeg v1) J 116 [some (vR 61), some (vI v1), some (vI v2), some (vI v3)] [vI 5, vI v1] from ?_)))))
    have h := h.2
    refine gIcEq hO (off := 10) (tgt := 126) (by decide +kernel) (by decide) (fun c10 => ?_) (fun c10 => ?_)
    · have h := h.1 c10
      exact gWeak (L' := [some (vR 61), some (vI v1), some (vI v2), none]) ⟨rfl, rfl, rfl, trivial⟩ (W12_readOrder_126 hO hR hG t0 hQ h)
    · have h := h.2 c10
      refine gBk (pe := 123) hO [o0 (.aload_n 0), o0 (.iload_n 2), oI (.iconst 1) 1, o0 .iadd] (by decide +kernel) (show tWG K B 0 0 S (uI I 87 v2.toNatClampNeg v1) J 123 [some (vR 61), some (vI v1), some (vI v2), some (vI v3)] [vI (v2 + 1), vR 61] from ?_)
      refine gCVv_c hO (M12_readSum t0 h) hc12_readSum (idx := 543) (w := 993) (by decide +kernel) hR (by omega) t0 ⟨by decide, rfl⟩ (vs := [vI (v2 + 1)]) (st := []) ⟨rfl, Nat.le_of_ble_eq_true rfl, rfl⟩ (by decide +kernel) (fun I37 J38 h => ?_)
      exact gWeak (L' := [some (vR 61), some (vI v1), some (vI v2), none]) ⟨rfl, rfl, rfl, trivial⟩ (W12_readOrder_126 hO hR hG t0 hQ h)
  · have h := h.2 c9
    refine gBk (pe := 86) hO [o0 (.aload_n 0), oF (.getfield 152) 12 50 235 87, o0 (.iload_n 2), o0 (.iload_n 3), o0 .iadd, oI (.iconst 0) 0, o0 .iastore, oI (.iinc 3 1) 1, o0 (.goto (-18))] (by decide +kernel) (And.intro t0 (And.intro rfl (And.intro (tGr.off hG t0 (k := 50) rfl) (And.intro (tin (tGr.len hG t0 (k := 50) rfl (by decide)) h.1) (show tWG K B 0 0 S (uI I 87 (v2 + v3).toNatClampNeg 0) J 86 [some (vR 61), some (vI v1), some (vI v2), some (vI (v3 + 1))] [] from ?_)))))
    have h := h.2
    exact hkb86 _ _ _ _ _ h
theorem W12_readOrder_L86 {K : tK} {B : tB} {S : tSH} {MC MS : Nat} (hO : tKO K B RX12 cX12_readOrder 4) (hR : kR K = tRm 10 MC MS) (hG : tGr S) {n : Nat} (t0 : ty S 61 12) {k : tHI → tHJ → Prop} (hQ : tRet K B (tQv B (tPv S k)) 0 0 none) : ∀ (f : Nat) (I : tHI) (J : tHJ) (v1 : Int32) (v2 : Int32) (v3 : Int32), F12_readOrder_L86 n S k f I J v1 v2 v3 → tWG K B 0 0 S I J 86 [some (vR 61), some (vI v1), some (vI v2), some (vI v3)] [] := by
  intro f
  induction f with
  | zero => intro I J v1 v2 v3 h; exact h.elim
  | succ f ih => intro I J v1 v2 v3 h; exact W12_readOrder_86 hO hR hG t0 hQ ih h
set_option maxRecDepth 100000 in
theorem W12_readOrder_4 {K : tK} {B : tB} {S : tSH} {MC MS : Nat} (hO : tKO K B RX12 cX12_readOrder 4) (hR : kR K = tRm 10 MC MS) (hG : tGr S) {n : Nat} (t0 : ty S 61 12) {k : tHI → tHJ → Prop} (hQ : tRet K B (tQv B (tPv S k)) 0 0 none) {kb4 : tHI → tHJ → Int32 → Int32 → Prop} (hkb4 : ∀ (I : tHI) (J : tHJ) (v1 : Int32) (v2 : Int32), kb4 I J v1 v2 → tWG K B 0 0 S I J 4 [some (vR 61), some (vI v1), some (vI v2), none] []) {I : tHI} {J : tHJ} {v1 : Int32} {v2 : Int32} (h : F12_readOrder_4 n S k kb4 I J v1 v2) : tWG K B 0 0 S I J 4 [some (vR 61), some (vI v1), some (vI v2), none] [] := by
  refine gBk (pe := 7) hO [o0 (.iload_n 2), oI (.bipush 6) 6] (by decide +kernel) (show tWG K B 0 0 S I J 7 [some (vR 61), some (vI v1), some (vI v2), none] [vI 6, vI v2] from ?_)
  refine gIcGe hO (off := 28) (tgt := 35) (by decide +kernel) (by decide) (fun c1 => ?_) (fun c1 => ?_)
  · have h := h.1 c1
    refine gBk (pe := 38) hO [o0 (.aload_n 0), o0 (.iload_n 1), oI (.iconst (-1)) (-1)] (by decide +kernel) (show tWG K B 0 0 S I J 38 [some (vR 61), some (vI v1), some (vI v2), none] [vI (-1), vI v1, vR 61] from ?_)
    have hj2 : ∀ (m3 : Int32), m3 = (if v1 = (-1) then 0 else (if 12 ≤ (I 61 21) then (0 : Int32) else 1)) → tWG K B 0 0 S I J 55 [some (vR 61), some (vI v1), none, none] [vI m3, vR 61] := by
      intro m3 em3
      subst em3
      refine gCVv_c hO (M12_must t0 h) hc12_must (idx := 296) (w := 805) (by decide +kernel) hR (by omega) t0 ⟨by decide, rfl⟩ (vs := [vI (if v1 = (-1) then 0 else (if 12 ≤ (I 61 21) then (0 : Int32) else 1))]) (st := []) ⟨rfl, Nat.le_of_ble_eq_true rfl, rfl⟩ (by decide +kernel) (fun I6 J7 h => ?_)
      refine gBk (pe := 62) hO [o0 (.aload_n 0), oF (.getfield 261) 12 19 766 0] (by decide +kernel) (And.intro t0 (show tWG K B 0 0 S I6 J7 62 [some (vR 61), some (vI v1), none, none] [vI (I6 61 19)] from ?_))
      refine gIfEq hO (off := 4) (tgt := 66) (by decide +kernel) (by decide) (fun c8 => ?_) (fun c8 => ?_)
      · have h := h.1 c8
        refine gBk (pe := 86) hO [oI (.bipush 8) 8, o0 (.aload_n 0), oF (.getfield 396) 12 21 767 0, o0 .imul, o0 (.istore_n 2), o0 (.aload_n 0), o0 .dup, oF (.getfield 396) 12 21 767 0, oI (.iconst 1) 1, o0 .iadd, oF (.putfield 396) 12 21 767 0, oI (.iconst 0) 0, o0 (.istore_n 3)] (by decide +kernel) (And.intro t0 (And.intro (Nat.le_of_ble_eq_true rfl) (And.intro t0 (And.intro t0 (And.intro (Nat.le_of_ble_eq_true rfl) (show tWG K B 0 0 S (uI I6 61 21 ((I6 61 21) + 1)) J7 86 [some (vR 61), some (vI v1), some (vI (8 * (I6 61 21))), some (vI 0)] [] from ?_))))))
        exact W12_readOrder_L86 hO hR hG t0 hQ n _ _ _ _ _ h
      · have h := h.2 c8
        exact gVret hO hQ (by decide +kernel) ⟨rfl, h⟩
    refine gIcEq hO (off := 16) (tgt := 54) (by decide +kernel) (by decide) (fun c4 => ?_) (fun c4 => ?_)
    · refine gBk (pe := 55) hO [oI (.iconst 0) 0] (by decide +kernel) (show tWG K B 0 0 S I J 55 [some (vR 61), some (vI v1), some (vI v2), none] [vI 0, vR 61] from ?_)
      exact gWeak (L' := [some (vR 61), some (vI v1), none, none]) ⟨rfl, rfl, trivial⟩ (hj2 _ (Eq.symm (if_pos c4)))
    · refine gBk (pe := 47) hO [o0 (.aload_n 0), oF (.getfield 396) 12 21 767 0, oI (.bipush 12) 12] (by decide +kernel) (And.intro t0 (show tWG K B 0 0 S I J 47 [some (vR 61), some (vI v1), some (vI v2), none] [vI 12, vI (I 61 21), vR 61] from ?_))
      refine gIcGe hO (off := 7) (tgt := 54) (by decide +kernel) (by decide) (fun c5 => ?_) (fun c5 => ?_)
      · refine gBk (pe := 55) hO [oI (.iconst 0) 0] (by decide +kernel) (show tWG K B 0 0 S I J 55 [some (vR 61), some (vI v1), some (vI v2), none] [vI 0, vR 61] from ?_)
        exact gWeak (L' := [some (vR 61), some (vI v1), none, none]) ⟨rfl, rfl, trivial⟩ (hj2 _ (Eq.symm ((if_neg c4).trans (if_pos c5))))
      · refine gBk (pe := 55) hO [oI (.iconst 1) 1, o0 (.goto 4)] (by decide +kernel) (show tWG K B 0 0 S I J 55 [some (vR 61), some (vI v1), some (vI v2), none] [vI 1, vR 61] from ?_)
        exact gWeak (L' := [some (vR 61), some (vI v1), none, none]) ⟨rfl, rfl, trivial⟩ (hj2 _ (Eq.symm ((if_neg c4).trans (if_neg c5))))
  · have h := h.2 c1
    refine gBk (pe := 17) hO [o0 (.aload_n 0), o0 (.aload_n 0), oF (.getfield 149) 12 49 234 86, o0 (.iload_n 2), o0 .laload] (by decide +kernel) (And.intro t0 (And.intro rfl (And.intro (tGr.off hG t0 (k := 49) rfl) (And.intro (tin (tGr.len hG t0 (k := 49) rfl (by decide)) h.1) (show tWG K B 0 0 S I J 17 [some (vR 61), some (vI v1), some (vI v2), none] [vL (J 86 v2.toNatClampNeg), vR 61] from ?_)))))
    have h := h.2
    refine gCVi_z hO (M12_isWord t0) hc12_isWord (idx := 321) (w := 801) (by decide +kernel) hR (by omega) t0 ⟨by decide, rfl⟩ (vs := [vL (J 86 v2.toNatClampNeg)]) (st := []) ⟨rfl, Nat.le_of_ble_eq_true rfl, rfl⟩ (by decide +kernel) (fun z39 => ?_)
    have hj40 : ∀ (m41 : Int32), m41 = (if (V12_isWord S I J (J 86 v2.toNatClampNeg)) = 0 then v1 else v2) → tWG K B 0 0 S I J 28 [some (vR 61), none, some (vI v2), none] [vI m41] := by
      intro m41 em41
      subst em41
      refine gBk (pe := 4) hO [o0 (.istore_n 1), oI (.iinc 2 1) 1, o0 (.goto (-28))] (by decide +kernel) (And.intro (Nat.le_of_ble_eq_true rfl) (show tWG K B 0 0 S I J 4 [some (vR 61), some (vI (if (V12_isWord S I J (J 86 v2.toNatClampNeg)) = 0 then v1 else v2)), some (vI (v2 + 1)), none] [] from ?_))
      exact hkb4 _ _ _ _ h
    refine gIfEq hO (off := 7) (tgt := 27) (by decide +kernel) (by decide) (fun c42 => ?_) (fun c42 => ?_)
    · refine gBk (pe := 28) hO [o0 (.iload_n 1)] (by decide +kernel) (show tWG K B 0 0 S I J 28 [some (vR 61), some (vI v1), some (vI v2), none] [vI v1] from ?_)
      exact gWeak (L' := [some (vR 61), none, some (vI v2), none]) ⟨rfl, rfl, trivial⟩ (hj40 _ (Eq.symm (if_pos c42)))
    · refine gBk (pe := 28) hO [o0 (.iload_n 2), o0 (.goto 4)] (by decide +kernel) (show tWG K B 0 0 S I J 28 [some (vR 61), some (vI v1), some (vI v2), none] [vI v2] from ?_)
      exact gWeak (L' := [some (vR 61), none, some (vI v2), none]) ⟨rfl, rfl, trivial⟩ (hj40 _ (Eq.symm (if_neg c42)))
theorem W12_readOrder_L4 {K : tK} {B : tB} {S : tSH} {MC MS : Nat} (hO : tKO K B RX12 cX12_readOrder 4) (hR : kR K = tRm 10 MC MS) (hG : tGr S) {n : Nat} (t0 : ty S 61 12) {k : tHI → tHJ → Prop} (hQ : tRet K B (tQv B (tPv S k)) 0 0 none) : ∀ (f : Nat) (I : tHI) (J : tHJ) (v1 : Int32) (v2 : Int32), F12_readOrder_L4 n S k f I J v1 v2 → tWG K B 0 0 S I J 4 [some (vR 61), some (vI v1), some (vI v2), none] [] := by
  intro f
  induction f with
  | zero => intro I J v1 v2 h; exact h.elim
  | succ f ih => intro I J v1 v2 h; exact W12_readOrder_4 hO hR hG t0 hQ ih h
set_option maxRecDepth 20000 in
theorem hc12_readOrder : tCV yX12_readOrder cX12_readOrder 4 none 0 := ⟨⟨(List.mem_of_getElem? (i := 989) rfl), (List.mem_of_getElem? (i := 5) (by decide +kernel)), by decide +kernel⟩, (List.mem_of_getElem? (i := 987) (by decide +kernel)), (List.mem_of_getElem? (i := 988) (by decide +kernel))⟩
set_option maxRecDepth 100000 in
theorem M12_readOrder {l : Launch} {B : tB} {S : tSH} {I : tHI} {J : tHJ} {n : Nat} {k : tHI → tHJ → Prop} (t0 : ty S 61 12) (h : F12_readOrder n S I J k) : Met l yX12_readOrder (tWs yX12_readOrder cX12_readOrder 4 none) (tRm 10 0 0) (tPc B [vR 61] S I J) (tQv B (tPv S k)) 0 0 (tA B) :=
  tEntry (by decide +kernel) [some (vR 61), none, none, none] rfl rfl (Nat.le_of_ble_eq_true rfl) (fun K hl hR hO hQ hG => by
  subst hl
  refine gBk (pe := 4) hO [oI (.iconst (-1)) (-1), o0 (.istore_n 1), oI (.iconst 0) 0, o0 (.istore_n 2)] (by decide +kernel) (And.intro (Nat.le_of_ble_eq_true rfl) (And.intro (Nat.le_of_ble_eq_true rfl) (show tWG K B 0 0 S I J 4 [some (vR 61), some (vI (-1)), some (vI 0), none] [] from ?_)))
  exact W12_readOrder_L4 hO hR hG t0 hQ n _ _ _ _ h)
set_option maxRecDepth 100000 in
theorem W12_sumOf_24 {K : tK} {B : tB} {S : tSH} {MC MS : Nat} (hO : tKO K B RX12 cX12_sumOf 2) (hR : kR K = tRm 5 MC MS) (hG : tGr S) {n : Nat} (t0 : ty S 61 12) {k : Int32 → tHI → tHJ → Prop} (hQ : tRet K B (tQi B (tPi S k)) 0 0 (some .int)) {I : tHI} {J : tHJ} (h : F12_sumOf_24 n S k I J) : tWG K B 0 0 S I J 24 [none, none] [] := by
  refine gBk (pe := 25) hO [oI (.iconst (-1)) (-1)] (by decide +kernel) (show tWG K B 0 0 S I J 25 [none, none] [vI (-1)] from ?_)
  exact gIret hO hQ (by decide +kernel) ⟨rfl, h⟩
set_option maxRecDepth 20000 in
theorem hc12_sumOf : tCV yX12_sumOf cX12_sumOf 2 (some .int) 1 := ⟨⟨(List.mem_of_getElem? (i := 1009) rfl), (List.mem_of_getElem? (i := 5) (by decide +kernel)), by decide +kernel⟩, (List.mem_of_getElem? (i := 1007) (by decide +kernel)), (List.mem_of_getElem? (i := 1008) (by decide +kernel))⟩
set_option maxRecDepth 100000 in
theorem M12_sumOf {l : Launch} {B : tB} {S : tSH} {I : tHI} {J : tHJ} {v1 : Int32} {n : Nat} {k : Int32 → tHI → tHJ → Prop} (t0 : ty S 61 12) (h : F12_sumOf n S I J v1 k) : Met l yX12_sumOf (tWs yX12_sumOf cX12_sumOf 2 (some .int)) (tRm 5 0 0) (tPc B [vR 61, vI v1] S I J) (tQi B (tPi S k)) 0 0 (tA B) :=
  tEntry (by decide +kernel) [some (vR 61), some (vI v1)] rfl rfl (Nat.le_of_ble_eq_true rfl) (fun K hl hR hO hQ hG => by
  subst hl
  refine gBk (pe := 4) hO [o0 (.aload_n 0), oF (.getfield 552) 12 54 1005 0] (by decide +kernel) (And.intro t0 (show tWG K B 0 0 S I J 4 [some (vR 61), some (vI v1)] [vI (I 61 54)] from ?_))
  refine gIfNe hO (off := 20) (tgt := 24) (by decide +kernel) (by decide) (fun c1 => ?_) (fun c1 => ?_)
  · have h := h.1 c1
    exact gWeak (L' := [none, none]) trivial (W12_sumOf_24 hO hR hG t0 hQ h)
  · have h := h.2 c1
    refine gBk (pe := 21) hO [o0 (.aload_n 0), oF (.getfield 152) 12 50 235 87, o0 (.iload_n 1), o0 .iaload, o0 (.aload_n 0), oF (.getfield 152) 12 50 235 87, o0 (.iload_n 1), oI (.iconst 1) 1, o0 .iadd, o0 .iaload] (by decide +kernel) (And.intro t0 (And.intro rfl (And.intro (tGr.off hG t0 (k := 50) rfl) (And.intro (tin (tGr.len hG t0 (k := 50) rfl (by decide)) h.1) (And.intro t0 (And.intro rfl (And.intro (tGr.off hG t0 (k := 50) rfl) (And.intro (tin (tGr.len hG t0 (k := 50) rfl (by decide)) h.2.1) (show tWG K B 0 0 S I J 21 [some (vR 61), some (vI v1)] [vI (I 87 (v1 + 1).toNatClampNeg), vI (I 87 v1.toNatClampNeg)] from ?_)))))))))
    have h := h.2.2
    refine gIcNe hO (off := 5) (tgt := 26) (by decide +kernel) (by decide) (fun c2 => ?_) (fun c2 => ?_)
    · have h := h.1 c2
      refine gBk (pe := 46) hO [o0 (.aload_n 0), oI (.iconst 1) 1, oF (.putfield 340) 12 20 348 0, o0 (.aload_n 0), o0 (.aload_n 0), oF (.getfield 152) 12 50 235 87, o0 (.iload_n 1), o0 .iaload, o0 (.aload_n 0), oF (.getfield 152) 12 50 235 87, o0 (.iload_n 1), oI (.iconst 1) 1, o0 .iadd, o0 .iaload] (by decide +kernel) (And.intro t0 (And.intro (Or.inr rfl) (And.intro t0 (And.intro rfl (And.intro (tGr.off hG t0 (k := 50) rfl) (And.intro (tin (tGr.len hG t0 (k := 50) rfl (by decide)) h.1) (And.intro t0 (And.intro rfl (And.intro (tGr.off hG t0 (k := 50) rfl) (And.intro (tin (tGr.len hG t0 (k := 50) rfl (by decide)) h.2.1) (show tWG K B 0 0 S (uI I 61 20 1) J 46 [some (vR 61), some (vI v1)] [vI ((uI I 61 20 1) 87 (v1 + 1).toNatClampNeg), vI ((uI I 61 20 1) 87 v1.toNatClampNeg), vR 61] from ?_)))))))))))
      have h := h.2.2
      refine gCVv_c hO (M12_reckonAll t0 h) hc12_reckonAll (idx := 432) (w := 344) (by decide +kernel) hR (by omega) t0 ⟨by decide, rfl⟩ (vs := [vI ((uI I 61 20 1) 87 v1.toNatClampNeg), vI ((uI I 61 20 1) 87 (v1 + 1).toNatClampNeg)]) (st := []) ⟨rfl, Nat.le_of_ble_eq_true rfl, rfl⟩ (by decide +kernel) (fun I3 J4 h => ?_)
      refine gBk (pe := 67) hO [o0 (.aload_n 0), oI (.iconst 0) 0, oF (.putfield 340) 12 20 348 0, o0 (.aload_n 0), o0 (.aload_n 0), oF (.getfield 413) 12 38 342 0, oF (.putfield 552) 12 54 1005 0, o0 (.aload_n 0), oF (.getfield 429) 12 39 343 0, o0 .l2i] (by decide +kernel) (And.intro t0 (And.intro (Or.inl rfl) (And.intro t0 (And.intro t0 (And.intro h.1 (And.intro t0 (show tWG K B 0 0 S (uI (uI I3 61 20 0) 61 54 ((uI I3 61 20 0) 61 38)) J4 67 [some (vR 61), some (vI v1)] [vI ((J4 61 39).toInt32)] from ?_)))))))
      have h := h.2
      exact gIret hO hQ (by decide +kernel) ⟨rfl, h⟩
    · have h := h.2 c2
      exact gWeak (L' := [none, none]) trivial (W12_sumOf_24 hO hR hG t0 hQ h))
set_option maxRecDepth 20000 in
theorem hc12_act : tCV yX12_act cX12_act 4 (some .int) 3 := ⟨⟨(List.mem_of_getElem? (i := 1013) rfl), (List.mem_of_getElem? (i := 5) (by decide +kernel)), by decide +kernel⟩, (List.mem_of_getElem? (i := 1011) (by decide +kernel)), (List.mem_of_getElem? (i := 1012) (by decide +kernel))⟩
set_option maxRecDepth 100000 in
theorem M12_act {l : Launch} {B : tB} {S : tSH} {I : tHI} {J : tHJ} {v1 : Int32} {v2 : Int32} {v3 : Int32} {n : Nat} {k : Int32 → tHI → tHJ → Prop} (t0 : ty S 61 12) (h : F12_act n S I J v1 v2 v3 k) : Met l yX12_act (tWs yX12_act cX12_act 4 (some .int)) (tRm 11 0 0) (tPc B [vR 61, vI v1, vI v2, vI v3] S I J) (tQi B (tPi S k)) 0 0 (tA B) :=
  tEntry (by decide +kernel) [some (vR 61), some (vI v1), some (vI v2), some (vI v3)] rfl rfl (Nat.le_of_ble_eq_true rfl) (fun K hl hR hO hQ hG => by
  subst hl
  refine gBk (pe := 1) hO [o0 (.iload_n 1)] (by decide +kernel) (show tWG K B 0 0 S I J 1 [some (vR 61), some (vI v1), some (vI v2), some (vI v3)] [vI v1] from ?_)
  by_cases c1 : v1 = 0
  · have h := h.1 c1
    refine gSwIn hO (dflt := 67) (lo := 0) (hi := 4) (offs := #[35, 41, 47, 53, 60]) (len := 35) (off := 35) (tgt := 36) 0 c1 (by decide +kernel) (by decide +kernel) ?_
    refine gBk (pe := 38) hO [o0 (.aload_n 0), o0 (.iload_n 2)] (by decide +kernel) (show tWG K B 0 0 S I J 38 [some (vR 61), some (vI v1), some (vI v2), some (vI v3)] [vI v2, vR 61] from ?_)
    refine gCVi_c hO (M12_gasNow t0 h) hc12_gasNow (idx := 518) (w := 1014) (by decide +kernel) hR (by omega) t0 ⟨by decide, rfl⟩ (vs := [vI v2]) (st := []) ⟨rfl, Nat.le_of_ble_eq_true rfl, rfl⟩ (by decide +kernel) (fun x4 I2 J3 h => ?_)
    exact gIret hO hQ (by decide +kernel) ⟨rfl, h⟩
  have h := h.2
  by_cases c5 : v1 = 1
  · have h := h.1 c5
    refine gSwIn hO (dflt := 67) (lo := 0) (hi := 4) (offs := #[35, 41, 47, 53, 60]) (len := 35) (off := 41) (tgt := 42) 1 c5 (by decide +kernel) (by decide +kernel) ?_
    refine gBk (pe := 44) hO [o0 (.aload_n 0), o0 (.iload_n 2)] (by decide +kernel) (show tWG K B 0 0 S I J 44 [some (vR 61), some (vI v1), some (vI v2), some (vI v3)] [vI v2, vR 61] from ?_)
    refine gCVi_c hO (M12_brakeNow t0 h) hc12_brakeNow (idx := 521) (w := 1022) (by decide +kernel) hR (by omega) t0 ⟨by decide, rfl⟩ (vs := [vI v2]) (st := []) ⟨rfl, Nat.le_of_ble_eq_true rfl, rfl⟩ (by decide +kernel) (fun x8 I6 J7 h => ?_)
    exact gIret hO hQ (by decide +kernel) ⟨rfl, h⟩
  have h := h.2
  by_cases c9 : v1 = 2
  · have h := h.1 c9
    refine gSwIn hO (dflt := 67) (lo := 0) (hi := 4) (offs := #[35, 41, 47, 53, 60]) (len := 35) (off := 47) (tgt := 48) 2 c9 (by decide +kernel) (by decide +kernel) ?_
    refine gBk (pe := 50) hO [o0 (.aload_n 0), o0 (.iload_n 2)] (by decide +kernel) (show tWG K B 0 0 S I J 50 [some (vR 61), some (vI v1), some (vI v2), some (vI v3)] [vI v2, vR 61] from ?_)
    refine gCVi_c hO (M12_laneNow t0 h) hc12_laneNow (idx := 526) (w := 1026) (by decide +kernel) hR (by omega) t0 ⟨by decide, rfl⟩ (vs := [vI v2]) (st := []) ⟨rfl, Nat.le_of_ble_eq_true rfl, rfl⟩ (by decide +kernel) (fun x12 I10 J11 h => ?_)
    exact gIret hO hQ (by decide +kernel) ⟨rfl, h⟩
  have h := h.2
  by_cases c13 : v1 = 3
  · have h := h.1 c13
    refine gSwIn hO (dflt := 67) (lo := 0) (hi := 4) (offs := #[35, 41, 47, 53, 60]) (len := 35) (off := 53) (tgt := 54) 3 c13 (by decide +kernel) (by decide +kernel) ?_
    refine gBk (pe := 57) hO [o0 (.aload_n 0), o0 (.iload_n 2), o0 (.iload_n 3)] (by decide +kernel) (show tWG K B 0 0 S I J 57 [some (vR 61), some (vI v1), some (vI v2), some (vI v3)] [vI v3, vI v2, vR 61] from ?_)
    refine gCVi_c hO (M12_putNow t0 h) hc12_putNow (idx := 529) (w := 1034) (by decide +kernel) hR (by omega) t0 ⟨by decide, rfl⟩ (vs := [vI v2, vI v3]) (st := []) ⟨rfl, Nat.le_of_ble_eq_true rfl, rfl⟩ (by decide +kernel) (fun x16 I14 J15 h => ?_)
    exact gIret hO hQ (by decide +kernel) ⟨rfl, h⟩
  have h := h.2
  by_cases c17 : v1 = 4
  · have h := h.1 c17
    refine gSwIn hO (dflt := 67) (lo := 0) (hi := 4) (offs := #[35, 41, 47, 53, 60]) (len := 35) (off := 60) (tgt := 61) 4 c17 (by decide +kernel) (by decide +kernel) ?_
    refine gBk (pe := 64) hO [o0 (.aload_n 0), o0 (.iload_n 2), o0 (.iload_n 3)] (by decide +kernel) (show tWG K B 0 0 S I J 64 [some (vR 61), some (vI v1), some (vI v2), some (vI v3)] [vI v3, vI v2, vR 61] from ?_)
    refine gCVi_c hO (M12_leanNow t0 h) hc12_leanNow (idx := 534) (w := 1038) (by decide +kernel) hR (by omega) t0 ⟨by decide, rfl⟩ (vs := [vI v2, vI v3]) (st := []) ⟨rfl, Nat.le_of_ble_eq_true rfl, rfl⟩ (by decide +kernel) (fun x20 I18 J19 h => ?_)
    exact gIret hO hQ (by decide +kernel) ⟨rfl, h⟩
  have h := h.2
  have hsw : swN 0 v1 5 := ⟨⟨⟨⟨⟨True.intro, c1⟩, c5⟩, c9⟩, c13⟩, c17⟩
  have h := h hsw
  refine gSwOut hO (dflt := 67) (lo := 0) (hi := 4) (offs := #[35, 41, 47, 53, 60]) (len := 35) (tgt := 68) (by decide +kernel) (sw_out (by decide) (by decide) hsw) (by decide) ?_
  refine gBk (pe := 69) hO [o0 (.aload_n 0)] (by decide +kernel) (show tWG K B 0 0 S I J 69 [some (vR 61), some (vI v1), some (vI v2), some (vI v3)] [vR 61] from ?_)
  refine gCVi_c hO (M12_rideNow t0 h) hc12_rideNow (idx := 540) (w := 1043) (by decide +kernel) hR (by omega) t0 ⟨by decide, rfl⟩ (vs := []) (st := []) ⟨rfl, Nat.le_of_ble_eq_true rfl, rfl⟩ (by decide +kernel) (fun x23 I21 J22 h => ?_)
  exact gIret hO hQ (by decide +kernel) ⟨rfl, h⟩)
set_option maxRecDepth 100000 in
theorem W12_run_125 {K : tK} {B : tB} {S : tSH} {MC MS : Nat} (hO : tKO K B RX12 cX12_run 5) (hR : kR K = tRm 12 MC MS) (hG : tGr S) {n : Nat} (t0 : ty S 61 12) {k : Int32 → tHI → tHJ → Prop} (hQ : tRet K B (tQi B (tPi S k)) 0 0 (some .int)) {I : tHI} {J : tHJ} {v1 : Int32} (h : F12_run_125 n S k I J v1) : tWG K B 0 0 S I J 125 [some (vR 61), some (vI v1), none, none, none] [] := by
  refine gBk (pe := 129) hO [o0 (.aload_n 0), o0 (.iload_n 1), oI (.iconst 1) 1, o0 .iadd] (by decide +kernel) (show tWG K B 0 0 S I J 129 [some (vR 61), some (vI v1), none, none, none] [vI (v1 + 1), vR 61] from ?_)
  refine gCVi_c hO (M12_sumOf t0 h) hc12_sumOf (idx := 561) (w := 1006) (by decide +kernel) hR (by omega) t0 ⟨by decide, rfl⟩ (vs := [vI (v1 + 1)]) (st := []) ⟨rfl, Nat.le_of_ble_eq_true rfl, rfl⟩ (by decide +kernel) (fun x4 I2 J3 h => ?_)
  refine gBk (pe := 137) hO [o0 (.istore_n 2), o0 (.aload_n 0), o0 (.iload_n 1), oI (.iconst 3) 3, o0 .iadd] (by decide +kernel) (And.intro (Nat.le_of_ble_eq_true rfl) (show tWG K B 0 0 S I2 J3 137 [some (vR 61), some (vI v1), some (vI x4), none, none] [vI (v1 + 3), vR 61] from ?_))
  refine gCVi_c hO (M12_sumOf t0 h) hc12_sumOf (idx := 561) (w := 1006) (by decide +kernel) hR (by omega) t0 ⟨by decide, rfl⟩ (vs := [vI (v1 + 3)]) (st := []) ⟨rfl, Nat.le_of_ble_eq_true rfl, rfl⟩ (by decide +kernel) (fun x7 I5 J6 h => ?_)
  refine gBk (pe := 145) hO [o0 (.istore_n 3), o0 (.aload_n 0), oF (.getfield 552) 12 54 1005 0] (by decide +kernel) (And.intro (Nat.le_of_ble_eq_true rfl) (And.intro t0 (show tWG K B 0 0 S I5 J6 145 [some (vR 61), some (vI v1), some (vI x4), some (vI x7), none] [vI (I5 61 54)] from ?_)))
  refine gIfEq hO (off := 6) (tgt := 151) (by decide +kernel) (by decide) (fun c8 => ?_) (fun c8 => ?_)
  · have h := h.1 c8
    refine gBk (pe := 160) hO [o0 (.aload_n 0), o0 (.aload_n 0), oF (.getfield 152) 12 50 235 87, o0 (.iload_n 1), o0 .iaload, o0 (.iload_n 2), o0 (.iload_n 3)] (by decide +kernel) (And.intro t0 (And.intro rfl (And.intro (tGr.off hG t0 (k := 50) rfl) (And.intro (tin (tGr.len hG t0 (k := 50) rfl (by decide)) h.1) (show tWG K B 0 0 S I5 J6 160 [some (vR 61), some (vI v1), some (vI x4), some (vI x7), none] [vI x7, vI x4, vI (I5 87 v1.toNatClampNeg), vR 61] from ?_)))))
    have h := h.2
    refine gCVi_c hO (M12_act t0 h) hc12_act (idx := 564) (w := 1010) (by decide +kernel) hR (by omega) t0 ⟨by decide, rfl⟩ (vs := [vI (I5 87 v1.toNatClampNeg), vI x4, vI x7]) (st := []) ⟨rfl, Nat.le_of_ble_eq_true rfl, rfl⟩ (by decide +kernel) (fun x11 I9 J10 h => ?_)
    refine gBk (pe := 167) hO [o0 (.istore 4), o0 (.iload 4)] (by decide +kernel) (And.intro (Nat.le_of_ble_eq_true rfl) (show tWG K B 0 0 S I9 J10 167 [some (vR 61), some (vI v1), some (vI x4), some (vI x7), some (vI x11)] [vI x11] from ?_))
    refine gIfGe hO (off := 6) (tgt := 173) (by decide +kernel) (by decide) (fun c12 => ?_) (fun c12 => ?_)
    · have h := h.1 c12
      refine gBk (pe := 181) hO [o0 (.aload_n 0), o0 (.aload_n 0), oF (.getfield 152) 12 50 235 87, o0 (.iload_n 1), o0 .iaload, oI (.iconst 5) 5] (by decide +kernel) (And.intro t0 (And.intro rfl (And.intro (tGr.off hG t0 (k := 50) rfl) (And.intro (tin (tGr.len hG t0 (k := 50) rfl (by decide)) h.1) (show tWG K B 0 0 S I9 J10 181 [some (vR 61), some (vI v1), some (vI x4), some (vI x7), some (vI x11)] [vI 5, vI (I9 87 v1.toNatClampNeg), vR 61] from ?_)))))
      have h := h.2
      have hj13 : ∀ (m14 : Int32), m14 = (if (I9 87 v1.toNatClampNeg) = 5 then x11 else (I9 61 52)) → tWG K B 0 0 S I9 J10 193 [some (vR 61), none, none, none, none] [vI m14, vR 61] := by
        intro m14 em14
        subst em14
        refine gBk (pe := 207) hO [oF (.putfield 558) 12 52 985 0, o0 (.aload_n 0), o0 .dup, oF (.getfield 555) 12 51 984 0, oI (.iconst 1) 1, o0 .iadd, oF (.putfield 555) 12 51 984 0, oI (.iconst 0) 0] (by decide +kernel) (And.intro t0 (And.intro t0 (And.intro t0 (show tWG K B 0 0 S (uI (uI I9 61 52 (if (I9 87 v1.toNatClampNeg) = 5 then x11 else (I9 61 52))) 61 51 (((uI I9 61 52 (if (I9 87 v1.toNatClampNeg) = 5 then x11 else (I9 61 52))) 61 51) + 1)) J10 207 [some (vR 61), none, none, none, none] [vI 0] from ?_))))
        exact gIret hO hQ (by decide +kernel) ⟨rfl, h⟩
      refine gIcNe hO (off := 8) (tgt := 189) (by decide +kernel) (by decide) (fun c15 => ?_) (fun c15 => ?_)
      · refine gBk (pe := 193) hO [o0 (.aload_n 0), oF (.getfield 558) 12 52 985 0] (by decide +kernel) (And.intro t0 (show tWG K B 0 0 S I9 J10 193 [some (vR 61), some (vI v1), some (vI x4), some (vI x7), some (vI x11)] [vI (I9 61 52), vR 61] from ?_))
        exact gWeak (L' := [some (vR 61), none, none, none, none]) ⟨rfl, trivial⟩ (hj13 _ (Eq.symm (if_neg c15)))
      · refine gBk (pe := 193) hO [o0 (.iload 4), o0 (.goto 7)] (by decide +kernel) (show tWG K B 0 0 S I9 J10 193 [some (vR 61), some (vI v1), some (vI x4), some (vI x7), some (vI x11)] [vI x11, vR 61] from ?_)
        exact gWeak (L' := [some (vR 61), none, none, none, none]) ⟨rfl, trivial⟩ (hj13 _ (Eq.symm (if_pos c15)))
    · have h := h.2 c12
      refine gBk (pe := 172) hO [oI (.bipush (-3)) (-3)] (by decide +kernel) (show tWG K B 0 0 S I9 J10 172 [some (vR 61), some (vI v1), some (vI x4), some (vI x7), some (vI x11)] [vI (-3)] from ?_)
      exact gIret hO hQ (by decide +kernel) ⟨rfl, h⟩
  · have h := h.2 c8
    refine gBk (pe := 150) hO [oI (.bipush (-3)) (-3)] (by decide +kernel) (show tWG K B 0 0 S I5 J6 150 [some (vR 61), some (vI v1), some (vI x4), some (vI x7), none] [vI (-3)] from ?_)
    exact gIret hO hQ (by decide +kernel) ⟨rfl, h⟩
set_option maxRecDepth 100000 in
theorem W12_run_123 {K : tK} {B : tB} {S : tSH} {MC MS : Nat} (hO : tKO K B RX12 cX12_run 5) (hR : kR K = tRm 12 MC MS) (hG : tGr S) {n : Nat} (t0 : ty S 61 12) {k : Int32 → tHI → tHJ → Prop} (hQ : tRet K B (tQi B (tPi S k)) 0 0 (some .int)) {I : tHI} {J : tHJ} (h : F12_run_123 n S k I J) : tWG K B 0 0 S I J 123 [none, none, none, none, none] [] := by
  refine gBk (pe := 124) hO [oI (.iconst 0) 0] (by decide +kernel) (show tWG K B 0 0 S I J 124 [none, none, none, none, none] [vI 0] from ?_)
  exact gIret hO hQ (by decide +kernel) ⟨rfl, h⟩
set_option maxRecDepth 20000 in
theorem hc12_run : tCV yX12_run cX12_run 5 (some .int) 1 := ⟨⟨(List.mem_of_getElem? (i := 1004) rfl), (List.mem_of_getElem? (i := 5) (by decide +kernel)), by decide +kernel⟩, (List.mem_of_getElem? (i := 1002) (by decide +kernel)), (List.mem_of_getElem? (i := 1003) (by decide +kernel))⟩
set_option maxRecDepth 100000 in
theorem M12_run {l : Launch} {B : tB} {S : tSH} {I : tHI} {J : tHJ} {v1 : Int32} {n : Nat} {k : Int32 → tHI → tHJ → Prop} (t0 : ty S 61 12) (h : F12_run n S I J v1 k) : Met l yX12_run (tWs yX12_run cX12_run 5 (some .int)) (tRm 12 0 0) (tPc B [vR 61, vI v1] S I J) (tQi B (tPi S k)) 0 0 (tA B) :=
  tEntry (by decide +kernel) [some (vR 61), some (vI v1), none, none, none] rfl rfl (Nat.le_of_ble_eq_true rfl) (fun K hl hR hO hQ hG => by
  subst hl
  refine gBk (pe := 101) hO [o0 (.aload_n 0), oF (.getfield 118) 12 36 222 80, oI (.iconst 1) 1, o0 (.aload_n 0), oF (.getfield 13) 12 3 179 63, oI (.bipush 10) 10, o0 .iaload, o0 .i2l, o0 .lastore, o0 (.aload_n 0), oF (.getfield 118) 12 36 222 80, oI (.iconst 2) 2, o0 (.aload_n 0), oF (.getfield 13) 12 3 179 63, oI (.bipush 9) 9, o0 .iaload, o0 .i2l, o0 .lastore, o0 (.aload_n 0), oF (.getfield 118) 12 36 222 80, oI (.iconst 3) 3, o0 (.aload_n 0), oF (.getfield 13) 12 3 179 63, oI (.bipush 11) 11, o0 .iaload, o0 .i2l, o0 .lastore, o0 (.aload_n 0), oF (.getfield 118) 12 36 222 80, oI (.iconst 4) 4, o0 (.aload_n 0), oF (.getfield 555) 12 51 984 0, o0 .i2l, o0 .lastore, o0 (.aload_n 0), oF (.getfield 118) 12 36 222 80, oI (.iconst 5) 5, o0 (.aload_n 0), oF (.getfield 558) 12 52 985 0, o0 .i2l, o0 .lastore, o0 (.aload_n 0), oF (.getfield 118) 12 36 222 80, oI (.bipush 6) 6, o0 (.aload_n 0), oF (.getfield 13) 12 3 179 63, oI (.bipush 12) 12, o0 .iaload, o0 .i2l, o0 .lastore, o0 (.aload_n 0), oI (.iconst 0) 0, oF (.putfield 552) 12 54 1005 0, o0 (.aload_n 0), oF (.getfield 152) 12 50 235 87, o0 (.iload_n 1), oI (.iconst 5) 5, o0 .iadd, o0 .iaload, o0 (.aload_n 0), oF (.getfield 152) 12 50 235 87, o0 (.iload_n 1), oI (.bipush 6) 6, o0 .iadd, o0 .iaload] (by decide +kernel) (And.intro t0 (And.intro rfl (And.intro t0 (And.intro rfl (And.intro (tGr.off hG t0 (k := 3) rfl) (And.intro (tin (tGr.len hG t0 (k := 3) rfl (by decide)) (tvi (by decide +kernel))) (And.intro (tGr.off hG t0 (k := 36) rfl) (And.intro (tin (tGr.len hG t0 (k := 36) rfl (by decide)) (tvi (by decide +kernel))) (And.intro t0 (And.intro rfl (And.intro t0 (And.intro rfl (And.intro (tGr.off hG t0 (k := 3) rfl) (And.intro (tin (tGr.len hG t0 (k := 3) rfl (by decide)) (tvi (by decide +kernel))) (And.intro (tGr.off hG t0 (k := 36) rfl) (And.intro (tin (tGr.len hG t0 (k := 36) rfl (by decide)) (tvi (by decide +kernel))) (And.intro t0 (And.intro rfl (And.intro t0 (And.intro rfl (And.intro (tGr.off hG t0 (k := 3) rfl) (And.intro (tin (tGr.len hG t0 (k := 3) rfl (by decide)) (tvi (by decide +kernel))) (And.intro (tGr.off hG t0 (k := 36) rfl) (And.intro (tin (tGr.len hG t0 (k := 36) rfl (by decide)) (tvi (by decide +kernel))) (And.intro t0 (And.intro rfl (And.intro t0 (And.intro (tGr.off hG t0 (k := 36) rfl) (And.intro (tin (tGr.len hG t0 (k := 36) rfl (by decide)) (tvi (by decide +kernel))) (And.intro t0 (And.intro rfl (And.intro t0 (And.intro (tGr.off hG t0 (k := 36) rfl) (And.intro (tin (tGr.len hG t0 (k := 36) rfl (by decide)) (tvi (by decide +kernel))) (And.intro t0 (And.intro rfl (And.intro t0 (And.intro rfl (And.intro (tGr.off hG t0 (k := 3) rfl) (And.intro (tin (tGr.len hG t0 (k := 3) rfl (by decide)) (tvi (by decide +kernel))) (And.intro (tGr.off hG t0 (k := 36) rfl) (And.intro (tin (tGr.len hG t0 (k := 36) rfl (by decide)) (tvi (by decide +kernel))) (And.intro t0 (And.intro (Or.inl rfl) (And.intro t0 (And.intro rfl (And.intro (tGr.off hG t0 (k := 50) rfl) (And.intro (tin (tGr.len hG t0 (k := 50) rfl (by decide)) h.1) (And.intro t0 (And.intro rfl (And.intro (tGr.off hG t0 (k := 50) rfl) (And.intro (tin (tGr.len hG t0 (k := 50) rfl (by decide)) h.2.1) (show tWG K B 0 0 S (uI I 61 54 0) (uJ (uJ (uJ (uJ (uJ (uJ J 80 1 (I 63 10).toInt64) 80 2 (I 63 9).toInt64) 80 3 (I 63 11).toInt64) 80 4 (I 61 51).toInt64) 80 5 (I 61 52).toInt64) 80 6 (I 63 12).toInt64) 101 [some (vR 61), some (vI v1), none, none, none] [vI ((uI I 61 54 0) 87 (v1 + 6).toNatClampNeg), vI ((uI I 61 54 0) 87 (v1 + 5).toNatClampNeg)] from ?_)))))))))))))))))))))))))))))))))))))))))))))))))))))
  have h := h.2.2
  refine gIcGe hO (off := 24) (tgt := 125) (by decide +kernel) (by decide) (fun c1 => ?_) (fun c1 => ?_)
  · have h := h.1 c1
    exact W12_run_125 hO hR hG t0 hQ h
  · have h := h.2 c1
    refine gBk (pe := 108) hO [o0 (.aload_n 0), o0 (.iload_n 1), oI (.iconst 5) 5, o0 .iadd] (by decide +kernel) (show tWG K B 0 0 S (uI I 61 54 0) (uJ (uJ (uJ (uJ (uJ (uJ J 80 1 (I 63 10).toInt64) 80 2 (I 63 9).toInt64) 80 3 (I 63 11).toInt64) 80 4 (I 61 51).toInt64) 80 5 (I 61 52).toInt64) 80 6 (I 63 12).toInt64) 108 [some (vR 61), some (vI v1), none, none, none] [vI (v1 + 5), vR 61] from ?_)
    refine gCVi_c hO (M12_sumOf t0 h) hc12_sumOf (idx := 561) (w := 1006) (by decide +kernel) hR (by omega) t0 ⟨by decide, rfl⟩ (vs := [vI (v1 + 5)]) (st := []) ⟨rfl, Nat.le_of_ble_eq_true rfl, rfl⟩ (by decide +kernel) (fun x18 I16 J17 h => ?_)
    refine gBk (pe := 116) hO [o0 (.istore_n 2), o0 (.aload_n 0), oF (.getfield 552) 12 54 1005 0] (by decide +kernel) (And.intro (Nat.le_of_ble_eq_true rfl) (And.intro t0 (show tWG K B 0 0 S I16 J17 116 [some (vR 61), some (vI v1), some (vI x18), none, none] [vI (I16 61 54)] from ?_)))
    refine gIfNe hO (off := 7) (tgt := 123) (by decide +kernel) (by decide) (fun c19 => ?_) (fun c19 => ?_)
    · have h := h.1 c19
      exact gWeak (L' := [none, none, none, none, none]) trivial (W12_run_123 hO hR hG t0 hQ h)
    · have h := h.2 c19
      refine gBk (pe := 120) hO [o0 (.iload_n 2)] (by decide +kernel) (show tWG K B 0 0 S I16 J17 120 [some (vR 61), some (vI v1), some (vI x18), none, none] [vI x18] from ?_)
      refine gIfNe hO (off := 5) (tgt := 125) (by decide +kernel) (by decide) (fun c20 => ?_) (fun c20 => ?_)
      · have h := h.1 c20
        exact gWeak (L' := [some (vR 61), some (vI v1), none, none, none]) ⟨rfl, rfl, trivial⟩ (W12_run_125 hO hR hG t0 hQ h)
      · have h := h.2 c20
        exact gWeak (L' := [none, none, none, none, none]) trivial (W12_run_123 hO hR hG t0 hQ h))
set_option maxRecDepth 100000 in
theorem W12_giveBack_35 {K : tK} {B : tB} {S : tSH} {MC MS : Nat} (hO : tKO K B RX12 cX12_giveBack 3) (hR : kR K = tRm 3 MC MS) (hG : tGr S) {n : Nat} (t0 : ty S 61 12) {k : tHI → tHJ → Prop} (hQ : tRet K B (tQv B (tPv S k)) 0 0 none) {kb35 : tHI → tHJ → Int32 → Int32 → Prop} (hkb35 : ∀ (I : tHI) (J : tHJ) (v1 : Int32) (v2 : Int32), kb35 I J v1 v2 → tWG K B 0 0 S I J 35 [some (vR 61), some (vI v1), some (vI v2)] []) {I : tHI} {J : tHJ} {v1 : Int32} {v2 : Int32} (h : F12_giveBack_35 n S k kb35 I J v1 v2) : tWG K B 0 0 S I J 35 [some (vR 61), some (vI v1), some (vI v2)] [] := by
  refine gBk (pe := 38) hO [o0 (.iload_n 2), oI (.bipush 16) 16] (by decide +kernel) (show tWG K B 0 0 S I J 38 [some (vR 61), some (vI v1), some (vI v2)] [vI 16, vI v2] from ?_)
  refine gIcGe hO (off := 21) (tgt := 59) (by decide +kernel) (by decide) (fun c4 => ?_) (fun c4 => ?_)
  · have h := h.1 c4
    refine gBk (pe := 64) hO [o0 (.aload_n 0), o0 (.iload_n 1), oF (.putfield 167) 12 8 372 0] (by decide +kernel) (And.intro t0 (show tWG K B 0 0 S (uI I 61 8 v1) J 64 [some (vR 61), some (vI v1), some (vI v2)] [] from ?_))
    exact gVret hO hQ (by decide +kernel) ⟨rfl, h⟩
  · have h := h.2 c4
    refine gBk (pe := 35) hO [o0 (.aload_n 0), oF (.getfield 26) 12 7 184 67, o0 (.iload_n 2), o0 (.aload_n 0), oF (.getfield 32) 12 10 186 69, o0 (.iload_n 2), o0 .iaload, o0 .iastore, oI (.iinc 2 1) 1, o0 (.goto (-21))] (by decide +kernel) (And.intro t0 (And.intro rfl (And.intro t0 (And.intro rfl (And.intro (tGr.off hG t0 (k := 10) rfl) (And.intro (tin (tGr.len hG t0 (k := 10) rfl (by decide)) h.1) (And.intro (tGr.off hG t0 (k := 7) rfl) (And.intro (tin (tGr.len hG t0 (k := 7) rfl (by decide)) h.2.1) (show tWG K B 0 0 S (uI I 67 v2.toNatClampNeg (I 69 v2.toNatClampNeg)) J 35 [some (vR 61), some (vI v1), some (vI (v2 + 1))] [] from ?_)))))))))
    have h := h.2.2
    exact hkb35 _ _ _ _ h
theorem W12_giveBack_L35 {K : tK} {B : tB} {S : tSH} {MC MS : Nat} (hO : tKO K B RX12 cX12_giveBack 3) (hR : kR K = tRm 3 MC MS) (hG : tGr S) {n : Nat} (t0 : ty S 61 12) {k : tHI → tHJ → Prop} (hQ : tRet K B (tQv B (tPv S k)) 0 0 none) : ∀ (f : Nat) (I : tHI) (J : tHJ) (v1 : Int32) (v2 : Int32), F12_giveBack_L35 n S k f I J v1 v2 → tWG K B 0 0 S I J 35 [some (vR 61), some (vI v1), some (vI v2)] [] := by
  intro f
  induction f with
  | zero => intro I J v1 v2 h; exact h.elim
  | succ f ih => intro I J v1 v2 h; exact W12_giveBack_35 hO hR hG t0 hQ ih h
set_option maxRecDepth 100000 in
theorem W12_giveBack_8 {K : tK} {B : tB} {S : tSH} {MC MS : Nat} (hO : tKO K B RX12 cX12_giveBack 3) (hR : kR K = tRm 3 MC MS) (hG : tGr S) {n : Nat} (t0 : ty S 61 12) {k : tHI → tHJ → Prop} (hQ : tRet K B (tQv B (tPv S k)) 0 0 none) {kb8 : tHI → tHJ → Int32 → Int32 → Prop} (hkb8 : ∀ (I : tHI) (J : tHJ) (v1 : Int32) (v2 : Int32), kb8 I J v1 v2 → tWG K B 0 0 S I J 8 [some (vR 61), some (vI v1), some (vI v2)] []) {I : tHI} {J : tHJ} {v1 : Int32} {v2 : Int32} (h : F12_giveBack_8 n S k kb8 I J v1 v2) : tWG K B 0 0 S I J 8 [some (vR 61), some (vI v1), some (vI v2)] [] := by
  refine gBk (pe := 12) hO [o0 (.iload_n 2), oI (.sipush 272) 272] (by decide +kernel) (show tWG K B 0 0 S I J 12 [some (vR 61), some (vI v1), some (vI v2)] [vI 272, vI v2] from ?_)
  refine gIcGe hO (off := 21) (tgt := 33) (by decide +kernel) (by decide) (fun c3 => ?_) (fun c3 => ?_)
  · have h := h.1 c3
    refine gBk (pe := 35) hO [oI (.iconst 0) 0, o0 (.istore_n 2)] (by decide +kernel) (And.intro (Nat.le_of_ble_eq_true rfl) (show tWG K B 0 0 S I J 35 [some (vR 61), some (vI v1), some (vI 0)] [] from ?_))
    exact W12_giveBack_L35 hO hR hG t0 hQ n _ _ _ _ h
  · have h := h.2 c3
    refine gBk (pe := 8) hO [o0 (.aload_n 0), oF (.getfield 23) 12 6 183 66, o0 (.iload_n 2), o0 (.aload_n 0), oF (.getfield 29) 12 9 185 68, o0 (.iload_n 2), o0 .iaload, o0 .iastore, oI (.iinc 2 1) 1, o0 (.goto (-22))] (by decide +kernel) (And.intro t0 (And.intro rfl (And.intro t0 (And.intro rfl (And.intro (tGr.off hG t0 (k := 9) rfl) (And.intro (tin (tGr.len hG t0 (k := 9) rfl (by decide)) h.1) (And.intro (tGr.off hG t0 (k := 6) rfl) (And.intro (tin (tGr.len hG t0 (k := 6) rfl (by decide)) h.2.1) (show tWG K B 0 0 S (uI I 66 v2.toNatClampNeg (I 68 v2.toNatClampNeg)) J 8 [some (vR 61), some (vI v1), some (vI (v2 + 1))] [] from ?_)))))))))
    have h := h.2.2
    exact hkb8 _ _ _ _ h
theorem W12_giveBack_L8 {K : tK} {B : tB} {S : tSH} {MC MS : Nat} (hO : tKO K B RX12 cX12_giveBack 3) (hR : kR K = tRm 3 MC MS) (hG : tGr S) {n : Nat} (t0 : ty S 61 12) {k : tHI → tHJ → Prop} (hQ : tRet K B (tQv B (tPv S k)) 0 0 none) : ∀ (f : Nat) (I : tHI) (J : tHJ) (v1 : Int32) (v2 : Int32), F12_giveBack_L8 n S k f I J v1 v2 → tWG K B 0 0 S I J 8 [some (vR 61), some (vI v1), some (vI v2)] [] := by
  intro f
  induction f with
  | zero => intro I J v1 v2 h; exact h.elim
  | succ f ih => intro I J v1 v2 h; exact W12_giveBack_8 hO hR hG t0 hQ ih h
set_option maxRecDepth 20000 in
theorem hc12_giveBack : tCV yX12_giveBack cX12_giveBack 3 none 1 := ⟨⟨(List.mem_of_getElem? (i := 1065) rfl), (List.mem_of_getElem? (i := 5) (by decide +kernel)), by decide +kernel⟩, (List.mem_of_getElem? (i := 1063) (by decide +kernel)), (List.mem_of_getElem? (i := 1064) (by decide +kernel))⟩
set_option maxRecDepth 100000 in
theorem M12_giveBack {l : Launch} {B : tB} {S : tSH} {I : tHI} {J : tHJ} {v1 : Int32} {n : Nat} {k : tHI → tHJ → Prop} (t0 : ty S 61 12) (h : F12_giveBack n S I J v1 k) : Met l yX12_giveBack (tWs yX12_giveBack cX12_giveBack 3 none) (tRm 3 0 0) (tPc B [vR 61, vI v1] S I J) (tQv B (tPv S k)) 0 0 (tA B) :=
  tEntry (by decide +kernel) [some (vR 61), some (vI v1), none] rfl rfl (Nat.le_of_ble_eq_true rfl) (fun K hl hR hO hQ hG => by
  subst hl
  refine gBk (pe := 3) hO [o0 (.aload_n 0), oI (.bipush 17) 17] (by decide +kernel) (show tWG K B 0 0 S I J 3 [some (vR 61), some (vI v1), none] [vI 17, vR 61] from ?_)
  refine gCVv_c hO (M12_putBack t0 h) hc12_putBack (idx := 178) (w := 1066) (by decide +kernel) hR (by omega) t0 ⟨by decide, rfl⟩ (vs := [vI 17]) (st := []) ⟨rfl, Nat.le_of_ble_eq_true rfl, rfl⟩ (by decide +kernel) (fun I1 J2 h => ?_)
  refine gBk (pe := 8) hO [oI (.iconst 0) 0, o0 (.istore_n 2)] (by decide +kernel) (And.intro (Nat.le_of_ble_eq_true rfl) (show tWG K B 0 0 S I1 J2 8 [some (vR 61), some (vI v1), some (vI 0)] [] from ?_))
  exact W12_giveBack_L8 hO hR hG t0 hQ n _ _ _ _ h)
set_option maxRecDepth 20000 in
theorem hc12_stopped : tCV yX12_stopped cX12_stopped 1 (some .int) 0 := ⟨⟨(List.mem_of_getElem? (i := 1086) rfl), (List.mem_of_getElem? (i := 5) (by decide +kernel)), by decide +kernel⟩, (List.mem_of_getElem? (i := 1084) (by decide +kernel)), (List.mem_of_getElem? (i := 1085) (by decide +kernel))⟩
set_option maxRecDepth 100000 in
theorem M12_stopped {l : Launch} {B : tB} {S : tSH} {I : tHI} {J : tHJ} {n : Nat} {k : Int32 → tHI → tHJ → Prop} (t0 : ty S 61 12) (h : F12_stopped n S I J k) : Met l yX12_stopped (tWs yX12_stopped cX12_stopped 1 (some .int)) (tRm 2 0 0) (tPc B [vR 61] S I J) (tQi B (tPi S k)) 0 0 (tA B) :=
  tEntry (by decide +kernel) [some (vR 61)] rfl rfl (Nat.le_of_ble_eq_true rfl) (fun K hl hR hO hQ hG => by
  subst hl
  refine gBk (pe := 9) hO [o0 (.aload_n 0), oI (.iconst 0) 0, oF (.putfield 161) 12 0 316 0, o0 (.aload_n 0), oF (.getfield 155) 12 53 236 0] (by decide +kernel) (And.intro t0 (And.intro t0 (show tWG K B 0 0 S (uI I 61 0 0) J 9 [some (vR 61)] [vI ((uI I 61 0 0) 61 53)] from ?_)))
  exact gIret hO hQ (by decide +kernel) ⟨rfl, h⟩)
set_option maxRecDepth 20000 in
theorem hc12_draw : tCV yX12_draw cX12_draw 2 (some .int) 1 := ⟨⟨(List.mem_of_getElem? (i := 1418) rfl), (List.mem_of_getElem? (i := 5) (by decide +kernel)), by decide +kernel⟩, (List.mem_of_getElem? (i := 1416) (by decide +kernel)), (List.mem_of_getElem? (i := 1417) (by decide +kernel))⟩
set_option maxRecDepth 100000 in
theorem M12_draw {l : Launch} {B : tB} {S : tSH} {I : tHI} {J : tHJ} {v1 : Int32} {n : Nat} {k : Int32 → tHI → tHJ → Prop} (t0 : ty S 61 12) (h : F12_draw n S I J v1 k) : Met l yX12_draw (tWs yX12_draw cX12_draw 2 (some .int)) (tRm 2 0 0) (tPc B [vR 61, vI v1] S I J) (tQi B (tPi S k)) 0 0 (tA B) :=
  tEntry (by decide +kernel) [some (vR 61), some (vI v1)] rfl rfl (Nat.le_of_ble_eq_true rfl) (fun K hl hR hO hQ hG => by
  subst hl
  refine gBk (pe := 5) hO [o0 (.aload_n 0), o0 (.aload_n 0), oF (.getfield 576) 12 55 1413 0] (by decide +kernel) (And.intro t0 (show tWG K B 0 0 S I J 5 [some (vR 61), some (vI v1)] [vL (J 61 55), vR 61] from ?_))
  refine gBk (pe := 9) hO [(.ldc2_w 579, (0, 0, 1419, 0), 0, 1103), o0 .lmul] (by decide +kernel) (show tWG K B 0 0 S I J 9 [some (vR 61), some (vI v1)] [vL ((J 61 55) * 1103), vR 61] from ?_)
  refine gBk (pe := 13) hO [(.ldc2_w 581, (0, 0, 1420, 0), 0, 12345), o0 .ladd] (by decide +kernel) (show tWG K B 0 0 S I J 13 [some (vR 61), some (vI v1)] [vL (((J 61 55) * 1103) + 12345), vR 61] from ?_)
  refine gBk (pe := 28) hO [(.ldc2_w 583, (0, 0, 1421, 0), 0, 1000003), o0 .lrem, oF (.putfield 576) 12 55 1413 0, o0 (.aload_n 0), oF (.getfield 576) 12 55 1413 0, o0 (.iload_n 1), o0 .i2l, o0 .lrem, o0 .l2i] (by decide +kernel) (And.intro (by decide) (And.intro t0 (And.intro t0 (And.intro h.1 (show tWG K B 0 0 S I (uJ J 61 55 ((((J 61 55) * 1103) + 12345) - (((J 61 55) * 1103) + 12345) / 1000003 * 1000003)) 28 [some (vR 61), some (vI v1)] [vI ((((uJ J 61 55 ((((J 61 55) * 1103) + 12345) - (((J 61 55) * 1103) + 12345) / 1000003 * 1000003)) 61 55) - ((uJ J 61 55 ((((J 61 55) * 1103) + 12345) - (((J 61 55) * 1103) + 12345) / 1000003 * 1000003)) 61 55) / v1.toInt64 * v1.toInt64).toInt32)] from ?_)))))
  have h := h.2
  exact gIret hO hQ (by decide +kernel) ⟨rfl, h⟩)
set_option maxRecDepth 100000 in
theorem W12_days_29 {K : tK} {B : tB} {S : tSH} {MC MS : Nat} (hO : tKO K B RX12 cX12_days 7) (hR : kR K = tRm 10 MC MS) (hG : tGr S) {n : Nat} (t0 : ty S 61 12) {k : Int32 → tHI → tHJ → Prop} (hQ : tRet K B (tQi B (tPi S k)) 0 0 (some .int)) {I : tHI} {J : tHJ} (h : F12_days_29 n S k I J) : tWG K B 0 0 S I J 29 [some (vR 61), none, none, none, none, none, none] [] := by
  refine gBk (pe := 31) hO [o0 (.aload_n 0), oI (.iconst (-1)) (-1)] (by decide +kernel) (show tWG K B 0 0 S I J 31 [some (vR 61), none, none, none, none, none, none] [vI (-1), vR 61] from ?_)
  refine gCVi_c hO (M12_tell t0 h) hc12_tell (idx := 170) (w := 322) (by decide +kernel) hR (by omega) t0 ⟨by decide, rfl⟩ (vs := [vI (-1)]) (st := []) ⟨rfl, Nat.le_of_ble_eq_true rfl, rfl⟩ (by decide +kernel) (fun x5 I3 J4 h => ?_)
  exact gIret hO hQ (by decide +kernel) ⟨rfl, h⟩
set_option maxRecDepth 100000 in
theorem W12_days_82 {K : tK} {B : tB} {S : tSH} {MC MS : Nat} (hO : tKO K B RX12 cX12_days 7) (hR : kR K = tRm 10 MC MS) (hG : tGr S) {n : Nat} (t0 : ty S 61 12) {k : Int32 → tHI → tHJ → Prop} (hQ : tRet K B (tQi B (tPi S k)) 0 0 (some .int)) {kb82 : tHI → tHJ → Int32 → Int32 → Int32 → Int32 → Prop} (hkb82 : ∀ (I : tHI) (J : tHJ) (v2 : Int32) (v3 : Int32) (v4 : Int32) (v5 : Int32), kb82 I J v2 v3 v4 v5 → tWG K B 0 0 S I J 82 [some (vR 61), none, some (vI v2), some (vI v3), some (vI v4), some (vI v5), none] []) {I : tHI} {J : tHJ} {v2 : Int32} {v3 : Int32} {v4 : Int32} {v5 : Int32} (h : F12_days_82 n S k kb82 I J v2 v3 v4 v5) : tWG K B 0 0 S I J 82 [some (vR 61), none, some (vI v2), some (vI v3), some (vI v4), some (vI v5), none] [] := by
  refine gBk (pe := 85) hO [o0 (.iload 5), o0 (.iload_n 2)] (by decide +kernel) (show tWG K B 0 0 S I J 85 [some (vR 61), none, some (vI v2), some (vI v3), some (vI v4), some (vI v5), none] [vI v2, vI v5] from ?_)
  refine gIcGe hO (off := 80) (tgt := 165) (by decide +kernel) (by decide) (fun c11 => ?_) (fun c11 => ?_)
  · have h := h.1 c11
    refine gBk (pe := 222) hO [o0 (.aload_n 0), oF (.getfield 158) 12 56 237 88, oI (.iconst 0) 0, o0 (.aload_n 0), oF (.getfield 13) 12 3 179 63, oI (.bipush 9) 9, o0 .iaload, o0 .iastore, o0 (.aload_n 0), oF (.getfield 158) 12 56 237 88, oI (.iconst 1) 1, o0 (.aload_n 0), oF (.getfield 13) 12 3 179 63, oI (.bipush 10) 10, o0 .iaload, o0 .iastore, o0 (.aload_n 0), oF (.getfield 158) 12 56 237 88, oI (.iconst 2) 2, o0 (.aload_n 0), oF (.getfield 13) 12 3 179 63, oI (.bipush 12) 12, o0 .iaload, o0 (.iload_n 3), o0 .isub, o0 .iastore, o0 (.aload_n 0), oF (.getfield 158) 12 56 237 88, oI (.iconst 3) 3, o0 (.aload_n 0), oF (.getfield 13) 12 3 179 63, oI (.bipush 13) 13, o0 .iaload, o0 .iastore, o0 (.aload_n 0), oI (.bipush 16) 16] (by decide +kernel) (And.intro t0 (And.intro rfl (And.intro t0 (And.intro rfl (And.intro (tGr.off hG t0 (k := 3) rfl) (And.intro (tin (tGr.len hG t0 (k := 3) rfl (by decide)) (tvi (by decide +kernel))) (And.intro (tGr.off hG t0 (k := 56) rfl) (And.intro (tin (tGr.len hG t0 (k := 56) rfl (by decide)) (tvi (by decide +kernel))) (And.intro t0 (And.intro rfl (And.intro t0 (And.intro rfl (And.intro (tGr.off hG t0 (k := 3) rfl) (And.intro (tin (tGr.len hG t0 (k := 3) rfl (by decide)) (tvi (by decide +kernel))) (And.intro (tGr.off hG t0 (k := 56) rfl) (And.intro (tin (tGr.len hG t0 (k := 56) rfl (by decide)) (tvi (by decide +kernel))) (And.intro t0 (And.intro rfl (And.intro t0 (And.intro rfl (And.intro (tGr.off hG t0 (k := 3) rfl) (And.intro (tin (tGr.len hG t0 (k := 3) rfl (by decide)) (tvi (by decide +kernel))) (And.intro (tGr.off hG t0 (k := 56) rfl) (And.intro (tin (tGr.len hG t0 (k := 56) rfl (by decide)) (tvi (by decide +kernel))) (And.intro t0 (And.intro rfl (And.intro t0 (And.intro rfl (And.intro (tGr.off hG t0 (k := 3) rfl) (And.intro (tin (tGr.len hG t0 (k := 3) rfl (by decide)) (tvi (by decide +kernel))) (And.intro (tGr.off hG t0 (k := 56) rfl) (And.intro (tin (tGr.len hG t0 (k := 56) rfl (by decide)) (tvi (by decide +kernel))) (show tWG K B 0 0 S (uI (uI (uI (uI I 88 0 (I 63 9)) 88 1 ((uI I 88 0 (I 63 9)) 63 10)) 88 2 (((uI (uI I 88 0 (I 63 9)) 88 1 ((uI I 88 0 (I 63 9)) 63 10)) 63 12) - v3)) 88 3 ((uI (uI (uI I 88 0 (I 63 9)) 88 1 ((uI I 88 0 (I 63 9)) 63 10)) 88 2 (((uI (uI I 88 0 (I 63 9)) 88 1 ((uI I 88 0 (I 63 9)) 63 10)) 63 12) - v3)) 63 13)) J 222 [some (vR 61), none, some (vI v2), some (vI v3), some (vI v4), some (vI v5), none] [vI 16, vR 61] from ?_)))))))))))))))))))))))))))))))))
    refine gCVv_c hO (M12_putBack t0 h) hc12_putBack (idx := 178) (w := 1066) (by decide +kernel) hR (by omega) t0 ⟨by decide, rfl⟩ (vs := [vI 16]) (st := []) ⟨rfl, Nat.le_of_ble_eq_true rfl, rfl⟩ (by decide +kernel) (fun I12 J13 h => ?_)
    refine gBk (pe := 228) hO [o0 (.aload_n 0), o0 (.iload 4)] (by decide +kernel) (show tWG K B 0 0 S I12 J13 228 [some (vR 61), none, some (vI v2), some (vI v3), some (vI v4), some (vI v5), none] [vI v4, vR 61] from ?_)
    refine gCVi_c hO (M12_tell t0 h) hc12_tell (idx := 170) (w := 322) (by decide +kernel) hR (by omega) t0 ⟨by decide, rfl⟩ (vs := [vI v4]) (st := []) ⟨rfl, Nat.le_of_ble_eq_true rfl, rfl⟩ (by decide +kernel) (fun x16 I14 J15 h => ?_)
    exact gIret hO hQ (by decide +kernel) ⟨rfl, h⟩
  · have h := h.2 c11
    refine gBk (pe := 105) hO [o0 (.aload_n 0), o0 (.aload_n 0), oF (.getfield 13) 12 3 179 63, oI (.iconst 5) 5, o0 .iaload, o0 (.aload_n 0), oF (.getfield 13) 12 3 179 63, oI (.bipush 6) 6, o0 .iaload, o0 .iadd, oI (.iconst 1) 1, o0 .iadd] (by decide +kernel) (And.intro t0 (And.intro rfl (And.intro (tGr.off hG t0 (k := 3) rfl) (And.intro (tin (tGr.len hG t0 (k := 3) rfl (by decide)) (tvi (by decide +kernel))) (And.intro t0 (And.intro rfl (And.intro (tGr.off hG t0 (k := 3) rfl) (And.intro (tin (tGr.len hG t0 (k := 3) rfl (by decide)) (tvi (by decide +kernel))) (show tWG K B 0 0 S I J 105 [some (vR 61), none, some (vI v2), some (vI v3), some (vI v4), some (vI v5), none] [vI (((I 63 5) + (I 63 6)) + 1), vR 61] from ?_)))))))))
    refine gCVi_c hO (M12_draw t0 h) hc12_draw (idx := 590) (w := 1415) (by decide +kernel) hR (by omega) t0 ⟨by decide, rfl⟩ (vs := [vI (((I 63 5) + (I 63 6)) + 1)]) (st := []) ⟨rfl, Nat.le_of_ble_eq_true rfl, rfl⟩ (by decide +kernel) (fun x19 I17 J18 h => ?_)
    refine gBk (pe := 138) hO [o0 (.aload_n 0), oF (.getfield 13) 12 3 179 63, oI (.bipush 6) 6, o0 .iaload, o0 .isub, o0 (.istore 6), o0 (.aload_n 0), oF (.getfield 13) 12 3 179 63, oI (.bipush 10) 10, o0 (.aload_n 0), oF (.getfield 13) 12 3 179 63, oI (.bipush 10) 10, o0 .iaload, o0 (.iload 6), o0 .iadd, o0 .i2l, oI (.iconst 1) 1, oI (.bipush 60) 60] (by decide +kernel) (And.intro t0 (And.intro rfl (And.intro (tGr.off hG t0 (k := 3) rfl) (And.intro (tin (tGr.len hG t0 (k := 3) rfl (by decide)) (tvi (by decide +kernel))) (And.intro (Nat.le_of_ble_eq_true rfl) (And.intro t0 (And.intro rfl (And.intro t0 (And.intro rfl (And.intro (tGr.off hG t0 (k := 3) rfl) (And.intro (tin (tGr.len hG t0 (k := 3) rfl (by decide)) (tvi (by decide +kernel))) (show tWG K B 0 0 S I17 J18 138 [some (vR 61), none, some (vI v2), some (vI v3), some (vI v4), some (vI v5), some (vI (x19 - (I17 63 6)))] [vI 60, vI 1, vL (((I17 63 10) + (x19 - (I17 63 6))).toInt64), vI 10, vR 63] from ?_))))))))))))
    refine gCSi_p hO (M12_within) hc12_within (idx := 468) (w := 504) (by decide +kernel) hR (by omega) (vs := [vL (((I17 63 10) + (x19 - (I17 63 6))).toInt64), vI 1, vI 60]) (st := [vI 10, vR 63]) ⟨rfl, Nat.le_of_ble_eq_true rfl, rfl⟩ (by decide +kernel) ?_
    refine gBk (pe := 145) hO [o0 .iastore, o0 (.iload 4), o0 (.aload_n 0)] (by decide +kernel) (And.intro (tGr.off hG t0 (k := 3) rfl) (And.intro (tin (tGr.len hG t0 (k := 3) rfl (by decide)) (tvi (by decide +kernel))) (show tWG K B 0 0 S (uI I17 63 10 (V12_within (((I17 63 10) + (x19 - (I17 63 6))).toInt64) 1 60)) J18 145 [some (vR 61), none, some (vI v2), some (vI v3), some (vI v4), some (vI v5), some (vI (x19 - (I17 63 6)))] [vR 61, vI v4] from ?_)))
    refine gCVi_c hO (M12_rideIt t0 h) hc12_rideIt (idx := 537) (w := 1047) (by decide +kernel) hR (by omega) t0 ⟨by decide, rfl⟩ (vs := []) (st := [vI v4]) ⟨rfl, Nat.le_of_ble_eq_true rfl, rfl⟩ (by decide +kernel) (fun x22 I20 J21 h => ?_)
    have hj23 : ∀ (m24 : Int32), m24 = (if x22 = 0 then (1 : Int32) else 0) → tWG K B 0 0 S I20 J21 156 [some (vR 61), none, some (vI v2), some (vI v3), none, some (vI v5), none] [vI m24, vI v4] := by
      intro m24 em24
      subst em24
      refine gBk (pe := 82) hO [o0 .iadd, o0 (.istore 4), oI (.iinc 5 1) 1, o0 (.goto (-80))] (by decide +kernel) (And.intro (Nat.le_of_ble_eq_true rfl) (show tWG K B 0 0 S I20 J21 82 [some (vR 61), none, some (vI v2), some (vI v3), some (vI (v4 + (if x22 = 0 then (1 : Int32) else 0))), some (vI (v5 + 1)), none] [] from ?_))
      exact hkb82 _ _ _ _ _ _ h
    refine gIfNe hO (off := 7) (tgt := 155) (by decide +kernel) (by decide) (fun c25 => ?_) (fun c25 => ?_)
    · refine gBk (pe := 156) hO [oI (.iconst 0) 0] (by decide +kernel) (show tWG K B 0 0 S I20 J21 156 [some (vR 61), none, some (vI v2), some (vI v3), some (vI v4), some (vI v5), some (vI (x19 - (I17 63 6)))] [vI 0, vI v4] from ?_)
      exact gWeak (L' := [some (vR 61), none, some (vI v2), some (vI v3), none, some (vI v5), none]) ⟨rfl, rfl, rfl, rfl, trivial⟩ (hj23 _ (Eq.symm (if_neg c25)))
    · refine gBk (pe := 156) hO [oI (.iconst 1) 1, o0 (.goto 4)] (by decide +kernel) (show tWG K B 0 0 S I20 J21 156 [some (vR 61), none, some (vI v2), some (vI v3), some (vI v4), some (vI v5), some (vI (x19 - (I17 63 6)))] [vI 1, vI v4] from ?_)
      exact gWeak (L' := [some (vR 61), none, some (vI v2), some (vI v3), none, some (vI v5), none]) ⟨rfl, rfl, rfl, rfl, trivial⟩ (hj23 _ (Eq.symm (if_pos c25)))
theorem W12_days_L82 {K : tK} {B : tB} {S : tSH} {MC MS : Nat} (hO : tKO K B RX12 cX12_days 7) (hR : kR K = tRm 10 MC MS) (hG : tGr S) {n : Nat} (t0 : ty S 61 12) {k : Int32 → tHI → tHJ → Prop} (hQ : tRet K B (tQi B (tPi S k)) 0 0 (some .int)) : ∀ (f : Nat) (I : tHI) (J : tHJ) (v2 : Int32) (v3 : Int32) (v4 : Int32) (v5 : Int32), F12_days_L82 n S k f I J v2 v3 v4 v5 → tWG K B 0 0 S I J 82 [some (vR 61), none, some (vI v2), some (vI v3), some (vI v4), some (vI v5), none] [] := by
  intro f
  induction f with
  | zero => intro I J v2 v3 v4 v5 h; exact h.elim
  | succ f ih => intro I J v2 v3 v4 v5 h; exact W12_days_82 hO hR hG t0 hQ ih h
set_option maxRecDepth 20000 in
theorem hc12_days : tCV yX12_days cX12_days 7 (some .int) 2 := ⟨⟨(List.mem_of_getElem? (i := 1411) rfl), (List.mem_of_getElem? (i := 5) (by decide +kernel)), by decide +kernel⟩, (List.mem_of_getElem? (i := 1409) (by decide +kernel)), (List.mem_of_getElem? (i := 1410) (by decide +kernel))⟩
set_option maxRecDepth 100000 in
theorem M12_days {l : Launch} {B : tB} {S : tSH} {I : tHI} {J : tHJ} {v1 : Int32} {v2 : Int32} {n : Nat} {k : Int32 → tHI → tHJ → Prop} (t0 : ty S 61 12) (h : F12_days n S I J v1 v2 k) : Met l yX12_days (tWs yX12_days cX12_days 7 (some .int)) (tRm 10 0 0) (tPc B [vR 61, vI v1, vI v2] S I J) (tQi B (tPi S k)) 0 0 (tA B) :=
  tEntry (by decide +kernel) [some (vR 61), some (vI v1), some (vI v2), none, none, none, none] rfl rfl (Nat.le_of_ble_eq_true rfl) (fun K hl hR hO hQ hG => by
  subst hl
  refine gBk (pe := 8) hO [o0 (.aload_n 0), oI (.iconst 0) 0, oF (.putfield 161) 12 0 316 0, o0 (.iload_n 1), o0 .i2l, oJ (.lconst 0) 0 0] (by decide +kernel) (And.intro t0 (show tWG K B 0 0 S (uI I 61 0 0) J 8 [some (vR 61), some (vI v1), some (vI v2), none, none, none, none] [vL 0, vL v1.toInt64] from ?_))
  refine gBk (pe := 11) hO [(.ldc2_w 290, (0, 0, 788, 0), 0, 1000000)] (by decide +kernel) (show tWG K B 0 0 S (uI I 61 0 0) J 11 [some (vR 61), some (vI v1), some (vI v2), none, none, none, none] [vL 1000000, vL 0, vL v1.toInt64] from ?_)
  refine gCSi_z hO (M12_in) hc12_in (idx := 181) (w := 319) (by decide +kernel) hR (by omega) (vs := [vL v1.toInt64, vL 0, vL 1000000]) (st := []) ⟨rfl, Nat.le_of_ble_eq_true rfl, rfl⟩ (by decide +kernel) (fun z1 => ?_)
  refine gIfEq hO (off := 15) (tgt := 29) (by decide +kernel) (by decide) (fun c2 => ?_) (fun c2 => ?_)
  · have h := h.1 c2
    exact gWeak (L' := [some (vR 61), none, none, none, none, none, none]) ⟨rfl, trivial⟩ (W12_days_29 hO hR hG t0 hQ h)
  · have h := h.2 c2
    refine gBk (pe := 20) hO [o0 (.iload_n 2), o0 .i2l, oJ (.lconst 1) 0 1] (by decide +kernel) (show tWG K B 0 0 S (uI I 61 0 0) J 20 [some (vR 61), some (vI v1), some (vI v2), none, none, none, none] [vL 1, vL v2.toInt64] from ?_)
    refine gBk (pe := 23) hO [(.ldc2_w 585, (0, 0, 1412, 0), 0, 100)] (by decide +kernel) (show tWG K B 0 0 S (uI I 61 0 0) J 23 [some (vR 61), some (vI v1), some (vI v2), none, none, none, none] [vL 100, vL 1, vL v2.toInt64] from ?_)
    refine gCSi_z hO (M12_in) hc12_in (idx := 181) (w := 319) (by decide +kernel) hR (by omega) (vs := [vL v2.toInt64, vL 1, vL 100]) (st := []) ⟨rfl, Nat.le_of_ble_eq_true rfl, rfl⟩ (by decide +kernel) (fun z6 => ?_)
    refine gIfNe hO (off := 9) (tgt := 35) (by decide +kernel) (by decide) (fun c7 => ?_) (fun c7 => ?_)
    · have h := h.1 c7
      refine gBk (pe := 41) hO [o0 (.aload_n 0), oF (.getfield 13) 12 3 179 63, oI (.iconst 1) 1, o0 .iaload] (by decide +kernel) (And.intro t0 (And.intro rfl (And.intro (tGr.off hG t0 (k := 3) rfl) (And.intro (tin (tGr.len hG t0 (k := 3) rfl (by decide)) (tvi (by decide +kernel))) (show tWG K B 0 0 S (uI I 61 0 0) J 41 [some (vR 61), some (vI v1), some (vI v2), none, none, none, none] [vI ((uI I 61 0 0) 63 1)] from ?_)))))
      refine gIfNe hO (off := 10) (tgt := 51) (by decide +kernel) (by decide) (fun c8 => ?_) (fun c8 => ?_)
      · have h := h.1 c8
        refine gBk (pe := 54) hO [o0 (.aload_n 0), oI (.bipush 16) 16] (by decide +kernel) (show tWG K B 0 0 S (uI I 61 0 0) J 54 [some (vR 61), some (vI v1), some (vI v2), none, none, none, none] [vI 16, vR 61] from ?_)
        refine gCVv_c hO (M12_keepAll t0 h) hc12_keepAll (idx := 174) (w := 997) (by decide +kernel) hR (by omega) t0 ⟨by decide, rfl⟩ (vs := [vI 16]) (st := []) ⟨rfl, Nat.le_of_ble_eq_true rfl, rfl⟩ (by decide +kernel) (fun I9 J10 h => ?_)
        refine gBk (pe := 82) hO [o0 (.aload_n 0), o0 (.iload_n 1), o0 .i2l, oF (.putfield 576) 12 55 1413 0, o0 (.aload_n 0), oI (.iconst 1) 1, oF (.putfield 587) 12 57 1414 0, o0 (.aload_n 0), oF (.getfield 13) 12 3 179 63, oI (.bipush 12) 12, o0 .iaload, o0 (.istore_n 3), oI (.iconst 0) 0, o0 (.istore 4), oI (.iconst 0) 0, o0 (.istore 5)] (by decide +kernel) (And.intro t0 (And.intro t0 (And.intro (Or.inr rfl) (And.intro t0 (And.intro rfl (And.intro (tGr.off hG t0 (k := 3) rfl) (And.intro (tin (tGr.len hG t0 (k := 3) rfl (by decide)) (tvi (by decide +kernel))) (And.intro (Nat.le_of_ble_eq_true rfl) (And.intro (Nat.le_of_ble_eq_true rfl) (And.intro (Nat.le_of_ble_eq_true rfl) (show tWG K B 0 0 S (uI I9 61 57 1) (uJ J10 61 55 v1.toInt64) 82 [some (vR 61), some (vI v1), some (vI v2), some (vI ((uI I9 61 57 1) 63 12)), some (vI 0), some (vI 0), none] [] from ?_)))))))))))
        exact gWeak (L' := [some (vR 61), none, some (vI v2), some (vI ((uI I9 61 57 1) 63 12)), some (vI 0), some (vI 0), none]) ⟨rfl, rfl, rfl, rfl, rfl, trivial⟩ (W12_days_L82 hO hR hG t0 hQ n _ _ _ _ _ _ h)
      · have h := h.2 c8
        refine gBk (pe := 47) hO [o0 (.aload_n 0), oI (.bipush (-3)) (-3)] (by decide +kernel) (show tWG K B 0 0 S (uI I 61 0 0) J 47 [some (vR 61), some (vI v1), some (vI v2), none, none, none, none] [vI (-3), vR 61] from ?_)
        refine gCVi_c hO (M12_tell t0 h) hc12_tell (idx := 170) (w := 322) (by decide +kernel) hR (by omega) t0 ⟨by decide, rfl⟩ (vs := [vI (-3)]) (st := []) ⟨rfl, Nat.le_of_ble_eq_true rfl, rfl⟩ (by decide +kernel) (fun x28 I26 J27 h => ?_)
        exact gIret hO hQ (by decide +kernel) ⟨rfl, h⟩
    · have h := h.2 c7
      exact gWeak (L' := [some (vR 61), none, none, none, none, none, none]) ⟨rfl, trivial⟩ (W12_days_29 hO hR hG t0 hQ h))
