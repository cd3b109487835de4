set_option maxRecDepth 100000 in
theorem W1_takeBack_26 {K : tK} {B : tB} {S : tSH} {MC MS : Nat} (hO : tKO K B RX1 cX1_takeBack 5) (hR : kR K = tRm 3 MC MS) (hG : tGr S) {n : Nat} {a : Nat} (t0 : ty S a 1) {k : Int32 → tHI → tHJ → Prop} (hQ : tRet K B (tQi B (tPi S k)) 0 0 (some .int)) {I : tHI} {J : tHJ} (h : F1_takeBack_26 n S a k I J) : tWG K B 0 0 S I J 26 [none, none, none, none, none] [] := by
  refine gBk (pe := 28) hO [oI (.bipush (-3)) (-3)] (by decide +kernel) (show tWG K B 0 0 S I J 28 [none, none, none, none, none] [vI (-3)] from ?_)
  exact gIret hO hQ (by decide +kernel) ⟨rfl, h⟩
set_option maxRecDepth 100000 in
theorem W1_takeBack_165 {K : tK} {B : tB} {S : tSH} {MC MS : Nat} (hO : tKO K B RX1 cX1_takeBack 5) (hR : kR K = tRm 3 MC MS) (hG : tGr S) {n : Nat} {a : Nat} (t0 : ty S a 1) {k : Int32 → tHI → tHJ → Prop} (hQ : tRet K B (tQi B (tPi S k)) 0 0 (some .int)) {I : tHI} {J : tHJ} {v2 : Int32} (h : F1_takeBack_165 n S a k I J v2) : tWG K B 0 0 S I J 165 [some (vR a), none, some (vI v2), none, none] [] := by
  refine gBk (pe := 171) hO [o0 (.aload_n 0), oF (.getfield 11) 1 0 108 0, o0 (.iload_n 2), o0 .iaload] (by decide +kernel) (And.intro t0 (And.intro (tGr.off hG t0 (k := 0) rfl) (And.intro (tin (tGr.len hG t0 (k := 0) rfl (by decide)) h.1) (show tWG K B 0 0 S I J 171 [some (vR a), none, some (vI v2), none, none] [vI (I (a + 1) v2.toNatClampNeg)] from ?_))))
  have h := h.2
  exact gIret hO hQ (by decide +kernel) ⟨rfl, h⟩
set_option maxRecDepth 20000 in
theorem hc1_takeBack : tCV yX1_takeBack cX1_takeBack 5 (some .int) 1 := ⟨⟨(List.mem_of_getElem? (i := 1151) rfl), (List.mem_of_getElem? (i := 20) (by decide +kernel)), by decide +kernel⟩, (List.mem_of_getElem? (i := 1149) (by decide +kernel)), (List.mem_of_getElem? (i := 1150) (by decide +kernel))⟩
set_option maxRecDepth 100000 in
theorem M1_takeBack {l : Launch} {B : tB} {S : tSH} {I : tHI} {J : tHJ} {a : Nat} {a1 : Nat} {n : Nat} {k : Int32 → tHI → tHJ → Prop} (t0 : ty S a 1) (t1 : ty S a1 8) (h : F1_takeBack n S I J a a1 k) : Met l yX1_takeBack (tWs yX1_takeBack cX1_takeBack 5 (some .int)) (tRm 3 0 0) (tPc B [vR a, vR a1] S I J) (tQi B (tPi S k)) 0 0 (tA B) :=
  tEntry (by decide +kernel) [some (vR a), some (vR a1), none, none, none] rfl rfl (Nat.le_of_ble_eq_true rfl) (fun K hl hR hO hQ hG => by
  subst hl
  refine gBk (pe := 11) hO [o0 (.aload_n 0), oF (.getfield 15) 1 1 109 0, oI (.iconst 1) 1, o0 .isub, oI (.bipush 9) 9, o0 .imul, o0 (.istore_n 2), o0 (.iload_n 2)] (by decide +kernel) (And.intro t0 (And.intro (Nat.le_of_ble_eq_true rfl) (show tWG K B 0 0 S I J 11 [some (vR a), some (vR a1), some (vI (((I a 1) - 1) * 9)), none, none] [vI (((I a 1) - 1) * 9)] from ?_)))
  refine gIfLt hO (off := 15) (tgt := 26) (by decide +kernel) (by decide) (fun c1 => ?_) (fun c1 => ?_)
  · have h := h.1 c1
    exact gWeak (L' := [none, none, none, none, none]) trivial (W1_takeBack_26 hO hR hG t0 hQ h)
  · have h := h.2 c1
    refine gBk (pe := 23) hO [o0 (.iload_n 2), oI (.bipush 9) 9, o0 .iadd, o0 (.aload_n 0), oF (.getfield 11) 1 0 108 0, oF .arraylength 40 0 0 0] (by decide +kernel) (And.intro t0 (And.intro (tGr.off hG t0 (k := 0) rfl) (show tWG K B 0 0 S I J 23 [some (vR a), some (vR a1), some (vI (((I a 1) - 1) * 9)), none, none] [vI (Int32.ofNat (sL S (a + 1))), vI ((((I a 1) - 1) * 9) + 9)] from ?_)))
    refine gIcLe hO (off := 6) (tgt := 29) (by decide +kernel) (by decide) (fun c2 => ?_) (fun c2 => ?_)
    · have h := h.1 c2
      refine gBk (pe := 121) hO [o0 (.aload_n 0), o0 .dup, oF (.getfield 15) 1 1 109 0, oI (.iconst 1) 1, o0 .isub, oF (.putfield 15) 1 1 109 0, o0 (.aload_n 1), oF (.getfield 25) 8 2 956 0, o0 (.astore_n 3), o0 (.aload_n 3), o0 (.aload_n 0), oF (.getfield 11) 1 0 108 0, o0 (.iload_n 2), oI (.iconst 1) 1, o0 .iadd, o0 .iaload, oF (.putfield 41) 10 2 958 0, o0 (.aload_n 3), o0 (.aload_n 0), oF (.getfield 11) 1 0 108 0, o0 (.iload_n 2), oI (.iconst 2) 2, o0 .iadd, o0 .iaload, oF (.putfield 46) 10 3 959 0, o0 (.aload_n 3), o0 (.aload_n 0), oF (.getfield 11) 1 0 108 0, o0 (.iload_n 2), oI (.iconst 3) 3, o0 .iadd, o0 .iaload, oF (.putfield 49) 10 1 960 0, o0 (.aload_n 3), o0 (.aload_n 0), oF (.getfield 11) 1 0 108 0, o0 (.iload_n 2), oI (.iconst 4) 4, o0 .iadd, o0 .iaload, oF (.putfield 52) 10 4 961 0, o0 (.aload_n 3), o0 (.aload_n 0), oF (.getfield 11) 1 0 108 0, o0 (.iload_n 2), oI (.iconst 5) 5, o0 .iadd, o0 .iaload, oF (.putfield 55) 10 5 962 0, o0 (.aload_n 0), oF (.getfield 11) 1 0 108 0, o0 (.iload_n 2), oI (.bipush 6) 6, o0 .iadd, o0 .iaload, o0 (.istore 4), o0 (.aload_n 1), oF (.getfield 31) 8 0 957 0, o0 (.iload 4)] (by decide +kernel) (And.intro t0 (And.intro t0 (And.intro t1 (And.intro (Nat.le_of_ble_eq_true rfl) (And.intro t0 (And.intro (tGr.off hG t0 (k := 0) rfl) (And.intro (tin (tGr.len hG t0 (k := 0) rfl (by decide)) h.1) (And.intro (tGr.off hG t1 (k := 2) rfl) (And.intro t0 (And.intro (tGr.off hG t0 (k := 0) rfl) (And.intro (tin (tGr.len hG t0 (k := 0) rfl (by decide)) h.2.1) (And.intro (tGr.off hG t1 (k := 2) rfl) (And.intro t0 (And.intro (tGr.off hG t0 (k := 0) rfl) (And.intro (tin (tGr.len hG t0 (k := 0) rfl (by decide)) h.2.2.1) (And.intro (tGr.off hG t1 (k := 2) rfl) (And.intro t0 (And.intro (tGr.off hG t0 (k := 0) rfl) (And.intro (tin (tGr.len hG t0 (k := 0) rfl (by decide)) h.2.2.2.1) (And.intro (tGr.off hG t1 (k := 2) rfl) (And.intro t0 (And.intro (tGr.off hG t0 (k := 0) rfl) (And.intro (tin (tGr.len hG t0 (k := 0) rfl (by decide)) h.2.2.2.2.1) (And.intro (tGr.off hG t1 (k := 2) rfl) (And.intro t0 (And.intro (tGr.off hG t0 (k := 0) rfl) (And.intro (tin (tGr.len hG t0 (k := 0) rfl (by decide)) h.2.2.2.2.2.1) (And.intro (Nat.le_of_ble_eq_true rfl) (And.intro t1 (show tWG K B 0 0 S (uI (uI (uI (uI (uI (uI I a 1 ((I a 1) - 1)) (a1 + 14) 2 ((uI I a 1 ((I a 1) - 1)) (a + 1) ((((I a 1) - 1) * 9) + 1).toNatClampNeg)) (a1 + 14) 3 ((uI (uI I a 1 ((I a 1) - 1)) (a1 + 14) 2 ((uI I a 1 ((I a 1) - 1)) (a + 1) ((((I a 1) - 1) * 9) + 1).toNatClampNeg)) (a + 1) ((((I a 1) - 1) * 9) + 2).toNatClampNeg)) (a1 + 14) 1 ((uI (uI (uI I a 1 ((I a 1) - 1)) (a1 + 14) 2 ((uI I a 1 ((I a 1) - 1)) (a + 1) ((((I a 1) - 1) * 9) + 1).toNatClampNeg)) (a1 + 14) 3 ((uI (uI I a 1 ((I a 1) - 1)) (a1 + 14) 2 ((uI I a 1 ((I a 1) - 1)) (a + 1) ((((I a 1) - 1) * 9) + 1).toNatClampNeg)) (a + 1) ((((I a 1) - 1) * 9) + 2).toNatClampNeg)) (a + 1) ((((I a 1) - 1) * 9) + 3).toNatClampNeg)) (a1 + 14) 4 ((uI (uI (uI (uI I a 1 ((I a 1) - 1)) (a1 + 14) 2 ((uI I a 1 ((I a 1) - 1)) (a + 1) ((((I a 1) - 1) * 9) + 1).toNatClampNeg)) (a1 + 14) 3 ((uI (uI I a 1 ((I a 1) - 1)) (a1 + 14) 2 ((uI I a 1 ((I a 1) - 1)) (a + 1) ((((I a 1) - 1) * 9) + 1).toNatClampNeg)) (a + 1) ((((I a 1) - 1) * 9) + 2).toNatClampNeg)) (a1 + 14) 1 ((uI (uI (uI I a 1 ((I a 1) - 1)) (a1 + 14) 2 ((uI I a 1 ((I a 1) - 1)) (a + 1) ((((I a 1) - 1) * 9) + 1).toNatClampNeg)) (a1 + 14) 3 ((uI (uI I a 1 ((I a 1) - 1)) (a1 + 14) 2 ((uI I a 1 ((I a 1) - 1)) (a + 1) ((((I a 1) - 1) * 9) + 1).toNatClampNeg)) (a + 1) ((((I a 1) - 1) * 9) + 2).toNatClampNeg)) (a + 1) ((((I a 1) - 1) * 9) + 3).toNatClampNeg)) (a + 1) ((((I a 1) - 1) * 9) + 4).toNatClampNeg)) (a1 + 14) 5 ((uI (uI (uI (uI (uI I a 1 ((I a 1) - 1)) (a1 + 14) 2 ((uI I a 1 ((I a 1) - 1)) (a + 1) ((((I a 1) - 1) * 9) + 1).toNatClampNeg)) (a1 + 14) 3 ((uI (uI I a 1 ((I a 1) - 1)) (a1 + 14) 2 ((uI I a 1 ((I a 1) - 1)) (a + 1) ((((I a 1) - 1) * 9) + 1).toNatClampNeg)) (a + 1) ((((I a 1) - 1) * 9) + 2).toNatClampNeg)) (a1 + 14) 1 ((uI (uI (uI I a 1 ((I a 1) - 1)) (a1 + 14) 2 ((uI I a 1 ((I a 1) - 1)) (a + 1) ((((I a 1) - 1) * 9) + 1).toNatClampNeg)) (a1 + 14) 3 ((uI (uI I a 1 ((I a 1) - 1)) (a1 + 14) 2 ((uI I a 1 ((I a 1) - 1)) (a + 1) ((((I a 1) - 1) * 9) + 1).toNatClampNeg)) (a + 1) ((((I a 1) - 1) * 9) + 2).toNatClampNeg)) (a + 1) ((((I a 1) - 1) * 9) + 3).toNatClampNeg)) (a1 + 14) 4 ((uI (uI (uI (uI I a 1 ((I a 1) - 1)) (a1 + 14) 2 ((uI I a 1 ((I a 1) - 1)) (a + 1) ((((I a 1) - 1) * 9) + 1).toNatClampNeg)) (a1 + 14) 3 ((uI (uI I a 1 ((I a 1) - 1)) (a1 + 14) 2 ((uI I a 1 ((I a 1) - 1)) (a + 1) ((((I a 1) - 1) * 9) + 1).toNatClampNeg)) (a + 1) ((((I a 1) - 1) * 9) + 2).toNatClampNeg)) (a1 + 14) 1 ((uI (uI (uI I a 1 ((I a 1) - 1)) (a1 + 14) 2 ((uI I a 1 ((I a 1) - 1)) (a + 1) ((((I a 1) - 1) * 9) + 1).toNatClampNeg)) (a1 + 14) 3 ((uI (uI I a 1 ((I a 1) - 1)) (a1 + 14) 2 ((uI I a 1 ((I a 1) - 1)) (a + 1) ((((I a 1) - 1) * 9) + 1).toNatClampNeg)) (a + 1) ((((I a 1) - 1) * 9) + 2).toNatClampNeg)) (a + 1) ((((I a 1) - 1) * 9) + 3).toNatClampNeg)) (a + 1) ((((I a 1) - 1) * 9) + 4).toNatClampNeg)) (a + 1) ((((I a 1) - 1) * 9) + 5).toNatClampNeg)) J 121 [some (vR a), some (vR a1), some (vI (((I a 1) - 1) * 9)), some (vR (a1 + 14)), some (vI ((uI (uI (uI (uI (uI (uI I a 1 ((I a 1) - 1)) (a1 + 14) 2 ((uI I a 1 ((I a 1) - 1)) (a + 1) ((((I a 1) - 1) * 9) + 1).toNatClampNeg)) (a1 + 14) 3 ((uI (uI I a 1 ((I a 1) - 1)) (a1 + 14) 2 ((uI I a 1 ((I a 1) - 1)) (a + 1) ((((I a 1) - 1) * 9) + 1).toNatClampNeg)) (a + 1) ((((I a 1) - 1) * 9) + 2).toNatClampNeg)) (a1 + 14) 1 ((uI (uI (uI I a 1 ((I a 1) - 1)) (a1 + 14) 2 ((uI I a 1 ((I a 1) - 1)) (a + 1) ((((I a 1) - 1) * 9) + 1).toNatClampNeg)) (a1 + 14) 3 ((uI (uI I a 1 ((I a 1) - 1)) (a1 + 14) 2 ((uI I a 1 ((I a 1) - 1)) (a + 1) ((((I a 1) - 1) * 9) + 1).toNatClampNeg)) (a + 1) ((((I a 1) - 1) * 9) + 2).toNatClampNeg)) (a + 1) ((((I a 1) - 1) * 9) + 3).toNatClampNeg)) (a1 + 14) 4 ((uI (uI (uI (uI I a 1 ((I a 1) - 1)) (a1 + 14) 2 ((uI I a 1 ((I a 1) - 1)) (a + 1) ((((I a 1) - 1) * 9) + 1).toNatClampNeg)) (a1 + 14) 3 ((uI (uI I a 1 ((I a 1) - 1)) (a1 + 14) 2 ((uI I a 1 ((I a 1) - 1)) (a + 1) ((((I a 1) - 1) * 9) + 1).toNatClampNeg)) (a + 1) ((((I a 1) - 1) * 9) + 2).toNatClampNeg)) (a1 + 14) 1 ((uI (uI (uI I a 1 ((I a 1) - 1)) (a1 + 14) 2 ((uI I a 1 ((I a 1) - 1)) (a + 1) ((((I a 1) - 1) * 9) + 1).toNatClampNeg)) (a1 + 14) 3 ((uI (uI I a 1 ((I a 1) - 1)) (a1 + 14) 2 ((uI I a 1 ((I a 1) - 1)) (a + 1) ((((I a 1) - 1) * 9) + 1).toNatClampNeg)) (a + 1) ((((I a 1) - 1) * 9) + 2).toNatClampNeg)) (a + 1) ((((I a 1) - 1) * 9) + 3).toNatClampNeg)) (a + 1) ((((I a 1) - 1) * 9) + 4).toNatClampNeg)) (a1 + 14) 5 ((uI (uI (uI (uI (uI I a 1 ((I a 1) - 1)) (a1 + 14) 2 ((uI I a 1 ((I a 1) - 1)) (a + 1) ((((I a 1) - 1) * 9) + 1).toNatClampNeg)) (a1 + 14) 3 ((uI (uI I a 1 ((I a 1) - 1)) (a1 + 14) 2 ((uI I a 1 ((I a 1) - 1)) (a + 1) ((((I a 1) - 1) * 9) + 1).toNatClampNeg)) (a + 1) ((((I a 1) - 1) * 9) + 2).toNatClampNeg)) (a1 + 14) 1 ((uI (uI (uI I a 1 ((I a 1) - 1)) (a1 + 14) 2 ((uI I a 1 ((I a 1) - 1)) (a + 1) ((((I a 1) - 1) * 9) + 1).toNatClampNeg)) (a1 + 14) 3 ((uI (uI I a 1 ((I a 1) - 1)) (a1 + 14) 2 ((uI I a 1 ((I a 1) - 1)) (a + 1) ((((I a 1) - 1) * 9) + 1).toNatClampNeg)) (a + 1) ((((I a 1) - 1) * 9) + 2).toNatClampNeg)) (a + 1) ((((I a 1) - 1) * 9) + 3).toNatClampNeg)) (a1 + 14) 4 ((uI (uI (uI (uI I a 1 ((I a 1) - 1)) (a1 + 14) 2 ((uI I a 1 ((I a 1) - 1)) (a + 1) ((((I a 1) - 1) * 9) + 1).toNatClampNeg)) (a1 + 14) 3 ((uI (uI I a 1 ((I a 1) - 1)) (a1 + 14) 2 ((uI I a 1 ((I a 1) - 1)) (a + 1) ((((I a 1) - 1) * 9) + 1).toNatClampNeg)) (a + 1) ((((I a 1) - 1) * 9) + 2).toNatClampNeg)) (a1 + 14) 1 ((uI (uI (uI I a 1 ((I a 1) - 1)) (a1 + 14) 2 ((uI I a 1 ((I a 1) - 1)) (a + 1) ((((I a 1) - 1) * 9) + 1).toNatClampNeg)) (a1 + 14) 3 ((uI (uI I a 1 ((I a 1) - 1)) (a1 + 14) 2 ((uI I a 1 ((I a 1) - 1)) (a + 1) ((((I a 1) - 1) * 9) + 1).toNatClampNeg)) (a + 1) ((((I a 1) - 1) * 9) + 2).toNatClampNeg)) (a + 1) ((((I a 1) - 1) * 9) + 3).toNatClampNeg)) (a + 1) ((((I a 1) - 1) * 9) + 4).toNatClampNeg)) (a + 1) ((((I a 1) - 1) * 9) + 5).toNatClampNeg)) (a + 1) ((((I a 1) - 1) * 9) + 6).toNatClampNeg))] [vI ((uI (uI (uI (uI (uI (uI I a 1 ((I a 1) - 1)) (a1 + 14) 2 ((uI I a 1 ((I a 1) - 1)) (a + 1) ((((I a 1) - 1) * 9) + 1).toNatClampNeg)) (a1 + 14) 3 ((uI (uI I a 1 ((I a 1) - 1)) (a1 + 14) 2 ((uI I a 1 ((I a 1) - 1)) (a + 1) ((((I a 1) - 1) * 9) + 1).toNatClampNeg)) (a + 1) ((((I a 1) - 1) * 9) + 2).toNatClampNeg)) (a1 + 14) 1 ((uI (uI (uI I a 1 ((I a 1) - 1)) (a1 + 14) 2 ((uI I a 1 ((I a 1) - 1)) (a + 1) ((((I a 1) - 1) * 9) + 1).toNatClampNeg)) (a1 + 14) 3 ((uI (uI I a 1 ((I a 1) - 1)) (a1 + 14) 2 ((uI I a 1 ((I a 1) - 1)) (a + 1) ((((I a 1) - 1) * 9) + 1).toNatClampNeg)) (a + 1) ((((I a 1) - 1) * 9) + 2).toNatClampNeg)) (a + 1) ((((I a 1) - 1) * 9) + 3).toNatClampNeg)) (a1 + 14) 4 ((uI (uI (uI (uI I a 1 ((I a 1) - 1)) (a1 + 14) 2 ((uI I a 1 ((I a 1) - 1)) (a + 1) ((((I a 1) - 1) * 9) + 1).toNatClampNeg)) (a1 + 14) 3 ((uI (uI I a 1 ((I a 1) - 1)) (a1 + 14) 2 ((uI I a 1 ((I a 1) - 1)) (a + 1) ((((I a 1) - 1) * 9) + 1).toNatClampNeg)) (a + 1) ((((I a 1) - 1) * 9) + 2).toNatClampNeg)) (a1 + 14) 1 ((uI (uI (uI I a 1 ((I a 1) - 1)) (a1 + 14) 2 ((uI I a 1 ((I a 1) - 1)) (a + 1) ((((I a 1) - 1) * 9) + 1).toNatClampNeg)) (a1 + 14) 3 ((uI (uI I a 1 ((I a 1) - 1)) (a1 + 14) 2 ((uI I a 1 ((I a 1) - 1)) (a + 1) ((((I a 1) - 1) * 9) + 1).toNatClampNeg)) (a + 1) ((((I a 1) - 1) * 9) + 2).toNatClampNeg)) (a + 1) ((((I a 1) - 1) * 9) + 3).toNatClampNeg)) (a + 1) ((((I a 1) - 1) * 9) + 4).toNatClampNeg)) (a1 + 14) 5 ((uI (uI (uI (uI (uI I a 1 ((I a 1) - 1)) (a1 + 14) 2 ((uI I a 1 ((I a 1) - 1)) (a + 1) ((((I a 1) - 1) * 9) + 1).toNatClampNeg)) (a1 + 14) 3 ((uI (uI I a 1 ((I a 1) - 1)) (a1 + 14) 2 ((uI I a 1 ((I a 1) - 1)) (a + 1) ((((I a 1) - 1) * 9) + 1).toNatClampNeg)) (a + 1) ((((I a 1) - 1) * 9) + 2).toNatClampNeg)) (a1 + 14) 1 ((uI (uI (uI I a 1 ((I a 1) - 1)) (a1 + 14) 2 ((uI I a 1 ((I a 1) - 1)) (a + 1) ((((I a 1) - 1) * 9) + 1).toNatClampNeg)) (a1 + 14) 3 ((uI (uI I a 1 ((I a 1) - 1)) (a1 + 14) 2 ((uI I a 1 ((I a 1) - 1)) (a + 1) ((((I a 1) - 1) * 9) + 1).toNatClampNeg)) (a + 1) ((((I a 1) - 1) * 9) + 2).toNatClampNeg)) (a + 1) ((((I a 1) - 1) * 9) + 3).toNatClampNeg)) (a1 + 14) 4 ((uI (uI (uI (uI I a 1 ((I a 1) - 1)) (a1 + 14) 2 ((uI I a 1 ((I a 1) - 1)) (a + 1) ((((I a 1) - 1) * 9) + 1).toNatClampNeg)) (a1 + 14) 3 ((uI (uI I a 1 ((I a 1) - 1)) (a1 + 14) 2 ((uI I a 1 ((I a 1) - 1)) (a + 1) ((((I a 1) - 1) * 9) + 1).toNatClampNeg)) (a + 1) ((((I a 1) - 1) * 9) + 2).toNatClampNeg)) (a1 + 14) 1 ((uI (uI (uI I a 1 ((I a 1) - 1)) (a1 + 14) 2 ((uI I a 1 ((I a 1) - 1)) (a + 1) ((((I a 1) - 1) * 9) + 1).toNatClampNeg)) (a1 + 14) 3 ((uI (uI I a 1 ((I a 1) - 1)) (a1 + 14) 2 ((uI I a 1 ((I a 1) - 1)) (a + 1) ((((I a 1) - 1) * 9) + 1).toNatClampNeg)) (a + 1) ((((I a 1) - 1) * 9) + 2).toNatClampNeg)) (a + 1) ((((I a 1) - 1) * 9) + 3).toNatClampNeg)) (a + 1) ((((I a 1) - 1) * 9) + 4).toNatClampNeg)) (a + 1) ((((I a 1) - 1) * 9) + 5).toNatClampNeg)) (a + 1) ((((I a 1) - 1) * 9) + 6).toNatClampNeg), vR (a1 + 1)] from ?_))))))))))))))))))))))))))))))
      have h := h.2.2.2.2.2.2
      refine gCVi_z hO (M3_has (tGr.off hG t1 (k := 0) rfl)) hc3_has (idx := 35) (w := 965) (by decide +kernel) hR (by omega) (tGr.off hG t1 (k := 0) rfl) ⟨by decide, rfl⟩ (vs := [vI ((uI (uI (uI (uI (uI (uI I a 1 ((I a 1) - 1)) (a1 + 14) 2 ((uI I a 1 ((I a 1) - 1)) (a + 1) ((((I a 1) - 1) * 9) + 1).toNatClampNeg)) (a1 + 14) 3 ((uI (uI I a 1 ((I a 1) - 1)) (a1 + 14) 2 ((uI I a 1 ((I a 1) - 1)) (a + 1) ((((I a 1) - 1) * 9) + 1).toNatClampNeg)) (a + 1) ((((I a 1) - 1) * 9) + 2).toNatClampNeg)) (a1 + 14) 1 ((uI (uI (uI I a 1 ((I a 1) - 1)) (a1 + 14) 2 ((uI I a 1 ((I a 1) - 1)) (a + 1) ((((I a 1) - 1) * 9) + 1).toNatClampNeg)) (a1 + 14) 3 ((uI (uI I a 1 ((I a 1) - 1)) (a1 + 14) 2 ((uI I a 1 ((I a 1) - 1)) (a + 1) ((((I a 1) - 1) * 9) + 1).toNatClampNeg)) (a + 1) ((((I a 1) - 1) * 9) + 2).toNatClampNeg)) (a + 1) ((((I a 1) - 1) * 9) + 3).toNatClampNeg)) (a1 + 14) 4 ((uI (uI (uI (uI I a 1 ((I a 1) - 1)) (a1 + 14) 2 ((uI I a 1 ((I a 1) - 1)) (a + 1) ((((I a 1) - 1) * 9) + 1).toNatClampNeg)) (a1 + 14) 3 ((uI (uI I a 1 ((I a 1) - 1)) (a1 + 14) 2 ((uI I a 1 ((I a 1) - 1)) (a + 1) ((((I a 1) - 1) * 9) + 1).toNatClampNeg)) (a + 1) ((((I a 1) - 1) * 9) + 2).toNatClampNeg)) (a1 + 14) 1 ((uI (uI (uI I a 1 ((I a 1) - 1)) (a1 + 14) 2 ((uI I a 1 ((I a 1) - 1)) (a + 1) ((((I a 1) - 1) * 9) + 1).toNatClampNeg)) (a1 + 14) 3 ((uI (uI I a 1 ((I a 1) - 1)) (a1 + 14) 2 ((uI I a 1 ((I a 1) - 1)) (a + 1) ((((I a 1) - 1) * 9) + 1).toNatClampNeg)) (a + 1) ((((I a 1) - 1) * 9) + 2).toNatClampNeg)) (a + 1) ((((I a 1) - 1) * 9) + 3).toNatClampNeg)) (a + 1) ((((I a 1) - 1) * 9) + 4).toNatClampNeg)) (a1 + 14) 5 ((uI (uI (uI (uI (uI I a 1 ((I a 1) - 1)) (a1 + 14) 2 ((uI I a 1 ((I a 1) - 1)) (a + 1) ((((I a 1) - 1) * 9) + 1).toNatClampNeg)) (a1 + 14) 3 ((uI (uI I a 1 ((I a 1) - 1)) (a1 + 14) 2 ((uI I a 1 ((I a 1) - 1)) (a + 1) ((((I a 1) - 1) * 9) + 1).toNatClampNeg)) (a + 1) ((((I a 1) - 1) * 9) + 2).toNatClampNeg)) (a1 + 14) 1 ((uI (uI (uI I a 1 ((I a 1) - 1)) (a1 + 14) 2 ((uI I a 1 ((I a 1) - 1)) (a + 1) ((((I a 1) - 1) * 9) + 1).toNatClampNeg)) (a1 + 14) 3 ((uI (uI I a 1 ((I a 1) - 1)) (a1 + 14) 2 ((uI I a 1 ((I a 1) - 1)) (a + 1) ((((I a 1) - 1) * 9) + 1).toNatClampNeg)) (a + 1) ((((I a 1) - 1) * 9) + 2).toNatClampNeg)) (a + 1) ((((I a 1) - 1) * 9) + 3).toNatClampNeg)) (a1 + 14) 4 ((uI (uI (uI (uI I a 1 ((I a 1) - 1)) (a1 + 14) 2 ((uI I a 1 ((I a 1) - 1)) (a + 1) ((((I a 1) - 1) * 9) + 1).toNatClampNeg)) (a1 + 14) 3 ((uI (uI I a 1 ((I a 1) - 1)) (a1 + 14) 2 ((uI I a 1 ((I a 1) - 1)) (a + 1) ((((I a 1) - 1) * 9) + 1).toNatClampNeg)) (a + 1) ((((I a 1) - 1) * 9) + 2).toNatClampNeg)) (a1 + 14) 1 ((uI (uI (uI I a 1 ((I a 1) - 1)) (a1 + 14) 2 ((uI I a 1 ((I a 1) - 1)) (a + 1) ((((I a 1) - 1) * 9) + 1).toNatClampNeg)) (a1 + 14) 3 ((uI (uI I a 1 ((I a 1) - 1)) (a1 + 14) 2 ((uI I a 1 ((I a 1) - 1)) (a + 1) ((((I a 1) - 1) * 9) + 1).toNatClampNeg)) (a + 1) ((((I a 1) - 1) * 9) + 2).toNatClampNeg)) (a + 1) ((((I a 1) - 1) * 9) + 3).toNatClampNeg)) (a + 1) ((((I a 1) - 1) * 9) + 4).toNatClampNeg)) (a + 1) ((((I a 1) - 1) * 9) + 5).toNatClampNeg)) (a + 1) ((((I a 1) - 1) * 9) + 6).toNatClampNeg)]) (st := []) ⟨rfl, Nat.le_of_ble_eq_true rfl, rfl⟩ (by decide +kernel) (fun z3 => ?_)
      refine gIfEq hO (off := 41) (tgt := 165) (by decide +kernel) (by decide) (fun c4 => ?_) (fun c4 => ?_)
      · have h := h.1 c4
        exact gWeak (L' := [some (vR a), none, some (vI (((I a 1) - 1) * 9)), none, none]) ⟨rfl, rfl, trivial⟩ (W1_takeBack_165 hO hR hG t0 hQ h)
      · have h := h.2 c4
        refine gBk (pe := 165) hO [o0 (.aload_n 1), oF (.getfield 31) 8 0 957 0, oF (.getfield 58) 3 2 963 0, o0 (.iload 4), o0 (.aload_n 0), oF (.getfield 11) 1 0 108 0, o0 (.iload_n 2), oI (.bipush 7) 7, o0 .iadd, o0 .iaload, o0 .iastore, o0 (.aload_n 1), oF (.getfield 31) 8 0 957 0, oF (.getfield 61) 3 4 964 0, o0 (.iload 4), o0 (.aload_n 0), oF (.getfield 11) 1 0 108 0, o0 (.iload_n 2), oI (.bipush 8) 8, o0 .iadd, o0 .iaload, o0 .iastore] (by decide +kernel) (And.intro t1 (And.intro (tGr.off hG t1 (k := 0) rfl) (And.intro t0 (And.intro (tGr.off hG t0 (k := 0) rfl) (And.intro (tin (tGr.len hG t0 (k := 0) rfl (by decide)) h.1) (And.intro (tGr.off hG (tGr.off hG t1 (k := 0) rfl) (k := 2) rfl) (And.intro (tin (tGr.len hG (tGr.off hG t1 (k := 0) rfl) (k := 2) rfl (by decide)) h.2.1) (And.intro t1 (And.intro (tGr.off hG t1 (k := 0) rfl) (And.intro t0 (And.intro (tGr.off hG t0 (k := 0) rfl) (And.intro (tin (tGr.len hG t0 (k := 0) rfl (by decide)) h.2.2.1) (And.intro (tGr.off hG (tGr.off hG t1 (k := 0) rfl) (k := 4) rfl) (And.intro (tin (tGr.len hG (tGr.off hG t1 (k := 0) rfl) (k := 4) rfl (by decide)) h.2.2.2.1) (show tWG K B 0 0 S (uI (uI (uI (uI (uI (uI (uI (uI I a 1 ((I a 1) - 1)) (a1 + 14) 2 ((uI I a 1 ((I a 1) - 1)) (a + 1) ((((I a 1) - 1) * 9) + 1).toNatClampNeg)) (a1 + 14) 3 ((uI (uI I a 1 ((I a 1) - 1)) (a1 + 14) 2 ((uI I a 1 ((I a 1) - 1)) (a + 1) ((((I a 1) - 1) * 9) + 1).toNatClampNeg)) (a + 1) ((((I a 1) - 1) * 9) + 2).toNatClampNeg)) (a1 + 14) 1 ((uI (uI (uI I a 1 ((I a 1) - 1)) (a1 + 14) 2 ((uI I a 1 ((I a 1) - 1)) (a + 1) ((((I a 1) - 1) * 9) + 1).toNatClampNeg)) (a1 + 14) 3 ((uI (uI I a 1 ((I a 1) - 1)) (a1 + 14) 2 ((uI I a 1 ((I a 1) - 1)) (a + 1) ((((I a 1) - 1) * 9) + 1).toNatClampNeg)) (a + 1) ((((I a 1) - 1) * 9) + 2).toNatClampNeg)) (a + 1) ((((I a 1) - 1) * 9) + 3).toNatClampNeg)) (a1 + 14) 4 ((uI (uI (uI (uI I a 1 ((I a 1) - 1)) (a1 + 14) 2 ((uI I a 1 ((I a 1) - 1)) (a + 1) ((((I a 1) - 1) * 9) + 1).toNatClampNeg)) (a1 + 14) 3 ((uI (uI I a 1 ((I a 1) - 1)) (a1 + 14) 2 ((uI I a 1 ((I a 1) - 1)) (a + 1) ((((I a 1) - 1) * 9) + 1).toNatClampNeg)) (a + 1) ((((I a 1) - 1) * 9) + 2).toNatClampNeg)) (a1 + 14) 1 ((uI (uI (uI I a 1 ((I a 1) - 1)) (a1 + 14) 2 ((uI I a 1 ((I a 1) - 1)) (a + 1) ((((I a 1) - 1) * 9) + 1).toNatClampNeg)) (a1 + 14) 3 ((uI (uI I a 1 ((I a 1) - 1)) (a1 + 14) 2 ((uI I a 1 ((I a 1) - 1)) (a + 1) ((((I a 1) - 1) * 9) + 1).toNatClampNeg)) (a + 1) ((((I a 1) - 1) * 9) + 2).toNatClampNeg)) (a + 1) ((((I a 1) - 1) * 9) + 3).toNatClampNeg)) (a + 1) ((((I a 1) - 1) * 9) + 4).toNatClampNeg)) (a1 + 14) 5 ((uI (uI (uI (uI (uI I a 1 ((I a 1) - 1)) (a1 + 14) 2 ((uI I a 1 ((I a 1) - 1)) (a + 1) ((((I a 1) - 1) * 9) + 1).toNatClampNeg)) (a1 + 14) 3 ((uI (uI I a 1 ((I a 1) - 1)) (a1 + 14) 2 ((uI I a 1 ((I a 1) - 1)) (a + 1) ((((I a 1) - 1) * 9) + 1).toNatClampNeg)) (a + 1) ((((I a 1) - 1) * 9) + 2).toNatClampNeg)) (a1 + 14) 1 ((uI (uI (uI I a 1 ((I a 1) - 1)) (a1 + 14) 2 ((uI I a 1 ((I a 1) - 1)) (a + 1) ((((I a 1) - 1) * 9) + 1).toNatClampNeg)) (a1 + 14) 3 ((uI (uI I a 1 ((I a 1) - 1)) (a1 + 14) 2 ((uI I a 1 ((I a 1) - 1)) (a + 1) ((((I a 1) - 1) * 9) + 1).toNatClampNeg)) (a + 1) ((((I a 1) - 1) * 9) + 2).toNatClampNeg)) (a + 1) ((((I a 1) - 1) * 9) + 3).toNatClampNeg)) (a1 + 14) 4 ((uI (uI (uI (uI I a 1 ((I a 1) - 1)) (a1 + 14) 2 ((uI I a 1 ((I a 1) - 1)) (a + 1) ((((I a 1) - 1) * 9) + 1).toNatClampNeg)) (a1 + 14) 3 ((uI (uI I a 1 ((I a 1) - 1)) (a1 + 14) 2 ((uI I a 1 ((I a 1) - 1)) (a + 1) ((((I a 1) - 1) * 9) + 1).toNatClampNeg)) (a + 1) ((((I a 1) - 1) * 9) + 2).toNatClampNeg)) (a1 + 14) 1 ((uI (uI (uI I a 1 ((I a 1) - 1)) (a1 + 14) 2 ((uI I a 1 ((I a 1) - 1)) (a + 1) ((((I a 1) - 1) * 9) + 1).toNatClampNeg)) (a1 + 14) 3 ((uI (uI I a 1 ((I a 1) - 1)) (a1 + 14) 2 ((uI I a 1 ((I a 1) - 1)) (a + 1) ((((I a 1) - 1) * 9) + 1).toNatClampNeg)) (a + 1) ((((I a 1) - 1) * 9) + 2).toNatClampNeg)) (a + 1) ((((I a 1) - 1) * 9) + 3).toNatClampNeg)) (a + 1) ((((I a 1) - 1) * 9) + 4).toNatClampNeg)) (a + 1) ((((I a 1) - 1) * 9) + 5).toNatClampNeg)) (a1 + 3) ((uI (uI (uI (uI (uI (uI I a 1 ((I a 1) - 1)) (a1 + 14) 2 ((uI I a 1 ((I a 1) - 1)) (a + 1) ((((I a 1) - 1) * 9) + 1).toNatClampNeg)) (a1 + 14) 3 ((uI (uI I a 1 ((I a 1) - 1)) (a1 + 14) 2 ((uI I a 1 ((I a 1) - 1)) (a + 1) ((((I a 1) - 1) * 9) + 1).toNatClampNeg)) (a + 1) ((((I a 1) - 1) * 9) + 2).toNatClampNeg)) (a1 + 14) 1 ((uI (uI (uI I a 1 ((I a 1) - 1)) (a1 + 14) 2 ((uI I a 1 ((I a 1) - 1)) (a + 1) ((((I a 1) - 1) * 9) + 1).toNatClampNeg)) (a1 + 14) 3 ((uI (uI I a 1 ((I a 1) - 1)) (a1 + 14) 2 ((uI I a 1 ((I a 1) - 1)) (a + 1) ((((I a 1) - 1) * 9) + 1).toNatClampNeg)) (a + 1) ((((I a 1) - 1) * 9) + 2).toNatClampNeg)) (a + 1) ((((I a 1) - 1) * 9) + 3).toNatClampNeg)) (a1 + 14) 4 ((uI (uI (uI (uI I a 1 ((I a 1) - 1)) (a1 + 14) 2 ((uI I a 1 ((I a 1) - 1)) (a + 1) ((((I a 1) - 1) * 9) + 1).toNatClampNeg)) (a1 + 14) 3 ((uI (uI I a 1 ((I a 1) - 1)) (a1 + 14) 2 ((uI I a 1 ((I a 1) - 1)) (a + 1) ((((I a 1) - 1) * 9) + 1).toNatClampNeg)) (a + 1) ((((I a 1) - 1) * 9) + 2).toNatClampNeg)) (a1 + 14) 1 ((uI (uI (uI I a 1 ((I a 1) - 1)) (a1 + 14) 2 ((uI I a 1 ((I a 1) - 1)) (a + 1) ((((I a 1) - 1) * 9) + 1).toNatClampNeg)) (a1 + 14) 3 ((uI (uI I a 1 ((I a 1) - 1)) (a1 + 14) 2 ((uI I a 1 ((I a 1) - 1)) (a + 1) ((((I a 1) - 1) * 9) + 1).toNatClampNeg)) (a + 1) ((((I a 1) - 1) * 9) + 2).toNatClampNeg)) (a + 1) ((((I a 1) - 1) * 9) + 3).toNatClampNeg)) (a + 1) ((((I a 1) - 1) * 9) + 4).toNatClampNeg)) (a1 + 14) 5 ((uI (uI (uI (uI (uI I a 1 ((I a 1) - 1)) (a1 + 14) 2 ((uI I a 1 ((I a 1) - 1)) (a + 1) ((((I a 1) - 1) * 9) + 1).toNatClampNeg)) (a1 + 14) 3 ((uI (uI I a 1 ((I a 1) - 1)) (a1 + 14) 2 ((uI I a 1 ((I a 1) - 1)) (a + 1) ((((I a 1) - 1) * 9) + 1).toNatClampNeg)) (a + 1) ((((I a 1) - 1) * 9) + 2).toNatClampNeg)) (a1 + 14) 1 ((uI (uI (uI I a 1 ((I a 1) - 1)) (a1 + 14) 2 ((uI I a 1 ((I a 1) - 1)) (a + 1) ((((I a 1) - 1) * 9) + 1).toNatClampNeg)) (a1 + 14) 3 ((uI (uI I a 1 ((I a 1) - 1)) (a1 + 14) 2 ((uI I a 1 ((I a 1) - 1)) (a + 1) ((((I a 1) - 1) * 9) + 1).toNatClampNeg)) (a + 1) ((((I a 1) - 1) * 9) + 2).toNatClampNeg)) (a + 1) ((((I a 1) - 1) * 9) + 3).toNatClampNeg)) (a1 + 14) 4 ((uI (uI (uI (uI I a 1 ((I a 1) - 1)) (a1 + 14) 2 ((uI I a 1 ((I a 1) - 1)) (a + 1) ((((I a 1) - 1) * 9) + 1).toNatClampNeg)) (a1 + 14) 3 ((uI (uI I a 1 ((I a 1) - 1)) (a1 + 14) 2 ((uI I a 1 ((I a 1) - 1)) (a + 1) ((((I a 1) - 1) * 9) + 1).toNatClampNeg)) (a + 1) ((((I a 1) - 1) * 9) + 2).toNatClampNeg)) (a1 + 14) 1 ((uI (uI (uI I a 1 ((I a 1) - 1)) (a1 + 14) 2 ((uI I a 1 ((I a 1) - 1)) (a + 1) ((((I a 1) - 1) * 9) + 1).toNatClampNeg)) (a1 + 14) 3 ((uI (uI I a 1 ((I a 1) - 1)) (a1 + 14) 2 ((uI I a 1 ((I a 1) - 1)) (a + 1) ((((I a 1) - 1) * 9) + 1).toNatClampNeg)) (a + 1) ((((I a 1) - 1) * 9) + 2).toNatClampNeg)) (a + 1) ((((I a 1) - 1) * 9) + 3).toNatClampNeg)) (a + 1) ((((I a 1) - 1) * 9) + 4).toNatClampNeg)) (a + 1) ((((I a 1) - 1) * 9) + 5).toNatClampNeg)) (a + 1) ((((I a 1) - 1) * 9) + 6).toNatClampNeg).toNatClampNeg ((uI (uI (uI (uI (uI (uI I a 1 ((I a 1) - 1)) (a1 + 14) 2 ((uI I a 1 ((I a 1) - 1)) (a + 1) ((((I a 1) - 1) * 9) + 1).toNatClampNeg)) (a1 + 14) 3 ((uI (uI I a 1 ((I a 1) - 1)) (a1 + 14) 2 ((uI I a 1 ((I a 1) - 1)) (a + 1) ((((I a 1) - 1) * 9) + 1).toNatClampNeg)) (a + 1) ((((I a 1) - 1) * 9) + 2).toNatClampNeg)) (a1 + 14) 1 ((uI (uI (uI I a 1 ((I a 1) - 1)) (a1 + 14) 2 ((uI I a 1 ((I a 1) - 1)) (a + 1) ((((I a 1) - 1) * 9) + 1).toNatClampNeg)) (a1 + 14) 3 ((uI (uI I a 1 ((I a 1) - 1)) (a1 + 14) 2 ((uI I a 1 ((I a 1) - 1)) (a + 1) ((((I a 1) - 1) * 9) + 1).toNatClampNeg)) (a + 1) ((((I a 1) - 1) * 9) + 2).toNatClampNeg)) (a + 1) ((((I a 1) - 1) * 9) + 3).toNatClampNeg)) (a1 + 14) 4 ((uI (uI (uI (uI I a 1 ((I a 1) - 1)) (a1 + 14) 2 ((uI I a 1 ((I a 1) - 1)) (a + 1) ((((I a 1) - 1) * 9) + 1).toNatClampNeg)) (a1 + 14) 3 ((uI (uI I a 1 ((I a 1) - 1)) (a1 + 14) 2 ((uI I a 1 ((I a 1) - 1)) (a + 1) ((((I a 1) - 1) * 9) + 1).toNatClampNeg)) (a + 1) ((((I a 1) - 1) * 9) + 2).toNatClampNeg)) (a1 + 14) 1 ((uI (uI (uI I a 1 ((I a 1) - 1)) (a1 + 14) 2 ((uI I a 1 ((I a 1) - 1)) (a + 1) ((((I a 1) - 1) * 9) + 1).toNatClampNeg)) (a1 + 14) 3 ((uI (uI I a 1 ((I a 1) - 1)) (a1 + 14) 2 ((uI I a 1 ((I a 1) - 1)) (a + 1) ((((I a 1) - 1) * 9) + 1).toNatClampNeg)) (a + 1) ((((I a 1) - 1) * 9) + 2).toNatClampNeg)) (a + 1) ((((I a 1) - 1) * 9) + 3).toNatClampNeg)) (a + 1) ((((I a 1) - 1) * 9) + 4).toNatClampNeg)) (a1 + 14) 5 ((uI (uI (uI (uI (uI I a 1 ((I a 1) - 1)) (a1 + 14) 2 ((uI I a 1 ((I a 1) - 1)) (a + 1) ((((I a 1) - 1) * 9) + 1).toNatClampNeg)) (a1 + 14) 3 ((uI (uI I a 1 ((I a 1) - 1)) (a1 + 14) 2 ((uI I a 1 ((I a 1) - 1)) (a + 1) ((((I a 1) - 1) * 9) + 1).toNatClampNeg)) (a + 1) ((((I a 1) - 1) * 9) + 2).toNatClampNeg)) (a1 + 14) 1 ((uI (uI (uI I a 1 ((I a 1) - 1)) (a1 + 14) 2 ((uI I a 1 ((I a 1) - 1)) (a + 1) ((((I a 1) - 1) * 9) + 1).toNatClampNeg)) (a1 + 14) 3 ((uI (uI I a 1 ((I a 1) - 1)) (a1 + 14) 2 ((uI I a 1 ((I a 1) - 1)) (a + 1) ((((I a 1) - 1) * 9) + 1).toNatClampNeg)) (a + 1) ((((I a 1) - 1) * 9) + 2).toNatClampNeg)) (a + 1) ((((I a 1) - 1) * 9) + 3).toNatClampNeg)) (a1 + 14) 4 ((uI (uI (uI (uI I a 1 ((I a 1) - 1)) (a1 + 14) 2 ((uI I a 1 ((I a 1) - 1)) (a + 1) ((((I a 1) - 1) * 9) + 1).toNatClampNeg)) (a1 + 14) 3 ((uI (uI I a 1 ((I a 1) - 1)) (a1 + 14) 2 ((uI I a 1 ((I a 1) - 1)) (a + 1) ((((I a 1) - 1) * 9) + 1).toNatClampNeg)) (a + 1) ((((I a 1) - 1) * 9) + 2).toNatClampNeg)) (a1 + 14) 1 ((uI (uI (uI I a 1 ((I a 1) - 1)) (a1 + 14) 2 ((uI I a 1 ((I a 1) - 1)) (a + 1) ((((I a 1) - 1) * 9) + 1).toNatClampNeg)) (a1 + 14) 3 ((uI (uI I a 1 ((I a 1) - 1)) (a1 + 14) 2 ((uI I a 1 ((I a 1) - 1)) (a + 1) ((((I a 1) - 1) * 9) + 1).toNatClampNeg)) (a + 1) ((((I a 1) - 1) * 9) + 2).toNatClampNeg)) (a + 1) ((((I a 1) - 1) * 9) + 3).toNatClampNeg)) (a + 1) ((((I a 1) - 1) * 9) + 4).toNatClampNeg)) (a + 1) ((((I a 1) - 1) * 9) + 5).toNatClampNeg)) (a + 1) ((((I a 1) - 1) * 9) + 7).toNatClampNeg)) (a1 + 5) ((uI (uI (uI (uI (uI (uI I a 1 ((I a 1) - 1)) (a1 + 14) 2 ((uI I a 1 ((I a 1) - 1)) (a + 1) ((((I a 1) - 1) * 9) + 1).toNatClampNeg)) (a1 + 14) 3 ((uI (uI I a 1 ((I a 1) - 1)) (a1 + 14) 2 ((uI I a 1 ((I a 1) - 1)) (a + 1) ((((I a 1) - 1) * 9) + 1).toNatClampNeg)) (a + 1) ((((I a 1) - 1) * 9) + 2).toNatClampNeg)) (a1 + 14) 1 ((uI (uI (uI I a 1 ((I a 1) - 1)) (a1 + 14) 2 ((uI I a 1 ((I a 1) - 1)) (a + 1) ((((I a 1) - 1) * 9) + 1).toNatClampNeg)) (a1 + 14) 3 ((uI (uI I a 1 ((I a 1) - 1)) (a1 + 14) 2 ((uI I a 1 ((I a 1) - 1)) (a + 1) ((((I a 1) - 1) * 9) + 1).toNatClampNeg)) (a + 1) ((((I a 1) - 1) * 9) + 2).toNatClampNeg)) (a + 1) ((((I a 1) - 1) * 9) + 3).toNatClampNeg)) (a1 + 14) 4 ((uI (uI (uI (uI I a 1 ((I a 1) - 1)) (a1 + 14) 2 ((uI I a 1 ((I a 1) - 1)) (a + 1) ((((I a 1) - 1) * 9) + 1).toNatClampNeg)) (a1 + 14) 3 ((uI (uI I a 1 ((I a 1) - 1)) (a1 + 14) 2 ((uI I a 1 ((I a 1) - 1)) (a + 1) ((((I a 1) - 1) * 9) + 1).toNatClampNeg)) (a + 1) ((((I a 1) - 1) * 9) + 2).toNatClampNeg)) (a1 + 14) 1 ((uI (uI (uI I a 1 ((I a 1) - 1)) (a1 + 14) 2 ((uI I a 1 ((I a 1) - 1)) (a + 1) ((((I a 1) - 1) * 9) + 1).toNatClampNeg)) (a1 + 14) 3 ((uI (uI I a 1 ((I a 1) - 1)) (a1 + 14) 2 ((uI I a 1 ((I a 1) - 1)) (a + 1) ((((I a 1) - 1) * 9) + 1).toNatClampNeg)) (a + 1) ((((I a 1) - 1) * 9) + 2).toNatClampNeg)) (a + 1) ((((I a 1) - 1) * 9) + 3).toNatClampNeg)) (a + 1) ((((I a 1) - 1) * 9) + 4).toNatClampNeg)) (a1 + 14) 5 ((uI (uI (uI (uI (uI I a 1 ((I a 1) - 1)) (a1 + 14) 2 ((uI I a 1 ((I a 1) - 1)) (a + 1) ((((I a 1) - 1) * 9) + 1).toNatClampNeg)) (a1 + 14) 3 ((uI (uI I a 1 ((I a 1) - 1)) (a1 + 14) 2 ((uI I a 1 ((I a 1) - 1)) (a + 1) ((((I a 1) - 1) * 9) + 1).toNatClampNeg)) (a + 1) ((((I a 1) - 1) * 9) + 2).toNatClampNeg)) (a1 + 14) 1 ((uI (uI (uI I a 1 ((I a 1) - 1)) (a1 + 14) 2 ((uI I a 1 ((I a 1) - 1)) (a + 1) ((((I a 1) - 1) * 9) + 1).toNatClampNeg)) (a1 + 14) 3 ((uI (uI I a 1 ((I a 1) - 1)) (a1 + 14) 2 ((uI I a 1 ((I a 1) - 1)) (a + 1) ((((I a 1) - 1) * 9) + 1).toNatClampNeg)) (a + 1) ((((I a 1) - 1) * 9) + 2).toNatClampNeg)) (a + 1) ((((I a 1) - 1) * 9) + 3).toNatClampNeg)) (a1 + 14) 4 ((uI (uI (uI (uI I a 1 ((I a 1) - 1)) (a1 + 14) 2 ((uI I a 1 ((I a 1) - 1)) (a + 1) ((((I a 1) - 1) * 9) + 1).toNatClampNeg)) (a1 + 14) 3 ((uI (uI I a 1 ((I a 1) - 1)) (a1 + 14) 2 ((uI I a 1 ((I a 1) - 1)) (a + 1) ((((I a 1) - 1) * 9) + 1).toNatClampNeg)) (a + 1) ((((I a 1) - 1) * 9) + 2).toNatClampNeg)) (a1 + 14) 1 ((uI (uI (uI I a 1 ((I a 1) - 1)) (a1 + 14) 2 ((uI I a 1 ((I a 1) - 1)) (a + 1) ((((I a 1) - 1) * 9) + 1).toNatClampNeg)) (a1 + 14) 3 ((uI (uI I a 1 ((I a 1) - 1)) (a1 + 14) 2 ((uI I a 1 ((I a 1) - 1)) (a + 1) ((((I a 1) - 1) * 9) + 1).toNatClampNeg)) (a + 1) ((((I a 1) - 1) * 9) + 2).toNatClampNeg)) (a + 1) ((((I a 1) - 1) * 9) + 3).toNatClampNeg)) (a + 1) ((((I a 1) - 1) * 9) + 4).toNatClampNeg)) (a + 1) ((((I a 1) - 1) * 9) + 5).toNatClampNeg)) (a + 1) ((((I a 1) - 1) * 9) + 6).toNatClampNeg).toNatClampNeg ((uI (uI (uI (uI (uI (uI (uI I a 1 ((I a 1) - 1)) (a1 + 14) 2 ((uI I a 1 ((I a 1) - 1)) (a + 1) ((((I a 1) - 1) * 9) + 1).toNatClampNeg)) (a1 + 14) 3 ((uI (uI I a 1 ((I a 1) - 1)) (a1 + 14) 2 ((uI I a 1 ((I a 1) - 1)) (a + 1) ((((I a 1) - 1) * 9) + 1).toNatClampNeg)) (a + 1) ((((I a 1) - 1) * 9) + 2).toNatClampNeg)) (a1 + 14) 1 ((uI (uI (uI I a 1 ((I a 1) - 1)) (a1 + 14) 2 ((uI I a 1 ((I a 1) - 1)) (a + 1) ((((I a 1) - 1) * 9) + 1).toNatClampNeg)) (a1 + 14) 3 ((uI (uI I a 1 ((I a 1) - 1)) (a1 + 14) 2 ((uI I a 1 ((I a 1) - 1)) (a + 1) ((((I a 1) - 1) * 9) + 1).toNatClampNeg)) (a + 1) ((((I a 1) - 1) * 9) + 2).toNatClampNeg)) (a + 1) ((((I a 1) - 1) * 9) + 3).toNatClampNeg)) (a1 + 14) 4 ((uI (uI (uI (uI I a 1 ((I a 1) - 1)) (a1 + 14) 2 ((uI I a 1 ((I a 1) - 1)) (a + 1) ((((I a 1) - 1) * 9) + 1).toNatClampNeg)) (a1 + 14) 3 ((uI (uI I a 1 ((I a 1) - 1)) (a1 + 14) 2 ((uI I a 1 ((I a 1) - 1)) (a + 1) ((((I a 1) - 1) * 9) + 1).toNatClampNeg)) (a + 1) ((((I a 1) - 1) * 9) + 2).toNatClampNeg)) (a1 + 14) 1 ((uI (uI (uI I a 1 ((I a 1) - 1)) (a1 + 14) 2 ((uI I a 1 ((I a 1) - 1)) (a + 1) ((((I a 1) - 1) * 9) + 1).toNatClampNeg)) (a1 + 14) 3 ((uI (uI I a 1 ((I a 1) - 1)) (a1 + 14) 2 ((uI I a 1 ((I a 1) - 1)) (a + 1) ((((I a 1) - 1) * 9) + 1).toNatClampNeg)) (a + 1) ((((I a 1) - 1) * 9) + 2).toNatClampNeg)) (a + 1) ((((I a 1) - 1) * 9) + 3).toNatClampNeg)) (a + 1) ((((I a 1) - 1) * 9) + 4).toNatClampNeg)) (a1 + 14) 5 ((uI (uI (uI (uI (uI I a 1 ((I a 1) - 1)) (a1 + 14) 2 ((uI I a 1 ((I a 1) - 1)) (a + 1) ((((I a 1) - 1) * 9) + 1).toNatClampNeg)) (a1 + 14) 3 ((uI (uI I a 1 ((I a 1) - 1)) (a1 + 14) 2 ((uI I a 1 ((I a 1) - 1)) (a + 1) ((((I a 1) - 1) * 9) + 1).toNatClampNeg)) (a + 1) ((((I a 1) - 1) * 9) + 2).toNatClampNeg)) (a1 + 14) 1 ((uI (uI (uI I a 1 ((I a 1) - 1)) (a1 + 14) 2 ((uI I a 1 ((I a 1) - 1)) (a + 1) ((((I a 1) - 1) * 9) + 1).toNatClampNeg)) (a1 + 14) 3 ((uI (uI I a 1 ((I a 1) - 1)) (a1 + 14) 2 ((uI I a 1 ((I a 1) - 1)) (a + 1) ((((I a 1) - 1) * 9) + 1).toNatClampNeg)) (a + 1) ((((I a 1) - 1) * 9) + 2).toNatClampNeg)) (a + 1) ((((I a 1) - 1) * 9) + 3).toNatClampNeg)) (a1 + 14) 4 ((uI (uI (uI (uI I a 1 ((I a 1) - 1)) (a1 + 14) 2 ((uI I a 1 ((I a 1) - 1)) (a + 1) ((((I a 1) - 1) * 9) + 1).toNatClampNeg)) (a1 + 14) 3 ((uI (uI I a 1 ((I a 1) - 1)) (a1 + 14) 2 ((uI I a 1 ((I a 1) - 1)) (a + 1) ((((I a 1) - 1) * 9) + 1).toNatClampNeg)) (a + 1) ((((I a 1) - 1) * 9) + 2).toNatClampNeg)) (a1 + 14) 1 ((uI (uI (uI I a 1 ((I a 1) - 1)) (a1 + 14) 2 ((uI I a 1 ((I a 1) - 1)) (a + 1) ((((I a 1) - 1) * 9) + 1).toNatClampNeg)) (a1 + 14) 3 ((uI (uI I a 1 ((I a 1) - 1)) (a1 + 14) 2 ((uI I a 1 ((I a 1) - 1)) (a + 1) ((((I a 1) - 1) * 9) + 1).toNatClampNeg)) (a + 1) ((((I a 1) - 1) * 9) + 2).toNatClampNeg)) (a + 1) ((((I a 1) - 1) * 9) + 3).toNatClampNeg)) (a + 1) ((((I a 1) - 1) * 9) + 4).toNatClampNeg)) (a + 1) ((((I a 1) - 1) * 9) + 5).toNatClampNeg)) (a1 + 3) ((uI (uI (uI (uI (uI (uI I a 1 ((I a 1) - 1)) (a1 + 14) 2 ((uI I a 1 ((I a 1) - 1)) (a + 1) ((((I a 1) - 1) * 9) + 1).toNatClampNeg)) (a1 + 14) 3 ((uI (uI I a 1 ((I a 1) - 1)) (a1 + 14) 2 ((uI I a 1 ((I a 1) - 1)) (a + 1) ((((I a 1) - 1) * 9) + 1).toNatClampNeg)) (a + 1) ((((I a 1) - 1) * 9) + 2).toNatClampNeg)) (a1 + 14) 1 ((uI (uI (uI I a 1 ((I a 1) - 1)) (a1 + 14) 2 ((uI I a 1 ((I a 1) - 1)) (a + 1) ((((I a 1) - 1) * 9) + 1).toNatClampNeg)) (a1 + 14) 3 ((uI (uI I a 1 ((I a 1) - 1)) (a1 + 14) 2 ((uI I a 1 ((I a 1) - 1)) (a + 1) ((((I a 1) - 1) * 9) + 1).toNatClampNeg)) (a + 1) ((((I a 1) - 1) * 9) + 2).toNatClampNeg)) (a + 1) ((((I a 1) - 1) * 9) + 3).toNatClampNeg)) (a1 + 14) 4 ((uI (uI (uI (uI I a 1 ((I a 1) - 1)) (a1 + 14) 2 ((uI I a 1 ((I a 1) - 1)) (a + 1) ((((I a 1) - 1) * 9) + 1).toNatClampNeg)) (a1 + 14) 3 ((uI (uI I a 1 ((I a 1) - 1)) (a1 + 14) 2 ((uI I a 1 ((I a 1) - 1)) (a + 1) ((((I a 1) - 1) * 9) + 1).toNatClampNeg)) (a + 1) ((((I a 1) - 1) * 9) + 2).toNatClampNeg)) (a1 + 14) 1 ((uI (uI (uI I a 1 ((I a 1) - 1)) (a1 + 14) 2 ((uI I a 1 ((I a 1) - 1)) (a + 1) ((((I a 1) - 1) * 9) + 1).toNatClampNeg)) (a1 + 14) 3 ((uI (uI I a 1 ((I a 1) - 1)) (a1 + 14) 2 ((uI I a 1 ((I a 1) - 1)) (a + 1) ((((I a 1) - 1) * 9) + 1).toNatClampNeg)) (a + 1) ((((I a 1) - 1) * 9) + 2).toNatClampNeg)) (a + 1) ((((I a 1) - 1) * 9) + 3).toNatClampNeg)) (a + 1) ((((I a 1) - 1) * 9) + 4).toNatClampNeg)) (a1 + 14) 5 ((uI (uI (uI (uI (uI I a 1 ((I a 1) - 1)) (a1 + 14) 2 ((uI I a 1 ((I a 1) - 1)) (a + 1) ((((I a 1) - 1) * 9) + 1).toNatClampNeg)) (a1 + 14) 3 ((uI (uI I a 1 ((I a 1) - 1)) (a1 + 14) 2 ((uI I a 1 ((I a 1) - 1)) (a + 1) ((((I a 1) - 1) * 9) + 1).toNatClampNeg)) (a + 1) ((((I a 1) - 1) * 9) + 2).toNatClampNeg)) (a1 + 14) 1 ((uI (uI (uI I a 1 ((I a 1) - 1)) (a1 + 14) 2 ((uI I a 1 ((I a 1) - 1)) (a + 1) ((((I a 1) - 1) * 9) + 1).toNatClampNeg)) (a1 + 14) 3 ((uI (uI I a 1 ((I a 1) - 1)) (a1 + 14) 2 ((uI I a 1 ((I a 1) - 1)) (a + 1) ((((I a 1) - 1) * 9) + 1).toNatClampNeg)) (a + 1) ((((I a 1) - 1) * 9) + 2).toNatClampNeg)) (a + 1) ((((I a 1) - 1) * 9) + 3).toNatClampNeg)) (a1 + 14) 4 ((uI (uI (uI (uI I a 1 ((I a 1) - 1)) (a1 + 14) 2 ((uI I a 1 ((I a 1) - 1)) (a + 1) ((((I a 1) - 1) * 9) + 1).toNatClampNeg)) (a1 + 14) 3 ((uI (uI I a 1 ((I a 1) - 1)) (a1 + 14) 2 ((uI I a 1 ((I a 1) - 1)) (a + 1) ((((I a 1) - 1) * 9) + 1).toNatClampNeg)) (a + 1) ((((I a 1) - 1) * 9) + 2).toNatClampNeg)) (a1 + 14) 1 ((uI (uI (uI I a 1 ((I a 1) - 1)) (a1 + 14) 2 ((uI I a 1 ((I a 1) - 1)) (a + 1) ((((I a 1) - 1) * 9) + 1).toNatClampNeg)) (a1 + 14) 3 ((uI (uI I a 1 ((I a 1) - 1)) (a1 + 14) 2 ((uI I a 1 ((I a 1) - 1)) (a + 1) ((((I a 1) - 1) * 9) + 1).toNatClampNeg)) (a + 1) ((((I a 1) - 1) * 9) + 2).toNatClampNeg)) (a + 1) ((((I a 1) - 1) * 9) + 3).toNatClampNeg)) (a + 1) ((((I a 1) - 1) * 9) + 4).toNatClampNeg)) (a + 1) ((((I a 1) - 1) * 9) + 5).toNatClampNeg)) (a + 1) ((((I a 1) - 1) * 9) + 6).toNatClampNeg).toNatClampNeg ((uI (uI (uI (uI (uI (uI I a 1 ((I a 1) - 1)) (a1 + 14) 2 ((uI I a 1 ((I a 1) - 1)) (a + 1) ((((I a 1) - 1) * 9) + 1).toNatClampNeg)) (a1 + 14) 3 ((uI (uI I a 1 ((I a 1) - 1)) (a1 + 14) 2 ((uI I a 1 ((I a 1) - 1)) (a + 1) ((((I a 1) - 1) * 9) + 1).toNatClampNeg)) (a + 1) ((((I a 1) - 1) * 9) + 2).toNatClampNeg)) (a1 + 14) 1 ((uI (uI (uI I a 1 ((I a 1) - 1)) (a1 + 14) 2 ((uI I a 1 ((I a 1) - 1)) (a + 1) ((((I a 1) - 1) * 9) + 1).toNatClampNeg)) (a1 + 14) 3 ((uI (uI I a 1 ((I a 1) - 1)) (a1 + 14) 2 ((uI I a 1 ((I a 1) - 1)) (a + 1) ((((I a 1) - 1) * 9) + 1).toNatClampNeg)) (a + 1) ((((I a 1) - 1) * 9) + 2).toNatClampNeg)) (a + 1) ((((I a 1) - 1) * 9) + 3).toNatClampNeg)) (a1 + 14) 4 ((uI (uI (uI (uI I a 1 ((I a 1) - 1)) (a1 + 14) 2 ((uI I a 1 ((I a 1) - 1)) (a + 1) ((((I a 1) - 1) * 9) + 1).toNatClampNeg)) (a1 + 14) 3 ((uI (uI I a 1 ((I a 1) - 1)) (a1 + 14) 2 ((uI I a 1 ((I a 1) - 1)) (a + 1) ((((I a 1) - 1) * 9) + 1).toNatClampNeg)) (a + 1) ((((I a 1) - 1) * 9) + 2).toNatClampNeg)) (a1 + 14) 1 ((uI (uI (uI I a 1 ((I a 1) - 1)) (a1 + 14) 2 ((uI I a 1 ((I a 1) - 1)) (a + 1) ((((I a 1) - 1) * 9) + 1).toNatClampNeg)) (a1 + 14) 3 ((uI (uI I a 1 ((I a 1) - 1)) (a1 + 14) 2 ((uI I a 1 ((I a 1) - 1)) (a + 1) ((((I a 1) - 1) * 9) + 1).toNatClampNeg)) (a + 1) ((((I a 1) - 1) * 9) + 2).toNatClampNeg)) (a + 1) ((((I a 1) - 1) * 9) + 3).toNatClampNeg)) (a + 1) ((((I a 1) - 1) * 9) + 4).toNatClampNeg)) (a1 + 14) 5 ((uI (uI (uI (uI (uI I a 1 ((I a 1) - 1)) (a1 + 14) 2 ((uI I a 1 ((I a 1) - 1)) (a + 1) ((((I a 1) - 1) * 9) + 1).toNatClampNeg)) (a1 + 14) 3 ((uI (uI I a 1 ((I a 1) - 1)) (a1 + 14) 2 ((uI I a 1 ((I a 1) - 1)) (a + 1) ((((I a 1) - 1) * 9) + 1).toNatClampNeg)) (a + 1) ((((I a 1) - 1) * 9) + 2).toNatClampNeg)) (a1 + 14) 1 ((uI (uI (uI I a 1 ((I a 1) - 1)) (a1 + 14) 2 ((uI I a 1 ((I a 1) - 1)) (a + 1) ((((I a 1) - 1) * 9) + 1).toNatClampNeg)) (a1 + 14) 3 ((uI (uI I a 1 ((I a 1) - 1)) (a1 + 14) 2 ((uI I a 1 ((I a 1) - 1)) (a + 1) ((((I a 1) - 1) * 9) + 1).toNatClampNeg)) (a + 1) ((((I a 1) - 1) * 9) + 2).toNatClampNeg)) (a + 1) ((((I a 1) - 1) * 9) + 3).toNatClampNeg)) (a1 + 14) 4 ((uI (uI (uI (uI I a 1 ((I a 1) - 1)) (a1 + 14) 2 ((uI I a 1 ((I a 1) - 1)) (a + 1) ((((I a 1) - 1) * 9) + 1).toNatClampNeg)) (a1 + 14) 3 ((uI (uI I a 1 ((I a 1) - 1)) (a1 + 14) 2 ((uI I a 1 ((I a 1) - 1)) (a + 1) ((((I a 1) - 1) * 9) + 1).toNatClampNeg)) (a + 1) ((((I a 1) - 1) * 9) + 2).toNatClampNeg)) (a1 + 14) 1 ((uI (uI (uI I a 1 ((I a 1) - 1)) (a1 + 14) 2 ((uI I a 1 ((I a 1) - 1)) (a + 1) ((((I a 1) - 1) * 9) + 1).toNatClampNeg)) (a1 + 14) 3 ((uI (uI I a 1 ((I a 1) - 1)) (a1 + 14) 2 ((uI I a 1 ((I a 1) - 1)) (a + 1) ((((I a 1) - 1) * 9) + 1).toNatClampNeg)) (a + 1) ((((I a 1) - 1) * 9) + 2).toNatClampNeg)) (a + 1) ((((I a 1) - 1) * 9) + 3).toNatClampNeg)) (a + 1) ((((I a 1) - 1) * 9) + 4).toNatClampNeg)) (a + 1) ((((I a 1) - 1) * 9) + 5).toNatClampNeg)) (a + 1) ((((I a 1) - 1) * 9) + 7).toNatClampNeg)) (a + 1) ((((I a 1) - 1) * 9) + 8).toNatClampNeg)) J 165 [some (vR a), some (vR a1), some (vI (((I a 1) - 1) * 9)), some (vR (a1 + 14)), some (vI ((uI (uI (uI (uI (uI (uI I a 1 ((I a 1) - 1)) (a1 + 14) 2 ((uI I a 1 ((I a 1) - 1)) (a + 1) ((((I a 1) - 1) * 9) + 1).toNatClampNeg)) (a1 + 14) 3 ((uI (uI I a 1 ((I a 1) - 1)) (a1 + 14) 2 ((uI I a 1 ((I a 1) - 1)) (a + 1) ((((I a 1) - 1) * 9) + 1).toNatClampNeg)) (a + 1) ((((I a 1) - 1) * 9) + 2).toNatClampNeg)) (a1 + 14) 1 ((uI (uI (uI I a 1 ((I a 1) - 1)) (a1 + 14) 2 ((uI I a 1 ((I a 1) - 1)) (a + 1) ((((I a 1) - 1) * 9) + 1).toNatClampNeg)) (a1 + 14) 3 ((uI (uI I a 1 ((I a 1) - 1)) (a1 + 14) 2 ((uI I a 1 ((I a 1) - 1)) (a + 1) ((((I a 1) - 1) * 9) + 1).toNatClampNeg)) (a + 1) ((((I a 1) - 1) * 9) + 2).toNatClampNeg)) (a + 1) ((((I a 1) - 1) * 9) + 3).toNatClampNeg)) (a1 + 14) 4 ((uI (uI (uI (uI I a 1 ((I a 1) - 1)) (a1 + 14) 2 ((uI I a 1 ((I a 1) - 1)) (a + 1) ((((I a 1) - 1) * 9) + 1).toNatClampNeg)) (a1 + 14) 3 ((uI (uI I a 1 ((I a 1) - 1)) (a1 + 14) 2 ((uI I a 1 ((I a 1) - 1)) (a + 1) ((((I a 1) - 1) * 9) + 1).toNatClampNeg)) (a + 1) ((((I a 1) - 1) * 9) + 2).toNatClampNeg)) (a1 + 14) 1 ((uI (uI (uI I a 1 ((I a 1) - 1)) (a1 + 14) 2 ((uI I a 1 ((I a 1) - 1)) (a + 1) ((((I a 1) - 1) * 9) + 1).toNatClampNeg)) (a1 + 14) 3 ((uI (uI I a 1 ((I a 1) - 1)) (a1 + 14) 2 ((uI I a 1 ((I a 1) - 1)) (a + 1) ((((I a 1) - 1) * 9) + 1).toNatClampNeg)) (a + 1) ((((I a 1) - 1) * 9) + 2).toNatClampNeg)) (a + 1) ((((I a 1) - 1) * 9) + 3).toNatClampNeg)) (a + 1) ((((I a 1) - 1) * 9) + 4).toNatClampNeg)) (a1 + 14) 5 ((uI (uI (uI (uI (uI I a 1 ((I a 1) - 1)) (a1 + 14) 2 ((uI I a 1 ((I a 1) - 1)) (a + 1) ((((I a 1) - 1) * 9) + 1).toNatClampNeg)) (a1 + 14) 3 ((uI (uI I a 1 ((I a 1) - 1)) (a1 + 14) 2 ((uI I a 1 ((I a 1) - 1)) (a + 1) ((((I a 1) - 1) * 9) + 1).toNatClampNeg)) (a + 1) ((((I a 1) - 1) * 9) + 2).toNatClampNeg)) (a1 + 14) 1 ((uI (uI (uI I a 1 ((I a 1) - 1)) (a1 + 14) 2 ((uI I a 1 ((I a 1) - 1)) (a + 1) ((((I a 1) - 1) * 9) + 1).toNatClampNeg)) (a1 + 14) 3 ((uI (uI I a 1 ((I a 1) - 1)) (a1 + 14) 2 ((uI I a 1 ((I a 1) - 1)) (a + 1) ((((I a 1) - 1) * 9) + 1).toNatClampNeg)) (a + 1) ((((I a 1) - 1) * 9) + 2).toNatClampNeg)) (a + 1) ((((I a 1) - 1) * 9) + 3).toNatClampNeg)) (a1 + 14) 4 ((uI (uI (uI (uI I a 1 ((I a 1) - 1)) (a1 + 14) 2 ((uI I a 1 ((I a 1) - 1)) (a + 1) ((((I a 1) - 1) * 9) + 1).toNatClampNeg)) (a1 + 14) 3 ((uI (uI I a 1 ((I a 1) - 1)) (a1 + 14) 2 ((uI I a 1 ((I a 1) - 1)) (a + 1) ((((I a 1) - 1) * 9) + 1).toNatClampNeg)) (a + 1) ((((I a 1) - 1) * 9) + 2).toNatClampNeg)) (a1 + 14) 1 ((uI (uI (uI I a 1 ((I a 1) - 1)) (a1 + 14) 2 ((uI I a 1 ((I a 1) - 1)) (a + 1) ((((I a 1) - 1) * 9) + 1).toNatClampNeg)) (a1 + 14) 3 ((uI (uI I a 1 ((I a 1) - 1)) (a1 + 14) 2 ((uI I a 1 ((I a 1) - 1)) (a + 1) ((((I a 1) - 1) * 9) + 1).toNatClampNeg)) (a + 1) ((((I a 1) - 1) * 9) + 2).toNatClampNeg)) (a + 1) ((((I a 1) - 1) * 9) + 3).toNatClampNeg)) (a + 1) ((((I a 1) - 1) * 9) + 4).toNatClampNeg)) (a + 1) ((((I a 1) - 1) * 9) + 5).toNatClampNeg)) (a + 1) ((((I a 1) - 1) * 9) + 6).toNatClampNeg))] [] from ?_)))))))))))))))
        have h := h.2.2.2.2
        exact gWeak (L' := [some (vR a), none, some (vI (((I a 1) - 1) * 9)), none, none]) ⟨rfl, rfl, trivial⟩ (W1_takeBack_165 hO hR hG t0 hQ h)
    · have h := h.2 c2
      exact gWeak (L' := [none, none, none, none, none]) trivial (W1_takeBack_26 hO hR hG t0 hQ h))
set_option maxRecDepth 20000 in
theorem hc2_asItStands : tCV yX2_asItStands cX2_asItStands 2 none 0 := ⟨⟨(List.mem_of_getElem? (i := 258) rfl), (List.mem_of_getElem? (i := 37) (by decide +kernel)), by decide +kernel⟩, (List.mem_of_getElem? (i := 256) (by decide +kernel)), (List.mem_of_getElem? (i := 257) (by decide +kernel))⟩
set_option maxRecDepth 100000 in
theorem M2_asItStands {l : Launch} {B : tB} {S : tSH} {I : tHI} {J : tHJ} {n : Nat} {k : tHI → tHJ → Prop} (t0 : ty S 48 2) (h : F2_asItStands n S I J k) : Met l yX2_asItStands (tWs yX2_asItStands cX2_asItStands 2 none) (tRm 3 0 0) (tPc B [vR 48] S I J) (tQv B (tPv S k)) 0 0 (tA B) :=
  tEntry (by decide +kernel) [some (vR 48), none] rfl rfl (Nat.le_of_ble_eq_true rfl) (fun K hl hR hO hQ hG => by
  subst hl
  refine gBk (pe := 44) hO [o0 (.aload_n 0), oF (.getfield 18) 2 2 155 1, oF (.getfield 32) 8 2 259 15, o0 (.astore_n 1), o0 (.aload_n 0), oF (.getfield 11) 2 0 153 49, oI (.bipush 6) 6, o0 (.aload_n 1), oF (.getfield 38) 10 0 260 0, o0 .iastore, o0 (.aload_n 0), oF (.getfield 11) 2 0 153 49, oI (.bipush 7) 7, o0 (.aload_n 1), oF (.getfield 44) 10 5 261 0, o0 .iastore, o0 (.aload_n 0), oF (.getfield 11) 2 0 153 49, oI (.bipush 11) 11, o0 (.aload_n 1), oF (.getfield 47) 10 8 262 0, o0 .iastore, o0 (.aload_n 0), oI (.bipush 63) 63] (by decide +kernel) (And.intro t0 (And.intro rfl (And.intro (tGr.abs hG t0 (k := 2) rfl) (And.intro rfl (And.intro (Nat.le_of_ble_eq_true rfl) (And.intro t0 (And.intro rfl (And.intro (tGr.off hG (tGr.abs hG t0 (k := 2) rfl) (k := 2) rfl) (And.intro (tGr.off hG t0 (k := 0) rfl) (And.intro (tin (tGr.len hG t0 (k := 0) rfl (by decide)) (tvi (by decide +kernel))) (And.intro t0 (And.intro rfl (And.intro (tGr.off hG (tGr.abs hG t0 (k := 2) rfl) (k := 2) rfl) (And.intro (tGr.off hG t0 (k := 0) rfl) (And.intro (tin (tGr.len hG t0 (k := 0) rfl (by decide)) (tvi (by decide +kernel))) (And.intro t0 (And.intro rfl (And.intro (tGr.off hG (tGr.abs hG t0 (k := 2) rfl) (k := 2) rfl) (And.intro (tGr.off hG t0 (k := 0) rfl) (And.intro (tin (tGr.len hG t0 (k := 0) rfl (by decide)) (tvi (by decide +kernel))) (show tWG K B 0 0 S (uI (uI (uI I 49 6 (I 15 0)) 49 7 ((uI I 49 6 (I 15 0)) 15 5)) 49 11 ((uI (uI I 49 6 (I 15 0)) 49 7 ((uI I 49 6 (I 15 0)) 15 5)) 15 8)) J 44 [some (vR 48), some (vR 15)] [vI 63, vR 48] from ?_)))))))))))))))))))))
  refine gCVv_c hO (M2_weigh t0 h) hc2_weigh (idx := 50) (w := 263) (by decide +kernel) hR (by omega) t0 ⟨by decide, rfl⟩ (vs := [vI 63]) (st := []) ⟨rfl, Nat.le_of_ble_eq_true rfl, rfl⟩ (by decide +kernel) (fun I1 J2 h => ?_)
  exact gVret hO hQ (by decide +kernel) ⟨rfl, h⟩)
set_option maxRecDepth 100000 in
theorem W4_advance_15 {K : tK} {B : tB} {S : tSH} {MC MS : Nat} (hO : tKO K B RX4 cX4_advance 2) (hR : kR K = tRm 3 MC MS) (hG : tGr S) {n : Nat} (t0 : ty S 40 4) {k : tHI → tHJ → Prop} (hQ : tRet K B (tQv B (tPv S k)) 0 0 none) {I : tHI} {J : tHJ} (h : F4_advance_15 n S k I J) : tWG K B 0 0 S I J 15 [none, none] [] := by
  exact gVret hO hQ (by decide +kernel) ⟨rfl, h⟩
set_option maxRecDepth 100000 in
theorem W4_advance_193 {K : tK} {B : tB} {S : tSH} {MC MS : Nat} (hO : tKO K B RX4 cX4_advance 2) (hR : kR K = tRm 3 MC MS) (hG : tGr S) {n : Nat} (t0 : ty S 40 4) {k : tHI → tHJ → Prop} (hQ : tRet K B (tQv B (tPv S k)) 0 0 none) {I : tHI} {J : tHJ} (h : F4_advance_193 n S k I J) : tWG K B 0 0 S I J 193 [none, none] [] := by
  exact gVret hO hQ (by decide +kernel) ⟨rfl, h⟩
set_option maxRecDepth 100000 in
theorem W4_advance_146 {K : tK} {B : tB} {S : tSH} {MC MS : Nat} (hO : tKO K B RX4 cX4_advance 2) (hR : kR K = tRm 3 MC MS) (hG : tGr S) {n : Nat} (t0 : ty S 40 4) {k : tHI → tHJ → Prop} (hQ : tRet K B (tQv B (tPv S k)) 0 0 none) {kb106 : tHI → tHJ → Int32 → Prop} (hkb106 : ∀ (I : tHI) (J : tHJ) (v1 : Int32), kb106 I J v1 → tWG K B 0 0 S I J 106 [some (vR 40), some (vI v1)] []) {I : tHI} {J : tHJ} {v1 : Int32} (h : F4_advance_146 n S k kb106 I J v1) : tWG K B 0 0 S I J 146 [some (vR 40), some (vI v1)] [] := by
  refine gBk (pe := 161) hO [o0 (.aload_n 0), o0 .dup, oF (.getfield 32) 4 4 125 0, oI (.iconst 1) 1, o0 .iadd, oF (.putfield 32) 4 4 125 0, o0 (.aload_n 0), oF (.getfield 32) 4 4 125 0, o0 (.iload_n 1)] (by decide +kernel) (And.intro t0 (And.intro t0 (And.intro t0 (show tWG K B 0 0 S (uI I 40 4 ((I 40 4) + 1)) J 161 [some (vR 40), some (vI v1)] [vI v1, vI ((uI I 40 4 ((I 40 4) + 1)) 40 4)] from ?_))))
  refine gIcGe hO (off := 32) (tgt := 193) (by decide +kernel) (by decide) (fun c9 => ?_) (fun c9 => ?_)
  · have h := h.1 c9
    exact gWeak (L' := [none, none]) trivial (W4_advance_193 hO hR hG t0 hQ h)
  · have h := h.2 c9
    refine gBk (pe := 169) hO [o0 (.aload_n 0), oF (.getfield 38) 4 6 127 0, oI (.iconst 3) 3] (by decide +kernel) (And.intro t0 (show tWG K B 0 0 S (uI I 40 4 ((I 40 4) + 1)) J 169 [some (vR 40), some (vI v1)] [vI 3, vI ((uI I 40 4 ((I 40 4) + 1)) 40 6)] from ?_))
    refine gIcEq hO (off := 24) (tgt := 193) (by decide +kernel) (by decide) (fun c10 => ?_) (fun c10 => ?_)
    · have h := h.1 c10
      exact gWeak (L' := [none, none]) trivial (W4_advance_193 hO hR hG t0 hQ h)
    · have h := h.2 c10
      refine gBk (pe := 176) hO [o0 (.aload_n 0), oF (.getfield 24) 4 2 123 0] (by decide +kernel) (And.intro t0 (show tWG K B 0 0 S (uI I 40 4 ((I 40 4) + 1)) J 176 [some (vR 40), some (vI v1)] [vO (sQ S 40 2)] from ?_))
      obtain ⟨a11, e12, h⟩ := h
      refine gKnow e12 ?_
      refine gBk (pe := 180) hO [o0 (.aload_n 0), oF (.getfield 32) 4 4 125 0] (by decide +kernel) (And.intro t0 (show tWG K B 0 0 S (uI I 40 4 ((I 40 4) + 1)) J 180 [some (vR 40), some (vI v1)] [vI ((uI I 40 4 ((I 40 4) + 1)) 40 4), vR a11] from ?_))
      refine gCVi_p hO (M9_byteAt (tGr.dyn hG t0 (k := 2) rfl (by decide) e12) h.1) hc9_byteAt (idx := 68) (w := 626) (by decide +kernel) hR (by omega) (tGr.dyn hG t0 (k := 2) rfl (by decide) e12) ⟨by decide, rfl⟩ (vs := [vI ((uI I 40 4 ((I 40 4) + 1)) 40 4)]) (st := []) ⟨rfl, Nat.le_of_ble_eq_true rfl, rfl⟩ (by decide +kernel) ?_
      have h := h.2
      refine gCSi_p hO (M4_kindOfByte) hc4_kindOfByte (idx := 72) (w := 627) (by decide +kernel) hR (by omega) (vs := [vI (V9_byteAt S (uI I 40 4 ((I 40 4) + 1)) J a11 ((uI I 40 4 ((I 40 4) + 1)) 40 4))]) (st := []) ⟨rfl, Nat.le_of_ble_eq_true rfl, rfl⟩ (by decide +kernel) ?_
      refine gBk (pe := 190) hO [o0 (.aload_n 0), oF (.getfield 38) 4 6 127 0] (by decide +kernel) (And.intro t0 (show tWG K B 0 0 S (uI I 40 4 ((I 40 4) + 1)) J 190 [some (vR 40), some (vI v1)] [vI ((uI I 40 4 ((I 40 4) + 1)) 40 6), vI (V4_kindOfByte (V9_byteAt S (uI I 40 4 ((I 40 4) + 1)) J a11 ((uI I 40 4 ((I 40 4) + 1)) 40 4)))] from ?_))
      refine gIcEq hO (off := (-84)) (tgt := 106) (by decide +kernel) (by decide) (fun c13 => ?_) (fun c13 => ?_)
      · have h := h.1 c13
        exact hkb106 _ _ _ h
      · have h := h.2 c13
        exact gWeak (L' := [none, none]) trivial (W4_advance_193 hO hR hG t0 hQ h)
set_option maxRecDepth 100000 in
theorem W4_advance_106 {K : tK} {B : tB} {S : tSH} {MC MS : Nat} (hO : tKO K B RX4 cX4_advance 2) (hR : kR K = tRm 3 MC MS) (hG : tGr S) {n : Nat} (t0 : ty S 40 4) {k : tHI → tHJ → Prop} (hQ : tRet K B (tQv B (tPv S k)) 0 0 none) {kb106 : tHI → tHJ → Int32 → Prop} (hkb106 : ∀ (I : tHI) (J : tHJ) (v1 : Int32), kb106 I J v1 → tWG K B 0 0 S I J 106 [some (vR 40), some (vI v1)] []) {I : tHI} {J : tHJ} {v1 : Int32} (h : F4_advance_106 n S k kb106 I J v1) : tWG K B 0 0 S I J 106 [some (vR 40), some (vI v1)] [] := by
  refine gBk (pe := 111) hO [o0 (.aload_n 0), oF (.getfield 38) 4 6 127 0, oI (.iconst 2) 2] (by decide +kernel) (And.intro t0 (show tWG K B 0 0 S I J 111 [some (vR 40), some (vI v1)] [vI 2, vI (I 40 6)] from ?_))
  refine gIcNe hO (off := 35) (tgt := 146) (by decide +kernel) (by decide) (fun c8 => ?_) (fun c8 => ?_)
  · have h := h.1 c8
    exact W4_advance_146 hO hR hG t0 hQ hkb106 h
  · have h := h.2 c8
    refine gBk (pe := 129) hO [o0 (.aload_n 0), oI (.sipush 1001) 1001, o0 (.aload_n 0), oF (.getfield 41) 4 7 128 0, oI (.bipush 10) 10, o0 .imul, o0 (.aload_n 0), oF (.getfield 24) 4 2 123 0] (by decide +kernel) (And.intro t0 (And.intro t0 (show tWG K B 0 0 S I J 129 [some (vR 40), some (vI v1)] [vO (sQ S 40 2), vI ((I 40 7) * 10), vI 1001, vR 40] from ?_)))
    obtain ⟨a14, e15, h⟩ := h
    refine gKnow e15 ?_
    refine gBk (pe := 133) hO [o0 (.aload_n 0), oF (.getfield 32) 4 4 125 0] (by decide +kernel) (And.intro t0 (show tWG K B 0 0 S I J 133 [some (vR 40), some (vI v1)] [vI (I 40 4), vR a14, vI ((I 40 7) * 10), vI 1001, vR 40] from ?_))
    refine gCVi_p hO (M9_byteAt (tGr.dyn hG t0 (k := 2) rfl (by decide) e15) h.1) hc9_byteAt (idx := 68) (w := 626) (by decide +kernel) hR (by omega) (tGr.dyn hG t0 (k := 2) rfl (by decide) e15) ⟨by decide, rfl⟩ (vs := [vI (I 40 4)]) (st := [vI ((I 40 7) * 10), vI 1001, vR 40]) ⟨rfl, Nat.le_of_ble_eq_true rfl, rfl⟩ (by decide +kernel) ?_
    have h := h.2
    refine gBk (pe := 140) hO [o0 .iadd, oI (.bipush 48) 48, o0 .isub] (by decide +kernel) (show tWG K B 0 0 S I J 140 [some (vR 40), some (vI v1)] [vI ((((I 40 7) * 10) + (V9_byteAt S I J a14 (I 40 4))) - 48), vI 1001, vR 40] from ?_)
    refine gMin hO (idx := 75) (w := 625) (by decide +kernel) hR (by omega) (st := [vR 40]) (Nat.le_of_ble_eq_true rfl) rfl (by decide +kernel) ?_
    refine gBk (pe := 146) hO [oF (.putfield 41) 4 7 128 0] (by decide +kernel) (And.intro t0 (show tWG K B 0 0 S (uI I 40 7 (if ((((I 40 7) * 10) + (V9_byteAt S I J a14 (I 40 4))) - 48) < 1001 then ((((I 40 7) * 10) + (V9_byteAt S I J a14 (I 40 4))) - 48) else 1001)) J 146 [some (vR 40), some (vI v1)] [] from ?_))
    exact W4_advance_146 hO hR hG t0 hQ hkb106 h
theorem W4_advance_L106 {K : tK} {B : tB} {S : tSH} {MC MS : Nat} (hO : tKO K B RX4 cX4_advance 2) (hR : kR K = tRm 3 MC MS) (hG : tGr S) {n : Nat} (t0 : ty S 40 4) {k : tHI → tHJ → Prop} (hQ : tRet K B (tQv B (tPv S k)) 0 0 none) : ∀ (f : Nat) (I : tHI) (J : tHJ) (v1 : Int32), F4_advance_L106 n S k f I J v1 → tWG K B 0 0 S I J 106 [some (vR 40), some (vI v1)] [] := by
  intro f
  induction f with
  | zero => intro I J v1 h; exact h.elim
  | succ f ih => intro I J v1 h; exact W4_advance_106 hO hR hG t0 hQ ih h
set_option maxRecDepth 100000 in
theorem W4_advance_61 {K : tK} {B : tB} {S : tSH} {MC MS : Nat} (hO : tKO K B RX4 cX4_advance 2) (hR : kR K = tRm 3 MC MS) (hG : tGr S) {n : Nat} (t0 : ty S 40 4) {k : tHI → tHJ → Prop} (hQ : tRet K B (tQv B (tPv S k)) 0 0 none) {I : tHI} {J : tHJ} {v1 : Int32} (h : F4_advance_61 n S k I J v1) : tWG K B 0 0 S I J 61 [some (vR 40), some (vI v1)] [] := by
  refine gBk (pe := 74) hO [o0 (.aload_n 0), o0 (.aload_n 0), oF (.getfield 32) 4 4 125 0, oF (.putfield 35) 4 5 126 0, o0 (.aload_n 0), oF (.getfield 32) 4 4 125 0, o0 (.iload_n 1)] (by decide +kernel) (And.intro t0 (And.intro t0 (And.intro t0 (show tWG K B 0 0 S (uI I 40 5 (I 40 4)) J 74 [some (vR 40), some (vI v1)] [vI v1, vI ((uI I 40 5 (I 40 4)) 40 4)] from ?_))))
  refine gIcLt hO (off := 9) (tgt := 83) (by decide +kernel) (by decide) (fun c5 => ?_) (fun c5 => ?_)
  · have h := h.1 c5
    refine gBk (pe := 88) hO [o0 (.aload_n 0), o0 (.aload_n 0), oF (.getfield 24) 4 2 123 0] (by decide +kernel) (And.intro t0 (show tWG K B 0 0 S (uI I 40 5 (I 40 4)) J 88 [some (vR 40), some (vI v1)] [vO (sQ S 40 2), vR 40] from ?_))
    obtain ⟨a6, e7, h⟩ := h
    refine gKnow e7 ?_
    refine gBk (pe := 92) hO [o0 (.aload_n 0), oF (.getfield 32) 4 4 125 0] (by decide +kernel) (And.intro t0 (show tWG K B 0 0 S (uI I 40 5 (I 40 4)) J 92 [some (vR 40), some (vI v1)] [vI ((uI I 40 5 (I 40 4)) 40 4), vR a6, vR 40] from ?_))
    refine gCVi_p hO (M9_byteAt (tGr.dyn hG t0 (k := 2) rfl (by decide) e7) h.1) hc9_byteAt (idx := 68) (w := 626) (by decide +kernel) hR (by omega) (tGr.dyn hG t0 (k := 2) rfl (by decide) e7) ⟨by decide, rfl⟩ (vs := [vI ((uI I 40 5 (I 40 4)) 40 4)]) (st := [vR 40]) ⟨rfl, Nat.le_of_ble_eq_true rfl, rfl⟩ (by decide +kernel) ?_
    have h := h.2
    refine gCSi_p hO (M4_kindOfByte) hc4_kindOfByte (idx := 72) (w := 627) (by decide +kernel) hR (by omega) (vs := [vI (V9_byteAt S (uI I 40 5 (I 40 4)) J a6 ((uI I 40 5 (I 40 4)) 40 4))]) (st := [vR 40]) ⟨rfl, Nat.le_of_ble_eq_true rfl, rfl⟩ (by decide +kernel) ?_
    refine gBk (pe := 106) hO [oF (.putfield 38) 4 6 127 0, o0 (.aload_n 0), oI (.iconst 0) 0, oF (.putfield 41) 4 7 128 0] (by decide +kernel) (And.intro t0 (And.intro t0 (show tWG K B 0 0 S (uI (uI (uI I 40 5 (I 40 4)) 40 6 (V4_kindOfByte (V9_byteAt S (uI I 40 5 (I 40 4)) J a6 ((uI I 40 5 (I 40 4)) 40 4)))) 40 7 0) J 106 [some (vR 40), some (vI v1)] [] from ?_)))
    exact W4_advance_L106 hO hR hG t0 hQ n _ _ _ h
  · have h := h.2 c5
    refine gBk (pe := 82) hO [o0 (.aload_n 0), oI (.iconst 0) 0, oF (.putfield 38) 4 6 127 0] (by decide +kernel) (And.intro t0 (show tWG K B 0 0 S (uI (uI I 40 5 (I 40 4)) 40 6 0) J 82 [some (vR 40), some (vI v1)] [] from ?_))
    exact gVret hO hQ (by decide +kernel) ⟨rfl, h⟩
set_option maxRecDepth 100000 in
theorem W4_advance_24 {K : tK} {B : tB} {S : tSH} {MC MS : Nat} (hO : tKO K B RX4 cX4_advance 2) (hR : kR K = tRm 3 MC MS) (hG : tGr S) {n : Nat} (t0 : ty S 40 4) {k : tHI → tHJ → Prop} (hQ : tRet K B (tQv B (tPv S k)) 0 0 none) {kb24 : tHI → tHJ → Int32 → Prop} (hkb24 : ∀ (I : tHI) (J : tHJ) (v1 : Int32), kb24 I J v1 → tWG K B 0 0 S I J 24 [some (vR 40), some (vI v1)] []) {I : tHI} {J : tHJ} {v1 : Int32} (h : F4_advance_24 n S k kb24 I J v1) : tWG K B 0 0 S I J 24 [some (vR 40), some (vI v1)] [] := by
  refine gBk (pe := 29) hO [o0 (.aload_n 0), oF (.getfield 32) 4 4 125 0, o0 (.iload_n 1)] (by decide +kernel) (And.intro t0 (show tWG K B 0 0 S I J 29 [some (vR 40), some (vI v1)] [vI v1, vI (I 40 4)] from ?_))
  refine gIcGe hO (off := 32) (tgt := 61) (by decide +kernel) (by decide) (fun c4 => ?_) (fun c4 => ?_)
  · have h := h.1 c4
    exact W4_advance_61 hO hR hG t0 hQ h
  · have h := h.2 c4
    refine gBk (pe := 36) hO [o0 (.aload_n 0), oF (.getfield 24) 4 2 123 0] (by decide +kernel) (And.intro t0 (show tWG K B 0 0 S I J 36 [some (vR 40), some (vI v1)] [vO (sQ S 40 2)] from ?_))
    obtain ⟨a16, e17, h⟩ := h
    refine gKnow e17 ?_
    refine gBk (pe := 40) hO [o0 (.aload_n 0), oF (.getfield 32) 4 4 125 0] (by decide +kernel) (And.intro t0 (show tWG K B 0 0 S I J 40 [some (vR 40), some (vI v1)] [vI (I 40 4), vR a16] from ?_))
    refine gCVi_p hO (M9_byteAt (tGr.dyn hG t0 (k := 2) rfl (by decide) e17) h.1) hc9_byteAt (idx := 68) (w := 626) (by decide +kernel) hR (by omega) (tGr.dyn hG t0 (k := 2) rfl (by decide) e17) ⟨by decide, rfl⟩ (vs := [vI (I 40 4)]) (st := []) ⟨rfl, Nat.le_of_ble_eq_true rfl, rfl⟩ (by decide +kernel) ?_
    have h := h.2
    refine gBk (pe := 45) hO [oI (.bipush 32) 32] (by decide +kernel) (show tWG K B 0 0 S I J 45 [some (vR 40), some (vI v1)] [vI 32, vI (V9_byteAt S I J a16 (I 40 4))] from ?_)
    refine gIcNe hO (off := 16) (tgt := 61) (by decide +kernel) (by decide) (fun c18 => ?_) (fun c18 => ?_)
    · have h := h.1 c18
      exact W4_advance_61 hO hR hG t0 hQ h
    · have h := h.2 c18
      refine gBk (pe := 24) hO [o0 (.aload_n 0), o0 .dup, oF (.getfield 32) 4 4 125 0, oI (.iconst 1) 1, o0 .iadd, oF (.putfield 32) 4 4 125 0, o0 (.goto (-34))] (by decide +kernel) (And.intro t0 (And.intro t0 (show tWG K B 0 0 S (uI I 40 4 ((I 40 4) + 1)) J 24 [some (vR 40), some (vI v1)] [] from ?_)))
      exact hkb24 _ _ _ h
theorem W4_advance_L24 {K : tK} {B : tB} {S : tSH} {MC MS : Nat} (hO : tKO K B RX4 cX4_advance 2) (hR : kR K = tRm 3 MC MS) (hG : tGr S) {n : Nat} (t0 : ty S 40 4) {k : tHI → tHJ → Prop} (hQ : tRet K B (tQv B (tPv S k)) 0 0 none) : ∀ (f : Nat) (I : tHI) (J : tHJ) (v1 : Int32), F4_advance_L24 n S k f I J v1 → tWG K B 0 0 S I J 24 [some (vR 40), some (vI v1)] [] := by
  intro f
  induction f with
  | zero => intro I J v1 h; exact h.elim
  | succ f ih => intro I J v1 h; exact W4_advance_24 hO hR hG t0 hQ ih h
set_option maxRecDepth 20000 in
theorem hc4_advance : tCV yX4_advance cX4_advance 2 none 0 := ⟨⟨(List.mem_of_getElem? (i := 623) rfl), (List.mem_of_getElem? (i := 29) (by decide +kernel)), by decide +kernel⟩, (List.mem_of_getElem? (i := 621) (by decide +kernel)), (List.mem_of_getElem? (i := 622) (by decide +kernel))⟩
set_option maxRecDepth 100000 in
theorem M4_advance {l : Launch} {B : tB} {S : tSH} {I : tHI} {J : tHJ} {n : Nat} {k : tHI → tHJ → Prop} (t0 : ty S 40 4) (h : F4_advance n S I J k) : Met l yX4_advance (tWs yX4_advance cX4_advance 2 none) (tRm 3 0 0) (tPc B [vR 40] S I J) (tQv B (tPv S k)) 0 0 (tA B) :=
  tEntry (by decide +kernel) [some (vR 40), none] rfl rfl (Nat.le_of_ble_eq_true rfl) (fun K hl hR hO hQ hG => by
  subst hl
  refine gBk (pe := 5) hO [o0 (.aload_n 0), oF (.getfield 38) 4 6 127 0, oI (.iconst 4) 4] (by decide +kernel) (And.intro t0 (show tWG K B 0 0 S I J 5 [some (vR 40), none] [vI 4, vI (I 40 6)] from ?_))
  refine gIcEq hO (off := 10) (tgt := 15) (by decide +kernel) (by decide) (fun c1 => ?_) (fun c1 => ?_)
  · have h := h.1 c1
    exact gWeak (L' := [none, none]) trivial (W4_advance_15 hO hR hG t0 hQ h)
  · have h := h.2 c1
    refine gBk (pe := 12) hO [o0 (.aload_n 0), oF (.getfield 24) 4 2 123 0] (by decide +kernel) (And.intro t0 (show tWG K B 0 0 S I J 12 [some (vR 40), none] [vO (sQ S 40 2)] from ?_))
    refine gIfnonnull hO (o := (sQ S 40 2)) (off := 4) (tgt := 16) (by decide +kernel) (by decide) (fun a2 e3 => ?_) (fun e3 => ?_)
    · have h := h.2 a2 e3
      refine gBk (pe := 20) hO [o0 (.aload_n 0), oF (.getfield 24) 4 2 123 0] (by decide +kernel) (And.intro t0 (show tWG K B 0 0 S I J 20 [some (vR 40), none] [vO (sQ S 40 2)] from ?_))
      refine gKnow e3 ?_
      refine gBk (pe := 24) hO [oF (.getfield 63) 9 1 624 0, o0 (.istore_n 1)] (by decide +kernel) (And.intro (tGr.dyn hG t0 (k := 2) rfl (by decide) e3) (And.intro (Nat.le_of_ble_eq_true rfl) (show tWG K B 0 0 S I J 24 [some (vR 40), some (vI (I a2 1))] [] from ?_)))
      exact W4_advance_L24 hO hR hG t0 hQ n _ _ _ h
    · have h := h.1 e3
      exact gWeak (L' := [none, none]) trivial (W4_advance_15 hO hR hG t0 hQ h))
set_option maxRecDepth 100000 in
theorem W4_isSign_35 {K : tK} {B : tB} {S : tSH} {MC MS : Nat} (hO : tKO K B RX4 cX4_isSign 2) (hR : kR K = tRm 3 MC MS) (hG : tGr S) {n : Nat} (t0 : ty S 40 4) {k : Int32 → tHI → tHJ → Prop} (hQ : tRet K B (tQi B (tPb S k)) 0 0 (some .boolean)) {I : tHI} {J : tHJ} {s0 : Int32} (h : F4_isSign_35 n S k I J s0) : tWG K B 0 0 S I J 35 [none, none] [vI s0] := by
  exact gZret hO hQ (by decide +kernel) h.1 ⟨rfl, h.1, h.2⟩
set_option maxRecDepth 100000 in
theorem W4_isSign_34 {K : tK} {B : tB} {S : tSH} {MC MS : Nat} (hO : tKO K B RX4 cX4_isSign 2) (hR : kR K = tRm 3 MC MS) (hG : tGr S) {n : Nat} (t0 : ty S 40 4) {k : Int32 → tHI → tHJ → Prop} (hQ : tRet K B (tQi B (tPb S k)) 0 0 (some .boolean)) {I : tHI} {J : tHJ} (h : F4_isSign_34 n S k I J) : tWG K B 0 0 S I J 34 [none, none] [] := by
  refine gBk (pe := 35) hO [oI (.iconst 0) 0] (by decide +kernel) (show tWG K B 0 0 S I J 35 [none, none] [vI 0] from ?_)
  exact W4_isSign_35 hO hR hG t0 hQ h
set_option maxRecDepth 20000 in
theorem hc4_isSign : tCV yX4_isSign cX4_isSign 2 (some .boolean) 1 := ⟨⟨(List.mem_of_getElem? (i := 705) rfl), (List.mem_of_getElem? (i := 29) (by decide +kernel)), by decide +kernel⟩, (List.mem_of_getElem? (i := 703) (by decide +kernel)), (List.mem_of_getElem? (i := 704) (by decide +kernel))⟩
set_option maxRecDepth 100000 in
theorem M4_isSign {l : Launch} {B : tB} {S : tSH} {I : tHI} {J : tHJ} {v1 : Int32} {n : Nat} {k : Int32 → tHI → tHJ → Prop} (t0 : ty S 40 4) (h : F4_isSign n S I J v1 k) : Met l yX4_isSign (tWs yX4_isSign cX4_isSign 2 (some .boolean)) (tRm 3 0 0) (tPc B [vR 40, vI v1] S I J) (tQi B (tPb S k)) 0 0 (tA B) :=
  tEntry (by decide +kernel) [some (vR 40), some (vI v1)] rfl rfl (Nat.le_of_ble_eq_true rfl) (fun K hl hR hO hQ hG => by
  subst hl
  refine gBk (pe := 5) hO [o0 (.aload_n 0), oF (.getfield 38) 4 6 127 0, oI (.iconst 3) 3] (by decide +kernel) (And.intro t0 (show tWG K B 0 0 S I J 5 [some (vR 40), some (vI v1)] [vI 3, vI (I 40 6)] from ?_))
  refine gIcNe hO (off := 29) (tgt := 34) (by decide +kernel) (by decide) (fun c1 => ?_) (fun c1 => ?_)
  · have h := h.1 c1
    exact gWeak (L' := [none, none]) trivial (W4_isSign_34 hO hR hG t0 hQ h)
  · have h := h.2 c1
    refine gBk (pe := 12) hO [o0 (.aload_n 0), oF (.getfield 24) 4 2 123 0] (by decide +kernel) (And.intro t0 (show tWG K B 0 0 S I J 12 [some (vR 40), some (vI v1)] [vO (sQ S 40 2)] from ?_))
    refine gIfnull hO (o := (sQ S 40 2)) (off := 22) (tgt := 34) (by decide +kernel) (by decide) (fun e3 => ?_) (fun a2 e3 => ?_)
    · have h := h.1 e3
      exact gWeak (L' := [none, none]) trivial (W4_isSign_34 hO hR hG t0 hQ h)
    · have h := h.2 a2 e3
      refine gBk (pe := 19) hO [o0 (.aload_n 0), oF (.getfield 24) 4 2 123 0] (by decide +kernel) (And.intro t0 (show tWG K B 0 0 S I J 19 [some (vR 40), some (vI v1)] [vO (sQ S 40 2)] from ?_))
      refine gKnow e3 ?_
      refine gBk (pe := 23) hO [o0 (.aload_n 0), oF (.getfield 35) 4 5 126 0] (by decide +kernel) (And.intro t0 (show tWG K B 0 0 S I J 23 [some (vR 40), some (vI v1)] [vI (I 40 5), vR a2] from ?_))
      refine gCVi_p hO (M9_byteAt (tGr.dyn hG t0 (k := 2) rfl (by decide) e3) h.1) hc9_byteAt (idx := 68) (w := 626) (by decide +kernel) hR (by omega) (tGr.dyn hG t0 (k := 2) rfl (by decide) e3) ⟨by decide, rfl⟩ (vs := [vI (I 40 5)]) (st := []) ⟨rfl, Nat.le_of_ble_eq_true rfl, rfl⟩ (by decide +kernel) ?_
      have h := h.2
      refine gBk (pe := 27) hO [o0 (.iload_n 1)] (by decide +kernel) (show tWG K B 0 0 S I J 27 [some (vR 40), some (vI v1)] [vI v1, vI (V9_byteAt S I J a2 (I 40 5))] from ?_)
      have hj4 : ∀ (m5 : Int32), m5 = (if (V9_byteAt S I J a2 (I 40 5)) = v1 then (1 : Int32) else 0) → tWG K B 0 0 S I J 35 [none, none] [vI m5] := by
        intro m5 em5
        subst em5
        exact gZret hO hQ (by decide +kernel) (bz_if (Or.inr rfl) (Or.inl rfl)) ⟨rfl, (bz_if (Or.inr rfl) (Or.inl rfl)), h⟩
      refine gIcNe hO (off := 7) (tgt := 34) (by decide +kernel) (by decide) (fun c6 => ?_) (fun c6 => ?_)
      · refine gBk (pe := 35) hO [oI (.iconst 0) 0] (by decide +kernel) (show tWG K B 0 0 S I J 35 [some (vR 40), some (vI v1)] [vI 0] from ?_)
        exact gWeak (L' := [none, none]) trivial (hj4 _ (Eq.symm (if_neg c6)))
      · refine gBk (pe := 35) hO [oI (.iconst 1) 1, o0 (.goto 4)] (by decide +kernel) (show tWG K B 0 0 S I J 35 [some (vR 40), some (vI v1)] [vI 1] from ?_)
        exact gWeak (L' := [none, none]) trivial (hj4 _ (Eq.symm (if_pos c6))))
set_option maxRecDepth 100000 in
theorem W4_expectSign_19 {K : tK} {B : tB} {S : tSH} {MC MS : Nat} (hO : tKO K B RX4 cX4_expectSign 2) (hR : kR K = tRm 4 MC MS) (hG : tGr S) {n : Nat} (t0 : ty S 40 4) {k : tHI → tHJ → Prop} (hQ : tRet K B (tQv B (tPv S k)) 0 0 none) {I : tHI} {J : tHJ} (h : F4_expectSign_19 n S k I J) : tWG K B 0 0 S I J 19 [none, none] [] := by
  exact gVret hO hQ (by decide +kernel) ⟨rfl, h⟩
set_option maxRecDepth 20000 in
theorem hc4_expectSign : tCV yX4_expectSign cX4_expectSign 2 none 1 := ⟨⟨(List.mem_of_getElem? (i := 714) rfl), (List.mem_of_getElem? (i := 29) (by decide +kernel)), by decide +kernel⟩, (List.mem_of_getElem? (i := 712) (by decide +kernel)), (List.mem_of_getElem? (i := 713) (by decide +kernel))⟩
set_option maxRecDepth 100000 in
theorem M4_expectSign {l : Launch} {B : tB} {S : tSH} {I : tHI} {J : tHJ} {v1 : Int32} {n : Nat} {k : tHI → tHJ → Prop} (t0 : ty S 40 4) (h : F4_expectSign n S I J v1 k) : Met l yX4_expectSign (tWs yX4_expectSign cX4_expectSign 2 none) (tRm 4 0 0) (tPc B [vR 40, vI v1] S I J) (tQv B (tPv S k)) 0 0 (tA B) :=
  tEntry (by decide +kernel) [some (vR 40), some (vI v1)] rfl rfl (Nat.le_of_ble_eq_true rfl) (fun K hl hR hO hQ hG => by
  subst hl
  refine gBk (pe := 2) hO [o0 (.aload_n 0), o0 (.iload_n 1)] (by decide +kernel) (show tWG K B 0 0 S I J 2 [some (vR 40), some (vI v1)] [vI v1, vR 40] from ?_)
  refine gCVi_b hO (M4_isSign t0 h) hc4_isSign (idx := 56) (w := 702) (by decide +kernel) hR (by omega) t0 ⟨by decide, rfl⟩ (vs := [vI v1]) (st := []) ⟨rfl, Nat.le_of_ble_eq_true rfl, rfl⟩ (by decide +kernel) (fun x3 I1 J2 z4 h => ?_)
  have h := h z4
  refine gIfEq hO (off := 10) (tgt := 15) (by decide +kernel) (by decide) (fun c5 => ?_) (fun c5 => ?_)
  · have h := h.1 c5
    refine gBk (pe := 16) hO [o0 (.aload_n 0)] (by decide +kernel) (show tWG K B 0 0 S I1 J2 16 [some (vR 40), some (vI v1)] [vR 40] from ?_)
    refine gCVv_c hO (M4_fail t0 h) hc4_fail (idx := 60) (w := 687) (by decide +kernel) hR (by omega) t0 ⟨by decide, rfl⟩ (vs := []) (st := []) ⟨rfl, Nat.le_of_ble_eq_true rfl, rfl⟩ (by decide +kernel) (fun I6 J7 h => ?_)
    exact gWeak (L' := [none, none]) trivial (W4_expectSign_19 hO hR hG t0 hQ h)
  · have h := h.2 c5
    refine gBk (pe := 9) hO [o0 (.aload_n 0)] (by decide +kernel) (show tWG K B 0 0 S I1 J2 9 [some (vR 40), some (vI v1)] [vR 40] from ?_)
    refine gCVv_c hO (M4_advance t0 h) hc4_advance (idx := 50) (w := 620) (by decide +kernel) hR (by omega) t0 ⟨by decide, rfl⟩ (vs := []) (st := []) ⟨rfl, Nat.le_of_ble_eq_true rfl, rfl⟩ (by decide +kernel) (fun I8 J9 h => ?_)
    refine gBk (pe := 19) hO [o0 (.goto 7)] (by decide +kernel) (show tWG K B 0 0 S I8 J9 19 [some (vR 40), some (vI v1)] [] from ?_)
    exact gWeak (L' := [none, none]) trivial (W4_expectSign_19 hO hR hG t0 hQ h))
set_option maxRecDepth 100000 in
theorem W4_expectNumber_24 {K : tK} {B : tB} {S : tSH} {MC MS : Nat} (hO : tKO K B RX4 cX4_expectNumber 4) (hR : kR K = tRm 4 MC MS) (hG : tGr S) {n : Nat} (t0 : ty S 40 4) {k : Int32 → tHI → tHJ → Prop} (hQ : tRet K B (tQi B (tPi S k)) 0 0 (some .int)) {I : tHI} {J : tHJ} {v1 : Int32} (h : F4_expectNumber_24 n S k I J v1) : tWG K B 0 0 S I J 24 [some (vR 40), some (vI v1), none, none] [] := by
  refine gBk (pe := 25) hO [o0 (.aload_n 0)] (by decide +kernel) (show tWG K B 0 0 S I J 25 [some (vR 40), some (vI v1), none, none] [vR 40] from ?_)
  refine gCVv_c hO (M4_fail t0 h) hc4_fail (idx := 60) (w := 687) (by decide +kernel) hR (by omega) t0 ⟨by decide, rfl⟩ (vs := []) (st := []) ⟨rfl, Nat.le_of_ble_eq_true rfl, rfl⟩ (by decide +kernel) (fun I2 J3 h => ?_)
  refine gBk (pe := 29) hO [o0 (.iload_n 1)] (by decide +kernel) (show tWG K B 0 0 S I2 J3 29 [some (vR 40), some (vI v1), none, none] [vI v1] from ?_)
  exact gIret hO hQ (by decide +kernel) ⟨rfl, h⟩
set_option maxRecDepth 20000 in
theorem hc4_expectNumber : tCV yX4_expectNumber cX4_expectNumber 4 (some .int) 2 := ⟨⟨(List.mem_of_getElem? (i := 718) rfl), (List.mem_of_getElem? (i := 29) (by decide +kernel)), by decide +kernel⟩, (List.mem_of_getElem? (i := 716) (by decide +kernel)), (List.mem_of_getElem? (i := 717) (by decide +kernel))⟩
set_option maxRecDepth 100000 in
theorem M4_expectNumber {l : Launch} {B : tB} {S : tSH} {I : tHI} {J : tHJ} {v1 : Int32} {v2 : Int32} {n : Nat} {k : Int32 → tHI → tHJ → Prop} (t0 : ty S 40 4) (h : F4_expectNumber n S I J v1 v2 k) : Met l yX4_expectNumber (tWs yX4_expectNumber cX4_expectNumber 4 (some .int)) (tRm 4 0 0) (tPc B [vR 40, vI v1, vI v2] S I J) (tQi B (tPi S k)) 0 0 (tA B) :=
  tEntry (by decide +kernel) [some (vR 40), some (vI v1), some (vI v2), none] rfl rfl (Nat.le_of_ble_eq_true rfl) (fun K hl hR hO hQ hG => by
  subst hl
  refine gBk (pe := 5) hO [o0 (.aload_n 0), oF (.getfield 38) 4 6 127 0, oI (.iconst 2) 2] (by decide +kernel) (And.intro t0 (show tWG K B 0 0 S I J 5 [some (vR 40), some (vI v1), some (vI v2), none] [vI 2, vI (I 40 6)] from ?_))
  refine gIcNe hO (off := 19) (tgt := 24) (by decide +kernel) (by decide) (fun c1 => ?_) (fun c1 => ?_)
  · have h := h.1 c1
    exact gWeak (L' := [some (vR 40), some (vI v1), none, none]) ⟨rfl, rfl, trivial⟩ (W4_expectNumber_24 hO hR hG t0 hQ h)
  · have h := h.2 c1
    refine gBk (pe := 13) hO [o0 (.aload_n 0), oF (.getfield 41) 4 7 128 0, o0 (.iload_n 1)] (by decide +kernel) (And.intro t0 (show tWG K B 0 0 S I J 13 [some (vR 40), some (vI v1), some (vI v2), none] [vI v1, vI (I 40 7)] from ?_))
    refine gIcLt hO (off := 11) (tgt := 24) (by decide +kernel) (by decide) (fun c4 => ?_) (fun c4 => ?_)
    · have h := h.1 c4
      exact gWeak (L' := [some (vR 40), some (vI v1), none, none]) ⟨rfl, rfl, trivial⟩ (W4_expectNumber_24 hO hR hG t0 hQ h)
    · have h := h.2 c4
      refine gBk (pe := 21) hO [o0 (.aload_n 0), oF (.getfield 41) 4 7 128 0, o0 (.iload_n 2)] (by decide +kernel) (And.intro t0 (show tWG K B 0 0 S I J 21 [some (vR 40), some (vI v1), some (vI v2), none] [vI v2, vI (I 40 7)] from ?_))
      refine gIcLe hO (off := 9) (tgt := 30) (by decide +kernel) (by decide) (fun c5 => ?_) (fun c5 => ?_)
      · have h := h.1 c5
        refine gBk (pe := 36) hO [o0 (.aload_n 0), oF (.getfield 41) 4 7 128 0, o0 (.istore_n 3), o0 (.aload_n 0)] (by decide +kernel) (And.intro t0 (And.intro (Nat.le_of_ble_eq_true rfl) (show tWG K B 0 0 S I J 36 [some (vR 40), some (vI v1), some (vI v2), some (vI (I 40 7))] [vR 40] from ?_)))
        refine gCVv_c hO (M4_advance t0 h) hc4_advance (idx := 50) (w := 620) (by decide +kernel) hR (by omega) t0 ⟨by decide, rfl⟩ (vs := []) (st := []) ⟨rfl, Nat.le_of_ble_eq_true rfl, rfl⟩ (by decide +kernel) (fun I6 J7 h => ?_)
        refine gBk (pe := 40) hO [o0 (.iload_n 3)] (by decide +kernel) (show tWG K B 0 0 S I6 J7 40 [some (vR 40), some (vI v1), some (vI v2), some (vI (I 40 7))] [vI (I 40 7)] from ?_)
        exact gIret hO hQ (by decide +kernel) ⟨rfl, h⟩
      · have h := h.2 c5
        exact gWeak (L' := [some (vR 40), some (vI v1), none, none]) ⟨rfl, rfl, trivial⟩ (W4_expectNumber_24 hO hR hG t0 hQ h))
set_option maxRecDepth 100000 in
theorem W4_readSum_72 {K : tK} {B : tB} {S : tSH} {MC MS : Nat} (hO : tKO K B RX4 cX4_readSum 4) (hR : kR K = tRm 4 MC MS) (hG : tGr S) {n : Nat} (t0 : ty S 40 4) {k : tHI → tHJ → Prop} (hQ : tRet K B (tQv B (tPv S k)) 0 0 none) {I : tHI} {J : tHJ} (h : F4_readSum_72 n S k I J) : tWG K B 0 0 S I J 72 [none, none, none, none] [] := by
  exact gVret hO hQ (by decide +kernel) ⟨rfl, h⟩
set_option maxRecDepth 100000 in
theorem W4_readSum_32 {K : tK} {B : tB} {S : tSH} {MC MS : Nat} (hO : tKO K B RX4 cX4_readSum 4) (hR : kR K = tRm 4 MC MS) (hG : tGr S) {n : Nat} (t0 : ty S 40 4) {k : tHI → tHJ → Prop} (hQ : tRet K B (tQv B (tPv S k)) 0 0 none) {kb7 : tHI → tHJ → Int32 → Int32 → Prop} (hkb7 : ∀ (I : tHI) (J : tHJ) (v1 : Int32) (v2 : Int32), kb7 I J v1 v2 → tWG K B 0 0 S I J 7 [some (vR 40), some (vI v1), some (vI v2), none] []) {I : tHI} {J : tHJ} {v1 : Int32} {v2 : Int32} (h : F4_readSum_32 n S k kb7 I J v1 v2) : tWG K B 0 0 S I J 32 [some (vR 40), some (vI v1), some (vI v2), none] [] := by
  refine gBk (pe := 35) hO [o0 (.aload_n 0), oI (.bipush 43) 43] (by decide +kernel) (show tWG K B 0 0 S I J 35 [some (vR 40), some (vI v1), some (vI v2), none] [vI 43, vR 40] from ?_)
  refine gCVi_b hO (M4_isSign t0 h) hc4_isSign (idx := 56) (w := 702) (by decide +kernel) hR (by omega) t0 ⟨by decide, rfl⟩ (vs := [vI 43]) (st := []) ⟨rfl, Nat.le_of_ble_eq_true rfl, rfl⟩ (by decide +kernel) (fun x11 I9 J10 z12 h => ?_)
  have h := h z12
  have hj13 : ∀ (m14 : Int32), m14 = (if x11 = 0 then (3 : Int32) else 2) → tWG K B 0 0 S I9 J10 46 [some (vR 40), some (vI v1), some (vI v2), none] [vI m14] := by
    intro m14 em14
    subst em14
    refine gBk (pe := 48) hO [o0 (.istore_n 3), o0 (.aload_n 0)] (by decide +kernel) (And.intro (Nat.le_of_ble_eq_true rfl) (show tWG K B 0 0 S I9 J10 48 [some (vR 40), some (vI v1), some (vI v2), some (vI (if x11 = 0 then (3 : Int32) else 2))] [vR 40] from ?_))
    refine gCVv_c hO (M4_advance t0 h) hc4_advance (idx := 50) (w := 620) (by decide +kernel) hR (by omega) t0 ⟨by decide, rfl⟩ (vs := []) (st := []) ⟨rfl, Nat.le_of_ble_eq_true rfl, rfl⟩ (by decide +kernel) (fun I16 J17 h => ?_)
    refine gBk (pe := 53) hO [o0 (.aload_n 0), o0 (.iload_n 1)] (by decide +kernel) (show tWG K B 0 0 S I16 J17 53 [some (vR 40), some (vI v1), some (vI v2), some (vI (if x11 = 0 then (3 : Int32) else 2))] [vI v1, vR 40] from ?_)
    refine gCVv_c hO (hrec 4 _ _ _ _ h) hc4_readTerm (idx := 148) (w := 699) (by decide +kernel) hR (by omega) t0 ⟨by decide, rfl⟩ (vs := [vI v1]) (st := []) ⟨rfl, Nat.le_of_ble_eq_true rfl, rfl⟩ (by decide +kernel) (fun I18 J19 h => ?_)
    refine gBk (pe := 62) hO [o0 (.aload_n 0), oF (.getfield 14) 4 0 121 41, o0 (.iload_n 3), oI (.iconst 0) 0] (by decide +kernel) (And.intro t0 (And.intro rfl (show tWG K B 0 0 S I18 J19 62 [some (vR 40), some (vI v1), some (vI v2), some (vI (if x11 = 0 then (3 : Int32) else 2))] [vI 0, vI (if x11 = 0 then (3 : Int32) else 2), vR 41] from ?_)))
    refine gCVi_c hO (M6_emit (tGr.off hG t0 (k := 0) rfl) h) hc6_emit (idx := 132) (w := 706) (by decide +kernel) hR (by omega) (tGr.off hG t0 (k := 0) rfl) ⟨by decide, rfl⟩ (vs := [vI (if x11 = 0 then (3 : Int32) else 2), vI 0]) (st := []) ⟨rfl, Nat.le_of_ble_eq_true rfl, rfl⟩ (by decide +kernel) (fun x22 I20 J21 h => ?_)
    refine gBk (pe := 7) hO [o0 .pop, oI (.iinc 2 1) 1, o0 (.goto (-62))] (by decide +kernel) (show tWG K B 0 0 S I20 J21 7 [some (vR 40), some (vI v1), some (vI (v2 + 1)), some (vI (if x11 = 0 then (3 : Int32) else 2))] [] from ?_)
    exact gWeak (L' := [some (vR 40), some (vI v1), some (vI (v2 + 1)), none]) ⟨rfl, rfl, rfl, trivial⟩ (hkb7 _ _ _ _ h)
  refine gIfEq hO (off := 7) (tgt := 45) (by decide +kernel) (by decide) (fun c15 => ?_) (fun c15 => ?_)
  · refine gBk (pe := 46) hO [oI (.iconst 3) 3] (by decide +kernel) (show tWG K B 0 0 S I9 J10 46 [some (vR 40), some (vI v1), some (vI v2), none] [vI 3] from ?_)
    exact (hj13 _ (Eq.symm (if_pos c15)))
  · refine gBk (pe := 46) hO [oI (.iconst 2) 2, o0 (.goto 4)] (by decide +kernel) (show tWG K B 0 0 S I9 J10 46 [some (vR 40), some (vI v1), some (vI v2), none] [vI 2] from ?_)
    exact (hj13 _ (Eq.symm (if_neg c15)))
set_option maxRecDepth 100000 in
theorem W4_readSum_7 {K : tK} {B : tB} {S : tSH} {MC MS : Nat} (hO : tKO K B RX4 cX4_readSum 4) (hR : kR K = tRm 4 MC MS) (hG : tGr S) {n : Nat} (t0 : ty S 40 4) {k : tHI → tHJ → Prop} (hQ : tRet K B (tQv B (tPv S k)) 0 0 none) {kb7 : tHI → tHJ → Int32 → Int32 → Prop} (hkb7 : ∀ (I : tHI) (J : tHJ) (v1 : Int32) (v2 : Int32), kb7 I J v1 v2 → tWG K B 0 0 S I J 7 [some (vR 40), some (vI v1), some (vI v2), none] []) {I : tHI} {J : tHJ} {v1 : Int32} {v2 : Int32} (h : F4_readSum_7 n S k kb7 I J v1 v2) : tWG K B 0 0 S I J 7 [some (vR 40), some (vI v1), some (vI v2), none] [] := by
  refine gBk (pe := 11) hO [o0 (.iload_n 2), oI (.sipush 400) 400] (by decide +kernel) (show tWG K B 0 0 S I J 11 [some (vR 40), some (vI v1), some (vI v2), none] [vI 400, vI v2] from ?_)
  refine gIcGe hO (off := 61) (tgt := 72) (by decide +kernel) (by decide) (fun c3 => ?_) (fun c3 => ?_)
  · have h := h.1 c3
    exact gWeak (L' := [none, none, none, none]) trivial (W4_readSum_72 hO hR hG t0 hQ h)
  · have h := h.2 c3
    refine gBk (pe := 17) hO [o0 (.aload_n 0), oI (.bipush 43) 43] (by decide +kernel) (show tWG K B 0 0 S I J 17 [some (vR 40), some (vI v1), some (vI v2), none] [vI 43, vR 40] from ?_)
    refine gCVi_b hO (M4_isSign t0 h) hc4_isSign (idx := 56) (w := 702) (by decide +kernel) hR (by omega) t0 ⟨by decide, rfl⟩ (vs := [vI 43]) (st := []) ⟨rfl, Nat.le_of_ble_eq_true rfl, rfl⟩ (by decide +kernel) (fun x6 I4 J5 z7 h => ?_)
    have h := h z7
    refine gIfNe hO (off := 12) (tgt := 32) (by decide +kernel) (by decide) (fun c8 => ?_) (fun c8 => ?_)
    · have h := h.1 c8
      exact W4_readSum_32 hO hR hG t0 hQ hkb7 h
    · have h := h.2 c8
      refine gBk (pe := 26) hO [o0 (.aload_n 0), oI (.bipush 45) 45] (by decide +kernel) (show tWG K B 0 0 S I4 J5 26 [some (vR 40), some (vI v1), some (vI v2), none] [vI 45, vR 40] from ?_)
      refine gCVi_b hO (M4_isSign t0 h) hc4_isSign (idx := 56) (w := 702) (by decide +kernel) hR (by omega) t0 ⟨by decide, rfl⟩ (vs := [vI 45]) (st := []) ⟨rfl, Nat.le_of_ble_eq_true rfl, rfl⟩ (by decide +kernel) (fun x25 I23 J24 z26 h => ?_)
      have h := h z26
      refine gIfEq hO (off := 43) (tgt := 72) (by decide +kernel) (by decide) (fun c27 => ?_) (fun c27 => ?_)
      · have h := h.1 c27
        exact gWeak (L' := [none, none, none, none]) trivial (W4_readSum_72 hO hR hG t0 hQ h)
      · have h := h.2 c27
        exact W4_readSum_32 hO hR hG t0 hQ hkb7 h
theorem W4_readSum_L7 {K : tK} {B : tB} {S : tSH} {MC MS : Nat} (hO : tKO K B RX4 cX4_readSum 4) (hR : kR K = tRm 4 MC MS) (hG : tGr S) {n : Nat} (t0 : ty S 40 4) {k : tHI → tHJ → Prop} (hQ : tRet K B (tQv B (tPv S k)) 0 0 none) : ∀ (f : Nat) (I : tHI) (J : tHJ) (v1 : Int32) (v2 : Int32), F4_readSum_L7 n S k f I J v1 v2 → tWG K B 0 0 S I J 7 [some (vR 40), some (vI v1), some (vI v2), none] [] := by
  intro f
  induction f with
  | zero => intro I J v1 v2 h; exact h.elim
  | succ f ih => intro I J v1 v2 h; exact W4_readSum_7 hO hR hG t0 hQ ih h
set_option maxRecDepth 20000 in
theorem hc4_readSum : tCV yX4_readSum cX4_readSum 4 none 1 := ⟨⟨(List.mem_of_getElem? (i := 698) rfl), (List.mem_of_getElem? (i := 29) (by decide +kernel)), by decide +kernel⟩, (List.mem_of_getElem? (i := 696) (by decide +kernel)), (List.mem_of_getElem? (i := 697) (by decide +kernel))⟩
set_option maxRecDepth 100000 in
theorem M4_readSum {l : Launch} {B : tB} {S : tSH} {I : tHI} {J : tHJ} {v1 : Int32} {n : Nat} {k : tHI → tHJ → Prop} (t0 : ty S 40 4) (h : F4_readSum n S I J v1 k) : Met l yX4_readSum (tWs yX4_readSum cX4_readSum 4 none) (tRm 4 0 0) (tPc B [vR 40, vI v1] S I J) (tQv B (tPv S k)) 0 0 (tA B) :=
  tEntry (by decide +kernel) [some (vR 40), some (vI v1), none, none] rfl rfl (Nat.le_of_ble_eq_true rfl) (fun K hl hR hO hQ hG => by
  subst hl
  refine gBk (pe := 2) hO [o0 (.aload_n 0), o0 (.iload_n 1)] (by decide +kernel) (show tWG K B 0 0 S I J 2 [some (vR 40), some (vI v1), none, none] [vI v1, vR 40] from ?_)
  refine gCVv_c hO (hrec 4 _ _ _ _ h) hc4_readTerm (idx := 148) (w := 699) (by decide +kernel) hR (by omega) t0 ⟨by decide, rfl⟩ (vs := [vI v1]) (st := []) ⟨rfl, Nat.le_of_ble_eq_true rfl, rfl⟩ (by decide +kernel) (fun I1 J2 h => ?_)
  refine gBk (pe := 7) hO [oI (.iconst 0) 0, o0 (.istore_n 2)] (by decide +kernel) (And.intro (Nat.le_of_ble_eq_true rfl) (show tWG K B 0 0 S I1 J2 7 [some (vR 40), some (vI v1), some (vI 0), none] [] from ?_))
  exact W4_readSum_L7 hO hR hG t0 hQ n _ _ _ _ h)
set_option maxRecDepth 100000 in
theorem W4_readTerm_95 {K : tK} {B : tB} {S : tSH} {MC MS : Nat} (hO : tKO K B RX4 cX4_readTerm 4) (hR : kR K = tRm 4 MC MS) (hG : tGr S) {n : Nat} (t0 : ty S 40 4) {k : tHI → tHJ → Prop} (hQ : tRet K B (tQv B (tPv S k)) 0 0 none) {I : tHI} {J : tHJ} (h : F4_readTerm_95 n S k I J) : tWG K B 0 0 S I J 95 [none, none, none, none] [] := by
  exact gVret hO hQ (by decide +kernel) ⟨rfl, h⟩
set_option maxRecDepth 100000 in
theorem W4_readTerm_69 {K : tK} {B : tB} {S : tSH} {MC MS : Nat} (hO : tKO K B RX4 cX4_readTerm 4) (hR : kR K = tRm 4 MC MS) (hG : tGr S) {n : Nat} (t0 : ty S 40 4) {k : tHI → tHJ → Prop} (hQ : tRet K B (tQv B (tPv S k)) 0 0 none) {kb7 : tHI → tHJ → Int32 → Int32 → Prop} (hkb7 : ∀ (I : tHI) (J : tHJ) (v1 : Int32) (v2 : Int32), kb7 I J v1 v2 → tWG K B 0 0 S I J 7 [some (vR 40), some (vI v1), some (vI v2), none] []) {I : tHI} {J : tHJ} {v1 : Int32} {v2 : Int32} {s0 : Int32} (h : F4_readTerm_69 n S k kb7 I J v1 v2 s0) : tWG K B 0 0 S I J 69 [some (vR 40), some (vI v1), some (vI v2), none] [vI s0] := by
  refine gBk (pe := 71) hO [o0 (.istore_n 3), o0 (.aload_n 0)] (by decide +kernel) (And.intro (Nat.le_of_ble_eq_true rfl) (show tWG K B 0 0 S I J 71 [some (vR 40), some (vI v1), some (vI v2), some (vI s0)] [vR 40] from ?_))
  refine gCVv_c hO (M4_advance t0 h) hc4_advance (idx := 50) (w := 620) (by decide +kernel) hR (by omega) t0 ⟨by decide, rfl⟩ (vs := []) (st := []) ⟨rfl, Nat.le_of_ble_eq_true rfl, rfl⟩ (by decide +kernel) (fun I21 J22 h => ?_)
  refine gBk (pe := 76) hO [o0 (.aload_n 0), o0 (.iload_n 1)] (by decide +kernel) (show tWG K B 0 0 S I21 J22 76 [some (vR 40), some (vI v1), some (vI v2), some (vI s0)] [vI v1, vR 40] from ?_)
  refine gCVv_c hO (hrec 5 _ _ _ _ h) hc4_readPart (idx := 151) (w := 720) (by decide +kernel) hR (by omega) t0 ⟨by decide, rfl⟩ (vs := [vI v1]) (st := []) ⟨rfl, Nat.le_of_ble_eq_true rfl, rfl⟩ (by decide +kernel) (fun I23 J24 h => ?_)
  refine gBk (pe := 85) hO [o0 (.aload_n 0), oF (.getfield 14) 4 0 121 41, o0 (.iload_n 3), oI (.iconst 0) 0] (by decide +kernel) (And.intro t0 (And.intro rfl (show tWG K B 0 0 S I23 J24 85 [some (vR 40), some (vI v1), some (vI v2), some (vI s0)] [vI 0, vI s0, vR 41] from ?_)))
  refine gCVi_c hO (M6_emit (tGr.off hG t0 (k := 0) rfl) h) hc6_emit (idx := 132) (w := 706) (by decide +kernel) hR (by omega) (tGr.off hG t0 (k := 0) rfl) ⟨by decide, rfl⟩ (vs := [vI s0, vI 0]) (st := []) ⟨rfl, Nat.le_of_ble_eq_true rfl, rfl⟩ (by decide +kernel) (fun x27 I25 J26 h => ?_)
  refine gBk (pe := 7) hO [o0 .pop, oI (.iinc 2 1) 1, o0 (.goto (-85))] (by decide +kernel) (show tWG K B 0 0 S I25 J26 7 [some (vR 40), some (vI v1), some (vI (v2 + 1)), some (vI s0)] [] from ?_)
  exact gWeak (L' := [some (vR 40), some (vI v1), some (vI (v2 + 1)), none]) ⟨rfl, rfl, rfl, trivial⟩ (hkb7 _ _ _ _ h)
set_option maxRecDepth 100000 in
theorem W4_readTerm_41 {K : tK} {B : tB} {S : tSH} {MC MS : Nat} (hO : tKO K B RX4 cX4_readTerm 4) (hR : kR K = tRm 4 MC MS) (hG : tGr S) {n : Nat} (t0 : ty S 40 4) {k : tHI → tHJ → Prop} (hQ : tRet K B (tQv B (tPv S k)) 0 0 none) {kb7 : tHI → tHJ → Int32 → Int32 → Prop} (hkb7 : ∀ (I : tHI) (J : tHJ) (v1 : Int32) (v2 : Int32), kb7 I J v1 v2 → tWG K B 0 0 S I J 7 [some (vR 40), some (vI v1), some (vI v2), none] []) {I : tHI} {J : tHJ} {v1 : Int32} {v2 : Int32} (h : F4_readTerm_41 n S k kb7 I J v1 v2) : tWG K B 0 0 S I J 41 [some (vR 40), some (vI v1), some (vI v2), none] [] := by
  refine gBk (pe := 44) hO [o0 (.aload_n 0), oI (.bipush 42) 42] (by decide +kernel) (show tWG K B 0 0 S I J 44 [some (vR 40), some (vI v1), some (vI v2), none] [vI 42, vR 40] from ?_)
  refine gCVi_b hO (M4_isSign t0 h) hc4_isSign (idx := 56) (w := 702) (by decide +kernel) hR (by omega) t0 ⟨by decide, rfl⟩ (vs := [vI 42]) (st := []) ⟨rfl, Nat.le_of_ble_eq_true rfl, rfl⟩ (by decide +kernel) (fun x11 I9 J10 z12 h => ?_)
  have h := h z12
  refine gIfEq hO (off := 7) (tgt := 54) (by decide +kernel) (by decide) (fun c13 => ?_) (fun c13 => ?_)
  · have h := h.1 c13
    refine gBk (pe := 57) hO [o0 (.aload_n 0), oI (.bipush 47) 47] (by decide +kernel) (show tWG K B 0 0 S I9 J10 57 [some (vR 40), some (vI v1), some (vI v2), none] [vI 47, vR 40] from ?_)
    refine gCVi_b hO (M4_isSign t0 h) hc4_isSign (idx := 56) (w := 702) (by decide +kernel) hR (by omega) t0 ⟨by decide, rfl⟩ (vs := [vI 47]) (st := []) ⟨rfl, Nat.le_of_ble_eq_true rfl, rfl⟩ (by decide +kernel) (fun x16 I14 J15 z17 h => ?_)
    have h := h z17
    have hj18 : ∀ (m19 : Int32), m19 = (if x16 = 0 then (6 : Int32) else 5) → tWG K B 0 0 S I14 J15 69 [some (vR 40), some (vI v1), some (vI v2), none] [vI m19] := by
      intro m19 em19
      subst em19
      exact W4_readTerm_69 hO hR hG t0 hQ hkb7 h
    refine gIfEq hO (off := 7) (tgt := 67) (by decide +kernel) (by decide) (fun c20 => ?_) (fun c20 => ?_)
    · refine gBk (pe := 69) hO [oI (.bipush 6) 6] (by decide +kernel) (show tWG K B 0 0 S I14 J15 69 [some (vR 40), some (vI v1), some (vI v2), none] [vI 6] from ?_)
      exact (hj18 _ (Eq.symm (if_pos c20)))
    · refine gBk (pe := 69) hO [oI (.iconst 5) 5, o0 (.goto 5)] (by decide +kernel) (show tWG K B 0 0 S I14 J15 69 [some (vR 40), some (vI v1), some (vI v2), none] [vI 5] from ?_)
      exact (hj18 _ (Eq.symm (if_neg c20)))
  · have h := h.2 c13
    refine gBk (pe := 69) hO [oI (.iconst 4) 4, o0 (.goto 18)] (by decide +kernel) (show tWG K B 0 0 S I9 J10 69 [some (vR 40), some (vI v1), some (vI v2), none] [vI 4] from ?_)
    exact W4_readTerm_69 hO hR hG t0 hQ hkb7 h
set_option maxRecDepth 100000 in
theorem W4_readTerm_7 {K : tK} {B : tB} {S : tSH} {MC MS : Nat} (hO : tKO K B RX4 cX4_readTerm 4) (hR : kR K = tRm 4 MC MS) (hG : tGr S) {n : Nat} (t0 : ty S 40 4) {k : tHI → tHJ → Prop} (hQ : tRet K B (tQv B (tPv S k)) 0 0 none) {kb7 : tHI → tHJ → Int32 → Int32 → Prop} (hkb7 : ∀ (I : tHI) (J : tHJ) (v1 : Int32) (v2 : Int32), kb7 I J v1 v2 → tWG K B 0 0 S I J 7 [some (vR 40), some (vI v1), some (vI v2), none] []) {I : tHI} {J : tHJ} {v1 : Int32} {v2 : Int32} (h : F4_readTerm_7 n S k kb7 I J v1 v2) : tWG K B 0 0 S I J 7 [some (vR 40), some (vI v1), some (vI v2), none] [] := by
  refine gBk (pe := 11) hO [o0 (.iload_n 2), oI (.sipush 400) 400] (by decide +kernel) (show tWG K B 0 0 S I J 11 [some (vR 40), some (vI v1), some (vI v2), none] [vI 400, vI v2] from ?_)
  refine gIcGe hO (off := 84) (tgt := 95) (by decide +kernel) (by decide) (fun c3 => ?_) (fun c3 => ?_)
  · have h := h.1 c3
    exact gWeak (L' := [none, none, none, none]) trivial (W4_readTerm_95 hO hR hG t0 hQ h)
  · have h := h.2 c3
    refine gBk (pe := 17) hO [o0 (.aload_n 0), oI (.bipush 42) 42] (by decide +kernel) (show tWG K B 0 0 S I J 17 [some (vR 40), some (vI v1), some (vI v2), none] [vI 42, vR 40] from ?_)
    refine gCVi_b hO (M4_isSign t0 h) hc4_isSign (idx := 56) (w := 702) (by decide +kernel) hR (by omega) t0 ⟨by decide, rfl⟩ (vs := [vI 42]) (st := []) ⟨rfl, Nat.le_of_ble_eq_true rfl, rfl⟩ (by decide +kernel) (fun x6 I4 J5 z7 h => ?_)
    have h := h z7
    refine gIfNe hO (off := 21) (tgt := 41) (by decide +kernel) (by decide) (fun c8 => ?_) (fun c8 => ?_)
    · have h := h.1 c8
      exact W4_readTerm_41 hO hR hG t0 hQ hkb7 h
    · have h := h.2 c8
      refine gBk (pe := 26) hO [o0 (.aload_n 0), oI (.bipush 47) 47] (by decide +kernel) (show tWG K B 0 0 S I4 J5 26 [some (vR 40), some (vI v1), some (vI v2), none] [vI 47, vR 40] from ?_)
      refine gCVi_b hO (M4_isSign t0 h) hc4_isSign (idx := 56) (w := 702) (by decide +kernel) hR (by omega) t0 ⟨by decide, rfl⟩ (vs := [vI 47]) (st := []) ⟨rfl, Nat.le_of_ble_eq_true rfl, rfl⟩ (by decide +kernel) (fun x30 I28 J29 z31 h => ?_)
      have h := h z31
      refine gIfNe hO (off := 12) (tgt := 41) (by decide +kernel) (by decide) (fun c32 => ?_) (fun c32 => ?_)
      · have h := h.1 c32
        exact W4_readTerm_41 hO hR hG t0 hQ hkb7 h
      · have h := h.2 c32
        refine gBk (pe := 35) hO [o0 (.aload_n 0), oI (.bipush 37) 37] (by decide +kernel) (show tWG K B 0 0 S I28 J29 35 [some (vR 40), some (vI v1), some (vI v2), none] [vI 37, vR 40] from ?_)
        refine gCVi_b hO (M4_isSign t0 h) hc4_isSign (idx := 56) (w := 702) (by decide +kernel) hR (by omega) t0 ⟨by decide, rfl⟩ (vs := [vI 37]) (st := []) ⟨rfl, Nat.le_of_ble_eq_true rfl, rfl⟩ (by decide +kernel) (fun x35 I33 J34 z36 h => ?_)
        have h := h z36
        refine gIfEq hO (off := 57) (tgt := 95) (by decide +kernel) (by decide) (fun c37 => ?_) (fun c37 => ?_)
        · have h := h.1 c37
          exact gWeak (L' := [none, none, none, none]) trivial (W4_readTerm_95 hO hR hG t0 hQ h)
        · have h := h.2 c37
          exact W4_readTerm_41 hO hR hG t0 hQ hkb7 h
theorem W4_readTerm_L7 {K : tK} {B : tB} {S : tSH} {MC MS : Nat} (hO : tKO K B RX4 cX4_readTerm 4) (hR : kR K = tRm 4 MC MS) (hG : tGr S) {n : Nat} (t0 : ty S 40 4) {k : tHI → tHJ → Prop} (hQ : tRet K B (tQv B (tPv S k)) 0 0 none) : ∀ (f : Nat) (I : tHI) (J : tHJ) (v1 : Int32) (v2 : Int32), F4_readTerm_L7 n S k f I J v1 v2 → tWG K B 0 0 S I J 7 [some (vR 40), some (vI v1), some (vI v2), none] [] := by
  intro f
  induction f with
  | zero => intro I J v1 v2 h; exact h.elim
  | succ f ih => intro I J v1 v2 h; exact W4_readTerm_7 hO hR hG t0 hQ ih h
set_option maxRecDepth 20000 in
theorem hc4_readTerm : tCV yX4_readTerm cX4_readTerm 4 none 1 := ⟨⟨(List.mem_of_getElem? (i := 719) rfl), (List.mem_of_getElem? (i := 29) (by decide +kernel)), by decide +kernel⟩, (List.mem_of_getElem? (i := 700) (by decide +kernel)), (List.mem_of_getElem? (i := 701) (by decide +kernel))⟩
set_option maxRecDepth 100000 in
theorem M4_readTerm {l : Launch} {B : tB} {S : tSH} {I : tHI} {J : tHJ} {v1 : Int32} {n : Nat} {k : tHI → tHJ → Prop} (t0 : ty S 40 4) (h : F4_readTerm n S I J v1 k) : Met l yX4_readTerm (tWs yX4_readTerm cX4_readTerm 4 none) (tRm 4 0 0) (tPc B [vR 40, vI v1] S I J) (tQv B (tPv S k)) 0 0 (tA B) :=
  tEntry (by decide +kernel) [some (vR 40), some (vI v1), none, none] rfl rfl (Nat.le_of_ble_eq_true rfl) (fun K hl hR hO hQ hG => by
  subst hl
  refine gBk (pe := 2) hO [o0 (.aload_n 0), o0 (.iload_n 1)] (by decide +kernel) (show tWG K B 0 0 S I J 2 [some (vR 40), some (vI v1), none, none] [vI v1, vR 40] from ?_)
  refine gCVv_c hO (hrec 5 _ _ _ _ h) hc4_readPart (idx := 151) (w := 720) (by decide +kernel) hR (by omega) t0 ⟨by decide, rfl⟩ (vs := [vI v1]) (st := []) ⟨rfl, Nat.le_of_ble_eq_true rfl, rfl⟩ (by decide +kernel) (fun I1 J2 h => ?_)
  refine gBk (pe := 7) hO [oI (.iconst 0) 0, o0 (.istore_n 2)] (by decide +kernel) (And.intro (Nat.le_of_ble_eq_true rfl) (show tWG K B 0 0 S I1 J2 7 [some (vR 40), some (vI v1), some (vI 0), none] [] from ?_))
  exact W4_readTerm_L7 hO hR hG t0 hQ n _ _ _ _ h)
set_option maxRecDepth 100000 in
theorem W5_fillLeast_88 {K : tK} {B : tB} {S : tSH} {MC MS : Nat} (hO : tKO K B RX5 cX5_fillLeast 6) (hR : kR K = tRm 4 MC MS) (hG : tGr S) {n : Nat} (t0 : ty S 51 5) {k : tHI → tHJ → Prop} (hQ : tRet K B (tQv B (tPv S k)) 0 0 none) {kb13 : tHI → tHJ → Int32 → Int32 → Prop} (hkb13 : ∀ (I : tHI) (J : tHJ) (v1 : Int32) (v2 : Int32), kb13 I J v1 v2 → tWG K B 0 0 S I J 13 [some (vR 51), some (vI v1), some (vI v2), none, none, none] []) {kb19 : tHI → tHJ → Int32 → Int32 → Int32 → Prop} (hkb19 : ∀ (I : tHI) (J : tHJ) (v1 : Int32) (v2 : Int32) (v3 : Int32), kb19 I J v1 v2 v3 → tWG K B 0 0 S I J 19 [some (vR 51), some (vI v1), some (vI v2), some (vI v3), none, none] []) {I : tHI} {J : tHJ} {v1 : Int32} {v2 : Int32} {v3 : Int32} {v4 : Int32} (h : F5_fillLeast_88 n S k kb13 kb19 I J v1 v2 v3 v4) : tWG K B 0 0 S I J 88 [some (vR 51), some (vI v1), some (vI v2), some (vI v3), some (vI v4), none] [] := by
  refine gBk (pe := 98) hO [o0 (.aload_n 0), oF (.getfield 15) 5 3 166 53, o0 (.iload_n 2), oI (.bipush 61) 61, o0 .imul, o0 (.iload_n 3), o0 .iadd] (by decide +kernel) (And.intro t0 (And.intro rfl (show tWG K B 0 0 S I J 98 [some (vR 51), some (vI v1), some (vI v2), some (vI v3), some (vI v4), none] [vI ((v2 * 61) + v3), vR 53] from ?_)))
  refine gBk (pe := 109) hO [(.ldc 85, (0, 0, 1209, 0), 1000000000, 0), o0 (.aload_n 0), oF (.getfield 34) 5 0 172 1, oF (.getfield 42) 8 1 1198 7, o0 (.iload_n 2), o0 (.iload_n 3)] (by decide +kernel) (And.intro t0 (And.intro rfl (And.intro (tGr.abs hG t0 (k := 0) rfl) (And.intro rfl (show tWG K B 0 0 S I J 109 [some (vR 51), some (vI v1), some (vI v2), some (vI v3), some (vI v4), none] [vI v3, vI v2, vR 7, vI 1000000000, vI ((v2 * 61) + v3), vR 53] from ?_)))))
  refine gCVi_p hO (M7_timeAt (tGr.off hG (tGr.abs hG t0 (k := 0) rfl) (k := 1) rfl) h.1) hc7_timeAt (idx := 92) (w := 1216) (by decide +kernel) hR (by omega) (tGr.off hG (tGr.abs hG t0 (k := 0) rfl) (k := 1) rfl) ⟨by decide, rfl⟩ (vs := [vI v2, vI v3]) (st := [vI 1000000000, vI ((v2 * 61) + v3), vR 53]) ⟨rfl, Nat.le_of_ble_eq_true rfl, rfl⟩ (by decide +kernel) ?_
  have h := h.2
  refine gBk (pe := 115) hO [o0 (.iload 4), o0 .iadd] (by decide +kernel) (show tWG K B 0 0 S I J 115 [some (vR 51), some (vI v1), some (vI v2), some (vI v3), some (vI v4), none] [vI ((V7_timeAt S I J 7 v2 v3) + v4), vI 1000000000, vI ((v2 * 61) + v3), vR 53] from ?_)
  refine gMin hO (idx := 53) (w := 1200) (by decide +kernel) hR (by omega) (st := [vI ((v2 * 61) + v3), vR 53]) (Nat.le_of_ble_eq_true rfl) rfl (by decide +kernel) ?_
  refine gBk (pe := 19) hO [o0 .iastore, oI (.iinc 3 1) 1, o0 (.goto (-103))] (by decide +kernel) (And.intro (tGr.off hG t0 (k := 3) rfl) (And.intro (tin (tGr.len hG t0 (k := 3) rfl (by decide)) h.1) (show tWG K B 0 0 S (uI I 53 ((v2 * 61) + v3).toNatClampNeg (if ((V7_timeAt S I J 7 v2 v3) + v4) < 1000000000 then ((V7_timeAt S I J 7 v2 v3) + v4) else 1000000000)) J 19 [some (vR 51), some (vI v1), some (vI v2), some (vI (v3 + 1)), some (vI v4), none] [] from ?_)))
  have h := h.2
  exact gWeak (L' := [some (vR 51), some (vI v1), some (vI v2), some (vI (v3 + 1)), none, none]) ⟨rfl, rfl, rfl, rfl, trivial⟩ (hkb19 _ _ _ _ _ h)
set_option maxRecDepth 100000 in
theorem W5_fillLeast_19 {K : tK} {B : tB} {S : tSH} {MC MS : Nat} (hO : tKO K B RX5 cX5_fillLeast 6) (hR : kR K = tRm 4 MC MS) (hG : tGr S) {n : Nat} (t0 : ty S 51 5) {k : tHI → tHJ → Prop} (hQ : tRet K B (tQv B (tPv S k)) 0 0 none) {kb13 : tHI → tHJ → Int32 → Int32 → Prop} (hkb13 : ∀ (I : tHI) (J : tHJ) (v1 : Int32) (v2 : Int32), kb13 I J v1 v2 → tWG K B 0 0 S I J 13 [some (vR 51), some (vI v1), some (vI v2), none, none, none] []) {kb19 : tHI → tHJ → Int32 → Int32 → Int32 → Prop} (hkb19 : ∀ (I : tHI) (J : tHJ) (v1 : Int32) (v2 : Int32) (v3 : Int32), kb19 I J v1 v2 v3 → tWG K B 0 0 S I J 19 [some (vR 51), some (vI v1), some (vI v2), some (vI v3), none, none] []) {I : tHI} {J : tHJ} {v1 : Int32} {v2 : Int32} {v3 : Int32} (h : F5_fillLeast_19 n S k kb13 kb19 I J v1 v2 v3) : tWG K B 0 0 S I J 19 [some (vR 51), some (vI v1), some (vI v2), some (vI v3), none, none] [] := by
  refine gBk (pe := 26) hO [o0 (.iload_n 3), o0 (.aload_n 0), oF (.getfield 9) 5 2 165 52, o0 (.iload_n 2), o0 .iaload] (by decide +kernel) (And.intro t0 (And.intro rfl (And.intro (tGr.off hG t0 (k := 2) rfl) (And.intro (tin (tGr.len hG t0 (k := 2) rfl (by decide)) h.1) (show tWG K B 0 0 S I J 26 [some (vR 51), some (vI v1), some (vI v2), some (vI v3), none, none] [vI (I 52 v2.toNatClampNeg), vI v3] from ?_)))))
  have h := h.2
  refine gIcGt hO (off := 99) (tgt := 125) (by decide +kernel) (by decide) (fun c4 => ?_) (fun c4 => ?_)
  · have h := h.1 c4
    refine gBk (pe := 13) hO [oI (.iinc 2 (-1)) (-1), o0 (.goto (-115))] (by decide +kernel) (show tWG K B 0 0 S I J 13 [some (vR 51), some (vI v1), some (vI (v2 + (-1))), some (vI v3), none, none] [] from ?_)
    exact gWeak (L' := [some (vR 51), some (vI v1), some (vI (v2 + (-1))), none, none, none]) ⟨rfl, rfl, rfl, trivial⟩ (hkb13 _ _ _ _ h)
  · have h := h.2 c4
    refine gBk (pe := 36) hO [oI (.iconst 0) 0, o0 (.istore 4), o0 (.iload_n 2), oI (.iconst 1) 1, o0 .iadd, o0 (.iload_n 1)] (by decide +kernel) (And.intro (Nat.le_of_ble_eq_true rfl) (show tWG K B 0 0 S I J 36 [some (vR 51), some (vI v1), some (vI v2), some (vI v3), some (vI 0), none] [vI v1, vI (v2 + 1)] from ?_))
    refine gIcGe hO (off := 52) (tgt := 88) (by decide +kernel) (by decide) (fun c5 => ?_) (fun c5 => ?_)
    · have h := h.1 c5
      exact W5_fillLeast_88 hO hR hG t0 hQ hkb13 hkb19 h
    · have h := h.2 c5
      refine gBk (pe := 67) hO [o0 (.aload_n 0), o0 (.iload_n 2), oI (.iconst 1) 1, o0 .iadd, o0 (.iload_n 3), o0 (.aload_n 0), oF (.getfield 34) 5 0 172 1, oF (.getfield 73) 8 2 1201 15, oF (.getfield 77) 10 7 1202 0, o0 .isub, o0 (.iload_n 3), o0 (.aload_n 0), oF (.getfield 34) 5 0 172 1, oF (.getfield 73) 8 2 1201 15, oF (.getfield 82) 10 6 1203 0, o0 .iadd] (by decide +kernel) (And.intro t0 (And.intro rfl (And.intro (tGr.abs hG t0 (k := 0) rfl) (And.intro rfl (And.intro (tGr.off hG (tGr.abs hG t0 (k := 0) rfl) (k := 2) rfl) (And.intro t0 (And.intro rfl (And.intro (tGr.abs hG t0 (k := 0) rfl) (And.intro rfl (And.intro (tGr.off hG (tGr.abs hG t0 (k := 0) rfl) (k := 2) rfl) (show tWG K B 0 0 S I J 67 [some (vR 51), some (vI v1), some (vI v2), some (vI v3), some (vI 0), none] [vI (v3 + (I 15 6)), vI (v3 - (I 15 7)), vI (v2 + 1), vR 51] from ?_)))))))))))
      refine gCVi_c hO (M5_bestPace t0 h) hc5_bestPace (idx := 69) (w := 1211) (by decide +kernel) hR (by omega) t0 ⟨by decide, rfl⟩ (vs := [vI (v2 + 1), vI (v3 - (I 15 7)), vI (v3 + (I 15 6))]) (st := []) ⟨rfl, Nat.le_of_ble_eq_true rfl, rfl⟩ (by decide +kernel) (fun x8 I6 J7 h => ?_)
      refine gBk (pe := 88) hO [o0 (.istore 5), o0 (.aload_n 0), oF (.getfield 15) 5 3 166 53, o0 (.iload_n 2), oI (.iconst 1) 1, o0 .iadd, oI (.bipush 61) 61, o0 .imul, o0 (.iload 5), o0 .iadd, o0 .iaload, o0 (.istore 4)] (by decide +kernel) (And.intro (Nat.le_of_ble_eq_true rfl) (And.intro t0 (And.intro rfl (And.intro (tGr.off hG t0 (k := 3) rfl) (And.intro (tin (tGr.len hG t0 (k := 3) rfl (by decide)) h.1) (And.intro (Nat.le_of_ble_eq_true rfl) (show tWG K B 0 0 S I6 J7 88 [some (vR 51), some (vI v1), some (vI v2), some (vI v3), some (vI (I6 53 (((v2 + 1) * 61) + x8).toNatClampNeg)), some (vI x8)] [] from ?_)))))))
      have h := h.2
      exact gWeak (L' := [some (vR 51), some (vI v1), some (vI v2), some (vI v3), some (vI (I6 53 (((v2 + 1) * 61) + x8).toNatClampNeg)), none]) ⟨rfl, rfl, rfl, rfl, rfl, trivial⟩ (W5_fillLeast_88 hO hR hG t0 hQ hkb13 hkb19 h)
theorem W5_fillLeast_L19 {K : tK} {B : tB} {S : tSH} {MC MS : Nat} (hO : tKO K B RX5 cX5_fillLeast 6) (hR : kR K = tRm 4 MC MS) (hG : tGr S) {n : Nat} (t0 : ty S 51 5) {k : tHI → tHJ → Prop} (hQ : tRet K B (tQv B (tPv S k)) 0 0 none) {kb13 : tHI → tHJ → Int32 → Int32 → Prop} (hkb13 : ∀ (I : tHI) (J : tHJ) (v1 : Int32) (v2 : Int32), kb13 I J v1 v2 → tWG K B 0 0 S I J 13 [some (vR 51), some (vI v1), some (vI v2), none, none, none] []) : ∀ (f : Nat) (I : tHI) (J : tHJ) (v1 : Int32) (v2 : Int32) (v3 : Int32), F5_fillLeast_L19 n S k kb13 f I J v1 v2 v3 → tWG K B 0 0 S I J 19 [some (vR 51), some (vI v1), some (vI v2), some (vI v3), none, none] [] := by
  intro f
  induction f with
  | zero => intro I J v1 v2 v3 h; exact h.elim
  | succ f ih => intro I J v1 v2 v3 h; exact W5_fillLeast_19 hO hR hG t0 hQ hkb13 ih h
set_option maxRecDepth 100000 in
theorem W5_fillLeast_13 {K : tK} {B : tB} {S : tSH} {MC MS : Nat} (hO : tKO K B RX5 cX5_fillLeast 6) (hR : kR K = tRm 4 MC MS) (hG : tGr S) {n : Nat} (t0 : ty S 51 5) {k : tHI → tHJ → Prop} (hQ : tRet K B (tQv B (tPv S k)) 0 0 none) {kb13 : tHI → tHJ → Int32 → Int32 → Prop} (hkb13 : ∀ (I : tHI) (J : tHJ) (v1 : Int32) (v2 : Int32), kb13 I J v1 v2 → tWG K B 0 0 S I J 13 [some (vR 51), some (vI v1), some (vI v2), none, none, none] []) {I : tHI} {J : tHJ} {v1 : Int32} {v2 : Int32} (h : F5_fillLeast_13 n S k kb13 I J v1 v2) : tWG K B 0 0 S I J 13 [some (vR 51), some (vI v1), some (vI v2), none, none, none] [] := by
  refine gBk (pe := 14) hO [o0 (.iload_n 2)] (by decide +kernel) (show tWG K B 0 0 S I J 14 [some (vR 51), some (vI v1), some (vI v2), none, none, none] [vI v2] from ?_)
  refine gIfLt hO (off := 117) (tgt := 131) (by decide +kernel) (by decide) (fun c3 => ?_) (fun c3 => ?_)
  · have h := h.1 c3
    exact gVret hO hQ (by decide +kernel) ⟨rfl, h⟩
  · have h := h.2 c3
    refine gBk (pe := 19) hO [oI (.iconst 1) 1, o0 (.istore_n 3)] (by decide +kernel) (And.intro (Nat.le_of_ble_eq_true rfl) (show tWG K B 0 0 S I J 19 [some (vR 51), some (vI v1), some (vI v2), some (vI 1), none, none] [] from ?_))
    exact W5_fillLeast_L19 hO hR hG t0 hQ hkb13 n _ _ _ _ _ h
theorem W5_fillLeast_L13 {K : tK} {B : tB} {S : tSH} {MC MS : Nat} (hO : tKO K B RX5 cX5_fillLeast 6) (hR : kR K = tRm 4 MC MS) (hG : tGr S) {n : Nat} (t0 : ty S 51 5) {k : tHI → tHJ → Prop} (hQ : tRet K B (tQv B (tPv S k)) 0 0 none) : ∀ (f : Nat) (I : tHI) (J : tHJ) (v1 : Int32) (v2 : Int32), F5_fillLeast_L13 n S k f I J v1 v2 → tWG K B 0 0 S I J 13 [some (vR 51), some (vI v1), some (vI v2), none, none, none] [] := by
  intro f
  induction f with
  | zero => intro I J v1 v2 h; exact h.elim
  | succ f ih => intro I J v1 v2 h; exact W5_fillLeast_13 hO hR hG t0 hQ ih h
set_option maxRecDepth 20000 in
theorem hc5_fillLeast : tCV yX5_fillLeast cX5_fillLeast 6 none 1 := ⟨⟨(List.mem_of_getElem? (i := 1208) rfl), (List.mem_of_getElem? (i := 41) (by decide +kernel)), by decide +kernel⟩, (List.mem_of_getElem? (i := 1206) (by decide +kernel)), (List.mem_of_getElem? (i := 1207) (by decide +kernel))⟩
set_option maxRecDepth 100000 in
theorem M5_fillLeast {l : Launch} {B : tB} {S : tSH} {I : tHI} {J : tHJ} {v1 : Int32} {n : Nat} {k : tHI → tHJ → Prop} (t0 : ty S 51 5) (h : F5_fillLeast n S I J v1 k) : Met l yX5_fillLeast (tWs yX5_fillLeast cX5_fillLeast 6 none) (tRm 4 0 0) (tPc B [vR 51, vI v1] S I J) (tQv B (tPv S k)) 0 0 (tA B) :=
  tEntry (by decide +kernel) [some (vR 51), some (vI v1), none, none, none, none] rfl rfl (Nat.le_of_ble_eq_true rfl) (fun K hl hR hO hQ hG => by
  subst hl
  refine gBk (pe := 4) hO [o0 (.aload_n 0), oF (.getfield 15) 5 3 166 53] (by decide +kernel) (And.intro t0 (And.intro rfl (show tWG K B 0 0 S I J 4 [some (vR 51), some (vI v1), none, none, none, none] [vR 53] from ?_)))
  refine gBk (pe := 6) hO [(.ldc 85, (0, 0, 1209, 0), 1000000000, 0)] (by decide +kernel) (show tWG K B 0 0 S I J 6 [some (vR 51), some (vI v1), none, none, none, none] [vI 1000000000, vR 53] from ?_)
  refine gCSv_c hO (MJ7_fill_53178 (tGr.off hG t0 (k := 3) rfl) h) hcJ7_fill_53178 (idx := 86) (w := 1210) (by decide +kernel) hR (by omega) (vs := [vR 53, vI 1000000000]) (st := []) ⟨rfl, Nat.le_of_ble_eq_true rfl, rfl⟩ (by decide +kernel) (fun I1 J2 h => ?_)
  refine gBk (pe := 13) hO [o0 (.iload_n 1), oI (.iconst 1) 1, o0 .isub, o0 (.istore_n 2)] (by decide +kernel) (And.intro (Nat.le_of_ble_eq_true rfl) (show tWG K B 0 0 S I1 J2 13 [some (vR 51), some (vI v1), some (vI (v1 - 1)), none, none, none] [] from ?_))
  exact W5_fillLeast_L13 hO hR hG t0 hQ n _ _ _ _ h)
set_option maxRecDepth 20000 in
theorem hc7_canBe : tCm yX7_canBe cX7_canBe 4 (some .boolean) 4 ∧ Cond.static yX7_canBe ∈ wsL_law := ⟨⟨(List.mem_of_getElem? (i := 402) rfl), (List.mem_of_getElem? (i := 65) (by decide +kernel)), by decide +kernel⟩, (List.mem_of_getElem? (i := 401) (by decide +kernel))⟩
set_option maxRecDepth 100000 in
theorem M7_canBe {l : Launch} {B : tB} {S : tSH} {I : tHI} {J : tHJ} {v0 : Int32} {v1 : Int32} {v2 : Int32} {v3 : Int32} : Met l yX7_canBe (tWs yX7_canBe cX7_canBe 4 (some .boolean)) (tRm 3 0 0) (tPc B [vI v0, vI v1, vI v2, vI v3] S I J) (tQi B (tPz S I J (V7_canBe v0 v1 v2 v3))) 0 0 (tA B) :=
  tEntry (by decide +kernel) [some (vI v0), some (vI v1), some (vI v2), some (vI v3)] rfl rfl (Nat.le_of_ble_eq_true rfl) (fun K hl hR hO hQ hG => by
  subst hl
  refine gBk (pe := 5) hO [o0 (.iload_n 0), oI (.bipush (-9)) (-9), oI (.bipush 9) 9] (by decide +kernel) (show tWG K B 0 0 S I J 5 [some (vI v0), some (vI v1), some (vI v2), some (vI v3)] [vI 9, vI (-9), vI v0] from ?_)
  refine gCNi_z hO (M11_within) hc11_within (idx := 40) (w := 6) (by decide +kernel) hR (by omega) (vs := [vI v0, vI (-9), vI 9]) (st := []) ⟨rfl, Nat.le_of_ble_eq_true rfl, rfl⟩ (by decide +kernel) (fun z1 => ?_)
  refine gIfEq hO (off := 37) (tgt := 45) (by decide +kernel) (by decide) (fun c2 => ?_) (fun c2 => ?_)
  · refine gBk (pe := 46) hO [oI (.iconst 0) 0] (by decide +kernel) (show tWG K B 0 0 S I J 46 [some (vI v0), some (vI v1), some (vI v2), some (vI v3)] [vI 0] from ?_)
    exact gZret hO hQ (by decide +kernel) (Or.inl rfl) ⟨(Eq.symm (if_pos c2)), (Or.inl rfl), rfl⟩
  · refine gBk (pe := 15) hO [o0 (.iload_n 1), oI (.iconst 1) 1, oI (.bipush 99) 99] (by decide +kernel) (show tWG K B 0 0 S I J 15 [some (vI v0), some (vI v1), some (vI v2), some (vI v3)] [vI 99, vI 1, vI v1] from ?_)
    refine gCNi_z hO (M11_within) hc11_within (idx := 40) (w := 6) (by decide +kernel) hR (by omega) (vs := [vI v1, vI 1, vI 99]) (st := []) ⟨rfl, Nat.le_of_ble_eq_true rfl, rfl⟩ (by decide +kernel) (fun z3 => ?_)
    refine gIfEq hO (off := 27) (tgt := 45) (by decide +kernel) (by decide) (fun c4 => ?_) (fun c4 => ?_)
    · refine gBk (pe := 46) hO [oI (.iconst 0) 0] (by decide +kernel) (show tWG K B 0 0 S I J 46 [some (vI v0), some (vI v1), some (vI v2), some (vI v3)] [vI 0] from ?_)
      exact gZret hO hQ (by decide +kernel) (Or.inl rfl) ⟨(Eq.symm ((if_neg c2).trans (if_pos c4))), (Or.inl rfl), rfl⟩
    · refine gBk (pe := 25) hO [o0 (.iload_n 2), oI (.bipush (-3)) (-3), oI (.iconst 3) 3] (by decide +kernel) (show tWG K B 0 0 S I J 25 [some (vI v0), some (vI v1), some (vI v2), some (vI v3)] [vI 3, vI (-3), vI v2] from ?_)
      refine gCNi_z hO (M11_within) hc11_within (idx := 40) (w := 6) (by decide +kernel) hR (by omega) (vs := [vI v2, vI (-3), vI 3]) (st := []) ⟨rfl, Nat.le_of_ble_eq_true rfl, rfl⟩ (by decide +kernel) (fun z5 => ?_)
      refine gIfEq hO (off := 17) (tgt := 45) (by decide +kernel) (by decide) (fun c6 => ?_) (fun c6 => ?_)
      · refine gBk (pe := 46) hO [oI (.iconst 0) 0] (by decide +kernel) (show tWG K B 0 0 S I J 46 [some (vI v0), some (vI v1), some (vI v2), some (vI v3)] [vI 0] from ?_)
        exact gZret hO hQ (by decide +kernel) (Or.inl rfl) ⟨(Eq.symm ((if_neg c2).trans ((if_neg c4).trans (if_pos c6)))), (Or.inl rfl), rfl⟩
      · refine gBk (pe := 35) hO [o0 (.iload_n 3), oI (.iconst 0) 0, oI (.bipush 31) 31] (by decide +kernel) (show tWG K B 0 0 S I J 35 [some (vI v0), some (vI v1), some (vI v2), some (vI v3)] [vI 31, vI 0, vI v3] from ?_)
        refine gCNi_z hO (M11_within) hc11_within (idx := 40) (w := 6) (by decide +kernel) hR (by omega) (vs := [vI v3, vI 0, vI 31]) (st := []) ⟨rfl, Nat.le_of_ble_eq_true rfl, rfl⟩ (by decide +kernel) (fun z7 => ?_)
        refine gIfEq hO (off := 7) (tgt := 45) (by decide +kernel) (by decide) (fun c8 => ?_) (fun c8 => ?_)
        · refine gBk (pe := 46) hO [oI (.iconst 0) 0] (by decide +kernel) (show tWG K B 0 0 S I J 46 [some (vI v0), some (vI v1), some (vI v2), some (vI v3)] [vI 0] from ?_)
          exact gZret hO hQ (by decide +kernel) (Or.inl rfl) ⟨(Eq.symm ((if_neg c2).trans ((if_neg c4).trans ((if_neg c6).trans (if_pos c8))))), (Or.inl rfl), rfl⟩
        · refine gBk (pe := 46) hO [oI (.iconst 1) 1, o0 (.goto 4)] (by decide +kernel) (show tWG K B 0 0 S I J 46 [some (vI v0), some (vI v1), some (vI v2), some (vI v3)] [vI 1] from ?_)
          exact gZret hO hQ (by decide +kernel) (Or.inr rfl) ⟨(Eq.symm ((if_neg c2).trans ((if_neg c4).trans ((if_neg c6).trans (if_neg c8))))), (Or.inr rfl), rfl⟩)
set_option maxRecDepth 100000 in
theorem W7_holesUnder_26 {K : tK} {B : tB} {S : tSH} {MC MS : Nat} (hO : tKO K B RX7 cX7_holesUnder 3) (hR : kR K = tRm 3 MC MS) (hG : tGr S) {n : Nat} {a : Nat} (t0 : ty S a 7) {k : Int32 → tHI → tHJ → Prop} (hQ : tRet K B (tQi B (tPi S k)) 0 0 (some .int)) {I : tHI} {J : tHJ} {s0 : Int32} (h : F7_holesUnder_26 n S a k I J s0) : tWG K B 0 0 S I J 26 [none, none, none] [vI s0] := by
  exact gIret hO hQ (by decide +kernel) ⟨rfl, h⟩
set_option maxRecDepth 20000 in
theorem hc7_holesUnder : tCV yX7_holesUnder cX7_holesUnder 3 (some .int) 2 := ⟨⟨(List.mem_of_getElem? (i := 1249) rfl), (List.mem_of_getElem? (i := 65) (by decide +kernel)), by decide +kernel⟩, (List.mem_of_getElem? (i := 1247) (by decide +kernel)), (List.mem_of_getElem? (i := 1248) (by decide +kernel))⟩
set_option maxRecDepth 100000 in
theorem M7_holesUnder {l : Launch} {B : tB} {S : tSH} {I : tHI} {J : tHJ} {a : Nat} {v1 : Int32} {v2 : Int32} {n : Nat} {k : Int32 → tHI → tHJ → Prop} (t0 : ty S a 7) (h : F7_holesUnder n S I J a v1 v2 k) : Met l yX7_holesUnder (tWs yX7_holesUnder cX7_holesUnder 3 (some .int)) (tRm 3 0 0) (tPc B [vR a, vI v1, vI v2] S I J) (tQi B (tPi S k)) 0 0 (tA B) :=
  tEntry (by decide +kernel) [some (vR a), some (vI v1), some (vI v2)] rfl rfl (Nat.le_of_ble_eq_true rfl) (fun K hl hR hO hQ hG => by
  subst hl
  refine gBk (pe := 2) hO [o0 (.aload_n 0), o0 (.iload_n 1)] (by decide +kernel) (show tWG K B 0 0 S I J 2 [some (vR a), some (vI v1), some (vI v2)] [vI v1, vR a] from ?_)
  refine gCVi_z hO (M7_has t0) hc7_has (idx := 44) (w := 1177) (by decide +kernel) hR (by omega) t0 ⟨by decide, rfl⟩ (vs := [vI v1]) (st := []) ⟨rfl, Nat.le_of_ble_eq_true rfl, rfl⟩ (by decide +kernel) (fun z1 => ?_)
  refine gIfEq hO (off := 20) (tgt := 25) (by decide +kernel) (by decide) (fun c2 => ?_) (fun c2 => ?_)
  · have h := h.1 c2
    refine gBk (pe := 26) hO [oI (.iconst 0) 0] (by decide +kernel) (show tWG K B 0 0 S I J 26 [some (vR a), some (vI v1), some (vI v2)] [vI 0] from ?_)
    exact gWeak (L' := [none, none, none]) trivial (W7_holesUnder_26 hO hR hG t0 hQ h)
  · have h := h.2 c2
    refine gBk (pe := 19) hO [o0 (.aload_n 0), oF (.getfield 25) 7 4 88 0, o0 (.iload_n 1), o0 .iaload, o0 (.iload_n 2), o0 .ishr, oI (.bipush 7) 7, o0 .iand] (by decide +kernel) (And.intro t0 (And.intro (tGr.off hG t0 (k := 4) rfl) (And.intro (tin (tGr.len hG t0 (k := 4) rfl (by decide)) h.1) (show tWG K B 0 0 S I J 19 [some (vR a), some (vI v1), some (vI v2)] [vI (((I (a + 4) v1.toNatClampNeg) >>> (v2 &&& 31)) &&& 7)] from ?_))))
    have h := h.2
    refine gCSi_c hO (MJ6_bitCount_0f7a4 h) hcJ6_bitCount_0f7a4 (idx := 48) (w := 1250) (by decide +kernel) hR (by omega) (vs := [vI (((I (a + 4) v1.toNatClampNeg) >>> (v2 &&& 31)) &&& 7)]) (st := []) ⟨rfl, Nat.le_of_ble_eq_true rfl, rfl⟩ (by decide +kernel) (fun x5 I3 J4 h => ?_)
    refine gBk (pe := 26) hO [o0 (.goto 4)] (by decide +kernel) (show tWG K B 0 0 S I3 J4 26 [some (vR a), some (vI v1), some (vI v2)] [vI x5] from ?_)
    exact gWeak (L' := [none, none, none]) trivial (W7_holesUnder_26 hO hR hG t0 hQ h))
set_option maxRecDepth 20000 in
theorem hc11_end : tCV yX11_end cX11_end 2 (some .int) 1 := ⟨⟨(List.mem_of_getElem? (i := 576) rfl), (List.mem_of_getElem? (i := 2) (by decide +kernel)), by decide +kernel⟩, (List.mem_of_getElem? (i := 574) (by decide +kernel)), (List.mem_of_getElem? (i := 575) (by decide +kernel))⟩
set_option maxRecDepth 100000 in
theorem M11_end {l : Launch} {B : tB} {S : tSH} {I : tHI} {J : tHJ} {v1 : Int32} {n : Nat} {k : Int32 → tHI → tHJ → Prop} (t0 : ty S 0 11) (h : F11_end n S I J v1 k) : Met l yX11_end (tWs yX11_end cX11_end 2 (some .int)) (tRm 3 0 0) (tPc B [vR 0, vI v1] S I J) (tQi B (tPi S k)) 0 0 (tA B) :=
  tEntry (by decide +kernel) [some (vR 0), some (vI v1)] rfl rfl (Nat.le_of_ble_eq_true rfl) (fun K hl hR hO hQ hG => by
  subst hl
  refine gBk (pe := 9) hO [o0 (.iload_n 1), oI (.iconst 0) 0, o0 (.aload_n 0), oF (.getfield 36) 11 5 26 38, oF (.getfield 202) 9 1 559 0] (by decide +kernel) (And.intro t0 (And.intro rfl (And.intro (tGr.off hG t0 (k := 5) rfl) (show tWG K B 0 0 S I J 9 [some (vR 0), some (vI v1)] [vI (I 38 1), vI 0, vI v1] from ?_))))
  refine gCSi_z hO (M11_within) hc11_within (idx := 106) (w := 245) (by decide +kernel) hR (by omega) (vs := [vI v1, vI 0, vI (I 38 1)]) (st := []) ⟨rfl, Nat.le_of_ble_eq_true rfl, rfl⟩ (by decide +kernel) (fun z1 => ?_)
  refine gIfNe hO (off := 5) (tgt := 17) (by decide +kernel) (by decide) (fun c2 => ?_) (fun c2 => ?_)
  · have h := h.1 c2
    refine gBk (pe := 26) hO [o0 (.aload_n 0), oF (.getfield 36) 11 5 26 38, o0 (.iload_n 1), oF (.putfield 202) 9 1 559 0, o0 (.iload_n 1)] (by decide +kernel) (And.intro t0 (And.intro rfl (And.intro (tGr.off hG t0 (k := 5) rfl) (show tWG K B 0 0 S (uI I 38 1 v1) J 26 [some (vR 0), some (vI v1)] [vI v1] from ?_))))
    exact gIret hO hQ (by decide +kernel) ⟨rfl, h⟩
  · have h := h.2 c2
    refine gBk (pe := 16) hO [oI (.iconst (-1)) (-1)] (by decide +kernel) (show tWG K B 0 0 S I J 16 [some (vR 0), some (vI v1)] [vI (-1)] from ?_)
    exact gIret hO hQ (by decide +kernel) ⟨rfl, h⟩)
set_option maxRecDepth 100000 in
theorem W11_addFromTape_28 {K : tK} {B : tB} {S : tSH} {MC MS : Nat} (hO : tKO K B RX11 cX11_addFromTape 6) (hR : kR K = tRm 4 MC MS) (hG : tGr S) {n : Nat} (t0 : ty S 0 11) {k : Int32 → tHI → tHJ → Prop} (hQ : tRet K B (tQi B (tPb S k)) 0 0 (some .boolean)) {I : tHI} {J : tHJ} (h : F11_addFromTape_28 n S k I J) : tWG K B 0 0 S I J 28 [none, none, none, none, none, none] [] := by
  refine gBk (pe := 29) hO [oI (.iconst 0) 0] (by decide +kernel) (show tWG K B 0 0 S I J 29 [none, none, none, none, none, none] [vI 0] from ?_)
  exact gZret hO hQ (by decide +kernel) (Or.inl rfl) ⟨rfl, (Or.inl rfl), h⟩
set_option maxRecDepth 20000 in
theorem hc11_addFromTape : tCV yX11_addFromTape cX11_addFromTape 6 (some .boolean) 1 := ⟨⟨(List.mem_of_getElem? (i := 588) rfl), (List.mem_of_getElem? (i := 2) (by decide +kernel)), by decide +kernel⟩, (List.mem_of_getElem? (i := 586) (by decide +kernel)), (List.mem_of_getElem? (i := 587) (by decide +kernel))⟩
set_option maxRecDepth 100000 in
theorem M11_addFromTape {l : Launch} {B : tB} {S : tSH} {I : tHI} {J : tHJ} {v1 : Int32} {n : Nat} {k : Int32 → tHI → tHJ → Prop} (t0 : ty S 0 11) (h : F11_addFromTape n S I J v1 k) : Met l yX11_addFromTape (tWs yX11_addFromTape cX11_addFromTape 6 (some .boolean)) (tRm 4 0 0) (tPc B [vR 0, vI v1] S I J) (tQi B (tPb S k)) 0 0 (tA B) :=
  tEntry (by decide +kernel) [some (vR 0), some (vI v1), none, none, none, none] rfl rfl (Nat.le_of_ble_eq_true rfl) (fun K hl hR hO hQ hG => by
  subst hl
  refine gBk (pe := 10) hO [o0 (.iload_n 1), oI (.iconst 4) 4, o0 .iadd, o0 (.aload_n 0), oF (.getfield 36) 11 5 26 38, oF (.getfield 202) 9 1 559 0] (by decide +kernel) (And.intro t0 (And.intro rfl (And.intro (tGr.off hG t0 (k := 5) rfl) (show tWG K B 0 0 S I J 10 [some (vR 0), some (vI v1), none, none, none, none] [vI (I 38 1), vI (v1 + 4)] from ?_))))
  refine gIcGt hO (off := 18) (tgt := 28) (by decide +kernel) (by decide) (fun c1 => ?_) (fun c1 => ?_)
  · have h := h.1 c1
    exact gWeak (L' := [none, none, none, none, none, none]) trivial (W11_addFromTape_28 hO hR hG t0 hQ h)
  · have h := h.2 c1
    refine gBk (pe := 25) hO [o0 (.aload_n 0), oF (.getfield 12) 11 0 15 1, oF (.getfield 158) 8 1 398 7, oF (.getfield 162) 7 0 399 0, oI (.bipush 12) 12] (by decide +kernel) (And.intro t0 (And.intro rfl (And.intro (tGr.off hG t0 (k := 0) rfl) (And.intro rfl (And.intro (tGr.off hG (tGr.off hG t0 (k := 0) rfl) (k := 1) rfl) (show tWG K B 0 0 S I J 25 [some (vR 0), some (vI v1), none, none, none, none] [vI 12, vI (I 7 0)] from ?_))))))
    refine gIcLt hO (off := 5) (tgt := 30) (by decide +kernel) (by decide) (fun c2 => ?_) (fun c2 => ?_)
    · have h := h.1 c2
      refine gBk (pe := 35) hO [o0 (.aload_n 0), oF (.getfield 36) 11 5 26 38, o0 (.iload_n 1)] (by decide +kernel) (And.intro t0 (And.intro rfl (show tWG K B 0 0 S I J 35 [some (vR 0), some (vI v1), none, none, none, none] [vI v1, vR 38] from ?_)))
      refine gCVi_p hO (M9_byteAt (tGr.off hG t0 (k := 5) rfl) h.1) hc9_byteAt (idx := 210) (w := 589) (by decide +kernel) hR (by omega) (tGr.off hG t0 (k := 5) rfl) ⟨by decide, rfl⟩ (vs := [vI v1]) (st := []) ⟨rfl, Nat.le_of_ble_eq_true rfl, rfl⟩ (by decide +kernel) ?_
      have h := h.2
      refine gBk (pe := 49) hO [oI (.bipush 9) 9, o0 .isub, o0 (.istore_n 2), o0 (.aload_n 0), oF (.getfield 36) 11 5 26 38, o0 (.iload_n 1), oI (.iconst 1) 1, o0 .iadd] (by decide +kernel) (And.intro (Nat.le_of_ble_eq_true rfl) (And.intro t0 (And.intro rfl (show tWG K B 0 0 S I J 49 [some (vR 0), some (vI v1), some (vI ((V9_byteAt S I J 38 v1) - 9)), none, none, none] [vI (v1 + 1), vR 38] from ?_))))
      refine gCVi_p hO (M9_byteAt (tGr.off hG t0 (k := 5) rfl) h.1) hc9_byteAt (idx := 210) (w := 589) (by decide +kernel) hR (by omega) (tGr.off hG t0 (k := 5) rfl) ⟨by decide, rfl⟩ (vs := [vI (v1 + 1)]) (st := []) ⟨rfl, Nat.le_of_ble_eq_true rfl, rfl⟩ (by decide +kernel) ?_
      have h := h.2
      refine gBk (pe := 60) hO [o0 (.istore_n 3), o0 (.aload_n 0), oF (.getfield 36) 11 5 26 38, o0 (.iload_n 1), oI (.iconst 2) 2, o0 .iadd] (by decide +kernel) (And.intro (Nat.le_of_ble_eq_true rfl) (And.intro t0 (And.intro rfl (show tWG K B 0 0 S I J 60 [some (vR 0), some (vI v1), some (vI ((V9_byteAt S I J 38 v1) - 9)), some (vI (V9_byteAt S I J 38 (v1 + 1))), none, none] [vI (v1 + 2), vR 38] from ?_))))
      refine gCVi_p hO (M9_byteAt (tGr.off hG t0 (k := 5) rfl) h.1) hc9_byteAt (idx := 210) (w := 589) (by decide +kernel) hR (by omega) (tGr.off hG t0 (k := 5) rfl) ⟨by decide, rfl⟩ (vs := [vI (v1 + 2)]) (st := []) ⟨rfl, Nat.le_of_ble_eq_true rfl, rfl⟩ (by decide +kernel) ?_
      have h := h.2
      refine gBk (pe := 74) hO [oI (.iconst 3) 3, o0 .isub, o0 (.istore 4), o0 (.aload_n 0), oF (.getfield 36) 11 5 26 38, o0 (.iload_n 1), oI (.iconst 3) 3, o0 .iadd] (by decide +kernel) (And.intro (Nat.le_of_ble_eq_true rfl) (And.intro t0 (And.intro rfl (show tWG K B 0 0 S I J 74 [some (vR 0), some (vI v1), some (vI ((V9_byteAt S I J 38 v1) - 9)), some (vI (V9_byteAt S I J 38 (v1 + 1))), some (vI ((V9_byteAt S I J 38 (v1 + 2)) - 3)), none] [vI (v1 + 3), vR 38] from ?_))))
      refine gCVi_p hO (M9_byteAt (tGr.off hG t0 (k := 5) rfl) h.1) hc9_byteAt (idx := 210) (w := 589) (by decide +kernel) hR (by omega) (tGr.off hG t0 (k := 5) rfl) ⟨by decide, rfl⟩ (vs := [vI (v1 + 3)]) (st := []) ⟨rfl, Nat.le_of_ble_eq_true rfl, rfl⟩ (by decide +kernel) ?_
      have h := h.2
      refine gBk (pe := 85) hO [o0 (.istore 5), o0 (.iload_n 2), o0 (.iload_n 3), o0 (.iload 4), o0 (.iload 5)] (by decide +kernel) (And.intro (Nat.le_of_ble_eq_true rfl) (show tWG K B 0 0 S I J 85 [some (vR 0), some (vI v1), some (vI ((V9_byteAt S I J 38 v1) - 9)), some (vI (V9_byteAt S I J 38 (v1 + 1))), some (vI ((V9_byteAt S I J 38 (v1 + 2)) - 3)), some (vI (V9_byteAt S I J 38 (v1 + 3)))] [vI (V9_byteAt S I J 38 (v1 + 3)), vI ((V9_byteAt S I J 38 (v1 + 2)) - 3), vI (V9_byteAt S I J 38 (v1 + 1)), vI ((V9_byteAt S I J 38 v1) - 9)] from ?_))
      refine gCSi_z hO (M7_canBe) hc7_canBe (idx := 152) (w := 400) (by decide +kernel) hR (by omega) (vs := [vI ((V9_byteAt S I J 38 v1) - 9), vI (V9_byteAt S I J 38 (v1 + 1)), vI ((V9_byteAt S I J 38 (v1 + 2)) - 3), vI (V9_byteAt S I J 38 (v1 + 3))]) (st := []) ⟨rfl, Nat.le_of_ble_eq_true rfl, rfl⟩ (by decide +kernel) (fun z3 => ?_)
      refine gIfNe hO (off := 5) (tgt := 93) (by decide +kernel) (by decide) (fun c4 => ?_) (fun c4 => ?_)
      · have h := h.1 c4
        refine gBk (pe := 106) hO [o0 (.aload_n 0), oF (.getfield 12) 11 0 15 1, oF (.getfield 158) 8 1 398 7, o0 (.iload_n 2), o0 (.iload_n 3), o0 (.iload 4), o0 (.iload 5)] (by decide +kernel) (And.intro t0 (And.intro rfl (And.intro (tGr.off hG t0 (k := 0) rfl) (And.intro rfl (show tWG K B 0 0 S I J 106 [some (vR 0), some (vI v1), some (vI ((V9_byteAt S I J 38 v1) - 9)), some (vI (V9_byteAt S I J 38 (v1 + 1))), some (vI ((V9_byteAt S I J 38 (v1 + 2)) - 3)), some (vI (V9_byteAt S I J 38 (v1 + 3)))] [vI (V9_byteAt S I J 38 (v1 + 3)), vI ((V9_byteAt S I J 38 (v1 + 2)) - 3), vI (V9_byteAt S I J 38 (v1 + 1)), vI ((V9_byteAt S I J 38 v1) - 9), vR 7] from ?_)))))
        refine gCVi_c hO (M7_add (tGr.off hG (tGr.off hG t0 (k := 0) rfl) (k := 1) rfl) h) hc7_add (idx := 163) (w := 403) (by decide +kernel) hR (by omega) (tGr.off hG (tGr.off hG t0 (k := 0) rfl) (k := 1) rfl) ⟨by decide, rfl⟩ (vs := [vI ((V9_byteAt S I J 38 v1) - 9), vI (V9_byteAt S I J 38 (v1 + 1)), vI ((V9_byteAt S I J 38 (v1 + 2)) - 3), vI (V9_byteAt S I J 38 (v1 + 3))]) (st := []) ⟨rfl, Nat.le_of_ble_eq_true rfl, rfl⟩ (by decide +kernel) (fun x7 I5 J6 h => ?_)
        refine gBk (pe := 111) hO [o0 .pop, oI (.iconst 1) 1] (by decide +kernel) (show tWG K B 0 0 S I5 J6 111 [some (vR 0), some (vI v1), some (vI ((V9_byteAt S I J 38 v1) - 9)), some (vI (V9_byteAt S I J 38 (v1 + 1))), some (vI ((V9_byteAt S I J 38 (v1 + 2)) - 3)), some (vI (V9_byteAt S I J 38 (v1 + 3)))] [vI 1] from ?_)
        exact gZret hO hQ (by decide +kernel) (Or.inr rfl) ⟨rfl, (Or.inr rfl), h⟩
      · have h := h.2 c4
        refine gBk (pe := 92) hO [oI (.iconst 0) 0] (by decide +kernel) (show tWG K B 0 0 S I J 92 [some (vR 0), some (vI v1), some (vI ((V9_byteAt S I J 38 v1) - 9)), some (vI (V9_byteAt S I J 38 (v1 + 1))), some (vI ((V9_byteAt S I J 38 (v1 + 2)) - 3)), some (vI (V9_byteAt S I J 38 (v1 + 3)))] [vI 0] from ?_)
        exact gZret hO hQ (by decide +kernel) (Or.inl rfl) ⟨rfl, (Or.inl rfl), h⟩
    · have h := h.2 c2
      exact gWeak (L' := [none, none, none, none, none, none]) trivial (W11_addFromTape_28 hO hR hG t0 hQ h))
set_option maxRecDepth 20000 in
theorem hc11_count : tCV yX11_count cX11_count 3 (some .int) 1 := ⟨⟨(List.mem_of_getElem? (i := 1450) rfl), (List.mem_of_getElem? (i := 2) (by decide +kernel)), by decide +kernel⟩, (List.mem_of_getElem? (i := 1448) (by decide +kernel)), (List.mem_of_getElem? (i := 1449) (by decide +kernel))⟩
set_option maxRecDepth 100000 in
theorem M11_count {l : Launch} {B : tB} {S : tSH} {I : tHI} {J : tHJ} {v1 : Int32} {n : Nat} {k : Int32 → tHI → tHJ → Prop} (t0 : ty S 0 11) (h : F11_count n S I J v1 k) : Met l yX11_count (tWs yX11_count cX11_count 3 (some .int)) (tRm 3 0 0) (tPc B [vR 0, vI v1] S I J) (tQi B (tPi S k)) 0 0 (tA B) :=
  tEntry (by decide +kernel) [some (vR 0), some (vI v1), none] rfl rfl (Nat.le_of_ble_eq_true rfl) (fun K hl hR hO hQ hG => by
  subst hl
  refine gBk (pe := 9) hO [o0 (.aload_n 0), oF (.getfield 12) 11 0 15 1, oF (.getfield 169) 8 2 425 15, o0 (.astore_n 2), o0 (.iload_n 1)] (by decide +kernel) (And.intro t0 (And.intro rfl (And.intro (tGr.off hG t0 (k := 0) rfl) (And.intro rfl (And.intro (Nat.le_of_ble_eq_true rfl) (show tWG K B 0 0 S I J 9 [some (vR 0), some (vI v1), some (vR 15)] [vI v1] from ?_))))))
  by_cases c1 : v1 = 0
  · have h := h.1 c1
    refine gSwIn hO (dflt := 221) (lo := 0) (hi := 17) (offs := #[87, 98, 109, 120, 128, 136, 144, 151, 158, 165, 172, 180, 188, 193, 198, 203, 208, 213]) (len := 87) (off := 87) (tgt := 96) 0 c1 (by decide +kernel) (by decide +kernel) ?_
    refine gBk (pe := 106) hO [o0 (.aload_n 0), oF (.getfield 12) 11 0 15 1, oF (.getfield 120) 8 0 242 2, oF (.getfield 124) 3 0 243 0] (by decide +kernel) (And.intro t0 (And.intro rfl (And.intro (tGr.off hG t0 (k := 0) rfl) (And.intro rfl (And.intro (tGr.off hG (tGr.off hG t0 (k := 0) rfl) (k := 0) rfl) (show tWG K B 0 0 S I J 106 [some (vR 0), some (vI v1), some (vR 15)] [vI (I 2 0)] from ?_))))))
    exact gIret hO hQ (by decide +kernel) ⟨rfl, h⟩
  have h := h.2
  by_cases c2 : v1 = 1
  · have h := h.1 c2
    refine gSwIn hO (dflt := 221) (lo := 0) (hi := 17) (offs := #[87, 98, 109, 120, 128, 136, 144, 151, 158, 165, 172, 180, 188, 193, 198, 203, 208, 213]) (len := 87) (off := 98) (tgt := 107) 1 c2 (by decide +kernel) (by decide +kernel) ?_
    refine gBk (pe := 117) hO [o0 (.aload_n 0), oF (.getfield 12) 11 0 15 1, oF (.getfield 158) 8 1 398 7, oF (.getfield 162) 7 0 399 0] (by decide +kernel) (And.intro t0 (And.intro rfl (And.intro (tGr.off hG t0 (k := 0) rfl) (And.intro rfl (And.intro (tGr.off hG (tGr.off hG t0 (k := 0) rfl) (k := 1) rfl) (show tWG K B 0 0 S I J 117 [some (vR 0), some (vI v1), some (vR 15)] [vI (I 7 0)] from ?_))))))
    exact gIret hO hQ (by decide +kernel) ⟨rfl, h⟩
  have h := h.2
  by_cases c3 : v1 = 2
  · have h := h.1 c3
    refine gSwIn hO (dflt := 221) (lo := 0) (hi := 17) (offs := #[87, 98, 109, 120, 128, 136, 144, 151, 158, 165, 172, 180, 188, 193, 198, 203, 208, 213]) (len := 87) (off := 109) (tgt := 118) 2 c3 (by decide +kernel) (by decide +kernel) ?_
    refine gBk (pe := 128) hO [o0 (.aload_n 0), oF (.getfield 12) 11 0 15 1, oF (.getfield 158) 8 1 398 7, oF (.getfield 166) 7 5 424 0] (by decide +kernel) (And.intro t0 (And.intro rfl (And.intro (tGr.off hG t0 (k := 0) rfl) (And.intro rfl (And.intro (tGr.off hG (tGr.off hG t0 (k := 0) rfl) (k := 1) rfl) (show tWG K B 0 0 S I J 128 [some (vR 0), some (vI v1), some (vR 15)] [vI (I 7 5)] from ?_))))))
    exact gIret hO hQ (by decide +kernel) ⟨rfl, h⟩
  have h := h.2
  by_cases c4 : v1 = 3
  · have h := h.1 c4
    refine gSwIn hO (dflt := 221) (lo := 0) (hi := 17) (offs := #[87, 98, 109, 120, 128, 136, 144, 151, 158, 165, 172, 180, 188, 193, 198, 203, 208, 213]) (len := 87) (off := 120) (tgt := 129) 3 c4 (by decide +kernel) (by decide +kernel) ?_
    refine gBk (pe := 136) hO [o0 (.aload_n 0), oF (.getfield 12) 11 0 15 1, oF (.getfield 213) 8 4 610 0] (by decide +kernel) (And.intro t0 (And.intro rfl (And.intro (tGr.off hG t0 (k := 0) rfl) (show tWG K B 0 0 S I J 136 [some (vR 0), some (vI v1), some (vR 15)] [vI (I 1 4)] from ?_))))
    exact gIret hO hQ (by decide +kernel) ⟨rfl, h⟩
  have h := h.2
  by_cases c5 : v1 = 4
  · have h := h.1 c5
    refine gSwIn hO (dflt := 221) (lo := 0) (hi := 17) (offs := #[87, 98, 109, 120, 128, 136, 144, 151, 158, 165, 172, 180, 188, 193, 198, 203, 208, 213]) (len := 87) (off := 128) (tgt := 137) 4 c5 (by decide +kernel) (by decide +kernel) ?_
    refine gBk (pe := 144) hO [o0 (.aload_n 0), oF (.getfield 26) 11 3 21 34, oF (.getfield 129) 1 1 244 0] (by decide +kernel) (And.intro t0 (And.intro rfl (And.intro (tGr.off hG t0 (k := 3) rfl) (show tWG K B 0 0 S I J 144 [some (vR 0), some (vI v1), some (vR 15)] [vI (I 34 1)] from ?_))))
    exact gIret hO hQ (by decide +kernel) ⟨rfl, h⟩
  have h := h.2
  by_cases c6 : v1 = 5
  · have h := h.1 c6
    refine gSwIn hO (dflt := 221) (lo := 0) (hi := 17) (offs := #[87, 98, 109, 120, 128, 136, 144, 151, 158, 165, 172, 180, 188, 193, 198, 203, 208, 213]) (len := 87) (off := 136) (tgt := 145) 5 c6 (by decide +kernel) (by decide +kernel) ?_
    refine gBk (pe := 152) hO [o0 (.aload_n 0), oF (.getfield 36) 11 5 26 38, oF (.getfield 202) 9 1 559 0] (by decide +kernel) (And.intro t0 (And.intro rfl (And.intro (tGr.off hG t0 (k := 5) rfl) (show tWG K B 0 0 S I J 152 [some (vR 0), some (vI v1), some (vR 15)] [vI (I 38 1)] from ?_))))
    exact gIret hO hQ (by decide +kernel) ⟨rfl, h⟩
  have h := h.2
  by_cases c7 : v1 = 6
  · have h := h.1 c7
    refine gSwIn hO (dflt := 221) (lo := 0) (hi := 17) (offs := #[87, 98, 109, 120, 128, 136, 144, 151, 158, 165, 172, 180, 188, 193, 198, 203, 208, 213]) (len := 87) (off := 144) (tgt := 153) 6 c7 (by decide +kernel) (by decide +kernel) ?_
    refine gBk (pe := 159) hO [o0 (.aload_n 0), oF (.getfield 76) 11 11 45 59, oI (.iconst 1) 1, o0 .iaload] (by decide +kernel) (And.intro t0 (And.intro rfl (And.intro (tGr.off hG t0 (k := 11) rfl) (And.intro (tin (tGr.len hG t0 (k := 11) rfl (by decide)) (tvi (by decide +kernel))) (show tWG K B 0 0 S I J 159 [some (vR 0), some (vI v1), some (vR 15)] [vI (I 59 1)] from ?_)))))
    exact gIret hO hQ (by decide +kernel) ⟨rfl, h⟩
  have h := h.2
  by_cases c8 : v1 = 7
  · have h := h.1 c8
    refine gSwIn hO (dflt := 221) (lo := 0) (hi := 17) (offs := #[87, 98, 109, 120, 128, 136, 144, 151, 158, 165, 172, 180, 188, 193, 198, 203, 208, 213]) (len := 87) (off := 151) (tgt := 160) 7 c8 (by decide +kernel) (by decide +kernel) ?_
    refine gBk (pe := 166) hO [o0 (.aload_n 0), oF (.getfield 76) 11 11 45 59, oI (.iconst 2) 2, o0 .iaload] (by decide +kernel) (And.intro t0 (And.intro rfl (And.intro (tGr.off hG t0 (k := 11) rfl) (And.intro (tin (tGr.len hG t0 (k := 11) rfl (by decide)) (tvi (by decide +kernel))) (show tWG K B 0 0 S I J 166 [some (vR 0), some (vI v1), some (vR 15)] [vI (I 59 2)] from ?_)))))
    exact gIret hO hQ (by decide +kernel) ⟨rfl, h⟩
  have h := h.2
  by_cases c9 : v1 = 8
  · have h := h.1 c9
    refine gSwIn hO (dflt := 221) (lo := 0) (hi := 17) (offs := #[87, 98, 109, 120, 128, 136, 144, 151, 158, 165, 172, 180, 188, 193, 198, 203, 208, 213]) (len := 87) (off := 158) (tgt := 167) 8 c9 (by decide +kernel) (by decide +kernel) ?_
    refine gBk (pe := 173) hO [o0 (.aload_n 0), oF (.getfield 76) 11 11 45 59, oI (.iconst 3) 3, o0 .iaload] (by decide +kernel) (And.intro t0 (And.intro rfl (And.intro (tGr.off hG t0 (k := 11) rfl) (And.intro (tin (tGr.len hG t0 (k := 11) rfl (by decide)) (tvi (by decide +kernel))) (show tWG K B 0 0 S I J 173 [some (vR 0), some (vI v1), some (vR 15)] [vI (I 59 3)] from ?_)))))
    exact gIret hO hQ (by decide +kernel) ⟨rfl, h⟩
  have h := h.2
  by_cases c10 : v1 = 9
  · have h := h.1 c10
    refine gSwIn hO (dflt := 221) (lo := 0) (hi := 17) (offs := #[87, 98, 109, 120, 128, 136, 144, 151, 158, 165, 172, 180, 188, 193, 198, 203, 208, 213]) (len := 87) (off := 165) (tgt := 174) 9 c10 (by decide +kernel) (by decide +kernel) ?_
    refine gBk (pe := 180) hO [o0 (.aload_n 0), oF (.getfield 76) 11 11 45 59, oI (.iconst 5) 5, o0 .iaload] (by decide +kernel) (And.intro t0 (And.intro rfl (And.intro (tGr.off hG t0 (k := 11) rfl) (And.intro (tin (tGr.len hG t0 (k := 11) rfl (by decide)) (tvi (by decide +kernel))) (show tWG K B 0 0 S I J 180 [some (vR 0), some (vI v1), some (vR 15)] [vI (I 59 5)] from ?_)))))
    exact gIret hO hQ (by decide +kernel) ⟨rfl, h⟩
  have h := h.2
  by_cases c11 : v1 = 10
  · have h := h.1 c11
    refine gSwIn hO (dflt := 221) (lo := 0) (hi := 17) (offs := #[87, 98, 109, 120, 128, 136, 144, 151, 158, 165, 172, 180, 188, 193, 198, 203, 208, 213]) (len := 87) (off := 172) (tgt := 181) 10 c11 (by decide +kernel) (by decide +kernel) ?_
    refine gBk (pe := 188) hO [o0 (.aload_n 0), oF (.getfield 76) 11 11 45 59, oI (.bipush 6) 6, o0 .iaload] (by decide +kernel) (And.intro t0 (And.intro rfl (And.intro (tGr.off hG t0 (k := 11) rfl) (And.intro (tin (tGr.len hG t0 (k := 11) rfl (by decide)) (tvi (by decide +kernel))) (show tWG K B 0 0 S I J 188 [some (vR 0), some (vI v1), some (vR 15)] [vI (I 59 6)] from ?_)))))
    exact gIret hO hQ (by decide +kernel) ⟨rfl, h⟩
  have h := h.2
  by_cases c12 : v1 = 11
  · have h := h.1 c12
    refine gSwIn hO (dflt := 221) (lo := 0) (hi := 17) (offs := #[87, 98, 109, 120, 128, 136, 144, 151, 158, 165, 172, 180, 188, 193, 198, 203, 208, 213]) (len := 87) (off := 180) (tgt := 189) 11 c12 (by decide +kernel) (by decide +kernel) ?_
    refine gBk (pe := 196) hO [o0 (.aload_n 0), oF (.getfield 12) 11 0 15 1, oF (.getfield 282) 8 5 1091 0] (by decide +kernel) (And.intro t0 (And.intro rfl (And.intro (tGr.off hG t0 (k := 0) rfl) (show tWG K B 0 0 S I J 196 [some (vR 0), some (vI v1), some (vR 15)] [vI (I 1 5)] from ?_))))
    exact gIret hO hQ (by decide +kernel) ⟨rfl, h⟩
  have h := h.2
  by_cases c13 : v1 = 12
  · have h := h.1 c13
    refine gSwIn hO (dflt := 221) (lo := 0) (hi := 17) (offs := #[87, 98, 109, 120, 128, 136, 144, 151, 158, 165, 172, 180, 188, 193, 198, 203, 208, 213]) (len := 87) (off := 188) (tgt := 197) 12 c13 (by decide +kernel) (by decide +kernel) ?_
    refine gBk (pe := 201) hO [o0 (.aload_n 2), oF (.getfield 172) 10 2 426 0] (by decide +kernel) (And.intro (tGr.off hG (tGr.off hG t0 (k := 0) rfl) (k := 2) rfl) (show tWG K B 0 0 S I J 201 [some (vR 0), some (vI v1), some (vR 15)] [vI (I 15 2)] from ?_))
    exact gIret hO hQ (by decide +kernel) ⟨rfl, h⟩
  have h := h.2
  by_cases c14 : v1 = 13
  · have h := h.1 c14
    refine gSwIn hO (dflt := 221) (lo := 0) (hi := 17) (offs := #[87, 98, 109, 120, 128, 136, 144, 151, 158, 165, 172, 180, 188, 193, 198, 203, 208, 213]) (len := 87) (off := 193) (tgt := 202) 13 c14 (by decide +kernel) (by decide +kernel) ?_
    refine gBk (pe := 206) hO [o0 (.aload_n 2), oF (.getfield 270) 10 3 933 0] (by decide +kernel) (And.intro (tGr.off hG (tGr.off hG t0 (k := 0) rfl) (k := 2) rfl) (show tWG K B 0 0 S I J 206 [some (vR 0), some (vI v1), some (vR 15)] [vI (I 15 3)] from ?_))
    exact gIret hO hQ (by decide +kernel) ⟨rfl, h⟩
  have h := h.2
  by_cases c15 : v1 = 14
  · have h := h.1 c15
    refine gSwIn hO (dflt := 221) (lo := 0) (hi := 17) (offs := #[87, 98, 109, 120, 128, 136, 144, 151, 158, 165, 172, 180, 188, 193, 198, 203, 208, 213]) (len := 87) (off := 198) (tgt := 207) 14 c15 (by decide +kernel) (by decide +kernel) ?_
    refine gBk (pe := 211) hO [o0 (.aload_n 2), oF (.getfield 273) 10 1 934 0] (by decide +kernel) (And.intro (tGr.off hG (tGr.off hG t0 (k := 0) rfl) (k := 2) rfl) (show tWG K B 0 0 S I J 211 [some (vR 0), some (vI v1), some (vR 15)] [vI (I 15 1)] from ?_))
    exact gIret hO hQ (by decide +kernel) ⟨rfl, h⟩
  have h := h.2
  by_cases c16 : v1 = 15
  · have h := h.1 c16
    refine gSwIn hO (dflt := 221) (lo := 0) (hi := 17) (offs := #[87, 98, 109, 120, 128, 136, 144, 151, 158, 165, 172, 180, 188, 193, 198, 203, 208, 213]) (len := 87) (off := 203) (tgt := 212) 15 c16 (by decide +kernel) (by decide +kernel) ?_
    refine gBk (pe := 216) hO [o0 (.aload_n 2), oF (.getfield 276) 10 4 935 0] (by decide +kernel) (And.intro (tGr.off hG (tGr.off hG t0 (k := 0) rfl) (k := 2) rfl) (show tWG K B 0 0 S I J 216 [some (vR 0), some (vI v1), some (vR 15)] [vI (I 15 4)] from ?_))
    exact gIret hO hQ (by decide +kernel) ⟨rfl, h⟩
  have h := h.2
  by_cases c17 : v1 = 16
  · have h := h.1 c17
    refine gSwIn hO (dflt := 221) (lo := 0) (hi := 17) (offs := #[87, 98, 109, 120, 128, 136, 144, 151, 158, 165, 172, 180, 188, 193, 198, 203, 208, 213]) (len := 87) (off := 208) (tgt := 217) 16 c17 (by decide +kernel) (by decide +kernel) ?_
    refine gBk (pe := 221) hO [o0 (.aload_n 2), oF (.getfield 361) 10 5 1426 0] (by decide +kernel) (And.intro (tGr.off hG (tGr.off hG t0 (k := 0) rfl) (k := 2) rfl) (show tWG K B 0 0 S I J 221 [some (vR 0), some (vI v1), some (vR 15)] [vI (I 15 5)] from ?_))
    exact gIret hO hQ (by decide +kernel) ⟨rfl, h⟩
  have h := h.2
  by_cases c18 : v1 = 17
  · have h := h.1 c18
    refine gSwIn hO (dflt := 221) (lo := 0) (hi := 17) (offs := #[87, 98, 109, 120, 128, 136, 144, 151, 158, 165, 172, 180, 188, 193, 198, 203, 208, 213]) (len := 87) (off := 213) (tgt := 222) 17 c18 (by decide +kernel) (by decide +kernel) ?_
    refine gBk (pe := 229) hO [o0 (.aload_n 2), oF (.getfield 192) 10 0 530 0, oI (.bipush 9) 9, o0 .iadd] (by decide +kernel) (And.intro (tGr.off hG (tGr.off hG t0 (k := 0) rfl) (k := 2) rfl) (show tWG K B 0 0 S I J 229 [some (vR 0), some (vI v1), some (vR 15)] [vI ((I 15 0) + 9)] from ?_))
    exact gIret hO hQ (by decide +kernel) ⟨rfl, h⟩
  have h := h.2
  have hsw : swN 0 v1 18 := ⟨⟨⟨⟨⟨⟨⟨⟨⟨⟨⟨⟨⟨⟨⟨⟨⟨⟨True.intro, c1⟩, c2⟩, c3⟩, c4⟩, c5⟩, c6⟩, c7⟩, c8⟩, c9⟩, c10⟩, c11⟩, c12⟩, c13⟩, c14⟩, c15⟩, c16⟩, c17⟩, c18⟩
  have h := h hsw
  refine gSwOut hO (dflt := 221) (lo := 0) (hi := 17) (offs := #[87, 98, 109, 120, 128, 136, 144, 151, 158, 165, 172, 180, 188, 193, 198, 203, 208, 213]) (len := 87) (tgt := 230) (by decide +kernel) (sw_out (by decide) (by decide) hsw) (by decide) ?_
  refine gBk (pe := 235) hO [o0 (.iload_n 1), oI (.bipush 18) 18, oI (.bipush 20) 20] (by decide +kernel) (show tWG K B 0 0 S I J 235 [some (vR 0), some (vI v1), some (vR 15)] [vI 20, vI 18, vI v1] from ?_)
  refine gCSi_z hO (M11_within) hc11_within (idx := 106) (w := 245) (by decide +kernel) hR (by omega) (vs := [vI v1, vI 18, vI 20]) (st := []) ⟨rfl, Nat.le_of_ble_eq_true rfl, rfl⟩ (by decide +kernel) (fun z19 => ?_)
  have hj20 : ∀ (m21 : Int32), m21 = (if (V11_within v1 18 20) = 0 then (-1) else (V10_term S I J 15 (v1 - 18))) → tWG K B 0 0 S I J 253 [none, none, none] [vI m21] := by
    intro m21 em21
    subst em21
    exact gIret hO hQ (by decide +kernel) ⟨rfl, h⟩
  refine gIfEq hO (off := 14) (tgt := 252) (by decide +kernel) (by decide) (fun c22 => ?_) (fun c22 => ?_)
  · refine gBk (pe := 253) hO [oI (.iconst (-1)) (-1)] (by decide +kernel) (show tWG K B 0 0 S I J 253 [some (vR 0), some (vI v1), some (vR 15)] [vI (-1)] from ?_)
    exact gWeak (L' := [none, none, none]) trivial (hj20 _ (Eq.symm (if_pos c22)))
  · refine gBk (pe := 246) hO [o0 (.aload_n 2), o0 (.iload_n 1), oI (.bipush 18) 18, o0 .isub] (by decide +kernel) (show tWG K B 0 0 S I J 246 [some (vR 0), some (vI v1), some (vR 15)] [vI (v1 - 18), vR 15] from ?_)
    refine gCVi_p hO (M10_term (tGr.off hG (tGr.off hG t0 (k := 0) rfl) (k := 2) rfl)) hc10_term (idx := 195) (w := 543) (by decide +kernel) hR (by omega) (tGr.off hG (tGr.off hG t0 (k := 0) rfl) (k := 2) rfl) ⟨by decide, rfl⟩ (vs := [vI (v1 - 18)]) (st := []) ⟨rfl, Nat.le_of_ble_eq_true rfl, rfl⟩ (by decide +kernel) ?_
    refine gBk (pe := 253) hO [o0 (.goto 4)] (by decide +kernel) (show tWG K B 0 0 S I J 253 [some (vR 0), some (vI v1), some (vR 15)] [vI (V10_term S I J 15 (v1 - 18))] from ?_)
    exact gWeak (L' := [none, none, none]) trivial (hj20 _ (Eq.symm (if_neg c22))))
set_option maxRecDepth 100000 in
theorem W11_settle_36 {K : tK} {B : tB} {S : tSH} {MC MS : Nat} (hO : tKO K B RX11 cX11_settle 2) (hR : kR K = tRm 3 MC MS) (hG : tGr S) {n : Nat} (t0 : ty S 0 11) {k : Int32 → tHI → tHJ → Prop} (hQ : tRet K B (tQi B (tPi S k)) 0 0 (some .int)) {I : tHI} {J : tHJ} {v1 : Int32} (h : F11_settle_36 n S k I J v1) : tWG K B 0 0 S I J 36 [none, some (vI v1)] [] := by
  refine gBk (pe := 37) hO [o0 (.iload_n 1)] (by decide +kernel) (show tWG K B 0 0 S I J 37 [none, some (vI v1)] [vI v1] from ?_)
  exact gIret hO hQ (by decide +kernel) ⟨rfl, h⟩
set_option maxRecDepth 20000 in
theorem hc11_settle : tCV yX11_settle cX11_settle 2 (some .int) 1 := ⟨⟨(List.mem_of_getElem? (i := 251) rfl), (List.mem_of_getElem? (i := 2) (by decide +kernel)), by decide +kernel⟩, (List.mem_of_getElem? (i := 249) (by decide +kernel)), (List.mem_of_getElem? (i := 250) (by decide +kernel))⟩
set_option maxRecDepth 100000 in
theorem M11_settle {l : Launch} {B : tB} {S : tSH} {I : tHI} {J : tHJ} {v1 : Int32} {n : Nat} {k : Int32 → tHI → tHJ → Prop} (t0 : ty S 0 11) (h : F11_settle n S I J v1 k) : Met l yX11_settle (tWs yX11_settle cX11_settle 2 (some .int)) (tRm 3 0 0) (tPc B [vR 0, vI v1] S I J) (tQi B (tPi S k)) 0 0 (tA B) :=
  tEntry (by decide +kernel) [some (vR 0), some (vI v1)] rfl rfl (Nat.le_of_ble_eq_true rfl) (fun K hl hR hO hQ hG => by
  subst hl
  refine gBk (pe := 3) hO [o0 (.aload_n 0), oI (.iconst 0) 0, o0 (.iload_n 1)] (by decide +kernel) (show tWG K B 0 0 S I J 3 [some (vR 0), some (vI v1)] [vI v1, vI 0, vR 0] from ?_)
  refine gMin hO (idx := 292) (w := 252) (by decide +kernel) hR (by omega) (st := [vR 0]) (Nat.le_of_ble_eq_true rfl) rfl (by decide +kernel) ?_
  refine gBk (pe := 19) hO [oF (.putfield 103) 11 18 55 0, o0 (.iload_n 1), o0 .ineg, oI (.iconst 1) 1, o0 (.aload_n 0), oF (.getfield 76) 11 11 45 59, oF .arraylength 40 0 0 0, oI (.iconst 1) 1, o0 .isub] (by decide +kernel) (And.intro t0 (And.intro t0 (And.intro rfl (And.intro (tGr.off hG t0 (k := 11) rfl) (show tWG K B 0 0 S (uI I 0 18 (if v1 < 0 then v1 else 0)) J 19 [some (vR 0), some (vI v1)] [vI ((Int32.ofNat (sL S 59)) - 1), vI 1, vI (-v1)] from ?_)))))
  refine gCSi_z hO (M11_within) hc11_within (idx := 106) (w := 245) (by decide +kernel) hR (by omega) (vs := [vI (-v1), vI 1, vI ((Int32.ofNat (sL S 59)) - 1)]) (st := []) ⟨rfl, Nat.le_of_ble_eq_true rfl, rfl⟩ (by decide +kernel) (fun z1 => ?_)
  refine gIfEq hO (off := 14) (tgt := 36) (by decide +kernel) (by decide) (fun c2 => ?_) (fun c2 => ?_)
  · have h := h.1 c2
    exact gWeak (L' := [none, some (vI v1)]) ⟨rfl, trivial⟩ (W11_settle_36 hO hR hG t0 hQ h)
  · have h := h.2 c2
    refine gBk (pe := 36) hO [o0 (.aload_n 0), oF (.getfield 76) 11 11 45 59, o0 (.iload_n 1), o0 .ineg, o0 .dup2, o0 .iaload, oI (.iconst 1) 1, o0 .iadd, o0 .iastore] (by decide +kernel) (And.intro t0 (And.intro rfl (And.intro (tGr.off hG t0 (k := 11) rfl) (And.intro (tin (tGr.len hG t0 (k := 11) rfl (by decide)) h.1) (And.intro (tGr.off hG t0 (k := 11) rfl) (And.intro (tin (tGr.len hG t0 (k := 11) rfl (by decide)) h.2.1) (show tWG K B 0 0 S (uI (uI I 0 18 (if v1 < 0 then v1 else 0)) 59 (-v1).toNatClampNeg (((uI I 0 18 (if v1 < 0 then v1 else 0)) 59 (-v1).toNatClampNeg) + 1)) J 36 [some (vR 0), some (vI v1)] [] from ?_)))))))
    have h := h.2.2
    exact gWeak (L' := [none, some (vI v1)]) ⟨rfl, trivial⟩ (W11_settle_36 hO hR hG t0 hQ h))
set_option maxRecDepth 100000 in
theorem W12_load_39 {K : tK} {B : tB} {S : tSH} {MC MS : Nat} (hO : tKO K B RX12 cX12_load 5) (hR : kR K = tRm 8 MC MS) (hG : tGr S) {n : Nat} (t0 : ty S 61 12) {k : Int32 → tHI → tHJ → Prop} (hQ : tRet K B (tQi B (tPi S k)) 0 0 (some .int)) {I : tHI} {J : tHJ} (h : F12_load_39 n S k I J) : tWG K B 0 0 S I J 39 [some (vR 61), none, none, none, none] [] := by
  refine gBk (pe := 41) hO [o0 (.aload_n 0), oI (.iconst (-1)) (-1)] (by decide +kernel) (show tWG K B 0 0 S I J 41 [some (vR 61), none, none, none, none] [vI (-1), vR 61] from ?_)
  refine gCVi_c hO (M12_tell t0 h) hc12_tell (idx := 170) (w := 322) (by decide +kernel) hR (by omega) t0 ⟨by decide, rfl⟩ (vs := [vI (-1)]) (st := []) ⟨rfl, Nat.le_of_ble_eq_true rfl, rfl⟩ (by decide +kernel) (fun x5 I3 J4 h => ?_)
  exact gIret hO hQ (by decide +kernel) ⟨rfl, h⟩
set_option maxRecDepth 20000 in
theorem hc12_load : tCV yX12_load cX12_load 5 (some .int) 3 := ⟨⟨(List.mem_of_getElem? (i := 315) rfl), (List.mem_of_getElem? (i := 5) (by decide +kernel)), by decide +kernel⟩, (List.mem_of_getElem? (i := 313) (by decide +kernel)), (List.mem_of_getElem? (i := 314) (by decide +kernel))⟩
set_option maxRecDepth 100000 in
theorem M12_load {l : Launch} {B : tB} {S : tSH} {I : tHI} {J : tHJ} {v1 : Int32} {v2 : Int32} {v3 : Int32} {n : Nat} {k : Int32 → tHI → tHJ → Prop} (t0 : ty S 61 12) (h : F12_load n S I J v1 v2 v3 k) : Met l yX12_load (tWs yX12_load cX12_load 5 (some .int)) (tRm 8 0 0) (tPc B [vR 61, vI v1, vI v2, vI v3] S I J) (tQi B (tPi S k)) 0 0 (tA B) :=
  tEntry (by decide +kernel) [some (vR 61), some (vI v1), some (vI v2), some (vI v3), none] rfl rfl (Nat.le_of_ble_eq_true rfl) (fun K hl hR hO hQ hG => by
  subst hl
  refine gBk (pe := 8) hO [o0 (.aload_n 0), oI (.iconst 0) 0, oF (.putfield 161) 12 0 316 0, o0 (.iload_n 1), o0 .i2l, oJ (.lconst 0) 0 0] (by decide +kernel) (And.intro t0 (show tWG K B 0 0 S (uI I 61 0 0) J 8 [some (vR 61), some (vI v1), some (vI v2), some (vI v3), none] [vL 0, vL v1.toInt64] from ?_))
  refine gBk (pe := 11) hO [(.ldc2_w 188, (0, 0, 317, 0), 0, 200)] (by decide +kernel) (show tWG K B 0 0 S (uI I 61 0 0) J 11 [some (vR 61), some (vI v1), some (vI v2), some (vI v3), none] [vL 200, vL 0, vL v1.toInt64] from ?_)
  refine gCSi_z hO (M12_in) hc12_in (idx := 181) (w := 319) (by decide +kernel) hR (by omega) (vs := [vL v1.toInt64, vL 0, vL 200]) (st := []) ⟨rfl, Nat.le_of_ble_eq_true rfl, rfl⟩ (by decide +kernel) (fun z1 => ?_)
  refine gIfEq hO (off := 25) (tgt := 39) (by decide +kernel) (by decide) (fun c2 => ?_) (fun c2 => ?_)
  · have h := h.1 c2
    exact gWeak (L' := [some (vR 61), none, none, none, none]) ⟨rfl, trivial⟩ (W12_load_39 hO hR hG t0 hQ h)
  · have h := h.2 c2
    refine gBk (pe := 20) hO [o0 (.iload_n 2), o0 .i2l, oJ (.lconst 0) 0 0] (by decide +kernel) (show tWG K B 0 0 S (uI I 61 0 0) J 20 [some (vR 61), some (vI v1), some (vI v2), some (vI v3), none] [vL 0, vL v2.toInt64] from ?_)
    refine gBk (pe := 23) hO [(.ldc2_w 190, (0, 0, 318, 0), 0, 3)] (by decide +kernel) (show tWG K B 0 0 S (uI I 61 0 0) J 23 [some (vR 61), some (vI v1), some (vI v2), some (vI v3), none] [vL 3, vL 0, vL v2.toInt64] from ?_)
    refine gCSi_z hO (M12_in) hc12_in (idx := 181) (w := 319) (by decide +kernel) hR (by omega) (vs := [vL v2.toInt64, vL 0, vL 3]) (st := []) ⟨rfl, Nat.le_of_ble_eq_true rfl, rfl⟩ (by decide +kernel) (fun z6 => ?_)
    refine gIfEq hO (off := 13) (tgt := 39) (by decide +kernel) (by decide) (fun c7 => ?_) (fun c7 => ?_)
    · have h := h.1 c7
      exact gWeak (L' := [some (vR 61), none, none, none, none]) ⟨rfl, trivial⟩ (W12_load_39 hO hR hG t0 hQ h)
    · have h := h.2 c7
      refine gBk (pe := 33) hO [o0 (.iload_n 3), o0 .i2l, oJ (.lconst 0) 0 0, oJ (.lconst 1) 0 1] (by decide +kernel) (show tWG K B 0 0 S (uI I 61 0 0) J 33 [some (vR 61), some (vI v1), some (vI v2), some (vI v3), none] [vL 1, vL 0, vL v3.toInt64] from ?_)
      refine gCSi_z hO (M12_in) hc12_in (idx := 181) (w := 319) (by decide +kernel) hR (by omega) (vs := [vL v3.toInt64, vL 0, vL 1]) (st := []) ⟨rfl, Nat.le_of_ble_eq_true rfl, rfl⟩ (by decide +kernel) (fun z8 => ?_)
      refine gIfNe hO (off := 9) (tgt := 45) (by decide +kernel) (by decide) (fun c9 => ?_) (fun c9 => ?_)
      · have h := h.1 c9
        refine gBk (pe := 49) hO [o0 (.aload_n 0), o0 (.iload_n 1), o0 (.iload_n 3), o0 (.iload_n 2)] (by decide +kernel) (show tWG K B 0 0 S (uI I 61 0 0) J 49 [some (vR 61), some (vI v1), some (vI v2), some (vI v3), none] [vI v2, vI v3, vI v1, vR 61] from ?_)
        refine gCVi_b hO (M12_isBannedBy t0 h) hc12_isBannedBy (idx := 192) (w := 327) (by decide +kernel) hR (by omega) t0 ⟨by decide, rfl⟩ (vs := [vI v1, vI v3, vI v2]) (st := []) ⟨rfl, Nat.le_of_ble_eq_true rfl, rfl⟩ (by decide +kernel) (fun x12 I10 J11 z13 h => ?_)
        have h := h z13
        refine gIfEq hO (off := 10) (tgt := 62) (by decide +kernel) (by decide) (fun c14 => ?_) (fun c14 => ?_)
        · have h := h.1 c14
          refine gBk (pe := 74) hO [o0 (.aload_n 0), oF (.getfield 13) 12 3 179 63, oI (.iconst 0) 0, o0 .iaload, o0 (.istore 4), o0 (.iload 4), oI (.bipush 6) 6] (by decide +kernel) (And.intro t0 (And.intro rfl (And.intro (tGr.off hG t0 (k := 3) rfl) (And.intro (tin (tGr.len hG t0 (k := 3) rfl (by decide)) (tvi (by decide +kernel))) (And.intro (Nat.le_of_ble_eq_true rfl) (show tWG K B 0 0 S I10 J11 74 [some (vR 61), some (vI v1), some (vI v2), some (vI v3), some (vI (I10 63 0))] [vI 6, vI (I10 63 0)] from ?_))))))
          refine gIcNe hO (off := 10) (tgt := 84) (by decide +kernel) (by decide) (fun c15 => ?_) (fun c15 => ?_)
          · have h := h.1 c15
            refine gBk (pe := 141) hO [o0 (.aload_n 0), oF (.getfield 13) 12 3 179 63, oI (.bipush 26) 26, o0 (.iload 4), o0 .iadd, o0 (.iload_n 1), o0 .iastore, o0 (.aload_n 0), oF (.getfield 13) 12 3 179 63, oI (.bipush 32) 32, o0 (.iload 4), o0 .iadd, o0 (.iload_n 3), o0 .iastore, o0 (.aload_n 0), oF (.getfield 13) 12 3 179 63, oI (.bipush 14) 14, o0 (.iload 4), o0 .iadd, o0 (.iload_n 2), o0 .iastore, o0 (.aload_n 0), oF (.getfield 13) 12 3 179 63, oI (.bipush 20) 20, o0 (.iload 4), o0 .iadd, oI (.iconst 0) 0, o0 .iastore, o0 (.aload_n 0), oF (.getfield 13) 12 3 179 63, oI (.iconst 0) 0, o0 .dup2, o0 .iaload, oI (.iconst 1) 1, o0 .iadd, o0 .iastore, o0 (.aload_n 0), o0 (.iload 4)] (by decide +kernel) (And.intro t0 (And.intro rfl (And.intro (tGr.off hG t0 (k := 3) rfl) (And.intro (tin (tGr.len hG t0 (k := 3) rfl (by decide)) h.1) (And.intro t0 (And.intro rfl (And.intro (tGr.off hG t0 (k := 3) rfl) (And.intro (tin (tGr.len hG t0 (k := 3) rfl (by decide)) h.2.1) (And.intro t0 (And.intro rfl (And.intro (tGr.off hG t0 (k := 3) rfl) (And.intro (tin (tGr.len hG t0 (k := 3) rfl (by decide)) h.2.2.1) (And.intro t0 (And.intro rfl (And.intro (tGr.off hG t0 (k := 3) rfl) (And.intro (tin (tGr.len hG t0 (k := 3) rfl (by decide)) h.2.2.2.1) (And.intro t0 (And.intro rfl (And.intro (tGr.off hG t0 (k := 3) rfl) (And.intro (tin (tGr.len hG t0 (k := 3) rfl (by decide)) (tvi (by decide +kernel))) (And.intro (tGr.off hG t0 (k := 3) rfl) (And.intro (tin (tGr.len hG t0 (k := 3) rfl (by decide)) (tvi (by decide +kernel))) (show tWG K B 0 0 S (uI (uI (uI (uI (uI I10 63 (26 + (I10 63 0)).toNatClampNeg v1) 63 (32 + (I10 63 0)).toNatClampNeg v3) 63 (14 + (I10 63 0)).toNatClampNeg v2) 63 (20 + (I10 63 0)).toNatClampNeg 0) 63 0 (((uI (uI (uI (uI I10 63 (26 + (I10 63 0)).toNatClampNeg v1) 63 (32 + (I10 63 0)).toNatClampNeg v3) 63 (14 + (I10 63 0)).toNatClampNeg v2) 63 (20 + (I10 63 0)).toNatClampNeg 0) 63 0) + 1)) J11 141 [some (vR 61), some (vI v1), some (vI v2), some (vI v3), some (vI (I10 63 0))] [vI (I10 63 0), vR 61] from ?_)))))))))))))))))))))))
            have h := h.2.2.2.2
            refine gCVi_c hO (M12_settled t0 h) hc12_settled (idx := 185) (w := 368) (by decide +kernel) hR (by omega) t0 ⟨by decide, rfl⟩ (vs := [vI (I10 63 0)]) (st := []) ⟨rfl, Nat.le_of_ble_eq_true rfl, rfl⟩ (by decide +kernel) (fun x18 I16 J17 h => ?_)
            exact gIret hO hQ (by decide +kernel) ⟨rfl, h⟩
          · have h := h.2 c15
            refine gBk (pe := 80) hO [o0 (.aload_n 0), oI (.bipush (-5)) (-5)] (by decide +kernel) (show tWG K B 0 0 S I10 J11 80 [some (vR 61), some (vI v1), some (vI v2), some (vI v3), some (vI (I10 63 0))] [vI (-5), vR 61] from ?_)
            refine gCVi_c hO (M12_tell t0 h) hc12_tell (idx := 170) (w := 322) (by decide +kernel) hR (by omega) t0 ⟨by decide, rfl⟩ (vs := [vI (-5)]) (st := []) ⟨rfl, Nat.le_of_ble_eq_true rfl, rfl⟩ (by decide +kernel) (fun x21 I19 J20 h => ?_)
            exact gIret hO hQ (by decide +kernel) ⟨rfl, h⟩
        · have h := h.2 c14
          refine gBk (pe := 58) hO [o0 (.aload_n 0), oI (.bipush (-3)) (-3)] (by decide +kernel) (show tWG K B 0 0 S I10 J11 58 [some (vR 61), some (vI v1), some (vI v2), some (vI v3), none] [vI (-3), vR 61] from ?_)
          refine gCVi_c hO (M12_tell t0 h) hc12_tell (idx := 170) (w := 322) (by decide +kernel) hR (by omega) t0 ⟨by decide, rfl⟩ (vs := [vI (-3)]) (st := []) ⟨rfl, Nat.le_of_ble_eq_true rfl, rfl⟩ (by decide +kernel) (fun x24 I22 J23 h => ?_)
          exact gIret hO hQ (by decide +kernel) ⟨rfl, h⟩
      · have h := h.2 c9
        exact gWeak (L' := [some (vR 61), none, none, none, none]) ⟨rfl, trivial⟩ (W12_load_39 hO hR hG t0 hQ h))
