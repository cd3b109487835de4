set_option maxRecDepth 100000 in
theorem W1_takeBack_26 {K : tK} {B : tB} {S : tSH} {MC MS : Nat} (hO : tKO K B RX1 cX1_takeBack 5) (hR : kR K = tRm 3 MC MS) (hG : tGr S) {n : Nat} {a : Nat} (t0 : ty S a 1) {k : Int32 → tHI → tHJ → Prop} (hQ : tRet K B (tQi B (tPi S k)) 0 0 (some .int)) {I : tHI} {J : tHJ} (h : F1_takeBack_26 n S a k I J) : tWG K B 0 0 S I J 26 [none, none, none, none, none] [] := by
  refine gBk (pe := 28) hO [oI (.bipush (-3)) (-3)] (by decide +kernel) (show tWG K B 0 0 S I J 28 [none, none, none, none, none] [vI (-3)] from ?_)
  exact gIret hO hQ (by decide +kernel) ⟨rfl, h⟩
set_option maxRecDepth 100000 in
theorem W1_takeBack_165 {K : tK} {B : tB} {S : tSH} {MC MS : Nat} (hO : tKO K B RX1 cX1_takeBack 5) (hR : kR K = tRm 3 MC MS) (hG : tGr S) {n : Nat} {a : Nat} (t0 : ty S a 1) {k : Int32 → tHI → tHJ → Prop} (hQ : tRet K B (tQi B (tPi S k)) 0 0 (some .int)) {I : tHI} {J : tHJ} {v2 : Int32} (h : F1_takeBack_165 n S a k I J v2) : tWG K B 0 0 S I J 165 [some (vR a), none, some (vI v2), none, none] [] := by
  refine gBk (pe := 171) hO [o0 (.aload_n 0), oF (.getfield 11) 1 0 108 0, o0 (.iload_n 2), o0 .iaload] (by decide +kernel) (And.intro t0 (And.intro (tGr.off hG t0 (k := 0) rfl) (And.intro (tin (tGr.len hG t0 (k := 0) rfl (by decide)) h.1) (show tWG K B 0 0 S I J 171 [some (vR a), none, some (vI v2), none, none] [vI (I (a + 1) v2.toNatClampNeg)] from ?_))))
  have h := h.2
  exact gIret hO hQ (by decide +kernel) ⟨rfl, h⟩
set_option maxRecDepth 20000 in
theorem hc1_takeBack : tCV yX1_takeBack cX1_takeBack 5 (some .int) 1 := ⟨⟨(List.mem_of_getElem? (i := 1151) rfl), (List.mem_of_getElem? (i := 20) (by decide +kernel)), by decide +kernel⟩, (List.mem_of_getElem? (i := 1149) (by decide +kernel)), (List.mem_of_getElem? (i := 1150) (by decide +kernel))⟩
set_option maxRecDepth 100000 in
theorem M1_takeBack {l : Launch} {B : tB} {S : tSH} {I : tHI} {J : tHJ} {a : Nat} {a1 : Nat} {n : Nat} {k : Int32 → tHI → tHJ → Prop} (t0 : ty S a 1) (t1 : ty S a1 8) (h : F1_takeBack n S I J a a1 k) : Met l yX1_takeBack (tWs yX1_takeBack cX1_takeBack 5 (some .int)) (tRm 3 0 0) (tPc B [vR a, vR a1] S I J) (tQi B (tPi S k)) 0 0 (tA B) :=
  tEntry (by decide +kernel) [some (vR a), some (vR a1), none, none, none] rfl rfl (Nat.le_of_ble_eq_true rfl) (fun K hl hR hO hQ hG => by
  subst hl
  refine gBk (pe := 11) hO [o0 (.aload_n 0), oF (.getfield 15) 1 1 109 0, oI (.iconst 1) 1, o0 .isub, oI (.bipush 9) 9, o0 .imul, o0 (.istore_n 2), o0 (.iload_n 2)] (by decide +kernel) (And.intro t0 (And.intro (Nat.le_of_ble_eq_true rfl) (show tWG K B 0 0 S I J 11 [some (vR a), some (vR a1), some (vI (((I a 1) - 1) * 9)), none, none] [vI (((I a 1) - 1) * 9)] from ?_)))
  refine gIfLt hO (off := 15) (tgt := 26) (by decide +kernel) (by decide) (fun c1 => ?_) (fun c1 => ?_)
  · have h := h.1 c1
    exact gWeak (L' := [none, none, none, none, none]) trivial (W1_takeBack_26 hO hR hG t0 hQ h)
  · have h := h.2 c1
    refine gBk (pe := 23) hO [o0 (.iload_n 2), oI (.bipush 9) 9, o0 .iadd, o0 (.aload_n 0), oF (.getfield 11) 1 0 108 0, oF .arraylength 40 0 0 0] (by decide +kernel) (And.intro t0 (And.intro (tGr.off hG t0 (k := 0) rfl) (show tWG K B 0 0 S I J 23 [some (vR a), some (vR a1), some (vI (((I a 1) - 1) * 9)), none, none] [vI (Int32.ofNat (sL S (a + 1))), vI ((((I a 1) - 1) * 9) + 9)] from ?_)))
    refine gIcLe hO (off := 6) (tgt := 29) (by decide +kernel) (by decide) (fun c2 => ?_) (fun c2 => ?_)
    · have h := h.1 c2
      refine gBk (pe := 121) hO [o0 (.aload_n 0), o0 .dup, oF (.getfield 15) 1 1 109 0, oI (.iconst 1) 1, o0 .isub, oF (.putfield 15) 1 1 109 0, o0 (.aload_n 1), oF (.getfield 25) 8 2 956 0, o0 (.astore_n 3), o0 (.aload_n 3), o0 (.aload_n 0), oF (.getfield 11) 1 0 108 0, o0 (.iload_n 2), oI (.iconst 1) 1, o0 .iadd, o0 .iaload, oF (.putfield 41) 10 2 958 0, o0 (.aload_n 3), o0 (.aload_n 0), oF (.getfield 11) 1 0 108 0, o0 (.iload_n 2), oI (.iconst 2) 2, o0 .iadd, o0 .iaload, oF (.putfield 46) 10 3 959 0, o0 (.aload_n 3), o0 (.aload_n 0), oF (.getfield 11) 1 0 108 0, o0 (.iload_n 2), oI (.iconst 3) 3, o0 .iadd, o0 .iaload, oF (.putfield 49) 10 1 960 0, o0 (.aload_n 3), o0 (.aload_n 0), oF (.getfield 11) 1 0 108 0, o0 (.iload_n 2), oI (.iconst 4) 4, o0 .iadd, o0 .iaload, oF (.putfield 52) 10 4 961 0, o0 (.aload_n 3), o0 (.aload_n 0), oF (.getfield 11) 1 0 108 0, o0 (.iload_n 2), oI (.iconst 5) 5, o0 .iadd, o0 .iaload, oF (.putfield 55) 10 5 962 0, o0 (.aload_n 0), oF (.getfield 11) 1 0 108 0, o0 (.iload_n 2), oI (.bipush 6) 6, o0 .iadd, o0 .iaload, o0 (.istore 4), o0 (.aload_n 1), oF (.getfield 31) 8 0 957 0, o0 (.iload 4)] (by decide +kernel) (And.intro t0 (And.intro t0 (And.intro t1 (And.intro (Nat.le_of_ble_eq_true rfl) (And.intro t0 (And.intro (tGr.off hG t0 (k := 0) rfl) (And.intro (tin (tGr.len hG t0 (k := 0) rfl (by decide)) h.1) (And.intro (tGr.off hG t1 (k := 2) rfl) (And.intro t0 (And.intro (tGr.off hG t0 (k := 0) rfl) (And.intro (tin (tGr.len hG t0 (k := 0) rfl (by decide)) h.2.1) (And.intro (tGr.off hG t1 (k := 2) rfl) (And.intro t0 (And.intro (tGr.off hG t0 (k := 0) rfl) (And.intro (tin (tGr.len hG t0 (k := 0) rfl (by decide)) h.2.2.1) (And.intro (tGr.off hG t1 (k := 2) rfl) (And.intro t0 (And.intro (tGr.off hG t0 (k := 0) rfl) (And.intro (tin (tGr.len hG t0 (k := 0) rfl (by decide)) h.2.2.2.1) (And.intro (tGr.off hG t1 (k := 2) rfl) (And.intro t0 (And.intro (tGr.off hG t0 (k := 0) rfl) (And.intro (tin (tGr.len hG t0 (k := 0) rfl (by decide)) h.2.2.2.2.1) (And.intro (tGr.off hG t1 (k := 2) rfl) (And.intro t0 (And.intro (tGr.off hG t0 (k := 0) rfl) (And.intro (tin (tGr.len hG t0 (k := 0) rfl (by decide)) h.2.2.2.2.2.1) (And.intro (Nat.le_of_ble_eq_true rfl) (And.intro t1 (show tWG K B 0 0 S (uI (uI (uI (uI (uI (uI I a 1 ((I a 1) - 1)) (a1 + 14) 2 ((uI I a 1 ((I a 1) - 1)) (a + 1) ((((I a 1) - 1) * 9) + 1).toNatClampNeg)) (a1 + 14) 3 ((uI (uI I a 1 ((I a 1) - 1)) (a1 + 14) 2 ((uI I a 1 ((I a 1) - 1)) (a + 1) ((((I a 1) - 1) * 9) + 1).toNatClampNeg)) (a + 1) ((((I a 1) - 1) * 9) + 2).toNatClampNeg)) (a1 + 14) 1 ((uI (uI (uI I a 1 ((I a 1) - 1)) (a1 + 14) 2 ((uI I a 1 ((I a 1) - 1)) (a + 1) ((((I a 1) - 1) * 9) + 1).toNatClampNeg)) (a1 + 14) 3 ((uI (uI I a 1 ((I a 1) - 1)) (a1 + 14) 2 ((uI I a 1 ((I a 1) - 1)) (a + 1) ((((I a 1) - 1) * 9) + 1).toNatClampNeg)) (a + 1) ((((I a 1) - 1) * 9) + 2).toNatClampNeg)) (a + 1) ((((I a 1) - 1) * 9) + 3).toNatClampNeg)) (a1 + 14) 4 ((uI (uI (uI (uI I a 1 ((I a 1) - 1)) (a1 + 14) 2 ((uI I a 1 ((I a 1) - 1)) (a + 1) ((((I a 1) - 1) * 9) + 1).toNatClampNeg)) (a1 + 14) 3 ((uI (uI I a 1 ((I a 1) - 1)) (a1 + 14) 2 ((uI I a 1 ((I a 1) - 1)) (a + 1) ((((I a 1) - 1) * 9) + 1).toNatClampNeg)) (a + 1) ((((I a 1) - 1) * 9) + 2).toNatClampNeg)) (a1 + 14) 1 ((uI (uI (uI I a 1 ((I a 1) - 1)) (a1 + 14) 2 ((uI I a 1 ((I a 1) - 1)) (a + 1) ((((I a 1) - 1) * 9) + 1).toNatClampNeg)) (a1 + 14) 3 ((uI (uI I a 1 ((I a 1) - 1)) (a1 + 14) 2 ((uI I a 1 ((I a 1) - 1)) (a + 1) ((((I a 1) - 1) * 9) + 1).toNatClampNeg)) (a + 1) ((((I a 1) - 1) * 9) + 2).toNatClampNeg)) (a + 1) ((((I a 1) - 1) * 9) + 3).toNatClampNeg)) (a + 1) ((((I a 1) - 1) * 9) + 4).toNatClampNeg)) (a1 + 14) 5 ((uI (uI (uI (uI (uI I a 1 ((I a 1) - 1)) (a1 + 14) 2 ((uI I a 1 ((I a 1) - 1)) (a + 1) ((((I a 1) - 1) * 9) + 1).toNatClampNeg)) (a1 + 14) 3 ((uI (uI I a 1 ((I a 1) - 1)) (a1 + 14) 2 ((uI I a 1 ((I a 1) - 1)) (a + 1) ((((I a 1) - 1) * 9) + 1).toNatClampNeg)) (a + 1) ((((I a 1) - 1) * 9) + 2).toNatClampNeg)) (a1 + 14) 1 ((uI (uI (uI I a 1 ((I a 1) - 1)) (a1 + 14) 2 ((uI I a 1 ((I a 1) - 1)) (a + 1) ((((I a 1) - 1) * 9) + 1).toNatClampNeg)) (a1 + 14) 3 ((uI (uI I a 1 ((I a 1) - 1)) (a1 + 14) 2 ((uI I a 1 ((I a 1) - 1)) (a + 1) ((((I a 1) - 1) * 9) + 1).toNatClampNeg)) (a + 1) ((((I a 1) - 1) * 9) + 2).toNatClampNeg)) (a + 1) ((((I a 1) - 1) * 9) + 3).toNatClampNeg)) (a1 + 14) 4 ((uI (uI (uI (uI I a 1 ((I a 1) - 1)) (a1 + 14) 2 ((uI I a 1 ((I a 1) - 1)) (a + 1) ((((I a 1) - 1) * 9) + 1).toNatClampNeg)) (a1 + 14) 3 ((uI (uI I a 1 ((I a 1) - 1)) (a1 + 14) 2 ((uI I a 1 ((I a 1) - 1)) (a + 1) ((((I a 1) - 1) * 9) + 1).toNatClampNeg)) (a + 1) ((((I a 1) - 1) * 9) + 2).toNatClampNeg)) (a1 + 14) 1 ((uI (uI (uI I a 1 ((I a 1) - 1)) (a1 + 14) 2 ((uI I a 1 ((I a 1) - 1)) (a + 1) ((((I a 1) - 1) * 9) + 1).toNatClampNeg)) (a1 + 14) 3 ((uI (uI I a 1 ((I a 1) - 1)) (a1 + 14) 2 ((uI I a 1 ((I a 1) - 1)) (a + 1) ((((I a 1) - 1) * 9) + 1).toNatClampNeg)) (a + 1) ((((I a 1) - 1) * 9) + 2).toNatClampNeg)) (a + 1) ((((I a 1) - 1) * 9) + 3).toNatClampNeg)) (a + 1) ((((I a 1) - 1) * 9) + 4).toNatClampNeg)) (a + 1) ((((I a 1) - 1) * 9) + 5).toNatClampNeg)) J 121 [some (vR a), some (vR a1), some (vI (((I a 1) - 1) * 9)), some (vR (a1 + 14)), some (vI ((uI (uI (uI (uI (uI (uI I a 1 ((I a 1) - 1)) (a1 + 14) 2 ((uI I a 1 ((I a 1) - 1)) (a + 1) ((((I a 1) - 1) * 9) + 1).toNatClampNeg)) (a1 + 14) 3 ((uI (uI I a 1 ((I a 1) - 1)) (a1 + 14) 2 ((uI I a 1 ((I a 1) - 1)) (a + 1) ((((I a 1) - 1) * 9) + 1).toNatClampNeg)) (a + 1) ((((I a 1) - 1) * 9) + 2).toNatClampNeg)) (a1 + 14) 1 ((uI (uI (uI I a 1 ((I a 1) - 1)) (a1 + 14) 2 ((uI I a 1 ((I a 1) - 1)) (a + 1) ((((I a 1) - 1) * 9) + 1).toNatClampNeg)) (a1 + 14) 3 ((uI (uI I a 1 ((I a 1) - 1)) (a1 + 14) 2 ((uI I a 1 ((I a 1) - 1)) (a + 1) ((((I a 1) - 1) * 9) + 1).toNatClampNeg)) (a + 1) ((((I a 1) - 1) * 9) + 2).toNatClampNeg)) (a + 1) ((((I a 1) - 1) * 9) + 3).toNatClampNeg)) (a1 + 14) 4 ((uI (uI (uI (uI I a 1 ((I a 1) - 1)) (a1 + 14) 2 ((uI I a 1 ((I a 1) - 1)) (a + 1) ((((I a 1) - 1) * 9) + 1).toNatClampNeg)) (a1 + 14) 3 ((uI (uI I a 1 ((I a 1) - 1)) (a1 + 14) 2 ((uI I a 1 ((I a 1) - 1)) (a + 1) ((((I a 1) - 1) * 9) + 1).toNatClampNeg)) (a + 1) ((((I a 1) - 1) * 9) + 2).toNatClampNeg)) (a1 + 14) 1 ((uI (uI (uI I a 1 ((I a 1) - 1)) (a1 + 14) 2 ((uI I a 1 ((I a 1) - 1)) (a + 1) ((((I a 1) - 1) * 9) + 1).toNatClampNeg)) (a1 + 14) 3 ((uI (uI I a 1 ((I a 1) - 1)) (a1 + 14) 2 ((uI I a 1 ((I a 1) - 1)) (a + 1) ((((I a 1) - 1) * 9) + 1).toNatClampNeg)) (a + 1) ((((I a 1) - 1) * 9) + 2).toNatClampNeg)) (a + 1) ((((I a 1) - 1) * 9) + 3).toNatClampNeg)) (a + 1) ((((I a 1) - 1) * 9) + 4).toNatClampNeg)) (a1 + 14) 5 ((uI (uI (uI (uI (uI I a 1 ((I a 1) - 1)) (a1 + 14) 2 ((uI I a 1 ((I a 1) - 1)) (a + 1) ((((I a 1) - 1) * 9) + 1).toNatClampNeg)) (a1 + 14) 3 ((uI (uI I a 1 ((I a 1) - 1)) (a1 + 14) 2 ((uI I a 1 ((I a 1) - 1)) (a + 1) ((((I a 1) - 1) * 9) + 1).toNatClampNeg)) (a + 1) ((((I a 1) - 1) * 9) + 2).toNatClampNeg)) (a1 + 14) 1 ((uI (uI (uI I a 1 ((I a 1) - 1)) (a1 + 14) 2 ((uI I a 1 ((I a 1) - 1)) (a + 1) ((((I a 1) - 1) * 9) + 1).toNatClampNeg)) (a1 + 14) 3 ((uI (uI I a 1 ((I a 1) - 1)) (a1 + 14) 2 ((uI I a 1 ((I a 1) - 1)) (a + 1) ((((I a 1) - 1) * 9) + 1).toNatClampNeg)) (a + 1) ((((I a 1) - 1) * 9) + 2).toNatClampNeg)) (a + 1) ((((I a 1) - 1) * 9) + 3).toNatClampNeg)) (a1 + 14) 4 ((uI (uI (uI (uI I a 1 ((I a 1) - 1)) (a1 + 14) 2 ((uI I a 1 ((I a 1) - 1)) (a + 1) ((((I a 1) - 1) * 9) + 1).toNatClampNeg)) (a1 + 14) 3 ((uI (uI I a 1 ((I a 1) - 1)) (a1 + 14) 2 ((uI I a 1 ((I a 1) - 1)) (a + 1) ((((I a 1) - 1) * 9) + 1).toNatClampNeg)) (a + 1) ((((I a 1) - 1) * 9) + 2).toNatClampNeg)) (a1 + 14) 1 ((uI (uI (uI I a 1 ((I a 1) - 1)) (a1 + 14) 2 ((uI I a 1 ((I a 1) - 1)) (a + 1) ((((I a 1) - 1) * 9) + 1).toNatClampNeg)) (a1 + 14) 3 ((uI (uI I a 1 ((I a 1) - 1)) (a1 + 14) 2 ((uI I a 1 ((I a 1) - 1)) (a + 1) ((((I a 1) - 1) * 9) + 1).toNatClampNeg)) (a + 1) ((((I a 1) - 1) * 9) + 2).toNatClampNeg)) (a + 1) ((((I a 1) - 1) * 9) + 3).toNatClampNeg)) (a + 1) ((((I a 1) - 1) * 9) + 4).toNatClampNeg)) (a + 1) ((((I a 1) - 1) * 9) + 5).toNatClampNeg)) (a + 1) ((((I a 1) - 1) * 9) + 6).toNatClampNeg))] [vI ((uI (uI (uI (uI (uI (uI I a 1 ((I a 1) - 1)) (a1 + 14) 2 ((uI I a 1 ((I a 1) - 1)) (a + 1) ((((I a 1) - 1) * 9) + 1).toNatClampNeg)) (a1 + 14) 3 ((uI (uI I a 1 ((I a 1) - 1)) (a1 + 14) 2 ((uI I a 1 ((I a 1) - 1)) (a + 1) ((((I a 1) - 1) * 9) + 1).toNatClampNeg)) (a + 1) ((((I a 1) - 1) * 9) + 2).toNatClampNeg)) (a1 + 14) 1 ((uI (uI (uI I a 1 ((I a 1) - 1)) (a1 + 14) 2 ((uI I a 1 ((I a 1) - 1)) (a + 1) ((((I a 1) - 1) * 9) + 1).toNatClampNeg)) (a1 + 14) 3 ((uI (uI I a 1 ((I a 1) - 1)) (a1 + 14) 2 ((uI I a 1 ((I a 1) - 1)) (a + 1) ((((I a 1) - 1) * 9) + 1).toNatClampNeg)) (a + 1) ((((I a 1) - 1) * 9) + 2).toNatClampNeg)) (a + 1) ((((I a 1) - 1) * 9) + 3).toNatClampNeg)) (a1 + 14) 4 ((uI (uI (uI (uI I a 1 ((I a 1) - 1)) (a1 + 14) 2 ((uI I a 1 ((I a 1) - 1)) (a + 1) ((((I a 1) - 1) * 9) + 1).toNatClampNeg)) (a1 + 14) 3 ((uI (uI I a 1 ((I a 1) - 1)) (a1 + 14) 2 ((uI I a 1 ((I a 1) - 1)) (a + 1) ((((I a 1) - 1) * 9) + 1).toNatClampNeg)) (a + 1) ((((I a 1) - 1) * 9) + 2).toNatClampNeg)) (a1 + 14) 1 ((uI (uI (uI I a 1 ((I a 1) - 1)) (a1 + 14) 2 ((uI I a 1 ((I a 1) - 1)) (a + 1) ((((I a 1) - 1) * 9) + 1).toNatClampNeg)) (a1 + 14) 3 ((uI (uI I a 1 ((I a 1) - 1)) (a1 + 14) 2 ((uI I a 1 ((I a 1) - 1)) (a + 1) ((((I a 1) - 1) * 9) + 1).toNatClampNeg)) (a + 1) ((((I a 1) - 1) * 9) + 2).toNatClampNeg)) (a + 1) ((((I a 1) - 1) * 9) + 3).toNatClampNeg)) (a + 1) ((((I a 1) - 1) * 9) + 4).toNatClampNeg)) (a1 + 14) 5 ((uI (uI (uI (uI (uI I a 1 ((I a 1) - 1)) (a1 + 14) 2 ((uI I a 1 ((I a 1) - 1)) (a + 1) ((((I a 1) - 1) * 9) + 1).toNatClampNeg)) (a1 + 14) 3 ((uI (uI I a 1 ((I a 1) - 1)) (a1 + 14) 2 ((uI I a 1 ((I a 1) - 1)) (a + 1) ((((I a 1) - 1) * 9) + 1).toNatClampNeg)) (a + 1) ((((I a 1) - 1) * 9) + 2).toNatClampNeg)) (a1 + 14) 1 ((uI (uI (uI I a 1 ((I a 1) - 1)) (a1 + 14) 2 ((uI I a 1 ((I a 1) - 1)) (a + 1) ((((I a 1) - 1) * 9) + 1).toNatClampNeg)) (a1 + 14) 3 ((uI (uI I a 1 ((I a 1) - 1)) (a1 + 14) 2 ((uI I a 1 ((I a 1) - 1)) (a + 1) ((((I a 1) - 1) * 9) + 1).toNatClampNeg)) (a + 1) ((((I a 1) - 1) * 9) + 2).toNatClampNeg)) (a + 1) ((((I a 1) - 1) * 9) + 3).toNatClampNeg)) (a1 + 14) 4 ((uI (uI (uI (uI I a 1 ((I a 1) - 1)) (a1 + 14) 2 ((uI I a 1 ((I a 1) - 1)) (a + 1) ((((I a 1) - 1) * 9) + 1).toNatClampNeg)) (a1 + 14) 3 ((uI (uI I a 1 ((I a 1) - 1)) (a1 + 14) 2 ((uI I a 1 ((I a 1) - 1)) (a + 1) ((((I a 1) - 1) * 9) + 1).toNatClampNeg)) (a + 1) ((((I a 1) - 1) * 9) + 2).toNatClampNeg)) (a1 + 14) 1 ((uI (uI (uI I a 1 ((I a 1) - 1)) (a1 + 14) 2 ((uI I a 1 ((I a 1) - 1)) (a + 1) ((((I a 1) - 1) * 9) + 1).toNatClampNeg)) (a1 + 14) 3 ((uI (uI I a 1 ((I a 1) - 1)) (a1 + 14) 2 ((uI I a 1 ((I a 1) - 1)) (a + 1) ((((I a 1) - 1) * 9) + 1).toNatClampNeg)) (a + 1) ((((I a 1) - 1) * 9) + 2).toNatClampNeg)) (a + 1) ((((I a 1) - 1) * 9) + 3).toNatClampNeg)) (a + 1) ((((I a 1) - 1) * 9) + 4).toNatClampNeg)) (a + 1) ((((I a 1) - 1) * 9) + 5).toNatClampNeg)) (a + 1) ((((I a 1) - 1) * 9) + 6).toNatClampNeg), vR (a1 + 1)] from ?_))))))))))))))))))))))))))))))
      have h := h.2.2.2.2.2.2
      refine gCVi_z hO (M3_has (tGr.off hG t1 (k := 0) rfl)) hc3_has (idx := 35) (w := 965) (by decide +kernel) hR (by omega) (tGr.off hG t1 (k := 0) rfl) ⟨by decide, rfl⟩ (vs := [vI ((uI (uI (uI (uI (uI (uI I a 1 ((I a 1) - 1)) (a1 + 14) 2 ((uI I a 1 ((I a 1) - 1)) (a + 1) ((((I a 1) - 1) * 9) + 1).toNatClampNeg)) (a1 + 14) 3 ((uI (uI I a 1 ((I a 1) - 1)) (a1 + 14) 2 ((uI I a 1 ((I a 1) - 1)) (a + 1) ((((I a 1) - 1) * 9) + 1).toNatClampNeg)) (a + 1) ((((I a 1) - 1) * 9) + 2).toNatClampNeg)) (a1 + 14) 1 ((uI (uI (uI I a 1 ((I a 1) - 1)) (a1 + 14) 2 ((uI I a 1 ((I a 1) - 1)) (a + 1) ((((I a 1) - 1) * 9) + 1).toNatClampNeg)) (a1 + 14) 3 ((uI (uI I a 1 ((I a 1) - 1)) (a1 + 14) 2 ((uI I a 1 ((I a 1) - 1)) (a + 1) ((((I a 1) - 1) * 9) + 1).toNatClampNeg)) (a + 1) ((((I a 1) - 1) * 9) + 2).toNatClampNeg)) (a + 1) ((((I a 1) - 1) * 9) + 3).toNatClampNeg)) (a1 + 14) 4 ((uI (uI (uI (uI I a 1 ((I a 1) - 1)) (a1 + 14) 2 ((uI I a 1 ((I a 1) - 1)) (a + 1) ((((I a 1) - 1) * 9) + 1).toNatClampNeg)) (a1 + 14) 3 ((uI (uI I a 1 ((I a 1) - 1)) (a1 + 14) 2 ((uI I a 1 ((I a 1) - 1)) (a + 1) ((((I a 1) - 1) * 9) + 1).toNatClampNeg)) (a + 1) ((((I a 1) - 1) * 9) + 2).toNatClampNeg)) (a1 + 14) 1 ((uI (uI (uI I a 1 ((I a 1) - 1)) (a1 + 14) 2 ((uI I a 1 ((I a 1) - 1)) (a + 1) ((((I a 1) - 1) * 9) + 1).toNatClampNeg)) (a1 + 14) 3 ((uI (uI I a 1 ((I a 1) - 1)) (a1 + 14) 2 ((uI I a 1 ((I a 1) - 1)) (a + 1) ((((I a 1) - 1) * 9) + 1).toNatClampNeg)) (a + 1) ((((I a 1) - 1) * 9) + 2).toNatClampNeg)) (a + 1) ((((I a 1) - 1) * 9) + 3).toNatClampNeg)) (a + 1) ((((I a 1) - 1) * 9) + 4).toNatClampNeg)) (a1 + 14) 5 ((uI (uI (uI (uI (uI I a 1 ((I a 1) - 1)) (a1 + 14) 2 ((uI I a 1 ((I a 1) - 1)) (a + 1) ((((I a 1) - 1) * 9) + 1).toNatClampNeg)) (a1 + 14) 3 ((uI (uI I a 1 ((I a 1) - 1)) (a1 + 14) 2 ((uI I a 1 ((I a 1) - 1)) (a + 1) ((((I a 1) - 1) * 9) + 1).toNatClampNeg)) (a + 1) ((((I a 1) - 1) * 9) + 2).toNatClampNeg)) (a1 + 14) 1 ((uI (uI (uI I a 1 ((I a 1) - 1)) (a1 + 14) 2 ((uI I a 1 ((I a 1) - 1)) (a + 1) ((((I a 1) - 1) * 9) + 1).toNatClampNeg)) (a1 + 14) 3 ((uI (uI I a 1 ((I a 1) - 1)) (a1 + 14) 2 ((uI I a 1 ((I a 1) - 1)) (a + 1) ((((I a 1) - 1) * 9) + 1).toNatClampNeg)) (a + 1) ((((I a 1) - 1) * 9) + 2).toNatClampNeg)) (a + 1) ((((I a 1) - 1) * 9) + 3).toNatClampNeg)) (a1 + 14) 4 ((uI (uI (uI (uI I a 1 ((I a 1) - 1)) (a1 + 14) 2 ((uI I a 1 ((I a 1) - 1)) (a + 1) ((((I a 1) - 1) * 9) + 1).toNatClampNeg)) (a1 + 14) 3 ((uI (uI I a 1 ((I a 1) - 1)) (a1 + 14) 2 ((uI I a 1 ((I a 1) - 1)) (a + 1) ((((I a 1) - 1) * 9) + 1).toNatClampNeg)) (a + 1) ((((I a 1) - 1) * 9) + 2).toNatClampNeg)) (a1 + 14) 1 ((uI (uI (uI I a 1 ((I a 1) - 1)) (a1 + 14) 2 ((uI I a 1 ((I a 1) - 1)) (a + 1) ((((I a 1) - 1) * 9) + 1).toNatClampNeg)) (a1 + 14) 3 ((uI (uI I a 1 ((I a 1) - 1)) (a1 + 14) 2 ((uI I a 1 ((I a 1) - 1)) (a + 1) ((((I a 1) - 1) * 9) + 1).toNatClampNeg)) (a + 1) ((((I a 1) - 1) * 9) + 2).toNatClampNeg)) (a + 1) ((((I a 1) - 1) * 9) + 3).toNatClampNeg)) (a + 1) ((((I a 1) - 1) * 9) + 4).toNatClampNeg)) (a + 1) ((((I a 1) - 1) * 9) + 5).toNatClampNeg)) (a + 1) ((((I a 1) - 1) * 9) + 6).toNatClampNeg)]) (st := []) ⟨rfl, Nat.le_of_ble_eq_true rfl, rfl⟩ (by decide +kernel) (fun z3 => ?_)
      refine gIfEq hO (off := 41) (tgt := 165) (by decide +kernel) (by decide) (fun c4 => ?_) (fun c4 => ?_)
      · have h := h.1 c4
        exact gWeak (L' := [some (vR a), none, some (vI (((I a 1) - 1) * 9)), none, none]) ⟨rfl, rfl, trivial⟩ (W1_takeBack_165 hO hR hG t0 hQ h)
      · have h := h.2 c4
        refine gBk (pe := 165) hO [o0 (.aload_n 1), oF (.getfield 31) 8 0 957 0, oF (.getfield 58) 3 2 963 0, o0 (.iload 4), o0 (.aload_n 0), oF (.getfield 11) 1 0 108 0, o0 (.iload_n 2), oI (.bipush 7) 7, o0 .iadd, o0 .iaload, o0 .iastore, o0 (.aload_n 1), oF (.getfield 31) 8 0 957 0, oF (.getfield 61) 3 4 964 0, o0 (.iload 4), o0 (.aload_n 0), oF (.getfield 11) 1 0 108 0, o0 (.iload_n 2), oI (.bipush 8) 8, o0 .iadd, o0 .iaload, o0 .iastore] (by decide +kernel) (And.intro t1 (And.intro (tGr.off hG t1 (k := 0) rfl) (And.intro t0 (And.intro (tGr.off hG t0 (k := 0) rfl) (And.intro (tin (tGr.len hG t0 (k := 0) rfl (by decide)) h.1) (And.intro (tGr.off hG (tGr.off hG t1 (k := 0) rfl) (k := 2) rfl) (And.intro (tin (tGr.len hG (tGr.off hG t1 (k := 0) rfl) (k := 2) rfl (by decide)) h.2.1) (And.intro t1 (And.intro (tGr.off hG t1 (k := 0) rfl) (And.intro t0 (And.intro (tGr.off hG t0 (k := 0) rfl) (And.intro (tin (tGr.len hG t0 (k := 0) rfl (by decide)) h.2.2.1) (And.intro (tGr.off hG (tGr.off hG t1 (k := 0) rfl) (k := 4) rfl) (And.intro (tin (tGr.len hG (tGr.off hG t1 (k := 0) rfl) (k := 4) rfl (by decide)) h.2.2.2.1) (show tWG K B 0 0 S (uI (uI (uI (uI (uI (uI (uI (uI I a 1 ((I a 1) - 1)) (a1 + 14) 2 ((uI I a 1 ((I a 1) - 1)) (a + 1) ((((I a 1) - 1) * 9) + 1).toNatClampNeg)) (a1 + 14) 3 ((uI (uI I a 1 ((I a 1) - 1)) (a1 + 14) 2 ((uI I a 1 ((I a 1) - 1)) (a + 1) ((((I a 1) - 1) * 9) + 1).toNatClampNeg)) (a + 1) ((((I a 1) - 1) * 9) + 2).toNatClampNeg)) (a1 + 14) 1 ((uI (uI (uI I a 1 ((I a 1) - 1)) (a1 + 14) 2 ((uI I a 1 ((I a 1) - 1)) (a + 1) ((((I a 1) - 1) * 9) + 1).toNatClampNeg)) (a1 + 14) 3 ((uI (uI I a 1 ((I a 1) - 1)) (a1 + 14) 2 ((uI I a 1 ((I a 1) - 1)) (a + 1) ((((I a 1) - 1) * 9) + 1).toNatClampNeg)) (a + 1) ((((I a 1) - 1) * 9) + 2).toNatClampNeg)) (a + 1) ((((I a 1) - 1) * 9) + 3).toNatClampNeg)) (a1 + 14) 4 ((uI (uI (uI (uI I a 1 ((I a 1) - 1)) (a1 + 14) 2 ((uI I a 1 ((I a 1) - 1)) (a + 1) ((((I a 1) - 1) * 9) + 1).toNatClampNeg)) (a1 + 14) 3 ((uI (uI I a 1 ((I a 1) - 1)) (a1 + 14) 2 ((uI I a 1 ((I a 1) - 1)) (a + 1) ((((I a 1) - 1) * 9) + 1).toNatClampNeg)) (a + 1) ((((I a 1) - 1) * 9) + 2).toNatClampNeg)) (a1 + 14) 1 ((uI (uI (uI I a 1 ((I a 1) - 1)) (a1 + 14) 2 ((uI I a 1 ((I a 1) - 1)) (a + 1) ((((I a 1) - 1) * 9) + 1).toNatClampNeg)) (a1 + 14) 3 ((uI (uI I a 1 ((I a 1) - 1)) (a1 + 14) 2 ((uI I a 1 ((I a 1) - 1)) (a + 1) ((((I a 1) - 1) * 9) + 1).toNatClampNeg)) (a + 1) ((((I a 1) - 1) * 9) + 2).toNatClampNeg)) (a + 1) ((((I a 1) - 1) * 9) + 3).toNatClampNeg)) (a + 1) ((((I a 1) - 1) * 9) + 4).toNatClampNeg)) (a1 + 14) 5 ((uI (uI (uI (uI (uI I a 1 ((I a 1) - 1)) (a1 + 14) 2 ((uI I a 1 ((I a 1) - 1)) (a + 1) ((((I a 1) - 1) * 9) + 1).toNatClampNeg)) (a1 + 14) 3 ((uI (uI I a 1 ((I a 1) - 1)) (a1 + 14) 2 ((uI I a 1 ((I a 1) - 1)) (a + 1) ((((I a 1) - 1) * 9) + 1).toNatClampNeg)) (a + 1) ((((I a 1) - 1) * 9) + 2).toNatClampNeg)) (a1 + 14) 1 ((uI (uI (uI I a 1 ((I a 1) - 1)) (a1 + 14) 2 ((uI I a 1 ((I a 1) - 1)) (a + 1) ((((I a 1) - 1) * 9) + 1).toNatClampNeg)) (a1 + 14) 3 ((uI (uI I a 1 ((I a 1) - 1)) (a1 + 14) 2 ((uI I a 1 ((I a 1) - 1)) (a + 1) ((((I a 1) - 1) * 9) + 1).toNatClampNeg)) (a + 1) ((((I a 1) - 1) * 9) + 2).toNatClampNeg)) (a + 1) ((((I a 1) - 1) * 9) + 3).toNatClampNeg)) (a1 + 14) 4 ((uI (uI (uI (uI I a 1 ((I a 1) - 1)) (a1 + 14) 2 ((uI I a 1 ((I a 1) - 1)) (a + 1) ((((I a 1) - 1) * 9) + 1).toNatClampNeg)) (a1 + 14) 3 ((uI (uI I a 1 ((I a 1) - 1)) (a1 + 14) 2 ((uI I a 1 ((I a 1) - 1)) (a + 1) ((((I a 1) - 1) * 9) + 1).toNatClampNeg)) (a + 1) ((((I a 1) - 1) * 9) + 2).toNatClampNeg)) (a1 + 14) 1 ((uI (uI (uI I a 1 ((I a 1) - 1)) (a1 + 14) 2 ((uI I a 1 ((I a 1) - 1)) (a + 1) ((((I a 1) - 1) * 9) + 1).toNatClampNeg)) (a1 + 14) 3 ((uI (uI I a 1 ((I a 1) - 1)) (a1 + 14) 2 ((uI I a 1 ((I a 1) - 1)) (a + 1) ((((I a 1) - 1) * 9) + 1).toNatClampNeg)) (a + 1) ((((I a 1) - 1) * 9) + 2).toNatClampNeg)) (a + 1) ((((I a 1) - 1) * 9) + 3).toNatClampNeg)) (a + 1) ((((I a 1) - 1) * 9) + 4).toNatClampNeg)) (a + 1) ((((I a 1) - 1) * 9) + 5).toNatClampNeg)) (a1 + 3) ((uI (uI (uI (uI (uI (uI I a 1 ((I a 1) - 1)) (a1 + 14) 2 ((uI I a 1 ((I a 1) - 1)) (a + 1) ((((I a 1) - 1) * 9) + 1).toNatClampNeg)) (a1 + 14) 3 ((uI (uI I a 1 ((I a 1) - 1)) (a1 + 14) 2 ((uI I a 1 ((I a 1) - 1)) (a + 1) ((((I a 1) - 1) * 9) + 1).toNatClampNeg)) (a + 1) ((((I a 1) - 1) * 9) + 2).toNatClampNeg)) (a1 + 14) 1 ((uI (uI (uI I a 1 ((I a 1) - 1)) (a1 + 14) 2 ((uI I a 1 ((I a 1) - 1)) (a + 1) ((((I a 1) - 1) * 9) + 1).toNatClampNeg)) (a1 + 14) 3 ((uI (uI I a 1 ((I a 1) - 1)) (a1 + 14) 2 ((uI I a 1 ((I a 1) - 1)) (a + 1) ((((I a 1) - 1) * 9) + 1).toNatClampNeg)) (a + 1) ((((I a 1) - 1) * 9) + 2).toNatClampNeg)) (a + 1) ((((I a 1) - 1) * 9) + 3).toNatClampNeg)) (a1 + 14) 4 ((uI (uI (uI (uI I a 1 ((I a 1) - 1)) (a1 + 14) 2 ((uI I a 1 ((I a 1) - 1)) (a + 1) ((((I a 1) - 1) * 9) + 1).toNatClampNeg)) (a1 + 14) 3 ((uI (uI I a 1 ((I a 1) - 1)) (a1 + 14) 2 ((uI I a 1 ((I a 1) - 1)) (a + 1) ((((I a 1) - 1) * 9) + 1).toNatClampNeg)) (a + 1) ((((I a 1) - 1) * 9) + 2).toNatClampNeg)) (a1 + 14) 1 ((uI (uI (uI I a 1 ((I a 1) - 1)) (a1 + 14) 2 ((uI I a 1 ((I a 1) - 1)) (a + 1) ((((I a 1) - 1) * 9) + 1).toNatClampNeg)) (a1 + 14) 3 ((uI (uI I a 1 ((I a 1) - 1)) (a1 + 14) 2 ((uI I a 1 ((I a 1) - 1)) (a + 1) ((((I a 1) - 1) * 9) + 1).toNatClampNeg)) (a + 1) ((((I a 1) - 1) * 9) + 2).toNatClampNeg)) (a + 1) ((((I a 1) - 1) * 9) + 3).toNatClampNeg)) (a + 1) ((((I a 1) - 1) * 9) + 4).toNatClampNeg)) (a1 + 14) 5 ((uI (uI (uI (uI (uI I a 1 ((I a 1) - 1)) (a1 + 14) 2 ((uI I a 1 ((I a 1) - 1)) (a + 1) ((((I a 1) - 1) * 9) + 1).toNatClampNeg)) (a1 + 14) 3 ((uI (uI I a 1 ((I a 1) - 1)) (a1 + 14) 2 ((uI I a 1 ((I a 1) - 1)) (a + 1) ((((I a 1) - 1) * 9) + 1).toNatClampNeg)) (a + 1) ((((I a 1) - 1) * 9) + 2).toNatClampNeg)) (a1 + 14) 1 ((uI (uI (uI I a 1 ((I a 1) - 1)) (a1 + 14) 2 ((uI I a 1 ((I a 1) - 1)) (a + 1) ((((I a 1) - 1) * 9) + 1).toNatClampNeg)) (a1 + 14) 3 ((uI (uI I a 1 ((I a 1) - 1)) (a1 + 14) 2 ((uI I a 1 ((I a 1) - 1)) (a + 1) ((((I a 1) - 1) * 9) + 1).toNatClampNeg)) (a + 1) ((((I a 1) - 1) * 9) + 2).toNatClampNeg)) (a + 1) ((((I a 1) - 1) * 9) + 3).toNatClampNeg)) (a1 + 14) 4 ((uI (uI (uI (uI I a 1 ((I a 1) - 1)) (a1 + 14) 2 ((uI I a 1 ((I a 1) - 1)) (a + 1) ((((I a 1) - 1) * 9) + 1).toNatClampNeg)) (a1 + 14) 3 ((uI (uI I a 1 ((I a 1) - 1)) (a1 + 14) 2 ((uI I a 1 ((I a 1) - 1)) (a + 1) ((((I a 1) - 1) * 9) + 1).toNatClampNeg)) (a + 1) ((((I a 1) - 1) * 9) + 2).toNatClampNeg)) (a1 + 14) 1 ((uI (uI (uI I a 1 ((I a 1) - 1)) (a1 + 14) 2 ((uI I a 1 ((I a 1) - 1)) (a + 1) ((((I a 1) - 1) * 9) + 1).toNatClampNeg)) (a1 + 14) 3 ((uI (uI I a 1 ((I a 1) - 1)) (a1 + 14) 2 ((uI I a 1 ((I a 1) - 1)) (a + 1) ((((I a 1) - 1) * 9) + 1).toNatClampNeg)) (a + 1) ((((I a 1) - 1) * 9) + 2).toNatClampNeg)) (a + 1) ((((I a 1) - 1) * 9) + 3).toNatClampNeg)) (a + 1) ((((I a 1) - 1) * 9) + 4).toNatClampNeg)) (a + 1) ((((I a 1) - 1) * 9) + 5).toNatClampNeg)) (a + 1) ((((I a 1) - 1) * 9) + 6).toNatClampNeg).toNatClampNeg ((uI (uI (uI (uI (uI (uI I a 1 ((I a 1) - 1)) (a1 + 14) 2 ((uI I a 1 ((I a 1) - 1)) (a + 1) ((((I a 1) - 1) * 9) + 1).toNatClampNeg)) (a1 + 14) 3 ((uI (uI I a 1 ((I a 1) - 1)) (a1 + 14) 2 ((uI I a 1 ((I a 1) - 1)) (a + 1) ((((I a 1) - 1) * 9) + 1).toNatClampNeg)) (a + 1) ((((I a 1) - 1) * 9) + 2).toNatClampNeg)) (a1 + 14) 1 ((uI (uI (uI I a 1 ((I a 1) - 1)) (a1 + 14) 2 ((uI I a 1 ((I a 1) - 1)) (a + 1) ((((I a 1) - 1) * 9) + 1).toNatClampNeg)) (a1 + 14) 3 ((uI (uI I a 1 ((I a 1) - 1)) (a1 + 14) 2 ((uI I a 1 ((I a 1) - 1)) (a + 1) ((((I a 1) - 1) * 9) + 1).toNatClampNeg)) (a + 1) ((((I a 1) - 1) * 9) + 2).toNatClampNeg)) (a + 1) ((((I a 1) - 1) * 9) + 3).toNatClampNeg)) (a1 + 14) 4 ((uI (uI (uI (uI I a 1 ((I a 1) - 1)) (a1 + 14) 2 ((uI I a 1 ((I a 1) - 1)) (a + 1) ((((I a 1) - 1) * 9) + 1).toNatClampNeg)) (a1 + 14) 3 ((uI (uI I a 1 ((I a 1) - 1)) (a1 + 14) 2 ((uI I a 1 ((I a 1) - 1)) (a + 1) ((((I a 1) - 1) * 9) + 1).toNatClampNeg)) (a + 1) ((((I a 1) - 1) * 9) + 2).toNatClampNeg)) (a1 + 14) 1 ((uI (uI (uI I a 1 ((I a 1) - 1)) (a1 + 14) 2 ((uI I a 1 ((I a 1) - 1)) (a + 1) ((((I a 1) - 1) * 9) + 1).toNatClampNeg)) (a1 + 14) 3 ((uI (uI I a 1 ((I a 1) - 1)) (a1 + 14) 2 ((uI I a 1 ((I a 1) - 1)) (a + 1) ((((I a 1) - 1) * 9) + 1).toNatClampNeg)) (a + 1) ((((I a 1) - 1) * 9) + 2).toNatClampNeg)) (a + 1) ((((I a 1) - 1) * 9) + 3).toNatClampNeg)) (a + 1) ((((I a 1) - 1) * 9) + 4).toNatClampNeg)) (a1 + 14) 5 ((uI (uI (uI (uI (uI I a 1 ((I a 1) - 1)) (a1 + 14) 2 ((uI I a 1 ((I a 1) - 1)) (a + 1) ((((I a 1) - 1) * 9) + 1).toNatClampNeg)) (a1 + 14) 3 ((uI (uI I a 1 ((I a 1) - 1)) (a1 + 14) 2 ((uI I a 1 ((I a 1) - 1)) (a + 1) ((((I a 1) - 1) * 9) + 1).toNatClampNeg)) (a + 1) ((((I a 1) - 1) * 9) + 2).toNatClampNeg)) (a1 + 14) 1 ((uI (uI (uI I a 1 ((I a 1) - 1)) (a1 + 14) 2 ((uI I a 1 ((I a 1) - 1)) (a + 1) ((((I a 1) - 1) * 9) + 1).toNatClampNeg)) (a1 + 14) 3 ((uI (uI I a 1 ((I a 1) - 1)) (a1 + 14) 2 ((uI I a 1 ((I a 1) - 1)) (a + 1) ((((I a 1) - 1) * 9) + 1).toNatClampNeg)) (a + 1) ((((I a 1) - 1) * 9) + 2).toNatClampNeg)) (a + 1) ((((I a 1) - 1) * 9) + 3).toNatClampNeg)) (a1 + 14) 4 ((uI (uI (uI (uI I a 1 ((I a 1) - 1)) (a1 + 14) 2 ((uI I a 1 ((I a 1) - 1)) (a + 1) ((((I a 1) - 1) * 9) + 1).toNatClampNeg)) (a1 + 14) 3 ((uI (uI I a 1 ((I a 1) - 1)) (a1 + 14) 2 ((uI I a 1 ((I a 1) - 1)) (a + 1) ((((I a 1) - 1) * 9) + 1).toNatClampNeg)) (a + 1) ((((I a 1) - 1) * 9) + 2).toNatClampNeg)) (a1 + 14) 1 ((uI (uI (uI I a 1 ((I a 1) - 1)) (a1 + 14) 2 ((uI I a 1 ((I a 1) - 1)) (a + 1) ((((I a 1) - 1) * 9) + 1).toNatClampNeg)) (a1 + 14) 3 ((uI (uI I a 1 ((I a 1) - 1)) (a1 + 14) 2 ((uI I a 1 ((I a 1) - 1)) (a + 1) ((((I a 1) - 1) * 9) + 1).toNatClampNeg)) (a + 1) ((((I a 1) - 1) * 9) + 2).toNatClampNeg)) (a + 1) ((((I a 1) - 1) * 9) + 3).toNatClampNeg)) (a + 1) ((((I a 1) - 1) * 9) + 4).toNatClampNeg)) (a + 1) ((((I a 1) - 1) * 9) + 5).toNatClampNeg)) (a + 1) ((((I a 1) - 1) * 9) + 7).toNatClampNeg)) (a1 + 5) ((uI (uI (uI (uI (uI (uI I a 1 ((I a 1) - 1)) (a1 + 14) 2 ((uI I a 1 ((I a 1) - 1)) (a + 1) ((((I a 1) - 1) * 9) + 1).toNatClampNeg)) (a1 + 14) 3 ((uI (uI I a 1 ((I a 1) - 1)) (a1 + 14) 2 ((uI I a 1 ((I a 1) - 1)) (a + 1) ((((I a 1) - 1) * 9) + 1).toNatClampNeg)) (a + 1) ((((I a 1) - 1) * 9) + 2).toNatClampNeg)) (a1 + 14) 1 ((uI (uI (uI I a 1 ((I a 1) - 1)) (a1 + 14) 2 ((uI I a 1 ((I a 1) - 1)) (a + 1) ((((I a 1) - 1) * 9) + 1).toNatClampNeg)) (a1 + 14) 3 ((uI (uI I a 1 ((I a 1) - 1)) (a1 + 14) 2 ((uI I a 1 ((I a 1) - 1)) (a + 1) ((((I a 1) - 1) * 9) + 1).toNatClampNeg)) (a + 1) ((((I a 1) - 1) * 9) + 2).toNatClampNeg)) (a + 1) ((((I a 1) - 1) * 9) + 3).toNatClampNeg)) (a1 + 14) 4 ((uI (uI (uI (uI I a 1 ((I a 1) - 1)) (a1 + 14) 2 ((uI I a 1 ((I a 1) - 1)) (a + 1) ((((I a 1) - 1) * 9) + 1).toNatClampNeg)) (a1 + 14) 3 ((uI (uI I a 1 ((I a 1) - 1)) (a1 + 14) 2 ((uI I a 1 ((I a 1) - 1)) (a + 1) ((((I a 1) - 1) * 9) + 1).toNatClampNeg)) (a + 1) ((((I a 1) - 1) * 9) + 2).toNatClampNeg)) (a1 + 14) 1 ((uI (uI (uI I a 1 ((I a 1) - 1)) (a1 + 14) 2 ((uI I a 1 ((I a 1) - 1)) (a + 1) ((((I a 1) - 1) * 9) + 1).toNatClampNeg)) (a1 + 14) 3 ((uI (uI I a 1 ((I a 1) - 1)) (a1 + 14) 2 ((uI I a 1 ((I a 1) - 1)) (a + 1) ((((I a 1) - 1) * 9) + 1).toNatClampNeg)) (a + 1) ((((I a 1) - 1) * 9) + 2).toNatClampNeg)) (a + 1) ((((I a 1) - 1) * 9) + 3).toNatClampNeg)) (a + 1) ((((I a 1) - 1) * 9) + 4).toNatClampNeg)) (a1 + 14) 5 ((uI (uI (uI (uI (uI I a 1 ((I a 1) - 1)) (a1 + 14) 2 ((uI I a 1 ((I a 1) - 1)) (a + 1) ((((I a 1) - 1) * 9) + 1).toNatClampNeg)) (a1 + 14) 3 ((uI (uI I a 1 ((I a 1) - 1)) (a1 + 14) 2 ((uI I a 1 ((I a 1) - 1)) (a + 1) ((((I a 1) - 1) * 9) + 1).toNatClampNeg)) (a + 1) ((((I a 1) - 1) * 9) + 2).toNatClampNeg)) (a1 + 14) 1 ((uI (uI (uI I a 1 ((I a 1) - 1)) (a1 + 14) 2 ((uI I a 1 ((I a 1) - 1)) (a + 1) ((((I a 1) - 1) * 9) + 1).toNatClampNeg)) (a1 + 14) 3 ((uI (uI I a 1 ((I a 1) - 1)) (a1 + 14) 2 ((uI I a 1 ((I a 1) - 1)) (a + 1) ((((I a 1) - 1) * 9) + 1).toNatClampNeg)) (a + 1) ((((I a 1) - 1) * 9) + 2).toNatClampNeg)) (a + 1) ((((I a 1) - 1) * 9) + 3).toNatClampNeg)) (a1 + 14) 4 ((uI (uI (uI (uI I a 1 ((I a 1) - 1)) (a1 + 14) 2 ((uI I a 1 ((I a 1) - 1)) (a + 1) ((((I a 1) - 1) * 9) + 1).toNatClampNeg)) (a1 + 14) 3 ((uI (uI I a 1 ((I a 1) - 1)) (a1 + 14) 2 ((uI I a 1 ((I a 1) - 1)) (a + 1) ((((I a 1) - 1) * 9) + 1).toNatClampNeg)) (a + 1) ((((I a 1) - 1) * 9) + 2).toNatClampNeg)) (a1 + 14) 1 ((uI (uI (uI I a 1 ((I a 1) - 1)) (a1 + 14) 2 ((uI I a 1 ((I a 1) - 1)) (a + 1) ((((I a 1) - 1) * 9) + 1).toNatClampNeg)) (a1 + 14) 3 ((uI (uI I a 1 ((I a 1) - 1)) (a1 + 14) 2 ((uI I a 1 ((I a 1) - 1)) (a + 1) ((((I a 1) - 1) * 9) + 1).toNatClampNeg)) (a + 1) ((((I a 1) - 1) * 9) + 2).toNatClampNeg)) (a + 1) ((((I a 1) - 1) * 9) + 3).toNatClampNeg)) (a + 1) ((((I a 1) - 1) * 9) + 4).toNatClampNeg)) (a + 1) ((((I a 1) - 1) * 9) + 5).toNatClampNeg)) (a + 1) ((((I a 1) - 1) * 9) + 6).toNatClampNeg).toNatClampNeg ((uI (uI (uI (uI (uI (uI (uI I a 1 ((I a 1) - 1)) (a1 + 14) 2 ((uI I a 1 ((I a 1) - 1)) (a + 1) ((((I a 1) - 1) * 9) + 1).toNatClampNeg)) (a1 + 14) 3 ((uI (uI I a 1 ((I a 1) - 1)) (a1 + 14) 2 ((uI I a 1 ((I a 1) - 1)) (a + 1) ((((I a 1) - 1) * 9) + 1).toNatClampNeg)) (a + 1) ((((I a 1) - 1) * 9) + 2).toNatClampNeg)) (a1 + 14) 1 ((uI (uI (uI I a 1 ((I a 1) - 1)) (a1 + 14) 2 ((uI I a 1 ((I a 1) - 1)) (a + 1) ((((I a 1) - 1) * 9) + 1).toNatClampNeg)) (a1 + 14) 3 ((uI (uI I a 1 ((I a 1) - 1)) (a1 + 14) 2 ((uI I a 1 ((I a 1) - 1)) (a + 1) ((((I a 1) - 1) * 9) + 1).toNatClampNeg)) (a + 1) ((((I a 1) - 1) * 9) + 2).toNatClampNeg)) (a + 1) ((((I a 1) - 1) * 9) + 3).toNatClampNeg)) (a1 + 14) 4 ((uI (uI (uI (uI I a 1 ((I a 1) - 1)) (a1 + 14) 2 ((uI I a 1 ((I a 1) - 1)) (a + 1) ((((I a 1) - 1) * 9) + 1).toNatClampNeg)) (a1 + 14) 3 ((uI (uI I a 1 ((I a 1) - 1)) (a1 + 14) 2 ((uI I a 1 ((I a 1) - 1)) (a + 1) ((((I a 1) - 1) * 9) + 1).toNatClampNeg)) (a + 1) ((((I a 1) - 1) * 9) + 2).toNatClampNeg)) (a1 + 14) 1 ((uI (uI (uI I a 1 ((I a 1) - 1)) (a1 + 14) 2 ((uI I a 1 ((I a 1) - 1)) (a + 1) ((((I a 1) - 1) * 9) + 1).toNatClampNeg)) (a1 + 14) 3 ((uI (uI I a 1 ((I a 1) - 1)) (a1 + 14) 2 ((uI I a 1 ((I a 1) - 1)) (a + 1) ((((I a 1) - 1) * 9) + 1).toNatClampNeg)) (a + 1) ((((I a 1) - 1) * 9) + 2).toNatClampNeg)) (a + 1) ((((I a 1) - 1) * 9) + 3).toNatClampNeg)) (a + 1) ((((I a 1) - 1) * 9) + 4).toNatClampNeg)) (a1 + 14) 5 ((uI (uI (uI (uI (uI I a 1 ((I a 1) - 1)) (a1 + 14) 2 ((uI I a 1 ((I a 1) - 1)) (a + 1) ((((I a 1) - 1) * 9) + 1).toNatClampNeg)) (a1 + 14) 3 ((uI (uI I a 1 ((I a 1) - 1)) (a1 + 14) 2 ((uI I a 1 ((I a 1) - 1)) (a + 1) ((((I a 1) - 1) * 9) + 1).toNatClampNeg)) (a + 1) ((((I a 1) - 1) * 9) + 2).toNatClampNeg)) (a1 + 14) 1 ((uI (uI (uI I a 1 ((I a 1) - 1)) (a1 + 14) 2 ((uI I a 1 ((I a 1) - 1)) (a + 1) ((((I a 1) - 1) * 9) + 1).toNatClampNeg)) (a1 + 14) 3 ((uI (uI I a 1 ((I a 1) - 1)) (a1 + 14) 2 ((uI I a 1 ((I a 1) - 1)) (a + 1) ((((I a 1) - 1) * 9) + 1).toNatClampNeg)) (a + 1) ((((I a 1) - 1) * 9) + 2).toNatClampNeg)) (a + 1) ((((I a 1) - 1) * 9) + 3).toNatClampNeg)) (a1 + 14) 4 ((uI (uI (uI (uI I a 1 ((I a 1) - 1)) (a1 + 14) 2 ((uI I a 1 ((I a 1) - 1)) (a + 1) ((((I a 1) - 1) * 9) + 1).toNatClampNeg)) (a1 + 14) 3 ((uI (uI I a 1 ((I a 1) - 1)) (a1 + 14) 2 ((uI I a 1 ((I a 1) - 1)) (a + 1) ((((I a 1) - 1) * 9) + 1).toNatClampNeg)) (a + 1) ((((I a 1) - 1) * 9) + 2).toNatClampNeg)) (a1 + 14) 1 ((uI (uI (uI I a 1 ((I a 1) - 1)) (a1 + 14) 2 ((uI I a 1 ((I a 1) - 1)) (a + 1) ((((I a 1) - 1) * 9) + 1).toNatClampNeg)) (a1 + 14) 3 ((uI (uI I a 1 ((I a 1) - 1)) (a1 + 14) 2 ((uI I a 1 ((I a 1) - 1)) (a + 1) ((((I a 1) - 1) * 9) + 1).toNatClampNeg)) (a + 1) ((((I a 1) - 1) * 9) + 2).toNatClampNeg)) (a + 1) ((((I a 1) - 1) * 9) + 3).toNatClampNeg)) (a + 1) ((((I a 1) - 1) * 9) + 4).toNatClampNeg)) (a + 1) ((((I a 1) - 1) * 9) + 5).toNatClampNeg)) (a1 + 3) ((uI (uI (uI (uI (uI (uI I a 1 ((I a 1) - 1)) (a1 + 14) 2 ((uI I a 1 ((I a 1) - 1)) (a + 1) ((((I a 1) - 1) * 9) + 1).toNatClampNeg)) (a1 + 14) 3 ((uI (uI I a 1 ((I a 1) - 1)) (a1 + 14) 2 ((uI I a 1 ((I a 1) - 1)) (a + 1) ((((I a 1) - 1) * 9) + 1).toNatClampNeg)) (a + 1) ((((I a 1) - 1) * 9) + 2).toNatClampNeg)) (a1 + 14) 1 ((uI (uI (uI I a 1 ((I a 1) - 1)) (a1 + 14) 2 ((uI I a 1 ((I a 1) - 1)) (a + 1) ((((I a 1) - 1) * 9) + 1).toNatClampNeg)) (a1 + 14) 3 ((uI (uI I a 1 ((I a 1) - 1)) (a1 + 14) 2 ((uI I a 1 ((I a 1) - 1)) (a + 1) ((((I a 1) - 1) * 9) + 1).toNatClampNeg)) (a + 1) ((((I a 1) - 1) * 9) + 2).toNatClampNeg)) (a + 1) ((((I a 1) - 1) * 9) + 3).toNatClampNeg)) (a1 + 14) 4 ((uI (uI (uI (uI I a 1 ((I a 1) - 1)) (a1 + 14) 2 ((uI I a 1 ((I a 1) - 1)) (a + 1) ((((I a 1) - 1) * 9) + 1).toNatClampNeg)) (a1 + 14) 3 ((uI (uI I a 1 ((I a 1) - 1)) (a1 + 14) 2 ((uI I a 1 ((I a 1) - 1)) (a + 1) ((((I a 1) - 1) * 9) + 1).toNatClampNeg)) (a + 1) ((((I a 1) - 1) * 9) + 2).toNatClampNeg)) (a1 + 14) 1 ((uI (uI (uI I a 1 ((I a 1) - 1)) (a1 + 14) 2 ((uI I a 1 ((I a 1) - 1)) (a + 1) ((((I a 1) - 1) * 9) + 1).toNatClampNeg)) (a1 + 14) 3 ((uI (uI I a 1 ((I a 1) - 1)) (a1 + 14) 2 ((uI I a 1 ((I a 1) - 1)) (a + 1) ((((I a 1) - 1) * 9) + 1).toNatClampNeg)) (a + 1) ((((I a 1) - 1) * 9) + 2).toNatClampNeg)) (a + 1) ((((I a 1) - 1) * 9) + 3).toNatClampNeg)) (a + 1) ((((I a 1) - 1) * 9) + 4).toNatClampNeg)) (a1 + 14) 5 ((uI (uI (uI (uI (uI I a 1 ((I a 1) - 1)) (a1 + 14) 2 ((uI I a 1 ((I a 1) - 1)) (a + 1) ((((I a 1) - 1) * 9) + 1).toNatClampNeg)) (a1 + 14) 3 ((uI (uI I a 1 ((I a 1) - 1)) (a1 + 14) 2 ((uI I a 1 ((I a 1) - 1)) (a + 1) ((((I a 1) - 1) * 9) + 1).toNatClampNeg)) (a + 1) ((((I a 1) - 1) * 9) + 2).toNatClampNeg)) (a1 + 14) 1 ((uI (uI (uI I a 1 ((I a 1) - 1)) (a1 + 14) 2 ((uI I a 1 ((I a 1) - 1)) (a + 1) ((((I a 1) - 1) * 9) + 1).toNatClampNeg)) (a1 + 14) 3 ((uI (uI I a 1 ((I a 1) - 1)) (a1 + 14) 2 ((uI I a 1 ((I a 1) - 1)) (a + 1) ((((I a 1) - 1) * 9) + 1).toNatClampNeg)) (a + 1) ((((I a 1) - 1) * 9) + 2).toNatClampNeg)) (a + 1) ((((I a 1) - 1) * 9) + 3).toNatClampNeg)) (a1 + 14) 4 ((uI (uI (uI (uI I a 1 ((I a 1) - 1)) (a1 + 14) 2 ((uI I a 1 ((I a 1) - 1)) (a + 1) ((((I a 1) - 1) * 9) + 1).toNatClampNeg)) (a1 + 14) 3 ((uI (uI I a 1 ((I a 1) - 1)) (a1 + 14) 2 ((uI I a 1 ((I a 1) - 1)) (a + 1) ((((I a 1) - 1) * 9) + 1).toNatClampNeg)) (a + 1) ((((I a 1) - 1) * 9) + 2).toNatClampNeg)) (a1 + 14) 1 ((uI (uI (uI I a 1 ((I a 1) - 1)) (a1 + 14) 2 ((uI I a 1 ((I a 1) - 1)) (a + 1) ((((I a 1) - 1) * 9) + 1).toNatClampNeg)) (a1 + 14) 3 ((uI (uI I a 1 ((I a 1) - 1)) (a1 + 14) 2 ((uI I a 1 ((I a 1) - 1)) (a + 1) ((((I a 1) - 1) * 9) + 1).toNatClampNeg)) (a + 1) ((((I a 1) - 1) * 9) + 2).toNatClampNeg)) (a + 1) ((((I a 1) - 1) * 9) + 3).toNatClampNeg)) (a + 1) ((((I a 1) - 1) * 9) + 4).toNatClampNeg)) (a + 1) ((((I a 1) - 1) * 9) + 5).toNatClampNeg)) (a + 1) ((((I a 1) - 1) * 9) + 6).toNatClampNeg).toNatClampNeg ((uI (uI (uI (uI (uI (uI I a 1 ((I a 1) - 1)) (a1 + 14) 2 ((uI I a 1 ((I a 1) - 1)) (a + 1) ((((I a 1) - 1) * 9) + 1).toNatClampNeg)) (a1 + 14) 3 ((uI (uI I a 1 ((I a 1) - 1)) (a1 + 14) 2 ((uI I a 1 ((I a 1) - 1)) (a + 1) ((((I a 1) - 1) * 9) + 1).toNatClampNeg)) (a + 1) ((((I a 1) - 1) * 9) + 2).toNatClampNeg)) (a1 + 14) 1 ((uI (uI (uI I a 1 ((I a 1) - 1)) (a1 + 14) 2 ((uI I a 1 ((I a 1) - 1)) (a + 1) ((((I a 1) - 1) * 9) + 1).toNatClampNeg)) (a1 + 14) 3 ((uI (uI I a 1 ((I a 1) - 1)) (a1 + 14) 2 ((uI I a 1 ((I a 1) - 1)) (a + 1) ((((I a 1) - 1) * 9) + 1).toNatClampNeg)) (a + 1) ((((I a 1) - 1) * 9) + 2).toNatClampNeg)) (a + 1) ((((I a 1) - 1) * 9) + 3).toNatClampNeg)) (a1 + 14) 4 ((uI (uI (uI (uI I a 1 ((I a 1) - 1)) (a1 + 14) 2 ((uI I a 1 ((I a 1) - 1)) (a + 1) ((((I a 1) - 1) * 9) + 1).toNatClampNeg)) (a1 + 14) 3 ((uI (uI I a 1 ((I a 1) - 1)) (a1 + 14) 2 ((uI I a 1 ((I a 1) - 1)) (a + 1) ((((I a 1) - 1) * 9) + 1).toNatClampNeg)) (a + 1) ((((I a 1) - 1) * 9) + 2).toNatClampNeg)) (a1 + 14) 1 ((uI (uI (uI I a 1 ((I a 1) - 1)) (a1 + 14) 2 ((uI I a 1 ((I a 1) - 1)) (a + 1) ((((I a 1) - 1) * 9) + 1).toNatClampNeg)) (a1 + 14) 3 ((uI (uI I a 1 ((I a 1) - 1)) (a1 + 14) 2 ((uI I a 1 ((I a 1) - 1)) (a + 1) ((((I a 1) - 1) * 9) + 1).toNatClampNeg)) (a + 1) ((((I a 1) - 1) * 9) + 2).toNatClampNeg)) (a + 1) ((((I a 1) - 1) * 9) + 3).toNatClampNeg)) (a + 1) ((((I a 1) - 1) * 9) + 4).toNatClampNeg)) (a1 + 14) 5 ((uI (uI (uI (uI (uI I a 1 ((I a 1) - 1)) (a1 + 14) 2 ((uI I a 1 ((I a 1) - 1)) (a + 1) ((((I a 1) - 1) * 9) + 1).toNatClampNeg)) (a1 + 14) 3 ((uI (uI I a 1 ((I a 1) - 1)) (a1 + 14) 2 ((uI I a 1 ((I a 1) - 1)) (a + 1) ((((I a 1) - 1) * 9) + 1).toNatClampNeg)) (a + 1) ((((I a 1) - 1) * 9) + 2).toNatClampNeg)) (a1 + 14) 1 ((uI (uI (uI I a 1 ((I a 1) - 1)) (a1 + 14) 2 ((uI I a 1 ((I a 1) - 1)) (a + 1) ((((I a 1) - 1) * 9) + 1).toNatClampNeg)) (a1 + 14) 3 ((uI (uI I a 1 ((I a 1) - 1)) (a1 + 14) 2 ((uI I a 1 ((I a 1) - 1)) (a + 1) ((((I a 1) - 1) * 9) + 1).toNatClampNeg)) (a + 1) ((((I a 1) - 1) * 9) + 2).toNatClampNeg)) (a + 1) ((((I a 1) - 1) * 9) + 3).toNatClampNeg)) (a1 + 14) 4 ((uI (uI (uI (uI I a 1 ((I a 1) - 1)) (a1 + 14) 2 ((uI I a 1 ((I a 1) - 1)) (a + 1) ((((I a 1) - 1) * 9) + 1).toNatClampNeg)) (a1 + 14) 3 ((uI (uI I a 1 ((I a 1) - 1)) (a1 + 14) 2 ((uI I a 1 ((I a 1) - 1)) (a + 1) ((((I a 1) - 1) * 9) + 1).toNatClampNeg)) (a + 1) ((((I a 1) - 1) * 9) + 2).toNatClampNeg)) (a1 + 14) 1 ((uI (uI (uI I a 1 ((I a 1) - 1)) (a1 + 14) 2 ((uI I a 1 ((I a 1) - 1)) (a + 1) ((((I a 1) - 1) * 9) + 1).toNatClampNeg)) (a1 + 14) 3 ((uI (uI I a 1 ((I a 1) - 1)) (a1 + 14) 2 ((uI I a 1 ((I a 1) - 1)) (a + 1) ((((I a 1) - 1) * 9) + 1).toNatClampNeg)) (a + 1) ((((I a 1) - 1) * 9) + 2).toNatClampNeg)) (a + 1) ((((I a 1) - 1) * 9) + 3).toNatClampNeg)) (a + 1) ((((I a 1) - 1) * 9) + 4).toNatClampNeg)) (a + 1) ((((I a 1) - 1) * 9) + 5).toNatClampNeg)) (a + 1) ((((I a 1) - 1) * 9) + 7).toNatClampNeg)) (a + 1) ((((I a 1) - 1) * 9) + 8).toNatClampNeg)) J 165 [some (vR a), some (vR a1), some (vI (((I a 1) - 1) * 9)), some (vR (a1 + 14)), some (vI ((uI (uI (uI (uI (uI (uI I a 1 ((I a 1) - 1)) (a1 + 14) 2 ((uI I a 1 ((I a 1) - 1)) (a + 1) ((((I a 1) - 1) * 9) + 1).toNatClampNeg)) (a1 + 14) 3 ((uI (uI I a 1 ((I a 1) - 1)) (a1 + 14) 2 ((uI I a 1 ((I a 1) - 1)) (a + 1) ((((I a 1) - 1) * 9) + 1).toNatClampNeg)) (a + 1) ((((I a 1) - 1) * 9) + 2).toNatClampNeg)) (a1 + 14) 1 ((uI (uI (uI I a 1 ((I a 1) - 1)) (a1 + 14) 2 ((uI I a 1 ((I a 1) - 1)) (a + 1) ((((I a 1) - 1) * 9) + 1).toNatClampNeg)) (a1 + 14) 3 ((uI (uI I a 1 ((I a 1) - 1)) (a1 + 14) 2 ((uI I a 1 ((I a 1) - 1)) (a + 1) ((((I a 1) - 1) * 9) + 1).toNatClampNeg)) (a + 1) ((((I a 1) - 1) * 9) + 2).toNatClampNeg)) (a + 1) ((((I a 1) - 1) * 9) + 3).toNatClampNeg)) (a1 + 14) 4 ((uI (uI (uI (uI I a 1 ((I a 1) - 1)) (a1 + 14) 2 ((uI I a 1 ((I a 1) - 1)) (a + 1) ((((I a 1) - 1) * 9) + 1).toNatClampNeg)) (a1 + 14) 3 ((uI (uI I a 1 ((I a 1) - 1)) (a1 + 14) 2 ((uI I a 1 ((I a 1) - 1)) (a + 1) ((((I a 1) - 1) * 9) + 1).toNatClampNeg)) (a + 1) ((((I a 1) - 1) * 9) + 2).toNatClampNeg)) (a1 + 14) 1 ((uI (uI (uI I a 1 ((I a 1) - 1)) (a1 + 14) 2 ((uI I a 1 ((I a 1) - 1)) (a + 1) ((((I a 1) - 1) * 9) + 1).toNatClampNeg)) (a1 + 14) 3 ((uI (uI I a 1 ((I a 1) - 1)) (a1 + 14) 2 ((uI I a 1 ((I a 1) - 1)) (a + 1) ((((I a 1) - 1) * 9) + 1).toNatClampNeg)) (a + 1) ((((I a 1) - 1) * 9) + 2).toNatClampNeg)) (a + 1) ((((I a 1) - 1) * 9) + 3).toNatClampNeg)) (a + 1) ((((I a 1) - 1) * 9) + 4).toNatClampNeg)) (a1 + 14) 5 ((uI (uI (uI (uI (uI I a 1 ((I a 1) - 1)) (a1 + 14) 2 ((uI I a 1 ((I a 1) - 1)) (a + 1) ((((I a 1) - 1) * 9) + 1).toNatClampNeg)) (a1 + 14) 3 ((uI (uI I a 1 ((I a 1) - 1)) (a1 + 14) 2 ((uI I a 1 ((I a 1) - 1)) (a + 1) ((((I a 1) - 1) * 9) + 1).toNatClampNeg)) (a + 1) ((((I a 1) - 1) * 9) + 2).toNatClampNeg)) (a1 + 14) 1 ((uI (uI (uI I a 1 ((I a 1) - 1)) (a1 + 14) 2 ((uI I a 1 ((I a 1) - 1)) (a + 1) ((((I a 1) - 1) * 9) + 1).toNatClampNeg)) (a1 + 14) 3 ((uI (uI I a 1 ((I a 1) - 1)) (a1 + 14) 2 ((uI I a 1 ((I a 1) - 1)) (a + 1) ((((I a 1) - 1) * 9) + 1).toNatClampNeg)) (a + 1) ((((I a 1) - 1) * 9) + 2).toNatClampNeg)) (a + 1) ((((I a 1) - 1) * 9) + 3).toNatClampNeg)) (a1 + 14) 4 ((uI (uI (uI (uI I a 1 ((I a 1) - 1)) (a1 + 14) 2 ((uI I a 1 ((I a 1) - 1)) (a + 1) ((((I a 1) - 1) * 9) + 1).toNatClampNeg)) (a1 + 14) 3 ((uI (uI I a 1 ((I a 1) - 1)) (a1 + 14) 2 ((uI I a 1 ((I a 1) - 1)) (a + 1) ((((I a 1) - 1) * 9) + 1).toNatClampNeg)) (a + 1) ((((I a 1) - 1) * 9) + 2).toNatClampNeg)) (a1 + 14) 1 ((uI (uI (uI I a 1 ((I a 1) - 1)) (a1 + 14) 2 ((uI I a 1 ((I a 1) - 1)) (a + 1) ((((I a 1) - 1) * 9) + 1).toNatClampNeg)) (a1 + 14) 3 ((uI (uI I a 1 ((I a 1) - 1)) (a1 + 14) 2 ((uI I a 1 ((I a 1) - 1)) (a + 1) ((((I a 1) - 1) * 9) + 1).toNatClampNeg)) (a + 1) ((((I a 1) - 1) * 9) + 2).toNatClampNeg)) (a + 1) ((((I a 1) - 1) * 9) + 3).toNatClampNeg)) (a + 1) ((((I a 1) - 1) * 9) + 4).toNatClampNeg)) (a + 1) ((((I a 1) - 1) * 9) + 5).toNatClampNeg)) (a + 1) ((((I a 1) - 1) * 9) + 6).toNatClampNeg))] [] from ?_)))))))))))))))
        have h := h.2.2.2.2
        exact gWeak (L' := [some (vR a), none, some (vI (((I a 1) - 1) * 9)), none, none]) ⟨rfl, rfl, trivial⟩ (W1_takeBack_165 hO hR hG t0 hQ h)
    · have h := h.2 c2
      exact gWeak (L' := [none, none, none, none, none]) trivial (W1_takeBack_26 hO hR hG t0 hQ h))
set_option maxRecDepth 20000 in
theorem hc2_asItStands : tCV yX2_asItStands cX2_asItStands 2 none 0 := ⟨⟨(List.mem_of_getElem? (i := 258) rfl), (List.mem_of_getElem? (i := 37) (by decide +kernel)), by decide +kernel⟩, (List.mem_of_getElem? (i := 256) (by decide +kernel)), (List.mem_of_getElem? (i := 257) (by decide +kernel))⟩
set_option maxRecDepth 100000 in
theorem M2_asItStands {l : Launch} {B : tB} {S : tSH} {I : tHI} {J : tHJ} {n : Nat} {k : tHI → tHJ → Prop} (t0 : ty S 48 2) (h : F2_asItStands n S I J k) : Met l yX2_asItStands (tWs yX2_asItStands cX2_asItStands 2 none) (tRm 3 0 0) (tPc B [vR 48] S I J) (tQv B (tPv S k)) 0 0 (tA B) :=
  tEntry (by decide +kernel) [some (vR 48), none] rfl rfl (Nat.le_of_ble_eq_true rfl) (fun K hl hR hO hQ hG => by
  subst hl
  refine gBk (pe := 44) hO [o0 (.aload_n 0), oF (.getfield 18) 2 2 155 1, oF (.getfield 32) 8 2 259 15, o0 (.astore_n 1), o0 (.aload_n 0), oF (.getfield 11) 2 0 153 49, oI (.bipush 6) 6, o0 (.aload_n 1), oF (.getfield 38) 10 0 260 0, o0 .iastore, o0 (.aload_n 0), oF (.getfield 11) 2 0 153 49, oI (.bipush 7) 7, o0 (.aload_n 1), oF (.getfield 44) 10 5 261 0, o0 .iastore, o0 (.aload_n 0), oF (.getfield 11) 2 0 153 49, oI (.bipush 11) 11, o0 (.aload_n 1), oF (.getfield 47) 10 8 262 0, o0 .iastore, o0 (.aload_n 0), oI (.bipush 63) 63] (by decide +kernel) (And.intro t0 (And.intro rfl (And.intro (tGr.abs hG t0 (k := 2) rfl) (And.intro rfl (And.intro (Nat.le_of_ble_eq_true rfl) (And.intro t0 (And.intro rfl (And.intro (tGr.off hG (tGr.abs hG t0 (k := 2) rfl) (k := 2) rfl) (And.intro (tGr.off hG t0 (k := 0) rfl) (And.intro (tin (tGr.len hG t0 (k := 0) rfl (by decide)) (tvi (by decide +kernel))) (And.intro t0 (And.intro rfl (And.intro (tGr.off hG (tGr.abs hG t0 (k := 2) rfl) (k := 2) rfl) (And.intro (tGr.off hG t0 (k := 0) rfl) (And.intro (tin (tGr.len hG t0 (k := 0) rfl (by decide)) (tvi (by decide +kernel))) (And.intro t0 (And.intro rfl (And.intro (tGr.off hG (tGr.abs hG t0 (k := 2) rfl) (k := 2) rfl) (And.intro (tGr.off hG t0 (k := 0) rfl) (And.intro (tin (tGr.len hG t0 (k := 0) rfl (by decide)) (tvi (by decide +kernel))) (show tWG K B 0 0 S (uI (uI (uI I 49 6 (I 15 0)) 49 7 ((uI I 49 6 (I 15 0)) 15 5)) 49 11 ((uI (uI I 49 6 (I 15 0)) 49 7 ((uI I 49 6 (I 15 0)) 15 5)) 15 8)) J 44 [some (vR 48), some (vR 15)] [vI 63, vR 48] from ?_)))))))))))))))))))))
  refine gCVv_c hO (M2_weigh t0 h) hc2_weigh (idx := 50) (w := 263) (by decide +kernel) hR (by omega) t0 ⟨by decide, rfl⟩ (vs := [vI 63]) (st := []) ⟨rfl, Nat.le_of_ble_eq_true rfl, rfl⟩ (by decide +kernel) (fun I1 J2 h => ?_)
  exact gVret hO hQ (by decide +kernel) ⟨rfl, h⟩)
set_option maxRecDepth 100000 in
theorem W4_advance_15 {K : tK} {B : tB} {S : tSH} {MC MS : Nat} (hO : tKO K B RX4 cX4_advance 2) (hR : kR K = tRm 3 MC MS) (hG : tGr S) {n : Nat} (t0 : ty S 40 4) {k : tHI → tHJ → Prop} (hQ : tRet K B (tQv B (tPv S k)) 0 0 none) {I : tHI} {J : tHJ} (h : F4_advance_15 n S k I J) : tWG K B 0 0 S I J 15 [none, none] [] := by
  exact gVret hO hQ (by decide +kernel) ⟨rfl, h⟩
set_option maxRecDepth 100000 in
theorem W4_advance_193 {K : tK} {B : tB} {S : tSH} {MC MS : Nat} (hO : tKO K B RX4 cX4_advance 2) (hR : kR K = tRm 3 MC MS) (hG : tGr S) {n : Nat} (t0 : ty S 40 4) {k : tHI → tHJ → Prop} (hQ : tRet K B (tQv B (tPv S k)) 0 0 none) {I : tHI} {J : tHJ} (h : F4_advance_193 n S k I J) : tWG K B 0 0 S I J 193 [none, none] [] := by
  exact gVret hO hQ (by decide +kernel) ⟨rfl, h⟩
set_option maxRecDepth 100000 in
theorem W4_advance_146 {K : tK} {B : tB} {S : tSH} {MC MS : Nat} (hO : tKO K B RX4 cX4_advance 2) (hR : kR K = tRm 3 MC MS) (hG : tGr S) {n : Nat} (t0 : ty S 40 4) {k : tHI → tHJ → Prop} (hQ : tRet K B (tQv B (tPv S k)) 0 0 none) {kb106 : tHI → tHJ → Int32 → Prop} (hkb106 : ∀ (I : tHI) (J : tHJ) (v1 : Int32), kb106 I J v1 → tWG K B 0 0 S I J 106 [some (vR 40), some (vI v1)] []) {I : tHI} {J : tHJ} {v1 : Int32} (h : F4_advance_146 n S k kb106 I J v1) : tWG K B 0 0 S I J 146 [some (vR 40), some (vI v1)] [] := by
  refine gBk (pe := 161) hO [o0 (.aload_n 0), o0 .dup, oF (.getfield 32) 4 4 125 0, oI (.iconst 1) 1, o0 .iadd, oF (.putfield 32) 4 4 125 0, o0 (.aload_n 0), oF (.getfield 32) 4 4 125 0, o0 (.iload_n 1)] (by decide +kernel) (And.intro t0 (And.intro t0 (And.intro t0 (show tWG K B 0 0 S (uI I 40 4 ((I 40 4) + 1)) J 161 [some (vR 40), some (vI v1)] [vI v1, vI ((uI I 40 4 ((I 40 4) + 1)) 40 4)] from ?_))))
  refine gIcGe hO (off := 32) (tgt := 193) (by decide +kernel) (by decide) (fun c9 => ?_) (fun c9 => ?_)
  · have h := h.1 c9
    exact gWeak (L' := [none, none]) trivial (W4_advance_193 hO hR hG t0 hQ h)
  · have h := h.2 c9
    refine gBk (pe := 169) hO [o0 (.aload_n 0), oF (.getfield 38) 4 6 127 0, oI (.iconst 3) 3] (by decide +kernel) (And.intro t0 (show tWG K B 0 0 S (uI I 40 4 ((I 40 4) + 1)) J 169 [some (vR 40), some (vI v1)] [vI 3, vI ((uI I 40 4 ((I 40 4) + 1)) 40 6)] from ?_))
    refine gIcEq hO (off := 24) (tgt := 193) (by decide +kernel) (by decide) (fun c10 => ?_) (fun c10 => ?_)
    · have h := h.1 c10
      exact gWeak (L' := [none, none]) trivial (W4_advance_193 hO hR hG t0 hQ h)
    · have h := h.2 c10
      refine gBk (pe := 176) hO [o0 (.aload_n 0), oF (.getfield 24) 4 2 123 0] (by decide +kernel) (And.intro t0 (show tWG K B 0 0 S (uI I 40 4 ((I 40 4) + 1)) J 176 [some (vR 40), some (vI v1)] [vO (sQ S 40 2)] from ?_))
      obtain ⟨a11, e12, h⟩ := h
      refine gKnow e12 ?_
      refine gBk (pe := 180) hO [o0 (.aload_n 0), oF (.getfield 32) 4 4 125 0] (by decide +kernel) (And.intro t0 (show tWG K B 0 0 S (uI I 40 4 ((I 40 4) + 1)) J 180 [some (vR 40), some (vI v1)] [vI ((uI I 40 4 ((I 40 4) + 1)) 40 4), vR a11] from ?_))
      refine gCVi_p hO (M9_byteAt (tGr.dyn hG t0 (k := 2) rfl (by decide) e12) h.1) hc9_byteAt (idx := 68) (w := 626) (by decide +kernel) hR (by omega) (tGr.dyn hG t0 (k := 2) rfl (by decide) e12) ⟨by decide, rfl⟩ (vs := [vI ((uI I 40 4 ((I 40 4) + 1)) 40 4)]) (st := []) ⟨rfl, Nat.le_of_ble_eq_true rfl, rfl⟩ (by decide +kernel) ?_
      have h := h.2
      refine gCSi_p hO (M4_kindOfByte) hc4_kindOfByte (idx := 72) (w := 627) (by decide +kernel) hR (by omega) (vs := [vI (V9_byteAt S (uI I 40 4 ((I 40 4) + 1)) J a11 ((uI I 40 4 ((I 40 4) + 1)) 40 4))]) (st := []) ⟨rfl, Nat.le_of_ble_eq_true rfl, rfl⟩ (by decide +kernel) ?_
      refine gBk (pe := 190) hO [o0 (.aload_n 0), oF (.getfield 38) 4 6 127 0] (by decide +kernel) (And.intro t0 (show tWG K B 0 0 S (uI I 40 4 ((I 40 4) + 1)) J 190 [some (vR 40), some (vI v1)] [vI ((uI I 40 4 ((I 40 4) + 1)) 40 6), vI (V4_kindOfByte (V9_byteAt S (uI I 40 4 ((I 40 4) + 1)) J a11 ((uI I 40 4 ((I 40 4) + 1)) 40 4)))] from ?_))
      refine gIcEq hO (off := (-84)) (tgt := 106) (by decide +kernel) (by decide) (fun c13 => ?_) (fun c13 => ?_)
      · have h := h.1 c13
        exact hkb106 _ _ _ h
      · have h := h.2 c13
        exact gWeak (L' := [none, none]) trivial (W4_advance_193 hO hR hG t0 hQ h)
set_option maxRecDepth 100000 in
theorem W4_advance_106 {K : tK} {B : tB} {S : tSH} {MC MS : Nat} (hO : tKO K B RX4 cX4_advance 2) (hR : kR K = tRm 3 MC MS) (hG : tGr S) {n : Nat} (t0 : ty S 40 4) {k : tHI → tHJ → Prop} (hQ : tRet K B (tQv B (tPv S k)) 0 0 none) {kb106 : tHI → tHJ → Int32 → Prop} (hkb106 : ∀ (I : tHI) (J : tHJ) (v1 : Int32), kb106 I J v1 → tWG K B 0 0 S I J 106 [some (vR 40), some (vI v1)] []) {I : tHI} {J : tHJ} {v1 : Int32} (h : F4_advance_106 n S k kb106 I J v1) : tWG K B 0 0 S I J 106 [some (vR 40), some (vI v1)] [] := by
  refine gBk (pe := 111) hO [o0 (.aload_n 0), oF (.getfield 38) 4 6 127 0, oI (.iconst 2) 2] (by decide +kernel) (And.intro t0 (show tWG K B 0 0 S I J 111 [some (vR 40), some (vI v1)] [vI 2, vI (I 40 6)] from ?_))
  refine gIcNe hO (off := 35) (tgt := 146) (by decide +kernel) (by decide) (fun c8 => ?_) (fun c8 => ?_)
  · have h := h.1 c8
    exact W4_advance_146 hO hR hG t0 hQ hkb106 h
  · have h := h.2 c8
    refine gBk (pe := 129) hO [o0 (.aload_n 0), oI (.sipush 1001) 1001, o0 (.aload_n 0), oF (.getfield 41) 4 7 128 0, oI (.bipush 10) 10, o0 .imul, o0 (.aload_n 0), oF (.getfield 24) 4 2 123 0] (by decide +kernel) (And.intro t0 (And.intro t0 (show tWG K B 0 0 S I J 129 [some (vR 40), some (vI v1)] [vO (sQ S 40 2), vI ((I 40 7) * 10), vI 1001, vR 40] from ?_)))
    obtain ⟨a14, e15, h⟩ := h
    refine gKnow e15 ?_
    refine gBk (pe := 133) hO [o0 (.aload_n 0), oF (.getfield 32) 4 4 125 0] (by decide +kernel) (And.intro t0 (show tWG K B 0 0 S I J 133 [some (vR 40), some (vI v1)] [vI (I 40 4), vR a14, vI ((I 40 7) * 10), vI 1001, vR 40] from ?_))
    refine gCVi_p hO (M9_byteAt (tGr.dyn hG t0 (k := 2) rfl (by decide) e15) h.1) hc9_byteAt (idx := 68) (w := 626) (by decide +kernel) hR (by omega) (tGr.dyn hG t0 (k := 2) rfl (by decide) e15) ⟨by decide, rfl⟩ (vs := [vI (I 40 4)]) (st := [vI ((I 40 7) * 10), vI 1001, vR 40]) ⟨rfl, Nat.le_of_ble_eq_true rfl, rfl⟩ (by decide +kernel) ?_
    have h := h.2
    refine gBk (pe := 140) hO [o0 .iadd, oI (.bipush 48) 48, o0 .isub] (by decide +kernel) (show tWG K B 0 0 S I J 140 [some (vR 40), some (vI v1)] [vI ((((I 40 7) * 10) + (V9_byteAt S I J a14 (I 40 4))) - 48), vI 1001, vR 40] from ?_)
    refine gMin hO (idx := 75) (w := 625) (by decide +kernel) hR (by omega) (st := [vR 40]) (Nat.le_of_ble_eq_true rfl) rfl (by decide +kernel) ?_
    refine gBk (pe := 146) hO [oF (.putfield 41) 4 7 128 0] (by decide +kernel) (And.intro t0 (show tWG K B 0 0 S (uI I 40 7 (if ((((I 40 7) * 10) + (V9_byteAt S I J a14 (I 40 4))) - 48) < 1001 then ((((I 40 7) * 10) + (V9_byteAt S I J a14 (I 40 4))) - 48) else 1001)) J 146 [some (vR 40), some (vI v1)] [] from ?_))
    exact W4_advance_146 hO hR hG t0 hQ hkb106 h
theorem W4_advance_L106 {K : tK} {B : tB} {S : tSH} {MC MS : Nat} (hO : tKO K B RX4 cX4_advance 2) (hR : kR K = tRm 3 MC MS) (hG : tGr S) {n : Nat} (t0 : ty S 40 4) {k : tHI → tHJ → Prop} (hQ : tRet K B (tQv B (tPv S k)) 0 0 none) : ∀ (f : Nat) (I : tHI) (J : tHJ) (v1 : Int32), F4_advance_L106 n S k f I J v1 → tWG K B 0 0 S I J 106 [some (vR 40), some (vI v1)] [] := by
  intro f
  induction f with
  | zero => intro I J v1 h; exact h.elim
  | succ f ih => intro I J v1 h; exact W4_advance_106 hO hR hG t0 hQ ih h
set_option maxRecDepth 100000 in
theorem W4_advance_61 {K : tK} {B : tB} {S : tSH} {MC MS : Nat} (hO : tKO K B RX4 cX4_advance 2) (hR : kR K = tRm 3 MC MS) (hG : tGr S) {n : Nat} (t0 : ty S 40 4) {k : tHI → tHJ → Prop} (hQ : tRet K B (tQv B (tPv S k)) 0 0 none) {I : tHI} {J : tHJ} {v1 : Int32} (h : F4_advance_61 n S k I J v1) : tWG K B 0 0 S I J 61 [some (vR 40), some (vI v1)] [] := by
  refine gBk (pe := 74) hO [o0 (.aload_n 0), o0 (.aload_n 0), oF (.getfield 32) 4 4 125 0, oF (.putfield 35) 4 5 126 0, o0 (.aload_n 0), oF (.getfield 32) 4 4 125 0, o0 (.iload_n 1)] (by decide +kernel) (And.intro t0 (And.intro t0 (And.intro t0 (show tWG K B 0 0 S (uI I 40 5 (I 40 4)) J 74 [some (vR 40), some (vI v1)] [vI v1, vI ((uI I 40 5 (I 40 4)) 40 4)] from ?_))))
  refine gIcLt hO (off := 9) (tgt := 83) (by decide +kernel) (by decide) (fun c5 => ?_) (fun c5 => ?_)
  · have h := h.1 c5
    refine gBk (pe := 88) hO [o0 (.aload_n 0), o0 (.aload_n 0), oF (.getfield 24) 4 2 123 0] (by decide +kernel) (And.intro t0 (show tWG K B 0 0 S (uI I 40 5 (I 40 4)) J 88 [some (vR 40), some (vI v1)] [vO (sQ S 40 2), vR 40] from ?_))
    obtain ⟨a6, e7, h⟩ := h
    refine gKnow e7 ?_
    refine gBk (pe := 92) hO [o0 (.aload_n 0), oF (.getfield 32) 4 4 125 0] (by decide +kernel) (And.intro t0 (show tWG K B 0 0 S (uI I 40 5 (I 40 4)) J 92 [some (vR 40), some (vI v1)] [vI ((uI I 40 5 (I 40 4)) 40 4), vR a6, vR 40] from ?_))
    refine gCVi_p hO (M9_byteAt (tGr.dyn hG t0 (k := 2) rfl (by decide) e7) h.1) hc9_byteAt (idx := 68) (w := 626) (by decide +kernel) hR (by omega) (tGr.dyn hG t0 (k := 2) rfl (by decide) e7) ⟨by decide, rfl⟩ (vs := [vI ((uI I 40 5 (I 40 4)) 40 4)]) (st := [vR 40]) ⟨rfl, Nat.le_of_ble_eq_true rfl, rfl⟩ (by decide +kernel) ?_
    have h := h.2
    refine gCSi_p hO (M4_kindOfByte) hc4_kindOfByte (idx := 72) (w := 627) (by decide +kernel) hR (by omega) (vs := [vI (V9_byteAt S (uI I 40 5 (I 40 4)) J a6 ((uI I 40 5 (I 40 4)) 40 4))]) (st := [vR 40]) ⟨rfl, Nat.le_of_ble_eq_true rfl, rfl⟩ (by decide +kernel) ?_
    refine gBk (pe := 106) hO [oF (.putfield 38) 4 6 127 0, o0 (.aload_n 0), oI (.iconst 0) 0, oF (.putfield 41) 4 7 128 0] (by decide +kernel) (And.intro t0 (And.intro t0 (show tWG K B 0 0 S (uI (uI (uI I 40 5 (I 40 4)) 40 6 (V4_kindOfByte (V9_byteAt S (uI I 40 5 (I 40 4)) J a6 ((uI I 40 5 (I 40 4)) 40 4)))) 40 7 0) J 106 [some (vR 40), some (vI v1)] [] from ?_)))
    exact W4_advance_L106 hO hR hG t0 hQ n _ _ _ h
  · have h := h.2 c5
    refine gBk (pe := 82) hO [o0 (.aload_n 0), oI (.iconst 0) 0, oF (.putfield 38) 4 6 127 0] (by decide +kernel) (And.intro t0 (show tWG K B 0 0 S (uI (uI I 40 5 (I 40 4)) 40 6 0) J 82 [some (vR 40), some (vI v1)] [] from ?_))
    exact gVret hO hQ (by decide +kernel) ⟨rfl, h⟩
set_option maxRecDepth 100000 in
theorem W4_advance_24 {K : tK} {B : tB} {S : tSH} {MC MS : Nat} (hO : tKO K B RX4 cX4_advance 2) (hR : kR K = tRm 3 MC MS) (hG : tGr S) {n : Nat} (t0 : ty S 40 4) {k : tHI → tHJ → Prop} (hQ : tRet K B (tQv B (tPv S k)) 0 0 none) {kb24 : tHI → tHJ → Int32 → Prop} (hkb24 : ∀ (I : tHI) (J : tHJ) (v1 : Int32), kb24 I J v1 → tWG K B 0 0 S I J 24 [some (vR 40), some (vI v1)] []) {I : tHI} {J : tHJ} {v1 : Int32} (h : F4_advance_24 n S k kb24 I J v1) : tWG K B 0 0 S I J 24 [some (vR 40), some (vI v1)] [] := by
  refine gBk (pe := 29) hO [o0 (.aload_n 0), oF (.getfield 32) 4 4 125 0, o0 (.iload_n 1)] (by decide +kernel) (And.intro t0 (show tWG K B 0 0 S I J 29 [some (vR 40), some (vI v1)] [vI v1, vI (I 40 4)] from ?_))
  refine gIcGe hO (off := 32) (tgt := 61) (by decide +kernel) (by decide) (fun c4 => ?_) (fun c4 => ?_)
  · have h := h.1 c4
    exact W4_advance_61 hO hR hG t0 hQ h
  · have h := h.2 c4
    refine gBk (pe := 36) hO [o0 (.aload_n 0), oF (.getfield 24) 4 2 123 0] (by decide +kernel) (And.intro t0 (show tWG K B 0 0 S I J 36 [some (vR 40), some (vI v1)] [vO (sQ S 40 2)] from ?_))
    obtain ⟨a16, e17, h⟩ := h
    refine gKnow e17 ?_
    refine gBk (pe := 40) hO [o0 (.aload_n 0), oF (.getfield 32) 4 4 125 0] (by decide +kernel) (And.intro t0 (show tWG K B 0 0 S I J 40 [some (vR 40), some (vI v1)] [vI (I 40 4), vR a16] from ?_))
    refine gCVi_p hO (M9_byteAt (tGr.dyn hG t0 (k := 2) rfl (by decide) e17) h.1) hc9_byteAt (idx := 68) (w := 626) (by decide +kernel) hR (by omega) (tGr.dyn hG t0 (k := 2) rfl (by decide) e17) ⟨by decide, rfl⟩ (vs := [vI (I 40 4)]) (st := []) ⟨rfl, Nat.le_of_ble_eq_true rfl, rfl⟩ (by decide +kernel) ?_
    have h := h.2
    refine gBk (pe := 45) hO [oI (.bipush 32) 32] (by decide +kernel) (show tWG K B 0 0 S I J 45 [some (vR 40), some (vI v1)] [vI 32, vI (V9_byteAt S I J a16 (I 40 4))] from ?_)
    refine gIcNe hO (off := 16) (tgt := 61) (by decide +kernel) (by decide) (fun c18 => ?_) (fun c18 => ?_)
    · have h := h.1 c18
      exact W4_advance_61 hO hR hG t0 hQ h
    · have h := h.2 c18
      refine gBk (pe := 24) hO [o0 (.aload_n 0), o0 .dup, oF (.getfield 32) 4 4 125 0, oI (.iconst 1) 1, o0 .iadd, oF (.putfield 32) 4 4 125 0, o0 (.goto (-34))] (by decide +kernel) (And.intro t0 (And.intro t0 (show tWG K B 0 0 S (uI I 40 4 ((I 40 4) + 1)) J 24 [some (vR 40), some (vI v1)] [] from ?_)))
      exact hkb24 _ _ _ h
theorem W4_advance_L24 {K : tK} {B : tB} {S : tSH} {MC MS : Nat} (hO : tKO K B RX4 cX4_advance 2) (hR : kR K = tRm 3 MC MS) (hG : tGr S) {n : Nat} (t0 : ty S 40 4) {k : tHI → tHJ → Prop} (hQ : tRet K B (tQv B (tPv S k)) 0 0 none) : ∀ (f : Nat) (I : tHI) (J : tHJ) (v1 : Int32), F4_advance_L24 n S k f I J v1 → tWG K B 0 0 S I J 24 [some (vR 40), some (vI v1)] [] := by
  intro f
  induction f with
  | zero => intro I J v1 h; exact h.elim
  | succ f ih => intro I J v1 h; exact W4_advance_24 hO hR hG t0 hQ ih h
set_option maxRecDepth 20000 in
theorem hc4_advance : tCV yX4_advance cX4_advance 2 none 0 := ⟨⟨(List.mem_of_getElem? (i := 623) rfl), (List.mem_of_getElem? (i := 29) (by decide +kernel)), by decide +kernel⟩, (List.mem_of_getElem? (i := 621) (by decide +kernel)), (List.mem_of_getElem? (i := 622) (by decide +kernel))⟩
set_option maxRecDepth 100000 in
theorem M4_advance {l : Launch} {B : tB} {S : tSH} {I : tHI} {J : tHJ} {n : Nat} {k : tHI → tHJ → Prop} (t0 : ty S 40 4) (h : F4_advance n S I J k) : Met l yX4_advance (tWs yX4_advance cX4_advance 2 none) (tRm 3 0 0) (tPc B [vR 40] S I J) (tQv B (tPv S k)) 0 0 (tA B) :=
  tEntry (by decide +kernel) [some (vR 40), none] rfl rfl (Nat.le_of_ble_eq_true rfl) (fun K hl hR hO hQ hG => by
  subst hl
  refine gBk (pe := 5) hO [o0 (.aload_n 0), oF (.getfield 38) 4 6 127 0, oI (.iconst 4) 4] (by decide +kernel) (And.intro t0 (show tWG K B 0 0 S I J 5 [some (vR 40), none] [vI 4, vI (I 40 6)] from ?_))
  refine gIcEq hO (off := 10) (tgt := 15) (by decide +kernel) (by decide) (fun c1 => ?_) (fun c1 => ?_)
  · have h := h.1 c1
    exact gWeak (L' := [none, none]) trivial (W4_advance_15 hO hR hG t0 hQ h)
  · have h := h.2 c1
    refine gBk (pe := 12) hO [o0 (.aload_n 0), oF (.getfield 24) 4 2 123 0] (by decide +kernel) (And.intro t0 (show tWG K B 0 0 S I J 12 [some (vR 40), none] [vO (sQ S 40 2)] from ?_))
    refine gIfnonnull hO (o := (sQ S 40 2)) (off := 4) (tgt := 16) (by decide +kernel) (by decide) (fun a2 e3 => ?_) (fun e3 => ?_)
    · have h := h.2 a2 e3
      refine gBk (pe := 20) hO [o0 (.aload_n 0), oF (.getfield 24) 4 2 123 0] (by decide +kernel) (And.intro t0 (show tWG K B 0 0 S I J 20 [some (vR 40), none] [vO (sQ S 40 2)] from ?_))
      refine gKnow e3 ?_
      refine gBk (pe := 24) hO [oF (.getfield 63) 9 1 624 0, o0 (.istore_n 1)] (by decide +kernel) (And.intro (tGr.dyn hG t0 (k := 2) rfl (by decide) e3) (And.intro (Nat.le_of_ble_eq_true rfl) (show tWG K B 0 0 S I J 24 [some (vR 40), some (vI (I a2 1))] [] from ?_)))
      exact W4_advance_L24 hO hR hG t0 hQ n _ _ _ h
    · have h := h.1 e3
      exact gWeak (L' := [none, none]) trivial (W4_advance_15 hO hR hG t0 hQ h))
set_option maxRecDepth 100000 in
theorem W4_isSign_35 {K : tK} {B : tB} {S : tSH} {MC MS : Nat} (hO : tKO K B RX4 cX4_isSign 2) (hR : kR K = tRm 3 MC MS) (hG : tGr S) {n : Nat} (t0 : ty S 40 4) {k : Int32 → tHI → tHJ → Prop} (hQ : tRet K B (tQi B (tPb S k)) 0 0 (some .boolean)) {I : tHI} {J : tHJ} {s0 : Int32} (h : F4_isSign_35 n S k I J s0) : tWG K B 0 0 S I J 35 [none, none] [vI s0] := by
  exact gZret hO hQ (by decide +kernel) h.1 ⟨rfl, h.1, h.2⟩
set_option maxRecDepth 100000 in
theorem W4_isSign_34 {K : tK} {B : tB} {S : tSH} {MC MS : Nat} (hO : tKO K B RX4 cX4_isSign 2) (hR : kR K = tRm 3 MC MS) (hG : tGr S) {n : Nat} (t0 : ty S 40 4) {k : Int32 → tHI → tHJ → Prop} (hQ : tRet K B (tQi B (tPb S k)) 0 0 (some .boolean)) {I : tHI} {J : tHJ} (h : F4_isSign_34 n S k I J) : tWG K B 0 0 S I J 34 [none, none] [] := by
  refine gBk (pe := 35) hO [oI (.iconst 0) 0] (by decide +kernel) (show tWG K B 0 0 S I J 35 [none, none] [vI 0] from ?_)
  exact W4_isSign_35 hO hR hG t0 hQ h
set_option maxRecDepth 20000 in
theorem hc4_isSign : tCV yX4_isSign cX4_isSign 2 (some .boolean) 1 := ⟨⟨(List.mem_of_getElem? (i := 705) rfl), (List.mem_of_getElem? (i := 29) (by decide +kernel)), by decide +kernel⟩, (List.mem_of_getElem? (i := 703) (by decide +kernel)), (List.mem_of_getElem? (i := 704) (by decide +kernel))⟩
set_option maxRecDepth 100000 in
theorem M4_isSign {l : Launch} {B : tB} {S : tSH} {I : tHI} {J : tHJ} {v1 : Int32} {n : Nat} {k : Int32 → tHI → tHJ → Prop} (t0 : ty S 40 4) (h : F4_isSign n S I J v1 k) : Met l yX4_isSign (tWs yX4_isSign cX4_isSign 2 (some .boolean)) (tRm 3 0 0) (tPc B [vR 40, vI v1] S I J) (tQi B (tPb S k)) 0 0 (tA B) :=
  tEntry (by decide +kernel) [some (vR 40), some (vI v1)] rfl rfl (Nat.le_of_ble_eq_true rfl) (fun K hl hR hO hQ hG => by
  subst hl
  refine gBk (pe := 5) hO [o0 (.aload_n 0), oF (.getfield 38) 4 6 127 0, oI (.iconst 3) 3] (by decide +kernel) (And.intro t0 (show tWG K B 0 0 S I J 5 [some (vR 40), some (vI v1)] [vI 3, vI (I 40 6)] from ?_))
  refine gIcNe hO (off := 29) (tgt := 34) (by decide +kernel) (by decide) (fun c1 => ?_) (fun c1 => ?_)
  · have h := h.1 c1
    exact gWeak (L' := [none, none]) trivial (W4_isSign_34 hO hR hG t0 hQ h)
  · have h := h.2 c1
    refine gBk (pe := 12) hO [o0 (.aload_n 0), oF (.getfield 24) 4 2 123 0] (by decide +kernel) (And.intro t0 (show tWG K B 0 0 S I J 12 [some (vR 40), some (vI v1)] [vO (sQ S 40 2)] from ?_))
    refine gIfnull hO (o := (sQ S 40 2)) (off := 22) (tgt := 34) (by decide +kernel) (by decide) (fun e3 => ?_) (fun a2 e3 => ?_)
    · have h := h.1 e3
      exact gWeak (L' := [none, none]) trivial (W4_isSign_34 hO hR hG t0 hQ h)
    · have h := h.2 a2 e3
      refine gBk (pe := 19) hO [o0 (.aload_n 0), oF (.getfield 24) 4 2 123 0] (by decide +kernel) (And.intro t0 (show tWG K B 0 0 S I J 19 [some (vR 40), some (vI v1)] [vO (sQ S 40 2)] from ?_))
      refine gKnow e3 ?_
      refine gBk (pe := 23) hO [o0 (.aload_n 0), oF (.getfield 35) 4 5 126 0] (by decide +kernel) (And.intro t0 (show tWG K B 0 0 S I J 23 [some (vR 40), some (vI v1)] [vI (I 40 5), vR a2] from ?_))
      refine gCVi_p hO (M9_byteAt (tGr.dyn hG t0 (k := 2) rfl (by decide) e3) h.1) hc9_byteAt (idx := 68) (w := 626) (by decide +kernel) hR (by omega) (tGr.dyn hG t0 (k := 2) rfl (by decide) e3) ⟨by decide, rfl⟩ (vs := [vI (I 40 5)]) (st := []) ⟨rfl, Nat.le_of_ble_eq_true rfl, rfl⟩ (by decide +kernel) ?_
      have h := h.2
      refine gBk (pe := 27) hO [o0 (.iload_n 1)] (by decide +kernel) (show tWG K B 0 0 S I J 27 [some (vR 40), some (vI v1)] [vI v1, vI (V9_byteAt S I J a2 (I 40 5))] from ?_)
      have hj4 : ∀ (m5 : Int32), m5 = (if (V9_byteAt S I J a2 (I 40 5)) = v1 then (1 : Int32) else 0) → tWG K B 0 0 S I J 35 [none, none] [vI m5] := by
        intro m5 em5
        subst em5
        exact gZret hO hQ (by decide +kernel) (bz_if (Or.inr rfl) (Or.inl rfl)) ⟨rfl, (bz_if (Or.inr rfl) (Or.inl rfl)), h⟩
      refine gIcNe hO (off := 7) (tgt := 34) (by decide +kernel) (by decide) (fun c6 => ?_) (fun c6 => ?_)
      · refine gBk (pe := 35) hO [oI (.iconst 0) 0] (by decide +kernel) (show tWG K B 0 0 S I J 35 [some (vR 40), some (vI v1)] [vI 0] from ?_)
        exact gWeak (L' := [none, none]) trivial (hj4 _ (Eq.symm (if_neg c6)))
      · refine gBk (pe := 35) hO [oI (.iconst 1) 1, o0 (.goto 4)] (by decide +kernel) (show tWG K B 0 0 S I J 35 [some (vR 40), some (vI v1)] [vI 1] from ?_)
        exact gWeak (L' := [none, none]) trivial (hj4 _ (Eq.symm (if_pos c6))))
set_option maxRecDepth 100000 in
theorem W4_wordIn_15 {K : tK} {B : tB} {S : tSH} {MC MS : Nat} (hO : tKO K B RX4 cX4_wordIn 7) (hR : kR K = tRm 6 MC MS) (hG : tGr S) {n : Nat} (t0 : ty S 40 4) {k : Int32 → tHI → tHJ → Prop} (hQ : tRet K B (tQi B (tPi S k)) 0 0 (some .int)) {I : tHI} {J : tHJ} (h : F4_wordIn_15 n S k I J) : tWG K B 0 0 S I J 15 [none, none, none, none, none, none, none] [] := by
  refine gBk (pe := 16) hO [oI (.iconst (-1)) (-1)] (by decide +kernel) (show tWG K B 0 0 S I J 16 [none, none, none, none, none, none, none] [vI (-1)] from ?_)
  exact gIret hO hQ (by decide +kernel) ⟨rfl, h⟩
set_option maxRecDepth 100000 in
theorem W4_wordIn_119 {K : tK} {B : tB} {S : tSH} {MC MS : Nat} (hO : tKO K B RX4 cX4_wordIn 7) (hR : kR K = tRm 6 MC MS) (hG : tGr S) {n : Nat} (t0 : ty S 40 4) {k : Int32 → tHI → tHJ → Prop} (hQ : tRet K B (tQi B (tPi S k)) 0 0 (some .int)) {kb30 : tHI → tHJ → Nat → Int32 → Int32 → Int32 → Int32 → Prop} (hkb30 : ∀ (I : tHI) (J : tHJ) (i1 : Nat) (v2 : Int32) (v3 : Int32) (v4 : Int32) (v5 : Int32), i1 < 11 → kb30 I J i1 v2 v3 v4 v5 → tWG K B 0 0 S I J 30 [some (vR 40), some (vA (tadK B i1)), some (vI v2), some (vI v3), some (vI v4), some (vI v5), none] []) {I : tHI} {J : tHJ} {i1 : Nat} {v2 : Int32} {v3 : Int32} {v4 : Int32} {v5 : Int32} (t1 : i1 < 11) (h : F4_wordIn_119 n S k kb30 I J i1 v2 v3 v4 v5) : tWG K B 0 0 S I J 119 [some (vR 40), some (vA (tadK B i1)), some (vI v2), some (vI v3), some (vI v4), some (vI v5), none] [] := by
  refine gBk (pe := 30) hO [oI (.iinc 5 1) 1, o0 (.goto (-92))] (by decide +kernel) (show tWG K B 0 0 S I J 30 [some (vR 40), some (vA (tadK B i1)), some (vI v2), some (vI v3), some (vI v4), some (vI (v5 + 1)), none] [] from ?_)
  exact hkb30 _ _ _ _ _ _ _ t1 h
set_option maxRecDepth 100000 in
theorem W4_wordIn_108 {K : tK} {B : tB} {S : tSH} {MC MS : Nat} (hO : tKO K B RX4 cX4_wordIn 7) (hR : kR K = tRm 6 MC MS) (hG : tGr S) {n : Nat} (t0 : ty S 40 4) {k : Int32 → tHI → tHJ → Prop} (hQ : tRet K B (tQi B (tPi S k)) 0 0 (some .int)) {kb30 : tHI → tHJ → Nat → Int32 → Int32 → Int32 → Int32 → Prop} (hkb30 : ∀ (I : tHI) (J : tHJ) (i1 : Nat) (v2 : Int32) (v3 : Int32) (v4 : Int32) (v5 : Int32), i1 < 11 → kb30 I J i1 v2 v3 v4 v5 → tWG K B 0 0 S I J 30 [some (vR 40), some (vA (tadK B i1)), some (vI v2), some (vI v3), some (vI v4), some (vI v5), none] []) {I : tHI} {J : tHJ} {i1 : Nat} {v2 : Int32} {v5 : Int32} (t1 : i1 < 11) (h : F4_wordIn_108 n S k kb30 I J i1 v2 v5) : tWG K B 0 0 S I J 108 [some (vR 40), some (vA (tadK B i1)), some (vI v2), none, none, some (vI v5), none] [] := by
  refine gBk (pe := 119) hO [oI (.iinc 2 1) 1, o0 (.aload_n 0), oF (.getfield 35) 4 5 126 0, o0 (.istore_n 3), oI (.iconst 1) 1, o0 (.istore 4)] (by decide +kernel) (And.intro t0 (And.intro (Nat.le_of_ble_eq_true rfl) (And.intro (Nat.le_of_ble_eq_true rfl) (show tWG K B 0 0 S I J 119 [some (vR 40), some (vA (tadK B i1)), some (vI (v2 + 1)), some (vI (I 40 5)), some (vI 1), some (vI v5), none] [] from ?_))))
  exact W4_wordIn_119 hO hR hG t0 hQ hkb30 t1 h
set_option maxRecDepth 100000 in
theorem W4_wordIn_85 {K : tK} {B : tB} {S : tSH} {MC MS : Nat} (hO : tKO K B RX4 cX4_wordIn 7) (hR : kR K = tRm 6 MC MS) (hG : tGr S) {n : Nat} (t0 : ty S 40 4) {k : Int32 → tHI → tHJ → Prop} (hQ : tRet K B (tQi B (tPi S k)) 0 0 (some .int)) {kb30 : tHI → tHJ → Nat → Int32 → Int32 → Int32 → Int32 → Prop} (hkb30 : ∀ (I : tHI) (J : tHJ) (i1 : Nat) (v2 : Int32) (v3 : Int32) (v4 : Int32) (v5 : Int32), i1 < 11 → kb30 I J i1 v2 v3 v4 v5 → tWG K B 0 0 S I J 30 [some (vR 40), some (vA (tadK B i1)), some (vI v2), some (vI v3), some (vI v4), some (vI v5), none] []) {I : tHI} {J : tHJ} {i1 : Nat} {v2 : Int32} {v3 : Int32} {v5 : Int32} {s0 : Int32} (t1 : i1 < 11) (h : F4_wordIn_85 n S k kb30 I J i1 v2 v3 v5 s0) : tWG K B 0 0 S I J 85 [some (vR 40), some (vA (tadK B i1)), some (vI v2), some (vI v3), none, some (vI v5), none] [vI s0] := by
  refine gBk (pe := 119) hO [o0 (.istore 4), oI (.iinc 3 1) 1, o0 (.goto 29)] (by decide +kernel) (And.intro (Nat.le_of_ble_eq_true rfl) (show tWG K B 0 0 S I J 119 [some (vR 40), some (vA (tadK B i1)), some (vI v2), some (vI (v3 + 1)), some (vI s0), some (vI v5), none] [] from ?_))
  exact W4_wordIn_119 hO hR hG t0 hQ hkb30 t1 h
set_option maxRecDepth 100000 in
theorem W4_wordIn_84 {K : tK} {B : tB} {S : tSH} {MC MS : Nat} (hO : tKO K B RX4 cX4_wordIn 7) (hR : kR K = tRm 6 MC MS) (hG : tGr S) {n : Nat} (t0 : ty S 40 4) {k : Int32 → tHI → tHJ → Prop} (hQ : tRet K B (tQi B (tPi S k)) 0 0 (some .int)) {kb30 : tHI → tHJ → Nat → Int32 → Int32 → Int32 → Int32 → Prop} (hkb30 : ∀ (I : tHI) (J : tHJ) (i1 : Nat) (v2 : Int32) (v3 : Int32) (v4 : Int32) (v5 : Int32), i1 < 11 → kb30 I J i1 v2 v3 v4 v5 → tWG K B 0 0 S I J 30 [some (vR 40), some (vA (tadK B i1)), some (vI v2), some (vI v3), some (vI v4), some (vI v5), none] []) {I : tHI} {J : tHJ} {i1 : Nat} {v2 : Int32} {v3 : Int32} {v5 : Int32} (t1 : i1 < 11) (h : F4_wordIn_84 n S k kb30 I J i1 v2 v3 v5) : tWG K B 0 0 S I J 84 [some (vR 40), some (vA (tadK B i1)), some (vI v2), some (vI v3), none, some (vI v5), none] [] := by
  refine gBk (pe := 85) hO [oI (.iconst 0) 0] (by decide +kernel) (show tWG K B 0 0 S I J 85 [some (vR 40), some (vA (tadK B i1)), some (vI v2), some (vI v3), none, some (vI v5), none] [vI 0] from ?_)
  exact W4_wordIn_85 hO hR hG t0 hQ hkb30 t1 h
set_option maxRecDepth 100000 in
theorem W4_wordIn_30 {K : tK} {B : tB} {S : tSH} {MC MS : Nat} (hO : tKO K B RX4 cX4_wordIn 7) (hR : kR K = tRm 6 MC MS) (hG : tGr S) {n : Nat} (t0 : ty S 40 4) {k : Int32 → tHI → tHJ → Prop} (hQ : tRet K B (tQi B (tPi S k)) 0 0 (some .int)) {kb30 : tHI → tHJ → Nat → Int32 → Int32 → Int32 → Int32 → Prop} (hkb30 : ∀ (I : tHI) (J : tHJ) (i1 : Nat) (v2 : Int32) (v3 : Int32) (v4 : Int32) (v5 : Int32), i1 < 11 → kb30 I J i1 v2 v3 v4 v5 → tWG K B 0 0 S I J 30 [some (vR 40), some (vA (tadK B i1)), some (vI v2), some (vI v3), some (vI v4), some (vI v5), none] []) {I : tHI} {J : tHJ} {i1 : Nat} {v2 : Int32} {v3 : Int32} {v4 : Int32} {v5 : Int32} (t1 : i1 < 11) (h : F4_wordIn_30 n S k kb30 I J i1 v2 v3 v4 v5) : tWG K B 0 0 S I J 30 [some (vR 40), some (vA (tadK B i1)), some (vI v2), some (vI v3), some (vI v4), some (vI v5), none] [] := by
  refine gBk (pe := 33) hO [o0 (.iload 5), o0 (.aload_n 1)] (by decide +kernel) (show tWG K B 0 0 S I J 33 [some (vR 40), some (vA (tadK B i1)), some (vI v2), some (vI v3), some (vI v4), some (vI v5), none] [vA (tadK B i1), vI v5] from ?_)
  refine gCVA hO (MJ0_length t1) hcJ0_length_8abf5 t1 rfl (idx := 81) (w := 638) (by decide +kernel) hR (by omega) (vs := []) (st := [vI v5]) ⟨rfl, Nat.le_of_ble_eq_true rfl, rfl⟩ (by decide +kernel) ?_
  refine gIcGe hO (off := 89) (tgt := 125) (by decide +kernel) (by decide) (fun c4 => ?_) (fun c4 => ?_)
  · have h := h.1 c4
    refine gBk (pe := 126) hO [oI (.iconst (-1)) (-1)] (by decide +kernel) (show tWG K B 0 0 S I J 126 [some (vR 40), some (vA (tadK B i1)), some (vI v2), some (vI v3), some (vI v4), some (vI v5), none] [vI (-1)] from ?_)
    exact gIret hO hQ (by decide +kernel) ⟨rfl, h⟩
  · have h := h.2 c4
    refine gBk (pe := 42) hO [o0 (.aload_n 1), o0 (.iload 5)] (by decide +kernel) (show tWG K B 0 0 S I J 42 [some (vR 40), some (vA (tadK B i1)), some (vI v2), some (vI v3), some (vI v4), some (vI v5), none] [vI v5, vA (tadK B i1)] from ?_)
    refine gCVA hO (MJ0_charAt t1 h.1) hcJ0_charAt_5068e t1 rfl (idx := 87) (w := 650) (by decide +kernel) hR (by omega) (vs := [vI v5]) (st := []) ⟨rfl, Nat.le_of_ble_eq_true rfl, rfl⟩ (by decide +kernel) ?_
    have h := h.2
    refine gBk (pe := 51) hO [o0 (.istore 6), o0 (.iload 6), oI (.bipush 32) 32] (by decide +kernel) (And.intro (Nat.le_of_ble_eq_true rfl) (show tWG K B 0 0 S I J 51 [some (vR 40), some (vA (tadK B i1)), some (vI v2), some (vI v3), some (vI v4), some (vI v5), some (vI (tSch i1 v5))] [vI 32, vI (tSch i1 v5)] from ?_))
    refine gIcEq hO (off := 42) (tgt := 93) (by decide +kernel) (by decide) (fun c5 => ?_) (fun c5 => ?_)
    · have h := h.1 c5
      refine gBk (pe := 95) hO [o0 (.iload 4)] (by decide +kernel) (show tWG K B 0 0 S I J 95 [some (vR 40), some (vA (tadK B i1)), some (vI v2), some (vI v3), some (vI v4), some (vI v5), some (vI (tSch i1 v5))] [vI v4] from ?_)
      refine gIfEq hO (off := 13) (tgt := 108) (by decide +kernel) (by decide) (fun c6 => ?_) (fun c6 => ?_)
      · have h := h.1 c6
        exact gWeak (L' := [some (vR 40), some (vA (tadK B i1)), some (vI v2), none, none, some (vI v5), none]) ⟨rfl, rfl, rfl, rfl, trivial⟩ (W4_wordIn_108 hO hR hG t0 hQ hkb30 t1 h)
      · have h := h.2 c6
        refine gBk (pe := 103) hO [o0 (.iload_n 3), o0 (.aload_n 0), oF (.getfield 32) 4 4 125 0] (by decide +kernel) (And.intro t0 (show tWG K B 0 0 S I J 103 [some (vR 40), some (vA (tadK B i1)), some (vI v2), some (vI v3), some (vI v4), some (vI v5), some (vI (tSch i1 v5))] [vI (I 40 4), vI v3] from ?_))
        refine gIcNe hO (off := 5) (tgt := 108) (by decide +kernel) (by decide) (fun c7 => ?_) (fun c7 => ?_)
        · have h := h.1 c7
          exact gWeak (L' := [some (vR 40), some (vA (tadK B i1)), some (vI v2), none, none, some (vI v5), none]) ⟨rfl, rfl, rfl, rfl, trivial⟩ (W4_wordIn_108 hO hR hG t0 hQ hkb30 t1 h)
        · have h := h.2 c7
          refine gBk (pe := 107) hO [o0 (.iload_n 2)] (by decide +kernel) (show tWG K B 0 0 S I J 107 [some (vR 40), some (vA (tadK B i1)), some (vI v2), some (vI v3), some (vI v4), some (vI v5), some (vI (tSch i1 v5))] [vI v2] from ?_)
          exact gIret hO hQ (by decide +kernel) ⟨rfl, h⟩
    · have h := h.2 c5
      refine gBk (pe := 56) hO [o0 (.iload 4)] (by decide +kernel) (show tWG K B 0 0 S I J 56 [some (vR 40), some (vA (tadK B i1)), some (vI v2), some (vI v3), some (vI v4), some (vI v5), some (vI (tSch i1 v5))] [vI v4] from ?_)
      refine gIfEq hO (off := 28) (tgt := 84) (by decide +kernel) (by decide) (fun c8 => ?_) (fun c8 => ?_)
      · have h := h.1 c8
        exact gWeak (L' := [some (vR 40), some (vA (tadK B i1)), some (vI v2), some (vI v3), none, some (vI v5), none]) ⟨rfl, rfl, rfl, rfl, rfl, trivial⟩ (W4_wordIn_84 hO hR hG t0 hQ hkb30 t1 h)
      · have h := h.2 c8
        refine gBk (pe := 64) hO [o0 (.iload_n 3), o0 (.aload_n 0), oF (.getfield 32) 4 4 125 0] (by decide +kernel) (And.intro t0 (show tWG K B 0 0 S I J 64 [some (vR 40), some (vA (tadK B i1)), some (vI v2), some (vI v3), some (vI v4), some (vI v5), some (vI (tSch i1 v5))] [vI (I 40 4), vI v3] from ?_))
        refine gIcGe hO (off := 20) (tgt := 84) (by decide +kernel) (by decide) (fun c9 => ?_) (fun c9 => ?_)
        · have h := h.1 c9
          exact gWeak (L' := [some (vR 40), some (vA (tadK B i1)), some (vI v2), some (vI v3), none, some (vI v5), none]) ⟨rfl, rfl, rfl, rfl, rfl, trivial⟩ (W4_wordIn_84 hO hR hG t0 hQ hkb30 t1 h)
        · have h := h.2 c9
          refine gBk (pe := 71) hO [o0 (.aload_n 0), oF (.getfield 24) 4 2 123 0] (by decide +kernel) (And.intro t0 (show tWG K B 0 0 S I J 71 [some (vR 40), some (vA (tadK B i1)), some (vI v2), some (vI v3), some (vI v4), some (vI v5), some (vI (tSch i1 v5))] [vO (sQ S 40 2)] from ?_))
          obtain ⟨a10, e11, h⟩ := h
          refine gKnow e11 ?_
          refine gBk (pe := 72) hO [o0 (.iload_n 3)] (by decide +kernel) (show tWG K B 0 0 S I J 72 [some (vR 40), some (vA (tadK B i1)), some (vI v2), some (vI v3), some (vI v4), some (vI v5), some (vI (tSch i1 v5))] [vI v3, vR a10] from ?_)
          refine gCVi_p hO (M9_byteAt (tGr.dyn hG t0 (k := 2) rfl (by decide) e11) h.1) hc9_byteAt (idx := 68) (w := 626) (by decide +kernel) hR (by omega) (tGr.dyn hG t0 (k := 2) rfl (by decide) e11) ⟨by decide, rfl⟩ (vs := [vI v3]) (st := []) ⟨rfl, Nat.le_of_ble_eq_true rfl, rfl⟩ (by decide +kernel) ?_
          have h := h.2
          refine gBk (pe := 77) hO [o0 (.iload 6)] (by decide +kernel) (show tWG K B 0 0 S I J 77 [some (vR 40), some (vA (tadK B i1)), some (vI v2), some (vI v3), some (vI v4), some (vI v5), some (vI (tSch i1 v5))] [vI (tSch i1 v5), vI (V9_byteAt S I J a10 v3)] from ?_)
          have hj12 : ∀ (m13 : Int32), m13 = (if (V9_byteAt S I J a10 v3) = (tSch i1 v5) then (1 : Int32) else 0) → tWG K B 0 0 S I J 85 [some (vR 40), some (vA (tadK B i1)), some (vI v2), some (vI v3), none, some (vI v5), none] [vI m13] := by
            intro m13 em13
            subst em13
            refine gBk (pe := 119) hO [o0 (.istore 4), oI (.iinc 3 1) 1, o0 (.goto 29)] (by decide +kernel) (And.intro (Nat.le_of_ble_eq_true rfl) (show tWG K B 0 0 S I J 119 [some (vR 40), some (vA (tadK B i1)), some (vI v2), some (vI (v3 + 1)), some (vI (if (V9_byteAt S I J a10 v3) = (tSch i1 v5) then (1 : Int32) else 0)), some (vI v5), none] [] from ?_))
            exact W4_wordIn_119 hO hR hG t0 hQ hkb30 t1 h
          refine gIcNe hO (off := 7) (tgt := 84) (by decide +kernel) (by decide) (fun c14 => ?_) (fun c14 => ?_)
          · refine gBk (pe := 85) hO [oI (.iconst 0) 0] (by decide +kernel) (show tWG K B 0 0 S I J 85 [some (vR 40), some (vA (tadK B i1)), some (vI v2), some (vI v3), some (vI v4), some (vI v5), some (vI (tSch i1 v5))] [vI 0] from ?_)
            exact gWeak (L' := [some (vR 40), some (vA (tadK B i1)), some (vI v2), some (vI v3), none, some (vI v5), none]) ⟨rfl, rfl, rfl, rfl, rfl, trivial⟩ (hj12 _ (Eq.symm (if_neg c14)))
          · refine gBk (pe := 85) hO [oI (.iconst 1) 1, o0 (.goto 4)] (by decide +kernel) (show tWG K B 0 0 S I J 85 [some (vR 40), some (vA (tadK B i1)), some (vI v2), some (vI v3), some (vI v4), some (vI v5), some (vI (tSch i1 v5))] [vI 1] from ?_)
            exact gWeak (L' := [some (vR 40), some (vA (tadK B i1)), some (vI v2), some (vI v3), none, some (vI v5), none]) ⟨rfl, rfl, rfl, rfl, rfl, trivial⟩ (hj12 _ (Eq.symm (if_pos c14)))
theorem W4_wordIn_L30 {K : tK} {B : tB} {S : tSH} {MC MS : Nat} (hO : tKO K B RX4 cX4_wordIn 7) (hR : kR K = tRm 6 MC MS) (hG : tGr S) {n : Nat} (t0 : ty S 40 4) {k : Int32 → tHI → tHJ → Prop} (hQ : tRet K B (tQi B (tPi S k)) 0 0 (some .int)) : ∀ (f : Nat) (I : tHI) (J : tHJ) (i1 : Nat) (v2 : Int32) (v3 : Int32) (v4 : Int32) (v5 : Int32), (i1 < 11) → F4_wordIn_L30 n S k f I J i1 v2 v3 v4 v5 → tWG K B 0 0 S I J 30 [some (vR 40), some (vA (tadK B i1)), some (vI v2), some (vI v3), some (vI v4), some (vI v5), none] [] := by
  intro f
  induction f with
  | zero => intro I J i1 v2 v3 v4 v5 t1 h; exact h.elim
  | succ f ih => intro I J i1 v2 v3 v4 v5 t1 h; exact W4_wordIn_30 hO hR hG t0 hQ ih t1 h
set_option maxRecDepth 20000 in
theorem hc4_wordIn : tCV yX4_wordIn cX4_wordIn 7 (some .int) 1 := ⟨⟨(List.mem_of_getElem? (i := 637) rfl), (List.mem_of_getElem? (i := 29) (by decide +kernel)), by decide +kernel⟩, (List.mem_of_getElem? (i := 635) (by decide +kernel)), (List.mem_of_getElem? (i := 636) (by decide +kernel))⟩
set_option maxRecDepth 100000 in
theorem M4_wordIn {l : Launch} {B : tB} {S : tSH} {I : tHI} {J : tHJ} {i1 : Nat} {n : Nat} {k : Int32 → tHI → tHJ → Prop} (t0 : ty S 40 4) (t1 : i1 < 11) (h : F4_wordIn n S I J i1 k) : Met l yX4_wordIn (tWs yX4_wordIn cX4_wordIn 7 (some .int)) (tRm 6 0 0) (tPc B [vR 40, vA (tadK B i1)] S I J) (tQi B (tPi S k)) 0 0 (tA B) :=
  tEntry (by decide +kernel) [some (vR 40), some (vA (tadK B i1)), none, none, none, none, none] rfl rfl (Nat.le_of_ble_eq_true rfl) (fun K hl hR hO hQ hG => by
  subst hl
  refine gBk (pe := 5) hO [o0 (.aload_n 0), oF (.getfield 38) 4 6 127 0, oI (.iconst 1) 1] (by decide +kernel) (And.intro t0 (show tWG K B 0 0 S I J 5 [some (vR 40), some (vA (tadK B i1)), none, none, none, none, none] [vI 1, vI (I 40 6)] from ?_))
  refine gIcNe hO (off := 10) (tgt := 15) (by decide +kernel) (by decide) (fun c1 => ?_) (fun c1 => ?_)
  · have h := h.1 c1
    exact gWeak (L' := [none, none, none, none, none, none, none]) trivial (W4_wordIn_15 hO hR hG t0 hQ h)
  · have h := h.2 c1
    refine gBk (pe := 12) hO [o0 (.aload_n 0), oF (.getfield 24) 4 2 123 0] (by decide +kernel) (And.intro t0 (show tWG K B 0 0 S I J 12 [some (vR 40), some (vA (tadK B i1)), none, none, none, none, none] [vO (sQ S 40 2)] from ?_))
    refine gIfnonnull hO (o := (sQ S 40 2)) (off := 5) (tgt := 17) (by decide +kernel) (by decide) (fun a2 e3 => ?_) (fun e3 => ?_)
    · have h := h.2 a2 e3
      refine gBk (pe := 30) hO [oI (.iconst 0) 0, o0 (.istore_n 2), o0 (.aload_n 0), oF (.getfield 35) 4 5 126 0, o0 (.istore_n 3), oI (.iconst 1) 1, o0 (.istore 4), oI (.iconst 0) 0, o0 (.istore 5)] (by decide +kernel) (And.intro (Nat.le_of_ble_eq_true rfl) (And.intro t0 (And.intro (Nat.le_of_ble_eq_true rfl) (And.intro (Nat.le_of_ble_eq_true rfl) (And.intro (Nat.le_of_ble_eq_true rfl) (show tWG K B 0 0 S I J 30 [some (vR 40), some (vA (tadK B i1)), some (vI 0), some (vI (I 40 5)), some (vI 1), some (vI 0), none] [] from ?_))))))
      exact W4_wordIn_L30 hO hR hG t0 hQ n _ _ _ _ _ _ _ t1 h
    · have h := h.1 e3
      exact gWeak (L' := [none, none, none, none, none, none, none]) trivial (W4_wordIn_15 hO hR hG t0 hQ h))
set_option maxRecDepth 100000 in
theorem W4_expectSign_19 {K : tK} {B : tB} {S : tSH} {MC MS : Nat} (hO : tKO K B RX4 cX4_expectSign 2) (hR : kR K = tRm 4 MC MS) (hG : tGr S) {n : Nat} (t0 : ty S 40 4) {k : tHI → tHJ → Prop} (hQ : tRet K B (tQv B (tPv S k)) 0 0 none) {I : tHI} {J : tHJ} (h : F4_expectSign_19 n S k I J) : tWG K B 0 0 S I J 19 [none, none] [] := by
  exact gVret hO hQ (by decide +kernel) ⟨rfl, h⟩
set_option maxRecDepth 20000 in
theorem hc4_expectSign : tCV yX4_expectSign cX4_expectSign 2 none 1 := ⟨⟨(List.mem_of_getElem? (i := 714) rfl), (List.mem_of_getElem? (i := 29) (by decide +kernel)), by decide +kernel⟩, (List.mem_of_getElem? (i := 712) (by decide +kernel)), (List.mem_of_getElem? (i := 713) (by decide +kernel))⟩
set_option maxRecDepth 100000 in
theorem M4_expectSign {l : Launch} {B : tB} {S : tSH} {I : tHI} {J : tHJ} {v1 : Int32} {n : Nat} {k : tHI → tHJ → Prop} (t0 : ty S 40 4) (h : F4_expectSign n S I J v1 k) : Met l yX4_expectSign (tWs yX4_expectSign cX4_expectSign 2 none) (tRm 4 0 0) (tPc B [vR 40, vI v1] S I J) (tQv B (tPv S k)) 0 0 (tA B) :=
  tEntry (by decide +kernel) [some (vR 40), some (vI v1)] rfl rfl (Nat.le_of_ble_eq_true rfl) (fun K hl hR hO hQ hG => by
  subst hl
  refine gBk (pe := 2) hO [o0 (.aload_n 0), o0 (.iload_n 1)] (by decide +kernel) (show tWG K B 0 0 S I J 2 [some (vR 40), some (vI v1)] [vI v1, vR 40] from ?_)
  refine gCVi_b hO (M4_isSign t0 h) hc4_isSign (idx := 56) (w := 702) (by decide +kernel) hR (by omega) t0 ⟨by decide, rfl⟩ (vs := [vI v1]) (st := []) ⟨rfl, Nat.le_of_ble_eq_true rfl, rfl⟩ (by decide +kernel) (fun x3 I1 J2 z4 h => ?_)
  have h := h z4
  refine gIfEq hO (off := 10) (tgt := 15) (by decide +kernel) (by decide) (fun c5 => ?_) (fun c5 => ?_)
  · have h := h.1 c5
    refine gBk (pe := 16) hO [o0 (.aload_n 0)] (by decide +kernel) (show tWG K B 0 0 S I1 J2 16 [some (vR 40), some (vI v1)] [vR 40] from ?_)
    refine gCVv_c hO (M4_fail t0 h) hc4_fail (idx := 60) (w := 687) (by decide +kernel) hR (by omega) t0 ⟨by decide, rfl⟩ (vs := []) (st := []) ⟨rfl, Nat.le_of_ble_eq_true rfl, rfl⟩ (by decide +kernel) (fun I6 J7 h => ?_)
    exact gWeak (L' := [none, none]) trivial (W4_expectSign_19 hO hR hG t0 hQ h)
  · have h := h.2 c5
    refine gBk (pe := 9) hO [o0 (.aload_n 0)] (by decide +kernel) (show tWG K B 0 0 S I1 J2 9 [some (vR 40), some (vI v1)] [vR 40] from ?_)
    refine gCVv_c hO (M4_advance t0 h) hc4_advance (idx := 50) (w := 620) (by decide +kernel) hR (by omega) t0 ⟨by decide, rfl⟩ (vs := []) (st := []) ⟨rfl, Nat.le_of_ble_eq_true rfl, rfl⟩ (by decide +kernel) (fun I8 J9 h => ?_)
    refine gBk (pe := 19) hO [o0 (.goto 7)] (by decide +kernel) (show tWG K B 0 0 S I8 J9 19 [some (vR 40), some (vI v1)] [] from ?_)
    exact gWeak (L' := [none, none]) trivial (W4_expectSign_19 hO hR hG t0 hQ h))
set_option maxRecDepth 100000 in
theorem W4_expectWord_19 {K : tK} {B : tB} {S : tSH} {MC MS : Nat} (hO : tKO K B RX4 cX4_expectWord 2) (hR : kR K = tRm 7 MC MS) (hG : tGr S) {n : Nat} (t0 : ty S 40 4) {k : tHI → tHJ → Prop} (hQ : tRet K B (tQv B (tPv S k)) 0 0 none) {I : tHI} {J : tHJ} (h : F4_expectWord_19 n S k I J) : tWG K B 0 0 S I J 19 [none, none] [] := by
  exact gVret hO hQ (by decide +kernel) ⟨rfl, h⟩
set_option maxRecDepth 20000 in
theorem hc4_expectWord : tCV yX4_expectWord cX4_expectWord 2 none 1 := ⟨⟨(List.mem_of_getElem? (i := 726) rfl), (List.mem_of_getElem? (i := 29) (by decide +kernel)), by decide +kernel⟩, (List.mem_of_getElem? (i := 724) (by decide +kernel)), (List.mem_of_getElem? (i := 725) (by decide +kernel))⟩
set_option maxRecDepth 100000 in
theorem M4_expectWord {l : Launch} {B : tB} {S : tSH} {I : tHI} {J : tHJ} {i1 : Nat} {n : Nat} {k : tHI → tHJ → Prop} (t0 : ty S 40 4) (t1 : i1 < 11) (h : F4_expectWord n S I J i1 k) : Met l yX4_expectWord (tWs yX4_expectWord cX4_expectWord 2 none) (tRm 7 0 0) (tPc B [vR 40, vA (tadK B i1)] S I J) (tQv B (tPv S k)) 0 0 (tA B) :=
  tEntry (by decide +kernel) [some (vR 40), some (vA (tadK B i1))] rfl rfl (Nat.le_of_ble_eq_true rfl) (fun K hl hR hO hQ hG => by
  subst hl
  refine gBk (pe := 2) hO [o0 (.aload_n 0), o0 (.aload_n 1)] (by decide +kernel) (show tWG K B 0 0 S I J 2 [some (vR 40), some (vA (tadK B i1))] [vA (tadK B i1), vR 40] from ?_)
  refine gCVi_c hO (M4_wordIn t0 t1 h) hc4_wordIn (idx := 91) (w := 634) (by decide +kernel) hR (by omega) t0 ⟨by decide, rfl⟩ (vs := [vA (tadK B i1)]) (st := []) ⟨rfl, Nat.le_of_ble_eq_true rfl, rfl⟩ (by decide +kernel) (fun x3 I1 J2 h => ?_)
  refine gIfNe hO (off := 10) (tgt := 15) (by decide +kernel) (by decide) (fun c4 => ?_) (fun c4 => ?_)
  · have h := h.1 c4
    refine gBk (pe := 16) hO [o0 (.aload_n 0)] (by decide +kernel) (show tWG K B 0 0 S I1 J2 16 [some (vR 40), some (vA (tadK B i1))] [vR 40] from ?_)
    refine gCVv_c hO (M4_fail t0 h) hc4_fail (idx := 60) (w := 687) (by decide +kernel) hR (by omega) t0 ⟨by decide, rfl⟩ (vs := []) (st := []) ⟨rfl, Nat.le_of_ble_eq_true rfl, rfl⟩ (by decide +kernel) (fun I5 J6 h => ?_)
    exact gWeak (L' := [none, none]) trivial (W4_expectWord_19 hO hR hG t0 hQ h)
  · have h := h.2 c4
    refine gBk (pe := 9) hO [o0 (.aload_n 0)] (by decide +kernel) (show tWG K B 0 0 S I1 J2 9 [some (vR 40), some (vA (tadK B i1))] [vR 40] from ?_)
    refine gCVv_c hO (M4_advance t0 h) hc4_advance (idx := 50) (w := 620) (by decide +kernel) hR (by omega) t0 ⟨by decide, rfl⟩ (vs := []) (st := []) ⟨rfl, Nat.le_of_ble_eq_true rfl, rfl⟩ (by decide +kernel) (fun I7 J8 h => ?_)
    refine gBk (pe := 19) hO [o0 (.goto 7)] (by decide +kernel) (show tWG K B 0 0 S I7 J8 19 [some (vR 40), some (vA (tadK B i1))] [] from ?_)
    exact gWeak (L' := [none, none]) trivial (W4_expectWord_19 hO hR hG t0 hQ h))
set_option maxRecDepth 100000 in
theorem W4_expectNumber_24 {K : tK} {B : tB} {S : tSH} {MC MS : Nat} (hO : tKO K B RX4 cX4_expectNumber 4) (hR : kR K = tRm 4 MC MS) (hG : tGr S) {n : Nat} (t0 : ty S 40 4) {k : Int32 → tHI → tHJ → Prop} (hQ : tRet K B (tQi B (tPi S k)) 0 0 (some .int)) {I : tHI} {J : tHJ} {v1 : Int32} (h : F4_expectNumber_24 n S k I J v1) : tWG K B 0 0 S I J 24 [some (vR 40), some (vI v1), none, none] [] := by
  refine gBk (pe := 25) hO [o0 (.aload_n 0)] (by decide +kernel) (show tWG K B 0 0 S I J 25 [some (vR 40), some (vI v1), none, none] [vR 40] from ?_)
  refine gCVv_c hO (M4_fail t0 h) hc4_fail (idx := 60) (w := 687) (by decide +kernel) hR (by omega) t0 ⟨by decide, rfl⟩ (vs := []) (st := []) ⟨rfl, Nat.le_of_ble_eq_true rfl, rfl⟩ (by decide +kernel) (fun I2 J3 h => ?_)
  refine gBk (pe := 29) hO [o0 (.iload_n 1)] (by decide +kernel) (show tWG K B 0 0 S I2 J3 29 [some (vR 40), some (vI v1), none, none] [vI v1] from ?_)
  exact gIret hO hQ (by decide +kernel) ⟨rfl, h⟩
set_option maxRecDepth 20000 in
theorem hc4_expectNumber : tCV yX4_expectNumber cX4_expectNumber 4 (some .int) 2 := ⟨⟨(List.mem_of_getElem? (i := 718) rfl), (List.mem_of_getElem? (i := 29) (by decide +kernel)), by decide +kernel⟩, (List.mem_of_getElem? (i := 716) (by decide +kernel)), (List.mem_of_getElem? (i := 717) (by decide +kernel))⟩
set_option maxRecDepth 100000 in
theorem M4_expectNumber {l : Launch} {B : tB} {S : tSH} {I : tHI} {J : tHJ} {v1 : Int32} {v2 : Int32} {n : Nat} {k : Int32 → tHI → tHJ → Prop} (t0 : ty S 40 4) (h : F4_expectNumber n S I J v1 v2 k) : Met l yX4_expectNumber (tWs yX4_expectNumber cX4_expectNumber 4 (some .int)) (tRm 4 0 0) (tPc B [vR 40, vI v1, vI v2] S I J) (tQi B (tPi S k)) 0 0 (tA B) :=
  tEntry (by decide +kernel) [some (vR 40), some (vI v1), some (vI v2), none] rfl rfl (Nat.le_of_ble_eq_true rfl) (fun K hl hR hO hQ hG => by
  subst hl
  refine gBk (pe := 5) hO [o0 (.aload_n 0), oF (.getfield 38) 4 6 127 0, oI (.iconst 2) 2] (by decide +kernel) (And.intro t0 (show tWG K B 0 0 S I J 5 [some (vR 40), some (vI v1), some (vI v2), none] [vI 2, vI (I 40 6)] from ?_))
  refine gIcNe hO (off := 19) (tgt := 24) (by decide +kernel) (by decide) (fun c1 => ?_) (fun c1 => ?_)
  · have h := h.1 c1
    exact gWeak (L' := [some (vR 40), some (vI v1), none, none]) ⟨rfl, rfl, trivial⟩ (W4_expectNumber_24 hO hR hG t0 hQ h)
  · have h := h.2 c1
    refine gBk (pe := 13) hO [o0 (.aload_n 0), oF (.getfield 41) 4 7 128 0, o0 (.iload_n 1)] (by decide +kernel) (And.intro t0 (show tWG K B 0 0 S I J 13 [some (vR 40), some (vI v1), some (vI v2), none] [vI v1, vI (I 40 7)] from ?_))
    refine gIcLt hO (off := 11) (tgt := 24) (by decide +kernel) (by decide) (fun c4 => ?_) (fun c4 => ?_)
    · have h := h.1 c4
      exact gWeak (L' := [some (vR 40), some (vI v1), none, none]) ⟨rfl, rfl, trivial⟩ (W4_expectNumber_24 hO hR hG t0 hQ h)
    · have h := h.2 c4
      refine gBk (pe := 21) hO [o0 (.aload_n 0), oF (.getfield 41) 4 7 128 0, o0 (.iload_n 2)] (by decide +kernel) (And.intro t0 (show tWG K B 0 0 S I J 21 [some (vR 40), some (vI v1), some (vI v2), none] [vI v2, vI (I 40 7)] from ?_))
      refine gIcLe hO (off := 9) (tgt := 30) (by decide +kernel) (by decide) (fun c5 => ?_) (fun c5 => ?_)
      · have h := h.1 c5
        refine gBk (pe := 36) hO [o0 (.aload_n 0), oF (.getfield 41) 4 7 128 0, o0 (.istore_n 3), o0 (.aload_n 0)] (by decide +kernel) (And.intro t0 (And.intro (Nat.le_of_ble_eq_true rfl) (show tWG K B 0 0 S I J 36 [some (vR 40), some (vI v1), some (vI v2), some (vI (I 40 7))] [vR 40] from ?_)))
        refine gCVv_c hO (M4_advance t0 h) hc4_advance (idx := 50) (w := 620) (by decide +kernel) hR (by omega) t0 ⟨by decide, rfl⟩ (vs := []) (st := []) ⟨rfl, Nat.le_of_ble_eq_true rfl, rfl⟩ (by decide +kernel) (fun I6 J7 h => ?_)
        refine gBk (pe := 40) hO [o0 (.iload_n 3)] (by decide +kernel) (show tWG K B 0 0 S I6 J7 40 [some (vR 40), some (vI v1), some (vI v2), some (vI (I 40 7))] [vI (I 40 7)] from ?_)
        exact gIret hO hQ (by decide +kernel) ⟨rfl, h⟩
      · have h := h.2 c5
        exact gWeak (L' := [some (vR 40), some (vI v1), none, none]) ⟨rfl, rfl, trivial⟩ (W4_expectNumber_24 hO hR hG t0 hQ h))
set_option maxRecDepth 20000 in
theorem hc4_readBoth : tCV yX4_readBoth cX4_readBoth 4 none 1 := ⟨⟨(List.mem_of_getElem? (i := 738) rfl), (List.mem_of_getElem? (i := 29) (by decide +kernel)), by decide +kernel⟩, (List.mem_of_getElem? (i := 732) (by decide +kernel)), (List.mem_of_getElem? (i := 733) (by decide +kernel))⟩
set_option maxRecDepth 20000 in
theorem hc4_readPart : tCV yX4_readPart cX4_readPart 5 none 1 := ⟨⟨(List.mem_of_getElem? (i := 710) rfl), (List.mem_of_getElem? (i := 29) (by decide +kernel)), by decide +kernel⟩, (List.mem_of_getElem? (i := 721) (by decide +kernel)), (List.mem_of_getElem? (i := 722) (by decide +kernel))⟩
set_option maxRecDepth 20000 in
theorem hc4_readPlain : tCV yX4_readPlain cX4_readPlain 4 none 1 := ⟨⟨(List.mem_of_getElem? (i := 742) rfl), (List.mem_of_getElem? (i := 29) (by decide +kernel)), by decide +kernel⟩, (List.mem_of_getElem? (i := 740) (by decide +kernel)), (List.mem_of_getElem? (i := 741) (by decide +kernel))⟩
set_option maxRecDepth 20000 in
theorem hc4_readSum : tCV yX4_readSum cX4_readSum 4 none 1 := ⟨⟨(List.mem_of_getElem? (i := 698) rfl), (List.mem_of_getElem? (i := 29) (by decide +kernel)), by decide +kernel⟩, (List.mem_of_getElem? (i := 696) (by decide +kernel)), (List.mem_of_getElem? (i := 697) (by decide +kernel))⟩
set_option maxRecDepth 20000 in
theorem hc4_readTerm : tCV yX4_readTerm cX4_readTerm 4 none 1 := ⟨⟨(List.mem_of_getElem? (i := 719) rfl), (List.mem_of_getElem? (i := 29) (by decide +kernel)), by decide +kernel⟩, (List.mem_of_getElem? (i := 700) (by decide +kernel)), (List.mem_of_getElem? (i := 701) (by decide +kernel))⟩
set_option maxRecDepth 20000 in
theorem hc4_readTest : tCV yX4_readTest cX4_readTest 4 none 1 := ⟨⟨(List.mem_of_getElem? (i := 730) rfl), (List.mem_of_getElem? (i := 29) (by decide +kernel)), by decide +kernel⟩, (List.mem_of_getElem? (i := 728) (by decide +kernel)), (List.mem_of_getElem? (i := 729) (by decide +kernel))⟩
set_option maxRecDepth 100000 in
theorem W4_readTest_57 {K : tK} {B : tB} {S : tSH} {MC MS : Nat} {d : Nat} (hO : tKO K B RX4 cX4_readTest 4) (hR : kR K = tRm (d + 1) MC MS) (hG : tGr S) {n : Nat} (t0 : ty S 40 4) {rq : Nat → tHI → tHJ → Int32 → (tHI → tHJ → Prop) → Prop} (hd : 20 ≤ d) (hrec : tRG (kl K) B S n d rq) {k : tHI → tHJ → Prop} (hQ : tRet K B (tQv B (tPv S k)) 0 0 none) {I : tHI} {J : tHJ} (h : F4_readTest_57 n S rq k I J) : tWG K B 0 0 S I J 57 [none, none, none, none] [] := by
  exact gVret hO hQ (by decide +kernel) ⟨rfl, h⟩
set_option maxRecDepth 100000 in
theorem W4_readTest_7 {K : tK} {B : tB} {S : tSH} {MC MS : Nat} {d : Nat} (hO : tKO K B RX4 cX4_readTest 4) (hR : kR K = tRm (d + 1) MC MS) (hG : tGr S) {n : Nat} (t0 : ty S 40 4) {rq : Nat → tHI → tHJ → Int32 → (tHI → tHJ → Prop) → Prop} (hd : 20 ≤ d) (hrec : tRG (kl K) B S n d rq) {k : tHI → tHJ → Prop} (hQ : tRet K B (tQv B (tPv S k)) 0 0 none) {kb7 : tHI → tHJ → Int32 → Int32 → Prop} (hkb7 : ∀ (I : tHI) (J : tHJ) (v1 : Int32) (v2 : Int32), kb7 I J v1 v2 → tWG K B 0 0 S I J 7 [some (vR 40), some (vI v1), some (vI v2), none] []) {I : tHI} {J : tHJ} {v1 : Int32} {v2 : Int32} (h : F4_readTest_7 n S rq k kb7 I J v1 v2) : tWG K B 0 0 S I J 7 [some (vR 40), some (vI v1), some (vI v2), none] [] := by
  refine gBk (pe := 11) hO [o0 (.iload_n 2), oI (.sipush 400) 400] (by decide +kernel) (show tWG K B 0 0 S I J 11 [some (vR 40), some (vI v1), some (vI v2), none] [vI 400, vI v2] from ?_)
  refine gIcGe hO (off := 46) (tgt := 57) (by decide +kernel) (by decide) (fun c3 => ?_) (fun c3 => ?_)
  · have h := h.1 c3
    exact gWeak (L' := [none, none, none, none]) trivial (W4_readTest_57 hO hR hG t0 hd hrec hQ h)
  · have h := h.2 c3
    refine gBk (pe := 15) hO [o0 (.aload_n 0)] (by decide +kernel) (show tWG K B 0 0 S I J 15 [some (vR 40), some (vI v1), some (vI v2), none] [vR 40] from ?_)
    refine s_ldcs hO (i := 4) (idx := 130) rfl rfl (by decide +kernel) ?_
    refine gCVi_c hO (M4_wordIn t0 (show 4 < 11 by decide) h) hc4_wordIn (idx := 91) (w := 634) (by decide +kernel) hR (by omega) t0 ⟨by decide, rfl⟩ (vs := [vA (tadK B 4)]) (st := []) ⟨rfl, Nat.le_of_ble_eq_true rfl, rfl⟩ (by decide +kernel) (fun x6 I4 J5 h => ?_)
    refine gIfNe hO (off := 37) (tgt := 57) (by decide +kernel) (by decide) (fun c7 => ?_) (fun c7 => ?_)
    · have h := h.1 c7
      exact gWeak (L' := [none, none, none, none]) trivial (W4_readTest_57 hO hR hG t0 hd hrec hQ h)
    · have h := h.2 c7
      refine gBk (pe := 30) hO [o0 (.aload_n 0), oF (.getfield 14) 4 0 121 41, oI (.bipush 12) 12, oI (.iconst 0) 0] (by decide +kernel) (And.intro t0 (And.intro rfl (show tWG K B 0 0 S I4 J5 30 [some (vR 40), some (vI v1), some (vI v2), none] [vI 0, vI 12, vR 41] from ?_)))
      refine gCVi_c hO (M6_emit (tGr.off hG t0 (k := 0) rfl) h) hc6_emit (idx := 132) (w := 706) (by decide +kernel) hR (by omega) (tGr.off hG t0 (k := 0) rfl) ⟨by decide, rfl⟩ (vs := [vI 12, vI 0]) (st := []) ⟨rfl, Nat.le_of_ble_eq_true rfl, rfl⟩ (by decide +kernel) (fun x10 I8 J9 h => ?_)
      refine gBk (pe := 35) hO [o0 (.istore_n 3), o0 (.aload_n 0)] (by decide +kernel) (And.intro (Nat.le_of_ble_eq_true rfl) (show tWG K B 0 0 S I8 J9 35 [some (vR 40), some (vI v1), some (vI v2), some (vI x10)] [vR 40] from ?_))
      refine gCVv_c hO (M4_advance t0 h) hc4_advance (idx := 50) (w := 620) (by decide +kernel) hR (by omega) t0 ⟨by decide, rfl⟩ (vs := []) (st := []) ⟨rfl, Nat.le_of_ble_eq_true rfl, rfl⟩ (by decide +kernel) (fun I11 J12 h => ?_)
      refine gBk (pe := 40) hO [o0 (.aload_n 0), o0 (.iload_n 1)] (by decide +kernel) (show tWG K B 0 0 S I11 J12 40 [some (vR 40), some (vI v1), some (vI v2), some (vI x10)] [vI v1, vR 40] from ?_)
      refine gCVv_c hO (hrec.2.1 _ _ _ _ h) hc4_readBoth (idx := 127) (w := 731) (by decide +kernel) hR (by omega) t0 ⟨by decide, rfl⟩ (vs := [vI v1]) (st := []) ⟨rfl, Nat.le_of_ble_eq_true rfl, rfl⟩ (by decide +kernel) (fun I13 J14 h => ?_)
      refine gBk (pe := 48) hO [o0 (.aload_n 0), oF (.getfield 14) 4 0 121 41, o0 (.iload_n 3)] (by decide +kernel) (And.intro t0 (And.intro rfl (show tWG K B 0 0 S I13 J14 48 [some (vR 40), some (vI v1), some (vI v2), some (vI x10)] [vI x10, vR 41] from ?_)))
      refine gCVv_c hO (M6_landFrom (tGr.off hG t0 (k := 0) rfl) h) hc6_landFrom (idx := 135) (w := 734) (by decide +kernel) hR (by omega) (tGr.off hG t0 (k := 0) rfl) ⟨by decide, rfl⟩ (vs := [vI x10]) (st := []) ⟨rfl, Nat.le_of_ble_eq_true rfl, rfl⟩ (by decide +kernel) (fun I15 J16 h => ?_)
      refine gBk (pe := 7) hO [oI (.iinc 2 1) 1, o0 (.goto (-47))] (by decide +kernel) (show tWG K B 0 0 S I15 J16 7 [some (vR 40), some (vI v1), some (vI (v2 + 1)), some (vI x10)] [] from ?_)
      exact gWeak (L' := [some (vR 40), some (vI v1), some (vI (v2 + 1)), none]) ⟨rfl, rfl, rfl, trivial⟩ (hkb7 _ _ _ _ h)
theorem W4_readTest_L7 {K : tK} {B : tB} {S : tSH} {MC MS : Nat} {d : Nat} (hO : tKO K B RX4 cX4_readTest 4) (hR : kR K = tRm (d + 1) MC MS) (hG : tGr S) {n : Nat} (t0 : ty S 40 4) {rq : Nat → tHI → tHJ → Int32 → (tHI → tHJ → Prop) → Prop} (hd : 20 ≤ d) (hrec : tRG (kl K) B S n d rq) {k : tHI → tHJ → Prop} (hQ : tRet K B (tQv B (tPv S k)) 0 0 none) : ∀ (f : Nat) (I : tHI) (J : tHJ) (v1 : Int32) (v2 : Int32), F4_readTest_L7 n S rq k f I J v1 v2 → tWG K B 0 0 S I J 7 [some (vR 40), some (vI v1), some (vI v2), none] [] := by
  intro f
  induction f with
  | zero => intro I J v1 v2 h; exact h.elim
  | succ f ih => intro I J v1 v2 h; exact W4_readTest_7 hO hR hG t0 hd hrec hQ ih h
set_option maxRecDepth 100000 in
theorem M4_readTest {l : Launch} {B : tB} {S : tSH} {I : tHI} {J : tHJ} {v1 : Int32} {n : Nat} {k : tHI → tHJ → Prop} (t0 : ty S 40 4) {d : Nat} {rq : Nat → tHI → tHJ → Int32 → (tHI → tHJ → Prop) → Prop} (hd : 20 ≤ d) (hrec : tRG l B S n d rq) (h : F4_readTest n S rq I J v1 k) : Met l yX4_readTest (tWs yX4_readTest cX4_readTest 4 none) (tRm (d + 1) 0 0) (tPc B [vR 40, vI v1] S I J) (tQv B (tPv S k)) 0 0 (tA B) :=
  tEntry (by decide +kernel) [some (vR 40), some (vI v1), none, none] rfl rfl (Nat.le_of_ble_eq_true rfl) (fun K hl hR hO hQ hG => by
  subst hl
  refine gBk (pe := 2) hO [o0 (.aload_n 0), o0 (.iload_n 1)] (by decide +kernel) (show tWG K B 0 0 S I J 2 [some (vR 40), some (vI v1), none, none] [vI v1, vR 40] from ?_)
  refine gCVv_c hO (hrec.2.1 _ _ _ _ h) hc4_readBoth (idx := 127) (w := 731) (by decide +kernel) hR (by omega) t0 ⟨by decide, rfl⟩ (vs := [vI v1]) (st := []) ⟨rfl, Nat.le_of_ble_eq_true rfl, rfl⟩ (by decide +kernel) (fun I1 J2 h => ?_)
  refine gBk (pe := 7) hO [oI (.iconst 0) 0, o0 (.istore_n 2)] (by decide +kernel) (And.intro (Nat.le_of_ble_eq_true rfl) (show tWG K B 0 0 S I1 J2 7 [some (vR 40), some (vI v1), some (vI 0), none] [] from ?_))
  exact W4_readTest_L7 hO hR hG t0 hd hrec hQ n _ _ _ _ h)
set_option maxRecDepth 100000 in
theorem W4_readBoth_57 {K : tK} {B : tB} {S : tSH} {MC MS : Nat} {d : Nat} (hO : tKO K B RX4 cX4_readBoth 4) (hR : kR K = tRm (d + 1) MC MS) (hG : tGr S) {n : Nat} (t0 : ty S 40 4) {rq : Nat → tHI → tHJ → Int32 → (tHI → tHJ → Prop) → Prop} (hd : 20 ≤ d) (hrec : tRG (kl K) B S n d rq) {k : tHI → tHJ → Prop} (hQ : tRet K B (tQv B (tPv S k)) 0 0 none) {I : tHI} {J : tHJ} (h : F4_readBoth_57 n S rq k I J) : tWG K B 0 0 S I J 57 [none, none, none, none] [] := by
  exact gVret hO hQ (by decide +kernel) ⟨rfl, h⟩
set_option maxRecDepth 100000 in
theorem W4_readBoth_7 {K : tK} {B : tB} {S : tSH} {MC MS : Nat} {d : Nat} (hO : tKO K B RX4 cX4_readBoth 4) (hR : kR K = tRm (d + 1) MC MS) (hG : tGr S) {n : Nat} (t0 : ty S 40 4) {rq : Nat → tHI → tHJ → Int32 → (tHI → tHJ → Prop) → Prop} (hd : 20 ≤ d) (hrec : tRG (kl K) B S n d rq) {k : tHI → tHJ → Prop} (hQ : tRet K B (tQv B (tPv S k)) 0 0 none) {kb7 : tHI → tHJ → Int32 → Int32 → Prop} (hkb7 : ∀ (I : tHI) (J : tHJ) (v1 : Int32) (v2 : Int32), kb7 I J v1 v2 → tWG K B 0 0 S I J 7 [some (vR 40), some (vI v1), some (vI v2), none] []) {I : tHI} {J : tHJ} {v1 : Int32} {v2 : Int32} (h : F4_readBoth_7 n S rq k kb7 I J v1 v2) : tWG K B 0 0 S I J 7 [some (vR 40), some (vI v1), some (vI v2), none] [] := by
  refine gBk (pe := 11) hO [o0 (.iload_n 2), oI (.sipush 400) 400] (by decide +kernel) (show tWG K B 0 0 S I J 11 [some (vR 40), some (vI v1), some (vI v2), none] [vI 400, vI v2] from ?_)
  refine gIcGe hO (off := 46) (tgt := 57) (by decide +kernel) (by decide) (fun c3 => ?_) (fun c3 => ?_)
  · have h := h.1 c3
    exact gWeak (L' := [none, none, none, none]) trivial (W4_readBoth_57 hO hR hG t0 hd hrec hQ h)
  · have h := h.2 c3
    refine gBk (pe := 15) hO [o0 (.aload_n 0)] (by decide +kernel) (show tWG K B 0 0 S I J 15 [some (vR 40), some (vI v1), some (vI v2), none] [vR 40] from ?_)
    refine s_ldcs hO (i := 5) (idx := 141) rfl rfl (by decide +kernel) ?_
    refine gCVi_c hO (M4_wordIn t0 (show 5 < 11 by decide) h) hc4_wordIn (idx := 91) (w := 634) (by decide +kernel) hR (by omega) t0 ⟨by decide, rfl⟩ (vs := [vA (tadK B 5)]) (st := []) ⟨rfl, Nat.le_of_ble_eq_true rfl, rfl⟩ (by decide +kernel) (fun x6 I4 J5 h => ?_)
    refine gIfNe hO (off := 37) (tgt := 57) (by decide +kernel) (by decide) (fun c7 => ?_) (fun c7 => ?_)
    · have h := h.1 c7
      exact gWeak (L' := [none, none, none, none]) trivial (W4_readBoth_57 hO hR hG t0 hd hrec hQ h)
    · have h := h.2 c7
      refine gBk (pe := 30) hO [o0 (.aload_n 0), oF (.getfield 14) 4 0 121 41, oI (.bipush 11) 11, oI (.iconst 0) 0] (by decide +kernel) (And.intro t0 (And.intro rfl (show tWG K B 0 0 S I4 J5 30 [some (vR 40), some (vI v1), some (vI v2), none] [vI 0, vI 11, vR 41] from ?_)))
      refine gCVi_c hO (M6_emit (tGr.off hG t0 (k := 0) rfl) h) hc6_emit (idx := 132) (w := 706) (by decide +kernel) hR (by omega) (tGr.off hG t0 (k := 0) rfl) ⟨by decide, rfl⟩ (vs := [vI 11, vI 0]) (st := []) ⟨rfl, Nat.le_of_ble_eq_true rfl, rfl⟩ (by decide +kernel) (fun x10 I8 J9 h => ?_)
      refine gBk (pe := 35) hO [o0 (.istore_n 3), o0 (.aload_n 0)] (by decide +kernel) (And.intro (Nat.le_of_ble_eq_true rfl) (show tWG K B 0 0 S I8 J9 35 [some (vR 40), some (vI v1), some (vI v2), some (vI x10)] [vR 40] from ?_))
      refine gCVv_c hO (M4_advance t0 h) hc4_advance (idx := 50) (w := 620) (by decide +kernel) hR (by omega) t0 ⟨by decide, rfl⟩ (vs := []) (st := []) ⟨rfl, Nat.le_of_ble_eq_true rfl, rfl⟩ (by decide +kernel) (fun I11 J12 h => ?_)
      refine gBk (pe := 40) hO [o0 (.aload_n 0), o0 (.iload_n 1)] (by decide +kernel) (show tWG K B 0 0 S I11 J12 40 [some (vR 40), some (vI v1), some (vI v2), some (vI x10)] [vI v1, vR 40] from ?_)
      refine gCVv_c hO (hrec.2.2.1 _ _ _ _ h) hc4_readPlain (idx := 138) (w := 739) (by decide +kernel) hR (by omega) t0 ⟨by decide, rfl⟩ (vs := [vI v1]) (st := []) ⟨rfl, Nat.le_of_ble_eq_true rfl, rfl⟩ (by decide +kernel) (fun I13 J14 h => ?_)
      refine gBk (pe := 48) hO [o0 (.aload_n 0), oF (.getfield 14) 4 0 121 41, o0 (.iload_n 3)] (by decide +kernel) (And.intro t0 (And.intro rfl (show tWG K B 0 0 S I13 J14 48 [some (vR 40), some (vI v1), some (vI v2), some (vI x10)] [vI x10, vR 41] from ?_)))
      refine gCVv_c hO (M6_landFrom (tGr.off hG t0 (k := 0) rfl) h) hc6_landFrom (idx := 135) (w := 734) (by decide +kernel) hR (by omega) (tGr.off hG t0 (k := 0) rfl) ⟨by decide, rfl⟩ (vs := [vI x10]) (st := []) ⟨rfl, Nat.le_of_ble_eq_true rfl, rfl⟩ (by decide +kernel) (fun I15 J16 h => ?_)
      refine gBk (pe := 7) hO [oI (.iinc 2 1) 1, o0 (.goto (-47))] (by decide +kernel) (show tWG K B 0 0 S I15 J16 7 [some (vR 40), some (vI v1), some (vI (v2 + 1)), some (vI x10)] [] from ?_)
      exact gWeak (L' := [some (vR 40), some (vI v1), some (vI (v2 + 1)), none]) ⟨rfl, rfl, rfl, trivial⟩ (hkb7 _ _ _ _ h)
theorem W4_readBoth_L7 {K : tK} {B : tB} {S : tSH} {MC MS : Nat} {d : Nat} (hO : tKO K B RX4 cX4_readBoth 4) (hR : kR K = tRm (d + 1) MC MS) (hG : tGr S) {n : Nat} (t0 : ty S 40 4) {rq : Nat → tHI → tHJ → Int32 → (tHI → tHJ → Prop) → Prop} (hd : 20 ≤ d) (hrec : tRG (kl K) B S n d rq) {k : tHI → tHJ → Prop} (hQ : tRet K B (tQv B (tPv S k)) 0 0 none) : ∀ (f : Nat) (I : tHI) (J : tHJ) (v1 : Int32) (v2 : Int32), F4_readBoth_L7 n S rq k f I J v1 v2 → tWG K B 0 0 S I J 7 [some (vR 40), some (vI v1), some (vI v2), none] [] := by
  intro f
  induction f with
  | zero => intro I J v1 v2 h; exact h.elim
  | succ f ih => intro I J v1 v2 h; exact W4_readBoth_7 hO hR hG t0 hd hrec hQ ih h
set_option maxRecDepth 100000 in
theorem M4_readBoth {l : Launch} {B : tB} {S : tSH} {I : tHI} {J : tHJ} {v1 : Int32} {n : Nat} {k : tHI → tHJ → Prop} (t0 : ty S 40 4) {d : Nat} {rq : Nat → tHI → tHJ → Int32 → (tHI → tHJ → Prop) → Prop} (hd : 20 ≤ d) (hrec : tRG l B S n d rq) (h : F4_readBoth n S rq I J v1 k) : Met l yX4_readBoth (tWs yX4_readBoth cX4_readBoth 4 none) (tRm (d + 1) 0 0) (tPc B [vR 40, vI v1] S I J) (tQv B (tPv S k)) 0 0 (tA B) :=
  tEntry (by decide +kernel) [some (vR 40), some (vI v1), none, none] rfl rfl (Nat.le_of_ble_eq_true rfl) (fun K hl hR hO hQ hG => by
  subst hl
  refine gBk (pe := 2) hO [o0 (.aload_n 0), o0 (.iload_n 1)] (by decide +kernel) (show tWG K B 0 0 S I J 2 [some (vR 40), some (vI v1), none, none] [vI v1, vR 40] from ?_)
  refine gCVv_c hO (hrec.2.2.1 _ _ _ _ h) hc4_readPlain (idx := 138) (w := 739) (by decide +kernel) hR (by omega) t0 ⟨by decide, rfl⟩ (vs := [vI v1]) (st := []) ⟨rfl, Nat.le_of_ble_eq_true rfl, rfl⟩ (by decide +kernel) (fun I1 J2 h => ?_)
  refine gBk (pe := 7) hO [oI (.iconst 0) 0, o0 (.istore_n 2)] (by decide +kernel) (And.intro (Nat.le_of_ble_eq_true rfl) (show tWG K B 0 0 S I1 J2 7 [some (vR 40), some (vI v1), some (vI 0), none] [] from ?_))
  exact W4_readBoth_L7 hO hR hG t0 hd hrec hQ n _ _ _ _ h)
set_option maxRecDepth 100000 in
theorem W4_readPlain_173 {K : tK} {B : tB} {S : tSH} {MC MS : Nat} {d : Nat} (hO : tKO K B RX4 cX4_readPlain 4) (hR : kR K = tRm (d + 1) MC MS) (hG : tGr S) {n : Nat} (t0 : ty S 40 4) {rq : Nat → tHI → tHJ → Int32 → (tHI → tHJ → Prop) → Prop} (hd : 20 ≤ d) (hrec : tRG (kl K) B S n d rq) {k : tHI → tHJ → Prop} (hQ : tRet K B (tQv B (tPv S k)) 0 0 none) {I : tHI} {J : tHJ} (h : F4_readPlain_173 n S rq k I J) : tWG K B 0 0 S I J 173 [none, none, none, none] [] := by
  exact gVret hO hQ (by decide +kernel) ⟨rfl, h⟩
set_option maxRecDepth 100000 in
theorem W4_readPlain_158 {K : tK} {B : tB} {S : tSH} {MC MS : Nat} {d : Nat} (hO : tKO K B RX4 cX4_readPlain 4) (hR : kR K = tRm (d + 1) MC MS) (hG : tGr S) {n : Nat} (t0 : ty S 40 4) {rq : Nat → tHI → tHJ → Int32 → (tHI → tHJ → Prop) → Prop} (hd : 20 ≤ d) (hrec : tRG (kl K) B S n d rq) {k : tHI → tHJ → Prop} (hQ : tRet K B (tQv B (tPv S k)) 0 0 none) {I : tHI} {J : tHJ} {v2 : Int32} (h : F4_readPlain_158 n S rq k I J v2) : tWG K B 0 0 S I J 158 [some (vR 40), none, some (vI v2), none] [] := by
  refine gBk (pe := 159) hO [o0 (.iload_n 2)] (by decide +kernel) (show tWG K B 0 0 S I J 159 [some (vR 40), none, some (vI v2), none] [vI v2] from ?_)
  refine gIfEq hO (off := 14) (tgt := 173) (by decide +kernel) (by decide) (fun c34 => ?_) (fun c34 => ?_)
  · have h := h.1 c34
    exact gWeak (L' := [none, none, none, none]) trivial (W4_readPlain_173 hO hR hG t0 hd hrec hQ h)
  · have h := h.2 c34
    refine gBk (pe := 169) hO [o0 (.aload_n 0), oF (.getfield 14) 4 0 121 41, oI (.bipush 10) 10, oI (.iconst 0) 0] (by decide +kernel) (And.intro t0 (And.intro rfl (show tWG K B 0 0 S I J 169 [some (vR 40), none, some (vI v2), none] [vI 0, vI 10, vR 41] from ?_)))
    refine gCVi_c hO (M6_emit (tGr.off hG t0 (k := 0) rfl) h) hc6_emit (idx := 132) (w := 706) (by decide +kernel) hR (by omega) (tGr.off hG t0 (k := 0) rfl) ⟨by decide, rfl⟩ (vs := [vI 10, vI 0]) (st := []) ⟨rfl, Nat.le_of_ble_eq_true rfl, rfl⟩ (by decide +kernel) (fun x37 I35 J36 h => ?_)
    refine gBk (pe := 173) hO [o0 .pop] (by decide +kernel) (show tWG K B 0 0 S I35 J36 173 [some (vR 40), none, some (vI v2), none] [] from ?_)
    exact gWeak (L' := [none, none, none, none]) trivial (W4_readPlain_173 hO hR hG t0 hd hrec hQ h)
set_option maxRecDepth 100000 in
theorem W4_readPlain_128 {K : tK} {B : tB} {S : tSH} {MC MS : Nat} {d : Nat} (hO : tKO K B RX4 cX4_readPlain 4) (hR : kR K = tRm (d + 1) MC MS) (hG : tGr S) {n : Nat} (t0 : ty S 40 4) {rq : Nat → tHI → tHJ → Int32 → (tHI → tHJ → Prop) → Prop} (hd : 20 ≤ d) (hrec : tRG (kl K) B S n d rq) {k : tHI → tHJ → Prop} (hQ : tRet K B (tQv B (tPv S k)) 0 0 none) {I : tHI} {J : tHJ} {v1 : Int32} {v2 : Int32} {s0 : Int32} (h : F4_readPlain_128 n S rq k I J v1 v2 s0) : tWG K B 0 0 S I J 128 [some (vR 40), some (vI v1), some (vI v2), none] [vI s0] := by
  refine gBk (pe := 131) hO [o0 (.istore_n 3), o0 (.iload_n 3), oI (.iconst (-1)) (-1)] (by decide +kernel) (And.intro (Nat.le_of_ble_eq_true rfl) (show tWG K B 0 0 S I J 131 [some (vR 40), some (vI v1), some (vI v2), some (vI s0)] [vI (-1), vI s0] from ?_))
  refine gIcNe hO (off := 8) (tgt := 139) (by decide +kernel) (by decide) (fun c26 => ?_) (fun c26 => ?_)
  · have h := h.1 c26
    refine gBk (pe := 140) hO [o0 (.aload_n 0)] (by decide +kernel) (show tWG K B 0 0 S I J 140 [some (vR 40), some (vI v1), some (vI v2), some (vI s0)] [vR 40] from ?_)
    refine gCVv_c hO (M4_advance t0 h) hc4_advance (idx := 50) (w := 620) (by decide +kernel) hR (by omega) t0 ⟨by decide, rfl⟩ (vs := []) (st := []) ⟨rfl, Nat.le_of_ble_eq_true rfl, rfl⟩ (by decide +kernel) (fun I27 J28 h => ?_)
    refine gBk (pe := 145) hO [o0 (.aload_n 0), o0 (.iload_n 1)] (by decide +kernel) (show tWG K B 0 0 S I27 J28 145 [some (vR 40), some (vI v1), some (vI v2), some (vI s0)] [vI v1, vR 40] from ?_)
    refine gCVv_c hO (hrec.2.2.2.1 _ _ _ _ h) hc4_readSum (idx := 103) (w := 695) (by decide +kernel) hR (by omega) t0 ⟨by decide, rfl⟩ (vs := [vI v1]) (st := []) ⟨rfl, Nat.le_of_ble_eq_true rfl, rfl⟩ (by decide +kernel) (fun I29 J30 h => ?_)
    refine gBk (pe := 154) hO [o0 (.aload_n 0), oF (.getfield 14) 4 0 121 41, o0 (.iload_n 3), oI (.iconst 0) 0] (by decide +kernel) (And.intro t0 (And.intro rfl (show tWG K B 0 0 S I29 J30 154 [some (vR 40), some (vI v1), some (vI v2), some (vI s0)] [vI 0, vI s0, vR 41] from ?_)))
    refine gCVi_c hO (M6_emit (tGr.off hG t0 (k := 0) rfl) h) hc6_emit (idx := 132) (w := 706) (by decide +kernel) hR (by omega) (tGr.off hG t0 (k := 0) rfl) ⟨by decide, rfl⟩ (vs := [vI s0, vI 0]) (st := []) ⟨rfl, Nat.le_of_ble_eq_true rfl, rfl⟩ (by decide +kernel) (fun x33 I31 J32 h => ?_)
    refine gBk (pe := 158) hO [o0 .pop] (by decide +kernel) (show tWG K B 0 0 S I31 J32 158 [some (vR 40), some (vI v1), some (vI v2), some (vI s0)] [] from ?_)
    exact gWeak (L' := [some (vR 40), none, some (vI v2), none]) ⟨rfl, rfl, trivial⟩ (W4_readPlain_158 hO hR hG t0 hd hrec hQ h)
  · have h := h.2 c26
    refine gBk (pe := 135) hO [o0 (.aload_n 0)] (by decide +kernel) (show tWG K B 0 0 S I J 135 [some (vR 40), some (vI v1), some (vI v2), some (vI s0)] [vR 40] from ?_)
    refine gCVv_c hO (M4_fail t0 h) hc4_fail (idx := 60) (w := 687) (by decide +kernel) hR (by omega) t0 ⟨by decide, rfl⟩ (vs := []) (st := []) ⟨rfl, Nat.le_of_ble_eq_true rfl, rfl⟩ (by decide +kernel) (fun I38 J39 h => ?_)
    exact gVret hO hQ (by decide +kernel) ⟨rfl, h⟩
set_option maxRecDepth 100000 in
theorem W4_readPlain_40 {K : tK} {B : tB} {S : tSH} {MC MS : Nat} {d : Nat} (hO : tKO K B RX4 cX4_readPlain 4) (hR : kR K = tRm (d + 1) MC MS) (hG : tGr S) {n : Nat} (t0 : ty S 40 4) {rq : Nat → tHI → tHJ → Int32 → (tHI → tHJ → Prop) → Prop} (hd : 20 ≤ d) (hrec : tRG (kl K) B S n d rq) {k : tHI → tHJ → Prop} (hQ : tRet K B (tQv B (tPv S k)) 0 0 none) {I : tHI} {J : tHJ} {v1 : Int32} {v2 : Int32} (h : F4_readPlain_40 n S rq k I J v1 v2) : tWG K B 0 0 S I J 40 [some (vR 40), some (vI v1), some (vI v2), none] [] := by
  refine gBk (pe := 43) hO [o0 (.aload_n 0), oI (.bipush 40) 40] (by decide +kernel) (show tWG K B 0 0 S I J 43 [some (vR 40), some (vI v1), some (vI v2), none] [vI 40, vR 40] from ?_)
  refine gCVi_b hO (M4_isSign t0 h) hc4_isSign (idx := 56) (w := 702) (by decide +kernel) hR (by omega) t0 ⟨by decide, rfl⟩ (vs := [vI 40]) (st := []) ⟨rfl, Nat.le_of_ble_eq_true rfl, rfl⟩ (by decide +kernel) (fun x4 I2 J3 z5 h => ?_)
  have h := h z5
  refine gIfEq hO (off := 34) (tgt := 80) (by decide +kernel) (by decide) (fun c6 => ?_) (fun c6 => ?_)
  · have h := h.1 c6
    refine gBk (pe := 82) hO [o0 (.aload_n 0), o0 (.iload_n 1)] (by decide +kernel) (show tWG K B 0 0 S I2 J3 82 [some (vR 40), some (vI v1), some (vI v2), none] [vI v1, vR 40] from ?_)
    refine gCVv_c hO (hrec.2.2.2.1 _ _ _ _ h) hc4_readSum (idx := 103) (w := 695) (by decide +kernel) hR (by omega) t0 ⟨by decide, rfl⟩ (vs := [vI v1]) (st := []) ⟨rfl, Nat.le_of_ble_eq_true rfl, rfl⟩ (by decide +kernel) (fun I7 J8 h => ?_)
    refine gBk (pe := 88) hO [o0 (.aload_n 0), oI (.bipush 60) 60] (by decide +kernel) (show tWG K B 0 0 S I7 J8 88 [some (vR 40), some (vI v1), some (vI v2), none] [vI 60, vR 40] from ?_)
    refine gCVi_b hO (M4_isSign t0 h) hc4_isSign (idx := 56) (w := 702) (by decide +kernel) hR (by omega) t0 ⟨by decide, rfl⟩ (vs := [vI 60]) (st := []) ⟨rfl, Nat.le_of_ble_eq_true rfl, rfl⟩ (by decide +kernel) (fun x11 I9 J10 z12 h => ?_)
    have h := h z12
    refine gIfEq hO (off := 8) (tgt := 99) (by decide +kernel) (by decide) (fun c13 => ?_) (fun c13 => ?_)
    · have h := h.1 c13
      refine gBk (pe := 102) hO [o0 (.aload_n 0), oI (.bipush 62) 62] (by decide +kernel) (show tWG K B 0 0 S I9 J10 102 [some (vR 40), some (vI v1), some (vI v2), none] [vI 62, vR 40] from ?_)
      refine gCVi_b hO (M4_isSign t0 h) hc4_isSign (idx := 56) (w := 702) (by decide +kernel) hR (by omega) t0 ⟨by decide, rfl⟩ (vs := [vI 62]) (st := []) ⟨rfl, Nat.le_of_ble_eq_true rfl, rfl⟩ (by decide +kernel) (fun x16 I14 J15 z17 h => ?_)
      have h := h z17
      refine gIfEq hO (off := 8) (tgt := 113) (by decide +kernel) (by decide) (fun c18 => ?_) (fun c18 => ?_)
      · have h := h.1 c18
        refine gBk (pe := 116) hO [o0 (.aload_n 0), oI (.bipush 61) 61] (by decide +kernel) (show tWG K B 0 0 S I14 J15 116 [some (vR 40), some (vI v1), some (vI v2), none] [vI 61, vR 40] from ?_)
        refine gCVi_b hO (M4_isSign t0 h) hc4_isSign (idx := 56) (w := 702) (by decide +kernel) hR (by omega) t0 ⟨by decide, rfl⟩ (vs := [vI 61]) (st := []) ⟨rfl, Nat.le_of_ble_eq_true rfl, rfl⟩ (by decide +kernel) (fun x21 I19 J20 z22 h => ?_)
        have h := h z22
        have hj23 : ∀ (m24 : Int32), m24 = (if x21 = 0 then ((-1) : Int32) else 9) → tWG K B 0 0 S I19 J20 128 [some (vR 40), some (vI v1), some (vI v2), none] [vI m24] := by
          intro m24 em24
          subst em24
          exact W4_readPlain_128 hO hR hG t0 hd hrec hQ h
        refine gIfEq hO (off := 8) (tgt := 127) (by decide +kernel) (by decide) (fun c25 => ?_) (fun c25 => ?_)
        · refine gBk (pe := 128) hO [oI (.iconst (-1)) (-1)] (by decide +kernel) (show tWG K B 0 0 S I19 J20 128 [some (vR 40), some (vI v1), some (vI v2), none] [vI (-1)] from ?_)
          exact (hj23 _ (Eq.symm (if_pos c25)))
        · refine gBk (pe := 128) hO [oI (.bipush 9) 9, o0 (.goto 4)] (by decide +kernel) (show tWG K B 0 0 S I19 J20 128 [some (vR 40), some (vI v1), some (vI v2), none] [vI 9] from ?_)
          exact (hj23 _ (Eq.symm (if_neg c25)))
      · have h := h.2 c18
        refine gBk (pe := 128) hO [oI (.bipush 8) 8, o0 (.goto 18)] (by decide +kernel) (show tWG K B 0 0 S I14 J15 128 [some (vR 40), some (vI v1), some (vI v2), none] [vI 8] from ?_)
        exact W4_readPlain_128 hO hR hG t0 hd hrec hQ h
    · have h := h.2 c13
      refine gBk (pe := 128) hO [oI (.bipush 7) 7, o0 (.goto 32)] (by decide +kernel) (show tWG K B 0 0 S I9 J10 128 [some (vR 40), some (vI v1), some (vI v2), none] [vI 7] from ?_)
      exact W4_readPlain_128 hO hR hG t0 hd hrec hQ h
  · have h := h.2 c6
    refine gBk (pe := 52) hO [o0 (.iload_n 1), oI (.bipush 8) 8] (by decide +kernel) (show tWG K B 0 0 S I2 J3 52 [some (vR 40), some (vI v1), some (vI v2), none] [vI 8, vI v1] from ?_)
    refine gIcLt hO (off := 8) (tgt := 60) (by decide +kernel) (by decide) (fun c40 => ?_) (fun c40 => ?_)
    · have h := h.1 c40
      refine gBk (pe := 61) hO [o0 (.aload_n 0)] (by decide +kernel) (show tWG K B 0 0 S I2 J3 61 [some (vR 40), some (vI v1), some (vI v2), none] [vR 40] from ?_)
      refine gCVv_c hO (M4_advance t0 h) hc4_advance (idx := 50) (w := 620) (by decide +kernel) hR (by omega) t0 ⟨by decide, rfl⟩ (vs := []) (st := []) ⟨rfl, Nat.le_of_ble_eq_true rfl, rfl⟩ (by decide +kernel) (fun I41 J42 h => ?_)
      refine gBk (pe := 68) hO [o0 (.aload_n 0), o0 (.iload_n 1), oI (.iconst 1) 1, o0 .iadd] (by decide +kernel) (show tWG K B 0 0 S I41 J42 68 [some (vR 40), some (vI v1), some (vI v2), none] [vI (v1 + 1), vR 40] from ?_)
      refine gCVv_c hO (hrec.1 _ _ _ _ h) hc4_readTest (idx := 121) (w := 727) (by decide +kernel) hR (by omega) t0 ⟨by decide, rfl⟩ (vs := [vI (v1 + 1)]) (st := []) ⟨rfl, Nat.le_of_ble_eq_true rfl, rfl⟩ (by decide +kernel) (fun I43 J44 h => ?_)
      refine gBk (pe := 74) hO [o0 (.aload_n 0), oI (.bipush 41) 41] (by decide +kernel) (show tWG K B 0 0 S I43 J44 74 [some (vR 40), some (vI v1), some (vI v2), none] [vI 41, vR 40] from ?_)
      refine gCVv_c hO (M4_expectSign t0 h) hc4_expectSign (idx := 145) (w := 711) (by decide +kernel) hR (by omega) t0 ⟨by decide, rfl⟩ (vs := [vI 41]) (st := []) ⟨rfl, Nat.le_of_ble_eq_true rfl, rfl⟩ (by decide +kernel) (fun I45 J46 h => ?_)
      refine gBk (pe := 158) hO [o0 (.goto 81)] (by decide +kernel) (show tWG K B 0 0 S I45 J46 158 [some (vR 40), some (vI v1), some (vI v2), none] [] from ?_)
      exact gWeak (L' := [some (vR 40), none, some (vI v2), none]) ⟨rfl, rfl, trivial⟩ (W4_readPlain_158 hO hR hG t0 hd hrec hQ h)
    · have h := h.2 c40
      refine gBk (pe := 56) hO [o0 (.aload_n 0)] (by decide +kernel) (show tWG K B 0 0 S I2 J3 56 [some (vR 40), some (vI v1), some (vI v2), none] [vR 40] from ?_)
      refine gCVv_c hO (M4_fail t0 h) hc4_fail (idx := 60) (w := 687) (by decide +kernel) hR (by omega) t0 ⟨by decide, rfl⟩ (vs := []) (st := []) ⟨rfl, Nat.le_of_ble_eq_true rfl, rfl⟩ (by decide +kernel) (fun I47 J48 h => ?_)
      exact gVret hO hQ (by decide +kernel) ⟨rfl, h⟩
set_option maxRecDepth 100000 in
theorem W4_readPlain_4 {K : tK} {B : tB} {S : tSH} {MC MS : Nat} {d : Nat} (hO : tKO K B RX4 cX4_readPlain 4) (hR : kR K = tRm (d + 1) MC MS) (hG : tGr S) {n : Nat} (t0 : ty S 40 4) {rq : Nat → tHI → tHJ → Int32 → (tHI → tHJ → Prop) → Prop} (hd : 20 ≤ d) (hrec : tRG (kl K) B S n d rq) {k : tHI → tHJ → Prop} (hQ : tRet K B (tQv B (tPv S k)) 0 0 none) {kb4 : tHI → tHJ → Int32 → Int32 → Int32 → Prop} (hkb4 : ∀ (I : tHI) (J : tHJ) (v1 : Int32) (v2 : Int32) (v3 : Int32), kb4 I J v1 v2 v3 → tWG K B 0 0 S I J 4 [some (vR 40), some (vI v1), some (vI v2), some (vI v3)] []) {I : tHI} {J : tHJ} {v1 : Int32} {v2 : Int32} {v3 : Int32} (h : F4_readPlain_4 n S rq k kb4 I J v1 v2 v3) : tWG K B 0 0 S I J 4 [some (vR 40), some (vI v1), some (vI v2), some (vI v3)] [] := by
  refine gBk (pe := 8) hO [o0 (.iload_n 3), oI (.sipush 400) 400] (by decide +kernel) (show tWG K B 0 0 S I J 8 [some (vR 40), some (vI v1), some (vI v2), some (vI v3)] [vI 400, vI v3] from ?_)
  refine gIcGe hO (off := 32) (tgt := 40) (by decide +kernel) (by decide) (fun c1 => ?_) (fun c1 => ?_)
  · have h := h.1 c1
    exact gWeak (L' := [some (vR 40), some (vI v1), some (vI v2), none]) ⟨rfl, rfl, rfl, trivial⟩ (W4_readPlain_40 hO hR hG t0 hd hrec hQ h)
  · have h := h.2 c1
    refine gBk (pe := 12) hO [o0 (.aload_n 0)] (by decide +kernel) (show tWG K B 0 0 S I J 12 [some (vR 40), some (vI v1), some (vI v2), some (vI v3)] [vR 40] from ?_)
    refine s_ldcs hO (i := 6) (idx := 143) rfl rfl (by decide +kernel) ?_
    refine gCVi_c hO (M4_wordIn t0 (show 6 < 11 by decide) h) hc4_wordIn (idx := 91) (w := 634) (by decide +kernel) hR (by omega) t0 ⟨by decide, rfl⟩ (vs := [vA (tadK B 6)]) (st := []) ⟨rfl, Nat.le_of_ble_eq_true rfl, rfl⟩ (by decide +kernel) (fun x51 I49 J50 h => ?_)
    refine gIfNe hO (off := 23) (tgt := 40) (by decide +kernel) (by decide) (fun c52 => ?_) (fun c52 => ?_)
    · have h := h.1 c52
      exact gWeak (L' := [some (vR 40), some (vI v1), some (vI v2), none]) ⟨rfl, rfl, rfl, trivial⟩ (W4_readPlain_40 hO hR hG t0 hd hrec hQ h)
    · have h := h.2 c52
      refine gBk (pe := 21) hO [o0 (.iload_n 2)] (by decide +kernel) (show tWG K B 0 0 S I49 J50 21 [some (vR 40), some (vI v1), some (vI v2), some (vI v3)] [vI v2] from ?_)
      have hj53 : ∀ (m54 : Int32), m54 = (if v2 = 0 then (1 : Int32) else 0) → tWG K B 0 0 S I49 J50 29 [some (vR 40), some (vI v1), none, some (vI v3)] [vI m54] := by
        intro m54 em54
        subst em54
        refine gBk (pe := 31) hO [o0 (.istore_n 2), o0 (.aload_n 0)] (by decide +kernel) (And.intro (Nat.le_of_ble_eq_true rfl) (show tWG K B 0 0 S I49 J50 31 [some (vR 40), some (vI v1), some (vI (if v2 = 0 then (1 : Int32) else 0)), some (vI v3)] [vR 40] from ?_))
        refine gCVv_c hO (M4_advance t0 h) hc4_advance (idx := 50) (w := 620) (by decide +kernel) hR (by omega) t0 ⟨by decide, rfl⟩ (vs := []) (st := []) ⟨rfl, Nat.le_of_ble_eq_true rfl, rfl⟩ (by decide +kernel) (fun I56 J57 h => ?_)
        refine gBk (pe := 4) hO [oI (.iinc 3 1) 1, o0 (.goto (-33))] (by decide +kernel) (show tWG K B 0 0 S I56 J57 4 [some (vR 40), some (vI v1), some (vI (if v2 = 0 then (1 : Int32) else 0)), some (vI (v3 + 1))] [] from ?_)
        exact hkb4 _ _ _ _ _ h
      refine gIfNe hO (off := 7) (tgt := 28) (by decide +kernel) (by decide) (fun c55 => ?_) (fun c55 => ?_)
      · refine gBk (pe := 29) hO [oI (.iconst 0) 0] (by decide +kernel) (show tWG K B 0 0 S I49 J50 29 [some (vR 40), some (vI v1), some (vI v2), some (vI v3)] [vI 0] from ?_)
        exact gWeak (L' := [some (vR 40), some (vI v1), none, some (vI v3)]) ⟨rfl, rfl, rfl, trivial⟩ (hj53 _ (Eq.symm (if_neg c55)))
      · refine gBk (pe := 29) hO [oI (.iconst 1) 1, o0 (.goto 4)] (by decide +kernel) (show tWG K B 0 0 S I49 J50 29 [some (vR 40), some (vI v1), some (vI v2), some (vI v3)] [vI 1] from ?_)
        exact gWeak (L' := [some (vR 40), some (vI v1), none, some (vI v3)]) ⟨rfl, rfl, rfl, trivial⟩ (hj53 _ (Eq.symm (if_pos c55)))
theorem W4_readPlain_L4 {K : tK} {B : tB} {S : tSH} {MC MS : Nat} {d : Nat} (hO : tKO K B RX4 cX4_readPlain 4) (hR : kR K = tRm (d + 1) MC MS) (hG : tGr S) {n : Nat} (t0 : ty S 40 4) {rq : Nat → tHI → tHJ → Int32 → (tHI → tHJ → Prop) → Prop} (hd : 20 ≤ d) (hrec : tRG (kl K) B S n d rq) {k : tHI → tHJ → Prop} (hQ : tRet K B (tQv B (tPv S k)) 0 0 none) : ∀ (f : Nat) (I : tHI) (J : tHJ) (v1 : Int32) (v2 : Int32) (v3 : Int32), F4_readPlain_L4 n S rq k f I J v1 v2 v3 → tWG K B 0 0 S I J 4 [some (vR 40), some (vI v1), some (vI v2), some (vI v3)] [] := by
  intro f
  induction f with
  | zero => intro I J v1 v2 v3 h; exact h.elim
  | succ f ih => intro I J v1 v2 v3 h; exact W4_readPlain_4 hO hR hG t0 hd hrec hQ ih h
set_option maxRecDepth 100000 in
theorem M4_readPlain {l : Launch} {B : tB} {S : tSH} {I : tHI} {J : tHJ} {v1 : Int32} {n : Nat} {k : tHI → tHJ → Prop} (t0 : ty S 40 4) {d : Nat} {rq : Nat → tHI → tHJ → Int32 → (tHI → tHJ → Prop) → Prop} (hd : 20 ≤ d) (hrec : tRG l B S n d rq) (h : F4_readPlain n S rq I J v1 k) : Met l yX4_readPlain (tWs yX4_readPlain cX4_readPlain 4 none) (tRm (d + 1) 0 0) (tPc B [vR 40, vI v1] S I J) (tQv B (tPv S k)) 0 0 (tA B) :=
  tEntry (by decide +kernel) [some (vR 40), some (vI v1), none, none] rfl rfl (Nat.le_of_ble_eq_true rfl) (fun K hl hR hO hQ hG => by
  subst hl
  refine gBk (pe := 4) hO [oI (.iconst 0) 0, o0 (.istore_n 2), oI (.iconst 0) 0, o0 (.istore_n 3)] (by decide +kernel) (And.intro (Nat.le_of_ble_eq_true rfl) (And.intro (Nat.le_of_ble_eq_true rfl) (show tWG K B 0 0 S I J 4 [some (vR 40), some (vI v1), some (vI 0), some (vI 0)] [] from ?_)))
  exact W4_readPlain_L4 hO hR hG t0 hd hrec hQ n _ _ _ _ _ h)
set_option maxRecDepth 100000 in
theorem W4_readSum_72 {K : tK} {B : tB} {S : tSH} {MC MS : Nat} {d : Nat} (hO : tKO K B RX4 cX4_readSum 4) (hR : kR K = tRm (d + 1) MC MS) (hG : tGr S) {n : Nat} (t0 : ty S 40 4) {rq : Nat → tHI → tHJ → Int32 → (tHI → tHJ → Prop) → Prop} (hd : 20 ≤ d) (hrec : tRG (kl K) B S n d rq) {k : tHI → tHJ → Prop} (hQ : tRet K B (tQv B (tPv S k)) 0 0 none) {I : tHI} {J : tHJ} (h : F4_readSum_72 n S rq k I J) : tWG K B 0 0 S I J 72 [none, none, none, none] [] := by
  exact gVret hO hQ (by decide +kernel) ⟨rfl, h⟩
set_option maxRecDepth 100000 in
theorem W4_readSum_32 {K : tK} {B : tB} {S : tSH} {MC MS : Nat} {d : Nat} (hO : tKO K B RX4 cX4_readSum 4) (hR : kR K = tRm (d + 1) MC MS) (hG : tGr S) {n : Nat} (t0 : ty S 40 4) {rq : Nat → tHI → tHJ → Int32 → (tHI → tHJ → Prop) → Prop} (hd : 20 ≤ d) (hrec : tRG (kl K) B S n d rq) {k : tHI → tHJ → Prop} (hQ : tRet K B (tQv B (tPv S k)) 0 0 none) {kb7 : tHI → tHJ → Int32 → Int32 → Prop} (hkb7 : ∀ (I : tHI) (J : tHJ) (v1 : Int32) (v2 : Int32), kb7 I J v1 v2 → tWG K B 0 0 S I J 7 [some (vR 40), some (vI v1), some (vI v2), none] []) {I : tHI} {J : tHJ} {v1 : Int32} {v2 : Int32} (h : F4_readSum_32 n S rq k kb7 I J v1 v2) : tWG K B 0 0 S I J 32 [some (vR 40), some (vI v1), some (vI v2), none] [] := by
  refine gBk (pe := 35) hO [o0 (.aload_n 0), oI (.bipush 43) 43] (by decide +kernel) (show tWG K B 0 0 S I J 35 [some (vR 40), some (vI v1), some (vI v2), none] [vI 43, vR 40] from ?_)
  refine gCVi_b hO (M4_isSign t0 h) hc4_isSign (idx := 56) (w := 702) (by decide +kernel) hR (by omega) t0 ⟨by decide, rfl⟩ (vs := [vI 43]) (st := []) ⟨rfl, Nat.le_of_ble_eq_true rfl, rfl⟩ (by decide +kernel) (fun x11 I9 J10 z12 h => ?_)
  have h := h z12
  have hj13 : ∀ (m14 : Int32), m14 = (if x11 = 0 then (3 : Int32) else 2) → tWG K B 0 0 S I9 J10 46 [some (vR 40), some (vI v1), some (vI v2), none] [vI m14] := by
    intro m14 em14
    subst em14
    refine gBk (pe := 48) hO [o0 (.istore_n 3), o0 (.aload_n 0)] (by decide +kernel) (And.intro (Nat.le_of_ble_eq_true rfl) (show tWG K B 0 0 S I9 J10 48 [some (vR 40), some (vI v1), some (vI v2), some (vI (if x11 = 0 then (3 : Int32) else 2))] [vR 40] from ?_))
    refine gCVv_c hO (M4_advance t0 h) hc4_advance (idx := 50) (w := 620) (by decide +kernel) hR (by omega) t0 ⟨by decide, rfl⟩ (vs := []) (st := []) ⟨rfl, Nat.le_of_ble_eq_true rfl, rfl⟩ (by decide +kernel) (fun I16 J17 h => ?_)
    refine gBk (pe := 53) hO [o0 (.aload_n 0), o0 (.iload_n 1)] (by decide +kernel) (show tWG K B 0 0 S I16 J17 53 [some (vR 40), some (vI v1), some (vI v2), some (vI (if x11 = 0 then (3 : Int32) else 2))] [vI v1, vR 40] from ?_)
    refine gCVv_c hO (hrec.2.2.2.2.1 _ _ _ _ h) hc4_readTerm (idx := 148) (w := 699) (by decide +kernel) hR (by omega) t0 ⟨by decide, rfl⟩ (vs := [vI v1]) (st := []) ⟨rfl, Nat.le_of_ble_eq_true rfl, rfl⟩ (by decide +kernel) (fun I18 J19 h => ?_)
    refine gBk (pe := 62) hO [o0 (.aload_n 0), oF (.getfield 14) 4 0 121 41, o0 (.iload_n 3), oI (.iconst 0) 0] (by decide +kernel) (And.intro t0 (And.intro rfl (show tWG K B 0 0 S I18 J19 62 [some (vR 40), some (vI v1), some (vI v2), some (vI (if x11 = 0 then (3 : Int32) else 2))] [vI 0, vI (if x11 = 0 then (3 : Int32) else 2), vR 41] from ?_)))
    refine gCVi_c hO (M6_emit (tGr.off hG t0 (k := 0) rfl) h) hc6_emit (idx := 132) (w := 706) (by decide +kernel) hR (by omega) (tGr.off hG t0 (k := 0) rfl) ⟨by decide, rfl⟩ (vs := [vI (if x11 = 0 then (3 : Int32) else 2), vI 0]) (st := []) ⟨rfl, Nat.le_of_ble_eq_true rfl, rfl⟩ (by decide +kernel) (fun x22 I20 J21 h => ?_)
    refine gBk (pe := 7) hO [o0 .pop, oI (.iinc 2 1) 1, o0 (.goto (-62))] (by decide +kernel) (show tWG K B 0 0 S I20 J21 7 [some (vR 40), some (vI v1), some (vI (v2 + 1)), some (vI (if x11 = 0 then (3 : Int32) else 2))] [] from ?_)
    exact gWeak (L' := [some (vR 40), some (vI v1), some (vI (v2 + 1)), none]) ⟨rfl, rfl, rfl, trivial⟩ (hkb7 _ _ _ _ h)
  refine gIfEq hO (off := 7) (tgt := 45) (by decide +kernel) (by decide) (fun c15 => ?_) (fun c15 => ?_)
  · refine gBk (pe := 46) hO [oI (.iconst 3) 3] (by decide +kernel) (show tWG K B 0 0 S I9 J10 46 [some (vR 40), some (vI v1), some (vI v2), none] [vI 3] from ?_)
    exact (hj13 _ (Eq.symm (if_pos c15)))
  · refine gBk (pe := 46) hO [oI (.iconst 2) 2, o0 (.goto 4)] (by decide +kernel) (show tWG K B 0 0 S I9 J10 46 [some (vR 40), some (vI v1), some (vI v2), none] [vI 2] from ?_)
    exact (hj13 _ (Eq.symm (if_neg c15)))
set_option maxRecDepth 100000 in
theorem W4_readSum_7 {K : tK} {B : tB} {S : tSH} {MC MS : Nat} {d : Nat} (hO : tKO K B RX4 cX4_readSum 4) (hR : kR K = tRm (d + 1) MC MS) (hG : tGr S) {n : Nat} (t0 : ty S 40 4) {rq : Nat → tHI → tHJ → Int32 → (tHI → tHJ → Prop) → Prop} (hd : 20 ≤ d) (hrec : tRG (kl K) B S n d rq) {k : tHI → tHJ → Prop} (hQ : tRet K B (tQv B (tPv S k)) 0 0 none) {kb7 : tHI → tHJ → Int32 → Int32 → Prop} (hkb7 : ∀ (I : tHI) (J : tHJ) (v1 : Int32) (v2 : Int32), kb7 I J v1 v2 → tWG K B 0 0 S I J 7 [some (vR 40), some (vI v1), some (vI v2), none] []) {I : tHI} {J : tHJ} {v1 : Int32} {v2 : Int32} (h : F4_readSum_7 n S rq k kb7 I J v1 v2) : tWG K B 0 0 S I J 7 [some (vR 40), some (vI v1), some (vI v2), none] [] := by
  refine gBk (pe := 11) hO [o0 (.iload_n 2), oI (.sipush 400) 400] (by decide +kernel) (show tWG K B 0 0 S I J 11 [some (vR 40), some (vI v1), some (vI v2), none] [vI 400, vI v2] from ?_)
  refine gIcGe hO (off := 61) (tgt := 72) (by decide +kernel) (by decide) (fun c3 => ?_) (fun c3 => ?_)
  · have h := h.1 c3
    exact gWeak (L' := [none, none, none, none]) trivial (W4_readSum_72 hO hR hG t0 hd hrec hQ h)
  · have h := h.2 c3
    refine gBk (pe := 17) hO [o0 (.aload_n 0), oI (.bipush 43) 43] (by decide +kernel) (show tWG K B 0 0 S I J 17 [some (vR 40), some (vI v1), some (vI v2), none] [vI 43, vR 40] from ?_)
    refine gCVi_b hO (M4_isSign t0 h) hc4_isSign (idx := 56) (w := 702) (by decide +kernel) hR (by omega) t0 ⟨by decide, rfl⟩ (vs := [vI 43]) (st := []) ⟨rfl, Nat.le_of_ble_eq_true rfl, rfl⟩ (by decide +kernel) (fun x6 I4 J5 z7 h => ?_)
    have h := h z7
    refine gIfNe hO (off := 12) (tgt := 32) (by decide +kernel) (by decide) (fun c8 => ?_) (fun c8 => ?_)
    · have h := h.1 c8
      exact W4_readSum_32 hO hR hG t0 hd hrec hQ hkb7 h
    · have h := h.2 c8
      refine gBk (pe := 26) hO [o0 (.aload_n 0), oI (.bipush 45) 45] (by decide +kernel) (show tWG K B 0 0 S I4 J5 26 [some (vR 40), some (vI v1), some (vI v2), none] [vI 45, vR 40] from ?_)
      refine gCVi_b hO (M4_isSign t0 h) hc4_isSign (idx := 56) (w := 702) (by decide +kernel) hR (by omega) t0 ⟨by decide, rfl⟩ (vs := [vI 45]) (st := []) ⟨rfl, Nat.le_of_ble_eq_true rfl, rfl⟩ (by decide +kernel) (fun x25 I23 J24 z26 h => ?_)
      have h := h z26
      refine gIfEq hO (off := 43) (tgt := 72) (by decide +kernel) (by decide) (fun c27 => ?_) (fun c27 => ?_)
      · have h := h.1 c27
        exact gWeak (L' := [none, none, none, none]) trivial (W4_readSum_72 hO hR hG t0 hd hrec hQ h)
      · have h := h.2 c27
        exact W4_readSum_32 hO hR hG t0 hd hrec hQ hkb7 h
theorem W4_readSum_L7 {K : tK} {B : tB} {S : tSH} {MC MS : Nat} {d : Nat} (hO : tKO K B RX4 cX4_readSum 4) (hR : kR K = tRm (d + 1) MC MS) (hG : tGr S) {n : Nat} (t0 : ty S 40 4) {rq : Nat → tHI → tHJ → Int32 → (tHI → tHJ → Prop) → Prop} (hd : 20 ≤ d) (hrec : tRG (kl K) B S n d rq) {k : tHI → tHJ → Prop} (hQ : tRet K B (tQv B (tPv S k)) 0 0 none) : ∀ (f : Nat) (I : tHI) (J : tHJ) (v1 : Int32) (v2 : Int32), F4_readSum_L7 n S rq k f I J v1 v2 → tWG K B 0 0 S I J 7 [some (vR 40), some (vI v1), some (vI v2), none] [] := by
  intro f
  induction f with
  | zero => intro I J v1 v2 h; exact h.elim
  | succ f ih => intro I J v1 v2 h; exact W4_readSum_7 hO hR hG t0 hd hrec hQ ih h
set_option maxRecDepth 100000 in
theorem M4_readSum {l : Launch} {B : tB} {S : tSH} {I : tHI} {J : tHJ} {v1 : Int32} {n : Nat} {k : tHI → tHJ → Prop} (t0 : ty S 40 4) {d : Nat} {rq : Nat → tHI → tHJ → Int32 → (tHI → tHJ → Prop) → Prop} (hd : 20 ≤ d) (hrec : tRG l B S n d rq) (h : F4_readSum n S rq I J v1 k) : Met l yX4_readSum (tWs yX4_readSum cX4_readSum 4 none) (tRm (d + 1) 0 0) (tPc B [vR 40, vI v1] S I J) (tQv B (tPv S k)) 0 0 (tA B) :=
  tEntry (by decide +kernel) [some (vR 40), some (vI v1), none, none] rfl rfl (Nat.le_of_ble_eq_true rfl) (fun K hl hR hO hQ hG => by
  subst hl
  refine gBk (pe := 2) hO [o0 (.aload_n 0), o0 (.iload_n 1)] (by decide +kernel) (show tWG K B 0 0 S I J 2 [some (vR 40), some (vI v1), none, none] [vI v1, vR 40] from ?_)
  refine gCVv_c hO (hrec.2.2.2.2.1 _ _ _ _ h) hc4_readTerm (idx := 148) (w := 699) (by decide +kernel) hR (by omega) t0 ⟨by decide, rfl⟩ (vs := [vI v1]) (st := []) ⟨rfl, Nat.le_of_ble_eq_true rfl, rfl⟩ (by decide +kernel) (fun I1 J2 h => ?_)
  refine gBk (pe := 7) hO [oI (.iconst 0) 0, o0 (.istore_n 2)] (by decide +kernel) (And.intro (Nat.le_of_ble_eq_true rfl) (show tWG K B 0 0 S I1 J2 7 [some (vR 40), some (vI v1), some (vI 0), none] [] from ?_))
  exact W4_readSum_L7 hO hR hG t0 hd hrec hQ n _ _ _ _ h)
set_option maxRecDepth 100000 in
theorem W4_readTerm_95 {K : tK} {B : tB} {S : tSH} {MC MS : Nat} {d : Nat} (hO : tKO K B RX4 cX4_readTerm 4) (hR : kR K = tRm (d + 1) MC MS) (hG : tGr S) {n : Nat} (t0 : ty S 40 4) {rq : Nat → tHI → tHJ → Int32 → (tHI → tHJ → Prop) → Prop} (hd : 20 ≤ d) (hrec : tRG (kl K) B S n d rq) {k : tHI → tHJ → Prop} (hQ : tRet K B (tQv B (tPv S k)) 0 0 none) {I : tHI} {J : tHJ} (h : F4_readTerm_95 n S rq k I J) : tWG K B 0 0 S I J 95 [none, none, none, none] [] := by
  exact gVret hO hQ (by decide +kernel) ⟨rfl, h⟩
set_option maxRecDepth 100000 in
theorem W4_readTerm_69 {K : tK} {B : tB} {S : tSH} {MC MS : Nat} {d : Nat} (hO : tKO K B RX4 cX4_readTerm 4) (hR : kR K = tRm (d + 1) MC MS) (hG : tGr S) {n : Nat} (t0 : ty S 40 4) {rq : Nat → tHI → tHJ → Int32 → (tHI → tHJ → Prop) → Prop} (hd : 20 ≤ d) (hrec : tRG (kl K) B S n d rq) {k : tHI → tHJ → Prop} (hQ : tRet K B (tQv B (tPv S k)) 0 0 none) {kb7 : tHI → tHJ → Int32 → Int32 → Prop} (hkb7 : ∀ (I : tHI) (J : tHJ) (v1 : Int32) (v2 : Int32), kb7 I J v1 v2 → tWG K B 0 0 S I J 7 [some (vR 40), some (vI v1), some (vI v2), none] []) {I : tHI} {J : tHJ} {v1 : Int32} {v2 : Int32} {s0 : Int32} (h : F4_readTerm_69 n S rq k kb7 I J v1 v2 s0) : tWG K B 0 0 S I J 69 [some (vR 40), some (vI v1), some (vI v2), none] [vI s0] := by
  refine gBk (pe := 71) hO [o0 (.istore_n 3), o0 (.aload_n 0)] (by decide +kernel) (And.intro (Nat.le_of_ble_eq_true rfl) (show tWG K B 0 0 S I J 71 [some (vR 40), some (vI v1), some (vI v2), some (vI s0)] [vR 40] from ?_))
  refine gCVv_c hO (M4_advance t0 h) hc4_advance (idx := 50) (w := 620) (by decide +kernel) hR (by omega) t0 ⟨by decide, rfl⟩ (vs := []) (st := []) ⟨rfl, Nat.le_of_ble_eq_true rfl, rfl⟩ (by decide +kernel) (fun I21 J22 h => ?_)
  refine gBk (pe := 76) hO [o0 (.aload_n 0), o0 (.iload_n 1)] (by decide +kernel) (show tWG K B 0 0 S I21 J22 76 [some (vR 40), some (vI v1), some (vI v2), some (vI s0)] [vI v1, vR 40] from ?_)
  refine gCVv_c hO (hrec.2.2.2.2.2 _ _ _ _ h) hc4_readPart (idx := 151) (w := 720) (by decide +kernel) hR (by omega) t0 ⟨by decide, rfl⟩ (vs := [vI v1]) (st := []) ⟨rfl, Nat.le_of_ble_eq_true rfl, rfl⟩ (by decide +kernel) (fun I23 J24 h => ?_)
  refine gBk (pe := 85) hO [o0 (.aload_n 0), oF (.getfield 14) 4 0 121 41, o0 (.iload_n 3), oI (.iconst 0) 0] (by decide +kernel) (And.intro t0 (And.intro rfl (show tWG K B 0 0 S I23 J24 85 [some (vR 40), some (vI v1), some (vI v2), some (vI s0)] [vI 0, vI s0, vR 41] from ?_)))
  refine gCVi_c hO (M6_emit (tGr.off hG t0 (k := 0) rfl) h) hc6_emit (idx := 132) (w := 706) (by decide +kernel) hR (by omega) (tGr.off hG t0 (k := 0) rfl) ⟨by decide, rfl⟩ (vs := [vI s0, vI 0]) (st := []) ⟨rfl, Nat.le_of_ble_eq_true rfl, rfl⟩ (by decide +kernel) (fun x27 I25 J26 h => ?_)
  refine gBk (pe := 7) hO [o0 .pop, oI (.iinc 2 1) 1, o0 (.goto (-85))] (by decide +kernel) (show tWG K B 0 0 S I25 J26 7 [some (vR 40), some (vI v1), some (vI (v2 + 1)), some (vI s0)] [] from ?_)
  exact gWeak (L' := [some (vR 40), some (vI v1), some (vI (v2 + 1)), none]) ⟨rfl, rfl, rfl, trivial⟩ (hkb7 _ _ _ _ h)
set_option maxRecDepth 100000 in
theorem W4_readTerm_41 {K : tK} {B : tB} {S : tSH} {MC MS : Nat} {d : Nat} (hO : tKO K B RX4 cX4_readTerm 4) (hR : kR K = tRm (d + 1) MC MS) (hG : tGr S) {n : Nat} (t0 : ty S 40 4) {rq : Nat → tHI → tHJ → Int32 → (tHI → tHJ → Prop) → Prop} (hd : 20 ≤ d) (hrec : tRG (kl K) B S n d rq) {k : tHI → tHJ → Prop} (hQ : tRet K B (tQv B (tPv S k)) 0 0 none) {kb7 : tHI → tHJ → Int32 → Int32 → Prop} (hkb7 : ∀ (I : tHI) (J : tHJ) (v1 : Int32) (v2 : Int32), kb7 I J v1 v2 → tWG K B 0 0 S I J 7 [some (vR 40), some (vI v1), some (vI v2), none] []) {I : tHI} {J : tHJ} {v1 : Int32} {v2 : Int32} (h : F4_readTerm_41 n S rq k kb7 I J v1 v2) : tWG K B 0 0 S I J 41 [some (vR 40), some (vI v1), some (vI v2), none] [] := by
  refine gBk (pe := 44) hO [o0 (.aload_n 0), oI (.bipush 42) 42] (by decide +kernel) (show tWG K B 0 0 S I J 44 [some (vR 40), some (vI v1), some (vI v2), none] [vI 42, vR 40] from ?_)
  refine gCVi_b hO (M4_isSign t0 h) hc4_isSign (idx := 56) (w := 702) (by decide +kernel) hR (by omega) t0 ⟨by decide, rfl⟩ (vs := [vI 42]) (st := []) ⟨rfl, Nat.le_of_ble_eq_true rfl, rfl⟩ (by decide +kernel) (fun x11 I9 J10 z12 h => ?_)
  have h := h z12
  refine gIfEq hO (off := 7) (tgt := 54) (by decide +kernel) (by decide) (fun c13 => ?_) (fun c13 => ?_)
  · have h := h.1 c13
    refine gBk (pe := 57) hO [o0 (.aload_n 0), oI (.bipush 47) 47] (by decide +kernel) (show tWG K B 0 0 S I9 J10 57 [some (vR 40), some (vI v1), some (vI v2), none] [vI 47, vR 40] from ?_)
    refine gCVi_b hO (M4_isSign t0 h) hc4_isSign (idx := 56) (w := 702) (by decide +kernel) hR (by omega) t0 ⟨by decide, rfl⟩ (vs := [vI 47]) (st := []) ⟨rfl, Nat.le_of_ble_eq_true rfl, rfl⟩ (by decide +kernel) (fun x16 I14 J15 z17 h => ?_)
    have h := h z17
    have hj18 : ∀ (m19 : Int32), m19 = (if x16 = 0 then (6 : Int32) else 5) → tWG K B 0 0 S I14 J15 69 [some (vR 40), some (vI v1), some (vI v2), none] [vI m19] := by
      intro m19 em19
      subst em19
      exact W4_readTerm_69 hO hR hG t0 hd hrec hQ hkb7 h
    refine gIfEq hO (off := 7) (tgt := 67) (by decide +kernel) (by decide) (fun c20 => ?_) (fun c20 => ?_)
    · refine gBk (pe := 69) hO [oI (.bipush 6) 6] (by decide +kernel) (show tWG K B 0 0 S I14 J15 69 [some (vR 40), some (vI v1), some (vI v2), none] [vI 6] from ?_)
      exact (hj18 _ (Eq.symm (if_pos c20)))
    · refine gBk (pe := 69) hO [oI (.iconst 5) 5, o0 (.goto 5)] (by decide +kernel) (show tWG K B 0 0 S I14 J15 69 [some (vR 40), some (vI v1), some (vI v2), none] [vI 5] from ?_)
      exact (hj18 _ (Eq.symm (if_neg c20)))
  · have h := h.2 c13
    refine gBk (pe := 69) hO [oI (.iconst 4) 4, o0 (.goto 18)] (by decide +kernel) (show tWG K B 0 0 S I9 J10 69 [some (vR 40), some (vI v1), some (vI v2), none] [vI 4] from ?_)
    exact W4_readTerm_69 hO hR hG t0 hd hrec hQ hkb7 h
set_option maxRecDepth 100000 in
theorem W4_readTerm_7 {K : tK} {B : tB} {S : tSH} {MC MS : Nat} {d : Nat} (hO : tKO K B RX4 cX4_readTerm 4) (hR : kR K = tRm (d + 1) MC MS) (hG : tGr S) {n : Nat} (t0 : ty S 40 4) {rq : Nat → tHI → tHJ → Int32 → (tHI → tHJ → Prop) → Prop} (hd : 20 ≤ d) (hrec : tRG (kl K) B S n d rq) {k : tHI → tHJ → Prop} (hQ : tRet K B (tQv B (tPv S k)) 0 0 none) {kb7 : tHI → tHJ → Int32 → Int32 → Prop} (hkb7 : ∀ (I : tHI) (J : tHJ) (v1 : Int32) (v2 : Int32), kb7 I J v1 v2 → tWG K B 0 0 S I J 7 [some (vR 40), some (vI v1), some (vI v2), none] []) {I : tHI} {J : tHJ} {v1 : Int32} {v2 : Int32} (h : F4_readTerm_7 n S rq k kb7 I J v1 v2) : tWG K B 0 0 S I J 7 [some (vR 40), some (vI v1), some (vI v2), none] [] := by
  refine gBk (pe := 11) hO [o0 (.iload_n 2), oI (.sipush 400) 400] (by decide +kernel) (show tWG K B 0 0 S I J 11 [some (vR 40), some (vI v1), some (vI v2), none] [vI 400, vI v2] from ?_)
  refine gIcGe hO (off := 84) (tgt := 95) (by decide +kernel) (by decide) (fun c3 => ?_) (fun c3 => ?_)
  · have h := h.1 c3
    exact gWeak (L' := [none, none, none, none]) trivial (W4_readTerm_95 hO hR hG t0 hd hrec hQ h)
  · have h := h.2 c3
    refine gBk (pe := 17) hO [o0 (.aload_n 0), oI (.bipush 42) 42] (by decide +kernel) (show tWG K B 0 0 S I J 17 [some (vR 40), some (vI v1), some (vI v2), none] [vI 42, vR 40] from ?_)
    refine gCVi_b hO (M4_isSign t0 h) hc4_isSign (idx := 56) (w := 702) (by decide +kernel) hR (by omega) t0 ⟨by decide, rfl⟩ (vs := [vI 42]) (st := []) ⟨rfl, Nat.le_of_ble_eq_true rfl, rfl⟩ (by decide +kernel) (fun x6 I4 J5 z7 h => ?_)
    have h := h z7
    refine gIfNe hO (off := 21) (tgt := 41) (by decide +kernel) (by decide) (fun c8 => ?_) (fun c8 => ?_)
    · have h := h.1 c8
      exact W4_readTerm_41 hO hR hG t0 hd hrec hQ hkb7 h
    · have h := h.2 c8
      refine gBk (pe := 26) hO [o0 (.aload_n 0), oI (.bipush 47) 47] (by decide +kernel) (show tWG K B 0 0 S I4 J5 26 [some (vR 40), some (vI v1), some (vI v2), none] [vI 47, vR 40] from ?_)
      refine gCVi_b hO (M4_isSign t0 h) hc4_isSign (idx := 56) (w := 702) (by decide +kernel) hR (by omega) t0 ⟨by decide, rfl⟩ (vs := [vI 47]) (st := []) ⟨rfl, Nat.le_of_ble_eq_true rfl, rfl⟩ (by decide +kernel) (fun x30 I28 J29 z31 h => ?_)
      have h := h z31
      refine gIfNe hO (off := 12) (tgt := 41) (by decide +kernel) (by decide) (fun c32 => ?_) (fun c32 => ?_)
      · have h := h.1 c32
        exact W4_readTerm_41 hO hR hG t0 hd hrec hQ hkb7 h
      · have h := h.2 c32
        refine gBk (pe := 35) hO [o0 (.aload_n 0), oI (.bipush 37) 37] (by decide +kernel) (show tWG K B 0 0 S I28 J29 35 [some (vR 40), some (vI v1), some (vI v2), none] [vI 37, vR 40] from ?_)
        refine gCVi_b hO (M4_isSign t0 h) hc4_isSign (idx := 56) (w := 702) (by decide +kernel) hR (by omega) t0 ⟨by decide, rfl⟩ (vs := [vI 37]) (st := []) ⟨rfl, Nat.le_of_ble_eq_true rfl, rfl⟩ (by decide +kernel) (fun x35 I33 J34 z36 h => ?_)
        have h := h z36
        refine gIfEq hO (off := 57) (tgt := 95) (by decide +kernel) (by decide) (fun c37 => ?_) (fun c37 => ?_)
        · have h := h.1 c37
          exact gWeak (L' := [none, none, none, none]) trivial (W4_readTerm_95 hO hR hG t0 hd hrec hQ h)
        · have h := h.2 c37
          exact W4_readTerm_41 hO hR hG t0 hd hrec hQ hkb7 h
theorem W4_readTerm_L7 {K : tK} {B : tB} {S : tSH} {MC MS : Nat} {d : Nat} (hO : tKO K B RX4 cX4_readTerm 4) (hR : kR K = tRm (d + 1) MC MS) (hG : tGr S) {n : Nat} (t0 : ty S 40 4) {rq : Nat → tHI → tHJ → Int32 → (tHI → tHJ → Prop) → Prop} (hd : 20 ≤ d) (hrec : tRG (kl K) B S n d rq) {k : tHI → tHJ → Prop} (hQ : tRet K B (tQv B (tPv S k)) 0 0 none) : ∀ (f : Nat) (I : tHI) (J : tHJ) (v1 : Int32) (v2 : Int32), F4_readTerm_L7 n S rq k f I J v1 v2 → tWG K B 0 0 S I J 7 [some (vR 40), some (vI v1), some (vI v2), none] [] := by
  intro f
  induction f with
  | zero => intro I J v1 v2 h; exact h.elim
  | succ f ih => intro I J v1 v2 h; exact W4_readTerm_7 hO hR hG t0 hd hrec hQ ih h
set_option maxRecDepth 100000 in
theorem M4_readTerm {l : Launch} {B : tB} {S : tSH} {I : tHI} {J : tHJ} {v1 : Int32} {n : Nat} {k : tHI → tHJ → Prop} (t0 : ty S 40 4) {d : Nat} {rq : Nat → tHI → tHJ → Int32 → (tHI → tHJ → Prop) → Prop} (hd : 20 ≤ d) (hrec : tRG l B S n d rq) (h : F4_readTerm n S rq I J v1 k) : Met l yX4_readTerm (tWs yX4_readTerm cX4_readTerm 4 none) (tRm (d + 1) 0 0) (tPc B [vR 40, vI v1] S I J) (tQv B (tPv S k)) 0 0 (tA B) :=
  tEntry (by decide +kernel) [some (vR 40), some (vI v1), none, none] rfl rfl (Nat.le_of_ble_eq_true rfl) (fun K hl hR hO hQ hG => by
  subst hl
  refine gBk (pe := 2) hO [o0 (.aload_n 0), o0 (.iload_n 1)] (by decide +kernel) (show tWG K B 0 0 S I J 2 [some (vR 40), some (vI v1), none, none] [vI v1, vR 40] from ?_)
  refine gCVv_c hO (hrec.2.2.2.2.2 _ _ _ _ h) hc4_readPart (idx := 151) (w := 720) (by decide +kernel) hR (by omega) t0 ⟨by decide, rfl⟩ (vs := [vI v1]) (st := []) ⟨rfl, Nat.le_of_ble_eq_true rfl, rfl⟩ (by decide +kernel) (fun I1 J2 h => ?_)
  refine gBk (pe := 7) hO [oI (.iconst 0) 0, o0 (.istore_n 2)] (by decide +kernel) (And.intro (Nat.le_of_ble_eq_true rfl) (show tWG K B 0 0 S I1 J2 7 [some (vR 40), some (vI v1), some (vI 0), none] [] from ?_))
  exact W4_readTerm_L7 hO hR hG t0 hd hrec hQ n _ _ _ _ h)
set_option maxRecDepth 100000 in
theorem W4_readPart_99 {K : tK} {B : tB} {S : tSH} {MC MS : Nat} {d : Nat} (hO : tKO K B RX4 cX4_readPart 5) (hR : kR K = tRm (d + 1) MC MS) (hG : tGr S) {n : Nat} (t0 : ty S 40 4) {rq : Nat → tHI → tHJ → Int32 → (tHI → tHJ → Prop) → Prop} (hd : 20 ≤ d) (hrec : tRG (kl K) B S n d rq) {k : tHI → tHJ → Prop} (hQ : tRet K B (tQv B (tPv S k)) 0 0 none) {I : tHI} {J : tHJ} (h : F4_readPart_99 n S rq k I J) : tWG K B 0 0 S I J 99 [some (vR 40), none, none, none, none] [] := by
  refine gBk (pe := 100) hO [o0 (.aload_n 0)] (by decide +kernel) (show tWG K B 0 0 S I J 100 [some (vR 40), none, none, none, none] [vR 40] from ?_)
  refine gCVv_c hO (M4_fail t0 h) hc4_fail (idx := 60) (w := 687) (by decide +kernel) hR (by omega) t0 ⟨by decide, rfl⟩ (vs := []) (st := []) ⟨rfl, Nat.le_of_ble_eq_true rfl, rfl⟩ (by decide +kernel) (fun I16 J17 h => ?_)
  exact gVret hO hQ (by decide +kernel) ⟨rfl, h⟩
set_option maxRecDepth 100000 in
theorem W4_readPart_222 {K : tK} {B : tB} {S : tSH} {MC MS : Nat} {d : Nat} (hO : tKO K B RX4 cX4_readPart 5) (hR : kR K = tRm (d + 1) MC MS) (hG : tGr S) {n : Nat} (t0 : ty S 40 4) {rq : Nat → tHI → tHJ → Int32 → (tHI → tHJ → Prop) → Prop} (hd : 20 ≤ d) (hrec : tRG (kl K) B S n d rq) {k : tHI → tHJ → Prop} (hQ : tRet K B (tQv B (tPv S k)) 0 0 none) {I : tHI} {J : tHJ} (h : F4_readPart_222 n S rq k I J) : tWG K B 0 0 S I J 222 [none, none, none, none, none] [] := by
  exact gVret hO hQ (by decide +kernel) ⟨rfl, h⟩
set_option maxRecDepth 100000 in
theorem W4_readPart_212 {K : tK} {B : tB} {S : tSH} {MC MS : Nat} {d : Nat} (hO : tKO K B RX4 cX4_readPart 5) (hR : kR K = tRm (d + 1) MC MS) (hG : tGr S) {n : Nat} (t0 : ty S 40 4) {rq : Nat → tHI → tHJ → Int32 → (tHI → tHJ → Prop) → Prop} (hd : 20 ≤ d) (hrec : tRG (kl K) B S n d rq) {k : tHI → tHJ → Prop} (hQ : tRet K B (tQv B (tPv S k)) 0 0 none) {I : tHI} {J : tHJ} {v2 : Int32} (h : F4_readPart_212 n S rq k I J v2) : tWG K B 0 0 S I J 212 [some (vR 40), none, some (vI v2), none, none] [] := by
  refine gBk (pe := 218) hO [o0 (.aload_n 0), oF (.getfield 14) 4 0 121 41, oI (.iconst 1) 1, o0 (.iload_n 2)] (by decide +kernel) (And.intro t0 (And.intro rfl (show tWG K B 0 0 S I J 218 [some (vR 40), none, some (vI v2), none, none] [vI v2, vI 1, vR 41] from ?_)))
  refine gCVi_c hO (M6_emit (tGr.off hG t0 (k := 0) rfl) h) hc6_emit (idx := 132) (w := 706) (by decide +kernel) hR (by omega) (tGr.off hG t0 (k := 0) rfl) ⟨by decide, rfl⟩ (vs := [vI 1, vI v2]) (st := []) ⟨rfl, Nat.le_of_ble_eq_true rfl, rfl⟩ (by decide +kernel) (fun x26 I24 J25 h => ?_)
  refine gBk (pe := 222) hO [o0 .pop] (by decide +kernel) (show tWG K B 0 0 S I24 J25 222 [some (vR 40), none, some (vI v2), none, none] [] from ?_)
  exact gWeak (L' := [none, none, none, none, none]) trivial (W4_readPart_222 hO hR hG t0 hd hrec hQ h)
set_option maxRecDepth 100000 in
theorem W4_readPart_178 {K : tK} {B : tB} {S : tSH} {MC MS : Nat} {d : Nat} (hO : tKO K B RX4 cX4_readPart 5) (hR : kR K = tRm (d + 1) MC MS) (hG : tGr S) {n : Nat} (t0 : ty S 40 4) {rq : Nat → tHI → tHJ → Int32 → (tHI → tHJ → Prop) → Prop} (hd : 20 ≤ d) (hrec : tRG (kl K) B S n d rq) {k : tHI → tHJ → Prop} (hQ : tRet K B (tQv B (tPv S k)) 0 0 none) {I : tHI} {J : tHJ} {v2 : Int32} (h : F4_readPart_178 n S rq k I J v2) : tWG K B 0 0 S I J 178 [some (vR 40), none, some (vI v2), none, none] [] := by
  refine gBk (pe := 182) hO [o0 (.aload_n 0), oF (.getfield 28) 4 3 124 0] (by decide +kernel) (And.intro t0 (show tWG K B 0 0 S I J 182 [some (vR 40), none, some (vI v2), none, none] [vI (I 40 3)] from ?_))
  refine gIfEq hO (off := 30) (tgt := 212) (by decide +kernel) (by decide) (fun c23 => ?_) (fun c23 => ?_)
  · have h := h.1 c23
    exact W4_readPart_212 hO hR hG t0 hd hrec hQ h
  · have h := h.2 c23
    refine gBk (pe := 188) hO [o0 (.iload_n 2), oI (.bipush 7) 7] (by decide +kernel) (show tWG K B 0 0 S I J 188 [some (vR 40), none, some (vI v2), none, none] [vI 7, vI v2] from ?_)
    refine gIcNe hO (off := 24) (tgt := 212) (by decide +kernel) (by decide) (fun c27 => ?_) (fun c27 => ?_)
    · have h := h.1 c27
      exact W4_readPart_212 hO hR hG t0 hd hrec hQ h
    · have h := h.2 c27
      refine gBk (pe := 201) hO [o0 (.aload_n 0), oF (.getfield 14) 4 0 121 41, oI (.iconst 1) 1, oI (.bipush 18) 18, o0 (.aload_n 0), oI (.iconst 0) 0, oI (.iconst 5) 5] (by decide +kernel) (And.intro t0 (And.intro rfl (show tWG K B 0 0 S I J 201 [some (vR 40), none, some (vI v2), none, none] [vI 5, vI 0, vR 40, vI 18, vI 1, vR 41] from ?_)))
      refine gCVi_c hO (M4_expectNumber t0 h) hc4_expectNumber (idx := 116) (w := 715) (by decide +kernel) hR (by omega) t0 ⟨by decide, rfl⟩ (vs := [vI 0, vI 5]) (st := [vI 18, vI 1, vR 41]) ⟨rfl, Nat.le_of_ble_eq_true rfl, rfl⟩ (by decide +kernel) (fun x30 I28 J29 h => ?_)
      refine gBk (pe := 205) hO [o0 .iadd] (by decide +kernel) (show tWG K B 0 0 S I28 J29 205 [some (vR 40), none, some (vI v2), none, none] [vI (18 + x30), vI 1, vR 41] from ?_)
      refine gCVi_c hO (M6_emit (tGr.off hG t0 (k := 0) rfl) h) hc6_emit (idx := 132) (w := 706) (by decide +kernel) hR (by omega) (tGr.off hG t0 (k := 0) rfl) ⟨by decide, rfl⟩ (vs := [vI 1, vI (18 + x30)]) (st := []) ⟨rfl, Nat.le_of_ble_eq_true rfl, rfl⟩ (by decide +kernel) (fun x33 I31 J32 h => ?_)
      refine gBk (pe := 222) hO [o0 .pop, o0 (.goto 13)] (by decide +kernel) (show tWG K B 0 0 S I31 J32 222 [some (vR 40), none, some (vI v2), none, none] [] from ?_)
      exact gWeak (L' := [none, none, none, none, none]) trivial (W4_readPart_222 hO hR hG t0 hd hrec hQ h)
set_option maxRecDepth 100000 in
theorem W4_readPart_53 {K : tK} {B : tB} {S : tSH} {MC MS : Nat} {d : Nat} (hO : tKO K B RX4 cX4_readPart 5) (hR : kR K = tRm (d + 1) MC MS) (hG : tGr S) {n : Nat} (t0 : ty S 40 4) {rq : Nat → tHI → tHJ → Int32 → (tHI → tHJ → Prop) → Prop} (hd : 20 ≤ d) (hrec : tRG (kl K) B S n d rq) {k : tHI → tHJ → Prop} (hQ : tRet K B (tQv B (tPv S k)) 0 0 none) {I : tHI} {J : tHJ} {s0 : Nat} (q0 : s0 < 11) (h : F4_readPart_53 n S rq k I J s0) : tWG K B 0 0 S I J 53 [some (vR 40), none, none, none, none] [vA (tadK B s0), vR 40] := by
  refine gCVi_c hO (M4_wordIn t0 q0 h) hc4_wordIn (idx := 91) (w := 634) (by decide +kernel) hR (by omega) t0 ⟨by decide, rfl⟩ (vs := [vA (tadK B s0)]) (st := []) ⟨rfl, Nat.le_of_ble_eq_true rfl, rfl⟩ (by decide +kernel) (fun x9 I7 J8 h => ?_)
  refine gBk (pe := 59) hO [o0 (.istore_n 2), o0 (.iload_n 2), oI (.iconst (-1)) (-1)] (by decide +kernel) (And.intro (Nat.le_of_ble_eq_true rfl) (show tWG K B 0 0 S I7 J8 59 [some (vR 40), none, some (vI x9), none, none] [vI (-1), vI x9] from ?_))
  have hj10 : ∀ (m11 : Int32), m11 = (if x9 = (-1) then (if (I7 40 6) = 2 then (if 1000 < (I7 40 7) then (0 : Int32) else 1) else 0) else 1) → tWG K B 0 0 S I7 J8 85 [some (vR 40), none, some (vI x9), none, none] [vI m11] := by
    intro m11 em11
    subst em11
    refine gBk (pe := 87) hO [o0 (.istore_n 3), o0 (.iload_n 3)] (by decide +kernel) (And.intro (Nat.le_of_ble_eq_true rfl) (show tWG K B 0 0 S I7 J8 87 [some (vR 40), none, some (vI x9), some (vI (if x9 = (-1) then (if (I7 40 6) = 2 then (if 1000 < (I7 40 7) then (0 : Int32) else 1) else 0) else 1)), none] [vI (if x9 = (-1) then (if (I7 40 6) = 2 then (if 1000 < (I7 40 7) then (0 : Int32) else 1) else 0) else 1)] from ?_))
    refine gIfEq hO (off := 12) (tgt := 99) (by decide +kernel) (by decide) (fun c15 => ?_) (fun c15 => ?_)
    · have h := h.1 c15
      exact gWeak (L' := [some (vR 40), none, none, none, none]) ⟨rfl, trivial⟩ (W4_readPart_99 hO hR hG t0 hd hrec hQ h)
    · have h := h.2 c15
      refine gBk (pe := 96) hO [o0 (.aload_n 0), oF (.getfield 44) 4 8 129 0, oI (.bipush 50) 50] (by decide +kernel) (And.intro t0 (show tWG K B 0 0 S I7 J8 96 [some (vR 40), none, some (vI x9), some (vI (if x9 = (-1) then (if (I7 40 6) = 2 then (if 1000 < (I7 40 7) then (0 : Int32) else 1) else 0) else 1)), none] [vI 50, vI (I7 40 8)] from ?_))
      refine gIcLt hO (off := 8) (tgt := 104) (by decide +kernel) (by decide) (fun c18 => ?_) (fun c18 => ?_)
      · have h := h.1 c18
        refine gBk (pe := 121) hO [o0 (.aload_n 0), o0 .dup, oF (.getfield 44) 4 8 129 0, oI (.iconst 1) 1, o0 .iadd, oF (.putfield 44) 4 8 129 0, o0 (.aload_n 0), oF (.getfield 41) 4 7 128 0, o0 (.istore 4), o0 (.aload_n 0)] (by decide +kernel) (And.intro t0 (And.intro t0 (And.intro t0 (And.intro (Nat.le_of_ble_eq_true rfl) (show tWG K B 0 0 S (uI I7 40 8 ((I7 40 8) + 1)) J8 121 [some (vR 40), none, some (vI x9), some (vI (if x9 = (-1) then (if (I7 40 6) = 2 then (if 1000 < (I7 40 7) then (0 : Int32) else 1) else 0) else 1)), some (vI ((uI I7 40 8 ((I7 40 8) + 1)) 40 7))] [vR 40] from ?_)))))
        refine gCVv_c hO (M4_advance t0 h) hc4_advance (idx := 50) (w := 620) (by decide +kernel) hR (by omega) t0 ⟨by decide, rfl⟩ (vs := []) (st := []) ⟨rfl, Nat.le_of_ble_eq_true rfl, rfl⟩ (by decide +kernel) (fun I19 J20 h => ?_)
        refine gBk (pe := 126) hO [o0 (.iload_n 2), oI (.iconst (-1)) (-1)] (by decide +kernel) (show tWG K B 0 0 S I19 J20 126 [some (vR 40), none, some (vI x9), some (vI (if x9 = (-1) then (if (I7 40 6) = 2 then (if 1000 < (I7 40 7) then (0 : Int32) else 1) else 0) else 1)), some (vI ((uI I7 40 8 ((I7 40 8) + 1)) 40 7))] [vI (-1), vI x9] from ?_)
        refine gIcNe hO (off := 17) (tgt := 143) (by decide +kernel) (by decide) (fun c21 => ?_) (fun c21 => ?_)
        · have h := h.1 c21
          refine gBk (pe := 147) hO [o0 (.aload_n 0), oF (.getfield 28) 4 3 124 0] (by decide +kernel) (And.intro t0 (show tWG K B 0 0 S I19 J20 147 [some (vR 40), none, some (vI x9), some (vI (if x9 = (-1) then (if (I7 40 6) = 2 then (if 1000 < (I7 40 7) then (0 : Int32) else 1) else 0) else 1)), some (vI ((uI I7 40 8 ((I7 40 8) + 1)) 40 7))] [vI (I19 40 3)] from ?_))
          refine gIfEq hO (off := 31) (tgt := 178) (by decide +kernel) (by decide) (fun c22 => ?_) (fun c22 => ?_)
          · have h := h.1 c22
            exact gWeak (L' := [some (vR 40), none, some (vI x9), none, none]) ⟨rfl, rfl, trivial⟩ (W4_readPart_178 hO hR hG t0 hd hrec hQ h)
          · have h := h.2 c22
            refine gBk (pe := 153) hO [o0 (.iload_n 2), oI (.bipush 6) 6] (by decide +kernel) (show tWG K B 0 0 S I19 J20 153 [some (vR 40), none, some (vI x9), some (vI (if x9 = (-1) then (if (I7 40 6) = 2 then (if 1000 < (I7 40 7) then (0 : Int32) else 1) else 0) else 1)), some (vI ((uI I7 40 8 ((I7 40 8) + 1)) 40 7))] [vI 6, vI x9] from ?_)
            refine gIcNe hO (off := 25) (tgt := 178) (by decide +kernel) (by decide) (fun c34 => ?_) (fun c34 => ?_)
            · have h := h.1 c34
              exact gWeak (L' := [some (vR 40), none, some (vI x9), none, none]) ⟨rfl, rfl, trivial⟩ (W4_readPart_178 hO hR hG t0 hd hrec hQ h)
            · have h := h.2 c34
              refine gBk (pe := 167) hO [o0 (.aload_n 0), oF (.getfield 14) 4 0 121 41, oI (.iconst 1) 1, oI (.bipush 6) 6, o0 (.aload_n 0), oI (.iconst 0) 0, oI (.bipush 11) 11] (by decide +kernel) (And.intro t0 (And.intro rfl (show tWG K B 0 0 S I19 J20 167 [some (vR 40), none, some (vI x9), some (vI (if x9 = (-1) then (if (I7 40 6) = 2 then (if 1000 < (I7 40 7) then (0 : Int32) else 1) else 0) else 1)), some (vI ((uI I7 40 8 ((I7 40 8) + 1)) 40 7))] [vI 11, vI 0, vR 40, vI 6, vI 1, vR 41] from ?_)))
              refine gCVi_c hO (M4_expectNumber t0 h) hc4_expectNumber (idx := 116) (w := 715) (by decide +kernel) hR (by omega) t0 ⟨by decide, rfl⟩ (vs := [vI 0, vI 11]) (st := [vI 6, vI 1, vR 41]) ⟨rfl, Nat.le_of_ble_eq_true rfl, rfl⟩ (by decide +kernel) (fun x37 I35 J36 h => ?_)
              refine gBk (pe := 171) hO [o0 .iadd] (by decide +kernel) (show tWG K B 0 0 S I35 J36 171 [some (vR 40), none, some (vI x9), some (vI (if x9 = (-1) then (if (I7 40 6) = 2 then (if 1000 < (I7 40 7) then (0 : Int32) else 1) else 0) else 1)), some (vI ((uI I7 40 8 ((I7 40 8) + 1)) 40 7))] [vI (6 + x37), vI 1, vR 41] from ?_)
              refine gCVi_c hO (M6_emit (tGr.off hG t0 (k := 0) rfl) h) hc6_emit (idx := 132) (w := 706) (by decide +kernel) hR (by omega) (tGr.off hG t0 (k := 0) rfl) ⟨by decide, rfl⟩ (vs := [vI 1, vI (6 + x37)]) (st := []) ⟨rfl, Nat.le_of_ble_eq_true rfl, rfl⟩ (by decide +kernel) (fun x40 I38 J39 h => ?_)
              refine gBk (pe := 222) hO [o0 .pop, o0 (.goto 47)] (by decide +kernel) (show tWG K B 0 0 S I38 J39 222 [some (vR 40), none, some (vI x9), some (vI (if x9 = (-1) then (if (I7 40 6) = 2 then (if 1000 < (I7 40 7) then (0 : Int32) else 1) else 0) else 1)), some (vI ((uI I7 40 8 ((I7 40 8) + 1)) 40 7))] [] from ?_)
              exact gWeak (L' := [none, none, none, none, none]) trivial (W4_readPart_222 hO hR hG t0 hd hrec hQ h)
        · have h := h.2 c21
          refine gBk (pe := 136) hO [o0 (.aload_n 0), oF (.getfield 14) 4 0 121 41, oI (.iconst 0) 0, o0 (.iload 4)] (by decide +kernel) (And.intro t0 (And.intro rfl (show tWG K B 0 0 S I19 J20 136 [some (vR 40), none, some (vI x9), some (vI (if x9 = (-1) then (if (I7 40 6) = 2 then (if 1000 < (I7 40 7) then (0 : Int32) else 1) else 0) else 1)), some (vI ((uI I7 40 8 ((I7 40 8) + 1)) 40 7))] [vI ((uI I7 40 8 ((I7 40 8) + 1)) 40 7), vI 0, vR 41] from ?_)))
          refine gCVi_c hO (M6_emit (tGr.off hG t0 (k := 0) rfl) h) hc6_emit (idx := 132) (w := 706) (by decide +kernel) hR (by omega) (tGr.off hG t0 (k := 0) rfl) ⟨by decide, rfl⟩ (vs := [vI 0, vI ((uI I7 40 8 ((I7 40 8) + 1)) 40 7)]) (st := []) ⟨rfl, Nat.le_of_ble_eq_true rfl, rfl⟩ (by decide +kernel) (fun x43 I41 J42 h => ?_)
          refine gBk (pe := 222) hO [o0 .pop, o0 (.goto 82)] (by decide +kernel) (show tWG K B 0 0 S I41 J42 222 [some (vR 40), none, some (vI x9), some (vI (if x9 = (-1) then (if (I7 40 6) = 2 then (if 1000 < (I7 40 7) then (0 : Int32) else 1) else 0) else 1)), some (vI ((uI I7 40 8 ((I7 40 8) + 1)) 40 7))] [] from ?_)
          exact gWeak (L' := [none, none, none, none, none]) trivial (W4_readPart_222 hO hR hG t0 hd hrec hQ h)
      · have h := h.2 c18
        exact gWeak (L' := [some (vR 40), none, none, none, none]) ⟨rfl, trivial⟩ (W4_readPart_99 hO hR hG t0 hd hrec hQ h)
  refine gIcNe hO (off := 21) (tgt := 80) (by decide +kernel) (by decide) (fun c12 => ?_) (fun c12 => ?_)
  · refine gBk (pe := 85) hO [oI (.iconst 1) 1, o0 (.goto 4)] (by decide +kernel) (show tWG K B 0 0 S I7 J8 85 [some (vR 40), none, some (vI x9), none, none] [vI 1] from ?_)
    exact (hj10 _ (Eq.symm (if_neg c12)))
  · refine gBk (pe := 67) hO [o0 (.aload_n 0), oF (.getfield 38) 4 6 127 0, oI (.iconst 2) 2] (by decide +kernel) (And.intro t0 (show tWG K B 0 0 S I7 J8 67 [some (vR 40), none, some (vI x9), none, none] [vI 2, vI (I7 40 6)] from ?_))
    refine gIcNe hO (off := 17) (tgt := 84) (by decide +kernel) (by decide) (fun c13 => ?_) (fun c13 => ?_)
    · refine gBk (pe := 85) hO [oI (.iconst 0) 0] (by decide +kernel) (show tWG K B 0 0 S I7 J8 85 [some (vR 40), none, some (vI x9), none, none] [vI 0] from ?_)
      exact (hj10 _ (Eq.symm ((if_pos c12).trans (if_neg c13))))
    · refine gBk (pe := 77) hO [o0 (.aload_n 0), oF (.getfield 41) 4 7 128 0, oI (.sipush 1000) 1000] (by decide +kernel) (And.intro t0 (show tWG K B 0 0 S I7 J8 77 [some (vR 40), none, some (vI x9), none, none] [vI 1000, vI (I7 40 7)] from ?_))
      refine gIcGt hO (off := 7) (tgt := 84) (by decide +kernel) (by decide) (fun c14 => ?_) (fun c14 => ?_)
      · refine gBk (pe := 85) hO [oI (.iconst 0) 0] (by decide +kernel) (show tWG K B 0 0 S I7 J8 85 [some (vR 40), none, some (vI x9), none, none] [vI 0] from ?_)
        exact (hj10 _ (Eq.symm ((if_pos c12).trans ((if_pos c13).trans (if_pos c14)))))
      · refine gBk (pe := 85) hO [oI (.iconst 1) 1, o0 (.goto 4)] (by decide +kernel) (show tWG K B 0 0 S I7 J8 85 [some (vR 40), none, some (vI x9), none, none] [vI 1] from ?_)
        exact (hj10 _ (Eq.symm ((if_pos c12).trans ((if_pos c13).trans (if_neg c14)))))
set_option maxRecDepth 100000 in
theorem M4_readPart {l : Launch} {B : tB} {S : tSH} {I : tHI} {J : tHJ} {v1 : Int32} {n : Nat} {k : tHI → tHJ → Prop} (t0 : ty S 40 4) {d : Nat} {rq : Nat → tHI → tHJ → Int32 → (tHI → tHJ → Prop) → Prop} (hd : 20 ≤ d) (hrec : tRG l B S n d rq) (h : F4_readPart n S rq I J v1 k) : Met l yX4_readPart (tWs yX4_readPart cX4_readPart 5 none) (tRm (d + 1) 0 0) (tPc B [vR 40, vI v1] S I J) (tQv B (tPv S k)) 0 0 (tA B) :=
  tEntry (by decide +kernel) [some (vR 40), some (vI v1), none, none, none] rfl rfl (Nat.le_of_ble_eq_true rfl) (fun K hl hR hO hQ hG => by
  subst hl
  refine gBk (pe := 3) hO [o0 (.aload_n 0), oI (.bipush 91) 91] (by decide +kernel) (show tWG K B 0 0 S I J 3 [some (vR 40), some (vI v1), none, none, none] [vI 91, vR 40] from ?_)
  refine gCVi_b hO (M4_isSign t0 h) hc4_isSign (idx := 56) (w := 702) (by decide +kernel) hR (by omega) t0 ⟨by decide, rfl⟩ (vs := [vI 91]) (st := []) ⟨rfl, Nat.le_of_ble_eq_true rfl, rfl⟩ (by decide +kernel) (fun x3 I1 J2 z4 h => ?_)
  have h := h z4
  refine gIfEq hO (off := 32) (tgt := 38) (by decide +kernel) (by decide) (fun c5 => ?_) (fun c5 => ?_)
  · have h := h.1 c5
    refine gBk (pe := 43) hO [o0 (.aload_n 0), o0 (.aload_n 0), oF (.getfield 28) 4 3 124 0] (by decide +kernel) (And.intro t0 (show tWG K B 0 0 S I1 J2 43 [some (vR 40), some (vI v1), none, none, none] [vI (I1 40 3), vR 40] from ?_))
    refine gIfEq hO (off := 8) (tgt := 51) (by decide +kernel) (by decide) (fun c6 => ?_) (fun c6 => ?_)
    · have h := h.1 c6
      refine s_ldcs hO (i := 8) (idx := 156) rfl rfl (by decide +kernel) ?_
      exact gWeak (L' := [some (vR 40), none, none, none, none]) ⟨rfl, trivial⟩ (W4_readPart_53 hO hR hG t0 hd hrec hQ (show 8 < 11 by decide) h)
    · have h := h.2 c6
      refine s_ldcs hO (i := 7) (idx := 154) rfl rfl (by decide +kernel) ?_
      refine gBk (pe := 53) hO [o0 (.goto 5)] (by decide +kernel) (show tWG K B 0 0 S I1 J2 53 [some (vR 40), some (vI v1), none, none, none] [vA (tadK B 7), vR 40] from ?_)
      exact gWeak (L' := [some (vR 40), none, none, none, none]) ⟨rfl, trivial⟩ (W4_readPart_53 hO hR hG t0 hd hrec hQ (show 7 < 11 by decide) h)
  · have h := h.2 c5
    refine gBk (pe := 12) hO [o0 (.iload_n 1), oI (.bipush 8) 8] (by decide +kernel) (show tWG K B 0 0 S I1 J2 12 [some (vR 40), some (vI v1), none, none, none] [vI 8, vI v1] from ?_)
    refine gIcLt hO (off := 8) (tgt := 20) (by decide +kernel) (by decide) (fun c44 => ?_) (fun c44 => ?_)
    · have h := h.1 c44
      refine gBk (pe := 21) hO [o0 (.aload_n 0)] (by decide +kernel) (show tWG K B 0 0 S I1 J2 21 [some (vR 40), some (vI v1), none, none, none] [vR 40] from ?_)
      refine gCVv_c hO (M4_advance t0 h) hc4_advance (idx := 50) (w := 620) (by decide +kernel) hR (by omega) t0 ⟨by decide, rfl⟩ (vs := []) (st := []) ⟨rfl, Nat.le_of_ble_eq_true rfl, rfl⟩ (by decide +kernel) (fun I45 J46 h => ?_)
      refine gBk (pe := 28) hO [o0 (.aload_n 0), o0 (.iload_n 1), oI (.iconst 1) 1, o0 .iadd] (by decide +kernel) (show tWG K B 0 0 S I45 J46 28 [some (vR 40), some (vI v1), none, none, none] [vI (v1 + 1), vR 40] from ?_)
      refine gCVv_c hO (hrec.2.2.2.1 _ _ _ _ h) hc4_readSum (idx := 103) (w := 695) (by decide +kernel) hR (by omega) t0 ⟨by decide, rfl⟩ (vs := [vI (v1 + 1)]) (st := []) ⟨rfl, Nat.le_of_ble_eq_true rfl, rfl⟩ (by decide +kernel) (fun I47 J48 h => ?_)
      refine gBk (pe := 34) hO [o0 (.aload_n 0), oI (.bipush 93) 93] (by decide +kernel) (show tWG K B 0 0 S I47 J48 34 [some (vR 40), some (vI v1), none, none, none] [vI 93, vR 40] from ?_)
      refine gCVv_c hO (M4_expectSign t0 h) hc4_expectSign (idx := 145) (w := 711) (by decide +kernel) hR (by omega) t0 ⟨by decide, rfl⟩ (vs := [vI 93]) (st := []) ⟨rfl, Nat.le_of_ble_eq_true rfl, rfl⟩ (by decide +kernel) (fun I49 J50 h => ?_)
      exact gVret hO hQ (by decide +kernel) ⟨rfl, h⟩
    · have h := h.2 c44
      refine gBk (pe := 16) hO [o0 (.aload_n 0)] (by decide +kernel) (show tWG K B 0 0 S I1 J2 16 [some (vR 40), some (vI v1), none, none, none] [vR 40] from ?_)
      refine gCVv_c hO (M4_fail t0 h) hc4_fail (idx := 60) (w := 687) (by decide +kernel) hR (by omega) t0 ⟨by decide, rfl⟩ (vs := []) (st := []) ⟨rfl, Nat.le_of_ble_eq_true rfl, rfl⟩ (by decide +kernel) (fun I51 J52 h => ?_)
      exact gVret hO hQ (by decide +kernel) ⟨rfl, h⟩)
theorem M4_rec {l : Launch} {B : tB} {S : tSH} {n : Nat} (t0 : ty S 40 4) : ∀ f, tRG l B S n (20 + f) (F4_rec n S f) := by
  intro f
  induction f with
  | zero => exact ⟨fun _ _ _ _ h => h.elim, fun _ _ _ _ h => h.elim, fun _ _ _ _ h => h.elim, fun _ _ _ _ h => h.elim, fun _ _ _ _ h => h.elim, fun _ _ _ _ h => h.elim⟩
  | succ f ih => exact ⟨fun _ _ _ _ h => M4_readTest t0 (Nat.le_add_right _ _) ih h, fun _ _ _ _ h => M4_readBoth t0 (Nat.le_add_right _ _) ih h, fun _ _ _ _ h => M4_readPlain t0 (Nat.le_add_right _ _) ih h, fun _ _ _ _ h => M4_readSum t0 (Nat.le_add_right _ _) ih h, fun _ _ _ _ h => M4_readTerm t0 (Nat.le_add_right _ _) ih h, fun _ _ _ _ h => M4_readPart t0 (Nat.le_add_right _ _) ih h⟩
