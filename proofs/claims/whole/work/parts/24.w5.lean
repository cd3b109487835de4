set_option maxRecDepth 100000 in
theorem W12_findLeaning_168 {K : tK} {B : tB} {S : tSH} {MC MS : Nat} (hO : tKO K B RX12 cX12_findLeaning 8) (hR : kR K = tRm 9 MC MS) (hG : tGr S) {n : Nat} (t0 : ty S 61 12) {k : Int32 → tHI → tHJ → Prop} (hQ : tRet K B (tQi B (tPi S k)) 0 0 (some .int)) {kb55 : tHI → tHJ → Int32 → Int32 → Int32 → Int32 → Prop} (hkb55 : ∀ (I : tHI) (J : tHJ) (v1 : Int32) (v2 : Int32) (v3 : Int32) (v4 : Int32), kb55 I J v1 v2 v3 v4 → tWG K B 0 0 S I J 55 [some (vR 61), some (vI v1), some (vI v2), some (vI v3), some (vI v4), none, none, none] []) {I : tHI} {J : tHJ} {v1 : Int32} {v2 : Int32} {v3 : Int32} {v4 : Int32} {v6 : Int32} (h : F12_findLeaning_168 n S k kb55 I J v1 v2 v3 v4 v6) : tWG K B 0 0 S I J 168 [some (vR 61), some (vI v1), some (vI v2), some (vI v3), some (vI v4), none, some (vI v6), none] [] := by
  refine gBk (pe := 171) hO [o0 (.iload 6), o0 (.iload_n 2)] (by decide +kernel) (show tWG K B 0 0 S I J 171 [some (vR 61), some (vI v1), some (vI v2), some (vI v3), some (vI v4), none, some (vI v6), none] [vI v2, vI v6] from ?_)
  have hj12 : ∀ (m13 : Int32), m13 = (if v6 ≤ v2 then v2 else v6) → tWG K B 0 0 S I J 180 [some (vR 61), some (vI v1), none, some (vI v3), some (vI v4), none, none, none] [vI m13] := by
    intro m13 em13
    subst em13
    refine gBk (pe := 55) hO [o0 (.istore_n 2), oI (.iinc 4 1) 1, o0 (.goto (-129))] (by decide +kernel) (And.intro (Nat.le_of_ble_eq_true rfl) (show tWG K B 0 0 S I J 55 [some (vR 61), some (vI v1), some (vI (if v6 ≤ v2 then v2 else v6)), some (vI v3), some (vI (v4 + 1)), none, none, none] [] from ?_))
    exact hkb55 _ _ _ _ _ _ h
  refine gIcLe hO (off := 8) (tgt := 179) (by decide +kernel) (by decide) (fun c14 => ?_) (fun c14 => ?_)
  · refine gBk (pe := 180) hO [o0 (.iload_n 2)] (by decide +kernel) (show tWG K B 0 0 S I J 180 [some (vR 61), some (vI v1), some (vI v2), some (vI v3), some (vI v4), none, some (vI v6), none] [vI v2] from ?_)
    exact gWeak (L' := [some (vR 61), some (vI v1), none, some (vI v3), some (vI v4), none, none, none]) ⟨rfl, rfl, rfl, rfl, trivial⟩ (hj12 _ (Eq.symm (if_pos c14)))
  · refine gBk (pe := 180) hO [o0 (.iload 6), o0 (.goto 4)] (by decide +kernel) (show tWG K B 0 0 S I J 180 [some (vR 61), some (vI v1), some (vI v2), some (vI v3), some (vI v4), none, some (vI v6), none] [vI v6] from ?_)
    exact gWeak (L' := [some (vR 61), some (vI v1), none, some (vI v3), some (vI v4), none, none, none]) ⟨rfl, rfl, rfl, rfl, trivial⟩ (hj12 _ (Eq.symm (if_neg c14)))
set_option maxRecDepth 100000 in
theorem W12_findLeaning_132 {K : tK} {B : tB} {S : tSH} {MC MS : Nat} (hO : tKO K B RX12 cX12_findLeaning 8) (hR : kR K = tRm 9 MC MS) (hG : tGr S) {n : Nat} (t0 : ty S 61 12) {k : Int32 → tHI → tHJ → Prop} (hQ : tRet K B (tQi B (tPi S k)) 0 0 (some .int)) {kb55 : tHI → tHJ → Int32 → Int32 → Int32 → Int32 → Prop} (hkb55 : ∀ (I : tHI) (J : tHJ) (v1 : Int32) (v2 : Int32) (v3 : Int32) (v4 : Int32), kb55 I J v1 v2 v3 v4 → tWG K B 0 0 S I J 55 [some (vR 61), some (vI v1), some (vI v2), some (vI v3), some (vI v4), none, none, none] []) {kb132 : tHI → tHJ → Int32 → Int32 → Int32 → Int32 → Int32 → Int32 → Prop} (hkb132 : ∀ (I : tHI) (J : tHJ) (v1 : Int32) (v2 : Int32) (v3 : Int32) (v4 : Int32) (v6 : Int32) (v7 : Int32), kb132 I J v1 v2 v3 v4 v6 v7 → tWG K B 0 0 S I J 132 [some (vR 61), some (vI v1), some (vI v2), some (vI v3), some (vI v4), none, some (vI v6), some (vI v7)] []) {I : tHI} {J : tHJ} {v1 : Int32} {v2 : Int32} {v3 : Int32} {v4 : Int32} {v6 : Int32} {v7 : Int32} (h : F12_findLeaning_132 n S k kb55 kb132 I J v1 v2 v3 v4 v6 v7) : tWG K B 0 0 S I J 132 [some (vR 61), some (vI v1), some (vI v2), some (vI v3), some (vI v4), none, some (vI v6), some (vI v7)] [] := by
  refine gBk (pe := 136) hO [o0 (.iload 7), oI (.bipush 6) 6] (by decide +kernel) (show tWG K B 0 0 S I J 136 [some (vR 61), some (vI v1), some (vI v2), some (vI v3), some (vI v4), none, some (vI v6), some (vI v7)] [vI 6, vI v7] from ?_)
  refine gIcGe hO (off := 32) (tgt := 168) (by decide +kernel) (by decide) (fun c11 => ?_) (fun c11 => ?_)
  · have h := h.1 c11
    exact gWeak (L' := [some (vR 61), some (vI v1), some (vI v2), some (vI v3), some (vI v4), none, some (vI v6), none]) ⟨rfl, rfl, rfl, rfl, rfl, rfl, trivial⟩ (W12_findLeaning_168 hO hR hG t0 hQ hkb55 h)
  · have h := h.2 c11
    refine gBk (pe := 142) hO [o0 (.iload 6), o0 (.iload_n 2)] (by decide +kernel) (show tWG K B 0 0 S I J 142 [some (vR 61), some (vI v1), some (vI v2), some (vI v3), some (vI v4), none, some (vI v6), some (vI v7)] [vI v2, vI v6] from ?_)
    refine gIcLe hO (off := 26) (tgt := 168) (by decide +kernel) (by decide) (fun c15 => ?_) (fun c15 => ?_)
    · have h := h.1 c15
      exact gWeak (L' := [some (vR 61), some (vI v1), some (vI v2), some (vI v3), some (vI v4), none, some (vI v6), none]) ⟨rfl, rfl, rfl, rfl, rfl, rfl, trivial⟩ (W12_findLeaning_168 hO hR hG t0 hQ hkb55 h)
    · have h := h.2 c15
      refine gBk (pe := 132) hO [o0 (.aload_n 0), oF (.getfield 133) 12 47 227 84, o0 (.iload 7), o0 (.aload_n 0), oF (.getfield 13) 12 3 179 63, oI (.bipush 20) 20, o0 (.iload 7), o0 .iadd, o0 .iaload, o0 .iastore, oI (.iinc 7 1) 1, o0 (.goto (-33))] (by decide +kernel) (And.intro t0 (And.intro rfl (And.intro t0 (And.intro rfl (And.intro (tGr.off hG t0 (k := 3) rfl) (And.intro (tin (tGr.len hG t0 (k := 3) rfl (by decide)) h.1) (And.intro (tGr.off hG t0 (k := 47) rfl) (And.intro (tin (tGr.len hG t0 (k := 47) rfl (by decide)) h.2.1) (show tWG K B 0 0 S (uI I 84 v7.toNatClampNeg (I 63 (20 + v7).toNatClampNeg)) J 132 [some (vR 61), some (vI v1), some (vI v2), some (vI v3), some (vI v4), none, some (vI v6), some (vI (v7 + 1))] [] from ?_)))))))))
      have h := h.2.2
      exact hkb132 _ _ _ _ _ _ _ _ h
theorem W12_findLeaning_L132 {K : tK} {B : tB} {S : tSH} {MC MS : Nat} (hO : tKO K B RX12 cX12_findLeaning 8) (hR : kR K = tRm 9 MC MS) (hG : tGr S) {n : Nat} (t0 : ty S 61 12) {k : Int32 → tHI → tHJ → Prop} (hQ : tRet K B (tQi B (tPi S k)) 0 0 (some .int)) {kb55 : tHI → tHJ → Int32 → Int32 → Int32 → Int32 → Prop} (hkb55 : ∀ (I : tHI) (J : tHJ) (v1 : Int32) (v2 : Int32) (v3 : Int32) (v4 : Int32), kb55 I J v1 v2 v3 v4 → tWG K B 0 0 S I J 55 [some (vR 61), some (vI v1), some (vI v2), some (vI v3), some (vI v4), none, none, none] []) : ∀ (f : Nat) (I : tHI) (J : tHJ) (v1 : Int32) (v2 : Int32) (v3 : Int32) (v4 : Int32) (v6 : Int32) (v7 : Int32), F12_findLeaning_L132 n S k kb55 f I J v1 v2 v3 v4 v6 v7 → tWG K B 0 0 S I J 132 [some (vR 61), some (vI v1), some (vI v2), some (vI v3), some (vI v4), none, some (vI v6), some (vI v7)] [] := by
  intro f
  induction f with
  | zero => intro I J v1 v2 v3 v4 v6 v7 h; exact h.elim
  | succ f ih => intro I J v1 v2 v3 v4 v6 v7 h; exact W12_findLeaning_132 hO hR hG t0 hQ hkb55 ih h
set_option maxRecDepth 100000 in
theorem W12_findLeaning_116 {K : tK} {B : tB} {S : tSH} {MC MS : Nat} (hO : tKO K B RX12 cX12_findLeaning 8) (hR : kR K = tRm 9 MC MS) (hG : tGr S) {n : Nat} (t0 : ty S 61 12) {k : Int32 → tHI → tHJ → Prop} (hQ : tRet K B (tQi B (tPi S k)) 0 0 (some .int)) {kb55 : tHI → tHJ → Int32 → Int32 → Int32 → Int32 → Prop} (hkb55 : ∀ (I : tHI) (J : tHJ) (v1 : Int32) (v2 : Int32) (v3 : Int32) (v4 : Int32), kb55 I J v1 v2 v3 v4 → tWG K B 0 0 S I J 55 [some (vR 61), some (vI v1), some (vI v2), some (vI v3), some (vI v4), none, none, none] []) {kb75 : tHI → tHJ → Int32 → Int32 → Int32 → Int32 → Int32 → Int32 → Prop} (hkb75 : ∀ (I : tHI) (J : tHJ) (v1 : Int32) (v2 : Int32) (v3 : Int32) (v4 : Int32) (v5 : Int32) (v6 : Int32), kb75 I J v1 v2 v3 v4 v5 v6 → tWG K B 0 0 S I J 75 [some (vR 61), some (vI v1), some (vI v2), some (vI v3), some (vI v4), some (vI v5), some (vI v6), none] []) {I : tHI} {J : tHJ} {v1 : Int32} {v2 : Int32} {v3 : Int32} {v4 : Int32} {v5 : Int32} {v6 : Int32} (h : F12_findLeaning_116 n S k kb55 kb75 I J v1 v2 v3 v4 v5 v6) : tWG K B 0 0 S I J 116 [some (vR 61), some (vI v1), some (vI v2), some (vI v3), some (vI v4), some (vI v5), some (vI v6), none] [] := by
  refine gBk (pe := 75) hO [oI (.iinc 6 (-1)) (-1), o0 (.goto (-44))] (by decide +kernel) (show tWG K B 0 0 S I J 75 [some (vR 61), some (vI v1), some (vI v2), some (vI v3), some (vI v4), some (vI v5), some (vI (v6 + (-1))), none] [] from ?_)
  exact hkb75 _ _ _ _ _ _ _ _ h
set_option maxRecDepth 100000 in
theorem W12_findLeaning_75 {K : tK} {B : tB} {S : tSH} {MC MS : Nat} (hO : tKO K B RX12 cX12_findLeaning 8) (hR : kR K = tRm 9 MC MS) (hG : tGr S) {n : Nat} (t0 : ty S 61 12) {k : Int32 → tHI → tHJ → Prop} (hQ : tRet K B (tQi B (tPi S k)) 0 0 (some .int)) {kb55 : tHI → tHJ → Int32 → Int32 → Int32 → Int32 → Prop} (hkb55 : ∀ (I : tHI) (J : tHJ) (v1 : Int32) (v2 : Int32) (v3 : Int32) (v4 : Int32), kb55 I J v1 v2 v3 v4 → tWG K B 0 0 S I J 55 [some (vR 61), some (vI v1), some (vI v2), some (vI v3), some (vI v4), none, none, none] []) {kb75 : tHI → tHJ → Int32 → Int32 → Int32 → Int32 → Int32 → Int32 → Prop} (hkb75 : ∀ (I : tHI) (J : tHJ) (v1 : Int32) (v2 : Int32) (v3 : Int32) (v4 : Int32) (v5 : Int32) (v6 : Int32), kb75 I J v1 v2 v3 v4 v5 v6 → tWG K B 0 0 S I J 75 [some (vR 61), some (vI v1), some (vI v2), some (vI v3), some (vI v4), some (vI v5), some (vI v6), none] []) {I : tHI} {J : tHJ} {v1 : Int32} {v2 : Int32} {v3 : Int32} {v4 : Int32} {v5 : Int32} {v6 : Int32} (h : F12_findLeaning_75 n S k kb55 kb75 I J v1 v2 v3 v4 v5 v6) : tWG K B 0 0 S I J 75 [some (vR 61), some (vI v1), some (vI v2), some (vI v3), some (vI v4), some (vI v5), some (vI v6), none] [] := by
  refine gBk (pe := 77) hO [o0 (.iload 6)] (by decide +kernel) (show tWG K B 0 0 S I J 77 [some (vR 61), some (vI v1), some (vI v2), some (vI v3), some (vI v4), some (vI v5), some (vI v6), none] [vI v6] from ?_)
  refine gIfLt hO (off := 45) (tgt := 122) (by decide +kernel) (by decide) (fun c7 => ?_) (fun c7 => ?_)
  · have h := h.1 c7
    refine gBk (pe := 124) hO [o0 (.aload_n 0), o0 (.iload_n 1)] (by decide +kernel) (show tWG K B 0 0 S I J 124 [some (vR 61), some (vI v1), some (vI v2), some (vI v3), some (vI v4), some (vI v5), some (vI v6), none] [vI v1, vR 61] from ?_)
    refine gCVi_c hO (M12_quickest t0 h) hc12_quickest (idx := 481) (w := 1182) (by decide +kernel) hR (by omega) t0 ⟨by decide, rfl⟩ (vs := [vI v1]) (st := []) ⟨rfl, Nat.le_of_ble_eq_true rfl, rfl⟩ (by decide +kernel) (fun x10 I8 J9 h => ?_)
    refine gBk (pe := 132) hO [o0 (.istore 6), oI (.iconst 0) 0, o0 (.istore 7)] (by decide +kernel) (And.intro (Nat.le_of_ble_eq_true rfl) (And.intro (Nat.le_of_ble_eq_true rfl) (show tWG K B 0 0 S I8 J9 132 [some (vR 61), some (vI v1), some (vI v2), some (vI v3), some (vI v4), some (vI v5), some (vI x10), some (vI 0)] [] from ?_)))
    exact gWeak (L' := [some (vR 61), some (vI v1), some (vI v2), some (vI v3), some (vI v4), none, some (vI x10), some (vI 0)]) ⟨rfl, rfl, rfl, rfl, rfl, rfl, rfl, trivial⟩ (W12_findLeaning_L132 hO hR hG t0 hQ hkb55 n _ _ _ _ _ _ _ _ h)
  · have h := h.2 c7
    refine gBk (pe := 91) hO [o0 (.aload_n 0), oF (.getfield 13) 12 3 179 63, oI (.bipush 32) 32, o0 (.iload 6), o0 .iadd, o0 .iaload, oI (.iconst 1) 1] (by decide +kernel) (And.intro t0 (And.intro rfl (And.intro (tGr.off hG t0 (k := 3) rfl) (And.intro (tin (tGr.len hG t0 (k := 3) rfl (by decide)) h.1) (show tWG K B 0 0 S I J 91 [some (vR 61), some (vI v1), some (vI v2), some (vI v3), some (vI v4), some (vI v5), some (vI v6), none] [vI 1, vI (I 63 (32 + v6).toNatClampNeg)] from ?_)))))
    have h := h.2
    refine gIcNe hO (off := 25) (tgt := 116) (by decide +kernel) (by decide) (fun c16 => ?_) (fun c16 => ?_)
    · have h := h.1 c16
      exact W12_findLeaning_116 hO hR hG t0 hQ hkb55 hkb75 h
    · have h := h.2 c16
      refine gBk (pe := 116) hO [o0 (.aload_n 0), oF (.getfield 13) 12 3 179 63, oI (.bipush 20) 20, o0 (.iload 6), o0 .iadd, o0 (.iload 5), oI (.iconst 5) 5, o0 .irem, oI (.iconst 2) 2, o0 .isub, o0 .iastore, o0 (.iload 5), oI (.iconst 5) 5, o0 .idiv, o0 (.istore 5)] (by decide +kernel) (And.intro t0 (And.intro rfl (And.intro (by decide) (And.intro (tGr.off hG t0 (k := 3) rfl) (And.intro (tin (tGr.len hG t0 (k := 3) rfl (by decide)) h.1) (And.intro (by decide) (And.intro (Nat.le_of_ble_eq_true rfl) (show tWG K B 0 0 S (uI I 63 (20 + v6).toNatClampNeg ((v5 - v5 / 5 * 5) - 2)) J 116 [some (vR 61), some (vI v1), some (vI v2), some (vI v3), some (vI v4), some (vI (v5 / 5)), some (vI v6), none] [] from ?_))))))))
      have h := h.2
      exact W12_findLeaning_116 hO hR hG t0 hQ hkb55 hkb75 h
theorem W12_findLeaning_L75 {K : tK} {B : tB} {S : tSH} {MC MS : Nat} (hO : tKO K B RX12 cX12_findLeaning 8) (hR : kR K = tRm 9 MC MS) (hG : tGr S) {n : Nat} (t0 : ty S 61 12) {k : Int32 → tHI → tHJ → Prop} (hQ : tRet K B (tQi B (tPi S k)) 0 0 (some .int)) {kb55 : tHI → tHJ → Int32 → Int32 → Int32 → Int32 → Prop} (hkb55 : ∀ (I : tHI) (J : tHJ) (v1 : Int32) (v2 : Int32) (v3 : Int32) (v4 : Int32), kb55 I J v1 v2 v3 v4 → tWG K B 0 0 S I J 55 [some (vR 61), some (vI v1), some (vI v2), some (vI v3), some (vI v4), none, none, none] []) : ∀ (f : Nat) (I : tHI) (J : tHJ) (v1 : Int32) (v2 : Int32) (v3 : Int32) (v4 : Int32) (v5 : Int32) (v6 : Int32), F12_findLeaning_L75 n S k kb55 f I J v1 v2 v3 v4 v5 v6 → tWG K B 0 0 S I J 75 [some (vR 61), some (vI v1), some (vI v2), some (vI v3), some (vI v4), some (vI v5), some (vI v6), none] [] := by
  intro f
  induction f with
  | zero => intro I J v1 v2 v3 v4 v5 v6 h; exact h.elim
  | succ f ih => intro I J v1 v2 v3 v4 v5 v6 h; exact W12_findLeaning_75 hO hR hG t0 hQ hkb55 ih h
set_option maxRecDepth 100000 in
theorem W12_findLeaning_55 {K : tK} {B : tB} {S : tSH} {MC MS : Nat} (hO : tKO K B RX12 cX12_findLeaning 8) (hR : kR K = tRm 9 MC MS) (hG : tGr S) {n : Nat} (t0 : ty S 61 12) {k : Int32 → tHI → tHJ → Prop} (hQ : tRet K B (tQi B (tPi S k)) 0 0 (some .int)) {kb55 : tHI → tHJ → Int32 → Int32 → Int32 → Int32 → Prop} (hkb55 : ∀ (I : tHI) (J : tHJ) (v1 : Int32) (v2 : Int32) (v3 : Int32) (v4 : Int32), kb55 I J v1 v2 v3 v4 → tWG K B 0 0 S I J 55 [some (vR 61), some (vI v1), some (vI v2), some (vI v3), some (vI v4), none, none, none] []) {I : tHI} {J : tHJ} {v1 : Int32} {v2 : Int32} {v3 : Int32} {v4 : Int32} (h : F12_findLeaning_55 n S k kb55 I J v1 v2 v3 v4) : tWG K B 0 0 S I J 55 [some (vR 61), some (vI v1), some (vI v2), some (vI v3), some (vI v4), none, none, none] [] := by
  refine gBk (pe := 58) hO [o0 (.iload 4), o0 (.iload_n 3)] (by decide +kernel) (show tWG K B 0 0 S I J 58 [some (vR 61), some (vI v1), some (vI v2), some (vI v3), some (vI v4), none, none, none] [vI v3, vI v4] from ?_)
  refine gIcGe hO (off := 129) (tgt := 187) (by decide +kernel) (by decide) (fun c4 => ?_) (fun c4 => ?_)
  · have h := h.1 c4
    refine gBk (pe := 190) hO [o0 (.aload_n 0), oI (.bipush 16) 16] (by decide +kernel) (show tWG K B 0 0 S I J 190 [some (vR 61), some (vI v1), some (vI v2), some (vI v3), some (vI v4), none, none, none] [vI 16, vR 61] from ?_)
    refine gCVv_c hO (M12_putBack t0 h) hc12_putBack (idx := 178) (w := 1066) (by decide +kernel) hR (by omega) t0 ⟨by decide, rfl⟩ (vs := [vI 16]) (st := []) ⟨rfl, Nat.le_of_ble_eq_true rfl, rfl⟩ (by decide +kernel) (fun I5 J6 h => ?_)
    refine gBk (pe := 194) hO [o0 (.iload_n 2)] (by decide +kernel) (show tWG K B 0 0 S I5 J6 194 [some (vR 61), some (vI v1), some (vI v2), some (vI v3), some (vI v4), none, none, none] [vI v2] from ?_)
    exact gIret hO hQ (by decide +kernel) ⟨rfl, h⟩
  · have h := h.2 c4
    refine gBk (pe := 75) hO [o0 (.iload 4), o0 (.istore 5), o0 (.aload_n 0), oF (.getfield 13) 12 3 179 63, oI (.iconst 0) 0, o0 .iaload, oI (.iconst 1) 1, o0 .isub, o0 (.istore 6)] (by decide +kernel) (And.intro (Nat.le_of_ble_eq_true rfl) (And.intro t0 (And.intro rfl (And.intro (tGr.off hG t0 (k := 3) rfl) (And.intro (tin (tGr.len hG t0 (k := 3) rfl (by decide)) (tvi (by decide +kernel))) (And.intro (Nat.le_of_ble_eq_true rfl) (show tWG K B 0 0 S I J 75 [some (vR 61), some (vI v1), some (vI v2), some (vI v3), some (vI v4), some (vI v4), some (vI ((I 63 0) - 1)), none] [] from ?_)))))))
    exact W12_findLeaning_L75 hO hR hG t0 hQ hkb55 n _ _ _ _ _ _ _ _ h
theorem W12_findLeaning_L55 {K : tK} {B : tB} {S : tSH} {MC MS : Nat} (hO : tKO K B RX12 cX12_findLeaning 8) (hR : kR K = tRm 9 MC MS) (hG : tGr S) {n : Nat} (t0 : ty S 61 12) {k : Int32 → tHI → tHJ → Prop} (hQ : tRet K B (tQi B (tPi S k)) 0 0 (some .int)) : ∀ (f : Nat) (I : tHI) (J : tHJ) (v1 : Int32) (v2 : Int32) (v3 : Int32) (v4 : Int32), F12_findLeaning_L55 n S k f I J v1 v2 v3 v4 → tWG K B 0 0 S I J 55 [some (vR 61), some (vI v1), some (vI v2), some (vI v3), some (vI v4), none, none, none] [] := by
  intro f
  induction f with
  | zero => intro I J v1 v2 v3 v4 h; exact h.elim
  | succ f ih => intro I J v1 v2 v3 v4 h; exact W12_findLeaning_55 hO hR hG t0 hQ ih h
set_option maxRecDepth 100000 in
theorem W12_findLeaning_7 {K : tK} {B : tB} {S : tSH} {MC MS : Nat} (hO : tKO K B RX12 cX12_findLeaning 8) (hR : kR K = tRm 9 MC MS) (hG : tGr S) {n : Nat} (t0 : ty S 61 12) {k : Int32 → tHI → tHJ → Prop} (hQ : tRet K B (tQi B (tPi S k)) 0 0 (some .int)) {kb7 : tHI → tHJ → Int32 → Int32 → Int32 → Int32 → Prop} (hkb7 : ∀ (I : tHI) (J : tHJ) (v1 : Int32) (v2 : Int32) (v3 : Int32) (v4 : Int32), kb7 I J v1 v2 v3 v4 → tWG K B 0 0 S I J 7 [some (vR 61), some (vI v1), some (vI v2), some (vI v3), some (vI v4), none, none, none] []) {I : tHI} {J : tHJ} {v1 : Int32} {v2 : Int32} {v3 : Int32} {v4 : Int32} (h : F12_findLeaning_7 n S k kb7 I J v1 v2 v3 v4) : tWG K B 0 0 S I J 7 [some (vR 61), some (vI v1), some (vI v2), some (vI v3), some (vI v4), none, none, none] [] := by
  refine gBk (pe := 15) hO [o0 (.iload 4), o0 (.aload_n 0), oF (.getfield 13) 12 3 179 63, oI (.iconst 0) 0, o0 .iaload] (by decide +kernel) (And.intro t0 (And.intro rfl (And.intro (tGr.off hG t0 (k := 3) rfl) (And.intro (tin (tGr.len hG t0 (k := 3) rfl (by decide)) (tvi (by decide +kernel))) (show tWG K B 0 0 S I J 15 [some (vR 61), some (vI v1), some (vI v2), some (vI v3), some (vI v4), none, none, none] [vI (I 63 0), vI v4] from ?_)))))
  refine gIcGe hO (off := 31) (tgt := 46) (by decide +kernel) (by decide) (fun c1 => ?_) (fun c1 => ?_)
  · have h := h.1 c1
    refine gBk (pe := 49) hO [o0 (.aload_n 0), oI (.bipush 16) 16] (by decide +kernel) (show tWG K B 0 0 S I J 49 [some (vR 61), some (vI v1), some (vI v2), some (vI v3), some (vI v4), none, none, none] [vI 16, vR 61] from ?_)
    refine gCVv_c hO (M12_keepAll t0 h) hc12_keepAll (idx := 174) (w := 997) (by decide +kernel) hR (by omega) t0 ⟨by decide, rfl⟩ (vs := [vI 16]) (st := []) ⟨rfl, Nat.le_of_ble_eq_true rfl, rfl⟩ (by decide +kernel) (fun I2 J3 h => ?_)
    refine gBk (pe := 55) hO [oI (.iconst 0) 0, o0 (.istore 4)] (by decide +kernel) (And.intro (Nat.le_of_ble_eq_true rfl) (show tWG K B 0 0 S I2 J3 55 [some (vR 61), some (vI v1), some (vI v2), some (vI v3), some (vI 0), none, none, none] [] from ?_))
    exact W12_findLeaning_L55 hO hR hG t0 hQ n _ _ _ _ _ _ h
  · have h := h.2 c1
    refine gBk (pe := 30) hO [o0 (.iload_n 3), o0 (.aload_n 0), oF (.getfield 13) 12 3 179 63, oI (.bipush 32) 32, o0 (.iload 4), o0 .iadd, o0 .iaload, oI (.iconst 1) 1] (by decide +kernel) (And.intro t0 (And.intro rfl (And.intro (tGr.off hG t0 (k := 3) rfl) (And.intro (tin (tGr.len hG t0 (k := 3) rfl (by decide)) h.1) (show tWG K B 0 0 S I J 30 [some (vR 61), some (vI v1), some (vI v2), some (vI v3), some (vI v4), none, none, none] [vI 1, vI (I 63 (32 + v4).toNatClampNeg), vI v3] from ?_)))))
    have h := h.2
    have hj17 : ∀ (m18 : Int32), m18 = (if (I 63 (32 + v4).toNatClampNeg) = 1 then (5 : Int32) else 1) → tWG K B 0 0 S I J 38 [some (vR 61), some (vI v1), some (vI v2), none, some (vI v4), none, none, none] [vI m18, vI v3] := by
      intro m18 em18
      subst em18
      refine gBk (pe := 7) hO [o0 .imul, o0 (.istore_n 3), oI (.iinc 4 1) 1, o0 (.goto (-36))] (by decide +kernel) (And.intro (Nat.le_of_ble_eq_true rfl) (show tWG K B 0 0 S I J 7 [some (vR 61), some (vI v1), some (vI v2), some (vI (v3 * (if (I 63 (32 + v4).toNatClampNeg) = 1 then (5 : Int32) else 1))), some (vI (v4 + 1)), none, none, none] [] from ?_))
      exact hkb7 _ _ _ _ _ _ h
    refine gIcNe hO (off := 7) (tgt := 37) (by decide +kernel) (by decide) (fun c19 => ?_) (fun c19 => ?_)
    · refine gBk (pe := 38) hO [oI (.iconst 1) 1] (by decide +kernel) (show tWG K B 0 0 S I J 38 [some (vR 61), some (vI v1), some (vI v2), some (vI v3), some (vI v4), none, none, none] [vI 1, vI v3] from ?_)
      exact gWeak (L' := [some (vR 61), some (vI v1), some (vI v2), none, some (vI v4), none, none, none]) ⟨rfl, rfl, rfl, rfl, trivial⟩ (hj17 _ (Eq.symm (if_neg c19)))
    · refine gBk (pe := 38) hO [oI (.iconst 5) 5, o0 (.goto 4)] (by decide +kernel) (show tWG K B 0 0 S I J 38 [some (vR 61), some (vI v1), some (vI v2), some (vI v3), some (vI v4), none, none, none] [vI 5, vI v3] from ?_)
      exact gWeak (L' := [some (vR 61), some (vI v1), some (vI v2), none, some (vI v4), none, none, none]) ⟨rfl, rfl, rfl, rfl, trivial⟩ (hj17 _ (Eq.symm (if_pos c19)))
theorem W12_findLeaning_L7 {K : tK} {B : tB} {S : tSH} {MC MS : Nat} (hO : tKO K B RX12 cX12_findLeaning 8) (hR : kR K = tRm 9 MC MS) (hG : tGr S) {n : Nat} (t0 : ty S 61 12) {k : Int32 → tHI → tHJ → Prop} (hQ : tRet K B (tQi B (tPi S k)) 0 0 (some .int)) : ∀ (f : Nat) (I : tHI) (J : tHJ) (v1 : Int32) (v2 : Int32) (v3 : Int32) (v4 : Int32), F12_findLeaning_L7 n S k f I J v1 v2 v3 v4 → tWG K B 0 0 S I J 7 [some (vR 61), some (vI v1), some (vI v2), some (vI v3), some (vI v4), none, none, none] [] := by
  intro f
  induction f with
  | zero => intro I J v1 v2 v3 v4 h; exact h.elim
  | succ f ih => intro I J v1 v2 v3 v4 h; exact W12_findLeaning_7 hO hR hG t0 hQ ih h
set_option maxRecDepth 20000 in
theorem hc12_findLeaning : tCV yX12_findLeaning cX12_findLeaning 8 (some .int) 1 := ⟨⟨(List.mem_of_getElem? (i := 1302) rfl), (List.mem_of_getElem? (i := 5) (by decide +kernel)), by decide +kernel⟩, (List.mem_of_getElem? (i := 1300) (by decide +kernel)), (List.mem_of_getElem? (i := 1301) (by decide +kernel))⟩
set_option maxRecDepth 100000 in
theorem M12_findLeaning {l : Launch} {B : tB} {S : tSH} {I : tHI} {J : tHJ} {v1 : Int32} {n : Nat} {k : Int32 → tHI → tHJ → Prop} (t0 : ty S 61 12) (h : F12_findLeaning n S I J v1 k) : Met l yX12_findLeaning (tWs yX12_findLeaning cX12_findLeaning 8 (some .int)) (tRm 9 0 0) (tPc B [vR 61, vI v1] S I J) (tQi B (tPi S k)) 0 0 (tA B) :=
  tEntry (by decide +kernel) [some (vR 61), some (vI v1), none, none, none, none, none, none] rfl rfl (Nat.le_of_ble_eq_true rfl) (fun K hl hR hO hQ hG => by
  subst hl
  refine gBk (pe := 7) hO [oI (.iconst (-1)) (-1), o0 (.istore_n 2), oI (.iconst 1) 1, o0 (.istore_n 3), oI (.iconst 0) 0, o0 (.istore 4)] (by decide +kernel) (And.intro (Nat.le_of_ble_eq_true rfl) (And.intro (Nat.le_of_ble_eq_true rfl) (And.intro (Nat.le_of_ble_eq_true rfl) (show tWG K B 0 0 S I J 7 [some (vR 61), some (vI v1), some (vI (-1)), some (vI 1), some (vI 0), none, none, none] [] from ?_))))
  exact W12_findLeaning_L7 hO hR hG t0 hQ n _ _ _ _ _ _ h)
set_option maxRecDepth 100000 in
theorem W12_leaning_29 {K : tK} {B : tB} {S : tSH} {MC MS : Nat} (hO : tKO K B RX12 cX12_leaning 4) (hR : kR K = tRm 10 MC MS) (hG : tGr S) {n : Nat} (t0 : ty S 61 12) {k : Int32 → tHI → tHJ → Prop} (hQ : tRet K B (tQi B (tPi S k)) 0 0 (some .int)) {I : tHI} {J : tHJ} (h : F12_leaning_29 n S k I J) : tWG K B 0 0 S I J 29 [none, none, none, none] [] := by
  refine gBk (pe := 30) hO [oI (.iconst (-1)) (-1)] (by decide +kernel) (show tWG K B 0 0 S I J 30 [none, none, none, none] [vI (-1)] from ?_)
  exact gIret hO hQ (by decide +kernel) ⟨rfl, h⟩
set_option maxRecDepth 20000 in
theorem hc12_leaning : tCV yX12_leaning cX12_leaning 4 (some .int) 2 := ⟨⟨(List.mem_of_getElem? (i := 1298) rfl), (List.mem_of_getElem? (i := 5) (by decide +kernel)), by decide +kernel⟩, (List.mem_of_getElem? (i := 1296) (by decide +kernel)), (List.mem_of_getElem? (i := 1297) (by decide +kernel))⟩
set_option maxRecDepth 100000 in
theorem M12_leaning {l : Launch} {B : tB} {S : tSH} {I : tHI} {J : tHJ} {v1 : Int32} {v2 : Int32} {n : Nat} {k : Int32 → tHI → tHJ → Prop} (t0 : ty S 61 12) (h : F12_leaning n S I J v1 v2 k) : Met l yX12_leaning (tWs yX12_leaning cX12_leaning 4 (some .int)) (tRm 10 0 0) (tPc B [vR 61, vI v1, vI v2] S I J) (tQi B (tPi S k)) 0 0 (tA B) :=
  tEntry (by decide +kernel) [some (vR 61), some (vI v1), some (vI v2), none] rfl rfl (Nat.le_of_ble_eq_true rfl) (fun K hl hR hO hQ hG => by
  subst hl
  refine gBk (pe := 7) hO [o0 (.aload_n 0), oI (.iconst 0) 0, oF (.putfield 161) 12 0 316 0, o0 (.aload_n 0), o0 (.iload_n 1)] (by decide +kernel) (And.intro t0 (show tWG K B 0 0 S (uI I 61 0 0) J 7 [some (vR 61), some (vI v1), some (vI v2), none] [vI v1, vR 61] from ?_))
  refine gCVi_z hO (M12_isBend t0) hc12_isBend (idx := 220) (w := 352) (by decide +kernel) hR (by omega) t0 ⟨by decide, rfl⟩ (vs := [vI v1]) (st := []) ⟨rfl, Nat.le_of_ble_eq_true rfl, rfl⟩ (by decide +kernel) (fun z1 => ?_)
  refine gIfEq hO (off := 19) (tgt := 29) (by decide +kernel) (by decide) (fun c2 => ?_) (fun c2 => ?_)
  · have h := h.1 c2
    exact gWeak (L' := [none, none, none, none]) trivial (W12_leaning_29 hO hR hG t0 hQ h)
  · have h := h.2 c2
    refine gBk (pe := 23) hO [o0 (.iload_n 2), o0 .i2l, oJ (.lconst 0) 0 0, o0 (.aload_n 0), oF (.getfield 13) 12 3 179 63, oI (.iconst 0) 0, o0 .iaload, o0 .i2l] (by decide +kernel) (And.intro t0 (And.intro rfl (And.intro (tGr.off hG t0 (k := 3) rfl) (And.intro (tin (tGr.len hG t0 (k := 3) rfl (by decide)) (tvi (by decide +kernel))) (show tWG K B 0 0 S (uI I 61 0 0) J 23 [some (vR 61), some (vI v1), some (vI v2), none] [vL (((uI I 61 0 0) 63 0).toInt64), vL 0, vL v2.toInt64] from ?_)))))
    refine gCSi_z hO (M12_in) hc12_in (idx := 181) (w := 319) (by decide +kernel) hR (by omega) (vs := [vL v2.toInt64, vL 0, vL (((uI I 61 0 0) 63 0).toInt64)]) (st := []) ⟨rfl, Nat.le_of_ble_eq_true rfl, rfl⟩ (by decide +kernel) (fun z3 => ?_)
    refine gIfNe hO (off := 5) (tgt := 31) (by decide +kernel) (by decide) (fun c4 => ?_) (fun c4 => ?_)
    · have h := h.1 c4
      refine gBk (pe := 33) hO [o0 (.aload_n 0), o0 (.iload_n 1)] (by decide +kernel) (show tWG K B 0 0 S (uI I 61 0 0) J 33 [some (vR 61), some (vI v1), some (vI v2), none] [vI v1, vR 61] from ?_)
      refine gCVi_c hO (M12_findLeaning t0 h) hc12_findLeaning (idx := 506) (w := 1299) (by decide +kernel) hR (by omega) t0 ⟨by decide, rfl⟩ (vs := [vI v1]) (st := []) ⟨rfl, Nat.le_of_ble_eq_true rfl, rfl⟩ (by decide +kernel) (fun x7 I5 J6 h => ?_)
      refine gBk (pe := 38) hO [o0 (.istore_n 3), o0 (.iload_n 2)] (by decide +kernel) (And.intro (Nat.le_of_ble_eq_true rfl) (show tWG K B 0 0 S I5 J6 38 [some (vR 61), some (vI v1), some (vI v2), some (vI x7)] [vI v2] from ?_))
      have hj8 : ∀ (m9 : Int32), m9 = (if v2 = 0 then x7 else (if (I5 63 ((32 + v2) - 1).toNatClampNeg) = 1 then ((I5 84 (v2 - 1).toNatClampNeg) + 2) else 2)) → tWG K B 0 0 S I5 J6 74 [none, none, none, none] [vI m9] := by
        intro m9 em9
        subst em9
        have h := h.2
        exact gIret hO hQ (by decide +kernel) ⟨rfl, h⟩
      have h := h.1
      refine gIfNe hO (off := 7) (tgt := 45) (by decide +kernel) (by decide) (fun c10 => ?_) (fun c10 => ?_)
      · have h := h.1 c10
        refine gBk (pe := 57) hO [o0 (.aload_n 0), oF (.getfield 13) 12 3 179 63, oI (.bipush 32) 32, o0 (.iload_n 2), o0 .iadd, oI (.iconst 1) 1, o0 .isub, o0 .iaload, oI (.iconst 1) 1] (by decide +kernel) (And.intro t0 (And.intro rfl (And.intro (tGr.off hG t0 (k := 3) rfl) (And.intro (tin (tGr.len hG t0 (k := 3) rfl (by decide)) h.1) (show tWG K B 0 0 S I5 J6 57 [some (vR 61), some (vI v1), some (vI v2), some (vI x7)] [vI 1, vI (I5 63 ((32 + v2) - 1).toNatClampNeg)] from ?_)))))
        have h := h.2
        refine gIcNe hO (off := 16) (tgt := 73) (by decide +kernel) (by decide) (fun c11 => ?_) (fun c11 => ?_)
        · have h := h.1 c11
          refine gBk (pe := 74) hO [oI (.iconst 2) 2] (by decide +kernel) (show tWG K B 0 0 S I5 J6 74 [some (vR 61), some (vI v1), some (vI v2), some (vI x7)] [vI 2] from ?_)
          exact gWeak (L' := [none, none, none, none]) trivial (hj8 _ (Eq.symm ((if_neg c10).trans (if_neg c11))))
        · have h := h.2 c11
          refine gBk (pe := 74) hO [o0 (.aload_n 0), oF (.getfield 133) 12 47 227 84, o0 (.iload_n 2), oI (.iconst 1) 1, o0 .isub, o0 .iaload, oI (.iconst 2) 2, o0 .iadd, o0 (.goto 4)] (by decide +kernel) (And.intro t0 (And.intro rfl (And.intro (tGr.off hG t0 (k := 47) rfl) (And.intro (tin (tGr.len hG t0 (k := 47) rfl (by decide)) h.1) (show tWG K B 0 0 S I5 J6 74 [some (vR 61), some (vI v1), some (vI v2), some (vI x7)] [vI ((I5 84 (v2 - 1).toNatClampNeg) + 2)] from ?_)))))
          have h := h.2
          exact gWeak (L' := [none, none, none, none]) trivial (hj8 _ (Eq.symm ((if_neg c10).trans (if_pos c11))))
      · have h := h.2 c10
        refine gBk (pe := 74) hO [o0 (.iload_n 3), o0 (.goto 32)] (by decide +kernel) (show tWG K B 0 0 S I5 J6 74 [some (vR 61), some (vI v1), some (vI v2), some (vI x7)] [vI x7] from ?_)
        exact gWeak (L' := [none, none, none, none]) trivial (hj8 _ (Eq.symm (if_pos c10)))
    · have h := h.2 c4
      exact gWeak (L' := [none, none, none, none]) trivial (W12_leaning_29 hO hR hG t0 hQ h))
set_option maxRecDepth 100000 in
theorem W12_timesOfAll_52 {K : tK} {B : tB} {S : tSH} {MC MS : Nat} (hO : tKO K B RX12 cX12_timesOfAll 4) (hR : kR K = tRm 9 MC MS) (hG : tGr S) {n : Nat} (t0 : ty S 61 12) {k : Int32 → tHI → tHJ → Prop} (hQ : tRet K B (tQi B (tPi S k)) 0 0 (some .int)) {I : tHI} {J : tHJ} {v1 : Int32} (h : F12_timesOfAll_52 n S k I J v1) : tWG K B 0 0 S I J 52 [none, some (vI v1), none, none] [] := by
  refine gBk (pe := 53) hO [o0 (.iload_n 1)] (by decide +kernel) (show tWG K B 0 0 S I J 53 [none, some (vI v1), none, none] [vI v1] from ?_)
  exact gIret hO hQ (by decide +kernel) ⟨rfl, h⟩
set_option maxRecDepth 100000 in
theorem W12_timesOfAll_4 {K : tK} {B : tB} {S : tSH} {MC MS : Nat} (hO : tKO K B RX12 cX12_timesOfAll 4) (hR : kR K = tRm 9 MC MS) (hG : tGr S) {n : Nat} (t0 : ty S 61 12) {k : Int32 → tHI → tHJ → Prop} (hQ : tRet K B (tQi B (tPi S k)) 0 0 (some .int)) {kb4 : tHI → tHJ → Int32 → Int32 → Prop} (hkb4 : ∀ (I : tHI) (J : tHJ) (v1 : Int32) (v2 : Int32), kb4 I J v1 v2 → tWG K B 0 0 S I J 4 [some (vR 61), some (vI v1), some (vI v2), none] []) {I : tHI} {J : tHJ} {v1 : Int32} {v2 : Int32} (h : F12_timesOfAll_4 n S k kb4 I J v1 v2) : tWG K B 0 0 S I J 4 [some (vR 61), some (vI v1), some (vI v2), none] [] := by
  refine gBk (pe := 11) hO [o0 (.iload_n 2), o0 (.aload_n 0), oF (.getfield 13) 12 3 179 63, oI (.iconst 1) 1, o0 .iaload] (by decide +kernel) (And.intro t0 (And.intro rfl (And.intro (tGr.off hG t0 (k := 3) rfl) (And.intro (tin (tGr.len hG t0 (k := 3) rfl (by decide)) (tvi (by decide +kernel))) (show tWG K B 0 0 S I J 11 [some (vR 61), some (vI v1), some (vI v2), none] [vI (I 63 1), vI v2] from ?_)))))
  refine gIcGe hO (off := 41) (tgt := 52) (by decide +kernel) (by decide) (fun c1 => ?_) (fun c1 => ?_)
  · have h := h.1 c1
    exact gWeak (L' := [none, some (vI v1), none, none]) ⟨rfl, trivial⟩ (W12_timesOfAll_52 hO hR hG t0 hQ h)
  · have h := h.2 c1
    refine gBk (pe := 15) hO [o0 (.iload_n 1)] (by decide +kernel) (show tWG K B 0 0 S I J 15 [some (vR 61), some (vI v1), some (vI v2), none] [vI v1] from ?_)
    refine gBk (pe := 18) hO [(.ldc_w 467, (0, 0, 490, 0), 100000000, 0)] (by decide +kernel) (show tWG K B 0 0 S I J 18 [some (vR 61), some (vI v1), some (vI v2), none] [vI 100000000, vI v1] from ?_)
    refine gIcGe hO (off := 34) (tgt := 52) (by decide +kernel) (by decide) (fun c2 => ?_) (fun c2 => ?_)
    · have h := h.1 c2
      exact gWeak (L' := [none, some (vI v1), none, none]) ⟨rfl, trivial⟩ (W12_timesOfAll_52 hO hR hG t0 hQ h)
    · have h := h.2 c2
      refine gBk (pe := 23) hO [o0 (.aload_n 0), o0 (.iload_n 2)] (by decide +kernel) (show tWG K B 0 0 S I J 23 [some (vR 61), some (vI v1), some (vI v2), none] [vI v2, vR 61] from ?_)
      refine gCVi_c hO (M12_quickest t0 h) hc12_quickest (idx := 481) (w := 1182) (by decide +kernel) hR (by omega) t0 ⟨by decide, rfl⟩ (vs := [vI v2]) (st := []) ⟨rfl, Nat.le_of_ble_eq_true rfl, rfl⟩ (by decide +kernel) (fun x5 I3 J4 h => ?_)
      refine gBk (pe := 28) hO [o0 (.istore_n 3), o0 (.iload_n 3)] (by decide +kernel) (And.intro (Nat.le_of_ble_eq_true rfl) (show tWG K B 0 0 S I3 J4 28 [some (vR 61), some (vI v1), some (vI v2), some (vI x5)] [vI x5] from ?_))
      have hj6 : ∀ (m7 : Int32), m7 = (if x5 = 0 then 100000000 else (v1 + (V12_timeOf S I3 J4 v2 x5))) → tWG K B 0 0 S I3 J4 45 [some (vR 61), none, some (vI v2), none] [vI m7] := by
        intro m7 em7
        subst em7
        have h := h.2
        refine gBk (pe := 4) hO [o0 (.istore_n 1), oI (.iinc 2 1) 1, o0 (.goto (-45))] (by decide +kernel) (And.intro (Nat.le_of_ble_eq_true rfl) (show tWG K B 0 0 S I3 J4 4 [some (vR 61), some (vI (if x5 = 0 then 100000000 else (v1 + (V12_timeOf S I3 J4 v2 x5)))), some (vI (v2 + 1)), none] [] from ?_))
        exact hkb4 _ _ _ _ h
      have h := h.1
      refine gIfNe hO (off := 9) (tgt := 37) (by decide +kernel) (by decide) (fun c8 => ?_) (fun c8 => ?_)
      · have h := h.1 c8
        refine gBk (pe := 41) hO [o0 (.iload_n 1), o0 (.aload_n 0), o0 (.iload_n 2), o0 (.iload_n 3)] (by decide +kernel) (show tWG K B 0 0 S I3 J4 41 [some (vR 61), some (vI v1), some (vI v2), some (vI x5)] [vI x5, vI v2, vR 61, vI v1] from ?_)
        refine gCVi_p hO (M12_timeOf t0 h.1) hc12_timeOf (idx := 484) (w := 1186) (by decide +kernel) hR (by omega) t0 ⟨by decide, rfl⟩ (vs := [vI v2, vI x5]) (st := [vI v1]) ⟨rfl, Nat.le_of_ble_eq_true rfl, rfl⟩ (by decide +kernel) ?_
        have h := h.2
        refine gBk (pe := 45) hO [o0 .iadd] (by decide +kernel) (show tWG K B 0 0 S I3 J4 45 [some (vR 61), some (vI v1), some (vI v2), some (vI x5)] [vI (v1 + (V12_timeOf S I3 J4 v2 x5))] from ?_)
        exact gWeak (L' := [some (vR 61), none, some (vI v2), none]) ⟨rfl, rfl, trivial⟩ (hj6 _ (Eq.symm (if_neg c8)))
      · have h := h.2 c8
        refine gBk (pe := 45) hO [(.ldc_w 467, (0, 0, 490, 0), 100000000, 0), o0 (.goto 11)] (by decide +kernel) (show tWG K B 0 0 S I3 J4 45 [some (vR 61), some (vI v1), some (vI v2), some (vI x5)] [vI 100000000] from ?_)
        exact gWeak (L' := [some (vR 61), none, some (vI v2), none]) ⟨rfl, rfl, trivial⟩ (hj6 _ (Eq.symm (if_pos c8)))
theorem W12_timesOfAll_L4 {K : tK} {B : tB} {S : tSH} {MC MS : Nat} (hO : tKO K B RX12 cX12_timesOfAll 4) (hR : kR K = tRm 9 MC MS) (hG : tGr S) {n : Nat} (t0 : ty S 61 12) {k : Int32 → tHI → tHJ → Prop} (hQ : tRet K B (tQi B (tPi S k)) 0 0 (some .int)) : ∀ (f : Nat) (I : tHI) (J : tHJ) (v1 : Int32) (v2 : Int32), F12_timesOfAll_L4 n S k f I J v1 v2 → tWG K B 0 0 S I J 4 [some (vR 61), some (vI v1), some (vI v2), none] [] := by
  intro f
  induction f with
  | zero => intro I J v1 v2 h; exact h.elim
  | succ f ih => intro I J v1 v2 h; exact W12_timesOfAll_4 hO hR hG t0 hQ ih h
set_option maxRecDepth 20000 in
theorem hc12_timesOfAll : tCV yX12_timesOfAll cX12_timesOfAll 4 (some .int) 0 := ⟨⟨(List.mem_of_getElem? (i := 1328) rfl), (List.mem_of_getElem? (i := 5) (by decide +kernel)), by decide +kernel⟩, (List.mem_of_getElem? (i := 1326) (by decide +kernel)), (List.mem_of_getElem? (i := 1327) (by decide +kernel))⟩
set_option maxRecDepth 100000 in
theorem M12_timesOfAll {l : Launch} {B : tB} {S : tSH} {I : tHI} {J : tHJ} {n : Nat} {k : Int32 → tHI → tHJ → Prop} (t0 : ty S 61 12) (h : F12_timesOfAll n S I J k) : Met l yX12_timesOfAll (tWs yX12_timesOfAll cX12_timesOfAll 4 (some .int)) (tRm 9 0 0) (tPc B [vR 61] S I J) (tQi B (tPi S k)) 0 0 (tA B) :=
  tEntry (by decide +kernel) [some (vR 61), none, none, none] rfl rfl (Nat.le_of_ble_eq_true rfl) (fun K hl hR hO hQ hG => by
  subst hl
  refine gBk (pe := 4) hO [oI (.iconst 0) 0, o0 (.istore_n 1), oI (.iconst 0) 0, o0 (.istore_n 2)] (by decide +kernel) (And.intro (Nat.le_of_ble_eq_true rfl) (And.intro (Nat.le_of_ble_eq_true rfl) (show tWG K B 0 0 S I J 4 [some (vR 61), some (vI 0), some (vI 0), none] [] from ?_)))
  exact W12_timesOfAll_L4 hO hR hG t0 hQ n _ _ _ _ h)
set_option maxRecDepth 100000 in
theorem W12_putting_179 {K : tK} {B : tB} {S : tSH} {MC MS : Nat} (hO : tKO K B RX12 cX12_putting 9) (hR : kR K = tRm 10 MC MS) (hG : tGr S) {n : Nat} (t0 : ty S 61 12) {k : Int32 → tHI → tHJ → Prop} (hQ : tRet K B (tQi B (tPi S k)) 0 0 (some .int)) {kb49 : tHI → tHJ → Int32 → Int32 → Int32 → Int32 → Int32 → Prop} (hkb49 : ∀ (I : tHI) (J : tHJ) (v1 : Int32) (v2 : Int32) (v3 : Int32) (v4 : Int32) (v5 : Int32), kb49 I J v1 v2 v3 v4 v5 → tWG K B 0 0 S I J 49 [some (vR 61), some (vI v1), some (vI v2), some (vI v3), some (vI v4), some (vI v5), none, none, none] []) {I : tHI} {J : tHJ} {v1 : Int32} {v2 : Int32} {v3 : Int32} {v4 : Int32} {v5 : Int32} {v7 : Int32} (h : F12_putting_179 n S k kb49 I J v1 v2 v3 v4 v5 v7) : tWG K B 0 0 S I J 179 [some (vR 61), some (vI v1), some (vI v2), some (vI v3), some (vI v4), some (vI v5), none, some (vI v7), none] [] := by
  refine gBk (pe := 183) hO [o0 (.iload 7), o0 (.iload 4)] (by decide +kernel) (show tWG K B 0 0 S I J 183 [some (vR 61), some (vI v1), some (vI v2), some (vI v3), some (vI v4), some (vI v5), none, some (vI v7), none] [vI v4, vI v7] from ?_)
  have hj15 : ∀ (m16 : Int32), m16 = (if v4 ≤ v7 then v4 else v7) → tWG K B 0 0 S I J 193 [some (vR 61), some (vI v1), some (vI v2), some (vI v3), none, some (vI v5), none, none, none] [vI m16] := by
    intro m16 em16
    subst em16
    refine gBk (pe := 49) hO [o0 (.istore 4), oI (.iinc 5 1) 1, o0 (.goto (-149))] (by decide +kernel) (And.intro (Nat.le_of_ble_eq_true rfl) (show tWG K B 0 0 S I J 49 [some (vR 61), some (vI v1), some (vI v2), some (vI v3), some (vI (if v4 ≤ v7 then v4 else v7)), some (vI (v5 + 1)), none, none, none] [] from ?_))
    exact hkb49 _ _ _ _ _ _ _ h
  refine gIcGe hO (off := 8) (tgt := 191) (by decide +kernel) (by decide) (fun c17 => ?_) (fun c17 => ?_)
  · refine gBk (pe := 193) hO [o0 (.iload 4)] (by decide +kernel) (show tWG K B 0 0 S I J 193 [some (vR 61), some (vI v1), some (vI v2), some (vI v3), some (vI v4), some (vI v5), none, some (vI v7), none] [vI v4] from ?_)
    exact gWeak (L' := [some (vR 61), some (vI v1), some (vI v2), some (vI v3), none, some (vI v5), none, none, none]) ⟨rfl, rfl, rfl, rfl, rfl, trivial⟩ (hj15 _ (Eq.symm (if_pos c17)))
  · refine gBk (pe := 193) hO [o0 (.iload 7), o0 (.goto 5)] (by decide +kernel) (show tWG K B 0 0 S I J 193 [some (vR 61), some (vI v1), some (vI v2), some (vI v3), some (vI v4), some (vI v5), none, some (vI v7), none] [vI v7] from ?_)
    exact gWeak (L' := [some (vR 61), some (vI v1), some (vI v2), some (vI v3), none, some (vI v5), none, none, none]) ⟨rfl, rfl, rfl, rfl, rfl, trivial⟩ (hj15 _ (Eq.symm (if_neg c17)))
set_option maxRecDepth 100000 in
theorem W12_putting_143 {K : tK} {B : tB} {S : tSH} {MC MS : Nat} (hO : tKO K B RX12 cX12_putting 9) (hR : kR K = tRm 10 MC MS) (hG : tGr S) {n : Nat} (t0 : ty S 61 12) {k : Int32 → tHI → tHJ → Prop} (hQ : tRet K B (tQi B (tPi S k)) 0 0 (some .int)) {kb49 : tHI → tHJ → Int32 → Int32 → Int32 → Int32 → Int32 → Prop} (hkb49 : ∀ (I : tHI) (J : tHJ) (v1 : Int32) (v2 : Int32) (v3 : Int32) (v4 : Int32) (v5 : Int32), kb49 I J v1 v2 v3 v4 v5 → tWG K B 0 0 S I J 49 [some (vR 61), some (vI v1), some (vI v2), some (vI v3), some (vI v4), some (vI v5), none, none, none] []) {kb143 : tHI → tHJ → Int32 → Int32 → Int32 → Int32 → Int32 → Int32 → Int32 → Prop} (hkb143 : ∀ (I : tHI) (J : tHJ) (v1 : Int32) (v2 : Int32) (v3 : Int32) (v4 : Int32) (v5 : Int32) (v7 : Int32) (v8 : Int32), kb143 I J v1 v2 v3 v4 v5 v7 v8 → tWG K B 0 0 S I J 143 [some (vR 61), some (vI v1), some (vI v2), some (vI v3), some (vI v4), some (vI v5), none, some (vI v7), some (vI v8)] []) {I : tHI} {J : tHJ} {v1 : Int32} {v2 : Int32} {v3 : Int32} {v4 : Int32} {v5 : Int32} {v7 : Int32} {v8 : Int32} (h : F12_putting_143 n S k kb49 kb143 I J v1 v2 v3 v4 v5 v7 v8) : tWG K B 0 0 S I J 143 [some (vR 61), some (vI v1), some (vI v2), some (vI v3), some (vI v4), some (vI v5), none, some (vI v7), some (vI v8)] [] := by
  refine gBk (pe := 146) hO [o0 (.iload 8), o0 (.iload_n 2)] (by decide +kernel) (show tWG K B 0 0 S I J 146 [some (vR 61), some (vI v1), some (vI v2), some (vI v3), some (vI v4), some (vI v5), none, some (vI v7), some (vI v8)] [vI v2, vI v8] from ?_)
  refine gIcGe hO (off := 33) (tgt := 179) (by decide +kernel) (by decide) (fun c14 => ?_) (fun c14 => ?_)
  · have h := h.1 c14
    exact gWeak (L' := [some (vR 61), some (vI v1), some (vI v2), some (vI v3), some (vI v4), some (vI v5), none, some (vI v7), none]) ⟨rfl, rfl, rfl, rfl, rfl, rfl, rfl, trivial⟩ (W12_putting_179 hO hR hG t0 hQ hkb49 h)
  · have h := h.2 c14
    refine gBk (pe := 153) hO [o0 (.iload 7), o0 (.iload 4)] (by decide +kernel) (show tWG K B 0 0 S I J 153 [some (vR 61), some (vI v1), some (vI v2), some (vI v3), some (vI v4), some (vI v5), none, some (vI v7), some (vI v8)] [vI v4, vI v7] from ?_)
    refine gIcGe hO (off := 26) (tgt := 179) (by decide +kernel) (by decide) (fun c18 => ?_) (fun c18 => ?_)
    · have h := h.1 c18
      exact gWeak (L' := [some (vR 61), some (vI v1), some (vI v2), some (vI v3), some (vI v4), some (vI v5), none, some (vI v7), none]) ⟨rfl, rfl, rfl, rfl, rfl, rfl, rfl, trivial⟩ (W12_putting_179 hO hR hG t0 hQ hkb49 h)
    · have h := h.2 c18
      refine gBk (pe := 143) hO [o0 (.aload_n 0), oF (.getfield 136) 12 48 228 85, o0 (.iload 8), o0 (.aload_n 0), oF (.getfield 13) 12 3 179 63, oI (.bipush 14) 14, o0 (.iload 8), o0 .iadd, o0 .iaload, o0 .iastore, oI (.iinc 8 1) 1, o0 (.goto (-33))] (by decide +kernel) (And.intro t0 (And.intro rfl (And.intro t0 (And.intro rfl (And.intro (tGr.off hG t0 (k := 3) rfl) (And.intro (tin (tGr.len hG t0 (k := 3) rfl (by decide)) h.1) (And.intro (tGr.off hG t0 (k := 48) rfl) (And.intro (tin (tGr.len hG t0 (k := 48) rfl (by decide)) h.2.1) (show tWG K B 0 0 S (uI I 85 v8.toNatClampNeg (I 63 (14 + v8).toNatClampNeg)) J 143 [some (vR 61), some (vI v1), some (vI v2), some (vI v3), some (vI v4), some (vI v5), none, some (vI v7), some (vI (v8 + 1))] [] from ?_)))))))))
      have h := h.2.2
      exact hkb143 _ _ _ _ _ _ _ _ _ h
theorem W12_putting_L143 {K : tK} {B : tB} {S : tSH} {MC MS : Nat} (hO : tKO K B RX12 cX12_putting 9) (hR : kR K = tRm 10 MC MS) (hG : tGr S) {n : Nat} (t0 : ty S 61 12) {k : Int32 → tHI → tHJ → Prop} (hQ : tRet K B (tQi B (tPi S k)) 0 0 (some .int)) {kb49 : tHI → tHJ → Int32 → Int32 → Int32 → Int32 → Int32 → Prop} (hkb49 : ∀ (I : tHI) (J : tHJ) (v1 : Int32) (v2 : Int32) (v3 : Int32) (v4 : Int32) (v5 : Int32), kb49 I J v1 v2 v3 v4 v5 → tWG K B 0 0 S I J 49 [some (vR 61), some (vI v1), some (vI v2), some (vI v3), some (vI v4), some (vI v5), none, none, none] []) : ∀ (f : Nat) (I : tHI) (J : tHJ) (v1 : Int32) (v2 : Int32) (v3 : Int32) (v4 : Int32) (v5 : Int32) (v7 : Int32) (v8 : Int32), F12_putting_L143 n S k kb49 f I J v1 v2 v3 v4 v5 v7 v8 → tWG K B 0 0 S I J 143 [some (vR 61), some (vI v1), some (vI v2), some (vI v3), some (vI v4), some (vI v5), none, some (vI v7), some (vI v8)] [] := by
  intro f
  induction f with
  | zero => intro I J v1 v2 v3 v4 v5 v7 v8 h; exact h.elim
  | succ f ih => intro I J v1 v2 v3 v4 v5 v7 v8 h; exact W12_putting_143 hO hR hG t0 hQ hkb49 ih h
set_option maxRecDepth 100000 in
theorem W12_putting_138 {K : tK} {B : tB} {S : tSH} {MC MS : Nat} (hO : tKO K B RX12 cX12_putting 9) (hR : kR K = tRm 10 MC MS) (hG : tGr S) {n : Nat} (t0 : ty S 61 12) {k : Int32 → tHI → tHJ → Prop} (hQ : tRet K B (tQi B (tPi S k)) 0 0 (some .int)) {kb49 : tHI → tHJ → Int32 → Int32 → Int32 → Int32 → Int32 → Prop} (hkb49 : ∀ (I : tHI) (J : tHJ) (v1 : Int32) (v2 : Int32) (v3 : Int32) (v4 : Int32) (v5 : Int32), kb49 I J v1 v2 v3 v4 v5 → tWG K B 0 0 S I J 49 [some (vR 61), some (vI v1), some (vI v2), some (vI v3), some (vI v4), some (vI v5), none, none, none] []) {I : tHI} {J : tHJ} {v1 : Int32} {v2 : Int32} {v3 : Int32} {v4 : Int32} {v5 : Int32} {s0 : Int32} (h : F12_putting_138 n S k kb49 I J v1 v2 v3 v4 v5 s0) : tWG K B 0 0 S I J 138 [some (vR 61), some (vI v1), some (vI v2), some (vI v3), some (vI v4), some (vI v5), none, none, none] [vI s0] := by
  refine gBk (pe := 143) hO [o0 (.istore 7), oI (.iconst 0) 0, o0 (.istore 8)] (by decide +kernel) (And.intro (Nat.le_of_ble_eq_true rfl) (And.intro (Nat.le_of_ble_eq_true rfl) (show tWG K B 0 0 S I J 143 [some (vR 61), some (vI v1), some (vI v2), some (vI v3), some (vI v4), some (vI v5), none, some (vI s0), some (vI 0)] [] from ?_)))
  exact W12_putting_L143 hO hR hG t0 hQ hkb49 n _ _ _ _ _ _ _ _ _ h
set_option maxRecDepth 100000 in
theorem W12_putting_103 {K : tK} {B : tB} {S : tSH} {MC MS : Nat} (hO : tKO K B RX12 cX12_putting 9) (hR : kR K = tRm 10 MC MS) (hG : tGr S) {n : Nat} (t0 : ty S 61 12) {k : Int32 → tHI → tHJ → Prop} (hQ : tRet K B (tQi B (tPi S k)) 0 0 (some .int)) {kb49 : tHI → tHJ → Int32 → Int32 → Int32 → Int32 → Int32 → Prop} (hkb49 : ∀ (I : tHI) (J : tHJ) (v1 : Int32) (v2 : Int32) (v3 : Int32) (v4 : Int32) (v5 : Int32), kb49 I J v1 v2 v3 v4 v5 → tWG K B 0 0 S I J 49 [some (vR 61), some (vI v1), some (vI v2), some (vI v3), some (vI v4), some (vI v5), none, none, none] []) {kb61 : tHI → tHJ → Int32 → Int32 → Int32 → Int32 → Int32 → Int32 → Int32 → Prop} (hkb61 : ∀ (I : tHI) (J : tHJ) (v1 : Int32) (v2 : Int32) (v3 : Int32) (v4 : Int32) (v5 : Int32) (v6 : Int32) (v7 : Int32), kb61 I J v1 v2 v3 v4 v5 v6 v7 → tWG K B 0 0 S I J 61 [some (vR 61), some (vI v1), some (vI v2), some (vI v3), some (vI v4), some (vI v5), some (vI v6), some (vI v7), none] []) {I : tHI} {J : tHJ} {v1 : Int32} {v2 : Int32} {v3 : Int32} {v4 : Int32} {v5 : Int32} {v7 : Int32} {v8 : Int32} {s0 : Int32} (h : F12_putting_103 n S k kb49 kb61 I J v1 v2 v3 v4 v5 v7 v8 s0) : tWG K B 0 0 S I J 103 [some (vR 61), some (vI v1), some (vI v2), some (vI v3), some (vI v4), some (vI v5), none, some (vI v7), some (vI v8)] [vI s0] := by
  refine gBk (pe := 61) hO [o0 (.istore 6), o0 (.aload_n 0), oF (.getfield 13) 12 3 179 63, oI (.bipush 14) 14, o0 (.iload 7), o0 .iadd, o0 (.iload 8), o0 .iastore, oI (.iinc 7 1) 1, o0 (.goto (-59))] (by decide +kernel) (And.intro (Nat.le_of_ble_eq_true rfl) (And.intro t0 (And.intro rfl (And.intro (tGr.off hG t0 (k := 3) rfl) (And.intro (tin (tGr.len hG t0 (k := 3) rfl (by decide)) h.1) (show tWG K B 0 0 S (uI I 63 (14 + v7).toNatClampNeg v8) J 61 [some (vR 61), some (vI v1), some (vI v2), some (vI v3), some (vI v4), some (vI v5), some (vI s0), some (vI (v7 + 1)), some (vI v8)] [] from ?_))))))
  have h := h.2
  exact gWeak (L' := [some (vR 61), some (vI v1), some (vI v2), some (vI v3), some (vI v4), some (vI v5), some (vI s0), some (vI (v7 + 1)), none]) ⟨rfl, rfl, rfl, rfl, rfl, rfl, rfl, rfl, trivial⟩ (hkb61 _ _ _ _ _ _ _ _ _ h)
set_option maxRecDepth 100000 in
theorem W12_putting_102 {K : tK} {B : tB} {S : tSH} {MC MS : Nat} (hO : tKO K B RX12 cX12_putting 9) (hR : kR K = tRm 10 MC MS) (hG : tGr S) {n : Nat} (t0 : ty S 61 12) {k : Int32 → tHI → tHJ → Prop} (hQ : tRet K B (tQi B (tPi S k)) 0 0 (some .int)) {kb49 : tHI → tHJ → Int32 → Int32 → Int32 → Int32 → Int32 → Prop} (hkb49 : ∀ (I : tHI) (J : tHJ) (v1 : Int32) (v2 : Int32) (v3 : Int32) (v4 : Int32) (v5 : Int32), kb49 I J v1 v2 v3 v4 v5 → tWG K B 0 0 S I J 49 [some (vR 61), some (vI v1), some (vI v2), some (vI v3), some (vI v4), some (vI v5), none, none, none] []) {kb61 : tHI → tHJ → Int32 → Int32 → Int32 → Int32 → Int32 → Int32 → Int32 → Prop} (hkb61 : ∀ (I : tHI) (J : tHJ) (v1 : Int32) (v2 : Int32) (v3 : Int32) (v4 : Int32) (v5 : Int32) (v6 : Int32) (v7 : Int32), kb61 I J v1 v2 v3 v4 v5 v6 v7 → tWG K B 0 0 S I J 61 [some (vR 61), some (vI v1), some (vI v2), some (vI v3), some (vI v4), some (vI v5), some (vI v6), some (vI v7), none] []) {I : tHI} {J : tHJ} {v1 : Int32} {v2 : Int32} {v3 : Int32} {v4 : Int32} {v5 : Int32} {v7 : Int32} {v8 : Int32} (h : F12_putting_102 n S k kb49 kb61 I J v1 v2 v3 v4 v5 v7 v8) : tWG K B 0 0 S I J 102 [some (vR 61), some (vI v1), some (vI v2), some (vI v3), some (vI v4), some (vI v5), none, some (vI v7), some (vI v8)] [] := by
  refine gBk (pe := 103) hO [oI (.iconst 0) 0] (by decide +kernel) (show tWG K B 0 0 S I J 103 [some (vR 61), some (vI v1), some (vI v2), some (vI v3), some (vI v4), some (vI v5), none, some (vI v7), some (vI v8)] [vI 0] from ?_)
  exact W12_putting_103 hO hR hG t0 hQ hkb49 hkb61 h
set_option maxRecDepth 100000 in
theorem W12_putting_61 {K : tK} {B : tB} {S : tSH} {MC MS : Nat} (hO : tKO K B RX12 cX12_putting 9) (hR : kR K = tRm 10 MC MS) (hG : tGr S) {n : Nat} (t0 : ty S 61 12) {k : Int32 → tHI → tHJ → Prop} (hQ : tRet K B (tQi B (tPi S k)) 0 0 (some .int)) {kb49 : tHI → tHJ → Int32 → Int32 → Int32 → Int32 → Int32 → Prop} (hkb49 : ∀ (I : tHI) (J : tHJ) (v1 : Int32) (v2 : Int32) (v3 : Int32) (v4 : Int32) (v5 : Int32), kb49 I J v1 v2 v3 v4 v5 → tWG K B 0 0 S I J 49 [some (vR 61), some (vI v1), some (vI v2), some (vI v3), some (vI v4), some (vI v5), none, none, none] []) {kb61 : tHI → tHJ → Int32 → Int32 → Int32 → Int32 → Int32 → Int32 → Int32 → Prop} (hkb61 : ∀ (I : tHI) (J : tHJ) (v1 : Int32) (v2 : Int32) (v3 : Int32) (v4 : Int32) (v5 : Int32) (v6 : Int32) (v7 : Int32), kb61 I J v1 v2 v3 v4 v5 v6 v7 → tWG K B 0 0 S I J 61 [some (vR 61), some (vI v1), some (vI v2), some (vI v3), some (vI v4), some (vI v5), some (vI v6), some (vI v7), none] []) {I : tHI} {J : tHJ} {v1 : Int32} {v2 : Int32} {v3 : Int32} {v4 : Int32} {v5 : Int32} {v6 : Int32} {v7 : Int32} (h : F12_putting_61 n S k kb49 kb61 I J v1 v2 v3 v4 v5 v6 v7) : tWG K B 0 0 S I J 61 [some (vR 61), some (vI v1), some (vI v2), some (vI v3), some (vI v4), some (vI v5), some (vI v6), some (vI v7), none] [] := by
  refine gBk (pe := 64) hO [o0 (.iload 7), o0 (.iload_n 2)] (by decide +kernel) (show tWG K B 0 0 S I J 64 [some (vR 61), some (vI v1), some (vI v2), some (vI v3), some (vI v4), some (vI v5), some (vI v6), some (vI v7), none] [vI v2, vI v7] from ?_)
  refine gIcGe hO (off := 59) (tgt := 123) (by decide +kernel) (by decide) (fun c12 => ?_) (fun c12 => ?_)
  · have h := h.1 c12
    refine gBk (pe := 125) hO [o0 (.iload 6)] (by decide +kernel) (show tWG K B 0 0 S I J 125 [some (vR 61), some (vI v1), some (vI v2), some (vI v3), some (vI v4), some (vI v5), some (vI v6), some (vI v7), none] [vI v6] from ?_)
    refine gIfEq hO (off := 10) (tgt := 135) (by decide +kernel) (by decide) (fun c13 => ?_) (fun c13 => ?_)
    · have h := h.1 c13
      refine gBk (pe := 138) hO [(.ldc_w 467, (0, 0, 490, 0), 100000000, 0)] (by decide +kernel) (show tWG K B 0 0 S I J 138 [some (vR 61), some (vI v1), some (vI v2), some (vI v3), some (vI v4), some (vI v5), some (vI v6), some (vI v7), none] [vI 100000000] from ?_)
      exact gWeak (L' := [some (vR 61), some (vI v1), some (vI v2), some (vI v3), some (vI v4), some (vI v5), none, none, none]) ⟨rfl, rfl, rfl, rfl, rfl, rfl, trivial⟩ (W12_putting_138 hO hR hG t0 hQ hkb49 h)
    · have h := h.2 c13
      refine gBk (pe := 129) hO [o0 (.aload_n 0)] (by decide +kernel) (show tWG K B 0 0 S I J 129 [some (vR 61), some (vI v1), some (vI v2), some (vI v3), some (vI v4), some (vI v5), some (vI v6), some (vI v7), none] [vR 61] from ?_)
      refine gCVi_c hO (M12_timesOfAll t0 h) hc12_timesOfAll (idx := 509) (w := 1325) (by decide +kernel) hR (by omega) t0 ⟨by decide, rfl⟩ (vs := []) (st := []) ⟨rfl, Nat.le_of_ble_eq_true rfl, rfl⟩ (by decide +kernel) (fun x21 I19 J20 h => ?_)
      refine gBk (pe := 138) hO [o0 (.goto 6)] (by decide +kernel) (show tWG K B 0 0 S I19 J20 138 [some (vR 61), some (vI v1), some (vI v2), some (vI v3), some (vI v4), some (vI v5), some (vI v6), some (vI v7), none] [vI x21] from ?_)
      exact gWeak (L' := [some (vR 61), some (vI v1), some (vI v2), some (vI v3), some (vI v4), some (vI v5), none, none, none]) ⟨rfl, rfl, rfl, rfl, rfl, rfl, trivial⟩ (W12_putting_138 hO hR hG t0 hQ hkb49 h)
  · have h := h.2 c12
    refine gBk (pe := 84) hO [o0 (.iload 5), oI (.iconst 2) 2, o0 (.iload_n 2), oI (.iconst 1) 1, o0 .isub, o0 (.iload 7), o0 .isub, o0 .imul, o0 .ishr, oI (.iconst 3) 3, o0 .iand, o0 (.istore 8), o0 (.iload 6)] (by decide +kernel) (And.intro (Nat.le_of_ble_eq_true rfl) (show tWG K B 0 0 S I J 84 [some (vR 61), some (vI v1), some (vI v2), some (vI v3), some (vI v4), some (vI v5), some (vI v6), some (vI v7), some (vI ((v5 >>> ((2 * ((v2 - 1) - v7)) &&& 31)) &&& 3))] [vI v6] from ?_))
    refine gIfEq hO (off := 18) (tgt := 102) (by decide +kernel) (by decide) (fun c22 => ?_) (fun c22 => ?_)
    · have h := h.1 c22
      exact gWeak (L' := [some (vR 61), some (vI v1), some (vI v2), some (vI v3), some (vI v4), some (vI v5), none, some (vI v7), some (vI ((v5 >>> ((2 * ((v2 - 1) - v7)) &&& 31)) &&& 3))]) ⟨rfl, rfl, rfl, rfl, rfl, rfl, rfl, rfl, trivial⟩ (W12_putting_102 hO hR hG t0 hQ hkb49 hkb61 h)
    · have h := h.2 c22
      refine gBk (pe := 92) hO [o0 (.aload_n 0), o0 (.iload 7), o0 (.iload 8)] (by decide +kernel) (show tWG K B 0 0 S I J 92 [some (vR 61), some (vI v1), some (vI v2), some (vI v3), some (vI v4), some (vI v5), some (vI v6), some (vI v7), some (vI ((v5 >>> ((2 * ((v2 - 1) - v7)) &&& 31)) &&& 3))] [vI ((v5 >>> ((2 * ((v2 - 1) - v7)) &&& 31)) &&& 3), vI v7, vR 61] from ?_)
      refine gCVi_b hO (M12_isBanned t0 h) hc12_isBanned (idx := 202) (w := 390) (by decide +kernel) hR (by omega) t0 ⟨by decide, rfl⟩ (vs := [vI v7, vI ((v5 >>> ((2 * ((v2 - 1) - v7)) &&& 31)) &&& 3)]) (st := []) ⟨rfl, Nat.le_of_ble_eq_true rfl, rfl⟩ (by decide +kernel) (fun x25 I23 J24 z26 h => ?_)
      have h := h z26
      have hj27 : ∀ (m28 : Int32), m28 = (if x25 = 0 then (1 : Int32) else 0) → tWG K B 0 0 S I23 J24 103 [some (vR 61), some (vI v1), some (vI v2), some (vI v3), some (vI v4), some (vI v5), none, some (vI v7), some (vI ((v5 >>> ((2 * ((v2 - 1) - v7)) &&& 31)) &&& 3))] [vI m28] := by
        intro m28 em28
        subst em28
        refine gBk (pe := 61) hO [o0 (.istore 6), o0 (.aload_n 0), oF (.getfield 13) 12 3 179 63, oI (.bipush 14) 14, o0 (.iload 7), o0 .iadd, o0 (.iload 8), o0 .iastore, oI (.iinc 7 1) 1, o0 (.goto (-59))] (by decide +kernel) (And.intro (Nat.le_of_ble_eq_true rfl) (And.intro t0 (And.intro rfl (And.intro (tGr.off hG t0 (k := 3) rfl) (And.intro (tin (tGr.len hG t0 (k := 3) rfl (by decide)) h.1) (show tWG K B 0 0 S (uI I23 63 (14 + v7).toNatClampNeg ((v5 >>> ((2 * ((v2 - 1) - v7)) &&& 31)) &&& 3)) J24 61 [some (vR 61), some (vI v1), some (vI v2), some (vI v3), some (vI v4), some (vI v5), some (vI (if x25 = 0 then (1 : Int32) else 0)), some (vI (v7 + 1)), some (vI ((v5 >>> ((2 * ((v2 - 1) - v7)) &&& 31)) &&& 3))] [] from ?_))))))
        have h := h.2
        exact gWeak (L' := [some (vR 61), some (vI v1), some (vI v2), some (vI v3), some (vI v4), some (vI v5), some (vI (if x25 = 0 then (1 : Int32) else 0)), some (vI (v7 + 1)), none]) ⟨rfl, rfl, rfl, rfl, rfl, rfl, rfl, rfl, trivial⟩ (hkb61 _ _ _ _ _ _ _ _ _ h)
      refine gIfNe hO (off := 7) (tgt := 102) (by decide +kernel) (by decide) (fun c29 => ?_) (fun c29 => ?_)
      · refine gBk (pe := 103) hO [oI (.iconst 0) 0] (by decide +kernel) (show tWG K B 0 0 S I23 J24 103 [some (vR 61), some (vI v1), some (vI v2), some (vI v3), some (vI v4), some (vI v5), some (vI v6), some (vI v7), some (vI ((v5 >>> ((2 * ((v2 - 1) - v7)) &&& 31)) &&& 3))] [vI 0] from ?_)
        exact gWeak (L' := [some (vR 61), some (vI v1), some (vI v2), some (vI v3), some (vI v4), some (vI v5), none, some (vI v7), some (vI ((v5 >>> ((2 * ((v2 - 1) - v7)) &&& 31)) &&& 3))]) ⟨rfl, rfl, rfl, rfl, rfl, rfl, rfl, rfl, trivial⟩ (hj27 _ (Eq.symm (if_neg c29)))
      · refine gBk (pe := 103) hO [oI (.iconst 1) 1, o0 (.goto 4)] (by decide +kernel) (show tWG K B 0 0 S I23 J24 103 [some (vR 61), some (vI v1), some (vI v2), some (vI v3), some (vI v4), some (vI v5), some (vI v6), some (vI v7), some (vI ((v5 >>> ((2 * ((v2 - 1) - v7)) &&& 31)) &&& 3))] [vI 1] from ?_)
        exact gWeak (L' := [some (vR 61), some (vI v1), some (vI v2), some (vI v3), some (vI v4), some (vI v5), none, some (vI v7), some (vI ((v5 >>> ((2 * ((v2 - 1) - v7)) &&& 31)) &&& 3))]) ⟨rfl, rfl, rfl, rfl, rfl, rfl, rfl, rfl, trivial⟩ (hj27 _ (Eq.symm (if_pos c29)))
theorem W12_putting_L61 {K : tK} {B : tB} {S : tSH} {MC MS : Nat} (hO : tKO K B RX12 cX12_putting 9) (hR : kR K = tRm 10 MC MS) (hG : tGr S) {n : Nat} (t0 : ty S 61 12) {k : Int32 → tHI → tHJ → Prop} (hQ : tRet K B (tQi B (tPi S k)) 0 0 (some .int)) {kb49 : tHI → tHJ → Int32 → Int32 → Int32 → Int32 → Int32 → Prop} (hkb49 : ∀ (I : tHI) (J : tHJ) (v1 : Int32) (v2 : Int32) (v3 : Int32) (v4 : Int32) (v5 : Int32), kb49 I J v1 v2 v3 v4 v5 → tWG K B 0 0 S I J 49 [some (vR 61), some (vI v1), some (vI v2), some (vI v3), some (vI v4), some (vI v5), none, none, none] []) : ∀ (f : Nat) (I : tHI) (J : tHJ) (v1 : Int32) (v2 : Int32) (v3 : Int32) (v4 : Int32) (v5 : Int32) (v6 : Int32) (v7 : Int32), F12_putting_L61 n S k kb49 f I J v1 v2 v3 v4 v5 v6 v7 → tWG K B 0 0 S I J 61 [some (vR 61), some (vI v1), some (vI v2), some (vI v3), some (vI v4), some (vI v5), some (vI v6), some (vI v7), none] [] := by
  intro f
  induction f with
  | zero => intro I J v1 v2 v3 v4 v5 v6 v7 h; exact h.elim
  | succ f ih => intro I J v1 v2 v3 v4 v5 v6 v7 h; exact W12_putting_61 hO hR hG t0 hQ hkb49 ih h
set_option maxRecDepth 100000 in
theorem W12_putting_49 {K : tK} {B : tB} {S : tSH} {MC MS : Nat} (hO : tKO K B RX12 cX12_putting 9) (hR : kR K = tRm 10 MC MS) (hG : tGr S) {n : Nat} (t0 : ty S 61 12) {k : Int32 → tHI → tHJ → Prop} (hQ : tRet K B (tQi B (tPi S k)) 0 0 (some .int)) {kb49 : tHI → tHJ → Int32 → Int32 → Int32 → Int32 → Int32 → Prop} (hkb49 : ∀ (I : tHI) (J : tHJ) (v1 : Int32) (v2 : Int32) (v3 : Int32) (v4 : Int32) (v5 : Int32), kb49 I J v1 v2 v3 v4 v5 → tWG K B 0 0 S I J 49 [some (vR 61), some (vI v1), some (vI v2), some (vI v3), some (vI v4), some (vI v5), none, none, none] []) {I : tHI} {J : tHJ} {v1 : Int32} {v2 : Int32} {v3 : Int32} {v4 : Int32} {v5 : Int32} (h : F12_putting_49 n S k kb49 I J v1 v2 v3 v4 v5) : tWG K B 0 0 S I J 49 [some (vR 61), some (vI v1), some (vI v2), some (vI v3), some (vI v4), some (vI v5), none, none, none] [] := by
  refine gBk (pe := 52) hO [o0 (.iload 5), o0 (.iload_n 3)] (by decide +kernel) (show tWG K B 0 0 S I J 52 [some (vR 61), some (vI v1), some (vI v2), some (vI v3), some (vI v4), some (vI v5), none, none, none] [vI v3, vI v5] from ?_)
  refine gIcGe hO (off := 149) (tgt := 201) (by decide +kernel) (by decide) (fun c5 => ?_) (fun c5 => ?_)
  · have h := h.1 c5
    refine gBk (pe := 204) hO [o0 (.aload_n 0), oI (.bipush 16) 16] (by decide +kernel) (show tWG K B 0 0 S I J 204 [some (vR 61), some (vI v1), some (vI v2), some (vI v3), some (vI v4), some (vI v5), none, none, none] [vI 16, vR 61] from ?_)
    refine gCVv_c hO (M12_putBack t0 h) hc12_putBack (idx := 178) (w := 1066) (by decide +kernel) hR (by omega) t0 ⟨by decide, rfl⟩ (vs := [vI 16]) (st := []) ⟨rfl, Nat.le_of_ble_eq_true rfl, rfl⟩ (by decide +kernel) (fun I6 J7 h => ?_)
    refine gBk (pe := 209) hO [o0 (.iload 4)] (by decide +kernel) (show tWG K B 0 0 S I6 J7 209 [some (vR 61), some (vI v1), some (vI v2), some (vI v3), some (vI v4), some (vI v5), none, none, none] [vI v4] from ?_)
    refine gBk (pe := 212) hO [(.ldc_w 467, (0, 0, 490, 0), 100000000, 0)] (by decide +kernel) (show tWG K B 0 0 S I6 J7 212 [some (vR 61), some (vI v1), some (vI v2), some (vI v3), some (vI v4), some (vI v5), none, none, none] [vI 100000000, vI v4] from ?_)
    have hj8 : ∀ (m9 : Int32), m9 = (if v4 = 100000000 then (-1) else (if v1 = (-1) then v4 else (I6 85 v1.toNatClampNeg))) → tWG K B 0 0 S I6 J7 235 [none, none, none, none, none, none, none, none, none] [vI m9] := by
      intro m9 em9
      subst em9
      have h := h.2
      exact gIret hO hQ (by decide +kernel) ⟨rfl, h⟩
    have h := h.1
    refine gIcNe hO (off := 7) (tgt := 219) (by decide +kernel) (by decide) (fun c10 => ?_) (fun c10 => ?_)
    · have h := h.1 c10
      refine gBk (pe := 221) hO [o0 (.iload_n 1), oI (.iconst (-1)) (-1)] (by decide +kernel) (show tWG K B 0 0 S I6 J7 221 [some (vR 61), some (vI v1), some (vI v2), some (vI v3), some (vI v4), some (vI v5), none, none, none] [vI (-1), vI v1] from ?_)
      refine gIcNe hO (off := 8) (tgt := 229) (by decide +kernel) (by decide) (fun c11 => ?_) (fun c11 => ?_)
      · have h := h.1 c11
        refine gBk (pe := 235) hO [o0 (.aload_n 0), oF (.getfield 136) 12 48 228 85, o0 (.iload_n 1), o0 .iaload] (by decide +kernel) (And.intro t0 (And.intro rfl (And.intro (tGr.off hG t0 (k := 48) rfl) (And.intro (tin (tGr.len hG t0 (k := 48) rfl (by decide)) h.1) (show tWG K B 0 0 S I6 J7 235 [some (vR 61), some (vI v1), some (vI v2), some (vI v3), some (vI v4), some (vI v5), none, none, none] [vI (I6 85 v1.toNatClampNeg)] from ?_)))))
        have h := h.2
        exact gWeak (L' := [none, none, none, none, none, none, none, none, none]) trivial (hj8 _ (Eq.symm ((if_neg c10).trans (if_neg c11))))
      · have h := h.2 c11
        refine gBk (pe := 235) hO [o0 (.iload 4), o0 (.goto 9)] (by decide +kernel) (show tWG K B 0 0 S I6 J7 235 [some (vR 61), some (vI v1), some (vI v2), some (vI v3), some (vI v4), some (vI v5), none, none, none] [vI v4] from ?_)
        exact gWeak (L' := [none, none, none, none, none, none, none, none, none]) trivial (hj8 _ (Eq.symm ((if_neg c10).trans (if_pos c11))))
    · have h := h.2 c10
      refine gBk (pe := 235) hO [oI (.iconst (-1)) (-1), o0 (.goto 19)] (by decide +kernel) (show tWG K B 0 0 S I6 J7 235 [some (vR 61), some (vI v1), some (vI v2), some (vI v3), some (vI v4), some (vI v5), none, none, none] [vI (-1)] from ?_)
      exact gWeak (L' := [none, none, none, none, none, none, none, none, none]) trivial (hj8 _ (Eq.symm (if_pos c10)))
  · have h := h.2 c5
    refine gBk (pe := 61) hO [oI (.iconst 1) 1, o0 (.istore 6), oI (.iconst 0) 0, o0 (.istore 7)] (by decide +kernel) (And.intro (Nat.le_of_ble_eq_true rfl) (And.intro (Nat.le_of_ble_eq_true rfl) (show tWG K B 0 0 S I J 61 [some (vR 61), some (vI v1), some (vI v2), some (vI v3), some (vI v4), some (vI v5), some (vI 1), some (vI 0), none] [] from ?_)))
    exact W12_putting_L61 hO hR hG t0 hQ hkb49 n _ _ _ _ _ _ _ _ _ h
theorem W12_putting_L49 {K : tK} {B : tB} {S : tSH} {MC MS : Nat} (hO : tKO K B RX12 cX12_putting 9) (hR : kR K = tRm 10 MC MS) (hG : tGr S) {n : Nat} (t0 : ty S 61 12) {k : Int32 → tHI → tHJ → Prop} (hQ : tRet K B (tQi B (tPi S k)) 0 0 (some .int)) : ∀ (f : Nat) (I : tHI) (J : tHJ) (v1 : Int32) (v2 : Int32) (v3 : Int32) (v4 : Int32) (v5 : Int32), F12_putting_L49 n S k f I J v1 v2 v3 v4 v5 → tWG K B 0 0 S I J 49 [some (vR 61), some (vI v1), some (vI v2), some (vI v3), some (vI v4), some (vI v5), none, none, none] [] := by
  intro f
  induction f with
  | zero => intro I J v1 v2 v3 v4 v5 h; exact h.elim
  | succ f ih => intro I J v1 v2 v3 v4 v5 h; exact W12_putting_49 hO hR hG t0 hQ ih h
set_option maxRecDepth 20000 in
theorem hc12_putting : tCV yX12_putting cX12_putting 9 (some .int) 1 := ⟨⟨(List.mem_of_getElem? (i := 1324) rfl), (List.mem_of_getElem? (i := 5) (by decide +kernel)), by decide +kernel⟩, (List.mem_of_getElem? (i := 1322) (by decide +kernel)), (List.mem_of_getElem? (i := 1323) (by decide +kernel))⟩
set_option maxRecDepth 100000 in
theorem M12_putting {l : Launch} {B : tB} {S : tSH} {I : tHI} {J : tHJ} {v1 : Int32} {n : Nat} {k : Int32 → tHI → tHJ → Prop} (t0 : ty S 61 12) (h : F12_putting n S I J v1 k) : Met l yX12_putting (tWs yX12_putting cX12_putting 9 (some .int)) (tRm 10 0 0) (tPc B [vR 61, vI v1] S I J) (tQi B (tPi S k)) 0 0 (tA B) :=
  tEntry (by decide +kernel) [some (vR 61), some (vI v1), none, none, none, none, none, none, none] rfl rfl (Nat.le_of_ble_eq_true rfl) (fun K hl hR hO hQ hG => by
  subst hl
  refine gBk (pe := 14) hO [o0 (.aload_n 0), oI (.iconst 0) 0, oF (.putfield 161) 12 0 316 0, o0 (.aload_n 0), oF (.getfield 13) 12 3 179 63, oI (.iconst 0) 0, o0 .iaload, o0 (.istore_n 2), o0 (.iload_n 1), o0 .i2l] (by decide +kernel) (And.intro t0 (And.intro t0 (And.intro rfl (And.intro (tGr.off hG t0 (k := 3) rfl) (And.intro (tin (tGr.len hG t0 (k := 3) rfl (by decide)) (tvi (by decide +kernel))) (And.intro (Nat.le_of_ble_eq_true rfl) (show tWG K B 0 0 S (uI I 61 0 0) J 14 [some (vR 61), some (vI v1), some (vI ((uI I 61 0 0) 63 0)), none, none, none, none, none, none] [vL v1.toInt64] from ?_)))))))
  refine gBk (pe := 21) hO [(.ldc2_w 288, (0, 0, 331, 0), 0, (-1)), o0 (.iload_n 2), o0 .i2l, oJ (.lconst 1) 0 1, o0 .lsub] (by decide +kernel) (show tWG K B 0 0 S (uI I 61 0 0) J 21 [some (vR 61), some (vI v1), some (vI ((uI I 61 0 0) 63 0)), none, none, none, none, none, none] [vL (((uI I 61 0 0) 63 0).toInt64 - 1), vL (-1), vL v1.toInt64] from ?_)
  refine gCSi_z hO (M12_in) hc12_in (idx := 181) (w := 319) (by decide +kernel) hR (by omega) (vs := [vL v1.toInt64, vL (-1), vL (((uI I 61 0 0) 63 0).toInt64 - 1)]) (st := []) ⟨rfl, Nat.le_of_ble_eq_true rfl, rfl⟩ (by decide +kernel) (fun z1 => ?_)
  refine gIfNe hO (off := 5) (tgt := 29) (by decide +kernel) (by decide) (fun c2 => ?_) (fun c2 => ?_)
  · have h := h.1 c2
    refine gBk (pe := 35) hO [oI (.iconst 1) 1, oI (.iconst 2) 2, o0 (.iload_n 2), o0 .imul, o0 .ishl, o0 (.istore_n 3)] (by decide +kernel) (And.intro (Nat.le_of_ble_eq_true rfl) (show tWG K B 0 0 S (uI I 61 0 0) J 35 [some (vR 61), some (vI v1), some (vI ((uI I 61 0 0) 63 0)), some (vI (1 <<< ((2 * ((uI I 61 0 0) 63 0)) &&& 31))), none, none, none, none, none] [] from ?_))
    refine gBk (pe := 43) hO [(.ldc_w 467, (0, 0, 490, 0), 100000000, 0), o0 (.istore 4), o0 (.aload_n 0), oI (.bipush 16) 16] (by decide +kernel) (And.intro (Nat.le_of_ble_eq_true rfl) (show tWG K B 0 0 S (uI I 61 0 0) J 43 [some (vR 61), some (vI v1), some (vI ((uI I 61 0 0) 63 0)), some (vI (1 <<< ((2 * ((uI I 61 0 0) 63 0)) &&& 31))), some (vI 100000000), none, none, none, none] [vI 16, vR 61] from ?_))
    refine gCVv_c hO (M12_keepAll t0 h) hc12_keepAll (idx := 174) (w := 997) (by decide +kernel) hR (by omega) t0 ⟨by decide, rfl⟩ (vs := [vI 16]) (st := []) ⟨rfl, Nat.le_of_ble_eq_true rfl, rfl⟩ (by decide +kernel) (fun I3 J4 h => ?_)
    refine gBk (pe := 49) hO [oI (.iconst 0) 0, o0 (.istore 5)] (by decide +kernel) (And.intro (Nat.le_of_ble_eq_true rfl) (show tWG K B 0 0 S I3 J4 49 [some (vR 61), some (vI v1), some (vI ((uI I 61 0 0) 63 0)), some (vI (1 <<< ((2 * ((uI I 61 0 0) 63 0)) &&& 31))), some (vI 100000000), some (vI 0), none, none, none] [] from ?_))
    exact W12_putting_L49 hO hR hG t0 hQ n _ _ _ _ _ _ _ h
  · have h := h.2 c2
    refine gBk (pe := 28) hO [oI (.iconst (-1)) (-1)] (by decide +kernel) (show tWG K B 0 0 S (uI I 61 0 0) J 28 [some (vR 61), some (vI v1), some (vI ((uI I 61 0 0) 63 0)), none, none, none, none, none, none] [vI (-1)] from ?_)
    exact gIret hO hQ (by decide +kernel) ⟨rfl, h⟩)
set_option maxRecDepth 100000 in
theorem W12_setting_58 {K : tK} {B : tB} {S : tSH} {MC MS : Nat} (hO : tKO K B RX12 cX12_setting 9) (hR : kR K = tRm 8 MC MS) (hG : tGr S) {n : Nat} (t0 : ty S 61 12) {k : Int32 → tHI → tHJ → Prop} (hQ : tRet K B (tQi B (tPi S k)) 0 0 (some .int)) {kb36 : tHI → tHJ → Int32 → Int32 → Int32 → Int32 → Int32 → Prop} (hkb36 : ∀ (I : tHI) (J : tHJ) (v1 : Int32) (v2 : Int32) (v3 : Int32) (v4 : Int32) (v5 : Int32), kb36 I J v1 v2 v3 v4 v5 → tWG K B 0 0 S I J 36 [some (vR 61), some (vI v1), some (vI v2), some (vI v3), some (vI v4), some (vI v5), none, none, none] []) {kb58 : tHI → tHJ → Int32 → Int32 → Int32 → Int32 → Int32 → Int32 → Int32 → Prop} (hkb58 : ∀ (I : tHI) (J : tHJ) (v1 : Int32) (v2 : Int32) (v3 : Int32) (v4 : Int32) (v5 : Int32) (v6 : Int32) (v7 : Int32), kb58 I J v1 v2 v3 v4 v5 v6 v7 → tWG K B 0 0 S I J 58 [some (vR 61), some (vI v1), some (vI v2), some (vI v3), some (vI v4), some (vI v5), some (vI v6), some (vI v7), none] []) {I : tHI} {J : tHJ} {v1 : Int32} {v2 : Int32} {v3 : Int32} {v4 : Int32} {v5 : Int32} {v6 : Int32} {v7 : Int32} (h : F12_setting_58 n S k kb36 kb58 I J v1 v2 v3 v4 v5 v6 v7) : tWG K B 0 0 S I J 58 [some (vR 61), some (vI v1), some (vI v2), some (vI v3), some (vI v4), some (vI v5), some (vI v6), some (vI v7), none] [] := by
  refine gBk (pe := 66) hO [o0 (.iload 7), o0 (.aload_n 0), oF (.getfield 13) 12 3 179 63, oI (.iconst 1) 1, o0 .iaload] (by decide +kernel) (And.intro t0 (And.intro rfl (And.intro (tGr.off hG t0 (k := 3) rfl) (And.intro (tin (tGr.len hG t0 (k := 3) rfl (by decide)) (tvi (by decide +kernel))) (show tWG K B 0 0 S I J 66 [some (vR 61), some (vI v1), some (vI v2), some (vI v3), some (vI v4), some (vI v5), some (vI v6), some (vI v7), none] [vI (I 63 1), vI v7] from ?_)))))
  refine gIcGe hO (off := 43) (tgt := 109) (by decide +kernel) (by decide) (fun c7 => ?_) (fun c7 => ?_)
  · have h := h.1 c7
    refine gBk (pe := 112) hO [o0 (.iload 6), o0 (.iload_n 3)] (by decide +kernel) (show tWG K B 0 0 S I J 112 [some (vR 61), some (vI v1), some (vI v2), some (vI v3), some (vI v4), some (vI v5), some (vI v6), some (vI v7), none] [vI v3, vI v6] from ?_)
    have hj8 : ∀ (m9 : Int32), m9 = (if v3 ≤ v6 then v4 else v5) → tWG K B 0 0 S I J 122 [some (vR 61), some (vI v1), some (vI v2), some (vI v3), none, some (vI v5), some (vI v6), none, none] [vI m9] := by
      intro m9 em9
      subst em9
      refine gBk (pe := 127) hO [o0 (.istore 4), o0 (.iload 6), o0 (.iload_n 3)] (by decide +kernel) (And.intro (Nat.le_of_ble_eq_true rfl) (show tWG K B 0 0 S I J 127 [some (vR 61), some (vI v1), some (vI v2), some (vI v3), some (vI (if v3 ≤ v6 then v4 else v5)), some (vI v5), some (vI v6), none, none] [vI v3, vI v6] from ?_))
      have hj11 : ∀ (m12 : Int32), m12 = (if v3 ≤ v6 then v3 else v6) → tWG K B 0 0 S I J 136 [some (vR 61), some (vI v1), some (vI v2), none, some (vI (if v3 ≤ v6 then v4 else v5)), some (vI v5), none, none, none] [vI m12] := by
        intro m12 em12
        subst em12
        refine gBk (pe := 36) hO [o0 (.istore_n 3), oI (.iinc 5 1) 1, o0 (.goto (-104))] (by decide +kernel) (And.intro (Nat.le_of_ble_eq_true rfl) (show tWG K B 0 0 S I J 36 [some (vR 61), some (vI v1), some (vI v2), some (vI (if v3 ≤ v6 then v3 else v6)), some (vI (if v3 ≤ v6 then v4 else v5)), some (vI (v5 + 1)), none, none, none] [] from ?_))
        exact hkb36 _ _ _ _ _ _ _ h
      refine gIcGe hO (off := 8) (tgt := 135) (by decide +kernel) (by decide) (fun c13 => ?_) (fun c13 => ?_)
      · refine gBk (pe := 136) hO [o0 (.iload_n 3)] (by decide +kernel) (show tWG K B 0 0 S I J 136 [some (vR 61), some (vI v1), some (vI v2), some (vI v3), some (vI (if v3 ≤ v6 then v4 else v5)), some (vI v5), some (vI v6), none, none] [vI v3] from ?_)
        exact gWeak (L' := [some (vR 61), some (vI v1), some (vI v2), none, some (vI (if v3 ≤ v6 then v4 else v5)), some (vI v5), none, none, none]) ⟨rfl, rfl, rfl, rfl, rfl, trivial⟩ (hj11 _ (Eq.symm (if_pos c13)))
      · refine gBk (pe := 136) hO [o0 (.iload 6), o0 (.goto 4)] (by decide +kernel) (show tWG K B 0 0 S I J 136 [some (vR 61), some (vI v1), some (vI v2), some (vI v3), some (vI (if v3 ≤ v6 then v4 else v5)), some (vI v5), some (vI v6), none, none] [vI v6] from ?_)
        exact gWeak (L' := [some (vR 61), some (vI v1), some (vI v2), none, some (vI (if v3 ≤ v6 then v4 else v5)), some (vI v5), none, none, none]) ⟨rfl, rfl, rfl, rfl, rfl, trivial⟩ (hj11 _ (Eq.symm (if_neg c13)))
    refine gIcGe hO (off := 8) (tgt := 120) (by decide +kernel) (by decide) (fun c10 => ?_) (fun c10 => ?_)
    · refine gBk (pe := 122) hO [o0 (.iload 4)] (by decide +kernel) (show tWG K B 0 0 S I J 122 [some (vR 61), some (vI v1), some (vI v2), some (vI v3), some (vI v4), some (vI v5), some (vI v6), some (vI v7), none] [vI v4] from ?_)
      exact gWeak (L' := [some (vR 61), some (vI v1), some (vI v2), some (vI v3), none, some (vI v5), some (vI v6), none, none]) ⟨rfl, rfl, rfl, rfl, rfl, rfl, trivial⟩ (hj8 _ (Eq.symm (if_pos c10)))
    · refine gBk (pe := 122) hO [o0 (.iload 5), o0 (.goto 5)] (by decide +kernel) (show tWG K B 0 0 S I J 122 [some (vR 61), some (vI v1), some (vI v2), some (vI v3), some (vI v4), some (vI v5), some (vI v6), some (vI v7), none] [vI v5] from ?_)
      exact gWeak (L' := [some (vR 61), some (vI v1), some (vI v2), some (vI v3), none, some (vI v5), some (vI v6), none, none]) ⟨rfl, rfl, rfl, rfl, rfl, rfl, trivial⟩ (hj8 _ (Eq.symm (if_neg c10)))
  · have h := h.2 c7
    refine gBk (pe := 72) hO [o0 (.aload_n 0), o0 (.iload 7)] (by decide +kernel) (show tWG K B 0 0 S I J 72 [some (vR 61), some (vI v1), some (vI v2), some (vI v3), some (vI v4), some (vI v5), some (vI v6), some (vI v7), none] [vI v7, vR 61] from ?_)
    refine gCVi_c hO (M12_pullsOf t0 h) hc12_pullsOf (idx := 234) (w := 518) (by decide +kernel) hR (by omega) t0 ⟨by decide, rfl⟩ (vs := [vI v7]) (st := []) ⟨rfl, Nat.le_of_ble_eq_true rfl, rfl⟩ (by decide +kernel) (fun x16 I14 J15 h => ?_)
    refine gBk (pe := 81) hO [o0 (.istore 8), o0 (.iload 6), o0 (.iload 8)] (by decide +kernel) (And.intro (Nat.le_of_ble_eq_true rfl) (show tWG K B 0 0 S I14 J15 81 [some (vR 61), some (vI v1), some (vI v2), some (vI v3), some (vI v4), some (vI v5), some (vI v6), some (vI v7), some (vI x16)] [vI x16, vI v6] from ?_))
    have hj17 : ∀ (m18 : Int32), m18 = (if 0 ≤ x16 then x16 else (-x16)) → tWG K B 0 0 S I14 J15 92 [some (vR 61), some (vI v1), some (vI v2), some (vI v3), some (vI v4), some (vI v5), none, some (vI v7), none] [vI m18, vI v6] := by
      intro m18 em18
      subst em18
      refine gBk (pe := 96) hO [o0 (.aload_n 0), o0 (.iload 7), oI (.iconst 1) 1] (by decide +kernel) (show tWG K B 0 0 S I14 J15 96 [some (vR 61), some (vI v1), some (vI v2), some (vI v3), some (vI v4), some (vI v5), none, some (vI v7), none] [vI 1, vI v7, vR 61, vI (if 0 ≤ x16 then x16 else (-x16)), vI v6] from ?_)
      refine gCVi_p hO (M12_ofBend t0 h.1) hc12_ofBend (idx := 240) (w := 356) (by decide +kernel) hR (by omega) t0 ⟨by decide, rfl⟩ (vs := [vI v7, vI 1]) (st := [vI (if 0 ≤ x16 then x16 else (-x16)), vI v6]) ⟨rfl, Nat.le_of_ble_eq_true rfl, rfl⟩ (by decide +kernel) ?_
      have h := h.2
      refine gBk (pe := 58) hO [o0 .imul, o0 .iadd, o0 (.istore 6), oI (.iinc 7 1) 1, o0 (.goto (-48))] (by decide +kernel) (And.intro (Nat.le_of_ble_eq_true rfl) (show tWG K B 0 0 S I14 J15 58 [some (vR 61), some (vI v1), some (vI v2), some (vI v3), some (vI v4), some (vI v5), some (vI (v6 + ((if 0 ≤ x16 then x16 else (-x16)) * (V12_ofBend S I14 J15 v7 1)))), some (vI (v7 + 1)), none] [] from ?_))
      exact hkb58 _ _ _ _ _ _ _ _ _ h
    refine gIfGe hO (off := 9) (tgt := 90) (by decide +kernel) (by decide) (fun c19 => ?_) (fun c19 => ?_)
    · refine gBk (pe := 92) hO [o0 (.iload 8)] (by decide +kernel) (show tWG K B 0 0 S I14 J15 92 [some (vR 61), some (vI v1), some (vI v2), some (vI v3), some (vI v4), some (vI v5), some (vI v6), some (vI v7), some (vI x16)] [vI x16, vI v6] from ?_)
      exact gWeak (L' := [some (vR 61), some (vI v1), some (vI v2), some (vI v3), some (vI v4), some (vI v5), none, some (vI v7), none]) ⟨rfl, rfl, rfl, rfl, rfl, rfl, rfl, trivial⟩ (hj17 _ (Eq.symm (if_pos c19)))
    · refine gBk (pe := 92) hO [o0 (.iload 8), o0 .ineg, o0 (.goto 5)] (by decide +kernel) (show tWG K B 0 0 S I14 J15 92 [some (vR 61), some (vI v1), some (vI v2), some (vI v3), some (vI v4), some (vI v5), some (vI v6), some (vI v7), some (vI x16)] [vI (-x16), vI v6] from ?_)
      exact gWeak (L' := [some (vR 61), some (vI v1), some (vI v2), some (vI v3), some (vI v4), some (vI v5), none, some (vI v7), none]) ⟨rfl, rfl, rfl, rfl, rfl, rfl, rfl, trivial⟩ (hj17 _ (Eq.symm (if_neg c19)))
theorem W12_setting_L58 {K : tK} {B : tB} {S : tSH} {MC MS : Nat} (hO : tKO K B RX12 cX12_setting 9) (hR : kR K = tRm 8 MC MS) (hG : tGr S) {n : Nat} (t0 : ty S 61 12) {k : Int32 → tHI → tHJ → Prop} (hQ : tRet K B (tQi B (tPi S k)) 0 0 (some .int)) {kb36 : tHI → tHJ → Int32 → Int32 → Int32 → Int32 → Int32 → Prop} (hkb36 : ∀ (I : tHI) (J : tHJ) (v1 : Int32) (v2 : Int32) (v3 : Int32) (v4 : Int32) (v5 : Int32), kb36 I J v1 v2 v3 v4 v5 → tWG K B 0 0 S I J 36 [some (vR 61), some (vI v1), some (vI v2), some (vI v3), some (vI v4), some (vI v5), none, none, none] []) : ∀ (f : Nat) (I : tHI) (J : tHJ) (v1 : Int32) (v2 : Int32) (v3 : Int32) (v4 : Int32) (v5 : Int32) (v6 : Int32) (v7 : Int32), F12_setting_L58 n S k kb36 f I J v1 v2 v3 v4 v5 v6 v7 → tWG K B 0 0 S I J 58 [some (vR 61), some (vI v1), some (vI v2), some (vI v3), some (vI v4), some (vI v5), some (vI v6), some (vI v7), none] [] := by
  intro f
  induction f with
  | zero => intro I J v1 v2 v3 v4 v5 v6 v7 h; exact h.elim
  | succ f ih => intro I J v1 v2 v3 v4 v5 v6 v7 h; exact W12_setting_58 hO hR hG t0 hQ hkb36 ih h
set_option maxRecDepth 100000 in
theorem W12_setting_36 {K : tK} {B : tB} {S : tSH} {MC MS : Nat} (hO : tKO K B RX12 cX12_setting 9) (hR : kR K = tRm 8 MC MS) (hG : tGr S) {n : Nat} (t0 : ty S 61 12) {k : Int32 → tHI → tHJ → Prop} (hQ : tRet K B (tQi B (tPi S k)) 0 0 (some .int)) {kb36 : tHI → tHJ → Int32 → Int32 → Int32 → Int32 → Int32 → Prop} (hkb36 : ∀ (I : tHI) (J : tHJ) (v1 : Int32) (v2 : Int32) (v3 : Int32) (v4 : Int32) (v5 : Int32), kb36 I J v1 v2 v3 v4 v5 → tWG K B 0 0 S I J 36 [some (vR 61), some (vI v1), some (vI v2), some (vI v3), some (vI v4), some (vI v5), none, none, none] []) {I : tHI} {J : tHJ} {v1 : Int32} {v2 : Int32} {v3 : Int32} {v4 : Int32} {v5 : Int32} (h : F12_setting_36 n S k kb36 I J v1 v2 v3 v4 v5) : tWG K B 0 0 S I J 36 [some (vR 61), some (vI v1), some (vI v2), some (vI v3), some (vI v4), some (vI v5), none, none, none] [] := by
  refine gBk (pe := 40) hO [o0 (.iload 5), oI (.bipush 10) 10] (by decide +kernel) (show tWG K B 0 0 S I J 40 [some (vR 61), some (vI v1), some (vI v2), some (vI v3), some (vI v4), some (vI v5), none, none, none] [vI 10, vI v5] from ?_)
  refine gIcGe hO (off := 103) (tgt := 143) (by decide +kernel) (by decide) (fun c3 => ?_) (fun c3 => ?_)
  · have h := h.1 c3
    refine gBk (pe := 152) hO [o0 (.aload_n 0), oF (.getfield 13) 12 3 179 63, oI (.bipush 8) 8, o0 (.iload_n 2), o0 .iastore, o0 (.iload_n 1)] (by decide +kernel) (And.intro t0 (And.intro rfl (And.intro (tGr.off hG t0 (k := 3) rfl) (And.intro (tin (tGr.len hG t0 (k := 3) rfl (by decide)) (tvi (by decide +kernel))) (show tWG K B 0 0 S (uI I 63 8 v2) J 152 [some (vR 61), some (vI v1), some (vI v2), some (vI v3), some (vI v4), some (vI v5), none, none, none] [vI v1] from ?_)))))
    have hj4 : ∀ (m5 : Int32), m5 = (if v1 = 0 then (v4 + 9) else v3) → tWG K B 0 0 S (uI I 63 8 v2) J 164 [none, none, none, none, none, none, none, none, none] [vI m5] := by
      intro m5 em5
      subst em5
      exact gIret hO hQ (by decide +kernel) ⟨rfl, h⟩
    refine gIfNe hO (off := 11) (tgt := 163) (by decide +kernel) (by decide) (fun c6 => ?_) (fun c6 => ?_)
    · refine gBk (pe := 164) hO [o0 (.iload_n 3)] (by decide +kernel) (show tWG K B 0 0 S (uI I 63 8 v2) J 164 [some (vR 61), some (vI v1), some (vI v2), some (vI v3), some (vI v4), some (vI v5), none, none, none] [vI v3] from ?_)
      exact gWeak (L' := [none, none, none, none, none, none, none, none, none]) trivial (hj4 _ (Eq.symm (if_neg c6)))
    · refine gBk (pe := 164) hO [o0 (.iload 4), oI (.bipush 9) 9, o0 .iadd, o0 (.goto 4)] (by decide +kernel) (show tWG K B 0 0 S (uI I 63 8 v2) J 164 [some (vR 61), some (vI v1), some (vI v2), some (vI v3), some (vI v4), some (vI v5), none, none, none] [vI (v4 + 9)] from ?_)
      exact gWeak (L' := [none, none, none, none, none, none, none, none, none]) trivial (hj4 _ (Eq.symm (if_pos c6)))
  · have h := h.2 c3
    refine gBk (pe := 58) hO [o0 (.aload_n 0), oF (.getfield 13) 12 3 179 63, oI (.bipush 8) 8, o0 (.iload 5), o0 .iastore, oI (.iconst 0) 0, o0 (.istore 6), oI (.iconst 0) 0, o0 (.istore 7)] (by decide +kernel) (And.intro t0 (And.intro rfl (And.intro (tGr.off hG t0 (k := 3) rfl) (And.intro (tin (tGr.len hG t0 (k := 3) rfl (by decide)) (tvi (by decide +kernel))) (And.intro (Nat.le_of_ble_eq_true rfl) (And.intro (Nat.le_of_ble_eq_true rfl) (show tWG K B 0 0 S (uI I 63 8 v5) J 58 [some (vR 61), some (vI v1), some (vI v2), some (vI v3), some (vI v4), some (vI v5), some (vI 0), some (vI 0), none] [] from ?_)))))))
    exact W12_setting_L58 hO hR hG t0 hQ hkb36 n _ _ _ _ _ _ _ _ _ h
theorem W12_setting_L36 {K : tK} {B : tB} {S : tSH} {MC MS : Nat} (hO : tKO K B RX12 cX12_setting 9) (hR : kR K = tRm 8 MC MS) (hG : tGr S) {n : Nat} (t0 : ty S 61 12) {k : Int32 → tHI → tHJ → Prop} (hQ : tRet K B (tQi B (tPi S k)) 0 0 (some .int)) : ∀ (f : Nat) (I : tHI) (J : tHJ) (v1 : Int32) (v2 : Int32) (v3 : Int32) (v4 : Int32) (v5 : Int32), F12_setting_L36 n S k f I J v1 v2 v3 v4 v5 → tWG K B 0 0 S I J 36 [some (vR 61), some (vI v1), some (vI v2), some (vI v3), some (vI v4), some (vI v5), none, none, none] [] := by
  intro f
  induction f with
  | zero => intro I J v1 v2 v3 v4 v5 h; exact h.elim
  | succ f ih => intro I J v1 v2 v3 v4 v5 h; exact W12_setting_36 hO hR hG t0 hQ ih h
set_option maxRecDepth 20000 in
theorem hc12_setting : tCV yX12_setting cX12_setting 9 (some .int) 1 := ⟨⟨(List.mem_of_getElem? (i := 1343) rfl), (List.mem_of_getElem? (i := 5) (by decide +kernel)), by decide +kernel⟩, (List.mem_of_getElem? (i := 1341) (by decide +kernel)), (List.mem_of_getElem? (i := 1342) (by decide +kernel))⟩
set_option maxRecDepth 100000 in
theorem M12_setting {l : Launch} {B : tB} {S : tSH} {I : tHI} {J : tHJ} {v1 : Int32} {n : Nat} {k : Int32 → tHI → tHJ → Prop} (t0 : ty S 61 12) (h : F12_setting n S I J v1 k) : Met l yX12_setting (tWs yX12_setting cX12_setting 9 (some .int)) (tRm 8 0 0) (tPc B [vR 61, vI v1] S I J) (tQi B (tPi S k)) 0 0 (tA B) :=
  tEntry (by decide +kernel) [some (vR 61), some (vI v1), none, none, none, none, none, none, none] rfl rfl (Nat.le_of_ble_eq_true rfl) (fun K hl hR hO hQ hG => by
  subst hl
  refine gBk (pe := 9) hO [o0 (.aload_n 0), oI (.iconst 0) 0, oF (.putfield 161) 12 0 316 0, o0 (.iload_n 1), o0 .i2l, oJ (.lconst 0) 0 0, oJ (.lconst 1) 0 1] (by decide +kernel) (And.intro t0 (show tWG K B 0 0 S (uI I 61 0 0) J 9 [some (vR 61), some (vI v1), none, none, none, none, none, none, none] [vL 1, vL 0, vL v1.toInt64] from ?_))
  refine gCSi_z hO (M12_in) hc12_in (idx := 181) (w := 319) (by decide +kernel) hR (by omega) (vs := [vL v1.toInt64, vL 0, vL 1]) (st := []) ⟨rfl, Nat.le_of_ble_eq_true rfl, rfl⟩ (by decide +kernel) (fun z1 => ?_)
  refine gIfNe hO (off := 5) (tgt := 17) (by decide +kernel) (by decide) (fun c2 => ?_) (fun c2 => ?_)
  · have h := h.1 c2
    refine gBk (pe := 25) hO [o0 (.aload_n 0), oF (.getfield 13) 12 3 179 63, oI (.bipush 8) 8, o0 .iaload, o0 (.istore_n 2)] (by decide +kernel) (And.intro t0 (And.intro rfl (And.intro (tGr.off hG t0 (k := 3) rfl) (And.intro (tin (tGr.len hG t0 (k := 3) rfl (by decide)) (tvi (by decide +kernel))) (And.intro (Nat.le_of_ble_eq_true rfl) (show tWG K B 0 0 S (uI I 61 0 0) J 25 [some (vR 61), some (vI v1), some (vI ((uI I 61 0 0) 63 8)), none, none, none, none, none, none] [] from ?_))))))
    refine gBk (pe := 36) hO [(.ldc_w 467, (0, 0, 490, 0), 100000000, 0), o0 (.istore_n 3), oI (.iconst 0) 0, o0 (.istore 4), oI (.bipush (-9)) (-9), o0 (.istore 5)] (by decide +kernel) (And.intro (Nat.le_of_ble_eq_true rfl) (And.intro (Nat.le_of_ble_eq_true rfl) (And.intro (Nat.le_of_ble_eq_true rfl) (show tWG K B 0 0 S (uI I 61 0 0) J 36 [some (vR 61), some (vI v1), some (vI ((uI I 61 0 0) 63 8)), some (vI 100000000), some (vI 0), some (vI (-9)), none, none, none] [] from ?_))))
    exact W12_setting_L36 hO hR hG t0 hQ n _ _ _ _ _ _ _ h
  · have h := h.2 c2
    refine gBk (pe := 16) hO [oI (.iconst (-1)) (-1)] (by decide +kernel) (show tWG K B 0 0 S (uI I 61 0 0) J 16 [some (vR 61), some (vI v1), none, none, none, none, none, none, none] [vI (-1)] from ?_)
    exact gIret hO hQ (by decide +kernel) ⟨rfl, h⟩)
set_option maxRecDepth 20000 in
theorem hc12_learn : tCV yX12_learn cX12_learn 2 none 1 := ⟨⟨(List.mem_of_getElem? (i := 1061) rfl), (List.mem_of_getElem? (i := 5) (by decide +kernel)), by decide +kernel⟩, (List.mem_of_getElem? (i := 1059) (by decide +kernel)), (List.mem_of_getElem? (i := 1060) (by decide +kernel))⟩
set_option maxRecDepth 100000 in
theorem M12_learn {l : Launch} {B : tB} {S : tSH} {I : tHI} {J : tHJ} {v1 : Int32} {n : Nat} {k : tHI → tHJ → Prop} (t0 : ty S 61 12) (h : F12_learn n S I J v1 k) : Met l yX12_learn (tWs yX12_learn cX12_learn 2 none) (tRm 8 0 0) (tPc B [vR 61, vI v1] S I J) (tQv B (tPv S k)) 0 0 (tA B) :=
  tEntry (by decide +kernel) [some (vR 61), some (vI v1)] rfl rfl (Nat.le_of_ble_eq_true rfl) (fun K hl hR hO hQ hG => by
  subst hl
  refine gBk (pe := 15) hO [o0 (.aload_n 0), oF (.getfield 13) 12 3 179 63, oI (.bipush 13) 13, o0 (.aload_n 0), oF (.getfield 13) 12 3 179 63, oI (.bipush 13) 13, o0 .iaload, o0 (.aload_n 0), o0 (.iload_n 1)] (by decide +kernel) (And.intro t0 (And.intro rfl (And.intro t0 (And.intro rfl (And.intro (tGr.off hG t0 (k := 3) rfl) (And.intro (tin (tGr.len hG t0 (k := 3) rfl (by decide)) (tvi (by decide +kernel))) (show tWG K B 0 0 S I J 15 [some (vR 61), some (vI v1)] [vI v1, vR 61, vI (I 63 13), vI 13, vR 63] from ?_)))))))
  refine gCVi_c hO (M12_learnsOf t0 h) hc12_learnsOf (idx := 237) (w := 522) (by decide +kernel) hR (by omega) t0 ⟨by decide, rfl⟩ (vs := [vI v1]) (st := [vI (I 63 13), vI 13, vR 63]) ⟨rfl, Nat.le_of_ble_eq_true rfl, rfl⟩ (by decide +kernel) (fun x3 I1 J2 h => ?_)
  refine gBk (pe := 23) hO [o0 .iadd, o0 .i2l, oI (.iconst 0) 0, oI (.bipush 100) 100] (by decide +kernel) (show tWG K B 0 0 S I1 J2 23 [some (vR 61), some (vI v1)] [vI 100, vI 0, vL (((I 63 13) + x3).toInt64), vI 13, vR 63] from ?_)
  refine gCSi_p hO (M12_within) hc12_within (idx := 468) (w := 504) (by decide +kernel) hR (by omega) (vs := [vL (((I 63 13) + x3).toInt64), vI 0, vI 100]) (st := [vI 13, vR 63]) ⟨rfl, Nat.le_of_ble_eq_true rfl, rfl⟩ (by decide +kernel) ?_
  refine gBk (pe := 27) hO [o0 .iastore] (by decide +kernel) (And.intro (tGr.off hG t0 (k := 3) rfl) (And.intro (tin (tGr.len hG t0 (k := 3) rfl (by decide)) (tvi (by decide +kernel))) (show tWG K B 0 0 S (uI I1 63 13 (V12_within (((I 63 13) + x3).toInt64) 0 100)) J2 27 [some (vR 61), some (vI v1)] [] from ?_)))
  exact gVret hO hQ (by decide +kernel) ⟨rfl, h⟩)
set_option maxRecDepth 100000 in
theorem W12_learning_72 {K : tK} {B : tB} {S : tSH} {MC MS : Nat} (hO : tKO K B RX12 cX12_learning 3) (hR : kR K = tRm 9 MC MS) (hG : tGr S) {n : Nat} (t0 : ty S 61 12) {k : Int32 → tHI → tHJ → Prop} (hQ : tRet K B (tQi B (tPi S k)) 0 0 (some .int)) {I : tHI} {J : tHJ} {v1 : Int32} (h : F12_learning_72 n S k I J v1) : tWG K B 0 0 S I J 72 [some (vR 61), some (vI v1), none] [] := by
  refine gBk (pe := 75) hO [o0 (.aload_n 0), oI (.bipush 16) 16] (by decide +kernel) (show tWG K B 0 0 S I J 75 [some (vR 61), some (vI v1), none] [vI 16, vR 61] from ?_)
  refine gCVv_c hO (M12_putBack t0 h) hc12_putBack (idx := 178) (w := 1066) (by decide +kernel) hR (by omega) t0 ⟨by decide, rfl⟩ (vs := [vI 16]) (st := []) ⟨rfl, Nat.le_of_ble_eq_true rfl, rfl⟩ (by decide +kernel) (fun I5 J6 h => ?_)
  refine gBk (pe := 82) hO [o0 (.iload_n 1), oI (.sipush 1000) 1000] (by decide +kernel) (show tWG K B 0 0 S I5 J6 82 [some (vR 61), some (vI v1), none] [vI 1000, vI v1] from ?_)
  have hj7 : ∀ (m8 : Int32), m8 = (if v1 = 1000 then (-1) else v1) → tWG K B 0 0 S I5 J6 90 [none, none, none] [vI m8] := by
    intro m8 em8
    subst em8
    exact gIret hO hQ (by decide +kernel) ⟨rfl, h⟩
  refine gIcNe hO (off := 7) (tgt := 89) (by decide +kernel) (by decide) (fun c9 => ?_) (fun c9 => ?_)
  · refine gBk (pe := 90) hO [o0 (.iload_n 1)] (by decide +kernel) (show tWG K B 0 0 S I5 J6 90 [some (vR 61), some (vI v1), none] [vI v1] from ?_)
    exact gWeak (L' := [none, none, none]) trivial (hj7 _ (Eq.symm (if_neg c9)))
  · refine gBk (pe := 90) hO [oI (.iconst (-1)) (-1), o0 (.goto 4)] (by decide +kernel) (show tWG K B 0 0 S I5 J6 90 [some (vR 61), some (vI v1), none] [vI (-1)] from ?_)
    exact gWeak (L' := [none, none, none]) trivial (hj7 _ (Eq.symm (if_pos c9)))
set_option maxRecDepth 100000 in
theorem W12_learning_45 {K : tK} {B : tB} {S : tSH} {MC MS : Nat} (hO : tKO K B RX12 cX12_learning 3) (hR : kR K = tRm 9 MC MS) (hG : tGr S) {n : Nat} (t0 : ty S 61 12) {k : Int32 → tHI → tHJ → Prop} (hQ : tRet K B (tQi B (tPi S k)) 0 0 (some .int)) {kb24 : tHI → tHJ → Int32 → Prop} (hkb24 : ∀ (I : tHI) (J : tHJ) (v1 : Int32), kb24 I J v1 → tWG K B 0 0 S I J 24 [some (vR 61), some (vI v1), none] []) {kb45 : tHI → tHJ → Int32 → Int32 → Prop} (hkb45 : ∀ (I : tHI) (J : tHJ) (v1 : Int32) (v2 : Int32), kb45 I J v1 v2 → tWG K B 0 0 S I J 45 [some (vR 61), some (vI v1), some (vI v2)] []) {I : tHI} {J : tHJ} {v1 : Int32} {v2 : Int32} (h : F12_learning_45 n S k kb24 kb45 I J v1 v2) : tWG K B 0 0 S I J 45 [some (vR 61), some (vI v1), some (vI v2)] [] := by
  refine gBk (pe := 52) hO [o0 (.iload_n 2), o0 (.aload_n 0), oF (.getfield 13) 12 3 179 63, oI (.iconst 1) 1, o0 .iaload] (by decide +kernel) (And.intro t0 (And.intro rfl (And.intro (tGr.off hG t0 (k := 3) rfl) (And.intro (tin (tGr.len hG t0 (k := 3) rfl (by decide)) (tvi (by decide +kernel))) (show tWG K B 0 0 S I J 52 [some (vR 61), some (vI v1), some (vI v2)] [vI (I 63 1), vI v2] from ?_)))))
  refine gIcGe hO (off := 14) (tgt := 66) (by decide +kernel) (by decide) (fun c11 => ?_) (fun c11 => ?_)
  · have h := h.1 c11
    refine gBk (pe := 24) hO [oI (.iinc 1 1) 1, o0 (.goto (-45))] (by decide +kernel) (show tWG K B 0 0 S I J 24 [some (vR 61), some (vI (v1 + 1)), some (vI v2)] [] from ?_)
    exact gWeak (L' := [some (vR 61), some (vI (v1 + 1)), none]) ⟨rfl, rfl, trivial⟩ (hkb24 _ _ _ h)
  · have h := h.2 c11
    refine gBk (pe := 57) hO [o0 (.aload_n 0), o0 (.iload_n 2)] (by decide +kernel) (show tWG K B 0 0 S I J 57 [some (vR 61), some (vI v1), some (vI v2)] [vI v2, vR 61] from ?_)
    refine gCVv_c hO (M12_learn t0 h) hc12_learn (idx := 512) (w := 1058) (by decide +kernel) hR (by omega) t0 ⟨by decide, rfl⟩ (vs := [vI v2]) (st := []) ⟨rfl, Nat.le_of_ble_eq_true rfl, rfl⟩ (by decide +kernel) (fun I12 J13 h => ?_)
    refine gBk (pe := 45) hO [oI (.iinc 2 1) 1, o0 (.goto (-18))] (by decide +kernel) (show tWG K B 0 0 S I12 J13 45 [some (vR 61), some (vI v1), some (vI (v2 + 1))] [] from ?_)
    exact hkb45 _ _ _ _ h
theorem W12_learning_L45 {K : tK} {B : tB} {S : tSH} {MC MS : Nat} (hO : tKO K B RX12 cX12_learning 3) (hR : kR K = tRm 9 MC MS) (hG : tGr S) {n : Nat} (t0 : ty S 61 12) {k : Int32 → tHI → tHJ → Prop} (hQ : tRet K B (tQi B (tPi S k)) 0 0 (some .int)) {kb24 : tHI → tHJ → Int32 → Prop} (hkb24 : ∀ (I : tHI) (J : tHJ) (v1 : Int32), kb24 I J v1 → tWG K B 0 0 S I J 24 [some (vR 61), some (vI v1), none] []) : ∀ (f : Nat) (I : tHI) (J : tHJ) (v1 : Int32) (v2 : Int32), F12_learning_L45 n S k kb24 f I J v1 v2 → tWG K B 0 0 S I J 45 [some (vR 61), some (vI v1), some (vI v2)] [] := by
  intro f
  induction f with
  | zero => intro I J v1 v2 h; exact h.elim
  | succ f ih => intro I J v1 v2 h; exact W12_learning_45 hO hR hG t0 hQ hkb24 ih h
set_option maxRecDepth 100000 in
theorem W12_learning_24 {K : tK} {B : tB} {S : tSH} {MC MS : Nat} (hO : tKO K B RX12 cX12_learning 3) (hR : kR K = tRm 9 MC MS) (hG : tGr S) {n : Nat} (t0 : ty S 61 12) {k : Int32 → tHI → tHJ → Prop} (hQ : tRet K B (tQi B (tPi S k)) 0 0 (some .int)) {kb24 : tHI → tHJ → Int32 → Prop} (hkb24 : ∀ (I : tHI) (J : tHJ) (v1 : Int32), kb24 I J v1 → tWG K B 0 0 S I J 24 [some (vR 61), some (vI v1), none] []) {I : tHI} {J : tHJ} {v1 : Int32} (h : F12_learning_24 n S k kb24 I J v1) : tWG K B 0 0 S I J 24 [some (vR 61), some (vI v1), none] [] := by
  refine gBk (pe := 33) hO [o0 (.aload_n 0), oF (.getfield 13) 12 3 179 63, oI (.bipush 13) 13, o0 .iaload, oI (.bipush 100) 100] (by decide +kernel) (And.intro t0 (And.intro rfl (And.intro (tGr.off hG t0 (k := 3) rfl) (And.intro (tin (tGr.len hG t0 (k := 3) rfl (by decide)) (tvi (by decide +kernel))) (show tWG K B 0 0 S I J 33 [some (vR 61), some (vI v1), none] [vI 100, vI (I 63 13)] from ?_)))))
  refine gIcGe hO (off := 39) (tgt := 72) (by decide +kernel) (by decide) (fun c4 => ?_) (fun c4 => ?_)
  · have h := h.1 c4
    exact W12_learning_72 hO hR hG t0 hQ h
  · have h := h.2 c4
    refine gBk (pe := 40) hO [o0 (.iload_n 1), oI (.sipush 1000) 1000] (by decide +kernel) (show tWG K B 0 0 S I J 40 [some (vR 61), some (vI v1), none] [vI 1000, vI v1] from ?_)
    refine gIcGe hO (off := 32) (tgt := 72) (by decide +kernel) (by decide) (fun c10 => ?_) (fun c10 => ?_)
    · have h := h.1 c10
      exact W12_learning_72 hO hR hG t0 hQ h
    · have h := h.2 c10
      refine gBk (pe := 45) hO [oI (.iconst 0) 0, o0 (.istore_n 2)] (by decide +kernel) (And.intro (Nat.le_of_ble_eq_true rfl) (show tWG K B 0 0 S I J 45 [some (vR 61), some (vI v1), some (vI 0)] [] from ?_))
      exact W12_learning_L45 hO hR hG t0 hQ hkb24 n _ _ _ _ h
theorem W12_learning_L24 {K : tK} {B : tB} {S : tSH} {MC MS : Nat} (hO : tKO K B RX12 cX12_learning 3) (hR : kR K = tRm 9 MC MS) (hG : tGr S) {n : Nat} (t0 : ty S 61 12) {k : Int32 → tHI → tHJ → Prop} (hQ : tRet K B (tQi B (tPi S k)) 0 0 (some .int)) : ∀ (f : Nat) (I : tHI) (J : tHJ) (v1 : Int32), F12_learning_L24 n S k f I J v1 → tWG K B 0 0 S I J 24 [some (vR 61), some (vI v1), none] [] := by
  intro f
  induction f with
  | zero => intro I J v1 h; exact h.elim
  | succ f ih => intro I J v1 h; exact W12_learning_24 hO hR hG t0 hQ ih h
set_option maxRecDepth 20000 in
theorem hc12_learning : tCV yX12_learning cX12_learning 3 (some .int) 0 := ⟨⟨(List.mem_of_getElem? (i := 1356) rfl), (List.mem_of_getElem? (i := 5) (by decide +kernel)), by decide +kernel⟩, (List.mem_of_getElem? (i := 1354) (by decide +kernel)), (List.mem_of_getElem? (i := 1355) (by decide +kernel))⟩
set_option maxRecDepth 100000 in
theorem M12_learning {l : Launch} {B : tB} {S : tSH} {I : tHI} {J : tHJ} {n : Nat} {k : Int32 → tHI → tHJ → Prop} (t0 : ty S 61 12) (h : F12_learning n S I J k) : Met l yX12_learning (tWs yX12_learning cX12_learning 3 (some .int)) (tRm 9 0 0) (tPc B [vR 61] S I J) (tQi B (tPi S k)) 0 0 (tA B) :=
  tEntry (by decide +kernel) [some (vR 61), none, none] rfl rfl (Nat.le_of_ble_eq_true rfl) (fun K hl hR hO hQ hG => by
  subst hl
  refine gBk (pe := 11) hO [o0 (.aload_n 0), oI (.iconst 0) 0, oF (.putfield 161) 12 0 316 0, o0 (.aload_n 0), oF (.getfield 13) 12 3 179 63, oI (.iconst 1) 1, o0 .iaload] (by decide +kernel) (And.intro t0 (And.intro t0 (And.intro rfl (And.intro (tGr.off hG t0 (k := 3) rfl) (And.intro (tin (tGr.len hG t0 (k := 3) rfl (by decide)) (tvi (by decide +kernel))) (show tWG K B 0 0 S (uI I 61 0 0) J 11 [some (vR 61), none, none] [vI ((uI I 61 0 0) 63 1)] from ?_))))))
  refine gIfNe hO (off := 5) (tgt := 16) (by decide +kernel) (by decide) (fun c1 => ?_) (fun c1 => ?_)
  · have h := h.1 c1
    refine gBk (pe := 19) hO [o0 (.aload_n 0), oI (.bipush 16) 16] (by decide +kernel) (show tWG K B 0 0 S (uI I 61 0 0) J 19 [some (vR 61), none, none] [vI 16, vR 61] from ?_)
    refine gCVv_c hO (M12_keepAll t0 h) hc12_keepAll (idx := 174) (w := 997) (by decide +kernel) hR (by omega) t0 ⟨by decide, rfl⟩ (vs := [vI 16]) (st := []) ⟨rfl, Nat.le_of_ble_eq_true rfl, rfl⟩ (by decide +kernel) (fun I2 J3 h => ?_)
    refine gBk (pe := 24) hO [oI (.iconst 0) 0, o0 (.istore_n 1)] (by decide +kernel) (And.intro (Nat.le_of_ble_eq_true rfl) (show tWG K B 0 0 S I2 J3 24 [some (vR 61), some (vI 0), none] [] from ?_))
    exact W12_learning_L24 hO hR hG t0 hQ n _ _ _ h
  · have h := h.2 c1
    refine gBk (pe := 15) hO [oI (.iconst (-1)) (-1)] (by decide +kernel) (show tWG K B 0 0 S (uI I 61 0 0) J 15 [some (vR 61), none, none] [vI (-1)] from ?_)
    exact gIret hO hQ (by decide +kernel) ⟨rfl, h⟩)
set_option maxRecDepth 100000 in
theorem W12_sight_27 {K : tK} {B : tB} {S : tSH} {MC MS : Nat} (hO : tKO K B RX12 cX12_sight 5) (hR : kR K = tRm 4 MC MS) (hG : tGr S) {n : Nat} (t0 : ty S 61 12) {k : Int32 → tHI → tHJ → Prop} (hQ : tRet K B (tQi B (tPi S k)) 0 0 (some .int)) {I : tHI} {J : tHJ} (h : F12_sight_27 n S k I J) : tWG K B 0 0 S I J 27 [some (vR 61), none, none, none, none] [] := by
  refine gBk (pe := 29) hO [o0 (.aload_n 0), oI (.iconst (-1)) (-1)] (by decide +kernel) (show tWG K B 0 0 S I J 29 [some (vR 61), none, none, none, none] [vI (-1), vR 61] from ?_)
  refine gCVi_c hO (M12_tell t0 h) hc12_tell (idx := 170) (w := 322) (by decide +kernel) hR (by omega) t0 ⟨by decide, rfl⟩ (vs := [vI (-1)]) (st := []) ⟨rfl, Nat.le_of_ble_eq_true rfl, rfl⟩ (by decide +kernel) (fun x5 I3 J4 h => ?_)
  exact gIret hO hQ (by decide +kernel) ⟨rfl, h⟩
set_option maxRecDepth 20000 in
theorem hc12_sight : tCV yX12_sight cX12_sight 5 (some .int) 3 := ⟨⟨(List.mem_of_getElem? (i := 1368) rfl), (List.mem_of_getElem? (i := 5) (by decide +kernel)), by decide +kernel⟩, (List.mem_of_getElem? (i := 1366) (by decide +kernel)), (List.mem_of_getElem? (i := 1367) (by decide +kernel))⟩
set_option maxRecDepth 100000 in
theorem M12_sight {l : Launch} {B : tB} {S : tSH} {I : tHI} {J : tHJ} {v1 : Int32} {v2 : Int32} {v3 : Int32} {n : Nat} {k : Int32 → tHI → tHJ → Prop} (t0 : ty S 61 12) (h : F12_sight n S I J v1 v2 v3 k) : Met l yX12_sight (tWs yX12_sight cX12_sight 5 (some .int)) (tRm 4 0 0) (tPc B [vR 61, vI v1, vI v2, vI v3] S I J) (tQi B (tPi S k)) 0 0 (tA B) :=
  tEntry (by decide +kernel) [some (vR 61), some (vI v1), some (vI v2), some (vI v3), none] rfl rfl (Nat.le_of_ble_eq_true rfl) (fun K hl hR hO hQ hG => by
  subst hl
  refine gBk (pe := 8) hO [o0 (.aload_n 0), oI (.iconst 0) 0, oF (.putfield 161) 12 0 316 0, o0 (.iload_n 2), o0 .i2l, oJ (.lconst 1) 0 1] (by decide +kernel) (And.intro t0 (show tWG K B 0 0 S (uI I 61 0 0) J 8 [some (vR 61), some (vI v1), some (vI v2), some (vI v3), none] [vL 1, vL v2.toInt64] from ?_))
  refine gBk (pe := 11) hO [(.ldc2_w 247, (0, 0, 517, 0), 0, 60)] (by decide +kernel) (show tWG K B 0 0 S (uI I 61 0 0) J 11 [some (vR 61), some (vI v1), some (vI v2), some (vI v3), none] [vL 60, vL 1, vL v2.toInt64] from ?_)
  refine gCSi_z hO (M12_in) hc12_in (idx := 181) (w := 319) (by decide +kernel) hR (by omega) (vs := [vL v2.toInt64, vL 1, vL 60]) (st := []) ⟨rfl, Nat.le_of_ble_eq_true rfl, rfl⟩ (by decide +kernel) (fun z1 => ?_)
  refine gIfEq hO (off := 13) (tgt := 27) (by decide +kernel) (by decide) (fun c2 => ?_) (fun c2 => ?_)
  · have h := h.1 c2
    exact gWeak (L' := [some (vR 61), none, none, none, none]) ⟨rfl, trivial⟩ (W12_sight_27 hO hR hG t0 hQ h)
  · have h := h.2 c2
    refine gBk (pe := 21) hO [o0 (.iload_n 3), o0 .i2l, oJ (.lconst 0) 0 0, oJ (.lconst 1) 0 1] (by decide +kernel) (show tWG K B 0 0 S (uI I 61 0 0) J 21 [some (vR 61), some (vI v1), some (vI v2), some (vI v3), none] [vL 1, vL 0, vL v3.toInt64] from ?_)
    refine gCSi_z hO (M12_in) hc12_in (idx := 181) (w := 319) (by decide +kernel) hR (by omega) (vs := [vL v3.toInt64, vL 0, vL 1]) (st := []) ⟨rfl, Nat.le_of_ble_eq_true rfl, rfl⟩ (by decide +kernel) (fun z6 => ?_)
    refine gIfNe hO (off := 9) (tgt := 33) (by decide +kernel) (by decide) (fun c7 => ?_) (fun c7 => ?_)
    · have h := h.1 c7
      refine gBk (pe := 35) hO [o0 (.aload_n 0), o0 (.iload_n 1)] (by decide +kernel) (show tWG K B 0 0 S (uI I 61 0 0) J 35 [some (vR 61), some (vI v1), some (vI v2), some (vI v3), none] [vI v1, vR 61] from ?_)
      refine gCVi_z hO (M12_isBend t0) hc12_isBend (idx := 220) (w := 352) (by decide +kernel) hR (by omega) t0 ⟨by decide, rfl⟩ (vs := [vI v1]) (st := []) ⟨rfl, Nat.le_of_ble_eq_true rfl, rfl⟩ (by decide +kernel) (fun z8 => ?_)
      refine gIfNe hO (off := 10) (tgt := 48) (by decide +kernel) (by decide) (fun c9 => ?_) (fun c9 => ?_)
      · have h := h.1 c9
        refine gBk (pe := 60) hO [o0 (.aload_n 0), oF (.getfield 13) 12 3 179 63, oI (.iconst 2) 2, o0 .iaload, o0 (.istore 4), o0 (.iload 4), oI (.bipush 8) 8] (by decide +kernel) (And.intro t0 (And.intro rfl (And.intro (tGr.off hG t0 (k := 3) rfl) (And.intro (tin (tGr.len hG t0 (k := 3) rfl (by decide)) (tvi (by decide +kernel))) (And.intro (Nat.le_of_ble_eq_true rfl) (show tWG K B 0 0 S (uI I 61 0 0) J 60 [some (vR 61), some (vI v1), some (vI v2), some (vI v3), some (vI ((uI I 61 0 0) 63 2))] [vI 8, vI ((uI I 61 0 0) 63 2)] from ?_))))))
        refine gIcNe hO (off := 10) (tgt := 70) (by decide +kernel) (by decide) (fun c10 => ?_) (fun c10 => ?_)
        · have h := h.1 c10
          refine gBk (pe := 128) hO [o0 (.aload_n 0), oF (.getfield 13) 12 3 179 63, oI (.bipush 86) 86, oI (.iconst 3) 3, o0 (.iload 4), o0 .imul, o0 .iadd, o0 (.iload_n 1), o0 .iastore, o0 (.aload_n 0), oF (.getfield 13) 12 3 179 63, oI (.bipush 86) 86, oI (.iconst 3) 3, o0 (.iload 4), o0 .imul, o0 .iadd, oI (.iconst 1) 1, o0 .iadd, o0 (.iload_n 2), o0 .iastore, o0 (.aload_n 0), oF (.getfield 13) 12 3 179 63, oI (.bipush 86) 86, oI (.iconst 3) 3, o0 (.iload 4), o0 .imul, o0 .iadd, oI (.iconst 2) 2, o0 .iadd, o0 (.iload_n 3), o0 .iastore, o0 (.aload_n 0), oF (.getfield 13) 12 3 179 63, oI (.iconst 2) 2, o0 .dup2, o0 .iaload, oI (.iconst 1) 1, o0 .iadd, o0 .iastore, o0 (.aload_n 0), o0 (.iload 4), oI (.iconst 1) 1, o0 .iadd] (by decide +kernel) (And.intro t0 (And.intro rfl (And.intro (tGr.off hG t0 (k := 3) rfl) (And.intro (tin (tGr.len hG t0 (k := 3) rfl (by decide)) h.1) (And.intro t0 (And.intro rfl (And.intro (tGr.off hG t0 (k := 3) rfl) (And.intro (tin (tGr.len hG t0 (k := 3) rfl (by decide)) h.2.1) (And.intro t0 (And.intro rfl (And.intro (tGr.off hG t0 (k := 3) rfl) (And.intro (tin (tGr.len hG t0 (k := 3) rfl (by decide)) h.2.2.1) (And.intro t0 (And.intro rfl (And.intro (tGr.off hG t0 (k := 3) rfl) (And.intro (tin (tGr.len hG t0 (k := 3) rfl (by decide)) (tvi (by decide +kernel))) (And.intro (tGr.off hG t0 (k := 3) rfl) (And.intro (tin (tGr.len hG t0 (k := 3) rfl (by decide)) (tvi (by decide +kernel))) (show tWG K B 0 0 S (uI (uI (uI (uI (uI I 61 0 0) 63 (86 + (3 * ((uI I 61 0 0) 63 2))).toNatClampNeg v1) 63 ((86 + (3 * ((uI I 61 0 0) 63 2))) + 1).toNatClampNeg v2) 63 ((86 + (3 * ((uI I 61 0 0) 63 2))) + 2).toNatClampNeg v3) 63 2 (((uI (uI (uI (uI I 61 0 0) 63 (86 + (3 * ((uI I 61 0 0) 63 2))).toNatClampNeg v1) 63 ((86 + (3 * ((uI I 61 0 0) 63 2))) + 1).toNatClampNeg v2) 63 ((86 + (3 * ((uI I 61 0 0) 63 2))) + 2).toNatClampNeg v3) 63 2) + 1)) J 128 [some (vR 61), some (vI v1), some (vI v2), some (vI v3), some (vI ((uI I 61 0 0) 63 2))] [vI (((uI I 61 0 0) 63 2) + 1), vR 61] from ?_)))))))))))))))))))
          have h := h.2.2.2
          refine gCVi_c hO (M12_tell t0 h) hc12_tell (idx := 170) (w := 322) (by decide +kernel) hR (by omega) t0 ⟨by decide, rfl⟩ (vs := [vI (((uI I 61 0 0) 63 2) + 1)]) (st := []) ⟨rfl, Nat.le_of_ble_eq_true rfl, rfl⟩ (by decide +kernel) (fun x13 I11 J12 h => ?_)
          exact gIret hO hQ (by decide +kernel) ⟨rfl, h⟩
        · have h := h.2 c10
          refine gBk (pe := 66) hO [o0 (.aload_n 0), oI (.bipush (-5)) (-5)] (by decide +kernel) (show tWG K B 0 0 S (uI I 61 0 0) J 66 [some (vR 61), some (vI v1), some (vI v2), some (vI v3), some (vI ((uI I 61 0 0) 63 2))] [vI (-5), vR 61] from ?_)
          refine gCVi_c hO (M12_tell t0 h) hc12_tell (idx := 170) (w := 322) (by decide +kernel) hR (by omega) t0 ⟨by decide, rfl⟩ (vs := [vI (-5)]) (st := []) ⟨rfl, Nat.le_of_ble_eq_true rfl, rfl⟩ (by decide +kernel) (fun x16 I14 J15 h => ?_)
          exact gIret hO hQ (by decide +kernel) ⟨rfl, h⟩
      · have h := h.2 c9
        refine gBk (pe := 44) hO [o0 (.aload_n 0), oI (.bipush (-2)) (-2)] (by decide +kernel) (show tWG K B 0 0 S (uI I 61 0 0) J 44 [some (vR 61), some (vI v1), some (vI v2), some (vI v3), none] [vI (-2), vR 61] from ?_)
        refine gCVi_c hO (M12_tell t0 h) hc12_tell (idx := 170) (w := 322) (by decide +kernel) hR (by omega) t0 ⟨by decide, rfl⟩ (vs := [vI (-2)]) (st := []) ⟨rfl, Nat.le_of_ble_eq_true rfl, rfl⟩ (by decide +kernel) (fun x19 I17 J18 h => ?_)
        exact gIret hO hQ (by decide +kernel) ⟨rfl, h⟩
    · have h := h.2 c7
      exact gWeak (L' := [some (vR 61), none, none, none, none]) ⟨rfl, trivial⟩ (W12_sight_27 hO hR hG t0 hQ h))
set_option maxRecDepth 20000 in
theorem hc12_forget : tCV yX12_forget cX12_forget 2 (some .int) 0 := ⟨⟨(List.mem_of_getElem? (i := 1376) rfl), (List.mem_of_getElem? (i := 5) (by decide +kernel)), by decide +kernel⟩, (List.mem_of_getElem? (i := 1374) (by decide +kernel)), (List.mem_of_getElem? (i := 1375) (by decide +kernel))⟩
set_option maxRecDepth 100000 in
theorem M12_forget {l : Launch} {B : tB} {S : tSH} {I : tHI} {J : tHJ} {n : Nat} {k : Int32 → tHI → tHJ → Prop} (t0 : ty S 61 12) (h : F12_forget n S I J k) : Met l yX12_forget (tWs yX12_forget cX12_forget 2 (some .int)) (tRm 2 0 0) (tPc B [vR 61] S I J) (tQi B (tPi S k)) 0 0 (tA B) :=
  tEntry (by decide +kernel) [some (vR 61), none] rfl rfl (Nat.le_of_ble_eq_true rfl) (fun K hl hR hO hQ hG => by
  subst hl
  refine gBk (pe := 20) hO [o0 (.aload_n 0), oI (.iconst 0) 0, oF (.putfield 161) 12 0 316 0, o0 (.aload_n 0), oF (.getfield 13) 12 3 179 63, oI (.iconst 2) 2, o0 .iaload, o0 (.istore_n 1), o0 (.aload_n 0), oF (.getfield 13) 12 3 179 63, oI (.iconst 2) 2, oI (.iconst 0) 0, o0 .iastore, o0 (.iload_n 1)] (by decide +kernel) (And.intro t0 (And.intro t0 (And.intro rfl (And.intro (tGr.off hG t0 (k := 3) rfl) (And.intro (tin (tGr.len hG t0 (k := 3) rfl (by decide)) (tvi (by decide +kernel))) (And.intro (Nat.le_of_ble_eq_true rfl) (And.intro t0 (And.intro rfl (And.intro (tGr.off hG t0 (k := 3) rfl) (And.intro (tin (tGr.len hG t0 (k := 3) rfl (by decide)) (tvi (by decide +kernel))) (show tWG K B 0 0 S (uI (uI I 61 0 0) 63 2 0) J 20 [some (vR 61), some (vI ((uI I 61 0 0) 63 2))] [vI ((uI I 61 0 0) 63 2)] from ?_)))))))))))
  exact gIret hO hQ (by decide +kernel) ⟨rfl, h⟩)
set_option maxRecDepth 100000 in
theorem W12_aboard_124 {K : tK} {B : tB} {S : tSH} {MC MS : Nat} (hO : tKO K B RX12 cX12_aboard 8) (hR : kR K = tRm 9 MC MS) (hG : tGr S) {n : Nat} (t0 : ty S 61 12) {k : Int32 → tHI → tHJ → Prop} (hQ : tRet K B (tQi B (tPi S k)) 0 0 (some .int)) {kb12 : tHI → tHJ → Int32 → Int32 → Int32 → Int32 → Prop} (hkb12 : ∀ (I : tHI) (J : tHJ) (v1 : Int32) (v2 : Int32) (v3 : Int32) (v4 : Int32), kb12 I J v1 v2 v3 v4 → tWG K B 0 0 S I J 12 [some (vR 61), some (vI v1), some (vI v2), some (vI v3), some (vI v4), none, none, none] []) {I : tHI} {J : tHJ} {v1 : Int32} {v2 : Int32} {v3 : Int32} {v4 : Int32} {v5 : Int32} (h : F12_aboard_124 n S k kb12 I J v1 v2 v3 v4 v5) : tWG K B 0 0 S I J 124 [some (vR 61), some (vI v1), some (vI v2), some (vI v3), some (vI v4), some (vI v5), none, none] [] := by
  refine gBk (pe := 126) hO [o0 (.iload 5)] (by decide +kernel) (show tWG K B 0 0 S I J 126 [some (vR 61), some (vI v1), some (vI v2), some (vI v3), some (vI v4), some (vI v5), none, none] [vI v5] from ?_)
  have hj6 : ∀ (m7 : Int32) (m8 : Int32), m7 = (if v5 = 0 then v2 else (v2 + 1)) → m8 = (if v5 = 0 then v3 else (if v2 = v1 then v4 else v3)) → tWG K B 0 0 S I J 144 [some (vR 61), some (vI v1), some (vI m7), some (vI m8), some (vI v4), none, none, none] [] := by
    intro m7 m8 em7 em8
    subst em7
    subst em8
    refine gBk (pe := 12) hO [oI (.iinc 4 1) 1, o0 (.goto (-135))] (by decide +kernel) (show tWG K B 0 0 S I J 12 [some (vR 61), some (vI v1), some (vI (if v5 = 0 then v2 else (v2 + 1))), some (vI (if v5 = 0 then v3 else (if v2 = v1 then v4 else v3))), some (vI (v4 + 1)), none, none, none] [] from ?_)
    exact hkb12 _ _ _ _ _ _ h
  refine gIfEq hO (off := 18) (tgt := 144) (by decide +kernel) (by decide) (fun c9 => ?_) (fun c9 => ?_)
  · exact gWeak (L' := [some (vR 61), some (vI v1), some (vI v2), some (vI v3), some (vI v4), none, none, none]) ⟨rfl, rfl, rfl, rfl, rfl, trivial⟩ (hj6 _ _ (Eq.symm (if_pos c9)) (Eq.symm (if_pos c9)))
  · refine gBk (pe := 131) hO [o0 (.iload_n 2), o0 (.iload_n 1)] (by decide +kernel) (show tWG K B 0 0 S I J 131 [some (vR 61), some (vI v1), some (vI v2), some (vI v3), some (vI v4), some (vI v5), none, none] [vI v1, vI v2] from ?_)
    refine gIcNe hO (off := 8) (tgt := 139) (by decide +kernel) (by decide) (fun c10 => ?_) (fun c10 => ?_)
    · refine gBk (pe := 144) hO [o0 (.iload_n 3), o0 (.istore_n 3), oI (.iinc 2 1) 1] (by decide +kernel) (And.intro (Nat.le_of_ble_eq_true rfl) (show tWG K B 0 0 S I J 144 [some (vR 61), some (vI v1), some (vI (v2 + 1)), some (vI v3), some (vI v4), some (vI v5), none, none] [] from ?_))
      exact gWeak (L' := [some (vR 61), some (vI v1), some (vI (v2 + 1)), some (vI v3), some (vI v4), none, none, none]) ⟨rfl, rfl, rfl, rfl, rfl, trivial⟩ (hj6 _ _ (Eq.symm (if_neg c9)) (Eq.symm ((if_neg c9).trans (if_neg c10))))
    · refine gBk (pe := 144) hO [o0 (.iload 4), o0 (.goto 4), o0 (.istore_n 3), oI (.iinc 2 1) 1] (by decide +kernel) (And.intro (Nat.le_of_ble_eq_true rfl) (show tWG K B 0 0 S I J 144 [some (vR 61), some (vI v1), some (vI (v2 + 1)), some (vI v4), some (vI v4), some (vI v5), none, none] [] from ?_))
      exact gWeak (L' := [some (vR 61), some (vI v1), some (vI (v2 + 1)), some (vI v4), some (vI v4), none, none, none]) ⟨rfl, rfl, rfl, rfl, rfl, trivial⟩ (hj6 _ _ (Eq.symm (if_neg c9)) (Eq.symm ((if_neg c9).trans (if_pos c10))))
set_option maxRecDepth 100000 in
theorem W12_aboard_37 {K : tK} {B : tB} {S : tSH} {MC MS : Nat} (hO : tKO K B RX12 cX12_aboard 8) (hR : kR K = tRm 9 MC MS) (hG : tGr S) {n : Nat} (t0 : ty S 61 12) {k : Int32 → tHI → tHJ → Prop} (hQ : tRet K B (tQi B (tPi S k)) 0 0 (some .int)) {kb12 : tHI → tHJ → Int32 → Int32 → Int32 → Int32 → Prop} (hkb12 : ∀ (I : tHI) (J : tHJ) (v1 : Int32) (v2 : Int32) (v3 : Int32) (v4 : Int32), kb12 I J v1 v2 v3 v4 → tWG K B 0 0 S I J 12 [some (vR 61), some (vI v1), some (vI v2), some (vI v3), some (vI v4), none, none, none] []) {kb37 : tHI → tHJ → Int32 → Int32 → Int32 → Int32 → Int32 → Int32 → Prop} (hkb37 : ∀ (I : tHI) (J : tHJ) (v1 : Int32) (v2 : Int32) (v3 : Int32) (v4 : Int32) (v5 : Int32) (v6 : Int32), kb37 I J v1 v2 v3 v4 v5 v6 → tWG K B 0 0 S I J 37 [some (vR 61), some (vI v1), some (vI v2), some (vI v3), some (vI v4), some (vI v5), some (vI v6), none] []) {I : tHI} {J : tHJ} {v1 : Int32} {v2 : Int32} {v3 : Int32} {v4 : Int32} {v5 : Int32} {v6 : Int32} (h : F12_aboard_37 n S k kb12 kb37 I J v1 v2 v3 v4 v5 v6) : tWG K B 0 0 S I J 37 [some (vR 61), some (vI v1), some (vI v2), some (vI v3), some (vI v4), some (vI v5), some (vI v6), none] [] := by
  refine gBk (pe := 45) hO [o0 (.iload 6), o0 (.aload_n 0), oF (.getfield 13) 12 3 179 63, oI (.iconst 2) 2, o0 .iaload] (by decide +kernel) (And.intro t0 (And.intro rfl (And.intro (tGr.off hG t0 (k := 3) rfl) (And.intro (tin (tGr.len hG t0 (k := 3) rfl (by decide)) (tvi (by decide +kernel))) (show tWG K B 0 0 S I J 45 [some (vR 61), some (vI v1), some (vI v2), some (vI v3), some (vI v4), some (vI v5), some (vI v6), none] [vI (I 63 2), vI v6] from ?_)))))
  refine gIcGe hO (off := 79) (tgt := 124) (by decide +kernel) (by decide) (fun c5 => ?_) (fun c5 => ?_)
  · have h := h.1 c5
    exact gWeak (L' := [some (vR 61), some (vI v1), some (vI v2), some (vI v3), some (vI v4), some (vI v5), none, none]) ⟨rfl, rfl, rfl, rfl, rfl, rfl, trivial⟩ (W12_aboard_124 hO hR hG t0 hQ hkb12 h)
  · have h := h.2 c5
    refine gBk (pe := 50) hO [o0 (.iload 5)] (by decide +kernel) (show tWG K B 0 0 S I J 50 [some (vR 61), some (vI v1), some (vI v2), some (vI v3), some (vI v4), some (vI v5), some (vI v6), none] [vI v5] from ?_)
    refine gIfEq hO (off := 74) (tgt := 124) (by decide +kernel) (by decide) (fun c11 => ?_) (fun c11 => ?_)
    · have h := h.1 c11
      exact gWeak (L' := [some (vR 61), some (vI v1), some (vI v2), some (vI v3), some (vI v4), some (vI v5), none, none]) ⟨rfl, rfl, rfl, rfl, rfl, rfl, trivial⟩ (W12_aboard_124 hO hR hG t0 hQ hkb12 h)
    · have h := h.2 c11
      refine gBk (pe := 79) hO [oI (.bipush 86) 86, oI (.iconst 3) 3, o0 (.iload 6), o0 .imul, o0 .iadd, o0 (.istore 7), o0 (.aload_n 0), o0 (.aload_n 0), oF (.getfield 13) 12 3 179 63, o0 (.iload 7), o0 .iaload, o0 (.aload_n 0), oF (.getfield 13) 12 3 179 63, o0 (.iload 7), oI (.iconst 1) 1, o0 .iadd, o0 .iaload] (by decide +kernel) (And.intro (Nat.le_of_ble_eq_true rfl) (And.intro t0 (And.intro rfl (And.intro (tGr.off hG t0 (k := 3) rfl) (And.intro (tin (tGr.len hG t0 (k := 3) rfl (by decide)) h.1) (And.intro t0 (And.intro rfl (And.intro (tGr.off hG t0 (k := 3) rfl) (And.intro (tin (tGr.len hG t0 (k := 3) rfl (by decide)) h.2.1) (show tWG K B 0 0 S I J 79 [some (vR 61), some (vI v1), some (vI v2), some (vI v3), some (vI v4), some (vI v5), some (vI v6), some (vI (86 + (3 * v6)))] [vI (I 63 ((86 + (3 * v6)) + 1).toNatClampNeg), vI (I 63 (86 + (3 * v6)).toNatClampNeg), vR 61] from ?_))))))))))
      have h := h.2.2
      refine gCVi_c hO (M12_goesNow t0 h) hc12_goesNow (idx := 478) (w := 1051) (by decide +kernel) hR (by omega) t0 ⟨by decide, rfl⟩ (vs := [vI (I 63 (86 + (3 * v6)).toNatClampNeg), vI (I 63 ((86 + (3 * v6)) + 1).toNatClampNeg)]) (st := []) ⟨rfl, Nat.le_of_ble_eq_true rfl, rfl⟩ (by decide +kernel) (fun x14 I12 J13 h => ?_)
      have hj15 : ∀ (m16 : Int32), m16 = (if x14 = 0 then (1 : Int32) else 0) → tWG K B 0 0 S I12 J13 90 [some (vR 61), some (vI v1), some (vI v2), some (vI v3), some (vI v4), none, some (vI v6), some (vI (86 + (3 * v6)))] [vI m16] := by
        intro m16 em16
        subst em16
        refine gBk (pe := 100) hO [o0 (.aload_n 0), oF (.getfield 13) 12 3 179 63, o0 (.iload 7), oI (.iconst 2) 2, o0 .iadd, o0 .iaload, oI (.iconst 1) 1] (by decide +kernel) (And.intro t0 (And.intro rfl (And.intro (tGr.off hG t0 (k := 3) rfl) (And.intro (tin (tGr.len hG t0 (k := 3) rfl (by decide)) h.1) (show tWG K B 0 0 S I12 J13 100 [some (vR 61), some (vI v1), some (vI v2), some (vI v3), some (vI v4), none, some (vI v6), some (vI (86 + (3 * v6)))] [vI 1, vI (I12 63 ((86 + (3 * v6)) + 2).toNatClampNeg), vI (if x14 = 0 then (1 : Int32) else 0)] from ?_)))))
        have h := h.2
        have hj18 : ∀ (m19 : Int32), m19 = (if (I12 63 ((86 + (3 * v6)) + 2).toNatClampNeg) = 1 then (1 : Int32) else 0) → tWG K B 0 0 S I12 J13 108 [some (vR 61), some (vI v1), some (vI v2), some (vI v3), some (vI v4), none, some (vI v6), none] [vI m19, vI (if x14 = 0 then (1 : Int32) else 0)] := by
          intro m19 em19
          subst em19
          have hj21 : ∀ (m22 : Int32), m22 = (if (if x14 = 0 then (1 : Int32) else 0) = (if (I12 63 ((86 + (3 * v6)) + 2).toNatClampNeg) = 1 then (1 : Int32) else 0) then (1 : Int32) else 0) → tWG K B 0 0 S I12 J13 116 [some (vR 61), some (vI v1), some (vI v2), some (vI v3), some (vI v4), none, some (vI v6), none] [vI m22] := by
            intro m22 em22
            subst em22
            refine gBk (pe := 37) hO [o0 (.istore 5), oI (.iinc 6 1) 1, o0 (.goto (-84))] (by decide +kernel) (And.intro (Nat.le_of_ble_eq_true rfl) (show tWG K B 0 0 S I12 J13 37 [some (vR 61), some (vI v1), some (vI v2), some (vI v3), some (vI v4), some (vI (if (if x14 = 0 then (1 : Int32) else 0) = (if (I12 63 ((86 + (3 * v6)) + 2).toNatClampNeg) = 1 then (1 : Int32) else 0) then (1 : Int32) else 0)), some (vI (v6 + 1)), none] [] from ?_))
            exact hkb37 _ _ _ _ _ _ _ _ h
          refine gIcNe hO (off := 7) (tgt := 115) (by decide +kernel) (by decide) (fun c23 => ?_) (fun c23 => ?_)
          · refine gBk (pe := 116) hO [oI (.iconst 0) 0] (by decide +kernel) (show tWG K B 0 0 S I12 J13 116 [some (vR 61), some (vI v1), some (vI v2), some (vI v3), some (vI v4), none, some (vI v6), none] [vI 0] from ?_)
            exact (hj21 _ (Eq.symm (if_neg c23)))
          · refine gBk (pe := 116) hO [oI (.iconst 1) 1, o0 (.goto 4)] (by decide +kernel) (show tWG K B 0 0 S I12 J13 116 [some (vR 61), some (vI v1), some (vI v2), some (vI v3), some (vI v4), none, some (vI v6), none] [vI 1] from ?_)
            exact (hj21 _ (Eq.symm (if_pos c23)))
        refine gIcNe hO (off := 7) (tgt := 107) (by decide +kernel) (by decide) (fun c20 => ?_) (fun c20 => ?_)
        · refine gBk (pe := 108) hO [oI (.iconst 0) 0] (by decide +kernel) (show tWG K B 0 0 S I12 J13 108 [some (vR 61), some (vI v1), some (vI v2), some (vI v3), some (vI v4), none, some (vI v6), some (vI (86 + (3 * v6)))] [vI 0, vI (if x14 = 0 then (1 : Int32) else 0)] from ?_)
          exact gWeak (L' := [some (vR 61), some (vI v1), some (vI v2), some (vI v3), some (vI v4), none, some (vI v6), none]) ⟨rfl, rfl, rfl, rfl, rfl, rfl, trivial⟩ (hj18 _ (Eq.symm (if_neg c20)))
        · refine gBk (pe := 108) hO [oI (.iconst 1) 1, o0 (.goto 4)] (by decide +kernel) (show tWG K B 0 0 S I12 J13 108 [some (vR 61), some (vI v1), some (vI v2), some (vI v3), some (vI v4), none, some (vI v6), some (vI (86 + (3 * v6)))] [vI 1, vI (if x14 = 0 then (1 : Int32) else 0)] from ?_)
          exact gWeak (L' := [some (vR 61), some (vI v1), some (vI v2), some (vI v3), some (vI v4), none, some (vI v6), none]) ⟨rfl, rfl, rfl, rfl, rfl, rfl, trivial⟩ (hj18 _ (Eq.symm (if_pos c20)))
      refine gIfNe hO (off := 7) (tgt := 89) (by decide +kernel) (by decide) (fun c17 => ?_) (fun c17 => ?_)
      · refine gBk (pe := 90) hO [oI (.iconst 0) 0] (by decide +kernel) (show tWG K B 0 0 S I12 J13 90 [some (vR 61), some (vI v1), some (vI v2), some (vI v3), some (vI v4), some (vI v5), some (vI v6), some (vI (86 + (3 * v6)))] [vI 0] from ?_)
        exact gWeak (L' := [some (vR 61), some (vI v1), some (vI v2), some (vI v3), some (vI v4), none, some (vI v6), some (vI (86 + (3 * v6)))]) ⟨rfl, rfl, rfl, rfl, rfl, rfl, rfl, trivial⟩ (hj15 _ (Eq.symm (if_neg c17)))
      · refine gBk (pe := 90) hO [oI (.iconst 1) 1, o0 (.goto 4)] (by decide +kernel) (show tWG K B 0 0 S I12 J13 90 [some (vR 61), some (vI v1), some (vI v2), some (vI v3), some (vI v4), some (vI v5), some (vI v6), some (vI (86 + (3 * v6)))] [vI 1] from ?_)
        exact gWeak (L' := [some (vR 61), some (vI v1), some (vI v2), some (vI v3), some (vI v4), none, some (vI v6), some (vI (86 + (3 * v6)))]) ⟨rfl, rfl, rfl, rfl, rfl, rfl, rfl, trivial⟩ (hj15 _ (Eq.symm (if_pos c17)))
theorem W12_aboard_L37 {K : tK} {B : tB} {S : tSH} {MC MS : Nat} (hO : tKO K B RX12 cX12_aboard 8) (hR : kR K = tRm 9 MC MS) (hG : tGr S) {n : Nat} (t0 : ty S 61 12) {k : Int32 → tHI → tHJ → Prop} (hQ : tRet K B (tQi B (tPi S k)) 0 0 (some .int)) {kb12 : tHI → tHJ → Int32 → Int32 → Int32 → Int32 → Prop} (hkb12 : ∀ (I : tHI) (J : tHJ) (v1 : Int32) (v2 : Int32) (v3 : Int32) (v4 : Int32), kb12 I J v1 v2 v3 v4 → tWG K B 0 0 S I J 12 [some (vR 61), some (vI v1), some (vI v2), some (vI v3), some (vI v4), none, none, none] []) : ∀ (f : Nat) (I : tHI) (J : tHJ) (v1 : Int32) (v2 : Int32) (v3 : Int32) (v4 : Int32) (v5 : Int32) (v6 : Int32), F12_aboard_L37 n S k kb12 f I J v1 v2 v3 v4 v5 v6 → tWG K B 0 0 S I J 37 [some (vR 61), some (vI v1), some (vI v2), some (vI v3), some (vI v4), some (vI v5), some (vI v6), none] [] := by
  intro f
  induction f with
  | zero => intro I J v1 v2 v3 v4 v5 v6 h; exact h.elim
  | succ f ih => intro I J v1 v2 v3 v4 v5 v6 h; exact W12_aboard_37 hO hR hG t0 hQ hkb12 ih h
set_option maxRecDepth 100000 in
theorem W12_aboard_12 {K : tK} {B : tB} {S : tSH} {MC MS : Nat} (hO : tKO K B RX12 cX12_aboard 8) (hR : kR K = tRm 9 MC MS) (hG : tGr S) {n : Nat} (t0 : ty S 61 12) {k : Int32 → tHI → tHJ → Prop} (hQ : tRet K B (tQi B (tPi S k)) 0 0 (some .int)) {kb12 : tHI → tHJ → Int32 → Int32 → Int32 → Int32 → Prop} (hkb12 : ∀ (I : tHI) (J : tHJ) (v1 : Int32) (v2 : Int32) (v3 : Int32) (v4 : Int32), kb12 I J v1 v2 v3 v4 → tWG K B 0 0 S I J 12 [some (vR 61), some (vI v1), some (vI v2), some (vI v3), some (vI v4), none, none, none] []) {I : tHI} {J : tHJ} {v1 : Int32} {v2 : Int32} {v3 : Int32} {v4 : Int32} (h : F12_aboard_12 n S k kb12 I J v1 v2 v3 v4) : tWG K B 0 0 S I J 12 [some (vR 61), some (vI v1), some (vI v2), some (vI v3), some (vI v4), none, none, none] [] := by
  refine gBk (pe := 22) hO [o0 (.iload 4), oI (.iconst 1) 1, o0 (.aload_n 0), oF (.getfield 13) 12 3 179 63, oI (.iconst 0) 0, o0 .iaload, o0 .ishl] (by decide +kernel) (And.intro t0 (And.intro rfl (And.intro (tGr.off hG t0 (k := 3) rfl) (And.intro (tin (tGr.len hG t0 (k := 3) rfl (by decide)) (tvi (by decide +kernel))) (show tWG K B 0 0 S I J 22 [some (vR 61), some (vI v1), some (vI v2), some (vI v3), some (vI v4), none, none, none] [vI (1 <<< ((I 63 0) &&& 31)), vI v4] from ?_)))))
  refine gIcGe hO (off := 128) (tgt := 150) (by decide +kernel) (by decide) (fun c1 => ?_) (fun c1 => ?_)
  · have h := h.1 c1
    refine gBk (pe := 158) hO [o0 (.aload_n 0), oI (.bipush 63) 63, oF (.putfield 124) 12 41 224 0, o0 (.iload_n 1), oI (.iconst (-1)) (-1)] (by decide +kernel) (And.intro t0 (show tWG K B 0 0 S (uI I 61 41 63) J 158 [some (vR 61), some (vI v1), some (vI v2), some (vI v3), some (vI v4), none, none, none] [vI (-1), vI v1] from ?_))
    have hj2 : ∀ (m3 : Int32), m3 = (if v1 = (-1) then v2 else v3) → tWG K B 0 0 S (uI I 61 41 63) J 166 [none, none, none, none, none, none, none, none] [vI m3] := by
      intro m3 em3
      subst em3
      exact gIret hO hQ (by decide +kernel) ⟨rfl, h⟩
    refine gIcNe hO (off := 7) (tgt := 165) (by decide +kernel) (by decide) (fun c4 => ?_) (fun c4 => ?_)
    · refine gBk (pe := 166) hO [o0 (.iload_n 3)] (by decide +kernel) (show tWG K B 0 0 S (uI I 61 41 63) J 166 [some (vR 61), some (vI v1), some (vI v2), some (vI v3), some (vI v4), none, none, none] [vI v3] from ?_)
      exact gWeak (L' := [none, none, none, none, none, none, none, none]) trivial (hj2 _ (Eq.symm (if_neg c4)))
    · refine gBk (pe := 166) hO [o0 (.iload_n 2), o0 (.goto 4)] (by decide +kernel) (show tWG K B 0 0 S (uI I 61 41 63) J 166 [some (vR 61), some (vI v1), some (vI v2), some (vI v3), some (vI v4), none, none, none] [vI v2] from ?_)
      exact gWeak (L' := [none, none, none, none, none, none, none, none]) trivial (hj2 _ (Eq.symm (if_pos c4)))
  · have h := h.2 c1
    refine gBk (pe := 37) hO [o0 (.aload_n 0), o0 (.iload 4), oF (.putfield 124) 12 41 224 0, oI (.iconst 1) 1, o0 (.istore 5), oI (.iconst 0) 0, o0 (.istore 6)] (by decide +kernel) (And.intro t0 (And.intro (Nat.le_of_ble_eq_true rfl) (And.intro (Nat.le_of_ble_eq_true rfl) (show tWG K B 0 0 S (uI I 61 41 v4) J 37 [some (vR 61), some (vI v1), some (vI v2), some (vI v3), some (vI v4), some (vI 1), some (vI 0), none] [] from ?_))))
    exact W12_aboard_L37 hO hR hG t0 hQ hkb12 n _ _ _ _ _ _ _ _ h
theorem W12_aboard_L12 {K : tK} {B : tB} {S : tSH} {MC MS : Nat} (hO : tKO K B RX12 cX12_aboard 8) (hR : kR K = tRm 9 MC MS) (hG : tGr S) {n : Nat} (t0 : ty S 61 12) {k : Int32 → tHI → tHJ → Prop} (hQ : tRet K B (tQi B (tPi S k)) 0 0 (some .int)) : ∀ (f : Nat) (I : tHI) (J : tHJ) (v1 : Int32) (v2 : Int32) (v3 : Int32) (v4 : Int32), F12_aboard_L12 n S k f I J v1 v2 v3 v4 → tWG K B 0 0 S I J 12 [some (vR 61), some (vI v1), some (vI v2), some (vI v3), some (vI v4), none, none, none] [] := by
  intro f
  induction f with
  | zero => intro I J v1 v2 v3 v4 h; exact h.elim
  | succ f ih => intro I J v1 v2 v3 v4 h; exact W12_aboard_12 hO hR hG t0 hQ ih h
set_option maxRecDepth 20000 in
theorem hc12_aboard : tCV yX12_aboard cX12_aboard 8 (some .int) 1 := ⟨⟨(List.mem_of_getElem? (i := 1398) rfl), (List.mem_of_getElem? (i := 5) (by decide +kernel)), by decide +kernel⟩, (List.mem_of_getElem? (i := 1396) (by decide +kernel)), (List.mem_of_getElem? (i := 1397) (by decide +kernel))⟩
set_option maxRecDepth 100000 in
theorem M12_aboard {l : Launch} {B : tB} {S : tSH} {I : tHI} {J : tHJ} {v1 : Int32} {n : Nat} {k : Int32 → tHI → tHJ → Prop} (t0 : ty S 61 12) (h : F12_aboard n S I J v1 k) : Met l yX12_aboard (tWs yX12_aboard cX12_aboard 8 (some .int)) (tRm 9 0 0) (tPc B [vR 61, vI v1] S I J) (tQi B (tPi S k)) 0 0 (tA B) :=
  tEntry (by decide +kernel) [some (vR 61), some (vI v1), none, none, none, none, none, none] rfl rfl (Nat.le_of_ble_eq_true rfl) (fun K hl hR hO hQ hG => by
  subst hl
  refine gBk (pe := 12) hO [o0 (.aload_n 0), oI (.iconst 0) 0, oF (.putfield 161) 12 0 316 0, oI (.iconst 0) 0, o0 (.istore_n 2), oI (.iconst (-1)) (-1), o0 (.istore_n 3), oI (.iconst 0) 0, o0 (.istore 4)] (by decide +kernel) (And.intro t0 (And.intro (Nat.le_of_ble_eq_true rfl) (And.intro (Nat.le_of_ble_eq_true rfl) (And.intro (Nat.le_of_ble_eq_true rfl) (show tWG K B 0 0 S (uI I 61 0 0) J 12 [some (vR 61), some (vI v1), some (vI 0), some (vI (-1)), some (vI 0), none, none, none] [] from ?_)))))
  exact W12_aboard_L12 hO hR hG t0 hQ n _ _ _ _ _ _ h)
set_option maxRecDepth 20000 in
theorem hc12_gasNow : tCV yX12_gasNow cX12_gasNow 2 (some .int) 1 := ⟨⟨(List.mem_of_getElem? (i := 1017) rfl), (List.mem_of_getElem? (i := 5) (by decide +kernel)), by decide +kernel⟩, (List.mem_of_getElem? (i := 1015) (by decide +kernel)), (List.mem_of_getElem? (i := 1016) (by decide +kernel))⟩
set_option maxRecDepth 100000 in
theorem M12_gasNow {l : Launch} {B : tB} {S : tSH} {I : tHI} {J : tHJ} {v1 : Int32} {n : Nat} {k : Int32 → tHI → tHJ → Prop} (t0 : ty S 61 12) (h : F12_gasNow n S I J v1 k) : Met l yX12_gasNow (tWs yX12_gasNow cX12_gasNow 2 (some .int)) (tRm 4 0 0) (tPc B [vR 61, vI v1] S I J) (tQi B (tPi S k)) 0 0 (tA B) :=
  tEntry (by decide +kernel) [some (vR 61), some (vI v1)] rfl rfl (Nat.le_of_ble_eq_true rfl) (fun K hl hR hO hQ hG => by
  subst hl
  refine gBk (pe := 10) hO [o0 (.iload_n 1), o0 .i2l, oJ (.lconst 1) 0 1, o0 (.aload_n 0), oF (.getfield 13) 12 3 179 63, oI (.iconst 5) 5, o0 .iaload, o0 .i2l] (by decide +kernel) (And.intro t0 (And.intro rfl (And.intro (tGr.off hG t0 (k := 3) rfl) (And.intro (tin (tGr.len hG t0 (k := 3) rfl (by decide)) (tvi (by decide +kernel))) (show tWG K B 0 0 S I J 10 [some (vR 61), some (vI v1)] [vL ((I 63 5).toInt64), vL 1, vL v1.toInt64] from ?_)))))
  refine gCSi_z hO (M12_in) hc12_in (idx := 181) (w := 319) (by decide +kernel) hR (by omega) (vs := [vL v1.toInt64, vL 1, vL ((I 63 5).toInt64)]) (st := []) ⟨rfl, Nat.le_of_ble_eq_true rfl, rfl⟩ (by decide +kernel) (fun z1 => ?_)
  refine gIfNe hO (off := 5) (tgt := 18) (by decide +kernel) (by decide) (fun c2 => ?_) (fun c2 => ?_)
  · have h := h.1 c2
    refine gBk (pe := 20) hO [o0 (.aload_n 0), oI (.iconst 0) 0] (by decide +kernel) (show tWG K B 0 0 S I J 20 [some (vR 61), some (vI v1)] [vI 0, vR 61] from ?_)
    refine gCVv_c hO (M12_remember t0 h) hc12_remember (idx := 515) (w := 1018) (by decide +kernel) hR (by omega) t0 ⟨by decide, rfl⟩ (vs := [vI 0]) (st := []) ⟨rfl, Nat.le_of_ble_eq_true rfl, rfl⟩ (by decide +kernel) (fun I3 J4 h => ?_)
    refine gBk (pe := 42) hO [o0 (.aload_n 0), oF (.getfield 13) 12 3 179 63, oI (.bipush 10) 10, o0 (.aload_n 0), oF (.getfield 13) 12 3 179 63, oI (.bipush 10) 10, o0 .iaload, o0 (.iload_n 1), o0 .iadd, o0 .i2l, oI (.iconst 0) 0, oI (.bipush 60) 60] (by decide +kernel) (And.intro t0 (And.intro rfl (And.intro t0 (And.intro rfl (And.intro (tGr.off hG t0 (k := 3) rfl) (And.intro (tin (tGr.len hG t0 (k := 3) rfl (by decide)) (tvi (by decide +kernel))) (show tWG K B 0 0 S I3 J4 42 [some (vR 61), some (vI v1)] [vI 60, vI 0, vL (((I3 63 10) + v1).toInt64), vI 10, vR 63] from ?_)))))))
    refine gCSi_p hO (M12_within) hc12_within (idx := 468) (w := 504) (by decide +kernel) hR (by omega) (vs := [vL (((I3 63 10) + v1).toInt64), vI 0, vI 60]) (st := [vI 10, vR 63]) ⟨rfl, Nat.le_of_ble_eq_true rfl, rfl⟩ (by decide +kernel) ?_
    refine gBk (pe := 53) hO [o0 .iastore, o0 (.aload_n 0), oF (.getfield 13) 12 3 179 63, oI (.bipush 10) 10, o0 .iaload] (by decide +kernel) (And.intro (tGr.off hG t0 (k := 3) rfl) (And.intro (tin (tGr.len hG t0 (k := 3) rfl (by decide)) (tvi (by decide +kernel))) (And.intro t0 (And.intro rfl (And.intro (tGr.off hG t0 (k := 3) rfl) (And.intro (tin (tGr.len hG t0 (k := 3) rfl (by decide)) (tvi (by decide +kernel))) (show tWG K B 0 0 S (uI I3 63 10 (V12_within (((I3 63 10) + v1).toInt64) 0 60)) J4 53 [some (vR 61), some (vI v1)] [vI ((uI I3 63 10 (V12_within (((I3 63 10) + v1).toInt64) 0 60)) 63 10)] from ?_)))))))
    exact gIret hO hQ (by decide +kernel) ⟨rfl, h⟩
  · have h := h.2 c2
    refine gBk (pe := 17) hO [oI (.iconst (-1)) (-1)] (by decide +kernel) (show tWG K B 0 0 S I J 17 [some (vR 61), some (vI v1)] [vI (-1)] from ?_)
    exact gIret hO hQ (by decide +kernel) ⟨rfl, h⟩)
set_option maxRecDepth 20000 in
theorem hc12_gas : tCV yX12_gas cX12_gas 2 (some .int) 1 := ⟨⟨(List.mem_of_getElem? (i := 1103) rfl), (List.mem_of_getElem? (i := 5) (by decide +kernel)), by decide +kernel⟩, (List.mem_of_getElem? (i := 1101) (by decide +kernel)), (List.mem_of_getElem? (i := 1102) (by decide +kernel))⟩
set_option maxRecDepth 100000 in
theorem M12_gas {l : Launch} {B : tB} {S : tSH} {I : tHI} {J : tHJ} {v1 : Int32} {n : Nat} {k : Int32 → tHI → tHJ → Prop} (t0 : ty S 61 12) (h : F12_gas n S I J v1 k) : Met l yX12_gas (tWs yX12_gas cX12_gas 2 (some .int)) (tRm 5 0 0) (tPc B [vR 61, vI v1] S I J) (tQi B (tPi S k)) 0 0 (tA B) :=
  tEntry (by decide +kernel) [some (vR 61), some (vI v1)] rfl rfl (Nat.le_of_ble_eq_true rfl) (fun K hl hR hO hQ hG => by
  subst hl
  refine gBk (pe := 8) hO [o0 (.aload_n 0), oI (.iconst 0) 0, oF (.putfield 161) 12 0 316 0, o0 (.aload_n 0), o0 (.aload_n 0), o0 (.iload_n 1)] (by decide +kernel) (And.intro t0 (show tWG K B 0 0 S (uI I 61 0 0) J 8 [some (vR 61), some (vI v1)] [vI v1, vR 61, vR 61] from ?_))
  refine gCVi_c hO (M12_gasNow t0 h) hc12_gasNow (idx := 518) (w := 1014) (by decide +kernel) hR (by omega) t0 ⟨by decide, rfl⟩ (vs := [vI v1]) (st := [vR 61]) ⟨rfl, Nat.le_of_ble_eq_true rfl, rfl⟩ (by decide +kernel) (fun x3 I1 J2 h => ?_)
  refine gCVi_c hO (M12_tell t0 h) hc12_tell (idx := 170) (w := 322) (by decide +kernel) hR (by omega) t0 ⟨by decide, rfl⟩ (vs := [vI x3]) (st := []) ⟨rfl, Nat.le_of_ble_eq_true rfl, rfl⟩ (by decide +kernel) (fun x6 I4 J5 h => ?_)
  exact gIret hO hQ (by decide +kernel) ⟨rfl, h⟩)
set_option maxRecDepth 20000 in
theorem hc12_brakeNow : tCV yX12_brakeNow cX12_brakeNow 2 (some .int) 1 := ⟨⟨(List.mem_of_getElem? (i := 1025) rfl), (List.mem_of_getElem? (i := 5) (by decide +kernel)), by decide +kernel⟩, (List.mem_of_getElem? (i := 1023) (by decide +kernel)), (List.mem_of_getElem? (i := 1024) (by decide +kernel))⟩
set_option maxRecDepth 100000 in
theorem M12_brakeNow {l : Launch} {B : tB} {S : tSH} {I : tHI} {J : tHJ} {v1 : Int32} {n : Nat} {k : Int32 → tHI → tHJ → Prop} (t0 : ty S 61 12) (h : F12_brakeNow n S I J v1 k) : Met l yX12_brakeNow (tWs yX12_brakeNow cX12_brakeNow 2 (some .int)) (tRm 4 0 0) (tPc B [vR 61, vI v1] S I J) (tQi B (tPi S k)) 0 0 (tA B) :=
  tEntry (by decide +kernel) [some (vR 61), some (vI v1)] rfl rfl (Nat.le_of_ble_eq_true rfl) (fun K hl hR hO hQ hG => by
  subst hl
  refine gBk (pe := 11) hO [o0 (.iload_n 1), o0 .i2l, oJ (.lconst 1) 0 1, o0 (.aload_n 0), oF (.getfield 13) 12 3 179 63, oI (.bipush 6) 6, o0 .iaload, o0 .i2l] (by decide +kernel) (And.intro t0 (And.intro rfl (And.intro (tGr.off hG t0 (k := 3) rfl) (And.intro (tin (tGr.len hG t0 (k := 3) rfl (by decide)) (tvi (by decide +kernel))) (show tWG K B 0 0 S I J 11 [some (vR 61), some (vI v1)] [vL ((I 63 6).toInt64), vL 1, vL v1.toInt64] from ?_)))))
  refine gCSi_z hO (M12_in) hc12_in (idx := 181) (w := 319) (by decide +kernel) hR (by omega) (vs := [vL v1.toInt64, vL 1, vL ((I 63 6).toInt64)]) (st := []) ⟨rfl, Nat.le_of_ble_eq_true rfl, rfl⟩ (by decide +kernel) (fun z1 => ?_)
  refine gIfNe hO (off := 5) (tgt := 19) (by decide +kernel) (by decide) (fun c2 => ?_) (fun c2 => ?_)
  · have h := h.1 c2
    refine gBk (pe := 21) hO [o0 (.aload_n 0), oI (.iconst 1) 1] (by decide +kernel) (show tWG K B 0 0 S I J 21 [some (vR 61), some (vI v1)] [vI 1, vR 61] from ?_)
    refine gCVv_c hO (M12_remember t0 h) hc12_remember (idx := 515) (w := 1018) (by decide +kernel) hR (by omega) t0 ⟨by decide, rfl⟩ (vs := [vI 1]) (st := []) ⟨rfl, Nat.le_of_ble_eq_true rfl, rfl⟩ (by decide +kernel) (fun I3 J4 h => ?_)
    refine gBk (pe := 43) hO [o0 (.aload_n 0), oF (.getfield 13) 12 3 179 63, oI (.bipush 10) 10, o0 (.aload_n 0), oF (.getfield 13) 12 3 179 63, oI (.bipush 10) 10, o0 .iaload, o0 (.iload_n 1), o0 .isub, o0 .i2l, oI (.iconst 0) 0, oI (.bipush 60) 60] (by decide +kernel) (And.intro t0 (And.intro rfl (And.intro t0 (And.intro rfl (And.intro (tGr.off hG t0 (k := 3) rfl) (And.intro (tin (tGr.len hG t0 (k := 3) rfl (by decide)) (tvi (by decide +kernel))) (show tWG K B 0 0 S I3 J4 43 [some (vR 61), some (vI v1)] [vI 60, vI 0, vL (((I3 63 10) - v1).toInt64), vI 10, vR 63] from ?_)))))))
    refine gCSi_p hO (M12_within) hc12_within (idx := 468) (w := 504) (by decide +kernel) hR (by omega) (vs := [vL (((I3 63 10) - v1).toInt64), vI 0, vI 60]) (st := [vI 10, vR 63]) ⟨rfl, Nat.le_of_ble_eq_true rfl, rfl⟩ (by decide +kernel) ?_
    refine gBk (pe := 54) hO [o0 .iastore, o0 (.aload_n 0), oF (.getfield 13) 12 3 179 63, oI (.bipush 10) 10, o0 .iaload] (by decide +kernel) (And.intro (tGr.off hG t0 (k := 3) rfl) (And.intro (tin (tGr.len hG t0 (k := 3) rfl (by decide)) (tvi (by decide +kernel))) (And.intro t0 (And.intro rfl (And.intro (tGr.off hG t0 (k := 3) rfl) (And.intro (tin (tGr.len hG t0 (k := 3) rfl (by decide)) (tvi (by decide +kernel))) (show tWG K B 0 0 S (uI I3 63 10 (V12_within (((I3 63 10) - v1).toInt64) 0 60)) J4 54 [some (vR 61), some (vI v1)] [vI ((uI I3 63 10 (V12_within (((I3 63 10) - v1).toInt64) 0 60)) 63 10)] from ?_)))))))
    exact gIret hO hQ (by decide +kernel) ⟨rfl, h⟩
  · have h := h.2 c2
    refine gBk (pe := 18) hO [oI (.iconst (-1)) (-1)] (by decide +kernel) (show tWG K B 0 0 S I J 18 [some (vR 61), some (vI v1)] [vI (-1)] from ?_)
    exact gIret hO hQ (by decide +kernel) ⟨rfl, h⟩)
set_option maxRecDepth 20000 in
theorem hc12_brake : tCV yX12_brake cX12_brake 2 (some .int) 1 := ⟨⟨(List.mem_of_getElem? (i := 1111) rfl), (List.mem_of_getElem? (i := 5) (by decide +kernel)), by decide +kernel⟩, (List.mem_of_getElem? (i := 1109) (by decide +kernel)), (List.mem_of_getElem? (i := 1110) (by decide +kernel))⟩
set_option maxRecDepth 100000 in
theorem M12_brake {l : Launch} {B : tB} {S : tSH} {I : tHI} {J : tHJ} {v1 : Int32} {n : Nat} {k : Int32 → tHI → tHJ → Prop} (t0 : ty S 61 12) (h : F12_brake n S I J v1 k) : Met l yX12_brake (tWs yX12_brake cX12_brake 2 (some .int)) (tRm 5 0 0) (tPc B [vR 61, vI v1] S I J) (tQi B (tPi S k)) 0 0 (tA B) :=
  tEntry (by decide +kernel) [some (vR 61), some (vI v1)] rfl rfl (Nat.le_of_ble_eq_true rfl) (fun K hl hR hO hQ hG => by
  subst hl
  refine gBk (pe := 8) hO [o0 (.aload_n 0), oI (.iconst 0) 0, oF (.putfield 161) 12 0 316 0, o0 (.aload_n 0), o0 (.aload_n 0), o0 (.iload_n 1)] (by decide +kernel) (And.intro t0 (show tWG K B 0 0 S (uI I 61 0 0) J 8 [some (vR 61), some (vI v1)] [vI v1, vR 61, vR 61] from ?_))
  refine gCVi_c hO (M12_brakeNow t0 h) hc12_brakeNow (idx := 521) (w := 1022) (by decide +kernel) hR (by omega) t0 ⟨by decide, rfl⟩ (vs := [vI v1]) (st := [vR 61]) ⟨rfl, Nat.le_of_ble_eq_true rfl, rfl⟩ (by decide +kernel) (fun x3 I1 J2 h => ?_)
  refine gCVi_c hO (M12_tell t0 h) hc12_tell (idx := 170) (w := 322) (by decide +kernel) hR (by omega) t0 ⟨by decide, rfl⟩ (vs := [vI x3]) (st := []) ⟨rfl, Nat.le_of_ble_eq_true rfl, rfl⟩ (by decide +kernel) (fun x6 I4 J5 h => ?_)
  exact gIret hO hQ (by decide +kernel) ⟨rfl, h⟩)
set_option maxRecDepth 20000 in
theorem hc12_laneNow : tCV yX12_laneNow cX12_laneNow 3 (some .int) 1 := ⟨⟨(List.mem_of_getElem? (i := 1029) rfl), (List.mem_of_getElem? (i := 5) (by decide +kernel)), by decide +kernel⟩, (List.mem_of_getElem? (i := 1027) (by decide +kernel)), (List.mem_of_getElem? (i := 1028) (by decide +kernel))⟩
set_option maxRecDepth 100000 in
theorem M12_laneNow {l : Launch} {B : tB} {S : tSH} {I : tHI} {J : tHJ} {v1 : Int32} {n : Nat} {k : Int32 → tHI → tHJ → Prop} (t0 : ty S 61 12) (h : F12_laneNow n S I J v1 k) : Met l yX12_laneNow (tWs yX12_laneNow cX12_laneNow 3 (some .int)) (tRm 4 0 0) (tPc B [vR 61, vI v1] S I J) (tQi B (tPi S k)) 0 0 (tA B) :=
  tEntry (by decide +kernel) [some (vR 61), some (vI v1), none] rfl rfl (Nat.le_of_ble_eq_true rfl) (fun K hl hR hO hQ hG => by
  subst hl
  refine gBk (pe := 3) hO [o0 (.iload_n 1), o0 .i2l, oJ (.lconst 0) 0 0] (by decide +kernel) (show tWG K B 0 0 S I J 3 [some (vR 61), some (vI v1), none] [vL 0, vL v1.toInt64] from ?_)
  refine gBk (pe := 6) hO [(.ldc2_w 524, (0, 0, 1030, 0), 0, 2)] (by decide +kernel) (show tWG K B 0 0 S I J 6 [some (vR 61), some (vI v1), none] [vL 2, vL 0, vL v1.toInt64] from ?_)
  refine gCSi_z hO (M12_in) hc12_in (idx := 181) (w := 319) (by decide +kernel) hR (by omega) (vs := [vL v1.toInt64, vL 0, vL 2]) (st := []) ⟨rfl, Nat.le_of_ble_eq_true rfl, rfl⟩ (by decide +kernel) (fun z1 => ?_)
  refine gIfNe hO (off := 5) (tgt := 14) (by decide +kernel) (by decide) (fun c2 => ?_) (fun c2 => ?_)
  · have h := h.1 c2
    refine gBk (pe := 22) hO [o0 (.iload_n 1), o0 (.aload_n 0), oF (.getfield 13) 12 3 179 63, oI (.bipush 11) 11, o0 .iaload] (by decide +kernel) (And.intro t0 (And.intro rfl (And.intro (tGr.off hG t0 (k := 3) rfl) (And.intro (tin (tGr.len hG t0 (k := 3) rfl (by decide)) (tvi (by decide +kernel))) (show tWG K B 0 0 S I J 22 [some (vR 61), some (vI v1), none] [vI (I 63 11), vI v1] from ?_)))))
    refine gCSi_z hO (M12_isBeside) hc12_isBeside (idx := 493) (w := 1031) (by decide +kernel) hR (by omega) (vs := [vI v1, vI (I 63 11)]) (st := []) ⟨rfl, Nat.le_of_ble_eq_true rfl, rfl⟩ (by decide +kernel) (fun z3 => ?_)
    refine gIfNe hO (off := 6) (tgt := 31) (by decide +kernel) (by decide) (fun c4 => ?_) (fun c4 => ?_)
    · have h := h.1 c4
      refine gBk (pe := 33) hO [o0 (.aload_n 0), oI (.iconst 2) 2] (by decide +kernel) (show tWG K B 0 0 S I J 33 [some (vR 61), some (vI v1), none] [vI 2, vR 61] from ?_)
      refine gCVv_c hO (M12_remember t0 h) hc12_remember (idx := 515) (w := 1018) (by decide +kernel) hR (by omega) t0 ⟨by decide, rfl⟩ (vs := [vI 2]) (st := []) ⟨rfl, Nat.le_of_ble_eq_true rfl, rfl⟩ (by decide +kernel) (fun I5 J6 h => ?_)
      refine gBk (pe := 53) hO [o0 (.aload_n 0), oF (.getfield 13) 12 3 179 63, oI (.bipush 11) 11, o0 .iaload, o0 (.istore_n 2), o0 (.aload_n 0), oF (.getfield 13) 12 3 179 63, oI (.bipush 11) 11, o0 (.iload_n 1), o0 .iastore, o0 (.iload_n 2)] (by decide +kernel) (And.intro t0 (And.intro rfl (And.intro (tGr.off hG t0 (k := 3) rfl) (And.intro (tin (tGr.len hG t0 (k := 3) rfl (by decide)) (tvi (by decide +kernel))) (And.intro (Nat.le_of_ble_eq_true rfl) (And.intro t0 (And.intro rfl (And.intro (tGr.off hG t0 (k := 3) rfl) (And.intro (tin (tGr.len hG t0 (k := 3) rfl (by decide)) (tvi (by decide +kernel))) (show tWG K B 0 0 S (uI I5 63 11 v1) J6 53 [some (vR 61), some (vI v1), some (vI (I5 63 11))] [vI (I5 63 11)] from ?_))))))))))
      exact gIret hO hQ (by decide +kernel) ⟨rfl, h⟩
    · have h := h.2 c4
      refine gBk (pe := 30) hO [oI (.bipush (-3)) (-3)] (by decide +kernel) (show tWG K B 0 0 S I J 30 [some (vR 61), some (vI v1), none] [vI (-3)] from ?_)
      exact gIret hO hQ (by decide +kernel) ⟨rfl, h⟩
  · have h := h.2 c2
    refine gBk (pe := 13) hO [oI (.iconst (-1)) (-1)] (by decide +kernel) (show tWG K B 0 0 S I J 13 [some (vR 61), some (vI v1), none] [vI (-1)] from ?_)
    exact gIret hO hQ (by decide +kernel) ⟨rfl, h⟩)
set_option maxRecDepth 20000 in
theorem hc12_lane : tCV yX12_lane cX12_lane 2 (some .int) 1 := ⟨⟨(List.mem_of_getElem? (i := 1119) rfl), (List.mem_of_getElem? (i := 5) (by decide +kernel)), by decide +kernel⟩, (List.mem_of_getElem? (i := 1117) (by decide +kernel)), (List.mem_of_getElem? (i := 1118) (by decide +kernel))⟩
set_option maxRecDepth 100000 in
theorem M12_lane {l : Launch} {B : tB} {S : tSH} {I : tHI} {J : tHJ} {v1 : Int32} {n : Nat} {k : Int32 → tHI → tHJ → Prop} (t0 : ty S 61 12) (h : F12_lane n S I J v1 k) : Met l yX12_lane (tWs yX12_lane cX12_lane 2 (some .int)) (tRm 5 0 0) (tPc B [vR 61, vI v1] S I J) (tQi B (tPi S k)) 0 0 (tA B) :=
  tEntry (by decide +kernel) [some (vR 61), some (vI v1)] rfl rfl (Nat.le_of_ble_eq_true rfl) (fun K hl hR hO hQ hG => by
  subst hl
  refine gBk (pe := 8) hO [o0 (.aload_n 0), oI (.iconst 0) 0, oF (.putfield 161) 12 0 316 0, o0 (.aload_n 0), o0 (.aload_n 0), o0 (.iload_n 1)] (by decide +kernel) (And.intro t0 (show tWG K B 0 0 S (uI I 61 0 0) J 8 [some (vR 61), some (vI v1)] [vI v1, vR 61, vR 61] from ?_))
  refine gCVi_c hO (M12_laneNow t0 h) hc12_laneNow (idx := 526) (w := 1026) (by decide +kernel) hR (by omega) t0 ⟨by decide, rfl⟩ (vs := [vI v1]) (st := [vR 61]) ⟨rfl, Nat.le_of_ble_eq_true rfl, rfl⟩ (by decide +kernel) (fun x3 I1 J2 h => ?_)
  refine gCVi_c hO (M12_tell t0 h) hc12_tell (idx := 170) (w := 322) (by decide +kernel) hR (by omega) t0 ⟨by decide, rfl⟩ (vs := [vI x3]) (st := []) ⟨rfl, Nat.le_of_ble_eq_true rfl, rfl⟩ (by decide +kernel) (fun x6 I4 J5 h => ?_)
  exact gIret hO hQ (by decide +kernel) ⟨rfl, h⟩)
set_option maxRecDepth 100000 in
theorem W12_putNow_44 {K : tK} {B : tB} {S : tSH} {MC MS : Nat} (hO : tKO K B RX12 cX12_putNow 4) (hR : kR K = tRm 9 MC MS) (hG : tGr S) {n : Nat} (t0 : ty S 61 12) {k : Int32 → tHI → tHJ → Prop} (hQ : tRet K B (tQi B (tPi S k)) 0 0 (some .int)) {I : tHI} {J : tHJ} (h : F12_putNow_44 n S k I J) : tWG K B 0 0 S I J 44 [none, none, none, none] [] := by
  refine gBk (pe := 46) hO [oI (.bipush (-3)) (-3)] (by decide +kernel) (show tWG K B 0 0 S I J 46 [none, none, none, none] [vI (-3)] from ?_)
  exact gIret hO hQ (by decide +kernel) ⟨rfl, h⟩
set_option maxRecDepth 20000 in
theorem hc12_putNow : tCV yX12_putNow cX12_putNow 4 (some .int) 2 := ⟨⟨(List.mem_of_getElem? (i := 1037) rfl), (List.mem_of_getElem? (i := 5) (by decide +kernel)), by decide +kernel⟩, (List.mem_of_getElem? (i := 1035) (by decide +kernel)), (List.mem_of_getElem? (i := 1036) (by decide +kernel))⟩
set_option maxRecDepth 100000 in
theorem M12_putNow {l : Launch} {B : tB} {S : tSH} {I : tHI} {J : tHJ} {v1 : Int32} {v2 : Int32} {n : Nat} {k : Int32 → tHI → tHJ → Prop} (t0 : ty S 61 12) (h : F12_putNow n S I J v1 v2 k) : Met l yX12_putNow (tWs yX12_putNow cX12_putNow 4 (some .int)) (tRm 9 0 0) (tPc B [vR 61, vI v1, vI v2] S I J) (tQi B (tPi S k)) 0 0 (tA B) :=
  tEntry (by decide +kernel) [some (vR 61), some (vI v1), some (vI v2), none] rfl rfl (Nat.le_of_ble_eq_true rfl) (fun K hl hR hO hQ hG => by
  subst hl
  refine gBk (pe := 3) hO [o0 (.iload_n 2), o0 .i2l, oJ (.lconst 0) 0 0] (by decide +kernel) (show tWG K B 0 0 S I J 3 [some (vR 61), some (vI v1), some (vI v2), none] [vL 0, vL v2.toInt64] from ?_)
  refine gBk (pe := 6) hO [(.ldc2_w 190, (0, 0, 318, 0), 0, 3)] (by decide +kernel) (show tWG K B 0 0 S I J 6 [some (vR 61), some (vI v1), some (vI v2), none] [vL 3, vL 0, vL v2.toInt64] from ?_)
  refine gCSi_z hO (M12_in) hc12_in (idx := 181) (w := 319) (by decide +kernel) hR (by omega) (vs := [vL v2.toInt64, vL 0, vL 3]) (st := []) ⟨rfl, Nat.le_of_ble_eq_true rfl, rfl⟩ (by decide +kernel) (fun z1 => ?_)
  refine gIfNe hO (off := 5) (tgt := 14) (by decide +kernel) (by decide) (fun c2 => ?_) (fun c2 => ?_)
  · have h := h.1 c2
    refine gBk (pe := 16) hO [o0 (.aload_n 0), o0 (.iload_n 1)] (by decide +kernel) (show tWG K B 0 0 S I J 16 [some (vR 61), some (vI v1), some (vI v2), none] [vI v1, vR 61] from ?_)
    refine gCVi_z hO (M12_isLoad t0) hc12_isLoad (idx := 196) (w := 360) (by decide +kernel) hR (by omega) t0 ⟨by decide, rfl⟩ (vs := [vI v1]) (st := []) ⟨rfl, Nat.le_of_ble_eq_true rfl, rfl⟩ (by decide +kernel) (fun z3 => ?_)
    refine gIfNe hO (off := 6) (tgt := 25) (by decide +kernel) (by decide) (fun c4 => ?_) (fun c4 => ?_)
    · have h := h.1 c4
      refine gBk (pe := 28) hO [o0 (.aload_n 0), o0 (.iload_n 1), o0 (.iload_n 2)] (by decide +kernel) (show tWG K B 0 0 S I J 28 [some (vR 61), some (vI v1), some (vI v2), none] [vI v2, vI v1, vR 61] from ?_)
      refine gCVi_b hO (M12_isBanned t0 h) hc12_isBanned (idx := 202) (w := 390) (by decide +kernel) hR (by omega) t0 ⟨by decide, rfl⟩ (vs := [vI v1, vI v2]) (st := []) ⟨rfl, Nat.le_of_ble_eq_true rfl, rfl⟩ (by decide +kernel) (fun x7 I5 J6 z8 h => ?_)
      have h := h z8
      refine gIfNe hO (off := 13) (tgt := 44) (by decide +kernel) (by decide) (fun c9 => ?_) (fun c9 => ?_)
      · have h := h.1 c9
        exact gWeak (L' := [none, none, none, none]) trivial (W12_putNow_44 hO hR hG t0 hQ h)
      · have h := h.2 c9
        refine gBk (pe := 41) hO [o0 (.aload_n 0), oF (.getfield 13) 12 3 179 63, oI (.bipush 10) 10, o0 .iaload] (by decide +kernel) (And.intro t0 (And.intro rfl (And.intro (tGr.off hG t0 (k := 3) rfl) (And.intro (tin (tGr.len hG t0 (k := 3) rfl (by decide)) (tvi (by decide +kernel))) (show tWG K B 0 0 S I5 J6 41 [some (vR 61), some (vI v1), some (vI v2), none] [vI (I5 63 10)] from ?_)))))
        refine gIfLe hO (off := 6) (tgt := 47) (by decide +kernel) (by decide) (fun c10 => ?_) (fun c10 => ?_)
        · have h := h.1 c10
          refine gBk (pe := 49) hO [o0 (.aload_n 0), oI (.iconst 3) 3] (by decide +kernel) (show tWG K B 0 0 S I5 J6 49 [some (vR 61), some (vI v1), some (vI v2), none] [vI 3, vR 61] from ?_)
          refine gCVv_c hO (M12_remember t0 h) hc12_remember (idx := 515) (w := 1018) (by decide +kernel) hR (by omega) t0 ⟨by decide, rfl⟩ (vs := [vI 3]) (st := []) ⟨rfl, Nat.le_of_ble_eq_true rfl, rfl⟩ (by decide +kernel) (fun I11 J12 h => ?_)
          refine gBk (pe := 73) hO [o0 (.aload_n 0), oF (.getfield 13) 12 3 179 63, oI (.bipush 14) 14, o0 (.iload_n 1), o0 .iadd, o0 .iaload, o0 (.istore_n 3), o0 (.aload_n 0), oF (.getfield 13) 12 3 179 63, oI (.bipush 14) 14, o0 (.iload_n 1), o0 .iadd, o0 (.iload_n 2), o0 .iastore, o0 (.iload_n 3)] (by decide +kernel) (And.intro t0 (And.intro rfl (And.intro (tGr.off hG t0 (k := 3) rfl) (And.intro (tin (tGr.len hG t0 (k := 3) rfl (by decide)) h.1) (And.intro (Nat.le_of_ble_eq_true rfl) (And.intro t0 (And.intro rfl (And.intro (tGr.off hG t0 (k := 3) rfl) (And.intro (tin (tGr.len hG t0 (k := 3) rfl (by decide)) h.2.1) (show tWG K B 0 0 S (uI I11 63 (14 + v1).toNatClampNeg v2) J12 73 [some (vR 61), some (vI v1), some (vI v2), some (vI (I11 63 (14 + v1).toNatClampNeg))] [vI (I11 63 (14 + v1).toNatClampNeg)] from ?_))))))))))
          have h := h.2.2
          exact gIret hO hQ (by decide +kernel) ⟨rfl, h⟩
        · have h := h.2 c10
          exact gWeak (L' := [none, none, none, none]) trivial (W12_putNow_44 hO hR hG t0 hQ h)
    · have h := h.2 c4
      refine gBk (pe := 24) hO [oI (.bipush (-2)) (-2)] (by decide +kernel) (show tWG K B 0 0 S I J 24 [some (vR 61), some (vI v1), some (vI v2), none] [vI (-2)] from ?_)
      exact gIret hO hQ (by decide +kernel) ⟨rfl, h⟩
  · have h := h.2 c2
    refine gBk (pe := 13) hO [oI (.iconst (-1)) (-1)] (by decide +kernel) (show tWG K B 0 0 S I J 13 [some (vR 61), some (vI v1), some (vI v2), none] [vI (-1)] from ?_)
    exact gIret hO hQ (by decide +kernel) ⟨rfl, h⟩)
set_option maxRecDepth 20000 in
theorem hc12_put : tCV yX12_put cX12_put 3 (some .int) 2 := ⟨⟨(List.mem_of_getElem? (i := 1127) rfl), (List.mem_of_getElem? (i := 5) (by decide +kernel)), by decide +kernel⟩, (List.mem_of_getElem? (i := 1125) (by decide +kernel)), (List.mem_of_getElem? (i := 1126) (by decide +kernel))⟩
set_option maxRecDepth 100000 in
theorem M12_put {l : Launch} {B : tB} {S : tSH} {I : tHI} {J : tHJ} {v1 : Int32} {v2 : Int32} {n : Nat} {k : Int32 → tHI → tHJ → Prop} (t0 : ty S 61 12) (h : F12_put n S I J v1 v2 k) : Met l yX12_put (tWs yX12_put cX12_put 3 (some .int)) (tRm 10 0 0) (tPc B [vR 61, vI v1, vI v2] S I J) (tQi B (tPi S k)) 0 0 (tA B) :=
  tEntry (by decide +kernel) [some (vR 61), some (vI v1), some (vI v2)] rfl rfl (Nat.le_of_ble_eq_true rfl) (fun K hl hR hO hQ hG => by
  subst hl
  refine gBk (pe := 9) hO [o0 (.aload_n 0), oI (.iconst 0) 0, oF (.putfield 161) 12 0 316 0, o0 (.aload_n 0), o0 (.aload_n 0), o0 (.iload_n 1), o0 (.iload_n 2)] (by decide +kernel) (And.intro t0 (show tWG K B 0 0 S (uI I 61 0 0) J 9 [some (vR 61), some (vI v1), some (vI v2)] [vI v2, vI v1, vR 61, vR 61] from ?_))
  refine gCVi_c hO (M12_putNow t0 h) hc12_putNow (idx := 529) (w := 1034) (by decide +kernel) hR (by omega) t0 ⟨by decide, rfl⟩ (vs := [vI v1, vI v2]) (st := [vR 61]) ⟨rfl, Nat.le_of_ble_eq_true rfl, rfl⟩ (by decide +kernel) (fun x3 I1 J2 h => ?_)
  refine gCVi_c hO (M12_tell t0 h) hc12_tell (idx := 170) (w := 322) (by decide +kernel) hR (by omega) t0 ⟨by decide, rfl⟩ (vs := [vI x3]) (st := []) ⟨rfl, Nat.le_of_ble_eq_true rfl, rfl⟩ (by decide +kernel) (fun x6 I4 J5 h => ?_)
  exact gIret hO hQ (by decide +kernel) ⟨rfl, h⟩)
set_option maxRecDepth 20000 in
theorem hc12_leanNow : tCV yX12_leanNow cX12_leanNow 4 (some .int) 2 := ⟨⟨(List.mem_of_getElem? (i := 1041) rfl), (List.mem_of_getElem? (i := 5) (by decide +kernel)), by decide +kernel⟩, (List.mem_of_getElem? (i := 1039) (by decide +kernel)), (List.mem_of_getElem? (i := 1040) (by decide +kernel))⟩
set_option maxRecDepth 100000 in
theorem M12_leanNow {l : Launch} {B : tB} {S : tSH} {I : tHI} {J : tHJ} {v1 : Int32} {v2 : Int32} {n : Nat} {k : Int32 → tHI → tHJ → Prop} (t0 : ty S 61 12) (h : F12_leanNow n S I J v1 v2 k) : Met l yX12_leanNow (tWs yX12_leanNow cX12_leanNow 4 (some .int)) (tRm 4 0 0) (tPc B [vR 61, vI v1, vI v2] S I J) (tQi B (tPi S k)) 0 0 (tA B) :=
  tEntry (by decide +kernel) [some (vR 61), some (vI v1), some (vI v2), none] rfl rfl (Nat.le_of_ble_eq_true rfl) (fun K hl hR hO hQ hG => by
  subst hl
  refine gBk (pe := 2) hO [o0 (.iload_n 2), o0 .i2l] (by decide +kernel) (show tWG K B 0 0 S I J 2 [some (vR 61), some (vI v1), some (vI v2), none] [vL v2.toInt64] from ?_)
  refine gBk (pe := 5) hO [(.ldc2_w 532, (0, 0, 1042, 0), 0, (-2))] (by decide +kernel) (show tWG K B 0 0 S I J 5 [some (vR 61), some (vI v1), some (vI v2), none] [vL (-2), vL v2.toInt64] from ?_)
  refine gBk (pe := 8) hO [(.ldc2_w 524, (0, 0, 1030, 0), 0, 2)] (by decide +kernel) (show tWG K B 0 0 S I J 8 [some (vR 61), some (vI v1), some (vI v2), none] [vL 2, vL (-2), vL v2.toInt64] from ?_)
  refine gCSi_z hO (M12_in) hc12_in (idx := 181) (w := 319) (by decide +kernel) hR (by omega) (vs := [vL v2.toInt64, vL (-2), vL 2]) (st := []) ⟨rfl, Nat.le_of_ble_eq_true rfl, rfl⟩ (by decide +kernel) (fun z1 => ?_)
  refine gIfNe hO (off := 5) (tgt := 16) (by decide +kernel) (by decide) (fun c2 => ?_) (fun c2 => ?_)
  · have h := h.1 c2
    refine gBk (pe := 18) hO [o0 (.aload_n 0), o0 (.iload_n 1)] (by decide +kernel) (show tWG K B 0 0 S I J 18 [some (vR 61), some (vI v1), some (vI v2), none] [vI v1, vR 61] from ?_)
    refine gCVi_z hO (M12_isLoad t0) hc12_isLoad (idx := 196) (w := 360) (by decide +kernel) hR (by omega) t0 ⟨by decide, rfl⟩ (vs := [vI v1]) (st := []) ⟨rfl, Nat.le_of_ble_eq_true rfl, rfl⟩ (by decide +kernel) (fun z3 => ?_)
    refine gIfNe hO (off := 6) (tgt := 27) (by decide +kernel) (by decide) (fun c4 => ?_) (fun c4 => ?_)
    · have h := h.1 c4
      refine gBk (pe := 36) hO [o0 (.aload_n 0), oF (.getfield 13) 12 3 179 63, oI (.bipush 32) 32, o0 (.iload_n 1), o0 .iadd, o0 .iaload] (by decide +kernel) (And.intro t0 (And.intro rfl (And.intro (tGr.off hG t0 (k := 3) rfl) (And.intro (tin (tGr.len hG t0 (k := 3) rfl (by decide)) h.1) (show tWG K B 0 0 S I J 36 [some (vR 61), some (vI v1), some (vI v2), none] [vI (I 63 (32 + v1).toNatClampNeg)] from ?_)))))
      have h := h.2
      refine gIfNe hO (off := 6) (tgt := 42) (by decide +kernel) (by decide) (fun c5 => ?_) (fun c5 => ?_)
      · have h := h.1 c5
        refine gBk (pe := 44) hO [o0 (.aload_n 0), oI (.iconst 4) 4] (by decide +kernel) (show tWG K B 0 0 S I J 44 [some (vR 61), some (vI v1), some (vI v2), none] [vI 4, vR 61] from ?_)
        refine gCVv_c hO (M12_remember t0 h) hc12_remember (idx := 515) (w := 1018) (by decide +kernel) hR (by omega) t0 ⟨by decide, rfl⟩ (vs := [vI 4]) (st := []) ⟨rfl, Nat.le_of_ble_eq_true rfl, rfl⟩ (by decide +kernel) (fun I6 J7 h => ?_)
        refine gBk (pe := 70) hO [o0 (.aload_n 0), oF (.getfield 13) 12 3 179 63, oI (.bipush 20) 20, o0 (.iload_n 1), o0 .iadd, o0 .iaload, o0 (.istore_n 3), o0 (.aload_n 0), oF (.getfield 13) 12 3 179 63, oI (.bipush 20) 20, o0 (.iload_n 1), o0 .iadd, o0 (.iload_n 2), o0 .iastore, o0 (.iload_n 3), oI (.iconst 2) 2, o0 .iadd] (by decide +kernel) (And.intro t0 (And.intro rfl (And.intro (tGr.off hG t0 (k := 3) rfl) (And.intro (tin (tGr.len hG t0 (k := 3) rfl (by decide)) h.1) (And.intro (Nat.le_of_ble_eq_true rfl) (And.intro t0 (And.intro rfl (And.intro (tGr.off hG t0 (k := 3) rfl) (And.intro (tin (tGr.len hG t0 (k := 3) rfl (by decide)) h.2.1) (show tWG K B 0 0 S (uI I6 63 (20 + v1).toNatClampNeg v2) J7 70 [some (vR 61), some (vI v1), some (vI v2), some (vI (I6 63 (20 + v1).toNatClampNeg))] [vI ((I6 63 (20 + v1).toNatClampNeg) + 2)] from ?_))))))))))
        have h := h.2.2
        exact gIret hO hQ (by decide +kernel) ⟨rfl, h⟩
      · have h := h.2 c5
        refine gBk (pe := 41) hO [oI (.bipush (-3)) (-3)] (by decide +kernel) (show tWG K B 0 0 S I J 41 [some (vR 61), some (vI v1), some (vI v2), none] [vI (-3)] from ?_)
        exact gIret hO hQ (by decide +kernel) ⟨rfl, h⟩
    · have h := h.2 c4
      refine gBk (pe := 26) hO [oI (.bipush (-2)) (-2)] (by decide +kernel) (show tWG K B 0 0 S I J 26 [some (vR 61), some (vI v1), some (vI v2), none] [vI (-2)] from ?_)
      exact gIret hO hQ (by decide +kernel) ⟨rfl, h⟩
  · have h := h.2 c2
    refine gBk (pe := 15) hO [oI (.iconst (-1)) (-1)] (by decide +kernel) (show tWG K B 0 0 S I J 15 [some (vR 61), some (vI v1), some (vI v2), none] [vI (-1)] from ?_)
    exact gIret hO hQ (by decide +kernel) ⟨rfl, h⟩)
