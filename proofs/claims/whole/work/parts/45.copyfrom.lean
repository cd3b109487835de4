def F8_copyFrom_L (k : tSH → tHI → tHJ → Prop) (a a1 : Nat) (I : tHI) (J : tHJ) : Nat → tSH → Int32 → Prop
  | 0, _, _ => False
  | f + 1, S, v2 => (6 ≤ v2 → k S (uI (uI I a 4 (I a1 4)) a 5 ((uI I a 4 (I a1 4)) a1 5)) J) ∧ (¬ 6 ≤ v2 → vp_in v2 6 ∧ F8_copyFrom_L k a a1 I J f (uQ S (a + 15) v2.toNatClampNeg (sQ S (a1 + 15) v2.toNatClampNeg)) (v2 + 1))
def F8_copyFrom (n : Nat) (S : tSH) (I : tHI) (J : tHJ) (a a1 : Nat) (k : tSH → tHI → tHJ → Prop) : Prop := F3_copyFrom n S I J (a + 1) (a1 + 1) (fun I1 J2 => F7_copyFrom n S I1 J2 (a + 6) (a1 + 6) (fun I3 J4 => F10_copyFrom n S I3 J4 (a + 14) (a1 + 14) (fun I5 J6 => F8_copyFrom_L k a a1 I5 J6 n S 0)))
set_option maxRecDepth 20000 in
theorem hc8_copyFrom : tCV yX8_copyFrom cX8_copyFrom 3 none 1 := ⟨⟨(List.mem_of_getElem? (i := 899) rfl), (List.mem_of_getElem? (i := 14) (by decide +kernel)), by decide +kernel⟩, (List.mem_of_getElem? (i := 897) (by decide +kernel)), (List.mem_of_getElem? (i := 898) (by decide +kernel))⟩
set_option maxRecDepth 100000 in
theorem W8_copyFrom_L {K : tK} {B : tB} {MC MS : Nat} (hO : tKO K B RX8 cX8_copyFrom 3) (hR : kR K = tRm 3 MC MS) {a a1 : Nat} {I : tHI} {J : tHJ} {k : tSH → tHI → tHJ → Prop} (hQ : tRet K B (tQv B (fun u => k u.1 u.2.1 u.2.2 ∧ tGr u.1)) 0 0 none) : ∀ (f : Nat) (S : tSH) (v2 : Int32), ty S a 8 → ty S a1 8 → tGr S → F8_copyFrom_L k a a1 I J f S v2 → tWG K B 0 0 S I J 35 [some (vR a), some (vR a1), some (vI v2)] [] := by
  intro f
  induction f with
  | zero => intro S v2 t0 t1 hG h; exact h.elim
  | succ f ih =>
    intro S v2 t0 t1 hG h
    refine gBk (pe := 38) hO [o0 (.iload_n 2), oI (.bipush 6) 6] (by decide +kernel) (show tWG K B 0 0 S I J 38 [some (vR a), some (vR a1), some (vI v2)] [vI 6, vI v2] from ?_)
    refine gIcGe hO (off := 21) (tgt := 59) (by decide +kernel) (by decide) (fun c => ?_) (fun c => ?_)
    · refine gBk (pe := 75) hO [o0 (.aload_n 0), o0 (.aload_n 1), oF (.getfield 38) 8 4 71 0, oF (.putfield 38) 8 4 71 0, o0 (.aload_n 0), o0 (.aload_n 1), oF (.getfield 42) 8 5 72 0, oF (.putfield 42) 8 5 72 0] (by decide +kernel) (And.intro t1 (And.intro t0 (And.intro t1 (And.intro t0 (show tWG K B 0 0 S (uI (uI I a 4 (I a1 4)) a 5 ((uI I a 4 (I a1 4)) a1 5)) J 75 [some (vR a), some (vR a1), some (vI v2)] [] from ?_)))))
      exact gVret hO hQ (by decide +kernel) ⟨h.1 c, hG⟩
    · have h := h.2 c
      have f0 := (tGr.off hG t0 (k := 3) rfl)
      have f1 := (tGr.off hG t1 (k := 3) rfl)
      refine gBk (pe := 52) hO [o0 (.aload_n 0), oF (.getfield 34) 8 3 70 0, o0 (.iload_n 2), o0 (.aload_n 1), oF (.getfield 34) 8 3 70 0, o0 (.iload_n 2), oF .aaload 44 0 0 0] (by decide +kernel) (And.intro t0 (And.intro t1 (And.intro (tGr.off hG t1 (k := 3) rfl) (And.intro (tin (tGr.len hG t1 (k := 3) rfl (by decide)) h.1) (show tWG K B 0 0 S I J 52 [some (vR a), some (vR a1), some (vI v2)] [vO (sQ S (a1 + 15) v2.toNatClampNeg), vI v2, vR (a + 15)] from ?_)))))
      refine s_aast hO (i' := v2.toNatClampNeg) (o := (sQ S (a1 + 15) v2.toNatClampNeg)) (Or.inr ⟨rfl, rfl⟩) f0 (fun x hx => (hG _ _ f1).2.2 rfl _ _ hx) (tin (tGr.len hG t0 (k := 3) rfl (by decide)) h.1) rfl (by decide +kernel) ?_
      have hG2 : tGr (uQ S (a + 15) v2.toNatClampNeg (sQ S (a1 + 15) v2.toNatClampNeg)) := tGr_uQ hG (fun t ht x hx => by
        have e : t = 44 := ht.2.symm.trans f0.2
        exact ⟨fun q => by omega, fun q => by omega, fun _ => (hG _ _ f1).2.2 rfl _ _ hx⟩)
      refine gBk (pe := 35) hO [oI (.iinc 2 1) 1, o0 (.goto (-21))] (by decide +kernel) (show tWG K B 0 0 (uQ S (a + 15) v2.toNatClampNeg (sQ S (a1 + 15) v2.toNatClampNeg)) I J 35 [some (vR a), some (vR a1), some (vI (v2 + 1))] [] from ?_)
      exact ih _ _ t0 t1 hG2 h.2
set_option maxRecDepth 100000 in
theorem M8_copyFrom {l : Launch} {B : tB} {S : tSH} {I : tHI} {J : tHJ} {a a1 n : Nat} {k : tSH → tHI → tHJ → Prop} (t0 : ty S a 8) (t1 : ty S a1 8) (h : F8_copyFrom n S I J a a1 k) : Met l yX8_copyFrom (tWs yX8_copyFrom cX8_copyFrom 3 none) (tRm 3 0 0) (tPc B [vR a, vR a1] S I J) (tQv B (fun u => k u.1 u.2.1 u.2.2 ∧ tGr u.1)) 0 0 (tA B) :=
  tEntry (by decide +kernel) [some (vR a), some (vR a1), none] rfl rfl (Nat.le_of_ble_eq_true rfl) (fun K hl hR hO hQ hG => by
  subst hl
  refine gBk (pe := 8) hO [o0 (.aload_n 0), oF (.getfield 12) 8 0 62 0, o0 (.aload_n 1), oF (.getfield 12) 8 0 62 0] (by decide +kernel) (And.intro t0 (And.intro t1 (show tWG K B 0 0 S I J 8 [some (vR a), some (vR a1), none] [vR (a1 + 1), vR (a + 1)] from ?_)))
  refine gCVv_c hO (M3_copyFrom (tGr.off hG t0 (k := 0) rfl) (tGr.off hG t1 (k := 0) rfl) h) hc3_copyFrom (idx := 45) (w := 900) (by decide +kernel) hR (by omega) (tGr.off hG t0 (k := 0) rfl) ⟨by decide, rfl⟩ (vs := [vR (a1 + 1)]) (st := []) ⟨rfl, Nat.le_of_ble_eq_true rfl, rfl⟩ (by decide +kernel) (fun I1 J2 h => ?_)
  refine gBk (pe := 19) hO [o0 (.aload_n 0), oF (.getfield 21) 8 1 66 0, o0 (.aload_n 1), oF (.getfield 21) 8 1 66 0] (by decide +kernel) (And.intro t0 (And.intro t1 (show tWG K B 0 0 S I1 J2 19 [some (vR a), some (vR a1), none] [vR (a1 + 6), vR (a + 6)] from ?_)))
  refine gCVv_c hO (M7_copyFrom (tGr.off hG t0 (k := 1) rfl) (tGr.off hG t1 (k := 1) rfl) h) hc7_copyFrom (idx := 49) (w := 905) (by decide +kernel) hR (by omega) (tGr.off hG t0 (k := 1) rfl) ⟨by decide, rfl⟩ (vs := [vR (a1 + 6)]) (st := []) ⟨rfl, Nat.le_of_ble_eq_true rfl, rfl⟩ (by decide +kernel) (fun I3 J4 h => ?_)
  refine gBk (pe := 30) hO [o0 (.aload_n 0), oF (.getfield 28) 8 2 68 0, o0 (.aload_n 1), oF (.getfield 28) 8 2 68 0] (by decide +kernel) (And.intro t0 (And.intro t1 (show tWG K B 0 0 S I3 J4 30 [some (vR a), some (vR a1), none] [vR (a1 + 14), vR (a + 14)] from ?_)))
  refine gCVv_c hO (M10_copyFrom (tGr.off hG t0 (k := 2) rfl) (tGr.off hG t1 (k := 2) rfl) h) hc10_copyFrom (idx := 52) (w := 910) (by decide +kernel) hR (by omega) (tGr.off hG t0 (k := 2) rfl) ⟨by decide, rfl⟩ (vs := [vR (a1 + 14)]) (st := []) ⟨rfl, Nat.le_of_ble_eq_true rfl, rfl⟩ (by decide +kernel) (fun I5 J6 h => ?_)
  refine gBk (pe := 35) hO [oI (.iconst 0) 0, o0 (.istore_n 2)] (by decide +kernel) (And.intro (Nat.le_of_ble_eq_true rfl) (show tWG K B 0 0 S I5 J6 35 [some (vR a), some (vR a1), some (vI 0)] [] from ?_))
  exact W8_copyFrom_L hO hR hQ n S 0 t0 t1 hG h)
