def F8_addLaw (S : tSH) (I : tHI) (J : tHJ) (a a1 : Nat) (k : Int32 → tSH → tHI → tHJ → Prop) : Prop := ((I a 4) < 6 → vp_in (I a 4) 6 ∧ k (((uI I a 4 ((I a 4) + 1)) a 4) - 1) (uQ S (a + 15) (I a 4).toNatClampNeg (some a1)) (uI I a 4 ((I a 4) + 1)) J) ∧ (¬ (I a 4) < 6 → k (-5) S I J)
set_option maxRecDepth 20000 in
theorem hc8_addLaw : tCV yX8_addLaw cX8_addLaw 2 (some .int) 1 := ⟨⟨(List.mem_of_getElem? (i := 761) rfl), (List.mem_of_getElem? (i := 14) (by decide +kernel)), by decide +kernel⟩, (List.mem_of_getElem? (i := 759) (by decide +kernel)), (List.mem_of_getElem? (i := 760) (by decide +kernel))⟩
set_option maxRecDepth 100000 in
theorem M8_addLaw {l : Launch} {B : tB} {S : tSH} {I : tHI} {J : tHJ} {a a1 : Nat} {k : Int32 → tSH → tHI → tHJ → Prop} (t0 : ty S a 8) (t1 : ty S a1 6) (h : F8_addLaw S I J a a1 k) : Met l yX8_addLaw (tWs yX8_addLaw cX8_addLaw 2 (some .int)) (tRm 2 0 0) (tPc B [vR a, vR a1] S I J) (tQi B (fun v u => k v u.1 u.2.1 u.2.2 ∧ tGr u.1)) 0 0 (tA B) :=
  tEntry (by decide +kernel) [some (vR a), some (vR a1)] rfl rfl (Nat.le_of_ble_eq_true rfl) (fun K hl hR hO hQ hG => by
  subst hl
  refine gBk (pe := 6) hO [o0 (.aload_n 0), oF (.getfield 38) 8 4 71 0, oI (.bipush 6) 6] (by decide +kernel) (And.intro t0 (show tWG K B 0 0 S I J 6 [some (vR a), some (vR a1)] [vI 6, vI (I a 4)] from ?_))
  refine gIcLt hO (off := 6) (tgt := 12) (by decide +kernel) (by decide) (fun c => ?_) (fun c => ?_)
  · refine gBk (pe := 21) hO [o0 (.aload_n 0), oF (.getfield 34) 8 3 70 0, o0 (.aload_n 0), oF (.getfield 38) 8 4 71 0, o0 (.aload_n 1)] (by decide +kernel) (And.intro t0 (And.intro t0 (show tWG K B 0 0 S I J 21 [some (vR a), some (vR a1)] [vR a1, vI (I a 4), vR (a + 15)] from ?_)))
    have h := h.1 c
    have f := (tGr.off hG t0 (k := 3) rfl)
    refine s_aast hO (i' := (I a 4).toNatClampNeg) (o := some a1) (Or.inr ⟨rfl, rfl⟩) f (fun x hx => by cases hx; exact t1) (tin (tGr.len hG t0 (k := 3) rfl (by decide)) h.1) rfl (by decide +kernel) ?_
    have hG2 : tGr (uQ S (a + 15) (I a 4).toNatClampNeg (some a1)) := tGr_uQ hG (fun t ht x hx => by
      have e : t = 44 := ht.2.symm.trans f.2
      cases hx
      exact ⟨fun q => by omega, fun q => by omega, fun _ => t1⟩)
    refine gBk (pe := 38) hO [o0 (.aload_n 0), o0 .dup, oF (.getfield 38) 8 4 71 0, oI (.iconst 1) 1, o0 .iadd, oF (.putfield 38) 8 4 71 0, o0 (.aload_n 0), oF (.getfield 38) 8 4 71 0, oI (.iconst 1) 1, o0 .isub] (by decide +kernel) (And.intro t0 (And.intro t0 (And.intro t0 (show tWG K B 0 0 (uQ S (a + 15) (I a 4).toNatClampNeg (some a1)) (uI I a 4 ((I a 4) + 1)) J 38 [some (vR a), some (vR a1)] [vI (((uI I a 4 ((I a 4) + 1)) a 4) - 1)] from ?_))))
    exact gIret hO hQ (by decide +kernel) ⟨h.2, hG2⟩
  · refine gBk (pe := 11) hO [oI (.bipush (-5)) (-5)] (by decide +kernel) (show tWG K B 0 0 S I J 11 [some (vR a), some (vR a1)] [vI (-5)] from ?_)
    exact gIret hO hQ (by decide +kernel) ⟨h.2 c, hG⟩)
