set_option maxRecDepth 20000 in
theorem hc12_reckon : tCV yX12_reckon cX12_reckon 6 (some .long) 3 := ⟨⟨(List.mem_of_getElem? (i := 367) rfl), (List.mem_of_getElem? (i := 5) (by decide +kernel)), by decide +kernel⟩, (List.mem_of_getElem? (i := 365) (by decide +kernel)), (List.mem_of_getElem? (i := 366) (by decide +kernel))⟩
set_option maxRecDepth 100000 in
theorem M12_reckon {l : Launch} {B : tB} {S : tSH} {I : tHI} {J : tHJ} {v1 : Int32} {w2 : Int64} {w4 : Int64} {n : Nat} {k : Int64 → tHI → tHJ → Prop} (t0 : ty S 61 12) (h : F12_reckon n S I J v1 w2 w4 k) : Met l yX12_reckon (tWs yX12_reckon cX12_reckon 6 (some .long)) (tRm 2 0 0) (tPc B [vR 61, vI v1, vL w2, vL w4] S I J) (tQl B (tPl S k)) 0 0 (tA B) :=
  tEntry (by decide +kernel) [some (vR 61), some (vI v1), some (vL w2), none, some (vL w4), none] rfl rfl (Nat.le_of_ble_eq_true rfl) (fun K hl hR hO hQ hG => by
  subst hl
  refine gBk (pe := 1) hO [o0 (.iload_n 1)] (by decide +kernel) (show tWG K B 0 0 S I J 1 [some (vR 61), some (vI v1), some (vL w2), none, some (vL w4), none] [vI v1] from ?_)
  by_cases c1 : v1 = 20
  · have h := h.1 c1
    refine gSwIn hO (dflt := 148) (lo := 20) (hi := 26) (offs := #[43, 48, 53, 58, 90, 122, 135]) (len := 43) (off := 43) (tgt := 44) 20 c1 (by decide +kernel) (by decide +kernel) ?_
    refine gBk (pe := 48) hO [o0 (.lload_n 2), o0 (.lload 4), o0 .ladd] (by decide +kernel) (show tWG K B 0 0 S I J 48 [some (vR 61), some (vI v1), some (vL w2), none, some (vL w4), none] [vL (w2 + w4)] from ?_)
    exact gLret hO hQ (by decide +kernel) ⟨rfl, h⟩
  have h := h.2
  by_cases c2 : v1 = 21
  · have h := h.1 c2
    refine gSwIn hO (dflt := 148) (lo := 20) (hi := 26) (offs := #[43, 48, 53, 58, 90, 122, 135]) (len := 43) (off := 48) (tgt := 49) 21 c2 (by decide +kernel) (by decide +kernel) ?_
    refine gBk (pe := 53) hO [o0 (.lload_n 2), o0 (.lload 4), o0 .lsub] (by decide +kernel) (show tWG K B 0 0 S I J 53 [some (vR 61), some (vI v1), some (vL w2), none, some (vL w4), none] [vL (w2 - w4)] from ?_)
    exact gLret hO hQ (by decide +kernel) ⟨rfl, h⟩
  have h := h.2
  by_cases c3 : v1 = 22
  · have h := h.1 c3
    refine gSwIn hO (dflt := 148) (lo := 20) (hi := 26) (offs := #[43, 48, 53, 58, 90, 122, 135]) (len := 43) (off := 53) (tgt := 54) 22 c3 (by decide +kernel) (by decide +kernel) ?_
    refine gBk (pe := 58) hO [o0 (.lload_n 2), o0 (.lload 4), o0 .lmul] (by decide +kernel) (show tWG K B 0 0 S I J 58 [some (vR 61), some (vI v1), some (vL w2), none, some (vL w4), none] [vL (w2 * w4)] from ?_)
    exact gLret hO hQ (by decide +kernel) ⟨rfl, h⟩
  have h := h.2
  by_cases c4 : v1 = 23
  · have h := h.1 c4
    refine gSwIn hO (dflt := 148) (lo := 20) (hi := 26) (offs := #[43, 48, 53, 58, 90, 122, 135]) (len := 43) (off := 58) (tgt := 59) 23 c4 (by decide +kernel) (by decide +kernel) ?_
    refine gBk (pe := 64) hO [o0 (.aload_n 0), o0 (.lload 4), oJ (.lconst 0) 0 0, o0 .lcmp] (by decide +kernel) (show tWG K B 0 0 S I J 64 [some (vR 61), some (vI v1), some (vL w2), none, some (vL w4), none] [vI (lg_cmp w4 0), vR 61] from ?_)
    have hj5 : ∀ (m6 : Int32), m6 = (if (lg_cmp w4 0) = 0 then (1 : Int32) else 0) → tWG K B 0 0 S I J 72 [some (vR 61), none, some (vL w2), none, some (vL w4), none] [vI m6, vR 61] := by
      intro m6 em6
      subst em6
      refine gBk (pe := 79) hO [oF (.putfield 413) 12 38 342 0, o0 (.aload_n 0), oF (.getfield 413) 12 38 342 0] (by decide +kernel) (And.intro t0 (And.intro (bz_if (Or.inr rfl) (Or.inl rfl)) (And.intro t0 (show tWG K B 0 0 S (uI I 61 38 (if (lg_cmp w4 0) = 0 then (1 : Int32) else 0)) J 79 [some (vR 61), none, some (vL w2), none, some (vL w4), none] [vI ((uI I 61 38 (if (lg_cmp w4 0) = 0 then (1 : Int32) else 0)) 61 38)] from ?_))))
      have hj8 : ∀ (m9 : Int64), m9 = (if ((uI I 61 38 (if (lg_cmp w4 0) = 0 then (1 : Int32) else 0)) 61 38) = 0 then (w2 / w4) else 0) → tWG K B 0 0 S (uI I 61 38 (if (lg_cmp w4 0) = 0 then (1 : Int32) else 0)) J 90 [none, none, none, none, none, none] [vL m9] := by
        intro m9 em9
        subst em9
        have h := h.2
        exact gLret hO hQ (by decide +kernel) ⟨rfl, h⟩
      have h := h.1
      refine gIfEq hO (off := 7) (tgt := 86) (by decide +kernel) (by decide) (fun c10 => ?_) (fun c10 => ?_)
      · have h := h.1 c10
        refine gBk (pe := 90) hO [o0 (.lload_n 2), o0 (.lload 4), o0 .ldiv] (by decide +kernel) (And.intro h.1 (show tWG K B 0 0 S (uI I 61 38 (if (lg_cmp w4 0) = 0 then (1 : Int32) else 0)) J 90 [some (vR 61), none, some (vL w2), none, some (vL w4), none] [vL (w2 / w4)] from ?_))
        have h := h.2
        exact gWeak (L' := [none, none, none, none, none, none]) trivial (hj8 _ (Eq.symm (if_pos c10)))
      · have h := h.2 c10
        refine gBk (pe := 90) hO [oJ (.lconst 0) 0 0, o0 (.goto 7)] (by decide +kernel) (show tWG K B 0 0 S (uI I 61 38 (if (lg_cmp w4 0) = 0 then (1 : Int32) else 0)) J 90 [some (vR 61), none, some (vL w2), none, some (vL w4), none] [vL 0] from ?_)
        exact gWeak (L' := [none, none, none, none, none, none]) trivial (hj8 _ (Eq.symm (if_neg c10)))
    refine gIfNe hO (off := 7) (tgt := 71) (by decide +kernel) (by decide) (fun c7 => ?_) (fun c7 => ?_)
    · refine gBk (pe := 72) hO [oI (.iconst 0) 0] (by decide +kernel) (show tWG K B 0 0 S I J 72 [some (vR 61), some (vI v1), some (vL w2), none, some (vL w4), none] [vI 0, vR 61] from ?_)
      exact gWeak (L' := [some (vR 61), none, some (vL w2), none, some (vL w4), none]) ⟨rfl, rfl, rfl, trivial⟩ (hj5 _ (Eq.symm (if_neg c7)))
    · refine gBk (pe := 72) hO [oI (.iconst 1) 1, o0 (.goto 4)] (by decide +kernel) (show tWG K B 0 0 S I J 72 [some (vR 61), some (vI v1), some (vL w2), none, some (vL w4), none] [vI 1, vR 61] from ?_)
      exact gWeak (L' := [some (vR 61), none, some (vL w2), none, some (vL w4), none]) ⟨rfl, rfl, rfl, trivial⟩ (hj5 _ (Eq.symm (if_pos c7)))
  have h := h.2
  by_cases c11 : v1 = 24
  · have h := h.1 c11
    refine gSwIn hO (dflt := 148) (lo := 20) (hi := 26) (offs := #[43, 48, 53, 58, 90, 122, 135]) (len := 43) (off := 90) (tgt := 91) 24 c11 (by decide +kernel) (by decide +kernel) ?_
    refine gBk (pe := 96) hO [o0 (.aload_n 0), o0 (.lload 4), oJ (.lconst 0) 0 0, o0 .lcmp] (by decide +kernel) (show tWG K B 0 0 S I J 96 [some (vR 61), some (vI v1), some (vL w2), none, some (vL w4), none] [vI (lg_cmp w4 0), vR 61] from ?_)
    have hj12 : ∀ (m13 : Int32), m13 = (if (lg_cmp w4 0) = 0 then (1 : Int32) else 0) → tWG K B 0 0 S I J 104 [some (vR 61), none, some (vL w2), none, some (vL w4), none] [vI m13, vR 61] := by
      intro m13 em13
      subst em13
      refine gBk (pe := 111) hO [oF (.putfield 413) 12 38 342 0, o0 (.aload_n 0), oF (.getfield 413) 12 38 342 0] (by decide +kernel) (And.intro t0 (And.intro (bz_if (Or.inr rfl) (Or.inl rfl)) (And.intro t0 (show tWG K B 0 0 S (uI I 61 38 (if (lg_cmp w4 0) = 0 then (1 : Int32) else 0)) J 111 [some (vR 61), none, some (vL w2), none, some (vL w4), none] [vI ((uI I 61 38 (if (lg_cmp w4 0) = 0 then (1 : Int32) else 0)) 61 38)] from ?_))))
      have hj15 : ∀ (m16 : Int64), m16 = (if ((uI I 61 38 (if (lg_cmp w4 0) = 0 then (1 : Int32) else 0)) 61 38) = 0 then (w2 - w2 / w4 * w4) else 0) → tWG K B 0 0 S (uI I 61 38 (if (lg_cmp w4 0) = 0 then (1 : Int32) else 0)) J 122 [none, none, none, none, none, none] [vL m16] := by
        intro m16 em16
        subst em16
        have h := h.2
        exact gLret hO hQ (by decide +kernel) ⟨rfl, h⟩
      have h := h.1
      refine gIfEq hO (off := 7) (tgt := 118) (by decide +kernel) (by decide) (fun c17 => ?_) (fun c17 => ?_)
      · have h := h.1 c17
        refine gBk (pe := 122) hO [o0 (.lload_n 2), o0 (.lload 4), o0 .lrem] (by decide +kernel) (And.intro h.1 (show tWG K B 0 0 S (uI I 61 38 (if (lg_cmp w4 0) = 0 then (1 : Int32) else 0)) J 122 [some (vR 61), none, some (vL w2), none, some (vL w4), none] [vL (w2 - w2 / w4 * w4)] from ?_))
        have h := h.2
        exact gWeak (L' := [none, none, none, none, none, none]) trivial (hj15 _ (Eq.symm (if_pos c17)))
      · have h := h.2 c17
        refine gBk (pe := 122) hO [oJ (.lconst 0) 0 0, o0 (.goto 7)] (by decide +kernel) (show tWG K B 0 0 S (uI I 61 38 (if (lg_cmp w4 0) = 0 then (1 : Int32) else 0)) J 122 [some (vR 61), none, some (vL w2), none, some (vL w4), none] [vL 0] from ?_)
        exact gWeak (L' := [none, none, none, none, none, none]) trivial (hj15 _ (Eq.symm (if_neg c17)))
    refine gIfNe hO (off := 7) (tgt := 103) (by decide +kernel) (by decide) (fun c14 => ?_) (fun c14 => ?_)
    · refine gBk (pe := 104) hO [oI (.iconst 0) 0] (by decide +kernel) (show tWG K B 0 0 S I J 104 [some (vR 61), some (vI v1), some (vL w2), none, some (vL w4), none] [vI 0, vR 61] from ?_)
      exact gWeak (L' := [some (vR 61), none, some (vL w2), none, some (vL w4), none]) ⟨rfl, rfl, rfl, trivial⟩ (hj12 _ (Eq.symm (if_neg c14)))
    · refine gBk (pe := 104) hO [oI (.iconst 1) 1, o0 (.goto 4)] (by decide +kernel) (show tWG K B 0 0 S I J 104 [some (vR 61), some (vI v1), some (vL w2), none, some (vL w4), none] [vI 1, vR 61] from ?_)
      exact gWeak (L' := [some (vR 61), none, some (vL w2), none, some (vL w4), none]) ⟨rfl, rfl, rfl, trivial⟩ (hj12 _ (Eq.symm (if_pos c14)))
  have h := h.2
  by_cases c18 : v1 = 25
  · have h := h.1 c18
    refine gSwIn hO (dflt := 148) (lo := 20) (hi := 26) (offs := #[43, 48, 53, 58, 90, 122, 135]) (len := 43) (off := 122) (tgt := 123) 25 c18 (by decide +kernel) (by decide +kernel) ?_
    refine gBk (pe := 127) hO [o0 (.lload_n 2), o0 (.lload 4), o0 .lcmp] (by decide +kernel) (show tWG K B 0 0 S I J 127 [some (vR 61), some (vI v1), some (vL w2), none, some (vL w4), none] [vI (lg_cmp w2 w4)] from ?_)
    have hj19 : ∀ (m20 : Int64), m20 = (if 0 ≤ (lg_cmp w2 w4) then (0 : Int64) else 1) → tWG K B 0 0 S I J 135 [none, none, none, none, none, none] [vL m20] := by
      intro m20 em20
      subst em20
      exact gLret hO hQ (by decide +kernel) ⟨rfl, h⟩
    refine gIfGe hO (off := 7) (tgt := 134) (by decide +kernel) (by decide) (fun c21 => ?_) (fun c21 => ?_)
    · refine gBk (pe := 135) hO [oJ (.lconst 0) 0 0] (by decide +kernel) (show tWG K B 0 0 S I J 135 [some (vR 61), some (vI v1), some (vL w2), none, some (vL w4), none] [vL 0] from ?_)
      exact gWeak (L' := [none, none, none, none, none, none]) trivial (hj19 _ (Eq.symm (if_pos c21)))
    · refine gBk (pe := 135) hO [oJ (.lconst 1) 0 1, o0 (.goto 4)] (by decide +kernel) (show tWG K B 0 0 S I J 135 [some (vR 61), some (vI v1), some (vL w2), none, some (vL w4), none] [vL 1] from ?_)
      exact gWeak (L' := [none, none, none, none, none, none]) trivial (hj19 _ (Eq.symm (if_neg c21)))
  have h := h.2
  by_cases c22 : v1 = 26
  · have h := h.1 c22
    refine gSwIn hO (dflt := 148) (lo := 20) (hi := 26) (offs := #[43, 48, 53, 58, 90, 122, 135]) (len := 43) (off := 135) (tgt := 136) 26 c22 (by decide +kernel) (by decide +kernel) ?_
    refine gBk (pe := 140) hO [o0 (.lload_n 2), o0 (.lload 4), o0 .lcmp] (by decide +kernel) (show tWG K B 0 0 S I J 140 [some (vR 61), some (vI v1), some (vL w2), none, some (vL w4), none] [vI (lg_cmp w2 w4)] from ?_)
    have hj23 : ∀ (m24 : Int64), m24 = (if (lg_cmp w2 w4) ≤ 0 then (0 : Int64) else 1) → tWG K B 0 0 S I J 148 [none, none, none, none, none, none] [vL m24] := by
      intro m24 em24
      subst em24
      exact gLret hO hQ (by decide +kernel) ⟨rfl, h⟩
    refine gIfLe hO (off := 7) (tgt := 147) (by decide +kernel) (by decide) (fun c25 => ?_) (fun c25 => ?_)
    · refine gBk (pe := 148) hO [oJ (.lconst 0) 0 0] (by decide +kernel) (show tWG K B 0 0 S I J 148 [some (vR 61), some (vI v1), some (vL w2), none, some (vL w4), none] [vL 0] from ?_)
      exact gWeak (L' := [none, none, none, none, none, none]) trivial (hj23 _ (Eq.symm (if_pos c25)))
    · refine gBk (pe := 148) hO [oJ (.lconst 1) 0 1, o0 (.goto 4)] (by decide +kernel) (show tWG K B 0 0 S I J 148 [some (vR 61), some (vI v1), some (vL w2), none, some (vL w4), none] [vL 1] from ?_)
      exact gWeak (L' := [none, none, none, none, none, none]) trivial (hj23 _ (Eq.symm (if_neg c25)))
  have h := h.2
  have hsw : swN 20 v1 7 := ⟨⟨⟨⟨⟨⟨⟨True.intro, c1⟩, c2⟩, c3⟩, c4⟩, c11⟩, c18⟩, c22⟩
  have h := h hsw
  refine gSwOut hO (dflt := 148) (lo := 20) (hi := 26) (offs := #[43, 48, 53, 58, 90, 122, 135]) (len := 43) (tgt := 149) (by decide +kernel) (sw_out (by decide) (by decide) hsw) (by decide) ?_
  refine gBk (pe := 153) hO [o0 (.lload_n 2), o0 (.lload 4), o0 .lcmp] (by decide +kernel) (show tWG K B 0 0 S I J 153 [some (vR 61), some (vI v1), some (vL w2), none, some (vL w4), none] [vI (lg_cmp w2 w4)] from ?_)
  have hj26 : ∀ (m27 : Int64), m27 = (if (lg_cmp w2 w4) = 0 then (1 : Int64) else 0) → tWG K B 0 0 S I J 161 [none, none, none, none, none, none] [vL m27] := by
    intro m27 em27
    subst em27
    exact gLret hO hQ (by decide +kernel) ⟨rfl, h⟩
  refine gIfNe hO (off := 7) (tgt := 160) (by decide +kernel) (by decide) (fun c28 => ?_) (fun c28 => ?_)
  · refine gBk (pe := 161) hO [oJ (.lconst 0) 0 0] (by decide +kernel) (show tWG K B 0 0 S I J 161 [some (vR 61), some (vI v1), some (vL w2), none, some (vL w4), none] [vL 0] from ?_)
    exact gWeak (L' := [none, none, none, none, none, none]) trivial (hj26 _ (Eq.symm (if_neg c28)))
  · refine gBk (pe := 161) hO [oJ (.lconst 1) 0 1, o0 (.goto 4)] (by decide +kernel) (show tWG K B 0 0 S I J 161 [some (vR 61), some (vI v1), some (vL w2), none, some (vL w4), none] [vL 1] from ?_)
    exact gWeak (L' := [none, none, none, none, none, none]) trivial (hj26 _ (Eq.symm (if_pos c28))))
set_option maxRecDepth 100000 in
theorem W12_reckonAll_364 {K : tK} {B : tB} {S : tSH} {MC MS : Nat} (hO : tKO K B RX12 cX12_reckonAll 7) (hR : kR K = tRm 4 MC MS) (hG : tGr S) {n : Nat} (t0 : ty S 61 12) {k : tHI → tHJ → Prop} (hQ : tRet K B (tQv B (tPv S k)) 0 0 none) {I : tHI} {J : tHJ} {v3 : Int32} (h : F12_reckonAll_364 n S k I J v3) : tWG K B 0 0 S I J 364 [some (vR 61), none, none, some (vI v3), none, none, none] [] := by
  refine gBk (pe := 366) hO [o0 (.aload_n 0), o0 (.iload_n 3)] (by decide +kernel) (show tWG K B 0 0 S I J 366 [some (vR 61), none, none, some (vI v3), none, none, none] [vI v3, vR 61] from ?_)
  have hj2 : ∀ (m3 : Int64), m3 = (if v3 ≤ 0 then 0 else (J 81 0)) → tWG K B 0 0 S I J 379 [none, none, none, none, none, none, none] [vL m3, vR 61] := by
    intro m3 em3
    subst em3
    refine gBk (pe := 382) hO [oF (.putfield 429) 12 39 343 0] (by decide +kernel) (And.intro t0 (show tWG K B 0 0 S I (uJ J 61 39 (if v3 ≤ 0 then 0 else (J 81 0))) 382 [none, none, none, none, none, none, none] [] from ?_))
    exact gVret hO hQ (by decide +kernel) ⟨rfl, h⟩
  refine gIfLe hO (off := 12) (tgt := 378) (by decide +kernel) (by decide) (fun c4 => ?_) (fun c4 => ?_)
  · refine gBk (pe := 379) hO [oJ (.lconst 0) 0 0] (by decide +kernel) (show tWG K B 0 0 S I J 379 [some (vR 61), none, none, some (vI v3), none, none, none] [vL 0, vR 61] from ?_)
    exact gWeak (L' := [none, none, none, none, none, none, none]) trivial (hj2 _ (Eq.symm (if_pos c4)))
  · refine gBk (pe := 379) hO [o0 (.aload_n 0), oF (.getfield 121) 12 37 223 81, oI (.iconst 0) 0, o0 .laload, o0 (.goto 4)] (by decide +kernel) (And.intro t0 (And.intro rfl (And.intro (tGr.off hG t0 (k := 37) rfl) (And.intro (tin (tGr.len hG t0 (k := 37) rfl (by decide)) (tvi (by decide +kernel))) (show tWG K B 0 0 S I J 379 [some (vR 61), none, none, some (vI v3), none, none, none] [vL (J 81 0), vR 61] from ?_)))))
    exact gWeak (L' := [none, none, none, none, none, none, none]) trivial (hj2 _ (Eq.symm (if_neg c4)))
set_option maxRecDepth 100000 in
theorem W12_reckonAll_361 {K : tK} {B : tB} {S : tSH} {MC MS : Nat} (hO : tKO K B RX12 cX12_reckonAll 7) (hR : kR K = tRm 4 MC MS) (hG : tGr S) {n : Nat} (t0 : ty S 61 12) {k : tHI → tHJ → Prop} (hQ : tRet K B (tQv B (tPv S k)) 0 0 none) {kb10 : tHI → tHJ → Int32 → Int32 → Int32 → Prop} (hkb10 : ∀ (I : tHI) (J : tHJ) (v2 : Int32) (v3 : Int32) (v4 : Int32), kb10 I J v2 v3 v4 → tWG K B 0 0 S I J 10 [some (vR 61), none, some (vI v2), some (vI v3), some (vI v4), none, none] []) {I : tHI} {J : tHJ} {v2 : Int32} {v3 : Int32} {v4 : Int32} (h : F12_reckonAll_361 n S k kb10 I J v2 v3 v4) : tWG K B 0 0 S I J 361 [some (vR 61), none, some (vI v2), some (vI v3), some (vI v4), none, none] [] := by
  refine gBk (pe := 10) hO [o0 (.goto (-351))] (by decide +kernel) (show tWG K B 0 0 S I J 10 [some (vR 61), none, some (vI v2), some (vI v3), some (vI v4), none, none] [] from ?_)
  exact hkb10 _ _ _ _ _ h
set_option maxRecDepth 100000 in
theorem W12_reckonAll_10 {K : tK} {B : tB} {S : tSH} {MC MS : Nat} (hO : tKO K B RX12 cX12_reckonAll 7) (hR : kR K = tRm 4 MC MS) (hG : tGr S) {n : Nat} (t0 : ty S 61 12) {k : tHI → tHJ → Prop} (hQ : tRet K B (tQv B (tPv S k)) 0 0 none) {kb10 : tHI → tHJ → Int32 → Int32 → Int32 → Prop} (hkb10 : ∀ (I : tHI) (J : tHJ) (v2 : Int32) (v3 : Int32) (v4 : Int32), kb10 I J v2 v3 v4 → tWG K B 0 0 S I J 10 [some (vR 61), none, some (vI v2), some (vI v3), some (vI v4), none, none] []) {I : tHI} {J : tHJ} {v2 : Int32} {v3 : Int32} {v4 : Int32} (h : F12_reckonAll_10 n S k kb10 I J v2 v3 v4) : tWG K B 0 0 S I J 10 [some (vR 61), none, some (vI v2), some (vI v3), some (vI v4), none, none] [] := by
  refine gBk (pe := 13) hO [o0 (.iload 4), o0 (.iload_n 2)] (by decide +kernel) (show tWG K B 0 0 S I J 13 [some (vR 61), none, some (vI v2), some (vI v3), some (vI v4), none, none] [vI v2, vI v4] from ?_)
  refine gIcGe hO (off := 351) (tgt := 364) (by decide +kernel) (by decide) (fun c1 => ?_) (fun c1 => ?_)
  · have h := h.1 c1
    exact gWeak (L' := [some (vR 61), none, none, some (vI v3), none, none, none]) ⟨rfl, rfl, trivial⟩ (W12_reckonAll_364 hO hR hG t0 hQ h)
  · have h := h.2 c1
    refine gBk (pe := 20) hO [o0 (.aload_n 0), oF (.getfield 413) 12 38 342 0] (by decide +kernel) (And.intro t0 (show tWG K B 0 0 S I J 20 [some (vR 61), none, some (vI v2), some (vI v3), some (vI v4), none, none] [vI (I 61 38)] from ?_))
    refine gIfNe hO (off := 344) (tgt := 364) (by decide +kernel) (by decide) (fun c5 => ?_) (fun c5 => ?_)
    · have h := h.1 c5
      exact gWeak (L' := [some (vR 61), none, none, some (vI v3), none, none, none]) ⟨rfl, rfl, trivial⟩ (W12_reckonAll_364 hO hR hG t0 hQ h)
    · have h := h.2 c5
      refine gBk (pe := 27) hO [o0 (.aload_n 0), oF (.getfield 340) 12 20 348 0] (by decide +kernel) (And.intro t0 (show tWG K B 0 0 S I J 27 [some (vR 61), none, some (vI v2), some (vI v3), some (vI v4), none, none] [vI (I 61 20)] from ?_))
      have hj6 : ∀ (m7 : Int32), m7 = (if (I 61 20) = 0 then (I 63 (((I 61 34) + 98) + (2 * v4)).toNatClampNeg) else (I 72 v4.toNatClampNeg)) → tWG K B 0 0 S I J 57 [some (vR 61), none, some (vI v2), some (vI v3), some (vI v4), none, none] [vI m7] := by
        intro m7 em7
        subst em7
        have h := h.2
        refine gBk (pe := 63) hO [o0 (.istore 5), o0 (.aload_n 0), oF (.getfield 340) 12 20 348 0] (by decide +kernel) (And.intro (Nat.le_of_ble_eq_true rfl) (And.intro t0 (show tWG K B 0 0 S I J 63 [some (vR 61), none, some (vI v2), some (vI v3), some (vI v4), some (vI (if (I 61 20) = 0 then (I 63 (((I 61 34) + 98) + (2 * v4)).toNatClampNeg) else (I 72 v4.toNatClampNeg))), none] [vI (I 61 20)] from ?_)))
        have hj9 : ∀ (m10 : Int32), m10 = (if (I 61 20) = 0 then (I 63 ((((I 61 34) + 98) + (2 * v4)) + 1).toNatClampNeg) else (I 73 v4.toNatClampNeg)) → tWG K B 0 0 S I J 95 [some (vR 61), none, some (vI v2), some (vI v3), some (vI v4), some (vI (if (I 61 20) = 0 then (I 63 (((I 61 34) + 98) + (2 * v4)).toNatClampNeg) else (I 72 v4.toNatClampNeg))), none] [vI m10] := by
          intro m10 em10
          subst em10
          have h := h.2
          refine gBk (pe := 104) hO [o0 (.istore 6), oI (.iinc 4 1) 1, o0 (.iload 5), oI (.bipush 20) 20] (by decide +kernel) (And.intro (Nat.le_of_ble_eq_true rfl) (show tWG K B 0 0 S I J 104 [some (vR 61), none, some (vI v2), some (vI v3), some (vI (v4 + 1)), some (vI (if (I 61 20) = 0 then (I 63 (((I 61 34) + 98) + (2 * v4)).toNatClampNeg) else (I 72 v4.toNatClampNeg))), some (vI (if (I 61 20) = 0 then (I 63 ((((I 61 34) + 98) + (2 * v4)) + 1).toNatClampNeg) else (I 73 v4.toNatClampNeg)))] [vI 20, vI (if (I 61 20) = 0 then (I 63 (((I 61 34) + 98) + (2 * v4)).toNatClampNeg) else (I 72 v4.toNatClampNeg))] from ?_))
          refine gIcGe hO (off := 118) (tgt := 222) (by decide +kernel) (by decide) (fun c12 => ?_) (fun c12 => ?_)
          · have h := h.1 c12
            refine gBk (pe := 226) hO [o0 (.iload 5), oI (.bipush 28) 28] (by decide +kernel) (show tWG K B 0 0 S I J 226 [some (vR 61), none, some (vI v2), some (vI v3), some (vI (v4 + 1)), some (vI (if (I 61 20) = 0 then (I 63 (((I 61 34) + 98) + (2 * v4)).toNatClampNeg) else (I 72 v4.toNatClampNeg))), some (vI (if (I 61 20) = 0 then (I 63 ((((I 61 34) + 98) + (2 * v4)) + 1).toNatClampNeg) else (I 73 v4.toNatClampNeg)))] [vI 28, vI (if (I 61 20) = 0 then (I 63 (((I 61 34) + 98) + (2 * v4)).toNatClampNeg) else (I 72 v4.toNatClampNeg))] from ?_)
            refine gIcGe hO (off := 73) (tgt := 299) (by decide +kernel) (by decide) (fun c13 => ?_) (fun c13 => ?_)
            · have h := h.1 c13
              refine gBk (pe := 303) hO [o0 (.iload 5), oI (.bipush 28) 28] (by decide +kernel) (show tWG K B 0 0 S I J 303 [some (vR 61), none, some (vI v2), some (vI v3), some (vI (v4 + 1)), some (vI (if (I 61 20) = 0 then (I 63 (((I 61 34) + 98) + (2 * v4)).toNatClampNeg) else (I 72 v4.toNatClampNeg))), some (vI (if (I 61 20) = 0 then (I 63 ((((I 61 34) + 98) + (2 * v4)) + 1).toNatClampNeg) else (I 73 v4.toNatClampNeg)))] [vI 28, vI (if (I 61 20) = 0 then (I 63 (((I 61 34) + 98) + (2 * v4)).toNatClampNeg) else (I 72 v4.toNatClampNeg))] from ?_)
              refine gIcNe hO (off := 24) (tgt := 327) (by decide +kernel) (by decide) (fun c14 => ?_) (fun c14 => ?_)
              · have h := h.1 c14
                refine gBk (pe := 339) hO [o0 (.aload_n 0), oF (.getfield 121) 12 37 223 81, o0 (.iload_n 3), oI (.iconst 1) 1, o0 .isub, o0 .laload, o0 (.iload 5), oI (.bipush 29) 29] (by decide +kernel) (And.intro t0 (And.intro rfl (And.intro (tGr.off hG t0 (k := 37) rfl) (And.intro (tin (tGr.len hG t0 (k := 37) rfl (by decide)) h.1) (show tWG K B 0 0 S I J 339 [some (vR 61), none, some (vI v2), some (vI v3), some (vI (v4 + 1)), some (vI (if (I 61 20) = 0 then (I 63 (((I 61 34) + 98) + (2 * v4)).toNatClampNeg) else (I 72 v4.toNatClampNeg))), some (vI (if (I 61 20) = 0 then (I 63 ((((I 61 34) + 98) + (2 * v4)) + 1).toNatClampNeg) else (I 73 v4.toNatClampNeg)))] [vI 29, vI (if (I 61 20) = 0 then (I 63 (((I 61 34) + 98) + (2 * v4)).toNatClampNeg) else (I 72 v4.toNatClampNeg)), vL (J 81 (v3 - 1).toNatClampNeg)] from ?_)))))
                have h := h.2
                have hj15 : ∀ (m16 : Int64), m16 = (if (if (I 61 20) = 0 then (I 63 (((I 61 34) + 98) + (2 * v4)).toNatClampNeg) else (I 72 v4.toNatClampNeg)) = 29 then (0 : Int64) else 1) → tWG K B 0 0 S I J 347 [some (vR 61), none, some (vI v2), some (vI v3), some (vI (v4 + 1)), none, some (vI (if (I 61 20) = 0 then (I 63 ((((I 61 34) + 98) + (2 * v4)) + 1).toNatClampNeg) else (I 73 v4.toNatClampNeg)))] [vL m16, vL (J 81 (v3 - 1).toNatClampNeg)] := by
                  intro m16 em16
                  subst em16
                  refine gBk (pe := 348) hO [o0 .lcmp] (by decide +kernel) (show tWG K B 0 0 S I J 348 [some (vR 61), none, some (vI v2), some (vI v3), some (vI (v4 + 1)), none, some (vI (if (I 61 20) = 0 then (I 63 ((((I 61 34) + 98) + (2 * v4)) + 1).toNatClampNeg) else (I 73 v4.toNatClampNeg)))] [vI (lg_cmp (J 81 (v3 - 1).toNatClampNeg) (if (if (I 61 20) = 0 then (I 63 (((I 61 34) + 98) + (2 * v4)).toNatClampNeg) else (I 72 v4.toNatClampNeg)) = 29 then (0 : Int64) else 1))] from ?_)
                  have hj18 : ∀ (m19 : Int32) (m20 : Int32), m19 = (if (lg_cmp (J 81 (v3 - 1).toNatClampNeg) (if (if (I 61 20) = 0 then (I 63 (((I 61 34) + 98) + (2 * v4)).toNatClampNeg) else (I 72 v4.toNatClampNeg)) = 29 then (0 : Int64) else 1)) = 0 then v3 else (v3 + (-1))) → m20 = (if (lg_cmp (J 81 (v3 - 1).toNatClampNeg) (if (if (I 61 20) = 0 then (I 63 (((I 61 34) + 98) + (2 * v4)).toNatClampNeg) else (I 72 v4.toNatClampNeg)) = 29 then (0 : Int64) else 1)) = 0 then (if (I 61 20) = 0 then (I 63 ((((I 61 34) + 98) + (2 * v4)) + 1).toNatClampNeg) else (I 73 v4.toNatClampNeg)) else (v4 + 1)) → tWG K B 0 0 S I J 361 [some (vR 61), none, some (vI v2), some (vI m19), some (vI m20), none, none] [] := by
                    intro m19 m20 em19 em20
                    subst em19
                    subst em20
                    exact W12_reckonAll_361 hO hR hG t0 hQ hkb10 h
                  refine gIfNe hO (off := 10) (tgt := 358) (by decide +kernel) (by decide) (fun c21 => ?_) (fun c21 => ?_)
                  · refine gBk (pe := 361) hO [oI (.iinc 3 (-1)) (-1)] (by decide +kernel) (show tWG K B 0 0 S I J 361 [some (vR 61), none, some (vI v2), some (vI (v3 + (-1))), some (vI (v4 + 1)), none, some (vI (if (I 61 20) = 0 then (I 63 ((((I 61 34) + 98) + (2 * v4)) + 1).toNatClampNeg) else (I 73 v4.toNatClampNeg)))] [] from ?_)
                    exact gWeak (L' := [some (vR 61), none, some (vI v2), some (vI (v3 + (-1))), some (vI (v4 + 1)), none, none]) ⟨rfl, rfl, rfl, rfl, trivial⟩ (hj18 _ _ (Eq.symm (if_neg c21)) (Eq.symm (if_neg c21)))
                  · refine gBk (pe := 361) hO [o0 (.iload 6), o0 (.istore 4), o0 (.goto 6)] (by decide +kernel) (And.intro (Nat.le_of_ble_eq_true rfl) (show tWG K B 0 0 S I J 361 [some (vR 61), none, some (vI v2), some (vI v3), some (vI (if (I 61 20) = 0 then (I 63 ((((I 61 34) + 98) + (2 * v4)) + 1).toNatClampNeg) else (I 73 v4.toNatClampNeg))), none, some (vI (if (I 61 20) = 0 then (I 63 ((((I 61 34) + 98) + (2 * v4)) + 1).toNatClampNeg) else (I 73 v4.toNatClampNeg)))] [] from ?_))
                    exact gWeak (L' := [some (vR 61), none, some (vI v2), some (vI v3), some (vI (if (I 61 20) = 0 then (I 63 ((((I 61 34) + 98) + (2 * v4)) + 1).toNatClampNeg) else (I 73 v4.toNatClampNeg))), none, none]) ⟨rfl, rfl, rfl, rfl, trivial⟩ (hj18 _ _ (Eq.symm (if_pos c21)) (Eq.symm (if_pos c21)))
                refine gIcNe hO (off := 7) (tgt := 346) (by decide +kernel) (by decide) (fun c17 => ?_) (fun c17 => ?_)
                · refine gBk (pe := 347) hO [oJ (.lconst 1) 0 1] (by decide +kernel) (show tWG K B 0 0 S I J 347 [some (vR 61), none, some (vI v2), some (vI v3), some (vI (v4 + 1)), some (vI (if (I 61 20) = 0 then (I 63 (((I 61 34) + 98) + (2 * v4)).toNatClampNeg) else (I 72 v4.toNatClampNeg))), some (vI (if (I 61 20) = 0 then (I 63 ((((I 61 34) + 98) + (2 * v4)) + 1).toNatClampNeg) else (I 73 v4.toNatClampNeg)))] [vL 1, vL (J 81 (v3 - 1).toNatClampNeg)] from ?_)
                  exact gWeak (L' := [some (vR 61), none, some (vI v2), some (vI v3), some (vI (v4 + 1)), none, some (vI (if (I 61 20) = 0 then (I 63 ((((I 61 34) + 98) + (2 * v4)) + 1).toNatClampNeg) else (I 73 v4.toNatClampNeg)))]) ⟨rfl, rfl, rfl, rfl, rfl, trivial⟩ (hj15 _ (Eq.symm (if_neg c17)))
                · refine gBk (pe := 347) hO [oJ (.lconst 0) 0 0, o0 (.goto 4)] (by decide +kernel) (show tWG K B 0 0 S I J 347 [some (vR 61), none, some (vI v2), some (vI v3), some (vI (v4 + 1)), some (vI (if (I 61 20) = 0 then (I 63 (((I 61 34) + 98) + (2 * v4)).toNatClampNeg) else (I 72 v4.toNatClampNeg))), some (vI (if (I 61 20) = 0 then (I 63 ((((I 61 34) + 98) + (2 * v4)) + 1).toNatClampNeg) else (I 73 v4.toNatClampNeg)))] [vL 0, vL (J 81 (v3 - 1).toNatClampNeg)] from ?_)
                  exact gWeak (L' := [some (vR 61), none, some (vI v2), some (vI v3), some (vI (v4 + 1)), none, some (vI (if (I 61 20) = 0 then (I 63 ((((I 61 34) + 98) + (2 * v4)) + 1).toNatClampNeg) else (I 73 v4.toNatClampNeg)))]) ⟨rfl, rfl, rfl, rfl, rfl, trivial⟩ (hj15 _ (Eq.symm (if_pos c17)))
              · have h := h.2 c14
                refine gBk (pe := 361) hO [o0 (.aload_n 0), oF (.getfield 121) 12 37 223 81, o0 (.iload_n 3), oI (.iconst 1) 1, o0 .isub, oJ (.lconst 1) 0 1, o0 (.aload_n 0), oF (.getfield 121) 12 37 223 81, o0 (.iload_n 3), oI (.iconst 1) 1, o0 .isub, o0 .laload, o0 .lsub, o0 .lastore, o0 (.goto 37)] (by decide +kernel) (And.intro t0 (And.intro rfl (And.intro t0 (And.intro rfl (And.intro (tGr.off hG t0 (k := 37) rfl) (And.intro (tin (tGr.len hG t0 (k := 37) rfl (by decide)) h.1) (And.intro (tGr.off hG t0 (k := 37) rfl) (And.intro (tin (tGr.len hG t0 (k := 37) rfl (by decide)) h.2.1) (show tWG K B 0 0 S I (uJ J 81 (v3 - 1).toNatClampNeg (1 - (J 81 (v3 - 1).toNatClampNeg))) 361 [some (vR 61), none, some (vI v2), some (vI v3), some (vI (v4 + 1)), some (vI (if (I 61 20) = 0 then (I 63 (((I 61 34) + 98) + (2 * v4)).toNatClampNeg) else (I 72 v4.toNatClampNeg))), some (vI (if (I 61 20) = 0 then (I 63 ((((I 61 34) + 98) + (2 * v4)) + 1).toNatClampNeg) else (I 73 v4.toNatClampNeg)))] [] from ?_)))))))))
                have h := h.2.2
                exact gWeak (L' := [some (vR 61), none, some (vI v2), some (vI v3), some (vI (v4 + 1)), none, none]) ⟨rfl, rfl, rfl, rfl, trivial⟩ (W12_reckonAll_361 hO hR hG t0 hQ hkb10 h)
            · have h := h.2 c13
              refine gBk (pe := 256) hO [oI (.iinc 3 (-1)) (-1), o0 (.aload_n 0), oF (.getfield 121) 12 37 223 81, o0 (.iload_n 3), oI (.iconst 1) 1, o0 .isub, o0 (.aload_n 0), o0 (.iload 5), o0 (.aload_n 0), oF (.getfield 121) 12 37 223 81, o0 (.iload_n 3), oI (.iconst 1) 1, o0 .isub, o0 .laload, o0 (.aload_n 0), oF (.getfield 121) 12 37 223 81, o0 (.iload_n 3), o0 .laload] (by decide +kernel) (And.intro t0 (And.intro rfl (And.intro t0 (And.intro rfl (And.intro (tGr.off hG t0 (k := 37) rfl) (And.intro (tin (tGr.len hG t0 (k := 37) rfl (by decide)) h.1) (And.intro t0 (And.intro rfl (And.intro (tGr.off hG t0 (k := 37) rfl) (And.intro (tin (tGr.len hG t0 (k := 37) rfl (by decide)) h.2.1) (show tWG K B 0 0 S I J 256 [some (vR 61), none, some (vI v2), some (vI (v3 + (-1))), some (vI (v4 + 1)), some (vI (if (I 61 20) = 0 then (I 63 (((I 61 34) + 98) + (2 * v4)).toNatClampNeg) else (I 72 v4.toNatClampNeg))), some (vI (if (I 61 20) = 0 then (I 63 ((((I 61 34) + 98) + (2 * v4)) + 1).toNatClampNeg) else (I 73 v4.toNatClampNeg)))] [vL (J 81 (v3 + (-1)).toNatClampNeg), vL (J 81 ((v3 + (-1)) - 1).toNatClampNeg), vI (if (I 61 20) = 0 then (I 63 (((I 61 34) + 98) + (2 * v4)).toNatClampNeg) else (I 72 v4.toNatClampNeg)), vR 61, vI ((v3 + (-1)) - 1), vR 81] from ?_)))))))))))
              have h := h.2.2
              refine gCVl_c hO (M12_reckon t0 h) hc12_reckon (idx := 421) (w := 364) (by decide +kernel) hR (by omega) t0 ⟨by decide, rfl⟩ (vs := [vI (if (I 61 20) = 0 then (I 63 (((I 61 34) + 98) + (2 * v4)).toNatClampNeg) else (I 72 v4.toNatClampNeg)), vL (J 81 ((v3 + (-1)) - 1).toNatClampNeg), vL (J 81 (v3 + (-1)).toNatClampNeg)]) (st := [vI ((v3 + (-1)) - 1), vR 81]) ⟨rfl, Nat.le_of_ble_eq_true rfl, rfl⟩ (by decide +kernel) (fun x24 I22 J23 h => ?_)
              refine gBk (pe := 265) hO [o0 .lastore, o0 (.aload_n 0), o0 (.aload_n 0), oF (.getfield 413) 12 38 342 0] (by decide +kernel) (And.intro (tGr.off hG t0 (k := 37) rfl) (And.intro (tin (tGr.len hG t0 (k := 37) rfl (by decide)) h.1) (And.intro t0 (show tWG K B 0 0 S I22 (uJ J23 81 ((v3 + (-1)) - 1).toNatClampNeg x24) 265 [some (vR 61), none, some (vI v2), some (vI (v3 + (-1))), some (vI (v4 + 1)), some (vI (if (I 61 20) = 0 then (I 63 (((I 61 34) + 98) + (2 * v4)).toNatClampNeg) else (I 72 v4.toNatClampNeg))), some (vI (if (I 61 20) = 0 then (I 63 ((((I 61 34) + 98) + (2 * v4)) + 1).toNatClampNeg) else (I 73 v4.toNatClampNeg)))] [vI (I22 61 38), vR 61] from ?_))))
              have h := h.2
              have hj26 : ∀ (m27 : Int32), m27 = (if (I22 61 38) = 0 then (if (V12_in ((uJ J23 81 ((v3 + (-1)) - 1).toNatClampNeg x24) 81 ((v3 + (-1)) - 1).toNatClampNeg) (-1000000000) 1000000000) = 0 then (1 : Int32) else 0) else 1) → tWG K B 0 0 S I22 (uJ J23 81 ((v3 + (-1)) - 1).toNatClampNeg x24) 293 [some (vR 61), none, some (vI v2), some (vI (v3 + (-1))), some (vI (v4 + 1)), none, none] [vI m27, vR 61] := by
                intro m27 em27
                subst em27
                have h := h.2
                refine gBk (pe := 361) hO [oF (.putfield 413) 12 38 342 0, o0 (.goto 65)] (by decide +kernel) (And.intro t0 (And.intro (bz_if (bz_if (Or.inr rfl) (Or.inl rfl)) (Or.inr rfl)) (show tWG K B 0 0 S (uI I22 61 38 (if (I22 61 38) = 0 then (if (V12_in ((uJ J23 81 ((v3 + (-1)) - 1).toNatClampNeg x24) 81 ((v3 + (-1)) - 1).toNatClampNeg) (-1000000000) 1000000000) = 0 then (1 : Int32) else 0) else 1)) (uJ J23 81 ((v3 + (-1)) - 1).toNatClampNeg x24) 361 [some (vR 61), none, some (vI v2), some (vI (v3 + (-1))), some (vI (v4 + 1)), none, none] [] from ?_)))
                exact W12_reckonAll_361 hO hR hG t0 hQ hkb10 h
              have h := h.1
              refine gIfNe hO (off := 23) (tgt := 288) (by decide +kernel) (by decide) (fun c28 => ?_) (fun c28 => ?_)
              · have h := h.1 c28
                refine gBk (pe := 293) hO [oI (.iconst 1) 1, o0 (.goto 4)] (by decide +kernel) (show tWG K B 0 0 S I22 (uJ J23 81 ((v3 + (-1)) - 1).toNatClampNeg x24) 293 [some (vR 61), none, some (vI v2), some (vI (v3 + (-1))), some (vI (v4 + 1)), some (vI (if (I 61 20) = 0 then (I 63 (((I 61 34) + 98) + (2 * v4)).toNatClampNeg) else (I 72 v4.toNatClampNeg))), some (vI (if (I 61 20) = 0 then (I 63 ((((I 61 34) + 98) + (2 * v4)) + 1).toNatClampNeg) else (I 73 v4.toNatClampNeg)))] [vI 1, vR 61] from ?_)
                exact gWeak (L' := [some (vR 61), none, some (vI v2), some (vI (v3 + (-1))), some (vI (v4 + 1)), none, none]) ⟨rfl, rfl, rfl, rfl, trivial⟩ (hj26 _ (Eq.symm (if_neg c28)))
              · have h := h.2 c28
                refine gBk (pe := 276) hO [o0 (.aload_n 0), oF (.getfield 121) 12 37 223 81, o0 (.iload_n 3), oI (.iconst 1) 1, o0 .isub, o0 .laload] (by decide +kernel) (And.intro t0 (And.intro rfl (And.intro (tGr.off hG t0 (k := 37) rfl) (And.intro (tin (tGr.len hG t0 (k := 37) rfl (by decide)) h.1) (show tWG K B 0 0 S I22 (uJ J23 81 ((v3 + (-1)) - 1).toNatClampNeg x24) 276 [some (vR 61), none, some (vI v2), some (vI (v3 + (-1))), some (vI (v4 + 1)), some (vI (if (I 61 20) = 0 then (I 63 (((I 61 34) + 98) + (2 * v4)).toNatClampNeg) else (I 72 v4.toNatClampNeg))), some (vI (if (I 61 20) = 0 then (I 63 ((((I 61 34) + 98) + (2 * v4)) + 1).toNatClampNeg) else (I 73 v4.toNatClampNeg)))] [vL ((uJ J23 81 ((v3 + (-1)) - 1).toNatClampNeg x24) 81 ((v3 + (-1)) - 1).toNatClampNeg), vR 61] from ?_)))))
                have h := h.2
                refine gBk (pe := 279) hO [(.ldc2_w 425, (0, 0, 350, 0), 0, (-1000000000))] (by decide +kernel) (show tWG K B 0 0 S I22 (uJ J23 81 ((v3 + (-1)) - 1).toNatClampNeg x24) 279 [some (vR 61), none, some (vI v2), some (vI (v3 + (-1))), some (vI (v4 + 1)), some (vI (if (I 61 20) = 0 then (I 63 (((I 61 34) + 98) + (2 * v4)).toNatClampNeg) else (I 72 v4.toNatClampNeg))), some (vI (if (I 61 20) = 0 then (I 63 ((((I 61 34) + 98) + (2 * v4)) + 1).toNatClampNeg) else (I 73 v4.toNatClampNeg)))] [vL (-1000000000), vL ((uJ J23 81 ((v3 + (-1)) - 1).toNatClampNeg x24) 81 ((v3 + (-1)) - 1).toNatClampNeg), vR 61] from ?_)
                refine gBk (pe := 282) hO [(.ldc2_w 427, (0, 0, 351, 0), 0, 1000000000)] (by decide +kernel) (show tWG K B 0 0 S I22 (uJ J23 81 ((v3 + (-1)) - 1).toNatClampNeg x24) 282 [some (vR 61), none, some (vI v2), some (vI (v3 + (-1))), some (vI (v4 + 1)), some (vI (if (I 61 20) = 0 then (I 63 (((I 61 34) + 98) + (2 * v4)).toNatClampNeg) else (I 72 v4.toNatClampNeg))), some (vI (if (I 61 20) = 0 then (I 63 ((((I 61 34) + 98) + (2 * v4)) + 1).toNatClampNeg) else (I 73 v4.toNatClampNeg)))] [vL 1000000000, vL (-1000000000), vL ((uJ J23 81 ((v3 + (-1)) - 1).toNatClampNeg x24) 81 ((v3 + (-1)) - 1).toNatClampNeg), vR 61] from ?_)
                refine gCSi_z hO (M12_in) hc12_in (idx := 181) (w := 319) (by decide +kernel) hR (by omega) (vs := [vL ((uJ J23 81 ((v3 + (-1)) - 1).toNatClampNeg x24) 81 ((v3 + (-1)) - 1).toNatClampNeg), vL (-1000000000), vL 1000000000]) (st := [vR 61]) ⟨rfl, Nat.le_of_ble_eq_true rfl, rfl⟩ (by decide +kernel) (fun z29 => ?_)
                refine gIfNe hO (off := 7) (tgt := 292) (by decide +kernel) (by decide) (fun c30 => ?_) (fun c30 => ?_)
                · have h := h.1 c30
                  refine gBk (pe := 293) hO [oI (.iconst 0) 0] (by decide +kernel) (show tWG K B 0 0 S I22 (uJ J23 81 ((v3 + (-1)) - 1).toNatClampNeg x24) 293 [some (vR 61), none, some (vI v2), some (vI (v3 + (-1))), some (vI (v4 + 1)), some (vI (if (I 61 20) = 0 then (I 63 (((I 61 34) + 98) + (2 * v4)).toNatClampNeg) else (I 72 v4.toNatClampNeg))), some (vI (if (I 61 20) = 0 then (I 63 ((((I 61 34) + 98) + (2 * v4)) + 1).toNatClampNeg) else (I 73 v4.toNatClampNeg)))] [vI 0, vR 61] from ?_)
                  exact gWeak (L' := [some (vR 61), none, some (vI v2), some (vI (v3 + (-1))), some (vI (v4 + 1)), none, none]) ⟨rfl, rfl, rfl, rfl, trivial⟩ (hj26 _ (Eq.symm ((if_pos c28).trans (if_neg c30))))
                · have h := h.2 c30
                  refine gBk (pe := 293) hO [oI (.iconst 1) 1, o0 (.goto 4)] (by decide +kernel) (show tWG K B 0 0 S I22 (uJ J23 81 ((v3 + (-1)) - 1).toNatClampNeg x24) 293 [some (vR 61), none, some (vI v2), some (vI (v3 + (-1))), some (vI (v4 + 1)), some (vI (if (I 61 20) = 0 then (I 63 (((I 61 34) + 98) + (2 * v4)).toNatClampNeg) else (I 72 v4.toNatClampNeg))), some (vI (if (I 61 20) = 0 then (I 63 ((((I 61 34) + 98) + (2 * v4)) + 1).toNatClampNeg) else (I 73 v4.toNatClampNeg)))] [vI 1, vR 61] from ?_)
                  exact gWeak (L' := [some (vR 61), none, some (vI v2), some (vI (v3 + (-1))), some (vI (v4 + 1)), none, none]) ⟨rfl, rfl, rfl, rfl, trivial⟩ (hj26 _ (Eq.symm ((if_pos c28).trans (if_pos c30))))
          · have h := h.2 c12
            refine gBk (pe := 114) hO [o0 (.aload_n 0), oF (.getfield 121) 12 37 223 81, o0 (.iload_n 3), o0 (.iload 5)] (by decide +kernel) (And.intro t0 (And.intro rfl (show tWG K B 0 0 S I J 114 [some (vR 61), none, some (vI v2), some (vI v3), some (vI (v4 + 1)), some (vI (if (I 61 20) = 0 then (I 63 (((I 61 34) + 98) + (2 * v4)).toNatClampNeg) else (I 72 v4.toNatClampNeg))), some (vI (if (I 61 20) = 0 then (I 63 ((((I 61 34) + 98) + (2 * v4)) + 1).toNatClampNeg) else (I 73 v4.toNatClampNeg)))] [vI (if (I 61 20) = 0 then (I 63 (((I 61 34) + 98) + (2 * v4)).toNatClampNeg) else (I 72 v4.toNatClampNeg)), vI v3, vR 81] from ?_)))
            have hj33 : ∀ (m34 : Int64), m34 = (if (if (I 61 20) = 0 then (I 63 (((I 61 34) + 98) + (2 * v4)).toNatClampNeg) else (I 72 v4.toNatClampNeg)) = 0 then (if (I 61 20) = 0 then (I 63 ((((I 61 34) + 98) + (2 * v4)) + 1).toNatClampNeg) else (I 73 v4.toNatClampNeg)).toInt64 else (if (I 61 20) = 0 then (J 79 (if (I 61 20) = 0 then (I 63 (((I 61 34) + 98) + (2 * v4)).toNatClampNeg) else (I 72 v4.toNatClampNeg)).toNatClampNeg) else (if 7 ≤ (if (I 61 20) = 0 then (I 63 (((I 61 34) + 98) + (2 * v4)).toNatClampNeg) else (I 72 v4.toNatClampNeg)) then (if (if (I 61 20) = 0 then (I 63 (((I 61 34) + 98) + (2 * v4)).toNatClampNeg) else (I 72 v4.toNatClampNeg)) = 7 then (if (V12_isBend S I J (if (I 61 20) = 0 then (I 63 ((((I 61 34) + 98) + (2 * v4)) + 1).toNatClampNeg) else (I 73 v4.toNatClampNeg))) = 0 then ((-10) : Int32).toInt64 else (V12_ofBend S I J (if (I 61 20) = 0 then (I 63 ((((I 61 34) + 98) + (2 * v4)) + 1).toNatClampNeg) else (I 73 v4.toNatClampNeg)) 0).toInt64) else (if (V12_isLoad S I J (if (I 61 20) = 0 then (I 63 ((((I 61 34) + 98) + (2 * v4)) + 1).toNatClampNeg) else (I 73 v4.toNatClampNeg))) = 0 then (-10) else (I 63 (14 + (if (I 61 20) = 0 then (I 63 ((((I 61 34) + 98) + (2 * v4)) + 1).toNatClampNeg) else (I 73 v4.toNatClampNeg))).toNatClampNeg).toInt64)) else (J 80 (if (I 61 20) = 0 then (I 63 (((I 61 34) + 98) + (2 * v4)).toNatClampNeg) else (I 72 v4.toNatClampNeg)).toNatClampNeg)))) → tWG K B 0 0 S I J 215 [some (vR 61), none, some (vI v2), some (vI v3), some (vI (v4 + 1)), none, none] [vL m34, vI v3, vR 81] := by
              intro m34 em34
              subst em34
              have h := h.2
              refine gBk (pe := 361) hO [o0 .lastore, oI (.iinc 3 1) 1, o0 (.goto 142)] (by decide +kernel) (And.intro (tGr.off hG t0 (k := 37) rfl) (And.intro (tin (tGr.len hG t0 (k := 37) rfl (by decide)) h.1) (show tWG K B 0 0 S I (uJ J 81 v3.toNatClampNeg (if (if (I 61 20) = 0 then (I 63 (((I 61 34) + 98) + (2 * v4)).toNatClampNeg) else (I 72 v4.toNatClampNeg)) = 0 then (if (I 61 20) = 0 then (I 63 ((((I 61 34) + 98) + (2 * v4)) + 1).toNatClampNeg) else (I 73 v4.toNatClampNeg)).toInt64 else (if (I 61 20) = 0 then (J 79 (if (I 61 20) = 0 then (I 63 (((I 61 34) + 98) + (2 * v4)).toNatClampNeg) else (I 72 v4.toNatClampNeg)).toNatClampNeg) else (if 7 ≤ (if (I 61 20) = 0 then (I 63 (((I 61 34) + 98) + (2 * v4)).toNatClampNeg) else (I 72 v4.toNatClampNeg)) then (if (if (I 61 20) = 0 then (I 63 (((I 61 34) + 98) + (2 * v4)).toNatClampNeg) else (I 72 v4.toNatClampNeg)) = 7 then (if (V12_isBend S I J (if (I 61 20) = 0 then (I 63 ((((I 61 34) + 98) + (2 * v4)) + 1).toNatClampNeg) else (I 73 v4.toNatClampNeg))) = 0 then ((-10) : Int32).toInt64 else (V12_ofBend S I J (if (I 61 20) = 0 then (I 63 ((((I 61 34) + 98) + (2 * v4)) + 1).toNatClampNeg) else (I 73 v4.toNatClampNeg)) 0).toInt64) else (if (V12_isLoad S I J (if (I 61 20) = 0 then (I 63 ((((I 61 34) + 98) + (2 * v4)) + 1).toNatClampNeg) else (I 73 v4.toNatClampNeg))) = 0 then (-10) else (I 63 (14 + (if (I 61 20) = 0 then (I 63 ((((I 61 34) + 98) + (2 * v4)) + 1).toNatClampNeg) else (I 73 v4.toNatClampNeg))).toNatClampNeg).toInt64)) else (J 80 (if (I 61 20) = 0 then (I 63 (((I 61 34) + 98) + (2 * v4)).toNatClampNeg) else (I 72 v4.toNatClampNeg)).toNatClampNeg))))) 361 [some (vR 61), none, some (vI v2), some (vI (v3 + 1)), some (vI (v4 + 1)), none, none] [] from ?_)))
              have h := h.2
              exact W12_reckonAll_361 hO hR hG t0 hQ hkb10 h
            have h := h.1
            refine gIfNe hO (off := 9) (tgt := 123) (by decide +kernel) (by decide) (fun c35 => ?_) (fun c35 => ?_)
            · have h := h.1 c35
              refine gBk (pe := 127) hO [o0 (.aload_n 0), oF (.getfield 340) 12 20 348 0] (by decide +kernel) (And.intro t0 (show tWG K B 0 0 S I J 127 [some (vR 61), none, some (vI v2), some (vI v3), some (vI (v4 + 1)), some (vI (if (I 61 20) = 0 then (I 63 (((I 61 34) + 98) + (2 * v4)).toNatClampNeg) else (I 72 v4.toNatClampNeg))), some (vI (if (I 61 20) = 0 then (I 63 ((((I 61 34) + 98) + (2 * v4)) + 1).toNatClampNeg) else (I 73 v4.toNatClampNeg)))] [vI (I 61 20), vI v3, vR 81] from ?_))
              refine gIfNe hO (off := 13) (tgt := 140) (by decide +kernel) (by decide) (fun c36 => ?_) (fun c36 => ?_)
              · have h := h.1 c36
                refine gBk (pe := 144) hO [o0 (.iload 5), oI (.bipush 7) 7] (by decide +kernel) (show tWG K B 0 0 S I J 144 [some (vR 61), none, some (vI v2), some (vI v3), some (vI (v4 + 1)), some (vI (if (I 61 20) = 0 then (I 63 (((I 61 34) + 98) + (2 * v4)).toNatClampNeg) else (I 72 v4.toNatClampNeg))), some (vI (if (I 61 20) = 0 then (I 63 ((((I 61 34) + 98) + (2 * v4)) + 1).toNatClampNeg) else (I 73 v4.toNatClampNeg)))] [vI 7, vI (if (I 61 20) = 0 then (I 63 (((I 61 34) + 98) + (2 * v4)).toNatClampNeg) else (I 72 v4.toNatClampNeg)), vI v3, vR 81] from ?_)
                refine gIcGe hO (off := 13) (tgt := 157) (by decide +kernel) (by decide) (fun c37 => ?_) (fun c37 => ?_)
                · have h := h.1 c37
                  refine gBk (pe := 161) hO [o0 (.iload 5), oI (.bipush 7) 7] (by decide +kernel) (show tWG K B 0 0 S I J 161 [some (vR 61), none, some (vI v2), some (vI v3), some (vI (v4 + 1)), some (vI (if (I 61 20) = 0 then (I 63 (((I 61 34) + 98) + (2 * v4)).toNatClampNeg) else (I 72 v4.toNatClampNeg))), some (vI (if (I 61 20) = 0 then (I 63 ((((I 61 34) + 98) + (2 * v4)) + 1).toNatClampNeg) else (I 73 v4.toNatClampNeg)))] [vI 7, vI (if (I 61 20) = 0 then (I 63 (((I 61 34) + 98) + (2 * v4)).toNatClampNeg) else (I 72 v4.toNatClampNeg)), vI v3, vR 81] from ?_)
                  refine gIcNe hO (off := 28) (tgt := 189) (by decide +kernel) (by decide) (fun c38 => ?_) (fun c38 => ?_)
                  · have h := h.1 c38
                    refine gBk (pe := 192) hO [o0 (.aload_n 0), o0 (.iload 6)] (by decide +kernel) (show tWG K B 0 0 S I J 192 [some (vR 61), none, some (vI v2), some (vI v3), some (vI (v4 + 1)), some (vI (if (I 61 20) = 0 then (I 63 (((I 61 34) + 98) + (2 * v4)).toNatClampNeg) else (I 72 v4.toNatClampNeg))), some (vI (if (I 61 20) = 0 then (I 63 ((((I 61 34) + 98) + (2 * v4)) + 1).toNatClampNeg) else (I 73 v4.toNatClampNeg)))] [vI (if (I 61 20) = 0 then (I 63 ((((I 61 34) + 98) + (2 * v4)) + 1).toNatClampNeg) else (I 73 v4.toNatClampNeg)), vR 61, vI v3, vR 81] from ?_)
                    refine gCVi_z hO (M12_isLoad t0) hc12_isLoad (idx := 196) (w := 360) (by decide +kernel) hR (by omega) t0 ⟨by decide, rfl⟩ (vs := [vI (if (I 61 20) = 0 then (I 63 ((((I 61 34) + 98) + (2 * v4)) + 1).toNatClampNeg) else (I 73 v4.toNatClampNeg))]) (st := [vI v3, vR 81]) ⟨rfl, Nat.le_of_ble_eq_true rfl, rfl⟩ (by decide +kernel) (fun z39 => ?_)
                    refine gIfEq hO (off := 17) (tgt := 212) (by decide +kernel) (by decide) (fun c40 => ?_) (fun c40 => ?_)
                    · have h := h.1 c40
                      refine gBk (pe := 215) hO [(.ldc2_w 419, (0, 0, 349, 0), 0, (-10))] (by decide +kernel) (show tWG K B 0 0 S I J 215 [some (vR 61), none, some (vI v2), some (vI v3), some (vI (v4 + 1)), some (vI (if (I 61 20) = 0 then (I 63 (((I 61 34) + 98) + (2 * v4)).toNatClampNeg) else (I 72 v4.toNatClampNeg))), some (vI (if (I 61 20) = 0 then (I 63 ((((I 61 34) + 98) + (2 * v4)) + 1).toNatClampNeg) else (I 73 v4.toNatClampNeg)))] [vL (-10), vI v3, vR 81] from ?_)
                      exact gWeak (L' := [some (vR 61), none, some (vI v2), some (vI v3), some (vI (v4 + 1)), none, none]) ⟨rfl, rfl, rfl, rfl, trivial⟩ (hj33 _ (Eq.symm ((if_neg c35).trans ((if_neg c36).trans ((if_pos c37).trans ((if_neg c38).trans (if_pos c40)))))))
                    · have h := h.2 c40
                      refine gBk (pe := 215) hO [o0 (.aload_n 0), oF (.getfield 13) 12 3 179 63, oI (.bipush 14) 14, o0 (.iload 6), o0 .iadd, o0 .iaload, o0 .i2l, o0 (.goto 6)] (by decide +kernel) (And.intro t0 (And.intro rfl (And.intro (tGr.off hG t0 (k := 3) rfl) (And.intro (tin (tGr.len hG t0 (k := 3) rfl (by decide)) h.1) (show tWG K B 0 0 S I J 215 [some (vR 61), none, some (vI v2), some (vI v3), some (vI (v4 + 1)), some (vI (if (I 61 20) = 0 then (I 63 (((I 61 34) + 98) + (2 * v4)).toNatClampNeg) else (I 72 v4.toNatClampNeg))), some (vI (if (I 61 20) = 0 then (I 63 ((((I 61 34) + 98) + (2 * v4)) + 1).toNatClampNeg) else (I 73 v4.toNatClampNeg)))] [vL ((I 63 (14 + (if (I 61 20) = 0 then (I 63 ((((I 61 34) + 98) + (2 * v4)) + 1).toNatClampNeg) else (I 73 v4.toNatClampNeg))).toNatClampNeg).toInt64), vI v3, vR 81] from ?_)))))
                      have h := h.2
                      exact gWeak (L' := [some (vR 61), none, some (vI v2), some (vI v3), some (vI (v4 + 1)), none, none]) ⟨rfl, rfl, rfl, rfl, trivial⟩ (hj33 _ (Eq.symm ((if_neg c35).trans ((if_neg c36).trans ((if_pos c37).trans ((if_neg c38).trans (if_neg c40)))))))
                  · have h := h.2 c38
                    refine gBk (pe := 167) hO [o0 (.aload_n 0), o0 (.iload 6)] (by decide +kernel) (show tWG K B 0 0 S I J 167 [some (vR 61), none, some (vI v2), some (vI v3), some (vI (v4 + 1)), some (vI (if (I 61 20) = 0 then (I 63 (((I 61 34) + 98) + (2 * v4)).toNatClampNeg) else (I 72 v4.toNatClampNeg))), some (vI (if (I 61 20) = 0 then (I 63 ((((I 61 34) + 98) + (2 * v4)) + 1).toNatClampNeg) else (I 73 v4.toNatClampNeg)))] [vI (if (I 61 20) = 0 then (I 63 ((((I 61 34) + 98) + (2 * v4)) + 1).toNatClampNeg) else (I 73 v4.toNatClampNeg)), vR 61, vI v3, vR 81] from ?_)
                    refine gCVi_z hO (M12_isBend t0) hc12_isBend (idx := 220) (w := 352) (by decide +kernel) hR (by omega) t0 ⟨by decide, rfl⟩ (vs := [vI (if (I 61 20) = 0 then (I 63 ((((I 61 34) + 98) + (2 * v4)) + 1).toNatClampNeg) else (I 73 v4.toNatClampNeg))]) (st := [vI v3, vR 81]) ⟨rfl, Nat.le_of_ble_eq_true rfl, rfl⟩ (by decide +kernel) (fun z41 => ?_)
                    refine gIfEq hO (off := 13) (tgt := 183) (by decide +kernel) (by decide) (fun c42 => ?_) (fun c42 => ?_)
                    · have h := h.1 c42
                      refine gBk (pe := 215) hO [oI (.bipush (-10)) (-10), o0 .i2l, o0 (.goto 29)] (by decide +kernel) (show tWG K B 0 0 S I J 215 [some (vR 61), none, some (vI v2), some (vI v3), some (vI (v4 + 1)), some (vI (if (I 61 20) = 0 then (I 63 (((I 61 34) + 98) + (2 * v4)).toNatClampNeg) else (I 72 v4.toNatClampNeg))), some (vI (if (I 61 20) = 0 then (I 63 ((((I 61 34) + 98) + (2 * v4)) + 1).toNatClampNeg) else (I 73 v4.toNatClampNeg)))] [vL (((-10) : Int32).toInt64), vI v3, vR 81] from ?_)
                      exact gWeak (L' := [some (vR 61), none, some (vI v2), some (vI v3), some (vI (v4 + 1)), none, none]) ⟨rfl, rfl, rfl, rfl, trivial⟩ (hj33 _ (Eq.symm ((if_neg c35).trans ((if_neg c36).trans ((if_pos c37).trans ((if_pos c38).trans (if_pos c42)))))))
                    · have h := h.2 c42
                      refine gBk (pe := 177) hO [o0 (.aload_n 0), o0 (.iload 6), oI (.iconst 0) 0] (by decide +kernel) (show tWG K B 0 0 S I J 177 [some (vR 61), none, some (vI v2), some (vI v3), some (vI (v4 + 1)), some (vI (if (I 61 20) = 0 then (I 63 (((I 61 34) + 98) + (2 * v4)).toNatClampNeg) else (I 72 v4.toNatClampNeg))), some (vI (if (I 61 20) = 0 then (I 63 ((((I 61 34) + 98) + (2 * v4)) + 1).toNatClampNeg) else (I 73 v4.toNatClampNeg)))] [vI 0, vI (if (I 61 20) = 0 then (I 63 ((((I 61 34) + 98) + (2 * v4)) + 1).toNatClampNeg) else (I 73 v4.toNatClampNeg)), vR 61, vI v3, vR 81] from ?_)
                      refine gCVi_p hO (M12_ofBend t0 h.1) hc12_ofBend (idx := 240) (w := 356) (by decide +kernel) hR (by omega) t0 ⟨by decide, rfl⟩ (vs := [vI (if (I 61 20) = 0 then (I 63 ((((I 61 34) + 98) + (2 * v4)) + 1).toNatClampNeg) else (I 73 v4.toNatClampNeg)), vI 0]) (st := [vI v3, vR 81]) ⟨rfl, Nat.le_of_ble_eq_true rfl, rfl⟩ (by decide +kernel) ?_
                      have h := h.2
                      refine gBk (pe := 215) hO [o0 (.goto 5), o0 .i2l, o0 (.goto 29)] (by decide +kernel) (show tWG K B 0 0 S I J 215 [some (vR 61), none, some (vI v2), some (vI v3), some (vI (v4 + 1)), some (vI (if (I 61 20) = 0 then (I 63 (((I 61 34) + 98) + (2 * v4)).toNatClampNeg) else (I 72 v4.toNatClampNeg))), some (vI (if (I 61 20) = 0 then (I 63 ((((I 61 34) + 98) + (2 * v4)) + 1).toNatClampNeg) else (I 73 v4.toNatClampNeg)))] [vL ((V12_ofBend S I J (if (I 61 20) = 0 then (I 63 ((((I 61 34) + 98) + (2 * v4)) + 1).toNatClampNeg) else (I 73 v4.toNatClampNeg)) 0).toInt64), vI v3, vR 81] from ?_)
                      exact gWeak (L' := [some (vR 61), none, some (vI v2), some (vI v3), some (vI (v4 + 1)), none, none]) ⟨rfl, rfl, rfl, rfl, trivial⟩ (hj33 _ (Eq.symm ((if_neg c35).trans ((if_neg c36).trans ((if_pos c37).trans ((if_pos c38).trans (if_neg c42)))))))
                · have h := h.2 c37
                  refine gBk (pe := 215) hO [o0 (.aload_n 0), oF (.getfield 118) 12 36 222 80, o0 (.iload 5), o0 .laload, o0 (.goto 61)] (by decide +kernel) (And.intro t0 (And.intro rfl (And.intro (tGr.off hG t0 (k := 36) rfl) (And.intro (tin (tGr.len hG t0 (k := 36) rfl (by decide)) h.1) (show tWG K B 0 0 S I J 215 [some (vR 61), none, some (vI v2), some (vI v3), some (vI (v4 + 1)), some (vI (if (I 61 20) = 0 then (I 63 (((I 61 34) + 98) + (2 * v4)).toNatClampNeg) else (I 72 v4.toNatClampNeg))), some (vI (if (I 61 20) = 0 then (I 63 ((((I 61 34) + 98) + (2 * v4)) + 1).toNatClampNeg) else (I 73 v4.toNatClampNeg)))] [vL (J 80 (if (I 61 20) = 0 then (I 63 (((I 61 34) + 98) + (2 * v4)).toNatClampNeg) else (I 72 v4.toNatClampNeg)).toNatClampNeg), vI v3, vR 81] from ?_)))))
                  have h := h.2
                  exact gWeak (L' := [some (vR 61), none, some (vI v2), some (vI v3), some (vI (v4 + 1)), none, none]) ⟨rfl, rfl, rfl, rfl, trivial⟩ (hj33 _ (Eq.symm ((if_neg c35).trans ((if_neg c36).trans (if_neg c37)))))
              · have h := h.2 c36
                refine gBk (pe := 215) hO [o0 (.aload_n 0), oF (.getfield 115) 12 35 221 79, o0 (.iload 5), o0 .laload, o0 (.goto 78)] (by decide +kernel) (And.intro t0 (And.intro rfl (And.intro (tGr.off hG t0 (k := 35) rfl) (And.intro (tin (tGr.len hG t0 (k := 35) rfl (by decide)) h.1) (show tWG K B 0 0 S I J 215 [some (vR 61), none, some (vI v2), some (vI v3), some (vI (v4 + 1)), some (vI (if (I 61 20) = 0 then (I 63 (((I 61 34) + 98) + (2 * v4)).toNatClampNeg) else (I 72 v4.toNatClampNeg))), some (vI (if (I 61 20) = 0 then (I 63 ((((I 61 34) + 98) + (2 * v4)) + 1).toNatClampNeg) else (I 73 v4.toNatClampNeg)))] [vL (J 79 (if (I 61 20) = 0 then (I 63 (((I 61 34) + 98) + (2 * v4)).toNatClampNeg) else (I 72 v4.toNatClampNeg)).toNatClampNeg), vI v3, vR 81] from ?_)))))
                have h := h.2
                exact gWeak (L' := [some (vR 61), none, some (vI v2), some (vI v3), some (vI (v4 + 1)), none, none]) ⟨rfl, rfl, rfl, rfl, trivial⟩ (hj33 _ (Eq.symm ((if_neg c35).trans (if_pos c36))))
            · have h := h.2 c35
              refine gBk (pe := 215) hO [o0 (.iload 6), o0 .i2l, o0 (.goto 95)] (by decide +kernel) (show tWG K B 0 0 S I J 215 [some (vR 61), none, some (vI v2), some (vI v3), some (vI (v4 + 1)), some (vI (if (I 61 20) = 0 then (I 63 (((I 61 34) + 98) + (2 * v4)).toNatClampNeg) else (I 72 v4.toNatClampNeg))), some (vI (if (I 61 20) = 0 then (I 63 ((((I 61 34) + 98) + (2 * v4)) + 1).toNatClampNeg) else (I 73 v4.toNatClampNeg)))] [vL ((if (I 61 20) = 0 then (I 63 ((((I 61 34) + 98) + (2 * v4)) + 1).toNatClampNeg) else (I 73 v4.toNatClampNeg)).toInt64), vI v3, vR 81] from ?_)
              exact gWeak (L' := [some (vR 61), none, some (vI v2), some (vI v3), some (vI (v4 + 1)), none, none]) ⟨rfl, rfl, rfl, rfl, trivial⟩ (hj33 _ (Eq.symm (if_pos c35)))
        have h := h.1
        refine gIfEq hO (off := 13) (tgt := 76) (by decide +kernel) (by decide) (fun c11 => ?_) (fun c11 => ?_)
        · have h := h.1 c11
          refine gBk (pe := 95) hO [o0 (.aload_n 0), oF (.getfield 13) 12 3 179 63, o0 (.aload_n 0), oF (.getfield 416) 12 34 336 0, oI (.bipush 98) 98, o0 .iadd, oI (.iconst 2) 2, o0 (.iload 4), o0 .imul, o0 .iadd, oI (.iconst 1) 1, o0 .iadd, o0 .iaload] (by decide +kernel) (And.intro t0 (And.intro rfl (And.intro t0 (And.intro (tGr.off hG t0 (k := 3) rfl) (And.intro (tin (tGr.len hG t0 (k := 3) rfl (by decide)) h.1) (show tWG K B 0 0 S I J 95 [some (vR 61), none, some (vI v2), some (vI v3), some (vI v4), some (vI (if (I 61 20) = 0 then (I 63 (((I 61 34) + 98) + (2 * v4)).toNatClampNeg) else (I 72 v4.toNatClampNeg))), none] [vI (I 63 ((((I 61 34) + 98) + (2 * v4)) + 1).toNatClampNeg)] from ?_))))))
          have h := h.2
          exact (hj9 _ (Eq.symm (if_pos c11)))
        · have h := h.2 c11
          refine gBk (pe := 95) hO [o0 (.aload_n 0), oF (.getfield 48) 12 25 191 73, o0 (.iload 4), o0 .iaload, o0 (.goto 22)] (by decide +kernel) (And.intro t0 (And.intro rfl (And.intro (tGr.off hG t0 (k := 25) rfl) (And.intro (tin (tGr.len hG t0 (k := 25) rfl (by decide)) h.1) (show tWG K B 0 0 S I J 95 [some (vR 61), none, some (vI v2), some (vI v3), some (vI v4), some (vI (if (I 61 20) = 0 then (I 63 (((I 61 34) + 98) + (2 * v4)).toNatClampNeg) else (I 72 v4.toNatClampNeg))), none] [vI (I 73 v4.toNatClampNeg)] from ?_)))))
          have h := h.2
          exact (hj9 _ (Eq.symm (if_neg c11)))
      have h := h.1
      refine gIfEq hO (off := 13) (tgt := 40) (by decide +kernel) (by decide) (fun c8 => ?_) (fun c8 => ?_)
      · have h := h.1 c8
        refine gBk (pe := 57) hO [o0 (.aload_n 0), oF (.getfield 13) 12 3 179 63, o0 (.aload_n 0), oF (.getfield 416) 12 34 336 0, oI (.bipush 98) 98, o0 .iadd, oI (.iconst 2) 2, o0 (.iload 4), o0 .imul, o0 .iadd, o0 .iaload] (by decide +kernel) (And.intro t0 (And.intro rfl (And.intro t0 (And.intro (tGr.off hG t0 (k := 3) rfl) (And.intro (tin (tGr.len hG t0 (k := 3) rfl (by decide)) h.1) (show tWG K B 0 0 S I J 57 [some (vR 61), none, some (vI v2), some (vI v3), some (vI v4), none, none] [vI (I 63 (((I 61 34) + 98) + (2 * v4)).toNatClampNeg)] from ?_))))))
        have h := h.2
        exact (hj6 _ (Eq.symm (if_pos c8)))
      · have h := h.2 c8
        refine gBk (pe := 57) hO [o0 (.aload_n 0), oF (.getfield 45) 12 24 190 72, o0 (.iload 4), o0 .iaload, o0 (.goto 20)] (by decide +kernel) (And.intro t0 (And.intro rfl (And.intro (tGr.off hG t0 (k := 24) rfl) (And.intro (tin (tGr.len hG t0 (k := 24) rfl (by decide)) h.1) (show tWG K B 0 0 S I J 57 [some (vR 61), none, some (vI v2), some (vI v3), some (vI v4), none, none] [vI (I 72 v4.toNatClampNeg)] from ?_)))))
        have h := h.2
        exact (hj6 _ (Eq.symm (if_neg c8)))
theorem W12_reckonAll_L10 {K : tK} {B : tB} {S : tSH} {MC MS : Nat} (hO : tKO K B RX12 cX12_reckonAll 7) (hR : kR K = tRm 4 MC MS) (hG : tGr S) {n : Nat} (t0 : ty S 61 12) {k : tHI → tHJ → Prop} (hQ : tRet K B (tQv B (tPv S k)) 0 0 none) : ∀ (f : Nat) (I : tHI) (J : tHJ) (v2 : Int32) (v3 : Int32) (v4 : Int32), F12_reckonAll_L10 n S k f I J v2 v3 v4 → tWG K B 0 0 S I J 10 [some (vR 61), none, some (vI v2), some (vI v3), some (vI v4), none, none] [] := by
  intro f
  induction f with
  | zero => intro I J v2 v3 v4 h; exact h.elim
  | succ f ih => intro I J v2 v3 v4 h; exact W12_reckonAll_10 hO hR hG t0 hQ ih h
set_option maxRecDepth 20000 in
theorem hc12_reckonAll : tCV yX12_reckonAll cX12_reckonAll 7 none 2 := ⟨⟨(List.mem_of_getElem? (i := 347) rfl), (List.mem_of_getElem? (i := 5) (by decide +kernel)), by decide +kernel⟩, (List.mem_of_getElem? (i := 345) (by decide +kernel)), (List.mem_of_getElem? (i := 346) (by decide +kernel))⟩
set_option maxRecDepth 100000 in
theorem M12_reckonAll {l : Launch} {B : tB} {S : tSH} {I : tHI} {J : tHJ} {v1 : Int32} {v2 : Int32} {n : Nat} {k : tHI → tHJ → Prop} (t0 : ty S 61 12) (h : F12_reckonAll n S I J v1 v2 k) : Met l yX12_reckonAll (tWs yX12_reckonAll cX12_reckonAll 7 none) (tRm 4 0 0) (tPc B [vR 61, vI v1, vI v2] S I J) (tQv B (tPv S k)) 0 0 (tA B) :=
  tEntry (by decide +kernel) [some (vR 61), some (vI v1), some (vI v2), none, none, none, none] rfl rfl (Nat.le_of_ble_eq_true rfl) (fun K hl hR hO hQ hG => by
  subst hl
  refine gBk (pe := 10) hO [o0 (.aload_n 0), oI (.iconst 0) 0, oF (.putfield 413) 12 38 342 0, oI (.iconst 0) 0, o0 (.istore_n 3), o0 (.iload_n 1), o0 (.istore 4)] (by decide +kernel) (And.intro t0 (And.intro (Or.inl rfl) (And.intro (Nat.le_of_ble_eq_true rfl) (And.intro (Nat.le_of_ble_eq_true rfl) (show tWG K B 0 0 S (uI I 61 38 0) J 10 [some (vR 61), some (vI v1), some (vI v2), some (vI 0), some (vI v1), none, none] [] from ?_)))))
  exact gWeak (L' := [some (vR 61), none, some (vI v2), some (vI 0), some (vI v1), none, none]) ⟨rfl, rfl, rfl, rfl, trivial⟩ (W12_reckonAll_L10 hO hR hG t0 hQ n _ _ _ _ _ h))
set_option maxRecDepth 100000 in
theorem W12_isSo_59 {K : tK} {B : tB} {S : tSH} {MC MS : Nat} (hO : tKO K B RX12 cX12_isSo 2) (hR : kR K = tRm 5 MC MS) (hG : tGr S) {n : Nat} (t0 : ty S 61 12) {k : Int32 → tHI → tHJ → Prop} (hQ : tRet K B (tQi B (tPb S k)) 0 0 (some .boolean)) {I : tHI} {J : tHJ} {v1 : Int32} (h : F12_isSo_59 n S k I J v1) : tWG K B 0 0 S I J 59 [some (vR 61), some (vI v1)] [] := by
  refine gBk (pe := 66) hO [o0 (.aload_n 0), oF (.getfield 13) 12 3 179 63, o0 (.iload_n 1), o0 .iaload, oI (.iconst 5) 5] (by decide +kernel) (And.intro t0 (And.intro rfl (And.intro (tGr.off hG t0 (k := 3) rfl) (And.intro (tin (tGr.len hG t0 (k := 3) rfl (by decide)) h.1) (show tWG K B 0 0 S I J 66 [some (vR 61), some (vI v1)] [vI 5, vI (I 63 v1.toNatClampNeg)] from ?_)))))
  have h := h.2
  refine gIcEq hO (off := 44) (tgt := 110) (by decide +kernel) (by decide) (fun c2 => ?_) (fun c2 => ?_)
  · have h := h.1 c2
    refine gBk (pe := 111) hO [oI (.iconst 1) 1] (by decide +kernel) (show tWG K B 0 0 S I J 111 [some (vR 61), some (vI v1)] [vI 1] from ?_)
    exact gZret hO hQ (by decide +kernel) (Or.inr rfl) ⟨rfl, (Or.inr rfl), h⟩
  · have h := h.2 c2
    refine gBk (pe := 86) hO [o0 (.aload_n 0), o0 (.aload_n 0), oF (.getfield 13) 12 3 179 63, o0 (.iload_n 1), oI (.iconst 3) 3, o0 .iadd, o0 .iaload, o0 (.aload_n 0), oF (.getfield 13) 12 3 179 63, o0 (.iload_n 1), oI (.iconst 4) 4, o0 .iadd, o0 .iaload] (by decide +kernel) (And.intro t0 (And.intro rfl (And.intro (tGr.off hG t0 (k := 3) rfl) (And.intro (tin (tGr.len hG t0 (k := 3) rfl (by decide)) h.1) (And.intro t0 (And.intro rfl (And.intro (tGr.off hG t0 (k := 3) rfl) (And.intro (tin (tGr.len hG t0 (k := 3) rfl (by decide)) h.2.1) (show tWG K B 0 0 S I J 86 [some (vR 61), some (vI v1)] [vI (I 63 (v1 + 4).toNatClampNeg), vI (I 63 (v1 + 3).toNatClampNeg), vR 61] from ?_)))))))))
    have h := h.2.2
    refine gCVv_c hO (M12_reckonAll t0 h) hc12_reckonAll (idx := 432) (w := 344) (by decide +kernel) hR (by omega) t0 ⟨by decide, rfl⟩ (vs := [vI (I 63 (v1 + 3).toNatClampNeg), vI (I 63 (v1 + 4).toNatClampNeg)]) (st := []) ⟨rfl, Nat.le_of_ble_eq_true rfl, rfl⟩ (by decide +kernel) (fun I3 J4 h => ?_)
    refine gBk (pe := 101) hO [o0 (.aload_n 0), o0 (.aload_n 0), oF (.getfield 429) 12 39 343 0, oF (.putfield 435) 12 40 337 0, o0 (.aload_n 0), oF (.getfield 413) 12 38 342 0] (by decide +kernel) (And.intro t0 (And.intro t0 (And.intro t0 (show tWG K B 0 0 S I3 (uJ J4 61 40 (J4 61 39)) 101 [some (vR 61), some (vI v1)] [vI (I3 61 38)] from ?_))))
    have hj5 : ∀ (m6 : Int32), m6 = (if (I3 61 38) = 0 then (1 : Int32) else 0) → tWG K B 0 0 S I3 (uJ J4 61 40 (J4 61 39)) 109 [none, none] [vI m6] := by
      intro m6 em6
      subst em6
      exact gZret hO hQ (by decide +kernel) (bz_if (Or.inr rfl) (Or.inl rfl)) ⟨rfl, (bz_if (Or.inr rfl) (Or.inl rfl)), h⟩
    refine gIfNe hO (off := 7) (tgt := 108) (by decide +kernel) (by decide) (fun c7 => ?_) (fun c7 => ?_)
    · refine gBk (pe := 109) hO [oI (.iconst 0) 0] (by decide +kernel) (show tWG K B 0 0 S I3 (uJ J4 61 40 (J4 61 39)) 109 [some (vR 61), some (vI v1)] [vI 0] from ?_)
      exact gWeak (L' := [none, none]) trivial (hj5 _ (Eq.symm (if_neg c7)))
    · refine gBk (pe := 109) hO [oI (.iconst 1) 1, o0 (.goto 4)] (by decide +kernel) (show tWG K B 0 0 S I3 (uJ J4 61 40 (J4 61 39)) 109 [some (vR 61), some (vI v1)] [vI 1] from ?_)
      exact gWeak (L' := [none, none]) trivial (hj5 _ (Eq.symm (if_pos c7)))
set_option maxRecDepth 100000 in
theorem W12_isSo_57 {K : tK} {B : tB} {S : tSH} {MC MS : Nat} (hO : tKO K B RX12 cX12_isSo 2) (hR : kR K = tRm 5 MC MS) (hG : tGr S) {n : Nat} (t0 : ty S 61 12) {k : Int32 → tHI → tHJ → Prop} (hQ : tRet K B (tQi B (tPb S k)) 0 0 (some .boolean)) {I : tHI} {J : tHJ} (h : F12_isSo_57 n S k I J) : tWG K B 0 0 S I J 57 [none, none] [] := by
  refine gBk (pe := 58) hO [oI (.iconst 0) 0] (by decide +kernel) (show tWG K B 0 0 S I J 58 [none, none] [vI 0] from ?_)
  exact gZret hO hQ (by decide +kernel) (Or.inl rfl) ⟨rfl, (Or.inl rfl), h⟩
set_option maxRecDepth 20000 in
theorem hc12_isSo : tCV yX12_isSo cX12_isSo 2 (some .boolean) 1 := ⟨⟨(List.mem_of_getElem? (i := 341) rfl), (List.mem_of_getElem? (i := 5) (by decide +kernel)), by decide +kernel⟩, (List.mem_of_getElem? (i := 339) (by decide +kernel)), (List.mem_of_getElem? (i := 340) (by decide +kernel))⟩
set_option maxRecDepth 100000 in
theorem M12_isSo {l : Launch} {B : tB} {S : tSH} {I : tHI} {J : tHJ} {v1 : Int32} {n : Nat} {k : Int32 → tHI → tHJ → Prop} (t0 : ty S 61 12) (h : F12_isSo n S I J v1 k) : Met l yX12_isSo (tWs yX12_isSo cX12_isSo 2 (some .boolean)) (tRm 5 0 0) (tPc B [vR 61, vI v1] S I J) (tQi B (tPb S k)) 0 0 (tA B) :=
  tEntry (by decide +kernel) [some (vR 61), some (vI v1)] rfl rfl (Nat.le_of_ble_eq_true rfl) (fun K hl hR hO hQ hG => by
  subst hl
  refine gBk (pe := 17) hO [o0 (.aload_n 0), oF (.getfield 13) 12 3 179 63, o0 (.iload_n 1), oI (.iconst 5) 5, o0 .iadd, o0 .iaload, o0 (.aload_n 0), oF (.getfield 13) 12 3 179 63, o0 (.iload_n 1), oI (.bipush 6) 6, o0 .iadd, o0 .iaload] (by decide +kernel) (And.intro t0 (And.intro rfl (And.intro (tGr.off hG t0 (k := 3) rfl) (And.intro (tin (tGr.len hG t0 (k := 3) rfl (by decide)) h.1) (And.intro t0 (And.intro rfl (And.intro (tGr.off hG t0 (k := 3) rfl) (And.intro (tin (tGr.len hG t0 (k := 3) rfl (by decide)) h.2.1) (show tWG K B 0 0 S I J 17 [some (vR 61), some (vI v1)] [vI (I 63 (v1 + 6).toNatClampNeg), vI (I 63 (v1 + 5).toNatClampNeg)] from ?_)))))))))
  have h := h.2.2
  refine gIcGe hO (off := 42) (tgt := 59) (by decide +kernel) (by decide) (fun c1 => ?_) (fun c1 => ?_)
  · have h := h.1 c1
    exact W12_isSo_59 hO hR hG t0 hQ h
  · have h := h.2 c1
    refine gBk (pe := 38) hO [o0 (.aload_n 0), o0 (.aload_n 0), oF (.getfield 13) 12 3 179 63, o0 (.iload_n 1), oI (.iconst 5) 5, o0 .iadd, o0 .iaload, o0 (.aload_n 0), oF (.getfield 13) 12 3 179 63, o0 (.iload_n 1), oI (.bipush 6) 6, o0 .iadd, o0 .iaload] (by decide +kernel) (And.intro t0 (And.intro rfl (And.intro (tGr.off hG t0 (k := 3) rfl) (And.intro (tin (tGr.len hG t0 (k := 3) rfl (by decide)) h.1) (And.intro t0 (And.intro rfl (And.intro (tGr.off hG t0 (k := 3) rfl) (And.intro (tin (tGr.len hG t0 (k := 3) rfl (by decide)) h.2.1) (show tWG K B 0 0 S I J 38 [some (vR 61), some (vI v1)] [vI (I 63 (v1 + 6).toNatClampNeg), vI (I 63 (v1 + 5).toNatClampNeg), vR 61] from ?_)))))))))
    have h := h.2.2
    refine gCVv_c hO (M12_reckonAll t0 h) hc12_reckonAll (idx := 432) (w := 344) (by decide +kernel) hR (by omega) t0 ⟨by decide, rfl⟩ (vs := [vI (I 63 (v1 + 5).toNatClampNeg), vI (I 63 (v1 + 6).toNatClampNeg)]) (st := []) ⟨rfl, Nat.le_of_ble_eq_true rfl, rfl⟩ (by decide +kernel) (fun I8 J9 h => ?_)
    refine gBk (pe := 45) hO [o0 (.aload_n 0), oF (.getfield 413) 12 38 342 0] (by decide +kernel) (And.intro t0 (show tWG K B 0 0 S I8 J9 45 [some (vR 61), some (vI v1)] [vI (I8 61 38)] from ?_))
    refine gIfNe hO (off := 12) (tgt := 57) (by decide +kernel) (by decide) (fun c10 => ?_) (fun c10 => ?_)
    · have h := h.1 c10
      exact gWeak (L' := [none, none]) trivial (W12_isSo_57 hO hR hG t0 hQ h)
    · have h := h.2 c10
      refine gBk (pe := 54) hO [o0 (.aload_n 0), oF (.getfield 429) 12 39 343 0, oJ (.lconst 0) 0 0, o0 .lcmp] (by decide +kernel) (And.intro t0 (show tWG K B 0 0 S I8 J9 54 [some (vR 61), some (vI v1)] [vI (lg_cmp (J9 61 39) 0)] from ?_))
      refine gIfNe hO (off := 5) (tgt := 59) (by decide +kernel) (by decide) (fun c11 => ?_) (fun c11 => ?_)
      · have h := h.1 c11
        exact W12_isSo_59 hO hR hG t0 hQ h
      · have h := h.2 c11
        exact gWeak (L' := [none, none]) trivial (W12_isSo_57 hO hR hG t0 hQ h))
set_option maxRecDepth 100000 in
theorem W12_tells_145 {K : tK} {B : tB} {S : tSH} {MC MS : Nat} (hO : tKO K B RX12 cX12_tells 8) (hR : kR K = tRm 6 MC MS) (hG : tGr S) {n : Nat} (t0 : ty S 61 12) {k : Int64 → tHI → tHJ → Prop} (hQ : tRet K B (tQl B (tPl S k)) 0 0 (some .long)) {kb80 : tHI → tHJ → Int32 → Int64 → Int32 → Prop} (hkb80 : ∀ (I : tHI) (J : tHJ) (v1 : Int32) (w4 : Int64) (v6 : Int32), kb80 I J v1 w4 v6 → tWG K B 0 0 S I J 80 [some (vR 61), some (vI v1), none, none, some (vL w4), none, some (vI v6), none] []) {I : tHI} {J : tHJ} {v1 : Int32} {w4 : Int64} {v6 : Int32} (h : F12_tells_145 n S k kb80 I J v1 w4 v6) : tWG K B 0 0 S I J 145 [some (vR 61), some (vI v1), none, none, some (vL w4), none, some (vI v6), none] [] := by
  refine gBk (pe := 80) hO [oI (.iinc 6 1) 1, o0 (.goto (-68))] (by decide +kernel) (show tWG K B 0 0 S I J 80 [some (vR 61), some (vI v1), none, none, some (vL w4), none, some (vI (v6 + 1)), none] [] from ?_)
  exact hkb80 _ _ _ _ _ h
set_option maxRecDepth 100000 in
theorem W12_tells_80 {K : tK} {B : tB} {S : tSH} {MC MS : Nat} (hO : tKO K B RX12 cX12_tells 8) (hR : kR K = tRm 6 MC MS) (hG : tGr S) {n : Nat} (t0 : ty S 61 12) {k : Int64 → tHI → tHJ → Prop} (hQ : tRet K B (tQl B (tPl S k)) 0 0 (some .long)) {kb80 : tHI → tHJ → Int32 → Int64 → Int32 → Prop} (hkb80 : ∀ (I : tHI) (J : tHJ) (v1 : Int32) (w4 : Int64) (v6 : Int32), kb80 I J v1 w4 v6 → tWG K B 0 0 S I J 80 [some (vR 61), some (vI v1), none, none, some (vL w4), none, some (vI v6), none] []) {I : tHI} {J : tHJ} {v1 : Int32} {w4 : Int64} {v6 : Int32} (h : F12_tells_80 n S k kb80 I J v1 w4 v6) : tWG K B 0 0 S I J 80 [some (vR 61), some (vI v1), none, none, some (vL w4), none, some (vI v6), none] [] := by
  refine gBk (pe := 93) hO [o0 (.iload 6), o0 (.aload_n 0), oF (.getfield 13) 12 3 179 63, o0 (.aload_n 0), oF (.getfield 416) 12 34 336 0, oI (.iconst 1) 1, o0 .iadd, o0 .iaload] (by decide +kernel) (And.intro t0 (And.intro rfl (And.intro t0 (And.intro (tGr.off hG t0 (k := 3) rfl) (And.intro (tin (tGr.len hG t0 (k := 3) rfl (by decide)) h.1) (show tWG K B 0 0 S I J 93 [some (vR 61), some (vI v1), none, none, some (vL w4), none, some (vI v6), none] [vI (I 63 ((I 61 34) + 1).toNatClampNeg), vI v6] from ?_))))))
  have h := h.2
  refine gIcGe hO (off := 58) (tgt := 151) (by decide +kernel) (by decide) (fun c2 => ?_) (fun c2 => ?_)
  · have h := h.1 c2
    refine gBk (pe := 153) hO [o0 (.lload 4)] (by decide +kernel) (show tWG K B 0 0 S I J 153 [some (vR 61), some (vI v1), none, none, some (vL w4), none, some (vI v6), none] [vL w4] from ?_)
    exact gLret hO hQ (by decide +kernel) ⟨rfl, h⟩
  · have h := h.2 c2
    refine gBk (pe := 118) hO [o0 (.aload_n 0), oF (.getfield 416) 12 34 336 0, oI (.iconst 2) 2, o0 .iadd, oI (.bipush 8) 8, o0 (.iload 6), o0 .imul, o0 .iadd, o0 (.istore 7), o0 (.aload_n 0), oF (.getfield 13) 12 3 179 63, o0 (.iload 7), o0 .iaload, o0 (.iload_n 1)] (by decide +kernel) (And.intro t0 (And.intro (Nat.le_of_ble_eq_true rfl) (And.intro t0 (And.intro rfl (And.intro (tGr.off hG t0 (k := 3) rfl) (And.intro (tin (tGr.len hG t0 (k := 3) rfl (by decide)) h.1) (show tWG K B 0 0 S I J 118 [some (vR 61), some (vI v1), none, none, some (vL w4), none, some (vI v6), some (vI (((I 61 34) + 2) + (8 * v6)))] [vI v1, vI (I 63 (((I 61 34) + 2) + (8 * v6)).toNatClampNeg)] from ?_)))))))
    have h := h.2
    refine gIcNe hO (off := 27) (tgt := 145) (by decide +kernel) (by decide) (fun c3 => ?_) (fun c3 => ?_)
    · have h := h.1 c3
      exact gWeak (L' := [some (vR 61), some (vI v1), none, none, some (vL w4), none, some (vI v6), none]) ⟨rfl, rfl, rfl, rfl, trivial⟩ (W12_tells_145 hO hR hG t0 hQ hkb80 h)
    · have h := h.2 c3
      refine gBk (pe := 124) hO [o0 (.aload_n 0), o0 (.iload 7)] (by decide +kernel) (show tWG K B 0 0 S I J 124 [some (vR 61), some (vI v1), none, none, some (vL w4), none, some (vI v6), some (vI (((I 61 34) + 2) + (8 * v6)))] [vI (((I 61 34) + 2) + (8 * v6)), vR 61] from ?_)
      refine gCVi_b hO (M12_isSo t0 h) hc12_isSo (idx := 438) (w := 338) (by decide +kernel) hR (by omega) t0 ⟨by decide, rfl⟩ (vs := [vI (((I 61 34) + 2) + (8 * v6))]) (st := []) ⟨rfl, Nat.le_of_ble_eq_true rfl, rfl⟩ (by decide +kernel) (fun x6 I4 J5 z7 h => ?_)
      have h := h z7
      have hj8 : ∀ (m9 : Int64), m9 = (if x6 = 0 then w4 else (if v1 = 5 then 1 else (J5 61 40))) → tWG K B 0 0 S I4 J5 145 [some (vR 61), some (vI v1), none, none, some (vL m9), none, some (vI v6), none] [] := by
        intro m9 em9
        subst em9
        exact W12_tells_145 hO hR hG t0 hQ hkb80 h
      refine gIfEq hO (off := 18) (tgt := 145) (by decide +kernel) (by decide) (fun c10 => ?_) (fun c10 => ?_)
      · exact gWeak (L' := [some (vR 61), some (vI v1), none, none, some (vL w4), none, some (vI v6), none]) ⟨rfl, rfl, rfl, rfl, trivial⟩ (hj8 _ (Eq.symm (if_pos c10)))
      · refine gBk (pe := 132) hO [o0 (.iload_n 1), oI (.iconst 5) 5] (by decide +kernel) (show tWG K B 0 0 S I4 J5 132 [some (vR 61), some (vI v1), none, none, some (vL w4), none, some (vI v6), some (vI (((I 61 34) + 2) + (8 * v6)))] [vI 5, vI v1] from ?_)
        refine gIcNe hO (off := 7) (tgt := 139) (by decide +kernel) (by decide) (fun c11 => ?_) (fun c11 => ?_)
        · refine gBk (pe := 145) hO [o0 (.aload_n 0), oF (.getfield 435) 12 40 337 0, o0 (.lstore 4)] (by decide +kernel) (And.intro t0 (And.intro (Nat.le_of_ble_eq_true rfl) (show tWG K B 0 0 S I4 J5 145 [some (vR 61), some (vI v1), none, none, some (vL (J5 61 40)), none, some (vI v6), some (vI (((I 61 34) + 2) + (8 * v6)))] [] from ?_)))
          exact gWeak (L' := [some (vR 61), some (vI v1), none, none, some (vL (J5 61 40)), none, some (vI v6), none]) ⟨rfl, rfl, rfl, rfl, trivial⟩ (hj8 _ (Eq.symm ((if_neg c10).trans (if_neg c11))))
        · refine gBk (pe := 145) hO [oJ (.lconst 1) 0 1, o0 (.goto 7), o0 (.lstore 4)] (by decide +kernel) (And.intro (Nat.le_of_ble_eq_true rfl) (show tWG K B 0 0 S I4 J5 145 [some (vR 61), some (vI v1), none, none, some (vL 1), none, some (vI v6), some (vI (((I 61 34) + 2) + (8 * v6)))] [] from ?_))
          exact gWeak (L' := [some (vR 61), some (vI v1), none, none, some (vL 1), none, some (vI v6), none]) ⟨rfl, rfl, rfl, rfl, trivial⟩ (hj8 _ (Eq.symm ((if_neg c10).trans (if_pos c11))))
theorem W12_tells_L80 {K : tK} {B : tB} {S : tSH} {MC MS : Nat} (hO : tKO K B RX12 cX12_tells 8) (hR : kR K = tRm 6 MC MS) (hG : tGr S) {n : Nat} (t0 : ty S 61 12) {k : Int64 → tHI → tHJ → Prop} (hQ : tRet K B (tQl B (tPl S k)) 0 0 (some .long)) : ∀ (f : Nat) (I : tHI) (J : tHJ) (v1 : Int32) (w4 : Int64) (v6 : Int32), F12_tells_L80 n S k f I J v1 w4 v6 → tWG K B 0 0 S I J 80 [some (vR 61), some (vI v1), none, none, some (vL w4), none, some (vI v6), none] [] := by
  intro f
  induction f with
  | zero => intro I J v1 w4 v6 h; exact h.elim
  | succ f ih => intro I J v1 w4 v6 h; exact W12_tells_80 hO hR hG t0 hQ ih h
set_option maxRecDepth 20000 in
theorem hc12_tells : tCV yX12_tells cX12_tells 8 (some .long) 2 := ⟨⟨(List.mem_of_getElem? (i := 335) rfl), (List.mem_of_getElem? (i := 5) (by decide +kernel)), by decide +kernel⟩, (List.mem_of_getElem? (i := 333) (by decide +kernel)), (List.mem_of_getElem? (i := 334) (by decide +kernel))⟩
set_option maxRecDepth 100000 in
theorem M12_tells {l : Launch} {B : tB} {S : tSH} {I : tHI} {J : tHJ} {v1 : Int32} {w2 : Int64} {n : Nat} {k : Int64 → tHI → tHJ → Prop} (t0 : ty S 61 12) (h : F12_tells n S I J v1 w2 k) : Met l yX12_tells (tWs yX12_tells cX12_tells 8 (some .long)) (tRm 6 0 0) (tPc B [vR 61, vI v1, vL w2] S I J) (tQl B (tPl S k)) 0 0 (tA B) :=
  tEntry (by decide +kernel) [some (vR 61), some (vI v1), some (vL w2), none, none, none, none, none] rfl rfl (Nat.le_of_ble_eq_true rfl) (fun K hl hR hO hQ hG => by
  subst hl
  refine gBk (pe := 7) hO [o0 (.aload_n 0), oF (.getfield 13) 12 3 179 63, oI (.iconst 4) 4, o0 .iaload, oI (.iconst (-1)) (-1)] (by decide +kernel) (And.intro t0 (And.intro rfl (And.intro (tGr.off hG t0 (k := 3) rfl) (And.intro (tin (tGr.len hG t0 (k := 3) rfl (by decide)) (tvi (by decide +kernel))) (show tWG K B 0 0 S I J 7 [some (vR 61), some (vI v1), some (vL w2), none, none, none, none, none] [vI (-1), vI (I 63 4)] from ?_)))))
  refine gIcNe hO (off := 5) (tgt := 12) (by decide +kernel) (by decide) (fun c1 => ?_) (fun c1 => ?_)
  · have h := h.1 c1
    refine gBk (pe := 80) hO [o0 (.aload_n 0), oI (.bipush 110) 110, oI (.sipush 900) 900, o0 (.aload_n 0), oF (.getfield 13) 12 3 179 63, oI (.iconst 4) 4, o0 .iaload, o0 .imul, o0 .iadd, oF (.putfield 416) 12 34 336 0, o0 (.aload_n 0), oF (.getfield 115) 12 35 221 79, oI (.bipush 7) 7, o0 (.aload_n 0), oF (.getfield 13) 12 3 179 63, oI (.bipush 8) 8, o0 .iaload, o0 .i2l, o0 .lastore, o0 (.aload_n 0), oF (.getfield 115) 12 35 221 79, oI (.bipush 8) 8, o0 (.aload_n 0), oF (.getfield 13) 12 3 179 63, oI (.bipush 13) 13, o0 .iaload, o0 .i2l, o0 .lastore, o0 (.aload_n 0), oF (.getfield 115) 12 35 221 79, oI (.bipush 12) 12, o0 (.aload_n 0), oF (.getfield 13) 12 3 179 63, oI (.bipush 7) 7, o0 .iaload, o0 .i2l, o0 .lastore, o0 (.lload_n 2), o0 (.lstore 4), oI (.iconst 0) 0, o0 (.istore 6)] (by decide +kernel) (And.intro t0 (And.intro rfl (And.intro (tGr.off hG t0 (k := 3) rfl) (And.intro (tin (tGr.len hG t0 (k := 3) rfl (by decide)) (tvi (by decide +kernel))) (And.intro t0 (And.intro t0 (And.intro rfl (And.intro t0 (And.intro rfl (And.intro (tGr.off hG t0 (k := 3) rfl) (And.intro (tin (tGr.len hG t0 (k := 3) rfl (by decide)) (tvi (by decide +kernel))) (And.intro (tGr.off hG t0 (k := 35) rfl) (And.intro (tin (tGr.len hG t0 (k := 35) rfl (by decide)) (tvi (by decide +kernel))) (And.intro t0 (And.intro rfl (And.intro t0 (And.intro rfl (And.intro (tGr.off hG t0 (k := 3) rfl) (And.intro (tin (tGr.len hG t0 (k := 3) rfl (by decide)) (tvi (by decide +kernel))) (And.intro (tGr.off hG t0 (k := 35) rfl) (And.intro (tin (tGr.len hG t0 (k := 35) rfl (by decide)) (tvi (by decide +kernel))) (And.intro t0 (And.intro rfl (And.intro t0 (And.intro rfl (And.intro (tGr.off hG t0 (k := 3) rfl) (And.intro (tin (tGr.len hG t0 (k := 3) rfl (by decide)) (tvi (by decide +kernel))) (And.intro (tGr.off hG t0 (k := 35) rfl) (And.intro (tin (tGr.len hG t0 (k := 35) rfl (by decide)) (tvi (by decide +kernel))) (And.intro (Nat.le_of_ble_eq_true rfl) (And.intro (Nat.le_of_ble_eq_true rfl) (show tWG K B 0 0 S (uI I 61 34 (110 + (900 * (I 63 4)))) (uJ (uJ (uJ J 79 7 ((uI I 61 34 (110 + (900 * (I 63 4)))) 63 8).toInt64) 79 8 ((uI I 61 34 (110 + (900 * (I 63 4)))) 63 13).toInt64) 79 12 ((uI I 61 34 (110 + (900 * (I 63 4)))) 63 7).toInt64) 80 [some (vR 61), some (vI v1), some (vL w2), none, some (vL w2), none, some (vI 0), none] [] from ?_))))))))))))))))))))))))))))))))
    exact gWeak (L' := [some (vR 61), some (vI v1), none, none, some (vL w2), none, some (vI 0), none]) ⟨rfl, rfl, rfl, rfl, trivial⟩ (W12_tells_L80 hO hR hG t0 hQ n _ _ _ _ _ h)
  · have h := h.2 c1
    refine gBk (pe := 11) hO [o0 (.lload_n 2)] (by decide +kernel) (show tWG K B 0 0 S I J 11 [some (vR 61), some (vI v1), some (vL w2), none, none, none, none, none] [vL w2] from ?_)
    exact gLret hO hQ (by decide +kernel) ⟨rfl, h⟩)
set_option maxRecDepth 100000 in
theorem W12_weighLoads_132 {K : tK} {B : tB} {S : tSH} {MC MS : Nat} (hO : tKO K B RX12 cX12_weighLoads 3) (hR : kR K = tRm 3 MC MS) (hG : tGr S) {n : Nat} (t0 : ty S 61 12) {k : tHI → tHJ → Prop} (hQ : tRet K B (tQv B (tPv S k)) 0 0 none) {kb17 : tHI → tHJ → Int32 → Prop} (hkb17 : ∀ (I : tHI) (J : tHJ) (v1 : Int32), kb17 I J v1 → tWG K B 0 0 S I J 17 [some (vR 61), some (vI v1), none] []) {I : tHI} {J : tHJ} {v1 : Int32} (h : F12_weighLoads_132 n S k kb17 I J v1) : tWG K B 0 0 S I J 132 [some (vR 61), some (vI v1), none] [] := by
  refine gBk (pe := 17) hO [oI (.iinc 1 1) 1, o0 (.goto (-118))] (by decide +kernel) (show tWG K B 0 0 S I J 17 [some (vR 61), some (vI (v1 + 1)), none] [] from ?_)
  exact hkb17 _ _ _ h
set_option maxRecDepth 100000 in
theorem W12_weighLoads_17 {K : tK} {B : tB} {S : tSH} {MC MS : Nat} (hO : tKO K B RX12 cX12_weighLoads 3) (hR : kR K = tRm 3 MC MS) (hG : tGr S) {n : Nat} (t0 : ty S 61 12) {k : tHI → tHJ → Prop} (hQ : tRet K B (tQv B (tPv S k)) 0 0 none) {kb17 : tHI → tHJ → Int32 → Prop} (hkb17 : ∀ (I : tHI) (J : tHJ) (v1 : Int32), kb17 I J v1 → tWG K B 0 0 S I J 17 [some (vR 61), some (vI v1), none] []) {I : tHI} {J : tHJ} {v1 : Int32} (h : F12_weighLoads_17 n S k kb17 I J v1) : tWG K B 0 0 S I J 17 [some (vR 61), some (vI v1), none] [] := by
  refine gBk (pe := 24) hO [o0 (.iload_n 1), o0 (.aload_n 0), oF (.getfield 13) 12 3 179 63, oI (.iconst 0) 0, o0 .iaload] (by decide +kernel) (And.intro t0 (And.intro rfl (And.intro (tGr.off hG t0 (k := 3) rfl) (And.intro (tin (tGr.len hG t0 (k := 3) rfl (by decide)) (tvi (by decide +kernel))) (show tWG K B 0 0 S I J 24 [some (vR 61), some (vI v1), none] [vI (I 63 0), vI v1] from ?_)))))
  refine gIcGe hO (off := 114) (tgt := 138) (by decide +kernel) (by decide) (fun c1 => ?_) (fun c1 => ?_)
  · have h := h.1 c1
    exact gVret hO hQ (by decide +kernel) ⟨rfl, h⟩
  · have h := h.2 c1
    refine gBk (pe := 32) hO [o0 (.aload_n 0), oF (.getfield 124) 12 41 224 0, o0 (.iload_n 1)] (by decide +kernel) (And.intro t0 (show tWG K B 0 0 S I J 32 [some (vR 61), some (vI v1), none] [vI v1, vI (I 61 41)] from ?_))
    refine gCSi_z hO (M12_is) hc12_is (idx := 450) (w := 501) (by decide +kernel) hR (by omega) (vs := [vI (I 61 41), vI v1]) (st := []) ⟨rfl, Nat.le_of_ble_eq_true rfl, rfl⟩ (by decide +kernel) (fun z2 => ?_)
    refine gIfEq hO (off := 97) (tgt := 132) (by decide +kernel) (by decide) (fun c3 => ?_) (fun c3 => ?_)
    · have h := h.1 c3
      exact W12_weighLoads_132 hO hR hG t0 hQ hkb17 h
    · have h := h.2 c3
      refine gBk (pe := 63) hO [o0 (.aload_n 0), oF (.getfield 13) 12 3 179 63, oI (.bipush 26) 26, o0 (.iload_n 1), o0 .iadd, o0 .iaload, o0 (.istore_n 2), o0 (.aload_n 0), o0 .dup, oF (.getfield 441) 12 42 488 0, o0 (.aload_n 0), oF (.getfield 13) 12 3 179 63, oI (.bipush 14) 14, o0 (.iload_n 1), o0 .iadd, o0 .iaload, oI (.iconst 1) 1] (by decide +kernel) (And.intro t0 (And.intro rfl (And.intro (tGr.off hG t0 (k := 3) rfl) (And.intro (tin (tGr.len hG t0 (k := 3) rfl (by decide)) h.1) (And.intro (Nat.le_of_ble_eq_true rfl) (And.intro t0 (And.intro t0 (And.intro rfl (And.intro (tGr.off hG t0 (k := 3) rfl) (And.intro (tin (tGr.len hG t0 (k := 3) rfl (by decide)) h.2.1) (show tWG K B 0 0 S I J 63 [some (vR 61), some (vI v1), some (vI (I 63 (26 + v1).toNatClampNeg))] [vI 1, vI (I 63 (14 + v1).toNatClampNeg), vI (I 61 42), vR 61] from ?_)))))))))))
      have h := h.2.2
      have hj4 : ∀ (m5 : Int32), m5 = (if (I 63 (14 + v1).toNatClampNeg) ≤ 1 then 0 else (I 63 (26 + v1).toNatClampNeg)) → tWG K B 0 0 S I J 71 [some (vR 61), some (vI v1), some (vI (I 63 (26 + v1).toNatClampNeg))] [vI m5, vI (I 61 42), vR 61] := by
        intro m5 em5
        subst em5
        refine gBk (pe := 90) hO [o0 .iadd, oF (.putfield 441) 12 42 488 0, o0 (.aload_n 0), o0 .dup, oF (.getfield 444) 12 43 496 0, o0 (.aload_n 0), oF (.getfield 13) 12 3 179 63, oI (.bipush 14) 14, o0 (.iload_n 1), o0 .iadd, o0 .iaload, oI (.iconst 1) 1] (by decide +kernel) (And.intro t0 (And.intro t0 (And.intro t0 (And.intro rfl (And.intro (tGr.off hG t0 (k := 3) rfl) (And.intro (tin (tGr.len hG t0 (k := 3) rfl (by decide)) h.1) (show tWG K B 0 0 S (uI I 61 42 ((I 61 42) + (if (I 63 (14 + v1).toNatClampNeg) ≤ 1 then 0 else (I 63 (26 + v1).toNatClampNeg)))) J 90 [some (vR 61), some (vI v1), some (vI (I 63 (26 + v1).toNatClampNeg))] [vI 1, vI ((uI I 61 42 ((I 61 42) + (if (I 63 (14 + v1).toNatClampNeg) ≤ 1 then 0 else (I 63 (26 + v1).toNatClampNeg)))) 63 (14 + v1).toNatClampNeg), vI ((uI I 61 42 ((I 61 42) + (if (I 63 (14 + v1).toNatClampNeg) ≤ 1 then 0 else (I 63 (26 + v1).toNatClampNeg)))) 61 43), vR 61] from ?_)))))))
        have h := h.2
        have hj7 : ∀ (m8 : Int32), m8 = (if ((uI I 61 42 ((I 61 42) + (if (I 63 (14 + v1).toNatClampNeg) ≤ 1 then 0 else (I 63 (26 + v1).toNatClampNeg)))) 63 (14 + v1).toNatClampNeg) ≤ 1 then (I 63 (26 + v1).toNatClampNeg) else 0) → tWG K B 0 0 S (uI I 61 42 ((I 61 42) + (if (I 63 (14 + v1).toNatClampNeg) ≤ 1 then 0 else (I 63 (26 + v1).toNatClampNeg)))) J 98 [some (vR 61), some (vI v1), some (vI (I 63 (26 + v1).toNatClampNeg))] [vI m8, vI ((uI I 61 42 ((I 61 42) + (if (I 63 (14 + v1).toNatClampNeg) ≤ 1 then 0 else (I 63 (26 + v1).toNatClampNeg)))) 61 43), vR 61] := by
          intro m8 em8
          subst em8
          refine gBk (pe := 132) hO [o0 .iadd, oF (.putfield 444) 12 43 496 0, o0 (.aload_n 0), o0 .dup, oF (.getfield 447) 12 44 489 0, o0 (.aload_n 0), oF (.getfield 13) 12 3 179 63, oI (.bipush 32) 32, o0 (.iload_n 1), o0 .iadd, o0 .iaload, o0 (.aload_n 0), oF (.getfield 13) 12 3 179 63, oI (.bipush 20) 20, o0 (.iload_n 1), o0 .iadd, o0 .iaload, o0 .imul, o0 (.iload_n 2), o0 .imul, o0 .iadd, oF (.putfield 447) 12 44 489 0] (by decide +kernel) (And.intro t0 (And.intro t0 (And.intro t0 (And.intro rfl (And.intro (tGr.off hG t0 (k := 3) rfl) (And.intro (tin (tGr.len hG t0 (k := 3) rfl (by decide)) h.1) (And.intro t0 (And.intro rfl (And.intro (tGr.off hG t0 (k := 3) rfl) (And.intro (tin (tGr.len hG t0 (k := 3) rfl (by decide)) h.2.1) (And.intro t0 (show tWG K B 0 0 S (uI (uI (uI I 61 42 ((I 61 42) + (if (I 63 (14 + v1).toNatClampNeg) ≤ 1 then 0 else (I 63 (26 + v1).toNatClampNeg)))) 61 43 (((uI I 61 42 ((I 61 42) + (if (I 63 (14 + v1).toNatClampNeg) ≤ 1 then 0 else (I 63 (26 + v1).toNatClampNeg)))) 61 43) + (if ((uI I 61 42 ((I 61 42) + (if (I 63 (14 + v1).toNatClampNeg) ≤ 1 then 0 else (I 63 (26 + v1).toNatClampNeg)))) 63 (14 + v1).toNatClampNeg) ≤ 1 then (I 63 (26 + v1).toNatClampNeg) else 0))) 61 44 (((uI (uI I 61 42 ((I 61 42) + (if (I 63 (14 + v1).toNatClampNeg) ≤ 1 then 0 else (I 63 (26 + v1).toNatClampNeg)))) 61 43 (((uI I 61 42 ((I 61 42) + (if (I 63 (14 + v1).toNatClampNeg) ≤ 1 then 0 else (I 63 (26 + v1).toNatClampNeg)))) 61 43) + (if ((uI I 61 42 ((I 61 42) + (if (I 63 (14 + v1).toNatClampNeg) ≤ 1 then 0 else (I 63 (26 + v1).toNatClampNeg)))) 63 (14 + v1).toNatClampNeg) ≤ 1 then (I 63 (26 + v1).toNatClampNeg) else 0))) 61 44) + ((((uI (uI I 61 42 ((I 61 42) + (if (I 63 (14 + v1).toNatClampNeg) ≤ 1 then 0 else (I 63 (26 + v1).toNatClampNeg)))) 61 43 (((uI I 61 42 ((I 61 42) + (if (I 63 (14 + v1).toNatClampNeg) ≤ 1 then 0 else (I 63 (26 + v1).toNatClampNeg)))) 61 43) + (if ((uI I 61 42 ((I 61 42) + (if (I 63 (14 + v1).toNatClampNeg) ≤ 1 then 0 else (I 63 (26 + v1).toNatClampNeg)))) 63 (14 + v1).toNatClampNeg) ≤ 1 then (I 63 (26 + v1).toNatClampNeg) else 0))) 63 (32 + v1).toNatClampNeg) * ((uI (uI I 61 42 ((I 61 42) + (if (I 63 (14 + v1).toNatClampNeg) ≤ 1 then 0 else (I 63 (26 + v1).toNatClampNeg)))) 61 43 (((uI I 61 42 ((I 61 42) + (if (I 63 (14 + v1).toNatClampNeg) ≤ 1 then 0 else (I 63 (26 + v1).toNatClampNeg)))) 61 43) + (if ((uI I 61 42 ((I 61 42) + (if (I 63 (14 + v1).toNatClampNeg) ≤ 1 then 0 else (I 63 (26 + v1).toNatClampNeg)))) 63 (14 + v1).toNatClampNeg) ≤ 1 then (I 63 (26 + v1).toNatClampNeg) else 0))) 63 (20 + v1).toNatClampNeg)) * (I 63 (26 + v1).toNatClampNeg)))) J 132 [some (vR 61), some (vI v1), some (vI (I 63 (26 + v1).toNatClampNeg))] [] from ?_))))))))))))
          have h := h.2.2
          exact gWeak (L' := [some (vR 61), some (vI v1), none]) ⟨rfl, rfl, trivial⟩ (W12_weighLoads_132 hO hR hG t0 hQ hkb17 h)
        refine gIcLe hO (off := 7) (tgt := 97) (by decide +kernel) (by decide) (fun c9 => ?_) (fun c9 => ?_)
        · refine gBk (pe := 98) hO [o0 (.iload_n 2)] (by decide +kernel) (show tWG K B 0 0 S (uI I 61 42 ((I 61 42) + (if (I 63 (14 + v1).toNatClampNeg) ≤ 1 then 0 else (I 63 (26 + v1).toNatClampNeg)))) J 98 [some (vR 61), some (vI v1), some (vI (I 63 (26 + v1).toNatClampNeg))] [vI (I 63 (26 + v1).toNatClampNeg), vI ((uI I 61 42 ((I 61 42) + (if (I 63 (14 + v1).toNatClampNeg) ≤ 1 then 0 else (I 63 (26 + v1).toNatClampNeg)))) 61 43), vR 61] from ?_)
          exact (hj7 _ (Eq.symm (if_pos c9)))
        · refine gBk (pe := 98) hO [oI (.iconst 0) 0, o0 (.goto 4)] (by decide +kernel) (show tWG K B 0 0 S (uI I 61 42 ((I 61 42) + (if (I 63 (14 + v1).toNatClampNeg) ≤ 1 then 0 else (I 63 (26 + v1).toNatClampNeg)))) J 98 [some (vR 61), some (vI v1), some (vI (I 63 (26 + v1).toNatClampNeg))] [vI 0, vI ((uI I 61 42 ((I 61 42) + (if (I 63 (14 + v1).toNatClampNeg) ≤ 1 then 0 else (I 63 (26 + v1).toNatClampNeg)))) 61 43), vR 61] from ?_)
          exact (hj7 _ (Eq.symm (if_neg c9)))
      refine gIcLe hO (off := 7) (tgt := 70) (by decide +kernel) (by decide) (fun c6 => ?_) (fun c6 => ?_)
      · refine gBk (pe := 71) hO [oI (.iconst 0) 0] (by decide +kernel) (show tWG K B 0 0 S I J 71 [some (vR 61), some (vI v1), some (vI (I 63 (26 + v1).toNatClampNeg))] [vI 0, vI (I 61 42), vR 61] from ?_)
        exact (hj4 _ (Eq.symm (if_pos c6)))
      · refine gBk (pe := 71) hO [o0 (.iload_n 2), o0 (.goto 4)] (by decide +kernel) (show tWG K B 0 0 S I J 71 [some (vR 61), some (vI v1), some (vI (I 63 (26 + v1).toNatClampNeg))] [vI (I 63 (26 + v1).toNatClampNeg), vI (I 61 42), vR 61] from ?_)
        exact (hj4 _ (Eq.symm (if_neg c6)))
theorem W12_weighLoads_L17 {K : tK} {B : tB} {S : tSH} {MC MS : Nat} (hO : tKO K B RX12 cX12_weighLoads 3) (hR : kR K = tRm 3 MC MS) (hG : tGr S) {n : Nat} (t0 : ty S 61 12) {k : tHI → tHJ → Prop} (hQ : tRet K B (tQv B (tPv S k)) 0 0 none) : ∀ (f : Nat) (I : tHI) (J : tHJ) (v1 : Int32), F12_weighLoads_L17 n S k f I J v1 → tWG K B 0 0 S I J 17 [some (vR 61), some (vI v1), none] [] := by
  intro f
  induction f with
  | zero => intro I J v1 h; exact h.elim
  | succ f ih => intro I J v1 h; exact W12_weighLoads_17 hO hR hG t0 hQ ih h
set_option maxRecDepth 20000 in
theorem hc12_weighLoads : tCV yX12_weighLoads cX12_weighLoads 3 none 0 := ⟨⟨(List.mem_of_getElem? (i := 500) rfl), (List.mem_of_getElem? (i := 5) (by decide +kernel)), by decide +kernel⟩, (List.mem_of_getElem? (i := 498) (by decide +kernel)), (List.mem_of_getElem? (i := 499) (by decide +kernel))⟩
set_option maxRecDepth 100000 in
theorem M12_weighLoads {l : Launch} {B : tB} {S : tSH} {I : tHI} {J : tHJ} {n : Nat} {k : tHI → tHJ → Prop} (t0 : ty S 61 12) (h : F12_weighLoads n S I J k) : Met l yX12_weighLoads (tWs yX12_weighLoads cX12_weighLoads 3 none) (tRm 3 0 0) (tPc B [vR 61] S I J) (tQv B (tPv S k)) 0 0 (tA B) :=
  tEntry (by decide +kernel) [some (vR 61), none, none] rfl rfl (Nat.le_of_ble_eq_true rfl) (fun K hl hR hO hQ hG => by
  subst hl
  refine gBk (pe := 17) hO [o0 (.aload_n 0), oI (.iconst 0) 0, oF (.putfield 441) 12 42 488 0, o0 (.aload_n 0), oI (.iconst 0) 0, oF (.putfield 444) 12 43 496 0, o0 (.aload_n 0), oI (.iconst 0) 0, oF (.putfield 447) 12 44 489 0, oI (.iconst 0) 0, o0 (.istore_n 1)] (by decide +kernel) (And.intro t0 (And.intro t0 (And.intro t0 (And.intro (Nat.le_of_ble_eq_true rfl) (show tWG K B 0 0 S (uI (uI (uI I 61 42 0) 61 43 0) 61 44 0) J 17 [some (vR 61), some (vI 0), none] [] from ?_)))))
  exact W12_weighLoads_L17 hO hR hG t0 hQ n _ _ _ h)
set_option maxRecDepth 20000 in
theorem hc12_setBend : tCV yX12_setBend cX12_setBend 2 none 1 := ⟨⟨(List.mem_of_getElem? (i := 495) rfl), (List.mem_of_getElem? (i := 5) (by decide +kernel)), by decide +kernel⟩, (List.mem_of_getElem? (i := 493) (by decide +kernel)), (List.mem_of_getElem? (i := 494) (by decide +kernel))⟩
set_option maxRecDepth 100000 in
theorem M12_setBend {l : Launch} {B : tB} {S : tSH} {I : tHI} {J : tHJ} {v1 : Int32} {n : Nat} {k : tHI → tHJ → Prop} (t0 : ty S 61 12) (h : F12_setBend n S I J v1 k) : Met l yX12_setBend (tWs yX12_setBend cX12_setBend 2 none) (tRm 4 0 0) (tPc B [vR 61, vI v1] S I J) (tQv B (tPv S k)) 0 0 (tA B) :=
  tEntry (by decide +kernel) [some (vR 61), some (vI v1)] rfl rfl (Nat.le_of_ble_eq_true rfl) (fun K hl hR hO hQ hG => by
  subst hl
  refine gBk (pe := 1) hO [o0 (.aload_n 0)] (by decide +kernel) (show tWG K B 0 0 S I J 1 [some (vR 61), some (vI v1)] [vR 61] from ?_)
  refine gCVv_c hO (M12_weighLoads t0 h) hc12_weighLoads (idx := 453) (w := 497) (by decide +kernel) hR (by omega) t0 ⟨by decide, rfl⟩ (vs := []) (st := []) ⟨rfl, Nat.le_of_ble_eq_true rfl, rfl⟩ (by decide +kernel) (fun I1 J2 h => ?_)
  refine gBk (pe := 12) hO [o0 (.aload_n 0), oF (.getfield 115) 12 35 221 79, oI (.iconst 1) 1, o0 (.aload_n 0), o0 (.iload_n 1), oI (.iconst 0) 0] (by decide +kernel) (And.intro t0 (And.intro rfl (show tWG K B 0 0 S I1 J2 12 [some (vR 61), some (vI v1)] [vI 0, vI v1, vR 61, vI 1, vR 79] from ?_)))
  refine gCVi_p hO (M12_ofBend t0 h.1) hc12_ofBend (idx := 240) (w := 356) (by decide +kernel) hR (by omega) t0 ⟨by decide, rfl⟩ (vs := [vI v1, vI 0]) (st := [vI 1, vR 79]) ⟨rfl, Nat.le_of_ble_eq_true rfl, rfl⟩ (by decide +kernel) ?_
  have h := h.2
  refine gBk (pe := 25) hO [o0 .i2l, o0 .lastore, o0 (.aload_n 0), oF (.getfield 115) 12 35 221 79, oI (.iconst 2) 2, o0 (.aload_n 0), o0 (.iload_n 1), oI (.iconst 1) 1] (by decide +kernel) (And.intro (tGr.off hG t0 (k := 35) rfl) (And.intro (tin (tGr.len hG t0 (k := 35) rfl (by decide)) (tvi (by decide +kernel))) (And.intro t0 (And.intro rfl (show tWG K B 0 0 S I1 (uJ J2 79 1 (V12_ofBend S I1 J2 v1 0).toInt64) 25 [some (vR 61), some (vI v1)] [vI 1, vI v1, vR 61, vI 2, vR 79] from ?_)))))
  refine gCVi_p hO (M12_ofBend t0 h.1) hc12_ofBend (idx := 240) (w := 356) (by decide +kernel) hR (by omega) t0 ⟨by decide, rfl⟩ (vs := [vI v1, vI 1]) (st := [vI 2, vR 79]) ⟨rfl, Nat.le_of_ble_eq_true rfl, rfl⟩ (by decide +kernel) ?_
  have h := h.2
  refine gBk (pe := 38) hO [o0 .i2l, o0 .lastore, o0 (.aload_n 0), oF (.getfield 115) 12 35 221 79, oI (.iconst 3) 3, o0 (.aload_n 0), o0 (.iload_n 1), oI (.iconst 2) 2] (by decide +kernel) (And.intro (tGr.off hG t0 (k := 35) rfl) (And.intro (tin (tGr.len hG t0 (k := 35) rfl (by decide)) (tvi (by decide +kernel))) (And.intro t0 (And.intro rfl (show tWG K B 0 0 S I1 (uJ (uJ J2 79 1 (V12_ofBend S I1 J2 v1 0).toInt64) 79 2 (V12_ofBend S I1 (uJ J2 79 1 (V12_ofBend S I1 J2 v1 0).toInt64) v1 1).toInt64) 38 [some (vR 61), some (vI v1)] [vI 2, vI v1, vR 61, vI 3, vR 79] from ?_)))))
  refine gCVi_p hO (M12_ofBend t0 h.1) hc12_ofBend (idx := 240) (w := 356) (by decide +kernel) hR (by omega) t0 ⟨by decide, rfl⟩ (vs := [vI v1, vI 2]) (st := [vI 3, vR 79]) ⟨rfl, Nat.le_of_ble_eq_true rfl, rfl⟩ (by decide +kernel) ?_
  have h := h.2
  refine gBk (pe := 83) hO [o0 .i2l, o0 .lastore, o0 (.aload_n 0), oF (.getfield 115) 12 35 221 79, oI (.iconst 4) 4, o0 (.aload_n 0), oF (.getfield 441) 12 42 488 0, o0 .i2l, o0 .lastore, o0 (.aload_n 0), oF (.getfield 115) 12 35 221 79, oI (.iconst 5) 5, o0 (.aload_n 0), oF (.getfield 444) 12 43 496 0, o0 .i2l, o0 .lastore, o0 (.aload_n 0), oF (.getfield 115) 12 35 221 79, oI (.bipush 6) 6, o0 (.aload_n 0), oF (.getfield 447) 12 44 489 0, o0 .i2l, o0 .lastore, o0 (.aload_n 0), oF (.getfield 115) 12 35 221 79, oI (.bipush 9) 9] (by decide +kernel) (And.intro (tGr.off hG t0 (k := 35) rfl) (And.intro (tin (tGr.len hG t0 (k := 35) rfl (by decide)) (tvi (by decide +kernel))) (And.intro t0 (And.intro rfl (And.intro t0 (And.intro (tGr.off hG t0 (k := 35) rfl) (And.intro (tin (tGr.len hG t0 (k := 35) rfl (by decide)) (tvi (by decide +kernel))) (And.intro t0 (And.intro rfl (And.intro t0 (And.intro (tGr.off hG t0 (k := 35) rfl) (And.intro (tin (tGr.len hG t0 (k := 35) rfl (by decide)) (tvi (by decide +kernel))) (And.intro t0 (And.intro rfl (And.intro t0 (And.intro (tGr.off hG t0 (k := 35) rfl) (And.intro (tin (tGr.len hG t0 (k := 35) rfl (by decide)) (tvi (by decide +kernel))) (And.intro t0 (And.intro rfl (show tWG K B 0 0 S I1 (uJ (uJ (uJ (uJ (uJ (uJ J2 79 1 (V12_ofBend S I1 J2 v1 0).toInt64) 79 2 (V12_ofBend S I1 (uJ J2 79 1 (V12_ofBend S I1 J2 v1 0).toInt64) v1 1).toInt64) 79 3 (V12_ofBend S I1 (uJ (uJ J2 79 1 (V12_ofBend S I1 J2 v1 0).toInt64) 79 2 (V12_ofBend S I1 (uJ J2 79 1 (V12_ofBend S I1 J2 v1 0).toInt64) v1 1).toInt64) v1 2).toInt64) 79 4 (I1 61 42).toInt64) 79 5 (I1 61 43).toInt64) 79 6 (I1 61 44).toInt64) 83 [some (vR 61), some (vI v1)] [vI 9, vR 79] from ?_))))))))))))))))))))
  refine gBk (pe := 93) hO [(.ldc2_w 288, (0, 0, 331, 0), 0, (-1)), o0 .lastore, o0 (.aload_n 0), oF (.getfield 115) 12 35 221 79, oI (.bipush 10) 10] (by decide +kernel) (And.intro (tGr.off hG t0 (k := 35) rfl) (And.intro (tin (tGr.len hG t0 (k := 35) rfl (by decide)) (tvi (by decide +kernel))) (And.intro t0 (And.intro rfl (show tWG K B 0 0 S I1 (uJ (uJ (uJ (uJ (uJ (uJ (uJ J2 79 1 (V12_ofBend S I1 J2 v1 0).toInt64) 79 2 (V12_ofBend S I1 (uJ J2 79 1 (V12_ofBend S I1 J2 v1 0).toInt64) v1 1).toInt64) 79 3 (V12_ofBend S I1 (uJ (uJ J2 79 1 (V12_ofBend S I1 J2 v1 0).toInt64) 79 2 (V12_ofBend S I1 (uJ J2 79 1 (V12_ofBend S I1 J2 v1 0).toInt64) v1 1).toInt64) v1 2).toInt64) 79 4 (I1 61 42).toInt64) 79 5 (I1 61 43).toInt64) 79 6 (I1 61 44).toInt64) 79 9 (-1)) 93 [some (vR 61), some (vI v1)] [vI 10, vR 79] from ?_)))))
  refine gBk (pe := 103) hO [(.ldc2_w 288, (0, 0, 331, 0), 0, (-1)), o0 .lastore, o0 (.aload_n 0), oF (.getfield 115) 12 35 221 79, oI (.bipush 11) 11] (by decide +kernel) (And.intro (tGr.off hG t0 (k := 35) rfl) (And.intro (tin (tGr.len hG t0 (k := 35) rfl (by decide)) (tvi (by decide +kernel))) (And.intro t0 (And.intro rfl (show tWG K B 0 0 S I1 (uJ (uJ (uJ (uJ (uJ (uJ (uJ (uJ J2 79 1 (V12_ofBend S I1 J2 v1 0).toInt64) 79 2 (V12_ofBend S I1 (uJ J2 79 1 (V12_ofBend S I1 J2 v1 0).toInt64) v1 1).toInt64) 79 3 (V12_ofBend S I1 (uJ (uJ J2 79 1 (V12_ofBend S I1 J2 v1 0).toInt64) 79 2 (V12_ofBend S I1 (uJ J2 79 1 (V12_ofBend S I1 J2 v1 0).toInt64) v1 1).toInt64) v1 2).toInt64) 79 4 (I1 61 42).toInt64) 79 5 (I1 61 43).toInt64) 79 6 (I1 61 44).toInt64) 79 9 (-1)) 79 10 (-1)) 103 [some (vR 61), some (vI v1)] [vI 11, vR 79] from ?_)))))
  refine gBk (pe := 107) hO [(.ldc2_w 288, (0, 0, 331, 0), 0, (-1)), o0 .lastore] (by decide +kernel) (And.intro (tGr.off hG t0 (k := 35) rfl) (And.intro (tin (tGr.len hG t0 (k := 35) rfl (by decide)) (tvi (by decide +kernel))) (show tWG K B 0 0 S I1 (uJ (uJ (uJ (uJ (uJ (uJ (uJ (uJ (uJ J2 79 1 (V12_ofBend S I1 J2 v1 0).toInt64) 79 2 (V12_ofBend S I1 (uJ J2 79 1 (V12_ofBend S I1 J2 v1 0).toInt64) v1 1).toInt64) 79 3 (V12_ofBend S I1 (uJ (uJ J2 79 1 (V12_ofBend S I1 J2 v1 0).toInt64) 79 2 (V12_ofBend S I1 (uJ J2 79 1 (V12_ofBend S I1 J2 v1 0).toInt64) v1 1).toInt64) v1 2).toInt64) 79 4 (I1 61 42).toInt64) 79 5 (I1 61 43).toInt64) 79 6 (I1 61 44).toInt64) 79 9 (-1)) 79 10 (-1)) 79 11 (-1)) 107 [some (vR 61), some (vI v1)] [] from ?_)))
  exact gVret hO hQ (by decide +kernel) ⟨rfl, h⟩)
set_option maxRecDepth 20000 in
theorem hc12_holdsOf : tCV yX12_holdsOf cX12_holdsOf 4 (some .int) 1 := ⟨⟨(List.mem_of_getElem? (i := 484) rfl), (List.mem_of_getElem? (i := 5) (by decide +kernel)), by decide +kernel⟩, (List.mem_of_getElem? (i := 482) (by decide +kernel)), (List.mem_of_getElem? (i := 483) (by decide +kernel))⟩
set_option maxRecDepth 100000 in
theorem M12_holdsOf {l : Launch} {B : tB} {S : tSH} {I : tHI} {J : tHJ} {v1 : Int32} {n : Nat} {k : Int32 → tHI → tHJ → Prop} (t0 : ty S 61 12) (h : F12_holdsOf n S I J v1 k) : Met l yX12_holdsOf (tWs yX12_holdsOf cX12_holdsOf 4 (some .int)) (tRm 7 0 0) (tPc B [vR 61, vI v1] S I J) (tQi B (tPi S k)) 0 0 (tA B) :=
  tEntry (by decide +kernel) [some (vR 61), some (vI v1), none, none] rfl rfl (Nat.le_of_ble_eq_true rfl) (fun K hl hR hO hQ hG => by
  subst hl
  refine gBk (pe := 2) hO [o0 (.aload_n 0), o0 (.iload_n 1)] (by decide +kernel) (show tWG K B 0 0 S I J 2 [some (vR 61), some (vI v1), none, none] [vI v1, vR 61] from ?_)
  refine gCVv_c hO (M12_setBend t0 h) hc12_setBend (idx := 456) (w := 492) (by decide +kernel) hR (by omega) t0 ⟨by decide, rfl⟩ (vs := [vI v1]) (st := []) ⟨rfl, Nat.le_of_ble_eq_true rfl, rfl⟩ (by decide +kernel) (fun I1 J2 h => ?_)
  refine gBk (pe := 7) hO [o0 (.aload_n 0), oI (.iconst 0) 0] (by decide +kernel) (show tWG K B 0 0 S I1 J2 7 [some (vR 61), some (vI v1), none, none] [vI 0, vR 61] from ?_)
  refine gBk (pe := 10) hO [(.ldc2_w 459, (0, 0, 485, 0), 0, 2000000000)] (by decide +kernel) (show tWG K B 0 0 S I1 J2 10 [some (vR 61), some (vI v1), none, none] [vL 2000000000, vI 0, vR 61] from ?_)
  refine gCVl_c hO (M12_tells t0 h) hc12_tells (idx := 461) (w := 332) (by decide +kernel) hR (by omega) t0 ⟨by decide, rfl⟩ (vs := [vI 0, vL 2000000000]) (st := []) ⟨rfl, Nat.le_of_ble_eq_true rfl, rfl⟩ (by decide +kernel) (fun x5 I3 J4 h => ?_)
  refine gBk (pe := 15) hO [o0 (.lstore_n 2), o0 (.lload_n 2)] (by decide +kernel) (And.intro (Nat.le_of_ble_eq_true rfl) (show tWG K B 0 0 S I3 J4 15 [some (vR 61), some (vI v1), some (vL x5), none] [vL x5] from ?_))
  refine gBk (pe := 19) hO [(.ldc2_w 459, (0, 0, 485, 0), 0, 2000000000), o0 .lcmp] (by decide +kernel) (show tWG K B 0 0 S I3 J4 19 [some (vR 61), some (vI v1), some (vL x5), none] [vI (lg_cmp x5 2000000000)] from ?_)
  have hj6 : ∀ (m7 : Int32), m7 = (if (lg_cmp x5 2000000000) = 0 then (V12_within ((600 + (20 * (I3 61 42).toInt64)) + (I3 61 44).toInt64) 0 100000000) else (V12_within x5 0 99999)) → tWG K B 0 0 S I3 J4 59 [none, none, none, none] [vI m7] := by
    intro m7 em7
    subst em7
    exact gIret hO hQ (by decide +kernel) ⟨rfl, h⟩
  refine gIfNe hO (off := 32) (tgt := 51) (by decide +kernel) (by decide) (fun c8 => ?_) (fun c8 => ?_)
  · refine gBk (pe := 53) hO [o0 (.lload_n 2), oI (.iconst 0) 0] (by decide +kernel) (show tWG K B 0 0 S I3 J4 53 [some (vR 61), some (vI v1), some (vL x5), none] [vI 0, vL x5] from ?_)
    refine gBk (pe := 56) hO [(.ldc_w 472, (0, 0, 491, 0), 99999, 0)] (by decide +kernel) (show tWG K B 0 0 S I3 J4 56 [some (vR 61), some (vI v1), some (vL x5), none] [vI 99999, vI 0, vL x5] from ?_)
    refine gCSi_p hO (M12_within) hc12_within (idx := 468) (w := 504) (by decide +kernel) hR (by omega) (vs := [vL x5, vI 0, vI 99999]) (st := []) ⟨rfl, Nat.le_of_ble_eq_true rfl, rfl⟩ (by decide +kernel) ?_
    exact gWeak (L' := [none, none, none, none]) trivial (hj6 _ (Eq.symm (if_neg c8)))
  · refine gBk (pe := 25) hO [(.ldc2_w 465, (0, 0, 486, 0), 0, 600)] (by decide +kernel) (show tWG K B 0 0 S I3 J4 25 [some (vR 61), some (vI v1), some (vL x5), none] [vL 600] from ?_)
    refine gBk (pe := 42) hO [(.ldc2_w 313, (0, 0, 487, 0), 0, 20), o0 (.aload_n 0), oF (.getfield 441) 12 42 488 0, o0 .i2l, o0 .lmul, o0 .ladd, o0 (.aload_n 0), oF (.getfield 447) 12 44 489 0, o0 .i2l, o0 .ladd, oI (.iconst 0) 0] (by decide +kernel) (And.intro t0 (And.intro t0 (show tWG K B 0 0 S I3 J4 42 [some (vR 61), some (vI v1), some (vL x5), none] [vI 0, vL ((600 + (20 * (I3 61 42).toInt64)) + (I3 61 44).toInt64)] from ?_)))
    refine gBk (pe := 45) hO [(.ldc_w 467, (0, 0, 490, 0), 100000000, 0)] (by decide +kernel) (show tWG K B 0 0 S I3 J4 45 [some (vR 61), some (vI v1), some (vL x5), none] [vI 100000000, vI 0, vL ((600 + (20 * (I3 61 42).toInt64)) + (I3 61 44).toInt64)] from ?_)
    refine gCSi_p hO (M12_within) hc12_within (idx := 468) (w := 504) (by decide +kernel) hR (by omega) (vs := [vL ((600 + (20 * (I3 61 42).toInt64)) + (I3 61 44).toInt64), vI 0, vI 100000000]) (st := []) ⟨rfl, Nat.le_of_ble_eq_true rfl, rfl⟩ (by decide +kernel) ?_
    refine gBk (pe := 59) hO [o0 (.goto 11)] (by decide +kernel) (show tWG K B 0 0 S I3 J4 59 [some (vR 61), some (vI v1), some (vL x5), none] [vI (V12_within ((600 + (20 * (I3 61 42).toInt64)) + (I3 61 44).toInt64) 0 100000000)] from ?_)
    exact gWeak (L' := [none, none, none, none]) trivial (hj6 _ (Eq.symm (if_pos c8))))
set_option maxRecDepth 20000 in
theorem hc12_gripsOf : tCV yX12_gripsOf cX12_gripsOf 4 (some .int) 1 := ⟨⟨(List.mem_of_getElem? (i := 510) rfl), (List.mem_of_getElem? (i := 5) (by decide +kernel)), by decide +kernel⟩, (List.mem_of_getElem? (i := 508) (by decide +kernel)), (List.mem_of_getElem? (i := 509) (by decide +kernel))⟩
set_option maxRecDepth 100000 in
theorem M12_gripsOf {l : Launch} {B : tB} {S : tSH} {I : tHI} {J : tHJ} {v1 : Int32} {n : Nat} {k : Int32 → tHI → tHJ → Prop} (t0 : ty S 61 12) (h : F12_gripsOf n S I J v1 k) : Met l yX12_gripsOf (tWs yX12_gripsOf cX12_gripsOf 4 (some .int)) (tRm 7 0 0) (tPc B [vR 61, vI v1] S I J) (tQi B (tPi S k)) 0 0 (tA B) :=
  tEntry (by decide +kernel) [some (vR 61), some (vI v1), none, none] rfl rfl (Nat.le_of_ble_eq_true rfl) (fun K hl hR hO hQ hG => by
  subst hl
  refine gBk (pe := 2) hO [o0 (.aload_n 0), o0 (.iload_n 1)] (by decide +kernel) (show tWG K B 0 0 S I J 2 [some (vR 61), some (vI v1), none, none] [vI v1, vR 61] from ?_)
  refine gCVv_c hO (M12_setBend t0 h) hc12_setBend (idx := 456) (w := 492) (by decide +kernel) hR (by omega) t0 ⟨by decide, rfl⟩ (vs := [vI v1]) (st := []) ⟨rfl, Nat.le_of_ble_eq_true rfl, rfl⟩ (by decide +kernel) (fun I1 J2 h => ?_)
  refine gBk (pe := 7) hO [o0 (.aload_n 0), oI (.iconst 1) 1] (by decide +kernel) (show tWG K B 0 0 S I1 J2 7 [some (vR 61), some (vI v1), none, none] [vI 1, vR 61] from ?_)
  refine gBk (pe := 10) hO [(.ldc2_w 459, (0, 0, 485, 0), 0, 2000000000)] (by decide +kernel) (show tWG K B 0 0 S I1 J2 10 [some (vR 61), some (vI v1), none, none] [vL 2000000000, vI 1, vR 61] from ?_)
  refine gCVl_c hO (M12_tells t0 h) hc12_tells (idx := 461) (w := 332) (by decide +kernel) hR (by omega) t0 ⟨by decide, rfl⟩ (vs := [vI 1, vL 2000000000]) (st := []) ⟨rfl, Nat.le_of_ble_eq_true rfl, rfl⟩ (by decide +kernel) (fun x5 I3 J4 h => ?_)
  refine gBk (pe := 15) hO [o0 (.lstore_n 2), o0 (.lload_n 2)] (by decide +kernel) (And.intro (Nat.le_of_ble_eq_true rfl) (show tWG K B 0 0 S I3 J4 15 [some (vR 61), some (vI v1), some (vL x5), none] [vL x5] from ?_))
  refine gBk (pe := 19) hO [(.ldc2_w 459, (0, 0, 485, 0), 0, 2000000000), o0 .lcmp] (by decide +kernel) (show tWG K B 0 0 S I3 J4 19 [some (vR 61), some (vI v1), some (vL x5), none] [vI (lg_cmp x5 2000000000)] from ?_)
  have hj6 : ∀ (m7 : Int32), m7 = (if (lg_cmp x5 2000000000) = 0 then (V12_within ((2000 + (10 * (I3 61 43).toInt64)) - (I3 61 44).toInt64) 0 100000000) else (V12_within x5 0 99999)) → tWG K B 0 0 S I3 J4 59 [none, none, none, none] [vI m7] := by
    intro m7 em7
    subst em7
    exact gIret hO hQ (by decide +kernel) ⟨rfl, h⟩
  refine gIfNe hO (off := 32) (tgt := 51) (by decide +kernel) (by decide) (fun c8 => ?_) (fun c8 => ?_)
  · refine gBk (pe := 53) hO [o0 (.lload_n 2), oI (.iconst 0) 0] (by decide +kernel) (show tWG K B 0 0 S I3 J4 53 [some (vR 61), some (vI v1), some (vL x5), none] [vI 0, vL x5] from ?_)
    refine gBk (pe := 56) hO [(.ldc_w 472, (0, 0, 491, 0), 99999, 0)] (by decide +kernel) (show tWG K B 0 0 S I3 J4 56 [some (vR 61), some (vI v1), some (vL x5), none] [vI 99999, vI 0, vL x5] from ?_)
    refine gCSi_p hO (M12_within) hc12_within (idx := 468) (w := 504) (by decide +kernel) hR (by omega) (vs := [vL x5, vI 0, vI 99999]) (st := []) ⟨rfl, Nat.le_of_ble_eq_true rfl, rfl⟩ (by decide +kernel) ?_
    exact gWeak (L' := [none, none, none, none]) trivial (hj6 _ (Eq.symm (if_neg c8)))
  · refine gBk (pe := 25) hO [(.ldc2_w 473, (0, 0, 511, 0), 0, 2000)] (by decide +kernel) (show tWG K B 0 0 S I3 J4 25 [some (vR 61), some (vI v1), some (vL x5), none] [vL 2000] from ?_)
    refine gBk (pe := 42) hO [(.ldc2_w 292, (0, 0, 512, 0), 0, 10), o0 (.aload_n 0), oF (.getfield 444) 12 43 496 0, o0 .i2l, o0 .lmul, o0 .ladd, o0 (.aload_n 0), oF (.getfield 447) 12 44 489 0, o0 .i2l, o0 .lsub, oI (.iconst 0) 0] (by decide +kernel) (And.intro t0 (And.intro t0 (show tWG K B 0 0 S I3 J4 42 [some (vR 61), some (vI v1), some (vL x5), none] [vI 0, vL ((2000 + (10 * (I3 61 43).toInt64)) - (I3 61 44).toInt64)] from ?_)))
    refine gBk (pe := 45) hO [(.ldc_w 467, (0, 0, 490, 0), 100000000, 0)] (by decide +kernel) (show tWG K B 0 0 S I3 J4 45 [some (vR 61), some (vI v1), some (vL x5), none] [vI 100000000, vI 0, vL ((2000 + (10 * (I3 61 43).toInt64)) - (I3 61 44).toInt64)] from ?_)
    refine gCSi_p hO (M12_within) hc12_within (idx := 468) (w := 504) (by decide +kernel) hR (by omega) (vs := [vL ((2000 + (10 * (I3 61 43).toInt64)) - (I3 61 44).toInt64), vI 0, vI 100000000]) (st := []) ⟨rfl, Nat.le_of_ble_eq_true rfl, rfl⟩ (by decide +kernel) ?_
    refine gBk (pe := 59) hO [o0 (.goto 11)] (by decide +kernel) (show tWG K B 0 0 S I3 J4 59 [some (vR 61), some (vI v1), some (vL x5), none] [vI (V12_within ((2000 + (10 * (I3 61 43).toInt64)) - (I3 61 44).toInt64) 0 100000000)] from ?_)
    exact gWeak (L' := [none, none, none, none]) trivial (hj6 _ (Eq.symm (if_pos c8))))
set_option maxRecDepth 20000 in
theorem hc12_fearsOf : tCV yX12_fearsOf cX12_fearsOf 2 (some .int) 1 := ⟨⟨(List.mem_of_getElem? (i := 516) rfl), (List.mem_of_getElem? (i := 5) (by decide +kernel)), by decide +kernel⟩, (List.mem_of_getElem? (i := 514) (by decide +kernel)), (List.mem_of_getElem? (i := 515) (by decide +kernel))⟩
set_option maxRecDepth 100000 in
theorem M12_fearsOf {l : Launch} {B : tB} {S : tSH} {I : tHI} {J : tHJ} {v1 : Int32} {n : Nat} {k : Int32 → tHI → tHJ → Prop} (t0 : ty S 61 12) (h : F12_fearsOf n S I J v1 k) : Met l yX12_fearsOf (tWs yX12_fearsOf cX12_fearsOf 2 (some .int)) (tRm 7 0 0) (tPc B [vR 61, vI v1] S I J) (tQi B (tPi S k)) 0 0 (tA B) :=
  tEntry (by decide +kernel) [some (vR 61), some (vI v1)] rfl rfl (Nat.le_of_ble_eq_true rfl) (fun K hl hR hO hQ hG => by
  subst hl
  refine gBk (pe := 2) hO [o0 (.aload_n 0), o0 (.iload_n 1)] (by decide +kernel) (show tWG K B 0 0 S I J 2 [some (vR 61), some (vI v1)] [vI v1, vR 61] from ?_)
  refine gCVv_c hO (M12_setBend t0 h) hc12_setBend (idx := 456) (w := 492) (by decide +kernel) hR (by omega) t0 ⟨by decide, rfl⟩ (vs := [vI v1]) (st := []) ⟨rfl, Nat.le_of_ble_eq_true rfl, rfl⟩ (by decide +kernel) (fun I1 J2 h => ?_)
  refine gBk (pe := 7) hO [o0 (.aload_n 0), oI (.iconst 2) 2] (by decide +kernel) (show tWG K B 0 0 S I1 J2 7 [some (vR 61), some (vI v1)] [vI 2, vR 61] from ?_)
  refine gBk (pe := 10) hO [(.ldc2_w 247, (0, 0, 517, 0), 0, 60)] (by decide +kernel) (show tWG K B 0 0 S I1 J2 10 [some (vR 61), some (vI v1)] [vL 60, vI 2, vR 61] from ?_)
  refine gCVl_c hO (M12_tells t0 h) hc12_tells (idx := 461) (w := 332) (by decide +kernel) hR (by omega) t0 ⟨by decide, rfl⟩ (vs := [vI 2, vL 60]) (st := []) ⟨rfl, Nat.le_of_ble_eq_true rfl, rfl⟩ (by decide +kernel) (fun x5 I3 J4 h => ?_)
  refine gBk (pe := 16) hO [oI (.iconst 0) 0, oI (.bipush 60) 60] (by decide +kernel) (show tWG K B 0 0 S I3 J4 16 [some (vR 61), some (vI v1)] [vI 60, vI 0, vL x5] from ?_)
  refine gCSi_p hO (M12_within) hc12_within (idx := 468) (w := 504) (by decide +kernel) hR (by omega) (vs := [vL x5, vI 0, vI 60]) (st := []) ⟨rfl, Nat.le_of_ble_eq_true rfl, rfl⟩ (by decide +kernel) ?_
  exact gIret hO hQ (by decide +kernel) ⟨rfl, h⟩)
set_option maxRecDepth 20000 in
theorem hc12_pullsOf : tCV yX12_pullsOf cX12_pullsOf 4 (some .int) 1 := ⟨⟨(List.mem_of_getElem? (i := 521) rfl), (List.mem_of_getElem? (i := 5) (by decide +kernel)), by decide +kernel⟩, (List.mem_of_getElem? (i := 519) (by decide +kernel)), (List.mem_of_getElem? (i := 520) (by decide +kernel))⟩
set_option maxRecDepth 100000 in
theorem M12_pullsOf {l : Launch} {B : tB} {S : tSH} {I : tHI} {J : tHJ} {v1 : Int32} {n : Nat} {k : Int32 → tHI → tHJ → Prop} (t0 : ty S 61 12) (h : F12_pullsOf n S I J v1 k) : Met l yX12_pullsOf (tWs yX12_pullsOf cX12_pullsOf 4 (some .int)) (tRm 7 0 0) (tPc B [vR 61, vI v1] S I J) (tQi B (tPi S k)) 0 0 (tA B) :=
  tEntry (by decide +kernel) [some (vR 61), some (vI v1), none, none] rfl rfl (Nat.le_of_ble_eq_true rfl) (fun K hl hR hO hQ hG => by
  subst hl
  refine gBk (pe := 2) hO [o0 (.aload_n 0), o0 (.iload_n 1)] (by decide +kernel) (show tWG K B 0 0 S I J 2 [some (vR 61), some (vI v1), none, none] [vI v1, vR 61] from ?_)
  refine gCVv_c hO (M12_setBend t0 h) hc12_setBend (idx := 456) (w := 492) (by decide +kernel) hR (by omega) t0 ⟨by decide, rfl⟩ (vs := [vI v1]) (st := []) ⟨rfl, Nat.le_of_ble_eq_true rfl, rfl⟩ (by decide +kernel) (fun I1 J2 h => ?_)
  refine gBk (pe := 7) hO [o0 (.aload_n 0), oI (.iconst 3) 3] (by decide +kernel) (show tWG K B 0 0 S I1 J2 7 [some (vR 61), some (vI v1), none, none] [vI 3, vR 61] from ?_)
  refine gBk (pe := 10) hO [(.ldc2_w 459, (0, 0, 485, 0), 0, 2000000000)] (by decide +kernel) (show tWG K B 0 0 S I1 J2 10 [some (vR 61), some (vI v1), none, none] [vL 2000000000, vI 3, vR 61] from ?_)
  refine gCVl_c hO (M12_tells t0 h) hc12_tells (idx := 461) (w := 332) (by decide +kernel) hR (by omega) t0 ⟨by decide, rfl⟩ (vs := [vI 3, vL 2000000000]) (st := []) ⟨rfl, Nat.le_of_ble_eq_true rfl, rfl⟩ (by decide +kernel) (fun x5 I3 J4 h => ?_)
  refine gBk (pe := 15) hO [o0 (.lstore_n 2), o0 (.lload_n 2)] (by decide +kernel) (And.intro (Nat.le_of_ble_eq_true rfl) (show tWG K B 0 0 S I3 J4 15 [some (vR 61), some (vI v1), some (vL x5), none] [vL x5] from ?_))
  refine gBk (pe := 19) hO [(.ldc2_w 459, (0, 0, 485, 0), 0, 2000000000), o0 .lcmp] (by decide +kernel) (show tWG K B 0 0 S I3 J4 19 [some (vR 61), some (vI v1), some (vL x5), none] [vI (lg_cmp x5 2000000000)] from ?_)
  have hj6 : ∀ (m7 : Int32), m7 = (if (lg_cmp x5 2000000000) = 0 then (((5 * (V12_ofBend S I3 J4 v1 2)) + ((I3 61 42) / 20)) - (I3 63 8)) else (V12_within x5 (-99) 99)) → tWG K B 0 0 S I3 J4 57 [none, none, none, none] [vI m7] := by
    intro m7 em7
    subst em7
    have h := h.2
    exact gIret hO hQ (by decide +kernel) ⟨rfl, h⟩
  have h := h.1
  refine gIfNe hO (off := 30) (tgt := 49) (by decide +kernel) (by decide) (fun c8 => ?_) (fun c8 => ?_)
  · have h := h.1 c8
    refine gBk (pe := 54) hO [o0 (.lload_n 2), oI (.bipush (-99)) (-99), oI (.bipush 99) 99] (by decide +kernel) (show tWG K B 0 0 S I3 J4 54 [some (vR 61), some (vI v1), some (vL x5), none] [vI 99, vI (-99), vL x5] from ?_)
    refine gCSi_p hO (M12_within) hc12_within (idx := 468) (w := 504) (by decide +kernel) hR (by omega) (vs := [vL x5, vI (-99), vI 99]) (st := []) ⟨rfl, Nat.le_of_ble_eq_true rfl, rfl⟩ (by decide +kernel) ?_
    exact gWeak (L' := [none, none, none, none]) trivial (hj6 _ (Eq.symm (if_neg c8)))
  · have h := h.2 c8
    refine gBk (pe := 26) hO [oI (.iconst 5) 5, o0 (.aload_n 0), o0 (.iload_n 1), oI (.iconst 2) 2] (by decide +kernel) (show tWG K B 0 0 S I3 J4 26 [some (vR 61), some (vI v1), some (vL x5), none] [vI 2, vI v1, vR 61, vI 5] from ?_)
    refine gCVi_p hO (M12_ofBend t0 h.1) hc12_ofBend (idx := 240) (w := 356) (by decide +kernel) hR (by omega) t0 ⟨by decide, rfl⟩ (vs := [vI v1, vI 2]) (st := [vI 5]) ⟨rfl, Nat.le_of_ble_eq_true rfl, rfl⟩ (by decide +kernel) ?_
    have h := h.2
    refine gBk (pe := 57) hO [o0 .imul, o0 (.aload_n 0), oF (.getfield 441) 12 42 488 0, oI (.bipush 20) 20, o0 .idiv, o0 .iadd, o0 (.aload_n 0), oF (.getfield 13) 12 3 179 63, oI (.bipush 8) 8, o0 .iaload, o0 .isub, o0 (.goto 11)] (by decide +kernel) (And.intro t0 (And.intro (by decide) (And.intro t0 (And.intro rfl (And.intro (tGr.off hG t0 (k := 3) rfl) (And.intro (tin (tGr.len hG t0 (k := 3) rfl (by decide)) (tvi (by decide +kernel))) (show tWG K B 0 0 S I3 J4 57 [some (vR 61), some (vI v1), some (vL x5), none] [vI (((5 * (V12_ofBend S I3 J4 v1 2)) + ((I3 61 42) / 20)) - (I3 63 8))] from ?_)))))))
    exact gWeak (L' := [none, none, none, none]) trivial (hj6 _ (Eq.symm (if_pos c8))))
set_option maxRecDepth 20000 in
theorem hc12_learnsOf : tCV yX12_learnsOf cX12_learnsOf 2 (some .int) 1 := ⟨⟨(List.mem_of_getElem? (i := 525) rfl), (List.mem_of_getElem? (i := 5) (by decide +kernel)), by decide +kernel⟩, (List.mem_of_getElem? (i := 523) (by decide +kernel)), (List.mem_of_getElem? (i := 524) (by decide +kernel))⟩
set_option maxRecDepth 100000 in
theorem M12_learnsOf {l : Launch} {B : tB} {S : tSH} {I : tHI} {J : tHJ} {v1 : Int32} {n : Nat} {k : Int32 → tHI → tHJ → Prop} (t0 : ty S 61 12) (h : F12_learnsOf n S I J v1 k) : Met l yX12_learnsOf (tWs yX12_learnsOf cX12_learnsOf 2 (some .int)) (tRm 7 0 0) (tPc B [vR 61, vI v1] S I J) (tQi B (tPi S k)) 0 0 (tA B) :=
  tEntry (by decide +kernel) [some (vR 61), some (vI v1)] rfl rfl (Nat.le_of_ble_eq_true rfl) (fun K hl hR hO hQ hG => by
  subst hl
  refine gBk (pe := 2) hO [o0 (.aload_n 0), o0 (.iload_n 1)] (by decide +kernel) (show tWG K B 0 0 S I J 2 [some (vR 61), some (vI v1)] [vI v1, vR 61] from ?_)
  refine gCVv_c hO (M12_setBend t0 h) hc12_setBend (idx := 456) (w := 492) (by decide +kernel) hR (by omega) t0 ⟨by decide, rfl⟩ (vs := [vI v1]) (st := []) ⟨rfl, Nat.le_of_ble_eq_true rfl, rfl⟩ (by decide +kernel) (fun I1 J2 h => ?_)
  refine gBk (pe := 10) hO [o0 (.aload_n 0), oI (.iconst 4) 4, o0 (.aload_n 0), o0 (.iload_n 1), oI (.iconst 1) 1] (by decide +kernel) (show tWG K B 0 0 S I1 J2 10 [some (vR 61), some (vI v1)] [vI 1, vI v1, vR 61, vI 4, vR 61] from ?_)
  refine gCVi_p hO (M12_ofBend t0 h.1) hc12_ofBend (idx := 240) (w := 356) (by decide +kernel) hR (by omega) t0 ⟨by decide, rfl⟩ (vs := [vI v1, vI 1]) (st := [vI 4, vR 61]) ⟨rfl, Nat.le_of_ble_eq_true rfl, rfl⟩ (by decide +kernel) ?_
  have h := h.2
  refine gBk (pe := 17) hO [oI (.bipush 10) 10, o0 .idiv, o0 .i2l] (by decide +kernel) (And.intro (by decide) (show tWG K B 0 0 S I1 J2 17 [some (vR 61), some (vI v1)] [vL (((V12_ofBend S I1 J2 v1 1) / 10).toInt64), vI 4, vR 61] from ?_))
  refine gCVl_c hO (M12_tells t0 h) hc12_tells (idx := 461) (w := 332) (by decide +kernel) hR (by omega) t0 ⟨by decide, rfl⟩ (vs := [vI 4, vL (((V12_ofBend S I1 J2 v1 1) / 10).toInt64)]) (st := []) ⟨rfl, Nat.le_of_ble_eq_true rfl, rfl⟩ (by decide +kernel) (fun x5 I3 J4 h => ?_)
  refine gBk (pe := 23) hO [oI (.iconst 0) 0, oI (.bipush 100) 100] (by decide +kernel) (show tWG K B 0 0 S I3 J4 23 [some (vR 61), some (vI v1)] [vI 100, vI 0, vL x5] from ?_)
  refine gCSi_p hO (M12_within) hc12_within (idx := 468) (w := 504) (by decide +kernel) hR (by omega) (vs := [vL x5, vI 0, vI 100]) (st := []) ⟨rfl, Nat.le_of_ble_eq_true rfl, rfl⟩ (by decide +kernel) ?_
  exact gIret hO hQ (by decide +kernel) ⟨rfl, h⟩)
set_option maxRecDepth 100000 in
theorem W12_isBannedBy_3 {K : tK} {B : tB} {S : tSH} {MC MS : Nat} (hO : tKO K B RX12 cX12_isBannedBy 5) (hR : kR K = tRm 7 MC MS) (hG : tGr S) {n : Nat} (t0 : ty S 61 12) {k : Int32 → tHI → tHJ → Prop} (hQ : tRet K B (tQi B (tPb S k)) 0 0 (some .boolean)) {kb3 : tHI → tHJ → Int32 → Int32 → Int32 → Int32 → Prop} (hkb3 : ∀ (I : tHI) (J : tHJ) (v1 : Int32) (v2 : Int32) (v3 : Int32) (v4 : Int32), kb3 I J v1 v2 v3 v4 → tWG K B 0 0 S I J 3 [some (vR 61), some (vI v1), some (vI v2), some (vI v3), some (vI v4)] []) {I : tHI} {J : tHJ} {v1 : Int32} {v2 : Int32} {v3 : Int32} {v4 : Int32} (h : F12_isBannedBy_3 n S k kb3 I J v1 v2 v3 v4) : tWG K B 0 0 S I J 3 [some (vR 61), some (vI v1), some (vI v2), some (vI v3), some (vI v4)] [] := by
  refine gBk (pe := 7) hO [o0 (.iload 4), oI (.bipush 7) 7] (by decide +kernel) (show tWG K B 0 0 S I J 7 [some (vR 61), some (vI v1), some (vI v2), some (vI v3), some (vI v4)] [vI 7, vI v4] from ?_)
  refine gIcGe hO (off := 19) (tgt := 26) (by decide +kernel) (by decide) (fun c1 => ?_) (fun c1 => ?_)
  · have h := h.1 c1
    refine gBk (pe := 56) hO [o0 (.aload_n 0), oF (.getfield 115) 12 35 221 79, oI (.bipush 9) 9, o0 (.iload_n 1), o0 .i2l, o0 .lastore, o0 (.aload_n 0), oF (.getfield 115) 12 35 221 79, oI (.bipush 10) 10, o0 (.iload_n 3), o0 .i2l, o0 .lastore, o0 (.aload_n 0), oF (.getfield 115) 12 35 221 79, oI (.bipush 11) 11, o0 (.iload_n 2), o0 .i2l, o0 .lastore, o0 (.aload_n 0), oI (.iconst 5) 5, oJ (.lconst 0) 0 0] (by decide +kernel) (And.intro t0 (And.intro rfl (And.intro (tGr.off hG t0 (k := 35) rfl) (And.intro (tin (tGr.len hG t0 (k := 35) rfl (by decide)) (tvi (by decide +kernel))) (And.intro t0 (And.intro rfl (And.intro (tGr.off hG t0 (k := 35) rfl) (And.intro (tin (tGr.len hG t0 (k := 35) rfl (by decide)) (tvi (by decide +kernel))) (And.intro t0 (And.intro rfl (And.intro (tGr.off hG t0 (k := 35) rfl) (And.intro (tin (tGr.len hG t0 (k := 35) rfl (by decide)) (tvi (by decide +kernel))) (show tWG K B 0 0 S I (uJ (uJ (uJ J 79 9 v1.toInt64) 79 10 v3.toInt64) 79 11 v2.toInt64) 56 [some (vR 61), some (vI v1), some (vI v2), some (vI v3), some (vI v4)] [vL 0, vI 5, vR 61] from ?_)))))))))))))
    refine gCVl_c hO (M12_tells t0 h) hc12_tells (idx := 461) (w := 332) (by decide +kernel) hR (by omega) t0 ⟨by decide, rfl⟩ (vs := [vI 5, vL 0]) (st := []) ⟨rfl, Nat.le_of_ble_eq_true rfl, rfl⟩ (by decide +kernel) (fun x4 I2 J3 h => ?_)
    refine gBk (pe := 61) hO [oJ (.lconst 1) 0 1, o0 .lcmp] (by decide +kernel) (show tWG K B 0 0 S I2 J3 61 [some (vR 61), some (vI v1), some (vI v2), some (vI v3), some (vI v4)] [vI (lg_cmp x4 1)] from ?_)
    have hj5 : ∀ (m6 : Int32), m6 = (if (lg_cmp x4 1) = 0 then (1 : Int32) else 0) → tWG K B 0 0 S I2 J3 69 [none, none, none, none, none] [vI m6] := by
      intro m6 em6
      subst em6
      exact gZret hO hQ (by decide +kernel) (bz_if (Or.inr rfl) (Or.inl rfl)) ⟨rfl, (bz_if (Or.inr rfl) (Or.inl rfl)), h⟩
    refine gIfNe hO (off := 7) (tgt := 68) (by decide +kernel) (by decide) (fun c7 => ?_) (fun c7 => ?_)
    · refine gBk (pe := 69) hO [oI (.iconst 0) 0] (by decide +kernel) (show tWG K B 0 0 S I2 J3 69 [some (vR 61), some (vI v1), some (vI v2), some (vI v3), some (vI v4)] [vI 0] from ?_)
      exact gWeak (L' := [none, none, none, none, none]) trivial (hj5 _ (Eq.symm (if_neg c7)))
    · refine gBk (pe := 69) hO [oI (.iconst 1) 1, o0 (.goto 4)] (by decide +kernel) (show tWG K B 0 0 S I2 J3 69 [some (vR 61), some (vI v1), some (vI v2), some (vI v3), some (vI v4)] [vI 1] from ?_)
      exact gWeak (L' := [none, none, none, none, none]) trivial (hj5 _ (Eq.symm (if_pos c7)))
  · have h := h.2 c1
    refine gBk (pe := 16) hO [o0 (.aload_n 0), oF (.getfield 115) 12 35 221 79, o0 (.iload 4)] (by decide +kernel) (And.intro t0 (And.intro rfl (show tWG K B 0 0 S I J 16 [some (vR 61), some (vI v1), some (vI v2), some (vI v3), some (vI v4)] [vI v4, vR 79] from ?_)))
    refine gBk (pe := 3) hO [(.ldc2_w 288, (0, 0, 331, 0), 0, (-1)), o0 .lastore, oI (.iinc 4 1) 1, o0 (.goto (-20))] (by decide +kernel) (And.intro (tGr.off hG t0 (k := 35) rfl) (And.intro (tin (tGr.len hG t0 (k := 35) rfl (by decide)) h.1) (show tWG K B 0 0 S I (uJ J 79 v4.toNatClampNeg (-1)) 3 [some (vR 61), some (vI v1), some (vI v2), some (vI v3), some (vI (v4 + 1))] [] from ?_)))
    have h := h.2
    exact hkb3 _ _ _ _ _ _ h
theorem W12_isBannedBy_L3 {K : tK} {B : tB} {S : tSH} {MC MS : Nat} (hO : tKO K B RX12 cX12_isBannedBy 5) (hR : kR K = tRm 7 MC MS) (hG : tGr S) {n : Nat} (t0 : ty S 61 12) {k : Int32 → tHI → tHJ → Prop} (hQ : tRet K B (tQi B (tPb S k)) 0 0 (some .boolean)) : ∀ (f : Nat) (I : tHI) (J : tHJ) (v1 : Int32) (v2 : Int32) (v3 : Int32) (v4 : Int32), F12_isBannedBy_L3 n S k f I J v1 v2 v3 v4 → tWG K B 0 0 S I J 3 [some (vR 61), some (vI v1), some (vI v2), some (vI v3), some (vI v4)] [] := by
  intro f
  induction f with
  | zero => intro I J v1 v2 v3 v4 h; exact h.elim
  | succ f ih => intro I J v1 v2 v3 v4 h; exact W12_isBannedBy_3 hO hR hG t0 hQ ih h
set_option maxRecDepth 20000 in
theorem hc12_isBannedBy : tCV yX12_isBannedBy cX12_isBannedBy 5 (some .boolean) 3 := ⟨⟨(List.mem_of_getElem? (i := 330) rfl), (List.mem_of_getElem? (i := 5) (by decide +kernel)), by decide +kernel⟩, (List.mem_of_getElem? (i := 328) (by decide +kernel)), (List.mem_of_getElem? (i := 329) (by decide +kernel))⟩
set_option maxRecDepth 100000 in
theorem M12_isBannedBy {l : Launch} {B : tB} {S : tSH} {I : tHI} {J : tHJ} {v1 : Int32} {v2 : Int32} {v3 : Int32} {n : Nat} {k : Int32 → tHI → tHJ → Prop} (t0 : ty S 61 12) (h : F12_isBannedBy n S I J v1 v2 v3 k) : Met l yX12_isBannedBy (tWs yX12_isBannedBy cX12_isBannedBy 5 (some .boolean)) (tRm 7 0 0) (tPc B [vR 61, vI v1, vI v2, vI v3] S I J) (tQi B (tPb S k)) 0 0 (tA B) :=
  tEntry (by decide +kernel) [some (vR 61), some (vI v1), some (vI v2), some (vI v3), none] rfl rfl (Nat.le_of_ble_eq_true rfl) (fun K hl hR hO hQ hG => by
  subst hl
  refine gBk (pe := 3) hO [oI (.iconst 1) 1, o0 (.istore 4)] (by decide +kernel) (And.intro (Nat.le_of_ble_eq_true rfl) (show tWG K B 0 0 S I J 3 [some (vR 61), some (vI v1), some (vI v2), some (vI v3), some (vI 1)] [] from ?_))
  exact W12_isBannedBy_L3 hO hR hG t0 hQ n _ _ _ _ _ _ h)
set_option maxRecDepth 20000 in
theorem hc12_isBanned : tCV yX12_isBanned cX12_isBanned 3 (some .boolean) 2 := ⟨⟨(List.mem_of_getElem? (i := 393) rfl), (List.mem_of_getElem? (i := 5) (by decide +kernel)), by decide +kernel⟩, (List.mem_of_getElem? (i := 391) (by decide +kernel)), (List.mem_of_getElem? (i := 392) (by decide +kernel))⟩
set_option maxRecDepth 100000 in
theorem M12_isBanned {l : Launch} {B : tB} {S : tSH} {I : tHI} {J : tHJ} {v1 : Int32} {v2 : Int32} {n : Nat} {k : Int32 → tHI → tHJ → Prop} (t0 : ty S 61 12) (h : F12_isBanned n S I J v1 v2 k) : Met l yX12_isBanned (tWs yX12_isBanned cX12_isBanned 3 (some .boolean)) (tRm 8 0 0) (tPc B [vR 61, vI v1, vI v2] S I J) (tQi B (tPb S k)) 0 0 (tA B) :=
  tEntry (by decide +kernel) [some (vR 61), some (vI v1), some (vI v2)] rfl rfl (Nat.le_of_ble_eq_true rfl) (fun K hl hR hO hQ hG => by
  subst hl
  refine gBk (pe := 20) hO [o0 (.aload_n 0), o0 (.aload_n 0), oF (.getfield 13) 12 3 179 63, oI (.bipush 26) 26, o0 (.iload_n 1), o0 .iadd, o0 .iaload, o0 (.aload_n 0), oF (.getfield 13) 12 3 179 63, oI (.bipush 32) 32, o0 (.iload_n 1), o0 .iadd, o0 .iaload, o0 (.iload_n 2)] (by decide +kernel) (And.intro t0 (And.intro rfl (And.intro (tGr.off hG t0 (k := 3) rfl) (And.intro (tin (tGr.len hG t0 (k := 3) rfl (by decide)) h.1) (And.intro t0 (And.intro rfl (And.intro (tGr.off hG t0 (k := 3) rfl) (And.intro (tin (tGr.len hG t0 (k := 3) rfl (by decide)) h.2.1) (show tWG K B 0 0 S I J 20 [some (vR 61), some (vI v1), some (vI v2)] [vI v2, vI (I 63 (32 + v1).toNatClampNeg), vI (I 63 (26 + v1).toNatClampNeg), vR 61] from ?_)))))))))
  have h := h.2.2
  refine gCVi_b hO (M12_isBannedBy t0 h) hc12_isBannedBy (idx := 192) (w := 327) (by decide +kernel) hR (by omega) t0 ⟨by decide, rfl⟩ (vs := [vI (I 63 (26 + v1).toNatClampNeg), vI (I 63 (32 + v1).toNatClampNeg), vI v2]) (st := []) ⟨rfl, Nat.le_of_ble_eq_true rfl, rfl⟩ (by decide +kernel) (fun x3 I1 J2 z4 h => ?_)
  have h := h z4
  exact gZret hO hQ (by decide +kernel) z4 ⟨rfl, z4, h⟩)
set_option maxRecDepth 20000 in
theorem hc12_goesBy : tCm yX12_goesBy cX12_goesBy 5 (some .int) 4 ∧ Cond.static yX12_goesBy ∈ wsL_law := ⟨⟨(List.mem_of_getElem? (i := 1057) rfl), (List.mem_of_getElem? (i := 5) (by decide +kernel)), by decide +kernel⟩, (List.mem_of_getElem? (i := 1056) (by decide +kernel))⟩
set_option maxRecDepth 100000 in
theorem M12_goesBy {l : Launch} {B : tB} {S : tSH} {I : tHI} {J : tHJ} {v0 : Int32} {v1 : Int32} {v2 : Int32} {v3 : Int32} : Met l yX12_goesBy (tWs yX12_goesBy cX12_goesBy 5 (some .int)) (tRm 2 0 0) (tPc B [vI v0, vI v1, vI v2, vI v3] S I J) (tQi B (tPp S I J (V12_goesBy v0 v1 v2 v3))) 0 0 (tA B) :=
  tEntry (by decide +kernel) [some (vI v0), some (vI v1), some (vI v2), some (vI v3), none] rfl rfl (Nat.le_of_ble_eq_true rfl) (fun K hl hR hO hQ hG => by
  subst hl
  refine gBk (pe := 9) hO [o0 (.iload_n 0), o0 (.iload_n 1), o0 .imul, o0 (.iload_n 1), o0 .imul, o0 (.istore 4), o0 (.iload 4)] (by decide +kernel) (And.intro (Nat.le_of_ble_eq_true rfl) (show tWG K B 0 0 S I J 9 [some (vI v0), some (vI v1), some (vI v2), some (vI v3), some (vI ((v0 * v1) * v1))] [vI ((v0 * v1) * v1)] from ?_))
  refine gIfLe hO (off := 13) (tgt := 22) (by decide +kernel) (by decide) (fun c1 => ?_) (fun c1 => ?_)
  · refine gBk (pe := 24) hO [o0 (.iload 4)] (by decide +kernel) (show tWG K B 0 0 S I J 24 [some (vI v0), some (vI v1), some (vI v2), some (vI v3), some (vI ((v0 * v1) * v1))] [vI ((v0 * v1) * v1)] from ?_)
    refine gIfGe hO (off := 14) (tgt := 38) (by decide +kernel) (by decide) (fun c2 => ?_) (fun c2 => ?_)
    · refine gBk (pe := 39) hO [oI (.iconst 0) 0] (by decide +kernel) (show tWG K B 0 0 S I J 39 [some (vI v0), some (vI v1), some (vI v2), some (vI v3), some (vI ((v0 * v1) * v1))] [vI 0] from ?_)
      exact gIret hO hQ (by decide +kernel) ⟨(Eq.symm ((if_pos c1).trans (if_pos c2))), rfl⟩
    · refine gBk (pe := 31) hO [o0 (.iload 4), o0 .ineg, o0 (.iload_n 2)] (by decide +kernel) (show tWG K B 0 0 S I J 31 [some (vI v0), some (vI v1), some (vI v2), some (vI v3), some (vI ((v0 * v1) * v1))] [vI v2, vI (-((v0 * v1) * v1))] from ?_)
      refine gIcLe hO (off := 7) (tgt := 38) (by decide +kernel) (by decide) (fun c3 => ?_) (fun c3 => ?_)
      · refine gBk (pe := 39) hO [oI (.iconst 0) 0] (by decide +kernel) (show tWG K B 0 0 S I J 39 [some (vI v0), some (vI v1), some (vI v2), some (vI v3), some (vI ((v0 * v1) * v1))] [vI 0] from ?_)
        exact gIret hO hQ (by decide +kernel) ⟨(Eq.symm ((if_pos c1).trans ((if_neg c2).trans (if_pos c3)))), rfl⟩
      · refine gBk (pe := 39) hO [oI (.iconst 1) 1, o0 (.goto 4)] (by decide +kernel) (show tWG K B 0 0 S I J 39 [some (vI v0), some (vI v1), some (vI v2), some (vI v3), some (vI ((v0 * v1) * v1))] [vI 1] from ?_)
        exact gIret hO hQ (by decide +kernel) ⟨(Eq.symm ((if_pos c1).trans ((if_neg c2).trans (if_neg c3)))), rfl⟩
  · refine gBk (pe := 15) hO [o0 (.iload 4), o0 (.iload_n 3)] (by decide +kernel) (show tWG K B 0 0 S I J 15 [some (vI v0), some (vI v1), some (vI v2), some (vI v3), some (vI ((v0 * v1) * v1))] [vI v3, vI ((v0 * v1) * v1)] from ?_)
    refine gIcLe hO (off := 7) (tgt := 22) (by decide +kernel) (by decide) (fun c4 => ?_) (fun c4 => ?_)
    · refine gBk (pe := 24) hO [o0 (.iload 4)] (by decide +kernel) (show tWG K B 0 0 S I J 24 [some (vI v0), some (vI v1), some (vI v2), some (vI v3), some (vI ((v0 * v1) * v1))] [vI ((v0 * v1) * v1)] from ?_)
      refine gIfGe hO (off := 14) (tgt := 38) (by decide +kernel) (by decide) (fun c5 => ?_) (fun c5 => ?_)
      · refine gBk (pe := 39) hO [oI (.iconst 0) 0] (by decide +kernel) (show tWG K B 0 0 S I J 39 [some (vI v0), some (vI v1), some (vI v2), some (vI v3), some (vI ((v0 * v1) * v1))] [vI 0] from ?_)
        exact gIret hO hQ (by decide +kernel) ⟨(Eq.symm ((if_neg c1).trans ((if_pos c4).trans (if_pos c5)))), rfl⟩
      · refine gBk (pe := 31) hO [o0 (.iload 4), o0 .ineg, o0 (.iload_n 2)] (by decide +kernel) (show tWG K B 0 0 S I J 31 [some (vI v0), some (vI v1), some (vI v2), some (vI v3), some (vI ((v0 * v1) * v1))] [vI v2, vI (-((v0 * v1) * v1))] from ?_)
        refine gIcLe hO (off := 7) (tgt := 38) (by decide +kernel) (by decide) (fun c6 => ?_) (fun c6 => ?_)
        · refine gBk (pe := 39) hO [oI (.iconst 0) 0] (by decide +kernel) (show tWG K B 0 0 S I J 39 [some (vI v0), some (vI v1), some (vI v2), some (vI v3), some (vI ((v0 * v1) * v1))] [vI 0] from ?_)
          exact gIret hO hQ (by decide +kernel) ⟨(Eq.symm ((if_neg c1).trans ((if_pos c4).trans ((if_neg c5).trans (if_pos c6))))), rfl⟩
        · refine gBk (pe := 39) hO [oI (.iconst 1) 1, o0 (.goto 4)] (by decide +kernel) (show tWG K B 0 0 S I J 39 [some (vI v0), some (vI v1), some (vI v2), some (vI v3), some (vI ((v0 * v1) * v1))] [vI 1] from ?_)
          exact gIret hO hQ (by decide +kernel) ⟨(Eq.symm ((if_neg c1).trans ((if_pos c4).trans ((if_neg c5).trans (if_neg c6))))), rfl⟩
    · refine gBk (pe := 39) hO [oI (.iconst 2) 2, o0 (.goto 20)] (by decide +kernel) (show tWG K B 0 0 S I J 39 [some (vI v0), some (vI v1), some (vI v2), some (vI v3), some (vI ((v0 * v1) * v1))] [vI 2] from ?_)
      exact gIret hO hQ (by decide +kernel) ⟨(Eq.symm ((if_neg c1).trans (if_neg c4))), rfl⟩)
set_option maxRecDepth 20000 in
theorem hc12_goesNow : tCV yX12_goesNow cX12_goesNow 3 (some .int) 2 := ⟨⟨(List.mem_of_getElem? (i := 1054) rfl), (List.mem_of_getElem? (i := 5) (by decide +kernel)), by decide +kernel⟩, (List.mem_of_getElem? (i := 1052) (by decide +kernel)), (List.mem_of_getElem? (i := 1053) (by decide +kernel))⟩
set_option maxRecDepth 100000 in
theorem M12_goesNow {l : Launch} {B : tB} {S : tSH} {I : tHI} {J : tHJ} {v1 : Int32} {v2 : Int32} {n : Nat} {k : Int32 → tHI → tHJ → Prop} (t0 : ty S 61 12) (h : F12_goesNow n S I J v1 v2 k) : Met l yX12_goesNow (tWs yX12_goesNow cX12_goesNow 3 (some .int)) (tRm 8 0 0) (tPc B [vR 61, vI v1, vI v2] S I J) (tQi B (tPi S k)) 0 0 (tA B) :=
  tEntry (by decide +kernel) [some (vR 61), some (vI v1), some (vI v2)] rfl rfl (Nat.le_of_ble_eq_true rfl) (fun K hl hR hO hQ hG => by
  subst hl
  refine gBk (pe := 3) hO [o0 (.aload_n 0), o0 (.iload_n 1), oI (.iconst 0) 0] (by decide +kernel) (show tWG K B 0 0 S I J 3 [some (vR 61), some (vI v1), some (vI v2)] [vI 0, vI v1, vR 61] from ?_)
  refine gCVi_p hO (M12_ofBend t0 h.1) hc12_ofBend (idx := 240) (w := 356) (by decide +kernel) hR (by omega) t0 ⟨by decide, rfl⟩ (vs := [vI v1, vI 0]) (st := []) ⟨rfl, Nat.le_of_ble_eq_true rfl, rfl⟩ (by decide +kernel) ?_
  have h := h.2
  refine gBk (pe := 9) hO [o0 (.iload_n 2), o0 (.aload_n 0), o0 (.iload_n 1)] (by decide +kernel) (show tWG K B 0 0 S I J 9 [some (vR 61), some (vI v1), some (vI v2)] [vI v1, vR 61, vI v2, vI (V12_ofBend S I J v1 0)] from ?_)
  refine gCVi_c hO (M12_holdsOf t0 h) hc12_holdsOf (idx := 225) (w := 481) (by decide +kernel) hR (by omega) t0 ⟨by decide, rfl⟩ (vs := [vI v1]) (st := [vI v2, vI (V12_ofBend S I J v1 0)]) ⟨rfl, Nat.le_of_ble_eq_true rfl, rfl⟩ (by decide +kernel) (fun x3 I1 J2 h => ?_)
  refine gBk (pe := 14) hO [o0 (.aload_n 0), o0 (.iload_n 1)] (by decide +kernel) (show tWG K B 0 0 S I1 J2 14 [some (vR 61), some (vI v1), some (vI v2)] [vI v1, vR 61, vI x3, vI v2, vI (V12_ofBend S I J v1 0)] from ?_)
  refine gCVi_c hO (M12_gripsOf t0 h) hc12_gripsOf (idx := 228) (w := 507) (by decide +kernel) hR (by omega) t0 ⟨by decide, rfl⟩ (vs := [vI v1]) (st := [vI x3, vI v2, vI (V12_ofBend S I J v1 0)]) ⟨rfl, Nat.le_of_ble_eq_true rfl, rfl⟩ (by decide +kernel) (fun x6 I4 J5 h => ?_)
  refine gCSi_p hO (M12_goesBy) hc12_goesBy (idx := 475) (w := 1055) (by decide +kernel) hR (by omega) (vs := [vI (V12_ofBend S I J v1 0), vI v2, vI x3, vI x6]) (st := []) ⟨rfl, Nat.le_of_ble_eq_true rfl, rfl⟩ (by decide +kernel) ?_
  exact gIret hO hQ (by decide +kernel) ⟨rfl, h⟩)
set_option maxRecDepth 100000 in
theorem W12_goes_35 {K : tK} {B : tB} {S : tSH} {MC MS : Nat} (hO : tKO K B RX12 cX12_goes 3) (hR : kR K = tRm 9 MC MS) (hG : tGr S) {n : Nat} (t0 : ty S 61 12) {k : Int32 → tHI → tHJ → Prop} (hQ : tRet K B (tQi B (tPi S k)) 0 0 (some .int)) {I : tHI} {J : tHJ} {s0 : Int32} (h : F12_goes_35 n S k I J s0) : tWG K B 0 0 S I J 35 [none, none, none] [vI s0] := by
  exact gIret hO hQ (by decide +kernel) ⟨rfl, h⟩
set_option maxRecDepth 100000 in
theorem W12_goes_34 {K : tK} {B : tB} {S : tSH} {MC MS : Nat} (hO : tKO K B RX12 cX12_goes 3) (hR : kR K = tRm 9 MC MS) (hG : tGr S) {n : Nat} (t0 : ty S 61 12) {k : Int32 → tHI → tHJ → Prop} (hQ : tRet K B (tQi B (tPi S k)) 0 0 (some .int)) {I : tHI} {J : tHJ} (h : F12_goes_34 n S k I J) : tWG K B 0 0 S I J 34 [none, none, none] [] := by
  refine gBk (pe := 35) hO [oI (.iconst (-1)) (-1)] (by decide +kernel) (show tWG K B 0 0 S I J 35 [none, none, none] [vI (-1)] from ?_)
  exact W12_goes_35 hO hR hG t0 hQ h
set_option maxRecDepth 20000 in
theorem hc12_goes : tCV yX12_goes cX12_goes 3 (some .int) 2 := ⟨⟨(List.mem_of_getElem? (i := 1163) rfl), (List.mem_of_getElem? (i := 5) (by decide +kernel)), by decide +kernel⟩, (List.mem_of_getElem? (i := 1161) (by decide +kernel)), (List.mem_of_getElem? (i := 1162) (by decide +kernel))⟩
set_option maxRecDepth 100000 in
theorem M12_goes {l : Launch} {B : tB} {S : tSH} {I : tHI} {J : tHJ} {v1 : Int32} {v2 : Int32} {n : Nat} {k : Int32 → tHI → tHJ → Prop} (t0 : ty S 61 12) (h : F12_goes n S I J v1 v2 k) : Met l yX12_goes (tWs yX12_goes cX12_goes 3 (some .int)) (tRm 9 0 0) (tPc B [vR 61, vI v1, vI v2] S I J) (tQi B (tPi S k)) 0 0 (tA B) :=
  tEntry (by decide +kernel) [some (vR 61), some (vI v1), some (vI v2)] rfl rfl (Nat.le_of_ble_eq_true rfl) (fun K hl hR hO hQ hG => by
  subst hl
  refine gBk (pe := 7) hO [o0 (.aload_n 0), oI (.iconst 0) 0, oF (.putfield 161) 12 0 316 0, o0 (.aload_n 0), o0 (.iload_n 1)] (by decide +kernel) (And.intro t0 (show tWG K B 0 0 S (uI I 61 0 0) J 7 [some (vR 61), some (vI v1), some (vI v2)] [vI v1, vR 61] from ?_))
  refine gCVi_z hO (M12_isBend t0) hc12_isBend (idx := 220) (w := 352) (by decide +kernel) hR (by omega) t0 ⟨by decide, rfl⟩ (vs := [vI v1]) (st := []) ⟨rfl, Nat.le_of_ble_eq_true rfl, rfl⟩ (by decide +kernel) (fun z1 => ?_)
  refine gIfEq hO (off := 24) (tgt := 34) (by decide +kernel) (by decide) (fun c2 => ?_) (fun c2 => ?_)
  · have h := h.1 c2
    exact gWeak (L' := [none, none, none]) trivial (W12_goes_34 hO hR hG t0 hQ h)
  · have h := h.2 c2
    refine gBk (pe := 16) hO [o0 (.iload_n 2), o0 .i2l, oJ (.lconst 1) 0 1] (by decide +kernel) (show tWG K B 0 0 S (uI I 61 0 0) J 16 [some (vR 61), some (vI v1), some (vI v2)] [vL 1, vL v2.toInt64] from ?_)
    refine gBk (pe := 19) hO [(.ldc2_w 247, (0, 0, 517, 0), 0, 60)] (by decide +kernel) (show tWG K B 0 0 S (uI I 61 0 0) J 19 [some (vR 61), some (vI v1), some (vI v2)] [vL 60, vL 1, vL v2.toInt64] from ?_)
    refine gCSi_z hO (M12_in) hc12_in (idx := 181) (w := 319) (by decide +kernel) hR (by omega) (vs := [vL v2.toInt64, vL 1, vL 60]) (st := []) ⟨rfl, Nat.le_of_ble_eq_true rfl, rfl⟩ (by decide +kernel) (fun z3 => ?_)
    refine gIfEq hO (off := 12) (tgt := 34) (by decide +kernel) (by decide) (fun c4 => ?_) (fun c4 => ?_)
    · have h := h.1 c4
      exact gWeak (L' := [none, none, none]) trivial (W12_goes_34 hO hR hG t0 hQ h)
    · have h := h.2 c4
      refine gBk (pe := 28) hO [o0 (.aload_n 0), o0 (.iload_n 1), o0 (.iload_n 2)] (by decide +kernel) (show tWG K B 0 0 S (uI I 61 0 0) J 28 [some (vR 61), some (vI v1), some (vI v2)] [vI v2, vI v1, vR 61] from ?_)
      refine gCVi_c hO (M12_goesNow t0 h) hc12_goesNow (idx := 478) (w := 1051) (by decide +kernel) hR (by omega) t0 ⟨by decide, rfl⟩ (vs := [vI v1, vI v2]) (st := []) ⟨rfl, Nat.le_of_ble_eq_true rfl, rfl⟩ (by decide +kernel) (fun x7 I5 J6 h => ?_)
      refine gBk (pe := 35) hO [o0 (.goto 4)] (by decide +kernel) (show tWG K B 0 0 S I5 J6 35 [some (vR 61), some (vI v1), some (vI v2)] [vI x7] from ?_)
      exact gWeak (L' := [none, none, none]) trivial (W12_goes_35 hO hR hG t0 hQ h))
set_option maxRecDepth 100000 in
theorem W12_quickest_46 {K : tK} {B : tB} {S : tSH} {MC MS : Nat} (hO : tKO K B RX12 cX12_quickest 5) (hR : kR K = tRm 8 MC MS) (hG : tGr S) {n : Nat} (t0 : ty S 61 12) {k : Int32 → tHI → tHJ → Prop} (hQ : tRet K B (tQi B (tPi S k)) 0 0 (some .int)) {I : tHI} {J : tHJ} {v4 : Int32} (h : F12_quickest_46 n S k I J v4) : tWG K B 0 0 S I J 46 [none, none, none, none, some (vI v4)] [] := by
  refine gBk (pe := 48) hO [o0 (.iload 4)] (by decide +kernel) (show tWG K B 0 0 S I J 48 [none, none, none, none, some (vI v4)] [vI v4] from ?_)
  exact gIret hO hQ (by decide +kernel) ⟨rfl, h⟩
set_option maxRecDepth 100000 in
theorem W12_quickest_19 {K : tK} {B : tB} {S : tSH} {MC MS : Nat} (hO : tKO K B RX12 cX12_quickest 5) (hR : kR K = tRm 8 MC MS) (hG : tGr S) {n : Nat} (t0 : ty S 61 12) {k : Int32 → tHI → tHJ → Prop} (hQ : tRet K B (tQi B (tPi S k)) 0 0 (some .int)) {kb19 : tHI → tHJ → Int32 → Int32 → Int32 → Int32 → Prop} (hkb19 : ∀ (I : tHI) (J : tHJ) (v1 : Int32) (v2 : Int32) (v3 : Int32) (v4 : Int32), kb19 I J v1 v2 v3 v4 → tWG K B 0 0 S I J 19 [some (vR 61), some (vI v1), some (vI v2), some (vI v3), some (vI v4)] []) {I : tHI} {J : tHJ} {v1 : Int32} {v2 : Int32} {v3 : Int32} {v4 : Int32} (h : F12_quickest_19 n S k kb19 I J v1 v2 v3 v4) : tWG K B 0 0 S I J 19 [some (vR 61), some (vI v1), some (vI v2), some (vI v3), some (vI v4)] [] := by
  refine gBk (pe := 21) hO [o0 (.iload 4)] (by decide +kernel) (show tWG K B 0 0 S I J 21 [some (vR 61), some (vI v1), some (vI v2), some (vI v3), some (vI v4)] [vI v4] from ?_)
  refine gIfLe hO (off := 25) (tgt := 46) (by decide +kernel) (by decide) (fun c10 => ?_) (fun c10 => ?_)
  · have h := h.1 c10
    exact gWeak (L' := [none, none, none, none, some (vI v4)]) ⟨rfl, trivial⟩ (W12_quickest_46 hO hR hG t0 hQ h)
  · have h := h.2 c10
    refine gBk (pe := 27) hO [o0 (.aload_n 0), o0 (.iload_n 1), oI (.iconst 0) 0] (by decide +kernel) (show tWG K B 0 0 S I J 27 [some (vR 61), some (vI v1), some (vI v2), some (vI v3), some (vI v4)] [vI 0, vI v1, vR 61] from ?_)
    refine gCVi_p hO (M12_ofBend t0 h.1) hc12_ofBend (idx := 240) (w := 356) (by decide +kernel) hR (by omega) t0 ⟨by decide, rfl⟩ (vs := [vI v1, vI 0]) (st := []) ⟨rfl, Nat.le_of_ble_eq_true rfl, rfl⟩ (by decide +kernel) ?_
    have h := h.2
    refine gBk (pe := 34) hO [o0 (.iload 4), o0 (.iload_n 2), o0 (.iload_n 3)] (by decide +kernel) (show tWG K B 0 0 S I J 34 [some (vR 61), some (vI v1), some (vI v2), some (vI v3), some (vI v4)] [vI v3, vI v2, vI v4, vI (V12_ofBend S I J v1 0)] from ?_)
    refine gCSi_p hO (M12_goesBy) hc12_goesBy (idx := 475) (w := 1055) (by decide +kernel) hR (by omega) (vs := [vI (V12_ofBend S I J v1 0), vI v4, vI v2, vI v3]) (st := []) ⟨rfl, Nat.le_of_ble_eq_true rfl, rfl⟩ (by decide +kernel) ?_
    refine gIfEq hO (off := 9) (tgt := 46) (by decide +kernel) (by decide) (fun c11 => ?_) (fun c11 => ?_)
    · have h := h.1 c11
      exact gWeak (L' := [none, none, none, none, some (vI v4)]) ⟨rfl, trivial⟩ (W12_quickest_46 hO hR hG t0 hQ h)
    · have h := h.2 c11
      refine gBk (pe := 19) hO [oI (.iinc 4 (-1)) (-1), o0 (.goto (-24))] (by decide +kernel) (show tWG K B 0 0 S I J 19 [some (vR 61), some (vI v1), some (vI v2), some (vI v3), some (vI (v4 + (-1)))] [] from ?_)
      exact hkb19 _ _ _ _ _ _ h
theorem W12_quickest_L19 {K : tK} {B : tB} {S : tSH} {MC MS : Nat} (hO : tKO K B RX12 cX12_quickest 5) (hR : kR K = tRm 8 MC MS) (hG : tGr S) {n : Nat} (t0 : ty S 61 12) {k : Int32 → tHI → tHJ → Prop} (hQ : tRet K B (tQi B (tPi S k)) 0 0 (some .int)) : ∀ (f : Nat) (I : tHI) (J : tHJ) (v1 : Int32) (v2 : Int32) (v3 : Int32) (v4 : Int32), F12_quickest_L19 n S k f I J v1 v2 v3 v4 → tWG K B 0 0 S I J 19 [some (vR 61), some (vI v1), some (vI v2), some (vI v3), some (vI v4)] [] := by
  intro f
  induction f with
  | zero => intro I J v1 v2 v3 v4 h; exact h.elim
  | succ f ih => intro I J v1 v2 v3 v4 h; exact W12_quickest_19 hO hR hG t0 hQ ih h
set_option maxRecDepth 20000 in
theorem hc12_quickest : tCV yX12_quickest cX12_quickest 5 (some .int) 1 := ⟨⟨(List.mem_of_getElem? (i := 1185) rfl), (List.mem_of_getElem? (i := 5) (by decide +kernel)), by decide +kernel⟩, (List.mem_of_getElem? (i := 1183) (by decide +kernel)), (List.mem_of_getElem? (i := 1184) (by decide +kernel))⟩
set_option maxRecDepth 100000 in
theorem M12_quickest {l : Launch} {B : tB} {S : tSH} {I : tHI} {J : tHJ} {v1 : Int32} {n : Nat} {k : Int32 → tHI → tHJ → Prop} (t0 : ty S 61 12) (h : F12_quickest n S I J v1 k) : Met l yX12_quickest (tWs yX12_quickest cX12_quickest 5 (some .int)) (tRm 8 0 0) (tPc B [vR 61, vI v1] S I J) (tQi B (tPi S k)) 0 0 (tA B) :=
  tEntry (by decide +kernel) [some (vR 61), some (vI v1), none, none, none] rfl rfl (Nat.le_of_ble_eq_true rfl) (fun K hl hR hO hQ hG => by
  subst hl
  refine gBk (pe := 2) hO [o0 (.aload_n 0), o0 (.iload_n 1)] (by decide +kernel) (show tWG K B 0 0 S I J 2 [some (vR 61), some (vI v1), none, none, none] [vI v1, vR 61] from ?_)
  refine gCVi_c hO (M12_holdsOf t0 h) hc12_holdsOf (idx := 225) (w := 481) (by decide +kernel) hR (by omega) t0 ⟨by decide, rfl⟩ (vs := [vI v1]) (st := []) ⟨rfl, Nat.le_of_ble_eq_true rfl, rfl⟩ (by decide +kernel) (fun x3 I1 J2 h => ?_)
  refine gBk (pe := 8) hO [o0 (.istore_n 2), o0 (.aload_n 0), o0 (.iload_n 1)] (by decide +kernel) (And.intro (Nat.le_of_ble_eq_true rfl) (show tWG K B 0 0 S I1 J2 8 [some (vR 61), some (vI v1), some (vI x3), none, none] [vI v1, vR 61] from ?_))
  refine gCVi_c hO (M12_gripsOf t0 h) hc12_gripsOf (idx := 228) (w := 507) (by decide +kernel) hR (by omega) t0 ⟨by decide, rfl⟩ (vs := [vI v1]) (st := []) ⟨rfl, Nat.le_of_ble_eq_true rfl, rfl⟩ (by decide +kernel) (fun x6 I4 J5 h => ?_)
  refine gBk (pe := 14) hO [o0 (.istore_n 3), o0 (.aload_n 0), o0 (.iload_n 1)] (by decide +kernel) (And.intro (Nat.le_of_ble_eq_true rfl) (show tWG K B 0 0 S I4 J5 14 [some (vR 61), some (vI v1), some (vI x3), some (vI x6), none] [vI v1, vR 61] from ?_))
  refine gCVi_c hO (M12_fearsOf t0 h) hc12_fearsOf (idx := 231) (w := 513) (by decide +kernel) hR (by omega) t0 ⟨by decide, rfl⟩ (vs := [vI v1]) (st := []) ⟨rfl, Nat.le_of_ble_eq_true rfl, rfl⟩ (by decide +kernel) (fun x9 I7 J8 h => ?_)
  refine gBk (pe := 19) hO [o0 (.istore 4)] (by decide +kernel) (And.intro (Nat.le_of_ble_eq_true rfl) (show tWG K B 0 0 S I7 J8 19 [some (vR 61), some (vI v1), some (vI x3), some (vI x6), some (vI x9)] [] from ?_))
  exact W12_quickest_L19 hO hR hG t0 hQ n _ _ _ _ _ _ h)
set_option maxRecDepth 20000 in
theorem hc12_timeOf : tCV yX12_timeOf cX12_timeOf 3 (some .int) 2 := ⟨⟨(List.mem_of_getElem? (i := 1189) rfl), (List.mem_of_getElem? (i := 5) (by decide +kernel)), by decide +kernel⟩, (List.mem_of_getElem? (i := 1187) (by decide +kernel)), (List.mem_of_getElem? (i := 1188) (by decide +kernel))⟩
set_option maxRecDepth 100000 in
theorem M12_timeOf {l : Launch} {B : tB} {S : tSH} {I : tHI} {J : tHJ} {v1 : Int32} {v2 : Int32} (t0 : ty S 61 12) (h : P12_timeOf S I J v1 v2) : Met l yX12_timeOf (tWs yX12_timeOf cX12_timeOf 3 (some .int)) (tRm 3 0 0) (tPc B [vR 61, vI v1, vI v2] S I J) (tQi B (tPp S I J (V12_timeOf S I J v1 v2))) 0 0 (tA B) :=
  tEntry (by decide +kernel) [some (vR 61), some (vI v1), some (vI v2)] rfl rfl (Nat.le_of_ble_eq_true rfl) (fun K hl hR hO hQ hG => by
  subst hl
  refine gBk (pe := 1) hO [o0 (.iload_n 2)] (by decide +kernel) (show tWG K B 0 0 S I J 1 [some (vR 61), some (vI v1), some (vI v2)] [vI v2] from ?_)
  refine gIfNe hO (off := 7) (tgt := 8) (by decide +kernel) (by decide) (fun c1 => ?_) (fun c1 => ?_)
  · have h := h.1 c1
    refine gBk (pe := 11) hO [o0 (.aload_n 0), o0 (.iload_n 1), oI (.iconst 1) 1] (by decide +kernel) (show tWG K B 0 0 S I J 11 [some (vR 61), some (vI v1), some (vI v2)] [vI 1, vI v1, vR 61] from ?_)
    refine gCVi_p hO (M12_ofBend t0 h.1) hc12_ofBend (idx := 240) (w := 356) (by decide +kernel) hR (by omega) t0 ⟨by decide, rfl⟩ (vs := [vI v1, vI 1]) (st := []) ⟨rfl, Nat.le_of_ble_eq_true rfl, rfl⟩ (by decide +kernel) ?_
    have h := h.2
    refine gBk (pe := 19) hO [oI (.bipush 60) 60, o0 .imul, o0 (.iload_n 2), o0 .idiv] (by decide +kernel) (And.intro h.1 (show tWG K B 0 0 S I J 19 [some (vR 61), some (vI v1), some (vI v2)] [vI (((V12_ofBend S I J v1 1) * 60) / v2)] from ?_))
    have h := h.2
    exact gIret hO hQ (by decide +kernel) ⟨(Eq.symm (if_neg c1)), rfl⟩
  · have h := h.2 c1
    refine gBk (pe := 19) hO [oI (.iconst 0) 0, o0 (.goto 14)] (by decide +kernel) (show tWG K B 0 0 S I J 19 [some (vR 61), some (vI v1), some (vI v2)] [vI 0] from ?_)
    exact gIret hO hQ (by decide +kernel) ⟨(Eq.symm (if_pos c1)), rfl⟩)
set_option maxRecDepth 100000 in
theorem W12_quick_23 {K : tK} {B : tB} {S : tSH} {MC MS : Nat} (hO : tKO K B RX12 cX12_quick 4) (hR : kR K = tRm 9 MC MS) (hG : tGr S) {n : Nat} (t0 : ty S 61 12) {k : Int32 → tHI → tHJ → Prop} (hQ : tRet K B (tQi B (tPi S k)) 0 0 (some .int)) {I : tHI} {J : tHJ} (h : F12_quick_23 n S k I J) : tWG K B 0 0 S I J 23 [none, none, none, none] [] := by
  refine gBk (pe := 24) hO [oI (.iconst (-1)) (-1)] (by decide +kernel) (show tWG K B 0 0 S I J 24 [none, none, none, none] [vI (-1)] from ?_)
  exact gIret hO hQ (by decide +kernel) ⟨rfl, h⟩
set_option maxRecDepth 20000 in
theorem hc12_quick : tCV yX12_quick cX12_quick 4 (some .int) 2 := ⟨⟨(List.mem_of_getElem? (i := 1181) rfl), (List.mem_of_getElem? (i := 5) (by decide +kernel)), by decide +kernel⟩, (List.mem_of_getElem? (i := 1179) (by decide +kernel)), (List.mem_of_getElem? (i := 1180) (by decide +kernel))⟩
set_option maxRecDepth 100000 in
theorem M12_quick {l : Launch} {B : tB} {S : tSH} {I : tHI} {J : tHJ} {v1 : Int32} {v2 : Int32} {n : Nat} {k : Int32 → tHI → tHJ → Prop} (t0 : ty S 61 12) (h : F12_quick n S I J v1 v2 k) : Met l yX12_quick (tWs yX12_quick cX12_quick 4 (some .int)) (tRm 9 0 0) (tPc B [vR 61, vI v1, vI v2] S I J) (tQi B (tPi S k)) 0 0 (tA B) :=
  tEntry (by decide +kernel) [some (vR 61), some (vI v1), some (vI v2), none] rfl rfl (Nat.le_of_ble_eq_true rfl) (fun K hl hR hO hQ hG => by
  subst hl
  refine gBk (pe := 7) hO [o0 (.aload_n 0), oI (.iconst 0) 0, oF (.putfield 161) 12 0 316 0, o0 (.aload_n 0), o0 (.iload_n 1)] (by decide +kernel) (And.intro t0 (show tWG K B 0 0 S (uI I 61 0 0) J 7 [some (vR 61), some (vI v1), some (vI v2), none] [vI v1, vR 61] from ?_))
  refine gCVi_z hO (M12_isBend t0) hc12_isBend (idx := 220) (w := 352) (by decide +kernel) hR (by omega) t0 ⟨by decide, rfl⟩ (vs := [vI v1]) (st := []) ⟨rfl, Nat.le_of_ble_eq_true rfl, rfl⟩ (by decide +kernel) (fun z1 => ?_)
  refine gIfEq hO (off := 13) (tgt := 23) (by decide +kernel) (by decide) (fun c2 => ?_) (fun c2 => ?_)
  · have h := h.1 c2
    exact gWeak (L' := [none, none, none, none]) trivial (W12_quick_23 hO hR hG t0 hQ h)
  · have h := h.2 c2
    refine gBk (pe := 17) hO [o0 (.iload_n 2), o0 .i2l, oJ (.lconst 0) 0 0, oJ (.lconst 1) 0 1] (by decide +kernel) (show tWG K B 0 0 S (uI I 61 0 0) J 17 [some (vR 61), some (vI v1), some (vI v2), none] [vL 1, vL 0, vL v2.toInt64] from ?_)
    refine gCSi_z hO (M12_in) hc12_in (idx := 181) (w := 319) (by decide +kernel) hR (by omega) (vs := [vL v2.toInt64, vL 0, vL 1]) (st := []) ⟨rfl, Nat.le_of_ble_eq_true rfl, rfl⟩ (by decide +kernel) (fun z3 => ?_)
    refine gIfNe hO (off := 5) (tgt := 25) (by decide +kernel) (by decide) (fun c4 => ?_) (fun c4 => ?_)
    · have h := h.1 c4
      refine gBk (pe := 27) hO [o0 (.aload_n 0), o0 (.iload_n 1)] (by decide +kernel) (show tWG K B 0 0 S (uI I 61 0 0) J 27 [some (vR 61), some (vI v1), some (vI v2), none] [vI v1, vR 61] from ?_)
      refine gCVi_c hO (M12_quickest t0 h) hc12_quickest (idx := 481) (w := 1182) (by decide +kernel) hR (by omega) t0 ⟨by decide, rfl⟩ (vs := [vI v1]) (st := []) ⟨rfl, Nat.le_of_ble_eq_true rfl, rfl⟩ (by decide +kernel) (fun x7 I5 J6 h => ?_)
      refine gBk (pe := 32) hO [o0 (.istore_n 3), o0 (.iload_n 2)] (by decide +kernel) (And.intro (Nat.le_of_ble_eq_true rfl) (show tWG K B 0 0 S I5 J6 32 [some (vR 61), some (vI v1), some (vI v2), some (vI x7)] [vI v2] from ?_))
      have hj8 : ∀ (m9 : Int32), m9 = (if v2 = 0 then x7 else (V12_timeOf S I5 J6 v1 x7)) → tWG K B 0 0 S I5 J6 45 [none, none, none, none] [vI m9] := by
        intro m9 em9
        subst em9
        have h := h.2
        exact gIret hO hQ (by decide +kernel) ⟨rfl, h⟩
      have h := h.1
      refine gIfNe hO (off := 7) (tgt := 39) (by decide +kernel) (by decide) (fun c10 => ?_) (fun c10 => ?_)
      · have h := h.1 c10
        refine gBk (pe := 42) hO [o0 (.aload_n 0), o0 (.iload_n 1), o0 (.iload_n 3)] (by decide +kernel) (show tWG K B 0 0 S I5 J6 42 [some (vR 61), some (vI v1), some (vI v2), some (vI x7)] [vI x7, vI v1, vR 61] from ?_)
        refine gCVi_p hO (M12_timeOf t0 h.1) hc12_timeOf (idx := 484) (w := 1186) (by decide +kernel) hR (by omega) t0 ⟨by decide, rfl⟩ (vs := [vI v1, vI x7]) (st := []) ⟨rfl, Nat.le_of_ble_eq_true rfl, rfl⟩ (by decide +kernel) ?_
        have h := h.2
        exact gWeak (L' := [none, none, none, none]) trivial (hj8 _ (Eq.symm (if_neg c10)))
      · have h := h.2 c10
        refine gBk (pe := 45) hO [o0 (.iload_n 3), o0 (.goto 9)] (by decide +kernel) (show tWG K B 0 0 S I5 J6 45 [some (vR 61), some (vI v1), some (vI v2), some (vI x7)] [vI x7] from ?_)
        exact gWeak (L' := [none, none, none, none]) trivial (hj8 _ (Eq.symm (if_pos c10)))
    · have h := h.2 c4
      exact gWeak (L' := [none, none, none, none]) trivial (W12_quick_23 hO hR hG t0 hQ h))
