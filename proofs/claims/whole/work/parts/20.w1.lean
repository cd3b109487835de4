set_option maxRecDepth 100000 in
theorem W0_joined_160 {K : tK} {B : tB} {S : tSH} {MC MS : Nat} (hO : tKO K B RX0 cX0_joined 7) (hR : kR K = tRm 2 MC MS) (hG : tGr S) {n : Nat} {k : Int64 → tHI → tHJ → Prop} (hQ : tRet K B (tQl B (tPl S k)) 0 0 (some .long)) {I : tHI} {J : tHJ} {w5 : Int64} (h : F0_joined_160 n S k I J w5) : tWG K B 0 0 S I J 160 [none, none, none, none, none, some (vL w5), none] [] := by
  refine gBk (pe := 162) hO [o0 (.lload 5)] (by decide +kernel) (show tWG K B 0 0 S I J 162 [none, none, none, none, none, some (vL w5), none] [vL w5] from ?_)
  refine gBk (pe := 166) hO [(.ldc2_w 47, (0, 0, 306, 0), 0, 1000000000), o0 .lcmp] (by decide +kernel) (show tWG K B 0 0 S I J 166 [none, none, none, none, none, some (vL w5), none] [vI (lg_cmp w5 1000000000)] from ?_)
  have hj3 : ∀ (m4 : Int64), m4 = (if 0 < (lg_cmp w5 1000000000) then 2000000000 else (if 0 ≤ (lg_cmp w5 (-1000000000)) then w5 else 2000000000)) → tWG K B 0 0 S I J 186 [none, none, none, none, none, none, none] [vL m4] := by
    intro m4 em4
    subst em4
    exact gLret hO hQ (by decide +kernel) ⟨rfl, h⟩
  refine gIfGt hO (off := 12) (tgt := 178) (by decide +kernel) (by decide) (fun c5 => ?_) (fun c5 => ?_)
  · refine gBk (pe := 186) hO [(.ldc2_w 41, (0, 0, 302, 0), 0, 2000000000), o0 (.goto 5)] (by decide +kernel) (show tWG K B 0 0 S I J 186 [none, none, none, none, none, some (vL w5), none] [vL 2000000000] from ?_)
    exact gWeak (L' := [none, none, none, none, none, none, none]) trivial (hj3 _ (Eq.symm (if_pos c5)))
  · refine gBk (pe := 171) hO [o0 (.lload 5)] (by decide +kernel) (show tWG K B 0 0 S I J 171 [none, none, none, none, none, some (vL w5), none] [vL w5] from ?_)
    refine gBk (pe := 175) hO [(.ldc2_w 49, (0, 0, 307, 0), 0, (-1000000000)), o0 .lcmp] (by decide +kernel) (show tWG K B 0 0 S I J 175 [none, none, none, none, none, some (vL w5), none] [vI (lg_cmp w5 (-1000000000))] from ?_)
    refine gIfGe hO (off := 9) (tgt := 184) (by decide +kernel) (by decide) (fun c6 => ?_) (fun c6 => ?_)
    · refine gBk (pe := 186) hO [o0 (.lload 5)] (by decide +kernel) (show tWG K B 0 0 S I J 186 [none, none, none, none, none, some (vL w5), none] [vL w5] from ?_)
      exact gWeak (L' := [none, none, none, none, none, none, none]) trivial (hj3 _ (Eq.symm ((if_neg c5).trans (if_pos c6))))
    · refine gBk (pe := 186) hO [(.ldc2_w 41, (0, 0, 302, 0), 0, 2000000000), o0 (.goto 5)] (by decide +kernel) (show tWG K B 0 0 S I J 186 [none, none, none, none, none, some (vL w5), none] [vL 2000000000] from ?_)
      exact gWeak (L' := [none, none, none, none, none, none, none]) trivial (hj3 _ (Eq.symm ((if_neg c5).trans (if_neg c6))))
set_option maxRecDepth 100000 in
theorem W0_joined_21 {K : tK} {B : tB} {S : tSH} {MC MS : Nat} (hO : tKO K B RX0 cX0_joined 7) (hR : kR K = tRm 2 MC MS) (hG : tGr S) {n : Nat} {k : Int64 → tHI → tHJ → Prop} (hQ : tRet K B (tQl B (tPl S k)) 0 0 (some .long)) {I : tHI} {J : tHJ} {v0 : Int32} {w1 : Int64} {w3 : Int64} (h : F0_joined_21 n S k I J v0 w1 w3) : tWG K B 0 0 S I J 21 [some (vI v0), some (vL w1), none, some (vL w3), none, none, none] [] := by
  refine gBk (pe := 22) hO [o0 (.iload_n 0)] (by decide +kernel) (show tWG K B 0 0 S I J 22 [some (vI v0), some (vL w1), none, some (vL w3), none, none, none] [vI v0] from ?_)
  by_cases c2 : v0 = 2
  · have h := h.1 c2
    refine gSwIn hO (dflt := 126) (lo := 2) (hi := 8) (offs := #[42, 50, 58, 66, 84, 102, 114]) (len := 42) (off := 42) (tgt := 64) 2 c2 (by decide +kernel) (by decide +kernel) ?_
    refine gBk (pe := 160) hO [o0 (.lload_n 1), o0 (.lload_n 3), o0 .ladd, o0 (.lstore 5), o0 (.goto 91)] (by decide +kernel) (And.intro (Nat.le_of_ble_eq_true rfl) (show tWG K B 0 0 S I J 160 [some (vI v0), some (vL w1), none, some (vL w3), none, some (vL (w1 + w3)), none] [] from ?_))
    exact gWeak (L' := [none, none, none, none, none, some (vL (w1 + w3)), none]) ⟨rfl, trivial⟩ (W0_joined_160 hO hR hG hQ h)
  have h := h.2
  by_cases c7 : v0 = 3
  · have h := h.1 c7
    refine gSwIn hO (dflt := 126) (lo := 2) (hi := 8) (offs := #[42, 50, 58, 66, 84, 102, 114]) (len := 42) (off := 50) (tgt := 72) 3 c7 (by decide +kernel) (by decide +kernel) ?_
    refine gBk (pe := 160) hO [o0 (.lload_n 1), o0 (.lload_n 3), o0 .lsub, o0 (.lstore 5), o0 (.goto 83)] (by decide +kernel) (And.intro (Nat.le_of_ble_eq_true rfl) (show tWG K B 0 0 S I J 160 [some (vI v0), some (vL w1), none, some (vL w3), none, some (vL (w1 - w3)), none] [] from ?_))
    exact gWeak (L' := [none, none, none, none, none, some (vL (w1 - w3)), none]) ⟨rfl, trivial⟩ (W0_joined_160 hO hR hG hQ h)
  have h := h.2
  by_cases c8 : v0 = 4
  · have h := h.1 c8
    refine gSwIn hO (dflt := 126) (lo := 2) (hi := 8) (offs := #[42, 50, 58, 66, 84, 102, 114]) (len := 42) (off := 58) (tgt := 80) 4 c8 (by decide +kernel) (by decide +kernel) ?_
    refine gBk (pe := 160) hO [o0 (.lload_n 1), o0 (.lload_n 3), o0 .lmul, o0 (.lstore 5), o0 (.goto 75)] (by decide +kernel) (And.intro (Nat.le_of_ble_eq_true rfl) (show tWG K B 0 0 S I J 160 [some (vI v0), some (vL w1), none, some (vL w3), none, some (vL (w1 * w3)), none] [] from ?_))
    exact gWeak (L' := [none, none, none, none, none, some (vL (w1 * w3)), none]) ⟨rfl, trivial⟩ (W0_joined_160 hO hR hG hQ h)
  have h := h.2
  by_cases c9 : v0 = 5
  · have h := h.1 c9
    refine gSwIn hO (dflt := 126) (lo := 2) (hi := 8) (offs := #[42, 50, 58, 66, 84, 102, 114]) (len := 42) (off := 66) (tgt := 88) 5 c9 (by decide +kernel) (by decide +kernel) ?_
    refine gBk (pe := 91) hO [o0 (.lload_n 3), oJ (.lconst 0) 0 0, o0 .lcmp] (by decide +kernel) (show tWG K B 0 0 S I J 91 [some (vI v0), some (vL w1), none, some (vL w3), none, none, none] [vI (lg_cmp w3 0)] from ?_)
    have hj10 : ∀ (m11 : Int64), m11 = (if (lg_cmp w3 0) = 0 then 0 else (w1 / w3)) → tWG K B 0 0 S I J 101 [none, none, none, none, none, none, none] [vL m11] := by
      intro m11 em11
      subst em11
      have h := h.2
      refine gBk (pe := 160) hO [o0 (.lstore 5), o0 (.goto 57)] (by decide +kernel) (And.intro (Nat.le_of_ble_eq_true rfl) (show tWG K B 0 0 S I J 160 [none, none, none, none, none, some (vL (if (lg_cmp w3 0) = 0 then 0 else (w1 / w3))), none] [] from ?_))
      exact W0_joined_160 hO hR hG hQ h
    have h := h.1
    refine gIfNe hO (off := 7) (tgt := 98) (by decide +kernel) (by decide) (fun c12 => ?_) (fun c12 => ?_)
    · have h := h.1 c12
      refine gBk (pe := 101) hO [o0 (.lload_n 1), o0 (.lload_n 3), o0 .ldiv] (by decide +kernel) (And.intro h.1 (show tWG K B 0 0 S I J 101 [some (vI v0), some (vL w1), none, some (vL w3), none, none, none] [vL (w1 / w3)] from ?_))
      have h := h.2
      exact gWeak (L' := [none, none, none, none, none, none, none]) trivial (hj10 _ (Eq.symm (if_neg c12)))
    · have h := h.2 c12
      refine gBk (pe := 101) hO [oJ (.lconst 0) 0 0, o0 (.goto 6)] (by decide +kernel) (show tWG K B 0 0 S I J 101 [some (vI v0), some (vL w1), none, some (vL w3), none, none, none] [vL 0] from ?_)
      exact gWeak (L' := [none, none, none, none, none, none, none]) trivial (hj10 _ (Eq.symm (if_pos c12)))
  have h := h.2
  by_cases c13 : v0 = 6
  · have h := h.1 c13
    refine gSwIn hO (dflt := 126) (lo := 2) (hi := 8) (offs := #[42, 50, 58, 66, 84, 102, 114]) (len := 42) (off := 84) (tgt := 106) 6 c13 (by decide +kernel) (by decide +kernel) ?_
    refine gBk (pe := 109) hO [o0 (.lload_n 3), oJ (.lconst 0) 0 0, o0 .lcmp] (by decide +kernel) (show tWG K B 0 0 S I J 109 [some (vI v0), some (vL w1), none, some (vL w3), none, none, none] [vI (lg_cmp w3 0)] from ?_)
    have hj14 : ∀ (m15 : Int64), m15 = (if (lg_cmp w3 0) = 0 then 0 else (w1 - w1 / w3 * w3)) → tWG K B 0 0 S I J 119 [none, none, none, none, none, none, none] [vL m15] := by
      intro m15 em15
      subst em15
      have h := h.2
      refine gBk (pe := 160) hO [o0 (.lstore 5), o0 (.goto 39)] (by decide +kernel) (And.intro (Nat.le_of_ble_eq_true rfl) (show tWG K B 0 0 S I J 160 [none, none, none, none, none, some (vL (if (lg_cmp w3 0) = 0 then 0 else (w1 - w1 / w3 * w3))), none] [] from ?_))
      exact W0_joined_160 hO hR hG hQ h
    have h := h.1
    refine gIfNe hO (off := 7) (tgt := 116) (by decide +kernel) (by decide) (fun c16 => ?_) (fun c16 => ?_)
    · have h := h.1 c16
      refine gBk (pe := 119) hO [o0 (.lload_n 1), o0 (.lload_n 3), o0 .lrem] (by decide +kernel) (And.intro h.1 (show tWG K B 0 0 S I J 119 [some (vI v0), some (vL w1), none, some (vL w3), none, none, none] [vL (w1 - w1 / w3 * w3)] from ?_))
      have h := h.2
      exact gWeak (L' := [none, none, none, none, none, none, none]) trivial (hj14 _ (Eq.symm (if_neg c16)))
    · have h := h.2 c16
      refine gBk (pe := 119) hO [oJ (.lconst 0) 0 0, o0 (.goto 6)] (by decide +kernel) (show tWG K B 0 0 S I J 119 [some (vI v0), some (vL w1), none, some (vL w3), none, none, none] [vL 0] from ?_)
      exact gWeak (L' := [none, none, none, none, none, none, none]) trivial (hj14 _ (Eq.symm (if_pos c16)))
  have h := h.2
  by_cases c17 : v0 = 7
  · have h := h.1 c17
    refine gSwIn hO (dflt := 126) (lo := 2) (hi := 8) (offs := #[42, 50, 58, 66, 84, 102, 114]) (len := 42) (off := 102) (tgt := 124) 7 c17 (by decide +kernel) (by decide +kernel) ?_
    refine gBk (pe := 127) hO [o0 (.lload_n 1), o0 (.lload_n 3), o0 .lcmp] (by decide +kernel) (show tWG K B 0 0 S I J 127 [some (vI v0), some (vL w1), none, some (vL w3), none, none, none] [vI (lg_cmp w1 w3)] from ?_)
    have hj18 : ∀ (m19 : Int64), m19 = (if 0 ≤ (lg_cmp w1 w3) then (0 : Int64) else 1) → tWG K B 0 0 S I J 135 [none, none, none, none, none, none, none] [vL m19] := by
      intro m19 em19
      subst em19
      exact gLret hO hQ (by decide +kernel) ⟨rfl, h⟩
    refine gIfGe hO (off := 7) (tgt := 134) (by decide +kernel) (by decide) (fun c20 => ?_) (fun c20 => ?_)
    · refine gBk (pe := 135) hO [oJ (.lconst 0) 0 0] (by decide +kernel) (show tWG K B 0 0 S I J 135 [some (vI v0), some (vL w1), none, some (vL w3), none, none, none] [vL 0] from ?_)
      exact gWeak (L' := [none, none, none, none, none, none, none]) trivial (hj18 _ (Eq.symm (if_pos c20)))
    · refine gBk (pe := 135) hO [oJ (.lconst 1) 0 1, o0 (.goto 4)] (by decide +kernel) (show tWG K B 0 0 S I J 135 [some (vI v0), some (vL w1), none, some (vL w3), none, none, none] [vL 1] from ?_)
      exact gWeak (L' := [none, none, none, none, none, none, none]) trivial (hj18 _ (Eq.symm (if_neg c20)))
  have h := h.2
  by_cases c21 : v0 = 8
  · have h := h.1 c21
    refine gSwIn hO (dflt := 126) (lo := 2) (hi := 8) (offs := #[42, 50, 58, 66, 84, 102, 114]) (len := 42) (off := 114) (tgt := 136) 8 c21 (by decide +kernel) (by decide +kernel) ?_
    refine gBk (pe := 139) hO [o0 (.lload_n 1), o0 (.lload_n 3), o0 .lcmp] (by decide +kernel) (show tWG K B 0 0 S I J 139 [some (vI v0), some (vL w1), none, some (vL w3), none, none, none] [vI (lg_cmp w1 w3)] from ?_)
    have hj22 : ∀ (m23 : Int64), m23 = (if (lg_cmp w1 w3) ≤ 0 then (0 : Int64) else 1) → tWG K B 0 0 S I J 147 [none, none, none, none, none, none, none] [vL m23] := by
      intro m23 em23
      subst em23
      exact gLret hO hQ (by decide +kernel) ⟨rfl, h⟩
    refine gIfLe hO (off := 7) (tgt := 146) (by decide +kernel) (by decide) (fun c24 => ?_) (fun c24 => ?_)
    · refine gBk (pe := 147) hO [oJ (.lconst 0) 0 0] (by decide +kernel) (show tWG K B 0 0 S I J 147 [some (vI v0), some (vL w1), none, some (vL w3), none, none, none] [vL 0] from ?_)
      exact gWeak (L' := [none, none, none, none, none, none, none]) trivial (hj22 _ (Eq.symm (if_pos c24)))
    · refine gBk (pe := 147) hO [oJ (.lconst 1) 0 1, o0 (.goto 4)] (by decide +kernel) (show tWG K B 0 0 S I J 147 [some (vI v0), some (vL w1), none, some (vL w3), none, none, none] [vL 1] from ?_)
      exact gWeak (L' := [none, none, none, none, none, none, none]) trivial (hj22 _ (Eq.symm (if_neg c24)))
  have h := h.2
  have hsw : swN 2 v0 7 := ⟨⟨⟨⟨⟨⟨⟨True.intro, c2⟩, c7⟩, c8⟩, c9⟩, c13⟩, c17⟩, c21⟩
  have h := h hsw
  refine gSwOut hO (dflt := 126) (lo := 2) (hi := 8) (offs := #[42, 50, 58, 66, 84, 102, 114]) (len := 42) (tgt := 148) (by decide +kernel) (sw_out (by decide) (by decide) hsw) (by decide) ?_
  refine gBk (pe := 151) hO [o0 (.lload_n 1), o0 (.lload_n 3), o0 .lcmp] (by decide +kernel) (show tWG K B 0 0 S I J 151 [some (vI v0), some (vL w1), none, some (vL w3), none, none, none] [vI (lg_cmp w1 w3)] from ?_)
  have hj25 : ∀ (m26 : Int64), m26 = (if (lg_cmp w1 w3) = 0 then (1 : Int64) else 0) → tWG K B 0 0 S I J 159 [none, none, none, none, none, none, none] [vL m26] := by
    intro m26 em26
    subst em26
    exact gLret hO hQ (by decide +kernel) ⟨rfl, h⟩
  refine gIfNe hO (off := 7) (tgt := 158) (by decide +kernel) (by decide) (fun c27 => ?_) (fun c27 => ?_)
  · refine gBk (pe := 159) hO [oJ (.lconst 0) 0 0] (by decide +kernel) (show tWG K B 0 0 S I J 159 [some (vI v0), some (vL w1), none, some (vL w3), none, none, none] [vL 0] from ?_)
    exact gWeak (L' := [none, none, none, none, none, none, none]) trivial (hj25 _ (Eq.symm (if_neg c27)))
  · refine gBk (pe := 159) hO [oJ (.lconst 1) 0 1, o0 (.goto 4)] (by decide +kernel) (show tWG K B 0 0 S I J 159 [some (vI v0), some (vL w1), none, some (vL w3), none, none, none] [vL 1] from ?_)
    exact gWeak (L' := [none, none, none, none, none, none, none]) trivial (hj25 _ (Eq.symm (if_pos c27)))
set_option maxRecDepth 100000 in
theorem W0_joined_17 {K : tK} {B : tB} {S : tSH} {MC MS : Nat} (hO : tKO K B RX0 cX0_joined 7) (hR : kR K = tRm 2 MC MS) (hG : tGr S) {n : Nat} {k : Int64 → tHI → tHJ → Prop} (hQ : tRet K B (tQl B (tPl S k)) 0 0 (some .long)) {I : tHI} {J : tHJ} (h : F0_joined_17 n S k I J) : tWG K B 0 0 S I J 17 [none, none, none, none, none, none, none] [] := by
  refine gBk (pe := 20) hO [(.ldc2_w 41, (0, 0, 302, 0), 0, 2000000000)] (by decide +kernel) (show tWG K B 0 0 S I J 20 [none, none, none, none, none, none, none] [vL 2000000000] from ?_)
  exact gLret hO hQ (by decide +kernel) ⟨rfl, h⟩
set_option maxRecDepth 20000 in
theorem hc0_joined : tCm yX0_joined cX0_joined 7 (some .long) 3 ∧ Cond.static yX0_joined ∈ wsL_law := ⟨⟨(List.mem_of_getElem? (i := 305) rfl), (List.mem_of_getElem? (i := 33) (by decide +kernel)), by decide +kernel⟩, (List.mem_of_getElem? (i := 304) (by decide +kernel))⟩
set_option maxRecDepth 100000 in
theorem M0_joined {l : Launch} {B : tB} {S : tSH} {I : tHI} {J : tHJ} {v0 : Int32} {w1 : Int64} {w3 : Int64} {n : Nat} {k : Int64 → tHI → tHJ → Prop} (h : F0_joined n S I J v0 w1 w3 k) : Met l yX0_joined (tWs yX0_joined cX0_joined 7 (some .long)) (tRm 2 0 0) (tPc B [vI v0, vL w1, vL w3] S I J) (tQl B (tPl S k)) 0 0 (tA B) :=
  tEntry (by decide +kernel) [some (vI v0), some (vL w1), none, some (vL w3), none, none, none] rfl rfl (Nat.le_of_ble_eq_true rfl) (fun K hl hR hO hQ hG => by
  subst hl
  refine gBk (pe := 3) hO [o0 (.lload_n 3), oJ (.lconst 0) 0 0, o0 .lcmp] (by decide +kernel) (show tWG K B 0 0 S I J 3 [some (vI v0), some (vL w1), none, some (vL w3), none, none, none] [vI (lg_cmp w3 0)] from ?_)
  refine gIfNe hO (off := 18) (tgt := 21) (by decide +kernel) (by decide) (fun c1 => ?_) (fun c1 => ?_)
  · have h := h.1 c1
    exact W0_joined_21 hO hR hG hQ h
  · have h := h.2 c1
    refine gBk (pe := 8) hO [o0 (.iload_n 0), oI (.iconst 5) 5] (by decide +kernel) (show tWG K B 0 0 S I J 8 [some (vI v0), some (vL w1), none, some (vL w3), none, none, none] [vI 5, vI v0] from ?_)
    refine gIcEq hO (off := 9) (tgt := 17) (by decide +kernel) (by decide) (fun c28 => ?_) (fun c28 => ?_)
    · have h := h.1 c28
      exact gWeak (L' := [none, none, none, none, none, none, none]) trivial (W0_joined_17 hO hR hG hQ h)
    · have h := h.2 c28
      refine gBk (pe := 14) hO [o0 (.iload_n 0), oI (.bipush 6) 6] (by decide +kernel) (show tWG K B 0 0 S I J 14 [some (vI v0), some (vL w1), none, some (vL w3), none, none, none] [vI 6, vI v0] from ?_)
      refine gIcNe hO (off := 7) (tgt := 21) (by decide +kernel) (by decide) (fun c29 => ?_) (fun c29 => ?_)
      · have h := h.1 c29
        exact W0_joined_21 hO hR hG hQ h
      · have h := h.2 c29
        exact gWeak (L' := [none, none, none, none, none, none, none]) trivial (W0_joined_17 hO hR hG hQ h))
set_option maxRecDepth 20000 in
theorem hc1_copyFrom : tCV yX1_copyFrom cX1_copyFrom 2 none 1 := ⟨⟨(List.mem_of_getElem? (i := 917) rfl), (List.mem_of_getElem? (i := 20) (by decide +kernel)), by decide +kernel⟩, (List.mem_of_getElem? (i := 915) (by decide +kernel)), (List.mem_of_getElem? (i := 916) (by decide +kernel))⟩
set_option maxRecDepth 100000 in
theorem M1_copyFrom {l : Launch} {B : tB} {S : tSH} {I : tHI} {J : tHJ} {a : Nat} {a1 : Nat} {n : Nat} {k : tHI → tHJ → Prop} (t0 : ty S a 1) (t1 : ty S a1 1) (h : F1_copyFrom n S I J a a1 k) : Met l yX1_copyFrom (tWs yX1_copyFrom cX1_copyFrom 2 none) (tRm 2 0 0) (tPc B [vR a, vR a1] S I J) (tQv B (tPv S k)) 0 0 (tA B) :=
  tEntry (by decide +kernel) [some (vR a), some (vR a1)] rfl rfl (Nat.le_of_ble_eq_true rfl) (fun K hl hR hO hQ hG => by
  subst hl
  refine gBk (pe := 23) hO [o0 (.aload_n 0), o0 (.aload_n 1), oF (.getfield 15) 1 1 109 0, oF (.putfield 15) 1 1 109 0, o0 (.aload_n 1), oF (.getfield 11) 1 0 108 0, oI (.iconst 0) 0, o0 (.aload_n 0), oF (.getfield 11) 1 0 108 0, oI (.iconst 0) 0, o0 (.aload_n 0), oF (.getfield 11) 1 0 108 0, oF .arraylength 40 0 0 0] (by decide +kernel) (And.intro t1 (And.intro t0 (And.intro t1 (And.intro t0 (And.intro t0 (And.intro (tGr.off hG t0 (k := 0) rfl) (show tWG K B 0 0 S (uI I a 1 (I a1 1)) J 23 [some (vR a), some (vR a1)] [vI (Int32.ofNat (sL S (a + 1))), vI 0, vR (a + 1), vI 0, vR (a1 + 1)] from ?_)))))))
  refine gCopy hO (tGr.off hG t1 (k := 0) rfl) (tGr.off hG t0 (k := 0) rfl) (tcpr (tGr.len hG t1 (k := 0) rfl (by decide)) (tGr.len hG t0 (k := 0) rfl (by decide)) h.1) (idx := 19) (w := 918) (by decide +kernel) hR (by omega) (Nat.le_of_ble_eq_true rfl) rfl (by decide +kernel) (show tWG K B 0 0 S (cpI (uI I a 1 (I a1 1)) (a1 + 1) 0 (a + 1) 0 (Int32.ofNat (sL S (a + 1))).toNatClampNeg) J 26 [some (vR a), some (vR a1)] [] from ?_)
  have h := h.2
  exact gVret hO hQ (by decide +kernel) ⟨rfl, h⟩)
set_option maxRecDepth 100000 in
theorem W2_weigh_124 {K : tK} {B : tB} {S : tSH} {MC MS : Nat} (hO : tKO K B RX2 cX2_weigh 7) (hR : kR K = tRm 2 MC MS) (hG : tGr S) {n : Nat} (t0 : ty S 48 2) {k : tHI → tHJ → Prop} (hQ : tRet K B (tQv B (tPv S k)) 0 0 none) {I : tHI} {J : tHJ} {v3 : Int32} {v4 : Int32} {v5 : Int32} (h : F2_weigh_124 n S k I J v3 v4 v5) : tWG K B 0 0 S I J 124 [some (vR 48), none, none, some (vI v3), some (vI v4), some (vI v5), none] [] := by
  refine gBk (pe := 147) hO [o0 (.aload_n 0), oF (.getfield 11) 2 0 153 49, oI (.iconst 3) 3, o0 (.iload_n 3), o0 .iastore, o0 (.aload_n 0), oF (.getfield 11) 2 0 153 49, oI (.iconst 4) 4, o0 (.iload 4), o0 .iastore, o0 (.aload_n 0), oF (.getfield 11) 2 0 153 49, oI (.iconst 5) 5, o0 (.iload 5), o0 .iastore] (by decide +kernel) (And.intro t0 (And.intro rfl (And.intro (tGr.off hG t0 (k := 0) rfl) (And.intro (tin (tGr.len hG t0 (k := 0) rfl (by decide)) (tvi (by decide +kernel))) (And.intro t0 (And.intro rfl (And.intro (tGr.off hG t0 (k := 0) rfl) (And.intro (tin (tGr.len hG t0 (k := 0) rfl (by decide)) (tvi (by decide +kernel))) (And.intro t0 (And.intro rfl (And.intro (tGr.off hG t0 (k := 0) rfl) (And.intro (tin (tGr.len hG t0 (k := 0) rfl (by decide)) (tvi (by decide +kernel))) (show tWG K B 0 0 S (uI (uI (uI I 49 3 v3) 49 4 v4) 49 5 v5) J 147 [some (vR 48), none, none, some (vI v3), some (vI v4), some (vI v5), none] [] from ?_)))))))))))))
  exact gVret hO hQ (by decide +kernel) ⟨rfl, h⟩
set_option maxRecDepth 100000 in
theorem W2_weigh_19 {K : tK} {B : tB} {S : tSH} {MC MS : Nat} (hO : tKO K B RX2 cX2_weigh 7) (hR : kR K = tRm 2 MC MS) (hG : tGr S) {n : Nat} (t0 : ty S 48 2) {k : tHI → tHJ → Prop} (hQ : tRet K B (tQv B (tPv S k)) 0 0 none) {kb19 : tHI → tHJ → Int32 → Int32 → Int32 → Int32 → Int32 → Prop} (hkb19 : ∀ (I : tHI) (J : tHJ) (v1 : Int32) (v3 : Int32) (v4 : Int32) (v5 : Int32) (v6 : Int32), kb19 I J v1 v3 v4 v5 v6 → tWG K B 0 0 S I J 19 [some (vR 48), some (vI v1), some (vR 2), some (vI v3), some (vI v4), some (vI v5), some (vI v6)] []) {I : tHI} {J : tHJ} {v1 : Int32} {v3 : Int32} {v4 : Int32} {v5 : Int32} {v6 : Int32} (h : F2_weigh_19 n S k kb19 I J v1 v3 v4 v5 v6) : tWG K B 0 0 S I J 19 [some (vR 48), some (vI v1), some (vR 2), some (vI v3), some (vI v4), some (vI v5), some (vI v6)] [] := by
  refine gBk (pe := 25) hO [o0 (.iload 6), o0 (.aload_n 2), oF (.getfield 58) 3 0 268 0] (by decide +kernel) (And.intro (tGr.off hG (tGr.abs hG t0 (k := 2) rfl) (k := 0) rfl) (show tWG K B 0 0 S I J 25 [some (vR 48), some (vI v1), some (vR 2), some (vI v3), some (vI v4), some (vI v5), some (vI v6)] [vI (I 2 0), vI v6] from ?_))
  refine gIcGe hO (off := 99) (tgt := 124) (by decide +kernel) (by decide) (fun c1 => ?_) (fun c1 => ?_)
  · have h := h.1 c1
    exact gWeak (L' := [some (vR 48), none, none, some (vI v3), some (vI v4), some (vI v5), none]) ⟨rfl, rfl, rfl, rfl, trivial⟩ (W2_weigh_124 hO hR hG t0 hQ h)
  · have h := h.2 c1
    refine gBk (pe := 32) hO [o0 (.iload 6), oI (.bipush 6) 6] (by decide +kernel) (show tWG K B 0 0 S I J 32 [some (vR 48), some (vI v1), some (vR 2), some (vI v3), some (vI v4), some (vI v5), some (vI v6)] [vI 6, vI v6] from ?_)
    refine gIcGe hO (off := 92) (tgt := 124) (by decide +kernel) (by decide) (fun c2 => ?_) (fun c2 => ?_)
    · have h := h.1 c2
      exact gWeak (L' := [some (vR 48), none, none, some (vI v3), some (vI v4), some (vI v5), none]) ⟨rfl, rfl, rfl, rfl, trivial⟩ (W2_weigh_124 hO hR hG t0 hQ h)
    · have h := h.2 c2
      refine gBk (pe := 41) hO [o0 (.iload_n 1), o0 (.iload 6), o0 .ishr, oI (.iconst 1) 1, o0 .iand] (by decide +kernel) (show tWG K B 0 0 S I J 41 [some (vR 48), some (vI v1), some (vR 2), some (vI v3), some (vI v4), some (vI v5), some (vI v6)] [vI ((v1 >>> (v6 &&& 31)) &&& 1)] from ?_)
      have hj3 : ∀ (m4 : Int32) (m5 : Int32) (m6 : Int32), m4 = (if ((v1 >>> (v6 &&& 31)) &&& 1) = 0 then v3 else (if (I 4 v6.toNatClampNeg) < 2 then v3 else (v3 + (I 3 v6.toNatClampNeg)))) → m5 = (if ((v1 >>> (v6 &&& 31)) &&& 1) = 0 then v4 else (if (I 4 v6.toNatClampNeg) < 2 then (v4 + (I 3 v6.toNatClampNeg)) else v4)) → m6 = (if ((v1 >>> (v6 &&& 31)) &&& 1) = 0 then v5 else (if (I 5 v6.toNatClampNeg) = 1 then (v5 + ((I 6 v6.toNatClampNeg) * (I 3 v6.toNatClampNeg))) else (v5 + 0))) → tWG K B 0 0 S I J 118 [some (vR 48), some (vI v1), some (vR 2), some (vI m4), some (vI m5), some (vI m6), some (vI v6)] [] := by
        intro m4 m5 m6 em4 em5 em6
        subst em4
        subst em5
        subst em6
        have h := h.2
        refine gBk (pe := 19) hO [oI (.iinc 6 1) 1, o0 (.goto (-102))] (by decide +kernel) (show tWG K B 0 0 S I J 19 [some (vR 48), some (vI v1), some (vR 2), some (vI (if ((v1 >>> (v6 &&& 31)) &&& 1) = 0 then v3 else (if (I 4 v6.toNatClampNeg) < 2 then v3 else (v3 + (I 3 v6.toNatClampNeg))))), some (vI (if ((v1 >>> (v6 &&& 31)) &&& 1) = 0 then v4 else (if (I 4 v6.toNatClampNeg) < 2 then (v4 + (I 3 v6.toNatClampNeg)) else v4))), some (vI (if ((v1 >>> (v6 &&& 31)) &&& 1) = 0 then v5 else (if (I 5 v6.toNatClampNeg) = 1 then (v5 + ((I 6 v6.toNatClampNeg) * (I 3 v6.toNatClampNeg))) else (v5 + 0)))), some (vI (v6 + 1))] [] from ?_)
        exact hkb19 _ _ _ _ _ _ _ h
      have h := h.1
      refine gIfNe hO (off := 6) (tgt := 47) (by decide +kernel) (by decide) (fun c7 => ?_) (fun c7 => ?_)
      · have h := h.1 c7
        refine gBk (pe := 55) hO [o0 (.aload_n 2), oF (.getfield 63) 3 2 269 4, o0 (.iload 6), o0 .iaload, oI (.iconst 2) 2] (by decide +kernel) (And.intro (tGr.off hG (tGr.abs hG t0 (k := 2) rfl) (k := 0) rfl) (And.intro rfl (And.intro (tGr.off hG (tGr.off hG (tGr.abs hG t0 (k := 2) rfl) (k := 0) rfl) (k := 2) rfl) (And.intro (tin (tGr.len hG (tGr.off hG (tGr.abs hG t0 (k := 2) rfl) (k := 0) rfl) (k := 2) rfl (by decide)) h.1) (show tWG K B 0 0 S I J 55 [some (vR 48), some (vI v1), some (vR 2), some (vI v3), some (vI v4), some (vI v5), some (vI v6)] [vI 2, vI (I 4 v6.toNatClampNeg)] from ?_)))))
        have h := h.2
        refine gIcLt hO (off := 16) (tgt := 71) (by decide +kernel) (by decide) (fun c8 => ?_) (fun c8 => ?_)
        · have h := h.1 c8
          refine gBk (pe := 93) hO [o0 (.iload 4), o0 (.aload_n 2), oF (.getfield 66) 3 1 270 3, o0 (.iload 6), o0 .iaload, o0 .iadd, o0 (.istore 4), o0 (.iload 5), o0 (.aload_n 2), oF (.getfield 69) 3 3 271 5, o0 (.iload 6), o0 .iaload, oI (.iconst 1) 1] (by decide +kernel) (And.intro (tGr.off hG (tGr.abs hG t0 (k := 2) rfl) (k := 0) rfl) (And.intro rfl (And.intro (tGr.off hG (tGr.off hG (tGr.abs hG t0 (k := 2) rfl) (k := 0) rfl) (k := 1) rfl) (And.intro (tin (tGr.len hG (tGr.off hG (tGr.abs hG t0 (k := 2) rfl) (k := 0) rfl) (k := 1) rfl (by decide)) h.1) (And.intro (Nat.le_of_ble_eq_true rfl) (And.intro (tGr.off hG (tGr.abs hG t0 (k := 2) rfl) (k := 0) rfl) (And.intro rfl (And.intro (tGr.off hG (tGr.off hG (tGr.abs hG t0 (k := 2) rfl) (k := 0) rfl) (k := 3) rfl) (And.intro (tin (tGr.len hG (tGr.off hG (tGr.abs hG t0 (k := 2) rfl) (k := 0) rfl) (k := 3) rfl (by decide)) h.2.1) (show tWG K B 0 0 S I J 93 [some (vR 48), some (vI v1), some (vR 2), some (vI v3), some (vI (v4 + (I 3 v6.toNatClampNeg))), some (vI v5), some (vI v6)] [vI 1, vI (I 5 v6.toNatClampNeg), vI v5] from ?_))))))))))
          have h := h.2.2
          refine gIcNe hO (off := 21) (tgt := 114) (by decide +kernel) (by decide) (fun c9 => ?_) (fun c9 => ?_)
          · have h := h.1 c9
            refine gBk (pe := 118) hO [oI (.iconst 0) 0, o0 .iadd, o0 (.istore 5)] (by decide +kernel) (And.intro (Nat.le_of_ble_eq_true rfl) (show tWG K B 0 0 S I J 118 [some (vR 48), some (vI v1), some (vR 2), some (vI v3), some (vI (v4 + (I 3 v6.toNatClampNeg))), some (vI (v5 + 0)), some (vI v6)] [] from ?_))
            exact (hj3 _ _ _ (Eq.symm ((if_neg c7).trans (if_pos c8))) (Eq.symm ((if_neg c7).trans (if_pos c8))) (Eq.symm ((if_neg c7).trans (if_neg c9))))
          · have h := h.2 c9
            refine gBk (pe := 118) hO [o0 (.aload_n 2), oF (.getfield 72) 3 4 272 6, o0 (.iload 6), o0 .iaload, o0 (.aload_n 2), oF (.getfield 66) 3 1 270 3, o0 (.iload 6), o0 .iaload, o0 .imul, o0 (.goto 4), o0 .iadd, o0 (.istore 5)] (by decide +kernel) (And.intro (tGr.off hG (tGr.abs hG t0 (k := 2) rfl) (k := 0) rfl) (And.intro rfl (And.intro (tGr.off hG (tGr.off hG (tGr.abs hG t0 (k := 2) rfl) (k := 0) rfl) (k := 4) rfl) (And.intro (tin (tGr.len hG (tGr.off hG (tGr.abs hG t0 (k := 2) rfl) (k := 0) rfl) (k := 4) rfl (by decide)) h.1) (And.intro (tGr.off hG (tGr.abs hG t0 (k := 2) rfl) (k := 0) rfl) (And.intro rfl (And.intro (tGr.off hG (tGr.off hG (tGr.abs hG t0 (k := 2) rfl) (k := 0) rfl) (k := 1) rfl) (And.intro (tin (tGr.len hG (tGr.off hG (tGr.abs hG t0 (k := 2) rfl) (k := 0) rfl) (k := 1) rfl (by decide)) h.2.1) (And.intro (Nat.le_of_ble_eq_true rfl) (show tWG K B 0 0 S I J 118 [some (vR 48), some (vI v1), some (vR 2), some (vI v3), some (vI (v4 + (I 3 v6.toNatClampNeg))), some (vI (v5 + ((I 6 v6.toNatClampNeg) * (I 3 v6.toNatClampNeg)))), some (vI v6)] [] from ?_))))))))))
            have h := h.2.2
            exact (hj3 _ _ _ (Eq.symm ((if_neg c7).trans (if_pos c8))) (Eq.symm ((if_neg c7).trans (if_pos c8))) (Eq.symm ((if_neg c7).trans (if_pos c9))))
        · have h := h.2 c8
          refine gBk (pe := 93) hO [o0 (.iload_n 3), o0 (.aload_n 2), oF (.getfield 66) 3 1 270 3, o0 (.iload 6), o0 .iaload, o0 .iadd, o0 (.istore_n 3), o0 (.goto 15), o0 (.iload 5), o0 (.aload_n 2), oF (.getfield 69) 3 3 271 5, o0 (.iload 6), o0 .iaload, oI (.iconst 1) 1] (by decide +kernel) (And.intro (tGr.off hG (tGr.abs hG t0 (k := 2) rfl) (k := 0) rfl) (And.intro rfl (And.intro (tGr.off hG (tGr.off hG (tGr.abs hG t0 (k := 2) rfl) (k := 0) rfl) (k := 1) rfl) (And.intro (tin (tGr.len hG (tGr.off hG (tGr.abs hG t0 (k := 2) rfl) (k := 0) rfl) (k := 1) rfl (by decide)) h.1) (And.intro (Nat.le_of_ble_eq_true rfl) (And.intro (tGr.off hG (tGr.abs hG t0 (k := 2) rfl) (k := 0) rfl) (And.intro rfl (And.intro (tGr.off hG (tGr.off hG (tGr.abs hG t0 (k := 2) rfl) (k := 0) rfl) (k := 3) rfl) (And.intro (tin (tGr.len hG (tGr.off hG (tGr.abs hG t0 (k := 2) rfl) (k := 0) rfl) (k := 3) rfl (by decide)) h.2.1) (show tWG K B 0 0 S I J 93 [some (vR 48), some (vI v1), some (vR 2), some (vI (v3 + (I 3 v6.toNatClampNeg))), some (vI v4), some (vI v5), some (vI v6)] [vI 1, vI (I 5 v6.toNatClampNeg), vI v5] from ?_))))))))))
          have h := h.2.2
          refine gIcNe hO (off := 21) (tgt := 114) (by decide +kernel) (by decide) (fun c10 => ?_) (fun c10 => ?_)
          · have h := h.1 c10
            refine gBk (pe := 118) hO [oI (.iconst 0) 0, o0 .iadd, o0 (.istore 5)] (by decide +kernel) (And.intro (Nat.le_of_ble_eq_true rfl) (show tWG K B 0 0 S I J 118 [some (vR 48), some (vI v1), some (vR 2), some (vI (v3 + (I 3 v6.toNatClampNeg))), some (vI v4), some (vI (v5 + 0)), some (vI v6)] [] from ?_))
            exact (hj3 _ _ _ (Eq.symm ((if_neg c7).trans (if_neg c8))) (Eq.symm ((if_neg c7).trans (if_neg c8))) (Eq.symm ((if_neg c7).trans (if_neg c10))))
          · have h := h.2 c10
            refine gBk (pe := 118) hO [o0 (.aload_n 2), oF (.getfield 72) 3 4 272 6, o0 (.iload 6), o0 .iaload, o0 (.aload_n 2), oF (.getfield 66) 3 1 270 3, o0 (.iload 6), o0 .iaload, o0 .imul, o0 (.goto 4), o0 .iadd, o0 (.istore 5)] (by decide +kernel) (And.intro (tGr.off hG (tGr.abs hG t0 (k := 2) rfl) (k := 0) rfl) (And.intro rfl (And.intro (tGr.off hG (tGr.off hG (tGr.abs hG t0 (k := 2) rfl) (k := 0) rfl) (k := 4) rfl) (And.intro (tin (tGr.len hG (tGr.off hG (tGr.abs hG t0 (k := 2) rfl) (k := 0) rfl) (k := 4) rfl (by decide)) h.1) (And.intro (tGr.off hG (tGr.abs hG t0 (k := 2) rfl) (k := 0) rfl) (And.intro rfl (And.intro (tGr.off hG (tGr.off hG (tGr.abs hG t0 (k := 2) rfl) (k := 0) rfl) (k := 1) rfl) (And.intro (tin (tGr.len hG (tGr.off hG (tGr.abs hG t0 (k := 2) rfl) (k := 0) rfl) (k := 1) rfl (by decide)) h.2.1) (And.intro (Nat.le_of_ble_eq_true rfl) (show tWG K B 0 0 S I J 118 [some (vR 48), some (vI v1), some (vR 2), some (vI (v3 + (I 3 v6.toNatClampNeg))), some (vI v4), some (vI (v5 + ((I 6 v6.toNatClampNeg) * (I 3 v6.toNatClampNeg)))), some (vI v6)] [] from ?_))))))))))
            have h := h.2.2
            exact (hj3 _ _ _ (Eq.symm ((if_neg c7).trans (if_neg c8))) (Eq.symm ((if_neg c7).trans (if_neg c8))) (Eq.symm ((if_neg c7).trans (if_pos c10))))
      · have h := h.2 c7
        refine gBk (pe := 118) hO [o0 (.goto 74)] (by decide +kernel) (show tWG K B 0 0 S I J 118 [some (vR 48), some (vI v1), some (vR 2), some (vI v3), some (vI v4), some (vI v5), some (vI v6)] [] from ?_)
        exact (hj3 _ _ _ (Eq.symm (if_pos c7)) (Eq.symm (if_pos c7)) (Eq.symm (if_pos c7)))
theorem W2_weigh_L19 {K : tK} {B : tB} {S : tSH} {MC MS : Nat} (hO : tKO K B RX2 cX2_weigh 7) (hR : kR K = tRm 2 MC MS) (hG : tGr S) {n : Nat} (t0 : ty S 48 2) {k : tHI → tHJ → Prop} (hQ : tRet K B (tQv B (tPv S k)) 0 0 none) : ∀ (f : Nat) (I : tHI) (J : tHJ) (v1 : Int32) (v3 : Int32) (v4 : Int32) (v5 : Int32) (v6 : Int32), F2_weigh_L19 n S k f I J v1 v3 v4 v5 v6 → tWG K B 0 0 S I J 19 [some (vR 48), some (vI v1), some (vR 2), some (vI v3), some (vI v4), some (vI v5), some (vI v6)] [] := by
  intro f
  induction f with
  | zero => intro I J v1 v3 v4 v5 v6 h; exact h.elim
  | succ f ih => intro I J v1 v3 v4 v5 v6 h; exact W2_weigh_19 hO hR hG t0 hQ ih h
set_option maxRecDepth 20000 in
theorem hc2_weigh : tCV yX2_weigh cX2_weigh 7 none 1 := ⟨⟨(List.mem_of_getElem? (i := 266) rfl), (List.mem_of_getElem? (i := 37) (by decide +kernel)), by decide +kernel⟩, (List.mem_of_getElem? (i := 264) (by decide +kernel)), (List.mem_of_getElem? (i := 265) (by decide +kernel))⟩
set_option maxRecDepth 100000 in
theorem M2_weigh {l : Launch} {B : tB} {S : tSH} {I : tHI} {J : tHJ} {v1 : Int32} {n : Nat} {k : tHI → tHJ → Prop} (t0 : ty S 48 2) (h : F2_weigh n S I J v1 k) : Met l yX2_weigh (tWs yX2_weigh cX2_weigh 7 none) (tRm 2 0 0) (tPc B [vR 48, vI v1] S I J) (tQv B (tPv S k)) 0 0 (tA B) :=
  tEntry (by decide +kernel) [some (vR 48), some (vI v1), none, none, none, none, none] rfl rfl (Nat.le_of_ble_eq_true rfl) (fun K hl hR hO hQ hG => by
  subst hl
  refine gBk (pe := 19) hO [o0 (.aload_n 0), oF (.getfield 18) 2 2 155 1, oF (.getfield 54) 8 0 267 2, o0 (.astore_n 2), oI (.iconst 0) 0, o0 (.istore_n 3), oI (.iconst 0) 0, o0 (.istore 4), oI (.iconst 0) 0, o0 (.istore 5), oI (.iconst 0) 0, o0 (.istore 6)] (by decide +kernel) (And.intro t0 (And.intro rfl (And.intro (tGr.abs hG t0 (k := 2) rfl) (And.intro rfl (And.intro (Nat.le_of_ble_eq_true rfl) (And.intro (Nat.le_of_ble_eq_true rfl) (And.intro (Nat.le_of_ble_eq_true rfl) (And.intro (Nat.le_of_ble_eq_true rfl) (And.intro (Nat.le_of_ble_eq_true rfl) (show tWG K B 0 0 S I J 19 [some (vR 48), some (vI v1), some (vR 2), some (vI 0), some (vI 0), some (vI 0), some (vI 0)] [] from ?_))))))))))
  exact W2_weigh_L19 hO hR hG t0 hQ n _ _ _ _ _ _ _ h)
set_option maxRecDepth 20000 in
theorem hc2_nearest : tCm yX2_nearest cX2_nearest 7 (some .int) 2 ∧ Cond.static yX2_nearest ∈ wsL_law := ⟨⟨(List.mem_of_getElem? (i := 459) rfl), (List.mem_of_getElem? (i := 37) (by decide +kernel)), by decide +kernel⟩, (List.mem_of_getElem? (i := 458) (by decide +kernel))⟩
set_option maxRecDepth 100000 in
theorem M2_nearest {l : Launch} {B : tB} {S : tSH} {I : tHI} {J : tHJ} {v0 : Int32} {w1 : Int64} : Met l yX2_nearest (tWs yX2_nearest cX2_nearest 7 (some .int)) (tRm 2 0 0) (tPc B [vI v0, vL w1] S I J) (tQi B (tPp S I J (V2_nearest v0 w1))) 0 0 (tA B) :=
  tEntry (by decide +kernel) [some (vI v0), some (vL w1), none, none, none, none, none] rfl rfl (Nat.le_of_ble_eq_true rfl) (fun K hl hR hO hQ hG => by
  subst hl
  refine gBk (pe := 2) hO [o0 (.iload_n 0), oI (.iconst 3) 3] (by decide +kernel) (show tWG K B 0 0 S I J 2 [some (vI v0), some (vL w1), none, none, none, none, none] [vI 3, vI v0] from ?_)
  refine gIcNe hO (off := 9) (tgt := 11) (by decide +kernel) (by decide) (fun c1 => ?_) (fun c1 => ?_)
  · refine gBk (pe := 15) hO [oJ (.lconst 0) 0 0, o0 (.lstore_n 3), o0 (.iload_n 0), oI (.iconst 2) 2] (by decide +kernel) (And.intro (Nat.le_of_ble_eq_true rfl) (show tWG K B 0 0 S I J 15 [some (vI v0), some (vL w1), none, some (vL 0), none, none, none] [vI 2, vI v0] from ?_))
    refine gIcNe hO (off := 9) (tgt := 24) (by decide +kernel) (by decide) (fun c2 => ?_) (fun c2 => ?_)
    · refine gBk (pe := 26) hO [o0 (.iload_n 0), oI (.iconst 3) 3] (by decide +kernel) (show tWG K B 0 0 S I J 26 [some (vI v0), some (vL w1), none, some (vL 0), none, none, none] [vI 3, vI v0] from ?_)
      refine gIcNe hO (off := 9) (tgt := 35) (by decide +kernel) (by decide) (fun c3 => ?_) (fun c3 => ?_)
      · refine gBk (pe := 37) hO [o0 (.iload_n 0), oI (.iconst 4) 4] (by decide +kernel) (show tWG K B 0 0 S I J 37 [some (vI v0), some (vL w1), none, some (vL 0), none, none, none] [vI 4, vI v0] from ?_)
        refine gIcNe hO (off := 9) (tgt := 46) (by decide +kernel) (by decide) (fun c4 => ?_) (fun c4 => ?_)
        · refine gBk (pe := 55) hO [(.ldc2_w 134, (0, 0, 464, 0), 0, 99999), o0 (.lstore 5), o0 (.lload_n 3), o0 (.lload 5), o0 (.lload_n 1)] (by decide +kernel) (And.intro (Nat.le_of_ble_eq_true rfl) (show tWG K B 0 0 S I J 55 [some (vI v0), some (vL w1), none, some (vL 0), none, some (vL 99999), none] [vL w1, vL 99999, vL 0] from ?_))
          refine gMinL hO (idx := 136) (w := 465) (by decide +kernel) hR (by omega) (st := [vL 0]) (Nat.le_of_ble_eq_true rfl) rfl (by decide +kernel) ?_
          refine gMaxL hO (idx := 142) (w := 468) (by decide +kernel) hR (by omega) (st := []) (Nat.le_of_ble_eq_true rfl) rfl (by decide +kernel) ?_
          refine gBk (pe := 62) hO [o0 .l2i] (by decide +kernel) (show tWG K B 0 0 S I J 62 [some (vI v0), some (vL w1), none, some (vL 0), none, some (vL 99999), none] [vI ((if (if w1 < 99999 then w1 else 99999) < 0 then 0 else (if w1 < 99999 then w1 else 99999)).toInt32)] from ?_)
          exact gIret hO hQ (by decide +kernel) ⟨(Eq.symm ((if_neg c1).trans ((if_neg c2).trans ((if_neg c3).trans (if_neg c4))))), rfl⟩
        · refine gBk (pe := 55) hO [(.ldc2_w 132, (0, 0, 463, 0), 0, 100), o0 (.goto 6), o0 (.lstore 5), o0 (.lload_n 3), o0 (.lload 5), o0 (.lload_n 1)] (by decide +kernel) (And.intro (Nat.le_of_ble_eq_true rfl) (show tWG K B 0 0 S I J 55 [some (vI v0), some (vL w1), none, some (vL 0), none, some (vL 100), none] [vL w1, vL 100, vL 0] from ?_))
          refine gMinL hO (idx := 136) (w := 465) (by decide +kernel) hR (by omega) (st := [vL 0]) (Nat.le_of_ble_eq_true rfl) rfl (by decide +kernel) ?_
          refine gMaxL hO (idx := 142) (w := 468) (by decide +kernel) hR (by omega) (st := []) (Nat.le_of_ble_eq_true rfl) rfl (by decide +kernel) ?_
          refine gBk (pe := 62) hO [o0 .l2i] (by decide +kernel) (show tWG K B 0 0 S I J 62 [some (vI v0), some (vL w1), none, some (vL 0), none, some (vL 100), none] [vI ((if (if w1 < 100 then w1 else 100) < 0 then 0 else (if w1 < 100 then w1 else 100)).toInt32)] from ?_)
          exact gIret hO hQ (by decide +kernel) ⟨(Eq.symm ((if_neg c1).trans ((if_neg c2).trans ((if_neg c3).trans (if_pos c4))))), rfl⟩
      · refine gBk (pe := 55) hO [(.ldc2_w 130, (0, 0, 462, 0), 0, 99), o0 (.goto 17), o0 (.lstore 5), o0 (.lload_n 3), o0 (.lload 5), o0 (.lload_n 1)] (by decide +kernel) (And.intro (Nat.le_of_ble_eq_true rfl) (show tWG K B 0 0 S I J 55 [some (vI v0), some (vL w1), none, some (vL 0), none, some (vL 99), none] [vL w1, vL 99, vL 0] from ?_))
        refine gMinL hO (idx := 136) (w := 465) (by decide +kernel) hR (by omega) (st := [vL 0]) (Nat.le_of_ble_eq_true rfl) rfl (by decide +kernel) ?_
        refine gMaxL hO (idx := 142) (w := 468) (by decide +kernel) hR (by omega) (st := []) (Nat.le_of_ble_eq_true rfl) rfl (by decide +kernel) ?_
        refine gBk (pe := 62) hO [o0 .l2i] (by decide +kernel) (show tWG K B 0 0 S I J 62 [some (vI v0), some (vL w1), none, some (vL 0), none, some (vL 99), none] [vI ((if (if w1 < 99 then w1 else 99) < 0 then 0 else (if w1 < 99 then w1 else 99)).toInt32)] from ?_)
        exact gIret hO hQ (by decide +kernel) ⟨(Eq.symm ((if_neg c1).trans ((if_neg c2).trans (if_pos c3)))), rfl⟩
    · refine gBk (pe := 55) hO [(.ldc2_w 128, (0, 0, 461, 0), 0, 60), o0 (.goto 28), o0 (.lstore 5), o0 (.lload_n 3), o0 (.lload 5), o0 (.lload_n 1)] (by decide +kernel) (And.intro (Nat.le_of_ble_eq_true rfl) (show tWG K B 0 0 S I J 55 [some (vI v0), some (vL w1), none, some (vL 0), none, some (vL 60), none] [vL w1, vL 60, vL 0] from ?_))
      refine gMinL hO (idx := 136) (w := 465) (by decide +kernel) hR (by omega) (st := [vL 0]) (Nat.le_of_ble_eq_true rfl) rfl (by decide +kernel) ?_
      refine gMaxL hO (idx := 142) (w := 468) (by decide +kernel) hR (by omega) (st := []) (Nat.le_of_ble_eq_true rfl) rfl (by decide +kernel) ?_
      refine gBk (pe := 62) hO [o0 .l2i] (by decide +kernel) (show tWG K B 0 0 S I J 62 [some (vI v0), some (vL w1), none, some (vL 0), none, some (vL 60), none] [vI ((if (if w1 < 60 then w1 else 60) < 0 then 0 else (if w1 < 60 then w1 else 60)).toInt32)] from ?_)
      exact gIret hO hQ (by decide +kernel) ⟨(Eq.symm ((if_neg c1).trans (if_pos c2))), rfl⟩
  · refine gBk (pe := 15) hO [(.ldc2_w 126, (0, 0, 460, 0), 0, (-99)), o0 (.goto 4), o0 (.lstore_n 3), o0 (.iload_n 0), oI (.iconst 2) 2] (by decide +kernel) (And.intro (Nat.le_of_ble_eq_true rfl) (show tWG K B 0 0 S I J 15 [some (vI v0), some (vL w1), none, some (vL (-99)), none, none, none] [vI 2, vI v0] from ?_))
    refine gIcNe hO (off := 9) (tgt := 24) (by decide +kernel) (by decide) (fun c5 => ?_) (fun c5 => ?_)
    · refine gBk (pe := 26) hO [o0 (.iload_n 0), oI (.iconst 3) 3] (by decide +kernel) (show tWG K B 0 0 S I J 26 [some (vI v0), some (vL w1), none, some (vL (-99)), none, none, none] [vI 3, vI v0] from ?_)
      refine gIcNe hO (off := 9) (tgt := 35) (by decide +kernel) (by decide) (fun c6 => ?_) (fun c6 => ?_)
      · refine gBk (pe := 37) hO [o0 (.iload_n 0), oI (.iconst 4) 4] (by decide +kernel) (show tWG K B 0 0 S I J 37 [some (vI v0), some (vL w1), none, some (vL (-99)), none, none, none] [vI 4, vI v0] from ?_)
        refine gIcNe hO (off := 9) (tgt := 46) (by decide +kernel) (by decide) (fun c7 => ?_) (fun c7 => ?_)
        · refine gBk (pe := 55) hO [(.ldc2_w 134, (0, 0, 464, 0), 0, 99999), o0 (.lstore 5), o0 (.lload_n 3), o0 (.lload 5), o0 (.lload_n 1)] (by decide +kernel) (And.intro (Nat.le_of_ble_eq_true rfl) (show tWG K B 0 0 S I J 55 [some (vI v0), some (vL w1), none, some (vL (-99)), none, some (vL 99999), none] [vL w1, vL 99999, vL (-99)] from ?_))
          refine gMinL hO (idx := 136) (w := 465) (by decide +kernel) hR (by omega) (st := [vL (-99)]) (Nat.le_of_ble_eq_true rfl) rfl (by decide +kernel) ?_
          refine gMaxL hO (idx := 142) (w := 468) (by decide +kernel) hR (by omega) (st := []) (Nat.le_of_ble_eq_true rfl) rfl (by decide +kernel) ?_
          refine gBk (pe := 62) hO [o0 .l2i] (by decide +kernel) (show tWG K B 0 0 S I J 62 [some (vI v0), some (vL w1), none, some (vL (-99)), none, some (vL 99999), none] [vI ((if (if w1 < 99999 then w1 else 99999) < (-99) then (-99) else (if w1 < 99999 then w1 else 99999)).toInt32)] from ?_)
          exact gIret hO hQ (by decide +kernel) ⟨(Eq.symm ((if_pos c1).trans ((if_neg c5).trans ((if_neg c6).trans (if_neg c7))))), rfl⟩
        · refine gBk (pe := 55) hO [(.ldc2_w 132, (0, 0, 463, 0), 0, 100), o0 (.goto 6), o0 (.lstore 5), o0 (.lload_n 3), o0 (.lload 5), o0 (.lload_n 1)] (by decide +kernel) (And.intro (Nat.le_of_ble_eq_true rfl) (show tWG K B 0 0 S I J 55 [some (vI v0), some (vL w1), none, some (vL (-99)), none, some (vL 100), none] [vL w1, vL 100, vL (-99)] from ?_))
          refine gMinL hO (idx := 136) (w := 465) (by decide +kernel) hR (by omega) (st := [vL (-99)]) (Nat.le_of_ble_eq_true rfl) rfl (by decide +kernel) ?_
          refine gMaxL hO (idx := 142) (w := 468) (by decide +kernel) hR (by omega) (st := []) (Nat.le_of_ble_eq_true rfl) rfl (by decide +kernel) ?_
          refine gBk (pe := 62) hO [o0 .l2i] (by decide +kernel) (show tWG K B 0 0 S I J 62 [some (vI v0), some (vL w1), none, some (vL (-99)), none, some (vL 100), none] [vI ((if (if w1 < 100 then w1 else 100) < (-99) then (-99) else (if w1 < 100 then w1 else 100)).toInt32)] from ?_)
          exact gIret hO hQ (by decide +kernel) ⟨(Eq.symm ((if_pos c1).trans ((if_neg c5).trans ((if_neg c6).trans (if_pos c7))))), rfl⟩
      · refine gBk (pe := 55) hO [(.ldc2_w 130, (0, 0, 462, 0), 0, 99), o0 (.goto 17), o0 (.lstore 5), o0 (.lload_n 3), o0 (.lload 5), o0 (.lload_n 1)] (by decide +kernel) (And.intro (Nat.le_of_ble_eq_true rfl) (show tWG K B 0 0 S I J 55 [some (vI v0), some (vL w1), none, some (vL (-99)), none, some (vL 99), none] [vL w1, vL 99, vL (-99)] from ?_))
        refine gMinL hO (idx := 136) (w := 465) (by decide +kernel) hR (by omega) (st := [vL (-99)]) (Nat.le_of_ble_eq_true rfl) rfl (by decide +kernel) ?_
        refine gMaxL hO (idx := 142) (w := 468) (by decide +kernel) hR (by omega) (st := []) (Nat.le_of_ble_eq_true rfl) rfl (by decide +kernel) ?_
        refine gBk (pe := 62) hO [o0 .l2i] (by decide +kernel) (show tWG K B 0 0 S I J 62 [some (vI v0), some (vL w1), none, some (vL (-99)), none, some (vL 99), none] [vI ((if (if w1 < 99 then w1 else 99) < (-99) then (-99) else (if w1 < 99 then w1 else 99)).toInt32)] from ?_)
        exact gIret hO hQ (by decide +kernel) ⟨(Eq.symm ((if_pos c1).trans ((if_neg c5).trans (if_pos c6)))), rfl⟩
    · refine gBk (pe := 55) hO [(.ldc2_w 128, (0, 0, 461, 0), 0, 60), o0 (.goto 28), o0 (.lstore 5), o0 (.lload_n 3), o0 (.lload 5), o0 (.lload_n 1)] (by decide +kernel) (And.intro (Nat.le_of_ble_eq_true rfl) (show tWG K B 0 0 S I J 55 [some (vI v0), some (vL w1), none, some (vL (-99)), none, some (vL 60), none] [vL w1, vL 60, vL (-99)] from ?_))
      refine gMinL hO (idx := 136) (w := 465) (by decide +kernel) hR (by omega) (st := [vL (-99)]) (Nat.le_of_ble_eq_true rfl) rfl (by decide +kernel) ?_
      refine gMaxL hO (idx := 142) (w := 468) (by decide +kernel) hR (by omega) (st := []) (Nat.le_of_ble_eq_true rfl) rfl (by decide +kernel) ?_
      refine gBk (pe := 62) hO [o0 .l2i] (by decide +kernel) (show tWG K B 0 0 S I J 62 [some (vI v0), some (vL w1), none, some (vL (-99)), none, some (vL 60), none] [vI ((if (if w1 < 60 then w1 else 60) < (-99) then (-99) else (if w1 < 60 then w1 else 60)).toInt32)] from ?_)
      exact gIret hO hQ (by decide +kernel) ⟨(Eq.symm ((if_pos c1).trans (if_pos c5))), rfl⟩)
set_option maxRecDepth 20000 in
theorem hc2_without : tCV yX2_without cX2_without 2 (some .int) 1 := ⟨⟨(List.mem_of_getElem? (i := 474) rfl), (List.mem_of_getElem? (i := 37) (by decide +kernel)), by decide +kernel⟩, (List.mem_of_getElem? (i := 472) (by decide +kernel)), (List.mem_of_getElem? (i := 473) (by decide +kernel))⟩
set_option maxRecDepth 100000 in
theorem M2_without {l : Launch} {B : tB} {S : tSH} {I : tHI} {J : tHJ} {v1 : Int32} {n : Nat} {k : Int32 → tHI → tHJ → Prop} (t0 : ty S 48 2) (h : F2_without n S I J v1 k) : Met l yX2_without (tWs yX2_without cX2_without 2 (some .int)) (tRm 2 0 0) (tPc B [vR 48, vI v1] S I J) (tQi B (tPi S k)) 0 0 (tA B) :=
  tEntry (by decide +kernel) [some (vR 48), some (vI v1)] rfl rfl (Nat.le_of_ble_eq_true rfl) (fun K hl hR hO hQ hG => by
  subst hl
  refine gBk (pe := 1) hO [o0 (.iload_n 1)] (by decide +kernel) (show tWG K B 0 0 S I J 1 [some (vR 48), some (vI v1)] [vI v1] from ?_)
  by_cases c1 : v1 = 0
  · have h := h.1 c1
    refine gSwIn hO (dflt := 111) (lo := 0) (hi := 3) (offs := #[31, 56, 81, 84]) (len := 31) (off := 31) (tgt := 32) 0 c1 (by decide +kernel) (by decide +kernel) ?_
    refine gBk (pe := 53) hO [oI (.iconst 0) 0, oI (.sipush 600) 600, oI (.bipush 20) 20, o0 (.aload_n 0), oF (.getfield 11) 2 0 153 49, oI (.iconst 3) 3, o0 .iaload, o0 .imul, o0 .iadd, o0 (.aload_n 0), oF (.getfield 11) 2 0 153 49, oI (.iconst 5) 5, o0 .iaload, o0 .iadd] (by decide +kernel) (And.intro t0 (And.intro rfl (And.intro (tGr.off hG t0 (k := 0) rfl) (And.intro (tin (tGr.len hG t0 (k := 0) rfl (by decide)) (tvi (by decide +kernel))) (And.intro t0 (And.intro rfl (And.intro (tGr.off hG t0 (k := 0) rfl) (And.intro (tin (tGr.len hG t0 (k := 0) rfl (by decide)) (tvi (by decide +kernel))) (show tWG K B 0 0 S I J 53 [some (vR 48), some (vI v1)] [vI ((600 + (20 * (I 49 3))) + (I 49 5)), vI 0] from ?_)))))))))
    refine gMax hO (idx := 145) (w := 475) (by decide +kernel) hR (by omega) (st := []) (Nat.le_of_ble_eq_true rfl) rfl (by decide +kernel) ?_
    exact gIret hO hQ (by decide +kernel) ⟨rfl, h⟩
  have h := h.2
  by_cases c2 : v1 = 1
  · have h := h.1 c2
    refine gSwIn hO (dflt := 111) (lo := 0) (hi := 3) (offs := #[31, 56, 81, 84]) (len := 31) (off := 56) (tgt := 57) 1 c2 (by decide +kernel) (by decide +kernel) ?_
    refine gBk (pe := 78) hO [oI (.iconst 0) 0, oI (.sipush 2000) 2000, oI (.bipush 10) 10, o0 (.aload_n 0), oF (.getfield 11) 2 0 153 49, oI (.iconst 4) 4, o0 .iaload, o0 .imul, o0 .iadd, o0 (.aload_n 0), oF (.getfield 11) 2 0 153 49, oI (.iconst 5) 5, o0 .iaload, o0 .isub] (by decide +kernel) (And.intro t0 (And.intro rfl (And.intro (tGr.off hG t0 (k := 0) rfl) (And.intro (tin (tGr.len hG t0 (k := 0) rfl (by decide)) (tvi (by decide +kernel))) (And.intro t0 (And.intro rfl (And.intro (tGr.off hG t0 (k := 0) rfl) (And.intro (tin (tGr.len hG t0 (k := 0) rfl (by decide)) (tvi (by decide +kernel))) (show tWG K B 0 0 S I J 78 [some (vR 48), some (vI v1)] [vI ((2000 + (10 * (I 49 4))) - (I 49 5)), vI 0] from ?_)))))))))
    refine gMax hO (idx := 145) (w := 475) (by decide +kernel) hR (by omega) (st := []) (Nat.le_of_ble_eq_true rfl) rfl (by decide +kernel) ?_
    exact gIret hO hQ (by decide +kernel) ⟨rfl, h⟩
  have h := h.2
  by_cases c3 : v1 = 2
  · have h := h.1 c3
    refine gSwIn hO (dflt := 111) (lo := 0) (hi := 3) (offs := #[31, 56, 81, 84]) (len := 31) (off := 81) (tgt := 82) 2 c3 (by decide +kernel) (by decide +kernel) ?_
    refine gBk (pe := 84) hO [oI (.bipush 60) 60] (by decide +kernel) (show tWG K B 0 0 S I J 84 [some (vR 48), some (vI v1)] [vI 60] from ?_)
    exact gIret hO hQ (by decide +kernel) ⟨rfl, h⟩
  have h := h.2
  by_cases c4 : v1 = 3
  · have h := h.1 c4
    refine gSwIn hO (dflt := 111) (lo := 0) (hi := 3) (offs := #[31, 56, 81, 84]) (len := 31) (off := 84) (tgt := 85) 3 c4 (by decide +kernel) (by decide +kernel) ?_
    refine gBk (pe := 111) hO [o0 (.aload_n 0), oF (.getfield 11) 2 0 153 49, oI (.iconst 2) 2, o0 .iaload, oI (.iconst 5) 5, o0 .imul, o0 (.aload_n 0), oF (.getfield 11) 2 0 153 49, oI (.iconst 3) 3, o0 .iaload, oI (.bipush 20) 20, o0 .idiv, o0 .iadd, o0 (.aload_n 0), oF (.getfield 11) 2 0 153 49, oI (.bipush 6) 6, o0 .iaload, o0 .isub] (by decide +kernel) (And.intro t0 (And.intro rfl (And.intro (tGr.off hG t0 (k := 0) rfl) (And.intro (tin (tGr.len hG t0 (k := 0) rfl (by decide)) (tvi (by decide +kernel))) (And.intro t0 (And.intro rfl (And.intro (tGr.off hG t0 (k := 0) rfl) (And.intro (tin (tGr.len hG t0 (k := 0) rfl (by decide)) (tvi (by decide +kernel))) (And.intro (by decide) (And.intro t0 (And.intro rfl (And.intro (tGr.off hG t0 (k := 0) rfl) (And.intro (tin (tGr.len hG t0 (k := 0) rfl (by decide)) (tvi (by decide +kernel))) (show tWG K B 0 0 S I J 111 [some (vR 48), some (vI v1)] [vI ((((I 49 2) * 5) + ((I 49 3) / 20)) - (I 49 6))] from ?_))))))))))))))
    exact gIret hO hQ (by decide +kernel) ⟨rfl, h⟩
  have h := h.2
  have hsw : swN 0 v1 4 := ⟨⟨⟨⟨True.intro, c1⟩, c2⟩, c3⟩, c4⟩
  have h := h hsw
  refine gSwOut hO (dflt := 111) (lo := 0) (hi := 3) (offs := #[31, 56, 81, 84]) (len := 31) (tgt := 112) (by decide +kernel) (sw_out (by decide) (by decide) hsw) (by decide) ?_
  refine gBk (pe := 121) hO [o0 (.aload_n 0), oF (.getfield 11) 2 0 153 49, oI (.iconst 1) 1, o0 .iaload, oI (.bipush 10) 10, o0 .idiv] (by decide +kernel) (And.intro t0 (And.intro rfl (And.intro (tGr.off hG t0 (k := 0) rfl) (And.intro (tin (tGr.len hG t0 (k := 0) rfl (by decide)) (tvi (by decide +kernel))) (And.intro (by decide) (show tWG K B 0 0 S I J 121 [some (vR 48), some (vI v1)] [vI ((I 49 1) / 10)] from ?_))))))
  exact gIret hO hQ (by decide +kernel) ⟨rfl, h⟩)
set_option maxRecDepth 20000 in
theorem hc3_has : tCV yX3_has cX3_has 2 (some .boolean) 1 := ⟨⟨(List.mem_of_getElem? (i := 384) rfl), (List.mem_of_getElem? (i := 61) (by decide +kernel)), by decide +kernel⟩, (List.mem_of_getElem? (i := 382) (by decide +kernel)), (List.mem_of_getElem? (i := 383) (by decide +kernel))⟩
set_option maxRecDepth 100000 in
theorem M3_has {l : Launch} {B : tB} {S : tSH} {I : tHI} {J : tHJ} {a : Nat} {v1 : Int32} (t0 : ty S a 3) : Met l yX3_has (tWs yX3_has cX3_has 2 (some .boolean)) (tRm 2 0 0) (tPc B [vR a, vI v1] S I J) (tQi B (tPz S I J (V3_has S I J a v1))) 0 0 (tA B) :=
  tEntry (by decide +kernel) [some (vR a), some (vI v1)] rfl rfl (Nat.le_of_ble_eq_true rfl) (fun K hl hR hO hQ hG => by
  subst hl
  refine gBk (pe := 1) hO [o0 (.iload_n 1)] (by decide +kernel) (show tWG K B 0 0 S I J 1 [some (vR a), some (vI v1)] [vI v1] from ?_)
  refine gIfLt hO (off := 21) (tgt := 22) (by decide +kernel) (by decide) (fun c1 => ?_) (fun c1 => ?_)
  · refine gBk (pe := 23) hO [oI (.iconst 0) 0] (by decide +kernel) (show tWG K B 0 0 S I J 23 [some (vR a), some (vI v1)] [vI 0] from ?_)
    exact gZret hO hQ (by decide +kernel) (Or.inl rfl) ⟨(Eq.symm (if_pos c1)), (Or.inl rfl), rfl⟩
  · refine gBk (pe := 9) hO [o0 (.iload_n 1), o0 (.aload_n 0), oF (.getfield 9) 3 0 76 0] (by decide +kernel) (And.intro t0 (show tWG K B 0 0 S I J 9 [some (vR a), some (vI v1)] [vI (I a 0), vI v1] from ?_))
    refine gIcGe hO (off := 13) (tgt := 22) (by decide +kernel) (by decide) (fun c2 => ?_) (fun c2 => ?_)
    · refine gBk (pe := 23) hO [oI (.iconst 0) 0] (by decide +kernel) (show tWG K B 0 0 S I J 23 [some (vR a), some (vI v1)] [vI 0] from ?_)
      exact gZret hO hQ (by decide +kernel) (Or.inl rfl) ⟨(Eq.symm ((if_neg c1).trans (if_pos c2))), (Or.inl rfl), rfl⟩
    · refine gBk (pe := 15) hO [o0 (.iload_n 1), oI (.bipush 6) 6] (by decide +kernel) (show tWG K B 0 0 S I J 15 [some (vR a), some (vI v1)] [vI 6, vI v1] from ?_)
      refine gIcGe hO (off := 7) (tgt := 22) (by decide +kernel) (by decide) (fun c3 => ?_) (fun c3 => ?_)
      · refine gBk (pe := 23) hO [oI (.iconst 0) 0] (by decide +kernel) (show tWG K B 0 0 S I J 23 [some (vR a), some (vI v1)] [vI 0] from ?_)
        exact gZret hO hQ (by decide +kernel) (Or.inl rfl) ⟨(Eq.symm ((if_neg c1).trans ((if_neg c2).trans (if_pos c3)))), (Or.inl rfl), rfl⟩
      · refine gBk (pe := 23) hO [oI (.iconst 1) 1, o0 (.goto 4)] (by decide +kernel) (show tWG K B 0 0 S I J 23 [some (vR a), some (vI v1)] [vI 1] from ?_)
        exact gZret hO hQ (by decide +kernel) (Or.inr rfl) ⟨(Eq.symm ((if_neg c1).trans ((if_neg c2).trans (if_neg c3)))), (Or.inr rfl), rfl⟩)
set_option maxRecDepth 20000 in
theorem hc3_add : tCV yX3_add cX3_add 4 (some .int) 3 := ⟨⟨(List.mem_of_getElem? (i := 311) rfl), (List.mem_of_getElem? (i := 61) (by decide +kernel)), by decide +kernel⟩, (List.mem_of_getElem? (i := 309) (by decide +kernel)), (List.mem_of_getElem? (i := 310) (by decide +kernel))⟩
set_option maxRecDepth 100000 in
theorem M3_add {l : Launch} {B : tB} {S : tSH} {I : tHI} {J : tHJ} {a : Nat} {v1 : Int32} {v2 : Int32} {v3 : Int32} {n : Nat} {k : Int32 → tHI → tHJ → Prop} (t0 : ty S a 3) (h : F3_add n S I J a v1 v2 v3 k) : Met l yX3_add (tWs yX3_add cX3_add 4 (some .int)) (tRm 2 0 0) (tPc B [vR a, vI v1, vI v2, vI v3] S I J) (tQi B (tPi S k)) 0 0 (tA B) :=
  tEntry (by decide +kernel) [some (vR a), some (vI v1), some (vI v2), some (vI v3)] rfl rfl (Nat.le_of_ble_eq_true rfl) (fun K hl hR hO hQ hG => by
  subst hl
  refine gBk (pe := 6) hO [o0 (.aload_n 0), oF (.getfield 9) 3 0 76 0, oI (.bipush 6) 6] (by decide +kernel) (And.intro t0 (show tWG K B 0 0 S I J 6 [some (vR a), some (vI v1), some (vI v2), some (vI v3)] [vI 6, vI (I a 0)] from ?_))
  refine gIcLt hO (off := 6) (tgt := 12) (by decide +kernel) (by decide) (fun c1 => ?_) (fun c1 => ?_)
  · have h := h.1 c1
    refine gBk (pe := 68) hO [o0 (.aload_n 0), oF (.getfield 15) 3 1 77 0, o0 (.aload_n 0), oF (.getfield 9) 3 0 76 0, o0 (.iload_n 1), o0 .iastore, o0 (.aload_n 0), oF (.getfield 19) 3 2 78 0, o0 (.aload_n 0), oF (.getfield 9) 3 0 76 0, o0 (.iload_n 2), o0 .iastore, o0 (.aload_n 0), oF (.getfield 22) 3 3 79 0, o0 (.aload_n 0), oF (.getfield 9) 3 0 76 0, o0 (.iload_n 3), o0 .iastore, o0 (.aload_n 0), oF (.getfield 25) 3 4 80 0, o0 (.aload_n 0), oF (.getfield 9) 3 0 76 0, oI (.iconst 0) 0, o0 .iastore, o0 (.aload_n 0), o0 .dup, oF (.getfield 9) 3 0 76 0, oI (.iconst 1) 1, o0 .iadd, oF (.putfield 9) 3 0 76 0, o0 (.aload_n 0), oF (.getfield 9) 3 0 76 0, oI (.iconst 1) 1, o0 .isub] (by decide +kernel) (And.intro t0 (And.intro t0 (And.intro (tGr.off hG t0 (k := 1) rfl) (And.intro (tin (tGr.len hG t0 (k := 1) rfl (by decide)) h.1) (And.intro t0 (And.intro t0 (And.intro (tGr.off hG t0 (k := 2) rfl) (And.intro (tin (tGr.len hG t0 (k := 2) rfl (by decide)) h.2.1) (And.intro t0 (And.intro t0 (And.intro (tGr.off hG t0 (k := 3) rfl) (And.intro (tin (tGr.len hG t0 (k := 3) rfl (by decide)) h.2.2.1) (And.intro t0 (And.intro t0 (And.intro (tGr.off hG t0 (k := 4) rfl) (And.intro (tin (tGr.len hG t0 (k := 4) rfl (by decide)) h.2.2.2.1) (And.intro t0 (And.intro t0 (And.intro t0 (show tWG K B 0 0 S (uI (uI (uI (uI (uI I (a + 1) (I a 0).toNatClampNeg v1) (a + 2) ((uI I (a + 1) (I a 0).toNatClampNeg v1) a 0).toNatClampNeg v2) (a + 3) ((uI (uI I (a + 1) (I a 0).toNatClampNeg v1) (a + 2) ((uI I (a + 1) (I a 0).toNatClampNeg v1) a 0).toNatClampNeg v2) a 0).toNatClampNeg v3) (a + 4) ((uI (uI (uI I (a + 1) (I a 0).toNatClampNeg v1) (a + 2) ((uI I (a + 1) (I a 0).toNatClampNeg v1) a 0).toNatClampNeg v2) (a + 3) ((uI (uI I (a + 1) (I a 0).toNatClampNeg v1) (a + 2) ((uI I (a + 1) (I a 0).toNatClampNeg v1) a 0).toNatClampNeg v2) a 0).toNatClampNeg v3) a 0).toNatClampNeg 0) a 0 (((uI (uI (uI (uI I (a + 1) (I a 0).toNatClampNeg v1) (a + 2) ((uI I (a + 1) (I a 0).toNatClampNeg v1) a 0).toNatClampNeg v2) (a + 3) ((uI (uI I (a + 1) (I a 0).toNatClampNeg v1) (a + 2) ((uI I (a + 1) (I a 0).toNatClampNeg v1) a 0).toNatClampNeg v2) a 0).toNatClampNeg v3) (a + 4) ((uI (uI (uI I (a + 1) (I a 0).toNatClampNeg v1) (a + 2) ((uI I (a + 1) (I a 0).toNatClampNeg v1) a 0).toNatClampNeg v2) (a + 3) ((uI (uI I (a + 1) (I a 0).toNatClampNeg v1) (a + 2) ((uI I (a + 1) (I a 0).toNatClampNeg v1) a 0).toNatClampNeg v2) a 0).toNatClampNeg v3) a 0).toNatClampNeg 0) a 0) + 1)) J 68 [some (vR a), some (vI v1), some (vI v2), some (vI v3)] [vI (((uI (uI (uI (uI (uI I (a + 1) (I a 0).toNatClampNeg v1) (a + 2) ((uI I (a + 1) (I a 0).toNatClampNeg v1) a 0).toNatClampNeg v2) (a + 3) ((uI (uI I (a + 1) (I a 0).toNatClampNeg v1) (a + 2) ((uI I (a + 1) (I a 0).toNatClampNeg v1) a 0).toNatClampNeg v2) a 0).toNatClampNeg v3) (a + 4) ((uI (uI (uI I (a + 1) (I a 0).toNatClampNeg v1) (a + 2) ((uI I (a + 1) (I a 0).toNatClampNeg v1) a 0).toNatClampNeg v2) (a + 3) ((uI (uI I (a + 1) (I a 0).toNatClampNeg v1) (a + 2) ((uI I (a + 1) (I a 0).toNatClampNeg v1) a 0).toNatClampNeg v2) a 0).toNatClampNeg v3) a 0).toNatClampNeg 0) a 0 (((uI (uI (uI (uI I (a + 1) (I a 0).toNatClampNeg v1) (a + 2) ((uI I (a + 1) (I a 0).toNatClampNeg v1) a 0).toNatClampNeg v2) (a + 3) ((uI (uI I (a + 1) (I a 0).toNatClampNeg v1) (a + 2) ((uI I (a + 1) (I a 0).toNatClampNeg v1) a 0).toNatClampNeg v2) a 0).toNatClampNeg v3) (a + 4) ((uI (uI (uI I (a + 1) (I a 0).toNatClampNeg v1) (a + 2) ((uI I (a + 1) (I a 0).toNatClampNeg v1) a 0).toNatClampNeg v2) (a + 3) ((uI (uI I (a + 1) (I a 0).toNatClampNeg v1) (a + 2) ((uI I (a + 1) (I a 0).toNatClampNeg v1) a 0).toNatClampNeg v2) a 0).toNatClampNeg v3) a 0).toNatClampNeg 0) a 0) + 1)) a 0) - 1)] from ?_))))))))))))))))))))
    have h := h.2.2.2.2
    exact gIret hO hQ (by decide +kernel) ⟨rfl, h⟩
  · have h := h.2 c1
    refine gBk (pe := 11) hO [oI (.bipush (-5)) (-5)] (by decide +kernel) (show tWG K B 0 0 S I J 11 [some (vR a), some (vI v1), some (vI v2), some (vI v3)] [vI (-5)] from ?_)
    exact gIret hO hQ (by decide +kernel) ⟨rfl, h⟩)
set_option maxRecDepth 20000 in
theorem hc3_copyFrom : tCV yX3_copyFrom cX3_copyFrom 2 none 1 := ⟨⟨(List.mem_of_getElem? (i := 903) rfl), (List.mem_of_getElem? (i := 61) (by decide +kernel)), by decide +kernel⟩, (List.mem_of_getElem? (i := 901) (by decide +kernel)), (List.mem_of_getElem? (i := 902) (by decide +kernel))⟩
set_option maxRecDepth 100000 in
theorem M3_copyFrom {l : Launch} {B : tB} {S : tSH} {I : tHI} {J : tHJ} {a : Nat} {a1 : Nat} {n : Nat} {k : tHI → tHJ → Prop} (t0 : ty S a 3) (t1 : ty S a1 3) (h : F3_copyFrom n S I J a a1 k) : Met l yX3_copyFrom (tWs yX3_copyFrom cX3_copyFrom 2 none) (tRm 2 0 0) (tPc B [vR a, vR a1] S I J) (tQv B (tPv S k)) 0 0 (tA B) :=
  tEntry (by decide +kernel) [some (vR a), some (vR a1)] rfl rfl (Nat.le_of_ble_eq_true rfl) (fun K hl hR hO hQ hG => by
  subst hl
  refine gBk (pe := 20) hO [o0 (.aload_n 0), o0 (.aload_n 1), oF (.getfield 9) 3 0 76 0, oF (.putfield 9) 3 0 76 0, o0 (.aload_n 1), oF (.getfield 15) 3 1 77 0, oI (.iconst 0) 0, o0 (.aload_n 0), oF (.getfield 15) 3 1 77 0, oI (.iconst 0) 0, oI (.bipush 6) 6] (by decide +kernel) (And.intro t1 (And.intro t0 (And.intro t1 (And.intro t0 (show tWG K B 0 0 S (uI I a 0 (I a1 0)) J 20 [some (vR a), some (vR a1)] [vI 6, vI 0, vR (a + 1), vI 0, vR (a1 + 1)] from ?_)))))
  refine gCopy hO (tGr.off hG t1 (k := 1) rfl) (tGr.off hG t0 (k := 1) rfl) (tcpr (tGr.len hG t1 (k := 1) rfl (by decide)) (tGr.len hG t0 (k := 1) rfl (by decide)) (by decide +kernel)) (idx := 28) (w := 904) (by decide +kernel) hR (by omega) (Nat.le_of_ble_eq_true rfl) rfl (by decide +kernel) (show tWG K B 0 0 S (cpI (uI I a 0 (I a1 0)) (a1 + 1) 0 (a + 1) 0 6) J 23 [some (vR a), some (vR a1)] [] from ?_)
  refine gBk (pe := 35) hO [o0 (.aload_n 1), oF (.getfield 19) 3 2 78 0, oI (.iconst 0) 0, o0 (.aload_n 0), oF (.getfield 19) 3 2 78 0, oI (.iconst 0) 0, oI (.bipush 6) 6] (by decide +kernel) (And.intro t1 (And.intro t0 (show tWG K B 0 0 S (cpI (uI I a 0 (I a1 0)) (a1 + 1) 0 (a + 1) 0 6) J 35 [some (vR a), some (vR a1)] [vI 6, vI 0, vR (a + 2), vI 0, vR (a1 + 2)] from ?_)))
  refine gCopy hO (tGr.off hG t1 (k := 2) rfl) (tGr.off hG t0 (k := 2) rfl) (tcpr (tGr.len hG t1 (k := 2) rfl (by decide)) (tGr.len hG t0 (k := 2) rfl (by decide)) (by decide +kernel)) (idx := 28) (w := 904) (by decide +kernel) hR (by omega) (Nat.le_of_ble_eq_true rfl) rfl (by decide +kernel) (show tWG K B 0 0 S (cpI (cpI (uI I a 0 (I a1 0)) (a1 + 1) 0 (a + 1) 0 6) (a1 + 2) 0 (a + 2) 0 6) J 38 [some (vR a), some (vR a1)] [] from ?_)
  refine gBk (pe := 50) hO [o0 (.aload_n 1), oF (.getfield 22) 3 3 79 0, oI (.iconst 0) 0, o0 (.aload_n 0), oF (.getfield 22) 3 3 79 0, oI (.iconst 0) 0, oI (.bipush 6) 6] (by decide +kernel) (And.intro t1 (And.intro t0 (show tWG K B 0 0 S (cpI (cpI (uI I a 0 (I a1 0)) (a1 + 1) 0 (a + 1) 0 6) (a1 + 2) 0 (a + 2) 0 6) J 50 [some (vR a), some (vR a1)] [vI 6, vI 0, vR (a + 3), vI 0, vR (a1 + 3)] from ?_)))
  refine gCopy hO (tGr.off hG t1 (k := 3) rfl) (tGr.off hG t0 (k := 3) rfl) (tcpr (tGr.len hG t1 (k := 3) rfl (by decide)) (tGr.len hG t0 (k := 3) rfl (by decide)) (by decide +kernel)) (idx := 28) (w := 904) (by decide +kernel) hR (by omega) (Nat.le_of_ble_eq_true rfl) rfl (by decide +kernel) (show tWG K B 0 0 S (cpI (cpI (cpI (uI I a 0 (I a1 0)) (a1 + 1) 0 (a + 1) 0 6) (a1 + 2) 0 (a + 2) 0 6) (a1 + 3) 0 (a + 3) 0 6) J 53 [some (vR a), some (vR a1)] [] from ?_)
  refine gBk (pe := 65) hO [o0 (.aload_n 1), oF (.getfield 25) 3 4 80 0, oI (.iconst 0) 0, o0 (.aload_n 0), oF (.getfield 25) 3 4 80 0, oI (.iconst 0) 0, oI (.bipush 6) 6] (by decide +kernel) (And.intro t1 (And.intro t0 (show tWG K B 0 0 S (cpI (cpI (cpI (uI I a 0 (I a1 0)) (a1 + 1) 0 (a + 1) 0 6) (a1 + 2) 0 (a + 2) 0 6) (a1 + 3) 0 (a + 3) 0 6) J 65 [some (vR a), some (vR a1)] [vI 6, vI 0, vR (a + 4), vI 0, vR (a1 + 4)] from ?_)))
  refine gCopy hO (tGr.off hG t1 (k := 4) rfl) (tGr.off hG t0 (k := 4) rfl) (tcpr (tGr.len hG t1 (k := 4) rfl (by decide)) (tGr.len hG t0 (k := 4) rfl (by decide)) (by decide +kernel)) (idx := 28) (w := 904) (by decide +kernel) hR (by omega) (Nat.le_of_ble_eq_true rfl) rfl (by decide +kernel) (show tWG K B 0 0 S (cpI (cpI (cpI (cpI (uI I a 0 (I a1 0)) (a1 + 1) 0 (a + 1) 0 6) (a1 + 2) 0 (a + 2) 0 6) (a1 + 3) 0 (a + 3) 0 6) (a1 + 4) 0 (a + 4) 0 6) J 68 [some (vR a), some (vR a1)] [] from ?_)
  exact gVret hO hQ (by decide +kernel) ⟨rfl, h⟩)
set_option maxRecDepth 20000 in
theorem hc4_kindOfByte : tCm yX4_kindOfByte cX4_kindOfByte 1 (some .int) 1 ∧ Cond.static yX4_kindOfByte ∈ wsL_law := ⟨⟨(List.mem_of_getElem? (i := 629) rfl), (List.mem_of_getElem? (i := 29) (by decide +kernel)), by decide +kernel⟩, (List.mem_of_getElem? (i := 628) (by decide +kernel))⟩
set_option maxRecDepth 100000 in
theorem M4_kindOfByte {l : Launch} {B : tB} {S : tSH} {I : tHI} {J : tHJ} {v0 : Int32} : Met l yX4_kindOfByte (tWs yX4_kindOfByte cX4_kindOfByte 1 (some .int)) (tRm 2 0 0) (tPc B [vI v0] S I J) (tQi B (tPp S I J (V4_kindOfByte v0))) 0 0 (tA B) :=
  tEntry (by decide +kernel) [some (vI v0)] rfl rfl (Nat.le_of_ble_eq_true rfl) (fun K hl hR hO hQ hG => by
  subst hl
  refine gBk (pe := 3) hO [o0 (.iload_n 0), oI (.bipush 97) 97] (by decide +kernel) (show tWG K B 0 0 S I J 3 [some (vI v0)] [vI 97, vI v0] from ?_)
  refine gIcLt hO (off := 11) (tgt := 14) (by decide +kernel) (by decide) (fun c1 => ?_) (fun c1 => ?_)
  · refine gBk (pe := 17) hO [o0 (.iload_n 0), oI (.bipush 48) 48] (by decide +kernel) (show tWG K B 0 0 S I J 17 [some (vI v0)] [vI 48, vI v0] from ?_)
    refine gIcLt hO (off := 13) (tgt := 30) (by decide +kernel) (by decide) (fun c2 => ?_) (fun c2 => ?_)
    · refine gBk (pe := 31) hO [oI (.iconst 3) 3] (by decide +kernel) (show tWG K B 0 0 S I J 31 [some (vI v0)] [vI 3] from ?_)
      exact gIret hO hQ (by decide +kernel) ⟨(Eq.symm ((if_pos c1).trans (if_pos c2))), rfl⟩
    · refine gBk (pe := 23) hO [o0 (.iload_n 0), oI (.bipush 57) 57] (by decide +kernel) (show tWG K B 0 0 S I J 23 [some (vI v0)] [vI 57, vI v0] from ?_)
      refine gIcGt hO (off := 7) (tgt := 30) (by decide +kernel) (by decide) (fun c3 => ?_) (fun c3 => ?_)
      · refine gBk (pe := 31) hO [oI (.iconst 3) 3] (by decide +kernel) (show tWG K B 0 0 S I J 31 [some (vI v0)] [vI 3] from ?_)
        exact gIret hO hQ (by decide +kernel) ⟨(Eq.symm ((if_pos c1).trans ((if_neg c2).trans (if_pos c3)))), rfl⟩
      · refine gBk (pe := 31) hO [oI (.iconst 2) 2, o0 (.goto 4)] (by decide +kernel) (show tWG K B 0 0 S I J 31 [some (vI v0)] [vI 2] from ?_)
        exact gIret hO hQ (by decide +kernel) ⟨(Eq.symm ((if_pos c1).trans ((if_neg c2).trans (if_neg c3)))), rfl⟩
  · refine gBk (pe := 9) hO [o0 (.iload_n 0), oI (.bipush 122) 122] (by decide +kernel) (show tWG K B 0 0 S I J 9 [some (vI v0)] [vI 122, vI v0] from ?_)
    refine gIcGt hO (off := 5) (tgt := 14) (by decide +kernel) (by decide) (fun c4 => ?_) (fun c4 => ?_)
    · refine gBk (pe := 17) hO [o0 (.iload_n 0), oI (.bipush 48) 48] (by decide +kernel) (show tWG K B 0 0 S I J 17 [some (vI v0)] [vI 48, vI v0] from ?_)
      refine gIcLt hO (off := 13) (tgt := 30) (by decide +kernel) (by decide) (fun c5 => ?_) (fun c5 => ?_)
      · refine gBk (pe := 31) hO [oI (.iconst 3) 3] (by decide +kernel) (show tWG K B 0 0 S I J 31 [some (vI v0)] [vI 3] from ?_)
        exact gIret hO hQ (by decide +kernel) ⟨(Eq.symm ((if_neg c1).trans ((if_pos c4).trans (if_pos c5)))), rfl⟩
      · refine gBk (pe := 23) hO [o0 (.iload_n 0), oI (.bipush 57) 57] (by decide +kernel) (show tWG K B 0 0 S I J 23 [some (vI v0)] [vI 57, vI v0] from ?_)
        refine gIcGt hO (off := 7) (tgt := 30) (by decide +kernel) (by decide) (fun c6 => ?_) (fun c6 => ?_)
        · refine gBk (pe := 31) hO [oI (.iconst 3) 3] (by decide +kernel) (show tWG K B 0 0 S I J 31 [some (vI v0)] [vI 3] from ?_)
          exact gIret hO hQ (by decide +kernel) ⟨(Eq.symm ((if_neg c1).trans ((if_pos c4).trans ((if_neg c5).trans (if_pos c6))))), rfl⟩
        · refine gBk (pe := 31) hO [oI (.iconst 2) 2, o0 (.goto 4)] (by decide +kernel) (show tWG K B 0 0 S I J 31 [some (vI v0)] [vI 2] from ?_)
          exact gIret hO hQ (by decide +kernel) ⟨(Eq.symm ((if_neg c1).trans ((if_pos c4).trans ((if_neg c5).trans (if_neg c6))))), rfl⟩
    · refine gBk (pe := 13) hO [oI (.iconst 1) 1] (by decide +kernel) (show tWG K B 0 0 S I J 13 [some (vI v0)] [vI 1] from ?_)
      exact gIret hO hQ (by decide +kernel) ⟨(Eq.symm ((if_neg c1).trans (if_neg c4))), rfl⟩)
set_option maxRecDepth 100000 in
theorem W4_fail_16 {K : tK} {B : tB} {S : tSH} {MC MS : Nat} (hO : tKO K B RX4 cX4_fail 1) (hR : kR K = tRm 2 MC MS) (hG : tGr S) {n : Nat} (t0 : ty S 40 4) {k : tHI → tHJ → Prop} (hQ : tRet K B (tQv B (tPv S k)) 0 0 none) {I : tHI} {J : tHJ} (h : F4_fail_16 n S k I J) : tWG K B 0 0 S I J 16 [some (vR 40)] [] := by
  refine gBk (pe := 21) hO [o0 (.aload_n 0), oI (.iconst 4) 4, oF (.putfield 38) 4 6 127 0] (by decide +kernel) (And.intro t0 (show tWG K B 0 0 S (uI I 40 6 4) J 21 [some (vR 40)] [] from ?_))
  exact gVret hO hQ (by decide +kernel) ⟨rfl, h⟩
set_option maxRecDepth 20000 in
theorem hc4_fail : tCV yX4_fail cX4_fail 1 none 0 := ⟨⟨(List.mem_of_getElem? (i := 690) rfl), (List.mem_of_getElem? (i := 29) (by decide +kernel)), by decide +kernel⟩, (List.mem_of_getElem? (i := 688) (by decide +kernel)), (List.mem_of_getElem? (i := 689) (by decide +kernel))⟩
set_option maxRecDepth 100000 in
theorem M4_fail {l : Launch} {B : tB} {S : tSH} {I : tHI} {J : tHJ} {n : Nat} {k : tHI → tHJ → Prop} (t0 : ty S 40 4) (h : F4_fail n S I J k) : Met l yX4_fail (tWs yX4_fail cX4_fail 1 none) (tRm 2 0 0) (tPc B [vR 40] S I J) (tQv B (tPv S k)) 0 0 (tA B) :=
  tEntry (by decide +kernel) [some (vR 40)] rfl rfl (Nat.le_of_ble_eq_true rfl) (fun K hl hR hO hQ hG => by
  subst hl
  refine gBk (pe := 5) hO [o0 (.aload_n 0), oF (.getfield 20) 4 1 122 0, oI (.iconst (-1)) (-1)] (by decide +kernel) (And.intro t0 (show tWG K B 0 0 S I J 5 [some (vR 40)] [vI (-1), vI (I 40 1)] from ?_))
  refine gIcNe hO (off := 11) (tgt := 16) (by decide +kernel) (by decide) (fun c1 => ?_) (fun c1 => ?_)
  · have h := h.1 c1
    exact W4_fail_16 hO hR hG t0 hQ h
  · have h := h.2 c1
    refine gBk (pe := 16) hO [o0 (.aload_n 0), o0 (.aload_n 0), oF (.getfield 35) 4 5 126 0, oF (.putfield 20) 4 1 122 0] (by decide +kernel) (And.intro t0 (And.intro t0 (show tWG K B 0 0 S (uI I 40 1 (I 40 5)) J 16 [some (vR 40)] [] from ?_)))
    exact W4_fail_16 hO hR hG t0 hQ h)
set_option maxRecDepth 100000 in
theorem W5_bestPace_68 {K : tK} {B : tB} {S : tSH} {MC MS : Nat} (hO : tKO K B RX5 cX5_bestPace 6) (hR : kR K = tRm 2 MC MS) (hG : tGr S) {n : Nat} (t0 : ty S 51 5) {k : Int32 → tHI → tHJ → Prop} (hQ : tRet K B (tQi B (tPi S k)) 0 0 (some .int)) {I : tHI} {J : tHJ} {v4 : Int32} (h : F5_bestPace_68 n S k I J v4) : tWG K B 0 0 S I J 68 [none, none, none, none, some (vI v4), none] [] := by
  refine gBk (pe := 70) hO [o0 (.iload 4)] (by decide +kernel) (show tWG K B 0 0 S I J 70 [none, none, none, none, some (vI v4), none] [vI v4] from ?_)
  exact gIret hO hQ (by decide +kernel) ⟨rfl, h⟩
set_option maxRecDepth 100000 in
theorem W5_bestPace_18 {K : tK} {B : tB} {S : tSH} {MC MS : Nat} (hO : tKO K B RX5 cX5_bestPace 6) (hR : kR K = tRm 2 MC MS) (hG : tGr S) {n : Nat} (t0 : ty S 51 5) {k : Int32 → tHI → tHJ → Prop} (hQ : tRet K B (tQi B (tPi S k)) 0 0 (some .int)) {kb18 : tHI → tHJ → Int32 → Int32 → Int32 → Int32 → Prop} (hkb18 : ∀ (I : tHI) (J : tHJ) (v1 : Int32) (v3 : Int32) (v4 : Int32) (v5 : Int32), kb18 I J v1 v3 v4 v5 → tWG K B 0 0 S I J 18 [some (vR 51), some (vI v1), none, some (vI v3), some (vI v4), some (vI v5)] []) {I : tHI} {J : tHJ} {v1 : Int32} {v3 : Int32} {v4 : Int32} {v5 : Int32} (h : F5_bestPace_18 n S k kb18 I J v1 v3 v4 v5) : tWG K B 0 0 S I J 18 [some (vR 51), some (vI v1), none, some (vI v3), some (vI v4), some (vI v5)] [] := by
  refine gBk (pe := 21) hO [o0 (.iload 5), o0 (.iload_n 3)] (by decide +kernel) (show tWG K B 0 0 S I J 21 [some (vR 51), some (vI v1), none, some (vI v3), some (vI v4), some (vI v5)] [vI v3, vI v5] from ?_)
  refine gIcGt hO (off := 47) (tgt := 68) (by decide +kernel) (by decide) (fun c1 => ?_) (fun c1 => ?_)
  · have h := h.1 c1
    exact gWeak (L' := [none, none, none, none, some (vI v4), none]) ⟨rfl, trivial⟩ (W5_bestPace_68 hO hR hG t0 hQ h)
  · have h := h.2 c1
    refine gBk (pe := 28) hO [o0 (.iload 5), oI (.bipush 60) 60] (by decide +kernel) (show tWG K B 0 0 S I J 28 [some (vR 51), some (vI v1), none, some (vI v3), some (vI v4), some (vI v5)] [vI 60, vI v5] from ?_)
    refine gIcGt hO (off := 40) (tgt := 68) (by decide +kernel) (by decide) (fun c2 => ?_) (fun c2 => ?_)
    · have h := h.1 c2
      exact gWeak (L' := [none, none, none, none, some (vI v4), none]) ⟨rfl, trivial⟩ (W5_bestPace_68 hO hR hG t0 hQ h)
    · have h := h.2 c2
      refine gBk (pe := 55) hO [o0 (.aload_n 0), oF (.getfield 15) 5 3 166 53, o0 (.iload_n 1), oI (.bipush 61) 61, o0 .imul, o0 (.iload 5), o0 .iadd, o0 .iaload, o0 (.aload_n 0), oF (.getfield 15) 5 3 166 53, o0 (.iload_n 1), oI (.bipush 61) 61, o0 .imul, o0 (.iload 4), o0 .iadd, o0 .iaload] (by decide +kernel) (And.intro t0 (And.intro rfl (And.intro (tGr.off hG t0 (k := 3) rfl) (And.intro (tin (tGr.len hG t0 (k := 3) rfl (by decide)) h.1) (And.intro t0 (And.intro rfl (And.intro (tGr.off hG t0 (k := 3) rfl) (And.intro (tin (tGr.len hG t0 (k := 3) rfl (by decide)) h.2.1) (show tWG K B 0 0 S I J 55 [some (vR 51), some (vI v1), none, some (vI v3), some (vI v4), some (vI v5)] [vI (I 53 ((v1 * 61) + v4).toNatClampNeg), vI (I 53 ((v1 * 61) + v5).toNatClampNeg)] from ?_)))))))))
      have h := h.2.2
      have hj3 : ∀ (m4 : Int32), m4 = (if (I 53 ((v1 * 61) + v4).toNatClampNeg) ≤ (I 53 ((v1 * 61) + v5).toNatClampNeg) then v4 else v5) → tWG K B 0 0 S I J 62 [some (vR 51), some (vI v1), none, some (vI v3), some (vI m4), some (vI v5)] [] := by
        intro m4 em4
        subst em4
        refine gBk (pe := 18) hO [oI (.iinc 5 1) 1, o0 (.goto (-47))] (by decide +kernel) (show tWG K B 0 0 S I J 18 [some (vR 51), some (vI v1), none, some (vI v3), some (vI (if (I 53 ((v1 * 61) + v4).toNatClampNeg) ≤ (I 53 ((v1 * 61) + v5).toNatClampNeg) then v4 else v5)), some (vI (v5 + 1))] [] from ?_)
        exact hkb18 _ _ _ _ _ _ h
      refine gIcGe hO (off := 7) (tgt := 62) (by decide +kernel) (by decide) (fun c5 => ?_) (fun c5 => ?_)
      · exact (hj3 _ (Eq.symm (if_pos c5)))
      · refine gBk (pe := 62) hO [o0 (.iload 5), o0 (.istore 4)] (by decide +kernel) (And.intro (Nat.le_of_ble_eq_true rfl) (show tWG K B 0 0 S I J 62 [some (vR 51), some (vI v1), none, some (vI v3), some (vI v5), some (vI v5)] [] from ?_))
        exact (hj3 _ (Eq.symm (if_neg c5)))
theorem W5_bestPace_L18 {K : tK} {B : tB} {S : tSH} {MC MS : Nat} (hO : tKO K B RX5 cX5_bestPace 6) (hR : kR K = tRm 2 MC MS) (hG : tGr S) {n : Nat} (t0 : ty S 51 5) {k : Int32 → tHI → tHJ → Prop} (hQ : tRet K B (tQi B (tPi S k)) 0 0 (some .int)) : ∀ (f : Nat) (I : tHI) (J : tHJ) (v1 : Int32) (v3 : Int32) (v4 : Int32) (v5 : Int32), F5_bestPace_L18 n S k f I J v1 v3 v4 v5 → tWG K B 0 0 S I J 18 [some (vR 51), some (vI v1), none, some (vI v3), some (vI v4), some (vI v5)] [] := by
  intro f
  induction f with
  | zero => intro I J v1 v3 v4 v5 h; exact h.elim
  | succ f ih => intro I J v1 v3 v4 v5 h; exact W5_bestPace_18 hO hR hG t0 hQ ih h
set_option maxRecDepth 20000 in
theorem hc5_bestPace : tCV yX5_bestPace cX5_bestPace 6 (some .int) 3 := ⟨⟨(List.mem_of_getElem? (i := 1214) rfl), (List.mem_of_getElem? (i := 41) (by decide +kernel)), by decide +kernel⟩, (List.mem_of_getElem? (i := 1212) (by decide +kernel)), (List.mem_of_getElem? (i := 1213) (by decide +kernel))⟩
set_option maxRecDepth 100000 in
theorem M5_bestPace {l : Launch} {B : tB} {S : tSH} {I : tHI} {J : tHJ} {v1 : Int32} {v2 : Int32} {v3 : Int32} {n : Nat} {k : Int32 → tHI → tHJ → Prop} (t0 : ty S 51 5) (h : F5_bestPace n S I J v1 v2 v3 k) : Met l yX5_bestPace (tWs yX5_bestPace cX5_bestPace 6 (some .int)) (tRm 2 0 0) (tPc B [vR 51, vI v1, vI v2, vI v3] S I J) (tQi B (tPi S k)) 0 0 (tA B) :=
  tEntry (by decide +kernel) [some (vR 51), some (vI v1), some (vI v2), some (vI v3), none, none] rfl rfl (Nat.le_of_ble_eq_true rfl) (fun K hl hR hO hQ hG => by
  subst hl
  refine gBk (pe := 4) hO [oI (.iconst 1) 1, oI (.bipush 60) 60, o0 (.iload_n 2)] (by decide +kernel) (show tWG K B 0 0 S I J 4 [some (vR 51), some (vI v1), some (vI v2), some (vI v3), none, none] [vI v2, vI 60, vI 1] from ?_)
  refine gMin hO (idx := 53) (w := 1200) (by decide +kernel) hR (by omega) (st := [vI 1]) (Nat.le_of_ble_eq_true rfl) rfl (by decide +kernel) ?_
  refine gMax hO (idx := 95) (w := 1215) (by decide +kernel) hR (by omega) (st := []) (Nat.le_of_ble_eq_true rfl) rfl (by decide +kernel) ?_
  refine gBk (pe := 18) hO [o0 (.istore 4), o0 (.iload 4), oI (.iconst 1) 1, o0 .iadd, o0 (.istore 5)] (by decide +kernel) (And.intro (Nat.le_of_ble_eq_true rfl) (And.intro (Nat.le_of_ble_eq_true rfl) (show tWG K B 0 0 S I J 18 [some (vR 51), some (vI v1), some (vI v2), some (vI v3), some (vI (if 1 < (if v2 < 60 then v2 else 60) then (if v2 < 60 then v2 else 60) else 1)), some (vI ((if 1 < (if v2 < 60 then v2 else 60) then (if v2 < 60 then v2 else 60) else 1) + 1))] [] from ?_)))
  exact gWeak (L' := [some (vR 51), some (vI v1), none, some (vI v3), some (vI (if 1 < (if v2 < 60 then v2 else 60) then (if v2 < 60 then v2 else 60) else 1)), some (vI ((if 1 < (if v2 < 60 then v2 else 60) then (if v2 < 60 then v2 else 60) else 1) + 1))]) ⟨rfl, rfl, rfl, rfl, rfl, trivial⟩ (W5_bestPace_L18 hO hR hG t0 hQ n _ _ _ _ _ _ h))
set_option maxRecDepth 20000 in
theorem hc5_costFrom : tCV yX5_costFrom cX5_costFrom 4 (some .int) 3 := ⟨⟨(List.mem_of_getElem? (i := 1245) rfl), (List.mem_of_getElem? (i := 41) (by decide +kernel)), by decide +kernel⟩, (List.mem_of_getElem? (i := 1243) (by decide +kernel)), (List.mem_of_getElem? (i := 1244) (by decide +kernel))⟩
set_option maxRecDepth 100000 in
theorem M5_costFrom {l : Launch} {B : tB} {S : tSH} {I : tHI} {J : tHJ} {v1 : Int32} {v2 : Int32} {v3 : Int32} (t0 : ty S 51 5) (h : P5_costFrom S I J v1 v2 v3) : Met l yX5_costFrom (tWs yX5_costFrom cX5_costFrom 4 (some .int)) (tRm 2 0 0) (tPc B [vR 51, vI v1, vI v2, vI v3] S I J) (tQi B (tPp S I J (V5_costFrom S I J v1 v2 v3))) 0 0 (tA B) :=
  tEntry (by decide +kernel) [some (vR 51), some (vI v1), some (vI v2), some (vI v3)] rfl rfl (Nat.le_of_ble_eq_true rfl) (fun K hl hR hO hQ hG => by
  subst hl
  refine gBk (pe := 12) hO [o0 (.aload_n 0), oF (.getfield 18) 5 4 167 54, o0 (.iload_n 1), oI (.iconst 3) 3, o0 .imul, o0 (.iload_n 3), o0 .iadd, o0 .iaload, o0 (.iload_n 2), o0 (.iload_n 3)] (by decide +kernel) (And.intro t0 (And.intro rfl (And.intro (tGr.off hG t0 (k := 4) rfl) (And.intro (tin (tGr.len hG t0 (k := 4) rfl (by decide)) h.1) (show tWG K B 0 0 S I J 12 [some (vR 51), some (vI v1), some (vI v2), some (vI v3)] [vI v3, vI v2, vI (I 54 ((v1 * 3) + v3).toNatClampNeg)] from ?_)))))
  have h := h.2
  refine gIcNe hO (off := 7) (tgt := 19) (by decide +kernel) (by decide) (fun c1 => ?_) (fun c1 => ?_)
  · have h := h.1 c1
    refine gBk (pe := 21) hO [oI (.iconst 1) 1, o0 .iadd] (by decide +kernel) (show tWG K B 0 0 S I J 21 [some (vR 51), some (vI v1), some (vI v2), some (vI v3)] [vI ((I 54 ((v1 * 3) + v3).toNatClampNeg) + 1)] from ?_)
    exact gIret hO hQ (by decide +kernel) ⟨(Eq.symm (if_neg c1)), rfl⟩
  · have h := h.2 c1
    refine gBk (pe := 21) hO [oI (.iconst 0) 0, o0 (.goto 4), o0 .iadd] (by decide +kernel) (show tWG K B 0 0 S I J 21 [some (vR 51), some (vI v1), some (vI v2), some (vI v3)] [vI ((I 54 ((v1 * 3) + v3).toNatClampNeg) + 0)] from ?_)
    exact gIret hO hQ (by decide +kernel) ⟨(Eq.symm (if_pos c1)), rfl⟩)
set_option maxRecDepth 100000 in
theorem W5_bestLane_54 {K : tK} {B : tB} {S : tSH} {MC MS : Nat} (hO : tKO K B RX5 cX5_bestLane 5) (hR : kR K = tRm 3 MC MS) (hG : tGr S) {n : Nat} (t0 : ty S 51 5) {k : Int32 → tHI → tHJ → Prop} (hQ : tRet K B (tQi B (tPi S k)) 0 0 (some .int)) {I : tHI} {J : tHJ} {v3 : Int32} (h : F5_bestLane_54 n S k I J v3) : tWG K B 0 0 S I J 54 [none, none, none, some (vI v3), none] [] := by
  refine gBk (pe := 55) hO [o0 (.iload_n 3)] (by decide +kernel) (show tWG K B 0 0 S I J 55 [none, none, none, some (vI v3), none] [vI v3] from ?_)
  exact gIret hO hQ (by decide +kernel) ⟨rfl, h⟩
set_option maxRecDepth 100000 in
theorem W5_bestLane_13 {K : tK} {B : tB} {S : tSH} {MC MS : Nat} (hO : tKO K B RX5 cX5_bestLane 5) (hR : kR K = tRm 3 MC MS) (hG : tGr S) {n : Nat} (t0 : ty S 51 5) {k : Int32 → tHI → tHJ → Prop} (hQ : tRet K B (tQi B (tPi S k)) 0 0 (some .int)) {kb13 : tHI → tHJ → Int32 → Int32 → Int32 → Int32 → Prop} (hkb13 : ∀ (I : tHI) (J : tHJ) (v1 : Int32) (v2 : Int32) (v3 : Int32) (v4 : Int32), kb13 I J v1 v2 v3 v4 → tWG K B 0 0 S I J 13 [some (vR 51), some (vI v1), some (vI v2), some (vI v3), some (vI v4)] []) {I : tHI} {J : tHJ} {v1 : Int32} {v2 : Int32} {v3 : Int32} {v4 : Int32} (h : F5_bestLane_13 n S k kb13 I J v1 v2 v3 v4) : tWG K B 0 0 S I J 13 [some (vR 51), some (vI v1), some (vI v2), some (vI v3), some (vI v4)] [] := by
  refine gBk (pe := 18) hO [o0 (.iload 4), o0 (.iload_n 2), oI (.iconst 1) 1, o0 .iadd] (by decide +kernel) (show tWG K B 0 0 S I J 18 [some (vR 51), some (vI v1), some (vI v2), some (vI v3), some (vI v4)] [vI (v2 + 1), vI v4] from ?_)
  refine gIcGt hO (off := 36) (tgt := 54) (by decide +kernel) (by decide) (fun c1 => ?_) (fun c1 => ?_)
  · have h := h.1 c1
    exact gWeak (L' := [none, none, none, some (vI v3), none]) ⟨rfl, trivial⟩ (W5_bestLane_54 hO hR hG t0 hQ h)
  · have h := h.2 c1
    refine gBk (pe := 24) hO [o0 (.iload 4), oI (.iconst 3) 3] (by decide +kernel) (show tWG K B 0 0 S I J 24 [some (vR 51), some (vI v1), some (vI v2), some (vI v3), some (vI v4)] [vI 3, vI v4] from ?_)
    refine gIcGe hO (off := 30) (tgt := 54) (by decide +kernel) (by decide) (fun c2 => ?_) (fun c2 => ?_)
    · have h := h.1 c2
      exact gWeak (L' := [none, none, none, some (vI v3), none]) ⟨rfl, trivial⟩ (W5_bestLane_54 hO hR hG t0 hQ h)
    · have h := h.2 c2
      refine gBk (pe := 32) hO [o0 (.aload_n 0), o0 (.iload_n 1), o0 (.iload_n 2), o0 (.iload 4)] (by decide +kernel) (show tWG K B 0 0 S I J 32 [some (vR 51), some (vI v1), some (vI v2), some (vI v3), some (vI v4)] [vI v4, vI v2, vI v1, vR 51] from ?_)
      refine gCVi_p hO (M5_costFrom t0 h.1) hc5_costFrom (idx := 101) (w := 1242) (by decide +kernel) hR (by omega) t0 ⟨by decide, rfl⟩ (vs := [vI v1, vI v2, vI v4]) (st := []) ⟨rfl, Nat.le_of_ble_eq_true rfl, rfl⟩ (by decide +kernel) ?_
      have h := h.2
      refine gBk (pe := 39) hO [o0 (.aload_n 0), o0 (.iload_n 1), o0 (.iload_n 2), o0 (.iload_n 3)] (by decide +kernel) (show tWG K B 0 0 S I J 39 [some (vR 51), some (vI v1), some (vI v2), some (vI v3), some (vI v4)] [vI v3, vI v2, vI v1, vR 51, vI (V5_costFrom S I J v1 v2 v4)] from ?_)
      refine gCVi_p hO (M5_costFrom t0 h.1) hc5_costFrom (idx := 101) (w := 1242) (by decide +kernel) hR (by omega) t0 ⟨by decide, rfl⟩ (vs := [vI v1, vI v2, vI v3]) (st := [vI (V5_costFrom S I J v1 v2 v4)]) ⟨rfl, Nat.le_of_ble_eq_true rfl, rfl⟩ (by decide +kernel) ?_
      have h := h.2
      have hj3 : ∀ (m4 : Int32), m4 = (if (V5_costFrom S I J v1 v2 v3) ≤ (V5_costFrom S I J v1 v2 v4) then v3 else v4) → tWG K B 0 0 S I J 48 [some (vR 51), some (vI v1), some (vI v2), some (vI m4), some (vI v4)] [] := by
        intro m4 em4
        subst em4
        refine gBk (pe := 13) hO [oI (.iinc 4 1) 1, o0 (.goto (-38))] (by decide +kernel) (show tWG K B 0 0 S I J 13 [some (vR 51), some (vI v1), some (vI v2), some (vI (if (V5_costFrom S I J v1 v2 v3) ≤ (V5_costFrom S I J v1 v2 v4) then v3 else v4)), some (vI (v4 + 1))] [] from ?_)
        exact hkb13 _ _ _ _ _ _ h
      refine gIcGe hO (off := 6) (tgt := 48) (by decide +kernel) (by decide) (fun c5 => ?_) (fun c5 => ?_)
      · exact (hj3 _ (Eq.symm (if_pos c5)))
      · refine gBk (pe := 48) hO [o0 (.iload 4), o0 (.istore_n 3)] (by decide +kernel) (And.intro (Nat.le_of_ble_eq_true rfl) (show tWG K B 0 0 S I J 48 [some (vR 51), some (vI v1), some (vI v2), some (vI v4), some (vI v4)] [] from ?_))
        exact (hj3 _ (Eq.symm (if_neg c5)))
theorem W5_bestLane_L13 {K : tK} {B : tB} {S : tSH} {MC MS : Nat} (hO : tKO K B RX5 cX5_bestLane 5) (hR : kR K = tRm 3 MC MS) (hG : tGr S) {n : Nat} (t0 : ty S 51 5) {k : Int32 → tHI → tHJ → Prop} (hQ : tRet K B (tQi B (tPi S k)) 0 0 (some .int)) : ∀ (f : Nat) (I : tHI) (J : tHJ) (v1 : Int32) (v2 : Int32) (v3 : Int32) (v4 : Int32), F5_bestLane_L13 n S k f I J v1 v2 v3 v4 → tWG K B 0 0 S I J 13 [some (vR 51), some (vI v1), some (vI v2), some (vI v3), some (vI v4)] [] := by
  intro f
  induction f with
  | zero => intro I J v1 v2 v3 v4 h; exact h.elim
  | succ f ih => intro I J v1 v2 v3 v4 h; exact W5_bestLane_13 hO hR hG t0 hQ ih h
set_option maxRecDepth 20000 in
theorem hc5_bestLane : tCV yX5_bestLane cX5_bestLane 5 (some .int) 2 := ⟨⟨(List.mem_of_getElem? (i := 1241) rfl), (List.mem_of_getElem? (i := 41) (by decide +kernel)), by decide +kernel⟩, (List.mem_of_getElem? (i := 1239) (by decide +kernel)), (List.mem_of_getElem? (i := 1240) (by decide +kernel))⟩
set_option maxRecDepth 100000 in
theorem M5_bestLane {l : Launch} {B : tB} {S : tSH} {I : tHI} {J : tHJ} {v1 : Int32} {v2 : Int32} {n : Nat} {k : Int32 → tHI → tHJ → Prop} (t0 : ty S 51 5) (h : F5_bestLane n S I J v1 v2 k) : Met l yX5_bestLane (tWs yX5_bestLane cX5_bestLane 5 (some .int)) (tRm 3 0 0) (tPc B [vR 51, vI v1, vI v2] S I J) (tQi B (tPi S k)) 0 0 (tA B) :=
  tEntry (by decide +kernel) [some (vR 51), some (vI v1), some (vI v2), none, none] rfl rfl (Nat.le_of_ble_eq_true rfl) (fun K hl hR hO hQ hG => by
  subst hl
  refine gBk (pe := 4) hO [oI (.iconst 0) 0, o0 (.iload_n 2), oI (.iconst 1) 1, o0 .isub] (by decide +kernel) (show tWG K B 0 0 S I J 4 [some (vR 51), some (vI v1), some (vI v2), none, none] [vI (v2 - 1), vI 0] from ?_)
  refine gMax hO (idx := 95) (w := 1215) (by decide +kernel) hR (by omega) (st := []) (Nat.le_of_ble_eq_true rfl) rfl (by decide +kernel) ?_
  refine gBk (pe := 13) hO [o0 (.istore_n 3), o0 (.iload_n 3), oI (.iconst 1) 1, o0 .iadd, o0 (.istore 4)] (by decide +kernel) (And.intro (Nat.le_of_ble_eq_true rfl) (And.intro (Nat.le_of_ble_eq_true rfl) (show tWG K B 0 0 S I J 13 [some (vR 51), some (vI v1), some (vI v2), some (vI (if 0 < (v2 - 1) then (v2 - 1) else 0)), some (vI ((if 0 < (v2 - 1) then (v2 - 1) else 0) + 1))] [] from ?_)))
  exact W5_bestLane_L13 hO hR hG t0 hQ n _ _ _ _ _ _ h)
set_option maxRecDepth 100000 in
theorem W5_nextTry_97 {K : tK} {B : tB} {S : tSH} {MC MS : Nat} (hO : tKO K B RX5 cX5_nextTry 3) (hR : kR K = tRm 3 MC MS) (hG : tGr S) {n : Nat} (t0 : ty S 51 5) {k : Int32 → tHI → tHJ → Prop} (hQ : tRet K B (tQi B (tPb S k)) 0 0 (some .boolean)) {kb10 : tHI → tHJ → Int32 → Prop} (hkb10 : ∀ (I : tHI) (J : tHJ) (v2 : Int32), kb10 I J v2 → tWG K B 0 0 S I J 10 [some (vR 51), some (vR 2), some (vI v2)] []) {I : tHI} {J : tHJ} {v2 : Int32} (h : F5_nextTry_97 n S k kb10 I J v2) : tWG K B 0 0 S I J 97 [some (vR 51), some (vR 2), some (vI v2)] [] := by
  refine gBk (pe := 10) hO [oI (.iinc 2 (-1)) (-1), o0 (.goto (-90))] (by decide +kernel) (show tWG K B 0 0 S I J 10 [some (vR 51), some (vR 2), some (vI (v2 + (-1)))] [] from ?_)
  exact hkb10 _ _ _ h
set_option maxRecDepth 100000 in
theorem W5_nextTry_10 {K : tK} {B : tB} {S : tSH} {MC MS : Nat} (hO : tKO K B RX5 cX5_nextTry 3) (hR : kR K = tRm 3 MC MS) (hG : tGr S) {n : Nat} (t0 : ty S 51 5) {k : Int32 → tHI → tHJ → Prop} (hQ : tRet K B (tQi B (tPb S k)) 0 0 (some .boolean)) {kb10 : tHI → tHJ → Int32 → Prop} (hkb10 : ∀ (I : tHI) (J : tHJ) (v2 : Int32), kb10 I J v2 → tWG K B 0 0 S I J 10 [some (vR 51), some (vR 2), some (vI v2)] []) {I : tHI} {J : tHJ} {v2 : Int32} (h : F5_nextTry_10 n S k kb10 I J v2) : tWG K B 0 0 S I J 10 [some (vR 51), some (vR 2), some (vI v2)] [] := by
  refine gBk (pe := 11) hO [o0 (.iload_n 2)] (by decide +kernel) (show tWG K B 0 0 S I J 11 [some (vR 51), some (vR 2), some (vI v2)] [vI v2] from ?_)
  refine gIfLt hO (off := 92) (tgt := 103) (by decide +kernel) (by decide) (fun c1 => ?_) (fun c1 => ?_)
  · have h := h.1 c1
    refine gBk (pe := 104) hO [oI (.iconst 0) 0] (by decide +kernel) (show tWG K B 0 0 S I J 104 [some (vR 51), some (vR 2), some (vI v2)] [vI 0] from ?_)
    exact gZret hO hQ (by decide +kernel) (Or.inl rfl) ⟨rfl, (Or.inl rfl), h⟩
  · have h := h.2 c1
    refine gBk (pe := 16) hO [o0 (.aload_n 1), o0 (.iload_n 2)] (by decide +kernel) (show tWG K B 0 0 S I J 16 [some (vR 51), some (vR 2), some (vI v2)] [vI v2, vR 2] from ?_)
    refine gCVi_z hO (M3_has (tGr.off hG (tGr.abs hG t0 (k := 0) rfl) (k := 0) rfl)) hc3_has (idx := 114) (w := 1285) (by decide +kernel) hR (by omega) (tGr.off hG (tGr.abs hG t0 (k := 0) rfl) (k := 0) rfl) ⟨by decide, rfl⟩ (vs := [vI v2]) (st := []) ⟨rfl, Nat.le_of_ble_eq_true rfl, rfl⟩ (by decide +kernel) (fun z2 => ?_)
    refine gIfEq hO (off := 78) (tgt := 97) (by decide +kernel) (by decide) (fun c3 => ?_) (fun c3 => ?_)
    · have h := h.1 c3
      exact W5_nextTry_97 hO hR hG t0 hQ hkb10 h
    · have h := h.2 c3
      refine gBk (pe := 29) hO [o0 (.aload_n 1), oF (.getfield 120) 3 3 1282 5, o0 (.iload_n 2), o0 .iaload, oI (.iconst 1) 1] (by decide +kernel) (And.intro (tGr.off hG (tGr.abs hG t0 (k := 0) rfl) (k := 0) rfl) (And.intro rfl (And.intro (tGr.off hG (tGr.off hG (tGr.abs hG t0 (k := 0) rfl) (k := 0) rfl) (k := 3) rfl) (And.intro (tin (tGr.len hG (tGr.off hG (tGr.abs hG t0 (k := 0) rfl) (k := 0) rfl) (k := 3) rfl (by decide)) h.1) (show tWG K B 0 0 S I J 29 [some (vR 51), some (vR 2), some (vI v2)] [vI 1, vI (I 5 v2.toNatClampNeg)] from ?_)))))
      have h := h.2
      refine gIcEq hO (off := 6) (tgt := 35) (by decide +kernel) (by decide) (fun c4 => ?_) (fun c4 => ?_)
      · have h := h.1 c4
        refine gBk (pe := 42) hO [o0 (.aload_n 0), oF (.getfield 24) 5 6 169 56, o0 (.iload_n 2), o0 .iaload, oI (.iconst 2) 2] (by decide +kernel) (And.intro t0 (And.intro rfl (And.intro (tGr.off hG t0 (k := 6) rfl) (And.intro (tin (tGr.len hG t0 (k := 6) rfl (by decide)) h.1) (show tWG K B 0 0 S I J 42 [some (vR 51), some (vR 2), some (vI v2)] [vI 2, vI (I 56 v2.toNatClampNeg)] from ?_)))))
        have h := h.2
        refine gIcGe hO (off := 30) (tgt := 72) (by decide +kernel) (by decide) (fun c5 => ?_) (fun c5 => ?_)
        · have h := h.1 c5
          refine gBk (pe := 97) hO [o0 (.aload_n 0), oF (.getfield 24) 5 6 169 56, o0 (.iload_n 2), oI (.bipush (-2)) (-2), o0 .iastore, o0 (.aload_n 0), o0 .dup, oF (.getfield 30) 5 8 171 0, oI (.iconst 4) 4, o0 (.aload_n 1), oF (.getfield 123) 3 1 1283 3, o0 (.iload_n 2), o0 .iaload, o0 .imul, o0 .isub, oF (.putfield 30) 5 8 171 0] (by decide +kernel) (And.intro t0 (And.intro rfl (And.intro (tGr.off hG t0 (k := 6) rfl) (And.intro (tin (tGr.len hG t0 (k := 6) rfl (by decide)) h.1) (And.intro t0 (And.intro (tGr.off hG (tGr.abs hG t0 (k := 0) rfl) (k := 0) rfl) (And.intro rfl (And.intro (tGr.off hG (tGr.off hG (tGr.abs hG t0 (k := 0) rfl) (k := 0) rfl) (k := 1) rfl) (And.intro (tin (tGr.len hG (tGr.off hG (tGr.abs hG t0 (k := 0) rfl) (k := 0) rfl) (k := 1) rfl (by decide)) h.2.1) (And.intro t0 (show tWG K B 0 0 S (uI (uI I 56 v2.toNatClampNeg (-2)) 51 8 (((uI I 56 v2.toNatClampNeg (-2)) 51 8) - (4 * ((uI I 56 v2.toNatClampNeg (-2)) 3 v2.toNatClampNeg)))) J 97 [some (vR 51), some (vR 2), some (vI v2)] [] from ?_)))))))))))
          have h := h.2.2
          exact W5_nextTry_97 hO hR hG t0 hQ hkb10 h
        · have h := h.2 c5
          refine gBk (pe := 71) hO [o0 (.aload_n 0), oF (.getfield 24) 5 6 169 56, o0 (.iload_n 2), o0 .dup2, o0 .iaload, oI (.iconst 1) 1, o0 .iadd, o0 .iastore, o0 (.aload_n 0), o0 .dup, oF (.getfield 30) 5 8 171 0, o0 (.aload_n 1), oF (.getfield 123) 3 1 1283 3, o0 (.iload_n 2), o0 .iaload, o0 .iadd, oF (.putfield 30) 5 8 171 0, oI (.iconst 1) 1] (by decide +kernel) (And.intro t0 (And.intro rfl (And.intro (tGr.off hG t0 (k := 6) rfl) (And.intro (tin (tGr.len hG t0 (k := 6) rfl (by decide)) h.1) (And.intro (tGr.off hG t0 (k := 6) rfl) (And.intro (tin (tGr.len hG t0 (k := 6) rfl (by decide)) h.2.1) (And.intro t0 (And.intro (tGr.off hG (tGr.abs hG t0 (k := 0) rfl) (k := 0) rfl) (And.intro rfl (And.intro (tGr.off hG (tGr.off hG (tGr.abs hG t0 (k := 0) rfl) (k := 0) rfl) (k := 1) rfl) (And.intro (tin (tGr.len hG (tGr.off hG (tGr.abs hG t0 (k := 0) rfl) (k := 0) rfl) (k := 1) rfl (by decide)) h.2.2.1) (And.intro t0 (show tWG K B 0 0 S (uI (uI I 56 v2.toNatClampNeg ((I 56 v2.toNatClampNeg) + 1)) 51 8 (((uI I 56 v2.toNatClampNeg ((I 56 v2.toNatClampNeg) + 1)) 51 8) + ((uI I 56 v2.toNatClampNeg ((I 56 v2.toNatClampNeg) + 1)) 3 v2.toNatClampNeg))) J 71 [some (vR 51), some (vR 2), some (vI v2)] [vI 1] from ?_)))))))))))))
          have h := h.2.2.2
          exact gZret hO hQ (by decide +kernel) (Or.inr rfl) ⟨rfl, (Or.inr rfl), h⟩
      · have h := h.2 c4
        refine gBk (pe := 97) hO [o0 (.goto 65)] (by decide +kernel) (show tWG K B 0 0 S I J 97 [some (vR 51), some (vR 2), some (vI v2)] [] from ?_)
        exact W5_nextTry_97 hO hR hG t0 hQ hkb10 h
theorem W5_nextTry_L10 {K : tK} {B : tB} {S : tSH} {MC MS : Nat} (hO : tKO K B RX5 cX5_nextTry 3) (hR : kR K = tRm 3 MC MS) (hG : tGr S) {n : Nat} (t0 : ty S 51 5) {k : Int32 → tHI → tHJ → Prop} (hQ : tRet K B (tQi B (tPb S k)) 0 0 (some .boolean)) : ∀ (f : Nat) (I : tHI) (J : tHJ) (v2 : Int32), F5_nextTry_L10 n S k f I J v2 → tWG K B 0 0 S I J 10 [some (vR 51), some (vR 2), some (vI v2)] [] := by
  intro f
  induction f with
  | zero => intro I J v2 h; exact h.elim
  | succ f ih => intro I J v2 h; exact W5_nextTry_10 hO hR hG t0 hQ ih h
set_option maxRecDepth 20000 in
theorem hc5_nextTry : tCV yX5_nextTry cX5_nextTry 3 (some .boolean) 0 := ⟨⟨(List.mem_of_getElem? (i := 1294) rfl), (List.mem_of_getElem? (i := 41) (by decide +kernel)), by decide +kernel⟩, (List.mem_of_getElem? (i := 1292) (by decide +kernel)), (List.mem_of_getElem? (i := 1293) (by decide +kernel))⟩
set_option maxRecDepth 100000 in
theorem M5_nextTry {l : Launch} {B : tB} {S : tSH} {I : tHI} {J : tHJ} {n : Nat} {k : Int32 → tHI → tHJ → Prop} (t0 : ty S 51 5) (h : F5_nextTry n S I J k) : Met l yX5_nextTry (tWs yX5_nextTry cX5_nextTry 3 (some .boolean)) (tRm 3 0 0) (tPc B [vR 51] S I J) (tQi B (tPb S k)) 0 0 (tA B) :=
  tEntry (by decide +kernel) [some (vR 51), none, none] rfl rfl (Nat.le_of_ble_eq_true rfl) (fun K hl hR hO hQ hG => by
  subst hl
  refine gBk (pe := 10) hO [o0 (.aload_n 0), oF (.getfield 34) 5 0 172 1, oF (.getfield 110) 8 0 1281 2, o0 (.astore_n 1), oI (.iconst 5) 5, o0 (.istore_n 2)] (by decide +kernel) (And.intro t0 (And.intro rfl (And.intro (tGr.abs hG t0 (k := 0) rfl) (And.intro rfl (And.intro (Nat.le_of_ble_eq_true rfl) (And.intro (Nat.le_of_ble_eq_true rfl) (show tWG K B 0 0 S I J 10 [some (vR 51), some (vR 2), some (vI 5)] [] from ?_)))))))
  exact W5_nextTry_L10 hO hR hG t0 hQ n _ _ _ h)
set_option maxRecDepth 20000 in
theorem hc6_restart : tCV yX6_restart cX6_restart 1 none 0 := ⟨⟨(List.mem_of_getElem? (i := 619) rfl), (List.mem_of_getElem? (i := 120) (by decide +kernel)), by decide +kernel⟩, (List.mem_of_getElem? (i := 617) (by decide +kernel)), (List.mem_of_getElem? (i := 618) (by decide +kernel))⟩
set_option maxRecDepth 100000 in
theorem M6_restart {l : Launch} {B : tB} {S : tSH} {I : tHI} {J : tHJ} {a : Nat} {n : Nat} {k : tHI → tHJ → Prop} (t0 : ty S a 6) (h : F6_restart n S I J a k) : Met l yX6_restart (tWs yX6_restart cX6_restart 1 none) (tRm 2 0 0) (tPc B [vR a] S I J) (tQv B (tPv S k)) 0 0 (tA B) :=
  tEntry (by decide +kernel) [some (vR a)] rfl rfl (Nat.le_of_ble_eq_true rfl) (fun K hl hR hO hQ hG => by
  subst hl
  refine gBk (pe := 10) hO [o0 (.aload_n 0), oI (.iconst 0) 0, oF (.putfield 9) 6 4 134 0, o0 (.aload_n 0), oI (.iconst 0) 0, oF (.putfield 15) 6 5 135 0] (by decide +kernel) (And.intro t0 (And.intro t0 (show tWG K B 0 0 S (uI (uI I a 4 0) a 5 0) J 10 [some (vR a)] [] from ?_)))
  exact gVret hO hQ (by decide +kernel) ⟨rfl, h⟩)
set_option maxRecDepth 100000 in
theorem W6_emit_38 {K : tK} {B : tB} {S : tSH} {MC MS : Nat} (hO : tKO K B RX6 cX6_emit 3) (hR : kR K = tRm 2 MC MS) (hG : tGr S) {n : Nat} {a : Nat} (t0 : ty S a 6) {k : Int32 → tHI → tHJ → Prop} (hQ : tRet K B (tQi B (tPi S k)) 0 0 (some .int)) {I : tHI} {J : tHJ} (h : F6_emit_38 n S a k I J) : tWG K B 0 0 S I J 38 [some (vR a), none, none] [] := by
  refine gBk (pe := 44) hO [o0 (.aload_n 0), oF (.getfield 15) 6 5 135 0, oI (.iconst 1) 1, o0 .isub] (by decide +kernel) (And.intro t0 (show tWG K B 0 0 S I J 44 [some (vR a), none, none] [vI ((I a 5) - 1)] from ?_))
  exact gIret hO hQ (by decide +kernel) ⟨rfl, h⟩
set_option maxRecDepth 20000 in
theorem hc6_emit : tCV yX6_emit cX6_emit 3 (some .int) 2 := ⟨⟨(List.mem_of_getElem? (i := 709) rfl), (List.mem_of_getElem? (i := 120) (by decide +kernel)), by decide +kernel⟩, (List.mem_of_getElem? (i := 707) (by decide +kernel)), (List.mem_of_getElem? (i := 708) (by decide +kernel))⟩
set_option maxRecDepth 100000 in
theorem M6_emit {l : Launch} {B : tB} {S : tSH} {I : tHI} {J : tHJ} {a : Nat} {v1 : Int32} {v2 : Int32} {n : Nat} {k : Int32 → tHI → tHJ → Prop} (t0 : ty S a 6) (h : F6_emit n S I J a v1 v2 k) : Met l yX6_emit (tWs yX6_emit cX6_emit 3 (some .int)) (tRm 2 0 0) (tPc B [vR a, vI v1, vI v2] S I J) (tQi B (tPi S k)) 0 0 (tA B) :=
  tEntry (by decide +kernel) [some (vR a), some (vI v1), some (vI v2)] rfl rfl (Nat.le_of_ble_eq_true rfl) (fun K hl hR hO hQ hG => by
  subst hl
  refine gBk (pe := 9) hO [o0 (.aload_n 0), oF (.getfield 15) 6 5 135 0, o0 (.aload_n 0), oF (.getfield 24) 6 0 140 0, oF .arraylength 40 0 0 0] (by decide +kernel) (And.intro t0 (And.intro t0 (And.intro (tGr.off hG t0 (k := 0) rfl) (show tWG K B 0 0 S I J 9 [some (vR a), some (vI v1), some (vI v2)] [vI (Int32.ofNat (sL S (a + 1))), vI (I a 5)] from ?_))))
  refine gIcGe hO (off := 29) (tgt := 38) (by decide +kernel) (by decide) (fun c1 => ?_) (fun c1 => ?_)
  · have h := h.1 c1
    exact gWeak (L' := [some (vR a), none, none]) ⟨rfl, trivial⟩ (W6_emit_38 hO hR hG t0 hQ h)
  · have h := h.2 c1
    refine gBk (pe := 38) hO [o0 (.aload_n 0), oF (.getfield 24) 6 0 140 0, o0 (.aload_n 0), oF (.getfield 15) 6 5 135 0, o0 (.iload_n 1), oI (.sipush 1024) 1024, o0 .imul, o0 (.iload_n 2), o0 .iadd, o0 .iastore, o0 (.aload_n 0), o0 .dup, oF (.getfield 15) 6 5 135 0, oI (.iconst 1) 1, o0 .iadd, oF (.putfield 15) 6 5 135 0] (by decide +kernel) (And.intro t0 (And.intro t0 (And.intro (tGr.off hG t0 (k := 0) rfl) (And.intro h.1 (And.intro t0 (And.intro t0 (show tWG K B 0 0 S (uI (uI I (a + 1) (I a 5).toNatClampNeg ((v1 * 1024) + v2)) a 5 (((uI I (a + 1) (I a 5).toNatClampNeg ((v1 * 1024) + v2)) a 5) + 1)) J 38 [some (vR a), some (vI v1), some (vI v2)] [] from ?_)))))))
    have h := h.2
    exact gWeak (L' := [some (vR a), none, none]) ⟨rfl, trivial⟩ (W6_emit_38 hO hR hG t0 hQ h))
set_option maxRecDepth 100000 in
theorem W6_landFrom_25 {K : tK} {B : tB} {S : tSH} {MC MS : Nat} (hO : tKO K B RX6 cX6_landFrom 2) (hR : kR K = tRm 2 MC MS) (hG : tGr S) {n : Nat} {a : Nat} (t0 : ty S a 6) {k : tHI → tHJ → Prop} (hQ : tRet K B (tQv B (tPv S k)) 0 0 none) {I : tHI} {J : tHJ} (h : F6_landFrom_25 n S a k I J) : tWG K B 0 0 S I J 25 [none, none] [] := by
  exact gVret hO hQ (by decide +kernel) ⟨rfl, h⟩
set_option maxRecDepth 20000 in
theorem hc6_landFrom : tCV yX6_landFrom cX6_landFrom 2 none 1 := ⟨⟨(List.mem_of_getElem? (i := 737) rfl), (List.mem_of_getElem? (i := 120) (by decide +kernel)), by decide +kernel⟩, (List.mem_of_getElem? (i := 735) (by decide +kernel)), (List.mem_of_getElem? (i := 736) (by decide +kernel))⟩
set_option maxRecDepth 100000 in
theorem M6_landFrom {l : Launch} {B : tB} {S : tSH} {I : tHI} {J : tHJ} {a : Nat} {v1 : Int32} {n : Nat} {k : tHI → tHJ → Prop} (t0 : ty S a 6) (h : F6_landFrom n S I J a v1 k) : Met l yX6_landFrom (tWs yX6_landFrom cX6_landFrom 2 none) (tRm 2 0 0) (tPc B [vR a, vI v1] S I J) (tQv B (tPv S k)) 0 0 (tA B) :=
  tEntry (by decide +kernel) [some (vR a), some (vI v1)] rfl rfl (Nat.le_of_ble_eq_true rfl) (fun K hl hR hO hQ hG => by
  subst hl
  refine gBk (pe := 1) hO [o0 (.iload_n 1)] (by decide +kernel) (show tWG K B 0 0 S I J 1 [some (vR a), some (vI v1)] [vI v1] from ?_)
  refine gIfLt hO (off := 24) (tgt := 25) (by decide +kernel) (by decide) (fun c1 => ?_) (fun c1 => ?_)
  · have h := h.1 c1
    exact gWeak (L' := [none, none]) trivial (W6_landFrom_25 hO hR hG t0 hQ h)
  · have h := h.2 c1
    refine gBk (pe := 9) hO [o0 (.iload_n 1), o0 (.aload_n 0), oF (.getfield 15) 6 5 135 0] (by decide +kernel) (And.intro t0 (show tWG K B 0 0 S I J 9 [some (vR a), some (vI v1)] [vI (I a 5), vI v1] from ?_))
    refine gIcGe hO (off := 16) (tgt := 25) (by decide +kernel) (by decide) (fun c2 => ?_) (fun c2 => ?_)
    · have h := h.1 c2
      exact gWeak (L' := [none, none]) trivial (W6_landFrom_25 hO hR hG t0 hQ h)
    · have h := h.2 c2
      refine gBk (pe := 25) hO [o0 (.aload_n 0), oF (.getfield 24) 6 0 140 0, o0 (.iload_n 1), o0 .dup2, o0 .iaload, o0 (.aload_n 0), oF (.getfield 15) 6 5 135 0, o0 .iadd, o0 .iastore] (by decide +kernel) (And.intro t0 (And.intro (tGr.off hG t0 (k := 0) rfl) (And.intro h.1 (And.intro t0 (And.intro (tGr.off hG t0 (k := 0) rfl) (And.intro h.2.1 (show tWG K B 0 0 S (uI I (a + 1) v1.toNatClampNeg ((I (a + 1) v1.toNatClampNeg) + (I a 5))) J 25 [some (vR a), some (vI v1)] [] from ?_)))))))
      have h := h.2.2
      exact gWeak (L' := [none, none]) trivial (W6_landFrom_25 hO hR hG t0 hQ h))
set_option maxRecDepth 100000 in
theorem W6_beginSpan_32 {K : tK} {B : tB} {S : tSH} {MC MS : Nat} (hO : tKO K B RX6 cX6_beginSpan 3) (hR : kR K = tRm 2 MC MS) (hG : tGr S) {n : Nat} {a : Nat} (t0 : ty S a 6) {k : tHI → tHJ → Prop} (hQ : tRet K B (tQv B (tPv S k)) 0 0 none) {I : tHI} {J : tHJ} (h : F6_beginSpan_32 n S a k I J) : tWG K B 0 0 S I J 32 [none, none, none] [] := by
  exact gVret hO hQ (by decide +kernel) ⟨rfl, h⟩
set_option maxRecDepth 20000 in
theorem hc6_beginSpan : tCV yX6_beginSpan cX6_beginSpan 3 none 1 := ⟨⟨(List.mem_of_getElem? (i := 694) rfl), (List.mem_of_getElem? (i := 120) (by decide +kernel)), by decide +kernel⟩, (List.mem_of_getElem? (i := 692) (by decide +kernel)), (List.mem_of_getElem? (i := 693) (by decide +kernel))⟩
set_option maxRecDepth 100000 in
theorem M6_beginSpan {l : Launch} {B : tB} {S : tSH} {I : tHI} {J : tHJ} {a : Nat} {v1 : Int32} {n : Nat} {k : tHI → tHJ → Prop} (t0 : ty S a 6) (h : F6_beginSpan n S I J a v1 k) : Met l yX6_beginSpan (tWs yX6_beginSpan cX6_beginSpan 3 none) (tRm 2 0 0) (tPc B [vR a, vI v1] S I J) (tQv B (tPv S k)) 0 0 (tA B) :=
  tEntry (by decide +kernel) [some (vR a), some (vI v1), none] rfl rfl (Nat.le_of_ble_eq_true rfl) (fun K hl hR hO hQ hG => by
  subst hl
  refine gBk (pe := 10) hO [o0 (.aload_n 0), oF (.getfield 9) 6 4 134 0, oI (.iconst 3) 3, o0 .imul, o0 (.iload_n 1), o0 .iadd, o0 (.istore_n 2), o0 (.iload_n 2)] (by decide +kernel) (And.intro t0 (And.intro (Nat.le_of_ble_eq_true rfl) (show tWG K B 0 0 S I J 10 [some (vR a), some (vI v1), some (vI (((I a 4) * 3) + v1))] [vI (((I a 4) * 3) + v1)] from ?_)))
  refine gIfLt hO (off := 22) (tgt := 32) (by decide +kernel) (by decide) (fun c1 => ?_) (fun c1 => ?_)
  · have h := h.1 c1
    exact gWeak (L' := [none, none, none]) trivial (W6_beginSpan_32 hO hR hG t0 hQ h)
  · have h := h.2 c1
    refine gBk (pe := 19) hO [o0 (.iload_n 2), o0 (.aload_n 0), oF (.getfield 34) 6 3 143 0, oF .arraylength 40 0 0 0] (by decide +kernel) (And.intro t0 (And.intro (tGr.off hG t0 (k := 3) rfl) (show tWG K B 0 0 S I J 19 [some (vR a), some (vI v1), some (vI (((I a 4) * 3) + v1))] [vI (Int32.ofNat (sL S (a + 4))), vI (((I a 4) * 3) + v1)] from ?_)))
    refine gIcGe hO (off := 13) (tgt := 32) (by decide +kernel) (by decide) (fun c2 => ?_) (fun c2 => ?_)
    · have h := h.1 c2
      exact gWeak (L' := [none, none, none]) trivial (W6_beginSpan_32 hO hR hG t0 hQ h)
    · have h := h.2 c2
      refine gBk (pe := 32) hO [o0 (.aload_n 0), oF (.getfield 34) 6 3 143 0, o0 (.iload_n 2), o0 (.aload_n 0), oF (.getfield 15) 6 5 135 0, o0 .iastore] (by decide +kernel) (And.intro t0 (And.intro t0 (And.intro (tGr.off hG t0 (k := 3) rfl) (And.intro h.1 (show tWG K B 0 0 S (uI I (a + 4) (((I a 4) * 3) + v1).toNatClampNeg (I a 5)) J 32 [some (vR a), some (vI v1), some (vI (((I a 4) * 3) + v1))] [] from ?_)))))
      have h := h.2
      exact gWeak (L' := [none, none, none]) trivial (W6_beginSpan_32 hO hR hG t0 hQ h))
set_option maxRecDepth 100000 in
theorem W6_close_47 {K : tK} {B : tB} {S : tSH} {MC MS : Nat} (hO : tKO K B RX6 cX6_close 3) (hR : kR K = tRm 3 MC MS) (hG : tGr S) {n : Nat} {a : Nat} (t0 : ty S a 6) {k : tHI → tHJ → Prop} (hQ : tRet K B (tQv B (tPv S k)) 0 0 none) {I : tHI} {J : tHJ} (h : F6_close_47 n S a k I J) : tWG K B 0 0 S I J 47 [none, none, none] [] := by
  exact gVret hO hQ (by decide +kernel) ⟨rfl, h⟩
set_option maxRecDepth 20000 in
theorem hc6_close : tCV yX6_close cX6_close 3 none 2 := ⟨⟨(List.mem_of_getElem? (i := 746) rfl), (List.mem_of_getElem? (i := 120) (by decide +kernel)), by decide +kernel⟩, (List.mem_of_getElem? (i := 744) (by decide +kernel)), (List.mem_of_getElem? (i := 745) (by decide +kernel))⟩
set_option maxRecDepth 100000 in
theorem M6_close {l : Launch} {B : tB} {S : tSH} {I : tHI} {J : tHJ} {a : Nat} {v1 : Int32} {v2 : Int32} {n : Nat} {k : tHI → tHJ → Prop} (t0 : ty S a 6) (h : F6_close n S I J a v1 v2 k) : Met l yX6_close (tWs yX6_close cX6_close 3 none) (tRm 3 0 0) (tPc B [vR a, vI v1, vI v2] S I J) (tQv B (tPv S k)) 0 0 (tA B) :=
  tEntry (by decide +kernel) [some (vR a), some (vI v1), some (vI v2)] rfl rfl (Nat.le_of_ble_eq_true rfl) (fun K hl hR hO hQ hG => by
  subst hl
  refine gBk (pe := 9) hO [o0 (.aload_n 0), oF (.getfield 9) 6 4 134 0, o0 (.aload_n 0), oF (.getfield 28) 6 1 141 0, oF .arraylength 40 0 0 0] (by decide +kernel) (And.intro t0 (And.intro t0 (And.intro (tGr.off hG t0 (k := 1) rfl) (show tWG K B 0 0 S I J 9 [some (vR a), some (vI v1), some (vI v2)] [vI (Int32.ofNat (sL S (a + 2))), vI (I a 4)] from ?_))))
  refine gIcGe hO (off := 38) (tgt := 47) (by decide +kernel) (by decide) (fun c1 => ?_) (fun c1 => ?_)
  · have h := h.1 c1
    exact gWeak (L' := [none, none, none]) trivial (W6_close_47 hO hR hG t0 hQ h)
  · have h := h.2 c1
    refine gBk (pe := 44) hO [o0 (.aload_n 0), oF (.getfield 28) 6 1 141 0, o0 (.aload_n 0), oF (.getfield 9) 6 4 134 0, o0 (.iload_n 1), o0 .iastore, o0 (.aload_n 0), oF (.getfield 31) 6 2 142 0, o0 (.aload_n 0), oF (.getfield 9) 6 4 134 0, o0 (.iload_n 2), o0 .iastore, o0 (.aload_n 0), o0 .dup, oF (.getfield 9) 6 4 134 0, oI (.iconst 1) 1, o0 .iadd, oF (.putfield 9) 6 4 134 0, o0 (.aload_n 0), oI (.iconst 0) 0] (by decide +kernel) (And.intro t0 (And.intro t0 (And.intro (tGr.off hG t0 (k := 1) rfl) (And.intro h.1 (And.intro t0 (And.intro t0 (And.intro (tGr.off hG t0 (k := 2) rfl) (And.intro h.2.1 (And.intro t0 (And.intro t0 (show tWG K B 0 0 S (uI (uI (uI I (a + 2) (I a 4).toNatClampNeg v1) (a + 3) ((uI I (a + 2) (I a 4).toNatClampNeg v1) a 4).toNatClampNeg v2) a 4 (((uI (uI I (a + 2) (I a 4).toNatClampNeg v1) (a + 3) ((uI I (a + 2) (I a 4).toNatClampNeg v1) a 4).toNatClampNeg v2) a 4) + 1)) J 44 [some (vR a), some (vI v1), some (vI v2)] [vI 0, vR a] from ?_)))))))))))
    have h := h.2.2
    refine gCVv_c hO (M6_beginSpan t0 h) hc6_beginSpan (idx := 46) (w := 747) (by decide +kernel) hR (by omega) t0 ⟨by decide, rfl⟩ (vs := [vI 0]) (st := []) ⟨rfl, Nat.le_of_ble_eq_true rfl, rfl⟩ (by decide +kernel) (fun I2 J3 h => ?_)
    exact gWeak (L' := [none, none, none]) trivial (W6_close_47 hO hR hG t0 hQ h))
set_option maxRecDepth 20000 in
theorem hc6_kindOf : tCV yX6_kindOf cX6_kindOf 2 (some .int) 1 := ⟨⟨(List.mem_of_getElem? (i := 285) rfl), (List.mem_of_getElem? (i := 120) (by decide +kernel)), by decide +kernel⟩, (List.mem_of_getElem? (i := 283) (by decide +kernel)), (List.mem_of_getElem? (i := 284) (by decide +kernel))⟩
set_option maxRecDepth 100000 in
theorem M6_kindOf {l : Launch} {B : tB} {S : tSH} {I : tHI} {J : tHJ} {a : Nat} {v1 : Int32} (t0 : ty S a 6) (h : P6_kindOf S I J a v1) : Met l yX6_kindOf (tWs yX6_kindOf cX6_kindOf 2 (some .int)) (tRm 2 0 0) (tPc B [vR a, vI v1] S I J) (tQi B (tPp S I J (V6_kindOf S I J a v1))) 0 0 (tA B) :=
  tEntry (by decide +kernel) [some (vR a), some (vI v1)] rfl rfl (Nat.le_of_ble_eq_true rfl) (fun K hl hR hO hQ hG => by
  subst hl
  refine gBk (pe := 1) hO [o0 (.iload_n 1)] (by decide +kernel) (show tWG K B 0 0 S I J 1 [some (vR a), some (vI v1)] [vI v1] from ?_)
  refine gIfLt hO (off := 20) (tgt := 21) (by decide +kernel) (by decide) (fun c1 => ?_) (fun c1 => ?_)
  · have h := h.1 c1
    refine gBk (pe := 22) hO [oI (.iconst (-1)) (-1)] (by decide +kernel) (show tWG K B 0 0 S I J 22 [some (vR a), some (vI v1)] [vI (-1)] from ?_)
    exact gIret hO hQ (by decide +kernel) ⟨(Eq.symm (if_pos c1)), rfl⟩
  · have h := h.2 c1
    refine gBk (pe := 9) hO [o0 (.iload_n 1), o0 (.aload_n 0), oF (.getfield 9) 6 4 134 0] (by decide +kernel) (And.intro t0 (show tWG K B 0 0 S I J 9 [some (vR a), some (vI v1)] [vI (I a 4), vI v1] from ?_))
    refine gIcGe hO (off := 12) (tgt := 21) (by decide +kernel) (by decide) (fun c2 => ?_) (fun c2 => ?_)
    · have h := h.1 c2
      refine gBk (pe := 22) hO [oI (.iconst (-1)) (-1)] (by decide +kernel) (show tWG K B 0 0 S I J 22 [some (vR a), some (vI v1)] [vI (-1)] from ?_)
      exact gIret hO hQ (by decide +kernel) ⟨(Eq.symm ((if_neg c1).trans (if_pos c2))), rfl⟩
    · have h := h.2 c2
      refine gBk (pe := 22) hO [o0 (.aload_n 0), oF (.getfield 28) 6 1 141 0, o0 (.iload_n 1), o0 .iaload, o0 (.goto 4)] (by decide +kernel) (And.intro t0 (And.intro (tGr.off hG t0 (k := 1) rfl) (And.intro h.1 (show tWG K B 0 0 S I J 22 [some (vR a), some (vI v1)] [vI (I (a + 2) v1.toNatClampNeg)] from ?_))))
      have h := h.2
      exact gIret hO hQ (by decide +kernel) ⟨(Eq.symm ((if_neg c1).trans (if_neg c2))), rfl⟩)
set_option maxRecDepth 20000 in
theorem hc6_timesOf : tCV yX6_timesOf cX6_timesOf 2 (some .int) 1 := ⟨⟨(List.mem_of_getElem? (i := 928) rfl), (List.mem_of_getElem? (i := 120) (by decide +kernel)), by decide +kernel⟩, (List.mem_of_getElem? (i := 926) (by decide +kernel)), (List.mem_of_getElem? (i := 927) (by decide +kernel))⟩
set_option maxRecDepth 100000 in
theorem M6_timesOf {l : Launch} {B : tB} {S : tSH} {I : tHI} {J : tHJ} {a : Nat} {v1 : Int32} (t0 : ty S a 6) (h : P6_timesOf S I J a v1) : Met l yX6_timesOf (tWs yX6_timesOf cX6_timesOf 2 (some .int)) (tRm 2 0 0) (tPc B [vR a, vI v1] S I J) (tQi B (tPp S I J (V6_timesOf S I J a v1))) 0 0 (tA B) :=
  tEntry (by decide +kernel) [some (vR a), some (vI v1)] rfl rfl (Nat.le_of_ble_eq_true rfl) (fun K hl hR hO hQ hG => by
  subst hl
  refine gBk (pe := 1) hO [o0 (.iload_n 1)] (by decide +kernel) (show tWG K B 0 0 S I J 1 [some (vR a), some (vI v1)] [vI v1] from ?_)
  refine gIfLt hO (off := 20) (tgt := 21) (by decide +kernel) (by decide) (fun c1 => ?_) (fun c1 => ?_)
  · have h := h.1 c1
    refine gBk (pe := 22) hO [oI (.iconst 0) 0] (by decide +kernel) (show tWG K B 0 0 S I J 22 [some (vR a), some (vI v1)] [vI 0] from ?_)
    exact gIret hO hQ (by decide +kernel) ⟨(Eq.symm (if_pos c1)), rfl⟩
  · have h := h.2 c1
    refine gBk (pe := 9) hO [o0 (.iload_n 1), o0 (.aload_n 0), oF (.getfield 9) 6 4 134 0] (by decide +kernel) (And.intro t0 (show tWG K B 0 0 S I J 9 [some (vR a), some (vI v1)] [vI (I a 4), vI v1] from ?_))
    refine gIcGe hO (off := 12) (tgt := 21) (by decide +kernel) (by decide) (fun c2 => ?_) (fun c2 => ?_)
    · have h := h.1 c2
      refine gBk (pe := 22) hO [oI (.iconst 0) 0] (by decide +kernel) (show tWG K B 0 0 S I J 22 [some (vR a), some (vI v1)] [vI 0] from ?_)
      exact gIret hO hQ (by decide +kernel) ⟨(Eq.symm ((if_neg c1).trans (if_pos c2))), rfl⟩
    · have h := h.2 c2
      refine gBk (pe := 22) hO [o0 (.aload_n 0), oF (.getfield 31) 6 2 142 0, o0 (.iload_n 1), o0 .iaload, o0 (.goto 4)] (by decide +kernel) (And.intro t0 (And.intro (tGr.off hG t0 (k := 2) rfl) (And.intro h.1 (show tWG K B 0 0 S I J 22 [some (vR a), some (vI v1)] [vI (I (a + 3) v1.toNatClampNeg)] from ?_))))
      have h := h.2
      exact gIret hO hQ (by decide +kernel) ⟨(Eq.symm ((if_neg c1).trans (if_neg c2))), rfl⟩)
set_option maxRecDepth 20000 in
theorem hc6_spanStart : tCV yX6_spanStart cX6_spanStart 4 (some .int) 2 := ⟨⟨(List.mem_of_getElem? (i := 293) rfl), (List.mem_of_getElem? (i := 120) (by decide +kernel)), by decide +kernel⟩, (List.mem_of_getElem? (i := 291) (by decide +kernel)), (List.mem_of_getElem? (i := 292) (by decide +kernel))⟩
set_option maxRecDepth 100000 in
theorem M6_spanStart {l : Launch} {B : tB} {S : tSH} {I : tHI} {J : tHJ} {a : Nat} {v1 : Int32} {v2 : Int32} (t0 : ty S a 6) (h : P6_spanStart S I J a v1 v2) : Met l yX6_spanStart (tWs yX6_spanStart cX6_spanStart 4 (some .int)) (tRm 2 0 0) (tPc B [vR a, vI v1, vI v2] S I J) (tQi B (tPp S I J (V6_spanStart S I J a v1 v2))) 0 0 (tA B) :=
  tEntry (by decide +kernel) [some (vR a), some (vI v1), some (vI v2), none] rfl rfl (Nat.le_of_ble_eq_true rfl) (fun K hl hR hO hQ hG => by
  subst hl
  refine gBk (pe := 7) hO [o0 (.iload_n 1), oI (.iconst 3) 3, o0 .imul, o0 (.iload_n 2), o0 .iadd, o0 (.istore_n 3), o0 (.iload_n 3)] (by decide +kernel) (And.intro (Nat.le_of_ble_eq_true rfl) (show tWG K B 0 0 S I J 7 [some (vR a), some (vI v1), some (vI v2), some (vI ((v1 * 3) + v2))] [vI ((v1 * 3) + v2)] from ?_))
  refine gIfLt hO (off := 21) (tgt := 28) (by decide +kernel) (by decide) (fun c1 => ?_) (fun c1 => ?_)
  · have h := h.1 c1
    refine gBk (pe := 29) hO [oI (.iconst 0) 0] (by decide +kernel) (show tWG K B 0 0 S I J 29 [some (vR a), some (vI v1), some (vI v2), some (vI ((v1 * 3) + v2))] [vI 0] from ?_)
    exact gIret hO hQ (by decide +kernel) ⟨(Eq.symm (if_pos c1)), rfl⟩
  · have h := h.2 c1
    refine gBk (pe := 16) hO [o0 (.iload_n 3), o0 (.aload_n 0), oF (.getfield 34) 6 3 143 0, oF .arraylength 40 0 0 0] (by decide +kernel) (And.intro t0 (And.intro (tGr.off hG t0 (k := 3) rfl) (show tWG K B 0 0 S I J 16 [some (vR a), some (vI v1), some (vI v2), some (vI ((v1 * 3) + v2))] [vI (Int32.ofNat (sL S (a + 4))), vI ((v1 * 3) + v2)] from ?_)))
    refine gIcGe hO (off := 12) (tgt := 28) (by decide +kernel) (by decide) (fun c2 => ?_) (fun c2 => ?_)
    · have h := h.1 c2
      refine gBk (pe := 29) hO [oI (.iconst 0) 0] (by decide +kernel) (show tWG K B 0 0 S I J 29 [some (vR a), some (vI v1), some (vI v2), some (vI ((v1 * 3) + v2))] [vI 0] from ?_)
      exact gIret hO hQ (by decide +kernel) ⟨(Eq.symm ((if_neg c1).trans (if_pos c2))), rfl⟩
    · have h := h.2 c2
      refine gBk (pe := 29) hO [o0 (.aload_n 0), oF (.getfield 34) 6 3 143 0, o0 (.iload_n 3), o0 .iaload, o0 (.goto 4)] (by decide +kernel) (And.intro t0 (And.intro (tGr.off hG t0 (k := 3) rfl) (And.intro h.1 (show tWG K B 0 0 S I J 29 [some (vR a), some (vI v1), some (vI v2), some (vI ((v1 * 3) + v2))] [vI (I (a + 4) ((v1 * 3) + v2).toNatClampNeg)] from ?_))))
      have h := h.2
      exact gIret hO hQ (by decide +kernel) ⟨(Eq.symm ((if_neg c1).trans (if_neg c2))), rfl⟩)
set_option maxRecDepth 20000 in
theorem hc7_has : tCV yX7_has cX7_has 2 (some .boolean) 1 := ⟨⟨(List.mem_of_getElem? (i := 442) rfl), (List.mem_of_getElem? (i := 65) (by decide +kernel)), by decide +kernel⟩, (List.mem_of_getElem? (i := 440) (by decide +kernel)), (List.mem_of_getElem? (i := 441) (by decide +kernel))⟩
set_option maxRecDepth 100000 in
theorem M7_has {l : Launch} {B : tB} {S : tSH} {I : tHI} {J : tHJ} {a : Nat} {v1 : Int32} (t0 : ty S a 7) : Met l yX7_has (tWs yX7_has cX7_has 2 (some .boolean)) (tRm 2 0 0) (tPc B [vR a, vI v1] S I J) (tQi B (tPz S I J (V7_has S I J a v1))) 0 0 (tA B) :=
  tEntry (by decide +kernel) [some (vR a), some (vI v1)] rfl rfl (Nat.le_of_ble_eq_true rfl) (fun K hl hR hO hQ hG => by
  subst hl
  refine gBk (pe := 1) hO [o0 (.iload_n 1)] (by decide +kernel) (show tWG K B 0 0 S I J 1 [some (vR a), some (vI v1)] [vI v1] from ?_)
  refine gIfLt hO (off := 21) (tgt := 22) (by decide +kernel) (by decide) (fun c1 => ?_) (fun c1 => ?_)
  · refine gBk (pe := 23) hO [oI (.iconst 0) 0] (by decide +kernel) (show tWG K B 0 0 S I J 23 [some (vR a), some (vI v1)] [vI 0] from ?_)
    exact gZret hO hQ (by decide +kernel) (Or.inl rfl) ⟨(Eq.symm (if_pos c1)), (Or.inl rfl), rfl⟩
  · refine gBk (pe := 9) hO [o0 (.iload_n 1), o0 (.aload_n 0), oF (.getfield 9) 7 0 84 0] (by decide +kernel) (And.intro t0 (show tWG K B 0 0 S I J 9 [some (vR a), some (vI v1)] [vI (I a 0), vI v1] from ?_))
    refine gIcGe hO (off := 13) (tgt := 22) (by decide +kernel) (by decide) (fun c2 => ?_) (fun c2 => ?_)
    · refine gBk (pe := 23) hO [oI (.iconst 0) 0] (by decide +kernel) (show tWG K B 0 0 S I J 23 [some (vR a), some (vI v1)] [vI 0] from ?_)
      exact gZret hO hQ (by decide +kernel) (Or.inl rfl) ⟨(Eq.symm ((if_neg c1).trans (if_pos c2))), (Or.inl rfl), rfl⟩
    · refine gBk (pe := 15) hO [o0 (.iload_n 1), oI (.bipush 12) 12] (by decide +kernel) (show tWG K B 0 0 S I J 15 [some (vR a), some (vI v1)] [vI 12, vI v1] from ?_)
      refine gIcGe hO (off := 7) (tgt := 22) (by decide +kernel) (by decide) (fun c3 => ?_) (fun c3 => ?_)
      · refine gBk (pe := 23) hO [oI (.iconst 0) 0] (by decide +kernel) (show tWG K B 0 0 S I J 23 [some (vR a), some (vI v1)] [vI 0] from ?_)
        exact gZret hO hQ (by decide +kernel) (Or.inl rfl) ⟨(Eq.symm ((if_neg c1).trans ((if_neg c2).trans (if_pos c3)))), (Or.inl rfl), rfl⟩
      · refine gBk (pe := 23) hO [oI (.iconst 1) 1, o0 (.goto 4)] (by decide +kernel) (show tWG K B 0 0 S I J 23 [some (vR a), some (vI v1)] [vI 1] from ?_)
        exact gZret hO hQ (by decide +kernel) (Or.inr rfl) ⟨(Eq.symm ((if_neg c1).trans ((if_neg c2).trans (if_neg c3)))), (Or.inr rfl), rfl⟩)
set_option maxRecDepth 20000 in
theorem hc7_add : tCV yX7_add cX7_add 5 (some .int) 4 := ⟨⟨(List.mem_of_getElem? (i := 406) rfl), (List.mem_of_getElem? (i := 65) (by decide +kernel)), by decide +kernel⟩, (List.mem_of_getElem? (i := 404) (by decide +kernel)), (List.mem_of_getElem? (i := 405) (by decide +kernel))⟩
set_option maxRecDepth 100000 in
theorem M7_add {l : Launch} {B : tB} {S : tSH} {I : tHI} {J : tHJ} {a : Nat} {v1 : Int32} {v2 : Int32} {v3 : Int32} {v4 : Int32} {n : Nat} {k : Int32 → tHI → tHJ → Prop} (t0 : ty S a 7) (h : F7_add n S I J a v1 v2 v3 v4 k) : Met l yX7_add (tWs yX7_add cX7_add 5 (some .int)) (tRm 2 0 0) (tPc B [vR a, vI v1, vI v2, vI v3, vI v4] S I J) (tQi B (tPi S k)) 0 0 (tA B) :=
  tEntry (by decide +kernel) [some (vR a), some (vI v1), some (vI v2), some (vI v3), some (vI v4)] rfl rfl (Nat.le_of_ble_eq_true rfl) (fun K hl hR hO hQ hG => by
  subst hl
  refine gBk (pe := 6) hO [o0 (.aload_n 0), oF (.getfield 9) 7 0 84 0, oI (.bipush 12) 12] (by decide +kernel) (And.intro t0 (show tWG K B 0 0 S I J 6 [some (vR a), some (vI v1), some (vI v2), some (vI v3), some (vI v4)] [vI 12, vI (I a 0)] from ?_))
  refine gIcLt hO (off := 6) (tgt := 12) (by decide +kernel) (by decide) (fun c1 => ?_) (fun c1 => ?_)
  · have h := h.1 c1
    refine gBk (pe := 69) hO [o0 (.aload_n 0), oF (.getfield 15) 7 1 85 0, o0 (.aload_n 0), oF (.getfield 9) 7 0 84 0, o0 (.iload_n 1), o0 .iastore, o0 (.aload_n 0), oF (.getfield 19) 7 2 86 0, o0 (.aload_n 0), oF (.getfield 9) 7 0 84 0, o0 (.iload_n 2), o0 .iastore, o0 (.aload_n 0), oF (.getfield 22) 7 3 87 0, o0 (.aload_n 0), oF (.getfield 9) 7 0 84 0, o0 (.iload_n 3), o0 .iastore, o0 (.aload_n 0), oF (.getfield 25) 7 4 88 0, o0 (.aload_n 0), oF (.getfield 9) 7 0 84 0, o0 (.iload 4), o0 .iastore, o0 (.aload_n 0), o0 .dup, oF (.getfield 9) 7 0 84 0, oI (.iconst 1) 1, o0 .iadd, oF (.putfield 9) 7 0 84 0, o0 (.aload_n 0), oF (.getfield 9) 7 0 84 0, oI (.iconst 1) 1, o0 .isub] (by decide +kernel) (And.intro t0 (And.intro t0 (And.intro (tGr.off hG t0 (k := 1) rfl) (And.intro (tin (tGr.len hG t0 (k := 1) rfl (by decide)) h.1) (And.intro t0 (And.intro t0 (And.intro (tGr.off hG t0 (k := 2) rfl) (And.intro (tin (tGr.len hG t0 (k := 2) rfl (by decide)) h.2.1) (And.intro t0 (And.intro t0 (And.intro (tGr.off hG t0 (k := 3) rfl) (And.intro (tin (tGr.len hG t0 (k := 3) rfl (by decide)) h.2.2.1) (And.intro t0 (And.intro t0 (And.intro (tGr.off hG t0 (k := 4) rfl) (And.intro (tin (tGr.len hG t0 (k := 4) rfl (by decide)) h.2.2.2.1) (And.intro t0 (And.intro t0 (And.intro t0 (show tWG K B 0 0 S (uI (uI (uI (uI (uI I (a + 1) (I a 0).toNatClampNeg v1) (a + 2) ((uI I (a + 1) (I a 0).toNatClampNeg v1) a 0).toNatClampNeg v2) (a + 3) ((uI (uI I (a + 1) (I a 0).toNatClampNeg v1) (a + 2) ((uI I (a + 1) (I a 0).toNatClampNeg v1) a 0).toNatClampNeg v2) a 0).toNatClampNeg v3) (a + 4) ((uI (uI (uI I (a + 1) (I a 0).toNatClampNeg v1) (a + 2) ((uI I (a + 1) (I a 0).toNatClampNeg v1) a 0).toNatClampNeg v2) (a + 3) ((uI (uI I (a + 1) (I a 0).toNatClampNeg v1) (a + 2) ((uI I (a + 1) (I a 0).toNatClampNeg v1) a 0).toNatClampNeg v2) a 0).toNatClampNeg v3) a 0).toNatClampNeg v4) a 0 (((uI (uI (uI (uI I (a + 1) (I a 0).toNatClampNeg v1) (a + 2) ((uI I (a + 1) (I a 0).toNatClampNeg v1) a 0).toNatClampNeg v2) (a + 3) ((uI (uI I (a + 1) (I a 0).toNatClampNeg v1) (a + 2) ((uI I (a + 1) (I a 0).toNatClampNeg v1) a 0).toNatClampNeg v2) a 0).toNatClampNeg v3) (a + 4) ((uI (uI (uI I (a + 1) (I a 0).toNatClampNeg v1) (a + 2) ((uI I (a + 1) (I a 0).toNatClampNeg v1) a 0).toNatClampNeg v2) (a + 3) ((uI (uI I (a + 1) (I a 0).toNatClampNeg v1) (a + 2) ((uI I (a + 1) (I a 0).toNatClampNeg v1) a 0).toNatClampNeg v2) a 0).toNatClampNeg v3) a 0).toNatClampNeg v4) a 0) + 1)) J 69 [some (vR a), some (vI v1), some (vI v2), some (vI v3), some (vI v4)] [vI (((uI (uI (uI (uI (uI I (a + 1) (I a 0).toNatClampNeg v1) (a + 2) ((uI I (a + 1) (I a 0).toNatClampNeg v1) a 0).toNatClampNeg v2) (a + 3) ((uI (uI I (a + 1) (I a 0).toNatClampNeg v1) (a + 2) ((uI I (a + 1) (I a 0).toNatClampNeg v1) a 0).toNatClampNeg v2) a 0).toNatClampNeg v3) (a + 4) ((uI (uI (uI I (a + 1) (I a 0).toNatClampNeg v1) (a + 2) ((uI I (a + 1) (I a 0).toNatClampNeg v1) a 0).toNatClampNeg v2) (a + 3) ((uI (uI I (a + 1) (I a 0).toNatClampNeg v1) (a + 2) ((uI I (a + 1) (I a 0).toNatClampNeg v1) a 0).toNatClampNeg v2) a 0).toNatClampNeg v3) a 0).toNatClampNeg v4) a 0 (((uI (uI (uI (uI I (a + 1) (I a 0).toNatClampNeg v1) (a + 2) ((uI I (a + 1) (I a 0).toNatClampNeg v1) a 0).toNatClampNeg v2) (a + 3) ((uI (uI I (a + 1) (I a 0).toNatClampNeg v1) (a + 2) ((uI I (a + 1) (I a 0).toNatClampNeg v1) a 0).toNatClampNeg v2) a 0).toNatClampNeg v3) (a + 4) ((uI (uI (uI I (a + 1) (I a 0).toNatClampNeg v1) (a + 2) ((uI I (a + 1) (I a 0).toNatClampNeg v1) a 0).toNatClampNeg v2) (a + 3) ((uI (uI I (a + 1) (I a 0).toNatClampNeg v1) (a + 2) ((uI I (a + 1) (I a 0).toNatClampNeg v1) a 0).toNatClampNeg v2) a 0).toNatClampNeg v3) a 0).toNatClampNeg v4) a 0) + 1)) a 0) - 1)] from ?_))))))))))))))))))))
    have h := h.2.2.2.2
    exact gIret hO hQ (by decide +kernel) ⟨rfl, h⟩
  · have h := h.2 c1
    refine gBk (pe := 11) hO [oI (.bipush (-5)) (-5)] (by decide +kernel) (show tWG K B 0 0 S I J 11 [some (vR a), some (vI v1), some (vI v2), some (vI v3), some (vI v4)] [vI (-5)] from ?_)
    exact gIret hO hQ (by decide +kernel) ⟨rfl, h⟩)
set_option maxRecDepth 20000 in
theorem hc7_see : tCV yX7_see cX7_see 4 (some .int) 3 := ⟨⟨(List.mem_of_getElem? (i := 1364) rfl), (List.mem_of_getElem? (i := 65) (by decide +kernel)), by decide +kernel⟩, (List.mem_of_getElem? (i := 1362) (by decide +kernel)), (List.mem_of_getElem? (i := 1363) (by decide +kernel))⟩
set_option maxRecDepth 100000 in
theorem M7_see {l : Launch} {B : tB} {S : tSH} {I : tHI} {J : tHJ} {a : Nat} {v1 : Int32} {v2 : Int32} {v3 : Int32} {n : Nat} {k : Int32 → tHI → tHJ → Prop} (t0 : ty S a 7) (h : F7_see n S I J a v1 v2 v3 k) : Met l yX7_see (tWs yX7_see cX7_see 4 (some .int)) (tRm 2 0 0) (tPc B [vR a, vI v1, vI v2, vI v3] S I J) (tQi B (tPi S k)) 0 0 (tA B) :=
  tEntry (by decide +kernel) [some (vR a), some (vI v1), some (vI v2), some (vI v3)] rfl rfl (Nat.le_of_ble_eq_true rfl) (fun K hl hR hO hQ hG => by
  subst hl
  refine gBk (pe := 6) hO [o0 (.aload_n 0), oF (.getfield 28) 7 5 89 0, oI (.bipush 8) 8] (by decide +kernel) (And.intro t0 (show tWG K B 0 0 S I J 6 [some (vR a), some (vI v1), some (vI v2), some (vI v3)] [vI 8, vI (I a 5)] from ?_))
  refine gIcLt hO (off := 6) (tgt := 12) (by decide +kernel) (by decide) (fun c1 => ?_) (fun c1 => ?_)
  · have h := h.1 c1
    refine gBk (pe := 56) hO [o0 (.aload_n 0), oF (.getfield 31) 7 6 90 0, o0 (.aload_n 0), oF (.getfield 28) 7 5 89 0, o0 (.iload_n 1), o0 .iastore, o0 (.aload_n 0), oF (.getfield 34) 7 7 91 0, o0 (.aload_n 0), oF (.getfield 28) 7 5 89 0, o0 (.iload_n 2), o0 .iastore, o0 (.aload_n 0), oF (.getfield 37) 7 8 92 0, o0 (.aload_n 0), oF (.getfield 28) 7 5 89 0, o0 (.iload_n 3), o0 .iastore, o0 (.aload_n 0), o0 .dup, oF (.getfield 28) 7 5 89 0, oI (.iconst 1) 1, o0 .iadd, oF (.putfield 28) 7 5 89 0, o0 (.aload_n 0), oF (.getfield 28) 7 5 89 0] (by decide +kernel) (And.intro t0 (And.intro t0 (And.intro (tGr.off hG t0 (k := 6) rfl) (And.intro (tin (tGr.len hG t0 (k := 6) rfl (by decide)) h.1) (And.intro t0 (And.intro t0 (And.intro (tGr.off hG t0 (k := 7) rfl) (And.intro (tin (tGr.len hG t0 (k := 7) rfl (by decide)) h.2.1) (And.intro t0 (And.intro t0 (And.intro (tGr.off hG t0 (k := 8) rfl) (And.intro (tin (tGr.len hG t0 (k := 8) rfl (by decide)) h.2.2.1) (And.intro t0 (And.intro t0 (And.intro t0 (show tWG K B 0 0 S (uI (uI (uI (uI I (a + 5) (I a 5).toNatClampNeg v1) (a + 6) ((uI I (a + 5) (I a 5).toNatClampNeg v1) a 5).toNatClampNeg v2) (a + 7) ((uI (uI I (a + 5) (I a 5).toNatClampNeg v1) (a + 6) ((uI I (a + 5) (I a 5).toNatClampNeg v1) a 5).toNatClampNeg v2) a 5).toNatClampNeg v3) a 5 (((uI (uI (uI I (a + 5) (I a 5).toNatClampNeg v1) (a + 6) ((uI I (a + 5) (I a 5).toNatClampNeg v1) a 5).toNatClampNeg v2) (a + 7) ((uI (uI I (a + 5) (I a 5).toNatClampNeg v1) (a + 6) ((uI I (a + 5) (I a 5).toNatClampNeg v1) a 5).toNatClampNeg v2) a 5).toNatClampNeg v3) a 5) + 1)) J 56 [some (vR a), some (vI v1), some (vI v2), some (vI v3)] [vI ((uI (uI (uI (uI I (a + 5) (I a 5).toNatClampNeg v1) (a + 6) ((uI I (a + 5) (I a 5).toNatClampNeg v1) a 5).toNatClampNeg v2) (a + 7) ((uI (uI I (a + 5) (I a 5).toNatClampNeg v1) (a + 6) ((uI I (a + 5) (I a 5).toNatClampNeg v1) a 5).toNatClampNeg v2) a 5).toNatClampNeg v3) a 5 (((uI (uI (uI I (a + 5) (I a 5).toNatClampNeg v1) (a + 6) ((uI I (a + 5) (I a 5).toNatClampNeg v1) a 5).toNatClampNeg v2) (a + 7) ((uI (uI I (a + 5) (I a 5).toNatClampNeg v1) (a + 6) ((uI I (a + 5) (I a 5).toNatClampNeg v1) a 5).toNatClampNeg v2) a 5).toNatClampNeg v3) a 5) + 1)) a 5)] from ?_))))))))))))))))
    have h := h.2.2.2
    exact gIret hO hQ (by decide +kernel) ⟨rfl, h⟩
  · have h := h.2 c1
    refine gBk (pe := 11) hO [oI (.bipush (-5)) (-5)] (by decide +kernel) (show tWG K B 0 0 S I J 11 [some (vR a), some (vI v1), some (vI v2), some (vI v3)] [vI (-5)] from ?_)
    exact gIret hO hQ (by decide +kernel) ⟨rfl, h⟩)
set_option maxRecDepth 20000 in
theorem hc7_timeAt : tCV yX7_timeAt cX7_timeAt 3 (some .int) 2 := ⟨⟨(List.mem_of_getElem? (i := 1176) rfl), (List.mem_of_getElem? (i := 65) (by decide +kernel)), by decide +kernel⟩, (List.mem_of_getElem? (i := 1174) (by decide +kernel)), (List.mem_of_getElem? (i := 1175) (by decide +kernel))⟩
set_option maxRecDepth 100000 in
theorem M7_timeAt {l : Launch} {B : tB} {S : tSH} {I : tHI} {J : tHJ} {a : Nat} {v1 : Int32} {v2 : Int32} (t0 : ty S a 7) (h : P7_timeAt S I J a v1 v2) : Met l yX7_timeAt (tWs yX7_timeAt cX7_timeAt 3 (some .int)) (tRm 3 0 0) (tPc B [vR a, vI v1, vI v2] S I J) (tQi B (tPp S I J (V7_timeAt S I J a v1 v2))) 0 0 (tA B) :=
  tEntry (by decide +kernel) [some (vR a), some (vI v1), some (vI v2)] rfl rfl (Nat.le_of_ble_eq_true rfl) (fun K hl hR hO hQ hG => by
  subst hl
  refine gBk (pe := 2) hO [o0 (.aload_n 0), o0 (.iload_n 1)] (by decide +kernel) (show tWG K B 0 0 S I J 2 [some (vR a), some (vI v1), some (vI v2)] [vI v1, vR a] from ?_)
  refine gCVi_z hO (M7_has t0) hc7_has (idx := 44) (w := 1177) (by decide +kernel) hR (by omega) t0 ⟨by decide, rfl⟩ (vs := [vI v1]) (st := []) ⟨rfl, Nat.le_of_ble_eq_true rfl, rfl⟩ (by decide +kernel) (fun z1 => ?_)
  refine gIfEq hO (off := 21) (tgt := 26) (by decide +kernel) (by decide) (fun c2 => ?_) (fun c2 => ?_)
  · have h := h.1 c2
    refine gBk (pe := 27) hO [oI (.iconst 0) 0] (by decide +kernel) (show tWG K B 0 0 S I J 27 [some (vR a), some (vI v1), some (vI v2)] [vI 0] from ?_)
    exact gIret hO hQ (by decide +kernel) ⟨(Eq.symm (if_pos c2)), rfl⟩
  · have h := h.2 c2
    refine gBk (pe := 9) hO [o0 (.iload_n 2)] (by decide +kernel) (show tWG K B 0 0 S I J 9 [some (vR a), some (vI v1), some (vI v2)] [vI v2] from ?_)
    refine gIfLe hO (off := 17) (tgt := 26) (by decide +kernel) (by decide) (fun c3 => ?_) (fun c3 => ?_)
    · have h := h.1 c3
      refine gBk (pe := 27) hO [oI (.iconst 0) 0] (by decide +kernel) (show tWG K B 0 0 S I J 27 [some (vR a), some (vI v1), some (vI v2)] [vI 0] from ?_)
      exact gIret hO hQ (by decide +kernel) ⟨(Eq.symm ((if_neg c2).trans (if_pos c3))), rfl⟩
    · have h := h.2 c3
      refine gBk (pe := 27) hO [o0 (.aload_n 0), oF (.getfield 19) 7 2 86 0, o0 (.iload_n 1), o0 .iaload, oI (.bipush 60) 60, o0 .imul, o0 (.iload_n 2), o0 .idiv, o0 (.goto 4)] (by decide +kernel) (And.intro t0 (And.intro (tGr.off hG t0 (k := 2) rfl) (And.intro (tin (tGr.len hG t0 (k := 2) rfl (by decide)) h.1) (And.intro h.2.1 (show tWG K B 0 0 S I J 27 [some (vR a), some (vI v1), some (vI v2)] [vI (((I (a + 2) v1.toNatClampNeg) * 60) / v2)] from ?_)))))
      have h := h.2.2
      exact gIret hO hQ (by decide +kernel) ⟨(Eq.symm ((if_neg c2).trans (if_neg c3))), rfl⟩)
set_option maxRecDepth 20000 in
theorem hc7_copyFrom : tCV yX7_copyFrom cX7_copyFrom 2 none 1 := ⟨⟨(List.mem_of_getElem? (i := 908) rfl), (List.mem_of_getElem? (i := 65) (by decide +kernel)), by decide +kernel⟩, (List.mem_of_getElem? (i := 906) (by decide +kernel)), (List.mem_of_getElem? (i := 907) (by decide +kernel))⟩
set_option maxRecDepth 100000 in
theorem M7_copyFrom {l : Launch} {B : tB} {S : tSH} {I : tHI} {J : tHJ} {a : Nat} {a1 : Nat} {n : Nat} {k : tHI → tHJ → Prop} (t0 : ty S a 7) (t1 : ty S a1 7) (h : F7_copyFrom n S I J a a1 k) : Met l yX7_copyFrom (tWs yX7_copyFrom cX7_copyFrom 2 none) (tRm 2 0 0) (tPc B [vR a, vR a1] S I J) (tQv B (tPv S k)) 0 0 (tA B) :=
  tEntry (by decide +kernel) [some (vR a), some (vR a1)] rfl rfl (Nat.le_of_ble_eq_true rfl) (fun K hl hR hO hQ hG => by
  subst hl
  refine gBk (pe := 20) hO [o0 (.aload_n 0), o0 (.aload_n 1), oF (.getfield 9) 7 0 84 0, oF (.putfield 9) 7 0 84 0, o0 (.aload_n 1), oF (.getfield 15) 7 1 85 0, oI (.iconst 0) 0, o0 (.aload_n 0), oF (.getfield 15) 7 1 85 0, oI (.iconst 0) 0, oI (.bipush 12) 12] (by decide +kernel) (And.intro t1 (And.intro t0 (And.intro t1 (And.intro t0 (show tWG K B 0 0 S (uI I a 0 (I a1 0)) J 20 [some (vR a), some (vR a1)] [vI 12, vI 0, vR (a + 1), vI 0, vR (a1 + 1)] from ?_)))))
  refine gCopy hO (tGr.off hG t1 (k := 1) rfl) (tGr.off hG t0 (k := 1) rfl) (tcpr (tGr.len hG t1 (k := 1) rfl (by decide)) (tGr.len hG t0 (k := 1) rfl (by decide)) (by decide +kernel)) (idx := 54) (w := 909) (by decide +kernel) hR (by omega) (Nat.le_of_ble_eq_true rfl) rfl (by decide +kernel) (show tWG K B 0 0 S (cpI (uI I a 0 (I a1 0)) (a1 + 1) 0 (a + 1) 0 12) J 23 [some (vR a), some (vR a1)] [] from ?_)
  refine gBk (pe := 35) hO [o0 (.aload_n 1), oF (.getfield 19) 7 2 86 0, oI (.iconst 0) 0, o0 (.aload_n 0), oF (.getfield 19) 7 2 86 0, oI (.iconst 0) 0, oI (.bipush 12) 12] (by decide +kernel) (And.intro t1 (And.intro t0 (show tWG K B 0 0 S (cpI (uI I a 0 (I a1 0)) (a1 + 1) 0 (a + 1) 0 12) J 35 [some (vR a), some (vR a1)] [vI 12, vI 0, vR (a + 2), vI 0, vR (a1 + 2)] from ?_)))
  refine gCopy hO (tGr.off hG t1 (k := 2) rfl) (tGr.off hG t0 (k := 2) rfl) (tcpr (tGr.len hG t1 (k := 2) rfl (by decide)) (tGr.len hG t0 (k := 2) rfl (by decide)) (by decide +kernel)) (idx := 54) (w := 909) (by decide +kernel) hR (by omega) (Nat.le_of_ble_eq_true rfl) rfl (by decide +kernel) (show tWG K B 0 0 S (cpI (cpI (uI I a 0 (I a1 0)) (a1 + 1) 0 (a + 1) 0 12) (a1 + 2) 0 (a + 2) 0 12) J 38 [some (vR a), some (vR a1)] [] from ?_)
  refine gBk (pe := 50) hO [o0 (.aload_n 1), oF (.getfield 22) 7 3 87 0, oI (.iconst 0) 0, o0 (.aload_n 0), oF (.getfield 22) 7 3 87 0, oI (.iconst 0) 0, oI (.bipush 12) 12] (by decide +kernel) (And.intro t1 (And.intro t0 (show tWG K B 0 0 S (cpI (cpI (uI I a 0 (I a1 0)) (a1 + 1) 0 (a + 1) 0 12) (a1 + 2) 0 (a + 2) 0 12) J 50 [some (vR a), some (vR a1)] [vI 12, vI 0, vR (a + 3), vI 0, vR (a1 + 3)] from ?_)))
  refine gCopy hO (tGr.off hG t1 (k := 3) rfl) (tGr.off hG t0 (k := 3) rfl) (tcpr (tGr.len hG t1 (k := 3) rfl (by decide)) (tGr.len hG t0 (k := 3) rfl (by decide)) (by decide +kernel)) (idx := 54) (w := 909) (by decide +kernel) hR (by omega) (Nat.le_of_ble_eq_true rfl) rfl (by decide +kernel) (show tWG K B 0 0 S (cpI (cpI (cpI (uI I a 0 (I a1 0)) (a1 + 1) 0 (a + 1) 0 12) (a1 + 2) 0 (a + 2) 0 12) (a1 + 3) 0 (a + 3) 0 12) J 53 [some (vR a), some (vR a1)] [] from ?_)
  refine gBk (pe := 65) hO [o0 (.aload_n 1), oF (.getfield 25) 7 4 88 0, oI (.iconst 0) 0, o0 (.aload_n 0), oF (.getfield 25) 7 4 88 0, oI (.iconst 0) 0, oI (.bipush 12) 12] (by decide +kernel) (And.intro t1 (And.intro t0 (show tWG K B 0 0 S (cpI (cpI (cpI (uI I a 0 (I a1 0)) (a1 + 1) 0 (a + 1) 0 12) (a1 + 2) 0 (a + 2) 0 12) (a1 + 3) 0 (a + 3) 0 12) J 65 [some (vR a), some (vR a1)] [vI 12, vI 0, vR (a + 4), vI 0, vR (a1 + 4)] from ?_)))
  refine gCopy hO (tGr.off hG t1 (k := 4) rfl) (tGr.off hG t0 (k := 4) rfl) (tcpr (tGr.len hG t1 (k := 4) rfl (by decide)) (tGr.len hG t0 (k := 4) rfl (by decide)) (by decide +kernel)) (idx := 54) (w := 909) (by decide +kernel) hR (by omega) (Nat.le_of_ble_eq_true rfl) rfl (by decide +kernel) (show tWG K B 0 0 S (cpI (cpI (cpI (cpI (uI I a 0 (I a1 0)) (a1 + 1) 0 (a + 1) 0 12) (a1 + 2) 0 (a + 2) 0 12) (a1 + 3) 0 (a + 3) 0 12) (a1 + 4) 0 (a + 4) 0 12) J 68 [some (vR a), some (vR a1)] [] from ?_)
  refine gBk (pe := 88) hO [o0 (.aload_n 0), o0 (.aload_n 1), oF (.getfield 28) 7 5 89 0, oF (.putfield 28) 7 5 89 0, o0 (.aload_n 1), oF (.getfield 31) 7 6 90 0, oI (.iconst 0) 0, o0 (.aload_n 0), oF (.getfield 31) 7 6 90 0, oI (.iconst 0) 0, oI (.bipush 8) 8] (by decide +kernel) (And.intro t1 (And.intro t0 (And.intro t1 (And.intro t0 (show tWG K B 0 0 S (uI (cpI (cpI (cpI (cpI (uI I a 0 (I a1 0)) (a1 + 1) 0 (a + 1) 0 12) (a1 + 2) 0 (a + 2) 0 12) (a1 + 3) 0 (a + 3) 0 12) (a1 + 4) 0 (a + 4) 0 12) a 5 ((cpI (cpI (cpI (cpI (uI I a 0 (I a1 0)) (a1 + 1) 0 (a + 1) 0 12) (a1 + 2) 0 (a + 2) 0 12) (a1 + 3) 0 (a + 3) 0 12) (a1 + 4) 0 (a + 4) 0 12) a1 5)) J 88 [some (vR a), some (vR a1)] [vI 8, vI 0, vR (a + 5), vI 0, vR (a1 + 5)] from ?_)))))
  refine gCopy hO (tGr.off hG t1 (k := 6) rfl) (tGr.off hG t0 (k := 6) rfl) (tcpr (tGr.len hG t1 (k := 6) rfl (by decide)) (tGr.len hG t0 (k := 6) rfl (by decide)) (by decide +kernel)) (idx := 54) (w := 909) (by decide +kernel) hR (by omega) (Nat.le_of_ble_eq_true rfl) rfl (by decide +kernel) (show tWG K B 0 0 S (cpI (uI (cpI (cpI (cpI (cpI (uI I a 0 (I a1 0)) (a1 + 1) 0 (a + 1) 0 12) (a1 + 2) 0 (a + 2) 0 12) (a1 + 3) 0 (a + 3) 0 12) (a1 + 4) 0 (a + 4) 0 12) a 5 ((cpI (cpI (cpI (cpI (uI I a 0 (I a1 0)) (a1 + 1) 0 (a + 1) 0 12) (a1 + 2) 0 (a + 2) 0 12) (a1 + 3) 0 (a + 3) 0 12) (a1 + 4) 0 (a + 4) 0 12) a1 5)) (a1 + 5) 0 (a + 5) 0 8) J 91 [some (vR a), some (vR a1)] [] from ?_)
  refine gBk (pe := 103) hO [o0 (.aload_n 1), oF (.getfield 34) 7 7 91 0, oI (.iconst 0) 0, o0 (.aload_n 0), oF (.getfield 34) 7 7 91 0, oI (.iconst 0) 0, oI (.bipush 8) 8] (by decide +kernel) (And.intro t1 (And.intro t0 (show tWG K B 0 0 S (cpI (uI (cpI (cpI (cpI (cpI (uI I a 0 (I a1 0)) (a1 + 1) 0 (a + 1) 0 12) (a1 + 2) 0 (a + 2) 0 12) (a1 + 3) 0 (a + 3) 0 12) (a1 + 4) 0 (a + 4) 0 12) a 5 ((cpI (cpI (cpI (cpI (uI I a 0 (I a1 0)) (a1 + 1) 0 (a + 1) 0 12) (a1 + 2) 0 (a + 2) 0 12) (a1 + 3) 0 (a + 3) 0 12) (a1 + 4) 0 (a + 4) 0 12) a1 5)) (a1 + 5) 0 (a + 5) 0 8) J 103 [some (vR a), some (vR a1)] [vI 8, vI 0, vR (a + 6), vI 0, vR (a1 + 6)] from ?_)))
  refine gCopy hO (tGr.off hG t1 (k := 7) rfl) (tGr.off hG t0 (k := 7) rfl) (tcpr (tGr.len hG t1 (k := 7) rfl (by decide)) (tGr.len hG t0 (k := 7) rfl (by decide)) (by decide +kernel)) (idx := 54) (w := 909) (by decide +kernel) hR (by omega) (Nat.le_of_ble_eq_true rfl) rfl (by decide +kernel) (show tWG K B 0 0 S (cpI (cpI (uI (cpI (cpI (cpI (cpI (uI I a 0 (I a1 0)) (a1 + 1) 0 (a + 1) 0 12) (a1 + 2) 0 (a + 2) 0 12) (a1 + 3) 0 (a + 3) 0 12) (a1 + 4) 0 (a + 4) 0 12) a 5 ((cpI (cpI (cpI (cpI (uI I a 0 (I a1 0)) (a1 + 1) 0 (a + 1) 0 12) (a1 + 2) 0 (a + 2) 0 12) (a1 + 3) 0 (a + 3) 0 12) (a1 + 4) 0 (a + 4) 0 12) a1 5)) (a1 + 5) 0 (a + 5) 0 8) (a1 + 6) 0 (a + 6) 0 8) J 106 [some (vR a), some (vR a1)] [] from ?_)
  refine gBk (pe := 118) hO [o0 (.aload_n 1), oF (.getfield 37) 7 8 92 0, oI (.iconst 0) 0, o0 (.aload_n 0), oF (.getfield 37) 7 8 92 0, oI (.iconst 0) 0, oI (.bipush 8) 8] (by decide +kernel) (And.intro t1 (And.intro t0 (show tWG K B 0 0 S (cpI (cpI (uI (cpI (cpI (cpI (cpI (uI I a 0 (I a1 0)) (a1 + 1) 0 (a + 1) 0 12) (a1 + 2) 0 (a + 2) 0 12) (a1 + 3) 0 (a + 3) 0 12) (a1 + 4) 0 (a + 4) 0 12) a 5 ((cpI (cpI (cpI (cpI (uI I a 0 (I a1 0)) (a1 + 1) 0 (a + 1) 0 12) (a1 + 2) 0 (a + 2) 0 12) (a1 + 3) 0 (a + 3) 0 12) (a1 + 4) 0 (a + 4) 0 12) a1 5)) (a1 + 5) 0 (a + 5) 0 8) (a1 + 6) 0 (a + 6) 0 8) J 118 [some (vR a), some (vR a1)] [vI 8, vI 0, vR (a + 7), vI 0, vR (a1 + 7)] from ?_)))
  refine gCopy hO (tGr.off hG t1 (k := 8) rfl) (tGr.off hG t0 (k := 8) rfl) (tcpr (tGr.len hG t1 (k := 8) rfl (by decide)) (tGr.len hG t0 (k := 8) rfl (by decide)) (by decide +kernel)) (idx := 54) (w := 909) (by decide +kernel) hR (by omega) (Nat.le_of_ble_eq_true rfl) rfl (by decide +kernel) (show tWG K B 0 0 S (cpI (cpI (cpI (uI (cpI (cpI (cpI (cpI (uI I a 0 (I a1 0)) (a1 + 1) 0 (a + 1) 0 12) (a1 + 2) 0 (a + 2) 0 12) (a1 + 3) 0 (a + 3) 0 12) (a1 + 4) 0 (a + 4) 0 12) a 5 ((cpI (cpI (cpI (cpI (uI I a 0 (I a1 0)) (a1 + 1) 0 (a + 1) 0 12) (a1 + 2) 0 (a + 2) 0 12) (a1 + 3) 0 (a + 3) 0 12) (a1 + 4) 0 (a + 4) 0 12) a1 5)) (a1 + 5) 0 (a + 5) 0 8) (a1 + 6) 0 (a + 6) 0 8) (a1 + 7) 0 (a + 7) 0 8) J 121 [some (vR a), some (vR a1)] [] from ?_)
  exact gVret hO hQ (by decide +kernel) ⟨rfl, h⟩)
set_option maxRecDepth 20000 in
theorem hc8_inForce : tCV yX8_inForce cX8_inForce 1 (some (.object "ThreeWheels$Program")) 0 := ⟨⟨(List.mem_of_getElem? (i := 281) rfl), (List.mem_of_getElem? (i := 14) (by decide +kernel)), by decide +kernel⟩, (List.mem_of_getElem? (i := 279) (by decide +kernel)), (List.mem_of_getElem? (i := 280) (by decide +kernel))⟩
set_option maxRecDepth 100000 in
theorem M8_inForce {l : Launch} {B : tB} {S : tSH} {I : tHI} {J : tHJ} {a : Nat} (t0 : ty S a 8) (h : P8_inForce S I J a) : Met l yX8_inForce (tWs yX8_inForce cX8_inForce 1 (some (.object "ThreeWheels$Program"))) (tRm 2 0 0) (tPc B [vR a] S I J) (tQq B (tPo S I J 6 (V8_inForce S I J a))) 0 0 (tA B) :=
  tEntry (by decide +kernel) [some (vR a)] rfl rfl (Nat.le_of_ble_eq_true rfl) (fun K hl hR hO hQ hG => by
  subst hl
  refine gBk (pe := 4) hO [o0 (.aload_n 0), oF (.getfield 42) 8 5 72 0] (by decide +kernel) (And.intro t0 (show tWG K B 0 0 S I J 4 [some (vR a)] [vI (I a 5)] from ?_))
  refine gIfLt hO (off := 35) (tgt := 39) (by decide +kernel) (by decide) (fun c1 => ?_) (fun c1 => ?_)
  · have h := h.1 c1
    refine gBk (pe := 40) hO [o0 .aconst_null] (by decide +kernel) (show tWG K B 0 0 S I J 40 [some (vR a)] [vN] from ?_)
    exact gOret (o := none) hO hQ (by decide +kernel) ⟨(Eq.symm (if_pos c1)), fun x hx => (by have q := ((Eq.symm (if_pos c1))).trans hx; cases q), rfl⟩
  · have h := h.2 c1
    refine gBk (pe := 15) hO [o0 (.aload_n 0), oF (.getfield 42) 8 5 72 0, o0 (.aload_n 0), oF (.getfield 38) 8 4 71 0] (by decide +kernel) (And.intro t0 (And.intro t0 (show tWG K B 0 0 S I J 15 [some (vR a)] [vI (I a 4), vI (I a 5)] from ?_)))
    refine gIcGe hO (off := 24) (tgt := 39) (by decide +kernel) (by decide) (fun c2 => ?_) (fun c2 => ?_)
    · have h := h.1 c2
      refine gBk (pe := 40) hO [o0 .aconst_null] (by decide +kernel) (show tWG K B 0 0 S I J 40 [some (vR a)] [vN] from ?_)
      exact gOret (o := none) hO hQ (by decide +kernel) ⟨(Eq.symm ((if_neg c1).trans (if_pos c2))), fun x hx => (by have q := ((Eq.symm ((if_neg c1).trans (if_pos c2)))).trans hx; cases q), rfl⟩
    · have h := h.2 c2
      refine gBk (pe := 24) hO [o0 (.aload_n 0), oF (.getfield 42) 8 5 72 0, oI (.bipush 6) 6] (by decide +kernel) (And.intro t0 (show tWG K B 0 0 S I J 24 [some (vR a)] [vI 6, vI (I a 5)] from ?_))
      refine gIcGe hO (off := 15) (tgt := 39) (by decide +kernel) (by decide) (fun c3 => ?_) (fun c3 => ?_)
      · have h := h.1 c3
        refine gBk (pe := 40) hO [o0 .aconst_null] (by decide +kernel) (show tWG K B 0 0 S I J 40 [some (vR a)] [vN] from ?_)
        exact gOret (o := none) hO hQ (by decide +kernel) ⟨(Eq.symm ((if_neg c1).trans ((if_neg c2).trans (if_pos c3)))), fun x hx => (by have q := ((Eq.symm ((if_neg c1).trans ((if_neg c2).trans (if_pos c3))))).trans hx; cases q), rfl⟩
      · have h := h.2 c3
        refine gBk (pe := 40) hO [o0 (.aload_n 0), oF (.getfield 34) 8 3 70 0, o0 (.aload_n 0), oF (.getfield 42) 8 5 72 0, oF .aaload 44 0 0 0, o0 (.goto 4)] (by decide +kernel) (And.intro t0 (And.intro t0 (And.intro (tGr.off hG t0 (k := 3) rfl) (And.intro (tin (tGr.len hG t0 (k := 3) rfl (by decide)) h.1) (show tWG K B 0 0 S I J 40 [some (vR a)] [vO (sQ S (a + 15) (I a 5).toNatClampNeg)] from ?_)))))
        have h := h.2
        exact gOret hO hQ (by decide +kernel) ⟨(Eq.symm ((if_neg c1).trans ((if_neg c2).trans (if_neg c3)))), fun x hx => ((hG _ _ (tGr.off hG t0 (k := 3) rfl)).2.2 rfl _ _ (((Eq.symm ((if_neg c1).trans ((if_neg c2).trans (if_neg c3))))).trans hx)), rfl⟩)
set_option maxRecDepth 100000 in
theorem W9_append_49 {K : tK} {B : tB} {S : tSH} {MC MS : Nat} (hO : tKO K B RX9 cX9_append 3) (hR : kR K = tRm 2 MC MS) (hG : tGr S) {n : Nat} {a : Nat} (t0 : ty S a 9) {k : tHI → tHJ → Prop} (hQ : tRet K B (tQv B (tPv S k)) 0 0 none) {I : tHI} {J : tHJ} (h : F9_append_49 n S a k I J) : tWG K B 0 0 S I J 49 [none, none, none] [] := by
  exact gVret hO hQ (by decide +kernel) ⟨rfl, h⟩
set_option maxRecDepth 100000 in
theorem W9_append_3 {K : tK} {B : tB} {S : tSH} {MC MS : Nat} (hO : tKO K B RX9 cX9_append 3) (hR : kR K = tRm 2 MC MS) (hG : tGr S) {n : Nat} {a : Nat} (t0 : ty S a 9) {k : tHI → tHJ → Prop} (hQ : tRet K B (tQv B (tPv S k)) 0 0 none) {kb3 : tHI → tHJ → Int32 → Int32 → Prop} (hkb3 : ∀ (I : tHI) (J : tHJ) (v1 : Int32) (v2 : Int32), kb3 I J v1 v2 → tWG K B 0 0 S I J 3 [some (vR a), some (vI v1), some (vI v2)] []) {I : tHI} {J : tHJ} {v1 : Int32} {v2 : Int32} (h : F9_append_3 n S a k kb3 I J v1 v2) : tWG K B 0 0 S I J 3 [some (vR a), some (vI v1), some (vI v2)] [] := by
  refine gBk (pe := 4) hO [o0 (.iload_n 2)] (by decide +kernel) (show tWG K B 0 0 S I J 4 [some (vR a), some (vI v1), some (vI v2)] [vI v2] from ?_)
  refine gIfLt hO (off := 45) (tgt := 49) (by decide +kernel) (by decide) (fun c1 => ?_) (fun c1 => ?_)
  · have h := h.1 c1
    exact gWeak (L' := [none, none, none]) trivial (W9_append_49 hO hR hG t0 hQ h)
  · have h := h.2 c1
    refine gBk (pe := 14) hO [o0 (.aload_n 0), oF (.getfield 15) 9 1 114 0, oI (.sipush 400) 400] (by decide +kernel) (And.intro t0 (show tWG K B 0 0 S I J 14 [some (vR a), some (vI v1), some (vI v2)] [vI 400, vI (I a 1)] from ?_))
    refine gIcGe hO (off := 35) (tgt := 49) (by decide +kernel) (by decide) (fun c2 => ?_) (fun c2 => ?_)
    · have h := h.1 c2
      exact gWeak (L' := [none, none, none]) trivial (W9_append_49 hO hR hG t0 hQ h)
    · have h := h.2 c2
      refine gBk (pe := 3) hO [o0 (.aload_n 0), oF (.getfield 9) 9 0 113 0, o0 (.aload_n 0), oF (.getfield 15) 9 1 114 0, o0 (.iload_n 1), o0 (.iload_n 2), o0 .iushr, oI (.sipush 255) 255, o0 .iand, o0 .iastore, o0 (.aload_n 0), o0 .dup, oF (.getfield 15) 9 1 114 0, oI (.iconst 1) 1, o0 .iadd, oF (.putfield 15) 9 1 114 0, oI (.iinc 2 (-8)) (-8), o0 (.goto (-43))] (by decide +kernel) (And.intro t0 (And.intro t0 (And.intro (tGr.off hG t0 (k := 0) rfl) (And.intro (tin (tGr.len hG t0 (k := 0) rfl (by decide)) h.1) (And.intro t0 (And.intro t0 (show tWG K B 0 0 S (uI (uI I (a + 1) (I a 1).toNatClampNeg ((((v1 : Int32).toUInt32 >>> ((v2 : Int32).toUInt32 &&& Int32.toUInt32 31)).toInt32) &&& 255)) a 1 (((uI I (a + 1) (I a 1).toNatClampNeg ((((v1 : Int32).toUInt32 >>> ((v2 : Int32).toUInt32 &&& Int32.toUInt32 31)).toInt32) &&& 255)) a 1) + 1)) J 3 [some (vR a), some (vI v1), some (vI (v2 + (-8)))] [] from ?_)))))))
      have h := h.2
      exact hkb3 _ _ _ _ h
theorem W9_append_L3 {K : tK} {B : tB} {S : tSH} {MC MS : Nat} (hO : tKO K B RX9 cX9_append 3) (hR : kR K = tRm 2 MC MS) (hG : tGr S) {n : Nat} {a : Nat} (t0 : ty S a 9) {k : tHI → tHJ → Prop} (hQ : tRet K B (tQv B (tPv S k)) 0 0 none) : ∀ (f : Nat) (I : tHI) (J : tHJ) (v1 : Int32) (v2 : Int32), F9_append_L3 n S a k f I J v1 v2 → tWG K B 0 0 S I J 3 [some (vR a), some (vI v1), some (vI v2)] [] := by
  intro f
  induction f with
  | zero => intro I J v1 v2 h; exact h.elim
  | succ f ih => intro I J v1 v2 h; exact W9_append_3 hO hR hG t0 hQ ih h
set_option maxRecDepth 20000 in
theorem hc9_append : tCV yX9_append cX9_append 3 none 1 := ⟨⟨(List.mem_of_getElem? (i := 563) rfl), (List.mem_of_getElem? (i := 25) (by decide +kernel)), by decide +kernel⟩, (List.mem_of_getElem? (i := 561) (by decide +kernel)), (List.mem_of_getElem? (i := 562) (by decide +kernel))⟩
set_option maxRecDepth 100000 in
theorem M9_append {l : Launch} {B : tB} {S : tSH} {I : tHI} {J : tHJ} {a : Nat} {v1 : Int32} {n : Nat} {k : tHI → tHJ → Prop} (t0 : ty S a 9) (h : F9_append n S I J a v1 k) : Met l yX9_append (tWs yX9_append cX9_append 3 none) (tRm 2 0 0) (tPc B [vR a, vI v1] S I J) (tQv B (tPv S k)) 0 0 (tA B) :=
  tEntry (by decide +kernel) [some (vR a), some (vI v1), none] rfl rfl (Nat.le_of_ble_eq_true rfl) (fun K hl hR hO hQ hG => by
  subst hl
  refine gBk (pe := 3) hO [oI (.bipush 24) 24, o0 (.istore_n 2)] (by decide +kernel) (And.intro (Nat.le_of_ble_eq_true rfl) (show tWG K B 0 0 S I J 3 [some (vR a), some (vI v1), some (vI 24)] [] from ?_))
  exact W9_append_L3 hO hR hG t0 hQ n _ _ _ _ h)
set_option maxRecDepth 20000 in
theorem hc9_byteAt : tCV yX9_byteAt cX9_byteAt 2 (some .int) 1 := ⟨⟨(List.mem_of_getElem? (i := 592) rfl), (List.mem_of_getElem? (i := 25) (by decide +kernel)), by decide +kernel⟩, (List.mem_of_getElem? (i := 590) (by decide +kernel)), (List.mem_of_getElem? (i := 591) (by decide +kernel))⟩
set_option maxRecDepth 100000 in
theorem M9_byteAt {l : Launch} {B : tB} {S : tSH} {I : tHI} {J : tHJ} {a : Nat} {v1 : Int32} (t0 : ty S a 9) (h : P9_byteAt S I J a v1) : Met l yX9_byteAt (tWs yX9_byteAt cX9_byteAt 2 (some .int)) (tRm 2 0 0) (tPc B [vR a, vI v1] S I J) (tQi B (tPp S I J (V9_byteAt S I J a v1))) 0 0 (tA B) :=
  tEntry (by decide +kernel) [some (vR a), some (vI v1)] rfl rfl (Nat.le_of_ble_eq_true rfl) (fun K hl hR hO hQ hG => by
  subst hl
  refine gBk (pe := 1) hO [o0 (.iload_n 1)] (by decide +kernel) (show tWG K B 0 0 S I J 1 [some (vR a), some (vI v1)] [vI v1] from ?_)
  refine gIfLt hO (off := 27) (tgt := 28) (by decide +kernel) (by decide) (fun c1 => ?_) (fun c1 => ?_)
  · have h := h.1 c1
    refine gBk (pe := 29) hO [oI (.iconst (-1)) (-1)] (by decide +kernel) (show tWG K B 0 0 S I J 29 [some (vR a), some (vI v1)] [vI (-1)] from ?_)
    exact gIret hO hQ (by decide +kernel) ⟨(Eq.symm (if_pos c1)), rfl⟩
  · have h := h.2 c1
    refine gBk (pe := 9) hO [o0 (.iload_n 1), o0 (.aload_n 0), oF (.getfield 15) 9 1 114 0] (by decide +kernel) (And.intro t0 (show tWG K B 0 0 S I J 9 [some (vR a), some (vI v1)] [vI (I a 1), vI v1] from ?_))
    refine gIcGe hO (off := 19) (tgt := 28) (by decide +kernel) (by decide) (fun c2 => ?_) (fun c2 => ?_)
    · have h := h.1 c2
      refine gBk (pe := 29) hO [oI (.iconst (-1)) (-1)] (by decide +kernel) (show tWG K B 0 0 S I J 29 [some (vR a), some (vI v1)] [vI (-1)] from ?_)
      exact gIret hO hQ (by decide +kernel) ⟨(Eq.symm ((if_neg c1).trans (if_pos c2))), rfl⟩
    · have h := h.2 c2
      refine gBk (pe := 16) hO [o0 (.iload_n 1), oI (.sipush 400) 400] (by decide +kernel) (show tWG K B 0 0 S I J 16 [some (vR a), some (vI v1)] [vI 400, vI v1] from ?_)
      refine gIcGe hO (off := 12) (tgt := 28) (by decide +kernel) (by decide) (fun c3 => ?_) (fun c3 => ?_)
      · have h := h.1 c3
        refine gBk (pe := 29) hO [oI (.iconst (-1)) (-1)] (by decide +kernel) (show tWG K B 0 0 S I J 29 [some (vR a), some (vI v1)] [vI (-1)] from ?_)
        exact gIret hO hQ (by decide +kernel) ⟨(Eq.symm ((if_neg c1).trans ((if_neg c2).trans (if_pos c3)))), rfl⟩
      · have h := h.2 c3
        refine gBk (pe := 29) hO [o0 (.aload_n 0), oF (.getfield 9) 9 0 113 0, o0 (.iload_n 1), o0 .iaload, o0 (.goto 4)] (by decide +kernel) (And.intro t0 (And.intro (tGr.off hG t0 (k := 0) rfl) (And.intro (tin (tGr.len hG t0 (k := 0) rfl (by decide)) h.1) (show tWG K B 0 0 S I J 29 [some (vR a), some (vI v1)] [vI (I (a + 1) v1.toNatClampNeg)] from ?_))))
        have h := h.2
        exact gIret hO hQ (by decide +kernel) ⟨(Eq.symm ((if_neg c1).trans ((if_neg c2).trans (if_neg c3)))), rfl⟩)
set_option maxRecDepth 20000 in
theorem hc10_term : tCV yX10_term cX10_term 2 (some .int) 1 := ⟨⟨(List.mem_of_getElem? (i := 546) rfl), (List.mem_of_getElem? (i := 48) (by decide +kernel)), by decide +kernel⟩, (List.mem_of_getElem? (i := 544) (by decide +kernel)), (List.mem_of_getElem? (i := 545) (by decide +kernel))⟩
set_option maxRecDepth 100000 in
theorem M10_term {l : Launch} {B : tB} {S : tSH} {I : tHI} {J : tHJ} {a : Nat} {v1 : Int32} (t0 : ty S a 10) : Met l yX10_term (tWs yX10_term cX10_term 2 (some .int)) (tRm 2 0 0) (tPc B [vR a, vI v1] S I J) (tQi B (tPp S I J (V10_term S I J a v1))) 0 0 (tA B) :=
  tEntry (by decide +kernel) [some (vR a), some (vI v1)] rfl rfl (Nat.le_of_ble_eq_true rfl) (fun K hl hR hO hQ hG => by
  subst hl
  refine gBk (pe := 1) hO [o0 (.iload_n 1)] (by decide +kernel) (show tWG K B 0 0 S I J 1 [some (vR a), some (vI v1)] [vI v1] from ?_)
  refine gIfNe hO (off := 10) (tgt := 11) (by decide +kernel) (by decide) (fun c1 => ?_) (fun c1 => ?_)
  · refine gBk (pe := 13) hO [o0 (.iload_n 1), oI (.iconst 1) 1] (by decide +kernel) (show tWG K B 0 0 S I J 13 [some (vR a), some (vI v1)] [vI 1, vI v1] from ?_)
    refine gIcNe hO (off := 10) (tgt := 23) (by decide +kernel) (by decide) (fun c2 => ?_) (fun c2 => ?_)
    · refine gBk (pe := 27) hO [o0 (.aload_n 0), oF (.getfield 34) 10 8 104 0] (by decide +kernel) (And.intro t0 (show tWG K B 0 0 S I J 27 [some (vR a), some (vI v1)] [vI (I a 8)] from ?_))
      exact gIret hO hQ (by decide +kernel) ⟨(Eq.symm ((if_neg c1).trans (if_neg c2))), rfl⟩
    · refine gBk (pe := 27) hO [o0 (.aload_n 0), oF (.getfield 31) 10 7 103 0, o0 (.goto 7)] (by decide +kernel) (And.intro t0 (show tWG K B 0 0 S I J 27 [some (vR a), some (vI v1)] [vI (I a 7)] from ?_))
      exact gIret hO hQ (by decide +kernel) ⟨(Eq.symm ((if_neg c1).trans (if_pos c2))), rfl⟩
  · refine gBk (pe := 27) hO [o0 (.aload_n 0), oF (.getfield 28) 10 6 102 0, o0 (.goto 19)] (by decide +kernel) (And.intro t0 (show tWG K B 0 0 S I J 27 [some (vR a), some (vI v1)] [vI (I a 6)] from ?_))
    exact gIret hO hQ (by decide +kernel) ⟨(Eq.symm (if_pos c1)), rfl⟩)
set_option maxRecDepth 100000 in
theorem W10_setTerm_30 {K : tK} {B : tB} {S : tSH} {MC MS : Nat} (hO : tKO K B RX10 cX10_setTerm 3) (hR : kR K = tRm 2 MC MS) (hG : tGr S) {n : Nat} {a : Nat} (t0 : ty S a 10) {k : tHI → tHJ → Prop} (hQ : tRet K B (tQv B (tPv S k)) 0 0 none) {I : tHI} {J : tHJ} (h : F10_setTerm_30 n S a k I J) : tWG K B 0 0 S I J 30 [none, none, none] [] := by
  exact gVret hO hQ (by decide +kernel) ⟨rfl, h⟩
set_option maxRecDepth 20000 in
theorem hc10_setTerm : tCV yX10_setTerm cX10_setTerm 3 none 2 := ⟨⟨(List.mem_of_getElem? (i := 550) rfl), (List.mem_of_getElem? (i := 48) (by decide +kernel)), by decide +kernel⟩, (List.mem_of_getElem? (i := 548) (by decide +kernel)), (List.mem_of_getElem? (i := 549) (by decide +kernel))⟩
set_option maxRecDepth 100000 in
theorem M10_setTerm {l : Launch} {B : tB} {S : tSH} {I : tHI} {J : tHJ} {a : Nat} {v1 : Int32} {v2 : Int32} {n : Nat} {k : tHI → tHJ → Prop} (t0 : ty S a 10) (h : F10_setTerm n S I J a v1 v2 k) : Met l yX10_setTerm (tWs yX10_setTerm cX10_setTerm 3 none) (tRm 2 0 0) (tPc B [vR a, vI v1, vI v2] S I J) (tQv B (tPv S k)) 0 0 (tA B) :=
  tEntry (by decide +kernel) [some (vR a), some (vI v1), some (vI v2)] rfl rfl (Nat.le_of_ble_eq_true rfl) (fun K hl hR hO hQ hG => by
  subst hl
  refine gBk (pe := 1) hO [o0 (.iload_n 1)] (by decide +kernel) (show tWG K B 0 0 S I J 1 [some (vR a), some (vI v1), some (vI v2)] [vI v1] from ?_)
  refine gIfNe hO (off := 11) (tgt := 12) (by decide +kernel) (by decide) (fun c1 => ?_) (fun c1 => ?_)
  · have h := h.1 c1
    refine gBk (pe := 14) hO [o0 (.iload_n 1), oI (.iconst 1) 1] (by decide +kernel) (show tWG K B 0 0 S I J 14 [some (vR a), some (vI v1), some (vI v2)] [vI 1, vI v1] from ?_)
    refine gIcNe hO (off := 11) (tgt := 25) (by decide +kernel) (by decide) (fun c2 => ?_) (fun c2 => ?_)
    · have h := h.1 c2
      refine gBk (pe := 30) hO [o0 (.aload_n 0), o0 (.iload_n 2), oF (.putfield 34) 10 8 104 0] (by decide +kernel) (And.intro t0 (show tWG K B 0 0 S (uI I a 8 v2) J 30 [some (vR a), some (vI v1), some (vI v2)] [] from ?_))
      exact gWeak (L' := [none, none, none]) trivial (W10_setTerm_30 hO hR hG t0 hQ h)
    · have h := h.2 c2
      refine gBk (pe := 30) hO [o0 (.aload_n 0), o0 (.iload_n 2), oF (.putfield 31) 10 7 103 0, o0 (.goto 8)] (by decide +kernel) (And.intro t0 (show tWG K B 0 0 S (uI I a 7 v2) J 30 [some (vR a), some (vI v1), some (vI v2)] [] from ?_))
      exact gWeak (L' := [none, none, none]) trivial (W10_setTerm_30 hO hR hG t0 hQ h)
  · have h := h.2 c1
    refine gBk (pe := 30) hO [o0 (.aload_n 0), o0 (.iload_n 2), oF (.putfield 28) 10 6 102 0, o0 (.goto 21)] (by decide +kernel) (And.intro t0 (show tWG K B 0 0 S (uI I a 6 v2) J 30 [some (vR a), some (vI v1), some (vI v2)] [] from ?_))
    exact gWeak (L' := [none, none, none]) trivial (W10_setTerm_30 hO hR hG t0 hQ h))
