/-- a String constant's char -/
def tSch (i : Nat) (x : Int32) : Int32 := ((((tSbyt.getD i []).getD x.toNatClampNeg 0) &&& 255).toUInt32 % 65536).toInt32
section RS
variable {K : tK} {B : tB} {own : String} {cc : ByteArray} {nL cl sl : Nat} {S : tSH} {I : tHI} {J : tHJ} {pc : Nat} {L : List (Option tSV)} {st : List tSV}
theorem s_getsC (hO : tKO K B own cc nL) {idx w : Nat} (hw : wsL_law[w]? = some (Cond.fieldLink own idx "java/lang/String" "COMPACT_STRINGS" "Z")) (hd : decode cc pc = .ok (.getstatic idx, 3)) (k : tWG K B cl sl S I J (pc + 3) L (vI 1 :: st)) : tWG K B cl sl S I J pc L st := fun H locs ls hR hL => va_gets hO.1 hO.2.1 hO.2.2.2.2.2.2.2.2.2.2.1 hR.2.2.1 hO.2.2.2.1 (hO.2.2.2.2.1 _ (List.mem_of_getElem? hw)) (fun _ h => h) hd (k H locs ls hR hL)
theorem s_getsF (hO : tKO K B own cc nL) {idx w : Nat} (hw : wsL_law[w]? = some (Cond.fieldLink own idx "jdk/internal/util/Preconditions" "SIOOBE_FORMATTER" "Ljava/util/function/BiFunction;")) (hd : decode cc pc = .ok (.getstatic idx, 3)) (kn : tWG K B cl sl S I J (pc + 3) L (vN :: st)) (kr : ∀ t, tWG K B cl sl S I J (pc + 3) L (vA t :: st)) : tWG K B cl sl S I J pc L st := fun H locs ls hR hL => by
  rcases hO.2.2.2.2.2.2.2.2.2.2.2 with h | ⟨t, h⟩
  · exact va_gets hO.1 hO.2.1 h hR.2.2.1 hO.2.2.2.1 (hO.2.2.2.2.1 _ (List.mem_of_getElem? hw)) (fun _ h => h) hd (kn H locs ls hR hL)
  · exact va_gets hO.1 hO.2.1 h hR.2.2.1 hO.2.2.2.1 (hO.2.2.2.2.1 _ (List.mem_of_getElem? hw)) (fun _ h => h) hd (kr t H locs ls hR hL)
theorem s_kval (hO : tKO K B own cc nL) {i idx w : Nat} (hi : i < 11) (hw : wsL_law[w]? = some (Cond.fieldLink own idx "java/lang/String" "value" "[B")) (hd : decode cc pc = .ok (.getfield idx, 3)) (k : tWG K B cl sl S I J (pc + 3) L (vA (tadV B i) :: st)) : tWG K B cl sl S I J pc L (vA (tadK B i) :: st) := fun H locs ls hR hL => vk_getf hO.1 hO.2.1 (hO.2.2.2.2.2.2.2.2.1.1 i hi).2.2.1 hR.2.2.1 hO.2.2.2.1 (hO.2.2.2.2.1 _ (List.mem_of_getElem? hw)) (fun _ h => h) hd (k H locs ls hR hL)
theorem s_kcoder (hO : tKO K B own cc nL) {i idx w : Nat} (hi : i < 11) (hw : wsL_law[w]? = some (Cond.fieldLink own idx "java/lang/String" "coder" "B")) (hd : decode cc pc = .ok (.getfield idx, 3)) (k : tWG K B cl sl S I J (pc + 3) L (vI 0 :: st)) : tWG K B cl sl S I J pc L (vA (tadK B i) :: st) := fun H locs ls hR hL => vk_getf hO.1 hO.2.1 (hO.2.2.2.2.2.2.2.2.1.1 i hi).2.1 hR.2.2.1 hO.2.2.2.1 (hO.2.2.2.2.1 _ (List.mem_of_getElem? hw)) (fun _ h => h) hd (k H locs ls hR hL)
theorem s_klen (hO : tKO K B own cc nL) {i : Nat} (hi : i < 11) (hd : decode cc pc = .ok (.arraylength, 1)) (k : tWG K B cl sl S I J (pc + 1) L (vI (Int32.ofNat (tSlen.getD i 0)) :: st)) : tWG K B cl sl S I J pc L (vA (tadV B i) :: st) := fun H locs ls hR hL => va_tlen hO.1 hO.2.1 (hO.2.2.2.2.2.2.2.2.1.1 i hi).2.2.2 hR.2.2.1 rfl hd (k H locs ls hR hL)
theorem s_kbyte (hO : tKO K B own cc nL) {i : Nat} {x : Int32} (hi : i < 11) (hin : vp_in x (tSlen.getD i 0)) (hd : decode cc pc = .ok (.baload, 1)) (k : tWG K B cl sl S I J (pc + 1) L (vI ((tSbyt.getD i []).getD x.toNatClampNeg 0) :: st)) : tWG K B cl sl S I J pc L (vI x :: vA (tadV B i) :: st) := fun H locs ls hR hL => va_tb hO.1 hO.2.1 (hO.2.2.2.2.2.2.2.2.1.1 i hi).2.2.2 hR.2.2.1 hin rfl hd (k H locs ls hR hL)
theorem s_i2c (hO : tKO K B own cc nL) {x : Int32} (hd : decode cc pc = .ok (.i2c, 1)) (k : tWG K B cl sl S I J (pc + 1) L (vI (x.toUInt32 % 65536).toInt32 :: st)) : tWG K B cl sl S I J pc L (vI x :: st) := s_st (fun _ _ _ _ h => lv_i2c hO.1 hO.2.1 hd rfl h) k
theorem s_ldcs (hO : tKO K B own cc nL) {i idx : Nat} {tx : String} (hown : own = "ThreeWheels$Parser") (hi : tStx[i]? = some (idx, tx)) (hd : decode cc pc = .ok (.ldc idx, 2)) (k : tWG K B cl sl S I J (pc + 2) L (vA (tadK B i) :: st)) : tWG K B cl sl S I J pc L st := fun H locs ls hR hL => va_ldcS hO.1 hO.2.1 hO.2.2.2.1 (by rw [hown]; exact hO.2.2.2.2.2.2.2.2.2.1 i _ hi) hd (k H locs ls hR hL)
theorem gNret (hO : tKO K B own cc nL) {post : Int32 → tS3 → Prop} {ft : FieldType} (hQ : tRet K B (tQi B post) cl sl (some ft)) {x : Int32} (hd : decode cc pc = .ok (.ireturn, 1)) (hn : narrow ft (.int x) = .int x) (hp : post x (S, I, J)) : tWG K B cl sl S I J pc L [vI x] := by
  intro H locs ls hR hL
  show W _ _ _ _ _ _ _ _ _ _ _ _ _ _ (kQ K) _
  rw [hQ.1]
  exact W.zret hO.1 hO.2.1 hQ.2.1 hn (fun t hT hW => ⟨⟨x, (S, I, J), rfl, hp, tRHof hO hR hT hW⟩, hR.2.2.1.F hT⟩) hR.2.2.1.2.2 hd hQ.2.2
theorem gCVA (hO : tKO K B own cc nL) {y : MethodName} {c : ByteArray} {n argc idx w d d' MC MS : Nat} {i : Nat} {vs : List tSV} {r : Option FieldType} {v : Int32} (hM : Met (kl K) y (tWs y c n r) (tRm d' 0 0) (tPc B (vA (tadK B i) :: vs) S I J) (tQi B (tPp S I J v)) 0 0 (tA B)) (hc : tCV y c n r argc) (hi : i < 11) (hy : y.cls = "java/lang/String") (hl : wsL_law[w]? = some (Cond.methodLink own idx y)) (hR : kR K = tRm d MC MS) (hq : d' < d ∧ n ≤ 21 ∧ cl + 0 ≤ MC ∧ sl + 0 ≤ MS) (hvs : vs.length = argc ∧ st.length ≤ 4 ∧ L.length = nL) (hd : decode cc pc = .ok (.invokevirtual idx, 3)) (kk : tWG K B cl sl S I J (pc + 3) L (vI v :: st)) : tWG K B cl sl S I J pc L (vs.reverse ++ vA (tadK B i) :: st) := by
  intro H locs ls hR0 hL
  have e : (vs.reverse ++ vA (tadK B i) :: st).map (tvv B.2) = (vs.map (tvv B.2)).reverse ++ Value.ref (tadK B i) :: st.map (tvv B.2) := by simp [tvv]
  rw [e]
  have hrv := vk_recv (i := i) hO.2.2.2.2.2.2.2.2.1 hi hR0.2.2.1
  rw [← hy] at hrv
  exact va_calli (va_runV (C := y.cls) (As := vs.map (tvv B.2)) (rest := st.map (tvv B.2)) ⟨hO.1, hO.2.1, hO.2.2.1, hO.2.2.2.1, hO.2.2.2.2.1⟩ hM ⟨tCallB hO hc.1 hl hR hq.1 hq.2.1, hO.2.2.2.2.1 _ hc.2.1, hO.2.2.2.2.1 _ hc.2.2⟩ ⟨tPc_blind, hrv, fun U hU hW => ⟨rfl, by rw [hU]; exact hR0.1, by rw [hU]; exact hR0.2.1, va_K.moved hW.alike hO.2.2.2.2.2.1, hR0.2.2.2, hO.2.2.2.2.2.2.2.at hR0.2.2.1 hU hW⟩⟩ rfl (by rw [List.length_map]; exact hvs.1) (hL.1.trans hvs.2.2) rfl (lv_room (tcats hvs.2.1)) hd (by rw [hR]; exact hq.2.2)) hR0.2.2.1 (fun q _ h => h) (fun q h => h) (fun x u t H1 locs1 ht _ hp hB _ _ hS => by obtain ⟨e, e2⟩ := hp; subst e; subst e2; exact kk H1 locs1 ls ⟨by rw [← ht]; exact hB.1, by rw [← ht]; exact hB.2.1, hS, hB.2.2.2.1⟩ hL)
end RS
set_option maxRecDepth 20000 in
theorem hcJ0_length_8abf5 : tCV yJ0_length_8abf5 cJ0_length_8abf5 1 (some .int) 0 := ⟨⟨(List.mem_of_getElem? (i := 642) rfl), (List.mem_of_getElem? (i := 641) (by decide +kernel)), by decide +kernel⟩, (List.mem_of_getElem? (i := 639) (by decide +kernel)), (List.mem_of_getElem? (i := 640) (by decide +kernel))⟩
set_option maxRecDepth 20000 in
theorem hcJ0_charAt_5068e : tCV yJ0_charAt_5068e cJ0_charAt_5068e 2 (some .char) 1 := ⟨⟨(List.mem_of_getElem? (i := 653) rfl), (List.mem_of_getElem? (i := 641) (by decide +kernel)), by decide +kernel⟩, (List.mem_of_getElem? (i := 651) (by decide +kernel)), (List.mem_of_getElem? (i := 652) (by decide +kernel))⟩
set_option maxRecDepth 20000 in
theorem hcJ0_coder_7d493 : tCV yJ0_coder_7d493 cJ0_coder_7d493 1 (some .byte) 0 := ⟨⟨(List.mem_of_getElem? (i := 647) rfl), (List.mem_of_getElem? (i := 641) (by decide +kernel)), by decide +kernel⟩, (List.mem_of_getElem? (i := 645) (by decide +kernel)), (List.mem_of_getElem? (i := 646) (by decide +kernel))⟩
set_option maxRecDepth 20000 in
theorem hcJ0_isLatin1_aae02 : tCV yJ0_isLatin1_aae02 cJ0_isLatin1_aae02 1 (some .boolean) 0 := ⟨⟨(List.mem_of_getElem? (i := 657) rfl), (List.mem_of_getElem? (i := 641) (by decide +kernel)), by decide +kernel⟩, (List.mem_of_getElem? (i := 655) (by decide +kernel)), (List.mem_of_getElem? (i := 656) (by decide +kernel))⟩
set_option maxRecDepth 20000 in
theorem hcJ0_checkIndex_df160 : tCm yJ0_checkIndex_df160 cJ0_checkIndex_df160 2 none 2 ∧ Cond.static yJ0_checkIndex_df160 ∈ wsL_law := ⟨⟨(List.mem_of_getElem? (i := 664) rfl), (List.mem_of_getElem? (i := 641) (by decide +kernel)), by decide +kernel⟩, (List.mem_of_getElem? (i := 663) (by decide +kernel))⟩
set_option maxRecDepth 20000 in
theorem hcJ1_charAt_3b067 : tCm yJ1_charAt_3b067 cJ1_charAt_3b067 2 (some .char) 2 ∧ Cond.static yJ1_charAt_3b067 ∈ wsL_law := ⟨⟨(List.mem_of_getElem? (i := 661) rfl), (List.mem_of_getElem? (i := 660) (by decide +kernel)), by decide +kernel⟩, (List.mem_of_getElem? (i := 659) (by decide +kernel))⟩
set_option maxRecDepth 20000 in
theorem hcJ3_checkIndex_8e157 : tCm yJ3_checkIndex_8e157 cJ3_checkIndex_8e157 3 (some .int) 3 ∧ Cond.static yJ3_checkIndex_8e157 ∈ wsL_law := ⟨⟨(List.mem_of_getElem? (i := 669) rfl), (List.mem_of_getElem? (i := 668) (by decide +kernel)), by decide +kernel⟩, (List.mem_of_getElem? (i := 667) (by decide +kernel))⟩
set_option maxRecDepth 100000 in
theorem MJ3_n {l : Launch} {B : tB} {S : tSH} {I : tHI} {J : tHJ} {x len : Int32} (h : ¬ x < 0 ∧ x < len) : Met l yJ3_checkIndex_8e157 (tWs yJ3_checkIndex_8e157 cJ3_checkIndex_8e157 3 (some .int)) (tRm 2 0 0) (tPc B [vI x, vI len, vN] S I J) (tQi B (tPp S I J x)) 0 0 (tA B) :=
  tEntry (by decide +kernel) [some (vI x), some (vI len), some (vN)] rfl rfl (Nat.le_of_ble_eq_true rfl) (fun K hl hR hO hQ hG => by
  subst hl
  refine gBk (pe := 1) hO [o0 (.iload_n 0)] (by decide +kernel) (show tWG K B 0 0 S I J 1 [some (vI x), some (vI len), some (vN)] [vI x] from ?_)
  refine gIfLt hO (off := 8) (tgt := 9) (by decide +kernel) (by decide) (fun c => absurd c h.1) (fun c => ?_)
  refine gBk (pe := 6) hO [o0 (.iload_n 0), o0 (.iload_n 1)] (by decide +kernel) (show tWG K B 0 0 S I J 6 [some (vI x), some (vI len), some (vN)] [vI len, vI x] from ?_)
  refine gIcLt hO (off := 10) (tgt := 16) (by decide +kernel) (by decide) (fun c => ?_) (fun c => absurd h.2 c)
  refine gBk (pe := 17) hO [o0 (.iload_n 0)] (by decide +kernel) (show tWG K B 0 0 S I J 17 [some (vI x), some (vI len), some (vN)] [vI x] from ?_)
  exact gIret hO hQ (by decide +kernel) ⟨rfl, rfl⟩)
set_option maxRecDepth 100000 in
theorem MJ3_r {l : Launch} {B : tB} {S : tSH} {I : tHI} {J : tHJ} {x len : Int32} {t : Nat} (h : ¬ x < 0 ∧ x < len) : Met l yJ3_checkIndex_8e157 (tWs yJ3_checkIndex_8e157 cJ3_checkIndex_8e157 3 (some .int)) (tRm 2 0 0) (tPc B [vI x, vI len, vA t] S I J) (tQi B (tPp S I J x)) 0 0 (tA B) :=
  tEntry (by decide +kernel) [some (vI x), some (vI len), some (vA t)] rfl rfl (Nat.le_of_ble_eq_true rfl) (fun K hl hR hO hQ hG => by
  subst hl
  refine gBk (pe := 1) hO [o0 (.iload_n 0)] (by decide +kernel) (show tWG K B 0 0 S I J 1 [some (vI x), some (vI len), some (vA t)] [vI x] from ?_)
  refine gIfLt hO (off := 8) (tgt := 9) (by decide +kernel) (by decide) (fun c => absurd c h.1) (fun c => ?_)
  refine gBk (pe := 6) hO [o0 (.iload_n 0), o0 (.iload_n 1)] (by decide +kernel) (show tWG K B 0 0 S I J 6 [some (vI x), some (vI len), some (vA t)] [vI len, vI x] from ?_)
  refine gIcLt hO (off := 10) (tgt := 16) (by decide +kernel) (by decide) (fun c => ?_) (fun c => absurd h.2 c)
  refine gBk (pe := 17) hO [o0 (.iload_n 0)] (by decide +kernel) (show tWG K B 0 0 S I J 17 [some (vI x), some (vI len), some (vA t)] [vI x] from ?_)
  exact gIret hO hQ (by decide +kernel) ⟨rfl, rfl⟩)
set_option maxRecDepth 100000 in
theorem MJ0_ci {l : Launch} {B : tB} {S : tSH} {I : tHI} {J : tHJ} {x len : Int32} {k : tHI → tHJ → Prop} (h : ¬ x < 0 ∧ x < len) (hk : k I J) : Met l yJ0_checkIndex_df160 (tWs yJ0_checkIndex_df160 cJ0_checkIndex_df160 2 none) (tRm 3 0 0) (tPc B [vI x, vI len] S I J) (tQv B (tPv S k)) 0 0 (tA B) :=
  tEntry (by decide +kernel) [some (vI x), some (vI len)] rfl rfl (Nat.le_of_ble_eq_true rfl) (fun K hl hR hO hQ hG => by
  subst hl
  refine gBk (pe := 2) hO [o0 (.iload_n 0), o0 (.iload_n 1)] (by decide +kernel) (show tWG K B 0 0 S I J 2 [some (vI x), some (vI len)] [vI len, vI x] from ?_)
  refine s_getsF hO (idx := 1053) (w := 665) (by decide +kernel) (by decide +kernel) ?_ (fun t => ?_)
  · refine gCSi_p hO (MJ3_n h) hcJ3_checkIndex_8e157 (idx := 1059) (w := 666) (by decide +kernel) hR (by omega) (vs := [vI x, vI len, vN]) (st := []) ⟨rfl, Nat.le_of_ble_eq_true rfl, rfl⟩ (by decide +kernel) ?_
    refine gBk (pe := 9) hO [o0 .pop] (by decide +kernel) (show tWG K B 0 0 S I J 9 [some (vI x), some (vI len)] [] from ?_)
    exact gVret hO hQ (by decide +kernel) ⟨rfl, hk⟩
  · refine gCSi_p hO (MJ3_r h) hcJ3_checkIndex_8e157 (idx := 1059) (w := 666) (by decide +kernel) hR (by omega) (vs := [vI x, vI len, vA t]) (st := []) ⟨rfl, Nat.le_of_ble_eq_true rfl, rfl⟩ (by decide +kernel) ?_
    refine gBk (pe := 9) hO [o0 .pop] (by decide +kernel) (show tWG K B 0 0 S I J 9 [some (vI x), some (vI len)] [] from ?_)
    exact gVret hO hQ (by decide +kernel) ⟨rfl, hk⟩)
theorem tSin {i : Nat} {x : Int32} (hi : i < 11) (h : vp_in x (tSlen.getD i 0)) : ¬ x < 0 ∧ x < Int32.ofNat (tSlen.getD i 0) := by
  have hl : ∀ i, i < 11 → tSlen.getD i 0 < 1000 := by decide +kernel
  have hl := hl i hi
  obtain ⟨j, hj, rfl⟩ := vp_in_of h (by omega)
  exact ⟨nI_pos (by omega), nI_lt hj (by omega)⟩
set_option maxRecDepth 100000 in
theorem MJ1_charAt {l : Launch} {B : tB} {S : tSH} {I : tHI} {J : tHJ} {i : Nat} {x : Int32} (hi : i < 11) (h : vp_in x (tSlen.getD i 0)) : Met l yJ1_charAt_3b067 (tWs yJ1_charAt_3b067 cJ1_charAt_3b067 2 (some .char)) (tRm 4 0 0) (tPc B [vA (tadV B i), vI x] S I J) (tQi B (tPp S I J (tSch i x))) 0 0 (tA B) :=
  tEntry (by decide +kernel) [some (vA (tadV B i)), some (vI x)] rfl rfl (Nat.le_of_ble_eq_true rfl) (fun K hl hR hO hQ hG => by
  subst hl
  refine gBk (pe := 2) hO [o0 (.iload_n 1), o0 (.aload_n 0)] (by decide +kernel) (show tWG K B 0 0 S I J 2 [some (vA (tadV B i)), some (vI x)] [vA (tadV B i), vI x] from ?_)
  refine s_klen hO hi (by decide +kernel) ?_
  refine gCSv_c hO (MJ0_ci (k := fun I' J' => I' = I ∧ J' = J) (tSin hi h) ⟨rfl, rfl⟩) hcJ0_checkIndex_df160 (idx := 9) (w := 662) (by decide +kernel) hR (by omega) (vs := [vI x, vI (Int32.ofNat (tSlen.getD i 0))]) (st := []) ⟨rfl, Nat.le_of_ble_eq_true rfl, rfl⟩ (by decide +kernel) (fun I' J' q => ?_)
  obtain ⟨rfl, rfl⟩ := q
  refine gBk (pe := 8) hO [o0 (.aload_n 0), o0 (.iload_n 1)] (by decide +kernel) (show tWG K B 0 0 S I' J' 8 [some (vA (tadV B i)), some (vI x)] [vI x, vA (tadV B i)] from ?_)
  refine s_kbyte hO hi h (by decide +kernel) ?_
  refine gBk (pe := 13) hO [oI (.sipush 255) 255, o0 .iand] (by decide +kernel) (show tWG K B 0 0 S I' J' 13 [some (vA (tadV B i)), some (vI x)] [vI (((tSbyt.getD i []).getD x.toNatClampNeg 0) &&& 255)] from ?_)
  refine s_i2c hO (by decide +kernel) ?_
  exact gNret hO hQ (by decide +kernel) (pk_nc _) ⟨rfl, rfl⟩)
set_option maxRecDepth 100000 in
theorem MJ0_coder {l : Launch} {B : tB} {S : tSH} {I : tHI} {J : tHJ} {i : Nat} (hi : i < 11) : Met l yJ0_coder_7d493 (tWs yJ0_coder_7d493 cJ0_coder_7d493 1 (some .byte)) (tRm 2 0 0) (tPc B [vA (tadK B i)] S I J) (tQi B (tPp S I J 0)) 0 0 (tA B) :=
  tEntry (by decide +kernel) [some (vA (tadK B i))] rfl rfl (Nat.le_of_ble_eq_true rfl) (fun K hl hR hO hQ hG => by
  subst hl
  refine s_getsC hO (idx := 38) (w := 648) (by decide +kernel) (by decide +kernel) ?_
  refine gIfEq hO (off := 10) (tgt := 13) (by decide +kernel) (by decide) (fun c => absurd c (by decide)) (fun c => ?_)
  refine gBk (pe := 7) hO [o0 (.aload_n 0)] (by decide +kernel) (show tWG K B 0 0 S I J 7 [some (vA (tadK B i))] [vA (tadK B i)] from ?_)
  refine s_kcoder hO hi (idx := 15) (w := 649) (by decide +kernel) (by decide +kernel) ?_
  refine gBk (pe := 14) hO [o0 (.goto 4)] (by decide +kernel) (show tWG K B 0 0 S I J 14 [some (vA (tadK B i))] [vI 0] from ?_)
  exact gNret hO hQ (by decide +kernel) rfl ⟨rfl, rfl⟩)
set_option maxRecDepth 100000 in
theorem MJ0_isLatin1 {l : Launch} {B : tB} {S : tSH} {I : tHI} {J : tHJ} {i : Nat} (hi : i < 11) : Met l yJ0_isLatin1_aae02 (tWs yJ0_isLatin1_aae02 cJ0_isLatin1_aae02 1 (some .boolean)) (tRm 2 0 0) (tPc B [vA (tadK B i)] S I J) (tQi B (tPp S I J 1)) 0 0 (tA B) :=
  tEntry (by decide +kernel) [some (vA (tadK B i))] rfl rfl (Nat.le_of_ble_eq_true rfl) (fun K hl hR hO hQ hG => by
  subst hl
  refine s_getsC hO (idx := 38) (w := 648) (by decide +kernel) (by decide +kernel) ?_
  refine gIfEq hO (off := 14) (tgt := 17) (by decide +kernel) (by decide) (fun c => absurd c (by decide)) (fun c => ?_)
  refine gBk (pe := 7) hO [o0 (.aload_n 0)] (by decide +kernel) (show tWG K B 0 0 S I J 7 [some (vA (tadK B i))] [vA (tadK B i)] from ?_)
  refine s_kcoder hO hi (idx := 15) (w := 649) (by decide +kernel) (by decide +kernel) ?_
  refine gIfNe hO (off := 7) (tgt := 17) (by decide +kernel) (by decide) (fun c => absurd rfl c) (fun c => ?_)
  refine gBk (pe := 18) hO [oI (.iconst 1) 1, o0 (.goto 4)] (by decide +kernel) (show tWG K B 0 0 S I J 18 [some (vA (tadK B i))] [vI 1] from ?_)
  exact gNret hO hQ (by decide +kernel) rfl ⟨rfl, rfl⟩)
set_option maxRecDepth 100000 in
theorem MJ0_length {l : Launch} {B : tB} {S : tSH} {I : tHI} {J : tHJ} {i : Nat} (hi : i < 11) : Met l yJ0_length_8abf5 (tWs yJ0_length_8abf5 cJ0_length_8abf5 1 (some .int)) (tRm 3 0 0) (tPc B [vA (tadK B i)] S I J) (tQi B (tPp S I J (Int32.ofNat (tSlen.getD i 0)))) 0 0 (tA B) :=
  tEntry (by decide +kernel) [some (vA (tadK B i))] rfl rfl (Nat.le_of_ble_eq_true rfl) (fun K hl hR hO hQ hG => by
  subst hl
  refine gBk (pe := 1) hO [o0 (.aload_n 0)] (by decide +kernel) (show tWG K B 0 0 S I J 1 [some (vA (tadK B i))] [vA (tadK B i)] from ?_)
  refine s_kval hO hi (idx := 9) (w := 643) (by decide +kernel) (by decide +kernel) ?_
  refine s_klen hO hi (by decide +kernel) ?_
  refine gBk (pe := 6) hO [o0 (.aload_n 0)] (by decide +kernel) (show tWG K B 0 0 S I J 6 [some (vA (tadK B i))] [vA (tadK B i), vI (Int32.ofNat (tSlen.getD i 0))] from ?_)
  refine gCVA hO (MJ0_coder hi) hcJ0_coder_7d493 hi rfl (idx := 335) (w := 644) (by decide +kernel) hR (by omega) (vs := []) (st := [vI (Int32.ofNat (tSlen.getD i 0))]) ⟨rfl, Nat.le_of_ble_eq_true rfl, rfl⟩ (by decide +kernel) ?_
  refine gBk (pe := 10) hO [o0 .ishr] (by decide +kernel) (show tWG K B 0 0 S I J 10 [some (vA (tadK B i))] [vI (Int32.ofNat (tSlen.getD i 0) >>> ((0 : Int32) &&& 31))] from ?_)
  exact gIret hO hQ (by decide +kernel) ⟨sb_shr0 _, rfl⟩)
set_option maxRecDepth 100000 in
theorem MJ0_charAt {l : Launch} {B : tB} {S : tSH} {I : tHI} {J : tHJ} {i : Nat} {x : Int32} (hi : i < 11) (h : vp_in x (tSlen.getD i 0)) : Met l yJ0_charAt_5068e (tWs yJ0_charAt_5068e cJ0_charAt_5068e 2 (some .char)) (tRm 5 0 0) (tPc B [vA (tadK B i), vI x] S I J) (tQi B (tPp S I J (tSch i x))) 0 0 (tA B) :=
  tEntry (by decide +kernel) [some (vA (tadK B i)), some (vI x)] rfl rfl (Nat.le_of_ble_eq_true rfl) (fun K hl hR hO hQ hG => by
  subst hl
  refine gBk (pe := 1) hO [o0 (.aload_n 0)] (by decide +kernel) (show tWG K B 0 0 S I J 1 [some (vA (tadK B i)), some (vI x)] [vA (tadK B i)] from ?_)
  refine gCVA hO (MJ0_isLatin1 hi) hcJ0_isLatin1_aae02 hi rfl (idx := 492) (w := 654) (by decide +kernel) hR (by omega) (vs := []) (st := []) ⟨rfl, Nat.le_of_ble_eq_true rfl, rfl⟩ (by decide +kernel) ?_
  refine gIfEq hO (off := 12) (tgt := 16) (by decide +kernel) (by decide) (fun c => absurd c (by decide)) (fun c => ?_)
  refine gBk (pe := 8) hO [o0 (.aload_n 0)] (by decide +kernel) (show tWG K B 0 0 S I J 8 [some (vA (tadK B i)), some (vI x)] [vA (tadK B i)] from ?_)
  refine s_kval hO hi (idx := 9) (w := 643) (by decide +kernel) (by decide +kernel) ?_
  refine gBk (pe := 12) hO [o0 (.iload_n 1)] (by decide +kernel) (show tWG K B 0 0 S I J 12 [some (vA (tadK B i)), some (vI x)] [vI x, vA (tadV B i)] from ?_)
  refine gCSi_p hO (MJ1_charAt hi h) hcJ1_charAt_3b067 (idx := 495) (w := 658) (by decide +kernel) hR (by omega) (vs := [vA (tadV B i), vI x]) (st := []) ⟨rfl, Nat.le_of_ble_eq_true rfl, rfl⟩ (by decide +kernel) ?_
  exact gNret hO hQ (by decide +kernel) (pk_nc _) ⟨rfl, rfl⟩)
