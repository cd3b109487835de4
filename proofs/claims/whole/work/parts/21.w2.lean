set_option maxRecDepth 20000 in
theorem hc10_copyFrom : tCV yX10_copyFrom cX10_copyFrom 2 none 1 := ⟨⟨(List.mem_of_getElem? (i := 913) rfl), (List.mem_of_getElem? (i := 48) (by decide +kernel)), by decide +kernel⟩, (List.mem_of_getElem? (i := 911) (by decide +kernel)), (List.mem_of_getElem? (i := 912) (by decide +kernel))⟩
set_option maxRecDepth 100000 in
theorem M10_copyFrom {l : Launch} {B : tB} {S : tSH} {I : tHI} {J : tHJ} {a : Nat} {a1 : Nat} {n : Nat} {k : tHI → tHJ → Prop} (t0 : ty S a 10) (t1 : ty S a1 10) (h : F10_copyFrom n S I J a a1 k) : Met l yX10_copyFrom (tWs yX10_copyFrom cX10_copyFrom 2 none) (tRm 2 0 0) (tPc B [vR a, vR a1] S I J) (tQv B (tPv S k)) 0 0 (tA B) :=
  tEntry (by decide +kernel) [some (vR a), some (vR a1)] rfl rfl (Nat.le_of_ble_eq_true rfl) (fun K hl hR hO hQ hG => by
  subst hl
  refine gBk (pe := 72) hO [o0 (.aload_n 0), o0 (.aload_n 1), oF (.getfield 7) 10 0 96 0, oF (.putfield 7) 10 0 96 0, o0 (.aload_n 0), o0 (.aload_n 1), oF (.getfield 13) 10 1 97 0, oF (.putfield 13) 10 1 97 0, o0 (.aload_n 0), o0 (.aload_n 1), oF (.getfield 16) 10 2 98 0, oF (.putfield 16) 10 2 98 0, o0 (.aload_n 0), o0 (.aload_n 1), oF (.getfield 19) 10 3 99 0, oF (.putfield 19) 10 3 99 0, o0 (.aload_n 0), o0 (.aload_n 1), oF (.getfield 22) 10 4 100 0, oF (.putfield 22) 10 4 100 0, o0 (.aload_n 0), o0 (.aload_n 1), oF (.getfield 25) 10 5 101 0, oF (.putfield 25) 10 5 101 0, o0 (.aload_n 0), o0 (.aload_n 1), oF (.getfield 28) 10 6 102 0, oF (.putfield 28) 10 6 102 0, o0 (.aload_n 0), o0 (.aload_n 1), oF (.getfield 31) 10 7 103 0, oF (.putfield 31) 10 7 103 0, o0 (.aload_n 0), o0 (.aload_n 1), oF (.getfield 34) 10 8 104 0, oF (.putfield 34) 10 8 104 0] (by decide +kernel) (And.intro t1 (And.intro t0 (And.intro t1 (And.intro t0 (And.intro t1 (And.intro t0 (And.intro t1 (And.intro t0 (And.intro t1 (And.intro t0 (And.intro t1 (And.intro t0 (And.intro t1 (And.intro t0 (And.intro t1 (And.intro t0 (And.intro t1 (And.intro t0 (show tWG K B 0 0 S (uI (uI (uI (uI (uI (uI (uI (uI (uI I a 0 (I a1 0)) a 1 ((uI I a 0 (I a1 0)) a1 1)) a 2 ((uI (uI I a 0 (I a1 0)) a 1 ((uI I a 0 (I a1 0)) a1 1)) a1 2)) a 3 ((uI (uI (uI I a 0 (I a1 0)) a 1 ((uI I a 0 (I a1 0)) a1 1)) a 2 ((uI (uI I a 0 (I a1 0)) a 1 ((uI I a 0 (I a1 0)) a1 1)) a1 2)) a1 3)) a 4 ((uI (uI (uI (uI I a 0 (I a1 0)) a 1 ((uI I a 0 (I a1 0)) a1 1)) a 2 ((uI (uI I a 0 (I a1 0)) a 1 ((uI I a 0 (I a1 0)) a1 1)) a1 2)) a 3 ((uI (uI (uI I a 0 (I a1 0)) a 1 ((uI I a 0 (I a1 0)) a1 1)) a 2 ((uI (uI I a 0 (I a1 0)) a 1 ((uI I a 0 (I a1 0)) a1 1)) a1 2)) a1 3)) a1 4)) a 5 ((uI (uI (uI (uI (uI I a 0 (I a1 0)) a 1 ((uI I a 0 (I a1 0)) a1 1)) a 2 ((uI (uI I a 0 (I a1 0)) a 1 ((uI I a 0 (I a1 0)) a1 1)) a1 2)) a 3 ((uI (uI (uI I a 0 (I a1 0)) a 1 ((uI I a 0 (I a1 0)) a1 1)) a 2 ((uI (uI I a 0 (I a1 0)) a 1 ((uI I a 0 (I a1 0)) a1 1)) a1 2)) a1 3)) a 4 ((uI (uI (uI (uI I a 0 (I a1 0)) a 1 ((uI I a 0 (I a1 0)) a1 1)) a 2 ((uI (uI I a 0 (I a1 0)) a 1 ((uI I a 0 (I a1 0)) a1 1)) a1 2)) a 3 ((uI (uI (uI I a 0 (I a1 0)) a 1 ((uI I a 0 (I a1 0)) a1 1)) a 2 ((uI (uI I a 0 (I a1 0)) a 1 ((uI I a 0 (I a1 0)) a1 1)) a1 2)) a1 3)) a1 4)) a1 5)) a 6 ((uI (uI (uI (uI (uI (uI I a 0 (I a1 0)) a 1 ((uI I a 0 (I a1 0)) a1 1)) a 2 ((uI (uI I a 0 (I a1 0)) a 1 ((uI I a 0 (I a1 0)) a1 1)) a1 2)) a 3 ((uI (uI (uI I a 0 (I a1 0)) a 1 ((uI I a 0 (I a1 0)) a1 1)) a 2 ((uI (uI I a 0 (I a1 0)) a 1 ((uI I a 0 (I a1 0)) a1 1)) a1 2)) a1 3)) a 4 ((uI (uI (uI (uI I a 0 (I a1 0)) a 1 ((uI I a 0 (I a1 0)) a1 1)) a 2 ((uI (uI I a 0 (I a1 0)) a 1 ((uI I a 0 (I a1 0)) a1 1)) a1 2)) a 3 ((uI (uI (uI I a 0 (I a1 0)) a 1 ((uI I a 0 (I a1 0)) a1 1)) a 2 ((uI (uI I a 0 (I a1 0)) a 1 ((uI I a 0 (I a1 0)) a1 1)) a1 2)) a1 3)) a1 4)) a 5 ((uI (uI (uI (uI (uI I a 0 (I a1 0)) a 1 ((uI I a 0 (I a1 0)) a1 1)) a 2 ((uI (uI I a 0 (I a1 0)) a 1 ((uI I a 0 (I a1 0)) a1 1)) a1 2)) a 3 ((uI (uI (uI I a 0 (I a1 0)) a 1 ((uI I a 0 (I a1 0)) a1 1)) a 2 ((uI (uI I a 0 (I a1 0)) a 1 ((uI I a 0 (I a1 0)) a1 1)) a1 2)) a1 3)) a 4 ((uI (uI (uI (uI I a 0 (I a1 0)) a 1 ((uI I a 0 (I a1 0)) a1 1)) a 2 ((uI (uI I a 0 (I a1 0)) a 1 ((uI I a 0 (I a1 0)) a1 1)) a1 2)) a 3 ((uI (uI (uI I a 0 (I a1 0)) a 1 ((uI I a 0 (I a1 0)) a1 1)) a 2 ((uI (uI I a 0 (I a1 0)) a 1 ((uI I a 0 (I a1 0)) a1 1)) a1 2)) a1 3)) a1 4)) a1 5)) a1 6)) a 7 ((uI (uI (uI (uI (uI (uI (uI I a 0 (I a1 0)) a 1 ((uI I a 0 (I a1 0)) a1 1)) a 2 ((uI (uI I a 0 (I a1 0)) a 1 ((uI I a 0 (I a1 0)) a1 1)) a1 2)) a 3 ((uI (uI (uI I a 0 (I a1 0)) a 1 ((uI I a 0 (I a1 0)) a1 1)) a 2 ((uI (uI I a 0 (I a1 0)) a 1 ((uI I a 0 (I a1 0)) a1 1)) a1 2)) a1 3)) a 4 ((uI (uI (uI (uI I a 0 (I a1 0)) a 1 ((uI I a 0 (I a1 0)) a1 1)) a 2 ((uI (uI I a 0 (I a1 0)) a 1 ((uI I a 0 (I a1 0)) a1 1)) a1 2)) a 3 ((uI (uI (uI I a 0 (I a1 0)) a 1 ((uI I a 0 (I a1 0)) a1 1)) a 2 ((uI (uI I a 0 (I a1 0)) a 1 ((uI I a 0 (I a1 0)) a1 1)) a1 2)) a1 3)) a1 4)) a 5 ((uI (uI (uI (uI (uI I a 0 (I a1 0)) a 1 ((uI I a 0 (I a1 0)) a1 1)) a 2 ((uI (uI I a 0 (I a1 0)) a 1 ((uI I a 0 (I a1 0)) a1 1)) a1 2)) a 3 ((uI (uI (uI I a 0 (I a1 0)) a 1 ((uI I a 0 (I a1 0)) a1 1)) a 2 ((uI (uI I a 0 (I a1 0)) a 1 ((uI I a 0 (I a1 0)) a1 1)) a1 2)) a1 3)) a 4 ((uI (uI (uI (uI I a 0 (I a1 0)) a 1 ((uI I a 0 (I a1 0)) a1 1)) a 2 ((uI (uI I a 0 (I a1 0)) a 1 ((uI I a 0 (I a1 0)) a1 1)) a1 2)) a 3 ((uI (uI (uI I a 0 (I a1 0)) a 1 ((uI I a 0 (I a1 0)) a1 1)) a 2 ((uI (uI I a 0 (I a1 0)) a 1 ((uI I a 0 (I a1 0)) a1 1)) a1 2)) a1 3)) a1 4)) a1 5)) a 6 ((uI (uI (uI (uI (uI (uI I a 0 (I a1 0)) a 1 ((uI I a 0 (I a1 0)) a1 1)) a 2 ((uI (uI I a 0 (I a1 0)) a 1 ((uI I a 0 (I a1 0)) a1 1)) a1 2)) a 3 ((uI (uI (uI I a 0 (I a1 0)) a 1 ((uI I a 0 (I a1 0)) a1 1)) a 2 ((uI (uI I a 0 (I a1 0)) a 1 ((uI I a 0 (I a1 0)) a1 1)) a1 2)) a1 3)) a 4 ((uI (uI (uI (uI I a 0 (I a1 0)) a 1 ((uI I a 0 (I a1 0)) a1 1)) a 2 ((uI (uI I a 0 (I a1 0)) a 1 ((uI I a 0 (I a1 0)) a1 1)) a1 2)) a 3 ((uI (uI (uI I a 0 (I a1 0)) a 1 ((uI I a 0 (I a1 0)) a1 1)) a 2 ((uI (uI I a 0 (I a1 0)) a 1 ((uI I a 0 (I a1 0)) a1 1)) a1 2)) a1 3)) a1 4)) a 5 ((uI (uI (uI (uI (uI I a 0 (I a1 0)) a 1 ((uI I a 0 (I a1 0)) a1 1)) a 2 ((uI (uI I a 0 (I a1 0)) a 1 ((uI I a 0 (I a1 0)) a1 1)) a1 2)) a 3 ((uI (uI (uI I a 0 (I a1 0)) a 1 ((uI I a 0 (I a1 0)) a1 1)) a 2 ((uI (uI I a 0 (I a1 0)) a 1 ((uI I a 0 (I a1 0)) a1 1)) a1 2)) a1 3)) a 4 ((uI (uI (uI (uI I a 0 (I a1 0)) a 1 ((uI I a 0 (I a1 0)) a1 1)) a 2 ((uI (uI I a 0 (I a1 0)) a 1 ((uI I a 0 (I a1 0)) a1 1)) a1 2)) a 3 ((uI (uI (uI I a 0 (I a1 0)) a 1 ((uI I a 0 (I a1 0)) a1 1)) a 2 ((uI (uI I a 0 (I a1 0)) a 1 ((uI I a 0 (I a1 0)) a1 1)) a1 2)) a1 3)) a1 4)) a1 5)) a1 6)) a1 7)) a 8 ((uI (uI (uI (uI (uI (uI (uI (uI I a 0 (I a1 0)) a 1 ((uI I a 0 (I a1 0)) a1 1)) a 2 ((uI (uI I a 0 (I a1 0)) a 1 ((uI I a 0 (I a1 0)) a1 1)) a1 2)) a 3 ((uI (uI (uI I a 0 (I a1 0)) a 1 ((uI I a 0 (I a1 0)) a1 1)) a 2 ((uI (uI I a 0 (I a1 0)) a 1 ((uI I a 0 (I a1 0)) a1 1)) a1 2)) a1 3)) a 4 ((uI (uI (uI (uI I a 0 (I a1 0)) a 1 ((uI I a 0 (I a1 0)) a1 1)) a 2 ((uI (uI I a 0 (I a1 0)) a 1 ((uI I a 0 (I a1 0)) a1 1)) a1 2)) a 3 ((uI (uI (uI I a 0 (I a1 0)) a 1 ((uI I a 0 (I a1 0)) a1 1)) a 2 ((uI (uI I a 0 (I a1 0)) a 1 ((uI I a 0 (I a1 0)) a1 1)) a1 2)) a1 3)) a1 4)) a 5 ((uI (uI (uI (uI (uI I a 0 (I a1 0)) a 1 ((uI I a 0 (I a1 0)) a1 1)) a 2 ((uI (uI I a 0 (I a1 0)) a 1 ((uI I a 0 (I a1 0)) a1 1)) a1 2)) a 3 ((uI (uI (uI I a 0 (I a1 0)) a 1 ((uI I a 0 (I a1 0)) a1 1)) a 2 ((uI (uI I a 0 (I a1 0)) a 1 ((uI I a 0 (I a1 0)) a1 1)) a1 2)) a1 3)) a 4 ((uI (uI (uI (uI I a 0 (I a1 0)) a 1 ((uI I a 0 (I a1 0)) a1 1)) a 2 ((uI (uI I a 0 (I a1 0)) a 1 ((uI I a 0 (I a1 0)) a1 1)) a1 2)) a 3 ((uI (uI (uI I a 0 (I a1 0)) a 1 ((uI I a 0 (I a1 0)) a1 1)) a 2 ((uI (uI I a 0 (I a1 0)) a 1 ((uI I a 0 (I a1 0)) a1 1)) a1 2)) a1 3)) a1 4)) a1 5)) a 6 ((uI (uI (uI (uI (uI (uI I a 0 (I a1 0)) a 1 ((uI I a 0 (I a1 0)) a1 1)) a 2 ((uI (uI I a 0 (I a1 0)) a 1 ((uI I a 0 (I a1 0)) a1 1)) a1 2)) a 3 ((uI (uI (uI I a 0 (I a1 0)) a 1 ((uI I a 0 (I a1 0)) a1 1)) a 2 ((uI (uI I a 0 (I a1 0)) a 1 ((uI I a 0 (I a1 0)) a1 1)) a1 2)) a1 3)) a 4 ((uI (uI (uI (uI I a 0 (I a1 0)) a 1 ((uI I a 0 (I a1 0)) a1 1)) a 2 ((uI (uI I a 0 (I a1 0)) a 1 ((uI I a 0 (I a1 0)) a1 1)) a1 2)) a 3 ((uI (uI (uI I a 0 (I a1 0)) a 1 ((uI I a 0 (I a1 0)) a1 1)) a 2 ((uI (uI I a 0 (I a1 0)) a 1 ((uI I a 0 (I a1 0)) a1 1)) a1 2)) a1 3)) a1 4)) a 5 ((uI (uI (uI (uI (uI I a 0 (I a1 0)) a 1 ((uI I a 0 (I a1 0)) a1 1)) a 2 ((uI (uI I a 0 (I a1 0)) a 1 ((uI I a 0 (I a1 0)) a1 1)) a1 2)) a 3 ((uI (uI (uI I a 0 (I a1 0)) a 1 ((uI I a 0 (I a1 0)) a1 1)) a 2 ((uI (uI I a 0 (I a1 0)) a 1 ((uI I a 0 (I a1 0)) a1 1)) a1 2)) a1 3)) a 4 ((uI (uI (uI (uI I a 0 (I a1 0)) a 1 ((uI I a 0 (I a1 0)) a1 1)) a 2 ((uI (uI I a 0 (I a1 0)) a 1 ((uI I a 0 (I a1 0)) a1 1)) a1 2)) a 3 ((uI (uI (uI I a 0 (I a1 0)) a 1 ((uI I a 0 (I a1 0)) a1 1)) a 2 ((uI (uI I a 0 (I a1 0)) a 1 ((uI I a 0 (I a1 0)) a1 1)) a1 2)) a1 3)) a1 4)) a1 5)) a1 6)) a 7 ((uI (uI (uI (uI (uI (uI (uI I a 0 (I a1 0)) a 1 ((uI I a 0 (I a1 0)) a1 1)) a 2 ((uI (uI I a 0 (I a1 0)) a 1 ((uI I a 0 (I a1 0)) a1 1)) a1 2)) a 3 ((uI (uI (uI I a 0 (I a1 0)) a 1 ((uI I a 0 (I a1 0)) a1 1)) a 2 ((uI (uI I a 0 (I a1 0)) a 1 ((uI I a 0 (I a1 0)) a1 1)) a1 2)) a1 3)) a 4 ((uI (uI (uI (uI I a 0 (I a1 0)) a 1 ((uI I a 0 (I a1 0)) a1 1)) a 2 ((uI (uI I a 0 (I a1 0)) a 1 ((uI I a 0 (I a1 0)) a1 1)) a1 2)) a 3 ((uI (uI (uI I a 0 (I a1 0)) a 1 ((uI I a 0 (I a1 0)) a1 1)) a 2 ((uI (uI I a 0 (I a1 0)) a 1 ((uI I a 0 (I a1 0)) a1 1)) a1 2)) a1 3)) a1 4)) a 5 ((uI (uI (uI (uI (uI I a 0 (I a1 0)) a 1 ((uI I a 0 (I a1 0)) a1 1)) a 2 ((uI (uI I a 0 (I a1 0)) a 1 ((uI I a 0 (I a1 0)) a1 1)) a1 2)) a 3 ((uI (uI (uI I a 0 (I a1 0)) a 1 ((uI I a 0 (I a1 0)) a1 1)) a 2 ((uI (uI I a 0 (I a1 0)) a 1 ((uI I a 0 (I a1 0)) a1 1)) a1 2)) a1 3)) a 4 ((uI (uI (uI (uI I a 0 (I a1 0)) a 1 ((uI I a 0 (I a1 0)) a1 1)) a 2 ((uI (uI I a 0 (I a1 0)) a 1 ((uI I a 0 (I a1 0)) a1 1)) a1 2)) a 3 ((uI (uI (uI I a 0 (I a1 0)) a 1 ((uI I a 0 (I a1 0)) a1 1)) a 2 ((uI (uI I a 0 (I a1 0)) a 1 ((uI I a 0 (I a1 0)) a1 1)) a1 2)) a1 3)) a1 4)) a1 5)) a 6 ((uI (uI (uI (uI (uI (uI I a 0 (I a1 0)) a 1 ((uI I a 0 (I a1 0)) a1 1)) a 2 ((uI (uI I a 0 (I a1 0)) a 1 ((uI I a 0 (I a1 0)) a1 1)) a1 2)) a 3 ((uI (uI (uI I a 0 (I a1 0)) a 1 ((uI I a 0 (I a1 0)) a1 1)) a 2 ((uI (uI I a 0 (I a1 0)) a 1 ((uI I a 0 (I a1 0)) a1 1)) a1 2)) a1 3)) a 4 ((uI (uI (uI (uI I a 0 (I a1 0)) a 1 ((uI I a 0 (I a1 0)) a1 1)) a 2 ((uI (uI I a 0 (I a1 0)) a 1 ((uI I a 0 (I a1 0)) a1 1)) a1 2)) a 3 ((uI (uI (uI I a 0 (I a1 0)) a 1 ((uI I a 0 (I a1 0)) a1 1)) a 2 ((uI (uI I a 0 (I a1 0)) a 1 ((uI I a 0 (I a1 0)) a1 1)) a1 2)) a1 3)) a1 4)) a 5 ((uI (uI (uI (uI (uI I a 0 (I a1 0)) a 1 ((uI I a 0 (I a1 0)) a1 1)) a 2 ((uI (uI I a 0 (I a1 0)) a 1 ((uI I a 0 (I a1 0)) a1 1)) a1 2)) a 3 ((uI (uI (uI I a 0 (I a1 0)) a 1 ((uI I a 0 (I a1 0)) a1 1)) a 2 ((uI (uI I a 0 (I a1 0)) a 1 ((uI I a 0 (I a1 0)) a1 1)) a1 2)) a1 3)) a 4 ((uI (uI (uI (uI I a 0 (I a1 0)) a 1 ((uI I a 0 (I a1 0)) a1 1)) a 2 ((uI (uI I a 0 (I a1 0)) a 1 ((uI I a 0 (I a1 0)) a1 1)) a1 2)) a 3 ((uI (uI (uI I a 0 (I a1 0)) a 1 ((uI I a 0 (I a1 0)) a1 1)) a 2 ((uI (uI I a 0 (I a1 0)) a 1 ((uI I a 0 (I a1 0)) a1 1)) a1 2)) a1 3)) a1 4)) a1 5)) a1 6)) a1 7)) a1 8)) J 72 [some (vR a), some (vR a1)] [] from ?_)))))))))))))))))))
  exact gVret hO hQ (by decide +kernel) ⟨rfl, h⟩)
set_option maxRecDepth 20000 in
theorem hc11_feed : tCV yX11_feed cX11_feed 6 (some .int) 5 := ⟨⟨(List.mem_of_getElem? (i := 558) rfl), (List.mem_of_getElem? (i := 2) (by decide +kernel)), by decide +kernel⟩, (List.mem_of_getElem? (i := 556) (by decide +kernel)), (List.mem_of_getElem? (i := 557) (by decide +kernel))⟩
set_option maxRecDepth 100000 in
theorem M11_feed {l : Launch} {B : tB} {S : tSH} {I : tHI} {J : tHJ} {v1 : Int32} {v2 : Int32} {v3 : Int32} {v4 : Int32} {v5 : Int32} {n : Nat} {k : Int32 → tHI → tHJ → Prop} (t0 : ty S 0 11) (h : F11_feed n S I J v1 v2 v3 v4 v5 k) : Met l yX11_feed (tWs yX11_feed cX11_feed 6 (some .int)) (tRm 3 0 0) (tPc B [vR 0, vI v1, vI v2, vI v3, vI v4, vI v5] S I J) (tQi B (tPi S k)) 0 0 (tA B) :=
  tEntry (by decide +kernel) [some (vR 0), some (vI v1), some (vI v2), some (vI v3), some (vI v4), some (vI v5)] rfl rfl (Nat.le_of_ble_eq_true rfl) (fun K hl hR hO hQ hG => by
  subst hl
  refine gBk (pe := 13) hO [o0 (.aload_n 0), oF (.getfield 36) 11 5 26 38, oF (.getfield 202) 9 1 559 0, oI (.bipush 20) 20, o0 .iadd, oI (.sipush 400) 400] (by decide +kernel) (And.intro t0 (And.intro rfl (And.intro (tGr.off hG t0 (k := 5) rfl) (show tWG K B 0 0 S I J 13 [some (vR 0), some (vI v1), some (vI v2), some (vI v3), some (vI v4), some (vI v5)] [vI 400, vI ((I 38 1) + 20)] from ?_))))
  refine gIcLe hO (off := 5) (tgt := 18) (by decide +kernel) (by decide) (fun c1 => ?_) (fun c1 => ?_)
  · have h := h.1 c1
    refine gBk (pe := 23) hO [o0 (.aload_n 0), oF (.getfield 36) 11 5 26 38, o0 (.iload_n 1)] (by decide +kernel) (And.intro t0 (And.intro rfl (show tWG K B 0 0 S I J 23 [some (vR 0), some (vI v1), some (vI v2), some (vI v3), some (vI v4), some (vI v5)] [vI v1, vR 38] from ?_)))
    refine gCVv_c hO (M9_append (tGr.off hG t0 (k := 5) rfl) h) hc9_append (idx := 203) (w := 560) (by decide +kernel) hR (by omega) (tGr.off hG t0 (k := 5) rfl) ⟨by decide, rfl⟩ (vs := [vI v1]) (st := []) ⟨rfl, Nat.le_of_ble_eq_true rfl, rfl⟩ (by decide +kernel) (fun I2 J3 h => ?_)
    refine gBk (pe := 31) hO [o0 (.aload_n 0), oF (.getfield 36) 11 5 26 38, o0 (.iload_n 2)] (by decide +kernel) (And.intro t0 (And.intro rfl (show tWG K B 0 0 S I2 J3 31 [some (vR 0), some (vI v1), some (vI v2), some (vI v3), some (vI v4), some (vI v5)] [vI v2, vR 38] from ?_)))
    refine gCVv_c hO (M9_append (tGr.off hG t0 (k := 5) rfl) h) hc9_append (idx := 203) (w := 560) (by decide +kernel) hR (by omega) (tGr.off hG t0 (k := 5) rfl) ⟨by decide, rfl⟩ (vs := [vI v2]) (st := []) ⟨rfl, Nat.le_of_ble_eq_true rfl, rfl⟩ (by decide +kernel) (fun I4 J5 h => ?_)
    refine gBk (pe := 39) hO [o0 (.aload_n 0), oF (.getfield 36) 11 5 26 38, o0 (.iload_n 3)] (by decide +kernel) (And.intro t0 (And.intro rfl (show tWG K B 0 0 S I4 J5 39 [some (vR 0), some (vI v1), some (vI v2), some (vI v3), some (vI v4), some (vI v5)] [vI v3, vR 38] from ?_)))
    refine gCVv_c hO (M9_append (tGr.off hG t0 (k := 5) rfl) h) hc9_append (idx := 203) (w := 560) (by decide +kernel) hR (by omega) (tGr.off hG t0 (k := 5) rfl) ⟨by decide, rfl⟩ (vs := [vI v3]) (st := []) ⟨rfl, Nat.le_of_ble_eq_true rfl, rfl⟩ (by decide +kernel) (fun I6 J7 h => ?_)
    refine gBk (pe := 48) hO [o0 (.aload_n 0), oF (.getfield 36) 11 5 26 38, o0 (.iload 4)] (by decide +kernel) (And.intro t0 (And.intro rfl (show tWG K B 0 0 S I6 J7 48 [some (vR 0), some (vI v1), some (vI v2), some (vI v3), some (vI v4), some (vI v5)] [vI v4, vR 38] from ?_)))
    refine gCVv_c hO (M9_append (tGr.off hG t0 (k := 5) rfl) h) hc9_append (idx := 203) (w := 560) (by decide +kernel) hR (by omega) (tGr.off hG t0 (k := 5) rfl) ⟨by decide, rfl⟩ (vs := [vI v4]) (st := []) ⟨rfl, Nat.le_of_ble_eq_true rfl, rfl⟩ (by decide +kernel) (fun I8 J9 h => ?_)
    refine gBk (pe := 57) hO [o0 (.aload_n 0), oF (.getfield 36) 11 5 26 38, o0 (.iload 5)] (by decide +kernel) (And.intro t0 (And.intro rfl (show tWG K B 0 0 S I8 J9 57 [some (vR 0), some (vI v1), some (vI v2), some (vI v3), some (vI v4), some (vI v5)] [vI v5, vR 38] from ?_)))
    refine gCVv_c hO (M9_append (tGr.off hG t0 (k := 5) rfl) h) hc9_append (idx := 203) (w := 560) (by decide +kernel) hR (by omega) (tGr.off hG t0 (k := 5) rfl) ⟨by decide, rfl⟩ (vs := [vI v5]) (st := []) ⟨rfl, Nat.le_of_ble_eq_true rfl, rfl⟩ (by decide +kernel) (fun I10 J11 h => ?_)
    refine gBk (pe := 67) hO [o0 (.aload_n 0), oF (.getfield 36) 11 5 26 38, oF (.getfield 202) 9 1 559 0] (by decide +kernel) (And.intro t0 (And.intro rfl (And.intro (tGr.off hG t0 (k := 5) rfl) (show tWG K B 0 0 S I10 J11 67 [some (vR 0), some (vI v1), some (vI v2), some (vI v3), some (vI v4), some (vI v5)] [vI (I10 38 1)] from ?_))))
    exact gIret hO hQ (by decide +kernel) ⟨rfl, h⟩
  · have h := h.2 c1
    refine gBk (pe := 17) hO [oI (.iconst (-1)) (-1)] (by decide +kernel) (show tWG K B 0 0 S I J 17 [some (vR 0), some (vI v1), some (vI v2), some (vI v3), some (vI v4), some (vI v5)] [vI (-1)] from ?_)
    exact gIret hO hQ (by decide +kernel) ⟨rfl, h⟩)
set_option maxRecDepth 20000 in
theorem hc11_mud : tCV yX11_mud cX11_mud 1 (some .int) 0 := ⟨⟨(List.mem_of_getElem? (i := 601) rfl), (List.mem_of_getElem? (i := 2) (by decide +kernel)), by decide +kernel⟩, (List.mem_of_getElem? (i := 599) (by decide +kernel)), (List.mem_of_getElem? (i := 600) (by decide +kernel))⟩
set_option maxRecDepth 100000 in
theorem M11_mud {l : Launch} {B : tB} {S : tSH} {I : tHI} {J : tHJ} (t0 : ty S 0 11) : Met l yX11_mud (tWs yX11_mud cX11_mud 1 (some .int)) (tRm 2 0 0) (tPc B [vR 0] S I J) (tQi B (tPp S I J (V11_mud S I J))) 0 0 (tA B) :=
  tEntry (by decide +kernel) [some (vR 0)] rfl rfl (Nat.le_of_ble_eq_true rfl) (fun K hl hR hO hQ hG => by
  subst hl
  refine gBk (pe := 4) hO [o0 (.aload_n 0), oF (.getfield 100) 11 17 54 0] (by decide +kernel) (And.intro t0 (show tWG K B 0 0 S I J 4 [some (vR 0)] [vI (I 0 17)] from ?_))
  exact gIret hO hQ (by decide +kernel) ⟨rfl, rfl⟩)
set_option maxRecDepth 100000 in
theorem W11_setOrderWords_124 {K : tK} {B : tB} {S : tSH} {MC MS : Nat} (hO : tKO K B RX11 cX11_setOrderWords 3) (hR : kR K = tRm 3 MC MS) (hG : tGr S) {n : Nat} (t0 : ty S 0 11) {k : tHI → tHJ → Prop} (hQ : tRet K B (tQv B (tPv S k)) 0 0 none) {kb124 : tHI → tHJ → Int32 → Prop} (hkb124 : ∀ (I : tHI) (J : tHJ) (v2 : Int32), kb124 I J v2 → tWG K B 0 0 S I J 124 [some (vR 0), none, some (vI v2)] []) {I : tHI} {J : tHJ} {v2 : Int32} (h : F11_setOrderWords_124 n S k kb124 I J v2) : tWG K B 0 0 S I J 124 [some (vR 0), none, some (vI v2)] [] := by
  refine gBk (pe := 127) hO [o0 (.iload_n 2), oI (.bipush 6) 6] (by decide +kernel) (show tWG K B 0 0 S I J 127 [some (vR 0), none, some (vI v2)] [vI 6, vI v2] from ?_)
  refine gIcGe hO (off := 49) (tgt := 176) (by decide +kernel) (by decide) (fun c2 => ?_) (fun c2 => ?_)
  · have h := h.1 c2
    exact gVret hO hQ (by decide +kernel) ⟨rfl, h⟩
  · have h := h.2 c2
    refine gBk (pe := 146) hO [o0 (.aload_n 0), oF (.getfield 72) 11 10 44 58, oI (.bipush 18) 18, o0 (.iload_n 2), o0 .iadd, o0 (.aload_n 0), oF (.getfield 12) 11 0 15 1, oF (.getfield 120) 8 0 242 2, o0 (.iload_n 2)] (by decide +kernel) (And.intro t0 (And.intro rfl (And.intro t0 (And.intro rfl (And.intro (tGr.off hG t0 (k := 0) rfl) (And.intro rfl (show tWG K B 0 0 S I J 146 [some (vR 0), none, some (vI v2)] [vI v2, vR 2, vI (18 + v2), vR 58] from ?_)))))))
    refine gCVi_z hO (M3_has (tGr.off hG (tGr.off hG t0 (k := 0) rfl) (k := 0) rfl)) hc3_has (idx := 136) (w := 381) (by decide +kernel) hR (by omega) (tGr.off hG (tGr.off hG t0 (k := 0) rfl) (k := 0) rfl) ⟨by decide, rfl⟩ (vs := [vI v2]) (st := [vI (18 + v2), vR 58]) ⟨rfl, Nat.le_of_ble_eq_true rfl, rfl⟩ (by decide +kernel) (fun z3 => ?_)
    have hj4 : ∀ (m5 : Int32), m5 = (if (V3_has S I J 2 v2) = 0 then (-10) else (I 4 v2.toNatClampNeg)) → tWG K B 0 0 S I J 169 [some (vR 0), none, some (vI v2)] [vI m5, vI (18 + v2), vR 58] := by
      intro m5 em5
      subst em5
      have h := h.2
      refine gBk (pe := 124) hO [o0 .iastore, oI (.iinc 2 1) 1, o0 (.goto (-49))] (by decide +kernel) (And.intro (tGr.off hG t0 (k := 10) rfl) (And.intro (tin (tGr.len hG t0 (k := 10) rfl (by decide)) h.1) (show tWG K B 0 0 S (uI I 58 (18 + v2).toNatClampNeg (if (V3_has S I J 2 v2) = 0 then (-10) else (I 4 v2.toNatClampNeg))) J 124 [some (vR 0), none, some (vI (v2 + 1))] [] from ?_)))
      have h := h.2
      exact hkb124 _ _ _ h
    have h := h.1
    refine gIfEq hO (off := 18) (tgt := 167) (by decide +kernel) (by decide) (fun c6 => ?_) (fun c6 => ?_)
    · have h := h.1 c6
      refine gBk (pe := 169) hO [oI (.bipush (-10)) (-10)] (by decide +kernel) (show tWG K B 0 0 S I J 169 [some (vR 0), none, some (vI v2)] [vI (-10), vI (18 + v2), vR 58] from ?_)
      exact (hj4 _ (Eq.symm (if_pos c6)))
    · have h := h.2 c6
      refine gBk (pe := 169) hO [o0 (.aload_n 0), oF (.getfield 12) 11 0 15 1, oF (.getfield 120) 8 0 242 2, oF (.getfield 143) 3 2 378 4, o0 (.iload_n 2), o0 .iaload, o0 (.goto 5)] (by decide +kernel) (And.intro t0 (And.intro rfl (And.intro (tGr.off hG t0 (k := 0) rfl) (And.intro rfl (And.intro (tGr.off hG (tGr.off hG t0 (k := 0) rfl) (k := 0) rfl) (And.intro rfl (And.intro (tGr.off hG (tGr.off hG (tGr.off hG t0 (k := 0) rfl) (k := 0) rfl) (k := 2) rfl) (And.intro (tin (tGr.len hG (tGr.off hG (tGr.off hG t0 (k := 0) rfl) (k := 0) rfl) (k := 2) rfl (by decide)) h.1) (show tWG K B 0 0 S I J 169 [some (vR 0), none, some (vI v2)] [vI (I 4 v2.toNatClampNeg), vI (18 + v2), vR 58] from ?_)))))))))
      have h := h.2
      exact (hj4 _ (Eq.symm (if_neg c6)))
theorem W11_setOrderWords_L124 {K : tK} {B : tB} {S : tSH} {MC MS : Nat} (hO : tKO K B RX11 cX11_setOrderWords 3) (hR : kR K = tRm 3 MC MS) (hG : tGr S) {n : Nat} (t0 : ty S 0 11) {k : tHI → tHJ → Prop} (hQ : tRet K B (tQv B (tPv S k)) 0 0 none) : ∀ (f : Nat) (I : tHI) (J : tHJ) (v2 : Int32), F11_setOrderWords_L124 n S k f I J v2 → tWG K B 0 0 S I J 124 [some (vR 0), none, some (vI v2)] [] := by
  intro f
  induction f with
  | zero => intro I J v2 h; exact h.elim
  | succ f ih => intro I J v2 h; exact W11_setOrderWords_124 hO hR hG t0 hQ ih h
set_option maxRecDepth 100000 in
theorem W11_setOrderWords_70 {K : tK} {B : tB} {S : tSH} {MC MS : Nat} (hO : tKO K B RX11 cX11_setOrderWords 3) (hR : kR K = tRm 3 MC MS) (hG : tGr S) {n : Nat} (t0 : ty S 0 11) {k : tHI → tHJ → Prop} (hQ : tRet K B (tQv B (tPv S k)) 0 0 none) {kb70 : tHI → tHJ → Int32 → Prop} (hkb70 : ∀ (I : tHI) (J : tHJ) (v2 : Int32), kb70 I J v2 → tWG K B 0 0 S I J 70 [some (vR 0), none, some (vI v2)] []) {I : tHI} {J : tHJ} {v2 : Int32} (h : F11_setOrderWords_70 n S k kb70 I J v2) : tWG K B 0 0 S I J 70 [some (vR 0), none, some (vI v2)] [] := by
  refine gBk (pe := 73) hO [o0 (.iload_n 2), oI (.bipush 12) 12] (by decide +kernel) (show tWG K B 0 0 S I J 73 [some (vR 0), none, some (vI v2)] [vI 12, vI v2] from ?_)
  refine gIcGe hO (off := 49) (tgt := 122) (by decide +kernel) (by decide) (fun c1 => ?_) (fun c1 => ?_)
  · have h := h.1 c1
    refine gBk (pe := 124) hO [oI (.iconst 0) 0, o0 (.istore_n 2)] (by decide +kernel) (And.intro (Nat.le_of_ble_eq_true rfl) (show tWG K B 0 0 S I J 124 [some (vR 0), none, some (vI 0)] [] from ?_))
    exact W11_setOrderWords_L124 hO hR hG t0 hQ n _ _ _ h
  · have h := h.2 c1
    refine gBk (pe := 92) hO [o0 (.aload_n 0), oF (.getfield 72) 11 10 44 58, oI (.bipush 6) 6, o0 (.iload_n 2), o0 .iadd, o0 (.aload_n 0), oF (.getfield 12) 11 0 15 1, oF (.getfield 158) 8 1 398 7, o0 (.iload_n 2)] (by decide +kernel) (And.intro t0 (And.intro rfl (And.intro t0 (And.intro rfl (And.intro (tGr.off hG t0 (k := 0) rfl) (And.intro rfl (show tWG K B 0 0 S I J 92 [some (vR 0), none, some (vI v2)] [vI v2, vR 7, vI (6 + v2), vR 58] from ?_)))))))
    refine gCVi_z hO (M7_has (tGr.off hG (tGr.off hG t0 (k := 0) rfl) (k := 1) rfl)) hc7_has (idx := 175) (w := 439) (by decide +kernel) hR (by omega) (tGr.off hG (tGr.off hG t0 (k := 0) rfl) (k := 1) rfl) ⟨by decide, rfl⟩ (vs := [vI v2]) (st := [vI (6 + v2), vR 58]) ⟨rfl, Nat.le_of_ble_eq_true rfl, rfl⟩ (by decide +kernel) (fun z7 => ?_)
    have hj8 : ∀ (m9 : Int32), m9 = (if (V7_has S I J 7 v2) = 0 then (-10) else (I 8 v2.toNatClampNeg)) → tWG K B 0 0 S I J 115 [some (vR 0), none, some (vI v2)] [vI m9, vI (6 + v2), vR 58] := by
      intro m9 em9
      subst em9
      have h := h.2
      refine gBk (pe := 70) hO [o0 .iastore, oI (.iinc 2 1) 1, o0 (.goto (-49))] (by decide +kernel) (And.intro (tGr.off hG t0 (k := 10) rfl) (And.intro (tin (tGr.len hG t0 (k := 10) rfl (by decide)) h.1) (show tWG K B 0 0 S (uI I 58 (6 + v2).toNatClampNeg (if (V7_has S I J 7 v2) = 0 then (-10) else (I 8 v2.toNatClampNeg))) J 70 [some (vR 0), none, some (vI (v2 + 1))] [] from ?_)))
      have h := h.2
      exact hkb70 _ _ _ h
    have h := h.1
    refine gIfEq hO (off := 18) (tgt := 113) (by decide +kernel) (by decide) (fun c10 => ?_) (fun c10 => ?_)
    · have h := h.1 c10
      refine gBk (pe := 115) hO [oI (.bipush (-10)) (-10)] (by decide +kernel) (show tWG K B 0 0 S I J 115 [some (vR 0), none, some (vI v2)] [vI (-10), vI (6 + v2), vR 58] from ?_)
      exact (hj8 _ (Eq.symm (if_pos c10)))
    · have h := h.2 c10
      refine gBk (pe := 115) hO [o0 (.aload_n 0), oF (.getfield 12) 11 0 15 1, oF (.getfield 158) 8 1 398 7, oF (.getfield 176) 7 1 435 8, o0 (.iload_n 2), o0 .iaload, o0 (.goto 5)] (by decide +kernel) (And.intro t0 (And.intro rfl (And.intro (tGr.off hG t0 (k := 0) rfl) (And.intro rfl (And.intro (tGr.off hG (tGr.off hG t0 (k := 0) rfl) (k := 1) rfl) (And.intro rfl (And.intro (tGr.off hG (tGr.off hG (tGr.off hG t0 (k := 0) rfl) (k := 1) rfl) (k := 1) rfl) (And.intro (tin (tGr.len hG (tGr.off hG (tGr.off hG t0 (k := 0) rfl) (k := 1) rfl) (k := 1) rfl (by decide)) h.1) (show tWG K B 0 0 S I J 115 [some (vR 0), none, some (vI v2)] [vI (I 8 v2.toNatClampNeg), vI (6 + v2), vR 58] from ?_)))))))))
      have h := h.2
      exact (hj8 _ (Eq.symm (if_neg c10)))
theorem W11_setOrderWords_L70 {K : tK} {B : tB} {S : tSH} {MC MS : Nat} (hO : tKO K B RX11 cX11_setOrderWords 3) (hR : kR K = tRm 3 MC MS) (hG : tGr S) {n : Nat} (t0 : ty S 0 11) {k : tHI → tHJ → Prop} (hQ : tRet K B (tQv B (tPv S k)) 0 0 none) : ∀ (f : Nat) (I : tHI) (J : tHJ) (v2 : Int32), F11_setOrderWords_L70 n S k f I J v2 → tWG K B 0 0 S I J 70 [some (vR 0), none, some (vI v2)] [] := by
  intro f
  induction f with
  | zero => intro I J v2 h; exact h.elim
  | succ f ih => intro I J v2 h; exact W11_setOrderWords_70 hO hR hG t0 hQ ih h
set_option maxRecDepth 20000 in
theorem hc11_setOrderWords : tCV yX11_setOrderWords cX11_setOrderWords 3 none 0 := ⟨⟨(List.mem_of_getElem? (i := 932) rfl), (List.mem_of_getElem? (i := 2) (by decide +kernel)), by decide +kernel⟩, (List.mem_of_getElem? (i := 930) (by decide +kernel)), (List.mem_of_getElem? (i := 931) (by decide +kernel))⟩
set_option maxRecDepth 100000 in
theorem M11_setOrderWords {l : Launch} {B : tB} {S : tSH} {I : tHI} {J : tHJ} {n : Nat} {k : tHI → tHJ → Prop} (t0 : ty S 0 11) (h : F11_setOrderWords n S I J k) : Met l yX11_setOrderWords (tWs yX11_setOrderWords cX11_setOrderWords 3 none) (tRm 3 0 0) (tPc B [vR 0] S I J) (tQv B (tPv S k)) 0 0 (tA B) :=
  tEntry (by decide +kernel) [some (vR 0), none, none] rfl rfl (Nat.le_of_ble_eq_true rfl) (fun K hl hR hO hQ hG => by
  subst hl
  refine gBk (pe := 70) hO [o0 (.aload_n 0), oF (.getfield 12) 11 0 15 1, oF (.getfield 169) 8 2 425 15, o0 (.astore_n 1), o0 (.aload_n 0), oF (.getfield 72) 11 10 44 58, oI (.iconst 0) 0, o0 (.aload_n 1), oF (.getfield 270) 10 3 933 0, o0 .iastore, o0 (.aload_n 0), oF (.getfield 72) 11 10 44 58, oI (.iconst 1) 1, o0 (.aload_n 1), oF (.getfield 172) 10 2 426 0, o0 .iastore, o0 (.aload_n 0), oF (.getfield 72) 11 10 44 58, oI (.iconst 2) 2, o0 (.aload_n 1), oF (.getfield 273) 10 1 934 0, o0 .iastore, o0 (.aload_n 0), oF (.getfield 72) 11 10 44 58, oI (.iconst 3) 3, o0 (.aload_n 0), oF (.getfield 90) 11 14 51 0, o0 .iastore, o0 (.aload_n 0), oF (.getfield 72) 11 10 44 58, oI (.iconst 4) 4, o0 (.aload_n 0), oF (.getfield 94) 11 15 52 0, o0 .iastore, o0 (.aload_n 0), oF (.getfield 72) 11 10 44 58, oI (.iconst 5) 5, o0 (.aload_n 1), oF (.getfield 276) 10 4 935 0, o0 .iastore, oI (.iconst 0) 0, o0 (.istore_n 2)] (by decide +kernel) (And.intro t0 (And.intro rfl (And.intro (tGr.off hG t0 (k := 0) rfl) (And.intro rfl (And.intro (Nat.le_of_ble_eq_true rfl) (And.intro t0 (And.intro rfl (And.intro (tGr.off hG (tGr.off hG t0 (k := 0) rfl) (k := 2) rfl) (And.intro (tGr.off hG t0 (k := 10) rfl) (And.intro (tin (tGr.len hG t0 (k := 10) rfl (by decide)) (tvi (by decide +kernel))) (And.intro t0 (And.intro rfl (And.intro (tGr.off hG (tGr.off hG t0 (k := 0) rfl) (k := 2) rfl) (And.intro (tGr.off hG t0 (k := 10) rfl) (And.intro (tin (tGr.len hG t0 (k := 10) rfl (by decide)) (tvi (by decide +kernel))) (And.intro t0 (And.intro rfl (And.intro (tGr.off hG (tGr.off hG t0 (k := 0) rfl) (k := 2) rfl) (And.intro (tGr.off hG t0 (k := 10) rfl) (And.intro (tin (tGr.len hG t0 (k := 10) rfl (by decide)) (tvi (by decide +kernel))) (And.intro t0 (And.intro rfl (And.intro t0 (And.intro (tGr.off hG t0 (k := 10) rfl) (And.intro (tin (tGr.len hG t0 (k := 10) rfl (by decide)) (tvi (by decide +kernel))) (And.intro t0 (And.intro rfl (And.intro t0 (And.intro (tGr.off hG t0 (k := 10) rfl) (And.intro (tin (tGr.len hG t0 (k := 10) rfl (by decide)) (tvi (by decide +kernel))) (And.intro t0 (And.intro rfl (And.intro (tGr.off hG (tGr.off hG t0 (k := 0) rfl) (k := 2) rfl) (And.intro (tGr.off hG t0 (k := 10) rfl) (And.intro (tin (tGr.len hG t0 (k := 10) rfl (by decide)) (tvi (by decide +kernel))) (And.intro (Nat.le_of_ble_eq_true rfl) (show tWG K B 0 0 S (uI (uI (uI (uI (uI (uI I 58 0 (I 15 3)) 58 1 ((uI I 58 0 (I 15 3)) 15 2)) 58 2 ((uI (uI I 58 0 (I 15 3)) 58 1 ((uI I 58 0 (I 15 3)) 15 2)) 15 1)) 58 3 ((uI (uI (uI I 58 0 (I 15 3)) 58 1 ((uI I 58 0 (I 15 3)) 15 2)) 58 2 ((uI (uI I 58 0 (I 15 3)) 58 1 ((uI I 58 0 (I 15 3)) 15 2)) 15 1)) 0 14)) 58 4 ((uI (uI (uI (uI I 58 0 (I 15 3)) 58 1 ((uI I 58 0 (I 15 3)) 15 2)) 58 2 ((uI (uI I 58 0 (I 15 3)) 58 1 ((uI I 58 0 (I 15 3)) 15 2)) 15 1)) 58 3 ((uI (uI (uI I 58 0 (I 15 3)) 58 1 ((uI I 58 0 (I 15 3)) 15 2)) 58 2 ((uI (uI I 58 0 (I 15 3)) 58 1 ((uI I 58 0 (I 15 3)) 15 2)) 15 1)) 0 14)) 0 15)) 58 5 ((uI (uI (uI (uI (uI I 58 0 (I 15 3)) 58 1 ((uI I 58 0 (I 15 3)) 15 2)) 58 2 ((uI (uI I 58 0 (I 15 3)) 58 1 ((uI I 58 0 (I 15 3)) 15 2)) 15 1)) 58 3 ((uI (uI (uI I 58 0 (I 15 3)) 58 1 ((uI I 58 0 (I 15 3)) 15 2)) 58 2 ((uI (uI I 58 0 (I 15 3)) 58 1 ((uI I 58 0 (I 15 3)) 15 2)) 15 1)) 0 14)) 58 4 ((uI (uI (uI (uI I 58 0 (I 15 3)) 58 1 ((uI I 58 0 (I 15 3)) 15 2)) 58 2 ((uI (uI I 58 0 (I 15 3)) 58 1 ((uI I 58 0 (I 15 3)) 15 2)) 15 1)) 58 3 ((uI (uI (uI I 58 0 (I 15 3)) 58 1 ((uI I 58 0 (I 15 3)) 15 2)) 58 2 ((uI (uI I 58 0 (I 15 3)) 58 1 ((uI I 58 0 (I 15 3)) 15 2)) 15 1)) 0 14)) 0 15)) 15 4)) J 70 [some (vR 0), some (vR 15), some (vI 0)] [] from ?_)))))))))))))))))))))))))))))))))))))
  exact gWeak (L' := [some (vR 0), none, some (vI 0)]) ⟨rfl, rfl, trivial⟩ (W11_setOrderWords_L70 hO hR hG t0 hQ n _ _ _ h))
set_option maxRecDepth 20000 in
theorem hc11_fault : tCV yX11_fault cX11_fault 1 (some .int) 0 := ⟨⟨(List.mem_of_getElem? (i := 1073) rfl), (List.mem_of_getElem? (i := 2) (by decide +kernel)), by decide +kernel⟩, (List.mem_of_getElem? (i := 1071) (by decide +kernel)), (List.mem_of_getElem? (i := 1072) (by decide +kernel))⟩
set_option maxRecDepth 100000 in
theorem M11_fault {l : Launch} {B : tB} {S : tSH} {I : tHI} {J : tHJ} (t0 : ty S 0 11) : Met l yX11_fault (tWs yX11_fault cX11_fault 1 (some .int)) (tRm 2 0 0) (tPc B [vR 0] S I J) (tQi B (tPp S I J (V11_fault S I J))) 0 0 (tA B) :=
  tEntry (by decide +kernel) [some (vR 0)] rfl rfl (Nat.le_of_ble_eq_true rfl) (fun K hl hR hO hQ hG => by
  subst hl
  refine gBk (pe := 7) hO [o0 (.aload_n 0), oF (.getfield 43) 11 6 30 40, oF (.getfield 279) 4 1 1074 0] (by decide +kernel) (And.intro t0 (And.intro rfl (And.intro (tGr.off hG t0 (k := 6) rfl) (show tWG K B 0 0 S I J 7 [some (vR 0)] [vI (I 40 1)] from ?_))))
  exact gIret hO hQ (by decide +kernel) ⟨rfl, rfl⟩)
set_option maxRecDepth 20000 in
theorem hc11_stopped : tCV yX11_stopped cX11_stopped 1 (some .int) 0 := ⟨⟨(List.mem_of_getElem? (i := 1082) rfl), (List.mem_of_getElem? (i := 2) (by decide +kernel)), by decide +kernel⟩, (List.mem_of_getElem? (i := 1080) (by decide +kernel)), (List.mem_of_getElem? (i := 1081) (by decide +kernel))⟩
set_option maxRecDepth 100000 in
theorem M11_stopped {l : Launch} {B : tB} {S : tSH} {I : tHI} {J : tHJ} (t0 : ty S 0 11) : Met l yX11_stopped (tWs yX11_stopped cX11_stopped 1 (some .int)) (tRm 2 0 0) (tPc B [vR 0] S I J) (tQi B (tPp S I J (V11_stopped S I J))) 0 0 (tA B) :=
  tEntry (by decide +kernel) [some (vR 0)] rfl rfl (Nat.le_of_ble_eq_true rfl) (fun K hl hR hO hQ hG => by
  subst hl
  refine gBk (pe := 4) hO [o0 (.aload_n 0), oF (.getfield 97) 11 16 53 0] (by decide +kernel) (And.intro t0 (show tWG K B 0 0 S I J 4 [some (vR 0)] [vI (I 0 16)] from ?_))
  exact gIret hO hQ (by decide +kernel) ⟨rfl, rfl⟩)
set_option maxRecDepth 20000 in
theorem hc11_forget : tCV yX11_forget cX11_forget 2 (some .int) 0 := ⟨⟨(List.mem_of_getElem? (i := 1372) rfl), (List.mem_of_getElem? (i := 2) (by decide +kernel)), by decide +kernel⟩, (List.mem_of_getElem? (i := 1370) (by decide +kernel)), (List.mem_of_getElem? (i := 1371) (by decide +kernel))⟩
set_option maxRecDepth 100000 in
theorem M11_forget {l : Launch} {B : tB} {S : tSH} {I : tHI} {J : tHJ} {n : Nat} {k : Int32 → tHI → tHJ → Prop} (t0 : ty S 0 11) (h : F11_forget n S I J k) : Met l yX11_forget (tWs yX11_forget cX11_forget 2 (some .int)) (tRm 2 0 0) (tPc B [vR 0] S I J) (tQi B (tPi S k)) 0 0 (tA B) :=
  tEntry (by decide +kernel) [some (vR 0), none] rfl rfl (Nat.le_of_ble_eq_true rfl) (fun K hl hR hO hQ hG => by
  subst hl
  refine gBk (pe := 23) hO [o0 (.aload_n 0), oF (.getfield 12) 11 0 15 1, oF (.getfield 158) 8 1 398 7, oF (.getfield 166) 7 5 424 0, o0 (.istore_n 1), o0 (.aload_n 0), oF (.getfield 12) 11 0 15 1, oF (.getfield 158) 8 1 398 7, oI (.iconst 0) 0, oF (.putfield 166) 7 5 424 0, o0 (.iload_n 1)] (by decide +kernel) (And.intro t0 (And.intro rfl (And.intro (tGr.off hG t0 (k := 0) rfl) (And.intro rfl (And.intro (tGr.off hG (tGr.off hG t0 (k := 0) rfl) (k := 1) rfl) (And.intro (Nat.le_of_ble_eq_true rfl) (And.intro t0 (And.intro rfl (And.intro (tGr.off hG t0 (k := 0) rfl) (And.intro rfl (And.intro (tGr.off hG (tGr.off hG t0 (k := 0) rfl) (k := 1) rfl) (show tWG K B 0 0 S (uI I 7 5 0) J 23 [some (vR 0), some (vI (I 7 5))] [vI (I 7 5)] from ?_))))))))))))
  exact gIret hO hQ (by decide +kernel) ⟨rfl, h⟩)
set_option maxRecDepth 20000 in
theorem hc11_drawn : tCV yX11_drawn cX11_drawn 2 (some .int) 1 := ⟨⟨(List.mem_of_getElem? (i := 1425) rfl), (List.mem_of_getElem? (i := 2) (by decide +kernel)), by decide +kernel⟩, (List.mem_of_getElem? (i := 1423) (by decide +kernel)), (List.mem_of_getElem? (i := 1424) (by decide +kernel))⟩
set_option maxRecDepth 100000 in
theorem M11_drawn {l : Launch} {B : tB} {S : tSH} {I : tHI} {J : tHJ} {v1 : Int32} {n : Nat} {k : Int32 → tHI → tHJ → Prop} (t0 : ty S 0 11) (h : F11_drawn n S I J v1 k) : Met l yX11_drawn (tWs yX11_drawn cX11_drawn 2 (some .int)) (tRm 2 0 0) (tPc B [vR 0, vI v1] S I J) (tQi B (tPi S k)) 0 0 (tA B) :=
  tEntry (by decide +kernel) [some (vR 0), some (vI v1)] rfl rfl (Nat.le_of_ble_eq_true rfl) (fun K hl hR hO hQ hG => by
  subst hl
  refine gBk (pe := 4) hO [o0 (.aload_n 0), oF (.getfield 86) 11 13 50 0] (by decide +kernel) (And.intro t0 (show tWG K B 0 0 S I J 4 [some (vR 0), some (vI v1)] [vI (I 0 13)] from ?_))
  refine gIfNe hO (off := 5) (tgt := 9) (by decide +kernel) (by decide) (fun c1 => ?_) (fun c1 => ?_)
  · have h := h.1 c1
    refine gBk (pe := 10) hO [o0 (.iload_n 1)] (by decide +kernel) (show tWG K B 0 0 S I J 10 [some (vR 0), some (vI v1)] [vI v1] from ?_)
    by_cases c2 : v1 = 0
    · have h := h.1 c2
      refine gSwIn hO (dflt := 62) (lo := 0) (hi := 3) (offs := #[30, 38, 46, 54]) (len := 30) (off := 30) (tgt := 40) 0 c2 (by decide +kernel) (by decide +kernel) ?_
      refine gBk (pe := 47) hO [o0 (.aload_n 0), oF (.getfield 82) 11 12 49 60, oF (.getfield 172) 10 2 426 0] (by decide +kernel) (And.intro t0 (And.intro rfl (And.intro (tGr.off hG t0 (k := 12) rfl) (show tWG K B 0 0 S I J 47 [some (vR 0), some (vI v1)] [vI (I 60 2)] from ?_))))
      exact gIret hO hQ (by decide +kernel) ⟨rfl, h⟩
    have h := h.2
    by_cases c3 : v1 = 1
    · have h := h.1 c3
      refine gSwIn hO (dflt := 62) (lo := 0) (hi := 3) (offs := #[30, 38, 46, 54]) (len := 30) (off := 38) (tgt := 48) 1 c3 (by decide +kernel) (by decide +kernel) ?_
      refine gBk (pe := 55) hO [o0 (.aload_n 0), oF (.getfield 82) 11 12 49 60, oF (.getfield 270) 10 3 933 0] (by decide +kernel) (And.intro t0 (And.intro rfl (And.intro (tGr.off hG t0 (k := 12) rfl) (show tWG K B 0 0 S I J 55 [some (vR 0), some (vI v1)] [vI (I 60 3)] from ?_))))
      exact gIret hO hQ (by decide +kernel) ⟨rfl, h⟩
    have h := h.2
    by_cases c4 : v1 = 2
    · have h := h.1 c4
      refine gSwIn hO (dflt := 62) (lo := 0) (hi := 3) (offs := #[30, 38, 46, 54]) (len := 30) (off := 46) (tgt := 56) 2 c4 (by decide +kernel) (by decide +kernel) ?_
      refine gBk (pe := 63) hO [o0 (.aload_n 0), oF (.getfield 82) 11 12 49 60, oF (.getfield 276) 10 4 935 0] (by decide +kernel) (And.intro t0 (And.intro rfl (And.intro (tGr.off hG t0 (k := 12) rfl) (show tWG K B 0 0 S I J 63 [some (vR 0), some (vI v1)] [vI (I 60 4)] from ?_))))
      exact gIret hO hQ (by decide +kernel) ⟨rfl, h⟩
    have h := h.2
    by_cases c5 : v1 = 3
    · have h := h.1 c5
      refine gSwIn hO (dflt := 62) (lo := 0) (hi := 3) (offs := #[30, 38, 46, 54]) (len := 30) (off := 54) (tgt := 64) 3 c5 (by decide +kernel) (by decide +kernel) ?_
      refine gBk (pe := 71) hO [o0 (.aload_n 0), oF (.getfield 82) 11 12 49 60, oF (.getfield 361) 10 5 1426 0] (by decide +kernel) (And.intro t0 (And.intro rfl (And.intro (tGr.off hG t0 (k := 12) rfl) (show tWG K B 0 0 S I J 71 [some (vR 0), some (vI v1)] [vI (I 60 5)] from ?_))))
      exact gIret hO hQ (by decide +kernel) ⟨rfl, h⟩
    have h := h.2
    have hsw : swN 0 v1 4 := ⟨⟨⟨⟨True.intro, c2⟩, c3⟩, c4⟩, c5⟩
    have h := h hsw
    refine gSwOut hO (dflt := 62) (lo := 0) (hi := 3) (offs := #[30, 38, 46, 54]) (len := 30) (tgt := 72) (by decide +kernel) (sw_out (by decide) (by decide) hsw) (by decide) ?_
    refine gBk (pe := 73) hO [oI (.iconst (-1)) (-1)] (by decide +kernel) (show tWG K B 0 0 S I J 73 [some (vR 0), some (vI v1)] [vI (-1)] from ?_)
    exact gIret hO hQ (by decide +kernel) ⟨rfl, h⟩
  · have h := h.2 c1
    refine gBk (pe := 8) hO [oI (.iconst (-1)) (-1)] (by decide +kernel) (show tWG K B 0 0 S I J 8 [some (vR 0), some (vI v1)] [vI (-1)] from ?_)
    exact gIret hO hQ (by decide +kernel) ⟨rfl, h⟩)
set_option maxRecDepth 20000 in
theorem hc11_status : tCV yX11_status cX11_status 1 (some .int) 0 := ⟨⟨(List.mem_of_getElem? (i := 1461) rfl), (List.mem_of_getElem? (i := 2) (by decide +kernel)), by decide +kernel⟩, (List.mem_of_getElem? (i := 1459) (by decide +kernel)), (List.mem_of_getElem? (i := 1460) (by decide +kernel))⟩
set_option maxRecDepth 100000 in
theorem M11_status {l : Launch} {B : tB} {S : tSH} {I : tHI} {J : tHJ} (t0 : ty S 0 11) : Met l yX11_status (tWs yX11_status cX11_status 1 (some .int)) (tRm 2 0 0) (tPc B [vR 0] S I J) (tQi B (tPp S I J (V11_status S I J))) 0 0 (tA B) :=
  tEntry (by decide +kernel) [some (vR 0)] rfl rfl (Nat.le_of_ble_eq_true rfl) (fun K hl hR hO hQ hG => by
  subst hl
  refine gBk (pe := 4) hO [o0 (.aload_n 0), oF (.getfield 103) 11 18 55 0] (by decide +kernel) (And.intro t0 (show tWG K B 0 0 S I J 4 [some (vR 0)] [vI (I 0 18)] from ?_))
  exact gIret hO hQ (by decide +kernel) ⟨rfl, rfl⟩)
set_option maxRecDepth 20000 in
theorem hc11_within : tCm yX11_within cX11_within 3 (some .boolean) 3 ∧ Cond.static yX11_within ∈ wsL_law := ⟨⟨(List.mem_of_getElem? (i := 247) rfl), (List.mem_of_getElem? (i := 2) (by decide +kernel)), by decide +kernel⟩, (List.mem_of_getElem? (i := 246) (by decide +kernel))⟩
set_option maxRecDepth 100000 in
theorem M11_within {l : Launch} {B : tB} {S : tSH} {I : tHI} {J : tHJ} {v0 : Int32} {v1 : Int32} {v2 : Int32} : Met l yX11_within (tWs yX11_within cX11_within 3 (some .boolean)) (tRm 2 0 0) (tPc B [vI v0, vI v1, vI v2] S I J) (tQi B (tPz S I J (V11_within v0 v1 v2))) 0 0 (tA B) :=
  tEntry (by decide +kernel) [some (vI v0), some (vI v1), some (vI v2)] rfl rfl (Nat.le_of_ble_eq_true rfl) (fun K hl hR hO hQ hG => by
  subst hl
  refine gBk (pe := 2) hO [o0 (.iload_n 0), o0 (.iload_n 1)] (by decide +kernel) (show tWG K B 0 0 S I J 2 [some (vI v0), some (vI v1), some (vI v2)] [vI v1, vI v0] from ?_)
  refine gIcLt hO (off := 12) (tgt := 14) (by decide +kernel) (by decide) (fun c1 => ?_) (fun c1 => ?_)
  · refine gBk (pe := 15) hO [oI (.iconst 0) 0] (by decide +kernel) (show tWG K B 0 0 S I J 15 [some (vI v0), some (vI v1), some (vI v2)] [vI 0] from ?_)
    exact gZret hO hQ (by decide +kernel) (Or.inl rfl) ⟨(Eq.symm (if_pos c1)), (Or.inl rfl), rfl⟩
  · refine gBk (pe := 7) hO [o0 (.iload_n 0), o0 (.iload_n 2)] (by decide +kernel) (show tWG K B 0 0 S I J 7 [some (vI v0), some (vI v1), some (vI v2)] [vI v2, vI v0] from ?_)
    refine gIcGt hO (off := 7) (tgt := 14) (by decide +kernel) (by decide) (fun c2 => ?_) (fun c2 => ?_)
    · refine gBk (pe := 15) hO [oI (.iconst 0) 0] (by decide +kernel) (show tWG K B 0 0 S I J 15 [some (vI v0), some (vI v1), some (vI v2)] [vI 0] from ?_)
      exact gZret hO hQ (by decide +kernel) (Or.inl rfl) ⟨(Eq.symm ((if_neg c1).trans (if_pos c2))), (Or.inl rfl), rfl⟩
    · refine gBk (pe := 15) hO [oI (.iconst 1) 1, o0 (.goto 4)] (by decide +kernel) (show tWG K B 0 0 S I J 15 [some (vI v0), some (vI v1), some (vI v2)] [vI 1] from ?_)
      exact gZret hO hQ (by decide +kernel) (Or.inr rfl) ⟨(Eq.symm ((if_neg c1).trans (if_neg c2))), (Or.inr rfl), rfl⟩)
set_option maxRecDepth 20000 in
theorem hc12_in : tCm yX12_in cX12_in 6 (some .boolean) 3 ∧ Cond.static yX12_in ∈ wsL_law := ⟨⟨(List.mem_of_getElem? (i := 321) rfl), (List.mem_of_getElem? (i := 5) (by decide +kernel)), by decide +kernel⟩, (List.mem_of_getElem? (i := 320) (by decide +kernel))⟩
set_option maxRecDepth 100000 in
theorem M12_in {l : Launch} {B : tB} {S : tSH} {I : tHI} {J : tHJ} {w0 : Int64} {w2 : Int64} {w4 : Int64} : Met l yX12_in (tWs yX12_in cX12_in 6 (some .boolean)) (tRm 2 0 0) (tPc B [vL w0, vL w2, vL w4] S I J) (tQi B (tPz S I J (V12_in w0 w2 w4))) 0 0 (tA B) :=
  tEntry (by decide +kernel) [some (vL w0), none, some (vL w2), none, some (vL w4), none] rfl rfl (Nat.le_of_ble_eq_true rfl) (fun K hl hR hO hQ hG => by
  subst hl
  refine gBk (pe := 3) hO [o0 (.lload_n 0), o0 (.lload_n 2), o0 .lcmp] (by decide +kernel) (show tWG K B 0 0 S I J 3 [some (vL w0), none, some (vL w2), none, some (vL w4), none] [vI (lg_cmp w0 w2)] from ?_)
  refine gIfLt hO (off := 14) (tgt := 17) (by decide +kernel) (by decide) (fun c1 => ?_) (fun c1 => ?_)
  · refine gBk (pe := 18) hO [oI (.iconst 0) 0] (by decide +kernel) (show tWG K B 0 0 S I J 18 [some (vL w0), none, some (vL w2), none, some (vL w4), none] [vI 0] from ?_)
    exact gZret hO hQ (by decide +kernel) (Or.inl rfl) ⟨(Eq.symm (if_pos c1)), (Or.inl rfl), rfl⟩
  · refine gBk (pe := 10) hO [o0 (.lload_n 0), o0 (.lload 4), o0 .lcmp] (by decide +kernel) (show tWG K B 0 0 S I J 10 [some (vL w0), none, some (vL w2), none, some (vL w4), none] [vI (lg_cmp w0 w4)] from ?_)
    refine gIfGt hO (off := 7) (tgt := 17) (by decide +kernel) (by decide) (fun c2 => ?_) (fun c2 => ?_)
    · refine gBk (pe := 18) hO [oI (.iconst 0) 0] (by decide +kernel) (show tWG K B 0 0 S I J 18 [some (vL w0), none, some (vL w2), none, some (vL w4), none] [vI 0] from ?_)
      exact gZret hO hQ (by decide +kernel) (Or.inl rfl) ⟨(Eq.symm ((if_neg c1).trans (if_pos c2))), (Or.inl rfl), rfl⟩
    · refine gBk (pe := 18) hO [oI (.iconst 1) 1, o0 (.goto 4)] (by decide +kernel) (show tWG K B 0 0 S I J 18 [some (vL w0), none, some (vL w2), none, some (vL w4), none] [vI 1] from ?_)
      exact gZret hO hQ (by decide +kernel) (Or.inr rfl) ⟨(Eq.symm ((if_neg c1).trans (if_neg c2))), (Or.inr rfl), rfl⟩)
set_option maxRecDepth 20000 in
theorem hc12_is : tCm yX12_is cX12_is 2 (some .boolean) 2 ∧ Cond.static yX12_is ∈ wsL_law := ⟨⟨(List.mem_of_getElem? (i := 503) rfl), (List.mem_of_getElem? (i := 5) (by decide +kernel)), by decide +kernel⟩, (List.mem_of_getElem? (i := 502) (by decide +kernel))⟩
set_option maxRecDepth 100000 in
theorem M12_is {l : Launch} {B : tB} {S : tSH} {I : tHI} {J : tHJ} {v0 : Int32} {v1 : Int32} : Met l yX12_is (tWs yX12_is cX12_is 2 (some .boolean)) (tRm 2 0 0) (tPc B [vI v0, vI v1] S I J) (tQi B (tPz S I J (V12_is v0 v1))) 0 0 (tA B) :=
  tEntry (by decide +kernel) [some (vI v0), some (vI v1)] rfl rfl (Nat.le_of_ble_eq_true rfl) (fun K hl hR hO hQ hG => by
  subst hl
  refine gBk (pe := 6) hO [o0 (.iload_n 0), o0 (.iload_n 1), o0 .ishr, oI (.iconst 1) 1, o0 .iand, oI (.iconst 1) 1] (by decide +kernel) (show tWG K B 0 0 S I J 6 [some (vI v0), some (vI v1)] [vI 1, vI ((v0 >>> (v1 &&& 31)) &&& 1)] from ?_)
  refine gIcNe hO (off := 7) (tgt := 13) (by decide +kernel) (by decide) (fun c1 => ?_) (fun c1 => ?_)
  · refine gBk (pe := 14) hO [oI (.iconst 0) 0] (by decide +kernel) (show tWG K B 0 0 S I J 14 [some (vI v0), some (vI v1)] [vI 0] from ?_)
    exact gZret hO hQ (by decide +kernel) (Or.inl rfl) ⟨(Eq.symm (if_neg c1)), (Or.inl rfl), rfl⟩
  · refine gBk (pe := 14) hO [oI (.iconst 1) 1, o0 (.goto 4)] (by decide +kernel) (show tWG K B 0 0 S I J 14 [some (vI v0), some (vI v1)] [vI 1] from ?_)
    exact gZret hO hQ (by decide +kernel) (Or.inr rfl) ⟨(Eq.symm (if_pos c1)), (Or.inr rfl), rfl⟩)
set_option maxRecDepth 20000 in
theorem hc12_within : tCm yX12_within cX12_within 4 (some .int) 3 ∧ Cond.static yX12_within ∈ wsL_law := ⟨⟨(List.mem_of_getElem? (i := 506) rfl), (List.mem_of_getElem? (i := 5) (by decide +kernel)), by decide +kernel⟩, (List.mem_of_getElem? (i := 505) (by decide +kernel))⟩
set_option maxRecDepth 100000 in
theorem M12_within {l : Launch} {B : tB} {S : tSH} {I : tHI} {J : tHJ} {w0 : Int64} {v2 : Int32} {v3 : Int32} : Met l yX12_within (tWs yX12_within cX12_within 4 (some .int)) (tRm 2 0 0) (tPc B [vL w0, vI v2, vI v3] S I J) (tQi B (tPp S I J (V12_within w0 v2 v3))) 0 0 (tA B) :=
  tEntry (by decide +kernel) [some (vL w0), none, some (vI v2), some (vI v3)] rfl rfl (Nat.le_of_ble_eq_true rfl) (fun K hl hR hO hQ hG => by
  subst hl
  refine gBk (pe := 4) hO [o0 (.lload_n 0), o0 (.iload_n 2), o0 .i2l, o0 .lcmp] (by decide +kernel) (show tWG K B 0 0 S I J 4 [some (vL w0), none, some (vI v2), some (vI v3)] [vI (lg_cmp w0 v2.toInt64)] from ?_)
  refine gIfGe hO (off := 7) (tgt := 11) (by decide +kernel) (by decide) (fun c1 => ?_) (fun c1 => ?_)
  · refine gBk (pe := 15) hO [o0 (.lload_n 0), o0 (.iload_n 3), o0 .i2l, o0 .lcmp] (by decide +kernel) (show tWG K B 0 0 S I J 15 [some (vL w0), none, some (vI v2), some (vI v3)] [vI (lg_cmp w0 v3.toInt64)] from ?_)
    refine gIfLe hO (off := 7) (tgt := 22) (by decide +kernel) (by decide) (fun c2 => ?_) (fun c2 => ?_)
    · refine gBk (pe := 24) hO [o0 (.lload_n 0), o0 .l2i] (by decide +kernel) (show tWG K B 0 0 S I J 24 [some (vL w0), none, some (vI v2), some (vI v3)] [vI w0.toInt32] from ?_)
      exact gIret hO hQ (by decide +kernel) ⟨(Eq.symm ((if_pos c1).trans (if_pos c2))), rfl⟩
    · refine gBk (pe := 24) hO [o0 (.iload_n 3), o0 (.goto 5)] (by decide +kernel) (show tWG K B 0 0 S I J 24 [some (vL w0), none, some (vI v2), some (vI v3)] [vI v3] from ?_)
      exact gIret hO hQ (by decide +kernel) ⟨(Eq.symm ((if_pos c1).trans (if_neg c2))), rfl⟩
  · refine gBk (pe := 24) hO [o0 (.iload_n 2), o0 (.goto 16)] (by decide +kernel) (show tWG K B 0 0 S I J 24 [some (vL w0), none, some (vI v2), some (vI v3)] [vI v2] from ?_)
    exact gIret hO hQ (by decide +kernel) ⟨(Eq.symm (if_neg c1)), rfl⟩)
set_option maxRecDepth 100000 in
theorem W12_tell_28 {K : tK} {B : tB} {S : tSH} {MC MS : Nat} (hO : tKO K B RX12 cX12_tell 2) (hR : kR K = tRm 2 MC MS) (hG : tGr S) {n : Nat} (t0 : ty S 61 12) {k : Int32 → tHI → tHJ → Prop} (hQ : tRet K B (tQi B (tPi S k)) 0 0 (some .int)) {I : tHI} {J : tHJ} {v1 : Int32} (h : F12_tell_28 n S k I J v1) : tWG K B 0 0 S I J 28 [none, some (vI v1)] [] := by
  refine gBk (pe := 29) hO [o0 (.iload_n 1)] (by decide +kernel) (show tWG K B 0 0 S I J 29 [none, some (vI v1)] [vI v1] from ?_)
  exact gIret hO hQ (by decide +kernel) ⟨rfl, h⟩
set_option maxRecDepth 20000 in
theorem hc12_tell : tCV yX12_tell cX12_tell 2 (some .int) 1 := ⟨⟨(List.mem_of_getElem? (i := 325) rfl), (List.mem_of_getElem? (i := 5) (by decide +kernel)), by decide +kernel⟩, (List.mem_of_getElem? (i := 323) (by decide +kernel)), (List.mem_of_getElem? (i := 324) (by decide +kernel))⟩
set_option maxRecDepth 100000 in
theorem M12_tell {l : Launch} {B : tB} {S : tSH} {I : tHI} {J : tHJ} {v1 : Int32} {n : Nat} {k : Int32 → tHI → tHJ → Prop} (t0 : ty S 61 12) (h : F12_tell n S I J v1 k) : Met l yX12_tell (tWs yX12_tell cX12_tell 2 (some .int)) (tRm 2 0 0) (tPc B [vR 61, vI v1] S I J) (tQi B (tPi S k)) 0 0 (tA B) :=
  tEntry (by decide +kernel) [some (vR 61), some (vI v1)] rfl rfl (Nat.le_of_ble_eq_true rfl) (fun K hl hR hO hQ hG => by
  subst hl
  refine gBk (pe := 2) hO [o0 (.aload_n 0), o0 (.iload_n 1)] (by decide +kernel) (show tWG K B 0 0 S I J 2 [some (vR 61), some (vI v1)] [vI v1, vR 61] from ?_)
  have hj1 : ∀ (m2 : Int32), m2 = (if 0 ≤ v1 then 0 else v1) → tWG K B 0 0 S I J 10 [some (vR 61), some (vI v1)] [vI m2, vR 61] := by
    intro m2 em2
    subst em2
    refine gBk (pe := 14) hO [oF (.putfield 164) 12 1 326 0, o0 (.iload_n 1)] (by decide +kernel) (And.intro t0 (show tWG K B 0 0 S (uI I 61 1 (if 0 ≤ v1 then 0 else v1)) J 14 [some (vR 61), some (vI v1)] [vI v1] from ?_))
    refine gIfGe hO (off := 14) (tgt := 28) (by decide +kernel) (by decide) (fun c4 => ?_) (fun c4 => ?_)
    · have h := h.1 c4
      exact gWeak (L' := [none, some (vI v1)]) ⟨rfl, trivial⟩ (W12_tell_28 hO hR hG t0 hQ h)
    · have h := h.2 c4
      refine gBk (pe := 28) hO [o0 (.aload_n 0), oF (.getfield 7) 12 2 178 62, o0 (.iload_n 1), o0 .ineg, o0 .dup2, o0 .iaload, oI (.iconst 1) 1, o0 .iadd, o0 .iastore] (by decide +kernel) (And.intro t0 (And.intro rfl (And.intro (tGr.off hG t0 (k := 2) rfl) (And.intro (tin (tGr.len hG t0 (k := 2) rfl (by decide)) h.1) (And.intro (tGr.off hG t0 (k := 2) rfl) (And.intro (tin (tGr.len hG t0 (k := 2) rfl (by decide)) h.2.1) (show tWG K B 0 0 S (uI (uI I 61 1 (if 0 ≤ v1 then 0 else v1)) 62 (-v1).toNatClampNeg (((uI I 61 1 (if 0 ≤ v1 then 0 else v1)) 62 (-v1).toNatClampNeg) + 1)) J 28 [some (vR 61), some (vI v1)] [] from ?_)))))))
      have h := h.2.2
      exact gWeak (L' := [none, some (vI v1)]) ⟨rfl, trivial⟩ (W12_tell_28 hO hR hG t0 hQ h)
  refine gIfGe hO (off := 7) (tgt := 9) (by decide +kernel) (by decide) (fun c3 => ?_) (fun c3 => ?_)
  · refine gBk (pe := 10) hO [oI (.iconst 0) 0] (by decide +kernel) (show tWG K B 0 0 S I J 10 [some (vR 61), some (vI v1)] [vI 0, vR 61] from ?_)
    exact (hj1 _ (Eq.symm (if_pos c3)))
  · refine gBk (pe := 10) hO [o0 (.iload_n 1), o0 (.goto 4)] (by decide +kernel) (show tWG K B 0 0 S I J 10 [some (vR 61), some (vI v1)] [vI v1, vR 61] from ?_)
    exact (hj1 _ (Eq.symm (if_neg c3))))
set_option maxRecDepth 20000 in
theorem hc12_change : tCV yX12_change cX12_change 4 (some .int) 2 := ⟨⟨(List.mem_of_getElem? (i := 538) rfl), (List.mem_of_getElem? (i := 5) (by decide +kernel)), by decide +kernel⟩, (List.mem_of_getElem? (i := 536) (by decide +kernel)), (List.mem_of_getElem? (i := 537) (by decide +kernel))⟩
set_option maxRecDepth 100000 in
theorem M12_change {l : Launch} {B : tB} {S : tSH} {I : tHI} {J : tHJ} {v1 : Int32} {v2 : Int32} {n : Nat} {k : Int32 → tHI → tHJ → Prop} (t0 : ty S 61 12) (h : F12_change n S I J v1 v2 k) : Met l yX12_change (tWs yX12_change cX12_change 4 (some .int)) (tRm 2 0 0) (tPc B [vR 61, vI v1, vI v2] S I J) (tQi B (tPi S k)) 0 0 (tA B) :=
  tEntry (by decide +kernel) [some (vR 61), some (vI v1), some (vI v2), none] rfl rfl (Nat.le_of_ble_eq_true rfl) (fun K hl hR hO hQ hG => by
  subst hl
  refine gBk (pe := 20) hO [o0 (.aload_n 0), oF (.getfield 13) 12 3 179 63, o0 (.iload_n 1), o0 .iaload, o0 (.istore_n 3), o0 (.aload_n 0), oF (.getfield 13) 12 3 179 63, o0 (.iload_n 1), o0 (.iload_n 2), o0 .iastore, o0 (.aload_n 0), oI (.iconst 0) 0, oF (.putfield 164) 12 1 326 0, o0 (.iload_n 3)] (by decide +kernel) (And.intro t0 (And.intro rfl (And.intro (tGr.off hG t0 (k := 3) rfl) (And.intro (tin (tGr.len hG t0 (k := 3) rfl (by decide)) h.1) (And.intro (Nat.le_of_ble_eq_true rfl) (And.intro t0 (And.intro rfl (And.intro (tGr.off hG t0 (k := 3) rfl) (And.intro (tin (tGr.len hG t0 (k := 3) rfl (by decide)) h.2.1) (And.intro t0 (show tWG K B 0 0 S (uI (uI I 63 v1.toNatClampNeg v2) 61 1 0) J 20 [some (vR 61), some (vI v1), some (vI v2), some (vI (I 63 v1.toNatClampNeg))] [vI (I 63 v1.toNatClampNeg)] from ?_)))))))))))
  have h := h.2.2
  exact gIret hO hQ (by decide +kernel) ⟨rfl, h⟩)
set_option maxRecDepth 20000 in
theorem hc12_settled : tCV yX12_settled cX12_settled 2 (some .int) 1 := ⟨⟨(List.mem_of_getElem? (i := 371) rfl), (List.mem_of_getElem? (i := 5) (by decide +kernel)), by decide +kernel⟩, (List.mem_of_getElem? (i := 369) (by decide +kernel)), (List.mem_of_getElem? (i := 370) (by decide +kernel))⟩
set_option maxRecDepth 100000 in
theorem M12_settled {l : Launch} {B : tB} {S : tSH} {I : tHI} {J : tHJ} {v1 : Int32} {n : Nat} {k : Int32 → tHI → tHJ → Prop} (t0 : ty S 61 12) (h : F12_settled n S I J v1 k) : Met l yX12_settled (tWs yX12_settled cX12_settled 2 (some .int)) (tRm 3 0 0) (tPc B [vR 61, vI v1] S I J) (tQi B (tPi S k)) 0 0 (tA B) :=
  tEntry (by decide +kernel) [some (vR 61), some (vI v1)] rfl rfl (Nat.le_of_ble_eq_true rfl) (fun K hl hR hO hQ hG => by
  subst hl
  refine gBk (pe := 2) hO [o0 (.aload_n 0), o0 (.iload_n 1)] (by decide +kernel) (show tWG K B 0 0 S I J 2 [some (vR 61), some (vI v1)] [vI v1, vR 61] from ?_)
  have hj1 : ∀ (m2 : Int32), m2 = (if 0 ≤ v1 then 0 else (I 61 8)) → tWG K B 0 0 S I J 13 [some (vR 61), some (vI v1)] [vI m2, vR 61] := by
    intro m2 em2
    subst em2
    refine gBk (pe := 18) hO [oF (.putfield 167) 12 8 372 0, o0 (.aload_n 0), o0 (.iload_n 1)] (by decide +kernel) (And.intro t0 (show tWG K B 0 0 S (uI I 61 8 (if 0 ≤ v1 then 0 else (I 61 8))) J 18 [some (vR 61), some (vI v1)] [vI v1, vR 61] from ?_))
    refine gCVi_c hO (M12_tell t0 h) hc12_tell (idx := 170) (w := 322) (by decide +kernel) hR (by omega) t0 ⟨by decide, rfl⟩ (vs := [vI v1]) (st := []) ⟨rfl, Nat.le_of_ble_eq_true rfl, rfl⟩ (by decide +kernel) (fun x6 I4 J5 h => ?_)
    exact gIret hO hQ (by decide +kernel) ⟨rfl, h⟩
  refine gIfGe hO (off := 10) (tgt := 12) (by decide +kernel) (by decide) (fun c3 => ?_) (fun c3 => ?_)
  · refine gBk (pe := 13) hO [oI (.iconst 0) 0] (by decide +kernel) (show tWG K B 0 0 S I J 13 [some (vR 61), some (vI v1)] [vI 0, vR 61] from ?_)
    exact (hj1 _ (Eq.symm (if_pos c3)))
  · refine gBk (pe := 13) hO [o0 (.aload_n 0), oF (.getfield 167) 12 8 372 0, o0 (.goto 4)] (by decide +kernel) (And.intro t0 (show tWG K B 0 0 S I J 13 [some (vR 61), some (vI v1)] [vI (I 61 8), vR 61] from ?_))
    exact (hj1 _ (Eq.symm (if_neg c3))))
set_option maxRecDepth 100000 in
theorem W12_keepAll_2 {K : tK} {B : tB} {S : tSH} {MC MS : Nat} (hO : tKO K B RX12 cX12_keepAll 3) (hR : kR K = tRm 2 MC MS) (hG : tGr S) {n : Nat} (t0 : ty S 61 12) {k : tHI → tHJ → Prop} (hQ : tRet K B (tQv B (tPv S k)) 0 0 none) {kb2 : tHI → tHJ → Int32 → Int32 → Prop} (hkb2 : ∀ (I : tHI) (J : tHJ) (v1 : Int32) (v2 : Int32), kb2 I J v1 v2 → tWG K B 0 0 S I J 2 [some (vR 61), some (vI v1), some (vI v2)] []) {I : tHI} {J : tHJ} {v1 : Int32} {v2 : Int32} (h : F12_keepAll_2 n S k kb2 I J v1 v2) : tWG K B 0 0 S I J 2 [some (vR 61), some (vI v1), some (vI v2)] [] := by
  refine gBk (pe := 5) hO [o0 (.iload_n 2), oI (.bipush 17) 17] (by decide +kernel) (show tWG K B 0 0 S I J 5 [some (vR 61), some (vI v1), some (vI v2)] [vI 17, vI v2] from ?_)
  refine gIcGe hO (off := 29) (tgt := 34) (by decide +kernel) (by decide) (fun c1 => ?_) (fun c1 => ?_)
  · have h := h.1 c1
    exact gVret hO hQ (by decide +kernel) ⟨rfl, h⟩
  · have h := h.2 c1
    refine gBk (pe := 2) hO [o0 (.aload_n 0), oF (.getfield 23) 12 6 183 66, oI (.bipush 17) 17, o0 (.iload_n 1), o0 .imul, o0 (.iload_n 2), o0 .iadd, o0 (.aload_n 0), oF (.getfield 13) 12 3 179 63, oI (.bipush 9) 9, o0 (.iload_n 2), o0 .iadd, o0 .iaload, o0 .iastore, oI (.iinc 2 1) 1, o0 (.goto (-29))] (by decide +kernel) (And.intro t0 (And.intro rfl (And.intro t0 (And.intro rfl (And.intro (tGr.off hG t0 (k := 3) rfl) (And.intro (tin (tGr.len hG t0 (k := 3) rfl (by decide)) h.1) (And.intro (tGr.off hG t0 (k := 6) rfl) (And.intro (tin (tGr.len hG t0 (k := 6) rfl (by decide)) h.2.1) (show tWG K B 0 0 S (uI I 66 ((17 * v1) + v2).toNatClampNeg (I 63 (9 + v2).toNatClampNeg)) J 2 [some (vR 61), some (vI v1), some (vI (v2 + 1))] [] from ?_)))))))))
    have h := h.2.2
    exact hkb2 _ _ _ _ h
theorem W12_keepAll_L2 {K : tK} {B : tB} {S : tSH} {MC MS : Nat} (hO : tKO K B RX12 cX12_keepAll 3) (hR : kR K = tRm 2 MC MS) (hG : tGr S) {n : Nat} (t0 : ty S 61 12) {k : tHI → tHJ → Prop} (hQ : tRet K B (tQv B (tPv S k)) 0 0 none) : ∀ (f : Nat) (I : tHI) (J : tHJ) (v1 : Int32) (v2 : Int32), F12_keepAll_L2 n S k f I J v1 v2 → tWG K B 0 0 S I J 2 [some (vR 61), some (vI v1), some (vI v2)] [] := by
  intro f
  induction f with
  | zero => intro I J v1 v2 h; exact h.elim
  | succ f ih => intro I J v1 v2 h; exact W12_keepAll_2 hO hR hG t0 hQ ih h
set_option maxRecDepth 20000 in
theorem hc12_keepAll : tCV yX12_keepAll cX12_keepAll 3 none 1 := ⟨⟨(List.mem_of_getElem? (i := 1000) rfl), (List.mem_of_getElem? (i := 5) (by decide +kernel)), by decide +kernel⟩, (List.mem_of_getElem? (i := 998) (by decide +kernel)), (List.mem_of_getElem? (i := 999) (by decide +kernel))⟩
set_option maxRecDepth 100000 in
theorem M12_keepAll {l : Launch} {B : tB} {S : tSH} {I : tHI} {J : tHJ} {v1 : Int32} {n : Nat} {k : tHI → tHJ → Prop} (t0 : ty S 61 12) (h : F12_keepAll n S I J v1 k) : Met l yX12_keepAll (tWs yX12_keepAll cX12_keepAll 3 none) (tRm 2 0 0) (tPc B [vR 61, vI v1] S I J) (tQv B (tPv S k)) 0 0 (tA B) :=
  tEntry (by decide +kernel) [some (vR 61), some (vI v1), none] rfl rfl (Nat.le_of_ble_eq_true rfl) (fun K hl hR hO hQ hG => by
  subst hl
  refine gBk (pe := 2) hO [oI (.iconst 0) 0, o0 (.istore_n 2)] (by decide +kernel) (And.intro (Nat.le_of_ble_eq_true rfl) (show tWG K B 0 0 S I J 2 [some (vR 61), some (vI v1), some (vI 0)] [] from ?_))
  exact W12_keepAll_L2 hO hR hG t0 hQ n _ _ _ _ h)
set_option maxRecDepth 100000 in
theorem W12_putBack_2 {K : tK} {B : tB} {S : tSH} {MC MS : Nat} (hO : tKO K B RX12 cX12_putBack 3) (hR : kR K = tRm 2 MC MS) (hG : tGr S) {n : Nat} (t0 : ty S 61 12) {k : tHI → tHJ → Prop} (hQ : tRet K B (tQv B (tPv S k)) 0 0 none) {kb2 : tHI → tHJ → Int32 → Int32 → Prop} (hkb2 : ∀ (I : tHI) (J : tHJ) (v1 : Int32) (v2 : Int32), kb2 I J v1 v2 → tWG K B 0 0 S I J 2 [some (vR 61), some (vI v1), some (vI v2)] []) {I : tHI} {J : tHJ} {v1 : Int32} {v2 : Int32} (h : F12_putBack_2 n S k kb2 I J v1 v2) : tWG K B 0 0 S I J 2 [some (vR 61), some (vI v1), some (vI v2)] [] := by
  refine gBk (pe := 5) hO [o0 (.iload_n 2), oI (.bipush 17) 17] (by decide +kernel) (show tWG K B 0 0 S I J 5 [some (vR 61), some (vI v1), some (vI v2)] [vI 17, vI v2] from ?_)
  refine gIcGe hO (off := 29) (tgt := 34) (by decide +kernel) (by decide) (fun c1 => ?_) (fun c1 => ?_)
  · have h := h.1 c1
    exact gVret hO hQ (by decide +kernel) ⟨rfl, h⟩
  · have h := h.2 c1
    refine gBk (pe := 2) hO [o0 (.aload_n 0), oF (.getfield 13) 12 3 179 63, oI (.bipush 9) 9, o0 (.iload_n 2), o0 .iadd, o0 (.aload_n 0), oF (.getfield 23) 12 6 183 66, oI (.bipush 17) 17, o0 (.iload_n 1), o0 .imul, o0 (.iload_n 2), o0 .iadd, o0 .iaload, o0 .iastore, oI (.iinc 2 1) 1, o0 (.goto (-29))] (by decide +kernel) (And.intro t0 (And.intro rfl (And.intro t0 (And.intro rfl (And.intro (tGr.off hG t0 (k := 6) rfl) (And.intro (tin (tGr.len hG t0 (k := 6) rfl (by decide)) h.1) (And.intro (tGr.off hG t0 (k := 3) rfl) (And.intro (tin (tGr.len hG t0 (k := 3) rfl (by decide)) h.2.1) (show tWG K B 0 0 S (uI I 63 (9 + v2).toNatClampNeg (I 66 ((17 * v1) + v2).toNatClampNeg)) J 2 [some (vR 61), some (vI v1), some (vI (v2 + 1))] [] from ?_)))))))))
    have h := h.2.2
    exact hkb2 _ _ _ _ h
theorem W12_putBack_L2 {K : tK} {B : tB} {S : tSH} {MC MS : Nat} (hO : tKO K B RX12 cX12_putBack 3) (hR : kR K = tRm 2 MC MS) (hG : tGr S) {n : Nat} (t0 : ty S 61 12) {k : tHI → tHJ → Prop} (hQ : tRet K B (tQv B (tPv S k)) 0 0 none) : ∀ (f : Nat) (I : tHI) (J : tHJ) (v1 : Int32) (v2 : Int32), F12_putBack_L2 n S k f I J v1 v2 → tWG K B 0 0 S I J 2 [some (vR 61), some (vI v1), some (vI v2)] [] := by
  intro f
  induction f with
  | zero => intro I J v1 v2 h; exact h.elim
  | succ f ih => intro I J v1 v2 h; exact W12_putBack_2 hO hR hG t0 hQ ih h
set_option maxRecDepth 20000 in
theorem hc12_putBack : tCV yX12_putBack cX12_putBack 3 none 1 := ⟨⟨(List.mem_of_getElem? (i := 1069) rfl), (List.mem_of_getElem? (i := 5) (by decide +kernel)), by decide +kernel⟩, (List.mem_of_getElem? (i := 1067) (by decide +kernel)), (List.mem_of_getElem? (i := 1068) (by decide +kernel))⟩
set_option maxRecDepth 100000 in
theorem M12_putBack {l : Launch} {B : tB} {S : tSH} {I : tHI} {J : tHJ} {v1 : Int32} {n : Nat} {k : tHI → tHJ → Prop} (t0 : ty S 61 12) (h : F12_putBack n S I J v1 k) : Met l yX12_putBack (tWs yX12_putBack cX12_putBack 3 none) (tRm 2 0 0) (tPc B [vR 61, vI v1] S I J) (tQv B (tPv S k)) 0 0 (tA B) :=
  tEntry (by decide +kernel) [some (vR 61), some (vI v1), none] rfl rfl (Nat.le_of_ble_eq_true rfl) (fun K hl hR hO hQ hG => by
  subst hl
  refine gBk (pe := 2) hO [oI (.iconst 0) 0, o0 (.istore_n 2)] (by decide +kernel) (And.intro (Nat.le_of_ble_eq_true rfl) (show tWG K B 0 0 S I J 2 [some (vR 61), some (vI v1), some (vI 0)] [] from ?_))
  exact W12_putBack_L2 hO hR hG t0 hQ n _ _ _ _ h)
set_option maxRecDepth 100000 in
theorem W12_remember_77 {K : tK} {B : tB} {S : tSH} {MC MS : Nat} (hO : tKO K B RX12 cX12_remember 3) (hR : kR K = tRm 3 MC MS) (hG : tGr S) {n : Nat} (t0 : ty S 61 12) {k : tHI → tHJ → Prop} (hQ : tRet K B (tQv B (tPv S k)) 0 0 none) {I : tHI} {J : tHJ} {v1 : Int32} (h : F12_remember_77 n S k I J v1) : tWG K B 0 0 S I J 77 [some (vR 61), some (vI v1), none] [] := by
  refine gBk (pe := 82) hO [o0 (.aload_n 0), o0 (.aload_n 0), oF (.getfield 167) 12 8 372 0] (by decide +kernel) (And.intro t0 (show tWG K B 0 0 S I J 82 [some (vR 61), some (vI v1), none] [vI (I 61 8), vR 61] from ?_))
  refine gCVv_c hO (M12_keepAll t0 h) hc12_keepAll (idx := 174) (w := 997) (by decide +kernel) hR (by omega) t0 ⟨by decide, rfl⟩ (vs := [vI (I 61 8)]) (st := []) ⟨rfl, Nat.le_of_ble_eq_true rfl, rfl⟩ (by decide +kernel) (fun I2 J3 h => ?_)
  refine gBk (pe := 105) hO [o0 (.aload_n 0), oF (.getfield 26) 12 7 184 67, o0 (.aload_n 0), oF (.getfield 167) 12 8 372 0, o0 (.iload_n 1), o0 .iastore, o0 (.aload_n 0), o0 .dup, oF (.getfield 167) 12 8 372 0, oI (.iconst 1) 1, o0 .iadd, oF (.putfield 167) 12 8 372 0] (by decide +kernel) (And.intro t0 (And.intro rfl (And.intro t0 (And.intro (tGr.off hG t0 (k := 7) rfl) (And.intro (tin (tGr.len hG t0 (k := 7) rfl (by decide)) h.1) (And.intro t0 (And.intro t0 (show tWG K B 0 0 S (uI (uI I2 67 (I2 61 8).toNatClampNeg v1) 61 8 (((uI I2 67 (I2 61 8).toNatClampNeg v1) 61 8) + 1)) J3 105 [some (vR 61), some (vI v1), none] [] from ?_))))))))
  have h := h.2
  exact gVret hO hQ (by decide +kernel) ⟨rfl, h⟩
set_option maxRecDepth 100000 in
theorem W12_remember_41 {K : tK} {B : tB} {S : tSH} {MC MS : Nat} (hO : tKO K B RX12 cX12_remember 3) (hR : kR K = tRm 3 MC MS) (hG : tGr S) {n : Nat} (t0 : ty S 61 12) {k : tHI → tHJ → Prop} (hQ : tRet K B (tQv B (tPv S k)) 0 0 none) {kb41 : tHI → tHJ → Int32 → Int32 → Prop} (hkb41 : ∀ (I : tHI) (J : tHJ) (v1 : Int32) (v2 : Int32), kb41 I J v1 v2 → tWG K B 0 0 S I J 41 [some (vR 61), some (vI v1), some (vI v2)] []) {I : tHI} {J : tHJ} {v1 : Int32} {v2 : Int32} (h : F12_remember_41 n S k kb41 I J v1 v2) : tWG K B 0 0 S I J 41 [some (vR 61), some (vI v1), some (vI v2)] [] := by
  refine gBk (pe := 44) hO [o0 (.iload_n 2), oI (.bipush 15) 15] (by decide +kernel) (show tWG K B 0 0 S I J 44 [some (vR 61), some (vI v1), some (vI v2)] [vI 15, vI v2] from ?_)
  refine gIcGe hO (off := 23) (tgt := 67) (by decide +kernel) (by decide) (fun c5 => ?_) (fun c5 => ?_)
  · have h := h.1 c5
    refine gBk (pe := 77) hO [o0 (.aload_n 0), o0 .dup, oF (.getfield 167) 12 8 372 0, oI (.iconst 1) 1, o0 .isub, oF (.putfield 167) 12 8 372 0] (by decide +kernel) (And.intro t0 (And.intro t0 (show tWG K B 0 0 S (uI I 61 8 ((I 61 8) - 1)) J 77 [some (vR 61), some (vI v1), some (vI v2)] [] from ?_)))
    exact gWeak (L' := [some (vR 61), some (vI v1), none]) ⟨rfl, rfl, trivial⟩ (W12_remember_77 hO hR hG t0 hQ h)
  · have h := h.2 c5
    refine gBk (pe := 41) hO [o0 (.aload_n 0), oF (.getfield 26) 12 7 184 67, o0 (.iload_n 2), o0 (.aload_n 0), oF (.getfield 26) 12 7 184 67, o0 (.iload_n 2), oI (.iconst 1) 1, o0 .iadd, o0 .iaload, o0 .iastore, oI (.iinc 2 1) 1, o0 (.goto (-23))] (by decide +kernel) (And.intro t0 (And.intro rfl (And.intro t0 (And.intro rfl (And.intro (tGr.off hG t0 (k := 7) rfl) (And.intro (tin (tGr.len hG t0 (k := 7) rfl (by decide)) h.1) (And.intro (tGr.off hG t0 (k := 7) rfl) (And.intro (tin (tGr.len hG t0 (k := 7) rfl (by decide)) h.2.1) (show tWG K B 0 0 S (uI I 67 v2.toNatClampNeg (I 67 (v2 + 1).toNatClampNeg)) J 41 [some (vR 61), some (vI v1), some (vI (v2 + 1))] [] from ?_)))))))))
    have h := h.2.2
    exact hkb41 _ _ _ _ h
theorem W12_remember_L41 {K : tK} {B : tB} {S : tSH} {MC MS : Nat} (hO : tKO K B RX12 cX12_remember 3) (hR : kR K = tRm 3 MC MS) (hG : tGr S) {n : Nat} (t0 : ty S 61 12) {k : tHI → tHJ → Prop} (hQ : tRet K B (tQv B (tPv S k)) 0 0 none) : ∀ (f : Nat) (I : tHI) (J : tHJ) (v1 : Int32) (v2 : Int32), F12_remember_L41 n S k f I J v1 v2 → tWG K B 0 0 S I J 41 [some (vR 61), some (vI v1), some (vI v2)] [] := by
  intro f
  induction f with
  | zero => intro I J v1 v2 h; exact h.elim
  | succ f ih => intro I J v1 v2 h; exact W12_remember_41 hO hR hG t0 hQ ih h
set_option maxRecDepth 100000 in
theorem W12_remember_11 {K : tK} {B : tB} {S : tSH} {MC MS : Nat} (hO : tKO K B RX12 cX12_remember 3) (hR : kR K = tRm 3 MC MS) (hG : tGr S) {n : Nat} (t0 : ty S 61 12) {k : tHI → tHJ → Prop} (hQ : tRet K B (tQv B (tPv S k)) 0 0 none) {kb11 : tHI → tHJ → Int32 → Int32 → Prop} (hkb11 : ∀ (I : tHI) (J : tHJ) (v1 : Int32) (v2 : Int32), kb11 I J v1 v2 → tWG K B 0 0 S I J 11 [some (vR 61), some (vI v1), some (vI v2)] []) {I : tHI} {J : tHJ} {v1 : Int32} {v2 : Int32} (h : F12_remember_11 n S k kb11 I J v1 v2) : tWG K B 0 0 S I J 11 [some (vR 61), some (vI v1), some (vI v2)] [] := by
  refine gBk (pe := 15) hO [o0 (.iload_n 2), oI (.sipush 255) 255] (by decide +kernel) (show tWG K B 0 0 S I J 15 [some (vR 61), some (vI v1), some (vI v2)] [vI 255, vI v2] from ?_)
  refine gIcGe hO (off := 24) (tgt := 39) (by decide +kernel) (by decide) (fun c4 => ?_) (fun c4 => ?_)
  · have h := h.1 c4
    refine gBk (pe := 41) hO [oI (.iconst 0) 0, o0 (.istore_n 2)] (by decide +kernel) (And.intro (Nat.le_of_ble_eq_true rfl) (show tWG K B 0 0 S I J 41 [some (vR 61), some (vI v1), some (vI 0)] [] from ?_))
    exact W12_remember_L41 hO hR hG t0 hQ n _ _ _ _ h
  · have h := h.2 c4
    refine gBk (pe := 11) hO [o0 (.aload_n 0), oF (.getfield 23) 12 6 183 66, o0 (.iload_n 2), o0 (.aload_n 0), oF (.getfield 23) 12 6 183 66, o0 (.iload_n 2), oI (.bipush 17) 17, o0 .iadd, o0 .iaload, o0 .iastore, oI (.iinc 2 1) 1, o0 (.goto (-25))] (by decide +kernel) (And.intro t0 (And.intro rfl (And.intro t0 (And.intro rfl (And.intro (tGr.off hG t0 (k := 6) rfl) (And.intro (tin (tGr.len hG t0 (k := 6) rfl (by decide)) h.1) (And.intro (tGr.off hG t0 (k := 6) rfl) (And.intro (tin (tGr.len hG t0 (k := 6) rfl (by decide)) h.2.1) (show tWG K B 0 0 S (uI I 66 v2.toNatClampNeg (I 66 (v2 + 17).toNatClampNeg)) J 11 [some (vR 61), some (vI v1), some (vI (v2 + 1))] [] from ?_)))))))))
    have h := h.2.2
    exact hkb11 _ _ _ _ h
theorem W12_remember_L11 {K : tK} {B : tB} {S : tSH} {MC MS : Nat} (hO : tKO K B RX12 cX12_remember 3) (hR : kR K = tRm 3 MC MS) (hG : tGr S) {n : Nat} (t0 : ty S 61 12) {k : tHI → tHJ → Prop} (hQ : tRet K B (tQv B (tPv S k)) 0 0 none) : ∀ (f : Nat) (I : tHI) (J : tHJ) (v1 : Int32) (v2 : Int32), F12_remember_L11 n S k f I J v1 v2 → tWG K B 0 0 S I J 11 [some (vR 61), some (vI v1), some (vI v2)] [] := by
  intro f
  induction f with
  | zero => intro I J v1 v2 h; exact h.elim
  | succ f ih => intro I J v1 v2 h; exact W12_remember_11 hO hR hG t0 hQ ih h
set_option maxRecDepth 20000 in
theorem hc12_remember : tCV yX12_remember cX12_remember 3 none 1 := ⟨⟨(List.mem_of_getElem? (i := 1021) rfl), (List.mem_of_getElem? (i := 5) (by decide +kernel)), by decide +kernel⟩, (List.mem_of_getElem? (i := 1019) (by decide +kernel)), (List.mem_of_getElem? (i := 1020) (by decide +kernel))⟩
set_option maxRecDepth 100000 in
theorem M12_remember {l : Launch} {B : tB} {S : tSH} {I : tHI} {J : tHJ} {v1 : Int32} {n : Nat} {k : tHI → tHJ → Prop} (t0 : ty S 61 12) (h : F12_remember n S I J v1 k) : Met l yX12_remember (tWs yX12_remember cX12_remember 3 none) (tRm 3 0 0) (tPc B [vR 61, vI v1] S I J) (tQv B (tPv S k)) 0 0 (tA B) :=
  tEntry (by decide +kernel) [some (vR 61), some (vI v1), none] rfl rfl (Nat.le_of_ble_eq_true rfl) (fun K hl hR hO hQ hG => by
  subst hl
  refine gBk (pe := 6) hO [o0 (.aload_n 0), oF (.getfield 167) 12 8 372 0, oI (.bipush 16) 16] (by decide +kernel) (And.intro t0 (show tWG K B 0 0 S I J 6 [some (vR 61), some (vI v1), none] [vI 16, vI (I 61 8)] from ?_))
  refine gIcNe hO (off := 71) (tgt := 77) (by decide +kernel) (by decide) (fun c1 => ?_) (fun c1 => ?_)
  · have h := h.1 c1
    exact W12_remember_77 hO hR hG t0 hQ h
  · have h := h.2 c1
    refine gBk (pe := 11) hO [oI (.iconst 0) 0, o0 (.istore_n 2)] (by decide +kernel) (And.intro (Nat.le_of_ble_eq_true rfl) (show tWG K B 0 0 S I J 11 [some (vR 61), some (vI v1), some (vI 0)] [] from ?_))
    exact W12_remember_L11 hO hR hG t0 hQ n _ _ _ _ h)
set_option maxRecDepth 20000 in
theorem hc12_undo : tCV yX12_undo cX12_undo 1 (some .int) 0 := ⟨⟨(List.mem_of_getElem? (i := 1155) rfl), (List.mem_of_getElem? (i := 5) (by decide +kernel)), by decide +kernel⟩, (List.mem_of_getElem? (i := 1153) (by decide +kernel)), (List.mem_of_getElem? (i := 1154) (by decide +kernel))⟩
set_option maxRecDepth 100000 in
theorem M12_undo {l : Launch} {B : tB} {S : tSH} {I : tHI} {J : tHJ} {n : Nat} {k : Int32 → tHI → tHJ → Prop} (t0 : ty S 61 12) (h : F12_undo n S I J k) : Met l yX12_undo (tWs yX12_undo cX12_undo 1 (some .int)) (tRm 3 0 0) (tPc B [vR 61] S I J) (tQi B (tPi S k)) 0 0 (tA B) :=
  tEntry (by decide +kernel) [some (vR 61)] rfl rfl (Nat.le_of_ble_eq_true rfl) (fun K hl hR hO hQ hG => by
  subst hl
  refine gBk (pe := 9) hO [o0 (.aload_n 0), oI (.iconst 0) 0, oF (.putfield 161) 12 0 316 0, o0 (.aload_n 0), oF (.getfield 167) 12 8 372 0] (by decide +kernel) (And.intro t0 (And.intro t0 (show tWG K B 0 0 S (uI I 61 0 0) J 9 [some (vR 61)] [vI ((uI I 61 0 0) 61 8)] from ?_)))
  refine gIfNe hO (off := 10) (tgt := 19) (by decide +kernel) (by decide) (fun c1 => ?_) (fun c1 => ?_)
  · have h := h.1 c1
    refine gBk (pe := 34) hO [o0 (.aload_n 0), o0 .dup, oF (.getfield 167) 12 8 372 0, oI (.iconst 1) 1, o0 .isub, oF (.putfield 167) 12 8 372 0, o0 (.aload_n 0), o0 (.aload_n 0), oF (.getfield 167) 12 8 372 0] (by decide +kernel) (And.intro t0 (And.intro t0 (And.intro t0 (show tWG K B 0 0 S (uI (uI I 61 0 0) 61 8 (((uI I 61 0 0) 61 8) - 1)) J 34 [some (vR 61)] [vI ((uI (uI I 61 0 0) 61 8 (((uI I 61 0 0) 61 8) - 1)) 61 8), vR 61] from ?_))))
    refine gCVv_c hO (M12_putBack t0 h) hc12_putBack (idx := 178) (w := 1066) (by decide +kernel) hR (by omega) t0 ⟨by decide, rfl⟩ (vs := [vI ((uI (uI I 61 0 0) 61 8 (((uI I 61 0 0) 61 8) - 1)) 61 8)]) (st := []) ⟨rfl, Nat.le_of_ble_eq_true rfl, rfl⟩ (by decide +kernel) (fun I2 J3 h => ?_)
    refine gBk (pe := 47) hO [o0 (.aload_n 0), o0 (.aload_n 0), oF (.getfield 26) 12 7 184 67, o0 (.aload_n 0), oF (.getfield 167) 12 8 372 0, o0 .iaload] (by decide +kernel) (And.intro t0 (And.intro rfl (And.intro t0 (And.intro (tGr.off hG t0 (k := 7) rfl) (And.intro (tin (tGr.len hG t0 (k := 7) rfl (by decide)) h.1) (show tWG K B 0 0 S I2 J3 47 [some (vR 61)] [vI (I2 67 (I2 61 8).toNatClampNeg), vR 61] from ?_))))))
    have h := h.2
    refine gCVi_c hO (M12_tell t0 h) hc12_tell (idx := 170) (w := 322) (by decide +kernel) hR (by omega) t0 ⟨by decide, rfl⟩ (vs := [vI (I2 67 (I2 61 8).toNatClampNeg)]) (st := []) ⟨rfl, Nat.le_of_ble_eq_true rfl, rfl⟩ (by decide +kernel) (fun x6 I4 J5 h => ?_)
    exact gIret hO hQ (by decide +kernel) ⟨rfl, h⟩
  · have h := h.2 c1
    refine gBk (pe := 15) hO [o0 (.aload_n 0), oI (.bipush (-3)) (-3)] (by decide +kernel) (show tWG K B 0 0 S (uI I 61 0 0) J 15 [some (vR 61)] [vI (-3), vR 61] from ?_)
    refine gCVi_c hO (M12_tell t0 h) hc12_tell (idx := 170) (w := 322) (by decide +kernel) hR (by omega) t0 ⟨by decide, rfl⟩ (vs := [vI (-3)]) (st := []) ⟨rfl, Nat.le_of_ble_eq_true rfl, rfl⟩ (by decide +kernel) (fun x9 I7 J8 h => ?_)
    exact gIret hO hQ (by decide +kernel) ⟨rfl, h⟩)
set_option maxRecDepth 100000 in
theorem W12_image_23 {K : tK} {B : tB} {S : tSH} {MC MS : Nat} (hO : tKO K B RX12 cX12_image 3) (hR : kR K = tRm 3 MC MS) (hG : tGr S) {n : Nat} (t0 : ty S 61 12) {k : Int32 → tHI → tHJ → Prop} (hQ : tRet K B (tQi B (tPi S k)) 0 0 (some .int)) {kb23 : tHI → tHJ → Int32 → Int32 → Prop} (hkb23 : ∀ (I : tHI) (J : tHJ) (v1 : Int32) (v2 : Int32), kb23 I J v1 v2 → tWG K B 0 0 S I J 23 [some (vR 61), some (vI v1), some (vI v2)] []) {I : tHI} {J : tHJ} {v1 : Int32} {v2 : Int32} (h : F12_image_23 n S k kb23 I J v1 v2) : tWG K B 0 0 S I J 23 [some (vR 61), some (vI v1), some (vI v2)] [] := by
  refine gBk (pe := 27) hO [o0 (.iload_n 2), oI (.sipush 5510) 5510] (by decide +kernel) (show tWG K B 0 0 S I J 27 [some (vR 61), some (vI v1), some (vI v2)] [vI 5510, vI v2] from ?_)
  refine gIcGe hO (off := 27) (tgt := 54) (by decide +kernel) (by decide) (fun c3 => ?_) (fun c3 => ?_)
  · have h := h.1 c3
    refine gBk (pe := 63) hO [o0 (.aload_n 0), oF (.getfield 19) 12 5 182 65, o0 (.iload_n 1), oI (.iconst 1) 1, o0 .bastore, o0 (.aload_n 0), oI (.iconst 0) 0] (by decide +kernel) (And.intro t0 (And.intro rfl (And.intro (tGr.off hG t0 (k := 5) rfl) (And.intro (tin (tGr.len hG t0 (k := 5) rfl (by decide)) h.1) (And.intro (Or.inr rfl) (show tWG K B 0 0 S (uI I 65 v1.toNatClampNeg 1) J 63 [some (vR 61), some (vI v1), some (vI v2)] [vI 0, vR 61] from ?_))))))
    have h := h.2
    refine gCVi_c hO (M12_tell t0 h) hc12_tell (idx := 170) (w := 322) (by decide +kernel) hR (by omega) t0 ⟨by decide, rfl⟩ (vs := [vI 0]) (st := []) ⟨rfl, Nat.le_of_ble_eq_true rfl, rfl⟩ (by decide +kernel) (fun x6 I4 J5 h => ?_)
    exact gIret hO hQ (by decide +kernel) ⟨rfl, h⟩
  · have h := h.2 c3
    refine gBk (pe := 23) hO [o0 (.aload_n 0), oF (.getfield 16) 12 4 180 64, oI (.sipush 5510) 5510, o0 (.iload_n 1), o0 .imul, o0 (.iload_n 2), o0 .iadd, o0 (.aload_n 0), oF (.getfield 13) 12 3 179 63, o0 (.iload_n 2), o0 .iaload, o0 .iastore, oI (.iinc 2 1) 1, o0 (.goto (-28))] (by decide +kernel) (And.intro t0 (And.intro rfl (And.intro t0 (And.intro rfl (And.intro (tGr.off hG t0 (k := 3) rfl) (And.intro (tin (tGr.len hG t0 (k := 3) rfl (by decide)) h.1) (And.intro (tGr.off hG t0 (k := 4) rfl) (And.intro (tin (tGr.len hG t0 (k := 4) rfl (by decide)) h.2.1) (show tWG K B 0 0 S (uI I 64 ((5510 * v1) + v2).toNatClampNeg (I 63 v2.toNatClampNeg)) J 23 [some (vR 61), some (vI v1), some (vI (v2 + 1))] [] from ?_)))))))))
    have h := h.2.2
    exact hkb23 _ _ _ _ h
theorem W12_image_L23 {K : tK} {B : tB} {S : tSH} {MC MS : Nat} (hO : tKO K B RX12 cX12_image 3) (hR : kR K = tRm 3 MC MS) (hG : tGr S) {n : Nat} (t0 : ty S 61 12) {k : Int32 → tHI → tHJ → Prop} (hQ : tRet K B (tQi B (tPi S k)) 0 0 (some .int)) : ∀ (f : Nat) (I : tHI) (J : tHJ) (v1 : Int32) (v2 : Int32), F12_image_L23 n S k f I J v1 v2 → tWG K B 0 0 S I J 23 [some (vR 61), some (vI v1), some (vI v2)] [] := by
  intro f
  induction f with
  | zero => intro I J v1 v2 h; exact h.elim
  | succ f ih => intro I J v1 v2 h; exact W12_image_23 hO hR hG t0 hQ ih h
set_option maxRecDepth 20000 in
theorem hc12_image : tCV yX12_image cX12_image 3 (some .int) 1 := ⟨⟨(List.mem_of_getElem? (i := 1438) rfl), (List.mem_of_getElem? (i := 5) (by decide +kernel)), by decide +kernel⟩, (List.mem_of_getElem? (i := 1436) (by decide +kernel)), (List.mem_of_getElem? (i := 1437) (by decide +kernel))⟩
set_option maxRecDepth 100000 in
theorem M12_image {l : Launch} {B : tB} {S : tSH} {I : tHI} {J : tHJ} {v1 : Int32} {n : Nat} {k : Int32 → tHI → tHJ → Prop} (t0 : ty S 61 12) (h : F12_image n S I J v1 k) : Met l yX12_image (tWs yX12_image cX12_image 3 (some .int)) (tRm 3 0 0) (tPc B [vR 61, vI v1] S I J) (tQi B (tPi S k)) 0 0 (tA B) :=
  tEntry (by decide +kernel) [some (vR 61), some (vI v1), none] rfl rfl (Nat.le_of_ble_eq_true rfl) (fun K hl hR hO hQ hG => by
  subst hl
  refine gBk (pe := 9) hO [o0 (.aload_n 0), oI (.iconst 0) 0, oF (.putfield 161) 12 0 316 0, o0 (.iload_n 1), o0 .i2l, oJ (.lconst 0) 0 0, oJ (.lconst 1) 0 1] (by decide +kernel) (And.intro t0 (show tWG K B 0 0 S (uI I 61 0 0) J 9 [some (vR 61), some (vI v1), none] [vL 1, vL 0, vL v1.toInt64] from ?_))
  refine gCSi_z hO (M12_in) hc12_in (idx := 181) (w := 319) (by decide +kernel) hR (by omega) (vs := [vL v1.toInt64, vL 0, vL 1]) (st := []) ⟨rfl, Nat.le_of_ble_eq_true rfl, rfl⟩ (by decide +kernel) (fun z1 => ?_)
  refine gIfNe hO (off := 9) (tgt := 21) (by decide +kernel) (by decide) (fun c2 => ?_) (fun c2 => ?_)
  · have h := h.1 c2
    refine gBk (pe := 23) hO [oI (.iconst 0) 0, o0 (.istore_n 2)] (by decide +kernel) (And.intro (Nat.le_of_ble_eq_true rfl) (show tWG K B 0 0 S (uI I 61 0 0) J 23 [some (vR 61), some (vI v1), some (vI 0)] [] from ?_))
    exact W12_image_L23 hO hR hG t0 hQ n _ _ _ _ h
  · have h := h.2 c2
    refine gBk (pe := 17) hO [o0 (.aload_n 0), oI (.iconst (-1)) (-1)] (by decide +kernel) (show tWG K B 0 0 S (uI I 61 0 0) J 17 [some (vR 61), some (vI v1), none] [vI (-1), vR 61] from ?_)
    refine gCVi_c hO (M12_tell t0 h) hc12_tell (idx := 170) (w := 322) (by decide +kernel) hR (by omega) t0 ⟨by decide, rfl⟩ (vs := [vI (-1)]) (st := []) ⟨rfl, Nat.le_of_ble_eq_true rfl, rfl⟩ (by decide +kernel) (fun x9 I7 J8 h => ?_)
    exact gIret hO hQ (by decide +kernel) ⟨rfl, h⟩)
set_option maxRecDepth 100000 in
theorem W12_back_39 {K : tK} {B : tB} {S : tSH} {MC MS : Nat} (hO : tKO K B RX12 cX12_back 3) (hR : kR K = tRm 4 MC MS) (hG : tGr S) {n : Nat} (t0 : ty S 61 12) {k : Int32 → tHI → tHJ → Prop} (hQ : tRet K B (tQi B (tPi S k)) 0 0 (some .int)) {kb39 : tHI → tHJ → Int32 → Int32 → Prop} (hkb39 : ∀ (I : tHI) (J : tHJ) (v1 : Int32) (v2 : Int32), kb39 I J v1 v2 → tWG K B 0 0 S I J 39 [some (vR 61), some (vI v1), some (vI v2)] []) {I : tHI} {J : tHJ} {v1 : Int32} {v2 : Int32} (h : F12_back_39 n S k kb39 I J v1 v2) : tWG K B 0 0 S I J 39 [some (vR 61), some (vI v1), some (vI v2)] [] := by
  refine gBk (pe := 43) hO [o0 (.iload_n 2), oI (.sipush 5510) 5510] (by decide +kernel) (show tWG K B 0 0 S I J 43 [some (vR 61), some (vI v1), some (vI v2)] [vI 5510, vI v2] from ?_)
  refine gIcGe hO (off := 27) (tgt := 70) (by decide +kernel) (by decide) (fun c4 => ?_) (fun c4 => ?_)
  · have h := h.1 c4
    refine gBk (pe := 72) hO [o0 (.aload_n 0), oI (.iconst 0) 0] (by decide +kernel) (show tWG K B 0 0 S I J 72 [some (vR 61), some (vI v1), some (vI v2)] [vI 0, vR 61] from ?_)
    refine gCVi_c hO (M12_settled t0 h) hc12_settled (idx := 185) (w := 368) (by decide +kernel) hR (by omega) t0 ⟨by decide, rfl⟩ (vs := [vI 0]) (st := []) ⟨rfl, Nat.le_of_ble_eq_true rfl, rfl⟩ (by decide +kernel) (fun x7 I5 J6 h => ?_)
    exact gIret hO hQ (by decide +kernel) ⟨rfl, h⟩
  · have h := h.2 c4
    refine gBk (pe := 39) hO [o0 (.aload_n 0), oF (.getfield 13) 12 3 179 63, o0 (.iload_n 2), o0 (.aload_n 0), oF (.getfield 16) 12 4 180 64, oI (.sipush 5510) 5510, o0 (.iload_n 1), o0 .imul, o0 (.iload_n 2), o0 .iadd, o0 .iaload, o0 .iastore, oI (.iinc 2 1) 1, o0 (.goto (-28))] (by decide +kernel) (And.intro t0 (And.intro rfl (And.intro t0 (And.intro rfl (And.intro (tGr.off hG t0 (k := 4) rfl) (And.intro (tin (tGr.len hG t0 (k := 4) rfl (by decide)) h.1) (And.intro (tGr.off hG t0 (k := 3) rfl) (And.intro (tin (tGr.len hG t0 (k := 3) rfl (by decide)) h.2.1) (show tWG K B 0 0 S (uI I 63 v2.toNatClampNeg (I 64 ((5510 * v1) + v2).toNatClampNeg)) J 39 [some (vR 61), some (vI v1), some (vI (v2 + 1))] [] from ?_)))))))))
    have h := h.2.2
    exact hkb39 _ _ _ _ h
theorem W12_back_L39 {K : tK} {B : tB} {S : tSH} {MC MS : Nat} (hO : tKO K B RX12 cX12_back 3) (hR : kR K = tRm 4 MC MS) (hG : tGr S) {n : Nat} (t0 : ty S 61 12) {k : Int32 → tHI → tHJ → Prop} (hQ : tRet K B (tQi B (tPi S k)) 0 0 (some .int)) : ∀ (f : Nat) (I : tHI) (J : tHJ) (v1 : Int32) (v2 : Int32), F12_back_L39 n S k f I J v1 v2 → tWG K B 0 0 S I J 39 [some (vR 61), some (vI v1), some (vI v2)] [] := by
  intro f
  induction f with
  | zero => intro I J v1 v2 h; exact h.elim
  | succ f ih => intro I J v1 v2 h; exact W12_back_39 hO hR hG t0 hQ ih h
set_option maxRecDepth 20000 in
theorem hc12_back : tCV yX12_back cX12_back 3 (some .int) 1 := ⟨⟨(List.mem_of_getElem? (i := 1446) rfl), (List.mem_of_getElem? (i := 5) (by decide +kernel)), by decide +kernel⟩, (List.mem_of_getElem? (i := 1444) (by decide +kernel)), (List.mem_of_getElem? (i := 1445) (by decide +kernel))⟩
set_option maxRecDepth 100000 in
theorem M12_back {l : Launch} {B : tB} {S : tSH} {I : tHI} {J : tHJ} {v1 : Int32} {n : Nat} {k : Int32 → tHI → tHJ → Prop} (t0 : ty S 61 12) (h : F12_back n S I J v1 k) : Met l yX12_back (tWs yX12_back cX12_back 3 (some .int)) (tRm 4 0 0) (tPc B [vR 61, vI v1] S I J) (tQi B (tPi S k)) 0 0 (tA B) :=
  tEntry (by decide +kernel) [some (vR 61), some (vI v1), none] rfl rfl (Nat.le_of_ble_eq_true rfl) (fun K hl hR hO hQ hG => by
  subst hl
  refine gBk (pe := 9) hO [o0 (.aload_n 0), oI (.iconst 0) 0, oF (.putfield 161) 12 0 316 0, o0 (.iload_n 1), o0 .i2l, oJ (.lconst 0) 0 0, oJ (.lconst 1) 0 1] (by decide +kernel) (And.intro t0 (show tWG K B 0 0 S (uI I 61 0 0) J 9 [some (vR 61), some (vI v1), none] [vL 1, vL 0, vL v1.toInt64] from ?_))
  refine gCSi_z hO (M12_in) hc12_in (idx := 181) (w := 319) (by decide +kernel) hR (by omega) (vs := [vL v1.toInt64, vL 0, vL 1]) (st := []) ⟨rfl, Nat.le_of_ble_eq_true rfl, rfl⟩ (by decide +kernel) (fun z1 => ?_)
  refine gIfNe hO (off := 9) (tgt := 21) (by decide +kernel) (by decide) (fun c2 => ?_) (fun c2 => ?_)
  · have h := h.1 c2
    refine gBk (pe := 27) hO [o0 (.aload_n 0), oF (.getfield 19) 12 5 182 65, o0 (.iload_n 1), o0 .baload] (by decide +kernel) (And.intro t0 (And.intro rfl (And.intro (tGr.off hG t0 (k := 5) rfl) (And.intro (tin (tGr.len hG t0 (k := 5) rfl (by decide)) h.1) (show tWG K B 0 0 S (uI I 61 0 0) J 27 [some (vR 61), some (vI v1), none] [vI ((uI I 61 0 0) 65 v1.toNatClampNeg)] from ?_)))))
    have h := h.2
    refine gIfNe hO (off := 10) (tgt := 37) (by decide +kernel) (by decide) (fun c3 => ?_) (fun c3 => ?_)
    · have h := h.1 c3
      refine gBk (pe := 39) hO [oI (.iconst 0) 0, o0 (.istore_n 2)] (by decide +kernel) (And.intro (Nat.le_of_ble_eq_true rfl) (show tWG K B 0 0 S (uI I 61 0 0) J 39 [some (vR 61), some (vI v1), some (vI 0)] [] from ?_))
      exact W12_back_L39 hO hR hG t0 hQ n _ _ _ _ h
    · have h := h.2 c3
      refine gBk (pe := 33) hO [o0 (.aload_n 0), oI (.bipush (-2)) (-2)] (by decide +kernel) (show tWG K B 0 0 S (uI I 61 0 0) J 33 [some (vR 61), some (vI v1), none] [vI (-2), vR 61] from ?_)
      refine gCVi_c hO (M12_tell t0 h) hc12_tell (idx := 170) (w := 322) (by decide +kernel) hR (by omega) t0 ⟨by decide, rfl⟩ (vs := [vI (-2)]) (st := []) ⟨rfl, Nat.le_of_ble_eq_true rfl, rfl⟩ (by decide +kernel) (fun x10 I8 J9 h => ?_)
      exact gIret hO hQ (by decide +kernel) ⟨rfl, h⟩
  · have h := h.2 c2
    refine gBk (pe := 17) hO [o0 (.aload_n 0), oI (.iconst (-1)) (-1)] (by decide +kernel) (show tWG K B 0 0 S (uI I 61 0 0) J 17 [some (vR 61), some (vI v1), none] [vI (-1), vR 61] from ?_)
    refine gCVi_c hO (M12_tell t0 h) hc12_tell (idx := 170) (w := 322) (by decide +kernel) hR (by omega) t0 ⟨by decide, rfl⟩ (vs := [vI (-1)]) (st := []) ⟨rfl, Nat.le_of_ble_eq_true rfl, rfl⟩ (by decide +kernel) (fun x13 I11 J12 h => ?_)
    exact gIret hO hQ (by decide +kernel) ⟨rfl, h⟩)
set_option maxRecDepth 20000 in
theorem hc12_ofBend : tCV yX12_ofBend cX12_ofBend 3 (some .int) 2 := ⟨⟨(List.mem_of_getElem? (i := 359) rfl), (List.mem_of_getElem? (i := 5) (by decide +kernel)), by decide +kernel⟩, (List.mem_of_getElem? (i := 357) (by decide +kernel)), (List.mem_of_getElem? (i := 358) (by decide +kernel))⟩
set_option maxRecDepth 100000 in
theorem M12_ofBend {l : Launch} {B : tB} {S : tSH} {I : tHI} {J : tHJ} {v1 : Int32} {v2 : Int32} (t0 : ty S 61 12) (h : P12_ofBend S I J v1 v2) : Met l yX12_ofBend (tWs yX12_ofBend cX12_ofBend 3 (some .int)) (tRm 2 0 0) (tPc B [vR 61, vI v1, vI v2] S I J) (tQi B (tPp S I J (V12_ofBend S I J v1 v2))) 0 0 (tA B) :=
  tEntry (by decide +kernel) [some (vR 61), some (vI v1), some (vI v2)] rfl rfl (Nat.le_of_ble_eq_true rfl) (fun K hl hR hO hQ hG => by
  subst hl
  refine gBk (pe := 13) hO [o0 (.aload_n 0), oF (.getfield 13) 12 3 179 63, oI (.bipush 38) 38, oI (.iconst 4) 4, o0 (.iload_n 1), o0 .imul, o0 .iadd, o0 (.iload_n 2), o0 .iadd, o0 .iaload] (by decide +kernel) (And.intro t0 (And.intro rfl (And.intro (tGr.off hG t0 (k := 3) rfl) (And.intro (tin (tGr.len hG t0 (k := 3) rfl (by decide)) h.1) (show tWG K B 0 0 S I J 13 [some (vR 61), some (vI v1), some (vI v2)] [vI (I 63 ((38 + (4 * v1)) + v2).toNatClampNeg)] from ?_)))))
  have h := h.2
  exact gIret hO hQ (by decide +kernel) ⟨rfl, rfl⟩)
set_option maxRecDepth 20000 in
theorem hc12_isLoad : tCV yX12_isLoad cX12_isLoad 2 (some .boolean) 1 := ⟨⟨(List.mem_of_getElem? (i := 363) rfl), (List.mem_of_getElem? (i := 5) (by decide +kernel)), by decide +kernel⟩, (List.mem_of_getElem? (i := 361) (by decide +kernel)), (List.mem_of_getElem? (i := 362) (by decide +kernel))⟩
set_option maxRecDepth 100000 in
theorem M12_isLoad {l : Launch} {B : tB} {S : tSH} {I : tHI} {J : tHJ} {v1 : Int32} (t0 : ty S 61 12) : Met l yX12_isLoad (tWs yX12_isLoad cX12_isLoad 2 (some .boolean)) (tRm 3 0 0) (tPc B [vR 61, vI v1] S I J) (tQi B (tPz S I J (V12_isLoad S I J v1))) 0 0 (tA B) :=
  tEntry (by decide +kernel) [some (vR 61), some (vI v1)] rfl rfl (Nat.le_of_ble_eq_true rfl) (fun K hl hR hO hQ hG => by
  subst hl
  refine gBk (pe := 12) hO [o0 (.iload_n 1), o0 .i2l, oJ (.lconst 0) 0 0, o0 (.aload_n 0), oF (.getfield 13) 12 3 179 63, oI (.iconst 0) 0, o0 .iaload, o0 .i2l, oJ (.lconst 1) 0 1, o0 .lsub] (by decide +kernel) (And.intro t0 (And.intro rfl (And.intro (tGr.off hG t0 (k := 3) rfl) (And.intro (tin (tGr.len hG t0 (k := 3) rfl (by decide)) (tvi (by decide +kernel))) (show tWG K B 0 0 S I J 12 [some (vR 61), some (vI v1)] [vL ((I 63 0).toInt64 - 1), vL 0, vL v1.toInt64] from ?_)))))
  refine gCSi_z hO (M12_in) hc12_in (idx := 181) (w := 319) (by decide +kernel) hR (by omega) (vs := [vL v1.toInt64, vL 0, vL ((I 63 0).toInt64 - 1)]) (st := []) ⟨rfl, Nat.le_of_ble_eq_true rfl, rfl⟩ (by decide +kernel) (fun z1 => ?_)
  exact gZret hO hQ (by decide +kernel) (Z12_in v1.toInt64 0 ((I 63 0).toInt64 - 1)) ⟨rfl, (Z12_in v1.toInt64 0 ((I 63 0).toInt64 - 1)), rfl⟩)
set_option maxRecDepth 20000 in
theorem hc12_isBend : tCV yX12_isBend cX12_isBend 2 (some .boolean) 1 := ⟨⟨(List.mem_of_getElem? (i := 355) rfl), (List.mem_of_getElem? (i := 5) (by decide +kernel)), by decide +kernel⟩, (List.mem_of_getElem? (i := 353) (by decide +kernel)), (List.mem_of_getElem? (i := 354) (by decide +kernel))⟩
set_option maxRecDepth 100000 in
theorem M12_isBend {l : Launch} {B : tB} {S : tSH} {I : tHI} {J : tHJ} {v1 : Int32} (t0 : ty S 61 12) : Met l yX12_isBend (tWs yX12_isBend cX12_isBend 2 (some .boolean)) (tRm 3 0 0) (tPc B [vR 61, vI v1] S I J) (tQi B (tPz S I J (V12_isBend S I J v1))) 0 0 (tA B) :=
  tEntry (by decide +kernel) [some (vR 61), some (vI v1)] rfl rfl (Nat.le_of_ble_eq_true rfl) (fun K hl hR hO hQ hG => by
  subst hl
  refine gBk (pe := 12) hO [o0 (.iload_n 1), o0 .i2l, oJ (.lconst 0) 0 0, o0 (.aload_n 0), oF (.getfield 13) 12 3 179 63, oI (.iconst 1) 1, o0 .iaload, o0 .i2l, oJ (.lconst 1) 0 1, o0 .lsub] (by decide +kernel) (And.intro t0 (And.intro rfl (And.intro (tGr.off hG t0 (k := 3) rfl) (And.intro (tin (tGr.len hG t0 (k := 3) rfl (by decide)) (tvi (by decide +kernel))) (show tWG K B 0 0 S I J 12 [some (vR 61), some (vI v1)] [vL ((I 63 1).toInt64 - 1), vL 0, vL v1.toInt64] from ?_)))))
  refine gCSi_z hO (M12_in) hc12_in (idx := 181) (w := 319) (by decide +kernel) hR (by omega) (vs := [vL v1.toInt64, vL 0, vL ((I 63 1).toInt64 - 1)]) (st := []) ⟨rfl, Nat.le_of_ble_eq_true rfl, rfl⟩ (by decide +kernel) (fun z1 => ?_)
  exact gZret hO hQ (by decide +kernel) (Z12_in v1.toInt64 0 ((I 63 1).toInt64 - 1)) ⟨rfl, (Z12_in v1.toInt64 0 ((I 63 1).toInt64 - 1)), rfl⟩)
set_option maxRecDepth 100000 in
theorem W12_bend1_53 {K : tK} {B : tB} {S : tSH} {MC MS : Nat} (hO : tKO K B RX12 cX12_bend1 7) (hR : kR K = tRm 3 MC MS) (hG : tGr S) {n : Nat} (t0 : ty S 61 12) {k : Int32 → tHI → tHJ → Prop} (hQ : tRet K B (tQi B (tPi S k)) 0 0 (some .int)) {I : tHI} {J : tHJ} (h : F12_bend1_53 n S k I J) : tWG K B 0 0 S I J 53 [none, none, none, none, none, none, none] [] := by
  refine gBk (pe := 54) hO [oI (.iconst (-1)) (-1)] (by decide +kernel) (show tWG K B 0 0 S I J 54 [none, none, none, none, none, none, none] [vI (-1)] from ?_)
  exact gIret hO hQ (by decide +kernel) ⟨rfl, h⟩
set_option maxRecDepth 20000 in
theorem hc12_bend1 : tCV yX12_bend1 cX12_bend1 7 (some .int) 4 := ⟨⟨(List.mem_of_getElem? (i := 414) rfl), (List.mem_of_getElem? (i := 5) (by decide +kernel)), by decide +kernel⟩, (List.mem_of_getElem? (i := 412) (by decide +kernel)), (List.mem_of_getElem? (i := 413) (by decide +kernel))⟩
set_option maxRecDepth 100000 in
theorem M12_bend1 {l : Launch} {B : tB} {S : tSH} {I : tHI} {J : tHJ} {v1 : Int32} {v2 : Int32} {v3 : Int32} {v4 : Int32} {n : Nat} {k : Int32 → tHI → tHJ → Prop} (t0 : ty S 61 12) (h : F12_bend1 n S I J v1 v2 v3 v4 k) : Met l yX12_bend1 (tWs yX12_bend1 cX12_bend1 7 (some .int)) (tRm 3 0 0) (tPc B [vR 61, vI v1, vI v2, vI v3, vI v4] S I J) (tQi B (tPi S k)) 0 0 (tA B) :=
  tEntry (by decide +kernel) [some (vR 61), some (vI v1), some (vI v2), some (vI v3), some (vI v4), none, none] rfl rfl (Nat.le_of_ble_eq_true rfl) (fun K hl hR hO hQ hG => by
  subst hl
  refine gBk (pe := 2) hO [o0 (.iload_n 1), o0 .i2l] (by decide +kernel) (show tWG K B 0 0 S I J 2 [some (vR 61), some (vI v1), some (vI v2), some (vI v3), some (vI v4), none, none] [vL v1.toInt64] from ?_)
  refine gBk (pe := 5) hO [(.ldc2_w 206, (0, 0, 415, 0), 0, (-9))] (by decide +kernel) (show tWG K B 0 0 S I J 5 [some (vR 61), some (vI v1), some (vI v2), some (vI v3), some (vI v4), none, none] [vL (-9), vL v1.toInt64] from ?_)
  refine gBk (pe := 8) hO [(.ldc2_w 208, (0, 0, 416, 0), 0, 9)] (by decide +kernel) (show tWG K B 0 0 S I J 8 [some (vR 61), some (vI v1), some (vI v2), some (vI v3), some (vI v4), none, none] [vL 9, vL (-9), vL v1.toInt64] from ?_)
  refine gCSi_z hO (M12_in) hc12_in (idx := 181) (w := 319) (by decide +kernel) hR (by omega) (vs := [vL v1.toInt64, vL (-9), vL 9]) (st := []) ⟨rfl, Nat.le_of_ble_eq_true rfl, rfl⟩ (by decide +kernel) (fun z1 => ?_)
  refine gIfEq hO (off := 42) (tgt := 53) (by decide +kernel) (by decide) (fun c2 => ?_) (fun c2 => ?_)
  · have h := h.1 c2
    exact gWeak (L' := [none, none, none, none, none, none, none]) trivial (W12_bend1_53 hO hR hG t0 hQ h)
  · have h := h.2 c2
    refine gBk (pe := 17) hO [o0 (.iload_n 2), o0 .i2l, oJ (.lconst 1) 0 1] (by decide +kernel) (show tWG K B 0 0 S I J 17 [some (vR 61), some (vI v1), some (vI v2), some (vI v3), some (vI v4), none, none] [vL 1, vL v2.toInt64] from ?_)
    refine gBk (pe := 20) hO [(.ldc2_w 210, (0, 0, 417, 0), 0, 99)] (by decide +kernel) (show tWG K B 0 0 S I J 20 [some (vR 61), some (vI v1), some (vI v2), some (vI v3), some (vI v4), none, none] [vL 99, vL 1, vL v2.toInt64] from ?_)
    refine gCSi_z hO (M12_in) hc12_in (idx := 181) (w := 319) (by decide +kernel) hR (by omega) (vs := [vL v2.toInt64, vL 1, vL 99]) (st := []) ⟨rfl, Nat.le_of_ble_eq_true rfl, rfl⟩ (by decide +kernel) (fun z3 => ?_)
    refine gIfEq hO (off := 30) (tgt := 53) (by decide +kernel) (by decide) (fun c4 => ?_) (fun c4 => ?_)
    · have h := h.1 c4
      exact gWeak (L' := [none, none, none, none, none, none, none]) trivial (W12_bend1_53 hO hR hG t0 hQ h)
    · have h := h.2 c4
      refine gBk (pe := 28) hO [o0 (.iload_n 3), o0 .i2l] (by decide +kernel) (show tWG K B 0 0 S I J 28 [some (vR 61), some (vI v1), some (vI v2), some (vI v3), some (vI v4), none, none] [vL v3.toInt64] from ?_)
      refine gBk (pe := 31) hO [(.ldc2_w 212, (0, 0, 418, 0), 0, (-3))] (by decide +kernel) (show tWG K B 0 0 S I J 31 [some (vR 61), some (vI v1), some (vI v2), some (vI v3), some (vI v4), none, none] [vL (-3), vL v3.toInt64] from ?_)
      refine gBk (pe := 34) hO [(.ldc2_w 190, (0, 0, 318, 0), 0, 3)] (by decide +kernel) (show tWG K B 0 0 S I J 34 [some (vR 61), some (vI v1), some (vI v2), some (vI v3), some (vI v4), none, none] [vL 3, vL (-3), vL v3.toInt64] from ?_)
      refine gCSi_z hO (M12_in) hc12_in (idx := 181) (w := 319) (by decide +kernel) hR (by omega) (vs := [vL v3.toInt64, vL (-3), vL 3]) (st := []) ⟨rfl, Nat.le_of_ble_eq_true rfl, rfl⟩ (by decide +kernel) (fun z5 => ?_)
      refine gIfEq hO (off := 16) (tgt := 53) (by decide +kernel) (by decide) (fun c6 => ?_) (fun c6 => ?_)
      · have h := h.1 c6
        exact gWeak (L' := [none, none, none, none, none, none, none]) trivial (W12_bend1_53 hO hR hG t0 hQ h)
      · have h := h.2 c6
        refine gBk (pe := 44) hO [o0 (.iload 4), o0 .i2l, oJ (.lconst 0) 0 0] (by decide +kernel) (show tWG K B 0 0 S I J 44 [some (vR 61), some (vI v1), some (vI v2), some (vI v3), some (vI v4), none, none] [vL 0, vL v4.toInt64] from ?_)
        refine gBk (pe := 47) hO [(.ldc2_w 214, (0, 0, 419, 0), 0, 31)] (by decide +kernel) (show tWG K B 0 0 S I J 47 [some (vR 61), some (vI v1), some (vI v2), some (vI v3), some (vI v4), none, none] [vL 31, vL 0, vL v4.toInt64] from ?_)
        refine gCSi_z hO (M12_in) hc12_in (idx := 181) (w := 319) (by decide +kernel) hR (by omega) (vs := [vL v4.toInt64, vL 0, vL 31]) (st := []) ⟨rfl, Nat.le_of_ble_eq_true rfl, rfl⟩ (by decide +kernel) (fun z7 => ?_)
        refine gIfNe hO (off := 5) (tgt := 55) (by decide +kernel) (by decide) (fun c8 => ?_) (fun c8 => ?_)
        · have h := h.1 c8
          refine gBk (pe := 67) hO [o0 (.aload_n 0), oF (.getfield 13) 12 3 179 63, oI (.iconst 1) 1, o0 .iaload, o0 (.istore 5), o0 (.iload 5), oI (.bipush 12) 12] (by decide +kernel) (And.intro t0 (And.intro rfl (And.intro (tGr.off hG t0 (k := 3) rfl) (And.intro (tin (tGr.len hG t0 (k := 3) rfl (by decide)) (tvi (by decide +kernel))) (And.intro (Nat.le_of_ble_eq_true rfl) (show tWG K B 0 0 S I J 67 [some (vR 61), some (vI v1), some (vI v2), some (vI v3), some (vI v4), some (vI (I 63 1)), none] [vI 12, vI (I 63 1)] from ?_))))))
          refine gIcNe hO (off := 6) (tgt := 73) (by decide +kernel) (by decide) (fun c9 => ?_) (fun c9 => ?_)
          · have h := h.1 c9
            refine gBk (pe := 133) hO [oI (.bipush 38) 38, oI (.iconst 4) 4, o0 (.iload 5), o0 .imul, o0 .iadd, o0 (.istore 6), o0 (.aload_n 0), oF (.getfield 13) 12 3 179 63, o0 (.iload 6), o0 (.iload_n 1), o0 .iastore, o0 (.aload_n 0), oF (.getfield 13) 12 3 179 63, o0 (.iload 6), oI (.iconst 1) 1, o0 .iadd, o0 (.iload_n 2), o0 .iastore, o0 (.aload_n 0), oF (.getfield 13) 12 3 179 63, o0 (.iload 6), oI (.iconst 2) 2, o0 .iadd, o0 (.iload_n 3), o0 .iastore, o0 (.aload_n 0), oF (.getfield 13) 12 3 179 63, o0 (.iload 6), oI (.iconst 3) 3, o0 .iadd, o0 (.iload 4), o0 .iastore, o0 (.aload_n 0), oF (.getfield 13) 12 3 179 63, oI (.iconst 1) 1, o0 .dup2, o0 .iaload, oI (.iconst 1) 1, o0 .iadd, o0 .iastore, o0 (.iload 5)] (by decide +kernel) (And.intro (Nat.le_of_ble_eq_true rfl) (And.intro t0 (And.intro rfl (And.intro (tGr.off hG t0 (k := 3) rfl) (And.intro (tin (tGr.len hG t0 (k := 3) rfl (by decide)) h.1) (And.intro t0 (And.intro rfl (And.intro (tGr.off hG t0 (k := 3) rfl) (And.intro (tin (tGr.len hG t0 (k := 3) rfl (by decide)) h.2.1) (And.intro t0 (And.intro rfl (And.intro (tGr.off hG t0 (k := 3) rfl) (And.intro (tin (tGr.len hG t0 (k := 3) rfl (by decide)) h.2.2.1) (And.intro t0 (And.intro rfl (And.intro (tGr.off hG t0 (k := 3) rfl) (And.intro (tin (tGr.len hG t0 (k := 3) rfl (by decide)) h.2.2.2.1) (And.intro t0 (And.intro rfl (And.intro (tGr.off hG t0 (k := 3) rfl) (And.intro (tin (tGr.len hG t0 (k := 3) rfl (by decide)) (tvi (by decide +kernel))) (And.intro (tGr.off hG t0 (k := 3) rfl) (And.intro (tin (tGr.len hG t0 (k := 3) rfl (by decide)) (tvi (by decide +kernel))) (show tWG K B 0 0 S (uI (uI (uI (uI (uI I 63 (38 + (4 * (I 63 1))).toNatClampNeg v1) 63 ((38 + (4 * (I 63 1))) + 1).toNatClampNeg v2) 63 ((38 + (4 * (I 63 1))) + 2).toNatClampNeg v3) 63 ((38 + (4 * (I 63 1))) + 3).toNatClampNeg v4) 63 1 (((uI (uI (uI (uI I 63 (38 + (4 * (I 63 1))).toNatClampNeg v1) 63 ((38 + (4 * (I 63 1))) + 1).toNatClampNeg v2) 63 ((38 + (4 * (I 63 1))) + 2).toNatClampNeg v3) 63 ((38 + (4 * (I 63 1))) + 3).toNatClampNeg v4) 63 1) + 1)) J 133 [some (vR 61), some (vI v1), some (vI v2), some (vI v3), some (vI v4), some (vI (I 63 1)), some (vI (38 + (4 * (I 63 1))))] [vI (I 63 1)] from ?_))))))))))))))))))))))))
            have h := h.2.2.2.2
            exact gIret hO hQ (by decide +kernel) ⟨rfl, h⟩
          · have h := h.2 c9
            refine gBk (pe := 72) hO [oI (.bipush (-5)) (-5)] (by decide +kernel) (show tWG K B 0 0 S I J 72 [some (vR 61), some (vI v1), some (vI v2), some (vI v3), some (vI v4), some (vI (I 63 1)), none] [vI (-5)] from ?_)
            exact gIret hO hQ (by decide +kernel) ⟨rfl, h⟩
        · have h := h.2 c8
          exact gWeak (L' := [none, none, none, none, none, none, none]) trivial (W12_bend1_53 hO hR hG t0 hQ h))
set_option maxRecDepth 20000 in
theorem hc12_bend : tCV yX12_bend cX12_bend 5 (some .int) 4 := ⟨⟨(List.mem_of_getElem? (i := 410) rfl), (List.mem_of_getElem? (i := 5) (by decide +kernel)), by decide +kernel⟩, (List.mem_of_getElem? (i := 408) (by decide +kernel)), (List.mem_of_getElem? (i := 409) (by decide +kernel))⟩
set_option maxRecDepth 100000 in
theorem M12_bend {l : Launch} {B : tB} {S : tSH} {I : tHI} {J : tHJ} {v1 : Int32} {v2 : Int32} {v3 : Int32} {v4 : Int32} {n : Nat} {k : Int32 → tHI → tHJ → Prop} (t0 : ty S 61 12) (h : F12_bend n S I J v1 v2 v3 v4 k) : Met l yX12_bend (tWs yX12_bend cX12_bend 5 (some .int)) (tRm 4 0 0) (tPc B [vR 61, vI v1, vI v2, vI v3, vI v4] S I J) (tQi B (tPi S k)) 0 0 (tA B) :=
  tEntry (by decide +kernel) [some (vR 61), some (vI v1), some (vI v2), some (vI v3), some (vI v4)] rfl rfl (Nat.le_of_ble_eq_true rfl) (fun K hl hR hO hQ hG => by
  subst hl
  refine gBk (pe := 12) hO [o0 (.aload_n 0), oI (.iconst 0) 0, oF (.putfield 161) 12 0 316 0, o0 (.aload_n 0), o0 (.aload_n 0), o0 (.iload_n 1), o0 (.iload_n 2), o0 (.iload_n 3), o0 (.iload 4)] (by decide +kernel) (And.intro t0 (show tWG K B 0 0 S (uI I 61 0 0) J 12 [some (vR 61), some (vI v1), some (vI v2), some (vI v3), some (vI v4)] [vI v4, vI v3, vI v2, vI v1, vR 61, vR 61] from ?_))
  refine gCVi_c hO (M12_bend1 t0 h) hc12_bend1 (idx := 216) (w := 411) (by decide +kernel) hR (by omega) t0 ⟨by decide, rfl⟩ (vs := [vI v1, vI v2, vI v3, vI v4]) (st := [vR 61]) ⟨rfl, Nat.le_of_ble_eq_true rfl, rfl⟩ (by decide +kernel) (fun x3 I1 J2 h => ?_)
  refine gCVi_c hO (M12_settled t0 h) hc12_settled (idx := 185) (w := 368) (by decide +kernel) hR (by omega) t0 ⟨by decide, rfl⟩ (vs := [vI x3]) (st := []) ⟨rfl, Nat.le_of_ble_eq_true rfl, rfl⟩ (by decide +kernel) (fun x6 I4 J5 h => ?_)
  exact gIret hO hQ (by decide +kernel) ⟨rfl, h⟩)
set_option maxRecDepth 20000 in
theorem hc12_clear : tCV yX12_clear cX12_clear 2 (some .int) 0 := ⟨⟨(List.mem_of_getElem? (i := 430) rfl), (List.mem_of_getElem? (i := 5) (by decide +kernel)), by decide +kernel⟩, (List.mem_of_getElem? (i := 428) (by decide +kernel)), (List.mem_of_getElem? (i := 429) (by decide +kernel))⟩
set_option maxRecDepth 100000 in
theorem M12_clear {l : Launch} {B : tB} {S : tSH} {I : tHI} {J : tHJ} {n : Nat} {k : Int32 → tHI → tHJ → Prop} (t0 : ty S 61 12) (h : F12_clear n S I J k) : Met l yX12_clear (tWs yX12_clear cX12_clear 2 (some .int)) (tRm 4 0 0) (tPc B [vR 61] S I J) (tQi B (tPi S k)) 0 0 (tA B) :=
  tEntry (by decide +kernel) [some (vR 61), none] rfl rfl (Nat.le_of_ble_eq_true rfl) (fun K hl hR hO hQ hG => by
  subst hl
  refine gBk (pe := 13) hO [o0 (.aload_n 0), oI (.iconst 0) 0, oF (.putfield 161) 12 0 316 0, o0 (.aload_n 0), oF (.getfield 13) 12 3 179 63, oI (.iconst 1) 1, o0 .iaload, o0 (.istore_n 1), o0 (.iload_n 1)] (by decide +kernel) (And.intro t0 (And.intro t0 (And.intro rfl (And.intro (tGr.off hG t0 (k := 3) rfl) (And.intro (tin (tGr.len hG t0 (k := 3) rfl (by decide)) (tvi (by decide +kernel))) (And.intro (Nat.le_of_ble_eq_true rfl) (show tWG K B 0 0 S (uI I 61 0 0) J 13 [some (vR 61), some (vI ((uI I 61 0 0) 63 1))] [vI ((uI I 61 0 0) 63 1)] from ?_)))))))
  refine gIfNe hO (off := 10) (tgt := 23) (by decide +kernel) (by decide) (fun c1 => ?_) (fun c1 => ?_)
  · have h := h.1 c1
    refine gBk (pe := 47) hO [o0 (.aload_n 0), oF (.getfield 13) 12 3 179 63, oI (.iconst 1) 1, oI (.iconst 0) 0, o0 .iastore, o0 (.aload_n 0), oF (.getfield 13) 12 3 179 63, oI (.iconst 2) 2, oI (.iconst 0) 0, o0 .iastore, o0 (.aload_n 0), oF (.getfield 13) 12 3 179 63, oI (.bipush 9) 9, oI (.iconst 0) 0, o0 .iastore, o0 (.aload_n 0), o0 (.iload_n 1)] (by decide +kernel) (And.intro t0 (And.intro rfl (And.intro (tGr.off hG t0 (k := 3) rfl) (And.intro (tin (tGr.len hG t0 (k := 3) rfl (by decide)) (tvi (by decide +kernel))) (And.intro t0 (And.intro rfl (And.intro (tGr.off hG t0 (k := 3) rfl) (And.intro (tin (tGr.len hG t0 (k := 3) rfl (by decide)) (tvi (by decide +kernel))) (And.intro t0 (And.intro rfl (And.intro (tGr.off hG t0 (k := 3) rfl) (And.intro (tin (tGr.len hG t0 (k := 3) rfl (by decide)) (tvi (by decide +kernel))) (show tWG K B 0 0 S (uI (uI (uI (uI I 61 0 0) 63 1 0) 63 2 0) 63 9 0) J 47 [some (vR 61), some (vI ((uI I 61 0 0) 63 1))] [vI ((uI I 61 0 0) 63 1), vR 61] from ?_)))))))))))))
    refine gCVi_c hO (M12_settled t0 h) hc12_settled (idx := 185) (w := 368) (by decide +kernel) hR (by omega) t0 ⟨by decide, rfl⟩ (vs := [vI ((uI I 61 0 0) 63 1)]) (st := []) ⟨rfl, Nat.le_of_ble_eq_true rfl, rfl⟩ (by decide +kernel) (fun x4 I2 J3 h => ?_)
    exact gIret hO hQ (by decide +kernel) ⟨rfl, h⟩
  · have h := h.2 c1
    refine gBk (pe := 19) hO [o0 (.aload_n 0), oI (.bipush (-3)) (-3)] (by decide +kernel) (show tWG K B 0 0 S (uI I 61 0 0) J 19 [some (vR 61), some (vI ((uI I 61 0 0) 63 1))] [vI (-3), vR 61] from ?_)
    refine gCVi_c hO (M12_tell t0 h) hc12_tell (idx := 170) (w := 322) (by decide +kernel) hR (by omega) t0 ⟨by decide, rfl⟩ (vs := [vI (-3)]) (st := []) ⟨rfl, Nat.le_of_ble_eq_true rfl, rfl⟩ (by decide +kernel) (fun x7 I5 J6 h => ?_)
    exact gIret hO hQ (by decide +kernel) ⟨rfl, h⟩)
set_option maxRecDepth 100000 in
theorem W12_bars_37 {K : tK} {B : tB} {S : tSH} {MC MS : Nat} (hO : tKO K B RX12 cX12_bars 2) (hR : kR K = tRm 3 MC MS) (hG : tGr S) {n : Nat} (t0 : ty S 61 12) {k : Int32 → tHI → tHJ → Prop} (hQ : tRet K B (tQi B (tPi S k)) 0 0 (some .int)) {I : tHI} {J : tHJ} {s0 : Int32} (h : F12_bars_37 n S k I J s0) : tWG K B 0 0 S I J 37 [none, none] [vI s0] := by
  exact gIret hO hQ (by decide +kernel) ⟨rfl, h⟩
set_option maxRecDepth 20000 in
theorem hc12_bars : tCV yX12_bars cX12_bars 2 (some .int) 1 := ⟨⟨(List.mem_of_getElem? (i := 534) rfl), (List.mem_of_getElem? (i := 5) (by decide +kernel)), by decide +kernel⟩, (List.mem_of_getElem? (i := 532) (by decide +kernel)), (List.mem_of_getElem? (i := 533) (by decide +kernel))⟩
set_option maxRecDepth 100000 in
theorem M12_bars {l : Launch} {B : tB} {S : tSH} {I : tHI} {J : tHJ} {v1 : Int32} {n : Nat} {k : Int32 → tHI → tHJ → Prop} (t0 : ty S 61 12) (h : F12_bars n S I J v1 k) : Met l yX12_bars (tWs yX12_bars cX12_bars 2 (some .int)) (tRm 3 0 0) (tPc B [vR 61, vI v1] S I J) (tQi B (tPi S k)) 0 0 (tA B) :=
  tEntry (by decide +kernel) [some (vR 61), some (vI v1)] rfl rfl (Nat.le_of_ble_eq_true rfl) (fun K hl hR hO hQ hG => by
  subst hl
  refine gBk (pe := 7) hO [o0 (.aload_n 0), oI (.iconst 0) 0, oF (.putfield 161) 12 0 316 0, o0 (.iload_n 1), o0 .i2l] (by decide +kernel) (And.intro t0 (show tWG K B 0 0 S (uI I 61 0 0) J 7 [some (vR 61), some (vI v1)] [vL v1.toInt64] from ?_))
  refine gBk (pe := 10) hO [(.ldc2_w 206, (0, 0, 415, 0), 0, (-9))] (by decide +kernel) (show tWG K B 0 0 S (uI I 61 0 0) J 10 [some (vR 61), some (vI v1)] [vL (-9), vL v1.toInt64] from ?_)
  refine gBk (pe := 13) hO [(.ldc2_w 208, (0, 0, 416, 0), 0, 9)] (by decide +kernel) (show tWG K B 0 0 S (uI I 61 0 0) J 13 [some (vR 61), some (vI v1)] [vL 9, vL (-9), vL v1.toInt64] from ?_)
  refine gCSi_z hO (M12_in) hc12_in (idx := 181) (w := 319) (by decide +kernel) hR (by omega) (vs := [vL v1.toInt64, vL (-9), vL 9]) (st := []) ⟨rfl, Nat.le_of_ble_eq_true rfl, rfl⟩ (by decide +kernel) (fun z1 => ?_)
  refine gIfEq hO (off := 16) (tgt := 32) (by decide +kernel) (by decide) (fun c2 => ?_) (fun c2 => ?_)
  · have h := h.1 c2
    refine gBk (pe := 34) hO [o0 (.aload_n 0), oI (.iconst (-1)) (-1)] (by decide +kernel) (show tWG K B 0 0 S (uI I 61 0 0) J 34 [some (vR 61), some (vI v1)] [vI (-1), vR 61] from ?_)
    refine gCVi_c hO (M12_tell t0 h) hc12_tell (idx := 170) (w := 322) (by decide +kernel) hR (by omega) t0 ⟨by decide, rfl⟩ (vs := [vI (-1)]) (st := []) ⟨rfl, Nat.le_of_ble_eq_true rfl, rfl⟩ (by decide +kernel) (fun x5 I3 J4 h => ?_)
    exact gWeak (L' := [none, none]) trivial (W12_bars_37 hO hR hG t0 hQ h)
  · have h := h.2 c2
    refine gBk (pe := 23) hO [o0 (.aload_n 0), oI (.bipush 8) 8, o0 (.iload_n 1)] (by decide +kernel) (show tWG K B 0 0 S (uI I 61 0 0) J 23 [some (vR 61), some (vI v1)] [vI v1, vI 8, vR 61] from ?_)
    refine gCVi_c hO (M12_change t0 h) hc12_change (idx := 244) (w := 535) (by decide +kernel) hR (by omega) t0 ⟨by decide, rfl⟩ (vs := [vI 8, vI v1]) (st := []) ⟨rfl, Nat.le_of_ble_eq_true rfl, rfl⟩ (by decide +kernel) (fun x8 I6 J7 h => ?_)
    refine gBk (pe := 37) hO [oI (.bipush 9) 9, o0 .iadd, o0 (.goto 8)] (by decide +kernel) (show tWG K B 0 0 S I6 J7 37 [some (vR 61), some (vI v1)] [vI (x8 + 9)] from ?_)
    exact gWeak (L' := [none, none]) trivial (W12_bars_37 hO hR hG t0 hQ h))
set_option maxRecDepth 100000 in
theorem W12_terms_69 {K : tK} {B : tB} {S : tSH} {MC MS : Nat} (hO : tKO K B RX12 cX12_terms 4) (hR : kR K = tRm 3 MC MS) (hG : tGr S) {n : Nat} (t0 : ty S 61 12) {k : Int32 → tHI → tHJ → Prop} (hQ : tRet K B (tQi B (tPi S k)) 0 0 (some .int)) {I : tHI} {J : tHJ} {s0 : Int32} (h : F12_terms_69 n S k I J s0) : tWG K B 0 0 S I J 69 [none, none, none, none] [vI s0] := by
  exact gIret hO hQ (by decide +kernel) ⟨rfl, h⟩
set_option maxRecDepth 20000 in
theorem hc12_terms : tCV yX12_terms cX12_terms 4 (some .int) 2 := ⟨⟨(List.mem_of_getElem? (i := 554) rfl), (List.mem_of_getElem? (i := 5) (by decide +kernel)), by decide +kernel⟩, (List.mem_of_getElem? (i := 552) (by decide +kernel)), (List.mem_of_getElem? (i := 553) (by decide +kernel))⟩
set_option maxRecDepth 100000 in
theorem M12_terms {l : Launch} {B : tB} {S : tSH} {I : tHI} {J : tHJ} {v1 : Int32} {v2 : Int32} {n : Nat} {k : Int32 → tHI → tHJ → Prop} (t0 : ty S 61 12) (h : F12_terms n S I J v1 v2 k) : Met l yX12_terms (tWs yX12_terms cX12_terms 4 (some .int)) (tRm 3 0 0) (tPc B [vR 61, vI v1, vI v2] S I J) (tQi B (tPi S k)) 0 0 (tA B) :=
  tEntry (by decide +kernel) [some (vR 61), some (vI v1), some (vI v2), none] rfl rfl (Nat.le_of_ble_eq_true rfl) (fun K hl hR hO hQ hG => by
  subst hl
  refine gBk (pe := 6) hO [o0 (.aload_n 0), oI (.iconst 0) 0, oF (.putfield 161) 12 0 316 0, o0 (.iload_n 1)] (by decide +kernel) (And.intro t0 (show tWG K B 0 0 S (uI I 61 0 0) J 6 [some (vR 61), some (vI v1), some (vI v2), none] [vI v1] from ?_))
  have hj4 : ∀ (m5 : Int32), m5 = (if v1 = 0 then (V12_in v2.toInt64 1 60) else (if v1 = 1 then (V12_in v2.toInt64 1 60) else (if v1 = 2 then (if (V12_in v2.toInt64 0 9) = 0 then (0 : Int32) else 1) else 0))) → tWG K B 0 0 S (uI I 61 0 0) J 48 [some (vR 61), some (vI v1), some (vI v2), none] [vI m5] := by
    intro m5 em5
    subst em5
    refine gBk (pe := 50) hO [o0 (.istore_n 3), o0 (.iload_n 3)] (by decide +kernel) (And.intro (Nat.le_of_ble_eq_true rfl) (show tWG K B 0 0 S (uI I 61 0 0) J 50 [some (vR 61), some (vI v1), some (vI v2), some (vI (if v1 = 0 then (V12_in v2.toInt64 1 60) else (if v1 = 1 then (V12_in v2.toInt64 1 60) else (if v1 = 2 then (if (V12_in v2.toInt64 0 9) = 0 then (0 : Int32) else 1) else 0))))] [vI (if v1 = 0 then (V12_in v2.toInt64 1 60) else (if v1 = 1 then (V12_in v2.toInt64 1 60) else (if v1 = 2 then (if (V12_in v2.toInt64 0 9) = 0 then (0 : Int32) else 1) else 0)))] from ?_))
    refine gIfEq hO (off := 14) (tgt := 64) (by decide +kernel) (by decide) (fun c13 => ?_) (fun c13 => ?_)
    · have h := h.1 c13
      refine gBk (pe := 66) hO [o0 (.aload_n 0), oI (.iconst (-1)) (-1)] (by decide +kernel) (show tWG K B 0 0 S (uI I 61 0 0) J 66 [some (vR 61), some (vI v1), some (vI v2), some (vI (if v1 = 0 then (V12_in v2.toInt64 1 60) else (if v1 = 1 then (V12_in v2.toInt64 1 60) else (if v1 = 2 then (if (V12_in v2.toInt64 0 9) = 0 then (0 : Int32) else 1) else 0))))] [vI (-1), vR 61] from ?_)
      refine gCVi_c hO (M12_tell t0 h) hc12_tell (idx := 170) (w := 322) (by decide +kernel) hR (by omega) t0 ⟨by decide, rfl⟩ (vs := [vI (-1)]) (st := []) ⟨rfl, Nat.le_of_ble_eq_true rfl, rfl⟩ (by decide +kernel) (fun x16 I14 J15 h => ?_)
      exact gWeak (L' := [none, none, none, none]) trivial (W12_terms_69 hO hR hG t0 hQ h)
    · have h := h.2 c13
      refine gBk (pe := 58) hO [o0 (.aload_n 0), oI (.iconst 5) 5, o0 (.iload_n 1), o0 .iadd, o0 (.iload_n 2)] (by decide +kernel) (show tWG K B 0 0 S (uI I 61 0 0) J 58 [some (vR 61), some (vI v1), some (vI v2), some (vI (if v1 = 0 then (V12_in v2.toInt64 1 60) else (if v1 = 1 then (V12_in v2.toInt64 1 60) else (if v1 = 2 then (if (V12_in v2.toInt64 0 9) = 0 then (0 : Int32) else 1) else 0))))] [vI v2, vI (5 + v1), vR 61] from ?_)
      refine gCVi_c hO (M12_change t0 h) hc12_change (idx := 244) (w := 535) (by decide +kernel) hR (by omega) t0 ⟨by decide, rfl⟩ (vs := [vI (5 + v1), vI v2]) (st := []) ⟨rfl, Nat.le_of_ble_eq_true rfl, rfl⟩ (by decide +kernel) (fun x19 I17 J18 h => ?_)
      refine gBk (pe := 69) hO [o0 (.goto 8)] (by decide +kernel) (show tWG K B 0 0 S I17 J18 69 [some (vR 61), some (vI v1), some (vI v2), some (vI (if v1 = 0 then (V12_in v2.toInt64 1 60) else (if v1 = 1 then (V12_in v2.toInt64 1 60) else (if v1 = 2 then (if (V12_in v2.toInt64 0 9) = 0 then (0 : Int32) else 1) else 0))))] [vI x19] from ?_)
      exact gWeak (L' := [none, none, none, none]) trivial (W12_terms_69 hO hR hG t0 hQ h)
  refine gIfEq hO (off := 8) (tgt := 14) (by decide +kernel) (by decide) (fun c6 => ?_) (fun c6 => ?_)
  · refine gBk (pe := 17) hO [o0 (.iload_n 2), o0 .i2l, oJ (.lconst 1) 0 1] (by decide +kernel) (show tWG K B 0 0 S (uI I 61 0 0) J 17 [some (vR 61), some (vI v1), some (vI v2), none] [vL 1, vL v2.toInt64] from ?_)
    refine gBk (pe := 20) hO [(.ldc2_w 247, (0, 0, 517, 0), 0, 60)] (by decide +kernel) (show tWG K B 0 0 S (uI I 61 0 0) J 20 [some (vR 61), some (vI v1), some (vI v2), none] [vL 60, vL 1, vL v2.toInt64] from ?_)
    refine gCSi_z hO (M12_in) hc12_in (idx := 181) (w := 319) (by decide +kernel) hR (by omega) (vs := [vL v2.toInt64, vL 1, vL 60]) (st := []) ⟨rfl, Nat.le_of_ble_eq_true rfl, rfl⟩ (by decide +kernel) (fun z7 => ?_)
    refine gBk (pe := 48) hO [o0 (.goto 25)] (by decide +kernel) (show tWG K B 0 0 S (uI I 61 0 0) J 48 [some (vR 61), some (vI v1), some (vI v2), none] [vI (V12_in v2.toInt64 1 60)] from ?_)
    exact (hj4 _ (Eq.symm (if_pos c6)))
  · refine gBk (pe := 11) hO [o0 (.iload_n 1), oI (.iconst 1) 1] (by decide +kernel) (show tWG K B 0 0 S (uI I 61 0 0) J 11 [some (vR 61), some (vI v1), some (vI v2), none] [vI 1, vI v1] from ?_)
    refine gIcNe hO (off := 15) (tgt := 26) (by decide +kernel) (by decide) (fun c8 => ?_) (fun c8 => ?_)
    · refine gBk (pe := 28) hO [o0 (.iload_n 1), oI (.iconst 2) 2] (by decide +kernel) (show tWG K B 0 0 S (uI I 61 0 0) J 28 [some (vR 61), some (vI v1), some (vI v2), none] [vI 2, vI v1] from ?_)
      refine gIcNe hO (off := 19) (tgt := 47) (by decide +kernel) (by decide) (fun c9 => ?_) (fun c9 => ?_)
      · refine gBk (pe := 48) hO [oI (.iconst 0) 0] (by decide +kernel) (show tWG K B 0 0 S (uI I 61 0 0) J 48 [some (vR 61), some (vI v1), some (vI v2), none] [vI 0] from ?_)
        exact (hj4 _ (Eq.symm ((if_neg c6).trans ((if_neg c8).trans (if_neg c9)))))
      · refine gBk (pe := 34) hO [o0 (.iload_n 2), o0 .i2l, oJ (.lconst 0) 0 0] (by decide +kernel) (show tWG K B 0 0 S (uI I 61 0 0) J 34 [some (vR 61), some (vI v1), some (vI v2), none] [vL 0, vL v2.toInt64] from ?_)
        refine gBk (pe := 37) hO [(.ldc2_w 208, (0, 0, 416, 0), 0, 9)] (by decide +kernel) (show tWG K B 0 0 S (uI I 61 0 0) J 37 [some (vR 61), some (vI v1), some (vI v2), none] [vL 9, vL 0, vL v2.toInt64] from ?_)
        refine gCSi_z hO (M12_in) hc12_in (idx := 181) (w := 319) (by decide +kernel) hR (by omega) (vs := [vL v2.toInt64, vL 0, vL 9]) (st := []) ⟨rfl, Nat.le_of_ble_eq_true rfl, rfl⟩ (by decide +kernel) (fun z10 => ?_)
        refine gIfEq hO (off := 7) (tgt := 47) (by decide +kernel) (by decide) (fun c11 => ?_) (fun c11 => ?_)
        · refine gBk (pe := 48) hO [oI (.iconst 0) 0] (by decide +kernel) (show tWG K B 0 0 S (uI I 61 0 0) J 48 [some (vR 61), some (vI v1), some (vI v2), none] [vI 0] from ?_)
          exact (hj4 _ (Eq.symm ((if_neg c6).trans ((if_neg c8).trans ((if_pos c9).trans (if_pos c11))))))
        · refine gBk (pe := 48) hO [oI (.iconst 1) 1, o0 (.goto 4)] (by decide +kernel) (show tWG K B 0 0 S (uI I 61 0 0) J 48 [some (vR 61), some (vI v1), some (vI v2), none] [vI 1] from ?_)
          exact (hj4 _ (Eq.symm ((if_neg c6).trans ((if_neg c8).trans ((if_pos c9).trans (if_neg c11))))))
    · refine gBk (pe := 17) hO [o0 (.iload_n 2), o0 .i2l, oJ (.lconst 1) 0 1] (by decide +kernel) (show tWG K B 0 0 S (uI I 61 0 0) J 17 [some (vR 61), some (vI v1), some (vI v2), none] [vL 1, vL v2.toInt64] from ?_)
      refine gBk (pe := 20) hO [(.ldc2_w 247, (0, 0, 517, 0), 0, 60)] (by decide +kernel) (show tWG K B 0 0 S (uI I 61 0 0) J 20 [some (vR 61), some (vI v1), some (vI v2), none] [vL 60, vL 1, vL v2.toInt64] from ?_)
      refine gCSi_z hO (M12_in) hc12_in (idx := 181) (w := 319) (by decide +kernel) hR (by omega) (vs := [vL v2.toInt64, vL 1, vL 60]) (st := []) ⟨rfl, Nat.le_of_ble_eq_true rfl, rfl⟩ (by decide +kernel) (fun z12 => ?_)
      refine gBk (pe := 48) hO [o0 (.goto 25)] (by decide +kernel) (show tWG K B 0 0 S (uI I 61 0 0) J 48 [some (vR 61), some (vI v1), some (vI v2), none] [vI (V12_in v2.toInt64 1 60)] from ?_)
      exact (hj4 _ (Eq.symm ((if_neg c6).trans (if_pos c8)))))
set_option maxRecDepth 100000 in
theorem W12_row_105 {K : tK} {B : tB} {S : tSH} {MC MS : Nat} (hO : tKO K B RX12 cX12_row 4) (hR : kR K = tRm 4 MC MS) (hG : tGr S) {n : Nat} (t0 : ty S 61 12) {k : Int32 → tHI → tHJ → Prop} (hQ : tRet K B (tQi B (tPi S k)) 0 0 (some .int)) {kb35 : tHI → tHJ → Int32 → Int32 → Int32 → Prop} (hkb35 : ∀ (I : tHI) (J : tHJ) (v1 : Int32) (v2 : Int32) (v3 : Int32), kb35 I J v1 v2 v3 → tWG K B 0 0 S I J 35 [some (vR 61), some (vI v1), some (vI v2), some (vI v3)] []) {I : tHI} {J : tHJ} {v1 : Int32} {v2 : Int32} {v3 : Int32} (h : F12_row_105 n S k kb35 I J v1 v2 v3) : tWG K B 0 0 S I J 105 [some (vR 61), some (vI v1), some (vI v2), some (vI v3)] [] := by
  refine gBk (pe := 35) hO [oI (.iinc 3 4) 4, o0 (.goto (-73))] (by decide +kernel) (show tWG K B 0 0 S I J 35 [some (vR 61), some (vI v1), some (vI v2), some (vI (v3 + 4))] [] from ?_)
  exact hkb35 _ _ _ _ _ h
set_option maxRecDepth 100000 in
theorem W12_row_95 {K : tK} {B : tB} {S : tSH} {MC MS : Nat} (hO : tKO K B RX12 cX12_row 4) (hR : kR K = tRm 4 MC MS) (hG : tGr S) {n : Nat} (t0 : ty S 61 12) {k : Int32 → tHI → tHJ → Prop} (hQ : tRet K B (tQi B (tPi S k)) 0 0 (some .int)) {kb35 : tHI → tHJ → Int32 → Int32 → Int32 → Prop} (hkb35 : ∀ (I : tHI) (J : tHJ) (v1 : Int32) (v2 : Int32) (v3 : Int32), kb35 I J v1 v2 v3 → tWG K B 0 0 S I J 35 [some (vR 61), some (vI v1), some (vI v2), some (vI v3)] []) {I : tHI} {J : tHJ} {v1 : Int32} {v2 : Int32} {v3 : Int32} (h : F12_row_95 n S k kb35 I J v1 v2 v3) : tWG K B 0 0 S I J 95 [some (vR 61), some (vI v1), some (vI v2), some (vI v3)] [] := by
  refine gBk (pe := 105) hO [o0 (.aload_n 0), o0 .dup, oF (.getfield 252) 12 11 597 0, oI (.iconst 1) 1, o0 .iadd, oF (.putfield 252) 12 11 597 0] (by decide +kernel) (And.intro t0 (And.intro t0 (show tWG K B 0 0 S (uI I 61 11 ((I 61 11) + 1)) J 105 [some (vR 61), some (vI v1), some (vI v2), some (vI v3)] [] from ?_)))
  exact W12_row_105 hO hR hG t0 hQ hkb35 h
set_option maxRecDepth 100000 in
theorem W12_row_35 {K : tK} {B : tB} {S : tSH} {MC MS : Nat} (hO : tKO K B RX12 cX12_row 4) (hR : kR K = tRm 4 MC MS) (hG : tGr S) {n : Nat} (t0 : ty S 61 12) {k : Int32 → tHI → tHJ → Prop} (hQ : tRet K B (tQi B (tPi S k)) 0 0 (some .int)) {kb35 : tHI → tHJ → Int32 → Int32 → Int32 → Prop} (hkb35 : ∀ (I : tHI) (J : tHJ) (v1 : Int32) (v2 : Int32) (v3 : Int32), kb35 I J v1 v2 v3 → tWG K B 0 0 S I J 35 [some (vR 61), some (vI v1), some (vI v2), some (vI v3)] []) {I : tHI} {J : tHJ} {v1 : Int32} {v2 : Int32} {v3 : Int32} (h : F12_row_35 n S k kb35 I J v1 v2 v3) : tWG K B 0 0 S I J 35 [some (vR 61), some (vI v1), some (vI v2), some (vI v3)] [] := by
  refine gBk (pe := 37) hO [o0 (.iload_n 3), o0 (.iload_n 1)] (by decide +kernel) (show tWG K B 0 0 S I J 37 [some (vR 61), some (vI v1), some (vI v2), some (vI v3)] [vI v1, vI v3] from ?_)
  refine gIcGe hO (off := 74) (tgt := 111) (by decide +kernel) (by decide) (fun c2 => ?_) (fun c2 => ?_)
  · have h := h.1 c2
    refine gBk (pe := 113) hO [o0 (.aload_n 0), o0 (.iload_n 2)] (by decide +kernel) (show tWG K B 0 0 S I J 113 [some (vR 61), some (vI v1), some (vI v2), some (vI v3)] [vI v2, vR 61] from ?_)
    refine gCVi_c hO (M12_settled t0 h) hc12_settled (idx := 185) (w := 368) (by decide +kernel) hR (by omega) t0 ⟨by decide, rfl⟩ (vs := [vI v2]) (st := []) ⟨rfl, Nat.le_of_ble_eq_true rfl, rfl⟩ (by decide +kernel) (fun x5 I3 J4 h => ?_)
    exact gIret hO hQ (by decide +kernel) ⟨rfl, h⟩
  · have h := h.2 c2
    refine gBk (pe := 44) hO [o0 (.iload_n 3), oI (.iconst 3) 3, o0 .iadd, o0 (.iload_n 1)] (by decide +kernel) (show tWG K B 0 0 S I J 44 [some (vR 61), some (vI v1), some (vI v2), some (vI v3)] [vI v1, vI (v3 + 3)] from ?_)
    refine gIcGe hO (off := 51) (tgt := 95) (by decide +kernel) (by decide) (fun c6 => ?_) (fun c6 => ?_)
    · have h := h.1 c6
      exact W12_row_95 hO hR hG t0 hQ hkb35 h
    · have h := h.2 c6
      refine gBk (pe := 83) hO [o0 (.aload_n 0), o0 (.aload_n 0), oF (.getfield 35) 12 12 187 70, o0 (.iload_n 3), o0 .iaload, oI (.bipush 9) 9, o0 .isub, o0 (.aload_n 0), oF (.getfield 35) 12 12 187 70, o0 (.iload_n 3), oI (.iconst 1) 1, o0 .iadd, o0 .iaload, o0 (.aload_n 0), oF (.getfield 35) 12 12 187 70, o0 (.iload_n 3), oI (.iconst 2) 2, o0 .iadd, o0 .iaload, oI (.iconst 3) 3, o0 .isub, o0 (.aload_n 0), oF (.getfield 35) 12 12 187 70, o0 (.iload_n 3), oI (.iconst 3) 3, o0 .iadd, o0 .iaload] (by decide +kernel) (And.intro t0 (And.intro rfl (And.intro (tGr.off hG t0 (k := 12) rfl) (And.intro (tin (tGr.len hG t0 (k := 12) rfl (by decide)) h.1) (And.intro t0 (And.intro rfl (And.intro (tGr.off hG t0 (k := 12) rfl) (And.intro (tin (tGr.len hG t0 (k := 12) rfl (by decide)) h.2.1) (And.intro t0 (And.intro rfl (And.intro (tGr.off hG t0 (k := 12) rfl) (And.intro (tin (tGr.len hG t0 (k := 12) rfl (by decide)) h.2.2.1) (And.intro t0 (And.intro rfl (And.intro (tGr.off hG t0 (k := 12) rfl) (And.intro (tin (tGr.len hG t0 (k := 12) rfl (by decide)) h.2.2.2.1) (show tWG K B 0 0 S I J 83 [some (vR 61), some (vI v1), some (vI v2), some (vI v3)] [vI (I 70 (v3 + 3).toNatClampNeg), vI ((I 70 (v3 + 2).toNatClampNeg) - 3), vI (I 70 (v3 + 1).toNatClampNeg), vI ((I 70 v3.toNatClampNeg) - 9), vR 61] from ?_)))))))))))))))))
      have h := h.2.2.2.2
      refine gCVi_c hO (M12_bend1 t0 h) hc12_bend1 (idx := 216) (w := 411) (by decide +kernel) hR (by omega) t0 ⟨by decide, rfl⟩ (vs := [vI ((I 70 v3.toNatClampNeg) - 9), vI (I 70 (v3 + 1).toNatClampNeg), vI ((I 70 (v3 + 2).toNatClampNeg) - 3), vI (I 70 (v3 + 3).toNatClampNeg)]) (st := []) ⟨rfl, Nat.le_of_ble_eq_true rfl, rfl⟩ (by decide +kernel) (fun x9 I7 J8 h => ?_)
      refine gIfLt hO (off := 9) (tgt := 95) (by decide +kernel) (by decide) (fun c10 => ?_) (fun c10 => ?_)
      · have h := h.1 c10
        exact W12_row_95 hO hR hG t0 hQ hkb35 h
      · have h := h.2 c10
        refine gBk (pe := 105) hO [oI (.iinc 2 1) 1, o0 (.goto 13)] (by decide +kernel) (show tWG K B 0 0 S I7 J8 105 [some (vR 61), some (vI v1), some (vI (v2 + 1)), some (vI v3)] [] from ?_)
        exact W12_row_105 hO hR hG t0 hQ hkb35 h
theorem W12_row_L35 {K : tK} {B : tB} {S : tSH} {MC MS : Nat} (hO : tKO K B RX12 cX12_row 4) (hR : kR K = tRm 4 MC MS) (hG : tGr S) {n : Nat} (t0 : ty S 61 12) {k : Int32 → tHI → tHJ → Prop} (hQ : tRet K B (tQi B (tPi S k)) 0 0 (some .int)) : ∀ (f : Nat) (I : tHI) (J : tHJ) (v1 : Int32) (v2 : Int32) (v3 : Int32), F12_row_L35 n S k f I J v1 v2 v3 → tWG K B 0 0 S I J 35 [some (vR 61), some (vI v1), some (vI v2), some (vI v3)] [] := by
  intro f
  induction f with
  | zero => intro I J v1 v2 v3 h; exact h.elim
  | succ f ih => intro I J v1 v2 v3 h; exact W12_row_35 hO hR hG t0 hQ ih h
set_option maxRecDepth 20000 in
theorem hc12_row : tCV yX12_row cX12_row 4 (some .int) 0 := ⟨⟨(List.mem_of_getElem? (i := 596) rfl), (List.mem_of_getElem? (i := 5) (by decide +kernel)), by decide +kernel⟩, (List.mem_of_getElem? (i := 594) (by decide +kernel)), (List.mem_of_getElem? (i := 595) (by decide +kernel))⟩
set_option maxRecDepth 100000 in
theorem M12_row {l : Launch} {B : tB} {S : tSH} {I : tHI} {J : tHJ} {n : Nat} {k : Int32 → tHI → tHJ → Prop} (t0 : ty S 61 12) (h : F12_row n S I J k) : Met l yX12_row (tWs yX12_row cX12_row 4 (some .int)) (tRm 4 0 0) (tPc B [vR 61] S I J) (tQi B (tPi S k)) 0 0 (tA B) :=
  tEntry (by decide +kernel) [some (vR 61), none, none, none] rfl rfl (Nat.le_of_ble_eq_true rfl) (fun K hl hR hO hQ hG => by
  subst hl
  refine gBk (pe := 16) hO [o0 (.aload_n 0), oI (.iconst 0) 0, oF (.putfield 161) 12 0 316 0, o0 (.aload_n 0), oF (.getfield 249) 12 13 568 0, o0 (.istore_n 1), o0 (.aload_n 0), oI (.iconst 0) 0, oF (.putfield 249) 12 13 568 0, o0 (.iload_n 1)] (by decide +kernel) (And.intro t0 (And.intro t0 (And.intro (Nat.le_of_ble_eq_true rfl) (And.intro t0 (show tWG K B 0 0 S (uI (uI I 61 0 0) 61 13 0) J 16 [some (vR 61), some (vI ((uI I 61 0 0) 61 13)), none, none] [vI ((uI I 61 0 0) 61 13)] from ?_)))))
  refine gIfNe hO (off := 10) (tgt := 26) (by decide +kernel) (by decide) (fun c1 => ?_) (fun c1 => ?_)
  · have h := h.1 c1
    refine gBk (pe := 35) hO [o0 (.aload_n 0), oI (.iconst 0) 0, oF (.putfield 252) 12 11 597 0, oI (.iconst 0) 0, o0 (.istore_n 2), oI (.iconst 0) 0, o0 (.istore_n 3)] (by decide +kernel) (And.intro t0 (And.intro (Nat.le_of_ble_eq_true rfl) (And.intro (Nat.le_of_ble_eq_true rfl) (show tWG K B 0 0 S (uI (uI (uI I 61 0 0) 61 13 0) 61 11 0) J 35 [some (vR 61), some (vI ((uI I 61 0 0) 61 13)), some (vI 0), some (vI 0)] [] from ?_))))
    exact W12_row_L35 hO hR hG t0 hQ n _ _ _ _ _ h
  · have h := h.2 c1
    refine gBk (pe := 22) hO [o0 (.aload_n 0), oI (.bipush (-6)) (-6)] (by decide +kernel) (show tWG K B 0 0 S (uI (uI I 61 0 0) 61 13 0) J 22 [some (vR 61), some (vI ((uI I 61 0 0) 61 13)), none, none] [vI (-6), vR 61] from ?_)
    refine gCVi_c hO (M12_tell t0 h) hc12_tell (idx := 170) (w := 322) (by decide +kernel) hR (by omega) t0 ⟨by decide, rfl⟩ (vs := [vI (-6)]) (st := []) ⟨rfl, Nat.le_of_ble_eq_true rfl, rfl⟩ (by decide +kernel) (fun x13 I11 J12 h => ?_)
    exact gIret hO hQ (by decide +kernel) ⟨rfl, h⟩)
set_option maxRecDepth 20000 in
theorem hc12_mud : tCV yX12_mud cX12_mud 1 (some .int) 0 := ⟨⟨(List.mem_of_getElem? (i := 605) rfl), (List.mem_of_getElem? (i := 5) (by decide +kernel)), by decide +kernel⟩, (List.mem_of_getElem? (i := 603) (by decide +kernel)), (List.mem_of_getElem? (i := 604) (by decide +kernel))⟩
set_option maxRecDepth 100000 in
theorem M12_mud {l : Launch} {B : tB} {S : tSH} {I : tHI} {J : tHJ} {n : Nat} {k : Int32 → tHI → tHJ → Prop} (t0 : ty S 61 12) (h : F12_mud n S I J k) : Met l yX12_mud (tWs yX12_mud cX12_mud 1 (some .int)) (tRm 2 0 0) (tPc B [vR 61] S I J) (tQi B (tPi S k)) 0 0 (tA B) :=
  tEntry (by decide +kernel) [some (vR 61)] rfl rfl (Nat.le_of_ble_eq_true rfl) (fun K hl hR hO hQ hG => by
  subst hl
  refine gBk (pe := 9) hO [o0 (.aload_n 0), oI (.iconst 0) 0, oF (.putfield 161) 12 0 316 0, o0 (.aload_n 0), oF (.getfield 252) 12 11 597 0] (by decide +kernel) (And.intro t0 (And.intro t0 (show tWG K B 0 0 S (uI I 61 0 0) J 9 [some (vR 61)] [vI ((uI I 61 0 0) 61 11)] from ?_)))
  exact gIret hO hQ (by decide +kernel) ⟨rfl, h⟩)
set_option maxRecDepth 100000 in
theorem W12_four_3 {K : tK} {B : tB} {S : tSH} {MC MS : Nat} (hO : tKO K B RX12 cX12_four 3) (hR : kR K = tRm 2 MC MS) (hG : tGr S) {n : Nat} (t0 : ty S 61 12) {k : tHI → tHJ → Prop} (hQ : tRet K B (tQv B (tPv S k)) 0 0 none) {kb3 : tHI → tHJ → Int32 → Int32 → Prop} (hkb3 : ∀ (I : tHI) (J : tHJ) (v1 : Int32) (v2 : Int32), kb3 I J v1 v2 → tWG K B 0 0 S I J 3 [some (vR 61), some (vI v1), some (vI v2)] []) {I : tHI} {J : tHJ} {v1 : Int32} {v2 : Int32} (h : F12_four_3 n S k kb3 I J v1 v2) : tWG K B 0 0 S I J 3 [some (vR 61), some (vI v1), some (vI v2)] [] := by
  refine gBk (pe := 4) hO [o0 (.iload_n 2)] (by decide +kernel) (show tWG K B 0 0 S I J 4 [some (vR 61), some (vI v1), some (vI v2)] [vI v2] from ?_)
  refine gIfLt hO (off := 35) (tgt := 39) (by decide +kernel) (by decide) (fun c1 => ?_) (fun c1 => ?_)
  · have h := h.1 c1
    exact gVret hO hQ (by decide +kernel) ⟨rfl, h⟩
  · have h := h.2 c1
    refine gBk (pe := 3) hO [o0 (.aload_n 0), oF (.getfield 35) 12 12 187 70, o0 (.aload_n 0), oF (.getfield 249) 12 13 568 0, o0 (.iload_n 1), o0 (.iload_n 2), o0 .ishr, oI (.sipush 255) 255, o0 .iand, o0 .iastore, o0 (.aload_n 0), o0 .dup, oF (.getfield 249) 12 13 568 0, oI (.iconst 1) 1, o0 .iadd, oF (.putfield 249) 12 13 568 0, oI (.iinc 2 (-8)) (-8), o0 (.goto (-33))] (by decide +kernel) (And.intro t0 (And.intro rfl (And.intro t0 (And.intro (tGr.off hG t0 (k := 12) rfl) (And.intro (tin (tGr.len hG t0 (k := 12) rfl (by decide)) h.1) (And.intro t0 (And.intro t0 (show tWG K B 0 0 S (uI (uI I 70 (I 61 13).toNatClampNeg ((v1 >>> (v2 &&& 31)) &&& 255)) 61 13 (((uI I 70 (I 61 13).toNatClampNeg ((v1 >>> (v2 &&& 31)) &&& 255)) 61 13) + 1)) J 3 [some (vR 61), some (vI v1), some (vI (v2 + (-8)))] [] from ?_))))))))
    have h := h.2
    exact hkb3 _ _ _ _ h
theorem W12_four_L3 {K : tK} {B : tB} {S : tSH} {MC MS : Nat} (hO : tKO K B RX12 cX12_four 3) (hR : kR K = tRm 2 MC MS) (hG : tGr S) {n : Nat} (t0 : ty S 61 12) {k : tHI → tHJ → Prop} (hQ : tRet K B (tQv B (tPv S k)) 0 0 none) : ∀ (f : Nat) (I : tHI) (J : tHJ) (v1 : Int32) (v2 : Int32), F12_four_L3 n S k f I J v1 v2 → tWG K B 0 0 S I J 3 [some (vR 61), some (vI v1), some (vI v2)] [] := by
  intro f
  induction f with
  | zero => intro I J v1 v2 h; exact h.elim
  | succ f ih => intro I J v1 v2 h; exact W12_four_3 hO hR hG t0 hQ ih h
set_option maxRecDepth 20000 in
theorem hc12_four : tCV yX12_four cX12_four 3 none 1 := ⟨⟨(List.mem_of_getElem? (i := 572) rfl), (List.mem_of_getElem? (i := 5) (by decide +kernel)), by decide +kernel⟩, (List.mem_of_getElem? (i := 570) (by decide +kernel)), (List.mem_of_getElem? (i := 571) (by decide +kernel))⟩
set_option maxRecDepth 100000 in
theorem M12_four {l : Launch} {B : tB} {S : tSH} {I : tHI} {J : tHJ} {v1 : Int32} {n : Nat} {k : tHI → tHJ → Prop} (t0 : ty S 61 12) (h : F12_four n S I J v1 k) : Met l yX12_four (tWs yX12_four cX12_four 3 none) (tRm 2 0 0) (tPc B [vR 61, vI v1] S I J) (tQv B (tPv S k)) 0 0 (tA B) :=
  tEntry (by decide +kernel) [some (vR 61), some (vI v1), none] rfl rfl (Nat.le_of_ble_eq_true rfl) (fun K hl hR hO hQ hG => by
  subst hl
  refine gBk (pe := 3) hO [oI (.bipush 24) 24, o0 (.istore_n 2)] (by decide +kernel) (And.intro (Nat.le_of_ble_eq_true rfl) (show tWG K B 0 0 S I J 3 [some (vR 61), some (vI v1), some (vI 24)] [] from ?_))
  exact W12_four_L3 hO hR hG t0 hQ n _ _ _ _ h)
set_option maxRecDepth 20000 in
theorem hc12_feed : tCV yX12_feed cX12_feed 6 (some .int) 5 := ⟨⟨(List.mem_of_getElem? (i := 567) rfl), (List.mem_of_getElem? (i := 5) (by decide +kernel)), by decide +kernel⟩, (List.mem_of_getElem? (i := 565) (by decide +kernel)), (List.mem_of_getElem? (i := 566) (by decide +kernel))⟩
set_option maxRecDepth 100000 in
theorem M12_feed {l : Launch} {B : tB} {S : tSH} {I : tHI} {J : tHJ} {v1 : Int32} {v2 : Int32} {v3 : Int32} {v4 : Int32} {v5 : Int32} {n : Nat} {k : Int32 → tHI → tHJ → Prop} (t0 : ty S 61 12) (h : F12_feed n S I J v1 v2 v3 v4 v5 k) : Met l yX12_feed (tWs yX12_feed cX12_feed 6 (some .int)) (tRm 3 0 0) (tPc B [vR 61, vI v1, vI v2, vI v3, vI v4, vI v5] S I J) (tQi B (tPi S k)) 0 0 (tA B) :=
  tEntry (by decide +kernel) [some (vR 61), some (vI v1), some (vI v2), some (vI v3), some (vI v4), some (vI v5)] rfl rfl (Nat.le_of_ble_eq_true rfl) (fun K hl hR hO hQ hG => by
  subst hl
  refine gBk (pe := 15) hO [o0 (.aload_n 0), oI (.iconst 0) 0, oF (.putfield 161) 12 0 316 0, o0 (.aload_n 0), oF (.getfield 249) 12 13 568 0, oI (.bipush 20) 20, o0 .iadd, oI (.sipush 400) 400] (by decide +kernel) (And.intro t0 (And.intro t0 (show tWG K B 0 0 S (uI I 61 0 0) J 15 [some (vR 61), some (vI v1), some (vI v2), some (vI v3), some (vI v4), some (vI v5)] [vI 400, vI (((uI I 61 0 0) 61 13) + 20)] from ?_)))
  refine gIcLe hO (off := 5) (tgt := 20) (by decide +kernel) (by decide) (fun c1 => ?_) (fun c1 => ?_)
  · have h := h.1 c1
    refine gBk (pe := 22) hO [o0 (.aload_n 0), o0 (.iload_n 1)] (by decide +kernel) (show tWG K B 0 0 S (uI I 61 0 0) J 22 [some (vR 61), some (vI v1), some (vI v2), some (vI v3), some (vI v4), some (vI v5)] [vI v1, vR 61] from ?_)
    refine gCVv_c hO (M12_four t0 h) hc12_four (idx := 255) (w := 569) (by decide +kernel) hR (by omega) t0 ⟨by decide, rfl⟩ (vs := [vI v1]) (st := []) ⟨rfl, Nat.le_of_ble_eq_true rfl, rfl⟩ (by decide +kernel) (fun I2 J3 h => ?_)
    refine gBk (pe := 27) hO [o0 (.aload_n 0), o0 (.iload_n 2)] (by decide +kernel) (show tWG K B 0 0 S I2 J3 27 [some (vR 61), some (vI v1), some (vI v2), some (vI v3), some (vI v4), some (vI v5)] [vI v2, vR 61] from ?_)
    refine gCVv_c hO (M12_four t0 h) hc12_four (idx := 255) (w := 569) (by decide +kernel) hR (by omega) t0 ⟨by decide, rfl⟩ (vs := [vI v2]) (st := []) ⟨rfl, Nat.le_of_ble_eq_true rfl, rfl⟩ (by decide +kernel) (fun I4 J5 h => ?_)
    refine gBk (pe := 32) hO [o0 (.aload_n 0), o0 (.iload_n 3)] (by decide +kernel) (show tWG K B 0 0 S I4 J5 32 [some (vR 61), some (vI v1), some (vI v2), some (vI v3), some (vI v4), some (vI v5)] [vI v3, vR 61] from ?_)
    refine gCVv_c hO (M12_four t0 h) hc12_four (idx := 255) (w := 569) (by decide +kernel) hR (by omega) t0 ⟨by decide, rfl⟩ (vs := [vI v3]) (st := []) ⟨rfl, Nat.le_of_ble_eq_true rfl, rfl⟩ (by decide +kernel) (fun I6 J7 h => ?_)
    refine gBk (pe := 38) hO [o0 (.aload_n 0), o0 (.iload 4)] (by decide +kernel) (show tWG K B 0 0 S I6 J7 38 [some (vR 61), some (vI v1), some (vI v2), some (vI v3), some (vI v4), some (vI v5)] [vI v4, vR 61] from ?_)
    refine gCVv_c hO (M12_four t0 h) hc12_four (idx := 255) (w := 569) (by decide +kernel) hR (by omega) t0 ⟨by decide, rfl⟩ (vs := [vI v4]) (st := []) ⟨rfl, Nat.le_of_ble_eq_true rfl, rfl⟩ (by decide +kernel) (fun I8 J9 h => ?_)
    refine gBk (pe := 44) hO [o0 (.aload_n 0), o0 (.iload 5)] (by decide +kernel) (show tWG K B 0 0 S I8 J9 44 [some (vR 61), some (vI v1), some (vI v2), some (vI v3), some (vI v4), some (vI v5)] [vI v5, vR 61] from ?_)
    refine gCVv_c hO (M12_four t0 h) hc12_four (idx := 255) (w := 569) (by decide +kernel) hR (by omega) t0 ⟨by decide, rfl⟩ (vs := [vI v5]) (st := []) ⟨rfl, Nat.le_of_ble_eq_true rfl, rfl⟩ (by decide +kernel) (fun I10 J11 h => ?_)
    refine gBk (pe := 51) hO [o0 (.aload_n 0), oF (.getfield 249) 12 13 568 0] (by decide +kernel) (And.intro t0 (show tWG K B 0 0 S I10 J11 51 [some (vR 61), some (vI v1), some (vI v2), some (vI v3), some (vI v4), some (vI v5)] [vI (I10 61 13)] from ?_))
    exact gIret hO hQ (by decide +kernel) ⟨rfl, h⟩
  · have h := h.2 c1
    refine gBk (pe := 19) hO [oI (.iconst (-1)) (-1)] (by decide +kernel) (show tWG K B 0 0 S (uI I 61 0 0) J 19 [some (vR 61), some (vI v1), some (vI v2), some (vI v3), some (vI v4), some (vI v5)] [vI (-1)] from ?_)
    exact gIret hO hQ (by decide +kernel) ⟨rfl, h⟩)
set_option maxRecDepth 100000 in
theorem W12_end_17 {K : tK} {B : tB} {S : tSH} {MC MS : Nat} (hO : tKO K B RX12 cX12_end 2) (hR : kR K = tRm 2 MC MS) (hG : tGr S) {n : Nat} (t0 : ty S 61 12) {k : Int32 → tHI → tHJ → Prop} (hQ : tRet K B (tQi B (tPi S k)) 0 0 (some .int)) {I : tHI} {J : tHJ} (h : F12_end_17 n S k I J) : tWG K B 0 0 S I J 17 [none, none] [] := by
  refine gBk (pe := 18) hO [oI (.iconst (-1)) (-1)] (by decide +kernel) (show tWG K B 0 0 S I J 18 [none, none] [vI (-1)] from ?_)
  exact gIret hO hQ (by decide +kernel) ⟨rfl, h⟩
set_option maxRecDepth 20000 in
theorem hc12_end : tCV yX12_end cX12_end 2 (some .int) 1 := ⟨⟨(List.mem_of_getElem? (i := 580) rfl), (List.mem_of_getElem? (i := 5) (by decide +kernel)), by decide +kernel⟩, (List.mem_of_getElem? (i := 578) (by decide +kernel)), (List.mem_of_getElem? (i := 579) (by decide +kernel))⟩
set_option maxRecDepth 100000 in
theorem M12_end {l : Launch} {B : tB} {S : tSH} {I : tHI} {J : tHJ} {v1 : Int32} {n : Nat} {k : Int32 → tHI → tHJ → Prop} (t0 : ty S 61 12) (h : F12_end n S I J v1 k) : Met l yX12_end (tWs yX12_end cX12_end 2 (some .int)) (tRm 2 0 0) (tPc B [vR 61, vI v1] S I J) (tQi B (tPi S k)) 0 0 (tA B) :=
  tEntry (by decide +kernel) [some (vR 61), some (vI v1)] rfl rfl (Nat.le_of_ble_eq_true rfl) (fun K hl hR hO hQ hG => by
  subst hl
  refine gBk (pe := 6) hO [o0 (.aload_n 0), oI (.iconst 0) 0, oF (.putfield 161) 12 0 316 0, o0 (.iload_n 1)] (by decide +kernel) (And.intro t0 (show tWG K B 0 0 S (uI I 61 0 0) J 6 [some (vR 61), some (vI v1)] [vI v1] from ?_))
  refine gIfLt hO (off := 11) (tgt := 17) (by decide +kernel) (by decide) (fun c1 => ?_) (fun c1 => ?_)
  · have h := h.1 c1
    exact gWeak (L' := [none, none]) trivial (W12_end_17 hO hR hG t0 hQ h)
  · have h := h.2 c1
    refine gBk (pe := 14) hO [o0 (.iload_n 1), o0 (.aload_n 0), oF (.getfield 249) 12 13 568 0] (by decide +kernel) (And.intro t0 (show tWG K B 0 0 S (uI I 61 0 0) J 14 [some (vR 61), some (vI v1)] [vI ((uI I 61 0 0) 61 13), vI v1] from ?_))
    refine gIcLe hO (off := 5) (tgt := 19) (by decide +kernel) (by decide) (fun c2 => ?_) (fun c2 => ?_)
    · have h := h.1 c2
      refine gBk (pe := 25) hO [o0 (.aload_n 0), o0 (.iload_n 1), oF (.putfield 249) 12 13 568 0, o0 (.iload_n 1)] (by decide +kernel) (And.intro t0 (show tWG K B 0 0 S (uI (uI I 61 0 0) 61 13 v1) J 25 [some (vR 61), some (vI v1)] [vI v1] from ?_))
      exact gIret hO hQ (by decide +kernel) ⟨rfl, h⟩
    · have h := h.2 c2
      exact gWeak (L' := [none, none]) trivial (W12_end_17 hO hR hG t0 hQ h))
set_option maxRecDepth 20000 in
theorem hc12_isSmall : tCm yX12_isSmall cX12_isSmall 1 (some .boolean) 1 ∧ Cond.static yX12_isSmall ∈ wsL_law := ⟨⟨(List.mem_of_getElem? (i := 792) rfl), (List.mem_of_getElem? (i := 5) (by decide +kernel)), by decide +kernel⟩, (List.mem_of_getElem? (i := 791) (by decide +kernel))⟩
set_option maxRecDepth 100000 in
theorem M12_isSmall {l : Launch} {B : tB} {S : tSH} {I : tHI} {J : tHJ} {v0 : Int32} : Met l yX12_isSmall (tWs yX12_isSmall cX12_isSmall 1 (some .boolean)) (tRm 2 0 0) (tPc B [vI v0] S I J) (tQi B (tPz S I J (V12_isSmall v0))) 0 0 (tA B) :=
  tEntry (by decide +kernel) [some (vI v0)] rfl rfl (Nat.le_of_ble_eq_true rfl) (fun K hl hR hO hQ hG => by
  subst hl
  refine gBk (pe := 3) hO [o0 (.iload_n 0), oI (.bipush 97) 97] (by decide +kernel) (show tWG K B 0 0 S I J 3 [some (vI v0)] [vI 97, vI v0] from ?_)
  refine gIcLt hO (off := 13) (tgt := 16) (by decide +kernel) (by decide) (fun c1 => ?_) (fun c1 => ?_)
  · refine gBk (pe := 17) hO [oI (.iconst 0) 0] (by decide +kernel) (show tWG K B 0 0 S I J 17 [some (vI v0)] [vI 0] from ?_)
    exact gZret hO hQ (by decide +kernel) (Or.inl rfl) ⟨(Eq.symm (if_pos c1)), (Or.inl rfl), rfl⟩
  · refine gBk (pe := 9) hO [o0 (.iload_n 0), oI (.bipush 122) 122] (by decide +kernel) (show tWG K B 0 0 S I J 9 [some (vI v0)] [vI 122, vI v0] from ?_)
    refine gIcGt hO (off := 7) (tgt := 16) (by decide +kernel) (by decide) (fun c2 => ?_) (fun c2 => ?_)
    · refine gBk (pe := 17) hO [oI (.iconst 0) 0] (by decide +kernel) (show tWG K B 0 0 S I J 17 [some (vI v0)] [vI 0] from ?_)
      exact gZret hO hQ (by decide +kernel) (Or.inl rfl) ⟨(Eq.symm ((if_neg c1).trans (if_pos c2))), (Or.inl rfl), rfl⟩
    · refine gBk (pe := 17) hO [oI (.iconst 1) 1, o0 (.goto 4)] (by decide +kernel) (show tWG K B 0 0 S I J 17 [some (vI v0)] [vI 1] from ?_)
      exact gZret hO hQ (by decide +kernel) (Or.inr rfl) ⟨(Eq.symm ((if_neg c1).trans (if_neg c2))), (Or.inr rfl), rfl⟩)
set_option maxRecDepth 20000 in
theorem hc12_isDigit : tCm yX12_isDigit cX12_isDigit 1 (some .boolean) 1 ∧ Cond.static yX12_isDigit ∈ wsL_law := ⟨⟨(List.mem_of_getElem? (i := 795) rfl), (List.mem_of_getElem? (i := 5) (by decide +kernel)), by decide +kernel⟩, (List.mem_of_getElem? (i := 794) (by decide +kernel))⟩
set_option maxRecDepth 100000 in
theorem M12_isDigit {l : Launch} {B : tB} {S : tSH} {I : tHI} {J : tHJ} {v0 : Int32} : Met l yX12_isDigit (tWs yX12_isDigit cX12_isDigit 1 (some .boolean)) (tRm 2 0 0) (tPc B [vI v0] S I J) (tQi B (tPz S I J (V12_isDigit v0))) 0 0 (tA B) :=
  tEntry (by decide +kernel) [some (vI v0)] rfl rfl (Nat.le_of_ble_eq_true rfl) (fun K hl hR hO hQ hG => by
  subst hl
  refine gBk (pe := 3) hO [o0 (.iload_n 0), oI (.bipush 48) 48] (by decide +kernel) (show tWG K B 0 0 S I J 3 [some (vI v0)] [vI 48, vI v0] from ?_)
  refine gIcLt hO (off := 13) (tgt := 16) (by decide +kernel) (by decide) (fun c1 => ?_) (fun c1 => ?_)
  · refine gBk (pe := 17) hO [oI (.iconst 0) 0] (by decide +kernel) (show tWG K B 0 0 S I J 17 [some (vI v0)] [vI 0] from ?_)
    exact gZret hO hQ (by decide +kernel) (Or.inl rfl) ⟨(Eq.symm (if_pos c1)), (Or.inl rfl), rfl⟩
  · refine gBk (pe := 9) hO [o0 (.iload_n 0), oI (.bipush 57) 57] (by decide +kernel) (show tWG K B 0 0 S I J 9 [some (vI v0)] [vI 57, vI v0] from ?_)
    refine gIcGt hO (off := 7) (tgt := 16) (by decide +kernel) (by decide) (fun c2 => ?_) (fun c2 => ?_)
    · refine gBk (pe := 17) hO [oI (.iconst 0) 0] (by decide +kernel) (show tWG K B 0 0 S I J 17 [some (vI v0)] [vI 0] from ?_)
      exact gZret hO hQ (by decide +kernel) (Or.inl rfl) ⟨(Eq.symm ((if_neg c1).trans (if_pos c2))), (Or.inl rfl), rfl⟩
    · refine gBk (pe := 17) hO [oI (.iconst 1) 1, o0 (.goto 4)] (by decide +kernel) (show tWG K B 0 0 S I J 17 [some (vI v0)] [vI 1] from ?_)
      exact gZret hO hQ (by decide +kernel) (Or.inr rfl) ⟨(Eq.symm ((if_neg c1).trans (if_neg c2))), (Or.inr rfl), rfl⟩)
set_option maxRecDepth 100000 in
theorem W12_next_335 {K : tK} {B : tB} {S : tSH} {MC MS : Nat} (hO : tKO K B RX12 cX12_next 1) (hR : kR K = tRm 3 MC MS) (hG : tGr S) {n : Nat} (t0 : ty S 61 12) {k : tHI → tHJ → Prop} (hQ : tRet K B (tQv B (tPv S k)) 0 0 none) {I : tHI} {J : tHJ} (h : F12_next_335 n S k I J) : tWG K B 0 0 S I J 335 [none] [] := by
  exact gVret hO hQ (by decide +kernel) ⟨rfl, h⟩
set_option maxRecDepth 100000 in
theorem W12_next_243 {K : tK} {B : tB} {S : tSH} {MC MS : Nat} (hO : tKO K B RX12 cX12_next 1) (hR : kR K = tRm 3 MC MS) (hG : tGr S) {n : Nat} (t0 : ty S 61 12) {k : tHI → tHJ → Prop} (hQ : tRet K B (tQv B (tPv S k)) 0 0 none) {kb243 : tHI → tHJ → Prop} (hkb243 : ∀ (I : tHI) (J : tHJ) , kb243 I J  → tWG K B 0 0 S I J 243 [some (vR 61)] []) {I : tHI} {J : tHJ} (h : F12_next_243 n S k kb243 I J) : tWG K B 0 0 S I J 243 [some (vR 61)] [] := by
  refine gBk (pe := 248) hO [o0 (.aload_n 0), oF (.getfield 281) 12 16 785 0, oI (.iconst 2) 2] (by decide +kernel) (And.intro t0 (show tWG K B 0 0 S I J 248 [some (vR 61)] [vI 2, vI (I 61 16)] from ?_))
  refine gIcNe hO (off := 87) (tgt := 335) (by decide +kernel) (by decide) (fun c13 => ?_) (fun c13 => ?_)
  · have h := h.1 c13
    exact gWeak (L' := [none]) trivial (W12_next_335 hO hR hG t0 hQ h)
  · have h := h.2 c13
    refine gBk (pe := 259) hO [o0 (.aload_n 0), oF (.getfield 258) 12 15 778 0, o0 (.aload_n 0), oF (.getfield 249) 12 13 568 0] (by decide +kernel) (And.intro t0 (And.intro t0 (show tWG K B 0 0 S I J 259 [some (vR 61)] [vI (I 61 13), vI (I 61 15)] from ?_)))
    refine gIcGe hO (off := 76) (tgt := 335) (by decide +kernel) (by decide) (fun c14 => ?_) (fun c14 => ?_)
    · have h := h.1 c14
      exact gWeak (L' := [none]) trivial (W12_next_335 hO hR hG t0 hQ h)
    · have h := h.2 c14
      refine gBk (pe := 271) hO [o0 (.aload_n 0), oF (.getfield 35) 12 12 187 70, o0 (.aload_n 0), oF (.getfield 258) 12 15 778 0, o0 .iaload] (by decide +kernel) (And.intro t0 (And.intro rfl (And.intro t0 (And.intro (tGr.off hG t0 (k := 12) rfl) (And.intro (tin (tGr.len hG t0 (k := 12) rfl (by decide)) h.1) (show tWG K B 0 0 S I J 271 [some (vR 61)] [vI (I 70 (I 61 15).toNatClampNeg)] from ?_))))))
      have h := h.2
      refine gCSi_z hO (M12_isDigit) hc12_isDigit (idx := 278) (w := 793) (by decide +kernel) hR (by omega) (vs := [vI (I 70 (I 61 15).toNatClampNeg)]) (st := []) ⟨rfl, Nat.le_of_ble_eq_true rfl, rfl⟩ (by decide +kernel) (fun z15 => ?_)
      refine gIfEq hO (off := 61) (tgt := 335) (by decide +kernel) (by decide) (fun c16 => ?_) (fun c16 => ?_)
      · have h := h.1 c16
        exact gWeak (L' := [none]) trivial (W12_next_335 hO hR hG t0 hQ h)
      · have h := h.2 c16
        refine gBk (pe := 282) hO [o0 (.aload_n 0), o0 (.aload_n 0), oF (.getfield 271) 12 17 784 0] (by decide +kernel) (And.intro t0 (show tWG K B 0 0 S I J 282 [some (vR 61)] [vL (J 61 17), vR 61] from ?_))
        refine gBk (pe := 286) hO [(.ldc2_w 290, (0, 0, 788, 0), 0, 1000000), o0 .lcmp] (by decide +kernel) (show tWG K B 0 0 S I J 286 [some (vR 61)] [vI (lg_cmp (J 61 17) 1000000), vR 61] from ?_)
        have hj17 : ∀ (m18 : Int64), m18 = (if (lg_cmp (J 61 17) 1000000) ≤ 0 then ((((J 61 17) * 10) + (I 70 (I 61 15).toNatClampNeg).toInt64) - 48) else (J 61 17)) → tWG K B 0 0 S I J 319 [some (vR 61)] [vL m18, vR 61] := by
          intro m18 em18
          subst em18
          have h := h.2
          refine gBk (pe := 243) hO [oF (.putfield 271) 12 17 784 0, o0 (.aload_n 0), o0 .dup, oF (.getfield 258) 12 15 778 0, oI (.iconst 1) 1, o0 .iadd, oF (.putfield 258) 12 15 778 0, o0 (.goto (-89))] (by decide +kernel) (And.intro t0 (And.intro t0 (And.intro t0 (show tWG K B 0 0 S (uI I 61 15 ((I 61 15) + 1)) (uJ J 61 17 (if (lg_cmp (J 61 17) 1000000) ≤ 0 then ((((J 61 17) * 10) + (I 70 (I 61 15).toNatClampNeg).toInt64) - 48) else (J 61 17))) 243 [some (vR 61)] [] from ?_))))
          exact hkb243 _ _ h
        have h := h.1
        refine gIfLe hO (off := 10) (tgt := 296) (by decide +kernel) (by decide) (fun c19 => ?_) (fun c19 => ?_)
        · have h := h.1 c19
          refine gBk (pe := 300) hO [o0 (.aload_n 0), oF (.getfield 271) 12 17 784 0] (by decide +kernel) (And.intro t0 (show tWG K B 0 0 S I J 300 [some (vR 61)] [vL (J 61 17), vR 61] from ?_))
          refine gBk (pe := 315) hO [(.ldc2_w 292, (0, 0, 512, 0), 0, 10), o0 .lmul, o0 (.aload_n 0), oF (.getfield 35) 12 12 187 70, o0 (.aload_n 0), oF (.getfield 258) 12 15 778 0, o0 .iaload, o0 .i2l, o0 .ladd] (by decide +kernel) (And.intro t0 (And.intro rfl (And.intro t0 (And.intro (tGr.off hG t0 (k := 12) rfl) (And.intro (tin (tGr.len hG t0 (k := 12) rfl (by decide)) h.1) (show tWG K B 0 0 S I J 315 [some (vR 61)] [vL (((J 61 17) * 10) + (I 70 (I 61 15).toNatClampNeg).toInt64), vR 61] from ?_))))))
          have h := h.2
          refine gBk (pe := 319) hO [(.ldc2_w 294, (0, 0, 789, 0), 0, 48), o0 .lsub] (by decide +kernel) (show tWG K B 0 0 S I J 319 [some (vR 61)] [vL ((((J 61 17) * 10) + (I 70 (I 61 15).toNatClampNeg).toInt64) - 48), vR 61] from ?_)
          exact (hj17 _ (Eq.symm (if_pos c19)))
        · have h := h.2 c19
          refine gBk (pe := 319) hO [o0 (.aload_n 0), oF (.getfield 271) 12 17 784 0, o0 (.goto 26)] (by decide +kernel) (And.intro t0 (show tWG K B 0 0 S I J 319 [some (vR 61)] [vL (J 61 17), vR 61] from ?_))
          exact (hj17 _ (Eq.symm (if_neg c19)))
theorem W12_next_L243 {K : tK} {B : tB} {S : tSH} {MC MS : Nat} (hO : tKO K B RX12 cX12_next 1) (hR : kR K = tRm 3 MC MS) (hG : tGr S) {n : Nat} (t0 : ty S 61 12) {k : tHI → tHJ → Prop} (hQ : tRet K B (tQv B (tPv S k)) 0 0 none) : ∀ (f : Nat) (I : tHI) (J : tHJ) , F12_next_L243 n S k f I J  → tWG K B 0 0 S I J 243 [some (vR 61)] [] := by
  intro f
  induction f with
  | zero => intro I J  h; exact h.elim
  | succ f ih => intro I J  h; exact W12_next_243 hO hR hG t0 hQ ih h
set_option maxRecDepth 100000 in
theorem W12_next_149 {K : tK} {B : tB} {S : tSH} {MC MS : Nat} (hO : tKO K B RX12 cX12_next 1) (hR : kR K = tRm 3 MC MS) (hG : tGr S) {n : Nat} (t0 : ty S 61 12) {k : tHI → tHJ → Prop} (hQ : tRet K B (tQv B (tPv S k)) 0 0 none) {kb149 : tHI → tHJ → Prop} (hkb149 : ∀ (I : tHI) (J : tHJ) , kb149 I J  → tWG K B 0 0 S I J 149 [some (vR 61)] []) {I : tHI} {J : tHJ} (h : F12_next_149 n S k kb149 I J) : tWG K B 0 0 S I J 149 [some (vR 61)] [] := by
  refine gBk (pe := 154) hO [o0 (.aload_n 0), oF (.getfield 281) 12 16 785 0, oI (.iconst 1) 1] (by decide +kernel) (And.intro t0 (show tWG K B 0 0 S I J 154 [some (vR 61)] [vI 1, vI (I 61 16)] from ?_))
  refine gIcNe hO (off := 89) (tgt := 243) (by decide +kernel) (by decide) (fun c12 => ?_) (fun c12 => ?_)
  · have h := h.1 c12
    exact W12_next_L243 hO hR hG t0 hQ n _ _ h
  · have h := h.2 c12
    refine gBk (pe := 165) hO [o0 (.aload_n 0), oF (.getfield 258) 12 15 778 0, o0 (.aload_n 0), oF (.getfield 249) 12 13 568 0] (by decide +kernel) (And.intro t0 (And.intro t0 (show tWG K B 0 0 S I J 165 [some (vR 61)] [vI (I 61 13), vI (I 61 15)] from ?_)))
    refine gIcGe hO (off := 78) (tgt := 243) (by decide +kernel) (by decide) (fun c20 => ?_) (fun c20 => ?_)
    · have h := h.1 c20
      exact W12_next_L243 hO hR hG t0 hQ n _ _ h
    · have h := h.2 c20
      refine gBk (pe := 177) hO [o0 (.aload_n 0), oF (.getfield 35) 12 12 187 70, o0 (.aload_n 0), oF (.getfield 258) 12 15 778 0, o0 .iaload] (by decide +kernel) (And.intro t0 (And.intro rfl (And.intro t0 (And.intro (tGr.off hG t0 (k := 12) rfl) (And.intro (tin (tGr.len hG t0 (k := 12) rfl (by decide)) h.1) (show tWG K B 0 0 S I J 177 [some (vR 61)] [vI (I 70 (I 61 15).toNatClampNeg)] from ?_))))))
      have h := h.2
      refine gCSi_z hO (M12_isSmall) hc12_isSmall (idx := 275) (w := 790) (by decide +kernel) hR (by omega) (vs := [vI (I 70 (I 61 15).toNatClampNeg)]) (st := []) ⟨rfl, Nat.le_of_ble_eq_true rfl, rfl⟩ (by decide +kernel) (fun z21 => ?_)
      refine gIfEq hO (off := 63) (tgt := 243) (by decide +kernel) (by decide) (fun c22 => ?_) (fun c22 => ?_)
      · have h := h.1 c22
        exact W12_next_L243 hO hR hG t0 hQ n _ _ h
      · have h := h.2 c22
        refine gBk (pe := 195) hO [o0 (.aload_n 0), o0 (.aload_n 0), oF (.getfield 258) 12 15 778 0, o0 (.aload_n 0), oF (.getfield 268) 12 14 783 0, o0 .isub, oI (.bipush 10) 10] (by decide +kernel) (And.intro t0 (And.intro t0 (show tWG K B 0 0 S I J 195 [some (vR 61)] [vI 10, vI ((I 61 15) - (I 61 14)), vR 61] from ?_)))
        have hj23 : ∀ (m24 : Int64), m24 = (if 10 ≤ ((I 61 15) - (I 61 14)) then (-1) else ((((J 61 17) * 32) + (I 70 (I 61 15).toNatClampNeg).toInt64) - 96)) → tWG K B 0 0 S I J 227 [some (vR 61)] [vL m24, vR 61] := by
          intro m24 em24
          subst em24
          have h := h.2
          refine gBk (pe := 149) hO [oF (.putfield 271) 12 17 784 0, o0 (.aload_n 0), o0 .dup, oF (.getfield 258) 12 15 778 0, oI (.iconst 1) 1, o0 .iadd, oF (.putfield 258) 12 15 778 0, o0 (.goto (-91))] (by decide +kernel) (And.intro t0 (And.intro t0 (And.intro t0 (show tWG K B 0 0 S (uI I 61 15 ((I 61 15) + 1)) (uJ J 61 17 (if 10 ≤ ((I 61 15) - (I 61 14)) then (-1) else ((((J 61 17) * 32) + (I 70 (I 61 15).toNatClampNeg).toInt64) - 96))) 149 [some (vR 61)] [] from ?_))))
          exact hkb149 _ _ h
        have h := h.1
        refine gIcGe hO (off := 29) (tgt := 224) (by decide +kernel) (by decide) (fun c25 => ?_) (fun c25 => ?_)
        · have h := h.1 c25
          refine gBk (pe := 227) hO [(.ldc2_w 288, (0, 0, 331, 0), 0, (-1))] (by decide +kernel) (show tWG K B 0 0 S I J 227 [some (vR 61)] [vL (-1), vR 61] from ?_)
          exact (hj23 _ (Eq.symm (if_pos c25)))
        · have h := h.2 c25
          refine gBk (pe := 202) hO [o0 (.aload_n 0), oF (.getfield 271) 12 17 784 0] (by decide +kernel) (And.intro t0 (show tWG K B 0 0 S I J 202 [some (vR 61)] [vL (J 61 17), vR 61] from ?_))
          refine gBk (pe := 217) hO [(.ldc2_w 284, (0, 0, 786, 0), 0, 32), o0 .lmul, o0 (.aload_n 0), oF (.getfield 35) 12 12 187 70, o0 (.aload_n 0), oF (.getfield 258) 12 15 778 0, o0 .iaload, o0 .i2l, o0 .ladd] (by decide +kernel) (And.intro t0 (And.intro rfl (And.intro t0 (And.intro (tGr.off hG t0 (k := 12) rfl) (And.intro (tin (tGr.len hG t0 (k := 12) rfl (by decide)) h.1) (show tWG K B 0 0 S I J 217 [some (vR 61)] [vL (((J 61 17) * 32) + (I 70 (I 61 15).toNatClampNeg).toInt64), vR 61] from ?_))))))
          have h := h.2
          refine gBk (pe := 227) hO [(.ldc2_w 286, (0, 0, 787, 0), 0, 96), o0 .lsub, o0 (.goto 6)] (by decide +kernel) (show tWG K B 0 0 S I J 227 [some (vR 61)] [vL ((((J 61 17) * 32) + (I 70 (I 61 15).toNatClampNeg).toInt64) - 96), vR 61] from ?_)
          exact (hj23 _ (Eq.symm (if_neg c25)))
theorem W12_next_L149 {K : tK} {B : tB} {S : tSH} {MC MS : Nat} (hO : tKO K B RX12 cX12_next 1) (hR : kR K = tRm 3 MC MS) (hG : tGr S) {n : Nat} (t0 : ty S 61 12) {k : tHI → tHJ → Prop} (hQ : tRet K B (tQv B (tPv S k)) 0 0 none) : ∀ (f : Nat) (I : tHI) (J : tHJ) , F12_next_L149 n S k f I J  → tWG K B 0 0 S I J 149 [some (vR 61)] [] := by
  intro f
  induction f with
  | zero => intro I J  h; exact h.elim
  | succ f ih => intro I J  h; exact W12_next_149 hO hR hG t0 hQ ih h
set_option maxRecDepth 100000 in
theorem W12_next_46 {K : tK} {B : tB} {S : tSH} {MC MS : Nat} (hO : tKO K B RX12 cX12_next 1) (hR : kR K = tRm 3 MC MS) (hG : tGr S) {n : Nat} (t0 : ty S 61 12) {k : tHI → tHJ → Prop} (hQ : tRet K B (tQv B (tPv S k)) 0 0 none) {I : tHI} {J : tHJ} (h : F12_next_46 n S k I J) : tWG K B 0 0 S I J 46 [some (vR 61)] [] := by
  refine gBk (pe := 68) hO [o0 (.aload_n 0), o0 (.aload_n 0), oF (.getfield 268) 12 14 783 0, oF (.putfield 258) 12 15 778 0, o0 (.aload_n 0), oJ (.lconst 0) 0 0, oF (.putfield 271) 12 17 784 0, o0 (.aload_n 0), o0 (.aload_n 0), oF (.getfield 268) 12 14 783 0, o0 (.aload_n 0), oF (.getfield 249) 12 13 568 0] (by decide +kernel) (And.intro t0 (And.intro t0 (And.intro t0 (And.intro t0 (And.intro t0 (show tWG K B 0 0 S (uI I 61 15 (I 61 14)) (uJ J 61 17 0) 68 [some (vR 61)] [vI ((uI I 61 15 (I 61 14)) 61 13), vI ((uI I 61 15 (I 61 14)) 61 14), vR 61] from ?_))))))
  have hj4 : ∀ (m5 : Int32), m5 = (if ((uI I 61 15 (I 61 14)) 61 14) = ((uI I 61 15 (I 61 14)) 61 13) then 0 else (if (V12_isSmall ((uI I 61 15 (I 61 14)) 70 ((uI I 61 15 (I 61 14)) 61 14).toNatClampNeg)) = 0 then (if (V12_isDigit ((uI I 61 15 (I 61 14)) 70 ((uI I 61 15 (I 61 14)) 61 14).toNatClampNeg)) = 0 then (3 : Int32) else 2) else 1)) → tWG K B 0 0 S (uI I 61 15 (I 61 14)) (uJ J 61 17 0) 114 [some (vR 61)] [vI m5, vR 61] := by
    intro m5 em5
    subst em5
    have h := h.2
    refine gBk (pe := 122) hO [oF (.putfield 281) 12 16 785 0, o0 (.aload_n 0), oF (.getfield 281) 12 16 785 0, oI (.iconst 3) 3] (by decide +kernel) (And.intro t0 (And.intro t0 (show tWG K B 0 0 S (uI (uI I 61 15 (I 61 14)) 61 16 (if ((uI I 61 15 (I 61 14)) 61 14) = ((uI I 61 15 (I 61 14)) 61 13) then 0 else (if (V12_isSmall ((uI I 61 15 (I 61 14)) 70 ((uI I 61 15 (I 61 14)) 61 14).toNatClampNeg)) = 0 then (if (V12_isDigit ((uI I 61 15 (I 61 14)) 70 ((uI I 61 15 (I 61 14)) 61 14).toNatClampNeg)) = 0 then (3 : Int32) else 2) else 1))) (uJ J 61 17 0) 122 [some (vR 61)] [vI 3, vI ((uI (uI I 61 15 (I 61 14)) 61 16 (if ((uI I 61 15 (I 61 14)) 61 14) = ((uI I 61 15 (I 61 14)) 61 13) then 0 else (if (V12_isSmall ((uI I 61 15 (I 61 14)) 70 ((uI I 61 15 (I 61 14)) 61 14).toNatClampNeg)) = 0 then (if (V12_isDigit ((uI I 61 15 (I 61 14)) 70 ((uI I 61 15 (I 61 14)) 61 14).toNatClampNeg)) = 0 then (3 : Int32) else 2) else 1))) 61 16)] from ?_)))
    refine gIcNe hO (off := 27) (tgt := 149) (by decide +kernel) (by decide) (fun c11 => ?_) (fun c11 => ?_)
    · have h := h.1 c11
      exact W12_next_L149 hO hR hG t0 hQ n _ _ h
    · have h := h.2 c11
      refine gBk (pe := 149) hO [o0 (.aload_n 0), o0 (.aload_n 0), oF (.getfield 35) 12 12 187 70, o0 (.aload_n 0), oF (.getfield 268) 12 14 783 0, o0 .iaload, o0 .i2l, oF (.putfield 271) 12 17 784 0, o0 (.aload_n 0), o0 .dup, oF (.getfield 258) 12 15 778 0, oI (.iconst 1) 1, o0 .iadd, oF (.putfield 258) 12 15 778 0] (by decide +kernel) (And.intro t0 (And.intro rfl (And.intro t0 (And.intro (tGr.off hG t0 (k := 12) rfl) (And.intro (tin (tGr.len hG t0 (k := 12) rfl (by decide)) h.1) (And.intro t0 (And.intro t0 (And.intro t0 (show tWG K B 0 0 S (uI (uI (uI I 61 15 (I 61 14)) 61 16 (if ((uI I 61 15 (I 61 14)) 61 14) = ((uI I 61 15 (I 61 14)) 61 13) then 0 else (if (V12_isSmall ((uI I 61 15 (I 61 14)) 70 ((uI I 61 15 (I 61 14)) 61 14).toNatClampNeg)) = 0 then (if (V12_isDigit ((uI I 61 15 (I 61 14)) 70 ((uI I 61 15 (I 61 14)) 61 14).toNatClampNeg)) = 0 then (3 : Int32) else 2) else 1))) 61 15 (((uI (uI I 61 15 (I 61 14)) 61 16 (if ((uI I 61 15 (I 61 14)) 61 14) = ((uI I 61 15 (I 61 14)) 61 13) then 0 else (if (V12_isSmall ((uI I 61 15 (I 61 14)) 70 ((uI I 61 15 (I 61 14)) 61 14).toNatClampNeg)) = 0 then (if (V12_isDigit ((uI I 61 15 (I 61 14)) 70 ((uI I 61 15 (I 61 14)) 61 14).toNatClampNeg)) = 0 then (3 : Int32) else 2) else 1))) 61 15) + 1)) (uJ (uJ J 61 17 0) 61 17 ((uI (uI I 61 15 (I 61 14)) 61 16 (if ((uI I 61 15 (I 61 14)) 61 14) = ((uI I 61 15 (I 61 14)) 61 13) then 0 else (if (V12_isSmall ((uI I 61 15 (I 61 14)) 70 ((uI I 61 15 (I 61 14)) 61 14).toNatClampNeg)) = 0 then (if (V12_isDigit ((uI I 61 15 (I 61 14)) 70 ((uI I 61 15 (I 61 14)) 61 14).toNatClampNeg)) = 0 then (3 : Int32) else 2) else 1))) 70 ((uI (uI I 61 15 (I 61 14)) 61 16 (if ((uI I 61 15 (I 61 14)) 61 14) = ((uI I 61 15 (I 61 14)) 61 13) then 0 else (if (V12_isSmall ((uI I 61 15 (I 61 14)) 70 ((uI I 61 15 (I 61 14)) 61 14).toNatClampNeg)) = 0 then (if (V12_isDigit ((uI I 61 15 (I 61 14)) 70 ((uI I 61 15 (I 61 14)) 61 14).toNatClampNeg)) = 0 then (3 : Int32) else 2) else 1))) 61 14).toNatClampNeg).toInt64) 149 [some (vR 61)] [] from ?_)))))))))
      have h := h.2
      exact W12_next_L149 hO hR hG t0 hQ n _ _ h
  have h := h.1
  refine gIcNe hO (off := 7) (tgt := 75) (by decide +kernel) (by decide) (fun c6 => ?_) (fun c6 => ?_)
  · have h := h.1 c6
    refine gBk (pe := 84) hO [o0 (.aload_n 0), oF (.getfield 35) 12 12 187 70, o0 (.aload_n 0), oF (.getfield 268) 12 14 783 0, o0 .iaload] (by decide +kernel) (And.intro t0 (And.intro rfl (And.intro t0 (And.intro (tGr.off hG t0 (k := 12) rfl) (And.intro (tin (tGr.len hG t0 (k := 12) rfl (by decide)) h.1) (show tWG K B 0 0 S (uI I 61 15 (I 61 14)) (uJ J 61 17 0) 84 [some (vR 61)] [vI ((uI I 61 15 (I 61 14)) 70 ((uI I 61 15 (I 61 14)) 61 14).toNatClampNeg), vR 61] from ?_))))))
    have h := h.2
    refine gCSi_z hO (M12_isSmall) hc12_isSmall (idx := 275) (w := 790) (by decide +kernel) hR (by omega) (vs := [vI ((uI I 61 15 (I 61 14)) 70 ((uI I 61 15 (I 61 14)) 61 14).toNatClampNeg)]) (st := [vR 61]) ⟨rfl, Nat.le_of_ble_eq_true rfl, rfl⟩ (by decide +kernel) (fun z7 => ?_)
    refine gIfEq hO (off := 7) (tgt := 94) (by decide +kernel) (by decide) (fun c8 => ?_) (fun c8 => ?_)
    · have h := h.1 c8
      refine gBk (pe := 103) hO [o0 (.aload_n 0), oF (.getfield 35) 12 12 187 70, o0 (.aload_n 0), oF (.getfield 268) 12 14 783 0, o0 .iaload] (by decide +kernel) (And.intro t0 (And.intro rfl (And.intro t0 (And.intro (tGr.off hG t0 (k := 12) rfl) (And.intro (tin (tGr.len hG t0 (k := 12) rfl (by decide)) h.1) (show tWG K B 0 0 S (uI I 61 15 (I 61 14)) (uJ J 61 17 0) 103 [some (vR 61)] [vI ((uI I 61 15 (I 61 14)) 70 ((uI I 61 15 (I 61 14)) 61 14).toNatClampNeg), vR 61] from ?_))))))
      have h := h.2
      refine gCSi_z hO (M12_isDigit) hc12_isDigit (idx := 278) (w := 793) (by decide +kernel) hR (by omega) (vs := [vI ((uI I 61 15 (I 61 14)) 70 ((uI I 61 15 (I 61 14)) 61 14).toNatClampNeg)]) (st := [vR 61]) ⟨rfl, Nat.le_of_ble_eq_true rfl, rfl⟩ (by decide +kernel) (fun z9 => ?_)
      refine gIfEq hO (off := 7) (tgt := 113) (by decide +kernel) (by decide) (fun c10 => ?_) (fun c10 => ?_)
      · have h := h.1 c10
        refine gBk (pe := 114) hO [oI (.iconst 3) 3] (by decide +kernel) (show tWG K B 0 0 S (uI I 61 15 (I 61 14)) (uJ J 61 17 0) 114 [some (vR 61)] [vI 3, vR 61] from ?_)
        exact (hj4 _ (Eq.symm ((if_neg c6).trans ((if_pos c8).trans (if_pos c10)))))
      · have h := h.2 c10
        refine gBk (pe := 114) hO [oI (.iconst 2) 2, o0 (.goto 4)] (by decide +kernel) (show tWG K B 0 0 S (uI I 61 15 (I 61 14)) (uJ J 61 17 0) 114 [some (vR 61)] [vI 2, vR 61] from ?_)
        exact (hj4 _ (Eq.symm ((if_neg c6).trans ((if_pos c8).trans (if_neg c10)))))
    · have h := h.2 c8
      refine gBk (pe := 114) hO [oI (.iconst 1) 1, o0 (.goto 23)] (by decide +kernel) (show tWG K B 0 0 S (uI I 61 15 (I 61 14)) (uJ J 61 17 0) 114 [some (vR 61)] [vI 1, vR 61] from ?_)
      exact (hj4 _ (Eq.symm ((if_neg c6).trans (if_neg c8))))
  · have h := h.2 c6
    refine gBk (pe := 114) hO [oI (.iconst 0) 0, o0 (.goto 42)] (by decide +kernel) (show tWG K B 0 0 S (uI I 61 15 (I 61 14)) (uJ J 61 17 0) 114 [some (vR 61)] [vI 0, vR 61] from ?_)
    exact (hj4 _ (Eq.symm (if_pos c6)))
set_option maxRecDepth 100000 in
theorem W12_next_8 {K : tK} {B : tB} {S : tSH} {MC MS : Nat} (hO : tKO K B RX12 cX12_next 1) (hR : kR K = tRm 3 MC MS) (hG : tGr S) {n : Nat} (t0 : ty S 61 12) {k : tHI → tHJ → Prop} (hQ : tRet K B (tQv B (tPv S k)) 0 0 none) {kb8 : tHI → tHJ → Prop} (hkb8 : ∀ (I : tHI) (J : tHJ) , kb8 I J  → tWG K B 0 0 S I J 8 [some (vR 61)] []) {I : tHI} {J : tHJ} (h : F12_next_8 n S k kb8 I J) : tWG K B 0 0 S I J 8 [some (vR 61)] [] := by
  refine gBk (pe := 16) hO [o0 (.aload_n 0), oF (.getfield 268) 12 14 783 0, o0 (.aload_n 0), oF (.getfield 249) 12 13 568 0] (by decide +kernel) (And.intro t0 (And.intro t0 (show tWG K B 0 0 S I J 16 [some (vR 61)] [vI (I 61 13), vI (I 61 14)] from ?_)))
  refine gIcGe hO (off := 30) (tgt := 46) (by decide +kernel) (by decide) (fun c1 => ?_) (fun c1 => ?_)
  · have h := h.1 c1
    exact W12_next_46 hO hR hG t0 hQ h
  · have h := h.2 c1
    refine gBk (pe := 30) hO [o0 (.aload_n 0), oF (.getfield 35) 12 12 187 70, o0 (.aload_n 0), oF (.getfield 268) 12 14 783 0, o0 .iaload, oI (.bipush 32) 32] (by decide +kernel) (And.intro t0 (And.intro rfl (And.intro t0 (And.intro (tGr.off hG t0 (k := 12) rfl) (And.intro (tin (tGr.len hG t0 (k := 12) rfl (by decide)) h.1) (show tWG K B 0 0 S I J 30 [some (vR 61)] [vI 32, vI (I 70 (I 61 14).toNatClampNeg)] from ?_))))))
    have h := h.2
    refine gIcNe hO (off := 16) (tgt := 46) (by decide +kernel) (by decide) (fun c26 => ?_) (fun c26 => ?_)
    · have h := h.1 c26
      exact W12_next_46 hO hR hG t0 hQ h
    · have h := h.2 c26
      refine gBk (pe := 8) hO [o0 (.aload_n 0), o0 .dup, oF (.getfield 268) 12 14 783 0, oI (.iconst 1) 1, o0 .iadd, oF (.putfield 268) 12 14 783 0, o0 (.goto (-35))] (by decide +kernel) (And.intro t0 (And.intro t0 (show tWG K B 0 0 S (uI I 61 14 ((I 61 14) + 1)) J 8 [some (vR 61)] [] from ?_)))
      exact hkb8 _ _ h
theorem W12_next_L8 {K : tK} {B : tB} {S : tSH} {MC MS : Nat} (hO : tKO K B RX12 cX12_next 1) (hR : kR K = tRm 3 MC MS) (hG : tGr S) {n : Nat} (t0 : ty S 61 12) {k : tHI → tHJ → Prop} (hQ : tRet K B (tQv B (tPv S k)) 0 0 none) : ∀ (f : Nat) (I : tHI) (J : tHJ) , F12_next_L8 n S k f I J  → tWG K B 0 0 S I J 8 [some (vR 61)] [] := by
  intro f
  induction f with
  | zero => intro I J  h; exact h.elim
  | succ f ih => intro I J  h; exact W12_next_8 hO hR hG t0 hQ ih h
set_option maxRecDepth 20000 in
theorem hc12_next : tCV yX12_next cX12_next 1 none 0 := ⟨⟨(List.mem_of_getElem? (i := 782) rfl), (List.mem_of_getElem? (i := 5) (by decide +kernel)), by decide +kernel⟩, (List.mem_of_getElem? (i := 780) (by decide +kernel)), (List.mem_of_getElem? (i := 781) (by decide +kernel))⟩
set_option maxRecDepth 100000 in
theorem M12_next {l : Launch} {B : tB} {S : tSH} {I : tHI} {J : tHJ} {n : Nat} {k : tHI → tHJ → Prop} (t0 : ty S 61 12) (h : F12_next n S I J k) : Met l yX12_next (tWs yX12_next cX12_next 1 none) (tRm 3 0 0) (tPc B [vR 61] S I J) (tQv B (tPv S k)) 0 0 (tA B) :=
  tEntry (by decide +kernel) [some (vR 61)] rfl rfl (Nat.le_of_ble_eq_true rfl) (fun K hl hR hO hQ hG => by
  subst hl
  refine gBk (pe := 8) hO [o0 (.aload_n 0), o0 (.aload_n 0), oF (.getfield 258) 12 15 778 0, oF (.putfield 268) 12 14 783 0] (by decide +kernel) (And.intro t0 (And.intro t0 (show tWG K B 0 0 S (uI I 61 14 (I 61 15)) J 8 [some (vR 61)] [] from ?_)))
  exact W12_next_L8 hO hR hG t0 hQ n _ _ h)
