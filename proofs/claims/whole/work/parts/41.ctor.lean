def NI0_init (I : tHI) (J : tHJ) : tHI := (uZI I 47)
def NJ0_init (I : tHI) (J : tHJ) : tHJ := (uZJ J 47)
def NI1_init (I : tHI) (J : tHJ) (a : Nat) : tHI := (uI (uZI I (a + 1)) a 1 0)
def NJ1_init (I : tHI) (J : tHJ) (a : Nat) : tHJ := (uZJ J (a + 1))
def NI3_init (I : tHI) (J : tHJ) (a : Nat) : tHI := (uZI (uZI (uZI (uZI (uI I a 0 0) (a + 1)) (a + 2)) (a + 3)) (a + 4))
def NJ3_init (I : tHI) (J : tHJ) (a : Nat) : tHJ := (uZJ (uZJ (uZJ (uZJ J (a + 1)) (a + 2)) (a + 3)) (a + 4))
def NI7_init (I : tHI) (J : tHJ) (a : Nat) : tHI := (uZI (uZI (uZI (uI (uZI (uZI (uZI (uZI (uI I a 0 0) (a + 1)) (a + 2)) (a + 3)) (a + 4)) a 5 0) (a + 5)) (a + 6)) (a + 7))
def NJ7_init (I : tHI) (J : tHJ) (a : Nat) : tHJ := (uZJ (uZJ (uZJ (uZJ (uZJ (uZJ (uZJ J (a + 1)) (a + 2)) (a + 3)) (a + 4)) (a + 5)) (a + 6)) (a + 7))
def NI10_init (I : tHI) (J : tHJ) (a : Nat) : tHI := (uI (uI (uI (uI (uI (uI (uI (uI (uI I a 0 0) a 1 0) a 2 0) a 3 0) a 4 0) a 5 0) a 6 10) a 7 20) a 8 0)
def NJ10_init (I : tHI) (J : tHJ) (a : Nat) : tHJ := J
def NI9_init (I : tHI) (J : tHJ) (a : Nat) : tHI := (uI (uZI I (a + 1)) a 1 0)
def NJ9_init (I : tHI) (J : tHJ) (a : Nat) : tHJ := (uZJ J (a + 1))
def NI5_init (I : tHI) (J : tHJ) : tHI := (uI (uZI (uZI (uZI (uZI (uZI (uZI I 52) 53) 54) 55) 56) 57) 51 8 0)
def NJ5_init (I : tHI) (J : tHJ) : tHJ := (uZJ (uZJ (uZJ (uZJ (uZJ (uZJ J 52) 53) 54) 55) 56) 57)
def NI8_init (I : tHI) (J : tHJ) (a : Nat) : tHI := (uI (uI (uZI (NI10_init (uZI (NI7_init (uZI (NI3_init (uZI I (a + 1)) (uZJ J (a + 1)) (a + 1)) (a + 6)) (uZJ (NJ3_init (uZI I (a + 1)) (uZJ J (a + 1)) (a + 1)) (a + 6)) (a + 6)) (a + 14)) (uZJ (NJ7_init (uZI (NI3_init (uZI I (a + 1)) (uZJ J (a + 1)) (a + 1)) (a + 6)) (uZJ (NJ3_init (uZI I (a + 1)) (uZJ J (a + 1)) (a + 1)) (a + 6)) (a + 6)) (a + 14)) (a + 14)) (a + 15)) a 4 0) a 5 (-1))
def NJ8_init (I : tHI) (J : tHJ) (a : Nat) : tHJ := (uZJ (NJ10_init (uZI (NI7_init (uZI (NI3_init (uZI I (a + 1)) (uZJ J (a + 1)) (a + 1)) (a + 6)) (uZJ (NJ3_init (uZI I (a + 1)) (uZJ J (a + 1)) (a + 1)) (a + 6)) (a + 6)) (a + 14)) (uZJ (NJ7_init (uZI (NI3_init (uZI I (a + 1)) (uZJ J (a + 1)) (a + 1)) (a + 6)) (uZJ (NJ3_init (uZI I (a + 1)) (uZJ J (a + 1)) (a + 1)) (a + 6)) (a + 6)) (a + 14)) (a + 14)) (a + 15))
set_option maxRecDepth 20000 in
theorem hc0_init : tCm yX0_init cX0_init 1 none 0 ∧ Cond.instanceMethod yX0_init ∈ wsL_law ∧ yX0_init.name = "<init>" := ⟨⟨(List.mem_of_getElem? (i := 145) rfl), (List.mem_of_getElem? (i := 33) (by decide +kernel)), by decide +kernel⟩, (List.mem_of_getElem? (i := 144) (by decide +kernel)), rfl⟩
set_option maxRecDepth 100000 in
theorem M0_init {l : Launch} {B : tB} {S : tSH} {I : tHI} {J : tHJ} (t0 : ty S 46 20) (hz : sZ S = 47) (hq0 : ∀ j, sQ S 46 j = none) : Met l yX0_init (tWs yX0_init cX0_init 1 none) (tRm 2 1 52) (tPc B [vR 46] S I J) (tQv B (tNp S 46 0 2 (NI0_init I J ) (NJ0_init I J ))) 1 52 (tA B) :=
  tEntryI (by decide +kernel) [some (vR 46)] rfl rfl (Nat.le_of_ble_eq_true rfl) (fun K hl hN hR hO hQ hG => by
  subst hl
  have hC : tCx S S (47) 46 0 [none] [] := tCx.in' (by decide) hG t0 hz hq0 tHas.nil
  refine gBk (pe := 1) hO [o0 (.aload_n 0)] (by decide +kernel) (show tWG K B 0 0 S I J 1 [some (vR 46)] [vR 46] from ?_)
  refine gObjInit hO (idx := 3) (w := 146) (by decide +kernel) hR (by omega) (Nat.le_of_ble_eq_true rfl) rfl (by decide +kernel) ?_
  refine gBk (pe := 7) hO [o0 (.aload_n 0), oI (.bipush 52) 52] (by decide +kernel) (show tWG K B 0 0 S I J 7 [some (vR 46)] [vI 52, vR 46] from ?_)
  refine gNewA (aty := .long) (g := 42) (w := 147) (N := 52) (x := 52) hO hC (Or.inr (Or.inr ⟨rfl, rfl⟩)) (by decide +kernel) (by decide +kernel) (by decide +kernel) (by decide) hR ⟨by omega, by omega⟩ (by decide +kernel) (fun S1 hC => ?_)
  replace hC : tCx S S1 (48) 46 0 [none] [(47, 42, some 52)] := hC
  refine gPutF hO hC (k := 0) (i := 148) (x := 11) hN (Nat.le_of_ble_eq_true rfl) (Nat.le_of_ble_eq_true rfl) (by decide +kernel) (by decide +kernel) (by decide +kernel) (by decide +kernel) (ft := tTy 0 0) (by decide +kernel) (by decide +kernel) (by decide +kernel) (fun S2 hC => ?_)
  replace hC : tCx S S2 (48) 46 0 [some (47)] [(47, 42, some 52)] := hC
  have hr : tRdy S2 46 0 := fun k hk => show tRdK S2 46 0 k from match k, hk with
    | 0, _ => rdy3 (by decide) (hC.q (k := 0) (Nat.le_of_ble_eq_true rfl) rfl) (hC.has (i := 0) rfl) (fun _ => hC.hasL (i := 0) rfl)
    | n + 1, h => absurd (show n + 1 < 1 from h) (by omega)
  refine gReady (m := 2) hC hr (fun S9 hg hn => ?_)
  exact gVret hO hQ (by decide +kernel) ⟨hg, hn, rfl, rfl⟩)
set_option maxRecDepth 20000 in
theorem hc1_init : tCm yX1_init cX1_init 1 none 0 ∧ Cond.instanceMethod yX1_init ∈ wsL_law ∧ yX1_init.name = "<init>" := ⟨⟨(List.mem_of_getElem? (i := 106) rfl), (List.mem_of_getElem? (i := 20) (by decide +kernel)), by decide +kernel⟩, (List.mem_of_getElem? (i := 105) (by decide +kernel)), rfl⟩
set_option maxRecDepth 100000 in
theorem M1_init {l : Launch} {B : tB} {S : tSH} {I : tHI} {J : tHJ} {a : Nat} (t0 : ty S a 21) (hz : sZ S = a + 1) (hq0 : ∀ j, sQ S a j = none) : Met l yX1_init (tWs yX1_init cX1_init 1 none) (tRm 2 1 144) (tPc B [vR a] S I J) (tQv B (tNp S a 1 2 (NI1_init I J a) (NJ1_init I J a))) 1 144 (tA B) :=
  tEntryI (by decide +kernel) [some (vR a)] rfl rfl (Nat.le_of_ble_eq_true rfl) (fun K hl hN hR hO hQ hG => by
  subst hl
  have hC : tCx S S (a + 1) a 1 [none, none] [] := tCx.in' (by decide) hG t0 hz hq0 tHas.nil
  refine gBk (pe := 1) hO [o0 (.aload_n 0)] (by decide +kernel) (show tWG K B 0 0 S I J 1 [some (vR a)] [vR a] from ?_)
  refine gObjInit hO (idx := 3) (w := 107) (by decide +kernel) hR (by omega) (Nat.le_of_ble_eq_true rfl) rfl (by decide +kernel) ?_
  refine gBk (pe := 8) hO [o0 (.aload_n 0), oI (.sipush 144) 144] (by decide +kernel) (show tWG K B 0 0 S I J 8 [some (vR a)] [vI 144, vR a] from ?_)
  refine gNewA (aty := .int) (g := 40) (w := 43) (N := 144) (x := 144) hO hC (Or.inl ⟨rfl, rfl⟩) (by decide +kernel) (by decide +kernel) (by decide +kernel) (by decide) hR ⟨by omega, by omega⟩ (by decide +kernel) (fun S1 hC => ?_)
  replace hC : tCx S S1 (a + 2) a 1 [none, none] [(a + 1, 40, some 144)] := hC
  refine gPutF hO hC (k := 0) (i := 108) (x := 11) hN (Nat.le_of_ble_eq_true rfl) (Nat.le_of_ble_eq_true rfl) (by decide +kernel) (by decide +kernel) (by decide +kernel) (by decide +kernel) (ft := tTy 1 0) (by decide +kernel) (by decide +kernel) (by decide +kernel) (fun S2 hC => ?_)
  replace hC : tCx S S2 (a + 2) a 1 [some (a + 1), none] [(a + 1, 40, some 144)] := hC
  refine gBk (pe := 18) hO [o0 (.aload_n 0), oI (.iconst 0) 0, oF (.putfield 15) 21 1 109 0] (by decide +kernel) (And.intro hC.raw (show tWG K B 1 144 S2 (uI (uZI I (a + 1)) a 1 0) (uZJ J (a + 1)) 18 [some (vR a)] [] from ?_))
  have hr : tRdy S2 a 1 := fun k hk => show tRdK S2 a 1 k from match k, hk with
    | 0, _ => rdy3 (by decide) (hC.q (k := 0) (Nat.le_of_ble_eq_true rfl) rfl) (hC.has (i := 0) rfl) (fun _ => hC.hasL (i := 0) rfl)
    | 1, _ => rdy0 (by decide)
    | n + 2, h => absurd (show n + 2 < 2 from h) (by omega)
  refine gReady (m := 2) hC hr (fun S9 hg hn => ?_)
  exact gVret hO hQ (by decide +kernel) ⟨hg, hn, rfl, rfl⟩)
set_option maxRecDepth 20000 in
theorem hc3_init : tCm yX3_init cX3_init 1 none 0 ∧ Cond.instanceMethod yX3_init ∈ wsL_law ∧ yX3_init.name = "<init>" := ⟨⟨(List.mem_of_getElem? (i := 74) rfl), (List.mem_of_getElem? (i := 61) (by decide +kernel)), by decide +kernel⟩, (List.mem_of_getElem? (i := 73) (by decide +kernel)), rfl⟩
set_option maxRecDepth 100000 in
theorem M3_init {l : Launch} {B : tB} {S : tSH} {I : tHI} {J : tHJ} {a : Nat} (t0 : ty S a 23) (hz : sZ S = a + 1) (hq0 : ∀ j, sQ S a j = none) : Met l yX3_init (tWs yX3_init cX3_init 1 none) (tRm 2 4 24) (tPc B [vR a] S I J) (tQv B (tNp S a 3 5 (NI3_init I J a) (NJ3_init I J a))) 4 24 (tA B) :=
  tEntryI (by decide +kernel) [some (vR a)] rfl rfl (Nat.le_of_ble_eq_true rfl) (fun K hl hN hR hO hQ hG => by
  subst hl
  have hC : tCx S S (a + 1) a 3 [none, none, none, none, none] [] := tCx.in' (by decide) hG t0 hz hq0 tHas.nil
  refine gBk (pe := 1) hO [o0 (.aload_n 0)] (by decide +kernel) (show tWG K B 0 0 S I J 1 [some (vR a)] [vR a] from ?_)
  refine gObjInit hO (idx := 3) (w := 75) (by decide +kernel) hR (by omega) (Nat.le_of_ble_eq_true rfl) rfl (by decide +kernel) ?_
  refine gBk (pe := 12) hO [o0 (.aload_n 0), oI (.iconst 0) 0, oF (.putfield 9) 23 0 76 0, o0 (.aload_n 0), oI (.bipush 6) 6] (by decide +kernel) (And.intro hC.raw (show tWG K B 0 0 S (uI I a 0 0) J 12 [some (vR a)] [vI 6, vR a] from ?_))
  refine gNewA (aty := .int) (g := 40) (w := 43) (N := 6) (x := 6) hO hC (Or.inl ⟨rfl, rfl⟩) (by decide +kernel) (by decide +kernel) (by decide +kernel) (by decide) hR ⟨by omega, by omega⟩ (by decide +kernel) (fun S1 hC => ?_)
  replace hC : tCx S S1 (a + 2) a 3 [none, none, none, none, none] [(a + 1, 40, some 6)] := hC
  refine gPutF hO hC (k := 1) (i := 77) (x := 15) hN (Nat.le_of_ble_eq_true rfl) (Nat.le_of_ble_eq_true rfl) (by decide +kernel) (by decide +kernel) (by decide +kernel) (by decide +kernel) (ft := tTy 3 1) (by decide +kernel) (by decide +kernel) (by decide +kernel) (fun S2 hC => ?_)
  replace hC : tCx S S2 (a + 2) a 3 [none, some (a + 1), none, none, none] [(a + 1, 40, some 6)] := hC
  refine gBk (pe := 20) hO [o0 (.aload_n 0), oI (.bipush 6) 6] (by decide +kernel) (show tWG K B 1 6 S2 (uZI (uI I a 0 0) (a + 1)) (uZJ J (a + 1)) 20 [some (vR a)] [vI 6, vR a] from ?_)
  refine gNewA (aty := .int) (g := 40) (w := 43) (N := 6) (x := 6) hO hC (Or.inl ⟨rfl, rfl⟩) (by decide +kernel) (by decide +kernel) (by decide +kernel) (by decide) hR ⟨by omega, by omega⟩ (by decide +kernel) (fun S3 hC => ?_)
  replace hC : tCx S S3 (a + 3) a 3 [none, some (a + 1), none, none, none] [(a + 2, 40, some 6), (a + 1, 40, some 6)] := hC
  refine gPutF hO hC (k := 2) (i := 78) (x := 19) hN (Nat.le_of_ble_eq_true rfl) (Nat.le_of_ble_eq_true rfl) (by decide +kernel) (by decide +kernel) (by decide +kernel) (by decide +kernel) (ft := tTy 3 2) (by decide +kernel) (by decide +kernel) (by decide +kernel) (fun S4 hC => ?_)
  replace hC : tCx S S4 (a + 3) a 3 [none, some (a + 1), some (a + 2), none, none] [(a + 2, 40, some 6), (a + 1, 40, some 6)] := hC
  refine gBk (pe := 28) hO [o0 (.aload_n 0), oI (.bipush 6) 6] (by decide +kernel) (show tWG K B 2 12 S4 (uZI (uZI (uI I a 0 0) (a + 1)) (a + 2)) (uZJ (uZJ J (a + 1)) (a + 2)) 28 [some (vR a)] [vI 6, vR a] from ?_)
  refine gNewA (aty := .int) (g := 40) (w := 43) (N := 6) (x := 6) hO hC (Or.inl ⟨rfl, rfl⟩) (by decide +kernel) (by decide +kernel) (by decide +kernel) (by decide) hR ⟨by omega, by omega⟩ (by decide +kernel) (fun S5 hC => ?_)
  replace hC : tCx S S5 (a + 4) a 3 [none, some (a + 1), some (a + 2), none, none] [(a + 3, 40, some 6), (a + 2, 40, some 6), (a + 1, 40, some 6)] := hC
  refine gPutF hO hC (k := 3) (i := 79) (x := 22) hN (Nat.le_of_ble_eq_true rfl) (Nat.le_of_ble_eq_true rfl) (by decide +kernel) (by decide +kernel) (by decide +kernel) (by decide +kernel) (ft := tTy 3 3) (by decide +kernel) (by decide +kernel) (by decide +kernel) (fun S6 hC => ?_)
  replace hC : tCx S S6 (a + 4) a 3 [none, some (a + 1), some (a + 2), some (a + 3), none] [(a + 3, 40, some 6), (a + 2, 40, some 6), (a + 1, 40, some 6)] := hC
  refine gBk (pe := 36) hO [o0 (.aload_n 0), oI (.bipush 6) 6] (by decide +kernel) (show tWG K B 3 18 S6 (uZI (uZI (uZI (uI I a 0 0) (a + 1)) (a + 2)) (a + 3)) (uZJ (uZJ (uZJ J (a + 1)) (a + 2)) (a + 3)) 36 [some (vR a)] [vI 6, vR a] from ?_)
  refine gNewA (aty := .int) (g := 40) (w := 43) (N := 6) (x := 6) hO hC (Or.inl ⟨rfl, rfl⟩) (by decide +kernel) (by decide +kernel) (by decide +kernel) (by decide) hR ⟨by omega, by omega⟩ (by decide +kernel) (fun S7 hC => ?_)
  replace hC : tCx S S7 (a + 5) a 3 [none, some (a + 1), some (a + 2), some (a + 3), none] [(a + 4, 40, some 6), (a + 3, 40, some 6), (a + 2, 40, some 6), (a + 1, 40, some 6)] := hC
  refine gPutF hO hC (k := 4) (i := 80) (x := 25) hN (Nat.le_of_ble_eq_true rfl) (Nat.le_of_ble_eq_true rfl) (by decide +kernel) (by decide +kernel) (by decide +kernel) (by decide +kernel) (ft := tTy 3 4) (by decide +kernel) (by decide +kernel) (by decide +kernel) (fun S8 hC => ?_)
  replace hC : tCx S S8 (a + 5) a 3 [none, some (a + 1), some (a + 2), some (a + 3), some (a + 4)] [(a + 4, 40, some 6), (a + 3, 40, some 6), (a + 2, 40, some 6), (a + 1, 40, some 6)] := hC
  have hr : tRdy S8 a 3 := fun k hk => show tRdK S8 a 3 k from match k, hk with
    | 0, _ => rdy0 (by decide)
    | 1, _ => rdy3 (by decide) (hC.q (k := 1) (Nat.le_of_ble_eq_true rfl) rfl) (hC.has (i := 3) rfl) (fun _ => hC.hasL (i := 3) rfl)
    | 2, _ => rdy3 (by decide) (hC.q (k := 2) (Nat.le_of_ble_eq_true rfl) rfl) (hC.has (i := 2) rfl) (fun _ => hC.hasL (i := 2) rfl)
    | 3, _ => rdy3 (by decide) (hC.q (k := 3) (Nat.le_of_ble_eq_true rfl) rfl) (hC.has (i := 1) rfl) (fun _ => hC.hasL (i := 1) rfl)
    | 4, _ => rdy3 (by decide) (hC.q (k := 4) (Nat.le_of_ble_eq_true rfl) rfl) (hC.has (i := 0) rfl) (fun _ => hC.hasL (i := 0) rfl)
    | n + 5, h => absurd (show n + 5 < 5 from h) (by omega)
  refine gReady (m := 5) hC hr (fun S9 hg hn => ?_)
  exact gVret hO hQ (by decide +kernel) ⟨hg, hn, rfl, rfl⟩)
set_option maxRecDepth 20000 in
theorem hc7_init : tCm yX7_init cX7_init 1 none 0 ∧ Cond.instanceMethod yX7_init ∈ wsL_law ∧ yX7_init.name = "<init>" := ⟨⟨(List.mem_of_getElem? (i := 82) rfl), (List.mem_of_getElem? (i := 65) (by decide +kernel)), by decide +kernel⟩, (List.mem_of_getElem? (i := 81) (by decide +kernel)), rfl⟩
set_option maxRecDepth 100000 in
theorem M7_init {l : Launch} {B : tB} {S : tSH} {I : tHI} {J : tHJ} {a : Nat} (t0 : ty S a 27) (hz : sZ S = a + 1) (hq0 : ∀ j, sQ S a j = none) : Met l yX7_init (tWs yX7_init cX7_init 1 none) (tRm 2 7 72) (tPc B [vR a] S I J) (tQv B (tNp S a 7 8 (NI7_init I J a) (NJ7_init I J a))) 7 72 (tA B) :=
  tEntryI (by decide +kernel) [some (vR a)] rfl rfl (Nat.le_of_ble_eq_true rfl) (fun K hl hN hR hO hQ hG => by
  subst hl
  have hC : tCx S S (a + 1) a 7 [none, none, none, none, none, none, none, none, none] [] := tCx.in' (by decide) hG t0 hz hq0 tHas.nil
  refine gBk (pe := 1) hO [o0 (.aload_n 0)] (by decide +kernel) (show tWG K B 0 0 S I J 1 [some (vR a)] [vR a] from ?_)
  refine gObjInit hO (idx := 3) (w := 83) (by decide +kernel) hR (by omega) (Nat.le_of_ble_eq_true rfl) rfl (by decide +kernel) ?_
  refine gBk (pe := 12) hO [o0 (.aload_n 0), oI (.iconst 0) 0, oF (.putfield 9) 27 0 84 0, o0 (.aload_n 0), oI (.bipush 12) 12] (by decide +kernel) (And.intro hC.raw (show tWG K B 0 0 S (uI I a 0 0) J 12 [some (vR a)] [vI 12, vR a] from ?_))
  refine gNewA (aty := .int) (g := 40) (w := 43) (N := 12) (x := 12) hO hC (Or.inl ⟨rfl, rfl⟩) (by decide +kernel) (by decide +kernel) (by decide +kernel) (by decide) hR ⟨by omega, by omega⟩ (by decide +kernel) (fun S1 hC => ?_)
  replace hC : tCx S S1 (a + 2) a 7 [none, none, none, none, none, none, none, none, none] [(a + 1, 40, some 12)] := hC
  refine gPutF hO hC (k := 1) (i := 85) (x := 15) hN (Nat.le_of_ble_eq_true rfl) (Nat.le_of_ble_eq_true rfl) (by decide +kernel) (by decide +kernel) (by decide +kernel) (by decide +kernel) (ft := tTy 7 1) (by decide +kernel) (by decide +kernel) (by decide +kernel) (fun S2 hC => ?_)
  replace hC : tCx S S2 (a + 2) a 7 [none, some (a + 1), none, none, none, none, none, none, none] [(a + 1, 40, some 12)] := hC
  refine gBk (pe := 20) hO [o0 (.aload_n 0), oI (.bipush 12) 12] (by decide +kernel) (show tWG K B 1 12 S2 (uZI (uI I a 0 0) (a + 1)) (uZJ J (a + 1)) 20 [some (vR a)] [vI 12, vR a] from ?_)
  refine gNewA (aty := .int) (g := 40) (w := 43) (N := 12) (x := 12) hO hC (Or.inl ⟨rfl, rfl⟩) (by decide +kernel) (by decide +kernel) (by decide +kernel) (by decide) hR ⟨by omega, by omega⟩ (by decide +kernel) (fun S3 hC => ?_)
  replace hC : tCx S S3 (a + 3) a 7 [none, some (a + 1), none, none, none, none, none, none, none] [(a + 2, 40, some 12), (a + 1, 40, some 12)] := hC
  refine gPutF hO hC (k := 2) (i := 86) (x := 19) hN (Nat.le_of_ble_eq_true rfl) (Nat.le_of_ble_eq_true rfl) (by decide +kernel) (by decide +kernel) (by decide +kernel) (by decide +kernel) (ft := tTy 7 2) (by decide +kernel) (by decide +kernel) (by decide +kernel) (fun S4 hC => ?_)
  replace hC : tCx S S4 (a + 3) a 7 [none, some (a + 1), some (a + 2), none, none, none, none, none, none] [(a + 2, 40, some 12), (a + 1, 40, some 12)] := hC
  refine gBk (pe := 28) hO [o0 (.aload_n 0), oI (.bipush 12) 12] (by decide +kernel) (show tWG K B 2 24 S4 (uZI (uZI (uI I a 0 0) (a + 1)) (a + 2)) (uZJ (uZJ J (a + 1)) (a + 2)) 28 [some (vR a)] [vI 12, vR a] from ?_)
  refine gNewA (aty := .int) (g := 40) (w := 43) (N := 12) (x := 12) hO hC (Or.inl ⟨rfl, rfl⟩) (by decide +kernel) (by decide +kernel) (by decide +kernel) (by decide) hR ⟨by omega, by omega⟩ (by decide +kernel) (fun S5 hC => ?_)
  replace hC : tCx S S5 (a + 4) a 7 [none, some (a + 1), some (a + 2), none, none, none, none, none, none] [(a + 3, 40, some 12), (a + 2, 40, some 12), (a + 1, 40, some 12)] := hC
  refine gPutF hO hC (k := 3) (i := 87) (x := 22) hN (Nat.le_of_ble_eq_true rfl) (Nat.le_of_ble_eq_true rfl) (by decide +kernel) (by decide +kernel) (by decide +kernel) (by decide +kernel) (ft := tTy 7 3) (by decide +kernel) (by decide +kernel) (by decide +kernel) (fun S6 hC => ?_)
  replace hC : tCx S S6 (a + 4) a 7 [none, some (a + 1), some (a + 2), some (a + 3), none, none, none, none, none] [(a + 3, 40, some 12), (a + 2, 40, some 12), (a + 1, 40, some 12)] := hC
  refine gBk (pe := 36) hO [o0 (.aload_n 0), oI (.bipush 12) 12] (by decide +kernel) (show tWG K B 3 36 S6 (uZI (uZI (uZI (uI I a 0 0) (a + 1)) (a + 2)) (a + 3)) (uZJ (uZJ (uZJ J (a + 1)) (a + 2)) (a + 3)) 36 [some (vR a)] [vI 12, vR a] from ?_)
  refine gNewA (aty := .int) (g := 40) (w := 43) (N := 12) (x := 12) hO hC (Or.inl ⟨rfl, rfl⟩) (by decide +kernel) (by decide +kernel) (by decide +kernel) (by decide) hR ⟨by omega, by omega⟩ (by decide +kernel) (fun S7 hC => ?_)
  replace hC : tCx S S7 (a + 5) a 7 [none, some (a + 1), some (a + 2), some (a + 3), none, none, none, none, none] [(a + 4, 40, some 12), (a + 3, 40, some 12), (a + 2, 40, some 12), (a + 1, 40, some 12)] := hC
  refine gPutF hO hC (k := 4) (i := 88) (x := 25) hN (Nat.le_of_ble_eq_true rfl) (Nat.le_of_ble_eq_true rfl) (by decide +kernel) (by decide +kernel) (by decide +kernel) (by decide +kernel) (ft := tTy 7 4) (by decide +kernel) (by decide +kernel) (by decide +kernel) (fun S8 hC => ?_)
  replace hC : tCx S S8 (a + 5) a 7 [none, some (a + 1), some (a + 2), some (a + 3), some (a + 4), none, none, none, none] [(a + 4, 40, some 12), (a + 3, 40, some 12), (a + 2, 40, some 12), (a + 1, 40, some 12)] := hC
  refine gBk (pe := 49) hO [o0 (.aload_n 0), oI (.iconst 0) 0, oF (.putfield 28) 27 5 89 0, o0 (.aload_n 0), oI (.bipush 8) 8] (by decide +kernel) (And.intro hC.raw (show tWG K B 4 48 S8 (uI (uZI (uZI (uZI (uZI (uI I a 0 0) (a + 1)) (a + 2)) (a + 3)) (a + 4)) a 5 0) (uZJ (uZJ (uZJ (uZJ J (a + 1)) (a + 2)) (a + 3)) (a + 4)) 49 [some (vR a)] [vI 8, vR a] from ?_))
  refine gNewA (aty := .int) (g := 40) (w := 43) (N := 8) (x := 8) hO hC (Or.inl ⟨rfl, rfl⟩) (by decide +kernel) (by decide +kernel) (by decide +kernel) (by decide) hR ⟨by omega, by omega⟩ (by decide +kernel) (fun S9 hC => ?_)
  replace hC : tCx S S9 (a + 6) a 7 [none, some (a + 1), some (a + 2), some (a + 3), some (a + 4), none, none, none, none] [(a + 5, 40, some 8), (a + 4, 40, some 12), (a + 3, 40, some 12), (a + 2, 40, some 12), (a + 1, 40, some 12)] := hC
  refine gPutF hO hC (k := 6) (i := 90) (x := 31) hN (Nat.le_of_ble_eq_true rfl) (Nat.le_of_ble_eq_true rfl) (by decide +kernel) (by decide +kernel) (by decide +kernel) (by decide +kernel) (ft := tTy 7 6) (by decide +kernel) (by decide +kernel) (by decide +kernel) (fun S10 hC => ?_)
  replace hC : tCx S S10 (a + 6) a 7 [none, some (a + 1), some (a + 2), some (a + 3), some (a + 4), none, some (a + 5), none, none] [(a + 5, 40, some 8), (a + 4, 40, some 12), (a + 3, 40, some 12), (a + 2, 40, some 12), (a + 1, 40, some 12)] := hC
  refine gBk (pe := 57) hO [o0 (.aload_n 0), oI (.bipush 8) 8] (by decide +kernel) (show tWG K B 5 56 S10 (uZI (uI (uZI (uZI (uZI (uZI (uI I a 0 0) (a + 1)) (a + 2)) (a + 3)) (a + 4)) a 5 0) (a + 5)) (uZJ (uZJ (uZJ (uZJ (uZJ J (a + 1)) (a + 2)) (a + 3)) (a + 4)) (a + 5)) 57 [some (vR a)] [vI 8, vR a] from ?_)
  refine gNewA (aty := .int) (g := 40) (w := 43) (N := 8) (x := 8) hO hC (Or.inl ⟨rfl, rfl⟩) (by decide +kernel) (by decide +kernel) (by decide +kernel) (by decide) hR ⟨by omega, by omega⟩ (by decide +kernel) (fun S11 hC => ?_)
  replace hC : tCx S S11 (a + 7) a 7 [none, some (a + 1), some (a + 2), some (a + 3), some (a + 4), none, some (a + 5), none, none] [(a + 6, 40, some 8), (a + 5, 40, some 8), (a + 4, 40, some 12), (a + 3, 40, some 12), (a + 2, 40, some 12), (a + 1, 40, some 12)] := hC
  refine gPutF hO hC (k := 7) (i := 91) (x := 34) hN (Nat.le_of_ble_eq_true rfl) (Nat.le_of_ble_eq_true rfl) (by decide +kernel) (by decide +kernel) (by decide +kernel) (by decide +kernel) (ft := tTy 7 7) (by decide +kernel) (by decide +kernel) (by decide +kernel) (fun S12 hC => ?_)
  replace hC : tCx S S12 (a + 7) a 7 [none, some (a + 1), some (a + 2), some (a + 3), some (a + 4), none, some (a + 5), some (a + 6), none] [(a + 6, 40, some 8), (a + 5, 40, some 8), (a + 4, 40, some 12), (a + 3, 40, some 12), (a + 2, 40, some 12), (a + 1, 40, some 12)] := hC
  refine gBk (pe := 65) hO [o0 (.aload_n 0), oI (.bipush 8) 8] (by decide +kernel) (show tWG K B 6 64 S12 (uZI (uZI (uI (uZI (uZI (uZI (uZI (uI I a 0 0) (a + 1)) (a + 2)) (a + 3)) (a + 4)) a 5 0) (a + 5)) (a + 6)) (uZJ (uZJ (uZJ (uZJ (uZJ (uZJ J (a + 1)) (a + 2)) (a + 3)) (a + 4)) (a + 5)) (a + 6)) 65 [some (vR a)] [vI 8, vR a] from ?_)
  refine gNewA (aty := .int) (g := 40) (w := 43) (N := 8) (x := 8) hO hC (Or.inl ⟨rfl, rfl⟩) (by decide +kernel) (by decide +kernel) (by decide +kernel) (by decide) hR ⟨by omega, by omega⟩ (by decide +kernel) (fun S13 hC => ?_)
  replace hC : tCx S S13 (a + 8) a 7 [none, some (a + 1), some (a + 2), some (a + 3), some (a + 4), none, some (a + 5), some (a + 6), none] [(a + 7, 40, some 8), (a + 6, 40, some 8), (a + 5, 40, some 8), (a + 4, 40, some 12), (a + 3, 40, some 12), (a + 2, 40, some 12), (a + 1, 40, some 12)] := hC
  refine gPutF hO hC (k := 8) (i := 92) (x := 37) hN (Nat.le_of_ble_eq_true rfl) (Nat.le_of_ble_eq_true rfl) (by decide +kernel) (by decide +kernel) (by decide +kernel) (by decide +kernel) (ft := tTy 7 8) (by decide +kernel) (by decide +kernel) (by decide +kernel) (fun S14 hC => ?_)
  replace hC : tCx S S14 (a + 8) a 7 [none, some (a + 1), some (a + 2), some (a + 3), some (a + 4), none, some (a + 5), some (a + 6), some (a + 7)] [(a + 7, 40, some 8), (a + 6, 40, some 8), (a + 5, 40, some 8), (a + 4, 40, some 12), (a + 3, 40, some 12), (a + 2, 40, some 12), (a + 1, 40, some 12)] := hC
  have hr : tRdy S14 a 7 := fun k hk => show tRdK S14 a 7 k from match k, hk with
    | 0, _ => rdy0 (by decide)
    | 1, _ => rdy3 (by decide) (hC.q (k := 1) (Nat.le_of_ble_eq_true rfl) rfl) (hC.has (i := 6) rfl) (fun _ => hC.hasL (i := 6) rfl)
    | 2, _ => rdy3 (by decide) (hC.q (k := 2) (Nat.le_of_ble_eq_true rfl) rfl) (hC.has (i := 5) rfl) (fun _ => hC.hasL (i := 5) rfl)
    | 3, _ => rdy3 (by decide) (hC.q (k := 3) (Nat.le_of_ble_eq_true rfl) rfl) (hC.has (i := 4) rfl) (fun _ => hC.hasL (i := 4) rfl)
    | 4, _ => rdy3 (by decide) (hC.q (k := 4) (Nat.le_of_ble_eq_true rfl) rfl) (hC.has (i := 3) rfl) (fun _ => hC.hasL (i := 3) rfl)
    | 5, _ => rdy0 (by decide)
    | 6, _ => rdy3 (by decide) (hC.q (k := 6) (Nat.le_of_ble_eq_true rfl) rfl) (hC.has (i := 2) rfl) (fun _ => hC.hasL (i := 2) rfl)
    | 7, _ => rdy3 (by decide) (hC.q (k := 7) (Nat.le_of_ble_eq_true rfl) rfl) (hC.has (i := 1) rfl) (fun _ => hC.hasL (i := 1) rfl)
    | 8, _ => rdy3 (by decide) (hC.q (k := 8) (Nat.le_of_ble_eq_true rfl) rfl) (hC.has (i := 0) rfl) (fun _ => hC.hasL (i := 0) rfl)
    | n + 9, h => absurd (show n + 9 < 9 from h) (by omega)
  refine gReady (m := 8) hC hr (fun S9 hg hn => ?_)
  exact gVret hO hQ (by decide +kernel) ⟨hg, hn, rfl, rfl⟩)
set_option maxRecDepth 20000 in
theorem hc10_init : tCm yX10_init cX10_init 1 none 0 ∧ Cond.instanceMethod yX10_init ∈ wsL_law ∧ yX10_init.name = "<init>" := ⟨⟨(List.mem_of_getElem? (i := 94) rfl), (List.mem_of_getElem? (i := 48) (by decide +kernel)), by decide +kernel⟩, (List.mem_of_getElem? (i := 93) (by decide +kernel)), rfl⟩
set_option maxRecDepth 100000 in
theorem M10_init {l : Launch} {B : tB} {S : tSH} {I : tHI} {J : tHJ} {a : Nat} (t0 : ty S a 30) (hz : sZ S = a + 1) (hq0 : ∀ j, sQ S a j = none) : Met l yX10_init (tWs yX10_init cX10_init 1 none) (tRm 2 0 0) (tPc B [vR a] S I J) (tQv B (tNp S a 10 1 (NI10_init I J a) (NJ10_init I J a))) 0 0 (tA B) :=
  tEntryI (by decide +kernel) [some (vR a)] rfl rfl (Nat.le_of_ble_eq_true rfl) (fun K hl hN hR hO hQ hG => by
  subst hl
  have hC : tCx S S (a + 1) a 10 [none, none, none, none, none, none, none, none, none] [] := tCx.in' (by decide) hG t0 hz hq0 tHas.nil
  refine gBk (pe := 1) hO [o0 (.aload_n 0)] (by decide +kernel) (show tWG K B 0 0 S I J 1 [some (vR a)] [vR a] from ?_)
  refine gObjInit hO (idx := 1) (w := 95) (by decide +kernel) hR (by omega) (Nat.le_of_ble_eq_true rfl) rfl (by decide +kernel) ?_
  refine gBk (pe := 51) hO [o0 (.aload_n 0), oI (.iconst 0) 0, oF (.putfield 7) 30 0 96 0, o0 (.aload_n 0), oI (.iconst 0) 0, oF (.putfield 13) 30 1 97 0, o0 (.aload_n 0), oI (.iconst 0) 0, oF (.putfield 16) 30 2 98 0, o0 (.aload_n 0), oI (.iconst 0) 0, oF (.putfield 19) 30 3 99 0, o0 (.aload_n 0), oI (.iconst 0) 0, oF (.putfield 22) 30 4 100 0, o0 (.aload_n 0), oI (.iconst 0) 0, oF (.putfield 25) 30 5 101 0, o0 (.aload_n 0), oI (.bipush 10) 10, oF (.putfield 28) 30 6 102 0, o0 (.aload_n 0), oI (.bipush 20) 20, oF (.putfield 31) 30 7 103 0, o0 (.aload_n 0), oI (.iconst 0) 0, oF (.putfield 34) 30 8 104 0] (by decide +kernel) (And.intro hC.raw (And.intro hC.raw (And.intro hC.raw (And.intro hC.raw (And.intro hC.raw (And.intro hC.raw (And.intro hC.raw (And.intro hC.raw (And.intro hC.raw (show tWG K B 0 0 S (uI (uI (uI (uI (uI (uI (uI (uI (uI I a 0 0) a 1 0) a 2 0) a 3 0) a 4 0) a 5 0) a 6 10) a 7 20) a 8 0) J 51 [some (vR a)] [] from ?_))))))))))
  have hr : tRdy S a 10 := fun k hk => show tRdK S a 10 k from match k, hk with
    | 0, _ => rdy0 (by decide)
    | 1, _ => rdy0 (by decide)
    | 2, _ => rdy0 (by decide)
    | 3, _ => rdy0 (by decide)
    | 4, _ => rdy0 (by decide)
    | 5, _ => rdy0 (by decide)
    | 6, _ => rdy0 (by decide)
    | 7, _ => rdy0 (by decide)
    | 8, _ => rdy0 (by decide)
    | n + 9, h => absurd (show n + 9 < 9 from h) (by omega)
  refine gReady (m := 1) hC hr (fun S9 hg hn => ?_)
  exact gVret hO hQ (by decide +kernel) ⟨hg, hn, rfl, rfl⟩)
set_option maxRecDepth 20000 in
theorem hc9_init : tCm yX9_init cX9_init 1 none 0 ∧ Cond.instanceMethod yX9_init ∈ wsL_law ∧ yX9_init.name = "<init>" := ⟨⟨(List.mem_of_getElem? (i := 111) rfl), (List.mem_of_getElem? (i := 25) (by decide +kernel)), by decide +kernel⟩, (List.mem_of_getElem? (i := 110) (by decide +kernel)), rfl⟩
set_option maxRecDepth 100000 in
theorem M9_init {l : Launch} {B : tB} {S : tSH} {I : tHI} {J : tHJ} {a : Nat} (t0 : ty S a 29) (hz : sZ S = a + 1) (hq0 : ∀ j, sQ S a j = none) : Met l yX9_init (tWs yX9_init cX9_init 1 none) (tRm 2 1 400) (tPc B [vR a] S I J) (tQv B (tNp S a 9 2 (NI9_init I J a) (NJ9_init I J a))) 1 400 (tA B) :=
  tEntryI (by decide +kernel) [some (vR a)] rfl rfl (Nat.le_of_ble_eq_true rfl) (fun K hl hN hR hO hQ hG => by
  subst hl
  have hC : tCx S S (a + 1) a 9 [none, none] [] := tCx.in' (by decide) hG t0 hz hq0 tHas.nil
  refine gBk (pe := 1) hO [o0 (.aload_n 0)] (by decide +kernel) (show tWG K B 0 0 S I J 1 [some (vR a)] [vR a] from ?_)
  refine gObjInit hO (idx := 3) (w := 112) (by decide +kernel) hR (by omega) (Nat.le_of_ble_eq_true rfl) rfl (by decide +kernel) ?_
  refine gBk (pe := 8) hO [o0 (.aload_n 0), oI (.sipush 400) 400] (by decide +kernel) (show tWG K B 0 0 S I J 8 [some (vR a)] [vI 400, vR a] from ?_)
  refine gNewA (aty := .int) (g := 40) (w := 43) (N := 400) (x := 400) hO hC (Or.inl ⟨rfl, rfl⟩) (by decide +kernel) (by decide +kernel) (by decide +kernel) (by decide) hR ⟨by omega, by omega⟩ (by decide +kernel) (fun S1 hC => ?_)
  replace hC : tCx S S1 (a + 2) a 9 [none, none] [(a + 1, 40, some 400)] := hC
  refine gPutF hO hC (k := 0) (i := 113) (x := 9) hN (Nat.le_of_ble_eq_true rfl) (Nat.le_of_ble_eq_true rfl) (by decide +kernel) (by decide +kernel) (by decide +kernel) (by decide +kernel) (ft := tTy 9 0) (by decide +kernel) (by decide +kernel) (by decide +kernel) (fun S2 hC => ?_)
  replace hC : tCx S S2 (a + 2) a 9 [some (a + 1), none] [(a + 1, 40, some 400)] := hC
  refine gBk (pe := 18) hO [o0 (.aload_n 0), oI (.iconst 0) 0, oF (.putfield 15) 29 1 114 0] (by decide +kernel) (And.intro hC.raw (show tWG K B 1 400 S2 (uI (uZI I (a + 1)) a 1 0) (uZJ J (a + 1)) 18 [some (vR a)] [] from ?_))
  have hr : tRdy S2 a 9 := fun k hk => show tRdK S2 a 9 k from match k, hk with
    | 0, _ => rdy3 (by decide) (hC.q (k := 0) (Nat.le_of_ble_eq_true rfl) rfl) (hC.has (i := 0) rfl) (fun _ => hC.hasL (i := 0) rfl)
    | 1, _ => rdy0 (by decide)
    | n + 2, h => absurd (show n + 2 < 2 from h) (by omega)
  refine gReady (m := 2) hC hr (fun S9 hg hn => ?_)
  exact gVret hO hQ (by decide +kernel) ⟨hg, hn, rfl, rfl⟩)
set_option maxRecDepth 20000 in
theorem hc5_init : tCm yX5_init cX5_init 3 none 2 ∧ Cond.instanceMethod yX5_init ∈ wsL_law ∧ yX5_init.name = "<init>" := ⟨⟨(List.mem_of_getElem? (i := 163) rfl), (List.mem_of_getElem? (i := 41) (by decide +kernel)), by decide +kernel⟩, (List.mem_of_getElem? (i := 162) (by decide +kernel)), rfl⟩
set_option maxRecDepth 100000 in
theorem M5_init {l : Launch} {B : tB} {S : tSH} {I : tHI} {J : tHJ} (t0 : ty S 51 25) (hz : sZ S = 52) (hq0 : ∀ j, sQ S 51 j = none) (t1 : ty S 1 8) (t2 : ty S 48 2) : Met l yX5_init (tWs yX5_init cX5_init 3 none) (tRm 2 6 5657) (tPc B [vR 51, vR 1, vR 48] S I J) (tQv B (tNp S 51 5 7 (NI5_init I J ) (NJ5_init I J ))) 6 5657 (tA B) :=
  tEntryI (by decide +kernel) [some (vR 51), some (vR 1), some (vR 48)] rfl rfl (Nat.le_of_ble_eq_true rfl) (fun K hl hN hR hO hQ hG => by
  subst hl
  have hC : tCx S S (52) 51 5 [none, none, none, none, none, none, none, none, none] [(1, 8, none), (48, 2, none)] := tCx.in' (by decide) hG t0 hz hq0 (tHas.cons (Or.inl (by decide)) t1 (fun _ e => by cases e) (tHas.cons (Or.inl (by decide)) t2 (fun _ e => by cases e) tHas.nil))
  refine gBk (pe := 1) hO [o0 (.aload_n 0)] (by decide +kernel) (show tWG K B 0 0 S I J 1 [some (vR 51), some (vR 1), some (vR 48)] [vR 51] from ?_)
  refine gObjInit hO (idx := 3) (w := 164) (by decide +kernel) hR (by omega) (Nat.le_of_ble_eq_true rfl) rfl (by decide +kernel) ?_
  refine gBk (pe := 7) hO [o0 (.aload_n 0), oI (.bipush 12) 12] (by decide +kernel) (show tWG K B 0 0 S I J 7 [some (vR 51), some (vR 1), some (vR 48)] [vI 12, vR 51] from ?_)
  refine gNewA (aty := .int) (g := 40) (w := 43) (N := 12) (x := 12) hO hC (Or.inl ⟨rfl, rfl⟩) (by decide +kernel) (by decide +kernel) (by decide +kernel) (by decide) hR ⟨by omega, by omega⟩ (by decide +kernel) (fun S1 hC => ?_)
  replace hC : tCx S S1 (53) 51 5 [none, none, none, none, none, none, none, none, none] [(52, 40, some 12), (1, 8, none), (48, 2, none)] := hC
  refine gPutF hO hC (k := 2) (i := 165) (x := 9) hN (Nat.le_of_ble_eq_true rfl) (Nat.le_of_ble_eq_true rfl) (by decide +kernel) (by decide +kernel) (by decide +kernel) (by decide +kernel) (ft := tTy 5 2) (by decide +kernel) (by decide +kernel) (by decide +kernel) (fun S2 hC => ?_)
  replace hC : tCx S S2 (53) 51 5 [none, none, some (52), none, none, none, none, none, none] [(52, 40, some 12), (1, 8, none), (48, 2, none)] := hC
  refine gBk (pe := 16) hO [o0 (.aload_n 0), oI (.sipush 793) 793] (by decide +kernel) (show tWG K B 1 12 S2 (uZI I 52) (uZJ J 52) 16 [some (vR 51), some (vR 1), some (vR 48)] [vI 793, vR 51] from ?_)
  refine gNewA (aty := .int) (g := 40) (w := 43) (N := 793) (x := 793) hO hC (Or.inl ⟨rfl, rfl⟩) (by decide +kernel) (by decide +kernel) (by decide +kernel) (by decide) hR ⟨by omega, by omega⟩ (by decide +kernel) (fun S3 hC => ?_)
  replace hC : tCx S S3 (54) 51 5 [none, none, some (52), none, none, none, none, none, none] [(53, 40, some 793), (52, 40, some 12), (1, 8, none), (48, 2, none)] := hC
  refine gPutF hO hC (k := 3) (i := 166) (x := 15) hN (Nat.le_of_ble_eq_true rfl) (Nat.le_of_ble_eq_true rfl) (by decide +kernel) (by decide +kernel) (by decide +kernel) (by decide +kernel) (ft := tTy 5 3) (by decide +kernel) (by decide +kernel) (by decide +kernel) (fun S4 hC => ?_)
  replace hC : tCx S S4 (54) 51 5 [none, none, some (52), some (53), none, none, none, none, none] [(53, 40, some 793), (52, 40, some 12), (1, 8, none), (48, 2, none)] := hC
  refine gBk (pe := 24) hO [o0 (.aload_n 0), oI (.bipush 39) 39] (by decide +kernel) (show tWG K B 2 805 S4 (uZI (uZI I 52) 53) (uZJ (uZJ J 52) 53) 24 [some (vR 51), some (vR 1), some (vR 48)] [vI 39, vR 51] from ?_)
  refine gNewA (aty := .int) (g := 40) (w := 43) (N := 39) (x := 39) hO hC (Or.inl ⟨rfl, rfl⟩) (by decide +kernel) (by decide +kernel) (by decide +kernel) (by decide) hR ⟨by omega, by omega⟩ (by decide +kernel) (fun S5 hC => ?_)
  replace hC : tCx S S5 (55) 51 5 [none, none, some (52), some (53), none, none, none, none, none] [(54, 40, some 39), (53, 40, some 793), (52, 40, some 12), (1, 8, none), (48, 2, none)] := hC
  refine gPutF hO hC (k := 4) (i := 167) (x := 18) hN (Nat.le_of_ble_eq_true rfl) (Nat.le_of_ble_eq_true rfl) (by decide +kernel) (by decide +kernel) (by decide +kernel) (by decide +kernel) (ft := tTy 5 4) (by decide +kernel) (by decide +kernel) (by decide +kernel) (fun S6 hC => ?_)
  replace hC : tCx S S6 (55) 51 5 [none, none, some (52), some (53), some (54), none, none, none, none] [(54, 40, some 39), (53, 40, some 793), (52, 40, some 12), (1, 8, none), (48, 2, none)] := hC
  refine gBk (pe := 33) hO [o0 (.aload_n 0), oI (.sipush 4801) 4801] (by decide +kernel) (show tWG K B 3 844 S6 (uZI (uZI (uZI I 52) 53) 54) (uZJ (uZJ (uZJ J 52) 53) 54) 33 [some (vR 51), some (vR 1), some (vR 48)] [vI 4801, vR 51] from ?_)
  refine gNewA (aty := .int) (g := 40) (w := 43) (N := 4801) (x := 4801) hO hC (Or.inl ⟨rfl, rfl⟩) (by decide +kernel) (by decide +kernel) (by decide +kernel) (by decide) hR ⟨by omega, by omega⟩ (by decide +kernel) (fun S7 hC => ?_)
  replace hC : tCx S S7 (56) 51 5 [none, none, some (52), some (53), some (54), none, none, none, none] [(55, 40, some 4801), (54, 40, some 39), (53, 40, some 793), (52, 40, some 12), (1, 8, none), (48, 2, none)] := hC
  refine gPutF hO hC (k := 5) (i := 168) (x := 21) hN (Nat.le_of_ble_eq_true rfl) (Nat.le_of_ble_eq_true rfl) (by decide +kernel) (by decide +kernel) (by decide +kernel) (by decide +kernel) (ft := tTy 5 5) (by decide +kernel) (by decide +kernel) (by decide +kernel) (fun S8 hC => ?_)
  replace hC : tCx S S8 (56) 51 5 [none, none, some (52), some (53), some (54), some (55), none, none, none] [(55, 40, some 4801), (54, 40, some 39), (53, 40, some 793), (52, 40, some 12), (1, 8, none), (48, 2, none)] := hC
  refine gBk (pe := 41) hO [o0 (.aload_n 0), oI (.bipush 6) 6] (by decide +kernel) (show tWG K B 4 5645 S8 (uZI (uZI (uZI (uZI I 52) 53) 54) 55) (uZJ (uZJ (uZJ (uZJ J 52) 53) 54) 55) 41 [some (vR 51), some (vR 1), some (vR 48)] [vI 6, vR 51] from ?_)
  refine gNewA (aty := .int) (g := 40) (w := 43) (N := 6) (x := 6) hO hC (Or.inl ⟨rfl, rfl⟩) (by decide +kernel) (by decide +kernel) (by decide +kernel) (by decide) hR ⟨by omega, by omega⟩ (by decide +kernel) (fun S9 hC => ?_)
  replace hC : tCx S S9 (57) 51 5 [none, none, some (52), some (53), some (54), some (55), none, none, none] [(56, 40, some 6), (55, 40, some 4801), (54, 40, some 39), (53, 40, some 793), (52, 40, some 12), (1, 8, none), (48, 2, none)] := hC
  refine gPutF hO hC (k := 6) (i := 169) (x := 24) hN (Nat.le_of_ble_eq_true rfl) (Nat.le_of_ble_eq_true rfl) (by decide +kernel) (by decide +kernel) (by decide +kernel) (by decide +kernel) (ft := tTy 5 6) (by decide +kernel) (by decide +kernel) (by decide +kernel) (fun S10 hC => ?_)
  replace hC : tCx S S10 (57) 51 5 [none, none, some (52), some (53), some (54), some (55), some (56), none, none] [(56, 40, some 6), (55, 40, some 4801), (54, 40, some 39), (53, 40, some 793), (52, 40, some 12), (1, 8, none), (48, 2, none)] := hC
  refine gBk (pe := 49) hO [o0 (.aload_n 0), oI (.bipush 6) 6] (by decide +kernel) (show tWG K B 5 5651 S10 (uZI (uZI (uZI (uZI (uZI I 52) 53) 54) 55) 56) (uZJ (uZJ (uZJ (uZJ (uZJ J 52) 53) 54) 55) 56) 49 [some (vR 51), some (vR 1), some (vR 48)] [vI 6, vR 51] from ?_)
  refine gNewA (aty := .int) (g := 40) (w := 43) (N := 6) (x := 6) hO hC (Or.inl ⟨rfl, rfl⟩) (by decide +kernel) (by decide +kernel) (by decide +kernel) (by decide) hR ⟨by omega, by omega⟩ (by decide +kernel) (fun S11 hC => ?_)
  replace hC : tCx S S11 (58) 51 5 [none, none, some (52), some (53), some (54), some (55), some (56), none, none] [(57, 40, some 6), (56, 40, some 6), (55, 40, some 4801), (54, 40, some 39), (53, 40, some 793), (52, 40, some 12), (1, 8, none), (48, 2, none)] := hC
  refine gPutF hO hC (k := 7) (i := 170) (x := 27) hN (Nat.le_of_ble_eq_true rfl) (Nat.le_of_ble_eq_true rfl) (by decide +kernel) (by decide +kernel) (by decide +kernel) (by decide +kernel) (ft := tTy 5 7) (by decide +kernel) (by decide +kernel) (by decide +kernel) (fun S12 hC => ?_)
  replace hC : tCx S S12 (58) 51 5 [none, none, some (52), some (53), some (54), some (55), some (56), some (57), none] [(57, 40, some 6), (56, 40, some 6), (55, 40, some 4801), (54, 40, some 39), (53, 40, some 793), (52, 40, some 12), (1, 8, none), (48, 2, none)] := hC
  refine gBk (pe := 61) hO [o0 (.aload_n 0), oI (.iconst 0) 0, oF (.putfield 30) 25 8 171 0, o0 (.aload_n 0), o0 (.aload_n 1)] (by decide +kernel) (And.intro hC.raw (show tWG K B 6 5657 S12 (uI (uZI (uZI (uZI (uZI (uZI (uZI I 52) 53) 54) 55) 56) 57) 51 8 0) (uZJ (uZJ (uZJ (uZJ (uZJ (uZJ J 52) 53) 54) 55) 56) 57) 61 [some (vR 51), some (vR 1), some (vR 48)] [vR 1, vR 51] from ?_))
  refine gPutF hO hC (k := 0) (i := 172) (x := 34) hN (Nat.le_of_ble_eq_true rfl) (Nat.le_of_ble_eq_true rfl) (by decide +kernel) (by decide +kernel) (by decide +kernel) (by decide +kernel) (ft := tTy 5 0) (by decide +kernel) (by decide +kernel) (by decide +kernel) (fun S13 hC => ?_)
  replace hC : tCx S S13 (58) 51 5 [some (1), none, some (52), some (53), some (54), some (55), some (56), some (57), none] [(57, 40, some 6), (56, 40, some 6), (55, 40, some 4801), (54, 40, some 39), (53, 40, some 793), (52, 40, some 12), (1, 8, none), (48, 2, none)] := hC
  refine gBk (pe := 66) hO [o0 (.aload_n 0), o0 (.aload_n 2)] (by decide +kernel) (show tWG K B 6 5657 S13 (uI (uZI (uZI (uZI (uZI (uZI (uZI I 52) 53) 54) 55) 56) 57) 51 8 0) (uZJ (uZJ (uZJ (uZJ (uZJ (uZJ J 52) 53) 54) 55) 56) 57) 66 [some (vR 51), some (vR 1), some (vR 48)] [vR 48, vR 51] from ?_)
  refine gPutF hO hC (k := 1) (i := 173) (x := 38) hN (Nat.le_of_ble_eq_true rfl) (Nat.le_of_ble_eq_true rfl) (by decide +kernel) (by decide +kernel) (by decide +kernel) (by decide +kernel) (ft := tTy 5 1) (by decide +kernel) (by decide +kernel) (by decide +kernel) (fun S14 hC => ?_)
  replace hC : tCx S S14 (58) 51 5 [some (1), some (48), some (52), some (53), some (54), some (55), some (56), some (57), none] [(57, 40, some 6), (56, 40, some 6), (55, 40, some 4801), (54, 40, some 39), (53, 40, some 793), (52, 40, some 12), (1, 8, none), (48, 2, none)] := hC
  have hr : tRdy S14 51 5 := fun k hk => show tRdK S14 51 5 k from match k, hk with
    | 0, _ => rdy4 (by decide) (hC.q (k := 0) (Nat.le_of_ble_eq_true rfl) rfl) (hC.has (i := 6) rfl)
    | 1, _ => rdy4 (by decide) (hC.q (k := 1) (Nat.le_of_ble_eq_true rfl) rfl) (hC.has (i := 7) rfl)
    | 2, _ => rdy3 (by decide) (hC.q (k := 2) (Nat.le_of_ble_eq_true rfl) rfl) (hC.has (i := 5) rfl) (fun _ => hC.hasL (i := 5) rfl)
    | 3, _ => rdy3 (by decide) (hC.q (k := 3) (Nat.le_of_ble_eq_true rfl) rfl) (hC.has (i := 4) rfl) (fun _ => hC.hasL (i := 4) rfl)
    | 4, _ => rdy3 (by decide) (hC.q (k := 4) (Nat.le_of_ble_eq_true rfl) rfl) (hC.has (i := 3) rfl) (fun _ => hC.hasL (i := 3) rfl)
    | 5, _ => rdy3 (by decide) (hC.q (k := 5) (Nat.le_of_ble_eq_true rfl) rfl) (hC.has (i := 2) rfl) (fun _ => hC.hasL (i := 2) rfl)
    | 6, _ => rdy3 (by decide) (hC.q (k := 6) (Nat.le_of_ble_eq_true rfl) rfl) (hC.has (i := 1) rfl) (fun _ => hC.hasL (i := 1) rfl)
    | 7, _ => rdy3 (by decide) (hC.q (k := 7) (Nat.le_of_ble_eq_true rfl) rfl) (hC.has (i := 0) rfl) (fun _ => hC.hasL (i := 0) rfl)
    | 8, _ => rdy0 (by decide)
    | n + 9, h => absurd (show n + 9 < 9 from h) (by omega)
  refine gReady (m := 7) hC hr (fun S9 hg hn => ?_)
  exact gVret hO hQ (by decide +kernel) ⟨hg, hn, rfl, rfl⟩)
set_option maxRecDepth 20000 in
theorem hc8_init : tCm yX8_init cX8_init 1 none 0 ∧ Cond.instanceMethod yX8_init ∈ wsL_law ∧ yX8_init.name = "<init>" := ⟨⟨(List.mem_of_getElem? (i := 57) rfl), (List.mem_of_getElem? (i := 14) (by decide +kernel)), by decide +kernel⟩, (List.mem_of_getElem? (i := 56) (by decide +kernel)), rfl⟩
set_option maxRecDepth 100000 in
theorem M8_init {l : Launch} {B : tB} {S : tSH} {I : tHI} {J : tHJ} {a : Nat} (t0 : ty S a 28) (hz : sZ S = a + 1) (hq0 : ∀ j, sQ S a j = none) : Met l yX8_init (tWs yX8_init cX8_init 1 none) (tRm 3 15 125) (tPc B [vR a] S I J) (tQv B (tNp S a 8 16 (NI8_init I J a) (NJ8_init I J a))) 15 125 (tA B) :=
  tEntryI (by decide +kernel) [some (vR a)] rfl rfl (Nat.le_of_ble_eq_true rfl) (fun K hl hN hR hO hQ hG => by
  subst hl
  have hC : tCx S S (a + 1) a 8 [none, none, none, none, none, none] [] := tCx.in' (by decide) hG t0 hz hq0 tHas.nil
  refine gBk (pe := 1) hO [o0 (.aload_n 0)] (by decide +kernel) (show tWG K B 0 0 S I J 1 [some (vR a)] [vR a] from ?_)
  refine gObjInit hO (idx := 3) (w := 58) (by decide +kernel) hR (by omega) (Nat.le_of_ble_eq_true rfl) rfl (by decide +kernel) ?_
  refine gBk (pe := 5) hO [o0 (.aload_n 0)] (by decide +kernel) (show tWG K B 0 0 S I J 5 [some (vR a)] [vR a] from ?_)
  refine gNewR (c' := 3) (idx := 9) (w1 := 59) (w2 := 60) (w3 := 61) hO hC (by decide) (by decide +kernel) (by decide +kernel) (by decide +kernel) hR ⟨by omega, by show _ + 5 ≤ _; omega⟩ (by decide +kernel) (fun S1 hC hb hbq => ?_)
  replace hC : tCx S S1 (a + 2) a 8 [none, none, none, none, none, none] [] := hC
  refine gBk (pe := 9) hO [o0 .dup] (by decide +kernel) (show tWG K B 1 5 S1 (uZI I (a + 1)) (uZJ J (a + 1)) 9 [some (vR a)] [vR (a + 1), vR (a + 1), vR a] from ?_)
  refine gCNv hO (M3_init hb hC.2.1 hbq) hc3_init (idx := 11) (w := 7) rfl hR ⟨by omega, by decide, by omega, by omega⟩ (vs := []) (st := [vR (a + 1), vR a]) ⟨rfl, Nat.le_of_ble_eq_true rfl, rfl⟩ (by decide +kernel) (fun u hu _ => ?_)
  obtain ⟨S2, I9, J9⟩ := u
  obtain ⟨hg, hn, hi, hj⟩ := hu
  simp only at hi hj
  subst hi hj
  have hC : tCx S S2 (a + 6) a 8 [none, none, none, none, none, none] [(a + 1, 3, none)] := hC.sub (by decide) hb (by omega) (by decide) hg hn
  refine gPutF hO hC (k := 0) (i := 62) (x := 12) hN (Nat.le_of_ble_eq_true rfl) (Nat.le_of_ble_eq_true rfl) (by decide +kernel) (by decide +kernel) (by decide +kernel) (by decide +kernel) (ft := tTy 8 0) (by decide +kernel) (by decide +kernel) (by decide +kernel) (fun S3 hC => ?_)
  replace hC : tCx S S3 (a + 6) a 8 [some (a + 1), none, none, none, none, none] [(a + 1, 3, none)] := hC
  refine gBk (pe := 16) hO [o0 (.aload_n 0)] (by decide +kernel) (show tWG K B 5 29 S3 (NI3_init (uZI I (a + 1)) (uZJ J (a + 1)) (a + 1)) (NJ3_init (uZI I (a + 1)) (uZJ J (a + 1)) (a + 1)) 16 [some (vR a)] [vR a] from ?_)
  refine gNewR (c' := 7) (idx := 18) (w1 := 63) (w2 := 64) (w3 := 65) hO hC (by decide) (by decide +kernel) (by decide +kernel) (by decide +kernel) hR ⟨by omega, by show _ + 9 ≤ _; omega⟩ (by decide +kernel) (fun S4 hC hb hbq => ?_)
  replace hC : tCx S S4 (a + 7) a 8 [some (a + 1), none, none, none, none, none] [(a + 1, 3, none)] := hC
  refine gBk (pe := 20) hO [o0 .dup] (by decide +kernel) (show tWG K B 6 38 S4 (uZI (NI3_init (uZI I (a + 1)) (uZJ J (a + 1)) (a + 1)) (a + 6)) (uZJ (NJ3_init (uZI I (a + 1)) (uZJ J (a + 1)) (a + 1)) (a + 6)) 20 [some (vR a)] [vR (a + 6), vR (a + 6), vR a] from ?_)
  refine gCNv hO (M7_init hb hC.2.1 hbq) hc7_init (idx := 20) (w := 8) rfl hR ⟨by omega, by decide, by omega, by omega⟩ (vs := []) (st := [vR (a + 6), vR a]) ⟨rfl, Nat.le_of_ble_eq_true rfl, rfl⟩ (by decide +kernel) (fun u hu _ => ?_)
  obtain ⟨S5, I9, J9⟩ := u
  obtain ⟨hg, hn, hi, hj⟩ := hu
  simp only at hi hj
  subst hi hj
  have hC : tCx S S5 (a + 14) a 8 [some (a + 1), none, none, none, none, none] [(a + 6, 7, none), (a + 1, 3, none)] := hC.sub (by decide) hb (by omega) (by decide) hg hn
  refine gPutF hO hC (k := 1) (i := 66) (x := 21) hN (Nat.le_of_ble_eq_true rfl) (Nat.le_of_ble_eq_true rfl) (by decide +kernel) (by decide +kernel) (by decide +kernel) (by decide +kernel) (ft := tTy 8 1) (by decide +kernel) (by decide +kernel) (by decide +kernel) (fun S6 hC => ?_)
  replace hC : tCx S S6 (a + 14) a 8 [some (a + 1), some (a + 6), none, none, none, none] [(a + 6, 7, none), (a + 1, 3, none)] := hC
  refine gBk (pe := 27) hO [o0 (.aload_n 0)] (by decide +kernel) (show tWG K B 13 110 S6 (NI7_init (uZI (NI3_init (uZI I (a + 1)) (uZJ J (a + 1)) (a + 1)) (a + 6)) (uZJ (NJ3_init (uZI I (a + 1)) (uZJ J (a + 1)) (a + 1)) (a + 6)) (a + 6)) (NJ7_init (uZI (NI3_init (uZI I (a + 1)) (uZJ J (a + 1)) (a + 1)) (a + 6)) (uZJ (NJ3_init (uZI I (a + 1)) (uZJ J (a + 1)) (a + 1)) (a + 6)) (a + 6)) 27 [some (vR a)] [vR a] from ?_)
  refine gNewR (c' := 10) (idx := 25) (w1 := 67) (w2 := 47) (w3 := 48) hO hC (by decide) (by decide +kernel) (by decide +kernel) (by decide +kernel) hR ⟨by omega, by show _ + 9 ≤ _; omega⟩ (by decide +kernel) (fun S7 hC hb hbq => ?_)
  replace hC : tCx S S7 (a + 15) a 8 [some (a + 1), some (a + 6), none, none, none, none] [(a + 6, 7, none), (a + 1, 3, none)] := hC
  refine gBk (pe := 31) hO [o0 .dup] (by decide +kernel) (show tWG K B 14 119 S7 (uZI (NI7_init (uZI (NI3_init (uZI I (a + 1)) (uZJ J (a + 1)) (a + 1)) (a + 6)) (uZJ (NJ3_init (uZI I (a + 1)) (uZJ J (a + 1)) (a + 1)) (a + 6)) (a + 6)) (a + 14)) (uZJ (NJ7_init (uZI (NI3_init (uZI I (a + 1)) (uZJ J (a + 1)) (a + 1)) (a + 6)) (uZJ (NJ3_init (uZI I (a + 1)) (uZJ J (a + 1)) (a + 1)) (a + 6)) (a + 6)) (a + 14)) 31 [some (vR a)] [vR (a + 14), vR (a + 14), vR a] from ?_)
  refine gCNv hO (M10_init hb hC.2.1 hbq) hc10_init (idx := 27) (w := 9) rfl hR ⟨by omega, by decide, by omega, by omega⟩ (vs := []) (st := [vR (a + 14), vR a]) ⟨rfl, Nat.le_of_ble_eq_true rfl, rfl⟩ (by decide +kernel) (fun u hu _ => ?_)
  obtain ⟨S8, I9, J9⟩ := u
  obtain ⟨hg, hn, hi, hj⟩ := hu
  simp only at hi hj
  subst hi hj
  have hC : tCx S S8 (a + 15) a 8 [some (a + 1), some (a + 6), none, none, none, none] [(a + 14, 10, none), (a + 6, 7, none), (a + 1, 3, none)] := hC.sub (by decide) hb (by omega) (by decide) hg hn
  refine gPutF hO hC (k := 2) (i := 68) (x := 28) hN (Nat.le_of_ble_eq_true rfl) (Nat.le_of_ble_eq_true rfl) (by decide +kernel) (by decide +kernel) (by decide +kernel) (by decide +kernel) (ft := tTy 8 2) (by decide +kernel) (by decide +kernel) (by decide +kernel) (fun S9 hC => ?_)
  replace hC : tCx S S9 (a + 15) a 8 [some (a + 1), some (a + 6), some (a + 14), none, none, none] [(a + 14, 10, none), (a + 6, 7, none), (a + 1, 3, none)] := hC
  refine gBk (pe := 40) hO [o0 (.aload_n 0), oI (.bipush 6) 6] (by decide +kernel) (show tWG K B 14 119 S9 (NI10_init (uZI (NI7_init (uZI (NI3_init (uZI I (a + 1)) (uZJ J (a + 1)) (a + 1)) (a + 6)) (uZJ (NJ3_init (uZI I (a + 1)) (uZJ J (a + 1)) (a + 1)) (a + 6)) (a + 6)) (a + 14)) (uZJ (NJ7_init (uZI (NI3_init (uZI I (a + 1)) (uZJ J (a + 1)) (a + 1)) (a + 6)) (uZJ (NJ3_init (uZI I (a + 1)) (uZJ J (a + 1)) (a + 1)) (a + 6)) (a + 6)) (a + 14)) (a + 14)) (NJ10_init (uZI (NI7_init (uZI (NI3_init (uZI I (a + 1)) (uZJ J (a + 1)) (a + 1)) (a + 6)) (uZJ (NJ3_init (uZI I (a + 1)) (uZJ J (a + 1)) (a + 1)) (a + 6)) (a + 6)) (a + 14)) (uZJ (NJ7_init (uZI (NI3_init (uZI I (a + 1)) (uZJ J (a + 1)) (a + 1)) (a + 6)) (uZJ (NJ3_init (uZI I (a + 1)) (uZJ J (a + 1)) (a + 1)) (a + 6)) (a + 6)) (a + 14)) (a + 14)) 40 [some (vR a)] [vI 6, vR a] from ?_)
  refine gNewQ (g := 44) (idx := 32) (w := 69) (N := 6) (x := 6) hO hC (Or.inr ⟨rfl, rfl⟩) (by decide +kernel) (by decide +kernel) (by decide +kernel) (by decide) hR ⟨by omega, by omega⟩ (by decide +kernel) (fun S10 hC => ?_)
  replace hC : tCx S S10 (a + 16) a 8 [some (a + 1), some (a + 6), some (a + 14), none, none, none] [(a + 15, 44, some 6), (a + 14, 10, none), (a + 6, 7, none), (a + 1, 3, none)] := hC
  refine gPutF hO hC (k := 3) (i := 70) (x := 34) hN (Nat.le_of_ble_eq_true rfl) (Nat.le_of_ble_eq_true rfl) (by decide +kernel) (by decide +kernel) (by decide +kernel) (by decide +kernel) (ft := tTy 8 3) (by decide +kernel) (by decide +kernel) (by decide +kernel) (fun S11 hC => ?_)
  replace hC : tCx S S11 (a + 16) a 8 [some (a + 1), some (a + 6), some (a + 14), some (a + 15), none, none] [(a + 15, 44, some 6), (a + 14, 10, none), (a + 6, 7, none), (a + 1, 3, none)] := hC
  refine gBk (pe := 56) hO [o0 (.aload_n 0), oI (.iconst 0) 0, oF (.putfield 38) 28 4 71 0, o0 (.aload_n 0), oI (.iconst (-1)) (-1), oF (.putfield 42) 28 5 72 0] (by decide +kernel) (And.intro hC.raw (And.intro hC.raw (show tWG K B 15 125 S11 (uI (uI (uZI (NI10_init (uZI (NI7_init (uZI (NI3_init (uZI I (a + 1)) (uZJ J (a + 1)) (a + 1)) (a + 6)) (uZJ (NJ3_init (uZI I (a + 1)) (uZJ J (a + 1)) (a + 1)) (a + 6)) (a + 6)) (a + 14)) (uZJ (NJ7_init (uZI (NI3_init (uZI I (a + 1)) (uZJ J (a + 1)) (a + 1)) (a + 6)) (uZJ (NJ3_init (uZI I (a + 1)) (uZJ J (a + 1)) (a + 1)) (a + 6)) (a + 6)) (a + 14)) (a + 14)) (a + 15)) a 4 0) a 5 (-1)) (uZJ (NJ10_init (uZI (NI7_init (uZI (NI3_init (uZI I (a + 1)) (uZJ J (a + 1)) (a + 1)) (a + 6)) (uZJ (NJ3_init (uZI I (a + 1)) (uZJ J (a + 1)) (a + 1)) (a + 6)) (a + 6)) (a + 14)) (uZJ (NJ7_init (uZI (NI3_init (uZI I (a + 1)) (uZJ J (a + 1)) (a + 1)) (a + 6)) (uZJ (NJ3_init (uZI I (a + 1)) (uZJ J (a + 1)) (a + 1)) (a + 6)) (a + 6)) (a + 14)) (a + 14)) (a + 15)) 56 [some (vR a)] [] from ?_)))
  have hr : tRdy S11 a 8 := fun k hk => show tRdK S11 a 8 k from match k, hk with
    | 0, _ => rdy3 (by decide) (hC.q (k := 0) (Nat.le_of_ble_eq_true rfl) rfl) (hC.has (i := 3) rfl) (fun h => absurd rfl h)
    | 1, _ => rdy3 (by decide) (hC.q (k := 1) (Nat.le_of_ble_eq_true rfl) rfl) (hC.has (i := 2) rfl) (fun h => absurd rfl h)
    | 2, _ => rdy3 (by decide) (hC.q (k := 2) (Nat.le_of_ble_eq_true rfl) rfl) (hC.has (i := 1) rfl) (fun h => absurd rfl h)
    | 3, _ => rdy3 (by decide) (hC.q (k := 3) (Nat.le_of_ble_eq_true rfl) rfl) (hC.has (i := 0) rfl) (fun _ => hC.hasL (i := 0) rfl)
    | 4, _ => rdy0 (by decide)
    | 5, _ => rdy0 (by decide)
    | n + 6, h => absurd (show n + 6 < 6 from h) (by omega)
  refine gReady (m := 16) hC hr (fun S9 hg hn => ?_)
  exact gVret hO hQ (by decide +kernel) ⟨hg, hn, rfl, rfl⟩)
