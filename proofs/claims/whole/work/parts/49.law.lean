def R_law : String := "ThreeWheelsLaw"
def lw_P (b : Addr) (xs : List Int32) (args : Array Value) (s : State) : Prop := args = #[.ref b] ∧ s.IntsAt b xs ∧ xs.length ≤ 3072 ∧ (Jvm.Cond.and given_1 narrow_1).before args s = true
def lw_Q (_ : Array Value) (s : State) (o : Outcome) (t : State) : Prop := o = .returned (some (.int 1)) ∧ Framed s o t [] 600000 7302250
def lw_Z (below : List Frame) (a : Array Value) (s : State) : State → Prop := fun t => ∃ o, t.status = .running ∧ Ended t below o ∧ lw_Q a s o t
/-- the law's own end, with 1 on the stack, nothing written that was there before, its room as the claim has it -/
theorem lw_ret {p : Program} {l : Launch} {e : Env} {s : State} {m : MethodId} {below : List Frame} {meth : Method} {c : Code} {b : Nat} (hx : p.tables.exec = Jvm.exec) (hb : c.code = code) (hr : meth.sig.returnType = ret) (hlocks : meth.locks = false) {pc : Nat} {H : Heap} {ls : Array Slot} (hdg : decode code pc = .ok (.ireturn, 1)) : W p l e room_1 s m #[Value.ref b] below meth c H [] 600000 7302250 (lw_Z below #[Value.ref b] s) (F0 m pc ls [.int 1]) := by
  intro T hT X
  obtain ⟨fs, hret, hrun, hended, hW, hframe⟩ := X.leave (v := some (.int 1)) (hlocks := hlocks) (fun h => by rw [hr] at h; cases h)
  have hmeth' : T.vm.method? m = some meth := X.method'
  refine ⟨T.setFrames fs, ?_, .returned (some (.int 1)), hrun, hended, rfl, ⟨_, rfl⟩, hW, hframe⟩
  jvm_step X.here [X.here.top, hx, hb, hdg, hmeth', hr, ret, narrow_b1]
  (try refine ⟨rfl, ?_⟩); (try refine ⟨rfl, ?_⟩)
  first | (intro acts; rw [hret _ acts rfl rfl rfl]) | rw [hret _ _ rfl rfl rfl]
  exact Steps.refl _
/-- what holds at the law's entry: the machine, the code, the tables' words (any of lw_tbl by 'hts w (by decide +kernel)'), the script of L ints xs at the cell b, what the Statement gives of the start (any of its parts by flat_of_before) -/
def lw_At (p : Program) (s : State) (m : MethodId) (meth : Method) (c : Code) (b L : Nat) (xs : Nat → Int32) : Prop :=
  p.tables.exec = Jvm.exec ∧ c.code = code ∧ meth.sig.returnType = ret ∧ c.maxLocals = 4 ∧ s.vm.findClass R_law = some m.cls ∧ (∀ w ∈ lw_tbl, w.before #[Value.ref b] s = true) ∧ va_X b L xs s s.heap ∧ b < s.heap.size ∧ meth.locks = false ∧ (Jvm.Cond.and given_1 narrow_1).before #[Value.ref b] s = true
section LW
variable {K : tK} {B : tB} {own : String} {cc : ByteArray} {nL cl sl : Nat} {S : tSH} {I : tHI} {J : tHJ} {pc : Nat} {L : List (Option tSV)} {st : List tSV}
theorem s_sld (hO : tKO K B own cc nL) {b N : Nat} {xs : Nat → Int32} (hX : va_X b N xs (ks K) (ks K).heap) (hbl : b < (ks K).heap.size) (hbA : ¬ B.2 ≤ b) {i : Int32} (hin : vp_in i N) (hd : decode cc pc = .ok (.iaload, 1)) (kk : tWG K B cl sl S I J (pc + 1) L (vI (xs i.toNatClampNeg) :: st)) : tWG K B cl sl S I J pc L (vI i :: vA b :: st) := fun H locs ls hR hL => va_sld hO.1 hO.2.1 hX hbl hbA hR.2.2.1 hin hd (kk H locs ls hR hL)
theorem s_slen (hO : tKO K B own cc nL) {b N : Nat} {xs : Nat → Int32} (hX : va_X b N xs (ks K) (ks K).heap) (hbl : b < (ks K).heap.size) (hbA : ¬ B.2 ≤ b) (hd : decode cc pc = .ok (.arraylength, 1)) (kk : tWG K B cl sl S I J (pc + 1) L (vI (Int32.ofNat N) :: st)) : tWG K B cl sl S I J pc L (vA b :: st) := fun H locs ls hR hL => va_slen hO.1 hO.2.1 hX hbl hbA hR.2.2.1 hd (kk H locs ls hR hL)
theorem tCallBL (hO : tKO K B own cc nL) {y : MethodName} {c : ByteArray} {n argc idx w d' mc ms : Nat} {r : Option FieldType} (hc : tCm y c n r argc) (hl : wsL_law[w]? = some (Cond.methodLink own idx y)) (hR : kR K = room_1) (hd : d' ≤ 100) (hn : n ≤ 21) : CallB (kR K) (ks K) (ka K) own idx y c n r (tWs y c n r) (tRm d' mc ms) mc ms argc := by
  refine callB_of (Ts := wsL_law) argc hO.2.2.2.2.1 (tgood hc.1) rfl rfl rfl (hO.2.2.2.2.1 _ hc.2.1) (hO.2.2.2.2.1 _ (List.mem_of_getElem? hl)) hc.2.2 ?_
  rw [hR]
  show d' + 1 ≤ 2048 ∧ 8 + (n + 11) + 40 * d' ≤ 84000
  omega
theorem lCVi (hO : tKO K B own cc nL) {y : MethodName} {c : ByteArray} {n argc idx w d' mc ms : Nat} {a t : Nat} {vs : List tSV} {r : Option FieldType} {post : Int32 → tS3 → Prop} (hM : Met (kl K) y (tWs y c n r) (tRm d' mc ms) (tPc B (vR a :: vs) S I J) (tQi B post) mc ms (tA B)) (hc : tCV y c n r argc) (hl : wsL_law[w]? = some (Cond.methodLink own idx y)) (hR : kR K = room_1) (hq : d' ≤ 100 ∧ n ≤ 21 ∧ cl + mc ≤ 600000 ∧ sl + ms ≤ 7302250) (ht : ty S a t) (hC : 0 < (tkl t).length ∧ (tCl (t % 20)).1 = y.cls) (hvs : vs.length = argc ∧ st.length ≤ 4 ∧ L.length = nL) (hd : decode cc pc = .ok (.invokevirtual idx, 3)) (kk : ∀ (x : Int32) (u : tS3), post x u → tWG K B (cl + mc) (sl + ms) u.1 u.2.1 u.2.2 (pc + 3) L (vI x :: st)) : tWG K B cl sl S I J pc L (vs.reverse ++ vR a :: st) := by
  intro H locs ls hR0 hL
  have e : (vs.reverse ++ vR a :: st).map (tvv B.2) = (vs.map (tvv B.2)).reverse ++ Value.ref (B.2 + a) :: st.map (tvv B.2) := by simp [tvv, va_rf]
  rw [e]
  obtain ⟨h40, hcl, hnn, h13⟩ := tkl_ok t hC.1
  have he := twl_get (B := B) (S := S) (I := I) (J := J) ht.1
  rw [tcell_o (by rw [ht.2]; exact h40), ht.2] at he
  have hrv := va_recv hO.2.2.2.2.2.1 hR0.2.1 hcl he
  rw [hC.2] at hrv
  exact va_calli (va_runV (C := y.cls) (As := vs.map (tvv B.2)) (rest := st.map (tvv B.2)) ⟨hO.1, hO.2.1, hO.2.2.1, hO.2.2.2.1, hO.2.2.2.2.1⟩ hM ⟨tCallBL hO hc.1 hl hR hq.1 hq.2.1, hO.2.2.2.2.1 _ hc.2.1, hO.2.2.2.2.1 _ hc.2.2⟩ ⟨tPc_blind, hrv, fun U hU hW => ⟨rfl, by rw [hU]; exact hR0.1, by rw [hU]; exact hR0.2.1, va_K.moved hW.alike hO.2.2.2.2.2.1, hR0.2.2.2, hO.2.2.2.2.2.2.2.at hR0.2.2.1 hU hW⟩⟩ rfl (by rw [List.length_map]; exact hvs.1) (hL.1.trans hvs.2.2) rfl (lv_room (tcats hvs.2.1)) hd (by rw [hR]; exact hq.2.2)) hR0.2.2.1 (fun q _ h => h) (fun q h => h) (fun x u t H1 locs1 ht _ hp hB _ _ hS => kk x u hp H1 locs1 ls ⟨by rw [← ht]; exact hB.1, by rw [← ht]; exact hB.2.1, hS, hB.2.2.2.1⟩ hL)
end LW
def tLL (b : Nat) (v : Int32) : List (Option tSV) := [some (vA b), some (vR 0), some (vR 61), some (vI v)]
def tInvT (Inv : tSH → tHI → tHJ → Prop) : Prop := ∀ S I J, Inv S I J → tGr S ∧ ty S 0 11 ∧ ty S 61 12
def tSt_load (n : Nat) (Inv : tSH → tHI → tHJ → Prop) : Prop := ∀ (S : tSH) (I : tHI) (J : tHJ) (v1 : Int32) (v2 : Int32) (v3 : Int32) , Inv S I J → F11_load n S I J v1 v2 v3 (fun x I1 J1 => F12_load n S I1 J1 v1 v2 v3 (fun y I2 J2 => x = y ∧ Inv S I2 J2))
set_option maxRecDepth 100000 in
theorem L_c0 {K : tK} {B : tB} (hO : tKO K B RL cL_law 4) (hR : kR K = room_1) {b N : Nat} {xs : Nat → Int32} (hX : va_X b N xs (ks K) (ks K).heap) (hbl : b < (ks K).heap.size) (hbA : ¬ B.2 ≤ b) {n : Nat} {Inv : tSH → tHI → tHJ → Prop} (hT : tInvT Inv) (hs : tSt_load n Inv) {cl sl : Nat} (hcl : cl + 16 ≤ 600000 ∧ sl + 467 ≤ 7302250) {v : Int32} (h1 : vp_in (v + 1) N) (h2 : vp_in (v + 2) N) (h3 : vp_in (v + 3) N) (h4 : vp_in (v + 4) N) (h5 : vp_in (v + 5) N) {S : tSH} {I : tHI} {J : tHJ} (hI : Inv S I J) (hnext : ∀ S2 I2 J2, Inv S2 I2 J2 → tWG K B (cl + 16) (sl + 467) S2 I2 J2 1208 (tLL b v) []) : tWG K B cl sl S I J 208 (tLL b v) [] := by
  obtain ⟨hG, t0, t61⟩ := hT _ _ _ hI
  have h := hs S I J (xs (v + 1).toNatClampNeg) (xs (v + 2).toNatClampNeg) (xs (v + 3).toNatClampNeg) hI
  refine gBk (pe := 213) hO [o0 (.aload_n 1), o0 (.aload_n 0), o0 (.iload_n 3), oI (.iconst 1) 1, o0 .iadd] (by decide +kernel) (show tWG K B cl sl S I J 213 (tLL b v) [vI (v + 1), vA b, vR 0] from ?_)
  refine s_sld hO hX hbl hbA h1 (by decide +kernel) ?_
  refine gBk (pe := 218) hO [o0 (.aload_n 0), o0 (.iload_n 3), oI (.iconst 2) 2, o0 .iadd] (by decide +kernel) (show tWG K B cl sl S I J 218 (tLL b v) [vI (v + 2), vA b, vI (xs (v + 1).toNatClampNeg), vR 0] from ?_)
  refine s_sld hO hX hbl hbA h2 (by decide +kernel) ?_
  refine gBk (pe := 223) hO [o0 (.aload_n 0), o0 (.iload_n 3), oI (.iconst 3) 3, o0 .iadd] (by decide +kernel) (show tWG K B cl sl S I J 223 (tLL b v) [vI (v + 3), vA b, vI (xs (v + 2).toNatClampNeg), vI (xs (v + 1).toNatClampNeg), vR 0] from ?_)
  refine s_sld hO hX hbl hbA h3 (by decide +kernel) ?_
  refine lCVi hO (M11_load t0 h) hc11_load (idx := 13) (w := 238) (by decide +kernel) hR ⟨by omega, by omega, by omega, by omega⟩ t0 ⟨by decide, rfl⟩ (vs := [vI (xs (v + 1).toNatClampNeg), vI (xs (v + 2).toNatClampNeg), vI (xs (v + 3).toNatClampNeg)]) (st := []) ⟨rfl, Nat.le_of_ble_eq_true rfl, rfl⟩ (by decide +kernel) (fun x u hu => ?_)
  obtain ⟨S1, I1, J1⟩ := u
  obtain ⟨e1, h⟩ := hu
  replace e1 : S1 = S := e1
  subst e1
  replace h : F12_load n S1 I1 J1 (xs (v + 1).toNatClampNeg) (xs (v + 2).toNatClampNeg) (xs (v + 3).toNatClampNeg) (fun y I2 J2 => x = y ∧ Inv S1 I2 J2) := h
  refine gBk (pe := 232) hO [o0 (.aload_n 2), o0 (.aload_n 0), o0 (.iload_n 3), oI (.iconst 1) 1, o0 .iadd] (by decide +kernel) (show tWG K B (cl + 0) (sl + 0) S1 I1 J1 232 (tLL b v) [vI (v + 1), vA b, vR 61, vI x] from ?_)
  refine s_sld hO hX hbl hbA h1 (by decide +kernel) ?_
  refine gBk (pe := 237) hO [o0 (.aload_n 0), o0 (.iload_n 3), oI (.iconst 2) 2, o0 .iadd] (by decide +kernel) (show tWG K B (cl + 0) (sl + 0) S1 I1 J1 237 (tLL b v) [vI (v + 2), vA b, vI (xs (v + 1).toNatClampNeg), vR 61, vI x] from ?_)
  refine s_sld hO hX hbl hbA h2 (by decide +kernel) ?_
  refine gBk (pe := 242) hO [o0 (.aload_n 0), o0 (.iload_n 3), oI (.iconst 3) 3, o0 .iadd] (by decide +kernel) (show tWG K B (cl + 0) (sl + 0) S1 I1 J1 242 (tLL b v) [vI (v + 3), vA b, vI (xs (v + 2).toNatClampNeg), vI (xs (v + 1).toNatClampNeg), vR 61, vI x] from ?_)
  refine s_sld hO hX hbl hbA h3 (by decide +kernel) ?_
  refine lCVi hO (M12_load t61 h) hc12_load (idx := 17) (w := 312) (by decide +kernel) hR ⟨by omega, by omega, by omega, by omega⟩ t61 ⟨by decide, rfl⟩ (vs := [vI (xs (v + 1).toNatClampNeg), vI (xs (v + 2).toNatClampNeg), vI (xs (v + 3).toNatClampNeg)]) (st := [vI x]) ⟨rfl, Nat.le_of_ble_eq_true rfl, rfl⟩ (by decide +kernel) (fun y u hu => ?_)
  obtain ⟨S2, I2, J2⟩ := u
  obtain ⟨e1, e2, h⟩ := hu
  replace e1 : S2 = S1 := e1
  subst e1
  replace h : Inv S2 I2 J2 := h
  refine gIcEq hO (off := 962) (tgt := 1208) (by decide +kernel) (by decide) (fun c1 => ?_) (fun c1 => absurd e2 c1)
  exact gWiden (by omega) (by omega) (hnext _ _ _ h)
def tSt_of (n : Nat) (Inv : tSH → tHI → tHJ → Prop) : Prop := ∀ (S : tSH) (I : tHI) (J : tHJ) (v1 : Int32) (v2 : Int32) , Inv S I J → F11_of n S I J v1 v2 (fun x I1 J1 => F12_of n S I1 J1 v1 v2 (fun y I2 J2 => x = y ∧ Inv S I2 J2))
set_option maxRecDepth 100000 in
theorem L_c1 {K : tK} {B : tB} (hO : tKO K B RL cL_law 4) (hR : kR K = room_1) {b N : Nat} {xs : Nat → Int32} (hX : va_X b N xs (ks K) (ks K).heap) (hbl : b < (ks K).heap.size) (hbA : ¬ B.2 ≤ b) {n : Nat} {Inv : tSH → tHI → tHJ → Prop} (hT : tInvT Inv) (hs : tSt_of n Inv) {cl sl : Nat} (hcl : cl + 16 ≤ 600000 ∧ sl + 467 ≤ 7302250) {v : Int32} (h1 : vp_in (v + 1) N) (h2 : vp_in (v + 2) N) (h3 : vp_in (v + 3) N) (h4 : vp_in (v + 4) N) (h5 : vp_in (v + 5) N) {S : tSH} {I : tHI} {J : tHJ} (hI : Inv S I J) (hnext : ∀ S2 I2 J2, Inv S2 I2 J2 → tWG K B (cl + 16) (sl + 467) S2 I2 J2 1208 (tLL b v) []) : tWG K B cl sl S I J 251 (tLL b v) [] := by
  obtain ⟨hG, t0, t61⟩ := hT _ _ _ hI
  have h := hs S I J (xs (v + 1).toNatClampNeg) (xs (v + 2).toNatClampNeg) hI
  refine gBk (pe := 256) hO [o0 (.aload_n 1), o0 (.aload_n 0), o0 (.iload_n 3), oI (.iconst 1) 1, o0 .iadd] (by decide +kernel) (show tWG K B cl sl S I J 256 (tLL b v) [vI (v + 1), vA b, vR 0] from ?_)
  refine s_sld hO hX hbl hbA h1 (by decide +kernel) ?_
  refine gBk (pe := 261) hO [o0 (.aload_n 0), o0 (.iload_n 3), oI (.iconst 2) 2, o0 .iadd] (by decide +kernel) (show tWG K B cl sl S I J 261 (tLL b v) [vI (v + 2), vA b, vI (xs (v + 1).toNatClampNeg), vR 0] from ?_)
  refine s_sld hO hX hbl hbA h2 (by decide +kernel) ?_
  refine lCVi hO (M11_of t0 h) hc11_of (idx := 18) (w := 373) (by decide +kernel) hR ⟨by omega, by omega, by omega, by omega⟩ t0 ⟨by decide, rfl⟩ (vs := [vI (xs (v + 1).toNatClampNeg), vI (xs (v + 2).toNatClampNeg)]) (st := []) ⟨rfl, Nat.le_of_ble_eq_true rfl, rfl⟩ (by decide +kernel) (fun x u hu => ?_)
  obtain ⟨S1, I1, J1⟩ := u
  obtain ⟨e1, h⟩ := hu
  replace e1 : S1 = S := e1
  subst e1
  replace h : F12_of n S1 I1 J1 (xs (v + 1).toNatClampNeg) (xs (v + 2).toNatClampNeg) (fun y I2 J2 => x = y ∧ Inv S1 I2 J2) := h
  refine gBk (pe := 270) hO [o0 (.aload_n 2), o0 (.aload_n 0), o0 (.iload_n 3), oI (.iconst 1) 1, o0 .iadd] (by decide +kernel) (show tWG K B (cl + 0) (sl + 0) S1 I1 J1 270 (tLL b v) [vI (v + 1), vA b, vR 61, vI x] from ?_)
  refine s_sld hO hX hbl hbA h1 (by decide +kernel) ?_
  refine gBk (pe := 275) hO [o0 (.aload_n 0), o0 (.iload_n 3), oI (.iconst 2) 2, o0 .iadd] (by decide +kernel) (show tWG K B (cl + 0) (sl + 0) S1 I1 J1 275 (tLL b v) [vI (v + 2), vA b, vI (xs (v + 1).toNatClampNeg), vR 61, vI x] from ?_)
  refine s_sld hO hX hbl hbA h2 (by decide +kernel) ?_
  refine lCVi hO (M12_of t61 h) hc12_of (idx := 22) (w := 385) (by decide +kernel) hR ⟨by omega, by omega, by omega, by omega⟩ t61 ⟨by decide, rfl⟩ (vs := [vI (xs (v + 1).toNatClampNeg), vI (xs (v + 2).toNatClampNeg)]) (st := [vI x]) ⟨rfl, Nat.le_of_ble_eq_true rfl, rfl⟩ (by decide +kernel) (fun y u hu => ?_)
  obtain ⟨S2, I2, J2⟩ := u
  obtain ⟨e1, e2, h⟩ := hu
  replace e1 : S2 = S1 := e1
  subst e1
  replace h : Inv S2 I2 J2 := h
  refine gIcEq hO (off := 929) (tgt := 1208) (by decide +kernel) (by decide) (fun c1 => ?_) (fun c1 => absurd e2 c1)
  exact gWiden (by omega) (by omega) (hnext _ _ _ h)
def tSt_bend (n : Nat) (Inv : tSH → tHI → tHJ → Prop) : Prop := ∀ (S : tSH) (I : tHI) (J : tHJ) (v1 : Int32) (v2 : Int32) (v3 : Int32) (v4 : Int32) , Inv S I J → F11_bend n S I J v1 v2 v3 v4 (fun x I1 J1 => F12_bend n S I1 J1 v1 v2 v3 v4 (fun y I2 J2 => x = y ∧ Inv S I2 J2))
set_option maxRecDepth 100000 in
theorem L_c2 {K : tK} {B : tB} (hO : tKO K B RL cL_law 4) (hR : kR K = room_1) {b N : Nat} {xs : Nat → Int32} (hX : va_X b N xs (ks K) (ks K).heap) (hbl : b < (ks K).heap.size) (hbA : ¬ B.2 ≤ b) {n : Nat} {Inv : tSH → tHI → tHJ → Prop} (hT : tInvT Inv) (hs : tSt_bend n Inv) {cl sl : Nat} (hcl : cl + 16 ≤ 600000 ∧ sl + 467 ≤ 7302250) {v : Int32} (h1 : vp_in (v + 1) N) (h2 : vp_in (v + 2) N) (h3 : vp_in (v + 3) N) (h4 : vp_in (v + 4) N) (h5 : vp_in (v + 5) N) {S : tSH} {I : tHI} {J : tHJ} (hI : Inv S I J) (hnext : ∀ S2 I2 J2, Inv S2 I2 J2 → tWG K B (cl + 16) (sl + 467) S2 I2 J2 1208 (tLL b v) []) : tWG K B cl sl S I J 284 (tLL b v) [] := by
  obtain ⟨hG, t0, t61⟩ := hT _ _ _ hI
  have h := hs S I J (xs (v + 1).toNatClampNeg) (xs (v + 2).toNatClampNeg) (xs (v + 3).toNatClampNeg) (xs (v + 4).toNatClampNeg) hI
  refine gBk (pe := 289) hO [o0 (.aload_n 1), o0 (.aload_n 0), o0 (.iload_n 3), oI (.iconst 1) 1, o0 .iadd] (by decide +kernel) (show tWG K B cl sl S I J 289 (tLL b v) [vI (v + 1), vA b, vR 0] from ?_)
  refine s_sld hO hX hbl hbA h1 (by decide +kernel) ?_
  refine gBk (pe := 294) hO [o0 (.aload_n 0), o0 (.iload_n 3), oI (.iconst 2) 2, o0 .iadd] (by decide +kernel) (show tWG K B cl sl S I J 294 (tLL b v) [vI (v + 2), vA b, vI (xs (v + 1).toNatClampNeg), vR 0] from ?_)
  refine s_sld hO hX hbl hbA h2 (by decide +kernel) ?_
  refine gBk (pe := 299) hO [o0 (.aload_n 0), o0 (.iload_n 3), oI (.iconst 3) 3, o0 .iadd] (by decide +kernel) (show tWG K B cl sl S I J 299 (tLL b v) [vI (v + 3), vA b, vI (xs (v + 2).toNatClampNeg), vI (xs (v + 1).toNatClampNeg), vR 0] from ?_)
  refine s_sld hO hX hbl hbA h3 (by decide +kernel) ?_
  refine gBk (pe := 304) hO [o0 (.aload_n 0), o0 (.iload_n 3), oI (.iconst 4) 4, o0 .iadd] (by decide +kernel) (show tWG K B cl sl S I J 304 (tLL b v) [vI (v + 4), vA b, vI (xs (v + 3).toNatClampNeg), vI (xs (v + 2).toNatClampNeg), vI (xs (v + 1).toNatClampNeg), vR 0] from ?_)
  refine s_sld hO hX hbl hbA h4 (by decide +kernel) ?_
  refine lCVi hO (M11_bend t0 h) hc11_bend (idx := 23) (w := 394) (by decide +kernel) hR ⟨by omega, by omega, by omega, by omega⟩ t0 ⟨by decide, rfl⟩ (vs := [vI (xs (v + 1).toNatClampNeg), vI (xs (v + 2).toNatClampNeg), vI (xs (v + 3).toNatClampNeg), vI (xs (v + 4).toNatClampNeg)]) (st := []) ⟨rfl, Nat.le_of_ble_eq_true rfl, rfl⟩ (by decide +kernel) (fun x u hu => ?_)
  obtain ⟨S1, I1, J1⟩ := u
  obtain ⟨e1, h⟩ := hu
  replace e1 : S1 = S := e1
  subst e1
  replace h : F12_bend n S1 I1 J1 (xs (v + 1).toNatClampNeg) (xs (v + 2).toNatClampNeg) (xs (v + 3).toNatClampNeg) (xs (v + 4).toNatClampNeg) (fun y I2 J2 => x = y ∧ Inv S1 I2 J2) := h
  refine gBk (pe := 313) hO [o0 (.aload_n 2), o0 (.aload_n 0), o0 (.iload_n 3), oI (.iconst 1) 1, o0 .iadd] (by decide +kernel) (show tWG K B (cl + 0) (sl + 0) S1 I1 J1 313 (tLL b v) [vI (v + 1), vA b, vR 61, vI x] from ?_)
  refine s_sld hO hX hbl hbA h1 (by decide +kernel) ?_
  refine gBk (pe := 318) hO [o0 (.aload_n 0), o0 (.iload_n 3), oI (.iconst 2) 2, o0 .iadd] (by decide +kernel) (show tWG K B (cl + 0) (sl + 0) S1 I1 J1 318 (tLL b v) [vI (v + 2), vA b, vI (xs (v + 1).toNatClampNeg), vR 61, vI x] from ?_)
  refine s_sld hO hX hbl hbA h2 (by decide +kernel) ?_
  refine gBk (pe := 323) hO [o0 (.aload_n 0), o0 (.iload_n 3), oI (.iconst 3) 3, o0 .iadd] (by decide +kernel) (show tWG K B (cl + 0) (sl + 0) S1 I1 J1 323 (tLL b v) [vI (v + 3), vA b, vI (xs (v + 2).toNatClampNeg), vI (xs (v + 1).toNatClampNeg), vR 61, vI x] from ?_)
  refine s_sld hO hX hbl hbA h3 (by decide +kernel) ?_
  refine gBk (pe := 328) hO [o0 (.aload_n 0), o0 (.iload_n 3), oI (.iconst 4) 4, o0 .iadd] (by decide +kernel) (show tWG K B (cl + 0) (sl + 0) S1 I1 J1 328 (tLL b v) [vI (v + 4), vA b, vI (xs (v + 3).toNatClampNeg), vI (xs (v + 2).toNatClampNeg), vI (xs (v + 1).toNatClampNeg), vR 61, vI x] from ?_)
  refine s_sld hO hX hbl hbA h4 (by decide +kernel) ?_
  refine lCVi hO (M12_bend t61 h) hc12_bend (idx := 27) (w := 407) (by decide +kernel) hR ⟨by omega, by omega, by omega, by omega⟩ t61 ⟨by decide, rfl⟩ (vs := [vI (xs (v + 1).toNatClampNeg), vI (xs (v + 2).toNatClampNeg), vI (xs (v + 3).toNatClampNeg), vI (xs (v + 4).toNatClampNeg)]) (st := [vI x]) ⟨rfl, Nat.le_of_ble_eq_true rfl, rfl⟩ (by decide +kernel) (fun y u hu => ?_)
  obtain ⟨S2, I2, J2⟩ := u
  obtain ⟨e1, e2, h⟩ := hu
  replace e1 : S2 = S1 := e1
  subst e1
  replace h : Inv S2 I2 J2 := h
  refine gIcEq hO (off := 876) (tgt := 1208) (by decide +kernel) (by decide) (fun c1 => ?_) (fun c1 => absurd e2 c1)
  exact gWiden (by omega) (by omega) (hnext _ _ _ h)
def tSt_clear (n : Nat) (Inv : tSH → tHI → tHJ → Prop) : Prop := ∀ (S : tSH) (I : tHI) (J : tHJ) , Inv S I J → F11_clear n S I J (fun x I1 J1 => F12_clear n S I1 J1 (fun y I2 J2 => x = y ∧ Inv S I2 J2))
set_option maxRecDepth 100000 in
theorem L_c3 {K : tK} {B : tB} (hO : tKO K B RL cL_law 4) (hR : kR K = room_1) {b N : Nat} {xs : Nat → Int32} (hX : va_X b N xs (ks K) (ks K).heap) (hbl : b < (ks K).heap.size) (hbA : ¬ B.2 ≤ b) {n : Nat} {Inv : tSH → tHI → tHJ → Prop} (hT : tInvT Inv) (hs : tSt_clear n Inv) {cl sl : Nat} (hcl : cl + 16 ≤ 600000 ∧ sl + 467 ≤ 7302250) {v : Int32} (h1 : vp_in (v + 1) N) (h2 : vp_in (v + 2) N) (h3 : vp_in (v + 3) N) (h4 : vp_in (v + 4) N) (h5 : vp_in (v + 5) N) {S : tSH} {I : tHI} {J : tHJ} (hI : Inv S I J) (hnext : ∀ S2 I2 J2, Inv S2 I2 J2 → tWG K B (cl + 16) (sl + 467) S2 I2 J2 1208 (tLL b v) []) : tWG K B cl sl S I J 337 (tLL b v) [] := by
  obtain ⟨hG, t0, t61⟩ := hT _ _ _ hI
  have h := hs S I J  hI
  refine gBk (pe := 338) hO [o0 (.aload_n 1)] (by decide +kernel) (show tWG K B cl sl S I J 338 (tLL b v) [vR 0] from ?_)
  refine lCVi hO (M11_clear t0 h) hc11_clear (idx := 28) (w := 420) (by decide +kernel) hR ⟨by omega, by omega, by omega, by omega⟩ t0 ⟨by decide, rfl⟩ (vs := []) (st := []) ⟨rfl, Nat.le_of_ble_eq_true rfl, rfl⟩ (by decide +kernel) (fun x u hu => ?_)
  obtain ⟨S1, I1, J1⟩ := u
  obtain ⟨e1, h⟩ := hu
  replace e1 : S1 = S := e1
  subst e1
  replace h : F12_clear n S1 I1 J1 (fun y I2 J2 => x = y ∧ Inv S1 I2 J2) := h
  refine gBk (pe := 342) hO [o0 (.aload_n 2)] (by decide +kernel) (show tWG K B (cl + 0) (sl + 0) S1 I1 J1 342 (tLL b v) [vR 61, vI x] from ?_)
  refine lCVi hO (M12_clear t61 h) hc12_clear (idx := 32) (w := 427) (by decide +kernel) hR ⟨by omega, by omega, by omega, by omega⟩ t61 ⟨by decide, rfl⟩ (vs := []) (st := [vI x]) ⟨rfl, Nat.le_of_ble_eq_true rfl, rfl⟩ (by decide +kernel) (fun y u hu => ?_)
  obtain ⟨S2, I2, J2⟩ := u
  obtain ⟨e1, e2, h⟩ := hu
  replace e1 : S2 = S1 := e1
  subst e1
  replace h : Inv S2 I2 J2 := h
  refine gIcEq hO (off := 863) (tgt := 1208) (by decide +kernel) (by decide) (fun c1 => ?_) (fun c1 => absurd e2 c1)
  exact gWiden (by omega) (by omega) (hnext _ _ _ h)
def tSt_at (n : Nat) (Inv : tSH → tHI → tHJ → Prop) : Prop := ∀ (S : tSH) (I : tHI) (J : tHJ) (v1 : Int32) (v2 : Int32) , Inv S I J → F11_at n S I J v1 v2 (fun x I1 J1 => F12_at n S I1 J1 v1 v2 (fun y I2 J2 => x = y ∧ Inv S I2 J2))
set_option maxRecDepth 100000 in
theorem L_c4 {K : tK} {B : tB} (hO : tKO K B RL cL_law 4) (hR : kR K = room_1) {b N : Nat} {xs : Nat → Int32} (hX : va_X b N xs (ks K) (ks K).heap) (hbl : b < (ks K).heap.size) (hbA : ¬ B.2 ≤ b) {n : Nat} {Inv : tSH → tHI → tHJ → Prop} (hT : tInvT Inv) (hs : tSt_at n Inv) {cl sl : Nat} (hcl : cl + 16 ≤ 600000 ∧ sl + 467 ≤ 7302250) {v : Int32} (h1 : vp_in (v + 1) N) (h2 : vp_in (v + 2) N) (h3 : vp_in (v + 3) N) (h4 : vp_in (v + 4) N) (h5 : vp_in (v + 5) N) {S : tSH} {I : tHI} {J : tHJ} (hI : Inv S I J) (hnext : ∀ S2 I2 J2, Inv S2 I2 J2 → tWG K B (cl + 16) (sl + 467) S2 I2 J2 1208 (tLL b v) []) : tWG K B cl sl S I J 350 (tLL b v) [] := by
  obtain ⟨hG, t0, t61⟩ := hT _ _ _ hI
  have h := hs S I J (xs (v + 1).toNatClampNeg) (xs (v + 2).toNatClampNeg) hI
  refine gBk (pe := 355) hO [o0 (.aload_n 1), o0 (.aload_n 0), o0 (.iload_n 3), oI (.iconst 1) 1, o0 .iadd] (by decide +kernel) (show tWG K B cl sl S I J 355 (tLL b v) [vI (v + 1), vA b, vR 0] from ?_)
  refine s_sld hO hX hbl hbA h1 (by decide +kernel) ?_
  refine gBk (pe := 360) hO [o0 (.aload_n 0), o0 (.iload_n 3), oI (.iconst 2) 2, o0 .iadd] (by decide +kernel) (show tWG K B cl sl S I J 360 (tLL b v) [vI (v + 2), vA b, vI (xs (v + 1).toNatClampNeg), vR 0] from ?_)
  refine s_sld hO hX hbl hbA h2 (by decide +kernel) ?_
  refine lCVi hO (M11_at t0 h) hc11_at (idx := 33) (w := 431) (by decide +kernel) hR ⟨by omega, by omega, by omega, by omega⟩ t0 ⟨by decide, rfl⟩ (vs := [vI (xs (v + 1).toNatClampNeg), vI (xs (v + 2).toNatClampNeg)]) (st := []) ⟨rfl, Nat.le_of_ble_eq_true rfl, rfl⟩ (by decide +kernel) (fun x u hu => ?_)
  obtain ⟨S1, I1, J1⟩ := u
  obtain ⟨e1, h⟩ := hu
  replace e1 : S1 = S := e1
  subst e1
  replace h : F12_at n S1 I1 J1 (xs (v + 1).toNatClampNeg) (xs (v + 2).toNatClampNeg) (fun y I2 J2 => x = y ∧ Inv S1 I2 J2) := h
  refine gBk (pe := 369) hO [o0 (.aload_n 2), o0 (.aload_n 0), o0 (.iload_n 3), oI (.iconst 1) 1, o0 .iadd] (by decide +kernel) (show tWG K B (cl + 0) (sl + 0) S1 I1 J1 369 (tLL b v) [vI (v + 1), vA b, vR 61, vI x] from ?_)
  refine s_sld hO hX hbl hbA h1 (by decide +kernel) ?_
  refine gBk (pe := 374) hO [o0 (.aload_n 0), o0 (.iload_n 3), oI (.iconst 2) 2, o0 .iadd] (by decide +kernel) (show tWG K B (cl + 0) (sl + 0) S1 I1 J1 374 (tLL b v) [vI (v + 2), vA b, vI (xs (v + 1).toNatClampNeg), vR 61, vI x] from ?_)
  refine s_sld hO hX hbl hbA h2 (by decide +kernel) ?_
  refine lCVi hO (M12_at t61 h) hc12_at (idx := 36) (w := 476) (by decide +kernel) hR ⟨by omega, by omega, by omega, by omega⟩ t61 ⟨by decide, rfl⟩ (vs := [vI (xs (v + 1).toNatClampNeg), vI (xs (v + 2).toNatClampNeg)]) (st := [vI x]) ⟨rfl, Nat.le_of_ble_eq_true rfl, rfl⟩ (by decide +kernel) (fun y u hu => ?_)
  obtain ⟨S2, I2, J2⟩ := u
  obtain ⟨e1, e2, h⟩ := hu
  replace e1 : S2 = S1 := e1
  subst e1
  replace h : Inv S2 I2 J2 := h
  refine gIcEq hO (off := 830) (tgt := 1208) (by decide +kernel) (by decide) (fun c1 => ?_) (fun c1 => absurd e2 c1)
  exact gWiden (by omega) (by omega) (hnext _ _ _ h)
def tSt_bars (n : Nat) (Inv : tSH → tHI → tHJ → Prop) : Prop := ∀ (S : tSH) (I : tHI) (J : tHJ) (v1 : Int32) , Inv S I J → F11_bars n S I J v1 (fun x I1 J1 => F12_bars n S I1 J1 v1 (fun y I2 J2 => x = y ∧ Inv S I2 J2))
set_option maxRecDepth 100000 in
theorem L_c5 {K : tK} {B : tB} (hO : tKO K B RL cL_law 4) (hR : kR K = room_1) {b N : Nat} {xs : Nat → Int32} (hX : va_X b N xs (ks K) (ks K).heap) (hbl : b < (ks K).heap.size) (hbA : ¬ B.2 ≤ b) {n : Nat} {Inv : tSH → tHI → tHJ → Prop} (hT : tInvT Inv) (hs : tSt_bars n Inv) {cl sl : Nat} (hcl : cl + 16 ≤ 600000 ∧ sl + 467 ≤ 7302250) {v : Int32} (h1 : vp_in (v + 1) N) (h2 : vp_in (v + 2) N) (h3 : vp_in (v + 3) N) (h4 : vp_in (v + 4) N) (h5 : vp_in (v + 5) N) {S : tSH} {I : tHI} {J : tHJ} (hI : Inv S I J) (hnext : ∀ S2 I2 J2, Inv S2 I2 J2 → tWG K B (cl + 16) (sl + 467) S2 I2 J2 1208 (tLL b v) []) : tWG K B cl sl S I J 383 (tLL b v) [] := by
  obtain ⟨hG, t0, t61⟩ := hT _ _ _ hI
  have h := hs S I J (xs (v + 1).toNatClampNeg) hI
  refine gBk (pe := 388) hO [o0 (.aload_n 1), o0 (.aload_n 0), o0 (.iload_n 3), oI (.iconst 1) 1, o0 .iadd] (by decide +kernel) (show tWG K B cl sl S I J 388 (tLL b v) [vI (v + 1), vA b, vR 0] from ?_)
  refine s_sld hO hX hbl hbA h1 (by decide +kernel) ?_
  refine lCVi hO (M11_bars t0 h) hc11_bars (idx := 37) (w := 526) (by decide +kernel) hR ⟨by omega, by omega, by omega, by omega⟩ t0 ⟨by decide, rfl⟩ (vs := [vI (xs (v + 1).toNatClampNeg)]) (st := []) ⟨rfl, Nat.le_of_ble_eq_true rfl, rfl⟩ (by decide +kernel) (fun x u hu => ?_)
  obtain ⟨S1, I1, J1⟩ := u
  obtain ⟨e1, h⟩ := hu
  replace e1 : S1 = S := e1
  subst e1
  replace h : F12_bars n S1 I1 J1 (xs (v + 1).toNatClampNeg) (fun y I2 J2 => x = y ∧ Inv S1 I2 J2) := h
  refine gBk (pe := 397) hO [o0 (.aload_n 2), o0 (.aload_n 0), o0 (.iload_n 3), oI (.iconst 1) 1, o0 .iadd] (by decide +kernel) (show tWG K B (cl + 0) (sl + 0) S1 I1 J1 397 (tLL b v) [vI (v + 1), vA b, vR 61, vI x] from ?_)
  refine s_sld hO hX hbl hbA h1 (by decide +kernel) ?_
  refine lCVi hO (M12_bars t61 h) hc12_bars (idx := 41) (w := 531) (by decide +kernel) hR ⟨by omega, by omega, by omega, by omega⟩ t61 ⟨by decide, rfl⟩ (vs := [vI (xs (v + 1).toNatClampNeg)]) (st := [vI x]) ⟨rfl, Nat.le_of_ble_eq_true rfl, rfl⟩ (by decide +kernel) (fun y u hu => ?_)
  obtain ⟨S2, I2, J2⟩ := u
  obtain ⟨e1, e2, h⟩ := hu
  replace e1 : S2 = S1 := e1
  subst e1
  replace h : Inv S2 I2 J2 := h
  refine gIcEq hO (off := 807) (tgt := 1208) (by decide +kernel) (by decide) (fun c1 => ?_) (fun c1 => absurd e2 c1)
  exact gWiden (by omega) (by omega) (hnext _ _ _ h)
def tSt_terms (n : Nat) (Inv : tSH → tHI → tHJ → Prop) : Prop := ∀ (S : tSH) (I : tHI) (J : tHJ) (v1 : Int32) (v2 : Int32) , Inv S I J → F11_terms n S I J v1 v2 (fun x I1 J1 => F12_terms n S I1 J1 v1 v2 (fun y I2 J2 => x = y ∧ Inv S I2 J2))
set_option maxRecDepth 100000 in
theorem L_c6 {K : tK} {B : tB} (hO : tKO K B RL cL_law 4) (hR : kR K = room_1) {b N : Nat} {xs : Nat → Int32} (hX : va_X b N xs (ks K) (ks K).heap) (hbl : b < (ks K).heap.size) (hbA : ¬ B.2 ≤ b) {n : Nat} {Inv : tSH → tHI → tHJ → Prop} (hT : tInvT Inv) (hs : tSt_terms n Inv) {cl sl : Nat} (hcl : cl + 16 ≤ 600000 ∧ sl + 467 ≤ 7302250) {v : Int32} (h1 : vp_in (v + 1) N) (h2 : vp_in (v + 2) N) (h3 : vp_in (v + 3) N) (h4 : vp_in (v + 4) N) (h5 : vp_in (v + 5) N) {S : tSH} {I : tHI} {J : tHJ} (hI : Inv S I J) (hnext : ∀ S2 I2 J2, Inv S2 I2 J2 → tWG K B (cl + 16) (sl + 467) S2 I2 J2 1208 (tLL b v) []) : tWG K B cl sl S I J 406 (tLL b v) [] := by
  obtain ⟨hG, t0, t61⟩ := hT _ _ _ hI
  have h := hs S I J (xs (v + 1).toNatClampNeg) (xs (v + 2).toNatClampNeg) hI
  refine gBk (pe := 411) hO [o0 (.aload_n 1), o0 (.aload_n 0), o0 (.iload_n 3), oI (.iconst 1) 1, o0 .iadd] (by decide +kernel) (show tWG K B cl sl S I J 411 (tLL b v) [vI (v + 1), vA b, vR 0] from ?_)
  refine s_sld hO hX hbl hbA h1 (by decide +kernel) ?_
  refine gBk (pe := 416) hO [o0 (.aload_n 0), o0 (.iload_n 3), oI (.iconst 2) 2, o0 .iadd] (by decide +kernel) (show tWG K B cl sl S I J 416 (tLL b v) [vI (v + 2), vA b, vI (xs (v + 1).toNatClampNeg), vR 0] from ?_)
  refine s_sld hO hX hbl hbA h2 (by decide +kernel) ?_
  refine lCVi hO (M11_terms t0 h) hc11_terms (idx := 42) (w := 539) (by decide +kernel) hR ⟨by omega, by omega, by omega, by omega⟩ t0 ⟨by decide, rfl⟩ (vs := [vI (xs (v + 1).toNatClampNeg), vI (xs (v + 2).toNatClampNeg)]) (st := []) ⟨rfl, Nat.le_of_ble_eq_true rfl, rfl⟩ (by decide +kernel) (fun x u hu => ?_)
  obtain ⟨S1, I1, J1⟩ := u
  obtain ⟨e1, h⟩ := hu
  replace e1 : S1 = S := e1
  subst e1
  replace h : F12_terms n S1 I1 J1 (xs (v + 1).toNatClampNeg) (xs (v + 2).toNatClampNeg) (fun y I2 J2 => x = y ∧ Inv S1 I2 J2) := h
  refine gBk (pe := 425) hO [o0 (.aload_n 2), o0 (.aload_n 0), o0 (.iload_n 3), oI (.iconst 1) 1, o0 .iadd] (by decide +kernel) (show tWG K B (cl + 0) (sl + 0) S1 I1 J1 425 (tLL b v) [vI (v + 1), vA b, vR 61, vI x] from ?_)
  refine s_sld hO hX hbl hbA h1 (by decide +kernel) ?_
  refine gBk (pe := 430) hO [o0 (.aload_n 0), o0 (.iload_n 3), oI (.iconst 2) 2, o0 .iadd] (by decide +kernel) (show tWG K B (cl + 0) (sl + 0) S1 I1 J1 430 (tLL b v) [vI (v + 2), vA b, vI (xs (v + 1).toNatClampNeg), vR 61, vI x] from ?_)
  refine s_sld hO hX hbl hbA h2 (by decide +kernel) ?_
  refine lCVi hO (M12_terms t61 h) hc12_terms (idx := 45) (w := 551) (by decide +kernel) hR ⟨by omega, by omega, by omega, by omega⟩ t61 ⟨by decide, rfl⟩ (vs := [vI (xs (v + 1).toNatClampNeg), vI (xs (v + 2).toNatClampNeg)]) (st := [vI x]) ⟨rfl, Nat.le_of_ble_eq_true rfl, rfl⟩ (by decide +kernel) (fun y u hu => ?_)
  obtain ⟨S2, I2, J2⟩ := u
  obtain ⟨e1, e2, h⟩ := hu
  replace e1 : S2 = S1 := e1
  subst e1
  replace h : Inv S2 I2 J2 := h
  refine gIcEq hO (off := 774) (tgt := 1208) (by decide +kernel) (by decide) (fun c1 => ?_) (fun c1 => absurd e2 c1)
  exact gWiden (by omega) (by omega) (hnext _ _ _ h)
def tSt_feed (n : Nat) (Inv : tSH → tHI → tHJ → Prop) : Prop := ∀ (S : tSH) (I : tHI) (J : tHJ) (v1 : Int32) (v2 : Int32) (v3 : Int32) (v4 : Int32) (v5 : Int32) , Inv S I J → F11_feed n S I J v1 v2 v3 v4 v5 (fun x I1 J1 => F12_feed n S I1 J1 v1 v2 v3 v4 v5 (fun y I2 J2 => x = y ∧ Inv S I2 J2))
set_option maxRecDepth 100000 in
theorem L_c7 {K : tK} {B : tB} (hO : tKO K B RL cL_law 4) (hR : kR K = room_1) {b N : Nat} {xs : Nat → Int32} (hX : va_X b N xs (ks K) (ks K).heap) (hbl : b < (ks K).heap.size) (hbA : ¬ B.2 ≤ b) {n : Nat} {Inv : tSH → tHI → tHJ → Prop} (hT : tInvT Inv) (hs : tSt_feed n Inv) {cl sl : Nat} (hcl : cl + 16 ≤ 600000 ∧ sl + 467 ≤ 7302250) {v : Int32} (h1 : vp_in (v + 1) N) (h2 : vp_in (v + 2) N) (h3 : vp_in (v + 3) N) (h4 : vp_in (v + 4) N) (h5 : vp_in (v + 5) N) {S : tSH} {I : tHI} {J : tHJ} (hI : Inv S I J) (hnext : ∀ S2 I2 J2, Inv S2 I2 J2 → tWG K B (cl + 16) (sl + 467) S2 I2 J2 1208 (tLL b v) []) : tWG K B cl sl S I J 439 (tLL b v) [] := by
  obtain ⟨hG, t0, t61⟩ := hT _ _ _ hI
  have h := hs S I J (xs (v + 1).toNatClampNeg) (xs (v + 2).toNatClampNeg) (xs (v + 3).toNatClampNeg) (xs (v + 4).toNatClampNeg) (xs (v + 5).toNatClampNeg) hI
  refine gBk (pe := 444) hO [o0 (.aload_n 1), o0 (.aload_n 0), o0 (.iload_n 3), oI (.iconst 1) 1, o0 .iadd] (by decide +kernel) (show tWG K B cl sl S I J 444 (tLL b v) [vI (v + 1), vA b, vR 0] from ?_)
  refine s_sld hO hX hbl hbA h1 (by decide +kernel) ?_
  refine gBk (pe := 449) hO [o0 (.aload_n 0), o0 (.iload_n 3), oI (.iconst 2) 2, o0 .iadd] (by decide +kernel) (show tWG K B cl sl S I J 449 (tLL b v) [vI (v + 2), vA b, vI (xs (v + 1).toNatClampNeg), vR 0] from ?_)
  refine s_sld hO hX hbl hbA h2 (by decide +kernel) ?_
  refine gBk (pe := 454) hO [o0 (.aload_n 0), o0 (.iload_n 3), oI (.iconst 3) 3, o0 .iadd] (by decide +kernel) (show tWG K B cl sl S I J 454 (tLL b v) [vI (v + 3), vA b, vI (xs (v + 2).toNatClampNeg), vI (xs (v + 1).toNatClampNeg), vR 0] from ?_)
  refine s_sld hO hX hbl hbA h3 (by decide +kernel) ?_
  refine gBk (pe := 459) hO [o0 (.aload_n 0), o0 (.iload_n 3), oI (.iconst 4) 4, o0 .iadd] (by decide +kernel) (show tWG K B cl sl S I J 459 (tLL b v) [vI (v + 4), vA b, vI (xs (v + 3).toNatClampNeg), vI (xs (v + 2).toNatClampNeg), vI (xs (v + 1).toNatClampNeg), vR 0] from ?_)
  refine s_sld hO hX hbl hbA h4 (by decide +kernel) ?_
  refine gBk (pe := 464) hO [o0 (.aload_n 0), o0 (.iload_n 3), oI (.iconst 5) 5, o0 .iadd] (by decide +kernel) (show tWG K B cl sl S I J 464 (tLL b v) [vI (v + 5), vA b, vI (xs (v + 4).toNatClampNeg), vI (xs (v + 3).toNatClampNeg), vI (xs (v + 2).toNatClampNeg), vI (xs (v + 1).toNatClampNeg), vR 0] from ?_)
  refine s_sld hO hX hbl hbA h5 (by decide +kernel) ?_
  refine lCVi hO (M11_feed t0 h) hc11_feed (idx := 46) (w := 555) (by decide +kernel) hR ⟨by omega, by omega, by omega, by omega⟩ t0 ⟨by decide, rfl⟩ (vs := [vI (xs (v + 1).toNatClampNeg), vI (xs (v + 2).toNatClampNeg), vI (xs (v + 3).toNatClampNeg), vI (xs (v + 4).toNatClampNeg), vI (xs (v + 5).toNatClampNeg)]) (st := []) ⟨rfl, Nat.le_of_ble_eq_true rfl, rfl⟩ (by decide +kernel) (fun x u hu => ?_)
  obtain ⟨S1, I1, J1⟩ := u
  obtain ⟨e1, h⟩ := hu
  replace e1 : S1 = S := e1
  subst e1
  replace h : F12_feed n S1 I1 J1 (xs (v + 1).toNatClampNeg) (xs (v + 2).toNatClampNeg) (xs (v + 3).toNatClampNeg) (xs (v + 4).toNatClampNeg) (xs (v + 5).toNatClampNeg) (fun y I2 J2 => x = y ∧ Inv S1 I2 J2) := h
  refine gBk (pe := 473) hO [o0 (.aload_n 2), o0 (.aload_n 0), o0 (.iload_n 3), oI (.iconst 1) 1, o0 .iadd] (by decide +kernel) (show tWG K B (cl + 0) (sl + 0) S1 I1 J1 473 (tLL b v) [vI (v + 1), vA b, vR 61, vI x] from ?_)
  refine s_sld hO hX hbl hbA h1 (by decide +kernel) ?_
  refine gBk (pe := 478) hO [o0 (.aload_n 0), o0 (.iload_n 3), oI (.iconst 2) 2, o0 .iadd] (by decide +kernel) (show tWG K B (cl + 0) (sl + 0) S1 I1 J1 478 (tLL b v) [vI (v + 2), vA b, vI (xs (v + 1).toNatClampNeg), vR 61, vI x] from ?_)
  refine s_sld hO hX hbl hbA h2 (by decide +kernel) ?_
  refine gBk (pe := 483) hO [o0 (.aload_n 0), o0 (.iload_n 3), oI (.iconst 3) 3, o0 .iadd] (by decide +kernel) (show tWG K B (cl + 0) (sl + 0) S1 I1 J1 483 (tLL b v) [vI (v + 3), vA b, vI (xs (v + 2).toNatClampNeg), vI (xs (v + 1).toNatClampNeg), vR 61, vI x] from ?_)
  refine s_sld hO hX hbl hbA h3 (by decide +kernel) ?_
  refine gBk (pe := 488) hO [o0 (.aload_n 0), o0 (.iload_n 3), oI (.iconst 4) 4, o0 .iadd] (by decide +kernel) (show tWG K B (cl + 0) (sl + 0) S1 I1 J1 488 (tLL b v) [vI (v + 4), vA b, vI (xs (v + 3).toNatClampNeg), vI (xs (v + 2).toNatClampNeg), vI (xs (v + 1).toNatClampNeg), vR 61, vI x] from ?_)
  refine s_sld hO hX hbl hbA h4 (by decide +kernel) ?_
  refine gBk (pe := 493) hO [o0 (.aload_n 0), o0 (.iload_n 3), oI (.iconst 5) 5, o0 .iadd] (by decide +kernel) (show tWG K B (cl + 0) (sl + 0) S1 I1 J1 493 (tLL b v) [vI (v + 5), vA b, vI (xs (v + 4).toNatClampNeg), vI (xs (v + 3).toNatClampNeg), vI (xs (v + 2).toNatClampNeg), vI (xs (v + 1).toNatClampNeg), vR 61, vI x] from ?_)
  refine s_sld hO hX hbl hbA h5 (by decide +kernel) ?_
  refine lCVi hO (M12_feed t61 h) hc12_feed (idx := 50) (w := 564) (by decide +kernel) hR ⟨by omega, by omega, by omega, by omega⟩ t61 ⟨by decide, rfl⟩ (vs := [vI (xs (v + 1).toNatClampNeg), vI (xs (v + 2).toNatClampNeg), vI (xs (v + 3).toNatClampNeg), vI (xs (v + 4).toNatClampNeg), vI (xs (v + 5).toNatClampNeg)]) (st := [vI x]) ⟨rfl, Nat.le_of_ble_eq_true rfl, rfl⟩ (by decide +kernel) (fun y u hu => ?_)
  obtain ⟨S2, I2, J2⟩ := u
  obtain ⟨e1, e2, h⟩ := hu
  replace e1 : S2 = S1 := e1
  subst e1
  replace h : Inv S2 I2 J2 := h
  refine gIcEq hO (off := 711) (tgt := 1208) (by decide +kernel) (by decide) (fun c1 => ?_) (fun c1 => absurd e2 c1)
  exact gWiden (by omega) (by omega) (hnext _ _ _ h)
def tSt_end (n : Nat) (Inv : tSH → tHI → tHJ → Prop) : Prop := ∀ (S : tSH) (I : tHI) (J : tHJ) (v1 : Int32) , Inv S I J → F11_end n S I J v1 (fun x I1 J1 => F12_end n S I1 J1 v1 (fun y I2 J2 => x = y ∧ Inv S I2 J2))
set_option maxRecDepth 100000 in
theorem L_c8 {K : tK} {B : tB} (hO : tKO K B RL cL_law 4) (hR : kR K = room_1) {b N : Nat} {xs : Nat → Int32} (hX : va_X b N xs (ks K) (ks K).heap) (hbl : b < (ks K).heap.size) (hbA : ¬ B.2 ≤ b) {n : Nat} {Inv : tSH → tHI → tHJ → Prop} (hT : tInvT Inv) (hs : tSt_end n Inv) {cl sl : Nat} (hcl : cl + 16 ≤ 600000 ∧ sl + 467 ≤ 7302250) {v : Int32} (h1 : vp_in (v + 1) N) (h2 : vp_in (v + 2) N) (h3 : vp_in (v + 3) N) (h4 : vp_in (v + 4) N) (h5 : vp_in (v + 5) N) {S : tSH} {I : tHI} {J : tHJ} (hI : Inv S I J) (hnext : ∀ S2 I2 J2, Inv S2 I2 J2 → tWG K B (cl + 16) (sl + 467) S2 I2 J2 1208 (tLL b v) []) : tWG K B cl sl S I J 502 (tLL b v) [] := by
  obtain ⟨hG, t0, t61⟩ := hT _ _ _ hI
  have h := hs S I J (xs (v + 1).toNatClampNeg) hI
  refine gBk (pe := 507) hO [o0 (.aload_n 1), o0 (.aload_n 0), o0 (.iload_n 3), oI (.iconst 1) 1, o0 .iadd] (by decide +kernel) (show tWG K B cl sl S I J 507 (tLL b v) [vI (v + 1), vA b, vR 0] from ?_)
  refine s_sld hO hX hbl hbA h1 (by decide +kernel) ?_
  refine lCVi hO (M11_end t0 h) hc11_end (idx := 51) (w := 573) (by decide +kernel) hR ⟨by omega, by omega, by omega, by omega⟩ t0 ⟨by decide, rfl⟩ (vs := [vI (xs (v + 1).toNatClampNeg)]) (st := []) ⟨rfl, Nat.le_of_ble_eq_true rfl, rfl⟩ (by decide +kernel) (fun x u hu => ?_)
  obtain ⟨S1, I1, J1⟩ := u
  obtain ⟨e1, h⟩ := hu
  replace e1 : S1 = S := e1
  subst e1
  replace h : F12_end n S1 I1 J1 (xs (v + 1).toNatClampNeg) (fun y I2 J2 => x = y ∧ Inv S1 I2 J2) := h
  refine gBk (pe := 516) hO [o0 (.aload_n 2), o0 (.aload_n 0), o0 (.iload_n 3), oI (.iconst 1) 1, o0 .iadd] (by decide +kernel) (show tWG K B (cl + 0) (sl + 0) S1 I1 J1 516 (tLL b v) [vI (v + 1), vA b, vR 61, vI x] from ?_)
  refine s_sld hO hX hbl hbA h1 (by decide +kernel) ?_
  refine lCVi hO (M12_end t61 h) hc12_end (idx := 54) (w := 577) (by decide +kernel) hR ⟨by omega, by omega, by omega, by omega⟩ t61 ⟨by decide, rfl⟩ (vs := [vI (xs (v + 1).toNatClampNeg)]) (st := [vI x]) ⟨rfl, Nat.le_of_ble_eq_true rfl, rfl⟩ (by decide +kernel) (fun y u hu => ?_)
  obtain ⟨S2, I2, J2⟩ := u
  obtain ⟨e1, e2, h⟩ := hu
  replace e1 : S2 = S1 := e1
  subst e1
  replace h : Inv S2 I2 J2 := h
  refine gIcEq hO (off := 688) (tgt := 1208) (by decide +kernel) (by decide) (fun c1 => ?_) (fun c1 => absurd e2 c1)
  exact gWiden (by omega) (by omega) (hnext _ _ _ h)
def tSt_row (n : Nat) (Inv : tSH → tHI → tHJ → Prop) : Prop := ∀ (S : tSH) (I : tHI) (J : tHJ) , Inv S I J → F11_row n S I J (fun x I1 J1 => F12_row n S I1 J1 (fun y I2 J2 => x = y ∧ Inv S I2 J2))
set_option maxRecDepth 100000 in
theorem L_c9 {K : tK} {B : tB} (hO : tKO K B RL cL_law 4) (hR : kR K = room_1) {b N : Nat} {xs : Nat → Int32} (hX : va_X b N xs (ks K) (ks K).heap) (hbl : b < (ks K).heap.size) (hbA : ¬ B.2 ≤ b) {n : Nat} {Inv : tSH → tHI → tHJ → Prop} (hT : tInvT Inv) (hs : tSt_row n Inv) {cl sl : Nat} (hcl : cl + 16 ≤ 600000 ∧ sl + 467 ≤ 7302250) {v : Int32} (h1 : vp_in (v + 1) N) (h2 : vp_in (v + 2) N) (h3 : vp_in (v + 3) N) (h4 : vp_in (v + 4) N) (h5 : vp_in (v + 5) N) {S : tSH} {I : tHI} {J : tHJ} (hI : Inv S I J) (hnext : ∀ S2 I2 J2, Inv S2 I2 J2 → tWG K B (cl + 16) (sl + 467) S2 I2 J2 1208 (tLL b v) []) : tWG K B cl sl S I J 525 (tLL b v) [] := by
  obtain ⟨hG, t0, t61⟩ := hT _ _ _ hI
  have h := hs S I J  hI
  refine gBk (pe := 526) hO [o0 (.aload_n 1)] (by decide +kernel) (show tWG K B cl sl S I J 526 (tLL b v) [vR 0] from ?_)
  refine lCVi hO (M11_row t0 h) hc11_row (idx := 55) (w := 581) (by decide +kernel) hR ⟨by omega, by omega, by omega, by omega⟩ t0 ⟨by decide, rfl⟩ (vs := []) (st := []) ⟨rfl, Nat.le_of_ble_eq_true rfl, rfl⟩ (by decide +kernel) (fun x u hu => ?_)
  obtain ⟨S1, I1, J1⟩ := u
  obtain ⟨e1, h⟩ := hu
  replace e1 : S1 = S := e1
  subst e1
  replace h : F12_row n S1 I1 J1 (fun y I2 J2 => x = y ∧ Inv S1 I2 J2) := h
  refine gBk (pe := 530) hO [o0 (.aload_n 2)] (by decide +kernel) (show tWG K B (cl + 0) (sl + 0) S1 I1 J1 530 (tLL b v) [vR 61, vI x] from ?_)
  refine lCVi hO (M12_row t61 h) hc12_row (idx := 58) (w := 593) (by decide +kernel) hR ⟨by omega, by omega, by omega, by omega⟩ t61 ⟨by decide, rfl⟩ (vs := []) (st := [vI x]) ⟨rfl, Nat.le_of_ble_eq_true rfl, rfl⟩ (by decide +kernel) (fun y u hu => ?_)
  obtain ⟨S2, I2, J2⟩ := u
  obtain ⟨e1, e2, h⟩ := hu
  replace e1 : S2 = S1 := e1
  subst e1
  replace h : Inv S2 I2 J2 := h
  refine gIcEq hO (off := 675) (tgt := 1208) (by decide +kernel) (by decide) (fun c1 => ?_) (fun c1 => absurd e2 c1)
  exact gWiden (by omega) (by omega) (hnext _ _ _ h)
def tSt_mud (n : Nat) (Inv : tSH → tHI → tHJ → Prop) : Prop := ∀ (S : tSH) (I : tHI) (J : tHJ), Inv S I J → F12_mud n S I J (fun y I2 J2 => V11_mud S I J = y ∧ Inv S I2 J2)
set_option maxRecDepth 100000 in
theorem L_c10 {K : tK} {B : tB} (hO : tKO K B RL cL_law 4) (hR : kR K = room_1) {b N : Nat} {xs : Nat → Int32} (hX : va_X b N xs (ks K) (ks K).heap) (hbl : b < (ks K).heap.size) (hbA : ¬ B.2 ≤ b) {n : Nat} {Inv : tSH → tHI → tHJ → Prop} (hT : tInvT Inv) (hs : tSt_mud n Inv) {cl sl : Nat} (hcl : cl + 16 ≤ 600000 ∧ sl + 467 ≤ 7302250) {v : Int32} (h1 : vp_in (v + 1) N) (h2 : vp_in (v + 2) N) (h3 : vp_in (v + 3) N) (h4 : vp_in (v + 4) N) (h5 : vp_in (v + 5) N) {S : tSH} {I : tHI} {J : tHJ} (hI : Inv S I J) (hnext : ∀ S2 I2 J2, Inv S2 I2 J2 → tWG K B (cl + 16) (sl + 467) S2 I2 J2 1208 (tLL b v) []) : tWG K B cl sl S I J 538 (tLL b v) [] := by
  obtain ⟨hG, t0, t61⟩ := hT _ _ _ hI
  have h := hs S I J  hI
  refine gBk (pe := 539) hO [o0 (.aload_n 1)] (by decide +kernel) (show tWG K B cl sl S I J 539 (tLL b v) [vR 0] from ?_)
  refine lCVi hO (M11_mud t0) hc11_mud (idx := 59) (w := 598) (by decide +kernel) hR ⟨by omega, by omega, by omega, by omega⟩ t0 ⟨by decide, rfl⟩ (vs := []) (st := []) ⟨rfl, Nat.le_of_ble_eq_true rfl, rfl⟩ (by decide +kernel) (fun x u hu => ?_)
  obtain ⟨e1, e2⟩ := hu
  subst e1 e2
  refine gBk (pe := 543) hO [o0 (.aload_n 2)] (by decide +kernel) (show tWG K B (cl + 0) (sl + 0) S I J 543 (tLL b v) [vR 61, vI (V11_mud S I J)] from ?_)
  refine lCVi hO (M12_mud t61 h) hc12_mud (idx := 62) (w := 602) (by decide +kernel) hR ⟨by omega, by omega, by omega, by omega⟩ t61 ⟨by decide, rfl⟩ (vs := []) (st := [vI (V11_mud S I J)]) ⟨rfl, Nat.le_of_ble_eq_true rfl, rfl⟩ (by decide +kernel) (fun y u hu => ?_)
  obtain ⟨S2, I2, J2⟩ := u
  obtain ⟨e1, e2, h⟩ := hu
  replace e1 : S2 = S := e1
  subst e1
  replace h : Inv S2 I2 J2 := h
  refine gIcEq hO (off := 662) (tgt := 1208) (by decide +kernel) (by decide) (fun c1 => ?_) (fun c1 => absurd e2 c1)
  exact gWiden (by omega) (by omega) (hnext _ _ _ h)
def tSt_law (n : Nat) (Inv : tSH → tHI → tHJ → Prop) : Prop := ∀ (S : tSH) (I : tHI) (J : tHJ) , Inv S I J → F11_law n S I J (fun x S1 I1 J1 => ty S1 61 12 ∧ F12_law n S1 I1 J1 (fun y I2 J2 => x = y ∧ Inv S1 I2 J2))
set_option maxRecDepth 100000 in
theorem L_c11 {K : tK} {B : tB} (hO : tKO K B RL cL_law 4) (hR : kR K = room_1) {b N : Nat} {xs : Nat → Int32} (hX : va_X b N xs (ks K) (ks K).heap) (hbl : b < (ks K).heap.size) (hbA : ¬ B.2 ≤ b) {n : Nat} {Inv : tSH → tHI → tHJ → Prop} (hT : tInvT Inv) (hs : tSt_law n Inv) {cl sl : Nat} (hcl : cl + 16 ≤ 600000 ∧ sl + 467 ≤ 7302250) {v : Int32} (h1 : vp_in (v + 1) N) (h2 : vp_in (v + 2) N) (h3 : vp_in (v + 3) N) (h4 : vp_in (v + 4) N) (h5 : vp_in (v + 5) N) {S : tSH} {I : tHI} {J : tHJ} (hI : Inv S I J) (hnext : ∀ S2 I2 J2, Inv S2 I2 J2 → tWG K B (cl + 16) (sl + 467) S2 I2 J2 1208 (tLL b v) []) : tWG K B cl sl S I J 551 (tLL b v) [] := by
  obtain ⟨hG, t0, t61⟩ := hT _ _ _ hI
  have h := hs S I J  hI
  refine gBk (pe := 552) hO [o0 (.aload_n 1)] (by decide +kernel) (show tWG K B cl sl S I J 552 (tLL b v) [vR 0] from ?_)
  refine lCVi hO (M11_law t0 h) hc11_law (idx := 63) (w := 606) (by decide +kernel) hR ⟨by omega, by omega, by omega, by omega⟩ t0 ⟨by decide, rfl⟩ (vs := []) (st := []) ⟨rfl, Nat.le_of_ble_eq_true rfl, rfl⟩ (by decide +kernel) (fun x u hu => ?_)
  obtain ⟨S1, I1, J1⟩ := u
  obtain ⟨⟨t61, h⟩, -⟩ := hu
  replace t61 : ty S1 61 12 := t61
  replace h : F12_law n S1 I1 J1 (fun y I2 J2 => x = y ∧ Inv S1 I2 J2) := h
  refine gBk (pe := 556) hO [o0 (.aload_n 2)] (by decide +kernel) (show tWG K B (cl + 5) (sl + 467) S1 I1 J1 556 (tLL b v) [vR 61, vI x] from ?_)
  refine lCVi hO (M12_law t61 h) hc12_law (idx := 66) (w := 762) (by decide +kernel) hR ⟨by omega, by omega, by omega, by omega⟩ t61 ⟨by decide, rfl⟩ (vs := []) (st := [vI x]) ⟨rfl, Nat.le_of_ble_eq_true rfl, rfl⟩ (by decide +kernel) (fun y u hu => ?_)
  obtain ⟨S2, I2, J2⟩ := u
  obtain ⟨e1, e2, h⟩ := hu
  replace e1 : S2 = S1 := e1
  subst e1
  replace h : Inv S2 I2 J2 := h
  refine gIcEq hO (off := 649) (tgt := 1208) (by decide +kernel) (by decide) (fun c1 => ?_) (fun c1 => absurd e2 c1)
  exact gWiden (by omega) (by omega) (hnext _ _ _ h)
def tSt_orders (n : Nat) (Inv : tSH → tHI → tHJ → Prop) : Prop := ∀ (S : tSH) (I : tHI) (J : tHJ) , Inv S I J → F11_orders n S I J (fun x S1 I1 J1 => ty S1 61 12 ∧ F12_orders n S1 I1 J1 (fun y I2 J2 => x = y ∧ Inv S1 I2 J2))
set_option maxRecDepth 100000 in
theorem L_c12 {K : tK} {B : tB} (hO : tKO K B RL cL_law 4) (hR : kR K = room_1) {b N : Nat} {xs : Nat → Int32} (hX : va_X b N xs (ks K) (ks K).heap) (hbl : b < (ks K).heap.size) (hbA : ¬ B.2 ≤ b) {n : Nat} {Inv : tSH → tHI → tHJ → Prop} (hT : tInvT Inv) (hs : tSt_orders n Inv) {cl sl : Nat} (hcl : cl + 16 ≤ 600000 ∧ sl + 467 ≤ 7302250) {v : Int32} (h1 : vp_in (v + 1) N) (h2 : vp_in (v + 2) N) (h3 : vp_in (v + 3) N) (h4 : vp_in (v + 4) N) (h5 : vp_in (v + 5) N) {S : tSH} {I : tHI} {J : tHJ} (hI : Inv S I J) (hnext : ∀ S2 I2 J2, Inv S2 I2 J2 → tWG K B (cl + 16) (sl + 467) S2 I2 J2 1208 (tLL b v) []) : tWG K B cl sl S I J 564 (tLL b v) [] := by
  obtain ⟨hG, t0, t61⟩ := hT _ _ _ hI
  have h := hs S I J  hI
  refine gBk (pe := 565) hO [o0 (.aload_n 1)] (by decide +kernel) (show tWG K B cl sl S I J 565 (tLL b v) [vR 0] from ?_)
  refine lCVi hO (M11_orders t0 h) hc11_orders (idx := 67) (w := 891) (by decide +kernel) hR ⟨by omega, by omega, by omega, by omega⟩ t0 ⟨by decide, rfl⟩ (vs := []) (st := []) ⟨rfl, Nat.le_of_ble_eq_true rfl, rfl⟩ (by decide +kernel) (fun x u hu => ?_)
  obtain ⟨S1, I1, J1⟩ := u
  obtain ⟨⟨t61, h⟩, -⟩ := hu
  replace t61 : ty S1 61 12 := t61
  replace h : F12_orders n S1 I1 J1 (fun y I2 J2 => x = y ∧ Inv S1 I2 J2) := h
  refine gBk (pe := 569) hO [o0 (.aload_n 2)] (by decide +kernel) (show tWG K B (cl + 0) (sl + 0) S1 I1 J1 569 (tLL b v) [vR 61, vI x] from ?_)
  refine lCVi hO (M12_orders t61 h) hc12_orders (idx := 70) (w := 980) (by decide +kernel) hR ⟨by omega, by omega, by omega, by omega⟩ t61 ⟨by decide, rfl⟩ (vs := []) (st := [vI x]) ⟨rfl, Nat.le_of_ble_eq_true rfl, rfl⟩ (by decide +kernel) (fun y u hu => ?_)
  obtain ⟨S2, I2, J2⟩ := u
  obtain ⟨e1, e2, h⟩ := hu
  replace e1 : S2 = S1 := e1
  subst e1
  replace h : Inv S2 I2 J2 := h
  refine gIcEq hO (off := 636) (tgt := 1208) (by decide +kernel) (by decide) (fun c1 => ?_) (fun c1 => absurd e2 c1)
  exact gWiden (by omega) (by omega) (hnext _ _ _ h)
def tSt_fault (n : Nat) (Inv : tSH → tHI → tHJ → Prop) : Prop := ∀ (S : tSH) (I : tHI) (J : tHJ), Inv S I J → F12_fault n S I J (fun y I2 J2 => V11_fault S I J = y ∧ Inv S I2 J2)
set_option maxRecDepth 100000 in
theorem L_c13 {K : tK} {B : tB} (hO : tKO K B RL cL_law 4) (hR : kR K = room_1) {b N : Nat} {xs : Nat → Int32} (hX : va_X b N xs (ks K) (ks K).heap) (hbl : b < (ks K).heap.size) (hbA : ¬ B.2 ≤ b) {n : Nat} {Inv : tSH → tHI → tHJ → Prop} (hT : tInvT Inv) (hs : tSt_fault n Inv) {cl sl : Nat} (hcl : cl + 16 ≤ 600000 ∧ sl + 467 ≤ 7302250) {v : Int32} (h1 : vp_in (v + 1) N) (h2 : vp_in (v + 2) N) (h3 : vp_in (v + 3) N) (h4 : vp_in (v + 4) N) (h5 : vp_in (v + 5) N) {S : tSH} {I : tHI} {J : tHJ} (hI : Inv S I J) (hnext : ∀ S2 I2 J2, Inv S2 I2 J2 → tWG K B (cl + 16) (sl + 467) S2 I2 J2 1208 (tLL b v) []) : tWG K B cl sl S I J 577 (tLL b v) [] := by
  obtain ⟨hG, t0, t61⟩ := hT _ _ _ hI
  have h := hs S I J  hI
  refine gBk (pe := 578) hO [o0 (.aload_n 1)] (by decide +kernel) (show tWG K B cl sl S I J 578 (tLL b v) [vR 0] from ?_)
  refine lCVi hO (M11_fault t0) hc11_fault (idx := 71) (w := 1070) (by decide +kernel) hR ⟨by omega, by omega, by omega, by omega⟩ t0 ⟨by decide, rfl⟩ (vs := []) (st := []) ⟨rfl, Nat.le_of_ble_eq_true rfl, rfl⟩ (by decide +kernel) (fun x u hu => ?_)
  obtain ⟨e1, e2⟩ := hu
  subst e1 e2
  refine gBk (pe := 582) hO [o0 (.aload_n 2)] (by decide +kernel) (show tWG K B (cl + 0) (sl + 0) S I J 582 (tLL b v) [vR 61, vI (V11_fault S I J)] from ?_)
  refine lCVi hO (M12_fault t61 h) hc12_fault (idx := 74) (w := 1075) (by decide +kernel) hR ⟨by omega, by omega, by omega, by omega⟩ t61 ⟨by decide, rfl⟩ (vs := []) (st := [vI (V11_fault S I J)]) ⟨rfl, Nat.le_of_ble_eq_true rfl, rfl⟩ (by decide +kernel) (fun y u hu => ?_)
  obtain ⟨S2, I2, J2⟩ := u
  obtain ⟨e1, e2, h⟩ := hu
  replace e1 : S2 = S := e1
  subst e1
  replace h : Inv S2 I2 J2 := h
  refine gIcEq hO (off := 623) (tgt := 1208) (by decide +kernel) (by decide) (fun c1 => ?_) (fun c1 => absurd e2 c1)
  exact gWiden (by omega) (by omega) (hnext _ _ _ h)
def tSt_stopped (n : Nat) (Inv : tSH → tHI → tHJ → Prop) : Prop := ∀ (S : tSH) (I : tHI) (J : tHJ), Inv S I J → F12_stopped n S I J (fun y I2 J2 => V11_stopped S I J = y ∧ Inv S I2 J2)
set_option maxRecDepth 100000 in
theorem L_c14 {K : tK} {B : tB} (hO : tKO K B RL cL_law 4) (hR : kR K = room_1) {b N : Nat} {xs : Nat → Int32} (hX : va_X b N xs (ks K) (ks K).heap) (hbl : b < (ks K).heap.size) (hbA : ¬ B.2 ≤ b) {n : Nat} {Inv : tSH → tHI → tHJ → Prop} (hT : tInvT Inv) (hs : tSt_stopped n Inv) {cl sl : Nat} (hcl : cl + 16 ≤ 600000 ∧ sl + 467 ≤ 7302250) {v : Int32} (h1 : vp_in (v + 1) N) (h2 : vp_in (v + 2) N) (h3 : vp_in (v + 3) N) (h4 : vp_in (v + 4) N) (h5 : vp_in (v + 5) N) {S : tSH} {I : tHI} {J : tHJ} (hI : Inv S I J) (hnext : ∀ S2 I2 J2, Inv S2 I2 J2 → tWG K B (cl + 16) (sl + 467) S2 I2 J2 1208 (tLL b v) []) : tWG K B cl sl S I J 590 (tLL b v) [] := by
  obtain ⟨hG, t0, t61⟩ := hT _ _ _ hI
  have h := hs S I J  hI
  refine gBk (pe := 591) hO [o0 (.aload_n 1)] (by decide +kernel) (show tWG K B cl sl S I J 591 (tLL b v) [vR 0] from ?_)
  refine lCVi hO (M11_stopped t0) hc11_stopped (idx := 75) (w := 1079) (by decide +kernel) hR ⟨by omega, by omega, by omega, by omega⟩ t0 ⟨by decide, rfl⟩ (vs := []) (st := []) ⟨rfl, Nat.le_of_ble_eq_true rfl, rfl⟩ (by decide +kernel) (fun x u hu => ?_)
  obtain ⟨e1, e2⟩ := hu
  subst e1 e2
  refine gBk (pe := 595) hO [o0 (.aload_n 2)] (by decide +kernel) (show tWG K B (cl + 0) (sl + 0) S I J 595 (tLL b v) [vR 61, vI (V11_stopped S I J)] from ?_)
  refine lCVi hO (M12_stopped t61 h) hc12_stopped (idx := 78) (w := 1083) (by decide +kernel) hR ⟨by omega, by omega, by omega, by omega⟩ t61 ⟨by decide, rfl⟩ (vs := []) (st := [vI (V11_stopped S I J)]) ⟨rfl, Nat.le_of_ble_eq_true rfl, rfl⟩ (by decide +kernel) (fun y u hu => ?_)
  obtain ⟨S2, I2, J2⟩ := u
  obtain ⟨e1, e2, h⟩ := hu
  replace e1 : S2 = S := e1
  subst e1
  replace h : Inv S2 I2 J2 := h
  refine gIcEq hO (off := 610) (tgt := 1208) (by decide +kernel) (by decide) (fun c1 => ?_) (fun c1 => absurd e2 c1)
  exact gWiden (by omega) (by omega) (hnext _ _ _ h)
def tSt_force (n : Nat) (Inv : tSH → tHI → tHJ → Prop) : Prop := ∀ (S : tSH) (I : tHI) (J : tHJ) (v1 : Int32) , Inv S I J → F11_force n S I J v1 (fun x I1 J1 => F12_force n S I1 J1 v1 (fun y I2 J2 => x = y ∧ Inv S I2 J2))
set_option maxRecDepth 100000 in
theorem L_c15 {K : tK} {B : tB} (hO : tKO K B RL cL_law 4) (hR : kR K = room_1) {b N : Nat} {xs : Nat → Int32} (hX : va_X b N xs (ks K) (ks K).heap) (hbl : b < (ks K).heap.size) (hbA : ¬ B.2 ≤ b) {n : Nat} {Inv : tSH → tHI → tHJ → Prop} (hT : tInvT Inv) (hs : tSt_force n Inv) {cl sl : Nat} (hcl : cl + 16 ≤ 600000 ∧ sl + 467 ≤ 7302250) {v : Int32} (h1 : vp_in (v + 1) N) (h2 : vp_in (v + 2) N) (h3 : vp_in (v + 3) N) (h4 : vp_in (v + 4) N) (h5 : vp_in (v + 5) N) {S : tSH} {I : tHI} {J : tHJ} (hI : Inv S I J) (hnext : ∀ S2 I2 J2, Inv S2 I2 J2 → tWG K B (cl + 16) (sl + 467) S2 I2 J2 1208 (tLL b v) []) : tWG K B cl sl S I J 603 (tLL b v) [] := by
  obtain ⟨hG, t0, t61⟩ := hT _ _ _ hI
  have h := hs S I J (xs (v + 1).toNatClampNeg) hI
  refine gBk (pe := 608) hO [o0 (.aload_n 1), o0 (.aload_n 0), o0 (.iload_n 3), oI (.iconst 1) 1, o0 .iadd] (by decide +kernel) (show tWG K B cl sl S I J 608 (tLL b v) [vI (v + 1), vA b, vR 0] from ?_)
  refine s_sld hO hX hbl hbA h1 (by decide +kernel) ?_
  refine lCVi hO (M11_force t0 h) hc11_force (idx := 79) (w := 1087) (by decide +kernel) hR ⟨by omega, by omega, by omega, by omega⟩ t0 ⟨by decide, rfl⟩ (vs := [vI (xs (v + 1).toNatClampNeg)]) (st := []) ⟨rfl, Nat.le_of_ble_eq_true rfl, rfl⟩ (by decide +kernel) (fun x u hu => ?_)
  obtain ⟨S1, I1, J1⟩ := u
  obtain ⟨e1, h⟩ := hu
  replace e1 : S1 = S := e1
  subst e1
  replace h : F12_force n S1 I1 J1 (xs (v + 1).toNatClampNeg) (fun y I2 J2 => x = y ∧ Inv S1 I2 J2) := h
  refine gBk (pe := 617) hO [o0 (.aload_n 2), o0 (.aload_n 0), o0 (.iload_n 3), oI (.iconst 1) 1, o0 .iadd] (by decide +kernel) (show tWG K B (cl + 0) (sl + 0) S1 I1 J1 617 (tLL b v) [vI (v + 1), vA b, vR 61, vI x] from ?_)
  refine s_sld hO hX hbl hbA h1 (by decide +kernel) ?_
  refine lCVi hO (M12_force t61 h) hc12_force (idx := 82) (w := 1092) (by decide +kernel) hR ⟨by omega, by omega, by omega, by omega⟩ t61 ⟨by decide, rfl⟩ (vs := [vI (xs (v + 1).toNatClampNeg)]) (st := [vI x]) ⟨rfl, Nat.le_of_ble_eq_true rfl, rfl⟩ (by decide +kernel) (fun y u hu => ?_)
  obtain ⟨S2, I2, J2⟩ := u
  obtain ⟨e1, e2, h⟩ := hu
  replace e1 : S2 = S1 := e1
  subst e1
  replace h : Inv S2 I2 J2 := h
  refine gIcEq hO (off := 587) (tgt := 1208) (by decide +kernel) (by decide) (fun c1 => ?_) (fun c1 => absurd e2 c1)
  exact gWiden (by omega) (by omega) (hnext _ _ _ h)
def tSt_gas (n : Nat) (Inv : tSH → tHI → tHJ → Prop) : Prop := ∀ (S : tSH) (I : tHI) (J : tHJ) (v1 : Int32) , Inv S I J → F11_gas n S I J v1 (fun x I1 J1 => F12_gas n S I1 J1 v1 (fun y I2 J2 => x = y ∧ Inv S I2 J2))
set_option maxRecDepth 100000 in
theorem L_c16 {K : tK} {B : tB} (hO : tKO K B RL cL_law 4) (hR : kR K = room_1) {b N : Nat} {xs : Nat → Int32} (hX : va_X b N xs (ks K) (ks K).heap) (hbl : b < (ks K).heap.size) (hbA : ¬ B.2 ≤ b) {n : Nat} {Inv : tSH → tHI → tHJ → Prop} (hT : tInvT Inv) (hs : tSt_gas n Inv) {cl sl : Nat} (hcl : cl + 16 ≤ 600000 ∧ sl + 467 ≤ 7302250) {v : Int32} (h1 : vp_in (v + 1) N) (h2 : vp_in (v + 2) N) (h3 : vp_in (v + 3) N) (h4 : vp_in (v + 4) N) (h5 : vp_in (v + 5) N) {S : tSH} {I : tHI} {J : tHJ} (hI : Inv S I J) (hnext : ∀ S2 I2 J2, Inv S2 I2 J2 → tWG K B (cl + 16) (sl + 467) S2 I2 J2 1208 (tLL b v) []) : tWG K B cl sl S I J 626 (tLL b v) [] := by
  obtain ⟨hG, t0, t61⟩ := hT _ _ _ hI
  have h := hs S I J (xs (v + 1).toNatClampNeg) hI
  refine gBk (pe := 631) hO [o0 (.aload_n 1), o0 (.aload_n 0), o0 (.iload_n 3), oI (.iconst 1) 1, o0 .iadd] (by decide +kernel) (show tWG K B cl sl S I J 631 (tLL b v) [vI (v + 1), vA b, vR 0] from ?_)
  refine s_sld hO hX hbl hbA h1 (by decide +kernel) ?_
  refine lCVi hO (M11_gas t0 h) hc11_gas (idx := 83) (w := 1096) (by decide +kernel) hR ⟨by omega, by omega, by omega, by omega⟩ t0 ⟨by decide, rfl⟩ (vs := [vI (xs (v + 1).toNatClampNeg)]) (st := []) ⟨rfl, Nat.le_of_ble_eq_true rfl, rfl⟩ (by decide +kernel) (fun x u hu => ?_)
  obtain ⟨S1, I1, J1⟩ := u
  obtain ⟨e1, h⟩ := hu
  replace e1 : S1 = S := e1
  subst e1
  replace h : F12_gas n S1 I1 J1 (xs (v + 1).toNatClampNeg) (fun y I2 J2 => x = y ∧ Inv S1 I2 J2) := h
  refine gBk (pe := 640) hO [o0 (.aload_n 2), o0 (.aload_n 0), o0 (.iload_n 3), oI (.iconst 1) 1, o0 .iadd] (by decide +kernel) (show tWG K B (cl + 0) (sl + 0) S1 I1 J1 640 (tLL b v) [vI (v + 1), vA b, vR 61, vI x] from ?_)
  refine s_sld hO hX hbl hbA h1 (by decide +kernel) ?_
  refine lCVi hO (M12_gas t61 h) hc12_gas (idx := 86) (w := 1100) (by decide +kernel) hR ⟨by omega, by omega, by omega, by omega⟩ t61 ⟨by decide, rfl⟩ (vs := [vI (xs (v + 1).toNatClampNeg)]) (st := [vI x]) ⟨rfl, Nat.le_of_ble_eq_true rfl, rfl⟩ (by decide +kernel) (fun y u hu => ?_)
  obtain ⟨S2, I2, J2⟩ := u
  obtain ⟨e1, e2, h⟩ := hu
  replace e1 : S2 = S1 := e1
  subst e1
  replace h : Inv S2 I2 J2 := h
  refine gIcEq hO (off := 564) (tgt := 1208) (by decide +kernel) (by decide) (fun c1 => ?_) (fun c1 => absurd e2 c1)
  exact gWiden (by omega) (by omega) (hnext _ _ _ h)
def tSt_brake (n : Nat) (Inv : tSH → tHI → tHJ → Prop) : Prop := ∀ (S : tSH) (I : tHI) (J : tHJ) (v1 : Int32) , Inv S I J → F11_brake n S I J v1 (fun x I1 J1 => F12_brake n S I1 J1 v1 (fun y I2 J2 => x = y ∧ Inv S I2 J2))
set_option maxRecDepth 100000 in
theorem L_c17 {K : tK} {B : tB} (hO : tKO K B RL cL_law 4) (hR : kR K = room_1) {b N : Nat} {xs : Nat → Int32} (hX : va_X b N xs (ks K) (ks K).heap) (hbl : b < (ks K).heap.size) (hbA : ¬ B.2 ≤ b) {n : Nat} {Inv : tSH → tHI → tHJ → Prop} (hT : tInvT Inv) (hs : tSt_brake n Inv) {cl sl : Nat} (hcl : cl + 16 ≤ 600000 ∧ sl + 467 ≤ 7302250) {v : Int32} (h1 : vp_in (v + 1) N) (h2 : vp_in (v + 2) N) (h3 : vp_in (v + 3) N) (h4 : vp_in (v + 4) N) (h5 : vp_in (v + 5) N) {S : tSH} {I : tHI} {J : tHJ} (hI : Inv S I J) (hnext : ∀ S2 I2 J2, Inv S2 I2 J2 → tWG K B (cl + 16) (sl + 467) S2 I2 J2 1208 (tLL b v) []) : tWG K B cl sl S I J 649 (tLL b v) [] := by
  obtain ⟨hG, t0, t61⟩ := hT _ _ _ hI
  have h := hs S I J (xs (v + 1).toNatClampNeg) hI
  refine gBk (pe := 654) hO [o0 (.aload_n 1), o0 (.aload_n 0), o0 (.iload_n 3), oI (.iconst 1) 1, o0 .iadd] (by decide +kernel) (show tWG K B cl sl S I J 654 (tLL b v) [vI (v + 1), vA b, vR 0] from ?_)
  refine s_sld hO hX hbl hbA h1 (by decide +kernel) ?_
  refine lCVi hO (M11_brake t0 h) hc11_brake (idx := 87) (w := 1104) (by decide +kernel) hR ⟨by omega, by omega, by omega, by omega⟩ t0 ⟨by decide, rfl⟩ (vs := [vI (xs (v + 1).toNatClampNeg)]) (st := []) ⟨rfl, Nat.le_of_ble_eq_true rfl, rfl⟩ (by decide +kernel) (fun x u hu => ?_)
  obtain ⟨S1, I1, J1⟩ := u
  obtain ⟨e1, h⟩ := hu
  replace e1 : S1 = S := e1
  subst e1
  replace h : F12_brake n S1 I1 J1 (xs (v + 1).toNatClampNeg) (fun y I2 J2 => x = y ∧ Inv S1 I2 J2) := h
  refine gBk (pe := 663) hO [o0 (.aload_n 2), o0 (.aload_n 0), o0 (.iload_n 3), oI (.iconst 1) 1, o0 .iadd] (by decide +kernel) (show tWG K B (cl + 0) (sl + 0) S1 I1 J1 663 (tLL b v) [vI (v + 1), vA b, vR 61, vI x] from ?_)
  refine s_sld hO hX hbl hbA h1 (by decide +kernel) ?_
  refine lCVi hO (M12_brake t61 h) hc12_brake (idx := 90) (w := 1108) (by decide +kernel) hR ⟨by omega, by omega, by omega, by omega⟩ t61 ⟨by decide, rfl⟩ (vs := [vI (xs (v + 1).toNatClampNeg)]) (st := [vI x]) ⟨rfl, Nat.le_of_ble_eq_true rfl, rfl⟩ (by decide +kernel) (fun y u hu => ?_)
  obtain ⟨S2, I2, J2⟩ := u
  obtain ⟨e1, e2, h⟩ := hu
  replace e1 : S2 = S1 := e1
  subst e1
  replace h : Inv S2 I2 J2 := h
  refine gIcEq hO (off := 541) (tgt := 1208) (by decide +kernel) (by decide) (fun c1 => ?_) (fun c1 => absurd e2 c1)
  exact gWiden (by omega) (by omega) (hnext _ _ _ h)
def tSt_lane (n : Nat) (Inv : tSH → tHI → tHJ → Prop) : Prop := ∀ (S : tSH) (I : tHI) (J : tHJ) (v1 : Int32) , Inv S I J → F11_lane n S I J v1 (fun x I1 J1 => F12_lane n S I1 J1 v1 (fun y I2 J2 => x = y ∧ Inv S I2 J2))
set_option maxRecDepth 100000 in
theorem L_c18 {K : tK} {B : tB} (hO : tKO K B RL cL_law 4) (hR : kR K = room_1) {b N : Nat} {xs : Nat → Int32} (hX : va_X b N xs (ks K) (ks K).heap) (hbl : b < (ks K).heap.size) (hbA : ¬ B.2 ≤ b) {n : Nat} {Inv : tSH → tHI → tHJ → Prop} (hT : tInvT Inv) (hs : tSt_lane n Inv) {cl sl : Nat} (hcl : cl + 16 ≤ 600000 ∧ sl + 467 ≤ 7302250) {v : Int32} (h1 : vp_in (v + 1) N) (h2 : vp_in (v + 2) N) (h3 : vp_in (v + 3) N) (h4 : vp_in (v + 4) N) (h5 : vp_in (v + 5) N) {S : tSH} {I : tHI} {J : tHJ} (hI : Inv S I J) (hnext : ∀ S2 I2 J2, Inv S2 I2 J2 → tWG K B (cl + 16) (sl + 467) S2 I2 J2 1208 (tLL b v) []) : tWG K B cl sl S I J 672 (tLL b v) [] := by
  obtain ⟨hG, t0, t61⟩ := hT _ _ _ hI
  have h := hs S I J (xs (v + 1).toNatClampNeg) hI
  refine gBk (pe := 677) hO [o0 (.aload_n 1), o0 (.aload_n 0), o0 (.iload_n 3), oI (.iconst 1) 1, o0 .iadd] (by decide +kernel) (show tWG K B cl sl S I J 677 (tLL b v) [vI (v + 1), vA b, vR 0] from ?_)
  refine s_sld hO hX hbl hbA h1 (by decide +kernel) ?_
  refine lCVi hO (M11_lane t0 h) hc11_lane (idx := 91) (w := 1112) (by decide +kernel) hR ⟨by omega, by omega, by omega, by omega⟩ t0 ⟨by decide, rfl⟩ (vs := [vI (xs (v + 1).toNatClampNeg)]) (st := []) ⟨rfl, Nat.le_of_ble_eq_true rfl, rfl⟩ (by decide +kernel) (fun x u hu => ?_)
  obtain ⟨S1, I1, J1⟩ := u
  obtain ⟨e1, h⟩ := hu
  replace e1 : S1 = S := e1
  subst e1
  replace h : F12_lane n S1 I1 J1 (xs (v + 1).toNatClampNeg) (fun y I2 J2 => x = y ∧ Inv S1 I2 J2) := h
  refine gBk (pe := 686) hO [o0 (.aload_n 2), o0 (.aload_n 0), o0 (.iload_n 3), oI (.iconst 1) 1, o0 .iadd] (by decide +kernel) (show tWG K B (cl + 0) (sl + 0) S1 I1 J1 686 (tLL b v) [vI (v + 1), vA b, vR 61, vI x] from ?_)
  refine s_sld hO hX hbl hbA h1 (by decide +kernel) ?_
  refine lCVi hO (M12_lane t61 h) hc12_lane (idx := 94) (w := 1116) (by decide +kernel) hR ⟨by omega, by omega, by omega, by omega⟩ t61 ⟨by decide, rfl⟩ (vs := [vI (xs (v + 1).toNatClampNeg)]) (st := [vI x]) ⟨rfl, Nat.le_of_ble_eq_true rfl, rfl⟩ (by decide +kernel) (fun y u hu => ?_)
  obtain ⟨S2, I2, J2⟩ := u
  obtain ⟨e1, e2, h⟩ := hu
  replace e1 : S2 = S1 := e1
  subst e1
  replace h : Inv S2 I2 J2 := h
  refine gIcEq hO (off := 518) (tgt := 1208) (by decide +kernel) (by decide) (fun c1 => ?_) (fun c1 => absurd e2 c1)
  exact gWiden (by omega) (by omega) (hnext _ _ _ h)
def tSt_put (n : Nat) (Inv : tSH → tHI → tHJ → Prop) : Prop := ∀ (S : tSH) (I : tHI) (J : tHJ) (v1 : Int32) (v2 : Int32) , Inv S I J → F11_put n S I J v1 v2 (fun x I1 J1 => F12_put n S I1 J1 v1 v2 (fun y I2 J2 => x = y ∧ Inv S I2 J2))
set_option maxRecDepth 100000 in
theorem L_c19 {K : tK} {B : tB} (hO : tKO K B RL cL_law 4) (hR : kR K = room_1) {b N : Nat} {xs : Nat → Int32} (hX : va_X b N xs (ks K) (ks K).heap) (hbl : b < (ks K).heap.size) (hbA : ¬ B.2 ≤ b) {n : Nat} {Inv : tSH → tHI → tHJ → Prop} (hT : tInvT Inv) (hs : tSt_put n Inv) {cl sl : Nat} (hcl : cl + 16 ≤ 600000 ∧ sl + 467 ≤ 7302250) {v : Int32} (h1 : vp_in (v + 1) N) (h2 : vp_in (v + 2) N) (h3 : vp_in (v + 3) N) (h4 : vp_in (v + 4) N) (h5 : vp_in (v + 5) N) {S : tSH} {I : tHI} {J : tHJ} (hI : Inv S I J) (hnext : ∀ S2 I2 J2, Inv S2 I2 J2 → tWG K B (cl + 16) (sl + 467) S2 I2 J2 1208 (tLL b v) []) : tWG K B cl sl S I J 695 (tLL b v) [] := by
  obtain ⟨hG, t0, t61⟩ := hT _ _ _ hI
  have h := hs S I J (xs (v + 1).toNatClampNeg) (xs (v + 2).toNatClampNeg) hI
  refine gBk (pe := 700) hO [o0 (.aload_n 1), o0 (.aload_n 0), o0 (.iload_n 3), oI (.iconst 1) 1, o0 .iadd] (by decide +kernel) (show tWG K B cl sl S I J 700 (tLL b v) [vI (v + 1), vA b, vR 0] from ?_)
  refine s_sld hO hX hbl hbA h1 (by decide +kernel) ?_
  refine gBk (pe := 705) hO [o0 (.aload_n 0), o0 (.iload_n 3), oI (.iconst 2) 2, o0 .iadd] (by decide +kernel) (show tWG K B cl sl S I J 705 (tLL b v) [vI (v + 2), vA b, vI (xs (v + 1).toNatClampNeg), vR 0] from ?_)
  refine s_sld hO hX hbl hbA h2 (by decide +kernel) ?_
  refine lCVi hO (M11_put t0 h) hc11_put (idx := 95) (w := 1120) (by decide +kernel) hR ⟨by omega, by omega, by omega, by omega⟩ t0 ⟨by decide, rfl⟩ (vs := [vI (xs (v + 1).toNatClampNeg), vI (xs (v + 2).toNatClampNeg)]) (st := []) ⟨rfl, Nat.le_of_ble_eq_true rfl, rfl⟩ (by decide +kernel) (fun x u hu => ?_)
  obtain ⟨S1, I1, J1⟩ := u
  obtain ⟨e1, h⟩ := hu
  replace e1 : S1 = S := e1
  subst e1
  replace h : F12_put n S1 I1 J1 (xs (v + 1).toNatClampNeg) (xs (v + 2).toNatClampNeg) (fun y I2 J2 => x = y ∧ Inv S1 I2 J2) := h
  refine gBk (pe := 714) hO [o0 (.aload_n 2), o0 (.aload_n 0), o0 (.iload_n 3), oI (.iconst 1) 1, o0 .iadd] (by decide +kernel) (show tWG K B (cl + 0) (sl + 0) S1 I1 J1 714 (tLL b v) [vI (v + 1), vA b, vR 61, vI x] from ?_)
  refine s_sld hO hX hbl hbA h1 (by decide +kernel) ?_
  refine gBk (pe := 719) hO [o0 (.aload_n 0), o0 (.iload_n 3), oI (.iconst 2) 2, o0 .iadd] (by decide +kernel) (show tWG K B (cl + 0) (sl + 0) S1 I1 J1 719 (tLL b v) [vI (v + 2), vA b, vI (xs (v + 1).toNatClampNeg), vR 61, vI x] from ?_)
  refine s_sld hO hX hbl hbA h2 (by decide +kernel) ?_
  refine lCVi hO (M12_put t61 h) hc12_put (idx := 98) (w := 1124) (by decide +kernel) hR ⟨by omega, by omega, by omega, by omega⟩ t61 ⟨by decide, rfl⟩ (vs := [vI (xs (v + 1).toNatClampNeg), vI (xs (v + 2).toNatClampNeg)]) (st := [vI x]) ⟨rfl, Nat.le_of_ble_eq_true rfl, rfl⟩ (by decide +kernel) (fun y u hu => ?_)
  obtain ⟨S2, I2, J2⟩ := u
  obtain ⟨e1, e2, h⟩ := hu
  replace e1 : S2 = S1 := e1
  subst e1
  replace h : Inv S2 I2 J2 := h
  refine gIcEq hO (off := 485) (tgt := 1208) (by decide +kernel) (by decide) (fun c1 => ?_) (fun c1 => absurd e2 c1)
  exact gWiden (by omega) (by omega) (hnext _ _ _ h)
def tSt_lean (n : Nat) (Inv : tSH → tHI → tHJ → Prop) : Prop := ∀ (S : tSH) (I : tHI) (J : tHJ) (v1 : Int32) (v2 : Int32) , Inv S I J → F11_lean n S I J v1 v2 (fun x I1 J1 => F12_lean n S I1 J1 v1 v2 (fun y I2 J2 => x = y ∧ Inv S I2 J2))
set_option maxRecDepth 100000 in
theorem L_c20 {K : tK} {B : tB} (hO : tKO K B RL cL_law 4) (hR : kR K = room_1) {b N : Nat} {xs : Nat → Int32} (hX : va_X b N xs (ks K) (ks K).heap) (hbl : b < (ks K).heap.size) (hbA : ¬ B.2 ≤ b) {n : Nat} {Inv : tSH → tHI → tHJ → Prop} (hT : tInvT Inv) (hs : tSt_lean n Inv) {cl sl : Nat} (hcl : cl + 16 ≤ 600000 ∧ sl + 467 ≤ 7302250) {v : Int32} (h1 : vp_in (v + 1) N) (h2 : vp_in (v + 2) N) (h3 : vp_in (v + 3) N) (h4 : vp_in (v + 4) N) (h5 : vp_in (v + 5) N) {S : tSH} {I : tHI} {J : tHJ} (hI : Inv S I J) (hnext : ∀ S2 I2 J2, Inv S2 I2 J2 → tWG K B (cl + 16) (sl + 467) S2 I2 J2 1208 (tLL b v) []) : tWG K B cl sl S I J 728 (tLL b v) [] := by
  obtain ⟨hG, t0, t61⟩ := hT _ _ _ hI
  have h := hs S I J (xs (v + 1).toNatClampNeg) (xs (v + 2).toNatClampNeg) hI
  refine gBk (pe := 733) hO [o0 (.aload_n 1), o0 (.aload_n 0), o0 (.iload_n 3), oI (.iconst 1) 1, o0 .iadd] (by decide +kernel) (show tWG K B cl sl S I J 733 (tLL b v) [vI (v + 1), vA b, vR 0] from ?_)
  refine s_sld hO hX hbl hbA h1 (by decide +kernel) ?_
  refine gBk (pe := 738) hO [o0 (.aload_n 0), o0 (.iload_n 3), oI (.iconst 2) 2, o0 .iadd] (by decide +kernel) (show tWG K B cl sl S I J 738 (tLL b v) [vI (v + 2), vA b, vI (xs (v + 1).toNatClampNeg), vR 0] from ?_)
  refine s_sld hO hX hbl hbA h2 (by decide +kernel) ?_
  refine lCVi hO (M11_lean t0 h) hc11_lean (idx := 99) (w := 1128) (by decide +kernel) hR ⟨by omega, by omega, by omega, by omega⟩ t0 ⟨by decide, rfl⟩ (vs := [vI (xs (v + 1).toNatClampNeg), vI (xs (v + 2).toNatClampNeg)]) (st := []) ⟨rfl, Nat.le_of_ble_eq_true rfl, rfl⟩ (by decide +kernel) (fun x u hu => ?_)
  obtain ⟨S1, I1, J1⟩ := u
  obtain ⟨e1, h⟩ := hu
  replace e1 : S1 = S := e1
  subst e1
  replace h : F12_lean n S1 I1 J1 (xs (v + 1).toNatClampNeg) (xs (v + 2).toNatClampNeg) (fun y I2 J2 => x = y ∧ Inv S1 I2 J2) := h
  refine gBk (pe := 747) hO [o0 (.aload_n 2), o0 (.aload_n 0), o0 (.iload_n 3), oI (.iconst 1) 1, o0 .iadd] (by decide +kernel) (show tWG K B (cl + 0) (sl + 0) S1 I1 J1 747 (tLL b v) [vI (v + 1), vA b, vR 61, vI x] from ?_)
  refine s_sld hO hX hbl hbA h1 (by decide +kernel) ?_
  refine gBk (pe := 752) hO [o0 (.aload_n 0), o0 (.iload_n 3), oI (.iconst 2) 2, o0 .iadd] (by decide +kernel) (show tWG K B (cl + 0) (sl + 0) S1 I1 J1 752 (tLL b v) [vI (v + 2), vA b, vI (xs (v + 1).toNatClampNeg), vR 61, vI x] from ?_)
  refine s_sld hO hX hbl hbA h2 (by decide +kernel) ?_
  refine lCVi hO (M12_lean t61 h) hc12_lean (idx := 102) (w := 1132) (by decide +kernel) hR ⟨by omega, by omega, by omega, by omega⟩ t61 ⟨by decide, rfl⟩ (vs := [vI (xs (v + 1).toNatClampNeg), vI (xs (v + 2).toNatClampNeg)]) (st := [vI x]) ⟨rfl, Nat.le_of_ble_eq_true rfl, rfl⟩ (by decide +kernel) (fun y u hu => ?_)
  obtain ⟨S2, I2, J2⟩ := u
  obtain ⟨e1, e2, h⟩ := hu
  replace e1 : S2 = S1 := e1
  subst e1
  replace h : Inv S2 I2 J2 := h
  refine gIcEq hO (off := 452) (tgt := 1208) (by decide +kernel) (by decide) (fun c1 => ?_) (fun c1 => absurd e2 c1)
  exact gWiden (by omega) (by omega) (hnext _ _ _ h)
def tSt_ride (n : Nat) (Inv : tSH → tHI → tHJ → Prop) : Prop := ∀ (S : tSH) (I : tHI) (J : tHJ) , Inv S I J → F11_ride n S I J (fun x I1 J1 => F12_ride n S I1 J1 (fun y I2 J2 => x = y ∧ Inv S I2 J2))
set_option maxRecDepth 100000 in
theorem L_c21 {K : tK} {B : tB} (hO : tKO K B RL cL_law 4) (hR : kR K = room_1) {b N : Nat} {xs : Nat → Int32} (hX : va_X b N xs (ks K) (ks K).heap) (hbl : b < (ks K).heap.size) (hbA : ¬ B.2 ≤ b) {n : Nat} {Inv : tSH → tHI → tHJ → Prop} (hT : tInvT Inv) (hs : tSt_ride n Inv) {cl sl : Nat} (hcl : cl + 16 ≤ 600000 ∧ sl + 467 ≤ 7302250) {v : Int32} (h1 : vp_in (v + 1) N) (h2 : vp_in (v + 2) N) (h3 : vp_in (v + 3) N) (h4 : vp_in (v + 4) N) (h5 : vp_in (v + 5) N) {S : tSH} {I : tHI} {J : tHJ} (hI : Inv S I J) (hnext : ∀ S2 I2 J2, Inv S2 I2 J2 → tWG K B (cl + 16) (sl + 467) S2 I2 J2 1208 (tLL b v) []) : tWG K B cl sl S I J 761 (tLL b v) [] := by
  obtain ⟨hG, t0, t61⟩ := hT _ _ _ hI
  have h := hs S I J  hI
  refine gBk (pe := 762) hO [o0 (.aload_n 1)] (by decide +kernel) (show tWG K B cl sl S I J 762 (tLL b v) [vR 0] from ?_)
  refine lCVi hO (M11_ride t0 h) hc11_ride (idx := 103) (w := 1136) (by decide +kernel) hR ⟨by omega, by omega, by omega, by omega⟩ t0 ⟨by decide, rfl⟩ (vs := []) (st := []) ⟨rfl, Nat.le_of_ble_eq_true rfl, rfl⟩ (by decide +kernel) (fun x u hu => ?_)
  obtain ⟨S1, I1, J1⟩ := u
  obtain ⟨e1, h⟩ := hu
  replace e1 : S1 = S := e1
  subst e1
  replace h : F12_ride n S1 I1 J1 (fun y I2 J2 => x = y ∧ Inv S1 I2 J2) := h
  refine gBk (pe := 766) hO [o0 (.aload_n 2)] (by decide +kernel) (show tWG K B (cl + 0) (sl + 0) S1 I1 J1 766 (tLL b v) [vR 61, vI x] from ?_)
  refine lCVi hO (M12_ride t61 h) hc12_ride (idx := 106) (w := 1140) (by decide +kernel) hR ⟨by omega, by omega, by omega, by omega⟩ t61 ⟨by decide, rfl⟩ (vs := []) (st := [vI x]) ⟨rfl, Nat.le_of_ble_eq_true rfl, rfl⟩ (by decide +kernel) (fun y u hu => ?_)
  obtain ⟨S2, I2, J2⟩ := u
  obtain ⟨e1, e2, h⟩ := hu
  replace e1 : S2 = S1 := e1
  subst e1
  replace h : Inv S2 I2 J2 := h
  refine gIcEq hO (off := 439) (tgt := 1208) (by decide +kernel) (by decide) (fun c1 => ?_) (fun c1 => absurd e2 c1)
  exact gWiden (by omega) (by omega) (hnext _ _ _ h)
def tSt_undo (n : Nat) (Inv : tSH → tHI → tHJ → Prop) : Prop := ∀ (S : tSH) (I : tHI) (J : tHJ) , Inv S I J → F11_undo n S I J (fun x I1 J1 => F12_undo n S I1 J1 (fun y I2 J2 => x = y ∧ Inv S I2 J2))
set_option maxRecDepth 100000 in
theorem L_c22 {K : tK} {B : tB} (hO : tKO K B RL cL_law 4) (hR : kR K = room_1) {b N : Nat} {xs : Nat → Int32} (hX : va_X b N xs (ks K) (ks K).heap) (hbl : b < (ks K).heap.size) (hbA : ¬ B.2 ≤ b) {n : Nat} {Inv : tSH → tHI → tHJ → Prop} (hT : tInvT Inv) (hs : tSt_undo n Inv) {cl sl : Nat} (hcl : cl + 16 ≤ 600000 ∧ sl + 467 ≤ 7302250) {v : Int32} (h1 : vp_in (v + 1) N) (h2 : vp_in (v + 2) N) (h3 : vp_in (v + 3) N) (h4 : vp_in (v + 4) N) (h5 : vp_in (v + 5) N) {S : tSH} {I : tHI} {J : tHJ} (hI : Inv S I J) (hnext : ∀ S2 I2 J2, Inv S2 I2 J2 → tWG K B (cl + 16) (sl + 467) S2 I2 J2 1208 (tLL b v) []) : tWG K B cl sl S I J 774 (tLL b v) [] := by
  obtain ⟨hG, t0, t61⟩ := hT _ _ _ hI
  have h := hs S I J  hI
  refine gBk (pe := 775) hO [o0 (.aload_n 1)] (by decide +kernel) (show tWG K B cl sl S I J 775 (tLL b v) [vR 0] from ?_)
  refine lCVi hO (M11_undo t0 h) hc11_undo (idx := 107) (w := 1144) (by decide +kernel) hR ⟨by omega, by omega, by omega, by omega⟩ t0 ⟨by decide, rfl⟩ (vs := []) (st := []) ⟨rfl, Nat.le_of_ble_eq_true rfl, rfl⟩ (by decide +kernel) (fun x u hu => ?_)
  obtain ⟨S1, I1, J1⟩ := u
  obtain ⟨e1, h⟩ := hu
  replace e1 : S1 = S := e1
  subst e1
  replace h : F12_undo n S1 I1 J1 (fun y I2 J2 => x = y ∧ Inv S1 I2 J2) := h
  refine gBk (pe := 779) hO [o0 (.aload_n 2)] (by decide +kernel) (show tWG K B (cl + 0) (sl + 0) S1 I1 J1 779 (tLL b v) [vR 61, vI x] from ?_)
  refine lCVi hO (M12_undo t61 h) hc12_undo (idx := 110) (w := 1152) (by decide +kernel) hR ⟨by omega, by omega, by omega, by omega⟩ t61 ⟨by decide, rfl⟩ (vs := []) (st := [vI x]) ⟨rfl, Nat.le_of_ble_eq_true rfl, rfl⟩ (by decide +kernel) (fun y u hu => ?_)
  obtain ⟨S2, I2, J2⟩ := u
  obtain ⟨e1, e2, h⟩ := hu
  replace e1 : S2 = S1 := e1
  subst e1
  replace h : Inv S2 I2 J2 := h
  refine gIcEq hO (off := 426) (tgt := 1208) (by decide +kernel) (by decide) (fun c1 => ?_) (fun c1 => absurd e2 c1)
  exact gWiden (by omega) (by omega) (hnext _ _ _ h)
def tSt_goes (n : Nat) (Inv : tSH → tHI → tHJ → Prop) : Prop := ∀ (S : tSH) (I : tHI) (J : tHJ) (v1 : Int32) (v2 : Int32) , Inv S I J → F11_goes n S I J v1 v2 (fun x I1 J1 => F12_goes n S I1 J1 v1 v2 (fun y I2 J2 => x = y ∧ Inv S I2 J2))
set_option maxRecDepth 100000 in
theorem L_c23 {K : tK} {B : tB} (hO : tKO K B RL cL_law 4) (hR : kR K = room_1) {b N : Nat} {xs : Nat → Int32} (hX : va_X b N xs (ks K) (ks K).heap) (hbl : b < (ks K).heap.size) (hbA : ¬ B.2 ≤ b) {n : Nat} {Inv : tSH → tHI → tHJ → Prop} (hT : tInvT Inv) (hs : tSt_goes n Inv) {cl sl : Nat} (hcl : cl + 16 ≤ 600000 ∧ sl + 467 ≤ 7302250) {v : Int32} (h1 : vp_in (v + 1) N) (h2 : vp_in (v + 2) N) (h3 : vp_in (v + 3) N) (h4 : vp_in (v + 4) N) (h5 : vp_in (v + 5) N) {S : tSH} {I : tHI} {J : tHJ} (hI : Inv S I J) (hnext : ∀ S2 I2 J2, Inv S2 I2 J2 → tWG K B (cl + 16) (sl + 467) S2 I2 J2 1208 (tLL b v) []) : tWG K B cl sl S I J 787 (tLL b v) [] := by
  obtain ⟨hG, t0, t61⟩ := hT _ _ _ hI
  have h := hs S I J (xs (v + 1).toNatClampNeg) (xs (v + 2).toNatClampNeg) hI
  refine gBk (pe := 792) hO [o0 (.aload_n 1), o0 (.aload_n 0), o0 (.iload_n 3), oI (.iconst 1) 1, o0 .iadd] (by decide +kernel) (show tWG K B cl sl S I J 792 (tLL b v) [vI (v + 1), vA b, vR 0] from ?_)
  refine s_sld hO hX hbl hbA h1 (by decide +kernel) ?_
  refine gBk (pe := 797) hO [o0 (.aload_n 0), o0 (.iload_n 3), oI (.iconst 2) 2, o0 .iadd] (by decide +kernel) (show tWG K B cl sl S I J 797 (tLL b v) [vI (v + 2), vA b, vI (xs (v + 1).toNatClampNeg), vR 0] from ?_)
  refine s_sld hO hX hbl hbA h2 (by decide +kernel) ?_
  refine lCVi hO (M11_goes t0 h) hc11_goes (idx := 111) (w := 1156) (by decide +kernel) hR ⟨by omega, by omega, by omega, by omega⟩ t0 ⟨by decide, rfl⟩ (vs := [vI (xs (v + 1).toNatClampNeg), vI (xs (v + 2).toNatClampNeg)]) (st := []) ⟨rfl, Nat.le_of_ble_eq_true rfl, rfl⟩ (by decide +kernel) (fun x u hu => ?_)
  obtain ⟨S1, I1, J1⟩ := u
  obtain ⟨e1, h⟩ := hu
  replace e1 : S1 = S := e1
  subst e1
  replace h : F12_goes n S1 I1 J1 (xs (v + 1).toNatClampNeg) (xs (v + 2).toNatClampNeg) (fun y I2 J2 => x = y ∧ Inv S1 I2 J2) := h
  refine gBk (pe := 806) hO [o0 (.aload_n 2), o0 (.aload_n 0), o0 (.iload_n 3), oI (.iconst 1) 1, o0 .iadd] (by decide +kernel) (show tWG K B (cl + 0) (sl + 0) S1 I1 J1 806 (tLL b v) [vI (v + 1), vA b, vR 61, vI x] from ?_)
  refine s_sld hO hX hbl hbA h1 (by decide +kernel) ?_
  refine gBk (pe := 811) hO [o0 (.aload_n 0), o0 (.iload_n 3), oI (.iconst 2) 2, o0 .iadd] (by decide +kernel) (show tWG K B (cl + 0) (sl + 0) S1 I1 J1 811 (tLL b v) [vI (v + 2), vA b, vI (xs (v + 1).toNatClampNeg), vR 61, vI x] from ?_)
  refine s_sld hO hX hbl hbA h2 (by decide +kernel) ?_
  refine lCVi hO (M12_goes t61 h) hc12_goes (idx := 114) (w := 1160) (by decide +kernel) hR ⟨by omega, by omega, by omega, by omega⟩ t61 ⟨by decide, rfl⟩ (vs := [vI (xs (v + 1).toNatClampNeg), vI (xs (v + 2).toNatClampNeg)]) (st := [vI x]) ⟨rfl, Nat.le_of_ble_eq_true rfl, rfl⟩ (by decide +kernel) (fun y u hu => ?_)
  obtain ⟨S2, I2, J2⟩ := u
  obtain ⟨e1, e2, h⟩ := hu
  replace e1 : S2 = S1 := e1
  subst e1
  replace h : Inv S2 I2 J2 := h
  refine gIcEq hO (off := 393) (tgt := 1208) (by decide +kernel) (by decide) (fun c1 => ?_) (fun c1 => absurd e2 c1)
  exact gWiden (by omega) (by omega) (hnext _ _ _ h)
def tSt_quick (n : Nat) (Inv : tSH → tHI → tHJ → Prop) : Prop := ∀ (S : tSH) (I : tHI) (J : tHJ) (v1 : Int32) (v2 : Int32) , Inv S I J → F11_quick n S I J v1 v2 (fun x I1 J1 => F12_quick n S I1 J1 v1 v2 (fun y I2 J2 => x = y ∧ Inv S I2 J2))
set_option maxRecDepth 100000 in
theorem L_c24 {K : tK} {B : tB} (hO : tKO K B RL cL_law 4) (hR : kR K = room_1) {b N : Nat} {xs : Nat → Int32} (hX : va_X b N xs (ks K) (ks K).heap) (hbl : b < (ks K).heap.size) (hbA : ¬ B.2 ≤ b) {n : Nat} {Inv : tSH → tHI → tHJ → Prop} (hT : tInvT Inv) (hs : tSt_quick n Inv) {cl sl : Nat} (hcl : cl + 16 ≤ 600000 ∧ sl + 467 ≤ 7302250) {v : Int32} (h1 : vp_in (v + 1) N) (h2 : vp_in (v + 2) N) (h3 : vp_in (v + 3) N) (h4 : vp_in (v + 4) N) (h5 : vp_in (v + 5) N) {S : tSH} {I : tHI} {J : tHJ} (hI : Inv S I J) (hnext : ∀ S2 I2 J2, Inv S2 I2 J2 → tWG K B (cl + 16) (sl + 467) S2 I2 J2 1208 (tLL b v) []) : tWG K B cl sl S I J 820 (tLL b v) [] := by
  obtain ⟨hG, t0, t61⟩ := hT _ _ _ hI
  have h := hs S I J (xs (v + 1).toNatClampNeg) (xs (v + 2).toNatClampNeg) hI
  refine gBk (pe := 825) hO [o0 (.aload_n 1), o0 (.aload_n 0), o0 (.iload_n 3), oI (.iconst 1) 1, o0 .iadd] (by decide +kernel) (show tWG K B cl sl S I J 825 (tLL b v) [vI (v + 1), vA b, vR 0] from ?_)
  refine s_sld hO hX hbl hbA h1 (by decide +kernel) ?_
  refine gBk (pe := 830) hO [o0 (.aload_n 0), o0 (.iload_n 3), oI (.iconst 2) 2, o0 .iadd] (by decide +kernel) (show tWG K B cl sl S I J 830 (tLL b v) [vI (v + 2), vA b, vI (xs (v + 1).toNatClampNeg), vR 0] from ?_)
  refine s_sld hO hX hbl hbA h2 (by decide +kernel) ?_
  refine lCVi hO (M11_quick t0 h) hc11_quick (idx := 115) (w := 1164) (by decide +kernel) hR ⟨by omega, by omega, by omega, by omega⟩ t0 ⟨by decide, rfl⟩ (vs := [vI (xs (v + 1).toNatClampNeg), vI (xs (v + 2).toNatClampNeg)]) (st := []) ⟨rfl, Nat.le_of_ble_eq_true rfl, rfl⟩ (by decide +kernel) (fun x u hu => ?_)
  obtain ⟨S1, I1, J1⟩ := u
  obtain ⟨e1, h⟩ := hu
  replace e1 : S1 = S := e1
  subst e1
  replace h : F12_quick n S1 I1 J1 (xs (v + 1).toNatClampNeg) (xs (v + 2).toNatClampNeg) (fun y I2 J2 => x = y ∧ Inv S1 I2 J2) := h
  refine gBk (pe := 839) hO [o0 (.aload_n 2), o0 (.aload_n 0), o0 (.iload_n 3), oI (.iconst 1) 1, o0 .iadd] (by decide +kernel) (show tWG K B (cl + 0) (sl + 0) S1 I1 J1 839 (tLL b v) [vI (v + 1), vA b, vR 61, vI x] from ?_)
  refine s_sld hO hX hbl hbA h1 (by decide +kernel) ?_
  refine gBk (pe := 844) hO [o0 (.aload_n 0), o0 (.iload_n 3), oI (.iconst 2) 2, o0 .iadd] (by decide +kernel) (show tWG K B (cl + 0) (sl + 0) S1 I1 J1 844 (tLL b v) [vI (v + 2), vA b, vI (xs (v + 1).toNatClampNeg), vR 61, vI x] from ?_)
  refine s_sld hO hX hbl hbA h2 (by decide +kernel) ?_
  refine lCVi hO (M12_quick t61 h) hc12_quick (idx := 118) (w := 1178) (by decide +kernel) hR ⟨by omega, by omega, by omega, by omega⟩ t61 ⟨by decide, rfl⟩ (vs := [vI (xs (v + 1).toNatClampNeg), vI (xs (v + 2).toNatClampNeg)]) (st := [vI x]) ⟨rfl, Nat.le_of_ble_eq_true rfl, rfl⟩ (by decide +kernel) (fun y u hu => ?_)
  obtain ⟨S2, I2, J2⟩ := u
  obtain ⟨e1, e2, h⟩ := hu
  replace e1 : S2 = S1 := e1
  subst e1
  replace h : Inv S2 I2 J2 := h
  refine gIcEq hO (off := 360) (tgt := 1208) (by decide +kernel) (by decide) (fun c1 => ?_) (fun c1 => absurd e2 c1)
  exact gWiden (by omega) (by omega) (hnext _ _ _ h)
def tSt_soonest (n : Nat) (Inv : tSH → tHI → tHJ → Prop) : Prop := ∀ (S : tSH) (I : tHI) (J : tHJ) (v1 : Int32) , Inv S I J → F11_soonest n S I J v1 (fun x I1 J1 => F12_soonest n S I1 J1 v1 (fun y I2 J2 => x = y ∧ Inv S I2 J2))
set_option maxRecDepth 100000 in
theorem L_c25 {K : tK} {B : tB} (hO : tKO K B RL cL_law 4) (hR : kR K = room_1) {b N : Nat} {xs : Nat → Int32} (hX : va_X b N xs (ks K) (ks K).heap) (hbl : b < (ks K).heap.size) (hbA : ¬ B.2 ≤ b) {n : Nat} {Inv : tSH → tHI → tHJ → Prop} (hT : tInvT Inv) (hs : tSt_soonest n Inv) {cl sl : Nat} (hcl : cl + 16 ≤ 600000 ∧ sl + 467 ≤ 7302250) {v : Int32} (h1 : vp_in (v + 1) N) (h2 : vp_in (v + 2) N) (h3 : vp_in (v + 3) N) (h4 : vp_in (v + 4) N) (h5 : vp_in (v + 5) N) {S : tSH} {I : tHI} {J : tHJ} (hI : Inv S I J) (hnext : ∀ S2 I2 J2, Inv S2 I2 J2 → tWG K B (cl + 16) (sl + 467) S2 I2 J2 1208 (tLL b v) []) : tWG K B cl sl S I J 853 (tLL b v) [] := by
  obtain ⟨hG, t0, t61⟩ := hT _ _ _ hI
  have h := hs S I J (xs (v + 1).toNatClampNeg) hI
  refine gBk (pe := 858) hO [o0 (.aload_n 1), o0 (.aload_n 0), o0 (.iload_n 3), oI (.iconst 1) 1, o0 .iadd] (by decide +kernel) (show tWG K B cl sl S I J 858 (tLL b v) [vI (v + 1), vA b, vR 0] from ?_)
  refine s_sld hO hX hbl hbA h1 (by decide +kernel) ?_
  refine lCVi hO (M11_soonest t0 h) hc11_soonest (idx := 119) (w := 1190) (by decide +kernel) hR ⟨by omega, by omega, by omega, by omega⟩ t0 ⟨by decide, rfl⟩ (vs := [vI (xs (v + 1).toNatClampNeg)]) (st := []) ⟨rfl, Nat.le_of_ble_eq_true rfl, rfl⟩ (by decide +kernel) (fun x u hu => ?_)
  obtain ⟨S1, I1, J1⟩ := u
  obtain ⟨e1, h⟩ := hu
  replace e1 : S1 = S := e1
  subst e1
  replace h : F12_soonest n S1 I1 J1 (xs (v + 1).toNatClampNeg) (fun y I2 J2 => x = y ∧ Inv S1 I2 J2) := h
  refine gBk (pe := 867) hO [o0 (.aload_n 2), o0 (.aload_n 0), o0 (.iload_n 3), oI (.iconst 1) 1, o0 .iadd] (by decide +kernel) (show tWG K B (cl + 0) (sl + 0) S1 I1 J1 867 (tLL b v) [vI (v + 1), vA b, vR 61, vI x] from ?_)
  refine s_sld hO hX hbl hbA h1 (by decide +kernel) ?_
  refine lCVi hO (M12_soonest t61 h) hc12_soonest (idx := 122) (w := 1217) (by decide +kernel) hR ⟨by omega, by omega, by omega, by omega⟩ t61 ⟨by decide, rfl⟩ (vs := [vI (xs (v + 1).toNatClampNeg)]) (st := [vI x]) ⟨rfl, Nat.le_of_ble_eq_true rfl, rfl⟩ (by decide +kernel) (fun y u hu => ?_)
  obtain ⟨S2, I2, J2⟩ := u
  obtain ⟨e1, e2, h⟩ := hu
  replace e1 : S2 = S1 := e1
  subst e1
  replace h : Inv S2 I2 J2 := h
  refine gIcEq hO (off := 337) (tgt := 1208) (by decide +kernel) (by decide) (fun c1 => ?_) (fun c1 => absurd e2 c1)
  exact gWiden (by omega) (by omega) (hnext _ _ _ h)
def tSt_lanes (n : Nat) (Inv : tSH → tHI → tHJ → Prop) : Prop := ∀ (S : tSH) (I : tHI) (J : tHJ) (v1 : Int32) , Inv S I J → F11_lanes n S I J v1 (fun x I1 J1 => F12_lanes n S I1 J1 v1 (fun y I2 J2 => x = y ∧ Inv S I2 J2))
set_option maxRecDepth 100000 in
theorem L_c26 {K : tK} {B : tB} (hO : tKO K B RL cL_law 4) (hR : kR K = room_1) {b N : Nat} {xs : Nat → Int32} (hX : va_X b N xs (ks K) (ks K).heap) (hbl : b < (ks K).heap.size) (hbA : ¬ B.2 ≤ b) {n : Nat} {Inv : tSH → tHI → tHJ → Prop} (hT : tInvT Inv) (hs : tSt_lanes n Inv) {cl sl : Nat} (hcl : cl + 16 ≤ 600000 ∧ sl + 467 ≤ 7302250) {v : Int32} (h1 : vp_in (v + 1) N) (h2 : vp_in (v + 2) N) (h3 : vp_in (v + 3) N) (h4 : vp_in (v + 4) N) (h5 : vp_in (v + 5) N) {S : tSH} {I : tHI} {J : tHJ} (hI : Inv S I J) (hnext : ∀ S2 I2 J2, Inv S2 I2 J2 → tWG K B (cl + 16) (sl + 467) S2 I2 J2 1208 (tLL b v) []) : tWG K B cl sl S I J 876 (tLL b v) [] := by
  obtain ⟨hG, t0, t61⟩ := hT _ _ _ hI
  have h := hs S I J (xs (v + 1).toNatClampNeg) hI
  refine gBk (pe := 881) hO [o0 (.aload_n 1), o0 (.aload_n 0), o0 (.iload_n 3), oI (.iconst 1) 1, o0 .iadd] (by decide +kernel) (show tWG K B cl sl S I J 881 (tLL b v) [vI (v + 1), vA b, vR 0] from ?_)
  refine s_sld hO hX hbl hbA h1 (by decide +kernel) ?_
  refine lCVi hO (M11_lanes t0 h) hc11_lanes (idx := 123) (w := 1229) (by decide +kernel) hR ⟨by omega, by omega, by omega, by omega⟩ t0 ⟨by decide, rfl⟩ (vs := [vI (xs (v + 1).toNatClampNeg)]) (st := []) ⟨rfl, Nat.le_of_ble_eq_true rfl, rfl⟩ (by decide +kernel) (fun x u hu => ?_)
  obtain ⟨S1, I1, J1⟩ := u
  obtain ⟨e1, h⟩ := hu
  replace e1 : S1 = S := e1
  subst e1
  replace h : F12_lanes n S1 I1 J1 (xs (v + 1).toNatClampNeg) (fun y I2 J2 => x = y ∧ Inv S1 I2 J2) := h
  refine gBk (pe := 890) hO [o0 (.aload_n 2), o0 (.aload_n 0), o0 (.iload_n 3), oI (.iconst 1) 1, o0 .iadd] (by decide +kernel) (show tWG K B (cl + 0) (sl + 0) S1 I1 J1 890 (tLL b v) [vI (v + 1), vA b, vR 61, vI x] from ?_)
  refine s_sld hO hX hbl hbA h1 (by decide +kernel) ?_
  refine lCVi hO (M12_lanes t61 h) hc12_lanes (idx := 126) (w := 1257) (by decide +kernel) hR ⟨by omega, by omega, by omega, by omega⟩ t61 ⟨by decide, rfl⟩ (vs := [vI (xs (v + 1).toNatClampNeg)]) (st := [vI x]) ⟨rfl, Nat.le_of_ble_eq_true rfl, rfl⟩ (by decide +kernel) (fun y u hu => ?_)
  obtain ⟨S2, I2, J2⟩ := u
  obtain ⟨e1, e2, h⟩ := hu
  replace e1 : S2 = S1 := e1
  subst e1
  replace h : Inv S2 I2 J2 := h
  refine gIcEq hO (off := 314) (tgt := 1208) (by decide +kernel) (by decide) (fun c1 => ?_) (fun c1 => absurd e2 c1)
  exact gWiden (by omega) (by omega) (hnext _ _ _ h)
def tSt_leaning (n : Nat) (Inv : tSH → tHI → tHJ → Prop) : Prop := ∀ (S : tSH) (I : tHI) (J : tHJ) (v1 : Int32) (v2 : Int32) , Inv S I J → F11_leaning n S I J v1 v2 (fun x I1 J1 => F12_leaning n S I1 J1 v1 v2 (fun y I2 J2 => x = y ∧ Inv S I2 J2))
set_option maxRecDepth 100000 in
theorem L_c27 {K : tK} {B : tB} (hO : tKO K B RL cL_law 4) (hR : kR K = room_1) {b N : Nat} {xs : Nat → Int32} (hX : va_X b N xs (ks K) (ks K).heap) (hbl : b < (ks K).heap.size) (hbA : ¬ B.2 ≤ b) {n : Nat} {Inv : tSH → tHI → tHJ → Prop} (hT : tInvT Inv) (hs : tSt_leaning n Inv) {cl sl : Nat} (hcl : cl + 16 ≤ 600000 ∧ sl + 467 ≤ 7302250) {v : Int32} (h1 : vp_in (v + 1) N) (h2 : vp_in (v + 2) N) (h3 : vp_in (v + 3) N) (h4 : vp_in (v + 4) N) (h5 : vp_in (v + 5) N) {S : tSH} {I : tHI} {J : tHJ} (hI : Inv S I J) (hnext : ∀ S2 I2 J2, Inv S2 I2 J2 → tWG K B (cl + 16) (sl + 467) S2 I2 J2 1208 (tLL b v) []) : tWG K B cl sl S I J 899 (tLL b v) [] := by
  obtain ⟨hG, t0, t61⟩ := hT _ _ _ hI
  have h := hs S I J (xs (v + 1).toNatClampNeg) (xs (v + 2).toNatClampNeg) hI
  refine gBk (pe := 904) hO [o0 (.aload_n 1), o0 (.aload_n 0), o0 (.iload_n 3), oI (.iconst 1) 1, o0 .iadd] (by decide +kernel) (show tWG K B cl sl S I J 904 (tLL b v) [vI (v + 1), vA b, vR 0] from ?_)
  refine s_sld hO hX hbl hbA h1 (by decide +kernel) ?_
  refine gBk (pe := 909) hO [o0 (.aload_n 0), o0 (.iload_n 3), oI (.iconst 2) 2, o0 .iadd] (by decide +kernel) (show tWG K B cl sl S I J 909 (tLL b v) [vI (v + 2), vA b, vI (xs (v + 1).toNatClampNeg), vR 0] from ?_)
  refine s_sld hO hX hbl hbA h2 (by decide +kernel) ?_
  refine lCVi hO (M11_leaning t0 h) hc11_leaning (idx := 127) (w := 1273) (by decide +kernel) hR ⟨by omega, by omega, by omega, by omega⟩ t0 ⟨by decide, rfl⟩ (vs := [vI (xs (v + 1).toNatClampNeg), vI (xs (v + 2).toNatClampNeg)]) (st := []) ⟨rfl, Nat.le_of_ble_eq_true rfl, rfl⟩ (by decide +kernel) (fun x u hu => ?_)
  obtain ⟨S1, I1, J1⟩ := u
  obtain ⟨e1, h⟩ := hu
  replace e1 : S1 = S := e1
  subst e1
  replace h : F12_leaning n S1 I1 J1 (xs (v + 1).toNatClampNeg) (xs (v + 2).toNatClampNeg) (fun y I2 J2 => x = y ∧ Inv S1 I2 J2) := h
  refine gBk (pe := 918) hO [o0 (.aload_n 2), o0 (.aload_n 0), o0 (.iload_n 3), oI (.iconst 1) 1, o0 .iadd] (by decide +kernel) (show tWG K B (cl + 0) (sl + 0) S1 I1 J1 918 (tLL b v) [vI (v + 1), vA b, vR 61, vI x] from ?_)
  refine s_sld hO hX hbl hbA h1 (by decide +kernel) ?_
  refine gBk (pe := 923) hO [o0 (.aload_n 0), o0 (.iload_n 3), oI (.iconst 2) 2, o0 .iadd] (by decide +kernel) (show tWG K B (cl + 0) (sl + 0) S1 I1 J1 923 (tLL b v) [vI (v + 2), vA b, vI (xs (v + 1).toNatClampNeg), vR 61, vI x] from ?_)
  refine s_sld hO hX hbl hbA h2 (by decide +kernel) ?_
  refine lCVi hO (M12_leaning t61 h) hc12_leaning (idx := 130) (w := 1295) (by decide +kernel) hR ⟨by omega, by omega, by omega, by omega⟩ t61 ⟨by decide, rfl⟩ (vs := [vI (xs (v + 1).toNatClampNeg), vI (xs (v + 2).toNatClampNeg)]) (st := [vI x]) ⟨rfl, Nat.le_of_ble_eq_true rfl, rfl⟩ (by decide +kernel) (fun y u hu => ?_)
  obtain ⟨S2, I2, J2⟩ := u
  obtain ⟨e1, e2, h⟩ := hu
  replace e1 : S2 = S1 := e1
  subst e1
  replace h : Inv S2 I2 J2 := h
  refine gIcEq hO (off := 281) (tgt := 1208) (by decide +kernel) (by decide) (fun c1 => ?_) (fun c1 => absurd e2 c1)
  exact gWiden (by omega) (by omega) (hnext _ _ _ h)
def tSt_putting (n : Nat) (Inv : tSH → tHI → tHJ → Prop) : Prop := ∀ (S : tSH) (I : tHI) (J : tHJ) (v1 : Int32) , Inv S I J → F11_putting n S I J v1 (fun x I1 J1 => F12_putting n S I1 J1 v1 (fun y I2 J2 => x = y ∧ Inv S I2 J2))
set_option maxRecDepth 100000 in
theorem L_c28 {K : tK} {B : tB} (hO : tKO K B RL cL_law 4) (hR : kR K = room_1) {b N : Nat} {xs : Nat → Int32} (hX : va_X b N xs (ks K) (ks K).heap) (hbl : b < (ks K).heap.size) (hbA : ¬ B.2 ≤ b) {n : Nat} {Inv : tSH → tHI → tHJ → Prop} (hT : tInvT Inv) (hs : tSt_putting n Inv) {cl sl : Nat} (hcl : cl + 16 ≤ 600000 ∧ sl + 467 ≤ 7302250) {v : Int32} (h1 : vp_in (v + 1) N) (h2 : vp_in (v + 2) N) (h3 : vp_in (v + 3) N) (h4 : vp_in (v + 4) N) (h5 : vp_in (v + 5) N) {S : tSH} {I : tHI} {J : tHJ} (hI : Inv S I J) (hnext : ∀ S2 I2 J2, Inv S2 I2 J2 → tWG K B (cl + 16) (sl + 467) S2 I2 J2 1208 (tLL b v) []) : tWG K B cl sl S I J 932 (tLL b v) [] := by
  obtain ⟨hG, t0, t61⟩ := hT _ _ _ hI
  have h := hs S I J (xs (v + 1).toNatClampNeg) hI
  refine gBk (pe := 937) hO [o0 (.aload_n 1), o0 (.aload_n 0), o0 (.iload_n 3), oI (.iconst 1) 1, o0 .iadd] (by decide +kernel) (show tWG K B cl sl S I J 937 (tLL b v) [vI (v + 1), vA b, vR 0] from ?_)
  refine s_sld hO hX hbl hbA h1 (by decide +kernel) ?_
  refine lCVi hO (M11_putting t0 h) hc11_putting (idx := 131) (w := 1303) (by decide +kernel) hR ⟨by omega, by omega, by omega, by omega⟩ t0 ⟨by decide, rfl⟩ (vs := [vI (xs (v + 1).toNatClampNeg)]) (st := []) ⟨rfl, Nat.le_of_ble_eq_true rfl, rfl⟩ (by decide +kernel) (fun x u hu => ?_)
  obtain ⟨S1, I1, J1⟩ := u
  obtain ⟨e1, h⟩ := hu
  replace e1 : S1 = S := e1
  subst e1
  replace h : F12_putting n S1 I1 J1 (xs (v + 1).toNatClampNeg) (fun y I2 J2 => x = y ∧ Inv S1 I2 J2) := h
  refine gBk (pe := 946) hO [o0 (.aload_n 2), o0 (.aload_n 0), o0 (.iload_n 3), oI (.iconst 1) 1, o0 .iadd] (by decide +kernel) (show tWG K B (cl + 0) (sl + 0) S1 I1 J1 946 (tLL b v) [vI (v + 1), vA b, vR 61, vI x] from ?_)
  refine s_sld hO hX hbl hbA h1 (by decide +kernel) ?_
  refine lCVi hO (M12_putting t61 h) hc12_putting (idx := 134) (w := 1321) (by decide +kernel) hR ⟨by omega, by omega, by omega, by omega⟩ t61 ⟨by decide, rfl⟩ (vs := [vI (xs (v + 1).toNatClampNeg)]) (st := [vI x]) ⟨rfl, Nat.le_of_ble_eq_true rfl, rfl⟩ (by decide +kernel) (fun y u hu => ?_)
  obtain ⟨S2, I2, J2⟩ := u
  obtain ⟨e1, e2, h⟩ := hu
  replace e1 : S2 = S1 := e1
  subst e1
  replace h : Inv S2 I2 J2 := h
  refine gIcEq hO (off := 258) (tgt := 1208) (by decide +kernel) (by decide) (fun c1 => ?_) (fun c1 => absurd e2 c1)
  exact gWiden (by omega) (by omega) (hnext _ _ _ h)
def tSt_setting (n : Nat) (Inv : tSH → tHI → tHJ → Prop) : Prop := ∀ (S : tSH) (I : tHI) (J : tHJ) (v1 : Int32) , Inv S I J → F11_setting n S I J v1 (fun x I1 J1 => F12_setting n S I1 J1 v1 (fun y I2 J2 => x = y ∧ Inv S I2 J2))
set_option maxRecDepth 100000 in
theorem L_c29 {K : tK} {B : tB} (hO : tKO K B RL cL_law 4) (hR : kR K = room_1) {b N : Nat} {xs : Nat → Int32} (hX : va_X b N xs (ks K) (ks K).heap) (hbl : b < (ks K).heap.size) (hbA : ¬ B.2 ≤ b) {n : Nat} {Inv : tSH → tHI → tHJ → Prop} (hT : tInvT Inv) (hs : tSt_setting n Inv) {cl sl : Nat} (hcl : cl + 16 ≤ 600000 ∧ sl + 467 ≤ 7302250) {v : Int32} (h1 : vp_in (v + 1) N) (h2 : vp_in (v + 2) N) (h3 : vp_in (v + 3) N) (h4 : vp_in (v + 4) N) (h5 : vp_in (v + 5) N) {S : tSH} {I : tHI} {J : tHJ} (hI : Inv S I J) (hnext : ∀ S2 I2 J2, Inv S2 I2 J2 → tWG K B (cl + 16) (sl + 467) S2 I2 J2 1208 (tLL b v) []) : tWG K B cl sl S I J 955 (tLL b v) [] := by
  obtain ⟨hG, t0, t61⟩ := hT _ _ _ hI
  have h := hs S I J (xs (v + 1).toNatClampNeg) hI
  refine gBk (pe := 960) hO [o0 (.aload_n 1), o0 (.aload_n 0), o0 (.iload_n 3), oI (.iconst 1) 1, o0 .iadd] (by decide +kernel) (show tWG K B cl sl S I J 960 (tLL b v) [vI (v + 1), vA b, vR 0] from ?_)
  refine s_sld hO hX hbl hbA h1 (by decide +kernel) ?_
  refine lCVi hO (M11_setting t0 h) hc11_setting (idx := 135) (w := 1329) (by decide +kernel) hR ⟨by omega, by omega, by omega, by omega⟩ t0 ⟨by decide, rfl⟩ (vs := [vI (xs (v + 1).toNatClampNeg)]) (st := []) ⟨rfl, Nat.le_of_ble_eq_true rfl, rfl⟩ (by decide +kernel) (fun x u hu => ?_)
  obtain ⟨S1, I1, J1⟩ := u
  obtain ⟨e1, h⟩ := hu
  replace e1 : S1 = S := e1
  subst e1
  replace h : F12_setting n S1 I1 J1 (xs (v + 1).toNatClampNeg) (fun y I2 J2 => x = y ∧ Inv S1 I2 J2) := h
  refine gBk (pe := 969) hO [o0 (.aload_n 2), o0 (.aload_n 0), o0 (.iload_n 3), oI (.iconst 1) 1, o0 .iadd] (by decide +kernel) (show tWG K B (cl + 0) (sl + 0) S1 I1 J1 969 (tLL b v) [vI (v + 1), vA b, vR 61, vI x] from ?_)
  refine s_sld hO hX hbl hbA h1 (by decide +kernel) ?_
  refine lCVi hO (M12_setting t61 h) hc12_setting (idx := 138) (w := 1340) (by decide +kernel) hR ⟨by omega, by omega, by omega, by omega⟩ t61 ⟨by decide, rfl⟩ (vs := [vI (xs (v + 1).toNatClampNeg)]) (st := [vI x]) ⟨rfl, Nat.le_of_ble_eq_true rfl, rfl⟩ (by decide +kernel) (fun y u hu => ?_)
  obtain ⟨S2, I2, J2⟩ := u
  obtain ⟨e1, e2, h⟩ := hu
  replace e1 : S2 = S1 := e1
  subst e1
  replace h : Inv S2 I2 J2 := h
  refine gIcEq hO (off := 235) (tgt := 1208) (by decide +kernel) (by decide) (fun c1 => ?_) (fun c1 => absurd e2 c1)
  exact gWiden (by omega) (by omega) (hnext _ _ _ h)
def tSt_learning (n : Nat) (Inv : tSH → tHI → tHJ → Prop) : Prop := ∀ (S : tSH) (I : tHI) (J : tHJ) , Inv S I J → F11_learning n S I J (fun x I1 J1 => F12_learning n S I1 J1 (fun y I2 J2 => x = y ∧ Inv S I2 J2))
set_option maxRecDepth 100000 in
theorem L_c30 {K : tK} {B : tB} (hO : tKO K B RL cL_law 4) (hR : kR K = room_1) {b N : Nat} {xs : Nat → Int32} (hX : va_X b N xs (ks K) (ks K).heap) (hbl : b < (ks K).heap.size) (hbA : ¬ B.2 ≤ b) {n : Nat} {Inv : tSH → tHI → tHJ → Prop} (hT : tInvT Inv) (hs : tSt_learning n Inv) {cl sl : Nat} (hcl : cl + 16 ≤ 600000 ∧ sl + 467 ≤ 7302250) {v : Int32} (h1 : vp_in (v + 1) N) (h2 : vp_in (v + 2) N) (h3 : vp_in (v + 3) N) (h4 : vp_in (v + 4) N) (h5 : vp_in (v + 5) N) {S : tSH} {I : tHI} {J : tHJ} (hI : Inv S I J) (hnext : ∀ S2 I2 J2, Inv S2 I2 J2 → tWG K B (cl + 16) (sl + 467) S2 I2 J2 1208 (tLL b v) []) : tWG K B cl sl S I J 978 (tLL b v) [] := by
  obtain ⟨hG, t0, t61⟩ := hT _ _ _ hI
  have h := hs S I J  hI
  refine gBk (pe := 979) hO [o0 (.aload_n 1)] (by decide +kernel) (show tWG K B cl sl S I J 979 (tLL b v) [vR 0] from ?_)
  refine lCVi hO (M11_learning t0 h) hc11_learning (idx := 139) (w := 1344) (by decide +kernel) hR ⟨by omega, by omega, by omega, by omega⟩ t0 ⟨by decide, rfl⟩ (vs := []) (st := []) ⟨rfl, Nat.le_of_ble_eq_true rfl, rfl⟩ (by decide +kernel) (fun x u hu => ?_)
  obtain ⟨S1, I1, J1⟩ := u
  obtain ⟨e1, h⟩ := hu
  replace e1 : S1 = S := e1
  subst e1
  replace h : F12_learning n S1 I1 J1 (fun y I2 J2 => x = y ∧ Inv S1 I2 J2) := h
  refine gBk (pe := 983) hO [o0 (.aload_n 2)] (by decide +kernel) (show tWG K B (cl + 0) (sl + 0) S1 I1 J1 983 (tLL b v) [vR 61, vI x] from ?_)
  refine lCVi hO (M12_learning t61 h) hc12_learning (idx := 142) (w := 1353) (by decide +kernel) hR ⟨by omega, by omega, by omega, by omega⟩ t61 ⟨by decide, rfl⟩ (vs := []) (st := [vI x]) ⟨rfl, Nat.le_of_ble_eq_true rfl, rfl⟩ (by decide +kernel) (fun y u hu => ?_)
  obtain ⟨S2, I2, J2⟩ := u
  obtain ⟨e1, e2, h⟩ := hu
  replace e1 : S2 = S1 := e1
  subst e1
  replace h : Inv S2 I2 J2 := h
  refine gIcEq hO (off := 222) (tgt := 1208) (by decide +kernel) (by decide) (fun c1 => ?_) (fun c1 => absurd e2 c1)
  exact gWiden (by omega) (by omega) (hnext _ _ _ h)
def tSt_sight (n : Nat) (Inv : tSH → tHI → tHJ → Prop) : Prop := ∀ (S : tSH) (I : tHI) (J : tHJ) (v1 : Int32) (v2 : Int32) (v3 : Int32) , Inv S I J → F11_sight n S I J v1 v2 v3 (fun x I1 J1 => F12_sight n S I1 J1 v1 v2 v3 (fun y I2 J2 => x = y ∧ Inv S I2 J2))
set_option maxRecDepth 100000 in
theorem L_c31 {K : tK} {B : tB} (hO : tKO K B RL cL_law 4) (hR : kR K = room_1) {b N : Nat} {xs : Nat → Int32} (hX : va_X b N xs (ks K) (ks K).heap) (hbl : b < (ks K).heap.size) (hbA : ¬ B.2 ≤ b) {n : Nat} {Inv : tSH → tHI → tHJ → Prop} (hT : tInvT Inv) (hs : tSt_sight n Inv) {cl sl : Nat} (hcl : cl + 16 ≤ 600000 ∧ sl + 467 ≤ 7302250) {v : Int32} (h1 : vp_in (v + 1) N) (h2 : vp_in (v + 2) N) (h3 : vp_in (v + 3) N) (h4 : vp_in (v + 4) N) (h5 : vp_in (v + 5) N) {S : tSH} {I : tHI} {J : tHJ} (hI : Inv S I J) (hnext : ∀ S2 I2 J2, Inv S2 I2 J2 → tWG K B (cl + 16) (sl + 467) S2 I2 J2 1208 (tLL b v) []) : tWG K B cl sl S I J 991 (tLL b v) [] := by
  obtain ⟨hG, t0, t61⟩ := hT _ _ _ hI
  have h := hs S I J (xs (v + 1).toNatClampNeg) (xs (v + 2).toNatClampNeg) (xs (v + 3).toNatClampNeg) hI
  refine gBk (pe := 996) hO [o0 (.aload_n 1), o0 (.aload_n 0), o0 (.iload_n 3), oI (.iconst 1) 1, o0 .iadd] (by decide +kernel) (show tWG K B cl sl S I J 996 (tLL b v) [vI (v + 1), vA b, vR 0] from ?_)
  refine s_sld hO hX hbl hbA h1 (by decide +kernel) ?_
  refine gBk (pe := 1001) hO [o0 (.aload_n 0), o0 (.iload_n 3), oI (.iconst 2) 2, o0 .iadd] (by decide +kernel) (show tWG K B cl sl S I J 1001 (tLL b v) [vI (v + 2), vA b, vI (xs (v + 1).toNatClampNeg), vR 0] from ?_)
  refine s_sld hO hX hbl hbA h2 (by decide +kernel) ?_
  refine gBk (pe := 1006) hO [o0 (.aload_n 0), o0 (.iload_n 3), oI (.iconst 3) 3, o0 .iadd] (by decide +kernel) (show tWG K B cl sl S I J 1006 (tLL b v) [vI (v + 3), vA b, vI (xs (v + 2).toNatClampNeg), vI (xs (v + 1).toNatClampNeg), vR 0] from ?_)
  refine s_sld hO hX hbl hbA h3 (by decide +kernel) ?_
  refine lCVi hO (M11_sight t0 h) hc11_sight (idx := 143) (w := 1357) (by decide +kernel) hR ⟨by omega, by omega, by omega, by omega⟩ t0 ⟨by decide, rfl⟩ (vs := [vI (xs (v + 1).toNatClampNeg), vI (xs (v + 2).toNatClampNeg), vI (xs (v + 3).toNatClampNeg)]) (st := []) ⟨rfl, Nat.le_of_ble_eq_true rfl, rfl⟩ (by decide +kernel) (fun x u hu => ?_)
  obtain ⟨S1, I1, J1⟩ := u
  obtain ⟨e1, h⟩ := hu
  replace e1 : S1 = S := e1
  subst e1
  replace h : F12_sight n S1 I1 J1 (xs (v + 1).toNatClampNeg) (xs (v + 2).toNatClampNeg) (xs (v + 3).toNatClampNeg) (fun y I2 J2 => x = y ∧ Inv S1 I2 J2) := h
  refine gBk (pe := 1015) hO [o0 (.aload_n 2), o0 (.aload_n 0), o0 (.iload_n 3), oI (.iconst 1) 1, o0 .iadd] (by decide +kernel) (show tWG K B (cl + 0) (sl + 0) S1 I1 J1 1015 (tLL b v) [vI (v + 1), vA b, vR 61, vI x] from ?_)
  refine s_sld hO hX hbl hbA h1 (by decide +kernel) ?_
  refine gBk (pe := 1020) hO [o0 (.aload_n 0), o0 (.iload_n 3), oI (.iconst 2) 2, o0 .iadd] (by decide +kernel) (show tWG K B (cl + 0) (sl + 0) S1 I1 J1 1020 (tLL b v) [vI (v + 2), vA b, vI (xs (v + 1).toNatClampNeg), vR 61, vI x] from ?_)
  refine s_sld hO hX hbl hbA h2 (by decide +kernel) ?_
  refine gBk (pe := 1025) hO [o0 (.aload_n 0), o0 (.iload_n 3), oI (.iconst 3) 3, o0 .iadd] (by decide +kernel) (show tWG K B (cl + 0) (sl + 0) S1 I1 J1 1025 (tLL b v) [vI (v + 3), vA b, vI (xs (v + 2).toNatClampNeg), vI (xs (v + 1).toNatClampNeg), vR 61, vI x] from ?_)
  refine s_sld hO hX hbl hbA h3 (by decide +kernel) ?_
  refine lCVi hO (M12_sight t61 h) hc12_sight (idx := 146) (w := 1365) (by decide +kernel) hR ⟨by omega, by omega, by omega, by omega⟩ t61 ⟨by decide, rfl⟩ (vs := [vI (xs (v + 1).toNatClampNeg), vI (xs (v + 2).toNatClampNeg), vI (xs (v + 3).toNatClampNeg)]) (st := [vI x]) ⟨rfl, Nat.le_of_ble_eq_true rfl, rfl⟩ (by decide +kernel) (fun y u hu => ?_)
  obtain ⟨S2, I2, J2⟩ := u
  obtain ⟨e1, e2, h⟩ := hu
  replace e1 : S2 = S1 := e1
  subst e1
  replace h : Inv S2 I2 J2 := h
  refine gIcEq hO (off := 179) (tgt := 1208) (by decide +kernel) (by decide) (fun c1 => ?_) (fun c1 => absurd e2 c1)
  exact gWiden (by omega) (by omega) (hnext _ _ _ h)
def tSt_forget (n : Nat) (Inv : tSH → tHI → tHJ → Prop) : Prop := ∀ (S : tSH) (I : tHI) (J : tHJ) , Inv S I J → F11_forget n S I J (fun x I1 J1 => F12_forget n S I1 J1 (fun y I2 J2 => x = y ∧ Inv S I2 J2))
set_option maxRecDepth 100000 in
theorem L_c32 {K : tK} {B : tB} (hO : tKO K B RL cL_law 4) (hR : kR K = room_1) {b N : Nat} {xs : Nat → Int32} (hX : va_X b N xs (ks K) (ks K).heap) (hbl : b < (ks K).heap.size) (hbA : ¬ B.2 ≤ b) {n : Nat} {Inv : tSH → tHI → tHJ → Prop} (hT : tInvT Inv) (hs : tSt_forget n Inv) {cl sl : Nat} (hcl : cl + 16 ≤ 600000 ∧ sl + 467 ≤ 7302250) {v : Int32} (h1 : vp_in (v + 1) N) (h2 : vp_in (v + 2) N) (h3 : vp_in (v + 3) N) (h4 : vp_in (v + 4) N) (h5 : vp_in (v + 5) N) {S : tSH} {I : tHI} {J : tHJ} (hI : Inv S I J) (hnext : ∀ S2 I2 J2, Inv S2 I2 J2 → tWG K B (cl + 16) (sl + 467) S2 I2 J2 1208 (tLL b v) []) : tWG K B cl sl S I J 1034 (tLL b v) [] := by
  obtain ⟨hG, t0, t61⟩ := hT _ _ _ hI
  have h := hs S I J  hI
  refine gBk (pe := 1035) hO [o0 (.aload_n 1)] (by decide +kernel) (show tWG K B cl sl S I J 1035 (tLL b v) [vR 0] from ?_)
  refine lCVi hO (M11_forget t0 h) hc11_forget (idx := 147) (w := 1369) (by decide +kernel) hR ⟨by omega, by omega, by omega, by omega⟩ t0 ⟨by decide, rfl⟩ (vs := []) (st := []) ⟨rfl, Nat.le_of_ble_eq_true rfl, rfl⟩ (by decide +kernel) (fun x u hu => ?_)
  obtain ⟨S1, I1, J1⟩ := u
  obtain ⟨e1, h⟩ := hu
  replace e1 : S1 = S := e1
  subst e1
  replace h : F12_forget n S1 I1 J1 (fun y I2 J2 => x = y ∧ Inv S1 I2 J2) := h
  refine gBk (pe := 1039) hO [o0 (.aload_n 2)] (by decide +kernel) (show tWG K B (cl + 0) (sl + 0) S1 I1 J1 1039 (tLL b v) [vR 61, vI x] from ?_)
  refine lCVi hO (M12_forget t61 h) hc12_forget (idx := 150) (w := 1373) (by decide +kernel) hR ⟨by omega, by omega, by omega, by omega⟩ t61 ⟨by decide, rfl⟩ (vs := []) (st := [vI x]) ⟨rfl, Nat.le_of_ble_eq_true rfl, rfl⟩ (by decide +kernel) (fun y u hu => ?_)
  obtain ⟨S2, I2, J2⟩ := u
  obtain ⟨e1, e2, h⟩ := hu
  replace e1 : S2 = S1 := e1
  subst e1
  replace h : Inv S2 I2 J2 := h
  refine gIcEq hO (off := 166) (tgt := 1208) (by decide +kernel) (by decide) (fun c1 => ?_) (fun c1 => absurd e2 c1)
  exact gWiden (by omega) (by omega) (hnext _ _ _ h)
def tSt_aboard (n : Nat) (Inv : tSH → tHI → tHJ → Prop) : Prop := ∀ (S : tSH) (I : tHI) (J : tHJ) (v1 : Int32) , Inv S I J → F11_aboard n S I J v1 (fun x I1 J1 => F12_aboard n S I1 J1 v1 (fun y I2 J2 => x = y ∧ Inv S I2 J2))
set_option maxRecDepth 100000 in
theorem L_c33 {K : tK} {B : tB} (hO : tKO K B RL cL_law 4) (hR : kR K = room_1) {b N : Nat} {xs : Nat → Int32} (hX : va_X b N xs (ks K) (ks K).heap) (hbl : b < (ks K).heap.size) (hbA : ¬ B.2 ≤ b) {n : Nat} {Inv : tSH → tHI → tHJ → Prop} (hT : tInvT Inv) (hs : tSt_aboard n Inv) {cl sl : Nat} (hcl : cl + 16 ≤ 600000 ∧ sl + 467 ≤ 7302250) {v : Int32} (h1 : vp_in (v + 1) N) (h2 : vp_in (v + 2) N) (h3 : vp_in (v + 3) N) (h4 : vp_in (v + 4) N) (h5 : vp_in (v + 5) N) {S : tSH} {I : tHI} {J : tHJ} (hI : Inv S I J) (hnext : ∀ S2 I2 J2, Inv S2 I2 J2 → tWG K B (cl + 16) (sl + 467) S2 I2 J2 1208 (tLL b v) []) : tWG K B cl sl S I J 1047 (tLL b v) [] := by
  obtain ⟨hG, t0, t61⟩ := hT _ _ _ hI
  have h := hs S I J (xs (v + 1).toNatClampNeg) hI
  refine gBk (pe := 1052) hO [o0 (.aload_n 1), o0 (.aload_n 0), o0 (.iload_n 3), oI (.iconst 1) 1, o0 .iadd] (by decide +kernel) (show tWG K B cl sl S I J 1052 (tLL b v) [vI (v + 1), vA b, vR 0] from ?_)
  refine s_sld hO hX hbl hbA h1 (by decide +kernel) ?_
  refine lCVi hO (M11_aboard t0 h) hc11_aboard (idx := 151) (w := 1377) (by decide +kernel) hR ⟨by omega, by omega, by omega, by omega⟩ t0 ⟨by decide, rfl⟩ (vs := [vI (xs (v + 1).toNatClampNeg)]) (st := []) ⟨rfl, Nat.le_of_ble_eq_true rfl, rfl⟩ (by decide +kernel) (fun x u hu => ?_)
  obtain ⟨S1, I1, J1⟩ := u
  obtain ⟨e1, h⟩ := hu
  replace e1 : S1 = S := e1
  subst e1
  replace h : F12_aboard n S1 I1 J1 (xs (v + 1).toNatClampNeg) (fun y I2 J2 => x = y ∧ Inv S1 I2 J2) := h
  refine gBk (pe := 1061) hO [o0 (.aload_n 2), o0 (.aload_n 0), o0 (.iload_n 3), oI (.iconst 1) 1, o0 .iadd] (by decide +kernel) (show tWG K B (cl + 0) (sl + 0) S1 I1 J1 1061 (tLL b v) [vI (v + 1), vA b, vR 61, vI x] from ?_)
  refine s_sld hO hX hbl hbA h1 (by decide +kernel) ?_
  refine lCVi hO (M12_aboard t61 h) hc12_aboard (idx := 154) (w := 1395) (by decide +kernel) hR ⟨by omega, by omega, by omega, by omega⟩ t61 ⟨by decide, rfl⟩ (vs := [vI (xs (v + 1).toNatClampNeg)]) (st := [vI x]) ⟨rfl, Nat.le_of_ble_eq_true rfl, rfl⟩ (by decide +kernel) (fun y u hu => ?_)
  obtain ⟨S2, I2, J2⟩ := u
  obtain ⟨e1, e2, h⟩ := hu
  replace e1 : S2 = S1 := e1
  subst e1
  replace h : Inv S2 I2 J2 := h
  refine gIcEq hO (off := 143) (tgt := 1208) (by decide +kernel) (by decide) (fun c1 => ?_) (fun c1 => absurd e2 c1)
  exact gWiden (by omega) (by omega) (hnext _ _ _ h)
def tSt_days (n : Nat) (Inv : tSH → tHI → tHJ → Prop) : Prop := ∀ (S : tSH) (I : tHI) (J : tHJ) (v1 : Int32) (v2 : Int32) , Inv S I J → F11_days n S I J v1 v2 (fun x I1 J1 => F12_days n S I1 J1 v1 v2 (fun y I2 J2 => x = y ∧ Inv S I2 J2))
set_option maxRecDepth 100000 in
theorem L_c34 {K : tK} {B : tB} (hO : tKO K B RL cL_law 4) (hR : kR K = room_1) {b N : Nat} {xs : Nat → Int32} (hX : va_X b N xs (ks K) (ks K).heap) (hbl : b < (ks K).heap.size) (hbA : ¬ B.2 ≤ b) {n : Nat} {Inv : tSH → tHI → tHJ → Prop} (hT : tInvT Inv) (hs : tSt_days n Inv) {cl sl : Nat} (hcl : cl + 16 ≤ 600000 ∧ sl + 467 ≤ 7302250) {v : Int32} (h1 : vp_in (v + 1) N) (h2 : vp_in (v + 2) N) (h3 : vp_in (v + 3) N) (h4 : vp_in (v + 4) N) (h5 : vp_in (v + 5) N) {S : tSH} {I : tHI} {J : tHJ} (hI : Inv S I J) (hnext : ∀ S2 I2 J2, Inv S2 I2 J2 → tWG K B (cl + 16) (sl + 467) S2 I2 J2 1208 (tLL b v) []) : tWG K B cl sl S I J 1070 (tLL b v) [] := by
  obtain ⟨hG, t0, t61⟩ := hT _ _ _ hI
  have h := hs S I J (xs (v + 1).toNatClampNeg) (xs (v + 2).toNatClampNeg) hI
  refine gBk (pe := 1075) hO [o0 (.aload_n 1), o0 (.aload_n 0), o0 (.iload_n 3), oI (.iconst 1) 1, o0 .iadd] (by decide +kernel) (show tWG K B cl sl S I J 1075 (tLL b v) [vI (v + 1), vA b, vR 0] from ?_)
  refine s_sld hO hX hbl hbA h1 (by decide +kernel) ?_
  refine gBk (pe := 1080) hO [o0 (.aload_n 0), o0 (.iload_n 3), oI (.iconst 2) 2, o0 .iadd] (by decide +kernel) (show tWG K B cl sl S I J 1080 (tLL b v) [vI (v + 2), vA b, vI (xs (v + 1).toNatClampNeg), vR 0] from ?_)
  refine s_sld hO hX hbl hbA h2 (by decide +kernel) ?_
  refine lCVi hO (M11_days t0 h) hc11_days (idx := 155) (w := 1399) (by decide +kernel) hR ⟨by omega, by omega, by omega, by omega⟩ t0 ⟨by decide, rfl⟩ (vs := [vI (xs (v + 1).toNatClampNeg), vI (xs (v + 2).toNatClampNeg)]) (st := []) ⟨rfl, Nat.le_of_ble_eq_true rfl, rfl⟩ (by decide +kernel) (fun x u hu => ?_)
  obtain ⟨S1, I1, J1⟩ := u
  obtain ⟨e1, h⟩ := hu
  replace e1 : S1 = S := e1
  subst e1
  replace h : F12_days n S1 I1 J1 (xs (v + 1).toNatClampNeg) (xs (v + 2).toNatClampNeg) (fun y I2 J2 => x = y ∧ Inv S1 I2 J2) := h
  refine gBk (pe := 1089) hO [o0 (.aload_n 2), o0 (.aload_n 0), o0 (.iload_n 3), oI (.iconst 1) 1, o0 .iadd] (by decide +kernel) (show tWG K B (cl + 0) (sl + 0) S1 I1 J1 1089 (tLL b v) [vI (v + 1), vA b, vR 61, vI x] from ?_)
  refine s_sld hO hX hbl hbA h1 (by decide +kernel) ?_
  refine gBk (pe := 1094) hO [o0 (.aload_n 0), o0 (.iload_n 3), oI (.iconst 2) 2, o0 .iadd] (by decide +kernel) (show tWG K B (cl + 0) (sl + 0) S1 I1 J1 1094 (tLL b v) [vI (v + 2), vA b, vI (xs (v + 1).toNatClampNeg), vR 61, vI x] from ?_)
  refine s_sld hO hX hbl hbA h2 (by decide +kernel) ?_
  refine lCVi hO (M12_days t61 h) hc12_days (idx := 158) (w := 1408) (by decide +kernel) hR ⟨by omega, by omega, by omega, by omega⟩ t61 ⟨by decide, rfl⟩ (vs := [vI (xs (v + 1).toNatClampNeg), vI (xs (v + 2).toNatClampNeg)]) (st := [vI x]) ⟨rfl, Nat.le_of_ble_eq_true rfl, rfl⟩ (by decide +kernel) (fun y u hu => ?_)
  obtain ⟨S2, I2, J2⟩ := u
  obtain ⟨e1, e2, h⟩ := hu
  replace e1 : S2 = S1 := e1
  subst e1
  replace h : Inv S2 I2 J2 := h
  refine gIcEq hO (off := 110) (tgt := 1208) (by decide +kernel) (by decide) (fun c1 => ?_) (fun c1 => absurd e2 c1)
  exact gWiden (by omega) (by omega) (hnext _ _ _ h)
def tSt_drawn (n : Nat) (Inv : tSH → tHI → tHJ → Prop) : Prop := ∀ (S : tSH) (I : tHI) (J : tHJ) (v1 : Int32) , Inv S I J → F11_drawn n S I J v1 (fun x I1 J1 => F12_drawn n S I1 J1 v1 (fun y I2 J2 => x = y ∧ Inv S I2 J2))
set_option maxRecDepth 100000 in
theorem L_c35 {K : tK} {B : tB} (hO : tKO K B RL cL_law 4) (hR : kR K = room_1) {b N : Nat} {xs : Nat → Int32} (hX : va_X b N xs (ks K) (ks K).heap) (hbl : b < (ks K).heap.size) (hbA : ¬ B.2 ≤ b) {n : Nat} {Inv : tSH → tHI → tHJ → Prop} (hT : tInvT Inv) (hs : tSt_drawn n Inv) {cl sl : Nat} (hcl : cl + 16 ≤ 600000 ∧ sl + 467 ≤ 7302250) {v : Int32} (h1 : vp_in (v + 1) N) (h2 : vp_in (v + 2) N) (h3 : vp_in (v + 3) N) (h4 : vp_in (v + 4) N) (h5 : vp_in (v + 5) N) {S : tSH} {I : tHI} {J : tHJ} (hI : Inv S I J) (hnext : ∀ S2 I2 J2, Inv S2 I2 J2 → tWG K B (cl + 16) (sl + 467) S2 I2 J2 1208 (tLL b v) []) : tWG K B cl sl S I J 1103 (tLL b v) [] := by
  obtain ⟨hG, t0, t61⟩ := hT _ _ _ hI
  have h := hs S I J (xs (v + 1).toNatClampNeg) hI
  refine gBk (pe := 1108) hO [o0 (.aload_n 1), o0 (.aload_n 0), o0 (.iload_n 3), oI (.iconst 1) 1, o0 .iadd] (by decide +kernel) (show tWG K B cl sl S I J 1108 (tLL b v) [vI (v + 1), vA b, vR 0] from ?_)
  refine s_sld hO hX hbl hbA h1 (by decide +kernel) ?_
  refine lCVi hO (M11_drawn t0 h) hc11_drawn (idx := 159) (w := 1422) (by decide +kernel) hR ⟨by omega, by omega, by omega, by omega⟩ t0 ⟨by decide, rfl⟩ (vs := [vI (xs (v + 1).toNatClampNeg)]) (st := []) ⟨rfl, Nat.le_of_ble_eq_true rfl, rfl⟩ (by decide +kernel) (fun x u hu => ?_)
  obtain ⟨S1, I1, J1⟩ := u
  obtain ⟨e1, h⟩ := hu
  replace e1 : S1 = S := e1
  subst e1
  replace h : F12_drawn n S1 I1 J1 (xs (v + 1).toNatClampNeg) (fun y I2 J2 => x = y ∧ Inv S1 I2 J2) := h
  refine gBk (pe := 1117) hO [o0 (.aload_n 2), o0 (.aload_n 0), o0 (.iload_n 3), oI (.iconst 1) 1, o0 .iadd] (by decide +kernel) (show tWG K B (cl + 0) (sl + 0) S1 I1 J1 1117 (tLL b v) [vI (v + 1), vA b, vR 61, vI x] from ?_)
  refine s_sld hO hX hbl hbA h1 (by decide +kernel) ?_
  refine lCVi hO (M12_drawn t61 h) hc12_drawn (idx := 162) (w := 1427) (by decide +kernel) hR ⟨by omega, by omega, by omega, by omega⟩ t61 ⟨by decide, rfl⟩ (vs := [vI (xs (v + 1).toNatClampNeg)]) (st := [vI x]) ⟨rfl, Nat.le_of_ble_eq_true rfl, rfl⟩ (by decide +kernel) (fun y u hu => ?_)
  obtain ⟨S2, I2, J2⟩ := u
  obtain ⟨e1, e2, h⟩ := hu
  replace e1 : S2 = S1 := e1
  subst e1
  replace h : Inv S2 I2 J2 := h
  refine gIcEq hO (off := 87) (tgt := 1208) (by decide +kernel) (by decide) (fun c1 => ?_) (fun c1 => absurd e2 c1)
  exact gWiden (by omega) (by omega) (hnext _ _ _ h)
def tSt_image (n : Nat) (Inv : tSH → tHI → tHJ → Prop) : Prop := ∀ (S : tSH) (I : tHI) (J : tHJ) (v1 : Int32) , Inv S I J → F11_image n S I J v1 (fun x S1 I1 J1 => ty S1 61 12 ∧ F12_image n S1 I1 J1 v1 (fun y I2 J2 => x = y ∧ Inv S1 I2 J2))
set_option maxRecDepth 100000 in
theorem L_c36 {K : tK} {B : tB} (hO : tKO K B RL cL_law 4) (hR : kR K = room_1) {b N : Nat} {xs : Nat → Int32} (hX : va_X b N xs (ks K) (ks K).heap) (hbl : b < (ks K).heap.size) (hbA : ¬ B.2 ≤ b) {n : Nat} {Inv : tSH → tHI → tHJ → Prop} (hT : tInvT Inv) (hs : tSt_image n Inv) {cl sl : Nat} (hcl : cl + 16 ≤ 600000 ∧ sl + 467 ≤ 7302250) {v : Int32} (h1 : vp_in (v + 1) N) (h2 : vp_in (v + 2) N) (h3 : vp_in (v + 3) N) (h4 : vp_in (v + 4) N) (h5 : vp_in (v + 5) N) {S : tSH} {I : tHI} {J : tHJ} (hI : Inv S I J) (hnext : ∀ S2 I2 J2, Inv S2 I2 J2 → tWG K B (cl + 16) (sl + 467) S2 I2 J2 1208 (tLL b v) []) : tWG K B cl sl S I J 1126 (tLL b v) [] := by
  obtain ⟨hG, t0, t61⟩ := hT _ _ _ hI
  have h := hs S I J (xs (v + 1).toNatClampNeg) hI
  refine gBk (pe := 1131) hO [o0 (.aload_n 1), o0 (.aload_n 0), o0 (.iload_n 3), oI (.iconst 1) 1, o0 .iadd] (by decide +kernel) (show tWG K B cl sl S I J 1131 (tLL b v) [vI (v + 1), vA b, vR 0] from ?_)
  refine s_sld hO hX hbl hbA h1 (by decide +kernel) ?_
  refine lCVi hO (M11_image t0 h) hc11_image (idx := 163) (w := 1431) (by decide +kernel) hR ⟨by omega, by omega, by omega, by omega⟩ t0 ⟨by decide, rfl⟩ (vs := [vI (xs (v + 1).toNatClampNeg)]) (st := []) ⟨rfl, Nat.le_of_ble_eq_true rfl, rfl⟩ (by decide +kernel) (fun x u hu => ?_)
  obtain ⟨S1, I1, J1⟩ := u
  obtain ⟨⟨t61, h⟩, -⟩ := hu
  replace t61 : ty S1 61 12 := t61
  replace h : F12_image n S1 I1 J1 (xs (v + 1).toNatClampNeg) (fun y I2 J2 => x = y ∧ Inv S1 I2 J2) := h
  refine gBk (pe := 1140) hO [o0 (.aload_n 2), o0 (.aload_n 0), o0 (.iload_n 3), oI (.iconst 1) 1, o0 .iadd] (by decide +kernel) (show tWG K B (cl + 16) (sl + 131) S1 I1 J1 1140 (tLL b v) [vI (v + 1), vA b, vR 61, vI x] from ?_)
  refine s_sld hO hX hbl hbA h1 (by decide +kernel) ?_
  refine lCVi hO (M12_image t61 h) hc12_image (idx := 166) (w := 1435) (by decide +kernel) hR ⟨by omega, by omega, by omega, by omega⟩ t61 ⟨by decide, rfl⟩ (vs := [vI (xs (v + 1).toNatClampNeg)]) (st := [vI x]) ⟨rfl, Nat.le_of_ble_eq_true rfl, rfl⟩ (by decide +kernel) (fun y u hu => ?_)
  obtain ⟨S2, I2, J2⟩ := u
  obtain ⟨e1, e2, h⟩ := hu
  replace e1 : S2 = S1 := e1
  subst e1
  replace h : Inv S2 I2 J2 := h
  refine gIcEq hO (off := 64) (tgt := 1208) (by decide +kernel) (by decide) (fun c1 => ?_) (fun c1 => absurd e2 c1)
  exact gWiden (by omega) (by omega) (hnext _ _ _ h)
def tSt_back (n : Nat) (Inv : tSH → tHI → tHJ → Prop) : Prop := ∀ (S : tSH) (I : tHI) (J : tHJ) (v1 : Int32) , Inv S I J → F11_back n S I J v1 (fun x S1 I1 J1 => ty S1 61 12 ∧ F12_back n S1 I1 J1 v1 (fun y I2 J2 => x = y ∧ Inv S1 I2 J2))
set_option maxRecDepth 100000 in
theorem L_c37 {K : tK} {B : tB} (hO : tKO K B RL cL_law 4) (hR : kR K = room_1) {b N : Nat} {xs : Nat → Int32} (hX : va_X b N xs (ks K) (ks K).heap) (hbl : b < (ks K).heap.size) (hbA : ¬ B.2 ≤ b) {n : Nat} {Inv : tSH → tHI → tHJ → Prop} (hT : tInvT Inv) (hs : tSt_back n Inv) {cl sl : Nat} (hcl : cl + 16 ≤ 600000 ∧ sl + 467 ≤ 7302250) {v : Int32} (h1 : vp_in (v + 1) N) (h2 : vp_in (v + 2) N) (h3 : vp_in (v + 3) N) (h4 : vp_in (v + 4) N) (h5 : vp_in (v + 5) N) {S : tSH} {I : tHI} {J : tHJ} (hI : Inv S I J) (hnext : ∀ S2 I2 J2, Inv S2 I2 J2 → tWG K B (cl + 16) (sl + 467) S2 I2 J2 1208 (tLL b v) []) : tWG K B cl sl S I J 1149 (tLL b v) [] := by
  obtain ⟨hG, t0, t61⟩ := hT _ _ _ hI
  have h := hs S I J (xs (v + 1).toNatClampNeg) hI
  refine gBk (pe := 1154) hO [o0 (.aload_n 1), o0 (.aload_n 0), o0 (.iload_n 3), oI (.iconst 1) 1, o0 .iadd] (by decide +kernel) (show tWG K B cl sl S I J 1154 (tLL b v) [vI (v + 1), vA b, vR 0] from ?_)
  refine s_sld hO hX hbl hbA h1 (by decide +kernel) ?_
  refine lCVi hO (M11_back t0 h) hc11_back (idx := 167) (w := 1439) (by decide +kernel) hR ⟨by omega, by omega, by omega, by omega⟩ t0 ⟨by decide, rfl⟩ (vs := [vI (xs (v + 1).toNatClampNeg)]) (st := []) ⟨rfl, Nat.le_of_ble_eq_true rfl, rfl⟩ (by decide +kernel) (fun x u hu => ?_)
  obtain ⟨S1, I1, J1⟩ := u
  obtain ⟨⟨t61, h⟩, -⟩ := hu
  replace t61 : ty S1 61 12 := t61
  replace h : F12_back n S1 I1 J1 (xs (v + 1).toNatClampNeg) (fun y I2 J2 => x = y ∧ Inv S1 I2 J2) := h
  refine gBk (pe := 1163) hO [o0 (.aload_n 2), o0 (.aload_n 0), o0 (.iload_n 3), oI (.iconst 1) 1, o0 .iadd] (by decide +kernel) (show tWG K B (cl + 0) (sl + 0) S1 I1 J1 1163 (tLL b v) [vI (v + 1), vA b, vR 61, vI x] from ?_)
  refine s_sld hO hX hbl hbA h1 (by decide +kernel) ?_
  refine lCVi hO (M12_back t61 h) hc12_back (idx := 170) (w := 1443) (by decide +kernel) hR ⟨by omega, by omega, by omega, by omega⟩ t61 ⟨by decide, rfl⟩ (vs := [vI (xs (v + 1).toNatClampNeg)]) (st := [vI x]) ⟨rfl, Nat.le_of_ble_eq_true rfl, rfl⟩ (by decide +kernel) (fun y u hu => ?_)
  obtain ⟨S2, I2, J2⟩ := u
  obtain ⟨e1, e2, h⟩ := hu
  replace e1 : S2 = S1 := e1
  subst e1
  replace h : Inv S2 I2 J2 := h
  refine gIcEq hO (off := 41) (tgt := 1208) (by decide +kernel) (by decide) (fun c1 => ?_) (fun c1 => absurd e2 c1)
  exact gWiden (by omega) (by omega) (hnext _ _ _ h)
def tSt_count (n : Nat) (Inv : tSH → tHI → tHJ → Prop) : Prop := ∀ (S : tSH) (I : tHI) (J : tHJ) (v1 : Int32) , Inv S I J → F11_count n S I J v1 (fun x I1 J1 => F12_count n S I1 J1 v1 (fun y I2 J2 => x = y ∧ Inv S I2 J2))
set_option maxRecDepth 100000 in
theorem L_c38 {K : tK} {B : tB} (hO : tKO K B RL cL_law 4) (hR : kR K = room_1) {b N : Nat} {xs : Nat → Int32} (hX : va_X b N xs (ks K) (ks K).heap) (hbl : b < (ks K).heap.size) (hbA : ¬ B.2 ≤ b) {n : Nat} {Inv : tSH → tHI → tHJ → Prop} (hT : tInvT Inv) (hs : tSt_count n Inv) {cl sl : Nat} (hcl : cl + 16 ≤ 600000 ∧ sl + 467 ≤ 7302250) {v : Int32} (h1 : vp_in (v + 1) N) (h2 : vp_in (v + 2) N) (h3 : vp_in (v + 3) N) (h4 : vp_in (v + 4) N) (h5 : vp_in (v + 5) N) {S : tSH} {I : tHI} {J : tHJ} (hI : Inv S I J) (hnext : ∀ S2 I2 J2, Inv S2 I2 J2 → tWG K B (cl + 16) (sl + 467) S2 I2 J2 1208 (tLL b v) []) : tWG K B cl sl S I J 1172 (tLL b v) [] := by
  obtain ⟨hG, t0, t61⟩ := hT _ _ _ hI
  have h := hs S I J (xs (v + 1).toNatClampNeg) hI
  refine gBk (pe := 1177) hO [o0 (.aload_n 1), o0 (.aload_n 0), o0 (.iload_n 3), oI (.iconst 1) 1, o0 .iadd] (by decide +kernel) (show tWG K B cl sl S I J 1177 (tLL b v) [vI (v + 1), vA b, vR 0] from ?_)
  refine s_sld hO hX hbl hbA h1 (by decide +kernel) ?_
  refine lCVi hO (M11_count t0 h) hc11_count (idx := 171) (w := 1447) (by decide +kernel) hR ⟨by omega, by omega, by omega, by omega⟩ t0 ⟨by decide, rfl⟩ (vs := [vI (xs (v + 1).toNatClampNeg)]) (st := []) ⟨rfl, Nat.le_of_ble_eq_true rfl, rfl⟩ (by decide +kernel) (fun x u hu => ?_)
  obtain ⟨S1, I1, J1⟩ := u
  obtain ⟨e1, h⟩ := hu
  replace e1 : S1 = S := e1
  subst e1
  replace h : F12_count n S1 I1 J1 (xs (v + 1).toNatClampNeg) (fun y I2 J2 => x = y ∧ Inv S1 I2 J2) := h
  refine gBk (pe := 1186) hO [o0 (.aload_n 2), o0 (.aload_n 0), o0 (.iload_n 3), oI (.iconst 1) 1, o0 .iadd] (by decide +kernel) (show tWG K B (cl + 0) (sl + 0) S1 I1 J1 1186 (tLL b v) [vI (v + 1), vA b, vR 61, vI x] from ?_)
  refine s_sld hO hX hbl hbA h1 (by decide +kernel) ?_
  refine lCVi hO (M12_count t61 h) hc12_count (idx := 174) (w := 1451) (by decide +kernel) hR ⟨by omega, by omega, by omega, by omega⟩ t61 ⟨by decide, rfl⟩ (vs := [vI (xs (v + 1).toNatClampNeg)]) (st := [vI x]) ⟨rfl, Nat.le_of_ble_eq_true rfl, rfl⟩ (by decide +kernel) (fun y u hu => ?_)
  obtain ⟨S2, I2, J2⟩ := u
  obtain ⟨e1, e2, h⟩ := hu
  replace e1 : S2 = S1 := e1
  subst e1
  replace h : Inv S2 I2 J2 := h
  refine gIcEq hO (off := 18) (tgt := 1208) (by decide +kernel) (by decide) (fun c1 => ?_) (fun c1 => absurd e2 c1)
  exact gWiden (by omega) (by omega) (hnext _ _ _ h)
def tSt_status (n : Nat) (Inv : tSH → tHI → tHJ → Prop) : Prop := ∀ (S : tSH) (I : tHI) (J : tHJ), Inv S I J → F12_status n S I J (fun y I2 J2 => V11_status S I J = y ∧ Inv S I2 J2)
set_option maxRecDepth 100000 in
theorem L_c39 {K : tK} {B : tB} (hO : tKO K B RL cL_law 4) (hR : kR K = room_1) {b N : Nat} {xs : Nat → Int32} (hX : va_X b N xs (ks K) (ks K).heap) (hbl : b < (ks K).heap.size) (hbA : ¬ B.2 ≤ b) {n : Nat} {Inv : tSH → tHI → tHJ → Prop} (hT : tInvT Inv) (hs : tSt_status n Inv) {cl sl : Nat} (hcl : cl + 16 ≤ 600000 ∧ sl + 467 ≤ 7302250) {v : Int32} (h1 : vp_in (v + 1) N) (h2 : vp_in (v + 2) N) (h3 : vp_in (v + 3) N) (h4 : vp_in (v + 4) N) (h5 : vp_in (v + 5) N) {S : tSH} {I : tHI} {J : tHJ} (hI : Inv S I J) (hnext : ∀ S2 I2 J2, Inv S2 I2 J2 → tWG K B (cl + 16) (sl + 467) S2 I2 J2 1208 (tLL b v) []) : tWG K B cl sl S I J 1195 (tLL b v) [] := by
  obtain ⟨hG, t0, t61⟩ := hT _ _ _ hI
  have h := hs S I J  hI
  refine gBk (pe := 1196) hO [o0 (.aload_n 1)] (by decide +kernel) (show tWG K B cl sl S I J 1196 (tLL b v) [vR 0] from ?_)
  refine lCVi hO (M11_status t0) hc11_status (idx := 175) (w := 1458) (by decide +kernel) hR ⟨by omega, by omega, by omega, by omega⟩ t0 ⟨by decide, rfl⟩ (vs := []) (st := []) ⟨rfl, Nat.le_of_ble_eq_true rfl, rfl⟩ (by decide +kernel) (fun x u hu => ?_)
  obtain ⟨e1, e2⟩ := hu
  subst e1 e2
  refine gBk (pe := 1200) hO [o0 (.aload_n 2)] (by decide +kernel) (show tWG K B (cl + 0) (sl + 0) S I J 1200 (tLL b v) [vR 61, vI (V11_status S I J)] from ?_)
  refine lCVi hO (M12_status t61 h) hc12_status (idx := 178) (w := 1462) (by decide +kernel) hR ⟨by omega, by omega, by omega, by omega⟩ t61 ⟨by decide, rfl⟩ (vs := []) (st := [vI (V11_status S I J)]) ⟨rfl, Nat.le_of_ble_eq_true rfl, rfl⟩ (by decide +kernel) (fun y u hu => ?_)
  obtain ⟨S2, I2, J2⟩ := u
  obtain ⟨e1, e2, h⟩ := hu
  replace e1 : S2 = S := e1
  subst e1
  replace h : Inv S2 I2 J2 := h
  refine gIcEq hO (off := 5) (tgt := 1208) (by decide +kernel) (by decide) (fun c1 => ?_) (fun c1 => absurd e2 c1)
  exact gWiden (by omega) (by omega) (hnext _ _ _ h)
def tSteps (n : Nat) (Inv : tSH → tHI → tHJ → Prop) : Prop := tSt_load n Inv ∧ tSt_of n Inv ∧ tSt_bend n Inv ∧ tSt_clear n Inv ∧ tSt_at n Inv ∧ tSt_bars n Inv ∧ tSt_terms n Inv ∧ tSt_feed n Inv ∧ tSt_end n Inv ∧ tSt_row n Inv ∧ tSt_mud n Inv ∧ tSt_law n Inv ∧ tSt_orders n Inv ∧ tSt_fault n Inv ∧ tSt_stopped n Inv ∧ tSt_force n Inv ∧ tSt_gas n Inv ∧ tSt_brake n Inv ∧ tSt_lane n Inv ∧ tSt_put n Inv ∧ tSt_lean n Inv ∧ tSt_ride n Inv ∧ tSt_undo n Inv ∧ tSt_goes n Inv ∧ tSt_quick n Inv ∧ tSt_soonest n Inv ∧ tSt_lanes n Inv ∧ tSt_leaning n Inv ∧ tSt_putting n Inv ∧ tSt_setting n Inv ∧ tSt_learning n Inv ∧ tSt_sight n Inv ∧ tSt_forget n Inv ∧ tSt_aboard n Inv ∧ tSt_days n Inv ∧ tSt_drawn n Inv ∧ tSt_image n Inv ∧ tSt_back n Inv ∧ tSt_count n Inv ∧ tSt_status n Inv
abbrev LK (p : Program) (l : Launch) (e : Env) (s : State) (m : MethodId) (b : Nat) (below : List Frame) (meth : Method) (c : Code) : tK := (p, l, e, room_1, s, m, #[Value.ref b], below, meth, c, lw_Z below #[Value.ref b] s)
set_option maxRecDepth 100000 in
set_option maxHeartbeats 4000000 in
theorem L_loop {p : Program} {l : Launch} {e : Env} {s : State} {m : MethodId} {below : List Frame} {meth : Method} {c : Code} {b N : Nat} {xs : Nat → Int32} {B : tB} (C0 : lw_At p s m meth c b N xs) (hN : N ≤ 3072) (hB : B.2 = s.heap.size) (hO : tKO (LK p l e s m b below meth c) B RL cL_law 4) {n : Nat} {Inv : tSH → tHI → tHJ → Prop} (hT : tInvT Inv) (hst : tSteps n Inv) : ∀ (f j : Nat) (S : tSH) (I : tHI) (J : tHJ), N + 6 ≤ 6 * j + 6 * f → 6 * j ≤ N → Inv S I J → tWG (LK p l e s m b below meth c) B (100 + 16 * j) (30000 + 467 * j) S I J 18 (tLL b (Int32.ofNat (6 * j))) [] := by
  intro f
  induction f with
  | zero => intro j S I J h1 h2; omega
  | succ f ih =>
    intro j S I J hf hj hI
    have hX := C0.2.2.2.2.2.2.1
    have hbl := C0.2.2.2.2.2.2.2.1
    have hbA : ¬ B.2 ≤ b := by rw [hB]; omega
    obtain ⟨v, hv⟩ : ∃ v, v = Int32.ofNat (6 * j) := ⟨_, rfl⟩
    rw [← hv]
    refine gBk (pe := 20) hO [o0 (.iload_n 3), o0 (.aload_n 0)] (by decide +kernel) (show tWG (LK p l e s m b below meth c) B (100 + 16 * j) (30000 + 467 * j) S I J 20 (tLL b v) [vA b, vI v] from ?_)
    refine s_slen hO hX hbl hbA (by decide +kernel) ?_
    refine gBk (pe := 24) hO [oI (.bipush 6) 6, o0 .isub] (by decide +kernel) (show tWG (LK p l e s m b below meth c) B (100 + 16 * j) (30000 + 467 * j) S I J 24 (tLL b v) [vI (Int32.ofNat N - 6), vI v] from ?_)
    refine gIcGt hO (off := 1190) (tgt := 1214) (by decide +kernel) (by decide) (fun c2 => ?_) (fun c2 => ?_)
    · refine gBk (pe := 1215) hO [oI (.iconst 1) 1] (by decide +kernel) (show tWG (LK p l e s m b below meth c) B (100 + 16 * j) (30000 + 467 * j) S I J 1215 (tLL b v) [vI 1] from ?_)
      intro H locs ls hR0 hL
      refine va_forget (fun q hq => hB ▸ hR0.2.2.1.2.2 q hq) ?_
      refine W.widen (k := 600000) (n := 7302250) (by omega) (by omega) ?_
      exact lw_ret C0.1 C0.2.1 C0.2.2.1 C0.2.2.2.2.2.2.2.2.1 (by decide +kernel)
    · have hjN : 6 * j + 6 ≤ N := by
        rcases Nat.lt_or_ge N (6 * j + 6) with w | w
        · exfalso
          refine c2 ?_
          rw [hv]
          refine Int32.lt_iff_toInt_lt.mpr ?_
          rw [Int32.toInt_sub, i32i (6 * j) (by omega), i32i N (by omega), show (6 : Int32).toInt = 6 from rfl, Int.bmod_def]
          omega
        · exact w
      have h0 : vp_in (v + 0) N := by rw [hv, show (0 : Int32) = Int32.ofNat 0 from rfl, ← Int32.ofNat_add]; exact i32in (by omega) (by omega)
      have h1 : vp_in (v + 1) N := by rw [hv, show (1 : Int32) = Int32.ofNat 1 from rfl, ← Int32.ofNat_add]; exact i32in (by omega) (by omega)
      have h2 : vp_in (v + 2) N := by rw [hv, show (2 : Int32) = Int32.ofNat 2 from rfl, ← Int32.ofNat_add]; exact i32in (by omega) (by omega)
      have h3 : vp_in (v + 3) N := by rw [hv, show (3 : Int32) = Int32.ofNat 3 from rfl, ← Int32.ofNat_add]; exact i32in (by omega) (by omega)
      have h4 : vp_in (v + 4) N := by rw [hv, show (4 : Int32) = Int32.ofNat 4 from rfl, ← Int32.ofNat_add]; exact i32in (by omega) (by omega)
      have h5 : vp_in (v + 5) N := by rw [hv, show (5 : Int32) = Int32.ofNat 5 from rfl, ← Int32.ofNat_add]; exact i32in (by omega) (by omega)
      have h0 : vp_in v N := by rw [hv]; exact i32in (by omega) (by omega)
      refine gBk (pe := 29) hO [o0 (.aload_n 0), o0 (.iload_n 3)] (by decide +kernel) (show tWG (LK p l e s m b below meth c) B (100 + 16 * j) (30000 + 467 * j) S I J 29 (tLL b v) [vI v, vA b] from ?_)
      refine s_sld hO hX hbl hbA h0 (by decide +kernel) ?_
      refine gBk (pe := 33) hO [oI (.bipush 63) 63, o0 .iand] (by decide +kernel) (show tWG (LK p l e s m b below meth c) B (100 + 16 * j) (30000 + 467 * j) S I J 33 (tLL b v) [vI (xs v.toNatClampNeg &&& 63)] from ?_)
      have hcl : 100 + 16 * j + 16 ≤ 600000 ∧ 30000 + 467 * j + 467 ≤ 7302250 := by omega
      have hnext : ∀ S2 I2 J2, Inv S2 I2 J2 → tWG (LK p l e s m b below meth c) B (100 + 16 * j + 16) (30000 + 467 * j + 467) S2 I2 J2 1208 (tLL b v) [] := by
        intro S2 I2 J2 hI2
        refine gBk (pe := 18) hO [oI (.iinc 3 6) 6, o0 (.goto (-1193))] (by decide +kernel) (show tWG (LK p l e s m b below meth c) B (100 + 16 * j + 16) (30000 + 467 * j + 467) S2 I2 J2 18 (tLL b (v + 6)) [] from ?_)
        have e := ih (j + 1) S2 I2 J2 (by omega) (by omega) hI2
        rw [show v + 6 = Int32.ofNat (6 * (j + 1)) by rw [hv, show (6 : Int32) = Int32.ofNat 6 from rfl, ← Int32.ofNat_add]; rfl]
        exact e
      generalize xs v.toNatClampNeg &&& 63 = X at *
      by_cases c0_ : X = 0
      · refine gSwIn hO (dflt := 1175) (lo := 0) (hi := 39) (offs := #[175, 218, 251, 304, 317, 350, 373, 406, 469, 492, 505, 518, 531, 544, 557, 570, 593, 616, 639, 662, 695, 728, 741, 754, 787, 820, 843, 866, 899, 922, 945, 958, 1001, 1014, 1037, 1070, 1093, 1116, 1139, 1162]) (len := 175) (off := 175) (tgt := 208) 0 c0_ (by decide +kernel) (by decide +kernel) ?_
        exact L_c0 hO rfl hX hbl hbA hT hst.1 hcl h1 h2 h3 h4 h5 hI hnext
      by_cases c1_ : X = 1
      · refine gSwIn hO (dflt := 1175) (lo := 0) (hi := 39) (offs := #[175, 218, 251, 304, 317, 350, 373, 406, 469, 492, 505, 518, 531, 544, 557, 570, 593, 616, 639, 662, 695, 728, 741, 754, 787, 820, 843, 866, 899, 922, 945, 958, 1001, 1014, 1037, 1070, 1093, 1116, 1139, 1162]) (len := 175) (off := 218) (tgt := 251) 1 c1_ (by decide +kernel) (by decide +kernel) ?_
        exact L_c1 hO rfl hX hbl hbA hT hst.2.1 hcl h1 h2 h3 h4 h5 hI hnext
      by_cases c2_ : X = 2
      · refine gSwIn hO (dflt := 1175) (lo := 0) (hi := 39) (offs := #[175, 218, 251, 304, 317, 350, 373, 406, 469, 492, 505, 518, 531, 544, 557, 570, 593, 616, 639, 662, 695, 728, 741, 754, 787, 820, 843, 866, 899, 922, 945, 958, 1001, 1014, 1037, 1070, 1093, 1116, 1139, 1162]) (len := 175) (off := 251) (tgt := 284) 2 c2_ (by decide +kernel) (by decide +kernel) ?_
        exact L_c2 hO rfl hX hbl hbA hT hst.2.2.1 hcl h1 h2 h3 h4 h5 hI hnext
      by_cases c3_ : X = 3
      · refine gSwIn hO (dflt := 1175) (lo := 0) (hi := 39) (offs := #[175, 218, 251, 304, 317, 350, 373, 406, 469, 492, 505, 518, 531, 544, 557, 570, 593, 616, 639, 662, 695, 728, 741, 754, 787, 820, 843, 866, 899, 922, 945, 958, 1001, 1014, 1037, 1070, 1093, 1116, 1139, 1162]) (len := 175) (off := 304) (tgt := 337) 3 c3_ (by decide +kernel) (by decide +kernel) ?_
        exact L_c3 hO rfl hX hbl hbA hT hst.2.2.2.1 hcl h1 h2 h3 h4 h5 hI hnext
      by_cases c4_ : X = 4
      · refine gSwIn hO (dflt := 1175) (lo := 0) (hi := 39) (offs := #[175, 218, 251, 304, 317, 350, 373, 406, 469, 492, 505, 518, 531, 544, 557, 570, 593, 616, 639, 662, 695, 728, 741, 754, 787, 820, 843, 866, 899, 922, 945, 958, 1001, 1014, 1037, 1070, 1093, 1116, 1139, 1162]) (len := 175) (off := 317) (tgt := 350) 4 c4_ (by decide +kernel) (by decide +kernel) ?_
        exact L_c4 hO rfl hX hbl hbA hT hst.2.2.2.2.1 hcl h1 h2 h3 h4 h5 hI hnext
      by_cases c5_ : X = 5
      · refine gSwIn hO (dflt := 1175) (lo := 0) (hi := 39) (offs := #[175, 218, 251, 304, 317, 350, 373, 406, 469, 492, 505, 518, 531, 544, 557, 570, 593, 616, 639, 662, 695, 728, 741, 754, 787, 820, 843, 866, 899, 922, 945, 958, 1001, 1014, 1037, 1070, 1093, 1116, 1139, 1162]) (len := 175) (off := 350) (tgt := 383) 5 c5_ (by decide +kernel) (by decide +kernel) ?_
        exact L_c5 hO rfl hX hbl hbA hT hst.2.2.2.2.2.1 hcl h1 h2 h3 h4 h5 hI hnext
      by_cases c6_ : X = 6
      · refine gSwIn hO (dflt := 1175) (lo := 0) (hi := 39) (offs := #[175, 218, 251, 304, 317, 350, 373, 406, 469, 492, 505, 518, 531, 544, 557, 570, 593, 616, 639, 662, 695, 728, 741, 754, 787, 820, 843, 866, 899, 922, 945, 958, 1001, 1014, 1037, 1070, 1093, 1116, 1139, 1162]) (len := 175) (off := 373) (tgt := 406) 6 c6_ (by decide +kernel) (by decide +kernel) ?_
        exact L_c6 hO rfl hX hbl hbA hT hst.2.2.2.2.2.2.1 hcl h1 h2 h3 h4 h5 hI hnext
      by_cases c7_ : X = 7
      · refine gSwIn hO (dflt := 1175) (lo := 0) (hi := 39) (offs := #[175, 218, 251, 304, 317, 350, 373, 406, 469, 492, 505, 518, 531, 544, 557, 570, 593, 616, 639, 662, 695, 728, 741, 754, 787, 820, 843, 866, 899, 922, 945, 958, 1001, 1014, 1037, 1070, 1093, 1116, 1139, 1162]) (len := 175) (off := 406) (tgt := 439) 7 c7_ (by decide +kernel) (by decide +kernel) ?_
        exact L_c7 hO rfl hX hbl hbA hT hst.2.2.2.2.2.2.2.1 hcl h1 h2 h3 h4 h5 hI hnext
      by_cases c8_ : X = 8
      · refine gSwIn hO (dflt := 1175) (lo := 0) (hi := 39) (offs := #[175, 218, 251, 304, 317, 350, 373, 406, 469, 492, 505, 518, 531, 544, 557, 570, 593, 616, 639, 662, 695, 728, 741, 754, 787, 820, 843, 866, 899, 922, 945, 958, 1001, 1014, 1037, 1070, 1093, 1116, 1139, 1162]) (len := 175) (off := 469) (tgt := 502) 8 c8_ (by decide +kernel) (by decide +kernel) ?_
        exact L_c8 hO rfl hX hbl hbA hT hst.2.2.2.2.2.2.2.2.1 hcl h1 h2 h3 h4 h5 hI hnext
      by_cases c9_ : X = 9
      · refine gSwIn hO (dflt := 1175) (lo := 0) (hi := 39) (offs := #[175, 218, 251, 304, 317, 350, 373, 406, 469, 492, 505, 518, 531, 544, 557, 570, 593, 616, 639, 662, 695, 728, 741, 754, 787, 820, 843, 866, 899, 922, 945, 958, 1001, 1014, 1037, 1070, 1093, 1116, 1139, 1162]) (len := 175) (off := 492) (tgt := 525) 9 c9_ (by decide +kernel) (by decide +kernel) ?_
        exact L_c9 hO rfl hX hbl hbA hT hst.2.2.2.2.2.2.2.2.2.1 hcl h1 h2 h3 h4 h5 hI hnext
      by_cases c10_ : X = 10
      · refine gSwIn hO (dflt := 1175) (lo := 0) (hi := 39) (offs := #[175, 218, 251, 304, 317, 350, 373, 406, 469, 492, 505, 518, 531, 544, 557, 570, 593, 616, 639, 662, 695, 728, 741, 754, 787, 820, 843, 866, 899, 922, 945, 958, 1001, 1014, 1037, 1070, 1093, 1116, 1139, 1162]) (len := 175) (off := 505) (tgt := 538) 10 c10_ (by decide +kernel) (by decide +kernel) ?_
        exact L_c10 hO rfl hX hbl hbA hT hst.2.2.2.2.2.2.2.2.2.2.1 hcl h1 h2 h3 h4 h5 hI hnext
      by_cases c11_ : X = 11
      · refine gSwIn hO (dflt := 1175) (lo := 0) (hi := 39) (offs := #[175, 218, 251, 304, 317, 350, 373, 406, 469, 492, 505, 518, 531, 544, 557, 570, 593, 616, 639, 662, 695, 728, 741, 754, 787, 820, 843, 866, 899, 922, 945, 958, 1001, 1014, 1037, 1070, 1093, 1116, 1139, 1162]) (len := 175) (off := 518) (tgt := 551) 11 c11_ (by decide +kernel) (by decide +kernel) ?_
        exact L_c11 hO rfl hX hbl hbA hT hst.2.2.2.2.2.2.2.2.2.2.2.1 hcl h1 h2 h3 h4 h5 hI hnext
      by_cases c12_ : X = 12
      · refine gSwIn hO (dflt := 1175) (lo := 0) (hi := 39) (offs := #[175, 218, 251, 304, 317, 350, 373, 406, 469, 492, 505, 518, 531, 544, 557, 570, 593, 616, 639, 662, 695, 728, 741, 754, 787, 820, 843, 866, 899, 922, 945, 958, 1001, 1014, 1037, 1070, 1093, 1116, 1139, 1162]) (len := 175) (off := 531) (tgt := 564) 12 c12_ (by decide +kernel) (by decide +kernel) ?_
        exact L_c12 hO rfl hX hbl hbA hT hst.2.2.2.2.2.2.2.2.2.2.2.2.1 hcl h1 h2 h3 h4 h5 hI hnext
      by_cases c13_ : X = 13
      · refine gSwIn hO (dflt := 1175) (lo := 0) (hi := 39) (offs := #[175, 218, 251, 304, 317, 350, 373, 406, 469, 492, 505, 518, 531, 544, 557, 570, 593, 616, 639, 662, 695, 728, 741, 754, 787, 820, 843, 866, 899, 922, 945, 958, 1001, 1014, 1037, 1070, 1093, 1116, 1139, 1162]) (len := 175) (off := 544) (tgt := 577) 13 c13_ (by decide +kernel) (by decide +kernel) ?_
        exact L_c13 hO rfl hX hbl hbA hT hst.2.2.2.2.2.2.2.2.2.2.2.2.2.1 hcl h1 h2 h3 h4 h5 hI hnext
      by_cases c14_ : X = 14
      · refine gSwIn hO (dflt := 1175) (lo := 0) (hi := 39) (offs := #[175, 218, 251, 304, 317, 350, 373, 406, 469, 492, 505, 518, 531, 544, 557, 570, 593, 616, 639, 662, 695, 728, 741, 754, 787, 820, 843, 866, 899, 922, 945, 958, 1001, 1014, 1037, 1070, 1093, 1116, 1139, 1162]) (len := 175) (off := 557) (tgt := 590) 14 c14_ (by decide +kernel) (by decide +kernel) ?_
        exact L_c14 hO rfl hX hbl hbA hT hst.2.2.2.2.2.2.2.2.2.2.2.2.2.2.1 hcl h1 h2 h3 h4 h5 hI hnext
      by_cases c15_ : X = 15
      · refine gSwIn hO (dflt := 1175) (lo := 0) (hi := 39) (offs := #[175, 218, 251, 304, 317, 350, 373, 406, 469, 492, 505, 518, 531, 544, 557, 570, 593, 616, 639, 662, 695, 728, 741, 754, 787, 820, 843, 866, 899, 922, 945, 958, 1001, 1014, 1037, 1070, 1093, 1116, 1139, 1162]) (len := 175) (off := 570) (tgt := 603) 15 c15_ (by decide +kernel) (by decide +kernel) ?_
        exact L_c15 hO rfl hX hbl hbA hT hst.2.2.2.2.2.2.2.2.2.2.2.2.2.2.2.1 hcl h1 h2 h3 h4 h5 hI hnext
      by_cases c16_ : X = 16
      · refine gSwIn hO (dflt := 1175) (lo := 0) (hi := 39) (offs := #[175, 218, 251, 304, 317, 350, 373, 406, 469, 492, 505, 518, 531, 544, 557, 570, 593, 616, 639, 662, 695, 728, 741, 754, 787, 820, 843, 866, 899, 922, 945, 958, 1001, 1014, 1037, 1070, 1093, 1116, 1139, 1162]) (len := 175) (off := 593) (tgt := 626) 16 c16_ (by decide +kernel) (by decide +kernel) ?_
        exact L_c16 hO rfl hX hbl hbA hT hst.2.2.2.2.2.2.2.2.2.2.2.2.2.2.2.2.1 hcl h1 h2 h3 h4 h5 hI hnext
      by_cases c17_ : X = 17
      · refine gSwIn hO (dflt := 1175) (lo := 0) (hi := 39) (offs := #[175, 218, 251, 304, 317, 350, 373, 406, 469, 492, 505, 518, 531, 544, 557, 570, 593, 616, 639, 662, 695, 728, 741, 754, 787, 820, 843, 866, 899, 922, 945, 958, 1001, 1014, 1037, 1070, 1093, 1116, 1139, 1162]) (len := 175) (off := 616) (tgt := 649) 17 c17_ (by decide +kernel) (by decide +kernel) ?_
        exact L_c17 hO rfl hX hbl hbA hT hst.2.2.2.2.2.2.2.2.2.2.2.2.2.2.2.2.2.1 hcl h1 h2 h3 h4 h5 hI hnext
      by_cases c18_ : X = 18
      · refine gSwIn hO (dflt := 1175) (lo := 0) (hi := 39) (offs := #[175, 218, 251, 304, 317, 350, 373, 406, 469, 492, 505, 518, 531, 544, 557, 570, 593, 616, 639, 662, 695, 728, 741, 754, 787, 820, 843, 866, 899, 922, 945, 958, 1001, 1014, 1037, 1070, 1093, 1116, 1139, 1162]) (len := 175) (off := 639) (tgt := 672) 18 c18_ (by decide +kernel) (by decide +kernel) ?_
        exact L_c18 hO rfl hX hbl hbA hT hst.2.2.2.2.2.2.2.2.2.2.2.2.2.2.2.2.2.2.1 hcl h1 h2 h3 h4 h5 hI hnext
      by_cases c19_ : X = 19
      · refine gSwIn hO (dflt := 1175) (lo := 0) (hi := 39) (offs := #[175, 218, 251, 304, 317, 350, 373, 406, 469, 492, 505, 518, 531, 544, 557, 570, 593, 616, 639, 662, 695, 728, 741, 754, 787, 820, 843, 866, 899, 922, 945, 958, 1001, 1014, 1037, 1070, 1093, 1116, 1139, 1162]) (len := 175) (off := 662) (tgt := 695) 19 c19_ (by decide +kernel) (by decide +kernel) ?_
        exact L_c19 hO rfl hX hbl hbA hT hst.2.2.2.2.2.2.2.2.2.2.2.2.2.2.2.2.2.2.2.1 hcl h1 h2 h3 h4 h5 hI hnext
      by_cases c20_ : X = 20
      · refine gSwIn hO (dflt := 1175) (lo := 0) (hi := 39) (offs := #[175, 218, 251, 304, 317, 350, 373, 406, 469, 492, 505, 518, 531, 544, 557, 570, 593, 616, 639, 662, 695, 728, 741, 754, 787, 820, 843, 866, 899, 922, 945, 958, 1001, 1014, 1037, 1070, 1093, 1116, 1139, 1162]) (len := 175) (off := 695) (tgt := 728) 20 c20_ (by decide +kernel) (by decide +kernel) ?_
        exact L_c20 hO rfl hX hbl hbA hT hst.2.2.2.2.2.2.2.2.2.2.2.2.2.2.2.2.2.2.2.2.1 hcl h1 h2 h3 h4 h5 hI hnext
      by_cases c21_ : X = 21
      · refine gSwIn hO (dflt := 1175) (lo := 0) (hi := 39) (offs := #[175, 218, 251, 304, 317, 350, 373, 406, 469, 492, 505, 518, 531, 544, 557, 570, 593, 616, 639, 662, 695, 728, 741, 754, 787, 820, 843, 866, 899, 922, 945, 958, 1001, 1014, 1037, 1070, 1093, 1116, 1139, 1162]) (len := 175) (off := 728) (tgt := 761) 21 c21_ (by decide +kernel) (by decide +kernel) ?_
        exact L_c21 hO rfl hX hbl hbA hT hst.2.2.2.2.2.2.2.2.2.2.2.2.2.2.2.2.2.2.2.2.2.1 hcl h1 h2 h3 h4 h5 hI hnext
      by_cases c22_ : X = 22
      · refine gSwIn hO (dflt := 1175) (lo := 0) (hi := 39) (offs := #[175, 218, 251, 304, 317, 350, 373, 406, 469, 492, 505, 518, 531, 544, 557, 570, 593, 616, 639, 662, 695, 728, 741, 754, 787, 820, 843, 866, 899, 922, 945, 958, 1001, 1014, 1037, 1070, 1093, 1116, 1139, 1162]) (len := 175) (off := 741) (tgt := 774) 22 c22_ (by decide +kernel) (by decide +kernel) ?_
        exact L_c22 hO rfl hX hbl hbA hT hst.2.2.2.2.2.2.2.2.2.2.2.2.2.2.2.2.2.2.2.2.2.2.1 hcl h1 h2 h3 h4 h5 hI hnext
      by_cases c23_ : X = 23
      · refine gSwIn hO (dflt := 1175) (lo := 0) (hi := 39) (offs := #[175, 218, 251, 304, 317, 350, 373, 406, 469, 492, 505, 518, 531, 544, 557, 570, 593, 616, 639, 662, 695, 728, 741, 754, 787, 820, 843, 866, 899, 922, 945, 958, 1001, 1014, 1037, 1070, 1093, 1116, 1139, 1162]) (len := 175) (off := 754) (tgt := 787) 23 c23_ (by decide +kernel) (by decide +kernel) ?_
        exact L_c23 hO rfl hX hbl hbA hT hst.2.2.2.2.2.2.2.2.2.2.2.2.2.2.2.2.2.2.2.2.2.2.2.1 hcl h1 h2 h3 h4 h5 hI hnext
      by_cases c24_ : X = 24
      · refine gSwIn hO (dflt := 1175) (lo := 0) (hi := 39) (offs := #[175, 218, 251, 304, 317, 350, 373, 406, 469, 492, 505, 518, 531, 544, 557, 570, 593, 616, 639, 662, 695, 728, 741, 754, 787, 820, 843, 866, 899, 922, 945, 958, 1001, 1014, 1037, 1070, 1093, 1116, 1139, 1162]) (len := 175) (off := 787) (tgt := 820) 24 c24_ (by decide +kernel) (by decide +kernel) ?_
        exact L_c24 hO rfl hX hbl hbA hT hst.2.2.2.2.2.2.2.2.2.2.2.2.2.2.2.2.2.2.2.2.2.2.2.2.1 hcl h1 h2 h3 h4 h5 hI hnext
      by_cases c25_ : X = 25
      · refine gSwIn hO (dflt := 1175) (lo := 0) (hi := 39) (offs := #[175, 218, 251, 304, 317, 350, 373, 406, 469, 492, 505, 518, 531, 544, 557, 570, 593, 616, 639, 662, 695, 728, 741, 754, 787, 820, 843, 866, 899, 922, 945, 958, 1001, 1014, 1037, 1070, 1093, 1116, 1139, 1162]) (len := 175) (off := 820) (tgt := 853) 25 c25_ (by decide +kernel) (by decide +kernel) ?_
        exact L_c25 hO rfl hX hbl hbA hT hst.2.2.2.2.2.2.2.2.2.2.2.2.2.2.2.2.2.2.2.2.2.2.2.2.2.1 hcl h1 h2 h3 h4 h5 hI hnext
      by_cases c26_ : X = 26
      · refine gSwIn hO (dflt := 1175) (lo := 0) (hi := 39) (offs := #[175, 218, 251, 304, 317, 350, 373, 406, 469, 492, 505, 518, 531, 544, 557, 570, 593, 616, 639, 662, 695, 728, 741, 754, 787, 820, 843, 866, 899, 922, 945, 958, 1001, 1014, 1037, 1070, 1093, 1116, 1139, 1162]) (len := 175) (off := 843) (tgt := 876) 26 c26_ (by decide +kernel) (by decide +kernel) ?_
        exact L_c26 hO rfl hX hbl hbA hT hst.2.2.2.2.2.2.2.2.2.2.2.2.2.2.2.2.2.2.2.2.2.2.2.2.2.2.1 hcl h1 h2 h3 h4 h5 hI hnext
      by_cases c27_ : X = 27
      · refine gSwIn hO (dflt := 1175) (lo := 0) (hi := 39) (offs := #[175, 218, 251, 304, 317, 350, 373, 406, 469, 492, 505, 518, 531, 544, 557, 570, 593, 616, 639, 662, 695, 728, 741, 754, 787, 820, 843, 866, 899, 922, 945, 958, 1001, 1014, 1037, 1070, 1093, 1116, 1139, 1162]) (len := 175) (off := 866) (tgt := 899) 27 c27_ (by decide +kernel) (by decide +kernel) ?_
        exact L_c27 hO rfl hX hbl hbA hT hst.2.2.2.2.2.2.2.2.2.2.2.2.2.2.2.2.2.2.2.2.2.2.2.2.2.2.2.1 hcl h1 h2 h3 h4 h5 hI hnext
      by_cases c28_ : X = 28
      · refine gSwIn hO (dflt := 1175) (lo := 0) (hi := 39) (offs := #[175, 218, 251, 304, 317, 350, 373, 406, 469, 492, 505, 518, 531, 544, 557, 570, 593, 616, 639, 662, 695, 728, 741, 754, 787, 820, 843, 866, 899, 922, 945, 958, 1001, 1014, 1037, 1070, 1093, 1116, 1139, 1162]) (len := 175) (off := 899) (tgt := 932) 28 c28_ (by decide +kernel) (by decide +kernel) ?_
        exact L_c28 hO rfl hX hbl hbA hT hst.2.2.2.2.2.2.2.2.2.2.2.2.2.2.2.2.2.2.2.2.2.2.2.2.2.2.2.2.1 hcl h1 h2 h3 h4 h5 hI hnext
      by_cases c29_ : X = 29
      · refine gSwIn hO (dflt := 1175) (lo := 0) (hi := 39) (offs := #[175, 218, 251, 304, 317, 350, 373, 406, 469, 492, 505, 518, 531, 544, 557, 570, 593, 616, 639, 662, 695, 728, 741, 754, 787, 820, 843, 866, 899, 922, 945, 958, 1001, 1014, 1037, 1070, 1093, 1116, 1139, 1162]) (len := 175) (off := 922) (tgt := 955) 29 c29_ (by decide +kernel) (by decide +kernel) ?_
        exact L_c29 hO rfl hX hbl hbA hT hst.2.2.2.2.2.2.2.2.2.2.2.2.2.2.2.2.2.2.2.2.2.2.2.2.2.2.2.2.2.1 hcl h1 h2 h3 h4 h5 hI hnext
      by_cases c30_ : X = 30
      · refine gSwIn hO (dflt := 1175) (lo := 0) (hi := 39) (offs := #[175, 218, 251, 304, 317, 350, 373, 406, 469, 492, 505, 518, 531, 544, 557, 570, 593, 616, 639, 662, 695, 728, 741, 754, 787, 820, 843, 866, 899, 922, 945, 958, 1001, 1014, 1037, 1070, 1093, 1116, 1139, 1162]) (len := 175) (off := 945) (tgt := 978) 30 c30_ (by decide +kernel) (by decide +kernel) ?_
        exact L_c30 hO rfl hX hbl hbA hT hst.2.2.2.2.2.2.2.2.2.2.2.2.2.2.2.2.2.2.2.2.2.2.2.2.2.2.2.2.2.2.1 hcl h1 h2 h3 h4 h5 hI hnext
      by_cases c31_ : X = 31
      · refine gSwIn hO (dflt := 1175) (lo := 0) (hi := 39) (offs := #[175, 218, 251, 304, 317, 350, 373, 406, 469, 492, 505, 518, 531, 544, 557, 570, 593, 616, 639, 662, 695, 728, 741, 754, 787, 820, 843, 866, 899, 922, 945, 958, 1001, 1014, 1037, 1070, 1093, 1116, 1139, 1162]) (len := 175) (off := 958) (tgt := 991) 31 c31_ (by decide +kernel) (by decide +kernel) ?_
        exact L_c31 hO rfl hX hbl hbA hT hst.2.2.2.2.2.2.2.2.2.2.2.2.2.2.2.2.2.2.2.2.2.2.2.2.2.2.2.2.2.2.2.1 hcl h1 h2 h3 h4 h5 hI hnext
      by_cases c32_ : X = 32
      · refine gSwIn hO (dflt := 1175) (lo := 0) (hi := 39) (offs := #[175, 218, 251, 304, 317, 350, 373, 406, 469, 492, 505, 518, 531, 544, 557, 570, 593, 616, 639, 662, 695, 728, 741, 754, 787, 820, 843, 866, 899, 922, 945, 958, 1001, 1014, 1037, 1070, 1093, 1116, 1139, 1162]) (len := 175) (off := 1001) (tgt := 1034) 32 c32_ (by decide +kernel) (by decide +kernel) ?_
        exact L_c32 hO rfl hX hbl hbA hT hst.2.2.2.2.2.2.2.2.2.2.2.2.2.2.2.2.2.2.2.2.2.2.2.2.2.2.2.2.2.2.2.2.1 hcl h1 h2 h3 h4 h5 hI hnext
      by_cases c33_ : X = 33
      · refine gSwIn hO (dflt := 1175) (lo := 0) (hi := 39) (offs := #[175, 218, 251, 304, 317, 350, 373, 406, 469, 492, 505, 518, 531, 544, 557, 570, 593, 616, 639, 662, 695, 728, 741, 754, 787, 820, 843, 866, 899, 922, 945, 958, 1001, 1014, 1037, 1070, 1093, 1116, 1139, 1162]) (len := 175) (off := 1014) (tgt := 1047) 33 c33_ (by decide +kernel) (by decide +kernel) ?_
        exact L_c33 hO rfl hX hbl hbA hT hst.2.2.2.2.2.2.2.2.2.2.2.2.2.2.2.2.2.2.2.2.2.2.2.2.2.2.2.2.2.2.2.2.2.1 hcl h1 h2 h3 h4 h5 hI hnext
      by_cases c34_ : X = 34
      · refine gSwIn hO (dflt := 1175) (lo := 0) (hi := 39) (offs := #[175, 218, 251, 304, 317, 350, 373, 406, 469, 492, 505, 518, 531, 544, 557, 570, 593, 616, 639, 662, 695, 728, 741, 754, 787, 820, 843, 866, 899, 922, 945, 958, 1001, 1014, 1037, 1070, 1093, 1116, 1139, 1162]) (len := 175) (off := 1037) (tgt := 1070) 34 c34_ (by decide +kernel) (by decide +kernel) ?_
        exact L_c34 hO rfl hX hbl hbA hT hst.2.2.2.2.2.2.2.2.2.2.2.2.2.2.2.2.2.2.2.2.2.2.2.2.2.2.2.2.2.2.2.2.2.2.1 hcl h1 h2 h3 h4 h5 hI hnext
      by_cases c35_ : X = 35
      · refine gSwIn hO (dflt := 1175) (lo := 0) (hi := 39) (offs := #[175, 218, 251, 304, 317, 350, 373, 406, 469, 492, 505, 518, 531, 544, 557, 570, 593, 616, 639, 662, 695, 728, 741, 754, 787, 820, 843, 866, 899, 922, 945, 958, 1001, 1014, 1037, 1070, 1093, 1116, 1139, 1162]) (len := 175) (off := 1070) (tgt := 1103) 35 c35_ (by decide +kernel) (by decide +kernel) ?_
        exact L_c35 hO rfl hX hbl hbA hT hst.2.2.2.2.2.2.2.2.2.2.2.2.2.2.2.2.2.2.2.2.2.2.2.2.2.2.2.2.2.2.2.2.2.2.2.1 hcl h1 h2 h3 h4 h5 hI hnext
      by_cases c36_ : X = 36
      · refine gSwIn hO (dflt := 1175) (lo := 0) (hi := 39) (offs := #[175, 218, 251, 304, 317, 350, 373, 406, 469, 492, 505, 518, 531, 544, 557, 570, 593, 616, 639, 662, 695, 728, 741, 754, 787, 820, 843, 866, 899, 922, 945, 958, 1001, 1014, 1037, 1070, 1093, 1116, 1139, 1162]) (len := 175) (off := 1093) (tgt := 1126) 36 c36_ (by decide +kernel) (by decide +kernel) ?_
        exact L_c36 hO rfl hX hbl hbA hT hst.2.2.2.2.2.2.2.2.2.2.2.2.2.2.2.2.2.2.2.2.2.2.2.2.2.2.2.2.2.2.2.2.2.2.2.2.1 hcl h1 h2 h3 h4 h5 hI hnext
      by_cases c37_ : X = 37
      · refine gSwIn hO (dflt := 1175) (lo := 0) (hi := 39) (offs := #[175, 218, 251, 304, 317, 350, 373, 406, 469, 492, 505, 518, 531, 544, 557, 570, 593, 616, 639, 662, 695, 728, 741, 754, 787, 820, 843, 866, 899, 922, 945, 958, 1001, 1014, 1037, 1070, 1093, 1116, 1139, 1162]) (len := 175) (off := 1116) (tgt := 1149) 37 c37_ (by decide +kernel) (by decide +kernel) ?_
        exact L_c37 hO rfl hX hbl hbA hT hst.2.2.2.2.2.2.2.2.2.2.2.2.2.2.2.2.2.2.2.2.2.2.2.2.2.2.2.2.2.2.2.2.2.2.2.2.2.1 hcl h1 h2 h3 h4 h5 hI hnext
      by_cases c38_ : X = 38
      · refine gSwIn hO (dflt := 1175) (lo := 0) (hi := 39) (offs := #[175, 218, 251, 304, 317, 350, 373, 406, 469, 492, 505, 518, 531, 544, 557, 570, 593, 616, 639, 662, 695, 728, 741, 754, 787, 820, 843, 866, 899, 922, 945, 958, 1001, 1014, 1037, 1070, 1093, 1116, 1139, 1162]) (len := 175) (off := 1139) (tgt := 1172) 38 c38_ (by decide +kernel) (by decide +kernel) ?_
        exact L_c38 hO rfl hX hbl hbA hT hst.2.2.2.2.2.2.2.2.2.2.2.2.2.2.2.2.2.2.2.2.2.2.2.2.2.2.2.2.2.2.2.2.2.2.2.2.2.2.1 hcl h1 h2 h3 h4 h5 hI hnext
      by_cases c39_ : X = 39
      · refine gSwIn hO (dflt := 1175) (lo := 0) (hi := 39) (offs := #[175, 218, 251, 304, 317, 350, 373, 406, 469, 492, 505, 518, 531, 544, 557, 570, 593, 616, 639, 662, 695, 728, 741, 754, 787, 820, 843, 866, 899, 922, 945, 958, 1001, 1014, 1037, 1070, 1093, 1116, 1139, 1162]) (len := 175) (off := 1162) (tgt := 1195) 39 c39_ (by decide +kernel) (by decide +kernel) ?_
        exact L_c39 hO rfl hX hbl hbA hT hst.2.2.2.2.2.2.2.2.2.2.2.2.2.2.2.2.2.2.2.2.2.2.2.2.2.2.2.2.2.2.2.2.2.2.2.2.2.2.2 hcl h1 h2 h3 h4 h5 hI hnext
      have hsw : swN 0 X 40 := ⟨⟨⟨⟨⟨⟨⟨⟨⟨⟨⟨⟨⟨⟨⟨⟨⟨⟨⟨⟨⟨⟨⟨⟨⟨⟨⟨⟨⟨⟨⟨⟨⟨⟨⟨⟨⟨⟨⟨⟨True.intro, c0_⟩, c1_⟩, c2_⟩, c3_⟩, c4_⟩, c5_⟩, c6_⟩, c7_⟩, c8_⟩, c9_⟩, c10_⟩, c11_⟩, c12_⟩, c13_⟩, c14_⟩, c15_⟩, c16_⟩, c17_⟩, c18_⟩, c19_⟩, c20_⟩, c21_⟩, c22_⟩, c23_⟩, c24_⟩, c25_⟩, c26_⟩, c27_⟩, c28_⟩, c29_⟩, c30_⟩, c31_⟩, c32_⟩, c33_⟩, c34_⟩, c35_⟩, c36_⟩, c37_⟩, c38_⟩, c39_⟩
      refine gSwOut hO (dflt := 1175) (lo := 0) (hi := 39) (offs := #[175, 218, 251, 304, 317, 350, 373, 406, 469, 492, 505, 518, 531, 544, 557, 570, 593, 616, 639, 662, 695, 728, 741, 754, 787, 820, 843, 866, 899, 922, 945, 958, 1001, 1014, 1037, 1070, 1093, 1116, 1139, 1162]) (len := 175) (tgt := 1208) (by decide +kernel) (sw_out (by decide) (by decide) hsw) (by decide) ?_
      exact gWiden (by omega) (by omega) (hnext _ _ _ hI)
