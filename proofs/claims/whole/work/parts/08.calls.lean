section RC
variable {K : tK} {B : tB} {own : String} {cc : ByteArray} {nL cl sl : Nat} {S : tSH} {I : tHI} {J : tHJ} {pc : Nat} {L : List (Option tSV)} {st : List tSV}
theorem gIfEq (hO : tKO K B own cc nL) {x : Int32} {off : Int} {tgt : Nat} (hd : decode cc pc = .ok (.ifCond .eq off, 3)) (ht : (pc : Int) + off = (tgt : Int)) (kt : x = 0 → tWG K B cl sl S I J tgt L st) (kf : ¬ x = 0 → tWG K B cl sl S I J (pc + 3) L st) : tWG K B cl sl S I J pc L (vI x :: st) := fun H locs ls hR hL => lv_if_eq hO.1 hO.2.1 hd ht (fun c => kt c H locs ls hR hL) (fun c => kf c H locs ls hR hL)
theorem gIfNe (hO : tKO K B own cc nL) {x : Int32} {off : Int} {tgt : Nat} (hd : decode cc pc = .ok (.ifCond .ne off, 3)) (ht : (pc : Int) + off = (tgt : Int)) (kt : x ≠ 0 → tWG K B cl sl S I J tgt L st) (kf : x = 0 → tWG K B cl sl S I J (pc + 3) L st) : tWG K B cl sl S I J pc L (vI x :: st) := fun H locs ls hR hL => lv_if_ne hO.1 hO.2.1 hd ht (fun c => kt c H locs ls hR hL) (fun c => kf c H locs ls hR hL)
theorem gIfLt (hO : tKO K B own cc nL) {x : Int32} {off : Int} {tgt : Nat} (hd : decode cc pc = .ok (.ifCond .lt off, 3)) (ht : (pc : Int) + off = (tgt : Int)) (kt : x < 0 → tWG K B cl sl S I J tgt L st) (kf : ¬ x < 0 → tWG K B cl sl S I J (pc + 3) L st) : tWG K B cl sl S I J pc L (vI x :: st) := fun H locs ls hR hL => lv_if_lt hO.1 hO.2.1 hd ht (fun c => kt c H locs ls hR hL) (fun c => kf c H locs ls hR hL)
theorem gIfGe (hO : tKO K B own cc nL) {x : Int32} {off : Int} {tgt : Nat} (hd : decode cc pc = .ok (.ifCond .ge off, 3)) (ht : (pc : Int) + off = (tgt : Int)) (kt : 0 ≤ x → tWG K B cl sl S I J tgt L st) (kf : ¬ 0 ≤ x → tWG K B cl sl S I J (pc + 3) L st) : tWG K B cl sl S I J pc L (vI x :: st) := fun H locs ls hR hL => lv_if_ge hO.1 hO.2.1 hd ht (fun c => kt c H locs ls hR hL) (fun c => kf c H locs ls hR hL)
theorem gIfGt (hO : tKO K B own cc nL) {x : Int32} {off : Int} {tgt : Nat} (hd : decode cc pc = .ok (.ifCond .gt off, 3)) (ht : (pc : Int) + off = (tgt : Int)) (kt : 0 < x → tWG K B cl sl S I J tgt L st) (kf : ¬ 0 < x → tWG K B cl sl S I J (pc + 3) L st) : tWG K B cl sl S I J pc L (vI x :: st) := fun H locs ls hR hL => lv_if_gt hO.1 hO.2.1 hd ht (fun c => kt c H locs ls hR hL) (fun c => kf c H locs ls hR hL)
theorem gIfLe (hO : tKO K B own cc nL) {x : Int32} {off : Int} {tgt : Nat} (hd : decode cc pc = .ok (.ifCond .le off, 3)) (ht : (pc : Int) + off = (tgt : Int)) (kt : x ≤ 0 → tWG K B cl sl S I J tgt L st) (kf : ¬ x ≤ 0 → tWG K B cl sl S I J (pc + 3) L st) : tWG K B cl sl S I J pc L (vI x :: st) := fun H locs ls hR hL => lv_if_le hO.1 hO.2.1 hd ht (fun c => kt c H locs ls hR hL) (fun c => kf c H locs ls hR hL)
theorem gIcEq (hO : tKO K B own cc nL) {x y : Int32} {off : Int} {tgt : Nat} (hd : decode cc pc = .ok (.if_icmp .eq off, 3)) (ht : (pc : Int) + off = (tgt : Int)) (kt : x = y → tWG K B cl sl S I J tgt L st) (kf : ¬ x = y → tWG K B cl sl S I J (pc + 3) L st) : tWG K B cl sl S I J pc L (vI y :: vI x :: st) := fun H locs ls hR hL => lv_icmp_eq hO.1 hO.2.1 hd ht (fun c => kt c H locs ls hR hL) (fun c => kf c H locs ls hR hL)
theorem gIcNe (hO : tKO K B own cc nL) {x y : Int32} {off : Int} {tgt : Nat} (hd : decode cc pc = .ok (.if_icmp .ne off, 3)) (ht : (pc : Int) + off = (tgt : Int)) (kt : x ≠ y → tWG K B cl sl S I J tgt L st) (kf : x = y → tWG K B cl sl S I J (pc + 3) L st) : tWG K B cl sl S I J pc L (vI y :: vI x :: st) := fun H locs ls hR hL => lv_icmp_ne hO.1 hO.2.1 hd ht (fun c => kt c H locs ls hR hL) (fun c => kf c H locs ls hR hL)
theorem gIcLt (hO : tKO K B own cc nL) {x y : Int32} {off : Int} {tgt : Nat} (hd : decode cc pc = .ok (.if_icmp .lt off, 3)) (ht : (pc : Int) + off = (tgt : Int)) (kt : x < y → tWG K B cl sl S I J tgt L st) (kf : ¬ x < y → tWG K B cl sl S I J (pc + 3) L st) : tWG K B cl sl S I J pc L (vI y :: vI x :: st) := fun H locs ls hR hL => lv_icmp_lt hO.1 hO.2.1 hd ht (fun c => kt c H locs ls hR hL) (fun c => kf c H locs ls hR hL)
theorem gIcGe (hO : tKO K B own cc nL) {x y : Int32} {off : Int} {tgt : Nat} (hd : decode cc pc = .ok (.if_icmp .ge off, 3)) (ht : (pc : Int) + off = (tgt : Int)) (kt : y ≤ x → tWG K B cl sl S I J tgt L st) (kf : ¬ y ≤ x → tWG K B cl sl S I J (pc + 3) L st) : tWG K B cl sl S I J pc L (vI y :: vI x :: st) := fun H locs ls hR hL => lv_icmp_ge hO.1 hO.2.1 hd ht (fun c => kt c H locs ls hR hL) (fun c => kf c H locs ls hR hL)
theorem gIcGt (hO : tKO K B own cc nL) {x y : Int32} {off : Int} {tgt : Nat} (hd : decode cc pc = .ok (.if_icmp .gt off, 3)) (ht : (pc : Int) + off = (tgt : Int)) (kt : y < x → tWG K B cl sl S I J tgt L st) (kf : ¬ y < x → tWG K B cl sl S I J (pc + 3) L st) : tWG K B cl sl S I J pc L (vI y :: vI x :: st) := fun H locs ls hR hL => lv_icmp_gt hO.1 hO.2.1 hd ht (fun c => kt c H locs ls hR hL) (fun c => kf c H locs ls hR hL)
theorem gIcLe (hO : tKO K B own cc nL) {x y : Int32} {off : Int} {tgt : Nat} (hd : decode cc pc = .ok (.if_icmp .le off, 3)) (ht : (pc : Int) + off = (tgt : Int)) (kt : x ≤ y → tWG K B cl sl S I J tgt L st) (kf : ¬ x ≤ y → tWG K B cl sl S I J (pc + 3) L st) : tWG K B cl sl S I J pc L (vI y :: vI x :: st) := fun H locs ls hR hL => lv_icmp_le hO.1 hO.2.1 hd ht (fun c => kt c H locs ls hR hL) (fun c => kf c H locs ls hR hL)
theorem gIfnull (hO : tKO K B own cc nL) {o : Option Nat} {off : Int} {tgt : Nat} (hd : decode cc pc = .ok (.ifnull off, 3)) (ht : (pc : Int) + off = (tgt : Int)) (kt : o = none → tWG K B cl sl S I J tgt L st) (kf : ∀ a, o = some a → tWG K B cl sl S I J (pc + 3) L st) : tWG K B cl sl S I J pc L (vO o :: st) := by
  cases o with
  | none => exact fun H locs ls hR hL => lv_ifnullN hO.1 hO.2.1 hd ht (kt rfl H locs ls hR hL)
  | some a => exact fun H locs ls hR hL => lv_ifnull (x := B.2 + a) hO.1 hO.2.1 hd (kf a rfl H locs ls hR hL)
theorem gIfnonnull (hO : tKO K B own cc nL) {o : Option Nat} {off : Int} {tgt : Nat} (hd : decode cc pc = .ok (.ifnonnull off, 3)) (ht : (pc : Int) + off = (tgt : Int)) (kt : ∀ a, o = some a → tWG K B cl sl S I J tgt L st) (kf : o = none → tWG K B cl sl S I J (pc + 3) L st) : tWG K B cl sl S I J pc L (vO o :: st) := by
  cases o with
  | none => exact fun H locs ls hR hL => lv_ifnonnullN hO.1 hO.2.1 hd (kf rfl H locs ls hR hL)
  | some a => exact fun H locs ls hR hL => lv_ifnonnull (x := B.2 + a) hO.1 hO.2.1 hd ht (kt a rfl H locs ls hR hL)
theorem gSwOut (hO : tKO K B own cc nL) {dflt lo hi : Int} {offs : Array Int} {len : Nat} {x : Int32} {tgt : Nat} (hd : decode cc pc = .ok (.tableswitch dflt lo hi offs, len)) (h : x.toInt < lo ∨ hi < x.toInt) (ht : (pc : Int) + dflt = (tgt : Int)) (k : tWG K B cl sl S I J tgt L st) : tWG K B cl sl S I J pc L (vI x :: st) := s_st (fun _ _ _ _ q => lv_tableOut hO.1 hO.2.1 hd h ht q) k
theorem gSwIn (hO : tKO K B own cc nL) {dflt lo hi : Int} {offs : Array Int} {len : Nat} {x : Int32} {off : Int} {tgt : Nat} (v : Int32) (hx : x = v) (hd : decode cc pc = .ok (.tableswitch dflt lo hi offs, len)) (h : (decide (lo ≤ v.toInt) && decide (v.toInt ≤ hi) && decide (offs[(v.toInt - lo).toNat]? = some off) && decide ((pc : Int) + off = (tgt : Int))) = true) (k : tWG K B cl sl S I J tgt L st) : tWG K B cl sl S I J pc L (vI x :: st) := by
  subst hx
  simp only [Bool.and_eq_true, decide_eq_true_eq] at h
  exact s_st (fun _ _ _ _ q => lv_tableIn hO.1 hO.2.1 hd (by omega) (by omega) h.1.2 h.2 q) k
/-- none of n numbers from lo on -/
def swN (lo : Int) (x : Int32) : Nat → Prop
  | 0 => True
  | n + 1 => swN lo x n ∧ ¬ x = Int32.ofInt (lo + n)
theorem sw_out {lo : Int} {x : Int32} : ∀ {n : Nat}, 0 ≤ lo → lo + n < 2147483648 → swN lo x n → x.toInt < lo ∨ lo + (n : Int) - 1 < x.toInt := by
  intro n
  induction n with
  | zero => intro h0 h1 _; omega
  | succ n ih =>
    intro h0 h1 h
    rcases ih h0 (by omega) h.1 with q | q
    · exact Or.inl q
    · right
      have hne : x.toInt ≠ lo + n := by
        intro e
        apply h.2
        rw [← e, Int32.ofInt_toInt]
      omega
-- contracts
def tRH (B : tB) (S : tSH) (I : tHI) (J : tHJ) (U : State) : Prop := U.heap.size = B.2 + sZ S ∧ va_P B.1.1 vwCl (twl B S I J) U.heap ∧ va_K B.1.1 vwCl (ttys B.1) U ∧ tGr S ∧ tNT B U
abbrev tA (B : tB) : Nat → Prop := fun q => B.2 ≤ q
abbrev tS3 : Type := tSH × tHI × tHJ
def tRm (d mc ms : Nat) : Room := { frames := d, cells := mc, slots := ms, locals := 40 * d }
def tWs (y : MethodName) (c : ByteArray) (n : Nat) (r : Option FieldType) : List Cond := Cond.code y c n r :: wsL_law
def tPc (B : tB) (vs : List tSV) (S : tSH) (I : tHI) (J : tHJ) : Array Value → State → Prop := va_Pc (vs.map (tvv B.2)) (tRH B S I J)
abbrev tRU (B : tB) : tS3 → State → Prop := fun u t => tRH B u.1 u.2.1 u.2.2 t
def tQi (B : tB) (post : Int32 → tS3 → Prop) : Array Value → State → Outcome → State → Prop := va_Qi post (tRU B) (tA B)
def tQl (B : tB) (post : Int64 → tS3 → Prop) : Array Value → State → Outcome → State → Prop := va_Ql post (tRU B) (tA B)
def tQv (B : tB) (post : tS3 → Prop) : Array Value → State → Outcome → State → Prop := va_Qv post (tRU B) (tA B)
def tQq (B : tB) (post : Option Nat → tS3 → Prop) : Array Value → State → Outcome → State → Prop := va_Qq (fun r u => ∃ o : Option Nat, r = o.map (fun x => B.2 + x) ∧ post o u) (tRU B) (tA B)
theorem tPc_blind {vs : List tSV} : FrameBlind (tPc B vs S I J) := fun a U g mk q => ⟨q.1, q.2.1, q.2.2.1, va_K.moved (u := U) (U := U.calling g mk a) (Vm.Alike.refl U.vm) q.2.2.2.1, q.2.2.2.2.1, tNT.same (u := U) (U := U.calling g mk a) rfl rfl q.2.2.2.2.2⟩
def tCm (y : MethodName) (c : ByteArray) (n : Nat) (r : Option FieldType) (argc : Nat) : Prop := Cond.code y c n r ∈ wsL_law ∧ Cond.initialized y.cls ∈ wsL_law ∧ (y.cls ≠ "java/lang/invoke/MethodHandle" ∧ y.cls ≠ "java/lang/invoke/VarHandle" ∧ (parseMethodDescriptor y.desc).map (fun d => d.parameters.length) = some argc)
def tCV (y : MethodName) (c : ByteArray) (n : Nat) (r : Option FieldType) (argc : Nat) : Prop := tCm y c n r argc ∧ Cond.instanceMethod y ∈ wsL_law ∧ Cond.selects y.cls y y ∈ wsL_law
theorem tgood {c : Cond} (h : c ∈ wsL_law) : GoodIn wsL_law (c :: wsL_law) := fun w hw => by
  rcases List.mem_cons.mp hw with e | hw
  · subst e
    exact ⟨h, (wsL_law_good _ h).2⟩
  · exact ⟨hw, (wsL_law_good _ hw).2⟩
theorem tCallB (hO : tKO K B own cc nL) {y : MethodName} {c : ByteArray} {n argc idx w d d' mc ms MC MS : Nat} {r : Option FieldType} (hc : tCm y c n r argc) (hl : wsL_law[w]? = some (Cond.methodLink own idx y)) (hR : kR K = tRm d MC MS) (hd : d' < d) (hn : n ≤ 21) : CallB (kR K) (ks K) (ka K) own idx y c n r (tWs y c n r) (tRm d' mc ms) mc ms argc := by
  refine callB_of (Ts := wsL_law) argc hO.2.2.2.2.1 (tgood hc.1) rfl rfl rfl (hO.2.2.2.2.1 _ hc.2.1) (hO.2.2.2.2.1 _ (List.mem_of_getElem? hl)) hc.2.2 ?_
  rw [hR]
  show d' + 1 ≤ d ∧ 8 + (n + 11) + 40 * d' ≤ 40 * d
  omega
theorem tcats {st : List tSV} (h : st.length ≤ 4) : ((st.map (tvv B.2)).map fun v => v.category).sum ≤ 8 := by
  have key : ∀ l : List tSV, ((l.map (tvv B.2)).map fun v => v.category).sum ≤ 2 * l.length := by
    intro l
    induction l with
    | nil => simp
    | cons v r ih =>
      have h1 : (tvv B.2 v).category ≤ 2 := by rcases lv_cat (tvv B.2 v) with q | q <;> omega
      simp only [List.map_cons, List.sum_cons, List.length_cons]
      omega
  have := key st
  omega
theorem gCVi (hO : tKO K B own cc nL) {y : MethodName} {c : ByteArray} {n argc idx w d d' mc ms MC MS : Nat} {a t : Nat} {vs : List tSV} {r : Option FieldType} {post : Int32 → tS3 → Prop} (hM : Met (kl K) y (tWs y c n r) (tRm d' mc ms) (tPc B (vR a :: vs) S I J) (tQi B post) mc ms (tA B)) (hc : tCV y c n r argc) (hl : wsL_law[w]? = some (Cond.methodLink own idx y)) (hR : kR K = tRm d MC MS) (hq : d' < d ∧ n ≤ 21 ∧ cl + mc ≤ MC ∧ sl + ms ≤ MS) (ht : ty S a t) (hC : 0 < (tkl t).length ∧ (tCl (t % 20)).1 = y.cls) (hvs : vs.length = argc ∧ st.length ≤ 4 ∧ L.length = nL) (hd : decode cc pc = .ok (.invokevirtual idx, 3)) (kk : ∀ (x : Int32) (u : tS3), post x u → tWG K B (cl + mc) (sl + ms) u.1 u.2.1 u.2.2 (pc + 3) L (vI x :: st)) : tWG K B cl sl S I J pc L (vs.reverse ++ vR a :: st) := by
  intro H locs ls hR0 hL
  have e : (vs.reverse ++ vR a :: st).map (tvv B.2) = (vs.map (tvv B.2)).reverse ++ Value.ref (B.2 + a) :: st.map (tvv B.2) := by simp [tvv, va_rf]
  rw [e]
  obtain ⟨h40, hcl, hnn, h13⟩ := tkl_ok t hC.1
  have he := twl_get (B := B) (S := S) (I := I) (J := J) ht.1
  rw [tcell_o (by rw [ht.2]; exact h40), ht.2] at he
  have hrv := va_recv hO.2.2.2.2.2.1 hR0.2.1 hcl he
  rw [hC.2] at hrv
  exact va_calli (va_runV (C := y.cls) (As := vs.map (tvv B.2)) (rest := st.map (tvv B.2)) ⟨hO.1, hO.2.1, hO.2.2.1, hO.2.2.2.1, hO.2.2.2.2.1⟩ hM ⟨tCallB hO hc.1 hl hR hq.1 hq.2.1, hO.2.2.2.2.1 _ hc.2.1, hO.2.2.2.2.1 _ hc.2.2⟩ ⟨tPc_blind, hrv, fun U hU hW => ⟨rfl, by rw [hU]; exact hR0.1, by rw [hU]; exact hR0.2.1, va_K.moved hW.alike hO.2.2.2.2.2.1, hR0.2.2.2, hO.2.2.2.2.2.2.2.at hR0.2.2.1 hU hW⟩⟩ rfl (by rw [List.length_map]; exact hvs.1) (hL.1.trans hvs.2.2) rfl (lv_room (tcats hvs.2.1)) hd (by rw [hR]; exact hq.2.2)) hR0.2.2.1 (fun q _ h => h) (fun q h => h) (fun x u t H1 locs1 ht _ hp hB _ _ hS => kk x u hp H1 locs1 ls ⟨by rw [← ht]; exact hB.1, by rw [← ht]; exact hB.2.1, hS, hB.2.2.2.1⟩ hL)
theorem gCVl (hO : tKO K B own cc nL) {y : MethodName} {c : ByteArray} {n argc idx w d d' mc ms MC MS : Nat} {a t : Nat} {vs : List tSV} {r : Option FieldType} {post : Int64 → tS3 → Prop} (hM : Met (kl K) y (tWs y c n r) (tRm d' mc ms) (tPc B (vR a :: vs) S I J) (tQl B post) mc ms (tA B)) (hc : tCV y c n r argc) (hl : wsL_law[w]? = some (Cond.methodLink own idx y)) (hR : kR K = tRm d MC MS) (hq : d' < d ∧ n ≤ 21 ∧ cl + mc ≤ MC ∧ sl + ms ≤ MS) (ht : ty S a t) (hC : 0 < (tkl t).length ∧ (tCl (t % 20)).1 = y.cls) (hvs : vs.length = argc ∧ st.length ≤ 4 ∧ L.length = nL) (hd : decode cc pc = .ok (.invokevirtual idx, 3)) (kk : ∀ (x : Int64) (u : tS3), post x u → tWG K B (cl + mc) (sl + ms) u.1 u.2.1 u.2.2 (pc + 3) L (vL x :: st)) : tWG K B cl sl S I J pc L (vs.reverse ++ vR a :: st) := by
  intro H locs ls hR0 hL
  have e : (vs.reverse ++ vR a :: st).map (tvv B.2) = (vs.map (tvv B.2)).reverse ++ Value.ref (B.2 + a) :: st.map (tvv B.2) := by simp [tvv, va_rf]
  rw [e]
  obtain ⟨h40, hcl, hnn, h13⟩ := tkl_ok t hC.1
  have he := twl_get (B := B) (S := S) (I := I) (J := J) ht.1
  rw [tcell_o (by rw [ht.2]; exact h40), ht.2] at he
  have hrv := va_recv hO.2.2.2.2.2.1 hR0.2.1 hcl he
  rw [hC.2] at hrv
  exact va_calll (va_runV (C := y.cls) (As := vs.map (tvv B.2)) (rest := st.map (tvv B.2)) ⟨hO.1, hO.2.1, hO.2.2.1, hO.2.2.2.1, hO.2.2.2.2.1⟩ hM ⟨tCallB hO hc.1 hl hR hq.1 hq.2.1, hO.2.2.2.2.1 _ hc.2.1, hO.2.2.2.2.1 _ hc.2.2⟩ ⟨tPc_blind, hrv, fun U hU hW => ⟨rfl, by rw [hU]; exact hR0.1, by rw [hU]; exact hR0.2.1, va_K.moved hW.alike hO.2.2.2.2.2.1, hR0.2.2.2, hO.2.2.2.2.2.2.2.at hR0.2.2.1 hU hW⟩⟩ rfl (by rw [List.length_map]; exact hvs.1) (hL.1.trans hvs.2.2) rfl (lv_room (tcats hvs.2.1)) hd (by rw [hR]; exact hq.2.2)) hR0.2.2.1 (fun q _ h => h) (fun q h => h) (fun x u t H1 locs1 ht _ hp hB _ _ hS => kk x u hp H1 locs1 ls ⟨by rw [← ht]; exact hB.1, by rw [← ht]; exact hB.2.1, hS, hB.2.2.2.1⟩ hL)
theorem gCVv (hO : tKO K B own cc nL) {y : MethodName} {c : ByteArray} {n argc idx w d d' mc ms MC MS : Nat} {a t : Nat} {vs : List tSV} {post : tS3 → Prop} (hM : Met (kl K) y (tWs y c n none) (tRm d' mc ms) (tPc B (vR a :: vs) S I J) (tQv B post) mc ms (tA B)) (hc : tCV y c n none argc) (hl : wsL_law[w]? = some (Cond.methodLink own idx y)) (hR : kR K = tRm d MC MS) (hq : d' < d ∧ n ≤ 21 ∧ cl + mc ≤ MC ∧ sl + ms ≤ MS) (ht : ty S a t) (hC : 0 < (tkl t).length ∧ (tCl (t % 20)).1 = y.cls) (hvs : vs.length = argc ∧ st.length ≤ 4 ∧ L.length = nL) (hd : decode cc pc = .ok (.invokevirtual idx, 3)) (kk : ∀ (u : tS3), post u → tWG K B (cl + mc) (sl + ms) u.1 u.2.1 u.2.2 (pc + 3) L st) : tWG K B cl sl S I J pc L (vs.reverse ++ vR a :: st) := by
  intro H locs ls hR0 hL
  have e : (vs.reverse ++ vR a :: st).map (tvv B.2) = (vs.map (tvv B.2)).reverse ++ Value.ref (B.2 + a) :: st.map (tvv B.2) := by simp [tvv, va_rf]
  rw [e]
  obtain ⟨h40, hcl, hnn, h13⟩ := tkl_ok t hC.1
  have he := twl_get (B := B) (S := S) (I := I) (J := J) ht.1
  rw [tcell_o (by rw [ht.2]; exact h40), ht.2] at he
  have hrv := va_recv hO.2.2.2.2.2.1 hR0.2.1 hcl he
  rw [hC.2] at hrv
  exact va_callv (va_runV (C := y.cls) (As := vs.map (tvv B.2)) (rest := st.map (tvv B.2)) ⟨hO.1, hO.2.1, hO.2.2.1, hO.2.2.2.1, hO.2.2.2.2.1⟩ hM ⟨tCallB hO hc.1 hl hR hq.1 hq.2.1, hO.2.2.2.2.1 _ hc.2.1, hO.2.2.2.2.1 _ hc.2.2⟩ ⟨tPc_blind, hrv, fun U hU hW => ⟨rfl, by rw [hU]; exact hR0.1, by rw [hU]; exact hR0.2.1, va_K.moved hW.alike hO.2.2.2.2.2.1, hR0.2.2.2, hO.2.2.2.2.2.2.2.at hR0.2.2.1 hU hW⟩⟩ rfl (by rw [List.length_map]; exact hvs.1) (hL.1.trans hvs.2.2) rfl (lv_room (tcats hvs.2.1)) hd (by rw [hR]; exact hq.2.2)) hR0.2.2.1 (fun q _ h => h) (fun q h => h) (fun u t H1 locs1 ht _ hp hB _ _ hS => kk u hp H1 locs1 ls ⟨by rw [← ht]; exact hB.1, by rw [← ht]; exact hB.2.1, hS, hB.2.2.2.1⟩ hL)
theorem gCVq (hO : tKO K B own cc nL) {y : MethodName} {c : ByteArray} {n argc idx w d d' mc ms MC MS : Nat} {a t : Nat} {vs : List tSV} {r : Option FieldType} {post : Option Nat → tS3 → Prop} (hM : Met (kl K) y (tWs y c n r) (tRm d' mc ms) (tPc B (vR a :: vs) S I J) (tQq B post) mc ms (tA B)) (hc : tCV y c n r argc) (hl : wsL_law[w]? = some (Cond.methodLink own idx y)) (hR : kR K = tRm d MC MS) (hq : d' < d ∧ n ≤ 21 ∧ cl + mc ≤ MC ∧ sl + ms ≤ MS) (ht : ty S a t) (hC : 0 < (tkl t).length ∧ (tCl (t % 20)).1 = y.cls) (hvs : vs.length = argc ∧ st.length ≤ 4 ∧ L.length = nL) (hd : decode cc pc = .ok (.invokevirtual idx, 3)) (kk : ∀ (o : Option Nat) (u : tS3), post o u → tWG K B (cl + mc) (sl + ms) u.1 u.2.1 u.2.2 (pc + 3) L (vO o :: st)) : tWG K B cl sl S I J pc L (vs.reverse ++ vR a :: st) := by
  intro H locs ls hR0 hL
  have e : (vs.reverse ++ vR a :: st).map (tvv B.2) = (vs.map (tvv B.2)).reverse ++ Value.ref (B.2 + a) :: st.map (tvv B.2) := by simp [tvv, va_rf]
  rw [e]
  obtain ⟨h40, hcl, hnn, h13⟩ := tkl_ok t hC.1
  have he := twl_get (B := B) (S := S) (I := I) (J := J) ht.1
  rw [tcell_o (by rw [ht.2]; exact h40), ht.2] at he
  have hrv := va_recv hO.2.2.2.2.2.1 hR0.2.1 hcl he
  rw [hC.2] at hrv
  exact va_callq (va_runV (C := y.cls) (As := vs.map (tvv B.2)) (rest := st.map (tvv B.2)) ⟨hO.1, hO.2.1, hO.2.2.1, hO.2.2.2.1, hO.2.2.2.2.1⟩ hM ⟨tCallB hO hc.1 hl hR hq.1 hq.2.1, hO.2.2.2.2.1 _ hc.2.1, hO.2.2.2.2.1 _ hc.2.2⟩ ⟨tPc_blind, hrv, fun U hU hW => ⟨rfl, by rw [hU]; exact hR0.1, by rw [hU]; exact hR0.2.1, va_K.moved hW.alike hO.2.2.2.2.2.1, hR0.2.2.2, hO.2.2.2.2.2.2.2.at hR0.2.2.1 hU hW⟩⟩ rfl (by rw [List.length_map]; exact hvs.1) (hL.1.trans hvs.2.2) rfl (lv_room (tcats hvs.2.1)) hd (by rw [hR]; exact hq.2.2)) hR0.2.2.1 (fun q _ h => h) (fun q h => h) (fun x u t H1 locs1 ht _ hp hB _ _ hS => by obtain ⟨o, rfl, hp⟩ := hp; exact kk o u hp H1 locs1 ls ⟨by rw [← ht]; exact hB.1, by rw [← ht]; exact hB.2.1, hS, hB.2.2.2.1⟩ hL)
theorem gCSi (hO : tKO K B own cc nL) {y : MethodName} {c : ByteArray} {n argc idx w d d' mc ms MC MS : Nat} {vs : List tSV} {r : Option FieldType} {post : Int32 → tS3 → Prop} (hM : Met (kl K) y (tWs y c n r) (tRm d' mc ms) (tPc B (vs) S I J) (tQi B post) mc ms (tA B)) (hc : tCm y c n r argc ∧ Cond.static y ∈ wsL_law) (hl : wsL_law[w]? = some (Cond.methodLink own idx y)) (hR : kR K = tRm d MC MS) (hq : d' < d ∧ n ≤ 21 ∧ cl + mc ≤ MC ∧ sl + ms ≤ MS) (hvs : vs.length = argc ∧ st.length ≤ 4 ∧ L.length = nL) (hd : decode cc pc = .ok (.invokestatic idx, 3)) (kk : ∀ (x : Int32) (u : tS3), post x u → tWG K B (cl + mc) (sl + ms) u.1 u.2.1 u.2.2 (pc + 3) L (vI x :: st)) : tWG K B cl sl S I J pc L (vs.reverse ++ st) := by
  intro H locs ls hR0 hL
  have e : (vs.reverse ++ st).map (tvv B.2) = (vs.map (tvv B.2)).reverse ++ st.map (tvv B.2) := by simp
  rw [e]
  exact va_calli (va_runS (As := vs.map (tvv B.2)) (rest := st.map (tvv B.2)) ⟨hO.1, hO.2.1, hO.2.2.1, hO.2.2.2.1, hO.2.2.2.2.1⟩ hM ⟨tCallB hO hc.1 hl hR hq.1 hq.2.1, hO.2.2.2.2.1 _ hc.2⟩ ⟨tPc_blind, fun U hU hW => ⟨rfl, by rw [hU]; exact hR0.1, by rw [hU]; exact hR0.2.1, va_K.moved hW.alike hO.2.2.2.2.2.1, hR0.2.2.2, hO.2.2.2.2.2.2.2.at hR0.2.2.1 hU hW⟩⟩ rfl (by rw [List.length_map]; exact hvs.1) (hL.1.trans hvs.2.2) rfl (lv_room (tcats hvs.2.1)) hd (by rw [hR]; exact hq.2.2)) hR0.2.2.1 (fun q _ h => h) (fun q h => h) (fun x u t H1 locs1 ht _ hp hB _ _ hS => kk x u hp H1 locs1 ls ⟨by rw [← ht]; exact hB.1, by rw [← ht]; exact hB.2.1, hS, hB.2.2.2.1⟩ hL)
theorem gCSl (hO : tKO K B own cc nL) {y : MethodName} {c : ByteArray} {n argc idx w d d' mc ms MC MS : Nat} {vs : List tSV} {r : Option FieldType} {post : Int64 → tS3 → Prop} (hM : Met (kl K) y (tWs y c n r) (tRm d' mc ms) (tPc B (vs) S I J) (tQl B post) mc ms (tA B)) (hc : tCm y c n r argc ∧ Cond.static y ∈ wsL_law) (hl : wsL_law[w]? = some (Cond.methodLink own idx y)) (hR : kR K = tRm d MC MS) (hq : d' < d ∧ n ≤ 21 ∧ cl + mc ≤ MC ∧ sl + ms ≤ MS) (hvs : vs.length = argc ∧ st.length ≤ 4 ∧ L.length = nL) (hd : decode cc pc = .ok (.invokestatic idx, 3)) (kk : ∀ (x : Int64) (u : tS3), post x u → tWG K B (cl + mc) (sl + ms) u.1 u.2.1 u.2.2 (pc + 3) L (vL x :: st)) : tWG K B cl sl S I J pc L (vs.reverse ++ st) := by
  intro H locs ls hR0 hL
  have e : (vs.reverse ++ st).map (tvv B.2) = (vs.map (tvv B.2)).reverse ++ st.map (tvv B.2) := by simp
  rw [e]
  exact va_calll (va_runS (As := vs.map (tvv B.2)) (rest := st.map (tvv B.2)) ⟨hO.1, hO.2.1, hO.2.2.1, hO.2.2.2.1, hO.2.2.2.2.1⟩ hM ⟨tCallB hO hc.1 hl hR hq.1 hq.2.1, hO.2.2.2.2.1 _ hc.2⟩ ⟨tPc_blind, fun U hU hW => ⟨rfl, by rw [hU]; exact hR0.1, by rw [hU]; exact hR0.2.1, va_K.moved hW.alike hO.2.2.2.2.2.1, hR0.2.2.2, hO.2.2.2.2.2.2.2.at hR0.2.2.1 hU hW⟩⟩ rfl (by rw [List.length_map]; exact hvs.1) (hL.1.trans hvs.2.2) rfl (lv_room (tcats hvs.2.1)) hd (by rw [hR]; exact hq.2.2)) hR0.2.2.1 (fun q _ h => h) (fun q h => h) (fun x u t H1 locs1 ht _ hp hB _ _ hS => kk x u hp H1 locs1 ls ⟨by rw [← ht]; exact hB.1, by rw [← ht]; exact hB.2.1, hS, hB.2.2.2.1⟩ hL)
theorem gCSv (hO : tKO K B own cc nL) {y : MethodName} {c : ByteArray} {n argc idx w d d' mc ms MC MS : Nat} {vs : List tSV} {post : tS3 → Prop} (hM : Met (kl K) y (tWs y c n none) (tRm d' mc ms) (tPc B (vs) S I J) (tQv B post) mc ms (tA B)) (hc : tCm y c n none argc ∧ Cond.static y ∈ wsL_law) (hl : wsL_law[w]? = some (Cond.methodLink own idx y)) (hR : kR K = tRm d MC MS) (hq : d' < d ∧ n ≤ 21 ∧ cl + mc ≤ MC ∧ sl + ms ≤ MS) (hvs : vs.length = argc ∧ st.length ≤ 4 ∧ L.length = nL) (hd : decode cc pc = .ok (.invokestatic idx, 3)) (kk : ∀ (u : tS3), post u → tWG K B (cl + mc) (sl + ms) u.1 u.2.1 u.2.2 (pc + 3) L st) : tWG K B cl sl S I J pc L (vs.reverse ++ st) := by
  intro H locs ls hR0 hL
  have e : (vs.reverse ++ st).map (tvv B.2) = (vs.map (tvv B.2)).reverse ++ st.map (tvv B.2) := by simp
  rw [e]
  exact va_callv (va_runS (As := vs.map (tvv B.2)) (rest := st.map (tvv B.2)) ⟨hO.1, hO.2.1, hO.2.2.1, hO.2.2.2.1, hO.2.2.2.2.1⟩ hM ⟨tCallB hO hc.1 hl hR hq.1 hq.2.1, hO.2.2.2.2.1 _ hc.2⟩ ⟨tPc_blind, fun U hU hW => ⟨rfl, by rw [hU]; exact hR0.1, by rw [hU]; exact hR0.2.1, va_K.moved hW.alike hO.2.2.2.2.2.1, hR0.2.2.2, hO.2.2.2.2.2.2.2.at hR0.2.2.1 hU hW⟩⟩ rfl (by rw [List.length_map]; exact hvs.1) (hL.1.trans hvs.2.2) rfl (lv_room (tcats hvs.2.1)) hd (by rw [hR]; exact hq.2.2)) hR0.2.2.1 (fun q _ h => h) (fun q h => h) (fun u t H1 locs1 ht _ hp hB _ _ hS => kk u hp H1 locs1 ls ⟨by rw [← ht]; exact hB.1, by rw [← ht]; exact hB.2.1, hS, hB.2.2.2.1⟩ hL)
theorem gCIv (hO : tKO K B own cc nL) {y : MethodName} {c : ByteArray} {n argc idx w d d' mc ms MC MS : Nat} {a t : Nat} {vs : List tSV} {post : tS3 → Prop} (hM : Met (kl K) y (tWs y c n none) (tRm d' mc ms) (tPc B (vR a :: vs) S I J) (tQv B post) mc ms (tA B)) (hc : tCm y c n none argc ∧ Cond.instanceMethod y ∈ wsL_law ∧ y.name = "<init>") (hl : wsL_law[w]? = some (Cond.methodLink own idx y)) (hR : kR K = tRm d MC MS) (hq : d' < d ∧ n ≤ 21 ∧ cl + mc ≤ MC ∧ sl + ms ≤ MS) (hvs : vs.length = argc ∧ st.length ≤ 4 ∧ L.length = nL) (hd : decode cc pc = .ok (.invokespecial idx, 3)) (kk : ∀ (u : tS3), post u → tWG K B (cl + mc) (sl + ms) u.1 u.2.1 u.2.2 (pc + 3) L st) : tWG K B cl sl S I J pc L (vs.reverse ++ vR a :: st) := by
  intro H locs ls hR0 hL
  have e : (vs.reverse ++ vR a :: st).map (tvv B.2) = (vs.map (tvv B.2)).reverse ++ Value.ref (B.2 + a) :: st.map (tvv B.2) := by simp [tvv, va_rf]
  rw [e]
  exact va_callv (va_runI (As := vs.map (tvv B.2)) (rest := st.map (tvv B.2)) ⟨hO.1, hO.2.1, hO.2.2.1, hO.2.2.2.1, hO.2.2.2.2.1⟩ hM ⟨tCallB hO hc.1 hl hR hq.1 hq.2.1, hc.2.2, hO.2.2.2.2.1 _ hc.2.1⟩ ⟨tPc_blind, fun U hU hW => ⟨rfl, by rw [hU]; exact hR0.1, by rw [hU]; exact hR0.2.1, va_K.moved hW.alike hO.2.2.2.2.2.1, hR0.2.2.2, hO.2.2.2.2.2.2.2.at hR0.2.2.1 hU hW⟩⟩ rfl (by rw [List.length_map]; exact hvs.1) (hL.1.trans hvs.2.2) rfl (lv_room (tcats hvs.2.1)) hd (by rw [hR]; exact hq.2.2)) hR0.2.2.1 (fun q _ h => h) (fun q h => h) (fun u t H1 locs1 ht _ hp hB _ _ hS => kk u hp H1 locs1 ls ⟨by rw [← ht]; exact hB.1, by rw [← ht]; exact hB.2.1, hS, hB.2.2.2.1⟩ hL)
-- returns
def tRet (K : tK) (B : tB) (Qc : Array Value → State → Outcome → State → Prop) (mc ms : Nat) (rt : Option FieldType) : Prop := kQ K = MQ (kb K) Qc (ka K) (ks K) mc ms (tA B) ∧ (kM K).sig.returnType = rt ∧ (kM K).locks = false
theorem tRHof (hO : tKO K B own cc nL) {H : Heap} {locs : List Loc} {t : State} (hR : tRP K B S I J H locs) (hT : t.heap = H) (hW : (ks K).WarmedH t.vm) : tRH B S I J t := ⟨by rw [hT]; exact hR.1, by rw [hT]; exact hR.2.1, va_K.moved hW.alike hO.2.2.2.2.2.1, hR.2.2.2, hO.2.2.2.2.2.2.2.at hR.2.2.1 hT hW⟩
theorem gIret (hO : tKO K B own cc nL) {post : Int32 → tS3 → Prop} (hQ : tRet K B (tQi B post) cl sl (some .int)) {x : Int32} (hd : decode cc pc = .ok (.ireturn, 1)) (hp : post x (S, I, J)) : tWG K B cl sl S I J pc L [vI x] := by
  intro H locs ls hR hL
  show W _ _ _ _ _ _ _ _ _ _ _ _ _ _ (kQ K) _
  rw [hQ.1]
  exact W.iret hO.1 hO.2.1 hQ.2.1 (fun t hT hW => ⟨⟨x, (S, I, J), rfl, hp, tRHof hO hR hT hW⟩, hR.2.2.1.F hT⟩) hR.2.2.1.2.2 hd hQ.2.2
theorem gZret (hO : tKO K B own cc nL) {post : Int32 → tS3 → Prop} (hQ : tRet K B (tQi B post) cl sl (some .boolean)) {x : Int32} (hd : decode cc pc = .ok (.ireturn, 1)) (hz : bz x) (hp : post x (S, I, J)) : tWG K B cl sl S I J pc L [vI x] := by
  intro H locs ls hR hL
  show W _ _ _ _ _ _ _ _ _ _ _ _ _ _ (kQ K) _
  rw [hQ.1]
  exact W.zret hO.1 hO.2.1 hQ.2.1 (bz_n hz).1 (fun t hT hW => ⟨⟨x, (S, I, J), rfl, hp, tRHof hO hR hT hW⟩, hR.2.2.1.F hT⟩) hR.2.2.1.2.2 hd hQ.2.2
theorem gLret (hO : tKO K B own cc nL) {post : Int64 → tS3 → Prop} (hQ : tRet K B (tQl B post) cl sl (some .long)) {x : Int64} (hd : decode cc pc = .ok (.lreturn, 1)) (hp : post x (S, I, J)) : tWG K B cl sl S I J pc L [vL x] := by
  intro H locs ls hR hL
  show W _ _ _ _ _ _ _ _ _ _ _ _ _ _ (kQ K) _
  rw [hQ.1]
  exact W.lret hO.1 hO.2.1 hQ.2.1 (fun t hT hW => ⟨⟨x, (S, I, J), rfl, hp, tRHof hO hR hT hW⟩, hR.2.2.1.F hT⟩) hR.2.2.1.2.2 hd hQ.2.2
theorem gVret (hO : tKO K B own cc nL) {post : tS3 → Prop} (hQ : tRet K B (tQv B post) cl sl none) (hd : decode cc pc = .ok (.return_, 1)) (hp : post (S, I, J)) : tWG K B cl sl S I J pc L [] := by
  intro H locs ls hR hL
  show W _ _ _ _ _ _ _ _ _ _ _ _ _ _ (kQ K) _
  rw [hQ.1]
  exact W.vret hO.1 hO.2.1 hQ.2.1 (fun t hT hW => ⟨⟨(S, I, J), rfl, hp, tRHof hO hR hT hW⟩, hR.2.2.1.F hT⟩) hR.2.2.1.2.2 hd hQ.2.2
-- from the entry
theorem tEntry {l : Launch} {y : MethodName} {c : ByteArray} {n d mc ms : Nat} {ret : Option FieldType} {vs : List tSV} {Qc : Array Value → State → Outcome → State → Prop} (hp : plainName y.cls = true) (L0 : List (Option tSV)) (hL0 : tas B.2 0 L0 = lv_args 0 (vs.map (tvv B.2))) (hLn : L0.length = n) (hlen : (lg_sl (vs.map (tvv B.2))).length ≤ n)
    (body : ∀ K : tK, kl K = l → kR K = tRm d mc ms → tKO K B y.cls c n → tRet K B Qc mc ms ret → tGr S → tWG K B 0 0 S I J 0 L0 []) : Met l y (tWs y c n ret) (tRm d mc ms) (tPc B vs S I J) Qc mc ms (tA B) := by
  refine Met.ofW (cc := c) (maxL := n) (ret := ret) hp rfl ?_
  intro p e s m args below meth c' s₁ BB hml hv
  obtain ⟨rfl, hRH⟩ := hv
  have hts := atoms_spec (ws := tWs y c n ret) BB.pre
  have hown : s.vm.findClass y.cls = some m.cls := findClass_of_methodNamed BB.named
  have hl := lv_entry (vs.map (tvv B.2)) (n := n) hlen
  rw [lg_entry_eq]
  generalize (lg_sl (vs.map (tvv B.2)) ++ List.replicate (n - (lg_sl (vs.map (tvv B.2))).length) Slot.unset).toArray = ls at hl ⊢
  rw [← hL0, ← hLn] at hl
  exact body (p, l, e, tRm d mc ms, s, m, (vs.map (tvv B.2)).toArray, below, meth, c', MQ below Qc (vs.map (tvv B.2)).toArray s mc ms (tA B)) rfl rfl ⟨BB.exec, BB.bytes, hml, hown, fun w h => hts w (List.mem_cons_of_mem _ h), hRH.2.2.1, by show B.2 ≤ s.heap.size; rw [hRH.1]; omega, hRH.2.2.2.2⟩ ⟨rfl, BB.returns, BB.notSynchronized⟩ hRH.2.2.2.1 s.heap [] ls ⟨hRH.1, hRH.2.1, va_S.rf, hRH.2.2.2.1⟩ hl
theorem gWiden {cl' sl' : Nat} (h1 : cl ≤ cl') (h2 : sl ≤ sl') (k : tWG K B cl' sl' S I J pc L st) : tWG K B cl sl S I J pc L st := fun H locs ls hR hL => W.widen h1 h2 (k H locs ls hR hL)
end RC
