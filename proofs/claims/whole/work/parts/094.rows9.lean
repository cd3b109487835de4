theorem tkl_pos : ∀ c, c < 13 → 0 < (tkl c).length := by
  have h : (List.range 13).all (fun c => decide (0 < (tkl c).length)) = true := by decide +kernel
  intro c hc
  exact of_decide_eq_true (List.all_eq_true.mp h c (List.mem_range.mpr hc))
theorem tcl_get : ∀ c, c < 13 → vwCl[c]? = some (tCl c) ∧ (tCl c).2.2 = (tkl (20 + c)).length := by
  intro c hc
  obtain ⟨-, h1, h2, -⟩ := tkl_ok c (tkl_pos c hc)
  rw [Nat.mod_eq_of_lt (by omega)] at h1 h2
  exact ⟨h1, by rw [h2, (tkl_raw c hc).1]⟩
/-- what a default value is -/
def tdk (v : Value) : Nat := match v with
  | .int x => if x = 0 then 0 else 9
  | .long x => if x = 0 then 1 else 9
  | .null => 2
  | _ => 9
def tdkc (c : Nat) : Bool := (List.range (tkl (20 + c)).length).all (fun k => decide (tdk (defaultValue (tTy c k)) = if (tkd (20 + c) k).1 = 5 then 0 else (tkd (20 + c) k).1))
theorem tdk_ok : ∀ c, c < 13 → ∀ k, k < (tkl (20 + c)).length → tdk (defaultValue (tTy c k)) = if (tkd (20 + c) k).1 = 5 then 0 else (tkd (20 + c) k).1 := by
  have h : (List.range 13).all tdkc = true := by decide +kernel
  intro c hc k hk
  exact of_decide_eq_true (List.all_eq_true.mp (List.all_eq_true.mp h c (List.mem_range.mpr hc)) k (List.mem_range.mpr hk))
theorem tkd_raw4 : ∀ c, c < 13 → ∀ k, k < (tkl (20 + c)).length → (tkd (20 + c) k).1 = 0 ∨ (tkd (20 + c) k).1 = 1 ∨ (tkd (20 + c) k).1 = 2 ∨ (tkd (20 + c) k).1 = 5 := by
  intro c hc k hk
  obtain ⟨e, h⟩ := tkl_raw c hc
  obtain ⟨k1, k2, k3, -⟩ := h k (by omega)
  by_cases q : (tkd c k).1 ≤ 1 ∨ (tkd c k).1 = 5
  · have := k1 q; omega
  · have := k2 (by omega) (by omega); omega
theorem tfv_new {b c k n : Nat} {S : tSH} {I : tHI} {J : tHJ} (hc : c < 13) (hk : k < (tkl (20 + c)).length) : defaultValue (tTy c k) = tfv b (uS S (20 + c) n) (uZI I (sZ S)) (uZJ J (sZ S)) (sZ S) k := by
  have ht : sT (uS S (20 + c) n) (sZ S) = 20 + c := ty_new.2
  have h := tdk_ok c hc k hk
  have h4 := tkd_raw4 c hc k hk
  generalize defaultValue (tTy c k) = v at h ⊢
  rcases h4 with q | q | q | q
  · rw [if_neg (by omega), q] at h
    rw [tfv_i (by rw [ht]; omega)]
    unfold tdk at h
    split at h
    · split at h
      · rename_i e; subst e; simp [uZI]
      · cases h
    · split at h <;> cases h
    · cases h
    · cases h
  · rw [if_neg (by omega), q] at h
    rw [tfv_l (by rw [ht]; omega)]
    unfold tdk at h
    split at h
    · split at h <;> cases h
    · split at h
      · rename_i e; subst e; simp [uZJ]
      · cases h
    · cases h
    · cases h
  · rw [if_neg (by omega), q] at h
    rw [tfv_q (by rw [ht]; omega)]
    unfold tdk at h
    split at h
    · split at h <;> cases h
    · split at h <;> cases h
    · simp [uS, sQ]; rfl
    · cases h
  · rw [if_pos q] at h
    rw [tfv_i (by rw [ht]; omega)]
    unfold tdk at h
    split at h
    · split at h
      · rename_i e; subst e; simp [uZI]
      · cases h
    · split at h <;> cases h
    · cases h
    · cases h
section RN
variable {K : tK} {B : tB} {own : String} {cc : ByteArray} {nL cl sl : Nat} {S : tSH} {I : tHI} {J : tHJ} {pc : Nat} {L : List (Option tSV)} {st : List tSV}
theorem twl_S {t n : Nat} : twl B (uS S t n) (uZI I (sZ S)) (uZJ J (sZ S)) = twl B S I J ++ [(B.2 + sZ S, tcell B (uS S t n) (uZI I (sZ S)) (uZJ J (sZ S)) (sZ S))] := by
  have e : ∀ (S' : tSH) (I' : tHI) (J' : tHJ), sZ S' = sZ S + 1 → twl B S' I' J' = (List.range (sZ S)).map (fun a => (B.2 + a, tcell B S' I' J' a)) ++ [(B.2 + sZ S, tcell B S' I' J' (sZ S))] := by
    intro S' I' J' h
    unfold twl
    rw [h, List.range_succ, List.map_append]
    rfl
  rw [e _ _ _ rfl]
  congr 1
  unfold twl
  apply List.map_congr_left
  intro x hx
  rw [tcell_S (List.mem_range.mp hx)]
theorem tRP_S {H H1 : Heap} {locs : List Loc} {t n : Nat} (hb : B.2 ≤ (ks K).heap.size) (hR : tRP K B S I J H locs) (z1 : H1.size = B.2 + sZ S + 1) (o1 : ∀ q, q < B.2 + sZ S → H1[q]? = H[q]?) (hG : tGr (uS S t n)) (ha : va_at B.1.1 vwCl (B.2 + sZ S, tcell B (uS S t n) (uZI I (sZ S)) (uZJ J (sZ S)) (sZ S)) H1) : tRP K B (uS S t n) (uZI I (sZ S)) (uZJ J (sZ S)) H1 locs := by
  obtain ⟨h1, h2, h3, h4⟩ := hR
  refine ⟨z1, ?_, ⟨Nat.le_trans h3.1 (by omega), fun x a b => (o1 x (by have := h3.1; omega)).trans (h3.2.1 x a b), h3.2.2⟩, hG⟩
  rw [twl_S]
  refine (h2.kept fun k q hq => o1 q.1 ?_).app fun k x hx => ?_
  · have hm := List.mem_of_getElem? hq
    unfold twl at hm
    obtain ⟨a, ha, rfl⟩ := List.mem_map.mp hm
    have := List.mem_range.mp ha
    show B.2 + a < _
    omega
  · have hz : k < 1 := (List.getElem?_eq_some_iff.mp hx).1
    rw [show k = 0 by omega] at hx
    cases hx
    exact ha
theorem s_new (hO : tKO K B own cc nL) {c idx w1 w2 w3 d MC MS : Nat} (hc : c < 13) (hcl : wsL_law[w1]? = some (Cond.classLink own idx (tCl c).1)) (hins : wsL_law[w2]? = some (Cond.instantiable (tCl c).1 (tCl c).2.2)) (hini : wsL_law[w3]? = some (Cond.initialized (tCl c).1)) (hR : kR K = tRm d MC MS) (hq : cl + 1 ≤ MC ∧ sl + (tCl c).2.2 ≤ MS) (hd : decode cc pc = .ok (.new idx, 3)) (kk : tWG K B (cl + 1) (sl + (tCl c).2.2) (uS S (20 + c) 0) (uZI I (sZ S)) (uZJ J (sZ S)) (pc + 3) L (vR (sZ S) :: st)) : tWG K B cl sl S I J pc L st := by
  intro H locs ls hR0 hL
  obtain ⟨hx, hb, -, hown, hts, hK, hbs, -⟩ := hO
  obtain ⟨hg, hn⟩ := tcl_get c hc
  have hKn := hK.1 c _ hg
  refine W.newcK hx hb hown (hts _ (List.mem_of_getElem? hcl)) (hts _ (List.mem_of_getElem? hins)) (hts _ (List.mem_of_getElem? hini)) rfl hd (by rw [hR]; exact hq.1) (by rw [hR]; exact hq.2) hKn.2.1 (h := B.2 + sZ S) hR0.1 fun H1 kC hkC e1 z1 o1 => ?_
  refine kk H1 locs ls (tRP_S hbs hR0 z1 o1 (tGr_uS hR0.2.2.2 (by omega) (tkd_raw34 _ (by omega))) ?_) hL
  have ht : sT (uS S (20 + c) 0) (sZ S) = 20 + c := ty_new.2
  rw [tcell_o (by rw [ht]; omega), ht, show (20 + c) % 20 = c by omega]
  refine ⟨_, hg, (u_born (tTy c) hts (tcl_in c hc) hKn hkC e1 (tcl_ty c hc)).to fun j hj => ?_⟩
  rw [tfv_new (b := B.2) (n := 0) (S := S) (I := I) (J := J) hc (by rw [← hn]; exact hj)]
  have hj' : j < (tkl (20 + c)).length := by rw [← hn]; exact hj
  simp only [vp_V, List.getD_eq_getElem?_getD, List.getElem?_map, List.getElem?_range hj', Option.map_some, Option.getD_some]
theorem s_newa (hO : tKO K B own cc nL) {aty : ArrayType} {g w N d MC MS : Nat} {x : Int32} (hat : (g = 40 ∧ aty = .int) ∨ (g = 41 ∧ aty = .boolean) ∨ (g = 42 ∧ aty = .long)) (hw : wsL_law[w]? = some (Cond.arrayClass (newarray.typeOf aty))) (hx0 : ¬ x < 0) (hN : x.toNatClampNeg = N) (hby : N * 8 ≤ 536870912) (hR : kR K = tRm d MC MS) (hq : cl + 1 ≤ MC ∧ sl + N ≤ MS) (hd : decode cc pc = .ok (.newarray aty, 2)) (kk : tWG K B (cl + 1) (sl + N) (uS S g N) (uZI I (sZ S)) (uZJ J (sZ S)) (pc + 2) L (vR (sZ S) :: st)) : tWG K B cl sl S I J pc L (vI x :: st) := by
  intro H locs ls hR0 hL
  obtain ⟨hx, hb, -, hown, hts, hK, hbs, -⟩ := hO
  have hg20 : 20 ≤ g := by omega
  have hraw := tkd_raw34 g hg20
  have ht : sT (uS S g N) (sZ S) = g := ty_new.2
  have hl : sL (uS S g N) (sZ S) = N := by simp [uS, sL]
  refine va_newaK hx hb (hts _ (List.mem_of_getElem? hw)) rfl hd rfl hx0 hN (by rcases hat with ⟨-, rfl⟩ | ⟨-, rfl⟩ | ⟨-, rfl⟩ <;> simp only [newarray.typeOf, componentBytes] <;> omega) (by rw [hR]; exact hq.1) (by rw [hR]; exact hq.2) (h := B.2 + sZ S) hR0.1 fun H1 cA e1 z1 o1 hAr hNm => ?_
  refine kk H1 locs ls (tRP_S hbs hR0 z1 o1 (tGr_uS hR0.2.2.2 hg20 hraw) ?_) hL
  rcases hat with ⟨rfl, rfl⟩ | ⟨rfl, rfl⟩ | ⟨rfl, rfl⟩
  · have hA := (hK.2 0 (B.1.2.1, .int) rfl).2
    have : cA = B.1.2.1 := Option.some.inj (hNm.symm.trans hA)
    subst this
    unfold tcell
    rw [if_pos ht, hl]
    have e : (fun j => Value.int (uZI I (sZ S) (sZ S) j)) = fun _ => Value.int 0 := by funext j; simp [uZI]
    show H1[B.2 + sZ S]? = some (arrV B.1.2.1 N (fun j => Value.int (uZI I (sZ S) (sZ S) j)))
    rw [e1, e]
    rfl
  · have hA := (hK.2 1 (B.1.2.2.1, .boolean) rfl).2
    have : cA = B.1.2.2.1 := Option.some.inj (hNm.symm.trans hA)
    subst this
    unfold tcell
    rw [if_neg (by rw [ht]; decide), if_pos ht, hl]
    have e : (fun j => Value.int (uZI I (sZ S) (sZ S) j)) = fun _ => Value.int 0 := by funext j; simp [uZI]
    show H1[B.2 + sZ S]? = some (arrV B.1.2.2.1 N (fun j => Value.int (uZI I (sZ S) (sZ S) j)))
    rw [e1, e]
    rfl
  · have hA := (hK.2 2 (B.1.2.2.2.1, .long) rfl).2
    have : cA = B.1.2.2.2.1 := Option.some.inj (hNm.symm.trans hA)
    subst this
    unfold tcell
    rw [if_neg (by rw [ht]; decide), if_neg (by rw [ht]; decide), if_pos ht, hl]
    have e : (fun j => Value.long (uZJ J (sZ S) (sZ S) j)) = fun _ => Value.long 0 := by funext j; simp [uZJ]
    show H1[B.2 + sZ S]? = some (arrV B.1.2.2.2.1 N (fun j => Value.long (uZJ J (sZ S) (sZ S) j)))
    rw [e1, e]
    rfl
theorem s_anew (hO : tKO K B own cc nL) {g idx w N d MC MS : Nat} {x : Int32} {C : String} (hat : (g = 43 ∧ C = RX8) ∨ (g = 44 ∧ C = RX6)) (hw : wsL_law[w]? = some (Cond.classLink own idx C)) (hx0 : ¬ x < 0) (hN : x.toNatClampNeg = N) (hby : N * 4 ≤ 536870912) (hR : kR K = tRm d MC MS) (hq : cl + 1 ≤ MC ∧ sl + N ≤ MS) (hd : decode cc pc = .ok (.anewarray idx, 3)) (kk : tWG K B (cl + 1) (sl + N) (uS S g N) (uZI I (sZ S)) (uZJ J (sZ S)) (pc + 3) L (vR (sZ S) :: st)) : tWG K B cl sl S I J pc L (vI x :: st) := by
  intro H locs ls hR0 hL
  obtain ⟨hx, hb, -, hown, hts, hK, hbs, hNT⟩ := hO
  have hover : (Cond.arrayOver (.object C)).before (ka K) (ks K) = true := by
    rcases hat with ⟨-, rfl⟩ | ⟨-, rfl⟩
    · exact hNT.1.2.1.use
    · exact hNT.1.2.2.use
  have hg20 : 20 ≤ g := by omega
  have hraw := tkd_raw34 g hg20
  have ht : sT (uS S g N) (sZ S) = g := ty_new.2
  have hl : sL (uS S g N) (sZ S) = N := by simp [uS, sL]
  have hz := hR0.1
  refine W.anew hx hb hown (hts _ (List.mem_of_getElem? hw)) hover rfl hd rfl hx0 (by rw [hN]; exact hby) (by rw [hR]; exact hq.1) (by rw [hN, hR]; exact hq.2) fun cA kA comp f1 f2 f3 f4 => ?_
  rw [hN, hz]
  refine kk _ locs ls (tRP_S hbs hR0 (by simp [hz]) (fun q h => by rw [Array.getElem?_push, if_neg (by omega)]) (tGr_uS hR0.2.2.2 hg20 hraw) ?_) hL
  rcases hat with ⟨rfl, rfl⟩ | ⟨rfl, rfl⟩
  · obtain ⟨-, -, -, -, -, hA⟩ := (hK.2 3 (B.1.2.2.2.2.1, .object "ThreeWheels$State") rfl).2
    have : cA = B.1.2.2.2.2.1 := Option.some.inj (f1.symm.trans hA)
    subst this
    unfold tcell
    rw [if_neg (by rw [ht]; decide), if_neg (by rw [ht]; decide), if_neg (by rw [ht]; decide), if_pos ht, hl]
    have e : (fun j => va_rf ((sQ (uS S 43 N) (sZ S) j).map (fun x => B.2 + x))) = fun _ => Value.null := by funext j; simp [uS, sQ]; rfl
    show (Array.push H { cls := B.1.2.2.2.2.1, slots := Array.replicate N Value.null, vm := .none })[B.2 + sZ S]? = some (arrV B.1.2.2.2.2.1 N (fun j => va_rf ((sQ (uS S 43 N) (sZ S) j).map (fun x => B.2 + x))))
    rw [← hz, Array.getElem?_push, if_pos rfl, arrV_new, e]
  · obtain ⟨-, -, -, -, -, hA⟩ := (hK.2 4 (B.1.2.2.2.2.2.1, .object "ThreeWheels$Program") rfl).2
    have : cA = B.1.2.2.2.2.2.1 := Option.some.inj (f1.symm.trans hA)
    subst this
    unfold tcell
    rw [if_neg (by rw [ht]; decide), if_neg (by rw [ht]; decide), if_neg (by rw [ht]; decide), if_neg (by rw [ht]; decide), if_pos ht, hl]
    have e : (fun j => va_rf ((sQ (uS S 44 N) (sZ S) j).map (fun x => B.2 + x))) = fun _ => Value.null := by funext j; simp [uS, sQ]; rfl
    show (Array.push H { cls := B.1.2.2.2.2.2.1, slots := Array.replicate N Value.null, vm := .none })[B.2 + sZ S]? = some (arrV B.1.2.2.2.2.2.1 N (fun j => va_rf ((sQ (uS S 44 N) (sZ S) j).map (fun x => B.2 + x))))
    rw [← hz, Array.getElem?_push, if_pos rfl, arrV_new, e]
theorem tEntryI {l : Launch} {y : MethodName} {c : ByteArray} {n d mc ms : Nat} {ret : Option FieldType} {vs : List tSV} {Qc : Array Value → State → Outcome → State → Prop} (hp : plainName y.cls = true) (L0 : List (Option tSV)) (hL0 : tas B.2 0 L0 = lv_args 0 (vs.map (tvv B.2))) (hLn : L0.length = n) (hlen : (lg_sl (vs.map (tvv B.2))).length ≤ n)
    (body : ∀ K : tK, kl K = l → (kM K).name = y.name → kR K = tRm d mc ms → tKO K B y.cls c n → tRet K B Qc mc ms ret → tGr S → tWG K B 0 0 S I J 0 L0 []) : Met l y (tWs y c n ret) (tRm d mc ms) (tPc B vs S I J) Qc mc ms (tA B) := by
  refine Met.ofW (cc := c) (maxL := n) (ret := ret) hp rfl ?_
  intro p e s m args below meth c' s₁ BB hml hv
  obtain ⟨rfl, hRH⟩ := hv
  have hts := atoms_spec (ws := tWs y c n ret) BB.pre
  have hown : s.vm.findClass y.cls = some m.cls := findClass_of_methodNamed BB.named
  have hl := lv_entry (vs.map (tvv B.2)) (n := n) hlen
  rw [lg_entry_eq]
  generalize (lg_sl (vs.map (tvv B.2)) ++ List.replicate (n - (lg_sl (vs.map (tvv B.2))).length) Slot.unset).toArray = ls at hl ⊢
  rw [← hL0, ← hLn] at hl
  exact body (p, l, e, tRm d mc ms, s, m, (vs.map (tvv B.2)).toArray, below, meth, c', MQ below Qc (vs.map (tvv B.2)).toArray s mc ms (tA B)) rfl (name_of_methodNamed BB.named BB.method).1 rfl ⟨BB.exec, BB.bytes, hml, hown, fun w h => hts w (List.mem_cons_of_mem _ h), hRH.2.2.1, by show B.2 ≤ s.heap.size; rw [hRH.1]; omega, hRH.2.2.2.2⟩ ⟨rfl, BB.returns, BB.notSynchronized⟩ hRH.2.2.2.1 s.heap [] ls ⟨hRH.1, hRH.2.1, va_S.rf, hRH.2.2.2.1⟩ hl
theorem s_putfF (hO : tKO K B own cc nL) {a t k i x : Nat} (ht : ty S a t) (hk : k < (tkl t).length) (hw : wsL_law[i]? = some (Cond.fieldLink own x ((tCl (t % 20)).2.1 k).1 ((tCl (t % 20)).2.1 k).2.1 ((tCl (t % 20)).2.1 k).2.2.1)) (hd : decode cc pc = .ok (.putfield x, 3)) (hfin : ((tCl (t % 20)).2.1 k).2.2.2 = true) (hin : (kM K).name = "<init>") (hdecl : ((tCl (t % 20)).2.1 k).1 = own)
    {v : tSV} {ft : FieldType} (hds : parseFieldDescriptor ((tCl (t % 20)).2.1 k).2.2.1 = some ft) (hn : narrow ft (tvv B.2 v) = tvv B.2 v) (hf : fits ft (tvv B.2 v) = true) {S' : tSH} {I' : tHI} {J' : tHJ} (hz : sZ S' = sZ S) (ht' : sT S' a = t) (hv : tfv B.2 S' I' J' a k = tvv B.2 v) (ho : ∀ j, j ≠ k → tfv B.2 S' I' J' a j = tfv B.2 S I J a j) (hoo : ∀ y, y ≠ a → tcell B S' I' J' y = tcell B S I J y) (hG : tGr S') (kk : tWG K B cl sl S' I' J' (pc + 3) L st) : tWG K B cl sl S I J pc L (v :: vR a :: st) := by
  intro H locs ls hR hL
  obtain ⟨hx, hb, -, hown, hts, hK, -, -⟩ := hO
  obtain ⟨h40, hcl, hnn, h13⟩ := tkl_ok t (by omega)
  obtain ⟨hsz, hP, hS0, -⟩ := hR
  have he := twl_get (B := B) (S := S) (I := I) (J := J) ht.1
  rw [tcell_o (by rw [ht.2]; exact h40), ht.2] at he
  have hap := va_apart (own := own) hts (tcl_in _ h13) (tTy (t % 20)) (tcl_ty _ h13) (tcl_nm _ h13) hK hcl
  obtain ⟨r, h1, cell, q1, q2, q3, q4⟩ := hP a _ he
  have hr : r = tCl (t % 20) := Option.some.inj (h1.symm.trans hcl)
  subst hr
  obtain ⟨hSl, hfc, kC, hkC, hkind⟩ := hK.1 _ _ hcl
  obtain ⟨cf, kf, fi, f, hi, hsl⟩ := hSl k (by omega)
  have hlay := hts _ (tcl_in _ h13 _ (u_in_lay (show k < _ by omega)))
  unfold u_lay at hlay
  rw [if_pos hfin] at hlay
  have hst := (u_facts hfc hkC (u_lays hts (tcl_in _ h13) (by omega)) hi).1
  have hcf : (km K).cls = cf := by
    obtain ⟨_, _, c', _, _, _, -, -, hf', -, -, -, hown2, -⟩ := Cond.laysFinal_spec hlay
    have e1 : c' = cf := by have := hi.symm.trans hf'; simp at this; exact this.1.symm
    rw [hdecl] at hown2
    rw [← e1]; exact Option.some.inj (hown.symm.trans hown2)
  have h6 := u_fits hfc hkC hkind (Or.inr hlay) hi hds hn hf
  refine W.putFinK hx hb hown (hts _ (List.mem_of_getElem? hw)) hi hst hcf hin (by rw [q2]; exact h6) q1 q3 (by rw [hsl]; exact k2_hasslot (q4 k (by omega))) rfl rfl hd fun H' e1 e2 e3 => ?_
  rw [hsl] at e1 ⊢
  have hP' := hP.set (twl_D (B := B) (S := S) (I := I) (J := J)) he (e := .inr (t % 20, ((List.range (tkl t).length).map (tfv B.2 S I J a)).set k (tvv B.2 v))) ⟨_, hcl, t_OB.to (V := updV (vp_V ((List.range (tkl t).length).map (tfv B.2 S I J a))) k (tvv B.2 v)) ⟨_, e1, q2, q3, t_set q4 hap (by omega) (tvv B.2 v)⟩ (fun j _ => vp_updV_set (by simp; omega) (tvv B.2 v) j)⟩ e3
  rw [twl_set (S' := S') (I' := I') (J' := J') hz (by rw [tcell_o (by rw [ht']; exact h40), ht', tl_set hv ho]) hoo] at hP'
  exact kk H' _ ls ⟨by rw [e2, hsz, hz], hP', hS0.put e2 e3 (by show B.2 ≤ B.2 + a; omega), hG⟩ hL
theorem s_putqF (hO : tKO K B own cc nL) {a t k i x v : Nat} (ht : ty S a t) (hk : k < (tkl t).length) (h0 : (tkd t k).1 = 2) (hw : wsL_law[i]? = some (Cond.fieldLink own x ((tCl (t % 20)).2.1 k).1 ((tCl (t % 20)).2.1 k).2.1 ((tCl (t % 20)).2.1 k).2.2.1)) (hfin : ((tCl (t % 20)).2.1 k).2.2.2 = true) (hin : (kM K).name = "<init>") (hdecl : ((tCl (t % 20)).2.1 k).1 = own) {ft : FieldType} (hds : parseFieldDescriptor ((tCl (t % 20)).2.1 k).2.2.1 = some ft) (hft : isReferenceType ft = true) (hG : tGr (uQ S a k (some v))) (hd : decode cc pc = .ok (.putfield x, 3)) (kk : tWG K B cl sl (uQ S a k (some v)) I J (pc + 3) L st) : tWG K B cl sl S I J pc L (vR v :: vR a :: st) := by
  refine s_putfF (v := vR v) hO ht hk hw hd hfin hin hdecl hds (by cases ft <;> first | rfl | (simp [isReferenceType] at hft)) (by cases ft <;> first | rfl | (simp [isReferenceType] at hft)) (S' := uQ S a k (some v)) (I' := I) (J' := J) rfl ht.2 ?_ ?_ (fun y hy => tcell_Q hy) hG kk
  · have ht2 : sT (uQ S a k (some v)) a = t := ht.2
    rw [tfv_q (by rw [ht2]; exact h0)]
    simp [uQ, sQ, tvv]
  · intro j hj
    have e : sQ (uQ S a k (some v)) a j = sQ S a j := by simp [uQ, sQ, hj]
    have e2 : sT (uQ S a k (some v)) = sT S := rfl
    unfold tfv
    simp only [e, e2]
end RN
/-- what lay below stays -/
def tExt (S S' : tSH) (z : Nat) : Prop := z ≤ sZ S' ∧ (∀ b g, b < z → ty S b g → ty S' b g) ∧ (∀ b, b < z → sL S' b = sL S b) ∧ ∀ b j, b < z → sQ S' b j = sQ S b j
theorem tExt.rf {S : tSH} {z : Nat} (h : z ≤ sZ S) : tExt S S z := ⟨h, fun _ _ _ h => h, fun _ _ => rfl, fun _ _ _ => rfl⟩
theorem tExt.uS' {S S' : tSH} {z t n : Nat} (h : tExt S S' z) : tExt S (uS S' t n) z := by
  obtain ⟨h1, h2, h3, h4⟩ := h
  refine ⟨by show z ≤ sZ S' + 1; omega, fun b g hb ht => ty_uS (h2 b g hb ht), fun b hb => ?_, fun b j hb => ?_⟩
  · show (if b = sZ S' then n else sL S' b) = _
    rw [if_neg (by omega)]; exact h3 b hb
  · show (if b = sZ S' then none else sQ S' b j) = _
    rw [if_neg (by omega)]; exact h4 b j hb
theorem tExt.uQ' {S S' : tSH} {z a k : Nat} {v : Option Nat} (h : tExt S S' z) (ha : z ≤ a) : tExt S (uQ S' a k v) z := by
  obtain ⟨h1, h2, h3, h4⟩ := h
  refine ⟨h1, h2, h3, fun b j hb => ?_⟩
  show (if b = a ∧ j = k then v else sQ S' b j) = _
  rw [if_neg (by omega)]; exact h4 b j hb
theorem tExt.uT' {S S' : tSH} {z a c : Nat} (h : tExt S S' z) (ha : z ≤ a) : tExt S (uT S' a c) z := by
  obtain ⟨h1, h2, h3, h4⟩ := h
  refine ⟨h1, fun b g hb ht => ty_uTo (h2 b g hb ht) (by omega), h3, h4⟩
theorem tExt.trans {S S' S'' : tSH} {z z' : Nat} (h : tExt S S' z) (h' : tExt S' S'' z') (hz : z ≤ z') : tExt S S'' z := by
  obtain ⟨h1, h2, h3, h4⟩ := h
  obtain ⟨g1, g2, g3, g4⟩ := h'
  exact ⟨by omega, fun b g hb ht => g2 b g (by omega) (h2 b g hb ht), fun b hb => (g3 b (by omega)).trans (h3 b hb), fun b j hb => (g4 b j (by omega)).trans (h4 b j hb)⟩
/-- a new object of a class stands ready at a, and m objects were made from a on -/
def tNew (S S' : tSH) (a c m : Nat) : Prop := tExt S S' a ∧ ty S' a c ∧ sZ S' = a + m
