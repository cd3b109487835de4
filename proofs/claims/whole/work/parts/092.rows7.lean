def cpI (I : tHI) (x sp y dp n : Nat) : tHI := fun c k => if c = y ∧ dp ≤ k ∧ k < dp + n then I x (sp + (k - dp)) else I c k
section RT
variable {K : tK} {B : tB} {own : String} {cc : ByteArray} {nL cl sl : Nat} {S : tSH} {I : tHI} {J : tHJ} {pc : Nat} {L : List (Option tSV)} {st : List tSV}
theorem gCaseO {o : Option Nat} (kt : o = none → tWG K B cl sl S I J pc L (vN :: st)) (kf : ∀ x, o = some x → tWG K B cl sl S I J pc L (vR x :: st)) : tWG K B cl sl S I J pc L (vO o :: st) := by
  cases o with
  | none => exact kt rfl
  | some x => exact kf x rfl
theorem gKnow {o : Option Nat} {x : Nat} (e : o = some x) (k : tWG K B cl sl S I J pc L (vR x :: st)) : tWG K B cl sl S I J pc L (vO o :: st) := by
  subst e
  exact k
theorem tcell_cp {S : tSH} {I : tHI} {J : tHJ} {x sp y dp n z : Nat} (h : z ≠ y) : tcell B S (cpI I x sp y dp n) J z = tcell B S I J z := by
  have e : ∀ j, cpI I x sp y dp n z j = I z j := fun j => by simp [cpI, h]
  unfold tcell tfv
  simp only [e]
theorem gCopy_w : Cond.static arraycopyName ∈ wsL_law ∧ Cond.native arraycopyName ∈ wsL_law ∧ Cond.initialized "java/lang/System" ∈ wsL_law := ⟨List.mem_of_getElem? (i := 755) (by decide +kernel), List.mem_of_getElem? (i := 754) (by decide +kernel), List.mem_of_getElem? (i := 756) (by decide +kernel)⟩
theorem i32nn {z : Int32} (hz : ¬ z < 0) : z.toInt = (z.toNatClampNeg : Int) := by
  have hz0 : (0 : Int) ≤ z.toInt := by
    have := Int32.not_lt.mp hz
    simpa using Int32.le_iff_toInt_le.mp this
  show z.toInt = ((z.toInt.toNat : Nat) : Int)
  omega
/-- System.arraycopy over ints -/
theorem gCopy (hO : tKO K B own cc nL) {x y idx w d MC MS : Nat} {sp dp n : Int32} (hx : ty S x 40) (hy : ty S y 40) (hr : ¬ sp < 0 ∧ ¬ dp < 0 ∧ ¬ n < 0 ∧ sp.toNatClampNeg + n.toNatClampNeg ≤ sL S x ∧ dp.toNatClampNeg + n.toNatClampNeg ≤ sL S y) (hl : wsL_law[w]? = some (Cond.methodLink own idx arraycopyName)) (hR : kR K = tRm d MC MS) (hq : 2 ≤ d) (hst : st.length ≤ 4) (hLn : L.length = nL) (hd : decode cc pc = .ok (.invokestatic idx, 3)) (kk : tWG K B cl sl S (cpI I x sp.toNatClampNeg y dp.toNatClampNeg n.toNatClampNeg) J (pc + 3) L st) : tWG K B cl sl S I J pc L (vI n :: vI dp :: vR y :: vI sp :: vR x :: st) := by
  intro H locs ls hR0 hL
  obtain ⟨hex, hb, hml, hown, hts, hK, -, -⟩ := hO
  obtain ⟨hsz, hP, hS0, hG⟩ := hR0
  obtain ⟨h1, h2, h3, h4, h5⟩ := hr
  have hax := twl_get (B := B) (S := S) (I := I) (J := J) hx.1
  rw [tcell_40 hx.2] at hax
  have hay := twl_get (B := B) (S := S) (I := I) (J := J) hy.1
  rw [tcell_40 hy.2] at hay
  intro T hT X
  have hcx : H[B.2 + x]? = some (vp_cell B.1.2.1 (sL S x, .inl (fun j => I x j))) := hP x _ hax
  have hcy : H[B.2 + y]? = some (vp_cell B.1.2.1 (sL S y, .inl (fun j => I y j))) := hP y _ hay
  obtain ⟨-, k0, hk0, cm0, hkk0⟩ := (hK.2 0 _ rfl).1 (sL S x) (fun j => .int (I x j))
  have h8 := tcats (B := B) hst
  have hw : nativeFrameWords "java/lang/System" "arraycopy" 5 ≤ 40 := by decide +kernel
  obtain ⟨vm', X', step⟩ := X.arraycopy hex hown (hts _ (List.mem_of_getElem? hl)) (hts _ gCopy_w.2.1) (hts _ gCopy_w.1) (hts _ gCopy_w.2.2) (src := B.2 + x) (dst := B.2 + y) (cs := vp_cell B.1.2.1 (sL S x, .inl (fun j => I x j))) (cd := vp_cell B.1.2.1 (sL S y, .inl (fun j => I y j))) (srcPos := sp) (destPos := dp) (n := n) (by rw [hT]; exact hcx) (by rw [hT]; exact hcy)
    (fun _ h => by cases h) (fun _ h => by cases h) (fun h => by cases h) (fun h => by cases h) hk0 hk0 hkk0 hkk0 (by rfl) h1 h2 h3
    (by rw [i32nn h1, i32nn h3]; show ¬ _ > ((arrV B.1.2.1 (sL S x) (fun j => .int (I x j))).slots.size : Int); rw [arrV_size]; omega)
    (by rw [i32nn h2, i32nn h3]; show ¬ _ > ((arrV B.1.2.1 (sL S y) (fun j => .int (I y j))).slots.size : Int); rw [arrV_size]; omega)
    (fun vm₁ _ i hi => by
      have e : (vp_cell B.1.2.1 (sL S x, .inl (fun j => I x j))).slots.getD (sp.toNatClampNeg + i) .null = .int (I x (sp.toNatClampNeg + i)) := by
        show (arrV B.1.2.1 (sL S x) (fun j => .int (I x j))).slots.getD _ _ = _
        rw [Array.getD_eq_getD_getElem?, arrV_read _ _ (by omega)]
        rfl
      rw [e]
      exact ⟨rfl, trivial⟩)
    (g := F0 (km K) pc ls (.int n :: .int dp :: .ref (B.2 + y) :: .int sp :: .ref (B.2 + x) :: st.map (tvv B.2))) rfl (by rw [hml]; exact hL.1.trans hLn) (rest := st.map (tvv B.2)) rfl (by rw [hb]; exact hd) (by rw [hR]; show 1 ≤ d; omega) (by rw [hR]; show 2 * 0 + _ + _ ≤ 40 * d; omega)
  have e1 : copied (vp_cell B.1.2.1 (sL S x, .inl (fun j => I x j))) (vp_cell B.1.2.1 (sL S y, .inl (fun j => I y j))) sp dp n = vp_cell B.1.2.1 (sL S y, .inl (va_cpy (fun j => I x j) (fun j => I y j) sp.toNatClampNeg dp.toNatClampNeg n.toNatClampNeg)) := va_copied (fun z => .int z) B.1.2.1 B.1.2.1 (fun j => I x j) (fun j => I y j) h4
  have e2 : va_cpy (fun j => I x j) (fun j => I y j) sp.toNatClampNeg dp.toNatClampNeg n.toNatClampNeg = (fun j => cpI I x sp.toNatClampNeg y dp.toNatClampNeg n.toNatClampNeg y j) := by
    funext j
    simp [va_cpy, cpI]
  rw [e1, e2] at X' step
  have hlt : B.2 + y < H.size := (Array.getElem?_eq_some_iff.mp hcy).1
  generalize hc2 : vp_cell B.1.2.1 (sL S y, .inl (fun j => cpI I x sp.toNatClampNeg y dp.toNatClampNeg n.toNatClampNeg y j)) = c2 at X' step
  have hheap : ((T.setVm vm').setCell (B.2 + y) c2).heap = H.setIfInBounds (B.2 + y) c2 := by rw [← hT]; rfl
  have oq : ∀ q : Nat, q ≠ B.2 + y → (H.setIfInBounds (B.2 + y) c2)[q]? = H[q]? := fun q hq => by simp [Array.getElem?_setIfInBounds, Ne.symm hq]
  have hP' := hP.set (twl_D (B := B) (S := S) (I := I) (J := J)) hay (e := .inl (B.1.2.1, sL S y, .inl (fun j => cpI I x sp.toNatClampNeg y dp.toNatClampNeg n.toNatClampNeg y j))) (H1 := H.setIfInBounds (B.2 + y) c2) (by
    show (H.setIfInBounds (B.2 + y) c2)[B.2 + y]? = some (vp_cell _ _)
    rw [hc2]
    simp [Array.getElem?_setIfInBounds, hlt]) oq
  rw [twl_set (S' := S) (I' := cpI I x sp.toNatClampNeg y dp.toNatClampNeg n.toNatClampNeg) (J' := J) rfl (by rw [tcell_40 hy.2]) (fun z hz => tcell_cp hz)] at hP'
  obtain ⟨t, a1, b1⟩ := kk (H.setIfInBounds (B.2 + y) c2) _ ls ⟨by simp; exact hsz, hP', ⟨by simp; exact hS0.1, fun q g1 g2 => by
      rw [oq q (fun e => g2 (by rw [e]; show B.2 ≤ B.2 + y; omega))]
      exact hS0.2.1 q g1 g2, fun q hq => by
      rcases List.mem_append.mp hq with h | h
      · exact hS0.2.2 q h
      · obtain ⟨z, -, hz⟩ := List.mem_map.mp h
        rw [← hz]
        show B.2 ≤ B.2 + y
        omega⟩, hG⟩ hL _ hheap X'
  exact ⟨t, step t a1, b1⟩
-- answers that are references
def tPo (S : tSH) (I : tHI) (J : tHJ) (t : Nat) (v : Option Nat) : Option Nat → tS3 → Prop := fun r u => r = v ∧ (∀ x, v = some x → ty S x t) ∧ u = (S, I, J)
theorem gOret (hO : tKO K B own cc nL) {post : Option Nat → tS3 → Prop} {c : String} (hQ : tRet K B (tQq B post) cl sl (some (.object c))) {o : Option Nat} (hd : decode cc pc = .ok (.areturn, 1)) (hp : post o (S, I, J)) : tWG K B cl sl S I J pc L [vO o] := by
  intro H locs ls hR hL
  show W _ _ _ _ _ _ _ _ _ _ _ _ _ _ (kQ K) _
  rw [hQ.1]
  exact W.aret hO.1 hO.2.1 hQ.2.1 (Or.inl ⟨_, rfl⟩) (by cases o with
    | none => exact Or.inl rfl
    | some a => exact Or.inr ⟨_, rfl⟩) (fun t hT hW => ⟨⟨o.map (fun x => B.2 + x), (S, I, J), rfl, ⟨o, rfl, hp⟩, tRHof hO hR hT hW⟩, hR.2.2.1.F hT⟩) hR.2.2.1.2.2 hd hQ.2.2
theorem gCVq_o (hO : tKO K B own cc nL) {y : MethodName} {c : ByteArray} {n argc idx w d d' MC MS : Nat} {a t g : Nat} {vs : List tSV} {r : Option FieldType} {v : Option Nat} (hM : Met (kl K) y (tWs y c n r) (tRm d' 0 0) (tPc B (vR a :: vs) S I J) (tQq B (tPo S I J g v)) 0 0 (tA B)) (hc : tCV y c n r argc) (hl : wsL_law[w]? = some (Cond.methodLink own idx y)) (hR : kR K = tRm d MC MS) (hq : d' < d ∧ n ≤ 21 ∧ cl + 0 ≤ MC ∧ sl + 0 ≤ MS) (ht : ty S a t) (hC : 0 < (tkl t).length ∧ (tCl (t % 20)).1 = y.cls) (hvs : vs.length = argc ∧ st.length ≤ 4 ∧ L.length = nL) (hd : decode cc pc = .ok (.invokevirtual idx, 3)) (kk : (∀ x, v = some x → ty S x g) → tWG K B cl sl S I J (pc + 3) L (vO v :: st)) : tWG K B cl sl S I J pc L (vs.reverse ++ vR a :: st) :=
  gCVq hO hM hc hl hR hq ht hC hvs hd (fun o u hp => by obtain ⟨e, hz, e2⟩ := hp; subst e; subst e2; exact kk hz)
-- a nest mate's private static method
theorem gCNi_z (hO : tKO K B own cc nL) {y : MethodName} {c : ByteArray} {n argc idx w d d' MC MS : Nat} {vs : List tSV} {r : Option FieldType} {v : Int32} {host : String} (hM : Met (kl K) y (tWs y c n r) (tRm d' 0 0) (tPc B vs S I J) (tQi B (tPz S I J v)) 0 0 (tA B)) (hc : tCm y c n r argc ∧ Cond.static y ∈ wsL_law) (hl : tNest[w]? = some (own, idx, y, host)) (hR : kR K = tRm d MC MS) (hq : d' < d ∧ n ≤ 21 ∧ cl + 0 ≤ MC ∧ sl + 0 ≤ MS) (hvs : vs.length = argc ∧ st.length ≤ 4 ∧ L.length = nL) (hd : decode cc pc = .ok (.invokestatic idx, 3)) (kk : bz v → tWG K B cl sl S I J (pc + 3) L (vI v :: st)) : tWG K B cl sl S I J pc L (vs.reverse ++ st) := by
  intro H locs ls hR0 hL
  have e : (vs.reverse ++ st).map (tvv B.2) = (vs.map (tvv B.2)).reverse ++ st.map (tvv B.2) := by simp
  rw [e]
  have cb := va_cnB (own := own) (host := host) (index := idx) (args := ka K) (s := ks K) (R := kR K) (Ts := wsL_law) (ws := tWs y c n r) (rm := tRm d' 0 0) argc hO.2.2.2.2.1 (tgood hc.1.1) rfl rfl rfl (hO.2.2.2.2.2.2.2.1.1 w _ hl) (hO.2.2.2.2.1 _ hc.1.2.1) hc.1.2.2 (by rw [hR]; show d' + 1 ≤ d ∧ 8 + (n + 11) + 40 * d' ≤ 40 * d; omega)
  exact va_calli (va_runSN (As := vs.map (tvv B.2)) (rest := st.map (tvv B.2)) ⟨hO.1, hO.2.1, hO.2.2.1, hO.2.2.2.1, hO.2.2.2.2.1⟩ hM ⟨cb, hO.2.2.2.2.1 _ hc.2, trivial⟩ ⟨tPc_blind, fun U hU hW => ⟨rfl, by rw [hU]; exact hR0.1, by rw [hU]; exact hR0.2.1, va_K.moved hW.alike hO.2.2.2.2.2.1, hR0.2.2.2, hO.2.2.2.2.2.2.2.at hR0.2.2.1 hU hW⟩⟩ rfl (by rw [List.length_map]; exact hvs.1) (hL.1.trans hvs.2.2) rfl (lv_room (tcats hvs.2.1)) hd (by rw [hR]; exact hq.2.2)) hR0.2.2.1 (fun q _ h => h) (fun q h => h) (fun x u t H1 locs1 ht _ hp hB _ _ hS => by obtain ⟨e, hz, e2⟩ := hp; subst e; subst e2; exact kk hz H1 locs1 ls ⟨by rw [← ht]; exact hB.1, by rw [← ht]; exact hB.2.1, hS, hB.2.2.2.1⟩ hL)
-- and its constructor
theorem gCNv (hO : tKO K B own cc nL) {y : MethodName} {c : ByteArray} {n argc idx w d d' mc ms MC MS : Nat} {a : Nat} {vs : List tSV} {post : tS3 → Prop} {host : String} (hM : Met (kl K) y (tWs y c n none) (tRm d' mc ms) (tPc B (vR a :: vs) S I J) (tQv B post) mc ms (tA B)) (hc : tCm y c n none argc ∧ Cond.instanceMethod y ∈ wsL_law ∧ y.name = "<init>") (hl : tNest[w]? = some (own, idx, y, host)) (hR : kR K = tRm d MC MS) (hq : d' < d ∧ n ≤ 21 ∧ cl + mc ≤ MC ∧ sl + ms ≤ MS) (hvs : vs.length = argc ∧ st.length ≤ 4 ∧ L.length = nL) (hd : decode cc pc = .ok (.invokespecial idx, 3)) (kk : ∀ (u : tS3), post u → tGr u.1 → tWG K B (cl + mc) (sl + ms) u.1 u.2.1 u.2.2 (pc + 3) L st) : tWG K B cl sl S I J pc L (vs.reverse ++ vR a :: st) := by
  intro H locs ls hR0 hL
  have e : (vs.reverse ++ vR a :: st).map (tvv B.2) = (vs.map (tvv B.2)).reverse ++ Value.ref (B.2 + a) :: st.map (tvv B.2) := by simp [tvv, va_rf]
  rw [e]
  have cb := va_cnB (own := own) (host := host) (index := idx) (args := ka K) (s := ks K) (R := kR K) (Ts := wsL_law) (ws := tWs y c n none) (rm := tRm d' mc ms) argc hO.2.2.2.2.1 (tgood hc.1.1) rfl rfl rfl (hO.2.2.2.2.2.2.2.1.1 w _ hl) (hO.2.2.2.2.1 _ hc.1.2.1) hc.1.2.2 (by rw [hR]; show d' + 1 ≤ d ∧ 8 + (n + 11) + 40 * d' ≤ 40 * d; omega)
  exact va_callv (va_runIN (As := vs.map (tvv B.2)) (rest := st.map (tvv B.2)) ⟨hO.1, hO.2.1, hO.2.2.1, hO.2.2.2.1, hO.2.2.2.2.1⟩ hM ⟨cb, hc.2.2, hO.2.2.2.2.1 _ hc.2.1⟩ ⟨tPc_blind, fun U hU hW => ⟨rfl, by rw [hU]; exact hR0.1, by rw [hU]; exact hR0.2.1, va_K.moved hW.alike hO.2.2.2.2.2.1, hR0.2.2.2, hO.2.2.2.2.2.2.2.at hR0.2.2.1 hU hW⟩⟩ rfl (by rw [List.length_map]; exact hvs.1) (hL.1.trans hvs.2.2) rfl (lv_room (tcats hvs.2.1)) hd (by rw [hR]; exact hq.2.2)) hR0.2.2.1 (fun q _ h => h) (fun q h => h) (fun u t H1 locs1 ht _ hp hB _ _ hS => kk u hp hB.2.2.2.1 H1 locs1 ls ⟨by rw [← ht]; exact hB.1, by rw [← ht]; exact hB.2.1, hS, hB.2.2.2.1⟩ hL)
-- rows of references
theorem s_aast (hO : tKO K B own cc nL) {a i' g C : Nat} {i : Int32} {o : Option Nat} (hg : g = 43 ∧ C = 8 ∨ g = 44 ∧ C = 6) (ht : ty S a g) (hv : ∀ x, o = some x → ty S x C) (hin : vp_in i (sL S a)) (hi : i' = i.toNatClampNeg) (hd : decode cc pc = .ok (.aastore, 1)) (kk : tWG K B cl sl (uQ S a i' o) I J (pc + 1) L st) : tWG K B cl sl S I J pc L (vO o :: vI i :: vR a :: st) := by
  subst hi
  have hG' : tGr S → tGr (uQ S a i.toNatClampNeg o) := fun hG => tGr_uQ hG (fun t h x hx => by
    have e : t = g := h.2.symm.trans ht.2
    have := hv x hx
    rcases hg with ⟨e1, e2⟩ | ⟨e1, e2⟩
    · subst e1; subst e2; subst e
      exact ⟨fun h => by omega, fun _ => this, fun h => by omega⟩
    · subst e1; subst e2; subst e
      exact ⟨fun h => by omega, fun h => by omega, fun _ => this⟩)
  intro H locs ls hR hL
  obtain ⟨hx, hb, -, hown, hts, hK, -, -⟩ := hO
  obtain ⟨hsz, hP, hS0, hG⟩ := hR
  obtain ⟨cA, tk, hcell, hcell2, htk, hC⟩ : ∃ (cA : ClassId) (tk : Nat), tcell B S I J a = .inl (cA, sL S a, .inr (.inr (.inr (.inr (fun j => (sQ S a j).map (fun x => B.2 + x)))))) ∧ tcell B (uQ S a i.toNatClampNeg o) I J a = .inl (cA, sL S a, .inr (.inr (.inr (.inr (fun j => (sQ (uQ S a i.toNatClampNeg o) a j).map (fun x => B.2 + x)))))) ∧ (ttys B.1)[tk]? = some (cA, .object (tCl C).1) ∧ C < 13 := by
    rcases hg with ⟨e1, e2⟩ | ⟨e1, e2⟩
    · subst e1; subst e2
      exact ⟨_, 3, tcell_43 ht.2, tcell_43 (S := uQ S a i.toNatClampNeg o) ht.2, rfl, by decide⟩
    · subst e1; subst e2
      exact ⟨_, 4, tcell_44 ht.2, tcell_44 (S := uQ S a i.toNatClampNeg o) ht.2, rfl, by decide⟩
  have ha := twl_get (B := B) (S := S) (I := I) (J := J) ht.1
  rw [hcell] at ha
  have hlt : i.toNatClampNeg < sL S a := Nat.not_le.mp fun q => hin (Or.inr q)
  have h0 : ¬ i < 0 := fun q => hin (Or.inl q)
  have fin : ∀ (H1 : Heap), H1[B.2 + a]? = some ((arrV cA (sL S a) (fun j => va_rf ((sQ S a j).map (fun x => B.2 + x)))).setSlot i.toNatClampNeg (va_rf (o.map (fun x => B.2 + x)))) → H1.size = H.size → (∀ q, q ≠ B.2 + a → H1[q]? = H[q]?) → tW K cl sl H1 (locs ++ [⟨B.2 + a, i.toNatClampNeg⟩]) (F0 (km K) (pc + 1) ls (st.map (tvv B.2))) := by
    intro H1 e z oq
    have hP' := hP.set (twl_D (B := B) (S := S) (I := I) (J := J)) ha (e := .inl (cA, sL S a, .inr (.inr (.inr (.inr (fun j => (sQ (uQ S a i.toNatClampNeg o) a j).map (fun x => B.2 + x))))))) (by
      show H1[B.2 + a]? = some (vp_cell _ _)
      rw [e]
      rw [vp_cell_q, arrV_store]
      congr 2
      funext q
      by_cases hq : q = i.toNatClampNeg
      · subst hq
        simp [updV, uQ, sQ]
      · simp [updV, uQ, sQ, hq]) oq
    rw [twl_set (S := S) (I := I) (J := J) (S' := uQ S a i.toNatClampNeg o) (I' := I) (J' := J) rfl hcell2 (fun y hy => tcell_Q hy)] at hP'
    exact kk H1 _ ls ⟨by rw [z, hsz]; rfl, hP', hS0.put z oq (by show B.2 ≤ B.2 + a; omega), hG' hG⟩ hL
  have hcellH : H[B.2 + a]? = some (arrV cA (sL S a) (fun j => va_rf ((sQ S a j).map (fun x => B.2 + x)))) := hP a _ ha
  cases o with
  | none =>
    exact va_WaastN (C := (tCl C).1) hx hb hcellH ((hK.2 tk _ htk).1 (sL S a) _) (fun h => by cases h) (by show ¬ (i < 0 ∨ (arrV _ _ _).slots.size ≤ _); rw [arrV_size]; exact hin) rfl rfl hd fin
  | some v =>
    have hv := hv v rfl
    have hvv := twl_get (B := B) (S := S) (I := I) (J := J) hv.1
    have hl13 : 0 < (tkl C).length := by
      rcases hg with ⟨-, e2⟩ | ⟨-, e2⟩ <;> subst e2 <;> decide
    obtain ⟨h40, hcl, hnn, h13⟩ := tkl_ok C hl13
    rw [tcell_o (by rw [hv.2]; exact h40), hv.2] at hvv
    obtain ⟨r', hr', cellV, g1, g2, g3, -⟩ := hP v _ hvv
    have hC20 : C % 20 = C := Nat.mod_eq_of_lt (by omega)
    rw [hC20] at hcl hvv
    have hcls := (hK.1 C _ hcl).2
    obtain ⟨kA, comp, k1, k2, k3, -⟩ := (hK.2 tk _ htk).2
    have hcomp : comp = B.1.1.1 C := Option.some.inj (k3.symm.trans hcls.1)
    subst hcomp
    obtain ⟨kC, hkC, -⟩ := hcls.2
    have g2 : cellV.cls = B.1.1.1 C := by rw [← hC20]; exact g2
    exact W.aast hx hb hcellH (fun q h => by cases h) (fun h => by cases h) k1 k2 rfl hkC ⟨h0, by show _ < (arrV _ _ _).slots.size; rw [arrV_size]; exact hlt⟩ g1 (fun q h => by rw [g3] at h; cases h) (by rw [g2]; exact hkC) (by rw [g2]; exact va_assign hcls) rfl rfl hd fin
-- new cells
theorem gObjInit (hO : tKO K B own cc nL) {a idx w d MC MS : Nat} (hl : wsL_law[w]? = some (Cond.methodLink own idx Lib.objectInit)) (hR : kR K = tRm d MC MS) (hq : 1 ≤ d) (hst : st.length ≤ 4) (hLn : L.length = nL) (hd : decode cc pc = .ok (.invokespecial idx, 3)) (kk : tWG K B cl sl S I J (pc + 3) L st) : tWG K B cl sl S I J pc L (vR a :: st) := by
  intro H locs ls hR0 hL
  have h8 := tcats (B := B) hst
  exact W.objInit hO.1 hO.2.1 hO.2.2.2.1 (hO.2.2.2.2.1 _ (List.mem_of_getElem? hl)) (hO.2.2.2.2.1 _ (List.mem_of_getElem? (i := 10) (by decide +kernel))) (hO.2.2.2.2.1 _ (List.mem_of_getElem? (i := 11) (by decide +kernel))) rfl (by rw [hO.2.2.1]; exact hL.1.trans hLn) (a := B.2 + a) rfl hd (by rw [hR]; exact hq) (by rw [hR]; show 2 * 0 + _ + 12 ≤ 40 * d; omega) (kk H locs ls hR0 hL)
end RT
