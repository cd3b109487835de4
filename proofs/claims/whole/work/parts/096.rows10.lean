/-- a raw object and its references so far; objects that stand ready -/
def tRaw (S : tSH) (a c : Nat) (qs : List (Option Nat)) : Prop := ty S a (20 + c) ∧ ∀ k, k < (tkl c).length → sQ S a k = qs.getD k none
def tHas (S : tSH) (l : List (Nat × Nat × Option Nat)) : Prop := ∀ q, q ∈ l → (q.2.1 < 20 ∨ 40 ≤ q.2.1) ∧ ty S q.1 q.2.1 ∧ (∀ n, q.2.2 = some n → sL S q.1 = n) ∧ (q.2.1 = 43 → ∀ j, sQ S q.1 j = none)
def tCx (S0 S : tSH) (z a c : Nat) (qs : List (Option Nat)) (l : List (Nat × Nat × Option Nat)) : Prop := tGr S ∧ sZ S = z ∧ a < z ∧ c < 13 ∧ tRaw S a c qs ∧ tHas S l ∧ tExt S0 S a
section CX
variable {S0 S : tSH} {z a c : Nat} {qs : List (Option Nat)} {l : List (Nat × Nat × Option Nat)}
theorem tHas.nil : tHas S [] := fun _ h => by cases h
theorem tHas.cons {q : Nat × Nat × Option Nat} (hg : q.2.1 < 20 ∨ 40 ≤ q.2.1) (ht : ty S q.1 q.2.1) (hl : ∀ n, q.2.2 = some n → sL S q.1 = n) (h43 : q.2.1 = 43 → ∀ j, sQ S q.1 j = none) (h : tHas S l) : tHas S (q :: l) := fun x hx => by
  rcases List.mem_cons.mp hx with rfl | hx
  · exact ⟨hg, ht, hl, h43⟩
  · exact h x hx
theorem tCx.in' (hc : c < 13) (hG : tGr S) (ht : ty S a (20 + c)) (hz : sZ S = a + 1) (hq : ∀ k, sQ S a k = none) (hl : tHas S l) : tCx S S (a + 1) a c (List.replicate (tkl c).length none) l :=
  ⟨hG, hz, Nat.lt_succ_self a, hc, ⟨ht, fun k hk => by rw [hq]; simp [List.getD_eq_getElem?_getD, List.getElem?_replicate, hk]⟩, hl, tExt.rf (by omega)⟩
theorem tCx.raw (h : tCx S0 S z a c qs l) : ty S a (20 + c) := h.2.2.2.2.1.1
theorem tCx.has (h : tCx S0 S z a c qs l) {i b t : Nat} {n : Option Nat} (hi : l[i]? = some (b, t, n)) : ty S b t := (h.2.2.2.2.2.1 _ (List.mem_of_getElem? hi)).2.1
theorem tCx.hasL (h : tCx S0 S z a c qs l) {i b t n : Nat} (hi : l[i]? = some (b, t, some n)) : sL S b = n := (h.2.2.2.2.2.1 _ (List.mem_of_getElem? hi)).2.2.1 n rfl
theorem tCx.nil43 (h : tCx S0 S z a c qs l) {i b : Nat} {n : Option Nat} (hi : l[i]? = some (b, 43, n)) : ∀ j, sQ S b j = none := (h.2.2.2.2.2.1 _ (List.mem_of_getElem? hi)).2.2.2 rfl
theorem tCx.q (h : tCx S0 S z a c qs l) {k : Nat} {o : Option Nat} (hk : k < (tkl c).length) (e : qs.getD k none = o) : sQ S a k = o := (h.2.2.2.2.1.2 k hk).trans e
theorem tHas.uS' (h : tHas S l) {t n : Nat} : tHas (uS S t n) l := fun q hq => ⟨(h q hq).1, ty_uS (h q hq).2.1, fun m e => sL_uS (h q hq).2.1 ((h q hq).2.2.1 m e), fun e j => by
  have hw := (h q hq).2.1.1
  show (if q.1 = sZ S then none else sQ S q.1 j) = none
  rw [if_neg (by omega)]
  exact (h q hq).2.2.2 e j⟩
theorem tCx.newR (h : tCx S0 S z a c qs l) {t n : Nat} (ht : 20 ≤ t) : tCx S0 (uS S t n) (z + 1) a c qs l := by
  obtain ⟨h1, h2, h3, h4, ⟨h5, h6⟩, h7, h8⟩ := h
  refine ⟨tGr_uS h1 ht (tkd_raw34 t ht), by show sZ S + 1 = z + 1; rw [h2], by omega, h4, ⟨ty_uS h5, fun k hk => ?_⟩, h7.uS', h8.uS'⟩
  show (if a = sZ S then none else sQ S a k) = _
  rw [if_neg (by omega)]
  exact h6 k hk
theorem tCx.newA (h : tCx S0 S z a c qs l) {t n : Nat} (ht : 40 ≤ t) : tCx S0 (uS S t n) (z + 1) a c qs ((z, t, some n) :: l) := by
  have hr := h.newR (t := t) (n := n) (by omega)
  obtain ⟨h1, h2, h3, h4, h5, h7, h8⟩ := hr
  have e : sZ S = z := h.2.1
  refine ⟨h1, h2, h3, h4, h5, h7.cons (Or.inr ht) (by show ty _ z t; rw [← e]; exact ty_new) (fun m e2 => ?_) (fun _ j => ?_), h8⟩
  · cases e2
    show (if z = sZ S then n else sL S z) = n
    rw [if_pos e.symm]
  · show (if z = sZ S then none else sQ S z j) = none
    rw [if_pos e.symm]
theorem tCx.put (h : tCx S0 S z a c qs l) {k v : Nat} (hk : k < qs.length) : tCx S0 (uQ S a k (some v)) z a c (qs.set k (some v)) l := by
  obtain ⟨h1, h2, h3, h4, ⟨h5, h6⟩, h7, h8⟩ := h
  refine ⟨tGr_uQ h1 (fun t ht x hx => ?_), h2, h3, h4, ⟨h5, fun j hj => ?_⟩, fun q hq => ⟨(h7 q hq).1, (h7 q hq).2.1, (h7 q hq).2.2.1, fun e j => ?_⟩, h8.uQ' (Nat.le_refl a)⟩
  · have e : t = 20 + c := ht.2.symm.trans h5.2
    exact ⟨fun h20 => by omega, fun h43 => by omega, fun h44 => by omega⟩
  · show (if a = a ∧ j = k then some v else sQ S a j) = _
    by_cases e : j = k
    · subst e
      rw [if_pos ⟨rfl, rfl⟩]
      simp [List.getD_eq_getElem?_getD, hk]
    · rw [if_neg (fun q => e q.2), h6 j hj]
      simp [List.getD_eq_getElem?_getD, List.getElem?_set_ne (Ne.symm e)]
  · show (if q.1 = a ∧ j = k then some v else sQ S q.1 j) = none
    have hne : ¬ q.1 = a := fun w => by
      have e1 := (h7 q hq).2.1.2
      have e2 := h5.2
      rw [w] at e1
      omega
    rw [if_neg (fun w => hne w.1)]
    exact (h7 q hq).2.2.2 e j
/-- a made object stands ready -/
theorem tCx.sub {S' : tSH} {b c' m : Nat} (h : tCx S0 S (b + 1) a c qs l) (hc' : c' < 13) (hb : ty S b (20 + c')) (hab : a < b) (hm : 1 ≤ m) (hG : tGr S') (hn : tNew S S' b c' m) : tCx S0 S' (b + m) a c qs ((b, c', none) :: l) := by
  obtain ⟨h1, h2, h3, h4, ⟨h5, h6⟩, h7, h8⟩ := h
  obtain ⟨⟨n1, n2, n3, n4⟩, n5, n6⟩ := hn
  have hne : ∀ q, q ∈ l → q.1 < b := fun q hq => by
    obtain ⟨g1, g2, -⟩ := h7 q hq
    have := g2.1
    rcases Nat.lt_or_ge q.1 b with w | w
    · exact w
    · have e : q.1 = b := by omega
      rw [e] at g2
      have := g2.2.symm.trans hb.2
      omega
  refine ⟨hG, n6, by omega, h4, ⟨n2 a _ hab h5, fun k hk => (n4 a k hab).trans (h6 k hk)⟩, tHas.cons (Or.inl (show c' < 20 by omega)) n5 (fun _ e => by cases e) (fun e => absurd (show c' = 43 from e) (by omega)) (fun q hq => ?_), h8.trans ⟨n1, n2, n3, n4⟩ (by omega)⟩
  obtain ⟨g1, g2, g3, g4⟩ := h7 q hq
  exact ⟨g1, n2 _ _ (hne q hq) g2, fun n e => (n3 _ (hne q hq)).trans (g3 n e), fun e j => (n4 _ j (hne q hq)).trans (g4 e j)⟩
def tRdK (S : tSH) (a c k : Nat) : Prop := ((tkd c k).1 = 3 → sQ S a k = some (a + (tkd c k).2.1) ∧ ty S (a + (tkd c k).2.1) (tkd c k).2.2.1 ∧ ((tkd c k).2.2.2 ≠ 0 → sL S (a + (tkd c k).2.1) = (tkd c k).2.2.2)) ∧
  ((tkd c k).1 = 4 → sQ S a k = some (tkd c k).2.1 ∧ ty S (tkd c k).2.1 (tkd c k).2.2.1) ∧
  ((tkd c k).1 = 2 → ∀ x, sQ S a k = some x → ty S x (tkd c k).2.2.1)
theorem rdy0 {k : Nat} (e : (tkd c k).1 ≤ 1 ∨ (tkd c k).1 = 5) : tRdK S a c k := ⟨fun h => by omega, fun h => by omega, fun h => by omega⟩
theorem rdy3 {k : Nat} (e : (tkd c k).1 = 3) (q : sQ S a k = some (a + (tkd c k).2.1)) (t : ty S (a + (tkd c k).2.1) (tkd c k).2.2.1) (hl : (tkd c k).2.2.2 ≠ 0 → sL S (a + (tkd c k).2.1) = (tkd c k).2.2.2) : tRdK S a c k := ⟨fun _ => ⟨q, t, hl⟩, fun h => by omega, fun h => by omega⟩
theorem rdy4 {k : Nat} (e : (tkd c k).1 = 4) (q : sQ S a k = some (tkd c k).2.1) (t : ty S (tkd c k).2.1 (tkd c k).2.2.1) : tRdK S a c k := ⟨fun h => by omega, fun _ => ⟨q, t⟩, fun h => by omega⟩
theorem rdy2 {k x : Nat} (e : (tkd c k).1 = 2) (q : sQ S a k = some x) (t : ty S x (tkd c k).2.2.1) : tRdK S a c k := ⟨fun h => by omega, fun h => by omega, fun _ y hy => by rw [q] at hy; cases hy; exact t⟩
theorem rdy2n {k : Nat} (e : (tkd c k).1 = 2) (q : sQ S a k = none) : tRdK S a c k := ⟨fun h => by omega, fun h => by omega, fun _ y hy => by rw [q] at hy; cases hy⟩
theorem tCx.done {m : Nat} (h : tCx S0 S (a + m) a c qs l) (hr : tRdy S a c) : tNew S0 (uT S a c) a c m :=
  ⟨h.2.2.2.2.2.2.uT' (Nat.le_refl a), ty_uTs h.raw, h.2.1⟩
end CX
section RX
variable {K : tK} {B : tB} {own : String} {cc : ByteArray} {nL cl sl : Nat} {S0 S : tSH} {I : tHI} {J : tHJ} {pc : Nat} {L : List (Option tSV)} {st : List tSV} {z a c : Nat} {qs : List (Option Nat)} {l : List (Nat × Nat × Option Nat)}
theorem gNewR (hO : tKO K B own cc nL) (h : tCx S0 S z a c qs l) {c' idx w1 w2 w3 d MC MS : Nat} (hc : c' < 13) (hcl : wsL_law[w1]? = some (Cond.classLink own idx (tCl c').1)) (hins : wsL_law[w2]? = some (Cond.instantiable (tCl c').1 (tCl c').2.2)) (hini : wsL_law[w3]? = some (Cond.initialized (tCl c').1)) (hR : kR K = tRm d MC MS) (hq : cl + 1 ≤ MC ∧ sl + (tCl c').2.2 ≤ MS) (hd : decode cc pc = .ok (.new idx, 3)) (kk : ∀ S', tCx S0 S' (z + 1) a c qs l → ty S' z (20 + c') → (∀ j, sQ S' z j = none) → tWG K B (cl + 1) (sl + (tCl c').2.2) S' (uZI I z) (uZJ J z) (pc + 3) L (vR z :: st)) : tWG K B cl sl S I J pc L st := by
  have e : sZ S = z := h.2.1
  refine s_new hO hc hcl hins hini hR hq hd ?_
  rw [e]
  refine kk _ (h.newR (by omega)) (by rw [← e]; exact ty_new) (fun j => ?_)
  show (if z = sZ S then none else sQ S z j) = none
  rw [if_pos e.symm]
theorem gNewA (hO : tKO K B own cc nL) (h : tCx S0 S z a c qs l) {aty : ArrayType} {g w N d MC MS : Nat} {x : Int32} (hat : (g = 40 ∧ aty = .int) ∨ (g = 41 ∧ aty = .boolean) ∨ (g = 42 ∧ aty = .long)) (hw : wsL_law[w]? = some (Cond.arrayClass (newarray.typeOf aty))) (hx0 : ¬ x < 0) (hN : x.toNatClampNeg = N) (hby : N * 8 ≤ 536870912) (hR : kR K = tRm d MC MS) (hq : cl + 1 ≤ MC ∧ sl + N ≤ MS) (hd : decode cc pc = .ok (.newarray aty, 2)) (kk : ∀ S', tCx S0 S' (z + 1) a c qs ((z, g, some N) :: l) → tWG K B (cl + 1) (sl + N) S' (uZI I z) (uZJ J z) (pc + 2) L (vR z :: st)) : tWG K B cl sl S I J pc L (vI x :: st) := by
  have e : sZ S = z := h.2.1
  refine s_newa hO hat hw hx0 hN hby hR hq hd ?_
  rw [e]
  exact kk _ (h.newA (by omega))
theorem gNewQ (hO : tKO K B own cc nL) (h : tCx S0 S z a c qs l) {g idx w N d MC MS : Nat} {x : Int32} {C : String} (hat : (g = 43 ∧ C = RX8) ∨ (g = 44 ∧ C = RX6)) (hw : wsL_law[w]? = some (Cond.classLink own idx C)) (hx0 : ¬ x < 0) (hN : x.toNatClampNeg = N) (hby : N * 4 ≤ 536870912) (hR : kR K = tRm d MC MS) (hq : cl + 1 ≤ MC ∧ sl + N ≤ MS) (hd : decode cc pc = .ok (.anewarray idx, 3)) (kk : ∀ S', tCx S0 S' (z + 1) a c qs ((z, g, some N) :: l) → tWG K B (cl + 1) (sl + N) S' (uZI I z) (uZJ J z) (pc + 3) L (vR z :: st)) : tWG K B cl sl S I J pc L (vI x :: st) := by
  have e : sZ S = z := h.2.1
  refine s_anew hO hat hw hx0 hN hby hR hq hd ?_
  rw [e]
  exact kk _ (h.newA (by omega))
theorem tcx_k {t : Nat} (h : t < 13) {k : Nat} (hk : k < (tkl t).length) : k < (tkl (20 + t)).length := by rw [(tkl_raw t h).1]; exact hk
theorem gPut (hO : tKO K B own cc nL) (h : tCx S0 S z a c qs l) {k i x v : Nat} (hk : k < (tkl c).length) (hks : k < qs.length) (h0 : (tkd (20 + c) k).1 = 2) (hw : wsL_law[i]? = some (Cond.fieldLink own x ((tCl c).2.1 k).1 ((tCl c).2.1 k).2.1 ((tCl c).2.1 k).2.2.1)) (hfin : ((tCl c).2.1 k).2.2.2 = false) {ft : FieldType} (hds : parseFieldDescriptor ((tCl c).2.1 k).2.2.1 = some ft) (hft : isReferenceType ft = true) (hd : decode cc pc = .ok (.putfield x, 3)) (kk : ∀ S', tCx S0 S' z a c (qs.set k (some v)) l → tWG K B cl sl S' I J (pc + 3) L st) : tWG K B cl sl S I J pc L (vR v :: vR a :: st) := by
  have hc := h.2.2.2.1
  have e : (20 + c) % 20 = c := by omega
  have hp := h.put (v := v) hks
  exact s_putq hO h.raw (tcx_k hc hk) h0 (by rw [e]; exact hw) (by rw [e]; exact hfin) (by rw [e]; exact hds) hft hp.1 hd (kk _ hp)
theorem gPutF (hO : tKO K B own cc nL) (h : tCx S0 S z a c qs l) {k i x v : Nat} (hin : (kM K).name = "<init>") (hk : k < (tkl c).length) (hks : k < qs.length) (h0 : (tkd (20 + c) k).1 = 2) (hw : wsL_law[i]? = some (Cond.fieldLink own x ((tCl c).2.1 k).1 ((tCl c).2.1 k).2.1 ((tCl c).2.1 k).2.2.1)) (hfin : ((tCl c).2.1 k).2.2.2 = true) (hdecl : ((tCl c).2.1 k).1 = own) {ft : FieldType} (hds : parseFieldDescriptor ((tCl c).2.1 k).2.2.1 = some ft) (hft : isReferenceType ft = true) (hd : decode cc pc = .ok (.putfield x, 3)) (kk : ∀ S', tCx S0 S' z a c (qs.set k (some v)) l → tWG K B cl sl S' I J (pc + 3) L st) : tWG K B cl sl S I J pc L (vR v :: vR a :: st) := by
  have hc := h.2.2.2.1
  have e : (20 + c) % 20 = c := by omega
  have hp := h.put (v := v) hks
  exact s_putqF hO h.raw (tcx_k hc hk) h0 (by rw [e]; exact hw) (by rw [e]; exact hfin) hin (by rw [e]; exact hdecl) (by rw [e]; exact hds) hft hp.1 hd (kk _ hp)
theorem gPutN (hO : tKO K B own cc nL) (h : tCx S0 S z a c qs l) {k i x : Nat} (hk : k < (tkl c).length) (hqs : qs.getD k none = none) (h0 : (tkd (20 + c) k).1 = 2) (hw : wsL_law[i]? = some (Cond.fieldLink own x ((tCl c).2.1 k).1 ((tCl c).2.1 k).2.1 ((tCl c).2.1 k).2.2.1)) (hfin : ((tCl c).2.1 k).2.2.2 = false) {ft : FieldType} (hds : parseFieldDescriptor ((tCl c).2.1 k).2.2.1 = some ft) (hft : isReferenceType ft = true) (hd : decode cc pc = .ok (.putfield x, 3)) (kk : ∀ S', tCx S0 S' z a c qs l → tWG K B cl sl S' I J (pc + 3) L st) : tWG K B cl sl S I J pc L (vN :: vR a :: st) := by
  have hc := h.2.2.2.1
  have e : (20 + c) % 20 = c := by omega
  have hn := h.q hk hqs
  refine s_putf (v := vN) hO h.raw (tcx_k hc hk) (by rw [e]; exact hw) hd (by rw [e]; exact hfin) (by rw [e]; exact hds) (by cases ft <;> first | rfl | (simp [isReferenceType] at hft)) (by cases ft <;> first | rfl | (simp [isReferenceType] at hft)) (S' := S) (I' := I) (J' := J) rfl h.raw.2 ?_ (fun _ _ => rfl) (fun _ _ => rfl) h.1 (kk _ h)
  rw [tfv_q (by rw [h.raw.2]; exact h0), hn]
  rfl
theorem gReady {m : Nat} (h : tCx S0 S (a + m) a c qs l) (hr : tRdy S a c) (kk : ∀ S', tGr S' → tNew S0 S' a c m → tWG K B cl sl S' I J pc L st) : tWG K B cl sl S I J pc L st :=
  gRetag h.raw h.2.2.2.1 hr (kk _ (tGr_uT h.1 h.raw h.2.2.2.1 hr) (h.done hr))
end RX
def tNp (S : tSH) (a c m : Nat) (I' : tHI) (J' : tHJ) : tS3 → Prop := fun u => tGr u.1 ∧ tNew S u.1 a c m ∧ u.2.1 = I' ∧ u.2.2 = J'
def P6_init (x y : Int32) : Prop :=
  (¬ (if 0 < x then x else 0) < 0 ∧ (if 0 < x then x else 0).toNatClampNeg ≤ 400) ∧ (¬ (if 0 < y then y else 0) < 0 ∧ (if 0 < y then y else 0).toNatClampNeg ≤ 12) ∧ (¬ (if 0 < y then y else 0) < 0 ∧ (if 0 < y then y else 0).toNatClampNeg ≤ 12) ∧ (¬ ((if 0 < y then y else 0) * 3 + 1) < 0 ∧ ((if 0 < y then y else 0) * 3 + 1).toNatClampNeg ≤ 37)
theorem p6 (x y : Int32) (hx : (¬ (if 0 < x then x else 0) < 0 ∧ (if 0 < x then x else 0).toNatClampNeg ≤ 400)) (hy : ((¬ (if 0 < y then y else 0) < 0 ∧ (if 0 < y then y else 0).toNatClampNeg ≤ 12) ∧ (¬ ((if 0 < y then y else 0) * 3 + 1) < 0 ∧ ((if 0 < y then y else 0) * 3 + 1).toNatClampNeg ≤ 37))) : P6_init x y := ⟨hx, hy.1, hy.1, hy.2⟩
