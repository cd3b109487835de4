abbrev o0 (i : Instr) : tOp := (i, (0, 0, 0, 0), 0, 0)
abbrev oI (i : Instr) (v : Int32) : tOp := (i, (0, 0, 0, 0), v, 0)
abbrev oW (i : Instr) (w : Nat) (v : Int32) : tOp := (i, (0, 0, w, 0), v, 0)
abbrev oJ (i : Instr) (w : Nat) (v : Int64) : tOp := (i, (0, 0, w, 0), 0, v)
abbrev oF (i : Instr) (t k w q : Nat) : tOp := (i, (t, k, w, q), 0, 0)
theorem tGr.off {S : tSH} (hG : tGr S) {a t k o g n : Nat} (ht : ty S a t) (hk : tkd t k = (3, o, g, n)) : ty S (a + o) g := by
  have h := ((hG a t ht).1 k (tkd_tag hk (by simp))).1 (by rw [hk])
  rw [hk] at h
  exact h.1
theorem tGr.len {S : tSH} (hG : tGr S) {a t k o g n : Nat} (ht : ty S a t) (hk : tkd t k = (3, o, g, n)) (hn : n ≠ 0) : sL S (a + o) = n := by
  have h := ((hG a t ht).1 k (tkd_tag hk (by simp))).1 (by rw [hk])
  rw [hk] at h
  exact h.2 hn
theorem tGr.abs {S : tSH} (hG : tGr S) {a t k o g n : Nat} (ht : ty S a t) (hk : tkd t k = (4, o, g, n)) : ty S o g := by
  have h := ((hG a t ht).1 k (tkd_tag hk (by simp))).2.1 (by rw [hk])
  rw [hk] at h
  exact h
theorem tGr.dyn {S : tSH} (hG : tGr S) {a t k o g n x : Nat} (ht : ty S a t) (hk : tkd t k = (2, o, g, n)) (h20 : t < 20) (hx : sQ S a k = some x) : ty S x g := by
  have h := ((hG a t ht).1 k (tkd_tag hk (by simp))).2.2 (by rw [hk]) h20 x hx
  rw [hk] at h
  exact h
theorem tvi {i : Int32} {n : Nat} (h : (decide (¬ i < 0) && decide (i.toNatClampNeg < n)) = true) : vp_in i n := by
  rw [Bool.and_eq_true, decide_eq_true_eq, decide_eq_true_eq] at h
  exact fun q => q.elim h.1 (fun q => by omega)
theorem tcpr {S : tSH} {x y n1 n2 : Nat} {sp dp n : Int32} (e1 : sL S x = n1) (e2 : sL S y = n2) (h : ¬ sp < 0 ∧ ¬ dp < 0 ∧ ¬ n < 0 ∧ sp.toNatClampNeg + n.toNatClampNeg ≤ n1 ∧ dp.toNatClampNeg + n.toNatClampNeg ≤ n2) : ¬ sp < 0 ∧ ¬ dp < 0 ∧ ¬ n < 0 ∧ sp.toNatClampNeg + n.toNatClampNeg ≤ sL S x ∧ dp.toNatClampNeg + n.toNatClampNeg ≤ sL S y := by
  subst e1
  subst e2
  exact h
theorem tin {S : tSH} {a n : Nat} {i : Int32} (e : sL S a = n) (h : vp_in i n) : vp_in i (sL S a) := e ▸ h
def tLe : List (Option tSV) → List (Option tSV) → Prop
  | [], [] => True
  | none :: r, _ :: q => tLe r q
  | some v :: r, some w :: q => v = w ∧ tLe r q
  | _, _ => False
theorem tLe_len : ∀ {L' L : List (Option tSV)}, tLe L' L → L'.length = L.length := by
  intro L'
  induction L' with
  | nil =>
    intro L h
    cases L with
    | nil => rfl
    | cons o q => exact h.elim
  | cons o r ih =>
    intro L h
    cases L with
    | nil => cases o <;> exact h.elim
    | cons p q =>
      cases o with
      | none => simp [ih (L := q) h]
      | some v =>
        cases p with
        | none => exact h.elim
        | some w => simp [ih (L := q) h.2]
theorem tLe_in {b : Nat} : ∀ {L' L : List (Option tSV)} {i : Nat}, tLe L' L → ∀ q ∈ tas b i L', q ∈ tas b i L := by
  intro L'
  induction L' with
  | nil => intro L i h q hq; cases hq
  | cons o r ih =>
    intro L i h q hq
    cases L with
    | nil => cases o <;> exact h.elim
    | cons p l =>
      cases o with
      | none =>
        have h2 := ih (i := i + 1) (show tLe r l from h) q hq
        cases p with
        | none => exact h2
        | some w => exact List.mem_cons_of_mem _ h2
      | some v =>
        cases p with
        | none => exact h.elim
        | some w =>
          obtain ⟨rfl, h⟩ := h
          rcases List.mem_cons.mp hq with e | hq
          · rw [e]; exact List.mem_cons_self
          · exact List.mem_cons_of_mem _ (ih h q hq)
section RH
variable {K : tK} {B : tB} {own : String} {cc : ByteArray} {nL cl sl : Nat} {S : tSH} {I : tHI} {J : tHJ} {pc : Nat} {L : List (Option tSV)} {st : List tSV}
theorem gWeak {L' : List (Option tSV)} (h : tLe L' L) (k : tWG K B cl sl S I J pc L' st) : tWG K B cl sl S I J pc L st := fun H locs ls hR hL => k H locs ls hR ⟨by rw [hL.1, tLe_len h], hL.2.1, fun q hq => hL.2.2 q (tLe_in h q hq)⟩
/-! what a method that makes nothing leaves: k of its answer and the numbers then -/
def tPi (S : tSH) (k : Int32 → tHI → tHJ → Prop) : Int32 → tS3 → Prop := fun r u => u.1 = S ∧ k r u.2.1 u.2.2
def tPb (S : tSH) (k : Int32 → tHI → tHJ → Prop) : Int32 → tS3 → Prop := fun r u => u.1 = S ∧ bz r ∧ k r u.2.1 u.2.2
def tPl (S : tSH) (k : Int64 → tHI → tHJ → Prop) : Int64 → tS3 → Prop := fun r u => u.1 = S ∧ k r u.2.1 u.2.2
def tPv (S : tSH) (k : tHI → tHJ → Prop) : tS3 → Prop := fun u => u.1 = S ∧ k u.2.1 u.2.2
def tPp (S : tSH) (I : tHI) (J : tHJ) (v : Int32) : Int32 → tS3 → Prop := fun r u => r = v ∧ u = (S, I, J)
def tPz (S : tSH) (I : tHI) (J : tHJ) (v : Int32) : Int32 → tS3 → Prop := fun r u => r = v ∧ bz r ∧ u = (S, I, J)
def tPq (S : tSH) (I : tHI) (J : tHJ) (v : Int64) : Int64 → tS3 → Prop := fun r u => r = v ∧ u = (S, I, J)
theorem bz_if {c : Prop} {x y : Int32} {d : Decidable c} (hx : bz x) (hy : bz y) : bz (@ite _ c d x y) := by
  by_cases h : c
  · rw [if_pos h]; exact hx
  · rw [if_neg h]; exact hy
theorem gCVi_c (hO : tKO K B own cc nL) {y : MethodName} {c : ByteArray} {n argc idx w d d' MC MS : Nat} {a t : Nat} {vs : List tSV} {r : Option FieldType} {k : Int32 → tHI → tHJ → Prop} (hM : Met (kl K) y (tWs y c n r) (tRm d' 0 0) (tPc B (vR a :: vs) S I J) (tQi B (tPi S k)) 0 0 (tA B)) (hc : tCV y c n r argc) (hl : wsL_law[w]? = some (Cond.methodLink own idx y)) (hR : kR K = tRm d MC MS) (hq : d' < d ∧ n ≤ 21 ∧ cl + 0 ≤ MC ∧ sl + 0 ≤ MS) (ht : ty S a t) (hC : 0 < (tkl t).length ∧ (tCl (t % 20)).1 = y.cls) (hvs : vs.length = argc ∧ st.length ≤ 4 ∧ L.length = nL) (hd : decode cc pc = .ok (.invokevirtual idx, 3)) (kk : ∀ (x : Int32) (I' : tHI) (J' : tHJ), k x I' J' → tWG K B cl sl S I' J' (pc + 3) L (vI x :: st)) : tWG K B cl sl S I J pc L (vs.reverse ++ vR a :: st) :=
  gCVi hO hM hc hl hR hq ht hC hvs hd (fun x u hp => by obtain ⟨S', I', J'⟩ := u; obtain ⟨e, hp⟩ := hp; subst e; exact kk x I' J' hp)
theorem gCVi_b (hO : tKO K B own cc nL) {y : MethodName} {c : ByteArray} {n argc idx w d d' MC MS : Nat} {a t : Nat} {vs : List tSV} {r : Option FieldType} {k : Int32 → tHI → tHJ → Prop} (hM : Met (kl K) y (tWs y c n r) (tRm d' 0 0) (tPc B (vR a :: vs) S I J) (tQi B (tPb S k)) 0 0 (tA B)) (hc : tCV y c n r argc) (hl : wsL_law[w]? = some (Cond.methodLink own idx y)) (hR : kR K = tRm d MC MS) (hq : d' < d ∧ n ≤ 21 ∧ cl + 0 ≤ MC ∧ sl + 0 ≤ MS) (ht : ty S a t) (hC : 0 < (tkl t).length ∧ (tCl (t % 20)).1 = y.cls) (hvs : vs.length = argc ∧ st.length ≤ 4 ∧ L.length = nL) (hd : decode cc pc = .ok (.invokevirtual idx, 3)) (kk : ∀ (x : Int32) (I' : tHI) (J' : tHJ), bz x → k x I' J' → tWG K B cl sl S I' J' (pc + 3) L (vI x :: st)) : tWG K B cl sl S I J pc L (vs.reverse ++ vR a :: st) :=
  gCVi hO hM hc hl hR hq ht hC hvs hd (fun x u hp => by obtain ⟨S', I', J'⟩ := u; obtain ⟨e, hz, hp⟩ := hp; subst e; exact kk x I' J' hz hp)
theorem gCVi_p (hO : tKO K B own cc nL) {y : MethodName} {c : ByteArray} {n argc idx w d d' MC MS : Nat} {a t : Nat} {vs : List tSV} {r : Option FieldType} {v : Int32} (hM : Met (kl K) y (tWs y c n r) (tRm d' 0 0) (tPc B (vR a :: vs) S I J) (tQi B (tPp S I J v)) 0 0 (tA B)) (hc : tCV y c n r argc) (hl : wsL_law[w]? = some (Cond.methodLink own idx y)) (hR : kR K = tRm d MC MS) (hq : d' < d ∧ n ≤ 21 ∧ cl + 0 ≤ MC ∧ sl + 0 ≤ MS) (ht : ty S a t) (hC : 0 < (tkl t).length ∧ (tCl (t % 20)).1 = y.cls) (hvs : vs.length = argc ∧ st.length ≤ 4 ∧ L.length = nL) (hd : decode cc pc = .ok (.invokevirtual idx, 3)) (kk : tWG K B cl sl S I J (pc + 3) L (vI v :: st)) : tWG K B cl sl S I J pc L (vs.reverse ++ vR a :: st) :=
  gCVi hO hM hc hl hR hq ht hC hvs hd (fun x u hp => by obtain ⟨e, e2⟩ := hp; subst e; subst e2; exact kk)
theorem gCVi_z (hO : tKO K B own cc nL) {y : MethodName} {c : ByteArray} {n argc idx w d d' MC MS : Nat} {a t : Nat} {vs : List tSV} {r : Option FieldType} {v : Int32} (hM : Met (kl K) y (tWs y c n r) (tRm d' 0 0) (tPc B (vR a :: vs) S I J) (tQi B (tPz S I J v)) 0 0 (tA B)) (hc : tCV y c n r argc) (hl : wsL_law[w]? = some (Cond.methodLink own idx y)) (hR : kR K = tRm d MC MS) (hq : d' < d ∧ n ≤ 21 ∧ cl + 0 ≤ MC ∧ sl + 0 ≤ MS) (ht : ty S a t) (hC : 0 < (tkl t).length ∧ (tCl (t % 20)).1 = y.cls) (hvs : vs.length = argc ∧ st.length ≤ 4 ∧ L.length = nL) (hd : decode cc pc = .ok (.invokevirtual idx, 3)) (kk : bz v → tWG K B cl sl S I J (pc + 3) L (vI v :: st)) : tWG K B cl sl S I J pc L (vs.reverse ++ vR a :: st) :=
  gCVi hO hM hc hl hR hq ht hC hvs hd (fun x u hp => by obtain ⟨e, hz, e2⟩ := hp; subst e; subst e2; exact kk hz)
theorem gCVl_c (hO : tKO K B own cc nL) {y : MethodName} {c : ByteArray} {n argc idx w d d' MC MS : Nat} {a t : Nat} {vs : List tSV} {r : Option FieldType} {k : Int64 → tHI → tHJ → Prop} (hM : Met (kl K) y (tWs y c n r) (tRm d' 0 0) (tPc B (vR a :: vs) S I J) (tQl B (tPl S k)) 0 0 (tA B)) (hc : tCV y c n r argc) (hl : wsL_law[w]? = some (Cond.methodLink own idx y)) (hR : kR K = tRm d MC MS) (hq : d' < d ∧ n ≤ 21 ∧ cl + 0 ≤ MC ∧ sl + 0 ≤ MS) (ht : ty S a t) (hC : 0 < (tkl t).length ∧ (tCl (t % 20)).1 = y.cls) (hvs : vs.length = argc ∧ st.length ≤ 4 ∧ L.length = nL) (hd : decode cc pc = .ok (.invokevirtual idx, 3)) (kk : ∀ (x : Int64) (I' : tHI) (J' : tHJ), k x I' J' → tWG K B cl sl S I' J' (pc + 3) L (vL x :: st)) : tWG K B cl sl S I J pc L (vs.reverse ++ vR a :: st) :=
  gCVl hO hM hc hl hR hq ht hC hvs hd (fun x u hp => by obtain ⟨S', I', J'⟩ := u; obtain ⟨e, hp⟩ := hp; subst e; exact kk x I' J' hp)
theorem gCVl_p (hO : tKO K B own cc nL) {y : MethodName} {c : ByteArray} {n argc idx w d d' MC MS : Nat} {a t : Nat} {vs : List tSV} {r : Option FieldType} {v : Int64} (hM : Met (kl K) y (tWs y c n r) (tRm d' 0 0) (tPc B (vR a :: vs) S I J) (tQl B (tPq S I J v)) 0 0 (tA B)) (hc : tCV y c n r argc) (hl : wsL_law[w]? = some (Cond.methodLink own idx y)) (hR : kR K = tRm d MC MS) (hq : d' < d ∧ n ≤ 21 ∧ cl + 0 ≤ MC ∧ sl + 0 ≤ MS) (ht : ty S a t) (hC : 0 < (tkl t).length ∧ (tCl (t % 20)).1 = y.cls) (hvs : vs.length = argc ∧ st.length ≤ 4 ∧ L.length = nL) (hd : decode cc pc = .ok (.invokevirtual idx, 3)) (kk : tWG K B cl sl S I J (pc + 3) L (vL v :: st)) : tWG K B cl sl S I J pc L (vs.reverse ++ vR a :: st) :=
  gCVl hO hM hc hl hR hq ht hC hvs hd (fun x u hp => by obtain ⟨e, e2⟩ := hp; subst e; subst e2; exact kk)
theorem gCVv_c (hO : tKO K B own cc nL) {y : MethodName} {c : ByteArray} {n argc idx w d d' MC MS : Nat} {a t : Nat} {vs : List tSV} {k : tHI → tHJ → Prop} (hM : Met (kl K) y (tWs y c n none) (tRm d' 0 0) (tPc B (vR a :: vs) S I J) (tQv B (tPv S k)) 0 0 (tA B)) (hc : tCV y c n none argc) (hl : wsL_law[w]? = some (Cond.methodLink own idx y)) (hR : kR K = tRm d MC MS) (hq : d' < d ∧ n ≤ 21 ∧ cl + 0 ≤ MC ∧ sl + 0 ≤ MS) (ht : ty S a t) (hC : 0 < (tkl t).length ∧ (tCl (t % 20)).1 = y.cls) (hvs : vs.length = argc ∧ st.length ≤ 4 ∧ L.length = nL) (hd : decode cc pc = .ok (.invokevirtual idx, 3)) (kk : ∀ (I' : tHI) (J' : tHJ), k I' J' → tWG K B cl sl S I' J' (pc + 3) L st) : tWG K B cl sl S I J pc L (vs.reverse ++ vR a :: st) :=
  gCVv hO hM hc hl hR hq ht hC hvs hd (fun u hp => by obtain ⟨S', I', J'⟩ := u; obtain ⟨e, hp⟩ := hp; subst e; exact kk I' J' hp)
theorem gCSi_c (hO : tKO K B own cc nL) {y : MethodName} {c : ByteArray} {n argc idx w d d' MC MS : Nat} {vs : List tSV} {r : Option FieldType} {k : Int32 → tHI → tHJ → Prop} (hM : Met (kl K) y (tWs y c n r) (tRm d' 0 0) (tPc B (vs) S I J) (tQi B (tPi S k)) 0 0 (tA B)) (hc : tCm y c n r argc ∧ Cond.static y ∈ wsL_law) (hl : wsL_law[w]? = some (Cond.methodLink own idx y)) (hR : kR K = tRm d MC MS) (hq : d' < d ∧ n ≤ 21 ∧ cl + 0 ≤ MC ∧ sl + 0 ≤ MS) (hvs : vs.length = argc ∧ st.length ≤ 4 ∧ L.length = nL) (hd : decode cc pc = .ok (.invokestatic idx, 3)) (kk : ∀ (x : Int32) (I' : tHI) (J' : tHJ), k x I' J' → tWG K B cl sl S I' J' (pc + 3) L (vI x :: st)) : tWG K B cl sl S I J pc L (vs.reverse ++ st) :=
  gCSi hO hM hc hl hR hq hvs hd (fun x u hp => by obtain ⟨S', I', J'⟩ := u; obtain ⟨e, hp⟩ := hp; subst e; exact kk x I' J' hp)
theorem gCSi_b (hO : tKO K B own cc nL) {y : MethodName} {c : ByteArray} {n argc idx w d d' MC MS : Nat} {vs : List tSV} {r : Option FieldType} {k : Int32 → tHI → tHJ → Prop} (hM : Met (kl K) y (tWs y c n r) (tRm d' 0 0) (tPc B (vs) S I J) (tQi B (tPb S k)) 0 0 (tA B)) (hc : tCm y c n r argc ∧ Cond.static y ∈ wsL_law) (hl : wsL_law[w]? = some (Cond.methodLink own idx y)) (hR : kR K = tRm d MC MS) (hq : d' < d ∧ n ≤ 21 ∧ cl + 0 ≤ MC ∧ sl + 0 ≤ MS) (hvs : vs.length = argc ∧ st.length ≤ 4 ∧ L.length = nL) (hd : decode cc pc = .ok (.invokestatic idx, 3)) (kk : ∀ (x : Int32) (I' : tHI) (J' : tHJ), bz x → k x I' J' → tWG K B cl sl S I' J' (pc + 3) L (vI x :: st)) : tWG K B cl sl S I J pc L (vs.reverse ++ st) :=
  gCSi hO hM hc hl hR hq hvs hd (fun x u hp => by obtain ⟨S', I', J'⟩ := u; obtain ⟨e, hz, hp⟩ := hp; subst e; exact kk x I' J' hz hp)
theorem gCSi_p (hO : tKO K B own cc nL) {y : MethodName} {c : ByteArray} {n argc idx w d d' MC MS : Nat} {vs : List tSV} {r : Option FieldType} {v : Int32} (hM : Met (kl K) y (tWs y c n r) (tRm d' 0 0) (tPc B (vs) S I J) (tQi B (tPp S I J v)) 0 0 (tA B)) (hc : tCm y c n r argc ∧ Cond.static y ∈ wsL_law) (hl : wsL_law[w]? = some (Cond.methodLink own idx y)) (hR : kR K = tRm d MC MS) (hq : d' < d ∧ n ≤ 21 ∧ cl + 0 ≤ MC ∧ sl + 0 ≤ MS) (hvs : vs.length = argc ∧ st.length ≤ 4 ∧ L.length = nL) (hd : decode cc pc = .ok (.invokestatic idx, 3)) (kk : tWG K B cl sl S I J (pc + 3) L (vI v :: st)) : tWG K B cl sl S I J pc L (vs.reverse ++ st) :=
  gCSi hO hM hc hl hR hq hvs hd (fun x u hp => by obtain ⟨e, e2⟩ := hp; subst e; subst e2; exact kk)
theorem gCSi_z (hO : tKO K B own cc nL) {y : MethodName} {c : ByteArray} {n argc idx w d d' MC MS : Nat} {vs : List tSV} {r : Option FieldType} {v : Int32} (hM : Met (kl K) y (tWs y c n r) (tRm d' 0 0) (tPc B (vs) S I J) (tQi B (tPz S I J v)) 0 0 (tA B)) (hc : tCm y c n r argc ∧ Cond.static y ∈ wsL_law) (hl : wsL_law[w]? = some (Cond.methodLink own idx y)) (hR : kR K = tRm d MC MS) (hq : d' < d ∧ n ≤ 21 ∧ cl + 0 ≤ MC ∧ sl + 0 ≤ MS) (hvs : vs.length = argc ∧ st.length ≤ 4 ∧ L.length = nL) (hd : decode cc pc = .ok (.invokestatic idx, 3)) (kk : bz v → tWG K B cl sl S I J (pc + 3) L (vI v :: st)) : tWG K B cl sl S I J pc L (vs.reverse ++ st) :=
  gCSi hO hM hc hl hR hq hvs hd (fun x u hp => by obtain ⟨e, hz, e2⟩ := hp; subst e; subst e2; exact kk hz)
theorem gCSl_c (hO : tKO K B own cc nL) {y : MethodName} {c : ByteArray} {n argc idx w d d' MC MS : Nat} {vs : List tSV} {r : Option FieldType} {k : Int64 → tHI → tHJ → Prop} (hM : Met (kl K) y (tWs y c n r) (tRm d' 0 0) (tPc B (vs) S I J) (tQl B (tPl S k)) 0 0 (tA B)) (hc : tCm y c n r argc ∧ Cond.static y ∈ wsL_law) (hl : wsL_law[w]? = some (Cond.methodLink own idx y)) (hR : kR K = tRm d MC MS) (hq : d' < d ∧ n ≤ 21 ∧ cl + 0 ≤ MC ∧ sl + 0 ≤ MS) (hvs : vs.length = argc ∧ st.length ≤ 4 ∧ L.length = nL) (hd : decode cc pc = .ok (.invokestatic idx, 3)) (kk : ∀ (x : Int64) (I' : tHI) (J' : tHJ), k x I' J' → tWG K B cl sl S I' J' (pc + 3) L (vL x :: st)) : tWG K B cl sl S I J pc L (vs.reverse ++ st) :=
  gCSl hO hM hc hl hR hq hvs hd (fun x u hp => by obtain ⟨S', I', J'⟩ := u; obtain ⟨e, hp⟩ := hp; subst e; exact kk x I' J' hp)
theorem gCSl_p (hO : tKO K B own cc nL) {y : MethodName} {c : ByteArray} {n argc idx w d d' MC MS : Nat} {vs : List tSV} {r : Option FieldType} {v : Int64} (hM : Met (kl K) y (tWs y c n r) (tRm d' 0 0) (tPc B (vs) S I J) (tQl B (tPq S I J v)) 0 0 (tA B)) (hc : tCm y c n r argc ∧ Cond.static y ∈ wsL_law) (hl : wsL_law[w]? = some (Cond.methodLink own idx y)) (hR : kR K = tRm d MC MS) (hq : d' < d ∧ n ≤ 21 ∧ cl + 0 ≤ MC ∧ sl + 0 ≤ MS) (hvs : vs.length = argc ∧ st.length ≤ 4 ∧ L.length = nL) (hd : decode cc pc = .ok (.invokestatic idx, 3)) (kk : tWG K B cl sl S I J (pc + 3) L (vL v :: st)) : tWG K B cl sl S I J pc L (vs.reverse ++ st) :=
  gCSl hO hM hc hl hR hq hvs hd (fun x u hp => by obtain ⟨e, e2⟩ := hp; subst e; subst e2; exact kk)
theorem gCSv_c (hO : tKO K B own cc nL) {y : MethodName} {c : ByteArray} {n argc idx w d d' MC MS : Nat} {vs : List tSV} {k : tHI → tHJ → Prop} (hM : Met (kl K) y (tWs y c n none) (tRm d' 0 0) (tPc B (vs) S I J) (tQv B (tPv S k)) 0 0 (tA B)) (hc : tCm y c n none argc ∧ Cond.static y ∈ wsL_law) (hl : wsL_law[w]? = some (Cond.methodLink own idx y)) (hR : kR K = tRm d MC MS) (hq : d' < d ∧ n ≤ 21 ∧ cl + 0 ≤ MC ∧ sl + 0 ≤ MS) (hvs : vs.length = argc ∧ st.length ≤ 4 ∧ L.length = nL) (hd : decode cc pc = .ok (.invokestatic idx, 3)) (kk : ∀ (I' : tHI) (J' : tHJ), k I' J' → tWG K B cl sl S I' J' (pc + 3) L st) : tWG K B cl sl S I J pc L (vs.reverse ++ st) :=
  gCSv hO hM hc hl hR hq hvs hd (fun u hp => by obtain ⟨S', I', J'⟩ := u; obtain ⟨e, hp⟩ := hp; subst e; exact kk I' J' hp)

theorem gMax_w : Cond.static Lib.Math.max.name ∈ wsL_law ∧ Cond.initialized "java/lang/Math" ∈ wsL_law ∧ Cond.code Lib.Math.max.name Lib.Math.max.code 2 (some .int) ∈ wsL_law := ⟨List.mem_of_getElem? (i := 137) (by decide +kernel), List.mem_of_getElem? (i := 138) (by decide +kernel), List.mem_of_getElem? (i := 139) (by decide +kernel)⟩
theorem gMax (hO : tKO K B own cc nL) {idx w d MC MS : Nat} {x y : Int32} (hl : wsL_law[w]? = some (Cond.methodLink own idx Lib.Math.max.name)) (hR : kR K = tRm d MC MS) (hq : 1 ≤ d ∧ cl ≤ MC ∧ sl ≤ MS) {st : List tSV} (hst : st.length ≤ 4) (hLn : L.length = nL) (hd : decode cc pc = .ok (.invokestatic idx, 3)) (kk : tWG K B cl sl S I J (pc + 3) L (vI (if x < y then y else x) :: st)) : tWG K B cl sl S I J pc L (vI y :: vI x :: st) := fun H locs ls hR0 hL => va_mmax hO.1 hO.2.1 (by rw [hO.2.2.1, hL.1, hLn]) hO.2.2.2.1 (hO.2.2.2.2.1 _ (List.mem_of_getElem? hl)) (hO.2.2.2.2.1 _ gMax_w.1) (hO.2.2.2.2.1 _ gMax_w.2.1) (hO.2.2.2.2.1 _ gMax_w.2.2) (by rw [hR]; exact hq.1) (by rw [hR]; have h8 := tcats (B := B) hst; show _ + 13 ≤ 40 * d; omega) (by rw [hR]; exact hq.2.1) (by rw [hR]; exact hq.2.2) hd (kk H locs ls hR0 hL)
theorem gMin_w : Cond.static Lib.Math.min.name ∈ wsL_law ∧ Cond.initialized "java/lang/Math" ∈ wsL_law ∧ Cond.code Lib.Math.min.name Lib.Math.min.code 2 (some .int) ∈ wsL_law := ⟨List.mem_of_getElem? (i := 253) (by decide +kernel), List.mem_of_getElem? (i := 138) (by decide +kernel), List.mem_of_getElem? (i := 254) (by decide +kernel)⟩
theorem gMin (hO : tKO K B own cc nL) {idx w d MC MS : Nat} {x y : Int32} (hl : wsL_law[w]? = some (Cond.methodLink own idx Lib.Math.min.name)) (hR : kR K = tRm d MC MS) (hq : 1 ≤ d ∧ cl ≤ MC ∧ sl ≤ MS) {st : List tSV} (hst : st.length ≤ 4) (hLn : L.length = nL) (hd : decode cc pc = .ok (.invokestatic idx, 3)) (kk : tWG K B cl sl S I J (pc + 3) L (vI (if y < x then y else x) :: st)) : tWG K B cl sl S I J pc L (vI y :: vI x :: st) := fun H locs ls hR0 hL => va_mmin hO.1 hO.2.1 (by rw [hO.2.2.1, hL.1, hLn]) hO.2.2.2.1 (hO.2.2.2.2.1 _ (List.mem_of_getElem? hl)) (hO.2.2.2.2.1 _ gMin_w.1) (hO.2.2.2.2.1 _ gMin_w.2.1) (hO.2.2.2.2.1 _ gMin_w.2.2) (by rw [hR]; exact hq.1) (by rw [hR]; have h8 := tcats (B := B) hst; show _ + 13 ≤ 40 * d; omega) (by rw [hR]; exact hq.2.1) (by rw [hR]; exact hq.2.2) hd (kk H locs ls hR0 hL)
theorem gAbs_w : Cond.static Lib.Math.abs.name ∈ wsL_law ∧ Cond.initialized "java/lang/Math" ∈ wsL_law ∧ Cond.code Lib.Math.abs.name Lib.Math.abs.code 1 (some .int) ∈ wsL_law := ⟨List.mem_of_getElem? (i := 950) (by decide +kernel), List.mem_of_getElem? (i := 138) (by decide +kernel), List.mem_of_getElem? (i := 951) (by decide +kernel)⟩
theorem gAbs (hO : tKO K B own cc nL) {idx w d MC MS : Nat} {x : Int32} (hl : wsL_law[w]? = some (Cond.methodLink own idx Lib.Math.abs.name)) (hR : kR K = tRm d MC MS) (hq : 1 ≤ d ∧ cl ≤ MC ∧ sl ≤ MS) {st : List tSV} (hst : st.length ≤ 4) (hLn : L.length = nL) (hd : decode cc pc = .ok (.invokestatic idx, 3)) (kk : tWG K B cl sl S I J (pc + 3) L (vI (if 0 ≤ x then x else 0 - x) :: st)) : tWG K B cl sl S I J pc L (vI x :: st) := fun H locs ls hR0 hL => va_mabs hO.1 hO.2.1 (by rw [hO.2.2.1, hL.1, hLn]) hO.2.2.2.1 (hO.2.2.2.2.1 _ (List.mem_of_getElem? hl)) (hO.2.2.2.2.1 _ gAbs_w.1) (hO.2.2.2.2.1 _ gAbs_w.2.1) (hO.2.2.2.2.1 _ gAbs_w.2.2) (by rw [hR]; exact hq.1) (by rw [hR]; have h8 := tcats (B := B) hst; show _ + 12 ≤ 40 * d; omega) (by rw [hR]; exact hq.2.1) (by rw [hR]; exact hq.2.2) hd (kk H locs ls hR0 hL)
theorem gMaxL_w : Cond.static Lib.MathLoose.max_long.x ∈ wsL_law ∧ Cond.initialized "java/lang/Math" ∈ wsL_law ∧ Cond.code Lib.MathLoose.max_long.x Lib.MathLoose.max_long.code 4 (some .long) ∈ wsL_law := ⟨List.mem_of_getElem? (i := 469) (by decide +kernel), List.mem_of_getElem? (i := 138) (by decide +kernel), List.mem_of_getElem? (i := 470) (by decide +kernel)⟩
theorem gMaxL (hO : tKO K B own cc nL) {idx w d MC MS : Nat} {x y : Int64} (hl : wsL_law[w]? = some (Cond.methodLink own idx Lib.MathLoose.max_long.x)) (hR : kR K = tRm d MC MS) (hq : 1 ≤ d ∧ cl ≤ MC ∧ sl ≤ MS) {st : List tSV} (hst : st.length ≤ 4) (hLn : L.length = nL) (hd : decode cc pc = .ok (.invokestatic idx, 3)) (kk : tWG K B cl sl S I J (pc + 3) L (vL (if y < x then x else y) :: st)) : tWG K B cl sl S I J pc L (vL y :: vL x :: st) := fun H locs ls hR0 hL => va_mmax_long hO.1 hO.2.1 (by rw [hO.2.2.1, hL.1, hLn]) hO.2.2.2.1 (hO.2.2.2.2.1 _ (List.mem_of_getElem? hl)) (hO.2.2.2.2.1 _ gMaxL_w.1) (hO.2.2.2.2.1 _ gMaxL_w.2.1) (hO.2.2.2.2.1 _ gMaxL_w.2.2) (by rw [hR]; exact hq.1) (by rw [hR]; have h8 := tcats (B := B) hst; show _ + 15 ≤ 40 * d; omega) (by rw [hR]; exact hq.2.1) (by rw [hR]; exact hq.2.2) hd (kk H locs ls hR0 hL)
theorem gMinL_w : Cond.static Lib.MathLoose.min_long.x ∈ wsL_law ∧ Cond.initialized "java/lang/Math" ∈ wsL_law ∧ Cond.code Lib.MathLoose.min_long.x Lib.MathLoose.min_long.code 4 (some .long) ∈ wsL_law := ⟨List.mem_of_getElem? (i := 466) (by decide +kernel), List.mem_of_getElem? (i := 138) (by decide +kernel), List.mem_of_getElem? (i := 467) (by decide +kernel)⟩
theorem gMinL (hO : tKO K B own cc nL) {idx w d MC MS : Nat} {x y : Int64} (hl : wsL_law[w]? = some (Cond.methodLink own idx Lib.MathLoose.min_long.x)) (hR : kR K = tRm d MC MS) (hq : 1 ≤ d ∧ cl ≤ MC ∧ sl ≤ MS) {st : List tSV} (hst : st.length ≤ 4) (hLn : L.length = nL) (hd : decode cc pc = .ok (.invokestatic idx, 3)) (kk : tWG K B cl sl S I J (pc + 3) L (vL (if y < x then y else x) :: st)) : tWG K B cl sl S I J pc L (vL y :: vL x :: st) := fun H locs ls hR0 hL => va_mmin_long hO.1 hO.2.1 (by rw [hO.2.2.1, hL.1, hLn]) hO.2.2.2.1 (hO.2.2.2.2.1 _ (List.mem_of_getElem? hl)) (hO.2.2.2.2.1 _ gMinL_w.1) (hO.2.2.2.2.1 _ gMinL_w.2.1) (hO.2.2.2.2.1 _ gMinL_w.2.2) (by rw [hR]; exact hq.1) (by rw [hR]; have h8 := tcats (B := B) hst; show _ + 15 ≤ 40 * d; omega) (by rw [hR]; exact hq.2.1) (by rw [hR]; exact hq.2.2) hd (kk H locs ls hR0 hL)
end RH
