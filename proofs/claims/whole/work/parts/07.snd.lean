section RY
variable {K : tK} {B : tB} {own : String} {cc : ByteArray} {nL cl sl : Nat} {S : tSH} {I : tHI} {J : tHJ} {pc : Nat} {L : List (Option tSV)} {st : List tSV} {k : tX → Prop}
theorem xI_s {x : tX} {v : Option (Option tSV)} (h : xI x v k) : ∃ w, v = some (some (vI w)) ∧ k (x.1, vI w :: x.2.1, x.2.2) := by
  unfold xI at h
  split at h
  · exact ⟨_, rfl, h⟩
  · exact h.elim
theorem xL_s {x : tX} {v : Option (Option tSV)} (h : xL x v k) : ∃ w, v = some (some (vL w)) ∧ k (x.1, vL w :: x.2.1, x.2.2) := by
  unfold xL at h
  split at h
  · exact ⟨_, rfl, h⟩
  · exact h.elim
theorem xA_s {x : tX} {v : Option (Option tSV)} (h : xA x v k) : (∃ a, v = some (some (vR a)) ∧ k (x.1, vR a :: x.2.1, x.2.2)) ∨ ∃ a, v = some (some (vA a)) ∧ k (x.1, vA a :: x.2.1, x.2.2) := by
  unfold xA at h
  split at h
  · exact Or.inl ⟨_, rfl, h⟩
  · exact Or.inr ⟨_, rfl, h⟩
  · exact h.elim
theorem xSI_s {i : Nat} (h : xSI (L, st, I, J) i k) : ∃ w r, st = vI w :: r ∧ i < L.length ∧ k (tst1 L i (vI w), r, I, J) := by
  unfold xSI at h
  dsimp only at h
  split at h
  · exact ⟨_, _, rfl, h.1, h.2⟩
  · exact h.elim
theorem xSL_s {i : Nat} (h : xSL (L, st, I, J) i k) : ∃ w r, st = vL w :: r ∧ i + 1 < L.length ∧ k (tst2 L i (vL w), r, I, J) := by
  unfold xSL at h
  dsimp only at h
  split at h
  · exact ⟨_, _, rfl, h.1, h.2⟩
  · exact h.elim
theorem xSA_s {i : Nat} (h : xSA (L, st, I, J) i k) : ∃ a r, st = vR a :: r ∧ i < L.length ∧ k (tst1 L i (vR a), r, I, J) := by
  unfold xSA at h
  dsimp only at h
  split at h
  · exact ⟨_, _, rfl, h.1, h.2⟩
  · exact h.elim
theorem x2_s {f : Int32 → Int32 → Int32} (h : x2 (L, st, I, J) f k) : ∃ y z r, st = vI y :: vI z :: r ∧ k (L, vI (f z y) :: r, I, J) := by
  unfold x2 at h
  dsimp only at h
  split at h
  · exact ⟨_, _, _, rfl, h⟩
  · exact h.elim
theorem x2n_s {f : Int32 → Int32 → Int32} (h : x2n (L, st, I, J) f k) : ∃ y z r, st = vI y :: vI z :: r ∧ ¬ y = 0 ∧ k (L, vI (f z y) :: r, I, J) := by
  unfold x2n at h
  dsimp only at h
  split at h
  · exact ⟨_, _, _, rfl, h.1, h.2⟩
  · exact h.elim
theorem xl2_s {f : Int64 → Int64 → Int64} (h : xl2 (L, st, I, J) f k) : ∃ y z r, st = vL y :: vL z :: r ∧ k (L, vL (f z y) :: r, I, J) := by
  unfold xl2 at h
  dsimp only at h
  split at h
  · exact ⟨_, _, _, rfl, h⟩
  · exact h.elim
theorem xl2n_s {f : Int64 → Int64 → Int64} (h : xl2n (L, st, I, J) f k) : ∃ y z r, st = vL y :: vL z :: r ∧ ¬ y = 0 ∧ k (L, vL (f z y) :: r, I, J) := by
  unfold xl2n at h
  dsimp only at h
  split at h
  · exact ⟨_, _, _, rfl, h.1, h.2⟩
  · exact h.elim
theorem xGet_s {t n : Nat} (h : xGet S (L, st, I, J) t n k) : ∃ a r v, st = vR a :: r ∧ ty S a t ∧ tvv B.2 v = tfv B.2 S I J a n ∧ k (L, v :: r, I, J) := by
  unfold xGet at h
  dsimp only at h
  split at h
  · rename_i a r
    obtain ⟨ht, h⟩ := h
    have e : ∀ (v : tSV), tvv B.2 v = tfv B.2 S I J a n → k (L, v :: r, I, J) → ∃ a' r' v', (Sum.inr (Sum.inr (Sum.inl (some a))) :: r : List tSV) = vR a' :: r' ∧ ty S a' t ∧ tvv B.2 v' = tfv B.2 S I J a' n ∧ k (L, v' :: r', I, J) := fun v h1 h2 => ⟨a, r, v, rfl, ht, h1, h2⟩
    split at h
    · rename_i q
      exact e _ (by rw [tfv_i (by rw [ht.2]; omega)]; rfl) h
    · rename_i q
      exact e _ (by rw [tfv_i (by rw [ht.2]; omega)]; rfl) h
    · rename_i q
      exact e _ (by rw [tfv_l (by rw [ht.2]; exact q)]; rfl) h
    · rename_i q
      exact e _ (by rw [tfv_q (by rw [ht.2]; exact q)]; rfl) h
    · rename_i q
      exact e _ (by rw [tfv_f (by rw [ht.2]; exact q), ht.2]; rfl) h
    · rename_i q
      exact e _ (by rw [tfv_c (by rw [ht.2]; exact q), ht.2]; rfl) h
    · exact h.elim
  · exact h.elim
theorem tfw_s {o : tOp} {x : Nat} (h : tfw own o x = true) : wsL_law[o.2.1.2.2]? = some (Cond.fieldLink own x ((tCl (o.2.1.1 % 20)).2.1 o.2.1.2.1).1 ((tCl (o.2.1.1 % 20)).2.1 o.2.1.2.1).2.1 ((tCl (o.2.1.1 % 20)).2.1 o.2.1.2.1).2.2.1) ∧ o.2.1.2.1 < (tkl o.2.1.1).length := by
  unfold tfw at h
  rw [Bool.and_eq_true, decide_eq_true_eq, decide_eq_true_eq] at h
  exact h
theorem xPut_ok (hO : tKO K B own cc nL) {o : tOp} {x : Nat} (h1 : decode cc pc = .ok (.putfield x, 3)) (h2 : twk own (.putfield x, o.2) pc = true) (h : xPut S (L, st, I, J) o.2.1.1 o.2.1.2.1 k) (kk : ∀ y, k y → tWG K B cl sl S y.2.2.1 y.2.2.2 (pc + 3) y.1 y.2.1) : tWG K B cl sl S I J pc L st := by
  have h2 : (tfw own (.putfield x, o.2) x && match (tkd o.2.1.1 o.2.1.2.1).1 with
    | 0 => decide (((tCl (o.2.1.1 % 20)).2.1 o.2.1.2.1).2.2 = ("I", false))
    | 5 => decide (((tCl (o.2.1.1 % 20)).2.1 o.2.1.2.1).2.2 = ("Z", false))
    | 1 => decide (((tCl (o.2.1.1 % 20)).2.1 o.2.1.2.1).2.2 = ("J", false))
    | _ => false) = true := h2
  rw [Bool.and_eq_true] at h2
  obtain ⟨hw, hk⟩ := tfw_s h2.1
  have h3 := h2.2
  unfold xPut at h
  dsimp only at h
  split at h
  · rename_i q
    rw [q] at h3
    exact s_puti hO h.1 hk q hw (of_decide_eq_true h3) h1 (kk _ h.2)
  · rename_i q
    rw [q] at h3
    exact s_putz hO h.1 hk q hw (of_decide_eq_true h3) h.2.1 h1 (kk _ h.2.2)
  · rename_i q
    rw [q] at h3
    exact s_putl hO h.1 hk q hw (of_decide_eq_true h3) h1 (kk _ h.2)
  · exact h.elim
set_option maxHeartbeats 4000000 in
theorem tex1_ok (hO : tKO K B own cc nL) {o : tOp} {x : tX} (h1 : decode cc pc = .ok (o.1, tlen o.1)) (h2 : twk own o pc = true) (h : tex1 S o x k) (kk : ∀ y, k y → tWG K B cl sl S y.2.2.1 y.2.2.2 (tnx o.1 pc) y.1 y.2.1) : tWG K B cl sl S x.2.2.1 x.2.2.2 pc x.1 x.2.1 := by
  obtain ⟨ins, ⟨t, n, w⟩, v, lv⟩ := o
  obtain ⟨L, st, I, J⟩ := x
  cases ins with
  | iload i => obtain ⟨u, e, hk⟩ := xI_s (x := (L, st, I, J)) h; exact s_iload hO e h1 (kk _ hk)
  | iload_n i => obtain ⟨u, e, hk⟩ := xI_s (x := (L, st, I, J)) h; exact s_iload_n hO e h1 (kk _ hk)
  | lload i => obtain ⟨u, e, hk⟩ := xL_s (x := (L, st, I, J)) h; exact s_lload hO e h1 (kk _ hk)
  | lload_n i => obtain ⟨u, e, hk⟩ := xL_s (x := (L, st, I, J)) h; exact s_lload_n hO e h1 (kk _ hk)
  | aload i =>
    rcases xA_s (x := (L, st, I, J)) h with ⟨u, e, hk⟩ | ⟨u, e, hk⟩
    · exact s_aload hO e h1 (kk _ hk)
    · exact s_aloadA hO e h1 (kk _ hk)
  | aload_n i =>
    rcases xA_s (x := (L, st, I, J)) h with ⟨u, e, hk⟩ | ⟨u, e, hk⟩
    · exact s_aload_n hO e h1 (kk _ hk)
    · exact s_aload_nA hO e h1 (kk _ hk)
  | istore i => obtain ⟨u, r, rfl, hn, hk⟩ := xSI_s h; exact s_istore hO hn h1 (kk _ hk)
  | istore_n i => obtain ⟨u, r, rfl, hn, hk⟩ := xSI_s h; exact s_istore_n hO hn h1 (kk _ hk)
  | lstore i => obtain ⟨u, r, rfl, hn, hk⟩ := xSL_s h; exact s_lstore hO hn h1 (kk _ hk)
  | lstore_n i => obtain ⟨u, r, rfl, hn, hk⟩ := xSL_s h; exact s_lstore_n hO hn h1 (kk _ hk)
  | astore i => obtain ⟨u, r, rfl, hn, hk⟩ := xSA_s h; exact s_astore hO hn h1 (kk _ hk)
  | astore_n i => obtain ⟨u, r, rfl, hn, hk⟩ := xSA_s h; exact s_astore_n hO hn h1 (kk _ hk)
  | iinc i c =>
    simp only [tex1] at h
    unfold xinc at h
    dsimp only at h
    split at h
    · rename_i u e
      exact s_iinc hO e (of_decide_eq_true h2) h1 (kk _ h)
    · exact h.elim
  | iconst c => exact s_iconst hO (of_decide_eq_true h2) h1 (kk _ h)
  | bipush c => exact s_bipush hO (of_decide_eq_true h2) h1 (kk _ h)
  | sipush c => exact s_sipush hO (of_decide_eq_true h2) h1 (kk _ h)
  | ldc c => exact s_ldc hO (of_decide_eq_true h2) h1 (kk _ h)
  | ldc_w c => exact s_ldcw hO (of_decide_eq_true h2) h1 (kk _ h)
  | lconst c => exact s_lconst hO (of_decide_eq_true h2) h1 (kk _ h)
  | ldc2_w c => exact s_ldc2 hO (of_decide_eq_true h2) h1 (kk _ h)
  | aconst_null => exact s_null hO h1 (kk _ h)
  | iadd => obtain ⟨y, z, r, rfl, hk⟩ := x2_s h; exact s_iadd hO h1 (kk _ hk)
  | isub => obtain ⟨y, z, r, rfl, hk⟩ := x2_s h; exact s_isub hO h1 (kk _ hk)
  | imul => obtain ⟨y, z, r, rfl, hk⟩ := x2_s h; exact s_imul hO h1 (kk _ hk)
  | idiv => obtain ⟨y, z, r, rfl, hne, hk⟩ := x2n_s h; exact s_idiv hO hne h1 (kk _ hk)
  | irem => obtain ⟨y, z, r, rfl, hne, hk⟩ := x2n_s h; exact s_irem hO hne h1 (kk _ hk)
  | ishl => obtain ⟨y, z, r, rfl, hk⟩ := x2_s h; exact s_ishl hO h1 (kk _ hk)
  | ishr => obtain ⟨y, z, r, rfl, hk⟩ := x2_s h; exact s_ishr hO h1 (kk _ hk)
  | iushr => obtain ⟨y, z, r, rfl, hk⟩ := x2_s h; exact s_iushr hO h1 (kk _ hk)
  | iand => obtain ⟨y, z, r, rfl, hk⟩ := x2_s h; exact s_iand hO h1 (kk _ hk)
  | ladd => obtain ⟨y, z, r, rfl, hk⟩ := xl2_s h; exact s_ladd hO h1 (kk _ hk)
  | lsub => obtain ⟨y, z, r, rfl, hk⟩ := xl2_s h; exact s_lsub hO h1 (kk _ hk)
  | lmul => obtain ⟨y, z, r, rfl, hk⟩ := xl2_s h; exact s_lmul hO h1 (kk _ hk)
  | ldiv => obtain ⟨y, z, r, rfl, hne, hk⟩ := xl2n_s h; exact s_ldiv hO hne h1 (kk _ hk)
  | lrem => obtain ⟨y, z, r, rfl, hne, hk⟩ := xl2n_s h; exact s_lrem hO hne h1 (kk _ hk)
  | ineg =>
    simp only [tex1] at h
    unfold xneg at h
    dsimp only at h
    split at h
    · exact s_ineg hO h1 (kk _ h)
    · exact h.elim
  | i2l =>
    simp only [tex1] at h
    unfold xi2l at h
    dsimp only at h
    split at h
    · exact s_i2l hO h1 (kk _ h)
    · exact h.elim
  | l2i =>
    simp only [tex1] at h
    unfold xl2i at h
    dsimp only at h
    split at h
    · exact s_l2i hO h1 (kk _ h)
    · exact h.elim
  | lcmp =>
    simp only [tex1] at h
    unfold xcmp at h
    dsimp only at h
    split at h
    · exact s_lcmp hO h1 (kk _ h)
    · exact h.elim
  | dup =>
    simp only [tex1] at h
    unfold xdup at h
    dsimp only at h
    split at h
    · exact s_dup hO (fun ⟨x, q⟩ => by cases q) h1 (kk _ h)
    · exact s_dup hO (fun ⟨x, q⟩ => by cases q) h1 (kk _ h)
    · exact h.elim
  | dup2 =>
    simp only [tex1] at h
    unfold xdup2 at h
    dsimp only at h
    split at h
    · exact s_dup2 hO (fun ⟨x, q⟩ => by cases q) (fun ⟨x, q⟩ => by cases q) h1 (kk _ h)
    · exact h.elim
  | pop =>
    simp only [tex1] at h
    unfold xpop at h
    dsimp only at h
    split at h
    · exact s_pop hO (fun ⟨x, q⟩ => by cases q) h1 (kk _ h)
    · exact h.elim
  | goto off => exact s_goto hO (of_decide_eq_true h2) h1 (kk _ h)
  | getfield x =>
    obtain ⟨hw, hk⟩ := tfw_s (o := (Instr.getfield x, (t, n, w), v, lv)) h2
    obtain ⟨a, r, u, rfl, ht, hv, hkk⟩ := xGet_s (B := B) h
    exact s_getf hO ht hk hw h1 hv (kk _ hkk)
  | putfield x => exact xPut_ok (o := (Instr.putfield x, (t, n, w), v, lv)) hO h1 h2 h kk
  | iaload =>
    simp only [tex1] at h
    unfold xiald at h
    dsimp only at h
    split at h
    · exact s_iald hO h.1 h.2.1 h1 (kk _ h.2.2)
    · exact h.elim
  | baload =>
    simp only [tex1] at h
    unfold xzald at h
    dsimp only at h
    split at h
    · exact s_zald hO h.1 h.2.1 h1 (kk _ h.2.2)
    · exact h.elim
  | laload =>
    simp only [tex1] at h
    unfold xlald at h
    dsimp only at h
    split at h
    · exact s_lald hO h.1 h.2.1 h1 (kk _ h.2.2)
    · exact h.elim
  | aaload =>
    simp only [tex1] at h
    unfold xaald at h
    dsimp only at h
    split at h
    · exact s_aald43 hO h.1 h.2.1 h1 (kk _ h.2.2)
    · exact s_aald44 hO h.1 h.2.1 h1 (kk _ h.2.2)
    · exact h.elim
  | iastore =>
    simp only [tex1] at h
    unfold xiast at h
    dsimp only at h
    split at h
    · exact s_iast hO h.1 h.2.1 h1 (kk _ h.2.2)
    · exact h.elim
  | bastore =>
    simp only [tex1] at h
    unfold xzast at h
    dsimp only at h
    split at h
    · exact s_zast hO h.1 h.2.1 h.2.2.1 h1 (kk _ h.2.2.2)
    · exact h.elim
  | lastore =>
    simp only [tex1] at h
    unfold xlast at h
    dsimp only at h
    split at h
    · exact s_last hO h.1 h.2.1 h1 (kk _ h.2.2)
    · exact h.elim
  | arraylength =>
    simp only [tex1] at h
    unfold xalen at h
    dsimp only at h
    split at h
    · exact s_alen42 hO h.1 h1 (kk _ h.2)
    · exact s_alen hO h.1 h1 (kk _ h.2)
    · exact h.elim
  | _ => exact h.elim
theorem gB (hO : tKO K B own cc nL) {pe : Nat} : ∀ (ops : List tOp) {pc : Nat} {x : tX}, tok own cc ops pc pe = true → texs S ops x (fun y => tWG K B cl sl S y.2.2.1 y.2.2.2 pe y.1 y.2.1) → tWG K B cl sl S x.2.2.1 x.2.2.2 pc x.1 x.2.1 := by
  intro ops
  induction ops with
  | nil =>
    intro pc x h1 h2
    have e : pc = pe := of_decide_eq_true h1
    subst e
    exact h2
  | cons o r ih =>
    intro pc x h1 h2
    have h1 : (decide (decode cc pc = .ok (o.1, tlen o.1)) && twk own o pc && tok own cc r (tnx o.1 pc) pe) = true := h1
    rw [Bool.and_eq_true, Bool.and_eq_true, decide_eq_true_eq] at h1
    exact tex1_ok hO h1.1.1 h1.1.2 h2 (fun y hy => ih h1.2 hy)
end RY
