section RY
variable {K : tK} {B : tB} {own : String} {cc : ByteArray} {nL cl sl : Nat} {S : tSH} {I : tHI} {J : tHJ} {pc : Nat} {L : List (Option tSV)} {st : List tSV} {k : tKt}
-- null in locals
theorem s_astoreN (hO : tKO K B own cc nL) {i : Nat} (hn : i < L.length) (hd : decode cc pc = .ok (.astore i, 2)) (kk : tWG K B cl sl S I J (pc + 2) (tst1 L i vN) st) : tWG K B cl sl S I J pc L (vN :: st) := by
  intro H locs ls hR hL
  obtain ⟨ls', e', h'⟩ := lv_store1 (v := .null) hL hn rfl
  show tW K cl sl H locs (F0 (km K) pc ls (.null :: st.map (tvv B.2)))
  intro T hT X
  obtain ⟨t, a, b⟩ := kk H locs ls' hR (tLH_st1 (v := vN) h') T hT X
  refine ⟨t, ?_, b⟩
  jvm_step X.here [X.here.top, ↓top_set X.here.top, hO.1, hO.2.1, hd, e', Value.isRef]
  exact a
theorem s_astore_nN (hO : tKO K B own cc nL) {i : Fin 4} (hn : (i : Nat) < L.length) (hd : decode cc pc = .ok (.astore_n i, 1)) (kk : tWG K B cl sl S I J (pc + 1) (tst1 L i vN) st) : tWG K B cl sl S I J pc L (vN :: st) := by
  intro H locs ls hR hL
  obtain ⟨ls', e', h'⟩ := lv_store1 (v := .null) hL hn rfl
  show tW K cl sl H locs (F0 (km K) pc ls (.null :: st.map (tvv B.2)))
  intro T hT X
  obtain ⟨t, a, b⟩ := kk H locs ls' hR (tLH_st1 (v := vN) h') T hT X
  refine ⟨t, ?_, b⟩
  jvm_step X.here [X.here.top, ↓top_set X.here.top, hO.1, hO.2.1, hd, e', Value.isRef]
  exact a
theorem s_aloadN (hO : tKO K B own cc nL) {i : Nat} (hv : L[i]? = some (some vN)) (hd : decode cc pc = .ok (.aload i, 2)) (k : tWG K B cl sl S I J (pc + 2) L (vN :: st)) : tWG K B cl sl S I J pc L st := by
  intro H locs ls hR hL
  have hl := hL.at hv
  have hl : ls[i]? = some (.val .null) := hl
  intro T hT X
  obtain ⟨t, a, b⟩ := k H locs ls hR hL T hT X
  refine ⟨t, ?_, b⟩
  jvm_step X.here [X.here.top, hO.1, hO.2.1, hd, hl, Value.isRef]
  exact a
theorem s_aload_nN (hO : tKO K B own cc nL) {i : Fin 4} (hv : L[(i : Nat)]? = some (some vN)) (hd : decode cc pc = .ok (.aload_n i, 1)) (k : tWG K B cl sl S I J (pc + 1) L (vN :: st)) : tWG K B cl sl S I J pc L st := by
  intro H locs ls hR hL
  have hl := hL.at hv
  have hl : ls[(i : Nat)]? = some (.val .null) := hl
  intro T hT X
  obtain ⟨t, a, b⟩ := k H locs ls hR hL T hT X
  refine ⟨t, ?_, b⟩
  jvm_step X.here [X.here.top, hO.1, hO.2.1, hd, hl, Value.isRef]
  exact a
theorem xI_s {v : Option (Option tSV)} (h : xI L st I J v k) : ∃ w, v = some (some (vI w)) ∧ k L (vI w :: st) I J := by
  unfold xI at h
  split at h
  · exact ⟨_, rfl, h⟩
  · exact h.elim
theorem xL_s {v : Option (Option tSV)} (h : xL L st I J v k) : ∃ w, v = some (some (vL w)) ∧ k L (vL w :: st) I J := by
  unfold xL at h
  split at h
  · exact ⟨_, rfl, h⟩
  · exact h.elim
theorem xA_s {v : Option (Option tSV)} (h : xA L st I J v k) : (∃ a, v = some (some (vR a)) ∧ k L (vR a :: st) I J) ∨ (v = some (some vN) ∧ k L (vN :: st) I J) ∨ ∃ a, v = some (some (vA a)) ∧ k L (vA a :: st) I J := by
  unfold xA at h
  split at h
  · exact Or.inl ⟨_, rfl, h⟩
  · exact Or.inr (Or.inl ⟨rfl, h⟩)
  · exact Or.inr (Or.inr ⟨_, rfl, h⟩)
  · exact h.elim
theorem xSI_s {i : Nat} (h : xSI L st I J i k) : ∃ w r, st = vI w :: r ∧ i < L.length ∧ k (tst1 L i (vI w)) r I J := by
  unfold xSI at h
  split at h
  · exact ⟨_, _, rfl, h.1, h.2⟩
  · exact h.elim
theorem xSL_s {i : Nat} (h : xSL L st I J i k) : ∃ w r, st = vL w :: r ∧ i + 1 < L.length ∧ k (tst2 L i (vL w)) r I J := by
  unfold xSL at h
  split at h
  · exact ⟨_, _, rfl, h.1, h.2⟩
  · exact h.elim
theorem xSA_s {i : Nat} (h : xSA L st I J i k) : (∃ a r, st = vR a :: r ∧ i < L.length ∧ k (tst1 L i (vR a)) r I J) ∨ ∃ r, st = vN :: r ∧ i < L.length ∧ k (tst1 L i vN) r I J := by
  unfold xSA at h
  split at h
  · exact Or.inl ⟨_, _, rfl, h.1, h.2⟩
  · exact Or.inr ⟨_, rfl, h.1, h.2⟩
  · exact h.elim
theorem x2_s {f : Int32 → Int32 → Int32} (h : x2 L st I J f k) : ∃ y z r, st = vI y :: vI z :: r ∧ k L (vI (f z y) :: r) I J := by
  unfold x2 at h
  split at h
  · exact ⟨_, _, _, rfl, h⟩
  · exact h.elim
theorem x2n_s {f : Int32 → Int32 → Int32} (h : x2n L st I J f k) : ∃ y z r, st = vI y :: vI z :: r ∧ ¬ y = 0 ∧ k L (vI (f z y) :: r) I J := by
  unfold x2n at h
  split at h
  · exact ⟨_, _, _, rfl, h.1, h.2⟩
  · exact h.elim
theorem xl2_s {f : Int64 → Int64 → Int64} (h : xl2 L st I J f k) : ∃ y z r, st = vL y :: vL z :: r ∧ k L (vL (f z y) :: r) I J := by
  unfold xl2 at h
  split at h
  · exact ⟨_, _, _, rfl, h⟩
  · exact h.elim
theorem xl2n_s {f : Int64 → Int64 → Int64} (h : xl2n L st I J f k) : ∃ y z r, st = vL y :: vL z :: r ∧ ¬ y = 0 ∧ k L (vL (f z y) :: r) I J := by
  unfold xl2n at h
  split at h
  · exact ⟨_, _, _, rfl, h.1, h.2⟩
  · exact h.elim
theorem xGet_s {t n q : Nat} (h : xGet S L st I J t n q k) : ∃ a r v, st = vR a :: r ∧ ty S a t ∧ tvv B.2 v = tfv B.2 S I J a n ∧ k L (v :: r) I J := by
  unfold xGet at h
  split at h
  · rename_i a r
    obtain ⟨ht, h⟩ := h
    have e : ∀ (v : tSV), tvv B.2 v = tfv B.2 S I J a n → k L (v :: r) I J → ∃ a' r' v', (Sum.inr (Sum.inr (Sum.inl (some a))) :: r : List tSV) = vR a' :: r' ∧ ty S a' t ∧ tvv B.2 v' = tfv B.2 S I J a' n ∧ k L (v' :: r') I J := fun v h1 h2 => ⟨a, r, v, rfl, ht, h1, h2⟩
    split at h
    · rename_i q
      exact e _ (by rw [tfv_i (by rw [ht.2]; omega)]; rfl) h
    · rename_i q
      exact e _ (by rw [tfv_i (by rw [ht.2]; omega)]; rfl) h
    · rename_i q
      exact e _ (by rw [tfv_l (by rw [ht.2]; exact q)]; rfl) h
    · rename_i q
      exact e _ (by rw [tfv_q (by rw [ht.2]; exact q)]; rfl) h
    · rename_i q3
      split at h
      · exact e _ (by rw [tfv_f (by rw [ht.2]; exact q3), ht.2]; rfl) h
      · obtain ⟨q4, h⟩ := h
        exact e _ (by rw [tfv_f (by rw [ht.2]; exact q3), ht.2, ← q4]; rfl) h
    · rename_i q
      obtain ⟨rfl, h⟩ := h
      exact e _ (by rw [tfv_c (by rw [ht.2]; exact q), ht.2]; rfl) h
    · exact h.elim
  · exact h.elim
theorem tfw_s {o : tOp} {x : Nat} (h : tfw own o x = true) : wsL_law[o.2.1.2.2.1]? = some (Cond.fieldLink own x ((tCl (o.2.1.1 % 20)).2.1 o.2.1.2.1).1 ((tCl (o.2.1.1 % 20)).2.1 o.2.1.2.1).2.1 ((tCl (o.2.1.1 % 20)).2.1 o.2.1.2.1).2.2.1) ∧ o.2.1.2.1 < (tkl o.2.1.1).length := by
  unfold tfw at h
  rw [Bool.and_eq_true, decide_eq_true_eq, decide_eq_true_eq] at h
  exact h
theorem xPut_ok (hO : tKO K B own cc nL) {o : tOp} {x : Nat} (h1 : decode cc pc = .ok (.putfield x, 3)) (h2 : twk own (.putfield x, o.2) pc = true) (h : xPut S L st I J o.2.1.1 o.2.1.2.1 k) (kk : ∀ L2 st2 I2 J2, k L2 st2 I2 J2 → tWG K B cl sl S I2 J2 (pc + 3) L2 st2) : tWG K B cl sl S I J pc L st := by
  have h2 : (tfw own (.putfield x, o.2) x && match (tkd o.2.1.1 o.2.1.2.1).1 with
    | 0 => decide (((tCl (o.2.1.1 % 20)).2.1 o.2.1.2.1).2.2 = ("I", false))
    | 5 => decide (((tCl (o.2.1.1 % 20)).2.1 o.2.1.2.1).2.2 = ("Z", false))
    | 1 => decide (((tCl (o.2.1.1 % 20)).2.1 o.2.1.2.1).2.2 = ("J", false))
    | _ => false) = true := h2
  rw [Bool.and_eq_true] at h2
  obtain ⟨hw, hk⟩ := tfw_s h2.1
  have h3 := h2.2
  unfold xPut at h
  split at h
  · rename_i q
    rw [q] at h3
    exact s_puti hO h.1 hk q hw (of_decide_eq_true h3) h1 (kk _ _ _ _ h.2)
  · rename_i q
    rw [q] at h3
    exact s_putz hO h.1 hk q hw (of_decide_eq_true h3) h.2.1 h1 (kk _ _ _ _ h.2.2)
  · rename_i q
    rw [q] at h3
    exact s_putl hO h.1 hk q hw (of_decide_eq_true h3) h1 (kk _ _ _ _ h.2)
  · exact h.elim
set_option maxHeartbeats 4000000 in
theorem tex1_ok (hO : tKO K B own cc nL) {o : tOp} (h1 : decode cc pc = .ok (o.1, tlen o.1)) (h2 : twk own o pc = true) (h : tex1 S o L st I J k) (kk : ∀ L2 st2 I2 J2, k L2 st2 I2 J2 → tWG K B cl sl S I2 J2 (tnx o.1 pc) L2 st2) : tWG K B cl sl S I J pc L st := by
  obtain ⟨ins, ⟨t, n, w, q⟩, v, lv⟩ := o
  cases ins with
  | iload i => obtain ⟨u, e, hk⟩ := xI_s h; exact s_iload hO e h1 (kk _ _ _ _ hk)
  | iload_n i => obtain ⟨u, e, hk⟩ := xI_s h; exact s_iload_n hO e h1 (kk _ _ _ _ hk)
  | lload i => obtain ⟨u, e, hk⟩ := xL_s h; exact s_lload hO e h1 (kk _ _ _ _ hk)
  | lload_n i => obtain ⟨u, e, hk⟩ := xL_s h; exact s_lload_n hO e h1 (kk _ _ _ _ hk)
  | aload i =>
    rcases xA_s h with ⟨u, e, hk⟩ | ⟨e, hk⟩ | ⟨u, e, hk⟩
    · exact s_aload hO e h1 (kk _ _ _ _ hk)
    · exact s_aloadN hO e h1 (kk _ _ _ _ hk)
    · exact s_aloadA hO e h1 (kk _ _ _ _ hk)
  | aload_n i =>
    rcases xA_s h with ⟨u, e, hk⟩ | ⟨e, hk⟩ | ⟨u, e, hk⟩
    · exact s_aload_n hO e h1 (kk _ _ _ _ hk)
    · exact s_aload_nN hO e h1 (kk _ _ _ _ hk)
    · exact s_aload_nA hO e h1 (kk _ _ _ _ hk)
  | istore i => obtain ⟨u, r, rfl, hn, hk⟩ := xSI_s h; exact s_istore hO hn h1 (kk _ _ _ _ hk)
  | istore_n i => obtain ⟨u, r, rfl, hn, hk⟩ := xSI_s h; exact s_istore_n hO hn h1 (kk _ _ _ _ hk)
  | lstore i => obtain ⟨u, r, rfl, hn, hk⟩ := xSL_s h; exact s_lstore hO hn h1 (kk _ _ _ _ hk)
  | lstore_n i => obtain ⟨u, r, rfl, hn, hk⟩ := xSL_s h; exact s_lstore_n hO hn h1 (kk _ _ _ _ hk)
  | astore i =>
    rcases xSA_s h with ⟨u, r, rfl, hn, hk⟩ | ⟨r, rfl, hn, hk⟩
    · exact s_astore hO hn h1 (kk _ _ _ _ hk)
    · exact s_astoreN hO hn h1 (kk _ _ _ _ hk)
  | astore_n i =>
    rcases xSA_s h with ⟨u, r, rfl, hn, hk⟩ | ⟨r, rfl, hn, hk⟩
    · exact s_astore_n hO hn h1 (kk _ _ _ _ hk)
    · exact s_astore_nN hO hn h1 (kk _ _ _ _ hk)
  | iinc i c =>
    simp only [tex1] at h
    unfold xinc at h
    split at h
    · rename_i u e
      exact s_iinc hO e (of_decide_eq_true h2) h1 (kk _ _ _ _ h)
    · exact h.elim
  | iconst c => exact s_iconst hO (of_decide_eq_true h2) h1 (kk _ _ _ _ h)
  | bipush c => exact s_bipush hO (of_decide_eq_true h2) h1 (kk _ _ _ _ h)
  | sipush c => exact s_sipush hO (of_decide_eq_true h2) h1 (kk _ _ _ _ h)
  | ldc c => exact s_ldc hO (of_decide_eq_true h2) h1 (kk _ _ _ _ h)
  | ldc_w c => exact s_ldcw hO (of_decide_eq_true h2) h1 (kk _ _ _ _ h)
  | lconst c => exact s_lconst hO (of_decide_eq_true h2) h1 (kk _ _ _ _ h)
  | ldc2_w c => exact s_ldc2 hO (of_decide_eq_true h2) h1 (kk _ _ _ _ h)
  | aconst_null => exact s_null hO h1 (kk _ _ _ _ h)
  | iadd => obtain ⟨y, z, r, rfl, hk⟩ := x2_s h; exact s_iadd hO h1 (kk _ _ _ _ hk)
  | isub => obtain ⟨y, z, r, rfl, hk⟩ := x2_s h; exact s_isub hO h1 (kk _ _ _ _ hk)
  | imul => obtain ⟨y, z, r, rfl, hk⟩ := x2_s h; exact s_imul hO h1 (kk _ _ _ _ hk)
  | idiv => obtain ⟨y, z, r, rfl, hne, hk⟩ := x2n_s h; exact s_idiv hO hne h1 (kk _ _ _ _ hk)
  | irem => obtain ⟨y, z, r, rfl, hne, hk⟩ := x2n_s h; exact s_irem hO hne h1 (kk _ _ _ _ hk)
  | ishl => obtain ⟨y, z, r, rfl, hk⟩ := x2_s h; exact s_ishl hO h1 (kk _ _ _ _ hk)
  | ishr => obtain ⟨y, z, r, rfl, hk⟩ := x2_s h; exact s_ishr hO h1 (kk _ _ _ _ hk)
  | iushr => obtain ⟨y, z, r, rfl, hk⟩ := x2_s h; exact s_iushr hO h1 (kk _ _ _ _ hk)
  | iand => obtain ⟨y, z, r, rfl, hk⟩ := x2_s h; exact s_iand hO h1 (kk _ _ _ _ hk)
  | ladd => obtain ⟨y, z, r, rfl, hk⟩ := xl2_s h; exact s_ladd hO h1 (kk _ _ _ _ hk)
  | lsub => obtain ⟨y, z, r, rfl, hk⟩ := xl2_s h; exact s_lsub hO h1 (kk _ _ _ _ hk)
  | lmul => obtain ⟨y, z, r, rfl, hk⟩ := xl2_s h; exact s_lmul hO h1 (kk _ _ _ _ hk)
  | ldiv => obtain ⟨y, z, r, rfl, hne, hk⟩ := xl2n_s h; exact s_ldiv hO hne h1 (kk _ _ _ _ hk)
  | lrem => obtain ⟨y, z, r, rfl, hne, hk⟩ := xl2n_s h; exact s_lrem hO hne h1 (kk _ _ _ _ hk)
  | ineg =>
    simp only [tex1] at h
    unfold xneg at h
    split at h
    · exact s_ineg hO h1 (kk _ _ _ _ h)
    · exact h.elim
  | i2l =>
    simp only [tex1] at h
    unfold xi2l at h
    split at h
    · exact s_i2l hO h1 (kk _ _ _ _ h)
    · exact h.elim
  | l2i =>
    simp only [tex1] at h
    unfold xl2i at h
    split at h
    · exact s_l2i hO h1 (kk _ _ _ _ h)
    · exact h.elim
  | lcmp =>
    simp only [tex1] at h
    unfold xcmp at h
    split at h
    · exact s_lcmp hO h1 (kk _ _ _ _ h)
    · exact h.elim
  | dup =>
    simp only [tex1] at h
    unfold xdup at h
    split at h
    · exact s_dup hO (fun ⟨x, q⟩ => by cases q) h1 (kk _ _ _ _ h)
    · exact s_dup hO (fun ⟨x, q⟩ => by cases q) h1 (kk _ _ _ _ h)
    · exact h.elim
  | dup2 =>
    simp only [tex1] at h
    unfold xdup2 at h
    split at h
    · exact s_dup2 hO (fun ⟨x, q⟩ => by cases q) (fun ⟨x, q⟩ => by cases q) h1 (kk _ _ _ _ h)
    · exact h.elim
  | pop =>
    simp only [tex1] at h
    unfold xpop at h
    split at h
    · exact s_pop hO (fun ⟨x, q⟩ => by cases q) h1 (kk _ _ _ _ h)
    · exact h.elim
  | goto off => exact s_goto hO (of_decide_eq_true h2) h1 (kk _ _ _ _ h)
  | getfield x =>
    obtain ⟨hw, hk⟩ := tfw_s (o := (Instr.getfield x, (t, n, w, q), v, lv)) h2
    obtain ⟨a, r, u, rfl, ht, hv, hkk⟩ := xGet_s (B := B) h
    exact s_getf hO ht hk hw h1 hv (kk _ _ _ _ hkk)
  | putfield x => exact xPut_ok (o := (Instr.putfield x, (t, n, w, q), v, lv)) hO h1 h2 h kk
  | iaload =>
    simp only [tex1] at h
    unfold xiald at h
    split at h
    · exact s_iald hO h.1 h.2.1 h1 (kk _ _ _ _ h.2.2)
    · exact h.elim
  | baload =>
    simp only [tex1] at h
    unfold xzald at h
    split at h
    · exact s_zald hO h.1 h.2.1 h1 (kk _ _ _ _ h.2.2)
    · exact h.elim
  | laload =>
    simp only [tex1] at h
    unfold xlald at h
    split at h
    · exact s_lald hO h.1 h.2.1 h1 (kk _ _ _ _ h.2.2)
    · exact h.elim
  | aaload =>
    simp only [tex1] at h
    unfold xaald at h
    split at h
    · exact s_aald43 hO h.1 h.2.1 h1 (kk _ _ _ _ h.2.2)
    · exact s_aald44 hO h.1 h.2.1 h1 (kk _ _ _ _ h.2.2)
    · exact h.elim
  | iastore =>
    simp only [tex1] at h
    unfold xiast at h
    split at h
    · exact s_iast hO h.1 h.2.1 h1 (kk _ _ _ _ h.2.2)
    · exact h.elim
  | bastore =>
    simp only [tex1] at h
    unfold xzast at h
    split at h
    · exact s_zast hO h.1 h.2.1 h.2.2.1 h1 (kk _ _ _ _ h.2.2.2)
    · exact h.elim
  | lastore =>
    simp only [tex1] at h
    unfold xlast at h
    split at h
    · exact s_last hO h.1 h.2.1 h1 (kk _ _ _ _ h.2.2)
    · exact h.elim
  | arraylength =>
    simp only [tex1] at h
    unfold xalen at h
    split at h
    · exact s_alen42 hO h.1 h1 (kk _ _ _ _ h.2)
    · exact s_alen hO h.1 h1 (kk _ _ _ _ h.2)
    · exact h.elim
  | _ => exact h.elim
theorem gBk (hO : tKO K B own cc nL) {pe : Nat} : ∀ (ops : List tOp) {pc : Nat} {L : tLs} {st : List tSV} {I : tHI} {J : tHJ}, tok own cc ops pc pe = true → texs S ops L st I J (fun L2 st2 I2 J2 => tWG K B cl sl S I2 J2 pe L2 st2) → tWG K B cl sl S I J pc L st := by
  intro ops
  induction ops with
  | nil =>
    intro pc L st I J h1 h2
    have e : pc = pe := of_decide_eq_true h1
    subst e
    exact h2
  | cons o r ih =>
    intro pc L st I J h1 h2
    have h1 : (decide (decode cc pc = .ok (o.1, tlen o.1)) && twk own o pc && tok own cc r (tnx o.1 pc) pe) = true := h1
    rw [Bool.and_eq_true, Bool.and_eq_true, decide_eq_true_eq] at h1
    exact tex1_ok hO h1.1.1 h1.1.2 h2 (fun L2 st2 I2 J2 hy => ih h1.2 hy)
end RY
