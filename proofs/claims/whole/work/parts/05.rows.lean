abbrev tCl (c : Nat) : vw_C := vwCl.getD c (RX0, TX0, 1)
theorem tkl_ok : ∀ t, 0 < (tkl t).length → t < 40 ∧ vwCl[t % 20]? = some (tCl (t % 20)) ∧ (tCl (t % 20)).2.2 = (tkl t).length ∧ t % 20 < 13 := by
  intro t
  unfold tkl
  split <;> intro h <;> first | exact ⟨by decide, rfl, rfl, by decide⟩ | exact absurd h (Nat.lt_irrefl 0)
theorem tcl_in : ∀ c, c < 13 → ∀ w ∈ u_ws (tCl c).1 (tCl c).2.1 (tCl c).2.2, w ∈ wsL_law := fun c hc => match c, hc with
  | 0, _ => inlX0 | 1, _ => inlX1 | 2, _ => inlX2 | 3, _ => inlX3 | 4, _ => inlX4 | 5, _ => inlX5 | 6, _ => inlX6 | 7, _ => inlX7 | 8, _ => inlX8 | 9, _ => inlX9 | 10, _ => inlX10 | 11, _ => inlX11 | 12, _ => inlX12
def tTy (c : Nat) : Nat → FieldType := match c with
  | 0 => tyX0 | 1 => tyX1 | 2 => tyX2 | 3 => tyX3 | 4 => tyX4 | 5 => tyX5 | 6 => tyX6 | 7 => tyX7 | 8 => tyX8 | 9 => tyX9 | 10 => tyX10 | 11 => tyX11 | _ => tyX12
theorem tcl_ty : ∀ c, c < 13 → ∀ k, k < (tCl c).2.2 → parseFieldDescriptor ((tCl c).2.1 k).2.2.1 = some (tTy c k) := fun c hc => match c, hc with
  | 0, _ => tyX0_ok | 1, _ => tyX1_ok | 2, _ => tyX2_ok | 3, _ => tyX3_ok | 4, _ => tyX4_ok | 5, _ => tyX5_ok | 6, _ => tyX6_ok | 7, _ => tyX7_ok | 8, _ => tyX8_ok | 9, _ => tyX9_ok | 10, _ => tyX10_ok | 11, _ => tyX11_ok | 12, _ => tyX12_ok
theorem tcl_nm : ∀ c, c < 13 → ∀ a, a < (tCl c).2.2 → ∀ b, b < (tCl c).2.2 → a ≠ b → ((tCl c).2.1 a).2.1 ≠ ((tCl c).2.1 b).2.1 := fun c hc => match c, hc with
  | 0, _ => nmX0 | 1, _ => nmX1 | 2, _ => nmX2 | 3, _ => nmX3 | 4, _ => nmX4 | 5, _ => nmX5 | 6, _ => nmX6 | 7, _ => nmX7 | 8, _ => nmX8 | 9, _ => nmX9 | 10, _ => nmX10 | 11, _ => nmX11 | 12, _ => nmX12
/-! a method's activation, in one word -/
abbrev tK : Type := Program × Launch × Env × Room × State × MethodId × Array Value × List Frame × Method × Code × (State → Prop)
abbrev kp (K : tK) : Program := K.1
abbrev kl (K : tK) : Launch := K.2.1
abbrev ke (K : tK) : Env := K.2.2.1
abbrev kR (K : tK) : Room := K.2.2.2.1
abbrev ks (K : tK) : State := K.2.2.2.2.1
abbrev km (K : tK) : MethodId := K.2.2.2.2.2.1
abbrev ka (K : tK) : Array Value := K.2.2.2.2.2.2.1
abbrev kb (K : tK) : List Frame := K.2.2.2.2.2.2.2.1
abbrev kM (K : tK) : Method := K.2.2.2.2.2.2.2.2.1
abbrev kc (K : tK) : Code := K.2.2.2.2.2.2.2.2.2.1
abbrev kQ (K : tK) : State → Prop := K.2.2.2.2.2.2.2.2.2.2
abbrev tW (K : tK) (cl sl : Nat) (H : Heap) (locs : List Loc) (g : JFrame) : Prop := W (kp K) (kl K) (ke K) (kR K) (ks K) (km K) (ka K) (kb K) (kM K) (kc K) H locs cl sl (kQ K) g
def tRP (K : tK) (B : tB) (S : tSH) (I : tHI) (J : tHJ) (H : Heap) (locs : List Loc) : Prop := H.size = B.2 + sZ S ∧ va_P B.1.1 vwCl (twl B S I J) H ∧ va_S (fun q => B.2 ≤ q) (ks K).heap H locs ∧ tGr S
def tas (b : Nat) : Nat → List (Option tSV) → List (Nat × Value)
  | _, [] => []
  | i, none :: r => tas b (i + 1) r
  | i, some v :: r => (i, tvv b v) :: tas b (i + 1) r
theorem tas_in {b : Nat} {v : tSV} : ∀ {L : List (Option tSV)} {i j : Nat}, L[j]? = some (some v) → (i + j, tvv b v) ∈ tas b i L := by
  intro L
  induction L with
  | nil => intro i j h; simp at h
  | cons o r ih =>
    intro i j h
    cases j with
    | zero =>
      have h : o = some v := by simpa using h
      subst h
      exact List.mem_cons_self
    | succ j =>
      have h : r[j]? = some (some v) := by simpa using h
      have h2 := ih (i := i + 1) h
      rw [show i + 1 + j = i + (j + 1) by omega] at h2
      cases o with
      | none => exact h2
      | some w => exact List.mem_cons_of_mem _ h2
theorem tas_of {b : Nat} : ∀ {L : List (Option tSV)} {i : Nat} {q : Nat × Value}, q ∈ tas b i L → ∃ j v, L[j]? = some (some v) ∧ q = (i + j, tvv b v) := by
  intro L
  induction L with
  | nil => intro i q h; cases h
  | cons o r ih =>
    intro i q h
    cases o with
    | none =>
      obtain ⟨j, v, h1, h2⟩ := ih (i := i + 1) h
      exact ⟨j + 1, v, by simpa using h1, by rw [h2, show i + 1 + j = i + (j + 1) by omega]⟩
    | some w =>
      rcases List.mem_cons.mp h with h | h
      · exact ⟨0, w, by simp, h⟩
      · obtain ⟨j, v, h1, h2⟩ := ih (i := i + 1) h
        exact ⟨j + 1, v, by simpa using h1, by rw [h2, show i + 1 + j = i + (j + 1) by omega]⟩
def tLH (B : tB) (ls : Array Slot) (L : List (Option tSV)) : Prop := lv_has ls L.length (tas B.2 0 L)
theorem tLH.at {B : tB} {ls : Array Slot} {L : List (Option tSV)} (h : tLH B ls L) {i : Nat} {v : tSV} (hi : L[i]? = some (some v)) : ls[i]? = some (.val (tvv B.2 v)) := by
  have h1 := h.2.2 _ (tas_in (b := B.2) (i := 0) hi)
  simpa using h1
def tkill (L : List (Option tSV)) (i : Nat) : List (Option tSV) := match i with
  | 0 => L
  | j + 1 => match L[j]? with
    | some (some (.inr (.inl _))) => L.set j none
    | _ => L
def tst1 (L : List (Option tSV)) (i : Nat) (v : tSV) : List (Option tSV) := (tkill L i).set i (some v)
def tst2 (L : List (Option tSV)) (i : Nat) (v : tSV) : List (Option tSV) := ((tkill L i).set (i + 1) none).set i (some v)
theorem tkill_len (L : List (Option tSV)) (i : Nat) : (tkill L i).length = L.length := by
  unfold tkill
  split
  · rfl
  · split
    · simp
    · rfl
theorem tkill_at {L : List (Option tSV)} {i j : Nat} {w : tSV} (h : (tkill L i)[j]? = some (some w)) : L[j]? = some (some w) ∧ ¬ (j + 1 = i ∧ ∃ x, w = vL x) := by
  unfold tkill at h
  split at h
  · exact ⟨h, fun q => by omega⟩
  · rename_i i
    split at h
    · rename_i y hy
      rw [List.getElem?_set] at h
      by_cases e : i = j
      · subst e
        rw [if_pos rfl] at h
        split at h <;> simp at h
      · rw [if_neg e] at h
        exact ⟨h, fun q => e (by omega)⟩
    · rename_i hn
      refine ⟨h, fun q => ?_⟩
      obtain ⟨q, x, rfl⟩ := q
      have : j = i := by omega
      subst this
      exact hn x h
theorem tvv_cat {b : Nat} {w : tSV} (h : ¬ ∃ x, w = vL x) : (tvv b w).category = 1 := by
  obtain x | x | o | p := w
  · rfl
  · exact absurd ⟨x, rfl⟩ h
  · cases o <;> rfl
  · rfl
theorem tLH_st1 {B : tB} {ls' : Array Slot} {L : List (Option tSV)} {i : Nat} {v : tSV}
    (h : lv_has ls' L.length ((i, tvv B.2 v) :: (tas B.2 0 L).filter (fun q => !(q.1 == i) && !(q.1 + 1 == i && q.2.category == 2)))) : tLH B ls' (tst1 L i v) := by
  refine ⟨by rw [h.1]; simp [tst1, tkill_len], h.2.1, fun q hq => h.2.2 q ?_⟩
  obtain ⟨j, w, h1, rfl⟩ := tas_of hq
  unfold tst1 at h1
  rw [List.getElem?_set] at h1
  by_cases e : i = j
  · subst e
    rw [if_pos rfl] at h1
    split at h1
    · cases h1
      simp
    · cases h1
  · rw [if_neg e] at h1
    obtain ⟨h2, h3⟩ := tkill_at h1
    refine List.mem_cons_of_mem _ (List.mem_filter.mpr ⟨tas_in h2, ?_⟩)
    have e1 : ¬ j = i := fun q => e q.symm
    by_cases e2 : j + 1 = i
    · have h4 := tvv_cat (b := B.2) (w := w) (fun q => h3 ⟨e2, q⟩)
      simp [e1, h4]
    · simp [e1, e2]
theorem tLH_st2 {B : tB} {ls' : Array Slot} {L : List (Option tSV)} {i : Nat} {v : tSV}
    (h : lv_has ls' L.length ((i, tvv B.2 v) :: (tas B.2 0 L).filter (fun q => !(q.1 == i) && (!(q.1 == i + 1) && !(q.1 + 1 == i && q.2.category == 2))))) : tLH B ls' (tst2 L i v) := by
  refine ⟨by rw [h.1]; simp [tst2, tkill_len], h.2.1, fun q hq => h.2.2 q ?_⟩
  obtain ⟨j, w, h1, rfl⟩ := tas_of hq
  unfold tst2 at h1
  rw [List.getElem?_set] at h1
  by_cases e : i = j
  · subst e
    rw [if_pos rfl] at h1
    split at h1
    · cases h1
      simp
    · cases h1
  · rw [if_neg e, List.getElem?_set] at h1
    by_cases e0 : i + 1 = j
    · subst e0
      rw [if_pos rfl] at h1
      split at h1 <;> simp at h1
    · rw [if_neg e0] at h1
      obtain ⟨h2, h3⟩ := tkill_at h1
      refine List.mem_cons_of_mem _ (List.mem_filter.mpr ⟨tas_in h2, ?_⟩)
      have e1 : ¬ j = i := fun q => e q.symm
      have e3 : ¬ j = i + 1 := fun q => e0 q.symm
      by_cases e2 : j + 1 = i
      · have h4 := tvv_cat (b := B.2) (w := w) (fun q => h3 ⟨e2, q⟩)
        simp [e1, e3, h4]
      · simp [e1, e2, e3]
/-- links to private members of a nest mate -/
def tNest : List (String × Nat × MethodName × String) := [(RX11, 11, yX8_init, RX11), (RX11, 25, yX1_init, RX11), (RX11, 35, yX9_init, RX11), (RX11, 42, yX4_init, RX11), (RX11, 49, yX0_init, RX11), (RX11, 81, yX10_init, RX11), (RX7, 40, yX11_within, RX11), (RX8, 11, yX3_init, RX11), (RX8, 20, yX7_init, RX11), (RX8, 27, yX10_init, RX11)]
def tNe (U : State) : Prop := ∀ (i : Nat) (q : String × Nat × MethodName × String), tNest[i]? = some q → va_Nw (.methodLinkNest q.1 q.2.1 q.2.2.1 q.2.2.2) U
/-- links to nest mates, and the classes of arrays of our own objects -/
def tNs (U : State) : Prop := tNe U ∧ va_AO RX8 U ∧ va_AO RX6 U
theorem tNs.warm {s U : State} (h : tNs s) (hW : s.WarmedH U.vm) : tNs U := ⟨fun i q hq => va_Nw.warmM hW (h.1 i q hq), h.2.1.moved hW.alike, h.2.2.moved hW.alike⟩
theorem tNs.same {u U : State} (hv : u.vm = U.vm) (h : tNs u) : tNs U := by
  have al : u.vm.Alike U.vm := by rw [hv]; exact Vm.Alike.refl _
  exact ⟨fun i q hq => va_Nw.same rfl hv (h.1 i q hq), h.2.1.moved al, h.2.2.moved al⟩
/-- the String constants of the parser: entry, text, bytes -/
def tStx : List (Nat × String) := [(106, "at "), (108, "by "), (114, "times "), (119, "if "), (130, "or "), (141, "and "), (143, "not "), (154, "pace next side done ended hedges turn spot "), (156, "turn long camber chair rest lean bars skill weight spot alive mood "), (95, "gas brake lane put lean ride "), (97, "holds grips fears pulls learns bans ")]
def tSbyt : List (List Int32) := [[97, 116, 32], [98, 121, 32], [116, 105, 109, 101, 115, 32], [105, 102, 32], [111, 114, 32], [97, 110, 100, 32], [110, 111, 116, 32], [112, 97, 99, 101, 32, 110, 101, 120, 116, 32, 115, 105, 100, 101, 32, 100, 111, 110, 101, 32, 101, 110, 100, 101, 100, 32, 104, 101, 100, 103, 101, 115, 32, 116, 117, 114, 110, 32, 115, 112, 111, 116, 32], [116, 117, 114, 110, 32, 108, 111, 110, 103, 32, 99, 97, 109, 98, 101, 114, 32, 99, 104, 97, 105, 114, 32, 114, 101, 115, 116, 32, 108, 101, 97, 110, 32, 98, 97, 114, 115, 32, 115, 107, 105, 108, 108, 32, 119, 101, 105, 103, 104, 116, 32, 115, 112, 111, 116, 32, 97, 108, 105, 118, 101, 32, 109, 111, 111, 100, 32], [103, 97, 115, 32, 98, 114, 97, 107, 101, 32, 108, 97, 110, 101, 32, 112, 117, 116, 32, 108, 101, 97, 110, 32, 114, 105, 100, 101, 32], [104, 111, 108, 100, 115, 32, 103, 114, 105, 112, 115, 32, 102, 101, 97, 114, 115, 32, 112, 117, 108, 108, 115, 32, 108, 101, 97, 114, 110, 115, 32, 98, 97, 110, 115, 32]]
def tSlen : List Nat := [3, 3, 6, 3, 3, 4, 4, 43, 67, 29, 36]
abbrev tadK (B : tB) : Nat → Nat := B.1.2.2.2.2.2.2.1
abbrev tadV (B : tB) : Nat → Nat := B.1.2.2.2.2.2.2.2
def tStr (B : tB) (U : State) : Prop := vk_S 11 tSlen tSbyt (tadK B) (tadV B) (fun q => B.2 ≤ q) U U.heap ∧ (∀ (i : Nat) (q : Nat × String), tStx[i]? = some q → vk_R "ThreeWheels$Parser" q.1 q.2 (tadK B i) U) ∧ va_Z "java/lang/String" "COMPACT_STRINGS" "Z" (.int 1) (fun q => B.2 ≤ q) U U.heap ∧ va_Zq "jdk/internal/util/Preconditions" "SIOOBE_FORMATTER" "Ljava/util/function/BiFunction;" (fun q => B.2 ≤ q) U U.heap
def tNT (B : tB) (U : State) : Prop := tNs U ∧ tStr B U
theorem tNT.at {B : tB} {s U : State} {H : Heap} {locs : List Loc} (h : tNT B s) (hS : va_S (fun q => B.2 ≤ q) s.heap H locs) (hU : U.heap = H) (hW : s.WarmedH U.vm) : tNT B U := by
  subst hU
  obtain ⟨h1, h2, h3, h4, h5⟩ := h
  refine ⟨h1.warm hW, (h2.kept hS.2.1).moved hW.alike, fun i q hq => (h3 i q hq).warm hW, (h4.kept hS.2.1).moved hW.alike, ?_⟩
  rcases h5 with h | ⟨t, h⟩
  · exact Or.inl ((h.kept hS.2.1).moved hW.alike)
  · exact Or.inr ⟨t, (h.kept hS.2.1).moved hW.alike⟩
theorem tNT.same {B : tB} {u U : State} (hv : u.vm = U.vm) (hh : u.heap = U.heap) (h : tNT B u) : tNT B U := by
  obtain ⟨h1, h2, h3, h4, h5⟩ := h
  have al : u.vm.Alike U.vm := by rw [hv]; exact Vm.Alike.refl _
  refine ⟨h1.same hv, hh ▸ h2.moved al, fun i q hq => vk_R.same hv.symm (h3 i q hq), hh ▸ h4.moved al, ?_⟩
  rcases h5 with h | ⟨t, h⟩
  · exact Or.inl (hh ▸ h.moved al)
  · exact Or.inr ⟨t, hh ▸ h.moved al⟩
def tKO (K : tK) (B : tB) (own : String) (cc : ByteArray) (nL : Nat) : Prop := (kp K).tables.exec = Jvm.exec ∧ (kc K).code = cc ∧ (kc K).maxLocals = nL ∧ (ks K).vm.findClass own = some (km K).cls ∧ (∀ w ∈ wsL_law, w.before (ka K) (ks K) = true) ∧ va_K B.1.1 vwCl (ttys B.1) (ks K) ∧ B.2 ≤ (ks K).heap.size ∧ tNT B (ks K)
def tWG (K : tK) (B : tB) (cl sl : Nat) (S : tSH) (I : tHI) (J : tHJ) (pc : Nat) (L : List (Option tSV)) (st : List tSV) : Prop := ∀ (H : Heap) (locs : List Loc) (ls : Array Slot), tRP K B S I J H locs → tLH B ls L → tW K cl sl H locs (F0 (km K) pc ls (st.map (tvv B.2)))
section RW
variable {K : tK} {B : tB} {own : String} {cc : ByteArray} {nL cl sl : Nat} {S : tSH} {I : tHI} {J : tHJ} {pc : Nat} {L : List (Option tSV)} {st : List tSV}
theorem s_st {pc' : Nat} {st' : List tSV} (row : ∀ (H : Heap) (locs : List Loc) (ls : Array Slot), tLH B ls L → tW K cl sl H locs (F0 (km K) pc' ls (st'.map (tvv B.2))) → tW K cl sl H locs (F0 (km K) pc ls (st.map (tvv B.2)))) (k : tWG K B cl sl S I J pc' L st') : tWG K B cl sl S I J pc L st := fun H locs ls hR hL => row H locs ls hL (k H locs ls hR hL)
-- loads
theorem s_iload (hO : tKO K B own cc nL) {i : Nat} {v : Int32} (hv : L[i]? = some (some (vI v))) (hd : decode cc pc = .ok (.iload i, 2)) (k : tWG K B cl sl S I J (pc + 2) L (vI v :: st)) : tWG K B cl sl S I J pc L st := s_st (fun _ _ _ hL h => lv_iload hO.1 hO.2.1 hd (hL.at hv) h) k
theorem s_iload_n (hO : tKO K B own cc nL) {i : Fin 4} {v : Int32} (hv : L[(i : Nat)]? = some (some (vI v))) (hd : decode cc pc = .ok (.iload_n i, 1)) (k : tWG K B cl sl S I J (pc + 1) L (vI v :: st)) : tWG K B cl sl S I J pc L st := s_st (fun _ _ _ hL h => lv_iload_n hO.1 hO.2.1 hd rfl (hL.at hv) h) k
theorem s_lload (hO : tKO K B own cc nL) {i : Nat} {v : Int64} (hv : L[i]? = some (some (vL v))) (hd : decode cc pc = .ok (.lload i, 2)) (k : tWG K B cl sl S I J (pc + 2) L (vL v :: st)) : tWG K B cl sl S I J pc L st := s_st (fun _ _ _ hL h => lv_lload hO.1 hO.2.1 hd (hL.at hv) h) k
theorem s_lload_n (hO : tKO K B own cc nL) {i : Fin 4} {v : Int64} (hv : L[(i : Nat)]? = some (some (vL v))) (hd : decode cc pc = .ok (.lload_n i, 1)) (k : tWG K B cl sl S I J (pc + 1) L (vL v :: st)) : tWG K B cl sl S I J pc L st := s_st (fun _ _ _ hL h => lv_lload_n hO.1 hO.2.1 hd rfl (hL.at hv) h) k
theorem s_aload (hO : tKO K B own cc nL) {i a : Nat} (hv : L[i]? = some (some (vR a))) (hd : decode cc pc = .ok (.aload i, 2)) (k : tWG K B cl sl S I J (pc + 2) L (vR a :: st)) : tWG K B cl sl S I J pc L st := s_st (fun _ _ _ hL h => lv_aload hO.1 hO.2.1 hd (x := B.2 + a) (hL.at hv) h) k
theorem s_aload_n (hO : tKO K B own cc nL) {i : Fin 4} {a : Nat} (hv : L[(i : Nat)]? = some (some (vR a))) (hd : decode cc pc = .ok (.aload_n i, 1)) (k : tWG K B cl sl S I J (pc + 1) L (vR a :: st)) : tWG K B cl sl S I J pc L st := s_st (fun _ _ _ hL h => lv_aload_n hO.1 hO.2.1 hd rfl (x := B.2 + a) (hL.at hv) h) k
theorem s_aloadA (hO : tKO K B own cc nL) {i a : Nat} (hv : L[i]? = some (some (vA a))) (hd : decode cc pc = .ok (.aload i, 2)) (k : tWG K B cl sl S I J (pc + 2) L (vA a :: st)) : tWG K B cl sl S I J pc L st := s_st (fun _ _ _ hL h => lv_aload hO.1 hO.2.1 hd (x := a) (hL.at hv) h) k
theorem s_aload_nA (hO : tKO K B own cc nL) {i : Fin 4} {a : Nat} (hv : L[(i : Nat)]? = some (some (vA a))) (hd : decode cc pc = .ok (.aload_n i, 1)) (k : tWG K B cl sl S I J (pc + 1) L (vA a :: st)) : tWG K B cl sl S I J pc L st := s_st (fun _ _ _ hL h => lv_aload_n hO.1 hO.2.1 hd rfl (x := a) (hL.at hv) h) k
-- stores
theorem s_istore (hO : tKO K B own cc nL) {i : Nat} {v : Int32} (hn : i < L.length) (hd : decode cc pc = .ok (.istore i, 2)) (kk : tWG K B cl sl S I J (pc + 2) (tst1 L i (vI v)) st) : tWG K B cl sl S I J pc L (vI v :: st) := fun H locs ls hR hL => lv_istore hO.1 hO.2.1 hd hL hn rfl (fun ls' h' => kk H locs ls' hR (tLH_st1 (v := vI v) h'))
theorem s_istore_n (hO : tKO K B own cc nL) {i : Fin 4} {v : Int32} (hn : (i : Nat) < L.length) (hd : decode cc pc = .ok (.istore_n i, 1)) (kk : tWG K B cl sl S I J (pc + 1) (tst1 L i (vI v)) st) : tWG K B cl sl S I J pc L (vI v :: st) := fun H locs ls hR hL => lv_istore_n hO.1 hO.2.1 hd rfl hL hn rfl (fun ls' h' => kk H locs ls' hR (tLH_st1 (v := vI v) h'))
theorem s_astore (hO : tKO K B own cc nL) {i a : Nat} (hn : i < L.length) (hd : decode cc pc = .ok (.astore i, 2)) (kk : tWG K B cl sl S I J (pc + 2) (tst1 L i (vR a)) st) : tWG K B cl sl S I J pc L (vR a :: st) := fun H locs ls hR hL => lv_astore hO.1 hO.2.1 hd (x := B.2 + a) hL hn rfl (fun ls' h' => kk H locs ls' hR (tLH_st1 (v := vR a) h'))
theorem s_astore_n (hO : tKO K B own cc nL) {i : Fin 4} {a : Nat} (hn : (i : Nat) < L.length) (hd : decode cc pc = .ok (.astore_n i, 1)) (kk : tWG K B cl sl S I J (pc + 1) (tst1 L i (vR a)) st) : tWG K B cl sl S I J pc L (vR a :: st) := fun H locs ls hR hL => lv_astore_n hO.1 hO.2.1 hd rfl (x := B.2 + a) hL hn rfl (fun ls' h' => kk H locs ls' hR (tLH_st1 (v := vR a) h'))
theorem s_lstore (hO : tKO K B own cc nL) {i : Nat} {v : Int64} (hn : i + 1 < L.length) (hd : decode cc pc = .ok (.lstore i, 2)) (kk : tWG K B cl sl S I J (pc + 2) (tst2 L i (vL v)) st) : tWG K B cl sl S I J pc L (vL v :: st) := fun H locs ls hR hL => lv_lstore hO.1 hO.2.1 hd hL hn rfl (fun ls' h' => kk H locs ls' hR (tLH_st2 (v := vL v) h'))
theorem s_lstore_n (hO : tKO K B own cc nL) {i : Fin 4} {v : Int64} (hn : (i : Nat) + 1 < L.length) (hd : decode cc pc = .ok (.lstore_n i, 1)) (kk : tWG K B cl sl S I J (pc + 1) (tst2 L i (vL v)) st) : tWG K B cl sl S I J pc L (vL v :: st) := fun H locs ls hR hL => lv_lstore_n hO.1 hO.2.1 hd rfl hL hn rfl (fun ls' h' => kk H locs ls' hR (tLH_st2 (v := vL v) h'))
theorem s_iinc (hO : tKO K B own cc nL) {i : Nat} {n : Int} {x v : Int32} (hv : L[i]? = some (some (vI x))) (hc : Int32.ofInt n = v) (hd : decode cc pc = .ok (.iinc i n, 3)) (kk : tWG K B cl sl S I J (pc + 3) (tst1 L i (vI (x + v))) st) : tWG K B cl sl S I J pc L st := by
  subst hc
  intro H locs ls hR hL
  have hm := tas_in (b := B.2) (i := 0) hv
  rw [Nat.zero_add] at hm
  obtain ⟨k, hk⟩ := List.getElem?_of_mem hm
  exact lv_iinc hO.1 hO.2.1 hd hL (k := k) hk rfl (List.getElem?_eq_some_iff.mp hv).1 rfl (fun ls' h' => kk H locs ls' hR (tLH_st1 (v := vI (x + Int32.ofInt n)) h'))
-- constants
theorem s_iconst (hO : tKO K B own cc nL) {n : Int} {v : Int32} (hc : Int32.ofInt n = v) (hd : decode cc pc = .ok (.iconst n, 1)) (k : tWG K B cl sl S I J (pc + 1) L (vI v :: st)) : tWG K B cl sl S I J pc L st := s_st (fun _ _ _ _ h => lv_iconst hO.1 hO.2.1 hd hc h) k
theorem s_bipush (hO : tKO K B own cc nL) {n : Int} {v : Int32} (hc : (Int8.ofInt n).toInt32 = v) (hd : decode cc pc = .ok (.bipush n, 2)) (k : tWG K B cl sl S I J (pc + 2) L (vI v :: st)) : tWG K B cl sl S I J pc L st := s_st (fun _ _ _ _ h => lv_bipush hO.1 hO.2.1 hd hc h) k
theorem s_sipush (hO : tKO K B own cc nL) {n : Int} {v : Int32} (hc : (Int16.ofInt n).toInt32 = v) (hd : decode cc pc = .ok (.sipush n, 3)) (k : tWG K B cl sl S I J (pc + 3) L (vI v :: st)) : tWG K B cl sl S I J pc L st := s_st (fun _ _ _ _ h => lv_sipush hO.1 hO.2.1 hd hc h) k
theorem s_lconst (hO : tKO K B own cc nL) {n : Fin 2} {v : Int64} (hc : Int64.ofNat (n : Nat) = v) (hd : decode cc pc = .ok (.lconst n, 1)) (k : tWG K B cl sl S I J (pc + 1) L (vL v :: st)) : tWG K B cl sl S I J pc L st := s_st (fun _ _ _ _ h => lv_lconst hO.1 hO.2.1 hd hc h) k
theorem s_ldc (hO : tKO K B own cc nL) {i w : Nat} {v : Int32} (hc : wsL_law[w]? = some (Cond.constant own i v)) (hd : decode cc pc = .ok (.ldc i, 2)) (k : tWG K B cl sl S I J (pc + 2) L (vI v :: st)) : tWG K B cl sl S I J pc L st := s_st (fun _ _ _ _ h => lv_ldc hO.1 hO.2.1 hO.2.2.2.1 (hO.2.2.2.2.1 _ (List.mem_of_getElem? hc)) hd h) k
theorem s_ldcw (hO : tKO K B own cc nL) {i w : Nat} {v : Int32} (hc : wsL_law[w]? = some (Cond.constant own i v)) (hd : decode cc pc = .ok (.ldc_w i, 3)) (k : tWG K B cl sl S I J (pc + 3) L (vI v :: st)) : tWG K B cl sl S I J pc L st := s_st (fun _ _ _ _ h => lv_ldcw hO.1 hO.2.1 hO.2.2.2.1 (hO.2.2.2.2.1 _ (List.mem_of_getElem? hc)) hd h) k
theorem s_ldc2 (hO : tKO K B own cc nL) {i w : Nat} {v : Int64} (hc : wsL_law[w]? = some (Cond.constantLong own i v)) (hd : decode cc pc = .ok (.ldc2_w i, 3)) (k : tWG K B cl sl S I J (pc + 3) L (vL v :: st)) : tWG K B cl sl S I J pc L st := s_st (fun _ _ _ _ h => lv_ldc2 hO.1 hO.2.1 hO.2.2.2.1 (hO.2.2.2.2.1 _ (List.mem_of_getElem? hc)) hd h) k
theorem s_null (hO : tKO K B own cc nL) (hd : decode cc pc = .ok (.aconst_null, 1)) (k : tWG K B cl sl S I J (pc + 1) L (vN :: st)) : tWG K B cl sl S I J pc L st := s_st (fun _ _ _ _ h => lv_null hO.1 hO.2.1 hd h) k
-- numbers
theorem s_iadd (hO : tKO K B own cc nL) {x y : Int32} (hd : decode cc pc = .ok (.iadd, 1)) (k : tWG K B cl sl S I J (pc + 1) L (vI (x + y) :: st)) : tWG K B cl sl S I J pc L (vI y :: vI x :: st) := s_st (fun _ _ _ _ h => lv_iadd hO.1 hO.2.1 hd h) k
theorem s_isub (hO : tKO K B own cc nL) {x y : Int32} (hd : decode cc pc = .ok (.isub, 1)) (k : tWG K B cl sl S I J (pc + 1) L (vI (x - y) :: st)) : tWG K B cl sl S I J pc L (vI y :: vI x :: st) := s_st (fun _ _ _ _ h => lv_isub hO.1 hO.2.1 hd h) k
theorem s_imul (hO : tKO K B own cc nL) {x y : Int32} (hd : decode cc pc = .ok (.imul, 1)) (k : tWG K B cl sl S I J (pc + 1) L (vI (x * y) :: st)) : tWG K B cl sl S I J pc L (vI y :: vI x :: st) := s_st (fun _ _ _ _ h => lv_imul hO.1 hO.2.1 hd h) k
theorem s_idiv (hO : tKO K B own cc nL) {x y : Int32} (hne : ¬ y = 0) (hd : decode cc pc = .ok (.idiv, 1)) (k : tWG K B cl sl S I J (pc + 1) L (vI (x / y) :: st)) : tWG K B cl sl S I J pc L (vI y :: vI x :: st) := s_st (fun _ _ _ _ h => lv_idiv hO.1 hO.2.1 hd hne h) k
theorem s_irem (hO : tKO K B own cc nL) {x y : Int32} (hne : ¬ y = 0) (hd : decode cc pc = .ok (.irem, 1)) (k : tWG K B cl sl S I J (pc + 1) L (vI (x - x / y * y) :: st)) : tWG K B cl sl S I J pc L (vI y :: vI x :: st) := s_st (fun _ _ _ _ h => lv_irem hO.1 hO.2.1 hd hne h) k
theorem s_ineg (hO : tKO K B own cc nL) {x : Int32} (hd : decode cc pc = .ok (.ineg, 1)) (k : tWG K B cl sl S I J (pc + 1) L (vI (-x) :: st)) : tWG K B cl sl S I J pc L (vI x :: st) := s_st (fun _ _ _ _ h => lv_ineg hO.1 hO.2.1 hd h) k
theorem s_ishl (hO : tKO K B own cc nL) {x y : Int32} (hd : decode cc pc = .ok (.ishl, 1)) (k : tWG K B cl sl S I J (pc + 1) L (vI (x <<< (y &&& 31)) :: st)) : tWG K B cl sl S I J pc L (vI y :: vI x :: st) := s_st (fun _ _ _ _ h => lv_ishl hO.1 hO.2.1 hd h) k
theorem s_ishr (hO : tKO K B own cc nL) {x y : Int32} (hd : decode cc pc = .ok (.ishr, 1)) (k : tWG K B cl sl S I J (pc + 1) L (vI (x >>> (y &&& 31)) :: st)) : tWG K B cl sl S I J pc L (vI y :: vI x :: st) := s_st (fun _ _ _ _ h => lv_ishr hO.1 hO.2.1 hd h) k
theorem s_iushr (hO : tKO K B own cc nL) {x y : Int32} (hd : decode cc pc = .ok (.iushr, 1)) (k : tWG K B cl sl S I J (pc + 1) L (vI ((x.toUInt32 >>> (y.toUInt32 &&& Int32.toUInt32 31)).toInt32) :: st)) : tWG K B cl sl S I J pc L (vI y :: vI x :: st) := s_st (fun _ _ _ _ h => lv_iushr hO.1 hO.2.1 hd rfl h) k
theorem s_iand (hO : tKO K B own cc nL) {x y : Int32} (hd : decode cc pc = .ok (.iand, 1)) (k : tWG K B cl sl S I J (pc + 1) L (vI (x &&& y) :: st)) : tWG K B cl sl S I J pc L (vI y :: vI x :: st) := s_st (fun _ _ _ _ h => lv_iand hO.1 hO.2.1 hd h) k
theorem s_ladd (hO : tKO K B own cc nL) {x y : Int64} (hd : decode cc pc = .ok (.ladd, 1)) (k : tWG K B cl sl S I J (pc + 1) L (vL (x + y) :: st)) : tWG K B cl sl S I J pc L (vL y :: vL x :: st) := s_st (fun _ _ _ _ h => lv_ladd hO.1 hO.2.1 hd h) k
theorem s_lsub (hO : tKO K B own cc nL) {x y : Int64} (hd : decode cc pc = .ok (.lsub, 1)) (k : tWG K B cl sl S I J (pc + 1) L (vL (x - y) :: st)) : tWG K B cl sl S I J pc L (vL y :: vL x :: st) := s_st (fun _ _ _ _ h => lv_lsub hO.1 hO.2.1 hd h) k
theorem s_lmul (hO : tKO K B own cc nL) {x y : Int64} (hd : decode cc pc = .ok (.lmul, 1)) (k : tWG K B cl sl S I J (pc + 1) L (vL (x * y) :: st)) : tWG K B cl sl S I J pc L (vL y :: vL x :: st) := s_st (fun _ _ _ _ h => lv_lmul hO.1 hO.2.1 hd h) k
theorem s_ldiv (hO : tKO K B own cc nL) {x y : Int64} (hne : ¬ y = 0) (hd : decode cc pc = .ok (.ldiv, 1)) (k : tWG K B cl sl S I J (pc + 1) L (vL (x / y) :: st)) : tWG K B cl sl S I J pc L (vL y :: vL x :: st) := s_st (fun _ _ _ _ h => lv_ldiv hO.1 hO.2.1 hd hne h) k
theorem s_lrem (hO : tKO K B own cc nL) {x y : Int64} (hne : ¬ y = 0) (hd : decode cc pc = .ok (.lrem, 1)) (k : tWG K B cl sl S I J (pc + 1) L (vL (x - x / y * y) :: st)) : tWG K B cl sl S I J pc L (vL y :: vL x :: st) := s_st (fun _ _ _ _ h => lv_lrem hO.1 hO.2.1 hd hne h) k
theorem s_i2l (hO : tKO K B own cc nL) {x : Int32} (hd : decode cc pc = .ok (.i2l, 1)) (k : tWG K B cl sl S I J (pc + 1) L (vL x.toInt64 :: st)) : tWG K B cl sl S I J pc L (vI x :: st) := s_st (fun _ _ _ _ h => lv_i2l hO.1 hO.2.1 hd rfl h) k
theorem s_l2i (hO : tKO K B own cc nL) {x : Int64} (hd : decode cc pc = .ok (.l2i, 1)) (k : tWG K B cl sl S I J (pc + 1) L (vI x.toInt32 :: st)) : tWG K B cl sl S I J pc L (vL x :: st) := s_st (fun _ _ _ _ h => lv_l2i hO.1 hO.2.1 hd rfl h) k
theorem s_lcmp (hO : tKO K B own cc nL) {x y : Int64} (hd : decode cc pc = .ok (.lcmp, 1)) (k : tWG K B cl sl S I J (pc + 1) L (vI (lg_cmp x y) :: st)) : tWG K B cl sl S I J pc L (vL y :: vL x :: st) := s_st (fun _ _ _ _ h => W.lcmp hO.1 hO.2.1 hd h) k
theorem s_dup (hO : tKO K B own cc nL) {v : tSV} (hv : ¬ ∃ x, v = vL x) (hd : decode cc pc = .ok (.dup, 1)) (k : tWG K B cl sl S I J (pc + 1) L (v :: v :: st)) : tWG K B cl sl S I J pc L (v :: st) := s_st (fun _ _ _ _ h => lv_dup hO.1 hO.2.1 hd (tvv_cat hv) h) k
theorem s_dup2 (hO : tKO K B own cc nL) {v w : tSV} (hv : ¬ ∃ x, v = vL x) (hw : ¬ ∃ x, w = vL x) (hd : decode cc pc = .ok (.dup2, 1)) (k : tWG K B cl sl S I J (pc + 1) L (v :: w :: v :: w :: st)) : tWG K B cl sl S I J pc L (v :: w :: st) := s_st (fun _ _ _ _ h => lv_dup2_11 hO.1 hO.2.1 hd (tvv_cat hv) (tvv_cat hw) h) k
theorem s_pop (hO : tKO K B own cc nL) {v : tSV} (hv : ¬ ∃ x, v = vL x) (hd : decode cc pc = .ok (.pop, 1)) (k : tWG K B cl sl S I J (pc + 1) L st) : tWG K B cl sl S I J pc L (v :: st) := s_st (fun _ _ _ _ h => lv_pop hO.1 hO.2.1 hd (tvv_cat hv) h) k
theorem s_goto (hO : tKO K B own cc nL) {off : Int} (ht : 0 ≤ (pc : Int) + off) (hd : decode cc pc = .ok (.goto off, 3)) (k : tWG K B cl sl S I J ((pc : Int) + off).toNat L st) : tWG K B cl sl S I J pc L st := s_st (fun _ _ _ _ h => lv_goto hO.1 hO.2.1 hd (by omega) h) k
-- fields
theorem tl_get {n k : Nat} {f : Nat → Value} (h : k < n) : ((List.range n).map f)[k]? = some (f k) := by simp [h]
theorem tl_set {n k : Nat} {f g : Nat → Value} {v : Value} (hv : g k = v) (ho : ∀ j, j ≠ k → g j = f j) : ((List.range n).map f).set k v = (List.range n).map g := by
  apply List.ext_getElem?
  intro i
  rw [List.getElem?_set]
  by_cases e : k = i
  · subst e
    rw [if_pos rfl]
    by_cases hk : k < n
    · simp [hk, hv]
    · simp [hk]
  · rw [if_neg e]
    by_cases hi : i < n
    · simp [hi, ho i (fun q => e q.symm)]
    · simp [hi]
theorem s_getf (hO : tKO K B own cc nL) {a t k i x : Nat} (ht : ty S a t) (hk : k < (tkl t).length) (hw : wsL_law[i]? = some (Cond.fieldLink own x ((tCl (t % 20)).2.1 k).1 ((tCl (t % 20)).2.1 k).2.1 ((tCl (t % 20)).2.1 k).2.2.1)) (hd : decode cc pc = .ok (.getfield x, 3)) {v : tSV} (hv : tvv B.2 v = tfv B.2 S I J a k) (kk : tWG K B cl sl S I J (pc + 3) L (v :: st)) : tWG K B cl sl S I J pc L (vR a :: st) := by
  intro H locs ls hR hL
  obtain ⟨hx, hb, -, hown, hts, hK, -, -⟩ := hO
  obtain ⟨h40, hcl, hn, h13⟩ := tkl_ok t (by omega)
  have he := twl_get (B := B) (S := S) (I := I) (J := J) ht.1
  rw [tcell_o (by rw [ht.2]; exact h40), ht.2] at he
  refine va_get hx hb hts (tcl_in _ h13) hown hK hR.2.1 a he hcl k (by omega) (hts _ (List.mem_of_getElem? hw)) (fun _ h => h) (v := tvv B.2 v) ?_ hd (kk H locs ls hR hL)
  rw [tl_get hk, hv]
theorem s_putf (hO : tKO K B own cc nL) {a t k i x : Nat} (ht : ty S a t) (hk : k < (tkl t).length) (hw : wsL_law[i]? = some (Cond.fieldLink own x ((tCl (t % 20)).2.1 k).1 ((tCl (t % 20)).2.1 k).2.1 ((tCl (t % 20)).2.1 k).2.2.1)) (hd : decode cc pc = .ok (.putfield x, 3)) (hfin : ((tCl (t % 20)).2.1 k).2.2.2 = false)
    {v : tSV} {ft : FieldType} (hds : parseFieldDescriptor ((tCl (t % 20)).2.1 k).2.2.1 = some ft) (hn : narrow ft (tvv B.2 v) = tvv B.2 v) (hf : fits ft (tvv B.2 v) = true) {S' : tSH} {I' : tHI} {J' : tHJ} (hz : sZ S' = sZ S) (ht' : sT S' a = t) (hv : tfv B.2 S' I' J' a k = tvv B.2 v) (ho : ∀ j, j ≠ k → tfv B.2 S' I' J' a j = tfv B.2 S I J a j) (hoo : ∀ y, y ≠ a → tcell B S' I' J' y = tcell B S I J y) (hG : tGr S') (kk : tWG K B cl sl S' I' J' (pc + 3) L st) : tWG K B cl sl S I J pc L (v :: vR a :: st) := by
  intro H locs ls hR hL
  obtain ⟨hx, hb, -, hown, hts, hK, -, -⟩ := hO
  obtain ⟨h40, hcl, hnn, h13⟩ := tkl_ok t (by omega)
  obtain ⟨hsz, hP, hS0, -⟩ := hR
  have he := twl_get (B := B) (S := S) (I := I) (J := J) ht.1
  rw [tcell_o (by rw [ht.2]; exact h40), ht.2] at he
  have hap := va_apart (own := own) hts (tcl_in _ h13) (tTy (t % 20)) (tcl_ty _ h13) (tcl_nm _ h13) hK hcl
  obtain ⟨r, h1, cell, q1, q2, q3, q4⟩ := hP a _ he
  have hr : r = tCl (t % 20) := Option.some.inj (h1.symm.trans hcl)
  subst hr
  obtain ⟨hSl, hfc, kC, hkC, hkind⟩ := hK.1 _ _ hcl
  obtain ⟨cf, kf, fi, f, hi, hsl⟩ := hSl k (by omega)
  have hlay := hts _ (tcl_in _ h13 _ (u_in_lay (show k < _ by omega)))
  unfold u_lay at hlay
  rw [if_neg (by rw [hfin]; decide)] at hlay
  have hst := (u_facts hfc hkC (u_lays hts (tcl_in _ h13) (by omega)) hi).1
  have h6 := u_store hfc hkC hkind hlay hi hds hn hf
  refine W.putK hx hb (f := f) ⟨hown, hts _ (List.mem_of_getElem? hw), ⟨_, _, _, hi⟩, hst⟩ (by rw [q2]; exact h6) q1 q3 (by rw [hsl]; exact k2_hasslot (q4 k (by omega))) rfl rfl hd fun H' e1 e2 e3 => ?_
  rw [hsl] at e1 ⊢
  have hP' := hP.set (twl_D (B := B) (S := S) (I := I) (J := J)) he (e := .inr (t % 20, ((List.range (tkl t).length).map (tfv B.2 S I J a)).set k (tvv B.2 v))) ⟨_, hcl, t_OB.to (V := updV (vp_V ((List.range (tkl t).length).map (tfv B.2 S I J a))) k (tvv B.2 v)) ⟨_, e1, q2, q3, t_set q4 hap (by omega) (tvv B.2 v)⟩ (fun j _ => vp_updV_set (by simp; omega) (tvv B.2 v) j)⟩ e3
  rw [twl_set (S' := S') (I' := I') (J' := J') hz (by rw [tcell_o (by rw [ht']; exact h40), ht', tl_set hv ho]) hoo] at hP'
  exact kk H' _ ls ⟨by rw [e2, hsz, hz], hP', hS0.put e2 e3 (by show B.2 ≤ B.2 + a; omega), hG⟩ hL
theorem tkd_tag {t k : Nat} {q : Nat × Nat × Nat × Nat} (h : tkd t k = q) (h9 : q.1 ≠ 9) : k < (tkl t).length := by
  rcases Nat.lt_or_ge k (tkl t).length with hl | hl
  · exact hl
  · have : tkd t k = (9, 0, 0, 0) := by simp [tkd, List.getD_eq_getElem?_getD, List.getElem?_eq_none hl]
    rw [this] at h
    exact absurd (by rw [← h]) h9
end RW
