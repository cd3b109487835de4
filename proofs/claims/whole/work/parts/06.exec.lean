theorem tfv_i {b : Nat} {S : tSH} {I : tHI} {J : tHJ} {a k : Nat} (h : (tkd (sT S a) k).1 = 0 ∨ (tkd (sT S a) k).1 = 5) : tfv b S I J a k = .int (I a k) := by
  unfold tfv
  rw [if_pos h]
theorem tfv_l {b : Nat} {S : tSH} {I : tHI} {J : tHJ} {a k : Nat} (h : (tkd (sT S a) k).1 = 1) : tfv b S I J a k = .long (J a k) := by
  unfold tfv
  rw [if_neg (by omega), if_pos h]
theorem tfv_q {b : Nat} {S : tSH} {I : tHI} {J : tHJ} {a k : Nat} (h : (tkd (sT S a) k).1 = 2) : tfv b S I J a k = va_rf ((sQ S a k).map (fun x => b + x)) := by
  unfold tfv
  rw [if_neg (by omega), if_neg (by omega), if_pos h]
theorem tfv_f {b : Nat} {S : tSH} {I : tHI} {J : tHJ} {a k : Nat} (h : (tkd (sT S a) k).1 = 3) : tfv b S I J a k = .ref (b + (a + (tkd (sT S a) k).2.1)) := by
  unfold tfv
  rw [if_neg (by omega), if_neg (by omega), if_neg (by omega), if_pos h]
theorem tfv_c {b : Nat} {S : tSH} {I : tHI} {J : tHJ} {a k : Nat} (h : (tkd (sT S a) k).1 = 4) : tfv b S I J a k = .ref (b + (tkd (sT S a) k).2.1) := by
  unfold tfv
  rw [if_neg (by omega), if_neg (by omega), if_neg (by omega), if_neg (by omega)]
section RX
variable {K : tK} {B : tB} {own : String} {cc : ByteArray} {nL cl sl : Nat} {S : tSH} {I : tHI} {J : tHJ} {pc : Nat} {L : List (Option tSV)} {st : List tSV}
-- arrays
theorem s_iald (hO : tKO K B own cc nL) {a : Nat} {i : Int32} (ht : ty S a 40) (hin : vp_in i (sL S a)) (hd : decode cc pc = .ok (.iaload, 1)) (kk : tWG K B cl sl S I J (pc + 1) L (vI (I a i.toNatClampNeg) :: st)) : tWG K B cl sl S I J pc L (vI i :: vR a :: st) := by
  intro H locs ls hR hL
  have he := twl_get (B := B) (S := S) (I := I) (J := J) ht.1
  rw [tcell_40 ht.2] at he
  exact va_iald hO.1 hO.2.1 hO.2.2.2.2.2.1 hR.2.1 a 0 he rfl hin hd (kk H locs ls hR hL)
theorem s_zald (hO : tKO K B own cc nL) {a : Nat} {i : Int32} (ht : ty S a 41) (hin : vp_in i (sL S a)) (hd : decode cc pc = .ok (.baload, 1)) (kk : tWG K B cl sl S I J (pc + 1) L (vI (I a i.toNatClampNeg) :: st)) : tWG K B cl sl S I J pc L (vI i :: vR a :: st) := by
  intro H locs ls hR hL
  have he := twl_get (B := B) (S := S) (I := I) (J := J) ht.1
  rw [tcell_41 ht.2] at he
  exact va_zald hO.1 hO.2.1 hO.2.2.2.2.2.1 hR.2.1 a 1 he rfl hin hd (kk H locs ls hR hL)
theorem s_lald (hO : tKO K B own cc nL) {a : Nat} {i : Int32} (ht : ty S a 42) (hin : vp_in i (sL S a)) (hd : decode cc pc = .ok (.laload, 1)) (kk : tWG K B cl sl S I J (pc + 1) L (vL (J a i.toNatClampNeg) :: st)) : tWG K B cl sl S I J pc L (vI i :: vR a :: st) := by
  intro H locs ls hR hL
  have he := twl_get (B := B) (S := S) (I := I) (J := J) ht.1
  rw [tcell_42 ht.2] at he
  exact va_lald hO.1 hO.2.1 hO.2.2.2.2.2.1 hR.2.1 a 2 he rfl hin hd (kk H locs ls hR hL)
theorem s_aald43 (hO : tKO K B own cc nL) {a : Nat} {i : Int32} (ht : ty S a 43) (hin : vp_in i (sL S a)) (hd : decode cc pc = .ok (.aaload, 1)) (kk : tWG K B cl sl S I J (pc + 1) L (vO (sQ S a i.toNatClampNeg) :: st)) : tWG K B cl sl S I J pc L (vI i :: vR a :: st) := by
  intro H locs ls hR hL
  have he := twl_get (B := B) (S := S) (I := I) (J := J) ht.1
  rw [tcell_43 ht.2] at he
  exact va_aldq hO.1 hO.2.1 hO.2.2.2.2.2.1 hR.2.1 a 3 he rfl hin hd (kk H locs ls hR hL)
theorem s_aald44 (hO : tKO K B own cc nL) {a : Nat} {i : Int32} (ht : ty S a 44) (hin : vp_in i (sL S a)) (hd : decode cc pc = .ok (.aaload, 1)) (kk : tWG K B cl sl S I J (pc + 1) L (vO (sQ S a i.toNatClampNeg) :: st)) : tWG K B cl sl S I J pc L (vI i :: vR a :: st) := by
  intro H locs ls hR hL
  have he := twl_get (B := B) (S := S) (I := I) (J := J) ht.1
  rw [tcell_44 ht.2] at he
  exact va_aldq hO.1 hO.2.1 hO.2.2.2.2.2.1 hR.2.1 a 4 he rfl hin hd (kk H locs ls hR hL)
theorem s_alen (hO : tKO K B own cc nL) {a : Nat} (ht : ty S a 40) (hd : decode cc pc = .ok (.arraylength, 1)) (kk : tWG K B cl sl S I J (pc + 1) L (vI (Int32.ofNat (sL S a)) :: st)) : tWG K B cl sl S I J pc L (vR a :: st) := by
  intro H locs ls hR hL
  have he := twl_get (B := B) (S := S) (I := I) (J := J) ht.1
  rw [tcell_40 ht.2] at he
  exact va_alen hO.1 hO.2.1 hO.2.2.2.2.2.1 hR.2.1 a 0 he rfl rfl hd (kk H locs ls hR hL)
theorem s_alen42 (hO : tKO K B own cc nL) {a : Nat} (ht : ty S a 42) (hd : decode cc pc = .ok (.arraylength, 1)) (kk : tWG K B cl sl S I J (pc + 1) L (vI (Int32.ofNat (sL S a)) :: st)) : tWG K B cl sl S I J pc L (vR a :: st) := by
  intro H locs ls hR hL
  have he := twl_get (B := B) (S := S) (I := I) (J := J) ht.1
  rw [tcell_42 ht.2] at he
  exact va_alen hO.1 hO.2.1 hO.2.2.2.2.2.1 hR.2.1 a 2 he rfl rfl hd (kk H locs ls hR hL)
theorem s_iast (hO : tKO K B own cc nL) {a : Nat} {i x : Int32} (ht : ty S a 40) (hin : vp_in i (sL S a)) (hd : decode cc pc = .ok (.iastore, 1)) (kk : tWG K B cl sl S (uI I a i.toNatClampNeg x) J (pc + 1) L st) : tWG K B cl sl S I J pc L (vI x :: vI i :: vR a :: st) := by
  intro H locs ls hR hL
  obtain ⟨hx, hb, -, hown, hts, hK, -, -⟩ := hO
  obtain ⟨hsz, hP, hS0, hG⟩ := hR
  have ha := twl_get (B := B) (S := S) (I := I) (J := J) ht.1
  rw [tcell_40 ht.2] at ha
  refine W.iast hx hb (hP a _ ha) ((hK.2 0 _ rfl).1 (sL S a) (fun j => .int (I a j))) (fun q => by cases q) (by show ¬ (i < 0 ∨ (arrV _ _ _).slots.size ≤ _); rw [arrV_size]; exact hin) rfl rfl hd fun H1 e z oq => ?_
  have hP' := hP.set (twl_D (B := B) (S := S) (I := I) (J := J)) ha (e := .inl (B.1.2.1, sL S a, .inl (fun j => uI I a i.toNatClampNeg x a j))) (by
    show H1[B.2 + a]? = some (vp_cell _ _)
    rw [e]
    rw [vp_cell_i, vp_cell_i, arrV_store]
    congr 2
    funext q
    by_cases hq : q = i.toNatClampNeg
    · subst hq
      simp [updV, uI]
    · simp [updV, uI, hq]) oq
  rw [twl_set (S' := S) (I' := uI I a i.toNatClampNeg x) (J' := J) rfl (by rw [tcell_40 ht.2]) (fun y hy => tcell_I hy)] at hP'
  exact kk H1 _ ls ⟨by rw [z, hsz], hP', hS0.put z oq (by show B.2 ≤ B.2 + a; omega), hG⟩ hL
def bz (x : Int32) : Prop := x = 0 ∨ x = 1
theorem bz_n {x : Int32} (h : bz x) : narrow .boolean (.int x) = .int x ∧ fits .boolean (.int x) = true ∧ vp_nar .boolean x = x := by
  rcases h with rfl | rfl <;> exact ⟨rfl, rfl, rfl⟩
theorem s_zast (hO : tKO K B own cc nL) {a : Nat} {i x : Int32} (ht : ty S a 41) (hin : vp_in i (sL S a)) (hz : bz x) (hd : decode cc pc = .ok (.bastore, 1)) (kk : tWG K B cl sl S (uI I a i.toNatClampNeg x) J (pc + 1) L st) : tWG K B cl sl S I J pc L (vI x :: vI i :: vR a :: st) := by
  intro H locs ls hR hL
  obtain ⟨hx, hb, -, hown, hts, hK, -, -⟩ := hO
  obtain ⟨hsz, hP, hS0, hG⟩ := hR
  have ha := twl_get (B := B) (S := S) (I := I) (J := J) ht.1
  rw [tcell_41 ht.2] at ha
  refine W.zast hx hb (hP a _ ha) ((hK.2 1 _ rfl).1 (sL S a) (fun j => .int (I a j))) (fun q => by cases q) (by show ¬ (i < 0 ∨ (arrV _ _ _).slots.size ≤ _); rw [arrV_size]; exact hin) rfl rfl hd fun H1 e z oq => ?_
  have hP' := hP.set (twl_D (B := B) (S := S) (I := I) (J := J)) ha (e := .inl (B.1.2.2.1, sL S a, .inl (fun j => uI I a i.toNatClampNeg x a j))) (by
    show H1[B.2 + a]? = some (vp_cell _ _)
    rw [e]
    rw [vp_cell_i, vp_cell_i, arrV_store]
    congr 2
    funext q
    by_cases hq : q = i.toNatClampNeg
    · subst hq
      rcases hz with rfl | rfl <;> simp [updV, uI, narrow]
    · simp [updV, uI, hq]) oq
  rw [twl_set (S' := S) (I' := uI I a i.toNatClampNeg x) (J' := J) rfl (by rw [tcell_41 ht.2]) (fun y hy => tcell_I hy)] at hP'
  exact kk H1 _ ls ⟨by rw [z, hsz], hP', hS0.put z oq (by show B.2 ≤ B.2 + a; omega), hG⟩ hL
theorem s_last (hO : tKO K B own cc nL) {a : Nat} {i : Int32} {x : Int64} (ht : ty S a 42) (hin : vp_in i (sL S a)) (hd : decode cc pc = .ok (.lastore, 1)) (kk : tWG K B cl sl S I (uJ J a i.toNatClampNeg x) (pc + 1) L st) : tWG K B cl sl S I J pc L (vL x :: vI i :: vR a :: st) := by
  intro H locs ls hR hL
  obtain ⟨hx, hb, -, hown, hts, hK, -, -⟩ := hO
  obtain ⟨hsz, hP, hS0, hG⟩ := hR
  have ha := twl_get (B := B) (S := S) (I := I) (J := J) ht.1
  rw [tcell_42 ht.2] at ha
  refine W.last hx hb (hP a _ ha) ((hK.2 2 _ rfl).1 (sL S a) (fun j => .long (J a j))) (fun q => by cases q) (by show ¬ (i < 0 ∨ (arrV _ _ _).slots.size ≤ _); rw [arrV_size]; exact hin) rfl rfl hd fun H1 e z oq => ?_
  have hP' := hP.set (twl_D (B := B) (S := S) (I := I) (J := J)) ha (e := .inl (B.1.2.2.2.1, sL S a, .inr (.inl (fun j => uJ J a i.toNatClampNeg x a j)))) (by
    show H1[B.2 + a]? = some (vp_cell _ _)
    rw [e]
    rw [vp_cell_l, vp_cell_l, arrV_store]
    congr 2
    funext q
    by_cases hq : q = i.toNatClampNeg
    · subst hq
      simp [updV, uJ]
    · simp [updV, uJ, hq]) oq
  rw [twl_set (S' := S) (I' := I) (J' := uJ J a i.toNatClampNeg x) rfl (by rw [tcell_42 ht.2]) (fun y hy => tcell_J hy)] at hP'
  exact kk H1 _ ls ⟨by rw [z, hsz], hP', hS0.put z oq (by show B.2 ≤ B.2 + a; omega), hG⟩ hL
theorem s_puti (hO : tKO K B own cc nL) {a t k i x : Nat} {v : Int32} (ht : ty S a t) (hk : k < (tkl t).length) (h0 : (tkd t k).1 = 0) (hw : wsL_law[i]? = some (Cond.fieldLink own x ((tCl (t % 20)).2.1 k).1 ((tCl (t % 20)).2.1 k).2.1 ((tCl (t % 20)).2.1 k).2.2.1)) (hfd : ((tCl (t % 20)).2.1 k).2.2 = ("I", false)) (hd : decode cc pc = .ok (.putfield x, 3)) (kk : tWG K B cl sl S (uI I a k v) J (pc + 3) L st) : tWG K B cl sl S I J pc L (vI v :: vR a :: st) := by
  intro H locs ls hR hL
  have hG := hR.2.2.2
  refine s_putf (v := vI v) hO ht hk hw hd (by rw [hfd]) (ft := .int) (by rw [hfd]; rfl) rfl rfl (S' := S) (I' := uI I a k v) (J' := J) rfl ht.2 ?_ ?_ (fun y hy => tcell_I hy) hG kk H locs ls hR hL
  · rw [tfv_i (by rw [ht.2]; omega)]
    simp [uI, tvv]
  · intro j hj
    simp [tfv, uI, hj]
theorem s_putz (hO : tKO K B own cc nL) {a t k i x : Nat} {v : Int32} (ht : ty S a t) (hk : k < (tkl t).length) (h0 : (tkd t k).1 = 5) (hw : wsL_law[i]? = some (Cond.fieldLink own x ((tCl (t % 20)).2.1 k).1 ((tCl (t % 20)).2.1 k).2.1 ((tCl (t % 20)).2.1 k).2.2.1)) (hfd : ((tCl (t % 20)).2.1 k).2.2 = ("Z", false)) (hz : bz v) (hd : decode cc pc = .ok (.putfield x, 3)) (kk : tWG K B cl sl S (uI I a k v) J (pc + 3) L st) : tWG K B cl sl S I J pc L (vI v :: vR a :: st) := by
  intro H locs ls hR hL
  have hG := hR.2.2.2
  refine s_putf (v := vI v) hO ht hk hw hd (by rw [hfd]) (ft := .boolean) (by rw [hfd]; rfl) (bz_n hz).1 (bz_n hz).2.1 (S' := S) (I' := uI I a k v) (J' := J) rfl ht.2 ?_ ?_ (fun y hy => tcell_I hy) hG kk H locs ls hR hL
  · rw [tfv_i (by rw [ht.2]; omega)]
    simp [uI, tvv]
  · intro j hj
    simp [tfv, uI, hj]
theorem s_putl (hO : tKO K B own cc nL) {a t k i x : Nat} {v : Int64} (ht : ty S a t) (hk : k < (tkl t).length) (h0 : (tkd t k).1 = 1) (hw : wsL_law[i]? = some (Cond.fieldLink own x ((tCl (t % 20)).2.1 k).1 ((tCl (t % 20)).2.1 k).2.1 ((tCl (t % 20)).2.1 k).2.2.1)) (hfd : ((tCl (t % 20)).2.1 k).2.2 = ("J", false)) (hd : decode cc pc = .ok (.putfield x, 3)) (kk : tWG K B cl sl S I (uJ J a k v) (pc + 3) L st) : tWG K B cl sl S I J pc L (vL v :: vR a :: st) := by
  intro H locs ls hR hL
  have hG := hR.2.2.2
  refine s_putf (v := vL v) hO ht hk hw hd (by rw [hfd]) (ft := .long) (by rw [hfd]; rfl) rfl rfl (S' := S) (I' := I) (J' := uJ J a k v) rfl ht.2 ?_ ?_ (fun y hy => tcell_J hy) hG kk H locs ls hR hL
  · rw [tfv_l (by rw [ht.2]; exact h0)]
    simp [uJ, tvv]
  · intro j hj
    simp [tfv, uJ, hj]
-- straight stretches
abbrev tLs : Type := List (Option tSV)
abbrev tKt : Type := List (Option tSV) → List tSV → tHI → tHJ → Prop
abbrev tOp : Type := Instr × (Nat × Nat × Nat × Nat) × Int32 × Int64
def xI (L : tLs) (st : List tSV) (I : tHI) (J : tHJ) (v : Option (Option tSV)) (k : tKt) : Prop := match v with
  | some (some (.inl w)) => k L (vI w :: st) I J
  | _ => False
def xL (L : tLs) (st : List tSV) (I : tHI) (J : tHJ) (v : Option (Option tSV)) (k : tKt) : Prop := match v with
  | some (some (.inr (.inl w))) => k L (vL w :: st) I J
  | _ => False
def xA (L : tLs) (st : List tSV) (I : tHI) (J : tHJ) (v : Option (Option tSV)) (k : tKt) : Prop := match v with
  | some (some (.inr (.inr (.inl (some a))))) => k L (vR a :: st) I J
  | some (some (.inr (.inr (.inl none)))) => k L (vN :: st) I J
  | some (some (.inr (.inr (.inr p)))) => k L (vA p :: st) I J
  | _ => False
def xSI (L : tLs) (st : List tSV) (I : tHI) (J : tHJ) (i : Nat) (k : tKt) : Prop := match st with
  | .inl w :: r => i < L.length ∧ k (tst1 L i (vI w)) r I J
  | _ => False
def xSL (L : tLs) (st : List tSV) (I : tHI) (J : tHJ) (i : Nat) (k : tKt) : Prop := match st with
  | .inr (.inl w) :: r => i + 1 < L.length ∧ k (tst2 L i (vL w)) r I J
  | _ => False
def xSA (L : tLs) (st : List tSV) (I : tHI) (J : tHJ) (i : Nat) (k : tKt) : Prop := match st with
  | .inr (.inr (.inl (some a))) :: r => i < L.length ∧ k (tst1 L i (vR a)) r I J
  | .inr (.inr (.inl none)) :: r => i < L.length ∧ k (tst1 L i vN) r I J
  | _ => False
def x2 (L : tLs) (st : List tSV) (I : tHI) (J : tHJ) (f : Int32 → Int32 → Int32) (k : tKt) : Prop := match st with
  | .inl y :: .inl z :: r => k L (vI (f z y) :: r) I J
  | _ => False
def x2n (L : tLs) (st : List tSV) (I : tHI) (J : tHJ) (f : Int32 → Int32 → Int32) (k : tKt) : Prop := match st with
  | .inl y :: .inl z :: r => ¬ y = 0 ∧ k L (vI (f z y) :: r) I J
  | _ => False
def xl2 (L : tLs) (st : List tSV) (I : tHI) (J : tHJ) (f : Int64 → Int64 → Int64) (k : tKt) : Prop := match st with
  | .inr (.inl y) :: .inr (.inl z) :: r => k L (vL (f z y) :: r) I J
  | _ => False
def xl2n (L : tLs) (st : List tSV) (I : tHI) (J : tHJ) (f : Int64 → Int64 → Int64) (k : tKt) : Prop := match st with
  | .inr (.inl y) :: .inr (.inl z) :: r => ¬ y = 0 ∧ k L (vL (f z y) :: r) I J
  | _ => False
def xGet (S : tSH) (L : tLs) (st : List tSV) (I : tHI) (J : tHJ) (t n q : Nat) (k : tKt) : Prop := match st with
  | .inr (.inr (.inl (some a))) :: r => ty S a t ∧ (match (tkd t n).1 with
    | 0 => k L (vI (I a n) :: r) I J
    | 5 => k L (vI (I a n) :: r) I J
    | 1 => k L (vL (J a n) :: r) I J
    | 2 => k L (vO (sQ S a n) :: r) I J
    | 3 => (match Nat.beq q 0 with
      | true => k L (vR (a + (tkd t n).2.1) :: r) I J
      | false => q = a + (tkd t n).2.1 ∧ k L (vR q :: r) I J)
    | 4 => q = (tkd t n).2.1 ∧ k L (vR q :: r) I J
    | _ => False)
  | _ => False
def xPut (S : tSH) (L : tLs) (st : List tSV) (I : tHI) (J : tHJ) (t n : Nat) (k : tKt) : Prop := match (tkd t n).1, st with
  | 0, .inl v :: .inr (.inr (.inl (some a))) :: r => ty S a t ∧ k L r (uI I a n v) J
  | 5, .inl v :: .inr (.inr (.inl (some a))) :: r => ty S a t ∧ bz v ∧ k L r (uI I a n v) J
  | 1, .inr (.inl v) :: .inr (.inr (.inl (some a))) :: r => ty S a t ∧ k L r I (uJ J a n v)
  | _, _ => False
def xneg (L : tLs) (st : List tSV) (I : tHI) (J : tHJ) (k : tKt) : Prop := match st with
  | .inl y :: r => k L (vI (-y) :: r) I J
  | _ => False
def xi2l (L : tLs) (st : List tSV) (I : tHI) (J : tHJ) (k : tKt) : Prop := match st with
  | .inl y :: r => k L (vL y.toInt64 :: r) I J
  | _ => False
def xl2i (L : tLs) (st : List tSV) (I : tHI) (J : tHJ) (k : tKt) : Prop := match st with
  | .inr (.inl y) :: r => k L (vI y.toInt32 :: r) I J
  | _ => False
def xcmp (L : tLs) (st : List tSV) (I : tHI) (J : tHJ) (k : tKt) : Prop := match st with
  | .inr (.inl y) :: .inr (.inl z) :: r => k L (vI (lg_cmp z y) :: r) I J
  | _ => False
def xpop (L : tLs) (st : List tSV) (I : tHI) (J : tHJ) (k : tKt) : Prop := match st with
  | .inl _ :: r => k L r I J
  | _ => False
def xdup2 (L : tLs) (st : List tSV) (I : tHI) (J : tHJ) (k : tKt) : Prop := match st with
  | .inl y :: .inr (.inr z) :: r => k L (vI y :: .inr (.inr z) :: vI y :: .inr (.inr z) :: r) I J
  | _ => False
def xdup (L : tLs) (st : List tSV) (I : tHI) (J : tHJ) (k : tKt) : Prop := match st with
  | .inl y :: r => k L (vI y :: vI y :: r) I J
  | .inr (.inr y) :: r => k L (.inr (.inr y) :: .inr (.inr y) :: r) I J
  | _ => False
def xiald (S : tSH) (L : tLs) (st : List tSV) (I : tHI) (J : tHJ) (k : tKt) : Prop := match st with
  | .inl i :: .inr (.inr (.inl (some a))) :: r => ty S a 40 ∧ vp_in i (sL S a) ∧ k L (vI (I a i.toNatClampNeg) :: r) I J
  | _ => False
def xzald (S : tSH) (L : tLs) (st : List tSV) (I : tHI) (J : tHJ) (k : tKt) : Prop := match st with
  | .inl i :: .inr (.inr (.inl (some a))) :: r => ty S a 41 ∧ vp_in i (sL S a) ∧ k L (vI (I a i.toNatClampNeg) :: r) I J
  | _ => False
def xlald (S : tSH) (L : tLs) (st : List tSV) (I : tHI) (J : tHJ) (k : tKt) : Prop := match st with
  | .inl i :: .inr (.inr (.inl (some a))) :: r => ty S a 42 ∧ vp_in i (sL S a) ∧ k L (vL (J a i.toNatClampNeg) :: r) I J
  | _ => False
def xiast (S : tSH) (L : tLs) (st : List tSV) (I : tHI) (J : tHJ) (k : tKt) : Prop := match st with
  | .inl v :: .inl i :: .inr (.inr (.inl (some a))) :: r => ty S a 40 ∧ vp_in i (sL S a) ∧ k L r (uI I a i.toNatClampNeg v) J
  | _ => False
def xzast (S : tSH) (L : tLs) (st : List tSV) (I : tHI) (J : tHJ) (k : tKt) : Prop := match st with
  | .inl v :: .inl i :: .inr (.inr (.inl (some a))) :: r => ty S a 41 ∧ vp_in i (sL S a) ∧ bz v ∧ k L r (uI I a i.toNatClampNeg v) J
  | _ => False
def xlast (S : tSH) (L : tLs) (st : List tSV) (I : tHI) (J : tHJ) (k : tKt) : Prop := match st with
  | .inr (.inl v) :: .inl i :: .inr (.inr (.inl (some a))) :: r => ty S a 42 ∧ vp_in i (sL S a) ∧ k L r I (uJ J a i.toNatClampNeg v)
  | _ => False
def xinc (L : tLs) (st : List tSV) (I : tHI) (J : tHJ) (i : Nat) (c : Int32) (k : tKt) : Prop := match L[i]? with
  | some (some (.inl w)) => k (tst1 L i (vI (w + c))) st I J
  | _ => False
def xaald (S : tSH) (L : tLs) (st : List tSV) (I : tHI) (J : tHJ) (t : Nat) (k : tKt) : Prop := match t, st with
  | 43, .inl i :: .inr (.inr (.inl (some a))) :: r => ty S a 43 ∧ vp_in i (sL S a) ∧ k L (vO (sQ S a i.toNatClampNeg) :: r) I J
  | 44, .inl i :: .inr (.inr (.inl (some a))) :: r => ty S a 44 ∧ vp_in i (sL S a) ∧ k L (vO (sQ S a i.toNatClampNeg) :: r) I J
  | _, _ => False
def xalen (S : tSH) (L : tLs) (st : List tSV) (I : tHI) (J : tHJ) (t : Nat) (k : tKt) : Prop := match t, st with
  | 42, .inr (.inr (.inl (some a))) :: r => ty S a 42 ∧ k L (vI (Int32.ofNat (sL S a)) :: r) I J
  | 40, .inr (.inr (.inl (some a))) :: r => ty S a 40 ∧ k L (vI (Int32.ofNat (sL S a)) :: r) I J
  | _, _ => False
def tex1 (S : tSH) (o : tOp) (L : tLs) (st : List tSV) (I : tHI) (J : tHJ) (k : tKt) : Prop := match o.1 with
  | .iload i => xI L st I J L[i]? k
  | .iload_n i => xI L st I J L[(i : Nat)]? k
  | .lload i => xL L st I J L[i]? k
  | .lload_n i => xL L st I J L[(i : Nat)]? k
  | .aload i => xA L st I J L[i]? k
  | .aload_n i => xA L st I J L[(i : Nat)]? k
  | .istore i => xSI L st I J i k
  | .istore_n i => xSI L st I J i k
  | .lstore i => xSL L st I J i k
  | .lstore_n i => xSL L st I J i k
  | .astore i => xSA L st I J i k
  | .astore_n i => xSA L st I J i k
  | .iinc i _ => xinc L st I J i o.2.2.1 k
  | .iconst _ => k L (vI o.2.2.1 :: st) I J
  | .bipush _ => k L (vI o.2.2.1 :: st) I J
  | .sipush _ => k L (vI o.2.2.1 :: st) I J
  | .ldc _ => k L (vI o.2.2.1 :: st) I J
  | .ldc_w _ => k L (vI o.2.2.1 :: st) I J
  | .lconst _ => k L (vL o.2.2.2 :: st) I J
  | .ldc2_w _ => k L (vL o.2.2.2 :: st) I J
  | .aconst_null => k L (vN :: st) I J
  | .iadd => x2 L st I J (fun a b => a + b) k
  | .isub => x2 L st I J (fun a b => a - b) k
  | .imul => x2 L st I J (fun a b => a * b) k
  | .idiv => x2n L st I J (fun a b => a / b) k
  | .irem => x2n L st I J (fun a b => a - a / b * b) k
  | .ishl => x2 L st I J (fun a b => a <<< (b &&& 31)) k
  | .ishr => x2 L st I J (fun a b => a >>> (b &&& 31)) k
  | .iushr => x2 L st I J (fun a b => (a.toUInt32 >>> (b.toUInt32 &&& Int32.toUInt32 31)).toInt32) k
  | .iand => x2 L st I J (fun a b => a &&& b) k
  | .ladd => xl2 L st I J (fun a b => a + b) k
  | .lsub => xl2 L st I J (fun a b => a - b) k
  | .lmul => xl2 L st I J (fun a b => a * b) k
  | .ldiv => xl2n L st I J (fun a b => a / b) k
  | .lrem => xl2n L st I J (fun a b => a - a / b * b) k
  | .ineg => xneg L st I J k
  | .i2l => xi2l L st I J k
  | .l2i => xl2i L st I J k
  | .lcmp => xcmp L st I J k
  | .dup => xdup L st I J k
  | .dup2 => xdup2 L st I J k
  | .pop => xpop L st I J k
  | .goto _ => k L st I J
  | .getfield _ => xGet S L st I J o.2.1.1 o.2.1.2.1 o.2.1.2.2.2 k
  | .putfield _ => xPut S L st I J o.2.1.1 o.2.1.2.1 k
  | .iaload => xiald S L st I J k
  | .baload => xzald S L st I J k
  | .laload => xlald S L st I J k
  | .aaload => xaald S L st I J o.2.1.1 k
  | .iastore => xiast S L st I J k
  | .bastore => xzast S L st I J k
  | .lastore => xlast S L st I J k
  | .arraylength => xalen S L st I J o.2.1.1 k
  | _ => False
def texs (S : tSH) : List tOp → tLs → List tSV → tHI → tHJ → tKt → Prop
  | [], L, st, I, J, k => k L st I J
  | o :: r, L, st, I, J, k => tex1 S o L st I J (fun L2 st2 I2 J2 => texs S r L2 st2 I2 J2 k)
def tlen (i : Instr) : Nat := match i with
  | .iload _ => 2 | .lload _ => 2 | .aload _ => 2 | .istore _ => 2 | .lstore _ => 2 | .astore _ => 2 | .bipush _ => 2 | .ldc _ => 2
  | .iinc _ _ => 3 | .sipush _ => 3 | .ldc_w _ => 3 | .ldc2_w _ => 3 | .goto _ => 3 | .getfield _ => 3 | .putfield _ => 3
  | _ => 1
def tnx (i : Instr) (pc : Nat) : Nat := match i with
  | .goto off => ((pc : Int) + off).toNat
  | i => pc + tlen i
def tfw (own : String) (o : tOp) (x : Nat) : Bool := decide (wsL_law[o.2.1.2.2.1]? = some (Cond.fieldLink own x ((tCl (o.2.1.1 % 20)).2.1 o.2.1.2.1).1 ((tCl (o.2.1.1 % 20)).2.1 o.2.1.2.1).2.1 ((tCl (o.2.1.1 % 20)).2.1 o.2.1.2.1).2.2.1)) && decide (o.2.1.2.1 < (tkl o.2.1.1).length)
def twk (own : String) (o : tOp) (pc : Nat) : Bool := match o.1 with
  | .iinc _ n => decide (Int32.ofInt n = o.2.2.1)
  | .iconst n => decide (Int32.ofInt n = o.2.2.1)
  | .bipush n => decide ((Int8.ofInt n).toInt32 = o.2.2.1)
  | .sipush n => decide ((Int16.ofInt n).toInt32 = o.2.2.1)
  | .ldc i => decide (wsL_law[o.2.1.2.2.1]? = some (Cond.constant own i o.2.2.1))
  | .ldc_w i => decide (wsL_law[o.2.1.2.2.1]? = some (Cond.constant own i o.2.2.1))
  | .ldc2_w i => decide (wsL_law[o.2.1.2.2.1]? = some (Cond.constantLong own i o.2.2.2))
  | .lconst n => decide (Int64.ofNat (n : Nat) = o.2.2.2)
  | .goto off => decide (0 ≤ (pc : Int) + off)
  | .getfield x => tfw own o x
  | .putfield x => tfw own o x && match (tkd o.2.1.1 o.2.1.2.1).1 with
    | 0 => decide (((tCl (o.2.1.1 % 20)).2.1 o.2.1.2.1).2.2 = ("I", false))
    | 5 => decide (((tCl (o.2.1.1 % 20)).2.1 o.2.1.2.1).2.2 = ("Z", false))
    | 1 => decide (((tCl (o.2.1.1 % 20)).2.1 o.2.1.2.1).2.2 = ("J", false))
    | _ => false
  | _ => true
def tok (own : String) (cc : ByteArray) : List tOp → Nat → Nat → Bool
  | [], pc, pe => decide (pc = pe)
  | o :: r, pc, pe => decide (decode cc pc = .ok (o.1, tlen o.1)) && twk own o pc && tok own cc r (tnx o.1 pc) pe
end RX
