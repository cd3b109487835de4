theorem tGr_uQ {S : tSH} {a k : Nat} {v : Option Nat} (hG : tGr S) (h : ∀ t, ty S a t → ∀ x, v = some x → (t < 20 → (tkd t k).1 = 2 → ty S x (tkd t k).2.2.1) ∧ (t = 43 → ty S x 8) ∧ (t = 44 → ty S x 6)) : tGr (uQ S a k v) := by
  intro b t hb
  have hb' : ty S b t := hb
  obtain ⟨h1, h2, h3⟩ := hG b t hb'
  have key : ∀ j x, sQ (uQ S a k v) b j = some x → (b = a ∧ j = k ∧ v = some x) ∨ sQ S b j = some x := by
    intro j x hx
    by_cases e : b = a ∧ j = k
    · left
      exact ⟨e.1, e.2, by simpa [uQ, sQ, e] using hx⟩
    · right
      simpa [uQ, sQ, e] using hx
  refine ⟨fun j hj => ⟨(h1 j hj).1, (h1 j hj).2.1, fun h20 hk x hx => ?_⟩, fun e j x hx => ?_, fun e j x hx => ?_⟩
  · rcases key j x hx with ⟨rfl, rfl, q⟩ | q
    · exact (h t hb' x q).1 hk h20
    · exact (h1 j hj).2.2 h20 hk x q
  · rcases key j x hx with ⟨rfl, rfl, q⟩ | q
    · exact (h t hb' x q).2.1 e
    · exact h2 e j x q
  · rcases key j x hx with ⟨rfl, rfl, q⟩ | q
    · exact (h t hb' x q).2.2 e
    · exact h3 e j x q
theorem ty_uS {S : tSH} {t n a g : Nat} (h : ty S a g) : ty (uS S t n) a g := by
  obtain ⟨h1, h2⟩ := h
  refine ⟨by show a < sZ S + 1; omega, ?_⟩
  show (if a = sZ S then t else sT S a) = g
  rw [if_neg (by omega)]
  exact h2
theorem sL_uS {S : tSH} {t n a g m : Nat} (h : ty S a g) (e : sL S a = m) : sL (uS S t n) a = m := by
  show (if a = sZ S then n else sL S a) = m
  rw [if_neg (by have := h.1; omega)]
  exact e
theorem ty_new {S : tSH} {t n : Nat} : ty (uS S t n) (sZ S) t := ⟨by show sZ S < sZ S + 1; omega, by show (if sZ S = sZ S then t else sT S (sZ S)) = t; rw [if_pos rfl]⟩
theorem tGr_uS {S : tSH} {t n : Nat} (hG : tGr S) (ht : 20 ≤ t) (hk : ∀ k, (tkd t k).1 ≠ 3 ∧ (tkd t k).1 ≠ 4) : tGr (uS S t n) := by
  intro b g hb
  by_cases e : b = sZ S
  · subst e
    have hg : g = t := by
      have := hb.2
      simpa [uS, sT] using this.symm
    subst hg
    have hq : ∀ j, sQ (uS S g n) (sZ S) j = none := fun j => by simp [uS, sQ]
    exact ⟨fun j hj => ⟨fun q => absurd q (hk j).1, fun q => absurd q (hk j).2, fun _ h20 => (by omega)⟩, fun _ j x hx => (by rw [hq j] at hx; cases hx), fun _ j x hx => (by rw [hq j] at hx; cases hx)⟩
  · have hb' : ty S b g := by
      obtain ⟨h1, h2⟩ := hb
      have h1 : b < sZ S + 1 := h1
      have h2 : (if b = sZ S then t else sT S b) = g := h2
      rw [if_neg e] at h2
      exact ⟨by omega, h2⟩
    obtain ⟨h1, h2, h3⟩ := hG b g hb'
    have hq : ∀ j, sQ (uS S t n) b j = sQ S b j := fun j => by
      show (if b = sZ S then none else sQ S b j) = _
      rw [if_neg e]
    refine ⟨fun j hj => ⟨fun q => ⟨ty_uS ((h1 j hj).1 q).1, fun q2 => ?_⟩, fun q => ty_uS ((h1 j hj).2.1 q), fun q h20 x hx => ty_uS ((h1 j hj).2.2 q h20 x (by rw [← hq]; exact hx))⟩, fun e2 j x hx => ty_uS (h2 e2 j x (by rw [← hq]; exact hx)), fun e2 j x hx => ty_uS (h3 e2 j x (by rw [← hq]; exact hx))⟩
    exact sL_uS ((h1 j hj).1 q).1 (((h1 j hj).1 q).2 q2)
def tRdy (S : tSH) (a c : Nat) : Prop := ∀ k, k < (tkl c).length →
  ((tkd c k).1 = 3 → sQ S a k = some (a + (tkd c k).2.1) ∧ ty S (a + (tkd c k).2.1) (tkd c k).2.2.1 ∧ ((tkd c k).2.2.2 ≠ 0 → sL S (a + (tkd c k).2.1) = (tkd c k).2.2.2)) ∧
  ((tkd c k).1 = 4 → sQ S a k = some (tkd c k).2.1 ∧ ty S (tkd c k).2.1 (tkd c k).2.2.1) ∧
  ((tkd c k).1 = 2 → ∀ x, sQ S a k = some x → ty S x (tkd c k).2.2.1)
/-- the kinds of a class's fields, raw and made ready -/
def tklc (c : Nat) : Bool := decide ((tkl (20 + c)).length = (tkl c).length) && (List.range (tkl c).length).all (fun k => (!(decide ((tkd c k).1 ≤ 1) || decide ((tkd c k).1 = 5)) || decide ((tkd (20 + c) k).1 = (tkd c k).1)) && ((decide ((tkd c k).1 < 2) || decide ((tkd c k).1 = 5)) || decide ((tkd (20 + c) k).1 = 2)) && decide ((tkd c k).1 ≤ 5) && (decide ((tkd c k).2.2.1 < 20) || decide (40 ≤ (tkd c k).2.2.1)))
theorem tkl_raw : ∀ c, c < 13 → (tkl (20 + c)).length = (tkl c).length ∧ ∀ k, k < (tkl c).length → ((tkd c k).1 ≤ 1 ∨ (tkd c k).1 = 5 → (tkd (20 + c) k).1 = (tkd c k).1) ∧ (2 ≤ (tkd c k).1 → (tkd c k).1 ≠ 5 → (tkd (20 + c) k).1 = 2) ∧ (tkd c k).1 ≤ 5 ∧ ((tkd c k).1 = 3 ∨ (tkd c k).1 = 4 ∨ (tkd c k).1 = 2 → (tkd c k).2.2.1 < 20 ∨ 40 ≤ (tkd c k).2.2.1) := by
  have h : (List.range 13).all tklc = true := by decide +kernel
  intro c hc
  have h1 := List.all_eq_true.mp h c (List.mem_range.mpr hc)
  unfold tklc at h1
  rw [Bool.and_eq_true, decide_eq_true_eq, List.all_eq_true] at h1
  refine ⟨h1.1, fun k hk => ?_⟩
  have h2 := h1.2 k (List.mem_range.mpr hk)
  simp only [Bool.and_eq_true, Bool.or_eq_true, Bool.not_eq_true', Bool.or_eq_false_iff, decide_eq_true_eq, decide_eq_false_iff_not] at h2
  omega
theorem tkl_t : ∀ t, 0 < (tkl t).length → t < 33 ∧ (t < 13 ∨ 20 ≤ t) := by
  intro t
  unfold tkl
  split <;> intro h <;> first | exact ⟨by decide, by decide⟩ | exact absurd h (Nat.lt_irrefl 0)
theorem tkd_raw34 : ∀ t, 20 ≤ t → ∀ k, (tkd t k).1 ≠ 3 ∧ (tkd t k).1 ≠ 4 := by
  intro t ht k
  by_cases hk : k < (tkl t).length
  · obtain ⟨h1, h2⟩ := tkl_t t (by omega)
    obtain ⟨c, hc, rfl⟩ : ∃ c, c < 13 ∧ t = 20 + c := ⟨t - 20, by omega, by omega⟩
    obtain ⟨e, h⟩ := tkl_raw c hc
    have := h k (by omega)
    omega
  · have : tkd t k = (9, 0, 0, 0) := by simp [tkd, List.getD_eq_getElem?_getD, List.getElem?_eq_none (Nat.not_lt.mp hk)]
    rw [this]
    decide
theorem ty_uT {S : tSH} {a c b g : Nat} (hr : ty S a (20 + c)) (hc : c < 13) (h : ty S b g) (hg : g < 20 ∨ 40 ≤ g) : ty (uT S a c) b g := by
  have hne : b ≠ a := fun e => by
    subst e
    have := h.2.symm.trans hr.2
    omega
  exact ⟨h.1, by show (if b = a then c else S.2.1 b) = g; rw [if_neg hne]; exact h.2⟩
theorem ty_uTo {S : tSH} {a c b g : Nat} (h : ty S b g) (hne : b ≠ a) : ty (uT S a c) b g := ⟨h.1, by show (if b = a then c else S.2.1 b) = g; rw [if_neg hne]; exact h.2⟩
theorem ty_uTs {S : tSH} {a c g : Nat} (h : ty S a g) : ty (uT S a c) a c := ⟨h.1, by show (if a = a then c else S.2.1 a) = c; rw [if_pos rfl]⟩
theorem tGr_uT {S : tSH} {a c : Nat} (hG : tGr S) (hr : ty S a (20 + c)) (hc : c < 13) (h : tRdy S a c) : tGr (uT S a c) := by
  intro b g hb
  by_cases e : b = a
  · subst e
    have hg : g = c := by
      have h2 : (if b = b then c else S.2.1 b) = g := hb.2
      rw [if_pos rfl] at h2
      exact h2.symm
    subst hg
    obtain ⟨-, hk⟩ := tkl_raw g hc
    refine ⟨fun j hj => ?_, fun q => by omega, fun q => by omega⟩
    obtain ⟨k1, k2, k3, k4⟩ := hk j hj
    obtain ⟨h1, h2, h3⟩ := h j hj
    exact ⟨fun q => ⟨ty_uT hr hc (h1 q).2.1 (k4 (Or.inl q)), (h1 q).2.2⟩, fun q => ty_uT hr hc (h2 q).2 (k4 (Or.inr (Or.inl q))), fun q _ x hx => ty_uT hr hc (h3 q x hx) (k4 (Or.inr (Or.inr q)))⟩
  · have hb' : ty S b g := by
      have h2 : (if b = a then c else S.2.1 b) = g := hb.2
      rw [if_neg e] at h2
      exact ⟨hb.1, h2⟩
    obtain ⟨h1, h2, h3⟩ := hG b g hb'
    refine ⟨fun j hj => ?_, fun q j x hx => ty_uT hr hc (h2 q j x hx) (Or.inl (by decide)), fun q j x hx => ty_uT hr hc (h3 q j x hx) (Or.inl (by decide))⟩
    obtain ⟨g1, g2⟩ := tkl_t g (by omega)
    rcases g2 with g2 | g2
    · obtain ⟨-, hk⟩ := tkl_raw g g2
      obtain ⟨k1, k2, k3, k4⟩ := hk j hj
      exact ⟨fun q => ⟨ty_uT hr hc ((h1 j hj).1 q).1 (k4 (Or.inl q)), ((h1 j hj).1 q).2⟩, fun q => ty_uT hr hc ((h1 j hj).2.1 q) (k4 (Or.inr (Or.inl q))), fun q h20 x hx => ty_uT hr hc ((h1 j hj).2.2 q h20 x hx) (k4 (Or.inr (Or.inr q)))⟩
    · obtain ⟨n3, n4⟩ := tkd_raw34 g g2 j
      exact ⟨fun q => absurd q n3, fun q => absurd q n4, fun _ h20 => by omega⟩
section RR
variable {K : tK} {B : tB} {own : String} {cc : ByteArray} {nL cl sl : Nat} {S : tSH} {I : tHI} {J : tHJ} {pc : Nat} {L : List (Option tSV)} {st : List tSV}
theorem tcell_uT {a c : Nat} (hr : ty S a (20 + c)) (hc : c < 13) (h : tRdy S a c) (x : Nat) : tcell B (uT S a c) I J x = tcell B S I J x := by
  by_cases e : x = a
  · subst e
    have ht : sT (uT S x c) x = c := by simp [uT, sT]
    rw [tcell_o (by rw [ht]; omega), tcell_o (by rw [hr.2]; omega), ht, hr.2]
    obtain ⟨el, hk⟩ := tkl_raw c hc
    rw [show (20 + c) % 20 = c % 20 by omega, el]
    congr 2
    apply List.map_congr_left
    intro k hkk
    have hkl := List.mem_range.mp hkk
    obtain ⟨k1, k2, k3, k4⟩ := hk k hkl
    obtain ⟨h1, h2, h3⟩ := h k hkl
    have hq : sQ (uT S x c) = sQ S := rfl
    by_cases q0 : (tkd c k).1 ≤ 1 ∨ (tkd c k).1 = 5
    · have e1 := k1 q0
      by_cases q1 : (tkd c k).1 = 1
      · rw [tfv_l (by rw [ht]; exact q1), tfv_l (by rw [hr.2, e1]; exact q1)]
      · rw [tfv_i (by rw [ht]; omega), tfv_i (by rw [hr.2, e1]; omega)]
    · have e2 := k2 (by omega) (by omega)
      rw [tfv_q (S := S) (by rw [hr.2]; exact e2)]
      by_cases q3 : (tkd c k).1 = 3
      · rw [tfv_f (by rw [ht]; exact q3), ht, (h1 q3).1]
        rfl
      · by_cases q4 : (tkd c k).1 = 4
        · rw [tfv_c (by rw [ht]; exact q4), ht, (h2 q4).1]
          rfl
        · rw [tfv_q (by rw [ht]; omega)]
          rfl
  · have e2 : sT (uT S a c) x = sT S x := by simp [uT, sT, e]
    have e3 : sL (uT S a c) = sL S := rfl
    have e1 : sQ (uT S a c) = sQ S := rfl
    unfold tcell tfv
    simp only [e1, e2, e3]
theorem gRetag {a c : Nat} (hr : ty S a (20 + c)) (hc : c < 13) (h : tRdy S a c) (k : tWG K B cl sl (uT S a c) I J pc L st) : tWG K B cl sl S I J pc L st := by
  intro H locs ls hR hL
  refine k H locs ls ⟨hR.1, ?_, hR.2.2.1, tGr_uT hR.2.2.2 hr hc h⟩ hL
  have e : twl B (uT S a c) I J = twl B S I J := by
    unfold twl
    apply List.map_congr_left
    intro x _
    rw [tcell_uT hr hc h x]
  rw [e]
  exact hR.2.1
theorem s_putq (hO : tKO K B own cc nL) {a t k i x v : Nat} (ht : ty S a t) (hk : k < (tkl t).length) (h0 : (tkd t k).1 = 2) (hw : wsL_law[i]? = some (Cond.fieldLink own x ((tCl (t % 20)).2.1 k).1 ((tCl (t % 20)).2.1 k).2.1 ((tCl (t % 20)).2.1 k).2.2.1)) (hfin : ((tCl (t % 20)).2.1 k).2.2.2 = false) {ft : FieldType} (hds : parseFieldDescriptor ((tCl (t % 20)).2.1 k).2.2.1 = some ft) (hft : isReferenceType ft = true) (hG : tGr (uQ S a k (some v))) (hd : decode cc pc = .ok (.putfield x, 3)) (kk : tWG K B cl sl (uQ S a k (some v)) I J (pc + 3) L st) : tWG K B cl sl S I J pc L (vR v :: vR a :: st) := by
  refine s_putf (v := vR v) hO ht hk hw hd hfin hds (by cases ft <;> first | rfl | (simp [isReferenceType] at hft)) (by cases ft <;> first | rfl | (simp [isReferenceType] at hft)) (S' := uQ S a k (some v)) (I' := I) (J' := J) rfl ht.2 ?_ ?_ (fun y hy => tcell_Q hy) hG kk
  · have ht2 : sT (uQ S a k (some v)) a = t := ht.2
    rw [tfv_q (by rw [ht2]; exact h0)]
    simp [uQ, sQ, tvv]
  · intro j hj
    have e : sQ (uQ S a k (some v)) a j = sQ S a j := by simp [uQ, sQ, hj]
    have e2 : sT (uQ S a k (some v)) = sT S := rfl
    unfold tfv
    simp only [e, e2]
end RR
