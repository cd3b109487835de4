def tkl (t : Nat) : List (Nat × Nat × Nat × Nat) := match t with
  | 0 => [(3, 1, 42, 52)]
  | 1 => [(3, 1, 40, 144), (0, 0, 0, 0)]
  | 2 => [(3, 1, 40, 12), (3, 2, 40, 12), (4, 1, 8, 0), (4, 46, 0, 0)]
  | 3 => [(0, 0, 0, 0), (3, 1, 40, 6), (3, 2, 40, 6), (3, 3, 40, 6), (3, 4, 40, 6)]
  | 4 => [(3, 1, 6, 0), (0, 0, 0, 0), (2, 0, 9, 0), (5, 0, 0, 0), (0, 0, 0, 0), (0, 0, 0, 0), (0, 0, 0, 0), (0, 0, 0, 0), (0, 0, 0, 0)]
  | 5 => [(4, 1, 8, 0), (4, 48, 2, 0), (3, 1, 40, 12), (3, 2, 40, 793), (3, 3, 40, 39), (3, 4, 40, 4801), (3, 5, 40, 6), (3, 6, 40, 6), (0, 0, 0, 0)]
  | 6 => [(3, 1, 40, 0), (3, 2, 40, 0), (3, 3, 40, 0), (3, 4, 40, 0), (0, 0, 0, 0), (0, 0, 0, 0)]
  | 7 => [(0, 0, 0, 0), (3, 1, 40, 12), (3, 2, 40, 12), (3, 3, 40, 12), (3, 4, 40, 12), (0, 0, 0, 0), (3, 5, 40, 8), (3, 6, 40, 8), (3, 7, 40, 8)]
  | 8 => [(3, 1, 3, 0), (3, 6, 7, 0), (3, 14, 10, 0), (3, 15, 44, 6), (0, 0, 0, 0), (0, 0, 0, 0)]
  | 9 => [(3, 1, 40, 400), (0, 0, 0, 0)]
  | 10 => [(0, 0, 0, 0), (0, 0, 0, 0), (0, 0, 0, 0), (0, 0, 0, 0), (0, 0, 0, 0), (0, 0, 0, 0), (0, 0, 0, 0), (0, 0, 0, 0), (0, 0, 0, 0)]
  | 11 => [(3, 1, 8, 0), (3, 17, 8, 0), (3, 33, 43, 2), (3, 34, 1, 0), (3, 36, 1, 0), (3, 38, 9, 0), (3, 40, 4, 0), (3, 46, 0, 0), (3, 48, 2, 0), (3, 51, 5, 0), (3, 58, 40, 24), (3, 59, 40, 7), (3, 60, 10, 0), (5, 0, 0, 0), (0, 0, 0, 0), (0, 0, 0, 0), (0, 0, 0, 0), (0, 0, 0, 0), (0, 0, 0, 0)]
  | 12 => [(0, 0, 0, 0), (0, 0, 0, 0), (3, 1, 40, 7), (3, 2, 40, 5510), (3, 3, 40, 11020), (3, 4, 41, 2), (3, 5, 40, 306), (3, 6, 40, 16), (0, 0, 0, 0), (3, 7, 40, 272), (3, 8, 40, 16), (0, 0, 0, 0), (3, 9, 40, 400), (0, 0, 0, 0), (0, 0, 0, 0), (0, 0, 0, 0), (0, 0, 0, 0), (1, 0, 0, 0), (0, 0, 0, 0), (5, 0, 0, 0), (5, 0, 0, 0), (0, 0, 0, 0), (3, 10, 40, 96), (0, 0, 0, 0), (3, 11, 40, 400), (3, 12, 40, 400), (0, 0, 0, 0), (3, 13, 40, 400), (3, 14, 40, 400), (0, 0, 0, 0), (0, 0, 0, 0), (3, 15, 42, 12), (3, 16, 42, 8), (3, 17, 42, 6), (0, 0, 0, 0), (3, 18, 42, 13), (3, 19, 42, 13), (3, 20, 42, 400), (5, 0, 0, 0), (1, 0, 0, 0), (1, 0, 0, 0), (0, 0, 0, 0), (0, 0, 0, 0), (0, 0, 0, 0), (0, 0, 0, 0), (3, 21, 40, 793), (3, 22, 40, 39), (3, 23, 40, 6), (3, 24, 40, 6), (3, 25, 42, 6), (3, 26, 40, 96), (0, 0, 0, 0), (0, 0, 0, 0), (0, 0, 0, 0), (5, 0, 0, 0), (1, 0, 0, 0), (3, 27, 40, 4), (5, 0, 0, 0)]
  | 20 => [(2, 0, 42, 0)]
  | 21 => [(2, 0, 40, 0), (0, 0, 0, 0)]
  | 22 => [(2, 0, 40, 0), (2, 0, 40, 0), (2, 0, 8, 0), (2, 0, 0, 0)]
  | 23 => [(0, 0, 0, 0), (2, 0, 40, 0), (2, 0, 40, 0), (2, 0, 40, 0), (2, 0, 40, 0)]
  | 24 => [(2, 0, 6, 0), (0, 0, 0, 0), (2, 0, 9, 0), (5, 0, 0, 0), (0, 0, 0, 0), (0, 0, 0, 0), (0, 0, 0, 0), (0, 0, 0, 0), (0, 0, 0, 0)]
  | 25 => [(2, 0, 8, 0), (2, 0, 2, 0), (2, 0, 40, 0), (2, 0, 40, 0), (2, 0, 40, 0), (2, 0, 40, 0), (2, 0, 40, 0), (2, 0, 40, 0), (0, 0, 0, 0)]
  | 26 => [(2, 0, 40, 0), (2, 0, 40, 0), (2, 0, 40, 0), (2, 0, 40, 0), (0, 0, 0, 0), (0, 0, 0, 0)]
  | 27 => [(0, 0, 0, 0), (2, 0, 40, 0), (2, 0, 40, 0), (2, 0, 40, 0), (2, 0, 40, 0), (0, 0, 0, 0), (2, 0, 40, 0), (2, 0, 40, 0), (2, 0, 40, 0)]
  | 28 => [(2, 0, 3, 0), (2, 0, 7, 0), (2, 0, 10, 0), (2, 0, 44, 0), (0, 0, 0, 0), (0, 0, 0, 0)]
  | 29 => [(2, 0, 40, 0), (0, 0, 0, 0)]
  | 30 => [(0, 0, 0, 0), (0, 0, 0, 0), (0, 0, 0, 0), (0, 0, 0, 0), (0, 0, 0, 0), (0, 0, 0, 0), (0, 0, 0, 0), (0, 0, 0, 0), (0, 0, 0, 0)]
  | 31 => [(2, 0, 8, 0), (2, 0, 8, 0), (2, 0, 43, 0), (2, 0, 1, 0), (2, 0, 1, 0), (2, 0, 9, 0), (2, 0, 4, 0), (2, 0, 0, 0), (2, 0, 2, 0), (2, 0, 5, 0), (2, 0, 40, 0), (2, 0, 40, 0), (2, 0, 10, 0), (5, 0, 0, 0), (0, 0, 0, 0), (0, 0, 0, 0), (0, 0, 0, 0), (0, 0, 0, 0), (0, 0, 0, 0)]
  | 32 => [(0, 0, 0, 0), (0, 0, 0, 0), (2, 0, 40, 0), (2, 0, 40, 0), (2, 0, 40, 0), (2, 0, 41, 0), (2, 0, 40, 0), (2, 0, 40, 0), (0, 0, 0, 0), (2, 0, 40, 0), (2, 0, 40, 0), (0, 0, 0, 0), (2, 0, 40, 0), (0, 0, 0, 0), (0, 0, 0, 0), (0, 0, 0, 0), (0, 0, 0, 0), (1, 0, 0, 0), (0, 0, 0, 0), (5, 0, 0, 0), (5, 0, 0, 0), (0, 0, 0, 0), (2, 0, 40, 0), (0, 0, 0, 0), (2, 0, 40, 0), (2, 0, 40, 0), (0, 0, 0, 0), (2, 0, 40, 0), (2, 0, 40, 0), (0, 0, 0, 0), (0, 0, 0, 0), (2, 0, 42, 0), (2, 0, 42, 0), (2, 0, 42, 0), (0, 0, 0, 0), (2, 0, 42, 0), (2, 0, 42, 0), (2, 0, 42, 0), (5, 0, 0, 0), (1, 0, 0, 0), (1, 0, 0, 0), (0, 0, 0, 0), (0, 0, 0, 0), (0, 0, 0, 0), (0, 0, 0, 0), (2, 0, 40, 0), (2, 0, 40, 0), (2, 0, 40, 0), (2, 0, 40, 0), (2, 0, 42, 0), (2, 0, 40, 0), (0, 0, 0, 0), (0, 0, 0, 0), (0, 0, 0, 0), (5, 0, 0, 0), (1, 0, 0, 0), (2, 0, 40, 0), (5, 0, 0, 0)]
  | _ => []
/-! THE ABSTRACT HEAP: ids from 0 (the address is b + id); I: ints of an object's slots or an array's places, J: longs; S: references, tags, lengths, how many -/
abbrev tHI : Type := Nat → Nat → Int32
abbrev tHJ : Type := Nat → Nat → Int64
abbrev tSH : Type := (Nat → Nat → Option Nat) × (Nat → Nat) × (Nat → Nat) × Nat
/-- a value: int, long, an id or null, an address below b -/
abbrev tSV : Type := Int32 ⊕ Int64 ⊕ Option Nat ⊕ Nat
abbrev vI (x : Int32) : tSV := Sum.inl x
abbrev vL (x : Int64) : tSV := Sum.inr (Sum.inl x)
abbrev vO (o : Option Nat) : tSV := Sum.inr (Sum.inr (Sum.inl o))
abbrev vR (a : Nat) : tSV := Sum.inr (Sum.inr (Sum.inl (some a)))
abbrev vN : tSV := Sum.inr (Sum.inr (Sum.inl none))
abbrev vA (p : Nat) : tSV := Sum.inr (Sum.inr (Sum.inr p))
def uI (I : tHI) (a k : Nat) (v : Int32) : tHI := fun x y => if x = a ∧ y = k then v else I x y
def uJ (J : tHJ) (a k : Nat) (v : Int64) : tHJ := fun x y => if x = a ∧ y = k then v else J x y
def uQ (S : tSH) (a k : Nat) (v : Option Nat) : tSH := (fun x y => if x = a ∧ y = k then v else S.1 x y, S.2)
abbrev sQ (S : tSH) : Nat → Nat → Option Nat := S.1
abbrev sT (S : tSH) : Nat → Nat := S.2.1
abbrev sL (S : tSH) : Nat → Nat := S.2.2.1
abbrev sZ (S : tSH) : Nat := S.2.2.2
/-- a new cell behind all: its tag, its length -/
def uS (S : tSH) (t n : Nat) : tSH := (fun x y => if x = sZ S then none else sQ S x y, fun x => if x = sZ S then t else sT S x, fun x => if x = sZ S then n else sL S x, sZ S + 1)
def uZI (I : tHI) (z : Nat) : tHI := fun x y => if x = z then 0 else I x y
def uZJ (J : tHJ) (z : Nat) : tHJ := fun x y => if x = z then 0 else J x y
/-- another tag for a cell (made ready) -/
def uT (S : tSH) (a t : Nat) : tSH := (S.1, fun x => if x = a then t else S.2.1 x, S.2.2)
def tvv (b : Nat) : tSV → Value
  | .inl x => .int x
  | .inr (.inl x) => .long x
  | .inr (.inr (.inl o)) => va_rf (o.map (fun a => b + a))
  | .inr (.inr (.inr p)) => .ref p
abbrev tG : Type := va_G × ClassId × ClassId × ClassId × ClassId × ClassId × (Nat → Nat) × (Nat → Nat)
abbrev tB : Type := tG × Nat
def ttys (G : tG) : List (ClassId × FieldType) := [(G.2.1, .int), (G.2.2.1, .boolean), (G.2.2.2.1, .long), (G.2.2.2.2.1, .object "ThreeWheels$State"), (G.2.2.2.2.2.1, .object "ThreeWheels$Program")]
abbrev tkd (t k : Nat) : Nat × Nat × Nat × Nat := (tkl t).getD k (9, 0, 0, 0)
def tfv (b : Nat) (S : tSH) (I : tHI) (J : tHJ) (a : Nat) (k : Nat) : Value :=
  if (tkd (sT S a) k).1 = 0 ∨ (tkd (sT S a) k).1 = 5 then .int (I a k)
  else if (tkd (sT S a) k).1 = 1 then .long (J a k)
  else if (tkd (sT S a) k).1 = 2 then va_rf ((sQ S a k).map (fun x => b + x))
  else if (tkd (sT S a) k).1 = 3 then .ref (b + (a + (tkd (sT S a) k).2.1))
  else .ref (b + (tkd (sT S a) k).2.1)
def tcell (B : tB) (S : tSH) (I : tHI) (J : tHJ) (a : Nat) : va_E :=
  if sT S a = 40 then .inl (B.1.2.1, sL S a, .inl (fun j => I a j))
  else if sT S a = 41 then .inl (B.1.2.2.1, sL S a, .inl (fun j => I a j))
  else if sT S a = 42 then .inl (B.1.2.2.2.1, sL S a, .inr (.inl (fun j => J a j)))
  else if sT S a = 43 then .inl (B.1.2.2.2.2.1, sL S a, .inr (.inr (.inr (.inr (fun j => (sQ S a j).map (fun x => B.2 + x))))))
  else if sT S a = 44 then .inl (B.1.2.2.2.2.2.1, sL S a, .inr (.inr (.inr (.inr (fun j => (sQ S a j).map (fun x => B.2 + x))))))
  else .inr (sT S a % 20, (List.range (tkl (sT S a)).length).map (tfv B.2 S I J a))
def twl (B : tB) (S : tSH) (I : tHI) (J : tHJ) : va_W := (List.range (sZ S)).map (fun a => (B.2 + a, tcell B S I J a))
def ty (S : tSH) (a t : Nat) : Prop := a < sZ S ∧ sT S a = t
def tGr (S : tSH) : Prop := ∀ a t, ty S a t →
  (∀ k, k < (tkl t).length →
    ((tkd t k).1 = 3 → ty S (a + (tkd t k).2.1) (tkd t k).2.2.1 ∧ ((tkd t k).2.2.2 ≠ 0 → sL S (a + (tkd t k).2.1) = (tkd t k).2.2.2)) ∧
    ((tkd t k).1 = 4 → ty S (tkd t k).2.1 (tkd t k).2.2.1) ∧
    ((tkd t k).1 = 2 → t < 20 → ∀ x, sQ S a k = some x → ty S x (tkd t k).2.2.1)) ∧
  (t = 43 → ∀ j x, sQ S a j = some x → ty S x 8) ∧ (t = 44 → ∀ j x, sQ S a j = some x → ty S x 6)
theorem twl_get {B : tB} {S : tSH} {I : tHI} {J : tHJ} {a : Nat} (h : a < sZ S) : (twl B S I J)[a]? = some (B.2 + a, tcell B S I J a) := by
  simp [twl, h]
theorem twl_len {B : tB} {S : tSH} {I : tHI} {J : tHJ} : (twl B S I J).length = sZ S := by simp [twl]
theorem twl_D {B : tB} {S : tSH} {I : tHI} {J : tHJ} : va_D (fun q => B.2 ≤ q) (twl B S I J) := by
  have key : ∀ (i : Nat) (p : Nat × va_E), (twl B S I J)[i]? = some p → p.1 = B.2 + i := by
    intro i p h
    have hl : i < sZ S := by rw [← twl_len (B := B) (S := S) (I := I) (J := J)]; exact (List.getElem?_eq_some_iff.mp h).1
    rw [twl_get hl] at h
    cases h
    rfl
  refine ⟨fun i j p q hp hq h => ?_, fun k q hk => ?_⟩
  · have := key i p hp
    have := key j q hq
    omega
  · have := key k q hk
    show B.2 ≤ q.1
    omega
/-- one cell is another, the rest as it was -/
theorem twl_set {B : tB} {S S' : tSH} {I I' : tHI} {J J' : tHJ} {a : Nat} {e : va_E} (hz : sZ S' = sZ S) (he : tcell B S' I' J' a = e) (ho : ∀ x, x ≠ a → tcell B S' I' J' x = tcell B S I J x) : (twl B S I J).set a (B.2 + a, e) = twl B S' I' J' := by
  apply List.ext_getElem?
  intro i
  by_cases hi : i < sZ S
  · rw [twl_get (by omega), List.getElem?_set]
    by_cases h : a = i
    · subst h
      rw [if_pos rfl, if_pos (by rw [twl_len]; exact hi), he]
    · rw [if_neg h, twl_get hi, ho i (fun q => h q.symm)]
  · rw [List.getElem?_eq_none (by rw [List.length_set, twl_len]; omega), List.getElem?_eq_none (by rw [twl_len]; omega)]
/-- a new cell -/
theorem twl_push {B : tB} {S S' : tSH} {I I' : tHI} {J J' : tHJ} {e : va_E} (hz : sZ S' = sZ S + 1) (he : tcell B S' I' J' (sZ S) = e) (ho : ∀ x, x < sZ S → tcell B S' I' J' x = tcell B S I J x) : twl B S I J ++ [(B.2 + sZ S, e)] = twl B S' I' J' := by
  unfold twl
  rw [hz, List.range_succ, List.map_append, List.map_singleton, he]
  congr 1
  apply List.map_congr_left
  intro x hx
  rw [ho x (List.mem_range.mp hx)]
theorem tcell_I {B : tB} {S : tSH} {I : tHI} {J : tHJ} {a k : Nat} {v : Int32} {x : Nat} (h : x ≠ a) : tcell B S (uI I a k v) J x = tcell B S I J x := by
  have e : ∀ j, uI I a k v x j = I x j := fun j => by simp [uI, h]
  unfold tcell tfv
  simp only [e]
theorem tcell_J {B : tB} {S : tSH} {I : tHI} {J : tHJ} {a k : Nat} {v : Int64} {x : Nat} (h : x ≠ a) : tcell B S I (uJ J a k v) x = tcell B S I J x := by
  have e : ∀ j, uJ J a k v x j = J x j := fun j => by simp [uJ, h]
  unfold tcell tfv
  simp only [e]
theorem tcell_Q {B : tB} {S : tSH} {I : tHI} {J : tHJ} {a k : Nat} {v : Option Nat} {x : Nat} (h : x ≠ a) : tcell B (uQ S a k v) I J x = tcell B S I J x := by
  have e : ∀ j, sQ (uQ S a k v) x j = sQ S x j := fun j => by simp [uQ, sQ, h]
  have e2 : sT (uQ S a k v) = sT S := rfl
  have e3 : sL (uQ S a k v) = sL S := rfl
  unfold tcell tfv
  simp only [e, e2, e3]
theorem tcell_S {B : tB} {S : tSH} {I : tHI} {J : tHJ} {t n x : Nat} (h : x < sZ S) : tcell B (uS S t n) (uZI I (sZ S)) (uZJ J (sZ S)) x = tcell B S I J x := by
  have hn : ¬ x = S.2.2.2 := by have := h; show ¬ x = sZ S; omega
  have e1 : ∀ j, sQ (uS S t n) x j = sQ S x j := fun j => by simp [uS, sQ, sZ, hn]
  have e2 : sT (uS S t n) x = sT S x := by simp [uS, sT, sZ, hn]
  have e3 : sL (uS S t n) x = sL S x := by simp [uS, sL, sZ, hn]
  have e4 : ∀ j, uZI I (sZ S) x j = I x j := fun j => by simp [uZI, sZ, hn]
  have e5 : ∀ j, uZJ J (sZ S) x j = J x j := fun j => by simp [uZJ, sZ, hn]
  unfold tcell tfv
  simp only [e1, e2, e3, e4, e5]
theorem tcell_40 {B : tB} {S : tSH} {I : tHI} {J : tHJ} {a : Nat} (h : sT S a = 40) : tcell B S I J a = .inl (B.1.2.1, sL S a, .inl (fun j => I a j)) := by simp [tcell, h]
theorem tcell_41 {B : tB} {S : tSH} {I : tHI} {J : tHJ} {a : Nat} (h : sT S a = 41) : tcell B S I J a = .inl (B.1.2.2.1, sL S a, .inl (fun j => I a j)) := by simp [tcell, h]
theorem tcell_42 {B : tB} {S : tSH} {I : tHI} {J : tHJ} {a : Nat} (h : sT S a = 42) : tcell B S I J a = .inl (B.1.2.2.2.1, sL S a, .inr (.inl (fun j => J a j))) := by simp [tcell, h]
theorem tcell_43 {B : tB} {S : tSH} {I : tHI} {J : tHJ} {a : Nat} (h : sT S a = 43) : tcell B S I J a = .inl (B.1.2.2.2.2.1, sL S a, .inr (.inr (.inr (.inr (fun j => (sQ S a j).map (fun x => B.2 + x)))))) := by simp [tcell, h]
theorem tcell_44 {B : tB} {S : tSH} {I : tHI} {J : tHJ} {a : Nat} (h : sT S a = 44) : tcell B S I J a = .inl (B.1.2.2.2.2.2.1, sL S a, .inr (.inr (.inr (.inr (fun j => (sQ S a j).map (fun x => B.2 + x)))))) := by simp [tcell, h]
theorem tcell_o {B : tB} {S : tSH} {I : tHI} {J : tHJ} {a : Nat} (h : sT S a < 40) : tcell B S I J a = .inr (sT S a % 20, (List.range (tkl (sT S a)).length).map (tfv B.2 S I J a)) := by
  unfold tcell
  rw [if_neg (by omega), if_neg (by omega), if_neg (by omega), if_neg (by omega), if_neg (by omega)]
