/-! the law's start: what the Statement gives of the world -/
theorem ar_of {args : Array Value} {s : State} {t : FieldType} (h : (Cond.arrayClass t).before args s = true) (ho : ∀ C, t ≠ .object C) : ∃ c : ClassId, ArrOfT s c t ∧ va_RA s c t := by
  obtain ⟨c, k, comp, h1, h2, h3⟩ := Cond.arrayClass_spec h
  refine ⟨c, fun N z => ⟨(fun q hq => by cases hq), k, h2, comp, h3⟩, ?_⟩
  cases t with
  | object C => exact absurd rfl (ho C)
  | _ => exact h1
theorem ar_ofO {args : Array Value} {s : State} {C : String} (h : (Cond.arrayOver (.object C)).before args s = true) : ∃ c : ClassId, ArrOfT s c (.object C) ∧ va_RA s c (.object C) := by
  obtain ⟨comp, c, k, h1, -, h2, h3, h4⟩ := Cond.arrayOver_spec h
  exact ⟨c, fun N z => ⟨(fun q hq => by cases hq), k, h2, comp, h3⟩, k, comp, h2, h3, h1, h4⟩
abbrev nwL : List Cond := flatC (Jvm.Cond.and given_1 narrow_1)
abbrev sTm (i : Nat) : Term := Term.string "ThreeWheels$Parser" (tStx.getD i (0, "")).1
/-- where the words of each text begin -/
abbrev sPl : List Nat := [232, 243, 255, 271, 318, 301, 285, 109, 158, 35, 68]
/-- the order in which they stand there -/
abbrev sOr : List Nat := [4, 5, 6, 7, 10, 9, 8, 2, 3, 0, 1]
set_option maxRecDepth 100000 in
theorem nw_ex : ∀ i, i < 11 → nwL[sPl.getD i 0]? = some (Cond.exactly (sTm i) "java/lang/String") := by decide +kernel
set_option maxRecDepth 100000 in
theorem nw_co : ∀ i, i < 11 → nwL[sPl.getD i 0 + 1]? = some (Cond.eq (.field (sTm i) "java/lang/String" "coder" "B") (.int 0)) := by decide +kernel
set_option maxRecDepth 100000 in
theorem nw_ar : ∀ i, i < 11 → nwL[sPl.getD i 0 + 2]? = some (Cond.arrayOf (.field (sTm i) "java/lang/String" "value" "[B") .byte) := by decide +kernel
set_option maxRecDepth 100000 in
theorem nw_le : ∀ i, i < 11 → nwL[sPl.getD i 0 + 3]? = some (Cond.eq (.length (.field (sTm i) "java/lang/String" "value" "[B")) (.int (Int32.ofNat (tSlen.getD i 0)))) := by decide +kernel
set_option maxRecDepth 100000 in
theorem nw_el : ∀ i, i < 11 → (nwL.drop (sPl.getD i 0 + 4)).take (tSlen.getD i 0) = (List.range (tSlen.getD i 0)).map (fun j => Cond.eq (.elem (.field (sTm i) "java/lang/String" "value" "[B") (.int (Int32.ofNat j))) (.int ((tSbyt.getD i []).getD j 0))) := by decide +kernel
set_option maxRecDepth 100000 in
theorem nw_ne : ∀ i, i < 11 → ∀ j, j < 11 → i ≠ j → (sOr.getD i 0 < sOr.getD j 0 ∧ nwL[sPl.getD j 0 + 4 + tSlen.getD j 0 + sOr.getD i 0]? = some (Cond.not (Cond.eq (sTm i) (sTm j)))) ∨ (sOr.getD j 0 < sOr.getD i 0 ∧ nwL[sPl.getD i 0 + 4 + tSlen.getD i 0 + sOr.getD j 0]? = some (Cond.not (Cond.eq (sTm j) (sTm i)))) := by decide +kernel
set_option maxRecDepth 100000 in
theorem nw_sr : ∀ i, i < 11 → lw_tbl[[824, 825, 830, 831, 850, 845, 844, 814, 815, 732, 733].getD i 0]? = some (Cond.stringRef "ThreeWheels$Parser" (tStx.getD i (0, "")).1 (tStx.getD i (0, "")).2) := by decide +kernel
set_option maxRecDepth 100000 in
theorem nw_nst : ∀ i, i < 10 → lw_tbl[[135, 321, 335, 350, 418, 485, 617, 141, 179, 229].getD i 0]? = (tNest[i]?).map (fun q => Cond.methodLinkNest q.1 q.2.1 q.2.2.1 q.2.2.2) := by decide +kernel
