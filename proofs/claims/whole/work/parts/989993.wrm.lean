/-! the law's start: the world -/
theorem sp_mem {L : List Cond} {p n j : Nat} {f : Nat → Cond} (h : (L.drop p).take n = (List.range n).map f) (hj : j < n) : f j ∈ L := by
  have : f j ∈ (L.drop p).take n := by rw [h]; exact List.mem_map.mpr ⟨j, List.mem_range.mpr hj, rfl⟩
  exact List.mem_of_mem_drop (List.mem_of_mem_take this)
theorem start_NT {s : State} {b : Nat} (hts : ∀ w ∈ lw_tbl, w.before #[Value.ref b] s = true) (hgv : (Jvm.Cond.and given_1 narrow_1).before #[Value.ref b] s = true) : ∃ B : tB, B.2 = s.heap.size ∧ va_K B.1.1 vwCl (ttys B.1) s ∧ tNT B s := by
  have hw : ∀ w ∈ wsL_law, w.before #[Value.ref b] s = true := fun w h => hts w (wsL_law_in w h)
  have hf : ∀ w ∈ nwL, w.before #[Value.ref b] s = true := flat_of_before _ hgv
  have hA : ∀ a : Nat, a < s.heap.size → ¬ s.heap.size ≤ a := fun a h => Nat.not_le.mpr h
  -- classes
  have hi : ∀ k, k < 13 → (Cond.instantiable (tCl k).1 (tCl k).2.2).before #[Value.ref b] s = true := fun k hk => match k, hk with
    | 0, _ => hw _ (List.mem_of_getElem? (i := 32) (by decide +kernel))
    | 1, _ => hw _ (List.mem_of_getElem? (i := 19) (by decide +kernel))
    | 2, _ => hw _ (List.mem_of_getElem? (i := 36) (by decide +kernel))
    | 3, _ => hw _ (List.mem_of_getElem? (i := 60) (by decide +kernel))
    | 4, _ => hw _ (List.mem_of_getElem? (i := 28) (by decide +kernel))
    | 5, _ => hw _ (List.mem_of_getElem? (i := 40) (by decide +kernel))
    | 6, _ => hw _ (List.mem_of_getElem? (i := 119) (by decide +kernel))
    | 7, _ => hw _ (List.mem_of_getElem? (i := 64) (by decide +kernel))
    | 8, _ => hw _ (List.mem_of_getElem? (i := 13) (by decide +kernel))
    | 9, _ => hw _ (List.mem_of_getElem? (i := 24) (by decide +kernel))
    | 10, _ => hw _ (List.mem_of_getElem? (i := 47) (by decide +kernel))
    | 11, _ => hw _ (List.mem_of_getElem? (i := 1) (by decide +kernel))
    | 12, _ => hw _ (List.mem_of_getElem? (i := 4) (by decide +kernel))
    | n + 13, h => absurd h (by omega)
  have hc : ∀ k : Nat, ∃ q : ClassId × (Nat → Nat), k < 13 → u_Kn s (tCl k).1 (tCl k).2.1 (tCl k).2.2 q.1 q.2 := by
    intro k
    by_cases hk : k < 13
    · obtain ⟨c, f, h⟩ := u_known hw (tcl_in k hk) (hi k hk)
      exact ⟨(c, f), fun _ => h⟩
    · exact ⟨(0, fun _ => 0), fun h => absurd h hk⟩
  obtain ⟨D, hD⟩ := Classical.axiomOfChoice hc
  -- arrays
  obtain ⟨c40, a40⟩ := ar_of (hts (Cond.arrayClass .int) (List.mem_of_getElem? (i := 176) (by decide +kernel))) (fun C h => by cases h)
  obtain ⟨c41, a41⟩ := ar_of (hts (Cond.arrayClass .boolean) (List.mem_of_getElem? (i := 1368) (by decide +kernel))) (fun C h => by cases h)
  obtain ⟨c42, a42⟩ := ar_of (hts (Cond.arrayClass .long) (List.mem_of_getElem? (i := 426) (by decide +kernel))) (fun C h => by cases h)
  have w43 := hts (Cond.arrayOver (.object "ThreeWheels$State")) (List.mem_of_getElem? (i := 318) (by decide +kernel))
  have w44 := hts (Cond.arrayOver (.object "ThreeWheels$Program")) (List.mem_of_getElem? (i := 285) (by decide +kernel))
  obtain ⟨c43, a43⟩ := ar_ofO w43
  obtain ⟨c44, a44⟩ := ar_ofO w44
  -- texts
  obtain ⟨adK, adV, hS, hev⟩ := vk_Sof (N := 11) (tm := sTm) (len := tSlen) (byt := tSbyt) (A := fun q => s.heap.size ≤ q) (by decide +kernel) (fun i hi => hf _ (List.mem_of_getElem? (nw_ex i hi))) (fun i hi => hf _ (List.mem_of_getElem? (nw_co i hi))) (fun i hi => hf _ (List.mem_of_getElem? (nw_ar i hi))) (fun i hi => hf _ (List.mem_of_getElem? (nw_le i hi))) (fun i hi j hj => hf _ (sp_mem (nw_el i hi) hj)) (fun i j hi hj hij => by
    rcases nw_ne i hi j hj hij with ⟨-, h⟩ | ⟨-, h⟩
    · exact Or.inl (hf _ (List.mem_of_getElem? h))
    · exact Or.inr (hf _ (List.mem_of_getElem? h))) hA
  refine ⟨(((fun k => (D k).1, fun k => (D k).2), c40, c41, c42, c43, c44, adK, adV), s.heap.size), rfl, ⟨fun c q hq => ?_, fun k q hq => ?_⟩, ⟨fun i q hq => ?_, va_AO.of w43, va_AO.of w44⟩, hS, fun i q hq => ?_, ?_, ?_⟩
  · have hc13 : c < 13 := (List.getElem?_eq_some_iff.mp hq).1
    have := (tcl_get c hc13).1
    rw [this] at hq
    cases hq
    exact hD c hc13
  · match k, hq with
    | 0, hq => cases hq; exact a40
    | 1, hq => cases hq; exact a41
    | 2, hq => cases hq; exact a42
    | 3, hq => cases hq; exact a43
    | 4, hq => cases hq; exact a44
    | k + 5, hq => simp [ttys] at hq
  · have h10 : i < 10 := (List.getElem?_eq_some_iff.mp hq).1
    have h := nw_nst i h10
    rw [hq] at h
    exact va_Nw.of rfl (hts _ (List.mem_of_getElem? h))
  · have h11 : i < 11 := (List.getElem?_eq_some_iff.mp hq).1
    have e : tStx.getD i (0, "") = q := by rw [List.getD_eq_getElem?_getD, hq]; rfl
    have h := hts _ (List.mem_of_getElem? (nw_sr i h11))
    have h2 := hev i h11
    rw [e] at h
    have h2 : (Term.string "ThreeWheels$Parser" q.1).eval #[Value.ref b] s none [] s = some (.ref (adK i)) := by rw [← e]; exact h2
    exact vk_R.of h h2
  · exact va_Zof (hts _ (List.mem_of_getElem? (i := 747) (by decide +kernel))) (hts _ (List.mem_of_getElem? (i := 119) (by decide +kernel))) (va_eqi (hf _ (List.mem_of_getElem? (i := 4) (by decide +kernel)))) hA
  · exact va_Zqof (hts _ (List.mem_of_getElem? (i := 763) (by decide +kernel))) (hts _ (List.mem_of_getElem? (i := 121) (by decide +kernel))) (hf _ (List.mem_of_getElem? (i := 5) (by decide +kernel))) hA
