/-! the law, from its entry to its end -/
set_option maxRecDepth 100000 in
theorem whole_start {p : Program} {e : Env} {s : State} {m : MethodId} {below : List Frame} {meth : Method} {c : Code} (l : Launch) (hflags : l.flags = flags0) {b L : Nat} {xs : Nat → Int32} (hL : L ≤ 3072) (C0 : lw_At p s m meth c b L xs) : W p l e room_1 s m #[Value.ref b] below meth c s.heap [] 0 0 (lw_Z below #[Value.ref b] s) (entryFrame m ([Value.ref b] : List Value).toArray 4) := by
  obtain ⟨hx, hb, hr, hml, hown, hts, hX, hbl, hlocks, hgv⟩ := id C0
  obtain ⟨B, hB, hK, hNT⟩ := start_NT hts hgv
  have hO : tKO (LK p l e s m b below meth c) B RL cL_law 4 := ⟨hx, hb, hml, hown, fun w h => hts w (wsL_law_in w h), hK, by rw [hB]; exact Nat.le_refl _, hNT⟩
  have h0 : ty (uS eS0 31 0) 0 31 := ty_new
  have main : tWG (LK p l e s m b below meth c) B 0 0 eS0 eI0 eJ0 0 [some (vA b), none, none, none] [] := by
    refine lNew (c := 11) (idx := 7) (w1 := 0) (w2 := 1) (w3 := 2) hO (by decide) (by decide +kernel) (by decide +kernel) (by decide +kernel) rfl ⟨by decide, by decide +kernel⟩ (by decide +kernel) ?_
    refine gBk (pe := 4) hO [o0 .dup] (by decide +kernel) (show tWG (LK p l e s m b below meth c) B 1 19 (uS eS0 31 0) (uZI eI0 0) (uZJ eJ0 0) 4 [some (vA b), none, none, none] [vR 0, vR 0] from ?_)
    refine lCIv hO (M11_init h0 rfl (fun j => rfl)) hc11_init (idx := 9) (w := 6) (by decide +kernel) rfl ⟨by decide, by decide, by decide, by decide⟩ (vs := []) (st := [vR 0]) ⟨rfl, Nat.le_of_ble_eq_true rfl, rfl⟩ (by decide +kernel) (fun u hu _ => ?_)
    obtain ⟨S1, I1, J1⟩ := u
    obtain ⟨⟨hg1, ⟨hx1, ht1, hz1⟩, hi1, hj1⟩, h33, m1, m2, m3, m4⟩ := hu
    simp only at hi1 hj1 h33 m1 m2 m3 m4
    subst hi1 hj1
    have hz1 : sZ S1 = 61 := hz1
    have ht1 : ty S1 0 11 := ht1
    refine gBk (pe := 8) hO [o0 (.astore_n 1)] (by decide +kernel) (And.intro (Nat.le_of_ble_eq_true rfl) (show tWG (LK p l e s m b below meth c) B 61 7240 S1 eI1 eJ1 8 [some (vA b), some (vR 0), none, none] [] from ?_))
    refine lNew (c := 12) (idx := 10) (w1 := 3) (w2 := 4) (w3 := 5) hO (by decide) (by decide +kernel) (by decide +kernel) (by decide +kernel) rfl ⟨by decide, by decide +kernel⟩ (by decide +kernel) ?_
    rw [hz1]
    have t2 : ty (uS S1 32 0) 61 32 := hz1 ▸ ty_new
    refine gBk (pe := 12) hO [o0 .dup] (by decide +kernel) (show tWG (LK p l e s m b below meth c) B 62 7298 (uS S1 32 0) (uZI eI1 61) (uZJ eJ1 61) 12 [some (vA b), some (vR 0), none, none] [vR 61, vR 61] from ?_)
    refine lCIv hO (M12_init t2 (show sZ S1 + 1 = 62 by rw [hz1]) (fun j => by show (if 61 = sZ S1 then none else sQ S1 61 j) = none; rw [if_pos hz1.symm])) hc12_init (idx := 12) (w := 174) (by decide +kernel) rfl ⟨by decide, by decide, by decide, by decide⟩ (vs := []) (st := [vR 61]) ⟨rfl, Nat.le_of_ble_eq_true rfl, rfl⟩ (by decide +kernel) (fun u hu _ => ?_)
    obtain ⟨S2, I2, J2⟩ := u
    obtain ⟨hg2, ⟨hx2, ht2, hz2⟩, hi2, hj2⟩ := hu
    simp only at hi2 hj2
    subst hi2 hj2
    obtain ⟨-, y2, y3, y4⟩ := hx2
    have ht2 : ty S2 61 12 := ht2
    have hz2 : sZ S2 = 89 := hz2
    have eL : ∀ x, x < 61 → sL S2 x = sL S1 x := fun x h => by
      rw [y3 x h]
      show (if x = sZ S1 then 0 else sL S1 x) = _
      rw [if_neg (by rw [hz1]; omega)]
    have eQ : ∀ x j, x < 61 → sQ S2 x j = sQ S1 x j := fun x j h => by
      rw [y4 x j h]
      show (if x = sZ S1 then none else sQ S1 x j) = _
      rw [if_neg (by rw [hz1]; omega)]
    have t02 : ty S2 0 11 := y2 0 11 (by omega) (ty_uS ht1)
    have hTY : TY S2 := ⟨hg2, t02, ht2, by rw [hz2]; exact Nat.le_refl _, (eL 42 (by omega)).trans m1, (eL 43 (by omega)).trans m2, (eL 44 (by omega)).trans m3, (eL 45 (by omega)).trans m4⟩
    have hI : Inv S2 eI2 eJ2 := Inv_0 hTY (fun j => (eQ 33 j (by omega)).trans (h33 j))
    refine gBk (pe := 18) hO [o0 (.astore_n 2), oI (.iconst 0) 0, o0 (.istore_n 3)] (by decide +kernel) (And.intro (Nat.le_of_ble_eq_true rfl) (And.intro (Nat.le_of_ble_eq_true rfl) (show tWG (LK p l e s m b below meth c) B 89 27945 S2 eI2 eJ2 18 (tLL b (Int32.ofNat (6 * 0))) [] from ?_)))
    exact gWiden (cl' := 100 + 16 * 0) (sl' := 30000 + 467 * 0) (by omega) (by omega) (L_loop C0 hL hB hO Inv.T all_steps 600 0 S2 eI2 eJ2 (by omega) (by omega) hI)
  have hl := lv_entry ([.ref b]) (n := 4) (Nat.le_of_ble_eq_true rfl)
  rw [lg_entry_eq]
  generalize (lg_sl ([.ref b]) ++ List.replicate (4 - (lg_sl ([.ref b])).length) Slot.unset).toArray = ls at hl ⊢
  have hl : lv_has ls 4 [(0, .ref b)] := hl
  have hPe : va_P B.1.1 vwCl (twl B eS0 eI0 eJ0) s.heap := fun k q h => by
    have h : (none : Option (Nat × va_E)) = some q := h
    cases h
  have hGe : tGr eS0 := fun a t h => absurd h.1 (Nat.not_lt_zero a)
  exact main s.heap [] ls ⟨by rw [hB]; rfl, hPe, va_S.rf, hGe⟩ hl
