/-! the law's start: what stands there -/
section LN
variable {K : tK} {B : tB} {own : String} {cc : ByteArray} {nL cl sl : Nat} {S : tSH} {I : tHI} {J : tHJ} {pc : Nat} {L : List (Option tSV)} {st : List tSV}
theorem lNew (hO : tKO K B own cc nL) {c idx w1 w2 w3 : Nat} (hc : c < 13) (hcl : wsL_law[w1]? = some (Cond.classLink own idx (tCl c).1)) (hins : wsL_law[w2]? = some (Cond.instantiable (tCl c).1 (tCl c).2.2)) (hini : wsL_law[w3]? = some (Cond.initialized (tCl c).1)) (hR : kR K = room_1) (hq : cl + 1 ≤ 600000 ∧ sl + (tCl c).2.2 ≤ 7302250) (hd : decode cc pc = .ok (.new idx, 3)) (kk : tWG K B (cl + 1) (sl + (tCl c).2.2) (uS S (20 + c) 0) (uZI I (sZ S)) (uZJ J (sZ S)) (pc + 3) L (vR (sZ S) :: st)) : tWG K B cl sl S I J pc L st := by
  intro H locs ls hR0 hL
  obtain ⟨hx, hb, -, hown, hts, hK, hbs, -⟩ := hO
  obtain ⟨hg, hn⟩ := tcl_get c hc
  have hKn := hK.1 c _ hg
  refine W.newcK hx hb hown (hts _ (List.mem_of_getElem? hcl)) (hts _ (List.mem_of_getElem? hins)) (hts _ (List.mem_of_getElem? hini)) rfl hd (by rw [hR]; exact hq.1) (by rw [hR]; exact hq.2) hKn.2.1 (h := B.2 + sZ S) hR0.1 fun H1 kC hkC e1 z1 o1 => ?_
  refine kk H1 locs ls (tRP_S hbs hR0 z1 o1 (tGr_uS hR0.2.2.2 (by omega) (tkd_raw34 _ (by omega))) ?_) hL
  have ht : sT (uS S (20 + c) 0) (sZ S) = 20 + c := ty_new.2
  rw [tcell_o (by rw [ht]; omega), ht, show (20 + c) % 20 = c by omega]
  refine ⟨_, hg, (u_born (tTy c) hts (tcl_in c hc) hKn hkC e1 (tcl_ty c hc)).to fun j hj => ?_⟩
  rw [tfv_new (b := B.2) (n := 0) (S := S) (I := I) (J := J) hc (by rw [← hn]; exact hj)]
  have hj' : j < (tkl (20 + c)).length := by rw [← hn]; exact hj
  simp only [vp_V, List.getD_eq_getElem?_getD, List.getElem?_map, List.getElem?_range hj', Option.map_some, Option.getD_some]
theorem lCIv (hO : tKO K B own cc nL) {y : MethodName} {c : ByteArray} {n argc idx w d' mc ms : Nat} {a : Nat} {vs : List tSV} {post : tS3 → Prop} (hM : Met (kl K) y (tWs y c n none) (tRm d' mc ms) (tPc B (vR a :: vs) S I J) (tQv B post) mc ms (tA B)) (hc : tCm y c n none argc ∧ Cond.instanceMethod y ∈ wsL_law ∧ y.name = "<init>") (hl : wsL_law[w]? = some (Cond.methodLink own idx y)) (hR : kR K = room_1) (hq : d' ≤ 100 ∧ n ≤ 21 ∧ cl + mc ≤ 600000 ∧ sl + ms ≤ 7302250) (hvs : vs.length = argc ∧ st.length ≤ 4 ∧ L.length = nL) (hd : decode cc pc = .ok (.invokespecial idx, 3)) (kk : ∀ (u : tS3), post u → tGr u.1 → tWG K B (cl + mc) (sl + ms) u.1 u.2.1 u.2.2 (pc + 3) L st) : tWG K B cl sl S I J pc L (vs.reverse ++ vR a :: st) := by
  intro H locs ls hR0 hL
  have e : (vs.reverse ++ vR a :: st).map (tvv B.2) = (vs.map (tvv B.2)).reverse ++ Value.ref (B.2 + a) :: st.map (tvv B.2) := by simp [tvv, va_rf]
  rw [e]
  exact va_callv (va_runI (As := vs.map (tvv B.2)) (rest := st.map (tvv B.2)) ⟨hO.1, hO.2.1, hO.2.2.1, hO.2.2.2.1, hO.2.2.2.2.1⟩ hM ⟨tCallBL hO hc.1 hl hR hq.1 hq.2.1, hc.2.2, hO.2.2.2.2.1 _ hc.2.1⟩ ⟨tPc_blind, fun U hU hW => ⟨rfl, by rw [hU]; exact hR0.1, by rw [hU]; exact hR0.2.1, va_K.moved hW.alike hO.2.2.2.2.2.1, hR0.2.2.2, hO.2.2.2.2.2.2.2.at hR0.2.2.1 hU hW⟩⟩ rfl (by rw [List.length_map]; exact hvs.1) (hL.1.trans hvs.2.2) rfl (lv_room (tcats hvs.2.1)) hd (by rw [hR]; exact hq.2.2)) hR0.2.2.1 (fun q _ h => h) (fun q h => h) (fun u t H1 locs1 ht _ hp hB _ _ hS => kk u hp hB.2.2.2.1 H1 locs1 ls ⟨by rw [← ht]; exact hB.1, by rw [← ht]; exact hB.2.1, hS, hB.2.2.2.1⟩ hL)
end LN
def eS0 : tSH := (fun _ _ => none, fun _ => 0, fun _ => 0, 0)
def eI0 : tHI := fun _ _ => 0
def eJ0 : tHJ := fun _ _ => 0
def eI1 : tHI := NI11_init (uZI eI0 0) (uZJ eJ0 0)
def eJ1 : tHJ := NJ11_init (uZI eI0 0) (uZJ eJ0 0)
def eI2 : tHI := NI12_init (uZI eI1 61) (uZJ eJ1 61)
def eJ2 : tHJ := NJ12_init (uZI eI1 61) (uZJ eJ1 61)
set_option maxRecDepth 100000 in
theorem e_RN : RN (eI2 1) (eI2 2) (eI2 7) (eI2 63) := by
  show eI2 1 4 = eI2 63 3 ∧ eI2 1 5 = eI2 63 4 ∧ eI2 2 0 = eI2 63 0 ∧ eI2 7 0 = eI2 63 1 ∧ eI2 7 5 = eI2 63 2
  decide +kernel
set_option maxRecDepth 100000 in
theorem e_RLd : RLd (eI2 3) (eI2 4) (eI2 5) (eI2 6) (eI2 63) := by
  show ∀ i, i < 6 → eI2 3 i = eI2 63 (26 + i) ∧ eI2 4 i = eI2 63 (14 + i) ∧ eI2 5 i = eI2 63 (32 + i) ∧ eI2 6 i = eI2 63 (20 + i)
  decide +kernel
set_option maxRecDepth 100000 in
theorem e_RB : RB (eI2 8) (eI2 9) (eI2 10) (eI2 11) (eI2 63) := by
  show ∀ b, b < 12 → eI2 8 b = eI2 63 (38 + 4 * b) ∧ eI2 9 b = eI2 63 (38 + 4 * b + 1) ∧ eI2 10 b = eI2 63 (38 + 4 * b + 2) ∧ eI2 11 b = eI2 63 (38 + 4 * b + 3)
  decide +kernel
set_option maxRecDepth 100000 in
theorem e_RG : RG (eI2 12) (eI2 13) (eI2 14) (eI2 63) := by
  show ∀ s, s < 8 → eI2 12 s = eI2 63 (86 + 3 * s) ∧ eI2 13 s = eI2 63 (86 + 3 * s + 1) ∧ eI2 14 s = eI2 63 (86 + 3 * s + 2)
  decide +kernel
set_option maxRecDepth 100000 in
theorem e_RT : RT (eI2 15) (eI2 63) := by
  show eI2 15 0 = eI2 63 8 ∧ eI2 15 1 = eI2 63 11 ∧ eI2 15 2 = eI2 63 9 ∧ eI2 15 3 = eI2 63 10 ∧ eI2 15 4 = eI2 63 12 ∧ eI2 15 5 = eI2 63 13 ∧ eI2 15 6 = eI2 63 5 ∧ eI2 15 7 = eI2 63 6 ∧ eI2 15 8 = eI2 63 7
  decide +kernel
set_option maxRecDepth 100000 in
theorem e_row : (eI2 63 0 = 0 ∧ eI2 63 1 = 0 ∧ eI2 63 2 = 0 ∧ eI2 63 3 = 0 ∧ eI2 63 4 = -1 ∧ eI2 63 5 = 10 ∧ eI2 63 6 = 20 ∧ eI2 63 7 = 0 ∧ eI2 63 8 = 0) ∧ ∀ k, k < 110 → 9 ≤ k → eI2 63 k = 0 := by decide +kernel
theorem e_RK : RK (eI2 63) := by
  obtain ⟨⟨r0, r1, r2, r3, r4, r5, r6, r7, r8⟩, rz⟩ := e_row
  have z0 : (0 : Int32).toInt = 0 := rfl
  refine ⟨⟨⟨0, r0, by omega⟩, ⟨0, r1, by omega⟩, ⟨0, r2, by omega⟩, ⟨0, r3, by omega⟩, ?_, ⟨10, r5, by omega, by omega⟩, ⟨20, r6, by omega, by omega⟩, ⟨0, r7, by omega⟩, ?_⟩, fun i hi => ⟨⟨0, rz _ (by omega) (by omega), by omega⟩, Or.inl (rz _ (by omega) (by omega))⟩, ⟨⟨0, rz 9 (by omega) (by omega), Or.inl rfl, by omega⟩, ⟨0, rz 10 (by omega) (by omega), by omega⟩, ⟨0, rz 11 (by omega) (by omega), by omega⟩, ⟨0, rz 13 (by omega) (by omega), by omega⟩, fun i hi => ⟨⟨0, rz _ (by omega) (by omega), by omega⟩, ?_, fun _ => rz _ (by omega) (by omega)⟩⟩, fun b hb => ⟨?_, ⟨0, rz _ (by omega) (by omega), by omega⟩, ?_, ⟨0, rz _ (by omega) (by omega), by omega⟩⟩, fun s hs => ?_⟩
  · rw [r4, r3, qneg, z0]; omega
  · rw [r8, z0]; omega
  · show -2 ≤ (eI2 63 (9 + (11 + i))).toInt ∧ (eI2 63 (9 + (11 + i))).toInt ≤ 2
    rw [rz _ (by omega) (by omega), z0]; omega
  · rw [rz _ (by omega) (by omega), z0]; omega
  · rw [rz _ (by omega) (by omega), z0]; omega
  · rw [r2, z0] at hs; omega
set_option maxRecDepth 100000 in
theorem e_cells : (eI2 34 1 = 0 ∧ eI2 61 8 = 0 ∧ eI2 38 1 = 0 ∧ eI2 61 13 = 0) ∧ (eI2 65 0 = 0 ∧ eI2 65 1 = 0) ∧ (eI2 40 1 = eI2 61 18 ∧ eI2 0 16 = eI2 61 53 ∧ eI2 0 17 = eI2 61 11 ∧ eI2 0 18 = eI2 61 1) ∧ (eI2 59 1 = eI2 62 1 ∧ eI2 59 2 = eI2 62 2 ∧ eI2 59 3 = eI2 62 3 ∧ eI2 59 5 = eI2 62 5 ∧ eI2 59 6 = eI2 62 6) ∧ (eI2 0 13 = 0 ∧ eI2 61 57 = 0) ∧ (eI2 61 20 = 0 ∧ eI2 61 41 = 63) ∧ (eI2 49 8 = -1 ∧ eI2 49 9 = -1 ∧ eI2 49 10 = -1) ∧ ∀ i, i < 6 → eI2 50 i = -1 := by decide +kernel
set_option maxRecDepth 100000 in
theorem e_longs : (∀ i, i < 12 → eJ2 76 i = w76.getD i 0) ∧ (∀ i, i < 8 → eJ2 77 i = w77.getD i 0) ∧ (∀ i, i < 6 → eJ2 78 i = w78.getD i 0) ∧ ∀ i, i < 6 → eJ2 86 i = w86.getD i 0 := by decide +kernel
theorem Inv_0 {S : tSH} (hT : TY S) (h33 : ∀ j, sQ S 33 j = none) : Inv S eI2 eJ2 := by
  obtain ⟨⟨c1, c2, c3, c4⟩, ⟨c5, c6⟩, c7, c8, c9, c10, c11, c12⟩ := e_cells
  obtain ⟨⟨r0, r1, r2, r3, r4, r5, r6, r7, r8⟩, rz⟩ := e_row
  obtain ⟨l1, l2, l3, l4⟩ := e_longs
  refine ⟨hT, ⟨e_RN, e_RLd, e_RB, e_RG, e_RT, e_RK, fun i hi => ?_⟩, ⟨0, by omega, c1, c2, fun k hk => by omega⟩, ⟨0, by omega, c3, c4, fun k hk => by omega⟩, ⟨fun j hj => Or.inl ⟨h33 j, ?_⟩, fun a ha => ?_⟩, ⟨c7, c8, Or.inl c9⟩, c10, c11, c12, l1, l2, l3, l4⟩
  · rw [r3, show (0 : Int32).toInt = 0 from rfl] at hi; omega
  · have : j = 0 ∨ j = 1 := by omega
    rcases this with e | e <;> subst e
    · exact c5
    · exact c6
  · rw [h33] at ha; cases ha
theorem all_steps : tSteps 20000 Inv := ⟨st_load (by omega), st_of (by omega), st_bend, st_clear, st_at (by omega), st_bars, st_terms, st_feed (by omega), st_end, st_row (by omega), st_mud, st_law (by omega), st_orders (by omega), st_fault, st_stopped, st_force, st_gas (by omega), st_brake (by omega), st_lane (by omega), st_put (by omega), st_lean (by omega), st_ride (by omega), st_undo (by omega), st_goes (by omega), st_quick (by omega), st_soonest (by omega), st_lanes (by omega), st_leaning (by omega), st_putting (by omega), st_setting (by omega), st_learning (by omega), st_sight, st_forget, st_aboard (by omega), st_days (by omega), st_drawn, st_image (by omega), st_back (by omega), st_count, st_status⟩
