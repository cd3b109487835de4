def F11_back (n : Nat) (S : tSH) (I : tHI) (J : tHJ) (v1 : Int32) (k : Int32 → tSH → tHI → tHJ → Prop) : Prop := ((V11_within v1 0 1) = 0 → F11_settle n S I J (-1) (fun x I2 J2 => k x S I2 J2)) ∧ (¬ (V11_within v1 0 1) = 0 → vp_in v1 2 ∧ ((sQ S 33 v1.toNatClampNeg) = none → F11_settle n S I J (-2) (fun x I2 J2 => k x S I2 J2)) ∧ (∀ a, (sQ S 33 v1.toNatClampNeg) = some a → F8_copyFrom n S I J 1 a (fun S1 I1 J1 => ty S1 0 11 ∧ F11_settle n S1 (uI I1 34 1 0) J1 0 (fun x I2 J2 => k x S1 I2 J2))))
set_option maxRecDepth 20000 in
theorem hc11_back : tCV yX11_back cX11_back 3 (some .int) 1 := ⟨⟨(List.mem_of_getElem? (i := 1442) rfl), (List.mem_of_getElem? (i := 2) (by decide +kernel)), by decide +kernel⟩, (List.mem_of_getElem? (i := 1440) (by decide +kernel)), (List.mem_of_getElem? (i := 1441) (by decide +kernel))⟩
set_option maxRecDepth 100000 in
theorem M11_back {l : Launch} {B : tB} {S : tSH} {I : tHI} {J : tHJ} {v1 : Int32} {n : Nat} {k : Int32 → tSH → tHI → tHJ → Prop} (t0 : ty S 0 11) (h : F11_back n S I J v1 k) : Met l yX11_back (tWs yX11_back cX11_back 3 (some .int)) (tRm 4 0 0) (tPc B [vR 0, vI v1] S I J) (tQi B (fun v u => k v u.1 u.2.1 u.2.2 ∧ tGr u.1)) 0 0 (tA B) :=
  tEntry (by decide +kernel) [some (vR 0), some (vI v1), none] rfl rfl (Nat.le_of_ble_eq_true rfl) (fun K hl hR hO hQ hG => by
  subst hl
  refine gBk (pe := 3) hO [o0 (.iload_n 1), oI (.iconst 0) 0, oI (.iconst 1) 1] (by decide +kernel) (show tWG K B 0 0 S I J 3 [some (vR 0), some (vI v1), none] [vI 1, vI 0, vI v1] from ?_)
  refine gCSi_z hO (M11_within) hc11_within (idx := 106) (w := 245) (by decide +kernel) hR (by omega) (vs := [vI v1, vI 0, vI 1]) (st := []) ⟨rfl, Nat.le_of_ble_eq_true rfl, rfl⟩ (by decide +kernel) (fun z1 => ?_)
  refine gIfNe hO (off := 9) (tgt := 15) (by decide +kernel) (by decide) (fun c2 => ?_) (fun c2 => ?_)
  · have h := h.2 c2
    refine gBk (pe := 21) hO [o0 (.aload_n 0), oF (.getfield 19) 11 2 17 33, o0 (.iload_n 1), oF .aaload 43 0 0 0] (by decide +kernel) (And.intro t0 (And.intro rfl (And.intro (tGr.off hG t0 (k := 2) rfl) (And.intro (tin (tGr.len hG t0 (k := 2) rfl (by decide)) h.1) (show tWG K B 0 0 S I J 21 [some (vR 0), some (vI v1), none] [vO (sQ S 33 v1.toNatClampNeg)] from ?_)))))
    have h := h.2
    refine gCaseO (fun e3 => ?_) (fun a e3 => ?_)
    · have h := h.1 e3
      refine gBk (pe := 23) hO [o0 (.astore_n 2), o0 (.aload_n 2)] (by decide +kernel) (And.intro (Nat.le_of_ble_eq_true rfl) (show tWG K B 0 0 S I J 23 [some (vR 0), some (vI v1), some vN] [vO none] from ?_))
      refine gIfnonnull hO (o := none) (off := 10) (tgt := 33) (by decide +kernel) (by decide) (fun _ e => by cases e) (fun _ => ?_)
      refine gBk (pe := 29) hO [o0 (.aload_n 0), oI (.bipush (-2)) (-2)] (by decide +kernel) (show tWG K B 0 0 S I J 29 [some (vR 0), some (vI v1), some vN] [vI (-2), vR 0] from ?_)
      refine gCVi_c hO (M11_settle t0 h) hc11_settle (idx := 110) (w := 248) (by decide +kernel) hR (by omega) t0 ⟨by decide, rfl⟩ (vs := [vI (-2)]) (st := []) ⟨rfl, Nat.le_of_ble_eq_true rfl, rfl⟩ (by decide +kernel) (fun x I8 J8 h => ?_)
      refine gWiden (cl' := 0) (sl' := 0) (by omega) (by omega) ?_
      exact gIret hO hQ (by decide +kernel) ⟨h, hG⟩
    · have h := h.2 a e3
      have ta : ty S a 8 := (hG _ _ (tGr.off hG t0 (k := 2) rfl)).2.1 rfl _ _ e3
      refine gBk (pe := 23) hO [o0 (.astore_n 2), o0 (.aload_n 2)] (by decide +kernel) (And.intro (Nat.le_of_ble_eq_true rfl) (show tWG K B 0 0 S I J 23 [some (vR 0), some (vI v1), some (vR a)] [vO (some a)] from ?_))
      refine gIfnonnull hO (o := some a) (off := 10) (tgt := 33) (by decide +kernel) (by decide) (fun _ _ => ?_) (fun e => by cases e)
      refine gBk (pe := 38) hO [o0 (.aload_n 0), oF (.getfield 12) 11 0 15 1, o0 (.aload_n 2)] (by decide +kernel) (And.intro t0 (And.intro rfl (show tWG K B 0 0 S I J 38 [some (vR 0), some (vI v1), some (vR a)] [vR a, vR 1] from ?_)))
      refine gCVv hO (M8_copyFrom (tGr.off hG t0 (k := 0) rfl) ta h) hc8_copyFrom (idx := 234) (w := 896) (by decide +kernel) hR (by omega) (tGr.off hG t0 (k := 0) rfl) ⟨by decide, rfl⟩ (vs := [vR a]) (st := []) ⟨rfl, Nat.le_of_ble_eq_true rfl, rfl⟩ (by decide +kernel) (fun u hu => ?_)
      obtain ⟨S1, I1, J1⟩ := u
      obtain ⟨⟨t1, h⟩, hG1⟩ := hu
      replace t1 : ty S1 0 11 := t1
      replace h : F11_settle n S1 (uI I1 34 1 0) J1 0 (fun x I2 J2 => k x S1 I2 J2) := h
      refine gBk (pe := 51) hO [o0 (.aload_n 0), oF (.getfield 26) 11 3 21 34, oI (.iconst 0) 0, oF (.putfield 129) 1 1 244 0, o0 (.aload_n 0), oI (.iconst 0) 0] (by decide +kernel) (And.intro t1 (And.intro rfl (And.intro (tGr.off hG1 t1 (k := 3) rfl) (show tWG K B 0 0 S1 (uI I1 34 1 0) J1 51 [some (vR 0), some (vI v1), some (vR a)] [vI 0, vR 0] from ?_))))
      refine gCVi_c hO (M11_settle t1 h) hc11_settle (idx := 110) (w := 248) (by decide +kernel) hR (by omega) t1 ⟨by decide, rfl⟩ (vs := [vI 0]) (st := []) ⟨rfl, Nat.le_of_ble_eq_true rfl, rfl⟩ (by decide +kernel) (fun x I8 J8 h => ?_)
      refine gWiden (cl' := 0) (sl' := 0) (by omega) (by omega) ?_
      exact gIret hO hQ (by decide +kernel) ⟨h, hG1⟩
  · have h := h.1 c2
    refine gBk (pe := 11) hO [o0 (.aload_n 0), oI (.iconst (-1)) (-1)] (by decide +kernel) (show tWG K B 0 0 S I J 11 [some (vR 0), some (vI v1), none] [vI (-1), vR 0] from ?_)
    refine gCVi_c hO (M11_settle t0 h) hc11_settle (idx := 110) (w := 248) (by decide +kernel) hR (by omega) t0 ⟨by decide, rfl⟩ (vs := [vI (-1)]) (st := []) ⟨rfl, Nat.le_of_ble_eq_true rfl, rfl⟩ (by decide +kernel) (fun x I8 J8 h => ?_)
    refine gWiden (cl' := 0) (sl' := 0) (by omega) (by omega) ?_
    exact gIret hO hQ (by decide +kernel) ⟨h, hG⟩)
def F11_image (n : Nat) (S : tSH) (I : tHI) (J : tHJ) (v1 : Int32) (k : Int32 → tSH → tHI → tHJ → Prop) : Prop := ((V11_within v1 0 1) = 0 → F11_settle n S I J (-1) (fun x I2 J2 => k x S I2 J2)) ∧ (¬ (V11_within v1 0 1) = 0 → vp_in v1 2 ∧ ((sQ S 33 v1.toNatClampNeg) = none → ∀ S1, tGr S1 → tNew S S1 (sZ S) 8 16 → F8_copyFrom n (uQ S1 33 v1.toNatClampNeg (some (sZ S))) (NI8_init (uZI I (sZ S)) (uZJ J (sZ S)) (sZ S)) (NJ8_init (uZI I (sZ S)) (uZJ J (sZ S)) (sZ S)) (sZ S) 1 (fun S2 I1 J1 => ty S2 0 11 ∧ F11_settle n S2 I1 J1 0 (fun x I2 J2 => k x S2 I2 J2))) ∧ (∀ a, (sQ S 33 v1.toNatClampNeg) = some a → F8_copyFrom n S I J a 1 (fun S1 I1 J1 => ty S1 0 11 ∧ F11_settle n S1 I1 J1 0 (fun x I2 J2 => k x S1 I2 J2))))
set_option maxRecDepth 20000 in
theorem hc11_image : tCV yX11_image cX11_image 3 (some .int) 1 := ⟨⟨(List.mem_of_getElem? (i := 1434) rfl), (List.mem_of_getElem? (i := 2) (by decide +kernel)), by decide +kernel⟩, (List.mem_of_getElem? (i := 1432) (by decide +kernel)), (List.mem_of_getElem? (i := 1433) (by decide +kernel))⟩
set_option maxRecDepth 100000 in
theorem M11_image {l : Launch} {B : tB} {S : tSH} {I : tHI} {J : tHJ} {v1 : Int32} {n : Nat} {k : Int32 → tSH → tHI → tHJ → Prop} (t0 : ty S 0 11) (h : F11_image n S I J v1 k) : Met l yX11_image (tWs yX11_image cX11_image 3 (some .int)) (tRm 4 16 131) (tPc B [vR 0, vI v1] S I J) (tQi B (fun v u => k v u.1 u.2.1 u.2.2 ∧ tGr u.1)) 16 131 (tA B) :=
  tEntry (by decide +kernel) [some (vR 0), some (vI v1), none] rfl rfl (Nat.le_of_ble_eq_true rfl) (fun K hl hR hO hQ hG => by
  subst hl
  refine gBk (pe := 3) hO [o0 (.iload_n 1), oI (.iconst 0) 0, oI (.iconst 1) 1] (by decide +kernel) (show tWG K B 0 0 S I J 3 [some (vR 0), some (vI v1), none] [vI 1, vI 0, vI v1] from ?_)
  refine gCSi_z hO (M11_within) hc11_within (idx := 106) (w := 245) (by decide +kernel) hR (by omega) (vs := [vI v1, vI 0, vI 1]) (st := []) ⟨rfl, Nat.le_of_ble_eq_true rfl, rfl⟩ (by decide +kernel) (fun z1 => ?_)
  refine gIfNe hO (off := 9) (tgt := 15) (by decide +kernel) (by decide) (fun c2 => ?_) (fun c2 => ?_)
  · have h := h.2 c2
    refine gBk (pe := 21) hO [o0 (.aload_n 0), oF (.getfield 19) 11 2 17 33, o0 (.iload_n 1), oF .aaload 43 0 0 0] (by decide +kernel) (And.intro t0 (And.intro rfl (And.intro (tGr.off hG t0 (k := 2) rfl) (And.intro (tin (tGr.len hG t0 (k := 2) rfl (by decide)) h.1) (show tWG K B 0 0 S I J 21 [some (vR 0), some (vI v1), none] [vO (sQ S 33 v1.toNatClampNeg)] from ?_)))))
    have h1 := h.1
    have h := h.2
    refine gCaseO (fun e3 => ?_) (fun a e3 => ?_)
    · have h := h.1 e3
      refine gBk (pe := 23) hO [o0 (.astore_n 2), o0 (.aload_n 2)] (by decide +kernel) (And.intro (Nat.le_of_ble_eq_true rfl) (show tWG K B 0 0 S I J 23 [some (vR 0), some (vI v1), some vN] [vO none] from ?_))
      refine gIfnonnull hO (o := none) (off := 18) (tgt := 41) (by decide +kernel) (by decide) (fun _ e => by cases e) (fun _ => ?_)
      generalize hzz : sZ S = z at h
      have h33 : ty S 33 43 := (tGr.off hG t0 (k := 2) rfl)
      have hl3 : sL S 33 = 2 := tGr.len hG t0 (k := 2) rfl (by decide)
      have z33 : 33 < z := by have := h33.1; omega
      refine s_new hO (c := 8) (idx := 9) (w1 := 12) (w2 := 13) (w3 := 14) (by decide) (by decide +kernel) (by decide +kernel) (by decide +kernel) hR ⟨by omega, by show _ + 6 ≤ _; omega⟩ (by decide +kernel) ?_
      rw [hzz]
      have tz : ty (uS S 28 0) z 28 := hzz ▸ ty_new
      refine gBk (pe := 30) hO [o0 .dup] (by decide +kernel) (show tWG K B 1 6 (uS S 28 0) (uZI I z) (uZJ J z) 30 [some (vR 0), some (vI v1), some vN] [vR z, vR z] from ?_)
      have hGs : tGr (uS S 28 0) := tGr_uS hG (by omega) (tkd_raw34 _ (by omega))
      refine gCNv hO (M8_init tz (show sZ S + 1 = z + 1 by rw [hzz]) (fun j => by show (if z = sZ S then none else sQ S z j) = none; rw [if_pos hzz.symm])) hc8_init (idx := 11) (w := 0) rfl hR ⟨by omega, by decide, by omega, by omega⟩ (vs := []) (st := [vR z]) ⟨rfl, Nat.le_of_ble_eq_true rfl, rfl⟩ (by decide +kernel) (fun u hu _ => ?_)
      obtain ⟨S1, I9, J9⟩ := u
      obtain ⟨hg, hn, hi, hj⟩ := hu
      simp only at hi hj
      subst hi hj
      have hx : tExt S S1 z := by
        have h1 : tExt S (uS S 28 0) z := (tExt.rf (by omega)).uS'
        exact h1.trans hn.1 (Nat.le_refl z)
      have hnew : tNew S S1 z 8 16 := ⟨hx, hn.2.1, hn.2.2⟩
      have h := h S1 hg hnew
      have t1 : ty S1 0 11 := hx.2.1 _ _ (by omega) t0
      have tz1 : ty S1 z 8 := hn.2.1
      generalize NI8_init (uZI I z) (uZJ J z) z = I5 at h ⊢
      generalize NJ8_init (uZI I z) (uZJ J z) z = J5 at h ⊢
      refine gBk (pe := 40) hO [o0 (.astore_n 2), o0 (.aload_n 0), oF (.getfield 19) 11 2 17 33, o0 (.iload_n 1), o0 (.aload_n 2)] (by decide +kernel) (And.intro (Nat.le_of_ble_eq_true rfl) (And.intro t1 (And.intro rfl (show tWG K B 16 131 S1 I5 J5 40 [some (vR 0), some (vI v1), some (vR z)] [vO (some z), vI v1, vR 33] from ?_))))
      have f1 : ty S1 33 43 := (tGr.off hg t1 (k := 2) rfl)
      have g1 : sL S1 33 = 2 := tGr.len hg t1 (k := 2) rfl (by decide)
      refine s_aast hO (i' := v1.toNatClampNeg) (o := some z) (Or.inl ⟨rfl, rfl⟩) f1 (fun x hx => by cases hx; exact tz1) (tin g1 h1) rfl (by decide +kernel) ?_
      have hG2 : tGr (uQ S1 33 v1.toNatClampNeg (some z)) := tGr_uQ hg (fun t ht x hx => by
        have e : t = 43 := ht.2.symm.trans f1.2
        cases hx
        exact ⟨fun q => by omega, fun _ => tz1, fun q => by omega⟩)
      have t2 : ty (uQ S1 33 v1.toNatClampNeg (some z)) 0 11 := t1
      have tz2 : ty (uQ S1 33 v1.toNatClampNeg (some z)) z 8 := tz1
      generalize uQ S1 33 v1.toNatClampNeg (some z) = S2 at h hG2 t2 tz2 ⊢
      refine gBk (pe := 46) hO [o0 (.aload_n 2), o0 (.aload_n 0), oF (.getfield 12) 11 0 15 1] (by decide +kernel) (And.intro t2 (And.intro rfl (show tWG K B 16 131 S2 I5 J5 46 [some (vR 0), some (vI v1), some (vR z)] [vR 1, vR z] from ?_)))
      refine gCVv hO (M8_copyFrom tz2 (tGr.off hG2 t2 (k := 0) rfl) h) hc8_copyFrom (idx := 234) (w := 896) (by decide +kernel) hR (by omega) tz2 ⟨by decide, rfl⟩ (vs := [vR 1]) (st := []) ⟨rfl, Nat.le_of_ble_eq_true rfl, rfl⟩ (by decide +kernel) (fun u hu => ?_)
      obtain ⟨S3, I1, J1⟩ := u
      obtain ⟨⟨t3, h⟩, hG3⟩ := hu
      replace t3 : ty S3 0 11 := t3
      replace h : F11_settle n S3 I1 J1 0 (fun x I2 J2 => k x S3 I2 J2) := h
      refine gBk (pe := 51) hO [o0 (.aload_n 0), oI (.iconst 0) 0] (by decide +kernel) (show tWG K B 16 131 S3 I1 J1 51 [some (vR 0), some (vI v1), some (vR z)] [vI 0, vR 0] from ?_)
      refine gCVi_c hO (M11_settle t3 h) hc11_settle (idx := 110) (w := 248) (by decide +kernel) hR (by omega) t3 ⟨by decide, rfl⟩ (vs := [vI 0]) (st := []) ⟨rfl, Nat.le_of_ble_eq_true rfl, rfl⟩ (by decide +kernel) (fun x I8 J8 h => ?_)
      refine gWiden (cl' := 16) (sl' := 131) (by omega) (by omega) ?_
      exact gIret hO hQ (by decide +kernel) ⟨h, hG3⟩
    · have h := h.2 a e3
      have ta : ty S a 8 := (hG _ _ (tGr.off hG t0 (k := 2) rfl)).2.1 rfl _ _ e3
      refine gBk (pe := 23) hO [o0 (.astore_n 2), o0 (.aload_n 2)] (by decide +kernel) (And.intro (Nat.le_of_ble_eq_true rfl) (show tWG K B 0 0 S I J 23 [some (vR 0), some (vI v1), some (vR a)] [vO (some a)] from ?_))
      refine gIfnonnull hO (o := some a) (off := 18) (tgt := 41) (by decide +kernel) (by decide) (fun _ _ => ?_) (fun e => by cases e)
      refine gBk (pe := 46) hO [o0 (.aload_n 2), o0 (.aload_n 0), oF (.getfield 12) 11 0 15 1] (by decide +kernel) (And.intro t0 (And.intro rfl (show tWG K B 0 0 S I J 46 [some (vR 0), some (vI v1), some (vR a)] [vR 1, vR a] from ?_)))
      refine gCVv hO (M8_copyFrom ta (tGr.off hG t0 (k := 0) rfl) h) hc8_copyFrom (idx := 234) (w := 896) (by decide +kernel) hR (by omega) ta ⟨by decide, rfl⟩ (vs := [vR 1]) (st := []) ⟨rfl, Nat.le_of_ble_eq_true rfl, rfl⟩ (by decide +kernel) (fun u hu => ?_)
      obtain ⟨S3, I1, J1⟩ := u
      obtain ⟨⟨t3, h⟩, hG3⟩ := hu
      replace t3 : ty S3 0 11 := t3
      replace h : F11_settle n S3 I1 J1 0 (fun x I2 J2 => k x S3 I2 J2) := h
      refine gBk (pe := 51) hO [o0 (.aload_n 0), oI (.iconst 0) 0] (by decide +kernel) (show tWG K B 0 0 S3 I1 J1 51 [some (vR 0), some (vI v1), some (vR a)] [vI 0, vR 0] from ?_)
      refine gCVi_c hO (M11_settle t3 h) hc11_settle (idx := 110) (w := 248) (by decide +kernel) hR (by omega) t3 ⟨by decide, rfl⟩ (vs := [vI 0]) (st := []) ⟨rfl, Nat.le_of_ble_eq_true rfl, rfl⟩ (by decide +kernel) (fun x I8 J8 h => ?_)
      refine gWiden (cl' := 16) (sl' := 131) (by omega) (by omega) ?_
      exact gIret hO hQ (by decide +kernel) ⟨h, hG3⟩
  · have h := h.1 c2
    refine gBk (pe := 11) hO [o0 (.aload_n 0), oI (.iconst (-1)) (-1)] (by decide +kernel) (show tWG K B 0 0 S I J 11 [some (vR 0), some (vI v1), none] [vI (-1), vR 0] from ?_)
    refine gCVi_c hO (M11_settle t0 h) hc11_settle (idx := 110) (w := 248) (by decide +kernel) hR (by omega) t0 ⟨by decide, rfl⟩ (vs := [vI (-1)]) (st := []) ⟨rfl, Nat.le_of_ble_eq_true rfl, rfl⟩ (by decide +kernel) (fun x I8 J8 h => ?_)
    refine gWiden (cl' := 16) (sl' := 131) (by omega) (by omega) ?_
    exact gIret hO hQ (by decide +kernel) ⟨h, hG⟩)
def F11_law (n : Nat) (S : tSH) (I : tHI) (J : tHJ) (k : Int32 → tSH → tHI → tHJ → Prop) : Prop := (¬ (I 1 4) < 6 → F11_settle n S (uI I 38 1 0) J (-5) (fun x I2 J2 => k x S I2 J2)) ∧ ((I 1 4) < 6 → F4_read n S I J 38 0 (fun x I1 J1 => (x = 0 → F11_settle n (uQ S 40 2 (some 38)) (uI I1 38 1 0) J1 (-6) (fun x I2 J2 => k x (uQ S 40 2 (some 38)) I2 J2)) ∧ (¬ x = 0 → F6_copy (uQ S 40 2 (some 38)) (uI I1 38 1 0) J1 41 (fun p S2 I2 J2 => ty S2 1 8 ∧ F8_addLaw S2 I2 J2 1 p (fun v S3 I3 J3 => ty S3 0 11 ∧ F11_settle n S3 I3 J3 v (fun x I4 J4 => k x S3 I4 J4))))))
set_option maxRecDepth 20000 in
theorem hc11_law : tCV yX11_law cX11_law 2 (some .int) 0 := ⟨⟨(List.mem_of_getElem? (i := 609) rfl), (List.mem_of_getElem? (i := 2) (by decide +kernel)), by decide +kernel⟩, (List.mem_of_getElem? (i := 607) (by decide +kernel)), (List.mem_of_getElem? (i := 608) (by decide +kernel))⟩
set_option maxRecDepth 100000 in
theorem M11_law {l : Launch} {B : tB} {S : tSH} {I : tHI} {J : tHJ} {n : Nat} {k : Int32 → tSH → tHI → tHJ → Prop} (t0 : ty S 0 11) (h : F11_law n S I J k) : Met l yX11_law (tWs yX11_law cX11_law 2 (some .int)) (tRm 83 5 467) (tPc B [vR 0] S I J) (tQi B (fun v u => k v u.1 u.2.1 u.2.2 ∧ tGr u.1)) 5 467 (tA B) :=
  tEntry (by decide +kernel) [some (vR 0), none] rfl rfl (Nat.le_of_ble_eq_true rfl) (fun K hl hR hO hQ hG => by
  subst hl
  refine gBk (pe := 9) hO [o0 (.aload_n 0), oF (.getfield 12) 11 0 15 1, oF (.getfield 213) 8 4 610 0, oI (.bipush 6) 6] (by decide +kernel) (And.intro t0 (And.intro rfl (And.intro (tGr.off hG t0 (k := 0) rfl) (show tWG K B 0 0 S I J 9 [some (vR 0), none] [vI 6, vI (I 1 4)] from ?_))))
  refine gIcLt hO (off := 18) (tgt := 27) (by decide +kernel) (by decide) (fun c2 => ?_) (fun c2 => ?_)
  · have h := h.2 c2
    refine gBk (pe := 36) hO [o0 (.aload_n 0), oF (.getfield 43) 11 6 30 40, o0 (.aload_n 0), oF (.getfield 36) 11 5 26 38, oI (.iconst 0) 0] (by decide +kernel) (And.intro t0 (And.intro rfl (And.intro t0 (And.intro rfl (show tWG K B 0 0 S I J 36 [some (vR 0), none] [vI 0, vR 38, vR 40] from ?_)))))
    refine gCVi hO (M4_read (tGr.off hG t0 (k := 6) rfl) (tGr.off hG t0 (k := 5) rfl) h) hc4_read (idx := 216) (w := 612) (by decide +kernel) hR (by omega) (tGr.off hG t0 (k := 6) rfl) ⟨by decide, rfl⟩ (vs := [vR 38, vI 0]) (st := []) ⟨rfl, Nat.le_of_ble_eq_true rfl, rfl⟩ (by decide +kernel) (fun x1 u hu => ?_)
    obtain ⟨S1, I1, J1⟩ := u
    obtain ⟨hu, z1, h⟩ := hu
    replace hu : S1 = uQ S 40 2 (some 38) := hu
    have hG1 : tGr (uQ S 40 2 (some 38)) := tGr_uQ hG (fun t ht x hx => by
      have e : t = 4 := ht.2.symm.trans (tGr.off hG t0 (k := 6) rfl).2
      cases hx
      exact ⟨fun _ _ => by subst e; exact (tGr.off hG t0 (k := 5) rfl), fun q => by omega, fun q => by omega⟩)
    have t1 : ty (uQ S 40 2 (some 38)) 0 11 := t0
    subst hu
    simp only at h
    generalize uQ S 40 2 (some 38) = S1 at h hG1 t1 ⊢
    refine gBk (pe := 49) hO [o0 (.istore_n 1), o0 (.aload_n 0), oF (.getfield 36) 11 5 26 38, oI (.iconst 0) 0, oF (.putfield 202) 9 1 559 0, o0 (.iload_n 1)] (by decide +kernel) (And.intro (Nat.le_of_ble_eq_true rfl) (And.intro t1 (And.intro rfl (And.intro (tGr.off hG1 t1 (k := 5) rfl) (show tWG K B 0 0 S1 (uI I1 38 1 0) J1 49 [some (vR 0), some (vI x1)] [vI x1] from ?_)))))
    refine gIfNe hO (off := 10) (tgt := 59) (by decide +kernel) (by decide) (fun c3 => ?_) (fun c3 => ?_)
    · have h := h.2 c3
      refine gBk (pe := 71) hO [o0 (.aload_n 0), o0 (.aload_n 0), oF (.getfield 12) 11 0 15 1, o0 (.aload_n 0), oF (.getfield 43) 11 6 30 40, oF (.getfield 220) 4 0 611 41] (by decide +kernel) (And.intro t1 (And.intro rfl (And.intro t1 (And.intro rfl (And.intro (tGr.off hG1 t1 (k := 6) rfl) (And.intro rfl (show tWG K B 0 0 S1 (uI I1 38 1 0) J1 71 [some (vR 0), some (vI x1)] [vR 41, vR 1, vR 0] from ?_)))))))
      refine gCVq hO (M6_copy (tGr.off hG1 (tGr.off hG1 t1 (k := 6) rfl) (k := 0) rfl) h) hc6_copy (idx := 224) (w := 748) (by decide +kernel) hR (by omega) (tGr.off hG1 (tGr.off hG1 t1 (k := 6) rfl) (k := 0) rfl) ⟨by decide, rfl⟩ (vs := []) (st := [vR 1, vR 0]) ⟨rfl, Nat.le_of_ble_eq_true rfl, rfl⟩ (by decide +kernel) (fun p u hu => ?_)
      obtain ⟨S2, I2, J2⟩ := u
      obtain ⟨q, e4, tq, ⟨t2, h⟩, hG2⟩ := hu
      subst e4
      replace tq : ty S2 q 6 := tq
      replace t2 : ty S2 1 8 := t2
      replace h : F8_addLaw S2 I2 J2 1 q (fun v S3 I3 J3 => ty S3 0 11 ∧ F11_settle n S3 I3 J3 v (fun x I4 J4 => k x S3 I4 J4)) := h
      refine gCVi hO (M8_addLaw t2 tq h) hc8_addLaw (idx := 230) (w := 758) (by decide +kernel) hR (by omega) t2 ⟨by decide, rfl⟩ (vs := [vR q]) (st := [vR 0]) ⟨rfl, Nat.le_of_ble_eq_true rfl, rfl⟩ (by decide +kernel) (fun v u hu => ?_)
      obtain ⟨S3, I3, J3⟩ := u
      obtain ⟨⟨t3, h⟩, hG3⟩ := hu
      replace t3 : ty S3 0 11 := t3
      replace h : F11_settle n S3 I3 J3 v (fun x I4 J4 => k x S3 I4 J4) := h
      refine gCVi_c hO (M11_settle t3 h) hc11_settle (idx := 110) (w := 248) (by decide +kernel) hR (by omega) t3 ⟨by decide, rfl⟩ (vs := [vI v]) (st := []) ⟨rfl, Nat.le_of_ble_eq_true rfl, rfl⟩ (by decide +kernel) (fun x I8 J8 h => ?_)
      refine gWiden (cl' := 5) (sl' := 467) (by omega) (by omega) ?_
      exact gIret hO hQ (by decide +kernel) ⟨h, hG3⟩
    · have h := h.1 c3
      refine gBk (pe := 55) hO [o0 (.aload_n 0), oI (.bipush (-6)) (-6)] (by decide +kernel) (show tWG K B 0 0 S1 (uI I1 38 1 0) J1 55 [some (vR 0), some (vI x1)] [vI (-6), vR 0] from ?_)
      refine gCVi_c hO (M11_settle t1 h) hc11_settle (idx := 110) (w := 248) (by decide +kernel) hR (by omega) t1 ⟨by decide, rfl⟩ (vs := [vI (-6)]) (st := []) ⟨rfl, Nat.le_of_ble_eq_true rfl, rfl⟩ (by decide +kernel) (fun x I8 J8 h => ?_)
      refine gWiden (cl' := 5) (sl' := 467) (by omega) (by omega) ?_
      exact gIret hO hQ (by decide +kernel) ⟨h, hG1⟩
  · have h := h.1 c2
    refine gBk (pe := 23) hO [o0 (.aload_n 0), oF (.getfield 36) 11 5 26 38, oI (.iconst 0) 0, oF (.putfield 202) 9 1 559 0, o0 (.aload_n 0), oI (.bipush (-5)) (-5)] (by decide +kernel) (And.intro t0 (And.intro rfl (And.intro (tGr.off hG t0 (k := 5) rfl) (show tWG K B 0 0 S (uI I 38 1 0) J 23 [some (vR 0), none] [vI (-5), vR 0] from ?_))))
    refine gCVi_c hO (M11_settle t0 h) hc11_settle (idx := 110) (w := 248) (by decide +kernel) hR (by omega) t0 ⟨by decide, rfl⟩ (vs := [vI (-5)]) (st := []) ⟨rfl, Nat.le_of_ble_eq_true rfl, rfl⟩ (by decide +kernel) (fun x I8 J8 h => ?_)
    refine gWiden (cl' := 5) (sl' := 467) (by omega) (by omega) ?_
    exact gIret hO hQ (by decide +kernel) ⟨h, hG⟩)
def F11_orders_L (n : Nat) (S : tSH) (k : Int32 → tSH → tHI → tHJ → Prop) : Nat → tHI → tHJ → Int32 → Prop
  | 0, _, _, _ => False
  | f + 1, I, J, v3 => ((I 41 4) ≤ v3 → F11_settle n S I J (I 0 14) (fun x I2 J2 => k x S I2 J2)) ∧ (¬ (I 41 4) ≤ v3 → F11_runClause n S I J 41 v3 (fun x I1 J1 => (x = 0 → F8_copyFrom n S I1 J1 1 17 (fun S2 I2 J2 => ty S2 0 11 ∧ F1_copyFrom n S2 I2 J2 34 36 (fun I3 J3 => F11_settle n S2 (uI I3 0 16 v3) J3 (-3) (fun x I4 J4 => k x S2 I4 J4)))) ∧ (¬ x = 0 → F11_orders_L n S k f I1 J1 (v3 + 1))))
def F11_orders (n : Nat) (S : tSH) (I : tHI) (J : tHJ) (k : Int32 → tSH → tHI → tHJ → Prop) : Prop := F4_read n S I J 38 1 (fun x I1 J1 => (x = 0 → F11_settle n (uQ S 40 2 (some 38)) (uI (uI I1 38 1 0) 0 16 (-1)) J1 (-6) (fun x I2 J2 => k x (uQ S 40 2 (some 38)) I2 J2)) ∧ (¬ x = 0 → F8_copyFrom n (uQ S 40 2 (some 38)) (uI (uI I1 38 1 0) 0 16 (-1)) J1 17 1 (fun S2 I2 J2 => ty S2 0 11 ∧ F1_copyFrom n S2 I2 J2 36 34 (fun I3 J3 => F11_orders_L n S2 k n (uI (uI I3 0 14 0) 0 15 (-1)) J3 0))))
set_option maxRecDepth 20000 in
theorem hc11_orders : tCV yX11_orders cX11_orders 4 (some .int) 0 := ⟨⟨(List.mem_of_getElem? (i := 894) rfl), (List.mem_of_getElem? (i := 2) (by decide +kernel)), by decide +kernel⟩, (List.mem_of_getElem? (i := 892) (by decide +kernel)), (List.mem_of_getElem? (i := 893) (by decide +kernel))⟩
set_option maxRecDepth 100000 in
theorem W11_orders_L {K : tK} {B : tB} {S : tSH} {MC MS : Nat} (hO : tKO K B RX11 cX11_orders 4) (hR : kR K = tRm 83 MC MS) {n : Nat} {k : Int32 → tSH → tHI → tHJ → Prop} (t0 : ty S 0 11) (hG : tGr S) (hQ : tRet K B (tQi B (fun v u => k v u.1 u.2.1 u.2.2 ∧ tGr u.1)) 0 0 (some .int)) : ∀ (f : Nat) (I : tHI) (J : tHJ) (v3 : Int32), F11_orders_L n S k f I J v3 → tWG K B 0 0 S I J 79 [some (vR 0), none, some (vR 41), some (vI v3)] [] := by
  intro f
  induction f with
  | zero => intro I J v3 h; exact h.elim
  | succ f ih =>
    intro I J v3 h
    have t41 : ty S 41 6 := (tGr.off hG (tGr.off hG t0 (k := 6) rfl) (k := 0) rfl)
    refine gBk (pe := 84) hO [o0 (.iload_n 3), o0 (.aload_n 2), oF (.getfield 241) 6 4 895 0] (by decide +kernel) (And.intro t41 (show tWG K B 0 0 S I J 84 [some (vR 0), none, some (vR 41), some (vI v3)] [vI (I 41 4), vI v3] from ?_))
    refine gIcGe hO (off := 52) (tgt := 136) (by decide +kernel) (by decide) (fun c2 => ?_) (fun c2 => ?_)
    · have h := h.1 c2
      refine gBk (pe := 141) hO [o0 (.aload_n 0), o0 (.aload_n 0), oF (.getfield 90) 11 14 51 0] (by decide +kernel) (And.intro t0 (show tWG K B 0 0 S I J 141 [some (vR 0), none, some (vR 41), some (vI v3)] [vI (I 0 14), vR 0] from ?_))
      refine gCVi_c hO (M11_settle t0 h) hc11_settle (idx := 110) (w := 248) (by decide +kernel) hR (by omega) t0 ⟨by decide, rfl⟩ (vs := [vI (I 0 14)]) (st := []) ⟨rfl, Nat.le_of_ble_eq_true rfl, rfl⟩ (by decide +kernel) (fun x I8 J8 h => ?_)
      refine gWiden (cl' := 0) (sl' := 0) (by omega) (by omega) ?_
      exact gIret hO hQ (by decide +kernel) ⟨h, hG⟩
    · have h := h.2 c2
      refine gBk (pe := 90) hO [o0 (.aload_n 0), o0 (.aload_n 2), o0 (.iload_n 3)] (by decide +kernel) (show tWG K B 0 0 S I J 90 [some (vR 0), none, some (vR 41), some (vI v3)] [vI v3, vR 41, vR 0] from ?_)
      refine gCVi_b hO (M11_runClause t0 t41 h) hc11_runClause (idx := 244) (w := 919) (by decide +kernel) hR (by omega) t0 ⟨by decide, rfl⟩ (vs := [vR 41, vI v3]) (st := []) ⟨rfl, Nat.le_of_ble_eq_true rfl, rfl⟩ (by decide +kernel) (fun x I1 J1 z1 h => ?_)
      refine gIfNe hO (off := 37) (tgt := 130) (by decide +kernel) (by decide) (fun c3 => ?_) (fun c3 => ?_)
      · have h := h.2 c3
        refine gBk (pe := 79) hO [oI (.iinc 3 1) 1, o0 (.goto (-54))] (by decide +kernel) (show tWG K B 0 0 S I1 J1 79 [some (vR 0), none, some (vR 41), some (vI (v3 + 1))] [] from ?_)
        exact ih _ _ _ h
      · have h := h.1 c3
        refine gBk (pe := 104) hO [o0 (.aload_n 0), oF (.getfield 12) 11 0 15 1, o0 (.aload_n 0), oF (.getfield 16) 11 1 16 17] (by decide +kernel) (And.intro t0 (And.intro rfl (And.intro t0 (And.intro rfl (show tWG K B 0 0 S I1 J1 104 [some (vR 0), none, some (vR 41), some (vI v3)] [vR 17, vR 1] from ?_)))))
        refine gCVv hO (M8_copyFrom (tGr.off hG t0 (k := 0) rfl) (tGr.off hG t0 (k := 1) rfl) h) hc8_copyFrom (idx := 234) (w := 896) (by decide +kernel) hR (by omega) (tGr.off hG t0 (k := 0) rfl) ⟨by decide, rfl⟩ (vs := [vR 17]) (st := []) ⟨rfl, Nat.le_of_ble_eq_true rfl, rfl⟩ (by decide +kernel) (fun u hu => ?_)
        obtain ⟨S2, I2, J2⟩ := u
        obtain ⟨⟨t2, h⟩, hG2⟩ := hu
        replace t2 : ty S2 0 11 := t2
        replace h : F1_copyFrom n S2 I2 J2 34 36 (fun I3 J3 => F11_settle n S2 (uI I3 0 16 v3) J3 (-3) (fun x I4 J4 => k x S2 I4 J4)) := h
        refine gBk (pe := 115) hO [o0 (.aload_n 0), oF (.getfield 26) 11 3 21 34, o0 (.aload_n 0), oF (.getfield 30) 11 4 22 36] (by decide +kernel) (And.intro t2 (And.intro rfl (And.intro t2 (And.intro rfl (show tWG K B 0 0 S2 I2 J2 115 [some (vR 0), none, some (vR 41), some (vI v3)] [vR 36, vR 34] from ?_)))))
        refine gCVv_c hO (M1_copyFrom (tGr.off hG2 t2 (k := 3) rfl) (tGr.off hG2 t2 (k := 4) rfl) h) hc1_copyFrom (idx := 238) (w := 914) (by decide +kernel) hR (by omega) (tGr.off hG2 t2 (k := 3) rfl) ⟨by decide, rfl⟩ (vs := [vR 36]) (st := []) ⟨rfl, Nat.le_of_ble_eq_true rfl, rfl⟩ (by decide +kernel) (fun I3 J3 h => ?_)
        refine gBk (pe := 126) hO [o0 (.aload_n 0), o0 (.iload_n 3), oF (.putfield 97) 11 16 53 0, o0 (.aload_n 0), oI (.bipush (-3)) (-3)] (by decide +kernel) (And.intro t2 (show tWG K B 0 0 S2 (uI I3 0 16 v3) J3 126 [some (vR 0), none, some (vR 41), some (vI v3)] [vI (-3), vR 0] from ?_))
        refine gCVi_c hO (M11_settle t2 h) hc11_settle (idx := 110) (w := 248) (by decide +kernel) hR (by omega) t2 ⟨by decide, rfl⟩ (vs := [vI (-3)]) (st := []) ⟨rfl, Nat.le_of_ble_eq_true rfl, rfl⟩ (by decide +kernel) (fun x I8 J8 h => ?_)
        refine gWiden (cl' := 0) (sl' := 0) (by omega) (by omega) ?_
        exact gIret hO hQ (by decide +kernel) ⟨h, hG2⟩
set_option maxRecDepth 100000 in
theorem M11_orders {l : Launch} {B : tB} {S : tSH} {I : tHI} {J : tHJ} {n : Nat} {k : Int32 → tSH → tHI → tHJ → Prop} (t0 : ty S 0 11) (h : F11_orders n S I J k) : Met l yX11_orders (tWs yX11_orders cX11_orders 4 (some .int)) (tRm 83 0 0) (tPc B [vR 0] S I J) (tQi B (fun v u => k v u.1 u.2.1 u.2.2 ∧ tGr u.1)) 0 0 (tA B) :=
  tEntry (by decide +kernel) [some (vR 0), none, none, none] rfl rfl (Nat.le_of_ble_eq_true rfl) (fun K hl hR hO hQ hG => by
  subst hl
  refine gBk (pe := 9) hO [o0 (.aload_n 0), oF (.getfield 43) 11 6 30 40, o0 (.aload_n 0), oF (.getfield 36) 11 5 26 38, oI (.iconst 1) 1] (by decide +kernel) (And.intro t0 (And.intro rfl (And.intro t0 (And.intro rfl (show tWG K B 0 0 S I J 9 [some (vR 0), none, none, none] [vI 1, vR 38, vR 40] from ?_)))))
  refine gCVi hO (M4_read (tGr.off hG t0 (k := 6) rfl) (tGr.off hG t0 (k := 5) rfl) h) hc4_read (idx := 216) (w := 612) (by decide +kernel) hR (by omega) (tGr.off hG t0 (k := 6) rfl) ⟨by decide, rfl⟩ (vs := [vR 38, vI 1]) (st := []) ⟨rfl, Nat.le_of_ble_eq_true rfl, rfl⟩ (by decide +kernel) (fun x1 u hu => ?_)
  obtain ⟨S1, I1, J1⟩ := u
  obtain ⟨hu, z1, h⟩ := hu
  replace hu : S1 = uQ S 40 2 (some 38) := hu
  have hG1 : tGr (uQ S 40 2 (some 38)) := tGr_uQ hG (fun t ht x hx => by
    have e : t = 4 := ht.2.symm.trans (tGr.off hG t0 (k := 6) rfl).2
    cases hx
    exact ⟨fun _ _ => by subst e; exact (tGr.off hG t0 (k := 5) rfl), fun q => by omega, fun q => by omega⟩)
  have t1 : ty (uQ S 40 2 (some 38)) 0 11 := t0
  subst hu
  simp only at h
  generalize uQ S 40 2 (some 38) = S1 at h hG1 t1 ⊢
  refine gBk (pe := 27) hO [o0 (.istore_n 1), o0 (.aload_n 0), oF (.getfield 36) 11 5 26 38, oI (.iconst 0) 0, oF (.putfield 202) 9 1 559 0, o0 (.aload_n 0), oI (.iconst (-1)) (-1), oF (.putfield 97) 11 16 53 0, o0 (.iload_n 1)] (by decide +kernel) (And.intro (Nat.le_of_ble_eq_true rfl) (And.intro t1 (And.intro rfl (And.intro (tGr.off hG1 t1 (k := 5) rfl) (And.intro t1 (show tWG K B 0 0 S1 (uI (uI I1 38 1 0) 0 16 (-1)) J1 27 [some (vR 0), some (vI x1), none, none] [vI x1] from ?_))))))
  refine gIfNe hO (off := 10) (tgt := 37) (by decide +kernel) (by decide) (fun c3 => ?_) (fun c3 => ?_)
  · have h := h.2 c3
    refine gBk (pe := 45) hO [o0 (.aload_n 0), oF (.getfield 16) 11 1 16 17, o0 (.aload_n 0), oF (.getfield 12) 11 0 15 1] (by decide +kernel) (And.intro t1 (And.intro rfl (And.intro t1 (And.intro rfl (show tWG K B 0 0 S1 (uI (uI I1 38 1 0) 0 16 (-1)) J1 45 [some (vR 0), some (vI x1), none, none] [vR 1, vR 17] from ?_)))))
    refine gCVv hO (M8_copyFrom (tGr.off hG1 t1 (k := 1) rfl) (tGr.off hG1 t1 (k := 0) rfl) h) hc8_copyFrom (idx := 234) (w := 896) (by decide +kernel) hR (by omega) (tGr.off hG1 t1 (k := 1) rfl) ⟨by decide, rfl⟩ (vs := [vR 1]) (st := []) ⟨rfl, Nat.le_of_ble_eq_true rfl, rfl⟩ (by decide +kernel) (fun u hu => ?_)
    obtain ⟨S2, I2, J2⟩ := u
    obtain ⟨⟨t2, h⟩, hG2⟩ := hu
    replace t2 : ty S2 0 11 := t2
    replace h : F1_copyFrom n S2 I2 J2 36 34 (fun I3 J3 => F11_orders_L n S2 k n (uI (uI I3 0 14 0) 0 15 (-1)) J3 0) := h
    refine gBk (pe := 56) hO [o0 (.aload_n 0), oF (.getfield 30) 11 4 22 36, o0 (.aload_n 0), oF (.getfield 26) 11 3 21 34] (by decide +kernel) (And.intro t2 (And.intro rfl (And.intro t2 (And.intro rfl (show tWG K B 0 0 S2 I2 J2 56 [some (vR 0), some (vI x1), none, none] [vR 34, vR 36] from ?_)))))
    refine gCVv_c hO (M1_copyFrom (tGr.off hG2 t2 (k := 4) rfl) (tGr.off hG2 t2 (k := 3) rfl) h) hc1_copyFrom (idx := 238) (w := 914) (by decide +kernel) hR (by omega) (tGr.off hG2 t2 (k := 4) rfl) ⟨by decide, rfl⟩ (vs := [vR 34]) (st := []) ⟨rfl, Nat.le_of_ble_eq_true rfl, rfl⟩ (by decide +kernel) (fun I3 J3 h => ?_)
    refine gBk (pe := 79) hO [o0 (.aload_n 0), oI (.iconst 0) 0, oF (.putfield 90) 11 14 51 0, o0 (.aload_n 0), oI (.iconst (-1)) (-1), oF (.putfield 94) 11 15 52 0, o0 (.aload_n 0), oF (.getfield 43) 11 6 30 40, oF (.getfield 220) 4 0 611 41, o0 (.astore_n 2), oI (.iconst 0) 0, o0 (.istore_n 3)] (by decide +kernel) (And.intro t2 (And.intro t2 (And.intro t2 (And.intro rfl (And.intro (tGr.off hG2 t2 (k := 6) rfl) (And.intro rfl (And.intro (Nat.le_of_ble_eq_true rfl) (And.intro (Nat.le_of_ble_eq_true rfl) (show tWG K B 0 0 S2 (uI (uI I3 0 14 0) 0 15 (-1)) J3 79 [some (vR 0), some (vI x1), some (vR 41), some (vI 0)] [] from ?_)))))))))
    exact gWeak (L' := [some (vR 0), none, some (vR 41), some (vI 0)]) ⟨rfl, rfl, rfl, trivial⟩ (W11_orders_L hO hR t2 hG2 hQ n _ _ _ h)
  · have h := h.1 c3
    refine gBk (pe := 33) hO [o0 (.aload_n 0), oI (.bipush (-6)) (-6)] (by decide +kernel) (show tWG K B 0 0 S1 (uI (uI I1 38 1 0) 0 16 (-1)) J1 33 [some (vR 0), some (vI x1), none, none] [vI (-6), vR 0] from ?_)
    refine gCVi_c hO (M11_settle t1 h) hc11_settle (idx := 110) (w := 248) (by decide +kernel) hR (by omega) t1 ⟨by decide, rfl⟩ (vs := [vI (-6)]) (st := []) ⟨rfl, Nat.le_of_ble_eq_true rfl, rfl⟩ (by decide +kernel) (fun x I8 J8 h => ?_)
    refine gWiden (cl' := 0) (sl' := 0) (by omega) (by omega) ?_
    exact gIret hO hQ (by decide +kernel) ⟨h, hG1⟩)
