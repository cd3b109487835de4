theorem FL_fill {S : tSH} {J : tHJ} {a n N : Nat} {v : Int32} {k : tHI → tHJ → Prop} (hN : N < 2147483648) (hL : sL S a = N) : ∀ (f p : Nat) (I : tHI), p ≤ N → N - p < f → k (fillI I a p N v) J → FJ7_fill_53178_L5 n S k f I J a v (Int32.ofNat p) (Int32.ofNat N) := by
  intro f
  induction f with
  | zero => intro p I hp hf; omega
  | succ f ih =>
    intro p I hp hf hk
    show FJ7_fill_53178_5 n S k (FJ7_fill_53178_L5 n S k f) I J a v (Int32.ofNat p) (Int32.ofNat N)
    unfold FJ7_fill_53178_5
    refine ⟨fun h => ?_, fun h => ?_⟩
    · rw [i32le hN (by omega)] at h
      have e : p = N := by omega
      subst e
      rw [fillI_nil] at hk
      exact hk
    · rw [i32le hN (by omega)] at h
      refine ⟨by rw [hL]; exact i32in (by omega) (by omega), ?_⟩
      rw [i32n p (by omega), i32s]
      exact ih (p + 1) _ (by omega) (by omega) (by rw [fillI_step (by omega)]; exact hk)
theorem F_fill {S : tSH} {I : tHI} {J : tHJ} {a n N : Nat} {v : Int32} {k : tHI → tHJ → Prop} (hN : N < 2147483648) (hL : sL S a = N) (hn : N < n) (hk : k (fillI I a 0 N v) J) : FJ7_fill_53178 n S I J a v k := by
  unfold FJ7_fill_53178
  rw [hL]
  exact FL_fill hN hL n 0 I (Nat.zero_le _) (by omega) hk
