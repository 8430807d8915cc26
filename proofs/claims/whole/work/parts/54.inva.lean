/-! What holds of a turn as it is played -/
theorem tbA : ∀ b, b < 720 → ∀ w, w < 11 → tb (Int32.ofNat b) (Int32.ofNat w) ≤ tb (Int32.ofNat (b + 1)) (Int32.ofNat w) := by decide +kernel
theorem tbB : ∀ b, b < 721 → ∀ w, w < 10 → tb (Int32.ofNat b) (Int32.ofNat (w + 1)) ≤ tb (Int32.ofNat b) (Int32.ofNat w) := by decide +kernel
theorem tb0 : ∀ w, w < 11 → tb (Int32.ofNat 0) (Int32.ofNat w) = 0 := by decide +kernel
theorem tb7 : tb (Int32.ofNat 720) (Int32.ofNat 0) = 1000 := by decide +kernel
theorem i32_nat {b : Int32} {N : Nat} (h0 : 0 ≤ b) (h1 : b.toInt ≤ N) (hN : N < 100000) : ∃ n : Nat, n ≤ N ∧ b = Int32.ofNat n ∧ b.toInt = n := by
  have a0 := Int32.le_iff_toInt_le.mp h0
  have e0 : (0 : Int32).toInt = 0 := by decide
  refine ⟨b.toInt.toNat, by omega, ?_, by omega⟩
  apply Int32.toInt_inj.mp
  have h2 : (Int32.ofNat b.toInt.toNat).toInt = (b.toInt.toNat : Int).bmod (2 ^ 32) := Int32.toInt_ofNat
  rw [h2, Int.bmod_eq_of_le (by omega) (by omega)]
  omega
theorem i32_tr {a b c : Int32} (h1 : a ≤ b) (h2 : b ≤ c) : a ≤ c := by grind
theorem tb_mb {n m w : Nat} (h : n ≤ m) (hm : m ≤ 720) (hw : w < 11) : tb (Int32.ofNat n) (Int32.ofNat w) ≤ tb (Int32.ofNat m) (Int32.ofNat w) := by
  induction m with
  | zero => have : n = 0 := by omega
            subst this; exact Int32.le_refl _
  | succ m ih =>
    by_cases e : n = m + 1
    · subst e; exact Int32.le_refl _
    · exact i32_tr (ih (by omega) (by omega)) (tbA m (by omega) w hw)
theorem tb_mw {n w u : Nat} (h : w ≤ u) (hn : n ≤ 720) (hw : u < 11) : tb (Int32.ofNat n) (Int32.ofNat u) ≤ tb (Int32.ofNat n) (Int32.ofNat w) := by
  induction u with
  | zero => have : w = 0 := by omega
            subst this; exact Int32.le_refl _
  | succ m ih =>
    by_cases e : w = m + 1
    · subst e; exact Int32.le_refl _
    · exact i32_tr (tbB n (by omega) m (by omega)) (ih (by omega) (by omega))
theorem tb_mono {b b' w w' : Int32} (h0 : 0 ≤ b') (h1 : b' ≤ b) (h2 : b ≤ 720) (h3 : 0 ≤ w) (h4 : w ≤ w') (h5 : w' ≤ 10) : tb b' w' ≤ tb b w := by
  have e1 : (720 : Int32).toInt = 720 := by decide
  have e2 : (10 : Int32).toInt = 10 := by decide
  have a1 := Int32.le_iff_toInt_le.mp h1
  have a2 := Int32.le_iff_toInt_le.mp h2
  have a4 := Int32.le_iff_toInt_le.mp h4
  have a5 := Int32.le_iff_toInt_le.mp h5
  obtain ⟨n', p1, p2, p3⟩ := i32_nat (N := 720) h0 (by omega) (by decide)
  obtain ⟨n, q1, q2, q3⟩ := i32_nat (N := 720) (b := b) (i32_tr h0 h1) (by omega) (by decide)
  obtain ⟨u, r1, r2, r3⟩ := i32_nat (N := 10) h3 (by omega) (by decide)
  obtain ⟨u', s1, s2, s3⟩ := i32_nat (N := 10) (b := w') (i32_tr h3 h4) (by omega) (by decide)
  rw [p2, q2, r2, s2]
  exact i32_tr (tb_mw (n := n') (w := u) (u := u') (by omega) p1 (by omega)) (tb_mb (by omega) q1 (by omega))
theorem tb_pos {b w : Int32} (h0 : 0 ≤ b) (h2 : b ≤ 720) (h3 : 0 ≤ w) (h5 : w ≤ 10) : 0 ≤ tb b w := by
  have e2 : (10 : Int32).toInt = 10 := by decide
  have a5 := Int32.le_iff_toInt_le.mp h5
  have k := tb_mono (b' := 0) (b := b) (w := w) (w' := w) (by decide) h0 h2 h3 (Int32.le_refl _) h5
  obtain ⟨u, r1, r2, r3⟩ := i32_nat (N := 10) h3 (by omega) (by decide)
  have z := tb0 u (by omega)
  rw [r2] at k ⊢
  have e : (Int32.ofNat 0) = 0 := by decide
  rw [e] at z
  rw [z] at k
  exact k
theorem tb_top {b w : Int32} (h0 : 0 ≤ b) (h2 : b ≤ 720) (h3 : 0 ≤ w) (h5 : w ≤ 10) : tb b w ≤ 1000 := by
  have k := tb_mono (b' := b) (b := 720) (w := 0) (w' := w) h0 h2 (by decide) (by decide) h3 h5
  have e : (Int32.ofNat 720) = 720 := by decide
  have e' : (Int32.ofNat 0) = 0 := by decide
  have z := tb7
  rw [e, e'] at z
  rw [z] at k
  exact k
