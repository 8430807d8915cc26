/-! Seats that were read are players -/
section Mse2
variable {n m s : Int32}
theorem rSts_b (f : Int32 → Int32) (m0 : 0 ≤ m) (hs : inL 2 s) : ∀ j k, ((11 : Int32).toInt - k.toInt).toNat < j → ∀ (z : Rh × (Int32 → Int32 → Int32)), 0 ≤ k → k ≤ 11 → (∀ i, inL 11 i → i < k → inL m (z.2 s i)) → (rSts f n m s ((11 : Int32).toInt - k.toInt).toNat k z).1.2 = 0 → (∀ i, inL 11 i → inL m ((rSts f n m s ((11 : Int32).toInt - k.toInt).toNat k z).2 s i)) ∧ ∀ s', s' ≠ s → (rSts f n m s ((11 : Int32).toInt - k.toInt).toNat k z).2 s' = z.2 s' := by
  refine i32_up ?_ ?_
  · intro j k hc z k0 k1 H h
    rw [sub_none hc] at h ⊢
    exact ⟨fun i hi => H i hi (Int32.lt_of_lt_of_le hi.2 hc), fun _ _ => rfl⟩
  · intro j k hc ih z k0 k1 H h
    rw [sub_succ hc] at h ⊢
    by_cases c : z.1.2 = 0
    rotate_left
    · rw [rSts_bad f _ _ _ c] at h
      exact absurd h c
    rw [rSts_s f c] at h ⊢
    have LO := rNext_lo (f := f) (e := n) (lo := 0) (hi := m - 1) (r := z.1)
    generalize rNext f n 0 (m - 1) z.1 = X at h LO ⊢
    have ks : k + 1 ≤ 11 := by
      have := i32_succ hc
      have := Int32.lt_iff_toInt_lt.mp hc
      exact Int32.le_iff_toInt_le.mpr (by omega)
    have good : X.2.2 = 0 := Decidable.byContradiction (fun q => by
      rw [rDup_bad _ _ _ q, rSts_bad f _ _ _ q] at h
      exact q h)
    have vb : inL m X.1 := ⟨LO.1, lt_p1 m0 (LO.2 good).1 LO.1⟩
    have q := ih _ (i32_ps k0 hc) ks (fun i hi hk => ?_) h
    · refine ⟨q.1, fun s' n' => (q.2 s' n').trans (funext fun i => ?_)⟩
      exact gS_ne (fun y => n' y.1)
    · show inL m (gS 2 11 z.2 s k X.1 s i)
      rcases (i32_ls hc).mp hk with y | y
      · rw [gS_ne (fun w => lt_ne y w.2)]
        exact H i hi y
      · rw [y, gS_at ⟨hs.1, hs.2, k0, hc⟩]
        exact vb
end Mse2
