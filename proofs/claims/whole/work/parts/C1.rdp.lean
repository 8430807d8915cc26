/-! The reference reads all seats -/
theorem rSts_s (f : Int32 → Int32) {e m s : Int32} {n : Nat} {k : Int32} {z : Rh × (Int32 → Int32 → Int32)} (h : z.1.2 = 0) : rSts f e m s (n + 1) k z = rSts f e m s n (k + 1) (rDup z.2 s (rNext f e 0 (m - 1) z.1).1 k.toInt.toNat 0 (rNext f e 0 (m - 1) z.1).2, gS 2 11 z.2 s k (rNext f e 0 (m - 1) z.1).1) := if_pos h
section Mrp
variable {e e0 : mE} {A : Bk} {g n : Int32} {f : Int32 → Int32} {a b ov ea ma mb x1 x6 : Int32} {Q : Int32 × mE → Prop}
theorem m_137b (g0 : 0 ≤ g ∧ g < 400) (hb : inL 60 b) (hmb : e0.2 3 b = mb) : ∀ j k, ((11 : Int32).toInt - k.toInt).toNat < j → ∀ e z, 0 ≤ k → k ≤ 11 → SeQ e0 g n a b ov ea f z e → (∀ e', SeQ e0 g n a b ov ea f (rSts f n mb 1 ((11 : Int32).toInt - k.toInt).toNat k z) e' → Rn (P_X12_readImage_164 x1 g x6 e') Q) → Rn (P_X12_readImage_137 j x1 g x6 (11 * 1 + k) e) Q := by
  refine i32_up ?_ ?_
  · intro j k hc e z k0 k1 q K
    have ek : k = 11 := Int32.le_antisymm k1 hc
    subst ek
    unfold P_X12_readImage_137
    rw [sub_none hc] at K
    exact rn_p (by decide) (K e q)
  · intro j k hc ih e z k0 k1 q K
    unfold P_X12_readImage_137
    have lt : ¬ 22 ≤ 11 * 1 + k := by clear ih K q; grind
    have e1 : 11 * 1 + k + 1 = 11 * 1 + (k + 1) := by clear ih K q lt; grind
    have ks : k + 1 ≤ 11 := by
      have := i32_succ hc
      have := Int32.lt_iff_toInt_lt.mp hc
      exact Int32.le_iff_toInt_le.mpr (by omega)
    have gk : gin 2 11 1 k := ⟨by decide, by decide, k0, hc⟩
    refine rn_n lt ?_
    rw [show e.1 69 = z.1.2 from q.1.2.1.2.2]
    by_cases c : z.1.2 = 0
    rotate_left
    · rw [if_neg c]
      rw [rSts_bad f _ _ _ c] at K
      exact K e q
    rw [if_pos c]
    rw [sub_succ hc, rSts_s f c] at K
    refine rn_c (m_rp (m := mb) g0 gk q c (by rw [if_neg (by decide)]; exact hb) (by rw [if_neg (by decide)]; exact hmb)) (fun e2 q2 => rn_bd ?_)
    rw [e1]
    exact ih e2 _ (i32_ps k0 hc) ks q2 K
theorem m_137a (g0 : 0 ≤ g ∧ g < 400) (ha : inL 60 a) (hma : e0.2 3 a = ma) (hb : inL 60 b) (hmb : e0.2 3 b = mb) : ∀ j k, ((11 : Int32).toInt - k.toInt).toNat < j → ∀ e z, 0 ≤ k → k ≤ 11 → SeQ e0 g n a b ov ea f z e → (∀ e', SeQ e0 g n a b ov ea f (rSts f n mb 1 11 0 (rSts f n ma 0 ((11 : Int32).toInt - k.toInt).toNat k z)) e' → Rn (P_X12_readImage_164 x1 g x6 e') Q) → Rn (P_X12_readImage_137 (j + 12) x1 g x6 (11 * 0 + k) e) Q := by
  have n11 : ((11 : Int32).toInt - (0 : Int32).toInt).toNat = 11 := by decide
  refine i32_up ?_ ?_
  · intro j k hc e z k0 k1 q K
    have ek : k = 11 := Int32.le_antisymm k1 hc
    subst ek
    rw [sub_none hc] at K
    have B := m_137b (e0 := e0) (g := g) (n := n) (f := f) (a := a) (b := b) (ov := ov) (ea := ea) (mb := mb) (x1 := x1) (x6 := x6) (Q := Q) g0 hb hmb (j + 1 + 12) 0 (by rw [n11]; omega) e z (by decide) (by decide) q (by rw [n11]; exact K)
    rw [show (11 : Int32) * 1 + 0 = 11 * 0 + 11 by decide] at B
    exact B
  · intro j k hc ih e z k0 k1 q K
    show Rn (P_X12_readImage_137 ((j + 12) + 1) x1 g x6 (11 * 0 + k) e) Q
    unfold P_X12_readImage_137
    have lt : ¬ 22 ≤ 11 * 0 + k := by clear ih K q; grind
    have e1 : 11 * 0 + k + 1 = 11 * 0 + (k + 1) := by clear ih K q lt; grind
    have ks : k + 1 ≤ 11 := by
      have := i32_succ hc
      have := Int32.lt_iff_toInt_lt.mp hc
      exact Int32.le_iff_toInt_le.mpr (by omega)
    have gk : gin 2 11 0 k := ⟨by decide, by decide, k0, hc⟩
    refine rn_n lt ?_
    rw [show e.1 69 = z.1.2 from q.1.2.1.2.2]
    by_cases c : z.1.2 = 0
    rotate_left
    · rw [if_neg c]
      rw [rSts_bad f _ _ _ c, rSts_bad f _ _ _ c] at K
      exact K e q
    rw [if_pos c]
    rw [sub_succ hc, rSts_s f c] at K
    refine rn_c (m_rp (m := ma) g0 gk q c (by rw [if_pos rfl]; exact ha) (by rw [if_pos rfl]; exact hma)) (fun e2 q2 => rn_bd ?_)
    rw [e1]
    exact ih e2 _ (i32_ps k0 hc) ks q2 K
end Mrp
