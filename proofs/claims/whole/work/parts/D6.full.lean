/-! A full book: the last game is kept aside while an image is read -/
section Mfu
variable {e e0 E : mE} {A : Bk} {s : Ps} {Q : Int32 × mE → Prop}
/-- x places of row k, from b on, have been copied from row k', from b' on -/
def cpy (e0 : mE) (k k' : Nat) (b b' x : Int32) (E : mE) : Prop := E.1 = e0.1 ∧ (∀ j, j ≠ k → ∀ i, E.2 j i = e0.2 j i) ∧ ∀ i, E.2 k i = if b ≤ i ∧ i < b + x then e0.2 k' (b' + (i - b)) else e0.2 k i
theorem cpy_0 {k k' : Nat} {b b' : Int32} (e : mE) : cpy e k k' b b' 0 e := by
  refine ⟨rfl, fun _ _ _ => rfl, fun i => ?_⟩
  rw [if_neg (fun q => ?_)]
  have : b + 0 = b := by grind
  rw [this] at q
  exact absurd q.1 (Int32.not_le.mpr q.2)
theorem cpy_a {b x i : Int32} (b0 : 0 ≤ b) (b1 : b ≤ 208000) (x0 : 0 ≤ x) (x1 : x < 600) : (b ≤ i ∧ i < b + (x + 1)) ↔ (i = b + x ∨ (b ≤ i ∧ i < b + x)) := by grind
theorem cpy_b {b x : Int32} : x = (b + x - b) := by grind
theorem cpy_s {k k' : Nat} {b b' x : Int32} (kk : k' ≠ k) (b0 : 0 ≤ b) (b1 : b ≤ 208000) (x0 : 0 ≤ x) (x1 : x < 600) (h : cpy e0 k k' b b' x E) : cpy e0 k k' b b' (x + 1) (mA E k (b + x) (E.2 k' (b' + x))) := by
  obtain ⟨h1, h2, h3⟩ := h
  refine ⟨h1, fun j hj i => (mA_ne hj).trans (h2 j hj i), fun i => ?_⟩
  rw [mA_at, h2 k' kk, h3]
  have := cpy_a (i := i) b0 b1 x0 x1
  by_cases c : i = b + x
  · rw [if_pos c, if_pos (this.mpr (Or.inl c)), c, ← cpy_b]
  · rw [if_neg c]
    by_cases d : b ≤ i ∧ i < b + x
    · rw [if_pos d, if_pos (this.mpr (Or.inr d))]
    · rw [if_neg d, if_neg (fun y => (this.mp y).elim c d)]
theorem le_s {x m : Int32} (h : x < m) : x + 1 ≤ m := by
  have := i32_succ h
  have := Int32.lt_iff_toInt_lt.mp h
  exact Int32.le_iff_toInt_le.mpr (by omega)
/-! put back -/
theorem m_f309 {z : Int32} (K : ∀ E, cpy e0 10 71 (520 * 399) 31 520 E → Q (z, E)) : ∀ j x, ((520 : Int32).toInt - x.toInt).toNat < j → ∀ E, 0 ≤ x → x ≤ 520 → cpy e0 10 71 (520 * 399) 31 x E → Rn (P_X12_readFull_309 j 399 z x E) Q := by
  refine i32_up ?_ ?_
  · intro j x hc E x0 x1 q
    have ex : x = 520 := Int32.le_antisymm x1 hc
    subst ex
    unfold P_X12_readFull_309
    exact rn_p hc (rn_s (K E q))
  · intro j x hc ih E x0 x1 q
    unfold P_X12_readFull_309
    exact rn_n (Int32.not_le.mpr hc) (rn_ck (by clear ih q K; constructor <;> grind) (rn_ck (by clear ih q K; constructor <;> grind) (rn_bd (rn_bd (ih _ (i32_ps x0 hc) (le_s hc) (cpy_s (by decide) (by decide) (by decide) x0 (Int32.lt_of_lt_of_le hc (by decide)) q))))))
theorem m_f276 {z : Int32} (K : ∀ E, cpy e0 9 71 (4 * 399) 27 4 E → Rn (P_X12_readFull_309 fu 399 z 0 E) Q) : ∀ j x, ((4 : Int32).toInt - x.toInt).toNat < j → ∀ E, 0 ≤ x → x ≤ 4 → cpy e0 9 71 (4 * 399) 27 x E → Rn (P_X12_readFull_276 j 399 z x E) Q := by
  refine i32_up ?_ ?_
  · intro j x hc E x0 x1 q
    have ex : x = 4 := Int32.le_antisymm x1 hc
    subst ex
    unfold P_X12_readFull_276
    exact rn_p hc (K E q)
  · intro j x hc ih E x0 x1 q
    unfold P_X12_readFull_276
    exact rn_n (Int32.not_le.mpr hc) (rn_ck (by clear ih q K; constructor <;> grind) (rn_ck (by clear ih q K; constructor <;> grind) (rn_bd (rn_bd (ih _ (i32_ps x0 hc) (le_s hc) (cpy_s (by decide) (by decide) (by decide) x0 (Int32.lt_of_lt_of_le hc (by decide)) q))))))
theorem m_f242 {z : Int32} (K : ∀ E, cpy e0 7 71 (22 * 399) 5 22 E → Rn (P_X12_readFull_276 fu 399 z 0 E) Q) : ∀ j x, ((22 : Int32).toInt - x.toInt).toNat < j → ∀ E, 0 ≤ x → x ≤ 22 → cpy e0 7 71 (22 * 399) 5 x E → Rn (P_X12_readFull_242 j 399 z x E) Q := by
  refine i32_up ?_ ?_
  · intro j x hc E x0 x1 q
    have ex : x = 22 := Int32.le_antisymm x1 hc
    subst ex
    unfold P_X12_readFull_242
    exact rn_p hc (K E q)
  · intro j x hc ih E x0 x1 q
    unfold P_X12_readFull_242
    exact rn_n (Int32.not_le.mpr hc) (rn_ck (by clear ih q K; constructor <;> grind) (rn_ck (by clear ih q K; constructor <;> grind) (rn_bd (rn_bd (ih _ (i32_ps x0 hc) (le_s hc) (cpy_s (by decide) (by decide) (by decide) x0 (Int32.lt_of_lt_of_le hc (by decide)) q))))))
/-- all that was kept aside is put back -/
theorem m_back3 {z : Int32} (K : ∀ E1 E2 E3, cpy e0 7 71 (22 * 399) 5 22 E1 → cpy E1 9 71 (4 * 399) 27 4 E2 → cpy E2 10 71 (520 * 399) 31 520 E3 → Q (z, E3)) : Rn (P_X12_readFull_242 fu 399 z 0 e0) Q := by
  have f5 : (520 : Int32).toInt = 520 := by decide
  have f4 : (4 : Int32).toInt = 4 := by decide
  have f2 : (22 : Int32).toInt = 22 := by decide
  have z0 : (0 : Int32).toInt = 0 := by decide
  refine m_f242 (fun E1 q1 => m_f276 (e0 := E1) (fun E2 q2 => m_f309 (e0 := E2) (fun E3 q3 => K E1 E2 E3 q1 q2 q3) fu 0 (by show _ < 10000000; omega) E2 (by decide) (by decide) (cpy_0 E2)) fu 0 (by show _ < 10000000; omega) E1 (by decide) (by decide) (cpy_0 E1)) fu 0 (by show _ < 10000000; omega) e0 (by decide) (by decide) (cpy_0 e0)
/-- the last game's cells lie in row 71 -/
def Sv (D : mE) : Prop := (D.2 71 0 = D.2 4 (2 * 399) ∧ D.2 71 1 = D.2 4 (2 * 399 + 1) ∧ D.2 71 2 = D.2 5 399 ∧ D.2 71 3 = D.2 6 399 ∧ D.2 71 4 = D.2 8 399) ∧ (∀ j, inL 22 j → D.2 71 (5 + j) = D.2 7 (22 * 399 + j)) ∧ (∀ j, inL 4 j → D.2 71 (27 + j) = D.2 9 (4 * 399 + j)) ∧ ∀ j, inL 520 j → D.2 71 (31 + j) = D.2 10 (520 * 399 + j)
/-! kept aside -/
theorem m_f130 {n : Int32} (K : ∀ E j, cpy e0 71 10 31 (520 * 399) 520 E → Rn (P_X12_readFull_130 (j + 1) n 399 520 E) Q) : ∀ j x, ((520 : Int32).toInt - x.toInt).toNat < j → ∀ E, 0 ≤ x → x ≤ 520 → cpy e0 71 10 31 (520 * 399) x E → Rn (P_X12_readFull_130 j n 399 x E) Q := by
  refine i32_up ?_ ?_
  · intro j x hc E x0 x1 q
    have ex : x = 520 := Int32.le_antisymm x1 hc
    subst ex
    exact K E j q
  · intro j x hc ih E x0 x1 q
    unfold P_X12_readFull_130
    exact rn_n (Int32.not_le.mpr hc) (rn_ck (by clear ih q K; constructor <;> grind) (rn_ck (by clear ih q K; constructor <;> grind) (rn_bd (rn_bd (ih _ (i32_ps x0 hc) (le_s hc) (cpy_s (by decide) (by decide) (by decide) x0 (Int32.lt_of_lt_of_le hc (by decide)) q))))))
theorem m_f97 {n : Int32} (K : ∀ E, cpy e0 71 9 27 (4 * 399) 4 E → Rn (P_X12_readFull_130 fu n 399 0 E) Q) : ∀ j x, ((4 : Int32).toInt - x.toInt).toNat < j → ∀ E, 0 ≤ x → x ≤ 4 → cpy e0 71 9 27 (4 * 399) x E → Rn (P_X12_readFull_97 j n 399 x E) Q := by
  refine i32_up ?_ ?_
  · intro j x hc E x0 x1 q
    have ex : x = 4 := Int32.le_antisymm x1 hc
    subst ex
    unfold P_X12_readFull_97
    exact rn_p hc (K E q)
  · intro j x hc ih E x0 x1 q
    unfold P_X12_readFull_97
    exact rn_n (Int32.not_le.mpr hc) (rn_ck (by clear ih q K; constructor <;> grind) (rn_ck (by clear ih q K; constructor <;> grind) (rn_bd (rn_bd (ih _ (i32_ps x0 hc) (le_s hc) (cpy_s (by decide) (by decide) (by decide) x0 (Int32.lt_of_lt_of_le hc (by decide)) q))))))
theorem m_f63 {n : Int32} (K : ∀ E, cpy e0 71 7 5 (22 * 399) 22 E → Rn (P_X12_readFull_97 fu n 399 0 E) Q) : ∀ j x, ((22 : Int32).toInt - x.toInt).toNat < j → ∀ E, 0 ≤ x → x ≤ 22 → cpy e0 71 7 5 (22 * 399) x E → Rn (P_X12_readFull_63 j n 399 x E) Q := by
  refine i32_up ?_ ?_
  · intro j x hc E x0 x1 q
    have ex : x = 22 := Int32.le_antisymm x1 hc
    subst ex
    unfold P_X12_readFull_63
    exact rn_p hc (K E q)
  · intro j x hc ih E x0 x1 q
    unfold P_X12_readFull_63
    exact rn_n (Int32.not_le.mpr hc) (rn_ck (by clear ih q K; constructor <;> grind) (rn_ck (by clear ih q K; constructor <;> grind) (rn_bd (rn_bd (ih _ (i32_ps x0 hc) (le_s hc) (cpy_s (by decide) (by decide) (by decide) x0 (Int32.lt_of_lt_of_le hc (by decide)) q))))))
theorem cpy.at {k k' : Nat} {b b' x : Int32} (h : cpy e0 k k' b b' x E) {j : Int32} (b0 : 0 ≤ b) (b1 : b ≤ 208000) (hj : inL x j) (x1 : x < 600) : E.2 k (b + j) = e0.2 k' (b' + j) := by
  rw [h.2.2, if_pos, ← cpy_b]
  obtain ⟨j0, j1⟩ := hj
  clear h
  constructor <;> grind
theorem cpy.no {k k' : Nat} {b b' x i : Int32} (h : cpy e0 k k' b b' x E) (hi : ¬ (b ≤ i ∧ i < b + x)) : E.2 k i = e0.2 k i := by
  rw [h.2.2, if_neg hi]
/-- all is kept aside -/
theorem m_save {n : Int32} (K : ∀ D j, D.1 = e.1 → (∀ k, k ≠ 71 → ∀ i, D.2 k i = e.2 k i) → Sv D → Rn (P_X12_readFull_130 (j + 1) n 399 520 D) Q) : Rn (P_X12_readFull n e) Q := by
  have f5 : (520 : Int32).toInt = 520 := by decide
  have f4 : (4 : Int32).toInt = 4 := by decide
  have f2 : (22 : Int32).toInt = 22 := by decide
  have z0 : (0 : Int32).toInt = 0 := by decide
  unfold P_X12_readFull
  refine rn_ck (by decide) (rn_ck (by decide) (rn_bd (rn_ck (by decide) (rn_ck (by decide) (rn_bd (rn_ck (by decide) (rn_ck (by decide) (rn_bd (rn_ck (by decide) (rn_ck (by decide) (rn_bd (rn_ck (by decide) (rn_ck (by decide) (rn_bd ?_))))))))))))))
  have C : ∃ D, D = mA (mA (mA (mA (mA e 71 0 (e.2 4 (2 * 399))) 71 1 (e.2 4 (2 * 399 + 1))) 71 2 (e.2 5 399)) 71 3 (e.2 6 399)) 71 4 (e.2 8 399) ∧ D.1 = e.1 ∧ (∀ k, k ≠ 71 → ∀ i, D.2 k i = e.2 k i) ∧ (D.2 71 0 = e.2 4 (2 * 399) ∧ D.2 71 1 = e.2 4 (2 * 399 + 1) ∧ D.2 71 2 = e.2 5 399 ∧ D.2 71 3 = e.2 6 399 ∧ D.2 71 4 = e.2 8 399) := by
    refine ⟨_, rfl, rfl, fun k hk i => by rw [mA_ne hk, mA_ne hk, mA_ne hk, mA_ne hk, mA_ne hk], ?_, ?_, ?_, ?_, ?_⟩
    · rw [mA_at, if_neg (by decide), mA_at, if_neg (by decide), mA_at, if_neg (by decide), mA_at, if_neg (by decide), mA_at, if_pos rfl]
    · rw [mA_at, if_neg (by decide), mA_at, if_neg (by decide), mA_at, if_neg (by decide), mA_at, if_pos rfl]
    · rw [mA_at, if_neg (by decide), mA_at, if_neg (by decide), mA_at, if_pos rfl]
    · rw [mA_at, if_neg (by decide), mA_at, if_pos rfl]
    · rw [mA_at, if_pos rfl]
  obtain ⟨D, eD, D1, D2, v0, v1, v2, v3, v4⟩ := C
  have eD' : D = mA (mA (mA (mA (mA e 71 0 (e.2 4 (2 * 399))) 71 1 ((mA e 71 0 (e.2 4 (2 * 399))).2 4 (2 * 399 + 1))) 71 2 ((mA (mA e 71 0 (e.2 4 (2 * 399))) 71 1 ((mA e 71 0 (e.2 4 (2 * 399))).2 4 (2 * 399 + 1))).2 5 399)) 71 3 ((mA (mA (mA e 71 0 (e.2 4 (2 * 399))) 71 1 ((mA e 71 0 (e.2 4 (2 * 399))).2 4 (2 * 399 + 1))) 71 2 ((mA (mA e 71 0 (e.2 4 (2 * 399))) 71 1 ((mA e 71 0 (e.2 4 (2 * 399))).2 4 (2 * 399 + 1))).2 5 399)).2 6 399)) 71 4 ((mA (mA (mA (mA e 71 0 (e.2 4 (2 * 399))) 71 1 ((mA e 71 0 (e.2 4 (2 * 399))).2 4 (2 * 399 + 1))) 71 2 ((mA (mA e 71 0 (e.2 4 (2 * 399))) 71 1 ((mA e 71 0 (e.2 4 (2 * 399))).2 4 (2 * 399 + 1))).2 5 399)) 71 3 ((mA (mA (mA e 71 0 (e.2 4 (2 * 399))) 71 1 ((mA e 71 0 (e.2 4 (2 * 399))).2 4 (2 * 399 + 1))) 71 2 ((mA (mA e 71 0 (e.2 4 (2 * 399))) 71 1 ((mA e 71 0 (e.2 4 (2 * 399))).2 4 (2 * 399 + 1))).2 5 399)).2 6 399)).2 8 399) := by
    rw [eD]
    simp only [mA_ne (show (4 : Nat) ≠ 71 by decide), mA_ne (show (5 : Nat) ≠ 71 by decide), mA_ne (show (6 : Nat) ≠ 71 by decide), mA_ne (show (8 : Nat) ≠ 71 by decide)]
  rw [← eD']
  clear eD eD'
  refine m_f63 (fun E1 q1 => m_f97 (e0 := E1) (fun E2 q2 => m_f130 (e0 := E2) (fun E3 j q3 => K E3 j ?_ ?_ ?_) fu 0 (by show _ < 10000000; omega) E2 (by decide) (by decide) (cpy_0 E2)) fu 0 (by show _ < 10000000; omega) E1 (by decide) (by decide) (cpy_0 E1)) fu 0 (by show _ < 10000000; omega) D (by decide) (by decide) (cpy_0 D)
  · rw [q3.1, q2.1, q1.1, D1]
  · intro k hk i
    rw [q3.2.1 k hk, q2.2.1 k hk, q1.2.1 k hk, D2 k hk]
  · have R : ∀ k, k ≠ 71 → ∀ i, E3.2 k i = e.2 k i := fun k hk i => by rw [q3.2.1 k hk, q2.2.1 k hk, q1.2.1 k hk, D2 k hk]
    have lo : ∀ i : Int32, (0 ≤ i ∧ i < 5) → E3.2 71 i = D.2 71 i := fun i hi => by
      obtain ⟨i0, i1⟩ := hi
      rw [q3.no (by clear q1 q2 q3 R K; grind), q2.no (by clear q1 q2 q3 R K; grind), q1.no (by clear q1 q2 q3 R K; grind)]
    refine ⟨⟨?_, ?_, ?_, ?_, ?_⟩, fun j hj => ?_, fun j hj => ?_, fun j hj => ?_⟩
    · rw [lo 0 (by decide), R 4 (by decide), v0]
    · rw [lo 1 (by decide), R 4 (by decide), v1]
    · rw [lo 2 (by decide), R 5 (by decide), v2]
    · rw [lo 3 (by decide), R 6 (by decide), v3]
    · rw [lo 4 (by decide), R 8 (by decide), v4]
    · rw [R 7 (by decide)]
      have k := q1.at (j := j) (by decide) (by decide) hj (by decide)
      obtain ⟨j0, j1⟩ := hj
      rw [q3.no (by clear q1 q2 q3 R K lo k; grind), q2.no (by clear q1 q2 q3 R K lo k; grind), k, D2 7 (by decide)]
    · rw [R 9 (by decide)]
      have k := q2.at (j := j) (by decide) (by decide) hj (by decide)
      obtain ⟨j0, j1⟩ := hj
      rw [q3.no (by clear q1 q2 q3 R K lo k; grind), k, q1.2.1 9 (by decide), D2 9 (by decide)]
    · rw [R 10 (by decide)]
      have k := q3.at (j := j) (by decide) (by decide) hj (by decide)
      rw [k, q2.2.1 10 (by decide), q1.2.1 10 (by decide), D2 10 (by decide)]
end Mfu
