/-! A row of the reference's own, changed -/
theorem lin40 {r i : Int32} (r0 : 0 ≤ r ∧ r < 6000) (i0 : inL 40 i) : (40 * r + i).toInt = 40 * r.toInt + i.toInt := by
  have z : (0 : Int32).toInt = 0 := by decide
  have a1 := Int32.le_iff_toInt_le.mp r0.1
  have a2 := Int32.lt_iff_toInt_lt.mp r0.2
  have b1 := Int32.le_iff_toInt_le.mp i0.1
  have b2 := Int32.lt_iff_toInt_lt.mp i0.2
  have e1 : (6000 : Int32).toInt = 6000 := by decide
  have e2 : (40 : Int32).toInt = 40 := by decide
  have m : (40 * r).toInt = 40 * r.toInt := by
    rw [Int32.toInt_mul, e2]
    apply Int.bmod_eq_of_le <;> omega
  rw [Int32.toInt_add, m]
  apply Int.bmod_eq_of_le <;> omega
theorem inj40 {r r' i i' : Int32} (r0 : 0 ≤ r ∧ r < 6000) (i0 : inL 40 i) (r1 : 0 ≤ r' ∧ r' < 6000) (i1 : inL 40 i') (h : 40 * r + i = 40 * r' + i') : r = r' ∧ i = i' := by
  have a := lin40 r0 i0
  have b := lin40 r1 i1
  rw [h, b] at a
  have z : (0 : Int32).toInt = 0 := by decide
  have b1 := Int32.le_iff_toInt_le.mp i0.1
  have b2 := Int32.lt_iff_toInt_lt.mp i0.2
  have c1 := Int32.le_iff_toInt_le.mp i1.1
  have c2 := Int32.lt_iff_toInt_lt.mp i1.2
  have e2 : (40 : Int32).toInt = 40 := by decide
  exact ⟨Int32.toInt_inj.mp (by omega), Int32.toInt_inj.mp (by omega)⟩
/-- row R holds this now, no other row has changed -/
def RowC (e : mE) (R b s : Int32) (f : Int32 → Int32) (e' : mE) : Prop := (∀ r, r ≠ R → e'.2 12 r = e.2 12 r ∧ e'.2 13 r = e.2 13 r) ∧ (∀ r i, (0 ≤ r ∧ r < 6000) → r ≠ R → inL 40 i → e'.2 14 (40 * r + i) = e.2 14 (40 * r + i)) ∧ e'.2 12 R = b ∧ e'.2 13 R = s ∧ ∀ i, inL s i → e'.2 14 (40 * R + i) = f i
def RowQ (e : mE) (R b s : Int32) (f : Int32 → Int32) (e' : mE) : Prop := e'.1 = e.1 ∧ (∀ k, (k < 12 ∨ 14 < k) → ∀ i, e'.2 k i = e.2 k i) ∧ RowC e R b s f e'
/-- what came out of the cells of one row's entries alone -/
def EnQ (e : mE) (R : Int32) (e' : mE) : Prop := e'.1 = e.1 ∧ (∀ k, k ≠ 14 → ∀ i, e'.2 k i = e.2 k i) ∧ ∀ r i, (0 ≤ r ∧ r < 6000) → r ≠ R → inL 40 i → e'.2 14 (40 * r + i) = e.2 14 (40 * r + i)
theorem EnQ.refl (e : mE) (R : Int32) : EnQ e R e := ⟨rfl, fun _ _ _ => rfl, fun _ _ _ _ _ => rfl⟩
theorem EnQ.set {e e' : mE} {R i v : Int32} (q : EnQ e R e') (r0 : 0 ≤ R ∧ R < 6000) (i0 : inL 40 i) : EnQ e R (mA e' 14 (40 * R + i) v) := ⟨q.1, fun k hk j => (mA_ne hk).trans (q.2.1 k hk j), fun r j r1 n j0 => by
  rw [mA_at, if_neg (fun h => n (inj40 r1 j0 r0 i0 h).1)]
  exact q.2.2 r j r1 n j0⟩
theorem en_at {e' : mE} {R i j v : Int32} (r0 : 0 ≤ R ∧ R < 6000) (i0 : inL 40 i) (j0 : inL 40 j) : (mA e' 14 (40 * R + i) v).2 14 (40 * R + j) = if j = i then v else e'.2 14 (40 * R + j) := by
  rw [mA_at]
  by_cases c : j = i
  · rw [if_pos c, if_pos (by rw [c])]
  · rw [if_neg c, if_neg (fun h => c (inj40 r0 j0 r0 i0 h).2)]
/-- the count set behind the entries -/
theorem EnQ.siz {e e' : mE} {R b s : Int32} {f : Int32 → Int32} (q : EnQ e R e') (hb : e.2 12 R = b) (h : ∀ i, inL s i → e'.2 14 (40 * R + i) = f i) : RowQ e R b s f (mA e' 13 R s) := by
  refine ⟨q.1, fun k hk i => (mA_ne (by omega)).trans (q.2.1 k (by omega) i), fun r n => ⟨(mA_ne (by decide)).trans (q.2.1 12 (by decide) r), ?_⟩, fun r i r1 n i0 => (mA_ne (by decide)).trans (q.2.2 r i r1 n i0), ?_, ?_, fun i hi => (mA_ne (by decide)).trans (h i hi)⟩
  · rw [mA_at, if_neg n]; exact q.2.1 13 (by decide) r
  · exact ((mA_ne (by decide)).trans (q.2.1 12 (by decide) R)).trans hb
  · rw [mA_at, if_pos rfl]
theorem EnQ.row {e e' : mE} {R b s : Int32} {f : Int32 → Int32} (q : EnQ e R e') (hb : e.2 12 R = b) (hs : e.2 13 R = s) (h : ∀ i, inL s i → e'.2 14 (40 * R + i) = f i) : RowQ e R b s f e' := ⟨q.1, fun k hk i => q.2.1 k (by omega) i, fun r _ => ⟨q.2.1 12 (by decide) r, q.2.1 13 (by decide) r⟩, fun r i r1 n i0 => q.2.2 r i r1 n i0, (q.2.1 12 (by decide) R).trans hb, (q.2.1 13 (by decide) R).trans hs, h⟩
section Mrow
variable {e : mE} {R b s : Int32} {f : Int32 → Int32}
theorem inL40 {i : Int32} (hs : s ≤ 40) (h : inL s i) : inL 40 i := ⟨h.1, Int32.lt_of_lt_of_le h.2 hs⟩
theorem m_ins8 {p c : Int32} (r0 : 0 ≤ R ∧ R < 6000) (hb : e.2 12 R = b) (hs : e.2 13 R = s) (p0 : 0 ≤ p) (s1 : s < 40) : ∀ n k, (k.toInt - p.toInt).toNat < n → ∀ e', p ≤ k → k ≤ s → EnQ e R e' → (∀ i, inL k i → e'.2 14 (40 * R + i) = f i) → (∀ i, k < i → i ≤ s → e'.2 14 (40 * R + i) = f (i - 1)) → Rn (P_X12_insert_8 n R p c k e') (RowQ e R b (s + 1) (rIns f p c)) := by
  have h40 : (40 : Int32).toInt = 40 := by decide
  have sl := Int32.lt_iff_toInt_lt.mp s1
  have ss := i32_succ s1
  refine i32_dn ?_ ?_
  · intro n k hc e' pk ks q H1 H2
    have ek : k = p := Int32.le_antisymm hc pk
    subst ek
    unfold P_X12_insert_8
    have k40 : inL 40 k := ⟨p0, Int32.lt_of_le_of_lt ks s1⟩
    refine rn_p (Int32.le_refl _) (rn_ck (ix40 r0 k40.1 k40.2) (rn_bd (rn_ck r0 (rn_bd (rn_s ?_)))))
    have q1 := q.set (v := c) r0 k40
    rw [q1.2.1 13 (by decide) R, hs]
    refine q1.siz hb (fun i hi => ?_)
    have i40 : inL 40 i := ⟨hi.1, by
      have := Int32.lt_iff_toInt_lt.mp hi.2
      exact Int32.lt_iff_toInt_lt.mpr (by omega)⟩
    rw [en_at r0 k40 i40]
    unfold rIns
    by_cases c1 : i < k
    · rw [if_pos c1, if_neg (lt_ne c1), H1 i ⟨hi.1, c1⟩]
    · rw [if_neg c1]
      by_cases c2 : i = k
      · rw [if_pos c2, if_pos c2]
      · rw [if_neg c2, if_neg c2]
        have q1 := Int32.le_iff_toInt_le.mp (Int32.not_lt.mp c1)
        have q2 : i.toInt ≠ k.toInt := fun z => c2 (Int32.toInt_inj.mp z)
        have q3 := Int32.lt_iff_toInt_lt.mp hi.2
        exact H2 i (Int32.lt_iff_toInt_lt.mpr (by omega)) (Int32.le_iff_toInt_le.mpr (by omega))
  · intro n k hc ih e' pk ks q H1 H2
    unfold P_X12_insert_8
    have m := i32_m1 hc
    have kc := Int32.lt_iff_toInt_lt.mp hc
    have p0' := Int32.le_iff_toInt_le.mp p0
    have z : (0 : Int32).toInt = 0 := by decide
    have ks' := Int32.le_iff_toInt_le.mp ks
    have k0 : 0 ≤ k + -1 := Int32.le_iff_toInt_le.mpr (by omega)
    have k1 : k + -1 < k := Int32.lt_iff_toInt_lt.mpr (by omega)
    have k2 : k + -1 ≤ s := Int32.le_iff_toInt_le.mpr (by omega)
    have k40 : inL 40 k := ⟨i32_tr p0 pk, Int32.lt_of_le_of_lt ks s1⟩
    have k41 : inL 40 (k + -1) := ⟨k0, Int32.lt_of_le_of_lt k2 s1⟩
    have ex : 40 * R + k - 1 = 40 * R + (k + -1) := by clear ih H1 H2 q; grind
    refine rn_n (Int32.not_le.mpr hc) ?_
    rw [ex]
    refine rn_ck (ix40 r0 k41.1 k41.2) (rn_ck (ix40 r0 k40.1 k40.2) (rn_bd (rn_bd (ih _ (Int32.le_iff_toInt_le.mpr (by omega)) k2 (q.set r0 k40) (fun i hi => ?_) (fun i i0 i1 => ?_)))))
    · have ik := Int32.lt_of_lt_of_le hi.2 (Int32.le_of_lt k1)
      rw [en_at r0 k40 ⟨hi.1, Int32.lt_of_le_of_lt (Int32.le_of_lt ik) k40.2⟩, if_neg (lt_ne ik)]
      exact H1 i ⟨hi.1, ik⟩
    · have i0' := Int32.lt_iff_toInt_lt.mp i0
      have i2 : inL 40 i := ⟨Int32.le_iff_toInt_le.mpr (by omega), Int32.lt_of_le_of_lt i1 s1⟩
      rw [en_at r0 k40 i2]
      by_cases y : i = k
      · rw [if_pos y, y, m.2]
        exact H1 _ ⟨k0, k1⟩
      · rw [if_neg y]
        have y2 : i.toInt ≠ k.toInt := fun z => y (Int32.toInt_inj.mp z)
        exact H2 i (Int32.lt_iff_toInt_lt.mpr (by omega)) i1
theorem m_insert {p c : Int32} (r0 : 0 ≤ R ∧ R < 6000) (hb : e.2 12 R = b) (hs : e.2 13 R = s) (p0 : 0 ≤ p) (p1 : p ≤ s) (s1 : s < 40) (H : ∀ i, inL s i → e.2 14 (40 * R + i) = f i) : Rn (P_X12_insert R p c e) (RowQ e R b (s + 1) (rIns f p c)) := by
  unfold P_X12_insert
  refine rn_ck r0 (rn_bd ?_)
  rw [hs]
  have h40 : (40 : Int32).toInt = 40 := by decide
  have z : (0 : Int32).toInt = 0 := by decide
  have sl := Int32.lt_iff_toInt_lt.mp s1
  have p0' := Int32.le_iff_toInt_le.mp p0
  exact m_ins8 r0 hb hs p0 s1 fu s (by show _ < 10000000; omega) e p1 (Int32.le_refl _) (EnQ.refl e R) H (fun i a b => absurd (Int32.lt_of_lt_of_le a b) (Int32.lt_irrefl))
theorem m_rem2 {p : Int32} (r0 : 0 ≤ R ∧ R < 6000) (hb : e.2 12 R = b) (hs : e.2 13 R = s) (p0 : 0 ≤ p) (s0 : 0 < s) (s1 : s ≤ 40) : ∀ n k, ((s - 1).toInt - k.toInt).toNat < n → ∀ e', p ≤ k → k ≤ s - 1 → EnQ e R e' → (∀ i, inL p i → e'.2 14 (40 * R + i) = f i) → (∀ i, p ≤ i → i < k → e'.2 14 (40 * R + i) = f (i + 1)) → (∀ i, k ≤ i → i < s → e'.2 14 (40 * R + i) = f i) → Rn (P_X12_remove_2 n R k e') (RowQ e R b (s - 1) (rDel f p)) := by
  have sd := i32_pred s0
  have z : (0 : Int32).toInt = 0 := by decide
  have t40 := tI40 s1
  have h40 : (40 : Int32).toInt = 40 := by decide
  have p0' := Int32.le_iff_toInt_le.mp p0
  refine i32_up ?_ ?_
  · intro n k hc e' pk ks q H1 H2 H3
    have ek : k = s - 1 := Int32.le_antisymm ks hc
    subst ek
    unfold P_X12_remove_2
    refine rn_ck r0 ?_
    rw [q.2.1 13 (by decide) R, hs]
    refine rn_p (Int32.le_refl _) (rn_ck r0 (rn_bd (rn_s ?_)))
    refine q.siz hb (fun i hi => ?_)
    unfold rDel
    by_cases y : i < p
    · rw [if_pos y]; exact H1 i ⟨hi.1, y⟩
    · rw [if_neg y]; exact H2 i (Int32.not_lt.mp y) hi.2
  · intro n k hc ih e' pk ks q H1 H2 H3
    unfold P_X12_remove_2
    refine rn_ck r0 ?_
    rw [q.2.1 13 (by decide) R, hs]
    have kc := Int32.lt_iff_toInt_lt.mp hc
    have k1 := i32_succ hc
    have pk' := Int32.le_iff_toInt_le.mp pk
    have ks1 : k + 1 < s := Int32.lt_iff_toInt_lt.mpr (by omega)
    have k40 : inL 40 k := ⟨i32_tr p0 pk, Int32.lt_iff_toInt_lt.mpr (by omega)⟩
    have k41 : inL 40 (k + 1) := ⟨Int32.le_iff_toInt_le.mpr (by omega), Int32.lt_of_lt_of_le ks1 s1⟩
    have ex : 40 * R + k + 1 = 40 * R + (k + 1) := by clear ih H1 H2 H3 q; grind
    refine rn_n (Int32.not_le.mpr hc) ?_
    rw [ex]
    refine rn_ck (ix40 r0 k41.1 k41.2) (rn_ck (ix40 r0 k40.1 k40.2) (rn_bd (rn_bd (ih _ (Int32.le_iff_toInt_le.mpr (by omega)) (Int32.le_iff_toInt_le.mpr (by omega)) (q.set r0 k40) (fun i hi => ?_) (fun i i0 i1 => ?_) (fun i i0 i1 => ?_)))))
    · have ik := Int32.lt_of_lt_of_le hi.2 pk
      rw [en_at r0 k40 ⟨hi.1, Int32.lt_of_le_of_lt (Int32.le_of_lt ik) k40.2⟩, if_neg (lt_ne ik)]
      exact H1 i hi
    · have i00 : 0 ≤ i := i32_tr p0 i0
      rcases (i32_ls hc).mp i1 with y | y
      · rw [en_at r0 k40 ⟨i00, Int32.lt_of_le_of_lt (Int32.le_of_lt y) k40.2⟩, if_neg (lt_ne y)]
        exact H2 i i0 y
      · rw [en_at r0 k40 (by rw [y]; exact k40), if_pos y, y]
        exact H3 _ (Int32.le_iff_toInt_le.mpr (by omega)) ks1
    · have i0' := Int32.le_iff_toInt_le.mp i0
      rw [en_at r0 k40 ⟨Int32.le_iff_toInt_le.mpr (by omega), Int32.lt_of_lt_of_le i1 s1⟩, if_neg (fun y => by rw [y] at i0'; omega)]
      exact H3 i (Int32.le_iff_toInt_le.mpr (by omega)) i1
theorem m_remove {p : Int32} (r0 : 0 ≤ R ∧ R < 6000) (hb : e.2 12 R = b) (hs : e.2 13 R = s) (s1 : s ≤ 40) (cp : inL s p) (H : ∀ i, inL s i → e.2 14 (40 * R + i) = f i) : Rn (P_X12_remove R p e) (RowQ e R b (s - 1) (rDel f p)) := by
  unfold P_X12_remove
  have z : (0 : Int32).toInt = 0 := by decide
  have c0 := Int32.le_iff_toInt_le.mp cp.1
  have c1 := Int32.lt_iff_toInt_lt.mp cp.2
  have s0 : 0 < s := Int32.lt_iff_toInt_lt.mpr (by omega)
  have sd := i32_pred s0
  have := tI40 s1
  exact m_rem2 r0 hb hs cp.1 s0 s1 fu p (by show _ < 10000000; omega) e (Int32.le_refl _) (Int32.le_iff_toInt_le.mpr (by omega)) (EnQ.refl e R) (fun i hi => H i ⟨hi.1, Int32.lt_of_lt_of_le hi.2 (Int32.le_of_lt cp.2)⟩) (fun i a b => absurd (Int32.lt_of_le_of_lt a b) Int32.lt_irrefl) (fun i a b => H i ⟨i32_tr cp.1 a, b⟩)
/-- a row filled from elsewhere: the tape, or what was kept -/
theorem m_fill {w : mE → Int32 → Int32} (r0 : 0 ≤ R ∧ R < 6000) (s1 : s ≤ 40) {e' : mE} {k : Int32} (kk : inL s k) (q : EnQ e R e') (hw : ∀ j, w e' j = w e j) (H : ∀ i, inL k i → e'.2 14 (40 * R + i) = w e i) : EnQ e R (mA e' 14 (40 * R + k) (w e' k)) ∧ ∀ i, inL (k + 1) i → (mA e' 14 (40 * R + k) (w e' k)).2 14 (40 * R + i) = w e i := by
  have k40 := inL40 s1 kk
  refine ⟨q.set r0 k40, fun i hi => ?_⟩
  rcases (i32_ls k40.2).mp hi.2 with y | y
  · rw [en_at r0 k40 ⟨hi.1, Int32.lt_of_le_of_lt (Int32.le_of_lt y) k40.2⟩, if_neg (lt_ne y)]
    exact H i ⟨hi.1, y⟩
  · rw [en_at r0 k40 (by rw [y]; exact k40), if_pos y, hw, y]
/-! the row kept as it was -/
def KpQ (e : mE) (K s : Int32) (f : Int32 → Int32) (e' : mE) : Prop := e'.1 = e.1 ∧ (∀ k, k ≠ 26 → k ≠ 27 → ∀ i, e'.2 k i = e.2 k i) ∧ (∀ j, j ≠ K → e'.2 26 j = e.2 26 j) ∧ e'.2 26 K = s ∧ (∀ r i, (0 ≤ r ∧ r < 6000) → r ≠ K → inL 40 i → e'.2 27 (40 * r + i) = e.2 27 (40 * r + i)) ∧ ∀ i, inL s i → e'.2 27 (40 * K + i) = f i
theorem m_kp19 {K : Int32} (r0 : 0 ≤ R ∧ R < 6000) (hs : e.2 13 R = s) (s1 : s ≤ 40) (h20 : e.1 20 - 1 = K) (hK : 0 ≤ K ∧ K < 40) (H : ∀ i, inL s i → e.2 14 (40 * R + i) = f i) : ∀ n k, (s.toInt - k.toInt).toNat < n → ∀ e', 0 ≤ k → e'.1 = e.1 → (∀ k, k ≠ 26 → k ≠ 27 → ∀ i, e'.2 k i = e.2 k i) → (∀ j, j ≠ K → e'.2 26 j = e.2 26 j) → e'.2 26 K = s → (∀ r i, (0 ≤ r ∧ r < 6000) → r ≠ K → inL 40 i → e'.2 27 (40 * r + i) = e.2 27 (40 * r + i)) → (∀ i, inL s i → i < k → e'.2 27 (40 * K + i) = f i) → Rn (P_X12_keepRow_19 n R k e') (KpQ e K s f) := by
  have K6 : 0 ≤ K ∧ K < 6000 := ⟨hK.1, Int32.lt_of_lt_of_le hK.2 (by decide)⟩
  refine i32_up ?_ ?_
  · intro n k hc e' k0 q1 q2 q3 q4 q5 q6
    unfold P_X12_keepRow_19
    refine rn_ck r0 (rn_p ?_ (rn_s ⟨q1, q2, q3, q4, q5, fun i hi => q6 i hi (Int32.lt_of_lt_of_le hi.2 hc)⟩))
    rw [q2 13 (by decide) (by decide), hs]
    exact hc
  · intro n k hc ih e' k0 q1 q2 q3 q4 q5 q6
    unfold P_X12_keepRow_19
    have k40 : inL 40 k := inL40 s1 ⟨k0, hc⟩
    have b : (0 : Int32) ≤ 40 * K + k ∧ 40 * K + k < 1600 := by
      obtain ⟨a1, a2⟩ := hK
      obtain ⟨a3, a4⟩ := k40
      clear ih q1 q2 q3 q4 q5 q6 H h20 hs
      constructor <;> grind
    refine rn_ck r0 (rn_n ?_ (rn_ck (ix40 r0 k40.1 k40.2) ?_))
    · rw [q2 13 (by decide) (by decide), hs]
      exact Int32.not_le.mpr hc
    rw [q1, h20, q2 14 (by decide) (by decide), H k ⟨k0, hc⟩]
    refine rn_ck b (rn_bd (rn_bd (ih _ (i32_ps k0 hc) q1 (fun k n1 n2 i => (mA_ne n2).trans (q2 k n1 n2 i)) (fun j n => (mA_ne (by decide)).trans (q3 j n)) ((mA_ne (by decide)).trans q4) (fun r i r1 n i0 => ?_) (fun i hi hk => ?_))))
    · rw [mA_at, if_neg (fun h => n (inj40 r1 i0 K6 k40 h).1)]
      exact q5 r i r1 n i0
    · rw [mA_at]
      rcases (i32_ls hc).mp hk with y | y
      · rw [if_neg (fun h => lt_ne y (inj40 K6 (inL40 s1 hi) K6 k40 h).2)]
        exact q6 i hi y
      · rw [if_pos (by rw [y]), y]
theorem m_keepRow {K : Int32} (r0 : 0 ≤ R ∧ R < 6000) (hs : e.2 13 R = s) (s1 : s ≤ 40) (s0 : -1 ≤ s) (h20 : e.1 20 - 1 = K) (hK : 0 ≤ K ∧ K < 40) (H : ∀ i, inL s i → e.2 14 (40 * R + i) = f i) : Rn (P_X12_keepRow R e) (KpQ e K s f) := by
  unfold P_X12_keepRow
  rw [h20, hs]
  refine rn_ck r0 (rn_ck hK (rn_bd ?_))
  have := tI40 s1
  have z : (0 : Int32).toInt = 0 := by decide
  exact m_kp19 r0 hs s1 h20 hK H fu 0 (by show _ < 10000000; omega) _ (by decide) rfl (fun k n1 _ i => mA_ne n1) (fun j n => by rw [mA_at, if_neg n]) (by rw [mA_at, if_pos rfl]) (fun r i _ _ _ => mA_ne (by decide)) (fun i hi hk => absurd hi.1 (Int32.not_le.mpr hk))
end Mrow
