/-! What the reference keeps of a change -/
theorem mA_ne {e : mE} {k : Nat} {i v : Int32} {j : Nat} {b : Int32} (h : j ≠ k) : (mA e k i v).2 j b = e.2 j b := if_neg (fun q => h q.1)
theorem mA_at {e : mE} {k : Nat} {i v b : Int32} : (mA e k i v).2 k b = if b = i then v else e.2 k b := by
  show (if k = k ∧ b = i then v else e.2 k b) = _
  by_cases c : b = i
  · rw [if_pos ⟨rfl, c⟩, if_pos c]
  · rw [if_neg (fun q => c q.2), if_neg c]
theorem mA_f {e : mE} {k : Nat} {i v : Int32} {j : Nat} : (mA e k i v).1 j = e.1 j := rfl
def ShQ (e0 : mE) (a b : Int32) (e : mE) : Prop := e.1 = e0.1 ∧ (∀ k, (k < 21 ∨ 27 < k) → ∀ j, e.2 k j = e0.2 k j) ∧ (∀ k, 21 ≤ k → k < 27 → ∀ j, e.2 k j = if 0 ≤ j ∧ j < a then e0.2 k (j + 1) else e0.2 k j) ∧ ∀ p, e.2 27 p = if 0 ≤ p ∧ p < b then e0.2 27 (p + 40) else e0.2 27 p
theorem ltS {a j : Int32} (a0 : 0 ≤ a) (h : a < 2147483647) : (0 ≤ j ∧ j < a + 1) ↔ ((0 ≤ j ∧ j < a) ∨ j = a) := by
  constructor
  · intro q
    rcases (i32_ls h).mp q.2 with y | y
    · exact Or.inl ⟨q.1, y⟩
    · exact Or.inr y
  · intro q
    rcases q with y | y
    · exact ⟨y.1, (i32_ls h).mpr (Or.inl y.2)⟩
    · rw [y]; exact ⟨a0, (i32_ls h).mpr (Or.inr rfl)⟩
theorem m_sh27 {e0 : mE} {Q : mE → Prop} (k12 : Int32 → Int32 → Int32 → Int32 → Int32 → Int32 → mE → Option mE) (x1 x2 x3 x4 x5 : Int32) {x6 a : Int32} (h1 : 1 ≤ x6) (h2 : x6 < 40) : ∀ n x7, ((40 : Int32).toInt - x7.toInt).toNat < n → ∀ e, 0 ≤ x7 → x7 ≤ 40 → ShQ e0 a (40 * (x6 - 1) + x7) e → (∀ e', ShQ e0 a (40 * (x6 - 1) + 40) e' → Rn (k12 x1 x2 x3 x4 x5 (x6 + 1) e') Q) → Rn (P_X12_done_118 k12 n x1 x2 x3 x4 x5 x6 x7 e) Q := by
  refine i32_up ?_ ?_
  · intro n x7 hc e z0 z1 H K
    have ek : x7 = 40 := Int32.le_antisymm z1 hc
    subst ek
    unfold P_X12_done_118
    exact rn_p hc (rn_bd (K e H))
  · intro n x7 hc ih e z0 z1 H K
    unfold P_X12_done_118
    have b1 : (0 : Int32) ≤ 40 * x6 + x7 ∧ 40 * x6 + x7 < 1600 := by clear ih K H; constructor <;> grind
    have b2 : (0 : Int32) ≤ 40 * (x6 - 1) + x7 ∧ 40 * (x6 - 1) + x7 < 1600 := by clear ih K H; constructor <;> grind
    refine rn_n (Int32.not_le.mpr hc) (rn_ck b1 (rn_ck b2 (rn_bd (rn_bd (ih _ (i32_ps z0 hc) ?_ ?_ K)))))
    · clear ih K H; grind
    obtain ⟨H1, H2, H3, H4⟩ := H
    refine ⟨H1, fun k hk j => (mA_ne (by omega)).trans (H2 k hk j), fun k k0 k1 j => (mA_ne (by omega)).trans (H3 k k0 k1 j), fun p => ?_⟩
    have e1 : 40 * (x6 - 1) + (x7 + 1) = (40 * (x6 - 1) + x7) + 1 := by grind
    have e2 : 40 * (x6 - 1) + x7 + 40 = 40 * x6 + x7 := by grind
    have big : 40 * (x6 - 1) + x7 < 2147483647 := Int32.lt_of_lt_of_le b2.2 (by decide)
    rw [mA_at, e1, H4 (40 * x6 + x7), if_neg (show ¬ (0 ≤ 40 * x6 + x7 ∧ 40 * x6 + x7 < 40 * (x6 - 1) + x7) by clear ih K H1 H2 H3 H4; grind)]
    by_cases c : p = 40 * (x6 - 1) + x7
    · rw [if_pos c, if_pos ((ltS b2.1 big).mpr (Or.inr c)), c, e2]
    · rw [if_neg c, H4 p]
      by_cases c2 : 0 ≤ p ∧ p < 40 * (x6 - 1) + x7
      · rw [if_pos c2, if_pos ((ltS b2.1 big).mpr (Or.inl c2))]
      · rw [if_neg c2, if_neg (fun q => ((ltS b2.1 big).mp q).elim c2 c)]
theorem sh_6 {e : mE} {x y : Int32} (hxy : x ≠ y) (k : Nat) (j : Int32) : (mA (mA (mA (mA (mA (mA e 21 y (e.2 21 x)) 22 y (e.2 22 x)) 23 y (e.2 23 x)) 24 y (e.2 24 x)) 25 y (e.2 25 x)) 26 y (e.2 26 x)).2 k j = if (21 ≤ k ∧ k < 27) ∧ j = y then e.2 k x else e.2 k j := by
  by_cases c : j = y
  rotate_left
  · rw [if_neg (fun q => c q.2)]
    have n : ∀ (e : mE) k' v, (mA e k' y v).2 k j = e.2 k j := fun e k' v => if_neg (fun q => c q.2)
    rw [n, n, n, n, n, n]
  · subst c
    by_cases c2 : 21 ≤ k ∧ k < 27
    · rw [if_pos ⟨c2, rfl⟩]
      have : k = 21 ∨ k = 22 ∨ k = 23 ∨ k = 24 ∨ k = 25 ∨ k = 26 := by omega
      rcases this with q | q | q | q | q | q <;> subst q <;> simp [mA]
    · rw [if_neg (fun q => c2 q.1), mA_ne (by omega), mA_ne (by omega), mA_ne (by omega), mA_ne (by omega), mA_ne (by omega), mA_ne (by omega)]
theorem m_sh12 {e0 : mE} {Q : mE → Prop} (x1 x2 x3 x4 x5 : Int32) (K : ∀ e', ShQ e0 39 1560 e' → Rn (P_X12_done_175 x1 x2 x3 x4 x5 (mS e' 20 ((e'.1 20) - 1))) Q) : ∀ n x6, ((40 : Int32).toInt - x6.toInt).toNat < n → ∀ e, 1 ≤ x6 → x6 ≤ 40 → ShQ e0 (x6 - 1) (40 * (x6 - 1)) e → Rn (P_X12_done_12 n x1 x2 x3 x4 x5 x6 e) Q := by
  refine i32_up ?_ ?_
  · intro n x6 hc e z0 z1 H
    have ek : x6 = 40 := Int32.le_antisymm z1 hc
    subst ek
    unfold P_X12_done_12
    exact rn_p hc (rn_bd (K e H))
  · intro n x6 hc ih e z0 z1 H
    unfold P_X12_done_12
    have b1 : (0 : Int32) ≤ x6 ∧ x6 < 40 := ⟨i32_tr (by decide) z0, hc⟩
    have b2 : (0 : Int32) ≤ x6 - 1 ∧ x6 - 1 < 40 := by clear ih K H; constructor <;> grind
    have nx : x6 ≠ x6 - 1 := by clear ih K H; grind
    obtain ⟨H1, H2, H3, H4⟩ := H
    refine rn_n (Int32.not_le.mpr hc) (rn_ck b1 (rn_ck b2 (rn_bd (rn_ck b1 (rn_ck b2 (rn_bd (rn_ck b1 (rn_ck b2 (rn_bd (rn_ck b1 (rn_ck b2 (rn_bd (rn_ck b1 (rn_ck b2 (rn_bd (rn_ck b1 (rn_ck b2 (rn_bd ?_))))))))))))))))))
    rw [mA_ne (show (22 : Nat) ≠ 21 by decide), mA_ne (show (23 : Nat) ≠ 22 by decide), mA_ne (show (23 : Nat) ≠ 21 by decide), mA_ne (show (24 : Nat) ≠ 23 by decide), mA_ne (show (24 : Nat) ≠ 22 by decide), mA_ne (show (24 : Nat) ≠ 21 by decide), mA_ne (show (25 : Nat) ≠ 24 by decide), mA_ne (show (25 : Nat) ≠ 23 by decide), mA_ne (show (25 : Nat) ≠ 22 by decide), mA_ne (show (25 : Nat) ≠ 21 by decide), mA_ne (show (26 : Nat) ≠ 25 by decide), mA_ne (show (26 : Nat) ≠ 24 by decide), mA_ne (show (26 : Nat) ≠ 23 by decide), mA_ne (show (26 : Nat) ≠ 22 by decide), mA_ne (show (26 : Nat) ≠ 21 by decide)]
    have S := sh_6 (e := e) nx
    have E1 : (mA (mA (mA (mA (mA (mA e 21 (x6 - 1) (e.2 21 x6)) 22 (x6 - 1) (e.2 22 x6)) 23 (x6 - 1) (e.2 23 x6)) 24 (x6 - 1) (e.2 24 x6)) 25 (x6 - 1) (e.2 25 x6)) 26 (x6 - 1) (e.2 26 x6)).1 = e.1 := rfl
    generalize (mA (mA (mA (mA (mA (mA e 21 (x6 - 1) (e.2 21 x6)) 22 (x6 - 1) (e.2 22 x6)) 23 (x6 - 1) (e.2 23 x6)) 24 (x6 - 1) (e.2 24 x6)) 25 (x6 - 1) (e.2 25 x6)) 26 (x6 - 1) (e.2 26 x6)) = E at S E1 ⊢
    have z : (0 : Int32).toInt = 0 := by decide
    have f40 : (40 : Int32).toInt = 40 := by decide
    have e3 : x6 + 1 - 1 = x6 - 1 + 1 := by grind
    have e4 : 40 * (x6 - 1) + 40 = 40 * (x6 + 1 - 1) := by grind
    refine m_sh27 (e0 := e0) (a := x6 - 1 + 1) _ x1 x2 x3 x4 x5 z0 hc fu 0 (by show _ < 10000000; omega) E (by decide) (by decide) ?_ (fun e' H' => ?_)
    · have big : x6 - 1 < 2147483647 := Int32.lt_of_lt_of_le b2.2 (by decide)
      have lt1 : x6 - 1 < x6 := by clear ih K H1 H2 H3 H4 S; grind
      have e5 : x6 - 1 + 1 = x6 := by grind
      refine ⟨E1.trans H1, fun k hk j => ?_, fun k k0 k1 j => ?_, fun p => ?_⟩
      · rw [S, if_neg (by omega)]; exact H2 k hk j
      · rw [S, H3 k k0 k1 x6, if_neg (show ¬ (0 ≤ x6 ∧ x6 < x6 - 1) from fun q => absurd q.2 (Int32.not_lt.mpr (Int32.le_of_lt lt1)))]
        by_cases c : j = x6 - 1
        · rw [if_pos (show (21 ≤ k ∧ k < 27) ∧ j = x6 - 1 from ⟨⟨k0, k1⟩, c⟩), if_pos ((ltS b2.1 big).mpr (Or.inr c)), c, e5]
        · rw [if_neg (show ¬ ((21 ≤ k ∧ k < 27) ∧ j = x6 - 1) from fun q => c q.2), H3 k k0 k1 j]
          by_cases c2 : 0 ≤ j ∧ j < x6 - 1
          · rw [if_pos c2, if_pos ((ltS b2.1 big).mpr (Or.inl c2))]
          · rw [if_neg c2, if_neg (fun q => ((ltS b2.1 big).mp q).elim c2 c)]
      · rw [S, if_neg (by omega), show (40 * (x6 - 1) + 0 : Int32) = 40 * (x6 - 1) by grind]
        exact H4 p
    · refine ih e' ?_ ?_ ?_
      · clear ih K H1 H2 H3 H4 S H'; grind
      · clear ih K H1 H2 H3 H4 S H'; grind
      · rw [← e4, e3]; exact H'
theorem ofN_lt {n m : Nat} (hm : m ≤ 1000000) (h : n < m) : Int32.ofNat n < Int32.ofNat m := Int32.lt_iff_toInt_lt.mpr (by rw [ofN_i (by omega), ofN_i (by omega)]; omega)
theorem ofN_0 {n : Nat} (hn : n ≤ 1000000) : 0 ≤ Int32.ofNat n := Int32.le_iff_toInt_le.mpr (by rw [ofN_i (by omega), show (0 : Int32).toInt = 0 by decide]; omega)
/-- behind a change kept: all else is as it was -/
def DoQ (e : mE) (x1 x2 x3 x4 x5 : Int32) (pg : Int32 → Pg) (l : List (Int32 × Pg)) (e' : mE) : Prop := (∀ k, k ≠ 20 → e'.1 k = e.1 k) ∧ (∀ k, (k < 21 ∨ 27 < k) → ∀ i, e'.2 k i = e.2 k i) ∧ e'.1 20 = Int32.ofNat ((l.take 39).length + 1) ∧ (e'.2 21 (Int32.ofNat (l.take 39).length) = x1 ∧ e'.2 22 (Int32.ofNat (l.take 39).length) = x2 ∧ e'.2 23 (Int32.ofNat (l.take 39).length) = x3 ∧ e'.2 24 (Int32.ofNat (l.take 39).length) = x4 ∧ e'.2 25 (Int32.ofNat (l.take 39).length) = x5) ∧ HMo e' 0 pg (l.take 39)
theorem m_done175 {e e1 : mE} {pg : Int32 → Pg} {l : List (Int32 × Pg)} (x1 x2 x3 x4 x5 : Int32) (h1 : ∀ k, k ≠ 20 → e1.1 k = e.1 k) (h2 : ∀ k, (k < 21 ∨ 27 < k) → ∀ i, e1.2 k i = e.2 k i) (h20 : e1.1 20 = Int32.ofNat (l.take 39).length) (H : HMo e1 0 pg (l.take 39)) : Rn (P_X12_done_175 x1 x2 x3 x4 x5 e1) (DoQ e x1 x2 x3 x4 x5 pg l) := by
  unfold P_X12_done_175
  have m39 : (l.take 39).length ≤ 39 := by rw [List.length_take]; omega
  unfold DoQ
  generalize eK : Int32.ofNat (l.take 39).length = K at h20 ⊢
  have b : (0 : Int32) ≤ K ∧ K < 40 := by
    rw [← eK]
    exact ⟨ofN_0 (by omega), ofN_lt (m := 40) (by omega) (by omega)⟩
  have bb : (0 : Int32) ≤ e1.1 20 ∧ e1.1 20 < 40 := by rw [h20]; exact b
  refine rn_ck bb (rn_bd (rn_ck bb (rn_bd (rn_ck bb (rn_bd (rn_ck bb (rn_bd (rn_ck bb (rn_bd (rn_bd (rn_s ?_)))))))))))
  simp only [mA_f, h20]
  have N : ∀ k i, (k < 21 ∨ 25 < k) → (mA (mA (mA (mA (mA e1 21 K x1) 22 K x2) 23 K x3) 24 K x4) 25 K x5).2 k i = e1.2 k i := fun k i hk => by
    rw [mA_ne (by omega), mA_ne (by omega), mA_ne (by omega), mA_ne (by omega), mA_ne (by omega)]
  have M : ∀ k i, i ≠ K → (mA (mA (mA (mA (mA e1 21 K x1) 22 K x2) 23 K x3) 24 K x4) 25 K x5).2 k i = e1.2 k i := fun k i hi => by
    have n : ∀ (e : mE) k' v, (mA e k' K v).2 k i = e.2 k i := fun e k' v => if_neg (fun q => hi q.2)
    rw [n, n, n, n, n]
  refine ⟨fun k hk => by show (if k = 20 then K + 1 else e1.1 k) = e.1 k; rw [if_neg hk]; exact h1 k hk, fun k hk i => ?_, ?_, ⟨?_, ?_, ?_, ?_, ?_⟩, ?_⟩
  · exact (N k i (by omega)).trans (h2 k hk i)
  · show (if 20 = 20 then K + 1 else e1.1 20) = _
    rw [if_pos rfl, ← eK, ofN_s]
  · show (mA (mA (mA (mA (mA e1 21 K x1) 22 K x2) 23 K x3) 24 K x4) 25 K x5).2 21 K = _
    simp [mA]
  · show (mA (mA (mA (mA (mA e1 21 K x1) 22 K x2) 23 K x3) 24 K x4) 25 K x5).2 22 K = _
    simp [mA]
  · show (mA (mA (mA (mA (mA e1 21 K x1) 22 K x2) 23 K x3) 24 K x4) 25 K x5).2 23 K = _
    simp [mA]
  · show (mA (mA (mA (mA (mA e1 21 K x1) 22 K x2) 23 K x3) 24 K x4) 25 K x5).2 24 K = _
    simp [mA]
  · show (mA (mA (mA (mA (mA e1 21 K x1) 22 K x2) 23 K x3) 24 K x4) 25 K x5).2 25 K = _
    simp [mA]
  · refine HMo.cg _ _ (fun n hn => ⟨fun j _ _ => M j _ ?_, fun i _ => N 27 _ (by omega)⟩) (fun q _ t o _ _ => N 10 _ (by omega)) H
    rw [← eK]
    exact lt_ne (ofN_lt (by omega) (by omega))
theorem m_done {e : mE} {pg : Int32 → Pg} {l : List (Int32 × Pg)} (x1 x2 x3 x4 x5 : Int32) (h20 : e.1 20 = Int32.ofNat l.length) (hl : l.length ≤ 40) (H : HMo e 0 pg l) : Rn (P_X12_done x1 x2 x3 x4 x5 e) (DoQ e x1 x2 x3 x4 x5 pg l) := by
  unfold P_X12_done
  by_cases c : l.length = 40
  rotate_left
  · have l40 : l.length < 40 := by omega
    have t : l.take 39 = l := List.take_of_length_le (by omega)
    refine rn_n ?_ (m_done175 x1 x2 x3 x4 x5 (fun _ _ => rfl) (fun _ _ _ => rfl) (by rw [t]; exact h20) (by rw [t]; exact H))
    rw [h20]
    exact lt_ne (ofN_lt (m := 40) (by omega) l40)
  · have h40 : e.1 20 = 40 := by rw [h20, c]; rfl
    have t39 : (l.take 39).length = 39 := by rw [List.length_take, c]; rfl
    have f40 : (40 : Int32).toInt = 40 := by decide
    have f1 : (1 : Int32).toInt = 1 := by decide
    refine rn_p h40 (m_sh12 (e0 := e) x1 x2 x3 x4 x5 (fun e' S => ?_) fu 1 (by show _ < 10000000; omega) e (by decide) (by decide) ⟨rfl, fun _ _ _ => rfl, fun k _ _ j => ?_, fun p => ?_⟩)
    · obtain ⟨S1, S2, S3, S4⟩ := S
      refine m_done175 x1 x2 x3 x4 x5 (fun k hk => ?_) S2 ?_ ?_
      · show (if k = 20 then _ else e'.1 k) = _
        rw [if_neg hk, S1]
      · show (if 20 = 20 then e'.1 20 - 1 else e'.1 20) = _
        rw [if_pos rfl, S1, h40, t39]
        decide
      · have T := HMo.tk l pg 0 39 (by omega) H
        rw [c] at T
        refine HMo.cg _ _ (fun n hn => ?_) (fun q _ t o _ _ => S2 10 (by omega) _) T
        rw [t39] at hn
        have i0 := ofN_0 (n := n) (by omega)
        have i1 := ofN_lt (n := n) (m := 39) (by omega) hn
        have es : Int32.ofNat n + 1 = Int32.ofNat (n + (0 + (40 - 39))) := by rw [ofN_s]
        refine ⟨fun j j0 j1 => ?_, fun i hi => ?_⟩
        · show e'.2 j (Int32.ofNat (n + 0)) = _
          rw [S3 j j0 j1, Nat.add_zero, if_pos ⟨i0, i1⟩, es]
        · show e'.2 27 (40 * Int32.ofNat (n + 0) + i) = _
          have i1 : Int32.ofNat n < 39 := i1
          obtain ⟨hi0, hi1⟩ := hi
          have k : (0 : Int32) ≤ 40 * Int32.ofNat n + i ∧ 40 * Int32.ofNat n + i < 1560 := by
            generalize Int32.ofNat n = m at i0 i1
            clear S1 S2 S3 S4 T H es
            constructor <;> grind
          rw [S4, Nat.add_zero, if_pos k, ← es]
          rw [show ∀ m : Int32, 40 * m + i + 40 = 40 * (m + 1) + i from fun m => by clear S1 S2 S3 S4 T H es k; grind]
    · rw [if_neg (fun q => absurd q.1 (Int32.not_le.mpr (Int32.lt_of_lt_of_le q.2 (by decide))))]
    · rw [if_neg (fun q => absurd q.1 (Int32.not_le.mpr (Int32.lt_of_lt_of_le q.2 (by decide))))]
