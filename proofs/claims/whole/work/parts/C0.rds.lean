/-! The reference reads the seats -/
theorem rDup_bad {st : Int32 → Int32 → Int32} {s p : Int32} : ∀ n o (r : Rh), r.2 ≠ 0 → rDup st s p n o r = r
  | 0, _, _, _ => rfl
  | n + 1, o, r, h => by
    have e : rFail r = r := if_neg h
    show rDup st s p n (o + 1) (if st s o = p then rFail r else r) = r
    rw [e, show (if st s o = p then r else r) = r by split <;> rfl]
    exact rDup_bad n _ r h
section Mrs
variable {e e0 : mE} {A : Bk} {g n : Int32} {f : Int32 → Int32}
theorem RdM.fail {r : Rh} (q : RdM e0 g n f r e) (h0 : r.2 = 0) (h1 : 0 < r.1) : RdM e0 g n f (rFail r) (mS (mS e 69 1) 65 ((mS e 69 1).1 65 - 1)) ∧ rdE e (mS (mS e 69 1) 65 ((mS e 69 1).1 65 - 1)) := by
  obtain ⟨F, ⟨h65, h66, h69⟩, hin, n6, hf⟩ := q
  have D : rdE e (mS (mS e 69 1) 65 ((mS e 69 1).1 65 - 1)) := ⟨fun k n1 n2 => (if_neg n1).trans (if_neg n2), rfl⟩
  have ev : rFail r = (r.1 - 1, 1) := if_pos h0
  rw [ev]
  have e65 : (mS e 69 1).1 65 = r.1 := h65
  refine ⟨⟨F.rd D, ⟨?_, h66, rfl⟩, ?_, n6, hf⟩, D⟩
  · show (mS e 69 1).1 65 - 1 = r.1 - 1
    rw [e65]
  · have z : (0 : Int32).toInt = 0 := by decide
    have a := i32_pred h1
    have b := Int32.lt_iff_toInt_lt.mp h1
    have c := Int32.le_iff_toInt_le.mp hin.2
    exact ⟨Int32.le_iff_toInt_le.mpr (by show _ ≤ (r.1 - 1).toInt; omega), Int32.le_iff_toInt_le.mpr (by show (r.1 - 1).toInt ≤ _; omega)⟩
theorem rdE.trans {e1 e2 : mE} (a : rdE e e1) (b : rdE e1 e2) : rdE e e2 := ⟨fun k n1 n2 => (b.1 k n1 n2).trans (a.1 k n1 n2), b.2.trans a.2⟩
theorem m_rp35 {s k p : Int32} {st : Int32 → Int32 → Int32} {Q : mE → Prop} (g0 : 0 ≤ g ∧ g < 400) (gk : gin 2 11 s k) (hst : ∀ s k, gin 2 11 s k → e.2 7 (22 * g + 11 * s + k) = st s k) : ∀ j o, (k.toInt - o.toInt).toNat < j → ∀ e1 r, 0 ≤ o → o ≤ k → RdM e0 g n f r e1 → rdE e e1 → (r.2 = 0 → 0 < r.1) → (∀ e', RdM e0 g n f (rDup st s p (k.toInt - o.toInt).toNat o r) e' → rdE e e' → Rn (P_X12_readPlayer_85 g (11 * s + k) p e') Q) → Rn (P_X12_readPlayer_35 j g (11 * s + k) p (11 * s + o) e1) Q := by
  obtain ⟨s0, s1, k0, k1⟩ := gk
  have sL : inL 2 s := ⟨s0, s1⟩
  have s01 : s = 0 ∨ s = 1 := by clear hst; grind
  refine i32_up ?_ ?_
  · intro j o hc e1 r o0 ok q D h1 K
    have eo : o = k := Int32.le_antisymm ok hc
    subst eo
    unfold P_X12_readPlayer_35
    rw [sub_none hc] at K
    exact rn_p (Int32.le_refl _) (K e1 q D)
  · intro j o hc ih e1 r o0 ok q D h1 K
    unfold P_X12_readPlayer_35 P_X12_readPlayer_79
    have co : gin 2 11 s o := ⟨s0, s1, o0, Int32.lt_of_lt_of_le hc (Int32.le_of_lt k1)⟩
    have so := sk_22 co
    have lt : ¬ 11 * s + k ≤ 11 * s + o := by
      rcases s01 with y | y <;> subst y <;> clear ih K hst q D co so <;> grind
    refine rn_n lt ?_
    rw [show e1.1 69 = r.2 from q.2.1.2.2]
    rw [sub_succ hc] at K
    have K : ∀ e', RdM e0 g n f (rDup st s p (k.toInt - (o + 1).toInt).toNat (o + 1) (if st s o = p then rFail r else r)) e' → rdE e e' → Rn (P_X12_readPlayer_85 g (11 * s + k) p e') Q := K
    have ix : (0 : Int32) ≤ 22 * g + (11 * s + o) ∧ 22 * g + (11 * s + o) < 8800 := by
      rw [← so.2]
      exact ix22 g0 s01 ⟨o0, co.2.2.2⟩
    have e1' : 11 * s + o + 1 = 11 * s + (o + 1) := by clear ih K hst q D co so lt; grind
    have os : o + 1 ≤ k := by
      have := i32_succ hc
      have := Int32.lt_iff_toInt_lt.mp hc
      exact Int32.le_iff_toInt_le.mpr (by omega)
    by_cases c : r.2 = 0
    rotate_left
    · rw [if_neg c]
      refine K e1 ?_ D
      have ef : rFail r = r := if_neg c
      rw [ef, show (if st s o = p then r else r) = r by split <;> rfl, rDup_bad _ _ _ c]
      exact q
    rw [if_pos c]
    refine rn_ck ix ?_
    have v : e1.2 7 (22 * g + (11 * s + o)) = st s o := by
      rw [← so.2, D.2]
      exact hst s o co
    rw [v]
    refine rn_i (fun c2 => rn_bd (rn_bd (rn_bd ?_))) (fun c2 => rn_bd ?_)
    · rw [if_pos c2] at K
      obtain ⟨q', D'⟩ := q.fail c (h1 c)
      rw [e1']
      have bad : (rFail r).2 = 1 := by rw [show rFail r = (r.1 - 1, 1) from if_pos c]
      exact ih _ _ (i32_ps o0 hc) os q' (D.trans D') (fun z => absurd (bad.symm.trans z) (by decide)) K
    · rw [if_neg c2] at K
      rw [e1']
      exact ih _ _ (i32_ps o0 hc) os q D h1 K
/-- the game that is read: its head and its seats -/
def SeQ (e0 : mE) (g n a b ov ea : Int32) (f : Int32 → Int32) (z : Rh × (Int32 → Int32 → Int32)) (e : mE) : Prop := RdM e0 g n f z.1 e ∧ (∀ s k, gin 2 11 s k → e.2 7 (22 * g + 11 * s + k) = z.2 s k) ∧ e.2 4 (2 * g) = a ∧ e.2 4 (2 * g + 1) = b ∧ e.2 5 g = ov ∧ e.2 6 g = ea ∧ e.1 11 = e0.1 11
theorem FrR.set7 {s k v : Int32} (F : FrR e0 g e) (g0 : 0 ≤ g ∧ g < 400) (gk : gin 2 11 s k) : FrR e0 g (mA e 7 (22 * g + 11 * s + k) v) := by
  obtain ⟨f1, f2, f3, f4, f5⟩ := F
  refine ⟨f1, f2, fun k' hk' i => (mA_ne (by omega)).trans (f3 k' hk' i), fun g' h1 h2 => ?_, fun r r0 r1 => ?_⟩
  · obtain ⟨⟨z1, z2, z3, z4, z5⟩, z6, z7⟩ := f4 g' h1 h2
    refine ⟨⟨(mA_ne (by decide)).trans z1, (mA_ne (by decide)).trans z2, (mA_ne (by decide)).trans z3, (mA_ne (by decide)).trans z4, (mA_ne (by decide)).trans z5⟩, fun s' k' c => (sk_ot g0 h1 h2 gk c).trans (z6 s' k' c), fun t ht => ⟨(mA_ne (by decide)).trans (z7 t ht).1, fun o ho => (mA_ne (by decide)).trans ((z7 t ht).2 o ho)⟩⟩
  · obtain ⟨w1, w2, w3⟩ := f5 r r0 r1
    exact ⟨(mA_ne (by decide)).trans w1, (mA_ne (by decide)).trans w2, fun i hi => (mA_ne (by decide)).trans (w3 i hi)⟩
theorem m_rp {a b ov ea s k : Int32} {z : Rh × (Int32 → Int32 → Int32)} {m : Int32} (g0 : 0 ≤ g ∧ g < 400) (gk : gin 2 11 s k) (q : SeQ e0 g n a b ov ea f z e) (hz : z.1.2 = 0) (hs60 : inL 60 (if s = 0 then a else b)) (hm : e0.2 3 (if s = 0 then a else b) = m) : Rn (P_X12_readPlayer g (11 * s + k) e) (SeQ e0 g n a b ov ea f (rDup z.2 s (rNext f n 0 (m - 1) z.1).1 k.toInt.toNat 0 (rNext f n 0 (m - 1) z.1).2, gS 2 11 z.2 s k (rNext f n 0 (m - 1) z.1).1)) := by
  obtain ⟨R, st, h4a, h4b, h5, h6, i11⟩ := q
  have gk' := gk
  obtain ⟨s0, s1, k0, k1⟩ := gk
  have sL : inL 2 s := ⟨s0, s1⟩
  have s01 : s = 0 ∨ s = 1 := by clear st R; grind
  have dv : (11 * s + k) / 11 = s := by
    have hk : k = 0 ∨ k = 1 ∨ k = 2 ∨ k = 3 ∨ k = 4 ∨ k = 5 ∨ k = 6 ∨ k = 7 ∨ k = 8 ∨ k = 9 ∨ k = 10 := by clear s01 sL st R s0 s1; grind
    rcases s01 with y | y <;> subst y <;> rcases hk with y | y | y | y | y | y | y | y | y | y | y <;> subst y <;> decide
  have sd : e.2 4 (2 * g + s) = if s = 0 then a else b := by
    rcases s01 with y | y
    · rw [y, if_pos rfl, ad0]; exact h4a
    · rw [y, if_neg (by decide)]; exact h4b
  unfold P_X12_readPlayer
  rw [dv, sd, R.1.2.2.1 3 (by omega), hm]
  refine rn_ck (lin2 g0 sL).1 (rn_ck hs60 (rn_c (m_read (lo := 0) (hi := m - 1) R) ?_))
  rintro ⟨v, e1⟩ ⟨ev, R1, D1⟩
  dsimp only at ev R1 D1
  have LO := (rNext_lo (f := f) (e := n) (lo := 0) (hi := m - 1) (r := z.1)).2
  have INP := R.2.2.1
  have P1 : (rNext f n 0 (m - 1) z.1).2.2 = 0 → 0 < (rNext f n 0 (m - 1) z.1).2.1 := fun h => by
    obtain ⟨-, -, l3, l4, -⟩ := LO h
    rw [l4]
    have l6 : z.1.1 < 6000 := Int32.lt_of_lt_of_le l3 R.2.2.2.1
    have a := i32_succ l6
    have b := Int32.le_iff_toInt_le.mp INP.1
    have z0 : (0 : Int32).toInt = 0 := by decide
    exact Int32.lt_iff_toInt_lt.mpr (by omega)
  generalize rNext f n 0 (m - 1) z.1 = X at ev R1 P1 LO
  refine rn_bd (rn_bd (rn_bd ?_))
  dsimp only
  subst ev
  have z0 : (0 : Int32).toInt = 0 := by decide
  have k11 := Int32.lt_iff_toInt_lt.mp k1
  have f11 : (11 : Int32).toInt = 11 := by decide
  have zz : (k.toInt - (0 : Int32).toInt).toNat = k.toInt.toNat := by rw [z0, Int.sub_zero]
  have h0 : s * 11 = 11 * s + 0 := by clear st R1 R LO P1; grind
  rw [h0]
  refine m_rp35 (e := e) (st := z.2) (p := X.1) g0 gk' st fu 0 (by show _ < 10000000; omega) e1 X.2 (by decide) k0 R1 D1 P1 (fun e2 R2 D2 => ?_)
  rw [zz] at R2
  unfold P_X12_readPlayer_85
  have sk := sk_22 gk'
  rw [← sk.2]
  refine rn_ck (ix22 g0 s01 ⟨k0, k1⟩) (rn_bd (rn_s ⟨⟨R2.1.set7 g0 gk', R2.2⟩, fun s' k' c => ?_, ?_, ?_, ?_, ?_, (D2.1 11 (by decide) (by decide)).trans i11⟩))
  · rw [sk_at g0 gk' c]
    show _ = (if gin 2 11 s k ∧ s' = s ∧ k' = k then X.1 else z.2 s' k')
    by_cases y : s' = s ∧ k' = k
    · rw [if_pos y, if_pos (show gin 2 11 s k ∧ s' = s ∧ k' = k from ⟨gk', y⟩)]
    · rw [if_neg y, if_neg (show ¬ (gin 2 11 s k ∧ s' = s ∧ k' = k) from fun w => y w.2), D2.2]
      exact st s' k' c
  · rw [mA_ne (by decide), D2.2]; exact h4a
  · rw [mA_ne (by decide), D2.2]; exact h4b
  · rw [mA_ne (by decide), D2.2]; exact h5
  · rw [mA_ne (by decide), D2.2]; exact h6
end Mrs
