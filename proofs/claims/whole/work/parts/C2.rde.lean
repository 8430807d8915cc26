/-! The reference reads an over's entries -/
section Mre2
variable {e e0 : mE} {g n : Int32} {f : Int32 → Int32}
theorem FrR.setR {r v : Int32} {k : Nat} (F : FrR e0 g e) (hk : k = 12 ∨ k = 13) (hr : e0.1 11 ≤ r) : FrR e0 g (mA e k r v) := by
  obtain ⟨f1, f2, f3, f4, f5⟩ := F
  refine ⟨f1, f2, fun k' hk' i => (mA_ne (by omega)).trans (f3 k' hk' i), fun g' h1 h2 => ?_, fun r' r0 r1 => ?_⟩
  · obtain ⟨⟨z1, z2, z3, z4, z5⟩, z6, z7⟩ := f4 g' h1 h2
    exact ⟨⟨(mA_ne (by omega)).trans z1, (mA_ne (by omega)).trans z2, (mA_ne (by omega)).trans z3, (mA_ne (by omega)).trans z4, (mA_ne (by omega)).trans z5⟩, fun s' k' c => (mA_ne (by omega)).trans (z6 s' k' c), fun t ht => ⟨(mA_ne (by omega)).trans (z7 t ht).1, fun o ho => (mA_ne (by omega)).trans ((z7 t ht).2 o ho)⟩⟩
  · obtain ⟨w1, w2, w3⟩ := f5 r' r0 r1
    have n : r' ≠ r := fun y => by rw [y] at r1; exact absurd r1 (Int32.not_lt.mpr hr)
    have s : ∀ j, (mA e k r v).2 j r' = e.2 j r' := fun j => if_neg (fun y => n y.2)
    exact ⟨(s 12).trans w1, (s 13).trans w2, fun i hi => (mA_ne (by omega)).trans (w3 i hi)⟩
theorem FrR.set14 {r i v : Int32} (F : FrR e0 g e) (hr : e0.1 11 ≤ r) (h0 : 0 ≤ r ∧ r < 6000) (hi : inL 40 i) : FrR e0 g (mA e 14 (40 * r + i) v) := by
  obtain ⟨f1, f2, f3, f4, f5⟩ := F
  refine ⟨f1, f2, fun k' hk' i => (mA_ne (by omega)).trans (f3 k' hk' i), fun g' h1 h2 => ?_, fun r' r0 r1 => ?_⟩
  · obtain ⟨⟨z1, z2, z3, z4, z5⟩, z6, z7⟩ := f4 g' h1 h2
    exact ⟨⟨(mA_ne (by omega)).trans z1, (mA_ne (by omega)).trans z2, (mA_ne (by omega)).trans z3, (mA_ne (by omega)).trans z4, (mA_ne (by omega)).trans z5⟩, fun s' k' c => (mA_ne (by omega)).trans (z6 s' k' c), fun t ht => ⟨(mA_ne (by omega)).trans (z7 t ht).1, fun o ho => (mA_ne (by omega)).trans ((z7 t ht).2 o ho)⟩⟩
  · obtain ⟨w1, w2, w3⟩ := f5 r' r0 r1
    have lt := Int32.lt_of_lt_of_le r1 hr
    refine ⟨(mA_ne (by omega)).trans w1, (mA_ne (by omega)).trans w2, fun i' hi' => ?_⟩
    rw [mA_at, if_neg (fun y => lt_ne lt (inj40 ⟨r0, Int32.lt_of_lt_of_le lt (Int32.le_of_lt h0.2)⟩ hi' h0 hi y).1)]
    exact w3 i' hi'
theorem FrR.set9 {t v : Int32} (F : FrR e0 g e) (g0 : 0 ≤ g ∧ g < 400) (ht : inL 4 t) : FrR e0 g (mA e 9 (4 * g + t) v) := by
  obtain ⟨f1, f2, f3, f4, f5⟩ := F
  refine ⟨f1, f2, fun k' hk' i => (mA_ne (by omega)).trans (f3 k' hk' i), fun g' h1 h2 => ?_, fun r' r0 r1 => ?_⟩
  · obtain ⟨⟨z1, z2, z3, z4, z5⟩, z6, z7⟩ := f4 g' h1 h2
    refine ⟨⟨(mA_ne (by omega)).trans z1, (mA_ne (by omega)).trans z2, (mA_ne (by omega)).trans z3, (mA_ne (by omega)).trans z4, (mA_ne (by omega)).trans z5⟩, fun s' k' c => (mA_ne (by omega)).trans (z6 s' k' c), fun t' ht' => ⟨?_, fun o ho => (mA_ne (by omega)).trans ((z7 t' ht').2 o ho)⟩⟩
    rw [mA_at, if_neg (fun y => h2 (inj4 h1 ht' g0 ht y).1)]
    exact (z7 t' ht').1
  · obtain ⟨w1, w2, w3⟩ := f5 r' r0 r1
    exact ⟨(mA_ne (by omega)).trans w1, (mA_ne (by omega)).trans w2, fun i hi => (mA_ne (by omega)).trans (w3 i hi)⟩
theorem FrR.set10 {t o v : Int32} (F : FrR e0 g e) (g0 : 0 ≤ g ∧ g < 400) (ht : inL 4 t) (ho : inL 130 o) : FrR e0 g (mA e 10 (130 * (4 * g + t) + o) v) := by
  obtain ⟨f1, f2, f3, f4, f5⟩ := F
  refine ⟨f1, f2, fun k' hk' i => (mA_ne (by omega)).trans (f3 k' hk' i), fun g' h1 h2 => ?_, fun r' r0 r1 => ?_⟩
  · obtain ⟨⟨z1, z2, z3, z4, z5⟩, z6, z7⟩ := f4 g' h1 h2
    refine ⟨⟨(mA_ne (by omega)).trans z1, (mA_ne (by omega)).trans z2, (mA_ne (by omega)).trans z3, (mA_ne (by omega)).trans z4, (mA_ne (by omega)).trans z5⟩, fun s' k' c => (mA_ne (by omega)).trans (z6 s' k' c), fun t' ht' => ⟨(mA_ne (by omega)).trans (z7 t' ht').1, fun o' ho' => ?_⟩⟩
    show (mA e 10 (130 * (4 * g + t) + o) v).2 10 (130 * (4 * g' + t') + o') = _
    rw [mA_at, if_neg (fun y => h2 (inj130 h1 ht' ho' g0 ht ho y).1)]
    exact (z7 t' ht').2 o' ho'
  · obtain ⟨w1, w2, w3⟩ := f5 r' r0 r1
    exact ⟨(mA_ne (by omega)).trans w1, (mA_ne (by omega)).trans w2, fun i hi => (mA_ne (by omega)).trans (w3 i hi)⟩
theorem FrR.hi {k : Nat} {i v : Int32} (F : FrR e0 g e) (hk : 28 ≤ k ∧ k ≠ 71) : FrR e0 g (mA e k i v) := by
  obtain ⟨f1, f2, f3, f4, f5⟩ := F
  refine ⟨f1, f2, fun k' hk' i => (mA_ne (by omega)).trans (f3 k' hk' i), fun g' h1 h2 => ?_, fun r' r0 r1 => ?_⟩
  · obtain ⟨⟨z1, z2, z3, z4, z5⟩, z6, z7⟩ := f4 g' h1 h2
    exact ⟨⟨(mA_ne (by omega)).trans z1, (mA_ne (by omega)).trans z2, (mA_ne (by omega)).trans z3, (mA_ne (by omega)).trans z4, (mA_ne (by omega)).trans z5⟩, fun s' k' c => (mA_ne (by omega)).trans (z6 s' k' c), fun t' ht' => ⟨(mA_ne (by omega)).trans (z7 t' ht').1, fun o' ho' => (mA_ne (by omega)).trans ((z7 t' ht').2 o' ho')⟩⟩
  · obtain ⟨w1, w2, w3⟩ := f5 r' r0 r1
    exact ⟨(mA_ne (by omega)).trans w1, (mA_ne (by omega)).trans w2, fun i hi => (mA_ne (by omega)).trans (w3 i hi)⟩
theorem FrR.set11 {v : Int32} (F : FrR e0 g e) (h : e.1 11 ≤ v) : FrR e0 g (mS e 11 v) := by
  obtain ⟨f1, f2, f3, f4, f5⟩ := F
  exact ⟨fun k k0 k1 k2 => (if_neg k2).trans (f1 k k0 k1 k2), i32_tr f2 h, f3, f4, f5⟩
/-- only the reader's ints and the entries of row R have changed -/
def enE (e : mE) (R : Int32) (e' : mE) : Prop := (∀ k, k ≠ 65 → k ≠ 69 → e'.1 k = e.1 k) ∧ (∀ k, k ≠ 14 → ∀ i, e'.2 k i = e.2 k i) ∧ ∀ r i, (0 ≤ r ∧ r < 6000) → r ≠ R → inL 40 i → e'.2 14 (40 * r + i) = e.2 14 (40 * r + i)
theorem rEnts_s (f : Int32 → Int32) {e : Int32} {n : Nat} {i : Int32} {s : Rh × Int32 × (Int32 → Int32)} (h : s.1.2 = 0) : rEnts f e (n + 1) i s = rEnts f e n (i + 1) ((rNext f e 0 255 s.1).2, i + 1, rIns s.2.2 i (rNext f e 0 255 s.1).1) := if_pos h
theorem rEnts_bad (f : Int32 → Int32) {e : Int32} : ∀ n i (s : Rh × Int32 × (Int32 → Int32)), s.1.2 ≠ 0 → rEnts f e n i s = s
  | 0, _, _, _ => rfl
  | n + 1, i, s, h => if_neg h
theorem m_73 {t x3 o R x6 : Int32} {Q : mE → Prop} {k23 : Int32 → Int32 → Int32 → Int32 → mE → Option mE} (hR : e0.1 11 ≤ R) (r0 : 0 ≤ R ∧ R < 6000) (s40 : x6 - 1 ≤ 40) : ∀ j i, ((x6 - 1).toInt - i.toInt).toNat < j → ∀ (e1 : mE) (s : Rh × Int32 × (Int32 → Int32)), 0 ≤ i → RdM e0 g n f s.1 e1 → enE e R e1 → (s.1.2 = 0 → (i ≤ x6 - 1 → s.2.1 = i ∧ ∀ k, inL i k → e1.2 14 (40 * R + k) = s.2.2 k)) → (∀ e', RdM e0 g n f (rEnts f n ((x6 - 1).toInt - i.toInt).toNat i s).1 e' → enE e R e' → ((rEnts f n ((x6 - 1).toInt - i.toInt).toNat i s).1.2 = 0 → i ≤ x6 - 1 → (rEnts f n ((x6 - 1).toInt - i.toInt).toNat i s).2.1 = x6 - 1 ∧ ∀ k, inL (x6 - 1) k → e'.2 14 (40 * R + k) = (rEnts f n ((x6 - 1).toInt - i.toInt).toNat i s).2.2 k) → Rn (P_X12_readTurn_116 k23 g t x3 o R e') Q) → Rn (P_X12_readTurn_73 k23 j g t x3 o R x6 i e1) Q := by
  refine i32_up ?_ ?_
  · intro j i hc e1 s i0 q D H K
    unfold P_X12_readTurn_73
    rw [sub_none hc] at K
    refine rn_p hc (K e1 q D (fun h hi => ?_))
    have ei : i = x6 - 1 := Int32.le_antisymm hi hc
    have := H h hi
    rw [ei] at this
    exact this
  · intro j i hc ih e1 s i0 q D H K
    unfold P_X12_readTurn_73
    refine rn_n (Int32.not_le.mpr hc) ?_
    rw [show e1.1 69 = s.1.2 from q.2.1.2.2]
    by_cases c : s.1.2 = 0
    rotate_left
    · rw [if_neg c]
      rw [rEnts_bad f _ _ _ c] at K
      exact K e1 q D (fun h => absurd h c)
    rw [if_pos c]
    rw [sub_succ hc, rEnts_s f c] at K
    have i40 : inL 40 i := ⟨i0, Int32.lt_of_lt_of_le hc s40⟩
    have is := i32_succ hc
    have ic := Int32.lt_iff_toInt_lt.mp hc
    have il : i + 1 ≤ x6 - 1 := Int32.le_iff_toInt_le.mpr (by omega)
    refine rn_c (m_read (lo := 0) (hi := 255) q) ?_
    rintro ⟨v, e2⟩ ⟨ev, R2, D2⟩
    dsimp only at ev R2 D2
    generalize rNext f n 0 255 s.1 = X at ev R2 K
    subst ev
    refine rn_bd (rn_bd (rn_ck (ix40 r0 i40.1 i40.2) (rn_bd (rn_bd (ih _ (X.2, i + 1, rIns s.2.2 i X.1) (i32_ps i0 hc) ⟨R2.1.set14 hR r0 i40, R2.2⟩ ⟨fun k n1 n2 => (D2.1 k n1 n2).trans (D.1 k n1 n2), fun k hk j => (mA_ne hk).trans ((congrFun (congrFun D2.2 k) j).trans (D.2.1 k hk j)), fun r j h1 h2 h3 => ?_⟩ (fun h _ => ⟨rfl, fun k hk => ?_⟩) (fun e' a1 a2 a3 => K e' a1 a2 (fun h _ => a3 h il)))))))
    · rw [mA_at, if_neg (fun y => h2 (inj40 h1 h3 r0 i40 y).1), congrFun (congrFun D2.2 14) _]
      exact D.2.2 r j h1 h2 h3
    · dsimp only
      have k40 : inL 40 k := ⟨hk.1, by
        have := Int32.lt_iff_toInt_lt.mp hk.2
        have e40 : (40 : Int32).toInt = 40 := by decide
        have := tI40 s40
        exact Int32.lt_iff_toInt_lt.mpr (by omega)⟩
      rw [en_at r0 i40 k40, congrFun (congrFun D2.2 14) _]
      unfold rIns
      rcases (i32_ls hc).mp hk.2 with y | y
      · rw [if_neg (lt_ne y), if_pos y]
        exact (H c (Int32.le_of_lt hc)).2 k ⟨hk.1, y⟩
      · rw [if_pos y, if_neg (fun z => lt_ne z y), if_pos y]
end Mre2
