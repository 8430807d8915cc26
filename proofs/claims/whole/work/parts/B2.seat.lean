/-! seat of the reference -/
section Mse
variable {e e' : mE} {A B : Bk} {g : Int32}
theorem MR.seat (r : MR e A) (ok : BkOK A) {f : Int32 → Int32 → Int32} (c : inL A.games g) (h1 : e'.1 = e.1) (h2 : ∀ k, k ≠ 7 → ∀ i, e'.2 k i = e.2 k i) (h7 : ∀ s k, gin 2 11 s k → e'.2 7 (22 * g + 11 * s + k) = f s k) (h7' : ∀ g' s k, inL A.games g' → g' ≠ g → gin 2 11 s k → e'.2 7 (22 * g' + 11 * s + k) = e.2 7 (22 * g' + 11 * s + k)) : MR e' (A.sS g f) := by
  obtain ⟨⟨a1, a2, a3, a4, a5, a6⟩, ⟨b1, b2, b3⟩, d, w, u, v⟩ := r
  have rw2 : ∀ g t o, rwT e' g t o = rwT e g t o := fun g t o => h2 10 (by omega) _
  refine ⟨by rw [h1]; exact ⟨a1, a2, a3, a4, a5, a6⟩, ⟨fun i hi => (h2 3 (by omega) i).trans (b1 i hi), fun i hi => (h2 15 (by omega) i).trans (b2 i hi), fun i hi => (h2 17 (by omega) i).trans (b3 i hi)⟩, fun g' hg' => ?_, by rw [h1]; exact w, fun g1 t1 o1 g3 t3 o3 p q h => u _ _ _ _ _ _ p q (by rw [← rw2, ← rw2]; exact h), HMo.cg (e := e) (d := 0) _ _ (fun n _ => ⟨fun j j0 j1 => h2 j (by omega) _, fun i _ => h2 27 (by omega) _⟩) (fun q _ t o _ _ => rw2 _ _ _) v⟩
  obtain ⟨y1, y2, y3, y4, y5, y6, y7⟩ := d g' hg'
  refine ⟨(h2 4 (by omega) _).trans y1, (h2 4 (by omega) _).trans y2, fun s k c' => ?_, (h2 5 (by omega) _).trans y4, (h2 6 (by omega) _).trans y5, (h2 8 (by omega) _).trans y6, fun t ht => ⟨(h2 9 (by omega) _).trans (y7 t ht).1, fun o ho => ?_⟩⟩
  · show _ = (if g' = g then f else A.st g') s k
    by_cases y : g' = g
    · rw [if_pos y, y]; exact h7 s k c'
    · rw [if_neg y, h7' g' s k hg' y c']
      exact y3 s k c'
  · obtain ⟨z1, z2, z3, z4⟩ := (y7 t ht).2 o ho
    rw [rw2, h1]
    exact ⟨z1, (h2 12 (by omega) _).trans z2, (h2 13 (by omega) _).trans z3, fun i hi => (h2 14 (by omega) _).trans (z4 i hi)⟩
theorem sk_at {E : mE} {s k s' k' v : Int32} (g0 : 0 ≤ g ∧ g < 400) (h : gin 2 11 s k) (h' : gin 2 11 s' k') : (mA E 7 (22 * g + 11 * s + k) v).2 7 (22 * g + 11 * s' + k') = if s' = s ∧ k' = k then v else E.2 7 (22 * g + 11 * s' + k') := by
  rw [mA_at]
  have a := sk_22 h
  have b := sk_22 h'
  by_cases c : s' = s ∧ k' = k
  · rw [if_pos c, if_pos (by rw [c.1, c.2])]
  · rw [if_neg c, if_neg (fun q => c ?_)]
    rw [a.2, b.2] at q
    exact sk_inj h' h (inj22 g0 b.1 g0 a.1 q).2
theorem sk_ot {E : mE} {s k s' k' v g' : Int32} (g0 : 0 ≤ g ∧ g < 400) (g1 : 0 ≤ g' ∧ g' < 400) (n : g' ≠ g) (h : gin 2 11 s k) (h' : gin 2 11 s' k') : (mA E 7 (22 * g + 11 * s + k) v).2 7 (22 * g' + 11 * s' + k') = E.2 7 (22 * g' + 11 * s' + k') := by
  rw [mA_at]
  have a := sk_22 h
  have b := sk_22 h'
  refine if_neg (fun q => n ?_)
  rw [a.2, b.2] at q
  exact (inj22 g1 b.1 g0 a.1 q).1
theorem m_seat82 {s k p : Int32} {st : Int32 → Int32 → Int32} {R : mE → Prop} (g0 : 0 ≤ g ∧ g < 400) (hs : inL 2 s) (hk : inL 11 k) (h0 : ∀ s k, gin 2 11 s k → e.2 7 (22 * g + 11 * s + k) = st s k) (K : ∀ E, E.1 = e.1 → (∀ k, k ≠ 7 → ∀ i, E.2 k i = e.2 k i) → (∀ s' j, gin 2 11 s' j → E.2 7 (22 * g + 11 * s' + j) = stNew st s k p s' j) → (∀ g' s' j, (0 ≤ g' ∧ g' < 400) → g' ≠ g → gin 2 11 s' j → E.2 7 (22 * g' + 11 * s' + j) = e.2 7 (22 * g' + 11 * s' + j)) → R E) : ∀ n m, ((11 : Int32).toInt - m.toInt).toNat < n → ∀ E, 0 ≤ m → m ≤ 11 → E.1 = e.1 → (∀ k, k ≠ 7 → ∀ i, E.2 k i = e.2 k i) → (∀ s' j, gin 2 11 s' j → E.2 7 (22 * g + 11 * s' + j) = if s' = s ∧ j < m ∧ st s j = p then st s k else st s' j) → (∀ g' s' j, (0 ≤ g' ∧ g' < 400) → g' ≠ g → gin 2 11 s' j → E.2 7 (22 * g' + 11 * s' + j) = e.2 7 (22 * g' + 11 * s' + j)) → Rn (P_X12_seat_82 n k p (22 * g + 11 * s) m E) (fun q => q.1 = 1 ∧ R q.2) := by
  have gk : gin 2 11 s k := ⟨hs.1, hs.2, hk.1, hk.2⟩
  have s01 : s = 0 ∨ s = 1 := by obtain ⟨a, b⟩ := hs; clear K h0; grind
  refine i32_up ?_ ?_
  · intro n m hc E m0 m1 q1 q2 q3 q4
    have em : m = 11 := Int32.le_antisymm m1 hc
    subst em
    unfold P_X12_seat_82
    refine rn_p hc (rn_ck (ix22 g0 s01 hk) (rn_bd (rn_s ⟨rfl, K _ q1 (fun k hk i => (mA_ne hk).trans (q2 k hk i)) (fun s' j c => ?_) (fun g' s' j a n c => (sk_ot g0 a n gk c).trans (q4 g' s' j a n c))⟩)))
    rw [sk_at g0 gk c, q3 s' j c]
    unfold stNew
    have j11 : j < 11 := c.2.2.2
    by_cases y : s' = s
    · rw [if_pos (show gin 2 11 s' j ∧ s' = s from ⟨c, y⟩)]
      by_cases x : j = k
      · rw [if_pos ⟨y, x⟩, if_pos x]
      · rw [if_neg (fun q => x q.2), if_neg x]
        by_cases w : st s j = p
        · rw [if_pos ⟨y, j11, w⟩, if_pos w]
        · rw [if_neg (fun q => w q.2.2), if_neg w, y]
    · rw [if_neg (fun q => y q.1), if_neg (fun q => y q.1), if_neg (fun q => y q.2)]
  · intro n m hc ih E m0 m1 q1 q2 q3 q4
    unfold P_X12_seat_82 P_X12_seat_123
    have gm : gin 2 11 s m := ⟨hs.1, hs.2, m0, hc⟩
    have vm : E.2 7 (22 * g + 11 * s + m) = st s m := by rw [q3 s m gm, if_neg (fun q => Int32.lt_irrefl q.2.1)]
    have vk : E.2 7 (22 * g + 11 * s + k) = st s k := by
      rw [q3 s k gk]
      by_cases y : s = s ∧ k < m ∧ st s k = p
      · rw [if_pos y]
      · rw [if_neg y]
    have ms : m + 1 ≤ 11 := by
      have := i32_succ hc
      have := Int32.lt_iff_toInt_lt.mp hc
      exact Int32.le_iff_toInt_le.mpr (by omega)
    refine rn_n (Int32.not_le.mpr hc) (rn_ck (ix22 g0 s01 ⟨m0, hc⟩) ?_)
    rw [vm, vk]
    refine rn_i (fun c => rn_ck (ix22 g0 s01 hk) (rn_ck (ix22 g0 s01 ⟨m0, hc⟩) (rn_bd (rn_bd (ih _ (i32_ps m0 hc) ms q1 (fun k hk i => (mA_ne hk).trans (q2 k hk i)) (fun s' j cj => ?_) (fun g' s' j a n cj => (sk_ot g0 a n gm cj).trans (q4 g' s' j a n cj))))))) (fun c => rn_bd (ih _ (i32_ps m0 hc) ms q1 q2 (fun s' j cj => ?_) q4))
    · rw [sk_at g0 gm cj, q3 s' j cj]
      by_cases y : s' = s ∧ j = m
      · rw [if_pos y, if_pos ⟨y.1, (i32_ls hc).mpr (Or.inr y.2), by rw [y.2]; exact c⟩]
      · rw [if_neg y]
        by_cases x : s' = s ∧ j < m ∧ st s j = p
        · rw [if_pos x, if_pos ⟨x.1, (i32_ls hc).mpr (Or.inl x.2.1), x.2.2⟩]
        · rw [if_neg x, if_neg (fun q => ((i32_ls hc).mp q.2.1).elim (fun z => x ⟨q.1, z, q.2.2⟩) (fun z => y ⟨q.1, z⟩))]
    · rw [q3 s' j cj]
      by_cases x : s' = s ∧ j < m ∧ st s j = p
      · rw [if_pos x, if_pos ⟨x.1, (i32_ls hc).mpr (Or.inl x.2.1), x.2.2⟩]
      · rw [if_neg x, if_neg (fun q => ((i32_ls hc).mp q.2.1).elim (fun z => x ⟨q.1, z, q.2.2⟩) (fun z => c (by rw [← z]; exact q.2.2)))]
theorem m_seat (r : MR e A) (ok : BkOK A) (g s k p : Int32) : Rn (P_X12_seat g s k p e) (fun q => q.1 = (aSeat g s k p A).1 ∧ MP e (aSeat g s k p A).2 q.2) := by
  unfold P_X12_seat aSeat
  have r0 := r.c0
  have no : ∀ (h : ¬ (inL A.games g ∧ inL 2 s ∧ inL 11 k ∧ 0 ≤ p ∧ p < A.pl (if s = 0 then A.sd0 g else A.sd1 g) ∧ (A.pg g).turns ≤ 0)), Rn (some ((0 : Int32), mS e 0 0)) (fun q => q.1 = (if inL A.games g ∧ inL 2 s ∧ inL 11 k ∧ 0 ≤ p ∧ p < A.pl (if s = 0 then A.sd0 g else A.sd1 g) ∧ (A.pg g).turns ≤ 0 then ((1 : Int32), A.sS g (stNew (A.st g) s k p)) else (0, A)).1 ∧ MP e (if inL A.games g ∧ inL 2 s ∧ inL 11 k ∧ 0 ≤ p ∧ p < A.pl (if s = 0 then A.sd0 g else A.sd1 g) ∧ (A.pg g).turns ≤ 0 then ((1 : Int32), A.sS g (stNew (A.st g) s k p)) else (0, A)).2 q.2) := fun h => by
    rw [if_neg h]
    exact rn_s ⟨rfl, r0, rfl⟩
  refine rn_bd (rn_o (m_isGame r0 g) (rn_bd (rn_bd ?_)))
  dsimp only
  by_cases c : inL A.games g
  rotate_left
  · rw [if_neg c]
    exact rn_p rfl (no (fun q => c q.1))
  rw [if_pos c]
  refine rn_n (by decide) (rn_i (fun c1 => no (fun q => absurd q.2.1.1 (Int32.not_le.mpr c1))) (fun c1 => rn_i (fun c2 => no (fun q => ?_)) (fun c2 => rn_i (fun c3 => no (fun q => absurd q.2.2.1.1 (Int32.not_le.mpr c3))) (fun c3 => rn_i (fun c4 => no (fun q => ?_)) (fun c4 => rn_i (fun c5 => no (fun q => absurd q.2.2.2.1 (Int32.not_le.mpr c5))) (fun c5 => ?_))))))
  · have := q.2.1.2
    clear r0 r ok no q c
    grind
  · have := q.2.2.1.2
    clear r0 r ok no q c
    grind
  have hs : inL 2 s := ⟨Int32.not_lt.mp c1, by clear r0 r ok no c; grind⟩
  have hk : inL 11 k := ⟨Int32.not_lt.mp c3, by clear r0 r ok no c; grind⟩
  have g4 := g400 ok c
  have s01 : s = 0 ∨ s = 1 := by obtain ⟨a, b⟩ := hs; clear r0 r ok no c c1 c2 c3 c4 c5; grind
  have GR := r0.2.2.1 g c
  have sd : (mS e 0 0).2 4 (2 * g + s) = if s = 0 then A.sd0 g else A.sd1 g := by
    rcases s01 with y | y
    · rw [y, if_pos rfl, ad0]; exact GR.1
    · rw [y, if_neg (by decide)]; exact GR.2.1
  have sdi : inL A.sides (if s = 0 then A.sd0 g else A.sd1 g) := by
    have o := ok.2.2.2.2.2.2.1 g c
    rcases s01 with y | y
    · rw [y, if_pos rfl]; exact o.2.1
    · rw [y, if_neg (by decide)]; exact o.2.2.1
  refine rn_ck (lin2 g4 hs).1 ?_
  rw [sd]
  refine rn_ck ⟨sdi.1, Int32.lt_of_lt_of_le sdi.2 ok.1.2⟩ ?_
  rw [r0.2.1.1 _ sdi]
  refine rn_i (fun c6 => no (fun q => absurd q.2.2.2.2.1 (Int32.not_lt.mpr c6))) (fun c6 => rn_ck g4 ?_)
  rw [GR.2.2.2.2.2.1]
  refine rn_i (fun c7 => ?_) (fun c7 => no (fun q => c7 q.2.2.2.2.2))
  rw [if_pos (show inL A.games g ∧ inL 2 s ∧ inL 11 k ∧ 0 ≤ p ∧ p < A.pl (if s = 0 then A.sd0 g else A.sd1 g) ∧ (A.pg g).turns ≤ 0 from ⟨c, hs, hk, Int32.not_lt.mp c5, Int32.not_le.mp c6, c7⟩)]
  refine rn_bd ?_
  have f11 : (11 : Int32).toInt = 11 := by decide
  have z : (0 : Int32).toInt = 0 := by decide
  refine m_seat82 (R := fun E => MP e (A.sS g (stNew (A.st g) s k p)) E) (st := A.st g) g4 hs hk GR.2.2.1 (fun E q1 q2 q3 q4 => ⟨r0.seat ok c q1 q2 q3 (fun g' s' j cg' n cj => q4 g' s' j (g400 ok cg') n cj), by rw [q1]; rfl⟩) fu 0 (by show _ < 10000000; omega) _ (by decide) (by decide) rfl (fun _ _ _ => rfl) (fun s' j cj => ?_) (fun _ _ _ _ _ _ => rfl)
  rw [if_neg (fun q => absurd cj.2.2.1 (Int32.not_le.mpr q.2.1))]
  exact GR.2.2.1 s' j cj
end Mse
