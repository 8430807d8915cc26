/-! feed, seat on the class's side -/
def tAdd (f : Int32 → Int32) (m v : Int32) : Int32 → Int32 := fun i => if i = m then v &&& 255 else f i
def tNum (f : Int32 → Int32) (m v : Int32) : Int32 → Int32 := tAdd (tAdd (tAdd (tAdd f m (v >>> (24 &&& 31))) (m + 1) (v >>> (16 &&& 31))) (m + 1 + 1) (v >>> (8 &&& 31))) (m + 1 + 1 + 1) v
/-- a row of bytes: m of n places hold f -/
def BtH (h : aH) (a n : Nat) (m : Int32) (f : Int32 → Int32) : Prop := BtL h a n ∧ hF h 101 a = m ∧ 0 ≤ m ∧ m.toInt ≤ (n : Int) ∧ ∀ i, inL m i → rdA h (a + 1) i = f i
theorem b_add {h : aH} {a n : Nat} {m : Int32} {f : Int32 → Int32} (r : BtH h a n m f) (hn : n ≤ 10000) (hm : m.toInt < (n : Int)) (v : Int32) : Rn (F_X0_add a v h) (fun h' => BtH h' a n (m + 1) (tAdd f m v) ∧ frn a 2 h h') := by
  obtain ⟨⟨b1, b2, b3, b4⟩, e1, m0, m1, H⟩ := r
  unfold F_X0_add
  refine rn_o b2 (rn_ck b3 ?_)
  rw [b4, e1]
  have en := ofN_i (n := n) (by omega)
  refine rn_n (fun q => by have := Int32.le_iff_toInt_le.mp q; omega) (rn_o b2 (rn_ck ⟨b3, by rw [b4]; exact inR_of m0 hm⟩ (rn_bd ?_)))
  rw [show hF (sI h (a + 1) m.toNatClampNeg (v &&& 255)) 101 a = m from e1]
  have ml : m < 20000 := Int32.lt_iff_toInt_lt.mpr (by have : (20000 : Int32).toInt = 20000 := by decide
                                                       omega)
  have ms := i32_succ ml
  have m0' := Int32.le_iff_toInt_le.mp m0
  have z : (0 : Int32).toInt = 0 := by decide
  refine rn_bd (rn_s ⟨⟨⟨b1, b2, b3, b4⟩, if_pos ⟨rfl, rfl⟩, Int32.le_iff_toInt_le.mpr (by omega), by omega, fun i hi => ?_⟩, ?_⟩)
  · show rdA (sI h (a + 1) m.toNatClampNeg (v &&& 255)) (a + 1) i = _
    rw [rdA_w m0 hi.1]
    unfold tAdd
    by_cases c : i = m
    · rw [if_pos c, if_pos c]
    · rw [if_neg c, if_neg c]
      exact H i ⟨hi.1, ((i32_ls ml).mp hi.2).resolve_right c⟩
  · exact (frn_wr (i := m) ⟨by omega, by omega⟩).trans (frn_sF ⟨by omega, by omega⟩)
theorem b_num {h : aH} {a n : Nat} {m : Int32} {f : Int32 → Int32} (r : BtH h a n m f) (hn : n ≤ 10000) (hm : m.toInt + 4 ≤ (n : Int)) (v : Int32) : Rn (F_X0_addNumber a v h) (fun h' => BtH h' a n (m + 1 + 1 + 1 + 1) (tNum f m v) ∧ frn a 2 h h') := by
  have sc : ∀ {k : Int32}, 0 ≤ k → k.toInt < (n : Int) → (k + 1).toInt = k.toInt + 1 := fun {k} k0 hk => by
    have z2 : (20000 : Int32).toInt = 20000 := by decide
    exact i32_succ (e := 20000) (Int32.lt_iff_toInt_lt.mpr (by omega))
  unfold F_X0_addNumber
  have m0 := r.2.2.1
  have s1 := sc m0 (by omega)
  refine rn_c (b_add r hn (by omega) _) (fun h2 q2 => rn_ck q2.1.1.1 ?_)
  have s2 := sc q2.1.2.2.1 (by omega)
  refine rn_c (b_add q2.1 hn (by omega) _) (fun h6 q6 => rn_ck q6.1.1.1 ?_)
  have s3 := sc q6.1.2.2.1 (by omega)
  refine rn_c (b_add q6.1 hn (by omega) _) (fun h10 q10 => rn_ck q10.1.1.1 ?_)
  refine rn_c (b_add q10.1 hn (by omega) _) (fun h14 q14 => rn_s ⟨q14.1, ((q2.2.trans q6.2).trans q10.2).trans q14.2⟩)
def aFeed (a b c d e : Int32) (A : Bk) : Int32 × Bk := if A.taped ≤ 5980 then (A.taped + 20, (A.sR 1 (tNum (tNum (tNum (tNum (tNum A.tape A.taped a) (A.taped + 4) b) (A.taped + 8) c) (A.taped + 12) d) (A.taped + 16) e)).sI 2 (A.taped + 20)) else (-1, A)
section Fd
variable {x : Nat} {h : aH} {lb : Nat → Lab} {ad cp : Adr} {A : Bk}
theorem c_feed (r : CRp x h lb ad cp A) (ok : BkOK A) (a b c d e : Int32) : Rn (F_X11_feed x a b c d e h) (fun q => q.1 = (aFeed a b c d e A).1 ∧ Pst x h 0 0 (aFeed a b c d e A).2 q.2) := by
  unfold F_X11_feed aFeed
  have t2 := r.fx.1.2.2.2.1
  refine rn_o t2 (rn_ck r.fx.2.2.1.1 ?_)
  rw [r.ci.2.2.1]
  refine rn_i (fun cc => ?_) (fun cc => ?_)
  rotate_left
  · rw [if_neg cc]
    exact rn_s ⟨rfl, r.same _ _⟩
  rw [if_pos cc]
  have tt := ok.2.2.1
  have cc' := Int32.le_iff_toInt_le.mp cc
  have z5 : (5980 : Int32).toInt = 5980 := by decide
  have z : (0 : Int32).toInt = 0 := by decide
  have t0' := Int32.le_iff_toInt_le.mp tt.1
  have B0 : BtH h (x + 3) 6000 A.taped A.tape := ⟨r.fx.2.2.1, r.ci.2.2.1, tt.1, by omega, r.ci.2.2.2.2.2.1⟩
  have up : ∀ k : Int32, k = 4 ∨ k = 8 ∨ k = 12 ∨ k = 16 ∨ k = 20 → (A.taped + k).toInt = A.taped.toInt + k.toInt := by
    intro k hk
    rw [Int32.toInt_add]
    have e4 : (4 : Int32).toInt = 4 := by decide
    have e8 : (8 : Int32).toInt = 8 := by decide
    have e12 : (12 : Int32).toInt = 12 := by decide
    have e16 : (16 : Int32).toInt = 16 := by decide
    have e20 : (20 : Int32).toInt = 20 := by decide
    rcases hk with q | q | q | q | q <;> subst q <;> apply Int.bmod_eq_of_le <;> omega
  have e4 : (4 : Int32).toInt = 4 := by decide
  have e8 : (8 : Int32).toInt = 8 := by decide
  have e12 : (12 : Int32).toInt = 12 := by decide
  have e16 : (16 : Int32).toInt = 16 := by decide
  have u4 := up 4 (by simp)
  have u8 := up 8 (by simp)
  have u12 := up 12 (by simp)
  have u16 := up 16 (by simp)
  have n1 : A.taped + 1 + 1 + 1 + 1 = A.taped + 4 := by grind
  have n2 : A.taped + 4 + 1 + 1 + 1 + 1 = A.taped + 8 := by grind
  have n3 : A.taped + 8 + 1 + 1 + 1 + 1 = A.taped + 12 := by grind
  have n4 : A.taped + 12 + 1 + 1 + 1 + 1 = A.taped + 16 := by grind
  have n5 : A.taped + 16 + 1 + 1 + 1 + 1 = A.taped + 20 := by grind
  have kx : ∀ h', frn (x + 3) 2 h h' → hK h' x = 13 ∧ hG h' 1202 x = some (x + 3) := fun h' f => ⟨by rw [f.1.K]; exact r.k0, by rw [f.1.G]; exact t2⟩
  refine rn_o t2 (rn_ck r.fx.2.2.1.1 (rn_c (b_num B0 (by decide) (by omega) a) (fun h1 q1 => ?_)))
  obtain ⟨q1, f1⟩ := q1
  rw [n1] at q1
  refine rn_ck (kx _ f1).1 (rn_o (kx _ f1).2 (rn_ck q1.1.1 (rn_c (b_num q1 (by decide) (by omega) b) (fun h2 q2 => ?_))))
  obtain ⟨q2, f2⟩ := q2
  rw [n2] at q2
  have f2 := f1.trans f2
  refine rn_ck (kx _ f2).1 (rn_o (kx _ f2).2 (rn_ck q2.1.1 (rn_c (b_num q2 (by decide) (by omega) c) (fun h3 q3 => ?_))))
  obtain ⟨q3, f3⟩ := q3
  rw [n3] at q3
  have f3 := f2.trans f3
  refine rn_ck (kx _ f3).1 (rn_o (kx _ f3).2 (rn_ck q3.1.1 (rn_c (b_num q3 (by decide) (by omega) d) (fun h4 q4 => ?_))))
  obtain ⟨q4, f4⟩ := q4
  rw [n4] at q4
  have f4 := f3.trans f4
  refine rn_ck (kx _ f4).1 (rn_o (kx _ f4).2 (rn_ck q4.1.1 (rn_c (b_num q4 (by decide) (by omega) e) (fun h5 q5 => ?_))))
  obtain ⟨q5, f5⟩ := q5
  rw [n5] at q5
  have f5 := f4.trans f5
  refine rn_ck (kx _ f5).1 (rn_o (kx _ f5).2 (rn_ck q5.1.1 (rn_s ⟨q5.2.1, ?_⟩)))
  have F : frs (fun k => k = 3 ∨ k = 4) x h h5 := ⟨f5.1, fun b hb => cel_frn f5 (by
    have := hb 3 (Or.inl rfl)
    have := hb 4 (Or.inr rfl)
    omega)⟩
  have x0 := F.2 x (fun k hk e => by omega)
  refine r.fs (B := (A.sR 1 (tNum (tNum (tNum (tNum (tNum A.tape A.taped a) (A.taped + 4) b) (A.taped + 8) c) (A.taped + 12) d) (A.taped + 16) e)).sI 2 (A.taped + 20)) F (fun k hk => by omega) (fun p => p.cg rfl (fun g _ => ⟨rfl, rfl, rfl, rfl⟩)) ?_ ((r.hc.mv (F.c (by omega)) (fun k a b => F.c (by omega))).cg rfl (fun _ _ => rfl)) ((r.pc.mv (x0.F _) (psOf_cl (fun b b0 b1 => F.2 b (fun k hk e => by omega)))).cg (fun g hg => ⟨hg, rfl⟩)) ((r.rc.mv (x0.F _) (F.c (by omega))).cg rfl rfl rfl rfl rfl rfl rfl) 0 0
  obtain ⟨i1, i2, i3, i4, i5, i6, i7⟩ := r.ci
  have c1 := F.c (k := 1) (by omega)
  have c5 := F.c (k := 5) (by omega)
  have c6 := F.c (k := 6) (by omega)
  exact ⟨by rw [x0.F]; exact i1, by rw [x0.F]; exact i2, q5.2.1, by rw [c5.F]; exact i4, fun i hi => by rw [c1.A]; exact i5 i hi, q5.2.2.2.2, fun i hi => by rw [c6.A]; exact i7 i hi⟩
/-! seat -/
def stNew (st : Int32 → Int32 → Int32) (s k p : Int32) : Int32 → Int32 → Int32 := fun s' j => if gin 2 11 s' j ∧ s' = s then (if j = k then p else if st s j = p then st s k else st s j) else st s' j
def aSeat (g s k p : Int32) (A : Bk) : Int32 × Bk := if inL A.games g ∧ inL 2 s ∧ inL 11 k ∧ 0 ≤ p ∧ p < A.pl (if s = 0 then A.sd0 g else A.sd1 g) ∧ (A.pg g).turns ≤ 0 then (1, A.sS g (stNew (A.st g) s k p)) else (0, A)
theorem g_seat14 {a : Nat} {h1 : aH} {st : Int32 → Int32 → Int32} {s k p : Int32} (hs : inL 2 s) (hk : inL 11 k) (k5 : hK h1 a = 5) (k6 : hG h1 404 a = some (a + 1)) (gr : GrS h1 (a + 1) 2 11 22) : ∀ n m, ((11 : Int32).toInt - m.toInt).toNat < n → ∀ h, 0 ≤ m → m ≤ 11 → frn (a + 2) 1 h1 h → gv h (a + 2) 2 11 = (fun s' j => if gin 2 11 s' j ∧ s' = s ∧ j < m ∧ st s j = p then st s k else st s' j) → Rn (F_X3_giveSeat_14 n a s k p (st s k) m h) (fun h' => frn (a + 2) 1 h1 h' ∧ gv h' (a + 2) 2 11 = stNew st s k p) := by
  refine i32_up ?_ ?_
  · intro n m hc h m0 m11 f e
    have K5 : hK h a = 5 := by rw [f.1.K]; exact k5
    have G4 : hG h 404 a = some (a + 1) := by rw [f.1.G]; exact k6
    have gr1 : GrS h (a + 1) 2 11 22 := gr.mv f.1 (fun x => f.F (by omega) x)
    have gk : gin 2 11 s k := ⟨hs.1, hs.2, hk.1, hk.2⟩
    unfold F_X3_giveSeat_14
    refine rn_p hc (rn_ck K5 (rn_o G4 (rn_ck gr1.1 ?_)))
    rw [gr_set gr1 gix_2_11, if_pos gk, Option.bind_some]
    refine rn_s ⟨f.trans (frn_wr ⟨by omega, by omega⟩), ?_⟩
    have em : m = 11 := Int32.le_antisymm m11 hc
    rw [show a + 1 + 1 = a + 2 from rfl, gv_set gix_2_11 gij_2_11 gk, e]
    funext s' j
    unfold gS stNew
    dsimp only
    by_cases c1 : gin 2 11 s' j ∧ s' = s
    · rw [if_pos c1]
      by_cases cj : j = k
      · rw [if_pos ⟨gk, c1.2, cj⟩, if_pos cj]
      · rw [if_neg (fun q => cj q.2.2), if_neg cj]
        by_cases cp : st s j = p
        · rw [if_pos ⟨c1.1, c1.2, by rw [em]; exact c1.1.2.2.2, cp⟩, if_pos cp]
        · rw [if_neg (fun q => cp q.2.2.2), if_neg cp, c1.2]
    · rw [if_neg c1, if_neg (fun q => c1 ⟨by rw [q.2.1, q.2.2]; exact gk, q.2.1⟩), if_neg (fun q => c1 ⟨q.1, q.2.1⟩)]
  · intro n m hc ih h m0 m11 f e
    have K5 : hK h a = 5 := by rw [f.1.K]; exact k5
    have G4 : hG h 404 a = some (a + 1) := by rw [f.1.G]; exact k6
    have gr1 : GrS h (a + 1) 2 11 22 := gr.mv f.1 (fun x => f.F (by omega) x)
    have gm : gin 2 11 s m := ⟨hs.1, hs.2, m0, hc⟩
    have v0 : gv h (a + 2) 2 11 s m = st s m := by
      rw [e]
      dsimp only
      rw [if_neg (fun q => Int32.lt_irrefl q.2.2.1)]
    have mm : m + 1 ≤ 11 := by
      have := i32_succ hc
      have := Int32.lt_iff_toInt_lt.mp hc
      exact Int32.le_iff_toInt_le.mpr (by omega)
    unfold F_X3_giveSeat_14 F_X3_giveSeat_47
    refine rn_n (Int32.not_le.mpr hc) (rn_ck K5 (rn_o G4 (rn_ck gr1.1 (rn_o (gr_at gr1 gix_2_11 s m) (rn_bd (rn_bd ?_))))))
    dsimp only
    rw [show (if 0 ≤ s ∧ s < 2 ∧ 0 ≤ m ∧ m < 11 then rdA h (a + 1 + 1) (s * 11 + m) else 0) = st s m from v0]
    refine rn_i (fun cp => ?_) (fun cp => ?_)
    · refine rn_ck K5 (rn_o G4 (rn_ck gr1.1 ?_))
      rw [gr_set gr1 gix_2_11, if_pos gm, Option.bind_some]
      refine rn_bd (ih _ (i32_ps m0 hc) mm (f.trans (frn_wr ⟨by omega, by omega⟩)) ?_)
      rw [show a + 1 + 1 = a + 2 from rfl, gv_set gix_2_11 gij_2_11 gm, e]
      funext s' j
      unfold gS
      dsimp only
      by_cases cj : s' = s ∧ j = m
      · rw [if_pos ⟨gm, cj⟩, if_pos ⟨by rw [cj.1, cj.2]; exact gm, cj.1, (i32_ls hc).mpr (Or.inr cj.2), by rw [cj.2]; exact cp⟩]
      · rw [if_neg (fun q => cj q.2)]
        by_cases c2 : gin 2 11 s' j ∧ s' = s ∧ j < m ∧ st s j = p
        · rw [if_pos c2, if_pos (show gin 2 11 s' j ∧ s' = s ∧ j < m + 1 ∧ st s j = p from ⟨c2.1, c2.2.1, (i32_ls hc).mpr (Or.inl c2.2.2.1), c2.2.2.2⟩)]
        · rw [if_neg c2, if_neg (show ¬ (gin 2 11 s' j ∧ s' = s ∧ j < m + 1 ∧ st s j = p) from fun q => by
            rcases (i32_ls hc).mp q.2.2.1 with y | y
            · exact c2 ⟨q.1, q.2.1, y, q.2.2.2⟩
            · exact cj ⟨q.2.1, y⟩)]
    · refine rn_bd (ih _ (i32_ps m0 hc) mm f ?_)
      rw [e]
      funext s' j
      by_cases c2 : gin 2 11 s' j ∧ s' = s ∧ j < m ∧ st s j = p
      · rw [if_pos c2, if_pos (show gin 2 11 s' j ∧ s' = s ∧ j < m + 1 ∧ st s j = p from ⟨c2.1, c2.2.1, (i32_ls hc).mpr (Or.inl c2.2.2.1), c2.2.2.2⟩)]
      · rw [if_neg c2, if_neg (show ¬ (gin 2 11 s' j ∧ s' = s ∧ j < m + 1 ∧ st s j = p) from fun q => by
          rcases (i32_ls hc).mp q.2.2.1 with y | y
          · exact c2 ⟨q.1, q.2.1, y, q.2.2.2⟩
          · exact cp (by rw [← y]; exact q.2.2.2))]
theorem c_seat (r : CRp x h lb ad cp A) (ok : BkOK A) (g s k p : Int32) : Rn (F_X11_seat x g s k p h) (fun q => q.1 = (aSeat g s k p A).1 ∧ Pst x h 0 0 (aSeat g s k p A).2 q.2) := by
  unfold F_X11_seat
  have no : ¬ (inL A.games g ∧ inL 2 s ∧ inL 11 k ∧ 0 ≤ p ∧ p < A.pl (if s = 0 then A.sd0 g else A.sd1 g) ∧ (A.pg g).turns ≤ 0) → ∀ h', h' = h → Rn (some ((0 : Int32), h')) (fun q => q.1 = (aSeat g s k p A).1 ∧ Pst x h 0 0 (aSeat g s k p A).2 q.2) := fun n h' e => by
    subst e
    unfold aSeat
    rw [if_neg n]
    exact rn_s ⟨rfl, r.same _ _⟩
  refine rn_o (c_gameAt r g) (rn_bd (rn_bd ?_))
  dsimp only
  by_cases c : inL A.games g
  rotate_left
  · rw [if_neg c]
    exact no (fun q => c q.1) _ rfl
  rw [if_pos c]
  have G := r.gm c
  have og := ok.2.2.2.2.2.2.1 g c
  refine rn_i (fun c1 => no (fun q => absurd q.2.1.1 (Int32.not_le.mpr c1)) _ rfl) (fun c1 => rn_i (fun c2 => no (fun q => ?_) _ rfl) (fun c2 => rn_i (fun c3 => no (fun q => absurd q.2.2.1.1 (Int32.not_le.mpr c3)) _ rfl) (fun c3 => rn_i (fun c4 => ?_) (fun c4 => no (fun q => c4 q.2.2.1.2) _ rfl))))
  · have a := q.2.1.2
    clear no q G og r ok
    grind
  have s01 : s = 0 ∨ s = 1 := by
    have a := Int32.not_lt.mp c1
    have b := Int32.not_lt.mp c2
    clear no G og r ok
    grind
  have hs2 : inL 2 s := by rcases s01 with q | q <;> rw [q] <;> exact ⟨by decide, by decide⟩
  have hk : inL 11 k := ⟨Int32.not_lt.mp c3, c4⟩
  refine rn_i (fun c5 => no (fun q => absurd q.2.2.2.1 (Int32.not_le.mpr c5)) _ rfl) (fun c5 => rn_ck G.1.1 (rn_o (g_sideAt G s) (rn_bd (rn_bd (rn_ck r.k0 ?_)))))
  dsimp only
  have sd : inL A.sides (if s = 0 then A.sd0 g else A.sd1 g) := by
    rcases s01 with q | q
    · rw [if_pos q]; exact og.2.1
    · rw [if_neg (by rw [q]; decide)]; exact og.2.2.1
  refine rn_o (c_playersOf r ok _) (rn_bd (rn_bd ?_))
  dsimp only
  rw [if_pos sd]
  refine rn_i (fun c6 => no (fun q => absurd q.2.2.2.2.1 (Int32.not_lt.mpr c6)) _ rfl) (fun c6 => rn_ck G.1.1 (rn_o (g_turnCount G) (rn_bd (rn_bd (rn_i (fun c7 => ?_) (fun c7 => no (fun q => c7 q.2.2.2.2.2) _ rfl))))))
  dsimp only
  have yes : aSeat g s k p A = (1, A.sS g (stNew (A.st g) s k p)) := if_pos ⟨c, hs2, hk, Int32.not_lt.mp c5, Int32.not_le.mp c6, c7⟩
  rw [yes]
  unfold F_X3_giveSeat
  have gk : gin 2 11 s k := ⟨hs2.1, hs2.2, hk.1, hk.2⟩
  refine rn_ck G.1.1 (rn_c (R := fun h' => frn (ad 1 g 0 0 + 2) 1 h h' ∧ gv h' (ad 1 g 0 0 + 2) 2 11 = stNew (A.st g) s k p) ?_ ?_)
  · refine rn_o G.1.2.2.2.2.2.1 (rn_ck G.2.1.1.1 (rn_o (gr_at G.2.1.1 gix_2_11 s k) (rn_bd (rn_bd ?_))))
    dsimp only
    rw [show (if 0 ≤ s ∧ s < 2 ∧ 0 ≤ k ∧ k < 11 then rdA h (ad 1 g 0 0 + 1 + 1) (s * 11 + k) else 0) = A.st g s k from congrFun (congrFun G.2.1.2 s) k]
    refine g_seat14 hs2 hk G.1.1 G.1.2.2.2.2.2.1 G.2.1.1 fu 0 (by decide) h (by decide) (by decide) (frn.refl _ _ _) ?_
    rw [G.2.1.2]
    funext s' j
    rw [if_neg (fun q => absurd q.1.2.2.1 (Int32.not_le.mpr q.2.2.1))]
  · rintro h1 ⟨f, fe⟩
    have hi : x + 229 ≤ ad 1 g 0 0 := lb_hi r.pl (by rw [show lb (ad 1 g 0 0) = (1, g, 0, 0) from G.2.2.2.1.2 0 (by decide)]; exact lab_1 (by decide))
    have lo : ∀ b, b < x + 229 → cel h h1 b := fun b hb => cel_frn f (by omega)
    have k1 : hK h1 x = 13 := by rw [f.1.K]; exact r.k0
    unfold F_X11_forgetPlay
    refine rn_ck k1 ?_
    rw [bd_e, bd_e, Option.bind_some]
    have F0 : ∀ (hh : aH) (f : Nat) (v : Int32), f ≠ 500 ∧ f ≠ 501 → frs (fun k => k = 0) x hh (sF hh f x v) := fun hh f v hf => frs_sF0 rfl hf
    have F2 : frs (fun k => k = 0) x h1 (sF (sF h1 1210 x (-1)) 1211 x 1) := (F0 _ _ _ (by decide)).trans (F0 _ _ _ (by decide))
    have f10 : hF (sF (sF h1 1210 x (-1)) 1211 x 1) 1210 x = -1 := by rw [rF_sF, if_neg (by omega), rF_sF, if_pos ⟨rfl, rfl⟩]
    have f11 : hF (sF (sF h1 1210 x (-1)) 1211 x 1) 1211 x = 1 := if_pos ⟨rfl, rfl⟩
    have fo : ∀ f, f ≠ 1210 → f ≠ 1211 → hF (sF (sF h1 1210 x (-1)) 1211 x 1) f x = hF h f x := fun f n1 n2 => by
      rw [rF_sF, if_neg (fun q => n2 q.1), rF_sF, if_neg (fun q => n1 q.1), (lo x (by omega)).F]
    have zx := r.fx.2.2.2.2.2.2.2.2
    have c5 : ∀ k, k < 229 → k ≠ 0 → cel h (sF (sF h1 1210 x (-1)) 1211 x 1) (x + k) := fun k hk n => (lo _ (by omega)).trans (F2.c (by omega))
    have fx1 : FX x h1 := r.fx.mv (fun b b0 b1 _ => (lo b (by omega)).scl) (fun b hb f => (lo b (by omega)).F f) (r.fx.2.2.2.2.2.1.cl (fun b b0 b1 => lo b (by omega))) f.1.E (by rw [f.1.z]; exact Nat.le_refl _)
    refine rn_s ⟨rfl, ⟨lb, ad, cp, fx1.fs F2 (fun k hk => by omega), ?_, ?_, ?_, PC.old f10, RC.old f11⟩, fun k k0 k1 => c5 k k1 (by omega), by show hz h1 ≤ _; rw [f.1.z]; omega, by show hs h1 ≤ _; rw [f.1.s]; omega⟩
    · have kp : kpL lb (fun L => L ≠ (1, g, 0, 0)) h h1 := ⟨by rw [f.1.z]; exact Nat.le_refl _, f.1.E, fun b hb q => cel_frn f (by
        have : b ≠ ad 1 g 0 0 + 2 := fun e => q (by rw [e]; exact G.2.2.2.1.2 2 (by decide))
        omega)⟩
      have p1 : PL x h1 lb ad cp (A.sS g (stNew (A.st g) s k p)) := by
        refine r.pl.up (g := g) zx.2 (kp.wk (fun L hL e => ?_)) (lo _ (by omega)) (fun _ _ => rfl) (fun _ _ _ _ _ => ⟨rfl, rfl⟩) rfl (fun _ => ?_) rfl (fun g' n => ⟨rfl, rfl, if_neg n, rfl⟩)
        · rw [e] at hL
          rcases hL.2 with z | z
          · exact z rfl
          · exact absurd (show (1 : Nat) = 4 from z) (by decide)
        · rw [show (A.sS g (stNew (A.st g) s k p)).st g = stNew (A.st g) s k p from if_pos rfl]
          obtain ⟨r1, r2, r3, r4, r5, r6⟩ := G
          have co : ∀ i, i ≠ 2 → cel h h1 (ad 1 g 0 0 + i) := fun i n => cel_frn f (by omega)
          have c0 : cel h h1 (ad 1 g 0 0) := co 0 (by decide)
          have z := r4.1
          refine ⟨by rw [c0.K, c0.F, c0.F, c0.F, c0.F, c0.G, c0.G]; exact r1, ⟨r2.1.mv f.1 (fun x => f.F (by omega) x), fe⟩, ?_, r4.mv (by rw [f.1.z]; exact Nat.le_refl _) (fun _ _ => rfl) rfl, r5, ?_⟩
          · exact r3.mv2 (by rw [f.1.z]; exact Nat.le_refl _) f.1.E (co 3 (by decide)) (fun hc => kp.2.2 _ r3.1.2.2.2.2 (by rw [r5 hc]; exact lab_k (by decide))) (fun i _ _ => by rw [f.1.K]) (fun _ _ _ => rfl)
          · intro t t0 t1
            exact (r6 t t0 t1).mv kp (fun _ _ => rfl) (lab_k (by decide)) (lab_k (by decide)) (fun o => lab_k (by decide)) rfl ⟨rfl, rfl⟩ (fun _ _ _ => rfl)
      exact p1.fs F2 (fun k hk => by omega)
    · exact r.ci.mv ⟨fo _ (by decide) (by decide), fo _ (by decide) (by decide)⟩ (c5 1 (by omega) (by omega)) (c5 3 (by omega) (by omega)) (c5 4 (by omega) (by omega)) (c5 5 (by omega) (by omega)) (c5 6 (by omega) (by omega))
    · exact (r.hc.mv (c5 7 (by omega) (by omega)) (fun k _ _ => c5 k (by omega) (by omega))).cg rfl (fun _ _ => rfl)
end Fd
