/-! side, player, toss, seat, feed of the reference -/
section Msm
variable {e e' : mE} {A B : Bk} {g : Int32}
/-- only what lies outside the games has changed -/
theorem MR.io (r : MR e A) (hB : B.2.2 = A.2.2) (h3 : B.sd0 = A.sd0) (h4 : B.sd1 = A.sd1) (hg : B.games = A.games) (i1 : e'.1 1 = B.sides) (i2 : e'.1 2 = e.1 2) (i16 : e'.1 16 = B.taped) (i18 : e'.1 18 = B.outs) (i19 : e'.1 19 = B.why) (i20 : e'.1 20 = e.1 20) (i11 : e'.1 11 = e.1 11) (q1 : ∀ i, inL B.sides i → e'.2 3 i = B.pl i) (q2 : ∀ i, inL B.taped i → e'.2 15 i = B.tape i) (q3 : ∀ i, inL B.outs i → e'.2 17 i = B.out i) (rw0 : ∀ k, (3 < k ∧ k < 15) ∨ (20 < k ∧ k < 28) → ∀ i, e'.2 k i = e.2 k i) : MR e' B := by
  obtain ⟨⟨a1, a2, a3, a4, a5, a6⟩, -, d, w, u, v⟩ := r
  have est : B.st = A.st := congrArg Prod.fst hB
  have epg : B.pg = A.pg := congrArg (fun x => x.2.1) hB
  have ehi : B.hi = A.hi := congrArg (fun x => x.2.2) hB
  have rw2 : ∀ g t o, rwT e' g t o = rwT e g t o := fun g t o => rw0 10 (by omega) _
  refine ⟨⟨i1, by rw [i2, hg]; exact a2, i16, i18, i19, by rw [i20, ehi]; exact a6⟩, ⟨q1, q2, q3⟩, fun g hg' => ?_, by rw [i11]; exact w, fun g1 t1 o1 g3 t3 o3 p q h => ?_, ?_⟩
  · rw [hg] at hg'
    obtain ⟨y1, y2, y3, y4, y5, y6, y7⟩ := d g hg'
    rw [h3, h4, est, epg]
    refine ⟨(rw0 4 (by omega) _).trans y1, (rw0 4 (by omega) _).trans y2, fun s k c => (rw0 7 (by omega) _).trans (y3 s k c), (rw0 5 (by omega) _).trans y4, (rw0 6 (by omega) _).trans y5, (rw0 8 (by omega) _).trans y6, fun t ht => ⟨(rw0 9 (by omega) _).trans (y7 t ht).1, fun o ho => ?_⟩⟩
    obtain ⟨z1, z2, z3, z4⟩ := (y7 t ht).2 o ho
    rw [rw2, i11]
    exact ⟨z1, (rw0 12 (by omega) _).trans z2, (rw0 13 (by omega) _).trans z3, fun i hi => (rw0 14 (by omega) _).trans (z4 i hi)⟩
  · unfold inO at p q
    rw [hg, epg] at p q
    exact u _ _ _ _ _ _ p q (by rw [← rw2, ← rw2]; exact h)
  · rw [epg, ehi]
    exact HMo.cg (e := e) (d := 0) _ _ (fun n _ => ⟨fun j j0 j1 => rw0 j (by omega) _, fun i _ => rw0 27 (by omega) _⟩) (fun q _ t o _ _ => rw2 _ _ _) v
theorem m_side (r : MR e A) (ok : BkOK A) (n : Int32) : Rn (P_X12_side n e) (fun q => q.1 = (aSide n A).1 ∧ MP e (aSide n A).2 q.2) := by
  unfold P_X12_side aSide
  have r0 := r.c0
  refine rn_bd ?_
  rw [r0.1.1]
  by_cases c0 : A.sides = 60
  · rw [if_pos c0, if_pos (Or.inl (by rw [c0]; decide))]
    exact rn_s ⟨rfl, r0, rfl⟩
  rw [if_neg c0]
  have s60 : A.sides < 60 := by
    have a := ok.1.2
    generalize A.sides = v at a c0
    clear r0 r ok
    grind
  refine rn_i (fun c1 => ?_) (fun c1 => rn_i (fun c2 => ?_) (fun c2 => ?_))
  · rw [if_pos (Or.inr (Or.inl c1))]
    exact rn_s ⟨rfl, r0, rfl⟩
  rotate_left
  · rw [if_pos (Or.inr (Or.inr (Int32.not_le.mp c2)))]
    exact rn_s ⟨rfl, r0, rfl⟩
  rw [if_neg (show ¬ (60 ≤ A.sides ∨ n < 11 ∨ 30 < n) from fun q => q.elim (fun y => absurd y (Int32.not_le.mpr s60)) (fun y => y.elim c1 (fun z => absurd z (Int32.not_lt.mpr c2))))]
  refine rn_ck ⟨ok.1.1, s60⟩ (rn_bd (rn_bd (rn_s ⟨?_, ?_, rfl⟩)))
  · show (mA (mS e 0 0) 3 A.sides n).1 1 + 1 - 1 = A.sides
    rw [pred1]; exact r0.1.1
  · have e1 : (mA (mS e 0 0) 3 A.sides n).1 1 = A.sides := r0.1.1
    rw [e1]
    refine r0.io (B := (A.sR 0 (fun i => if i = A.sides then n else A.pl i)).sI 0 (A.sides + 1)) rfl rfl rfl rfl rfl rfl r0.1.2.2.1 r0.1.2.2.2.1 r0.1.2.2.2.2.1 rfl rfl (fun i hi => ?_) r0.2.1.2.1 r0.2.1.2.2 (fun k hk i => mA_ne (by omega))
    have hi : inL (A.sides + 1) i := hi
    show (mA (mS e 0 0) 3 A.sides n).2 3 i = if i = A.sides then n else A.pl i
    rw [mA_at]
    by_cases y : i = A.sides
    · rw [if_pos y, if_pos y]
    · rw [if_neg y, if_neg y]
      exact r0.2.1.1 i ⟨hi.1, ((i32_ls s60).mp hi.2).resolve_right y⟩
theorem m_player (r : MR e A) (ok : BkOK A) (s : Int32) : Rn (P_X12_player s e) (fun q => q.1 = (aPlayer s A).1 ∧ MP e (aPlayer s A).2 q.2) := by
  unfold P_X12_player aPlayer
  have r0 := r.c0
  refine rn_bd (rn_o (m_isSide r0 s) (rn_bd (rn_bd ?_)))
  dsimp only
  by_cases c : inL A.sides s
  rotate_left
  · rw [if_neg c, if_neg (show ¬ (inL A.sides s ∧ A.pl s < 30) from fun q => c q.1)]
    exact rn_p rfl (rn_s ⟨rfl, r0, rfl⟩)
  rw [if_pos c]
  have s60 : (0 : Int32) ≤ s ∧ s < 60 := ⟨c.1, Int32.lt_of_lt_of_le c.2 ok.1.2⟩
  have ps := r0.2.1.1 s c
  refine rn_n (by decide) (rn_ck s60 ?_)
  rw [ps]
  have p30 := (ok.2.2.2.2.1 s c).2
  by_cases c1 : A.pl s = 30
  · rw [if_pos c1, if_neg (show ¬ (inL A.sides s ∧ A.pl s < 30) from fun q => lt_ne q.2 c1)]
    exact rn_s ⟨rfl, r0, rfl⟩
  have lt : A.pl s < 30 := by
    generalize A.pl s = v at p30 c1
    clear r0 r ok ps
    grind
  rw [if_neg c1, if_pos (show inL A.sides s ∧ A.pl s < 30 from ⟨c, lt⟩)]
  refine rn_ck s60 (rn_bd (rn_ck s60 (rn_s ⟨?_, ?_, rfl⟩)))
  · show (mA (mS e 0 0) 3 s (A.pl s + 1)).2 3 s - 1 = A.pl s
    rw [mA_at, if_pos rfl, pred1]
  · refine r0.io (B := A.sR 0 (fun i => if i = s then A.pl s + 1 else A.pl i)) rfl rfl rfl rfl r0.1.1 rfl r0.1.2.2.1 r0.1.2.2.2.1 r0.1.2.2.2.2.1 rfl rfl (fun i hi => ?_) r0.2.1.2.1 r0.2.1.2.2 (fun k hk i => mA_ne (by omega))
    show (mA (mS e 0 0) 3 s (A.pl s + 1)).2 3 i = if i = s then A.pl s + 1 else A.pl i
    rw [mA_at]
    by_cases y : i = s
    · rw [if_pos y, if_pos y]
    · rw [if_neg y, if_neg y]
      exact r0.2.1.1 i hi
/-! feed -/
def FdQ (e0 : mE) (m : Int32) (f : Int32 → Int32) (e : mE) : Prop := (e.1 16 = m ∧ ∀ k, k ≠ 16 → e.1 k = e0.1 k) ∧ (∀ k, k ≠ 15 → ∀ i, e.2 k i = e0.2 k i) ∧ ∀ i, inL m i → e.2 15 i = f i
theorem f_st {e0 E : mE} {x1 x2 x3 x4 x5 : Int32} {R : Int32 × mE → Prop} {n : Nat} {x6 x6' y v m m' : Int32} {f : Int32 → Int32} (h20 : ¬ 20 ≤ x6) (hy : (if 4 ≤ x6 then (if 8 ≤ x6 then (if 12 ≤ x6 then (if 16 ≤ x6 then x5 else x4) else x3) else x2) else x1) = y) (hx : x6 + 1 = x6') (hm : m + 1 = m') (hv : (y >>> (24 - (8 * (x6 - x6 / 4 * 4)) &&& 31)) = v) (Q : FdQ e0 m f E) (mb : 0 ≤ m ∧ m < 6000) (K : ∀ E', FdQ e0 m' (tAdd f m v) E' → Rn (P_X12_feed_23 n x1 x2 x3 x4 x5 x6' E') R) : Rn (P_X12_feed_23 (n + 1) x1 x2 x3 x4 x5 x6 E) R := by
  subst hx; subst hm
  have key : Rn (P_X12_feed_76 (P_X12_feed_23 n) x1 x2 x3 x4 x5 x6 y E) R := by
    unfold P_X12_feed_76
    rw [Q.1.1, hv]
    refine rn_ck mb (rn_bd (rn_bd (rn_bd (K _ ⟨⟨?_, fun k hk => ?_⟩, fun k hk i => ?_, fun i hi => ?_⟩))))
    · show (mA E 15 m (v &&& 255)).1 16 + 1 = m + 1
      rw [show (mA E 15 m (v &&& 255)).1 16 = m from Q.1.1]
    · show (if k = 16 then _ else E.1 k) = _
      rw [if_neg hk]; exact Q.1.2 k hk
    · exact (mA_ne hk).trans (Q.2.1 k hk i)
    · show (mA E 15 m (v &&& 255)).2 15 i = if i = m then v &&& 255 else f i
      rw [mA_at]
      by_cases z : i = m
      · rw [if_pos z, if_pos z]
      · rw [if_neg z, if_neg z]
        exact Q.2.2 i ⟨hi.1, ((i32_ls mb.2).mp hi.2).resolve_right z⟩
  unfold P_X12_feed_23
  rw [if_neg h20]
  rw [← hy] at key
  by_cases c4 : 4 ≤ x6
  · rw [if_pos c4] at key ⊢
    by_cases c8 : 8 ≤ x6
    · rw [if_pos c8] at key ⊢
      by_cases c12 : 12 ≤ x6
      · rw [if_pos c12] at key ⊢
        by_cases c16 : 16 ≤ x6
        · rw [if_pos c16] at key ⊢
          exact key
        · rw [if_neg c16] at key ⊢
          exact key
      · rw [if_neg c12] at key ⊢
        exact key
    · rw [if_neg c8] at key ⊢
      exact key
  · rw [if_neg c4] at key ⊢
    exact key
theorem shr0 (v : Int32) : v >>> (24 - (8 * ((3 : Int32) - 3 / 4 * 4)) &&& 31) = v := by
  have : (24 - (8 * ((3 : Int32) - 3 / 4 * 4)) &&& 31) = 0 := by decide
  rw [this]
  exact Int32.shiftRight_zero
theorem m_feed (r : MR e A) (ok : BkOK A) (x1 x2 x3 x4 x5 : Int32) : Rn (P_X12_feed x1 x2 x3 x4 x5 e) (fun q => q.1 = (aFeed x1 x2 x3 x4 x5 A).1 ∧ MP e (aFeed x1 x2 x3 x4 x5 A).2 q.2) := by
  unfold P_X12_feed aFeed
  have r0 := r.c0
  refine rn_bd ?_
  rw [r0.1.2.2.1]
  have tt := ok.2.2.1
  have key : A.taped + 20 ≤ 6000 ↔ A.taped ≤ 5980 := by
    obtain ⟨a, b⟩ := tt
    generalize A.taped = v at a b
    clear r0 r ok
    constructor <;> intro q <;> grind
  by_cases c : A.taped ≤ 5980
  rotate_left
  · rw [if_neg (fun q => c (key.mp q)), if_neg c]
    exact rn_s ⟨rfl, r0, rfl⟩
  rw [if_pos (key.mpr c), if_pos c]
  have t0 := tt.1
  have bd' : ∀ k : Int32, 0 ≤ k → k < 20 → 0 ≤ A.taped + k ∧ A.taped + k < 6000 := by
    intro k k0 k1
    generalize A.taped = v at t0 c
    clear r0 r ok key tt
    constructor <;> grind
  have Q0 : FdQ (mS e 0 0) A.taped A.tape (mS e 0 0) := ⟨⟨r0.1.2.2.1, fun _ _ => rfl⟩, fun _ _ _ => rfl, r0.2.1.2.1⟩
  have fin : ∀ (E : mE) (f : Int32 → Int32), FdQ (mS e 0 0) (A.taped + 20) f E → Rn (P_X12_feed_23 (9999979 + 1) x1 x2 x3 x4 x5 20 E) (fun q => q.1 = A.taped + 20 ∧ MP e ((A.sR 1 f).sI 2 (A.taped + 20)) q.2) := by
    intro E f Q
    unfold P_X12_feed_23
    refine rn_p (by decide) (rn_s ⟨Q.1.1, ?_, (Q.1.2 11 (by decide)).trans rfl⟩)
    exact r0.io (B := (A.sR 1 f).sI 2 (A.taped + 20)) rfl rfl rfl rfl ((Q.1.2 1 (by decide)).trans r0.1.1) (Q.1.2 2 (by decide)) Q.1.1 ((Q.1.2 18 (by decide)).trans r0.1.2.2.2.1) ((Q.1.2 19 (by decide)).trans r0.1.2.2.2.2.1) (Q.1.2 20 (by decide)) (Q.1.2 11 (by decide)) (fun i hi => (Q.2.1 3 (by decide) i).trans (r0.2.1.1 i hi)) Q.2.2 (fun i hi => (Q.2.1 17 (by decide) i).trans (r0.2.1.2.2 i hi)) (fun k hk i => Q.2.1 k (by omega) i)
  show Rn (P_X12_feed_23 (9999980 + 20) x1 x2 x3 x4 x5 0 (mS e 0 0)) _
  refine f_st (x6 := 0) (x6' := 1) (y := x1) (v := x1 >>> (24 &&& 31)) (m := A.taped) (m' := A.taped + 1) (by decide) rfl (by decide) rfl (by rw [show (24 - (8 * ((0 : Int32) - 0 / 4 * 4)) &&& 31) = (24 &&& 31 : Int32) by decide]) Q0 (by rw [show A.taped = A.taped + 0 by clear r0 r ok key bd' fin t0 c tt Q0; grind]; exact bd' 0 (by decide) (by decide)) (fun E Q => ?_)
  refine f_st (x6 := 1) (x6' := 2) (y := x1) (v := x1 >>> (16 &&& 31)) (m := A.taped + 1) (m' := A.taped + 1 + 1) (by decide) rfl (by decide) rfl (by rw [show (24 - (8 * ((1 : Int32) - 1 / 4 * 4)) &&& 31) = (16 &&& 31 : Int32) by decide]) Q (by rw [show A.taped + 1 = A.taped + 1 by clear r0 r ok key bd' fin t0 c tt Q0; grind]; exact bd' 1 (by decide) (by decide)) (fun E Q => ?_)
  refine f_st (x6 := 2) (x6' := 3) (y := x1) (v := x1 >>> (8 &&& 31)) (m := A.taped + 1 + 1) (m' := A.taped + 1 + 1 + 1) (by decide) rfl (by decide) rfl (by rw [show (24 - (8 * ((2 : Int32) - 2 / 4 * 4)) &&& 31) = (8 &&& 31 : Int32) by decide]) Q (by rw [show A.taped + 1 + 1 = A.taped + 2 by clear r0 r ok key bd' fin t0 c tt Q0; grind]; exact bd' 2 (by decide) (by decide)) (fun E Q => ?_)
  refine f_st (x6 := 3) (x6' := 4) (y := x1) (v := x1) (m := A.taped + 1 + 1 + 1) (m' := A.taped + 4) (by decide) rfl (by decide) (by rw [show ∀ t : Int32, t + 1 + 1 + 1 + 1 = t + 4 from fun t => by clear r0 r ok key bd' fin t0 c tt Q0; grind]) (by rw [show (24 - (8 * ((3 : Int32) - 3 / 4 * 4)) &&& 31) = (24 - (8 * ((3 : Int32) - 3 / 4 * 4)) &&& 31) by decide]; exact shr0 _) Q (by rw [show A.taped + 1 + 1 + 1 = A.taped + 3 by clear r0 r ok key bd' fin t0 c tt Q0; grind]; exact bd' 3 (by decide) (by decide)) (fun E Q => ?_)
  refine f_st (x6 := 4) (x6' := 5) (y := x2) (v := x2 >>> (24 &&& 31)) (m := A.taped + 4) (m' := A.taped + 4 + 1) (by decide) rfl (by decide) rfl (by rw [show (24 - (8 * ((4 : Int32) - 4 / 4 * 4)) &&& 31) = (24 &&& 31 : Int32) by decide]) Q (by rw [show A.taped + 4 = A.taped + 4 by clear r0 r ok key bd' fin t0 c tt Q0; grind]; exact bd' 4 (by decide) (by decide)) (fun E Q => ?_)
  refine f_st (x6 := 5) (x6' := 6) (y := x2) (v := x2 >>> (16 &&& 31)) (m := A.taped + 4 + 1) (m' := A.taped + 4 + 1 + 1) (by decide) rfl (by decide) rfl (by rw [show (24 - (8 * ((5 : Int32) - 5 / 4 * 4)) &&& 31) = (16 &&& 31 : Int32) by decide]) Q (by rw [show A.taped + 4 + 1 = A.taped + 5 by clear r0 r ok key bd' fin t0 c tt Q0; grind]; exact bd' 5 (by decide) (by decide)) (fun E Q => ?_)
  refine f_st (x6 := 6) (x6' := 7) (y := x2) (v := x2 >>> (8 &&& 31)) (m := A.taped + 4 + 1 + 1) (m' := A.taped + 4 + 1 + 1 + 1) (by decide) rfl (by decide) rfl (by rw [show (24 - (8 * ((6 : Int32) - 6 / 4 * 4)) &&& 31) = (8 &&& 31 : Int32) by decide]) Q (by rw [show A.taped + 4 + 1 + 1 = A.taped + 6 by clear r0 r ok key bd' fin t0 c tt Q0; grind]; exact bd' 6 (by decide) (by decide)) (fun E Q => ?_)
  refine f_st (x6 := 7) (x6' := 8) (y := x2) (v := x2) (m := A.taped + 4 + 1 + 1 + 1) (m' := A.taped + 8) (by decide) rfl (by decide) (by rw [show ∀ t : Int32, t + 4 + 1 + 1 + 1 + 1 = t + 8 from fun t => by clear r0 r ok key bd' fin t0 c tt Q0; grind]) (by rw [show (24 - (8 * ((7 : Int32) - 7 / 4 * 4)) &&& 31) = (24 - (8 * ((3 : Int32) - 3 / 4 * 4)) &&& 31) by decide]; exact shr0 _) Q (by rw [show A.taped + 4 + 1 + 1 + 1 = A.taped + 7 by clear r0 r ok key bd' fin t0 c tt Q0; grind]; exact bd' 7 (by decide) (by decide)) (fun E Q => ?_)
  refine f_st (x6 := 8) (x6' := 9) (y := x3) (v := x3 >>> (24 &&& 31)) (m := A.taped + 8) (m' := A.taped + 8 + 1) (by decide) rfl (by decide) rfl (by rw [show (24 - (8 * ((8 : Int32) - 8 / 4 * 4)) &&& 31) = (24 &&& 31 : Int32) by decide]) Q (by rw [show A.taped + 8 = A.taped + 8 by clear r0 r ok key bd' fin t0 c tt Q0; grind]; exact bd' 8 (by decide) (by decide)) (fun E Q => ?_)
  refine f_st (x6 := 9) (x6' := 10) (y := x3) (v := x3 >>> (16 &&& 31)) (m := A.taped + 8 + 1) (m' := A.taped + 8 + 1 + 1) (by decide) rfl (by decide) rfl (by rw [show (24 - (8 * ((9 : Int32) - 9 / 4 * 4)) &&& 31) = (16 &&& 31 : Int32) by decide]) Q (by rw [show A.taped + 8 + 1 = A.taped + 9 by clear r0 r ok key bd' fin t0 c tt Q0; grind]; exact bd' 9 (by decide) (by decide)) (fun E Q => ?_)
  refine f_st (x6 := 10) (x6' := 11) (y := x3) (v := x3 >>> (8 &&& 31)) (m := A.taped + 8 + 1 + 1) (m' := A.taped + 8 + 1 + 1 + 1) (by decide) rfl (by decide) rfl (by rw [show (24 - (8 * ((10 : Int32) - 10 / 4 * 4)) &&& 31) = (8 &&& 31 : Int32) by decide]) Q (by rw [show A.taped + 8 + 1 + 1 = A.taped + 10 by clear r0 r ok key bd' fin t0 c tt Q0; grind]; exact bd' 10 (by decide) (by decide)) (fun E Q => ?_)
  refine f_st (x6 := 11) (x6' := 12) (y := x3) (v := x3) (m := A.taped + 8 + 1 + 1 + 1) (m' := A.taped + 12) (by decide) rfl (by decide) (by rw [show ∀ t : Int32, t + 8 + 1 + 1 + 1 + 1 = t + 12 from fun t => by clear r0 r ok key bd' fin t0 c tt Q0; grind]) (by rw [show (24 - (8 * ((11 : Int32) - 11 / 4 * 4)) &&& 31) = (24 - (8 * ((3 : Int32) - 3 / 4 * 4)) &&& 31) by decide]; exact shr0 _) Q (by rw [show A.taped + 8 + 1 + 1 + 1 = A.taped + 11 by clear r0 r ok key bd' fin t0 c tt Q0; grind]; exact bd' 11 (by decide) (by decide)) (fun E Q => ?_)
  refine f_st (x6 := 12) (x6' := 13) (y := x4) (v := x4 >>> (24 &&& 31)) (m := A.taped + 12) (m' := A.taped + 12 + 1) (by decide) rfl (by decide) rfl (by rw [show (24 - (8 * ((12 : Int32) - 12 / 4 * 4)) &&& 31) = (24 &&& 31 : Int32) by decide]) Q (by rw [show A.taped + 12 = A.taped + 12 by clear r0 r ok key bd' fin t0 c tt Q0; grind]; exact bd' 12 (by decide) (by decide)) (fun E Q => ?_)
  refine f_st (x6 := 13) (x6' := 14) (y := x4) (v := x4 >>> (16 &&& 31)) (m := A.taped + 12 + 1) (m' := A.taped + 12 + 1 + 1) (by decide) rfl (by decide) rfl (by rw [show (24 - (8 * ((13 : Int32) - 13 / 4 * 4)) &&& 31) = (16 &&& 31 : Int32) by decide]) Q (by rw [show A.taped + 12 + 1 = A.taped + 13 by clear r0 r ok key bd' fin t0 c tt Q0; grind]; exact bd' 13 (by decide) (by decide)) (fun E Q => ?_)
  refine f_st (x6 := 14) (x6' := 15) (y := x4) (v := x4 >>> (8 &&& 31)) (m := A.taped + 12 + 1 + 1) (m' := A.taped + 12 + 1 + 1 + 1) (by decide) rfl (by decide) rfl (by rw [show (24 - (8 * ((14 : Int32) - 14 / 4 * 4)) &&& 31) = (8 &&& 31 : Int32) by decide]) Q (by rw [show A.taped + 12 + 1 + 1 = A.taped + 14 by clear r0 r ok key bd' fin t0 c tt Q0; grind]; exact bd' 14 (by decide) (by decide)) (fun E Q => ?_)
  refine f_st (x6 := 15) (x6' := 16) (y := x4) (v := x4) (m := A.taped + 12 + 1 + 1 + 1) (m' := A.taped + 16) (by decide) rfl (by decide) (by rw [show ∀ t : Int32, t + 12 + 1 + 1 + 1 + 1 = t + 16 from fun t => by clear r0 r ok key bd' fin t0 c tt Q0; grind]) (by rw [show (24 - (8 * ((15 : Int32) - 15 / 4 * 4)) &&& 31) = (24 - (8 * ((3 : Int32) - 3 / 4 * 4)) &&& 31) by decide]; exact shr0 _) Q (by rw [show A.taped + 12 + 1 + 1 + 1 = A.taped + 15 by clear r0 r ok key bd' fin t0 c tt Q0; grind]; exact bd' 15 (by decide) (by decide)) (fun E Q => ?_)
  refine f_st (x6 := 16) (x6' := 17) (y := x5) (v := x5 >>> (24 &&& 31)) (m := A.taped + 16) (m' := A.taped + 16 + 1) (by decide) rfl (by decide) rfl (by rw [show (24 - (8 * ((16 : Int32) - 16 / 4 * 4)) &&& 31) = (24 &&& 31 : Int32) by decide]) Q (by rw [show A.taped + 16 = A.taped + 16 by clear r0 r ok key bd' fin t0 c tt Q0; grind]; exact bd' 16 (by decide) (by decide)) (fun E Q => ?_)
  refine f_st (x6 := 17) (x6' := 18) (y := x5) (v := x5 >>> (16 &&& 31)) (m := A.taped + 16 + 1) (m' := A.taped + 16 + 1 + 1) (by decide) rfl (by decide) rfl (by rw [show (24 - (8 * ((17 : Int32) - 17 / 4 * 4)) &&& 31) = (16 &&& 31 : Int32) by decide]) Q (by rw [show A.taped + 16 + 1 = A.taped + 17 by clear r0 r ok key bd' fin t0 c tt Q0; grind]; exact bd' 17 (by decide) (by decide)) (fun E Q => ?_)
  refine f_st (x6 := 18) (x6' := 19) (y := x5) (v := x5 >>> (8 &&& 31)) (m := A.taped + 16 + 1 + 1) (m' := A.taped + 16 + 1 + 1 + 1) (by decide) rfl (by decide) rfl (by rw [show (24 - (8 * ((18 : Int32) - 18 / 4 * 4)) &&& 31) = (8 &&& 31 : Int32) by decide]) Q (by rw [show A.taped + 16 + 1 + 1 = A.taped + 18 by clear r0 r ok key bd' fin t0 c tt Q0; grind]; exact bd' 18 (by decide) (by decide)) (fun E Q => ?_)
  refine f_st (x6 := 19) (x6' := 20) (y := x5) (v := x5) (m := A.taped + 16 + 1 + 1 + 1) (m' := A.taped + 20) (by decide) rfl (by decide) (by rw [show ∀ t : Int32, t + 16 + 1 + 1 + 1 + 1 = t + 20 from fun t => by clear r0 r ok key bd' fin t0 c tt Q0; grind]) (by rw [show (24 - (8 * ((19 : Int32) - 19 / 4 * 4)) &&& 31) = (24 - (8 * ((3 : Int32) - 3 / 4 * 4)) &&& 31) by decide]; exact shr0 _) Q (by rw [show A.taped + 16 + 1 + 1 + 1 = A.taped + 19 by clear r0 r ok key bd' fin t0 c tt Q0; grind]; exact bd' 19 (by decide) (by decide)) (fun E Q => ?_)
  exact fin E _ Q
end Msm
