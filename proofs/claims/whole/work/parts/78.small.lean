/-! The class's small calls -/
/-- behind a call: the book, the other side's cells untouched, the cost -/
def Pst (x : Nat) (h : aH) (c s : Nat) (B : Bk) (h' : aH) : Prop := CR x h' B ∧ (∀ k, 173 ≤ k → k < 229 → cel h h' (x + k)) ∧ hz h' ≤ hz h + c ∧ hs h' ≤ hs h + s
section Rd
variable {x : Nat} {h : aH} {lb : Nat → Lab} {ad cp : Adr} {A : Bk}
theorem CRp.same (r : CRp x h lb ad cp A) (c s : Nat) : Pst x h c s A h := ⟨⟨lb, ad, cp, r⟩, fun _ _ _ => cel.refl _ _, by omega, by omega⟩
theorem CRp.fx (r : CRp x h lb ad cp A) : FX x h := r.1
theorem CRp.pl (r : CRp x h lb ad cp A) : PL x h lb ad cp A := r.2.1
theorem CRp.ci (r : CRp x h lb ad cp A) : CI x h A := r.2.2.1
theorem CRp.hc (r : CRp x h lb ad cp A) : HC x h A := r.2.2.2.1
theorem CRp.pc (r : CRp x h lb ad cp A) : PC x h A := r.2.2.2.2.1
theorem CRp.rc (r : CRp x h lb ad cp A) : RC x h A := r.2.2.2.2.2
theorem CRp.k0 (r : CRp x h lb ad cp A) : hK h x = 13 := r.1.1.1
theorem CRp.gm (r : CRp x h lb ad cp A) {g : Int32} (c : inL A.games g) : GmL h lb ad cp g (A.sd0 g) (A.sd1 g) (A.st g) (A.pg g) := r.2.1.2.2.2 g c.1 c.2
theorem c_hasSide (r : CRp x h lb ad cp A) (ok : BkOK A) (s : Int32) : F_X11_hasSide x s h = some (if inL A.sides s then 1 else 0, h) := by
  unfold F_X11_hasSide
  rw [r.ci.1]
  by_cases c0 : s < 0
  · rw [if_pos c0, if_neg (fun q => absurd q.1 (Int32.not_le.mpr c0))]
  rw [if_neg c0]
  by_cases c1 : A.sides ≤ s
  · rw [if_pos c1, if_neg (fun q => absurd q.2 (Int32.not_lt.mpr c1))]
  have c1 := Int32.not_le.mp c1
  rw [if_neg (Int32.not_le.mpr c1), if_neg (Int32.not_le.mpr (Int32.lt_of_lt_of_le c1 ok.1.2)), if_pos ⟨Int32.not_lt.mp c0, c1⟩]
theorem in60 {n i : Int32} (h1 : inL n i) (h2 : n ≤ 60) : inR i 60 := inR_of h1.1 (by
  have := Int32.lt_iff_toInt_lt.mp h1.2
  have := Int32.le_iff_toInt_le.mp h2
  have : (60 : Int32).toInt = 60 := by decide
  omega)
theorem c_playersOf (r : CRp x h lb ad cp A) (ok : BkOK A) (s : Int32) : F_X11_playersOf x s h = some (if inL A.sides s then A.pl s else 0, h) := by
  unfold F_X11_playersOf
  rw [c_hasSide r ok, Option.bind_some, bd_e, bd_e]
  dsimp only
  by_cases c : inL A.sides s
  · rw [if_pos c, if_neg (by decide), if_pos c, ck_t r.k0, r.fx.1.2.1, Option.bind_some, ck_t ⟨r.fx.2.1.1, by rw [r.fx.2.1.2]; exact in60 c ok.1.2⟩, ← r.ci.2.2.2.2.1 s c, rdA_of c.1]
  · rw [if_neg c, if_pos rfl, if_neg c]
theorem p_gameAt (fx : FX x h) (pl : PL x h lb ad cp A) (g : Int32) : F_X11_gameAt x g h = some (if inL A.games g then some (ad 1 g 0 0) else none, h) := by
  unfold F_X11_gameAt
  have L := pl.2.1
  by_cases c0 : g < 0
  · rw [if_pos c0, if_neg (fun q => absurd q.1 (Int32.not_le.mpr c0))]
  rw [if_neg c0, fx.1.2.2.1, Option.bind_some, ck_t L.1.1, L.size, Option.bind_some, bd_e, bd_e]
  dsimp only
  by_cases c1 : A.games ≤ g
  · rw [if_pos c1, if_neg (fun q => absurd q.2 (Int32.not_lt.mpr c1))]
  have c0 := Int32.not_lt.mp c0
  have c1 := Int32.not_le.mp c1
  rw [if_neg (Int32.not_le.mpr c1), ck_t fx.1.1, fx.1.2.2.1, Option.bind_some, ck_t L.1.1, L.get c0 c1, Option.bind_some, bd_e, bd_e, Option.bind_some, ck_t (pl.2.2.2 g c0 c1).1.1, if_pos ⟨c0, c1⟩]
theorem c_gameAt (r : CRp x h lb ad cp A) (g : Int32) : F_X11_gameAt x g h = some (if inL A.games g then some (ad 1 g 0 0) else none, h) := p_gameAt r.fx r.pl g
abbrev inO (A : Bk) (g t o : Int32) : Prop := inL A.games g ∧ inL (A.pg g).turns t ∧ inL ((A.pg g).many t) o
theorem c_overOf (r : CRp x h lb ad cp A) (g t o : Int32) : F_X11_overOf x g t o h = some (if inO A g t o then some (ad 3 g t o) else none, h) := by
  unfold F_X11_overOf
  rw [c_gameAt r, Option.bind_some, bd_e, bd_e]
  dsimp only
  by_cases c : inL A.games g
  · rw [if_pos c]
    dsimp only
    rw [ck_t (r.gm c).1.1, g_overAt (r.gm c), Option.bind_some, bd_e, bd_e]
    by_cases c2 : inL (A.pg g).turns t ∧ inL ((A.pg g).many t) o
    · rw [if_pos c2, if_pos ⟨c, c2⟩]
    · rw [if_neg c2, if_neg (fun q => c2 q.2)]
  · rw [if_neg c, if_neg (fun q => c q.1)]
/-- ints of x itself and of some rows have changed: what is left to show -/
theorem CRp.fs {S : Nat → Prop} {h' : aH} {B : Bk} (r : CRp x h lb ad cp A) (f : frs S x h h') (hS : ∀ k, S k → (k < 129 ∨ 166 ≤ k) ∧ k < 173 ∧ k ≠ 2 ∧ k ≠ 167 ∧ k ≠ 169) (pl : PL x h' lb ad cp A → PL x h' lb ad cp B) (ci : CI x h' B) (hc : HC x h' B) (pc : PC x h' B) (rc : RC x h' B) (c s : Nat) : Pst x h c s B h' := by
  refine ⟨⟨lb, ad, cp, r.1.fs f (fun k hk => by have := hS k hk; omega), pl (r.2.1.fs f (fun k hk => by have := hS k hk; omega)), ci, hc, pc, rc⟩, fun k k0 k1 => f.c (fun q => by have := hS k q; omega), ?_, ?_⟩
  · rw [f.1.z]; omega
  · rw [f.1.s]; omega
end Rd
theorem HC.cg {x : Nat} {h : aH} {A B : Bk} (r : HC x h A) (e1 : B.hi = A.hi) (e2 : ∀ q ∈ A.hi, B.pg q.1 = A.pg q.1) : HC x h B := by
  obtain ⟨j, j1, j2, j3, j4, j5⟩ := r
  exact ⟨j, j1, j2, by rw [e1]; exact j3, by rw [e1]; exact j4, by rw [e1]; exact HCr.pg _ _ _ _ j5 e2⟩
theorem PC.cg {x : Nat} {h : aH} {A B : Bk} (r : PC x h A) (e1 : ∀ g, inL A.games g → inL B.games g ∧ B.pg g = A.pg g) : PC x h B := by
  rcases r with r | ⟨r1, s, r2, r3⟩
  · exact Or.inl r
  · exact Or.inr ⟨(e1 _ r1).1, s, r2, by rw [(e1 _ r1).2]; exact r3⟩
/-! side, player -/
def aSide (n : Int32) (A : Bk) : Int32 × Bk := if 60 ≤ A.sides ∨ n < 11 ∨ 30 < n then (-1, A) else (A.sides, (A.sR 0 (fun i => if i = A.sides then n else A.pl i)).sI 0 (A.sides + 1))
def aPlayer (s : Int32) (A : Bk) : Int32 × Bk := if inL A.sides s ∧ A.pl s < 30 then (A.pl s, A.sR 0 (fun i => if i = s then A.pl s + 1 else A.pl i)) else (-1, A)
theorem rdA_sI {h : aH} {a i : Nat} {v : Int32} {k : Int32} (hk : 0 ≤ k) : rdA (sI h a i v) a k = if k.toNatClampNeg = i then v else rdA h a k := by
  unfold rdA
  rw [if_pos hk, if_pos hk]
  show (if a = a ∧ k.toNatClampNeg = i then v else hI h a k.toNatClampNeg) = _
  by_cases c : k.toNatClampNeg = i
  · rw [if_pos ⟨rfl, c⟩, if_pos c]
  · rw [if_neg (fun q => c q.2), if_neg c]
theorem rdA_w {h : aH} {a : Nat} {i k v : Int32} (hi : 0 ≤ i) (hk : 0 ≤ k) : rdA (sI h a i.toNatClampNeg v) a k = if k = i then v else rdA h a k := by
  rw [rdA_sI hk]
  by_cases c : k = i
  · rw [if_pos c, if_pos (by rw [c])]
  · rw [if_neg c, if_neg (fun q => c (tnc_inj hk hi q))]
section Ops
variable {x : Nat} {h : aH} {lb : Nat → Lab} {ad cp : Adr} {A : Bk}
theorem pred1 {n : Int32} : n + 1 - 1 = n := by grind
theorem c_side (r : CRp x h lb ad cp A) (ok : BkOK A) (n : Int32) : Rn (F_X11_side x n h) (fun q => q.1 = (aSide n A).1 ∧ Pst x h 0 0 (aSide n A).2 q.2) := by
  unfold F_X11_side aSide
  rw [r.ci.1]
  refine rn_i (fun c => ?_) (fun c => ?_)
  · rw [if_pos (Or.inl c)]
    exact rn_s ⟨rfl, r.same 0 0⟩
  refine rn_i (fun c1 => ?_) (fun c1 => ?_)
  · rw [if_pos (Or.inr (Or.inl c1))]
    exact rn_s ⟨rfl, r.same 0 0⟩
  refine rn_i (fun c2 => ?_) (fun c2 => ?_)
  rotate_left
  · rw [if_pos (Or.inr (Or.inr (Int32.not_le.mp c2)))]
    exact rn_s ⟨rfl, r.same 0 0⟩
  rw [if_neg (fun q => by
    rcases q with q | q | q
    · exact c q
    · exact c1 q
    · exact absurd c2 (Int32.not_le.mpr q))]
  have c := Int32.not_le.mp c
  have il : inL 60 A.sides := ⟨ok.1.1, c⟩
  refine rn_o r.fx.1.2.1 (rn_ck ⟨r.fx.2.1.1, by rw [r.fx.2.1.2]; exact in60 il (Int32.le_refl _)⟩ (rn_bd (rn_bd (rn_bd (rn_s ?_)))))
  have F : frs (fun k => k = 0 ∨ k = 1) x h (sF (sF (sI h (x + 1) A.sides.toNatClampNeg n) 1208 x (hF (sI h (x + 1) A.sides.toNatClampNeg n) 1208 x + 1)) 1211 x 1) := ((frs_sI (Or.inr rfl)).trans (frs_sF0 (Or.inl rfl) (by decide))).trans (frs_sF0 (Or.inl rfl) (by decide))
  have e8 : hF (sF (sF (sI h (x + 1) A.sides.toNatClampNeg n) 1208 x (hF (sI h (x + 1) A.sides.toNatClampNeg n) 1208 x + 1)) 1211 x 1) 1208 x = A.sides + 1 := by
    show (if (1208 : Nat) = 1211 ∧ x = x then (1 : Int32) else if (1208 : Nat) = 1208 ∧ x = x then hF h 1208 x + 1 else hF h 1208 x) = _
    rw [if_neg (by omega), if_pos ⟨rfl, rfl⟩, r.ci.1]
  have eo : ∀ f, f ≠ 1211 → f ≠ 1208 → hF (sF (sF (sI h (x + 1) A.sides.toNatClampNeg n) 1208 x (hF (sI h (x + 1) A.sides.toNatClampNeg n) 1208 x + 1)) 1211 x 1) f x = hF h f x := fun f n1 n2 => (if_neg (fun q => n1 q.1)).trans (if_neg (fun q => n2 q.1))
  have e11 : hF (sF (sF (sI h (x + 1) A.sides.toNatClampNeg n) 1208 x (hF (sI h (x + 1) A.sides.toNatClampNeg n) 1208 x + 1)) 1211 x 1) 1211 x = 1 := if_pos ⟨rfl, rfl⟩
  have eI : ∀ k, 0 ≤ k → rdA (sF (sF (sI h (x + 1) A.sides.toNatClampNeg n) 1208 x (hF (sI h (x + 1) A.sides.toNatClampNeg n) 1208 x + 1)) 1211 x 1) (x + 1) k = if k = A.sides then n else rdA h (x + 1) k := fun k hk => rdA_w (h := h) ok.1.1 hk
  refine ⟨?_, ?_⟩
  · show hF _ 1208 x - 1 = A.sides
    rw [e8]
    exact pred1
  generalize sF (sF (sI h (x + 1) A.sides.toNatClampNeg n) 1208 x (hF (sI h (x + 1) A.sides.toNatClampNeg n) 1208 x + 1)) 1211 x 1 = h' at *
  refine r.fs (B := (A.sR 0 (fun i => if i = A.sides then n else A.pl i)).sI 0 (A.sides + 1)) F (fun k hk => by omega) (fun p => p.cg rfl (fun g _ => ⟨rfl, rfl, rfl, rfl⟩)) ?_ ((r.hc.mv (F.c (by omega)) (fun k a b => F.c (by omega))).cg rfl (fun _ _ => rfl)) ((r.pc.mv (eo _ (by decide) (by decide)) (psOf_cl (fun b b0 b1 => F.2 b (fun k hk e => by omega)))).cg (fun g hg => ⟨hg, rfl⟩)) (RC.old e11) 0 0
  obtain ⟨i1, i2, i3, i4, i5, i6, i7⟩ := r.ci
  have c3 := F.c (k := 3) (by omega)
  have c4 := F.c (k := 4) (by omega)
  have c5 := F.c (k := 5) (by omega)
  have c6 := F.c (k := 6) (by omega)
  refine ⟨e8, by rw [eo _ (by decide) (by decide)]; exact i2, by rw [c3.F]; exact i3, by rw [c5.F]; exact i4, fun i hi => ?_, fun i hi => by rw [c4.A]; exact i6 i hi, fun i hi => by rw [c6.A]; exact i7 i hi⟩
  have hi : inL (A.sides + 1) i := hi
  show _ = if i = A.sides then n else A.pl i
  rw [eI i hi.1]
  by_cases e : i = A.sides
  · rw [if_pos e, if_pos e]
  · rw [if_neg e, if_neg e]
    exact i5 i ⟨hi.1, ((i32_ls c).mp hi.2).resolve_right e⟩
theorem c_player (r : CRp x h lb ad cp A) (ok : BkOK A) (s : Int32) : Rn (F_X11_player x s h) (fun q => q.1 = (aPlayer s A).1 ∧ Pst x h 0 0 (aPlayer s A).2 q.2) := by
  unfold F_X11_player aPlayer
  refine rn_o (c_hasSide r ok s) (rn_bd (rn_bd ?_))
  dsimp only
  by_cases c : inL A.sides s
  rotate_left
  · rw [if_neg c, if_neg (show ¬ (inL A.sides s ∧ A.pl s < 30) from fun q => c q.1)]
    exact rn_p rfl (rn_s ⟨rfl, r.same 0 0⟩)
  rw [if_pos c]
  have I : hK h (x + 1) = 21 ∧ inR s (hN h (x + 1)) := ⟨r.fx.2.1.1, by rw [r.fx.2.1.2]; exact in60 c ok.1.2⟩
  have ev : hI h (x + 1) s.toNatClampNeg = A.pl s := by rw [← r.ci.2.2.2.2.1 s c, rdA_of c.1]
  refine rn_n (by decide) (rn_ck r.k0 (rn_o r.fx.1.2.1 (rn_ck I ?_)))
  rw [ev]
  refine rn_i (fun c2 => ?_) (fun c2 => ?_)
  rotate_left
  · rw [if_neg (show ¬ (inL A.sides s ∧ A.pl s < 30) from fun q => c2 q.2)]
    exact rn_s ⟨rfl, r.same 0 0⟩
  rw [if_pos (show inL A.sides s ∧ A.pl s < 30 from ⟨c, c2⟩)]
  refine rn_o r.fx.1.2.1 (rn_ck I ?_)
  rw [ev]
  refine rn_bd (rn_bd (rn_o r.fx.1.2.1 (rn_ck I (rn_s ?_))))
  have F : frs (fun k => k = 0 ∨ k = 1) x h (sF (sI h (x + 1) s.toNatClampNeg (A.pl s + 1)) 1211 x 1) := (frs_sI (Or.inr rfl)).trans (frs_sF0 (Or.inl rfl) (by decide))
  have eo : ∀ f, f ≠ 1211 → hF (sF (sI h (x + 1) s.toNatClampNeg (A.pl s + 1)) 1211 x 1) f x = hF h f x := fun f n => if_neg (fun q => n q.1)
  have e11 : hF (sF (sI h (x + 1) s.toNatClampNeg (A.pl s + 1)) 1211 x 1) 1211 x = 1 := if_pos ⟨rfl, rfl⟩
  have eI : ∀ k, 0 ≤ k → rdA (sF (sI h (x + 1) s.toNatClampNeg (A.pl s + 1)) 1211 x 1) (x + 1) k = if k = s then A.pl s + 1 else rdA h (x + 1) k := fun k hk => rdA_w (h := h) c.1 hk
  refine ⟨?_, ?_⟩
  · show hI _ (x + 1) s.toNatClampNeg - 1 = A.pl s
    rw [← rdA_of c.1, eI s c.1, if_pos rfl]
    exact pred1
  generalize sF (sI h (x + 1) s.toNatClampNeg (A.pl s + 1)) 1211 x 1 = h' at *
  refine r.fs (B := A.sR 0 (fun i => if i = s then A.pl s + 1 else A.pl i)) F (fun k hk => by omega) (fun p => p.cg rfl (fun g _ => ⟨rfl, rfl, rfl, rfl⟩)) ?_ ((r.hc.mv (F.c (by omega)) (fun k a b => F.c (by omega))).cg rfl (fun _ _ => rfl)) ((r.pc.mv (eo _ (by decide)) (psOf_cl (fun b b0 b1 => F.2 b (fun k hk e => by omega)))).cg (fun g hg => ⟨hg, rfl⟩)) (RC.old e11) 0 0
  obtain ⟨i1, i2, i3, i4, i5, i6, i7⟩ := r.ci
  have c3 := F.c (k := 3) (by omega)
  have c4 := F.c (k := 4) (by omega)
  have c5 := F.c (k := 5) (by omega)
  have c6 := F.c (k := 6) (by omega)
  refine ⟨by rw [eo _ (by decide)]; exact i1, by rw [eo _ (by decide)]; exact i2, by rw [c3.F]; exact i3, by rw [c5.F]; exact i4, fun i hi => ?_, fun i hi => by rw [c4.A]; exact i6 i hi, fun i hi => by rw [c6.A]; exact i7 i hi⟩
  have hi : inL A.sides i := hi
  show _ = if i = s then A.pl s + 1 else A.pl i
  rw [eI i hi.1]
  by_cases e : i = s
  · rw [if_pos e, if_pos e]
  · rw [if_neg e, if_neg e]
    exact i5 i hi
/-! why, list, told, entry -/
theorem c_why (r : CRp x h lb ad cp A) : F_X11_why x h = some (A.why, h) := by
  unfold F_X11_why
  rw [r.ci.2.1]
def aList (w : Int32) (A : Bk) : Option Int32 := if w = 0 then some A.sides else if w = 1 then some A.games else if w = 2 then some A.taped else if w = 3 then some (Int32.ofNat A.hi.length) else if w = 4 then some A.outs else if 0 ≤ w ∧ inL A.sides (w - 5) then some (A.pl (w - 5)) else none
theorem c_list (r : CRp x h lb ad cp A) (ok : BkOK A) (w : Int32) : F_X11_list x w h = some (aList w A, h) := by
  unfold F_X11_list F_X11_list_87 aList
  by_cases c0 : w = 0
  · rw [if_pos c0, if_pos c0, r.ci.1]
  rw [if_neg c0, if_neg c0]
  by_cases c1 : w = 1
  · rw [if_pos c1, if_pos c1, r.fx.1.2.2.1, Option.bind_some, ck_t r.pl.2.1.1.1, r.pl.2.1.size]; rfl
  rw [if_neg c1, if_neg c1]
  by_cases c2 : w = 2
  · rw [if_pos c2, if_pos c2, r.fx.1.2.2.2.1, Option.bind_some, ck_t r.fx.2.2.1.1, r.ci.2.2.1]
  rw [if_neg c2, if_neg c2]
  by_cases c3 : w = 3
  · obtain ⟨j, j1, j2, j3, j4, j5⟩ := r.hc
    rw [if_pos c3, if_pos c3, r.fx.1.2.2.2.2.2.1, Option.bind_some, ck_t r.fx.2.2.2.2.1.1.1, j3]
  rw [if_neg c3, if_neg c3]
  by_cases c4 : w = 4
  · rw [if_pos c4, if_pos c4, r.fx.1.2.2.2.2.1, Option.bind_some, ck_t r.fx.2.2.2.1.1, r.ci.2.2.2.1]
  rw [if_neg c4, if_neg c4]
  by_cases c5 : w < 0
  · rw [if_pos c5, if_neg (fun q => absurd q.1 (Int32.not_le.mpr c5))]
  rw [if_neg c5, c_hasSide r ok, Option.bind_some, bd_e, bd_e]
  dsimp only
  by_cases c : inL A.sides (w - 5)
  · rw [if_pos c, if_neg (by decide), ck_t r.k0, c_playersOf r ok, Option.bind_some, bd_e, bd_e, if_pos (show 0 ≤ w ∧ inL A.sides (w - 5) from ⟨Int32.not_lt.mp c5, c⟩), if_pos c]
  · rw [if_neg c, if_pos rfl, if_neg (show ¬ (0 ≤ w ∧ inL A.sides (w - 5)) from fun q => c q.2)]
theorem b_at {a n : Nat} {m : Int32} {f : Int32 → Int32} (b : BtL h a n) (e : hF h 101 a = m) (hm : m.toInt ≤ (n : Int)) (H : ∀ i, inL m i → rdA h (a + 1) i = f i) (i : Int32) : F_X0_at a i h = some (if inL m i then f i else -1, h) := by
  unfold F_X0_at
  rw [e]
  by_cases c0 : i < 0
  · rw [if_pos c0, if_neg (fun q => absurd q.1 (Int32.not_le.mpr c0))]
  rw [if_neg c0]
  by_cases c1 : m ≤ i
  · rw [if_pos c1, if_neg (fun q => absurd q.2 (Int32.not_lt.mpr c1))]
  have c0 := Int32.not_lt.mp c0
  have c1 := Int32.not_le.mp c1
  rw [if_neg (Int32.not_le.mpr c1), b.2.1, Option.bind_some, ck_t ⟨b.2.2.1, by rw [b.2.2.2]; exact inR_of c0 (by have := Int32.lt_iff_toInt_lt.mp c1; omega)⟩, if_pos ⟨c0, c1⟩, ← H i ⟨c0, c1⟩, rdA_of c0]
theorem le_i {a b : Int32} {n : Int} (h : a ≤ b) (e : b.toInt = n) : a.toInt ≤ n := by
  have := Int32.le_iff_toInt_le.mp h
  omega
theorem c_tapeAt (r : CRp x h lb ad cp A) (ok : BkOK A) (i : Int32) : F_X0_at (x + 3) i h = some (if inL A.taped i then A.tape i else -1, h) := b_at r.fx.2.2.1 r.ci.2.2.1 (le_i ok.2.2.1.2 (by decide)) r.ci.2.2.2.2.2.1 i
theorem c_told (r : CRp x h lb ad cp A) (ok : BkOK A) (k : Int32) : F_X11_told x k h = some (if inL A.outs k then some (A.out k) else none, h) := by
  unfold F_X11_told F_X11_told_15
  by_cases c0 : k < 0
  · rw [if_pos c0, if_neg (fun q => absurd q.1 (Int32.not_le.mpr c0))]
  rw [if_neg c0, r.fx.1.2.2.2.2.1, Option.bind_some, ck_t r.fx.2.2.2.1.1, r.ci.2.2.2.1]
  by_cases c1 : k < A.outs
  · have c : inL A.outs k := ⟨Int32.not_lt.mp c0, c1⟩
    rw [if_pos c1, if_pos c, Option.bind_some, ck_t r.fx.2.2.2.1.1, b_at r.fx.2.2.2.1 r.ci.2.2.2.1 (le_i ok.2.2.2.1.2 (by decide)) r.ci.2.2.2.2.2.2 k, Option.bind_some, bd_e, bd_e, if_pos c]
  · rw [if_neg c1, if_neg (fun q => c1 q.2)]
theorem BkOK.ov (ok : BkOK A) {g t o : Int32} (c : inO A g t o) : (0 ≤ (A.pg g).bow t o ∧ (A.pg g).bow t o ≤ 15) ∧ (-1 ≤ (A.pg g).siz t o ∧ (A.pg g).siz t o ≤ 40) ∧ ∀ i, 0 ≤ i → i < (A.pg g).siz t o → 0 ≤ (A.pg g).ent t o i ∧ (A.pg g).ent t o i ≤ 255 := (((ok.2.2.2.2.2.2.1 g c.1).1.2.2.2 t c.2.1.1 c.2.1.2).2 o c.2.2.1 c.2.2.2)
theorem CRp.ov (r : CRp x h lb ad cp A) {g t o : Int32} (c : inO A g t o) : OvL h (ad 3 g t o) ((A.pg g).bow t o) ((A.pg g).siz t o) ((A.pg g).ent t o) ∧ lbR h lb ad 3 g t o 2 := (r.gm c.1).in_o c.2.1 c.2.2
theorem c_entry (r : CRp x h lb ad cp A) (ok : BkOK A) (g t o i : Int32) : F_X11_entry x g t o i h = some (if inO A g t o ∧ inL ((A.pg g).siz t o) i then some ((A.pg g).ent t o i) else none, h) := by
  unfold F_X11_entry F_X11_entry_24
  rw [c_overOf r, Option.bind_some, bd_e, bd_e]
  dsimp only
  by_cases c : inO A g t o
  · rw [if_pos c]
    dsimp only
    have v := (r.ov c).1
    rw [ck_t v.1, o_has v (ok.ov c).2.1.2, Option.bind_some, bd_e, bd_e]
    dsimp only
    by_cases c2 : inL ((A.pg g).siz t o) i
    · rw [if_pos c2, if_neg (by decide), ck_t v.1, o_at v (ok.ov c).2.1.2, Option.bind_some, bd_e, bd_e, if_pos c2, if_pos (show inO A g t o ∧ inL ((A.pg g).siz t o) i from ⟨c, c2⟩)]
    · rw [if_neg c2, if_pos rfl, if_neg (fun q => c2 q.2)]
  · rw [if_neg c, if_neg (fun q => c q.1)]
end Ops
