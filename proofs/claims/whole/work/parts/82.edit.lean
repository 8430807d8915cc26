/-! A row changed, with what it was kept -/
abbrev KS (k : Nat) : Prop := k = 0 ∨ k = 7 ∨ (9 ≤ k ∧ k < 129)
def KeepQ (x : Nat) (h : aH) (A : Bk) (g t o : Int32) (h' : aH) : Prop := frs KS x h h' ∧ (hF h' 1210 x = -1 ∧ hF h' 1211 x = 1 ∧ hF h' 1208 x = hF h 1208 x ∧ hF h' 1209 x = hF h 1209 x) ∧ ∃ j, j < 40 ∧ hF h' 301 (x + 7) = Int32.ofNat ((j + 1) % 40) ∧ hF h' 302 (x + 7) = Int32.ofNat (((g, A.pg g) :: A.hi).take 40).length ∧ (hF h' 201 (x + 9 + 3 * j) = g ∧ hF h' 202 (x + 9 + 3 * j) = 2 ∧ hF h' 203 (x + 9 + 3 * j) = t ∧ hF h' 204 (x + 9 + 3 * j) = o) ∧ HCr h' x j A.pg 1 (A.hi.take 39) ∧ OvL h' (x + 9 + 3 * j + 1) ((A.pg g).bow t o) ((A.pg g).siz t o) ((A.pg g).ent t o)
theorem lb_hi {x : Nat} {h : aH} {lb : Nat → Lab} {ad cp : Adr} {A : Bk} (r : PL x h lb ad cp A) {b : Nat} (n : (lb b).1 ≠ 0) : x + 229 ≤ b := Nat.le_of_not_lt (fun q => n (r.1 b q))
section Ed
variable {x : Nat} {h : aH} {lb : Nat → Lab} {ad cp : Adr} {A : Bk} {g t o : Int32}
theorem CRp.ov_hi (r : CRp x h lb ad cp A) (c : inO A g t o) : x + 229 ≤ ad 3 g t o := lb_hi r.pl (by rw [show lb (ad 3 g t o) = (3, g, t, o) from (r.ov c).2.2 0 (by decide)]; exact lab_1 (by decide))
theorem HCr.mvn {h h' : aH} {x j : Nat} (l : List (Int32 × Pg)) (pg : Int32 → Pg) (jl : j < 40) (ll : l.length ≤ 39) (r : HCr h x j pg 1 l) (c : ∀ k, 9 ≤ k → k < 129 → (k < 9 + 3 * j ∨ 9 + 3 * j + 2 < k) → cel h h' (x + k)) : HCr h' x j pg 1 l := by
  refine HCr.mv _ _ _ r (fun i' a b => ?_)
  have cc : ∀ b, x + 9 ≤ b → b < x + 129 → (b < x + 9 + 3 * j ∨ x + 9 + 3 * j + 2 < b) → cel h h' b := fun b b0 b1 b2 => by
    have := c (b - x) (by omega) (by omega) (by omega)
    rw [show x + (b - x) = b by omega] at this
    exact this
  have si := slt_in (x := x) (i := i') jl
  have e : slt x j i' < x + 9 + 3 * j ∧ slt x j i' + 2 < x + 9 + 3 * j ∨ x + 9 + 3 * j + 2 < slt x j i' := by
    unfold slt
    omega
  exact ⟨cc _ (by omega) (by omega) (by omega), cc _ (by omega) (by omega) (by omega), cc _ (by omega) (by omega) (by omega)⟩
theorem c_keep (r : CRp x h lb ad cp A) (ok : BkOK A) (c : inO A g t o) : Rn (F_X11_keep x g t o (ad 3 g t o) h) (KeepQ x h A g t o) := by
  unfold F_X11_keep
  refine rn_o r.fx.1.2.2.2.2.2.1 (rn_ck r.fx.2.2.2.2.1.1.1 ?_)
  have sz := (ok.ov c).2.1
  refine rn_c (c_pushR r.fx r.hc g 2 t o (r.ov c).1 ⟨sz.2, sz.1⟩ (r.ov_hi c)) ?_
  rintro h5 ⟨j, jl, F, p1, p2, p3, p4, v⟩
  have k13 : hK h5 x = 13 := by rw [F.1.K]; exact r.fx.1.1
  unfold F_X11_forgetPlay
  refine rn_ck k13 ?_
  rw [bd_e, bd_e, Option.bind_some]
  have o0 : ∀ b, b ≠ x → cel h5 (sF (sF h5 1210 x (-1)) 1211 x 1) b := fun b hb => (cel_sF hb).trans (cel_sF hb)
  have cs := o0 (x + 9 + 3 * j) (by omega)
  have c7 := o0 (x + 7) (by omega)
  have ex : ∀ f', f' ≠ 1210 → f' ≠ 1211 → hF (sF (sF h5 1210 x (-1)) 1211 x 1) f' x = hF h f' x := fun f' n1 n2 => by
    rw [rF_sF, if_neg (fun q => n2 q.1), rF_sF, if_neg (fun q => n1 q.1)]
    exact (F.2 x (fun k hk e => by omega)).F f'
  refine rn_s ⟨?_, ⟨?_, if_pos ⟨rfl, rfl⟩, ex _ (by decide) (by decide), ex _ (by decide) (by decide)⟩, j, jl, (c7.F _).trans p1, (c7.F _).trans p2, ⟨(cs.F _).trans p3.1, (cs.F _).trans p3.2.1, (cs.F _).trans p3.2.2.1, (cs.F _).trans p3.2.2.2⟩, ?_, v.mv (o0 _ (by omega)) (o0 _ (by omega))⟩
  · have F1 : frs KS x h h5 := F.wk (fun k hk => by rcases hk with q | q; exact Or.inr (Or.inl q); exact Or.inr (Or.inr (by omega)))
    exact (F1.trans (frs_sF0 (Or.inl rfl) (by decide))).trans (frs_sF0 (Or.inl rfl) (by decide))
  · rw [rF_sF, if_neg (by omega), rF_sF, if_pos ⟨rfl, rfl⟩]
  · exact HCr.mvn _ _ jl (by rw [List.length_take]; omega) p4 (fun k k0 k1 k2 => o0 _ (by omega))
/-- the row is another, the book is the changed one -/
theorem c_edit (r : CRp x h lb ad cp A) (ok : BkOK A) (c : inO A g t o) {h1 h2 : aH} (q : KeepQ x h A g t o h1) (f : frn (ad 3 g t o) 2 h1 h2) {b s : Int32} {e : Int32 → Int32} (v : OvL h2 (ad 3 g t o) b s e) : CRp x h2 lb ad cp (A.chg g ((A.pg g).edit t o b s e)) ∧ (∀ k, 173 ≤ k → k < 229 → cel h h2 (x + k)) ∧ hz h2 = hz h ∧ hs h2 = hs h := by
  obtain ⟨F, ⟨q1, q2, q3, q4⟩, j, jl, p1, p2, p3, p4, p5⟩ := q
  have hi := r.ov_hi c
  have fx1 := r.fx.fs F (fun k hk => by omega)
  have pl1 := r.pl.fs F (fun k hk => by omega)
  have zx := fx1.2.2.2.2.2.2.2.2
  have o2 : ∀ b, b < x + 229 → cel h1 h2 b := fun b hb => cel_frn f (by omega)
  have g1 := pl1.2.2.2 g c.1.1 c.1.2
  have lr := (g1.in_o c.2.1 c.2.2).2
  have kE : kpL lb (fun L => L ≠ (3, g, t, o) ∧ L.1 ≠ 0) h1 h2 := ⟨by rw [f.1.z]; exact Nat.le_refl _, f.1.E, fun b hb P => cel_frn f (by
    have n0 : b ≠ ad 3 g t o := fun e => P.1 (by rw [e]; exact lr.2 0 (by decide))
    have n1 : b ≠ ad 3 g t o + 1 := fun e => P.1 (by rw [e]; exact lr.2 1 (by decide))
    omega)⟩
  have x0 := o2 x (by omega)
  refine ⟨⟨fx1.mv (fun b b0 b1 _ => (o2 b (by omega)).scl) (fun b hb f' => (o2 b (by omega)).F f') (fx1.2.2.2.2.2.1.cl (fun b b0 b1 => o2 b (by omega))) f.1.E (by rw [f.1.z]; exact Nat.le_refl _), ?_, ?_, ?_, PC.old (by rw [x0.F]; exact q1), RC.old (by rw [x0.F]; exact q2)⟩, fun k k0 k1 => (F.c (by omega)).trans (o2 _ (by omega)), by rw [f.1.z, F.1.z], by rw [f.1.s, F.1.s]⟩
  · refine pl1.up (g := g) zx.2 (kE.wk (fun L hL => ⟨fun e => ?_, hL.1⟩)) (o2 _ (by omega)) (fun _ _ => rfl) (fun _ _ _ _ _ => ⟨rfl, rfl⟩) rfl (fun _ => ?_) rfl (fun g' n => ⟨rfl, rfl, rfl, if_neg n⟩)
    · rw [e] at hL
      rcases hL.2 with z | z
      · exact z rfl
      · exact absurd (show (3 : Nat) = 4 from z) (by decide)
    · rw [show (A.chg g ((A.pg g).edit t o b s e)).pg g = (A.pg g).edit t o b s e from if_pos rfl]
      exact gm_edit g1 c.2.1 c.2.2 kE v
  · have ci1 : CI x h1 A := r.ci.mv ⟨q3, q4⟩ (F.c (by omega)) (F.c (by omega)) (F.c (by omega)) (F.c (by omega)) (F.c (by omega))
    exact ci1.mv ⟨x0.F _, x0.F _⟩ (o2 _ (by omega)) (o2 _ (by omega)) (o2 _ (by omega)) (o2 _ (by omega)) (o2 _ (by omega))
  · refine hc_done jl p1 p2 p3.1 p4 ?_ ?_ (o2 _ (by omega)) (fun k _ _ => o2 _ (by omega))
    · have sz := (ok.ov c).2.1
      refine Or.inr (Or.inr ⟨p3.2.1, ?_, ?_, ?_, ?_⟩)
      · rw [p3.2.2.1]; exact c.2.1
      · rw [p3.2.2.1, p3.2.2.2]; exact c.2.2
      · rw [p5.2.2.2.2.2.1]; exact sz.1
      · rw [p5.2.2.2.2.2.1]; exact sz.2
    · unfold capp
      rw [p3.2.1, if_neg (by decide), if_neg (by decide), p3.2.2.1, p3.2.2.2, p5.2.2.2.2.1, p5.2.2.2.2.2.1]
      refine ⟨rfl, rfl, rfl, fun t' ht' => ⟨rfl, fun o' ho' => ?_⟩⟩
      show (if t' = t ∧ o' = o then _ else if t' = t ∧ o' = o then b else (A.pg g).bow t' o') = _ ∧ (if t' = t ∧ o' = o then _ else if t' = t ∧ o' = o then s else (A.pg g).siz t' o') = _ ∧ ∀ i, inL (if t' = t ∧ o' = o then _ else if t' = t ∧ o' = o then s else (A.pg g).siz t' o') i → (if t' = t ∧ o' = o then _ else if t' = t ∧ o' = o then e else (A.pg g).ent t' o') i = _
      by_cases z : t' = t ∧ o' = o
      · obtain ⟨z1, z2⟩ := z
        subst z1; subst z2
        rw [if_pos ⟨rfl, rfl⟩, if_pos ⟨rfl, rfl⟩, if_pos ⟨rfl, rfl⟩]
        exact ⟨rfl, rfl, fun i hi => p5.2.2.2.2.2.2 i hi.1 hi.2⟩
      · rw [if_neg z, if_neg z, if_neg z, if_neg z, if_neg z, if_neg z]
        exact ⟨rfl, rfl, fun _ _ => rfl⟩
theorem c_editP (r : CRp x h lb ad cp A) (ok : BkOK A) (c : inO A g t o) {h1 h2 : aH} (q : KeepQ x h A g t o h1) (f : frn (ad 3 g t o) 2 h1 h2) {b s : Int32} {e : Int32 → Int32} (v : OvL h2 (ad 3 g t o) b s e) : Pst x h 0 0 (A.chg g ((A.pg g).edit t o b s e)) h2 := by
  obtain ⟨a1, a2, a3, a4⟩ := c_edit r ok c q f v
  exact ⟨⟨lb, ad, cp, a1⟩, a2, by omega, by omega⟩
theorem KeepQ.ov (r : CRp x h lb ad cp A) (c : inO A g t o) {h1 : aH} (q : KeepQ x h A g t o h1) : OvL h1 (ad 3 g t o) ((A.pg g).bow t o) ((A.pg g).siz t o) ((A.pg g).ent t o) := by
  have hi := r.ov_hi c
  exact (r.ov c).1.mv (q.1.2 _ (fun k hk e => by omega)) (q.1.2 _ (fun k hk e => by omega))
theorem KeepQ.k0 (r : CRp x h lb ad cp A) {h1 : aH} (q : KeepQ x h A g t o h1) : hK h1 x = 13 := by rw [q.1.1.K]; exact r.k0
def aTear (g t o : Int32) (A : Bk) : Int32 × Bk := if inO A g t o ∧ 0 ≤ (A.pg g).siz t o then (1, A.chg g ((A.pg g).edit t o ((A.pg g).bow t o) (-1) ((A.pg g).ent t o))) else (0, A)
def aPut (g t o i c : Int32) (A : Bk) : Int32 × Bk := if inO A g t o ∧ 0 ≤ (A.pg g).siz t o ∧ 0 ≤ i ∧ i ≤ (A.pg g).siz t o ∧ (A.pg g).siz t o < 40 then (1, A.chg g ((A.pg g).edit t o ((A.pg g).bow t o) ((A.pg g).siz t o + 1) (rIns ((A.pg g).ent t o) i (c &&& 255)))) else (0, A)
def aMend (g t o i c : Int32) (A : Bk) : Int32 × Bk := if inO A g t o ∧ inL ((A.pg g).siz t o) i then ((A.pg g).ent t o i, A.chg g ((A.pg g).edit t o ((A.pg g).bow t o) ((A.pg g).siz t o) (fun k => if k = i then c &&& 255 else (A.pg g).ent t o k))) else (-1, A)
def aOut (g t o i : Int32) (A : Bk) : Int32 × Bk := if inO A g t o ∧ inL ((A.pg g).siz t o) i then ((A.pg g).ent t o i, A.chg g ((A.pg g).edit t o ((A.pg g).bow t o) ((A.pg g).siz t o - 1) (rDel ((A.pg g).ent t o) i))) else (-1, A)
def aBowls (g t o b : Int32) (A : Bk) : Int32 × Bk := if inO A g t o then ((A.pg g).bow t o, A.chg g ((A.pg g).edit t o (b &&& 15) ((A.pg g).siz t o) ((A.pg g).ent t o))) else (-1, A)
def aOpen (g t o n : Int32) (A : Bk) : Int32 × Bk := if inO A g t o ∧ 0 ≤ n ∧ n ≤ 40 ∧ n ≤ A.taped then (1, (A.chg g ((A.pg g).edit t o ((A.pg g).bow t o) n A.tape)).sI 2 0) else (0, A)
theorem c_tear (r : CRp x h lb ad cp A) (ok : BkOK A) : Rn (F_X11_tear x g t o h) (fun q => q.1 = (aTear g t o A).1 ∧ Pst x h 0 0 (aTear g t o A).2 q.2) := by
  unfold F_X11_tear F_X5_isMissing aTear
  refine rn_o (c_overOf r g t o) (rn_bd (rn_bd ?_))
  dsimp only
  by_cases c : inO A g t o
  rotate_left
  · rw [if_neg c, if_neg (show ¬ (inO A g t o ∧ 0 ≤ (A.pg g).siz t o) from fun q => c q.1)]
    exact rn_s ⟨rfl, r.same _ _⟩
  rw [if_pos c]
  have v := (r.ov c).1
  refine rn_ck v.1 ?_
  rw [v.2.2.2.2.2.1]
  by_cases c2 : 0 ≤ (A.pg g).siz t o
  rotate_left
  · rw [if_neg c2, if_neg (show ¬ (inO A g t o ∧ 0 ≤ (A.pg g).siz t o) from fun q => c2 q.2)]
    exact rn_o rfl (rn_bd (rn_bd (rn_n (show ¬ (1 : Int32) = 0 by decide) (rn_s ⟨rfl, r.same _ _⟩))))
  rw [if_pos c2, if_pos (show inO A g t o ∧ 0 ≤ (A.pg g).siz t o from ⟨c, c2⟩)]
  refine rn_o rfl (rn_bd (rn_bd (rn_p rfl (rn_ck r.k0 ?_))))
  refine rn_c (c_keep r ok c) (fun h1 q => ?_)
  have v1 := q.ov r c
  refine rn_ck v1.1 (rn_bd (rn_s ⟨rfl, ?_⟩))
  refine c_editP r ok c q (frn_sF ⟨by omega, by omega⟩) (OvS.L v1.S (by rw [rF_sF, if_neg (by omega)]; exact v1.2.2.2.2.1) (if_pos ⟨rfl, rfl⟩) (fun i i0 i1 => ?_))
  exact absurd (i32_tr (show (-1 : Int32) ≤ 0 by decide) i0) (Int32.not_le.mpr i1)
theorem c_put (r : CRp x h lb ad cp A) (ok : BkOK A) {i cc : Int32} : Rn (F_X11_put x g t o i cc h) (fun q => q.1 = (aPut g t o i cc A).1 ∧ Pst x h 0 0 (aPut g t o i cc A).2 q.2) := by
  unfold F_X11_put F_X5_isMissing F_X5_isFull aPut
  refine rn_o (c_overOf r g t o) (rn_bd (rn_bd ?_))
  dsimp only
  by_cases c : inO A g t o
  rotate_left
  · rw [if_neg c, if_neg (show ¬ (inO A g t o ∧ 0 ≤ (A.pg g).siz t o ∧ 0 ≤ i ∧ i ≤ (A.pg g).siz t o ∧ (A.pg g).siz t o < 40) from fun q => c q.1)]
    exact rn_s ⟨rfl, r.same _ _⟩
  rw [if_pos c]
  have v := (r.ov c).1
  refine rn_ck v.1 ?_
  rw [v.2.2.2.2.2.1]
  by_cases c2 : 0 ≤ (A.pg g).siz t o
  rotate_left
  · rw [if_neg c2, if_neg (show ¬ (inO A g t o ∧ 0 ≤ (A.pg g).siz t o ∧ 0 ≤ i ∧ i ≤ (A.pg g).siz t o ∧ (A.pg g).siz t o < 40) from fun q => c2 q.2.1)]
    exact rn_o rfl (rn_bd (rn_bd (rn_n (show ¬ (1 : Int32) = 0 by decide) (rn_s ⟨rfl, r.same _ _⟩))))
  rw [if_pos c2]
  refine rn_o rfl (rn_bd (rn_bd (rn_p rfl (rn_i (fun c3 => ?_) (fun c3 => ?_)))))
  · rw [if_neg (show ¬ (inO A g t o ∧ 0 ≤ (A.pg g).siz t o ∧ 0 ≤ i ∧ i ≤ (A.pg g).siz t o ∧ (A.pg g).siz t o < 40) from fun q => absurd q.2.2.1 (Int32.not_le.mpr c3))]
    exact rn_s ⟨rfl, r.same _ _⟩
  refine rn_ck v.1 ?_
  rw [v.2.2.2.2.2.1]
  refine rn_i (fun c4 => ?_) (fun c4 => ?_)
  · rw [if_neg (show ¬ (inO A g t o ∧ 0 ≤ (A.pg g).siz t o ∧ 0 ≤ i ∧ i ≤ (A.pg g).siz t o ∧ (A.pg g).siz t o < 40) from fun q => absurd q.2.2.2.1 (Int32.not_le.mpr c4))]
    exact rn_s ⟨rfl, r.same _ _⟩
  by_cases c5 : (A.pg g).siz t o < 40
  rotate_left
  · rw [if_neg c5, if_neg (show ¬ (inO A g t o ∧ 0 ≤ (A.pg g).siz t o ∧ 0 ≤ i ∧ i ≤ (A.pg g).siz t o ∧ (A.pg g).siz t o < 40) from fun q => c5 q.2.2.2.2)]
    exact rn_o rfl (rn_bd (rn_bd (rn_n (show ¬ (1 : Int32) = 0 by decide) (rn_s ⟨rfl, r.same _ _⟩))))
  rw [if_pos c5, if_pos (show inO A g t o ∧ 0 ≤ (A.pg g).siz t o ∧ 0 ≤ i ∧ i ≤ (A.pg g).siz t o ∧ (A.pg g).siz t o < 40 from ⟨c, c2, Int32.not_lt.mp c3, Int32.not_lt.mp c4, c5⟩)]
  refine rn_o rfl (rn_bd (rn_bd (rn_p rfl (rn_ck r.k0 ?_))))
  refine rn_c (c_keep r ok c) (fun h1 q => ?_)
  have v1 := q.ov r c
  refine rn_ck v1.1 (rn_c (o_insert v1 c2 c5 (cc &&& 255) (Int32.not_lt.mp c3) (Int32.not_lt.mp c4)) (fun h2 w => rn_s ⟨rfl, c_editP r ok c q w.1 w.2⟩))
theorem c_mend (r : CRp x h lb ad cp A) (ok : BkOK A) {i cc : Int32} : Rn (F_X11_mend x g t o i cc h) (fun q => q.1 = (aMend g t o i cc A).1 ∧ Pst x h 0 0 (aMend g t o i cc A).2 q.2) := by
  unfold F_X11_mend aMend
  refine rn_o (c_overOf r g t o) (rn_bd (rn_bd ?_))
  dsimp only
  by_cases c : inO A g t o
  rotate_left
  · rw [if_neg c, if_neg (show ¬ (inO A g t o ∧ inL ((A.pg g).siz t o) i) from fun q => c q.1)]
    exact rn_s ⟨rfl, r.same _ _⟩
  rw [if_pos c]
  have v := (r.ov c).1
  have sz := (ok.ov c).2.1
  refine rn_ck v.1 (rn_o (o_has v sz.2 i) (rn_bd (rn_bd ?_)))
  dsimp only
  by_cases c2 : inL ((A.pg g).siz t o) i
  rotate_left
  · rw [if_neg c2, if_neg (show ¬ (inO A g t o ∧ inL ((A.pg g).siz t o) i) from fun q => c2 q.2)]
    exact rn_p rfl (rn_s ⟨rfl, r.same _ _⟩)
  rw [if_pos c2, if_pos (show inO A g t o ∧ inL ((A.pg g).siz t o) i from ⟨c, c2⟩)]
  refine rn_n (by decide) (rn_ck r.k0 (rn_c (c_keep r ok c) (fun h1 q => ?_)))
  have v1 := q.ov r c
  refine rn_ck v1.1 (rn_o (o_at v1 sz.2 i) (rn_bd (rn_bd (rn_ck v1.1 ?_))))
  obtain ⟨h', e1, r', f', -⟩ := o_set v1 sz.2 i (cc &&& 255) c2
  dsimp only
  rw [if_pos c2]
  exact rn_o e1 (rn_s ⟨rfl, c_editP r ok c q f' r'⟩)
theorem c_out (r : CRp x h lb ad cp A) (ok : BkOK A) {i : Int32} : Rn (F_X11_out x g t o i h) (fun q => q.1 = (aOut g t o i A).1 ∧ Pst x h 0 0 (aOut g t o i A).2 q.2) := by
  unfold F_X11_out aOut
  refine rn_o (c_overOf r g t o) (rn_bd (rn_bd ?_))
  dsimp only
  by_cases c : inO A g t o
  rotate_left
  · rw [if_neg c, if_neg (show ¬ (inO A g t o ∧ inL ((A.pg g).siz t o) i) from fun q => c q.1)]
    exact rn_s ⟨rfl, r.same _ _⟩
  rw [if_pos c]
  have v := (r.ov c).1
  have sz := (ok.ov c).2.1
  refine rn_ck v.1 (rn_o (o_has v sz.2 i) (rn_bd (rn_bd ?_)))
  dsimp only
  by_cases c2 : inL ((A.pg g).siz t o) i
  rotate_left
  · rw [if_neg c2, if_neg (show ¬ (inO A g t o ∧ inL ((A.pg g).siz t o) i) from fun q => c2 q.2)]
    exact rn_p rfl (rn_s ⟨rfl, r.same _ _⟩)
  rw [if_pos c2, if_pos (show inO A g t o ∧ inL ((A.pg g).siz t o) i from ⟨c, c2⟩)]
  refine rn_n (by decide) (rn_ck r.k0 (rn_c (c_keep r ok c) (fun h1 q => ?_)))
  have v1 := q.ov r c
  refine rn_ck v1.1 (rn_o (o_at v1 sz.2 i) (rn_bd (rn_bd (rn_ck v1.1 ?_))))
  dsimp only
  rw [if_pos c2]
  exact rn_c (o_remove v1 sz.2 c2) (fun h2 w => rn_s ⟨rfl, c_editP r ok c q w.1 w.2⟩)
theorem c_bowls (r : CRp x h lb ad cp A) (ok : BkOK A) {b : Int32} : Rn (F_X11_bowls x g t o b h) (fun q => q.1 = (aBowls g t o b A).1 ∧ Pst x h 0 0 (aBowls g t o b A).2 q.2) := by
  unfold F_X11_bowls aBowls
  refine rn_o (c_overOf r g t o) (rn_bd (rn_bd ?_))
  dsimp only
  by_cases c : inO A g t o
  rotate_left
  · rw [if_neg c, if_neg c]
    exact rn_s ⟨rfl, r.same _ _⟩
  rw [if_pos c, if_pos c]
  refine rn_ck r.k0 (rn_c (c_keep r ok c) (fun h1 q => ?_))
  have v1 := q.ov r c
  refine rn_ck v1.1 (rn_bd (rn_bd (rn_s ⟨v1.2.2.2.2.1, ?_⟩)))
  exact c_editP r ok c q (frn_sF ⟨by omega, by omega⟩) (OvS.L v1.S (if_pos ⟨rfl, rfl⟩) (by rw [rF_sF, if_neg (by omega)]; exact v1.2.2.2.2.2.1) (fun i i0 i1 => v1.2.2.2.2.2.2 i i0 i1))
/-- the tape is empty -/
theorem CRp.clr (r : CRp x h lb ad cp A) (c s : Nat) : Pst x h c s (A.sI 2 0) (sF h 101 (x + 3) 0) := by
  have F : frs (fun k => k = 3) x h (sF h 101 (x + 3) 0) := frs_sF rfl (by decide)
  have x0 : cel h (sF h 101 (x + 3) 0) x := cel_sF (by omega)
  refine r.fs (B := A.sI 2 0) F (fun k hk => by omega) (fun p => p.cg rfl (fun g _ => ⟨rfl, rfl, rfl, rfl⟩)) ?_ ((r.hc.mv (F.c (by omega)) (fun k a b => F.c (by omega))).cg rfl (fun _ _ => rfl)) ((r.pc.mv (x0.F _) (psOf_cl (fun b b0 b1 => F.2 b (fun k hk e => by omega)))).cg (fun g hg => ⟨hg, rfl⟩)) ?_ c s
  · obtain ⟨i1, i2, i3, i4, i5, i6, i7⟩ := r.ci
    have c1 := F.c (k := 1) (by omega)
    have c5 := F.c (k := 5) (by omega)
    have c6 := F.c (k := 6) (by omega)
    exact ⟨by rw [x0.F]; exact i1, by rw [x0.F]; exact i2, if_pos ⟨rfl, rfl⟩, by rw [c5.F]; exact i4, fun i hi => by rw [c1.A]; exact i5 i hi, fun i hi => absurd hi.1 (Int32.not_le.mpr hi.2), fun i hi => by rw [c6.A]; exact i7 i hi⟩
  · exact (r.rc.mv (x0.F _) (F.c (by omega))).cg rfl rfl rfl rfl rfl rfl rfl
theorem c_open58 (r : CRp x h lb ad cp A) (ok : BkOK A) (c : inO A g t o) {h1 : aH} (q : KeepQ x h A g t o h1) {n : Int32} (n1 : n ≤ 40) (nt : n ≤ A.taped) : ∀ m k, (n.toInt - k.toInt).toNat < m → ∀ h', 0 ≤ k → k ≤ n → frn (ad 3 g t o) 2 h1 h' → OvL h' (ad 3 g t o) ((A.pg g).bow t o) k A.tape → Rn (F_X11_open_58 m x n (ad 3 g t o) k h') (fun w => w.1 = 1 ∧ Pst x h 0 0 ((A.chg g ((A.pg g).edit t o ((A.pg g).bow t o) n A.tape)).sI 2 0) w.2) := by
  have hi := r.ov_hi c
  have fxk : ∀ h', frn (ad 3 g t o) 2 h1 h' → hK h' x = 13 ∧ hG h' 1202 x = some (x + 3) ∧ hK h' (x + 3) = 2 := by
    intro h' f
    have fx1 := r.fx.fs q.1 (fun k hk => by omega)
    exact ⟨by rw [f.1.K]; exact fx1.1.1, by rw [f.1.G]; exact fx1.1.2.2.2.1, by rw [f.1.K]; exact fx1.2.2.1.1⟩
  refine i32_up ?_ ?_
  · intro m k hc h' k0 kn f v
    have ek : k = n := Int32.le_antisymm kn hc
    subst ek
    obtain ⟨w1, w2, w3⟩ := fxk h' f
    unfold F_X11_open_58 F_X0_clear
    refine rn_p hc (rn_ck w1 (rn_o w2 (rn_ck w3 ?_)))
    rw [bd_e, Option.bind_some]
    obtain ⟨a1, a2, a3, a4⟩ := c_edit r ok c q f v
    obtain ⟨b1, b2, b3, b4⟩ := a1.clr 0 0
    exact rn_s ⟨rfl, b1, fun k k0 k1 => (a2 k k0 k1).trans (b2 k k0 k1), by dsimp only; omega, by dsimp only; omega⟩
  · intro m k hc ih h' k0 kn f v
    obtain ⟨w1, w2, w3⟩ := fxk h' f
    unfold F_X11_open_58
    have c3 : cel h h' (x + 3) := (q.1.c (by omega)).trans (cel_frn f (by omega))
    have c4 : cel h h' (x + 4) := (q.1.c (by omega)).trans (cel_frn f (by omega))
    have kt : inL A.taped k := ⟨k0, Int32.lt_of_lt_of_le hc nt⟩
    refine rn_n (Int32.not_le.mpr hc) (rn_ck w1 (rn_o w2 (rn_ck w3 (rn_o (b_at (h := h') (a := x + 3) (n := 6000) (m := A.taped) (f := A.tape) (r.fx.2.2.1.sc c3.scl c4.scl) (by rw [c3.F]; exact r.ci.2.2.1) (le_i ok.2.2.1.2 (by decide)) (fun i hi => by rw [c4.A]; exact r.ci.2.2.2.2.2.1 i hi) k) (rn_bd (rn_bd (rn_ck v.1 ?_)))))))
    dsimp only
    rw [if_pos kt]
    refine rn_c (o_insert v k0 (Int32.lt_of_lt_of_le hc n1) (A.tape k) k0 (Int32.le_refl _)) (fun h2 w => rn_bd (ih h2 (i32_ps k0 hc) ?_ (f.trans w.1) (w.2.cg (fun i i0 i1 => ?_))))
    · have := i32_succ hc
      have := Int32.lt_iff_toInt_lt.mp hc
      exact Int32.le_iff_toInt_le.mpr (by omega)
    · unfold rIns
      rcases (i32_ls hc).mp i1 with z | z
      · rw [if_pos z]
      · rw [if_neg (fun y => lt_ne y z), if_pos z, z]
theorem c_open (r : CRp x h lb ad cp A) (ok : BkOK A) {n : Int32} : Rn (F_X11_open x g t o n h) (fun q => q.1 = (aOpen g t o n A).1 ∧ Pst x h 0 0 (aOpen g t o n A).2 q.2) := by
  unfold F_X11_open aOpen
  refine rn_o (c_overOf r g t o) (rn_bd (rn_bd ?_))
  dsimp only
  by_cases c : inO A g t o
  rotate_left
  · rw [if_neg c, if_neg (show ¬ (inO A g t o ∧ 0 ≤ n ∧ n ≤ 40 ∧ n ≤ A.taped) from fun q => c q.1)]
    exact rn_s ⟨rfl, r.same _ _⟩
  rw [if_pos c]
  refine rn_i (fun c1 => ?_) (fun c1 => ?_)
  · rw [if_neg (show ¬ (inO A g t o ∧ 0 ≤ n ∧ n ≤ 40 ∧ n ≤ A.taped) from fun q => absurd q.2.1 (Int32.not_le.mpr c1))]
    exact rn_s ⟨rfl, r.same _ _⟩
  refine rn_i (fun c2 => ?_) (fun c2 => ?_)
  · rw [if_neg (show ¬ (inO A g t o ∧ 0 ≤ n ∧ n ≤ 40 ∧ n ≤ A.taped) from fun q => absurd q.2.2.1 (Int32.not_le.mpr c2))]
    exact rn_s ⟨rfl, r.same _ _⟩
  refine rn_ck r.k0 (rn_o r.fx.1.2.2.2.1 (rn_ck r.fx.2.2.1.1 ?_))
  rw [r.ci.2.2.1]
  refine rn_i (fun c3 => ?_) (fun c3 => ?_)
  rotate_left
  · rw [if_neg (show ¬ (inO A g t o ∧ 0 ≤ n ∧ n ≤ 40 ∧ n ≤ A.taped) from fun q => c3 q.2.2.2)]
    exact rn_s ⟨rfl, r.same _ _⟩
  have c1 := Int32.not_lt.mp c1
  have c2 := Int32.not_lt.mp c2
  rw [if_pos (show inO A g t o ∧ 0 ≤ n ∧ n ≤ 40 ∧ n ≤ A.taped from ⟨c, c1, c2, c3⟩)]
  refine rn_c (c_keep r ok c) (fun h1 q => ?_)
  have v1 := q.ov r c
  refine rn_ck v1.1 (rn_bd ?_)
  have := tI40 c2
  have z : (0 : Int32).toInt = 0 := by decide
  refine c_open58 r ok c q c2 c3 fu 0 (by show _ < 10000000; omega) _ (by decide) c1 (frn_sF ⟨by omega, by omega⟩) (OvS.L v1.S (by rw [rF_sF, if_neg (by omega)]; exact v1.2.2.2.2.1) (if_pos ⟨rfl, rfl⟩) (fun i i0 i1 => absurd i0 (Int32.not_le.mpr i1)))
end Ed
