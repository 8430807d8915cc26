/-! undo, feed, seat on the class's side -/
def aUndo (A : Bk) : Int32 × Bk := match A.hi with
  | [] => (-1, A)
  | (g, P) :: l => (g, (A.sP g P).sH l)
section Un
variable {x : Nat} {h : aH} {lb : Nat → Lab} {ad cp : Adr} {A : Bk}
theorem c_pop (fx : FX x h) (hc : HC x h A) : (A.hi = [] ∧ F_X2_pop (x + 7) h = some (none, h)) ∨ (∃ g P l, A.hi = (g, P) :: l ∧ Rn (F_X2_pop (x + 7) h) (fun q => ∃ j, j < 40 ∧ q.1 = some (x + 9 + 3 * j) ∧ frs (fun k => k = 7) x h q.2 ∧ hF q.2 301 (x + 7) = Int32.ofNat j ∧ hF q.2 302 (x + 7) = Int32.ofNat l.length ∧ HCr q.2 x j A.pg 0 A.hi)) := by
  obtain ⟨j, j1, j2, j3, j4, j5⟩ := hc
  obtain ⟨⟨a1, a2, a3, a4⟩, rg⟩ := fx.2.2.2.2.1
  cases hh : A.hi with
  | nil =>
    left
    refine ⟨rfl, ?_⟩
    unfold F_X2_pop
    rw [j3, hh, if_neg (by decide)]
  | cons q l =>
    right
    obtain ⟨g, P⟩ := q
    refine ⟨g, P, l, rfl, ?_⟩
    have ll : l.length + 1 ≤ 40 := by rw [hh] at j4; exact j4
    have e3 : hF h 302 (x + 7) = Int32.ofNat (l.length + 1) := by rw [j3, hh]; rfl
    have n3 := ofN_i (n := l.length + 1) (by omega)
    have z : (0 : Int32).toInt = 0 := by decide
    unfold F_X2_pop
    rw [e3, j2]
    refine rn_p (Int32.lt_iff_toInt_lt.mpr (by omega)) ?_
    have fin : ∀ n, n = Int32.ofNat j → Rn (F_X2_pop_28 (x + 7) (x + 7) n h) (fun q => ∃ j, j < 40 ∧ q.1 = some (x + 9 + 3 * j) ∧ frs (fun k => k = 7) x h q.2 ∧ hF q.2 301 (x + 7) = Int32.ofNat j ∧ hF q.2 302 (x + 7) = Int32.ofNat l.length ∧ HCr q.2 x j A.pg 0 ((g, P) :: l)) := by
      rintro n rfl
      unfold F_X2_pop_28
      have F7 : ∀ (hh : aH) (f : Nat) (v : Int32), f ≠ 500 ∧ f ≠ 501 → frs (fun k => k = 7) x hh (sF hh f (x + 7) v) := fun hh f v hf => frs_sF (k := 7) rfl hf
      refine rn_ck a1 (rn_bd (rn_ck a1 ?_))
      have e2 : hF (sF h 301 (x + 7) (Int32.ofNat j)) 302 (x + 7) - 1 = Int32.ofNat l.length := by
        rw [rF_sF, if_neg (by omega), e3, ← ofN_s]
        exact pred1
      rw [e2]
      have o7 : ∀ b, b ≠ x + 7 → cel h (sF (sF h 301 (x + 7) (Int32.ofNat j)) 302 (x + 7) (Int32.ofNat l.length)) b := fun b hb => (cel_sF hb).trans (cel_sF hb)
      have f1 : hF (sF (sF h 301 (x + 7) (Int32.ofNat j)) 302 (x + 7) (Int32.ofNat l.length)) 301 (x + 7) = Int32.ofNat j := by rw [rF_sF, if_neg (by omega), rF_sF, if_pos ⟨rfl, rfl⟩]
      have F2 : frs (fun k => k = 7) x h (sF (sF h 301 (x + 7) (Int32.ofNat j)) 302 (x + 7) (Int32.ofNat l.length)) := (F7 _ _ _ (by decide)).trans (F7 _ _ _ (by decide))
      refine rn_bd ?_
      rw [f1]
      refine rn_c (c_at j1 (fx.fs F2 (fun k hk => by omega))) ?_
      rintro _ rfl
      refine rn_bd (rn_bd (rn_s ⟨j, j1, rfl, F2, f1, if_pos ⟨rfl, rfl⟩, ?_⟩))
      rw [← hh]
      refine HCr.mv _ _ _ j5 (fun i' _ _ => ?_)
      have := slt_in (x := x) (i := i') j1
      exact ⟨o7 _ (by omega), o7 _ (by omega), o7 _ (by omega)⟩
    refine rn_i (fun c => ?_) (fun c => ?_)
    · refine fin _ ?_
      have := Int32.le_iff_toInt_le.mp c
      rw [ofN_i (by omega)] at this
      rw [show j = 39 by omega]
      rfl
    · refine fin _ ?_
      have := Int32.lt_iff_toInt_lt.mp (Int32.not_le.mp c)
      rw [ofN_i (by omega)] at this
      rw [show (j + 1) % 40 = j + 1 by omega, ← ofN_s]
      exact pred1
theorem kpL_frn {lo : Nat} {P : Lab → Prop} {h' : aH} (f : frn lo 2 h h') (n0 : ¬ P (lb lo)) (n1 : ¬ P (lb (lo + 1))) : kpL lb P h h' := ⟨by rw [f.1.z]; exact Nat.le_refl _, f.1.E, fun b _ q => cel_frn f (by
  have a0 : b ≠ lo := fun e => n0 (by rw [← e]; exact q)
  have a1 : b ≠ lo + 1 := fun e => n1 (by rw [← e]; exact q)
  omega)⟩
theorem c_takeBack {g sd0 sd1 : Int32} {st : Int32 → Int32 → Int32} {G : Pg} (r : GmL h lb ad cp g sd0 sd1 st G) (lo : ∀ b, b < x + 229 → (lb b).1 = 0) {a : Nat} (ax : x + 9 ≤ a ∧ a + 2 < x + 129) (k3 : hK h a = 3) (g3 : hG h 200 a = some (a + 1)) (s3 : OvS h (a + 1)) (c : cok h a G) : Rn (F_X3_takeBack (ad 1 g 0 0) a h) (fun h2 => GmL h2 lb ad cp g sd0 sd1 st (capp h a G) ∧ kpL lb (fun L => L.2.1 ≠ g ∨ L.1 = 0 ∨ L.1 = 4) h h2 ∧ hz h2 = hz h ∧ hs h2 = hs h) := by
  unfold F_X3_takeBack
  refine rn_ck k3 (rn_o (g_turnAt r _) (rn_bd (rn_bd ?_)))
  dsimp only
  rcases c with ⟨c1, c2, c3⟩ | ⟨c1, c2, c3⟩ | ⟨c1, c2, c3, c4, c5⟩
  · have z : (0 : Int32).toInt = 0 := by decide
    have c2' := Int32.lt_iff_toInt_lt.mp c2
    have pd := i32_pred c2
    have it : inL G.turns (hF h 203 a) := by
      rw [c3]
      exact ⟨Int32.le_iff_toInt_le.mpr (by omega), Int32.lt_iff_toInt_lt.mpr (by omega)⟩
    rw [if_pos it]
    have L := r.2.2.1
    refine rn_ck k3 (rn_p c1 (rn_ck r.1.1 (rn_o r.1.2.2.2.2.2.2 (rn_o r.1.2.2.2.2.2.2 (rn_ck L.1.1 (rn_o L.size (rn_bd (rn_bd (rn_ck L.1.1 ?_)))))))))
    refine rn_c (gm_subT r c2) ?_
    rintro ⟨o22, h21⟩ ⟨w1, w2, w3, w4⟩
    dsimp only at w1 w2 w3 w4 ⊢
    refine rn_bd (rn_bd (rn_s ⟨?_, w2.1, w3, w4⟩))
    unfold capp
    rw [if_pos c1]
    exact w1
  · rw [if_pos c2]
    refine rn_ck k3 (rn_n (by rw [c1]; decide) (rn_p c1 (rn_ck (r.in_t c2).1.1 ?_)))
    refine rn_c (gm_subO r c2 c3) (fun h27 w => rn_s ⟨?_, w.2.1.1, w.2.2.1, w.2.2.2⟩)
    unfold capp
    rw [c1, if_neg (by decide), if_pos rfl]
    exact w.1
  · rw [if_pos c2]
    have T := r.in_t c2
    refine rn_ck k3 (rn_n (by rw [c1]; decide) (rn_n (by rw [c1]; decide) (rn_ck T.1.1 (rn_o (t_overAt T _) (rn_bd (rn_bd ?_))))))
    dsimp only
    rw [if_pos c3]
    have V := r.in_o c2 c3
    have hi : x + 229 ≤ ad 3 g (hF h 203 a) (hF h 204 a) := Nat.le_of_not_lt (fun q => by
      have := lo _ q
      rw [show lb (ad 3 g (hF h 203 a) (hF h 204 a)) = (3, g, hF h 203 a, hF h 204 a) from V.2.2 0 (by decide)] at this
      exact absurd this (lab_1 (by decide)))
    have W : OvL h (a + 1) (hF h 601 (a + 1)) (hF h 602 (a + 1)) (rdA h (a + 1 + 1)) := s3.L rfl rfl (fun _ _ _ => rfl)
    refine rn_ck k3 (rn_o g3 (rn_ck V.1.1 ?_))
    refine rn_c (o_copy W ⟨c5, c4⟩ (by omega) V.1.S) (fun h40 w => rn_s ⟨?_, ?_, by rw [w.1.1.z], by rw [w.1.1.s]⟩)
    · unfold capp
      rw [c1, if_neg (by decide), if_neg (by decide)]
      refine gm_edit r c2 c3 (kpL_frn w.1 (fun q => q.1 (V.2.2 0 (by decide))) (fun q => q.1 (V.2.2 1 (by decide)))) w.2
    · refine kpL_frn w.1 (fun q => ?_) (fun q => ?_)
      · rw [show lb (ad 3 g (hF h 203 a) (hF h 204 a)) = (3, g, hF h 203 a, hF h 204 a) from V.2.2 0 (by decide)] at q
        rcases q with q | q | q
        · exact q rfl
        · exact absurd (show (3 : Nat) = 0 from q) (by decide)
        · exact absurd (show (3 : Nat) = 4 from q) (by decide)
      · rw [V.2.2 1 (by decide)] at q
        rcases q with q | q | q
        · exact q rfl
        · exact absurd (show (3 : Nat) = 0 from q) (by decide)
        · exact absurd (show (3 : Nat) = 4 from q) (by decide)
theorem cok_mv {h h' : aH} {a : Nat} {G : Pg} (r : cok h a G) (c0 : cel h h' a) (c1 : cel h h' (a + 1)) : cok h' a G := by
  unfold cok
  rw [c0.F, c0.F, c0.F, c1.F]
  exact r
theorem c_undo (r : CRp x h lb ad cp A) (ok : BkOK A) : Rn (F_X11_undo x h) (fun q => q.1 = (aUndo A).1 ∧ Pst x h 0 0 (aUndo A).2 q.2) := by
  unfold F_X11_undo
  refine rn_o r.fx.1.2.2.2.2.2.1 (rn_ck r.fx.2.2.2.2.1.1.1 ?_)
  rcases c_pop r.fx r.hc with ⟨e1, e2⟩ | ⟨g, P, l, e1, e2⟩
  · refine rn_o e2 (rn_bd (rn_bd (rn_s ?_)))
    unfold aUndo
    rw [e1]
    exact ⟨rfl, r.same _ _⟩
  · have hu : aUndo A = (g, (A.sP g P).sH l) := by unfold aUndo; rw [e1]
    rw [hu]
    refine rn_c e2 ?_
    rintro ⟨o6, h5⟩ ⟨j, jl, q1, F, q2, q3, q4⟩
    dsimp only at q1 F q2 q3 q4
    rw [e1] at q4
    obtain ⟨d1, d2, d3, d4⟩ := q4
    rw [slt0 jl] at d1 d2 d3
    have fx5 := r.fx.fs F (fun k hk => by omega)
    have pl5 := r.pl.fs F (fun k hk => by omega)
    obtain ⟨y1, ⟨y2, y3⟩, y4, y5, y6, y7⟩ := fx5.2.2.2.2.1.2 j jl
    have gg := ok.2.2.2.2.2.2.2.2 (g, P) (by rw [e1]; simp)
    have gm5 := pl5.2.2.2 g gg.1.1 gg.1.2
    refine rn_bd (rn_bd ?_)
    dsimp only
    rw [q1]
    have L5 := pl5.2.1
    refine rn_ck y2 (rn_ck fx5.1.1 ?_)
    rw [d1]
    have gA : F_X11_gameAt x g h5 = some (some (ad 1 g 0 0), h5) := by
      rw [p_gameAt fx5 pl5, if_pos gg.1]
    refine rn_o gA (rn_bd (rn_bd (rn_ck gm5.1.1 ?_)))
    refine rn_c (c_takeBack (x := x) gm5 pl5.1 ⟨by omega, by omega⟩ y2 y3 ⟨y4, y5, y6, y7⟩ d2) (fun h18 w => ?_)
    obtain ⟨w1, w2, w3, w4⟩ := w
    have zx := fx5.2.2.2.2.2.2.2.2
    have lo : ∀ b, b < x + 229 → cel h5 h18 b := fun b hb => w2.2.2 b (by omega) (Or.inr (Or.inl (pl5.1 b hb)))
    have k18 : hK h18 x = 13 := by rw [(lo x (by omega)).K]; exact fx5.1.1
    unfold F_X11_forgetPlay
    refine rn_ck k18 ?_
    rw [bd_e, bd_e, Option.bind_some]
    have F0 : ∀ (hh : aH) (f : Nat) (v : Int32), f ≠ 500 ∧ f ≠ 501 → frs (fun k => k = 0) x hh (sF hh f x v) := fun hh f v hf => frs_sF0 rfl hf
    have F2 : frs (fun k => k = 0) x h18 (sF (sF h18 1210 x (-1)) 1211 x 1) := (F0 _ _ _ (by decide)).trans (F0 _ _ _ (by decide))
    have f10 : hF (sF (sF h18 1210 x (-1)) 1211 x 1) 1210 x = -1 := by rw [rF_sF, if_neg (by omega), rF_sF, if_pos ⟨rfl, rfl⟩]
    have f11 : hF (sF (sF h18 1210 x (-1)) 1211 x 1) 1211 x = 1 := if_pos ⟨rfl, rfl⟩
    have fo : ∀ f, f ≠ 1210 → f ≠ 1211 → hF (sF (sF h18 1210 x (-1)) 1211 x 1) f x = hF h f x := fun f n1 n2 => by
      rw [rF_sF, if_neg (fun q => n2 q.1), rF_sF, if_neg (fun q => n1 q.1), (lo x (by omega)).F]
      exact (F.2 x (fun k hk e => by omega)).F f
    have zf : hz (sF (sF h18 1210 x (-1)) 1211 x 1) = hz h := by show hz h18 = _; rw [w3, F.1.z]
    have sf : hs (sF (sF h18 1210 x (-1)) 1211 x 1) = hs h := by show hs h18 = _; rw [w4, F.1.s]
    generalize sF (sF h18 1210 x (-1)) 1211 x 1 = h22 at *
    have c5 : ∀ k, k < 229 → k ≠ 0 → cel h5 h22 (x + k) := fun k hk n => (lo _ (by omega)).trans (F2.c (by omega))
    have ca := c5 (9 + 3 * j) (by omega) (by omega)
    rw [show x + (9 + 3 * j) = x + 9 + 3 * j by omega] at ca
    refine rn_ck (by rw [ca.K]; exact y2) (rn_s ⟨by rw [ca.F]; exact d1, ⟨lb, ad, cp, ?_, ?_, ?_, ?_, PC.old f10, RC.old f11⟩, fun k k0 k1 => (F.c (by omega)).trans (c5 k k1 (by omega)), by dsimp only; omega, by dsimp only; omega⟩)
    · have fx18 : FX x h18 := fx5.mv (fun b b0 b1 _ => (lo b (by omega)).scl) (fun b hb f => (lo b (by omega)).F f) (fx5.2.2.2.2.2.1.cl (fun b b0 b1 => lo b (by omega))) w2.2.1 w2.1
      exact fx18.fs F2 (fun k hk => by omega)
    · have p18 : PL x h18 lb ad cp ((A.sP g P).sH l) := by
        refine pl5.up (g := g) zx.2 (w2.wk (fun L hL => ?_)) (lo _ (by omega)) (fun _ _ => rfl) (fun _ _ _ _ _ => ⟨rfl, rfl⟩) rfl (fun _ => ?_) rfl (fun g' n => ⟨rfl, rfl, rfl, if_neg n⟩)
        · rcases hL.2 with q | q
          · exact Or.inl q
          · exact Or.inr (Or.inr q)
        · rw [show ((A.sP g P).sH l).pg g = P from if_pos rfl]
          exact d3.gm w1
      exact p18.fs F2 (fun k hk => by omega)
    · have ci5 : CI x h5 A := r.ci.mv ⟨(F.2 x (fun k hk e => by omega)).F _, (F.2 x (fun k hk e => by omega)).F _⟩ (F.c (by omega)) (F.c (by omega)) (F.c (by omega)) (F.c (by omega)) (F.c (by omega))
      have x5 := F.2 x (fun k hk e => by omega)
      exact ci5.mv ⟨by rw [fo _ (by decide) (by decide), x5.F], by rw [fo _ (by decide) (by decide), x5.F]⟩ (c5 1 (by omega) (by omega)) (c5 3 (by omega) (by omega)) (c5 4 (by omega) (by omega)) (c5 5 (by omega) (by omega)) (c5 6 (by omega) (by omega))
    · have c7 := c5 7 (by omega) (by omega)
      have ll : l.length + 1 ≤ 40 := by have := ok.2.2.2.2.2.2.2.1; rw [e1] at this; exact this
      refine ⟨(j + 39) % 40, Nat.mod_lt _ (by decide), ?_, by rw [c7.F]; exact q3, by show l.length ≤ 40; omega, ?_⟩
      · rw [c7.F, q2, show ((j + 39) % 40 + 1) % 40 = j by omega]
      · refine HCr.bk jl _ _ _ (by show 0 + l.length ≤ 40; omega) ?_
        refine HCr.mv _ _ _ d4 (fun i' _ _ => ?_)
        have := slt_in (x := x) (i := i') jl
        have cc : ∀ b, x + 9 ≤ b → b < x + 129 → cel h5 h22 b := fun b b0 b1 => by
          have := c5 (b - x) (by omega) (by omega)
          rw [show x + (b - x) = b by omega] at this
          exact this
        exact ⟨cc _ (by omega) (by omega), cc _ (by omega) (by omega), cc _ (by omega) (by omega)⟩
end Un
