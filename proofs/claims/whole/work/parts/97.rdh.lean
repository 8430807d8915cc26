/-! The class's reader: players, the head -/
section Rd
variable {x : Nat} {h0 h : aH} {lb0 lb : Nat → Lab} {ad0 cp0 ad cp : Adr} {A : Bk} {n : Int32} {r : Rh}
theorem gm_st {g a b : Int32} {st st' : Int32 → Int32 → Int32} {G : Pg} {h' : aH} (m : GmL h lb ad cp g a b st G) (f : frn (ad 1 g 0 0 + 2) 1 h h') (fe : gv h' (ad 1 g 0 0 + 2) 2 11 = st') : GmL h' lb ad cp g a b st' G ∧ kpL lb (fun L => L ≠ (1, g, 0, 0)) h h' := by
  have kp : kpL lb (fun L => L ≠ (1, g, 0, 0)) h h' := ⟨by rw [f.1.z]; exact Nat.le_refl _, f.1.E, fun b hb q => cel_frn f (by
    have : b ≠ ad 1 g 0 0 + 2 := fun e => q (by rw [e]; exact m.2.2.2.1.2 2 (by decide))
    omega)⟩
  refine ⟨?_, kp⟩
  obtain ⟨r1, r2, r3, r4, r5, r6⟩ := m
  have co : ∀ i, i ≠ 2 → cel h h' (ad 1 g 0 0 + i) := fun i n => cel_frn f (by omega)
  have c0 : cel h h' (ad 1 g 0 0) := co 0 (by decide)
  refine ⟨by rw [c0.K, c0.F, c0.F, c0.F, c0.F, c0.G, c0.G]; exact r1, ⟨r2.1.mv f.1 (fun x => f.F (by omega) x), fe⟩, ?_, r4.mv (by rw [f.1.z]; exact Nat.le_refl _) (fun _ _ => rfl) rfl, r5, ?_⟩
  · exact r3.mv2 (by rw [f.1.z]; exact Nat.le_refl _) f.1.E (co 3 (by decide)) (fun hc => kp.2.2 _ r3.1.2.2.2.2 (by rw [r5 hc]; exact lab_k (by decide))) (fun i _ _ => by rw [f.1.K]) (fun _ _ _ => rfl)
  · intro t t0 t1
    exact (r6 t t0 t1).mv kp (fun _ _ => rfl) (lab_k (by decide)) (lab_k (by decide)) (fun o => lab_k (by decide)) rfl ⟨rfl, rfl⟩ (fun _ _ _ => rfl)
theorem gm_hi {g a b : Int32} {st : Int32 → Int32 → Int32} {G : Pg} (m : GmL h lb ad cp g a b st G) (lo : ∀ b, b < x + 229 → (lb b).1 = 0) : x + 229 ≤ ad 1 g 0 0 := Nat.le_of_not_lt (fun z => by
  have := lo _ z
  rw [show lb (ad 1 g 0 0) = (1, g, 0, 0) from m.2.2.2.1.2 0 (by decide)] at this
  exact absurd this (lab_1 (by decide)))
/-- a seat of the new game is another -/
theorem rd_st {a b : Int32} {st st' : Int32 → Int32 → Int32} {G : Pg} {h' : aH} (q : RdH x h0 h lb ad cp A n r) (m : GmL h lb ad cp A.games a b st G) (f : frn (ad 1 A.games 0 0 + 2) 1 h h') (fe : gv h' (ad 1 A.games 0 0 + 2) 2 11 = st') : RdH x h0 h' lb ad cp A n r ∧ GmL h' lb ad cp A.games a b st' G := by
  obtain ⟨m1, m2⟩ := gm_st m f fe
  have hi := gm_hi m q.2.1.1
  have lo : ∀ b, x ≤ b → b < x + 229 → cel h h' b := fun b _ hb => cel_frn f (by omega)
  refine ⟨q.to lo f.1.E (by rw [f.1.z]; exact Nat.le_refl _) (q.2.1.to q.z.1 (m2.wk (fun L hL e => ?_)) (lo _ (by omega) (by omega)) (fun _ _ => rfl) (fun _ _ _ _ _ => ⟨rfl, rfl⟩)), m1⟩
  rw [e] at hL
  rcases hL.2 with y | y
  · exact y rfl
  · exact absurd (show (1 : Nat) = 4 from y) (by decide)
theorem rd_30 {a b : Int32} {st : Int32 → Int32 → Int32} {G : Pg} {s m k p : Int32} (gk : gin 2 11 s k) {k3 : Nat → Nat → Int32 → Int32 → Int32 → aH → Option aH} {Q : aH → Prop} : ∀ j o, (k.toInt - o.toInt).toNat < j → ∀ (h : aH) (r : Rh), 0 ≤ o → RdH x h0 h lb ad cp A n r → GmL h lb ad cp A.games a b st G → (r.2 = 0 → 0 < r.1) → (∀ h', RdH x h0 h' lb ad cp A n (rDup st s p (k.toInt - o.toInt).toNat o r) → GmL h' lb ad cp A.games a b (gS 2 11 st s k p) G → hz h' = hz h ∧ hs h' = hs h → Rn (k3 (x + 171) (ad 1 A.games 0 0) s m (k + 1) h') Q) → Rn (F_X7_readPlayers_30 k3 j (x + 171) (ad 1 A.games 0 0) s m k p o h) Q := by
  refine i32_up ?_ ?_
  · intro j o hc h r o0 q gm hp K
    rw [sub_none hc] at K
    unfold F_X7_readPlayers_30
    refine rn_p hc (rn_ck gm.1.1 (rn_o gm.1.2.2.2.2.2.1 (rn_ck gm.2.1.1.1 ?_)))
    rw [gr_set gm.2.1.1 gix_2_11, if_pos gk, Option.bind_some]
    have f : frn (ad 1 A.games 0 0 + 2) 1 h (wrA h (ad 1 A.games 0 0 + 1 + 1) (s * 11 + k) p) := frn_wr ⟨by omega, by omega⟩
    have fe : gv (wrA h (ad 1 A.games 0 0 + 1 + 1) (s * 11 + k) p) (ad 1 A.games 0 0 + 2) 2 11 = gS 2 11 st s k p := by
      rw [show ad 1 A.games 0 0 + 1 + 1 = ad 1 A.games 0 0 + 2 from rfl, gv_set gix_2_11 gij_2_11 gk, gm.2.1.2]
    obtain ⟨w1, w2⟩ := rd_st q gm f fe
    exact rn_bd (K _ w1 w2 ⟨rfl, rfl⟩)
  · intro j o hc ih h r o0 q gm hp K
    rw [sub_succ hc] at K
    unfold F_X7_readPlayers_30 F_X7_readPlayers_59
    unfold rDup at K
    refine rn_n (Int32.not_le.mpr hc) (rn_ck gm.1.1 (rn_o (g_playerAt gm s o) (rn_bd (rn_bd ?_))))
    dsimp only
    refine rn_i (fun c => ?_) (fun c => ?_)
    · rw [if_pos c] at K
      obtain ⟨h', e1, e2, e3⟩ := rd_back q hp
      refine rn_ck (rd_k q).2 (rn_o e1 (rn_bd (ih h' _ (i32_ps o0 hc) e2 (gm_fs gm q.2.1.1 e3 (fun k hk => by omega)) ?_ ?_)))
      · unfold rFail
        intro z
        by_cases c2 : r.2 = 0
        · rw [if_pos c2] at z
          exact absurd z (by show ¬ (1 : Int32) = 0; decide)
        · rw [if_neg c2] at z
          exact absurd z c2
      · intro h'' w1 w2 w3
        exact K h'' w1 w2 ⟨w3.1.trans e3.1.z, w3.2.trans e3.1.s⟩
    · rw [if_neg c] at K
      exact rn_bd (ih h r (i32_ps o0 hc) q gm hp K)
theorem rd_3 (bb : CRp x h0 lb0 ad0 cp0 A) (ok : BkOK A) (nt : n ≤ A.taped) {a b : Int32} {G : Pg} {s m : Int32} (hs2 : inL 2 s) : ∀ j k, ((11 : Int32).toInt - k.toInt).toNat < j → ∀ (h : aH) (r : Rh) (st : Int32 → Int32 → Int32), 0 ≤ k → RdH x h0 h lb ad cp A n r → GmL h lb ad cp A.games a b st G → Rn (F_X7_readPlayers_3 j (x + 171) (ad 1 A.games 0 0) s m k h) (fun h' => RdH x h0 h' lb ad cp A n (rSts A.tape n m s ((11 : Int32).toInt - k.toInt).toNat k (r, st)).1 ∧ GmL h' lb ad cp A.games a b (rSts A.tape n m s ((11 : Int32).toInt - k.toInt).toNat k (r, st)).2 G ∧ hz h' = hz h ∧ hs h' = hs h) := by
  refine i32_up ?_ ?_
  · intro j k hc h r st k0 q gm
    rw [sub_none hc]
    unfold F_X7_readPlayers_3
    exact rn_p hc (rn_s ⟨q, gm, rfl, rfl⟩)
  · intro j k hc ih h r st k0 q gm
    rw [sub_succ hc]
    unfold F_X7_readPlayers_3 rSts
    obtain ⟨k1, k2⟩ := rd_k q
    refine rn_n (Int32.not_le.mpr hc) (rn_ck k2 (rn_o (rd_right q) (rn_bd (rn_bd ?_))))
    dsimp only
    by_cases c : r.2 = 0
    rotate_left
    · rw [if_neg c, if_neg c]
      exact rn_p rfl (rn_s ⟨q, gm, rfl, rfl⟩)
    rw [if_pos c, if_pos c]
    refine rn_n (by decide) (rn_ck k2 (rn_c (rd_next bb ok nt q (by decide) (m - 1)) ?_))
    rintro ⟨z11, h10⟩ ⟨w1, w2, w3⟩
    dsimp only at w1 w2 w3
    refine rn_bd (rn_bd ?_)
    dsimp only
    have z0 : (0 : Int32).toInt = 0 := by decide
    have h11 : (11 : Int32).toInt = 11 := by decide
    have kc := Int32.lt_iff_toInt_lt.mp hc
    rw [w1]
    refine rd_30 ⟨hs2.1, hs2.2, k0, hc⟩ fu 0 (by show _ < 10000000; omega) h10 _ (by decide) w2 (gm_fs gm q.2.1.1 w3 (fun k hk => by omega)) ?_ ?_
    · intro z
      have y := (rNext_lo (f := A.tape) (e := n) (lo := 0) (hi := m - 1) (r := r)).2 z
      rw [y.2.2.2.1]
      have := i32_succ y.2.2.1
      have := Int32.le_iff_toInt_le.mp q.2.2.2.2.2.1
      exact Int32.lt_iff_toInt_lt.mpr (by omega)
    · intro h' v1 v2 v3
      rw [z0, Int.sub_zero] at v1
      refine (ih h' _ _ (i32_ps k0 hc) v1 v2).imp ?_
      rintro h'' ⟨y1, y2, y3, y4⟩
      exact ⟨y1, y2, by rw [y3, v3.1, w3.1.z], by rw [y4, v3.2, w3.1.s]⟩
theorem rSts_bad (f : Int32 → Int32) {e m s : Int32} : ∀ n k (z : Rh × (Int32 → Int32 → Int32)), z.1.2 ≠ 0 → rSts f e m s n k z = z
  | 0, _, _, _ => rfl
  | n + 1, k, z, h => by
    unfold rSts
    rw [if_neg h]
/-- one side's players -/
theorem rd_side (bb : CRp x h0 lb0 ad0 cp0 A) (ok : BkOK A) (nt : n ≤ A.taped) {a b : Int32} {G : Pg} {s : Int32} (hs2 : inL 2 s) {r : Rh} {st : Int32 → Int32 → Int32} (q : RdH x h0 h lb ad cp A n r) (gm : GmL h lb ad cp A.games a b st G) {d : Int32} (ed : d = if s = 0 then a else b) (id : r.2 = 0 → inL A.sides d) {k80 : Nat → Nat → Nat → Int32 → aH → Option (Option Nat × aH)} {Q : Option Nat × aH → Prop}
    (K : ∀ h', RdH x h0 h' lb ad cp A n (rSts A.tape n (A.pl d) s 11 0 (r, st)).1 → GmL h' lb ad cp A.games a b (rSts A.tape n (A.pl d) s 11 0 (r, st)).2 G → hz h' = hz h ∧ hs h' = hs h → Rn (k80 (x + 171) (x + 1) (ad 1 A.games 0 0) (s + 1) h') Q) :
    Rn ((ck (hK h (ad 1 A.games 0 0) = 5)).bind fun _ => (F_X3_sideAt (ad 1 A.games 0 0) s h).bind fun q6 => bd q6.1 fun z5 => bd q6.2 fun h4 => if z5 < 0 then F_X7_readHead_119 k80 (x + 171) (x + 1) (ad 1 A.games 0 0) s (x + 171) (ad 1 A.games 0 0) s h4 else (ck (hK h4 (x + 1) = 21)).bind fun _ => if Int32.ofNat (hN h4 (x + 1)) ≤ z5 then F_X7_readHead_119 k80 (x + 171) (x + 1) (ad 1 A.games 0 0) s (x + 171) (ad 1 A.games 0 0) s h4 else (ck (hK h4 (x + 1) = 21 ∧ inR z5 (hN h4 (x + 1)))).bind fun _ => F_X7_readHead_120 k80 (x + 171) (x + 1) (ad 1 A.games 0 0) s (x + 171) (ad 1 A.games 0 0) s (hI h4 (x + 1) z5.toNatClampNeg) h4) Q := by
  refine rn_ck gm.1.1 (rn_o (g_sideAt gm s) (rn_bd (rn_bd ?_)))
  dsimp only
  rw [← ed]
  have main : ∀ m, (r.2 = 0 → m = A.pl d) → Rn (F_X7_readHead_120 k80 (x + 171) (x + 1) (ad 1 A.games 0 0) s (x + 171) (ad 1 A.games 0 0) s m h) Q := by
    intro m hm
    unfold F_X7_readHead_120 F_X7_readPlayers
    refine rn_ck (rd_k q).2 (rn_c (rd_3 bb ok nt (m := m) hs2 fu 0 (by decide) h r st (by decide) q gm) ?_)
    rintro h' ⟨w1, w2, w3, w4⟩
    rw [nz11] at w1 w2
    have em : rSts A.tape n m s 11 0 (r, st) = rSts A.tape n (A.pl d) s 11 0 (r, st) := by
      by_cases c : r.2 = 0
      · rw [hm c]
      · rw [rSts_bad _ _ _ _ c, rSts_bad _ _ _ _ c]
    rw [em] at w1 w2
    exact rn_bd (K h' w1 w2 ⟨w3, w4⟩)
  have p1 := q.1.2.1
  refine rn_i (fun c => ?_) (fun c => rn_ck p1.1 ?_)
  · unfold F_X7_readHead_119
    exact main 0 (fun z => absurd (id z).1 (Int32.not_le.mpr c))
  rw [p1.2]
  refine rn_i (fun c2 => ?_) (fun c2 => ?_)
  · unfold F_X7_readHead_119
    refine main 0 (fun z => absurd (Int32.lt_of_lt_of_le (id z).2 ok.1.2) (Int32.not_lt.mpr c2))
  · refine rn_ck ⟨p1.1, inR_of (Int32.not_lt.mp c) ?_⟩ (main _ (fun z => ?_))
    · have := Int32.lt_iff_toInt_lt.mp (Int32.not_le.mp c2)
      have e : (Int32.ofNat 60).toInt = 60 := by decide
      omega
    · have c1 := q.2.2.1 1 (by omega) (by omega) (by omega)
      rw [c1.I, ← rdA_of (id z).1]
      exact bb.ci.2.2.2.2.1 _ (id z)
def HdQ (x : Nat) (h0 h : aH) (A : Bk) (n : Int32) (q : Option Nat × aH) : Prop := ∃ lb' ad' cp', q.1 = some (ad' 1 A.games 0 0) ∧ RdH x h0 q.2 lb' ad' cp' A n (rS2 A.tape n A).1 ∧ GmL q.2 lb' ad' cp' A.games (rH2 A.tape n A.sides).1 (rH3 A.tape n A.sides).1 (rS2 A.tape n A).2 (Pg.new (rH4 A.tape n A.sides).1 (rH5 A.tape n A.sides).1) ∧ hz q.2 = hz h + 4 ∧ hs q.2 = hs h + 34
theorem lt_p1 {a s : Int32} (s0 : 0 ≤ s) (h : a ≤ s - 1) (h0 : 0 ≤ a) : a < s := by
  have z : (0 : Int32).toInt = 0 := by decide
  have := Int32.le_iff_toInt_le.mp h
  have := Int32.le_iff_toInt_le.mp h0
  have s0' := Int32.le_iff_toInt_le.mp s0
  by_cases c : 0 < s
  · have := i32_pred c
    exact Int32.lt_iff_toInt_lt.mpr (by omega)
  · have e := last_no s0 c
    rw [e] at h
    exact absurd (i32_tr h0 h) (by decide)
theorem rH2_e (f : Int32 → Int32) (e n : Int32) : rH2 f e n = rNext f e 0 (n - 1) (rH1 f e).2 := rfl
theorem rH3_e (f : Int32 → Int32) (e n : Int32) : rH3 f e n = rNext f e 0 (n - 1) (rH2 f e n).2 := rfl
theorem rH4_e (f : Int32 → Int32) (e n : Int32) : rH4 f e n = rNext f e 1 120 (if (rH3 f e n).1 = (rH2 f e n).1 then rFail (rH3 f e n).2 else (rH3 f e n).2) := rfl
theorem rH5_e (f : Int32 → Int32) (e n : Int32) : rH5 f e n = rNext f e 1 2 (rH4 f e n).2 := rfl
theorem rH_3 (f : Int32 → Int32) (e n : Int32) : (rH5 f e n).2.2 = 0 → (rH3 f e n).2.2 = 0 ∧ ¬ (rH3 f e n).1 = (rH2 f e n).1 := by
  intro z5
  rw [rH5_e] at z5
  have y5 := (rNext_lo.2 z5).2.1
  rw [rH4_e] at y5
  have y := (rNext_lo.2 y5).2.1
  generalize rH3 f e n = u at *
  generalize rH2 f e n = v at *
  by_cases c : u.1 = v.1
  · rw [if_pos c] at y
    unfold rFail at y
    by_cases c2 : u.2.2 = 0
    · rw [if_pos c2] at y
      exact absurd y (by show ¬ (1 : Int32) = 0; decide)
    · rw [if_neg c2] at y
      exact absurd y c2
  · rw [if_neg c] at y
    exact ⟨y, c⟩
/-- where all has been right, the sides are sides -/
theorem rH_sd (f : Int32 → Int32) (e : Int32) {n : Int32} (s0 : 0 ≤ n) : (rH5 f e n).2.2 = 0 → inL n (rH2 f e n).1 ∧ inL n (rH3 f e n).1 := by
  intro z5
  have y3b := (rH_3 f e n z5).1
  have l3 : 0 ≤ (rH3 f e n).1 := by rw [rH3_e]; exact rNext_lo.1
  have l2 : 0 ≤ (rH2 f e n).1 := by rw [rH2_e]; exact rNext_lo.1
  have k3 : (rH3 f e n).1 ≤ n - 1 ∧ (rH2 f e n).2.2 = 0 := by
    rw [rH3_e] at y3b ⊢
    have y := rNext_lo.2 y3b
    exact ⟨y.1, y.2.1⟩
  have k2 : (rH2 f e n).1 ≤ n - 1 := by
    have y := k3.2
    rw [rH2_e] at y ⊢
    exact (rNext_lo.2 y).1
  exact ⟨⟨l2, lt_p1 s0 k2 l2⟩, ⟨l3, lt_p1 s0 k3.1 l3⟩⟩
theorem rH3_p (f : Int32 → Int32) (e n : Int32) (h : rIn e (rH2 f e n).2) : (rH3 f e n).2.2 = 0 → 0 < (rH3 f e n).2.1 := by
  intro z
  rw [rH3_e] at z ⊢
  have y := rNext_lo.2 z
  rw [y.2.2.2.1]
  generalize rH2 f e n = u at *
  have := i32_succ y.2.2.1
  have := Int32.le_iff_toInt_le.mp h.1
  exact Int32.lt_iff_toInt_lt.mpr (by omega)
theorem pair_e {α β : Type} (p : α × β) : (p.1, p.2) = p := rfl
theorem rS1_e (f : Int32 → Int32) (e : Int32) (A : Bk) : rS1 f e A = rSts f e (A.pl (rH2 f e A.sides).1) 0 11 0 ((rH5 f e A.sides).2, seat0) := rfl
theorem rS2_e (f : Int32 → Int32) (e : Int32) (A : Bk) : rS2 f e A = rSts f e (A.pl (rH3 f e A.sides).1) 1 11 0 ((rS1 f e A).1, (rS1 f e A).2) := by
  rw [pair_e]
  unfold rS2
  rfl
theorem rS1_ok (A : Bk) (n : Int32) (sd : (rH5 A.tape n A.sides).2.2 = 0 → inL A.sides (rH2 A.tape n A.sides).1 ∧ inL A.sides (rH3 A.tape n A.sides).1) : (rS1 A.tape n A).1.2 = 0 → inL A.sides (rH3 A.tape n A.sides).1 := by
  intro z
  rw [rS1_e] at z
  generalize rH5 A.tape n A.sides = u at z sd
  by_cases c : u.2.2 = 0
  · exact (sd c).2
  · rw [rSts_bad A.tape 11 0 (u.2, seat0) c] at z
    exact absurd z c
theorem rd_head (bb : CRp x h0 lb0 ad0 cp0 A) (ok : BkOK A) (nt : n ≤ A.taped) (q : RdH x h0 h lb ad cp A n (0, 0)) : Rn (F_X7_readHead (x + 171) (x + 1) A.sides h) (HdQ x h0 h A n) := by
  unfold F_X7_readHead
  refine rn_c (rd_next bb ok nt q (by decide) 66) ?_
  rintro ⟨z3, h2⟩ ⟨a1, a2, a3⟩
  dsimp only at a1 a2 a3
  refine rn_bd (rn_bd ?_)
  dsimp only
  refine rn_ck (rd_k a2).2 (rn_c (rd_next bb ok nt a2 (by decide) (A.sides - 1)) ?_)
  rintro ⟨z8, h7⟩ ⟨b1, b2, b3⟩
  dsimp only at b1 b2 b3
  refine rn_bd (rn_bd ?_)
  dsimp only
  refine rn_ck (rd_k b2).2 (rn_c (rd_next bb ok nt b2 (by decide) (A.sides - 1)) ?_)
  rintro ⟨z13, h12⟩ ⟨c1, c2, c3⟩
  dsimp only at c1 c2 c3
  refine rn_bd (rn_bd ?_)
  dsimp only
  have F12 := (a3.trans b3).trans c3
  have e8 : z8 = (rH2 A.tape n A.sides).1 := b1
  have e13 : z13 = (rH3 A.tape n A.sides).1 := c1
  have c2 : RdH x h0 h12 lb ad cp A n (rH3 A.tape n A.sides).2 := c2
  -- the rest, from where the sides have been compared
  have rest : ∀ (h18 : aH), RdH x h0 h18 lb ad cp A n (if (rH3 A.tape n A.sides).1 = (rH2 A.tape n A.sides).1 then rFail (rH3 A.tape n A.sides).2 else (rH3 A.tape n A.sides).2) → frs (fun k => k = 171) x h h18 → Rn (F_X7_readHead_44 (x + 171) (x + 1) z8 z13 h18) (HdQ x h0 h A n) := by
    intro h18 d2 d3
    unfold F_X7_readHead_44
    refine rn_ck (rd_k d2).2 (rn_c (rd_next bb ok nt d2 (by decide) 120) ?_)
    rintro ⟨z4, h3⟩ ⟨f1, f2, f3⟩
    dsimp only at f1 f2 f3
    refine rn_bd (rn_bd ?_)
    dsimp only
    have e4 : z4 = (rH4 A.tape n A.sides).1 := f1
    have f2 : RdH x h0 h3 lb ad cp A n (rH4 A.tape n A.sides).2 := f2
    refine rn_ck (rd_k f2).2 (rn_c (rd_next bb ok nt f2 (by decide) 2) ?_)
    rintro ⟨z9, h8⟩ ⟨g1, g2, g3⟩
    dsimp only at g1 g2 g3
    refine rn_bd (rn_bd ?_)
    dsimp only
    have e9 : z9 = (rH5 A.tape n A.sides).1 := g1
    have g2 : RdH x h0 h8 lb ad cp A n (rH5 A.tape n A.sides).2 := g2
    have z8z := g2.z
    refine rn_bd (rn_bd (rn_ck (if_pos rfl) (rn_c (new_game z8z.2 z8 z13 z4 z9) (fun h15 w => ?_))))
    obtain ⟨lb1, ad1, cp1, m1, m2, m3⟩ := gm_new w lb ad cp A.games
    obtain ⟨w1, w2, w3, w4, -⟩ := w
    rw [e8, e13, e4, e9] at m1
    have F8 := (d3.trans f3).trans g3
    have q15 : RdH x h0 h15 lb1 ad1 cp1 A n (rH5 A.tape n A.sides).2 := by
      refine g2.to (fun b _ hb => w4 b (by omega)) w3 (by omega) ?_
      exact g2.2.1.to z8z.1 (m2.1.wk (fun L hL => by
        rcases hL.2 with y | y
        · exact Or.inl y
        · exact Or.inr (Or.inr y))) (w4 _ (by omega)) m2.2.1 m2.2.2
    rw [← m3]
    obtain ⟨n1, en1⟩ := fu1
    obtain ⟨n2, en2⟩ : ∃ n, n1 = n + 1 := ⟨9999998, by have : fu = 10000000 := rfl; omega⟩
    obtain ⟨n3, en3⟩ : ∃ n, n2 = n + 1 := ⟨9999997, by have : fu = 10000000 := rfl; omega⟩
    have s0 := ok.1.1
    have sd := rH_sd A.tape n s0
    rw [en1]
    unfold F_X7_readHead_80
    refine rn_n (by decide) (rd_side bb ok nt (s := 0) ⟨by decide, by decide⟩ q15 m1 (d := (rH2 A.tape n A.sides).1) (by rw [if_pos rfl]) (fun z => (sd z).1) ?_)
    intro h' v1 v2 v3
    rw [← rS1_e] at v1 v2
    rw [show (0 : Int32) + 1 = 1 from by decide, en2]
    unfold F_X7_readHead_80
    refine rn_n (by decide) (rd_side bb ok nt (s := 1) ⟨by decide, by decide⟩ v1 v2 (d := (rH3 A.tape n A.sides).1) (by rw [if_neg (by decide)]) (rS1_ok A n sd) ?_)
    intro h'' u1 u2 u3
    rw [← rS2_e] at u1 u2
    rw [show (1 : Int32) + 1 = 2 from by decide, en3]
    unfold F_X7_readHead_80
    refine rn_p (by decide) (rn_s ⟨lb1, ad1, cp1, rfl, u1, u2, ?_, ?_⟩)
    · show hz h'' = _
      rw [u3.1, v3.1, w1, F8.1.z]
    · show hs h'' = _
      rw [u3.2, v3.2, w2, F8.1.s]
  rw [e8, e13]
  refine rn_i (fun c => ?_) (fun c => ?_)
  · obtain ⟨h', r1, r2, r3⟩ := rd_back c2 (rH3_p A.tape n A.sides b2.2.2.2.2.2)
    have := rest h' (by rw [if_pos c]; exact r2) (F12.trans r3)
    rw [e8, e13] at this
    exact rn_ck (rd_k c2).2 (rn_o r1 this)
  · have := rest h12 (by rw [if_neg c]; exact c2) F12
    rw [e8, e13] at this
    exact this
end Rd
