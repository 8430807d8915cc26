/-! check and take on the class's side -/
theorem new_each (a b : Int32) : (Pg.new a b).each = b := rfl
section Jd
variable {x : Nat} {h0 h : aH} {lb0 lb : Nat → Lab} {ad0 cp0 ad cp : Adr} {A : Bk} {n : Int32}
/-- the reader's word where it is told by the field alone -/
theorem jd_fail {v w : Int32} (e : hF h 804 (x + 171) = w) (hK9 : hK h (x + 171) = 9) : ∃ h', F_X7_fail (x + 171) v h = some h' ∧ hF h' 804 (x + 171) = wf w v ∧ frs (fun k => k = 171) x h h' := by
  unfold F_X7_fail wf
  rw [e]
  by_cases c : w = -1
  · rw [if_pos c, if_pos c, bd_e]
    exact ⟨_, rfl, if_pos ⟨rfl, rfl⟩, frs_sF rfl (by decide)⟩
  · rw [if_neg c, if_neg c]
    exact ⟨h, rfl, e, frs.refl⟩
/-- what the comparison stands on -/
def CmQ (x : Nat) (hb h : aH) (lb : Nat → Lab) (ad cp : Adr) (g a b : Int32) (st : Int32 → Int32 → Int32) (G : Pg) (S : Ps) (sc : Int32 → Int32) (w : Int32) : Prop := FX x h ∧ (∀ b, b < x + 229 → (lb b).1 = 0) ∧ GmL h lb ad cp g a b st G ∧ psOf (x + 129) h = S ∧ (∀ q, inL G.turns q → rdA h (x + 172) q = sc q) ∧ hF h 804 (x + 171) = w ∧ frs (fun k => k = 171) x hb h
theorem CmQ.fs {hb h' : aH} {g a b : Int32} {st : Int32 → Int32 → Int32} {G : Pg} {S : Ps} {sc : Int32 → Int32} {w w' : Int32} (q : CmQ x hb h lb ad cp g a b st G S sc w) (F : frs (fun k => k = 171) x h h') (e : hF h' 804 (x + 171) = w') : CmQ x hb h' lb ad cp g a b st G S sc w' := ⟨q.1.fs F (fun k hk => by omega), q.2.1, gm_fs q.2.2.1 q.2.1 F (fun k hk => by omega), by rw [psOf_cl (fun b b0 b1 => F.2 b (fun k hk e => by omega))]; exact q.2.2.2.1, fun y hy => by rw [(F.c (by omega)).A]; exact q.2.2.2.2.1 y hy, e, q.2.2.2.2.2.2.trans F⟩
theorem jd_29 {hb : aH} {g a b : Int32} {st : Int32 → Int32 → Int32} {G : Pg} (ok : PgOK G) {S : Ps} {sc : Int32 → Int32} : ∀ k t, (G.turns.toInt - t.toInt).toNat < k → ∀ (h : aH) (w : Int32), 0 ≤ t → CmQ x hb h lb ad cp g a b st G S sc w → Rn (F_X7_compare_29 k (x + 171) (ad 1 g 0 0) (x + 129) t h) (fun h' => CmQ x hb h' lb ad cp g a b st G S sc (rCmp S G sc (G.turns.toInt - t.toInt).toNat t w)) := by
  refine i32_up ?_ ?_
  · intro k t hc h w t0 q
    rw [sub_none hc]
    unfold F_X7_compare_29
    have m := q.2.2.1
    exact rn_ck m.1.1 (rn_o (g_turnCount m) (rn_bd (rn_bd (rn_p hc (rn_s q)))))
  · intro k t hc ih h w t0 q
    rw [sub_succ hc]
    unfold F_X7_compare_29 F_X7_compare_112 rCmp
    have m := q.2.2.1
    have t4 : t < 4 := Int32.lt_of_lt_of_le hc ok.t4
    have PS1 : PSt (x + 129) h h S := ⟨q.1.2.2.2.2.2.1, frn.refl _ _ _, q.2.2.2.1⟩
    have ct : inL G.turns t := ⟨t0, hc⟩
    have mo := (ok.2.2.2 t t0 hc).1
    refine rn_ck m.1.1 (rn_o (g_turnCount m) (rn_bd (rn_bd (rn_n (Int32.not_le.mpr hc) (rn_n (Int32.not_le.mpr t4) (rn_ck q.1.2.2.2.2.2.1.1 (rn_o (c_tallyAt PS1.1 t) (rn_bd (rn_bd (rn_o rfl (rn_ck (PS1.KT t) (rn_bd (rn_ck m.1.1 (rn_o (g_overCountOf m t) (rn_bd (rn_bd ?_))))))))))))))))
    dsimp only
    rw [if_pos ct]
    refine rn_ck m.1.1 (rn_o (s_place m ok (i := -1) t0 (Int32.le_of_lt hc) (fun _ => Int32.le_refl _)) (rn_bd (rn_bd ?_)))
    dsimp only
    rw [(PS1.T t).score]
    have rd := q.1.2.2.2.2.2.2.2.1
    have I : hK h (x + 172) = 21 ∧ inR t (hN h (x + 172)) := ⟨rd.2.2.1, by rw [rd.2.2.2]; exact inR_of t0 (by
      have := Int32.lt_iff_toInt_lt.mp t4
      have : (4 : Int32).toInt = 4 := by decide
      omega)⟩
    have ev : hI h (x + 172) t.toNatClampNeg = sc t := by rw [← rdA_of t0]; exact q.2.2.2.2.1 t ct
    refine rn_ck rd.1 (rn_o rd.2.1 (rn_ck I ?_))
    rw [ev]
    refine rn_i (fun c1 => ?_) (fun c1 => ?_)
    · rw [if_pos c1]
      refine rn_o rd.2.1 (rn_ck I ?_)
      rw [ev]
      refine rn_i (fun c2 => ?_) (fun c2 => ?_)
      · rw [if_pos c2]
        exact rn_bd (ih h w (i32_ps t0 hc) q)
      · rw [if_neg c2]
        obtain ⟨h', e1, e2, e3⟩ := jd_fail (v := plc G t (G.many t) (-1) + 1) q.2.2.2.2.2.1 rd.1
        exact rn_o e1 (rn_bd (ih h' _ (i32_ps t0 hc) (q.fs e3 e2)))
    · rw [if_neg c1]
      obtain ⟨h', e1, e2, e3⟩ := jd_fail (v := plc G t (G.many t) (-1)) q.2.2.2.2.2.1 rd.1
      exact rn_o e1 (rn_bd (ih h' _ (i32_ps t0 hc) (q.fs e3 e2)))
theorem jd_cmp {hb : aH} {g a b : Int32} {st : Int32 → Int32 → Int32} {G : Pg} (ok : PgOK G) {s : Ps} {sc : Int32 → Int32} (q : CmQ x hb h lb ad cp g a b st G (s.play G) sc (-1)) : Rn (F_X7_compare (x + 171) (ad 1 g 0 0) (x + 129) h) (fun h' => CmQ x hb h' lb ad cp g a b st G (s.play G) sc (rRes (s.play G) G sc)) := by
  have z : (0 : Int32).toInt = 0 := by decide
  have T4 := le_i ok.t4 (by decide : (4 : Int32).toInt = 4)
  have PS1 : PSt (x + 129) h h (s.play G) := ⟨q.1.2.2.2.2.2.1, frn.refl _ _ _, q.2.2.2.1⟩
  have m := q.2.2.1
  have rd := q.1.2.2.2.2.2.2.2.1
  unfold F_X7_compare F_X7_compare_27 rRes
  refine rn_ck q.1.2.2.2.2.2.1.1 ?_
  rw [PS1.rule, PS1.bt, PS1.bo, PS1.be]
  refine rn_i (fun c => ?_) (fun c => ?_)
  · rw [if_pos c]
    have := jd_29 (hb := hb) ok fu 0 (by show _ < 10000000; omega) h (-1) (by decide) q
    rw [z, Int.sub_zero] at this
    exact this
  · rw [if_neg c]
    have pb := play_bad ok s c
    refine rn_ck m.1.1 (rn_o (s_place m ok pb.1.1 (Int32.le_of_lt pb.1.2) (fun _ => ?_)) (rn_bd (rn_bd ?_)))
    · rcases pb.2 with y | y
      · rw [y.1]
        exact i32_tr (by decide) (ok.2.2.2 _ pb.1.1 pb.1.2).1.1
      · exact Int32.le_of_lt y.1.2
    · dsimp only
      obtain ⟨h', e1, e2, e3⟩ := jd_fail (v := plc G (s.play G).bt (s.play G).bo (s.play G).be) q.2.2.2.2.2.1 rd.1
      rw [show wf (-1) (plc G (s.play G).bt (s.play G).bo (s.play G).be) = plc G (s.play G).bt (s.play G).bo (s.play G).be from if_pos rfl] at e2
      refine rn_ck rd.1 (rn_o e1 ?_)
      have := jd_29 (hb := hb) ok fu 0 (by show _ < 10000000; omega) h' _ (by decide) (q.fs e3 e2)
      rw [z, Int.sub_zero] at this
      exact this
/-- behind the reading of an image: what is wrong, the page, the book with its tape empty -/
def JdQ (x : Nat) (h : aH) (A : Bk) (n : Int32) (q : Option Nat × aH) : Prop := ∃ s lb' ad' cp', TyNs s ∧ q.1 = some (ad' 1 A.games 0 0) ∧ CRp x q.2 lb' ad' cp' (A.sI 2 0) ∧ hF q.2 804 (x + 171) = rWrong s n A ∧ GmL q.2 lb' ad' cp' A.games (rH2 A.tape n A.sides).1 (rH3 A.tape n A.sides).1 (rS2 A.tape n A).2 (rBody A.tape n A).2.1 ∧ (∀ k, 173 ≤ k → k < 229 → cel h q.2 (x + k)) ∧ (hz q.2 : Int) ≤ hz h + 28 + 2 * n.toInt ∧ (hs q.2 : Int) ≤ hs h + 518 + 26 * n.toInt
theorem rEnd_e (f : Int32 → Int32) (e : Int32) (A : Bk) : rEnd f e A = if (rBody f e A).1.2 = 0 ∧ (rBody f e A).1.1 < e then ((rBody f e A).1.1, 1) else (rBody f e A).1 := rfl
theorem c_judge (r : CRp x h lb ad cp A) (ok : BkOK A) (n0 : 0 ≤ n) (nt : n ≤ A.taped) : Rn (F_X11_judge x n h) (JdQ x h A n) := by
  unfold F_X11_judge F_X7_start
  have rd := r.fx.2.2.2.2.2.2.2.1
  refine rn_o r.fx.1.2.2.2.2.2.2.2.2 (rn_o r.fx.1.2.2.2.1 (rn_ck rd.1 ?_))
  rw [bd_e, bd_e, bd_e, bd_e, Option.bind_some]
  -- the reader at its start
  have E : ∀ f, sF (sF (sF (sG h 801 (x + 171) (some (x + 3))) 802 (x + 171) n) 803 (x + 171) 0) 804 (x + 171) (-1) = f → RdH x h f lb ad cp A n (0, 0) ∧ hz f = hz h ∧ hs f = hs h ∧ (∀ b, b ≠ x + 171 → cel h f b) := by
    rintro f rfl
    have co : ∀ b, b ≠ x + 171 → cel h (sF (sF (sF (sG h 801 (x + 171) (some (x + 3))) 802 (x + 171) n) 803 (x + 171) 0) 804 (x + 171) (-1)) b := fun b hb => (((cel_sG hb).trans (cel_sF hb)).trans (cel_sF hb)).trans (cel_sF hb)
    have zx := r.fx.2.2.2.2.2.2.2.2
    have kp : kpL lb (fun L => L.1 ≠ 0) h (sF (sF (sF (sG h 801 (x + 171) (some (x + 3))) 802 (x + 171) n) 803 (x + 171) 0) 804 (x + 171) (-1)) := ⟨Nat.le_refl _, rfl, fun b _ nb => co b (fun e => nb (r.pl.1 b (by omega)))⟩
    have fx : FX x (sF (sF (sF (sG h 801 (x + 171) (some (x + 3))) 802 (x + 171) n) 803 (x + 171) 0) 804 (x + 171) (-1)) := r.fx.mv (fun b b0 b1 _ => by
      by_cases e : b = x + 171
      · rw [e]
        refine ⟨rfl, rfl, fun _ => rfl, fun f n1 _ => ?_⟩
        show (if f = 801 ∧ x + 171 = x + 171 then some (x + 3) else hG h f (x + 171)) = _
        rw [if_neg (fun q => n1 q.1)]
      · exact (co b e).scl) (fun b hb f => (co b (by omega)).F f) (r.fx.2.2.2.2.2.1.cl (fun b b0 b1 => co b (by omega))) rfl (Nat.le_refl _)
    refine ⟨⟨fx, r.pl.to zx.2 (kp.wk (fun L hL => hL.1)) (co _ (by omega)) (fun _ _ => rfl) (fun _ _ _ _ _ => ⟨rfl, rfl⟩), fun k k0 k1 k2 => co _ (by omega), ⟨?_, if_pos ⟨rfl, rfl⟩⟩, ⟨fun _ => ⟨?_, if_pos ⟨rfl, rfl⟩⟩, fun z => absurd rfl z⟩, by show (0 : Int32) ≤ 0; decide, n0⟩, rfl, rfl, co⟩
    · rw [rF_sF, if_neg (by omega), rF_sF, if_neg (by omega), rF_sF, if_pos ⟨rfl, rfl⟩]
    · rw [rF_sF, if_neg (by omega), rF_sF, if_pos ⟨rfl, rfl⟩]
  obtain ⟨q7, z7, s7, o7⟩ := E _ rfl
  clear E
  generalize sF (sF (sF (sG h 801 (x + 171) (some (x + 3))) 802 (x + 171) n) 803 (x + 171) 0) 804 (x + 171) (-1) = h7 at *
  have es : hF h7 1208 x = A.sides := by rw [(o7 x (by omega)).F]; exact r.ci.1
  rw [es]
  refine rn_ck q7.1.1.1 (rn_o q7.1.1.2.2.2.2.2.2.2.2 (rn_o q7.1.1.2.1 (rn_ck (rd_k q7).2 (rn_c (rd_head r ok nt q7) ?_))))
  rintro ⟨o17, h16⟩ ⟨lb1, ad1, cp1, e1, q16, m16, z16, s16⟩
  dsimp only at e1 q16 m16 z16 s16
  refine rn_bd (rn_bd ?_)
  dsimp only
  rw [e1]
  refine rn_ck q16.1.1.1 (rn_o q16.1.1.2.2.2.2.2.2.2.2 (rn_o rfl (rn_ck (rd_k q16).2 ?_)))
  -- the turns
  have b2 := rTn_b A.tape n A
  have tb := rBody_ok A.tape n A
  refine rn_c (R := fun h' => TnQ x h h16 A n (rH2 A.tape n A.sides).1 (rH3 A.tape n A.sides).1 (rS2 A.tape n A).2 (ad1 1 A.games 0 0) (rTn A.tape n A).2.1.toInt 24 484 (rBody A.tape n A) h') ?_ ?_
  · unfold F_X7_readTurns
    refine rn_ck m16.1.1 ?_
    rw [m16.1.2.2.2.2.1, new_each]
    refine rn_c (rd_next r ok nt q16 (by decide) (2 * (rH5 A.tape n A.sides).1)) ?_
    rintro ⟨z4, h3⟩ ⟨w1, w2, w3⟩
    dsimp only at w1 w2 w3
    refine rn_bd (rn_bd ?_)
    dsimp only
    rw [← rTn_e] at w1 w2
    rw [w1, rBody_e]
    have z : (0 : Int32).toInt = 0 := by decide
    have tn4 := i32_tr b2.2.1 b2.2.2
    have tl := le_i tn4 (by decide : (4 : Int32).toInt = 4)
    have k := rd_14 r ok nt (a := (rH2 A.tape n A.sides).1) (b := (rH3 A.tape n A.sides).1) (st := (rS2 A.tape n A).2) tn4 (ga := ad1 1 A.games 0 0) (hB := h16) (pB := (rTn A.tape n A).2.1.toInt) fu 0 (by show _ < 10000000; omega) h3 lb1 ad1 cp1 (rTn A.tape n A).2 (Pg.new (rH4 A.tape n A.sides).1 (rH5 A.tape n A.sides).1) (fun _ => 0) (by decide) b2.1 w2 (gm_fs m16 q16.2.1.1 w3 (fun k hk => by omega)) rfl (fun y hy => absurd hy.1 (Int32.not_le.mpr hy.2)) rfl (by rw [w3.1.z]; omega) (by rw [w3.1.s]; omega)
    rw [z, Int.sub_zero] at k
    exact k
  rintro h26 ⟨lb2, ad2, cp2, q26, m26, sc26, g26, z26, s26⟩
  have pT := rTn_b A.tape n A
  -- the end
  refine rn_ck q26.1.1.1 (rn_o q26.1.1.2.2.2.2.2.2.2.2 (rn_ck (rd_k q26).2 ?_))
  refine rn_c (R := fun h' => RdH x h h' lb2 ad2 cp2 A n (rEnd A.tape n A) ∧ frs (fun k => k = 171) x h26 h') ?_ ?_
  · unfold F_X7_readEnd
    rw [rEnd_e]
    generalize rBody A.tape n A = u at *
    rw [q26.2.2.2.1.1]
    by_cases c : u.1.2 = 0
    · rw [(q26.2.2.2.2.1.1 c).1]
      refine rn_i (fun c2 => ?_) (fun c2 => ?_)
      · rw [if_neg (show ¬ (u.1.2 = 0 ∧ u.1.1 < n) from fun y => absurd y.2 (Int32.not_lt.mpr c2))]
        exact rn_s ⟨q26, frs.refl⟩
      · rw [if_pos ⟨c, Int32.not_le.mp c2⟩]
        obtain ⟨h', a1, a2, a3⟩ := rd_fail q26 (v := u.1.1) c q26.2.2.2.2.2
        exact rn_o a1 (rn_s ⟨a2, a3⟩)
    · rw [if_neg (show ¬ (u.1.2 = 0 ∧ u.1.1 < n) from fun y => c y.1)]
      refine rn_i (fun _ => rn_s ⟨q26, frs.refl⟩) (fun _ => rn_o (rd_failN q26 c) (rn_s ⟨q26, frs.refl⟩))
  rintro h33 ⟨q33, F33⟩
  -- the tape is empty
  unfold F_X0_clear
  refine rn_ck q33.1.1.1 (rn_o q33.1.1.2.2.2.1 (rn_ck q33.1.2.2.1.1 ?_))
  rw [bd_e, Option.bind_some]
  have F40 : frs (fun k => k = 3) x h33 (sF h33 101 (x + 3) 0) := frs_sF rfl (by decide)
  have e40 : hF (sF h33 101 (x + 3) 0) 101 (x + 3) = 0 := if_pos ⟨rfl, rfl⟩
  generalize sF h33 101 (x + 3) 0 = h40 at *
  have fx40 : FX x h40 := q33.1.fs F40 (fun k hk => by omega)
  have pl40 : PL x h40 lb2 ad2 cp2 (A.sI 2 0) := (q33.2.1.fs F40 (fun k hk => by omega)).cg rfl (fun g _ => ⟨rfl, rfl, rfl, rfl⟩)
  have o40 : ∀ k, k < 229 → k ≠ 3 → k ≠ 171 → k ≠ 172 → cel h h40 (x + k) := fun k a b c d => (q33.2.2.1 k a c d).trans (F40.c b)
  have m40 : GmL h40 lb2 ad2 cp2 A.games (rH2 A.tape n A.sides).1 (rH3 A.tape n A.sides).1 (rS2 A.tape n A).2 (rBody A.tape n A).2.1 := gm_fs (gm_fs m26 q26.2.1.1 F33 (fun k hk => by omega)) q26.2.1.1 F40 (fun k hk => by omega)
  have x40 := o40 0 (by omega) (by omega) (by omega) (by omega)
  have ci40 : CI x h40 (A.sI 2 0) := by
    obtain ⟨i1, i2, i3, i4, i5, i6, i7⟩ := r.ci
    have c1 := o40 1 (by omega) (by omega) (by omega) (by omega)
    have c5 := o40 5 (by omega) (by omega) (by omega) (by omega)
    have c6 := o40 6 (by omega) (by omega) (by omega) (by omega)
    exact ⟨(x40.F 1208).trans i1, (x40.F 1209).trans i2, e40, by rw [c5.F]; exact i4, fun i hi => by rw [c1.A]; exact i5 i hi, fun i hi => absurd hi.1 (Int32.not_le.mpr hi.2), fun i hi => by rw [c6.A]; exact i7 i hi⟩
  have hc40 : HC x h40 (A.sI 2 0) := (r.hc.mv (o40 7 (by omega) (by omega) (by omega) (by omega)) (fun k _ _ => o40 k (by omega) (by omega) (by omega) (by omega))).cg rfl (fun _ _ => rfl)
  have ps40 : psOf (x + 129) h40 = psOf (x + 129) h := psOf_cl (fun b b0 b1 => by
    have := o40 (b - x) (by omega) (by omega) (by omega) (by omega)
    rw [show x + (b - x) = b by omega] at this
    exact this)
  have pc40 : PC x h40 (A.sI 2 0) := (r.pc.mv (x40.F 1210) ps40).cg (fun g hg => ⟨hg, rfl⟩)
  have rc40 : RC x h40 (A.sI 2 0) := (r.rc.mv (x40.F 1211) (o40 168 (by omega) (by omega) (by omega) (by omega))).cg rfl rfl rfl rfl rfl rfl rfl
  have r40 : CRp x h40 lb2 ad2 cp2 (A.sI 2 0) := ⟨fx40, pl40, ci40, hc40, pc40, rc40⟩
  have zz40 : (hz h40 : Int) ≤ hz h + 28 + 2 * n.toInt ∧ (hs h40 : Int) ≤ hs h + 518 + 26 * n.toInt := by
    have a1 := Int32.le_iff_toInt_le.mp q26.2.2.2.2.2.2
    have a0 : 0 ≤ (rTn A.tape n A).2.1.toInt := by
      have : rIn n (rTn A.tape n A).2 := by
        rw [rTn_e]
        exact rNext_in q16.2.2.2.2.2
      have z : (0 : Int32).toInt = 0 := by decide
      have := Int32.le_iff_toInt_le.mp this.1
      omega
    rw [F40.1.z, F40.1.s, F33.1.z, F33.1.s]
    rw [z16, z7] at z26
    rw [s16, s7] at s26
    generalize (rBody A.tape n A).1.1.toInt = V1 at *
    generalize (rTn A.tape n A).2.1.toInt = V2 at *
    constructor
    · push_cast at z26
      omega
    · push_cast at s26
      omega
  have c171 : cel h33 h40 (x + 171) := F40.c (by omega)
  have rt : F_X7_isRight (x + 171) h40 = some (if (rEnd A.tape n A).2 = 0 then 1 else 0, h40) := by
    have := rd_right q33
    unfold F_X7_isRight at this ⊢
    rw [c171.F]
    generalize rEnd A.tape n A = u at *
    by_cases c : hF h33 804 (x + 171) = -1
    · rw [if_pos c] at this ⊢
      have := congrArg (fun o => o.map Prod.fst) this
      simp only [Option.map_some] at this
      rw [← Option.some.inj this]
    · rw [if_neg c] at this ⊢
      have := congrArg (fun o => o.map Prod.fst) this
      simp only [Option.map_some] at this
      rw [← Option.some.inj this]
  refine rn_ck fx40.1.1 (rn_o fx40.1.2.2.2.2.2.2.2.2 (rn_ck fx40.2.2.2.2.2.2.2.1.1 (rn_o rt (rn_bd (rn_bd ?_)))))
  dsimp only
  by_cases c : (rEnd A.tape n A).2 = 0
  rotate_left
  · rw [if_neg c]
    refine rn_p rfl (rn_s ⟨psOf (x + 129) h, lb2, ad2, cp2, tyN_ps _ _, by rw [g26], r40, ?_, m40, fun k k0 k1 => o40 k k1 (by omega) (by omega) (by omega), zz40⟩)
    show hF h40 804 (x + 171) = _
    rw [c171.F, q33.2.2.2.2.1.2 c]
    unfold rWrong
    rw [if_neg c]
  rw [if_pos c]
  refine rn_n (by decide) (rn_ck fx40.1.1 (rn_o fx40.1.2.2.2.2.2.2.1 (rn_ck fx40.2.2.2.2.2.1.1 ?_)))
  rw [← g26]
  refine rn_c (c_replayG fx40 m40 tb.1 pl40.1) (fun h56 w => ?_)
  obtain ⟨p1, p2, p3⟩ := w
  have k56 : hK h56 x = 13 := by rw [p2.1.K]; exact fx40.1.1
  refine rn_ck k56 (rn_bd ?_)
  have fP : frP x h40 (sF h56 1210 x (-1)) := ⟨p2.1.trans sst_sF, fun b b0 b1 => (cel_frn p2 (by omega)).trans (cel_sF b0), fun f n => by rw [rF_sF, if_neg (fun z => n z.1), (cel_frn p2 (by omega)).F]⟩
  have e10 : hF (sF h56 1210 x (-1)) 1210 x = -1 := if_pos ⟨rfl, rfl⟩
  have ps59 : psOf (x + 129) (sF h56 1210 x (-1)) = (psOf (x + 129) h).play (rBody A.tape n A).2.1 := by
    rw [psOf_cl (h := h56) (fun b b0 b1 => cel_sF (by omega)), p3, ps40]
  have r59 : CRp x (sF h56 1210 x (-1)) lb2 ad2 cp2 (A.sI 2 0) := r40.frP fP (p1.cl (fun b b0 b1 => cel_sF (by omega))) (PC.old e10)
  generalize sF h56 1210 x (-1) = h59 at *
  have m59 : GmL h59 lb2 ad2 cp2 A.games (rH2 A.tape n A.sides).1 (rH3 A.tape n A.sides).1 (rS2 A.tape n A).2 (rBody A.tape n A).2.1 := gm_frP m40 pl40.1 fP.1 (fun b hb => fP.2.1 b (by omega) (by omega))
  have w59 : hF h59 804 (x + 171) = -1 := by
    rw [(fP.2.1 _ (by omega) (by omega)).F, c171.F]
    exact (q33.2.2.2.2.1.1 c).2
  have cq : CmQ x h59 h59 lb2 ad2 cp2 A.games (rH2 A.tape n A.sides).1 (rH3 A.tape n A.sides).1 (rS2 A.tape n A).2 (rBody A.tape n A).2.1 ((psOf (x + 129) h).play (rBody A.tape n A).2.1) (rBody A.tape n A).2.2 (-1) := ⟨r59.fx, r59.pl.1, m59, ps59, fun y hy => by
    have c172 : cel h26 h59 (x + 172) := ((F33.c (by omega)).trans (F40.c (by omega))).trans (fP.2.1 _ (by omega) (by omega))
    rw [c172.A]
    exact sc26 y hy, w59, frs.refl⟩
  refine rn_o r59.fx.1.2.2.2.2.2.2.2.2 (rn_o r59.fx.1.2.2.2.2.2.2.1 (rn_ck r59.fx.2.2.2.2.2.2.2.1.1 (rn_c (jd_cmp tb.1 cq) (fun h67 v => rn_s ?_))))
  have F67 := v.2.2.2.2.2.2
  have x67 : cel h59 h67 x := F67.2 x (fun k hk e => by omega)
  refine ⟨psOf (x + 129) h, lb2, ad2, cp2, tyN_ps _ _, rfl, ⟨v.1, r59.pl.fs F67 (fun k hk => by omega), r59.ci.mv ⟨x67.F _, x67.F _⟩ (F67.c (by omega)) (F67.c (by omega)) (F67.c (by omega)) (F67.c (by omega)) (F67.c (by omega)), r59.hc.mv (F67.c (by omega)) (fun k _ _ => F67.c (by omega)), PC.old (by rw [x67.F]; exact e10), r59.rc.mv (x67.F _) (F67.c (by omega))⟩, ?_, v.2.2.1, fun k k0 k1 => ((o40 k k1 (by omega) (by omega) (by omega)).trans (fP.2.1 _ (by omega) (by omega))).trans (F67.c (by omega)), ?_⟩
  · show hF h67 804 (x + 171) = _
    rw [v.2.2.2.2.2.1]
    unfold rWrong
    rw [if_pos c]
  · show (hz h67 : Int) ≤ _ ∧ (hs h67 : Int) ≤ _
    rw [F67.1.z, F67.1.s, fP.1.z, fP.1.s]
    exact zz40
theorem c_check (r : CRp x h lb ad cp A) (ok : BkOK A) (n : Int32) : Rn (F_X11_check x n h) (fun q => ∃ s, TyNs s ∧ q.1 = (aCheck s n A).1 ∧ CR x q.2 (aCheck s n A).2 ∧ (∀ k, 173 ≤ k → k < 229 → cel h q.2 (x + k)) ∧ (hz q.2 : Int) + 2 * (aCheck s n A).2.taped.toInt ≤ hz h + 28 + 2 * A.taped.toInt ∧ (hs q.2 : Int) + 26 * (aCheck s n A).2.taped.toInt ≤ hs h + 1600 + 26 * A.taped.toInt) := by
  have z : (0 : Int32).toInt = 0 := by decide
  unfold F_X11_check
  have no : ¬ (0 ≤ n ∧ n ≤ A.taped) → Rn (some ((-1 : Int32), h)) (fun q => ∃ s, TyNs s ∧ q.1 = (aCheck s n A).1 ∧ CR x q.2 (aCheck s n A).2 ∧ (∀ k, 173 ≤ k → k < 229 → cel h q.2 (x + k)) ∧ (hz q.2 : Int) + 2 * (aCheck s n A).2.taped.toInt ≤ hz h + 28 + 2 * A.taped.toInt ∧ (hs q.2 : Int) + 26 * (aCheck s n A).2.taped.toInt ≤ hs h + 1600 + 26 * A.taped.toInt) := by
    intro nn
    refine rn_s ⟨psOf (x + 129) h, tyN_ps _ _, ?_⟩
    unfold aCheck
    rw [if_neg nn]
    exact ⟨rfl, ⟨lb, ad, cp, r⟩, fun _ _ _ => cel.refl _ _, by dsimp only; omega, by dsimp only; omega⟩
  refine rn_i (fun c => no (fun y => absurd y.1 (Int32.not_le.mpr c))) (fun c => rn_o r.fx.1.2.2.2.1 (rn_ck r.fx.2.2.1.1 ?_))
  rw [r.ci.2.2.1]
  refine rn_i (fun c2 => ?_) (fun c2 => no (fun y => c2 y.2))
  have n0 := Int32.not_lt.mp c
  refine rn_c (c_judge r ok n0 c2) ?_
  rintro ⟨o8, h7⟩ ⟨s, lb', ad', cp', s1, e1, r7, w7, m7, f7, z7, s7⟩
  dsimp only at e1 r7 w7 m7 f7 z7 s7
  refine rn_bd (rn_bd (rn_ck r7.k0 (rn_o r7.fx.1.2.2.2.2.2.2.2.2 (rn_ck r7.fx.2.2.2.2.2.2.2.1.1 (rn_s ⟨s, s1, ?_⟩)))))
  have c2' := Int32.le_iff_toInt_le.mp c2
  unfold aCheck
  rw [if_pos ⟨n0, c2⟩]
  have t0 : (A.sI 2 0).taped.toInt = 0 := z
  refine ⟨by show hF h7 804 (x + 171) + 1 = _; rw [w7], ⟨lb', ad', cp', r7⟩, f7, ?_, ?_⟩
  · show (hz h7 : Int) + 2 * (A.sI 2 0).taped.toInt ≤ _
    omega
  · show (hs h7 : Int) + 26 * (A.sI 2 0).taped.toInt ≤ _
    omega
theorem BkOK.tape0 (ok : BkOK A) : BkOK (A.sI 2 0) := ⟨ok.1, ok.2.1, ⟨by show (0 : Int32) ≤ 0; decide, by show (0 : Int32) ≤ 6000; decide⟩, ok.2.2.2.1, ok.2.2.2.2.1, fun i hi => absurd hi.1 (Int32.not_le.mpr hi.2), ok.2.2.2.2.2.2⟩
theorem c_take (r : CRp x h lb ad cp A) (ok : BkOK A) (n : Int32) : Rn (F_X11_take x n h) (fun q => ∃ s, TyNs s ∧ q.1 = (aTake s n A).1 ∧ CR x q.2 (aTake s n A).2 ∧ (∀ k, 173 ≤ k → k < 229 → cel h q.2 (x + k)) ∧ (hz q.2 : Int) + 2 * (aTake s n A).2.taped.toInt ≤ hz h + 29 + 2 * A.taped.toInt ∧ (hs q.2 : Int) + 26 * (aTake s n A).2.taped.toInt ≤ hs h + 1600 + 26 * A.taped.toInt) := by
  have z : (0 : Int32).toInt = 0 := by decide
  unfold F_X11_take
  have no : ¬ (0 ≤ n ∧ n ≤ A.taped ∧ A.games < 400) → Rn (some ((-1 : Int32), h)) (fun q => ∃ s, TyNs s ∧ q.1 = (aTake s n A).1 ∧ CR x q.2 (aTake s n A).2 ∧ (∀ k, 173 ≤ k → k < 229 → cel h q.2 (x + k)) ∧ (hz q.2 : Int) + 2 * (aTake s n A).2.taped.toInt ≤ hz h + 29 + 2 * A.taped.toInt ∧ (hs q.2 : Int) + 26 * (aTake s n A).2.taped.toInt ≤ hs h + 1600 + 26 * A.taped.toInt) := by
    intro nn
    refine rn_s ⟨psOf (x + 129) h, tyN_ps _ _, ?_⟩
    unfold aTake
    rw [if_neg nn]
    exact ⟨rfl, ⟨lb, ad, cp, r⟩, fun _ _ _ => cel.refl _ _, by dsimp only; omega, by dsimp only; omega⟩
  refine rn_i (fun c => no (fun y => absurd y.1 (Int32.not_le.mpr c))) (fun c => rn_o r.fx.1.2.2.2.1 (rn_ck r.fx.2.2.1.1 ?_))
  rw [r.ci.2.2.1]
  refine rn_i (fun c2 => no (fun y => absurd y.2.1 (Int32.not_le.mpr c2))) (fun c2 => rn_o r.fx.1.2.2.1 (rn_ck r.pl.2.1.1.1 (rn_o r.pl.2.1.size (rn_bd (rn_bd ?_)))))
  dsimp only
  refine rn_i (fun c3 => ?_) (fun c3 => no (fun y => c3 y.2.2))
  have n0 := Int32.not_lt.mp c
  have c2 := Int32.not_lt.mp c2
  have c2' := Int32.le_iff_toInt_le.mp c2
  refine rn_ck r.k0 (rn_c (c_judge r ok n0 c2) ?_)
  rintro ⟨o17, h16⟩ ⟨s, lb', ad', cp', s1, e1, r7, w7, m7, f7, z7, s7⟩
  dsimp only at e1 r7 w7 m7 f7 z7 s7
  have t0 : (A.sI 2 0).taped.toInt = 0 := z
  refine rn_bd (rn_bd ?_)
  dsimp only
  unfold F_X7_isRight
  refine rn_ck r7.k0 (rn_o r7.fx.1.2.2.2.2.2.2.2.2 (rn_ck r7.fx.2.2.2.2.2.2.2.1.1 ?_))
  rw [w7]
  have ea : aTake s n A = if rWrong s n A = -1 then (A.games, (A.sI 2 0).addG (rH2 A.tape n A.sides).1 (rH3 A.tape n A.sides).1 (rS2 A.tape n A).2 (rBody A.tape n A).2.1) else (-2 - rWrong s n A, A.sI 2 0) := by
    unfold aTake
    rw [if_pos ⟨n0, c2, c3⟩]
  by_cases cw : rWrong s n A = -1
  rotate_left
  · rw [if_neg cw, Option.bind_some]
    rw [if_neg cw] at ea
    refine rn_bd (rn_bd (rn_p rfl (rn_ck r7.k0 (rn_o r7.fx.1.2.2.2.2.2.2.2.2 (rn_ck r7.fx.2.2.2.2.2.2.2.1.1 (rn_s ⟨s, s1, ?_⟩))))))
    rw [ea]
    refine ⟨by show -2 - hF h16 804 (x + 171) = _; rw [w7], ⟨lb', ad', cp', r7⟩, f7, ?_, ?_⟩
    · show (hz h16 : Int) + 2 * (A.sI 2 0).taped.toInt ≤ _
      omega
    · show (hs h16 : Int) + 26 * (A.sI 2 0).taped.toInt ≤ _
      omega
  · rw [if_pos cw, Option.bind_some]
    rw [if_pos cw] at ea
    refine rn_bd (rn_bd (rn_n (show ¬ (1 : Int32) = 0 by decide) ?_))
    dsimp only
    rw [e1]
    refine rn_o rfl (rn_ck r7.k0 (rn_c (c_addGame (h0 := h) (A := A.sI 2 0) r7 ok.tape0 m7 c3) ?_))
    rintro ⟨z37, h36⟩ ⟨a1, a2, a3, a4, a5⟩
    dsimp only at a1 a2 a3 a4 a5
    refine rn_bd (rn_bd (rn_s ⟨s, s1, ?_⟩))
    rw [ea]
    refine ⟨a1, a2, fun k k0 k1 => (f7 k k0 k1).trans (a3 k k0 k1), ?_, ?_⟩
    · show (hz h36 : Int) + 2 * (A.sI 2 0).taped.toInt ≤ _
      omega
    · show (hs h36 : Int) + 26 * (A.sI 2 0).taped.toInt ≤ _
      omega
end Jd
