/-! The class's reader: all turns, the head, the end -/
theorem rOvs_turns (f : Int32 → Int32) {e t : Int32} : ∀ n (s : Rh × Pg), (rOvs f e t n s).2.turns = s.2.turns ∧ (rOvs f e t n s).2.ovs = s.2.ovs ∧ (rOvs f e t n s).2.each = s.2.each
  | 0, s => ⟨rfl, rfl, rfl⟩
  | n + 1, s => by
    unfold rOvs
    by_cases c : s.1.2 = 0
    · rw [if_pos c]
      exact rOvs_turns f n ((rOvE f e s.1).1, s.2.addO t (rOvB f e s.1).1 (rOvE f e s.1).2.1 (rOvE f e s.1).2.2)
    · rw [if_neg c]; exact ⟨rfl, rfl, rfl⟩
section Rd
variable {x : Nat} {h0 h : aH} {lb0 lb : Nat → Lab} {ad0 cp0 ad cp : Adr} {A : Bk} {n : Int32} {r : Rh}
/-- the scores' row -/
theorem RdH.sc {h' : aH} (q : RdH x h0 h lb ad cp A n r) (F : frs (fun k => k = 172) x h h') : RdH x h0 h' lb ad cp A n r := by
  have c171 : cel h h' (x + 171) := F.c (by omega)
  exact ⟨q.1.fs F (fun k hk => by omega), q.2.1.fs F (fun k hk => by omega), fun k k0 k1 k2 => (q.2.2.1 k k0 k1 k2).trans (F.c (by omega)), ⟨by rw [c171.F]; exact q.2.2.2.1.1, by rw [c171.G]; exact q.2.2.2.1.2⟩, ⟨fun z => ⟨by rw [c171.F]; exact (q.2.2.2.2.1.1 z).1, by rw [c171.F]; exact (q.2.2.2.2.1.1 z).2⟩, fun z => by rw [c171.F]; exact q.2.2.2.2.1.2 z⟩, q.2.2.2.2.2⟩
/-- behind the turns -/
def TnQ (x : Nat) (h0 hB : aH) (A : Bk) (n a b : Int32) (st : Int32 → Int32 → Int32) (ga : Nat) (pB : Int) (c0 s0 : Int) (z : Rh × Pg × (Int32 → Int32)) (h' : aH) : Prop := ∃ lb' ad' cp', RdH x h0 h' lb' ad' cp' A n z.1 ∧ GmL h' lb' ad' cp' A.games a b st z.2.1 ∧ (∀ q, inL z.2.1.turns q → rdA h' (x + 172) q = z.2.2 q) ∧ ad' 1 A.games 0 0 = ga ∧ (hz h' : Int) ≤ hz hB + c0 + 2 * (z.1.1.toInt - pB) ∧ (hs h' : Int) ≤ hs hB + s0 + 26 * (z.1.1.toInt - pB)
theorem rd_14 (bb : CRp x h0 lb0 ad0 cp0 A) (ok : BkOK A) (nt : n ≤ A.taped) {a b : Int32} {st : Int32 → Int32 → Int32} {tn : Int32} (tn4 : tn ≤ 4) {ga : Nat} {hB : aH} {pB : Int} : ∀ k t, (tn.toInt - t.toInt).toNat < k → ∀ (h : aH) (lb : Nat → Lab) (ad cp : Adr) (r : Rh) (G : Pg) (sc : Int32 → Int32), 0 ≤ t → t ≤ tn → RdH x h0 h lb ad cp A n r → GmL h lb ad cp A.games a b st G → G.turns = t → (∀ q, inL t q → rdA h (x + 172) q = sc q) → ad 1 A.games 0 0 = ga → ((hz h : Int) ≤ hz hB + 6 * t.toInt + 2 * (r.1.toInt - pB)) → ((hs h : Int) ≤ hs hB + 121 * t.toInt + 26 * (r.1.toInt - pB)) → Rn (F_X7_readTurns_14 k (x + 171) ga tn t h) (TnQ x h0 hB A n a b st ga pB 24 484 (rTurns0 A.tape n (tn.toInt - t.toInt).toNat t (r, G, sc))) := by
  have tb := le_i tn4 (by decide : (4 : Int32).toInt = 4)
  refine i32_up ?_ ?_
  · intro k t hc h lb ad cp r G sc t0 tt q gm et es eg c1 c2
    rw [sub_none hc]
    unfold F_X7_readTurns_14
    have := Int32.le_iff_toInt_le.mp tt
    refine rn_p hc (rn_s ⟨lb, ad, cp, q, gm, ?_, eg, ?_, ?_⟩)
    · intro q' hq
      have hq : inL G.turns q' := hq
      rw [et] at hq
      exact es q' hq
    · show (hz h : Int) ≤ hz hB + 24 + 2 * (r.1.toInt - pB)
      omega
    · show (hs h : Int) ≤ hs hB + 484 + 26 * (r.1.toInt - pB)
      omega
  · intro k t hc ih h lb ad cp r G sc t0 tt q gm et es eg c1 c2
    rw [sub_succ hc]
    unfold F_X7_readTurns_14 rTurns0
    obtain ⟨k1, k2⟩ := rd_k q
    have t4 : t < 4 := Int32.lt_of_lt_of_le hc tn4
    have tt' := Int32.le_iff_toInt_le.mp tt
    refine rn_n (Int32.not_le.mpr hc) (rn_n (Int32.not_le.mpr t4) (rn_ck k2 (rn_o (rd_right q) (rn_bd (rn_bd ?_)))))
    dsimp only
    by_cases c : r.2 = 0
    rotate_left
    · rw [if_neg c, if_neg c]
      refine rn_p rfl (rn_s ⟨lb, ad, cp, q, gm, ?_, eg, ?_, ?_⟩)
      · intro q' hq
        have hq : inL G.turns q' := hq
        rw [et] at hq
        exact es q' hq
      · show (hz h : Int) ≤ hz hB + 24 + 2 * (r.1.toInt - pB)
        omega
      · show (hs h : Int) ≤ hs hB + 484 + 26 * (r.1.toInt - pB)
        omega
    rw [if_pos c, if_pos c]
    have zq := q.z
    refine rn_n (by decide) (rn_bd (rn_bd (rn_ck (if_pos rfl) (rn_c (new_turn zq.2) (fun h13 nw => ?_)))))
    have gz := gm.2.2.2.1.1
    have gk : hK h13 ga = 5 := by
      rw [← eg, (nw.2.2.2.1 _ (by omega)).K]
      exact gm.1.1
    refine rn_ck gk ?_
    rw [← eg]
    refine rn_c (gm_addT gm nw zq.2 (by rw [et]; exact t4)) ?_
    rintro h17 ⟨lb', ad', cp', m1, m2, m3, m4, m5, m6, m7⟩
    have lo : ∀ b, x ≤ b → b < x + 229 → cel h h17 b := fun b b0 b1 => m2.1.2.2 b (by omega) (Or.inr (Or.inl (q.2.1.1 b b1)))
    have p17 : PL x h17 lb' ad' cp' A := q.2.1.to zq.1 (m2.1.wk (fun L hL => by
      rcases hL.2 with y | y
      · exact Or.inl y
      · exact Or.inr (Or.inr y))) (lo _ (by omega) (by omega)) m2.2.1 m2.2.2
    have q17 : RdH x h0 h17 lb' ad' cp' A n r := q.to lo m2.1.2.1 m2.1.1 p17
    obtain ⟨k1, k2⟩ := rd_k q17
    refine rn_ck k2 (rn_c (rd_next bb ok nt q17 (by decide) 130) ?_)
    rintro ⟨z22, h21⟩ ⟨w1, w2, w3⟩
    dsimp only at w1 w2 w3
    refine rn_bd (rn_bd ?_)
    dsimp only
    have m21 : GmL h21 lb' ad' cp' A.games a b st G.addT := gm_fs m1 p17.1 w3 (fun k hk => by omega)
    have zl : 0 ≤ z22 ∧ z22 ≤ 130 := by
      rw [w1]
      exact ⟨rNext_lo.1, rNext_hi (by decide)⟩
    have ts := i32_succ t4
    have t0' := Int32.le_iff_toInt_le.mp t0
    have z0 : (0 : Int32).toInt = 0 := by decide
    have zb := le_i zl.2 (by decide : (130 : Int32).toInt = 130)
    have ct : inL G.addT.turns t := ⟨t0, by show t < G.turns + 1; rw [et]; exact (i32_ls t4).mpr (Or.inr rfl)⟩
    have mt : G.addT.many t = 0 := by
      show (if t = G.turns then (0 : Int32) else G.many t) = 0
      rw [if_pos et.symm]
    have ge1 := rNext_ge A.tape (e := n) (lo := 0) (hi := 130) (r := r)
    rw [eg]
    have a2 : ad' 2 A.games t 0 = hz h := by rw [← et]; exact m4
    rw [← a2]
    refine rd_59 (hT := h21) (pT := (rNext A.tape n 0 130 r).2.1.toInt) bb ok nt zl.2 fu 0 (by show _ < 10000000; omega) h21 lb' ad' cp' _ G.addT 0 (by decide) zl.1 w2 m21 ct mt (by decide) rfl (m3.trans eg) ⟨Nat.le_refl _, by omega, ?_⟩ (cel.refl _ _) (fun _ => by omega) (by omega) ?_
    · rw [← et, m5]; omega
    intro h8 lb8 ad8 cp8 kk v1 v2 v3 v4 v6 v5
    rw [z0, Int.sub_zero, w1] at v1 v2 v5
    have v1 : RdH x h0 h8 lb8 ad8 cp8 A n (rT1 A.tape n t (r, G, sc)).1 := v1
    have v2 : GmL h8 lb8 ad8 cp8 A.games a b st (rT1 A.tape n t (r, G, sc)).2 := v2
    have v5 : 2 * (kk : Int) ≤ (rT1 A.tape n t (r, G, sc)).1.1.toInt - (rNext A.tape n 0 130 r).2.1.toInt + 2 := v5
    unfold F_X7_readTurns_85
    obtain ⟨k1, k2⟩ := rd_k v1
    refine rn_ck k2 (rn_c (rd_next bb ok nt v1 (by decide) 255) ?_)
    rintro ⟨z4, h3⟩ ⟨y1, y2, y3⟩
    dsimp only at y1 y2 y3
    refine rn_bd (rn_bd ?_)
    dsimp only
    obtain ⟨k1, k2⟩ := rd_k y2
    refine rn_ck k2 (rn_o y2.1.2.2.2.2.2.2.2.1.2.1 (rn_c (rd_next bb ok nt y2 (by decide) 255) ?_))
    rintro ⟨z11, h10⟩ ⟨u1, u2, u3⟩
    dsimp only at u1 u2 u3
    refine rn_bd (rn_bd ?_)
    dsimp only
    have rdr := u2.1.2.2.2.2.2.2.2.1
    refine rn_ck ⟨rdr.2.2.1, by rw [rdr.2.2.2]; exact inR_of t0 (by have := Int32.lt_iff_toInt_lt.mp t4; have : (4 : Int32).toInt = 4 := by decide
                                                                    omega)⟩ (rn_bd (rn_bd ?_))
    have Fs : frs (fun k => k = 172) x h10 (sI h10 (x + 172) t.toNatClampNeg (256 * z4 + z11)) := frs_sI rfl
    have Fa := y3.trans u3
    have mG : GmL (sI h10 (x + 172) t.toNatClampNeg (256 * z4 + z11)) lb8 ad8 cp8 A.games a b st (rT1 A.tape n t (r, G, sc)).2 := gm_fs (gm_fs v2 v1.2.1.1 Fa (fun k hk => by omega)) v1.2.1.1 Fs (fun k hk => by omega)
    have et2 : (rT1 A.tape n t (r, G, sc)).2.turns = t + 1 := by
      show (rOvs _ _ _ _ _).2.turns = _
      rw [(rOvs_turns _ _ _).1]
      show G.turns + 1 = _
      rw [et]
    have ge2 := rNext_ge A.tape (e := n) (lo := 0) (hi := 255) (r := (rT1 A.tape n t (r, G, sc)).1)
    have ge3 := rNext_ge A.tape (e := n) (lo := 0) (hi := 255) (r := (rT2 A.tape n t (r, G, sc)).2)
    have ge2 : (rT1 A.tape n t (r, G, sc)).1.1.toInt ≤ (rT2 A.tape n t (r, G, sc)).2.1.toInt := ge2
    have ge3 : (rT2 A.tape n t (r, G, sc)).2.1.toInt ≤ (rT3 A.tape n t (r, G, sc)).2.1.toInt := ge3
    have ge4 : (rNext A.tape n 0 130 r).2.1.toInt ≤ (rT1 A.tape n t (r, G, sc)).1.1.toInt := rOvs_ge A.tape _ _ (rNext_in q.2.2.2.2.2) (le_i (i32_tr nt ok.2.2.1.2) (by decide : (6000 : Int32).toInt = 6000))
    obtain ⟨o1, o2, o3⟩ := v4
    have e8 : hz (sI h10 (x + 172) t.toNatClampNeg (256 * z4 + z11)) = hz h8 := by show hz h10 = _; rw [u3.1.z, y3.1.z]
    have f8 : hs (sI h10 (x + 172) t.toNatClampNeg (256 * z4 + z11)) = hs h8 := by show hs h10 = _; rw [u3.1.s, y3.1.s]
    have e21 : hz h21 = hz h17 := w3.1.z
    have f21 : hs h21 = hs h17 := w3.1.s
    refine ih _ lb8 ad8 cp8 (rT3 A.tape n t (r, G, sc)).2 (rT1 A.tape n t (r, G, sc)).2 (fun q => if q = t then 256 * (rT2 A.tape n t (r, G, sc)).1 + (rT3 A.tape n t (r, G, sc)).1 else sc q) (i32_ps t0 hc) ?_ (u2.sc Fs) mG et2 ?_ v3 ?_ ?_
    · have := Int32.lt_iff_toInt_lt.mp hc
      exact Int32.le_iff_toInt_le.mpr (by omega)
    · intro q' hq
      rw [rdA_w t0 hq.1]
      have z4e : z4 = (rT2 A.tape n t (r, G, sc)).1 := y1
      have z11e : z11 = (rT3 A.tape n t (r, G, sc)).1 := u1
      by_cases e : q' = t
      · rw [if_pos e, if_pos e, z4e, z11e]
      · rw [if_neg e, if_neg e]
        have c172 : cel h h10 (x + 172) := (((lo _ (by omega) (by omega)).trans (w3.c (by omega))).trans v6).trans (Fa.c (by omega))
        rw [c172.A]
        exact es q' ⟨hq.1, ((i32_ls hc).mp hq.2).resolve_right e⟩
    · rw [e8]
      omega
    · rw [f8]
      omega
end Rd
