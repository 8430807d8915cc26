/-! The class's reader -/
/-- the reader of the class stands at r: it reads n bytes of the tape of the book A that h0 holds -/
def RdH (x : Nat) (h0 h : aH) (lb : Nat → Lab) (ad cp : Adr) (A : Bk) (n : Int32) (r : Rh) : Prop := FX x h ∧ PL x h lb ad cp A ∧ (∀ k, k < 229 → k ≠ 171 → k ≠ 172 → cel h0 h (x + k)) ∧ (hF h 802 (x + 171) = n ∧ hG h 801 (x + 171) = some (x + 3)) ∧ ((r.2 = 0 → hF h 803 (x + 171) = r.1 ∧ hF h 804 (x + 171) = -1) ∧ (r.2 ≠ 0 → hF h 804 (x + 171) = r.1)) ∧ rIn n r
section Rd
variable {x : Nat} {h0 h : aH} {lb0 lb : Nat → Lab} {ad0 cp0 ad cp : Adr} {A : Bk} {n : Int32} {r : Rh}
theorem neg1 {v : Int32} (h : 0 ≤ v) : v ≠ -1 := fun e => by rw [e] at h; exact absurd h (by decide)
theorem rd_right (q : RdH x h0 h lb ad cp A n r) : F_X7_isRight (x + 171) h = some (if r.2 = 0 then 1 else 0, h) := by
  unfold F_X7_isRight
  by_cases c : r.2 = 0
  · rw [if_pos c, (q.2.2.2.2.1.1 c).2, if_pos rfl]
  · rw [if_neg c, q.2.2.2.2.1.2 c, if_neg (neg1 q.2.2.2.2.2.1)]
theorem rd_k (q : RdH x h0 h lb ad cp A n r) : hK h x = 13 ∧ hK h (x + 171) = 9 := ⟨q.1.1.1, q.1.2.2.2.2.2.2.2.1.1⟩
/-- only ints of the reader have changed -/
theorem RdH.fs {h' : aH} {r' : Rh} (q : RdH x h0 h lb ad cp A n r) (F : frs (fun k => k = 171) x h h') (e2 : hF h' 802 (x + 171) = n) (e3 : (r'.2 = 0 → hF h' 803 (x + 171) = r'.1 ∧ hF h' 804 (x + 171) = -1) ∧ (r'.2 ≠ 0 → hF h' 804 (x + 171) = r'.1)) (e4 : rIn n r') : RdH x h0 h' lb ad cp A n r' := ⟨q.1.fs F (fun k hk => by omega), q.2.1.fs F (fun k hk => by omega), fun k k0 k1 k2 => (q.2.2.1 k k0 k1 k2).trans (F.c (by omega)), ⟨e2, by rw [F.1.G]; exact q.2.2.2.1.2⟩, e3, e4⟩
theorem rd_fail (q : RdH x h0 h lb ad cp A n r) {v : Int32} (c : r.2 = 0) (v0 : 0 ≤ v ∧ v ≤ n) : ∃ h', F_X7_fail (x + 171) v h = some h' ∧ RdH x h0 h' lb ad cp A n (v, 1) ∧ frs (fun k => k = 171) x h h' := by
  have F : frs (fun k => k = 171) x h (sF h 804 (x + 171) v) := frs_sF rfl (by decide)
  refine ⟨sF h 804 (x + 171) v, ?_, ?_, F⟩
  · unfold F_X7_fail
    rw [(q.2.2.2.2.1.1 c).2, if_pos rfl, bd_e]
  · exact q.fs F (by rw [rF_sF, if_neg (by omega)]; exact q.2.2.2.1.1) ⟨fun z => absurd z (by show ¬ (1 : Int32) = 0; decide), fun _ => if_pos ⟨rfl, rfl⟩⟩ v0
theorem rd_failN (q : RdH x h0 h lb ad cp A n r) {v : Int32} (c : r.2 ≠ 0) : F_X7_fail (x + 171) v h = some h := by
  unfold F_X7_fail
  rw [q.2.2.2.2.1.2 c, if_neg (neg1 q.2.2.2.2.2.1)]
theorem rd_back (q : RdH x h0 h lb ad cp A n r) (p1 : r.2 = 0 → 0 < r.1) : ∃ h', F_X7_fail (x + 171) (hF h 803 (x + 171) - 1) h = some h' ∧ RdH x h0 h' lb ad cp A n (rFail r) ∧ frs (fun k => k = 171) x h h' := by
  unfold rFail
  by_cases c : r.2 = 0
  · rw [if_pos c, (q.2.2.2.2.1.1 c).1]
    have p := i32_pred (p1 c)
    have p' := Int32.lt_iff_toInt_lt.mp (p1 c)
    have z : (0 : Int32).toInt = 0 := by decide
    have i := Int32.le_iff_toInt_le.mp q.2.2.2.2.2.2
    exact rd_fail q c ⟨Int32.le_iff_toInt_le.mpr (by omega), Int32.le_iff_toInt_le.mpr (by omega)⟩
  · rw [if_neg c]
    exact ⟨h, rd_failN q c, q, frs.refl⟩
theorem rd_next (b : CRp x h0 lb0 ad0 cp0 A) (ok : BkOK A) (nt : n ≤ A.taped) (q : RdH x h0 h lb ad cp A n r) {lo : Int32} (l0 : 0 ≤ lo) (hi : Int32) : Rn (F_X7_next (x + 171) lo hi h) (fun w => w.1 = (rNext A.tape n lo hi r).1 ∧ RdH x h0 w.2 lb ad cp A n (rNext A.tape n lo hi r).2 ∧ frs (fun k => k = 171) x h w.2) := by
  unfold F_X7_next
  refine rn_o (rd_right q) (rn_bd (rn_bd ?_))
  dsimp only
  by_cases c : r.2 = 0
  rotate_left
  · rw [if_neg c, rNext_bad c]
    exact rn_p rfl (rn_s ⟨rfl, q, frs.refl⟩)
  rw [if_pos c]
  obtain ⟨e3, e4⟩ := q.2.2.2.2.1.1 c
  obtain ⟨e2, e1⟩ := q.2.2.2.1
  obtain ⟨k1, k2⟩ := rd_k q
  have bad : ¬ (r.1 < n ∧ lo ≤ A.tape r.1 ∧ A.tape r.1 ≤ hi) → Rn (F_X7_next_53 (x + 171) lo h) (fun w => w.1 = (rNext A.tape n lo hi r).1 ∧ RdH x h0 w.2 lb ad cp A n (rNext A.tape n lo hi r).2 ∧ frs (fun k => k = 171) x h w.2) := by
    intro nb
    have er : rNext A.tape n lo hi r = (lo, (r.1, 1)) := by
      unfold rNext
      rw [if_pos c, if_neg nb]
    rw [er]
    unfold F_X7_next_53
    refine rn_ck k2 ?_
    rw [e3]
    obtain ⟨h', a1, a2, a3⟩ := rd_fail q (v := r.1) c q.2.2.2.2.2
    exact rn_o a1 (rn_s ⟨rfl, a2, a3⟩)
  refine rn_n (by decide) (rn_ck k2 (rn_bd ?_))
  rw [e1]
  dsimp only
  rw [e2, e3]
  refine rn_i (fun c1 => ?_) (fun c1 => ?_)
  · unfold F_X7_next_42
    refine rn_p ?_ (bad (fun z => absurd z.1 (Int32.not_lt.mpr c1)))
    have z : (0 : Int32).toInt = 0 := by decide
    have m : (-1 : Int32).toInt = -1 := by decide
    have := Int32.le_iff_toInt_le.mp l0
    exact Int32.lt_iff_toInt_lt.mpr (by omega)
  · have c1 := Int32.not_le.mp c1
    have ct : inL A.taped r.1 := ⟨q.2.2.2.2.2.1, Int32.lt_of_lt_of_le c1 nt⟩
    have c3 := q.2.2.1 3 (by omega) (by omega) (by omega)
    have c4 := q.2.2.1 4 (by omega) (by omega) (by omega)
    have at' : F_X0_at (x + 3) r.1 h = some (A.tape r.1, h) := by
      rw [b_at (h := h) (a := x + 3) (n := 6000) (m := A.taped) (f := A.tape) q.1.2.2.1 (by rw [c3.F]; exact b.ci.2.2.1) (le_i ok.2.2.1.2 (by decide)) (fun i hi => by rw [c4.A]; exact b.ci.2.2.2.2.2.1 i hi) r.1, if_pos ct]
    refine rn_bd (rn_o rfl (rn_ck q.1.2.2.1.1 (rn_o at' (rn_bd (rn_bd ?_)))))
    unfold F_X7_next_42
    refine rn_i (fun c2 => bad (fun z => absurd z.2.1 (Int32.not_le.mpr c2))) (fun c2 => rn_i (fun c5 => ?_) (fun c5 => bad (fun z => c5 z.2.2)))
    have er : rNext A.tape n lo hi r = (A.tape r.1, (r.1 + 1, 0)) := by
      unfold rNext
      rw [if_pos c, if_pos ⟨c1, Int32.not_lt.mp c2, c5⟩]
    have ri := rNext_in (f := A.tape) (lo := lo) (hi := hi) q.2.2.2.2.2
    rw [er] at ri ⊢
    refine rn_ck k2 (rn_bd ?_)
    rw [e3]
    have F : frs (fun k => k = 171) x h (sF h 803 (x + 171) (r.1 + 1)) := frs_sF rfl (by decide)
    exact rn_s ⟨rfl, q.fs F (by rw [rF_sF, if_neg (by omega)]; exact e2) ⟨fun _ => ⟨if_pos ⟨rfl, rfl⟩, by rw [rF_sF, if_neg (by omega)]; exact e4⟩, fun z => absurd rfl z⟩ ri, F⟩
/-- a game that isn't in the book yet -/
theorem gm_fs {g a b : Int32} {st : Int32 → Int32 → Int32} {G : Pg} {h' : aH} {S : Nat → Prop} (m : GmL h lb ad cp g a b st G) (lo : ∀ b, b < x + 229 → (lb b).1 = 0) (F : frs S x h h') (hS : ∀ k, S k → k < 229) : GmL h' lb ad cp g a b st G := gm_frP m lo F.1 (fun b hb => F.2 b (fun k hk e => by have := hS k hk; omega))
/-! one over -/
/-- what the new over's cells are, and all else since hb -/
def OvQ (x : Nat) (hb h : aH) (v : Nat) : Prop := sst hb h ∧ ∀ b, b ≠ x + 171 → b ≠ v → b ≠ v + 1 → cel hb h b
theorem rd_36 (b : CRp x h0 lb0 ad0 cp0 A) (ok : BkOK A) (nt : n ≤ A.taped) {v a1 : Nat} {bw m : Int32} {hb : aH} (m40 : m ≤ 40) (vx : x + 229 ≤ v) (vz : ∀ b, (lb b).1 ≠ 0 → b < hz hb → b ≠ v ∧ b ≠ v + 1) {Q : aH → Prop} : ∀ k i, (m.toInt - i.toInt).toNat < k → ∀ (h : aH) (r : Rh) (s : Int32) (f : Int32 → Int32), 0 ≤ i → (i < m → s = i) → (s ≤ 40 ∧ -1 ≤ s) → RdH x h0 h lb ad cp A n r → OvL h v bw s f → OvQ x hb h v → (∀ h', RdH x h0 h' lb ad cp A n (rEnts A.tape n (m.toInt - i.toInt).toNat i (r, s, f)).1 → OvL h' v bw (rEnts A.tape n (m.toInt - i.toInt).toNat i (r, s, f)).2.1 (rEnts A.tape n (m.toInt - i.toInt).toNat i (r, s, f)).2.2 → OvQ x hb h' v → Rn (F_X7_readOver_70 a1 v h') Q) → Rn (F_X7_readOver_36 k (x + 171) a1 m v i h) Q := by
  refine i32_up ?_ ?_
  · intro k i hc h r s f i0 hs sb q o oq K
    rw [sub_none hc] at K
    unfold F_X7_readOver_36
    exact rn_p hc (K h q o oq)
  · intro k i hc ih h r s f i0 hs sb q o oq K
    rw [sub_succ hc] at K
    unfold rEnts at K
    unfold F_X7_readOver_36
    obtain ⟨k1, k2⟩ := rd_k q
    refine rn_n (Int32.not_le.mpr hc) (rn_ck k2 (rn_o (rd_right q) (rn_bd (rn_bd ?_))))
    dsimp only at K ⊢
    by_cases c : r.2 = 0
    rotate_left
    · rw [if_neg c] at K ⊢
      exact rn_p rfl (K h q o oq)
    rw [if_pos c] at K ⊢
    refine rn_n (by decide) (rn_ck k2 (rn_c (rd_next b ok nt q (by decide) 255) ?_))
    rintro ⟨z, h10⟩ ⟨w1, w2, w3⟩
    dsimp only at w1 w2 w3 ⊢
    have si := hs hc
    subst si
    have o10 : OvL h10 v bw s f := o.mv (w3.2 _ (fun k hk e => by omega)) (w3.2 _ (fun k hk e => by omega))
    have s40 : s < 40 := Int32.lt_of_lt_of_le hc m40
    refine rn_bd (rn_bd (rn_ck o10.1 (rn_c (o_insert o10 i0 s40 z i0 (Int32.le_refl _)) (fun h15 y => rn_bd ?_))))
    have q15 : RdH x h0 h15 lb ad cp A n (rNext A.tape n 0 255 r).2 := by
      have lo : ∀ b, b < x + 229 → cel h10 h15 b := fun b hb => cel_frn y.1 (by omega)
      have hiP : kpL lb (fun L => L.1 ≠ 0) h10 h15 := ⟨by rw [y.1.1.z]; exact Nat.le_refl _, y.1.1.E, fun b hb nl => cel_frn y.1 (by
        have := vz b nl (by rw [w3.1.z, oq.1.z] at hb; exact hb)
        omega)⟩
      refine ⟨w2.1.mv (fun b b0 b1 _ => (lo b (by omega)).scl) (fun b hb f => (lo b (by omega)).F f) (w2.1.2.2.2.2.2.1.cl (fun b b0 b1 => lo b (by omega))) y.1.1.E (by rw [y.1.1.z]; exact Nat.le_refl _), ?_, fun k k0 k1 k2 => (w2.2.2.1 k k0 k1 k2).trans (lo _ (by omega)), ?_, ?_, w2.2.2.2.2.2⟩
      · obtain ⟨r1, r2, r3, r4⟩ := w2.2.1
        refine ⟨r1, r2.mv2 hiP.1 hiP.2.1 (lo _ (by omega)) (fun hc => hiP.2.2 _ r2.1.2.2.2.2 (by rw [r3 hc]; decide)) (fun i i0 i1 => by rw [y.1.1.K]) (fun _ _ _ => rfl), r3, fun g g0 g1 => (r4 g g0 g1).mv hiP (fun _ _ => rfl) (fun k t o hk _ => by show k ≠ 0; omega) (fun _ _ _ _ _ => ⟨rfl, rfl⟩)⟩
      · have c171 := lo (x + 171) (by omega)
        exact ⟨by rw [c171.F]; exact w2.2.2.2.1.1, by rw [c171.G]; exact w2.2.2.2.1.2⟩
      · have c171 := lo (x + 171) (by omega)
        exact ⟨fun z => ⟨by rw [c171.F]; exact (w2.2.2.2.2.1.1 z).1, by rw [c171.F]; exact (w2.2.2.2.2.1.1 z).2⟩, fun z => by rw [c171.F]; exact w2.2.2.2.2.1.2 z⟩
    have s1 := i32_succ hc
    have s0' := Int32.le_iff_toInt_le.mp i0
    have z0 : (0 : Int32).toInt = 0 := by decide
    have sl := Int32.lt_iff_toInt_lt.mp s40
    have z40 : (40 : Int32).toInt = 40 := by decide
    have m1 : (-1 : Int32).toInt = -1 := by decide
    rw [w1] at y
    refine ih h15 _ (s + 1) _ (i32_ps i0 hc) (fun _ => rfl) ⟨Int32.le_iff_toInt_le.mpr (by omega), Int32.le_iff_toInt_le.mpr (by omega)⟩ q15 y.2 ⟨(oq.1.trans w3.1).trans y.1.1, fun b b0 b1 b2 => ((oq.2 b b0 b1 b2).trans (w3.2 b (fun k hk e => by omega))).trans (cel_frn y.1 (by omega))⟩ K
end Rd
