/-! image of the reference -/
def byt (s : Int32) : Prop := s / (256 : Int32) - s / (256 : Int32) / (256 : Int32) * (256 : Int32) = (s >>> ((8 : Int32) &&& (31 : Int32))) &&& (255 : Int32) ∧ s - s / (256 : Int32) * (256 : Int32) = s &&& (255 : Int32)
theorem and_256 : ∀ n, n < 256 → Int32.ofNat n &&& 255 = Int32.ofNat n := by decide +kernel
theorem shr8_i {s : Int32} : (s >>> ((8 : Int32) &&& (31 : Int32))).toInt = s.toInt / 256 := by
  rw [show (8 : Int32) &&& (31 : Int32) = 8 by decide]
  show (s >>> (8 : Int32)).toBitVec.toInt = _
  rw [Int32.toBitVec_shiftRight]
  show (s.toBitVec.sshiftRight' ((8 : Int32).toBitVec.smod 32)).toInt = _
  rw [show (8 : Int32).toBitVec.smod 32 = 8#32 by decide]
  rw [BitVec.sshiftRight_eq', BitVec.toInt_sshiftRight]
  rw [Int.shiftRight_eq_div_pow]
  rfl
theorem and255_i {s : Int32} (h0 : 0 ≤ s) : (s &&& (255 : Int32)).toInt = s.toInt % 256 := by
  have z : (0 : Int32).toInt = 0 := by decide
  have a : 0 ≤ s.toInt := by
    have := Int32.le_iff_toInt_le.mp h0
    omega
  have e1 : s.toInt = (s.toBitVec.toNat : Int) := by
    have c : s.toInt = _ := BitVec.toInt_eq_toNat_cond s.toBitVec
    have l := s.toBitVec.isLt
    by_cases q : 2 * s.toBitVec.toNat < 2 ^ 32
    · rw [if_pos q] at c; exact c
    · rw [if_neg q] at c
      omega
  have e2 : (s &&& (255 : Int32)).toBitVec.toNat = s.toBitVec.toNat % 256 := by
    show (s.toBitVec &&& 255#32).toNat = _
    rw [BitVec.toNat_and]
    exact Nat.and_two_pow_sub_one_eq_mod s.toBitVec.toNat 8
  have e3 : (s &&& (255 : Int32)).toInt = ((s &&& (255 : Int32)).toBitVec.toNat : Int) := BitVec.toInt_eq_toNat_of_lt (by rw [e2]; omega)
  rw [e3, e2, e1]
  omega
theorem byt_s {s : Int32} (h0 : 0 ≤ s) (h1 : s ≤ 40000) : byt s := by
  have z : (0 : Int32).toInt = 0 := by decide
  have a := Int32.le_iff_toInt_le.mp h0
  have b := le_i h1 (by decide : (40000 : Int32).toInt = 40000)
  have f : (256 : Int32).toInt = 256 := by decide
  have dv : ∀ x : Int32, 0 ≤ x.toInt → x.toInt ≤ 40000 → (x / (256 : Int32)).toInt = x.toInt / 256 := fun x x0 x1 => by
    rw [Int32.toInt_div, f, Int.tdiv_eq_ediv_of_nonneg x0]
    apply Int.bmod_eq_of_le <;> omega
  have ml : ∀ x : Int32, 0 ≤ x.toInt → x.toInt ≤ 40000 → (x * (256 : Int32)).toInt = x.toInt * 256 := fun x x0 x1 => by
    rw [Int32.toInt_mul, f]
    apply Int.bmod_eq_of_le <;> omega
  have sb : ∀ x y : Int32, 0 ≤ x.toInt → x.toInt ≤ 40000 → 0 ≤ y.toInt → y.toInt ≤ 40000 → (x - y).toInt = x.toInt - y.toInt := fun x y x0 x1 y0 y1 => by
    rw [Int32.toInt_sub]
    apply Int.bmod_eq_of_le <;> omega
  have d1 := dv s (by omega) (by omega)
  have d2 := dv (s / 256) (by omega) (by omega)
  have m1 := ml (s / 256) (by omega) (by omega)
  have m2 := ml (s / 256 / 256) (by omega) (by omega)
  have s1 := sb s (s / 256 * 256) (by omega) (by omega) (by omega) (by omega)
  have s2 := sb (s / 256) (s / 256 / 256 * 256) (by omega) (by omega) (by omega) (by omega)
  have sh := shr8_i (s := s)
  have n1 := and255_i h0
  have n2 := and255_i (s := s >>> ((8 : Int32) &&& (31 : Int32))) (Int32.le_iff_toInt_le.mpr (by omega))
  exact ⟨Int32.toInt_inj.mp (by omega), Int32.toInt_inj.mp (by omega)⟩
theorem and_v {v : Int32} (h0 : 0 ≤ v) (h1 : v ≤ 255) : v = v &&& 255 := by
  obtain ⟨n, hn, e⟩ := c256 h0 h1
  rw [e, and_256 n hn]
def Sy (e0 : mE) (k : Nat) (w : Wr) (e : mE) : Prop := (e.1 18 = Int32.ofNat k ∧ ∀ j, j ≠ 18 → e.1 j = e0.1 j) ∧ (∀ j, j ≠ 17 → ∀ i, e.2 j i = e0.2 j i) ∧ w.1 = Int32.ofNat k ∧ ∀ i, inL (Int32.ofNat k) i → i < 8000 → e.2 17 i = w.2 i
section Mim
variable {e0 e : mE} {A : Bk} {g : Int32}
theorem sy_say {k : Nat} {w : Wr} {v v' : Int32} (q : Sy e0 k w e) (hk : k ≤ 30000) (hv : v = v' &&& 255) : Rn (P_X12_say v e) (Sy e0 (k + 1) (wAdd v' w)) := by
  obtain ⟨⟨q1, q2⟩, q3, q4, q5⟩ := q
  unfold P_X12_say P_X12_say_20
  have kI := ofN_i (n := k) (by omega)
  have f8 : (8000 : Int32).toInt = 8000 := by decide
  have z : (0 : Int32).toInt = 0 := by decide
  have kl : Int32.ofNat k < 40000 := ofN_lt (m := 40000) (by omega) (by omega)
  rw [q1]
  have fin : ∀ E : mE, E.1 = e.1 → (∀ j, j ≠ 17 → ∀ i, E.2 j i = e.2 j i) → (∀ i, inL (Int32.ofNat (k + 1)) i → i < 8000 → E.2 17 i = (wAdd v' w).2 i) → Rn (bd (mS E 18 ((E.1 18) + 1)) fun e2 => some e2) (Sy e0 (k + 1) (wAdd v' w)) := fun E h1 h2 h3 => by
    refine rn_bd (rn_s ⟨⟨?_, fun j hj => ?_⟩, fun j hj i => (h2 j hj i).trans (q3 j hj i), ?_, h3⟩)
    · show E.1 18 + 1 = _
      rw [h1, q1, ofN_s]
    · show (if j = 18 then _ else E.1 j) = _
      rw [if_neg hj, h1]; exact q2 j hj
    · show w.1 + 1 = _
      rw [q4, ofN_s]
  refine rn_i (fun c => ?_) (fun c => ?_)
  · have ff := fin e rfl (fun _ _ _ => rfl)
    rw [q1] at ff
    refine ff (fun i hi i8 => ?_)
    have c' := Int32.le_iff_toInt_le.mp c
    have i8' := Int32.lt_iff_toInt_lt.mp i8
    have ik : i < Int32.ofNat k := Int32.lt_iff_toInt_lt.mpr (by omega)
    show _ = (if i = w.1 then v' &&& 255 else w.2 i)
    rw [q4, if_neg (lt_ne ik)]
    exact q5 i ⟨hi.1, ik⟩ i8
  · refine rn_ck ⟨ofN_0 (by omega), Int32.not_le.mp c⟩ (rn_bd (fin _ rfl (fun j hj i => mA_ne hj) (fun i hi i8 => ?_)))
    show _ = (if i = w.1 then v' &&& 255 else w.2 i)
    rw [mA_at, q4, hv]
    by_cases y : i = Int32.ofNat k
    · rw [if_pos y, if_pos y]
    · rw [if_neg y, if_neg y]
      rw [← ofN_s] at hi
      exact q5 i ⟨hi.1, ((i32_ls kl).mp hi.2).resolve_right y⟩ i8
theorem i_194 {t o R : Int32} {G : Pg} {Q : Int32 × mE → Prop} {k118 : Int32 → Int32 → mE → Option (Int32 × mE)} {k144 : Int32 → Int32 → Int32 → mE → Option (Int32 × mE)} (r0 : 0 ≤ R ∧ R < 6000) (hs : e0.2 13 R = G.siz t o) (s40 : G.siz t o ≤ 40) (he : ∀ i, inL (G.siz t o) i → e0.2 14 (40 * R + i) = G.ent t o i) (hb : ∀ i, inL (G.siz t o) i → 0 ≤ G.ent t o i ∧ G.ent t o i ≤ 255) : ∀ n i, ((G.siz t o).toInt - i.toInt).toNat < n → ∀ e k w, 0 ≤ i → Sy e0 k w e → k + ((G.siz t o).toInt - i.toInt).toNat ≤ 30000 → (∀ e', Sy e0 (k + ((G.siz t o).toInt - i.toInt).toNat) (wEnt G t o ((G.siz t o).toInt - i.toInt).toNat i w) e' → Rn (k144 g t (o + 1) e') Q) → Rn (P_X12_image_194 k118 k144 n g t o R i e) Q := by
  refine i32_up ?_ ?_
  · intro n i hc e k w i0 S hk K
    unfold P_X12_image_194
    rw [S.2.1 13 (by decide), hs]
    rw [sub_none hc] at K
    exact rn_ck r0 (rn_p hc (rn_bd (K e S)))
  · intro n i hc ih e k w i0 S hk K
    unfold P_X12_image_194
    rw [S.2.1 13 (by decide), hs, S.2.1 14 (by decide), he i ⟨i0, hc⟩]
    have i40 := inL40 s40 (show inL (G.siz t o) i from ⟨i0, hc⟩)
    rw [sub_succ hc] at hk K
    refine rn_ck r0 (rn_n (Int32.not_le.mpr hc) (rn_ck (ix40 r0 i40.1 i40.2) (rn_c (sy_say S (by omega) (and_v (hb i ⟨i0, hc⟩).1 (hb i ⟨i0, hc⟩).2)) (fun e1 S1 => rn_bd (ih e1 (k + 1) _ (i32_ps i0 hc) S1 (by omega) (fun e' S' => K e' ?_))))))
    rw [show k + (((G.siz t o).toInt - (i + 1).toInt).toNat + 1) = k + 1 + ((G.siz t o).toInt - (i + 1).toInt).toNat by omega]
    exact S'
/-- what the book tells of the game, in the cells -/
def ImR (e0 : mE) (g : Int32) (G : Pg) (S : Ps) : Prop := (0 ≤ g ∧ g < 400) ∧ e0.2 8 g = G.turns ∧ PgOK G ∧ ∀ t, inL G.turns t → (e0.2 9 (4 * g + t) = G.many t ∧ e0.2 35 t = (S.ty t).score ∧ 0 ≤ (S.ty t).score ∧ (S.ty t).score ≤ 40000) ∧ ∀ o, inL (G.many t) o → (0 ≤ rwT e0 g t o ∧ rwT e0 g t o < 6000) ∧ e0.2 12 (rwT e0 g t o) = G.bow t o ∧ e0.2 13 (rwT e0 g t o) = G.siz t o ∧ ∀ i, inL (G.siz t o) i → e0.2 14 (40 * rwT e0 g t o + i) = G.ent t o i
theorem i_144 {t : Int32} {G : Pg} {S : Ps} {Q : Int32 × mE → Prop} {k118 : Int32 → Int32 → mE → Option (Int32 × mE)} (I : ImR e0 g G S) (ct : inL G.turns t) : ∀ n o, ((G.many t).toInt - o.toInt).toNat < n → ∀ e k w, 0 ≤ o → Sy e0 k w e → k + nOvs G t ((G.many t).toInt - o.toInt).toNat o + 2 ≤ 30000 → (∀ e', Sy e0 (k + nOvs G t ((G.many t).toInt - o.toInt).toNat o + 2) (wAdd (S.ty t).score (wAdd ((S.ty t).score >>> (8 &&& 31)) (wOvs G t ((G.many t).toInt - o.toInt).toNat o w))) e' → Rn (k118 g (t + 1) e') Q) → Rn (P_X12_image_144 k118 n g t o e) Q := by
  obtain ⟨g0, h8, ok, I⟩ := I
  obtain ⟨⟨m9, sc, sc0, sc1⟩, I⟩ := I t ct
  have t4 : t < 4 := Int32.lt_of_lt_of_le ct.2 ok.t4
  have b4 := ix4 g0.1 g0.2 ct.1 t4
  have bt := byt_s sc0 sc1
  have om := ok.2.2.2 t ct.1 ct.2
  refine i32_up ?_ ?_
  · intro n o hc e k w o0 S1 hk K
    unfold P_X12_image_144
    rw [S1.2.1 9 (by decide), m9, S1.2.1 35 (by decide), sc]
    rw [sub_none hc] at K hk
    refine rn_ck b4 (rn_p hc (rn_ck ⟨ct.1, t4⟩ (rn_c (sy_say S1 (by have : nOvs G t 0 o = 0 := rfl; omega) bt.1) (fun e1 S2 => rn_ck ⟨ct.1, t4⟩ ?_))))
    rw [S2.2.1 35 (by decide), sc]
    exact rn_c (sy_say S2 (by have : nOvs G t 0 o = 0 := rfl; omega) bt.2) (fun e2 S3 => rn_bd (K e2 S3))
  · intro n o hc ih e k w o0 S1 hk K
    unfold P_X12_image_144
    have co : inL (G.many t) o := ⟨o0, hc⟩
    obtain ⟨rr, r12, r13, r14⟩ := I o co
    obtain ⟨ob, os, oe⟩ := om.2 o o0 hc
    have o130 : o < 130 := Int32.lt_of_lt_of_le hc om.1.2
    rw [S1.2.1 9 (by decide), m9]
    rw [sub_succ hc, nOvs_s] at hk K
    have rw2 : ∀ {e1 : mE} {k1 : Nat} {w1 : Wr}, Sy e0 k1 w1 e1 → e1.2 10 (130 * (4 * g + t) + o) = rwT e0 g t o := fun q => q.2.1 10 (by decide) _
    refine rn_ck b4 (rn_n (Int32.not_le.mpr hc) (rn_o (r_rowOf g0.1 g0.2 ct.1 t4 o0 o130) (rn_bd (rn_bd ?_))))
    dsimp only
    rw [rw2 S1]
    refine rn_ck rr ?_
    rw [S1.2.1 12 (by decide), r12]
    have b255 : G.bow t o ≤ 255 := i32_tr ob.2 (by decide)
    refine rn_c (sy_say S1 (by omega) (and_v ob.1 b255)) (fun e1 S2 => rn_ck rr ?_)
    rw [S2.2.1 13 (by decide), r13]
    have sz : 0 ≤ G.siz t o + 1 ∧ G.siz t o + 1 ≤ 255 := by
      obtain ⟨a, b⟩ := os
      generalize G.siz t o = v at a b
      clear ih K hk I r13 r14 oe S1 S2 om bt
      constructor <;> grind
    refine rn_c (sy_say S2 (by omega) (and_v sz.1 sz.2)) (fun e2 S3 => ?_)
    have z : (0 : Int32).toInt = 0 := by decide
    have t40 := tI40 os.2
    have zz : ((G.siz t o).toInt - (0 : Int32).toInt).toNat = (G.siz t o).toInt.toNat := by rw [z, Int.sub_zero]
    refine i_194 (g := g) rr r13 os.2 r14 (fun i hi => oe i hi.1 hi.2) fu 0 (by show _ < 10000000; omega) e2 _ _ (by decide) S3 (by rw [zz]; omega) (fun e3 S4 => ih e3 _ _ (i32_ps o0 hc) S4 (by rw [zz]; omega) (fun e' S' => K e' ?_))
    rw [zz] at S'
    rw [show k + (2 + (G.siz t o).toInt.toNat + nOvs G t ((G.many t).toInt - (o + 1).toInt).toNat (o + 1)) + 2 = k + 1 + 1 + (G.siz t o).toInt.toNat + nOvs G t ((G.many t).toInt - (o + 1).toInt).toNat (o + 1) + 2 by omega]
    exact S'
def ImF (e0 : mE) (k : Nat) (w : Wr) (q : Int32 × mE) : Prop := (k ≤ 8000 ∧ q.1 = w.1 ∧ Sy e0 k w q.2) ∨ (8000 < k ∧ q.1 = -1 ∧ q.2.1 18 = 0 ∧ (∀ j, j ≠ 18 → q.2.1 j = e0.1 j) ∧ ∀ j, j ≠ 17 → ∀ i, q.2.2 j i = e0.2 j i)
theorem i_118 {G : Pg} {S : Ps} (I : ImR e0 g G S) : ∀ n t, (G.turns.toInt - t.toInt).toNat < n → ∀ e k w, 0 ≤ t → Sy e0 k w e → k + nTurns G (G.turns.toInt - t.toInt).toNat t ≤ 30000 → Rn (P_X12_image_118 n g t e) (ImF e0 (k + nTurns G (G.turns.toInt - t.toInt).toNat t) (wTurns S G (G.turns.toInt - t.toInt).toNat t w)) := by
  refine i32_up ?_ ?_
  · intro n t hc e k w t0 S1 hk
    unfold P_X12_image_118
    rw [S1.2.1 8 (by decide), I.2.1, S1.1.1]
    rw [sub_none hc] at hk ⊢
    have hk : k ≤ 30000 := hk
    have kI := ofN_i (n := k) (by omega)
    have f8 : (8000 : Int32).toInt = 8000 := by decide
    refine rn_ck I.1 (rn_p hc (rn_i (fun c => rn_s (Or.inl ⟨?_, S1.2.2.1.symm, S1⟩)) (fun c => rn_bd (rn_s (Or.inr ⟨?_, rfl, rfl, fun j hj => ?_, fun j hj i => S1.2.1 j hj i⟩)))))
    · have := Int32.le_iff_toInt_le.mp c
      show k ≤ 8000
      omega
    · have := Int32.lt_iff_toInt_lt.mp (Int32.not_le.mp c)
      show 8000 < k
      omega
    · show (if j = 18 then _ else e.1 j) = _
      rw [if_neg hj]; exact S1.1.2 j hj
  · intro n t hc ih e k w t0 S1 hk
    unfold P_X12_image_118
    have ct : inL G.turns t := ⟨t0, hc⟩
    have ok := I.2.2.1
    have t4 : t < 4 := Int32.lt_of_lt_of_le ct.2 ok.t4
    have om := ok.2.2.2 t ct.1 ct.2
    have m9 := (I.2.2.2 t ct).1.1
    rw [S1.2.1 8 (by decide), I.2.1, S1.2.1 9 (by decide), m9]
    rw [sub_succ hc, nTurns_s] at hk ⊢
    have z : (0 : Int32).toInt = 0 := by decide
    have zz : ((G.many t).toInt - (0 : Int32).toInt).toNat = (G.many t).toInt.toNat := by rw [z, Int.sub_zero]
    have m130 := le_i om.1.2 (by decide : (130 : Int32).toInt = 130)
    refine rn_ck I.1 (rn_n (Int32.not_le.mpr hc) (rn_ck (ix4 I.1.1 I.1.2 ct.1 t4) (rn_c (sy_say S1 (by omega) (and_v om.1.1 (i32_tr om.1.2 (by decide)))) (fun e1 S2 => ?_))))
    refine i_144 I ct fu 0 (by show _ < 10000000; omega) e1 _ _ (by decide) S2 (by rw [zz]; omega) (fun e2 S3 => (ih e2 _ _ (i32_ps t0 hc) S3 (by rw [zz]; omega)).imp (fun q Q => ?_))
    rw [zz] at Q
    rw [show k + (1 + nOvs G t (G.many t).toInt.toNat 0 + 2 + nTurns G (G.turns.toInt - (t + 1).toInt).toNat (t + 1)) = k + 1 + nOvs G t (G.many t).toInt.toNat 0 + 2 + nTurns G (G.turns.toInt - (t + 1).toInt).toNat (t + 1) by omega]
    exact Q
def wS (v : Int32 → Int32) : Nat → Int32 → Wr → Wr
  | 0, _, w => w
  | n + 1, x, w => wS v n (x + 1) (wAdd (v x) w)
theorem ws_a {v : Int32 → Int32} {st : Int32 → Int32 → Int32} {s : Int32} (hs : inL 2 s) (hv : ∀ k, inL 11 k → v (11 * s + k) = st s k) (m : Nat) : ∀ (n : Nat) (k : Int32) (w : Wr), 0 ≤ k → k.toInt + (n : Int) = 11 → wS v (n + m) (11 * s + k) w = wS v m (11 * s + 11) (wSeat st s n k w)
  | 0, k, w, _, h => by
    have e : k = 11 := Int32.toInt_inj.mp (by have : (11 : Int32).toInt = 11 := by decide
                                              omega)
    rw [Nat.zero_add, e]
    rfl
  | n + 1, k, w, k0, h => by
    have f : (11 : Int32).toInt = 11 := by decide
    have k1 : k < 11 := Int32.lt_iff_toInt_lt.mpr (by omega)
    have ks := i32_succ k1
    rw [show n + 1 + m = (n + m) + 1 by omega]
    show wS v (n + m) (11 * s + k + 1) (wAdd (v (11 * s + k)) w) = wS v m (11 * s + 11) (wSeat st s n (k + 1) (wAdd (st s k) w))
    rw [hv k ⟨k0, k1⟩, show 11 * s + k + 1 = 11 * s + (k + 1) by clear hv ks h; grind]
    exact ws_a hs hv m n (k + 1) _ (i32_ps k0 k1) (by omega)
theorem i_79 {Q : Int32 × mE → Prop} (g0 : 0 ≤ g ∧ g < 400) (hb : ∀ x, inL 22 x → 0 ≤ e0.2 7 (22 * g + x) ∧ e0.2 7 (22 * g + x) ≤ 255) {T : Int32} (h8 : e0.2 8 g = T) (hT : 0 ≤ T ∧ T ≤ 255) : ∀ n x, ((22 : Int32).toInt - x.toInt).toNat < n → ∀ e k w, 0 ≤ x → Sy e0 k w e → k + ((22 : Int32).toInt - x.toInt).toNat ≤ 100 → (∀ e', Sy e0 (k + ((22 : Int32).toInt - x.toInt).toNat + 1) (wAdd T (wS (fun x => e0.2 7 (22 * g + x)) ((22 : Int32).toInt - x.toInt).toNat x w)) e' → Rn (P_X12_image_118 fu g 0 e') Q) → Rn (P_X12_image_79 n g x e) Q := by
  have f22 : (22 : Int32).toInt = 22 := by decide
  refine i32_up ?_ ?_
  · intro n x hc e k w x0 S hk K
    unfold P_X12_image_79
    rw [sub_none hc] at K
    refine rn_p hc (rn_ck g0 ?_)
    rw [S.2.1 8 (by decide), h8]
    exact rn_c (sy_say S (by omega) (and_v hT.1 hT.2)) (fun e1 S1 => K e1 S1)
  · intro n x hc ih e k w x0 S hk K
    unfold P_X12_image_79
    have xj : inL 22 x := ⟨x0, hc⟩
    have b : (0 : Int32) ≤ 22 * g + x ∧ 22 * g + x < 8800 := by
      have l := lin22 g0 xj
      have z : (0 : Int32).toInt = 0 := by decide
      have a1 := Int32.le_iff_toInt_le.mp g0.1
      have a2 := Int32.lt_iff_toInt_lt.mp g0.2
      have b1 := Int32.le_iff_toInt_le.mp xj.1
      have b2 := Int32.lt_iff_toInt_lt.mp xj.2
      have e1 : (400 : Int32).toInt = 400 := by decide
      have e3 : (8800 : Int32).toInt = 8800 := by decide
      exact ⟨Int32.le_iff_toInt_le.mpr (by omega), Int32.lt_iff_toInt_lt.mpr (by omega)⟩
    refine rn_n (Int32.not_le.mpr hc) (rn_ck b ?_)
    rw [S.2.1 7 (by decide)]
    rw [sub_succ hc] at K hk
    refine rn_c (sy_say S (by omega) (and_v (hb x xj).1 (hb x xj).2)) (fun e1 S1 => rn_bd (ih e1 (k + 1) _ (i32_ps x0 hc) S1 (by omega) (fun e' S' => K e' ?_)))
    rw [show k + (((22 : Int32).toInt - (x + 1).toInt).toNat + 1) + 1 = k + 1 + ((22 : Int32).toInt - (x + 1).toInt).toNat + 1 by omega]
    exact S'
theorem m_image (r : MR e A) (ok : BkOK A) {s : Ps} (hs : TyNs s) (g : Int32) : Rn (P_X12_image g e) (fun q => q.1 = (aImage s g A).1 ∧ MP e (aImage s g A).2 q.2) := by
  unfold P_X12_image aImage
  have r0 := r.c0
  refine rn_bd (rn_o (m_isGame r0 g) (rn_bd (rn_bd ?_)))
  dsimp only
  by_cases c : inL A.games g
  rotate_left
  · rw [if_neg c, if_neg c]
    exact rn_p rfl (rn_s ⟨rfl, r0, rfl⟩)
  rw [if_pos c, if_pos c]
  obtain ⟨e0, p1, p2, p3, p4, p5⟩ := m_play r0 ok c hs
  have pw := r0.pgW ok c
  have tq := fun t (ct : inL (A.pg g).turns t) => p2.tq pw ct.1 ct.2
  unfold wImage
  generalize s.play (A.pg g) = S at p2 tq
  refine rn_n (by decide) (rn_o p1 (rn_bd ?_))
  have g4 := g400 ok c
  have GR := p3.2.2.1 g c
  have oo := ok.2.2.2.2.2.2.1 g c
  have pk := ok.pgo c
  have i0 : inL 2 0 := ⟨by decide, by decide⟩
  have i1 : inL 2 1 := ⟨by decide, by decide⟩
  have l0 := (lin2 g4 i0).1
  rw [ad0] at l0
  have l1 := (lin2 g4 i1).1
  have I : ImR e0 g (A.pg g) S := by
    refine ⟨g4, GR.2.2.2.2.2.1, pk, fun t ct => ⟨⟨(GR.2.2.2.2.2.2 t ct).1, ?_, (tq t ct).2.2.2.2.2.2.2.1⟩, fun o co => ?_⟩⟩
    · exact (tq t ct).1 1 (by decide)
    · exact p3.row (⟨c, ct, co⟩ : inO A g t o)
  have S0 : Sy e0 0 (0, A.out) (mS e0 18 0) := ⟨⟨rfl, fun j hj => if_neg hj⟩, fun _ _ _ => rfl, rfl, fun i hi _ => absurd hi.1 (Int32.not_le.mpr hi.2)⟩
  have b60 : ∀ v, inL A.sides v → 0 ≤ v ∧ v ≤ 255 := fun v h => ⟨h.1, i32_tr (Int32.le_of_lt h.2) (i32_tr ok.1.2 (by decide))⟩
  refine rn_c (sy_say S0 (by omega) (show (66 : Int32) = 66 &&& 255 by decide)) (fun e1 S1 => rn_ck l0 ?_)
  rw [S1.2.1 4 (by decide), GR.1]
  have b1 := b60 _ oo.2.1
  refine rn_c (sy_say S1 (by omega) (and_v b1.1 b1.2)) (fun e2 S2 => rn_ck l1 ?_)
  rw [S2.2.1 4 (by decide), GR.2.1]
  have b2 := b60 _ oo.2.2.1
  refine rn_c (sy_say S2 (by omega) (and_v b2.1 b2.2)) (fun e3 S3 => rn_ck g4 ?_)
  rw [S3.2.1 5 (by decide), GR.2.2.2.1]
  refine rn_c (sy_say S3 (by omega) (and_v (i32_tr (by decide) pk.2.1.1) (i32_tr pk.2.1.2 (by decide)))) (fun e4 S4 => rn_ck g4 ?_)
  rw [S4.2.1 6 (by decide), GR.2.2.2.2.1]
  have be : 0 ≤ (A.pg g).each ∧ (A.pg g).each ≤ 255 := by rcases pk.1 with y | y <;> rw [y] <;> decide
  refine rn_c (sy_say S4 (by omega) (and_v be.1 be.2)) (fun e5 S5 => ?_)
  have stv : ∀ s k, gin 2 11 s k → e0.2 7 (22 * g + (11 * s + k)) = A.st g s k := fun s k ck' => by
    rw [← (sk_22 ck').2]; exact GR.2.2.1 s k ck'
  have dec : ∀ x : Int32, inL 22 x → ∃ s k, gin 2 11 s k ∧ x = 11 * s + k := fun x hx => by
    obtain ⟨a, b⟩ := hx
    clear tq p2 p3 p4 p5 pw r0 r ok hs c p1 GR oo I S0 S1 S2 S3 S4 S5 stv pk
    by_cases y : x < 11
    · exact ⟨0, x, ⟨by decide, by decide, a, y⟩, by grind⟩
    · exact ⟨1, x - 11, ⟨by decide, by decide, by grind, by grind⟩, by grind⟩
  have hb : ∀ x, inL 22 x → 0 ≤ e0.2 7 (22 * g + x) ∧ e0.2 7 (22 * g + x) ≤ 255 := fun x hx => by
    obtain ⟨s', k', ck', ex⟩ := dec x hx
    rw [ex, stv s' k' ck']
    have kk : inL 11 k' := ⟨ck'.2.2.1, ck'.2.2.2⟩
    have o2 := oo.2.2.2 k' kk
    have s01 : s' = 0 ∨ s' = 1 := by
      obtain ⟨a, b, -, -⟩ := ck'
      clear tq p2 p3 p4 p5 pw r0 r ok hs c p1 GR oo I S0 S1 S2 S3 S4 S5 stv pk dec o2 hx ex
      grind
    have fin : ∀ sd v, inL A.sides sd → inL (A.pl sd) v → 0 ≤ v ∧ v ≤ 255 := fun sd v h1 h2 => ⟨h2.1, i32_tr (Int32.le_of_lt h2.2) (i32_tr (ok.2.2.2.2.1 sd h1).2 (by decide))⟩
    rcases s01 with y | y
    · rw [y]; exact fin _ _ oo.2.1 o2.1
    · rw [y]; exact fin _ _ oo.2.2.1 o2.2
  have z : (0 : Int32).toInt = 0 := by decide
  have f22 : (22 : Int32).toInt = 22 := by decide
  have T4 := le_i pk.t4 (by decide : (4 : Int32).toInt = 4)
  have iN := imgN_le pk
  unfold imgN at iN ⊢
  have zz : ((A.pg g).turns.toInt - (0 : Int32).toInt).toNat = (A.pg g).turns.toInt.toNat := by rw [z, Int.sub_zero]
  have n22 : ((22 : Int32).toInt - (0 : Int32).toInt).toNat = 22 := by decide
  have wsE : ∀ w, wS (fun x => e0.2 7 (22 * g + x)) 22 0 w = wSeat (A.st g) 1 11 0 (wSeat (A.st g) 0 11 0 w) := fun w => by
    have f11 : (11 : Int32).toInt = 11 := by decide
    have h1 := ws_a (v := fun x => e0.2 7 (22 * g + x)) (st := A.st g) i0 (fun k hk => stv 0 k ⟨by decide, by decide, hk.1, hk.2⟩) 11 11 0 w (by decide) (by omega)
    have h2 := ws_a (v := fun x => e0.2 7 (22 * g + x)) (st := A.st g) i1 (fun k hk => stv 1 k ⟨by decide, by decide, hk.1, hk.2⟩) 0 11 0 (wSeat (A.st g) 0 11 0 w) (by decide) (by omega)
    rw [show (11 : Int32) * 0 + 0 = 0 by decide, show (11 : Int32) * 0 + 11 = 11 by decide] at h1
    rw [show (11 : Int32) * 1 + 0 = 11 by decide] at h2
    exact h1.trans h2
  refine i_79 g4 hb GR.2.2.2.2.2.1 ⟨pk.2.2.1.1, i32_tr pk.t4 (by decide)⟩ fu 0 (by show _ < 10000000; omega) e5 _ _ (by decide) S5 (by rw [n22]; omega) (fun e6 S6 => ?_)
  rw [n22, wsE] at S6
  have F := i_118 I fu 0 (by show _ < 10000000; omega) e6 _ _ (by decide) S6 (by rw [zz]; omega)
  rw [zz] at F
  refine F.imp (fun q Q => ?_)
  have i11 : e0.1 11 = e.1 11 := (p4.1 11 (by decide) (by decide)).trans rfl
  rcases Q with ⟨q1, q2, q3⟩ | ⟨q1, q2, q3, q4, q5⟩
  · have q1 : 28 + nTurns (A.pg g) (A.pg g).turns.toInt.toNat 0 ≤ 8000 := by omega
    rw [if_pos q1]
    refine ⟨q2, ?_, (q3.1.2 11 (by decide)).trans i11⟩
    refine p3.io rfl rfl rfl rfl ((q3.1.2 1 (by decide)).trans p3.1.1) (q3.1.2 2 (by decide)) ((q3.1.2 16 (by decide)).trans p3.1.2.2.1) ?_ ((q3.1.2 19 (by decide)).trans p3.1.2.2.2.2.1) (q3.1.2 20 (by decide)) (q3.1.2 11 (by decide)) (fun i hi => (q3.2.1 3 (by decide) i).trans (p3.2.1.1 i hi)) (fun i hi => (q3.2.1 15 (by decide) i).trans (p3.2.1.2.1 i hi)) (fun i hi => ?_) (fun k hk i => q3.2.1 k (by omega) i)
    · exact q3.1.1.trans q3.2.2.1.symm
    · have hi : inL (wTurns S (A.pg g) (A.pg g).turns.toInt.toNat 0 (wHead (A.sd0 g) (A.sd1 g) (A.st g) (A.pg g) (0, A.out))).1 i := hi
      have e1 : (wTurns S (A.pg g) (A.pg g).turns.toInt.toNat 0 (wHead (A.sd0 g) (A.sd1 g) (A.st g) (A.pg g) (0, A.out))).1 = _ := q3.2.2.1
      rw [e1] at hi
      refine q3.2.2.2 i hi ?_
      have h := Int32.lt_iff_toInt_lt.mp hi.2
      rw [ofN_i (by omega)] at h
      exact Int32.lt_iff_toInt_lt.mpr (by have : (8000 : Int32).toInt = 8000 := by decide
                                          omega)
  · have q1 : ¬ 28 + nTurns (A.pg g) (A.pg g).turns.toInt.toNat 0 ≤ 8000 := by omega
    rw [if_neg q1]
    refine ⟨q2, ?_, (q4 11 (by decide)).trans i11⟩
    exact p3.io rfl rfl rfl rfl ((q4 1 (by decide)).trans p3.1.1) (q4 2 (by decide)) ((q4 16 (by decide)).trans p3.1.2.2.1) q3 ((q4 19 (by decide)).trans p3.1.2.2.2.2.1) (q4 20 (by decide)) (q4 11 (by decide)) (fun i hi => (q5 3 (by decide) i).trans (p3.2.1.1 i hi)) (fun i hi => (q5 15 (by decide) i).trans (p3.2.1.2.1 i hi)) (fun i hi => absurd hi.1 (Int32.not_le.mpr hi.2)) (fun k hk i => q5 k (by omega) i)
end Mim
