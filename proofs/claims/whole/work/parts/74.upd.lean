/-! A page that changes: a row edited, a turn or an over more, one less -/
def Pg.edit (G : Pg) (t o b s : Int32) (e : Int32 → Int32) : Pg := (G.ovs, G.each, G.turns, G.many, fun t' o' => if t' = t ∧ o' = o then b else G.bow t' o', fun t' o' => if t' = t ∧ o' = o then s else G.siz t' o', fun t' o' => if t' = t ∧ o' = o then e else G.ent t' o')
def Pg.addT (G : Pg) : Pg := (G.ovs, G.each, G.turns + 1, fun t => if t = G.turns then 0 else G.many t, G.bow, G.siz, G.ent)
def Pg.addO (G : Pg) (t b s : Int32) (e : Int32 → Int32) : Pg := (G.ovs, G.each, G.turns, fun t' => if t' = t then G.many t + 1 else G.many t', fun t' o' => if t' = t ∧ o' = G.many t then b else G.bow t' o', fun t' o' => if t' = t ∧ o' = G.many t then s else G.siz t' o', fun t' o' => if t' = t ∧ o' = G.many t then e else G.ent t' o')
def Pg.subT (G : Pg) : Pg := (G.ovs, G.each, G.turns - 1, G.many, G.bow, G.siz, G.ent)
def Pg.subO (G : Pg) (t : Int32) : Pg := (G.ovs, G.each, G.turns, fun t' => if t' = t then G.many t - 1 else G.many t', G.bow, G.siz, G.ent)
theorem adS_at {ad : Adr} {k : Nat} {g t o : Int32} {v : Nat} : adS ad k g t o v k g t o = v := if_pos ⟨rfl, rfl, rfl, rfl⟩
theorem adS_k {ad : Adr} {k k' : Nat} {g t o g' t' o' : Int32} {v : Nat} (n : k' ≠ k) : adS ad k g t o v k' g' t' o' = ad k' g' t' o' := if_neg (fun q => n q.1)
theorem adS_g {ad : Adr} {k k' : Nat} {g t o g' t' o' : Int32} {v : Nat} (n : g' ≠ g) : adS ad k g t o v k' g' t' o' = ad k' g' t' o' := if_neg (fun q => n q.2.1)
theorem adS_t {ad : Adr} {k k' : Nat} {g t o g' t' o' : Int32} {v : Nat} (n : t' ≠ t) : adS ad k g t o v k' g' t' o' = ad k' g' t' o' := if_neg (fun q => n q.2.2.1)
theorem adS_o {ad : Adr} {k k' : Nat} {g t o g' t' o' : Int32} {v : Nat} (n : o' ≠ o) : adS ad k g t o v k' g' t' o' = ad k' g' t' o' := if_neg (fun q => n q.2.2.2)
theorem lab_1 {k : Nat} {g t o : Int32} (n : k ≠ 0) : ((k, g, t, o) : Lab).1 ≠ 0 := n
theorem lab_k {k k' : Nat} {g t o g' t' o' : Int32} (n : k ≠ k') : ((k, g, t, o) : Lab) ≠ (k', g', t', o') := fun q => n (congrArg (fun L : Lab => L.1) q)
theorem lab_g {k k' : Nat} {g t o g' t' o' : Int32} (n : g ≠ g') : ((k, g, t, o) : Lab) ≠ (k', g', t', o') := fun q => n (congrArg (fun L : Lab => L.2.1) q)
theorem lab_t {k k' : Nat} {g t o g' t' o' : Int32} (n : t ≠ t') : ((k, g, t, o) : Lab) ≠ (k', g', t', o') := fun q => n (congrArg (fun L : Lab => L.2.2.1) q)
theorem lab_o {k k' : Nat} {g t o g' t' o' : Int32} (n : o ≠ o') : ((k, g, t, o) : Lab) ≠ (k', g', t', o') := fun q => n (congrArg (fun L : Lab => L.2.2.2) q)
theorem lt_ne {a b : Int32} (h : a < b) : a ≠ b := fun e => by rw [e] at h; exact Int32.lt_irrefl h
section Up
variable {h h' : aH} {lb : Nat → Lab} {ad cp : Adr} {g sd0 sd1 : Int32} {st : Int32 → Int32 → Int32} {G : Pg}
theorem GmL.in_t (r : GmL h lb ad cp g sd0 sd1 st G) {t : Int32} (c : inL G.turns t) : TuL h lb ad cp g t (G.many t) (G.bow t) (G.siz t) (G.ent t) := r.2.2.2.2.2 t c.1 c.2
theorem GmL.in_o (r : GmL h lb ad cp g sd0 sd1 st G) {t o : Int32} (c : inL G.turns t) (d : inL (G.many t) o) : OvL h (ad 3 g t o) (G.bow t o) (G.siz t o) (G.ent t o) ∧ lbR h lb ad 3 g t o 2 := (r.in_t c).2.2.2.2 o d.1 d.2
/-- other things hold of the same cells -/
theorem TuL.cg {t m : Int32} {b s b' s' : Int32 → Int32} {e e' : Int32 → Int32 → Int32} (r : TuL h lb ad cp g t m b s e) (H : ∀ o, 0 ≤ o → o < m → b' o = b o ∧ s' o = s o ∧ e' o = e o) : TuL h lb ad cp g t m b' s' e' := by
  refine ⟨r.1, r.2.1, r.2.2.1, r.2.2.2.1, fun o o0 o1 => ?_⟩
  have q := H o o0 o1
  rw [q.1, q.2.1, q.2.2]
  exact r.2.2.2.2 o o0 o1
theorem gm_edit (r : GmL h lb ad cp g sd0 sd1 st G) {t o b s : Int32} {e : Int32 → Int32} (ct : inL G.turns t) (co : inL (G.many t) o) (k : kpL lb (fun L => L ≠ (3, g, t, o) ∧ L.1 ≠ 0) h h') (v : OvL h' (ad 3 g t o) b s e) : GmL h' lb ad cp g sd0 sd1 st (G.edit t o b s e) := by
  obtain ⟨r1, r2, r3, r4, r5, r6⟩ := r
  have z := r4.1
  have c : ∀ i, i < 4 → cel h h' (ad 1 g 0 0 + i) := fun i hi => k.2.2 _ (by omega) (by rw [r4.2 i hi]; exact ⟨lab_k (by decide), lab_1 (by decide)⟩)
  have c0 : cel h h' (ad 1 g 0 0) := c 0 (by decide)
  refine ⟨?_, ⟨r2.1.mv2 (c 1 (by decide)) (c 2 (by decide)), by rw [gv_cel (c 2 (by decide))]; exact r2.2⟩, ?_, r4.mv k.1 (fun _ _ => rfl) rfl, r5, ?_⟩
  · rw [c0.K, c0.F, c0.F, c0.F, c0.F, c0.G, c0.G]; exact r1
  · refine r3.mv2 k.1 k.2.1 (c 3 (by decide)) (fun hc => k.2.2 _ r3.1.2.2.2.2 (by rw [r5 hc]; exact ⟨lab_k (by decide), lab_1 (by decide)⟩)) ?_ (fun i _ _ => rfl)
    intro i i0 i1
    have q := (r6 i i0 i1).2.2.1
    have := q.1
    exact (k.2.2 _ (by omega) (by rw [show lb (ad 2 g i 0) = (2, g, i, 0) from q.2 0 (by decide)]; exact ⟨lab_k (by decide), lab_1 (by decide)⟩)).K
  · intro t' t0 t1
    have T := r6 t' t0 t1
    by_cases et : t' = t
    · subst et
      obtain ⟨u1, u2, u3, u4, u5⟩ := T
      have z2 := u3.1
      have d0 : cel h h' (ad 2 g t' 0) := k.2.2 _ (by omega) (by rw [show lb (ad 2 g t' 0) = (2, g, t', 0) from u3.2 0 (by decide)]; exact ⟨lab_k (by decide), lab_1 (by decide)⟩)
      have d1 : cel h h' (ad 2 g t' 0 + 1) := k.2.2 _ (by omega) (by rw [u3.2 1 (by decide)]; exact ⟨lab_k (by decide), lab_1 (by decide)⟩)
      have dv : ∀ o', 0 ≤ o' → o' < G.many t' → o' ≠ o → ∀ i, i < 2 → cel h h' (ad 3 g t' o' + i) := fun o' p0 p1 n i hi => k.2.2 _ (by have := (u5 o' p0 p1).2.1; omega) (by rw [(u5 o' p0 p1).2.2 i hi]; exact ⟨lab_o n, lab_1 (by decide)⟩)
      refine ⟨by rw [d0.K, d0.G]; exact u1, ?_, u3.mv k.1 (fun _ _ => rfl) rfl, u4, ?_⟩
      · refine u2.mv2 k.1 k.2.1 d1 (fun hc => k.2.2 _ u2.1.2.2.2.2 (by rw [u4 hc]; exact ⟨lab_k (by decide), lab_1 (by decide)⟩)) ?_ (fun i _ _ => rfl)
        intro i i0 i1
        by_cases eo : i = o
        · rw [eo, v.1]
          rw [eo] at i0 i1
          exact (u5 o i0 i1).1.1.symm
        · exact (dv i i0 i1 eo 0 (by decide)).K
      · intro o' o0 o1
        show OvL h' (ad 3 g t' o') (if t' = t' ∧ o' = o then b else G.bow t' o') (if t' = t' ∧ o' = o then s else G.siz t' o') (if t' = t' ∧ o' = o then e else G.ent t' o') ∧ _
        by_cases eo : o' = o
        · rw [if_pos ⟨rfl, eo⟩, if_pos ⟨rfl, eo⟩, if_pos ⟨rfl, eo⟩, eo]
          exact ⟨v, (u5 o co.1 co.2).2.mv k.1 (fun _ _ => rfl) rfl⟩
        · rw [if_neg (fun q => eo q.2), if_neg (fun q => eo q.2), if_neg (fun q => eo q.2)]
          exact ⟨(u5 o' o0 o1).1.mv (dv o' o0 o1 eo 0 (by decide)) (dv o' o0 o1 eo 1 (by decide)), (u5 o' o0 o1).2.mv k.1 (fun _ _ => rfl) rfl⟩
    · refine (T.mv (lb' := lb) (ad' := ad) (cp' := cp) k (fun _ _ => rfl) ⟨lab_k (by decide), lab_1 (by decide)⟩ ⟨lab_k (by decide), lab_1 (by decide)⟩ (fun o' => ⟨lab_t et, lab_1 (by decide)⟩) rfl ⟨rfl, rfl⟩ (fun _ _ _ => rfl)).cg ?_
      intro o' _ _
      exact ⟨if_neg (fun q => et q.1), if_neg (fun q => et q.1), if_neg (fun q => et q.1)⟩
/-- a new turn, not yet on a page -/
def NewT (h0 h1 : aH) : Prop := hz h1 = hz h0 + 2 ∧ hs h1 = hs h0 + 4 ∧ hE h1 = hE h0 ∧ (∀ b, b < hz h0 → cel h0 h1 b) ∧ (hK h1 (hz h0) = 12 ∧ hG h1 1100 (hz h0) = some (hz h0 + 1)) ∧ ∀ f, Ls h1 (hz h0 + 1) (hE h0) 0 0 f 7
def NewO (h0 h1 : aH) (b s : Int32) : Prop := hz h1 = hz h0 + 2 ∧ hs h1 = hs h0 + 43 ∧ hE h1 = hE h0 ∧ (∀ b, b < hz h0 → cel h0 h1 b) ∧ OvL h1 (hz h0) b s (fun _ => 0)
theorem new_list {h0 : aH} (he : hE h0 < hz h0) : Rn (F_Jx4a65c_init_da8c8 (hz h0) (nO h0 1 3)) (fun h1 => hz h1 = hz h0 + 1 ∧ hs h1 = hs h0 + 3 ∧ hE h1 = hE h0 ∧ (∀ b, b < hz h0 → cel h0 h1 b) ∧ ∀ f kd, Ls h1 (hz h0) (hE h0) 0 0 f kd) := by
  have k1 : hK (nO h0 1 3) (hz h0) = 1 := if_pos rfl
  unfold F_Jx4a65c_init_da8c8 F_Jxc12de_init_da8c8 F_Jxa1e45_init_da8c8
  rw [Option.bind_some, ck_t k1, bd_e, Option.bind_some]
  refine rn_ck k1 (rn_bd (rn_s ⟨rfl, rfl, rfl, ?_, ?_⟩))
  · intro b hb
    have n : b ≠ hz h0 := by omega
    exact ((cel_nO hb).trans (cel_sF n)).trans (cel_sG n)
  · intro f kd
    have a1 : hz h0 < hz h0 + 1 := Nat.lt_succ_self _
    have a2 : hE h0 < hz h0 + 1 := by omega
    refine ⟨⟨k1, if_pos ⟨rfl, rfl⟩, ?_, a1, a2⟩, ⟨by decide, by decide, by decide⟩, Or.inl ⟨rfl, rfl⟩, fun i i0 i1 => absurd i0 (Int32.not_le.mpr i1)⟩
    show (if (2 : Nat) = 0 ∧ hz h0 = hz h0 then (0 : Int32) else if hz h0 = hz h0 then 0 else hF h0 2 (hz h0)) = 0
    rw [if_neg (by omega), if_pos rfl]
theorem new_turn {h0 : aH} (he : hE h0 < hz h0) : Rn (F_X10_init (hz h0) (nO h0 12 1)) (NewT h0) := by
  unfold F_X10_init
  refine rn_bd (rn_bd (rn_ck (if_pos rfl) ?_))
  have z1 : hz (nO h0 12 1) = hz h0 + 1 := rfl
  have s1 : hs (nO h0 12 1) = hs h0 + 1 := rfl
  have e1 : hE (nO h0 12 1) = hE h0 := rfl
  have k1 : hK (nO h0 12 1) (hz h0) = 12 := if_pos rfl
  have c1 : ∀ b, b < hz h0 → cel h0 (nO h0 12 1) b := fun b hb => cel_nO hb
  generalize nO h0 12 1 = hx at *
  refine rn_c (new_list (h0 := hx) (by omega)) (fun h1 q => ?_)
  obtain ⟨q1, q2, q3, q4, q5⟩ := q
  have k2 : hK h1 (hz h0) = 12 := by rw [(q4 _ (by omega)).K]; exact k1
  refine rn_ck k2 (rn_bd (rn_s ⟨?_, ?_, ?_, ?_, ⟨k2, ?_⟩, ?_⟩))
  · show hz h1 = _
    omega
  · show hs h1 = _
    omega
  · exact q3.trans e1
  · intro b hb
    exact ((c1 b hb).trans (q4 b (by omega))).trans (cel_sG (by omega))
  · rw [← z1]
    exact if_pos ⟨rfl, rfl⟩
  · intro f
    have L := q5 f 7
    rw [z1, e1] at L
    exact L.mv2 (Nat.le_refl _) rfl (cel_sG (by omega)) (fun q => absurd rfl q) (fun i i0 i1 => absurd i0 (Int32.not_le.mpr i1)) (fun _ _ _ => rfl)
theorem new_over {h0 : aH} {b s : Int32} (hs0 : s ≤ 0) : Rn (F_X5_init (hz h0) b s (nO h0 7 3)) (fun h1 => NewO h0 h1 b s) := by
  unfold F_X5_init
  have z1 : hz (nO h0 7 3) = hz h0 + 1 := rfl
  have s1 : hs (nO h0 7 3) = hs h0 + 3 := rfl
  have e1 : hE (nO h0 7 3) = hE h0 := rfl
  have k1 : hK (nO h0 7 3) (hz h0) = 7 := if_pos rfl
  have c1 : ∀ b, b < hz h0 → cel h0 (nO h0 7 3) b := fun b hb => cel_nO hb
  generalize nO h0 7 3 = hx at *
  have k2 : hK (nA hx 21 40) (hz h0) = 7 := (if_neg (show ¬ hz h0 = hz hx by omega)).trans k1
  have k3 : hK (nA hx 21 40) (hz h0 + 1) = 21 := if_pos z1.symm
  have n3 : hN (nA hx 21 40) (hz h0 + 1) = 40 := if_pos z1.symm
  have zz : hz (nA hx 21 40) = hz hx + 1 := rfl
  have ss : hs (nA hx 21 40) = hs hx + 40 := rfl
  have ee : hE (nA hx 21 40) = hE hx := rfl
  refine rn_bd (rn_bd (rn_ck k2 (rn_bd (rn_bd (rn_bd (rn_s ⟨by show hz hx + 1 = _; omega, by show hs hx + 40 = _; omega, e1, ?_, k2, ?_, k3, n3, ?_, if_pos ⟨rfl, rfl⟩, ?_⟩))))))
  · intro b hb
    have n : b ≠ hz h0 := by omega
    exact (((((c1 b hb).trans (cel_nA (by omega))).trans (cel_sG n)).trans (cel_sF n))).trans (cel_sF n)
  · rw [← z1]
    exact if_pos ⟨rfl, rfl⟩
  · show (if (601 : Nat) = 602 ∧ hz h0 = hz h0 then s else if (601 : Nat) = 601 ∧ hz h0 = hz h0 then b else _) = b
    rw [if_neg (by omega), if_pos ⟨rfl, rfl⟩]
  · intro i i0 i1
    exact absurd (i32_tr hs0 i0) (Int32.not_le.mpr i1)
end Up
