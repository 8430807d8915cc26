/-! The reference's new book -/
def ReQ (t : Nat) (h0 : aH) (m s : Nat) (h : aH) : Prop := (hK h t = 14 ∧ hz h = t + 1 + m ∧ hs h = hs h0 + s ∧ hE h = hE h0) ∧ (∀ b, b < t → cel h0 h b) ∧ (∀ f, hF h f t = 0) ∧ ∀ k, 0 < mo k → mo k ≤ m → hG h (1300 + k) t = some (t + mo k) ∧ hK h (t + mo k) = mk k ∧ hN h (t + mo k) = ml k ∧ ∀ j, hI h (t + mo k) j = 0
theorem mk_r (k K n : Nat) {t m s : Nat} {h0 h : aH} {kt : aH → Option aH} {Q : aH → Prop} (q : ReQ t h0 m s h) (e1 : mo k = m + 1) (e2 : mk k = K) (e3 : ml k = n) (go : ∀ h2, ReQ t h0 (m + 1) (s + n) h2 → Rn (kt h2) Q) : Rn (bd (hz h) fun b => bd (nA h K n) fun h2 => (ck (hK h2 t = 14)).bind fun _ => bd (sG h2 (1300 + k) t (some b)) fun h4 => kt h4) Q := by
  obtain ⟨⟨q1, q2, q3, q4⟩, q5, q6, q7⟩ := q
  refine mk_a (by omega) q1 (fun h2 p o => go h2 ?_)
  obtain ⟨⟨a1, a2, a3⟩, a4, a5, a6, a7, a8⟩ := o
  refine ⟨⟨a5, by omega, by omega, by omega⟩, fun b hb => (q5 b hb).trans (a4 b (by omega) (by omega)), fun f => (a6 f).trans (q6 f), fun j j0 j1 => ?_⟩
  by_cases c : j = k
  · subst c
    rw [q2] at a8 p
    rw [e1, a8, show t + (m + 1) = t + 1 + m by omega, e2, e3]
    exact ⟨rfl, p.1, p.2.1, p.2.2⟩
  · have ne : mo j ≠ m + 1 := fun y => c (mo_inj (y.trans e1.symm) (by omega))
    obtain ⟨w1, w2, w3, w4⟩ := q7 j j0 (by omega)
    have cc := a4 (t + mo j) (by omega) (by omega)
    exact ⟨by rw [a7 _ (by omega)]; exact w1, by rw [cc.K]; exact w2, by rw [cc.N]; exact w3, fun i => by rw [cc.I]; exact w4 i⟩
theorem nw_ref {h : aH} : Rn (F_X12_init (hz h) (nO h 14 72)) (fun h1 => Nw h 55 527118 h1 ∧ MS (hz h) h1 ∧ ∀ k, (menv (hz h) h1).1 k = 0) := by
  have q0 : ReQ (hz h) h 0 72 (nO h 14 72) := by
    refine ⟨⟨if_pos rfl, rfl, rfl, rfl⟩, fun b hb => cel_nO hb, fun f => if_pos rfl, fun k k0 k1 => absurd k1 (by omega)⟩
  unfold F_X12_init
  generalize nO h 14 72 = h0 at q0 ⊢
  refine mk_r 3 21 60 q0 (by decide) (by decide) (by decide) (fun h1 q1 => ?_)
  refine mk_r 4 21 800 q1 (by decide) (by decide) (by decide) (fun h2 q2 => ?_)
  refine mk_r 5 21 400 q2 (by decide) (by decide) (by decide) (fun h3 q3 => ?_)
  refine mk_r 6 21 400 q3 (by decide) (by decide) (by decide) (fun h4 q4 => ?_)
  refine mk_r 7 21 8800 q4 (by decide) (by decide) (by decide) (fun h5 q5 => ?_)
  refine mk_r 8 21 400 q5 (by decide) (by decide) (by decide) (fun h6 q6 => ?_)
  refine mk_r 9 21 1600 q6 (by decide) (by decide) (by decide) (fun h7 q7 => ?_)
  refine mk_r 10 21 208000 q7 (by decide) (by decide) (by decide) (fun h8 q8 => ?_)
  refine mk_r 12 21 6000 q8 (by decide) (by decide) (by decide) (fun h9 q9 => ?_)
  refine mk_r 13 21 6000 q9 (by decide) (by decide) (by decide) (fun h10 q10 => ?_)
  refine mk_r 14 21 240000 q10 (by decide) (by decide) (by decide) (fun h11 q11 => ?_)
  refine mk_r 15 21 6000 q11 (by decide) (by decide) (by decide) (fun h12 q12 => ?_)
  refine mk_r 17 21 8000 q12 (by decide) (by decide) (by decide) (fun h13 q13 => ?_)
  refine mk_r 21 21 40 q13 (by decide) (by decide) (by decide) (fun h14 q14 => ?_)
  refine mk_r 22 21 40 q14 (by decide) (by decide) (by decide) (fun h15 q15 => ?_)
  refine mk_r 23 21 40 q15 (by decide) (by decide) (by decide) (fun h16 q16 => ?_)
  refine mk_r 24 21 40 q16 (by decide) (by decide) (by decide) (fun h17 q17 => ?_)
  refine mk_r 25 21 40 q17 (by decide) (by decide) (by decide) (fun h18 q18 => ?_)
  refine mk_r 26 21 40 q18 (by decide) (by decide) (by decide) (fun h19 q19 => ?_)
  refine mk_r 27 21 1600 q19 (by decide) (by decide) (by decide) (fun h20 q20 => ?_)
  refine mk_r 35 21 4 q20 (by decide) (by decide) (by decide) (fun h21 q21 => ?_)
  refine mk_r 36 21 4 q21 (by decide) (by decide) (by decide) (fun h22 q22 => ?_)
  refine mk_r 37 21 4 q22 (by decide) (by decide) (by decide) (fun h23 q23 => ?_)
  refine mk_r 38 21 4 q23 (by decide) (by decide) (by decide) (fun h24 q24 => ?_)
  refine mk_r 39 21 4 q24 (by decide) (by decide) (by decide) (fun h25 q25 => ?_)
  refine mk_r 40 21 4 q25 (by decide) (by decide) (by decide) (fun h26 q26 => ?_)
  refine mk_r 41 21 4 q26 (by decide) (by decide) (by decide) (fun h27 q27 => ?_)
  refine mk_r 42 21 4 q27 (by decide) (by decide) (by decide) (fun h28 q28 => ?_)
  refine mk_r 43 21 4 q28 (by decide) (by decide) (by decide) (fun h29 q29 => ?_)
  refine mk_r 44 21 4 q29 (by decide) (by decide) (by decide) (fun h30 q30 => ?_)
  refine mk_r 45 21 4 q30 (by decide) (by decide) (by decide) (fun h31 q31 => ?_)
  refine mk_r 46 21 4 q31 (by decide) (by decide) (by decide) (fun h32 q32 => ?_)
  refine mk_r 47 21 4 q32 (by decide) (by decide) (by decide) (fun h33 q33 => ?_)
  refine mk_r 48 21 4 q33 (by decide) (by decide) (by decide) (fun h34 q34 => ?_)
  refine mk_r 49 21 4 q34 (by decide) (by decide) (by decide) (fun h35 q35 => ?_)
  refine mk_r 50 21 4 q35 (by decide) (by decide) (by decide) (fun h36 q36 => ?_)
  refine mk_r 51 21 4 q36 (by decide) (by decide) (by decide) (fun h37 q37 => ?_)
  refine mk_r 52 22 4 q37 (by decide) (by decide) (by decide) (fun h38 q38 => ?_)
  refine mk_r 53 21 44 q38 (by decide) (by decide) (by decide) (fun h39 q39 => ?_)
  refine mk_r 54 21 44 q39 (by decide) (by decide) (by decide) (fun h40 q40 => ?_)
  refine mk_r 55 21 44 q40 (by decide) (by decide) (by decide) (fun h41 q41 => ?_)
  refine mk_r 56 21 44 q41 (by decide) (by decide) (by decide) (fun h42 q42 => ?_)
  refine mk_r 57 21 44 q42 (by decide) (by decide) (by decide) (fun h43 q43 => ?_)
  refine mk_r 58 21 44 q43 (by decide) (by decide) (by decide) (fun h44 q44 => ?_)
  refine mk_r 59 21 6000 q44 (by decide) (by decide) (by decide) (fun h45 q45 => ?_)
  refine mk_r 60 21 6000 q45 (by decide) (by decide) (by decide) (fun h46 q46 => ?_)
  refine mk_r 61 21 6000 q46 (by decide) (by decide) (by decide) (fun h47 q47 => ?_)
  refine mk_r 62 22 6000 q47 (by decide) (by decide) (by decide) (fun h48 q48 => ?_)
  refine mk_r 63 22 6000 q48 (by decide) (by decide) (by decide) (fun h49 q49 => ?_)
  refine mk_r 64 22 6000 q49 (by decide) (by decide) (by decide) (fun h50 q50 => ?_)
  refine mk_r 67 21 6 q50 (by decide) (by decide) (by decide) (fun h51 q51 => ?_)
  refine mk_r 68 21 1800 q51 (by decide) (by decide) (by decide) (fun h52 q52 => ?_)
  refine mk_r 70 21 4 q52 (by decide) (by decide) (by decide) (fun h53 q53 => ?_)
  refine mk_r 71 21 600 q53 (by decide) (by decide) (by decide) (fun h54 q54 => ?_)
  obtain ⟨⟨q1, q2, q3, q4⟩, q5, q6, q7⟩ := q54
  refine rn_s ⟨⟨by omega, by omega, q4, q5⟩, ⟨q1, fun k hk => ?_⟩, ?_⟩
  · have := mo_le k
    obtain ⟨w1, w2, w3, w4⟩ := q7 k hk (by omega)
    exact ⟨w1, w2, w3⟩
  · exact fun k => q6 _
theorem mr_0 {e : mE} (h : ∀ k, e.1 k = 0) : MR e bk0 := by
  have nn : ∀ i : Int32, inL 0 i → False := fun i hi => absurd hi.1 (Int32.not_le.mpr hi.2)
  refine ⟨⟨h 1, h 2, h 16, h 18, h 19, h 20⟩, ⟨fun i hi => (nn i hi).elim, fun i hi => (nn i hi).elim, fun i hi => (nn i hi).elim⟩, fun g hg => (nn g hg).elim, ?_, fun g t o g' t' o' p => (nn g p.1).elim, trivial⟩
  rw [h]
  exact ⟨by decide, by decide⟩
theorem ok_0 : BkOK bk0 := by
  have nn : ∀ i : Int32, inL 0 i → False := fun i hi => absurd hi.1 (Int32.not_le.mpr hi.2)
  exact ⟨⟨by decide, by decide⟩, ⟨by decide, by decide⟩, ⟨by decide, by decide⟩, ⟨by decide, by decide⟩, fun i hi => (nn i hi).elim, fun i hi => (nn i hi).elim, fun g hg => (nn g hg).elim, by decide, fun q hq => absurd hq (by show ¬ q ∈ []; simp)⟩
