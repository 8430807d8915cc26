/-! New things: what stands at first -/
def Nw (h0 : aH) (c s : Nat) (h1 : aH) : Prop := hz h1 = hz h0 + c ∧ hs h1 = hs h0 + s ∧ hE h1 = hE h0 ∧ ∀ b, b < hz h0 → cel h0 h1 b
/-- the thing at t has got its field F -/
def OwF (t F K0 : Nat) (h h2 : aH) (c s : Nat) : Prop := (hz h2 = hz h + c ∧ hs h2 = hs h + s ∧ hE h2 = hE h) ∧ (∀ b, b < hz h → b ≠ t → cel h h2 b) ∧ hK h2 t = K0 ∧ (∀ f, hF h2 f t = hF h f t) ∧ (∀ f, f ≠ F → hG h2 f t = hG h f t) ∧ hG h2 F t = some (hz h)
theorem mk_f {t F c s K n K0 : Nat} {h : aH} {I : Nat → aH → Option aH} {P : aH → Prop} {k : aH → Option aH} {Q : aH → Prop} (ht : t < hz h) (hk : hK h t = K0) (mk : Rn (I (hz h) (nO h K n)) (fun h1 => Nw h c s h1 ∧ P h1)) (go : ∀ h1 h2, P h1 → (∀ b, b ≠ t → cel h1 h2 b) → OwF t F K0 h h2 c s → Rn (k h2) Q) : Rn (bd (hz h) fun b => bd (nO h K n) fun h2 => (ck (hK h2 b = K)).bind fun _ => (I b h2).bind fun h5 => (ck (hK h5 t = K0)).bind fun _ => bd (sG h5 F t (some b)) fun h8 => k h8) Q := by
  refine rn_bd (rn_bd (rn_ck (if_pos rfl) (rn_c mk ?_)))
  rintro h1 ⟨⟨z, s', e, c'⟩, p⟩
  have k1 : hK h1 t = K0 := by rw [(c' t ht).K]; exact hk
  refine rn_ck k1 (rn_bd (go h1 _ p (fun b hb => cel_sG hb) ⟨⟨z, s', e⟩, fun b hb hn => (c' b hb).trans (cel_sG hn), k1, fun f => (c' t ht).F f, fun f hf => ?_, if_pos ⟨rfl, rfl⟩⟩))
  exact (if_neg (fun q => hf q.1)).trans ((c' t ht).G f)
theorem mk_a {t F K n K0 : Nat} {h : aH} {k : aH → Option aH} {Q : aH → Prop} (ht : t < hz h) (hk : hK h t = K0) (go : ∀ h2, (hK h2 (hz h) = K ∧ hN h2 (hz h) = n ∧ ∀ i, hI h2 (hz h) i = 0) → OwF t F K0 h h2 1 n → Rn (k h2) Q) : Rn (bd (hz h) fun b => bd (nA h K n) fun h2 => (ck (hK h2 t = K0)).bind fun _ => bd (sG h2 F t (some b)) fun h4 => k h4) Q := by
  have c' : ∀ b, b < hz h → cel h (nA h K n) b := fun b hb => cel_nA hb
  have k1 : hK (nA h K n) t = K0 := by rw [(c' t ht).K]; exact hk
  refine rn_bd (rn_bd (rn_ck k1 (rn_bd (go _ ⟨if_pos rfl, if_pos rfl, fun i => if_pos rfl⟩ ⟨⟨rfl, rfl, rfl⟩, fun b hb hn => (c' b hb).trans (cel_sG hn), k1, fun f => rfl, fun f hf => ?_, if_pos ⟨rfl, rfl⟩⟩))))
  exact if_neg (fun q => hf q.1)
section Enw
variable {h : aH}
theorem GrS.cl {h' : aH} {a : Nat} {R C N : Int32} (r : GrS h a R C N) (c1 : cel h h' a) (c2 : cel h h' (a + 1)) : GrS h' a R C N := r.sc c1.scl c2.scl c1.F
theorem nw_grid {R C N : Int32} {n : Nat} (r0 : ¬ R < 0) (c0 : ¬ C < 0) (e : R * C = N) (n0 : 0 ≤ N) (en : N.toNatClampNeg = n) (nb : n ≤ 10000000) : Rn (F_X4_init (hz h) R C (nO h 6 3)) (fun h1 => Nw h 2 (3 + n) h1 ∧ GrS h1 (hz h) R C N) :=
  (new_grid r0 c0 e n0 en nb).imp (fun h1 q => ⟨⟨q.1, by omega, q.2.2.1, q.2.2.2.1⟩, q.2.2.2.2.1⟩)
/-- a new tally -/
theorem nw_tally : Rn (F_X9_init (hz h) (nO h 11 19)) (fun h1 => Nw h 7 694 h1 ∧ TS (hz h) h1) := by
  have z1 : hz (nO h 11 19) = hz h + 1 := rfl
  have s1 : hs (nO h 11 19) = hs h + 19 := rfl
  have e1 : hE (nO h 11 19) = hE h := rfl
  have k1 : hK (nO h 11 19) (hz h) = 11 := if_pos rfl
  have c1 : ∀ b, b < hz h → cel h (nO h 11 19) b := fun b hb => cel_nO hb
  unfold F_X9_init
  generalize nO h 11 19 = hx at *
  refine mk_f (by omega) k1 (nw_grid (R := 11) (C := 3) (N := 33) (n := 33) (by decide) (by decide) (by decide) (by decide) (by decide) (by decide)) (fun y2 h2 p2 v2 o2 => ?_)
  obtain ⟨⟨a1, a2, a3⟩, a4, a5, a6, a7, a8⟩ := o2
  refine mk_f (by omega) a5 (nw_grid (R := 11) (C := 3) (N := 33) (n := 33) (by decide) (by decide) (by decide) (by decide) (by decide) (by decide)) (fun y3 h3 p3 v3 o3 => ?_)
  obtain ⟨⟨b1, b2, b3⟩, b4, b5, b6, b7, b8⟩ := o3
  refine mk_f (by omega) b5 (nw_grid (R := 120) (C := 5) (N := 600) (n := 600) (by decide) (by decide) (by decide) (by decide) (by decide) (by decide)) (fun y4 h4 p4 v4 o4 => ?_)
  obtain ⟨⟨d1, d2, d3⟩, d4, d5, d6, d7, d8⟩ := o4
  refine rn_bd (rn_bd (rn_bd (rn_bd (rn_s ?_))))
  have C : ∀ b, b ≠ hz h → cel h4 (sF (sF (sF (sF h4 1003 (hz h) 0) 1015 (hz h) (-1)) 1016 (hz h) (-1)) 1017 (hz h) (-1)) b := fun b hb => (((cel_sF hb).trans (cel_sF hb)).trans (cel_sF hb)).trans (cel_sF hb)
  have KK : hK (sF (sF (sF (sF h4 1003 (hz h) 0) 1015 (hz h) (-1)) 1016 (hz h) (-1)) 1017 (hz h) (-1)) = hK h4 := rfl
  have GG : hG (sF (sF (sF (sF h4 1003 (hz h) 0) 1015 (hz h) (-1)) 1016 (hz h) (-1)) 1017 (hz h) (-1)) = hG h4 := rfl
  have ZZ : hz (sF (sF (sF (sF h4 1003 (hz h) 0) 1015 (hz h) (-1)) 1016 (hz h) (-1)) 1017 (hz h) (-1)) = hz h4 := rfl
  have SS : hs (sF (sF (sF (sF h4 1003 (hz h) 0) 1015 (hz h) (-1)) 1016 (hz h) (-1)) 1017 (hz h) (-1)) = hs h4 := rfl
  have EE : hE (sF (sF (sF (sF h4 1003 (hz h) 0) 1015 (hz h) (-1)) 1016 (hz h) (-1)) 1017 (hz h) (-1)) = hE h4 := rfl
  generalize sF (sF (sF (sF h4 1003 (hz h) 0) 1015 (hz h) (-1)) 1016 (hz h) (-1)) 1017 (hz h) (-1) = h5 at *
  refine ⟨⟨by omega, by omega, by omega, fun b hb => ?_⟩, ?_, ?_, ?_, ?_, ?_, ?_, ?_⟩
  · exact ((((c1 b hb).trans (a4 b (by omega) (by omega))).trans (b4 b (by omega) (by omega))).trans (d4 b (by omega) (by omega))).trans (C b (by omega))
  · rw [KK]; exact d5
  · rw [GG, d7 _ (by decide), b7 _ (by decide), a8, z1]
  · rw [GG, d7 _ (by decide), b8, a1, z1]
  · rw [GG, d8, b1, a1, z1]
  · have D : ∀ b, b ≠ hz h → b < hz h2 → cel y2 h5 b := fun b n l => (((v2 b n).trans (b4 b l n)).trans (d4 b (by omega) n)).trans (C b n)
    rw [z1] at p2
    exact p2.cl (D _ (by omega) (by omega)) (D _ (by omega) (by omega))
  · have D : ∀ b, b ≠ hz h → b < hz h3 → cel y3 h5 b := fun b n l => ((v3 b n).trans (d4 b l n)).trans (C b n)
    rw [show hz h2 = hz h + 3 by omega] at p3
    exact p3.cl (D _ (by omega) (by omega)) (D _ (by omega) (by omega))
  · have D : ∀ b, b ≠ hz h → cel y4 h5 b := fun b n => (v4 b n).trans (C b n)
    rw [show hz h3 = hz h + 5 by omega] at p4
    exact p4.cl (D _ (by omega)) (D _ (by omega))
/-- a place of the ring -/
theorem nw_chg : Rn (F_X1_init (hz h) (nO h 3 5)) (fun h1 => Nw h 3 48 h1 ∧ (hK h1 (hz h) = 3 ∧ hG h1 200 (hz h) = some (hz h + 1)) ∧ hK h1 (hz h + 1) = 7 ∧ hG h1 600 (hz h + 1) = some (hz h + 2) ∧ hK h1 (hz h + 2) = 21 ∧ hN h1 (hz h + 2) = 40) := by
  have z1 : hz (nO h 3 5) = hz h + 1 := rfl
  have s1 : hs (nO h 3 5) = hs h + 5 := rfl
  have e1 : hE (nO h 3 5) = hE h := rfl
  have k1 : hK (nO h 3 5) (hz h) = 3 := if_pos rfl
  have c1 : ∀ b, b < hz h → cel h (nO h 3 5) b := fun b hb => cel_nO hb
  unfold F_X1_init
  generalize nO h 3 5 = hx at *
  refine mk_f (c := 2) (s := 43) (P := fun h1 => OvL h1 (hz hx) 0 (-1) (fun _ => 0)) (by omega) k1 ((new_over (b := 0) (s := -1) (by decide)).imp (fun h1 q => ⟨⟨q.1, q.2.1, q.2.2.1, q.2.2.2.1⟩, q.2.2.2.2⟩)) (fun y2 h2 p2 v2 o2 => ?_)
  obtain ⟨⟨a1, a2, a3⟩, a4, a5, a6, a7, a8⟩ := o2
  refine rn_bd (rn_bd (rn_bd (rn_bd (rn_s ?_))))
  have C : ∀ b, b ≠ hz h → cel h2 (sF (sF (sF (sF h2 201 (hz h) (-1)) 202 (hz h) 0) 203 (hz h) (-1)) 204 (hz h) (-1)) b := fun b hb => (((cel_sF hb).trans (cel_sF hb)).trans (cel_sF hb)).trans (cel_sF hb)
  have KK : hK (sF (sF (sF (sF h2 201 (hz h) (-1)) 202 (hz h) 0) 203 (hz h) (-1)) 204 (hz h) (-1)) = hK h2 := rfl
  have GG : hG (sF (sF (sF (sF h2 201 (hz h) (-1)) 202 (hz h) 0) 203 (hz h) (-1)) 204 (hz h) (-1)) = hG h2 := rfl
  have ZZ : hz (sF (sF (sF (sF h2 201 (hz h) (-1)) 202 (hz h) 0) 203 (hz h) (-1)) 204 (hz h) (-1)) = hz h2 := rfl
  have SS : hs (sF (sF (sF (sF h2 201 (hz h) (-1)) 202 (hz h) 0) 203 (hz h) (-1)) 204 (hz h) (-1)) = hs h2 := rfl
  have EE : hE (sF (sF (sF (sF h2 201 (hz h) (-1)) 202 (hz h) 0) 203 (hz h) (-1)) 204 (hz h) (-1)) = hE h2 := rfl
  generalize sF (sF (sF (sF h2 201 (hz h) (-1)) 202 (hz h) 0) 203 (hz h) (-1)) 204 (hz h) (-1) = h5 at *
  have D : ∀ b, b ≠ hz h → cel y2 h5 b := fun b n => (v2 b n).trans (C b n)
  rw [z1] at p2
  have p5 := p2.mv (D _ (by omega)) (D _ (by omega))
  refine ⟨⟨by omega, by omega, by omega, fun b hb => ((c1 b hb).trans (a4 b (by omega) (by omega))).trans (C b (by omega))⟩, ⟨by rw [KK]; exact a5, by rw [GG, a8, z1]⟩, p5.1, p5.2.1, p5.2.2.1, p5.2.2.2.1⟩
end Enw
