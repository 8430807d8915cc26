/-! A turn begins, on both sides -/
def Zr0 : Ty := (fun k => if k = 12 ∨ k = 13 ∨ k = 14 then -1 else if k = 15 then 2 else 0, fun _ _ _ => 0)
abbrev TyN (X : Ty) : Prop := (∀ k, 16 ≤ k → X.1 k = 0) ∧ ∀ j, 3 ≤ j → X.2 j = fun _ _ => 0
def Ty0 (n : Int32) : Ty := (((((((Zr0.sPlayed 1).sAllowed n).sMeans (tb (6 * n) 0)).sFaces 0).sOther 1).sBat (gS 11 3 (fun _ _ => 0) 0 2 1))).sBat (gS 11 3 (gS 11 3 (fun _ _ => 0) 0 2 1) 1 2 1)
theorem gAll0 (R C : Int32) : gAll R C 0 = fun _ _ => 0 := by
  funext r c
  unfold gAll
  split <;> rfl
theorem sim_begin {X : Ty} (hX : TyN X) (n : Int32) : Sim (X.clear.begin n) (Ty0 n) := by
  refine ⟨?_, ?_, ?_⟩
  · funext k
    unfold Ty.begin Ty.clear Ty0 Zr0
    simp only [Ty.i1, Ty.i2, Ty.g1, Ty.g2, ↓reduceIte, Nat.reduceEqDiff]
    by_cases c : k < 16
    · have : k = 0 ∨ k = 1 ∨ k = 2 ∨ k = 3 ∨ k = 4 ∨ k = 5 ∨ k = 6 ∨ k = 7 ∨ k = 8 ∨ k = 9 ∨ k = 10 ∨ k = 11 ∨ k = 12 ∨ k = 13 ∨ k = 14 ∨ k = 15 := by omega
      rcases this with q | q | q | q | q | q | q | q | q | q | q | q | q | q | q | q <;> subst q <;> rfl
    · have e := hX.1 k (by omega)
      simp only [show ¬ k = 0 by omega, show ¬ k = 1 by omega, show ¬ k = 2 by omega, show ¬ k = 3 by omega, show ¬ k = 4 by omega, show ¬ k = 5 by omega, show ¬ k = 6 by omega, show ¬ k = 7 by omega, show ¬ k = 8 by omega, show ¬ k = 9 by omega, show ¬ k = 10 by omega, show ¬ k = 11 by omega, show ¬ k = 12 by omega, show ¬ k = 13 by omega, show ¬ k = 14 by omega, show ¬ k = 15 by omega, if_false, or_self, e]
  · intro j hj
    have hb : X.clear.bat = fun _ _ => 0 := by
      show (X.clear).2 0 = _
      unfold Ty.clear
      simp only [Ty.i1, Ty.i2, Ty.g1, Ty.g2, ↓reduceIte, Nat.reduceEqDiff]
      exact gAll0 11 3
    rcases (show j = 0 ∨ j = 1 ∨ 3 ≤ j by omega) with q | q | q
    · subst q
      unfold Ty.begin Ty0
      rw [hb]
      simp only [Ty.i1, Ty.i2, Ty.g1, Ty.g2, ↓reduceIte, Nat.reduceEqDiff]
    · subst q
      unfold Ty.begin Ty.clear Ty0 Zr0
      simp only [Ty.i1, Ty.i2, Ty.g1, Ty.g2, ↓reduceIte, Nat.reduceEqDiff]
      exact gAll0 11 3
    · unfold Ty.begin Ty.clear Ty0 Zr0
      simp only [Ty.i1, Ty.i2, Ty.g1, Ty.g2, ↓reduceIte, Nat.reduceEqDiff, show ¬ j = 0 by omega, show ¬ j = 1 by omega]
      exact hX.2 j q
  · intro o c h1 h2
    have : (Ty0 n).begun = 0 := rfl
    rw [this] at h2
    exact absurd h1.1 (Int32.not_le.mpr h2)
theorem iv0 {ovs n : Int32} (v1 : 1 ≤ ovs) (v2 : ovs ≤ 120) (n0 : 0 ≤ n) (n1 : n ≤ ovs) : Iv ovs 0 (Ty0 n) := by
  have b6 : 0 ≤ 6 * n ∧ 6 * n ≤ 720 := by constructor <;> grind
  have hleft : (Ty0 n).left = 6 * n := by
    show 6 * (n - 0) - 0 = 6 * n
    grind
  have gn0 : gin 11 3 0 2 := by decide
  have gn1 : gin 11 3 1 2 := by decide
  have f0 : (Ty0 n).bat 0 2 = 1 := by
    show gS 11 3 (gS 11 3 (fun _ _ => 0) 0 2 1) 1 2 1 0 2 = 1
    rw [gS_ne (fun q => absurd q.1 (by decide))]
    exact gS_at gn0
  have f1 : (Ty0 n).bat 1 2 = 1 := by
    show gS 11 3 (gS 11 3 (fun _ _ => 0) 0 2 1) 1 2 1 1 2 = 1
    exact gS_at gn1
  refine ⟨rfl, v1, v2, show (0 : Int32) ≤ 0 by decide, show (0 : Int32) ≤ 0 by decide, show (0 : Int32) ≤ 0 + 1 by decide, n0, n1, show (0 : Int32) ≤ 0 by decide, show (0 : Int32) ≤ 5 by decide, fun _ => rfl, show (0 : Int32) ≤ 0 by decide, show (0 : Int32) ≤ 10 by decide, fun _ => rfl, fun _ => ⟨show (0 : Int32) ≤ 0 by decide, show (0 : Int32) < 2 by decide, show (0 : Int32) ≤ 1 by decide, show (1 : Int32) < 2 by decide, show (0 : Int32) ≠ 1 by decide, f0, f1⟩, ?_, fun _ => rfl, fun q => absurd rfl q, ?_, ?_, ?_, show (0 : Int32) ≤ 0 by decide, show (0 : Int32) ≤ 0 by decide, fun q => absurd rfl q, fun q => absurd rfl q⟩
  · intro _ k k1 k2
    replace k1 : (2 : Int32) ≤ k := k1
    show gS 11 3 (gS 11 3 (fun _ _ => 0) 0 2 1) 1 2 1 k 2 = 0
    rw [gS_ne (fun q => by have := q.1; rw [this] at k1; exact absurd k1 (by decide)), gS_ne (fun q => by have := q.1; rw [this] at k1; exact absurd k1 (by decide))]
  · intro k k1 k2
    show (0 : Int32) ≤ 0 ∧ (0 : Int32) ≤ (ovs + 4) / 5
    refine ⟨by decide, ?_⟩
    have k : ∀ q, q < 121 → 0 ≤ (Int32.ofNat q + 4) / 5 := by decide +kernel
    have a := Int32.le_iff_toInt_le.mp v2
    have z : (120 : Int32).toInt = 120 := by decide
    obtain ⟨q, p1, p2, p3⟩ := i32_nat (N := 120) (b := ovs) (i32_tr (by decide) v1) (by omega) (by decide)
    rw [p2]
    exact k q (by omega)
  · show tb (Ty0 n).left 0 ≤ tb (6 * n) 0
    rw [hleft]
    exact Int32.le_refl _
  · show tb (6 * n) 0 ≤ 1000
    exact tb_top b6.1 b6.2 (by decide) (by decide)
/-- what a turn begins with, behind its first ints -/
def pT2 (x1 x2 n : Int32) (e6 : mE) : Option mE :=
  bd (mA e6 40 x2 n) fun e19 =>
  (ck ((0 : Int32) ≤ x2 ∧ x2 < (4 : Int32))).bind fun _ =>
  (P_X12_table (6 * (e19.2 40 x2)) 0 e19).bind fun q29 =>
  bd q29.1 fun z28 =>
  bd q29.2 fun e27 =>
  (ck ((0 : Int32) ≤ x2 ∧ x2 < (4 : Int32))).bind fun _ =>
  bd (mA e27 43 x2 z28) fun e31 =>
  (ck ((0 : Int32) ≤ x2 ∧ x2 < (4 : Int32))).bind fun _ =>
  bd (mA e31 45 x2 0) fun e36 =>
  (ck ((0 : Int32) ≤ x2 ∧ x2 < (4 : Int32))).bind fun _ =>
  bd (mA e36 46 x2 1) fun e41 =>
  (ck ((0 : Int32) ≤ (11 * x2) ∧ (11 * x2) < (44 : Int32))).bind fun _ =>
  bd (mA e41 55 (11 * x2) 1) fun e46 =>
  (ck ((0 : Int32) ≤ ((11 * x2) + 1) ∧ ((11 * x2) + 1) < (44 : Int32))).bind fun _ =>
  bd (mA e46 55 ((11 * x2) + 1) 1) fun e51 =>
  (P_X12_lastTurn x1 e51).bind fun q56 =>
  bd q56.1 fun z55 =>
  bd q56.2 fun e54 =>
  if x2 = z55 then
    (P_X12_aim x1 x2 e54).bind fun e60 =>
    P_X12_playTurn_118 x1 x2 e60
  else
    P_X12_playTurn_118 x1 x2 e54
theorem pT_eq {g t : Int32} {e : mE} (g0 : 0 ≤ g) (g1 : g < 400) (t1 : 0 ≤ t) (t2 : t < 4) : P_X12_playTurn g t e = pT2 g t (if t = 1 ∧ e.2 6 g = 1 then (mA (mS e 32 t) 52 t 1).2 40 0 else e.2 5 g) (mA (mS e 32 t) 52 t 1) := by
  unfold P_X12_playTurn
  rw [bd_e, ck_t ⟨t1, t2⟩, bd_e]
  have e6 : (mA (mS e 32 t) 52 t 1).2 6 g = e.2 6 g := by rw [mA_rd, if_neg (fun q => absurd q.1 (by decide))]; rfl
  have e5 : (mA (mS e 32 t) 52 t 1).2 5 g = e.2 5 g := by rw [mA_rd, if_neg (fun q => absurd q.1 (by decide))]; rfl
  rw [e6, e5]
  by_cases c1 : t = 1
  · rw [if_pos c1, ck_t ⟨g0, g1⟩]
    by_cases c2 : e.2 6 g = 1
    · rw [if_pos c2, if_pos ⟨c1, c2⟩, ck_t (by decide), ck_t ⟨t1, t2⟩]
      rfl
    · rw [if_neg c2, if_neg (fun q => c2 q.2), ck_t ⟨g0, g1⟩, ck_t ⟨t1, t2⟩]
      rfl
  · rw [if_neg c1, if_neg (fun q => c1 q.1), ck_t ⟨g0, g1⟩, ck_t ⟨t1, t2⟩]
    rfl
section SU
variable {t : Int32} {rw : Int32 → Int32} {mn : Int32} {e0 e : mE} {pl : Int32 → Int32} {x : Nat → Int32} {g : Int32}
theorem rs_bat2 {T : Ty} {by' ro : Int32} (S : RSt t rw mn e0 e T by' ro pl x) {k v : Int32} (h1 : 0 ≤ k) (h2 : k < 11) : RSt t rw mn e0 (mA e 55 (11 * t + k) v) (T.sBat (gS 11 3 T.bat k 2 v)) by' ro pl x := by
  obtain ⟨e', q, s'⟩ := gr_bat2 S h1 h2 rfl (v := v) (f := some) (fun e1 s1 => ⟨e1, rfl, s1⟩)
  cases q
  exact s'
theorem rs_mS {T : Ty} {by' ro : Int32} (S : RSt t rw mn e0 e T by' ro pl x) {k : Nat} {v : Int32} : RSt t rw mn e0 (mS e k v) T by' ro pl (fun j => if j = k then v else x j) := by
  obtain ⟨e', q, s'⟩ := gr_mS S (k := k) (v := v) (f := some) (fun e1 s1 => ⟨e1, rfl, s1⟩)
  cases q
  exact s'
/-- the first ints of a turn -/
theorem r_setup {n la : Int32} {s : Ps} (g0 : 0 ≤ g) (g1 : g < 400) (S : RSt t rw mn e0 e Zr0 0 0 pl x) (hla : 2 * e0.2 6 g - 1 = la) (htg : ∀ e', RSt t rw mn e0 e' (Ty0 n) 0 0 pl (fun j => if j = 32 then t else x j) → t = la → TgR e' t s) : ∃ e2, pT2 g t n (mA (mS e 32 t) 52 t 1) = P_X12_playTurn_120 fu g t 0 e2 ∧ RSt t rw mn e0 e2 (Ty0 n) 0 0 pl (if t = la then (fun j => if j = 34 then s.target else if j = 32 then t else x j) else (fun j => if j = 32 then t else x j)) := by
  have S1 := rs_mS S (k := 32) (v := t)
  have S2 := rs_played S1 1
  have S3 := rs_allowed S2 n
  have S4 := rs_means S3 (tb (6 * n) 0)
  have S5 := rs_faces S4 0
  have S6 := rs_other S5 1
  have S7 := rs_bat2 S6 (k := 0) (v := 1) (by decide) (by decide)
  have S8 := rs_bat2 S7 (k := 1) (v := 1) (by decide) (by decide)
  have e40 : (mA (mA (mS e 32 t) 52 t 1) 40 t n).2 40 t = n := RSt.allowed S3
  have z0 : 11 * t + 0 = 11 * t := by grind
  rw [z0] at S7 S8
  have h44 : ((0 : Int32) ≤ 11 * t ∧ 11 * t < 44) ∧ (0 : Int32) ≤ 11 * t + 1 ∧ 11 * t + 1 < 44 := by
    have a1 := S.t1
    have a2 := S.t2
    clear S S1 S2 S3 S4 S5 S6 S7 S8 htg
    refine ⟨⟨by grind, by grind⟩, by grind, by grind⟩
  unfold pT2 P_X12_playTurn_118
  rw [bd_e, ck_t ⟨S.t1, S.t2⟩, e40, r_table]
  simp only [Option.bind_some, bd_e]
  rw [ck_t ⟨S.t1, S.t2⟩, ck_t ⟨S.t1, S.t2⟩, ck_t ⟨S.t1, S.t2⟩, ck_t h44.1, ck_t h44.2, r_last g0 g1]
  simp only [Option.bind_some]
  generalize mA (mA (mA (mA (mA (mA (mA (mS e 32 t) 52 t 1) 40 t n) 43 t (tb (6 * n) 0)) 45 t 0) 46 t 1) 55 (11 * t) 1) 55 (11 * t + 1) 1 = e2 at *
  have e6 : e2.2 6 g = e0.2 6 g := S8.fr 6 _ (own_lo (by decide))
  rw [e6, hla]
  by_cases c : t = la
  · rw [if_pos c, if_pos c, r_aim (htg e2 S8 c)]
    exact ⟨_, rfl, rs_mS S8⟩
  · rw [if_neg c, if_neg c]
    exact ⟨_, rfl, S8⟩
end SU
