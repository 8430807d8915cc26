/-! The place of the first wrong byte, on the reference's side -/
def PlF (e : mE) (g : Int32) (G : Pg) (S : Ps) (sc : Int32 → Int32) : Prop := (0 ≤ g ∧ g < 400) ∧ PgOK G ∧ e.2 8 g = G.turns ∧ (e.1 28 = S.rule ∧ e.1 29 = S.bt ∧ e.1 30 = S.bo ∧ e.1 31 = S.be) ∧ ∀ t, inL G.turns t → (e.2 9 (4 * g + t) = G.many t ∧ e.2 35 t = (S.ty t).score ∧ (0 ≤ (S.ty t).score ∧ (S.ty t).score ≤ 40000) ∧ e.2 70 t = sc t) ∧ ∀ o, inL (G.many t) o → (0 ≤ rwT e g t o ∧ rwT e g t o < 6000) ∧ e.2 13 (rwT e g t o) = G.siz t o
section Mpw
variable {e : mE} {g : Int32} {G : Pg} {S : Ps} {sc : Int32 → Int32}
theorem scr_256 {s : Int32} (h0 : 0 ≤ s) (h1 : s ≤ 40000) : s / (256 : Int32) - s / (256 : Int32) / (256 : Int32) * (256 : Int32) = s / (256 : Int32) := by
  have z : (0 : Int32).toInt = 0 := by decide
  have a := Int32.le_iff_toInt_le.mp h0
  have b := le_i h1 (by decide : (40000 : Int32).toInt = 40000)
  have f : (256 : Int32).toInt = 256 := by decide
  have dv : ∀ x : Int32, 0 ≤ x.toInt → x.toInt ≤ 40000 → (x / (256 : Int32)).toInt = x.toInt / 256 := fun x x0 x1 => by
    rw [Int32.toInt_div, f, Int.tdiv_eq_ediv_of_nonneg x0]
    apply Int.bmod_eq_of_le <;> omega
  have d1 := dv s (by omega) (by omega)
  have d2 := dv (s / 256) (by omega) (by omega)
  have e0 : s / (256 : Int32) / (256 : Int32) = 0 := Int32.toInt_inj.mp (by omega)
  rw [e0]
  generalize s / (256 : Int32) = v
  clear a b d1 d2 e0 h0 h1 dv
  grind
theorem scr_low {s c : Int32} (h : c / (256 : Int32) = s / (256 : Int32)) : (c - c / (256 : Int32) * (256 : Int32) = s - s / (256 : Int32) * (256 : Int32)) ↔ c = s := by
  rw [h]
  generalize s / (256 : Int32) * (256 : Int32) = v
  clear h
  constructor <;> intro q <;> grind
theorem siz_n {s : Int32} : (if 0 < s then s else 0) = Int32.ofNat s.toInt.toNat := by
  rw [← siz0]
  by_cases c : 0 < s
  · rw [if_pos c, if_neg (Int32.not_lt.mpr (Int32.le_of_lt c))]
  · rw [if_neg c]
    by_cases d : s < 0
    · rw [if_pos d]
    · rw [if_neg d]
      exact Int32.le_antisymm (Int32.not_lt.mp d) (Int32.not_lt.mp c)
def x4n (G : Pg) (S : Ps) (sc : Int32 → Int32) (t x4 : Int32) (K : Nat) : Int32 := if x4 = 0 then (if sc t / 256 = (S.ty t).score / 256 then (if sc t = (S.ty t).score then 0 else Int32.ofNat K + 2) else Int32.ofNat K + 1) else x4
/-- the two bytes of the score -/
theorem p_end {t x3 x4 : Int32} {K : Nat} {k11 : Int32 → Int32 → Int32 → Int32 → Int32 → mE → Option (Int32 × mE)} (I : PlF e g G S sc) (ct : inL G.turns t) (hK : K ≤ 30000) : (if x4 = 0 then (ck ((0 : Int32) ≤ t ∧ t < (4 : Int32))).bind fun _ => (ck ((0 : Int32) ≤ t ∧ t < (4 : Int32))).bind fun _ => if (e.2 70 t) / 256 = ((e.2 35 t) / 256) - ((e.2 35 t) / 256) / 256 * 256 then P_X12_placeWrong_194 k11 g (Int32.ofNat K) x3 x4 t e else bd (Int32.ofNat K + 1) fun v14 => P_X12_placeWrong_194 k11 g (Int32.ofNat K) x3 v14 t e else P_X12_placeWrong_194 k11 g (Int32.ofNat K) x3 x4 t e) = k11 g (Int32.ofNat (K + 2)) x3 (x4n G S sc t x4 K) (t + 1) e := by
  obtain ⟨g0, ok, h8, -, I⟩ := I
  obtain ⟨⟨-, h35, ⟨s0, s1⟩, h70⟩, -⟩ := I t ct
  have t4 : (0 : Int32) ≤ t ∧ t < 4 := ⟨ct.1, Int32.lt_of_lt_of_le ct.2 ok.t4⟩
  have ek : Int32.ofNat K + 2 = Int32.ofNat (K + 2) := by
    rw [← ofN_s (n := K + 1), ← ofN_s (n := K)]
    generalize Int32.ofNat K = w
    grind
  have n1 : Int32.ofNat K + 1 ≠ 0 := by
    rw [ofN_s]
    exact fun h => lt_ne (ofN_lt (n := 0) (m := K + 1) (show K + 1 ≤ 1000000 by omega) (show 0 < K + 1 by omega)) h.symm
  rw [h70, h35, scr_256 s0 s1]
  unfold P_X12_placeWrong_194 P_X12_placeWrong_229 x4n
  rw [h70, h35]
  by_cases c : x4 = 0
  · rw [if_pos c, if_pos c, if_pos c, ck_t t4, ck_t t4, ck_t t4, ck_t t4]
    by_cases c1 : sc t / 256 = (S.ty t).score / 256
    · rw [if_pos c1, if_pos c1]
      by_cases c2 : sc t = (S.ty t).score
      · rw [if_pos c2, if_pos ((scr_low c1).mpr c2), bd_e, bd_e, ek, c]
      · rw [if_neg c2, if_neg (fun q => c2 ((scr_low c1).mp q)), bd_e, bd_e, bd_e, ek]
    · rw [if_neg c1, if_neg c1, bd_e, if_neg n1, bd_e, bd_e, ek]
  · rw [if_neg c, if_neg c, if_neg c, bd_e, bd_e, ek]
theorem p_row {t o : Int32} (I : PlF e g G S sc) (ct : inL G.turns t) (co : inL (G.many t) o) : P_X12_rowOf g t o e = some (rwT e g t o, e) ∧ (0 ≤ rwT e g t o ∧ rwT e g t o < 6000) ∧ e.2 13 (rwT e g t o) = G.siz t o := by
  obtain ⟨g0, ok, -, -, I⟩ := I
  have t4 : t < 4 := Int32.lt_of_lt_of_le ct.2 ok.t4
  have o130 : o < 130 := Int32.lt_of_lt_of_le co.2 (ok.2.2.2 t ct.1 ct.2).1.2
  exact ⟨r_rowOf g0.1 g0.2 ct.1 t4 co.1 o130, (I t ct).2 o co⟩
/-- no rule was broken -/
theorem p_56 {t x3 x4 : Int32} {k11 : Int32 → Int32 → Int32 → Int32 → Int32 → mE → Option (Int32 × mE)} (I : PlF e g G S sc) (ct : inL G.turns t) (hr : S.rule = 0) : ∀ j o, ((G.many t).toInt - o.toInt).toNat < j → ∀ K : Nat, 0 ≤ o → K + nOvs G t ((G.many t).toInt - o.toInt).toNat o ≤ 30000 → P_X12_placeWrong_56 k11 j g (Int32.ofNat K) x3 x4 t o e = k11 g (Int32.ofNat (K + nOvs G t ((G.many t).toInt - o.toInt).toNat o + 2)) x3 (x4n G S sc t x4 (K + nOvs G t ((G.many t).toInt - o.toInt).toNat o)) (t + 1) e := by
  have I' := I
  obtain ⟨g0, ok, h8, ⟨h28, -⟩, II⟩ := I
  have t4 : t < 4 := Int32.lt_of_lt_of_le ct.2 ok.t4
  have b4 := ix4 g0.1 g0.2 ct.1 t4
  have m9 := (II t ct).1.1
  refine i32_up ?_ ?_
  · intro j o hc K o0 hK
    unfold P_X12_placeWrong_56
    rw [ck_t b4, m9, if_pos hc]
    rw [sub_none hc] at hK ⊢
    exact p_end I' ct hK
  · intro j o hc ih K o0 hK
    unfold P_X12_placeWrong_56
    obtain ⟨q1, q2, q3⟩ := p_row I' ct ⟨o0, hc⟩
    rw [ck_t b4, m9, if_neg (Int32.not_le.mpr hc), q1, Option.bind_some, bd_e, bd_e, h28, hr, if_pos rfl]
    unfold P_X12_placeWrong_133
    rw [ck_t q2, q3, siz_n, bd_e, bd_e, bd_e]
    rw [sub_succ hc, nOvs_s] at hK ⊢
    have ek : Int32.ofNat K + (2 + Int32.ofNat (G.siz t o).toInt.toNat) = Int32.ofNat (K + 2 + (G.siz t o).toInt.toNat) := by
      rw [← ofN_a, ← ofN_a]
      generalize Int32.ofNat K = w
      generalize Int32.ofNat (G.siz t o).toInt.toNat = u
      show w + (2 + u) = w + 2 + u
      clear ih hK ct I' II
      grind
    rw [ek, ih (K + 2 + (G.siz t o).toInt.toNat) (i32_ps o0 hc) (by omega)]
    rw [show K + 2 + (G.siz t o).toInt.toNat + nOvs G t ((G.many t).toInt - (o + 1).toInt).toNat (o + 1) = K + (2 + (G.siz t o).toInt.toNat + nOvs G t ((G.many t).toInt - (o + 1).toInt).toNat (o + 1)) by omega]
end Mpw
