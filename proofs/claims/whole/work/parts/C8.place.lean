/-! The place of the first wrong byte: no rule was broken -/
theorem nTurns_sn {G : Pg} : ∀ n q, nTurns G (n + 1) q = nTurns G n q + (1 + nOvs G (q + Int32.ofNat n) (G.many (q + Int32.ofNat n)).toInt.toNat 0 + 2)
  | 0, q => by
    have e : q + Int32.ofNat 0 = q := by
      show q + 0 = q
      grind
    rw [nTurns_s, e]
    show 1 + nOvs G q (G.many q).toInt.toNat 0 + 2 + 0 = 0 + (1 + nOvs G q (G.many q).toInt.toNat 0 + 2)
    omega
  | n + 1, q => by
    rw [nTurns_s, nTurns_sn n (q + 1)]
    have e : q + 1 + Int32.ofNat n = q + Int32.ofNat (n + 1) := by
      rw [← ofN_s]
      generalize Int32.ofNat n = w
      grind
    rw [e, nTurns_s]
    omega
theorem nTurns_mo {G : Pg} {q : Int32} : ∀ d n, nTurns G n q ≤ nTurns G (n + d) q
  | 0, _ => Nat.le_refl _
  | d + 1, n => by
    have := nTurns_mo (G := G) (q := q) d n
    have e := nTurns_sn (G := G) (n + d) q
    rw [show n + (d + 1) = n + d + 1 by omega, e]
    omega
theorem nTurns_t {G : Pg} {t : Int32} (t0 : 0 ≤ t) (t1 : t < 1000) : nTurns G (t + 1).toInt.toNat 0 = nTurns G t.toInt.toNat 0 + (1 + nOvs G t (G.many t).toInt.toNat 0 + 2) := by
  have a := i32_succ t1
  have z : (0 : Int32).toInt = 0 := by decide
  have b := Int32.le_iff_toInt_le.mp t0
  rw [a, show (t.toInt + 1).toNat = t.toInt.toNat + 1 by omega, nTurns_sn]
  have e : (0 : Int32) + Int32.ofNat t.toInt.toNat = t := by
    rw [ofN_toI t0]
    grind
  rw [e]
section Mp2
variable {e : mE} {g : Int32} {G : Pg} {S : Ps} {sc : Int32 → Int32}
theorem plc_m {t : Int32} (ok : PgOK G) (ct : inL G.turns t) : plc G t (G.many t) (-1) = Int32.ofNat (28 + nTurns G t.toInt.toNat 0 + (1 + nOvs G t (G.many t).toInt.toNat 0)) := by
  unfold plc
  rw [if_pos ⟨ct, (ok.2.2.2 t ct.1 ct.2).1.1⟩, if_neg (by decide)]
/-- x4 is the place told by rCmp, and 1 -/
theorem x4n_w {t w : Int32} (ok : PgOK G) (ct : inL G.turns t) (hw : w = -1 ∨ 0 ≤ w) : x4n G S sc t (w + 1) (28 + nTurns G t.toInt.toNat 0 + (1 + nOvs G t (G.many t).toInt.toNat 0)) = (if sc t / 256 = (S.ty t).score / 256 then (if sc t = (S.ty t).score then w else wf w (plc G t (G.many t) (-1) + 1)) else wf w (plc G t (G.many t) (-1))) + 1 := by
  rw [plc_m ok ct]
  unfold x4n wf
  generalize Int32.ofNat (28 + nTurns G t.toInt.toNat 0 + (1 + nOvs G t (G.many t).toInt.toNat 0)) = P
  have p2 : P + 2 = P + 1 + 1 := by clear hw ct ok; grind
  rcases hw with y | y
  · subst y
    rw [if_pos (show (-1 : Int32) + 1 = 0 by decide), if_pos rfl, if_pos rfl]
    split
    · split
      · rfl
      · exact p2
    · rfl
  · have n : w ≠ -1 := neg1 y
    have n0 : ¬ w + 1 = 0 := fun h => n (by clear ct ok p2; grind)
    rw [if_neg n0, if_neg n, if_neg n]
    split
    · split <;> rfl
    · rfl
theorem wf_b {t w : Int32} (ok : PgOK G) (ct : inL G.turns t) (hw : w = -1 ∨ 0 ≤ w) (hb : 28 + nTurns G t.toInt.toNat 0 + (1 + nOvs G t (G.many t).toInt.toNat 0) ≤ 30000) : (if sc t / 256 = (S.ty t).score / 256 then (if sc t = (S.ty t).score then w else wf w (plc G t (G.many t) (-1) + 1)) else wf w (plc G t (G.many t) (-1))) = -1 ∨ 0 ≤ (if sc t / 256 = (S.ty t).score / 256 then (if sc t = (S.ty t).score then w else wf w (plc G t (G.many t) (-1) + 1)) else wf w (plc G t (G.many t) (-1))) := by
  rw [plc_m ok ct]
  generalize 28 + nTurns G t.toInt.toNat 0 + (1 + nOvs G t (G.many t).toInt.toNat 0) = K at hb
  have k0 : 0 ≤ Int32.ofNat K := ofN_0 (by omega)
  have k1 : 0 ≤ Int32.ofNat K + 1 := by rw [ofN_s]; exact ofN_0 (by omega)
  have W : ∀ v, 0 ≤ v → wf w v = -1 ∨ 0 ≤ wf w v := fun v hv => by
    unfold wf
    split
    · exact Or.inr hv
    · exact hw
  split
  · split
    · exact hw
    · exact W _ k1
  · exact W _ k0
theorem p_11 {x3 : Int32} (I : PlF e g G S sc) (hr : S.rule = 0) : ∀ j t, (G.turns.toInt - t.toInt).toNat < j → ∀ w, 0 ≤ t → t ≤ G.turns → (w = -1 ∨ 0 ≤ w) → P_X12_placeWrong_11 j g (Int32.ofNat (28 + nTurns G t.toInt.toNat 0)) x3 (w + 1) t e = some (rCmp S G sc (G.turns.toInt - t.toInt).toNat t w + 1, e) := by
  have I' := I
  obtain ⟨g0, ok, h8, ⟨h28, -⟩, II⟩ := I
  have iN := imgN_le ok
  unfold imgN at iN
  have z0 : (0 : Int32).toInt = 0 := by decide
  have T4 := le_i ok.t4 (by decide : (4 : Int32).toInt = 4)
  have mono : ∀ t : Int32, inL G.turns t → nTurns G (t + 1).toInt.toNat 0 ≤ 25000 := fun t ct => by
    have a := i32_succ ct.2
    have b := Int32.lt_iff_toInt_lt.mp ct.2
    have h := nTurns_mo (G := G) (q := 0) (G.turns.toInt.toNat - (t + 1).toInt.toNat) (t + 1).toInt.toNat
    rw [show (t + 1).toInt.toNat + (G.turns.toInt.toNat - (t + 1).toInt.toNat) = G.turns.toInt.toNat by omega] at h
    omega
  refine i32_up ?_ ?_
  · intro j t hc w t0 tt hw
    unfold P_X12_placeWrong_11
    rw [ck_t g0, h8, if_pos hc, h28, hr, if_pos rfl, sub_none hc]
    rfl
  · intro j t hc ih w t0 tt hw
    unfold P_X12_placeWrong_11 P_X12_placeWrong_50
    have ct : inL G.turns t := ⟨t0, hc⟩
    have tl : t < 1000 := Int32.lt_of_lt_of_le hc (i32_tr ok.t4 (by decide))
    have ts := nTurns_t (G := G) t0 tl
    have m := mono t ct
    rw [ts] at m
    have zz : ((G.many t).toInt - (0 : Int32).toInt).toNat = (G.many t).toInt.toNat := by rw [z0, Int.sub_zero]
    have m130 := le_i (ok.2.2.2 t t0 hc).1.2 (by decide : (130 : Int32).toInt = 130)
    rw [ck_t g0, h8, if_neg (Int32.not_le.mpr hc), h28, hr, if_pos rfl, bd_e, ofN_s, p_56 I' ct hr fu 0 (by rw [zz]; show _ < 10000000; omega) _ (by decide) (by rw [zz]; omega), zz]
    rw [show 28 + nTurns G t.toInt.toNat 0 + 1 + nOvs G t (G.many t).toInt.toNat 0 = 28 + nTurns G t.toInt.toNat 0 + (1 + nOvs G t (G.many t).toInt.toNat 0) by omega, x4n_w ok ct hw, sub_succ hc]
    rw [show 28 + nTurns G t.toInt.toNat 0 + (1 + nOvs G t (G.many t).toInt.toNat 0) + 2 = 28 + nTurns G (t + 1).toInt.toNat 0 by rw [ts]; omega]
    refine ih _ (i32_ps t0 hc) ?_ (wf_b ok ct hw (by omega))
    have := i32_succ hc
    have := Int32.lt_iff_toInt_lt.mp hc
    exact Int32.le_iff_toInt_le.mpr (by omega)
end Mp2
