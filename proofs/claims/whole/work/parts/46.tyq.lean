/-! What the Tally tells -/
def sumU (f : Int32 → Int32) : Nat → Int32 → Int32 → Int32
  | 0, _, a => a
  | n + 1, i, a => sumU f n (i + 1) (a + f i)
def imin (x y : Int32) : Int32 := if x ≤ y then x else y
def Ty.cs (w : Int32) (T : Ty) : Int32 := if w = 11 then sumU (fun r => T.bat r 0) 11 0 0 + T.extras else if w = 12 then sumU (fun r => T.bow r 1) 11 0 0 + T.nobodys else if w = 13 then sumU (fun r => T.ov r 0) (imin T.begun 120).toInt.toNat 0 0 else if w = 14 then sumU (fun r => T.bow r 2) 11 0 0 else if w = 15 then sumU (fun r => if T.bat r 2 = 6 then 1 else 0) 11 0 0 else 0
def Ty.fig (w : Int32) (T : Ty) : Int32 := if w = 0 then T.score else if w = 1 then T.outs else if w = 2 then T.whole else if w = 3 then T.counted else if w = 4 then T.extras else if w = 5 then T.allowed else if w = 6 then T.ended else if w = 7 then T.opn else if w = 8 then T.means else if w = 9 then (if T.played = 0 then 0 else 1) else T.cs w
def Ty.ovf (o w : Int32) (T : Ty) : Int32 := if 0 ≤ o ∧ o < T.begun then (if w = 7 then 1 else T.ov o (w - 2)) else 0
theorem lt_of_nle {a b : Int32} (h : ¬ a ≤ b) : b < a := Int32.not_le.mp h
theorem le_of_nlt {a b : Int32} (h : ¬ a < b) : b ≤ a := Int32.not_lt.mp h
theorem imin_spec (x y i : Int32) : imin x y ≤ i ↔ x ≤ i ∨ y ≤ i := by
  unfold imin
  by_cases c : x ≤ y
  · rw [if_pos c]; constructor
    · exact Or.inl
    · intro q; rcases q with q | q <;> grind
  · rw [if_neg c]; constructor
    · exact Or.inr
    · intro q; rcases q with q | q <;> grind
theorem sub_succ {i e : Int32} (c : i < e) : (e.toInt - i.toInt).toNat = (e.toInt - (i + 1).toInt).toNat + 1 := by
  have h1 := i32_succ c
  have h2 := Int32.lt_iff_toInt_lt.mp c
  omega
theorem sub_none {i e : Int32} (c : e ≤ i) : (e.toInt - i.toInt).toNat = 0 := by
  have h2 := Int32.le_iff_toInt_le.mp c
  omega
theorem gr_sum {h : aH} {g : Nat} {R C N c x : Int32} (hg : GrS h g R C N) (hi : GIx R C N) : ∀ n i, ((imin x R).toInt - i.toInt).toNat < n → ∀ acc, F_X4_sumOf_5 n g c x acc i h = some (sumU (fun r => gv h (g + 1) R C r c) ((imin x R).toInt - i.toInt).toNat i acc, h) := by
  refine i32_up ?_ ?_
  · intro n i hc acc
    rw [sub_none hc]
    unfold F_X4_sumOf_5
    by_cases c1 : x ≤ i
    · rw [if_pos c1]; rfl
    · rw [if_neg c1, ck_t hg.1, hg.2.1, if_pos (((imin_spec x R i).mp hc).resolve_left c1)]; rfl
  · intro n i hc ih acc
    rw [sub_succ hc]
    unfold F_X4_sumOf_5
    have c1 : ¬ x ≤ i := fun q => absurd ((imin_spec x R i).mpr (Or.inl q)) (Int32.not_le.mpr hc)
    have c2 : ¬ R ≤ i := fun q => absurd ((imin_spec x R i).mpr (Or.inr q)) (Int32.not_le.mpr hc)
    rw [if_neg c1, ck_t hg.1, hg.2.1, if_neg c2, gr_at hg hi]
    simp only [Option.bind_some, bd_e]
    rw [ih]
    rfl
theorem gr_many {h : aH} {g : Nat} {R C N c x : Int32} (hg : GrS h g R C N) (hi : GIx R C N) : ∀ n i, (R.toInt - i.toInt).toNat < n → ∀ acc, F_X4_howMany_5 n g c x acc i h = some (sumU (fun r => if gv h (g + 1) R C r c = x then 1 else 0) (R.toInt - i.toInt).toNat i acc, h) := by
  refine i32_up ?_ ?_
  · intro n i hc acc
    rw [sub_none hc]
    unfold F_X4_howMany_5
    rw [ck_t hg.1, hg.2.1, if_pos hc]; rfl
  · intro n i hc ih acc
    rw [sub_succ hc]
    unfold F_X4_howMany_5
    rw [ck_t hg.1, hg.2.1, if_neg (Int32.not_le.mpr hc), gr_at hg hi]
    simp only [Option.bind_some, bd_e]
    have e : (if 0 ≤ i ∧ i < R ∧ 0 ≤ c ∧ c < C then rdA h (g + 1) (i * C + c) else 0) = gv h (g + 1) R C i c := rfl
    rw [e]
    by_cases q : gv h (g + 1) R C i c = x
    · rw [if_pos q]
      unfold F_X4_howMany_31
      simp only [bd_e]
      rw [ih, sumU, if_pos q]
    · rw [if_neg q]
      unfold F_X4_howMany_31
      simp only [bd_e]
      rw [ih, sumU, if_neg q]
theorem gr_sumA {h : aH} {g : Nat} {R C N c x : Int32} (hg : GrS h g R C N) (hi : GIx R C N) (hR : R.toInt < 10000) : F_X4_sumOf g c x h = some (sumU (fun r => gv h (g + 1) R C r c) (imin x R).toInt.toNat 0 0, h) := by
  unfold F_X4_sumOf
  have e0 : (0 : Int32).toInt = 0 := by decide
  have h1 : (imin x R).toInt ≤ R.toInt := by
    unfold imin
    by_cases c : x ≤ R
    · rw [if_pos c]; exact Int32.le_iff_toInt_le.mp c
    · rw [if_neg c]; exact Int.le_refl _
  rw [gr_sum hg hi fu 0 (by unfold fu; omega) 0, e0, Int.sub_zero]
theorem gr_manyA {h : aH} {g : Nat} {R C N c x : Int32} (hg : GrS h g R C N) (hi : GIx R C N) (hR : R.toInt < 10000) : F_X4_howMany g c x h = some (sumU (fun r => if gv h (g + 1) R C r c = x then 1 else 0) R.toInt.toNat 0 0, h) := by
  unfold F_X4_howMany
  have e0 : (0 : Int32).toInt = 0 := by decide
  rw [gr_many hg hi fu 0 (by unfold fu; omega) 0, e0, Int.sub_zero]
section TQ
variable {a : Nat} {h0 h : aH} {T : Ty}
theorem imin_11 : (imin 11 11).toInt.toNat = 11 := by decide
theorem c_cs (S : St a h0 h T) {w : Int32} : F_X9_crossSum a w h = some (T.cs w, h) := by
  unfold F_X9_crossSum Ty.cs
  obtain ⟨⟨s1, s2, s3, s4, s5, s6, s7⟩, sf, st⟩ := S
  have S : St a h0 h T := ⟨⟨s1, s2, s3, s4, s5, s6, s7⟩, sf, st⟩
  by_cases c1 : w = 11
  · rw [if_pos c1, if_pos c1, s2, Option.bind_some, ck_t s5.1, gr_sumA s5 gix_11_3 (by decide), imin_11]
    simp only [Option.bind_some, bd_e]
    rw [ck_t s1, St.extras S, ← st]; rfl
  rw [if_neg c1, if_neg c1]
  by_cases c2 : w = 12
  · rw [if_pos c2, if_pos c2, s3, Option.bind_some, ck_t s6.1, gr_sumA s6 gix_11_3 (by decide), imin_11]
    simp only [Option.bind_some, bd_e]
    rw [ck_t s1, St.nobodys S, ← st]; rfl
  rw [if_neg c2, if_neg c2]
  by_cases c3 : w = 13
  · rw [if_pos c3, if_pos c3, s4, Option.bind_some, ck_t s7.1, gr_sumA s7 gix_120_5 (by decide), St.begun S]
    simp only [Option.bind_some, bd_e]
    rw [← st]; rfl
  rw [if_neg c3, if_neg c3]
  by_cases c4 : w = 14
  · rw [if_pos c4, if_pos c4, s3, Option.bind_some, ck_t s6.1, gr_sumA s6 gix_11_3 (by decide), imin_11]
    simp only [Option.bind_some, bd_e]
    rw [← st]; rfl
  rw [if_neg c4, if_neg c4]
  by_cases c5 : w = 15
  · rw [if_pos c5, if_pos c5, s2, Option.bind_some, ck_t s5.1, gr_manyA s5 gix_11_3 (by decide)]
    simp only [Option.bind_some, bd_e]
    rw [← st]; rfl
  rw [if_neg c5, if_neg c5]
theorem c_fig (S : St a h0 h T) {w : Int32} : F_X9_figure a w h = some (T.fig w, h) := by
  unfold F_X9_figure Ty.fig
  ((try simp only [St.played S, St.score S, St.outs S, St.extras S, St.nobodys S, St.allowed S, St.means S, St.ended S, St.begun S, St.whole S, St.opn S, St.counted S, St.bowler S, St.faces S, St.other S, St.next S]); (try simp only [Ty.i1, Ty.i2, Ty.g1, Ty.g2, ↓reduceIte, Nat.reduceEqDiff]))
  by_cases c0 : w = 0
  · rw [if_pos c0, if_pos c0]
  rw [if_neg c0, if_neg c0]
  by_cases c1 : w = 1
  · rw [if_pos c1, if_pos c1]
  rw [if_neg c1, if_neg c1]
  by_cases c2 : w = 2
  · rw [if_pos c2, if_pos c2]
  rw [if_neg c2, if_neg c2]
  by_cases c3 : w = 3
  · rw [if_pos c3, if_pos c3]
  rw [if_neg c3, if_neg c3]
  by_cases c4 : w = 4
  · rw [if_pos c4, if_pos c4]
  rw [if_neg c4, if_neg c4]
  by_cases c5 : w = 5
  · rw [if_pos c5, if_pos c5]
  rw [if_neg c5, if_neg c5]
  by_cases c6 : w = 6
  · rw [if_pos c6, if_pos c6]
  rw [if_neg c6, if_neg c6]
  by_cases c7 : w = 7
  · rw [if_pos c7, if_pos c7]
  rw [if_neg c7, if_neg c7]
  by_cases c8 : w = 8
  · rw [if_pos c8, if_pos c8]
  rw [if_neg c8, if_neg c8]
  by_cases c9 : w = 9
  · rw [if_pos c9, if_pos c9]
    by_cases q : T.played = 0
    · rw [if_pos q, if_pos q]
    · rw [if_neg q, if_neg q]
  rw [if_neg c9, if_neg c9, c_cs S]
  rfl
theorem c_ovf (S : St a h0 h T) {o w : Int32} : F_X9_overFigure a o w h = some (T.ovf o w, h) := by
  unfold F_X9_overFigure Ty.ovf
  ((try simp only [St.played S, St.score S, St.outs S, St.extras S, St.nobodys S, St.allowed S, St.means S, St.ended S, St.begun S, St.whole S, St.opn S, St.counted S, St.bowler S, St.faces S, St.other S, St.next S]); (try simp only [Ty.i1, Ty.i2, Ty.g1, Ty.g2, ↓reduceIte, Nat.reduceEqDiff]))
  have k1 : F_X9_overFigure_16 a o w h = some (0, h) := by
    unfold F_X9_overFigure_16 F_X9_overFigure_17
    by_cases c7 : w = 7
    · rw [if_pos c7, if_pos rfl]
    · rw [if_neg c7, if_pos rfl]
  by_cases c1 : o < 0
  · rw [if_pos c1, if_neg (fun q => by have := q.1; grind), k1]
  rw [if_neg c1]
  by_cases c2 : T.begun ≤ o
  · rw [if_pos c2, if_neg (fun q => by have := q.2; grind), k1]
  rw [if_neg c2, if_pos (And.intro (le_of_nlt c1) (lt_of_nle c2))]
  unfold F_X9_overFigure_17
  by_cases c7 : w = 7
  · rw [if_pos c7, if_pos c7, if_neg (by decide)]
  · rw [if_neg c7, if_neg c7, if_neg (by decide), ck_t S.1.1, S.1.2.2.2.1, Option.bind_some, ck_t S.1.2.2.2.2.2.2.1, c_at2 S]
    rfl
theorem in_k {k : Int32} (h1 : 0 ≤ k) (h2 : k ≤ 9) : inR k 10 := by
  have a1 := Int32.le_iff_toInt_le.mp h1
  have a2 := Int32.le_iff_toInt_le.mp h2
  have e0 : (0 : Int32).toInt = 0 := by decide
  have e9 : (9 : Int32).toInt = 9 := by decide
  intro q
  rcases q with q | q
  · have := Int32.lt_iff_toInt_lt.mp q; omega
  · have h4 : (k.toNatClampNeg : Int) = k.toInt := by
      show ((k.toInt.toNat : Nat) : Int) = k.toInt
      omega
    omega
theorem c_r85 (S : St a h0 h T) {rn k v : Int32} : F_X9_ruleOfEntry_85 a rn k v h = some (if k = 8 ∧ (rn = 0 ∨ T.allowed - v < T.begun) then 10 else 0, h) := by
  unfold F_X9_ruleOfEntry_85
  ((try simp only [St.played S, St.score S, St.outs S, St.extras S, St.nobodys S, St.allowed S, St.means S, St.ended S, St.begun S, St.whole S, St.opn S, St.counted S, St.bowler S, St.faces S, St.other S, St.next S]); (try simp only [Ty.i1, Ty.i2, Ty.g1, Ty.g2, ↓reduceIte, Nat.reduceEqDiff]))
  by_cases c8 : k = 8
  · rw [if_pos c8]
    by_cases cr : rn = 0
    · rw [if_pos cr, if_pos (And.intro c8 (Or.inl cr))]
    · rw [if_neg cr, ck_t S.1.1]
      by_cases cb : T.begun ≤ T.allowed - v
      · rw [if_pos cb, if_neg (fun q => by rcases q.2 with q | q; exact cr q; exact absurd cb (Int32.not_le.mpr q))]
      · rw [if_neg cb, if_pos (And.intro c8 (Or.inr (lt_of_nle cb)))]
  · rw [if_neg c8, if_neg (fun q => c8 q.1)]
theorem c_ruleE (S : St a h0 h T) {c rn : Int32} : F_X9_ruleOfEntry a c rn h = some (T.ruleE c rn, h) := by
  unfold F_X9_ruleOfEntry Ty.ruleE
  ((try simp only [St.played S, St.score S, St.outs S, St.extras S, St.nobodys S, St.allowed S, St.means S, St.ended S, St.begun S, St.whole S, St.opn S, St.counted S, St.bowler S, St.faces S, St.other S, St.next S]); (try simp only [Ty.i1, Ty.i2, Ty.g1, Ty.g2, ↓reduceIte, Nat.reduceEqDiff]))
  simp only [bd_e]
  generalize c / 16 = k
  generalize c - k * 16 = v
  by_cases c1 : k < 0
  · rw [if_pos c1, if_neg (fun q => by have := q.1; grind)]
  rw [if_neg c1]
  by_cases c2 : 9 < k
  · rw [if_pos c2, if_neg (fun q => by have := q.2.1; grind)]
  rw [if_neg c2, ck_t (in_k (le_of_nlt c1) (le_of_nlt c2))]
  by_cases c3 : v < lvLi k.toNatClampNeg
  · rw [if_pos c3, if_neg (fun q => absurd q.2.2.1 (Int32.not_le.mpr c3))]
  rw [if_neg c3]
  by_cases c4 : v ≤ lvMi k.toNatClampNeg
  · have hE : Ty.isE k v := ⟨le_of_nlt c1, le_of_nlt c2, le_of_nlt c3, c4⟩
    rw [if_pos c4, if_pos hE]
    by_cases c5 : T.ended = 0
    · rw [if_pos c5, if_pos c5]
      by_cases c6 : T.whole = T.begun
      · rw [if_pos c6, c_counts]
        simp only [Option.bind_some]
        by_cases c7 : kc k
        · rw [if_pos c7, if_neg (by decide), if_pos (And.intro c6 (Or.inl c7))]
        · rw [if_neg c7, if_pos rfl]
          by_cases c8 : k = 1
          · rw [if_pos c8, if_pos (And.intro c6 (Or.inr (Or.inl c8)))]
          · rw [if_neg c8]
            by_cases c9 : k = 2
            · rw [if_pos c9, if_pos (And.intro c6 (Or.inr (Or.inr c9)))]
            · rw [if_neg c9, if_neg (fun q => by rcases q.2 with q | q | q; exact c7 q; exact c8 q; exact c9 q), c_r85 S]
      · rw [if_neg c6, if_neg (fun q => c6 q.1), c_r85 S]
    · rw [if_neg c5, if_neg c5]
  · rw [if_neg c4, if_neg (fun q => c4 q.2.2.2)]
end TQ
