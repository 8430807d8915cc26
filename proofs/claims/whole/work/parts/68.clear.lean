/-! the reference clears its ints ahead of play -/
theorem hfuX {t : Int32} (t0 : 0 ≤ t) (t1 : t < 4) : ((11 * t + 11).toInt - (11 * t).toInt).toNat < fu := by
  have b1 : 11 * t + 11 ≤ 44 := by grind
  have b2 : 0 ≤ 11 * t := by grind
  have c1 := Int32.le_iff_toInt_le.mp b1
  have c2 := Int32.le_iff_toInt_le.mp b2
  have e4 : (44 : Int32).toInt = 44 := by decide
  have e0 : (0 : Int32).toInt = 0 := by decide
  rw [e4] at c1
  rw [e0] at c2
  generalize (11 * t + 11).toInt = u at *
  generalize (11 * t).toInt = v at *
  show _ < 10000000
  omega
theorem r_clearB {t : Int32} {e w : mE} (t0 : 0 ≤ t) (t1 : t < 4) (hI : ∀ k j, w.2 k j = if 35 ≤ k ∧ k ≤ 52 ∧ j = t then clv k else e.2 k j) (hE : w.1 = e.1) : P_X12_clearTurn_131 fu t (11 * t) w = some (CL t e) := by
  rw [r_131 t0 t1 fu (11 * t) (hfuX t0 t1) w (Int32.le_refl _), hE]
  unfold CL
  refine congrArg some (Prod.ext rfl (funext fun k => funext fun j => ?_))
  dsimp only
  rw [hI]
  by_cases hk : 35 ≤ k ∧ k ≤ 52 ∧ j = t
  · rw [if_pos hk, if_pos hk, if_neg (show ¬ (53 ≤ k ∧ k ≤ 58 ∧ 11 * t ≤ j ∧ j < 11 * t + 11) by omega)]
  · rw [if_neg hk, if_neg hk]
theorem mA_1 (e : mE) (k : Nat) (i v : Int32) : (mA e k i v).1 = e.1 := rfl
theorem r_clear {t : Int32} {e : mE} (t0 : 0 ≤ t) (t1 : t < 4) : P_X12_clearTurn t e = some (CL t e) := by
  rw [r_clearA ⟨t0, t1⟩]
  refine r_clearB t0 t1 (fun k j => clI t e k j) ?_
  rw [mA_1, mA_1, mA_1, mA_1, mA_1, mA_1, mA_1, mA_1, mA_1, mA_1, mA_1, mA_1, mA_1, mA_1, mA_1, mA_1, mA_1, mA_1]

section CLR
variable {eb : mE} {g : Int32} {G : Pg}
abbrev InP (G : Pg) (q o : Int32) : Prop := (0 ≤ q ∧ q < G.turns) ∧ 0 ≤ o ∧ o < G.many q
/-- the rows up to (t, o) are cleared -/
def Zc (eb : mE) (g : Int32) (G : Pg) (t o : Int32) (e : mE) : Prop := ∀ q o', InP G q o' → q < t ∨ q = t ∧ o' < o → ∀ k, 59 ≤ k → k ≤ 64 → e.2 k (rwT eb g q o') = 0
def Zf (e e' : mE) : Prop := e'.1 = e.1 ∧ ∀ k i, ¬ (59 ≤ k ∧ k ≤ 64) → e'.2 k i = e.2 k i
def z6 (r : Int32) (e : mE) : mE := mA (mA (mA (mA (mA (mA e 59 r 0) 60 r 0) 61 r 0) 62 r 0) 63 r 0) 64 r 0
theorem z6_rd (r : Int32) (e : mE) (k : Nat) (i : Int32) : (z6 r e).2 k i = if 59 ≤ k ∧ k ≤ 64 ∧ i = r then 0 else e.2 k i := by
  show (if k = 64 ∧ i = r then (0 : Int32) else if k = 63 ∧ i = r then 0 else if k = 62 ∧ i = r then 0 else if k = 61 ∧ i = r then 0 else if k = 60 ∧ i = r then 0 else if k = 59 ∧ i = r then 0 else e.2 k i) = _
  by_cases z : i = r
  · simp only [z, and_true]
    by_cases hk : 59 ≤ k ∧ k ≤ 64
    · rw [if_pos hk]
      have : k = 59 ∨ k = 60 ∨ k = 61 ∨ k = 62 ∨ k = 63 ∨ k = 64 := by omega
      rcases this with q | q | q | q | q | q <;> subst q <;> rfl
    · rw [if_neg hk]
      simp only [show ¬ k = 64 by omega, show ¬ k = 63 by omega, show ¬ k = 62 by omega, show ¬ k = 61 by omega, show ¬ k = 60 by omega, show ¬ k = 59 by omega, if_false]
  · simp only [z, and_false, if_false]
theorem r_55 (h : PgW eb g G) {t : Int32} (t0 : 0 ≤ t) (ht : t < G.turns) {k43 : Int32 → Int32 → mE → Option mE} : ∀ n o, ((G.many t).toInt - o.toInt).toNat < n → ∀ e, 0 ≤ o → Zc eb g G t o e → (∀ k i, k < 35 → e.2 k i = eb.2 k i) → ∃ e', P_X12_play_55 k43 n g t o e = k43 g (t + 1) e' ∧ Zc eb g G (t + 1) 0 e' ∧ Zf e e' := by
  have t4 := h.t4 ht
  have h' := h
  obtain ⟨⟨g0, g1⟩, h2, h3, h4, h5, h6, h7, h8, h9⟩ := h
  obtain ⟨R1, R2, R3, R4⟩ := h8 t t0 ht
  have ix := ix4 g0 g1 t0 t4
  refine i32_up ?_ ?_
  · intro n o hc e o0 Z lo
    unfold P_X12_play_55
    rw [ck_t ix, (lo 9 _ (by decide)).trans R1, if_pos hc, bd_e]
    refine ⟨e, rfl, fun q o' hp hq k a b => Z q o' hp ?_ k a b, rfl, fun _ _ _ => rfl⟩
    rcases hq with y | y
    · rcases (i32_ls t4).mp y with w | w
      · exact Or.inl w
      · refine Or.inr ⟨w, ?_⟩
        have := hp.2.2
        rw [w] at this
        exact Int32.lt_of_lt_of_le this hc
    · exact absurd hp.2.1 (Int32.not_le.mpr y.2)
  · intro n o hc ih e o0 Z lo
    obtain ⟨q1, q2, _⟩ := R4 o o0 hc
    have e10 : e.2 10 (130 * (4 * g + t) + o) = rwT eb g t o := lo 10 _ (by decide)
    unfold P_X12_play_55
    rw [ck_t ix, (lo 9 _ (by decide)).trans R1, if_neg (Int32.not_le.mpr hc), r_rowOf g0 g1 t0 t4 o0 (Int32.lt_of_lt_of_le hc R3)]
    simp only [Option.bind_some, bd_e]
    rw [e10, ck_t q2, ck_t q2, ck_t q2, ck_t q2, ck_t q2, ck_t q2]
    have fold : mA (mA (mA (mA (mA (mA e 59 (rwT eb g t o) 0) 60 (rwT eb g t o) 0) 61 (rwT eb g t o) 0) 62 (rwT eb g t o) 0) 63 (rwT eb g t o) 0) 64 (rwT eb g t o) 0 = z6 (rwT eb g t o) e := rfl
    rw [fold]
    have rd := z6_rd (rwT eb g t o) e
    have r1 : (z6 (rwT eb g t o) e).1 = e.1 := by unfold z6; rw [mA_1, mA_1, mA_1, mA_1, mA_1, mA_1]
    generalize z6 (rwT eb g t o) e = e2 at *
    obtain ⟨e3, p1, p2, p3⟩ := ih e2 (i32_ps o0 hc) (by
      intro q o' hp hq k a b
      rw [rd]
      by_cases c : rwT eb g q o' = rwT eb g t o
      · rw [if_pos ⟨a, b, c⟩]
      · rw [if_neg (fun z => c z.2.2)]
        refine Z q o' hp ?_ k a b
        rcases hq with y | y
        · exact Or.inl y
        · refine Or.inr ⟨y.1, ?_⟩
          refine ((i32_ls hc).mp y.2).resolve_right (fun z => c ?_)
          rw [y.1, z]) (by
      intro k i hk
      rw [rd, if_neg (by omega)]
      exact lo k i hk)
    refine ⟨e3, p1, p2, p3.1.trans r1, fun k i hk => (p3.2 k i hk).trans ?_⟩
    rw [rd, if_neg (fun z => hk ⟨z.1, z.2.1⟩)]
theorem r_43 (h : PgW eb g G) : ∀ n t, (G.turns.toInt - t.toInt).toNat < n → ∀ e, 0 ≤ t → t ≤ G.turns → Zc eb g G t 0 e → (∀ k i, k < 35 → e.2 k i = eb.2 k i) → ∃ e', P_X12_play_43 n g t e = P_X12_play_140 fu g 0 e' ∧ Zc eb g G G.turns 0 e' ∧ Zf e e' := by
  have h' := h
  obtain ⟨⟨g0, g1⟩, h2, h3, h4, h5, h6, h7, h8, h9⟩ := h
  refine i32_up ?_ ?_
  · intro n t hc e t0 tT Z lo
    unfold P_X12_play_43
    rw [ck_t ⟨g0, g1⟩, (lo 8 _ (by decide)).trans h6, if_pos hc]
    have : t = G.turns := by
      clear Z lo h' h8 h9
      grind
    rw [this] at Z
    exact ⟨e, rfl, Z, rfl, fun _ _ _ => rfl⟩
  · intro n t hc ih e t0 tT Z lo
    unfold P_X12_play_43
    rw [ck_t ⟨g0, g1⟩, (lo 8 _ (by decide)).trans h6, if_neg (Int32.not_le.mpr hc)]
    have m130 : (G.many t).toInt ≤ 130 := Int32.le_iff_toInt_le.mp (h8 t t0 hc).2.2.1
    have z0 : (0 : Int32).toInt = 0 := by decide
    obtain ⟨e2, p1, p2, p3⟩ := r_55 h' t0 hc (k43 := P_X12_play_43 n) fu 0 (by show _ < 10000000; omega) e (by decide) Z lo
    rw [p1]
    have t1 : t + 1 ≤ G.turns := by
      have a := i32_succ hc
      have b := Int32.lt_iff_toInt_lt.mp hc
      exact Int32.le_iff_toInt_le.mpr (by omega)
    obtain ⟨e3, q1, q2, q3⟩ := ih e2 (i32_ps t0 hc) t1 p2 (fun k i hk => (p3.2 k i (by omega)).trans (lo k i hk))
    exact ⟨e3, q1, q2, q3.1.trans p3.1, fun k i hk => (q3.2 k i hk).trans (p3.2 k i hk)⟩
theorem r_25 {e : mE} : P_X12_play_25 fu g 0 e = P_X12_play_43 fu g 0 (CL 3 (CL 2 (CL 1 (CL 0 e)))) := by
  have k : ∀ n, P_X12_play_25 (n + 5) g 0 e = P_X12_play_43 fu g 0 (CL 3 (CL 2 (CL 1 (CL 0 e)))) := by
    intro n
    rw [P_X12_play_25, if_neg (by decide), r_clear (by decide) (by decide)]
    rw [Option.bind_some, bd_e]
    rw [show (0 : Int32) + 1 = 1 from by decide, P_X12_play_25, if_neg (by decide), r_clear (by decide) (by decide)]
    rw [Option.bind_some, bd_e]
    rw [show (1 : Int32) + 1 = 2 from by decide, P_X12_play_25, if_neg (by decide), r_clear (by decide) (by decide)]
    rw [Option.bind_some, bd_e]
    rw [show (2 : Int32) + 1 = 3 from by decide, P_X12_play_25, if_neg (by decide), r_clear (by decide) (by decide)]
    rw [Option.bind_some, bd_e]
    rw [show (3 : Int32) + 1 = 4 from by decide, P_X12_play_25, if_pos (by decide)]
  obtain ⟨n, hn⟩ : ∃ n, fu = n + 5 := ⟨9999995, rfl⟩
  have h5 := k n
  rw [← hn] at h5
  exact h5
end CLR
