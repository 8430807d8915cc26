/-! score(): all its figures -/
theorem sumU_acc (f : Int32 → Int32) : ∀ n i a, sumU f n i a = a + sumU f n i 0
  | 0, i, a => by unfold sumU; grind
  | n + 1, i, a => by
    unfold sumU
    rw [sumU_acc f n (i + 1) (a + f i), sumU_acc f n (i + 1) (0 + f i)]
    grind
theorem sumU_at (f : Int32 → Int32) (i : Int32) : sumU f 11 i 0 = sm (fun k => f (i + k)) := by
  simp only [sumU, sm]
  have e0 : i + 0 = i := by grind
  have e2 : i + 1 + 1 = i + 2 := by grind
  have e3 : i + 2 + 1 = i + 3 := by grind
  have e4 : i + 3 + 1 = i + 4 := by grind
  have e5 : i + 4 + 1 = i + 5 := by grind
  have e6 : i + 5 + 1 = i + 6 := by grind
  have e7 : i + 6 + 1 = i + 7 := by grind
  have e8 : i + 7 + 1 = i + 8 := by grind
  have e9 : i + 8 + 1 = i + 9 := by grind
  have e10 : i + 9 + 1 = i + 10 := by grind
  simp only [e0, e2, e3, e4, e5, e6, e7, e8, e9, e10]
  generalize f i = a0
  generalize f (i + 1) = a1
  generalize f (i + 2) = a2
  generalize f (i + 3) = a3
  generalize f (i + 4) = a4
  generalize f (i + 5) = a5
  generalize f (i + 6) = a6
  generalize f (i + 7) = a7
  generalize f (i + 8) = a8
  generalize f (i + 9) = a9
  generalize f (i + 10) = a10
  grind
theorem sumU_cut {f f' : Int32 → Int32} {M b : Int32} (hb : b ≤ M) (hf : ∀ o, 0 ≤ o → o < M → f o = if o < b then f' o else 0) : ∀ n o, (M.toInt - o.toInt).toNat < n → 0 ≤ o → ∀ a, sumU f (M.toInt - o.toInt).toNat o a = sumU f' (b.toInt - o.toInt).toNat o a := by
  refine i32_up ?_ ?_
  · intro n o hc o0 a
    rw [sub_none hc, sub_none (i32_tr hb hc)]
    rfl
  · intro n o hc ih o0 a
    rw [sub_succ hc]
    have i1 := ih (i32_ps o0 hc)
    by_cases c : o < b
    · rw [sub_succ c, sumU, sumU, hf o o0 hc, if_pos c]
      exact i1 _
    · have c' := Int32.not_lt.mp c
      have c2 : b ≤ o + 1 := by
        have a1 := i32_succ hc
        have a2 := Int32.le_iff_toInt_le.mp c'
        exact Int32.le_iff_toInt_le.mpr (by omega)
      have e0 : a + 0 = a := by grind
      rw [sub_none c']
      show sumU f (M.toInt - (o + 1).toInt).toNat (o + 1) (a + f o) = a
      rw [hf o o0 hc, if_neg c, e0, i1, sub_none c2]
      rfl
theorem fu1 : ∃ n, fu = n + 1 := ⟨9999999, rfl⟩
section SC
variable {eb e : mE} {g q : Int32} {G : Pg} {A : Ty}
theorem r_98n (g0 : 0 ≤ g) (g1 : g < 400) (q0 : 0 ≤ q) (q1 : q < 4) {w a : Int32} (hw : w ≠ 13) : P_X12_sumOf_98 fu g q w a 0 e = some (a, e) := by
  obtain ⟨n, hn⟩ := fu1
  rw [hn, P_X12_sumOf_98, ck_t (ix4 g0 g1 q0 q1), if_neg hw]
  split <;> rfl
theorem r_98s (hp : PgW eb g G) (lo : ∀ k i, k < 35 → e.2 k i = eb.2 k i) (q0 : 0 ≤ q) (q1 : q < G.turns) : ∀ n o, ((G.many q).toInt - o.toInt).toNat < n → 0 ≤ o → ∀ a, P_X12_sumOf_98 n g q 13 a o e = some (sumU (fun o => e.2 59 (rwT eb g q o)) ((G.many q).toInt - o.toInt).toNat o a, e) := by
  have q4 := hp.t4 q1
  obtain ⟨⟨g0, g1⟩, h2, h3, h4, h5, h6, h7, h8, h9⟩ := hp
  obtain ⟨R1, R2, R3, R4⟩ := h8 q q0 q1
  have e9 : e.2 9 (4 * g + q) = G.many q := (lo 9 _ (by decide)).trans R1
  refine i32_up ?_ ?_
  · intro n o hc o0 a
    rw [sub_none hc, P_X12_sumOf_98, ck_t (ix4 g0 g1 q0 q4), e9, if_pos hc]
    rfl
  · intro n o hc ih o0 a
    have e10 : e.2 10 (130 * (4 * g + q) + o) = rwT eb g q o := lo 10 _ (by decide)
    rw [sub_succ hc, P_X12_sumOf_98, ck_t (ix4 g0 g1 q0 q4), e9, if_neg (Int32.not_le.mpr hc), if_pos rfl, r_rowOf g0 g1 q0 q4 o0 (Int32.lt_of_lt_of_le hc R3)]
    simp only [Option.bind_some, bd_e]
    rw [e10, ck_t (R4 o o0 hc).2.1, ih (i32_ps o0 hc)]
    rfl
theorem r_39 (q0 : 0 ≤ q) (q1 : q < 4) {w : Int32} : ∀ n i, ((11 * q + 11).toInt - i.toInt).toNat < n → 11 * q ≤ i → ∀ a, P_X12_sumOf_39 n g q w a i e = P_X12_sumOf_98 fu g q w (sumU (fun j => if w = 11 then e.2 53 j else if w = 12 then e.2 57 j else 0) ((11 * q + 11).toInt - i.toInt).toNat i a) 0 e := by
  refine i32_up ?_ ?_
  · intro n i hc hi a
    rw [sub_none hc, P_X12_sumOf_39, if_pos hc]
    rfl
  · intro n i hc ih hi a
    have b : (0 : Int32) ≤ i ∧ i < 44 := by
      clear ih
      constructor <;> grind
    have i1 : 11 * q ≤ i + 1 := by
      clear ih
      grind
    rw [sub_succ hc, P_X12_sumOf_39, if_neg (Int32.not_le.mpr hc), sumU]
    by_cases c1 : w = 11
    · rw [if_pos c1, ck_t b]
      unfold P_X12_sumOf_86
      rw [bd_e, bd_e, ih i1]
      simp only [if_pos c1]
    · rw [if_neg c1]
      by_cases c2 : w = 12
      · rw [if_pos c2, ck_t b]
        unfold P_X12_sumOf_86
        rw [bd_e, bd_e, ih i1]
        simp only [if_neg c1, if_pos c2]
      · rw [if_neg c2]
        unfold P_X12_sumOf_86
        rw [bd_e, bd_e, ih i1]
        simp only [if_neg c1, if_neg c2]
theorem cnt11 (q0 : 0 ≤ q) (q1 : q < 4) : ((11 * q + 11).toInt - (11 * q).toInt).toNat = 11 := by
  have : q = 0 ∨ q = 1 ∨ q = 2 ∨ q = 3 := by grind
  rcases this with z | z | z | z <;> subst z <;> decide
theorem r_31 (q0 : 0 ≤ q) (q1 : q < 4) {w a : Int32} : P_X12_sumOf_31 g q w a e = P_X12_sumOf_98 fu g q w (a + sm (fun k => if w = 11 then e.2 53 (11 * q + k) else if w = 12 then e.2 57 (11 * q + k) else 0)) 0 e := by
  unfold P_X12_sumOf_31
  rw [bd_e, r_39 q0 q1 fu (11 * q) (by rw [cnt11 q0 q1]; decide) (Int32.le_refl _), cnt11 q0 q1, sumU_acc, sumU_at]
theorem TQ.b0 (h : TQ eb g G e q A) {k : Int32} (k0 : 0 ≤ k) (k1 : k < 11) : e.2 53 (11 * q + k) = A.bat k 0 ∧ e.2 54 (11 * q + k) = A.bat k 1 ∧ e.2 55 (11 * q + k) = A.bat k 2 ∧ e.2 56 (11 * q + k) = A.bow k 0 ∧ e.2 57 (11 * q + k) = A.bow k 1 ∧ e.2 58 (11 * q + k) = A.bow k 2 := by
  have gi : ∀ c : Int32, 0 ≤ c → c < 3 → gin 11 3 k c := fun c a b => ⟨k0, k1, a, b⟩
  have r := h.2.1
  have a0 := r k 0 (gi 0 (by decide) (by decide))
  have a1 := r k 1 (gi 1 (by decide) (by decide))
  have a2 := r k 2 (gi 2 (by decide) (by decide))
  unfold reBat reBow at a0 a1 a2
  rw [if_pos (gi 0 (by decide) (by decide)), if_pos (gi 0 (by decide) (by decide))] at a0
  rw [if_pos (gi 1 (by decide) (by decide)), if_pos (gi 1 (by decide) (by decide))] at a1
  rw [if_pos (gi 2 (by decide) (by decide)), if_pos (gi 2 (by decide) (by decide))] at a2
  simp at a0 a1 a2
  exact ⟨a0.1, a1.1, a2.1, a0.2, a1.2, a2.2⟩
theorem r_scoreOf (hp : PgW eb g G) (lo : ∀ k i, k < 35 → e.2 k i = eb.2 k i) (q0 : 0 ≤ q) (q1 : q < G.turns) (h : TQ eb g G e q A) {w : Int32} (w0 : 0 ≤ w) (w1 : w ≤ 15) : P_X12_scoreOf g q w e = some (if w = 10 then G.many q else A.fig w, e) := by
  have q4 := hp.t4 q1
  have hp' := hp
  obtain ⟨⟨g0, g1⟩, h2, h3, h4, h5, h6, h7, h8, h9⟩ := hp'
  obtain ⟨R1, R2, R3, R4⟩ := h8 q q0 q1
  have c := And.intro q0 q4
  have rd := h.1
  have f35 : e.2 35 q = A.score := rd 1 (by decide)
  have f36 : e.2 36 q = A.outs := rd 2 (by decide)
  have f37 : e.2 37 q = A.whole := rd 9 (by decide)
  have f38 : e.2 38 q = A.counted := rd 11 (by decide)
  have f39 : e.2 39 q = A.extras := rd 3 (by decide)
  have f40 : e.2 40 q = A.allowed := rd 5 (by decide)
  have f41 : e.2 41 q = A.ended := rd 7 (by decide)
  have f42 : e.2 42 q = A.opn := rd 10 (by decide)
  have f43 : e.2 43 q = A.means := rd 6 (by decide)
  have f48 : e.2 48 q = A.nobodys := rd 4 (by decide)
  have f52 : e.2 52 q = A.played := rd 0 (by decide)
  have f9 : e.2 9 (4 * g + q) = G.many q := (lo 9 _ (by decide)).trans R1
  have s11 : P_X12_sumOf g q 11 e = some (A.cs 11, e) := by
    unfold P_X12_sumOf
    rw [if_pos rfl, ck_t c, r_31 q0 q4, r_98n g0 g1 q0 q4 (by decide), f39]
    unfold Ty.cs
    rw [if_pos rfl, sumU_11]
    have : sm (fun k => if (11 : Int32) = 11 then e.2 53 (11 * q + k) else if (11 : Int32) = 12 then e.2 57 (11 * q + k) else 0) = sm (fun r => A.bat r 0) := sm_eq (fun j a b => by rw [if_pos rfl]; exact (h.b0 a b).1)
    rw [this]
    congr 2
    clear h hp lo h8 h9 R4 this
    grind
  have s12 : P_X12_sumOf g q 12 e = some (A.cs 12, e) := by
    unfold P_X12_sumOf
    rw [if_neg (by decide), if_pos rfl, ck_t c, r_31 q0 q4, r_98n g0 g1 q0 q4 (by decide), f48]
    unfold Ty.cs
    rw [if_neg (by decide), if_pos rfl, sumU_11]
    have : sm (fun k => if (12 : Int32) = 11 then e.2 53 (11 * q + k) else if (12 : Int32) = 12 then e.2 57 (11 * q + k) else 0) = sm (fun r => A.bow r 1) := sm_eq (fun j a b => by rw [if_neg (by decide), if_pos rfl]; exact (h.b0 a b).2.2.2.2.1)
    rw [this]
    congr 2
    clear h hp lo h8 h9 R4 this
    grind
  have s13 : P_X12_sumOf g q 13 e = some (A.cs 13, e) := by
    unfold P_X12_sumOf
    have z0 : (0 : Int32).toInt = 0 := by decide
    have m130 : (G.many q).toInt ≤ 130 := Int32.le_iff_toInt_le.mp R3
    have hz : sm (fun k => if (13 : Int32) = 11 then e.2 53 (11 * q + k) else if (13 : Int32) = 12 then e.2 57 (11 * q + k) else 0) = 0 := by
      have : sm (fun k => if (13 : Int32) = 11 then e.2 53 (11 * q + k) else if (13 : Int32) = 12 then e.2 57 (11 * q + k) else 0) = sm (fun _ => 0) := sm_eq (fun j a b => by rw [if_neg (by decide), if_neg (by decide)])
      rw [this]; decide
    have hcut := sumU_cut (f := fun o => e.2 59 (rwT eb g q o)) (f' := fun r => A.ov r 0) (M := G.many q) (b := A.begun) h.2.2.2.2.2.1.2.2 (fun o a b => (h.2.2.2.2.1 o a b).1) 200 0 (by omega) (by decide) 0
    rw [if_neg (by decide), if_neg (by decide), r_31 q0 q4, hz, show (0 : Int32) + 0 = 0 from by decide, r_98s hp lo q0 q1 fu 0 (by unfold fu; omega) (by decide), hcut]
    unfold Ty.cs
    rw [if_neg (by decide), if_neg (by decide), if_pos rfl]
    have hm : imin A.begun 120 = A.begun := by
      unfold imin
      rw [if_pos h.2.2.2.2.2.1.2.1]
    rw [hm, z0, Int.sub_zero]
  have s14 : e.2 49 q = A.cs 14 := by
    unfold Ty.cs
    rw [if_neg (by decide), if_neg (by decide), if_neg (by decide), if_pos rfl, sumU_11]
    exact h.2.2.1
  have s15 : e.2 50 q = A.cs 15 := by
    unfold Ty.cs
    rw [if_neg (by decide), if_neg (by decide), if_neg (by decide), if_neg (by decide), if_pos rfl, sumU_11]
    exact h.2.2.2.1
  unfold P_X12_scoreOf Ty.fig
  simp only [ck_t c, ck_t (ix4 g0 g1 q0 q4), f35, f36, f37, f38, f39, f40, f41, f42, f43, f52, f9]
  have : w = 0 ∨ w = 1 ∨ w = 2 ∨ w = 3 ∨ w = 4 ∨ w = 5 ∨ w = 6 ∨ w = 7 ∨ w = 8 ∨ w = 9 ∨ w = 10 ∨ w = 11 ∨ w = 12 ∨ w = 13 ∨ w = 14 ∨ w = 15 := by
    clear h hp lo h8 h9 R4 s11 s12 s13 s14 s15 rd
    grind
  rcases this with z | z | z | z | z | z | z | z | z | z | z | z | z | z | z | z <;> subst z
  · simp
  · simp
  · simp
  · simp
  · simp
  · simp
  · simp
  · simp
  · simp
  · simp only [show ¬ (9 : Int32) = 0 from by decide, show ¬ (9 : Int32) = 1 from by decide, show ¬ (9 : Int32) = 2 from by decide, show ¬ (9 : Int32) = 3 from by decide, show ¬ (9 : Int32) = 4 from by decide, show ¬ (9 : Int32) = 5 from by decide, show ¬ (9 : Int32) = 6 from by decide, show ¬ (9 : Int32) = 7 from by decide, show ¬ (9 : Int32) = 8 from by decide, show ¬ (9 : Int32) = 10 from by decide, if_false, if_true]
    split <;> rfl
  · simp
  · simp [s11, bd_e]
  · simp [s12, bd_e]
  · simp [s13, bd_e]
  · simp [s14]
  · simp [s15]
theorem r_batsOf (h : TQ eb g G e q A) (q0 : 0 ≤ q) (q1 : q < 4) {k w : Int32} (k0 : 0 ≤ k) (k1 : k < 11) (w0 : 0 ≤ w) (w1 : w ≤ 2) : P_X12_batsOf g q k w e = some (A.bat k w, e) ∧ P_X12_fieldsOf g q k w e = some (A.bow k w, e) := by
  have b := h.b0 k0 k1
  have ix : (0 : Int32) ≤ 11 * q + k ∧ 11 * q + k < 44 := by
    clear h b
    constructor <;> grind
  unfold P_X12_batsOf P_X12_fieldsOf
  rw [bd_e, bd_e]
  have : w = 0 ∨ w = 1 ∨ w = 2 := by clear h b; grind
  simp only [ck_t ix, b.1, b.2.1, b.2.2.1, b.2.2.2.1, b.2.2.2.2.1, b.2.2.2.2.2]
  rcases this with z | z | z <;> subst z <;> simp
end SC
