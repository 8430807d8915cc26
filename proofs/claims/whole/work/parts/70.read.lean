/-! What is told behind play: the reference's answers are the class's -/
def TQ (eb : mE) (g : Int32) (G : Pg) (e : mE) (q : Int32) (A : Ty) : Prop := (∀ k, k < 15 → e.2 (reN k) q = A.1 k) ∧ (∀ k c, gin 11 3 k c → reBat q e k c = A.bat k c ∧ reBow q e k c = A.bow k c) ∧ e.2 49 q = sm (fun k => A.bow k 2) ∧ e.2 50 q = sm (six A) ∧ (∀ o, 0 ≤ o → o < G.many q → (e.2 59 (rwT eb g q o) = (if o < A.begun then A.ov o 0 else 0) ∧ e.2 60 (rwT eb g q o) = (if o < A.begun then A.ov o 1 else 0) ∧ e.2 61 (rwT eb g q o) = (if o < A.begun then A.ov o 2 else 0) ∧ e.2 62 (rwT eb g q o) = (if o < A.begun then A.ov o 3 else 0) ∧ e.2 63 (rwT eb g q o) = (if o < A.begun then A.ov o 4 else 0) ∧ e.2 64 (rwT eb g q o) = (if o < A.begun then 1 else 0))) ∧ (0 ≤ A.begun ∧ A.begun ≤ 120 ∧ A.begun ≤ G.many q) ∧ 0 ≤ A.left ∧ (0 ≤ A.score ∧ A.score ≤ 40000) ∧ (A.played = 0 ∨ A.played = 1)
section TQS
variable {eb e : mE} {g : Int32} {G : Pg} {q : Int32} {A : Ty}
theorem reOv_in {rw : Int32 → Int32} {mn o : Int32} (o0 : 0 ≤ o) (o1 : o < 120) (om : o < mn) : e.2 59 (rw o) = reOv rw mn e o 0 ∧ e.2 60 (rw o) = reOv rw mn e o 1 ∧ e.2 61 (rw o) = reOv rw mn e o 2 ∧ e.2 62 (rw o) = reOv rw mn e o 3 ∧ e.2 63 (rw o) = reOv rw mn e o 4 := by
  have k : ∀ c : Int32, 0 ≤ c → c < 5 → gin 120 5 o c ∧ o < mn := fun c a b => ⟨⟨o0, o1, a, b⟩, om⟩
  unfold reOv
  rw [if_pos (k 0 (by decide) (by decide)), if_pos (k 1 (by decide) (by decide)), if_pos (k 2 (by decide) (by decide)), if_pos (k 3 (by decide) (by decide)), if_pos (k 4 (by decide) (by decide))]
  exact ⟨by simp, by simp, by simp, by simp, by simp⟩
theorem FinT.tq (h : FinT eb g G e q A) : TQ eb g G e q A := by
  obtain ⟨T, by', ro, pl, m, ⟨s1, s2, s3, s4⟩, c2, c3, c4, c5, c6, c7, c8, c9⟩ := h
  have r : ∀ k, k < 16 → e.2 (reN k) q = A.1 k := by
    intro k hk
    rw [c2.1, ← s1]
    show _ = if k < 16 then e.2 (reN k) q else 0
    rw [if_pos hk]
  have hb : T.bat = reBat q e := by rw [← s1]; rfl
  have hw : T.bow = reBow q e := by rw [← s1]; rfl
  have ho : T.ov = reOv (rwT eb g q) (mnT G q) e := by rw [← s1]; rfl
  have b120 : T.begun ≤ 120 := i32_tr c4.ba (i32_tr c4.ao c4.v2)
  have ms : T.score ≤ 40000 := by
    have a := Int32.le_iff_toInt_le.mp c4.s1
    have z : (40000 : Int32).toInt = 40000 := by decide
    exact Int32.le_iff_toInt_le.mpr (by omega)
  have sA : A.begun = T.begun := c2.begun
  refine ⟨fun k hk => r k (by omega), fun k c _ => ⟨by rw [← hb, c2.bat], by rw [← hw, c2.bow]⟩, ?_, ?_, ?_, ⟨by rw [sA]; exact i32_tr c4.w0 c4.w1, by rw [sA]; exact b120, by rw [sA]; exact c8⟩, ?_, ⟨by rw [c2.score]; exact c4.s0, by rw [c2.score]; exact ms⟩, Or.inr (c2.played.trans c4.pl)⟩
  · rw [s2, c6.1, c2.bow]
  · rw [s3, c6.2]
    refine sm_eq (fun j _ _ => ?_)
    show (if T.bat j 2 = 6 then (1 : Int32) else 0) = if A.bat j 2 = 6 then 1 else 0
    rw [c2.bat]
  · intro o o0 o1
    rw [sA]
    by_cases c : o < 120
    · have om : o < mnT G q := by
        apply Int32.not_le.mp
        rw [imin_spec]
        intro w
        rcases w with w | w
        · exact absurd o1 (Int32.not_lt.mpr w)
        · exact absurd c (Int32.not_lt.mpr w)
      obtain ⟨k0, k1, k2, k3, k4⟩ := reOv_in (e := e) (rw := rwT eb g q) (mn := mnT G q) o0 c om
      rw [k0, k1, k2, k3, k4, ← ho]
      have key : ∀ x : Int32, 0 ≤ x → x < 5 → T.ov o x = if o < T.begun then A.ov o x else 0 := by
        intro x a b
        have gi : gin 120 5 o x := ⟨o0, c, a, b⟩
        by_cases z : o < T.begun
        · rw [if_pos z]; exact (c2.2.2 o x gi z).symm
        · rw [if_neg z]; exact c3 o x gi (Int32.not_lt.mp z)
      exact ⟨key 0 (by decide) (by decide), key 1 (by decide) (by decide), key 2 (by decide) (by decide), key 3 (by decide) (by decide), key 4 (by decide) (by decide), (s4 o o0 om).trans (c7 o o0 om)⟩
    · have c' := Int32.not_lt.mp c
      have nz : ¬ o < T.begun := Int32.not_lt.mpr (i32_tr b120 c')
      simp only [if_neg nz]
      have z := c9 o c' o1
      exact ⟨z 59 (by decide) (by decide), z 60 (by decide) (by decide), z 61 (by decide) (by decide), z 62 (by decide) (by decide), z 63 (by decide) (by decide), z 64 (by decide) (by decide)⟩
  · rw [sim_left c2]; exact c4.left_r.1
theorem ClrT.tq (h : ClrT eb g G e q A) (hm : 0 ≤ G.many q) : TQ eb g G e q A := by
  obtain ⟨⟨X, hX, rfl⟩, ⟨s1, s2, s3, s4⟩, c9⟩ := h
  have r : ∀ k, k < 16 → e.2 (reN k) q = Zr0.1 k := by
    intro k hk
    rw [← s1]
    show _ = if k < 16 then e.2 (reN k) q else 0
    rw [if_pos hk]
  have hb : reBat q e = fun _ _ => 0 := by
    have := congrArg Ty.bat s1
    exact this
  have hw : reBow q e = fun _ _ => 0 := by
    have := congrArg Ty.bow s1
    exact this
  have ho : reOv (rwT eb g q) (mnT G q) e = fun _ _ => 0 := by
    have := congrArg Ty.ov s1
    exact this
  have xb : X.clear.bat = fun _ _ => 0 := by
    show (X.clear).2 0 = _
    unfold Ty.clear
    simp only [Ty.i1, Ty.i2, Ty.g1, Ty.g2, ↓reduceIte, Nat.reduceEqDiff]
    exact gAll0 11 3
  have xw : X.clear.bow = fun _ _ => 0 := by
    show (X.clear).2 1 = _
    unfold Ty.clear
    simp only [Ty.i1, Ty.i2, Ty.g1, Ty.g2, ↓reduceIte, Nat.reduceEqDiff]
    exact gAll0 11 3
  have xk : ∀ k, k < 15 → X.clear.1 k = Zr0.1 k := by
    intro k hk
    unfold Ty.clear Zr0
    simp only [Ty.i1, Ty.i2, Ty.g1, Ty.g2, ↓reduceIte, Nat.reduceEqDiff]
    have : k = 0 ∨ k = 1 ∨ k = 2 ∨ k = 3 ∨ k = 4 ∨ k = 5 ∨ k = 6 ∨ k = 7 ∨ k = 8 ∨ k = 9 ∨ k = 10 ∨ k = 11 ∨ k = 12 ∨ k = 13 ∨ k = 14 := by omega
    rcases this with z | z | z | z | z | z | z | z | z | z | z | z | z | z | z <;> subst z <;> rfl
  have bg : X.clear.begun = 0 := xk 8 (by decide)
  refine ⟨fun k hk => (r k (by omega)).trans (xk k hk).symm, fun k c _ => ⟨by rw [hb, xb], by rw [hw, xw]⟩, ?_, ?_, ?_, ?_, ?_, ?_, Or.inl (xk 0 (by decide))⟩
  · rw [s2, xw]; decide
  · rw [s3]
    have : six X.clear = fun _ => 0 := by
      funext k
      show (if X.clear.bat k 2 = 6 then (1 : Int32) else 0) = 0
      rw [xb]
      rfl
    rw [this]; decide
  · intro o o0 o1
    rw [bg]
    simp only [if_neg (Int32.not_lt.mpr o0)]
    by_cases c : o < 120
    · have om : o < mnT G q := by
        apply Int32.not_le.mp
        rw [imin_spec]
        intro w
        rcases w with w | w
        · exact absurd o1 (Int32.not_lt.mpr w)
        · exact absurd c (Int32.not_lt.mpr w)
      obtain ⟨k0, k1, k2, k3, k4⟩ := reOv_in (e := e) (rw := rwT eb g q) (mn := mnT G q) o0 c om
      rw [k0, k1, k2, k3, k4, ho]
      exact ⟨rfl, rfl, rfl, rfl, rfl, s4 o o0 om⟩
    · have z := c9 o (Int32.not_lt.mp c) o1
      exact ⟨z 59 (by decide) (by decide), z 60 (by decide) (by decide), z 61 (by decide) (by decide), z 62 (by decide) (by decide), z 63 (by decide) (by decide), z 64 (by decide) (by decide)⟩
  · rw [bg]; exact ⟨by decide, by decide, hm⟩
  · unfold Ty.left
    rw [show X.clear.allowed = 0 from xk 5 (by decide), show X.clear.whole = 0 from xk 9 (by decide), show X.clear.counted = 0 from xk 11 (by decide)]
    decide
  · rw [show X.clear.score = 0 from xk 1 (by decide)]; decide
theorem FR.tq {s : Ps} (hp : PgW eb g G) (h : FR eb g G e s) {q : Int32} (q0 : 0 ≤ q) (q1 : q < G.turns) : TQ eb g G e q (s.ty q) := by
  obtain ⟨t, t0, t1, t2, I⟩ := h
  by_cases c : q < t
  · exact (I.2.2.2.1 q q0 c).tq
  · exact (I.2.2.2.2.1 q (Int32.not_lt.mp c) q1).tq (hp.2.2.2.2.2.2.2.1 q q0 q1).2.1
end TQS
section NOW
variable {eb e : mE} {g : Int32} {G : Pg} {s : Ps}
theorem r_leftQ {q : Int32} {A : Ty} (h : TQ eb g G e q A) (q0 : 0 ≤ q) (q1 : q < 4) : P_X12_left q e = some (A.left, e) := by
  unfold P_X12_left
  rw [ck_t ⟨q0, q1⟩, ck_t ⟨q0, q1⟩, ck_t ⟨q0, q1⟩, show e.2 40 q = A.allowed from h.1 5 (by decide), show e.2 37 q = A.whole from h.1 9 (by decide), show e.2 38 q = A.counted from h.1 11 (by decide)]
  unfold Ty.left
  congr 2
  clear h
  grind
theorem r_more {q : Int32} (h : TQ eb g G e q (s.ty q)) (q0 : 0 ≤ q) (q1 : q < 4) (hh : s.hand = q) : P_X12_more q e = some (s.had, e) := by
  unfold P_X12_more Ps.had
  rw [ck_t ⟨q0, q1⟩, show e.2 41 q = (s.ty q).ended from h.1 7 (by decide), hh]
  by_cases c : (s.ty q).ended = 0
  · rw [if_pos c, if_pos c, r_leftQ h q0 q1]
    rfl
  · rw [if_neg c, if_neg c]
/-- now(): all its figures -/
theorem r_nowOf (hp : PgW eb g G) (h : FR eb g G e s) {w : Int32} (w0 : 0 ≤ w) (w1 : w ≤ 14) : P_X12_nowOf g w e = some (s.fig w, e) := by
  have h' := h
  obtain ⟨t, t0, t1, t2, I⟩ := h
  obtain ⟨I1, I2, I3, I4, I5, I6, I7, I8⟩ := I
  have hp' := hp
  obtain ⟨⟨g0, g1⟩, h2, h3, _⟩ := hp'
  have e6 : e.2 6 g = G.each := (I1 6 g (Or.inl (by decide))).trans h2
  have la : P_X12_lastTurn g e = some (s.last, e) := by rw [r_last g0 g1, e6, I3.2]
  unfold P_X12_nowOf Ps.fig
  rw [bd_e, I2.2.2.2.2.1]
  by_cases c0 : w = 0
  · rw [if_pos c0, if_pos c0]
  rw [if_neg c0, if_neg c0]
  have t4 : t ≤ 4 := i32_tr t1 (by
    have a := hp.2.2.2.2.2.2.1.2
    have : 2 * G.each ≤ 4 := by rcases h3 with z | z <;> rw [z] <;> decide
    exact i32_tr a this)
  by_cases tz : t = 0
  · -- no turn
    have hm : s.hand = -1 := by rw [I6, tz]; decide
    have nl : ¬ s.hand = s.last := by
      rw [hm, I3.2]
      rcases h3 with z | z <;> rw [z] <;> decide
    rw [hm] at nl ⊢
    simp only [la, Option.bind_some, bd_e, show ¬ (0 : Int32) ≤ -1 from by decide, if_false, if_neg nl, if_true, I2.2.2.2.2.2.1, I2.1, I2.2.1, I2.2.2.1, I2.2.2.2.1]
    have : w = 1 ∨ w = 2 ∨ w = 3 ∨ w = 4 ∨ w = 5 ∨ w = 6 ∨ w = 7 ∨ w = 8 ∨ w = 9 ∨ w = 10 ∨ w = 11 ∨ w = 12 ∨ w = 13 ∨ w = 14 := by
      clear h' I4 I5 I1 I7 I8 la hp
      grind
    rcases this with z | z | z | z | z | z | z | z | z | z | z | z | z | z <;> subst z <;> simp
  · have tp : 0 < t := by clear h' I4 I5 I1 I7 I8 la hp; grind
    have hq : 0 ≤ s.hand ∧ s.hand < t ∧ s.hand < 4 ∧ s.hand < G.turns ∧ ¬ s.hand = -1 := by
      rw [I6]
      clear h' I4 I5 I1 I7 I8 la hp I6
      refine ⟨by grind, by grind, by grind, by grind, by grind⟩
    obtain ⟨q0, qt, q4, qT, qn⟩ := hq
    have T := h'.tq hp q0 qT
    have rd : ∀ k, k < 15 → e.2 (reN k) s.hand = (s.ty s.hand).1 k := T.1
    have f45 : e.2 45 s.hand = (s.ty s.hand).faces := rd 13 (by decide)
    have f46 : e.2 46 s.hand = (s.ty s.hand).other := rd 14 (by decide)
    have f51 : e.2 51 s.hand = (s.ty s.hand).bowler := rd 12 (by decide)
    have f41 : e.2 41 s.hand = (s.ty s.hand).ended := rd 7 (by decide)
    have f35 : e.2 35 s.hand = (s.ty s.hand).score := rd 1 (by decide)
    have hmore := r_more (s := s) T q0 q4 rfl
    have hleft := r_leftQ T q0 q4
    have had0 : 0 ≤ s.had := by
      have a := T.2.2.2.2.2.2.1
      have l2 : (s.ty s.hand).left ≤ 720 := by
        obtain ⟨T', by', ro, pl, m, k1, k2, k3, k4, _⟩ := I4 s.hand q0 qt
        rw [sim_left k2]
        exact k4.left_r.2
      unfold Ps.had
      split
      · clear h' I4 I5 I1 I7 I8 la hp I6 T rd hmore hleft
        grind
      · decide
    simp only [la, Option.bind_some, bd_e, if_pos q0, if_neg qn, ck_t (And.intro q0 q4), f45, f46, f51, f41, f35, hmore, hleft, I2.2.2.2.2.2.1, I2.1, I2.2.1, I2.2.2.1, I2.2.2.2.1]
    unfold Ps.figH
    have : w = 1 ∨ w = 2 ∨ w = 3 ∨ w = 4 ∨ w = 5 ∨ w = 6 ∨ w = 7 ∨ w = 8 ∨ w = 9 ∨ w = 10 ∨ w = 11 ∨ w = 12 ∨ w = 13 ∨ w = 14 := by
      clear h' I4 I5 I1 I7 I8 la hp T rd hmore hleft
      grind
    by_cases cl : s.hand = s.last
    · have x34 := I7 cl
      have mx : (if 0 < s.target - (s.ty s.hand).score then s.target - (s.ty s.hand).score else 0) = if s.target - (s.ty s.hand).score < 0 then 0 else s.target - (s.ty s.hand).score := by
        generalize s.target - (s.ty s.hand).score = z
        clear h' I4 I5 I1 I7 I8 la hp T rd hmore hleft I2 I3 I6 x34 this
        grind
      have ch : (if s.had < s.target - (s.ty s.hand).score then some ((0 : Int32), e) else some (1, e)) = some (if s.had < (if s.target - (s.ty s.hand).score < 0 then 0 else s.target - (s.ty s.hand).score) then 0 else 1, e) := by
        generalize s.target - (s.ty s.hand).score = z
        generalize s.had = y at *
        clear h' I4 I5 I1 I7 I8 la hp T rd hmore hleft I2 I3 I6 x34 this mx
        grind
      unfold Ps.chase
      simp only [if_pos cl, x34, mx, ch]
      rcases this with z | z | z | z | z | z | z | z | z | z | z | z | z | z <;> subst z <;> simp
    · simp only [if_neg cl]
      rcases this with z | z | z | z | z | z | z | z | z | z | z | z | z | z <;> subst z <;> simp
end NOW
