/-! The reference takes a change back -/
theorem PgEq.pgR {e : mE} {g : Int32} {Q P : Pg} (q : PgEq Q P) (r : PgR e g Q) : PgR e g P := by
  obtain ⟨q1, q2, q3, q4⟩ := q
  obtain ⟨r1, r2, r3, r4⟩ := r
  refine ⟨by rw [← q1]; exact r1, by rw [← q2]; exact r2, by rw [← q3]; exact r3, fun t ht => ?_⟩
  have ht : inL Q.turns t := by rw [q3]; exact ht
  obtain ⟨m, w⟩ := q4 t ht
  obtain ⟨u, v⟩ := r4 t ht
  refine ⟨by rw [← m]; exact u, fun o ho => ?_⟩
  have ho : inL (Q.many t) o := by rw [m]; exact ho
  obtain ⟨w1, w2, w3⟩ := w o ho
  obtain ⟨v1, v2, v3, v4⟩ := v o ho
  refine ⟨v1, by rw [← w1]; exact v2, by rw [← w2]; exact v3, fun i hi => ?_⟩
  have hi : inL (Q.siz t o) i := by rw [w2]; exact hi
  rw [← w3 i hi]
  exact v4 i hi
theorem inj4 {g t g' t' : Int32} (g0 : 0 ≤ g ∧ g < 400) (t0 : inL 4 t) (g1 : 0 ≤ g' ∧ g' < 400) (t1 : inL 4 t') (h : 4 * g + t = 4 * g' + t') : g = g' ∧ t = t' := by
  obtain ⟨a1, a2⟩ := g0
  obtain ⟨b1, b2⟩ := g1
  obtain ⟨c1, c2⟩ := t0
  obtain ⟨d1, d2⟩ := t1
  have z : (0 : Int32).toInt = 0 := by decide
  have f4 : (4 : Int32).toInt = 4 := by decide
  have f400 : (400 : Int32).toInt = 400 := by decide
  have lin : ∀ {g t : Int32}, 0 ≤ g → g < 400 → 0 ≤ t → t < 4 → (4 * g + t).toInt = 4 * g.toInt + t.toInt := fun {g t} x1 x2 x3 x4 => by
    have y1 := Int32.le_iff_toInt_le.mp x1
    have y2 := Int32.lt_iff_toInt_lt.mp x2
    have y3 := Int32.le_iff_toInt_le.mp x3
    have y4 := Int32.lt_iff_toInt_lt.mp x4
    have m : (4 * g).toInt = 4 * g.toInt := by
      rw [Int32.toInt_mul, f4]
      apply Int.bmod_eq_of_le <;> omega
    rw [Int32.toInt_add, m]
    apply Int.bmod_eq_of_le <;> omega
  have a := lin a1 a2 c1 c2
  have b := lin b1 b2 d1 d2
  rw [h, b] at a
  have c1 := Int32.le_iff_toInt_le.mp c1
  have c2 := Int32.lt_iff_toInt_lt.mp c2
  have d1 := Int32.le_iff_toInt_le.mp d1
  have d2 := Int32.lt_iff_toInt_lt.mp d2
  exact ⟨Int32.toInt_inj.mp (by omega), Int32.toInt_inj.mp (by omega)⟩
section Mun
variable {e e2 : mE} {A : Bk} {g t o : Int32} {P : Pg} {l : List (Int32 × Pg)}
theorem m_back (r : MR e A) (hh : A.hi = (g, P) :: l) (h1 : ∀ k, 0 < k → k ≠ 20 → e2.1 k = e.1 k) (h20 : e2.1 20 = Int32.ofNat l.length) (h2 : ∀ k, (k < 8 ∨ k = 10 ∨ 14 < k) → ∀ i, e2.2 k i = e.2 k i) (hg : PgR e2 g P) (hg' : ∀ g', g' ≠ g → inL A.games g' → PgR e2 g' (A.pg g')) : MR e2 ((A.sP g P).sH l) := by
  obtain ⟨⟨a1, a2, a3, a4, a5, a6⟩, ⟨b1, b2, b3⟩, d, w, u, v⟩ := r
  rw [hh] at v
  have rw2 : ∀ g t o, rwT e2 g t o = rwT e g t o := fun g t o => h2 10 (by omega) _
  have vis : ∀ g' t' o', inO ((A.sP g P).sH l) g' t' o' → inO A g' t' o' := fun g' t' o' q => by
    have q1 : inL A.games g' := q.1
    have q2 : inL (upP A.pg g P g').turns t' := q.2.1
    have q3 : inL ((upP A.pg g P g').many t') o' := q.2.2
    unfold upP at q2 q3
    by_cases y : g' = g
    · rw [if_pos y] at q2 q3
      rw [y] at q1 ⊢
      exact ⟨q1, v.1.vis t' o' q2 q3⟩
    · rw [if_neg y] at q2 q3
      exact ⟨q1, q2, q3⟩
  refine ⟨⟨(h1 1 (by decide) (by decide)).trans a1, (h1 2 (by decide) (by decide)).trans a2, (h1 16 (by decide) (by decide)).trans a3, (h1 18 (by decide) (by decide)).trans a4, (h1 19 (by decide) (by decide)).trans a5, h20⟩, ⟨fun i hi => (h2 3 (by omega) i).trans (b1 i hi), fun i hi => (h2 15 (by omega) i).trans (b2 i hi), fun i hi => (h2 17 (by omega) i).trans (b3 i hi)⟩, fun g' hg1 => ?_, by rw [h1 11 (by decide) (by decide)]; exact w, fun g1 t1 o1 g3 t3 o3 p q e => u g1 t1 o1 g3 t3 o3 (vis _ _ _ p) (vis _ _ _ q) (by rw [← rw2, ← rw2]; exact e), ?_⟩
  · obtain ⟨q1, q2, q3, -⟩ := d g' hg1
    refine ⟨(h2 4 (by omega) _).trans q1, (h2 4 (by omega) _).trans q2, fun s k c => (h2 7 (by omega) _).trans (q3 s k c), ?_⟩
    show PgR e2 g' (if g' = g then P else A.pg g')
    by_cases y : g' = g
    · rw [if_pos y, y]; exact hg
    · rw [if_neg y]; exact hg' g' y hg1
  · exact HMo.cg (e := e) (d := 0) _ _ (fun n _ => ⟨fun j j0 j1 => h2 j (by omega) _, fun i _ => h2 27 (by omega) _⟩) (fun q _ t o _ _ => rw2 _ _ _) v.2
/-- pages behind one row's change -/
theorem m_pgs {b s : Int32} {f : Int32 → Int32} (r : MR e A) (ok : BkOK A) (c : inO A g t o) (h11 : e2.1 11 = e.1 11) (h2 : ∀ k, k < 12 → ∀ i, e2.2 k i = e.2 k i) (h3 : RowC e (rwT e g t o) b s f e2) : PgR e2 g ((A.pg g).edit t o b s f) ∧ ∀ g', g' ≠ g → inL A.games g' → PgR e2 g' (A.pg g') := by
  obtain ⟨-, -, d, w, u, -⟩ := r
  have rw2 : ∀ g t o, rwT e2 g t o = rwT e g t o := fun g t o => h2 10 (by omega) _
  obtain ⟨R1, R2, R3, R4, R5⟩ := h3
  constructor
  · obtain ⟨-, -, -, q4, q5, q6, q7⟩ := d g c.1
    refine ⟨(h2 5 (by omega) _).trans q4, (h2 6 (by omega) _).trans q5, (h2 8 (by omega) _).trans q6, fun t' ht' => ⟨(h2 9 (by omega) _).trans (q7 t' ht').1, fun o' ho' => ?_⟩⟩
    obtain ⟨y1, y2, y3, y4⟩ := (q7 t' ht').2 o' ho'
    rw [rw2, h11]
    refine ⟨y1, ?_⟩
    show e2.2 12 (rwT e g t' o') = (if t' = t ∧ o' = o then b else (A.pg g).bow t' o') ∧ e2.2 13 (rwT e g t' o') = (if t' = t ∧ o' = o then s else (A.pg g).siz t' o') ∧ ∀ i, inL (if t' = t ∧ o' = o then s else (A.pg g).siz t' o') i → e2.2 14 (40 * rwT e g t' o' + i) = (if t' = t ∧ o' = o then f else (A.pg g).ent t' o') i
    by_cases z : t' = t ∧ o' = o
    · rw [if_pos z, if_pos z, if_pos z, z.1, z.2]
      exact ⟨R3, R4, R5⟩
    · rw [if_neg z, if_neg z, if_neg z]
      have n : rwT e g t' o' ≠ rwT e g t o := fun q => z (u g t' o' g t o ⟨c.1, ht', ho'⟩ c q).2
      have sz := (ok.ov (⟨c.1, ht', ho'⟩ : inO A g t' o')).2.1.2
      exact ⟨(R1 _ n).1.trans y2, (R1 _ n).2.trans y3, fun i hi => (R2 _ i ⟨y1.1, Int32.lt_of_lt_of_le y1.2 (i32_tr w.2 (by decide))⟩ n (inL40 sz hi)).trans (y4 i hi)⟩
  · intro g' y hg'
    obtain ⟨-, -, -, q4, q5, q6, q7⟩ := d g' hg'
    refine ⟨(h2 5 (by omega) _).trans q4, (h2 6 (by omega) _).trans q5, (h2 8 (by omega) _).trans q6, fun t' ht' => ⟨(h2 9 (by omega) _).trans (q7 t' ht').1, fun o' ho' => ?_⟩⟩
    obtain ⟨y1, y2, y3, y4⟩ := (q7 t' ht').2 o' ho'
    rw [rw2, h11]
    have n : rwT e g' t' o' ≠ rwT e g t o := fun q => y (u g' t' o' g t o ⟨hg', ht', ho'⟩ c q).1
    have sz := (ok.ov (⟨hg', ht', ho'⟩ : inO A g' t' o')).2.1.2
    exact ⟨y1, (R1 _ n).1.trans y2, (R1 _ n).2.trans y3, fun i hi => (R2 _ i ⟨y1.1, Int32.lt_of_lt_of_le y1.2 (i32_tr w.2 (by decide))⟩ n (inL40 sz hi)).trans (y4 i hi)⟩
theorem m_un156 {R K s g1 : Int32} {W : mE → Prop} (r0 : 0 ≤ R ∧ R < 6000) (hK : 0 ≤ K ∧ K < 40) (hs : e.2 13 R = s) (s1 : s ≤ 40) (Z : ∀ e', EnQ e R e' → (∀ i, inL s i → e'.2 14 (40 * R + i) = e.2 27 (40 * K + i)) → W e') : ∀ n k, (s.toInt - k.toInt).toNat < n → ∀ e', 0 ≤ k → EnQ e R e' → (∀ i, inL s i → i < k → e'.2 14 (40 * R + i) = e.2 27 (40 * K + i)) → Rn (P_X12_undo_156 n K g1 R k e') (fun q => q.1 = g1 ∧ W q.2) := by
  refine i32_up ?_ ?_
  · intro n k hc e' k0 q H
    unfold P_X12_undo_156
    refine rn_ck r0 (rn_p ?_ (rn_s ⟨rfl, Z e' q (fun i hi => H i hi (Int32.lt_of_lt_of_le hi.2 hc))⟩))
    rw [q.2.1 13 (by decide), hs]; exact hc
  · intro n k hc ih e' k0 q H
    unfold P_X12_undo_156
    have k40 := inL40 s1 (show inL s k from ⟨k0, hc⟩)
    have b : (0 : Int32) ≤ 40 * K + k ∧ 40 * K + k < 1600 := by
      obtain ⟨a1, a2⟩ := hK
      obtain ⟨a3, a4⟩ := k40
      clear ih H Z q hs
      constructor <;> grind
    refine rn_ck r0 (rn_n ?_ (rn_ck b (rn_ck (ix40 r0 k40.1 k40.2) (rn_bd (rn_bd (ih _ (i32_ps k0 hc) (q.set r0 k40) (fun i hi hk => ?_)))))))
    · rw [q.2.1 13 (by decide), hs]; exact Int32.not_le.mpr hc
    · rw [en_at r0 k40 (inL40 s1 hi), q.2.1 27 (by decide)]
      rcases (i32_ls hc).mp hk with y | y
      · rw [if_neg (lt_ne y)]
        exact H i hi y
      · rw [if_pos y, y]
theorem m_undo (r : MR e A) (ok : BkOK A) : Rn (P_X12_undo e) (fun q => q.1 = (aUndo A).1 ∧ MP e (aUndo A).2 q.2) := by
  unfold P_X12_undo
  have r0 := r.c0
  refine rn_bd ?_
  have h20 := r0.1.2.2.2.2.2
  have l40 := ok.2.2.2.2.2.2.2.1
  unfold aUndo
  cases hh : A.hi with
  | nil =>
    rw [hh] at h20
    exact rn_p h20 (rn_s ⟨rfl, r0, rfl⟩)
  | cons q l =>
    obtain ⟨g, P⟩ := q
    rw [hh] at h20 l40
    have l40 : l.length + 1 ≤ 40 := l40
    have h20 : (mS e 0 0).1 20 = Int32.ofNat (l.length + 1) := h20
    have M := r0.2.2.2.2.2
    rw [hh] at M
    have M := M.1
    have K0 : (0 : Int32) ≤ Int32.ofNat l.length ∧ Int32.ofNat l.length < 40 := ⟨ofN_0 (by omega), ofN_lt (m := 40) (by omega) (by omega)⟩
    have M : MOk (mS e 0 0) (Int32.ofNat l.length) g (A.pg g) P := M
    have cg : inL A.games g := (ok.2.2.2.2.2.2.2.2 (g, P) (by rw [hh]; simp)).1
    refine rn_n (by rw [h20]; exact fun y => lt_ne (ofN_lt (n := 0) (m := l.length + 1) (by omega) (by omega)) y.symm) (rn_bd (rn_bd ?_))
    have e20 : (mS e 0 0).1 20 - 1 = Int32.ofNat l.length := by rw [h20, ← ofN_s, pred1]
    rw [e20]
    generalize eK : Int32.ofNat l.length = K at K0 M
    have hE : (mS (mS e 0 0) 20 K).1 20 = K := rfl
    have rE : ∀ k i, (mS (mS e 0 0) 20 K).2 k i = (mS e 0 0).2 k i := fun _ _ => rfl
    have iE : ∀ k, 0 < k → k ≠ 20 → (mS (mS e 0 0) 20 K).1 k = (mS e 0 0).1 k := fun k _ n => if_neg n
    have i11 : (mS (mS e 0 0) 20 K).1 11 = e.1 11 := rfl
    rw [hE]
    generalize mS (mS e 0 0) 20 K = E at rE iE hE i11 ⊢
    have h20' : E.1 20 = Int32.ofNat l.length := by rw [eK]; exact hE
    refine rn_ck K0 (rn_bd (rn_ck K0 (rn_bd (rn_ck K0 ?_))))
    rw [rE 22, rE 23, rE 21, M.1]
    have g4 := g400 ok cg
    have GR := r0.2.2.1 g cg
    obtain ⟨p1, p2, p3, p4⟩ := GR.2.2.2
    have oth : ∀ g', inL A.games g' → PgR (mS e 0 0) g' (A.pg g') := fun g' h => (r0.2.2.1 g' h).2.2.2
    rcases M.2 with ⟨m1, m2, m3⟩ | ⟨m1, m2, m3, m4⟩ | ⟨t, o, m1, m2, m3, m4⟩
    · rw [if_pos m1]
      refine rn_ck g4 (rn_bd (rn_s ⟨rfl, ?_, i11⟩))
      refine m_back r0 hh iE h20' (fun k hk i => (mA_ne (by omega)).trans (rE k i)) (m3.pgR ⟨(mA_ne (by decide)).trans ((rE _ _).trans p1), (mA_ne (by decide)).trans ((rE _ _).trans p2), ?_, fun t ht => ?_⟩) (fun g' n hg' => ?_)
      · rw [mA_at, if_pos rfl, rE, p3]; rfl
      · have ht : inL (A.pg g).turns t := ⟨ht.1, lt_pred m2 ht.2⟩
        obtain ⟨u1, u2⟩ := p4 t ht
        refine ⟨(mA_ne (by decide)).trans ((rE _ _).trans u1), fun o ho => ?_⟩
        obtain ⟨v1, v2, v3, v4⟩ := u2 o ho
        have rw2 : ∀ v, rwT (mA E 8 g v) g t o = rwT (mS e 0 0) g t o := fun v => (mA_ne (by decide)).trans (rE _ _)
        rw [rw2]
        exact ⟨by rw [show ∀ v, (mA E 8 g v).1 11 = (mS e 0 0).1 11 from fun v => i11]; exact v1, (mA_ne (by decide)).trans ((rE _ _).trans v2), (mA_ne (by decide)).trans ((rE _ _).trans v3), fun i hi => (mA_ne (by decide)).trans ((rE _ _).trans (v4 i hi))⟩
      · obtain ⟨q1, q2, q3, q4⟩ := oth g' hg'
        refine ⟨(mA_ne (by decide)).trans ((rE _ _).trans q1), (mA_ne (by decide)).trans ((rE _ _).trans q2), by rw [mA_at, if_neg n, rE]; exact q3, fun t ht => ?_⟩
        obtain ⟨u1, u2⟩ := q4 t ht
        refine ⟨(mA_ne (by decide)).trans ((rE _ _).trans u1), fun o ho => ?_⟩
        obtain ⟨v1, v2, v3, v4⟩ := u2 o ho
        have rw2 : ∀ v, rwT (mA E 8 g v) g' t o = rwT (mS e 0 0) g' t o := fun v => (mA_ne (by decide)).trans (rE _ _)
        rw [rw2]
        exact ⟨by rw [show ∀ v, (mA E 8 g v).1 11 = (mS e 0 0).1 11 from fun v => i11]; exact v1, (mA_ne (by decide)).trans ((rE _ _).trans v2), (mA_ne (by decide)).trans ((rE _ _).trans v3), fun i hi => (mA_ne (by decide)).trans ((rE _ _).trans (v4 i hi))⟩
    · rw [m1, if_neg (by decide), if_pos rfl]
      refine rn_ck K0 ?_
      rw [rE 24]
      generalize (mS e 0 0).2 24 K = t at m2 m3 m4
      have t4 := t_lt4 ok cg m2
      refine rn_ck (ix4 g4.1 g4.2 m2.1 t4) (rn_bd (rn_s ⟨rfl, ?_, i11⟩))
      refine m_back r0 hh iE h20' (fun k hk i => (mA_ne (by omega)).trans (rE k i)) (m4.pgR ⟨(mA_ne (by decide)).trans ((rE _ _).trans p1), (mA_ne (by decide)).trans ((rE _ _).trans p2), (mA_ne (by decide)).trans ((rE _ _).trans p3), fun t' ht' => ?_⟩) (fun g' n hg' => ?_)
      · have ht' : inL (A.pg g).turns t' := ht'
        obtain ⟨u1, u2⟩ := p4 t' ht'
        have t4' := t_lt4 ok cg ht'
        show _ = (if t' = t then (A.pg g).many t - 1 else (A.pg g).many t') ∧ ∀ o, inL (if t' = t then (A.pg g).many t - 1 else (A.pg g).many t') o → _
        refine ⟨?_, fun o ho => ?_⟩
        · rw [mA_at, rE, (p4 t m2).1]
          by_cases y : t' = t
          · rw [if_pos y, if_pos (by rw [y])]
          · rw [if_neg y, if_neg (fun h => y (inj4 g4 ⟨ht'.1, t4'⟩ g4 ⟨m2.1, t4⟩ h).2), rE]
            exact u1
        · have ho : inL ((A.pg g).many t') o := by
            by_cases y : t' = t
            · rw [if_pos y] at ho
              rw [y]
              exact ⟨ho.1, lt_pred m3 ho.2⟩
            · rw [if_neg y] at ho
              exact ho
          obtain ⟨v1, v2, v3, v4⟩ := u2 o ho
          have rw2 : ∀ j v, rwT (mA E 9 j v) g t' o = rwT (mS e 0 0) g t' o := fun j v => (mA_ne (by decide)).trans (rE _ _)
          rw [rw2]
          exact ⟨by rw [show ∀ j v, (mA E 9 j v).1 11 = (mS e 0 0).1 11 from fun _ v => i11]; exact v1, (mA_ne (by decide)).trans ((rE _ _).trans v2), (mA_ne (by decide)).trans ((rE _ _).trans v3), fun i hi => (mA_ne (by decide)).trans ((rE _ _).trans (v4 i hi))⟩
      · obtain ⟨q1, q2, q3, q4⟩ := oth g' hg'
        refine ⟨(mA_ne (by decide)).trans ((rE _ _).trans q1), (mA_ne (by decide)).trans ((rE _ _).trans q2), (mA_ne (by decide)).trans ((rE _ _).trans q3), fun t' ht' => ?_⟩
        obtain ⟨u1, u2⟩ := q4 t' ht'
        have t4' := t_lt4 ok hg' ht'
        refine ⟨?_, fun o ho => ?_⟩
        · rw [mA_at, if_neg (fun h => n (inj4 (g400 ok hg') ⟨ht'.1, t4'⟩ g4 ⟨m2.1, t4⟩ h).1), rE]
          exact u1
        · obtain ⟨v1, v2, v3, v4⟩ := u2 o ho
          have rw2 : ∀ j v, rwT (mA E 9 j v) g' t' o = rwT (mS e 0 0) g' t' o := fun j v => (mA_ne (by decide)).trans (rE _ _)
          rw [rw2]
          exact ⟨by rw [show ∀ j v, (mA E 9 j v).1 11 = (mS e 0 0).1 11 from fun _ v => i11]; exact v1, (mA_ne (by decide)).trans ((rE _ _).trans v2), (mA_ne (by decide)).trans ((rE _ _).trans v3), fun i hi => (mA_ne (by decide)).trans ((rE _ _).trans (v4 i hi))⟩
    · have c : inO A g t o := ⟨cg, m1, m2⟩
      have w := r0.row c
      have oo := (ok.ov c).2.1
      rw [← m3]
      have fin : ∀ (e2 : mE) b s f, RowQ E (rwT (mS e 0 0) g t o) b s f e2 → PgEq ((A.pg g).edit t o b s f) P → MP e ((A.sP g P).sH l) e2 := fun e2 b s f q pe => by
        obtain ⟨q1, q2, R1, R2, R3⟩ := q
        have RC' : RowC (mS e 0 0) (rwT (mS e 0 0) g t o) b s f e2 := ⟨fun r n => ⟨(R1 r n).1.trans (rE _ _), (R1 r n).2.trans (rE _ _)⟩, fun r i a1 a2 a3 => (R2 r i a1 a2 a3).trans (rE _ _), R3⟩
        have pp := m_pgs r0 ok c (by rw [q1]; exact i11) (fun k hk i => (q2 k (by omega) i).trans (rE _ _)) RC'
        exact ⟨m_back r0 hh (fun k k0 k1 => by rw [q1]; exact iE k k0 k1) (by rw [q1]; exact h20') (fun k hk i => (q2 k (by omega) i).trans (rE _ _)) (pe.pgR pp.1) pp.2, by rw [q1]; exact i11⟩
      have w12 : E.2 12 (rwT (mS e 0 0) g t o) = (A.pg g).bow t o := (rE _ _).trans w.2.1
      have w13 : E.2 13 (rwT (mS e 0 0) g t o) = (A.pg g).siz t o := (rE _ _).trans w.2.2.1
      have w14 : ∀ i, inL ((A.pg g).siz t o) i → E.2 14 (40 * rwT (mS e 0 0) g t o + i) = (A.pg g).ent t o i := fun i hi => (rE _ _).trans (w.2.2.2 i hi)
      rcases m4 with ⟨k1, k2, k3⟩ | ⟨k1, k2, k3⟩ | ⟨k1, k2, k3⟩ | ⟨k1, k2, k3⟩ | ⟨k1, k3⟩
      · rcases k1 with k1 | k1
        · rw [k1, if_neg (by decide), if_neg (by decide), if_pos rfl]
          refine rn_ck K0 ?_
          rw [rE 24]
          exact rn_c (m_remove w.1 w12 w13 oo.2 k2 w14) (fun e2 q => rn_s ⟨rfl, fin e2 _ _ _ q k3⟩)
        · rw [k1, if_neg (by decide), if_neg (by decide), if_neg (by decide), if_neg (by decide), if_pos rfl]
          refine rn_ck K0 ?_
          rw [rE 24]
          exact rn_c (m_remove w.1 w12 w13 oo.2 k2 w14) (fun e2 q => rn_s ⟨rfl, fin e2 _ _ _ q k3⟩)
      · rw [k1, if_neg (by decide), if_neg (by decide), if_neg (by decide), if_pos rfl]
        refine rn_ck K0 (rn_ck w.1 (rn_bd ?_))
        rw [rE 26]
        have t40 := tI40 k2.2
        have z : (0 : Int32).toInt = 0 := by decide
        refine m_un156 (e := mA E 13 (rwT (mS e 0 0) g t o) ((mS e 0 0).2 26 K)) (W := fun e' => MP e ((A.sP g P).sH l) e') w.1 K0 (by rw [mA_at, if_pos rfl]) k2.2 (fun e' Q H => ?_) fu 0 (by show _ < 10000000; omega) _ (by decide) (EnQ.refl _ _) (fun i hi hk => absurd hi.1 (Int32.not_le.mpr hk))
        refine fin e' ((A.pg g).bow t o) ((mS e 0 0).2 26 K) _ ⟨Q.1, fun k hk i => (Q.2.1 k (by omega) i).trans (mA_ne (by omega)), fun r n => ⟨(Q.2.1 12 (by decide) r).trans (mA_ne (by decide)), (Q.2.1 13 (by decide) r).trans (by rw [mA_at, if_neg n])⟩, fun r i a1 a2 a3 => (Q.2.2 r i a1 a2 a3).trans (mA_ne (by decide)), ?_, ?_, fun i hi => ?_⟩ k3
        · rw [Q.2.1 12 (by decide), mA_ne (by decide)]; exact w12
        · rw [Q.2.1 13 (by decide), mA_at, if_pos rfl]
        · rw [H i hi, mA_ne (by decide), rE 27]
      · rw [k1, if_neg (by decide), if_neg (by decide), if_neg (by decide), if_neg (by decide), if_neg (by decide), if_pos rfl]
        refine rn_ck K0 (rn_ck K0 ?_)
        rw [rE 24, rE 25]
        have i40 := inL40 oo.2 k2
        refine rn_ck (ix40 w.1 i40.1 i40.2) (rn_bd (rn_s ⟨rfl, fin _ _ _ _ (((EnQ.refl _ _).set w.1 i40).row w12 w13 (fun j hj => ?_)) k3⟩))
        rw [en_at w.1 i40 (inL40 oo.2 hj), w14 j hj]
      · rw [k1, if_neg (by decide), if_neg (by decide), if_neg (by decide), if_neg (by decide), if_neg (by decide), if_neg (by decide), if_pos rfl]
        refine rn_ck K0 (rn_ck K0 ?_)
        rw [rE 24, rE 25]
        exact rn_c (m_insert w.1 w12 w13 k2.1 k2.2.1 k2.2.2 w14) (fun e2 q => rn_s ⟨rfl, fin e2 _ _ _ q k3⟩)
      · rw [k1, if_neg (by decide), if_neg (by decide), if_neg (by decide), if_neg (by decide), if_neg (by decide), if_neg (by decide), if_neg (by decide)]
        refine rn_ck K0 (rn_ck w.1 (rn_bd (rn_s ⟨rfl, fin _ _ _ _ ⟨rfl, fun k hk i => mA_ne (by omega), fun r n => ⟨by rw [mA_at, if_neg n], mA_ne (by decide)⟩, fun r i _ _ _ => mA_ne (by decide), ?_, (mA_ne (by decide)).trans w13, fun i hi => (mA_ne (by decide)).trans (w14 i hi)⟩ k3⟩)))
        rw [mA_at, if_pos rfl, rE 25]
end Mun
