/-! The reference's turn, over, ball -/
/-! a last turn that has ended has won -/
def WN (s : Ps) : Prop := s.hand = s.last → (s.ty s.hand).ended ≠ 0 → s.won ≠ 0
theorem end84_W (s : Ps) : WN s.end84 := by
  obtain ⟨-, k2, k3, -, k5, -⟩ := Ps.end84_k s
  intro h1 h2
  rw [k2, k3] at h1
  rw [k2, k5] at h2
  unfold Ps.end84
  rw [if_neg h2]
  unfold Ps.findW
  rw [if_pos h1]
  repeat' split
  all_goals first | exact (show (3 : Int32) ≠ 0 by decide) | exact (show (1 : Int32) ≠ 0 by decide) | exact (show (2 : Int32) ≠ 0 by decide)
theorem endT_W (c : Int32) (s : Ps) : WN (s.endT c) := by
  unfold Ps.endT Ps.end39
  repeat' split
  all_goals exact end84_W _
theorem WN.stop {s : Ps} (h : WN s) (r t o i : Int32) : WN (s.stop r t o i) := h
theorem plE_W {G : Pg} {t o : Int32} : ∀ n i (s : Ps), WN s → WN (Ps.plE G t o n i s)
  | 0, _, _, h => h
  | n + 1, i, s, h => by
    unfold Ps.plE
    split
    · exact plE_W n _ _ (endT_W _ _)
    · exact h
theorem plO_W {G : Pg} {t : Int32} : ∀ n o (s : Ps), WN s → WN (Ps.plO G t n o s)
  | 0, _, _, h => h
  | n + 1, o, s, h => by
    unfold Ps.plO
    split
    · split
      · exact plO_W n _ _ (plE_W _ _ _ (endT_W _ _))
      · exact plE_W _ _ _ (endT_W _ _)
    · exact h
theorem endT_ty {c q : Int32} {s : Ps} (h : q ≠ s.hand) : (s.endT c).ty q = s.ty q := by
  unfold Ps.endT Ps.end39
  have sE : ∀ v, (s.sEnd v).ty q = s.ty q := fun v => if_neg h
  repeat' split
  all_goals rw [show ∀ S : Ps, S.end84.ty = S.ty from fun S => (Ps.end84_k S).2.2.2.2.1]
  all_goals first | rfl | exact sE _
theorem plE_ty {G : Pg} {t o q : Int32} (h : q ≠ t) : ∀ n i (s : Ps), s.hand = t → (Ps.plE G t o n i s).ty q = s.ty q
  | 0, _, _, _ => rfl
  | n + 1, i, s, e => by
    unfold Ps.plE
    split
    · have hq : q ≠ s.hand := by rw [e]; exact h
      have k1 : ∀ (T : Ty) (c : Int32), (Ps.endT c (s.sTy t T)).ty q = s.ty q := fun T c => (endT_ty (s := s.sTy t T) hq).trans (show (if q = t then T else s.ty q) = s.ty q from if_neg h)
      have k2 : ∀ (T : Ty) (c : Int32), (Ps.endT c (s.sTy t T)).hand = t := fun T c => (Ps.endT_k c (s.sTy t T)).2.1.trans e
      generalize Ty.ent (G.ent t o i) (s.ty t) = T
      rw [plE_ty h n _ _ (k2 T _)]
      exact k1 T _
    · rfl
theorem plO_ty {G : Pg} {t q : Int32} (h : q ≠ t) : ∀ n o (s : Ps), s.hand = t → (Ps.plO G t n o s).ty q = s.ty q
  | 0, _, _, _ => rfl
  | n + 1, o, s, e => by
    have hq : q ≠ s.hand := by rw [e]; exact h
    have k1 : ∀ (T : Ty) (c : Int32), (Ps.endT c (s.sTy t T)).ty q = s.ty q := fun T c => (endT_ty (s := s.sTy t T) hq).trans (show (if q = t then T else s.ty q) = s.ty q from if_neg h)
    have k2 : ∀ (T : Ty) (c : Int32), (Ps.endT c (s.sTy t T)).hand = t := fun T c => (Ps.endT_k c (s.sTy t T)).2.1.trans e
    have hb : (s.begO G t o).ty q = s.ty q := by
      unfold Ps.begO
      exact k1 _ _
    have hh : (s.begO G t o).hand = t := by
      unfold Ps.begO
      exact k2 _ _
    unfold Ps.plO
    split
    · split
      · rw [plO_ty h n _ _ ((plE_k _ _ _).1.trans hh), plE_ty h _ _ _ hh, hb]
      · rw [plE_ty h _ _ _ hh, hb]
    · rfl
theorem plT_W {G : Pg} : ∀ n t, (G.turns.toInt - t.toInt).toNat < n → ∀ s : Ps, WN s → (∀ q, t ≤ q → q < G.turns → (s.ty q).ended = 0) → WN (Ps.plT G (G.turns.toInt - t.toInt).toNat t s) := by
  refine i32_up ?_ ?_
  · intro n t hc s h _
    rw [sub_none hc]
    exact h
  · intro n t hc ih s h H
    rw [sub_succ hc]
    unfold Ps.plT
    have hb : (s.begT t).hand = t := rfl
    have eb : ((s.begT t).ty t).ended = 0 := by
      have : (s.begT t).ty t = (s.ty t).begin (if t = 1 ∧ s.last = 1 then (s.ty 0).allowed else s.gov) := if_pos rfl
      rw [this]
      unfold Ty.begin
      simp only [Ty.i1, Ty.i2, Ty.g1, Ty.g2, ↓reduceIte, Nat.reduceEqDiff]
      exact H t (Int32.le_refl _) hc
    have wb : WN (s.begT t) := fun _ q => absurd eb (by rw [hb] at q; exact q)
    split
    · split
      · refine ih _ (plO_W _ _ _ wb) (fun q q0 q1 => ?_)
        have tq : t < q := by
          have a := i32_succ hc
          have b := Int32.le_iff_toInt_le.mp q0
          exact Int32.lt_iff_toInt_lt.mpr (by omega)
        have nq : q ≠ t := fun y => lt_ne tq y.symm
        rw [plO_ty nq _ _ _ hb, show (s.begT t).ty q = s.ty q from if_neg nq]
        exact H q (Int32.le_of_lt tq) q1
      · exact plO_W _ _ _ wb
    · exact h
theorem play_W {G : Pg} (ok : PgOK G) (s : Ps) : WN (s.play G) := by
  have z : (0 : Int32).toInt = 0 := by decide
  have T4 := le_i ok.t4 (by decide : (4 : Int32).toInt = 4)
  have sty : ∀ q, (s.start G).ty q = if 0 ≤ q ∧ q < G.turns then (s.ty q).clear else s.ty q := fun q => by
    have := clr_ty (G := G) (q := q) fu 0 (by show _ < 10000000; omega) ((((((((s.sGov G.ovs).sLast (2 * G.each - 1)).sHand (-1)).sWon 0).sRule 0).sBt (-1)).sBo (-1)).sBe (-1))
    rw [z, Int.sub_zero] at this
    exact this
  unfold Ps.play
  have := plT_W (G := G) fu 0 (by show _ < 10000000; omega) (s.start G) ?_ (fun q q0 q1 => ?_)
  · rw [z, Int.sub_zero] at this
    exact this
  · intro h1 _
    exfalso
    unfold Ps.start at h1
    rw [(clr_k _ _ _).2.2.1, (clr_k _ _ _).2.1] at h1
    have h1 : (-1 : Int32) = 2 * G.each - 1 := h1
    rcases ok.1 with y | y <;> rw [y] at h1 <;> exact absurd h1 (by decide)
  · rw [sty q, if_pos ⟨q0, q1⟩]
    unfold Ty.clear
    simp only [Ty.i1, Ty.i2, Ty.g1, Ty.g2, ↓reduceIte, Nat.reduceEqDiff]
section Mtu
variable {e e2 : mE} {A : Bk} {g t o : Int32} {P : Pg}
/-- a page changed, and the change kept -/
theorem m_chg (r : MR e A) (h1 : ∀ k, k ≠ 20 → k ≠ 11 → e2.1 k = e.1 k) (h11 : 0 ≤ e2.1 11 ∧ e2.1 11 ≤ 5800) (h2 : ∀ k, (k < 8 ∨ (14 < k ∧ k < 21)) → ∀ i, e2.2 k i = e.2 k i) (hg : PgR e2 g P) (hg' : ∀ g', g' ≠ g → inL A.games g' → PgR e2 g' (A.pg g')) (inj2 : ∀ g1 t o g' t' o', inO (A.chg g P) g1 t o → inO (A.chg g P) g' t' o' → rwT e2 g1 t o = rwT e2 g' t' o' → g1 = g' ∧ t = t' ∧ o = o') (h20 : e2.1 20 = Int32.ofNat ((A.hi.take 39).length + 1)) (hm : HMo e2 0 A.pg (A.hi.take 39)) (mk : MOk e2 (kI A) g P (A.pg g)) : MR e2 (A.chg g P) := by
  obtain ⟨⟨a1, a2, a3, a4, a5, a6⟩, ⟨b1, b2, b3⟩, d, w, u, v⟩ := r
  refine ⟨⟨(h1 1 (by decide) (by decide)).trans a1, (h1 2 (by decide) (by decide)).trans a2, (h1 16 (by decide) (by decide)).trans a3, (h1 18 (by decide) (by decide)).trans a4, (h1 19 (by decide) (by decide)).trans a5, ?_⟩, ⟨fun i hi => (h2 3 (by omega) i).trans (b1 i hi), fun i hi => (h2 15 (by omega) i).trans (b2 i hi), fun i hi => (h2 17 (by omega) i).trans (b3 i hi)⟩, fun g' hg1 => ?_, h11, inj2, ?_⟩
  · rw [h20, chg_hi]; rfl
  · obtain ⟨q1, q2, q3, -⟩ := d g' hg1
    refine ⟨(h2 4 (by omega) _).trans q1, (h2 4 (by omega) _).trans q2, fun s k c => (h2 7 (by omega) _).trans (q3 s k c), ?_⟩
    show PgR e2 g' (if g' = g then P else A.pg g')
    by_cases y : g' = g
    · rw [if_pos y, y]; exact hg
    · rw [if_neg y]; exact hg' g' y hg1
  · rw [chg_hi]
    refine ⟨?_, ?_⟩
    · rw [show (A.chg g P).pg g = P from if_pos rfl]; exact mk
    · rw [chg_pg]; exact hm
theorem MR.why (r : MR e A) (v : Int32) : MR (mS e 19 v) (A.sI 4 v) := by
  obtain ⟨⟨a1, a2, a3, a4, a5, a6⟩, ⟨b1, b2, b3⟩, c, d, f, w⟩ := r
  exact ⟨⟨a1, a2, a3, a4, rfl, a6⟩, ⟨b1, b2, b3⟩, c, d, f, HMo.cg (e := e) (d := 0) _ _ (fun n _ => ⟨fun _ _ _ => rfl, fun _ _ => rfl⟩) (fun q _ t o _ _ => rfl) w⟩
theorem sI_sI {k : Nat} {v w : Int32} : (A.sI k v).sI k w = A.sI k w := by
  unfold Bk.sI
  refine Prod.ext (funext fun j => ?_) rfl
  show (if j = k then w else if j = k then v else A.1 j) = if j = k then w else A.1 j
  by_cases c : j = k
  · rw [if_pos c, if_pos c]
  · rw [if_neg c, if_neg c, if_neg c]
theorem BkOK.why (ok : BkOK A) (v : Int32) : BkOK (A.sI 4 v) := ok
theorem MR.w2 {v : Int32} (r : MR e (A.sI 4 v)) (w : Int32) : MR (mS e 19 w) (A.sI 4 w) := by
  have := r.why w
  rw [sI_sI] at this
  exact this
/-- turn, once the rules have been asked -/
theorem m_t85 {w : Int32} (r : MR e (A.sI 4 w)) (ok : BkOK A) (c : inL A.games g) (h4 : w = 0 → (A.pg g).turns < 4) : Rn (P_X12_turn_85 g e) (fun q => q.1 = (if w = 0 then 1 else 0) ∧ MP e (if w = 0 then (A.chg g (A.pg g).addT).sI 4 0 else A.sI 4 w) q.2) := by
  unfold P_X12_turn_85
  rw [show e.1 19 = w from r.1.2.2.2.2.1]
  by_cases c0 : w = 0
  rotate_left
  · rw [if_neg c0, if_neg c0, if_neg c0]
    exact rn_s ⟨rfl, r, rfl⟩
  subst c0
  rw [if_pos rfl, if_pos rfl, if_pos rfl]
  have t4 := h4 rfl
  have g4 := g400 ok c
  obtain ⟨p1, p2, p3, p4⟩ := (r.2.2.1 g c).2.2.2
  have p3 : e.2 8 g = (A.pg g).turns := p3
  have tu := (ok.pgo c).2.2.1.1
  refine rn_ck g4 ?_
  rw [p3]
  refine rn_ck (ix4 g4.1 g4.2 tu t4) (rn_bd (rn_ck g4 (rn_bd ?_)))
  rw [mA_ne (show (8 : Nat) ≠ 9 by decide), p3]
  have E1 : ∀ k, (mA (mA e 9 (4 * g + (A.pg g).turns) 0) 8 g ((A.pg g).turns + 1)).1 k = e.1 k := fun _ => rfl
  have E2 : ∀ k, k ≠ 8 → k ≠ 9 → ∀ i, (mA (mA e 9 (4 * g + (A.pg g).turns) 0) 8 g ((A.pg g).turns + 1)).2 k i = e.2 k i := fun k n1 n2 i => (mA_ne n1).trans (mA_ne n2)
  have E8 : ∀ i, (mA (mA e 9 (4 * g + (A.pg g).turns) 0) 8 g ((A.pg g).turns + 1)).2 8 i = if i = g then (A.pg g).turns + 1 else e.2 8 i := fun i => by rw [mA_at, mA_ne (by decide)]
  have E9 : ∀ i, (mA (mA e 9 (4 * g + (A.pg g).turns) 0) 8 g ((A.pg g).turns + 1)).2 9 i = if i = 4 * g + (A.pg g).turns then 0 else e.2 9 i := fun i => by rw [mA_ne (by decide), mA_at]
  generalize mA (mA e 9 (4 * g + (A.pg g).turns) 0) 8 g ((A.pg g).turns + 1) = E at E1 E2 E8 E9 ⊢
  have hm : HMo E 0 A.pg A.hi := HMo.cg (e := e) (d := 0) _ _ (fun n _ => ⟨fun j j0 j1 => E2 j (by omega) (by omega) _, fun i _ => E2 27 (by decide) (by decide) _⟩) (fun q _ t o _ _ => E2 10 (by decide) (by decide) _) r.2.2.2.2.2
  refine rn_c (m_done 0 g (-1) 0 0 (by rw [E1]; exact r.1.2.2.2.2.2) ok.2.2.2.2.2.2.2.1 hm) (fun e2 D => rn_s ⟨rfl, ?_, (D.1 11 (by decide)).trans (E1 11)⟩)
  obtain ⟨d1, d2, d3, ⟨d4, d5, d6, d7, d8⟩, d9⟩ := D
  have rw2 : ∀ g t o, rwT e2 g t o = rwT e g t o := fun g t o => (d2 10 (by omega) _).trans (E2 10 (by decide) (by decide) _)
  have i11 : e2.1 11 = e.1 11 := (d1 11 (by decide)).trans (E1 11)
  have ts1 : (A.pg g).turns < 2147483647 := Int32.lt_of_lt_of_le t4 (by decide)
  have vis : ∀ g' t' o', inO ((A.sI 4 0).chg g (A.pg g).addT) g' t' o' → inO A g' t' o' := fun g' t' o' q => by
    have q1 : inL A.games g' := q.1
    have q2 : inL (upP A.pg g (A.pg g).addT g').turns t' := q.2.1
    have q3 : inL ((upP A.pg g (A.pg g).addT g').many t') o' := q.2.2
    unfold upP at q2 q3
    by_cases y : g' = g
    · rw [if_pos y] at q2 q3
      rw [y] at q1 ⊢
      have q2 : inL ((A.pg g).turns + 1) t' := q2
      have q3 : inL (if t' = (A.pg g).turns then 0 else (A.pg g).many t') o' := q3
      rcases (i32_ls ts1).mp q2.2 with z | z
      · rw [if_neg (lt_ne z)] at q3
        exact ⟨q1, ⟨q2.1, z⟩, q3⟩
      · rw [if_pos z] at q3
        exact absurd q3.1 (Int32.not_le.mpr q3.2)
    · rw [if_neg y] at q2 q3
      exact ⟨q1, q2, q3⟩
  have IJ : ∀ g1 t o g' t' o', inO ((A.sI 4 0).chg g (A.pg g).addT) g1 t o → inO ((A.sI 4 0).chg g (A.pg g).addT) g' t' o' → rwT e2 g1 t o = rwT e2 g' t' o' → g1 = g' ∧ t = t' ∧ o = o' := fun g1 t1 o1 g3 t3 o3 p q e => r.2.2.2.2.1 g1 t1 o1 g3 t3 o3 (vis _ _ _ p) (vis _ _ _ q) (by rw [← rw2, ← rw2]; exact e)
  have pgs : ∀ g', inL A.games g' → ∀ t', inL (A.pg g').turns t' → (e2.2 9 (4 * g' + t') = (A.pg g').many t') ∧ ∀ o, inL ((A.pg g').many t') o → (0 ≤ rwT e2 g' t' o ∧ rwT e2 g' t' o < e2.1 11) ∧ e2.2 12 (rwT e2 g' t' o) = (A.pg g').bow t' o ∧ e2.2 13 (rwT e2 g' t' o) = (A.pg g').siz t' o ∧ ∀ i, inL ((A.pg g').siz t' o) i → e2.2 14 (40 * rwT e2 g' t' o + i) = (A.pg g').ent t' o i := fun g' cg' t' ht' => by
    obtain ⟨-, -, -, q4⟩ := (r.2.2.1 g' cg').2.2.2
    obtain ⟨u1, u2⟩ := q4 t' ht'
    refine ⟨?_, fun o ho => ?_⟩
    · rw [d2 9 (by omega), E9, if_neg (fun h => ?_)]
      · exact u1
      · have := inj4 (g400 ok cg') ⟨ht'.1, t_lt4 ok cg' ht'⟩ g4 ⟨tu, t4⟩ h
        rw [this.1, this.2] at ht'
        exact Int32.lt_irrefl ht'.2
    · obtain ⟨v1, v2, v3, v4⟩ := u2 o ho
      rw [rw2, i11, d2 12 (by omega), d2 13 (by omega), E2 12 (by decide) (by decide), E2 13 (by decide) (by decide)]
      exact ⟨v1, v2, v3, fun i hi => by rw [d2 14 (by omega), E2 14 (by decide) (by decide)]; exact v4 i hi⟩
  refine m_chg (A := A.sI 4 0) r (fun k n1 _ => (d1 k n1).trans (E1 k)) (by rw [i11]; exact r.2.2.2.1) (fun k hk i => (d2 k (by omega) i).trans (E2 k (by omega) (by omega) i)) ⟨?_, ?_, ?_, fun t' ht' => ?_⟩ (fun g' n cg' => ?_) IJ d3 d9 ⟨d5, Or.inl ⟨d4, ?_, ?_⟩⟩
  · exact (d2 5 (by omega) _).trans ((E2 5 (by decide) (by decide) _).trans p1)
  · exact (d2 6 (by omega) _).trans ((E2 6 (by decide) (by decide) _).trans p2)
  · rw [d2 8 (by omega), E8, if_pos rfl]; rfl
  · have ht' : inL ((A.pg g).turns + 1) t' := ht'
    show e2.2 9 (4 * g + t') = (if t' = (A.pg g).turns then 0 else (A.pg g).many t') ∧ ∀ o, inL (if t' = (A.pg g).turns then 0 else (A.pg g).many t') o → _
    rcases (i32_ls ts1).mp ht'.2 with z | z
    · rw [if_neg (lt_ne z)]
      exact pgs g c t' ⟨ht'.1, z⟩
    · rw [if_pos z]
      refine ⟨?_, fun o ho => absurd ho.1 (Int32.not_le.mpr ho.2)⟩
      rw [d2 9 (by omega), E9, z, if_pos rfl]
  · obtain ⟨q1, q2, q3, -⟩ := (r.2.2.1 g' cg').2.2.2
    refine ⟨(d2 5 (by omega) _).trans ((E2 5 (by decide) (by decide) _).trans q1), (d2 6 (by omega) _).trans ((E2 6 (by decide) (by decide) _).trans q2), ?_, fun t' ht' => pgs g' cg' t' ht'⟩
    rw [d2 8 (by omega), E8, if_neg n]
    exact q3
  · show 0 < (A.pg g).turns + 1
    have := i32_succ ts1
    have z : (0 : Int32).toInt = 0 := by decide
    have := Int32.le_iff_toInt_le.mp tu
    exact Int32.lt_iff_toInt_lt.mpr (by omega)
  · refine ⟨rfl, rfl, pred1, fun t' ht' => ⟨?_, fun o' _ => ⟨rfl, rfl, fun _ _ => rfl⟩⟩⟩
    have ht' : inL ((A.pg g).turns + 1 - 1) t' := ht'
    rw [pred1] at ht'
    show (if t' = (A.pg g).turns then 0 else (A.pg g).many t') = _
    rw [if_neg (lt_ne ht'.2)]
    rfl
theorem FR.rl {eb e' : mE} {G : Pg} {s : Ps} (h : FR eb g G e' s) : e'.1 28 = s.rule ∧ e'.1 33 = s.won ∧ s.gov = G.ovs ∧ s.last = 2 * G.each - 1 := by
  obtain ⟨t, -, -, -, I⟩ := h
  exact ⟨I.2.1.1, I.2.1.2.2.2.2.2.1, I.2.2.1⟩
theorem FR.fin {eb e' : mE} {G : Pg} {s : Ps} (h : FR eb g G e' s) (hh : s.hand = G.turns - 1) {q : Int32} (q0 : inL G.turns q) : FinT eb g G e' q (s.ty q) := by
  obtain ⟨t, t0, t1, t2, I⟩ := h
  have e1 := I.2.2.2.2.2.1
  rw [hh] at e1
  have : t = G.turns := by
    generalize G.turns = m at e1
    clear I t0 t1 t2 q0 hh
    grind
  rw [this] at I
  exact I.2.2.2.1 q q0.1 q0.2
end Mtu
