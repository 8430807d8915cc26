set_option maxRecDepth 20000 in
theorem pl_X12_thrown {t : Nat} {h0 : aH} {r : Int32} {e' : mE} {h : aH} (hM : MS t h) (f : fr t h0 h) (HP : P_X12_thrown   (menv t h) = some (r, e')) : Gl t h0 (F_X12_thrown  t h) r e' := by
  unfold P_X12_thrown at HP
  unfold F_X12_thrown
  exact gl_end hM f HP

set_option maxRecDepth 20000 in
theorem pl_X12_fail {t : Nat} {h0 : aH} {r : Int32} {e' : mE} {h : aH} (hM : MS t h) (f : fr t h0 h) (HP : P_X12_fail   (menv t h) = some (r, e')) : Gl t h0 (F_X12_fail  t h) r e' := by
  unfold P_X12_fail at HP
  unfold F_X12_fail
  replace HP := bd_n HP
  obtain ⟨e1, Eh1, HP⟩ := HP
  refine gl_sF 0 hM f (fun h1 hM1 f1 Kh1 => ?_)
  obtain rfl : menv t h1 = e1 := mtr Kh1 Eh1
  exact gl_end hM1 f1 HP

set_option maxRecDepth 20000 in
theorem pl_X12_side {t : Nat} {h0 : aH} {r : Int32} {e' : mE} {x1 : Int32} {h : aH} (hM : MS t h) (f : fr t h0 h) (HP : P_X12_side  x1 (menv t h) = some (r, e')) : Gl t h0 (F_X12_side  t x1 h) r e' := by
  unfold P_X12_side at HP
  unfold F_X12_side
  replace HP := bd_n HP
  obtain ⟨e1, Eh1, HP⟩ := HP
  refine gl_sF 0 hM f (fun h1 hM1 f1 Kh1 => ?_)
  obtain rfl : menv t h1 = e1 := mtr Kh1 Eh1
  refine gl_ite (fun c1 => ?_) (fun c1 => ?_)
  · replace HP := ite_T c1 HP
    exact gl_end hM1 f1 HP
  · replace HP := ite_F c1 HP
    refine gl_ite (fun c2 => ?_) (fun c2 => ?_)
    · replace HP := ite_T c2 HP
      exact gl_end hM1 f1 HP
    · replace HP := ite_F c2 HP
      refine gl_ite (fun c3 => ?_) (fun c3 => ?_)
      · replace HP := ite_T c3 HP
        refine gl_o (hM1.2 3 (by decide)).1 ?_
        replace HP := bind_ck HP
        obtain ⟨c4, HP⟩ := HP
        refine gl_ck ⟨(hM1.2 3 (by decide)).2.1, in_of (hM1.2 3 (by decide)).2.2 (by decide) c4⟩ ?_
        try rw [mrd 3 c4.1] at HP
        replace HP := bd_n HP
        obtain ⟨e9, Eh9, HP⟩ := HP
        refine gl_sI 3 hM1 f1 (by decide) (by first | assumption | exact And.left (by assumption) | decide) (fun h9 hM9 f9 Kh9 => ?_)
        obtain rfl : menv t h9 = e9 := mtr Kh9 Eh9
        replace HP := bd_n HP
        obtain ⟨e11, Eh11, HP⟩ := HP
        refine gl_sF 1 hM9 f9 (fun h11 hM11 f11 Kh11 => ?_)
        obtain rfl : menv t h11 = e11 := mtr Kh11 Eh11
        exact gl_end hM11 f11 HP
      · replace HP := ite_F c3 HP
        exact gl_end hM1 f1 HP

set_option maxRecDepth 20000 in
theorem pl_X12_isSide {t : Nat} {h0 : aH} {r : Int32} {e' : mE} {x1 : Int32} {h : aH} (hM : MS t h) (f : fr t h0 h) (HP : P_X12_isSide  x1 (menv t h) = some (r, e')) : Gl t h0 (F_X12_isSide  t x1 h) r e' := by
  unfold P_X12_isSide at HP
  unfold F_X12_isSide
  refine gl_ite (fun c1 => ?_) (fun c1 => ?_)
  · replace HP := ite_T c1 HP
    exact gl_end hM f HP
  · replace HP := ite_F c1 HP
    refine gl_ite (fun c2 => ?_) (fun c2 => ?_)
    · replace HP := ite_T c2 HP
      exact gl_end hM f HP
    · replace HP := ite_F c2 HP
      exact gl_end hM f HP

set_option maxRecDepth 20000 in
theorem pl_X12_isGame {t : Nat} {h0 : aH} {r : Int32} {e' : mE} {x1 : Int32} {h : aH} (hM : MS t h) (f : fr t h0 h) (HP : P_X12_isGame  x1 (menv t h) = some (r, e')) : Gl t h0 (F_X12_isGame  t x1 h) r e' := by
  unfold P_X12_isGame at HP
  unfold F_X12_isGame
  refine gl_ite (fun c1 => ?_) (fun c1 => ?_)
  · replace HP := ite_T c1 HP
    exact gl_end hM f HP
  · replace HP := ite_F c1 HP
    refine gl_ite (fun c2 => ?_) (fun c2 => ?_)
    · replace HP := ite_T c2 HP
      exact gl_end hM f HP
    · replace HP := ite_F c2 HP
      exact gl_end hM f HP

set_option maxRecDepth 20000 in
theorem pl_X12_player {t : Nat} {h0 : aH} {r : Int32} {e' : mE} {x1 : Int32} {h : aH} (hM : MS t h) (f : fr t h0 h) (HP : P_X12_player  x1 (menv t h) = some (r, e')) : Gl t h0 (F_X12_player  t x1 h) r e' := by
  unfold P_X12_player at HP
  unfold F_X12_player
  replace HP := bd_n HP
  obtain ⟨e1, Eh1, HP⟩ := HP
  refine gl_sF 0 hM f (fun h1 hM1 f1 Kh1 => ?_)
  obtain rfl : menv t h1 = e1 := mtr Kh1 Eh1
  replace HP := bind_o HP
  obtain ⟨⟨z5, e4⟩, E1, HP⟩ := HP
  obtain ⟨h4, F2, rfl, hM4, gh4⟩ := pl_X12_isSide (t := t) hM1 (fr.refl _ _) E1
  have f4 := f1.trans gh4
  refine gl_o F2 (gl_bd (gl_bd ?_))
  replace HP := bd_o (bd_o HP)
  dsimp only at HP ⊢
  refine gl_ite (fun c3 => ?_) (fun c3 => ?_)
  · replace HP := ite_T c3 HP
    exact gl_end hM4 f4 HP
  · replace HP := ite_F c3 HP
    refine gl_ck hM4.1 ?_
    refine gl_o (hM4.2 3 (by decide)).1 ?_
    replace HP := bind_ck HP
    obtain ⟨c4, HP⟩ := HP
    refine gl_ck ⟨(hM4.2 3 (by decide)).2.1, in_of (hM4.2 3 (by decide)).2.2 (by decide) c4⟩ ?_
    try rw [mrd 3 c4.1] at HP
    refine gl_ite (fun c5 => ?_) (fun c5 => ?_)
    · replace HP := ite_T c5 HP
      exact gl_end hM4 f4 HP
    · replace HP := ite_F c5 HP
      refine gl_o (hM4.2 3 (by decide)).1 ?_
      replace HP := bind_ck HP
      obtain ⟨c6, HP⟩ := HP
      refine gl_ck ⟨(hM4.2 3 (by decide)).2.1, in_of (hM4.2 3 (by decide)).2.2 (by decide) c6⟩ ?_
      try rw [mrd 3 c6.1] at HP
      replace HP := bd_n HP
      obtain ⟨e16, Eh16, HP⟩ := HP
      refine gl_sI 3 hM4 f4 (by decide) (by first | assumption | exact And.left (by assumption) | decide) (fun h16 hM16 f16 Kh16 => ?_)
      obtain rfl : menv t h16 = e16 := mtr Kh16 Eh16
      refine gl_o (hM16.2 3 (by decide)).1 ?_
      replace HP := bind_ck HP
      obtain ⟨c7, HP⟩ := HP
      refine gl_ck ⟨(hM16.2 3 (by decide)).2.1, in_of (hM16.2 3 (by decide)).2.2 (by decide) c7⟩ ?_
      try rw [mrd 3 c7.1] at HP
      exact gl_end hM16 f16 HP

set_option maxRecDepth 20000 in
theorem pl_X12_newGame_60 {t : Nat} {h0 : aH} {e' : mE} : ∀ {n : Nat} {x5 : Int32} {h : aH}, MS t h → fr t h0 h → P_X12_newGame_60  n x5 (menv t h) = some e' → Glv t h0 (F_X12_newGame_60  n t x5 h) e' := by
  intro n
  induction n with
  | zero => intro x5 h hM f HP; cases HP
  | succ n ih =>
  intro x5 h hM f HP
  unfold P_X12_newGame_60 at HP
  unfold F_X12_newGame_60
  refine gl_iteV (fun c1 => ?_) (fun c1 => ?_)
  · replace HP := ite_T c1 HP
    refine gl_ckV hM.1 ?_
    replace HP := bd_n HP
    obtain ⟨e3, Eh3, HP⟩ := HP
    refine gl_sFV 2 hM f (fun h3 hM3 f3 Kh3 => ?_)
    obtain rfl : menv t h3 = e3 := mtr Kh3 Eh3
    exact gl_endv hM3 f3 HP
  · replace HP := ite_F c1 HP
    refine gl_ckV hM.1 ?_
    refine gl_oV (hM.2 7 (by decide)).1 ?_
    replace HP := bind_ck HP
    obtain ⟨c2, HP⟩ := HP
    refine gl_ckV ⟨(hM.2 7 (by decide)).2.1, in_of (hM.2 7 (by decide)).2.2 (by decide) c2⟩ ?_
    try rw [mrd 7 c2.1] at HP
    replace HP := bd_n HP
    obtain ⟨e9, Eh9, HP⟩ := HP
    refine gl_sIV 7 hM f (by decide) (by first | assumption | exact And.left (by assumption) | decide) (fun h9 hM9 f9 Kh9 => ?_)
    obtain rfl : menv t h9 = e9 := mtr Kh9 Eh9
    replace HP := bd_n HP
    obtain ⟨v11, Ev11, HP⟩ := HP
    refine gl_bdvV Ev11 ?_
    exact ih hM9 f9 HP

set_option maxRecDepth 20000 in
theorem pl_X12_newGame {t : Nat} {h0 : aH} {e' : mE} {x1 : Int32} {x2 : Int32} {x3 : Int32} {x4 : Int32} {h : aH} (hM : MS t h) (f : fr t h0 h) (HP : P_X12_newGame  x1 x2 x3 x4 (menv t h) = some e') : Glv t h0 (F_X12_newGame  t x1 x2 x3 x4 h) e' := by
  unfold P_X12_newGame at HP
  unfold F_X12_newGame
  refine gl_oV (hM.2 4 (by decide)).1 ?_
  replace HP := bind_ck HP
  obtain ⟨c1, HP⟩ := HP
  refine gl_ckV ⟨(hM.2 4 (by decide)).2.1, in_of (hM.2 4 (by decide)).2.2 (by decide) c1⟩ ?_
  try rw [mrd 4 c1.1] at HP
  replace HP := bd_n HP
  obtain ⟨e4, Eh4, HP⟩ := HP
  refine gl_sIV 4 hM f (by decide) (by first | assumption | exact And.left (by assumption) | decide) (fun h4 hM4 f4 Kh4 => ?_)
  obtain rfl : menv t h4 = e4 := mtr Kh4 Eh4
  refine gl_oV (hM4.2 4 (by decide)).1 ?_
  replace HP := bind_ck HP
  obtain ⟨c2, HP⟩ := HP
  refine gl_ckV ⟨(hM4.2 4 (by decide)).2.1, in_of (hM4.2 4 (by decide)).2.2 (by decide) c2⟩ ?_
  try rw [mrd 4 c2.1] at HP
  replace HP := bd_n HP
  obtain ⟨e9, Eh9, HP⟩ := HP
  refine gl_sIV 4 hM4 f4 (by decide) (by first | assumption | exact And.left (by assumption) | decide) (fun h9 hM9 f9 Kh9 => ?_)
  obtain rfl : menv t h9 = e9 := mtr Kh9 Eh9
  refine gl_oV (hM9.2 5 (by decide)).1 ?_
  replace HP := bind_ck HP
  obtain ⟨c3, HP⟩ := HP
  refine gl_ckV ⟨(hM9.2 5 (by decide)).2.1, in_of (hM9.2 5 (by decide)).2.2 (by decide) c3⟩ ?_
  try rw [mrd 5 c3.1] at HP
  replace HP := bd_n HP
  obtain ⟨e14, Eh14, HP⟩ := HP
  refine gl_sIV 5 hM9 f9 (by decide) (by first | assumption | exact And.left (by assumption) | decide) (fun h14 hM14 f14 Kh14 => ?_)
  obtain rfl : menv t h14 = e14 := mtr Kh14 Eh14
  refine gl_oV (hM14.2 6 (by decide)).1 ?_
  replace HP := bind_ck HP
  obtain ⟨c4, HP⟩ := HP
  refine gl_ckV ⟨(hM14.2 6 (by decide)).2.1, in_of (hM14.2 6 (by decide)).2.2 (by decide) c4⟩ ?_
  try rw [mrd 6 c4.1] at HP
  replace HP := bd_n HP
  obtain ⟨e19, Eh19, HP⟩ := HP
  refine gl_sIV 6 hM14 f14 (by decide) (by first | assumption | exact And.left (by assumption) | decide) (fun h19 hM19 f19 Kh19 => ?_)
  obtain rfl : menv t h19 = e19 := mtr Kh19 Eh19
  refine gl_oV (hM19.2 8 (by decide)).1 ?_
  replace HP := bind_ck HP
  obtain ⟨c5, HP⟩ := HP
  refine gl_ckV ⟨(hM19.2 8 (by decide)).2.1, in_of (hM19.2 8 (by decide)).2.2 (by decide) c5⟩ ?_
  try rw [mrd 8 c5.1] at HP
  replace HP := bd_n HP
  obtain ⟨e24, Eh24, HP⟩ := HP
  refine gl_sIV 8 hM19 f19 (by decide) (by first | assumption | exact And.left (by assumption) | decide) (fun h24 hM24 f24 Kh24 => ?_)
  obtain rfl : menv t h24 = e24 := mtr Kh24 Eh24
  exact pl_X12_newGame_60  hM24 f24 HP

set_option maxRecDepth 20000 in
theorem pl_X12_toss {t : Nat} {h0 : aH} {r : Int32} {e' : mE} {x1 : Int32} {x2 : Int32} {x3 : Int32} {x4 : Int32} {h : aH} (hM : MS t h) (f : fr t h0 h) (HP : P_X12_toss  x1 x2 x3 x4 (menv t h) = some (r, e')) : Gl t h0 (F_X12_toss  t x1 x2 x3 x4 h) r e' := by
  unfold P_X12_toss at HP
  unfold F_X12_toss
  replace HP := bd_n HP
  obtain ⟨e1, Eh1, HP⟩ := HP
  refine gl_sF 0 hM f (fun h1 hM1 f1 Kh1 => ?_)
  obtain rfl : menv t h1 = e1 := mtr Kh1 Eh1
  refine gl_ite (fun c1 => ?_) (fun c1 => ?_)
  · replace HP := ite_T c1 HP
    exact gl_end hM1 f1 HP
  · replace HP := ite_F c1 HP
    replace HP := bind_o HP
    obtain ⟨⟨z6, e5⟩, E2, HP⟩ := HP
    obtain ⟨h5, F3, rfl, hM5, gh5⟩ := pl_X12_isSide (t := t) hM1 (fr.refl _ _) E2
    have f5 := f1.trans gh5
    refine gl_o F3 (gl_bd (gl_bd ?_))
    replace HP := bd_o (bd_o HP)
    dsimp only at HP ⊢
    refine gl_ite (fun c4 => ?_) (fun c4 => ?_)
    · replace HP := ite_T c4 HP
      exact gl_end hM5 f5 HP
    · replace HP := ite_F c4 HP
      refine gl_ck hM5.1 ?_
      replace HP := bind_o HP
      obtain ⟨⟨z12, e11⟩, E5, HP⟩ := HP
      obtain ⟨h11, F6, rfl, hM11, gh11⟩ := pl_X12_isSide (t := t) hM5 (fr.refl _ _) E5
      have f11 := f5.trans gh11
      refine gl_o F6 (gl_bd (gl_bd ?_))
      replace HP := bd_o (bd_o HP)
      dsimp only at HP ⊢
      refine gl_ite (fun c7 => ?_) (fun c7 => ?_)
      · replace HP := ite_T c7 HP
        exact gl_end hM11 f11 HP
      · replace HP := ite_F c7 HP
        refine gl_ite (fun c8 => ?_) (fun c8 => ?_)
        · replace HP := ite_T c8 HP
          exact gl_end hM11 f11 HP
        · replace HP := ite_F c8 HP
          refine gl_ite (fun c9 => ?_) (fun c9 => ?_)
          · replace HP := ite_T c9 HP
            exact gl_end hM11 f11 HP
          · replace HP := ite_F c9 HP
            refine gl_ite (fun c10 => ?_) (fun c10 => ?_)
            · replace HP := ite_T c10 HP
              exact gl_end hM11 f11 HP
            · replace HP := ite_F c10 HP
              refine gl_ite (fun c11 => ?_) (fun c11 => ?_)
              · replace HP := ite_T c11 HP
                exact gl_end hM11 f11 HP
              · replace HP := ite_F c11 HP
                refine gl_ite (fun c12 => ?_) (fun c12 => ?_)
                · replace HP := ite_T c12 HP
                  refine gl_ck hM11.1 ?_
                  replace HP := bind_o HP
                  obtain ⟨e22, E13, HP⟩ := HP
                  obtain ⟨h22, F14, rfl, hM22, gh22⟩ := pl_X12_newGame (t := t) hM11 (fr.refl _ _) E13
                  have f22 := f11.trans gh22
                  refine gl_o F14 ?_
                  refine gl_ck hM22.1 ?_
                  exact gl_end hM22 f22 HP
                · replace HP := ite_F c12 HP
                  exact gl_end hM11 f11 HP

set_option maxRecDepth 20000 in
theorem pl_X12_seat_123 {t : Nat} {h0 : aH} {r : Int32} {e' : mE} {qk82 : Int32 → Int32 → Int32 → Int32 → mE → Option (Int32 × mE)} {k82 : Nat → Int32 → Int32 → Int32 → Int32 → aH → Option (Int32 × aH)} (hk82 : ∀ {u1 : Int32} {u2 : Int32} {u3 : Int32} {u4 : Int32} {h : aH}, MS t h → fr t h0 h → qk82 u1 u2 u3 u4 (menv t h) = some (r, e') → Gl t h0 (k82 t u1 u2 u3 u4 h) r e') {x3 : Int32} {x4 : Int32} {x5 : Int32} {x6 : Int32} {h : aH} (hM : MS t h) (f : fr t h0 h) (HP : P_X12_seat_123 qk82 x3 x4 x5 x6 (menv t h) = some (r, e')) : Gl t h0 (F_X12_seat_123 k82 t x3 x4 x5 x6 h) r e' := by
  unfold P_X12_seat_123 at HP
  unfold F_X12_seat_123
  replace HP := bd_n HP
  obtain ⟨v1, Ev1, HP⟩ := HP
  refine gl_bdv Ev1 ?_
  exact hk82 hM f HP

set_option maxRecDepth 20000 in
theorem pl_X12_seat_82 {t : Nat} {h0 : aH} {r : Int32} {e' : mE} : ∀ {n : Nat} {x3 : Int32} {x4 : Int32} {x5 : Int32} {x6 : Int32} {h : aH}, MS t h → fr t h0 h → P_X12_seat_82  n x3 x4 x5 x6 (menv t h) = some (r, e') → Gl t h0 (F_X12_seat_82  n t x3 x4 x5 x6 h) r e' := by
  intro n
  induction n with
  | zero => intro x3 x4 x5 x6 h hM f HP; cases HP
  | succ n ih =>
  intro x3 x4 x5 x6 h hM f HP
  unfold P_X12_seat_82 at HP
  unfold F_X12_seat_82
  refine gl_ite (fun c1 => ?_) (fun c1 => ?_)
  · replace HP := ite_T c1 HP
    refine gl_ck hM.1 ?_
    refine gl_o (hM.2 7 (by decide)).1 ?_
    replace HP := bind_ck HP
    obtain ⟨c2, HP⟩ := HP
    refine gl_ck ⟨(hM.2 7 (by decide)).2.1, in_of (hM.2 7 (by decide)).2.2 (by decide) c2⟩ ?_
    try rw [mrd 7 c2.1] at HP
    replace HP := bd_n HP
    obtain ⟨e6, Eh6, HP⟩ := HP
    refine gl_sI 7 hM f (by decide) (by first | assumption | exact And.left (by assumption) | decide) (fun h6 hM6 f6 Kh6 => ?_)
    obtain rfl : menv t h6 = e6 := mtr Kh6 Eh6
    exact gl_end hM6 f6 HP
  · replace HP := ite_F c1 HP
    refine gl_ck hM.1 ?_
    refine gl_o (hM.2 7 (by decide)).1 ?_
    replace HP := bind_ck HP
    obtain ⟨c3, HP⟩ := HP
    refine gl_ck ⟨(hM.2 7 (by decide)).2.1, in_of (hM.2 7 (by decide)).2.2 (by decide) c3⟩ ?_
    try rw [mrd 7 c3.1] at HP
    refine gl_ite (fun c4 => ?_) (fun c4 => ?_)
    · replace HP := ite_T c4 HP
      refine gl_o (hM.2 7 (by decide)).1 ?_
      refine gl_o (hM.2 7 (by decide)).1 ?_
      replace HP := bind_ck HP
      obtain ⟨c5, HP⟩ := HP
      refine gl_ck ⟨(hM.2 7 (by decide)).2.1, in_of (hM.2 7 (by decide)).2.2 (by decide) c5⟩ ?_
      try rw [mrd 7 c5.1] at HP
      replace HP := bind_ck HP
      obtain ⟨c6, HP⟩ := HP
      refine gl_ck ⟨(hM.2 7 (by decide)).2.1, in_of (hM.2 7 (by decide)).2.2 (by decide) c6⟩ ?_
      try rw [mrd 7 c6.1] at HP
      replace HP := bd_n HP
      obtain ⟨e19, Eh19, HP⟩ := HP
      refine gl_sI 7 hM f (by decide) (by first | assumption | exact And.left (by assumption) | decide) (fun h19 hM19 f19 Kh19 => ?_)
      obtain rfl : menv t h19 = e19 := mtr Kh19 Eh19
      exact pl_X12_seat_123 (fun hm ff hp => ih hm ff hp) hM19 f19 HP
    · replace HP := ite_F c4 HP
      exact pl_X12_seat_123 (fun hm ff hp => ih hm ff hp) hM f HP

set_option maxRecDepth 20000 in
theorem pl_X12_seat {t : Nat} {h0 : aH} {r : Int32} {e' : mE} {x1 : Int32} {x2 : Int32} {x3 : Int32} {x4 : Int32} {h : aH} (hM : MS t h) (f : fr t h0 h) (HP : P_X12_seat  x1 x2 x3 x4 (menv t h) = some (r, e')) : Gl t h0 (F_X12_seat  t x1 x2 x3 x4 h) r e' := by
  unfold P_X12_seat at HP
  unfold F_X12_seat
  replace HP := bd_n HP
  obtain ⟨e1, Eh1, HP⟩ := HP
  refine gl_sF 0 hM f (fun h1 hM1 f1 Kh1 => ?_)
  obtain rfl : menv t h1 = e1 := mtr Kh1 Eh1
  replace HP := bind_o HP
  obtain ⟨⟨z5, e4⟩, E1, HP⟩ := HP
  obtain ⟨h4, F2, rfl, hM4, gh4⟩ := pl_X12_isGame (t := t) hM1 (fr.refl _ _) E1
  have f4 := f1.trans gh4
  refine gl_o F2 (gl_bd (gl_bd ?_))
  replace HP := bd_o (bd_o HP)
  dsimp only at HP ⊢
  refine gl_ite (fun c3 => ?_) (fun c3 => ?_)
  · replace HP := ite_T c3 HP
    exact gl_end hM4 f4 HP
  · replace HP := ite_F c3 HP
    refine gl_ite (fun c4 => ?_) (fun c4 => ?_)
    · replace HP := ite_T c4 HP
      exact gl_end hM4 f4 HP
    · replace HP := ite_F c4 HP
      refine gl_ite (fun c5 => ?_) (fun c5 => ?_)
      · replace HP := ite_T c5 HP
        exact gl_end hM4 f4 HP
      · replace HP := ite_F c5 HP
        refine gl_ite (fun c6 => ?_) (fun c6 => ?_)
        · replace HP := ite_T c6 HP
          exact gl_end hM4 f4 HP
        · replace HP := ite_F c6 HP
          refine gl_ite (fun c7 => ?_) (fun c7 => ?_)
          · replace HP := ite_T c7 HP
            exact gl_end hM4 f4 HP
          · replace HP := ite_F c7 HP
            refine gl_ite (fun c8 => ?_) (fun c8 => ?_)
            · replace HP := ite_T c8 HP
              exact gl_end hM4 f4 HP
            · replace HP := ite_F c8 HP
              refine gl_ck hM4.1 ?_
              refine gl_o (hM4.2 3 (by decide)).1 ?_
              refine gl_o (hM4.2 4 (by decide)).1 ?_
              replace HP := bind_ck HP
              obtain ⟨c9, HP⟩ := HP
              refine gl_ck ⟨(hM4.2 4 (by decide)).2.1, in_of (hM4.2 4 (by decide)).2.2 (by decide) c9⟩ ?_
              try rw [mrd 4 c9.1] at HP
              replace HP := bind_ck HP
              obtain ⟨c10, HP⟩ := HP
              refine gl_ck ⟨(hM4.2 3 (by decide)).2.1, in_of (hM4.2 3 (by decide)).2.2 (by decide) c10⟩ ?_
              try rw [mrd 3 c10.1] at HP
              refine gl_ite (fun c11 => ?_) (fun c11 => ?_)
              · replace HP := ite_T c11 HP
                exact gl_end hM4 f4 HP
              · replace HP := ite_F c11 HP
                refine gl_o (hM4.2 8 (by decide)).1 ?_
                replace HP := bind_ck HP
                obtain ⟨c12, HP⟩ := HP
                refine gl_ck ⟨(hM4.2 8 (by decide)).2.1, in_of (hM4.2 8 (by decide)).2.2 (by decide) c12⟩ ?_
                try rw [mrd 8 c12.1] at HP
                refine gl_ite (fun c13 => ?_) (fun c13 => ?_)
                · replace HP := ite_T c13 HP
                  replace HP := bd_n HP
                  obtain ⟨v25, Ev25, HP⟩ := HP
                  refine gl_bdv Ev25 ?_
                  exact pl_X12_seat_82  hM4 f4 HP
                · replace HP := ite_F c13 HP
                  exact gl_end hM4 f4 HP

set_option maxRecDepth 20000 in
theorem pl_X12_table {t : Nat} {h0 : aH} {r : Int32} {e' : mE} {x0 : Int32} {x1 : Int32} {h : aH} (hM : MS t h) (f : fr t h0 h) (HP : P_X12_table  x0 x1 (menv t h) = some (r, e')) : Gl t h0 (F_X12_table  x0 x1 h) r e' := by
  unfold P_X12_table at HP
  unfold F_X12_table
  exact gl_end hM f HP

set_option maxRecDepth 20000 in
theorem pl_X12_left {t : Nat} {h0 : aH} {r : Int32} {e' : mE} {x1 : Int32} {h : aH} (hM : MS t h) (f : fr t h0 h) (HP : P_X12_left  x1 (menv t h) = some (r, e')) : Gl t h0 (F_X12_left  t x1 h) r e' := by
  unfold P_X12_left at HP
  unfold F_X12_left
  refine gl_o (hM.2 40 (by decide)).1 ?_
  replace HP := bind_ck HP
  obtain ⟨c1, HP⟩ := HP
  refine gl_ck ⟨(hM.2 40 (by decide)).2.1, in_of (hM.2 40 (by decide)).2.2 (by decide) c1⟩ ?_
  try rw [mrd 40 c1.1] at HP
  refine gl_o (hM.2 37 (by decide)).1 ?_
  replace HP := bind_ck HP
  obtain ⟨c2, HP⟩ := HP
  refine gl_ck ⟨(hM.2 37 (by decide)).2.1, in_of (hM.2 37 (by decide)).2.2 (by decide) c2⟩ ?_
  try rw [mrd 37 c2.1] at HP
  refine gl_o (hM.2 38 (by decide)).1 ?_
  replace HP := bind_ck HP
  obtain ⟨c3, HP⟩ := HP
  refine gl_ck ⟨(hM.2 38 (by decide)).2.1, in_of (hM.2 38 (by decide)).2.2 (by decide) c3⟩ ?_
  try rw [mrd 38 c3.1] at HP
  exact gl_end hM f HP

set_option maxRecDepth 20000 in
theorem pl_X12_lastTurn {t : Nat} {h0 : aH} {r : Int32} {e' : mE} {x1 : Int32} {h : aH} (hM : MS t h) (f : fr t h0 h) (HP : P_X12_lastTurn  x1 (menv t h) = some (r, e')) : Gl t h0 (F_X12_lastTurn  t x1 h) r e' := by
  unfold P_X12_lastTurn at HP
  unfold F_X12_lastTurn
  refine gl_o (hM.2 6 (by decide)).1 ?_
  replace HP := bind_ck HP
  obtain ⟨c1, HP⟩ := HP
  refine gl_ck ⟨(hM.2 6 (by decide)).2.1, in_of (hM.2 6 (by decide)).2.2 (by decide) c1⟩ ?_
  try rw [mrd 6 c1.1] at HP
  exact gl_end hM f HP

set_option maxRecDepth 20000 in
theorem pl_X12_stop {t : Nat} {h0 : aH} {e' : mE} {x1 : Int32} {x2 : Int32} {x3 : Int32} {x4 : Int32} {h : aH} (hM : MS t h) (f : fr t h0 h) (HP : P_X12_stop  x1 x2 x3 x4 (menv t h) = some e') : Glv t h0 (F_X12_stop  t x1 x2 x3 x4 h) e' := by
  unfold P_X12_stop at HP
  unfold F_X12_stop
  replace HP := bd_n HP
  obtain ⟨e1, Eh1, HP⟩ := HP
  refine gl_sFV 28 hM f (fun h1 hM1 f1 Kh1 => ?_)
  obtain rfl : menv t h1 = e1 := mtr Kh1 Eh1
  replace HP := bd_n HP
  obtain ⟨e3, Eh3, HP⟩ := HP
  refine gl_sFV 29 hM1 f1 (fun h3 hM3 f3 Kh3 => ?_)
  obtain rfl : menv t h3 = e3 := mtr Kh3 Eh3
  replace HP := bd_n HP
  obtain ⟨e5, Eh5, HP⟩ := HP
  refine gl_sFV 30 hM3 f3 (fun h5 hM5 f5 Kh5 => ?_)
  obtain rfl : menv t h5 = e5 := mtr Kh5 Eh5
  replace HP := bd_n HP
  obtain ⟨e7, Eh7, HP⟩ := HP
  refine gl_sFV 31 hM5 f5 (fun h7 hM7 f7 Kh7 => ?_)
  obtain rfl : menv t h7 = e7 := mtr Kh7 Eh7
  exact gl_endv hM7 f7 HP

set_option maxRecDepth 20000 in
theorem pl_X12_clearTurn_131 {t : Nat} {h0 : aH} {e' : mE} : ∀ {n : Nat} {x1 : Int32} {x2 : Int32} {h : aH}, MS t h → fr t h0 h → P_X12_clearTurn_131  n x1 x2 (menv t h) = some e' → Glv t h0 (F_X12_clearTurn_131  n t x1 x2 h) e' := by
  intro n
  induction n with
  | zero => intro x1 x2 h hM f HP; cases HP
  | succ n ih =>
  intro x1 x2 h hM f HP
  unfold P_X12_clearTurn_131 at HP
  unfold F_X12_clearTurn_131
  refine gl_iteV (fun c1 => ?_) (fun c1 => ?_)
  · replace HP := ite_T c1 HP
    exact gl_endv hM f HP
  · replace HP := ite_F c1 HP
    refine gl_ckV hM.1 ?_
    refine gl_oV (hM.2 53 (by decide)).1 ?_
    replace HP := bind_ck HP
    obtain ⟨c2, HP⟩ := HP
    refine gl_ckV ⟨(hM.2 53 (by decide)).2.1, in_of (hM.2 53 (by decide)).2.2 (by decide) c2⟩ ?_
    try rw [mrd 53 c2.1] at HP
    replace HP := bd_n HP
    obtain ⟨e6, Eh6, HP⟩ := HP
    refine gl_sIV 53 hM f (by decide) (by first | assumption | exact And.left (by assumption) | decide) (fun h6 hM6 f6 Kh6 => ?_)
    obtain rfl : menv t h6 = e6 := mtr Kh6 Eh6
    refine gl_oV (hM6.2 54 (by decide)).1 ?_
    replace HP := bind_ck HP
    obtain ⟨c3, HP⟩ := HP
    refine gl_ckV ⟨(hM6.2 54 (by decide)).2.1, in_of (hM6.2 54 (by decide)).2.2 (by decide) c3⟩ ?_
    try rw [mrd 54 c3.1] at HP
    replace HP := bd_n HP
    obtain ⟨e11, Eh11, HP⟩ := HP
    refine gl_sIV 54 hM6 f6 (by decide) (by first | assumption | exact And.left (by assumption) | decide) (fun h11 hM11 f11 Kh11 => ?_)
    obtain rfl : menv t h11 = e11 := mtr Kh11 Eh11
    refine gl_oV (hM11.2 55 (by decide)).1 ?_
    replace HP := bind_ck HP
    obtain ⟨c4, HP⟩ := HP
    refine gl_ckV ⟨(hM11.2 55 (by decide)).2.1, in_of (hM11.2 55 (by decide)).2.2 (by decide) c4⟩ ?_
    try rw [mrd 55 c4.1] at HP
    replace HP := bd_n HP
    obtain ⟨e16, Eh16, HP⟩ := HP
    refine gl_sIV 55 hM11 f11 (by decide) (by first | assumption | exact And.left (by assumption) | decide) (fun h16 hM16 f16 Kh16 => ?_)
    obtain rfl : menv t h16 = e16 := mtr Kh16 Eh16
    refine gl_oV (hM16.2 56 (by decide)).1 ?_
    replace HP := bind_ck HP
    obtain ⟨c5, HP⟩ := HP
    refine gl_ckV ⟨(hM16.2 56 (by decide)).2.1, in_of (hM16.2 56 (by decide)).2.2 (by decide) c5⟩ ?_
    try rw [mrd 56 c5.1] at HP
    replace HP := bd_n HP
    obtain ⟨e21, Eh21, HP⟩ := HP
    refine gl_sIV 56 hM16 f16 (by decide) (by first | assumption | exact And.left (by assumption) | decide) (fun h21 hM21 f21 Kh21 => ?_)
    obtain rfl : menv t h21 = e21 := mtr Kh21 Eh21
    refine gl_oV (hM21.2 57 (by decide)).1 ?_
    replace HP := bind_ck HP
    obtain ⟨c6, HP⟩ := HP
    refine gl_ckV ⟨(hM21.2 57 (by decide)).2.1, in_of (hM21.2 57 (by decide)).2.2 (by decide) c6⟩ ?_
    try rw [mrd 57 c6.1] at HP
    replace HP := bd_n HP
    obtain ⟨e26, Eh26, HP⟩ := HP
    refine gl_sIV 57 hM21 f21 (by decide) (by first | assumption | exact And.left (by assumption) | decide) (fun h26 hM26 f26 Kh26 => ?_)
    obtain rfl : menv t h26 = e26 := mtr Kh26 Eh26
    refine gl_oV (hM26.2 58 (by decide)).1 ?_
    replace HP := bind_ck HP
    obtain ⟨c7, HP⟩ := HP
    refine gl_ckV ⟨(hM26.2 58 (by decide)).2.1, in_of (hM26.2 58 (by decide)).2.2 (by decide) c7⟩ ?_
    try rw [mrd 58 c7.1] at HP
    replace HP := bd_n HP
    obtain ⟨e31, Eh31, HP⟩ := HP
    refine gl_sIV 58 hM26 f26 (by decide) (by first | assumption | exact And.left (by assumption) | decide) (fun h31 hM31 f31 Kh31 => ?_)
    obtain rfl : menv t h31 = e31 := mtr Kh31 Eh31
    replace HP := bd_n HP
    obtain ⟨v33, Ev33, HP⟩ := HP
    refine gl_bdvV Ev33 ?_
    exact ih hM31 f31 HP

set_option maxRecDepth 20000 in
theorem pl_X12_clearTurn {t : Nat} {h0 : aH} {e' : mE} {x1 : Int32} {h : aH} (hM : MS t h) (f : fr t h0 h) (HP : P_X12_clearTurn  x1 (menv t h) = some e') : Glv t h0 (F_X12_clearTurn  t x1 h) e' := by
  unfold P_X12_clearTurn at HP
  unfold F_X12_clearTurn
  refine gl_oV (hM.2 35 (by decide)).1 ?_
  replace HP := bind_ck HP
  obtain ⟨c1, HP⟩ := HP
  refine gl_ckV ⟨(hM.2 35 (by decide)).2.1, in_of (hM.2 35 (by decide)).2.2 (by decide) c1⟩ ?_
  try rw [mrd 35 c1.1] at HP
  replace HP := bd_n HP
  obtain ⟨e4, Eh4, HP⟩ := HP
  refine gl_sIV 35 hM f (by decide) (by first | assumption | exact And.left (by assumption) | decide) (fun h4 hM4 f4 Kh4 => ?_)
  obtain rfl : menv t h4 = e4 := mtr Kh4 Eh4
  refine gl_oV (hM4.2 36 (by decide)).1 ?_
  replace HP := bind_ck HP
  obtain ⟨c2, HP⟩ := HP
  refine gl_ckV ⟨(hM4.2 36 (by decide)).2.1, in_of (hM4.2 36 (by decide)).2.2 (by decide) c2⟩ ?_
  try rw [mrd 36 c2.1] at HP
  replace HP := bd_n HP
  obtain ⟨e9, Eh9, HP⟩ := HP
  refine gl_sIV 36 hM4 f4 (by decide) (by first | assumption | exact And.left (by assumption) | decide) (fun h9 hM9 f9 Kh9 => ?_)
  obtain rfl : menv t h9 = e9 := mtr Kh9 Eh9
  refine gl_oV (hM9.2 37 (by decide)).1 ?_
  replace HP := bind_ck HP
  obtain ⟨c3, HP⟩ := HP
  refine gl_ckV ⟨(hM9.2 37 (by decide)).2.1, in_of (hM9.2 37 (by decide)).2.2 (by decide) c3⟩ ?_
  try rw [mrd 37 c3.1] at HP
  replace HP := bd_n HP
  obtain ⟨e14, Eh14, HP⟩ := HP
  refine gl_sIV 37 hM9 f9 (by decide) (by first | assumption | exact And.left (by assumption) | decide) (fun h14 hM14 f14 Kh14 => ?_)
  obtain rfl : menv t h14 = e14 := mtr Kh14 Eh14
  refine gl_oV (hM14.2 38 (by decide)).1 ?_
  replace HP := bind_ck HP
  obtain ⟨c4, HP⟩ := HP
  refine gl_ckV ⟨(hM14.2 38 (by decide)).2.1, in_of (hM14.2 38 (by decide)).2.2 (by decide) c4⟩ ?_
  try rw [mrd 38 c4.1] at HP
  replace HP := bd_n HP
  obtain ⟨e19, Eh19, HP⟩ := HP
  refine gl_sIV 38 hM14 f14 (by decide) (by first | assumption | exact And.left (by assumption) | decide) (fun h19 hM19 f19 Kh19 => ?_)
  obtain rfl : menv t h19 = e19 := mtr Kh19 Eh19
  refine gl_oV (hM19.2 39 (by decide)).1 ?_
  replace HP := bind_ck HP
  obtain ⟨c5, HP⟩ := HP
  refine gl_ckV ⟨(hM19.2 39 (by decide)).2.1, in_of (hM19.2 39 (by decide)).2.2 (by decide) c5⟩ ?_
  try rw [mrd 39 c5.1] at HP
  replace HP := bd_n HP
  obtain ⟨e24, Eh24, HP⟩ := HP
  refine gl_sIV 39 hM19 f19 (by decide) (by first | assumption | exact And.left (by assumption) | decide) (fun h24 hM24 f24 Kh24 => ?_)
  obtain rfl : menv t h24 = e24 := mtr Kh24 Eh24
  refine gl_oV (hM24.2 40 (by decide)).1 ?_
  replace HP := bind_ck HP
  obtain ⟨c6, HP⟩ := HP
  refine gl_ckV ⟨(hM24.2 40 (by decide)).2.1, in_of (hM24.2 40 (by decide)).2.2 (by decide) c6⟩ ?_
  try rw [mrd 40 c6.1] at HP
  replace HP := bd_n HP
  obtain ⟨e29, Eh29, HP⟩ := HP
  refine gl_sIV 40 hM24 f24 (by decide) (by first | assumption | exact And.left (by assumption) | decide) (fun h29 hM29 f29 Kh29 => ?_)
  obtain rfl : menv t h29 = e29 := mtr Kh29 Eh29
  refine gl_oV (hM29.2 41 (by decide)).1 ?_
  replace HP := bind_ck HP
  obtain ⟨c7, HP⟩ := HP
  refine gl_ckV ⟨(hM29.2 41 (by decide)).2.1, in_of (hM29.2 41 (by decide)).2.2 (by decide) c7⟩ ?_
  try rw [mrd 41 c7.1] at HP
  replace HP := bd_n HP
  obtain ⟨e34, Eh34, HP⟩ := HP
  refine gl_sIV 41 hM29 f29 (by decide) (by first | assumption | exact And.left (by assumption) | decide) (fun h34 hM34 f34 Kh34 => ?_)
  obtain rfl : menv t h34 = e34 := mtr Kh34 Eh34
  refine gl_oV (hM34.2 42 (by decide)).1 ?_
  replace HP := bind_ck HP
  obtain ⟨c8, HP⟩ := HP
  refine gl_ckV ⟨(hM34.2 42 (by decide)).2.1, in_of (hM34.2 42 (by decide)).2.2 (by decide) c8⟩ ?_
  try rw [mrd 42 c8.1] at HP
  replace HP := bd_n HP
  obtain ⟨e39, Eh39, HP⟩ := HP
  refine gl_sIV 42 hM34 f34 (by decide) (by first | assumption | exact And.left (by assumption) | decide) (fun h39 hM39 f39 Kh39 => ?_)
  obtain rfl : menv t h39 = e39 := mtr Kh39 Eh39
  refine gl_oV (hM39.2 43 (by decide)).1 ?_
  replace HP := bind_ck HP
  obtain ⟨c9, HP⟩ := HP
  refine gl_ckV ⟨(hM39.2 43 (by decide)).2.1, in_of (hM39.2 43 (by decide)).2.2 (by decide) c9⟩ ?_
  try rw [mrd 43 c9.1] at HP
  replace HP := bd_n HP
  obtain ⟨e44, Eh44, HP⟩ := HP
  refine gl_sIV 43 hM39 f39 (by decide) (by first | assumption | exact And.left (by assumption) | decide) (fun h44 hM44 f44 Kh44 => ?_)
  obtain rfl : menv t h44 = e44 := mtr Kh44 Eh44
  refine gl_oV (hM44.2 44 (by decide)).1 ?_
  replace HP := bind_ck HP
  obtain ⟨c10, HP⟩ := HP
  refine gl_ckV ⟨(hM44.2 44 (by decide)).2.1, in_of (hM44.2 44 (by decide)).2.2 (by decide) c10⟩ ?_
  try rw [mrd 44 c10.1] at HP
  replace HP := bd_n HP
  obtain ⟨e49, Eh49, HP⟩ := HP
  refine gl_sIV 44 hM44 f44 (by decide) (by first | assumption | exact And.left (by assumption) | decide) (fun h49 hM49 f49 Kh49 => ?_)
  obtain rfl : menv t h49 = e49 := mtr Kh49 Eh49
  refine gl_oV (hM49.2 45 (by decide)).1 ?_
  replace HP := bind_ck HP
  obtain ⟨c11, HP⟩ := HP
  refine gl_ckV ⟨(hM49.2 45 (by decide)).2.1, in_of (hM49.2 45 (by decide)).2.2 (by decide) c11⟩ ?_
  try rw [mrd 45 c11.1] at HP
  replace HP := bd_n HP
  obtain ⟨e54, Eh54, HP⟩ := HP
  refine gl_sIV 45 hM49 f49 (by decide) (by first | assumption | exact And.left (by assumption) | decide) (fun h54 hM54 f54 Kh54 => ?_)
  obtain rfl : menv t h54 = e54 := mtr Kh54 Eh54
  refine gl_oV (hM54.2 46 (by decide)).1 ?_
  replace HP := bind_ck HP
  obtain ⟨c12, HP⟩ := HP
  refine gl_ckV ⟨(hM54.2 46 (by decide)).2.1, in_of (hM54.2 46 (by decide)).2.2 (by decide) c12⟩ ?_
  try rw [mrd 46 c12.1] at HP
  replace HP := bd_n HP
  obtain ⟨e59, Eh59, HP⟩ := HP
  refine gl_sIV 46 hM54 f54 (by decide) (by first | assumption | exact And.left (by assumption) | decide) (fun h59 hM59 f59 Kh59 => ?_)
  obtain rfl : menv t h59 = e59 := mtr Kh59 Eh59
  refine gl_oV (hM59.2 47 (by decide)).1 ?_
  replace HP := bind_ck HP
  obtain ⟨c13, HP⟩ := HP
  refine gl_ckV ⟨(hM59.2 47 (by decide)).2.1, in_of (hM59.2 47 (by decide)).2.2 (by decide) c13⟩ ?_
  try rw [mrd 47 c13.1] at HP
  replace HP := bd_n HP
  obtain ⟨e64, Eh64, HP⟩ := HP
  refine gl_sIV 47 hM59 f59 (by decide) (by first | assumption | exact And.left (by assumption) | decide) (fun h64 hM64 f64 Kh64 => ?_)
  obtain rfl : menv t h64 = e64 := mtr Kh64 Eh64
  refine gl_oV (hM64.2 48 (by decide)).1 ?_
  replace HP := bind_ck HP
  obtain ⟨c14, HP⟩ := HP
  refine gl_ckV ⟨(hM64.2 48 (by decide)).2.1, in_of (hM64.2 48 (by decide)).2.2 (by decide) c14⟩ ?_
  try rw [mrd 48 c14.1] at HP
  replace HP := bd_n HP
  obtain ⟨e69, Eh69, HP⟩ := HP
  refine gl_sIV 48 hM64 f64 (by decide) (by first | assumption | exact And.left (by assumption) | decide) (fun h69 hM69 f69 Kh69 => ?_)
  obtain rfl : menv t h69 = e69 := mtr Kh69 Eh69
  refine gl_oV (hM69.2 49 (by decide)).1 ?_
  replace HP := bind_ck HP
  obtain ⟨c15, HP⟩ := HP
  refine gl_ckV ⟨(hM69.2 49 (by decide)).2.1, in_of (hM69.2 49 (by decide)).2.2 (by decide) c15⟩ ?_
  try rw [mrd 49 c15.1] at HP
  replace HP := bd_n HP
  obtain ⟨e74, Eh74, HP⟩ := HP
  refine gl_sIV 49 hM69 f69 (by decide) (by first | assumption | exact And.left (by assumption) | decide) (fun h74 hM74 f74 Kh74 => ?_)
  obtain rfl : menv t h74 = e74 := mtr Kh74 Eh74
  refine gl_oV (hM74.2 50 (by decide)).1 ?_
  replace HP := bind_ck HP
  obtain ⟨c16, HP⟩ := HP
  refine gl_ckV ⟨(hM74.2 50 (by decide)).2.1, in_of (hM74.2 50 (by decide)).2.2 (by decide) c16⟩ ?_
  try rw [mrd 50 c16.1] at HP
  replace HP := bd_n HP
  obtain ⟨e79, Eh79, HP⟩ := HP
  refine gl_sIV 50 hM74 f74 (by decide) (by first | assumption | exact And.left (by assumption) | decide) (fun h79 hM79 f79 Kh79 => ?_)
  obtain rfl : menv t h79 = e79 := mtr Kh79 Eh79
  refine gl_oV (hM79.2 51 (by decide)).1 ?_
  replace HP := bind_ck HP
  obtain ⟨c17, HP⟩ := HP
  refine gl_ckV ⟨(hM79.2 51 (by decide)).2.1, in_of (hM79.2 51 (by decide)).2.2 (by decide) c17⟩ ?_
  try rw [mrd 51 c17.1] at HP
  replace HP := bd_n HP
  obtain ⟨e84, Eh84, HP⟩ := HP
  refine gl_sIV 51 hM79 f79 (by decide) (by first | assumption | exact And.left (by assumption) | decide) (fun h84 hM84 f84 Kh84 => ?_)
  obtain rfl : menv t h84 = e84 := mtr Kh84 Eh84
  refine gl_oV (hM84.2 52 (by decide)).1 ?_
  replace HP := bind_ck HP
  obtain ⟨c18, HP⟩ := HP
  refine gl_ckV ⟨(hM84.2 52 (by decide)).2.1, in_of (hM84.2 52 (by decide)).2.2 (by decide) c18⟩ ?_
  try rw [mrd 52 c18.1] at HP
  replace HP := bd_n HP
  obtain ⟨e89, Eh89, HP⟩ := HP
  refine gl_sIV 52 hM84 f84 (by decide) (by first | assumption | exact And.left (by assumption) | decide) (fun h89 hM89 f89 Kh89 => ?_)
  obtain rfl : menv t h89 = e89 := mtr Kh89 Eh89
  replace HP := bd_n HP
  obtain ⟨v91, Ev91, HP⟩ := HP
  refine gl_bdvV Ev91 ?_
  exact pl_X12_clearTurn_131  hM89 f89 HP

set_option maxRecDepth 20000 in
theorem pl_X12_rowOf {t : Nat} {h0 : aH} {r : Int32} {e' : mE} {x1 : Int32} {x2 : Int32} {x3 : Int32} {h : aH} (hM : MS t h) (f : fr t h0 h) (HP : P_X12_rowOf  x1 x2 x3 (menv t h) = some (r, e')) : Gl t h0 (F_X12_rowOf  t x1 x2 x3 h) r e' := by
  unfold P_X12_rowOf at HP
  unfold F_X12_rowOf
  refine gl_o (hM.2 10 (by decide)).1 ?_
  replace HP := bind_ck HP
  obtain ⟨c1, HP⟩ := HP
  refine gl_ck ⟨(hM.2 10 (by decide)).2.1, in_of (hM.2 10 (by decide)).2.2 (by decide) c1⟩ ?_
  try rw [mrd 10 c1.1] at HP
  exact gl_end hM f HP

set_option maxRecDepth 20000 in
theorem pl_X12_aim {t : Nat} {h0 : aH} {e' : mE} {x1 : Int32} {x2 : Int32} {h : aH} (hM : MS t h) (f : fr t h0 h) (HP : P_X12_aim  x1 x2 (menv t h) = some e') : Glv t h0 (F_X12_aim  t x1 x2 h) e' := by
  unfold P_X12_aim at HP
  unfold F_X12_aim
  refine gl_iteV (fun c1 => ?_) (fun c1 => ?_)
  · replace HP := ite_T c1 HP
    refine gl_oV (hM.2 35 (by decide)).1 ?_
    replace HP := bind_ck HP
    obtain ⟨c2, HP⟩ := HP
    refine gl_ckV ⟨(hM.2 35 (by decide)).2.1, in_of (hM.2 35 (by decide)).2.2 (by decide) c2⟩ ?_
    try rw [mrd 35 c2.1] at HP
    refine gl_oV (hM.2 35 (by decide)).1 ?_
    replace HP := bind_ck HP
    obtain ⟨c3, HP⟩ := HP
    refine gl_ckV ⟨(hM.2 35 (by decide)).2.1, in_of (hM.2 35 (by decide)).2.2 (by decide) c3⟩ ?_
    try rw [mrd 35 c3.1] at HP
    refine gl_oV (hM.2 35 (by decide)).1 ?_
    replace HP := bind_ck HP
    obtain ⟨c4, HP⟩ := HP
    refine gl_ckV ⟨(hM.2 35 (by decide)).2.1, in_of (hM.2 35 (by decide)).2.2 (by decide) c4⟩ ?_
    try rw [mrd 35 c4.1] at HP
    replace HP := bd_n HP
    obtain ⟨e11, Eh11, HP⟩ := HP
    refine gl_sFV 34 hM f (fun h11 hM11 f11 Kh11 => ?_)
    obtain rfl : menv t h11 = e11 := mtr Kh11 Eh11
    exact gl_endv hM11 f11 HP
  · replace HP := ite_F c1 HP
    refine gl_oV (hM.2 35 (by decide)).1 ?_
    replace HP := bind_ck HP
    obtain ⟨c5, HP⟩ := HP
    refine gl_ckV ⟨(hM.2 35 (by decide)).2.1, in_of (hM.2 35 (by decide)).2.2 (by decide) c5⟩ ?_
    try rw [mrd 35 c5.1] at HP
    replace HP := bd_n HP
    obtain ⟨v16, Ev16, HP⟩ := HP
    refine gl_bdvV Ev16 ?_
    refine gl_oV (hM.2 43 (by decide)).1 ?_
    replace HP := bind_ck HP
    obtain ⟨c6, HP⟩ := HP
    refine gl_ckV ⟨(hM.2 43 (by decide)).2.1, in_of (hM.2 43 (by decide)).2.2 (by decide) c6⟩ ?_
    try rw [mrd 43 c6.1] at HP
    replace HP := bd_n HP
    obtain ⟨v20, Ev20, HP⟩ := HP
    refine gl_bdvV Ev20 ?_
    refine gl_oV (hM.2 43 (by decide)).1 ?_
    replace HP := bind_ck HP
    obtain ⟨c7, HP⟩ := HP
    refine gl_ckV ⟨(hM.2 43 (by decide)).2.1, in_of (hM.2 43 (by decide)).2.2 (by decide) c7⟩ ?_
    try rw [mrd 43 c7.1] at HP
    replace HP := bd_n HP
    obtain ⟨v24, Ev24, HP⟩ := HP
    refine gl_bdvV Ev24 ?_
    refine gl_iteV (fun c8 => ?_) (fun c8 => ?_)
    · replace HP := ite_T c8 HP
      refine gl_iteV (fun c9 => ?_) (fun c9 => ?_)
      · replace HP := ite_T c9 HP
        replace HP := bd_n HP
        obtain ⟨e27, Eh27, HP⟩ := HP
        refine gl_sFV 34 hM f (fun h27 hM27 f27 Kh27 => ?_)
        obtain rfl : menv t h27 = e27 := mtr Kh27 Eh27
        exact gl_endv hM27 f27 HP
      · replace HP := ite_F c9 HP
        replace HP := bind_ck HP
        obtain ⟨c10, HP⟩ := HP
        refine gl_ckV c10 ?_
        replace HP := bd_n HP
        obtain ⟨e30, Eh30, HP⟩ := HP
        refine gl_sFV 34 hM f (fun h30 hM30 f30 Kh30 => ?_)
        obtain rfl : menv t h30 = e30 := mtr Kh30 Eh30
        exact gl_endv hM30 f30 HP
    · replace HP := ite_F c8 HP
      replace HP := bd_n HP
      obtain ⟨e32, Eh32, HP⟩ := HP
      refine gl_sFV 34 hM f (fun h32 hM32 f32 Kh32 => ?_)
      obtain rfl : menv t h32 = e32 := mtr Kh32 Eh32
      exact gl_endv hM32 f32 HP

set_option maxRecDepth 20000 in
theorem pl_X12_change {t : Nat} {h0 : aH} {e' : mE} {x1 : Int32} {h : aH} (hM : MS t h) (f : fr t h0 h) (HP : P_X12_change  x1 (menv t h) = some e') : Glv t h0 (F_X12_change  t x1 h) e' := by
  unfold P_X12_change at HP
  unfold F_X12_change
  refine gl_oV (hM.2 45 (by decide)).1 ?_
  replace HP := bind_ck HP
  obtain ⟨c1, HP⟩ := HP
  refine gl_ckV ⟨(hM.2 45 (by decide)).2.1, in_of (hM.2 45 (by decide)).2.2 (by decide) c1⟩ ?_
  try rw [mrd 45 c1.1] at HP
  replace HP := bd_n HP
  obtain ⟨v4, Ev4, HP⟩ := HP
  refine gl_bdvV Ev4 ?_
  refine gl_oV (hM.2 45 (by decide)).1 ?_
  refine gl_oV (hM.2 46 (by decide)).1 ?_
  replace HP := bind_ck HP
  obtain ⟨c2, HP⟩ := HP
  refine gl_ckV ⟨(hM.2 46 (by decide)).2.1, in_of (hM.2 46 (by decide)).2.2 (by decide) c2⟩ ?_
  try rw [mrd 46 c2.1] at HP
  replace HP := bind_ck HP
  obtain ⟨c3, HP⟩ := HP
  refine gl_ckV ⟨(hM.2 45 (by decide)).2.1, in_of (hM.2 45 (by decide)).2.2 (by decide) c3⟩ ?_
  try rw [mrd 45 c3.1] at HP
  replace HP := bd_n HP
  obtain ⟨e11, Eh11, HP⟩ := HP
  refine gl_sIV 45 hM f (by decide) (by first | assumption | exact And.left (by assumption) | decide) (fun h11 hM11 f11 Kh11 => ?_)
  obtain rfl : menv t h11 = e11 := mtr Kh11 Eh11
  refine gl_oV (hM11.2 46 (by decide)).1 ?_
  replace HP := bind_ck HP
  obtain ⟨c4, HP⟩ := HP
  refine gl_ckV ⟨(hM11.2 46 (by decide)).2.1, in_of (hM11.2 46 (by decide)).2.2 (by decide) c4⟩ ?_
  try rw [mrd 46 c4.1] at HP
  replace HP := bd_n HP
  obtain ⟨e16, Eh16, HP⟩ := HP
  refine gl_sIV 46 hM11 f11 (by decide) (by first | assumption | exact And.left (by assumption) | decide) (fun h16 hM16 f16 Kh16 => ?_)
  obtain rfl : menv t h16 = e16 := mtr Kh16 Eh16
  exact gl_endv hM16 f16 HP

set_option maxRecDepth 20000 in
theorem pl_X12_becomesWhole {t : Nat} {h0 : aH} {e' : mE} {x1 : Int32} {x2 : Int32} {h : aH} (hM : MS t h) (f : fr t h0 h) (HP : P_X12_becomesWhole  x1 x2 (menv t h) = some e') : Glv t h0 (F_X12_becomesWhole  t x1 x2 h) e' := by
  unfold P_X12_becomesWhole at HP
  unfold F_X12_becomesWhole
  refine gl_oV (hM.2 62 (by decide)).1 ?_
  replace HP := bind_ck HP
  obtain ⟨c1, HP⟩ := HP
  refine gl_ckV ⟨(hM.2 62 (by decide)).2.1, in_of (hM.2 62 (by decide)).2.2 (by decide) c1⟩ ?_
  try rw [mrd 62 c1.1] at HP
  replace HP := bd_n HP
  obtain ⟨e4, Eh4, HP⟩ := HP
  refine gl_sIV 62 hM f (by decide) (by first | assumption | exact And.left (by assumption) | decide) (fun h4 hM4 f4 Kh4 => ?_)
  obtain rfl : menv t h4 = e4 := mtr Kh4 Eh4
  refine gl_oV (hM4.2 37 (by decide)).1 ?_
  replace HP := bind_ck HP
  obtain ⟨c2, HP⟩ := HP
  refine gl_ckV ⟨(hM4.2 37 (by decide)).2.1, in_of (hM4.2 37 (by decide)).2.2 (by decide) c2⟩ ?_
  try rw [mrd 37 c2.1] at HP
  replace HP := bd_n HP
  obtain ⟨e9, Eh9, HP⟩ := HP
  refine gl_sIV 37 hM4 f4 (by decide) (by first | assumption | exact And.left (by assumption) | decide) (fun h9 hM9 f9 Kh9 => ?_)
  obtain rfl : menv t h9 = e9 := mtr Kh9 Eh9
  refine gl_oV (hM9.2 38 (by decide)).1 ?_
  replace HP := bind_ck HP
  obtain ⟨c3, HP⟩ := HP
  refine gl_ckV ⟨(hM9.2 38 (by decide)).2.1, in_of (hM9.2 38 (by decide)).2.2 (by decide) c3⟩ ?_
  try rw [mrd 38 c3.1] at HP
  replace HP := bd_n HP
  obtain ⟨e14, Eh14, HP⟩ := HP
  refine gl_sIV 38 hM9 f9 (by decide) (by first | assumption | exact And.left (by assumption) | decide) (fun h14 hM14 f14 Kh14 => ?_)
  obtain rfl : menv t h14 = e14 := mtr Kh14 Eh14
  replace HP := bind_o HP
  obtain ⟨e17, E4, HP⟩ := HP
  obtain ⟨h17, F5, rfl, hM17, gh17⟩ := pl_X12_change (t := t) hM14 (fr.refl _ _) E4
  have f17 := f14.trans gh17
  refine gl_oV F5 ?_
  exact gl_endv hM17 f17 HP

set_option maxRecDepth 20000 in
theorem pl_X12_isEntry {t : Nat} {h0 : aH} {r : Int32} {e' : mE} {x0 : Int32} {x1 : Int32} {h : aH} (hM : MS t h) (f : fr t h0 h) (HP : P_X12_isEntry  x0 x1 (menv t h) = some (r, e')) : Gl t h0 (F_X12_isEntry  x0 x1 h) r e' := by
  unfold P_X12_isEntry at HP
  unfold F_X12_isEntry
  refine gl_ite (fun c1 => ?_) (fun c1 => ?_)
  · replace HP := ite_T c1 HP
    refine gl_ite (fun c2 => ?_) (fun c2 => ?_)
    · replace HP := ite_T c2 HP
      exact gl_end hM f HP
    · replace HP := ite_F c2 HP
      exact gl_end hM f HP
  · replace HP := ite_F c1 HP
    refine gl_ite (fun c3 => ?_) (fun c3 => ?_)
    · replace HP := ite_T c3 HP
      refine gl_ite (fun c4 => ?_) (fun c4 => ?_)
      · replace HP := ite_T c4 HP
        exact gl_end hM f HP
      · replace HP := ite_F c4 HP
        exact gl_end hM f HP
    · replace HP := ite_F c3 HP
      refine gl_ite (fun c5 => ?_) (fun c5 => ?_)
      · replace HP := ite_T c5 HP
        refine gl_ite (fun c6 => ?_) (fun c6 => ?_)
        · replace HP := ite_T c6 HP
          exact gl_end hM f HP
        · replace HP := ite_F c6 HP
          exact gl_end hM f HP
      · replace HP := ite_F c5 HP
        refine gl_ite (fun c7 => ?_) (fun c7 => ?_)
        · replace HP := ite_T c7 HP
          refine gl_ite (fun c8 => ?_) (fun c8 => ?_)
          · replace HP := ite_T c8 HP
            exact gl_end hM f HP
          · replace HP := ite_F c8 HP
            exact gl_end hM f HP
        · replace HP := ite_F c7 HP
          refine gl_ite (fun c9 => ?_) (fun c9 => ?_)
          · replace HP := ite_T c9 HP
            refine gl_ite (fun c10 => ?_) (fun c10 => ?_)
            · replace HP := ite_T c10 HP
              exact gl_end hM f HP
            · replace HP := ite_F c10 HP
              exact gl_end hM f HP
          · replace HP := ite_F c9 HP
            refine gl_ite (fun c11 => ?_) (fun c11 => ?_)
            · replace HP := ite_T c11 HP
              refine gl_ite (fun c12 => ?_) (fun c12 => ?_)
              · replace HP := ite_T c12 HP
                exact gl_end hM f HP
              · replace HP := ite_F c12 HP
                refine gl_ite (fun c13 => ?_) (fun c13 => ?_)
                · replace HP := ite_T c13 HP
                  exact gl_end hM f HP
                · replace HP := ite_F c13 HP
                  exact gl_end hM f HP
            · replace HP := ite_F c11 HP
              refine gl_ite (fun c14 => ?_) (fun c14 => ?_)
              · replace HP := ite_T c14 HP
                refine gl_ite (fun c15 => ?_) (fun c15 => ?_)
                · replace HP := ite_T c15 HP
                  exact gl_end hM f HP
                · replace HP := ite_F c15 HP
                  exact gl_end hM f HP
              · replace HP := ite_F c14 HP
                refine gl_ite (fun c16 => ?_) (fun c16 => ?_)
                · replace HP := ite_T c16 HP
                  refine gl_ite (fun c17 => ?_) (fun c17 => ?_)
                  · replace HP := ite_T c17 HP
                    exact gl_end hM f HP
                  · replace HP := ite_F c17 HP
                    exact gl_end hM f HP
                · replace HP := ite_F c16 HP
                  refine gl_ite (fun c18 => ?_) (fun c18 => ?_)
                  · replace HP := ite_T c18 HP
                    exact gl_end hM f HP
                  · replace HP := ite_F c18 HP
                    refine gl_ite (fun c19 => ?_) (fun c19 => ?_)
                    · replace HP := ite_T c19 HP
                      exact gl_end hM f HP
                    · replace HP := ite_F c19 HP
                      exact gl_end hM f HP

set_option maxRecDepth 20000 in
theorem pl_X12_counts {t : Nat} {h0 : aH} {r : Int32} {e' : mE} {x0 : Int32} {h : aH} (hM : MS t h) (f : fr t h0 h) (HP : P_X12_counts  x0 (menv t h) = some (r, e')) : Gl t h0 (F_X12_counts  x0 h) r e' := by
  unfold P_X12_counts at HP
  unfold F_X12_counts
  refine gl_ite (fun c1 => ?_) (fun c1 => ?_)
  · replace HP := ite_T c1 HP
    exact gl_end hM f HP
  · replace HP := ite_F c1 HP
    refine gl_ite (fun c2 => ?_) (fun c2 => ?_)
    · replace HP := ite_T c2 HP
      exact gl_end hM f HP
    · replace HP := ite_F c2 HP
      refine gl_ite (fun c3 => ?_) (fun c3 => ?_)
      · replace HP := ite_T c3 HP
        exact gl_end hM f HP
      · replace HP := ite_F c3 HP
        refine gl_ite (fun c4 => ?_) (fun c4 => ?_)
        · replace HP := ite_T c4 HP
          exact gl_end hM f HP
        · replace HP := ite_F c4 HP
          exact gl_end hM f HP

set_option maxRecDepth 20000 in
theorem pl_X12_against_57 {t : Nat} {h0 : aH} {r : Int32} {e' : mE} {x1 : Int32} {x2 : Int32} {x4 : Int32} {x5 : Int32} {h : aH} (hM : MS t h) (f : fr t h0 h) (HP : P_X12_against_57  x1 x2 x4 x5 (menv t h) = some (r, e')) : Gl t h0 (F_X12_against_57  t x1 x2 x4 x5 h) r e' := by
  unfold P_X12_against_57 at HP
  unfold F_X12_against_57
  refine gl_ite (fun c1 => ?_) (fun c1 => ?_)
  · replace HP := ite_T c1 HP
    refine gl_ck hM.1 ?_
    refine gl_o (hM.2 6 (by decide)).1 ?_
    replace HP := bind_ck HP
    obtain ⟨c2, HP⟩ := HP
    refine gl_ck ⟨(hM.2 6 (by decide)).2.1, in_of (hM.2 6 (by decide)).2.2 (by decide) c2⟩ ?_
    try rw [mrd 6 c2.1] at HP
    refine gl_ite (fun c3 => ?_) (fun c3 => ?_)
    · replace HP := ite_T c3 HP
      exact gl_end hM f HP
    · replace HP := ite_F c3 HP
      refine gl_o (hM.2 40 (by decide)).1 ?_
      replace HP := bind_ck HP
      obtain ⟨c4, HP⟩ := HP
      refine gl_ck ⟨(hM.2 40 (by decide)).2.1, in_of (hM.2 40 (by decide)).2.2 (by decide) c4⟩ ?_
      try rw [mrd 40 c4.1] at HP
      refine gl_o (hM.2 44 (by decide)).1 ?_
      replace HP := bind_ck HP
      obtain ⟨c5, HP⟩ := HP
      refine gl_ck ⟨(hM.2 44 (by decide)).2.1, in_of (hM.2 44 (by decide)).2.2 (by decide) c5⟩ ?_
      try rw [mrd 44 c5.1] at HP
      refine gl_ite (fun c6 => ?_) (fun c6 => ?_)
      · replace HP := ite_T c6 HP
        exact gl_end hM f HP
      · replace HP := ite_F c6 HP
        exact gl_end hM f HP
  · replace HP := ite_F c1 HP
    exact gl_end hM f HP

set_option maxRecDepth 20000 in
theorem pl_X12_against {t : Nat} {h0 : aH} {r : Int32} {e' : mE} {x1 : Int32} {x2 : Int32} {x3 : Int32} {x4 : Int32} {x5 : Int32} {h : aH} (hM : MS t h) (f : fr t h0 h) (HP : P_X12_against  x1 x2 x3 x4 x5 (menv t h) = some (r, e')) : Gl t h0 (F_X12_against  t x1 x2 x3 x4 x5 h) r e' := by
  unfold P_X12_against at HP
  unfold F_X12_against
  replace HP := bind_o HP
  obtain ⟨⟨z3, e2⟩, E1, HP⟩ := HP
  obtain ⟨h2, F2, rfl, hM2, gh2⟩ := pl_X12_isEntry (t := t) hM (fr.refl _ _) E1
  have f2 := f.trans gh2
  refine gl_o F2 (gl_bd (gl_bd ?_))
  replace HP := bd_o (bd_o HP)
  dsimp only at HP ⊢
  refine gl_ite (fun c3 => ?_) (fun c3 => ?_)
  · replace HP := ite_T c3 HP
    exact gl_end hM2 f2 HP
  · replace HP := ite_F c3 HP
    refine gl_ck hM2.1 ?_
    refine gl_o (hM2.2 41 (by decide)).1 ?_
    replace HP := bind_ck HP
    obtain ⟨c4, HP⟩ := HP
    refine gl_ck ⟨(hM2.2 41 (by decide)).2.1, in_of (hM2.2 41 (by decide)).2.2 (by decide) c4⟩ ?_
    try rw [mrd 41 c4.1] at HP
    refine gl_ite (fun c5 => ?_) (fun c5 => ?_)
    · replace HP := ite_T c5 HP
      refine gl_o (hM2.2 62 (by decide)).1 ?_
      replace HP := bind_ck HP
      obtain ⟨c6, HP⟩ := HP
      refine gl_ck ⟨(hM2.2 62 (by decide)).2.1, in_of (hM2.2 62 (by decide)).2.2 (by decide) c6⟩ ?_
      try rw [mrd 62 c6.1] at HP
      refine gl_ite (fun c7 => ?_) (fun c7 => ?_)
      · replace HP := ite_T c7 HP
        exact pl_X12_against_57  hM2 f2 HP
      · replace HP := ite_F c7 HP
        replace HP := bind_o HP
        obtain ⟨⟨z17, e16⟩, E8, HP⟩ := HP
        obtain ⟨h16, F9, rfl, hM16, gh16⟩ := pl_X12_counts (t := t) hM2 (fr.refl _ _) E8
        have f16 := f2.trans gh16
        refine gl_o F9 (gl_bd (gl_bd ?_))
        replace HP := bd_o (bd_o HP)
        dsimp only at HP ⊢
        refine gl_ite (fun c10 => ?_) (fun c10 => ?_)
        · replace HP := ite_T c10 HP
          refine gl_ite (fun c11 => ?_) (fun c11 => ?_)
          · replace HP := ite_T c11 HP
            exact gl_end hM16 f16 HP
          · replace HP := ite_F c11 HP
            refine gl_ite (fun c12 => ?_) (fun c12 => ?_)
            · replace HP := ite_T c12 HP
              exact gl_end hM16 f16 HP
            · replace HP := ite_F c12 HP
              exact pl_X12_against_57  hM16 f16 HP
        · replace HP := ite_F c10 HP
          exact gl_end hM16 f16 HP
    · replace HP := ite_F c5 HP
      exact gl_end hM2 f2 HP

set_option maxRecDepth 20000 in
theorem pl_X12_adds {t : Nat} {h0 : aH} {e' : mE} {x1 : Int32} {x2 : Int32} {x3 : Int32} {h : aH} (hM : MS t h) (f : fr t h0 h) (HP : P_X12_adds  x1 x2 x3 (menv t h) = some e') : Glv t h0 (F_X12_adds  t x1 x2 x3 h) e' := by
  unfold P_X12_adds at HP
  unfold F_X12_adds
  refine gl_oV (hM.2 35 (by decide)).1 ?_
  replace HP := bind_ck HP
  obtain ⟨c1, HP⟩ := HP
  refine gl_ckV ⟨(hM.2 35 (by decide)).2.1, in_of (hM.2 35 (by decide)).2.2 (by decide) c1⟩ ?_
  try rw [mrd 35 c1.1] at HP
  replace HP := bd_n HP
  obtain ⟨e4, Eh4, HP⟩ := HP
  refine gl_sIV 35 hM f (by decide) (by first | assumption | exact And.left (by assumption) | decide) (fun h4 hM4 f4 Kh4 => ?_)
  obtain rfl : menv t h4 = e4 := mtr Kh4 Eh4
  refine gl_oV (hM4.2 59 (by decide)).1 ?_
  replace HP := bind_ck HP
  obtain ⟨c2, HP⟩ := HP
  refine gl_ckV ⟨(hM4.2 59 (by decide)).2.1, in_of (hM4.2 59 (by decide)).2.2 (by decide) c2⟩ ?_
  try rw [mrd 59 c2.1] at HP
  replace HP := bd_n HP
  obtain ⟨e9, Eh9, HP⟩ := HP
  refine gl_sIV 59 hM4 f4 (by decide) (by first | assumption | exact And.left (by assumption) | decide) (fun h9 hM9 f9 Kh9 => ?_)
  obtain rfl : menv t h9 = e9 := mtr Kh9 Eh9
  exact gl_endv hM9 f9 HP

set_option maxRecDepth 20000 in
theorem pl_X12_hit {t : Nat} {h0 : aH} {e' : mE} {x1 : Int32} {x2 : Int32} {x3 : Int32} {h : aH} (hM : MS t h) (f : fr t h0 h) (HP : P_X12_hit  x1 x2 x3 (menv t h) = some e') : Glv t h0 (F_X12_hit  t x1 x2 x3 h) e' := by
  unfold P_X12_hit at HP
  unfold F_X12_hit
  refine gl_oV (hM.2 53 (by decide)).1 ?_
  refine gl_oV (hM.2 45 (by decide)).1 ?_
  replace HP := bind_ck HP
  obtain ⟨c1, HP⟩ := HP
  refine gl_ckV ⟨(hM.2 45 (by decide)).2.1, in_of (hM.2 45 (by decide)).2.2 (by decide) c1⟩ ?_
  try rw [mrd 45 c1.1] at HP
  replace HP := bind_ck HP
  obtain ⟨c2, HP⟩ := HP
  refine gl_ckV ⟨(hM.2 53 (by decide)).2.1, in_of (hM.2 53 (by decide)).2.2 (by decide) c2⟩ ?_
  try rw [mrd 53 c2.1] at HP
  replace HP := bd_n HP
  obtain ⟨e7, Eh7, HP⟩ := HP
  refine gl_sIV 53 hM f (by decide) (by first | assumption | exact And.left (by assumption) | decide) (fun h7 hM7 f7 Kh7 => ?_)
  obtain rfl : menv t h7 = e7 := mtr Kh7 Eh7
  refine gl_oV (hM7.2 57 (by decide)).1 ?_
  refine gl_oV (hM7.2 51 (by decide)).1 ?_
  replace HP := bind_ck HP
  obtain ⟨c3, HP⟩ := HP
  refine gl_ckV ⟨(hM7.2 51 (by decide)).2.1, in_of (hM7.2 51 (by decide)).2.2 (by decide) c3⟩ ?_
  try rw [mrd 51 c3.1] at HP
  replace HP := bind_ck HP
  obtain ⟨c4, HP⟩ := HP
  refine gl_ckV ⟨(hM7.2 57 (by decide)).2.1, in_of (hM7.2 57 (by decide)).2.2 (by decide) c4⟩ ?_
  try rw [mrd 57 c4.1] at HP
  replace HP := bd_n HP
  obtain ⟨e15, Eh15, HP⟩ := HP
  refine gl_sIV 57 hM7 f7 (by decide) (by first | assumption | exact And.left (by assumption) | decide) (fun h15 hM15 f15 Kh15 => ?_)
  obtain rfl : menv t h15 = e15 := mtr Kh15 Eh15
  replace HP := bind_o HP
  obtain ⟨e18, E5, HP⟩ := HP
  obtain ⟨h18, F6, rfl, hM18, gh18⟩ := pl_X12_adds (t := t) hM15 (fr.refl _ _) E5
  have f18 := f15.trans gh18
  refine gl_oV F6 ?_
  exact gl_endv hM18 f18 HP

set_option maxRecDepth 20000 in
theorem pl_X12_crosses {t : Nat} {h0 : aH} {e' : mE} {x1 : Int32} {x2 : Int32} {h : aH} (hM : MS t h) (f : fr t h0 h) (HP : P_X12_crosses  x1 x2 (menv t h) = some e') : Glv t h0 (F_X12_crosses  t x1 x2 h) e' := by
  unfold P_X12_crosses at HP
  unfold F_X12_crosses
  refine gl_iteV (fun c1 => ?_) (fun c1 => ?_)
  · replace HP := ite_T c1 HP
    replace HP := bind_o HP
    obtain ⟨e3, E2, HP⟩ := HP
    obtain ⟨h3, F3, rfl, hM3, gh3⟩ := pl_X12_change (t := t) hM (fr.refl _ _) E2
    have f3 := f.trans gh3
    refine gl_oV F3 ?_
    exact gl_endv hM3 f3 HP
  · replace HP := ite_F c1 HP
    exact gl_endv hM f HP

set_option maxRecDepth 20000 in
theorem pl_X12_leaves_100 {t : Nat} {h0 : aH} {e' : mE} {x1 : Int32} {x3 : Int32} {x6 : Int32} {h : aH} (hM : MS t h) (f : fr t h0 h) (HP : P_X12_leaves_100  x1 x3 x6 (menv t h) = some e') : Glv t h0 (F_X12_leaves_100  t x1 x3 x6 h) e' := by
  unfold P_X12_leaves_100 at HP
  unfold F_X12_leaves_100
  refine gl_iteV (fun c1 => ?_) (fun c1 => ?_)
  · replace HP := ite_T c1 HP
    refine gl_ckV hM.1 ?_
    refine gl_oV (hM.2 46 (by decide)).1 ?_
    replace HP := bind_ck HP
    obtain ⟨c2, HP⟩ := HP
    refine gl_ckV ⟨(hM.2 46 (by decide)).2.1, in_of (hM.2 46 (by decide)).2.2 (by decide) c2⟩ ?_
    try rw [mrd 46 c2.1] at HP
    replace HP := bd_n HP
    obtain ⟨e6, Eh6, HP⟩ := HP
    refine gl_sIV 46 hM f (by decide) (by first | assumption | exact And.left (by assumption) | decide) (fun h6 hM6 f6 Kh6 => ?_)
    obtain rfl : menv t h6 = e6 := mtr Kh6 Eh6
    exact gl_endv hM6 f6 HP
  · replace HP := ite_F c1 HP
    refine gl_ckV hM.1 ?_
    refine gl_oV (hM.2 45 (by decide)).1 ?_
    replace HP := bind_ck HP
    obtain ⟨c3, HP⟩ := HP
    refine gl_ckV ⟨(hM.2 45 (by decide)).2.1, in_of (hM.2 45 (by decide)).2.2 (by decide) c3⟩ ?_
    try rw [mrd 45 c3.1] at HP
    replace HP := bd_n HP
    obtain ⟨e12, Eh12, HP⟩ := HP
    refine gl_sIV 45 hM f (by decide) (by first | assumption | exact And.left (by assumption) | decide) (fun h12 hM12 f12 Kh12 => ?_)
    obtain rfl : menv t h12 = e12 := mtr Kh12 Eh12
    exact gl_endv hM12 f12 HP

set_option maxRecDepth 20000 in
theorem pl_X12_leaves_19 {t : Nat} {h0 : aH} {e' : mE} {x1 : Int32} {x2 : Int32} {x3 : Int32} {x4 : Int32} {y0 : Int32} {h : aH} (hM : MS t h) (f : fr t h0 h) (HP : P_X12_leaves_19  x1 x2 x3 x4 y0 (menv t h) = some e') : Glv t h0 (F_X12_leaves_19  t x1 x2 x3 x4 y0 h) e' := by
  unfold P_X12_leaves_19 at HP
  unfold F_X12_leaves_19
  refine gl_ckV hM.1 ?_
  refine gl_oV (hM.2 55 (by decide)).1 ?_
  replace HP := bind_ck HP
  obtain ⟨c1, HP⟩ := HP
  refine gl_ckV ⟨(hM.2 55 (by decide)).2.1, in_of (hM.2 55 (by decide)).2.2 (by decide) c1⟩ ?_
  try rw [mrd 55 c1.1] at HP
  replace HP := bd_n HP
  obtain ⟨e5, Eh5, HP⟩ := HP
  refine gl_sIV 55 hM f (by decide) (by first | assumption | exact And.left (by assumption) | decide) (fun h5 hM5 f5 Kh5 => ?_)
  obtain rfl : menv t h5 = e5 := mtr Kh5 Eh5
  refine gl_oV (hM5.2 36 (by decide)).1 ?_
  replace HP := bind_ck HP
  obtain ⟨c2, HP⟩ := HP
  refine gl_ckV ⟨(hM5.2 36 (by decide)).2.1, in_of (hM5.2 36 (by decide)).2.2 (by decide) c2⟩ ?_
  try rw [mrd 36 c2.1] at HP
  replace HP := bd_n HP
  obtain ⟨e10, Eh10, HP⟩ := HP
  refine gl_sIV 36 hM5 f5 (by decide) (by first | assumption | exact And.left (by assumption) | decide) (fun h10 hM10 f10 Kh10 => ?_)
  obtain rfl : menv t h10 = e10 := mtr Kh10 Eh10
  refine gl_oV (hM10.2 60 (by decide)).1 ?_
  replace HP := bind_ck HP
  obtain ⟨c3, HP⟩ := HP
  refine gl_ckV ⟨(hM10.2 60 (by decide)).2.1, in_of (hM10.2 60 (by decide)).2.2 (by decide) c3⟩ ?_
  try rw [mrd 60 c3.1] at HP
  replace HP := bd_n HP
  obtain ⟨e15, Eh15, HP⟩ := HP
  refine gl_sIV 60 hM10 f10 (by decide) (by first | assumption | exact And.left (by assumption) | decide) (fun h15 hM15 f15 Kh15 => ?_)
  obtain rfl : menv t h15 = e15 := mtr Kh15 Eh15
  refine gl_oV (hM15.2 36 (by decide)).1 ?_
  replace HP := bind_ck HP
  obtain ⟨c4, HP⟩ := HP
  refine gl_ckV ⟨(hM15.2 36 (by decide)).2.1, in_of (hM15.2 36 (by decide)).2.2 (by decide) c4⟩ ?_
  try rw [mrd 36 c4.1] at HP
  refine gl_iteV (fun c5 => ?_) (fun c5 => ?_)
  · replace HP := ite_T c5 HP
    exact pl_X12_leaves_100  hM15 f15 HP
  · replace HP := ite_F c5 HP
    refine gl_oV (hM15.2 47 (by decide)).1 ?_
    replace HP := bind_ck HP
    obtain ⟨c6, HP⟩ := HP
    refine gl_ckV ⟨(hM15.2 47 (by decide)).2.1, in_of (hM15.2 47 (by decide)).2.2 (by decide) c6⟩ ?_
    try rw [mrd 47 c6.1] at HP
    replace HP := bd_n HP
    obtain ⟨v24, Ev24, HP⟩ := HP
    refine gl_bdvV Ev24 ?_
    refine gl_oV (hM15.2 47 (by decide)).1 ?_
    replace HP := bind_ck HP
    obtain ⟨c7, HP⟩ := HP
    refine gl_ckV ⟨(hM15.2 47 (by decide)).2.1, in_of (hM15.2 47 (by decide)).2.2 (by decide) c7⟩ ?_
    try rw [mrd 47 c7.1] at HP
    replace HP := bd_n HP
    obtain ⟨e28, Eh28, HP⟩ := HP
    refine gl_sIV 47 hM15 f15 (by decide) (by first | assumption | exact And.left (by assumption) | decide) (fun h28 hM28 f28 Kh28 => ?_)
    obtain rfl : menv t h28 = e28 := mtr Kh28 Eh28
    refine gl_oV (hM28.2 55 (by decide)).1 ?_
    replace HP := bind_ck HP
    obtain ⟨c8, HP⟩ := HP
    refine gl_ckV ⟨(hM28.2 55 (by decide)).2.1, in_of (hM28.2 55 (by decide)).2.2 (by decide) c8⟩ ?_
    try rw [mrd 55 c8.1] at HP
    replace HP := bd_n HP
    obtain ⟨e33, Eh33, HP⟩ := HP
    refine gl_sIV 55 hM28 f28 (by decide) (by first | assumption | exact And.left (by assumption) | decide) (fun h33 hM33 f33 Kh33 => ?_)
    obtain rfl : menv t h33 = e33 := mtr Kh33 Eh33
    exact pl_X12_leaves_100  hM33 f33 HP

set_option maxRecDepth 20000 in
theorem pl_X12_leaves {t : Nat} {h0 : aH} {e' : mE} {x1 : Int32} {x2 : Int32} {x3 : Int32} {x4 : Int32} {h : aH} (hM : MS t h) (f : fr t h0 h) (HP : P_X12_leaves  x1 x2 x3 x4 (menv t h) = some e') : Glv t h0 (F_X12_leaves  t x1 x2 x3 x4 h) e' := by
  unfold P_X12_leaves at HP
  unfold F_X12_leaves
  refine gl_iteV (fun c1 => ?_) (fun c1 => ?_)
  · replace HP := ite_T c1 HP
    refine gl_oV (hM.2 46 (by decide)).1 ?_
    replace HP := bind_ck HP
    obtain ⟨c2, HP⟩ := HP
    refine gl_ckV ⟨(hM.2 46 (by decide)).2.1, in_of (hM.2 46 (by decide)).2.2 (by decide) c2⟩ ?_
    try rw [mrd 46 c2.1] at HP
    exact pl_X12_leaves_19  hM f HP
  · replace HP := ite_F c1 HP
    refine gl_oV (hM.2 45 (by decide)).1 ?_
    replace HP := bind_ck HP
    obtain ⟨c3, HP⟩ := HP
    refine gl_ckV ⟨(hM.2 45 (by decide)).2.1, in_of (hM.2 45 (by decide)).2.2 (by decide) c3⟩ ?_
    try rw [mrd 45 c3.1] at HP
    exact pl_X12_leaves_19  hM f HP

set_option maxRecDepth 20000 in
theorem pl_X12_ends_37 {t : Nat} {h0 : aH} {e' : mE} {x2 : Int32} {x3 : Int32} {h : aH} (hM : MS t h) (f : fr t h0 h) (HP : P_X12_ends_37  x2 x3 (menv t h) = some e') : Glv t h0 (F_X12_ends_37  t x2 x3 h) e' := by
  unfold P_X12_ends_37 at HP
  unfold F_X12_ends_37
  refine gl_ckV hM.1 ?_
  refine gl_oV (hM.2 36 (by decide)).1 ?_
  replace HP := bind_ck HP
  obtain ⟨c1, HP⟩ := HP
  refine gl_ckV ⟨(hM.2 36 (by decide)).2.1, in_of (hM.2 36 (by decide)).2.2 (by decide) c1⟩ ?_
  try rw [mrd 36 c1.1] at HP
  refine gl_iteV (fun c2 => ?_) (fun c2 => ?_)
  · replace HP := ite_T c2 HP
    refine gl_oV (hM.2 41 (by decide)).1 ?_
    replace HP := bind_ck HP
    obtain ⟨c3, HP⟩ := HP
    refine gl_ckV ⟨(hM.2 41 (by decide)).2.1, in_of (hM.2 41 (by decide)).2.2 (by decide) c3⟩ ?_
    try rw [mrd 41 c3.1] at HP
    replace HP := bd_n HP
    obtain ⟨e9, Eh9, HP⟩ := HP
    refine gl_sIV 41 hM f (by decide) (by first | assumption | exact And.left (by assumption) | decide) (fun h9 hM9 f9 Kh9 => ?_)
    obtain rfl : menv t h9 = e9 := mtr Kh9 Eh9
    exact gl_endv hM9 f9 HP
  · replace HP := ite_F c2 HP
    refine gl_iteV (fun c4 => ?_) (fun c4 => ?_)
    · replace HP := ite_T c4 HP
      refine gl_oV (hM.2 41 (by decide)).1 ?_
      replace HP := bind_ck HP
      obtain ⟨c5, HP⟩ := HP
      refine gl_ckV ⟨(hM.2 41 (by decide)).2.1, in_of (hM.2 41 (by decide)).2.2 (by decide) c5⟩ ?_
      try rw [mrd 41 c5.1] at HP
      replace HP := bd_n HP
      obtain ⟨e15, Eh15, HP⟩ := HP
      refine gl_sIV 41 hM f (by decide) (by first | assumption | exact And.left (by assumption) | decide) (fun h15 hM15 f15 Kh15 => ?_)
      obtain rfl : menv t h15 = e15 := mtr Kh15 Eh15
      exact gl_endv hM15 f15 HP
    · replace HP := ite_F c4 HP
      refine gl_oV (hM.2 37 (by decide)).1 ?_
      replace HP := bind_ck HP
      obtain ⟨c6, HP⟩ := HP
      refine gl_ckV ⟨(hM.2 37 (by decide)).2.1, in_of (hM.2 37 (by decide)).2.2 (by decide) c6⟩ ?_
      try rw [mrd 37 c6.1] at HP
      refine gl_oV (hM.2 40 (by decide)).1 ?_
      replace HP := bind_ck HP
      obtain ⟨c7, HP⟩ := HP
      refine gl_ckV ⟨(hM.2 40 (by decide)).2.1, in_of (hM.2 40 (by decide)).2.2 (by decide) c7⟩ ?_
      try rw [mrd 40 c7.1] at HP
      refine gl_iteV (fun c8 => ?_) (fun c8 => ?_)
      · replace HP := ite_T c8 HP
        refine gl_oV (hM.2 41 (by decide)).1 ?_
        replace HP := bind_ck HP
        obtain ⟨c9, HP⟩ := HP
        refine gl_ckV ⟨(hM.2 41 (by decide)).2.1, in_of (hM.2 41 (by decide)).2.2 (by decide) c9⟩ ?_
        try rw [mrd 41 c9.1] at HP
        replace HP := bd_n HP
        obtain ⟨e27, Eh27, HP⟩ := HP
        refine gl_sIV 41 hM f (by decide) (by first | assumption | exact And.left (by assumption) | decide) (fun h27 hM27 f27 Kh27 => ?_)
        obtain rfl : menv t h27 = e27 := mtr Kh27 Eh27
        exact gl_endv hM27 f27 HP
      · replace HP := ite_F c8 HP
        exact gl_endv hM f HP

set_option maxRecDepth 20000 in
theorem pl_X12_ends {t : Nat} {h0 : aH} {e' : mE} {x1 : Int32} {x2 : Int32} {x3 : Int32} {h : aH} (hM : MS t h) (f : fr t h0 h) (HP : P_X12_ends  x1 x2 x3 (menv t h) = some e') : Glv t h0 (F_X12_ends  t x1 x2 x3 h) e' := by
  unfold P_X12_ends at HP
  unfold F_X12_ends
  replace HP := bind_o HP
  obtain ⟨⟨z3, e2⟩, E1, HP⟩ := HP
  obtain ⟨h2, F2, rfl, hM2, gh2⟩ := pl_X12_lastTurn (t := t) hM (fr.refl _ _) E1
  have f2 := f.trans gh2
  refine gl_oV F2 (gl_bdV (gl_bdV ?_))
  replace HP := bd_o (bd_o HP)
  dsimp only at HP ⊢
  refine gl_iteV (fun c3 => ?_) (fun c3 => ?_)
  · replace HP := ite_T c3 HP
    refine gl_ckV hM2.1 ?_
    refine gl_oV (hM2.2 35 (by decide)).1 ?_
    replace HP := bind_ck HP
    obtain ⟨c4, HP⟩ := HP
    refine gl_ckV ⟨(hM2.2 35 (by decide)).2.1, in_of (hM2.2 35 (by decide)).2.2 (by decide) c4⟩ ?_
    try rw [mrd 35 c4.1] at HP
    refine gl_iteV (fun c5 => ?_) (fun c5 => ?_)
    · replace HP := ite_T c5 HP
      exact pl_X12_ends_37  hM2 f2 HP
    · replace HP := ite_F c5 HP
      refine gl_oV (hM2.2 41 (by decide)).1 ?_
      replace HP := bind_ck HP
      obtain ⟨c6, HP⟩ := HP
      refine gl_ckV ⟨(hM2.2 41 (by decide)).2.1, in_of (hM2.2 41 (by decide)).2.2 (by decide) c6⟩ ?_
      try rw [mrd 41 c6.1] at HP
      replace HP := bd_n HP
      obtain ⟨e14, Eh14, HP⟩ := HP
      refine gl_sIV 41 hM2 f2 (by decide) (by first | assumption | exact And.left (by assumption) | decide) (fun h14 hM14 f14 Kh14 => ?_)
      obtain rfl : menv t h14 = e14 := mtr Kh14 Eh14
      replace HP := bd_n HP
      obtain ⟨e16, Eh16, HP⟩ := HP
      refine gl_sFV 33 hM14 f14 (fun h16 hM16 f16 Kh16 => ?_)
      obtain rfl : menv t h16 = e16 := mtr Kh16 Eh16
      exact gl_endv hM16 f16 HP
  · replace HP := ite_F c3 HP
    exact pl_X12_ends_37  hM2 f2 HP

set_option maxRecDepth 20000 in
theorem pl_X12_playEntry_481 {t : Nat} {h0 : aH} {e' : mE} {x1 : Int32} {x2 : Int32} {x4 : Int32} {h : aH} (hM : MS t h) (f : fr t h0 h) (HP : P_X12_playEntry_481  x1 x2 x4 (menv t h) = some e') : Glv t h0 (F_X12_playEntry_481  t x1 x2 x4 h) e' := by
  unfold P_X12_playEntry_481 at HP
  unfold F_X12_playEntry_481
  refine gl_ckV hM.1 ?_
  replace HP := bind_o HP
  obtain ⟨e3, E1, HP⟩ := HP
  obtain ⟨h3, F2, rfl, hM3, gh3⟩ := pl_X12_ends (t := t) hM (fr.refl _ _) E1
  have f3 := f.trans gh3
  refine gl_oV F2 ?_
  exact gl_endv hM3 f3 HP

set_option maxRecDepth 20000 in
theorem pl_X12_playEntry_466 {t : Nat} {h0 : aH} {e' : mE} {x1 : Int32} {x2 : Int32} {x4 : Int32} {h : aH} (hM : MS t h) (f : fr t h0 h) (HP : P_X12_playEntry_466  x1 x2 x4 (menv t h) = some e') : Glv t h0 (F_X12_playEntry_466  t x1 x2 x4 h) e' := by
  unfold P_X12_playEntry_466 at HP
  unfold F_X12_playEntry_466
  refine gl_ckV hM.1 ?_
  replace HP := bind_o HP
  obtain ⟨⟨z4, e3⟩, E1, HP⟩ := HP
  obtain ⟨h3, F2, rfl, hM3, gh3⟩ := pl_X12_lastTurn (t := t) hM (fr.refl _ _) E1
  have f3 := f.trans gh3
  refine gl_oV F2 (gl_bdV (gl_bdV ?_))
  replace HP := bd_o (bd_o HP)
  dsimp only at HP ⊢
  refine gl_iteV (fun c3 => ?_) (fun c3 => ?_)
  · replace HP := ite_T c3 HP
    refine gl_ckV hM3.1 ?_
    replace HP := bind_o HP
    obtain ⟨e9, E4, HP⟩ := HP
    obtain ⟨h9, F5, rfl, hM9, gh9⟩ := pl_X12_aim (t := t) hM3 (fr.refl _ _) E4
    have f9 := f3.trans gh9
    refine gl_oV F5 ?_
    exact pl_X12_playEntry_481  hM9 f9 HP
  · replace HP := ite_F c3 HP
    exact pl_X12_playEntry_481  hM3 f3 HP

set_option maxRecDepth 20000 in
theorem pl_X12_playEntry_421 {t : Nat} {h0 : aH} {e' : mE} {x1 : Int32} {x2 : Int32} {x3 : Int32} {x4 : Int32} {h : aH} (hM : MS t h) (f : fr t h0 h) (HP : P_X12_playEntry_421  x1 x2 x3 x4 (menv t h) = some e') : Glv t h0 (F_X12_playEntry_421  t x1 x2 x3 x4 h) e' := by
  unfold P_X12_playEntry_421 at HP
  unfold F_X12_playEntry_421
  replace HP := bind_o HP
  obtain ⟨⟨z3, e2⟩, E1, HP⟩ := HP
  obtain ⟨h2, F2, rfl, hM2, gh2⟩ := pl_X12_counts (t := t) hM (fr.refl _ _) E1
  have f2 := f.trans gh2
  refine gl_oV F2 (gl_bdV (gl_bdV ?_))
  replace HP := bd_o (bd_o HP)
  dsimp only at HP ⊢
  refine gl_iteV (fun c3 => ?_) (fun c3 => ?_)
  · replace HP := ite_T c3 HP
    exact pl_X12_playEntry_466  hM2 f2 HP
  · replace HP := ite_F c3 HP
    refine gl_ckV hM2.1 ?_
    refine gl_oV (hM2.2 61 (by decide)).1 ?_
    replace HP := bind_ck HP
    obtain ⟨c4, HP⟩ := HP
    refine gl_ckV ⟨(hM2.2 61 (by decide)).2.1, in_of (hM2.2 61 (by decide)).2.2 (by decide) c4⟩ ?_
    try rw [mrd 61 c4.1] at HP
    replace HP := bd_n HP
    obtain ⟨e10, Eh10, HP⟩ := HP
    refine gl_sIV 61 hM2 f2 (by decide) (by first | assumption | exact And.left (by assumption) | decide) (fun h10 hM10 f10 Kh10 => ?_)
    obtain rfl : menv t h10 = e10 := mtr Kh10 Eh10
    refine gl_oV (hM10.2 38 (by decide)).1 ?_
    replace HP := bind_ck HP
    obtain ⟨c5, HP⟩ := HP
    refine gl_ckV ⟨(hM10.2 38 (by decide)).2.1, in_of (hM10.2 38 (by decide)).2.2 (by decide) c5⟩ ?_
    try rw [mrd 38 c5.1] at HP
    replace HP := bd_n HP
    obtain ⟨e15, Eh15, HP⟩ := HP
    refine gl_sIV 38 hM10 f10 (by decide) (by first | assumption | exact And.left (by assumption) | decide) (fun h15 hM15 f15 Kh15 => ?_)
    obtain rfl : menv t h15 = e15 := mtr Kh15 Eh15
    refine gl_oV (hM15.2 61 (by decide)).1 ?_
    replace HP := bind_ck HP
    obtain ⟨c6, HP⟩ := HP
    refine gl_ckV ⟨(hM15.2 61 (by decide)).2.1, in_of (hM15.2 61 (by decide)).2.2 (by decide) c6⟩ ?_
    try rw [mrd 61 c6.1] at HP
    refine gl_iteV (fun c7 => ?_) (fun c7 => ?_)
    · replace HP := ite_T c7 HP
      replace HP := bind_o HP
      obtain ⟨e22, E8, HP⟩ := HP
      obtain ⟨h22, F9, rfl, hM22, gh22⟩ := pl_X12_becomesWhole (t := t) hM15 (fr.refl _ _) E8
      have f22 := f15.trans gh22
      refine gl_oV F9 ?_
      exact pl_X12_playEntry_466  hM22 f22 HP
    · replace HP := ite_F c7 HP
      exact pl_X12_playEntry_466  hM15 f15 HP

set_option maxRecDepth 20000 in
theorem pl_X12_playEntry_38 {t : Nat} {h0 : aH} {e' : mE} {x1 : Int32} {x2 : Int32} {x3 : Int32} {x4 : Int32} {x5 : Int32} {h : aH} (hM : MS t h) (f : fr t h0 h) (HP : P_X12_playEntry_38  x1 x2 x3 x4 x5 (menv t h) = some e') : Glv t h0 (F_X12_playEntry_38  t x1 x2 x3 x4 x5 h) e' := by
  unfold P_X12_playEntry_38 at HP
  unfold F_X12_playEntry_38
  refine gl_iteV (fun c1 => ?_) (fun c1 => ?_)
  · replace HP := ite_T c1 HP
    refine gl_ckV hM.1 ?_
    replace HP := bind_o HP
    obtain ⟨e4, E2, HP⟩ := HP
    obtain ⟨h4, F3, rfl, hM4, gh4⟩ := pl_X12_hit (t := t) hM (fr.refl _ _) E2
    have f4 := f.trans gh4
    refine gl_oV F3 ?_
    refine gl_ckV hM4.1 ?_
    replace HP := bind_o HP
    obtain ⟨e8, E4, HP⟩ := HP
    obtain ⟨h8, F5, rfl, hM8, gh8⟩ := pl_X12_crosses (t := t) hM4 (fr.refl _ _) E4
    have f8 := f4.trans gh8
    refine gl_oV F5 ?_
    exact pl_X12_playEntry_421  hM8 f8 HP
  · replace HP := ite_F c1 HP
    refine gl_iteV (fun c6 => ?_) (fun c6 => ?_)
    · replace HP := ite_T c6 HP
      refine gl_ckV hM.1 ?_
      refine gl_oV (hM.2 57 (by decide)).1 ?_
      refine gl_oV (hM.2 51 (by decide)).1 ?_
      replace HP := bind_ck HP
      obtain ⟨c7, HP⟩ := HP
      refine gl_ckV ⟨(hM.2 51 (by decide)).2.1, in_of (hM.2 51 (by decide)).2.2 (by decide) c7⟩ ?_
      try rw [mrd 51 c7.1] at HP
      replace HP := bind_ck HP
      obtain ⟨c8, HP⟩ := HP
      refine gl_ckV ⟨(hM.2 57 (by decide)).2.1, in_of (hM.2 57 (by decide)).2.2 (by decide) c8⟩ ?_
      try rw [mrd 57 c8.1] at HP
      replace HP := bd_n HP
      obtain ⟨e18, Eh18, HP⟩ := HP
      refine gl_sIV 57 hM f (by decide) (by first | assumption | exact And.left (by assumption) | decide) (fun h18 hM18 f18 Kh18 => ?_)
      obtain rfl : menv t h18 = e18 := mtr Kh18 Eh18
      refine gl_oV (hM18.2 48 (by decide)).1 ?_
      replace HP := bind_ck HP
      obtain ⟨c9, HP⟩ := HP
      refine gl_ckV ⟨(hM18.2 48 (by decide)).2.1, in_of (hM18.2 48 (by decide)).2.2 (by decide) c9⟩ ?_
      try rw [mrd 48 c9.1] at HP
      replace HP := bd_n HP
      obtain ⟨e23, Eh23, HP⟩ := HP
      refine gl_sIV 48 hM18 f18 (by decide) (by first | assumption | exact And.left (by assumption) | decide) (fun h23 hM23 f23 Kh23 => ?_)
      obtain rfl : menv t h23 = e23 := mtr Kh23 Eh23
      refine gl_oV (hM23.2 39 (by decide)).1 ?_
      replace HP := bind_ck HP
      obtain ⟨c10, HP⟩ := HP
      refine gl_ckV ⟨(hM23.2 39 (by decide)).2.1, in_of (hM23.2 39 (by decide)).2.2 (by decide) c10⟩ ?_
      try rw [mrd 39 c10.1] at HP
      replace HP := bd_n HP
      obtain ⟨e28, Eh28, HP⟩ := HP
      refine gl_sIV 39 hM23 f23 (by decide) (by first | assumption | exact And.left (by assumption) | decide) (fun h28 hM28 f28 Kh28 => ?_)
      obtain rfl : menv t h28 = e28 := mtr Kh28 Eh28
      replace HP := bind_o HP
      obtain ⟨e31, E11, HP⟩ := HP
      obtain ⟨h31, F12, rfl, hM31, gh31⟩ := pl_X12_adds (t := t) hM28 (fr.refl _ _) E11
      have f31 := f28.trans gh31
      refine gl_oV F12 ?_
      refine gl_ckV hM31.1 ?_
      replace HP := bind_o HP
      obtain ⟨e35, E13, HP⟩ := HP
      obtain ⟨h35, F14, rfl, hM35, gh35⟩ := pl_X12_crosses (t := t) hM31 (fr.refl _ _) E13
      have f35 := f31.trans gh35
      refine gl_oV F14 ?_
      exact pl_X12_playEntry_421  hM35 f35 HP
    · replace HP := ite_F c6 HP
      refine gl_iteV (fun c15 => ?_) (fun c15 => ?_)
      · replace HP := ite_T c15 HP
        refine gl_ckV hM.1 ?_
        replace HP := bind_o HP
        obtain ⟨e40, E16, HP⟩ := HP
        obtain ⟨h40, F17, rfl, hM40, gh40⟩ := pl_X12_hit (t := t) hM (fr.refl _ _) E16
        have f40 := f.trans gh40
        refine gl_oV F17 ?_
        refine gl_ckV hM40.1 ?_
        refine gl_oV (hM40.2 57 (by decide)).1 ?_
        refine gl_oV (hM40.2 51 (by decide)).1 ?_
        replace HP := bind_ck HP
        obtain ⟨c18, HP⟩ := HP
        refine gl_ckV ⟨(hM40.2 51 (by decide)).2.1, in_of (hM40.2 51 (by decide)).2.2 (by decide) c18⟩ ?_
        try rw [mrd 51 c18.1] at HP
        replace HP := bind_ck HP
        obtain ⟨c19, HP⟩ := HP
        refine gl_ckV ⟨(hM40.2 57 (by decide)).2.1, in_of (hM40.2 57 (by decide)).2.2 (by decide) c19⟩ ?_
        try rw [mrd 57 c19.1] at HP
        replace HP := bd_n HP
        obtain ⟨e49, Eh49, HP⟩ := HP
        refine gl_sIV 57 hM40 f40 (by decide) (by first | assumption | exact And.left (by assumption) | decide) (fun h49 hM49 f49 Kh49 => ?_)
        obtain rfl : menv t h49 = e49 := mtr Kh49 Eh49
        refine gl_oV (hM49.2 39 (by decide)).1 ?_
        replace HP := bind_ck HP
        obtain ⟨c20, HP⟩ := HP
        refine gl_ckV ⟨(hM49.2 39 (by decide)).2.1, in_of (hM49.2 39 (by decide)).2.2 (by decide) c20⟩ ?_
        try rw [mrd 39 c20.1] at HP
        replace HP := bd_n HP
        obtain ⟨e54, Eh54, HP⟩ := HP
        refine gl_sIV 39 hM49 f49 (by decide) (by first | assumption | exact And.left (by assumption) | decide) (fun h54 hM54 f54 Kh54 => ?_)
        obtain rfl : menv t h54 = e54 := mtr Kh54 Eh54
        replace HP := bind_o HP
        obtain ⟨e57, E21, HP⟩ := HP
        obtain ⟨h57, F22, rfl, hM57, gh57⟩ := pl_X12_adds (t := t) hM54 (fr.refl _ _) E21
        have f57 := f54.trans gh57
        refine gl_oV F22 ?_
        refine gl_ckV hM57.1 ?_
        replace HP := bind_o HP
        obtain ⟨e61, E23, HP⟩ := HP
        obtain ⟨h61, F24, rfl, hM61, gh61⟩ := pl_X12_crosses (t := t) hM57 (fr.refl _ _) E23
        have f61 := f57.trans gh61
        refine gl_oV F24 ?_
        exact pl_X12_playEntry_421  hM61 f61 HP
      · replace HP := ite_F c15 HP
        refine gl_iteV (fun c25 => ?_) (fun c25 => ?_)
        · replace HP := ite_T c25 HP
          refine gl_ckV hM.1 ?_
          refine gl_oV (hM.2 58 (by decide)).1 ?_
          refine gl_oV (hM.2 51 (by decide)).1 ?_
          replace HP := bind_ck HP
          obtain ⟨c26, HP⟩ := HP
          refine gl_ckV ⟨(hM.2 51 (by decide)).2.1, in_of (hM.2 51 (by decide)).2.2 (by decide) c26⟩ ?_
          try rw [mrd 51 c26.1] at HP
          replace HP := bind_ck HP
          obtain ⟨c27, HP⟩ := HP
          refine gl_ckV ⟨(hM.2 58 (by decide)).2.1, in_of (hM.2 58 (by decide)).2.2 (by decide) c27⟩ ?_
          try rw [mrd 58 c27.1] at HP
          replace HP := bd_n HP
          obtain ⟨e71, Eh71, HP⟩ := HP
          refine gl_sIV 58 hM f (by decide) (by first | assumption | exact And.left (by assumption) | decide) (fun h71 hM71 f71 Kh71 => ?_)
          obtain rfl : menv t h71 = e71 := mtr Kh71 Eh71
          refine gl_oV (hM71.2 49 (by decide)).1 ?_
          replace HP := bind_ck HP
          obtain ⟨c28, HP⟩ := HP
          refine gl_ckV ⟨(hM71.2 49 (by decide)).2.1, in_of (hM71.2 49 (by decide)).2.2 (by decide) c28⟩ ?_
          try rw [mrd 49 c28.1] at HP
          replace HP := bd_n HP
          obtain ⟨e76, Eh76, HP⟩ := HP
          refine gl_sIV 49 hM71 f71 (by decide) (by first | assumption | exact And.left (by assumption) | decide) (fun h76 hM76 f76 Kh76 => ?_)
          obtain rfl : menv t h76 = e76 := mtr Kh76 Eh76
          replace HP := bind_o HP
          obtain ⟨e79, E29, HP⟩ := HP
          obtain ⟨h79, F30, rfl, hM79, gh79⟩ := pl_X12_leaves (t := t) hM76 (fr.refl _ _) E29
          have f79 := f76.trans gh79
          refine gl_oV F30 ?_
          exact pl_X12_playEntry_421  hM79 f79 HP
        · replace HP := ite_F c25 HP
          refine gl_iteV (fun c31 => ?_) (fun c31 => ?_)
          · replace HP := ite_T c31 HP
            refine gl_ckV hM.1 ?_
            replace HP := bind_o HP
            obtain ⟨e84, E32, HP⟩ := HP
            obtain ⟨h84, F33, rfl, hM84, gh84⟩ := pl_X12_hit (t := t) hM (fr.refl _ _) E32
            have f84 := f.trans gh84
            refine gl_oV F33 ?_
            refine gl_ckV hM84.1 ?_
            replace HP := bind_o HP
            obtain ⟨e88, E34, HP⟩ := HP
            obtain ⟨h88, F35, rfl, hM88, gh88⟩ := pl_X12_crosses (t := t) hM84 (fr.refl _ _) E34
            have f88 := f84.trans gh88
            refine gl_oV F35 ?_
            refine gl_ckV hM88.1 ?_
            refine gl_oV (hM88.2 50 (by decide)).1 ?_
            replace HP := bind_ck HP
            obtain ⟨c36, HP⟩ := HP
            refine gl_ckV ⟨(hM88.2 50 (by decide)).2.1, in_of (hM88.2 50 (by decide)).2.2 (by decide) c36⟩ ?_
            try rw [mrd 50 c36.1] at HP
            replace HP := bd_n HP
            obtain ⟨e94, Eh94, HP⟩ := HP
            refine gl_sIV 50 hM88 f88 (by decide) (by first | assumption | exact And.left (by assumption) | decide) (fun h94 hM94 f94 Kh94 => ?_)
            obtain rfl : menv t h94 = e94 := mtr Kh94 Eh94
            refine gl_iteV (fun c37 => ?_) (fun c37 => ?_)
            · replace HP := ite_T c37 HP
              replace HP := bind_o HP
              obtain ⟨e98, E38, HP⟩ := HP
              obtain ⟨h98, F39, rfl, hM98, gh98⟩ := pl_X12_leaves (t := t) hM94 (fr.refl _ _) E38
              have f98 := f94.trans gh98
              refine gl_oV F39 ?_
              exact pl_X12_playEntry_421  hM98 f98 HP
            · replace HP := ite_F c37 HP
              replace HP := bind_o HP
              obtain ⟨e101, E40, HP⟩ := HP
              obtain ⟨h101, F41, rfl, hM101, gh101⟩ := pl_X12_leaves (t := t) hM94 (fr.refl _ _) E40
              have f101 := f94.trans gh101
              refine gl_oV F41 ?_
              exact pl_X12_playEntry_421  hM101 f101 HP
          · replace HP := ite_F c31 HP
            refine gl_iteV (fun c42 => ?_) (fun c42 => ?_)
            · replace HP := ite_T c42 HP
              refine gl_ckV hM.1 ?_
              refine gl_oV (hM.2 48 (by decide)).1 ?_
              replace HP := bind_ck HP
              obtain ⟨c43, HP⟩ := HP
              refine gl_ckV ⟨(hM.2 48 (by decide)).2.1, in_of (hM.2 48 (by decide)).2.2 (by decide) c43⟩ ?_
              try rw [mrd 48 c43.1] at HP
              replace HP := bd_n HP
              obtain ⟨e108, Eh108, HP⟩ := HP
              refine gl_sIV 48 hM f (by decide) (by first | assumption | exact And.left (by assumption) | decide) (fun h108 hM108 f108 Kh108 => ?_)
              obtain rfl : menv t h108 = e108 := mtr Kh108 Eh108
              refine gl_oV (hM108.2 39 (by decide)).1 ?_
              replace HP := bind_ck HP
              obtain ⟨c44, HP⟩ := HP
              refine gl_ckV ⟨(hM108.2 39 (by decide)).2.1, in_of (hM108.2 39 (by decide)).2.2 (by decide) c44⟩ ?_
              try rw [mrd 39 c44.1] at HP
              replace HP := bd_n HP
              obtain ⟨e113, Eh113, HP⟩ := HP
              refine gl_sIV 39 hM108 f108 (by decide) (by first | assumption | exact And.left (by assumption) | decide) (fun h113 hM113 f113 Kh113 => ?_)
              obtain rfl : menv t h113 = e113 := mtr Kh113 Eh113
              replace HP := bind_o HP
              obtain ⟨e116, E45, HP⟩ := HP
              obtain ⟨h116, F46, rfl, hM116, gh116⟩ := pl_X12_adds (t := t) hM113 (fr.refl _ _) E45
              have f116 := f113.trans gh116
              refine gl_oV F46 ?_
              refine gl_ckV hM116.1 ?_
              replace HP := bind_o HP
              obtain ⟨e120, E47, HP⟩ := HP
              obtain ⟨h120, F48, rfl, hM120, gh120⟩ := pl_X12_crosses (t := t) hM116 (fr.refl _ _) E47
              have f120 := f116.trans gh120
              refine gl_oV F48 ?_
              exact pl_X12_playEntry_421  hM120 f120 HP
            · replace HP := ite_F c42 HP
              refine gl_iteV (fun c49 => ?_) (fun c49 => ?_)
              · replace HP := ite_T c49 HP
                refine gl_ckV hM.1 ?_
                replace HP := bind_o HP
                obtain ⟨⟨z126, e125⟩, E50, HP⟩ := HP
                obtain ⟨h125, F51, rfl, hM125, gh125⟩ := pl_X12_left (t := t) hM (fr.refl _ _) E50
                have f125 := f.trans gh125
                refine gl_oV F51 (gl_bdV (gl_bdV ?_))
                replace HP := bd_o (bd_o HP)
                dsimp only at HP ⊢
                refine gl_ckV hM125.1 ?_
                refine gl_oV (hM125.2 36 (by decide)).1 ?_
                replace HP := bind_ck HP
                obtain ⟨c52, HP⟩ := HP
                refine gl_ckV ⟨(hM125.2 36 (by decide)).2.1, in_of (hM125.2 36 (by decide)).2.2 (by decide) c52⟩ ?_
                try rw [mrd 36 c52.1] at HP
                replace HP := bind_o HP
                obtain ⟨⟨z134, e133⟩, E53, HP⟩ := HP
                obtain ⟨h133, F54, rfl, hM133, gh133⟩ := pl_X12_table (t := t) hM125 (fr.refl _ _) E53
                have f133 := f125.trans gh133
                refine gl_oV F54 (gl_bdV (gl_bdV ?_))
                replace HP := bd_o (bd_o HP)
                dsimp only at HP ⊢
                refine gl_ckV hM133.1 ?_
                refine gl_oV (hM133.2 40 (by decide)).1 ?_
                replace HP := bind_ck HP
                obtain ⟨c55, HP⟩ := HP
                refine gl_ckV ⟨(hM133.2 40 (by decide)).2.1, in_of (hM133.2 40 (by decide)).2.2 (by decide) c55⟩ ?_
                try rw [mrd 40 c55.1] at HP
                replace HP := bd_n HP
                obtain ⟨e140, Eh140, HP⟩ := HP
                refine gl_sIV 40 hM133 f133 (by decide) (by first | assumption | exact And.left (by assumption) | decide) (fun h140 hM140 f140 Kh140 => ?_)
                obtain rfl : menv t h140 = e140 := mtr Kh140 Eh140
                refine gl_oV (hM140.2 43 (by decide)).1 ?_
                replace HP := bind_ck HP
                obtain ⟨c56, HP⟩ := HP
                refine gl_ckV ⟨(hM140.2 43 (by decide)).2.1, in_of (hM140.2 43 (by decide)).2.2 (by decide) c56⟩ ?_
                try rw [mrd 43 c56.1] at HP
                replace HP := bind_o HP
                obtain ⟨⟨z147, e146⟩, E57, HP⟩ := HP
                obtain ⟨h146, F58, rfl, hM146, gh146⟩ := pl_X12_left (t := t) hM140 (fr.refl _ _) E57
                have f146 := f140.trans gh146
                refine gl_oV F58 (gl_bdV (gl_bdV ?_))
                replace HP := bd_o (bd_o HP)
                dsimp only at HP ⊢
                refine gl_ckV hM146.1 ?_
                refine gl_oV (hM146.2 36 (by decide)).1 ?_
                replace HP := bind_ck HP
                obtain ⟨c59, HP⟩ := HP
                refine gl_ckV ⟨(hM146.2 36 (by decide)).2.1, in_of (hM146.2 36 (by decide)).2.2 (by decide) c59⟩ ?_
                try rw [mrd 36 c59.1] at HP
                replace HP := bind_o HP
                obtain ⟨⟨z155, e154⟩, E60, HP⟩ := HP
                obtain ⟨h154, F61, rfl, hM154, gh154⟩ := pl_X12_table (t := t) hM146 (fr.refl _ _) E60
                have f154 := f146.trans gh154
                refine gl_oV F61 (gl_bdV (gl_bdV ?_))
                replace HP := bd_o (bd_o HP)
                dsimp only at HP ⊢
                replace HP := bind_ck HP
                obtain ⟨c62, HP⟩ := HP
                refine gl_ckV ⟨(hM154.2 43 (by decide)).2.1, in_of (hM154.2 43 (by decide)).2.2 (by decide) c62⟩ ?_
                try rw [mrd 43 c62.1] at HP
                replace HP := bd_n HP
                obtain ⟨e158, Eh158, HP⟩ := HP
                refine gl_sIV 43 hM154 f154 (by decide) (by first | assumption | exact And.left (by assumption) | decide) (fun h158 hM158 f158 Kh158 => ?_)
                obtain rfl : menv t h158 = e158 := mtr Kh158 Eh158
                exact pl_X12_playEntry_421  hM158 f158 HP
              · replace HP := ite_F c49 HP
                exact pl_X12_playEntry_421  hM f HP

set_option maxRecDepth 20000 in
theorem pl_X12_playEntry_27 {t : Nat} {h0 : aH} {e' : mE} {x1 : Int32} {x2 : Int32} {x3 : Int32} {x4 : Int32} {x5 : Int32} {x6 : Int32} {h : aH} (hM : MS t h) (f : fr t h0 h) (HP : P_X12_playEntry_27  x1 x2 x3 x4 x5 x6 (menv t h) = some e') : Glv t h0 (F_X12_playEntry_27  t x1 x2 x3 x4 x5 x6 h) e' := by
  unfold P_X12_playEntry_27 at HP
  unfold F_X12_playEntry_27
  refine gl_ckV hM.1 ?_
  refine gl_oV (hM.2 54 (by decide)).1 ?_
  replace HP := bind_ck HP
  obtain ⟨c1, HP⟩ := HP
  refine gl_ckV ⟨(hM.2 54 (by decide)).2.1, in_of (hM.2 54 (by decide)).2.2 (by decide) c1⟩ ?_
  try rw [mrd 54 c1.1] at HP
  replace HP := bd_n HP
  obtain ⟨e5, Eh5, HP⟩ := HP
  refine gl_sIV 54 hM f (by decide) (by first | assumption | exact And.left (by assumption) | decide) (fun h5 hM5 f5 Kh5 => ?_)
  obtain rfl : menv t h5 = e5 := mtr Kh5 Eh5
  exact pl_X12_playEntry_38  hM5 f5 HP

set_option maxRecDepth 20000 in
theorem pl_X12_playEntry {t : Nat} {h0 : aH} {e' : mE} {x1 : Int32} {x2 : Int32} {x3 : Int32} {x4 : Int32} {x5 : Int32} {h : aH} (hM : MS t h) (f : fr t h0 h) (HP : P_X12_playEntry  x1 x2 x3 x4 x5 (menv t h) = some e') : Glv t h0 (F_X12_playEntry  t x1 x2 x3 x4 x5 h) e' := by
  unfold P_X12_playEntry at HP
  unfold F_X12_playEntry
  refine gl_oV (hM.2 45 (by decide)).1 ?_
  replace HP := bind_ck HP
  obtain ⟨c1, HP⟩ := HP
  refine gl_ckV ⟨(hM.2 45 (by decide)).2.1, in_of (hM.2 45 (by decide)).2.2 (by decide) c1⟩ ?_
  try rw [mrd 45 c1.1] at HP
  replace HP := bd_n HP
  obtain ⟨v4, Ev4, HP⟩ := HP
  refine gl_bdvV Ev4 ?_
  replace HP := bind_o HP
  obtain ⟨⟨z7, e6⟩, E2, HP⟩ := HP
  obtain ⟨h6, F3, rfl, hM6, gh6⟩ := pl_X12_counts (t := t) hM (fr.refl _ _) E2
  have f6 := f.trans gh6
  refine gl_oV F3 (gl_bdV (gl_bdV ?_))
  replace HP := bd_o (bd_o HP)
  dsimp only at HP ⊢
  refine gl_iteV (fun c4 => ?_) (fun c4 => ?_)
  · replace HP := ite_T c4 HP
    refine gl_iteV (fun c5 => ?_) (fun c5 => ?_)
    · replace HP := ite_T c5 HP
      exact pl_X12_playEntry_27  hM6 f6 HP
    · replace HP := ite_F c5 HP
      exact pl_X12_playEntry_38  hM6 f6 HP
  · replace HP := ite_F c4 HP
    exact pl_X12_playEntry_27  hM6 f6 HP

set_option maxRecDepth 20000 in
theorem pl_X12_playOver_374 {t : Nat} {h0 : aH} {e' : mE} {qk284 : Int32 → Int32 → Int32 → Int32 → Int32 → mE → Option (mE)} {k284 : Nat → Int32 → Int32 → Int32 → Int32 → Int32 → aH → Option (aH)} (hk284 : ∀ {u1 : Int32} {u2 : Int32} {u3 : Int32} {u4 : Int32} {u5 : Int32} {h : aH}, MS t h → fr t h0 h → qk284 u1 u2 u3 u4 u5 (menv t h) = some e' → Glv t h0 (k284 t u1 u2 u3 u4 u5 h) e') {x1 : Int32} {x2 : Int32} {x3 : Int32} {x4 : Int32} {x7 : Int32} {h : aH} (hM : MS t h) (f : fr t h0 h) (HP : P_X12_playOver_374 qk284 x1 x2 x3 x4 x7 (menv t h) = some e') : Glv t h0 (F_X12_playOver_374 k284 t x1 x2 x3 x4 x7 h) e' := by
  unfold P_X12_playOver_374 at HP
  unfold F_X12_playOver_374
  replace HP := bd_n HP
  obtain ⟨v1, Ev1, HP⟩ := HP
  refine gl_bdvV Ev1 ?_
  exact hk284 hM f HP

set_option maxRecDepth 20000 in
theorem pl_X12_playOver_284 {t : Nat} {h0 : aH} {e' : mE} : ∀ {n : Nat} {x1 : Int32} {x2 : Int32} {x3 : Int32} {x4 : Int32} {x7 : Int32} {h : aH}, MS t h → fr t h0 h → P_X12_playOver_284  n x1 x2 x3 x4 x7 (menv t h) = some e' → Glv t h0 (F_X12_playOver_284  n t x1 x2 x3 x4 x7 h) e' := by
  intro n
  induction n with
  | zero => intro x1 x2 x3 x4 x7 h hM f HP; cases HP
  | succ n ih =>
  intro x1 x2 x3 x4 x7 h hM f HP
  unfold P_X12_playOver_284 at HP
  unfold F_X12_playOver_284
  refine gl_ckV hM.1 ?_
  refine gl_oV (hM.2 13 (by decide)).1 ?_
  replace HP := bind_ck HP
  obtain ⟨c1, HP⟩ := HP
  refine gl_ckV ⟨(hM.2 13 (by decide)).2.1, in_of (hM.2 13 (by decide)).2.2 (by decide) c1⟩ ?_
  try rw [mrd 13 c1.1] at HP
  refine gl_iteV (fun c2 => ?_) (fun c2 => ?_)
  · replace HP := ite_T c2 HP
    exact gl_endv hM f HP
  · replace HP := ite_F c2 HP
    refine gl_iteV (fun c3 => ?_) (fun c3 => ?_)
    · replace HP := ite_T c3 HP
      refine gl_oV (hM.2 14 (by decide)).1 ?_
      replace HP := bind_ck HP
      obtain ⟨c4, HP⟩ := HP
      refine gl_ckV ⟨(hM.2 14 (by decide)).2.1, in_of (hM.2 14 (by decide)).2.2 (by decide) c4⟩ ?_
      try rw [mrd 14 c4.1] at HP
      replace HP := bd_n HP
      obtain ⟨v10, Ev10, HP⟩ := HP
      refine gl_bdvV Ev10 ?_
      replace HP := bind_o HP
      obtain ⟨⟨z13, e12⟩, E5, HP⟩ := HP
      obtain ⟨h12, F6, rfl, hM12, gh12⟩ := pl_X12_against (t := t) hM (fr.refl _ _) E5
      have f12 := f.trans gh12
      refine gl_oV F6 (gl_bdV (gl_bdV ?_))
      replace HP := bd_o (bd_o HP)
      dsimp only at HP ⊢
      refine gl_iteV (fun c7 => ?_) (fun c7 => ?_)
      · replace HP := ite_T c7 HP
        refine gl_ckV hM12.1 ?_
        replace HP := bind_o HP
        obtain ⟨e18, E8, HP⟩ := HP
        obtain ⟨h18, F9, rfl, hM18, gh18⟩ := pl_X12_playEntry (t := t) hM12 (fr.refl _ _) E8
        have f18 := f12.trans gh18
        refine gl_oV F9 ?_
        exact pl_X12_playOver_374 (fun hm ff hp => ih hm ff hp) hM18 f18 HP
      · replace HP := ite_F c7 HP
        refine gl_ckV hM12.1 ?_
        replace HP := bind_o HP
        obtain ⟨e22, E10, HP⟩ := HP
        obtain ⟨h22, F11, rfl, hM22, gh22⟩ := pl_X12_stop (t := t) hM12 (fr.refl _ _) E10
        have f22 := f12.trans gh22
        refine gl_oV F11 ?_
        exact pl_X12_playOver_374 (fun hm ff hp => ih hm ff hp) hM22 f22 HP
    · replace HP := ite_F c3 HP
      exact gl_endv hM f HP

set_option maxRecDepth 20000 in
theorem pl_X12_playOver_180 {t : Nat} {h0 : aH} {e' : mE} {x1 : Int32} {x2 : Int32} {x3 : Int32} {x4 : Int32} {x5 : Int32} {h : aH} (hM : MS t h) (f : fr t h0 h) (HP : P_X12_playOver_180  x1 x2 x3 x4 x5 (menv t h) = some e') : Glv t h0 (F_X12_playOver_180  t x1 x2 x3 x4 x5 h) e' := by
  unfold P_X12_playOver_180 at HP
  unfold F_X12_playOver_180
  refine gl_ckV hM.1 ?_
  refine gl_oV (hM.2 44 (by decide)).1 ?_
  replace HP := bind_ck HP
  obtain ⟨c1, HP⟩ := HP
  refine gl_ckV ⟨(hM.2 44 (by decide)).2.1, in_of (hM.2 44 (by decide)).2.2 (by decide) c1⟩ ?_
  try rw [mrd 44 c1.1] at HP
  replace HP := bd_n HP
  obtain ⟨e5, Eh5, HP⟩ := HP
  refine gl_sIV 44 hM f (by decide) (by first | assumption | exact And.left (by assumption) | decide) (fun h5 hM5 f5 Kh5 => ?_)
  obtain rfl : menv t h5 = e5 := mtr Kh5 Eh5
  refine gl_oV (hM5.2 51 (by decide)).1 ?_
  replace HP := bind_ck HP
  obtain ⟨c2, HP⟩ := HP
  refine gl_ckV ⟨(hM5.2 51 (by decide)).2.1, in_of (hM5.2 51 (by decide)).2.2 (by decide) c2⟩ ?_
  try rw [mrd 51 c2.1] at HP
  replace HP := bd_n HP
  obtain ⟨e10, Eh10, HP⟩ := HP
  refine gl_sIV 51 hM5 f5 (by decide) (by first | assumption | exact And.left (by assumption) | decide) (fun h10 hM10 f10 Kh10 => ?_)
  obtain rfl : menv t h10 = e10 := mtr Kh10 Eh10
  refine gl_oV (hM10.2 56 (by decide)).1 ?_
  replace HP := bind_ck HP
  obtain ⟨c3, HP⟩ := HP
  refine gl_ckV ⟨(hM10.2 56 (by decide)).2.1, in_of (hM10.2 56 (by decide)).2.2 (by decide) c3⟩ ?_
  try rw [mrd 56 c3.1] at HP
  replace HP := bd_n HP
  obtain ⟨e15, Eh15, HP⟩ := HP
  refine gl_sIV 56 hM10 f10 (by decide) (by first | assumption | exact And.left (by assumption) | decide) (fun h15 hM15 f15 Kh15 => ?_)
  obtain rfl : menv t h15 = e15 := mtr Kh15 Eh15
  refine gl_oV (hM15.2 64 (by decide)).1 ?_
  replace HP := bind_ck HP
  obtain ⟨c4, HP⟩ := HP
  refine gl_ckV ⟨(hM15.2 64 (by decide)).2.1, in_of (hM15.2 64 (by decide)).2.2 (by decide) c4⟩ ?_
  try rw [mrd 64 c4.1] at HP
  replace HP := bd_n HP
  obtain ⟨e20, Eh20, HP⟩ := HP
  refine gl_sIV 64 hM15 f15 (by decide) (by first | assumption | exact And.left (by assumption) | decide) (fun h20 hM20 f20 Kh20 => ?_)
  obtain rfl : menv t h20 = e20 := mtr Kh20 Eh20
  refine gl_oV (hM20.2 13 (by decide)).1 ?_
  replace HP := bind_ck HP
  obtain ⟨c5, HP⟩ := HP
  refine gl_ckV ⟨(hM20.2 13 (by decide)).2.1, in_of (hM20.2 13 (by decide)).2.2 (by decide) c5⟩ ?_
  try rw [mrd 13 c5.1] at HP
  refine gl_iteV (fun c6 => ?_) (fun c6 => ?_)
  · replace HP := ite_T c6 HP
    refine gl_oV (hM20.2 63 (by decide)).1 ?_
    replace HP := bind_ck HP
    obtain ⟨c7, HP⟩ := HP
    refine gl_ckV ⟨(hM20.2 63 (by decide)).2.1, in_of (hM20.2 63 (by decide)).2.2 (by decide) c7⟩ ?_
    try rw [mrd 63 c7.1] at HP
    replace HP := bd_n HP
    obtain ⟨e29, Eh29, HP⟩ := HP
    refine gl_sIV 63 hM20 f20 (by decide) (by first | assumption | exact And.left (by assumption) | decide) (fun h29 hM29 f29 Kh29 => ?_)
    obtain rfl : menv t h29 = e29 := mtr Kh29 Eh29
    refine gl_oV (hM29.2 42 (by decide)).1 ?_
    replace HP := bind_ck HP
    obtain ⟨c8, HP⟩ := HP
    refine gl_ckV ⟨(hM29.2 42 (by decide)).2.1, in_of (hM29.2 42 (by decide)).2.2 (by decide) c8⟩ ?_
    try rw [mrd 42 c8.1] at HP
    replace HP := bd_n HP
    obtain ⟨e34, Eh34, HP⟩ := HP
    refine gl_sIV 42 hM29 f29 (by decide) (by first | assumption | exact And.left (by assumption) | decide) (fun h34 hM34 f34 Kh34 => ?_)
    obtain rfl : menv t h34 = e34 := mtr Kh34 Eh34
    replace HP := bind_o HP
    obtain ⟨e37, E9, HP⟩ := HP
    obtain ⟨h37, F10, rfl, hM37, gh37⟩ := pl_X12_becomesWhole (t := t) hM34 (fr.refl _ _) E9
    have f37 := f34.trans gh37
    refine gl_oV F10 ?_
    refine gl_ckV hM37.1 ?_
    refine gl_oV (hM37.2 37 (by decide)).1 ?_
    replace HP := bind_ck HP
    obtain ⟨c11, HP⟩ := HP
    refine gl_ckV ⟨(hM37.2 37 (by decide)).2.1, in_of (hM37.2 37 (by decide)).2.2 (by decide) c11⟩ ?_
    try rw [mrd 37 c11.1] at HP
    refine gl_oV (hM37.2 40 (by decide)).1 ?_
    replace HP := bind_ck HP
    obtain ⟨c12, HP⟩ := HP
    refine gl_ckV ⟨(hM37.2 40 (by decide)).2.1, in_of (hM37.2 40 (by decide)).2.2 (by decide) c12⟩ ?_
    try rw [mrd 40 c12.1] at HP
    refine gl_iteV (fun c13 => ?_) (fun c13 => ?_)
    · replace HP := ite_T c13 HP
      refine gl_oV (hM37.2 41 (by decide)).1 ?_
      replace HP := bind_ck HP
      obtain ⟨c14, HP⟩ := HP
      refine gl_ckV ⟨(hM37.2 41 (by decide)).2.1, in_of (hM37.2 41 (by decide)).2.2 (by decide) c14⟩ ?_
      try rw [mrd 41 c14.1] at HP
      replace HP := bd_n HP
      obtain ⟨e50, Eh50, HP⟩ := HP
      refine gl_sIV 41 hM37 f37 (by decide) (by first | assumption | exact And.left (by assumption) | decide) (fun h50 hM50 f50 Kh50 => ?_)
      obtain rfl : menv t h50 = e50 := mtr Kh50 Eh50
      exact gl_endv hM50 f50 HP
    · replace HP := ite_F c13 HP
      exact gl_endv hM37 f37 HP
  · replace HP := ite_F c6 HP
    exact pl_X12_playOver_284  hM20 f20 HP

set_option maxRecDepth 20000 in
theorem pl_X12_playOver_103 {t : Nat} {h0 : aH} {e' : mE} {x1 : Int32} {x2 : Int32} {x3 : Int32} {x4 : Int32} {x5 : Int32} {y0 : Int32} {h : aH} (hM : MS t h) (f : fr t h0 h) (HP : P_X12_playOver_103  x1 x2 x3 x4 x5 y0 (menv t h) = some e') : Glv t h0 (F_X12_playOver_103  t x1 x2 x3 x4 x5 y0 h) e' := by
  unfold P_X12_playOver_103 at HP
  unfold F_X12_playOver_103
  refine gl_iteV (fun c1 => ?_) (fun c1 => ?_)
  · replace HP := ite_T c1 HP
    refine gl_iteV (fun c2 => ?_) (fun c2 => ?_)
    · replace HP := ite_T c2 HP
      exact pl_X12_playOver_180  hM f HP
    · replace HP := ite_F c2 HP
      refine gl_ckV hM.1 ?_
      refine gl_oV (hM.2 62 (by decide)).1 ?_
      replace HP := bind_o HP
      obtain ⟨⟨z8, e7⟩, E3, HP⟩ := HP
      obtain ⟨h7, F4, rfl, hM7, gh7⟩ := pl_X12_rowOf (t := t) hM (fr.refl _ _) E3
      have f7 := f.trans gh7
      refine gl_oV F4 (gl_bdV (gl_bdV ?_))
      replace HP := bd_o (bd_o HP)
      dsimp only at HP ⊢
      replace HP := bind_ck HP
      obtain ⟨c5, HP⟩ := HP
      refine gl_ckV ⟨(hM7.2 62 (by decide)).2.1, in_of (hM7.2 62 (by decide)).2.2 (by decide) c5⟩ ?_
      try rw [mrd 62 c5.1] at HP
      refine gl_iteV (fun c6 => ?_) (fun c6 => ?_)
      · replace HP := ite_T c6 HP
        refine gl_ckV hM7.1 ?_
        refine gl_oV (hM7.2 63 (by decide)).1 ?_
        replace HP := bind_o HP
        obtain ⟨⟨z17, e16⟩, E7, HP⟩ := HP
        obtain ⟨h16, F8, rfl, hM16, gh16⟩ := pl_X12_rowOf (t := t) hM7 (fr.refl _ _) E7
        have f16 := f7.trans gh16
        refine gl_oV F8 (gl_bdV (gl_bdV ?_))
        replace HP := bd_o (bd_o HP)
        dsimp only at HP ⊢
        replace HP := bind_ck HP
        obtain ⟨c9, HP⟩ := HP
        refine gl_ckV ⟨(hM16.2 63 (by decide)).2.1, in_of (hM16.2 63 (by decide)).2.2 (by decide) c9⟩ ?_
        try rw [mrd 63 c9.1] at HP
        replace HP := bd_n HP
        obtain ⟨e20, Eh20, HP⟩ := HP
        refine gl_sIV 63 hM16 f16 (by decide) (by first | assumption | exact And.left (by assumption) | decide) (fun h20 hM20 f20 Kh20 => ?_)
        obtain rfl : menv t h20 = e20 := mtr Kh20 Eh20
        refine gl_ckV hM20.1 ?_
        refine gl_oV (hM20.2 42 (by decide)).1 ?_
        replace HP := bind_ck HP
        obtain ⟨c10, HP⟩ := HP
        refine gl_ckV ⟨(hM20.2 42 (by decide)).2.1, in_of (hM20.2 42 (by decide)).2.2 (by decide) c10⟩ ?_
        try rw [mrd 42 c10.1] at HP
        replace HP := bd_n HP
        obtain ⟨e25, Eh25, HP⟩ := HP
        refine gl_sIV 42 hM20 f20 (by decide) (by first | assumption | exact And.left (by assumption) | decide) (fun h25 hM25 f25 Kh25 => ?_)
        obtain rfl : menv t h25 = e25 := mtr Kh25 Eh25
        replace HP := bind_o HP
        obtain ⟨⟨z29, e28⟩, E11, HP⟩ := HP
        obtain ⟨h28, F12, rfl, hM28, gh28⟩ := pl_X12_rowOf (t := t) hM25 (fr.refl _ _) E11
        have f28 := f25.trans gh28
        refine gl_oV F12 (gl_bdV (gl_bdV ?_))
        replace HP := bd_o (bd_o HP)
        dsimp only at HP ⊢
        refine gl_ckV hM28.1 ?_
        replace HP := bind_o HP
        obtain ⟨e33, E13, HP⟩ := HP
        obtain ⟨h33, F14, rfl, hM33, gh33⟩ := pl_X12_becomesWhole (t := t) hM28 (fr.refl _ _) E13
        have f33 := f28.trans gh33
        refine gl_oV F14 ?_
        exact pl_X12_playOver_180  hM33 f33 HP
      · replace HP := ite_F c6 HP
        exact pl_X12_playOver_180  hM7 f7 HP
  · replace HP := ite_F c1 HP
    refine gl_ckV hM.1 ?_
    replace HP := bind_o HP
    obtain ⟨e37, E15, HP⟩ := HP
    obtain ⟨h37, F16, rfl, hM37, gh37⟩ := pl_X12_stop (t := t) hM (fr.refl _ _) E15
    have f37 := f.trans gh37
    refine gl_oV F16 ?_
    exact gl_endv hM37 f37 HP

set_option maxRecDepth 20000 in
theorem pl_X12_playOver_42 {t : Nat} {h0 : aH} {e' : mE} {x1 : Int32} {x2 : Int32} {x3 : Int32} {x4 : Int32} {x5 : Int32} {h : aH} (hM : MS t h) (f : fr t h0 h) (HP : P_X12_playOver_42  x1 x2 x3 x4 x5 (menv t h) = some e') : Glv t h0 (F_X12_playOver_42  t x1 x2 x3 x4 x5 h) e' := by
  unfold P_X12_playOver_42 at HP
  unfold F_X12_playOver_42
  exact pl_X12_playOver_103  hM f HP

set_option maxRecDepth 20000 in
theorem pl_X12_playOver {t : Nat} {h0 : aH} {e' : mE} {x1 : Int32} {x2 : Int32} {x3 : Int32} {h : aH} (hM : MS t h) (f : fr t h0 h) (HP : P_X12_playOver  x1 x2 x3 (menv t h) = some e') : Glv t h0 (F_X12_playOver  t x1 x2 x3 h) e' := by
  unfold P_X12_playOver at HP
  unfold F_X12_playOver
  replace HP := bind_o HP
  obtain ⟨⟨z3, e2⟩, E1, HP⟩ := HP
  obtain ⟨h2, F2, rfl, hM2, gh2⟩ := pl_X12_rowOf (t := t) hM (fr.refl _ _) E1
  have f2 := f.trans gh2
  refine gl_oV F2 (gl_bdV (gl_bdV ?_))
  replace HP := bd_o (bd_o HP)
  dsimp only at HP ⊢
  refine gl_ckV hM2.1 ?_
  refine gl_oV (hM2.2 12 (by decide)).1 ?_
  replace HP := bind_ck HP
  obtain ⟨c3, HP⟩ := HP
  refine gl_ckV ⟨(hM2.2 12 (by decide)).2.1, in_of (hM2.2 12 (by decide)).2.2 (by decide) c3⟩ ?_
  try rw [mrd 12 c3.1] at HP
  replace HP := bd_n HP
  obtain ⟨v9, Ev9, HP⟩ := HP
  refine gl_bdvV Ev9 ?_
  refine gl_oV (hM2.2 41 (by decide)).1 ?_
  replace HP := bind_ck HP
  obtain ⟨c4, HP⟩ := HP
  refine gl_ckV ⟨(hM2.2 41 (by decide)).2.1, in_of (hM2.2 41 (by decide)).2.2 (by decide) c4⟩ ?_
  try rw [mrd 41 c4.1] at HP
  refine gl_iteV (fun c5 => ?_) (fun c5 => ?_)
  · replace HP := ite_T c5 HP
    refine gl_oV (hM2.2 44 (by decide)).1 ?_
    replace HP := bind_ck HP
    obtain ⟨c6, HP⟩ := HP
    refine gl_ckV ⟨(hM2.2 44 (by decide)).2.1, in_of (hM2.2 44 (by decide)).2.2 (by decide) c6⟩ ?_
    try rw [mrd 44 c6.1] at HP
    refine gl_oV (hM2.2 40 (by decide)).1 ?_
    replace HP := bind_ck HP
    obtain ⟨c7, HP⟩ := HP
    refine gl_ckV ⟨(hM2.2 40 (by decide)).2.1, in_of (hM2.2 40 (by decide)).2.2 (by decide) c7⟩ ?_
    try rw [mrd 40 c7.1] at HP
    refine gl_iteV (fun c8 => ?_) (fun c8 => ?_)
    · replace HP := ite_T c8 HP
      exact pl_X12_playOver_42  hM2 f2 HP
    · replace HP := ite_F c8 HP
      refine gl_iteV (fun c9 => ?_) (fun c9 => ?_)
      · replace HP := ite_T c9 HP
        refine gl_oV (hM2.2 51 (by decide)).1 ?_
        replace HP := bind_ck HP
        obtain ⟨c10, HP⟩ := HP
        refine gl_ckV ⟨(hM2.2 51 (by decide)).2.1, in_of (hM2.2 51 (by decide)).2.2 (by decide) c10⟩ ?_
        try rw [mrd 51 c10.1] at HP
        refine gl_iteV (fun c11 => ?_) (fun c11 => ?_)
        · replace HP := ite_T c11 HP
          exact pl_X12_playOver_103  hM2 f2 HP
        · replace HP := ite_F c11 HP
          refine gl_oV (hM2.2 56 (by decide)).1 ?_
          replace HP := bind_ck HP
          obtain ⟨c12, HP⟩ := HP
          refine gl_ckV ⟨(hM2.2 56 (by decide)).2.1, in_of (hM2.2 56 (by decide)).2.2 (by decide) c12⟩ ?_
          try rw [mrd 56 c12.1] at HP
          refine gl_oV (hM2.2 5 (by decide)).1 ?_
          replace HP := bind_ck HP
          obtain ⟨c13, HP⟩ := HP
          refine gl_ckV ⟨(hM2.2 5 (by decide)).2.1, in_of (hM2.2 5 (by decide)).2.2 (by decide) c13⟩ ?_
          try rw [mrd 5 c13.1] at HP
          refine gl_iteV (fun c14 => ?_) (fun c14 => ?_)
          · replace HP := ite_T c14 HP
            exact pl_X12_playOver_103  hM2 f2 HP
          · replace HP := ite_F c14 HP
            exact pl_X12_playOver_103  hM2 f2 HP
      · replace HP := ite_F c9 HP
        exact pl_X12_playOver_103  hM2 f2 HP
  · replace HP := ite_F c5 HP
    exact pl_X12_playOver_42  hM2 f2 HP

set_option maxRecDepth 20000 in
theorem pl_X12_playTurn_154 {t : Nat} {h0 : aH} {e' : mE} {x1 : Int32} {x2 : Int32} {h : aH} (hM : MS t h) (f : fr t h0 h) (HP : P_X12_playTurn_154  x1 x2 (menv t h) = some e') : Glv t h0 (F_X12_playTurn_154  t x1 x2 h) e' := by
  unfold P_X12_playTurn_154 at HP
  unfold F_X12_playTurn_154
  refine gl_ckV hM.1 ?_
  refine gl_oV (hM.2 41 (by decide)).1 ?_
  replace HP := bind_ck HP
  obtain ⟨c1, HP⟩ := HP
  refine gl_ckV ⟨(hM.2 41 (by decide)).2.1, in_of (hM.2 41 (by decide)).2.2 (by decide) c1⟩ ?_
  try rw [mrd 41 c1.1] at HP
  refine gl_iteV (fun c2 => ?_) (fun c2 => ?_)
  · replace HP := ite_T c2 HP
    exact gl_endv hM f HP
  · replace HP := ite_F c2 HP
    replace HP := bind_o HP
    obtain ⟨⟨z8, e7⟩, E3, HP⟩ := HP
    obtain ⟨h7, F4, rfl, hM7, gh7⟩ := pl_X12_lastTurn (t := t) hM (fr.refl _ _) E3
    have f7 := f.trans gh7
    refine gl_oV F4 (gl_bdV (gl_bdV ?_))
    replace HP := bd_o (bd_o HP)
    dsimp only at HP ⊢
    refine gl_iteV (fun c5 => ?_) (fun c5 => ?_)
    · replace HP := ite_T c5 HP
      refine gl_ckV hM7.1 ?_
      refine gl_iteV (fun c6 => ?_) (fun c6 => ?_)
      · replace HP := ite_T c6 HP
        refine gl_oV (hM7.2 35 (by decide)).1 ?_
        replace HP := bind_ck HP
        obtain ⟨c7, HP⟩ := HP
        refine gl_ckV ⟨(hM7.2 35 (by decide)).2.1, in_of (hM7.2 35 (by decide)).2.2 (by decide) c7⟩ ?_
        try rw [mrd 35 c7.1] at HP
        refine gl_iteV (fun c8 => ?_) (fun c8 => ?_)
        · replace HP := ite_T c8 HP
          replace HP := bd_n HP
          obtain ⟨e17, Eh17, HP⟩ := HP
          refine gl_sFV 33 hM7 f7 (fun h17 hM17 f17 Kh17 => ?_)
          obtain rfl : menv t h17 = e17 := mtr Kh17 Eh17
          exact gl_endv hM17 f17 HP
        · replace HP := ite_F c8 HP
          replace HP := bd_n HP
          obtain ⟨e19, Eh19, HP⟩ := HP
          refine gl_sFV 33 hM7 f7 (fun h19 hM19 f19 Kh19 => ?_)
          obtain rfl : menv t h19 = e19 := mtr Kh19 Eh19
          exact gl_endv hM19 f19 HP
      · replace HP := ite_F c6 HP
        exact gl_endv hM7 f7 HP
    · replace HP := ite_F c5 HP
      refine gl_ckV hM7.1 ?_
      refine gl_oV (hM7.2 6 (by decide)).1 ?_
      replace HP := bind_ck HP
      obtain ⟨c9, HP⟩ := HP
      refine gl_ckV ⟨(hM7.2 6 (by decide)).2.1, in_of (hM7.2 6 (by decide)).2.2 (by decide) c9⟩ ?_
      try rw [mrd 6 c9.1] at HP
      refine gl_iteV (fun c10 => ?_) (fun c10 => ?_)
      · replace HP := ite_T c10 HP
        refine gl_iteV (fun c11 => ?_) (fun c11 => ?_)
        · replace HP := ite_T c11 HP
          refine gl_oV (hM7.2 35 (by decide)).1 ?_
          replace HP := bind_ck HP
          obtain ⟨c12, HP⟩ := HP
          refine gl_ckV ⟨(hM7.2 35 (by decide)).2.1, in_of (hM7.2 35 (by decide)).2.2 (by decide) c12⟩ ?_
          try rw [mrd 35 c12.1] at HP
          refine gl_oV (hM7.2 35 (by decide)).1 ?_
          replace HP := bind_ck HP
          obtain ⟨c13, HP⟩ := HP
          refine gl_ckV ⟨(hM7.2 35 (by decide)).2.1, in_of (hM7.2 35 (by decide)).2.2 (by decide) c13⟩ ?_
          try rw [mrd 35 c13.1] at HP
          refine gl_oV (hM7.2 35 (by decide)).1 ?_
          replace HP := bind_ck HP
          obtain ⟨c14, HP⟩ := HP
          refine gl_ckV ⟨(hM7.2 35 (by decide)).2.1, in_of (hM7.2 35 (by decide)).2.2 (by decide) c14⟩ ?_
          try rw [mrd 35 c14.1] at HP
          refine gl_iteV (fun c15 => ?_) (fun c15 => ?_)
          · replace HP := ite_T c15 HP
            exact gl_endv hM7 f7 HP
          · replace HP := ite_F c15 HP
            replace HP := bd_n HP
            obtain ⟨e37, Eh37, HP⟩ := HP
            refine gl_sFV 33 hM7 f7 (fun h37 hM37 f37 Kh37 => ?_)
            obtain rfl : menv t h37 = e37 := mtr Kh37 Eh37
            exact gl_endv hM37 f37 HP
        · replace HP := ite_F c11 HP
          exact gl_endv hM7 f7 HP
      · replace HP := ite_F c10 HP
        exact gl_endv hM7 f7 HP

set_option maxRecDepth 20000 in
theorem pl_X12_playTurn_120 {t : Nat} {h0 : aH} {e' : mE} : ∀ {n : Nat} {x1 : Int32} {x2 : Int32} {x3 : Int32} {h : aH}, MS t h → fr t h0 h → P_X12_playTurn_120  n x1 x2 x3 (menv t h) = some e' → Glv t h0 (F_X12_playTurn_120  n t x1 x2 x3 h) e' := by
  intro n
  induction n with
  | zero => intro x1 x2 x3 h hM f HP; cases HP
  | succ n ih =>
  intro x1 x2 x3 h hM f HP
  unfold P_X12_playTurn_120 at HP
  unfold F_X12_playTurn_120
  refine gl_ckV hM.1 ?_
  refine gl_oV (hM.2 9 (by decide)).1 ?_
  replace HP := bind_ck HP
  obtain ⟨c1, HP⟩ := HP
  refine gl_ckV ⟨(hM.2 9 (by decide)).2.1, in_of (hM.2 9 (by decide)).2.2 (by decide) c1⟩ ?_
  try rw [mrd 9 c1.1] at HP
  refine gl_iteV (fun c2 => ?_) (fun c2 => ?_)
  · replace HP := ite_T c2 HP
    exact pl_X12_playTurn_154  hM f HP
  · replace HP := ite_F c2 HP
    refine gl_iteV (fun c3 => ?_) (fun c3 => ?_)
    · replace HP := ite_T c3 HP
      replace HP := bind_o HP
      obtain ⟨e8, E4, HP⟩ := HP
      obtain ⟨h8, F5, rfl, hM8, gh8⟩ := pl_X12_playOver (t := t) hM (fr.refl _ _) E4
      have f8 := f.trans gh8
      refine gl_oV F5 ?_
      replace HP := bd_n HP
      obtain ⟨v10, Ev10, HP⟩ := HP
      refine gl_bdvV Ev10 ?_
      exact ih hM8 f8 HP
    · replace HP := ite_F c3 HP
      exact pl_X12_playTurn_154  hM f HP

set_option maxRecDepth 20000 in
theorem pl_X12_playTurn_118 {t : Nat} {h0 : aH} {e' : mE} {x1 : Int32} {x2 : Int32} {h : aH} (hM : MS t h) (f : fr t h0 h) (HP : P_X12_playTurn_118  x1 x2 (menv t h) = some e') : Glv t h0 (F_X12_playTurn_118  t x1 x2 h) e' := by
  unfold P_X12_playTurn_118 at HP
  unfold F_X12_playTurn_118
  exact pl_X12_playTurn_120  hM f HP

set_option maxRecDepth 20000 in
theorem pl_X12_playTurn {t : Nat} {h0 : aH} {e' : mE} {x1 : Int32} {x2 : Int32} {h : aH} (hM : MS t h) (f : fr t h0 h) (HP : P_X12_playTurn  x1 x2 (menv t h) = some e') : Glv t h0 (F_X12_playTurn  t x1 x2 h) e' := by
  unfold P_X12_playTurn at HP
  unfold F_X12_playTurn
  replace HP := bd_n HP
  obtain ⟨e1, Eh1, HP⟩ := HP
  refine gl_sFV 32 hM f (fun h1 hM1 f1 Kh1 => ?_)
  obtain rfl : menv t h1 = e1 := mtr Kh1 Eh1
  refine gl_oV (hM1.2 52 (by decide)).1 ?_
  replace HP := bind_ck HP
  obtain ⟨c1, HP⟩ := HP
  refine gl_ckV ⟨(hM1.2 52 (by decide)).2.1, in_of (hM1.2 52 (by decide)).2.2 (by decide) c1⟩ ?_
  try rw [mrd 52 c1.1] at HP
  replace HP := bd_n HP
  obtain ⟨e6, Eh6, HP⟩ := HP
  refine gl_sIV 52 hM1 f1 (by decide) (by first | assumption | exact And.left (by assumption) | decide) (fun h6 hM6 f6 Kh6 => ?_)
  obtain rfl : menv t h6 = e6 := mtr Kh6 Eh6
  refine gl_oV (hM6.2 40 (by decide)).1 ?_
  refine gl_iteV (fun c2 => ?_) (fun c2 => ?_)
  · replace HP := ite_T c2 HP
    refine gl_oV (hM6.2 6 (by decide)).1 ?_
    replace HP := bind_ck HP
    obtain ⟨c3, HP⟩ := HP
    refine gl_ckV ⟨(hM6.2 6 (by decide)).2.1, in_of (hM6.2 6 (by decide)).2.2 (by decide) c3⟩ ?_
    try rw [mrd 6 c3.1] at HP
    refine gl_iteV (fun c4 => ?_) (fun c4 => ?_)
    · replace HP := ite_T c4 HP
      refine gl_oV (hM6.2 40 (by decide)).1 ?_
      replace HP := bind_ck HP
      obtain ⟨c5, HP⟩ := HP
      refine gl_ckV ⟨(hM6.2 40 (by decide)).2.1, in_of (hM6.2 40 (by decide)).2.2 (by decide) c5⟩ ?_
      try rw [mrd 40 c5.1] at HP
      replace HP := bind_ck HP
      obtain ⟨c6, HP⟩ := HP
      refine gl_ckV ⟨(hM6.2 40 (by decide)).2.1, in_of (hM6.2 40 (by decide)).2.2 (by decide) c6⟩ ?_
      try rw [mrd 40 c6.1] at HP
      replace HP := bd_n HP
      obtain ⟨e19, Eh19, HP⟩ := HP
      refine gl_sIV 40 hM6 f6 (by decide) (by first | assumption | exact And.left (by assumption) | decide) (fun h19 hM19 f19 Kh19 => ?_)
      obtain rfl : menv t h19 = e19 := mtr Kh19 Eh19
      refine gl_oV (hM19.2 43 (by decide)).1 ?_
      refine gl_oV (hM19.2 40 (by decide)).1 ?_
      replace HP := bind_ck HP
      obtain ⟨c7, HP⟩ := HP
      refine gl_ckV ⟨(hM19.2 40 (by decide)).2.1, in_of (hM19.2 40 (by decide)).2.2 (by decide) c7⟩ ?_
      try rw [mrd 40 c7.1] at HP
      replace HP := bind_o HP
      obtain ⟨⟨z28, e27⟩, E8, HP⟩ := HP
      obtain ⟨h27, F9, rfl, hM27, gh27⟩ := pl_X12_table (t := t) hM19 (fr.refl _ _) E8
      have f27 := f19.trans gh27
      refine gl_oV F9 (gl_bdV (gl_bdV ?_))
      replace HP := bd_o (bd_o HP)
      dsimp only at HP ⊢
      replace HP := bind_ck HP
      obtain ⟨c10, HP⟩ := HP
      refine gl_ckV ⟨(hM27.2 43 (by decide)).2.1, in_of (hM27.2 43 (by decide)).2.2 (by decide) c10⟩ ?_
      try rw [mrd 43 c10.1] at HP
      replace HP := bd_n HP
      obtain ⟨e31, Eh31, HP⟩ := HP
      refine gl_sIV 43 hM27 f27 (by decide) (by first | assumption | exact And.left (by assumption) | decide) (fun h31 hM31 f31 Kh31 => ?_)
      obtain rfl : menv t h31 = e31 := mtr Kh31 Eh31
      refine gl_ckV hM31.1 ?_
      refine gl_oV (hM31.2 45 (by decide)).1 ?_
      replace HP := bind_ck HP
      obtain ⟨c11, HP⟩ := HP
      refine gl_ckV ⟨(hM31.2 45 (by decide)).2.1, in_of (hM31.2 45 (by decide)).2.2 (by decide) c11⟩ ?_
      try rw [mrd 45 c11.1] at HP
      replace HP := bd_n HP
      obtain ⟨e36, Eh36, HP⟩ := HP
      refine gl_sIV 45 hM31 f31 (by decide) (by first | assumption | exact And.left (by assumption) | decide) (fun h36 hM36 f36 Kh36 => ?_)
      obtain rfl : menv t h36 = e36 := mtr Kh36 Eh36
      refine gl_oV (hM36.2 46 (by decide)).1 ?_
      replace HP := bind_ck HP
      obtain ⟨c12, HP⟩ := HP
      refine gl_ckV ⟨(hM36.2 46 (by decide)).2.1, in_of (hM36.2 46 (by decide)).2.2 (by decide) c12⟩ ?_
      try rw [mrd 46 c12.1] at HP
      replace HP := bd_n HP
      obtain ⟨e41, Eh41, HP⟩ := HP
      refine gl_sIV 46 hM36 f36 (by decide) (by first | assumption | exact And.left (by assumption) | decide) (fun h41 hM41 f41 Kh41 => ?_)
      obtain rfl : menv t h41 = e41 := mtr Kh41 Eh41
      refine gl_oV (hM41.2 55 (by decide)).1 ?_
      replace HP := bind_ck HP
      obtain ⟨c13, HP⟩ := HP
      refine gl_ckV ⟨(hM41.2 55 (by decide)).2.1, in_of (hM41.2 55 (by decide)).2.2 (by decide) c13⟩ ?_
      try rw [mrd 55 c13.1] at HP
      replace HP := bd_n HP
      obtain ⟨e46, Eh46, HP⟩ := HP
      refine gl_sIV 55 hM41 f41 (by decide) (by first | assumption | exact And.left (by assumption) | decide) (fun h46 hM46 f46 Kh46 => ?_)
      obtain rfl : menv t h46 = e46 := mtr Kh46 Eh46
      refine gl_oV (hM46.2 55 (by decide)).1 ?_
      replace HP := bind_ck HP
      obtain ⟨c14, HP⟩ := HP
      refine gl_ckV ⟨(hM46.2 55 (by decide)).2.1, in_of (hM46.2 55 (by decide)).2.2 (by decide) c14⟩ ?_
      try rw [mrd 55 c14.1] at HP
      replace HP := bd_n HP
      obtain ⟨e51, Eh51, HP⟩ := HP
      refine gl_sIV 55 hM46 f46 (by decide) (by first | assumption | exact And.left (by assumption) | decide) (fun h51 hM51 f51 Kh51 => ?_)
      obtain rfl : menv t h51 = e51 := mtr Kh51 Eh51
      replace HP := bind_o HP
      obtain ⟨⟨z55, e54⟩, E15, HP⟩ := HP
      obtain ⟨h54, F16, rfl, hM54, gh54⟩ := pl_X12_lastTurn (t := t) hM51 (fr.refl _ _) E15
      have f54 := f51.trans gh54
      refine gl_oV F16 (gl_bdV (gl_bdV ?_))
      replace HP := bd_o (bd_o HP)
      dsimp only at HP ⊢
      refine gl_iteV (fun c17 => ?_) (fun c17 => ?_)
      · replace HP := ite_T c17 HP
        refine gl_ckV hM54.1 ?_
        replace HP := bind_o HP
        obtain ⟨e60, E18, HP⟩ := HP
        obtain ⟨h60, F19, rfl, hM60, gh60⟩ := pl_X12_aim (t := t) hM54 (fr.refl _ _) E18
        have f60 := f54.trans gh60
        refine gl_oV F19 ?_
        exact pl_X12_playTurn_118  hM60 f60 HP
      · replace HP := ite_F c17 HP
        exact pl_X12_playTurn_118  hM54 f54 HP
    · replace HP := ite_F c4 HP
      refine gl_oV (hM6.2 5 (by decide)).1 ?_
      replace HP := bind_ck HP
      obtain ⟨c20, HP⟩ := HP
      refine gl_ckV ⟨(hM6.2 5 (by decide)).2.1, in_of (hM6.2 5 (by decide)).2.2 (by decide) c20⟩ ?_
      try rw [mrd 5 c20.1] at HP
      replace HP := bind_ck HP
      obtain ⟨c21, HP⟩ := HP
      refine gl_ckV ⟨(hM6.2 40 (by decide)).2.1, in_of (hM6.2 40 (by decide)).2.2 (by decide) c21⟩ ?_
      try rw [mrd 40 c21.1] at HP
      replace HP := bd_n HP
      obtain ⟨e66, Eh66, HP⟩ := HP
      refine gl_sIV 40 hM6 f6 (by decide) (by first | assumption | exact And.left (by assumption) | decide) (fun h66 hM66 f66 Kh66 => ?_)
      obtain rfl : menv t h66 = e66 := mtr Kh66 Eh66
      refine gl_oV (hM66.2 43 (by decide)).1 ?_
      refine gl_oV (hM66.2 40 (by decide)).1 ?_
      replace HP := bind_ck HP
      obtain ⟨c22, HP⟩ := HP
      refine gl_ckV ⟨(hM66.2 40 (by decide)).2.1, in_of (hM66.2 40 (by decide)).2.2 (by decide) c22⟩ ?_
      try rw [mrd 40 c22.1] at HP
      replace HP := bind_o HP
      obtain ⟨⟨z75, e74⟩, E23, HP⟩ := HP
      obtain ⟨h74, F24, rfl, hM74, gh74⟩ := pl_X12_table (t := t) hM66 (fr.refl _ _) E23
      have f74 := f66.trans gh74
      refine gl_oV F24 (gl_bdV (gl_bdV ?_))
      replace HP := bd_o (bd_o HP)
      dsimp only at HP ⊢
      replace HP := bind_ck HP
      obtain ⟨c25, HP⟩ := HP
      refine gl_ckV ⟨(hM74.2 43 (by decide)).2.1, in_of (hM74.2 43 (by decide)).2.2 (by decide) c25⟩ ?_
      try rw [mrd 43 c25.1] at HP
      replace HP := bd_n HP
      obtain ⟨e78, Eh78, HP⟩ := HP
      refine gl_sIV 43 hM74 f74 (by decide) (by first | assumption | exact And.left (by assumption) | decide) (fun h78 hM78 f78 Kh78 => ?_)
      obtain rfl : menv t h78 = e78 := mtr Kh78 Eh78
      refine gl_ckV hM78.1 ?_
      refine gl_oV (hM78.2 45 (by decide)).1 ?_
      replace HP := bind_ck HP
      obtain ⟨c26, HP⟩ := HP
      refine gl_ckV ⟨(hM78.2 45 (by decide)).2.1, in_of (hM78.2 45 (by decide)).2.2 (by decide) c26⟩ ?_
      try rw [mrd 45 c26.1] at HP
      replace HP := bd_n HP
      obtain ⟨e83, Eh83, HP⟩ := HP
      refine gl_sIV 45 hM78 f78 (by decide) (by first | assumption | exact And.left (by assumption) | decide) (fun h83 hM83 f83 Kh83 => ?_)
      obtain rfl : menv t h83 = e83 := mtr Kh83 Eh83
      refine gl_oV (hM83.2 46 (by decide)).1 ?_
      replace HP := bind_ck HP
      obtain ⟨c27, HP⟩ := HP
      refine gl_ckV ⟨(hM83.2 46 (by decide)).2.1, in_of (hM83.2 46 (by decide)).2.2 (by decide) c27⟩ ?_
      try rw [mrd 46 c27.1] at HP
      replace HP := bd_n HP
      obtain ⟨e88, Eh88, HP⟩ := HP
      refine gl_sIV 46 hM83 f83 (by decide) (by first | assumption | exact And.left (by assumption) | decide) (fun h88 hM88 f88 Kh88 => ?_)
      obtain rfl : menv t h88 = e88 := mtr Kh88 Eh88
      refine gl_oV (hM88.2 55 (by decide)).1 ?_
      replace HP := bind_ck HP
      obtain ⟨c28, HP⟩ := HP
      refine gl_ckV ⟨(hM88.2 55 (by decide)).2.1, in_of (hM88.2 55 (by decide)).2.2 (by decide) c28⟩ ?_
      try rw [mrd 55 c28.1] at HP
      replace HP := bd_n HP
      obtain ⟨e93, Eh93, HP⟩ := HP
      refine gl_sIV 55 hM88 f88 (by decide) (by first | assumption | exact And.left (by assumption) | decide) (fun h93 hM93 f93 Kh93 => ?_)
      obtain rfl : menv t h93 = e93 := mtr Kh93 Eh93
      refine gl_oV (hM93.2 55 (by decide)).1 ?_
      replace HP := bind_ck HP
      obtain ⟨c29, HP⟩ := HP
      refine gl_ckV ⟨(hM93.2 55 (by decide)).2.1, in_of (hM93.2 55 (by decide)).2.2 (by decide) c29⟩ ?_
      try rw [mrd 55 c29.1] at HP
      replace HP := bd_n HP
      obtain ⟨e98, Eh98, HP⟩ := HP
      refine gl_sIV 55 hM93 f93 (by decide) (by first | assumption | exact And.left (by assumption) | decide) (fun h98 hM98 f98 Kh98 => ?_)
      obtain rfl : menv t h98 = e98 := mtr Kh98 Eh98
      replace HP := bind_o HP
      obtain ⟨⟨z102, e101⟩, E30, HP⟩ := HP
      obtain ⟨h101, F31, rfl, hM101, gh101⟩ := pl_X12_lastTurn (t := t) hM98 (fr.refl _ _) E30
      have f101 := f98.trans gh101
      refine gl_oV F31 (gl_bdV (gl_bdV ?_))
      replace HP := bd_o (bd_o HP)
      dsimp only at HP ⊢
      refine gl_iteV (fun c32 => ?_) (fun c32 => ?_)
      · replace HP := ite_T c32 HP
        refine gl_ckV hM101.1 ?_
        replace HP := bind_o HP
        obtain ⟨e107, E33, HP⟩ := HP
        obtain ⟨h107, F34, rfl, hM107, gh107⟩ := pl_X12_aim (t := t) hM101 (fr.refl _ _) E33
        have f107 := f101.trans gh107
        refine gl_oV F34 ?_
        exact pl_X12_playTurn_118  hM107 f107 HP
      · replace HP := ite_F c32 HP
        exact pl_X12_playTurn_118  hM101 f101 HP
  · replace HP := ite_F c2 HP
    refine gl_oV (hM6.2 5 (by decide)).1 ?_
    replace HP := bind_ck HP
    obtain ⟨c35, HP⟩ := HP
    refine gl_ckV ⟨(hM6.2 5 (by decide)).2.1, in_of (hM6.2 5 (by decide)).2.2 (by decide) c35⟩ ?_
    try rw [mrd 5 c35.1] at HP
    replace HP := bind_ck HP
    obtain ⟨c36, HP⟩ := HP
    refine gl_ckV ⟨(hM6.2 40 (by decide)).2.1, in_of (hM6.2 40 (by decide)).2.2 (by decide) c36⟩ ?_
    try rw [mrd 40 c36.1] at HP
    replace HP := bd_n HP
    obtain ⟨e113, Eh113, HP⟩ := HP
    refine gl_sIV 40 hM6 f6 (by decide) (by first | assumption | exact And.left (by assumption) | decide) (fun h113 hM113 f113 Kh113 => ?_)
    obtain rfl : menv t h113 = e113 := mtr Kh113 Eh113
    refine gl_oV (hM113.2 43 (by decide)).1 ?_
    refine gl_oV (hM113.2 40 (by decide)).1 ?_
    replace HP := bind_ck HP
    obtain ⟨c37, HP⟩ := HP
    refine gl_ckV ⟨(hM113.2 40 (by decide)).2.1, in_of (hM113.2 40 (by decide)).2.2 (by decide) c37⟩ ?_
    try rw [mrd 40 c37.1] at HP
    replace HP := bind_o HP
    obtain ⟨⟨z122, e121⟩, E38, HP⟩ := HP
    obtain ⟨h121, F39, rfl, hM121, gh121⟩ := pl_X12_table (t := t) hM113 (fr.refl _ _) E38
    have f121 := f113.trans gh121
    refine gl_oV F39 (gl_bdV (gl_bdV ?_))
    replace HP := bd_o (bd_o HP)
    dsimp only at HP ⊢
    replace HP := bind_ck HP
    obtain ⟨c40, HP⟩ := HP
    refine gl_ckV ⟨(hM121.2 43 (by decide)).2.1, in_of (hM121.2 43 (by decide)).2.2 (by decide) c40⟩ ?_
    try rw [mrd 43 c40.1] at HP
    replace HP := bd_n HP
    obtain ⟨e125, Eh125, HP⟩ := HP
    refine gl_sIV 43 hM121 f121 (by decide) (by first | assumption | exact And.left (by assumption) | decide) (fun h125 hM125 f125 Kh125 => ?_)
    obtain rfl : menv t h125 = e125 := mtr Kh125 Eh125
    refine gl_ckV hM125.1 ?_
    refine gl_oV (hM125.2 45 (by decide)).1 ?_
    replace HP := bind_ck HP
    obtain ⟨c41, HP⟩ := HP
    refine gl_ckV ⟨(hM125.2 45 (by decide)).2.1, in_of (hM125.2 45 (by decide)).2.2 (by decide) c41⟩ ?_
    try rw [mrd 45 c41.1] at HP
    replace HP := bd_n HP
    obtain ⟨e130, Eh130, HP⟩ := HP
    refine gl_sIV 45 hM125 f125 (by decide) (by first | assumption | exact And.left (by assumption) | decide) (fun h130 hM130 f130 Kh130 => ?_)
    obtain rfl : menv t h130 = e130 := mtr Kh130 Eh130
    refine gl_oV (hM130.2 46 (by decide)).1 ?_
    replace HP := bind_ck HP
    obtain ⟨c42, HP⟩ := HP
    refine gl_ckV ⟨(hM130.2 46 (by decide)).2.1, in_of (hM130.2 46 (by decide)).2.2 (by decide) c42⟩ ?_
    try rw [mrd 46 c42.1] at HP
    replace HP := bd_n HP
    obtain ⟨e135, Eh135, HP⟩ := HP
    refine gl_sIV 46 hM130 f130 (by decide) (by first | assumption | exact And.left (by assumption) | decide) (fun h135 hM135 f135 Kh135 => ?_)
    obtain rfl : menv t h135 = e135 := mtr Kh135 Eh135
    refine gl_oV (hM135.2 55 (by decide)).1 ?_
    replace HP := bind_ck HP
    obtain ⟨c43, HP⟩ := HP
    refine gl_ckV ⟨(hM135.2 55 (by decide)).2.1, in_of (hM135.2 55 (by decide)).2.2 (by decide) c43⟩ ?_
    try rw [mrd 55 c43.1] at HP
    replace HP := bd_n HP
    obtain ⟨e140, Eh140, HP⟩ := HP
    refine gl_sIV 55 hM135 f135 (by decide) (by first | assumption | exact And.left (by assumption) | decide) (fun h140 hM140 f140 Kh140 => ?_)
    obtain rfl : menv t h140 = e140 := mtr Kh140 Eh140
    refine gl_oV (hM140.2 55 (by decide)).1 ?_
    replace HP := bind_ck HP
    obtain ⟨c44, HP⟩ := HP
    refine gl_ckV ⟨(hM140.2 55 (by decide)).2.1, in_of (hM140.2 55 (by decide)).2.2 (by decide) c44⟩ ?_
    try rw [mrd 55 c44.1] at HP
    replace HP := bd_n HP
    obtain ⟨e145, Eh145, HP⟩ := HP
    refine gl_sIV 55 hM140 f140 (by decide) (by first | assumption | exact And.left (by assumption) | decide) (fun h145 hM145 f145 Kh145 => ?_)
    obtain rfl : menv t h145 = e145 := mtr Kh145 Eh145
    replace HP := bind_o HP
    obtain ⟨⟨z149, e148⟩, E45, HP⟩ := HP
    obtain ⟨h148, F46, rfl, hM148, gh148⟩ := pl_X12_lastTurn (t := t) hM145 (fr.refl _ _) E45
    have f148 := f145.trans gh148
    refine gl_oV F46 (gl_bdV (gl_bdV ?_))
    replace HP := bd_o (bd_o HP)
    dsimp only at HP ⊢
    refine gl_iteV (fun c47 => ?_) (fun c47 => ?_)
    · replace HP := ite_T c47 HP
      refine gl_ckV hM148.1 ?_
      replace HP := bind_o HP
      obtain ⟨e154, E48, HP⟩ := HP
      obtain ⟨h154, F49, rfl, hM154, gh154⟩ := pl_X12_aim (t := t) hM148 (fr.refl _ _) E48
      have f154 := f148.trans gh154
      refine gl_oV F49 ?_
      exact pl_X12_playTurn_118  hM154 f154 HP
    · replace HP := ite_F c47 HP
      exact pl_X12_playTurn_118  hM148 f148 HP

set_option maxRecDepth 20000 in
theorem pl_X12_play_207 {t : Nat} {h0 : aH} {e' : mE} {qk140 : Int32 → Int32 → mE → Option (mE)} {k140 : Nat → Int32 → Int32 → aH → Option (aH)} (hk140 : ∀ {u1 : Int32} {u2 : Int32} {h : aH}, MS t h → fr t h0 h → qk140 u1 u2 (menv t h) = some e' → Glv t h0 (k140 t u1 u2 h) e') {x1 : Int32} {x2 : Int32} {h : aH} (hM : MS t h) (f : fr t h0 h) (HP : P_X12_play_207 qk140 x1 x2 (menv t h) = some e') : Glv t h0 (F_X12_play_207 k140 t x1 x2 h) e' := by
  unfold P_X12_play_207 at HP
  unfold F_X12_play_207
  replace HP := bd_n HP
  obtain ⟨v1, Ev1, HP⟩ := HP
  refine gl_bdvV Ev1 ?_
  exact hk140 hM f HP

set_option maxRecDepth 20000 in
theorem pl_X12_play_183 {t : Nat} {h0 : aH} {e' : mE} {qk140 : Int32 → Int32 → mE → Option (mE)} {k140 : Nat → Int32 → Int32 → aH → Option (aH)} (hk140 : ∀ {u1 : Int32} {u2 : Int32} {h : aH}, MS t h → fr t h0 h → qk140 u1 u2 (menv t h) = some e' → Glv t h0 (k140 t u1 u2 h) e') {x1 : Int32} {x2 : Int32} {h : aH} (hM : MS t h) (f : fr t h0 h) (HP : P_X12_play_183 qk140 x1 x2 (menv t h) = some e') : Glv t h0 (F_X12_play_183 k140 t x1 x2 h) e' := by
  unfold P_X12_play_183 at HP
  unfold F_X12_play_183
  refine gl_ckV hM.1 ?_
  refine gl_iteV (fun c1 => ?_) (fun c1 => ?_)
  · replace HP := ite_T c1 HP
    replace HP := bind_o HP
    obtain ⟨e4, E2, HP⟩ := HP
    obtain ⟨h4, F3, rfl, hM4, gh4⟩ := pl_X12_playTurn (t := t) hM (fr.refl _ _) E2
    have f4 := f.trans gh4
    refine gl_oV F3 ?_
    exact pl_X12_play_207 (fun hm ff hp => hk140 hm ff hp) hM4 f4 HP
  · replace HP := ite_F c1 HP
    replace HP := bind_o HP
    obtain ⟨e7, E4, HP⟩ := HP
    obtain ⟨h7, F5, rfl, hM7, gh7⟩ := pl_X12_stop (t := t) hM (fr.refl _ _) E4
    have f7 := f.trans gh7
    refine gl_oV F5 ?_
    exact pl_X12_play_207 (fun hm ff hp => hk140 hm ff hp) hM7 f7 HP

set_option maxRecDepth 20000 in
theorem pl_X12_play_140 {t : Nat} {h0 : aH} {e' : mE} : ∀ {n : Nat} {x1 : Int32} {x2 : Int32} {h : aH}, MS t h → fr t h0 h → P_X12_play_140  n x1 x2 (menv t h) = some e' → Glv t h0 (F_X12_play_140  n t x1 x2 h) e' := by
  intro n
  induction n with
  | zero => intro x1 x2 h hM f HP; cases HP
  | succ n ih =>
  intro x1 x2 h hM f HP
  unfold P_X12_play_140 at HP
  unfold F_X12_play_140
  refine gl_ckV hM.1 ?_
  refine gl_oV (hM.2 8 (by decide)).1 ?_
  replace HP := bind_ck HP
  obtain ⟨c1, HP⟩ := HP
  refine gl_ckV ⟨(hM.2 8 (by decide)).2.1, in_of (hM.2 8 (by decide)).2.2 (by decide) c1⟩ ?_
  try rw [mrd 8 c1.1] at HP
  refine gl_iteV (fun c2 => ?_) (fun c2 => ?_)
  · replace HP := ite_T c2 HP
    exact gl_endv hM f HP
  · replace HP := ite_F c2 HP
    refine gl_iteV (fun c3 => ?_) (fun c3 => ?_)
    · replace HP := ite_T c3 HP
      refine gl_iteV (fun c4 => ?_) (fun c4 => ?_)
      · replace HP := ite_T c4 HP
        exact pl_X12_play_183 (fun hm ff hp => ih hm ff hp) hM f HP
      · replace HP := ite_F c4 HP
        refine gl_oV (hM.2 41 (by decide)).1 ?_
        replace HP := bind_ck HP
        obtain ⟨c5, HP⟩ := HP
        refine gl_ckV ⟨(hM.2 41 (by decide)).2.1, in_of (hM.2 41 (by decide)).2.2 (by decide) c5⟩ ?_
        try rw [mrd 41 c5.1] at HP
        refine gl_iteV (fun c6 => ?_) (fun c6 => ?_)
        · replace HP := ite_T c6 HP
          replace HP := bind_o HP
          obtain ⟨e13, E7, HP⟩ := HP
          obtain ⟨h13, F8, rfl, hM13, gh13⟩ := pl_X12_stop (t := t) hM (fr.refl _ _) E7
          have f13 := f.trans gh13
          refine gl_oV F8 ?_
          exact pl_X12_play_207 (fun hm ff hp => ih hm ff hp) hM13 f13 HP
        · replace HP := ite_F c6 HP
          exact pl_X12_play_183 (fun hm ff hp => ih hm ff hp) hM f HP
    · replace HP := ite_F c3 HP
      exact gl_endv hM f HP

set_option maxRecDepth 20000 in
theorem pl_X12_play_55 {t : Nat} {h0 : aH} {e' : mE} {qk43 : Int32 → Int32 → mE → Option (mE)} {k43 : Nat → Int32 → Int32 → aH → Option (aH)} (hk43 : ∀ {u1 : Int32} {u2 : Int32} {h : aH}, MS t h → fr t h0 h → qk43 u1 u2 (menv t h) = some e' → Glv t h0 (k43 t u1 u2 h) e') : ∀ {n : Nat} {x1 : Int32} {x2 : Int32} {x3 : Int32} {h : aH}, MS t h → fr t h0 h → P_X12_play_55 qk43 n x1 x2 x3 (menv t h) = some e' → Glv t h0 (F_X12_play_55 k43 n t x1 x2 x3 h) e' := by
  intro n
  induction n with
  | zero => intro x1 x2 x3 h hM f HP; cases HP
  | succ n ih =>
  intro x1 x2 x3 h hM f HP
  unfold P_X12_play_55 at HP
  unfold F_X12_play_55
  refine gl_ckV hM.1 ?_
  refine gl_oV (hM.2 9 (by decide)).1 ?_
  replace HP := bind_ck HP
  obtain ⟨c1, HP⟩ := HP
  refine gl_ckV ⟨(hM.2 9 (by decide)).2.1, in_of (hM.2 9 (by decide)).2.2 (by decide) c1⟩ ?_
  try rw [mrd 9 c1.1] at HP
  refine gl_iteV (fun c2 => ?_) (fun c2 => ?_)
  · replace HP := ite_T c2 HP
    replace HP := bd_n HP
    obtain ⟨v6, Ev6, HP⟩ := HP
    refine gl_bdvV Ev6 ?_
    exact hk43 hM f HP
  · replace HP := ite_F c2 HP
    replace HP := bind_o HP
    obtain ⟨⟨z9, e8⟩, E3, HP⟩ := HP
    obtain ⟨h8, F4, rfl, hM8, gh8⟩ := pl_X12_rowOf (t := t) hM (fr.refl _ _) E3
    have f8 := f.trans gh8
    refine gl_oV F4 (gl_bdV (gl_bdV ?_))
    replace HP := bd_o (bd_o HP)
    dsimp only at HP ⊢
    refine gl_ckV hM8.1 ?_
    refine gl_oV (hM8.2 59 (by decide)).1 ?_
    replace HP := bind_ck HP
    obtain ⟨c5, HP⟩ := HP
    refine gl_ckV ⟨(hM8.2 59 (by decide)).2.1, in_of (hM8.2 59 (by decide)).2.2 (by decide) c5⟩ ?_
    try rw [mrd 59 c5.1] at HP
    replace HP := bd_n HP
    obtain ⟨e15, Eh15, HP⟩ := HP
    refine gl_sIV 59 hM8 f8 (by decide) (by first | assumption | exact And.left (by assumption) | decide) (fun h15 hM15 f15 Kh15 => ?_)
    obtain rfl : menv t h15 = e15 := mtr Kh15 Eh15
    refine gl_oV (hM15.2 60 (by decide)).1 ?_
    replace HP := bind_ck HP
    obtain ⟨c6, HP⟩ := HP
    refine gl_ckV ⟨(hM15.2 60 (by decide)).2.1, in_of (hM15.2 60 (by decide)).2.2 (by decide) c6⟩ ?_
    try rw [mrd 60 c6.1] at HP
    replace HP := bd_n HP
    obtain ⟨e20, Eh20, HP⟩ := HP
    refine gl_sIV 60 hM15 f15 (by decide) (by first | assumption | exact And.left (by assumption) | decide) (fun h20 hM20 f20 Kh20 => ?_)
    obtain rfl : menv t h20 = e20 := mtr Kh20 Eh20
    refine gl_oV (hM20.2 61 (by decide)).1 ?_
    replace HP := bind_ck HP
    obtain ⟨c7, HP⟩ := HP
    refine gl_ckV ⟨(hM20.2 61 (by decide)).2.1, in_of (hM20.2 61 (by decide)).2.2 (by decide) c7⟩ ?_
    try rw [mrd 61 c7.1] at HP
    replace HP := bd_n HP
    obtain ⟨e25, Eh25, HP⟩ := HP
    refine gl_sIV 61 hM20 f20 (by decide) (by first | assumption | exact And.left (by assumption) | decide) (fun h25 hM25 f25 Kh25 => ?_)
    obtain rfl : menv t h25 = e25 := mtr Kh25 Eh25
    refine gl_oV (hM25.2 62 (by decide)).1 ?_
    replace HP := bind_ck HP
    obtain ⟨c8, HP⟩ := HP
    refine gl_ckV ⟨(hM25.2 62 (by decide)).2.1, in_of (hM25.2 62 (by decide)).2.2 (by decide) c8⟩ ?_
    try rw [mrd 62 c8.1] at HP
    replace HP := bd_n HP
    obtain ⟨e30, Eh30, HP⟩ := HP
    refine gl_sIV 62 hM25 f25 (by decide) (by first | assumption | exact And.left (by assumption) | decide) (fun h30 hM30 f30 Kh30 => ?_)
    obtain rfl : menv t h30 = e30 := mtr Kh30 Eh30
    refine gl_oV (hM30.2 63 (by decide)).1 ?_
    replace HP := bind_ck HP
    obtain ⟨c9, HP⟩ := HP
    refine gl_ckV ⟨(hM30.2 63 (by decide)).2.1, in_of (hM30.2 63 (by decide)).2.2 (by decide) c9⟩ ?_
    try rw [mrd 63 c9.1] at HP
    replace HP := bd_n HP
    obtain ⟨e35, Eh35, HP⟩ := HP
    refine gl_sIV 63 hM30 f30 (by decide) (by first | assumption | exact And.left (by assumption) | decide) (fun h35 hM35 f35 Kh35 => ?_)
    obtain rfl : menv t h35 = e35 := mtr Kh35 Eh35
    refine gl_oV (hM35.2 64 (by decide)).1 ?_
    replace HP := bind_ck HP
    obtain ⟨c10, HP⟩ := HP
    refine gl_ckV ⟨(hM35.2 64 (by decide)).2.1, in_of (hM35.2 64 (by decide)).2.2 (by decide) c10⟩ ?_
    try rw [mrd 64 c10.1] at HP
    replace HP := bd_n HP
    obtain ⟨e40, Eh40, HP⟩ := HP
    refine gl_sIV 64 hM35 f35 (by decide) (by first | assumption | exact And.left (by assumption) | decide) (fun h40 hM40 f40 Kh40 => ?_)
    obtain rfl : menv t h40 = e40 := mtr Kh40 Eh40
    replace HP := bd_n HP
    obtain ⟨v42, Ev42, HP⟩ := HP
    refine gl_bdvV Ev42 ?_
    exact ih hM40 f40 HP

set_option maxRecDepth 20000 in
theorem pl_X12_play_43 {t : Nat} {h0 : aH} {e' : mE} : ∀ {n : Nat} {x1 : Int32} {x2 : Int32} {h : aH}, MS t h → fr t h0 h → P_X12_play_43  n x1 x2 (menv t h) = some e' → Glv t h0 (F_X12_play_43  n t x1 x2 h) e' := by
  intro n
  induction n with
  | zero => intro x1 x2 h hM f HP; cases HP
  | succ n ih =>
  intro x1 x2 h hM f HP
  unfold P_X12_play_43 at HP
  unfold F_X12_play_43
  refine gl_ckV hM.1 ?_
  refine gl_oV (hM.2 8 (by decide)).1 ?_
  replace HP := bind_ck HP
  obtain ⟨c1, HP⟩ := HP
  refine gl_ckV ⟨(hM.2 8 (by decide)).2.1, in_of (hM.2 8 (by decide)).2.2 (by decide) c1⟩ ?_
  try rw [mrd 8 c1.1] at HP
  refine gl_iteV (fun c2 => ?_) (fun c2 => ?_)
  · replace HP := ite_T c2 HP
    exact pl_X12_play_140  hM f HP
  · replace HP := ite_F c2 HP
    exact pl_X12_play_55 (fun hm ff hp => ih hm ff hp) hM f HP

set_option maxRecDepth 20000 in
theorem pl_X12_play_25 {t : Nat} {h0 : aH} {e' : mE} : ∀ {n : Nat} {x1 : Int32} {x2 : Int32} {h : aH}, MS t h → fr t h0 h → P_X12_play_25  n x1 x2 (menv t h) = some e' → Glv t h0 (F_X12_play_25  n t x1 x2 h) e' := by
  intro n
  induction n with
  | zero => intro x1 x2 h hM f HP; cases HP
  | succ n ih =>
  intro x1 x2 h hM f HP
  unfold P_X12_play_25 at HP
  unfold F_X12_play_25
  refine gl_iteV (fun c1 => ?_) (fun c1 => ?_)
  · replace HP := ite_T c1 HP
    exact pl_X12_play_43  hM f HP
  · replace HP := ite_F c1 HP
    refine gl_ckV hM.1 ?_
    replace HP := bind_o HP
    obtain ⟨e4, E2, HP⟩ := HP
    obtain ⟨h4, F3, rfl, hM4, gh4⟩ := pl_X12_clearTurn (t := t) hM (fr.refl _ _) E2
    have f4 := f.trans gh4
    refine gl_oV F3 ?_
    replace HP := bd_n HP
    obtain ⟨v6, Ev6, HP⟩ := HP
    refine gl_bdvV Ev6 ?_
    exact ih hM4 f4 HP

set_option maxRecDepth 20000 in
theorem pl_X12_play {t : Nat} {h0 : aH} {e' : mE} {x1 : Int32} {h : aH} (hM : MS t h) (f : fr t h0 h) (HP : P_X12_play  x1 (menv t h) = some e') : Glv t h0 (F_X12_play  t x1 h) e' := by
  unfold P_X12_play at HP
  unfold F_X12_play
  replace HP := bind_o HP
  obtain ⟨e2, E1, HP⟩ := HP
  obtain ⟨h2, F2, rfl, hM2, gh2⟩ := pl_X12_stop (t := t) hM (fr.refl _ _) E1
  have f2 := f.trans gh2
  refine gl_oV F2 ?_
  refine gl_ckV hM2.1 ?_
  replace HP := bd_n HP
  obtain ⟨e5, Eh5, HP⟩ := HP
  refine gl_sFV 32 hM2 f2 (fun h5 hM5 f5 Kh5 => ?_)
  obtain rfl : menv t h5 = e5 := mtr Kh5 Eh5
  replace HP := bd_n HP
  obtain ⟨e7, Eh7, HP⟩ := HP
  refine gl_sFV 33 hM5 f5 (fun h7 hM7 f7 Kh7 => ?_)
  obtain rfl : menv t h7 = e7 := mtr Kh7 Eh7
  replace HP := bd_n HP
  obtain ⟨e9, Eh9, HP⟩ := HP
  refine gl_sFV 34 hM7 f7 (fun h9 hM9 f9 Kh9 => ?_)
  obtain rfl : menv t h9 = e9 := mtr Kh9 Eh9
  exact pl_X12_play_25  hM9 f9 HP

set_option maxRecDepth 20000 in
theorem pl_X12_done_175 {t : Nat} {h0 : aH} {e' : mE} {x1 : Int32} {x2 : Int32} {x3 : Int32} {x4 : Int32} {x5 : Int32} {h : aH} (hM : MS t h) (f : fr t h0 h) (HP : P_X12_done_175  x1 x2 x3 x4 x5 (menv t h) = some e') : Glv t h0 (F_X12_done_175  t x1 x2 x3 x4 x5 h) e' := by
  unfold P_X12_done_175 at HP
  unfold F_X12_done_175
  refine gl_ckV hM.1 ?_
  refine gl_oV (hM.2 21 (by decide)).1 ?_
  replace HP := bind_ck HP
  obtain ⟨c1, HP⟩ := HP
  refine gl_ckV ⟨(hM.2 21 (by decide)).2.1, in_of (hM.2 21 (by decide)).2.2 (by decide) c1⟩ ?_
  try rw [mrd 21 c1.1] at HP
  replace HP := bd_n HP
  obtain ⟨e5, Eh5, HP⟩ := HP
  refine gl_sIV 21 hM f (by decide) (by first | assumption | exact And.left (by assumption) | decide) (fun h5 hM5 f5 Kh5 => ?_)
  obtain rfl : menv t h5 = e5 := mtr Kh5 Eh5
  refine gl_oV (hM5.2 22 (by decide)).1 ?_
  replace HP := bind_ck HP
  obtain ⟨c2, HP⟩ := HP
  refine gl_ckV ⟨(hM5.2 22 (by decide)).2.1, in_of (hM5.2 22 (by decide)).2.2 (by decide) c2⟩ ?_
  try rw [mrd 22 c2.1] at HP
  replace HP := bd_n HP
  obtain ⟨e10, Eh10, HP⟩ := HP
  refine gl_sIV 22 hM5 f5 (by decide) (by first | assumption | exact And.left (by assumption) | decide) (fun h10 hM10 f10 Kh10 => ?_)
  obtain rfl : menv t h10 = e10 := mtr Kh10 Eh10
  refine gl_oV (hM10.2 23 (by decide)).1 ?_
  replace HP := bind_ck HP
  obtain ⟨c3, HP⟩ := HP
  refine gl_ckV ⟨(hM10.2 23 (by decide)).2.1, in_of (hM10.2 23 (by decide)).2.2 (by decide) c3⟩ ?_
  try rw [mrd 23 c3.1] at HP
  replace HP := bd_n HP
  obtain ⟨e15, Eh15, HP⟩ := HP
  refine gl_sIV 23 hM10 f10 (by decide) (by first | assumption | exact And.left (by assumption) | decide) (fun h15 hM15 f15 Kh15 => ?_)
  obtain rfl : menv t h15 = e15 := mtr Kh15 Eh15
  refine gl_oV (hM15.2 24 (by decide)).1 ?_
  replace HP := bind_ck HP
  obtain ⟨c4, HP⟩ := HP
  refine gl_ckV ⟨(hM15.2 24 (by decide)).2.1, in_of (hM15.2 24 (by decide)).2.2 (by decide) c4⟩ ?_
  try rw [mrd 24 c4.1] at HP
  replace HP := bd_n HP
  obtain ⟨e20, Eh20, HP⟩ := HP
  refine gl_sIV 24 hM15 f15 (by decide) (by first | assumption | exact And.left (by assumption) | decide) (fun h20 hM20 f20 Kh20 => ?_)
  obtain rfl : menv t h20 = e20 := mtr Kh20 Eh20
  refine gl_oV (hM20.2 25 (by decide)).1 ?_
  replace HP := bind_ck HP
  obtain ⟨c5, HP⟩ := HP
  refine gl_ckV ⟨(hM20.2 25 (by decide)).2.1, in_of (hM20.2 25 (by decide)).2.2 (by decide) c5⟩ ?_
  try rw [mrd 25 c5.1] at HP
  replace HP := bd_n HP
  obtain ⟨e25, Eh25, HP⟩ := HP
  refine gl_sIV 25 hM20 f20 (by decide) (by first | assumption | exact And.left (by assumption) | decide) (fun h25 hM25 f25 Kh25 => ?_)
  obtain rfl : menv t h25 = e25 := mtr Kh25 Eh25
  replace HP := bd_n HP
  obtain ⟨e27, Eh27, HP⟩ := HP
  refine gl_sFV 20 hM25 f25 (fun h27 hM27 f27 Kh27 => ?_)
  obtain rfl : menv t h27 = e27 := mtr Kh27 Eh27
  exact gl_endv hM27 f27 HP

set_option maxRecDepth 20000 in
theorem pl_X12_done_118 {t : Nat} {h0 : aH} {e' : mE} {qk12 : Int32 → Int32 → Int32 → Int32 → Int32 → Int32 → mE → Option (mE)} {k12 : Nat → Int32 → Int32 → Int32 → Int32 → Int32 → Int32 → aH → Option (aH)} (hk12 : ∀ {u1 : Int32} {u2 : Int32} {u3 : Int32} {u4 : Int32} {u5 : Int32} {u6 : Int32} {h : aH}, MS t h → fr t h0 h → qk12 u1 u2 u3 u4 u5 u6 (menv t h) = some e' → Glv t h0 (k12 t u1 u2 u3 u4 u5 u6 h) e') : ∀ {n : Nat} {x1 : Int32} {x2 : Int32} {x3 : Int32} {x4 : Int32} {x5 : Int32} {x6 : Int32} {x7 : Int32} {h : aH}, MS t h → fr t h0 h → P_X12_done_118 qk12 n x1 x2 x3 x4 x5 x6 x7 (menv t h) = some e' → Glv t h0 (F_X12_done_118 k12 n t x1 x2 x3 x4 x5 x6 x7 h) e' := by
  intro n
  induction n with
  | zero => intro x1 x2 x3 x4 x5 x6 x7 h hM f HP; cases HP
  | succ n ih =>
  intro x1 x2 x3 x4 x5 x6 x7 h hM f HP
  unfold P_X12_done_118 at HP
  unfold F_X12_done_118
  refine gl_iteV (fun c1 => ?_) (fun c1 => ?_)
  · replace HP := ite_T c1 HP
    replace HP := bd_n HP
    obtain ⟨v2, Ev2, HP⟩ := HP
    refine gl_bdvV Ev2 ?_
    exact hk12 hM f HP
  · replace HP := ite_F c1 HP
    refine gl_ckV hM.1 ?_
    refine gl_oV (hM.2 27 (by decide)).1 ?_
    refine gl_oV (hM.2 27 (by decide)).1 ?_
    replace HP := bind_ck HP
    obtain ⟨c2, HP⟩ := HP
    refine gl_ckV ⟨(hM.2 27 (by decide)).2.1, in_of (hM.2 27 (by decide)).2.2 (by decide) c2⟩ ?_
    try rw [mrd 27 c2.1] at HP
    replace HP := bind_ck HP
    obtain ⟨c3, HP⟩ := HP
    refine gl_ckV ⟨(hM.2 27 (by decide)).2.1, in_of (hM.2 27 (by decide)).2.2 (by decide) c3⟩ ?_
    try rw [mrd 27 c3.1] at HP
    replace HP := bd_n HP
    obtain ⟨e10, Eh10, HP⟩ := HP
    refine gl_sIV 27 hM f (by decide) (by first | assumption | exact And.left (by assumption) | decide) (fun h10 hM10 f10 Kh10 => ?_)
    obtain rfl : menv t h10 = e10 := mtr Kh10 Eh10
    replace HP := bd_n HP
    obtain ⟨v12, Ev12, HP⟩ := HP
    refine gl_bdvV Ev12 ?_
    exact ih hM10 f10 HP

set_option maxRecDepth 20000 in
theorem pl_X12_done_12 {t : Nat} {h0 : aH} {e' : mE} : ∀ {n : Nat} {x1 : Int32} {x2 : Int32} {x3 : Int32} {x4 : Int32} {x5 : Int32} {x6 : Int32} {h : aH}, MS t h → fr t h0 h → P_X12_done_12  n x1 x2 x3 x4 x5 x6 (menv t h) = some e' → Glv t h0 (F_X12_done_12  n t x1 x2 x3 x4 x5 x6 h) e' := by
  intro n
  induction n with
  | zero => intro x1 x2 x3 x4 x5 x6 h hM f HP; cases HP
  | succ n ih =>
  intro x1 x2 x3 x4 x5 x6 h hM f HP
  unfold P_X12_done_12 at HP
  unfold F_X12_done_12
  refine gl_iteV (fun c1 => ?_) (fun c1 => ?_)
  · replace HP := ite_T c1 HP
    refine gl_ckV hM.1 ?_
    replace HP := bd_n HP
    obtain ⟨e3, Eh3, HP⟩ := HP
    refine gl_sFV 20 hM f (fun h3 hM3 f3 Kh3 => ?_)
    obtain rfl : menv t h3 = e3 := mtr Kh3 Eh3
    exact pl_X12_done_175  hM3 f3 HP
  · replace HP := ite_F c1 HP
    refine gl_ckV hM.1 ?_
    refine gl_oV (hM.2 21 (by decide)).1 ?_
    refine gl_oV (hM.2 21 (by decide)).1 ?_
    replace HP := bind_ck HP
    obtain ⟨c2, HP⟩ := HP
    refine gl_ckV ⟨(hM.2 21 (by decide)).2.1, in_of (hM.2 21 (by decide)).2.2 (by decide) c2⟩ ?_
    try rw [mrd 21 c2.1] at HP
    replace HP := bind_ck HP
    obtain ⟨c3, HP⟩ := HP
    refine gl_ckV ⟨(hM.2 21 (by decide)).2.1, in_of (hM.2 21 (by decide)).2.2 (by decide) c3⟩ ?_
    try rw [mrd 21 c3.1] at HP
    replace HP := bd_n HP
    obtain ⟨e12, Eh12, HP⟩ := HP
    refine gl_sIV 21 hM f (by decide) (by first | assumption | exact And.left (by assumption) | decide) (fun h12 hM12 f12 Kh12 => ?_)
    obtain rfl : menv t h12 = e12 := mtr Kh12 Eh12
    refine gl_oV (hM12.2 22 (by decide)).1 ?_
    refine gl_oV (hM12.2 22 (by decide)).1 ?_
    replace HP := bind_ck HP
    obtain ⟨c4, HP⟩ := HP
    refine gl_ckV ⟨(hM12.2 22 (by decide)).2.1, in_of (hM12.2 22 (by decide)).2.2 (by decide) c4⟩ ?_
    try rw [mrd 22 c4.1] at HP
    replace HP := bind_ck HP
    obtain ⟨c5, HP⟩ := HP
    refine gl_ckV ⟨(hM12.2 22 (by decide)).2.1, in_of (hM12.2 22 (by decide)).2.2 (by decide) c5⟩ ?_
    try rw [mrd 22 c5.1] at HP
    replace HP := bd_n HP
    obtain ⟨e20, Eh20, HP⟩ := HP
    refine gl_sIV 22 hM12 f12 (by decide) (by first | assumption | exact And.left (by assumption) | decide) (fun h20 hM20 f20 Kh20 => ?_)
    obtain rfl : menv t h20 = e20 := mtr Kh20 Eh20
    refine gl_oV (hM20.2 23 (by decide)).1 ?_
    refine gl_oV (hM20.2 23 (by decide)).1 ?_
    replace HP := bind_ck HP
    obtain ⟨c6, HP⟩ := HP
    refine gl_ckV ⟨(hM20.2 23 (by decide)).2.1, in_of (hM20.2 23 (by decide)).2.2 (by decide) c6⟩ ?_
    try rw [mrd 23 c6.1] at HP
    replace HP := bind_ck HP
    obtain ⟨c7, HP⟩ := HP
    refine gl_ckV ⟨(hM20.2 23 (by decide)).2.1, in_of (hM20.2 23 (by decide)).2.2 (by decide) c7⟩ ?_
    try rw [mrd 23 c7.1] at HP
    replace HP := bd_n HP
    obtain ⟨e28, Eh28, HP⟩ := HP
    refine gl_sIV 23 hM20 f20 (by decide) (by first | assumption | exact And.left (by assumption) | decide) (fun h28 hM28 f28 Kh28 => ?_)
    obtain rfl : menv t h28 = e28 := mtr Kh28 Eh28
    refine gl_oV (hM28.2 24 (by decide)).1 ?_
    refine gl_oV (hM28.2 24 (by decide)).1 ?_
    replace HP := bind_ck HP
    obtain ⟨c8, HP⟩ := HP
    refine gl_ckV ⟨(hM28.2 24 (by decide)).2.1, in_of (hM28.2 24 (by decide)).2.2 (by decide) c8⟩ ?_
    try rw [mrd 24 c8.1] at HP
    replace HP := bind_ck HP
    obtain ⟨c9, HP⟩ := HP
    refine gl_ckV ⟨(hM28.2 24 (by decide)).2.1, in_of (hM28.2 24 (by decide)).2.2 (by decide) c9⟩ ?_
    try rw [mrd 24 c9.1] at HP
    replace HP := bd_n HP
    obtain ⟨e36, Eh36, HP⟩ := HP
    refine gl_sIV 24 hM28 f28 (by decide) (by first | assumption | exact And.left (by assumption) | decide) (fun h36 hM36 f36 Kh36 => ?_)
    obtain rfl : menv t h36 = e36 := mtr Kh36 Eh36
    refine gl_oV (hM36.2 25 (by decide)).1 ?_
    refine gl_oV (hM36.2 25 (by decide)).1 ?_
    replace HP := bind_ck HP
    obtain ⟨c10, HP⟩ := HP
    refine gl_ckV ⟨(hM36.2 25 (by decide)).2.1, in_of (hM36.2 25 (by decide)).2.2 (by decide) c10⟩ ?_
    try rw [mrd 25 c10.1] at HP
    replace HP := bind_ck HP
    obtain ⟨c11, HP⟩ := HP
    refine gl_ckV ⟨(hM36.2 25 (by decide)).2.1, in_of (hM36.2 25 (by decide)).2.2 (by decide) c11⟩ ?_
    try rw [mrd 25 c11.1] at HP
    replace HP := bd_n HP
    obtain ⟨e44, Eh44, HP⟩ := HP
    refine gl_sIV 25 hM36 f36 (by decide) (by first | assumption | exact And.left (by assumption) | decide) (fun h44 hM44 f44 Kh44 => ?_)
    obtain rfl : menv t h44 = e44 := mtr Kh44 Eh44
    refine gl_oV (hM44.2 26 (by decide)).1 ?_
    refine gl_oV (hM44.2 26 (by decide)).1 ?_
    replace HP := bind_ck HP
    obtain ⟨c12, HP⟩ := HP
    refine gl_ckV ⟨(hM44.2 26 (by decide)).2.1, in_of (hM44.2 26 (by decide)).2.2 (by decide) c12⟩ ?_
    try rw [mrd 26 c12.1] at HP
    replace HP := bind_ck HP
    obtain ⟨c13, HP⟩ := HP
    refine gl_ckV ⟨(hM44.2 26 (by decide)).2.1, in_of (hM44.2 26 (by decide)).2.2 (by decide) c13⟩ ?_
    try rw [mrd 26 c13.1] at HP
    replace HP := bd_n HP
    obtain ⟨e52, Eh52, HP⟩ := HP
    refine gl_sIV 26 hM44 f44 (by decide) (by first | assumption | exact And.left (by assumption) | decide) (fun h52 hM52 f52 Kh52 => ?_)
    obtain rfl : menv t h52 = e52 := mtr Kh52 Eh52
    exact pl_X12_done_118 (fun hm ff hp => ih hm ff hp) hM52 f52 HP

set_option maxRecDepth 20000 in
theorem pl_X12_done {t : Nat} {h0 : aH} {e' : mE} {x1 : Int32} {x2 : Int32} {x3 : Int32} {x4 : Int32} {x5 : Int32} {h : aH} (hM : MS t h) (f : fr t h0 h) (HP : P_X12_done  x1 x2 x3 x4 x5 (menv t h) = some e') : Glv t h0 (F_X12_done  t x1 x2 x3 x4 x5 h) e' := by
  unfold P_X12_done at HP
  unfold F_X12_done
  refine gl_iteV (fun c1 => ?_) (fun c1 => ?_)
  · replace HP := ite_T c1 HP
    exact pl_X12_done_12  hM f HP
  · replace HP := ite_F c1 HP
    exact pl_X12_done_175  hM f HP

set_option maxRecDepth 20000 in
theorem pl_X12_keepRow_19 {t : Nat} {h0 : aH} {e' : mE} : ∀ {n : Nat} {x1 : Int32} {x2 : Int32} {h : aH}, MS t h → fr t h0 h → P_X12_keepRow_19  n x1 x2 (menv t h) = some e' → Glv t h0 (F_X12_keepRow_19  n t x1 x2 h) e' := by
  intro n
  induction n with
  | zero => intro x1 x2 h hM f HP; cases HP
  | succ n ih =>
  intro x1 x2 h hM f HP
  unfold P_X12_keepRow_19 at HP
  unfold F_X12_keepRow_19
  refine gl_ckV hM.1 ?_
  refine gl_oV (hM.2 13 (by decide)).1 ?_
  replace HP := bind_ck HP
  obtain ⟨c1, HP⟩ := HP
  refine gl_ckV ⟨(hM.2 13 (by decide)).2.1, in_of (hM.2 13 (by decide)).2.2 (by decide) c1⟩ ?_
  try rw [mrd 13 c1.1] at HP
  refine gl_iteV (fun c2 => ?_) (fun c2 => ?_)
  · replace HP := ite_T c2 HP
    exact gl_endv hM f HP
  · replace HP := ite_F c2 HP
    refine gl_oV (hM.2 27 (by decide)).1 ?_
    refine gl_oV (hM.2 14 (by decide)).1 ?_
    replace HP := bind_ck HP
    obtain ⟨c3, HP⟩ := HP
    refine gl_ckV ⟨(hM.2 14 (by decide)).2.1, in_of (hM.2 14 (by decide)).2.2 (by decide) c3⟩ ?_
    try rw [mrd 14 c3.1] at HP
    replace HP := bind_ck HP
    obtain ⟨c4, HP⟩ := HP
    refine gl_ckV ⟨(hM.2 27 (by decide)).2.1, in_of (hM.2 27 (by decide)).2.2 (by decide) c4⟩ ?_
    try rw [mrd 27 c4.1] at HP
    replace HP := bd_n HP
    obtain ⟨e12, Eh12, HP⟩ := HP
    refine gl_sIV 27 hM f (by decide) (by first | assumption | exact And.left (by assumption) | decide) (fun h12 hM12 f12 Kh12 => ?_)
    obtain rfl : menv t h12 = e12 := mtr Kh12 Eh12
    replace HP := bd_n HP
    obtain ⟨v14, Ev14, HP⟩ := HP
    refine gl_bdvV Ev14 ?_
    exact ih hM12 f12 HP

set_option maxRecDepth 20000 in
theorem pl_X12_keepRow {t : Nat} {h0 : aH} {e' : mE} {x1 : Int32} {h : aH} (hM : MS t h) (f : fr t h0 h) (HP : P_X12_keepRow  x1 (menv t h) = some e') : Glv t h0 (F_X12_keepRow  t x1 h) e' := by
  unfold P_X12_keepRow at HP
  unfold F_X12_keepRow
  refine gl_oV (hM.2 26 (by decide)).1 ?_
  refine gl_oV (hM.2 13 (by decide)).1 ?_
  replace HP := bind_ck HP
  obtain ⟨c1, HP⟩ := HP
  refine gl_ckV ⟨(hM.2 13 (by decide)).2.1, in_of (hM.2 13 (by decide)).2.2 (by decide) c1⟩ ?_
  try rw [mrd 13 c1.1] at HP
  replace HP := bind_ck HP
  obtain ⟨c2, HP⟩ := HP
  refine gl_ckV ⟨(hM.2 26 (by decide)).2.1, in_of (hM.2 26 (by decide)).2.2 (by decide) c2⟩ ?_
  try rw [mrd 26 c2.1] at HP
  replace HP := bd_n HP
  obtain ⟨e7, Eh7, HP⟩ := HP
  refine gl_sIV 26 hM f (by decide) (by first | assumption | exact And.left (by assumption) | decide) (fun h7 hM7 f7 Kh7 => ?_)
  obtain rfl : menv t h7 = e7 := mtr Kh7 Eh7
  exact pl_X12_keepRow_19  hM7 f7 HP

set_option maxRecDepth 20000 in
theorem pl_X12_newRow {t : Nat} {h0 : aH} {r : Int32} {e' : mE} {x1 : Int32} {x2 : Int32} {h : aH} (hM : MS t h) (f : fr t h0 h) (HP : P_X12_newRow  x1 x2 (menv t h) = some (r, e')) : Gl t h0 (F_X12_newRow  t x1 x2 h) r e' := by
  unfold P_X12_newRow at HP
  unfold F_X12_newRow
  refine gl_o (hM.2 12 (by decide)).1 ?_
  replace HP := bind_ck HP
  obtain ⟨c1, HP⟩ := HP
  refine gl_ck ⟨(hM.2 12 (by decide)).2.1, in_of (hM.2 12 (by decide)).2.2 (by decide) c1⟩ ?_
  try rw [mrd 12 c1.1] at HP
  replace HP := bd_n HP
  obtain ⟨e4, Eh4, HP⟩ := HP
  refine gl_sI 12 hM f (by decide) (by first | assumption | exact And.left (by assumption) | decide) (fun h4 hM4 f4 Kh4 => ?_)
  obtain rfl : menv t h4 = e4 := mtr Kh4 Eh4
  refine gl_o (hM4.2 13 (by decide)).1 ?_
  replace HP := bind_ck HP
  obtain ⟨c2, HP⟩ := HP
  refine gl_ck ⟨(hM4.2 13 (by decide)).2.1, in_of (hM4.2 13 (by decide)).2.2 (by decide) c2⟩ ?_
  try rw [mrd 13 c2.1] at HP
  replace HP := bd_n HP
  obtain ⟨e9, Eh9, HP⟩ := HP
  refine gl_sI 13 hM4 f4 (by decide) (by first | assumption | exact And.left (by assumption) | decide) (fun h9 hM9 f9 Kh9 => ?_)
  obtain rfl : menv t h9 = e9 := mtr Kh9 Eh9
  replace HP := bd_n HP
  obtain ⟨e11, Eh11, HP⟩ := HP
  refine gl_sF 11 hM9 f9 (fun h11 hM11 f11 Kh11 => ?_)
  obtain rfl : menv t h11 = e11 := mtr Kh11 Eh11
  exact gl_end hM11 f11 HP

set_option maxRecDepth 20000 in
theorem pl_X12_turn_85 {t : Nat} {h0 : aH} {r : Int32} {e' : mE} {x1 : Int32} {h : aH} (hM : MS t h) (f : fr t h0 h) (HP : P_X12_turn_85  x1 (menv t h) = some (r, e')) : Gl t h0 (F_X12_turn_85  t x1 h) r e' := by
  unfold P_X12_turn_85 at HP
  unfold F_X12_turn_85
  refine gl_ck hM.1 ?_
  refine gl_ite (fun c1 => ?_) (fun c1 => ?_)
  · replace HP := ite_T c1 HP
    refine gl_o (hM.2 9 (by decide)).1 ?_
    refine gl_o (hM.2 8 (by decide)).1 ?_
    replace HP := bind_ck HP
    obtain ⟨c2, HP⟩ := HP
    refine gl_ck ⟨(hM.2 8 (by decide)).2.1, in_of (hM.2 8 (by decide)).2.2 (by decide) c2⟩ ?_
    try rw [mrd 8 c2.1] at HP
    replace HP := bind_ck HP
    obtain ⟨c3, HP⟩ := HP
    refine gl_ck ⟨(hM.2 9 (by decide)).2.1, in_of (hM.2 9 (by decide)).2.2 (by decide) c3⟩ ?_
    try rw [mrd 9 c3.1] at HP
    replace HP := bd_n HP
    obtain ⟨e9, Eh9, HP⟩ := HP
    refine gl_sI 9 hM f (by decide) (by first | assumption | exact And.left (by assumption) | decide) (fun h9 hM9 f9 Kh9 => ?_)
    obtain rfl : menv t h9 = e9 := mtr Kh9 Eh9
    refine gl_o (hM9.2 8 (by decide)).1 ?_
    replace HP := bind_ck HP
    obtain ⟨c4, HP⟩ := HP
    refine gl_ck ⟨(hM9.2 8 (by decide)).2.1, in_of (hM9.2 8 (by decide)).2.2 (by decide) c4⟩ ?_
    try rw [mrd 8 c4.1] at HP
    replace HP := bd_n HP
    obtain ⟨e14, Eh14, HP⟩ := HP
    refine gl_sI 8 hM9 f9 (by decide) (by first | assumption | exact And.left (by assumption) | decide) (fun h14 hM14 f14 Kh14 => ?_)
    obtain rfl : menv t h14 = e14 := mtr Kh14 Eh14
    replace HP := bind_o HP
    obtain ⟨e17, E5, HP⟩ := HP
    obtain ⟨h17, F6, rfl, hM17, gh17⟩ := pl_X12_done (t := t) hM14 (fr.refl _ _) E5
    have f17 := f14.trans gh17
    refine gl_o F6 ?_
    exact gl_end hM17 f17 HP
  · replace HP := ite_F c1 HP
    exact gl_end hM f HP

set_option maxRecDepth 20000 in
theorem pl_X12_turn_74 {t : Nat} {h0 : aH} {r : Int32} {e' : mE} {x1 : Int32} {h : aH} (hM : MS t h) (f : fr t h0 h) (HP : P_X12_turn_74  x1 (menv t h) = some (r, e')) : Gl t h0 (F_X12_turn_74  t x1 h) r e' := by
  unfold P_X12_turn_74 at HP
  unfold F_X12_turn_74
  exact pl_X12_turn_85  hM f HP

set_option maxRecDepth 20000 in
theorem pl_X12_turn_62 {t : Nat} {h0 : aH} {r : Int32} {e' : mE} {x1 : Int32} {h : aH} (hM : MS t h) (f : fr t h0 h) (HP : P_X12_turn_62  x1 (menv t h) = some (r, e')) : Gl t h0 (F_X12_turn_62  t x1 h) r e' := by
  unfold P_X12_turn_62 at HP
  unfold F_X12_turn_62
  refine gl_ck hM.1 ?_
  refine gl_ite (fun c1 => ?_) (fun c1 => ?_)
  · replace HP := ite_T c1 HP
    exact pl_X12_turn_74  hM f HP
  · replace HP := ite_F c1 HP
    replace HP := bd_n HP
    obtain ⟨e3, Eh3, HP⟩ := HP
    refine gl_sF 19 hM f (fun h3 hM3 f3 Kh3 => ?_)
    obtain rfl : menv t h3 = e3 := mtr Kh3 Eh3
    exact pl_X12_turn_74  hM3 f3 HP

set_option maxRecDepth 20000 in
theorem pl_X12_turn {t : Nat} {h0 : aH} {r : Int32} {e' : mE} {x1 : Int32} {h : aH} (hM : MS t h) (f : fr t h0 h) (HP : P_X12_turn  x1 (menv t h) = some (r, e')) : Gl t h0 (F_X12_turn  t x1 h) r e' := by
  unfold P_X12_turn at HP
  unfold F_X12_turn
  replace HP := bd_n HP
  obtain ⟨e1, Eh1, HP⟩ := HP
  refine gl_sF 0 hM f (fun h1 hM1 f1 Kh1 => ?_)
  obtain rfl : menv t h1 = e1 := mtr Kh1 Eh1
  replace HP := bd_n HP
  obtain ⟨e3, Eh3, HP⟩ := HP
  refine gl_sF 19 hM1 f1 (fun h3 hM3 f3 Kh3 => ?_)
  obtain rfl : menv t h3 = e3 := mtr Kh3 Eh3
  replace HP := bind_o HP
  obtain ⟨⟨z7, e6⟩, E1, HP⟩ := HP
  obtain ⟨h6, F2, rfl, hM6, gh6⟩ := pl_X12_isGame (t := t) hM3 (fr.refl _ _) E1
  have f6 := f3.trans gh6
  refine gl_o F2 (gl_bd (gl_bd ?_))
  replace HP := bd_o (bd_o HP)
  dsimp only at HP ⊢
  refine gl_ite (fun c3 => ?_) (fun c3 => ?_)
  · replace HP := ite_T c3 HP
    exact gl_end hM6 f6 HP
  · replace HP := ite_F c3 HP
    refine gl_ck hM6.1 ?_
    replace HP := bind_o HP
    obtain ⟨e12, E4, HP⟩ := HP
    obtain ⟨h12, F5, rfl, hM12, gh12⟩ := pl_X12_play (t := t) hM6 (fr.refl _ _) E4
    have f12 := f6.trans gh12
    refine gl_o F5 ?_
    refine gl_ck hM12.1 ?_
    refine gl_ite (fun c6 => ?_) (fun c6 => ?_)
    · replace HP := ite_T c6 HP
      refine gl_o (hM12.2 8 (by decide)).1 ?_
      replace HP := bind_ck HP
      obtain ⟨c7, HP⟩ := HP
      refine gl_ck ⟨(hM12.2 8 (by decide)).2.1, in_of (hM12.2 8 (by decide)).2.2 (by decide) c7⟩ ?_
      try rw [mrd 8 c7.1] at HP
      replace HP := bd_n HP
      obtain ⟨v19, Ev19, HP⟩ := HP
      refine gl_bdv Ev19 ?_
      refine gl_ite (fun c8 => ?_) (fun c8 => ?_)
      · replace HP := ite_T c8 HP
        exact pl_X12_turn_62  hM12 f12 HP
      · replace HP := ite_F c8 HP
        refine gl_o (hM12.2 41 (by decide)).1 ?_
        replace HP := bind_ck HP
        obtain ⟨c9, HP⟩ := HP
        refine gl_ck ⟨(hM12.2 41 (by decide)).2.1, in_of (hM12.2 41 (by decide)).2.2 (by decide) c9⟩ ?_
        try rw [mrd 41 c9.1] at HP
        refine gl_ite (fun c10 => ?_) (fun c10 => ?_)
        · replace HP := ite_T c10 HP
          replace HP := bd_n HP
          obtain ⟨e25, Eh25, HP⟩ := HP
          refine gl_sF 19 hM12 f12 (fun h25 hM25 f25 Kh25 => ?_)
          obtain rfl : menv t h25 = e25 := mtr Kh25 Eh25
          exact pl_X12_turn_74  hM25 f25 HP
        · replace HP := ite_F c10 HP
          exact pl_X12_turn_62  hM12 f12 HP
    · replace HP := ite_F c6 HP
      replace HP := bd_n HP
      obtain ⟨e27, Eh27, HP⟩ := HP
      refine gl_sF 19 hM12 f12 (fun h27 hM27 f27 Kh27 => ?_)
      obtain rfl : menv t h27 = e27 := mtr Kh27 Eh27
      exact pl_X12_turn_85  hM27 f27 HP

set_option maxRecDepth 20000 in
theorem pl_X12_over_163 {t : Nat} {h0 : aH} {r : Int32} {e' : mE} {x1 : Int32} {x2 : Int32} {x3 : Int32} {h : aH} (hM : MS t h) (f : fr t h0 h) (HP : P_X12_over_163  x1 x2 x3 (menv t h) = some (r, e')) : Gl t h0 (F_X12_over_163  t x1 x2 x3 h) r e' := by
  unfold P_X12_over_163 at HP
  unfold F_X12_over_163
  refine gl_ck hM.1 ?_
  refine gl_ite (fun c1 => ?_) (fun c1 => ?_)
  · replace HP := ite_T c1 HP
    refine gl_o (hM.2 10 (by decide)).1 ?_
    refine gl_o (hM.2 9 (by decide)).1 ?_
    replace HP := bind_ck HP
    obtain ⟨c2, HP⟩ := HP
    refine gl_ck ⟨(hM.2 9 (by decide)).2.1, in_of (hM.2 9 (by decide)).2.2 (by decide) c2⟩ ?_
    try rw [mrd 9 c2.1] at HP
    replace HP := bind_o HP
    obtain ⟨⟨z10, e9⟩, E3, HP⟩ := HP
    obtain ⟨h9, F4, rfl, hM9, gh9⟩ := pl_X12_newRow (t := t) hM (fr.refl _ _) E3
    have f9 := f.trans gh9
    refine gl_o F4 (gl_bd (gl_bd ?_))
    replace HP := bd_o (bd_o HP)
    dsimp only at HP ⊢
    replace HP := bind_ck HP
    obtain ⟨c5, HP⟩ := HP
    refine gl_ck ⟨(hM9.2 10 (by decide)).2.1, in_of (hM9.2 10 (by decide)).2.2 (by decide) c5⟩ ?_
    try rw [mrd 10 c5.1] at HP
    replace HP := bd_n HP
    obtain ⟨e13, Eh13, HP⟩ := HP
    refine gl_sI 10 hM9 f9 (by decide) (by first | assumption | exact And.left (by assumption) | decide) (fun h13 hM13 f13 Kh13 => ?_)
    obtain rfl : menv t h13 = e13 := mtr Kh13 Eh13
    refine gl_ck hM13.1 ?_
    refine gl_o (hM13.2 9 (by decide)).1 ?_
    replace HP := bind_ck HP
    obtain ⟨c6, HP⟩ := HP
    refine gl_ck ⟨(hM13.2 9 (by decide)).2.1, in_of (hM13.2 9 (by decide)).2.2 (by decide) c6⟩ ?_
    try rw [mrd 9 c6.1] at HP
    replace HP := bd_n HP
    obtain ⟨e18, Eh18, HP⟩ := HP
    refine gl_sI 9 hM13 f13 (by decide) (by first | assumption | exact And.left (by assumption) | decide) (fun h18 hM18 f18 Kh18 => ?_)
    obtain rfl : menv t h18 = e18 := mtr Kh18 Eh18
    replace HP := bind_o HP
    obtain ⟨e21, E7, HP⟩ := HP
    obtain ⟨h21, F8, rfl, hM21, gh21⟩ := pl_X12_done (t := t) hM18 (fr.refl _ _) E7
    have f21 := f18.trans gh21
    refine gl_o F8 ?_
    exact gl_end hM21 f21 HP
  · replace HP := ite_F c1 HP
    exact gl_end hM f HP

set_option maxRecDepth 20000 in
theorem pl_X12_over_107 {t : Nat} {h0 : aH} {r : Int32} {e' : mE} {x1 : Int32} {x2 : Int32} {x3 : Int32} {h : aH} (hM : MS t h) (f : fr t h0 h) (HP : P_X12_over_107  x1 x2 x3 (menv t h) = some (r, e')) : Gl t h0 (F_X12_over_107  t x1 x2 x3 h) r e' := by
  unfold P_X12_over_107 at HP
  unfold F_X12_over_107
  refine gl_ck hM.1 ?_
  replace HP := bd_n HP
  obtain ⟨e2, Eh2, HP⟩ := HP
  refine gl_sF 19 hM f (fun h2 hM2 f2 Kh2 => ?_)
  obtain rfl : menv t h2 = e2 := mtr Kh2 Eh2
  exact pl_X12_over_163  hM2 f2 HP

set_option maxRecDepth 20000 in
theorem pl_X12_over_89 {t : Nat} {h0 : aH} {r : Int32} {e' : mE} {x1 : Int32} {x2 : Int32} {x3 : Int32} {h : aH} (hM : MS t h) (f : fr t h0 h) (HP : P_X12_over_89  x1 x2 x3 (menv t h) = some (r, e')) : Gl t h0 (F_X12_over_89  t x1 x2 x3 h) r e' := by
  unfold P_X12_over_89 at HP
  unfold F_X12_over_89
  refine gl_ck hM.1 ?_
  replace HP := bd_n HP
  obtain ⟨e2, Eh2, HP⟩ := HP
  refine gl_sF 19 hM f (fun h2 hM2 f2 Kh2 => ?_)
  obtain rfl : menv t h2 = e2 := mtr Kh2 Eh2
  exact pl_X12_over_163  hM2 f2 HP

set_option maxRecDepth 20000 in
theorem pl_X12_over {t : Nat} {h0 : aH} {r : Int32} {e' : mE} {x1 : Int32} {x2 : Int32} {h : aH} (hM : MS t h) (f : fr t h0 h) (HP : P_X12_over  x1 x2 (menv t h) = some (r, e')) : Gl t h0 (F_X12_over  t x1 x2 h) r e' := by
  unfold P_X12_over at HP
  unfold F_X12_over
  replace HP := bd_n HP
  obtain ⟨e1, Eh1, HP⟩ := HP
  refine gl_sF 0 hM f (fun h1 hM1 f1 Kh1 => ?_)
  obtain rfl : menv t h1 = e1 := mtr Kh1 Eh1
  replace HP := bd_n HP
  obtain ⟨e3, Eh3, HP⟩ := HP
  refine gl_sF 19 hM1 f1 (fun h3 hM3 f3 Kh3 => ?_)
  obtain rfl : menv t h3 = e3 := mtr Kh3 Eh3
  replace HP := bind_o HP
  obtain ⟨⟨z7, e6⟩, E1, HP⟩ := HP
  obtain ⟨h6, F2, rfl, hM6, gh6⟩ := pl_X12_isGame (t := t) hM3 (fr.refl _ _) E1
  have f6 := f3.trans gh6
  refine gl_o F2 (gl_bd (gl_bd ?_))
  replace HP := bd_o (bd_o HP)
  dsimp only at HP ⊢
  refine gl_ite (fun c3 => ?_) (fun c3 => ?_)
  · replace HP := ite_T c3 HP
    exact gl_end hM6 f6 HP
  · replace HP := ite_F c3 HP
    refine gl_ck hM6.1 ?_
    replace HP := bind_o HP
    obtain ⟨e12, E4, HP⟩ := HP
    obtain ⟨h12, F5, rfl, hM12, gh12⟩ := pl_X12_play (t := t) hM6 (fr.refl _ _) E4
    have f12 := f6.trans gh12
    refine gl_o F5 ?_
    refine gl_ck hM12.1 ?_
    refine gl_o (hM12.2 8 (by decide)).1 ?_
    replace HP := bind_ck HP
    obtain ⟨c6, HP⟩ := HP
    refine gl_ck ⟨(hM12.2 8 (by decide)).2.1, in_of (hM12.2 8 (by decide)).2.2 (by decide) c6⟩ ?_
    try rw [mrd 8 c6.1] at HP
    replace HP := bd_n HP
    obtain ⟨v18, Ev18, HP⟩ := HP
    refine gl_bdv Ev18 ?_
    refine gl_ite (fun c7 => ?_) (fun c7 => ?_)
    · replace HP := ite_T c7 HP
      refine gl_ite (fun c8 => ?_) (fun c8 => ?_)
      · replace HP := ite_T c8 HP
        refine gl_o (hM12.2 41 (by decide)).1 ?_
        replace HP := bind_ck HP
        obtain ⟨c9, HP⟩ := HP
        refine gl_ck ⟨(hM12.2 41 (by decide)).2.1, in_of (hM12.2 41 (by decide)).2.2 (by decide) c9⟩ ?_
        try rw [mrd 41 c9.1] at HP
        refine gl_ite (fun c10 => ?_) (fun c10 => ?_)
        · replace HP := ite_T c10 HP
          refine gl_o (hM12.2 44 (by decide)).1 ?_
          replace HP := bind_ck HP
          obtain ⟨c11, HP⟩ := HP
          refine gl_ck ⟨(hM12.2 44 (by decide)).2.1, in_of (hM12.2 44 (by decide)).2.2 (by decide) c11⟩ ?_
          try rw [mrd 44 c11.1] at HP
          refine gl_o (hM12.2 40 (by decide)).1 ?_
          replace HP := bind_ck HP
          obtain ⟨c12, HP⟩ := HP
          refine gl_ck ⟨(hM12.2 40 (by decide)).2.1, in_of (hM12.2 40 (by decide)).2.2 (by decide) c12⟩ ?_
          try rw [mrd 40 c12.1] at HP
          refine gl_ite (fun c13 => ?_) (fun c13 => ?_)
          · replace HP := ite_T c13 HP
            exact pl_X12_over_89  hM12 f12 HP
          · replace HP := ite_F c13 HP
            refine gl_ite (fun c14 => ?_) (fun c14 => ?_)
            · replace HP := ite_T c14 HP
              exact pl_X12_over_107  hM12 f12 HP
            · replace HP := ite_F c14 HP
              refine gl_ite (fun c15 => ?_) (fun c15 => ?_)
              · replace HP := ite_T c15 HP
                refine gl_o (hM12.2 51 (by decide)).1 ?_
                replace HP := bind_ck HP
                obtain ⟨c16, HP⟩ := HP
                refine gl_ck ⟨(hM12.2 51 (by decide)).2.1, in_of (hM12.2 51 (by decide)).2.2 (by decide) c16⟩ ?_
                try rw [mrd 51 c16.1] at HP
                refine gl_ite (fun c17 => ?_) (fun c17 => ?_)
                · replace HP := ite_T c17 HP
                  replace HP := bd_n HP
                  obtain ⟨e38, Eh38, HP⟩ := HP
                  refine gl_sF 19 hM12 f12 (fun h38 hM38 f38 Kh38 => ?_)
                  obtain rfl : menv t h38 = e38 := mtr Kh38 Eh38
                  exact pl_X12_over_163  hM38 f38 HP
                · replace HP := ite_F c17 HP
                  refine gl_o (hM12.2 56 (by decide)).1 ?_
                  replace HP := bind_ck HP
                  obtain ⟨c18, HP⟩ := HP
                  refine gl_ck ⟨(hM12.2 56 (by decide)).2.1, in_of (hM12.2 56 (by decide)).2.2 (by decide) c18⟩ ?_
                  try rw [mrd 56 c18.1] at HP
                  refine gl_o (hM12.2 5 (by decide)).1 ?_
                  replace HP := bind_ck HP
                  obtain ⟨c19, HP⟩ := HP
                  refine gl_ck ⟨(hM12.2 5 (by decide)).2.1, in_of (hM12.2 5 (by decide)).2.2 (by decide) c19⟩ ?_
                  try rw [mrd 5 c19.1] at HP
                  refine gl_ite (fun c20 => ?_) (fun c20 => ?_)
                  · replace HP := ite_T c20 HP
                    replace HP := bd_n HP
                    obtain ⟨e47, Eh47, HP⟩ := HP
                    refine gl_sF 19 hM12 f12 (fun h47 hM47 f47 Kh47 => ?_)
                    obtain rfl : menv t h47 = e47 := mtr Kh47 Eh47
                    exact pl_X12_over_163  hM47 f47 HP
                  · replace HP := ite_F c20 HP
                    exact pl_X12_over_163  hM12 f12 HP
              · replace HP := ite_F c15 HP
                exact pl_X12_over_107  hM12 f12 HP
        · replace HP := ite_F c10 HP
          exact pl_X12_over_89  hM12 f12 HP
      · replace HP := ite_F c8 HP
        replace HP := bd_n HP
        obtain ⟨e49, Eh49, HP⟩ := HP
        refine gl_sF 19 hM12 f12 (fun h49 hM49 f49 Kh49 => ?_)
        obtain rfl : menv t h49 = e49 := mtr Kh49 Eh49
        exact pl_X12_over_163  hM49 f49 HP
    · replace HP := ite_F c7 HP
      replace HP := bd_n HP
      obtain ⟨e51, Eh51, HP⟩ := HP
      refine gl_sF 19 hM12 f12 (fun h51 hM51 f51 Kh51 => ?_)
      obtain rfl : menv t h51 = e51 := mtr Kh51 Eh51
      exact pl_X12_over_163  hM51 f51 HP

set_option maxRecDepth 20000 in
theorem pl_X12_ball_169 {t : Nat} {h0 : aH} {r : Int32} {e' : mE} {x1 : Int32} {x4 : Int32} {x5 : Int32} {h : aH} (hM : MS t h) (f : fr t h0 h) (HP : P_X12_ball_169  x1 x4 x5 (menv t h) = some (r, e')) : Gl t h0 (F_X12_ball_169  t x1 x4 x5 h) r e' := by
  unfold P_X12_ball_169 at HP
  unfold F_X12_ball_169
  refine gl_ck hM.1 ?_
  refine gl_ite (fun c1 => ?_) (fun c1 => ?_)
  · replace HP := ite_T c1 HP
    refine gl_o (hM.2 14 (by decide)).1 ?_
    refine gl_o (hM.2 13 (by decide)).1 ?_
    replace HP := bind_ck HP
    obtain ⟨c2, HP⟩ := HP
    refine gl_ck ⟨(hM.2 13 (by decide)).2.1, in_of (hM.2 13 (by decide)).2.2 (by decide) c2⟩ ?_
    try rw [mrd 13 c2.1] at HP
    replace HP := bind_ck HP
    obtain ⟨c3, HP⟩ := HP
    refine gl_ck ⟨(hM.2 14 (by decide)).2.1, in_of (hM.2 14 (by decide)).2.2 (by decide) c3⟩ ?_
    try rw [mrd 14 c3.1] at HP
    replace HP := bd_n HP
    obtain ⟨e9, Eh9, HP⟩ := HP
    refine gl_sI 14 hM f (by decide) (by first | assumption | exact And.left (by assumption) | decide) (fun h9 hM9 f9 Kh9 => ?_)
    obtain rfl : menv t h9 = e9 := mtr Kh9 Eh9
    refine gl_o (hM9.2 13 (by decide)).1 ?_
    replace HP := bind_ck HP
    obtain ⟨c4, HP⟩ := HP
    refine gl_ck ⟨(hM9.2 13 (by decide)).2.1, in_of (hM9.2 13 (by decide)).2.2 (by decide) c4⟩ ?_
    try rw [mrd 13 c4.1] at HP
    replace HP := bd_n HP
    obtain ⟨e14, Eh14, HP⟩ := HP
    refine gl_sI 13 hM9 f9 (by decide) (by first | assumption | exact And.left (by assumption) | decide) (fun h14 hM14 f14 Kh14 => ?_)
    obtain rfl : menv t h14 = e14 := mtr Kh14 Eh14
    refine gl_o (hM14.2 13 (by decide)).1 ?_
    replace HP := bind_ck HP
    obtain ⟨c5, HP⟩ := HP
    refine gl_ck ⟨(hM14.2 13 (by decide)).2.1, in_of (hM14.2 13 (by decide)).2.2 (by decide) c5⟩ ?_
    try rw [mrd 13 c5.1] at HP
    replace HP := bind_o HP
    obtain ⟨e20, E6, HP⟩ := HP
    obtain ⟨h20, F7, rfl, hM20, gh20⟩ := pl_X12_done (t := t) hM14 (fr.refl _ _) E6
    have f20 := f14.trans gh20
    refine gl_o F7 ?_
    exact gl_end hM20 f20 HP
  · replace HP := ite_F c1 HP
    exact gl_end hM f HP

set_option maxRecDepth 20000 in
theorem pl_X12_ball_117 {t : Nat} {h0 : aH} {r : Int32} {e' : mE} {x1 : Int32} {x4 : Int32} {x5 : Int32} {h : aH} (hM : MS t h) (f : fr t h0 h) (HP : P_X12_ball_117  x1 x4 x5 (menv t h) = some (r, e')) : Gl t h0 (F_X12_ball_117  t x1 x4 x5 h) r e' := by
  unfold P_X12_ball_117 at HP
  unfold F_X12_ball_117
  refine gl_ck hM.1 ?_
  replace HP := bd_n HP
  obtain ⟨e2, Eh2, HP⟩ := HP
  refine gl_sF 19 hM f (fun h2 hM2 f2 Kh2 => ?_)
  obtain rfl : menv t h2 = e2 := mtr Kh2 Eh2
  exact pl_X12_ball_169  hM2 f2 HP

set_option maxRecDepth 20000 in
theorem pl_X12_ball_73 {t : Nat} {h0 : aH} {r : Int32} {e' : mE} {x1 : Int32} {x2 : Int32} {x3 : Int32} {y0 : Int32} {h : aH} (hM : MS t h) (f : fr t h0 h) (HP : P_X12_ball_73  x1 x2 x3 y0 (menv t h) = some (r, e')) : Gl t h0 (F_X12_ball_73  t x1 x2 x3 y0 h) r e' := by
  unfold P_X12_ball_73 at HP
  unfold F_X12_ball_73
  replace HP := bd_n HP
  obtain ⟨v1, Ev1, HP⟩ := HP
  refine gl_bdv Ev1 ?_
  refine gl_ck hM.1 ?_
  refine gl_ite (fun c1 => ?_) (fun c1 => ?_)
  · replace HP := ite_T c1 HP
    refine gl_ite (fun c2 => ?_) (fun c2 => ?_)
    · replace HP := ite_T c2 HP
      exact pl_X12_ball_117  hM f HP
    · replace HP := ite_F c2 HP
      refine gl_o (hM.2 13 (by decide)).1 ?_
      replace HP := bind_ck HP
      obtain ⟨c3, HP⟩ := HP
      refine gl_ck ⟨(hM.2 13 (by decide)).2.1, in_of (hM.2 13 (by decide)).2.2 (by decide) c3⟩ ?_
      try rw [mrd 13 c3.1] at HP
      refine gl_ite (fun c4 => ?_) (fun c4 => ?_)
      · replace HP := ite_T c4 HP
        exact pl_X12_ball_117  hM f HP
      · replace HP := ite_F c4 HP
        refine gl_o (hM.2 13 (by decide)).1 ?_
        replace HP := bind_ck HP
        obtain ⟨c5, HP⟩ := HP
        refine gl_ck ⟨(hM.2 13 (by decide)).2.1, in_of (hM.2 13 (by decide)).2.2 (by decide) c5⟩ ?_
        try rw [mrd 13 c5.1] at HP
        refine gl_ite (fun c6 => ?_) (fun c6 => ?_)
        · replace HP := ite_T c6 HP
          replace HP := bd_n HP
          obtain ⟨e13, Eh13, HP⟩ := HP
          refine gl_sF 19 hM f (fun h13 hM13 f13 Kh13 => ?_)
          obtain rfl : menv t h13 = e13 := mtr Kh13 Eh13
          exact pl_X12_ball_169  hM13 f13 HP
        · replace HP := ite_F c6 HP
          replace HP := bind_o HP
          obtain ⟨⟨z17, e16⟩, E7, HP⟩ := HP
          obtain ⟨h16, F8, rfl, hM16, gh16⟩ := pl_X12_against (t := t) hM (fr.refl _ _) E7
          have f16 := f.trans gh16
          refine gl_o F8 (gl_bd (gl_bd ?_))
          replace HP := bd_o (bd_o HP)
          dsimp only at HP ⊢
          refine gl_ck hM16.1 ?_
          replace HP := bd_n HP
          obtain ⟨e20, Eh20, HP⟩ := HP
          refine gl_sF 19 hM16 f16 (fun h20 hM20 f20 Kh20 => ?_)
          obtain rfl : menv t h20 = e20 := mtr Kh20 Eh20
          exact pl_X12_ball_169  hM20 f20 HP
  · replace HP := ite_F c1 HP
    replace HP := bd_n HP
    obtain ⟨e22, Eh22, HP⟩ := HP
    refine gl_sF 19 hM f (fun h22 hM22 f22 Kh22 => ?_)
    obtain rfl : menv t h22 = e22 := mtr Kh22 Eh22
    exact pl_X12_ball_169  hM22 f22 HP

set_option maxRecDepth 20000 in
theorem pl_X12_ball_51 {t : Nat} {h0 : aH} {r : Int32} {e' : mE} {x1 : Int32} {x2 : Int32} {x3 : Int32} {h : aH} (hM : MS t h) (f : fr t h0 h) (HP : P_X12_ball_51  x1 x2 x3 (menv t h) = some (r, e')) : Gl t h0 (F_X12_ball_51  t x1 x2 x3 h) r e' := by
  unfold P_X12_ball_51 at HP
  unfold F_X12_ball_51
  exact pl_X12_ball_73  hM f HP

set_option maxRecDepth 20000 in
theorem pl_X12_ball {t : Nat} {h0 : aH} {r : Int32} {e' : mE} {x1 : Int32} {x2 : Int32} {h : aH} (hM : MS t h) (f : fr t h0 h) (HP : P_X12_ball  x1 x2 (menv t h) = some (r, e')) : Gl t h0 (F_X12_ball  t x1 x2 h) r e' := by
  unfold P_X12_ball at HP
  unfold F_X12_ball
  replace HP := bd_n HP
  obtain ⟨e1, Eh1, HP⟩ := HP
  refine gl_sF 0 hM f (fun h1 hM1 f1 Kh1 => ?_)
  obtain rfl : menv t h1 = e1 := mtr Kh1 Eh1
  replace HP := bd_n HP
  obtain ⟨e3, Eh3, HP⟩ := HP
  refine gl_sF 19 hM1 f1 (fun h3 hM3 f3 Kh3 => ?_)
  obtain rfl : menv t h3 = e3 := mtr Kh3 Eh3
  replace HP := bind_o HP
  obtain ⟨⟨z7, e6⟩, E1, HP⟩ := HP
  obtain ⟨h6, F2, rfl, hM6, gh6⟩ := pl_X12_isGame (t := t) hM3 (fr.refl _ _) E1
  have f6 := f3.trans gh6
  refine gl_o F2 (gl_bd (gl_bd ?_))
  replace HP := bd_o (bd_o HP)
  dsimp only at HP ⊢
  refine gl_ite (fun c3 => ?_) (fun c3 => ?_)
  · replace HP := ite_T c3 HP
    exact gl_end hM6 f6 HP
  · replace HP := ite_F c3 HP
    refine gl_ck hM6.1 ?_
    replace HP := bind_o HP
    obtain ⟨e12, E4, HP⟩ := HP
    obtain ⟨h12, F5, rfl, hM12, gh12⟩ := pl_X12_play (t := t) hM6 (fr.refl _ _) E4
    have f12 := f6.trans gh12
    refine gl_o F5 ?_
    refine gl_ck hM12.1 ?_
    refine gl_o (hM12.2 8 (by decide)).1 ?_
    replace HP := bind_ck HP
    obtain ⟨c6, HP⟩ := HP
    refine gl_ck ⟨(hM12.2 8 (by decide)).2.1, in_of (hM12.2 8 (by decide)).2.2 (by decide) c6⟩ ?_
    try rw [mrd 8 c6.1] at HP
    replace HP := bd_n HP
    obtain ⟨v18, Ev18, HP⟩ := HP
    refine gl_bdv Ev18 ?_
    refine gl_ite (fun c7 => ?_) (fun c7 => ?_)
    · replace HP := ite_T c7 HP
      exact pl_X12_ball_51  hM12 f12 HP
    · replace HP := ite_F c7 HP
      refine gl_o (hM12.2 9 (by decide)).1 ?_
      replace HP := bind_ck HP
      obtain ⟨c8, HP⟩ := HP
      refine gl_ck ⟨(hM12.2 9 (by decide)).2.1, in_of (hM12.2 9 (by decide)).2.2 (by decide) c8⟩ ?_
      try rw [mrd 9 c8.1] at HP
      refine gl_ite (fun c9 => ?_) (fun c9 => ?_)
      · replace HP := ite_T c9 HP
        exact pl_X12_ball_51  hM12 f12 HP
      · replace HP := ite_F c9 HP
        refine gl_o (hM12.2 9 (by decide)).1 ?_
        replace HP := bind_ck HP
        obtain ⟨c10, HP⟩ := HP
        refine gl_ck ⟨(hM12.2 9 (by decide)).2.1, in_of (hM12.2 9 (by decide)).2.2 (by decide) c10⟩ ?_
        try rw [mrd 9 c10.1] at HP
        replace HP := bind_o HP
        obtain ⟨⟨z29, e28⟩, E11, HP⟩ := HP
        obtain ⟨h28, F12, rfl, hM28, gh28⟩ := pl_X12_rowOf (t := t) hM12 (fr.refl _ _) E11
        have f28 := f12.trans gh28
        refine gl_o F12 (gl_bd (gl_bd ?_))
        replace HP := bd_o (bd_o HP)
        dsimp only at HP ⊢
        exact pl_X12_ball_73  hM28 f28 HP

set_option maxRecDepth 20000 in
theorem pl_X12_feed_76 {t : Nat} {h0 : aH} {r : Int32} {e' : mE} {qk23 : Int32 → Int32 → Int32 → Int32 → Int32 → Int32 → mE → Option (Int32 × mE)} {k23 : Nat → Int32 → Int32 → Int32 → Int32 → Int32 → Int32 → aH → Option (Int32 × aH)} (hk23 : ∀ {u1 : Int32} {u2 : Int32} {u3 : Int32} {u4 : Int32} {u5 : Int32} {u6 : Int32} {h : aH}, MS t h → fr t h0 h → qk23 u1 u2 u3 u4 u5 u6 (menv t h) = some (r, e') → Gl t h0 (k23 t u1 u2 u3 u4 u5 u6 h) r e') {x1 : Int32} {x2 : Int32} {x3 : Int32} {x4 : Int32} {x5 : Int32} {x6 : Int32} {y0 : Int32} {h : aH} (hM : MS t h) (f : fr t h0 h) (HP : P_X12_feed_76 qk23 x1 x2 x3 x4 x5 x6 y0 (menv t h) = some (r, e')) : Gl t h0 (F_X12_feed_76 k23 t x1 x2 x3 x4 x5 x6 y0 h) r e' := by
  unfold P_X12_feed_76 at HP
  unfold F_X12_feed_76
  refine gl_ck hM.1 ?_
  refine gl_o (hM.2 15 (by decide)).1 ?_
  replace HP := bind_ck HP
  obtain ⟨c1, HP⟩ := HP
  refine gl_ck ⟨(hM.2 15 (by decide)).2.1, in_of (hM.2 15 (by decide)).2.2 (by decide) c1⟩ ?_
  try rw [mrd 15 c1.1] at HP
  replace HP := bd_n HP
  obtain ⟨e5, Eh5, HP⟩ := HP
  refine gl_sI 15 hM f (by decide) (by first | assumption | exact And.left (by assumption) | decide) (fun h5 hM5 f5 Kh5 => ?_)
  obtain rfl : menv t h5 = e5 := mtr Kh5 Eh5
  replace HP := bd_n HP
  obtain ⟨e7, Eh7, HP⟩ := HP
  refine gl_sF 16 hM5 f5 (fun h7 hM7 f7 Kh7 => ?_)
  obtain rfl : menv t h7 = e7 := mtr Kh7 Eh7
  replace HP := bd_n HP
  obtain ⟨v9, Ev9, HP⟩ := HP
  refine gl_bdv Ev9 ?_
  exact hk23 hM7 f7 HP

set_option maxRecDepth 20000 in
theorem pl_X12_feed_23 {t : Nat} {h0 : aH} {r : Int32} {e' : mE} : ∀ {n : Nat} {x1 : Int32} {x2 : Int32} {x3 : Int32} {x4 : Int32} {x5 : Int32} {x6 : Int32} {h : aH}, MS t h → fr t h0 h → P_X12_feed_23  n x1 x2 x3 x4 x5 x6 (menv t h) = some (r, e') → Gl t h0 (F_X12_feed_23  n t x1 x2 x3 x4 x5 x6 h) r e' := by
  intro n
  induction n with
  | zero => intro x1 x2 x3 x4 x5 x6 h hM f HP; cases HP
  | succ n ih =>
  intro x1 x2 x3 x4 x5 x6 h hM f HP
  unfold P_X12_feed_23 at HP
  unfold F_X12_feed_23
  refine gl_ite (fun c1 => ?_) (fun c1 => ?_)
  · replace HP := ite_T c1 HP
    refine gl_ck hM.1 ?_
    exact gl_end hM f HP
  · replace HP := ite_F c1 HP
    refine gl_ite (fun c2 => ?_) (fun c2 => ?_)
    · replace HP := ite_T c2 HP
      refine gl_ite (fun c3 => ?_) (fun c3 => ?_)
      · replace HP := ite_T c3 HP
        refine gl_ite (fun c4 => ?_) (fun c4 => ?_)
        · replace HP := ite_T c4 HP
          refine gl_ite (fun c5 => ?_) (fun c5 => ?_)
          · replace HP := ite_T c5 HP
            exact pl_X12_feed_76 (fun hm ff hp => ih hm ff hp) hM f HP
          · replace HP := ite_F c5 HP
            exact pl_X12_feed_76 (fun hm ff hp => ih hm ff hp) hM f HP
        · replace HP := ite_F c4 HP
          exact pl_X12_feed_76 (fun hm ff hp => ih hm ff hp) hM f HP
      · replace HP := ite_F c3 HP
        exact pl_X12_feed_76 (fun hm ff hp => ih hm ff hp) hM f HP
    · replace HP := ite_F c2 HP
      exact pl_X12_feed_76 (fun hm ff hp => ih hm ff hp) hM f HP

set_option maxRecDepth 20000 in
theorem pl_X12_feed {t : Nat} {h0 : aH} {r : Int32} {e' : mE} {x1 : Int32} {x2 : Int32} {x3 : Int32} {x4 : Int32} {x5 : Int32} {h : aH} (hM : MS t h) (f : fr t h0 h) (HP : P_X12_feed  x1 x2 x3 x4 x5 (menv t h) = some (r, e')) : Gl t h0 (F_X12_feed  t x1 x2 x3 x4 x5 h) r e' := by
  unfold P_X12_feed at HP
  unfold F_X12_feed
  replace HP := bd_n HP
  obtain ⟨e1, Eh1, HP⟩ := HP
  refine gl_sF 0 hM f (fun h1 hM1 f1 Kh1 => ?_)
  obtain rfl : menv t h1 = e1 := mtr Kh1 Eh1
  refine gl_ite (fun c1 => ?_) (fun c1 => ?_)
  · replace HP := ite_T c1 HP
    exact pl_X12_feed_23  hM1 f1 HP
  · replace HP := ite_F c1 HP
    exact gl_end hM1 f1 HP

set_option maxRecDepth 20000 in
theorem pl_X12_find {t : Nat} {h0 : aH} {r : Int32} {e' : mE} {x1 : Int32} {x2 : Int32} {x3 : Int32} {h : aH} (hM : MS t h) (f : fr t h0 h) (HP : P_X12_find  x1 x2 x3 (menv t h) = some (r, e')) : Gl t h0 (F_X12_find  t x1 x2 x3 h) r e' := by
  unfold P_X12_find at HP
  unfold F_X12_find
  replace HP := bind_o HP
  obtain ⟨⟨z3, e2⟩, E1, HP⟩ := HP
  obtain ⟨h2, F2, rfl, hM2, gh2⟩ := pl_X12_isGame (t := t) hM (fr.refl _ _) E1
  have f2 := f.trans gh2
  refine gl_o F2 (gl_bd (gl_bd ?_))
  replace HP := bd_o (bd_o HP)
  dsimp only at HP ⊢
  refine gl_ite (fun c3 => ?_) (fun c3 => ?_)
  · replace HP := ite_T c3 HP
    exact gl_end hM2 f2 HP
  · replace HP := ite_F c3 HP
    refine gl_ite (fun c4 => ?_) (fun c4 => ?_)
    · replace HP := ite_T c4 HP
      exact gl_end hM2 f2 HP
    · replace HP := ite_F c4 HP
      refine gl_ck hM2.1 ?_
      refine gl_o (hM2.2 8 (by decide)).1 ?_
      replace HP := bind_ck HP
      obtain ⟨c5, HP⟩ := HP
      refine gl_ck ⟨(hM2.2 8 (by decide)).2.1, in_of (hM2.2 8 (by decide)).2.2 (by decide) c5⟩ ?_
      try rw [mrd 8 c5.1] at HP
      refine gl_ite (fun c6 => ?_) (fun c6 => ?_)
      · replace HP := ite_T c6 HP
        exact gl_end hM2 f2 HP
      · replace HP := ite_F c6 HP
        refine gl_ite (fun c7 => ?_) (fun c7 => ?_)
        · replace HP := ite_T c7 HP
          exact gl_end hM2 f2 HP
        · replace HP := ite_F c7 HP
          refine gl_o (hM2.2 9 (by decide)).1 ?_
          replace HP := bind_ck HP
          obtain ⟨c8, HP⟩ := HP
          refine gl_ck ⟨(hM2.2 9 (by decide)).2.1, in_of (hM2.2 9 (by decide)).2.2 (by decide) c8⟩ ?_
          try rw [mrd 9 c8.1] at HP
          refine gl_ite (fun c9 => ?_) (fun c9 => ?_)
          · replace HP := ite_T c9 HP
            exact gl_end hM2 f2 HP
          · replace HP := ite_F c9 HP
            replace HP := bind_o HP
            obtain ⟨⟨z19, e18⟩, E10, HP⟩ := HP
            obtain ⟨h18, F11, rfl, hM18, gh18⟩ := pl_X12_rowOf (t := t) hM2 (fr.refl _ _) E10
            have f18 := f2.trans gh18
            refine gl_o F11 (gl_bd (gl_bd ?_))
            replace HP := bd_o (bd_o HP)
            dsimp only at HP ⊢
            exact gl_end hM18 f18 HP

set_option maxRecDepth 20000 in
theorem pl_X12_open_71 {t : Nat} {h0 : aH} {r : Int32} {e' : mE} : ∀ {n : Nat} {x4 : Int32} {x5 : Int32} {x6 : Int32} {h : aH}, MS t h → fr t h0 h → P_X12_open_71  n x4 x5 x6 (menv t h) = some (r, e') → Gl t h0 (F_X12_open_71  n t x4 x5 x6 h) r e' := by
  intro n
  induction n with
  | zero => intro x4 x5 x6 h hM f HP; cases HP
  | succ n ih =>
  intro x4 x5 x6 h hM f HP
  unfold P_X12_open_71 at HP
  unfold F_X12_open_71
  refine gl_ite (fun c1 => ?_) (fun c1 => ?_)
  · replace HP := ite_T c1 HP
    refine gl_ck hM.1 ?_
    replace HP := bd_n HP
    obtain ⟨e3, Eh3, HP⟩ := HP
    refine gl_sF 16 hM f (fun h3 hM3 f3 Kh3 => ?_)
    obtain rfl : menv t h3 = e3 := mtr Kh3 Eh3
    exact gl_end hM3 f3 HP
  · replace HP := ite_F c1 HP
    refine gl_ck hM.1 ?_
    refine gl_o (hM.2 14 (by decide)).1 ?_
    refine gl_o (hM.2 15 (by decide)).1 ?_
    replace HP := bind_ck HP
    obtain ⟨c2, HP⟩ := HP
    refine gl_ck ⟨(hM.2 15 (by decide)).2.1, in_of (hM.2 15 (by decide)).2.2 (by decide) c2⟩ ?_
    try rw [mrd 15 c2.1] at HP
    replace HP := bind_ck HP
    obtain ⟨c3, HP⟩ := HP
    refine gl_ck ⟨(hM.2 14 (by decide)).2.1, in_of (hM.2 14 (by decide)).2.2 (by decide) c3⟩ ?_
    try rw [mrd 14 c3.1] at HP
    replace HP := bd_n HP
    obtain ⟨e12, Eh12, HP⟩ := HP
    refine gl_sI 14 hM f (by decide) (by first | assumption | exact And.left (by assumption) | decide) (fun h12 hM12 f12 Kh12 => ?_)
    obtain rfl : menv t h12 = e12 := mtr Kh12 Eh12
    replace HP := bd_n HP
    obtain ⟨v14, Ev14, HP⟩ := HP
    refine gl_bdv Ev14 ?_
    exact ih hM12 f12 HP

set_option maxRecDepth 20000 in
theorem pl_X12_open {t : Nat} {h0 : aH} {r : Int32} {e' : mE} {x1 : Int32} {x2 : Int32} {x3 : Int32} {x4 : Int32} {h : aH} (hM : MS t h) (f : fr t h0 h) (HP : P_X12_open  x1 x2 x3 x4 (menv t h) = some (r, e')) : Gl t h0 (F_X12_open  t x1 x2 x3 x4 h) r e' := by
  unfold P_X12_open at HP
  unfold F_X12_open
  replace HP := bd_n HP
  obtain ⟨e1, Eh1, HP⟩ := HP
  refine gl_sF 0 hM f (fun h1 hM1 f1 Kh1 => ?_)
  obtain rfl : menv t h1 = e1 := mtr Kh1 Eh1
  replace HP := bind_o HP
  obtain ⟨⟨z5, e4⟩, E1, HP⟩ := HP
  obtain ⟨h4, F2, rfl, hM4, gh4⟩ := pl_X12_find (t := t) hM1 (fr.refl _ _) E1
  have f4 := f1.trans gh4
  refine gl_o F2 (gl_bd (gl_bd ?_))
  replace HP := bd_o (bd_o HP)
  dsimp only at HP ⊢
  refine gl_ite (fun c3 => ?_) (fun c3 => ?_)
  · replace HP := ite_T c3 HP
    exact gl_end hM4 f4 HP
  · replace HP := ite_F c3 HP
    refine gl_ite (fun c4 => ?_) (fun c4 => ?_)
    · replace HP := ite_T c4 HP
      exact gl_end hM4 f4 HP
    · replace HP := ite_F c4 HP
      refine gl_ite (fun c5 => ?_) (fun c5 => ?_)
      · replace HP := ite_T c5 HP
        exact gl_end hM4 f4 HP
      · replace HP := ite_F c5 HP
        refine gl_ck hM4.1 ?_
        refine gl_ite (fun c6 => ?_) (fun c6 => ?_)
        · replace HP := ite_T c6 HP
          replace HP := bind_o HP
          obtain ⟨e13, E7, HP⟩ := HP
          obtain ⟨h13, F8, rfl, hM13, gh13⟩ := pl_X12_done (t := t) hM4 (fr.refl _ _) E7
          have f13 := f4.trans gh13
          refine gl_o F8 ?_
          refine gl_ck hM13.1 ?_
          replace HP := bind_o HP
          obtain ⟨e17, E9, HP⟩ := HP
          obtain ⟨h17, F10, rfl, hM17, gh17⟩ := pl_X12_keepRow (t := t) hM13 (fr.refl _ _) E9
          have f17 := f13.trans gh17
          refine gl_o F10 ?_
          refine gl_ck hM17.1 ?_
          refine gl_o (hM17.2 13 (by decide)).1 ?_
          replace HP := bind_ck HP
          obtain ⟨c11, HP⟩ := HP
          refine gl_ck ⟨(hM17.2 13 (by decide)).2.1, in_of (hM17.2 13 (by decide)).2.2 (by decide) c11⟩ ?_
          try rw [mrd 13 c11.1] at HP
          replace HP := bd_n HP
          obtain ⟨e23, Eh23, HP⟩ := HP
          refine gl_sI 13 hM17 f17 (by decide) (by first | assumption | exact And.left (by assumption) | decide) (fun h23 hM23 f23 Kh23 => ?_)
          obtain rfl : menv t h23 = e23 := mtr Kh23 Eh23
          exact pl_X12_open_71  hM23 f23 HP
        · replace HP := ite_F c6 HP
          exact gl_end hM4 f4 HP

set_option maxRecDepth 20000 in
theorem pl_X12_tear {t : Nat} {h0 : aH} {r : Int32} {e' : mE} {x1 : Int32} {x2 : Int32} {x3 : Int32} {h : aH} (hM : MS t h) (f : fr t h0 h) (HP : P_X12_tear  x1 x2 x3 (menv t h) = some (r, e')) : Gl t h0 (F_X12_tear  t x1 x2 x3 h) r e' := by
  unfold P_X12_tear at HP
  unfold F_X12_tear
  replace HP := bd_n HP
  obtain ⟨e1, Eh1, HP⟩ := HP
  refine gl_sF 0 hM f (fun h1 hM1 f1 Kh1 => ?_)
  obtain rfl : menv t h1 = e1 := mtr Kh1 Eh1
  replace HP := bind_o HP
  obtain ⟨⟨z5, e4⟩, E1, HP⟩ := HP
  obtain ⟨h4, F2, rfl, hM4, gh4⟩ := pl_X12_find (t := t) hM1 (fr.refl _ _) E1
  have f4 := f1.trans gh4
  refine gl_o F2 (gl_bd (gl_bd ?_))
  replace HP := bd_o (bd_o HP)
  dsimp only at HP ⊢
  refine gl_ite (fun c3 => ?_) (fun c3 => ?_)
  · replace HP := ite_T c3 HP
    exact gl_end hM4 f4 HP
  · replace HP := ite_F c3 HP
    refine gl_ck hM4.1 ?_
    refine gl_o (hM4.2 13 (by decide)).1 ?_
    replace HP := bind_ck HP
    obtain ⟨c4, HP⟩ := HP
    refine gl_ck ⟨(hM4.2 13 (by decide)).2.1, in_of (hM4.2 13 (by decide)).2.2 (by decide) c4⟩ ?_
    try rw [mrd 13 c4.1] at HP
    refine gl_ite (fun c5 => ?_) (fun c5 => ?_)
    · replace HP := ite_T c5 HP
      exact gl_end hM4 f4 HP
    · replace HP := ite_F c5 HP
      replace HP := bind_o HP
      obtain ⟨e14, E6, HP⟩ := HP
      obtain ⟨h14, F7, rfl, hM14, gh14⟩ := pl_X12_done (t := t) hM4 (fr.refl _ _) E6
      have f14 := f4.trans gh14
      refine gl_o F7 ?_
      refine gl_ck hM14.1 ?_
      replace HP := bind_o HP
      obtain ⟨e18, E8, HP⟩ := HP
      obtain ⟨h18, F9, rfl, hM18, gh18⟩ := pl_X12_keepRow (t := t) hM14 (fr.refl _ _) E8
      have f18 := f14.trans gh18
      refine gl_o F9 ?_
      refine gl_ck hM18.1 ?_
      refine gl_o (hM18.2 13 (by decide)).1 ?_
      replace HP := bind_ck HP
      obtain ⟨c10, HP⟩ := HP
      refine gl_ck ⟨(hM18.2 13 (by decide)).2.1, in_of (hM18.2 13 (by decide)).2.2 (by decide) c10⟩ ?_
      try rw [mrd 13 c10.1] at HP
      replace HP := bd_n HP
      obtain ⟨e24, Eh24, HP⟩ := HP
      refine gl_sI 13 hM18 f18 (by decide) (by first | assumption | exact And.left (by assumption) | decide) (fun h24 hM24 f24 Kh24 => ?_)
      obtain rfl : menv t h24 = e24 := mtr Kh24 Eh24
      exact gl_end hM24 f24 HP

set_option maxRecDepth 20000 in
theorem pl_X12_insert_8 {t : Nat} {h0 : aH} {e' : mE} : ∀ {n : Nat} {x1 : Int32} {x2 : Int32} {x3 : Int32} {x4 : Int32} {h : aH}, MS t h → fr t h0 h → P_X12_insert_8  n x1 x2 x3 x4 (menv t h) = some e' → Glv t h0 (F_X12_insert_8  n t x1 x2 x3 x4 h) e' := by
  intro n
  induction n with
  | zero => intro x1 x2 x3 x4 h hM f HP; cases HP
  | succ n ih =>
  intro x1 x2 x3 x4 h hM f HP
  unfold P_X12_insert_8 at HP
  unfold F_X12_insert_8
  refine gl_iteV (fun c1 => ?_) (fun c1 => ?_)
  · replace HP := ite_T c1 HP
    refine gl_ckV hM.1 ?_
    refine gl_oV (hM.2 14 (by decide)).1 ?_
    replace HP := bind_ck HP
    obtain ⟨c2, HP⟩ := HP
    refine gl_ckV ⟨(hM.2 14 (by decide)).2.1, in_of (hM.2 14 (by decide)).2.2 (by decide) c2⟩ ?_
    try rw [mrd 14 c2.1] at HP
    replace HP := bd_n HP
    obtain ⟨e6, Eh6, HP⟩ := HP
    refine gl_sIV 14 hM f (by decide) (by first | assumption | exact And.left (by assumption) | decide) (fun h6 hM6 f6 Kh6 => ?_)
    obtain rfl : menv t h6 = e6 := mtr Kh6 Eh6
    refine gl_oV (hM6.2 13 (by decide)).1 ?_
    replace HP := bind_ck HP
    obtain ⟨c3, HP⟩ := HP
    refine gl_ckV ⟨(hM6.2 13 (by decide)).2.1, in_of (hM6.2 13 (by decide)).2.2 (by decide) c3⟩ ?_
    try rw [mrd 13 c3.1] at HP
    replace HP := bd_n HP
    obtain ⟨e11, Eh11, HP⟩ := HP
    refine gl_sIV 13 hM6 f6 (by decide) (by first | assumption | exact And.left (by assumption) | decide) (fun h11 hM11 f11 Kh11 => ?_)
    obtain rfl : menv t h11 = e11 := mtr Kh11 Eh11
    exact gl_endv hM11 f11 HP
  · replace HP := ite_F c1 HP
    refine gl_ckV hM.1 ?_
    refine gl_oV (hM.2 14 (by decide)).1 ?_
    refine gl_oV (hM.2 14 (by decide)).1 ?_
    replace HP := bind_ck HP
    obtain ⟨c4, HP⟩ := HP
    refine gl_ckV ⟨(hM.2 14 (by decide)).2.1, in_of (hM.2 14 (by decide)).2.2 (by decide) c4⟩ ?_
    try rw [mrd 14 c4.1] at HP
    replace HP := bind_ck HP
    obtain ⟨c5, HP⟩ := HP
    refine gl_ckV ⟨(hM.2 14 (by decide)).2.1, in_of (hM.2 14 (by decide)).2.2 (by decide) c5⟩ ?_
    try rw [mrd 14 c5.1] at HP
    replace HP := bd_n HP
    obtain ⟨e20, Eh20, HP⟩ := HP
    refine gl_sIV 14 hM f (by decide) (by first | assumption | exact And.left (by assumption) | decide) (fun h20 hM20 f20 Kh20 => ?_)
    obtain rfl : menv t h20 = e20 := mtr Kh20 Eh20
    replace HP := bd_n HP
    obtain ⟨v22, Ev22, HP⟩ := HP
    refine gl_bdvV Ev22 ?_
    exact ih hM20 f20 HP

set_option maxRecDepth 20000 in
theorem pl_X12_insert {t : Nat} {h0 : aH} {e' : mE} {x1 : Int32} {x2 : Int32} {x3 : Int32} {h : aH} (hM : MS t h) (f : fr t h0 h) (HP : P_X12_insert  x1 x2 x3 (menv t h) = some e') : Glv t h0 (F_X12_insert  t x1 x2 x3 h) e' := by
  unfold P_X12_insert at HP
  unfold F_X12_insert
  refine gl_oV (hM.2 13 (by decide)).1 ?_
  replace HP := bind_ck HP
  obtain ⟨c1, HP⟩ := HP
  refine gl_ckV ⟨(hM.2 13 (by decide)).2.1, in_of (hM.2 13 (by decide)).2.2 (by decide) c1⟩ ?_
  try rw [mrd 13 c1.1] at HP
  replace HP := bd_n HP
  obtain ⟨v4, Ev4, HP⟩ := HP
  refine gl_bdvV Ev4 ?_
  exact pl_X12_insert_8  hM f HP

set_option maxRecDepth 20000 in
theorem pl_X12_remove_2 {t : Nat} {h0 : aH} {e' : mE} : ∀ {n : Nat} {x1 : Int32} {x3 : Int32} {h : aH}, MS t h → fr t h0 h → P_X12_remove_2  n x1 x3 (menv t h) = some e' → Glv t h0 (F_X12_remove_2  n t x1 x3 h) e' := by
  intro n
  induction n with
  | zero => intro x1 x3 h hM f HP; cases HP
  | succ n ih =>
  intro x1 x3 h hM f HP
  unfold P_X12_remove_2 at HP
  unfold F_X12_remove_2
  refine gl_ckV hM.1 ?_
  refine gl_oV (hM.2 13 (by decide)).1 ?_
  replace HP := bind_ck HP
  obtain ⟨c1, HP⟩ := HP
  refine gl_ckV ⟨(hM.2 13 (by decide)).2.1, in_of (hM.2 13 (by decide)).2.2 (by decide) c1⟩ ?_
  try rw [mrd 13 c1.1] at HP
  refine gl_iteV (fun c2 => ?_) (fun c2 => ?_)
  · replace HP := ite_T c2 HP
    refine gl_oV (hM.2 13 (by decide)).1 ?_
    replace HP := bind_ck HP
    obtain ⟨c3, HP⟩ := HP
    refine gl_ckV ⟨(hM.2 13 (by decide)).2.1, in_of (hM.2 13 (by decide)).2.2 (by decide) c3⟩ ?_
    try rw [mrd 13 c3.1] at HP
    replace HP := bd_n HP
    obtain ⟨e9, Eh9, HP⟩ := HP
    refine gl_sIV 13 hM f (by decide) (by first | assumption | exact And.left (by assumption) | decide) (fun h9 hM9 f9 Kh9 => ?_)
    obtain rfl : menv t h9 = e9 := mtr Kh9 Eh9
    exact gl_endv hM9 f9 HP
  · replace HP := ite_F c2 HP
    refine gl_oV (hM.2 14 (by decide)).1 ?_
    refine gl_oV (hM.2 14 (by decide)).1 ?_
    replace HP := bind_ck HP
    obtain ⟨c4, HP⟩ := HP
    refine gl_ckV ⟨(hM.2 14 (by decide)).2.1, in_of (hM.2 14 (by decide)).2.2 (by decide) c4⟩ ?_
    try rw [mrd 14 c4.1] at HP
    replace HP := bind_ck HP
    obtain ⟨c5, HP⟩ := HP
    refine gl_ckV ⟨(hM.2 14 (by decide)).2.1, in_of (hM.2 14 (by decide)).2.2 (by decide) c5⟩ ?_
    try rw [mrd 14 c5.1] at HP
    replace HP := bd_n HP
    obtain ⟨e17, Eh17, HP⟩ := HP
    refine gl_sIV 14 hM f (by decide) (by first | assumption | exact And.left (by assumption) | decide) (fun h17 hM17 f17 Kh17 => ?_)
    obtain rfl : menv t h17 = e17 := mtr Kh17 Eh17
    replace HP := bd_n HP
    obtain ⟨v19, Ev19, HP⟩ := HP
    refine gl_bdvV Ev19 ?_
    exact ih hM17 f17 HP

set_option maxRecDepth 20000 in
theorem pl_X12_remove {t : Nat} {h0 : aH} {e' : mE} {x1 : Int32} {x2 : Int32} {h : aH} (hM : MS t h) (f : fr t h0 h) (HP : P_X12_remove  x1 x2 (menv t h) = some e') : Glv t h0 (F_X12_remove  t x1 x2 h) e' := by
  unfold P_X12_remove at HP
  unfold F_X12_remove
  exact pl_X12_remove_2  hM f HP

set_option maxRecDepth 20000 in
theorem pl_X12_put {t : Nat} {h0 : aH} {r : Int32} {e' : mE} {x1 : Int32} {x2 : Int32} {x3 : Int32} {x4 : Int32} {x5 : Int32} {h : aH} (hM : MS t h) (f : fr t h0 h) (HP : P_X12_put  x1 x2 x3 x4 x5 (menv t h) = some (r, e')) : Gl t h0 (F_X12_put  t x1 x2 x3 x4 x5 h) r e' := by
  unfold P_X12_put at HP
  unfold F_X12_put
  replace HP := bd_n HP
  obtain ⟨e1, Eh1, HP⟩ := HP
  refine gl_sF 0 hM f (fun h1 hM1 f1 Kh1 => ?_)
  obtain rfl : menv t h1 = e1 := mtr Kh1 Eh1
  replace HP := bind_o HP
  obtain ⟨⟨z5, e4⟩, E1, HP⟩ := HP
  obtain ⟨h4, F2, rfl, hM4, gh4⟩ := pl_X12_find (t := t) hM1 (fr.refl _ _) E1
  have f4 := f1.trans gh4
  refine gl_o F2 (gl_bd (gl_bd ?_))
  replace HP := bd_o (bd_o HP)
  dsimp only at HP ⊢
  refine gl_ite (fun c3 => ?_) (fun c3 => ?_)
  · replace HP := ite_T c3 HP
    exact gl_end hM4 f4 HP
  · replace HP := ite_F c3 HP
    refine gl_ck hM4.1 ?_
    refine gl_o (hM4.2 13 (by decide)).1 ?_
    replace HP := bind_ck HP
    obtain ⟨c4, HP⟩ := HP
    refine gl_ck ⟨(hM4.2 13 (by decide)).2.1, in_of (hM4.2 13 (by decide)).2.2 (by decide) c4⟩ ?_
    try rw [mrd 13 c4.1] at HP
    refine gl_ite (fun c5 => ?_) (fun c5 => ?_)
    · replace HP := ite_T c5 HP
      exact gl_end hM4 f4 HP
    · replace HP := ite_F c5 HP
      refine gl_ite (fun c6 => ?_) (fun c6 => ?_)
      · replace HP := ite_T c6 HP
        exact gl_end hM4 f4 HP
      · replace HP := ite_F c6 HP
        refine gl_o (hM4.2 13 (by decide)).1 ?_
        replace HP := bind_ck HP
        obtain ⟨c7, HP⟩ := HP
        refine gl_ck ⟨(hM4.2 13 (by decide)).2.1, in_of (hM4.2 13 (by decide)).2.2 (by decide) c7⟩ ?_
        try rw [mrd 13 c7.1] at HP
        refine gl_ite (fun c8 => ?_) (fun c8 => ?_)
        · replace HP := ite_T c8 HP
          exact gl_end hM4 f4 HP
        · replace HP := ite_F c8 HP
          refine gl_o (hM4.2 13 (by decide)).1 ?_
          replace HP := bind_ck HP
          obtain ⟨c9, HP⟩ := HP
          refine gl_ck ⟨(hM4.2 13 (by decide)).2.1, in_of (hM4.2 13 (by decide)).2.2 (by decide) c9⟩ ?_
          try rw [mrd 13 c9.1] at HP
          refine gl_ite (fun c10 => ?_) (fun c10 => ?_)
          · replace HP := ite_T c10 HP
            exact gl_end hM4 f4 HP
          · replace HP := ite_F c10 HP
            replace HP := bind_o HP
            obtain ⟨e23, E11, HP⟩ := HP
            obtain ⟨h23, F12, rfl, hM23, gh23⟩ := pl_X12_insert (t := t) hM4 (fr.refl _ _) E11
            have f23 := f4.trans gh23
            refine gl_o F12 ?_
            refine gl_ck hM23.1 ?_
            replace HP := bind_o HP
            obtain ⟨e27, E13, HP⟩ := HP
            obtain ⟨h27, F14, rfl, hM27, gh27⟩ := pl_X12_done (t := t) hM23 (fr.refl _ _) E13
            have f27 := f23.trans gh27
            refine gl_o F14 ?_
            exact gl_end hM27 f27 HP

set_option maxRecDepth 20000 in
theorem pl_X12_mend {t : Nat} {h0 : aH} {r : Int32} {e' : mE} {x1 : Int32} {x2 : Int32} {x3 : Int32} {x4 : Int32} {x5 : Int32} {h : aH} (hM : MS t h) (f : fr t h0 h) (HP : P_X12_mend  x1 x2 x3 x4 x5 (menv t h) = some (r, e')) : Gl t h0 (F_X12_mend  t x1 x2 x3 x4 x5 h) r e' := by
  unfold P_X12_mend at HP
  unfold F_X12_mend
  replace HP := bd_n HP
  obtain ⟨e1, Eh1, HP⟩ := HP
  refine gl_sF 0 hM f (fun h1 hM1 f1 Kh1 => ?_)
  obtain rfl : menv t h1 = e1 := mtr Kh1 Eh1
  replace HP := bind_o HP
  obtain ⟨⟨z5, e4⟩, E1, HP⟩ := HP
  obtain ⟨h4, F2, rfl, hM4, gh4⟩ := pl_X12_find (t := t) hM1 (fr.refl _ _) E1
  have f4 := f1.trans gh4
  refine gl_o F2 (gl_bd (gl_bd ?_))
  replace HP := bd_o (bd_o HP)
  dsimp only at HP ⊢
  refine gl_ite (fun c3 => ?_) (fun c3 => ?_)
  · replace HP := ite_T c3 HP
    exact gl_end hM4 f4 HP
  · replace HP := ite_F c3 HP
    refine gl_ite (fun c4 => ?_) (fun c4 => ?_)
    · replace HP := ite_T c4 HP
      exact gl_end hM4 f4 HP
    · replace HP := ite_F c4 HP
      refine gl_ck hM4.1 ?_
      refine gl_o (hM4.2 13 (by decide)).1 ?_
      replace HP := bind_ck HP
      obtain ⟨c5, HP⟩ := HP
      refine gl_ck ⟨(hM4.2 13 (by decide)).2.1, in_of (hM4.2 13 (by decide)).2.2 (by decide) c5⟩ ?_
      try rw [mrd 13 c5.1] at HP
      refine gl_ite (fun c6 => ?_) (fun c6 => ?_)
      · replace HP := ite_T c6 HP
        refine gl_o (hM4.2 14 (by decide)).1 ?_
        replace HP := bind_ck HP
        obtain ⟨c7, HP⟩ := HP
        refine gl_ck ⟨(hM4.2 14 (by decide)).2.1, in_of (hM4.2 14 (by decide)).2.2 (by decide) c7⟩ ?_
        try rw [mrd 14 c7.1] at HP
        replace HP := bd_n HP
        obtain ⟨v17, Ev17, HP⟩ := HP
        refine gl_bdv Ev17 ?_
        refine gl_o (hM4.2 14 (by decide)).1 ?_
        replace HP := bind_ck HP
        obtain ⟨c8, HP⟩ := HP
        refine gl_ck ⟨(hM4.2 14 (by decide)).2.1, in_of (hM4.2 14 (by decide)).2.2 (by decide) c8⟩ ?_
        try rw [mrd 14 c8.1] at HP
        replace HP := bd_n HP
        obtain ⟨e21, Eh21, HP⟩ := HP
        refine gl_sI 14 hM4 f4 (by decide) (by first | assumption | exact And.left (by assumption) | decide) (fun h21 hM21 f21 Kh21 => ?_)
        obtain rfl : menv t h21 = e21 := mtr Kh21 Eh21
        replace HP := bind_o HP
        obtain ⟨e24, E9, HP⟩ := HP
        obtain ⟨h24, F10, rfl, hM24, gh24⟩ := pl_X12_done (t := t) hM21 (fr.refl _ _) E9
        have f24 := f21.trans gh24
        refine gl_o F10 ?_
        exact gl_end hM24 f24 HP
      · replace HP := ite_F c6 HP
        exact gl_end hM4 f4 HP

set_option maxRecDepth 20000 in
theorem pl_X12_out {t : Nat} {h0 : aH} {r : Int32} {e' : mE} {x1 : Int32} {x2 : Int32} {x3 : Int32} {x4 : Int32} {h : aH} (hM : MS t h) (f : fr t h0 h) (HP : P_X12_out  x1 x2 x3 x4 (menv t h) = some (r, e')) : Gl t h0 (F_X12_out  t x1 x2 x3 x4 h) r e' := by
  unfold P_X12_out at HP
  unfold F_X12_out
  replace HP := bd_n HP
  obtain ⟨e1, Eh1, HP⟩ := HP
  refine gl_sF 0 hM f (fun h1 hM1 f1 Kh1 => ?_)
  obtain rfl : menv t h1 = e1 := mtr Kh1 Eh1
  replace HP := bind_o HP
  obtain ⟨⟨z5, e4⟩, E1, HP⟩ := HP
  obtain ⟨h4, F2, rfl, hM4, gh4⟩ := pl_X12_find (t := t) hM1 (fr.refl _ _) E1
  have f4 := f1.trans gh4
  refine gl_o F2 (gl_bd (gl_bd ?_))
  replace HP := bd_o (bd_o HP)
  dsimp only at HP ⊢
  refine gl_ite (fun c3 => ?_) (fun c3 => ?_)
  · replace HP := ite_T c3 HP
    exact gl_end hM4 f4 HP
  · replace HP := ite_F c3 HP
    refine gl_ite (fun c4 => ?_) (fun c4 => ?_)
    · replace HP := ite_T c4 HP
      exact gl_end hM4 f4 HP
    · replace HP := ite_F c4 HP
      refine gl_ck hM4.1 ?_
      refine gl_o (hM4.2 13 (by decide)).1 ?_
      replace HP := bind_ck HP
      obtain ⟨c5, HP⟩ := HP
      refine gl_ck ⟨(hM4.2 13 (by decide)).2.1, in_of (hM4.2 13 (by decide)).2.2 (by decide) c5⟩ ?_
      try rw [mrd 13 c5.1] at HP
      refine gl_ite (fun c6 => ?_) (fun c6 => ?_)
      · replace HP := ite_T c6 HP
        refine gl_o (hM4.2 14 (by decide)).1 ?_
        replace HP := bind_ck HP
        obtain ⟨c7, HP⟩ := HP
        refine gl_ck ⟨(hM4.2 14 (by decide)).2.1, in_of (hM4.2 14 (by decide)).2.2 (by decide) c7⟩ ?_
        try rw [mrd 14 c7.1] at HP
        replace HP := bd_n HP
        obtain ⟨v17, Ev17, HP⟩ := HP
        refine gl_bdv Ev17 ?_
        replace HP := bind_o HP
        obtain ⟨e19, E8, HP⟩ := HP
        obtain ⟨h19, F9, rfl, hM19, gh19⟩ := pl_X12_remove (t := t) hM4 (fr.refl _ _) E8
        have f19 := f4.trans gh19
        refine gl_o F9 ?_
        refine gl_ck hM19.1 ?_
        replace HP := bind_o HP
        obtain ⟨e23, E10, HP⟩ := HP
        obtain ⟨h23, F11, rfl, hM23, gh23⟩ := pl_X12_done (t := t) hM19 (fr.refl _ _) E10
        have f23 := f19.trans gh23
        refine gl_o F11 ?_
        exact gl_end hM23 f23 HP
      · replace HP := ite_F c6 HP
        exact gl_end hM4 f4 HP

set_option maxRecDepth 20000 in
theorem pl_X12_bowls {t : Nat} {h0 : aH} {r : Int32} {e' : mE} {x1 : Int32} {x2 : Int32} {x3 : Int32} {x4 : Int32} {h : aH} (hM : MS t h) (f : fr t h0 h) (HP : P_X12_bowls  x1 x2 x3 x4 (menv t h) = some (r, e')) : Gl t h0 (F_X12_bowls  t x1 x2 x3 x4 h) r e' := by
  unfold P_X12_bowls at HP
  unfold F_X12_bowls
  replace HP := bd_n HP
  obtain ⟨e1, Eh1, HP⟩ := HP
  refine gl_sF 0 hM f (fun h1 hM1 f1 Kh1 => ?_)
  obtain rfl : menv t h1 = e1 := mtr Kh1 Eh1
  replace HP := bind_o HP
  obtain ⟨⟨z5, e4⟩, E1, HP⟩ := HP
  obtain ⟨h4, F2, rfl, hM4, gh4⟩ := pl_X12_find (t := t) hM1 (fr.refl _ _) E1
  have f4 := f1.trans gh4
  refine gl_o F2 (gl_bd (gl_bd ?_))
  replace HP := bd_o (bd_o HP)
  dsimp only at HP ⊢
  refine gl_ite (fun c3 => ?_) (fun c3 => ?_)
  · replace HP := ite_T c3 HP
    exact gl_end hM4 f4 HP
  · replace HP := ite_F c3 HP
    refine gl_ck hM4.1 ?_
    refine gl_o (hM4.2 12 (by decide)).1 ?_
    replace HP := bind_ck HP
    obtain ⟨c4, HP⟩ := HP
    refine gl_ck ⟨(hM4.2 12 (by decide)).2.1, in_of (hM4.2 12 (by decide)).2.2 (by decide) c4⟩ ?_
    try rw [mrd 12 c4.1] at HP
    replace HP := bd_n HP
    obtain ⟨v12, Ev12, HP⟩ := HP
    refine gl_bdv Ev12 ?_
    refine gl_o (hM4.2 12 (by decide)).1 ?_
    replace HP := bind_ck HP
    obtain ⟨c5, HP⟩ := HP
    refine gl_ck ⟨(hM4.2 12 (by decide)).2.1, in_of (hM4.2 12 (by decide)).2.2 (by decide) c5⟩ ?_
    try rw [mrd 12 c5.1] at HP
    replace HP := bd_n HP
    obtain ⟨e16, Eh16, HP⟩ := HP
    refine gl_sI 12 hM4 f4 (by decide) (by first | assumption | exact And.left (by assumption) | decide) (fun h16 hM16 f16 Kh16 => ?_)
    obtain rfl : menv t h16 = e16 := mtr Kh16 Eh16
    replace HP := bind_o HP
    obtain ⟨e19, E6, HP⟩ := HP
    obtain ⟨h19, F7, rfl, hM19, gh19⟩ := pl_X12_done (t := t) hM16 (fr.refl _ _) E6
    have f19 := f16.trans gh19
    refine gl_o F7 ?_
    exact gl_end hM19 f19 HP

set_option maxRecDepth 20000 in
theorem pl_X12_undo_156 {t : Nat} {h0 : aH} {r : Int32} {e' : mE} : ∀ {n : Nat} {x1 : Int32} {x2 : Int32} {x3 : Int32} {x4 : Int32} {h : aH}, MS t h → fr t h0 h → P_X12_undo_156  n x1 x2 x3 x4 (menv t h) = some (r, e') → Gl t h0 (F_X12_undo_156  n t x1 x2 x3 x4 h) r e' := by
  intro n
  induction n with
  | zero => intro x1 x2 x3 x4 h hM f HP; cases HP
  | succ n ih =>
  intro x1 x2 x3 x4 h hM f HP
  unfold P_X12_undo_156 at HP
  unfold F_X12_undo_156
  refine gl_ck hM.1 ?_
  refine gl_o (hM.2 13 (by decide)).1 ?_
  replace HP := bind_ck HP
  obtain ⟨c1, HP⟩ := HP
  refine gl_ck ⟨(hM.2 13 (by decide)).2.1, in_of (hM.2 13 (by decide)).2.2 (by decide) c1⟩ ?_
  try rw [mrd 13 c1.1] at HP
  refine gl_ite (fun c2 => ?_) (fun c2 => ?_)
  · replace HP := ite_T c2 HP
    exact gl_end hM f HP
  · replace HP := ite_F c2 HP
    refine gl_o (hM.2 14 (by decide)).1 ?_
    refine gl_o (hM.2 27 (by decide)).1 ?_
    replace HP := bind_ck HP
    obtain ⟨c3, HP⟩ := HP
    refine gl_ck ⟨(hM.2 27 (by decide)).2.1, in_of (hM.2 27 (by decide)).2.2 (by decide) c3⟩ ?_
    try rw [mrd 27 c3.1] at HP
    replace HP := bind_ck HP
    obtain ⟨c4, HP⟩ := HP
    refine gl_ck ⟨(hM.2 14 (by decide)).2.1, in_of (hM.2 14 (by decide)).2.2 (by decide) c4⟩ ?_
    try rw [mrd 14 c4.1] at HP
    replace HP := bd_n HP
    obtain ⟨e12, Eh12, HP⟩ := HP
    refine gl_sI 14 hM f (by decide) (by first | assumption | exact And.left (by assumption) | decide) (fun h12 hM12 f12 Kh12 => ?_)
    obtain rfl : menv t h12 = e12 := mtr Kh12 Eh12
    replace HP := bd_n HP
    obtain ⟨v14, Ev14, HP⟩ := HP
    refine gl_bdv Ev14 ?_
    exact ih hM12 f12 HP

set_option maxRecDepth 20000 in
theorem pl_X12_undo {t : Nat} {h0 : aH} {r : Int32} {e' : mE} {h : aH} (hM : MS t h) (f : fr t h0 h) (HP : P_X12_undo   (menv t h) = some (r, e')) : Gl t h0 (F_X12_undo  t h) r e' := by
  unfold P_X12_undo at HP
  unfold F_X12_undo
  replace HP := bd_n HP
  obtain ⟨e1, Eh1, HP⟩ := HP
  refine gl_sF 0 hM f (fun h1 hM1 f1 Kh1 => ?_)
  obtain rfl : menv t h1 = e1 := mtr Kh1 Eh1
  refine gl_ite (fun c1 => ?_) (fun c1 => ?_)
  · replace HP := ite_T c1 HP
    exact gl_end hM1 f1 HP
  · replace HP := ite_F c1 HP
    replace HP := bd_n HP
    obtain ⟨e4, Eh4, HP⟩ := HP
    refine gl_sF 20 hM1 f1 (fun h4 hM4 f4 Kh4 => ?_)
    obtain rfl : menv t h4 = e4 := mtr Kh4 Eh4
    replace HP := bd_n HP
    obtain ⟨v6, Ev6, HP⟩ := HP
    refine gl_bdv Ev6 ?_
    refine gl_o (hM4.2 22 (by decide)).1 ?_
    replace HP := bind_ck HP
    obtain ⟨c2, HP⟩ := HP
    refine gl_ck ⟨(hM4.2 22 (by decide)).2.1, in_of (hM4.2 22 (by decide)).2.2 (by decide) c2⟩ ?_
    try rw [mrd 22 c2.1] at HP
    replace HP := bd_n HP
    obtain ⟨v10, Ev10, HP⟩ := HP
    refine gl_bdv Ev10 ?_
    refine gl_o (hM4.2 23 (by decide)).1 ?_
    replace HP := bind_ck HP
    obtain ⟨c3, HP⟩ := HP
    refine gl_ck ⟨(hM4.2 23 (by decide)).2.1, in_of (hM4.2 23 (by decide)).2.2 (by decide) c3⟩ ?_
    try rw [mrd 23 c3.1] at HP
    replace HP := bd_n HP
    obtain ⟨v14, Ev14, HP⟩ := HP
    refine gl_bdv Ev14 ?_
    refine gl_o (hM4.2 21 (by decide)).1 ?_
    replace HP := bind_ck HP
    obtain ⟨c4, HP⟩ := HP
    refine gl_ck ⟨(hM4.2 21 (by decide)).2.1, in_of (hM4.2 21 (by decide)).2.2 (by decide) c4⟩ ?_
    try rw [mrd 21 c4.1] at HP
    refine gl_ite (fun c5 => ?_) (fun c5 => ?_)
    · replace HP := ite_T c5 HP
      refine gl_o (hM4.2 8 (by decide)).1 ?_
      replace HP := bind_ck HP
      obtain ⟨c6, HP⟩ := HP
      refine gl_ck ⟨(hM4.2 8 (by decide)).2.1, in_of (hM4.2 8 (by decide)).2.2 (by decide) c6⟩ ?_
      try rw [mrd 8 c6.1] at HP
      replace HP := bd_n HP
      obtain ⟨e22, Eh22, HP⟩ := HP
      refine gl_sI 8 hM4 f4 (by decide) (by first | assumption | exact And.left (by assumption) | decide) (fun h22 hM22 f22 Kh22 => ?_)
      obtain rfl : menv t h22 = e22 := mtr Kh22 Eh22
      exact gl_end hM22 f22 HP
    · replace HP := ite_F c5 HP
      refine gl_ite (fun c7 => ?_) (fun c7 => ?_)
      · replace HP := ite_T c7 HP
        refine gl_o (hM4.2 9 (by decide)).1 ?_
        refine gl_o (hM4.2 24 (by decide)).1 ?_
        replace HP := bind_ck HP
        obtain ⟨c8, HP⟩ := HP
        refine gl_ck ⟨(hM4.2 24 (by decide)).2.1, in_of (hM4.2 24 (by decide)).2.2 (by decide) c8⟩ ?_
        try rw [mrd 24 c8.1] at HP
        replace HP := bind_ck HP
        obtain ⟨c9, HP⟩ := HP
        refine gl_ck ⟨(hM4.2 9 (by decide)).2.1, in_of (hM4.2 9 (by decide)).2.2 (by decide) c9⟩ ?_
        try rw [mrd 9 c9.1] at HP
        replace HP := bd_n HP
        obtain ⟨e31, Eh31, HP⟩ := HP
        refine gl_sI 9 hM4 f4 (by decide) (by first | assumption | exact And.left (by assumption) | decide) (fun h31 hM31 f31 Kh31 => ?_)
        obtain rfl : menv t h31 = e31 := mtr Kh31 Eh31
        exact gl_end hM31 f31 HP
      · replace HP := ite_F c7 HP
        refine gl_ite (fun c10 => ?_) (fun c10 => ?_)
        · replace HP := ite_T c10 HP
          refine gl_o (hM4.2 24 (by decide)).1 ?_
          replace HP := bind_ck HP
          obtain ⟨c11, HP⟩ := HP
          refine gl_ck ⟨(hM4.2 24 (by decide)).2.1, in_of (hM4.2 24 (by decide)).2.2 (by decide) c11⟩ ?_
          try rw [mrd 24 c11.1] at HP
          replace HP := bind_o HP
          obtain ⟨e38, E12, HP⟩ := HP
          obtain ⟨h38, F13, rfl, hM38, gh38⟩ := pl_X12_remove (t := t) hM4 (fr.refl _ _) E12
          have f38 := f4.trans gh38
          refine gl_o F13 ?_
          exact gl_end hM38 f38 HP
        · replace HP := ite_F c10 HP
          refine gl_ite (fun c14 => ?_) (fun c14 => ?_)
          · replace HP := ite_T c14 HP
            refine gl_o (hM4.2 13 (by decide)).1 ?_
            refine gl_o (hM4.2 26 (by decide)).1 ?_
            replace HP := bind_ck HP
            obtain ⟨c15, HP⟩ := HP
            refine gl_ck ⟨(hM4.2 26 (by decide)).2.1, in_of (hM4.2 26 (by decide)).2.2 (by decide) c15⟩ ?_
            try rw [mrd 26 c15.1] at HP
            replace HP := bind_ck HP
            obtain ⟨c16, HP⟩ := HP
            refine gl_ck ⟨(hM4.2 13 (by decide)).2.1, in_of (hM4.2 13 (by decide)).2.2 (by decide) c16⟩ ?_
            try rw [mrd 13 c16.1] at HP
            replace HP := bd_n HP
            obtain ⟨e47, Eh47, HP⟩ := HP
            refine gl_sI 13 hM4 f4 (by decide) (by first | assumption | exact And.left (by assumption) | decide) (fun h47 hM47 f47 Kh47 => ?_)
            obtain rfl : menv t h47 = e47 := mtr Kh47 Eh47
            exact pl_X12_undo_156  hM47 f47 HP
          · replace HP := ite_F c14 HP
            refine gl_ite (fun c17 => ?_) (fun c17 => ?_)
            · replace HP := ite_T c17 HP
              refine gl_o (hM4.2 24 (by decide)).1 ?_
              replace HP := bind_ck HP
              obtain ⟨c18, HP⟩ := HP
              refine gl_ck ⟨(hM4.2 24 (by decide)).2.1, in_of (hM4.2 24 (by decide)).2.2 (by decide) c18⟩ ?_
              try rw [mrd 24 c18.1] at HP
              replace HP := bind_o HP
              obtain ⟨e54, E19, HP⟩ := HP
              obtain ⟨h54, F20, rfl, hM54, gh54⟩ := pl_X12_remove (t := t) hM4 (fr.refl _ _) E19
              have f54 := f4.trans gh54
              refine gl_o F20 ?_
              exact gl_end hM54 f54 HP
            · replace HP := ite_F c17 HP
              refine gl_ite (fun c21 => ?_) (fun c21 => ?_)
              · replace HP := ite_T c21 HP
                refine gl_o (hM4.2 14 (by decide)).1 ?_
                refine gl_o (hM4.2 24 (by decide)).1 ?_
                replace HP := bind_ck HP
                obtain ⟨c22, HP⟩ := HP
                refine gl_ck ⟨(hM4.2 24 (by decide)).2.1, in_of (hM4.2 24 (by decide)).2.2 (by decide) c22⟩ ?_
                try rw [mrd 24 c22.1] at HP
                refine gl_o (hM4.2 25 (by decide)).1 ?_
                replace HP := bind_ck HP
                obtain ⟨c23, HP⟩ := HP
                refine gl_ck ⟨(hM4.2 25 (by decide)).2.1, in_of (hM4.2 25 (by decide)).2.2 (by decide) c23⟩ ?_
                try rw [mrd 25 c23.1] at HP
                replace HP := bind_ck HP
                obtain ⟨c24, HP⟩ := HP
                refine gl_ck ⟨(hM4.2 14 (by decide)).2.1, in_of (hM4.2 14 (by decide)).2.2 (by decide) c24⟩ ?_
                try rw [mrd 14 c24.1] at HP
                replace HP := bd_n HP
                obtain ⟨e66, Eh66, HP⟩ := HP
                refine gl_sI 14 hM4 f4 (by decide) (by first | assumption | exact And.left (by assumption) | decide) (fun h66 hM66 f66 Kh66 => ?_)
                obtain rfl : menv t h66 = e66 := mtr Kh66 Eh66
                exact gl_end hM66 f66 HP
              · replace HP := ite_F c21 HP
                refine gl_ite (fun c25 => ?_) (fun c25 => ?_)
                · replace HP := ite_T c25 HP
                  refine gl_o (hM4.2 24 (by decide)).1 ?_
                  replace HP := bind_ck HP
                  obtain ⟨c26, HP⟩ := HP
                  refine gl_ck ⟨(hM4.2 24 (by decide)).2.1, in_of (hM4.2 24 (by decide)).2.2 (by decide) c26⟩ ?_
                  try rw [mrd 24 c26.1] at HP
                  refine gl_o (hM4.2 25 (by decide)).1 ?_
                  replace HP := bind_ck HP
                  obtain ⟨c27, HP⟩ := HP
                  refine gl_ck ⟨(hM4.2 25 (by decide)).2.1, in_of (hM4.2 25 (by decide)).2.2 (by decide) c27⟩ ?_
                  try rw [mrd 25 c27.1] at HP
                  replace HP := bind_o HP
                  obtain ⟨e76, E28, HP⟩ := HP
                  obtain ⟨h76, F29, rfl, hM76, gh76⟩ := pl_X12_insert (t := t) hM4 (fr.refl _ _) E28
                  have f76 := f4.trans gh76
                  refine gl_o F29 ?_
                  exact gl_end hM76 f76 HP
                · replace HP := ite_F c25 HP
                  refine gl_o (hM4.2 12 (by decide)).1 ?_
                  refine gl_o (hM4.2 25 (by decide)).1 ?_
                  replace HP := bind_ck HP
                  obtain ⟨c30, HP⟩ := HP
                  refine gl_ck ⟨(hM4.2 25 (by decide)).2.1, in_of (hM4.2 25 (by decide)).2.2 (by decide) c30⟩ ?_
                  try rw [mrd 25 c30.1] at HP
                  replace HP := bind_ck HP
                  obtain ⟨c31, HP⟩ := HP
                  refine gl_ck ⟨(hM4.2 12 (by decide)).2.1, in_of (hM4.2 12 (by decide)).2.2 (by decide) c31⟩ ?_
                  try rw [mrd 12 c31.1] at HP
                  replace HP := bd_n HP
                  obtain ⟨e84, Eh84, HP⟩ := HP
                  refine gl_sI 12 hM4 f4 (by decide) (by first | assumption | exact And.left (by assumption) | decide) (fun h84 hM84 f84 Kh84 => ?_)
                  obtain rfl : menv t h84 = e84 := mtr Kh84 Eh84
                  exact gl_end hM84 f84 HP

set_option maxRecDepth 20000 in
theorem pl_X12_why {t : Nat} {h0 : aH} {r : Int32} {e' : mE} {h : aH} (hM : MS t h) (f : fr t h0 h) (HP : P_X12_why   (menv t h) = some (r, e')) : Gl t h0 (F_X12_why  t h) r e' := by
  unfold P_X12_why at HP
  unfold F_X12_why
  replace HP := bd_n HP
  obtain ⟨e1, Eh1, HP⟩ := HP
  refine gl_sF 0 hM f (fun h1 hM1 f1 Kh1 => ?_)
  obtain rfl : menv t h1 = e1 := mtr Kh1 Eh1
  exact gl_end hM1 f1 HP

set_option maxRecDepth 20000 in
theorem pl_X12_more {t : Nat} {h0 : aH} {r : Int32} {e' : mE} {x1 : Int32} {h : aH} (hM : MS t h) (f : fr t h0 h) (HP : P_X12_more  x1 (menv t h) = some (r, e')) : Gl t h0 (F_X12_more  t x1 h) r e' := by
  unfold P_X12_more at HP
  unfold F_X12_more
  refine gl_o (hM.2 41 (by decide)).1 ?_
  replace HP := bind_ck HP
  obtain ⟨c1, HP⟩ := HP
  refine gl_ck ⟨(hM.2 41 (by decide)).2.1, in_of (hM.2 41 (by decide)).2.2 (by decide) c1⟩ ?_
  try rw [mrd 41 c1.1] at HP
  refine gl_ite (fun c2 => ?_) (fun c2 => ?_)
  · replace HP := ite_T c2 HP
    replace HP := bind_o HP
    obtain ⟨⟨z7, e6⟩, E3, HP⟩ := HP
    obtain ⟨h6, F4, rfl, hM6, gh6⟩ := pl_X12_left (t := t) hM (fr.refl _ _) E3
    have f6 := f.trans gh6
    refine gl_o F4 (gl_bd (gl_bd ?_))
    replace HP := bd_o (bd_o HP)
    dsimp only at HP ⊢
    exact gl_end hM6 f6 HP
  · replace HP := ite_F c2 HP
    exact gl_end hM f HP

set_option maxRecDepth 20000 in
theorem pl_X12_nowOf {t : Nat} {h0 : aH} {r : Int32} {e' : mE} {x1 : Int32} {x2 : Int32} {h : aH} (hM : MS t h) (f : fr t h0 h) (HP : P_X12_nowOf  x1 x2 (menv t h) = some (r, e')) : Gl t h0 (F_X12_nowOf  t x1 x2 h) r e' := by
  unfold P_X12_nowOf at HP
  unfold F_X12_nowOf
  replace HP := bd_n HP
  obtain ⟨v1, Ev1, HP⟩ := HP
  refine gl_bdv Ev1 ?_
  refine gl_ite (fun c1 => ?_) (fun c1 => ?_)
  · replace HP := ite_T c1 HP
    exact gl_end hM f HP
  · replace HP := ite_F c1 HP
    refine gl_ite (fun c2 => ?_) (fun c2 => ?_)
    · replace HP := ite_T c2 HP
      refine gl_ite (fun c3 => ?_) (fun c3 => ?_)
      · replace HP := ite_T c3 HP
        refine gl_o (hM.2 45 (by decide)).1 ?_
        replace HP := bind_ck HP
        obtain ⟨c4, HP⟩ := HP
        refine gl_ck ⟨(hM.2 45 (by decide)).2.1, in_of (hM.2 45 (by decide)).2.2 (by decide) c4⟩ ?_
        try rw [mrd 45 c4.1] at HP
        exact gl_end hM f HP
      · replace HP := ite_F c3 HP
        exact gl_end hM f HP
    · replace HP := ite_F c2 HP
      refine gl_ite (fun c5 => ?_) (fun c5 => ?_)
      · replace HP := ite_T c5 HP
        refine gl_ite (fun c6 => ?_) (fun c6 => ?_)
        · replace HP := ite_T c6 HP
          refine gl_o (hM.2 46 (by decide)).1 ?_
          replace HP := bind_ck HP
          obtain ⟨c7, HP⟩ := HP
          refine gl_ck ⟨(hM.2 46 (by decide)).2.1, in_of (hM.2 46 (by decide)).2.2 (by decide) c7⟩ ?_
          try rw [mrd 46 c7.1] at HP
          exact gl_end hM f HP
        · replace HP := ite_F c6 HP
          exact gl_end hM f HP
      · replace HP := ite_F c5 HP
        refine gl_ite (fun c8 => ?_) (fun c8 => ?_)
        · replace HP := ite_T c8 HP
          refine gl_ite (fun c9 => ?_) (fun c9 => ?_)
          · replace HP := ite_T c9 HP
            refine gl_o (hM.2 51 (by decide)).1 ?_
            replace HP := bind_ck HP
            obtain ⟨c10, HP⟩ := HP
            refine gl_ck ⟨(hM.2 51 (by decide)).2.1, in_of (hM.2 51 (by decide)).2.2 (by decide) c10⟩ ?_
            try rw [mrd 51 c10.1] at HP
            exact gl_end hM f HP
          · replace HP := ite_F c9 HP
            exact gl_end hM f HP
        · replace HP := ite_F c8 HP
          refine gl_ite (fun c11 => ?_) (fun c11 => ?_)
          · replace HP := ite_T c11 HP
            refine gl_ite (fun c12 => ?_) (fun c12 => ?_)
            · replace HP := ite_T c12 HP
              replace HP := bind_o HP
              obtain ⟨⟨z22, e21⟩, E13, HP⟩ := HP
              obtain ⟨h21, F14, rfl, hM21, gh21⟩ := pl_X12_left (t := t) hM (fr.refl _ _) E13
              have f21 := f.trans gh21
              refine gl_o F14 (gl_bd (gl_bd ?_))
              replace HP := bd_o (bd_o HP)
              dsimp only at HP ⊢
              exact gl_end hM21 f21 HP
            · replace HP := ite_F c12 HP
              exact gl_end hM f HP
          · replace HP := ite_F c11 HP
            refine gl_ite (fun c15 => ?_) (fun c15 => ?_)
            · replace HP := ite_T c15 HP
              refine gl_ite (fun c16 => ?_) (fun c16 => ?_)
              · replace HP := ite_T c16 HP
                refine gl_o (hM.2 41 (by decide)).1 ?_
                replace HP := bind_ck HP
                obtain ⟨c17, HP⟩ := HP
                refine gl_ck ⟨(hM.2 41 (by decide)).2.1, in_of (hM.2 41 (by decide)).2.2 (by decide) c17⟩ ?_
                try rw [mrd 41 c17.1] at HP
                exact gl_end hM f HP
              · replace HP := ite_F c16 HP
                exact gl_end hM f HP
            · replace HP := ite_F c15 HP
              refine gl_ite (fun c18 => ?_) (fun c18 => ?_)
              · replace HP := ite_T c18 HP
                replace HP := bind_o HP
                obtain ⟨⟨z32, e31⟩, E19, HP⟩ := HP
                obtain ⟨h31, F20, rfl, hM31, gh31⟩ := pl_X12_lastTurn (t := t) hM (fr.refl _ _) E19
                have f31 := f.trans gh31
                refine gl_o F20 (gl_bd (gl_bd ?_))
                replace HP := bd_o (bd_o HP)
                dsimp only at HP ⊢
                refine gl_ite (fun c21 => ?_) (fun c21 => ?_)
                · replace HP := ite_T c21 HP
                  refine gl_ck hM31.1 ?_
                  exact gl_end hM31 f31 HP
                · replace HP := ite_F c21 HP
                  exact gl_end hM31 f31 HP
              · replace HP := ite_F c18 HP
                refine gl_ite (fun c22 => ?_) (fun c22 => ?_)
                · replace HP := ite_T c22 HP
                  replace HP := bind_o HP
                  obtain ⟨⟨z39, e38⟩, E23, HP⟩ := HP
                  obtain ⟨h38, F24, rfl, hM38, gh38⟩ := pl_X12_lastTurn (t := t) hM (fr.refl _ _) E23
                  have f38 := f.trans gh38
                  refine gl_o F24 (gl_bd (gl_bd ?_))
                  replace HP := bd_o (bd_o HP)
                  dsimp only at HP ⊢
                  refine gl_ite (fun c25 => ?_) (fun c25 => ?_)
                  · replace HP := ite_T c25 HP
                    refine gl_ck hM38.1 ?_
                    refine gl_o (hM38.2 35 (by decide)).1 ?_
                    replace HP := bind_ck HP
                    obtain ⟨c26, HP⟩ := HP
                    refine gl_ck ⟨(hM38.2 35 (by decide)).2.1, in_of (hM38.2 35 (by decide)).2.2 (by decide) c26⟩ ?_
                    try rw [mrd 35 c26.1] at HP
                    replace HP := bd_n HP
                    obtain ⟨z46, Ez46, HP⟩ := HP
                    refine gl_bdv Ez46 ?_
                    exact gl_end hM38 f38 HP
                  · replace HP := ite_F c25 HP
                    exact gl_end hM38 f38 HP
                · replace HP := ite_F c22 HP
                  refine gl_ite (fun c27 => ?_) (fun c27 => ?_)
                  · replace HP := ite_T c27 HP
                    replace HP := bind_o HP
                    obtain ⟨⟨z50, e49⟩, E28, HP⟩ := HP
                    obtain ⟨h49, F29, rfl, hM49, gh49⟩ := pl_X12_lastTurn (t := t) hM (fr.refl _ _) E28
                    have f49 := f.trans gh49
                    refine gl_o F29 (gl_bd (gl_bd ?_))
                    replace HP := bd_o (bd_o HP)
                    dsimp only at HP ⊢
                    refine gl_ite (fun c30 => ?_) (fun c30 => ?_)
                    · replace HP := ite_T c30 HP
                      refine gl_ck hM49.1 ?_
                      refine gl_o (hM49.2 35 (by decide)).1 ?_
                      replace HP := bind_ck HP
                      obtain ⟨c31, HP⟩ := HP
                      refine gl_ck ⟨(hM49.2 35 (by decide)).2.1, in_of (hM49.2 35 (by decide)).2.2 (by decide) c31⟩ ?_
                      try rw [mrd 35 c31.1] at HP
                      replace HP := bind_o HP
                      obtain ⟨⟨z59, e58⟩, E32, HP⟩ := HP
                      obtain ⟨h58, F33, rfl, hM58, gh58⟩ := pl_X12_more (t := t) hM49 (fr.refl _ _) E32
                      have f58 := f49.trans gh58
                      refine gl_o F33 (gl_bd (gl_bd ?_))
                      replace HP := bd_o (bd_o HP)
                      dsimp only at HP ⊢
                      refine gl_ite (fun c34 => ?_) (fun c34 => ?_)
                      · replace HP := ite_T c34 HP
                        exact gl_end hM58 f58 HP
                      · replace HP := ite_F c34 HP
                        exact gl_end hM58 f58 HP
                    · replace HP := ite_F c30 HP
                      exact gl_end hM49 f49 HP
                  · replace HP := ite_F c27 HP
                    refine gl_ite (fun c35 => ?_) (fun c35 => ?_)
                    · replace HP := ite_T c35 HP
                      refine gl_ite (fun c36 => ?_) (fun c36 => ?_)
                      · replace HP := ite_T c36 HP
                        refine gl_o (hM.2 35 (by decide)).1 ?_
                        replace HP := bind_ck HP
                        obtain ⟨c37, HP⟩ := HP
                        refine gl_ck ⟨(hM.2 35 (by decide)).2.1, in_of (hM.2 35 (by decide)).2.2 (by decide) c37⟩ ?_
                        try rw [mrd 35 c37.1] at HP
                        replace HP := bind_o HP
                        obtain ⟨⟨z69, e68⟩, E38, HP⟩ := HP
                        obtain ⟨h68, F39, rfl, hM68, gh68⟩ := pl_X12_more (t := t) hM (fr.refl _ _) E38
                        have f68 := f.trans gh68
                        refine gl_o F39 (gl_bd (gl_bd ?_))
                        replace HP := bd_o (bd_o HP)
                        dsimp only at HP ⊢
                        exact gl_end hM68 f68 HP
                      · replace HP := ite_F c36 HP
                        exact gl_end hM f HP
                    · replace HP := ite_F c35 HP
                      refine gl_ite (fun c40 => ?_) (fun c40 => ?_)
                      · replace HP := ite_T c40 HP
                        exact gl_end hM f HP
                      · replace HP := ite_F c40 HP
                        refine gl_ite (fun c41 => ?_) (fun c41 => ?_)
                        · replace HP := ite_T c41 HP
                          exact gl_end hM f HP
                        · replace HP := ite_F c41 HP
                          refine gl_ite (fun c42 => ?_) (fun c42 => ?_)
                          · replace HP := ite_T c42 HP
                            exact gl_end hM f HP
                          · replace HP := ite_F c42 HP
                            refine gl_ite (fun c43 => ?_) (fun c43 => ?_)
                            · replace HP := ite_T c43 HP
                              exact gl_end hM f HP
                            · replace HP := ite_F c43 HP
                              exact gl_end hM f HP

set_option maxRecDepth 20000 in
theorem pl_X12_now_23 {t : Nat} {h0 : aH} {r : Int32} {e' : mE} {h : aH} (hM : MS t h) (f : fr t h0 h) (HP : P_X12_now_23   (menv t h) = some (r, e')) : Gl t h0 (F_X12_now_23  t h) r e' := by
  unfold P_X12_now_23 at HP
  unfold F_X12_now_23
  refine gl_ck hM.1 ?_
  replace HP := bind_o HP
  obtain ⟨⟨z4, e3⟩, E1, HP⟩ := HP
  obtain ⟨h3, F2, rfl, hM3, gh3⟩ := pl_X12_fail (t := t) hM (fr.refl _ _) E1
  have f3 := f.trans gh3
  refine gl_o F2 (gl_bd (gl_bd ?_))
  replace HP := bd_o (bd_o HP)
  dsimp only at HP ⊢
  exact gl_end hM3 f3 HP

set_option maxRecDepth 20000 in
theorem pl_X12_now {t : Nat} {h0 : aH} {r : Int32} {e' : mE} {x1 : Int32} {x2 : Int32} {h : aH} (hM : MS t h) (f : fr t h0 h) (HP : P_X12_now  x1 x2 (menv t h) = some (r, e')) : Gl t h0 (F_X12_now  t x1 x2 h) r e' := by
  unfold P_X12_now at HP
  unfold F_X12_now
  replace HP := bd_n HP
  obtain ⟨e1, Eh1, HP⟩ := HP
  refine gl_sF 0 hM f (fun h1 hM1 f1 Kh1 => ?_)
  obtain rfl : menv t h1 = e1 := mtr Kh1 Eh1
  replace HP := bind_o HP
  obtain ⟨⟨z5, e4⟩, E1, HP⟩ := HP
  obtain ⟨h4, F2, rfl, hM4, gh4⟩ := pl_X12_isGame (t := t) hM1 (fr.refl _ _) E1
  have f4 := f1.trans gh4
  refine gl_o F2 (gl_bd (gl_bd ?_))
  replace HP := bd_o (bd_o HP)
  dsimp only at HP ⊢
  refine gl_ite (fun c3 => ?_) (fun c3 => ?_)
  · replace HP := ite_T c3 HP
    exact pl_X12_now_23  hM4 f4 HP
  · replace HP := ite_F c3 HP
    refine gl_ite (fun c4 => ?_) (fun c4 => ?_)
    · replace HP := ite_T c4 HP
      exact pl_X12_now_23  hM4 f4 HP
    · replace HP := ite_F c4 HP
      refine gl_ite (fun c5 => ?_) (fun c5 => ?_)
      · replace HP := ite_T c5 HP
        refine gl_ck hM4.1 ?_
        replace HP := bind_o HP
        obtain ⟨e12, E6, HP⟩ := HP
        obtain ⟨h12, F7, rfl, hM12, gh12⟩ := pl_X12_play (t := t) hM4 (fr.refl _ _) E6
        have f12 := f4.trans gh12
        refine gl_o F7 ?_
        refine gl_ck hM12.1 ?_
        replace HP := bind_o HP
        obtain ⟨⟨z17, e16⟩, E8, HP⟩ := HP
        obtain ⟨h16, F9, rfl, hM16, gh16⟩ := pl_X12_nowOf (t := t) hM12 (fr.refl _ _) E8
        have f16 := f12.trans gh16
        refine gl_o F9 (gl_bd (gl_bd ?_))
        replace HP := bd_o (bd_o HP)
        dsimp only at HP ⊢
        exact gl_end hM16 f16 HP
      · replace HP := ite_F c5 HP
        exact pl_X12_now_23  hM4 f4 HP

set_option maxRecDepth 20000 in
theorem pl_X12_sumOf_98 {t : Nat} {h0 : aH} {r : Int32} {e' : mE} : ∀ {n : Nat} {x1 : Int32} {x2 : Int32} {x3 : Int32} {x4 : Int32} {x5 : Int32} {h : aH}, MS t h → fr t h0 h → P_X12_sumOf_98  n x1 x2 x3 x4 x5 (menv t h) = some (r, e') → Gl t h0 (F_X12_sumOf_98  n t x1 x2 x3 x4 x5 h) r e' := by
  intro n
  induction n with
  | zero => intro x1 x2 x3 x4 x5 h hM f HP; cases HP
  | succ n ih =>
  intro x1 x2 x3 x4 x5 h hM f HP
  unfold P_X12_sumOf_98 at HP
  unfold F_X12_sumOf_98
  refine gl_ck hM.1 ?_
  refine gl_o (hM.2 9 (by decide)).1 ?_
  replace HP := bind_ck HP
  obtain ⟨c1, HP⟩ := HP
  refine gl_ck ⟨(hM.2 9 (by decide)).2.1, in_of (hM.2 9 (by decide)).2.2 (by decide) c1⟩ ?_
  try rw [mrd 9 c1.1] at HP
  refine gl_ite (fun c2 => ?_) (fun c2 => ?_)
  · replace HP := ite_T c2 HP
    exact gl_end hM f HP
  · replace HP := ite_F c2 HP
    refine gl_ite (fun c3 => ?_) (fun c3 => ?_)
    · replace HP := ite_T c3 HP
      refine gl_o (hM.2 59 (by decide)).1 ?_
      replace HP := bind_o HP
      obtain ⟨⟨z11, e10⟩, E4, HP⟩ := HP
      obtain ⟨h10, F5, rfl, hM10, gh10⟩ := pl_X12_rowOf (t := t) hM (fr.refl _ _) E4
      have f10 := f.trans gh10
      refine gl_o F5 (gl_bd (gl_bd ?_))
      replace HP := bd_o (bd_o HP)
      dsimp only at HP ⊢
      replace HP := bind_ck HP
      obtain ⟨c6, HP⟩ := HP
      refine gl_ck ⟨(hM10.2 59 (by decide)).2.1, in_of (hM10.2 59 (by decide)).2.2 (by decide) c6⟩ ?_
      try rw [mrd 59 c6.1] at HP
      replace HP := bd_n HP
      obtain ⟨v14, Ev14, HP⟩ := HP
      refine gl_bdv Ev14 ?_
      replace HP := bd_n HP
      obtain ⟨v15, Ev15, HP⟩ := HP
      refine gl_bdv Ev15 ?_
      exact ih hM10 f10 HP
    · replace HP := ite_F c3 HP
      exact gl_end hM f HP

set_option maxRecDepth 20000 in
theorem pl_X12_sumOf_86 {t : Nat} {h0 : aH} {r : Int32} {e' : mE} {qk39 : Int32 → Int32 → Int32 → Int32 → Int32 → mE → Option (Int32 × mE)} {k39 : Nat → Int32 → Int32 → Int32 → Int32 → Int32 → aH → Option (Int32 × aH)} (hk39 : ∀ {u1 : Int32} {u2 : Int32} {u3 : Int32} {u4 : Int32} {u5 : Int32} {h : aH}, MS t h → fr t h0 h → qk39 u1 u2 u3 u4 u5 (menv t h) = some (r, e') → Gl t h0 (k39 t u1 u2 u3 u4 u5 h) r e') {x1 : Int32} {x2 : Int32} {x3 : Int32} {x5 : Int32} {y0 : Int32} {y1 : Int32} {h : aH} (hM : MS t h) (f : fr t h0 h) (HP : P_X12_sumOf_86 qk39 x1 x2 x3 x5 y0 y1 (menv t h) = some (r, e')) : Gl t h0 (F_X12_sumOf_86 k39 t x1 x2 x3 x5 y0 y1 h) r e' := by
  unfold P_X12_sumOf_86 at HP
  unfold F_X12_sumOf_86
  replace HP := bd_n HP
  obtain ⟨v1, Ev1, HP⟩ := HP
  refine gl_bdv Ev1 ?_
  replace HP := bd_n HP
  obtain ⟨v2, Ev2, HP⟩ := HP
  refine gl_bdv Ev2 ?_
  exact hk39 hM f HP

set_option maxRecDepth 20000 in
theorem pl_X12_sumOf_39 {t : Nat} {h0 : aH} {r : Int32} {e' : mE} : ∀ {n : Nat} {x1 : Int32} {x2 : Int32} {x3 : Int32} {x4 : Int32} {x5 : Int32} {h : aH}, MS t h → fr t h0 h → P_X12_sumOf_39  n x1 x2 x3 x4 x5 (menv t h) = some (r, e') → Gl t h0 (F_X12_sumOf_39  n t x1 x2 x3 x4 x5 h) r e' := by
  intro n
  induction n with
  | zero => intro x1 x2 x3 x4 x5 h hM f HP; cases HP
  | succ n ih =>
  intro x1 x2 x3 x4 x5 h hM f HP
  unfold P_X12_sumOf_39 at HP
  unfold F_X12_sumOf_39
  refine gl_ite (fun c1 => ?_) (fun c1 => ?_)
  · replace HP := ite_T c1 HP
    exact pl_X12_sumOf_98  hM f HP
  · replace HP := ite_F c1 HP
    refine gl_ite (fun c2 => ?_) (fun c2 => ?_)
    · replace HP := ite_T c2 HP
      refine gl_ck hM.1 ?_
      refine gl_o (hM.2 53 (by decide)).1 ?_
      replace HP := bind_ck HP
      obtain ⟨c3, HP⟩ := HP
      refine gl_ck ⟨(hM.2 53 (by decide)).2.1, in_of (hM.2 53 (by decide)).2.2 (by decide) c3⟩ ?_
      try rw [mrd 53 c3.1] at HP
      exact pl_X12_sumOf_86 (fun hm ff hp => ih hm ff hp) hM f HP
    · replace HP := ite_F c2 HP
      refine gl_ite (fun c4 => ?_) (fun c4 => ?_)
      · replace HP := ite_T c4 HP
        refine gl_ck hM.1 ?_
        refine gl_o (hM.2 57 (by decide)).1 ?_
        replace HP := bind_ck HP
        obtain ⟨c5, HP⟩ := HP
        refine gl_ck ⟨(hM.2 57 (by decide)).2.1, in_of (hM.2 57 (by decide)).2.2 (by decide) c5⟩ ?_
        try rw [mrd 57 c5.1] at HP
        exact pl_X12_sumOf_86 (fun hm ff hp => ih hm ff hp) hM f HP
      · replace HP := ite_F c4 HP
        exact pl_X12_sumOf_86 (fun hm ff hp => ih hm ff hp) hM f HP

set_option maxRecDepth 20000 in
theorem pl_X12_sumOf_31 {t : Nat} {h0 : aH} {r : Int32} {e' : mE} {x1 : Int32} {x2 : Int32} {x3 : Int32} {y0 : Int32} {h : aH} (hM : MS t h) (f : fr t h0 h) (HP : P_X12_sumOf_31  x1 x2 x3 y0 (menv t h) = some (r, e')) : Gl t h0 (F_X12_sumOf_31  t x1 x2 x3 y0 h) r e' := by
  unfold P_X12_sumOf_31 at HP
  unfold F_X12_sumOf_31
  replace HP := bd_n HP
  obtain ⟨v1, Ev1, HP⟩ := HP
  refine gl_bdv Ev1 ?_
  exact pl_X12_sumOf_39  hM f HP

set_option maxRecDepth 20000 in
theorem pl_X12_sumOf {t : Nat} {h0 : aH} {r : Int32} {e' : mE} {x1 : Int32} {x2 : Int32} {x3 : Int32} {h : aH} (hM : MS t h) (f : fr t h0 h) (HP : P_X12_sumOf  x1 x2 x3 (menv t h) = some (r, e')) : Gl t h0 (F_X12_sumOf  t x1 x2 x3 h) r e' := by
  unfold P_X12_sumOf at HP
  unfold F_X12_sumOf
  refine gl_ite (fun c1 => ?_) (fun c1 => ?_)
  · replace HP := ite_T c1 HP
    refine gl_o (hM.2 39 (by decide)).1 ?_
    replace HP := bind_ck HP
    obtain ⟨c2, HP⟩ := HP
    refine gl_ck ⟨(hM.2 39 (by decide)).2.1, in_of (hM.2 39 (by decide)).2.2 (by decide) c2⟩ ?_
    try rw [mrd 39 c2.1] at HP
    exact pl_X12_sumOf_31  hM f HP
  · replace HP := ite_F c1 HP
    refine gl_ite (fun c3 => ?_) (fun c3 => ?_)
    · replace HP := ite_T c3 HP
      refine gl_o (hM.2 48 (by decide)).1 ?_
      replace HP := bind_ck HP
      obtain ⟨c4, HP⟩ := HP
      refine gl_ck ⟨(hM.2 48 (by decide)).2.1, in_of (hM.2 48 (by decide)).2.2 (by decide) c4⟩ ?_
      try rw [mrd 48 c4.1] at HP
      exact pl_X12_sumOf_31  hM f HP
    · replace HP := ite_F c3 HP
      exact pl_X12_sumOf_31  hM f HP

set_option maxRecDepth 20000 in
theorem pl_X12_scoreOf {t : Nat} {h0 : aH} {r : Int32} {e' : mE} {x1 : Int32} {x2 : Int32} {x3 : Int32} {h : aH} (hM : MS t h) (f : fr t h0 h) (HP : P_X12_scoreOf  x1 x2 x3 (menv t h) = some (r, e')) : Gl t h0 (F_X12_scoreOf  t x1 x2 x3 h) r e' := by
  unfold P_X12_scoreOf at HP
  unfold F_X12_scoreOf
  refine gl_ite (fun c1 => ?_) (fun c1 => ?_)
  · replace HP := ite_T c1 HP
    refine gl_o (hM.2 35 (by decide)).1 ?_
    replace HP := bind_ck HP
    obtain ⟨c2, HP⟩ := HP
    refine gl_ck ⟨(hM.2 35 (by decide)).2.1, in_of (hM.2 35 (by decide)).2.2 (by decide) c2⟩ ?_
    try rw [mrd 35 c2.1] at HP
    exact gl_end hM f HP
  · replace HP := ite_F c1 HP
    refine gl_ite (fun c3 => ?_) (fun c3 => ?_)
    · replace HP := ite_T c3 HP
      refine gl_o (hM.2 36 (by decide)).1 ?_
      replace HP := bind_ck HP
      obtain ⟨c4, HP⟩ := HP
      refine gl_ck ⟨(hM.2 36 (by decide)).2.1, in_of (hM.2 36 (by decide)).2.2 (by decide) c4⟩ ?_
      try rw [mrd 36 c4.1] at HP
      exact gl_end hM f HP
    · replace HP := ite_F c3 HP
      refine gl_ite (fun c5 => ?_) (fun c5 => ?_)
      · replace HP := ite_T c5 HP
        refine gl_o (hM.2 37 (by decide)).1 ?_
        replace HP := bind_ck HP
        obtain ⟨c6, HP⟩ := HP
        refine gl_ck ⟨(hM.2 37 (by decide)).2.1, in_of (hM.2 37 (by decide)).2.2 (by decide) c6⟩ ?_
        try rw [mrd 37 c6.1] at HP
        exact gl_end hM f HP
      · replace HP := ite_F c5 HP
        refine gl_ite (fun c7 => ?_) (fun c7 => ?_)
        · replace HP := ite_T c7 HP
          refine gl_o (hM.2 38 (by decide)).1 ?_
          replace HP := bind_ck HP
          obtain ⟨c8, HP⟩ := HP
          refine gl_ck ⟨(hM.2 38 (by decide)).2.1, in_of (hM.2 38 (by decide)).2.2 (by decide) c8⟩ ?_
          try rw [mrd 38 c8.1] at HP
          exact gl_end hM f HP
        · replace HP := ite_F c7 HP
          refine gl_ite (fun c9 => ?_) (fun c9 => ?_)
          · replace HP := ite_T c9 HP
            refine gl_o (hM.2 39 (by decide)).1 ?_
            replace HP := bind_ck HP
            obtain ⟨c10, HP⟩ := HP
            refine gl_ck ⟨(hM.2 39 (by decide)).2.1, in_of (hM.2 39 (by decide)).2.2 (by decide) c10⟩ ?_
            try rw [mrd 39 c10.1] at HP
            exact gl_end hM f HP
          · replace HP := ite_F c9 HP
            refine gl_ite (fun c11 => ?_) (fun c11 => ?_)
            · replace HP := ite_T c11 HP
              refine gl_o (hM.2 40 (by decide)).1 ?_
              replace HP := bind_ck HP
              obtain ⟨c12, HP⟩ := HP
              refine gl_ck ⟨(hM.2 40 (by decide)).2.1, in_of (hM.2 40 (by decide)).2.2 (by decide) c12⟩ ?_
              try rw [mrd 40 c12.1] at HP
              exact gl_end hM f HP
            · replace HP := ite_F c11 HP
              refine gl_ite (fun c13 => ?_) (fun c13 => ?_)
              · replace HP := ite_T c13 HP
                refine gl_o (hM.2 41 (by decide)).1 ?_
                replace HP := bind_ck HP
                obtain ⟨c14, HP⟩ := HP
                refine gl_ck ⟨(hM.2 41 (by decide)).2.1, in_of (hM.2 41 (by decide)).2.2 (by decide) c14⟩ ?_
                try rw [mrd 41 c14.1] at HP
                exact gl_end hM f HP
              · replace HP := ite_F c13 HP
                refine gl_ite (fun c15 => ?_) (fun c15 => ?_)
                · replace HP := ite_T c15 HP
                  refine gl_o (hM.2 42 (by decide)).1 ?_
                  replace HP := bind_ck HP
                  obtain ⟨c16, HP⟩ := HP
                  refine gl_ck ⟨(hM.2 42 (by decide)).2.1, in_of (hM.2 42 (by decide)).2.2 (by decide) c16⟩ ?_
                  try rw [mrd 42 c16.1] at HP
                  exact gl_end hM f HP
                · replace HP := ite_F c15 HP
                  refine gl_ite (fun c17 => ?_) (fun c17 => ?_)
                  · replace HP := ite_T c17 HP
                    refine gl_o (hM.2 43 (by decide)).1 ?_
                    replace HP := bind_ck HP
                    obtain ⟨c18, HP⟩ := HP
                    refine gl_ck ⟨(hM.2 43 (by decide)).2.1, in_of (hM.2 43 (by decide)).2.2 (by decide) c18⟩ ?_
                    try rw [mrd 43 c18.1] at HP
                    exact gl_end hM f HP
                  · replace HP := ite_F c17 HP
                    refine gl_ite (fun c19 => ?_) (fun c19 => ?_)
                    · replace HP := ite_T c19 HP
                      refine gl_o (hM.2 52 (by decide)).1 ?_
                      replace HP := bind_ck HP
                      obtain ⟨c20, HP⟩ := HP
                      refine gl_ck ⟨(hM.2 52 (by decide)).2.1, in_of (hM.2 52 (by decide)).2.2 (by decide) c20⟩ ?_
                      try rw [mrd 52 c20.1] at HP
                      refine gl_ite (fun c21 => ?_) (fun c21 => ?_)
                      · replace HP := ite_T c21 HP
                        exact gl_end hM f HP
                      · replace HP := ite_F c21 HP
                        exact gl_end hM f HP
                    · replace HP := ite_F c19 HP
                      refine gl_ite (fun c22 => ?_) (fun c22 => ?_)
                      · replace HP := ite_T c22 HP
                        refine gl_o (hM.2 9 (by decide)).1 ?_
                        replace HP := bind_ck HP
                        obtain ⟨c23, HP⟩ := HP
                        refine gl_ck ⟨(hM.2 9 (by decide)).2.1, in_of (hM.2 9 (by decide)).2.2 (by decide) c23⟩ ?_
                        try rw [mrd 9 c23.1] at HP
                        exact gl_end hM f HP
                      · replace HP := ite_F c22 HP
                        refine gl_ite (fun c24 => ?_) (fun c24 => ?_)
                        · replace HP := ite_T c24 HP
                          replace HP := bind_o HP
                          obtain ⟨⟨z49, e48⟩, E25, HP⟩ := HP
                          obtain ⟨h48, F26, rfl, hM48, gh48⟩ := pl_X12_sumOf (t := t) hM (fr.refl _ _) E25
                          have f48 := f.trans gh48
                          refine gl_o F26 (gl_bd (gl_bd ?_))
                          replace HP := bd_o (bd_o HP)
                          dsimp only at HP ⊢
                          exact gl_end hM48 f48 HP
                        · replace HP := ite_F c24 HP
                          refine gl_ite (fun c27 => ?_) (fun c27 => ?_)
                          · replace HP := ite_T c27 HP
                            replace HP := bind_o HP
                            obtain ⟨⟨z54, e53⟩, E28, HP⟩ := HP
                            obtain ⟨h53, F29, rfl, hM53, gh53⟩ := pl_X12_sumOf (t := t) hM (fr.refl _ _) E28
                            have f53 := f.trans gh53
                            refine gl_o F29 (gl_bd (gl_bd ?_))
                            replace HP := bd_o (bd_o HP)
                            dsimp only at HP ⊢
                            exact gl_end hM53 f53 HP
                          · replace HP := ite_F c27 HP
                            refine gl_ite (fun c30 => ?_) (fun c30 => ?_)
                            · replace HP := ite_T c30 HP
                              replace HP := bind_o HP
                              obtain ⟨⟨z59, e58⟩, E31, HP⟩ := HP
                              obtain ⟨h58, F32, rfl, hM58, gh58⟩ := pl_X12_sumOf (t := t) hM (fr.refl _ _) E31
                              have f58 := f.trans gh58
                              refine gl_o F32 (gl_bd (gl_bd ?_))
                              replace HP := bd_o (bd_o HP)
                              dsimp only at HP ⊢
                              exact gl_end hM58 f58 HP
                            · replace HP := ite_F c30 HP
                              refine gl_ite (fun c33 => ?_) (fun c33 => ?_)
                              · replace HP := ite_T c33 HP
                                refine gl_o (hM.2 49 (by decide)).1 ?_
                                replace HP := bind_ck HP
                                obtain ⟨c34, HP⟩ := HP
                                refine gl_ck ⟨(hM.2 49 (by decide)).2.1, in_of (hM.2 49 (by decide)).2.2 (by decide) c34⟩ ?_
                                try rw [mrd 49 c34.1] at HP
                                exact gl_end hM f HP
                              · replace HP := ite_F c33 HP
                                refine gl_o (hM.2 50 (by decide)).1 ?_
                                replace HP := bind_ck HP
                                obtain ⟨c35, HP⟩ := HP
                                refine gl_ck ⟨(hM.2 50 (by decide)).2.1, in_of (hM.2 50 (by decide)).2.2 (by decide) c35⟩ ?_
                                try rw [mrd 50 c35.1] at HP
                                exact gl_end hM f HP

set_option maxRecDepth 20000 in
theorem pl_X12_isTurn {t : Nat} {h0 : aH} {r : Int32} {e' : mE} {x1 : Int32} {x2 : Int32} {h : aH} (hM : MS t h) (f : fr t h0 h) (HP : P_X12_isTurn  x1 x2 (menv t h) = some (r, e')) : Gl t h0 (F_X12_isTurn  t x1 x2 h) r e' := by
  unfold P_X12_isTurn at HP
  unfold F_X12_isTurn
  replace HP := bind_o HP
  obtain ⟨⟨z3, e2⟩, E1, HP⟩ := HP
  obtain ⟨h2, F2, rfl, hM2, gh2⟩ := pl_X12_isGame (t := t) hM (fr.refl _ _) E1
  have f2 := f.trans gh2
  refine gl_o F2 (gl_bd (gl_bd ?_))
  replace HP := bd_o (bd_o HP)
  dsimp only at HP ⊢
  refine gl_ite (fun c3 => ?_) (fun c3 => ?_)
  · replace HP := ite_T c3 HP
    exact gl_end hM2 f2 HP
  · replace HP := ite_F c3 HP
    refine gl_ite (fun c4 => ?_) (fun c4 => ?_)
    · replace HP := ite_T c4 HP
      exact gl_end hM2 f2 HP
    · replace HP := ite_F c4 HP
      refine gl_ck hM2.1 ?_
      refine gl_o (hM2.2 8 (by decide)).1 ?_
      replace HP := bind_ck HP
      obtain ⟨c5, HP⟩ := HP
      refine gl_ck ⟨(hM2.2 8 (by decide)).2.1, in_of (hM2.2 8 (by decide)).2.2 (by decide) c5⟩ ?_
      try rw [mrd 8 c5.1] at HP
      refine gl_ite (fun c6 => ?_) (fun c6 => ?_)
      · replace HP := ite_T c6 HP
        exact gl_end hM2 f2 HP
      · replace HP := ite_F c6 HP
        exact gl_end hM2 f2 HP

set_option maxRecDepth 20000 in
theorem pl_X12_score_24 {t : Nat} {h0 : aH} {r : Int32} {e' : mE} {h : aH} (hM : MS t h) (f : fr t h0 h) (HP : P_X12_score_24   (menv t h) = some (r, e')) : Gl t h0 (F_X12_score_24  t h) r e' := by
  unfold P_X12_score_24 at HP
  unfold F_X12_score_24
  refine gl_ck hM.1 ?_
  replace HP := bind_o HP
  obtain ⟨⟨z4, e3⟩, E1, HP⟩ := HP
  obtain ⟨h3, F2, rfl, hM3, gh3⟩ := pl_X12_fail (t := t) hM (fr.refl _ _) E1
  have f3 := f.trans gh3
  refine gl_o F2 (gl_bd (gl_bd ?_))
  replace HP := bd_o (bd_o HP)
  dsimp only at HP ⊢
  exact gl_end hM3 f3 HP

set_option maxRecDepth 20000 in
theorem pl_X12_score {t : Nat} {h0 : aH} {r : Int32} {e' : mE} {x1 : Int32} {x2 : Int32} {x3 : Int32} {h : aH} (hM : MS t h) (f : fr t h0 h) (HP : P_X12_score  x1 x2 x3 (menv t h) = some (r, e')) : Gl t h0 (F_X12_score  t x1 x2 x3 h) r e' := by
  unfold P_X12_score at HP
  unfold F_X12_score
  replace HP := bd_n HP
  obtain ⟨e1, Eh1, HP⟩ := HP
  refine gl_sF 0 hM f (fun h1 hM1 f1 Kh1 => ?_)
  obtain rfl : menv t h1 = e1 := mtr Kh1 Eh1
  replace HP := bind_o HP
  obtain ⟨⟨z5, e4⟩, E1, HP⟩ := HP
  obtain ⟨h4, F2, rfl, hM4, gh4⟩ := pl_X12_isTurn (t := t) hM1 (fr.refl _ _) E1
  have f4 := f1.trans gh4
  refine gl_o F2 (gl_bd (gl_bd ?_))
  replace HP := bd_o (bd_o HP)
  dsimp only at HP ⊢
  refine gl_ite (fun c3 => ?_) (fun c3 => ?_)
  · replace HP := ite_T c3 HP
    exact pl_X12_score_24  hM4 f4 HP
  · replace HP := ite_F c3 HP
    refine gl_ite (fun c4 => ?_) (fun c4 => ?_)
    · replace HP := ite_T c4 HP
      exact pl_X12_score_24  hM4 f4 HP
    · replace HP := ite_F c4 HP
      refine gl_ite (fun c5 => ?_) (fun c5 => ?_)
      · replace HP := ite_T c5 HP
        refine gl_ck hM4.1 ?_
        replace HP := bind_o HP
        obtain ⟨e12, E6, HP⟩ := HP
        obtain ⟨h12, F7, rfl, hM12, gh12⟩ := pl_X12_play (t := t) hM4 (fr.refl _ _) E6
        have f12 := f4.trans gh12
        refine gl_o F7 ?_
        refine gl_ck hM12.1 ?_
        replace HP := bind_o HP
        obtain ⟨⟨z17, e16⟩, E8, HP⟩ := HP
        obtain ⟨h16, F9, rfl, hM16, gh16⟩ := pl_X12_scoreOf (t := t) hM12 (fr.refl _ _) E8
        have f16 := f12.trans gh16
        refine gl_o F9 (gl_bd (gl_bd ?_))
        replace HP := bd_o (bd_o HP)
        dsimp only at HP ⊢
        exact gl_end hM16 f16 HP
      · replace HP := ite_F c5 HP
        exact pl_X12_score_24  hM4 f4 HP

set_option maxRecDepth 20000 in
theorem pl_X12_overs_32 {t : Nat} {h0 : aH} {r : Int32} {e' : mE} {h : aH} (hM : MS t h) (f : fr t h0 h) (HP : P_X12_overs_32   (menv t h) = some (r, e')) : Gl t h0 (F_X12_overs_32  t h) r e' := by
  unfold P_X12_overs_32 at HP
  unfold F_X12_overs_32
  refine gl_ck hM.1 ?_
  replace HP := bind_o HP
  obtain ⟨⟨z4, e3⟩, E1, HP⟩ := HP
  obtain ⟨h3, F2, rfl, hM3, gh3⟩ := pl_X12_fail (t := t) hM (fr.refl _ _) E1
  have f3 := f.trans gh3
  refine gl_o F2 (gl_bd (gl_bd ?_))
  replace HP := bd_o (bd_o HP)
  dsimp only at HP ⊢
  exact gl_end hM3 f3 HP

set_option maxRecDepth 20000 in
theorem pl_X12_overs {t : Nat} {h0 : aH} {r : Int32} {e' : mE} {x1 : Int32} {x2 : Int32} {x3 : Int32} {x4 : Int32} {h : aH} (hM : MS t h) (f : fr t h0 h) (HP : P_X12_overs  x1 x2 x3 x4 (menv t h) = some (r, e')) : Gl t h0 (F_X12_overs  t x1 x2 x3 x4 h) r e' := by
  unfold P_X12_overs at HP
  unfold F_X12_overs
  replace HP := bd_n HP
  obtain ⟨e1, Eh1, HP⟩ := HP
  refine gl_sF 0 hM f (fun h1 hM1 f1 Kh1 => ?_)
  obtain rfl : menv t h1 = e1 := mtr Kh1 Eh1
  replace HP := bind_o HP
  obtain ⟨⟨z5, e4⟩, E1, HP⟩ := HP
  obtain ⟨h4, F2, rfl, hM4, gh4⟩ := pl_X12_find (t := t) hM1 (fr.refl _ _) E1
  have f4 := f1.trans gh4
  refine gl_o F2 (gl_bd (gl_bd ?_))
  replace HP := bd_o (bd_o HP)
  dsimp only at HP ⊢
  refine gl_ite (fun c3 => ?_) (fun c3 => ?_)
  · replace HP := ite_T c3 HP
    exact pl_X12_overs_32  hM4 f4 HP
  · replace HP := ite_F c3 HP
    refine gl_ite (fun c4 => ?_) (fun c4 => ?_)
    · replace HP := ite_T c4 HP
      exact pl_X12_overs_32  hM4 f4 HP
    · replace HP := ite_F c4 HP
      refine gl_ite (fun c5 => ?_) (fun c5 => ?_)
      · replace HP := ite_T c5 HP
        refine gl_ck hM4.1 ?_
        replace HP := bind_o HP
        obtain ⟨e12, E6, HP⟩ := HP
        obtain ⟨h12, F7, rfl, hM12, gh12⟩ := pl_X12_play (t := t) hM4 (fr.refl _ _) E6
        have f12 := f4.trans gh12
        refine gl_o F7 ?_
        refine gl_ite (fun c8 => ?_) (fun c8 => ?_)
        · replace HP := ite_T c8 HP
          refine gl_ck hM12.1 ?_
          refine gl_o (hM12.2 12 (by decide)).1 ?_
          replace HP := bind_ck HP
          obtain ⟨c9, HP⟩ := HP
          refine gl_ck ⟨(hM12.2 12 (by decide)).2.1, in_of (hM12.2 12 (by decide)).2.2 (by decide) c9⟩ ?_
          try rw [mrd 12 c9.1] at HP
          exact gl_end hM12 f12 HP
        · replace HP := ite_F c8 HP
          refine gl_ite (fun c10 => ?_) (fun c10 => ?_)
          · replace HP := ite_T c10 HP
            refine gl_ck hM12.1 ?_
            refine gl_o (hM12.2 13 (by decide)).1 ?_
            replace HP := bind_ck HP
            obtain ⟨c11, HP⟩ := HP
            refine gl_ck ⟨(hM12.2 13 (by decide)).2.1, in_of (hM12.2 13 (by decide)).2.2 (by decide) c11⟩ ?_
            try rw [mrd 13 c11.1] at HP
            exact gl_end hM12 f12 HP
          · replace HP := ite_F c10 HP
            refine gl_ite (fun c12 => ?_) (fun c12 => ?_)
            · replace HP := ite_T c12 HP
              refine gl_ck hM12.1 ?_
              refine gl_o (hM12.2 59 (by decide)).1 ?_
              replace HP := bind_ck HP
              obtain ⟨c13, HP⟩ := HP
              refine gl_ck ⟨(hM12.2 59 (by decide)).2.1, in_of (hM12.2 59 (by decide)).2.2 (by decide) c13⟩ ?_
              try rw [mrd 59 c13.1] at HP
              exact gl_end hM12 f12 HP
            · replace HP := ite_F c12 HP
              refine gl_ite (fun c14 => ?_) (fun c14 => ?_)
              · replace HP := ite_T c14 HP
                refine gl_ck hM12.1 ?_
                refine gl_o (hM12.2 60 (by decide)).1 ?_
                replace HP := bind_ck HP
                obtain ⟨c15, HP⟩ := HP
                refine gl_ck ⟨(hM12.2 60 (by decide)).2.1, in_of (hM12.2 60 (by decide)).2.2 (by decide) c15⟩ ?_
                try rw [mrd 60 c15.1] at HP
                exact gl_end hM12 f12 HP
              · replace HP := ite_F c14 HP
                refine gl_ite (fun c16 => ?_) (fun c16 => ?_)
                · replace HP := ite_T c16 HP
                  refine gl_ck hM12.1 ?_
                  refine gl_o (hM12.2 61 (by decide)).1 ?_
                  replace HP := bind_ck HP
                  obtain ⟨c17, HP⟩ := HP
                  refine gl_ck ⟨(hM12.2 61 (by decide)).2.1, in_of (hM12.2 61 (by decide)).2.2 (by decide) c17⟩ ?_
                  try rw [mrd 61 c17.1] at HP
                  exact gl_end hM12 f12 HP
                · replace HP := ite_F c16 HP
                  refine gl_ite (fun c18 => ?_) (fun c18 => ?_)
                  · replace HP := ite_T c18 HP
                    refine gl_ck hM12.1 ?_
                    refine gl_o (hM12.2 62 (by decide)).1 ?_
                    replace HP := bind_ck HP
                    obtain ⟨c19, HP⟩ := HP
                    refine gl_ck ⟨(hM12.2 62 (by decide)).2.1, in_of (hM12.2 62 (by decide)).2.2 (by decide) c19⟩ ?_
                    try rw [mrd 62 c19.1] at HP
                    refine gl_ite (fun c20 => ?_) (fun c20 => ?_)
                    · replace HP := ite_T c20 HP
                      exact gl_end hM12 f12 HP
                    · replace HP := ite_F c20 HP
                      exact gl_end hM12 f12 HP
                  · replace HP := ite_F c18 HP
                    refine gl_ite (fun c21 => ?_) (fun c21 => ?_)
                    · replace HP := ite_T c21 HP
                      refine gl_ck hM12.1 ?_
                      refine gl_o (hM12.2 63 (by decide)).1 ?_
                      replace HP := bind_ck HP
                      obtain ⟨c22, HP⟩ := HP
                      refine gl_ck ⟨(hM12.2 63 (by decide)).2.1, in_of (hM12.2 63 (by decide)).2.2 (by decide) c22⟩ ?_
                      try rw [mrd 63 c22.1] at HP
                      refine gl_ite (fun c23 => ?_) (fun c23 => ?_)
                      · replace HP := ite_T c23 HP
                        exact gl_end hM12 f12 HP
                      · replace HP := ite_F c23 HP
                        exact gl_end hM12 f12 HP
                    · replace HP := ite_F c21 HP
                      refine gl_ck hM12.1 ?_
                      refine gl_o (hM12.2 64 (by decide)).1 ?_
                      replace HP := bind_ck HP
                      obtain ⟨c24, HP⟩ := HP
                      refine gl_ck ⟨(hM12.2 64 (by decide)).2.1, in_of (hM12.2 64 (by decide)).2.2 (by decide) c24⟩ ?_
                      try rw [mrd 64 c24.1] at HP
                      refine gl_ite (fun c25 => ?_) (fun c25 => ?_)
                      · replace HP := ite_T c25 HP
                        exact gl_end hM12 f12 HP
                      · replace HP := ite_F c25 HP
                        exact gl_end hM12 f12 HP
      · replace HP := ite_F c5 HP
        exact pl_X12_overs_32  hM4 f4 HP

set_option maxRecDepth 20000 in
theorem pl_X12_entry_37 {t : Nat} {h0 : aH} {r : Int32} {e' : mE} {h : aH} (hM : MS t h) (f : fr t h0 h) (HP : P_X12_entry_37   (menv t h) = some (r, e')) : Gl t h0 (F_X12_entry_37  t h) r e' := by
  unfold P_X12_entry_37 at HP
  unfold F_X12_entry_37
  refine gl_ck hM.1 ?_
  replace HP := bind_o HP
  obtain ⟨⟨z4, e3⟩, E1, HP⟩ := HP
  obtain ⟨h3, F2, rfl, hM3, gh3⟩ := pl_X12_fail (t := t) hM (fr.refl _ _) E1
  have f3 := f.trans gh3
  refine gl_o F2 (gl_bd (gl_bd ?_))
  replace HP := bd_o (bd_o HP)
  dsimp only at HP ⊢
  exact gl_end hM3 f3 HP

set_option maxRecDepth 20000 in
theorem pl_X12_entry {t : Nat} {h0 : aH} {r : Int32} {e' : mE} {x1 : Int32} {x2 : Int32} {x3 : Int32} {x4 : Int32} {h : aH} (hM : MS t h) (f : fr t h0 h) (HP : P_X12_entry  x1 x2 x3 x4 (menv t h) = some (r, e')) : Gl t h0 (F_X12_entry  t x1 x2 x3 x4 h) r e' := by
  unfold P_X12_entry at HP
  unfold F_X12_entry
  replace HP := bd_n HP
  obtain ⟨e1, Eh1, HP⟩ := HP
  refine gl_sF 0 hM f (fun h1 hM1 f1 Kh1 => ?_)
  obtain rfl : menv t h1 = e1 := mtr Kh1 Eh1
  replace HP := bind_o HP
  obtain ⟨⟨z5, e4⟩, E1, HP⟩ := HP
  obtain ⟨h4, F2, rfl, hM4, gh4⟩ := pl_X12_find (t := t) hM1 (fr.refl _ _) E1
  have f4 := f1.trans gh4
  refine gl_o F2 (gl_bd (gl_bd ?_))
  replace HP := bd_o (bd_o HP)
  dsimp only at HP ⊢
  refine gl_ite (fun c3 => ?_) (fun c3 => ?_)
  · replace HP := ite_T c3 HP
    exact pl_X12_entry_37  hM4 f4 HP
  · replace HP := ite_F c3 HP
    refine gl_ite (fun c4 => ?_) (fun c4 => ?_)
    · replace HP := ite_T c4 HP
      exact pl_X12_entry_37  hM4 f4 HP
    · replace HP := ite_F c4 HP
      refine gl_ck hM4.1 ?_
      refine gl_o (hM4.2 13 (by decide)).1 ?_
      replace HP := bind_ck HP
      obtain ⟨c5, HP⟩ := HP
      refine gl_ck ⟨(hM4.2 13 (by decide)).2.1, in_of (hM4.2 13 (by decide)).2.2 (by decide) c5⟩ ?_
      try rw [mrd 13 c5.1] at HP
      refine gl_ite (fun c6 => ?_) (fun c6 => ?_)
      · replace HP := ite_T c6 HP
        refine gl_o (hM4.2 14 (by decide)).1 ?_
        replace HP := bind_ck HP
        obtain ⟨c7, HP⟩ := HP
        refine gl_ck ⟨(hM4.2 14 (by decide)).2.1, in_of (hM4.2 14 (by decide)).2.2 (by decide) c7⟩ ?_
        try rw [mrd 14 c7.1] at HP
        exact gl_end hM4 f4 HP
      · replace HP := ite_F c6 HP
        exact pl_X12_entry_37  hM4 f4 HP

set_option maxRecDepth 20000 in
theorem pl_X12_batsOf {t : Nat} {h0 : aH} {r : Int32} {e' : mE} {x1 : Int32} {x2 : Int32} {x3 : Int32} {x4 : Int32} {h : aH} (hM : MS t h) (f : fr t h0 h) (HP : P_X12_batsOf  x1 x2 x3 x4 (menv t h) = some (r, e')) : Gl t h0 (F_X12_batsOf  t x1 x2 x3 x4 h) r e' := by
  unfold P_X12_batsOf at HP
  unfold F_X12_batsOf
  replace HP := bd_n HP
  obtain ⟨v1, Ev1, HP⟩ := HP
  refine gl_bdv Ev1 ?_
  refine gl_ite (fun c1 => ?_) (fun c1 => ?_)
  · replace HP := ite_T c1 HP
    refine gl_o (hM.2 53 (by decide)).1 ?_
    replace HP := bind_ck HP
    obtain ⟨c2, HP⟩ := HP
    refine gl_ck ⟨(hM.2 53 (by decide)).2.1, in_of (hM.2 53 (by decide)).2.2 (by decide) c2⟩ ?_
    try rw [mrd 53 c2.1] at HP
    exact gl_end hM f HP
  · replace HP := ite_F c1 HP
    refine gl_ite (fun c3 => ?_) (fun c3 => ?_)
    · replace HP := ite_T c3 HP
      refine gl_o (hM.2 54 (by decide)).1 ?_
      replace HP := bind_ck HP
      obtain ⟨c4, HP⟩ := HP
      refine gl_ck ⟨(hM.2 54 (by decide)).2.1, in_of (hM.2 54 (by decide)).2.2 (by decide) c4⟩ ?_
      try rw [mrd 54 c4.1] at HP
      exact gl_end hM f HP
    · replace HP := ite_F c3 HP
      refine gl_ite (fun c5 => ?_) (fun c5 => ?_)
      · replace HP := ite_T c5 HP
        refine gl_o (hM.2 55 (by decide)).1 ?_
        replace HP := bind_ck HP
        obtain ⟨c6, HP⟩ := HP
        refine gl_ck ⟨(hM.2 55 (by decide)).2.1, in_of (hM.2 55 (by decide)).2.2 (by decide) c6⟩ ?_
        try rw [mrd 55 c6.1] at HP
        exact gl_end hM f HP
      · replace HP := ite_F c5 HP
        refine gl_o (hM.2 7 (by decide)).1 ?_
        replace HP := bind_ck HP
        obtain ⟨c7, HP⟩ := HP
        refine gl_ck ⟨(hM.2 7 (by decide)).2.1, in_of (hM.2 7 (by decide)).2.2 (by decide) c7⟩ ?_
        try rw [mrd 7 c7.1] at HP
        exact gl_end hM f HP

set_option maxRecDepth 20000 in
theorem pl_X12_fieldsOf {t : Nat} {h0 : aH} {r : Int32} {e' : mE} {x1 : Int32} {x2 : Int32} {x3 : Int32} {x4 : Int32} {h : aH} (hM : MS t h) (f : fr t h0 h) (HP : P_X12_fieldsOf  x1 x2 x3 x4 (menv t h) = some (r, e')) : Gl t h0 (F_X12_fieldsOf  t x1 x2 x3 x4 h) r e' := by
  unfold P_X12_fieldsOf at HP
  unfold F_X12_fieldsOf
  replace HP := bd_n HP
  obtain ⟨v1, Ev1, HP⟩ := HP
  refine gl_bdv Ev1 ?_
  refine gl_ite (fun c1 => ?_) (fun c1 => ?_)
  · replace HP := ite_T c1 HP
    refine gl_o (hM.2 56 (by decide)).1 ?_
    replace HP := bind_ck HP
    obtain ⟨c2, HP⟩ := HP
    refine gl_ck ⟨(hM.2 56 (by decide)).2.1, in_of (hM.2 56 (by decide)).2.2 (by decide) c2⟩ ?_
    try rw [mrd 56 c2.1] at HP
    exact gl_end hM f HP
  · replace HP := ite_F c1 HP
    refine gl_ite (fun c3 => ?_) (fun c3 => ?_)
    · replace HP := ite_T c3 HP
      refine gl_o (hM.2 57 (by decide)).1 ?_
      replace HP := bind_ck HP
      obtain ⟨c4, HP⟩ := HP
      refine gl_ck ⟨(hM.2 57 (by decide)).2.1, in_of (hM.2 57 (by decide)).2.2 (by decide) c4⟩ ?_
      try rw [mrd 57 c4.1] at HP
      exact gl_end hM f HP
    · replace HP := ite_F c3 HP
      refine gl_ite (fun c5 => ?_) (fun c5 => ?_)
      · replace HP := ite_T c5 HP
        refine gl_o (hM.2 58 (by decide)).1 ?_
        replace HP := bind_ck HP
        obtain ⟨c6, HP⟩ := HP
        refine gl_ck ⟨(hM.2 58 (by decide)).2.1, in_of (hM.2 58 (by decide)).2.2 (by decide) c6⟩ ?_
        try rw [mrd 58 c6.1] at HP
        exact gl_end hM f HP
      · replace HP := ite_F c5 HP
        refine gl_o (hM.2 7 (by decide)).1 ?_
        replace HP := bind_ck HP
        obtain ⟨c7, HP⟩ := HP
        refine gl_ck ⟨(hM.2 7 (by decide)).2.1, in_of (hM.2 7 (by decide)).2.2 (by decide) c7⟩ ?_
        try rw [mrd 7 c7.1] at HP
        exact gl_end hM f HP

set_option maxRecDepth 20000 in
theorem pl_X12_bats_35 {t : Nat} {h0 : aH} {r : Int32} {e' : mE} {h : aH} (hM : MS t h) (f : fr t h0 h) (HP : P_X12_bats_35   (menv t h) = some (r, e')) : Gl t h0 (F_X12_bats_35  t h) r e' := by
  unfold P_X12_bats_35 at HP
  unfold F_X12_bats_35
  refine gl_ck hM.1 ?_
  replace HP := bind_o HP
  obtain ⟨⟨z4, e3⟩, E1, HP⟩ := HP
  obtain ⟨h3, F2, rfl, hM3, gh3⟩ := pl_X12_fail (t := t) hM (fr.refl _ _) E1
  have f3 := f.trans gh3
  refine gl_o F2 (gl_bd (gl_bd ?_))
  replace HP := bd_o (bd_o HP)
  dsimp only at HP ⊢
  exact gl_end hM3 f3 HP

set_option maxRecDepth 20000 in
theorem pl_X12_bats {t : Nat} {h0 : aH} {r : Int32} {e' : mE} {x1 : Int32} {x2 : Int32} {x3 : Int32} {x4 : Int32} {h : aH} (hM : MS t h) (f : fr t h0 h) (HP : P_X12_bats  x1 x2 x3 x4 (menv t h) = some (r, e')) : Gl t h0 (F_X12_bats  t x1 x2 x3 x4 h) r e' := by
  unfold P_X12_bats at HP
  unfold F_X12_bats
  replace HP := bd_n HP
  obtain ⟨e1, Eh1, HP⟩ := HP
  refine gl_sF 0 hM f (fun h1 hM1 f1 Kh1 => ?_)
  obtain rfl : menv t h1 = e1 := mtr Kh1 Eh1
  replace HP := bind_o HP
  obtain ⟨⟨z5, e4⟩, E1, HP⟩ := HP
  obtain ⟨h4, F2, rfl, hM4, gh4⟩ := pl_X12_isTurn (t := t) hM1 (fr.refl _ _) E1
  have f4 := f1.trans gh4
  refine gl_o F2 (gl_bd (gl_bd ?_))
  replace HP := bd_o (bd_o HP)
  dsimp only at HP ⊢
  refine gl_ite (fun c3 => ?_) (fun c3 => ?_)
  · replace HP := ite_T c3 HP
    exact pl_X12_bats_35  hM4 f4 HP
  · replace HP := ite_F c3 HP
    refine gl_ite (fun c4 => ?_) (fun c4 => ?_)
    · replace HP := ite_T c4 HP
      exact pl_X12_bats_35  hM4 f4 HP
    · replace HP := ite_F c4 HP
      refine gl_ite (fun c5 => ?_) (fun c5 => ?_)
      · replace HP := ite_T c5 HP
        exact pl_X12_bats_35  hM4 f4 HP
      · replace HP := ite_F c5 HP
        refine gl_ite (fun c6 => ?_) (fun c6 => ?_)
        · replace HP := ite_T c6 HP
          exact pl_X12_bats_35  hM4 f4 HP
        · replace HP := ite_F c6 HP
          refine gl_ite (fun c7 => ?_) (fun c7 => ?_)
          · replace HP := ite_T c7 HP
            refine gl_ck hM4.1 ?_
            replace HP := bind_o HP
            obtain ⟨e14, E8, HP⟩ := HP
            obtain ⟨h14, F9, rfl, hM14, gh14⟩ := pl_X12_play (t := t) hM4 (fr.refl _ _) E8
            have f14 := f4.trans gh14
            refine gl_o F9 ?_
            refine gl_ck hM14.1 ?_
            replace HP := bind_o HP
            obtain ⟨⟨z19, e18⟩, E10, HP⟩ := HP
            obtain ⟨h18, F11, rfl, hM18, gh18⟩ := pl_X12_batsOf (t := t) hM14 (fr.refl _ _) E10
            have f18 := f14.trans gh18
            refine gl_o F11 (gl_bd (gl_bd ?_))
            replace HP := bd_o (bd_o HP)
            dsimp only at HP ⊢
            exact gl_end hM18 f18 HP
          · replace HP := ite_F c7 HP
            exact pl_X12_bats_35  hM4 f4 HP

set_option maxRecDepth 20000 in
theorem pl_X12_fields_35 {t : Nat} {h0 : aH} {r : Int32} {e' : mE} {h : aH} (hM : MS t h) (f : fr t h0 h) (HP : P_X12_fields_35   (menv t h) = some (r, e')) : Gl t h0 (F_X12_fields_35  t h) r e' := by
  unfold P_X12_fields_35 at HP
  unfold F_X12_fields_35
  refine gl_ck hM.1 ?_
  replace HP := bind_o HP
  obtain ⟨⟨z4, e3⟩, E1, HP⟩ := HP
  obtain ⟨h3, F2, rfl, hM3, gh3⟩ := pl_X12_fail (t := t) hM (fr.refl _ _) E1
  have f3 := f.trans gh3
  refine gl_o F2 (gl_bd (gl_bd ?_))
  replace HP := bd_o (bd_o HP)
  dsimp only at HP ⊢
  exact gl_end hM3 f3 HP

set_option maxRecDepth 20000 in
theorem pl_X12_fields {t : Nat} {h0 : aH} {r : Int32} {e' : mE} {x1 : Int32} {x2 : Int32} {x3 : Int32} {x4 : Int32} {h : aH} (hM : MS t h) (f : fr t h0 h) (HP : P_X12_fields  x1 x2 x3 x4 (menv t h) = some (r, e')) : Gl t h0 (F_X12_fields  t x1 x2 x3 x4 h) r e' := by
  unfold P_X12_fields at HP
  unfold F_X12_fields
  replace HP := bd_n HP
  obtain ⟨e1, Eh1, HP⟩ := HP
  refine gl_sF 0 hM f (fun h1 hM1 f1 Kh1 => ?_)
  obtain rfl : menv t h1 = e1 := mtr Kh1 Eh1
  replace HP := bind_o HP
  obtain ⟨⟨z5, e4⟩, E1, HP⟩ := HP
  obtain ⟨h4, F2, rfl, hM4, gh4⟩ := pl_X12_isTurn (t := t) hM1 (fr.refl _ _) E1
  have f4 := f1.trans gh4
  refine gl_o F2 (gl_bd (gl_bd ?_))
  replace HP := bd_o (bd_o HP)
  dsimp only at HP ⊢
  refine gl_ite (fun c3 => ?_) (fun c3 => ?_)
  · replace HP := ite_T c3 HP
    exact pl_X12_fields_35  hM4 f4 HP
  · replace HP := ite_F c3 HP
    refine gl_ite (fun c4 => ?_) (fun c4 => ?_)
    · replace HP := ite_T c4 HP
      exact pl_X12_fields_35  hM4 f4 HP
    · replace HP := ite_F c4 HP
      refine gl_ite (fun c5 => ?_) (fun c5 => ?_)
      · replace HP := ite_T c5 HP
        exact pl_X12_fields_35  hM4 f4 HP
      · replace HP := ite_F c5 HP
        refine gl_ite (fun c6 => ?_) (fun c6 => ?_)
        · replace HP := ite_T c6 HP
          exact pl_X12_fields_35  hM4 f4 HP
        · replace HP := ite_F c6 HP
          refine gl_ite (fun c7 => ?_) (fun c7 => ?_)
          · replace HP := ite_T c7 HP
            refine gl_ck hM4.1 ?_
            replace HP := bind_o HP
            obtain ⟨e14, E8, HP⟩ := HP
            obtain ⟨h14, F9, rfl, hM14, gh14⟩ := pl_X12_play (t := t) hM4 (fr.refl _ _) E8
            have f14 := f4.trans gh14
            refine gl_o F9 ?_
            refine gl_ck hM14.1 ?_
            replace HP := bind_o HP
            obtain ⟨⟨z19, e18⟩, E10, HP⟩ := HP
            obtain ⟨h18, F11, rfl, hM18, gh18⟩ := pl_X12_fieldsOf (t := t) hM14 (fr.refl _ _) E10
            have f18 := f14.trans gh18
            refine gl_o F11 (gl_bd (gl_bd ?_))
            replace HP := bd_o (bd_o HP)
            dsimp only at HP ⊢
            exact gl_end hM18 f18 HP
          · replace HP := ite_F c7 HP
            exact pl_X12_fields_35  hM4 f4 HP

set_option maxRecDepth 20000 in
theorem pl_X12_better {t : Nat} {h0 : aH} {e' : mE} {x1 : Int32} {x2 : Int32} {x3 : Int32} {x4 : Int32} {x5 : Int32} {x6 : Int32} {h : aH} (hM : MS t h) (f : fr t h0 h) (HP : P_X12_better  x1 x2 x3 x4 x5 x6 (menv t h) = some e') : Glv t h0 (F_X12_better  t x1 x2 x3 x4 x5 x6 h) e' := by
  unfold P_X12_better at HP
  unfold F_X12_better
  refine gl_oV (hM.2 67 (by decide)).1 ?_
  replace HP := bind_ck HP
  obtain ⟨c1, HP⟩ := HP
  refine gl_ckV ⟨(hM.2 67 (by decide)).2.1, in_of (hM.2 67 (by decide)).2.2 (by decide) c1⟩ ?_
  try rw [mrd 67 c1.1] at HP
  replace HP := bd_n HP
  obtain ⟨e4, Eh4, HP⟩ := HP
  refine gl_sIV 67 hM f (by decide) (by first | assumption | exact And.left (by assumption) | decide) (fun h4 hM4 f4 Kh4 => ?_)
  obtain rfl : menv t h4 = e4 := mtr Kh4 Eh4
  refine gl_oV (hM4.2 67 (by decide)).1 ?_
  replace HP := bind_ck HP
  obtain ⟨c2, HP⟩ := HP
  refine gl_ckV ⟨(hM4.2 67 (by decide)).2.1, in_of (hM4.2 67 (by decide)).2.2 (by decide) c2⟩ ?_
  try rw [mrd 67 c2.1] at HP
  replace HP := bd_n HP
  obtain ⟨e9, Eh9, HP⟩ := HP
  refine gl_sIV 67 hM4 f4 (by decide) (by first | assumption | exact And.left (by assumption) | decide) (fun h9 hM9 f9 Kh9 => ?_)
  obtain rfl : menv t h9 = e9 := mtr Kh9 Eh9
  refine gl_oV (hM9.2 67 (by decide)).1 ?_
  replace HP := bind_ck HP
  obtain ⟨c3, HP⟩ := HP
  refine gl_ckV ⟨(hM9.2 67 (by decide)).2.1, in_of (hM9.2 67 (by decide)).2.2 (by decide) c3⟩ ?_
  try rw [mrd 67 c3.1] at HP
  replace HP := bd_n HP
  obtain ⟨e14, Eh14, HP⟩ := HP
  refine gl_sIV 67 hM9 f9 (by decide) (by first | assumption | exact And.left (by assumption) | decide) (fun h14 hM14 f14 Kh14 => ?_)
  obtain rfl : menv t h14 = e14 := mtr Kh14 Eh14
  refine gl_oV (hM14.2 67 (by decide)).1 ?_
  replace HP := bind_ck HP
  obtain ⟨c4, HP⟩ := HP
  refine gl_ckV ⟨(hM14.2 67 (by decide)).2.1, in_of (hM14.2 67 (by decide)).2.2 (by decide) c4⟩ ?_
  try rw [mrd 67 c4.1] at HP
  replace HP := bd_n HP
  obtain ⟨e19, Eh19, HP⟩ := HP
  refine gl_sIV 67 hM14 f14 (by decide) (by first | assumption | exact And.left (by assumption) | decide) (fun h19 hM19 f19 Kh19 => ?_)
  obtain rfl : menv t h19 = e19 := mtr Kh19 Eh19
  refine gl_oV (hM19.2 67 (by decide)).1 ?_
  replace HP := bind_ck HP
  obtain ⟨c5, HP⟩ := HP
  refine gl_ckV ⟨(hM19.2 67 (by decide)).2.1, in_of (hM19.2 67 (by decide)).2.2 (by decide) c5⟩ ?_
  try rw [mrd 67 c5.1] at HP
  replace HP := bd_n HP
  obtain ⟨e24, Eh24, HP⟩ := HP
  refine gl_sIV 67 hM19 f19 (by decide) (by first | assumption | exact And.left (by assumption) | decide) (fun h24 hM24 f24 Kh24 => ?_)
  obtain rfl : menv t h24 = e24 := mtr Kh24 Eh24
  refine gl_oV (hM24.2 67 (by decide)).1 ?_
  replace HP := bind_ck HP
  obtain ⟨c6, HP⟩ := HP
  refine gl_ckV ⟨(hM24.2 67 (by decide)).2.1, in_of (hM24.2 67 (by decide)).2.2 (by decide) c6⟩ ?_
  try rw [mrd 67 c6.1] at HP
  replace HP := bd_n HP
  obtain ⟨e29, Eh29, HP⟩ := HP
  refine gl_sIV 67 hM24 f24 (by decide) (by first | assumption | exact And.left (by assumption) | decide) (fun h29 hM29 f29 Kh29 => ?_)
  obtain rfl : menv t h29 = e29 := mtr Kh29 Eh29
  exact gl_endv hM29 f29 HP

set_option maxRecDepth 20000 in
theorem pl_X12_recordOf_254 {t : Nat} {h0 : aH} {e' : mE} {qk7 : Int32 → Int32 → Int32 → mE → Option (mE)} {k7 : Nat → Int32 → Int32 → Int32 → aH → Option (aH)} (hk7 : ∀ {u1 : Int32} {u2 : Int32} {u3 : Int32} {h : aH}, MS t h → fr t h0 h → qk7 u1 u2 u3 (menv t h) = some e' → Glv t h0 (k7 t u1 u2 u3 h) e') {qk95 : Int32 → Int32 → Int32 → Int32 → Int32 → Int32 → mE → Option (mE)} {k95 : Nat → Int32 → Int32 → Int32 → Int32 → Int32 → Int32 → aH → Option (aH)} (hk95 : ∀ {u1 : Int32} {u2 : Int32} {u3 : Int32} {u4 : Int32} {u5 : Int32} {u6 : Int32} {h : aH}, MS t h → fr t h0 h → qk95 u1 u2 u3 u4 u5 u6 (menv t h) = some e' → Glv t h0 (k95 t u1 u2 u3 u4 u5 u6 h) e') {x1 : Int32} {x2 : Int32} {x3 : Int32} {x4 : Int32} {x5 : Int32} {x6 : Int32} {x7 : Int32} {x8 : Int32} {h : aH} (hM : MS t h) (f : fr t h0 h) (HP : P_X12_recordOf_254 qk7 qk95 x1 x2 x3 x4 x5 x6 x7 x8 (menv t h) = some e') : Glv t h0 (F_X12_recordOf_254 k7 k95 t x1 x2 x3 x4 x5 x6 x7 x8 h) e' := by
  unfold P_X12_recordOf_254 at HP
  unfold F_X12_recordOf_254
  refine gl_ckV hM.1 ?_
  refine gl_oV (hM.2 68 (by decide)).1 ?_
  replace HP := bind_ck HP
  obtain ⟨c1, HP⟩ := HP
  refine gl_ckV ⟨(hM.2 68 (by decide)).2.1, in_of (hM.2 68 (by decide)).2.2 (by decide) c1⟩ ?_
  try rw [mrd 68 c1.1] at HP
  refine gl_oV (hM.2 53 (by decide)).1 ?_
  replace HP := bind_ck HP
  obtain ⟨c2, HP⟩ := HP
  refine gl_ckV ⟨(hM.2 53 (by decide)).2.1, in_of (hM.2 53 (by decide)).2.2 (by decide) c2⟩ ?_
  try rw [mrd 53 c2.1] at HP
  replace HP := bd_n HP
  obtain ⟨e8, Eh8, HP⟩ := HP
  refine gl_sIV 68 hM f (by decide) (by first | assumption | exact And.left (by assumption) | decide) (fun h8 hM8 f8 Kh8 => ?_)
  obtain rfl : menv t h8 = e8 := mtr Kh8 Eh8
  replace HP := bd_n HP
  obtain ⟨v10, Ev10, HP⟩ := HP
  refine gl_bdvV Ev10 ?_
  exact hk95 hM8 f8 HP

set_option maxRecDepth 20000 in
theorem pl_X12_recordOf_223 {t : Nat} {h0 : aH} {e' : mE} {qk7 : Int32 → Int32 → Int32 → mE → Option (mE)} {k7 : Nat → Int32 → Int32 → Int32 → aH → Option (aH)} (hk7 : ∀ {u1 : Int32} {u2 : Int32} {u3 : Int32} {h : aH}, MS t h → fr t h0 h → qk7 u1 u2 u3 (menv t h) = some e' → Glv t h0 (k7 t u1 u2 u3 h) e') {qk95 : Int32 → Int32 → Int32 → Int32 → Int32 → Int32 → mE → Option (mE)} {k95 : Nat → Int32 → Int32 → Int32 → Int32 → Int32 → Int32 → aH → Option (aH)} (hk95 : ∀ {u1 : Int32} {u2 : Int32} {u3 : Int32} {u4 : Int32} {u5 : Int32} {u6 : Int32} {h : aH}, MS t h → fr t h0 h → qk95 u1 u2 u3 u4 u5 u6 (menv t h) = some e' → Glv t h0 (k95 t u1 u2 u3 u4 u5 u6 h) e') {x1 : Int32} {x2 : Int32} {x3 : Int32} {x4 : Int32} {x5 : Int32} {x6 : Int32} {x7 : Int32} {x8 : Int32} {h : aH} (hM : MS t h) (f : fr t h0 h) (HP : P_X12_recordOf_223 qk7 qk95 x1 x2 x3 x4 x5 x6 x7 x8 (menv t h) = some e') : Glv t h0 (F_X12_recordOf_223 k7 k95 t x1 x2 x3 x4 x5 x6 x7 x8 h) e' := by
  unfold P_X12_recordOf_223 at HP
  unfold F_X12_recordOf_223
  refine gl_ckV hM.1 ?_
  refine gl_oV (hM.2 58 (by decide)).1 ?_
  replace HP := bind_ck HP
  obtain ⟨c1, HP⟩ := HP
  refine gl_ckV ⟨(hM.2 58 (by decide)).2.1, in_of (hM.2 58 (by decide)).2.2 (by decide) c1⟩ ?_
  try rw [mrd 58 c1.1] at HP
  replace HP := bind_o HP
  obtain ⟨⟨z7, e6⟩, E2, HP⟩ := HP
  obtain ⟨h6, F3, rfl, hM6, gh6⟩ := pl_X12_fieldsOf (t := t) hM (fr.refl _ _) E2
  have f6 := f.trans gh6
  refine gl_oV F3 (gl_bdV (gl_bdV ?_))
  replace HP := bd_o (bd_o HP)
  dsimp only at HP ⊢
  refine gl_ckV hM6.1 ?_
  refine gl_oV (hM6.2 57 (by decide)).1 ?_
  replace HP := bind_ck HP
  obtain ⟨c4, HP⟩ := HP
  refine gl_ckV ⟨(hM6.2 57 (by decide)).2.1, in_of (hM6.2 57 (by decide)).2.2 (by decide) c4⟩ ?_
  try rw [mrd 57 c4.1] at HP
  replace HP := bind_o HP
  obtain ⟨e14, E5, HP⟩ := HP
  obtain ⟨h14, F6, rfl, hM14, gh14⟩ := pl_X12_better (t := t) hM6 (fr.refl _ _) E5
  have f14 := f6.trans gh14
  refine gl_oV F6 ?_
  exact pl_X12_recordOf_254 (fun hm ff hp => hk7 hm ff hp) (fun hm ff hp => hk95 hm ff hp) hM14 f14 HP

set_option maxRecDepth 20000 in
theorem pl_X12_recordOf_160 {t : Nat} {h0 : aH} {e' : mE} {qk7 : Int32 → Int32 → Int32 → mE → Option (mE)} {k7 : Nat → Int32 → Int32 → Int32 → aH → Option (aH)} (hk7 : ∀ {u1 : Int32} {u2 : Int32} {u3 : Int32} {h : aH}, MS t h → fr t h0 h → qk7 u1 u2 u3 (menv t h) = some e' → Glv t h0 (k7 t u1 u2 u3 h) e') {qk95 : Int32 → Int32 → Int32 → Int32 → Int32 → Int32 → mE → Option (mE)} {k95 : Nat → Int32 → Int32 → Int32 → Int32 → Int32 → Int32 → aH → Option (aH)} (hk95 : ∀ {u1 : Int32} {u2 : Int32} {u3 : Int32} {u4 : Int32} {u5 : Int32} {u6 : Int32} {h : aH}, MS t h → fr t h0 h → qk95 u1 u2 u3 u4 u5 u6 (menv t h) = some e' → Glv t h0 (k95 t u1 u2 u3 u4 u5 u6 h) e') {x1 : Int32} {x2 : Int32} {x3 : Int32} {x4 : Int32} {x5 : Int32} {x6 : Int32} {x7 : Int32} {x8 : Int32} {h : aH} (hM : MS t h) (f : fr t h0 h) (HP : P_X12_recordOf_160 qk7 qk95 x1 x2 x3 x4 x5 x6 x7 x8 (menv t h) = some e') : Glv t h0 (F_X12_recordOf_160 k7 k95 t x1 x2 x3 x4 x5 x6 x7 x8 h) e' := by
  unfold P_X12_recordOf_160 at HP
  unfold F_X12_recordOf_160
  refine gl_iteV (fun c1 => ?_) (fun c1 => ?_)
  · replace HP := ite_T c1 HP
    refine gl_ckV hM.1 ?_
    refine gl_oV (hM.2 56 (by decide)).1 ?_
    replace HP := bind_ck HP
    obtain ⟨c2, HP⟩ := HP
    refine gl_ckV ⟨(hM.2 56 (by decide)).2.1, in_of (hM.2 56 (by decide)).2.2 (by decide) c2⟩ ?_
    try rw [mrd 56 c2.1] at HP
    refine gl_iteV (fun c3 => ?_) (fun c3 => ?_)
    · replace HP := ite_T c3 HP
      exact pl_X12_recordOf_254 (fun hm ff hp => hk7 hm ff hp) (fun hm ff hp => hk95 hm ff hp) hM f HP
    · replace HP := ite_F c3 HP
      refine gl_oV (hM.2 58 (by decide)).1 ?_
      replace HP := bind_ck HP
      obtain ⟨c4, HP⟩ := HP
      refine gl_ckV ⟨(hM.2 58 (by decide)).2.1, in_of (hM.2 58 (by decide)).2.2 (by decide) c4⟩ ?_
      try rw [mrd 58 c4.1] at HP
      refine gl_oV (hM.2 67 (by decide)).1 ?_
      replace HP := bind_ck HP
      obtain ⟨c5, HP⟩ := HP
      refine gl_ckV ⟨(hM.2 67 (by decide)).2.1, in_of (hM.2 67 (by decide)).2.2 (by decide) c5⟩ ?_
      try rw [mrd 67 c5.1] at HP
      refine gl_iteV (fun c6 => ?_) (fun c6 => ?_)
      · replace HP := ite_T c6 HP
        exact pl_X12_recordOf_223 (fun hm ff hp => hk7 hm ff hp) (fun hm ff hp => hk95 hm ff hp) hM f HP
      · replace HP := ite_F c6 HP
        refine gl_oV (hM.2 58 (by decide)).1 ?_
        replace HP := bind_ck HP
        obtain ⟨c7, HP⟩ := HP
        refine gl_ckV ⟨(hM.2 58 (by decide)).2.1, in_of (hM.2 58 (by decide)).2.2 (by decide) c7⟩ ?_
        try rw [mrd 58 c7.1] at HP
        refine gl_oV (hM.2 67 (by decide)).1 ?_
        replace HP := bind_ck HP
        obtain ⟨c8, HP⟩ := HP
        refine gl_ckV ⟨(hM.2 67 (by decide)).2.1, in_of (hM.2 67 (by decide)).2.2 (by decide) c8⟩ ?_
        try rw [mrd 67 c8.1] at HP
        refine gl_iteV (fun c9 => ?_) (fun c9 => ?_)
        · replace HP := ite_T c9 HP
          refine gl_oV (hM.2 57 (by decide)).1 ?_
          replace HP := bind_ck HP
          obtain ⟨c10, HP⟩ := HP
          refine gl_ckV ⟨(hM.2 57 (by decide)).2.1, in_of (hM.2 57 (by decide)).2.2 (by decide) c10⟩ ?_
          try rw [mrd 57 c10.1] at HP
          refine gl_oV (hM.2 67 (by decide)).1 ?_
          replace HP := bind_ck HP
          obtain ⟨c11, HP⟩ := HP
          refine gl_ckV ⟨(hM.2 67 (by decide)).2.1, in_of (hM.2 67 (by decide)).2.2 (by decide) c11⟩ ?_
          try rw [mrd 67 c11.1] at HP
          refine gl_iteV (fun c12 => ?_) (fun c12 => ?_)
          · replace HP := ite_T c12 HP
            exact pl_X12_recordOf_254 (fun hm ff hp => hk7 hm ff hp) (fun hm ff hp => hk95 hm ff hp) hM f HP
          · replace HP := ite_F c12 HP
            exact pl_X12_recordOf_223 (fun hm ff hp => hk7 hm ff hp) (fun hm ff hp => hk95 hm ff hp) hM f HP
        · replace HP := ite_F c9 HP
          exact pl_X12_recordOf_254 (fun hm ff hp => hk7 hm ff hp) (fun hm ff hp => hk95 hm ff hp) hM f HP
  · replace HP := ite_F c1 HP
    exact pl_X12_recordOf_254 (fun hm ff hp => hk7 hm ff hp) (fun hm ff hp => hk95 hm ff hp) hM f HP

set_option maxRecDepth 20000 in
theorem pl_X12_recordOf_95 {t : Nat} {h0 : aH} {e' : mE} {qk7 : Int32 → Int32 → Int32 → mE → Option (mE)} {k7 : Nat → Int32 → Int32 → Int32 → aH → Option (aH)} (hk7 : ∀ {u1 : Int32} {u2 : Int32} {u3 : Int32} {h : aH}, MS t h → fr t h0 h → qk7 u1 u2 u3 (menv t h) = some e' → Glv t h0 (k7 t u1 u2 u3 h) e') : ∀ {n : Nat} {x1 : Int32} {x2 : Int32} {x3 : Int32} {x4 : Int32} {x5 : Int32} {x6 : Int32} {h : aH}, MS t h → fr t h0 h → P_X12_recordOf_95 qk7 n x1 x2 x3 x4 x5 x6 (menv t h) = some e' → Glv t h0 (F_X12_recordOf_95 k7 n t x1 x2 x3 x4 x5 x6 h) e' := by
  intro n
  induction n with
  | zero => intro x1 x2 x3 x4 x5 x6 h hM f HP; cases HP
  | succ n ih =>
  intro x1 x2 x3 x4 x5 x6 h hM f HP
  unfold P_X12_recordOf_95 at HP
  unfold F_X12_recordOf_95
  refine gl_iteV (fun c1 => ?_) (fun c1 => ?_)
  · replace HP := ite_T c1 HP
    replace HP := bd_n HP
    obtain ⟨v2, Ev2, HP⟩ := HP
    refine gl_bdvV Ev2 ?_
    exact hk7 hM f HP
  · replace HP := ite_F c1 HP
    replace HP := bd_n HP
    obtain ⟨v3, Ev3, HP⟩ := HP
    refine gl_bdvV Ev3 ?_
    refine gl_ckV hM.1 ?_
    replace HP := bind_o HP
    obtain ⟨⟨z7, e6⟩, E2, HP⟩ := HP
    obtain ⟨h6, F3, rfl, hM6, gh6⟩ := pl_X12_batsOf (t := t) hM (fr.refl _ _) E2
    have f6 := f.trans gh6
    refine gl_oV F3 (gl_bdV (gl_bdV ?_))
    replace HP := bd_o (bd_o HP)
    dsimp only at HP ⊢
    refine gl_iteV (fun c4 => ?_) (fun c4 => ?_)
    · replace HP := ite_T c4 HP
      refine gl_ckV hM6.1 ?_
      refine gl_oV (hM6.2 53 (by decide)).1 ?_
      replace HP := bind_ck HP
      obtain ⟨c5, HP⟩ := HP
      refine gl_ckV ⟨(hM6.2 53 (by decide)).2.1, in_of (hM6.2 53 (by decide)).2.2 (by decide) c5⟩ ?_
      try rw [mrd 53 c5.1] at HP
      refine gl_oV (hM6.2 67 (by decide)).1 ?_
      replace HP := bind_ck HP
      obtain ⟨c6, HP⟩ := HP
      refine gl_ckV ⟨(hM6.2 67 (by decide)).2.1, in_of (hM6.2 67 (by decide)).2.2 (by decide) c6⟩ ?_
      try rw [mrd 67 c6.1] at HP
      refine gl_iteV (fun c7 => ?_) (fun c7 => ?_)
      · replace HP := ite_T c7 HP
        exact pl_X12_recordOf_160 (fun hm ff hp => hk7 hm ff hp) (fun hm ff hp => ih hm ff hp) hM6 f6 HP
      · replace HP := ite_F c7 HP
        refine gl_oV (hM6.2 53 (by decide)).1 ?_
        replace HP := bind_ck HP
        obtain ⟨c8, HP⟩ := HP
        refine gl_ckV ⟨(hM6.2 53 (by decide)).2.1, in_of (hM6.2 53 (by decide)).2.2 (by decide) c8⟩ ?_
        try rw [mrd 53 c8.1] at HP
        replace HP := bind_o HP
        obtain ⟨e22, E9, HP⟩ := HP
        obtain ⟨h22, F10, rfl, hM22, gh22⟩ := pl_X12_better (t := t) hM6 (fr.refl _ _) E9
        have f22 := f6.trans gh22
        refine gl_oV F10 ?_
        exact pl_X12_recordOf_160 (fun hm ff hp => hk7 hm ff hp) (fun hm ff hp => ih hm ff hp) hM22 f22 HP
    · replace HP := ite_F c4 HP
      exact pl_X12_recordOf_160 (fun hm ff hp => hk7 hm ff hp) (fun hm ff hp => ih hm ff hp) hM6 f6 HP

set_option maxRecDepth 20000 in
theorem pl_X12_recordOf_92 {t : Nat} {h0 : aH} {e' : mE} {qk7 : Int32 → Int32 → Int32 → mE → Option (mE)} {k7 : Nat → Int32 → Int32 → Int32 → aH → Option (aH)} (hk7 : ∀ {u1 : Int32} {u2 : Int32} {u3 : Int32} {h : aH}, MS t h → fr t h0 h → qk7 u1 u2 u3 (menv t h) = some e' → Glv t h0 (k7 t u1 u2 u3 h) e') {x1 : Int32} {x2 : Int32} {x3 : Int32} {x4 : Int32} {x5 : Int32} {h : aH} (hM : MS t h) (f : fr t h0 h) (HP : P_X12_recordOf_92 qk7 x1 x2 x3 x4 x5 (menv t h) = some e') : Glv t h0 (F_X12_recordOf_92 k7 t x1 x2 x3 x4 x5 h) e' := by
  unfold P_X12_recordOf_92 at HP
  unfold F_X12_recordOf_92
  exact pl_X12_recordOf_95 (fun hm ff hp => hk7 hm ff hp) hM f HP

set_option maxRecDepth 20000 in
theorem pl_X12_recordOf_7 {t : Nat} {h0 : aH} {e' : mE} : ∀ {n : Nat} {x1 : Int32} {x2 : Int32} {x3 : Int32} {h : aH}, MS t h → fr t h0 h → P_X12_recordOf_7  n x1 x2 x3 (menv t h) = some e' → Glv t h0 (F_X12_recordOf_7  n t x1 x2 x3 h) e' := by
  intro n
  induction n with
  | zero => intro x1 x2 x3 h hM f HP; cases HP
  | succ n ih =>
  intro x1 x2 x3 h hM f HP
  unfold P_X12_recordOf_7 at HP
  unfold F_X12_recordOf_7
  refine gl_ckV hM.1 ?_
  refine gl_oV (hM.2 8 (by decide)).1 ?_
  replace HP := bind_ck HP
  obtain ⟨c1, HP⟩ := HP
  refine gl_ckV ⟨(hM.2 8 (by decide)).2.1, in_of (hM.2 8 (by decide)).2.2 (by decide) c1⟩ ?_
  try rw [mrd 8 c1.1] at HP
  refine gl_iteV (fun c2 => ?_) (fun c2 => ?_)
  · replace HP := ite_T c2 HP
    exact gl_endv hM f HP
  · replace HP := ite_F c2 HP
    refine gl_oV (hM.2 52 (by decide)).1 ?_
    replace HP := bind_ck HP
    obtain ⟨c3, HP⟩ := HP
    refine gl_ckV ⟨(hM.2 52 (by decide)).2.1, in_of (hM.2 52 (by decide)).2.2 (by decide) c3⟩ ?_
    try rw [mrd 52 c3.1] at HP
    refine gl_iteV (fun c4 => ?_) (fun c4 => ?_)
    · replace HP := ite_T c4 HP
      exact gl_endv hM f HP
    · replace HP := ite_F c4 HP
      refine gl_oV (hM.2 4 (by decide)).1 ?_
      replace HP := bind_ck HP
      obtain ⟨c5, HP⟩ := HP
      refine gl_ckV ⟨(hM.2 4 (by decide)).2.1, in_of (hM.2 4 (by decide)).2.2 (by decide) c5⟩ ?_
      try rw [mrd 4 c5.1] at HP
      replace HP := bd_n HP
      obtain ⟨v13, Ev13, HP⟩ := HP
      refine gl_bdvV Ev13 ?_
      refine gl_oV (hM.2 4 (by decide)).1 ?_
      replace HP := bind_ck HP
      obtain ⟨c6, HP⟩ := HP
      refine gl_ckV ⟨(hM.2 4 (by decide)).2.1, in_of (hM.2 4 (by decide)).2.2 (by decide) c6⟩ ?_
      try rw [mrd 4 c6.1] at HP
      replace HP := bd_n HP
      obtain ⟨v17, Ev17, HP⟩ := HP
      refine gl_bdvV Ev17 ?_
      refine gl_iteV (fun c7 => ?_) (fun c7 => ?_)
      · replace HP := ite_T c7 HP
        refine gl_oV (hM.2 35 (by decide)).1 ?_
        replace HP := bind_ck HP
        obtain ⟨c8, HP⟩ := HP
        refine gl_ckV ⟨(hM.2 35 (by decide)).2.1, in_of (hM.2 35 (by decide)).2.2 (by decide) c8⟩ ?_
        try rw [mrd 35 c8.1] at HP
        refine gl_oV (hM.2 67 (by decide)).1 ?_
        replace HP := bind_ck HP
        obtain ⟨c9, HP⟩ := HP
        refine gl_ckV ⟨(hM.2 67 (by decide)).2.1, in_of (hM.2 67 (by decide)).2.2 (by decide) c9⟩ ?_
        try rw [mrd 67 c9.1] at HP
        refine gl_iteV (fun c10 => ?_) (fun c10 => ?_)
        · replace HP := ite_T c10 HP
          exact pl_X12_recordOf_92 (fun hm ff hp => ih hm ff hp) hM f HP
        · replace HP := ite_F c10 HP
          refine gl_oV (hM.2 35 (by decide)).1 ?_
          replace HP := bind_ck HP
          obtain ⟨c11, HP⟩ := HP
          refine gl_ckV ⟨(hM.2 35 (by decide)).2.1, in_of (hM.2 35 (by decide)).2.2 (by decide) c11⟩ ?_
          try rw [mrd 35 c11.1] at HP
          replace HP := bind_o HP
          obtain ⟨e30, E12, HP⟩ := HP
          obtain ⟨h30, F13, rfl, hM30, gh30⟩ := pl_X12_better (t := t) hM (fr.refl _ _) E12
          have f30 := f.trans gh30
          refine gl_oV F13 ?_
          exact pl_X12_recordOf_92 (fun hm ff hp => ih hm ff hp) hM30 f30 HP
      · replace HP := ite_F c7 HP
        exact pl_X12_recordOf_92 (fun hm ff hp => ih hm ff hp) hM f HP

set_option maxRecDepth 20000 in
theorem pl_X12_recordOf {t : Nat} {h0 : aH} {e' : mE} {x1 : Int32} {x2 : Int32} {h : aH} (hM : MS t h) (f : fr t h0 h) (HP : P_X12_recordOf  x1 x2 (menv t h) = some e') : Glv t h0 (F_X12_recordOf  t x1 x2 h) e' := by
  unfold P_X12_recordOf at HP
  unfold F_X12_recordOf
  replace HP := bind_o HP
  obtain ⟨e2, E1, HP⟩ := HP
  obtain ⟨h2, F2, rfl, hM2, gh2⟩ := pl_X12_play (t := t) hM (fr.refl _ _) E1
  have f2 := f.trans gh2
  refine gl_oV F2 ?_
  exact pl_X12_recordOf_7  hM2 f2 HP

set_option maxRecDepth 20000 in
theorem pl_X12_record_154 {t : Nat} {h0 : aH} {r : Int32} {e' : mE} {qk84 : Int32 → Int32 → Int32 → mE → Option (Int32 × mE)} {k84 : Nat → Int32 → Int32 → Int32 → aH → Option (Int32 × aH)} (hk84 : ∀ {u1 : Int32} {u2 : Int32} {u3 : Int32} {h : aH}, MS t h → fr t h0 h → qk84 u1 u2 u3 (menv t h) = some (r, e') → Gl t h0 (k84 t u1 u2 u3 h) r e') {qk100 : Int32 → Int32 → Int32 → Int32 → mE → Option (Int32 × mE)} {k100 : Nat → Int32 → Int32 → Int32 → Int32 → aH → Option (Int32 × aH)} (hk100 : ∀ {u1 : Int32} {u2 : Int32} {u3 : Int32} {u4 : Int32} {h : aH}, MS t h → fr t h0 h → qk100 u1 u2 u3 u4 (menv t h) = some (r, e') → Gl t h0 (k100 t u1 u2 u3 u4 h) r e') {x1 : Int32} {x2 : Int32} {x3 : Int32} {x4 : Int32} {h : aH} (hM : MS t h) (f : fr t h0 h) (HP : P_X12_record_154 qk84 qk100 x1 x2 x3 x4 (menv t h) = some (r, e')) : Gl t h0 (F_X12_record_154 k84 k100 t x1 x2 x3 x4 h) r e' := by
  unfold P_X12_record_154 at HP
  unfold F_X12_record_154
  replace HP := bd_n HP
  obtain ⟨v1, Ev1, HP⟩ := HP
  refine gl_bdv Ev1 ?_
  exact hk100 hM f HP

set_option maxRecDepth 20000 in
theorem pl_X12_record_100 {t : Nat} {h0 : aH} {r : Int32} {e' : mE} {qk84 : Int32 → Int32 → Int32 → mE → Option (Int32 × mE)} {k84 : Nat → Int32 → Int32 → Int32 → aH → Option (Int32 × aH)} (hk84 : ∀ {u1 : Int32} {u2 : Int32} {u3 : Int32} {h : aH}, MS t h → fr t h0 h → qk84 u1 u2 u3 (menv t h) = some (r, e') → Gl t h0 (k84 t u1 u2 u3 h) r e') : ∀ {n : Nat} {x1 : Int32} {x2 : Int32} {x3 : Int32} {x4 : Int32} {h : aH}, MS t h → fr t h0 h → P_X12_record_100 qk84 n x1 x2 x3 x4 (menv t h) = some (r, e') → Gl t h0 (F_X12_record_100 k84 n t x1 x2 x3 x4 h) r e' := by
  intro n
  induction n with
  | zero => intro x1 x2 x3 x4 h hM f HP; cases HP
  | succ n ih =>
  intro x1 x2 x3 x4 h hM f HP
  unfold P_X12_record_100 at HP
  unfold F_X12_record_100
  refine gl_ck hM.1 ?_
  refine gl_o (hM.2 3 (by decide)).1 ?_
  replace HP := bind_ck HP
  obtain ⟨c1, HP⟩ := HP
  refine gl_ck ⟨(hM.2 3 (by decide)).2.1, in_of (hM.2 3 (by decide)).2.2 (by decide) c1⟩ ?_
  try rw [mrd 3 c1.1] at HP
  refine gl_ite (fun c2 => ?_) (fun c2 => ?_)
  · replace HP := ite_T c2 HP
    replace HP := bd_n HP
    obtain ⟨v6, Ev6, HP⟩ := HP
    refine gl_bdv Ev6 ?_
    exact hk84 hM f HP
  · replace HP := ite_F c2 HP
    refine gl_o (hM.2 68 (by decide)).1 ?_
    replace HP := bind_ck HP
    obtain ⟨c3, HP⟩ := HP
    refine gl_ck ⟨(hM.2 68 (by decide)).2.1, in_of (hM.2 68 (by decide)).2.2 (by decide) c3⟩ ?_
    try rw [mrd 68 c3.1] at HP
    refine gl_o (hM.2 67 (by decide)).1 ?_
    replace HP := bind_ck HP
    obtain ⟨c4, HP⟩ := HP
    refine gl_ck ⟨(hM.2 67 (by decide)).2.1, in_of (hM.2 67 (by decide)).2.2 (by decide) c4⟩ ?_
    try rw [mrd 67 c4.1] at HP
    refine gl_ite (fun c5 => ?_) (fun c5 => ?_)
    · replace HP := ite_T c5 HP
      exact pl_X12_record_154 (fun hm ff hp => hk84 hm ff hp) (fun hm ff hp => ih hm ff hp) hM f HP
    · replace HP := ite_F c5 HP
      refine gl_o (hM.2 68 (by decide)).1 ?_
      replace HP := bind_ck HP
      obtain ⟨c6, HP⟩ := HP
      refine gl_ck ⟨(hM.2 68 (by decide)).2.1, in_of (hM.2 68 (by decide)).2.2 (by decide) c6⟩ ?_
      try rw [mrd 68 c6.1] at HP
      replace HP := bind_o HP
      obtain ⟨e18, E7, HP⟩ := HP
      obtain ⟨h18, F8, rfl, hM18, gh18⟩ := pl_X12_better (t := t) hM (fr.refl _ _) E7
      have f18 := f.trans gh18
      refine gl_o F8 ?_
      exact pl_X12_record_154 (fun hm ff hp => hk84 hm ff hp) (fun hm ff hp => ih hm ff hp) hM18 f18 HP

set_option maxRecDepth 20000 in
theorem pl_X12_record_84 {t : Nat} {h0 : aH} {r : Int32} {e' : mE} : ∀ {n : Nat} {x1 : Int32} {x2 : Int32} {x3 : Int32} {h : aH}, MS t h → fr t h0 h → P_X12_record_84  n x1 x2 x3 (menv t h) = some (r, e') → Gl t h0 (F_X12_record_84  n t x1 x2 x3 h) r e' := by
  intro n
  induction n with
  | zero => intro x1 x2 x3 h hM f HP; cases HP
  | succ n ih =>
  intro x1 x2 x3 h hM f HP
  unfold P_X12_record_84 at HP
  unfold F_X12_record_84
  refine gl_ck hM.1 ?_
  refine gl_ite (fun c1 => ?_) (fun c1 => ?_)
  · replace HP := ite_T c1 HP
    refine gl_o (hM.2 67 (by decide)).1 ?_
    replace HP := bind_ck HP
    obtain ⟨c2, HP⟩ := HP
    refine gl_ck ⟨(hM.2 67 (by decide)).2.1, in_of (hM.2 67 (by decide)).2.2 (by decide) c2⟩ ?_
    try rw [mrd 67 c2.1] at HP
    exact gl_end hM f HP
  · replace HP := ite_F c1 HP
    refine gl_ite (fun c3 => ?_) (fun c3 => ?_)
    · replace HP := ite_T c3 HP
      exact pl_X12_record_100 (fun hm ff hp => ih hm ff hp) hM f HP
    · replace HP := ite_F c3 HP
      refine gl_o (hM.2 67 (by decide)).1 ?_
      replace HP := bind_ck HP
      obtain ⟨c4, HP⟩ := HP
      refine gl_ck ⟨(hM.2 67 (by decide)).2.1, in_of (hM.2 67 (by decide)).2.2 (by decide) c4⟩ ?_
      try rw [mrd 67 c4.1] at HP
      exact gl_end hM f HP

set_option maxRecDepth 20000 in
theorem pl_X12_record_62 {t : Nat} {h0 : aH} {r : Int32} {e' : mE} : ∀ {n : Nat} {x1 : Int32} {x2 : Int32} {x3 : Int32} {h : aH}, MS t h → fr t h0 h → P_X12_record_62  n x1 x2 x3 (menv t h) = some (r, e') → Gl t h0 (F_X12_record_62  n t x1 x2 x3 h) r e' := by
  intro n
  induction n with
  | zero => intro x1 x2 x3 h hM f HP; cases HP
  | succ n ih =>
  intro x1 x2 x3 h hM f HP
  unfold P_X12_record_62 at HP
  unfold F_X12_record_62
  refine gl_ck hM.1 ?_
  refine gl_ite (fun c1 => ?_) (fun c1 => ?_)
  · replace HP := ite_T c1 HP
    exact pl_X12_record_84  hM f HP
  · replace HP := ite_F c1 HP
    replace HP := bind_o HP
    obtain ⟨e4, E2, HP⟩ := HP
    obtain ⟨h4, F3, rfl, hM4, gh4⟩ := pl_X12_recordOf (t := t) hM (fr.refl _ _) E2
    have f4 := f.trans gh4
    refine gl_o F3 ?_
    replace HP := bd_n HP
    obtain ⟨v6, Ev6, HP⟩ := HP
    refine gl_bdv Ev6 ?_
    exact ih hM4 f4 HP

set_option maxRecDepth 20000 in
theorem pl_X12_record_40 {t : Nat} {h0 : aH} {r : Int32} {e' : mE} : ∀ {n : Nat} {x1 : Int32} {x2 : Int32} {x3 : Int32} {h : aH}, MS t h → fr t h0 h → P_X12_record_40  n x1 x2 x3 (menv t h) = some (r, e') → Gl t h0 (F_X12_record_40  n t x1 x2 x3 h) r e' := by
  intro n
  induction n with
  | zero => intro x1 x2 x3 h hM f HP; cases HP
  | succ n ih =>
  intro x1 x2 x3 h hM f HP
  unfold P_X12_record_40 at HP
  unfold F_X12_record_40
  refine gl_ite (fun c1 => ?_) (fun c1 => ?_)
  · replace HP := ite_T c1 HP
    exact pl_X12_record_62  hM f HP
  · replace HP := ite_F c1 HP
    refine gl_ck hM.1 ?_
    refine gl_o (hM.2 68 (by decide)).1 ?_
    replace HP := bind_ck HP
    obtain ⟨c2, HP⟩ := HP
    refine gl_ck ⟨(hM.2 68 (by decide)).2.1, in_of (hM.2 68 (by decide)).2.2 (by decide) c2⟩ ?_
    try rw [mrd 68 c2.1] at HP
    replace HP := bd_n HP
    obtain ⟨e6, Eh6, HP⟩ := HP
    refine gl_sI 68 hM f (by decide) (by first | assumption | exact And.left (by assumption) | decide) (fun h6 hM6 f6 Kh6 => ?_)
    obtain rfl : menv t h6 = e6 := mtr Kh6 Eh6
    replace HP := bd_n HP
    obtain ⟨v8, Ev8, HP⟩ := HP
    refine gl_bdv Ev8 ?_
    exact ih hM6 f6 HP

set_option maxRecDepth 20000 in
theorem pl_X12_record_23 {t : Nat} {h0 : aH} {r : Int32} {e' : mE} {h : aH} (hM : MS t h) (f : fr t h0 h) (HP : P_X12_record_23   (menv t h) = some (r, e')) : Gl t h0 (F_X12_record_23  t h) r e' := by
  unfold P_X12_record_23 at HP
  unfold F_X12_record_23
  refine gl_ck hM.1 ?_
  replace HP := bind_o HP
  obtain ⟨⟨z4, e3⟩, E1, HP⟩ := HP
  obtain ⟨h3, F2, rfl, hM3, gh3⟩ := pl_X12_fail (t := t) hM (fr.refl _ _) E1
  have f3 := f.trans gh3
  refine gl_o F2 (gl_bd (gl_bd ?_))
  replace HP := bd_o (bd_o HP)
  dsimp only at HP ⊢
  exact gl_end hM3 f3 HP

set_option maxRecDepth 20000 in
theorem pl_X12_record {t : Nat} {h0 : aH} {r : Int32} {e' : mE} {x1 : Int32} {x2 : Int32} {h : aH} (hM : MS t h) (f : fr t h0 h) (HP : P_X12_record  x1 x2 (menv t h) = some (r, e')) : Gl t h0 (F_X12_record  t x1 x2 h) r e' := by
  unfold P_X12_record at HP
  unfold F_X12_record
  replace HP := bd_n HP
  obtain ⟨e1, Eh1, HP⟩ := HP
  refine gl_sF 0 hM f (fun h1 hM1 f1 Kh1 => ?_)
  obtain rfl : menv t h1 = e1 := mtr Kh1 Eh1
  refine gl_ite (fun c1 => ?_) (fun c1 => ?_)
  · replace HP := ite_T c1 HP
    exact pl_X12_record_23  hM1 f1 HP
  · replace HP := ite_F c1 HP
    refine gl_ite (fun c2 => ?_) (fun c2 => ?_)
    · replace HP := ite_T c2 HP
      exact pl_X12_record_23  hM1 f1 HP
    · replace HP := ite_F c2 HP
      refine gl_ite (fun c3 => ?_) (fun c3 => ?_)
      · replace HP := ite_T c3 HP
        exact pl_X12_record_23  hM1 f1 HP
      · replace HP := ite_F c3 HP
        refine gl_ite (fun c4 => ?_) (fun c4 => ?_)
        · replace HP := ite_T c4 HP
          replace HP := bind_o HP
          obtain ⟨e8, E5, HP⟩ := HP
          obtain ⟨h8, F6, rfl, hM8, gh8⟩ := pl_X12_better (t := t) hM1 (fr.refl _ _) E5
          have f8 := f1.trans gh8
          refine gl_o F6 ?_
          exact pl_X12_record_40  hM8 f8 HP
        · replace HP := ite_F c4 HP
          exact pl_X12_record_23  hM1 f1 HP

set_option maxRecDepth 20000 in
theorem pl_X12_say_20 {t : Nat} {h0 : aH} {e' : mE} {h : aH} (hM : MS t h) (f : fr t h0 h) (HP : P_X12_say_20   (menv t h) = some e') : Glv t h0 (F_X12_say_20  t h) e' := by
  unfold P_X12_say_20 at HP
  unfold F_X12_say_20
  refine gl_ckV hM.1 ?_
  replace HP := bd_n HP
  obtain ⟨e2, Eh2, HP⟩ := HP
  refine gl_sFV 18 hM f (fun h2 hM2 f2 Kh2 => ?_)
  obtain rfl : menv t h2 = e2 := mtr Kh2 Eh2
  exact gl_endv hM2 f2 HP

set_option maxRecDepth 20000 in
theorem pl_X12_say {t : Nat} {h0 : aH} {e' : mE} {x1 : Int32} {h : aH} (hM : MS t h) (f : fr t h0 h) (HP : P_X12_say  x1 (menv t h) = some e') : Glv t h0 (F_X12_say  t x1 h) e' := by
  unfold P_X12_say at HP
  unfold F_X12_say
  refine gl_iteV (fun c1 => ?_) (fun c1 => ?_)
  · replace HP := ite_T c1 HP
    exact pl_X12_say_20  hM f HP
  · replace HP := ite_F c1 HP
    refine gl_oV (hM.2 17 (by decide)).1 ?_
    replace HP := bind_ck HP
    obtain ⟨c2, HP⟩ := HP
    refine gl_ckV ⟨(hM.2 17 (by decide)).2.1, in_of (hM.2 17 (by decide)).2.2 (by decide) c2⟩ ?_
    try rw [mrd 17 c2.1] at HP
    replace HP := bd_n HP
    obtain ⟨e5, Eh5, HP⟩ := HP
    refine gl_sIV 17 hM f (by decide) (by first | assumption | exact And.left (by assumption) | decide) (fun h5 hM5 f5 Kh5 => ?_)
    obtain rfl : menv t h5 = e5 := mtr Kh5 Eh5
    exact pl_X12_say_20  hM5 f5 HP

set_option maxRecDepth 20000 in
theorem pl_X12_image_194 {t : Nat} {h0 : aH} {r : Int32} {e' : mE} {qk118 : Int32 → Int32 → mE → Option (Int32 × mE)} {k118 : Nat → Int32 → Int32 → aH → Option (Int32 × aH)} (hk118 : ∀ {u1 : Int32} {u2 : Int32} {h : aH}, MS t h → fr t h0 h → qk118 u1 u2 (menv t h) = some (r, e') → Gl t h0 (k118 t u1 u2 h) r e') {qk144 : Int32 → Int32 → Int32 → mE → Option (Int32 × mE)} {k144 : Nat → Int32 → Int32 → Int32 → aH → Option (Int32 × aH)} (hk144 : ∀ {u1 : Int32} {u2 : Int32} {u3 : Int32} {h : aH}, MS t h → fr t h0 h → qk144 u1 u2 u3 (menv t h) = some (r, e') → Gl t h0 (k144 t u1 u2 u3 h) r e') : ∀ {n : Nat} {x1 : Int32} {x2 : Int32} {x3 : Int32} {x4 : Int32} {x5 : Int32} {h : aH}, MS t h → fr t h0 h → P_X12_image_194 qk118 qk144 n x1 x2 x3 x4 x5 (menv t h) = some (r, e') → Gl t h0 (F_X12_image_194 k118 k144 n t x1 x2 x3 x4 x5 h) r e' := by
  intro n
  induction n with
  | zero => intro x1 x2 x3 x4 x5 h hM f HP; cases HP
  | succ n ih =>
  intro x1 x2 x3 x4 x5 h hM f HP
  unfold P_X12_image_194 at HP
  unfold F_X12_image_194
  refine gl_ck hM.1 ?_
  refine gl_o (hM.2 13 (by decide)).1 ?_
  replace HP := bind_ck HP
  obtain ⟨c1, HP⟩ := HP
  refine gl_ck ⟨(hM.2 13 (by decide)).2.1, in_of (hM.2 13 (by decide)).2.2 (by decide) c1⟩ ?_
  try rw [mrd 13 c1.1] at HP
  refine gl_ite (fun c2 => ?_) (fun c2 => ?_)
  · replace HP := ite_T c2 HP
    replace HP := bd_n HP
    obtain ⟨v6, Ev6, HP⟩ := HP
    refine gl_bdv Ev6 ?_
    exact hk144 hM f HP
  · replace HP := ite_F c2 HP
    refine gl_o (hM.2 14 (by decide)).1 ?_
    replace HP := bind_ck HP
    obtain ⟨c3, HP⟩ := HP
    refine gl_ck ⟨(hM.2 14 (by decide)).2.1, in_of (hM.2 14 (by decide)).2.2 (by decide) c3⟩ ?_
    try rw [mrd 14 c3.1] at HP
    replace HP := bind_o HP
    obtain ⟨e11, E4, HP⟩ := HP
    obtain ⟨h11, F5, rfl, hM11, gh11⟩ := pl_X12_say (t := t) hM (fr.refl _ _) E4
    have f11 := f.trans gh11
    refine gl_o F5 ?_
    replace HP := bd_n HP
    obtain ⟨v13, Ev13, HP⟩ := HP
    refine gl_bdv Ev13 ?_
    exact ih hM11 f11 HP

set_option maxRecDepth 20000 in
theorem pl_X12_image_144 {t : Nat} {h0 : aH} {r : Int32} {e' : mE} {qk118 : Int32 → Int32 → mE → Option (Int32 × mE)} {k118 : Nat → Int32 → Int32 → aH → Option (Int32 × aH)} (hk118 : ∀ {u1 : Int32} {u2 : Int32} {h : aH}, MS t h → fr t h0 h → qk118 u1 u2 (menv t h) = some (r, e') → Gl t h0 (k118 t u1 u2 h) r e') : ∀ {n : Nat} {x1 : Int32} {x2 : Int32} {x3 : Int32} {h : aH}, MS t h → fr t h0 h → P_X12_image_144 qk118 n x1 x2 x3 (menv t h) = some (r, e') → Gl t h0 (F_X12_image_144 k118 n t x1 x2 x3 h) r e' := by
  intro n
  induction n with
  | zero => intro x1 x2 x3 h hM f HP; cases HP
  | succ n ih =>
  intro x1 x2 x3 h hM f HP
  unfold P_X12_image_144 at HP
  unfold F_X12_image_144
  refine gl_ck hM.1 ?_
  refine gl_o (hM.2 9 (by decide)).1 ?_
  replace HP := bind_ck HP
  obtain ⟨c1, HP⟩ := HP
  refine gl_ck ⟨(hM.2 9 (by decide)).2.1, in_of (hM.2 9 (by decide)).2.2 (by decide) c1⟩ ?_
  try rw [mrd 9 c1.1] at HP
  refine gl_ite (fun c2 => ?_) (fun c2 => ?_)
  · replace HP := ite_T c2 HP
    refine gl_o (hM.2 35 (by decide)).1 ?_
    replace HP := bind_ck HP
    obtain ⟨c3, HP⟩ := HP
    refine gl_ck ⟨(hM.2 35 (by decide)).2.1, in_of (hM.2 35 (by decide)).2.2 (by decide) c3⟩ ?_
    try rw [mrd 35 c3.1] at HP
    replace HP := bind_o HP
    obtain ⟨e10, E4, HP⟩ := HP
    obtain ⟨h10, F5, rfl, hM10, gh10⟩ := pl_X12_say (t := t) hM (fr.refl _ _) E4
    have f10 := f.trans gh10
    refine gl_o F5 ?_
    refine gl_ck hM10.1 ?_
    refine gl_o (hM10.2 35 (by decide)).1 ?_
    replace HP := bind_ck HP
    obtain ⟨c6, HP⟩ := HP
    refine gl_ck ⟨(hM10.2 35 (by decide)).2.1, in_of (hM10.2 35 (by decide)).2.2 (by decide) c6⟩ ?_
    try rw [mrd 35 c6.1] at HP
    replace HP := bind_o HP
    obtain ⟨e17, E7, HP⟩ := HP
    obtain ⟨h17, F8, rfl, hM17, gh17⟩ := pl_X12_say (t := t) hM10 (fr.refl _ _) E7
    have f17 := f10.trans gh17
    refine gl_o F8 ?_
    replace HP := bd_n HP
    obtain ⟨v19, Ev19, HP⟩ := HP
    refine gl_bdv Ev19 ?_
    exact hk118 hM17 f17 HP
  · replace HP := ite_F c2 HP
    replace HP := bind_o HP
    obtain ⟨⟨z22, e21⟩, E9, HP⟩ := HP
    obtain ⟨h21, F10, rfl, hM21, gh21⟩ := pl_X12_rowOf (t := t) hM (fr.refl _ _) E9
    have f21 := f.trans gh21
    refine gl_o F10 (gl_bd (gl_bd ?_))
    replace HP := bd_o (bd_o HP)
    dsimp only at HP ⊢
    refine gl_ck hM21.1 ?_
    refine gl_o (hM21.2 12 (by decide)).1 ?_
    replace HP := bind_ck HP
    obtain ⟨c11, HP⟩ := HP
    refine gl_ck ⟨(hM21.2 12 (by decide)).2.1, in_of (hM21.2 12 (by decide)).2.2 (by decide) c11⟩ ?_
    try rw [mrd 12 c11.1] at HP
    replace HP := bind_o HP
    obtain ⟨e29, E12, HP⟩ := HP
    obtain ⟨h29, F13, rfl, hM29, gh29⟩ := pl_X12_say (t := t) hM21 (fr.refl _ _) E12
    have f29 := f21.trans gh29
    refine gl_o F13 ?_
    refine gl_ck hM29.1 ?_
    refine gl_o (hM29.2 13 (by decide)).1 ?_
    replace HP := bind_ck HP
    obtain ⟨c14, HP⟩ := HP
    refine gl_ck ⟨(hM29.2 13 (by decide)).2.1, in_of (hM29.2 13 (by decide)).2.2 (by decide) c14⟩ ?_
    try rw [mrd 13 c14.1] at HP
    replace HP := bind_o HP
    obtain ⟨e36, E15, HP⟩ := HP
    obtain ⟨h36, F16, rfl, hM36, gh36⟩ := pl_X12_say (t := t) hM29 (fr.refl _ _) E15
    have f36 := f29.trans gh36
    refine gl_o F16 ?_
    exact pl_X12_image_194 (fun hm ff hp => hk118 hm ff hp) (fun hm ff hp => ih hm ff hp) hM36 f36 HP

set_option maxRecDepth 20000 in
theorem pl_X12_image_118 {t : Nat} {h0 : aH} {r : Int32} {e' : mE} : ∀ {n : Nat} {x1 : Int32} {x2 : Int32} {h : aH}, MS t h → fr t h0 h → P_X12_image_118  n x1 x2 (menv t h) = some (r, e') → Gl t h0 (F_X12_image_118  n t x1 x2 h) r e' := by
  intro n
  induction n with
  | zero => intro x1 x2 h hM f HP; cases HP
  | succ n ih =>
  intro x1 x2 h hM f HP
  unfold P_X12_image_118 at HP
  unfold F_X12_image_118
  refine gl_ck hM.1 ?_
  refine gl_o (hM.2 8 (by decide)).1 ?_
  replace HP := bind_ck HP
  obtain ⟨c1, HP⟩ := HP
  refine gl_ck ⟨(hM.2 8 (by decide)).2.1, in_of (hM.2 8 (by decide)).2.2 (by decide) c1⟩ ?_
  try rw [mrd 8 c1.1] at HP
  refine gl_ite (fun c2 => ?_) (fun c2 => ?_)
  · replace HP := ite_T c2 HP
    refine gl_ite (fun c3 => ?_) (fun c3 => ?_)
    · replace HP := ite_T c3 HP
      exact gl_end hM f HP
    · replace HP := ite_F c3 HP
      replace HP := bd_n HP
      obtain ⟨e7, Eh7, HP⟩ := HP
      refine gl_sF 18 hM f (fun h7 hM7 f7 Kh7 => ?_)
      obtain rfl : menv t h7 = e7 := mtr Kh7 Eh7
      exact gl_end hM7 f7 HP
  · replace HP := ite_F c2 HP
    refine gl_o (hM.2 9 (by decide)).1 ?_
    replace HP := bind_ck HP
    obtain ⟨c4, HP⟩ := HP
    refine gl_ck ⟨(hM.2 9 (by decide)).2.1, in_of (hM.2 9 (by decide)).2.2 (by decide) c4⟩ ?_
    try rw [mrd 9 c4.1] at HP
    replace HP := bind_o HP
    obtain ⟨e13, E5, HP⟩ := HP
    obtain ⟨h13, F6, rfl, hM13, gh13⟩ := pl_X12_say (t := t) hM (fr.refl _ _) E5
    have f13 := f.trans gh13
    refine gl_o F6 ?_
    exact pl_X12_image_144 (fun hm ff hp => ih hm ff hp) hM13 f13 HP

set_option maxRecDepth 20000 in
theorem pl_X12_image_79 {t : Nat} {h0 : aH} {r : Int32} {e' : mE} : ∀ {n : Nat} {x1 : Int32} {x2 : Int32} {h : aH}, MS t h → fr t h0 h → P_X12_image_79  n x1 x2 (menv t h) = some (r, e') → Gl t h0 (F_X12_image_79  n t x1 x2 h) r e' := by
  intro n
  induction n with
  | zero => intro x1 x2 h hM f HP; cases HP
  | succ n ih =>
  intro x1 x2 h hM f HP
  unfold P_X12_image_79 at HP
  unfold F_X12_image_79
  refine gl_ite (fun c1 => ?_) (fun c1 => ?_)
  · replace HP := ite_T c1 HP
    refine gl_ck hM.1 ?_
    refine gl_o (hM.2 8 (by decide)).1 ?_
    replace HP := bind_ck HP
    obtain ⟨c2, HP⟩ := HP
    refine gl_ck ⟨(hM.2 8 (by decide)).2.1, in_of (hM.2 8 (by decide)).2.2 (by decide) c2⟩ ?_
    try rw [mrd 8 c2.1] at HP
    replace HP := bind_o HP
    obtain ⟨e7, E3, HP⟩ := HP
    obtain ⟨h7, F4, rfl, hM7, gh7⟩ := pl_X12_say (t := t) hM (fr.refl _ _) E3
    have f7 := f.trans gh7
    refine gl_o F4 ?_
    exact pl_X12_image_118  hM7 f7 HP
  · replace HP := ite_F c1 HP
    refine gl_ck hM.1 ?_
    refine gl_o (hM.2 7 (by decide)).1 ?_
    replace HP := bind_ck HP
    obtain ⟨c5, HP⟩ := HP
    refine gl_ck ⟨(hM.2 7 (by decide)).2.1, in_of (hM.2 7 (by decide)).2.2 (by decide) c5⟩ ?_
    try rw [mrd 7 c5.1] at HP
    replace HP := bind_o HP
    obtain ⟨e14, E6, HP⟩ := HP
    obtain ⟨h14, F7, rfl, hM14, gh14⟩ := pl_X12_say (t := t) hM (fr.refl _ _) E6
    have f14 := f.trans gh14
    refine gl_o F7 ?_
    replace HP := bd_n HP
    obtain ⟨v16, Ev16, HP⟩ := HP
    refine gl_bdv Ev16 ?_
    exact ih hM14 f14 HP

set_option maxRecDepth 20000 in
theorem pl_X12_image {t : Nat} {h0 : aH} {r : Int32} {e' : mE} {x1 : Int32} {h : aH} (hM : MS t h) (f : fr t h0 h) (HP : P_X12_image  x1 (menv t h) = some (r, e')) : Gl t h0 (F_X12_image  t x1 h) r e' := by
  unfold P_X12_image at HP
  unfold F_X12_image
  replace HP := bd_n HP
  obtain ⟨e1, Eh1, HP⟩ := HP
  refine gl_sF 0 hM f (fun h1 hM1 f1 Kh1 => ?_)
  obtain rfl : menv t h1 = e1 := mtr Kh1 Eh1
  replace HP := bind_o HP
  obtain ⟨⟨z5, e4⟩, E1, HP⟩ := HP
  obtain ⟨h4, F2, rfl, hM4, gh4⟩ := pl_X12_isGame (t := t) hM1 (fr.refl _ _) E1
  have f4 := f1.trans gh4
  refine gl_o F2 (gl_bd (gl_bd ?_))
  replace HP := bd_o (bd_o HP)
  dsimp only at HP ⊢
  refine gl_ite (fun c3 => ?_) (fun c3 => ?_)
  · replace HP := ite_T c3 HP
    exact gl_end hM4 f4 HP
  · replace HP := ite_F c3 HP
    refine gl_ck hM4.1 ?_
    replace HP := bind_o HP
    obtain ⟨e10, E4, HP⟩ := HP
    obtain ⟨h10, F5, rfl, hM10, gh10⟩ := pl_X12_play (t := t) hM4 (fr.refl _ _) E4
    have f10 := f4.trans gh10
    refine gl_o F5 ?_
    refine gl_ck hM10.1 ?_
    replace HP := bd_n HP
    obtain ⟨e13, Eh13, HP⟩ := HP
    refine gl_sF 18 hM10 f10 (fun h13 hM13 f13 Kh13 => ?_)
    obtain rfl : menv t h13 = e13 := mtr Kh13 Eh13
    replace HP := bind_o HP
    obtain ⟨e16, E6, HP⟩ := HP
    obtain ⟨h16, F7, rfl, hM16, gh16⟩ := pl_X12_say (t := t) hM13 (fr.refl _ _) E6
    have f16 := f13.trans gh16
    refine gl_o F7 ?_
    refine gl_ck hM16.1 ?_
    refine gl_o (hM16.2 4 (by decide)).1 ?_
    replace HP := bind_ck HP
    obtain ⟨c8, HP⟩ := HP
    refine gl_ck ⟨(hM16.2 4 (by decide)).2.1, in_of (hM16.2 4 (by decide)).2.2 (by decide) c8⟩ ?_
    try rw [mrd 4 c8.1] at HP
    replace HP := bind_o HP
    obtain ⟨e23, E9, HP⟩ := HP
    obtain ⟨h23, F10, rfl, hM23, gh23⟩ := pl_X12_say (t := t) hM16 (fr.refl _ _) E9
    have f23 := f16.trans gh23
    refine gl_o F10 ?_
    refine gl_ck hM23.1 ?_
    refine gl_o (hM23.2 4 (by decide)).1 ?_
    replace HP := bind_ck HP
    obtain ⟨c11, HP⟩ := HP
    refine gl_ck ⟨(hM23.2 4 (by decide)).2.1, in_of (hM23.2 4 (by decide)).2.2 (by decide) c11⟩ ?_
    try rw [mrd 4 c11.1] at HP
    replace HP := bind_o HP
    obtain ⟨e30, E12, HP⟩ := HP
    obtain ⟨h30, F13, rfl, hM30, gh30⟩ := pl_X12_say (t := t) hM23 (fr.refl _ _) E12
    have f30 := f23.trans gh30
    refine gl_o F13 ?_
    refine gl_ck hM30.1 ?_
    refine gl_o (hM30.2 5 (by decide)).1 ?_
    replace HP := bind_ck HP
    obtain ⟨c14, HP⟩ := HP
    refine gl_ck ⟨(hM30.2 5 (by decide)).2.1, in_of (hM30.2 5 (by decide)).2.2 (by decide) c14⟩ ?_
    try rw [mrd 5 c14.1] at HP
    replace HP := bind_o HP
    obtain ⟨e37, E15, HP⟩ := HP
    obtain ⟨h37, F16, rfl, hM37, gh37⟩ := pl_X12_say (t := t) hM30 (fr.refl _ _) E15
    have f37 := f30.trans gh37
    refine gl_o F16 ?_
    refine gl_ck hM37.1 ?_
    refine gl_o (hM37.2 6 (by decide)).1 ?_
    replace HP := bind_ck HP
    obtain ⟨c17, HP⟩ := HP
    refine gl_ck ⟨(hM37.2 6 (by decide)).2.1, in_of (hM37.2 6 (by decide)).2.2 (by decide) c17⟩ ?_
    try rw [mrd 6 c17.1] at HP
    replace HP := bind_o HP
    obtain ⟨e44, E18, HP⟩ := HP
    obtain ⟨h44, F19, rfl, hM44, gh44⟩ := pl_X12_say (t := t) hM37 (fr.refl _ _) E18
    have f44 := f37.trans gh44
    refine gl_o F19 ?_
    exact pl_X12_image_79  hM44 f44 HP

set_option maxRecDepth 20000 in
theorem pl_X12_told_17 {t : Nat} {h0 : aH} {r : Int32} {e' : mE} {h : aH} (hM : MS t h) (f : fr t h0 h) (HP : P_X12_told_17   (menv t h) = some (r, e')) : Gl t h0 (F_X12_told_17  t h) r e' := by
  unfold P_X12_told_17 at HP
  unfold F_X12_told_17
  refine gl_ck hM.1 ?_
  replace HP := bind_o HP
  obtain ⟨⟨z4, e3⟩, E1, HP⟩ := HP
  obtain ⟨h3, F2, rfl, hM3, gh3⟩ := pl_X12_fail (t := t) hM (fr.refl _ _) E1
  have f3 := f.trans gh3
  refine gl_o F2 (gl_bd (gl_bd ?_))
  replace HP := bd_o (bd_o HP)
  dsimp only at HP ⊢
  exact gl_end hM3 f3 HP

set_option maxRecDepth 20000 in
theorem pl_X12_told {t : Nat} {h0 : aH} {r : Int32} {e' : mE} {x1 : Int32} {h : aH} (hM : MS t h) (f : fr t h0 h) (HP : P_X12_told  x1 (menv t h) = some (r, e')) : Gl t h0 (F_X12_told  t x1 h) r e' := by
  unfold P_X12_told at HP
  unfold F_X12_told
  replace HP := bd_n HP
  obtain ⟨e1, Eh1, HP⟩ := HP
  refine gl_sF 0 hM f (fun h1 hM1 f1 Kh1 => ?_)
  obtain rfl : menv t h1 = e1 := mtr Kh1 Eh1
  refine gl_ite (fun c1 => ?_) (fun c1 => ?_)
  · replace HP := ite_T c1 HP
    exact pl_X12_told_17  hM1 f1 HP
  · replace HP := ite_F c1 HP
    refine gl_ite (fun c2 => ?_) (fun c2 => ?_)
    · replace HP := ite_T c2 HP
      refine gl_o (hM1.2 17 (by decide)).1 ?_
      replace HP := bind_ck HP
      obtain ⟨c3, HP⟩ := HP
      refine gl_ck ⟨(hM1.2 17 (by decide)).2.1, in_of (hM1.2 17 (by decide)).2.2 (by decide) c3⟩ ?_
      try rw [mrd 17 c3.1] at HP
      exact gl_end hM1 f1 HP
    · replace HP := ite_F c2 HP
      exact pl_X12_told_17  hM1 f1 HP

set_option maxRecDepth 20000 in
theorem pl_X12_read_46 {t : Nat} {h0 : aH} {r : Int32} {e' : mE} {x1 : Int32} {h : aH} (hM : MS t h) (f : fr t h0 h) (HP : P_X12_read_46  x1 (menv t h) = some (r, e')) : Gl t h0 (F_X12_read_46  t x1 h) r e' := by
  unfold P_X12_read_46 at HP
  unfold F_X12_read_46
  refine gl_ck hM.1 ?_
  replace HP := bd_n HP
  obtain ⟨e2, Eh2, HP⟩ := HP
  refine gl_sF 69 hM f (fun h2 hM2 f2 Kh2 => ?_)
  obtain rfl : menv t h2 = e2 := mtr Kh2 Eh2
  exact gl_end hM2 f2 HP

set_option maxRecDepth 20000 in
theorem pl_X12_read {t : Nat} {h0 : aH} {r : Int32} {e' : mE} {x1 : Int32} {x2 : Int32} {h : aH} (hM : MS t h) (f : fr t h0 h) (HP : P_X12_read  x1 x2 (menv t h) = some (r, e')) : Gl t h0 (F_X12_read  t x1 x2 h) r e' := by
  unfold P_X12_read at HP
  unfold F_X12_read
  refine gl_ite (fun c1 => ?_) (fun c1 => ?_)
  · replace HP := ite_T c1 HP
    refine gl_ite (fun c2 => ?_) (fun c2 => ?_)
    · replace HP := ite_T c2 HP
      exact pl_X12_read_46  hM f HP
    · replace HP := ite_F c2 HP
      refine gl_o (hM.2 15 (by decide)).1 ?_
      replace HP := bind_ck HP
      obtain ⟨c3, HP⟩ := HP
      refine gl_ck ⟨(hM.2 15 (by decide)).2.1, in_of (hM.2 15 (by decide)).2.2 (by decide) c3⟩ ?_
      try rw [mrd 15 c3.1] at HP
      refine gl_ite (fun c4 => ?_) (fun c4 => ?_)
      · replace HP := ite_T c4 HP
        exact pl_X12_read_46  hM f HP
      · replace HP := ite_F c4 HP
        refine gl_o (hM.2 15 (by decide)).1 ?_
        replace HP := bind_ck HP
        obtain ⟨c5, HP⟩ := HP
        refine gl_ck ⟨(hM.2 15 (by decide)).2.1, in_of (hM.2 15 (by decide)).2.2 (by decide) c5⟩ ?_
        try rw [mrd 15 c5.1] at HP
        refine gl_ite (fun c6 => ?_) (fun c6 => ?_)
        · replace HP := ite_T c6 HP
          replace HP := bd_n HP
          obtain ⟨e11, Eh11, HP⟩ := HP
          refine gl_sF 65 hM f (fun h11 hM11 f11 Kh11 => ?_)
          obtain rfl : menv t h11 = e11 := mtr Kh11 Eh11
          refine gl_o (hM11.2 15 (by decide)).1 ?_
          replace HP := bind_ck HP
          obtain ⟨c7, HP⟩ := HP
          refine gl_ck ⟨(hM11.2 15 (by decide)).2.1, in_of (hM11.2 15 (by decide)).2.2 (by decide) c7⟩ ?_
          try rw [mrd 15 c7.1] at HP
          exact gl_end hM11 f11 HP
        · replace HP := ite_F c6 HP
          exact pl_X12_read_46  hM f HP
  · replace HP := ite_F c1 HP
    exact gl_end hM f HP

set_option maxRecDepth 20000 in
theorem pl_X12_readPlayer_85 {t : Nat} {h0 : aH} {e' : mE} {x1 : Int32} {x2 : Int32} {x3 : Int32} {h : aH} (hM : MS t h) (f : fr t h0 h) (HP : P_X12_readPlayer_85  x1 x2 x3 (menv t h) = some e') : Glv t h0 (F_X12_readPlayer_85  t x1 x2 x3 h) e' := by
  unfold P_X12_readPlayer_85 at HP
  unfold F_X12_readPlayer_85
  refine gl_ckV hM.1 ?_
  refine gl_oV (hM.2 7 (by decide)).1 ?_
  replace HP := bind_ck HP
  obtain ⟨c1, HP⟩ := HP
  refine gl_ckV ⟨(hM.2 7 (by decide)).2.1, in_of (hM.2 7 (by decide)).2.2 (by decide) c1⟩ ?_
  try rw [mrd 7 c1.1] at HP
  replace HP := bd_n HP
  obtain ⟨e5, Eh5, HP⟩ := HP
  refine gl_sIV 7 hM f (by decide) (by first | assumption | exact And.left (by assumption) | decide) (fun h5 hM5 f5 Kh5 => ?_)
  obtain rfl : menv t h5 = e5 := mtr Kh5 Eh5
  exact gl_endv hM5 f5 HP

set_option maxRecDepth 20000 in
theorem pl_X12_readPlayer_79 {t : Nat} {h0 : aH} {e' : mE} {qk35 : Int32 → Int32 → Int32 → Int32 → mE → Option (mE)} {k35 : Nat → Int32 → Int32 → Int32 → Int32 → aH → Option (aH)} (hk35 : ∀ {u1 : Int32} {u2 : Int32} {u3 : Int32} {u4 : Int32} {h : aH}, MS t h → fr t h0 h → qk35 u1 u2 u3 u4 (menv t h) = some e' → Glv t h0 (k35 t u1 u2 u3 u4 h) e') {x1 : Int32} {x2 : Int32} {x3 : Int32} {x4 : Int32} {h : aH} (hM : MS t h) (f : fr t h0 h) (HP : P_X12_readPlayer_79 qk35 x1 x2 x3 x4 (menv t h) = some e') : Glv t h0 (F_X12_readPlayer_79 k35 t x1 x2 x3 x4 h) e' := by
  unfold P_X12_readPlayer_79 at HP
  unfold F_X12_readPlayer_79
  replace HP := bd_n HP
  obtain ⟨v1, Ev1, HP⟩ := HP
  refine gl_bdvV Ev1 ?_
  exact hk35 hM f HP

set_option maxRecDepth 20000 in
theorem pl_X12_readPlayer_35 {t : Nat} {h0 : aH} {e' : mE} : ∀ {n : Nat} {x1 : Int32} {x2 : Int32} {x3 : Int32} {x4 : Int32} {h : aH}, MS t h → fr t h0 h → P_X12_readPlayer_35  n x1 x2 x3 x4 (menv t h) = some e' → Glv t h0 (F_X12_readPlayer_35  n t x1 x2 x3 x4 h) e' := by
  intro n
  induction n with
  | zero => intro x1 x2 x3 x4 h hM f HP; cases HP
  | succ n ih =>
  intro x1 x2 x3 x4 h hM f HP
  unfold P_X12_readPlayer_35 at HP
  unfold F_X12_readPlayer_35
  refine gl_iteV (fun c1 => ?_) (fun c1 => ?_)
  · replace HP := ite_T c1 HP
    exact pl_X12_readPlayer_85  hM f HP
  · replace HP := ite_F c1 HP
    refine gl_ckV hM.1 ?_
    refine gl_iteV (fun c2 => ?_) (fun c2 => ?_)
    · replace HP := ite_T c2 HP
      refine gl_oV (hM.2 7 (by decide)).1 ?_
      replace HP := bind_ck HP
      obtain ⟨c3, HP⟩ := HP
      refine gl_ckV ⟨(hM.2 7 (by decide)).2.1, in_of (hM.2 7 (by decide)).2.2 (by decide) c3⟩ ?_
      try rw [mrd 7 c3.1] at HP
      refine gl_iteV (fun c4 => ?_) (fun c4 => ?_)
      · replace HP := ite_T c4 HP
        replace HP := bd_n HP
        obtain ⟨e8, Eh8, HP⟩ := HP
        refine gl_sFV 69 hM f (fun h8 hM8 f8 Kh8 => ?_)
        obtain rfl : menv t h8 = e8 := mtr Kh8 Eh8
        replace HP := bd_n HP
        obtain ⟨e10, Eh10, HP⟩ := HP
        refine gl_sFV 65 hM8 f8 (fun h10 hM10 f10 Kh10 => ?_)
        obtain rfl : menv t h10 = e10 := mtr Kh10 Eh10
        exact pl_X12_readPlayer_79 (fun hm ff hp => ih hm ff hp) hM10 f10 HP
      · replace HP := ite_F c4 HP
        exact pl_X12_readPlayer_79 (fun hm ff hp => ih hm ff hp) hM f HP
    · replace HP := ite_F c2 HP
      exact pl_X12_readPlayer_85  hM f HP

set_option maxRecDepth 20000 in
theorem pl_X12_readPlayer {t : Nat} {h0 : aH} {e' : mE} {x1 : Int32} {x2 : Int32} {h : aH} (hM : MS t h) (f : fr t h0 h) (HP : P_X12_readPlayer  x1 x2 (menv t h) = some e') : Glv t h0 (F_X12_readPlayer  t x1 x2 h) e' := by
  unfold P_X12_readPlayer at HP
  unfold F_X12_readPlayer
  refine gl_oV (hM.2 3 (by decide)).1 ?_
  refine gl_oV (hM.2 4 (by decide)).1 ?_
  replace HP := bind_ck HP
  obtain ⟨c1, HP⟩ := HP
  refine gl_ckV ⟨(hM.2 4 (by decide)).2.1, in_of (hM.2 4 (by decide)).2.2 (by decide) c1⟩ ?_
  try rw [mrd 4 c1.1] at HP
  replace HP := bind_ck HP
  obtain ⟨c2, HP⟩ := HP
  refine gl_ckV ⟨(hM.2 3 (by decide)).2.1, in_of (hM.2 3 (by decide)).2.2 (by decide) c2⟩ ?_
  try rw [mrd 3 c2.1] at HP
  replace HP := bind_o HP
  obtain ⟨⟨z9, e8⟩, E3, HP⟩ := HP
  obtain ⟨h8, F4, rfl, hM8, gh8⟩ := pl_X12_read (t := t) hM (fr.refl _ _) E3
  have f8 := f.trans gh8
  refine gl_oV F4 (gl_bdV (gl_bdV ?_))
  replace HP := bd_o (bd_o HP)
  dsimp only at HP ⊢
  replace HP := bd_n HP
  obtain ⟨v11, Ev11, HP⟩ := HP
  refine gl_bdvV Ev11 ?_
  exact pl_X12_readPlayer_35  hM8 f8 HP

set_option maxRecDepth 20000 in
theorem pl_X12_readTurn_155 {t : Nat} {h0 : aH} {e' : mE} {x2 : Int32} {h : aH} (hM : MS t h) (f : fr t h0 h) (HP : P_X12_readTurn_155  x2 (menv t h) = some e') : Glv t h0 (F_X12_readTurn_155  t x2 h) e' := by
  unfold P_X12_readTurn_155 at HP
  unfold F_X12_readTurn_155
  refine gl_ckV hM.1 ?_
  refine gl_oV (hM.2 70 (by decide)).1 ?_
  replace HP := bind_o HP
  obtain ⟨⟨z6, e5⟩, E1, HP⟩ := HP
  obtain ⟨h5, F2, rfl, hM5, gh5⟩ := pl_X12_read (t := t) hM (fr.refl _ _) E1
  have f5 := f.trans gh5
  refine gl_oV F2 (gl_bdV (gl_bdV ?_))
  replace HP := bd_o (bd_o HP)
  dsimp only at HP ⊢
  refine gl_ckV hM5.1 ?_
  replace HP := bind_o HP
  obtain ⟨⟨z11, e10⟩, E3, HP⟩ := HP
  obtain ⟨h10, F4, rfl, hM10, gh10⟩ := pl_X12_read (t := t) hM5 (fr.refl _ _) E3
  have f10 := f5.trans gh10
  refine gl_oV F4 (gl_bdV (gl_bdV ?_))
  replace HP := bd_o (bd_o HP)
  dsimp only at HP ⊢
  replace HP := bind_ck HP
  obtain ⟨c5, HP⟩ := HP
  refine gl_ckV ⟨(hM10.2 70 (by decide)).2.1, in_of (hM10.2 70 (by decide)).2.2 (by decide) c5⟩ ?_
  try rw [mrd 70 c5.1] at HP
  replace HP := bd_n HP
  obtain ⟨e14, Eh14, HP⟩ := HP
  refine gl_sIV 70 hM10 f10 (by decide) (by first | assumption | exact And.left (by assumption) | decide) (fun h14 hM14 f14 Kh14 => ?_)
  obtain rfl : menv t h14 = e14 := mtr Kh14 Eh14
  exact gl_endv hM14 f14 HP

set_option maxRecDepth 20000 in
theorem pl_X12_readTurn_116 {t : Nat} {h0 : aH} {e' : mE} {qk23 : Int32 → Int32 → Int32 → Int32 → mE → Option (mE)} {k23 : Nat → Int32 → Int32 → Int32 → Int32 → aH → Option (aH)} (hk23 : ∀ {u1 : Int32} {u2 : Int32} {u3 : Int32} {u4 : Int32} {h : aH}, MS t h → fr t h0 h → qk23 u1 u2 u3 u4 (menv t h) = some e' → Glv t h0 (k23 t u1 u2 u3 u4 h) e') {x1 : Int32} {x2 : Int32} {x3 : Int32} {x4 : Int32} {x5 : Int32} {h : aH} (hM : MS t h) (f : fr t h0 h) (HP : P_X12_readTurn_116 qk23 x1 x2 x3 x4 x5 (menv t h) = some e') : Glv t h0 (F_X12_readTurn_116 k23 t x1 x2 x3 x4 x5 h) e' := by
  unfold P_X12_readTurn_116 at HP
  unfold F_X12_readTurn_116
  refine gl_ckV hM.1 ?_
  refine gl_oV (hM.2 10 (by decide)).1 ?_
  replace HP := bind_ck HP
  obtain ⟨c1, HP⟩ := HP
  refine gl_ckV ⟨(hM.2 10 (by decide)).2.1, in_of (hM.2 10 (by decide)).2.2 (by decide) c1⟩ ?_
  try rw [mrd 10 c1.1] at HP
  replace HP := bd_n HP
  obtain ⟨e5, Eh5, HP⟩ := HP
  refine gl_sIV 10 hM f (by decide) (by first | assumption | exact And.left (by assumption) | decide) (fun h5 hM5 f5 Kh5 => ?_)
  obtain rfl : menv t h5 = e5 := mtr Kh5 Eh5
  refine gl_oV (hM5.2 9 (by decide)).1 ?_
  replace HP := bind_ck HP
  obtain ⟨c2, HP⟩ := HP
  refine gl_ckV ⟨(hM5.2 9 (by decide)).2.1, in_of (hM5.2 9 (by decide)).2.2 (by decide) c2⟩ ?_
  try rw [mrd 9 c2.1] at HP
  replace HP := bd_n HP
  obtain ⟨e10, Eh10, HP⟩ := HP
  refine gl_sIV 9 hM5 f5 (by decide) (by first | assumption | exact And.left (by assumption) | decide) (fun h10 hM10 f10 Kh10 => ?_)
  obtain rfl : menv t h10 = e10 := mtr Kh10 Eh10
  replace HP := bd_n HP
  obtain ⟨v12, Ev12, HP⟩ := HP
  refine gl_bdvV Ev12 ?_
  exact hk23 hM10 f10 HP

set_option maxRecDepth 20000 in
theorem pl_X12_readTurn_73 {t : Nat} {h0 : aH} {e' : mE} {qk23 : Int32 → Int32 → Int32 → Int32 → mE → Option (mE)} {k23 : Nat → Int32 → Int32 → Int32 → Int32 → aH → Option (aH)} (hk23 : ∀ {u1 : Int32} {u2 : Int32} {u3 : Int32} {u4 : Int32} {h : aH}, MS t h → fr t h0 h → qk23 u1 u2 u3 u4 (menv t h) = some e' → Glv t h0 (k23 t u1 u2 u3 u4 h) e') : ∀ {n : Nat} {x1 : Int32} {x2 : Int32} {x3 : Int32} {x4 : Int32} {x5 : Int32} {x6 : Int32} {x7 : Int32} {h : aH}, MS t h → fr t h0 h → P_X12_readTurn_73 qk23 n x1 x2 x3 x4 x5 x6 x7 (menv t h) = some e' → Glv t h0 (F_X12_readTurn_73 k23 n t x1 x2 x3 x4 x5 x6 x7 h) e' := by
  intro n
  induction n with
  | zero => intro x1 x2 x3 x4 x5 x6 x7 h hM f HP; cases HP
  | succ n ih =>
  intro x1 x2 x3 x4 x5 x6 x7 h hM f HP
  unfold P_X12_readTurn_73 at HP
  unfold F_X12_readTurn_73
  refine gl_iteV (fun c1 => ?_) (fun c1 => ?_)
  · replace HP := ite_T c1 HP
    exact pl_X12_readTurn_116 (fun hm ff hp => hk23 hm ff hp) hM f HP
  · replace HP := ite_F c1 HP
    refine gl_ckV hM.1 ?_
    refine gl_iteV (fun c2 => ?_) (fun c2 => ?_)
    · replace HP := ite_T c2 HP
      refine gl_oV (hM.2 14 (by decide)).1 ?_
      replace HP := bind_o HP
      obtain ⟨⟨z8, e7⟩, E3, HP⟩ := HP
      obtain ⟨h7, F4, rfl, hM7, gh7⟩ := pl_X12_read (t := t) hM (fr.refl _ _) E3
      have f7 := f.trans gh7
      refine gl_oV F4 (gl_bdV (gl_bdV ?_))
      replace HP := bd_o (bd_o HP)
      dsimp only at HP ⊢
      replace HP := bind_ck HP
      obtain ⟨c5, HP⟩ := HP
      refine gl_ckV ⟨(hM7.2 14 (by decide)).2.1, in_of (hM7.2 14 (by decide)).2.2 (by decide) c5⟩ ?_
      try rw [mrd 14 c5.1] at HP
      replace HP := bd_n HP
      obtain ⟨e11, Eh11, HP⟩ := HP
      refine gl_sIV 14 hM7 f7 (by decide) (by first | assumption | exact And.left (by assumption) | decide) (fun h11 hM11 f11 Kh11 => ?_)
      obtain rfl : menv t h11 = e11 := mtr Kh11 Eh11
      replace HP := bd_n HP
      obtain ⟨v12, Ev12, HP⟩ := HP
      refine gl_bdvV Ev12 ?_
      exact ih hM11 f11 HP
    · replace HP := ite_F c2 HP
      exact pl_X12_readTurn_116 (fun hm ff hp => hk23 hm ff hp) hM f HP

set_option maxRecDepth 20000 in
theorem pl_X12_readTurn_23 {t : Nat} {h0 : aH} {e' : mE} : ∀ {n : Nat} {x1 : Int32} {x2 : Int32} {x3 : Int32} {x4 : Int32} {h : aH}, MS t h → fr t h0 h → P_X12_readTurn_23  n x1 x2 x3 x4 (menv t h) = some e' → Glv t h0 (F_X12_readTurn_23  n t x1 x2 x3 x4 h) e' := by
  intro n
  induction n with
  | zero => intro x1 x2 x3 x4 h hM f HP; cases HP
  | succ n ih =>
  intro x1 x2 x3 x4 h hM f HP
  unfold P_X12_readTurn_23 at HP
  unfold F_X12_readTurn_23
  refine gl_iteV (fun c1 => ?_) (fun c1 => ?_)
  · replace HP := ite_T c1 HP
    exact pl_X12_readTurn_155  hM f HP
  · replace HP := ite_F c1 HP
    refine gl_ckV hM.1 ?_
    refine gl_iteV (fun c2 => ?_) (fun c2 => ?_)
    · replace HP := ite_T c2 HP
      replace HP := bind_o HP
      obtain ⟨⟨z6, e5⟩, E3, HP⟩ := HP
      obtain ⟨h5, F4, rfl, hM5, gh5⟩ := pl_X12_read (t := t) hM (fr.refl _ _) E3
      have f5 := f.trans gh5
      refine gl_oV F4 (gl_bdV (gl_bdV ?_))
      replace HP := bd_o (bd_o HP)
      dsimp only at HP ⊢
      refine gl_ckV hM5.1 ?_
      replace HP := bind_o HP
      obtain ⟨⟨z11, e10⟩, E5, HP⟩ := HP
      obtain ⟨h10, F6, rfl, hM10, gh10⟩ := pl_X12_newRow (t := t) hM5 (fr.refl _ _) E5
      have f10 := f5.trans gh10
      refine gl_oV F6 (gl_bdV (gl_bdV ?_))
      replace HP := bd_o (bd_o HP)
      dsimp only at HP ⊢
      refine gl_ckV hM10.1 ?_
      replace HP := bind_o HP
      obtain ⟨⟨z16, e15⟩, E7, HP⟩ := HP
      obtain ⟨h15, F8, rfl, hM15, gh15⟩ := pl_X12_read (t := t) hM10 (fr.refl _ _) E7
      have f15 := f10.trans gh15
      refine gl_oV F8 (gl_bdV (gl_bdV ?_))
      replace HP := bd_o (bd_o HP)
      dsimp only at HP ⊢
      refine gl_ckV hM15.1 ?_
      refine gl_oV (hM15.2 13 (by decide)).1 ?_
      replace HP := bind_ck HP
      obtain ⟨c9, HP⟩ := HP
      refine gl_ckV ⟨(hM15.2 13 (by decide)).2.1, in_of (hM15.2 13 (by decide)).2.2 (by decide) c9⟩ ?_
      try rw [mrd 13 c9.1] at HP
      replace HP := bd_n HP
      obtain ⟨e22, Eh22, HP⟩ := HP
      refine gl_sIV 13 hM15 f15 (by decide) (by first | assumption | exact And.left (by assumption) | decide) (fun h22 hM22 f22 Kh22 => ?_)
      obtain rfl : menv t h22 = e22 := mtr Kh22 Eh22
      exact pl_X12_readTurn_73 (fun hm ff hp => ih hm ff hp) hM22 f22 HP
    · replace HP := ite_F c2 HP
      exact pl_X12_readTurn_155  hM f HP

set_option maxRecDepth 20000 in
theorem pl_X12_readTurn {t : Nat} {h0 : aH} {e' : mE} {x1 : Int32} {x2 : Int32} {h : aH} (hM : MS t h) (f : fr t h0 h) (HP : P_X12_readTurn  x1 x2 (menv t h) = some e') : Glv t h0 (F_X12_readTurn  t x1 x2 h) e' := by
  unfold P_X12_readTurn at HP
  unfold F_X12_readTurn
  replace HP := bind_o HP
  obtain ⟨⟨z3, e2⟩, E1, HP⟩ := HP
  obtain ⟨h2, F2, rfl, hM2, gh2⟩ := pl_X12_read (t := t) hM (fr.refl _ _) E1
  have f2 := f.trans gh2
  refine gl_oV F2 (gl_bdV (gl_bdV ?_))
  replace HP := bd_o (bd_o HP)
  dsimp only at HP ⊢
  refine gl_ckV hM2.1 ?_
  refine gl_oV (hM2.2 9 (by decide)).1 ?_
  replace HP := bind_ck HP
  obtain ⟨c3, HP⟩ := HP
  refine gl_ckV ⟨(hM2.2 9 (by decide)).2.1, in_of (hM2.2 9 (by decide)).2.2 (by decide) c3⟩ ?_
  try rw [mrd 9 c3.1] at HP
  replace HP := bd_n HP
  obtain ⟨e9, Eh9, HP⟩ := HP
  refine gl_sIV 9 hM2 f2 (by decide) (by first | assumption | exact And.left (by assumption) | decide) (fun h9 hM9 f9 Kh9 => ?_)
  obtain rfl : menv t h9 = e9 := mtr Kh9 Eh9
  exact pl_X12_readTurn_23  hM9 f9 HP

set_option maxRecDepth 20000 in
theorem pl_X12_placeWrong_229 {t : Nat} {h0 : aH} {r : Int32} {e' : mE} {qk11 : Int32 → Int32 → Int32 → Int32 → Int32 → mE → Option (Int32 × mE)} {k11 : Nat → Int32 → Int32 → Int32 → Int32 → Int32 → aH → Option (Int32 × aH)} (hk11 : ∀ {u1 : Int32} {u2 : Int32} {u3 : Int32} {u4 : Int32} {u5 : Int32} {h : aH}, MS t h → fr t h0 h → qk11 u1 u2 u3 u4 u5 (menv t h) = some (r, e') → Gl t h0 (k11 t u1 u2 u3 u4 u5 h) r e') {x1 : Int32} {x2 : Int32} {x3 : Int32} {x4 : Int32} {x5 : Int32} {h : aH} (hM : MS t h) (f : fr t h0 h) (HP : P_X12_placeWrong_229 qk11 x1 x2 x3 x4 x5 (menv t h) = some (r, e')) : Gl t h0 (F_X12_placeWrong_229 k11 t x1 x2 x3 x4 x5 h) r e' := by
  unfold P_X12_placeWrong_229 at HP
  unfold F_X12_placeWrong_229
  replace HP := bd_n HP
  obtain ⟨v1, Ev1, HP⟩ := HP
  refine gl_bdv Ev1 ?_
  replace HP := bd_n HP
  obtain ⟨v2, Ev2, HP⟩ := HP
  refine gl_bdv Ev2 ?_
  exact hk11 hM f HP

set_option maxRecDepth 20000 in
theorem pl_X12_placeWrong_194 {t : Nat} {h0 : aH} {r : Int32} {e' : mE} {qk11 : Int32 → Int32 → Int32 → Int32 → Int32 → mE → Option (Int32 × mE)} {k11 : Nat → Int32 → Int32 → Int32 → Int32 → Int32 → aH → Option (Int32 × aH)} (hk11 : ∀ {u1 : Int32} {u2 : Int32} {u3 : Int32} {u4 : Int32} {u5 : Int32} {h : aH}, MS t h → fr t h0 h → qk11 u1 u2 u3 u4 u5 (menv t h) = some (r, e') → Gl t h0 (k11 t u1 u2 u3 u4 u5 h) r e') {x1 : Int32} {x2 : Int32} {x3 : Int32} {x4 : Int32} {x5 : Int32} {h : aH} (hM : MS t h) (f : fr t h0 h) (HP : P_X12_placeWrong_194 qk11 x1 x2 x3 x4 x5 (menv t h) = some (r, e')) : Gl t h0 (F_X12_placeWrong_194 k11 t x1 x2 x3 x4 x5 h) r e' := by
  unfold P_X12_placeWrong_194 at HP
  unfold F_X12_placeWrong_194
  refine gl_ite (fun c1 => ?_) (fun c1 => ?_)
  · replace HP := ite_T c1 HP
    refine gl_ck hM.1 ?_
    refine gl_o (hM.2 70 (by decide)).1 ?_
    replace HP := bind_ck HP
    obtain ⟨c2, HP⟩ := HP
    refine gl_ck ⟨(hM.2 70 (by decide)).2.1, in_of (hM.2 70 (by decide)).2.2 (by decide) c2⟩ ?_
    try rw [mrd 70 c2.1] at HP
    refine gl_o (hM.2 35 (by decide)).1 ?_
    replace HP := bind_ck HP
    obtain ⟨c3, HP⟩ := HP
    refine gl_ck ⟨(hM.2 35 (by decide)).2.1, in_of (hM.2 35 (by decide)).2.2 (by decide) c3⟩ ?_
    try rw [mrd 35 c3.1] at HP
    refine gl_ite (fun c4 => ?_) (fun c4 => ?_)
    · replace HP := ite_T c4 HP
      exact pl_X12_placeWrong_229 (fun hm ff hp => hk11 hm ff hp) hM f HP
    · replace HP := ite_F c4 HP
      replace HP := bd_n HP
      obtain ⟨v10, Ev10, HP⟩ := HP
      refine gl_bdv Ev10 ?_
      exact pl_X12_placeWrong_229 (fun hm ff hp => hk11 hm ff hp) hM f HP
  · replace HP := ite_F c1 HP
    exact pl_X12_placeWrong_229 (fun hm ff hp => hk11 hm ff hp) hM f HP

set_option maxRecDepth 20000 in
theorem pl_X12_placeWrong_133 {t : Nat} {h0 : aH} {r : Int32} {e' : mE} {qk11 : Int32 → Int32 → Int32 → Int32 → Int32 → mE → Option (Int32 × mE)} {k11 : Nat → Int32 → Int32 → Int32 → Int32 → Int32 → aH → Option (Int32 × aH)} (hk11 : ∀ {u1 : Int32} {u2 : Int32} {u3 : Int32} {u4 : Int32} {u5 : Int32} {h : aH}, MS t h → fr t h0 h → qk11 u1 u2 u3 u4 u5 (menv t h) = some (r, e') → Gl t h0 (k11 t u1 u2 u3 u4 u5 h) r e') {qk56 : Int32 → Int32 → Int32 → Int32 → Int32 → Int32 → mE → Option (Int32 × mE)} {k56 : Nat → Int32 → Int32 → Int32 → Int32 → Int32 → Int32 → aH → Option (Int32 × aH)} (hk56 : ∀ {u1 : Int32} {u2 : Int32} {u3 : Int32} {u4 : Int32} {u5 : Int32} {u6 : Int32} {h : aH}, MS t h → fr t h0 h → qk56 u1 u2 u3 u4 u5 u6 (menv t h) = some (r, e') → Gl t h0 (k56 t u1 u2 u3 u4 u5 u6 h) r e') {x1 : Int32} {x2 : Int32} {x3 : Int32} {x4 : Int32} {x5 : Int32} {x6 : Int32} {x7 : Int32} {h : aH} (hM : MS t h) (f : fr t h0 h) (HP : P_X12_placeWrong_133 qk11 qk56 x1 x2 x3 x4 x5 x6 x7 (menv t h) = some (r, e')) : Gl t h0 (F_X12_placeWrong_133 k11 k56 t x1 x2 x3 x4 x5 x6 x7 h) r e' := by
  unfold P_X12_placeWrong_133 at HP
  unfold F_X12_placeWrong_133
  refine gl_ck hM.1 ?_
  refine gl_o (hM.2 13 (by decide)).1 ?_
  replace HP := bind_ck HP
  obtain ⟨c1, HP⟩ := HP
  refine gl_ck ⟨(hM.2 13 (by decide)).2.1, in_of (hM.2 13 (by decide)).2.2 (by decide) c1⟩ ?_
  try rw [mrd 13 c1.1] at HP
  replace HP := bd_n HP
  obtain ⟨z5, Ez5, HP⟩ := HP
  refine gl_bdv Ez5 ?_
  replace HP := bd_n HP
  obtain ⟨v6, Ev6, HP⟩ := HP
  refine gl_bdv Ev6 ?_
  replace HP := bd_n HP
  obtain ⟨v7, Ev7, HP⟩ := HP
  refine gl_bdv Ev7 ?_
  exact hk56 hM f HP

set_option maxRecDepth 20000 in
theorem pl_X12_placeWrong_132 {t : Nat} {h0 : aH} {r : Int32} {e' : mE} {qk11 : Int32 → Int32 → Int32 → Int32 → Int32 → mE → Option (Int32 × mE)} {k11 : Nat → Int32 → Int32 → Int32 → Int32 → Int32 → aH → Option (Int32 × aH)} (hk11 : ∀ {u1 : Int32} {u2 : Int32} {u3 : Int32} {u4 : Int32} {u5 : Int32} {h : aH}, MS t h → fr t h0 h → qk11 u1 u2 u3 u4 u5 (menv t h) = some (r, e') → Gl t h0 (k11 t u1 u2 u3 u4 u5 h) r e') {qk56 : Int32 → Int32 → Int32 → Int32 → Int32 → Int32 → mE → Option (Int32 × mE)} {k56 : Nat → Int32 → Int32 → Int32 → Int32 → Int32 → Int32 → aH → Option (Int32 × aH)} (hk56 : ∀ {u1 : Int32} {u2 : Int32} {u3 : Int32} {u4 : Int32} {u5 : Int32} {u6 : Int32} {h : aH}, MS t h → fr t h0 h → qk56 u1 u2 u3 u4 u5 u6 (menv t h) = some (r, e') → Gl t h0 (k56 t u1 u2 u3 u4 u5 u6 h) r e') {x1 : Int32} {x2 : Int32} {x4 : Int32} {x5 : Int32} {x6 : Int32} {x7 : Int32} {y0 : Int32} {h : aH} (hM : MS t h) (f : fr t h0 h) (HP : P_X12_placeWrong_132 qk11 qk56 x1 x2 x4 x5 x6 x7 y0 (menv t h) = some (r, e')) : Gl t h0 (F_X12_placeWrong_132 k11 k56 t x1 x2 x4 x5 x6 x7 y0 h) r e' := by
  unfold P_X12_placeWrong_132 at HP
  unfold F_X12_placeWrong_132
  exact pl_X12_placeWrong_133 (fun hm ff hp => hk11 hm ff hp) (fun hm ff hp => hk56 hm ff hp) hM f HP

set_option maxRecDepth 20000 in
theorem pl_X12_placeWrong_56 {t : Nat} {h0 : aH} {r : Int32} {e' : mE} {qk11 : Int32 → Int32 → Int32 → Int32 → Int32 → mE → Option (Int32 × mE)} {k11 : Nat → Int32 → Int32 → Int32 → Int32 → Int32 → aH → Option (Int32 × aH)} (hk11 : ∀ {u1 : Int32} {u2 : Int32} {u3 : Int32} {u4 : Int32} {u5 : Int32} {h : aH}, MS t h → fr t h0 h → qk11 u1 u2 u3 u4 u5 (menv t h) = some (r, e') → Gl t h0 (k11 t u1 u2 u3 u4 u5 h) r e') : ∀ {n : Nat} {x1 : Int32} {x2 : Int32} {x3 : Int32} {x4 : Int32} {x5 : Int32} {x6 : Int32} {h : aH}, MS t h → fr t h0 h → P_X12_placeWrong_56 qk11 n x1 x2 x3 x4 x5 x6 (menv t h) = some (r, e') → Gl t h0 (F_X12_placeWrong_56 k11 n t x1 x2 x3 x4 x5 x6 h) r e' := by
  intro n
  induction n with
  | zero => intro x1 x2 x3 x4 x5 x6 h hM f HP; cases HP
  | succ n ih =>
  intro x1 x2 x3 x4 x5 x6 h hM f HP
  unfold P_X12_placeWrong_56 at HP
  unfold F_X12_placeWrong_56
  refine gl_ck hM.1 ?_
  refine gl_o (hM.2 9 (by decide)).1 ?_
  replace HP := bind_ck HP
  obtain ⟨c1, HP⟩ := HP
  refine gl_ck ⟨(hM.2 9 (by decide)).2.1, in_of (hM.2 9 (by decide)).2.2 (by decide) c1⟩ ?_
  try rw [mrd 9 c1.1] at HP
  refine gl_ite (fun c2 => ?_) (fun c2 => ?_)
  · replace HP := ite_T c2 HP
    refine gl_ite (fun c3 => ?_) (fun c3 => ?_)
    · replace HP := ite_T c3 HP
      refine gl_o (hM.2 70 (by decide)).1 ?_
      replace HP := bind_ck HP
      obtain ⟨c4, HP⟩ := HP
      refine gl_ck ⟨(hM.2 70 (by decide)).2.1, in_of (hM.2 70 (by decide)).2.2 (by decide) c4⟩ ?_
      try rw [mrd 70 c4.1] at HP
      refine gl_o (hM.2 35 (by decide)).1 ?_
      replace HP := bind_ck HP
      obtain ⟨c5, HP⟩ := HP
      refine gl_ck ⟨(hM.2 35 (by decide)).2.1, in_of (hM.2 35 (by decide)).2.2 (by decide) c5⟩ ?_
      try rw [mrd 35 c5.1] at HP
      refine gl_ite (fun c6 => ?_) (fun c6 => ?_)
      · replace HP := ite_T c6 HP
        exact pl_X12_placeWrong_194 (fun hm ff hp => hk11 hm ff hp) hM f HP
      · replace HP := ite_F c6 HP
        replace HP := bd_n HP
        obtain ⟨v14, Ev14, HP⟩ := HP
        refine gl_bdv Ev14 ?_
        exact pl_X12_placeWrong_194 (fun hm ff hp => hk11 hm ff hp) hM f HP
    · replace HP := ite_F c3 HP
      exact pl_X12_placeWrong_194 (fun hm ff hp => hk11 hm ff hp) hM f HP
  · replace HP := ite_F c2 HP
    replace HP := bind_o HP
    obtain ⟨⟨z17, e16⟩, E7, HP⟩ := HP
    obtain ⟨h16, F8, rfl, hM16, gh16⟩ := pl_X12_rowOf (t := t) hM (fr.refl _ _) E7
    have f16 := f.trans gh16
    refine gl_o F8 (gl_bd (gl_bd ?_))
    replace HP := bd_o (bd_o HP)
    dsimp only at HP ⊢
    refine gl_ck hM16.1 ?_
    refine gl_ite (fun c9 => ?_) (fun c9 => ?_)
    · replace HP := ite_T c9 HP
      exact pl_X12_placeWrong_133 (fun hm ff hp => hk11 hm ff hp) (fun hm ff hp => ih hm ff hp) hM16 f16 HP
    · replace HP := ite_F c9 HP
      refine gl_ite (fun c10 => ?_) (fun c10 => ?_)
      · replace HP := ite_T c10 HP
        refine gl_ite (fun c11 => ?_) (fun c11 => ?_)
        · replace HP := ite_T c11 HP
          refine gl_ite (fun c12 => ?_) (fun c12 => ?_)
          · replace HP := ite_T c12 HP
            exact pl_X12_placeWrong_132 (fun hm ff hp => hk11 hm ff hp) (fun hm ff hp => ih hm ff hp) hM16 f16 HP
          · replace HP := ite_F c12 HP
            exact pl_X12_placeWrong_132 (fun hm ff hp => hk11 hm ff hp) (fun hm ff hp => ih hm ff hp) hM16 f16 HP
        · replace HP := ite_F c11 HP
          exact pl_X12_placeWrong_133 (fun hm ff hp => hk11 hm ff hp) (fun hm ff hp => ih hm ff hp) hM16 f16 HP
      · replace HP := ite_F c10 HP
        exact pl_X12_placeWrong_133 (fun hm ff hp => hk11 hm ff hp) (fun hm ff hp => ih hm ff hp) hM16 f16 HP

set_option maxRecDepth 20000 in
theorem pl_X12_placeWrong_50 {t : Nat} {h0 : aH} {r : Int32} {e' : mE} {qk11 : Int32 → Int32 → Int32 → Int32 → Int32 → mE → Option (Int32 × mE)} {k11 : Nat → Int32 → Int32 → Int32 → Int32 → Int32 → aH → Option (Int32 × aH)} (hk11 : ∀ {u1 : Int32} {u2 : Int32} {u3 : Int32} {u4 : Int32} {u5 : Int32} {h : aH}, MS t h → fr t h0 h → qk11 u1 u2 u3 u4 u5 (menv t h) = some (r, e') → Gl t h0 (k11 t u1 u2 u3 u4 u5 h) r e') {x1 : Int32} {x2 : Int32} {x3 : Int32} {x4 : Int32} {x5 : Int32} {h : aH} (hM : MS t h) (f : fr t h0 h) (HP : P_X12_placeWrong_50 qk11 x1 x2 x3 x4 x5 (menv t h) = some (r, e')) : Gl t h0 (F_X12_placeWrong_50 k11 t x1 x2 x3 x4 x5 h) r e' := by
  unfold P_X12_placeWrong_50 at HP
  unfold F_X12_placeWrong_50
  replace HP := bd_n HP
  obtain ⟨v1, Ev1, HP⟩ := HP
  refine gl_bdv Ev1 ?_
  exact pl_X12_placeWrong_56 (fun hm ff hp => hk11 hm ff hp) hM f HP

set_option maxRecDepth 20000 in
theorem pl_X12_placeWrong_11 {t : Nat} {h0 : aH} {r : Int32} {e' : mE} : ∀ {n : Nat} {x1 : Int32} {x2 : Int32} {x3 : Int32} {x4 : Int32} {x5 : Int32} {h : aH}, MS t h → fr t h0 h → P_X12_placeWrong_11  n x1 x2 x3 x4 x5 (menv t h) = some (r, e') → Gl t h0 (F_X12_placeWrong_11  n t x1 x2 x3 x4 x5 h) r e' := by
  intro n
  induction n with
  | zero => intro x1 x2 x3 x4 x5 h hM f HP; cases HP
  | succ n ih =>
  intro x1 x2 x3 x4 x5 h hM f HP
  unfold P_X12_placeWrong_11 at HP
  unfold F_X12_placeWrong_11
  refine gl_ck hM.1 ?_
  refine gl_o (hM.2 8 (by decide)).1 ?_
  replace HP := bind_ck HP
  obtain ⟨c1, HP⟩ := HP
  refine gl_ck ⟨(hM.2 8 (by decide)).2.1, in_of (hM.2 8 (by decide)).2.2 (by decide) c1⟩ ?_
  try rw [mrd 8 c1.1] at HP
  refine gl_ite (fun c2 => ?_) (fun c2 => ?_)
  · replace HP := ite_T c2 HP
    refine gl_ite (fun c3 => ?_) (fun c3 => ?_)
    · replace HP := ite_T c3 HP
      exact gl_end hM f HP
    · replace HP := ite_F c3 HP
      exact gl_end hM f HP
  · replace HP := ite_F c2 HP
    refine gl_ite (fun c4 => ?_) (fun c4 => ?_)
    · replace HP := ite_T c4 HP
      exact pl_X12_placeWrong_50 (fun hm ff hp => ih hm ff hp) hM f HP
    · replace HP := ite_F c4 HP
      refine gl_ite (fun c5 => ?_) (fun c5 => ?_)
      · replace HP := ite_T c5 HP
        refine gl_ite (fun c6 => ?_) (fun c6 => ?_)
        · replace HP := ite_T c6 HP
          replace HP := bd_n HP
          obtain ⟨v10, Ev10, HP⟩ := HP
          refine gl_bdv Ev10 ?_
          exact pl_X12_placeWrong_50 (fun hm ff hp => ih hm ff hp) hM f HP
        · replace HP := ite_F c6 HP
          exact pl_X12_placeWrong_50 (fun hm ff hp => ih hm ff hp) hM f HP
      · replace HP := ite_F c5 HP
        exact pl_X12_placeWrong_50 (fun hm ff hp => ih hm ff hp) hM f HP

set_option maxRecDepth 20000 in
theorem pl_X12_placeWrong {t : Nat} {h0 : aH} {r : Int32} {e' : mE} {x1 : Int32} {h : aH} (hM : MS t h) (f : fr t h0 h) (HP : P_X12_placeWrong  x1 (menv t h) = some (r, e')) : Gl t h0 (F_X12_placeWrong  t x1 h) r e' := by
  unfold P_X12_placeWrong at HP
  unfold F_X12_placeWrong
  exact pl_X12_placeWrong_11  hM f HP

set_option maxRecDepth 20000 in
theorem pl_X12_readImage_248 {t : Nat} {h0 : aH} {r : Int32} {e' : mE} {x2 : Int32} {h : aH} (hM : MS t h) (f : fr t h0 h) (HP : P_X12_readImage_248  x2 (menv t h) = some (r, e')) : Gl t h0 (F_X12_readImage_248  t x2 h) r e' := by
  unfold P_X12_readImage_248 at HP
  unfold F_X12_readImage_248
  refine gl_ck hM.1 ?_
  refine gl_ite (fun c1 => ?_) (fun c1 => ?_)
  · replace HP := ite_T c1 HP
    replace HP := bind_o HP
    obtain ⟨e4, E2, HP⟩ := HP
    obtain ⟨h4, F3, rfl, hM4, gh4⟩ := pl_X12_play (t := t) hM (fr.refl _ _) E2
    have f4 := f.trans gh4
    refine gl_o F3 ?_
    refine gl_ck hM4.1 ?_
    replace HP := bind_o HP
    obtain ⟨⟨z9, e8⟩, E4, HP⟩ := HP
    obtain ⟨h8, F5, rfl, hM8, gh8⟩ := pl_X12_placeWrong (t := t) hM4 (fr.refl _ _) E4
    have f8 := f4.trans gh8
    refine gl_o F5 (gl_bd (gl_bd ?_))
    replace HP := bd_o (bd_o HP)
    dsimp only at HP ⊢
    exact gl_end hM8 f8 HP
  · replace HP := ite_F c1 HP
    exact gl_end hM f HP

set_option maxRecDepth 20000 in
theorem pl_X12_readImage_228 {t : Nat} {h0 : aH} {r : Int32} {e' : mE} {x1 : Int32} {x2 : Int32} {h : aH} (hM : MS t h) (f : fr t h0 h) (HP : P_X12_readImage_228  x1 x2 (menv t h) = some (r, e')) : Gl t h0 (F_X12_readImage_228  t x1 x2 h) r e' := by
  unfold P_X12_readImage_228 at HP
  unfold F_X12_readImage_228
  refine gl_ck hM.1 ?_
  refine gl_ite (fun c1 => ?_) (fun c1 => ?_)
  · replace HP := ite_T c1 HP
    refine gl_ite (fun c2 => ?_) (fun c2 => ?_)
    · replace HP := ite_T c2 HP
      exact pl_X12_readImage_248  hM f HP
    · replace HP := ite_F c2 HP
      replace HP := bd_n HP
      obtain ⟨e4, Eh4, HP⟩ := HP
      refine gl_sF 69 hM f (fun h4 hM4 f4 Kh4 => ?_)
      obtain rfl : menv t h4 = e4 := mtr Kh4 Eh4
      exact pl_X12_readImage_248  hM4 f4 HP
  · replace HP := ite_F c1 HP
    exact pl_X12_readImage_248  hM f HP

set_option maxRecDepth 20000 in
theorem pl_X12_readImage_197 {t : Nat} {h0 : aH} {r : Int32} {e' : mE} : ∀ {n : Nat} {x1 : Int32} {x2 : Int32} {x8 : Int32} {h : aH}, MS t h → fr t h0 h → P_X12_readImage_197  n x1 x2 x8 (menv t h) = some (r, e') → Gl t h0 (F_X12_readImage_197  n t x1 x2 x8 h) r e' := by
  intro n
  induction n with
  | zero => intro x1 x2 x8 h hM f HP; cases HP
  | succ n ih =>
  intro x1 x2 x8 h hM f HP
  unfold P_X12_readImage_197 at HP
  unfold F_X12_readImage_197
  refine gl_ck hM.1 ?_
  refine gl_o (hM.2 8 (by decide)).1 ?_
  replace HP := bind_ck HP
  obtain ⟨c1, HP⟩ := HP
  refine gl_ck ⟨(hM.2 8 (by decide)).2.1, in_of (hM.2 8 (by decide)).2.2 (by decide) c1⟩ ?_
  try rw [mrd 8 c1.1] at HP
  refine gl_ite (fun c2 => ?_) (fun c2 => ?_)
  · replace HP := ite_T c2 HP
    exact pl_X12_readImage_228  hM f HP
  · replace HP := ite_F c2 HP
    refine gl_ite (fun c3 => ?_) (fun c3 => ?_)
    · replace HP := ite_T c3 HP
      replace HP := bind_o HP
      obtain ⟨e8, E4, HP⟩ := HP
      obtain ⟨h8, F5, rfl, hM8, gh8⟩ := pl_X12_readTurn (t := t) hM (fr.refl _ _) E4
      have f8 := f.trans gh8
      refine gl_o F5 ?_
      replace HP := bd_n HP
      obtain ⟨v10, Ev10, HP⟩ := HP
      refine gl_bdv Ev10 ?_
      exact ih hM8 f8 HP
    · replace HP := ite_F c3 HP
      exact pl_X12_readImage_228  hM f HP

set_option maxRecDepth 20000 in
theorem pl_X12_readImage_164 {t : Nat} {h0 : aH} {r : Int32} {e' : mE} {x1 : Int32} {x2 : Int32} {x6 : Int32} {h : aH} (hM : MS t h) (f : fr t h0 h) (HP : P_X12_readImage_164  x1 x2 x6 (menv t h) = some (r, e')) : Gl t h0 (F_X12_readImage_164  t x1 x2 x6 h) r e' := by
  unfold P_X12_readImage_164 at HP
  unfold F_X12_readImage_164
  refine gl_ck hM.1 ?_
  replace HP := bind_o HP
  obtain ⟨⟨z4, e3⟩, E1, HP⟩ := HP
  obtain ⟨h3, F2, rfl, hM3, gh3⟩ := pl_X12_read (t := t) hM (fr.refl _ _) E1
  have f3 := f.trans gh3
  refine gl_o F2 (gl_bd (gl_bd ?_))
  replace HP := bd_o (bd_o HP)
  dsimp only at HP ⊢
  refine gl_ck hM3.1 ?_
  refine gl_o (hM3.2 8 (by decide)).1 ?_
  refine gl_ite (fun c3 => ?_) (fun c3 => ?_)
  · replace HP := ite_T c3 HP
    replace HP := bind_ck HP
    obtain ⟨c4, HP⟩ := HP
    refine gl_ck ⟨(hM3.2 8 (by decide)).2.1, in_of (hM3.2 8 (by decide)).2.2 (by decide) c4⟩ ?_
    try rw [mrd 8 c4.1] at HP
    replace HP := bd_n HP
    obtain ⟨e11, Eh11, HP⟩ := HP
    refine gl_sI 8 hM3 f3 (by decide) (by first | assumption | exact And.left (by assumption) | decide) (fun h11 hM11 f11 Kh11 => ?_)
    obtain rfl : menv t h11 = e11 := mtr Kh11 Eh11
    exact pl_X12_readImage_197  hM11 f11 HP
  · replace HP := ite_F c3 HP
    replace HP := bind_ck HP
    obtain ⟨c5, HP⟩ := HP
    refine gl_ck ⟨(hM3.2 8 (by decide)).2.1, in_of (hM3.2 8 (by decide)).2.2 (by decide) c5⟩ ?_
    try rw [mrd 8 c5.1] at HP
    replace HP := bd_n HP
    obtain ⟨e14, Eh14, HP⟩ := HP
    refine gl_sI 8 hM3 f3 (by decide) (by first | assumption | exact And.left (by assumption) | decide) (fun h14 hM14 f14 Kh14 => ?_)
    obtain rfl : menv t h14 = e14 := mtr Kh14 Eh14
    exact pl_X12_readImage_197  hM14 f14 HP

set_option maxRecDepth 20000 in
theorem pl_X12_readImage_137 {t : Nat} {h0 : aH} {r : Int32} {e' : mE} : ∀ {n : Nat} {x1 : Int32} {x2 : Int32} {x6 : Int32} {x7 : Int32} {h : aH}, MS t h → fr t h0 h → P_X12_readImage_137  n x1 x2 x6 x7 (menv t h) = some (r, e') → Gl t h0 (F_X12_readImage_137  n t x1 x2 x6 x7 h) r e' := by
  intro n
  induction n with
  | zero => intro x1 x2 x6 x7 h hM f HP; cases HP
  | succ n ih =>
  intro x1 x2 x6 x7 h hM f HP
  unfold P_X12_readImage_137 at HP
  unfold F_X12_readImage_137
  refine gl_ite (fun c1 => ?_) (fun c1 => ?_)
  · replace HP := ite_T c1 HP
    exact pl_X12_readImage_164  hM f HP
  · replace HP := ite_F c1 HP
    refine gl_ck hM.1 ?_
    refine gl_ite (fun c2 => ?_) (fun c2 => ?_)
    · replace HP := ite_T c2 HP
      replace HP := bind_o HP
      obtain ⟨e5, E3, HP⟩ := HP
      obtain ⟨h5, F4, rfl, hM5, gh5⟩ := pl_X12_readPlayer (t := t) hM (fr.refl _ _) E3
      have f5 := f.trans gh5
      refine gl_o F4 ?_
      replace HP := bd_n HP
      obtain ⟨v7, Ev7, HP⟩ := HP
      refine gl_bdv Ev7 ?_
      exact ih hM5 f5 HP
    · replace HP := ite_F c2 HP
      exact pl_X12_readImage_164  hM f HP

set_option maxRecDepth 20000 in
theorem pl_X12_readImage_82 {t : Nat} {h0 : aH} {r : Int32} {e' : mE} {x1 : Int32} {x2 : Int32} {x3 : Int32} {x4 : Int32} {h : aH} (hM : MS t h) (f : fr t h0 h) (HP : P_X12_readImage_82  x1 x2 x3 x4 (menv t h) = some (r, e')) : Gl t h0 (F_X12_readImage_82  t x1 x2 x3 x4 h) r e' := by
  unfold P_X12_readImage_82 at HP
  unfold F_X12_readImage_82
  refine gl_ck hM.1 ?_
  replace HP := bind_o HP
  obtain ⟨⟨z4, e3⟩, E1, HP⟩ := HP
  obtain ⟨h3, F2, rfl, hM3, gh3⟩ := pl_X12_read (t := t) hM (fr.refl _ _) E1
  have f3 := f.trans gh3
  refine gl_o F2 (gl_bd (gl_bd ?_))
  replace HP := bd_o (bd_o HP)
  dsimp only at HP ⊢
  refine gl_ck hM3.1 ?_
  replace HP := bind_o HP
  obtain ⟨⟨z9, e8⟩, E3, HP⟩ := HP
  obtain ⟨h8, F4, rfl, hM8, gh8⟩ := pl_X12_read (t := t) hM3 (fr.refl _ _) E3
  have f8 := f3.trans gh8
  refine gl_o F4 (gl_bd (gl_bd ?_))
  replace HP := bd_o (bd_o HP)
  dsimp only at HP ⊢
  refine gl_ck hM8.1 ?_
  refine gl_ite (fun c5 => ?_) (fun c5 => ?_)
  · replace HP := ite_T c5 HP
    replace HP := bind_o HP
    obtain ⟨e14, E6, HP⟩ := HP
    obtain ⟨h14, F7, rfl, hM14, gh14⟩ := pl_X12_newGame (t := t) hM8 (fr.refl _ _) E6
    have f14 := f8.trans gh14
    refine gl_o F7 ?_
    refine gl_ck hM14.1 ?_
    replace HP := bd_n HP
    obtain ⟨e17, Eh17, HP⟩ := HP
    refine gl_sF 2 hM14 f14 (fun h17 hM17 f17 Kh17 => ?_)
    obtain rfl : menv t h17 = e17 := mtr Kh17 Eh17
    exact pl_X12_readImage_137  hM17 f17 HP
  · replace HP := ite_F c5 HP
    exact gl_end hM8 f8 HP

set_option maxRecDepth 20000 in
theorem pl_X12_readImage {t : Nat} {h0 : aH} {r : Int32} {e' : mE} {x1 : Int32} {h : aH} (hM : MS t h) (f : fr t h0 h) (HP : P_X12_readImage  x1 (menv t h) = some (r, e')) : Gl t h0 (F_X12_readImage  t x1 h) r e' := by
  unfold P_X12_readImage at HP
  unfold F_X12_readImage
  replace HP := bd_n HP
  obtain ⟨e1, Eh1, HP⟩ := HP
  refine gl_sF 65 hM f (fun h1 hM1 f1 Kh1 => ?_)
  obtain rfl : menv t h1 = e1 := mtr Kh1 Eh1
  replace HP := bd_n HP
  obtain ⟨e3, Eh3, HP⟩ := HP
  refine gl_sF 66 hM1 f1 (fun h3 hM3 f3 Kh3 => ?_)
  obtain rfl : menv t h3 = e3 := mtr Kh3 Eh3
  replace HP := bd_n HP
  obtain ⟨e5, Eh5, HP⟩ := HP
  refine gl_sF 69 hM3 f3 (fun h5 hM5 f5 Kh5 => ?_)
  obtain rfl : menv t h5 = e5 := mtr Kh5 Eh5
  replace HP := bd_n HP
  obtain ⟨v7, Ev7, HP⟩ := HP
  refine gl_bdv Ev7 ?_
  replace HP := bind_o HP
  obtain ⟨⟨z10, e9⟩, E1, HP⟩ := HP
  obtain ⟨h9, F2, rfl, hM9, gh9⟩ := pl_X12_read (t := t) hM5 (fr.refl _ _) E1
  have f9 := f5.trans gh9
  refine gl_o F2 (gl_bd (gl_bd ?_))
  replace HP := bd_o (bd_o HP)
  dsimp only at HP ⊢
  refine gl_ck hM9.1 ?_
  replace HP := bind_o HP
  obtain ⟨⟨z15, e14⟩, E3, HP⟩ := HP
  obtain ⟨h14, F4, rfl, hM14, gh14⟩ := pl_X12_read (t := t) hM9 (fr.refl _ _) E3
  have f14 := f9.trans gh14
  refine gl_o F4 (gl_bd (gl_bd ?_))
  replace HP := bd_o (bd_o HP)
  dsimp only at HP ⊢
  refine gl_ck hM14.1 ?_
  replace HP := bind_o HP
  obtain ⟨⟨z20, e19⟩, E5, HP⟩ := HP
  obtain ⟨h19, F6, rfl, hM19, gh19⟩ := pl_X12_read (t := t) hM14 (fr.refl _ _) E5
  have f19 := f14.trans gh19
  refine gl_o F6 (gl_bd (gl_bd ?_))
  replace HP := bd_o (bd_o HP)
  dsimp only at HP ⊢
  refine gl_ck hM19.1 ?_
  refine gl_ite (fun c7 => ?_) (fun c7 => ?_)
  · replace HP := ite_T c7 HP
    refine gl_ite (fun c8 => ?_) (fun c8 => ?_)
    · replace HP := ite_T c8 HP
      replace HP := bd_n HP
      obtain ⟨e25, Eh25, HP⟩ := HP
      refine gl_sF 69 hM19 f19 (fun h25 hM25 f25 Kh25 => ?_)
      obtain rfl : menv t h25 = e25 := mtr Kh25 Eh25
      replace HP := bd_n HP
      obtain ⟨e27, Eh27, HP⟩ := HP
      refine gl_sF 65 hM25 f25 (fun h27 hM27 f27 Kh27 => ?_)
      obtain rfl : menv t h27 = e27 := mtr Kh27 Eh27
      exact pl_X12_readImage_82  hM27 f27 HP
    · replace HP := ite_F c8 HP
      exact pl_X12_readImage_82  hM19 f19 HP
  · replace HP := ite_F c7 HP
    exact pl_X12_readImage_82  hM19 f19 HP

set_option maxRecDepth 20000 in
theorem pl_X12_readFull_309 {t : Nat} {h0 : aH} {r : Int32} {e' : mE} : ∀ {n : Nat} {x2 : Int32} {x4 : Int32} {x5 : Int32} {h : aH}, MS t h → fr t h0 h → P_X12_readFull_309  n x2 x4 x5 (menv t h) = some (r, e') → Gl t h0 (F_X12_readFull_309  n t x2 (t + mo 71) x4 x5 h) r e' := by
  intro n
  induction n with
  | zero => intro x2 x4 x5 h hM f HP; cases HP
  | succ n ih =>
  intro x2 x4 x5 h hM f HP
  unfold P_X12_readFull_309 at HP
  unfold F_X12_readFull_309
  refine gl_ite (fun c1 => ?_) (fun c1 => ?_)
  · replace HP := ite_T c1 HP
    exact gl_end hM f HP
  · replace HP := ite_F c1 HP
    refine gl_ck hM.1 ?_
    refine gl_o (hM.2 10 (by decide)).1 ?_
    replace HP := bind_ck HP
    obtain ⟨c2, HP⟩ := HP
    refine gl_ck ⟨(hM.2 71 (by decide)).2.1, in_of (hM.2 71 (by decide)).2.2 (by decide) c2⟩ ?_
    try rw [mrd 71 c2.1] at HP
    replace HP := bind_ck HP
    obtain ⟨c3, HP⟩ := HP
    refine gl_ck ⟨(hM.2 10 (by decide)).2.1, in_of (hM.2 10 (by decide)).2.2 (by decide) c3⟩ ?_
    try rw [mrd 10 c3.1] at HP
    replace HP := bd_n HP
    obtain ⟨e7, Eh7, HP⟩ := HP
    refine gl_sI 10 hM f (by decide) (by first | assumption | exact And.left (by assumption) | decide) (fun h7 hM7 f7 Kh7 => ?_)
    obtain rfl : menv t h7 = e7 := mtr Kh7 Eh7
    replace HP := bd_n HP
    obtain ⟨v9, Ev9, HP⟩ := HP
    refine gl_bdv Ev9 ?_
    exact ih hM7 f7 HP

set_option maxRecDepth 20000 in
theorem pl_X12_readFull_276 {t : Nat} {h0 : aH} {r : Int32} {e' : mE} : ∀ {n : Nat} {x2 : Int32} {x4 : Int32} {x5 : Int32} {h : aH}, MS t h → fr t h0 h → P_X12_readFull_276  n x2 x4 x5 (menv t h) = some (r, e') → Gl t h0 (F_X12_readFull_276  n t x2 (t + mo 71) x4 x5 h) r e' := by
  intro n
  induction n with
  | zero => intro x2 x4 x5 h hM f HP; cases HP
  | succ n ih =>
  intro x2 x4 x5 h hM f HP
  unfold P_X12_readFull_276 at HP
  unfold F_X12_readFull_276
  refine gl_ite (fun c1 => ?_) (fun c1 => ?_)
  · replace HP := ite_T c1 HP
    exact pl_X12_readFull_309  hM f HP
  · replace HP := ite_F c1 HP
    refine gl_ck hM.1 ?_
    refine gl_o (hM.2 9 (by decide)).1 ?_
    replace HP := bind_ck HP
    obtain ⟨c2, HP⟩ := HP
    refine gl_ck ⟨(hM.2 71 (by decide)).2.1, in_of (hM.2 71 (by decide)).2.2 (by decide) c2⟩ ?_
    try rw [mrd 71 c2.1] at HP
    replace HP := bind_ck HP
    obtain ⟨c3, HP⟩ := HP
    refine gl_ck ⟨(hM.2 9 (by decide)).2.1, in_of (hM.2 9 (by decide)).2.2 (by decide) c3⟩ ?_
    try rw [mrd 9 c3.1] at HP
    replace HP := bd_n HP
    obtain ⟨e7, Eh7, HP⟩ := HP
    refine gl_sI 9 hM f (by decide) (by first | assumption | exact And.left (by assumption) | decide) (fun h7 hM7 f7 Kh7 => ?_)
    obtain rfl : menv t h7 = e7 := mtr Kh7 Eh7
    replace HP := bd_n HP
    obtain ⟨v9, Ev9, HP⟩ := HP
    refine gl_bdv Ev9 ?_
    exact ih hM7 f7 HP

set_option maxRecDepth 20000 in
theorem pl_X12_readFull_242 {t : Nat} {h0 : aH} {r : Int32} {e' : mE} : ∀ {n : Nat} {x2 : Int32} {x4 : Int32} {x5 : Int32} {h : aH}, MS t h → fr t h0 h → P_X12_readFull_242  n x2 x4 x5 (menv t h) = some (r, e') → Gl t h0 (F_X12_readFull_242  n t x2 (t + mo 71) x4 x5 h) r e' := by
  intro n
  induction n with
  | zero => intro x2 x4 x5 h hM f HP; cases HP
  | succ n ih =>
  intro x2 x4 x5 h hM f HP
  unfold P_X12_readFull_242 at HP
  unfold F_X12_readFull_242
  refine gl_ite (fun c1 => ?_) (fun c1 => ?_)
  · replace HP := ite_T c1 HP
    exact pl_X12_readFull_276  hM f HP
  · replace HP := ite_F c1 HP
    refine gl_ck hM.1 ?_
    refine gl_o (hM.2 7 (by decide)).1 ?_
    replace HP := bind_ck HP
    obtain ⟨c2, HP⟩ := HP
    refine gl_ck ⟨(hM.2 71 (by decide)).2.1, in_of (hM.2 71 (by decide)).2.2 (by decide) c2⟩ ?_
    try rw [mrd 71 c2.1] at HP
    replace HP := bind_ck HP
    obtain ⟨c3, HP⟩ := HP
    refine gl_ck ⟨(hM.2 7 (by decide)).2.1, in_of (hM.2 7 (by decide)).2.2 (by decide) c3⟩ ?_
    try rw [mrd 7 c3.1] at HP
    replace HP := bd_n HP
    obtain ⟨e7, Eh7, HP⟩ := HP
    refine gl_sI 7 hM f (by decide) (by first | assumption | exact And.left (by assumption) | decide) (fun h7 hM7 f7 Kh7 => ?_)
    obtain rfl : menv t h7 = e7 := mtr Kh7 Eh7
    replace HP := bd_n HP
    obtain ⟨v9, Ev9, HP⟩ := HP
    refine gl_bdv Ev9 ?_
    exact ih hM7 f7 HP

set_option maxRecDepth 20000 in
theorem pl_X12_readFull_130 {t : Nat} {h0 : aH} {r : Int32} {e' : mE} : ∀ {n : Nat} {x1 : Int32} {x2 : Int32} {x4 : Int32} {h : aH}, MS t h → fr t h0 h → P_X12_readFull_130  n x1 x2 x4 (menv t h) = some (r, e') → Gl t h0 (F_X12_readFull_130  n t x1 x2 (t + mo 71) x4 h) r e' := by
  intro n
  induction n with
  | zero => intro x1 x2 x4 h hM f HP; cases HP
  | succ n ih =>
  intro x1 x2 x4 h hM f HP
  unfold P_X12_readFull_130 at HP
  unfold F_X12_readFull_130
  refine gl_ite (fun c1 => ?_) (fun c1 => ?_)
  · replace HP := ite_T c1 HP
    refine gl_ck hM.1 ?_
    replace HP := bd_n HP
    obtain ⟨e3, Eh3, HP⟩ := HP
    refine gl_sF 2 hM f (fun h3 hM3 f3 Kh3 => ?_)
    obtain rfl : menv t h3 = e3 := mtr Kh3 Eh3
    replace HP := bind_o HP
    obtain ⟨⟨z7, e6⟩, E2, HP⟩ := HP
    obtain ⟨h6, F3, rfl, hM6, gh6⟩ := pl_X12_readImage (t := t) hM3 (fr.refl _ _) E2
    have f6 := f3.trans gh6
    refine gl_o F3 (gl_bd (gl_bd ?_))
    replace HP := bd_o (bd_o HP)
    dsimp only at HP ⊢
    refine gl_ck hM6.1 ?_
    replace HP := bd_n HP
    obtain ⟨e10, Eh10, HP⟩ := HP
    refine gl_sF 2 hM6 f6 (fun h10 hM10 f10 Kh10 => ?_)
    obtain rfl : menv t h10 = e10 := mtr Kh10 Eh10
    refine gl_o (hM10.2 4 (by decide)).1 ?_
    replace HP := bind_ck HP
    obtain ⟨c4, HP⟩ := HP
    refine gl_ck ⟨(hM10.2 71 (by decide)).2.1, in_of (hM10.2 71 (by decide)).2.2 (by decide) c4⟩ ?_
    try rw [mrd 71 c4.1] at HP
    replace HP := bind_ck HP
    obtain ⟨c5, HP⟩ := HP
    refine gl_ck ⟨(hM10.2 4 (by decide)).2.1, in_of (hM10.2 4 (by decide)).2.2 (by decide) c5⟩ ?_
    try rw [mrd 4 c5.1] at HP
    replace HP := bd_n HP
    obtain ⟨e16, Eh16, HP⟩ := HP
    refine gl_sI 4 hM10 f10 (by decide) (by first | assumption | exact And.left (by assumption) | decide) (fun h16 hM16 f16 Kh16 => ?_)
    obtain rfl : menv t h16 = e16 := mtr Kh16 Eh16
    refine gl_o (hM16.2 4 (by decide)).1 ?_
    replace HP := bind_ck HP
    obtain ⟨c6, HP⟩ := HP
    refine gl_ck ⟨(hM16.2 71 (by decide)).2.1, in_of (hM16.2 71 (by decide)).2.2 (by decide) c6⟩ ?_
    try rw [mrd 71 c6.1] at HP
    replace HP := bind_ck HP
    obtain ⟨c7, HP⟩ := HP
    refine gl_ck ⟨(hM16.2 4 (by decide)).2.1, in_of (hM16.2 4 (by decide)).2.2 (by decide) c7⟩ ?_
    try rw [mrd 4 c7.1] at HP
    replace HP := bd_n HP
    obtain ⟨e22, Eh22, HP⟩ := HP
    refine gl_sI 4 hM16 f16 (by decide) (by first | assumption | exact And.left (by assumption) | decide) (fun h22 hM22 f22 Kh22 => ?_)
    obtain rfl : menv t h22 = e22 := mtr Kh22 Eh22
    refine gl_o (hM22.2 5 (by decide)).1 ?_
    replace HP := bind_ck HP
    obtain ⟨c8, HP⟩ := HP
    refine gl_ck ⟨(hM22.2 71 (by decide)).2.1, in_of (hM22.2 71 (by decide)).2.2 (by decide) c8⟩ ?_
    try rw [mrd 71 c8.1] at HP
    replace HP := bind_ck HP
    obtain ⟨c9, HP⟩ := HP
    refine gl_ck ⟨(hM22.2 5 (by decide)).2.1, in_of (hM22.2 5 (by decide)).2.2 (by decide) c9⟩ ?_
    try rw [mrd 5 c9.1] at HP
    replace HP := bd_n HP
    obtain ⟨e28, Eh28, HP⟩ := HP
    refine gl_sI 5 hM22 f22 (by decide) (by first | assumption | exact And.left (by assumption) | decide) (fun h28 hM28 f28 Kh28 => ?_)
    obtain rfl : menv t h28 = e28 := mtr Kh28 Eh28
    refine gl_o (hM28.2 6 (by decide)).1 ?_
    replace HP := bind_ck HP
    obtain ⟨c10, HP⟩ := HP
    refine gl_ck ⟨(hM28.2 71 (by decide)).2.1, in_of (hM28.2 71 (by decide)).2.2 (by decide) c10⟩ ?_
    try rw [mrd 71 c10.1] at HP
    replace HP := bind_ck HP
    obtain ⟨c11, HP⟩ := HP
    refine gl_ck ⟨(hM28.2 6 (by decide)).2.1, in_of (hM28.2 6 (by decide)).2.2 (by decide) c11⟩ ?_
    try rw [mrd 6 c11.1] at HP
    replace HP := bd_n HP
    obtain ⟨e34, Eh34, HP⟩ := HP
    refine gl_sI 6 hM28 f28 (by decide) (by first | assumption | exact And.left (by assumption) | decide) (fun h34 hM34 f34 Kh34 => ?_)
    obtain rfl : menv t h34 = e34 := mtr Kh34 Eh34
    refine gl_o (hM34.2 8 (by decide)).1 ?_
    replace HP := bind_ck HP
    obtain ⟨c12, HP⟩ := HP
    refine gl_ck ⟨(hM34.2 71 (by decide)).2.1, in_of (hM34.2 71 (by decide)).2.2 (by decide) c12⟩ ?_
    try rw [mrd 71 c12.1] at HP
    replace HP := bind_ck HP
    obtain ⟨c13, HP⟩ := HP
    refine gl_ck ⟨(hM34.2 8 (by decide)).2.1, in_of (hM34.2 8 (by decide)).2.2 (by decide) c13⟩ ?_
    try rw [mrd 8 c13.1] at HP
    replace HP := bd_n HP
    obtain ⟨e40, Eh40, HP⟩ := HP
    refine gl_sI 8 hM34 f34 (by decide) (by first | assumption | exact And.left (by assumption) | decide) (fun h40 hM40 f40 Kh40 => ?_)
    obtain rfl : menv t h40 = e40 := mtr Kh40 Eh40
    exact pl_X12_readFull_242  hM40 f40 HP
  · replace HP := ite_F c1 HP
    refine gl_ck hM.1 ?_
    refine gl_o (hM.2 10 (by decide)).1 ?_
    replace HP := bind_ck HP
    obtain ⟨c14, HP⟩ := HP
    refine gl_ck ⟨(hM.2 10 (by decide)).2.1, in_of (hM.2 10 (by decide)).2.2 (by decide) c14⟩ ?_
    try rw [mrd 10 c14.1] at HP
    replace HP := bind_ck HP
    obtain ⟨c15, HP⟩ := HP
    refine gl_ck ⟨(hM.2 71 (by decide)).2.1, in_of (hM.2 71 (by decide)).2.2 (by decide) c15⟩ ?_
    try rw [mrd 71 c15.1] at HP
    replace HP := bd_n HP
    obtain ⟨e47, Eh47, HP⟩ := HP
    refine gl_sI 71 hM f (by decide) (by first | assumption | exact And.left (by assumption) | decide) (fun h47 hM47 f47 Kh47 => ?_)
    obtain rfl : menv t h47 = e47 := mtr Kh47 Eh47
    replace HP := bd_n HP
    obtain ⟨v49, Ev49, HP⟩ := HP
    refine gl_bdv Ev49 ?_
    exact ih hM47 f47 HP

set_option maxRecDepth 20000 in
theorem pl_X12_readFull_97 {t : Nat} {h0 : aH} {r : Int32} {e' : mE} : ∀ {n : Nat} {x1 : Int32} {x2 : Int32} {x4 : Int32} {h : aH}, MS t h → fr t h0 h → P_X12_readFull_97  n x1 x2 x4 (menv t h) = some (r, e') → Gl t h0 (F_X12_readFull_97  n t x1 x2 (t + mo 71) x4 h) r e' := by
  intro n
  induction n with
  | zero => intro x1 x2 x4 h hM f HP; cases HP
  | succ n ih =>
  intro x1 x2 x4 h hM f HP
  unfold P_X12_readFull_97 at HP
  unfold F_X12_readFull_97
  refine gl_ite (fun c1 => ?_) (fun c1 => ?_)
  · replace HP := ite_T c1 HP
    exact pl_X12_readFull_130  hM f HP
  · replace HP := ite_F c1 HP
    refine gl_ck hM.1 ?_
    refine gl_o (hM.2 9 (by decide)).1 ?_
    replace HP := bind_ck HP
    obtain ⟨c2, HP⟩ := HP
    refine gl_ck ⟨(hM.2 9 (by decide)).2.1, in_of (hM.2 9 (by decide)).2.2 (by decide) c2⟩ ?_
    try rw [mrd 9 c2.1] at HP
    replace HP := bind_ck HP
    obtain ⟨c3, HP⟩ := HP
    refine gl_ck ⟨(hM.2 71 (by decide)).2.1, in_of (hM.2 71 (by decide)).2.2 (by decide) c3⟩ ?_
    try rw [mrd 71 c3.1] at HP
    replace HP := bd_n HP
    obtain ⟨e7, Eh7, HP⟩ := HP
    refine gl_sI 71 hM f (by decide) (by first | assumption | exact And.left (by assumption) | decide) (fun h7 hM7 f7 Kh7 => ?_)
    obtain rfl : menv t h7 = e7 := mtr Kh7 Eh7
    replace HP := bd_n HP
    obtain ⟨v9, Ev9, HP⟩ := HP
    refine gl_bdv Ev9 ?_
    exact ih hM7 f7 HP

set_option maxRecDepth 20000 in
theorem pl_X12_readFull_63 {t : Nat} {h0 : aH} {r : Int32} {e' : mE} : ∀ {n : Nat} {x1 : Int32} {x2 : Int32} {x4 : Int32} {h : aH}, MS t h → fr t h0 h → P_X12_readFull_63  n x1 x2 x4 (menv t h) = some (r, e') → Gl t h0 (F_X12_readFull_63  n t x1 x2 (t + mo 71) x4 h) r e' := by
  intro n
  induction n with
  | zero => intro x1 x2 x4 h hM f HP; cases HP
  | succ n ih =>
  intro x1 x2 x4 h hM f HP
  unfold P_X12_readFull_63 at HP
  unfold F_X12_readFull_63
  refine gl_ite (fun c1 => ?_) (fun c1 => ?_)
  · replace HP := ite_T c1 HP
    exact pl_X12_readFull_97  hM f HP
  · replace HP := ite_F c1 HP
    refine gl_ck hM.1 ?_
    refine gl_o (hM.2 7 (by decide)).1 ?_
    replace HP := bind_ck HP
    obtain ⟨c2, HP⟩ := HP
    refine gl_ck ⟨(hM.2 7 (by decide)).2.1, in_of (hM.2 7 (by decide)).2.2 (by decide) c2⟩ ?_
    try rw [mrd 7 c2.1] at HP
    replace HP := bind_ck HP
    obtain ⟨c3, HP⟩ := HP
    refine gl_ck ⟨(hM.2 71 (by decide)).2.1, in_of (hM.2 71 (by decide)).2.2 (by decide) c3⟩ ?_
    try rw [mrd 71 c3.1] at HP
    replace HP := bd_n HP
    obtain ⟨e7, Eh7, HP⟩ := HP
    refine gl_sI 71 hM f (by decide) (by first | assumption | exact And.left (by assumption) | decide) (fun h7 hM7 f7 Kh7 => ?_)
    obtain rfl : menv t h7 = e7 := mtr Kh7 Eh7
    replace HP := bd_n HP
    obtain ⟨v9, Ev9, HP⟩ := HP
    refine gl_bdv Ev9 ?_
    exact ih hM7 f7 HP

set_option maxRecDepth 20000 in
theorem pl_X12_readFull {t : Nat} {h0 : aH} {r : Int32} {e' : mE} {x1 : Int32} {h : aH} (hM : MS t h) (f : fr t h0 h) (HP : P_X12_readFull  x1 (menv t h) = some (r, e')) : Gl t h0 (F_X12_readFull  t x1 h) r e' := by
  unfold P_X12_readFull at HP
  unfold F_X12_readFull
  refine gl_o (hM.2 71 (by decide)).1 ?_
  refine gl_o (hM.2 4 (by decide)).1 ?_
  replace HP := bind_ck HP
  obtain ⟨c1, HP⟩ := HP
  refine gl_ck ⟨(hM.2 4 (by decide)).2.1, in_of (hM.2 4 (by decide)).2.2 (by decide) c1⟩ ?_
  try rw [mrd 4 c1.1] at HP
  replace HP := bind_ck HP
  obtain ⟨c2, HP⟩ := HP
  refine gl_ck ⟨(hM.2 71 (by decide)).2.1, in_of (hM.2 71 (by decide)).2.2 (by decide) c2⟩ ?_
  try rw [mrd 71 c2.1] at HP
  replace HP := bd_n HP
  obtain ⟨e7, Eh7, HP⟩ := HP
  refine gl_sI 71 hM f (by decide) (by first | assumption | exact And.left (by assumption) | decide) (fun h7 hM7 f7 Kh7 => ?_)
  obtain rfl : menv t h7 = e7 := mtr Kh7 Eh7
  refine gl_o (hM7.2 4 (by decide)).1 ?_
  replace HP := bind_ck HP
  obtain ⟨c3, HP⟩ := HP
  refine gl_ck ⟨(hM7.2 4 (by decide)).2.1, in_of (hM7.2 4 (by decide)).2.2 (by decide) c3⟩ ?_
  try rw [mrd 4 c3.1] at HP
  replace HP := bind_ck HP
  obtain ⟨c4, HP⟩ := HP
  refine gl_ck ⟨(hM7.2 71 (by decide)).2.1, in_of (hM7.2 71 (by decide)).2.2 (by decide) c4⟩ ?_
  try rw [mrd 71 c4.1] at HP
  replace HP := bd_n HP
  obtain ⟨e13, Eh13, HP⟩ := HP
  refine gl_sI 71 hM7 f7 (by decide) (by first | assumption | exact And.left (by assumption) | decide) (fun h13 hM13 f13 Kh13 => ?_)
  obtain rfl : menv t h13 = e13 := mtr Kh13 Eh13
  refine gl_o (hM13.2 5 (by decide)).1 ?_
  replace HP := bind_ck HP
  obtain ⟨c5, HP⟩ := HP
  refine gl_ck ⟨(hM13.2 5 (by decide)).2.1, in_of (hM13.2 5 (by decide)).2.2 (by decide) c5⟩ ?_
  try rw [mrd 5 c5.1] at HP
  replace HP := bind_ck HP
  obtain ⟨c6, HP⟩ := HP
  refine gl_ck ⟨(hM13.2 71 (by decide)).2.1, in_of (hM13.2 71 (by decide)).2.2 (by decide) c6⟩ ?_
  try rw [mrd 71 c6.1] at HP
  replace HP := bd_n HP
  obtain ⟨e19, Eh19, HP⟩ := HP
  refine gl_sI 71 hM13 f13 (by decide) (by first | assumption | exact And.left (by assumption) | decide) (fun h19 hM19 f19 Kh19 => ?_)
  obtain rfl : menv t h19 = e19 := mtr Kh19 Eh19
  refine gl_o (hM19.2 6 (by decide)).1 ?_
  replace HP := bind_ck HP
  obtain ⟨c7, HP⟩ := HP
  refine gl_ck ⟨(hM19.2 6 (by decide)).2.1, in_of (hM19.2 6 (by decide)).2.2 (by decide) c7⟩ ?_
  try rw [mrd 6 c7.1] at HP
  replace HP := bind_ck HP
  obtain ⟨c8, HP⟩ := HP
  refine gl_ck ⟨(hM19.2 71 (by decide)).2.1, in_of (hM19.2 71 (by decide)).2.2 (by decide) c8⟩ ?_
  try rw [mrd 71 c8.1] at HP
  replace HP := bd_n HP
  obtain ⟨e25, Eh25, HP⟩ := HP
  refine gl_sI 71 hM19 f19 (by decide) (by first | assumption | exact And.left (by assumption) | decide) (fun h25 hM25 f25 Kh25 => ?_)
  obtain rfl : menv t h25 = e25 := mtr Kh25 Eh25
  refine gl_o (hM25.2 8 (by decide)).1 ?_
  replace HP := bind_ck HP
  obtain ⟨c9, HP⟩ := HP
  refine gl_ck ⟨(hM25.2 8 (by decide)).2.1, in_of (hM25.2 8 (by decide)).2.2 (by decide) c9⟩ ?_
  try rw [mrd 8 c9.1] at HP
  replace HP := bind_ck HP
  obtain ⟨c10, HP⟩ := HP
  refine gl_ck ⟨(hM25.2 71 (by decide)).2.1, in_of (hM25.2 71 (by decide)).2.2 (by decide) c10⟩ ?_
  try rw [mrd 71 c10.1] at HP
  replace HP := bd_n HP
  obtain ⟨e31, Eh31, HP⟩ := HP
  refine gl_sI 71 hM25 f25 (by decide) (by first | assumption | exact And.left (by assumption) | decide) (fun h31 hM31 f31 Kh31 => ?_)
  obtain rfl : menv t h31 = e31 := mtr Kh31 Eh31
  exact pl_X12_readFull_63  hM31 f31 HP

set_option maxRecDepth 20000 in
theorem pl_X12_check_52 {t : Nat} {h0 : aH} {r : Int32} {e' : mE} {x2 : Int32} {y0 : Int32} {h : aH} (hM : MS t h) (f : fr t h0 h) (HP : P_X12_check_52  x2 y0 (menv t h) = some (r, e')) : Gl t h0 (F_X12_check_52  t x2 y0 h) r e' := by
  unfold P_X12_check_52 at HP
  unfold F_X12_check_52
  refine gl_ck hM.1 ?_
  replace HP := bd_n HP
  obtain ⟨e2, Eh2, HP⟩ := HP
  refine gl_sF 11 hM f (fun h2 hM2 f2 Kh2 => ?_)
  obtain rfl : menv t h2 = e2 := mtr Kh2 Eh2
  exact gl_end hM2 f2 HP

set_option maxRecDepth 20000 in
theorem pl_X12_check {t : Nat} {h0 : aH} {r : Int32} {e' : mE} {x1 : Int32} {h : aH} (hM : MS t h) (f : fr t h0 h) (HP : P_X12_check  x1 (menv t h) = some (r, e')) : Gl t h0 (F_X12_check  t x1 h) r e' := by
  unfold P_X12_check at HP
  unfold F_X12_check
  replace HP := bd_n HP
  obtain ⟨e1, Eh1, HP⟩ := HP
  refine gl_sF 0 hM f (fun h1 hM1 f1 Kh1 => ?_)
  obtain rfl : menv t h1 = e1 := mtr Kh1 Eh1
  refine gl_ite (fun c1 => ?_) (fun c1 => ?_)
  · replace HP := ite_T c1 HP
    exact gl_end hM1 f1 HP
  · replace HP := ite_F c1 HP
    refine gl_ite (fun c2 => ?_) (fun c2 => ?_)
    · replace HP := ite_T c2 HP
      replace HP := bd_n HP
      obtain ⟨v5, Ev5, HP⟩ := HP
      refine gl_bdv Ev5 ?_
      replace HP := bd_n HP
      obtain ⟨e6, Eh6, HP⟩ := HP
      refine gl_sF 16 hM1 f1 (fun h6 hM6 f6 Kh6 => ?_)
      obtain rfl : menv t h6 = e6 := mtr Kh6 Eh6
      refine gl_ite (fun c3 => ?_) (fun c3 => ?_)
      · replace HP := ite_T c3 HP
        replace HP := bind_o HP
        obtain ⟨⟨z11, e10⟩, E4, HP⟩ := HP
        obtain ⟨h10, F5, rfl, hM10, gh10⟩ := pl_X12_readFull (t := t) hM6 (fr.refl _ _) E4
        have f10 := f6.trans gh10
        refine gl_o F5 (gl_bd (gl_bd ?_))
        replace HP := bd_o (bd_o HP)
        dsimp only at HP ⊢
        exact pl_X12_check_52  hM10 f10 HP
      · replace HP := ite_F c3 HP
        replace HP := bind_o HP
        obtain ⟨⟨z15, e14⟩, E6, HP⟩ := HP
        obtain ⟨h14, F7, rfl, hM14, gh14⟩ := pl_X12_readImage (t := t) hM6 (fr.refl _ _) E6
        have f14 := f6.trans gh14
        refine gl_o F7 (gl_bd (gl_bd ?_))
        replace HP := bd_o (bd_o HP)
        dsimp only at HP ⊢
        exact pl_X12_check_52  hM14 f14 HP
    · replace HP := ite_F c2 HP
      exact gl_end hM1 f1 HP

set_option maxRecDepth 20000 in
theorem pl_X12_take {t : Nat} {h0 : aH} {r : Int32} {e' : mE} {x1 : Int32} {h : aH} (hM : MS t h) (f : fr t h0 h) (HP : P_X12_take  x1 (menv t h) = some (r, e')) : Gl t h0 (F_X12_take  t x1 h) r e' := by
  unfold P_X12_take at HP
  unfold F_X12_take
  replace HP := bd_n HP
  obtain ⟨e1, Eh1, HP⟩ := HP
  refine gl_sF 0 hM f (fun h1 hM1 f1 Kh1 => ?_)
  obtain rfl : menv t h1 = e1 := mtr Kh1 Eh1
  refine gl_ite (fun c1 => ?_) (fun c1 => ?_)
  · replace HP := ite_T c1 HP
    exact gl_end hM1 f1 HP
  · replace HP := ite_F c1 HP
    refine gl_ite (fun c2 => ?_) (fun c2 => ?_)
    · replace HP := ite_T c2 HP
      exact gl_end hM1 f1 HP
    · replace HP := ite_F c2 HP
      refine gl_ite (fun c3 => ?_) (fun c3 => ?_)
      · replace HP := ite_T c3 HP
        exact gl_end hM1 f1 HP
      · replace HP := ite_F c3 HP
        replace HP := bd_n HP
        obtain ⟨v6, Ev6, HP⟩ := HP
        refine gl_bdv Ev6 ?_
        replace HP := bd_n HP
        obtain ⟨e7, Eh7, HP⟩ := HP
        refine gl_sF 16 hM1 f1 (fun h7 hM7 f7 Kh7 => ?_)
        obtain rfl : menv t h7 = e7 := mtr Kh7 Eh7
        replace HP := bind_o HP
        obtain ⟨⟨z11, e10⟩, E4, HP⟩ := HP
        obtain ⟨h10, F5, rfl, hM10, gh10⟩ := pl_X12_readImage (t := t) hM7 (fr.refl _ _) E4
        have f10 := f7.trans gh10
        refine gl_o F5 (gl_bd (gl_bd ?_))
        replace HP := bd_o (bd_o HP)
        dsimp only at HP ⊢
        refine gl_ite (fun c6 => ?_) (fun c6 => ?_)
        · replace HP := ite_T c6 HP
          refine gl_ck hM10.1 ?_
          replace HP := bd_n HP
          obtain ⟨e15, Eh15, HP⟩ := HP
          refine gl_sF 2 hM10 f10 (fun h15 hM15 f15 Kh15 => ?_)
          obtain rfl : menv t h15 = e15 := mtr Kh15 Eh15
          exact gl_end hM15 f15 HP
        · replace HP := ite_F c6 HP
          refine gl_ck hM10.1 ?_
          replace HP := bd_n HP
          obtain ⟨e18, Eh18, HP⟩ := HP
          refine gl_sF 11 hM10 f10 (fun h18 hM18 f18 Kh18 => ?_)
          obtain rfl : menv t h18 = e18 := mtr Kh18 Eh18
          exact gl_end hM18 f18 HP

set_option maxRecDepth 20000 in
theorem pl_X12_list_91 {t : Nat} {h0 : aH} {r : Int32} {e' : mE} {h : aH} (hM : MS t h) (f : fr t h0 h) (HP : P_X12_list_91   (menv t h) = some (r, e')) : Gl t h0 (F_X12_list_91  t h) r e' := by
  unfold P_X12_list_91 at HP
  unfold F_X12_list_91
  refine gl_ck hM.1 ?_
  replace HP := bind_o HP
  obtain ⟨⟨z4, e3⟩, E1, HP⟩ := HP
  obtain ⟨h3, F2, rfl, hM3, gh3⟩ := pl_X12_fail (t := t) hM (fr.refl _ _) E1
  have f3 := f.trans gh3
  refine gl_o F2 (gl_bd (gl_bd ?_))
  replace HP := bd_o (bd_o HP)
  dsimp only at HP ⊢
  exact gl_end hM3 f3 HP

set_option maxRecDepth 20000 in
theorem pl_X12_list {t : Nat} {h0 : aH} {r : Int32} {e' : mE} {x1 : Int32} {h : aH} (hM : MS t h) (f : fr t h0 h) (HP : P_X12_list  x1 (menv t h) = some (r, e')) : Gl t h0 (F_X12_list  t x1 h) r e' := by
  unfold P_X12_list at HP
  unfold F_X12_list
  replace HP := bd_n HP
  obtain ⟨e1, Eh1, HP⟩ := HP
  refine gl_sF 0 hM f (fun h1 hM1 f1 Kh1 => ?_)
  obtain rfl : menv t h1 = e1 := mtr Kh1 Eh1
  refine gl_ite (fun c1 => ?_) (fun c1 => ?_)
  · replace HP := ite_T c1 HP
    exact gl_end hM1 f1 HP
  · replace HP := ite_F c1 HP
    refine gl_ite (fun c2 => ?_) (fun c2 => ?_)
    · replace HP := ite_T c2 HP
      exact gl_end hM1 f1 HP
    · replace HP := ite_F c2 HP
      refine gl_ite (fun c3 => ?_) (fun c3 => ?_)
      · replace HP := ite_T c3 HP
        exact gl_end hM1 f1 HP
      · replace HP := ite_F c3 HP
        refine gl_ite (fun c4 => ?_) (fun c4 => ?_)
        · replace HP := ite_T c4 HP
          exact gl_end hM1 f1 HP
        · replace HP := ite_F c4 HP
          refine gl_ite (fun c5 => ?_) (fun c5 => ?_)
          · replace HP := ite_T c5 HP
            exact gl_end hM1 f1 HP
          · replace HP := ite_F c5 HP
            refine gl_ite (fun c6 => ?_) (fun c6 => ?_)
            · replace HP := ite_T c6 HP
              exact pl_X12_list_91  hM1 f1 HP
            · replace HP := ite_F c6 HP
              refine gl_ite (fun c7 => ?_) (fun c7 => ?_)
              · replace HP := ite_T c7 HP
                exact pl_X12_list_91  hM1 f1 HP
              · replace HP := ite_F c7 HP
                refine gl_o (hM1.2 3 (by decide)).1 ?_
                replace HP := bind_ck HP
                obtain ⟨c8, HP⟩ := HP
                refine gl_ck ⟨(hM1.2 3 (by decide)).2.1, in_of (hM1.2 3 (by decide)).2.2 (by decide) c8⟩ ?_
                try rw [mrd 3 c8.1] at HP
                exact gl_end hM1 f1 HP

set_option maxRecDepth 20000 in
theorem pl_X12_sum_151 {t : Nat} {h0 : aH} {r : Int64} {e' : mE} {qk60 : Int32 → Int64 → Int32 → mE → Option (Int64 × mE)} {k60 : Nat → Int32 → Int64 → Int32 → aH → Option (Int64 × aH)} (hk60 : ∀ {u1 : Int32} {u2 : Int64} {u3 : Int32} {h : aH}, MS t h → fr t h0 h → qk60 u1 u2 u3 (menv t h) = some (r, e') → Gl t h0 (k60 t u1 u2 u3 h) r e') {qk107 : Int32 → Int64 → Int32 → Int32 → mE → Option (Int64 × mE)} {k107 : Nat → Int32 → Int64 → Int32 → Int32 → aH → Option (Int64 × aH)} (hk107 : ∀ {u1 : Int32} {u2 : Int64} {u3 : Int32} {u4 : Int32} {h : aH}, MS t h → fr t h0 h → qk107 u1 u2 u3 u4 (menv t h) = some (r, e') → Gl t h0 (k107 t u1 u2 u3 u4 h) r e') : ∀ {n : Nat} {x1 : Int32} {x2 : Int64} {x4 : Int32} {x5 : Int32} {x6 : Int32} {h : aH}, MS t h → fr t h0 h → P_X12_sum_151 qk60 qk107 n x1 x2 x4 x5 x6 (menv t h) = some (r, e') → Gl t h0 (F_X12_sum_151 k60 k107 n t x1 x2 x4 x5 x6 h) r e' := by
  intro n
  induction n with
  | zero => intro x1 x2 x4 x5 x6 h hM f HP; cases HP
  | succ n ih =>
  intro x1 x2 x4 x5 x6 h hM f HP
  unfold P_X12_sum_151 at HP
  unfold F_X12_sum_151
  refine gl_ite (fun c1 => ?_) (fun c1 => ?_)
  · replace HP := ite_T c1 HP
    replace HP := bd_n HP
    obtain ⟨v2, Ev2, HP⟩ := HP
    refine gl_bdv Ev2 ?_
    exact hk107 hM f HP
  · replace HP := ite_F c1 HP
    refine gl_ck hM.1 ?_
    replace HP := bind_o HP
    obtain ⟨⟨z6, e5⟩, E2, HP⟩ := HP
    obtain ⟨h5, F3, rfl, hM5, gh5⟩ := pl_X12_fieldsOf (t := t) hM (fr.refl _ _) E2
    have f5 := f.trans gh5
    refine gl_o F3 (gl_bd (gl_bd ?_))
    replace HP := bd_o (bd_o HP)
    dsimp only at HP ⊢
    replace HP := bd_n HP
    obtain ⟨v8, Ev8, HP⟩ := HP
    refine gl_bdv Ev8 ?_
    replace HP := bd_n HP
    obtain ⟨v9, Ev9, HP⟩ := HP
    refine gl_bdv Ev9 ?_
    exact ih hM5 f5 HP

set_option maxRecDepth 20000 in
theorem pl_X12_sum_117 {t : Nat} {h0 : aH} {r : Int64} {e' : mE} {qk60 : Int32 → Int64 → Int32 → mE → Option (Int64 × mE)} {k60 : Nat → Int32 → Int64 → Int32 → aH → Option (Int64 × aH)} (hk60 : ∀ {u1 : Int32} {u2 : Int64} {u3 : Int32} {h : aH}, MS t h → fr t h0 h → qk60 u1 u2 u3 (menv t h) = some (r, e') → Gl t h0 (k60 t u1 u2 u3 h) r e') {qk107 : Int32 → Int64 → Int32 → Int32 → mE → Option (Int64 × mE)} {k107 : Nat → Int32 → Int64 → Int32 → Int32 → aH → Option (Int64 × aH)} (hk107 : ∀ {u1 : Int32} {u2 : Int64} {u3 : Int32} {u4 : Int32} {h : aH}, MS t h → fr t h0 h → qk107 u1 u2 u3 u4 (menv t h) = some (r, e') → Gl t h0 (k107 t u1 u2 u3 u4 h) r e') : ∀ {n : Nat} {x1 : Int32} {x2 : Int64} {x4 : Int32} {x5 : Int32} {x6 : Int32} {h : aH}, MS t h → fr t h0 h → P_X12_sum_117 qk60 qk107 n x1 x2 x4 x5 x6 (menv t h) = some (r, e') → Gl t h0 (F_X12_sum_117 k60 k107 n t x1 x2 x4 x5 x6 h) r e' := by
  intro n
  induction n with
  | zero => intro x1 x2 x4 x5 x6 h hM f HP; cases HP
  | succ n ih =>
  intro x1 x2 x4 x5 x6 h hM f HP
  unfold P_X12_sum_117 at HP
  unfold F_X12_sum_117
  refine gl_ite (fun c1 => ?_) (fun c1 => ?_)
  · replace HP := ite_T c1 HP
    exact pl_X12_sum_151 (fun hm ff hp => hk60 hm ff hp) (fun hm ff hp => hk107 hm ff hp) hM f HP
  · replace HP := ite_F c1 HP
    refine gl_ck hM.1 ?_
    replace HP := bind_o HP
    obtain ⟨⟨z5, e4⟩, E2, HP⟩ := HP
    obtain ⟨h4, F3, rfl, hM4, gh4⟩ := pl_X12_batsOf (t := t) hM (fr.refl _ _) E2
    have f4 := f.trans gh4
    refine gl_o F3 (gl_bd (gl_bd ?_))
    replace HP := bd_o (bd_o HP)
    dsimp only at HP ⊢
    replace HP := bd_n HP
    obtain ⟨v7, Ev7, HP⟩ := HP
    refine gl_bdv Ev7 ?_
    replace HP := bd_n HP
    obtain ⟨v8, Ev8, HP⟩ := HP
    refine gl_bdv Ev8 ?_
    exact ih hM4 f4 HP

set_option maxRecDepth 20000 in
theorem pl_X12_sum_107 {t : Nat} {h0 : aH} {r : Int64} {e' : mE} {qk60 : Int32 → Int64 → Int32 → mE → Option (Int64 × mE)} {k60 : Nat → Int32 → Int64 → Int32 → aH → Option (Int64 × aH)} (hk60 : ∀ {u1 : Int32} {u2 : Int64} {u3 : Int32} {h : aH}, MS t h → fr t h0 h → qk60 u1 u2 u3 (menv t h) = some (r, e') → Gl t h0 (k60 t u1 u2 u3 h) r e') : ∀ {n : Nat} {x1 : Int32} {x2 : Int64} {x4 : Int32} {x5 : Int32} {h : aH}, MS t h → fr t h0 h → P_X12_sum_107 qk60 n x1 x2 x4 x5 (menv t h) = some (r, e') → Gl t h0 (F_X12_sum_107 k60 n t x1 x2 x4 x5 h) r e' := by
  intro n
  induction n with
  | zero => intro x1 x2 x4 x5 h hM f HP; cases HP
  | succ n ih =>
  intro x1 x2 x4 x5 h hM f HP
  unfold P_X12_sum_107 at HP
  unfold F_X12_sum_107
  refine gl_ite (fun c1 => ?_) (fun c1 => ?_)
  · replace HP := ite_T c1 HP
    replace HP := bd_n HP
    obtain ⟨v2, Ev2, HP⟩ := HP
    refine gl_bdv Ev2 ?_
    exact hk60 hM f HP
  · replace HP := ite_F c1 HP
    exact pl_X12_sum_117 (fun hm ff hp => hk60 hm ff hp) (fun hm ff hp => ih hm ff hp) hM f HP

set_option maxRecDepth 20000 in
theorem pl_X12_sum_74 {t : Nat} {h0 : aH} {r : Int64} {e' : mE} {qk60 : Int32 → Int64 → Int32 → mE → Option (Int64 × mE)} {k60 : Nat → Int32 → Int64 → Int32 → aH → Option (Int64 × aH)} (hk60 : ∀ {u1 : Int32} {u2 : Int64} {u3 : Int32} {h : aH}, MS t h → fr t h0 h → qk60 u1 u2 u3 (menv t h) = some (r, e') → Gl t h0 (k60 t u1 u2 u3 h) r e') : ∀ {n : Nat} {x1 : Int32} {x2 : Int64} {x4 : Int32} {x5 : Int32} {h : aH}, MS t h → fr t h0 h → P_X12_sum_74 qk60 n x1 x2 x4 x5 (menv t h) = some (r, e') → Gl t h0 (F_X12_sum_74 k60 n t x1 x2 x4 x5 h) r e' := by
  intro n
  induction n with
  | zero => intro x1 x2 x4 x5 h hM f HP; cases HP
  | succ n ih =>
  intro x1 x2 x4 x5 h hM f HP
  unfold P_X12_sum_74 at HP
  unfold F_X12_sum_74
  refine gl_ite (fun c1 => ?_) (fun c1 => ?_)
  · replace HP := ite_T c1 HP
    exact pl_X12_sum_107 (fun hm ff hp => hk60 hm ff hp) hM f HP
  · replace HP := ite_F c1 HP
    refine gl_ck hM.1 ?_
    replace HP := bind_o HP
    obtain ⟨⟨z5, e4⟩, E2, HP⟩ := HP
    obtain ⟨h4, F3, rfl, hM4, gh4⟩ := pl_X12_scoreOf (t := t) hM (fr.refl _ _) E2
    have f4 := f.trans gh4
    refine gl_o F3 (gl_bd (gl_bd ?_))
    replace HP := bd_o (bd_o HP)
    dsimp only at HP ⊢
    replace HP := bd_n HP
    obtain ⟨v7, Ev7, HP⟩ := HP
    refine gl_bdv Ev7 ?_
    replace HP := bd_n HP
    obtain ⟨v8, Ev8, HP⟩ := HP
    refine gl_bdv Ev8 ?_
    exact ih hM4 f4 HP

set_option maxRecDepth 20000 in
theorem pl_X12_sum_60 {t : Nat} {h0 : aH} {r : Int64} {e' : mE} : ∀ {n : Nat} {x1 : Int32} {x2 : Int64} {x4 : Int32} {h : aH}, MS t h → fr t h0 h → P_X12_sum_60  n x1 x2 x4 (menv t h) = some (r, e') → Gl t h0 (F_X12_sum_60  n t x1 x2 x4 h) r e' := by
  intro n
  induction n with
  | zero => intro x1 x2 x4 h hM f HP; cases HP
  | succ n ih =>
  intro x1 x2 x4 h hM f HP
  unfold P_X12_sum_60 at HP
  unfold F_X12_sum_60
  refine gl_ck hM.1 ?_
  refine gl_o (hM.2 8 (by decide)).1 ?_
  replace HP := bind_ck HP
  obtain ⟨c1, HP⟩ := HP
  refine gl_ck ⟨(hM.2 8 (by decide)).2.1, in_of (hM.2 8 (by decide)).2.2 (by decide) c1⟩ ?_
  try rw [mrd 8 c1.1] at HP
  refine gl_ite (fun c2 => ?_) (fun c2 => ?_)
  · replace HP := ite_T c2 HP
    exact gl_end hM f HP
  · replace HP := ite_F c2 HP
    exact pl_X12_sum_74 (fun hm ff hp => ih hm ff hp) hM f HP

set_option maxRecDepth 20000 in
theorem pl_X12_sum_29 {t : Nat} {h0 : aH} {r : Int64} {e' : mE} : ∀ {n : Nat} {x1 : Int32} {x2 : Int64} {x4 : Int32} {h : aH}, MS t h → fr t h0 h → P_X12_sum_29  n x1 x2 x4 (menv t h) = some (r, e') → Gl t h0 (F_X12_sum_29  n t x1 x2 x4 h) r e' := by
  intro n
  induction n with
  | zero => intro x1 x2 x4 h hM f HP; cases HP
  | succ n ih =>
  intro x1 x2 x4 h hM f HP
  unfold P_X12_sum_29 at HP
  unfold F_X12_sum_29
  refine gl_ite (fun c1 => ?_) (fun c1 => ?_)
  · replace HP := ite_T c1 HP
    exact pl_X12_sum_60  hM f HP
  · replace HP := ite_F c1 HP
    refine gl_ck hM.1 ?_
    replace HP := bind_o HP
    obtain ⟨⟨z5, e4⟩, E2, HP⟩ := HP
    obtain ⟨h4, F3, rfl, hM4, gh4⟩ := pl_X12_nowOf (t := t) hM (fr.refl _ _) E2
    have f4 := f.trans gh4
    refine gl_o F3 (gl_bd (gl_bd ?_))
    replace HP := bd_o (bd_o HP)
    dsimp only at HP ⊢
    replace HP := bd_n HP
    obtain ⟨v7, Ev7, HP⟩ := HP
    refine gl_bdv Ev7 ?_
    replace HP := bd_n HP
    obtain ⟨v8, Ev8, HP⟩ := HP
    refine gl_bdv Ev8 ?_
    exact ih hM4 f4 HP

set_option maxRecDepth 20000 in
theorem pl_X12_sum {t : Nat} {h0 : aH} {r : Int64} {e' : mE} {x1 : Int32} {h : aH} (hM : MS t h) (f : fr t h0 h) (HP : P_X12_sum  x1 (menv t h) = some (r, e')) : Gl t h0 (F_X12_sum  t x1 h) r e' := by
  unfold P_X12_sum at HP
  unfold F_X12_sum
  replace HP := bd_n HP
  obtain ⟨e1, Eh1, HP⟩ := HP
  refine gl_sF 0 hM f (fun h1 hM1 f1 Kh1 => ?_)
  obtain rfl : menv t h1 = e1 := mtr Kh1 Eh1
  replace HP := bind_o HP
  obtain ⟨⟨z5, e4⟩, E1, HP⟩ := HP
  obtain ⟨h4, F2, rfl, hM4, gh4⟩ := pl_X12_isGame (t := t) hM1 (fr.refl _ _) E1
  have f4 := f1.trans gh4
  refine gl_o F2 (gl_bd (gl_bd ?_))
  replace HP := bd_o (bd_o HP)
  dsimp only at HP ⊢
  refine gl_ite (fun c3 => ?_) (fun c3 => ?_)
  · replace HP := ite_T c3 HP
    refine gl_ck hM4.1 ?_
    replace HP := bind_o HP
    obtain ⟨⟨z11, e10⟩, E4, HP⟩ := HP
    obtain ⟨h10, F5, rfl, hM10, gh10⟩ := pl_X12_fail (t := t) hM4 (fr.refl _ _) E4
    have f10 := f4.trans gh10
    refine gl_o F5 (gl_bd (gl_bd ?_))
    replace HP := bd_o (bd_o HP)
    dsimp only at HP ⊢
    exact gl_end hM10 f10 HP
  · replace HP := ite_F c3 HP
    refine gl_ck hM4.1 ?_
    replace HP := bind_o HP
    obtain ⟨e15, E6, HP⟩ := HP
    obtain ⟨h15, F7, rfl, hM15, gh15⟩ := pl_X12_play (t := t) hM4 (fr.refl _ _) E6
    have f15 := f4.trans gh15
    refine gl_o F7 ?_
    exact pl_X12_sum_29  hM15 f15 HP
