/-! The reference's turn as the same record -/
def reN (k : Nat) : Nat := ([52, 35, 36, 39, 48, 40, 43, 41, 44, 37, 42, 38, 51, 45, 46, 47] : List Nat).getD k 0
theorem reN_inj : ∀ j, j < 16 → ∀ k, k < 16 → reN j = reN k → j = k := by decide
theorem reN_ne : ∀ j, j < 16 → reN j ≠ 49 ∧ reN j ≠ 50 ∧ reN j < 53 := by decide
def reBat (t : Int32) (e : mE) : Int32 → Int32 → Int32 := fun k c => if gin 11 3 k c then (if c = 0 then e.2 53 (11 * t + k) else if c = 1 then e.2 54 (11 * t + k) else e.2 55 (11 * t + k)) else 0
def reBow (t : Int32) (e : mE) : Int32 → Int32 → Int32 := fun k c => if gin 11 3 k c then (if c = 0 then e.2 56 (11 * t + k) else if c = 1 then e.2 57 (11 * t + k) else e.2 58 (11 * t + k)) else 0
def reOv (rw : Int32 → Int32) (mn : Int32) (e : mE) : Int32 → Int32 → Int32 := fun o c => if gin 120 5 o c ∧ o < mn then (if c = 0 then e.2 59 (rw o) else if c = 1 then e.2 60 (rw o) else if c = 2 then e.2 61 (rw o) else if c = 3 then e.2 62 (rw o) else e.2 63 (rw o)) else 0
def reOf (t : Int32) (rw : Int32 → Int32) (mn : Int32) (e : mE) : Ty := (fun k => if k < 16 then e.2 (reN k) t else 0, fun j => if j = 0 then reBat t e else if j = 1 then reBow t e else if j = 2 then reOv rw mn e else fun _ _ => 0)
theorem reOf_bat (t : Int32) (rw : Int32 → Int32) (mn : Int32) (e : mE) : Ty.bat (reOf t rw mn e) = reBat t e := rfl
theorem reOf_bow (t : Int32) (rw : Int32 → Int32) (mn : Int32) (e : mE) : Ty.bow (reOf t rw mn e) = reBow t e := rfl
theorem reOf_ov (t : Int32) (rw : Int32 → Int32) (mn : Int32) (e : mE) : Ty.ov (reOf t rw mn e) = reOv rw mn e := rfl
/-- which places of the reference a turn owns -/
def ownT (t : Int32) (rw : Int32 → Int32) (mn : Int32) (k : Nat) (i : Int32) : Prop := (35 ≤ k ∧ k ≤ 52 ∧ i = t) ∨ (53 ≤ k ∧ k ≤ 58 ∧ ∃ j, 0 ≤ j ∧ j < 11 ∧ i = 11 * t + j) ∨ (59 ≤ k ∧ k ≤ 64 ∧ ∃ o, 0 ≤ o ∧ o < mn ∧ i = rw o)
def mfr (t : Int32) (rw : Int32 → Int32) (mn : Int32) (e0 e : mE) : Prop := ∀ k i, ¬ ownT t rw mn k i → e.2 k i = e0.2 k i
def RwOK (rw : Int32 → Int32) (mn : Int32) : Prop := (∀ o, 0 ≤ o → o < mn → 0 ≤ rw o ∧ rw o < 6000) ∧ ∀ o o', 0 ≤ o → o < mn → 0 ≤ o' → o' < mn → rw o = rw o' → o = o'
abbrev RSt (t : Int32) (rw : Int32 → Int32) (mn : Int32) (e0 e : mE) (T : Ty) (by' ro : Int32) (pl : Int32 → Int32) (x : Nat → Int32) : Prop := (0 ≤ t) ∧ (t < 4) ∧ (RwOK rw mn) ∧ (reOf t rw mn e = T) ∧ (e.2 49 t = by') ∧ (e.2 50 t = ro) ∧ (∀ o, 0 ≤ o → o < mn → e.2 64 (rw o) = pl o) ∧ (e.1 = x) ∧ (mfr t rw mn e0 e)
theorem RSt.t1 {t : Int32} {rw : Int32 → Int32} {mn : Int32} {e0 e : mE} {T : Ty} {by' ro : Int32} {pl : Int32 → Int32} {x : Nat → Int32} (s : RSt t rw mn e0 e T by' ro pl x) : 0 ≤ t := s.1
theorem RSt.t2 {t : Int32} {rw : Int32 → Int32} {mn : Int32} {e0 e : mE} {T : Ty} {by' ro : Int32} {pl : Int32 → Int32} {x : Nat → Int32} (s : RSt t rw mn e0 e T by' ro pl x) : t < 4 := s.2.1
theorem RSt.rk {t : Int32} {rw : Int32 → Int32} {mn : Int32} {e0 e : mE} {T : Ty} {by' ro : Int32} {pl : Int32 → Int32} {x : Nat → Int32} (s : RSt t rw mn e0 e T by' ro pl x) : RwOK rw mn := s.2.2.1
theorem RSt.re {t : Int32} {rw : Int32 → Int32} {mn : Int32} {e0 e : mE} {T : Ty} {by' ro : Int32} {pl : Int32 → Int32} {x : Nat → Int32} (s : RSt t rw mn e0 e T by' ro pl x) : reOf t rw mn e = T := s.2.2.2.1
theorem RSt.eb {t : Int32} {rw : Int32 → Int32} {mn : Int32} {e0 e : mE} {T : Ty} {by' ro : Int32} {pl : Int32 → Int32} {x : Nat → Int32} (s : RSt t rw mn e0 e T by' ro pl x) : e.2 49 t = by' := s.2.2.2.2.1
theorem RSt.er {t : Int32} {rw : Int32 → Int32} {mn : Int32} {e0 e : mE} {T : Ty} {by' ro : Int32} {pl : Int32 → Int32} {x : Nat → Int32} (s : RSt t rw mn e0 e T by' ro pl x) : e.2 50 t = ro := s.2.2.2.2.2.1
theorem RSt.ep {t : Int32} {rw : Int32 → Int32} {mn : Int32} {e0 e : mE} {T : Ty} {by' ro : Int32} {pl : Int32 → Int32} {x : Nat → Int32} (s : RSt t rw mn e0 e T by' ro pl x) : ∀ o, 0 ≤ o → o < mn → e.2 64 (rw o) = pl o := s.2.2.2.2.2.2.1
theorem RSt.ex {t : Int32} {rw : Int32 → Int32} {mn : Int32} {e0 e : mE} {T : Ty} {by' ro : Int32} {pl : Int32 → Int32} {x : Nat → Int32} (s : RSt t rw mn e0 e T by' ro pl x) : e.1 = x := s.2.2.2.2.2.2.2.1
theorem RSt.fr {t : Int32} {rw : Int32 → Int32} {mn : Int32} {e0 e : mE} {T : Ty} {by' ro : Int32} {pl : Int32 → Int32} {x : Nat → Int32} (s : RSt t rw mn e0 e T by' ro pl x) : mfr t rw mn e0 e := s.2.2.2.2.2.2.2.2
theorem reOf_A {t : Int32} {rw : Int32 → Int32} {mn : Int32} {e : mE} {k : Nat} {i v : Int32} {j : Nat} {g : Int32 → Int32 → Int32} (hk : 53 ≤ k) (h0 : reBat t (mA e k i v) = if 0 = j then g else reBat t e) (h1 : reBow t (mA e k i v) = if 1 = j then g else reBow t e) (h2 : reOv rw mn (mA e k i v) = if 2 = j then g else reOv rw mn e) (hj : j < 3) : reOf t rw mn (mA e k i v) = Ty.sG (reOf t rw mn e) j g := by
  refine Ty.ext2 (fun q => ?_) (fun q => ?_)
  · show (if q < 16 then (mA e k i v).2 (reN q) t else 0) = if q < 16 then e.2 (reN q) t else 0
    by_cases c : q < 16
    · rw [if_pos c, if_pos c]
      show (if reN q = k ∧ t = i then v else e.2 (reN q) t) = _
      have := (reN_ne q c).2.2
      rw [if_neg (fun z => by omega)]
    · rw [if_neg c, if_neg c]
  · rw [Ty.g2]
    show (if q = 0 then reBat t (mA e k i v) else if q = 1 then reBow t (mA e k i v) else if q = 2 then reOv rw mn (mA e k i v) else fun _ _ => 0) = if q = j then g else if q = 0 then reBat t e else if q = 1 then reBow t e else if q = 2 then reOv rw mn e else fun _ _ => 0
    rw [h0, h1, h2]
    rcases (show q = 0 ∨ q = 1 ∨ q = 2 ∨ 2 < q by omega) with c | c | c | c
    · subst c; simp
    · subst c; simp
    · subst c; simp
    · simp only [show ¬ q = 0 by omega, show ¬ q = 1 by omega, show ¬ q = 2 by omega, show ¬ q = j by omega, if_false]
theorem reOf_I {t : Int32} {rw : Int32 → Int32} {mn : Int32} {e : mE} {k : Nat} {v : Int32} (hk : k < 16) : reOf t rw mn (mA e (reN k) t v) = Ty.sI (reOf t rw mn e) k v := by
  have hr := (reN_ne k hk).2.2
  refine Ty.ext2 (fun q => ?_) (fun q => ?_)
  · rw [Ty.i1]
    show (if q < 16 then (if reN q = reN k ∧ t = t then v else e.2 (reN q) t) else 0) = if q = k then v else if q < 16 then e.2 (reN q) t else 0
    by_cases c : q = k
    · subst c
      rw [if_pos hk, if_pos ⟨rfl, rfl⟩, if_pos rfl]
    · rw [if_neg c]
      by_cases c2 : q < 16
      · rw [if_pos c2, if_pos c2, if_neg (fun z => c (reN_inj q c2 k hk z.1))]
      · rw [if_neg c2, if_neg c2]
  · rw [Ty.i2]
    show (if q = 0 then reBat t (mA e (reN k) t v) else if q = 1 then reBow t (mA e (reN k) t v) else if q = 2 then reOv rw mn (mA e (reN k) t v) else fun _ _ => 0) = if q = 0 then reBat t e else if q = 1 then reBow t e else if q = 2 then reOv rw mn e else fun _ _ => 0
    have n : ∀ (m : Nat), 53 ≤ m → ∀ i, (mA e (reN k) t v).2 m i = e.2 m i := fun m hm i => if_neg (fun z => by omega)
    have a0 : reBat t (mA e (reN k) t v) = reBat t e := by unfold reBat; simp only [n 53 (by decide), n 54 (by decide), n 55 (by decide)]
    have a1 : reBow t (mA e (reN k) t v) = reBow t e := by unfold reBow; simp only [n 56 (by decide), n 57 (by decide), n 58 (by decide)]
    have a2 : reOv rw mn (mA e (reN k) t v) = reOv rw mn e := by unfold reOv; simp only [n 59 (by decide), n 60 (by decide), n 61 (by decide), n 62 (by decide), n 63 (by decide)]
    rw [a0, a1, a2]
theorem reOf_N {t : Int32} {rw : Int32 → Int32} {mn : Int32} {e : mE} {k : Nat} {i v : Int32} (hk : k = 49 ∨ k = 50 ∨ k = 64) : reOf t rw mn (mA e k i v) = reOf t rw mn e := by
  refine Ty.ext2 (fun q => ?_) (fun q => ?_)
  · show (if q < 16 then (if reN q = k ∧ t = i then v else e.2 (reN q) t) else 0) = if q < 16 then e.2 (reN q) t else 0
    by_cases c : q < 16
    · have := reN_ne q c
      rw [if_pos c, if_pos c, if_neg (fun z => by omega)]
    · rw [if_neg c, if_neg c]
  · have n : ∀ (m : Nat), m ≠ 49 → m ≠ 50 → m ≠ 64 → ∀ i', (mA e k i v).2 m i' = e.2 m i' := fun m h1 h2 h3 i' => if_neg (fun z => by omega)
    have a0 : reBat t (mA e k i v) = reBat t e := by unfold reBat; simp only [n 53 (by decide) (by decide) (by decide), n 54 (by decide) (by decide) (by decide), n 55 (by decide) (by decide) (by decide)]
    have a1 : reBow t (mA e k i v) = reBow t e := by unfold reBow; simp only [n 56 (by decide) (by decide) (by decide), n 57 (by decide) (by decide) (by decide), n 58 (by decide) (by decide) (by decide)]
    have a2 : reOv rw mn (mA e k i v) = reOv rw mn e := by unfold reOv; simp only [n 59 (by decide) (by decide) (by decide), n 60 (by decide) (by decide) (by decide), n 61 (by decide) (by decide) (by decide), n 62 (by decide) (by decide) (by decide), n 63 (by decide) (by decide) (by decide)]
    show (if q = 0 then reBat t (mA e k i v) else if q = 1 then reBow t (mA e k i v) else if q = 2 then reOv rw mn (mA e k i v) else fun _ _ => 0) = if q = 0 then reBat t e else if q = 1 then reBow t e else if q = 2 then reOv rw mn e else fun _ _ => 0
    rw [a0, a1, a2]
def GR (t : Int32) (rw : Int32 → Int32) (mn : Int32) (e0 : mE) (X : Option mE) (T : Ty) (by' ro : Int32) (pl : Int32 → Int32) (x : Nat → Int32) : Prop := ∃ e', X = some e' ∧ RSt t rw mn e0 e' T by' ro pl x
theorem mA_rd (e : mE) (k : Nat) (i v : Int32) (j : Nat) (b : Int32) : (mA e k i v).2 j b = if j = k ∧ b = i then v else e.2 j b := rfl
theorem mfr_A {t : Int32} {rw : Int32 → Int32} {mn : Int32} {e0 e : mE} {k : Nat} {i v : Int32} (f : mfr t rw mn e0 e) (ho : ownT t rw mn k i) : mfr t rw mn e0 (mA e k i v) := by
  intro j b hb
  rw [mA_rd, if_neg (fun q => hb (by rw [q.1, q.2]; exact ho))]
  exact f j b hb
section RStep
variable {t : Int32} {rw : Int32 → Int32} {mn : Int32} {e0 e : mE} {T T' : Ty} {by' ro by2 ro2 : Int32} {pl pl2 : Int32 → Int32} {x x2 : Nat → Int32}

theorem RSt.played (s : RSt t rw mn e0 e T by' ro pl x) : e.2 52 t = T.played := by rw [← s.re]; rfl
theorem RSt.score (s : RSt t rw mn e0 e T by' ro pl x) : e.2 35 t = T.score := by rw [← s.re]; rfl
theorem RSt.outs (s : RSt t rw mn e0 e T by' ro pl x) : e.2 36 t = T.outs := by rw [← s.re]; rfl
theorem RSt.extras (s : RSt t rw mn e0 e T by' ro pl x) : e.2 39 t = T.extras := by rw [← s.re]; rfl
theorem RSt.nobodys (s : RSt t rw mn e0 e T by' ro pl x) : e.2 48 t = T.nobodys := by rw [← s.re]; rfl
theorem RSt.allowed (s : RSt t rw mn e0 e T by' ro pl x) : e.2 40 t = T.allowed := by rw [← s.re]; rfl
theorem RSt.means (s : RSt t rw mn e0 e T by' ro pl x) : e.2 43 t = T.means := by rw [← s.re]; rfl
theorem RSt.ended (s : RSt t rw mn e0 e T by' ro pl x) : e.2 41 t = T.ended := by rw [← s.re]; rfl
theorem RSt.begun (s : RSt t rw mn e0 e T by' ro pl x) : e.2 44 t = T.begun := by rw [← s.re]; rfl
theorem RSt.whole (s : RSt t rw mn e0 e T by' ro pl x) : e.2 37 t = T.whole := by rw [← s.re]; rfl
theorem RSt.opn (s : RSt t rw mn e0 e T by' ro pl x) : e.2 42 t = T.opn := by rw [← s.re]; rfl
theorem RSt.counted (s : RSt t rw mn e0 e T by' ro pl x) : e.2 38 t = T.counted := by rw [← s.re]; rfl
theorem RSt.bowler (s : RSt t rw mn e0 e T by' ro pl x) : e.2 51 t = T.bowler := by rw [← s.re]; rfl
theorem RSt.faces (s : RSt t rw mn e0 e T by' ro pl x) : e.2 45 t = T.faces := by rw [← s.re]; rfl
theorem RSt.other (s : RSt t rw mn e0 e T by' ro pl x) : e.2 46 t = T.other := by rw [← s.re]; rfl
theorem RSt.next (s : RSt t rw mn e0 e T by' ro pl x) : e.2 47 t = T.next := by rw [← s.re]; rfl
theorem rs_played (s : RSt t rw mn e0 e T by' ro pl x) (v : Int32) : RSt t rw mn e0 (mA e 52 t v) (T.sPlayed v) by' ro pl x := by
  refine ⟨s.t1, s.t2, s.rk, ?_, ?_, ?_, ?_, s.ex, mfr_A s.fr (Or.inl ⟨by decide, by decide, rfl⟩)⟩
  · rw [← s.re]; exact reOf_I (k := 0) (by decide)
  · rw [mA_rd, if_neg (fun q => by exact absurd q.1 (by decide))]; exact s.eb
  · rw [mA_rd, if_neg (fun q => by exact absurd q.1 (by decide))]; exact s.er
  · intro o h1 h2; rw [mA_rd, if_neg (fun q => by exact absurd q.1 (by decide))]; exact s.ep o h1 h2
theorem gr_played (s : RSt t rw mn e0 e T by' ro pl x) {v : Int32} {f : mE → Option mE} (kk : ∀ e1, RSt t rw mn e0 e1 (T.sPlayed v) by' ro pl x → GR t rw mn e0 (f e1) T' by2 ro2 pl2 x2) : GR t rw mn e0 (bd (mA e 52 t v) f) T' by2 ro2 pl2 x2 := kk _ (rs_played s v)
theorem rs_score (s : RSt t rw mn e0 e T by' ro pl x) (v : Int32) : RSt t rw mn e0 (mA e 35 t v) (T.sScore v) by' ro pl x := by
  refine ⟨s.t1, s.t2, s.rk, ?_, ?_, ?_, ?_, s.ex, mfr_A s.fr (Or.inl ⟨by decide, by decide, rfl⟩)⟩
  · rw [← s.re]; exact reOf_I (k := 1) (by decide)
  · rw [mA_rd, if_neg (fun q => by exact absurd q.1 (by decide))]; exact s.eb
  · rw [mA_rd, if_neg (fun q => by exact absurd q.1 (by decide))]; exact s.er
  · intro o h1 h2; rw [mA_rd, if_neg (fun q => by exact absurd q.1 (by decide))]; exact s.ep o h1 h2
theorem gr_score (s : RSt t rw mn e0 e T by' ro pl x) {v : Int32} {f : mE → Option mE} (kk : ∀ e1, RSt t rw mn e0 e1 (T.sScore v) by' ro pl x → GR t rw mn e0 (f e1) T' by2 ro2 pl2 x2) : GR t rw mn e0 (bd (mA e 35 t v) f) T' by2 ro2 pl2 x2 := kk _ (rs_score s v)
theorem rs_outs (s : RSt t rw mn e0 e T by' ro pl x) (v : Int32) : RSt t rw mn e0 (mA e 36 t v) (T.sOuts v) by' ro pl x := by
  refine ⟨s.t1, s.t2, s.rk, ?_, ?_, ?_, ?_, s.ex, mfr_A s.fr (Or.inl ⟨by decide, by decide, rfl⟩)⟩
  · rw [← s.re]; exact reOf_I (k := 2) (by decide)
  · rw [mA_rd, if_neg (fun q => by exact absurd q.1 (by decide))]; exact s.eb
  · rw [mA_rd, if_neg (fun q => by exact absurd q.1 (by decide))]; exact s.er
  · intro o h1 h2; rw [mA_rd, if_neg (fun q => by exact absurd q.1 (by decide))]; exact s.ep o h1 h2
theorem gr_outs (s : RSt t rw mn e0 e T by' ro pl x) {v : Int32} {f : mE → Option mE} (kk : ∀ e1, RSt t rw mn e0 e1 (T.sOuts v) by' ro pl x → GR t rw mn e0 (f e1) T' by2 ro2 pl2 x2) : GR t rw mn e0 (bd (mA e 36 t v) f) T' by2 ro2 pl2 x2 := kk _ (rs_outs s v)
theorem rs_extras (s : RSt t rw mn e0 e T by' ro pl x) (v : Int32) : RSt t rw mn e0 (mA e 39 t v) (T.sExtras v) by' ro pl x := by
  refine ⟨s.t1, s.t2, s.rk, ?_, ?_, ?_, ?_, s.ex, mfr_A s.fr (Or.inl ⟨by decide, by decide, rfl⟩)⟩
  · rw [← s.re]; exact reOf_I (k := 3) (by decide)
  · rw [mA_rd, if_neg (fun q => by exact absurd q.1 (by decide))]; exact s.eb
  · rw [mA_rd, if_neg (fun q => by exact absurd q.1 (by decide))]; exact s.er
  · intro o h1 h2; rw [mA_rd, if_neg (fun q => by exact absurd q.1 (by decide))]; exact s.ep o h1 h2
theorem gr_extras (s : RSt t rw mn e0 e T by' ro pl x) {v : Int32} {f : mE → Option mE} (kk : ∀ e1, RSt t rw mn e0 e1 (T.sExtras v) by' ro pl x → GR t rw mn e0 (f e1) T' by2 ro2 pl2 x2) : GR t rw mn e0 (bd (mA e 39 t v) f) T' by2 ro2 pl2 x2 := kk _ (rs_extras s v)
theorem rs_nobodys (s : RSt t rw mn e0 e T by' ro pl x) (v : Int32) : RSt t rw mn e0 (mA e 48 t v) (T.sNobodys v) by' ro pl x := by
  refine ⟨s.t1, s.t2, s.rk, ?_, ?_, ?_, ?_, s.ex, mfr_A s.fr (Or.inl ⟨by decide, by decide, rfl⟩)⟩
  · rw [← s.re]; exact reOf_I (k := 4) (by decide)
  · rw [mA_rd, if_neg (fun q => by exact absurd q.1 (by decide))]; exact s.eb
  · rw [mA_rd, if_neg (fun q => by exact absurd q.1 (by decide))]; exact s.er
  · intro o h1 h2; rw [mA_rd, if_neg (fun q => by exact absurd q.1 (by decide))]; exact s.ep o h1 h2
theorem gr_nobodys (s : RSt t rw mn e0 e T by' ro pl x) {v : Int32} {f : mE → Option mE} (kk : ∀ e1, RSt t rw mn e0 e1 (T.sNobodys v) by' ro pl x → GR t rw mn e0 (f e1) T' by2 ro2 pl2 x2) : GR t rw mn e0 (bd (mA e 48 t v) f) T' by2 ro2 pl2 x2 := kk _ (rs_nobodys s v)
theorem rs_allowed (s : RSt t rw mn e0 e T by' ro pl x) (v : Int32) : RSt t rw mn e0 (mA e 40 t v) (T.sAllowed v) by' ro pl x := by
  refine ⟨s.t1, s.t2, s.rk, ?_, ?_, ?_, ?_, s.ex, mfr_A s.fr (Or.inl ⟨by decide, by decide, rfl⟩)⟩
  · rw [← s.re]; exact reOf_I (k := 5) (by decide)
  · rw [mA_rd, if_neg (fun q => by exact absurd q.1 (by decide))]; exact s.eb
  · rw [mA_rd, if_neg (fun q => by exact absurd q.1 (by decide))]; exact s.er
  · intro o h1 h2; rw [mA_rd, if_neg (fun q => by exact absurd q.1 (by decide))]; exact s.ep o h1 h2
theorem gr_allowed (s : RSt t rw mn e0 e T by' ro pl x) {v : Int32} {f : mE → Option mE} (kk : ∀ e1, RSt t rw mn e0 e1 (T.sAllowed v) by' ro pl x → GR t rw mn e0 (f e1) T' by2 ro2 pl2 x2) : GR t rw mn e0 (bd (mA e 40 t v) f) T' by2 ro2 pl2 x2 := kk _ (rs_allowed s v)
theorem rs_means (s : RSt t rw mn e0 e T by' ro pl x) (v : Int32) : RSt t rw mn e0 (mA e 43 t v) (T.sMeans v) by' ro pl x := by
  refine ⟨s.t1, s.t2, s.rk, ?_, ?_, ?_, ?_, s.ex, mfr_A s.fr (Or.inl ⟨by decide, by decide, rfl⟩)⟩
  · rw [← s.re]; exact reOf_I (k := 6) (by decide)
  · rw [mA_rd, if_neg (fun q => by exact absurd q.1 (by decide))]; exact s.eb
  · rw [mA_rd, if_neg (fun q => by exact absurd q.1 (by decide))]; exact s.er
  · intro o h1 h2; rw [mA_rd, if_neg (fun q => by exact absurd q.1 (by decide))]; exact s.ep o h1 h2
theorem gr_means (s : RSt t rw mn e0 e T by' ro pl x) {v : Int32} {f : mE → Option mE} (kk : ∀ e1, RSt t rw mn e0 e1 (T.sMeans v) by' ro pl x → GR t rw mn e0 (f e1) T' by2 ro2 pl2 x2) : GR t rw mn e0 (bd (mA e 43 t v) f) T' by2 ro2 pl2 x2 := kk _ (rs_means s v)
theorem rs_ended (s : RSt t rw mn e0 e T by' ro pl x) (v : Int32) : RSt t rw mn e0 (mA e 41 t v) (T.sEnded v) by' ro pl x := by
  refine ⟨s.t1, s.t2, s.rk, ?_, ?_, ?_, ?_, s.ex, mfr_A s.fr (Or.inl ⟨by decide, by decide, rfl⟩)⟩
  · rw [← s.re]; exact reOf_I (k := 7) (by decide)
  · rw [mA_rd, if_neg (fun q => by exact absurd q.1 (by decide))]; exact s.eb
  · rw [mA_rd, if_neg (fun q => by exact absurd q.1 (by decide))]; exact s.er
  · intro o h1 h2; rw [mA_rd, if_neg (fun q => by exact absurd q.1 (by decide))]; exact s.ep o h1 h2
theorem gr_ended (s : RSt t rw mn e0 e T by' ro pl x) {v : Int32} {f : mE → Option mE} (kk : ∀ e1, RSt t rw mn e0 e1 (T.sEnded v) by' ro pl x → GR t rw mn e0 (f e1) T' by2 ro2 pl2 x2) : GR t rw mn e0 (bd (mA e 41 t v) f) T' by2 ro2 pl2 x2 := kk _ (rs_ended s v)
theorem rs_begun (s : RSt t rw mn e0 e T by' ro pl x) (v : Int32) : RSt t rw mn e0 (mA e 44 t v) (T.sBegun v) by' ro pl x := by
  refine ⟨s.t1, s.t2, s.rk, ?_, ?_, ?_, ?_, s.ex, mfr_A s.fr (Or.inl ⟨by decide, by decide, rfl⟩)⟩
  · rw [← s.re]; exact reOf_I (k := 8) (by decide)
  · rw [mA_rd, if_neg (fun q => by exact absurd q.1 (by decide))]; exact s.eb
  · rw [mA_rd, if_neg (fun q => by exact absurd q.1 (by decide))]; exact s.er
  · intro o h1 h2; rw [mA_rd, if_neg (fun q => by exact absurd q.1 (by decide))]; exact s.ep o h1 h2
theorem gr_begun (s : RSt t rw mn e0 e T by' ro pl x) {v : Int32} {f : mE → Option mE} (kk : ∀ e1, RSt t rw mn e0 e1 (T.sBegun v) by' ro pl x → GR t rw mn e0 (f e1) T' by2 ro2 pl2 x2) : GR t rw mn e0 (bd (mA e 44 t v) f) T' by2 ro2 pl2 x2 := kk _ (rs_begun s v)
theorem rs_whole (s : RSt t rw mn e0 e T by' ro pl x) (v : Int32) : RSt t rw mn e0 (mA e 37 t v) (T.sWhole v) by' ro pl x := by
  refine ⟨s.t1, s.t2, s.rk, ?_, ?_, ?_, ?_, s.ex, mfr_A s.fr (Or.inl ⟨by decide, by decide, rfl⟩)⟩
  · rw [← s.re]; exact reOf_I (k := 9) (by decide)
  · rw [mA_rd, if_neg (fun q => by exact absurd q.1 (by decide))]; exact s.eb
  · rw [mA_rd, if_neg (fun q => by exact absurd q.1 (by decide))]; exact s.er
  · intro o h1 h2; rw [mA_rd, if_neg (fun q => by exact absurd q.1 (by decide))]; exact s.ep o h1 h2
theorem gr_whole (s : RSt t rw mn e0 e T by' ro pl x) {v : Int32} {f : mE → Option mE} (kk : ∀ e1, RSt t rw mn e0 e1 (T.sWhole v) by' ro pl x → GR t rw mn e0 (f e1) T' by2 ro2 pl2 x2) : GR t rw mn e0 (bd (mA e 37 t v) f) T' by2 ro2 pl2 x2 := kk _ (rs_whole s v)
theorem rs_opn (s : RSt t rw mn e0 e T by' ro pl x) (v : Int32) : RSt t rw mn e0 (mA e 42 t v) (T.sOpn v) by' ro pl x := by
  refine ⟨s.t1, s.t2, s.rk, ?_, ?_, ?_, ?_, s.ex, mfr_A s.fr (Or.inl ⟨by decide, by decide, rfl⟩)⟩
  · rw [← s.re]; exact reOf_I (k := 10) (by decide)
  · rw [mA_rd, if_neg (fun q => by exact absurd q.1 (by decide))]; exact s.eb
  · rw [mA_rd, if_neg (fun q => by exact absurd q.1 (by decide))]; exact s.er
  · intro o h1 h2; rw [mA_rd, if_neg (fun q => by exact absurd q.1 (by decide))]; exact s.ep o h1 h2
theorem gr_opn (s : RSt t rw mn e0 e T by' ro pl x) {v : Int32} {f : mE → Option mE} (kk : ∀ e1, RSt t rw mn e0 e1 (T.sOpn v) by' ro pl x → GR t rw mn e0 (f e1) T' by2 ro2 pl2 x2) : GR t rw mn e0 (bd (mA e 42 t v) f) T' by2 ro2 pl2 x2 := kk _ (rs_opn s v)
theorem rs_counted (s : RSt t rw mn e0 e T by' ro pl x) (v : Int32) : RSt t rw mn e0 (mA e 38 t v) (T.sCounted v) by' ro pl x := by
  refine ⟨s.t1, s.t2, s.rk, ?_, ?_, ?_, ?_, s.ex, mfr_A s.fr (Or.inl ⟨by decide, by decide, rfl⟩)⟩
  · rw [← s.re]; exact reOf_I (k := 11) (by decide)
  · rw [mA_rd, if_neg (fun q => by exact absurd q.1 (by decide))]; exact s.eb
  · rw [mA_rd, if_neg (fun q => by exact absurd q.1 (by decide))]; exact s.er
  · intro o h1 h2; rw [mA_rd, if_neg (fun q => by exact absurd q.1 (by decide))]; exact s.ep o h1 h2
theorem gr_counted (s : RSt t rw mn e0 e T by' ro pl x) {v : Int32} {f : mE → Option mE} (kk : ∀ e1, RSt t rw mn e0 e1 (T.sCounted v) by' ro pl x → GR t rw mn e0 (f e1) T' by2 ro2 pl2 x2) : GR t rw mn e0 (bd (mA e 38 t v) f) T' by2 ro2 pl2 x2 := kk _ (rs_counted s v)
theorem rs_bowler (s : RSt t rw mn e0 e T by' ro pl x) (v : Int32) : RSt t rw mn e0 (mA e 51 t v) (T.sBowler v) by' ro pl x := by
  refine ⟨s.t1, s.t2, s.rk, ?_, ?_, ?_, ?_, s.ex, mfr_A s.fr (Or.inl ⟨by decide, by decide, rfl⟩)⟩
  · rw [← s.re]; exact reOf_I (k := 12) (by decide)
  · rw [mA_rd, if_neg (fun q => by exact absurd q.1 (by decide))]; exact s.eb
  · rw [mA_rd, if_neg (fun q => by exact absurd q.1 (by decide))]; exact s.er
  · intro o h1 h2; rw [mA_rd, if_neg (fun q => by exact absurd q.1 (by decide))]; exact s.ep o h1 h2
theorem gr_bowler (s : RSt t rw mn e0 e T by' ro pl x) {v : Int32} {f : mE → Option mE} (kk : ∀ e1, RSt t rw mn e0 e1 (T.sBowler v) by' ro pl x → GR t rw mn e0 (f e1) T' by2 ro2 pl2 x2) : GR t rw mn e0 (bd (mA e 51 t v) f) T' by2 ro2 pl2 x2 := kk _ (rs_bowler s v)
theorem rs_faces (s : RSt t rw mn e0 e T by' ro pl x) (v : Int32) : RSt t rw mn e0 (mA e 45 t v) (T.sFaces v) by' ro pl x := by
  refine ⟨s.t1, s.t2, s.rk, ?_, ?_, ?_, ?_, s.ex, mfr_A s.fr (Or.inl ⟨by decide, by decide, rfl⟩)⟩
  · rw [← s.re]; exact reOf_I (k := 13) (by decide)
  · rw [mA_rd, if_neg (fun q => by exact absurd q.1 (by decide))]; exact s.eb
  · rw [mA_rd, if_neg (fun q => by exact absurd q.1 (by decide))]; exact s.er
  · intro o h1 h2; rw [mA_rd, if_neg (fun q => by exact absurd q.1 (by decide))]; exact s.ep o h1 h2
theorem gr_faces (s : RSt t rw mn e0 e T by' ro pl x) {v : Int32} {f : mE → Option mE} (kk : ∀ e1, RSt t rw mn e0 e1 (T.sFaces v) by' ro pl x → GR t rw mn e0 (f e1) T' by2 ro2 pl2 x2) : GR t rw mn e0 (bd (mA e 45 t v) f) T' by2 ro2 pl2 x2 := kk _ (rs_faces s v)
theorem rs_other (s : RSt t rw mn e0 e T by' ro pl x) (v : Int32) : RSt t rw mn e0 (mA e 46 t v) (T.sOther v) by' ro pl x := by
  refine ⟨s.t1, s.t2, s.rk, ?_, ?_, ?_, ?_, s.ex, mfr_A s.fr (Or.inl ⟨by decide, by decide, rfl⟩)⟩
  · rw [← s.re]; exact reOf_I (k := 14) (by decide)
  · rw [mA_rd, if_neg (fun q => by exact absurd q.1 (by decide))]; exact s.eb
  · rw [mA_rd, if_neg (fun q => by exact absurd q.1 (by decide))]; exact s.er
  · intro o h1 h2; rw [mA_rd, if_neg (fun q => by exact absurd q.1 (by decide))]; exact s.ep o h1 h2
theorem gr_other (s : RSt t rw mn e0 e T by' ro pl x) {v : Int32} {f : mE → Option mE} (kk : ∀ e1, RSt t rw mn e0 e1 (T.sOther v) by' ro pl x → GR t rw mn e0 (f e1) T' by2 ro2 pl2 x2) : GR t rw mn e0 (bd (mA e 46 t v) f) T' by2 ro2 pl2 x2 := kk _ (rs_other s v)
theorem rs_next (s : RSt t rw mn e0 e T by' ro pl x) (v : Int32) : RSt t rw mn e0 (mA e 47 t v) (T.sNext v) by' ro pl x := by
  refine ⟨s.t1, s.t2, s.rk, ?_, ?_, ?_, ?_, s.ex, mfr_A s.fr (Or.inl ⟨by decide, by decide, rfl⟩)⟩
  · rw [← s.re]; exact reOf_I (k := 15) (by decide)
  · rw [mA_rd, if_neg (fun q => by exact absurd q.1 (by decide))]; exact s.eb
  · rw [mA_rd, if_neg (fun q => by exact absurd q.1 (by decide))]; exact s.er
  · intro o h1 h2; rw [mA_rd, if_neg (fun q => by exact absurd q.1 (by decide))]; exact s.ep o h1 h2
theorem gr_next (s : RSt t rw mn e0 e T by' ro pl x) {v : Int32} {f : mE → Option mE} (kk : ∀ e1, RSt t rw mn e0 e1 (T.sNext v) by' ro pl x → GR t rw mn e0 (f e1) T' by2 ro2 pl2 x2) : GR t rw mn e0 (bd (mA e 47 t v) f) T' by2 ro2 pl2 x2 := kk _ (rs_next s v)
theorem gr_by (s : RSt t rw mn e0 e T by' ro pl x) {v : Int32} {f : mE → Option mE} (kk : ∀ e1, RSt t rw mn e0 e1 T v ro pl x → GR t rw mn e0 (f e1) T' by2 ro2 pl2 x2) : GR t rw mn e0 (bd (mA e 49 t v) f) T' by2 ro2 pl2 x2 := by
  refine kk _ ⟨s.t1, s.t2, s.rk, ?_, ?_, ?_, ?_, s.ex, mfr_A s.fr (Or.inl ⟨by decide, by decide, rfl⟩)⟩
  · rw [← s.re]; exact reOf_N (by decide)
  · rw [mA_rd, if_pos ⟨rfl, rfl⟩]
  · rw [mA_rd, if_neg (fun q => by exact absurd q.1 (by decide))]; exact s.er
  · intro o h1 h2; rw [mA_rd, if_neg (fun q => by exact absurd q.1 (by decide))]; exact s.ep o h1 h2
theorem gr_ro (s : RSt t rw mn e0 e T by' ro pl x) {v : Int32} {f : mE → Option mE} (kk : ∀ e1, RSt t rw mn e0 e1 T by' v pl x → GR t rw mn e0 (f e1) T' by2 ro2 pl2 x2) : GR t rw mn e0 (bd (mA e 50 t v) f) T' by2 ro2 pl2 x2 := by
  refine kk _ ⟨s.t1, s.t2, s.rk, ?_, ?_, ?_, ?_, s.ex, mfr_A s.fr (Or.inl ⟨by decide, by decide, rfl⟩)⟩
  · rw [← s.re]; exact reOf_N (by decide)
  · rw [mA_rd, if_neg (fun q => by exact absurd q.1 (by decide))]; exact s.eb
  · rw [mA_rd, if_pos ⟨rfl, rfl⟩]
  · intro o h1 h2; rw [mA_rd, if_neg (fun q => by exact absurd q.1 (by decide))]; exact s.ep o h1 h2
theorem gr_mS (s : RSt t rw mn e0 e T by' ro pl x) {k : Nat} {v : Int32} {f : mE → Option mE} (kk : ∀ e1, RSt t rw mn e0 e1 T by' ro pl (fun j => if j = k then v else x j) → GR t rw mn e0 (f e1) T' by2 ro2 pl2 x2) : GR t rw mn e0 (bd (mS e k v) f) T' by2 ro2 pl2 x2 := by
  refine kk _ ⟨s.t1, s.t2, s.rk, ?_, s.eb, s.er, s.ep, ?_, s.fr⟩
  · exact s.re
  · funext j; show (if j = k then v else e.1 j) = _; rw [s.ex]
theorem gr_pl (s : RSt t rw mn e0 e T by' ro pl x) {o v : Int32} (h1 : 0 ≤ o) (h2 : o < mn) {f : mE → Option mE} (kk : ∀ e1, RSt t rw mn e0 e1 T by' ro (fun j => if j = o then v else pl j) x → GR t rw mn e0 (f e1) T' by2 ro2 pl2 x2) : GR t rw mn e0 (bd (mA e 64 (rw o) v) f) T' by2 ro2 pl2 x2 := by
  refine kk _ ⟨s.t1, s.t2, s.rk, ?_, ?_, ?_, ?_, s.ex, mfr_A s.fr (Or.inr (Or.inr ⟨by decide, by decide, o, h1, h2, rfl⟩))⟩
  · rw [← s.re]; exact reOf_N (by decide)
  · rw [mA_rd, if_neg (fun q => by exact absurd q.1 (by decide))]; exact s.eb
  · rw [mA_rd, if_neg (fun q => by exact absurd q.1 (by decide))]; exact s.er
  · intro o' h3 h4
    rw [mA_rd]
    show _ = if o' = o then v else pl o'
    by_cases c : o' = o
    · rw [if_pos ⟨rfl, by rw [c]⟩, if_pos c]
    · rw [if_neg (fun q => c (s.rk.2 o' o h3 h4 h1 h2 q.2)), if_neg c]; exact s.ep o' h3 h4
theorem RSt.bat0 (s : RSt t rw mn e0 e T by' ro pl x) {k : Int32} (h1 : 0 ≤ k) (h2 : k < 11) : e.2 53 (11 * t + k) = T.bat k 0 := by
  rw [← s.re]
  have hg : gin 11 3 k 0 := ⟨h1, h2, by decide, by decide⟩
  rw [reOf_bat]
  unfold reBat
  rw [if_pos hg]
  first | rfl | (rw [if_neg (by decide)]; rfl) | simp
theorem gr_bat0 (s : RSt t rw mn e0 e T by' ro pl x) {k v : Int32} (h1 : 0 ≤ k) (h2 : k < 11) {g : Int32 → Int32 → Int32} (hg : T.bat = g) {f : mE → Option mE} (kk : ∀ e1, RSt t rw mn e0 e1 (T.sBat (gS 11 3 g k 0 v)) by' ro pl x → GR t rw mn e0 (f e1) T' by2 ro2 pl2 x2) : GR t rw mn e0 (bd (mA e 53 (11 * t + k) v) f) T' by2 ro2 pl2 x2 := by
  refine kk _ ⟨s.t1, s.t2, s.rk, ?_, ?_, ?_, ?_, s.ex, mfr_A s.fr (Or.inr (Or.inl ⟨by decide, by decide, k, h1, h2, rfl⟩))⟩
  · subst hg
    rw [← s.re]
    have hk : gin 11 3 k 0 := ⟨h1, h2, by decide, by decide⟩
    have other : ∀ (m : Nat), m ≠ 53 → ∀ i', (mA e 53 (11 * t + k) v).2 m i' = e.2 m i' := fun m hm i' => if_neg (fun z => hm z.1)
    refine reOf_A (j := 0) (by decide) ?_ (by unfold reBow; simp [mA_rd]) (by unfold reOv; simp [mA_rd]) (by decide)
    rw [if_pos rfl, reOf_bat]
    funext k' c'
    unfold gS reBat
    simp only [mA_rd]
    have z : (gin 11 3 k 0 ∧ k' = k ∧ c' = 0) ↔ (k' = k ∧ c' = 0) := ⟨And.right, And.intro hk⟩
    simp only [z]
    by_cases hq : gin 11 3 k' c'
    · simp only [if_pos hq]
      obtain ⟨q1, q2, q3, q4⟩ := hq
      have : c' = 0 ∨ c' = 1 ∨ c' = 2 := by grind
      by_cases e1 : k' = k
      · subst e1
        rcases this with r | r | r <;> subst r <;> simp
      · have hn : ¬ 11 * t + k' = 11 * t + k := by grind
        rcases this with r | r | r <;> subst r <;> simp [e1, hn]
    · have hn : ¬ (k' = k ∧ c' = 0) := fun z => hq (by rw [z.1, z.2]; exact hk)
      simp only [if_neg hq, if_neg hn]
  · rw [mA_rd, if_neg (fun q => by exact absurd q.1 (by decide))]; exact s.eb
  · rw [mA_rd, if_neg (fun q => by exact absurd q.1 (by decide))]; exact s.er
  · intro o h1 h2; rw [mA_rd, if_neg (fun q => by exact absurd q.1 (by decide))]; exact s.ep o h1 h2
theorem RSt.bat1 (s : RSt t rw mn e0 e T by' ro pl x) {k : Int32} (h1 : 0 ≤ k) (h2 : k < 11) : e.2 54 (11 * t + k) = T.bat k 1 := by
  rw [← s.re]
  have hg : gin 11 3 k 1 := ⟨h1, h2, by decide, by decide⟩
  rw [reOf_bat]
  unfold reBat
  rw [if_pos hg]
  first | rfl | (rw [if_neg (by decide)]; rfl) | simp
theorem gr_bat1 (s : RSt t rw mn e0 e T by' ro pl x) {k v : Int32} (h1 : 0 ≤ k) (h2 : k < 11) {g : Int32 → Int32 → Int32} (hg : T.bat = g) {f : mE → Option mE} (kk : ∀ e1, RSt t rw mn e0 e1 (T.sBat (gS 11 3 g k 1 v)) by' ro pl x → GR t rw mn e0 (f e1) T' by2 ro2 pl2 x2) : GR t rw mn e0 (bd (mA e 54 (11 * t + k) v) f) T' by2 ro2 pl2 x2 := by
  refine kk _ ⟨s.t1, s.t2, s.rk, ?_, ?_, ?_, ?_, s.ex, mfr_A s.fr (Or.inr (Or.inl ⟨by decide, by decide, k, h1, h2, rfl⟩))⟩
  · subst hg
    rw [← s.re]
    have hk : gin 11 3 k 1 := ⟨h1, h2, by decide, by decide⟩
    have other : ∀ (m : Nat), m ≠ 54 → ∀ i', (mA e 54 (11 * t + k) v).2 m i' = e.2 m i' := fun m hm i' => if_neg (fun z => hm z.1)
    refine reOf_A (j := 0) (by decide) ?_ (by unfold reBow; simp [mA_rd]) (by unfold reOv; simp [mA_rd]) (by decide)
    rw [if_pos rfl, reOf_bat]
    funext k' c'
    unfold gS reBat
    simp only [mA_rd]
    have z : (gin 11 3 k 1 ∧ k' = k ∧ c' = 1) ↔ (k' = k ∧ c' = 1) := ⟨And.right, And.intro hk⟩
    simp only [z]
    by_cases hq : gin 11 3 k' c'
    · simp only [if_pos hq]
      obtain ⟨q1, q2, q3, q4⟩ := hq
      have : c' = 0 ∨ c' = 1 ∨ c' = 2 := by grind
      by_cases e1 : k' = k
      · subst e1
        rcases this with r | r | r <;> subst r <;> simp
      · have hn : ¬ 11 * t + k' = 11 * t + k := by grind
        rcases this with r | r | r <;> subst r <;> simp [e1, hn]
    · have hn : ¬ (k' = k ∧ c' = 1) := fun z => hq (by rw [z.1, z.2]; exact hk)
      simp only [if_neg hq, if_neg hn]
  · rw [mA_rd, if_neg (fun q => by exact absurd q.1 (by decide))]; exact s.eb
  · rw [mA_rd, if_neg (fun q => by exact absurd q.1 (by decide))]; exact s.er
  · intro o h1 h2; rw [mA_rd, if_neg (fun q => by exact absurd q.1 (by decide))]; exact s.ep o h1 h2
theorem RSt.bat2 (s : RSt t rw mn e0 e T by' ro pl x) {k : Int32} (h1 : 0 ≤ k) (h2 : k < 11) : e.2 55 (11 * t + k) = T.bat k 2 := by
  rw [← s.re]
  have hg : gin 11 3 k 2 := ⟨h1, h2, by decide, by decide⟩
  rw [reOf_bat]
  unfold reBat
  rw [if_pos hg]
  first | rfl | (rw [if_neg (by decide)]; rfl) | simp
theorem gr_bat2 (s : RSt t rw mn e0 e T by' ro pl x) {k v : Int32} (h1 : 0 ≤ k) (h2 : k < 11) {g : Int32 → Int32 → Int32} (hg : T.bat = g) {f : mE → Option mE} (kk : ∀ e1, RSt t rw mn e0 e1 (T.sBat (gS 11 3 g k 2 v)) by' ro pl x → GR t rw mn e0 (f e1) T' by2 ro2 pl2 x2) : GR t rw mn e0 (bd (mA e 55 (11 * t + k) v) f) T' by2 ro2 pl2 x2 := by
  refine kk _ ⟨s.t1, s.t2, s.rk, ?_, ?_, ?_, ?_, s.ex, mfr_A s.fr (Or.inr (Or.inl ⟨by decide, by decide, k, h1, h2, rfl⟩))⟩
  · subst hg
    rw [← s.re]
    have hk : gin 11 3 k 2 := ⟨h1, h2, by decide, by decide⟩
    have other : ∀ (m : Nat), m ≠ 55 → ∀ i', (mA e 55 (11 * t + k) v).2 m i' = e.2 m i' := fun m hm i' => if_neg (fun z => hm z.1)
    refine reOf_A (j := 0) (by decide) ?_ (by unfold reBow; simp [mA_rd]) (by unfold reOv; simp [mA_rd]) (by decide)
    rw [if_pos rfl, reOf_bat]
    funext k' c'
    unfold gS reBat
    simp only [mA_rd]
    have z : (gin 11 3 k 2 ∧ k' = k ∧ c' = 2) ↔ (k' = k ∧ c' = 2) := ⟨And.right, And.intro hk⟩
    simp only [z]
    by_cases hq : gin 11 3 k' c'
    · simp only [if_pos hq]
      obtain ⟨q1, q2, q3, q4⟩ := hq
      have : c' = 0 ∨ c' = 1 ∨ c' = 2 := by grind
      by_cases e1 : k' = k
      · subst e1
        rcases this with r | r | r <;> subst r <;> simp
      · have hn : ¬ 11 * t + k' = 11 * t + k := by grind
        rcases this with r | r | r <;> subst r <;> simp [e1, hn]
    · have hn : ¬ (k' = k ∧ c' = 2) := fun z => hq (by rw [z.1, z.2]; exact hk)
      simp only [if_neg hq, if_neg hn]
  · rw [mA_rd, if_neg (fun q => by exact absurd q.1 (by decide))]; exact s.eb
  · rw [mA_rd, if_neg (fun q => by exact absurd q.1 (by decide))]; exact s.er
  · intro o h1 h2; rw [mA_rd, if_neg (fun q => by exact absurd q.1 (by decide))]; exact s.ep o h1 h2
theorem RSt.bow0 (s : RSt t rw mn e0 e T by' ro pl x) {k : Int32} (h1 : 0 ≤ k) (h2 : k < 11) : e.2 56 (11 * t + k) = T.bow k 0 := by
  rw [← s.re]
  have hg : gin 11 3 k 0 := ⟨h1, h2, by decide, by decide⟩
  rw [reOf_bow]
  unfold reBow
  rw [if_pos hg]
  first | rfl | (rw [if_neg (by decide)]; rfl) | simp
theorem gr_bow0 (s : RSt t rw mn e0 e T by' ro pl x) {k v : Int32} (h1 : 0 ≤ k) (h2 : k < 11) {g : Int32 → Int32 → Int32} (hg : T.bow = g) {f : mE → Option mE} (kk : ∀ e1, RSt t rw mn e0 e1 (T.sBow (gS 11 3 g k 0 v)) by' ro pl x → GR t rw mn e0 (f e1) T' by2 ro2 pl2 x2) : GR t rw mn e0 (bd (mA e 56 (11 * t + k) v) f) T' by2 ro2 pl2 x2 := by
  refine kk _ ⟨s.t1, s.t2, s.rk, ?_, ?_, ?_, ?_, s.ex, mfr_A s.fr (Or.inr (Or.inl ⟨by decide, by decide, k, h1, h2, rfl⟩))⟩
  · subst hg
    rw [← s.re]
    have hk : gin 11 3 k 0 := ⟨h1, h2, by decide, by decide⟩
    have other : ∀ (m : Nat), m ≠ 56 → ∀ i', (mA e 56 (11 * t + k) v).2 m i' = e.2 m i' := fun m hm i' => if_neg (fun z => hm z.1)
    refine reOf_A (j := 1) (by decide) (by unfold reBat; simp [mA_rd]) ?_ (by unfold reOv; simp [mA_rd]) (by decide)
    rw [if_pos rfl, reOf_bow]
    funext k' c'
    unfold gS reBow
    simp only [mA_rd]
    have z : (gin 11 3 k 0 ∧ k' = k ∧ c' = 0) ↔ (k' = k ∧ c' = 0) := ⟨And.right, And.intro hk⟩
    simp only [z]
    by_cases hq : gin 11 3 k' c'
    · simp only [if_pos hq]
      obtain ⟨q1, q2, q3, q4⟩ := hq
      have : c' = 0 ∨ c' = 1 ∨ c' = 2 := by grind
      by_cases e1 : k' = k
      · subst e1
        rcases this with r | r | r <;> subst r <;> simp
      · have hn : ¬ 11 * t + k' = 11 * t + k := by grind
        rcases this with r | r | r <;> subst r <;> simp [e1, hn]
    · have hn : ¬ (k' = k ∧ c' = 0) := fun z => hq (by rw [z.1, z.2]; exact hk)
      simp only [if_neg hq, if_neg hn]
  · rw [mA_rd, if_neg (fun q => by exact absurd q.1 (by decide))]; exact s.eb
  · rw [mA_rd, if_neg (fun q => by exact absurd q.1 (by decide))]; exact s.er
  · intro o h1 h2; rw [mA_rd, if_neg (fun q => by exact absurd q.1 (by decide))]; exact s.ep o h1 h2
theorem RSt.bow1 (s : RSt t rw mn e0 e T by' ro pl x) {k : Int32} (h1 : 0 ≤ k) (h2 : k < 11) : e.2 57 (11 * t + k) = T.bow k 1 := by
  rw [← s.re]
  have hg : gin 11 3 k 1 := ⟨h1, h2, by decide, by decide⟩
  rw [reOf_bow]
  unfold reBow
  rw [if_pos hg]
  first | rfl | (rw [if_neg (by decide)]; rfl) | simp
theorem gr_bow1 (s : RSt t rw mn e0 e T by' ro pl x) {k v : Int32} (h1 : 0 ≤ k) (h2 : k < 11) {g : Int32 → Int32 → Int32} (hg : T.bow = g) {f : mE → Option mE} (kk : ∀ e1, RSt t rw mn e0 e1 (T.sBow (gS 11 3 g k 1 v)) by' ro pl x → GR t rw mn e0 (f e1) T' by2 ro2 pl2 x2) : GR t rw mn e0 (bd (mA e 57 (11 * t + k) v) f) T' by2 ro2 pl2 x2 := by
  refine kk _ ⟨s.t1, s.t2, s.rk, ?_, ?_, ?_, ?_, s.ex, mfr_A s.fr (Or.inr (Or.inl ⟨by decide, by decide, k, h1, h2, rfl⟩))⟩
  · subst hg
    rw [← s.re]
    have hk : gin 11 3 k 1 := ⟨h1, h2, by decide, by decide⟩
    have other : ∀ (m : Nat), m ≠ 57 → ∀ i', (mA e 57 (11 * t + k) v).2 m i' = e.2 m i' := fun m hm i' => if_neg (fun z => hm z.1)
    refine reOf_A (j := 1) (by decide) (by unfold reBat; simp [mA_rd]) ?_ (by unfold reOv; simp [mA_rd]) (by decide)
    rw [if_pos rfl, reOf_bow]
    funext k' c'
    unfold gS reBow
    simp only [mA_rd]
    have z : (gin 11 3 k 1 ∧ k' = k ∧ c' = 1) ↔ (k' = k ∧ c' = 1) := ⟨And.right, And.intro hk⟩
    simp only [z]
    by_cases hq : gin 11 3 k' c'
    · simp only [if_pos hq]
      obtain ⟨q1, q2, q3, q4⟩ := hq
      have : c' = 0 ∨ c' = 1 ∨ c' = 2 := by grind
      by_cases e1 : k' = k
      · subst e1
        rcases this with r | r | r <;> subst r <;> simp
      · have hn : ¬ 11 * t + k' = 11 * t + k := by grind
        rcases this with r | r | r <;> subst r <;> simp [e1, hn]
    · have hn : ¬ (k' = k ∧ c' = 1) := fun z => hq (by rw [z.1, z.2]; exact hk)
      simp only [if_neg hq, if_neg hn]
  · rw [mA_rd, if_neg (fun q => by exact absurd q.1 (by decide))]; exact s.eb
  · rw [mA_rd, if_neg (fun q => by exact absurd q.1 (by decide))]; exact s.er
  · intro o h1 h2; rw [mA_rd, if_neg (fun q => by exact absurd q.1 (by decide))]; exact s.ep o h1 h2
theorem RSt.bow2 (s : RSt t rw mn e0 e T by' ro pl x) {k : Int32} (h1 : 0 ≤ k) (h2 : k < 11) : e.2 58 (11 * t + k) = T.bow k 2 := by
  rw [← s.re]
  have hg : gin 11 3 k 2 := ⟨h1, h2, by decide, by decide⟩
  rw [reOf_bow]
  unfold reBow
  rw [if_pos hg]
  first | rfl | (rw [if_neg (by decide)]; rfl) | simp
theorem gr_bow2 (s : RSt t rw mn e0 e T by' ro pl x) {k v : Int32} (h1 : 0 ≤ k) (h2 : k < 11) {g : Int32 → Int32 → Int32} (hg : T.bow = g) {f : mE → Option mE} (kk : ∀ e1, RSt t rw mn e0 e1 (T.sBow (gS 11 3 g k 2 v)) by' ro pl x → GR t rw mn e0 (f e1) T' by2 ro2 pl2 x2) : GR t rw mn e0 (bd (mA e 58 (11 * t + k) v) f) T' by2 ro2 pl2 x2 := by
  refine kk _ ⟨s.t1, s.t2, s.rk, ?_, ?_, ?_, ?_, s.ex, mfr_A s.fr (Or.inr (Or.inl ⟨by decide, by decide, k, h1, h2, rfl⟩))⟩
  · subst hg
    rw [← s.re]
    have hk : gin 11 3 k 2 := ⟨h1, h2, by decide, by decide⟩
    have other : ∀ (m : Nat), m ≠ 58 → ∀ i', (mA e 58 (11 * t + k) v).2 m i' = e.2 m i' := fun m hm i' => if_neg (fun z => hm z.1)
    refine reOf_A (j := 1) (by decide) (by unfold reBat; simp [mA_rd]) ?_ (by unfold reOv; simp [mA_rd]) (by decide)
    rw [if_pos rfl, reOf_bow]
    funext k' c'
    unfold gS reBow
    simp only [mA_rd]
    have z : (gin 11 3 k 2 ∧ k' = k ∧ c' = 2) ↔ (k' = k ∧ c' = 2) := ⟨And.right, And.intro hk⟩
    simp only [z]
    by_cases hq : gin 11 3 k' c'
    · simp only [if_pos hq]
      obtain ⟨q1, q2, q3, q4⟩ := hq
      have : c' = 0 ∨ c' = 1 ∨ c' = 2 := by grind
      by_cases e1 : k' = k
      · subst e1
        rcases this with r | r | r <;> subst r <;> simp
      · have hn : ¬ 11 * t + k' = 11 * t + k := by grind
        rcases this with r | r | r <;> subst r <;> simp [e1, hn]
    · have hn : ¬ (k' = k ∧ c' = 2) := fun z => hq (by rw [z.1, z.2]; exact hk)
      simp only [if_neg hq, if_neg hn]
  · rw [mA_rd, if_neg (fun q => by exact absurd q.1 (by decide))]; exact s.eb
  · rw [mA_rd, if_neg (fun q => by exact absurd q.1 (by decide))]; exact s.er
  · intro o h1 h2; rw [mA_rd, if_neg (fun q => by exact absurd q.1 (by decide))]; exact s.ep o h1 h2
theorem RSt.ov0 (s : RSt t rw mn e0 e T by' ro pl x) {o : Int32} (h1 : 0 ≤ o) (h2 : o < mn) (h3 : o < 120) : e.2 59 (rw o) = T.ov o 0 := by
  rw [← s.re]
  have hg : gin 120 5 o 0 ∧ o < mn := ⟨⟨h1, h3, by decide, by decide⟩, h2⟩
  rw [reOf_ov]
  unfold reOv
  rw [if_pos hg]
  first | rfl | (simp)
theorem gr_ov0 (s : RSt t rw mn e0 e T by' ro pl x) {o v : Int32} (h1 : 0 ≤ o) (h2 : o < mn) (h3 : o < 120) {g : Int32 → Int32 → Int32} (hg : T.ov = g) {f : mE → Option mE} (kk : ∀ e1, RSt t rw mn e0 e1 (T.sOv (gS 120 5 g o 0 v)) by' ro pl x → GR t rw mn e0 (f e1) T' by2 ro2 pl2 x2) : GR t rw mn e0 (bd (mA e 59 (rw o) v) f) T' by2 ro2 pl2 x2 := by
  refine kk _ ⟨s.t1, s.t2, s.rk, ?_, ?_, ?_, ?_, s.ex, mfr_A s.fr (Or.inr (Or.inr ⟨by decide, by decide, o, h1, h2, rfl⟩))⟩
  · subst hg
    rw [← s.re]
    have hk : gin 120 5 o 0 := ⟨h1, h3, by decide, by decide⟩
    refine reOf_A (j := 2) (by decide) (by unfold reBat; simp [mA_rd]) (by unfold reBow; simp [mA_rd]) ?_ (by decide)
    rw [if_pos rfl, reOf_ov]
    funext o' c'
    unfold gS reOv
    simp only [mA_rd]
    have z : (gin 120 5 o 0 ∧ o' = o ∧ c' = 0) ↔ (o' = o ∧ c' = 0) := ⟨And.right, And.intro hk⟩
    simp only [z]
    by_cases hq : gin 120 5 o' c' ∧ o' < mn
    · simp only [if_pos hq]
      obtain ⟨⟨q1, q2, q3, q4⟩, q5⟩ := hq
      have : c' = 0 ∨ c' = 1 ∨ c' = 2 ∨ c' = 3 ∨ c' = 4 := by grind
      by_cases e1 : o' = o
      · subst e1
        rcases this with r | r | r | r | r <;> subst r <;> simp
      · have hn : ¬ rw o' = rw o := fun z => e1 (s.rk.2 o' o q1 q5 h1 h2 z)
        rcases this with r | r | r | r | r <;> subst r <;> simp [e1, hn]
    · have hn : ¬ (o' = o ∧ c' = 0) := fun z => hq ⟨by rw [z.1, z.2]; exact hk, by rw [z.1]; exact h2⟩
      simp only [if_neg hq, if_neg hn]
  · rw [mA_rd, if_neg (fun q => by exact absurd q.1 (by decide))]; exact s.eb
  · rw [mA_rd, if_neg (fun q => by exact absurd q.1 (by decide))]; exact s.er
  · intro o h1 h2; rw [mA_rd, if_neg (fun q => by exact absurd q.1 (by decide))]; exact s.ep o h1 h2
theorem RSt.ov1 (s : RSt t rw mn e0 e T by' ro pl x) {o : Int32} (h1 : 0 ≤ o) (h2 : o < mn) (h3 : o < 120) : e.2 60 (rw o) = T.ov o 1 := by
  rw [← s.re]
  have hg : gin 120 5 o 1 ∧ o < mn := ⟨⟨h1, h3, by decide, by decide⟩, h2⟩
  rw [reOf_ov]
  unfold reOv
  rw [if_pos hg]
  first | rfl | (simp)
theorem gr_ov1 (s : RSt t rw mn e0 e T by' ro pl x) {o v : Int32} (h1 : 0 ≤ o) (h2 : o < mn) (h3 : o < 120) {g : Int32 → Int32 → Int32} (hg : T.ov = g) {f : mE → Option mE} (kk : ∀ e1, RSt t rw mn e0 e1 (T.sOv (gS 120 5 g o 1 v)) by' ro pl x → GR t rw mn e0 (f e1) T' by2 ro2 pl2 x2) : GR t rw mn e0 (bd (mA e 60 (rw o) v) f) T' by2 ro2 pl2 x2 := by
  refine kk _ ⟨s.t1, s.t2, s.rk, ?_, ?_, ?_, ?_, s.ex, mfr_A s.fr (Or.inr (Or.inr ⟨by decide, by decide, o, h1, h2, rfl⟩))⟩
  · subst hg
    rw [← s.re]
    have hk : gin 120 5 o 1 := ⟨h1, h3, by decide, by decide⟩
    refine reOf_A (j := 2) (by decide) (by unfold reBat; simp [mA_rd]) (by unfold reBow; simp [mA_rd]) ?_ (by decide)
    rw [if_pos rfl, reOf_ov]
    funext o' c'
    unfold gS reOv
    simp only [mA_rd]
    have z : (gin 120 5 o 1 ∧ o' = o ∧ c' = 1) ↔ (o' = o ∧ c' = 1) := ⟨And.right, And.intro hk⟩
    simp only [z]
    by_cases hq : gin 120 5 o' c' ∧ o' < mn
    · simp only [if_pos hq]
      obtain ⟨⟨q1, q2, q3, q4⟩, q5⟩ := hq
      have : c' = 0 ∨ c' = 1 ∨ c' = 2 ∨ c' = 3 ∨ c' = 4 := by grind
      by_cases e1 : o' = o
      · subst e1
        rcases this with r | r | r | r | r <;> subst r <;> simp
      · have hn : ¬ rw o' = rw o := fun z => e1 (s.rk.2 o' o q1 q5 h1 h2 z)
        rcases this with r | r | r | r | r <;> subst r <;> simp [e1, hn]
    · have hn : ¬ (o' = o ∧ c' = 1) := fun z => hq ⟨by rw [z.1, z.2]; exact hk, by rw [z.1]; exact h2⟩
      simp only [if_neg hq, if_neg hn]
  · rw [mA_rd, if_neg (fun q => by exact absurd q.1 (by decide))]; exact s.eb
  · rw [mA_rd, if_neg (fun q => by exact absurd q.1 (by decide))]; exact s.er
  · intro o h1 h2; rw [mA_rd, if_neg (fun q => by exact absurd q.1 (by decide))]; exact s.ep o h1 h2
theorem RSt.ov2 (s : RSt t rw mn e0 e T by' ro pl x) {o : Int32} (h1 : 0 ≤ o) (h2 : o < mn) (h3 : o < 120) : e.2 61 (rw o) = T.ov o 2 := by
  rw [← s.re]
  have hg : gin 120 5 o 2 ∧ o < mn := ⟨⟨h1, h3, by decide, by decide⟩, h2⟩
  rw [reOf_ov]
  unfold reOv
  rw [if_pos hg]
  first | rfl | (simp)
theorem gr_ov2 (s : RSt t rw mn e0 e T by' ro pl x) {o v : Int32} (h1 : 0 ≤ o) (h2 : o < mn) (h3 : o < 120) {g : Int32 → Int32 → Int32} (hg : T.ov = g) {f : mE → Option mE} (kk : ∀ e1, RSt t rw mn e0 e1 (T.sOv (gS 120 5 g o 2 v)) by' ro pl x → GR t rw mn e0 (f e1) T' by2 ro2 pl2 x2) : GR t rw mn e0 (bd (mA e 61 (rw o) v) f) T' by2 ro2 pl2 x2 := by
  refine kk _ ⟨s.t1, s.t2, s.rk, ?_, ?_, ?_, ?_, s.ex, mfr_A s.fr (Or.inr (Or.inr ⟨by decide, by decide, o, h1, h2, rfl⟩))⟩
  · subst hg
    rw [← s.re]
    have hk : gin 120 5 o 2 := ⟨h1, h3, by decide, by decide⟩
    refine reOf_A (j := 2) (by decide) (by unfold reBat; simp [mA_rd]) (by unfold reBow; simp [mA_rd]) ?_ (by decide)
    rw [if_pos rfl, reOf_ov]
    funext o' c'
    unfold gS reOv
    simp only [mA_rd]
    have z : (gin 120 5 o 2 ∧ o' = o ∧ c' = 2) ↔ (o' = o ∧ c' = 2) := ⟨And.right, And.intro hk⟩
    simp only [z]
    by_cases hq : gin 120 5 o' c' ∧ o' < mn
    · simp only [if_pos hq]
      obtain ⟨⟨q1, q2, q3, q4⟩, q5⟩ := hq
      have : c' = 0 ∨ c' = 1 ∨ c' = 2 ∨ c' = 3 ∨ c' = 4 := by grind
      by_cases e1 : o' = o
      · subst e1
        rcases this with r | r | r | r | r <;> subst r <;> simp
      · have hn : ¬ rw o' = rw o := fun z => e1 (s.rk.2 o' o q1 q5 h1 h2 z)
        rcases this with r | r | r | r | r <;> subst r <;> simp [e1, hn]
    · have hn : ¬ (o' = o ∧ c' = 2) := fun z => hq ⟨by rw [z.1, z.2]; exact hk, by rw [z.1]; exact h2⟩
      simp only [if_neg hq, if_neg hn]
  · rw [mA_rd, if_neg (fun q => by exact absurd q.1 (by decide))]; exact s.eb
  · rw [mA_rd, if_neg (fun q => by exact absurd q.1 (by decide))]; exact s.er
  · intro o h1 h2; rw [mA_rd, if_neg (fun q => by exact absurd q.1 (by decide))]; exact s.ep o h1 h2
theorem RSt.ov3 (s : RSt t rw mn e0 e T by' ro pl x) {o : Int32} (h1 : 0 ≤ o) (h2 : o < mn) (h3 : o < 120) : e.2 62 (rw o) = T.ov o 3 := by
  rw [← s.re]
  have hg : gin 120 5 o 3 ∧ o < mn := ⟨⟨h1, h3, by decide, by decide⟩, h2⟩
  rw [reOf_ov]
  unfold reOv
  rw [if_pos hg]
  first | rfl | (simp)
theorem gr_ov3 (s : RSt t rw mn e0 e T by' ro pl x) {o v : Int32} (h1 : 0 ≤ o) (h2 : o < mn) (h3 : o < 120) {g : Int32 → Int32 → Int32} (hg : T.ov = g) {f : mE → Option mE} (kk : ∀ e1, RSt t rw mn e0 e1 (T.sOv (gS 120 5 g o 3 v)) by' ro pl x → GR t rw mn e0 (f e1) T' by2 ro2 pl2 x2) : GR t rw mn e0 (bd (mA e 62 (rw o) v) f) T' by2 ro2 pl2 x2 := by
  refine kk _ ⟨s.t1, s.t2, s.rk, ?_, ?_, ?_, ?_, s.ex, mfr_A s.fr (Or.inr (Or.inr ⟨by decide, by decide, o, h1, h2, rfl⟩))⟩
  · subst hg
    rw [← s.re]
    have hk : gin 120 5 o 3 := ⟨h1, h3, by decide, by decide⟩
    refine reOf_A (j := 2) (by decide) (by unfold reBat; simp [mA_rd]) (by unfold reBow; simp [mA_rd]) ?_ (by decide)
    rw [if_pos rfl, reOf_ov]
    funext o' c'
    unfold gS reOv
    simp only [mA_rd]
    have z : (gin 120 5 o 3 ∧ o' = o ∧ c' = 3) ↔ (o' = o ∧ c' = 3) := ⟨And.right, And.intro hk⟩
    simp only [z]
    by_cases hq : gin 120 5 o' c' ∧ o' < mn
    · simp only [if_pos hq]
      obtain ⟨⟨q1, q2, q3, q4⟩, q5⟩ := hq
      have : c' = 0 ∨ c' = 1 ∨ c' = 2 ∨ c' = 3 ∨ c' = 4 := by grind
      by_cases e1 : o' = o
      · subst e1
        rcases this with r | r | r | r | r <;> subst r <;> simp
      · have hn : ¬ rw o' = rw o := fun z => e1 (s.rk.2 o' o q1 q5 h1 h2 z)
        rcases this with r | r | r | r | r <;> subst r <;> simp [e1, hn]
    · have hn : ¬ (o' = o ∧ c' = 3) := fun z => hq ⟨by rw [z.1, z.2]; exact hk, by rw [z.1]; exact h2⟩
      simp only [if_neg hq, if_neg hn]
  · rw [mA_rd, if_neg (fun q => by exact absurd q.1 (by decide))]; exact s.eb
  · rw [mA_rd, if_neg (fun q => by exact absurd q.1 (by decide))]; exact s.er
  · intro o h1 h2; rw [mA_rd, if_neg (fun q => by exact absurd q.1 (by decide))]; exact s.ep o h1 h2
theorem RSt.ov4 (s : RSt t rw mn e0 e T by' ro pl x) {o : Int32} (h1 : 0 ≤ o) (h2 : o < mn) (h3 : o < 120) : e.2 63 (rw o) = T.ov o 4 := by
  rw [← s.re]
  have hg : gin 120 5 o 4 ∧ o < mn := ⟨⟨h1, h3, by decide, by decide⟩, h2⟩
  rw [reOf_ov]
  unfold reOv
  rw [if_pos hg]
  first | rfl | (simp)
theorem gr_ov4 (s : RSt t rw mn e0 e T by' ro pl x) {o v : Int32} (h1 : 0 ≤ o) (h2 : o < mn) (h3 : o < 120) {g : Int32 → Int32 → Int32} (hg : T.ov = g) {f : mE → Option mE} (kk : ∀ e1, RSt t rw mn e0 e1 (T.sOv (gS 120 5 g o 4 v)) by' ro pl x → GR t rw mn e0 (f e1) T' by2 ro2 pl2 x2) : GR t rw mn e0 (bd (mA e 63 (rw o) v) f) T' by2 ro2 pl2 x2 := by
  refine kk _ ⟨s.t1, s.t2, s.rk, ?_, ?_, ?_, ?_, s.ex, mfr_A s.fr (Or.inr (Or.inr ⟨by decide, by decide, o, h1, h2, rfl⟩))⟩
  · subst hg
    rw [← s.re]
    have hk : gin 120 5 o 4 := ⟨h1, h3, by decide, by decide⟩
    refine reOf_A (j := 2) (by decide) (by unfold reBat; simp [mA_rd]) (by unfold reBow; simp [mA_rd]) ?_ (by decide)
    rw [if_pos rfl, reOf_ov]
    funext o' c'
    unfold gS reOv
    simp only [mA_rd]
    have z : (gin 120 5 o 4 ∧ o' = o ∧ c' = 4) ↔ (o' = o ∧ c' = 4) := ⟨And.right, And.intro hk⟩
    simp only [z]
    by_cases hq : gin 120 5 o' c' ∧ o' < mn
    · simp only [if_pos hq]
      obtain ⟨⟨q1, q2, q3, q4⟩, q5⟩ := hq
      have : c' = 0 ∨ c' = 1 ∨ c' = 2 ∨ c' = 3 ∨ c' = 4 := by grind
      by_cases e1 : o' = o
      · subst e1
        rcases this with r | r | r | r | r <;> subst r <;> simp
      · have hn : ¬ rw o' = rw o := fun z => e1 (s.rk.2 o' o q1 q5 h1 h2 z)
        rcases this with r | r | r | r | r <;> subst r <;> simp [e1, hn]
    · have hn : ¬ (o' = o ∧ c' = 4) := fun z => hq ⟨by rw [z.1, z.2]; exact hk, by rw [z.1]; exact h2⟩
      simp only [if_neg hq, if_neg hn]
  · rw [mA_rd, if_neg (fun q => by exact absurd q.1 (by decide))]; exact s.eb
  · rw [mA_rd, if_neg (fun q => by exact absurd q.1 (by decide))]; exact s.er
  · intro o h1 h2; rw [mA_rd, if_neg (fun q => by exact absurd q.1 (by decide))]; exact s.ep o h1 h2
theorem gr_ck {P : Prop} [Decidable P] (hp : P) {f : Unit → Option mE} (kk : GR t rw mn e0 (f ()) T' by2 ro2 pl2 x2) : GR t rw mn e0 ((ck P).bind f) T' by2 ro2 pl2 x2 := by rw [ck_t hp]; exact kk
theorem gr_o {β : Type} {X : Option β} {z : β} (e : X = some z) {f : β → Option mE} (kk : GR t rw mn e0 (f z) T' by2 ro2 pl2 x2) : GR t rw mn e0 (X.bind f) T' by2 ro2 pl2 x2 := by rw [e]; exact kk
theorem gr_bd {β : Type} {z : β} {f : β → Option mE} (kk : GR t rw mn e0 (f z) T' by2 ro2 pl2 x2) : GR t rw mn e0 (bd z f) T' by2 ro2 pl2 x2 := kk
theorem gr_end (s : RSt t rw mn e0 e T by' ro pl x) (q1 : T = T') (q2 : by' = by2) (q3 : ro = ro2) (q4 : pl = pl2) (q5 : x = x2) : GR t rw mn e0 (some e) T' by2 ro2 pl2 x2 := by subst q1 q2 q3 q4 q5; exact ⟨e, rfl, s⟩
theorem gr_call {X : Option mE} (c : GR t rw mn e0 X T by' ro pl x) {f : mE → Option mE} (kk : ∀ e1, RSt t rw mn e0 e1 T by' ro pl x → GR t rw mn e0 (f e1) T' by2 ro2 pl2 x2) : GR t rw mn e0 (X.bind f) T' by2 ro2 pl2 x2 := by
  obtain ⟨e1, q, s⟩ := c
  rw [q]
  exact kk e1 s
theorem gr_ite {c : Prop} [Decidable c] {A B : Option mE} (k1 : c → GR t rw mn e0 A T' by2 ro2 pl2 x2) (k2 : ¬ c → GR t rw mn e0 B T' by2 ro2 pl2 x2) : GR t rw mn e0 (if c then A else B) T' by2 ro2 pl2 x2 := by
  by_cases hc : c
  · rw [if_pos hc]; exact k1 hc
  · rw [if_neg hc]; exact k2 hc
theorem gr_t (s : RSt t rw mn e0 e T by' ro pl x) {d : Decidable ((0 : Int32) ≤ t ∧ t < (4 : Int32))} {f : Unit → Option mE} (kk : GR t rw mn e0 (f ()) T' by2 ro2 pl2 x2) : GR t rw mn e0 ((@ck ((0 : Int32) ≤ t ∧ t < (4 : Int32)) d).bind f) T' by2 ro2 pl2 x2 := gr_ck ⟨s.t1, s.t2⟩ kk
theorem gr_r (s : RSt t rw mn e0 e T by' ro pl x) {o : Int32} (h1 : 0 ≤ o) (h2 : o < mn) {d : Decidable ((0 : Int32) ≤ rw o ∧ rw o < (6000 : Int32))} {f : Unit → Option mE} (kk : GR t rw mn e0 (f ()) T' by2 ro2 pl2 x2) : GR t rw mn e0 ((@ck ((0 : Int32) ≤ rw o ∧ rw o < (6000 : Int32)) d).bind f) T' by2 ro2 pl2 x2 := gr_ck (s.rk.1 o h1 h2) kk
theorem gr_s (s : RSt t rw mn e0 e T by' ro pl x) {k : Int32} (h1 : 0 ≤ k) (h2 : k < 11) {d : Decidable ((0 : Int32) ≤ ((11 * t) + k) ∧ ((11 * t) + k) < (44 : Int32))} {f : Unit → Option mE} (kk : GR t rw mn e0 (f ()) T' by2 ro2 pl2 x2) : GR t rw mn e0 ((@ck ((0 : Int32) ≤ ((11 * t) + k) ∧ ((11 * t) + k) < (44 : Int32)) d).bind f) T' by2 ro2 pl2 x2 := gr_ck (by have := s.t1; have := s.t2; constructor <;> grind) kk
end RStep
