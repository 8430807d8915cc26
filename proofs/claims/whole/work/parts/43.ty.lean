/-! One turn's tally, as a record, and what the class's Tally does to it -/
theorem i32_up {e : Int32} {P : Nat → Int32 → Prop} (hend : ∀ n i, e ≤ i → P (n + 1) i) (hstep : ∀ n i, i < e → P n (i + 1) → P (n + 1) i) : ∀ n i, (e.toInt - i.toInt).toNat < n → P n i := by
  intro n
  induction n with
  | zero => intro i h; omega
  | succ n ih =>
    intro i h
    by_cases c : e ≤ i
    · exact hend n i c
    · have c' : i < e := Int32.not_le.mp c
      refine hstep n i c' (ih (i + 1) ?_)
      have h1 := Int32.lt_iff_toInt_lt.mp c'
      have h2 : (i + 1).toInt = i.toInt + 1 := by
        rw [Int32.toInt_add]
        have := Int32.toInt_lt e
        have := Int32.le_toInt i
        have e1 : (1 : Int32).toInt = 1 := by decide
        rw [e1]
        apply Int.bmod_eq_of_le <;> omega
      omega
theorem i32_succ {i e : Int32} (c' : i < e) : (i + 1).toInt = i.toInt + 1 := by
  have h1 := Int32.lt_iff_toInt_lt.mp c'
  rw [Int32.toInt_add]
  have := Int32.toInt_lt e
  have := Int32.le_toInt i
  have e1 : (1 : Int32).toInt = 1 := by decide
  rw [e1]
  apply Int.bmod_eq_of_le <;> omega
theorem i32_ps {i e : Int32} (h : 0 ≤ i) (c : i < e) : 0 ≤ i + 1 := by
  have h1 := i32_succ c
  have h2 := Int32.le_iff_toInt_le.mp h
  have e0 : (0 : Int32).toInt = 0 := by decide
  exact Int32.le_iff_toInt_le.mpr (by omega)
theorem i32_ls {i e j : Int32} (c : i < e) : j < i + 1 ↔ j < i ∨ j = i := by
  have h5 := i32_succ c
  constructor
  · intro q
    have h4 := Int32.lt_iff_toInt_lt.mp q
    by_cases hq : j = i
    · exact Or.inr hq
    · have h6 : ¬ j.toInt = i.toInt := fun z => hq (Int32.toInt_inj.mp z)
      exact Or.inl (Int32.lt_iff_toInt_lt.mpr (by omega))
  · intro q
    apply Int32.lt_iff_toInt_lt.mpr
    rcases q with q | q
    · have := Int32.lt_iff_toInt_lt.mp q; omega
    · rw [q]; omega
/-- a place of a table -/
abbrev gin (R C r c : Int32) : Prop := 0 ≤ r ∧ r < R ∧ 0 ≤ c ∧ c < C
def gv (h : aH) (a : Nat) (R C r c : Int32) : Int32 := if gin R C r c then rdA h a (r * C + c) else 0
def gS (R C : Int32) (f : Int32 → Int32 → Int32) (r c v : Int32) : Int32 → Int32 → Int32 := fun r' c' => if gin R C r c ∧ r' = r ∧ c' = c then v else f r' c'
abbrev gAd (R C : Int32) (f : Int32 → Int32 → Int32) (r c v : Int32) : Int32 → Int32 → Int32 := gS R C f r c (f r c + v)
def gAll (R C v : Int32) : Int32 → Int32 → Int32 := fun r c => if gin R C r c then v else 0
def gRow (R C : Int32) (f : Int32 → Int32 → Int32) (r v : Int32) : Int32 → Int32 → Int32 := fun r' c' => if gin R C r' c' ∧ r' = r then v else f r' c'
abbrev Ty : Type := (Nat → Int32) × (Nat → Int32 → Int32 → Int32)
abbrev Ty.played (T : Ty) : Int32 := T.1 0
abbrev Ty.score (T : Ty) : Int32 := T.1 1
abbrev Ty.outs (T : Ty) : Int32 := T.1 2
abbrev Ty.extras (T : Ty) : Int32 := T.1 3
abbrev Ty.nobodys (T : Ty) : Int32 := T.1 4
abbrev Ty.allowed (T : Ty) : Int32 := T.1 5
abbrev Ty.means (T : Ty) : Int32 := T.1 6
abbrev Ty.ended (T : Ty) : Int32 := T.1 7
abbrev Ty.begun (T : Ty) : Int32 := T.1 8
abbrev Ty.whole (T : Ty) : Int32 := T.1 9
abbrev Ty.opn (T : Ty) : Int32 := T.1 10
abbrev Ty.counted (T : Ty) : Int32 := T.1 11
abbrev Ty.bowler (T : Ty) : Int32 := T.1 12
abbrev Ty.faces (T : Ty) : Int32 := T.1 13
abbrev Ty.other (T : Ty) : Int32 := T.1 14
abbrev Ty.next (T : Ty) : Int32 := T.1 15
abbrev Ty.bat (T : Ty) : Int32 → Int32 → Int32 := T.2 0
abbrev Ty.bow (T : Ty) : Int32 → Int32 → Int32 := T.2 1
abbrev Ty.ov (T : Ty) : Int32 → Int32 → Int32 := T.2 2
def Ty.sI (T : Ty) (k : Nat) (v : Int32) : Ty := (fun j => if j = k then v else T.1 j, T.2)
def Ty.sG (T : Ty) (k : Nat) (g : Int32 → Int32 → Int32) : Ty := (T.1, fun j => if j = k then g else T.2 j)
abbrev Ty.sPlayed (T : Ty) (v : Int32) : Ty := Ty.sI T 0 v
abbrev Ty.sScore (T : Ty) (v : Int32) : Ty := Ty.sI T 1 v
abbrev Ty.sOuts (T : Ty) (v : Int32) : Ty := Ty.sI T 2 v
abbrev Ty.sExtras (T : Ty) (v : Int32) : Ty := Ty.sI T 3 v
abbrev Ty.sNobodys (T : Ty) (v : Int32) : Ty := Ty.sI T 4 v
abbrev Ty.sAllowed (T : Ty) (v : Int32) : Ty := Ty.sI T 5 v
abbrev Ty.sMeans (T : Ty) (v : Int32) : Ty := Ty.sI T 6 v
abbrev Ty.sEnded (T : Ty) (v : Int32) : Ty := Ty.sI T 7 v
abbrev Ty.sBegun (T : Ty) (v : Int32) : Ty := Ty.sI T 8 v
abbrev Ty.sWhole (T : Ty) (v : Int32) : Ty := Ty.sI T 9 v
abbrev Ty.sOpn (T : Ty) (v : Int32) : Ty := Ty.sI T 10 v
abbrev Ty.sCounted (T : Ty) (v : Int32) : Ty := Ty.sI T 11 v
abbrev Ty.sBowler (T : Ty) (v : Int32) : Ty := Ty.sI T 12 v
abbrev Ty.sFaces (T : Ty) (v : Int32) : Ty := Ty.sI T 13 v
abbrev Ty.sOther (T : Ty) (v : Int32) : Ty := Ty.sI T 14 v
abbrev Ty.sNext (T : Ty) (v : Int32) : Ty := Ty.sI T 15 v
abbrev Ty.sBat (T : Ty) (v : Int32 → Int32 → Int32) : Ty := Ty.sG T 0 v
abbrev Ty.sBow (T : Ty) (v : Int32 → Int32 → Int32) : Ty := Ty.sG T 1 v
abbrev Ty.sOv (T : Ty) (v : Int32 → Int32 → Int32) : Ty := Ty.sG T 2 v
theorem Ty.i1 (T : Ty) (k : Nat) (v : Int32) (j : Nat) : (Ty.sI T k v).1 j = if j = k then v else T.1 j := rfl
theorem Ty.i2 (T : Ty) (k : Nat) (v : Int32) (j : Nat) : (Ty.sI T k v).2 j = T.2 j := rfl
theorem Ty.g1 (T : Ty) (k : Nat) (g : Int32 → Int32 → Int32) (j : Nat) : (Ty.sG T k g).1 j = T.1 j := rfl
theorem Ty.g2 (T : Ty) (k : Nat) (g : Int32 → Int32 → Int32) (j : Nat) : (Ty.sG T k g).2 j = if j = k then g else T.2 j := rfl
theorem Ty.ext2 {A B : Ty} (h1 : ∀ j, A.1 j = B.1 j) (h2 : ∀ j, A.2 j = B.2 j) : A = B := Prod.ext (funext h1) (funext h2)
def tyOf (a : Nat) (h : aH) : Ty := (fun k => if k < 16 then hF h (1003 + k) a else 0, fun j => if j = 0 then gv h (a + 2) 11 3 else if j = 1 then gv h (a + 4) 11 3 else if j = 2 then gv h (a + 6) 120 5 else fun _ _ => 0)
def tb (b w : Int32) : Int32 := ((((1000 * ((100 - (w * w)).toInt64)) * b.toInt64) * ((1440 - b).toInt64)) / 51840000).toInt32
abbrev kc (k : Int32) : Prop := k = 0 ∨ k = 3 ∨ k = 4 ∨ k = 6
def Ty.left (T : Ty) : Int32 := 6 * (T.allowed - T.whole) - T.counted
def Ty.begin (n : Int32) (T : Ty) : Ty := (((((((T.sPlayed 1).sAllowed n).sMeans (tb (6 * n) 0)).sFaces 0).sOther 1).sNext 2).sBat (gS 11 3 T.bat 0 2 1)).sBat (gS 11 3 (gS 11 3 T.bat 0 2 1) 1 2 1)
def Ty.chg (T : Ty) : Ty := (T.sFaces T.other).sOther T.faces
def Ty.cross (v : Int32) (T : Ty) : Ty := if v - v / 2 * 2 = 0 then T else T.chg
def Ty.hit (v : Int32) (T : Ty) : Ty := Ty.cross v (((T.sBat (gAd 11 3 T.bat T.faces 0 v)).sBow (gAd 11 3 T.bow T.bowler 1 v)).sScore (T.score + v))
def Ty.concede (T : Ty) : Ty := ((T.sBow (gAd 11 3 T.bow T.bowler 1 1)).sExtras (T.extras + 1)).sScore (T.score + 1)
def Ty.nob (v : Int32) (T : Ty) : Ty := Ty.cross v (((T.sNobodys (T.nobodys + v)).sExtras (T.extras + v)).sScore (T.score + v))
def Ty.end44 (T : Ty) : Ty := ((T.sWhole (T.whole + 1)).sCounted 0).chg
def Ty.endO (T : Ty) : Ty := (T.sOv (gS 120 5 T.ov (T.begun - 1) 3 1)).end44
def Ty.endP (T : Ty) : Ty := (((T.sOv (gS 120 5 T.ov (T.begun - 1) 3 1)).sOv (gS 120 5 (gS 120 5 T.ov (T.begun - 1) 3 1) (T.begun - 1) 4 1)).sOpn (T.opn + 1)).end44
def Ty.fin (wf c : Int32) (T : Ty) : Ty := if wf = 0 then T.sOther c else T.sFaces c
def Ty.leave1 (wf : Int32) (T : Ty) : Ty := if 10 ≤ T.outs then T.fin wf (-1) else ((T.sNext (T.next + 1)).sBat (gS 11 3 T.bat T.next 2 1)).fin wf T.next
def Ty.leave (wf how : Int32) (T : Ty) : Ty := Ty.leave1 wf (((T.sBat (gS 11 3 T.bat (if wf = 0 then T.other else T.faces) 2 how)).sOuts (T.outs + 1)).sOv (gAd 120 5 T.ov (T.begun - 1) 1 1))
def Ty.away (v : Int32) (T : Ty) : Ty := (T.sAllowed (T.allowed - v)).sMeans (T.means - (tb T.left T.outs - tb (T.sAllowed (T.allowed - v)).left T.outs))
def Ty.begO1 (b : Int32) (T : Ty) : Ty := (((T.sOv (gRow 120 5 T.ov T.begun 0)).sBegun (T.begun + 1)).sBowler b).sBow (gAd 11 3 T.bow b 0 1)
def Ty.begO2 (b s : Int32) (T : Ty) : Ty := if s < 0 then (T.begO1 b).endP else T.begO1 b
def Ty.begO (b s : Int32) (T : Ty) : Ty := if T.begun ≤ T.whole then T.begO2 b s else T.endP.begO2 b s
def Ty.ent1 (k : Int32) (T : Ty) : Ty := if kc k ∨ k = 2 then T.sBat (gAd 11 3 T.bat T.faces 1 1) else T
def Ty.ent2 (k v : Int32) (T : Ty) : Ty := if k = 0 then T.hit v else if k = 1 then T.concede.nob v else if k = 2 then T.concede.hit v else if k = 3 then (T.sBow (gAd 11 3 T.bow T.bowler 2 1)).leave 1 (2 + v) else if k = 4 then (if v - v / 2 * 2 = 0 then (T.hit (v / 2)).leave 1 6 else (T.hit (v / 2)).leave 0 6) else if k = 6 then T.nob v else if k = 8 then T.away v else T
def Ty.ent3b (T : Ty) : Ty := (T.sCounted (T.counted + 1)).sOv (gS 120 5 T.ov (T.begun - 1) 2 (T.counted + 1))
def Ty.ent3 (k s : Int32) (T : Ty) : Ty := if kc k then (T.sOv (gAd 120 5 T.ov (T.begun - 1) 0 (T.score - s))).ent3b else T.sOv (gAd 120 5 T.ov (T.begun - 1) 0 (T.score - s))
def Ty.ent4 (T : Ty) : Ty := if T.counted = 6 then T.endO else T
def Ty.ent (c : Int32) (T : Ty) : Ty := (((T.ent1 (c / 16)).ent2 (c / 16) (c - c / 16 * 16)).ent3 (c / 16) T.score).ent4
def Ty.ruleO (b m : Int32) (T : Ty) : Int32 := if T.ended = 0 ∧ T.begun < T.allowed then (if 0 ≤ b ∧ b < 11 then (if b = T.bowler then 5 else if T.bow b 0 < m then 0 else 6) else 4) else 3
abbrev Ty.isE (k v : Int32) : Prop := 0 ≤ k ∧ k ≤ 9 ∧ lvLi k.toNatClampNeg ≤ v ∧ v ≤ lvMi k.toNatClampNeg
def Ty.ruleE (c rn : Int32) (T : Ty) : Int32 := if Ty.isE (c / 16) (c - c / 16 * 16) then (if T.ended = 0 then (if T.whole = T.begun ∧ (kc (c / 16) ∨ c / 16 = 1 ∨ c / 16 = 2) then 9 else if c / 16 = 8 ∧ (rn = 0 ∨ T.allowed - (c - c / 16 * 16) < T.begun) then 10 else 0) else 8) else 7
def Ty.clear (T : Ty) : Ty := (((((((((((((((((T.sPlayed 0).sBat (gAll 11 3 0)).sBow (gAll 11 3 0)).sScore 0).sOuts 0).sExtras 0).sNobodys 0).sAllowed 0).sMeans 0).sEnded 0).sBegun 0).sWhole 0).sOpn 0).sCounted 0).sBowler (-1)).sFaces (-1)).sOther (-1)).sNext 0
/-! the heap's tables -/
theorem rc_inj {R C N r c r' c' : Int32} (hx : ∀ r c r' c' : Int32, gin R C r c → gin R C r' c' → r * C + c = r' * C + c' → r = r' ∧ c = c') (h1 : gin R C r c) (h2 : gin R C r' c') : r * C + c = r' * C + c' ↔ r = r' ∧ c = c' := ⟨hx r c r' c' h1 h2, fun q => by rw [q.1, q.2]⟩
def GIj (R C : Int32) : Prop := ∀ r c r' c' : Int32, gin R C r c → gin R C r' c' → r * C + c = r' * C + c' → r = r' ∧ c = c'
theorem gij_11_3 : GIj 11 3 := by intro r c r' c' h1 h2 h; obtain ⟨_, _, _, _⟩ := h1; obtain ⟨_, _, _, _⟩ := h2; constructor <;> grind
theorem gij_120_5 : GIj 120 5 := by intro r c r' c' h1 h2 h; obtain ⟨_, _, _, _⟩ := h1; obtain ⟨_, _, _, _⟩ := h2; constructor <;> grind
theorem gij_2_11 : GIj 2 11 := by intro r c r' c' h1 h2 h; obtain ⟨_, _, _, _⟩ := h1; obtain ⟨_, _, _, _⟩ := h2; constructor <;> grind
theorem gij_4_6 : GIj 4 6 := by intro r c r' c' h1 h2 h; obtain ⟨_, _, _, _⟩ := h1; obtain ⟨_, _, _, _⟩ := h2; constructor <;> grind
theorem gij_60_30 : GIj 60 30 := by intro r c r' c' h1 h2 h; obtain ⟨_, _, _, _⟩ := h1; obtain ⟨_, _, _, _⟩ := h2; constructor <;> grind
theorem gv_set {h : aH} {a : Nat} {R C N r c v : Int32} (hi : GIx R C N) (hj : GIj R C) (hc : gin R C r c) : gv (wrA h a (r * C + c) v) a R C = gS R C (gv h a R C) r c v := by
  funext r' c'
  unfold gv gS
  dsimp only
  have h0 := (hi r c hc.1 hc.2.1 hc.2.2.1 hc.2.2.2).1
  by_cases h1 : gin R C r' c'
  · rw [if_pos h1, if_pos h1, rdA_wr h0]
    by_cases h2 : r' = r ∧ c' = c
    · rw [if_pos ⟨rfl, by rw [h2.1, h2.2]⟩, if_pos ⟨hc, h2⟩]
    · rw [if_neg (fun q => h2 (hj r' c' r c h1 hc q.2)), if_neg (fun q => h2 q.2)]
  · rw [if_neg h1, if_neg h1, if_neg (fun q => h1 (by rw [q.2.1, q.2.2]; exact hc))]
theorem gv_wr_ne {h : aH} {a b : Nat} {R C i v : Int32} (hi : 0 ≤ i) (hb : b ≠ a) : gv (wrA h a i v) b R C = gv h b R C := by
  funext r' c'
  unfold gv
  by_cases h1 : gin R C r' c'
  · rw [if_pos h1, if_pos h1, rdA_wr hi, if_neg (fun q => hb q.1)]
  · rw [if_neg h1, if_neg h1]
theorem gS_out {R C r c v : Int32} {f : Int32 → Int32 → Int32} (hc : ¬ gin R C r c) : gS R C f r c v = f := by
  funext r' c'
  unfold gS
  rw [if_neg (fun q => hc q.1)]

/-! loops over tables -/
theorem i32_ofN {n : Nat} {N : Int32} (h : (n : Int) = N.toInt) : Int32.ofNat n = N := by
  apply Int32.toInt_inj.mp
  have h1 := Int32.toInt_lt N
  have h2 : (Int32.ofNat n).toInt = (n : Int).bmod (2 ^ 32) := Int32.toInt_ofNat
  rw [h2, Int.bmod_eq_of_le (by omega) (by omega)]
  exact h
theorem gr_fill {g : Nat} {R C N v : Int32} {h0 : aH} : ∀ n i, (N.toInt - i.toInt).toNat < n → ∀ h : aH, 0 ≤ i → GrS h g R C N → frn (g + 1) 1 h0 h → (∀ j : Int32, 0 ≤ j → j < i → rdA h (g + 1) j = v) → ∃ h', F_X4_fill_2 n g v i h = some h' ∧ GrS h' g R C N ∧ frn (g + 1) 1 h0 h' ∧ ∀ j : Int32, 0 ≤ j → j < N → rdA h' (g + 1) j = v := by
  refine i32_up ?_ ?_
  · intro n i hi h h1 hg hf hr
    unfold F_X4_fill_2
    have hg' := hg
    obtain ⟨g1, g2, g3, g4, g5, g6⟩ := hg
    rw [ck_t g1, g4, Option.bind_some, ck_t g5, if_pos (by rw [i32_ofN g6]; exact hi)]
    exact ⟨h, rfl, hg', hf, fun j h2 h3 => hr j h2 (by grind)⟩
  · intro n i hi ih h h1 hg hf hr
    unfold F_X4_fill_2
    have hg' := hg
    obtain ⟨g1, g2, g3, g4, g5, g6⟩ := hg
    rw [ck_t g1, g4, Option.bind_some, ck_t g5, if_neg (by rw [i32_ofN g6]; grind), Option.bind_some, ck_t ⟨g5, in_nat g6 ⟨h1, hi⟩⟩, bd_e, bd_e]
    refine ih (wrA h (g + 1) i v) (i32_ps h1 hi) hg'.wr (hf.trans (frn_wr ⟨by omega, by omega⟩)) ?_
    intro j h2 h3
    rw [rdA_wr h1]
    by_cases hj : j = i
    · rw [if_pos ⟨rfl, hj⟩]
    · rw [if_neg (fun q => hj q.2)]
      exact hr j h2 (((i32_ls hi).mp h3).resolve_right hj)
theorem gr_fillA {g : Nat} {R C N v : Int32} {h : aH} (hg : GrS h g R C N) (hi : GIx R C N) (hN : N.toInt < 100000) : ∃ h', F_X4_fill g v h = some h' ∧ GrS h' g R C N ∧ frn (g + 1) 1 h h' ∧ gv h' (g + 1) R C = gAll R C v := by
  have e0 : (0 : Int32).toInt = 0 := by decide
  obtain ⟨h', f1, f2, f3, f4⟩ := gr_fill (g := g) (R := R) (C := C) (N := N) (v := v) (h0 := h) fu 0 (by unfold fu; omega) h (by decide) hg (frn.refl _ _ _) (fun j h1 h2 => by grind)
  refine ⟨h', f1, f2, f3, ?_⟩
  funext r c
  unfold gv gAll
  by_cases hc : gin R C r c
  · have := hi r c hc.1 hc.2.1 hc.2.2.1 hc.2.2.2
    rw [if_pos hc, if_pos hc, f4 _ this.1 this.2]
  · rw [if_neg hc, if_neg hc]
theorem gr_set1 {g : Nat} {R C N r c v : Int32} {h : aH} (hg : GrS h g R C N) (hi : GIx R C N) (hj : GIj R C) : ∃ h', F_X4_set g r c v h = some h' ∧ GrS h' g R C N ∧ frn (g + 1) 1 h h' ∧ gv h' (g + 1) R C = gS R C (gv h (g + 1) R C) r c v := by
  rw [gr_set hg hi]
  refine ⟨_, rfl, ?_⟩
  by_cases hc : gin R C r c
  · rw [if_pos hc]
    exact ⟨hg.wr, frn_wr ⟨by omega, by omega⟩, gv_set hi hj hc⟩
  · rw [if_neg hc, gS_out hc]
    exact ⟨hg, frn.refl _ _ _, rfl⟩
theorem gr_add1 {g : Nat} {R C N r c v : Int32} {h : aH} (hg : GrS h g R C N) (hi : GIx R C N) (hj : GIj R C) : ∃ h', F_X4_add g r c v h = some h' ∧ GrS h' g R C N ∧ frn (g + 1) 1 h h' ∧ gv h' (g + 1) R C = gAd R C (gv h (g + 1) R C) r c v := by
  rw [gr_ad0 hg hi]
  refine ⟨_, rfl, ?_⟩
  by_cases hc : gin R C r c
  · rw [if_pos hc]
    refine ⟨hg.wr, frn_wr ⟨by omega, by omega⟩, ?_⟩
    have e : gv h (g + 1) R C r c = rdA h (g + 1) (r * C + c) := if_pos hc
    rw [gv_set hi hj hc, gAd, e]
  · rw [if_neg hc, gAd, gS_out hc]
    exact ⟨hg, frn.refl _ _ _, rfl⟩
theorem gr_fillRow {g : Nat} {R C N r v : Int32} {h0 : aH} (hi : GIx R C N) (hj : GIj R C) : ∀ n i, (C.toInt - i.toInt).toNat < n → ∀ h : aH, 0 ≤ i → GrS h g R C N → frn (g + 1) 1 h0 h → gv h (g + 1) R C = (fun r' c' => if gin R C r' c' ∧ r' = r ∧ c' < i then v else gv h0 (g + 1) R C r' c') → ∃ h', F_X4_fillRow_2 n g r v i h = some h' ∧ GrS h' g R C N ∧ frn (g + 1) 1 h0 h' ∧ gv h' (g + 1) R C = gRow R C (gv h0 (g + 1) R C) r v := by
  refine i32_up ?_ ?_
  · intro n i hc h h1 hg hf hr
    unfold F_X4_fillRow_2
    have g1 := hg.1
    have g3 := hg.2.2.1
    rw [ck_t g1, g3, if_pos hc]
    refine ⟨h, rfl, hg, hf, ?_⟩
    rw [hr]
    funext r' c'
    unfold gRow
    by_cases q : gin R C r' c' ∧ r' = r
    · rw [if_pos q, if_pos ⟨q.1, q.2, by have := q.1.2.2.2; grind⟩]
    · rw [if_neg q, if_neg (fun z => q ⟨z.1, z.2.1⟩)]
  · intro n i hc ih h h1 hg hf hr
    unfold F_X4_fillRow_2
    have g1 := hg.1
    have g3 := hg.2.2.1
    rw [ck_t g1, g3, if_neg (by grind)]
    obtain ⟨h2, e2, hg2, hf2, hv2⟩ := gr_set1 (r := r) (c := i) (v := v) hg hi hj
    rw [e2, Option.bind_some, bd_e]
    refine ih h2 (i32_ps h1 hc) hg2 (hf.trans hf2) ?_
    rw [hv2, hr]
    funext r' c'
    unfold gS
    dsimp only
    have key : c' < i + 1 ↔ c' < i ∨ c' = i := i32_ls hc
    by_cases q : gin R C r' c' ∧ r' = r
    · obtain ⟨q1, q2⟩ := q
      by_cases q3 : c' = i
      · subst q2 q3
        rw [if_pos ⟨q1, rfl, rfl⟩, if_pos ⟨q1, rfl, key.mpr (Or.inr rfl)⟩]
      · rw [if_neg (fun z => q3 z.2.2)]
        by_cases q4 : c' < i
        · rw [if_pos ⟨q1, q2, q4⟩, if_pos ⟨q1, q2, key.mpr (Or.inl q4)⟩]
        · rw [if_neg (fun z => q4 z.2.2), if_neg (fun z => (key.mp z.2.2).elim q4 q3)]
    · rw [if_neg (fun z => q ⟨by have := z.1; rw [z.2.1, z.2.2]; exact this, z.2.1⟩), if_neg (fun z => q ⟨z.1, z.2.1⟩), if_neg (fun z => q ⟨z.1, z.2.1⟩)]
theorem gr_row1 {g : Nat} {R C N r v : Int32} {h : aH} (hg : GrS h g R C N) (hi : GIx R C N) (hj : GIj R C) (hC : C.toInt < 1000) : ∃ h', F_X4_fillRow g r v h = some h' ∧ GrS h' g R C N ∧ frn (g + 1) 1 h h' ∧ gv h' (g + 1) R C = gRow R C (gv h (g + 1) R C) r v := by
  have e0 : (0 : Int32).toInt = 0 := by decide
  refine gr_fillRow hi hj fu 0 (by unfold fu; omega) h (by decide) hg (frn.refl _ _ _) ?_
  funext r' c'
  rw [if_neg (fun z => by have := z.1.2.2.1; have := z.2.2; grind)]
