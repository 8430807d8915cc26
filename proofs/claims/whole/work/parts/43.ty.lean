/-! One turn's tally, as a record, and what the class's Tally does to it -/
theorem i32_up {e : Int32} {P : Nat → Int32 → Prop} (hend : ∀ n i, e ≤ i → P (n + 1) i) (hstep : ∀ n i, i < e → P n (i + 1) → P (n + 1) i) : ∀ n i, (e.toInt - i.toInt).toNat < n → P n i := by
  intro n
  induction n with
  | zero => intro i h; omega
  | succ n ih =>
    intro i h
    by_cases c : e ≤ i
    · exact hend n i c
    · have c' : i < e := Int32.not_le.mp c
      refine hstep n i c' (ih (i + 1) ?_)
      have h1 := Int32.lt_iff_toInt_lt.mp c'
      have h2 : (i + 1).toInt = i.toInt + 1 := by
        rw [Int32.toInt_add]
        have := Int32.toInt_lt e
        have := Int32.le_toInt i
        have e1 : (1 : Int32).toInt = 1 := by decide
        rw [e1]
        apply Int.bmod_eq_of_le <;> omega
      omega
theorem i32_succ {i e : Int32} (c' : i < e) : (i + 1).toInt = i.toInt + 1 := by
  have h1 := Int32.lt_iff_toInt_lt.mp c'
  rw [Int32.toInt_add]
  have := Int32.toInt_lt e
  have := Int32.le_toInt i
  have e1 : (1 : Int32).toInt = 1 := by decide
  rw [e1]
  apply Int.bmod_eq_of_le <;> omega
theorem i32_ps {i e : Int32} (h : 0 ≤ i) (c : i < e) : 0 ≤ i + 1 := by
  have h1 := i32_succ c
  have h2 := Int32.le_iff_toInt_le.mp h
  have e0 : (0 : Int32).toInt = 0 := by decide
  exact Int32.le_iff_toInt_le.mpr (by omega)
theorem i32_ls {i e j : Int32} (c : i < e) : j < i + 1 ↔ j < i ∨ j = i := by
  have h5 := i32_succ c
  constructor
  · intro q
    have h4 := Int32.lt_iff_toInt_lt.mp q
    by_cases hq : j = i
    · exact Or.inr hq
    · have h6 : ¬ j.toInt = i.toInt := fun z => hq (Int32.toInt_inj.mp z)
      exact Or.inl (Int32.lt_iff_toInt_lt.mpr (by omega))
  · intro q
    apply Int32.lt_iff_toInt_lt.mpr
    rcases q with q | q
    · have := Int32.lt_iff_toInt_lt.mp q; omega
    · rw [q]; omega
/-- a place of a table -/
abbrev gin (R C r c : Int32) : Prop := 0 ≤ r ∧ r < R ∧ 0 ≤ c ∧ c < C
def gv (h : aH) (a : Nat) (R C r c : Int32) : Int32 := if gin R C r c then rdA h a (r * C + c) else 0
def gS (R C : Int32) (f : Int32 → Int32 → Int32) (r c v : Int32) : Int32 → Int32 → Int32 := fun r' c' => if gin R C r c ∧ r' = r ∧ c' = c then v else f r' c'
abbrev gA (R C : Int32) (f : Int32 → Int32 → Int32) (r c v : Int32) : Int32 → Int32 → Int32 := gS R C f r c (f r c + v)
def gAll (R C v : Int32) : Int32 → Int32 → Int32 := fun r c => if gin R C r c then v else 0
def gRow (R C : Int32) (f : Int32 → Int32 → Int32) (r v : Int32) : Int32 → Int32 → Int32 := fun r' c' => if gin R C r' c' ∧ r' = r then v else f r' c'
structure Ty where
  played : Int32
  score : Int32
  outs : Int32
  extras : Int32
  nobodys : Int32
  allowed : Int32
  means : Int32
  ended : Int32
  begun : Int32
  whole : Int32
  opn : Int32
  counted : Int32
  bowler : Int32
  faces : Int32
  other : Int32
  next : Int32
  bat : Int32 → Int32 → Int32
  bow : Int32 → Int32 → Int32
  ov : Int32 → Int32 → Int32
def tyOf (a : Nat) (h : aH) : Ty := ⟨hF h 1003 a, hF h 1004 a, hF h 1005 a, hF h 1006 a, hF h 1007 a, hF h 1008 a, hF h 1009 a, hF h 1010 a, hF h 1011 a, hF h 1012 a, hF h 1013 a, hF h 1014 a, hF h 1015 a, hF h 1016 a, hF h 1017 a, hF h 1018 a, gv h (a + 2) 11 3, gv h (a + 4) 11 3, gv h (a + 6) 120 5⟩
def tb (b w : Int32) : Int32 := ((((1000 * ((100 - (w * w)).toInt64)) * b.toInt64) * ((1440 - b).toInt64)) / 51840000).toInt32
abbrev kc (k : Int32) : Prop := k = 0 ∨ k = 3 ∨ k = 4 ∨ k = 6
namespace Ty
def sPlayed (T : Ty) (v : Int32) : Ty := { T with played := v }
def sScore (T : Ty) (v : Int32) : Ty := { T with score := v }
def sOuts (T : Ty) (v : Int32) : Ty := { T with outs := v }
def sExtras (T : Ty) (v : Int32) : Ty := { T with extras := v }
def sNobodys (T : Ty) (v : Int32) : Ty := { T with nobodys := v }
def sAllowed (T : Ty) (v : Int32) : Ty := { T with allowed := v }
def sMeans (T : Ty) (v : Int32) : Ty := { T with means := v }
def sEnded (T : Ty) (v : Int32) : Ty := { T with ended := v }
def sBegun (T : Ty) (v : Int32) : Ty := { T with begun := v }
def sWhole (T : Ty) (v : Int32) : Ty := { T with whole := v }
def sOpn (T : Ty) (v : Int32) : Ty := { T with opn := v }
def sCounted (T : Ty) (v : Int32) : Ty := { T with counted := v }
def sBowler (T : Ty) (v : Int32) : Ty := { T with bowler := v }
def sFaces (T : Ty) (v : Int32) : Ty := { T with faces := v }
def sOther (T : Ty) (v : Int32) : Ty := { T with other := v }
def sNext (T : Ty) (v : Int32) : Ty := { T with next := v }
def sBat (T : Ty) (v : Int32 → Int32 → Int32) : Ty := { T with bat := v }
def sBow (T : Ty) (v : Int32 → Int32 → Int32) : Ty := { T with bow := v }
def sOv (T : Ty) (v : Int32 → Int32 → Int32) : Ty := { T with ov := v }
def zero (o : Int32 → Int32 → Int32) : Ty := ⟨0, 0, 0, 0, 0, 0, 0, 0, 0, 0, 0, 0, -1, -1, -1, 0, gAll 11 3 0, gAll 11 3 0, o⟩
def left (T : Ty) : Int32 := 6 * (T.allowed - T.whole) - T.counted
def begin (n : Int32) (T : Ty) : Ty := (((((((T.sPlayed 1).sAllowed n).sMeans (tb (6 * n) 0)).sFaces 0).sOther 1).sNext 2).sBat (gS 11 3 T.bat 0 2 1)).sBat (gS 11 3 (gS 11 3 T.bat 0 2 1) 1 2 1)
def chg (T : Ty) : Ty := (T.sFaces T.other).sOther T.faces
def cross (v : Int32) (T : Ty) : Ty := if v - v / 2 * 2 = 0 then T else T.chg
def hit (v : Int32) (T : Ty) : Ty := cross v (((T.sBat (gA 11 3 T.bat T.faces 0 v)).sBow (gA 11 3 T.bow T.bowler 1 v)).sScore (T.score + v))
def concede (T : Ty) : Ty := ((T.sBow (gA 11 3 T.bow T.bowler 1 1)).sExtras (T.extras + 1)).sScore (T.score + 1)
def nob (v : Int32) (T : Ty) : Ty := cross v (((T.sNobodys (T.nobodys + v)).sExtras (T.extras + v)).sScore (T.score + v))
def end44 (T : Ty) : Ty := ((T.sWhole (T.whole + 1)).sCounted 0).chg
def endO (T : Ty) : Ty := (T.sOv (gS 120 5 T.ov (T.begun - 1) 3 1)).end44
def endP (T : Ty) : Ty := (((T.sOv (gS 120 5 T.ov (T.begun - 1) 3 1)).sOv (gS 120 5 (gS 120 5 T.ov (T.begun - 1) 3 1) (T.begun - 1) 4 1)).sOpn (T.opn + 1)).end44
def fin (wf c : Int32) (T : Ty) : Ty := if wf = 0 then T.sOther c else T.sFaces c
def leave1 (wf : Int32) (T : Ty) : Ty := if 10 ≤ T.outs then T.fin wf (-1) else ((T.sNext (T.next + 1)).sBat (gS 11 3 T.bat T.next 2 1)).fin wf T.next
def leave (wf how : Int32) (T : Ty) : Ty := leave1 wf (((T.sBat (gS 11 3 T.bat (if wf = 0 then T.other else T.faces) 2 how)).sOuts (T.outs + 1)).sOv (gA 120 5 T.ov (T.begun - 1) 1 1))
def away (v : Int32) (T : Ty) : Ty := (T.sAllowed (T.allowed - v)).sMeans (T.means - (tb T.left T.outs - tb (T.sAllowed (T.allowed - v)).left T.outs))
def begO1 (b : Int32) (T : Ty) : Ty := (((T.sOv (gRow 120 5 T.ov T.begun 0)).sBegun (T.begun + 1)).sBowler b).sBow (gA 11 3 T.bow b 0 1)
def begO2 (b s : Int32) (T : Ty) : Ty := if s < 0 then (T.begO1 b).endP else T.begO1 b
def begO (b s : Int32) (T : Ty) : Ty := if T.begun ≤ T.whole then T.begO2 b s else T.endP.begO2 b s
def ent1 (k : Int32) (T : Ty) : Ty := if kc k ∨ k = 2 then T.sBat (gA 11 3 T.bat T.faces 1 1) else T
def ent2 (k v : Int32) (T : Ty) : Ty := if k = 0 then T.hit v else if k = 1 then T.concede.nob v else if k = 2 then T.concede.hit v else if k = 3 then (T.sBow (gA 11 3 T.bow T.bowler 2 1)).leave 1 (2 + v) else if k = 4 then (if v - v / 2 * 2 = 0 then (T.hit (v / 2)).leave 1 6 else (T.hit (v / 2)).leave 0 6) else if k = 6 then T.nob v else if k = 8 then T.away v else T
def ent3b (T : Ty) : Ty := (T.sCounted (T.counted + 1)).sOv (gS 120 5 T.ov (T.begun - 1) 2 (T.counted + 1))
def ent3 (k s : Int32) (T : Ty) : Ty := if kc k then (T.sOv (gA 120 5 T.ov (T.begun - 1) 0 (T.score - s))).ent3b else T.sOv (gA 120 5 T.ov (T.begun - 1) 0 (T.score - s))
def ent4 (T : Ty) : Ty := if T.counted = 6 then T.endO else T
def ent (c : Int32) (T : Ty) : Ty := (((T.ent1 (c / 16)).ent2 (c / 16) (c - c / 16 * 16)).ent3 (c / 16) T.score).ent4
def ruleO (b m : Int32) (T : Ty) : Int32 := if T.ended = 0 ∧ T.begun < T.allowed then (if 0 ≤ b ∧ b < 11 then (if b = T.bowler then 5 else if T.bow b 0 < m then 0 else 6) else 4) else 3
def isE (k v : Int32) : Prop := 0 ≤ k ∧ k ≤ 9 ∧ lvLi k.toNatClampNeg ≤ v ∧ v ≤ lvMi k.toNatClampNeg
instance (k v : Int32) : Decidable (isE k v) := by unfold isE; infer_instance
def ruleE (c rn : Int32) (T : Ty) : Int32 := if isE (c / 16) (c - c / 16 * 16) then (if T.ended = 0 then (if T.whole = T.begun ∧ (kc (c / 16) ∨ c / 16 = 1 ∨ c / 16 = 2) then 9 else if c / 16 = 8 ∧ (rn = 0 ∨ T.allowed - (c - c / 16 * 16) < T.begun) then 10 else 0) else 8) else 7
end Ty
/-! the heap's tables -/
theorem rc_inj {R C N r c r' c' : Int32} (hx : ∀ r c r' c' : Int32, gin R C r c → gin R C r' c' → r * C + c = r' * C + c' → r = r' ∧ c = c') (h1 : gin R C r c) (h2 : gin R C r' c') : r * C + c = r' * C + c' ↔ r = r' ∧ c = c' := ⟨hx r c r' c' h1 h2, fun q => by rw [q.1, q.2]⟩
def GIj (R C : Int32) : Prop := ∀ r c r' c' : Int32, gin R C r c → gin R C r' c' → r * C + c = r' * C + c' → r = r' ∧ c = c'
theorem gij_11_3 : GIj 11 3 := by intro r c r' c' h1 h2 h; obtain ⟨_, _, _, _⟩ := h1; obtain ⟨_, _, _, _⟩ := h2; constructor <;> grind
theorem gij_120_5 : GIj 120 5 := by intro r c r' c' h1 h2 h; obtain ⟨_, _, _, _⟩ := h1; obtain ⟨_, _, _, _⟩ := h2; constructor <;> grind
theorem gij_2_11 : GIj 2 11 := by intro r c r' c' h1 h2 h; obtain ⟨_, _, _, _⟩ := h1; obtain ⟨_, _, _, _⟩ := h2; constructor <;> grind
theorem gij_4_6 : GIj 4 6 := by intro r c r' c' h1 h2 h; obtain ⟨_, _, _, _⟩ := h1; obtain ⟨_, _, _, _⟩ := h2; constructor <;> grind
theorem gij_60_30 : GIj 60 30 := by intro r c r' c' h1 h2 h; obtain ⟨_, _, _, _⟩ := h1; obtain ⟨_, _, _, _⟩ := h2; constructor <;> grind
theorem gv_set {h : aH} {a : Nat} {R C N r c v : Int32} (hi : GIx R C N) (hj : GIj R C) (hc : gin R C r c) : gv (wrA h a (r * C + c) v) a R C = gS R C (gv h a R C) r c v := by
  funext r' c'
  unfold gv gS
  dsimp only
  have h0 := (hi r c hc.1 hc.2.1 hc.2.2.1 hc.2.2.2).1
  by_cases h1 : gin R C r' c'
  · rw [if_pos h1, if_pos h1, rdA_wr h0]
    by_cases h2 : r' = r ∧ c' = c
    · rw [if_pos ⟨rfl, by rw [h2.1, h2.2]⟩, if_pos ⟨hc, h2⟩]
    · rw [if_neg (fun q => h2 (hj r' c' r c h1 hc q.2)), if_neg (fun q => h2 q.2)]
  · rw [if_neg h1, if_neg h1, if_neg (fun q => h1 (by rw [q.2.1, q.2.2]; exact hc))]
theorem gv_wr_ne {h : aH} {a b : Nat} {R C i v : Int32} (hi : 0 ≤ i) (hb : b ≠ a) : gv (wrA h a i v) b R C = gv h b R C := by
  funext r' c'
  unfold gv
  by_cases h1 : gin R C r' c'
  · rw [if_pos h1, if_pos h1, rdA_wr hi, if_neg (fun q => hb q.1)]
  · rw [if_neg h1, if_neg h1]
theorem gS_out {R C r c v : Int32} {f : Int32 → Int32 → Int32} (hc : ¬ gin R C r c) : gS R C f r c v = f := by
  funext r' c'
  unfold gS
  rw [if_neg (fun q => hc q.1)]

/-! loops over tables -/
theorem i32_ofN {n : Nat} {N : Int32} (h : (n : Int) = N.toInt) : Int32.ofNat n = N := by
  apply Int32.toInt_inj.mp
  have h1 := Int32.toInt_lt N
  have h2 : (Int32.ofNat n).toInt = (n : Int).bmod (2 ^ 32) := Int32.toInt_ofNat
  rw [h2, Int.bmod_eq_of_le (by omega) (by omega)]
  exact h
theorem gr_fill {g : Nat} {R C N v : Int32} {h0 : aH} : ∀ n i, (N.toInt - i.toInt).toNat < n → ∀ h : aH, 0 ≤ i → GrS h g R C N → frn (g + 1) 1 h0 h → (∀ j : Int32, 0 ≤ j → j < i → rdA h (g + 1) j = v) → ∃ h', F_X4_fill_2 n g v i h = some h' ∧ GrS h' g R C N ∧ frn (g + 1) 1 h0 h' ∧ ∀ j : Int32, 0 ≤ j → j < N → rdA h' (g + 1) j = v := by
  refine i32_up ?_ ?_
  · intro n i hi h h1 hg hf hr
    unfold F_X4_fill_2
    have hg' := hg
    obtain ⟨g1, g2, g3, g4, g5, g6⟩ := hg
    rw [ck_t g1, g4, Option.bind_some, ck_t g5, if_pos (by rw [i32_ofN g6]; exact hi)]
    exact ⟨h, rfl, hg', hf, fun j h2 h3 => hr j h2 (by grind)⟩
  · intro n i hi ih h h1 hg hf hr
    unfold F_X4_fill_2
    have hg' := hg
    obtain ⟨g1, g2, g3, g4, g5, g6⟩ := hg
    rw [ck_t g1, g4, Option.bind_some, ck_t g5, if_neg (by rw [i32_ofN g6]; grind), Option.bind_some, ck_t ⟨g5, in_nat g6 ⟨h1, hi⟩⟩, bd_e, bd_e]
    refine ih (wrA h (g + 1) i v) (i32_ps h1 hi) hg'.wr (hf.trans (frn_wr ⟨by omega, by omega⟩)) ?_
    intro j h2 h3
    rw [rdA_wr h1]
    by_cases hj : j = i
    · rw [if_pos ⟨rfl, hj⟩]
    · rw [if_neg (fun q => hj q.2)]
      exact hr j h2 (((i32_ls hi).mp h3).resolve_right hj)
theorem gr_fillA {g : Nat} {R C N v : Int32} {h : aH} (hg : GrS h g R C N) (hi : GIx R C N) (hN : N.toInt < 100000) : ∃ h', F_X4_fill g v h = some h' ∧ GrS h' g R C N ∧ frn (g + 1) 1 h h' ∧ gv h' (g + 1) R C = gAll R C v := by
  have e0 : (0 : Int32).toInt = 0 := by decide
  obtain ⟨h', f1, f2, f3, f4⟩ := gr_fill (g := g) (R := R) (C := C) (N := N) (v := v) (h0 := h) fu 0 (by unfold fu; omega) h (by decide) hg (frn.refl _ _ _) (fun j h1 h2 => by grind)
  refine ⟨h', f1, f2, f3, ?_⟩
  funext r c
  unfold gv gAll
  by_cases hc : gin R C r c
  · have := hi r c hc.1 hc.2.1 hc.2.2.1 hc.2.2.2
    rw [if_pos hc, if_pos hc, f4 _ this.1 this.2]
  · rw [if_neg hc, if_neg hc]
theorem gr_set1 {g : Nat} {R C N r c v : Int32} {h : aH} (hg : GrS h g R C N) (hi : GIx R C N) (hj : GIj R C) : ∃ h', F_X4_set g r c v h = some h' ∧ GrS h' g R C N ∧ frn (g + 1) 1 h h' ∧ gv h' (g + 1) R C = gS R C (gv h (g + 1) R C) r c v := by
  rw [gr_set hg hi]
  refine ⟨_, rfl, ?_⟩
  by_cases hc : gin R C r c
  · rw [if_pos hc]
    exact ⟨hg.wr, frn_wr ⟨by omega, by omega⟩, gv_set hi hj hc⟩
  · rw [if_neg hc, gS_out hc]
    exact ⟨hg, frn.refl _ _ _, rfl⟩
theorem gr_add1 {g : Nat} {R C N r c v : Int32} {h : aH} (hg : GrS h g R C N) (hi : GIx R C N) (hj : GIj R C) : ∃ h', F_X4_add g r c v h = some h' ∧ GrS h' g R C N ∧ frn (g + 1) 1 h h' ∧ gv h' (g + 1) R C = gA R C (gv h (g + 1) R C) r c v := by
  rw [gr_add hg hi]
  refine ⟨_, rfl, ?_⟩
  by_cases hc : gin R C r c
  · rw [if_pos hc]
    refine ⟨hg.wr, frn_wr ⟨by omega, by omega⟩, ?_⟩
    have e : gv h (g + 1) R C r c = rdA h (g + 1) (r * C + c) := if_pos hc
    rw [gv_set hi hj hc, gA, e]
  · rw [if_neg hc, gA, gS_out hc]
    exact ⟨hg, frn.refl _ _ _, rfl⟩
theorem gr_fillRow {g : Nat} {R C N r v : Int32} {h0 : aH} (hi : GIx R C N) (hj : GIj R C) : ∀ n i, (C.toInt - i.toInt).toNat < n → ∀ h : aH, 0 ≤ i → GrS h g R C N → frn (g + 1) 1 h0 h → gv h (g + 1) R C = (fun r' c' => if gin R C r' c' ∧ r' = r ∧ c' < i then v else gv h0 (g + 1) R C r' c') → ∃ h', F_X4_fillRow_2 n g r v i h = some h' ∧ GrS h' g R C N ∧ frn (g + 1) 1 h0 h' ∧ gv h' (g + 1) R C = gRow R C (gv h0 (g + 1) R C) r v := by
  refine i32_up ?_ ?_
  · intro n i hc h h1 hg hf hr
    unfold F_X4_fillRow_2
    have g1 := hg.1
    have g3 := hg.2.2.1
    rw [ck_t g1, g3, if_pos hc]
    refine ⟨h, rfl, hg, hf, ?_⟩
    rw [hr]
    funext r' c'
    unfold gRow
    by_cases q : gin R C r' c' ∧ r' = r
    · rw [if_pos q, if_pos ⟨q.1, q.2, by have := q.1.2.2.2; grind⟩]
    · rw [if_neg q, if_neg (fun z => q ⟨z.1, z.2.1⟩)]
  · intro n i hc ih h h1 hg hf hr
    unfold F_X4_fillRow_2
    have g1 := hg.1
    have g3 := hg.2.2.1
    rw [ck_t g1, g3, if_neg (by grind)]
    obtain ⟨h2, e2, hg2, hf2, hv2⟩ := gr_set1 (r := r) (c := i) (v := v) hg hi hj
    rw [e2, Option.bind_some, bd_e]
    refine ih h2 (i32_ps h1 hc) hg2 (hf.trans hf2) ?_
    rw [hv2, hr]
    funext r' c'
    unfold gS
    dsimp only
    have key : c' < i + 1 ↔ c' < i ∨ c' = i := i32_ls hc
    by_cases q : gin R C r' c' ∧ r' = r
    · obtain ⟨q1, q2⟩ := q
      by_cases q3 : c' = i
      · subst q2 q3
        rw [if_pos ⟨q1, rfl, rfl⟩, if_pos ⟨q1, rfl, key.mpr (Or.inr rfl)⟩]
      · rw [if_neg (fun z => q3 z.2.2)]
        by_cases q4 : c' < i
        · rw [if_pos ⟨q1, q2, q4⟩, if_pos ⟨q1, q2, key.mpr (Or.inl q4)⟩]
        · rw [if_neg (fun z => q4 z.2.2), if_neg (fun z => (key.mp z.2.2).elim q4 q3)]
    · rw [if_neg (fun z => q ⟨by have := z.1; rw [z.2.1, z.2.2]; exact this, z.2.1⟩), if_neg (fun z => q ⟨z.1, z.2.1⟩), if_neg (fun z => q ⟨z.1, z.2.1⟩)]
theorem gr_row1 {g : Nat} {R C N r v : Int32} {h : aH} (hg : GrS h g R C N) (hi : GIx R C N) (hj : GIj R C) (hC : C.toInt < 1000) : ∃ h', F_X4_fillRow g r v h = some h' ∧ GrS h' g R C N ∧ frn (g + 1) 1 h h' ∧ gv h' (g + 1) R C = gRow R C (gv h (g + 1) R C) r v := by
  have e0 : (0 : Int32).toInt = 0 := by decide
  refine gr_fillRow hi hj fu 0 (by unfold fu; omega) h (by decide) hg (frn.refl _ _ _) ?_
  funext r' c'
  rw [if_neg (fun z => by have := z.1.2.2.1; have := z.2.2; grind)]
