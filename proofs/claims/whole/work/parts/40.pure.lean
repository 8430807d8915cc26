/-! THE REFERENCE AS PURE FUNCTIONS (wip/tools/genP.py): its ints by number, its rows by number and place -/
abbrev mE : Type := (Nat → Int32) × (Nat → Int32 → Int32)
def mo (k : Nat) : Nat := ([0, 0, 0, 1, 2, 3, 4, 5, 6, 7, 8, 0, 9, 10, 11, 12, 0, 13, 0, 0, 0, 14, 15, 16, 17, 18, 19, 20, 0, 0, 0, 0, 0, 0, 0, 21, 22, 23, 24, 25, 26, 27, 28, 29, 30, 31, 32, 33, 34, 35, 36, 37, 38, 39, 40, 41, 42, 43, 44, 45, 46, 47, 48, 49, 50, 0, 0, 51, 52, 0, 53, 54] : List Nat).getD k 0
def mk (k : Nat) : Nat := ([0, 0, 0, 21, 21, 21, 21, 21, 21, 21, 21, 0, 21, 21, 21, 21, 0, 21, 0, 0, 0, 21, 21, 21, 21, 21, 21, 21, 0, 0, 0, 0, 0, 0, 0, 21, 21, 21, 21, 21, 21, 21, 21, 21, 21, 21, 21, 21, 21, 21, 21, 21, 22, 21, 21, 21, 21, 21, 21, 21, 21, 21, 22, 22, 22, 0, 0, 21, 21, 0, 21, 21] : List Nat).getD k 0
def ml (k : Nat) : Nat := ([0, 0, 0, 60, 800, 400, 400, 8800, 400, 1600, 208000, 0, 6000, 6000, 240000, 6000, 0, 8000, 0, 0, 0, 40, 40, 40, 40, 40, 40, 1600, 0, 0, 0, 0, 0, 0, 0, 4, 4, 4, 4, 4, 4, 4, 4, 4, 4, 4, 4, 4, 4, 4, 4, 4, 4, 44, 44, 44, 44, 44, 44, 6000, 6000, 6000, 6000, 6000, 6000, 0, 0, 6, 1800, 0, 4, 600] : List Nat).getD k 0
theorem mo_far (k : Nat) (h : ¬ k < 72) : mo k = 0 := by
  unfold mo
  rw [List.getD_eq_getElem?_getD, List.getElem?_eq_none (Nat.not_lt.mp h)]
  rfl
theorem mo_inj2 : ∀ j, j < 72 → ∀ k, k < 72 → mo j = mo k → 0 < mo k → j = k := by decide +kernel
theorem mo_inj {j k : Nat} (h : mo j = mo k) (hk : 0 < mo k) : j = k := by
  by_cases h1 : j < 72
  · by_cases h2 : k < 72
    · exact mo_inj2 j h1 k h2 h hk
    · rw [mo_far k h2] at hk; omega
  · rw [mo_far j h1] at h; omega
theorem mo_le2 : ∀ j, j < 72 → mo j < 55 := by decide +kernel
theorem mo_le (j : Nat) : mo j < 55 := by
  by_cases h1 : j < 72
  · exact mo_le2 j h1
  · rw [mo_far j h1]; decide
def mS (e : mE) (k : Nat) (v : Int32) : mE := (fun j => if j = k then v else e.1 j, e.2)
def mA (e : mE) (k : Nat) (i v : Int32) : mE := (e.1, fun j b => if j = k ∧ b = i then v else e.2 j b)
def menv (t : Nat) (h : aH) : mE := (fun k => hF h (1300 + k) t, fun k i => if 0 ≤ i then hI h (t + mo k) i.toNatClampNeg else 0)
def MS (t : Nat) (h : aH) : Prop := hK h t = 14 ∧ ∀ k, 0 < mo k → hG h (1300 + k) t = some (t + mo k) ∧ hK h (t + mo k) = mk k ∧ hN h (t + mo k) = ml k
/-- only the reference's own ints changed -/
def fr (t : Nat) (h h' : aH) : Prop := h'.1 = h.1 ∧ h'.2.2.1 = h.2.2.1 ∧ h'.2.2.2.1 = h.2.2.2.1 ∧ h'.2.2.2.2.2 = h.2.2.2.2.2 ∧ ∀ a, ¬ (t ≤ a ∧ a < t + 55) → (∀ f, hF h' f a = hF h f a) ∧ ∀ i, hI h' a i = hI h a i
theorem fr.refl (t : Nat) (h : aH) : fr t h h := ⟨rfl, rfl, rfl, rfl, fun _ _ => ⟨fun _ => rfl, fun _ => rfl⟩⟩
theorem fr.trans {t : Nat} {h h1 h2 : aH} (a : fr t h h1) (b : fr t h1 h2) : fr t h h2 := ⟨b.1.trans a.1, b.2.1.trans a.2.1, b.2.2.1.trans a.2.2.1, b.2.2.2.1.trans a.2.2.2.1, fun q hq => ⟨fun f => ((b.2.2.2.2 q hq).1 f).trans ((a.2.2.2.2 q hq).1 f), fun i => ((b.2.2.2.2 q hq).2 i).trans ((a.2.2.2.2 q hq).2 i)⟩⟩
theorem MS.fr {t : Nat} {h h' : aH} (m : MS t h) (a : fr t h h') : MS t h' := by
  have k1 : hK h' = hK h := a.1
  have k2 : hG h' = hG h := a.2.1
  have k3 : hN h' = hN h := a.2.2.1
  unfold MS
  rw [k1, k2, k3]
  exact m
def Gl {α : Type} (t : Nat) (h0 : aH) (X : Option (α × aH)) (r : α) (e' : mE) : Prop := ∃ h' : aH, X = some (r, h') ∧ menv t h' = e' ∧ MS t h' ∧ fr t h0 h'
def Glv (t : Nat) (h0 : aH) (X : Option aH) (e' : mE) : Prop := ∃ h' : aH, X = some h' ∧ menv t h' = e' ∧ MS t h' ∧ fr t h0 h'
theorem mtr {t : Nat} {h : aH} {e e' : mE} (a : menv t h = e) (b : e' = e) : menv t h = e' := a.trans b.symm
theorem mrd {t : Nat} {h : aH} (k : Nat) {i : Int32} (hi : 0 ≤ i) : (menv t h).2 k i = hI h (t + mo k) i.toNatClampNeg := if_pos hi
theorem in_of {h : aH} {a n : Nat} {i m : Int32} (hn : hN h a = n) (hm : m.toInt = (n : Int)) (c : (0 : Int32) ≤ i ∧ i < m) : inR i (hN h a) := by
  have h1 := Int32.le_iff_toInt_le.mp c.1
  have h2 := Int32.lt_iff_toInt_lt.mp c.2
  have h3 : (0 : Int32).toInt = 0 := by decide
  rw [hn]
  intro q
  rcases q with q | q
  · have := Int32.lt_iff_toInt_lt.mp q
    omega
  · have h4 : (i.toNatClampNeg : Int) = i.toInt := by
      show ((i.toInt.toNat : Nat) : Int) = i.toInt
      omega
    omega
theorem tnc_inj {i j : Int32} (hi : 0 ≤ i) (hj : 0 ≤ j) (h : i.toNatClampNeg = j.toNatClampNeg) : i = j := by
  have h1 := Int32.le_iff_toInt_le.mp hi
  have h2 := Int32.le_iff_toInt_le.mp hj
  have h3 : (0 : Int32).toInt = 0 := by decide
  have h4 : i.toInt.toNat = j.toInt.toNat := h
  exact Int32.toInt_inj.mp (by omega)
theorem fr_sF {t : Nat} {h : aH} (k : Nat) (v : Int32) : fr t h (sF h (1300 + k) t v) := ⟨rfl, rfl, rfl, rfl, fun a ha => ⟨fun f => if_neg (fun q => ha (by omega)), fun _ => rfl⟩⟩
theorem menv_sF {t : Nat} {h : aH} (k : Nat) (v : Int32) : menv t (sF h (1300 + k) t v) = mS (menv t h) k v := by
  refine Prod.ext (funext fun j => ?_) rfl
  show (if 1300 + j = 1300 + k ∧ t = t then v else hF h (1300 + j) t) = if j = k then v else hF h (1300 + j) t
  by_cases hj : j = k
  · rw [if_pos ⟨by omega, rfl⟩, if_pos hj]
  · rw [if_neg (fun q => hj (by omega)), if_neg hj]
theorem fr_sI {t : Nat} {h : aH} (k n : Nat) (v : Int32) : fr t h (sI h (t + mo k) n v) := ⟨rfl, rfl, rfl, rfl, fun a ha => ⟨fun _ => rfl, fun i => if_neg (fun q => ha (by have := mo_le k; omega))⟩⟩
theorem menv_sI {t : Nat} {h : aH} (k : Nat) (hk : 0 < mo k) {i : Int32} (hi : 0 ≤ i) (v : Int32) : menv t (sI h (t + mo k) i.toNatClampNeg v) = mA (menv t h) k i v := by
  refine Prod.ext rfl (funext fun j => funext fun b => ?_)
  show (if 0 ≤ b then (if t + mo j = t + mo k ∧ b.toNatClampNeg = i.toNatClampNeg then v else hI h (t + mo j) b.toNatClampNeg) else 0) = if j = k ∧ b = i then v else if 0 ≤ b then hI h (t + mo j) b.toNatClampNeg else 0
  by_cases hb : 0 ≤ b
  · rw [if_pos hb, if_pos hb]
    by_cases hj : j = k ∧ b = i
    · rw [if_pos ⟨by rw [hj.1], by rw [hj.2]⟩, if_pos hj]
    · rw [if_neg hj, if_neg (fun q => hj ⟨mo_inj (by omega) hk, tnc_inj hb hi q.2⟩)]
  · rw [if_neg hb, if_neg hb, if_neg (fun q => hb (by rw [q.2]; exact hi))]
section GL
variable {α β : Type} {t : Nat} {h0 : aH} {r : α} {e' : mE}
theorem glr_ck {P : Prop} [Decidable P] (hp : P) {f : Unit → Option β} : (ck P).bind f = f () := by unfold ck; rw [if_pos hp]; rfl
end GL
theorem gl_ck {α : Type} {t : Nat} {h0 : aH} {r : α} {e' : mE} {P : Prop} [Decidable P] (hp : P) {f : Unit → Option (α × aH)} (k : Gl t h0 (f ()) r e') : Gl t h0 ((ck P).bind f) r e' := by rw [glr_ck hp]; exact k
theorem gl_o {α β : Type} {t : Nat} {h0 : aH} {r : α} {e' : mE} {X : Option β} {b : β} (hx : X = some b) {f : β → Option (α × aH)} (k : Gl t h0 (f b) r e') : Gl t h0 (X.bind f) r e' := by rw [hx]; exact k
theorem gl_bd {α β : Type} {t : Nat} {h0 : aH} {r : α} {e' : mE} {x : β} {f : β → Option (α × aH)} (k : Gl t h0 (f x) r e') : Gl t h0 (bd x f) r e' := k
theorem gl_bdv {α β : Type} {t : Nat} {h0 : aH} {r : α} {e' : mE} {x z : β} (hz : z = x) {f : β → Option (α × aH)} (k : Gl t h0 (f z) r e') : Gl t h0 (bd x f) r e' := by subst hz; exact k
theorem gl_ite {α : Type} {t : Nat} {h0 : aH} {r : α} {e' : mE} {c : Prop} [Decidable c] {A B : Option (α × aH)} (k1 : c → Gl t h0 A r e') (k2 : ¬ c → Gl t h0 B r e') : Gl t h0 (if c then A else B) r e' := by
  by_cases hc : c
  · rw [if_pos hc]; exact k1 hc
  · rw [if_neg hc]; exact k2 hc
theorem gl_sF {α : Type} {t : Nat} {h0 : aH} {r : α} {e' : mE} {h : aH} (k : Nat) {v : Int32} {f : aH → Option (α × aH)} (hm : MS t h) (ff : fr t h0 h) (kk : ∀ h1 : aH, MS t h1 → fr t h0 h1 → menv t h1 = mS (menv t h) k v → Gl t h0 (f h1) r e') : Gl t h0 (bd (sF h (1300 + k) t v) f) r e' := kk _ (hm.fr (fr_sF k v)) (ff.trans (fr_sF k v)) (menv_sF k v)
theorem gl_sI {α : Type} {t : Nat} {h0 : aH} {r : α} {e' : mE} {h : aH} (k : Nat) {i v : Int32} {f : aH → Option (α × aH)} (hm : MS t h) (ff : fr t h0 h) (hk : 0 < mo k) (hi : 0 ≤ i) (kk : ∀ h1 : aH, MS t h1 → fr t h0 h1 → menv t h1 = mA (menv t h) k i v → Gl t h0 (f h1) r e') : Gl t h0 (bd (sI h (t + mo k) i.toNatClampNeg v) f) r e' := kk _ (hm.fr (fr_sI k _ v)) (ff.trans (fr_sI k _ v)) (menv_sI k hk hi v)
theorem gl_ckV {t : Nat} {h0 : aH} {e' : mE} {P : Prop} [Decidable P] (hp : P) {f : Unit → Option aH} (k : Glv t h0 (f ()) e') : Glv t h0 ((ck P).bind f) e' := by rw [glr_ck hp]; exact k
theorem gl_oV {β : Type} {t : Nat} {h0 : aH} {e' : mE} {X : Option β} {b : β} (hx : X = some b) {f : β → Option aH} (k : Glv t h0 (f b) e') : Glv t h0 (X.bind f) e' := by rw [hx]; exact k
theorem gl_bdV {β : Type} {t : Nat} {h0 : aH} {e' : mE} {x : β} {f : β → Option aH} (k : Glv t h0 (f x) e') : Glv t h0 (bd x f) e' := k
theorem gl_bdvV {β : Type} {t : Nat} {h0 : aH} {e' : mE} {x z : β} (hz : z = x) {f : β → Option aH} (k : Glv t h0 (f z) e') : Glv t h0 (bd x f) e' := by subst hz; exact k
theorem gl_iteV {t : Nat} {h0 : aH} {e' : mE} {c : Prop} [Decidable c] {A B : Option aH} (k1 : c → Glv t h0 A e') (k2 : ¬ c → Glv t h0 B e') : Glv t h0 (if c then A else B) e' := by
  by_cases hc : c
  · rw [if_pos hc]; exact k1 hc
  · rw [if_neg hc]; exact k2 hc
theorem gl_sFV {t : Nat} {h0 : aH} {e' : mE} {h : aH} (k : Nat) {v : Int32} {f : aH → Option aH} (hm : MS t h) (ff : fr t h0 h) (kk : ∀ h1 : aH, MS t h1 → fr t h0 h1 → menv t h1 = mS (menv t h) k v → Glv t h0 (f h1) e') : Glv t h0 (bd (sF h (1300 + k) t v) f) e' := kk _ (hm.fr (fr_sF k v)) (ff.trans (fr_sF k v)) (menv_sF k v)
theorem gl_sIV {t : Nat} {h0 : aH} {e' : mE} {h : aH} (k : Nat) {i v : Int32} {f : aH → Option aH} (hm : MS t h) (ff : fr t h0 h) (hk : 0 < mo k) (hi : 0 ≤ i) (kk : ∀ h1 : aH, MS t h1 → fr t h0 h1 → menv t h1 = mA (menv t h) k i v → Glv t h0 (f h1) e') : Glv t h0 (bd (sI h (t + mo k) i.toNatClampNeg v) f) e' := kk _ (hm.fr (fr_sI k _ v)) (ff.trans (fr_sI k _ v)) (menv_sI k hk hi v)
theorem gl_end {α : Type} {t : Nat} {h0 h : aH} {v r : α} {e' : mE} (hm : MS t h) (ff : fr t h0 h) (HP : some (v, menv t h) = some (r, e')) : Gl t h0 (some (v, h)) r e' := by
  cases HP
  exact ⟨h, rfl, rfl, hm, ff⟩
theorem gl_endv {t : Nat} {h0 h : aH} {e' : mE} (hm : MS t h) (ff : fr t h0 h) (HP : some (menv t h) = some e') : Glv t h0 (some h) e' := by
  cases HP
  exact ⟨h, rfl, rfl, hm, ff⟩
def P_X12_thrown (e : mE) : Option (Int32 × mE) :=
  some (e.1 0, e)

def P_X12_fail (e : mE) : Option (Int32 × mE) :=
  bd (mS e 0 1) fun e1 =>
  some (0, e1)

def P_X12_side (x1 : Int32) (e : mE) : Option (Int32 × mE) :=
  bd (mS e 0 0) fun e1 =>
  if e1.1 1 = 60 then
    some ((-1), e1)
  else
    if x1 < 11 then
      some ((-1), e1)
    else
      if x1 ≤ 30 then
        (ck ((0 : Int32) ≤ (e1.1 1) ∧ (e1.1 1) < (60 : Int32))).bind fun _ =>
        bd (mA e1 3 (e1.1 1) x1) fun e9 =>
        bd (mS e9 1 ((e9.1 1) + 1)) fun e11 =>
        some ((e11.1 1) - 1, e11)
      else
        some ((-1), e1)

def P_X12_isSide (x1 : Int32) (e : mE) : Option (Int32 × mE) :=
  if x1 < 0 then
    some (0, e)
  else
    if e.1 1 ≤ x1 then
      some (0, e)
    else
      some (1, e)

def P_X12_isGame (x1 : Int32) (e : mE) : Option (Int32 × mE) :=
  if x1 < 0 then
    some (0, e)
  else
    if e.1 2 ≤ x1 then
      some (0, e)
    else
      some (1, e)

def P_X12_player (x1 : Int32) (e : mE) : Option (Int32 × mE) :=
  bd (mS e 0 0) fun e1 =>
  (P_X12_isSide x1 e1).bind fun q6 =>
  bd q6.1 fun z5 =>
  bd q6.2 fun e4 =>
  if z5 = 0 then
    some ((-1), e4)
  else
    (ck ((0 : Int32) ≤ x1 ∧ x1 < (60 : Int32))).bind fun _ =>
    if e4.2 3 x1 = 30 then
      some ((-1), e4)
    else
      (ck ((0 : Int32) ≤ x1 ∧ x1 < (60 : Int32))).bind fun _ =>
      bd (mA e4 3 x1 ((e4.2 3 x1) + 1)) fun e16 =>
      (ck ((0 : Int32) ≤ x1 ∧ x1 < (60 : Int32))).bind fun _ =>
      some ((e16.2 3 x1) - 1, e16)

def P_X12_newGame_60 : Nat → Int32 → mE → Option (mE)
  | 0, _, _ => none
  | n + 1, x5, e =>
  if 22 ≤ x5 then
    bd (mS e 2 ((e.1 2) + 1)) fun e3 =>
    some e3
  else
    (ck ((0 : Int32) ≤ ((22 * (e.1 2)) + x5) ∧ ((22 * (e.1 2)) + x5) < (8800 : Int32))).bind fun _ =>
    bd (mA e 7 ((22 * (e.1 2)) + x5) (x5 - x5 / 11 * 11)) fun e9 =>
    bd (x5 + 1) fun v11 =>
    P_X12_newGame_60 n v11 e9

def P_X12_newGame (x1 : Int32) (x2 : Int32) (x3 : Int32) (x4 : Int32) (e : mE) : Option (mE) :=
  (ck ((0 : Int32) ≤ (2 * (e.1 2)) ∧ (2 * (e.1 2)) < (800 : Int32))).bind fun _ =>
  bd (mA e 4 (2 * (e.1 2)) x1) fun e4 =>
  (ck ((0 : Int32) ≤ ((2 * (e4.1 2)) + 1) ∧ ((2 * (e4.1 2)) + 1) < (800 : Int32))).bind fun _ =>
  bd (mA e4 4 ((2 * (e4.1 2)) + 1) x2) fun e9 =>
  (ck ((0 : Int32) ≤ (e9.1 2) ∧ (e9.1 2) < (400 : Int32))).bind fun _ =>
  bd (mA e9 5 (e9.1 2) x3) fun e14 =>
  (ck ((0 : Int32) ≤ (e14.1 2) ∧ (e14.1 2) < (400 : Int32))).bind fun _ =>
  bd (mA e14 6 (e14.1 2) x4) fun e19 =>
  (ck ((0 : Int32) ≤ (e19.1 2) ∧ (e19.1 2) < (400 : Int32))).bind fun _ =>
  bd (mA e19 8 (e19.1 2) 0) fun e24 =>
  P_X12_newGame_60 fu 0 e24

def P_X12_toss (x1 : Int32) (x2 : Int32) (x3 : Int32) (x4 : Int32) (e : mE) : Option (Int32 × mE) :=
  bd (mS e 0 0) fun e1 =>
  if e1.1 2 = 400 then
    some ((-1), e1)
  else
    (P_X12_isSide x1 e1).bind fun q7 =>
    bd q7.1 fun z6 =>
    bd q7.2 fun e5 =>
    if z6 = 0 then
      some ((-1), e5)
    else
      (P_X12_isSide x2 e5).bind fun q13 =>
      bd q13.1 fun z12 =>
      bd q13.2 fun e11 =>
      if z12 = 0 then
        some ((-1), e11)
      else
        if x1 = x2 then
          some ((-1), e11)
        else
          if x3 < 1 then
            some ((-1), e11)
          else
            if 120 < x3 then
              some ((-1), e11)
            else
              if x4 < 1 then
                some ((-1), e11)
              else
                if x4 ≤ 2 then
                  (P_X12_newGame x1 x2 x3 x4 e11).bind fun e22 =>
                  some ((e22.1 2) - 1, e22)
                else
                  some ((-1), e11)

def P_X12_seat_123 (k82 : Int32 → Int32 → Int32 → Int32 → mE → Option (Int32 × mE)) (x3 : Int32) (x4 : Int32) (x5 : Int32) (x6 : Int32) (e : mE) : Option (Int32 × mE) :=
  bd (x6 + 1) fun v1 =>
  k82 x3 x4 x5 v1 e

def P_X12_seat_82 : Nat → Int32 → Int32 → Int32 → Int32 → mE → Option (Int32 × mE)
  | 0, _, _, _, _, _ => none
  | n + 1, x3, x4, x5, x6, e =>
  if 11 ≤ x6 then
    (ck ((0 : Int32) ≤ (x5 + x3) ∧ (x5 + x3) < (8800 : Int32))).bind fun _ =>
    bd (mA e 7 (x5 + x3) x4) fun e6 =>
    some (1, e6)
  else
    (ck ((0 : Int32) ≤ (x5 + x6) ∧ (x5 + x6) < (8800 : Int32))).bind fun _ =>
    if e.2 7 (x5 + x6) = x4 then
      (ck ((0 : Int32) ≤ (x5 + x3) ∧ (x5 + x3) < (8800 : Int32))).bind fun _ =>
      (ck ((0 : Int32) ≤ (x5 + x6) ∧ (x5 + x6) < (8800 : Int32))).bind fun _ =>
      bd (mA e 7 (x5 + x6) (e.2 7 (x5 + x3))) fun e19 =>
      P_X12_seat_123 (P_X12_seat_82 n) x3 x4 x5 x6 e19
    else
      P_X12_seat_123 (P_X12_seat_82 n) x3 x4 x5 x6 e

def P_X12_seat (x1 : Int32) (x2 : Int32) (x3 : Int32) (x4 : Int32) (e : mE) : Option (Int32 × mE) :=
  bd (mS e 0 0) fun e1 =>
  (P_X12_isGame x1 e1).bind fun q6 =>
  bd q6.1 fun z5 =>
  bd q6.2 fun e4 =>
  if z5 = 0 then
    some (0, e4)
  else
    if x2 < 0 then
      some (0, e4)
    else
      if 1 < x2 then
        some (0, e4)
      else
        if x3 < 0 then
          some (0, e4)
        else
          if 10 < x3 then
            some (0, e4)
          else
            if x4 < 0 then
              some (0, e4)
            else
              (ck ((0 : Int32) ≤ ((2 * x1) + x2) ∧ ((2 * x1) + x2) < (800 : Int32))).bind fun _ =>
              (ck ((0 : Int32) ≤ (e4.2 4 ((2 * x1) + x2)) ∧ (e4.2 4 ((2 * x1) + x2)) < (60 : Int32))).bind fun _ =>
              if e4.2 3 (e4.2 4 ((2 * x1) + x2)) ≤ x4 then
                some (0, e4)
              else
                (ck ((0 : Int32) ≤ x1 ∧ x1 < (400 : Int32))).bind fun _ =>
                if e4.2 8 x1 ≤ 0 then
                  bd ((22 * x1) + (11 * x2)) fun v25 =>
                  P_X12_seat_82 fu x3 x4 v25 0 e4
                else
                  some (0, e4)

def P_X12_table (x0 : Int32) (x1 : Int32) (e : mE) : Option (Int32 × mE) :=
  some (((((1000 * ((100 - (x1 * x1)).toInt64)) * x0.toInt64) * ((1440 - x0).toInt64)) / 51840000).toInt32, e)

def P_X12_left (x1 : Int32) (e : mE) : Option (Int32 × mE) :=
  (ck ((0 : Int32) ≤ x1 ∧ x1 < (4 : Int32))).bind fun _ =>
  (ck ((0 : Int32) ≤ x1 ∧ x1 < (4 : Int32))).bind fun _ =>
  (ck ((0 : Int32) ≤ x1 ∧ x1 < (4 : Int32))).bind fun _ =>
  some (((6 * (e.2 40 x1)) - (6 * (e.2 37 x1))) - (e.2 38 x1), e)

def P_X12_lastTurn (x1 : Int32) (e : mE) : Option (Int32 × mE) :=
  (ck ((0 : Int32) ≤ x1 ∧ x1 < (400 : Int32))).bind fun _ =>
  some ((2 * (e.2 6 x1)) - 1, e)

def P_X12_stop (x1 : Int32) (x2 : Int32) (x3 : Int32) (x4 : Int32) (e : mE) : Option (mE) :=
  bd (mS e 28 x1) fun e1 =>
  bd (mS e1 29 x2) fun e3 =>
  bd (mS e3 30 x3) fun e5 =>
  bd (mS e5 31 x4) fun e7 =>
  some e7

def P_X12_clearTurn_131 : Nat → Int32 → Int32 → mE → Option (mE)
  | 0, _, _, _ => none
  | n + 1, x1, x2, e =>
  if (11 * x1) + 11 ≤ x2 then
    some e
  else
    (ck ((0 : Int32) ≤ x2 ∧ x2 < (44 : Int32))).bind fun _ =>
    bd (mA e 53 x2 0) fun e6 =>
    (ck ((0 : Int32) ≤ x2 ∧ x2 < (44 : Int32))).bind fun _ =>
    bd (mA e6 54 x2 0) fun e11 =>
    (ck ((0 : Int32) ≤ x2 ∧ x2 < (44 : Int32))).bind fun _ =>
    bd (mA e11 55 x2 0) fun e16 =>
    (ck ((0 : Int32) ≤ x2 ∧ x2 < (44 : Int32))).bind fun _ =>
    bd (mA e16 56 x2 0) fun e21 =>
    (ck ((0 : Int32) ≤ x2 ∧ x2 < (44 : Int32))).bind fun _ =>
    bd (mA e21 57 x2 0) fun e26 =>
    (ck ((0 : Int32) ≤ x2 ∧ x2 < (44 : Int32))).bind fun _ =>
    bd (mA e26 58 x2 0) fun e31 =>
    bd (x2 + 1) fun v33 =>
    P_X12_clearTurn_131 n x1 v33 e31

def P_X12_clearTurn (x1 : Int32) (e : mE) : Option (mE) :=
  (ck ((0 : Int32) ≤ x1 ∧ x1 < (4 : Int32))).bind fun _ =>
  bd (mA e 35 x1 0) fun e4 =>
  (ck ((0 : Int32) ≤ x1 ∧ x1 < (4 : Int32))).bind fun _ =>
  bd (mA e4 36 x1 0) fun e9 =>
  (ck ((0 : Int32) ≤ x1 ∧ x1 < (4 : Int32))).bind fun _ =>
  bd (mA e9 37 x1 0) fun e14 =>
  (ck ((0 : Int32) ≤ x1 ∧ x1 < (4 : Int32))).bind fun _ =>
  bd (mA e14 38 x1 0) fun e19 =>
  (ck ((0 : Int32) ≤ x1 ∧ x1 < (4 : Int32))).bind fun _ =>
  bd (mA e19 39 x1 0) fun e24 =>
  (ck ((0 : Int32) ≤ x1 ∧ x1 < (4 : Int32))).bind fun _ =>
  bd (mA e24 40 x1 0) fun e29 =>
  (ck ((0 : Int32) ≤ x1 ∧ x1 < (4 : Int32))).bind fun _ =>
  bd (mA e29 41 x1 0) fun e34 =>
  (ck ((0 : Int32) ≤ x1 ∧ x1 < (4 : Int32))).bind fun _ =>
  bd (mA e34 42 x1 0) fun e39 =>
  (ck ((0 : Int32) ≤ x1 ∧ x1 < (4 : Int32))).bind fun _ =>
  bd (mA e39 43 x1 0) fun e44 =>
  (ck ((0 : Int32) ≤ x1 ∧ x1 < (4 : Int32))).bind fun _ =>
  bd (mA e44 44 x1 0) fun e49 =>
  (ck ((0 : Int32) ≤ x1 ∧ x1 < (4 : Int32))).bind fun _ =>
  bd (mA e49 45 x1 ((-1))) fun e54 =>
  (ck ((0 : Int32) ≤ x1 ∧ x1 < (4 : Int32))).bind fun _ =>
  bd (mA e54 46 x1 ((-1))) fun e59 =>
  (ck ((0 : Int32) ≤ x1 ∧ x1 < (4 : Int32))).bind fun _ =>
  bd (mA e59 47 x1 2) fun e64 =>
  (ck ((0 : Int32) ≤ x1 ∧ x1 < (4 : Int32))).bind fun _ =>
  bd (mA e64 48 x1 0) fun e69 =>
  (ck ((0 : Int32) ≤ x1 ∧ x1 < (4 : Int32))).bind fun _ =>
  bd (mA e69 49 x1 0) fun e74 =>
  (ck ((0 : Int32) ≤ x1 ∧ x1 < (4 : Int32))).bind fun _ =>
  bd (mA e74 50 x1 0) fun e79 =>
  (ck ((0 : Int32) ≤ x1 ∧ x1 < (4 : Int32))).bind fun _ =>
  bd (mA e79 51 x1 ((-1))) fun e84 =>
  (ck ((0 : Int32) ≤ x1 ∧ x1 < (4 : Int32))).bind fun _ =>
  bd (mA e84 52 x1 0) fun e89 =>
  bd (11 * x1) fun v91 =>
  P_X12_clearTurn_131 fu x1 v91 e89

def P_X12_rowOf (x1 : Int32) (x2 : Int32) (x3 : Int32) (e : mE) : Option (Int32 × mE) :=
  (ck ((0 : Int32) ≤ ((130 * ((4 * x1) + x2)) + x3) ∧ ((130 * ((4 * x1) + x2)) + x3) < (208000 : Int32))).bind fun _ =>
  some (e.2 10 ((130 * ((4 * x1) + x2)) + x3), e)

def P_X12_aim (x1 : Int32) (x2 : Int32) (e : mE) : Option (mE) :=
  if x2 = 3 then
    (ck ((0 : Int32) ≤ 0 ∧ 0 < (4 : Int32))).bind fun _ =>
    (ck ((0 : Int32) ≤ 2 ∧ 2 < (4 : Int32))).bind fun _ =>
    (ck ((0 : Int32) ≤ 1 ∧ 1 < (4 : Int32))).bind fun _ =>
    bd (mS e 34 ((((e.2 35 (0 : Int32)) + (e.2 35 (2 : Int32))) - (e.2 35 (1 : Int32))) + 1)) fun e11 =>
    some e11
  else
    (ck ((0 : Int32) ≤ 0 ∧ 0 < (4 : Int32))).bind fun _ =>
    bd (e.2 35 (0 : Int32)) fun v16 =>
    (ck ((0 : Int32) ≤ 0 ∧ 0 < (4 : Int32))).bind fun _ =>
    bd (e.2 43 (0 : Int32)) fun v20 =>
    (ck ((0 : Int32) ≤ 1 ∧ 1 < (4 : Int32))).bind fun _ =>
    bd (e.2 43 (1 : Int32)) fun v24 =>
    if v24 ≤ v20 then
      if v20 = 0 then
        bd (mS e 34 1) fun e27 =>
        some e27
      else
        (ck (¬ v20.toInt64 = 0)).bind fun _ =>
        bd (mS e 34 ((((v16.toInt64 * v24.toInt64) / v20.toInt64).toInt32) + 1)) fun e30 =>
        some e30
    else
      bd (mS e 34 ((v16 + ((200 * (v24 - v20)) / 1000)) + 1)) fun e32 =>
      some e32

def P_X12_change (x1 : Int32) (e : mE) : Option (mE) :=
  (ck ((0 : Int32) ≤ x1 ∧ x1 < (4 : Int32))).bind fun _ =>
  bd (e.2 45 x1) fun v4 =>
  (ck ((0 : Int32) ≤ x1 ∧ x1 < (4 : Int32))).bind fun _ =>
  (ck ((0 : Int32) ≤ x1 ∧ x1 < (4 : Int32))).bind fun _ =>
  bd (mA e 45 x1 (e.2 46 x1)) fun e11 =>
  (ck ((0 : Int32) ≤ x1 ∧ x1 < (4 : Int32))).bind fun _ =>
  bd (mA e11 46 x1 v4) fun e16 =>
  some e16

def P_X12_becomesWhole (x1 : Int32) (x2 : Int32) (e : mE) : Option (mE) :=
  (ck ((0 : Int32) ≤ x2 ∧ x2 < (6000 : Int32))).bind fun _ =>
  bd (mA e 62 x2 1) fun e4 =>
  (ck ((0 : Int32) ≤ x1 ∧ x1 < (4 : Int32))).bind fun _ =>
  bd (mA e4 37 x1 ((e4.2 37 x1) + 1)) fun e9 =>
  (ck ((0 : Int32) ≤ x1 ∧ x1 < (4 : Int32))).bind fun _ =>
  bd (mA e9 38 x1 0) fun e14 =>
  (P_X12_change x1 e14).bind fun e17 =>
  some e17

def P_X12_isEntry (x0 : Int32) (x1 : Int32) (e : mE) : Option (Int32 × mE) :=
  if x0 = 0 then
    if 6 < x1 then
      some (0, e)
    else
      some (1, e)
  else
  if x0 = 1 then
    if 4 < x1 then
      some (0, e)
    else
      some (1, e)
  else
  if x0 = 2 then
    if 6 < x1 then
      some (0, e)
    else
      some (1, e)
  else
  if x0 = 3 then
    if 3 < x1 then
      some (0, e)
    else
      some (1, e)
  else
  if x0 = 4 then
    if 7 < x1 then
      some (0, e)
    else
      some (1, e)
  else
  if x0 = 6 then
    if x1 < 1 then
      some (0, e)
    else
      if 4 < x1 then
        some (0, e)
      else
        some (1, e)
  else
  if x0 = 8 then
    if x1 < 1 then
      some (0, e)
    else
      some (1, e)
  else
  if x0 = 9 then
    if x1 = 0 then
      some (1, e)
    else
      some (0, e)
  else
  if x0 = 5 then
    some (1, e)
  else
    if x0 = 7 then
      some (1, e)
    else
      some (0, e)

def P_X12_counts (x0 : Int32) (e : mE) : Option (Int32 × mE) :=
  if x0 = 0 then
    some (1, e)
  else
    if x0 = 3 then
      some (1, e)
    else
      if x0 = 4 then
        some (1, e)
      else
        if x0 = 6 then
          some (1, e)
        else
          some (0, e)

def P_X12_against_57 (x1 : Int32) (x2 : Int32) (x4 : Int32) (x5 : Int32) (e : mE) : Option (Int32 × mE) :=
  if x4 = 8 then
    (ck ((0 : Int32) ≤ x1 ∧ x1 < (400 : Int32))).bind fun _ =>
    if e.2 6 x1 = 2 then
      some (10, e)
    else
      (ck ((0 : Int32) ≤ x2 ∧ x2 < (4 : Int32))).bind fun _ =>
      (ck ((0 : Int32) ≤ x2 ∧ x2 < (4 : Int32))).bind fun _ =>
      if e.2 44 x2 ≤ (e.2 40 x2) - x5 then
        some (0, e)
      else
        some (10, e)
  else
    some (0, e)

def P_X12_against (x1 : Int32) (x2 : Int32) (x3 : Int32) (x4 : Int32) (x5 : Int32) (e : mE) : Option (Int32 × mE) :=
  (P_X12_isEntry x4 x5 e).bind fun q4 =>
  bd q4.1 fun z3 =>
  bd q4.2 fun e2 =>
  if z3 = 0 then
    some (7, e2)
  else
    (ck ((0 : Int32) ≤ x2 ∧ x2 < (4 : Int32))).bind fun _ =>
    if e2.2 41 x2 = 0 then
      (ck ((0 : Int32) ≤ x3 ∧ x3 < (6000 : Int32))).bind fun _ =>
      if e2.2 62 x3 = 0 then
        P_X12_against_57 x1 x2 x4 x5 e2
      else
        (P_X12_counts x4 e2).bind fun q18 =>
        bd q18.1 fun z17 =>
        bd q18.2 fun e16 =>
        if z17 = 0 then
          if x4 = 1 then
            some (9, e16)
          else
            if x4 = 2 then
              some (9, e16)
            else
              P_X12_against_57 x1 x2 x4 x5 e16
        else
          some (9, e16)
    else
      some (8, e2)

def P_X12_adds (x1 : Int32) (x2 : Int32) (x3 : Int32) (e : mE) : Option (mE) :=
  (ck ((0 : Int32) ≤ x1 ∧ x1 < (4 : Int32))).bind fun _ =>
  bd (mA e 35 x1 ((e.2 35 x1) + x3)) fun e4 =>
  (ck ((0 : Int32) ≤ x2 ∧ x2 < (6000 : Int32))).bind fun _ =>
  bd (mA e4 59 x2 ((e4.2 59 x2) + x3)) fun e9 =>
  some e9

def P_X12_hit (x1 : Int32) (x2 : Int32) (x3 : Int32) (e : mE) : Option (mE) :=
  (ck ((0 : Int32) ≤ x1 ∧ x1 < (4 : Int32))).bind fun _ =>
  (ck ((0 : Int32) ≤ ((11 * x1) + (e.2 45 x1)) ∧ ((11 * x1) + (e.2 45 x1)) < (44 : Int32))).bind fun _ =>
  bd (mA e 53 ((11 * x1) + (e.2 45 x1)) ((e.2 53 ((11 * x1) + (e.2 45 x1))) + x3)) fun e7 =>
  (ck ((0 : Int32) ≤ x1 ∧ x1 < (4 : Int32))).bind fun _ =>
  (ck ((0 : Int32) ≤ ((11 * x1) + (e7.2 51 x1)) ∧ ((11 * x1) + (e7.2 51 x1)) < (44 : Int32))).bind fun _ =>
  bd (mA e7 57 ((11 * x1) + (e7.2 51 x1)) ((e7.2 57 ((11 * x1) + (e7.2 51 x1))) + x3)) fun e15 =>
  (P_X12_adds x1 x2 x3 e15).bind fun e18 =>
  some e18

def P_X12_crosses (x1 : Int32) (x2 : Int32) (e : mE) : Option (mE) :=
  if x2 - x2 / 2 * 2 = 1 then
    (P_X12_change x1 e).bind fun e3 =>
    some e3
  else
    some e

def P_X12_leaves_100 (x1 : Int32) (x3 : Int32) (x6 : Int32) (e : mE) : Option (mE) :=
  if x3 = 0 then
    (ck ((0 : Int32) ≤ x1 ∧ x1 < (4 : Int32))).bind fun _ =>
    bd (mA e 46 x1 x6) fun e6 =>
    some e6
  else
    (ck ((0 : Int32) ≤ x1 ∧ x1 < (4 : Int32))).bind fun _ =>
    bd (mA e 45 x1 x6) fun e12 =>
    some e12

def P_X12_leaves_19 (x1 : Int32) (x2 : Int32) (x3 : Int32) (x4 : Int32) (y0 : Int32) (e : mE) : Option (mE) :=
  (ck ((0 : Int32) ≤ ((11 * x1) + y0) ∧ ((11 * x1) + y0) < (44 : Int32))).bind fun _ =>
  bd (mA e 55 ((11 * x1) + y0) x4) fun e5 =>
  (ck ((0 : Int32) ≤ x1 ∧ x1 < (4 : Int32))).bind fun _ =>
  bd (mA e5 36 x1 ((e5.2 36 x1) + 1)) fun e10 =>
  (ck ((0 : Int32) ≤ x2 ∧ x2 < (6000 : Int32))).bind fun _ =>
  bd (mA e10 60 x2 ((e10.2 60 x2) + 1)) fun e15 =>
  (ck ((0 : Int32) ≤ x1 ∧ x1 < (4 : Int32))).bind fun _ =>
  if 10 ≤ e15.2 36 x1 then
    P_X12_leaves_100 x1 x3 ((-1)) e15
  else
    (ck ((0 : Int32) ≤ x1 ∧ x1 < (4 : Int32))).bind fun _ =>
    bd (e15.2 47 x1) fun v24 =>
    (ck ((0 : Int32) ≤ x1 ∧ x1 < (4 : Int32))).bind fun _ =>
    bd (mA e15 47 x1 ((e15.2 47 x1) + 1)) fun e28 =>
    (ck ((0 : Int32) ≤ ((11 * x1) + v24) ∧ ((11 * x1) + v24) < (44 : Int32))).bind fun _ =>
    bd (mA e28 55 ((11 * x1) + v24) 1) fun e33 =>
    P_X12_leaves_100 x1 x3 v24 e33

def P_X12_leaves (x1 : Int32) (x2 : Int32) (x3 : Int32) (x4 : Int32) (e : mE) : Option (mE) :=
  if x3 = 0 then
    (ck ((0 : Int32) ≤ x1 ∧ x1 < (4 : Int32))).bind fun _ =>
    P_X12_leaves_19 x1 x2 x3 x4 (e.2 46 x1) e
  else
    (ck ((0 : Int32) ≤ x1 ∧ x1 < (4 : Int32))).bind fun _ =>
    P_X12_leaves_19 x1 x2 x3 x4 (e.2 45 x1) e

def P_X12_ends_37 (x2 : Int32) (x3 : Int32) (e : mE) : Option (mE) :=
  (ck ((0 : Int32) ≤ x2 ∧ x2 < (4 : Int32))).bind fun _ =>
  if e.2 36 x2 = 10 then
    (ck ((0 : Int32) ≤ x2 ∧ x2 < (4 : Int32))).bind fun _ =>
    bd (mA e 41 x2 1) fun e9 =>
    some e9
  else
    if x3 = 9 then
      (ck ((0 : Int32) ≤ x2 ∧ x2 < (4 : Int32))).bind fun _ =>
      bd (mA e 41 x2 3) fun e15 =>
      some e15
    else
      (ck ((0 : Int32) ≤ x2 ∧ x2 < (4 : Int32))).bind fun _ =>
      (ck ((0 : Int32) ≤ x2 ∧ x2 < (4 : Int32))).bind fun _ =>
      if e.2 37 x2 = e.2 40 x2 then
        (ck ((0 : Int32) ≤ x2 ∧ x2 < (4 : Int32))).bind fun _ =>
        bd (mA e 41 x2 2) fun e27 =>
        some e27
      else
        some e

def P_X12_ends (x1 : Int32) (x2 : Int32) (x3 : Int32) (e : mE) : Option (mE) :=
  (P_X12_lastTurn x1 e).bind fun q4 =>
  bd q4.1 fun z3 =>
  bd q4.2 fun e2 =>
  if x2 = z3 then
    (ck ((0 : Int32) ≤ x2 ∧ x2 < (4 : Int32))).bind fun _ =>
    if e2.2 35 x2 < e2.1 34 then
      P_X12_ends_37 x2 x3 e2
    else
      (ck ((0 : Int32) ≤ x2 ∧ x2 < (4 : Int32))).bind fun _ =>
      bd (mA e2 41 x2 4) fun e14 =>
      bd (mS e14 33 2) fun e16 =>
      some e16
  else
    P_X12_ends_37 x2 x3 e2

def P_X12_playEntry_481 (x1 : Int32) (x2 : Int32) (x4 : Int32) (e : mE) : Option (mE) :=
  (P_X12_ends x1 x2 x4 e).bind fun e3 =>
  some e3

def P_X12_playEntry_466 (x1 : Int32) (x2 : Int32) (x4 : Int32) (e : mE) : Option (mE) :=
  (P_X12_lastTurn x1 e).bind fun q5 =>
  bd q5.1 fun z4 =>
  bd q5.2 fun e3 =>
  if x2 = z4 then
    (P_X12_aim x1 x2 e3).bind fun e9 =>
    P_X12_playEntry_481 x1 x2 x4 e9
  else
    P_X12_playEntry_481 x1 x2 x4 e3

def P_X12_playEntry_421 (x1 : Int32) (x2 : Int32) (x3 : Int32) (x4 : Int32) (e : mE) : Option (mE) :=
  (P_X12_counts x4 e).bind fun q4 =>
  bd q4.1 fun z3 =>
  bd q4.2 fun e2 =>
  if z3 = 0 then
    P_X12_playEntry_466 x1 x2 x4 e2
  else
    (ck ((0 : Int32) ≤ x3 ∧ x3 < (6000 : Int32))).bind fun _ =>
    bd (mA e2 61 x3 ((e2.2 61 x3) + 1)) fun e10 =>
    (ck ((0 : Int32) ≤ x2 ∧ x2 < (4 : Int32))).bind fun _ =>
    bd (mA e10 38 x2 ((e10.2 38 x2) + 1)) fun e15 =>
    (ck ((0 : Int32) ≤ x3 ∧ x3 < (6000 : Int32))).bind fun _ =>
    if e15.2 61 x3 = 6 then
      (P_X12_becomesWhole x2 x3 e15).bind fun e22 =>
      P_X12_playEntry_466 x1 x2 x4 e22
    else
      P_X12_playEntry_466 x1 x2 x4 e15

def P_X12_playEntry_38 (x1 : Int32) (x2 : Int32) (x3 : Int32) (x4 : Int32) (x5 : Int32) (e : mE) : Option (mE) :=
  if x4 = 0 then
    (P_X12_hit x2 x3 x5 e).bind fun e4 =>
    (P_X12_crosses x2 x5 e4).bind fun e8 =>
    P_X12_playEntry_421 x1 x2 x3 x4 e8
  else
  if x4 = 1 then
    (ck ((0 : Int32) ≤ x2 ∧ x2 < (4 : Int32))).bind fun _ =>
    (ck ((0 : Int32) ≤ ((11 * x2) + (e.2 51 x2)) ∧ ((11 * x2) + (e.2 51 x2)) < (44 : Int32))).bind fun _ =>
    bd (mA e 57 ((11 * x2) + (e.2 51 x2)) ((e.2 57 ((11 * x2) + (e.2 51 x2))) + 1)) fun e18 =>
    (ck ((0 : Int32) ≤ x2 ∧ x2 < (4 : Int32))).bind fun _ =>
    bd (mA e18 48 x2 ((e18.2 48 x2) + x5)) fun e23 =>
    (ck ((0 : Int32) ≤ x2 ∧ x2 < (4 : Int32))).bind fun _ =>
    bd (mA e23 39 x2 ((e23.2 39 x2) + (x5 + 1))) fun e28 =>
    (P_X12_adds x2 x3 (x5 + 1) e28).bind fun e31 =>
    (P_X12_crosses x2 x5 e31).bind fun e35 =>
    P_X12_playEntry_421 x1 x2 x3 x4 e35
  else
  if x4 = 2 then
    (P_X12_hit x2 x3 x5 e).bind fun e40 =>
    (ck ((0 : Int32) ≤ x2 ∧ x2 < (4 : Int32))).bind fun _ =>
    (ck ((0 : Int32) ≤ ((11 * x2) + (e40.2 51 x2)) ∧ ((11 * x2) + (e40.2 51 x2)) < (44 : Int32))).bind fun _ =>
    bd (mA e40 57 ((11 * x2) + (e40.2 51 x2)) ((e40.2 57 ((11 * x2) + (e40.2 51 x2))) + 1)) fun e49 =>
    (ck ((0 : Int32) ≤ x2 ∧ x2 < (4 : Int32))).bind fun _ =>
    bd (mA e49 39 x2 ((e49.2 39 x2) + 1)) fun e54 =>
    (P_X12_adds x2 x3 1 e54).bind fun e57 =>
    (P_X12_crosses x2 x5 e57).bind fun e61 =>
    P_X12_playEntry_421 x1 x2 x3 x4 e61
  else
  if x4 = 3 then
    (ck ((0 : Int32) ≤ x2 ∧ x2 < (4 : Int32))).bind fun _ =>
    (ck ((0 : Int32) ≤ ((11 * x2) + (e.2 51 x2)) ∧ ((11 * x2) + (e.2 51 x2)) < (44 : Int32))).bind fun _ =>
    bd (mA e 58 ((11 * x2) + (e.2 51 x2)) ((e.2 58 ((11 * x2) + (e.2 51 x2))) + 1)) fun e71 =>
    (ck ((0 : Int32) ≤ x2 ∧ x2 < (4 : Int32))).bind fun _ =>
    bd (mA e71 49 x2 ((e71.2 49 x2) + 1)) fun e76 =>
    (P_X12_leaves x2 x3 1 (2 + x5) e76).bind fun e79 =>
    P_X12_playEntry_421 x1 x2 x3 x4 e79
  else
  if x4 = 4 then
    (P_X12_hit x2 x3 (x5 / 2) e).bind fun e84 =>
    (P_X12_crosses x2 (x5 / 2) e84).bind fun e88 =>
    (ck ((0 : Int32) ≤ x2 ∧ x2 < (4 : Int32))).bind fun _ =>
    bd (mA e88 50 x2 ((e88.2 50 x2) + 1)) fun e94 =>
    if x5 - x5 / 2 * 2 = 0 then
      (P_X12_leaves x2 x3 1 6 e94).bind fun e98 =>
      P_X12_playEntry_421 x1 x2 x3 x4 e98
    else
      (P_X12_leaves x2 x3 0 6 e94).bind fun e101 =>
      P_X12_playEntry_421 x1 x2 x3 x4 e101
  else
  if x4 = 6 then
    (ck ((0 : Int32) ≤ x2 ∧ x2 < (4 : Int32))).bind fun _ =>
    bd (mA e 48 x2 ((e.2 48 x2) + x5)) fun e108 =>
    (ck ((0 : Int32) ≤ x2 ∧ x2 < (4 : Int32))).bind fun _ =>
    bd (mA e108 39 x2 ((e108.2 39 x2) + x5)) fun e113 =>
    (P_X12_adds x2 x3 x5 e113).bind fun e116 =>
    (P_X12_crosses x2 x5 e116).bind fun e120 =>
    P_X12_playEntry_421 x1 x2 x3 x4 e120
  else
  if x4 = 8 then
    (P_X12_left x2 e).bind fun q127 =>
    bd q127.1 fun z126 =>
    bd q127.2 fun e125 =>
    (ck ((0 : Int32) ≤ x2 ∧ x2 < (4 : Int32))).bind fun _ =>
    (P_X12_table z126 (e125.2 36 x2) e125).bind fun q135 =>
    bd q135.1 fun z134 =>
    bd q135.2 fun e133 =>
    (ck ((0 : Int32) ≤ x2 ∧ x2 < (4 : Int32))).bind fun _ =>
    bd (mA e133 40 x2 ((e133.2 40 x2) - x5)) fun e140 =>
    (ck ((0 : Int32) ≤ x2 ∧ x2 < (4 : Int32))).bind fun _ =>
    (P_X12_left x2 e140).bind fun q148 =>
    bd q148.1 fun z147 =>
    bd q148.2 fun e146 =>
    (ck ((0 : Int32) ≤ x2 ∧ x2 < (4 : Int32))).bind fun _ =>
    (P_X12_table z147 (e146.2 36 x2) e146).bind fun q156 =>
    bd q156.1 fun z155 =>
    bd q156.2 fun e154 =>
    (ck ((0 : Int32) ≤ x2 ∧ x2 < (4 : Int32))).bind fun _ =>
    bd (mA e154 43 x2 ((e140.2 43 x2) - (z134 - z155))) fun e158 =>
    P_X12_playEntry_421 x1 x2 x3 x4 e158
  else
  P_X12_playEntry_421 x1 x2 x3 x4 e

def P_X12_playEntry_27 (x1 : Int32) (x2 : Int32) (x3 : Int32) (x4 : Int32) (x5 : Int32) (x6 : Int32) (e : mE) : Option (mE) :=
  (ck ((0 : Int32) ≤ x6 ∧ x6 < (44 : Int32))).bind fun _ =>
  bd (mA e 54 x6 ((e.2 54 x6) + 1)) fun e5 =>
  P_X12_playEntry_38 x1 x2 x3 x4 x5 e5

def P_X12_playEntry (x1 : Int32) (x2 : Int32) (x3 : Int32) (x4 : Int32) (x5 : Int32) (e : mE) : Option (mE) :=
  (ck ((0 : Int32) ≤ x2 ∧ x2 < (4 : Int32))).bind fun _ =>
  bd ((11 * x2) + (e.2 45 x2)) fun v4 =>
  (P_X12_counts x4 e).bind fun q8 =>
  bd q8.1 fun z7 =>
  bd q8.2 fun e6 =>
  if z7 = 0 then
    if x4 = 2 then
      P_X12_playEntry_27 x1 x2 x3 x4 x5 v4 e6
    else
      P_X12_playEntry_38 x1 x2 x3 x4 x5 e6
  else
    P_X12_playEntry_27 x1 x2 x3 x4 x5 v4 e6

def P_X12_playOver_374 (k284 : Int32 → Int32 → Int32 → Int32 → Int32 → mE → Option (mE)) (x1 : Int32) (x2 : Int32) (x3 : Int32) (x4 : Int32) (x7 : Int32) (e : mE) : Option (mE) :=
  bd (x7 + 1) fun v1 =>
  k284 x1 x2 x3 x4 v1 e

def P_X12_playOver_284 : Nat → Int32 → Int32 → Int32 → Int32 → Int32 → mE → Option (mE)
  | 0, _, _, _, _, _, _ => none
  | n + 1, x1, x2, x3, x4, x7, e =>
  (ck ((0 : Int32) ≤ x4 ∧ x4 < (6000 : Int32))).bind fun _ =>
  if e.2 13 x4 ≤ x7 then
    some e
  else
    if e.1 28 = 0 then
      (ck ((0 : Int32) ≤ ((40 * x4) + x7) ∧ ((40 * x4) + x7) < (240000 : Int32))).bind fun _ =>
      bd (e.2 14 ((40 * x4) + x7)) fun v10 =>
      (P_X12_against x1 x2 x4 (v10 / 16) (v10 - v10 / 16 * 16) e).bind fun q14 =>
      bd q14.1 fun z13 =>
      bd q14.2 fun e12 =>
      if z13 = 0 then
        (P_X12_playEntry x1 x2 x4 (v10 / 16) (v10 - v10 / 16 * 16) e12).bind fun e18 =>
        P_X12_playOver_374 (P_X12_playOver_284 n) x1 x2 x3 x4 x7 e18
      else
        (P_X12_stop z13 x2 x3 x7 e12).bind fun e22 =>
        P_X12_playOver_374 (P_X12_playOver_284 n) x1 x2 x3 x4 x7 e22
    else
      some e

def P_X12_playOver_180 (x1 : Int32) (x2 : Int32) (x3 : Int32) (x4 : Int32) (x5 : Int32) (e : mE) : Option (mE) :=
  (ck ((0 : Int32) ≤ x2 ∧ x2 < (4 : Int32))).bind fun _ =>
  bd (mA e 44 x2 ((e.2 44 x2) + 1)) fun e5 =>
  (ck ((0 : Int32) ≤ x2 ∧ x2 < (4 : Int32))).bind fun _ =>
  bd (mA e5 51 x2 x5) fun e10 =>
  (ck ((0 : Int32) ≤ ((11 * x2) + x5) ∧ ((11 * x2) + x5) < (44 : Int32))).bind fun _ =>
  bd (mA e10 56 ((11 * x2) + x5) ((e10.2 56 ((11 * x2) + x5)) + 1)) fun e15 =>
  (ck ((0 : Int32) ≤ x4 ∧ x4 < (6000 : Int32))).bind fun _ =>
  bd (mA e15 64 x4 1) fun e20 =>
  (ck ((0 : Int32) ≤ x4 ∧ x4 < (6000 : Int32))).bind fun _ =>
  if e20.2 13 x4 = (-1) then
    (ck ((0 : Int32) ≤ x4 ∧ x4 < (6000 : Int32))).bind fun _ =>
    bd (mA e20 63 x4 1) fun e29 =>
    (ck ((0 : Int32) ≤ x2 ∧ x2 < (4 : Int32))).bind fun _ =>
    bd (mA e29 42 x2 ((e29.2 42 x2) + 1)) fun e34 =>
    (P_X12_becomesWhole x2 x4 e34).bind fun e37 =>
    (ck ((0 : Int32) ≤ x2 ∧ x2 < (4 : Int32))).bind fun _ =>
    (ck ((0 : Int32) ≤ x2 ∧ x2 < (4 : Int32))).bind fun _ =>
    if e37.2 37 x2 = e37.2 40 x2 then
      (ck ((0 : Int32) ≤ x2 ∧ x2 < (4 : Int32))).bind fun _ =>
      bd (mA e37 41 x2 2) fun e50 =>
      some e50
    else
      some e37
  else
    P_X12_playOver_284 fu x1 x2 x3 x4 0 e20

def P_X12_playOver_103 (x1 : Int32) (x2 : Int32) (x3 : Int32) (x4 : Int32) (x5 : Int32) (y0 : Int32) (e : mE) : Option (mE) :=
  if y0 = 0 then
    if x3 ≤ 0 then
      P_X12_playOver_180 x1 x2 x3 x4 x5 e
    else
      (P_X12_rowOf x1 x2 (x3 - 1) e).bind fun q9 =>
      bd q9.1 fun z8 =>
      bd q9.2 fun e7 =>
      (ck ((0 : Int32) ≤ z8 ∧ z8 < (6000 : Int32))).bind fun _ =>
      if e7.2 62 z8 = 0 then
        (P_X12_rowOf x1 x2 (x3 - 1) e7).bind fun q18 =>
        bd q18.1 fun z17 =>
        bd q18.2 fun e16 =>
        (ck ((0 : Int32) ≤ z17 ∧ z17 < (6000 : Int32))).bind fun _ =>
        bd (mA e16 63 z17 1) fun e20 =>
        (ck ((0 : Int32) ≤ x2 ∧ x2 < (4 : Int32))).bind fun _ =>
        bd (mA e20 42 x2 ((e20.2 42 x2) + 1)) fun e25 =>
        (P_X12_rowOf x1 x2 (x3 - 1) e25).bind fun q30 =>
        bd q30.1 fun z29 =>
        bd q30.2 fun e28 =>
        (P_X12_becomesWhole x2 z29 e28).bind fun e33 =>
        P_X12_playOver_180 x1 x2 x3 x4 x5 e33
      else
        P_X12_playOver_180 x1 x2 x3 x4 x5 e7
  else
    (P_X12_stop y0 x2 x3 ((-1)) e).bind fun e37 =>
    some e37

def P_X12_playOver_42 (x1 : Int32) (x2 : Int32) (x3 : Int32) (x4 : Int32) (x5 : Int32) (e : mE) : Option (mE) :=
  P_X12_playOver_103 x1 x2 x3 x4 x5 3 e

def P_X12_playOver (x1 : Int32) (x2 : Int32) (x3 : Int32) (e : mE) : Option (mE) :=
  (P_X12_rowOf x1 x2 x3 e).bind fun q4 =>
  bd q4.1 fun z3 =>
  bd q4.2 fun e2 =>
  (ck ((0 : Int32) ≤ z3 ∧ z3 < (6000 : Int32))).bind fun _ =>
  bd (e2.2 12 z3) fun v9 =>
  (ck ((0 : Int32) ≤ x2 ∧ x2 < (4 : Int32))).bind fun _ =>
  if e2.2 41 x2 = 0 then
    (ck ((0 : Int32) ≤ x2 ∧ x2 < (4 : Int32))).bind fun _ =>
    (ck ((0 : Int32) ≤ x2 ∧ x2 < (4 : Int32))).bind fun _ =>
    if e2.2 44 x2 = e2.2 40 x2 then
      P_X12_playOver_42 x1 x2 x3 z3 v9 e2
    else
      if v9 ≤ 10 then
        (ck ((0 : Int32) ≤ x2 ∧ x2 < (4 : Int32))).bind fun _ =>
        if v9 = e2.2 51 x2 then
          P_X12_playOver_103 x1 x2 x3 z3 v9 5 e2
        else
          (ck ((0 : Int32) ≤ ((11 * x2) + v9) ∧ ((11 * x2) + v9) < (44 : Int32))).bind fun _ =>
          (ck ((0 : Int32) ≤ x1 ∧ x1 < (400 : Int32))).bind fun _ =>
          if e2.2 56 ((11 * x2) + v9) = ((e2.2 5 x1) + 4) / 5 then
            P_X12_playOver_103 x1 x2 x3 z3 v9 6 e2
          else
            P_X12_playOver_103 x1 x2 x3 z3 v9 0 e2
      else
        P_X12_playOver_103 x1 x2 x3 z3 v9 4 e2
  else
    P_X12_playOver_42 x1 x2 x3 z3 v9 e2

def P_X12_playTurn_154 (x1 : Int32) (x2 : Int32) (e : mE) : Option (mE) :=
  (ck ((0 : Int32) ≤ x2 ∧ x2 < (4 : Int32))).bind fun _ =>
  if e.2 41 x2 = 0 then
    some e
  else
    (P_X12_lastTurn x1 e).bind fun q9 =>
    bd q9.1 fun z8 =>
    bd q9.2 fun e7 =>
    if x2 = z8 then
      if e7.1 33 = 0 then
        (ck ((0 : Int32) ≤ x2 ∧ x2 < (4 : Int32))).bind fun _ =>
        if e7.2 35 x2 = (e7.1 34) - 1 then
          bd (mS e7 33 3) fun e17 =>
          some e17
        else
          bd (mS e7 33 1) fun e19 =>
          some e19
      else
        some e7
    else
      (ck ((0 : Int32) ≤ x1 ∧ x1 < (400 : Int32))).bind fun _ =>
      if e7.2 6 x1 = 2 then
        if x2 = 2 then
          (ck ((0 : Int32) ≤ 0 ∧ 0 < (4 : Int32))).bind fun _ =>
          (ck ((0 : Int32) ≤ 2 ∧ 2 < (4 : Int32))).bind fun _ =>
          (ck ((0 : Int32) ≤ 1 ∧ 1 < (4 : Int32))).bind fun _ =>
          if 1 ≤ (((e7.2 35 (0 : Int32)) + (e7.2 35 (2 : Int32))) - (e7.2 35 (1 : Int32))) + 1 then
            some e7
          else
            bd (mS e7 33 2) fun e37 =>
            some e37
        else
          some e7
      else
        some e7

def P_X12_playTurn_120 : Nat → Int32 → Int32 → Int32 → mE → Option (mE)
  | 0, _, _, _, _ => none
  | n + 1, x1, x2, x3, e =>
  (ck ((0 : Int32) ≤ ((4 * x1) + x2) ∧ ((4 * x1) + x2) < (1600 : Int32))).bind fun _ =>
  if e.2 9 ((4 * x1) + x2) ≤ x3 then
    P_X12_playTurn_154 x1 x2 e
  else
    if e.1 28 = 0 then
      (P_X12_playOver x1 x2 x3 e).bind fun e8 =>
      bd (x3 + 1) fun v10 =>
      P_X12_playTurn_120 n x1 x2 v10 e8
    else
      P_X12_playTurn_154 x1 x2 e

def P_X12_playTurn_118 (x1 : Int32) (x2 : Int32) (e : mE) : Option (mE) :=
  P_X12_playTurn_120 fu x1 x2 0 e

def P_X12_playTurn (x1 : Int32) (x2 : Int32) (e : mE) : Option (mE) :=
  bd (mS e 32 x2) fun e1 =>
  (ck ((0 : Int32) ≤ x2 ∧ x2 < (4 : Int32))).bind fun _ =>
  bd (mA e1 52 x2 1) fun e6 =>
  if x2 = 1 then
    (ck ((0 : Int32) ≤ x1 ∧ x1 < (400 : Int32))).bind fun _ =>
    if e6.2 6 x1 = 1 then
      (ck ((0 : Int32) ≤ 0 ∧ 0 < (4 : Int32))).bind fun _ =>
      (ck ((0 : Int32) ≤ x2 ∧ x2 < (4 : Int32))).bind fun _ =>
      bd (mA e6 40 x2 (e6.2 40 (0 : Int32))) fun e19 =>
      (ck ((0 : Int32) ≤ x2 ∧ x2 < (4 : Int32))).bind fun _ =>
      (P_X12_table (6 * (e19.2 40 x2)) 0 e19).bind fun q29 =>
      bd q29.1 fun z28 =>
      bd q29.2 fun e27 =>
      (ck ((0 : Int32) ≤ x2 ∧ x2 < (4 : Int32))).bind fun _ =>
      bd (mA e27 43 x2 z28) fun e31 =>
      (ck ((0 : Int32) ≤ x2 ∧ x2 < (4 : Int32))).bind fun _ =>
      bd (mA e31 45 x2 0) fun e36 =>
      (ck ((0 : Int32) ≤ x2 ∧ x2 < (4 : Int32))).bind fun _ =>
      bd (mA e36 46 x2 1) fun e41 =>
      (ck ((0 : Int32) ≤ (11 * x2) ∧ (11 * x2) < (44 : Int32))).bind fun _ =>
      bd (mA e41 55 (11 * x2) 1) fun e46 =>
      (ck ((0 : Int32) ≤ ((11 * x2) + 1) ∧ ((11 * x2) + 1) < (44 : Int32))).bind fun _ =>
      bd (mA e46 55 ((11 * x2) + 1) 1) fun e51 =>
      (P_X12_lastTurn x1 e51).bind fun q56 =>
      bd q56.1 fun z55 =>
      bd q56.2 fun e54 =>
      if x2 = z55 then
        (P_X12_aim x1 x2 e54).bind fun e60 =>
        P_X12_playTurn_118 x1 x2 e60
      else
        P_X12_playTurn_118 x1 x2 e54
    else
      (ck ((0 : Int32) ≤ x1 ∧ x1 < (400 : Int32))).bind fun _ =>
      (ck ((0 : Int32) ≤ x2 ∧ x2 < (4 : Int32))).bind fun _ =>
      bd (mA e6 40 x2 (e6.2 5 x1)) fun e66 =>
      (ck ((0 : Int32) ≤ x2 ∧ x2 < (4 : Int32))).bind fun _ =>
      (P_X12_table (6 * (e66.2 40 x2)) 0 e66).bind fun q76 =>
      bd q76.1 fun z75 =>
      bd q76.2 fun e74 =>
      (ck ((0 : Int32) ≤ x2 ∧ x2 < (4 : Int32))).bind fun _ =>
      bd (mA e74 43 x2 z75) fun e78 =>
      (ck ((0 : Int32) ≤ x2 ∧ x2 < (4 : Int32))).bind fun _ =>
      bd (mA e78 45 x2 0) fun e83 =>
      (ck ((0 : Int32) ≤ x2 ∧ x2 < (4 : Int32))).bind fun _ =>
      bd (mA e83 46 x2 1) fun e88 =>
      (ck ((0 : Int32) ≤ (11 * x2) ∧ (11 * x2) < (44 : Int32))).bind fun _ =>
      bd (mA e88 55 (11 * x2) 1) fun e93 =>
      (ck ((0 : Int32) ≤ ((11 * x2) + 1) ∧ ((11 * x2) + 1) < (44 : Int32))).bind fun _ =>
      bd (mA e93 55 ((11 * x2) + 1) 1) fun e98 =>
      (P_X12_lastTurn x1 e98).bind fun q103 =>
      bd q103.1 fun z102 =>
      bd q103.2 fun e101 =>
      if x2 = z102 then
        (P_X12_aim x1 x2 e101).bind fun e107 =>
        P_X12_playTurn_118 x1 x2 e107
      else
        P_X12_playTurn_118 x1 x2 e101
  else
    (ck ((0 : Int32) ≤ x1 ∧ x1 < (400 : Int32))).bind fun _ =>
    (ck ((0 : Int32) ≤ x2 ∧ x2 < (4 : Int32))).bind fun _ =>
    bd (mA e6 40 x2 (e6.2 5 x1)) fun e113 =>
    (ck ((0 : Int32) ≤ x2 ∧ x2 < (4 : Int32))).bind fun _ =>
    (P_X12_table (6 * (e113.2 40 x2)) 0 e113).bind fun q123 =>
    bd q123.1 fun z122 =>
    bd q123.2 fun e121 =>
    (ck ((0 : Int32) ≤ x2 ∧ x2 < (4 : Int32))).bind fun _ =>
    bd (mA e121 43 x2 z122) fun e125 =>
    (ck ((0 : Int32) ≤ x2 ∧ x2 < (4 : Int32))).bind fun _ =>
    bd (mA e125 45 x2 0) fun e130 =>
    (ck ((0 : Int32) ≤ x2 ∧ x2 < (4 : Int32))).bind fun _ =>
    bd (mA e130 46 x2 1) fun e135 =>
    (ck ((0 : Int32) ≤ (11 * x2) ∧ (11 * x2) < (44 : Int32))).bind fun _ =>
    bd (mA e135 55 (11 * x2) 1) fun e140 =>
    (ck ((0 : Int32) ≤ ((11 * x2) + 1) ∧ ((11 * x2) + 1) < (44 : Int32))).bind fun _ =>
    bd (mA e140 55 ((11 * x2) + 1) 1) fun e145 =>
    (P_X12_lastTurn x1 e145).bind fun q150 =>
    bd q150.1 fun z149 =>
    bd q150.2 fun e148 =>
    if x2 = z149 then
      (P_X12_aim x1 x2 e148).bind fun e154 =>
      P_X12_playTurn_118 x1 x2 e154
    else
      P_X12_playTurn_118 x1 x2 e148

def P_X12_play_207 (k140 : Int32 → Int32 → mE → Option (mE)) (x1 : Int32) (x2 : Int32) (e : mE) : Option (mE) :=
  bd (x2 + 1) fun v1 =>
  k140 x1 v1 e

def P_X12_play_183 (k140 : Int32 → Int32 → mE → Option (mE)) (x1 : Int32) (x2 : Int32) (e : mE) : Option (mE) :=
  if e.1 33 = 0 then
    (P_X12_playTurn x1 x2 e).bind fun e4 =>
    P_X12_play_207 k140 x1 x2 e4
  else
    (P_X12_stop 2 x2 ((-1)) ((-1)) e).bind fun e7 =>
    P_X12_play_207 k140 x1 x2 e7

def P_X12_play_140 : Nat → Int32 → Int32 → mE → Option (mE)
  | 0, _, _, _ => none
  | n + 1, x1, x2, e =>
  (ck ((0 : Int32) ≤ x1 ∧ x1 < (400 : Int32))).bind fun _ =>
  if e.2 8 x1 ≤ x2 then
    some e
  else
    if e.1 28 = 0 then
      if x2 ≤ 0 then
        P_X12_play_183 (P_X12_play_140 n) x1 x2 e
      else
        (ck ((0 : Int32) ≤ (x2 - 1) ∧ (x2 - 1) < (4 : Int32))).bind fun _ =>
        if e.2 41 (x2 - 1) = 0 then
          (P_X12_stop 1 x2 ((-1)) ((-1)) e).bind fun e13 =>
          P_X12_play_207 (P_X12_play_140 n) x1 x2 e13
        else
          P_X12_play_183 (P_X12_play_140 n) x1 x2 e
    else
      some e

def P_X12_play_55 (k43 : Int32 → Int32 → mE → Option (mE)) : Nat → Int32 → Int32 → Int32 → mE → Option (mE)
  | 0, _, _, _, _ => none
  | n + 1, x1, x2, x3, e =>
  (ck ((0 : Int32) ≤ ((4 * x1) + x2) ∧ ((4 * x1) + x2) < (1600 : Int32))).bind fun _ =>
  if e.2 9 ((4 * x1) + x2) ≤ x3 then
    bd (x2 + 1) fun v6 =>
    k43 x1 v6 e
  else
    (P_X12_rowOf x1 x2 x3 e).bind fun q10 =>
    bd q10.1 fun z9 =>
    bd q10.2 fun e8 =>
    (ck ((0 : Int32) ≤ z9 ∧ z9 < (6000 : Int32))).bind fun _ =>
    bd (mA e8 59 z9 0) fun e15 =>
    (ck ((0 : Int32) ≤ z9 ∧ z9 < (6000 : Int32))).bind fun _ =>
    bd (mA e15 60 z9 0) fun e20 =>
    (ck ((0 : Int32) ≤ z9 ∧ z9 < (6000 : Int32))).bind fun _ =>
    bd (mA e20 61 z9 0) fun e25 =>
    (ck ((0 : Int32) ≤ z9 ∧ z9 < (6000 : Int32))).bind fun _ =>
    bd (mA e25 62 z9 0) fun e30 =>
    (ck ((0 : Int32) ≤ z9 ∧ z9 < (6000 : Int32))).bind fun _ =>
    bd (mA e30 63 z9 0) fun e35 =>
    (ck ((0 : Int32) ≤ z9 ∧ z9 < (6000 : Int32))).bind fun _ =>
    bd (mA e35 64 z9 0) fun e40 =>
    bd (x3 + 1) fun v42 =>
    P_X12_play_55 k43 n x1 x2 v42 e40

def P_X12_play_43 : Nat → Int32 → Int32 → mE → Option (mE)
  | 0, _, _, _ => none
  | n + 1, x1, x2, e =>
  (ck ((0 : Int32) ≤ x1 ∧ x1 < (400 : Int32))).bind fun _ =>
  if e.2 8 x1 ≤ x2 then
    P_X12_play_140 fu x1 0 e
  else
    P_X12_play_55 (P_X12_play_43 n) fu x1 x2 0 e

def P_X12_play_25 : Nat → Int32 → Int32 → mE → Option (mE)
  | 0, _, _, _ => none
  | n + 1, x1, x2, e =>
  if 4 ≤ x2 then
    P_X12_play_43 fu x1 0 e
  else
    (P_X12_clearTurn x2 e).bind fun e4 =>
    bd (x2 + 1) fun v6 =>
    P_X12_play_25 n x1 v6 e4

def P_X12_play (x1 : Int32) (e : mE) : Option (mE) :=
  (P_X12_stop 0 ((-1)) ((-1)) ((-1)) e).bind fun e2 =>
  bd (mS e2 32 ((-1))) fun e5 =>
  bd (mS e5 33 0) fun e7 =>
  bd (mS e7 34 ((-1))) fun e9 =>
  P_X12_play_25 fu x1 0 e9

def P_X12_done_175 (x1 : Int32) (x2 : Int32) (x3 : Int32) (x4 : Int32) (x5 : Int32) (e : mE) : Option (mE) :=
  (ck ((0 : Int32) ≤ (e.1 20) ∧ (e.1 20) < (40 : Int32))).bind fun _ =>
  bd (mA e 21 (e.1 20) x1) fun e5 =>
  (ck ((0 : Int32) ≤ (e5.1 20) ∧ (e5.1 20) < (40 : Int32))).bind fun _ =>
  bd (mA e5 22 (e5.1 20) x2) fun e10 =>
  (ck ((0 : Int32) ≤ (e10.1 20) ∧ (e10.1 20) < (40 : Int32))).bind fun _ =>
  bd (mA e10 23 (e10.1 20) x3) fun e15 =>
  (ck ((0 : Int32) ≤ (e15.1 20) ∧ (e15.1 20) < (40 : Int32))).bind fun _ =>
  bd (mA e15 24 (e15.1 20) x4) fun e20 =>
  (ck ((0 : Int32) ≤ (e20.1 20) ∧ (e20.1 20) < (40 : Int32))).bind fun _ =>
  bd (mA e20 25 (e20.1 20) x5) fun e25 =>
  bd (mS e25 20 ((e25.1 20) + 1)) fun e27 =>
  some e27

def P_X12_done_118 (k12 : Int32 → Int32 → Int32 → Int32 → Int32 → Int32 → mE → Option (mE)) : Nat → Int32 → Int32 → Int32 → Int32 → Int32 → Int32 → Int32 → mE → Option (mE)
  | 0, _, _, _, _, _, _, _, _ => none
  | n + 1, x1, x2, x3, x4, x5, x6, x7, e =>
  if 40 ≤ x7 then
    bd (x6 + 1) fun v2 =>
    k12 x1 x2 x3 x4 x5 v2 e
  else
    (ck ((0 : Int32) ≤ ((40 * x6) + x7) ∧ ((40 * x6) + x7) < (1600 : Int32))).bind fun _ =>
    (ck ((0 : Int32) ≤ ((40 * (x6 - 1)) + x7) ∧ ((40 * (x6 - 1)) + x7) < (1600 : Int32))).bind fun _ =>
    bd (mA e 27 ((40 * (x6 - 1)) + x7) (e.2 27 ((40 * x6) + x7))) fun e10 =>
    bd (x7 + 1) fun v12 =>
    P_X12_done_118 k12 n x1 x2 x3 x4 x5 x6 v12 e10

def P_X12_done_12 : Nat → Int32 → Int32 → Int32 → Int32 → Int32 → Int32 → mE → Option (mE)
  | 0, _, _, _, _, _, _, _ => none
  | n + 1, x1, x2, x3, x4, x5, x6, e =>
  if 40 ≤ x6 then
    bd (mS e 20 ((e.1 20) - 1)) fun e3 =>
    P_X12_done_175 x1 x2 x3 x4 x5 e3
  else
    (ck ((0 : Int32) ≤ x6 ∧ x6 < (40 : Int32))).bind fun _ =>
    (ck ((0 : Int32) ≤ (x6 - 1) ∧ (x6 - 1) < (40 : Int32))).bind fun _ =>
    bd (mA e 21 (x6 - 1) (e.2 21 x6)) fun e12 =>
    (ck ((0 : Int32) ≤ x6 ∧ x6 < (40 : Int32))).bind fun _ =>
    (ck ((0 : Int32) ≤ (x6 - 1) ∧ (x6 - 1) < (40 : Int32))).bind fun _ =>
    bd (mA e12 22 (x6 - 1) (e12.2 22 x6)) fun e20 =>
    (ck ((0 : Int32) ≤ x6 ∧ x6 < (40 : Int32))).bind fun _ =>
    (ck ((0 : Int32) ≤ (x6 - 1) ∧ (x6 - 1) < (40 : Int32))).bind fun _ =>
    bd (mA e20 23 (x6 - 1) (e20.2 23 x6)) fun e28 =>
    (ck ((0 : Int32) ≤ x6 ∧ x6 < (40 : Int32))).bind fun _ =>
    (ck ((0 : Int32) ≤ (x6 - 1) ∧ (x6 - 1) < (40 : Int32))).bind fun _ =>
    bd (mA e28 24 (x6 - 1) (e28.2 24 x6)) fun e36 =>
    (ck ((0 : Int32) ≤ x6 ∧ x6 < (40 : Int32))).bind fun _ =>
    (ck ((0 : Int32) ≤ (x6 - 1) ∧ (x6 - 1) < (40 : Int32))).bind fun _ =>
    bd (mA e36 25 (x6 - 1) (e36.2 25 x6)) fun e44 =>
    (ck ((0 : Int32) ≤ x6 ∧ x6 < (40 : Int32))).bind fun _ =>
    (ck ((0 : Int32) ≤ (x6 - 1) ∧ (x6 - 1) < (40 : Int32))).bind fun _ =>
    bd (mA e44 26 (x6 - 1) (e44.2 26 x6)) fun e52 =>
    P_X12_done_118 (P_X12_done_12 n) fu x1 x2 x3 x4 x5 x6 0 e52

def P_X12_done (x1 : Int32) (x2 : Int32) (x3 : Int32) (x4 : Int32) (x5 : Int32) (e : mE) : Option (mE) :=
  if e.1 20 = 40 then
    P_X12_done_12 fu x1 x2 x3 x4 x5 1 e
  else
    P_X12_done_175 x1 x2 x3 x4 x5 e

def P_X12_keepRow_19 : Nat → Int32 → Int32 → mE → Option (mE)
  | 0, _, _, _ => none
  | n + 1, x1, x2, e =>
  (ck ((0 : Int32) ≤ x1 ∧ x1 < (6000 : Int32))).bind fun _ =>
  if e.2 13 x1 ≤ x2 then
    some e
  else
    (ck ((0 : Int32) ≤ ((40 * x1) + x2) ∧ ((40 * x1) + x2) < (240000 : Int32))).bind fun _ =>
    (ck ((0 : Int32) ≤ ((40 * ((e.1 20) - 1)) + x2) ∧ ((40 * ((e.1 20) - 1)) + x2) < (1600 : Int32))).bind fun _ =>
    bd (mA e 27 ((40 * ((e.1 20) - 1)) + x2) (e.2 14 ((40 * x1) + x2))) fun e12 =>
    bd (x2 + 1) fun v14 =>
    P_X12_keepRow_19 n x1 v14 e12

def P_X12_keepRow (x1 : Int32) (e : mE) : Option (mE) :=
  (ck ((0 : Int32) ≤ x1 ∧ x1 < (6000 : Int32))).bind fun _ =>
  (ck ((0 : Int32) ≤ ((e.1 20) - 1) ∧ ((e.1 20) - 1) < (40 : Int32))).bind fun _ =>
  bd (mA e 26 ((e.1 20) - 1) (e.2 13 x1)) fun e7 =>
  P_X12_keepRow_19 fu x1 0 e7

def P_X12_newRow (x1 : Int32) (x2 : Int32) (e : mE) : Option (Int32 × mE) :=
  (ck ((0 : Int32) ≤ (e.1 11) ∧ (e.1 11) < (6000 : Int32))).bind fun _ =>
  bd (mA e 12 (e.1 11) x1) fun e4 =>
  (ck ((0 : Int32) ≤ (e4.1 11) ∧ (e4.1 11) < (6000 : Int32))).bind fun _ =>
  bd (mA e4 13 (e4.1 11) x2) fun e9 =>
  bd (mS e9 11 ((e9.1 11) + 1)) fun e11 =>
  some ((e11.1 11) - 1, e11)

def P_X12_turn_85 (x1 : Int32) (e : mE) : Option (Int32 × mE) :=
  if e.1 19 = 0 then
    (ck ((0 : Int32) ≤ x1 ∧ x1 < (400 : Int32))).bind fun _ =>
    (ck ((0 : Int32) ≤ ((4 * x1) + (e.2 8 x1)) ∧ ((4 * x1) + (e.2 8 x1)) < (1600 : Int32))).bind fun _ =>
    bd (mA e 9 ((4 * x1) + (e.2 8 x1)) 0) fun e9 =>
    (ck ((0 : Int32) ≤ x1 ∧ x1 < (400 : Int32))).bind fun _ =>
    bd (mA e9 8 x1 ((e9.2 8 x1) + 1)) fun e14 =>
    (P_X12_done 0 x1 ((-1)) 0 0 e14).bind fun e17 =>
    some (1, e17)
  else
    some (0, e)

def P_X12_turn_74 (x1 : Int32) (e : mE) : Option (Int32 × mE) :=
  P_X12_turn_85 x1 e

def P_X12_turn_62 (x1 : Int32) (e : mE) : Option (Int32 × mE) :=
  if e.1 33 = 0 then
    P_X12_turn_74 x1 e
  else
    bd (mS e 19 2) fun e3 =>
    P_X12_turn_74 x1 e3

def P_X12_turn (x1 : Int32) (e : mE) : Option (Int32 × mE) :=
  bd (mS e 0 0) fun e1 =>
  bd (mS e1 19 0) fun e3 =>
  (P_X12_isGame x1 e3).bind fun q8 =>
  bd q8.1 fun z7 =>
  bd q8.2 fun e6 =>
  if z7 = 0 then
    some (0, e6)
  else
    (P_X12_play x1 e6).bind fun e12 =>
    if e12.1 28 = 0 then
      (ck ((0 : Int32) ≤ x1 ∧ x1 < (400 : Int32))).bind fun _ =>
      bd (e12.2 8 x1) fun v19 =>
      if v19 ≤ 0 then
        P_X12_turn_62 x1 e12
      else
        (ck ((0 : Int32) ≤ (v19 - 1) ∧ (v19 - 1) < (4 : Int32))).bind fun _ =>
        if e12.2 41 (v19 - 1) = 0 then
          bd (mS e12 19 1) fun e25 =>
          P_X12_turn_74 x1 e25
        else
          P_X12_turn_62 x1 e12
    else
      bd (mS e12 19 (e12.1 28)) fun e27 =>
      P_X12_turn_85 x1 e27

def P_X12_over_163 (x1 : Int32) (x2 : Int32) (x3 : Int32) (e : mE) : Option (Int32 × mE) :=
  if e.1 19 = 0 then
    (ck ((0 : Int32) ≤ ((4 * x1) + x3) ∧ ((4 * x1) + x3) < (1600 : Int32))).bind fun _ =>
    (P_X12_newRow x2 0 e).bind fun q11 =>
    bd q11.1 fun z10 =>
    bd q11.2 fun e9 =>
    (ck ((0 : Int32) ≤ ((130 * ((4 * x1) + x3)) + (e.2 9 ((4 * x1) + x3))) ∧ ((130 * ((4 * x1) + x3)) + (e.2 9 ((4 * x1) + x3))) < (208000 : Int32))).bind fun _ =>
    bd (mA e9 10 ((130 * ((4 * x1) + x3)) + (e.2 9 ((4 * x1) + x3))) z10) fun e13 =>
    (ck ((0 : Int32) ≤ ((4 * x1) + x3) ∧ ((4 * x1) + x3) < (1600 : Int32))).bind fun _ =>
    bd (mA e13 9 ((4 * x1) + x3) ((e13.2 9 ((4 * x1) + x3)) + 1)) fun e18 =>
    (P_X12_done 1 x1 ((-1)) x3 0 e18).bind fun e21 =>
    some (1, e21)
  else
    some (0, e)

def P_X12_over_107 (x1 : Int32) (x2 : Int32) (x3 : Int32) (e : mE) : Option (Int32 × mE) :=
  bd (mS e 19 4) fun e2 =>
  P_X12_over_163 x1 x2 x3 e2

def P_X12_over_89 (x1 : Int32) (x2 : Int32) (x3 : Int32) (e : mE) : Option (Int32 × mE) :=
  bd (mS e 19 3) fun e2 =>
  P_X12_over_163 x1 x2 x3 e2

def P_X12_over (x1 : Int32) (x2 : Int32) (e : mE) : Option (Int32 × mE) :=
  bd (mS e 0 0) fun e1 =>
  bd (mS e1 19 0) fun e3 =>
  (P_X12_isGame x1 e3).bind fun q8 =>
  bd q8.1 fun z7 =>
  bd q8.2 fun e6 =>
  if z7 = 0 then
    some (0, e6)
  else
    (P_X12_play x1 e6).bind fun e12 =>
    (ck ((0 : Int32) ≤ x1 ∧ x1 < (400 : Int32))).bind fun _ =>
    bd ((e12.2 8 x1) - 1) fun v18 =>
    if e12.1 28 = 0 then
      if 0 ≤ v18 then
        (ck ((0 : Int32) ≤ v18 ∧ v18 < (4 : Int32))).bind fun _ =>
        if e12.2 41 v18 = 0 then
          (ck ((0 : Int32) ≤ v18 ∧ v18 < (4 : Int32))).bind fun _ =>
          (ck ((0 : Int32) ≤ v18 ∧ v18 < (4 : Int32))).bind fun _ =>
          if e12.2 44 v18 = e12.2 40 v18 then
            P_X12_over_89 x1 x2 v18 e12
          else
            if x2 < 0 then
              P_X12_over_107 x1 x2 v18 e12
            else
              if x2 ≤ 10 then
                (ck ((0 : Int32) ≤ v18 ∧ v18 < (4 : Int32))).bind fun _ =>
                if x2 = e12.2 51 v18 then
                  bd (mS e12 19 5) fun e38 =>
                  P_X12_over_163 x1 x2 v18 e38
                else
                  (ck ((0 : Int32) ≤ ((11 * v18) + x2) ∧ ((11 * v18) + x2) < (44 : Int32))).bind fun _ =>
                  (ck ((0 : Int32) ≤ x1 ∧ x1 < (400 : Int32))).bind fun _ =>
                  if e12.2 56 ((11 * v18) + x2) = ((e12.2 5 x1) + 4) / 5 then
                    bd (mS e12 19 6) fun e47 =>
                    P_X12_over_163 x1 x2 v18 e47
                  else
                    P_X12_over_163 x1 x2 v18 e12
              else
                P_X12_over_107 x1 x2 v18 e12
        else
          P_X12_over_89 x1 x2 v18 e12
      else
        bd (mS e12 19 11) fun e49 =>
        P_X12_over_163 x1 x2 v18 e49
    else
      bd (mS e12 19 (e12.1 28)) fun e51 =>
      P_X12_over_163 x1 x2 v18 e51

def P_X12_ball_169 (x1 : Int32) (x4 : Int32) (x5 : Int32) (e : mE) : Option (Int32 × mE) :=
  if e.1 19 = 0 then
    (ck ((0 : Int32) ≤ x4 ∧ x4 < (6000 : Int32))).bind fun _ =>
    (ck ((0 : Int32) ≤ ((40 * x4) + (e.2 13 x4)) ∧ ((40 * x4) + (e.2 13 x4)) < (240000 : Int32))).bind fun _ =>
    bd (mA e 14 ((40 * x4) + (e.2 13 x4)) x5) fun e9 =>
    (ck ((0 : Int32) ≤ x4 ∧ x4 < (6000 : Int32))).bind fun _ =>
    bd (mA e9 13 x4 ((e9.2 13 x4) + 1)) fun e14 =>
    (ck ((0 : Int32) ≤ x4 ∧ x4 < (6000 : Int32))).bind fun _ =>
    (P_X12_done 2 x1 x4 ((e14.2 13 x4) - 1) 0 e14).bind fun e20 =>
    some (1, e20)
  else
    some (0, e)

def P_X12_ball_117 (x1 : Int32) (x4 : Int32) (x5 : Int32) (e : mE) : Option (Int32 × mE) :=
  bd (mS e 19 11) fun e2 =>
  P_X12_ball_169 x1 x4 x5 e2

def P_X12_ball_73 (x1 : Int32) (x2 : Int32) (x3 : Int32) (y0 : Int32) (e : mE) : Option (Int32 × mE) :=
  bd (x2 &&& 255) fun v1 =>
  if e.1 28 = 0 then
    if y0 = (-1) then
      P_X12_ball_117 x1 y0 v1 e
    else
      (ck ((0 : Int32) ≤ y0 ∧ y0 < (6000 : Int32))).bind fun _ =>
      if e.2 13 y0 = (-1) then
        P_X12_ball_117 x1 y0 v1 e
      else
        (ck ((0 : Int32) ≤ y0 ∧ y0 < (6000 : Int32))).bind fun _ =>
        if e.2 13 y0 = 40 then
          bd (mS e 19 12) fun e13 =>
          P_X12_ball_169 x1 y0 v1 e13
        else
          (P_X12_against x1 x3 y0 (v1 / 16) (v1 - v1 / 16 * 16) e).bind fun q18 =>
          bd q18.1 fun z17 =>
          bd q18.2 fun e16 =>
          bd (mS e16 19 z17) fun e20 =>
          P_X12_ball_169 x1 y0 v1 e20
  else
    bd (mS e 19 (e.1 28)) fun e22 =>
    P_X12_ball_169 x1 y0 v1 e22

def P_X12_ball_51 (x1 : Int32) (x2 : Int32) (x3 : Int32) (e : mE) : Option (Int32 × mE) :=
  P_X12_ball_73 x1 x2 x3 ((-1)) e

def P_X12_ball (x1 : Int32) (x2 : Int32) (e : mE) : Option (Int32 × mE) :=
  bd (mS e 0 0) fun e1 =>
  bd (mS e1 19 0) fun e3 =>
  (P_X12_isGame x1 e3).bind fun q8 =>
  bd q8.1 fun z7 =>
  bd q8.2 fun e6 =>
  if z7 = 0 then
    some (0, e6)
  else
    (P_X12_play x1 e6).bind fun e12 =>
    (ck ((0 : Int32) ≤ x1 ∧ x1 < (400 : Int32))).bind fun _ =>
    bd ((e12.2 8 x1) - 1) fun v18 =>
    if v18 < 0 then
      P_X12_ball_51 x1 x2 v18 e12
    else
      (ck ((0 : Int32) ≤ ((4 * x1) + v18) ∧ ((4 * x1) + v18) < (1600 : Int32))).bind fun _ =>
      if e12.2 9 ((4 * x1) + v18) = 0 then
        P_X12_ball_51 x1 x2 v18 e12
      else
        (ck ((0 : Int32) ≤ ((4 * x1) + v18) ∧ ((4 * x1) + v18) < (1600 : Int32))).bind fun _ =>
        (P_X12_rowOf x1 v18 ((e12.2 9 ((4 * x1) + v18)) - 1) e12).bind fun q30 =>
        bd q30.1 fun z29 =>
        bd q30.2 fun e28 =>
        P_X12_ball_73 x1 x2 v18 z29 e28

def P_X12_feed_76 (k23 : Int32 → Int32 → Int32 → Int32 → Int32 → Int32 → mE → Option (Int32 × mE)) (x1 : Int32) (x2 : Int32) (x3 : Int32) (x4 : Int32) (x5 : Int32) (x6 : Int32) (y0 : Int32) (e : mE) : Option (Int32 × mE) :=
  (ck ((0 : Int32) ≤ (e.1 16) ∧ (e.1 16) < (6000 : Int32))).bind fun _ =>
  bd (mA e 15 (e.1 16) ((y0 >>> (24 - (8 * (x6 - x6 / 4 * 4)) &&& 31)) &&& 255)) fun e5 =>
  bd (mS e5 16 ((e5.1 16) + 1)) fun e7 =>
  bd (x6 + 1) fun v9 =>
  k23 x1 x2 x3 x4 x5 v9 e7

def P_X12_feed_23 : Nat → Int32 → Int32 → Int32 → Int32 → Int32 → Int32 → mE → Option (Int32 × mE)
  | 0, _, _, _, _, _, _, _ => none
  | n + 1, x1, x2, x3, x4, x5, x6, e =>
  if 20 ≤ x6 then
    some (e.1 16, e)
  else
    if 4 ≤ x6 then
      if 8 ≤ x6 then
        if 12 ≤ x6 then
          if 16 ≤ x6 then
            P_X12_feed_76 (P_X12_feed_23 n) x1 x2 x3 x4 x5 x6 x5 e
          else
            P_X12_feed_76 (P_X12_feed_23 n) x1 x2 x3 x4 x5 x6 x4 e
        else
          P_X12_feed_76 (P_X12_feed_23 n) x1 x2 x3 x4 x5 x6 x3 e
      else
        P_X12_feed_76 (P_X12_feed_23 n) x1 x2 x3 x4 x5 x6 x2 e
    else
      P_X12_feed_76 (P_X12_feed_23 n) x1 x2 x3 x4 x5 x6 x1 e

def P_X12_feed (x1 : Int32) (x2 : Int32) (x3 : Int32) (x4 : Int32) (x5 : Int32) (e : mE) : Option (Int32 × mE) :=
  bd (mS e 0 0) fun e1 =>
  if (e1.1 16) + 20 ≤ 6000 then
    P_X12_feed_23 fu x1 x2 x3 x4 x5 0 e1
  else
    some ((-1), e1)

def P_X12_find (x1 : Int32) (x2 : Int32) (x3 : Int32) (e : mE) : Option (Int32 × mE) :=
  (P_X12_isGame x1 e).bind fun q4 =>
  bd q4.1 fun z3 =>
  bd q4.2 fun e2 =>
  if z3 = 0 then
    some ((-1), e2)
  else
    if x2 < 0 then
      some ((-1), e2)
    else
      (ck ((0 : Int32) ≤ x1 ∧ x1 < (400 : Int32))).bind fun _ =>
      if e2.2 8 x1 ≤ x2 then
        some ((-1), e2)
      else
        if x3 < 0 then
          some ((-1), e2)
        else
          (ck ((0 : Int32) ≤ ((4 * x1) + x2) ∧ ((4 * x1) + x2) < (1600 : Int32))).bind fun _ =>
          if e2.2 9 ((4 * x1) + x2) ≤ x3 then
            some ((-1), e2)
          else
            (P_X12_rowOf x1 x2 x3 e2).bind fun q20 =>
            bd q20.1 fun z19 =>
            bd q20.2 fun e18 =>
            some (z19, e18)

def P_X12_open_71 : Nat → Int32 → Int32 → Int32 → mE → Option (Int32 × mE)
  | 0, _, _, _, _ => none
  | n + 1, x4, x5, x6, e =>
  if x4 ≤ x6 then
    bd (mS e 16 0) fun e3 =>
    some (1, e3)
  else
    (ck ((0 : Int32) ≤ x6 ∧ x6 < (6000 : Int32))).bind fun _ =>
    (ck ((0 : Int32) ≤ ((40 * x5) + x6) ∧ ((40 * x5) + x6) < (240000 : Int32))).bind fun _ =>
    bd (mA e 14 ((40 * x5) + x6) (e.2 15 x6)) fun e12 =>
    bd (x6 + 1) fun v14 =>
    P_X12_open_71 n x4 x5 v14 e12

def P_X12_open (x1 : Int32) (x2 : Int32) (x3 : Int32) (x4 : Int32) (e : mE) : Option (Int32 × mE) :=
  bd (mS e 0 0) fun e1 =>
  (P_X12_find x1 x2 x3 e1).bind fun q6 =>
  bd q6.1 fun z5 =>
  bd q6.2 fun e4 =>
  if z5 = (-1) then
    some (0, e4)
  else
    if x4 < 0 then
      some (0, e4)
    else
      if 40 < x4 then
        some (0, e4)
      else
        if x4 ≤ e4.1 16 then
          (P_X12_done 3 x1 z5 0 0 e4).bind fun e13 =>
          (P_X12_keepRow z5 e13).bind fun e17 =>
          (ck ((0 : Int32) ≤ z5 ∧ z5 < (6000 : Int32))).bind fun _ =>
          bd (mA e17 13 z5 x4) fun e23 =>
          P_X12_open_71 fu x4 z5 0 e23
        else
          some (0, e4)

def P_X12_tear (x1 : Int32) (x2 : Int32) (x3 : Int32) (e : mE) : Option (Int32 × mE) :=
  bd (mS e 0 0) fun e1 =>
  (P_X12_find x1 x2 x3 e1).bind fun q6 =>
  bd q6.1 fun z5 =>
  bd q6.2 fun e4 =>
  if z5 = (-1) then
    some (0, e4)
  else
    (ck ((0 : Int32) ≤ z5 ∧ z5 < (6000 : Int32))).bind fun _ =>
    if e4.2 13 z5 = (-1) then
      some (0, e4)
    else
      (P_X12_done 3 x1 z5 0 0 e4).bind fun e14 =>
      (P_X12_keepRow z5 e14).bind fun e18 =>
      (ck ((0 : Int32) ≤ z5 ∧ z5 < (6000 : Int32))).bind fun _ =>
      bd (mA e18 13 z5 ((-1))) fun e24 =>
      some (1, e24)

def P_X12_insert_8 : Nat → Int32 → Int32 → Int32 → Int32 → mE → Option (mE)
  | 0, _, _, _, _, _ => none
  | n + 1, x1, x2, x3, x4, e =>
  if x4 ≤ x2 then
    (ck ((0 : Int32) ≤ ((40 * x1) + x2) ∧ ((40 * x1) + x2) < (240000 : Int32))).bind fun _ =>
    bd (mA e 14 ((40 * x1) + x2) x3) fun e6 =>
    (ck ((0 : Int32) ≤ x1 ∧ x1 < (6000 : Int32))).bind fun _ =>
    bd (mA e6 13 x1 ((e6.2 13 x1) + 1)) fun e11 =>
    some e11
  else
    (ck ((0 : Int32) ≤ (((40 * x1) + x4) - 1) ∧ (((40 * x1) + x4) - 1) < (240000 : Int32))).bind fun _ =>
    (ck ((0 : Int32) ≤ ((40 * x1) + x4) ∧ ((40 * x1) + x4) < (240000 : Int32))).bind fun _ =>
    bd (mA e 14 ((40 * x1) + x4) (e.2 14 (((40 * x1) + x4) - 1))) fun e20 =>
    bd (x4 + (-1)) fun v22 =>
    P_X12_insert_8 n x1 x2 x3 v22 e20

def P_X12_insert (x1 : Int32) (x2 : Int32) (x3 : Int32) (e : mE) : Option (mE) :=
  (ck ((0 : Int32) ≤ x1 ∧ x1 < (6000 : Int32))).bind fun _ =>
  bd (e.2 13 x1) fun v4 =>
  P_X12_insert_8 fu x1 x2 x3 v4 e

def P_X12_remove_2 : Nat → Int32 → Int32 → mE → Option (mE)
  | 0, _, _, _ => none
  | n + 1, x1, x3, e =>
  (ck ((0 : Int32) ≤ x1 ∧ x1 < (6000 : Int32))).bind fun _ =>
  if (e.2 13 x1) - 1 ≤ x3 then
    (ck ((0 : Int32) ≤ x1 ∧ x1 < (6000 : Int32))).bind fun _ =>
    bd (mA e 13 x1 ((e.2 13 x1) - 1)) fun e9 =>
    some e9
  else
    (ck ((0 : Int32) ≤ (((40 * x1) + x3) + 1) ∧ (((40 * x1) + x3) + 1) < (240000 : Int32))).bind fun _ =>
    (ck ((0 : Int32) ≤ ((40 * x1) + x3) ∧ ((40 * x1) + x3) < (240000 : Int32))).bind fun _ =>
    bd (mA e 14 ((40 * x1) + x3) (e.2 14 (((40 * x1) + x3) + 1))) fun e17 =>
    bd (x3 + 1) fun v19 =>
    P_X12_remove_2 n x1 v19 e17

def P_X12_remove (x1 : Int32) (x2 : Int32) (e : mE) : Option (mE) :=
  P_X12_remove_2 fu x1 x2 e

def P_X12_put (x1 : Int32) (x2 : Int32) (x3 : Int32) (x4 : Int32) (x5 : Int32) (e : mE) : Option (Int32 × mE) :=
  bd (mS e 0 0) fun e1 =>
  (P_X12_find x1 x2 x3 e1).bind fun q6 =>
  bd q6.1 fun z5 =>
  bd q6.2 fun e4 =>
  if z5 = (-1) then
    some (0, e4)
  else
    (ck ((0 : Int32) ≤ z5 ∧ z5 < (6000 : Int32))).bind fun _ =>
    if e4.2 13 z5 = (-1) then
      some (0, e4)
    else
      if x4 < 0 then
        some (0, e4)
      else
        (ck ((0 : Int32) ≤ z5 ∧ z5 < (6000 : Int32))).bind fun _ =>
        if e4.2 13 z5 < x4 then
          some (0, e4)
        else
          (ck ((0 : Int32) ≤ z5 ∧ z5 < (6000 : Int32))).bind fun _ =>
          if e4.2 13 z5 = 40 then
            some (0, e4)
          else
            (P_X12_insert z5 x4 (x5 &&& 255) e4).bind fun e23 =>
            (P_X12_done 4 x1 z5 x4 0 e23).bind fun e27 =>
            some (1, e27)

def P_X12_mend (x1 : Int32) (x2 : Int32) (x3 : Int32) (x4 : Int32) (x5 : Int32) (e : mE) : Option (Int32 × mE) :=
  bd (mS e 0 0) fun e1 =>
  (P_X12_find x1 x2 x3 e1).bind fun q6 =>
  bd q6.1 fun z5 =>
  bd q6.2 fun e4 =>
  if z5 = (-1) then
    some ((-1), e4)
  else
    if x4 < 0 then
      some ((-1), e4)
    else
      (ck ((0 : Int32) ≤ z5 ∧ z5 < (6000 : Int32))).bind fun _ =>
      if x4 < e4.2 13 z5 then
        (ck ((0 : Int32) ≤ ((40 * z5) + x4) ∧ ((40 * z5) + x4) < (240000 : Int32))).bind fun _ =>
        bd (e4.2 14 ((40 * z5) + x4)) fun v17 =>
        (ck ((0 : Int32) ≤ ((40 * z5) + x4) ∧ ((40 * z5) + x4) < (240000 : Int32))).bind fun _ =>
        bd (mA e4 14 ((40 * z5) + x4) (x5 &&& 255)) fun e21 =>
        (P_X12_done 5 x1 z5 x4 v17 e21).bind fun e24 =>
        some (v17, e24)
      else
        some ((-1), e4)

def P_X12_out (x1 : Int32) (x2 : Int32) (x3 : Int32) (x4 : Int32) (e : mE) : Option (Int32 × mE) :=
  bd (mS e 0 0) fun e1 =>
  (P_X12_find x1 x2 x3 e1).bind fun q6 =>
  bd q6.1 fun z5 =>
  bd q6.2 fun e4 =>
  if z5 = (-1) then
    some ((-1), e4)
  else
    if x4 < 0 then
      some ((-1), e4)
    else
      (ck ((0 : Int32) ≤ z5 ∧ z5 < (6000 : Int32))).bind fun _ =>
      if x4 < e4.2 13 z5 then
        (ck ((0 : Int32) ≤ ((40 * z5) + x4) ∧ ((40 * z5) + x4) < (240000 : Int32))).bind fun _ =>
        bd (e4.2 14 ((40 * z5) + x4)) fun v17 =>
        (P_X12_remove z5 x4 e4).bind fun e19 =>
        (P_X12_done 6 x1 z5 x4 v17 e19).bind fun e23 =>
        some (v17, e23)
      else
        some ((-1), e4)

def P_X12_bowls (x1 : Int32) (x2 : Int32) (x3 : Int32) (x4 : Int32) (e : mE) : Option (Int32 × mE) :=
  bd (mS e 0 0) fun e1 =>
  (P_X12_find x1 x2 x3 e1).bind fun q6 =>
  bd q6.1 fun z5 =>
  bd q6.2 fun e4 =>
  if z5 = (-1) then
    some ((-1), e4)
  else
    (ck ((0 : Int32) ≤ z5 ∧ z5 < (6000 : Int32))).bind fun _ =>
    bd (e4.2 12 z5) fun v12 =>
    (ck ((0 : Int32) ≤ z5 ∧ z5 < (6000 : Int32))).bind fun _ =>
    bd (mA e4 12 z5 (x4 &&& 15)) fun e16 =>
    (P_X12_done 7 x1 z5 0 v12 e16).bind fun e19 =>
    some (v12, e19)

def P_X12_undo_156 : Nat → Int32 → Int32 → Int32 → Int32 → mE → Option (Int32 × mE)
  | 0, _, _, _, _, _ => none
  | n + 1, x1, x2, x3, x4, e =>
  (ck ((0 : Int32) ≤ x3 ∧ x3 < (6000 : Int32))).bind fun _ =>
  if e.2 13 x3 ≤ x4 then
    some (x2, e)
  else
    (ck ((0 : Int32) ≤ ((40 * x1) + x4) ∧ ((40 * x1) + x4) < (1600 : Int32))).bind fun _ =>
    (ck ((0 : Int32) ≤ ((40 * x3) + x4) ∧ ((40 * x3) + x4) < (240000 : Int32))).bind fun _ =>
    bd (mA e 14 ((40 * x3) + x4) (e.2 27 ((40 * x1) + x4))) fun e12 =>
    bd (x4 + 1) fun v14 =>
    P_X12_undo_156 n x1 x2 x3 v14 e12

def P_X12_undo (e : mE) : Option (Int32 × mE) :=
  bd (mS e 0 0) fun e1 =>
  if e1.1 20 = 0 then
    some ((-1), e1)
  else
    bd (mS e1 20 ((e1.1 20) - 1)) fun e4 =>
    bd (e4.1 20) fun v6 =>
    (ck ((0 : Int32) ≤ v6 ∧ v6 < (40 : Int32))).bind fun _ =>
    bd (e4.2 22 v6) fun v10 =>
    (ck ((0 : Int32) ≤ v6 ∧ v6 < (40 : Int32))).bind fun _ =>
    bd (e4.2 23 v6) fun v14 =>
    (ck ((0 : Int32) ≤ v6 ∧ v6 < (40 : Int32))).bind fun _ =>
    if e4.2 21 v6 = 0 then
      (ck ((0 : Int32) ≤ v10 ∧ v10 < (400 : Int32))).bind fun _ =>
      bd (mA e4 8 v10 ((e4.2 8 v10) - 1)) fun e22 =>
      some (v10, e22)
    else
    if e4.2 21 v6 = 1 then
      (ck ((0 : Int32) ≤ v6 ∧ v6 < (40 : Int32))).bind fun _ =>
      (ck ((0 : Int32) ≤ ((4 * v10) + (e4.2 24 v6)) ∧ ((4 * v10) + (e4.2 24 v6)) < (1600 : Int32))).bind fun _ =>
      bd (mA e4 9 ((4 * v10) + (e4.2 24 v6)) ((e4.2 9 ((4 * v10) + (e4.2 24 v6))) - 1)) fun e31 =>
      some (v10, e31)
    else
    if e4.2 21 v6 = 2 then
      (ck ((0 : Int32) ≤ v6 ∧ v6 < (40 : Int32))).bind fun _ =>
      (P_X12_remove v14 (e4.2 24 v6) e4).bind fun e38 =>
      some (v10, e38)
    else
    if e4.2 21 v6 = 3 then
      (ck ((0 : Int32) ≤ v6 ∧ v6 < (40 : Int32))).bind fun _ =>
      (ck ((0 : Int32) ≤ v14 ∧ v14 < (6000 : Int32))).bind fun _ =>
      bd (mA e4 13 v14 (e4.2 26 v6)) fun e47 =>
      P_X12_undo_156 fu v6 v10 v14 0 e47
    else
    if e4.2 21 v6 = 4 then
      (ck ((0 : Int32) ≤ v6 ∧ v6 < (40 : Int32))).bind fun _ =>
      (P_X12_remove v14 (e4.2 24 v6) e4).bind fun e54 =>
      some (v10, e54)
    else
    if e4.2 21 v6 = 5 then
      (ck ((0 : Int32) ≤ v6 ∧ v6 < (40 : Int32))).bind fun _ =>
      (ck ((0 : Int32) ≤ v6 ∧ v6 < (40 : Int32))).bind fun _ =>
      (ck ((0 : Int32) ≤ ((40 * v14) + (e4.2 24 v6)) ∧ ((40 * v14) + (e4.2 24 v6)) < (240000 : Int32))).bind fun _ =>
      bd (mA e4 14 ((40 * v14) + (e4.2 24 v6)) (e4.2 25 v6)) fun e66 =>
      some (v10, e66)
    else
    if e4.2 21 v6 = 6 then
      (ck ((0 : Int32) ≤ v6 ∧ v6 < (40 : Int32))).bind fun _ =>
      (ck ((0 : Int32) ≤ v6 ∧ v6 < (40 : Int32))).bind fun _ =>
      (P_X12_insert v14 (e4.2 24 v6) (e4.2 25 v6) e4).bind fun e76 =>
      some (v10, e76)
    else
    (ck ((0 : Int32) ≤ v6 ∧ v6 < (40 : Int32))).bind fun _ =>
    (ck ((0 : Int32) ≤ v14 ∧ v14 < (6000 : Int32))).bind fun _ =>
    bd (mA e4 12 v14 (e4.2 25 v6)) fun e84 =>
    some (v10, e84)

def P_X12_why (e : mE) : Option (Int32 × mE) :=
  bd (mS e 0 0) fun e1 =>
  some (e1.1 19, e1)

def P_X12_more (x1 : Int32) (e : mE) : Option (Int32 × mE) :=
  (ck ((0 : Int32) ≤ x1 ∧ x1 < (4 : Int32))).bind fun _ =>
  if e.2 41 x1 = 0 then
    (P_X12_left x1 e).bind fun q8 =>
    bd q8.1 fun z7 =>
    bd q8.2 fun e6 =>
    some (6 * z7, e6)
  else
    some (0, e)

def P_X12_nowOf (x1 : Int32) (x2 : Int32) (e : mE) : Option (Int32 × mE) :=
  bd (e.1 32) fun v1 =>
  if x2 = 0 then
    some (v1, e)
  else
  if x2 = 1 then
    if 0 ≤ v1 then
      (ck ((0 : Int32) ≤ v1 ∧ v1 < (4 : Int32))).bind fun _ =>
      some (e.2 45 v1, e)
    else
      some ((-1), e)
  else
  if x2 = 2 then
    if 0 ≤ v1 then
      (ck ((0 : Int32) ≤ v1 ∧ v1 < (4 : Int32))).bind fun _ =>
      some (e.2 46 v1, e)
    else
      some ((-1), e)
  else
  if x2 = 3 then
    if 0 ≤ v1 then
      (ck ((0 : Int32) ≤ v1 ∧ v1 < (4 : Int32))).bind fun _ =>
      some (e.2 51 v1, e)
    else
      some ((-1), e)
  else
  if x2 = 4 then
    if 0 ≤ v1 then
      (P_X12_left v1 e).bind fun q23 =>
      bd q23.1 fun z22 =>
      bd q23.2 fun e21 =>
      some (z22, e21)
    else
      some ((-1), e)
  else
  if x2 = 5 then
    if 0 ≤ v1 then
      (ck ((0 : Int32) ≤ v1 ∧ v1 < (4 : Int32))).bind fun _ =>
      some (e.2 41 v1, e)
    else
      some ((-1), e)
  else
  if x2 = 6 then
    (P_X12_lastTurn x1 e).bind fun q33 =>
    bd q33.1 fun z32 =>
    bd q33.2 fun e31 =>
    if v1 = z32 then
      some (e31.1 34, e31)
    else
      some ((-1), e31)
  else
  if x2 = 7 then
    (P_X12_lastTurn x1 e).bind fun q40 =>
    bd q40.1 fun z39 =>
    bd q40.2 fun e38 =>
    if v1 = z39 then
      (ck ((0 : Int32) ≤ v1 ∧ v1 < (4 : Int32))).bind fun _ =>
      bd (if 0 < (e38.1 34) - (e38.2 35 v1) then (e38.1 34) - (e38.2 35 v1) else 0) fun z46 =>
      some (z46, e38)
    else
      some ((-1), e38)
  else
  if x2 = 8 then
    (P_X12_lastTurn x1 e).bind fun q51 =>
    bd q51.1 fun z50 =>
    bd q51.2 fun e49 =>
    if v1 = z50 then
      (ck ((0 : Int32) ≤ v1 ∧ v1 < (4 : Int32))).bind fun _ =>
      (P_X12_more v1 e49).bind fun q60 =>
      bd q60.1 fun z59 =>
      bd q60.2 fun e58 =>
      if z59 < (e49.1 34) - (e49.2 35 v1) then
        some (0, e58)
      else
        some (1, e58)
    else
      some ((-1), e49)
  else
  if x2 = 9 then
    if 0 ≤ v1 then
      (ck ((0 : Int32) ≤ v1 ∧ v1 < (4 : Int32))).bind fun _ =>
      (P_X12_more v1 e).bind fun q70 =>
      bd q70.1 fun z69 =>
      bd q70.2 fun e68 =>
      some ((e.2 35 v1) + z69, e68)
    else
      some ((-1), e)
  else
  if x2 = 10 then
    some (e.1 33, e)
  else
  if x2 = 11 then
    some (e.1 28, e)
  else
  if x2 = 12 then
    some (e.1 29, e)
  else
  if x2 = 13 then
    some (e.1 30, e)
  else
  some (e.1 31, e)

def P_X12_now_23 (e : mE) : Option (Int32 × mE) :=
  (P_X12_fail e).bind fun q5 =>
  bd q5.1 fun z4 =>
  bd q5.2 fun e3 =>
  some (z4, e3)

def P_X12_now (x1 : Int32) (x2 : Int32) (e : mE) : Option (Int32 × mE) :=
  bd (mS e 0 0) fun e1 =>
  (P_X12_isGame x1 e1).bind fun q6 =>
  bd q6.1 fun z5 =>
  bd q6.2 fun e4 =>
  if z5 = 0 then
    P_X12_now_23 e4
  else
    if x2 < 0 then
      P_X12_now_23 e4
    else
      if x2 ≤ 14 then
        (P_X12_play x1 e4).bind fun e12 =>
        (P_X12_nowOf x1 x2 e12).bind fun q18 =>
        bd q18.1 fun z17 =>
        bd q18.2 fun e16 =>
        some (z17, e16)
      else
        P_X12_now_23 e4

def P_X12_sumOf_98 : Nat → Int32 → Int32 → Int32 → Int32 → Int32 → mE → Option (Int32 × mE)
  | 0, _, _, _, _, _, _ => none
  | n + 1, x1, x2, x3, x4, x5, e =>
  (ck ((0 : Int32) ≤ ((4 * x1) + x2) ∧ ((4 * x1) + x2) < (1600 : Int32))).bind fun _ =>
  if e.2 9 ((4 * x1) + x2) ≤ x5 then
    some (x4, e)
  else
    if x3 = 13 then
      (P_X12_rowOf x1 x2 x5 e).bind fun q12 =>
      bd q12.1 fun z11 =>
      bd q12.2 fun e10 =>
      (ck ((0 : Int32) ≤ z11 ∧ z11 < (6000 : Int32))).bind fun _ =>
      bd (x4 + (e10.2 59 z11)) fun v14 =>
      bd (x5 + 1) fun v15 =>
      P_X12_sumOf_98 n x1 x2 x3 v14 v15 e10
    else
      some (x4, e)

def P_X12_sumOf_86 (k39 : Int32 → Int32 → Int32 → Int32 → Int32 → mE → Option (Int32 × mE)) (x1 : Int32) (x2 : Int32) (x3 : Int32) (x5 : Int32) (y0 : Int32) (y1 : Int32) (e : mE) : Option (Int32 × mE) :=
  bd (y0 + y1) fun v1 =>
  bd (x5 + 1) fun v2 =>
  k39 x1 x2 x3 v1 v2 e

def P_X12_sumOf_39 : Nat → Int32 → Int32 → Int32 → Int32 → Int32 → mE → Option (Int32 × mE)
  | 0, _, _, _, _, _, _ => none
  | n + 1, x1, x2, x3, x4, x5, e =>
  if (11 * x2) + 11 ≤ x5 then
    P_X12_sumOf_98 fu x1 x2 x3 x4 0 e
  else
    if x3 = 11 then
      (ck ((0 : Int32) ≤ x5 ∧ x5 < (44 : Int32))).bind fun _ =>
      P_X12_sumOf_86 (P_X12_sumOf_39 n) x1 x2 x3 x5 x4 (e.2 53 x5) e
    else
      if x3 = 12 then
        (ck ((0 : Int32) ≤ x5 ∧ x5 < (44 : Int32))).bind fun _ =>
        P_X12_sumOf_86 (P_X12_sumOf_39 n) x1 x2 x3 x5 x4 (e.2 57 x5) e
      else
        P_X12_sumOf_86 (P_X12_sumOf_39 n) x1 x2 x3 x5 x4 0 e

def P_X12_sumOf_31 (x1 : Int32) (x2 : Int32) (x3 : Int32) (y0 : Int32) (e : mE) : Option (Int32 × mE) :=
  bd (11 * x2) fun v1 =>
  P_X12_sumOf_39 fu x1 x2 x3 y0 v1 e

def P_X12_sumOf (x1 : Int32) (x2 : Int32) (x3 : Int32) (e : mE) : Option (Int32 × mE) :=
  if x3 = 11 then
    (ck ((0 : Int32) ≤ x2 ∧ x2 < (4 : Int32))).bind fun _ =>
    P_X12_sumOf_31 x1 x2 x3 (e.2 39 x2) e
  else
    if x3 = 12 then
      (ck ((0 : Int32) ≤ x2 ∧ x2 < (4 : Int32))).bind fun _ =>
      P_X12_sumOf_31 x1 x2 x3 (e.2 48 x2) e
    else
      P_X12_sumOf_31 x1 x2 x3 0 e

def P_X12_scoreOf (x1 : Int32) (x2 : Int32) (x3 : Int32) (e : mE) : Option (Int32 × mE) :=
  if x3 = 0 then
    (ck ((0 : Int32) ≤ x2 ∧ x2 < (4 : Int32))).bind fun _ =>
    some (e.2 35 x2, e)
  else
  if x3 = 1 then
    (ck ((0 : Int32) ≤ x2 ∧ x2 < (4 : Int32))).bind fun _ =>
    some (e.2 36 x2, e)
  else
  if x3 = 2 then
    (ck ((0 : Int32) ≤ x2 ∧ x2 < (4 : Int32))).bind fun _ =>
    some (e.2 37 x2, e)
  else
  if x3 = 3 then
    (ck ((0 : Int32) ≤ x2 ∧ x2 < (4 : Int32))).bind fun _ =>
    some (e.2 38 x2, e)
  else
  if x3 = 4 then
    (ck ((0 : Int32) ≤ x2 ∧ x2 < (4 : Int32))).bind fun _ =>
    some (e.2 39 x2, e)
  else
  if x3 = 5 then
    (ck ((0 : Int32) ≤ x2 ∧ x2 < (4 : Int32))).bind fun _ =>
    some (e.2 40 x2, e)
  else
  if x3 = 6 then
    (ck ((0 : Int32) ≤ x2 ∧ x2 < (4 : Int32))).bind fun _ =>
    some (e.2 41 x2, e)
  else
  if x3 = 7 then
    (ck ((0 : Int32) ≤ x2 ∧ x2 < (4 : Int32))).bind fun _ =>
    some (e.2 42 x2, e)
  else
  if x3 = 8 then
    (ck ((0 : Int32) ≤ x2 ∧ x2 < (4 : Int32))).bind fun _ =>
    some (e.2 43 x2, e)
  else
  if x3 = 9 then
    (ck ((0 : Int32) ≤ x2 ∧ x2 < (4 : Int32))).bind fun _ =>
    if e.2 52 x2 = 0 then
      some (0, e)
    else
      some (1, e)
  else
  if x3 = 10 then
    (ck ((0 : Int32) ≤ ((4 * x1) + x2) ∧ ((4 * x1) + x2) < (1600 : Int32))).bind fun _ =>
    some (e.2 9 ((4 * x1) + x2), e)
  else
  if x3 = 11 then
    (P_X12_sumOf x1 x2 x3 e).bind fun q50 =>
    bd q50.1 fun z49 =>
    bd q50.2 fun e48 =>
    some (z49, e48)
  else
  if x3 = 12 then
    (P_X12_sumOf x1 x2 x3 e).bind fun q55 =>
    bd q55.1 fun z54 =>
    bd q55.2 fun e53 =>
    some (z54, e53)
  else
  if x3 = 13 then
    (P_X12_sumOf x1 x2 x3 e).bind fun q60 =>
    bd q60.1 fun z59 =>
    bd q60.2 fun e58 =>
    some (z59, e58)
  else
  if x3 = 14 then
    (ck ((0 : Int32) ≤ x2 ∧ x2 < (4 : Int32))).bind fun _ =>
    some (e.2 49 x2, e)
  else
  (ck ((0 : Int32) ≤ x2 ∧ x2 < (4 : Int32))).bind fun _ =>
  some (e.2 50 x2, e)

def P_X12_isTurn (x1 : Int32) (x2 : Int32) (e : mE) : Option (Int32 × mE) :=
  (P_X12_isGame x1 e).bind fun q4 =>
  bd q4.1 fun z3 =>
  bd q4.2 fun e2 =>
  if z3 = 0 then
    some (0, e2)
  else
    if x2 < 0 then
      some (0, e2)
    else
      (ck ((0 : Int32) ≤ x1 ∧ x1 < (400 : Int32))).bind fun _ =>
      if e2.2 8 x1 ≤ x2 then
        some (0, e2)
      else
        some (1, e2)

def P_X12_score_24 (e : mE) : Option (Int32 × mE) :=
  (P_X12_fail e).bind fun q5 =>
  bd q5.1 fun z4 =>
  bd q5.2 fun e3 =>
  some (z4, e3)

def P_X12_score (x1 : Int32) (x2 : Int32) (x3 : Int32) (e : mE) : Option (Int32 × mE) :=
  bd (mS e 0 0) fun e1 =>
  (P_X12_isTurn x1 x2 e1).bind fun q6 =>
  bd q6.1 fun z5 =>
  bd q6.2 fun e4 =>
  if z5 = 0 then
    P_X12_score_24 e4
  else
    if x3 < 0 then
      P_X12_score_24 e4
    else
      if x3 ≤ 15 then
        (P_X12_play x1 e4).bind fun e12 =>
        (P_X12_scoreOf x1 x2 x3 e12).bind fun q18 =>
        bd q18.1 fun z17 =>
        bd q18.2 fun e16 =>
        some (z17, e16)
      else
        P_X12_score_24 e4

def P_X12_overs_32 (e : mE) : Option (Int32 × mE) :=
  (P_X12_fail e).bind fun q5 =>
  bd q5.1 fun z4 =>
  bd q5.2 fun e3 =>
  some (z4, e3)

def P_X12_overs (x1 : Int32) (x2 : Int32) (x3 : Int32) (x4 : Int32) (e : mE) : Option (Int32 × mE) :=
  bd (mS e 0 0) fun e1 =>
  (P_X12_find x1 x2 x3 e1).bind fun q6 =>
  bd q6.1 fun z5 =>
  bd q6.2 fun e4 =>
  if z5 = (-1) then
    P_X12_overs_32 e4
  else
    if x4 < 0 then
      P_X12_overs_32 e4
    else
      if x4 ≤ 7 then
        (P_X12_play x1 e4).bind fun e12 =>
        if x4 = 0 then
          (ck ((0 : Int32) ≤ z5 ∧ z5 < (6000 : Int32))).bind fun _ =>
          some (e12.2 12 z5, e12)
        else
        if x4 = 1 then
          (ck ((0 : Int32) ≤ z5 ∧ z5 < (6000 : Int32))).bind fun _ =>
          some (e12.2 13 z5, e12)
        else
        if x4 = 2 then
          (ck ((0 : Int32) ≤ z5 ∧ z5 < (6000 : Int32))).bind fun _ =>
          some (e12.2 59 z5, e12)
        else
        if x4 = 3 then
          (ck ((0 : Int32) ≤ z5 ∧ z5 < (6000 : Int32))).bind fun _ =>
          some (e12.2 60 z5, e12)
        else
        if x4 = 4 then
          (ck ((0 : Int32) ≤ z5 ∧ z5 < (6000 : Int32))).bind fun _ =>
          some (e12.2 61 z5, e12)
        else
        if x4 = 5 then
          (ck ((0 : Int32) ≤ z5 ∧ z5 < (6000 : Int32))).bind fun _ =>
          if e12.2 62 z5 = 0 then
            some (0, e12)
          else
            some (1, e12)
        else
        if x4 = 6 then
          (ck ((0 : Int32) ≤ z5 ∧ z5 < (6000 : Int32))).bind fun _ =>
          if e12.2 63 z5 = 0 then
            some (0, e12)
          else
            some (1, e12)
        else
        (ck ((0 : Int32) ≤ z5 ∧ z5 < (6000 : Int32))).bind fun _ =>
        if e12.2 64 z5 = 0 then
          some (0, e12)
        else
          some (1, e12)
      else
        P_X12_overs_32 e4

def P_X12_entry_37 (e : mE) : Option (Int32 × mE) :=
  (P_X12_fail e).bind fun q5 =>
  bd q5.1 fun z4 =>
  bd q5.2 fun e3 =>
  some (z4, e3)

def P_X12_entry (x1 : Int32) (x2 : Int32) (x3 : Int32) (x4 : Int32) (e : mE) : Option (Int32 × mE) :=
  bd (mS e 0 0) fun e1 =>
  (P_X12_find x1 x2 x3 e1).bind fun q6 =>
  bd q6.1 fun z5 =>
  bd q6.2 fun e4 =>
  if z5 = (-1) then
    P_X12_entry_37 e4
  else
    if x4 < 0 then
      P_X12_entry_37 e4
    else
      (ck ((0 : Int32) ≤ z5 ∧ z5 < (6000 : Int32))).bind fun _ =>
      if x4 < e4.2 13 z5 then
        (ck ((0 : Int32) ≤ ((40 * z5) + x4) ∧ ((40 * z5) + x4) < (240000 : Int32))).bind fun _ =>
        some (e4.2 14 ((40 * z5) + x4), e4)
      else
        P_X12_entry_37 e4

def P_X12_batsOf (x1 : Int32) (x2 : Int32) (x3 : Int32) (x4 : Int32) (e : mE) : Option (Int32 × mE) :=
  bd ((11 * x2) + x3) fun v1 =>
  if x4 = 0 then
    (ck ((0 : Int32) ≤ v1 ∧ v1 < (44 : Int32))).bind fun _ =>
    some (e.2 53 v1, e)
  else
    if x4 = 1 then
      (ck ((0 : Int32) ≤ v1 ∧ v1 < (44 : Int32))).bind fun _ =>
      some (e.2 54 v1, e)
    else
      if x4 = 2 then
        (ck ((0 : Int32) ≤ v1 ∧ v1 < (44 : Int32))).bind fun _ =>
        some (e.2 55 v1, e)
      else
        (ck ((0 : Int32) ≤ (((22 * x1) + (11 * (x2 - x2 / 2 * 2))) + x3) ∧ (((22 * x1) + (11 * (x2 - x2 / 2 * 2))) + x3) < (8800 : Int32))).bind fun _ =>
        some (e.2 7 (((22 * x1) + (11 * (x2 - x2 / 2 * 2))) + x3), e)

def P_X12_fieldsOf (x1 : Int32) (x2 : Int32) (x3 : Int32) (x4 : Int32) (e : mE) : Option (Int32 × mE) :=
  bd ((11 * x2) + x3) fun v1 =>
  if x4 = 0 then
    (ck ((0 : Int32) ≤ v1 ∧ v1 < (44 : Int32))).bind fun _ =>
    some (e.2 56 v1, e)
  else
    if x4 = 1 then
      (ck ((0 : Int32) ≤ v1 ∧ v1 < (44 : Int32))).bind fun _ =>
      some (e.2 57 v1, e)
    else
      if x4 = 2 then
        (ck ((0 : Int32) ≤ v1 ∧ v1 < (44 : Int32))).bind fun _ =>
        some (e.2 58 v1, e)
      else
        (ck ((0 : Int32) ≤ (((22 * x1) + (11 * (1 - (x2 - x2 / 2 * 2)))) + x3) ∧ (((22 * x1) + (11 * (1 - (x2 - x2 / 2 * 2)))) + x3) < (8800 : Int32))).bind fun _ =>
        some (e.2 7 (((22 * x1) + (11 * (1 - (x2 - x2 / 2 * 2)))) + x3), e)

def P_X12_bats_35 (e : mE) : Option (Int32 × mE) :=
  (P_X12_fail e).bind fun q5 =>
  bd q5.1 fun z4 =>
  bd q5.2 fun e3 =>
  some (z4, e3)

def P_X12_bats (x1 : Int32) (x2 : Int32) (x3 : Int32) (x4 : Int32) (e : mE) : Option (Int32 × mE) :=
  bd (mS e 0 0) fun e1 =>
  (P_X12_isTurn x1 x2 e1).bind fun q6 =>
  bd q6.1 fun z5 =>
  bd q6.2 fun e4 =>
  if z5 = 0 then
    P_X12_bats_35 e4
  else
    if x3 < 0 then
      P_X12_bats_35 e4
    else
      if 10 < x3 then
        P_X12_bats_35 e4
      else
        if x4 < 0 then
          P_X12_bats_35 e4
        else
          if x4 ≤ 3 then
            (P_X12_play x1 e4).bind fun e14 =>
            (P_X12_batsOf x1 x2 x3 x4 e14).bind fun q20 =>
            bd q20.1 fun z19 =>
            bd q20.2 fun e18 =>
            some (z19, e18)
          else
            P_X12_bats_35 e4

def P_X12_fields_35 (e : mE) : Option (Int32 × mE) :=
  (P_X12_fail e).bind fun q5 =>
  bd q5.1 fun z4 =>
  bd q5.2 fun e3 =>
  some (z4, e3)

def P_X12_fields (x1 : Int32) (x2 : Int32) (x3 : Int32) (x4 : Int32) (e : mE) : Option (Int32 × mE) :=
  bd (mS e 0 0) fun e1 =>
  (P_X12_isTurn x1 x2 e1).bind fun q6 =>
  bd q6.1 fun z5 =>
  bd q6.2 fun e4 =>
  if z5 = 0 then
    P_X12_fields_35 e4
  else
    if x3 < 0 then
      P_X12_fields_35 e4
    else
      if 10 < x3 then
        P_X12_fields_35 e4
      else
        if x4 < 0 then
          P_X12_fields_35 e4
        else
          if x4 ≤ 3 then
            (P_X12_play x1 e4).bind fun e14 =>
            (P_X12_fieldsOf x1 x2 x3 x4 e14).bind fun q20 =>
            bd q20.1 fun z19 =>
            bd q20.2 fun e18 =>
            some (z19, e18)
          else
            P_X12_fields_35 e4

def P_X12_better (x1 : Int32) (x2 : Int32) (x3 : Int32) (x4 : Int32) (x5 : Int32) (x6 : Int32) (e : mE) : Option (mE) :=
  (ck ((0 : Int32) ≤ 0 ∧ 0 < (6 : Int32))).bind fun _ =>
  bd (mA e 67 (0 : Int32) x1) fun e4 =>
  (ck ((0 : Int32) ≤ 1 ∧ 1 < (6 : Int32))).bind fun _ =>
  bd (mA e4 67 (1 : Int32) x2) fun e9 =>
  (ck ((0 : Int32) ≤ 2 ∧ 2 < (6 : Int32))).bind fun _ =>
  bd (mA e9 67 (2 : Int32) x3) fun e14 =>
  (ck ((0 : Int32) ≤ 3 ∧ 3 < (6 : Int32))).bind fun _ =>
  bd (mA e14 67 (3 : Int32) x4) fun e19 =>
  (ck ((0 : Int32) ≤ 4 ∧ 4 < (6 : Int32))).bind fun _ =>
  bd (mA e19 67 (4 : Int32) x5) fun e24 =>
  (ck ((0 : Int32) ≤ 5 ∧ 5 < (6 : Int32))).bind fun _ =>
  bd (mA e24 67 (5 : Int32) x6) fun e29 =>
  some e29

def P_X12_recordOf_254 (k7 : Int32 → Int32 → Int32 → mE → Option (mE)) (k95 : Int32 → Int32 → Int32 → Int32 → Int32 → Int32 → mE → Option (mE)) (x1 : Int32) (x2 : Int32) (x3 : Int32) (x4 : Int32) (x5 : Int32) (x6 : Int32) (x7 : Int32) (x8 : Int32) (e : mE) : Option (mE) :=
  (ck ((0 : Int32) ≤ ((30 * x4) + x8) ∧ ((30 * x4) + x8) < (1800 : Int32))).bind fun _ =>
  (ck ((0 : Int32) ≤ x7 ∧ x7 < (44 : Int32))).bind fun _ =>
  bd (mA e 68 ((30 * x4) + x8) ((e.2 68 ((30 * x4) + x8)) + (e.2 53 x7))) fun e8 =>
  bd (x6 + 1) fun v10 =>
  k95 x1 x2 x3 x4 x5 v10 e8

def P_X12_recordOf_223 (k7 : Int32 → Int32 → Int32 → mE → Option (mE)) (k95 : Int32 → Int32 → Int32 → Int32 → Int32 → Int32 → mE → Option (mE)) (x1 : Int32) (x2 : Int32) (x3 : Int32) (x4 : Int32) (x5 : Int32) (x6 : Int32) (x7 : Int32) (x8 : Int32) (e : mE) : Option (mE) :=
  (ck ((0 : Int32) ≤ x7 ∧ x7 < (44 : Int32))).bind fun _ =>
  (P_X12_fieldsOf x2 x3 x6 3 e).bind fun q8 =>
  bd q8.1 fun z7 =>
  bd q8.2 fun e6 =>
  (ck ((0 : Int32) ≤ x7 ∧ x7 < (44 : Int32))).bind fun _ =>
  (P_X12_better (e.2 58 x7) x2 x3 x5 z7 (e6.2 57 x7) e6).bind fun e14 =>
  P_X12_recordOf_254 k7 k95 x1 x2 x3 x4 x5 x6 x7 x8 e14

def P_X12_recordOf_160 (k7 : Int32 → Int32 → Int32 → mE → Option (mE)) (k95 : Int32 → Int32 → Int32 → Int32 → Int32 → Int32 → mE → Option (mE)) (x1 : Int32) (x2 : Int32) (x3 : Int32) (x4 : Int32) (x5 : Int32) (x6 : Int32) (x7 : Int32) (x8 : Int32) (e : mE) : Option (mE) :=
  if x1 = 1 then
    (ck ((0 : Int32) ≤ x7 ∧ x7 < (44 : Int32))).bind fun _ =>
    if e.2 56 x7 ≤ 0 then
      P_X12_recordOf_254 k7 k95 x1 x2 x3 x4 x5 x6 x7 x8 e
    else
      (ck ((0 : Int32) ≤ x7 ∧ x7 < (44 : Int32))).bind fun _ =>
      (ck ((0 : Int32) ≤ 0 ∧ 0 < (6 : Int32))).bind fun _ =>
      if e.2 67 (0 : Int32) < e.2 58 x7 then
        P_X12_recordOf_223 k7 k95 x1 x2 x3 x4 x5 x6 x7 x8 e
      else
        (ck ((0 : Int32) ≤ x7 ∧ x7 < (44 : Int32))).bind fun _ =>
        (ck ((0 : Int32) ≤ 0 ∧ 0 < (6 : Int32))).bind fun _ =>
        if e.2 58 x7 = e.2 67 (0 : Int32) then
          (ck ((0 : Int32) ≤ x7 ∧ x7 < (44 : Int32))).bind fun _ =>
          (ck ((0 : Int32) ≤ 5 ∧ 5 < (6 : Int32))).bind fun _ =>
          if e.2 67 (5 : Int32) ≤ e.2 57 x7 then
            P_X12_recordOf_254 k7 k95 x1 x2 x3 x4 x5 x6 x7 x8 e
          else
            P_X12_recordOf_223 k7 k95 x1 x2 x3 x4 x5 x6 x7 x8 e
        else
          P_X12_recordOf_254 k7 k95 x1 x2 x3 x4 x5 x6 x7 x8 e
  else
    P_X12_recordOf_254 k7 k95 x1 x2 x3 x4 x5 x6 x7 x8 e

def P_X12_recordOf_95 (k7 : Int32 → Int32 → Int32 → mE → Option (mE)) : Nat → Int32 → Int32 → Int32 → Int32 → Int32 → Int32 → mE → Option (mE)
  | 0, _, _, _, _, _, _, _ => none
  | n + 1, x1, x2, x3, x4, x5, x6, e =>
  if 11 ≤ x6 then
    bd (x3 + 1) fun v2 =>
    k7 x1 x2 v2 e
  else
    bd ((11 * x3) + x6) fun v3 =>
    (P_X12_batsOf x2 x3 x6 3 e).bind fun q8 =>
    bd q8.1 fun z7 =>
    bd q8.2 fun e6 =>
    if x1 = 0 then
      (ck ((0 : Int32) ≤ v3 ∧ v3 < (44 : Int32))).bind fun _ =>
      (ck ((0 : Int32) ≤ 0 ∧ 0 < (6 : Int32))).bind fun _ =>
      if e6.2 53 v3 ≤ e6.2 67 (0 : Int32) then
        P_X12_recordOf_160 k7 (P_X12_recordOf_95 k7 n) x1 x2 x3 x4 x5 x6 v3 z7 e6
      else
        (ck ((0 : Int32) ≤ v3 ∧ v3 < (44 : Int32))).bind fun _ =>
        (P_X12_better (e6.2 53 v3) x2 x3 x4 z7 0 e6).bind fun e22 =>
        P_X12_recordOf_160 k7 (P_X12_recordOf_95 k7 n) x1 x2 x3 x4 x5 x6 v3 z7 e22
    else
      P_X12_recordOf_160 k7 (P_X12_recordOf_95 k7 n) x1 x2 x3 x4 x5 x6 v3 z7 e6

def P_X12_recordOf_92 (k7 : Int32 → Int32 → Int32 → mE → Option (mE)) (x1 : Int32) (x2 : Int32) (x3 : Int32) (x4 : Int32) (x5 : Int32) (e : mE) : Option (mE) :=
  P_X12_recordOf_95 k7 fu x1 x2 x3 x4 x5 0 e

def P_X12_recordOf_7 : Nat → Int32 → Int32 → Int32 → mE → Option (mE)
  | 0, _, _, _, _ => none
  | n + 1, x1, x2, x3, e =>
  (ck ((0 : Int32) ≤ x2 ∧ x2 < (400 : Int32))).bind fun _ =>
  if e.2 8 x2 ≤ x3 then
    some e
  else
    (ck ((0 : Int32) ≤ x3 ∧ x3 < (4 : Int32))).bind fun _ =>
    if e.2 52 x3 = 0 then
      some e
    else
      (ck ((0 : Int32) ≤ ((2 * x2) + (x3 - x3 / 2 * 2)) ∧ ((2 * x2) + (x3 - x3 / 2 * 2)) < (800 : Int32))).bind fun _ =>
      bd (e.2 4 ((2 * x2) + (x3 - x3 / 2 * 2))) fun v13 =>
      (ck ((0 : Int32) ≤ (((2 * x2) + 1) - (x3 - x3 / 2 * 2)) ∧ (((2 * x2) + 1) - (x3 - x3 / 2 * 2)) < (800 : Int32))).bind fun _ =>
      bd (e.2 4 (((2 * x2) + 1) - (x3 - x3 / 2 * 2))) fun v17 =>
      if x1 = 2 then
        (ck ((0 : Int32) ≤ x3 ∧ x3 < (4 : Int32))).bind fun _ =>
        (ck ((0 : Int32) ≤ 0 ∧ 0 < (6 : Int32))).bind fun _ =>
        if e.2 35 x3 ≤ e.2 67 (0 : Int32) then
          P_X12_recordOf_92 (P_X12_recordOf_7 n) x1 x2 x3 v13 v17 e
        else
          (ck ((0 : Int32) ≤ x3 ∧ x3 < (4 : Int32))).bind fun _ =>
          (P_X12_better (e.2 35 x3) x2 x3 v13 ((-1)) 0 e).bind fun e30 =>
          P_X12_recordOf_92 (P_X12_recordOf_7 n) x1 x2 x3 v13 v17 e30
      else
        P_X12_recordOf_92 (P_X12_recordOf_7 n) x1 x2 x3 v13 v17 e

def P_X12_recordOf (x1 : Int32) (x2 : Int32) (e : mE) : Option (mE) :=
  (P_X12_play x2 e).bind fun e2 =>
  P_X12_recordOf_7 fu x1 x2 0 e2

def P_X12_record_154 (k84 : Int32 → Int32 → Int32 → mE → Option (Int32 × mE)) (k100 : Int32 → Int32 → Int32 → Int32 → mE → Option (Int32 × mE)) (x1 : Int32) (x2 : Int32) (x3 : Int32) (x4 : Int32) (e : mE) : Option (Int32 × mE) :=
  bd (x4 + 1) fun v1 =>
  k100 x1 x2 x3 v1 e

def P_X12_record_100 (k84 : Int32 → Int32 → Int32 → mE → Option (Int32 × mE)) : Nat → Int32 → Int32 → Int32 → Int32 → mE → Option (Int32 × mE)
  | 0, _, _, _, _, _ => none
  | n + 1, x1, x2, x3, x4, e =>
  (ck ((0 : Int32) ≤ x3 ∧ x3 < (60 : Int32))).bind fun _ =>
  if e.2 3 x3 ≤ x4 then
    bd (x3 + 1) fun v6 =>
    k84 x1 x2 v6 e
  else
    (ck ((0 : Int32) ≤ ((30 * x3) + x4) ∧ ((30 * x3) + x4) < (1800 : Int32))).bind fun _ =>
    (ck ((0 : Int32) ≤ 0 ∧ 0 < (6 : Int32))).bind fun _ =>
    if e.2 68 ((30 * x3) + x4) ≤ e.2 67 (0 : Int32) then
      P_X12_record_154 k84 (P_X12_record_100 k84 n) x1 x2 x3 x4 e
    else
      (ck ((0 : Int32) ≤ ((30 * x3) + x4) ∧ ((30 * x3) + x4) < (1800 : Int32))).bind fun _ =>
      (P_X12_better (e.2 68 ((30 * x3) + x4)) ((-1)) ((-1)) x3 x4 0 e).bind fun e18 =>
      P_X12_record_154 k84 (P_X12_record_100 k84 n) x1 x2 x3 x4 e18

def P_X12_record_84 : Nat → Int32 → Int32 → Int32 → mE → Option (Int32 × mE)
  | 0, _, _, _, _ => none
  | n + 1, x1, x2, x3, e =>
  if e.1 1 ≤ x3 then
    (ck ((0 : Int32) ≤ x2 ∧ x2 < (6 : Int32))).bind fun _ =>
    some (e.2 67 x2, e)
  else
    if x1 = 3 then
      P_X12_record_100 (P_X12_record_84 n) fu x1 x2 x3 0 e
    else
      (ck ((0 : Int32) ≤ x2 ∧ x2 < (6 : Int32))).bind fun _ =>
      some (e.2 67 x2, e)

def P_X12_record_62 : Nat → Int32 → Int32 → Int32 → mE → Option (Int32 × mE)
  | 0, _, _, _, _ => none
  | n + 1, x1, x2, x3, e =>
  if e.1 2 ≤ x3 then
    P_X12_record_84 fu x1 x2 0 e
  else
    (P_X12_recordOf x1 x3 e).bind fun e4 =>
    bd (x3 + 1) fun v6 =>
    P_X12_record_62 n x1 x2 v6 e4

def P_X12_record_40 : Nat → Int32 → Int32 → Int32 → mE → Option (Int32 × mE)
  | 0, _, _, _, _ => none
  | n + 1, x1, x2, x3, e =>
  if 1800 ≤ x3 then
    P_X12_record_62 fu x1 x2 0 e
  else
    (ck ((0 : Int32) ≤ x3 ∧ x3 < (1800 : Int32))).bind fun _ =>
    bd (mA e 68 x3 0) fun e6 =>
    bd (x3 + 1) fun v8 =>
    P_X12_record_40 n x1 x2 v8 e6

def P_X12_record_23 (e : mE) : Option (Int32 × mE) :=
  (P_X12_fail e).bind fun q5 =>
  bd q5.1 fun z4 =>
  bd q5.2 fun e3 =>
  some (z4, e3)

def P_X12_record (x1 : Int32) (x2 : Int32) (e : mE) : Option (Int32 × mE) :=
  bd (mS e 0 0) fun e1 =>
  if x1 < 0 then
    P_X12_record_23 e1
  else
    if 3 < x1 then
      P_X12_record_23 e1
    else
      if x2 < 0 then
        P_X12_record_23 e1
      else
        if x2 ≤ 5 then
          (P_X12_better ((-1)) ((-1)) ((-1)) ((-1)) ((-1)) ((-1)) e1).bind fun e8 =>
          P_X12_record_40 fu x1 x2 0 e8
        else
          P_X12_record_23 e1

def P_X12_say_20 (e : mE) : Option (mE) :=
  bd (mS e 18 ((e.1 18) + 1)) fun e2 =>
  some e2

def P_X12_say (x1 : Int32) (e : mE) : Option (mE) :=
  if 8000 ≤ e.1 18 then
    P_X12_say_20 e
  else
    (ck ((0 : Int32) ≤ (e.1 18) ∧ (e.1 18) < (8000 : Int32))).bind fun _ =>
    bd (mA e 17 (e.1 18) x1) fun e5 =>
    P_X12_say_20 e5

def P_X12_image_194 (k118 : Int32 → Int32 → mE → Option (Int32 × mE)) (k144 : Int32 → Int32 → Int32 → mE → Option (Int32 × mE)) : Nat → Int32 → Int32 → Int32 → Int32 → Int32 → mE → Option (Int32 × mE)
  | 0, _, _, _, _, _, _ => none
  | n + 1, x1, x2, x3, x4, x5, e =>
  (ck ((0 : Int32) ≤ x4 ∧ x4 < (6000 : Int32))).bind fun _ =>
  if e.2 13 x4 ≤ x5 then
    bd (x3 + 1) fun v6 =>
    k144 x1 x2 v6 e
  else
    (ck ((0 : Int32) ≤ ((40 * x4) + x5) ∧ ((40 * x4) + x5) < (240000 : Int32))).bind fun _ =>
    (P_X12_say (e.2 14 ((40 * x4) + x5)) e).bind fun e11 =>
    bd (x5 + 1) fun v13 =>
    P_X12_image_194 k118 k144 n x1 x2 x3 x4 v13 e11

def P_X12_image_144 (k118 : Int32 → Int32 → mE → Option (Int32 × mE)) : Nat → Int32 → Int32 → Int32 → mE → Option (Int32 × mE)
  | 0, _, _, _, _ => none
  | n + 1, x1, x2, x3, e =>
  (ck ((0 : Int32) ≤ ((4 * x1) + x2) ∧ ((4 * x1) + x2) < (1600 : Int32))).bind fun _ =>
  if e.2 9 ((4 * x1) + x2) ≤ x3 then
    (ck ((0 : Int32) ≤ x2 ∧ x2 < (4 : Int32))).bind fun _ =>
    (P_X12_say (((e.2 35 x2) / 256) - ((e.2 35 x2) / 256) / 256 * 256) e).bind fun e10 =>
    (ck ((0 : Int32) ≤ x2 ∧ x2 < (4 : Int32))).bind fun _ =>
    (P_X12_say ((e10.2 35 x2) - (e10.2 35 x2) / 256 * 256) e10).bind fun e17 =>
    bd (x2 + 1) fun v19 =>
    k118 x1 v19 e17
  else
    (P_X12_rowOf x1 x2 x3 e).bind fun q23 =>
    bd q23.1 fun z22 =>
    bd q23.2 fun e21 =>
    (ck ((0 : Int32) ≤ z22 ∧ z22 < (6000 : Int32))).bind fun _ =>
    (P_X12_say (e21.2 12 z22) e21).bind fun e29 =>
    (ck ((0 : Int32) ≤ z22 ∧ z22 < (6000 : Int32))).bind fun _ =>
    (P_X12_say ((e29.2 13 z22) + 1) e29).bind fun e36 =>
    P_X12_image_194 k118 (P_X12_image_144 k118 n) fu x1 x2 x3 z22 0 e36

def P_X12_image_118 : Nat → Int32 → Int32 → mE → Option (Int32 × mE)
  | 0, _, _, _ => none
  | n + 1, x1, x2, e =>
  (ck ((0 : Int32) ≤ x1 ∧ x1 < (400 : Int32))).bind fun _ =>
  if e.2 8 x1 ≤ x2 then
    if e.1 18 ≤ 8000 then
      some (e.1 18, e)
    else
      bd (mS e 18 0) fun e7 =>
      some ((-1), e7)
  else
    (ck ((0 : Int32) ≤ ((4 * x1) + x2) ∧ ((4 * x1) + x2) < (1600 : Int32))).bind fun _ =>
    (P_X12_say (e.2 9 ((4 * x1) + x2)) e).bind fun e13 =>
    P_X12_image_144 (P_X12_image_118 n) fu x1 x2 0 e13

def P_X12_image_79 : Nat → Int32 → Int32 → mE → Option (Int32 × mE)
  | 0, _, _, _ => none
  | n + 1, x1, x2, e =>
  if 22 ≤ x2 then
    (ck ((0 : Int32) ≤ x1 ∧ x1 < (400 : Int32))).bind fun _ =>
    (P_X12_say (e.2 8 x1) e).bind fun e7 =>
    P_X12_image_118 fu x1 0 e7
  else
    (ck ((0 : Int32) ≤ ((22 * x1) + x2) ∧ ((22 * x1) + x2) < (8800 : Int32))).bind fun _ =>
    (P_X12_say (e.2 7 ((22 * x1) + x2)) e).bind fun e14 =>
    bd (x2 + 1) fun v16 =>
    P_X12_image_79 n x1 v16 e14

def P_X12_image (x1 : Int32) (e : mE) : Option (Int32 × mE) :=
  bd (mS e 0 0) fun e1 =>
  (P_X12_isGame x1 e1).bind fun q6 =>
  bd q6.1 fun z5 =>
  bd q6.2 fun e4 =>
  if z5 = 0 then
    some ((-1), e4)
  else
    (P_X12_play x1 e4).bind fun e10 =>
    bd (mS e10 18 0) fun e13 =>
    (P_X12_say 66 e13).bind fun e16 =>
    (ck ((0 : Int32) ≤ (2 * x1) ∧ (2 * x1) < (800 : Int32))).bind fun _ =>
    (P_X12_say (e16.2 4 (2 * x1)) e16).bind fun e23 =>
    (ck ((0 : Int32) ≤ ((2 * x1) + 1) ∧ ((2 * x1) + 1) < (800 : Int32))).bind fun _ =>
    (P_X12_say (e23.2 4 ((2 * x1) + 1)) e23).bind fun e30 =>
    (ck ((0 : Int32) ≤ x1 ∧ x1 < (400 : Int32))).bind fun _ =>
    (P_X12_say (e30.2 5 x1) e30).bind fun e37 =>
    (ck ((0 : Int32) ≤ x1 ∧ x1 < (400 : Int32))).bind fun _ =>
    (P_X12_say (e37.2 6 x1) e37).bind fun e44 =>
    P_X12_image_79 fu x1 0 e44

def P_X12_told_17 (e : mE) : Option (Int32 × mE) :=
  (P_X12_fail e).bind fun q5 =>
  bd q5.1 fun z4 =>
  bd q5.2 fun e3 =>
  some (z4, e3)

def P_X12_told (x1 : Int32) (e : mE) : Option (Int32 × mE) :=
  bd (mS e 0 0) fun e1 =>
  if x1 < 0 then
    P_X12_told_17 e1
  else
    if x1 < e1.1 18 then
      (ck ((0 : Int32) ≤ x1 ∧ x1 < (8000 : Int32))).bind fun _ =>
      some (e1.2 17 x1, e1)
    else
      P_X12_told_17 e1

def P_X12_read_46 (x1 : Int32) (e : mE) : Option (Int32 × mE) :=
  bd (mS e 69 1) fun e2 =>
  some (x1, e2)

def P_X12_read (x1 : Int32) (x2 : Int32) (e : mE) : Option (Int32 × mE) :=
  if e.1 69 = 0 then
    if e.1 65 = e.1 66 then
      P_X12_read_46 x1 e
    else
      (ck ((0 : Int32) ≤ (e.1 65) ∧ (e.1 65) < (6000 : Int32))).bind fun _ =>
      if e.2 15 (e.1 65) < x1 then
        P_X12_read_46 x1 e
      else
        (ck ((0 : Int32) ≤ (e.1 65) ∧ (e.1 65) < (6000 : Int32))).bind fun _ =>
        if e.2 15 (e.1 65) ≤ x2 then
          bd (mS e 65 ((e.1 65) + 1)) fun e11 =>
          (ck ((0 : Int32) ≤ ((e11.1 65) - 1) ∧ ((e11.1 65) - 1) < (6000 : Int32))).bind fun _ =>
          some (e11.2 15 ((e11.1 65) - 1), e11)
        else
          P_X12_read_46 x1 e
  else
    some (x1, e)

def P_X12_readPlayer_85 (x1 : Int32) (x2 : Int32) (x3 : Int32) (e : mE) : Option (mE) :=
  (ck ((0 : Int32) ≤ ((22 * x1) + x2) ∧ ((22 * x1) + x2) < (8800 : Int32))).bind fun _ =>
  bd (mA e 7 ((22 * x1) + x2) x3) fun e5 =>
  some e5

def P_X12_readPlayer_79 (k35 : Int32 → Int32 → Int32 → Int32 → mE → Option (mE)) (x1 : Int32) (x2 : Int32) (x3 : Int32) (x4 : Int32) (e : mE) : Option (mE) :=
  bd (x4 + 1) fun v1 =>
  k35 x1 x2 x3 v1 e

def P_X12_readPlayer_35 : Nat → Int32 → Int32 → Int32 → Int32 → mE → Option (mE)
  | 0, _, _, _, _, _ => none
  | n + 1, x1, x2, x3, x4, e =>
  if x2 ≤ x4 then
    P_X12_readPlayer_85 x1 x2 x3 e
  else
    if e.1 69 = 0 then
      (ck ((0 : Int32) ≤ ((22 * x1) + x4) ∧ ((22 * x1) + x4) < (8800 : Int32))).bind fun _ =>
      if e.2 7 ((22 * x1) + x4) = x3 then
        bd (mS e 69 1) fun e8 =>
        bd (mS e8 65 ((e8.1 65) - 1)) fun e10 =>
        P_X12_readPlayer_79 (P_X12_readPlayer_35 n) x1 x2 x3 x4 e10
      else
        P_X12_readPlayer_79 (P_X12_readPlayer_35 n) x1 x2 x3 x4 e
    else
      P_X12_readPlayer_85 x1 x2 x3 e

def P_X12_readPlayer (x1 : Int32) (x2 : Int32) (e : mE) : Option (mE) :=
  (ck ((0 : Int32) ≤ ((2 * x1) + (x2 / 11)) ∧ ((2 * x1) + (x2 / 11)) < (800 : Int32))).bind fun _ =>
  (ck ((0 : Int32) ≤ (e.2 4 ((2 * x1) + (x2 / 11))) ∧ (e.2 4 ((2 * x1) + (x2 / 11))) < (60 : Int32))).bind fun _ =>
  (P_X12_read 0 ((e.2 3 (e.2 4 ((2 * x1) + (x2 / 11)))) - 1) e).bind fun q10 =>
  bd q10.1 fun z9 =>
  bd q10.2 fun e8 =>
  bd ((x2 / 11) * 11) fun v11 =>
  P_X12_readPlayer_35 fu x1 x2 z9 v11 e8

def P_X12_readTurn_155 (x2 : Int32) (e : mE) : Option (mE) :=
  (P_X12_read 0 255 e).bind fun q7 =>
  bd q7.1 fun z6 =>
  bd q7.2 fun e5 =>
  (P_X12_read 0 255 e5).bind fun q12 =>
  bd q12.1 fun z11 =>
  bd q12.2 fun e10 =>
  (ck ((0 : Int32) ≤ x2 ∧ x2 < (4 : Int32))).bind fun _ =>
  bd (mA e10 70 x2 ((256 * z6) + z11)) fun e14 =>
  some e14

def P_X12_readTurn_116 (k23 : Int32 → Int32 → Int32 → Int32 → mE → Option (mE)) (x1 : Int32) (x2 : Int32) (x3 : Int32) (x4 : Int32) (x5 : Int32) (e : mE) : Option (mE) :=
  (ck ((0 : Int32) ≤ ((130 * ((4 * x1) + x2)) + x4) ∧ ((130 * ((4 * x1) + x2)) + x4) < (208000 : Int32))).bind fun _ =>
  bd (mA e 10 ((130 * ((4 * x1) + x2)) + x4) x5) fun e5 =>
  (ck ((0 : Int32) ≤ ((4 * x1) + x2) ∧ ((4 * x1) + x2) < (1600 : Int32))).bind fun _ =>
  bd (mA e5 9 ((4 * x1) + x2) ((e5.2 9 ((4 * x1) + x2)) + 1)) fun e10 =>
  bd (x4 + 1) fun v12 =>
  k23 x1 x2 x3 v12 e10

def P_X12_readTurn_73 (k23 : Int32 → Int32 → Int32 → Int32 → mE → Option (mE)) : Nat → Int32 → Int32 → Int32 → Int32 → Int32 → Int32 → Int32 → mE → Option (mE)
  | 0, _, _, _, _, _, _, _, _ => none
  | n + 1, x1, x2, x3, x4, x5, x6, x7, e =>
  if x6 - 1 ≤ x7 then
    P_X12_readTurn_116 k23 x1 x2 x3 x4 x5 e
  else
    if e.1 69 = 0 then
      (P_X12_read 0 255 e).bind fun q9 =>
      bd q9.1 fun z8 =>
      bd q9.2 fun e7 =>
      (ck ((0 : Int32) ≤ ((40 * x5) + x7) ∧ ((40 * x5) + x7) < (240000 : Int32))).bind fun _ =>
      bd (mA e7 14 ((40 * x5) + x7) z8) fun e11 =>
      bd (x7 + 1) fun v12 =>
      P_X12_readTurn_73 k23 n x1 x2 x3 x4 x5 x6 v12 e11
    else
      P_X12_readTurn_116 k23 x1 x2 x3 x4 x5 e

def P_X12_readTurn_23 : Nat → Int32 → Int32 → Int32 → Int32 → mE → Option (mE)
  | 0, _, _, _, _, _ => none
  | n + 1, x1, x2, x3, x4, e =>
  if x3 ≤ x4 then
    P_X12_readTurn_155 x2 e
  else
    if e.1 69 = 0 then
      (P_X12_read 0 15 e).bind fun q7 =>
      bd q7.1 fun z6 =>
      bd q7.2 fun e5 =>
      (P_X12_newRow z6 0 e5).bind fun q12 =>
      bd q12.1 fun z11 =>
      bd q12.2 fun e10 =>
      (P_X12_read 0 41 e10).bind fun q17 =>
      bd q17.1 fun z16 =>
      bd q17.2 fun e15 =>
      (ck ((0 : Int32) ≤ z11 ∧ z11 < (6000 : Int32))).bind fun _ =>
      bd (mA e15 13 z11 (z16 - 1)) fun e22 =>
      P_X12_readTurn_73 (P_X12_readTurn_23 n) fu x1 x2 x3 x4 z11 z16 0 e22
    else
      P_X12_readTurn_155 x2 e

def P_X12_readTurn (x1 : Int32) (x2 : Int32) (e : mE) : Option (mE) :=
  (P_X12_read 0 130 e).bind fun q4 =>
  bd q4.1 fun z3 =>
  bd q4.2 fun e2 =>
  (ck ((0 : Int32) ≤ ((4 * x1) + x2) ∧ ((4 * x1) + x2) < (1600 : Int32))).bind fun _ =>
  bd (mA e2 9 ((4 * x1) + x2) 0) fun e9 =>
  P_X12_readTurn_23 fu x1 x2 z3 0 e9

def P_X12_placeWrong_229 (k11 : Int32 → Int32 → Int32 → Int32 → Int32 → mE → Option (Int32 × mE)) (x1 : Int32) (x2 : Int32) (x3 : Int32) (x4 : Int32) (x5 : Int32) (e : mE) : Option (Int32 × mE) :=
  bd (x2 + 2) fun v1 =>
  bd (x5 + 1) fun v2 =>
  k11 x1 v1 x3 x4 v2 e

def P_X12_placeWrong_194 (k11 : Int32 → Int32 → Int32 → Int32 → Int32 → mE → Option (Int32 × mE)) (x1 : Int32) (x2 : Int32) (x3 : Int32) (x4 : Int32) (x5 : Int32) (e : mE) : Option (Int32 × mE) :=
  if x4 = 0 then
    (ck ((0 : Int32) ≤ x5 ∧ x5 < (4 : Int32))).bind fun _ =>
    (ck ((0 : Int32) ≤ x5 ∧ x5 < (4 : Int32))).bind fun _ =>
    if (e.2 70 x5) - (e.2 70 x5) / 256 * 256 = (e.2 35 x5) - (e.2 35 x5) / 256 * 256 then
      P_X12_placeWrong_229 k11 x1 x2 x3 x4 x5 e
    else
      bd (x2 + 2) fun v10 =>
      P_X12_placeWrong_229 k11 x1 x2 x3 v10 x5 e
  else
    P_X12_placeWrong_229 k11 x1 x2 x3 x4 x5 e

def P_X12_placeWrong_133 (k11 : Int32 → Int32 → Int32 → Int32 → Int32 → mE → Option (Int32 × mE)) (k56 : Int32 → Int32 → Int32 → Int32 → Int32 → Int32 → mE → Option (Int32 × mE)) (x1 : Int32) (x2 : Int32) (x3 : Int32) (x4 : Int32) (x5 : Int32) (x6 : Int32) (x7 : Int32) (e : mE) : Option (Int32 × mE) :=
  (ck ((0 : Int32) ≤ x7 ∧ x7 < (6000 : Int32))).bind fun _ =>
  bd (if 0 < e.2 13 x7 then e.2 13 x7 else 0) fun z5 =>
  bd (x2 + (2 + z5)) fun v6 =>
  bd (x6 + 1) fun v7 =>
  k56 x1 v6 x3 x4 x5 v7 e

def P_X12_placeWrong_132 (k11 : Int32 → Int32 → Int32 → Int32 → Int32 → mE → Option (Int32 × mE)) (k56 : Int32 → Int32 → Int32 → Int32 → Int32 → Int32 → mE → Option (Int32 × mE)) (x1 : Int32) (x2 : Int32) (x4 : Int32) (x5 : Int32) (x6 : Int32) (x7 : Int32) (y0 : Int32) (e : mE) : Option (Int32 × mE) :=
  P_X12_placeWrong_133 k11 k56 x1 x2 y0 x4 x5 x6 x7 e

def P_X12_placeWrong_56 (k11 : Int32 → Int32 → Int32 → Int32 → Int32 → mE → Option (Int32 × mE)) : Nat → Int32 → Int32 → Int32 → Int32 → Int32 → Int32 → mE → Option (Int32 × mE)
  | 0, _, _, _, _, _, _, _ => none
  | n + 1, x1, x2, x3, x4, x5, x6, e =>
  (ck ((0 : Int32) ≤ ((4 * x1) + x5) ∧ ((4 * x1) + x5) < (1600 : Int32))).bind fun _ =>
  if e.2 9 ((4 * x1) + x5) ≤ x6 then
    if x4 = 0 then
      (ck ((0 : Int32) ≤ x5 ∧ x5 < (4 : Int32))).bind fun _ =>
      (ck ((0 : Int32) ≤ x5 ∧ x5 < (4 : Int32))).bind fun _ =>
      if (e.2 70 x5) / 256 = ((e.2 35 x5) / 256) - ((e.2 35 x5) / 256) / 256 * 256 then
        P_X12_placeWrong_194 k11 x1 x2 x3 x4 x5 e
      else
        bd (x2 + 1) fun v14 =>
        P_X12_placeWrong_194 k11 x1 x2 x3 v14 x5 e
    else
      P_X12_placeWrong_194 k11 x1 x2 x3 x4 x5 e
  else
    (P_X12_rowOf x1 x5 x6 e).bind fun q18 =>
    bd q18.1 fun z17 =>
    bd q18.2 fun e16 =>
    if e16.1 28 = 0 then
      P_X12_placeWrong_133 k11 (P_X12_placeWrong_56 k11 n) x1 x2 x3 x4 x5 x6 z17 e16
    else
      if e16.1 29 = x5 then
        if e16.1 30 = x6 then
          if e16.1 31 = (-1) then
            P_X12_placeWrong_132 k11 (P_X12_placeWrong_56 k11 n) x1 x2 x4 x5 x6 z17 (x2 + 1) e16
          else
            P_X12_placeWrong_132 k11 (P_X12_placeWrong_56 k11 n) x1 x2 x4 x5 x6 z17 (((x2 + 2) + (e16.1 31)) + 1) e16
        else
          P_X12_placeWrong_133 k11 (P_X12_placeWrong_56 k11 n) x1 x2 x3 x4 x5 x6 z17 e16
      else
        P_X12_placeWrong_133 k11 (P_X12_placeWrong_56 k11 n) x1 x2 x3 x4 x5 x6 z17 e16

def P_X12_placeWrong_50 (k11 : Int32 → Int32 → Int32 → Int32 → Int32 → mE → Option (Int32 × mE)) (x1 : Int32) (x2 : Int32) (x3 : Int32) (x4 : Int32) (x5 : Int32) (e : mE) : Option (Int32 × mE) :=
  bd (x2 + 1) fun v1 =>
  P_X12_placeWrong_56 k11 fu x1 v1 x3 x4 x5 0 e

def P_X12_placeWrong_11 : Nat → Int32 → Int32 → Int32 → Int32 → Int32 → mE → Option (Int32 × mE)
  | 0, _, _, _, _, _, _ => none
  | n + 1, x1, x2, x3, x4, x5, e =>
  (ck ((0 : Int32) ≤ x1 ∧ x1 < (400 : Int32))).bind fun _ =>
  if e.2 8 x1 ≤ x5 then
    if e.1 28 = 0 then
      some (x4, e)
    else
      some (x3, e)
  else
    if e.1 28 = 0 then
      P_X12_placeWrong_50 (P_X12_placeWrong_11 n) x1 x2 x3 x4 x5 e
    else
      if e.1 29 = x5 then
        if e.1 30 = (-1) then
          bd (x2 + 1) fun v10 =>
          P_X12_placeWrong_50 (P_X12_placeWrong_11 n) x1 x2 v10 x4 x5 e
        else
          P_X12_placeWrong_50 (P_X12_placeWrong_11 n) x1 x2 x3 x4 x5 e
      else
        P_X12_placeWrong_50 (P_X12_placeWrong_11 n) x1 x2 x3 x4 x5 e

def P_X12_placeWrong (x1 : Int32) (e : mE) : Option (Int32 × mE) :=
  P_X12_placeWrong_11 fu x1 28 0 0 0 e

def P_X12_readImage_248 (x2 : Int32) (e : mE) : Option (Int32 × mE) :=
  if e.1 69 = 0 then
    (P_X12_play x2 e).bind fun e4 =>
    (P_X12_placeWrong x2 e4).bind fun q10 =>
    bd q10.1 fun z9 =>
    bd q10.2 fun e8 =>
    some (z9, e8)
  else
    some ((e.1 65) + 1, e)

def P_X12_readImage_228 (x1 : Int32) (x2 : Int32) (e : mE) : Option (Int32 × mE) :=
  if e.1 69 = 0 then
    if x1 ≤ e.1 65 then
      P_X12_readImage_248 x2 e
    else
      bd (mS e 69 1) fun e4 =>
      P_X12_readImage_248 x2 e4
  else
    P_X12_readImage_248 x2 e

def P_X12_readImage_197 : Nat → Int32 → Int32 → Int32 → mE → Option (Int32 × mE)
  | 0, _, _, _, _ => none
  | n + 1, x1, x2, x8, e =>
  (ck ((0 : Int32) ≤ x2 ∧ x2 < (400 : Int32))).bind fun _ =>
  if e.2 8 x2 ≤ x8 then
    P_X12_readImage_228 x1 x2 e
  else
    if e.1 69 = 0 then
      (P_X12_readTurn x2 x8 e).bind fun e8 =>
      bd (x8 + 1) fun v10 =>
      P_X12_readImage_197 n x1 x2 v10 e8
    else
      P_X12_readImage_228 x1 x2 e

def P_X12_readImage_164 (x1 : Int32) (x2 : Int32) (x6 : Int32) (e : mE) : Option (Int32 × mE) :=
  (P_X12_read 0 (2 * x6) e).bind fun q5 =>
  bd q5.1 fun z4 =>
  bd q5.2 fun e3 =>
  if e3.1 69 = 0 then
    (ck ((0 : Int32) ≤ x2 ∧ x2 < (400 : Int32))).bind fun _ =>
    bd (mA e3 8 x2 z4) fun e11 =>
    P_X12_readImage_197 fu x1 x2 0 e11
  else
    (ck ((0 : Int32) ≤ x2 ∧ x2 < (400 : Int32))).bind fun _ =>
    bd (mA e3 8 x2 0) fun e14 =>
    P_X12_readImage_197 fu x1 x2 0 e14

def P_X12_readImage_137 : Nat → Int32 → Int32 → Int32 → Int32 → mE → Option (Int32 × mE)
  | 0, _, _, _, _, _ => none
  | n + 1, x1, x2, x6, x7, e =>
  if 22 ≤ x7 then
    P_X12_readImage_164 x1 x2 x6 e
  else
    if e.1 69 = 0 then
      (P_X12_readPlayer x2 x7 e).bind fun e5 =>
      bd (x7 + 1) fun v7 =>
      P_X12_readImage_137 n x1 x2 x6 v7 e5
    else
      P_X12_readImage_164 x1 x2 x6 e

def P_X12_readImage_82 (x1 : Int32) (x2 : Int32) (x3 : Int32) (x4 : Int32) (e : mE) : Option (Int32 × mE) :=
  (P_X12_read 1 120 e).bind fun q5 =>
  bd q5.1 fun z4 =>
  bd q5.2 fun e3 =>
  (P_X12_read 1 2 e3).bind fun q10 =>
  bd q10.1 fun z9 =>
  bd q10.2 fun e8 =>
  if e8.1 69 = 0 then
    (P_X12_newGame x3 x4 z4 z9 e8).bind fun e14 =>
    bd (mS e14 2 ((e14.1 2) - 1)) fun e17 =>
    P_X12_readImage_137 fu x1 x2 z9 0 e17
  else
    some ((e8.1 65) + 1, e8)

def P_X12_readImage (x1 : Int32) (e : mE) : Option (Int32 × mE) :=
  bd (mS e 65 0) fun e1 =>
  bd (mS e1 66 x1) fun e3 =>
  bd (mS e3 69 0) fun e5 =>
  bd (e5.1 2) fun v7 =>
  (P_X12_read 66 66 e5).bind fun q11 =>
  bd q11.1 fun z10 =>
  bd q11.2 fun e9 =>
  (P_X12_read 0 ((e9.1 1) - 1) e9).bind fun q16 =>
  bd q16.1 fun z15 =>
  bd q16.2 fun e14 =>
  (P_X12_read 0 ((e14.1 1) - 1) e14).bind fun q21 =>
  bd q21.1 fun z20 =>
  bd q21.2 fun e19 =>
  if e19.1 69 = 0 then
    if z15 = z20 then
      bd (mS e19 69 1) fun e25 =>
      bd (mS e25 65 ((e25.1 65) - 1)) fun e27 =>
      P_X12_readImage_82 x1 v7 z15 z20 e27
    else
      P_X12_readImage_82 x1 v7 z15 z20 e19
  else
    P_X12_readImage_82 x1 v7 z15 z20 e19

def P_X12_readFull_309 : Nat → Int32 → Int32 → Int32 → mE → Option (Int32 × mE)
  | 0, _, _, _, _ => none
  | n + 1, x2, x4, x5, e =>
  if 520 ≤ x5 then
    some (x4, e)
  else
    (ck ((0 : Int32) ≤ (31 + x5) ∧ (31 + x5) < (600 : Int32))).bind fun _ =>
    (ck ((0 : Int32) ≤ ((520 * x2) + x5) ∧ ((520 * x2) + x5) < (208000 : Int32))).bind fun _ =>
    bd (mA e 10 ((520 * x2) + x5) (e.2 71 (31 + x5))) fun e7 =>
    bd (x5 + 1) fun v9 =>
    P_X12_readFull_309 n x2 x4 v9 e7

def P_X12_readFull_276 : Nat → Int32 → Int32 → Int32 → mE → Option (Int32 × mE)
  | 0, _, _, _, _ => none
  | n + 1, x2, x4, x5, e =>
  if 4 ≤ x5 then
    P_X12_readFull_309 fu x2 x4 0 e
  else
    (ck ((0 : Int32) ≤ (27 + x5) ∧ (27 + x5) < (600 : Int32))).bind fun _ =>
    (ck ((0 : Int32) ≤ ((4 * x2) + x5) ∧ ((4 * x2) + x5) < (1600 : Int32))).bind fun _ =>
    bd (mA e 9 ((4 * x2) + x5) (e.2 71 (27 + x5))) fun e7 =>
    bd (x5 + 1) fun v9 =>
    P_X12_readFull_276 n x2 x4 v9 e7

def P_X12_readFull_242 : Nat → Int32 → Int32 → Int32 → mE → Option (Int32 × mE)
  | 0, _, _, _, _ => none
  | n + 1, x2, x4, x5, e =>
  if 22 ≤ x5 then
    P_X12_readFull_276 fu x2 x4 0 e
  else
    (ck ((0 : Int32) ≤ (5 + x5) ∧ (5 + x5) < (600 : Int32))).bind fun _ =>
    (ck ((0 : Int32) ≤ ((22 * x2) + x5) ∧ ((22 * x2) + x5) < (8800 : Int32))).bind fun _ =>
    bd (mA e 7 ((22 * x2) + x5) (e.2 71 (5 + x5))) fun e7 =>
    bd (x5 + 1) fun v9 =>
    P_X12_readFull_242 n x2 x4 v9 e7

def P_X12_readFull_130 : Nat → Int32 → Int32 → Int32 → mE → Option (Int32 × mE)
  | 0, _, _, _, _ => none
  | n + 1, x1, x2, x4, e =>
  if 520 ≤ x4 then
    bd (mS e 2 ((e.1 2) - 1)) fun e3 =>
    (P_X12_readImage x1 e3).bind fun q8 =>
    bd q8.1 fun z7 =>
    bd q8.2 fun e6 =>
    bd (mS e6 2 400) fun e10 =>
    (ck ((0 : Int32) ≤ 0 ∧ 0 < (600 : Int32))).bind fun _ =>
    (ck ((0 : Int32) ≤ (2 * x2) ∧ (2 * x2) < (800 : Int32))).bind fun _ =>
    bd (mA e10 4 (2 * x2) (e10.2 71 (0 : Int32))) fun e16 =>
    (ck ((0 : Int32) ≤ 1 ∧ 1 < (600 : Int32))).bind fun _ =>
    (ck ((0 : Int32) ≤ ((2 * x2) + 1) ∧ ((2 * x2) + 1) < (800 : Int32))).bind fun _ =>
    bd (mA e16 4 ((2 * x2) + 1) (e16.2 71 (1 : Int32))) fun e22 =>
    (ck ((0 : Int32) ≤ 2 ∧ 2 < (600 : Int32))).bind fun _ =>
    (ck ((0 : Int32) ≤ x2 ∧ x2 < (400 : Int32))).bind fun _ =>
    bd (mA e22 5 x2 (e22.2 71 (2 : Int32))) fun e28 =>
    (ck ((0 : Int32) ≤ 3 ∧ 3 < (600 : Int32))).bind fun _ =>
    (ck ((0 : Int32) ≤ x2 ∧ x2 < (400 : Int32))).bind fun _ =>
    bd (mA e28 6 x2 (e28.2 71 (3 : Int32))) fun e34 =>
    (ck ((0 : Int32) ≤ 4 ∧ 4 < (600 : Int32))).bind fun _ =>
    (ck ((0 : Int32) ≤ x2 ∧ x2 < (400 : Int32))).bind fun _ =>
    bd (mA e34 8 x2 (e34.2 71 (4 : Int32))) fun e40 =>
    P_X12_readFull_242 fu x2 z7 0 e40
  else
    (ck ((0 : Int32) ≤ ((520 * x2) + x4) ∧ ((520 * x2) + x4) < (208000 : Int32))).bind fun _ =>
    (ck ((0 : Int32) ≤ (31 + x4) ∧ (31 + x4) < (600 : Int32))).bind fun _ =>
    bd (mA e 71 (31 + x4) (e.2 10 ((520 * x2) + x4))) fun e47 =>
    bd (x4 + 1) fun v49 =>
    P_X12_readFull_130 n x1 x2 v49 e47

def P_X12_readFull_97 : Nat → Int32 → Int32 → Int32 → mE → Option (Int32 × mE)
  | 0, _, _, _, _ => none
  | n + 1, x1, x2, x4, e =>
  if 4 ≤ x4 then
    P_X12_readFull_130 fu x1 x2 0 e
  else
    (ck ((0 : Int32) ≤ ((4 * x2) + x4) ∧ ((4 * x2) + x4) < (1600 : Int32))).bind fun _ =>
    (ck ((0 : Int32) ≤ (27 + x4) ∧ (27 + x4) < (600 : Int32))).bind fun _ =>
    bd (mA e 71 (27 + x4) (e.2 9 ((4 * x2) + x4))) fun e7 =>
    bd (x4 + 1) fun v9 =>
    P_X12_readFull_97 n x1 x2 v9 e7

def P_X12_readFull_63 : Nat → Int32 → Int32 → Int32 → mE → Option (Int32 × mE)
  | 0, _, _, _, _ => none
  | n + 1, x1, x2, x4, e =>
  if 22 ≤ x4 then
    P_X12_readFull_97 fu x1 x2 0 e
  else
    (ck ((0 : Int32) ≤ ((22 * x2) + x4) ∧ ((22 * x2) + x4) < (8800 : Int32))).bind fun _ =>
    (ck ((0 : Int32) ≤ (5 + x4) ∧ (5 + x4) < (600 : Int32))).bind fun _ =>
    bd (mA e 71 (5 + x4) (e.2 7 ((22 * x2) + x4))) fun e7 =>
    bd (x4 + 1) fun v9 =>
    P_X12_readFull_63 n x1 x2 v9 e7

def P_X12_readFull (x1 : Int32) (e : mE) : Option (Int32 × mE) :=
  (ck ((0 : Int32) ≤ (2 * 399) ∧ (2 * 399) < (800 : Int32))).bind fun _ =>
  (ck ((0 : Int32) ≤ 0 ∧ 0 < (600 : Int32))).bind fun _ =>
  bd (mA e 71 (0 : Int32) (e.2 4 (2 * 399 : Int32))) fun e7 =>
  (ck ((0 : Int32) ≤ ((2 * 399) + 1) ∧ ((2 * 399) + 1) < (800 : Int32))).bind fun _ =>
  (ck ((0 : Int32) ≤ 1 ∧ 1 < (600 : Int32))).bind fun _ =>
  bd (mA e7 71 (1 : Int32) (e7.2 4 ((2 * 399) + 1 : Int32))) fun e13 =>
  (ck ((0 : Int32) ≤ 399 ∧ 399 < (400 : Int32))).bind fun _ =>
  (ck ((0 : Int32) ≤ 2 ∧ 2 < (600 : Int32))).bind fun _ =>
  bd (mA e13 71 (2 : Int32) (e13.2 5 (399 : Int32))) fun e19 =>
  (ck ((0 : Int32) ≤ 399 ∧ 399 < (400 : Int32))).bind fun _ =>
  (ck ((0 : Int32) ≤ 3 ∧ 3 < (600 : Int32))).bind fun _ =>
  bd (mA e19 71 (3 : Int32) (e19.2 6 (399 : Int32))) fun e25 =>
  (ck ((0 : Int32) ≤ 399 ∧ 399 < (400 : Int32))).bind fun _ =>
  (ck ((0 : Int32) ≤ 4 ∧ 4 < (600 : Int32))).bind fun _ =>
  bd (mA e25 71 (4 : Int32) (e25.2 8 (399 : Int32))) fun e31 =>
  P_X12_readFull_63 fu x1 399 0 e31

def P_X12_check_52 (x2 : Int32) (y0 : Int32) (e : mE) : Option (Int32 × mE) :=
  bd (mS e 11 x2) fun e2 =>
  some (y0, e2)

def P_X12_check (x1 : Int32) (e : mE) : Option (Int32 × mE) :=
  bd (mS e 0 0) fun e1 =>
  if x1 < 0 then
    some ((-1), e1)
  else
    if x1 ≤ e1.1 16 then
      bd (e1.1 11) fun v5 =>
      bd (mS e1 16 0) fun e6 =>
      if e6.1 2 = 400 then
        (P_X12_readFull x1 e6).bind fun q12 =>
        bd q12.1 fun z11 =>
        bd q12.2 fun e10 =>
        P_X12_check_52 v5 z11 e10
      else
        (P_X12_readImage x1 e6).bind fun q16 =>
        bd q16.1 fun z15 =>
        bd q16.2 fun e14 =>
        P_X12_check_52 v5 z15 e14
    else
      some ((-1), e1)

def P_X12_take (x1 : Int32) (e : mE) : Option (Int32 × mE) :=
  bd (mS e 0 0) fun e1 =>
  if x1 < 0 then
    some ((-1), e1)
  else
    if e1.1 16 < x1 then
      some ((-1), e1)
    else
      if e1.1 2 = 400 then
        some ((-1), e1)
      else
        bd (e1.1 11) fun v6 =>
        bd (mS e1 16 0) fun e7 =>
        (P_X12_readImage x1 e7).bind fun q12 =>
        bd q12.1 fun z11 =>
        bd q12.2 fun e10 =>
        if z11 = 0 then
          bd (mS e10 2 ((e10.1 2) + 1)) fun e15 =>
          some ((e15.1 2) - 1, e15)
        else
          bd (mS e10 11 v6) fun e18 =>
          some (((-1)) - z11, e18)

def P_X12_list_91 (e : mE) : Option (Int32 × mE) :=
  (P_X12_fail e).bind fun q5 =>
  bd q5.1 fun z4 =>
  bd q5.2 fun e3 =>
  some (z4, e3)

def P_X12_list (x1 : Int32) (e : mE) : Option (Int32 × mE) :=
  bd (mS e 0 0) fun e1 =>
  if x1 = 0 then
    some (e1.1 1, e1)
  else
  if x1 = 1 then
    some (e1.1 2, e1)
  else
  if x1 = 2 then
    some (e1.1 16, e1)
  else
  if x1 = 3 then
    some (e1.1 20, e1)
  else
  if x1 = 4 then
    some (e1.1 18, e1)
  else
  if x1 < 5 then
    P_X12_list_91 e1
  else
    if e1.1 1 ≤ x1 - 5 then
      P_X12_list_91 e1
    else
      (ck ((0 : Int32) ≤ (x1 - 5) ∧ (x1 - 5) < (60 : Int32))).bind fun _ =>
      some (e1.2 3 (x1 - 5), e1)

def P_X12_sum_151 (k60 : Int32 → Int64 → Int32 → mE → Option (Int64 × mE)) (k107 : Int32 → Int64 → Int32 → Int32 → mE → Option (Int64 × mE)) : Nat → Int32 → Int64 → Int32 → Int32 → Int32 → mE → Option (Int64 × mE)
  | 0, _, _, _, _, _, _ => none
  | n + 1, x1, x2, x4, x5, x6, e =>
  if 4 ≤ x6 then
    bd (x5 + 1) fun v2 =>
    k107 x1 x2 x4 v2 e
  else
    (P_X12_fieldsOf x1 x4 x5 x6 e).bind fun q7 =>
    bd q7.1 fun z6 =>
    bd q7.2 fun e5 =>
    bd ((31 * x2) + z6.toInt64) fun v8 =>
    bd (x6 + 1) fun v9 =>
    P_X12_sum_151 k60 k107 n x1 v8 x4 x5 v9 e5

def P_X12_sum_117 (k60 : Int32 → Int64 → Int32 → mE → Option (Int64 × mE)) (k107 : Int32 → Int64 → Int32 → Int32 → mE → Option (Int64 × mE)) : Nat → Int32 → Int64 → Int32 → Int32 → Int32 → mE → Option (Int64 × mE)
  | 0, _, _, _, _, _, _ => none
  | n + 1, x1, x2, x4, x5, x6, e =>
  if 4 ≤ x6 then
    P_X12_sum_151 k60 k107 fu x1 x2 x4 x5 0 e
  else
    (P_X12_batsOf x1 x4 x5 x6 e).bind fun q6 =>
    bd q6.1 fun z5 =>
    bd q6.2 fun e4 =>
    bd ((31 * x2) + z5.toInt64) fun v7 =>
    bd (x6 + 1) fun v8 =>
    P_X12_sum_117 k60 k107 n x1 v7 x4 x5 v8 e4

def P_X12_sum_107 (k60 : Int32 → Int64 → Int32 → mE → Option (Int64 × mE)) : Nat → Int32 → Int64 → Int32 → Int32 → mE → Option (Int64 × mE)
  | 0, _, _, _, _, _ => none
  | n + 1, x1, x2, x4, x5, e =>
  if 11 ≤ x5 then
    bd (x4 + 1) fun v2 =>
    k60 x1 x2 v2 e
  else
    P_X12_sum_117 k60 (P_X12_sum_107 k60 n) fu x1 x2 x4 x5 0 e

def P_X12_sum_74 (k60 : Int32 → Int64 → Int32 → mE → Option (Int64 × mE)) : Nat → Int32 → Int64 → Int32 → Int32 → mE → Option (Int64 × mE)
  | 0, _, _, _, _, _ => none
  | n + 1, x1, x2, x4, x5, e =>
  if 16 ≤ x5 then
    P_X12_sum_107 k60 fu x1 x2 x4 0 e
  else
    (P_X12_scoreOf x1 x4 x5 e).bind fun q6 =>
    bd q6.1 fun z5 =>
    bd q6.2 fun e4 =>
    bd ((31 * x2) + z5.toInt64) fun v7 =>
    bd (x5 + 1) fun v8 =>
    P_X12_sum_74 k60 n x1 v7 x4 v8 e4

def P_X12_sum_60 : Nat → Int32 → Int64 → Int32 → mE → Option (Int64 × mE)
  | 0, _, _, _, _ => none
  | n + 1, x1, x2, x4, e =>
  (ck ((0 : Int32) ≤ x1 ∧ x1 < (400 : Int32))).bind fun _ =>
  if e.2 8 x1 ≤ x4 then
    some (x2, e)
  else
    P_X12_sum_74 (P_X12_sum_60 n) fu x1 x2 x4 0 e

def P_X12_sum_29 : Nat → Int32 → Int64 → Int32 → mE → Option (Int64 × mE)
  | 0, _, _, _, _ => none
  | n + 1, x1, x2, x4, e =>
  if 15 ≤ x4 then
    P_X12_sum_60 fu x1 x2 0 e
  else
    (P_X12_nowOf x1 x4 e).bind fun q6 =>
    bd q6.1 fun z5 =>
    bd q6.2 fun e4 =>
    bd ((31 * x2) + z5.toInt64) fun v7 =>
    bd (x4 + 1) fun v8 =>
    P_X12_sum_29 n x1 v7 v8 e4

def P_X12_sum (x1 : Int32) (e : mE) : Option (Int64 × mE) :=
  bd (mS e 0 0) fun e1 =>
  (P_X12_isGame x1 e1).bind fun q6 =>
  bd q6.1 fun z5 =>
  bd q6.2 fun e4 =>
  if z5 = 0 then
    (P_X12_fail e4).bind fun q12 =>
    bd q12.1 fun z11 =>
    bd q12.2 fun e10 =>
    some (z11.toInt64, e10)
  else
    (P_X12_play x1 e4).bind fun e15 =>
    P_X12_sum_29 fu x1 0 0 e15
