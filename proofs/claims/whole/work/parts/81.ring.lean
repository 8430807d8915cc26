/-! The ring of changes: one more, one back -/
theorem ofN_s {n : Nat} : Int32.ofNat n + 1 = Int32.ofNat (n + 1) := by
  rw [Int32.ofNat_add]
  rfl
theorem HCr.sh {h : aH} {x j : Nat} (hj : j < 40) : ∀ (l : List (Int32 × Pg)) (pg : Int32 → Pg) (i : Nat), i + l.length ≤ 40 → HCr h x j pg i l → HCr h x ((j + 1) % 40) pg (i + 1) l
  | [], _, _, _, _ => trivial
  | (g, P) :: l, pg, i, n, r => by
    obtain ⟨r1, r2, r3, r4⟩ := r
    have nl : i + 1 + l.length ≤ 40 := by
      rw [List.length_cons] at n
      omega
    have e : slt x ((j + 1) % 40) (i + 1) = slt x j i := by
      unfold slt
      omega
    refine ⟨by rw [e]; exact r1, by rw [e]; exact r2, by rw [e]; exact r3, HCr.sh hj l _ _ nl r4⟩
theorem HCr.bk {h : aH} {x j : Nat} (hj : j < 40) : ∀ (l : List (Int32 × Pg)) (pg : Int32 → Pg) (i : Nat), i + l.length ≤ 40 → HCr h x j pg (i + 1) l → HCr h x ((j + 39) % 40) pg i l
  | [], _, _, _, _ => trivial
  | (g, P) :: l, pg, i, n, r => by
    obtain ⟨r1, r2, r3, r4⟩ := r
    have nl : i + 1 + l.length ≤ 40 := by
      rw [List.length_cons] at n
      omega
    have e : slt x ((j + 39) % 40) i = slt x j (i + 1) := by
      unfold slt
      omega
    refine ⟨by rw [e]; exact r1, by rw [e]; exact r2, by rw [e]; exact r3, HCr.bk hj l _ _ nl r4⟩
theorem HCr.tk {h : aH} {x j : Nat} : ∀ (l : List (Int32 × Pg)) (pg : Int32 → Pg) (i n : Nat), HCr h x j pg i l → HCr h x j pg i (l.take n)
  | [], _, _, n, _ => by rw [List.take_nil]; trivial
  | (g, P) :: l, pg, i, 0, _ => trivial
  | (g, P) :: l, pg, i, n + 1, r => ⟨r.1, r.2.1, r.2.2.1, HCr.tk l _ _ n r.2.2.2⟩
theorem slt0 {x j : Nat} (hj : j < 40) : slt x j 0 = x + 9 + 3 * j := by
  unfold slt
  omega
/-- the change at a place of the ring -/
theorem c_at {x : Nat} {h : aH} {j : Nat} (jl : j < 40) (fx : FX x h) : Rn (F_X2_changeAt (x + 7) (Int32.ofNat j) h) (fun q => q = (some (x + 9 + 3 * j), h)) := by
  obtain ⟨⟨a1, a2, a3, a4⟩, rg⟩ := fx.2.2.2.2.1
  have g1 := (rg j jl).1
  have nj := ofN_i (n := j) (by omega)
  have ij := i_ofN (i := j) (by omega)
  have z0 : (0 : Int32).toInt = 0 := by decide
  have z40 : (Int32.ofNat 40).toInt = 40 := by decide
  have c1 : ¬ Int32.ofNat j < 0 := fun c => by
    have := Int32.lt_iff_toInt_lt.mp c
    omega
  have c2 : ¬ Int32.ofNat (hN h (x + 8)) ≤ Int32.ofNat j := fun c => by
    rw [a4] at c
    have := Int32.le_iff_toInt_le.mp c
    omega
  unfold F_X2_changeAt
  exact rn_n c1 (rn_o a2 (rn_ck a3 (rn_n c2 (rn_o a2 (rn_ck ⟨a3, by rw [a4]; exact inR_of ij.1 (by omega)⟩ (rn_o (by rw [ij.2]; exact g1) (rn_s rfl)))))))
/-- the words of a change are written; its place is the ring's next -/
def PushH (x : Nat) (h : aH) (A : Bk) (g kd t o : Int32) (j : Nat) (f : aH) : Prop := frs (fun k => k = 9 + 3 * j) x h f ∧ hF f 301 (x + 7) = Int32.ofNat j ∧ hF f 302 (x + 7) = Int32.ofNat A.hi.length ∧ (hF f 201 (x + 9 + 3 * j) = g ∧ hF f 202 (x + 9 + 3 * j) = kd ∧ hF f 203 (x + 9 + 3 * j) = t ∧ hF f 204 (x + 9 + 3 * j) = o) ∧ hK f (x + 7) = 4 ∧ A.hi.length ≤ 40 ∧ HCr f x j A.pg 1 (A.hi.take 39)
theorem push_h {x : Nat} {h : aH} {A : Bk} (fx : FX x h) (hc : HC x h A) (g kd t o : Int32) : ∃ j, j < 40 ∧ hF h 301 (x + 7) = Int32.ofNat j ∧ PushH x h A g kd t o j (sF (sF (sF (sF h 201 (x + 9 + 3 * j) g) 202 (x + 9 + 3 * j) kd) 203 (x + 9 + 3 * j) t) 204 (x + 9 + 3 * j) o) := by
  obtain ⟨j0, j1, j2, j3, j4, j5⟩ := hc
  obtain ⟨⟨a1, a2, a3, a4⟩, rg⟩ := fx.2.2.2.2.1
  have jl : (j0 + 1) % 40 < 40 := Nat.mod_lt _ (by decide)
  have HS := HCr.sh j1 _ _ _ (show 0 + (A.hi.take 39).length ≤ 40 by rw [List.length_take]; omega) (HCr.tk _ _ _ 39 j5)
  have HM : ∀ i', 1 ≤ i' → i' < 1 + (A.hi.take 39).length → (((j0 + 1) % 40) + 40 - i') % 40 ≠ (j0 + 1) % 40 := by
    intro i' a b
    rw [List.length_take] at b
    omega
  clear j5
  generalize (j0 + 1) % 40 = j at *
  refine ⟨j, jl, j2, ?_⟩
  have na : x + 7 ≠ x + 9 + 3 * j := by omega
  have F : ∀ (hh : aH) (f : Nat) (v : Int32), f ≠ 500 ∧ f ≠ 501 → frs (fun k => k = 9 + 3 * j) x hh (sF hh f (x + 9 + 3 * j) v) := fun hh f v hf => by
    rw [show x + 9 + 3 * j = x + (9 + 3 * j) by omega]
    exact frs_sF rfl hf
  have C : ∀ b, b ≠ x + 9 + 3 * j → cel h (sF (sF (sF (sF h 201 (x + 9 + 3 * j) g) 202 (x + 9 + 3 * j) kd) 203 (x + 9 + 3 * j) t) 204 (x + 9 + 3 * j) o) b := fun b hb => (((cel_sF hb).trans (cel_sF hb)).trans (cel_sF hb)).trans (cel_sF hb)
  refine ⟨(((F _ _ _ (by decide)).trans (F _ _ _ (by decide))).trans (F _ _ _ (by decide))).trans (F _ _ _ (by decide)), ((C _ na).F _).trans j2, ((C _ na).F _).trans j3, ⟨?_, ?_, ?_, if_pos ⟨rfl, rfl⟩⟩, a1, j4, ?_⟩
  · rw [rF_sF, if_neg (by omega), rF_sF, if_neg (by omega), rF_sF, if_neg (by omega), rF_sF, if_pos ⟨rfl, rfl⟩]
  · rw [rF_sF, if_neg (by omega), rF_sF, if_neg (by omega), rF_sF, if_pos ⟨rfl, rfl⟩]
  · rw [rF_sF, if_neg (by omega), rF_sF, if_pos ⟨rfl, rfl⟩]
  · refine HCr.mv _ _ _ HS (fun i' a b => ?_)
    have ne := HM i' a b
    have n0 : slt x j i' ≠ x + 9 + 3 * j := by unfold slt; omega
    have n1 : slt x j i' + 1 ≠ x + 9 + 3 * j := by unfold slt; omega
    have n2 : slt x j i' + 2 ≠ x + 9 + 3 * j := by unfold slt; omega
    exact ⟨C _ n0, C _ n1, C _ n2⟩
/-- the ring steps on -/
abbrev stepH (x : Nat) (A : Bk) (g : Int32) (j : Nat) (h : aH) : aH := sF (sF h 301 (x + 7) (Int32.ofNat ((j + 1) % 40))) 302 (x + 7) (Int32.ofNat (((g, A.pg g) :: A.hi).take 40).length)
theorem c_push56 {x : Nat} {h : aH} {A : Bk} {j : Nat} (g : Int32) (jl : j < 40) (ll : A.hi.length ≤ 40) (b9 : hK h (x + 7) = 4) (b2 : hF h 301 (x + 7) = Int32.ofNat j) (b3 : hF h 302 (x + 7) = Int32.ofNat A.hi.length) : Rn (F_X2_push_56 (x + 7) h) (fun h' => h' = stepH x A g j h) := by
  have len : (((g, A.pg g) :: A.hi).take 40).length = if A.hi.length = 40 then 40 else A.hi.length + 1 := by
    rw [List.length_take, List.length_cons]
    by_cases c : A.hi.length = 40
    · rw [if_pos c]; omega
    · rw [if_neg c]; omega
  have fin : ∀ n, n = Int32.ofNat ((j + 1) % 40) → Rn (F_X2_push_78 (x + 7) (x + 7) n h) (fun h' => h' = stepH x A g j h) := by
    rintro n rfl
    unfold F_X2_push_78
    refine rn_ck b9 (rn_bd (rn_ck b9 ?_))
    have c2 : hF (sF h 301 (x + 7) (Int32.ofNat ((j + 1) % 40))) 302 (x + 7) = Int32.ofNat A.hi.length := by rw [rF_sF, if_neg (by omega)]; exact b3
    rw [c2, ofN_s]
    have cnt : (if 40 < Int32.ofNat (A.hi.length + 1) then 40 else Int32.ofNat (A.hi.length + 1)) = Int32.ofNat (((g, A.pg g) :: A.hi).take 40).length := by
      rw [len]
      have e1 := ofN_i (n := A.hi.length + 1) (by omega)
      have h40 : (40 : Int32).toInt = 40 := by decide
      by_cases c : A.hi.length = 40
      · rw [if_pos c, if_pos (Int32.lt_iff_toInt_lt.mpr (by omega))]
        rfl
      · rw [if_neg c, if_neg (fun q => by have := Int32.lt_iff_toInt_lt.mp q; omega)]
    rw [cnt]
    exact rn_bd (rn_bd (rn_s rfl))
  unfold F_X2_push_56
  refine rn_ck b9 ?_
  rw [b2, ofN_s]
  have e1 := ofN_i (n := j + 1) (by omega)
  have h40 : (40 : Int32).toInt = 40 := by decide
  refine rn_i (fun c => fin _ ?_) (fun c => ?_)
  · have := Int32.le_iff_toInt_le.mp c
    rw [show (j + 1) % 40 = 0 by omega]
    rfl
  · refine fin _ ?_
    have := Int32.lt_iff_toInt_lt.mp (Int32.not_le.mp c)
    rw [show (j + 1) % 40 = j + 1 by omega]
theorem step_cel {x : Nat} {h : aH} {A : Bk} {g : Int32} {j b : Nat} (hb : b ≠ x + 7) : cel h (stepH x A g j h) b := (cel_sF hb).trans (cel_sF hb)
theorem step_301 {x : Nat} {h : aH} {A : Bk} {g : Int32} {j : Nat} : hF (stepH x A g j h) 301 (x + 7) = Int32.ofNat ((j + 1) % 40) := by
  unfold stepH
  rw [rF_sF, if_neg (by omega), rF_sF, if_pos ⟨rfl, rfl⟩]
theorem step_302 {x : Nat} {h : aH} {A : Bk} {g : Int32} {j : Nat} : hF (stepH x A g j h) 302 (x + 7) = Int32.ofNat (((g, A.pg g) :: A.hi).take 40).length := if_pos ⟨rfl, rfl⟩
theorem step_frs {x : Nat} {h : aH} {A : Bk} {g : Int32} {j : Nat} {S : Nat → Prop} (s7 : S 7) : frs S x h (stepH x A g j h) := (frs_sF s7 (by decide)).trans (frs_sF s7 (by decide))
def PushQ (x : Nat) (h : aH) (A : Bk) (g kd t o : Int32) (j : Nat) (h' : aH) : Prop := frs (fun k => k = 7 ∨ k = 9 + 3 * j) x h h' ∧ hF h' 301 (x + 7) = Int32.ofNat ((j + 1) % 40) ∧ hF h' 302 (x + 7) = Int32.ofNat (((g, A.pg g) :: A.hi).take 40).length ∧ (hF h' 201 (x + 9 + 3 * j) = g ∧ hF h' 202 (x + 9 + 3 * j) = kd ∧ hF h' 203 (x + 9 + 3 * j) = t ∧ hF h' 204 (x + 9 + 3 * j) = o) ∧ HCr h' x j A.pg 1 (A.hi.take 39)
theorem c_push {x : Nat} {h : aH} {A : Bk} (fx : FX x h) (hc : HC x h A) (g kd t o : Int32) : Rn (F_X2_push (x + 7) g kd t o none h) (fun h' => ∃ j, j < 40 ∧ PushQ x h A g kd t o j h') := by
  obtain ⟨j, jl, e, H⟩ := push_h fx hc g kd t o
  have g2 := ((fx.2.2.2.2.1.2 j jl).2.1).1
  unfold F_X2_push
  rw [e]
  refine rn_c (c_at jl fx) ?_
  rintro _ rfl
  refine rn_bd (rn_bd ?_)
  dsimp only
  refine rn_ck g2 (rn_bd (rn_bd (rn_bd (rn_bd ?_))))
  generalize sF (sF (sF (sF h 201 (x + 9 + 3 * j) g) 202 (x + 9 + 3 * j) kd) 203 (x + 9 + 3 * j) t) 204 (x + 9 + 3 * j) o = hx at *
  obtain ⟨b1, b2, b3, b4, b5, b6, b7⟩ := H
  refine (c_push56 g jl b6 b5 b2 b3).imp ?_
  rintro _ rfl
  have oa : cel hx (stepH x A g j hx) (x + 9 + 3 * j) := step_cel (by omega)
  have b1' : frs (fun k => k = 7 ∨ k = 9 + 3 * j) x h hx := b1.wk (fun k hk => Or.inr hk)
  refine ⟨j, jl, b1'.trans (step_frs (Or.inl rfl)), step_301, step_302, ⟨(oa.F _).trans b4.1, (oa.F _).trans b4.2.1, (oa.F _).trans b4.2.2.1, (oa.F _).trans b4.2.2.2⟩, HCr.mv _ _ _ b7 (fun i' _ _ => ?_)⟩
  have si := slt_in (x := x) (i := i') jl
  exact ⟨step_cel (by omega), step_cel (by omega), step_cel (by omega)⟩
/-- a push that keeps a row -/
theorem c_pushR {x : Nat} {h : aH} {A : Bk} (fx : FX x h) (hc : HC x h A) (g kd t o : Int32) {a : Nat} {b s : Int32} {e : Int32 → Int32} (v : OvL h a b s e) (sz : s ≤ 40 ∧ -1 ≤ s) (hi : x + 229 ≤ a) : Rn (F_X2_push (x + 7) g kd t o (some a) h) (fun h' => ∃ j, j < 40 ∧ frs (fun k => k = 7 ∨ (9 + 3 * j ≤ k ∧ k ≤ 9 + 3 * j + 2)) x h h' ∧ hF h' 301 (x + 7) = Int32.ofNat ((j + 1) % 40) ∧ hF h' 302 (x + 7) = Int32.ofNat (((g, A.pg g) :: A.hi).take 40).length ∧ (hF h' 201 (x + 9 + 3 * j) = g ∧ hF h' 202 (x + 9 + 3 * j) = kd ∧ hF h' 203 (x + 9 + 3 * j) = t ∧ hF h' 204 (x + 9 + 3 * j) = o) ∧ HCr h' x j A.pg 1 (A.hi.take 39) ∧ OvL h' (x + 9 + 3 * j + 1) b s e) := by
  obtain ⟨j, jl, e1, H⟩ := push_h fx hc g kd t o
  have g2 := ((fx.2.2.2.2.1.2 j jl).2.1).1
  unfold F_X2_push
  rw [e1]
  refine rn_c (c_at jl fx) ?_
  rintro _ rfl
  refine rn_bd (rn_bd ?_)
  dsimp only
  refine rn_ck g2 (rn_bd (rn_bd (rn_bd (rn_bd ?_))))
  generalize sF (sF (sF (sF h 201 (x + 9 + 3 * j) g) 202 (x + 9 + 3 * j) kd) 203 (x + 9 + 3 * j) t) 204 (x + 9 + 3 * j) o = hx at *
  obtain ⟨b1, b2, b3, b4, b5, b6, b7⟩ := H
  have fx5 := fx.fs b1 (fun k hk => by omega)
  obtain ⟨g1, ⟨g2', g3⟩, g4, g5, g6, g7⟩ := fx5.2.2.2.2.1.2 j jl
  have v5 : OvL hx a b s e := v.mv (b1.2 _ (fun k hk e => by omega)) (b1.2 _ (fun k hk e => by omega))
  refine rn_o g3 (rn_ck g4 (rn_c (o_copy (t := x + 9 + 3 * j + 1) v5 sz (by omega) ⟨g4, g5, g6, g7⟩) (fun h15 q => ?_)))
  obtain ⟨f, w⟩ := q
  have c7 : cel hx h15 (x + 7) := cel_frn f (by omega)
  refine (c_push56 g jl b6 (c7.K.trans b5) ((c7.F _).trans b2) ((c7.F _).trans b3)).imp ?_
  rintro _ rfl
  have oc : ∀ b, b ≠ x + 7 → (b < x + 9 + 3 * j + 1 ∨ x + 9 + 3 * j + 3 ≤ b) → cel hx (stepH x A g j h15) b := fun b n0 n1 => (cel_frn f n1).trans (step_cel n0)
  have oa := oc (x + 9 + 3 * j) (by omega) (by omega)
  have b1' : frs (fun k => k = 7 ∨ (9 + 3 * j ≤ k ∧ k ≤ 9 + 3 * j + 2)) x h hx := b1.wk (fun k hk => Or.inr (by omega))
  have f15 : frs (fun k => k = 7 ∨ (9 + 3 * j ≤ k ∧ k ≤ 9 + 3 * j + 2)) x hx h15 := ⟨f.1, fun b hb => cel_frn f (by
    have := hb (9 + 3 * j + 1) (Or.inr (by omega))
    have := hb (9 + 3 * j + 2) (Or.inr (by omega))
    omega)⟩
  refine ⟨j, jl, (b1'.trans f15).trans (step_frs (Or.inl rfl)), step_301, step_302, ⟨(oa.F _).trans b4.1, (oa.F _).trans b4.2.1, (oa.F _).trans b4.2.2.1, (oa.F _).trans b4.2.2.2⟩, HCr.mv _ _ _ b7 (fun i' i0 i1 => ?_), w.mv (step_cel (by omega)) (step_cel (by omega))⟩
  have si := slt_in (x := x) (i := i') jl
  rw [List.length_take] at i1
  have e : slt x j i' + 2 < x + 9 + 3 * j ∨ x + 9 + 3 * j + 2 < slt x j i' := by
    unfold slt
    omega
  exact ⟨oc _ (by omega) (by omega), oc _ (by omega) (by omega), oc _ (by omega) (by omega)⟩
/-- behind a push and the change itself: the history of the book -/
theorem hc_done {x : Nat} {h1 h2 : aH} {A : Bk} {g : Int32} {P : Pg} {j : Nat} (jl : j < 40) (f1 : hF h1 301 (x + 7) = Int32.ofNat ((j + 1) % 40)) (f2 : hF h1 302 (x + 7) = Int32.ofNat (((g, A.pg g) :: A.hi).take 40).length) (f3 : hF h1 201 (x + 9 + 3 * j) = g) (hr : HCr h1 x j A.pg 1 (A.hi.take 39)) (ck : cok h1 (x + 9 + 3 * j) P) (ca : PgEq (capp h1 (x + 9 + 3 * j) P) (A.pg g)) (c7 : cel h1 h2 (x + 7)) (c : ∀ k, 9 ≤ k → k < 129 → cel h1 h2 (x + k)) : HC x h2 (A.chg g P) := by
  have el : (A.chg g P).hi = (g, A.pg g) :: A.hi.take 39 := rfl
  have ep : (A.chg g P).pg g = P := if_pos rfl
  have H : HC x h1 (A.chg g P) := by
    refine ⟨j, jl, f1, f2, ?_, ?_⟩
    · show (((g, A.pg g) :: A.hi).take 40).length ≤ 40
      rw [List.length_take]
      omega
    · rw [el]
      refine ⟨by rw [slt0 jl]; exact f3, by rw [slt0 jl, ep]; exact ck, by rw [slt0 jl, ep]; exact ca, ?_⟩
      have : upP (A.chg g P).pg g (A.pg g) = A.pg := by
        funext g'
        show (if g' = g then A.pg g else if g' = g then P else A.pg g') = A.pg g'
        by_cases e : g' = g
        · rw [if_pos e, e]
        · rw [if_neg e, if_neg e]
      rw [this]
      exact hr
  exact H.mv c7 c
