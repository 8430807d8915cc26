/-! The ring of changes: one more, one back -/
theorem ofN_s {n : Nat} : Int32.ofNat n + 1 = Int32.ofNat (n + 1) := by
  rw [Int32.ofNat_add]
  rfl
theorem HCr.sh {h : aH} {x j : Nat} (hj : j < 40) : ∀ (l : List (Int32 × Pg)) (pg : Int32 → Pg) (i : Nat), i + l.length ≤ 40 → HCr h x j pg i l → HCr h x ((j + 1) % 40) pg (i + 1) l
  | [], _, _, _, _ => trivial
  | (g, P) :: l, pg, i, n, r => by
    obtain ⟨r1, r2, r3, r4⟩ := r
    have nl : i + 1 + l.length ≤ 40 := by
      rw [List.length_cons] at n
      omega
    have e : slt x ((j + 1) % 40) (i + 1) = slt x j i := by
      unfold slt
      omega
    refine ⟨by rw [e]; exact r1, by rw [e]; exact r2, by rw [e]; exact r3, HCr.sh hj l _ _ nl r4⟩
theorem HCr.bk {h : aH} {x j : Nat} (hj : j < 40) : ∀ (l : List (Int32 × Pg)) (pg : Int32 → Pg) (i : Nat), i + l.length ≤ 40 → HCr h x j pg (i + 1) l → HCr h x ((j + 39) % 40) pg i l
  | [], _, _, _, _ => trivial
  | (g, P) :: l, pg, i, n, r => by
    obtain ⟨r1, r2, r3, r4⟩ := r
    have nl : i + 1 + l.length ≤ 40 := by
      rw [List.length_cons] at n
      omega
    have e : slt x ((j + 39) % 40) i = slt x j (i + 1) := by
      unfold slt
      omega
    refine ⟨by rw [e]; exact r1, by rw [e]; exact r2, by rw [e]; exact r3, HCr.bk hj l _ _ nl r4⟩
theorem HCr.tk {h : aH} {x j : Nat} : ∀ (l : List (Int32 × Pg)) (pg : Int32 → Pg) (i n : Nat), HCr h x j pg i l → HCr h x j pg i (l.take n)
  | [], _, _, n, _ => by rw [List.take_nil]; trivial
  | (g, P) :: l, pg, i, 0, _ => trivial
  | (g, P) :: l, pg, i, n + 1, r => ⟨r.1, r.2.1, r.2.2.1, HCr.tk l _ _ n r.2.2.2⟩
theorem slt0 {x j : Nat} (hj : j < 40) : slt x j 0 = x + 9 + 3 * j := by
  unfold slt
  omega
def PushQ (x : Nat) (h : aH) (A : Bk) (g kd t o : Int32) (j : Nat) (h' : aH) : Prop := frs (fun k => k = 7 ∨ k = 9 + 3 * j) x h h' ∧ hF h' 301 (x + 7) = Int32.ofNat ((j + 1) % 40) ∧ hF h' 302 (x + 7) = Int32.ofNat (((g, A.pg g) :: A.hi).take 40).length ∧ (hF h' 201 (x + 9 + 3 * j) = g ∧ hF h' 202 (x + 9 + 3 * j) = kd ∧ hF h' 203 (x + 9 + 3 * j) = t ∧ hF h' 204 (x + 9 + 3 * j) = o) ∧ HCr h' x j A.pg 1 (A.hi.take 39)
theorem c_push {x : Nat} {h : aH} {A : Bk} (fx : FX x h) (hc : HC x h A) (g kd t o : Int32) : Rn (F_X2_push (x + 7) g kd t o h) (fun q => ∃ j, j < 40 ∧ q.1 = some (x + 9 + 3 * j) ∧ PushQ x h A g kd t o j q.2) := by
  obtain ⟨j0, j1, j2, j3, j4, j5⟩ := hc
  obtain ⟨⟨a1, a2, a3, a4⟩, rg⟩ := fx.2.2.2.2.1
  have jl : (j0 + 1) % 40 < 40 := Nat.mod_lt _ (by decide)
  have HS := HCr.sh j1 _ _ _ (show 0 + (A.hi.take 39).length ≤ 40 by rw [List.length_take]; omega) (HCr.tk _ _ _ 39 j5)
  have HM : ∀ i', 1 ≤ i' → i' < 1 + (A.hi.take 39).length → (((j0 + 1) % 40) + 40 - i') % 40 ≠ (j0 + 1) % 40 := by
    intro i' a b
    rw [List.length_take] at b
    omega
  clear j5
  generalize (j0 + 1) % 40 = j at *
  obtain ⟨g1, ⟨g2, g3⟩, g4, g5, g6, g7⟩ := rg j jl
  have nj := ofN_i (n := j) (by omega)
  have ij := i_ofN (i := j) (by omega)
  unfold F_X2_push
  refine rn_o a2 ?_
  rw [j2]
  refine rn_ck ⟨a3, by rw [a4]; exact inR_of ij.1 (by omega)⟩ (rn_o (by rw [ij.2]; exact g1) (rn_ck g2 (rn_bd (rn_bd (rn_bd (rn_bd ?_))))))
  have na : x + 7 ≠ x + 9 + 3 * j := by omega
  have E : ∀ f, sF (sF (sF (sF h 201 (x + 9 + 3 * j) g) 202 (x + 9 + 3 * j) kd) 203 (x + 9 + 3 * j) t) 204 (x + 9 + 3 * j) o = f → frs (fun k => k = 7 ∨ k = 9 + 3 * j) x h f ∧ hF f 301 (x + 7) = Int32.ofNat j ∧ hF f 302 (x + 7) = Int32.ofNat A.hi.length ∧ hF f 201 (x + 9 + 3 * j) = g ∧ hF f 202 (x + 9 + 3 * j) = kd ∧ hF f 203 (x + 9 + 3 * j) = t ∧ hF f 204 (x + 9 + 3 * j) = o ∧ (∀ b, b ≠ x + 9 + 3 * j → cel h f b) ∧ hK f (x + 7) = 4 := by
    rintro f rfl
    have F : ∀ (hh : aH) (f : Nat) (v : Int32), f ≠ 500 ∧ f ≠ 501 → frs (fun k => k = 7 ∨ k = 9 + 3 * j) x hh (sF hh f (x + 9 + 3 * j) v) := fun hh f v hf => by
      rw [show x + 9 + 3 * j = x + (9 + 3 * j) by omega]
      exact frs_sF (Or.inr rfl) hf
    refine ⟨(((F _ _ _ (by decide)).trans (F _ _ _ (by decide))).trans (F _ _ _ (by decide))).trans (F _ _ _ (by decide)), ?_, ?_, ?_, ?_, ?_, if_pos ⟨rfl, rfl⟩, fun b hb => (((cel_sF hb).trans (cel_sF hb)).trans (cel_sF hb)).trans (cel_sF hb), a1⟩
    · rw [rF_sF, if_neg (by omega), rF_sF, if_neg (by omega), rF_sF, if_neg (by omega), rF_sF, if_neg (by omega)]; exact j2
    · rw [rF_sF, if_neg (by omega), rF_sF, if_neg (by omega), rF_sF, if_neg (by omega), rF_sF, if_neg (by omega)]; exact j3
    · rw [rF_sF, if_neg (by omega), rF_sF, if_neg (by omega), rF_sF, if_neg (by omega), rF_sF, if_pos ⟨rfl, rfl⟩]
    · rw [rF_sF, if_neg (by omega), rF_sF, if_neg (by omega), rF_sF, if_pos ⟨rfl, rfl⟩]
    · rw [rF_sF, if_neg (by omega), rF_sF, if_pos ⟨rfl, rfl⟩]
  obtain ⟨b1, b2, b3, b4, b5, b6, b7, b8, b9⟩ := E _ rfl
  clear E
  generalize sF (sF (sF (sF h 201 (x + 9 + 3 * j) g) 202 (x + 9 + 3 * j) kd) 203 (x + 9 + 3 * j) t) 204 (x + 9 + 3 * j) o = hx at *
  rw [b2, ofN_s]
  have len : (((g, A.pg g) :: A.hi).take 40).length = if A.hi.length = 40 then 40 else A.hi.length + 1 := by
    rw [List.length_take, List.length_cons]
    by_cases c : A.hi.length = 40
    · rw [if_pos c]; omega
    · rw [if_neg c]; omega
  have fin : ∀ n, n = Int32.ofNat ((j + 1) % 40) → Rn (F_X2_push_58 (x + 7) (x + 9 + 3 * j) (x + 7) n hx) (fun q => ∃ j, j < 40 ∧ q.1 = some (x + 9 + 3 * j) ∧ PushQ x h A g kd t o j q.2) := by
    rintro n rfl
    unfold F_X2_push_58
    refine rn_ck b9 (rn_bd (rn_ck b9 ?_))
    have c2 : hF (sF hx 301 (x + 7) (Int32.ofNat ((j + 1) % 40))) 302 (x + 7) = Int32.ofNat A.hi.length := by rw [rF_sF, if_neg (by omega)]; exact b3
    rw [c2, ofN_s]
    have cnt : (if 40 < Int32.ofNat (A.hi.length + 1) then 40 else Int32.ofNat (A.hi.length + 1)) = Int32.ofNat (((g, A.pg g) :: A.hi).take 40).length := by
      rw [len]
      have e1 := ofN_i (n := A.hi.length + 1) (by omega)
      have h40 : (40 : Int32).toInt = 40 := by decide
      by_cases c : A.hi.length = 40
      · rw [if_pos c, if_pos (Int32.lt_iff_toInt_lt.mpr (by omega))]
        rfl
      · rw [if_neg c, if_neg (fun q => by have := Int32.lt_iff_toInt_lt.mp q; omega)]
    rw [cnt]
    have o7 : ∀ b, b ≠ x + 7 → cel hx (sF (sF hx 301 (x + 7) (Int32.ofNat ((j + 1) % 40))) 302 (x + 7) (Int32.ofNat (((g, A.pg g) :: A.hi).take 40).length)) b := fun b hb => (cel_sF hb).trans (cel_sF hb)
    have oa := o7 (x + 9 + 3 * j) na.symm
    refine rn_bd (rn_bd (rn_s ⟨j, jl, rfl, (b1.trans (frs_sF (Or.inl rfl) (by decide))).trans (frs_sF (Or.inl rfl) (by decide)), ?_, if_pos ⟨rfl, rfl⟩, ⟨(oa.F _).trans b4, (oa.F _).trans b5, (oa.F _).trans b6, (oa.F _).trans b7⟩, ?_⟩))
    · rw [rF_sF, if_neg (by omega), rF_sF, if_pos ⟨rfl, rfl⟩]
    · refine HCr.mv _ _ _ HS (fun i' a b => ?_)
      have ne := HM i' a b
      have si := slt_in (x := x) (i := i') jl
      have cc : ∀ b, x + 9 ≤ b → b ≠ x + 9 + 3 * j → cel h (sF (sF hx 301 (x + 7) (Int32.ofNat ((j + 1) % 40))) 302 (x + 7) (Int32.ofNat (((g, A.pg g) :: A.hi).take 40).length)) b := fun b b0 b1 => (b8 b b1).trans (o7 b (by omega))
      have n0 : slt x j i' ≠ x + 9 + 3 * j := by unfold slt; omega
      have n1 : slt x j i' + 1 ≠ x + 9 + 3 * j := by unfold slt; omega
      have n2 : slt x j i' + 2 ≠ x + 9 + 3 * j := by unfold slt; omega
      exact ⟨cc _ si.1 n0, cc _ (by omega) n1, cc _ (by omega) n2⟩
  have e1 := ofN_i (n := j + 1) (by omega)
  have h40 : (40 : Int32).toInt = 40 := by decide
  refine rn_i (fun c => fin _ ?_) (fun c => ?_)
  · have := Int32.le_iff_toInt_le.mp c
    rw [show (j + 1) % 40 = 0 by omega]
    rfl
  · refine fin _ ?_
    have := Int32.lt_iff_toInt_lt.mp (Int32.not_le.mp c)
    rw [show (j + 1) % 40 = j + 1 by omega]
/-- behind a push and the change itself: the history of the book -/
theorem hc_done {x : Nat} {h1 h2 : aH} {A : Bk} {g : Int32} {P : Pg} {j : Nat} (jl : j < 40) (f1 : hF h1 301 (x + 7) = Int32.ofNat ((j + 1) % 40)) (f2 : hF h1 302 (x + 7) = Int32.ofNat (((g, A.pg g) :: A.hi).take 40).length) (f3 : hF h1 201 (x + 9 + 3 * j) = g) (hr : HCr h1 x j A.pg 1 (A.hi.take 39)) (ck : cok h1 (x + 9 + 3 * j) P) (ca : PgEq (capp h1 (x + 9 + 3 * j) P) (A.pg g)) (c7 : cel h1 h2 (x + 7)) (c : ∀ k, 9 ≤ k → k < 129 → cel h1 h2 (x + k)) : HC x h2 (A.chg g P) := by
  have el : (A.chg g P).hi = (g, A.pg g) :: A.hi.take 39 := rfl
  have ep : (A.chg g P).pg g = P := if_pos rfl
  have H : HC x h1 (A.chg g P) := by
    refine ⟨j, jl, f1, f2, ?_, ?_⟩
    · show (((g, A.pg g) :: A.hi).take 40).length ≤ 40
      rw [List.length_take]
      omega
    · rw [el]
      refine ⟨by rw [slt0 jl]; exact f3, by rw [slt0 jl, ep]; exact ck, by rw [slt0 jl, ep]; exact ca, ?_⟩
      have : upP (A.chg g P).pg g (A.pg g) = A.pg := by
        funext g'
        show (if g' = g then A.pg g else if g' = g then P else A.pg g') = A.pg g'
        by_cases e : g' = g
        · rw [if_pos e, e]
        · rw [if_neg e, if_neg e]
      rw [this]
      exact hr
  exact H.mv c7 c
