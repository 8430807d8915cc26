/-! The reference's reader: what it leaves alone, one byte -/
/-- all that has changed lies in game g, in rows made since, or in what is no part of the book -/
def FrR (e0 : mE) (g : Int32) (e : mE) : Prop := (∀ k, 0 < k → k < 28 → k ≠ 11 → e.1 k = e0.1 k) ∧ e0.1 11 ≤ e.1 11 ∧ (∀ k, (k < 4 ∨ (14 < k ∧ k < 28) ∨ k = 71) → ∀ i, e.2 k i = e0.2 k i) ∧ (∀ g', (0 ≤ g' ∧ g' < 400) → g' ≠ g → (e.2 4 (2 * g') = e0.2 4 (2 * g') ∧ e.2 4 (2 * g' + 1) = e0.2 4 (2 * g' + 1) ∧ e.2 5 g' = e0.2 5 g' ∧ e.2 6 g' = e0.2 6 g' ∧ e.2 8 g' = e0.2 8 g') ∧ (∀ s k, gin 2 11 s k → e.2 7 (22 * g' + 11 * s + k) = e0.2 7 (22 * g' + 11 * s + k)) ∧ ∀ t, inL 4 t → e.2 9 (4 * g' + t) = e0.2 9 (4 * g' + t) ∧ ∀ o, inL 130 o → rwT e g' t o = rwT e0 g' t o) ∧ ∀ r, 0 ≤ r → r < e0.1 11 → e.2 12 r = e0.2 12 r ∧ e.2 13 r = e0.2 13 r ∧ ∀ i, inL 40 i → e.2 14 (40 * r + i) = e0.2 14 (40 * r + i)
section Mrd
variable {e e0 : mE} {A : Bk} {g : Int32}
theorem FrR.refl (e : mE) (g : Int32) : FrR e g e := ⟨fun _ _ _ _ => rfl, Int32.le_refl _, fun _ _ _ => rfl, fun _ _ _ => ⟨⟨rfl, rfl, rfl, rfl, rfl⟩, fun _ _ _ => rfl, fun _ _ => ⟨rfl, fun _ _ => rfl⟩⟩, fun _ _ _ => ⟨rfl, rfl, fun _ _ => rfl⟩⟩
/-- the book is still there, once the count of rows is in bounds -/
theorem FrR.mr (F : FrR e0 g e) (r : MR e0 A) (ok : BkOK A) (hg : ∀ g', inL A.games g' → g' ≠ g) (h11 : e.1 11 ≤ 5800) : MR e A := by
  obtain ⟨f1, f2, f3, f4, f5⟩ := F
  obtain ⟨⟨a1, a2, a3, a4, a5, a6⟩, ⟨b1, b2, b3⟩, d, w, u, v⟩ := r
  have rw2 : ∀ g' t' o', inO A g' t' o' → rwT e g' t' o' = rwT e0 g' t' o' := fun g' t' o' q => ((f4 g' (g400 ok q.1) (hg g' q.1)).2.2 t' ⟨q.2.1.1, t_lt4 ok q.1 q.2.1⟩).2 o' (many130 ok q.1 q.2.1 q.2.2)
  refine ⟨⟨(f1 1 (by decide) (by decide) (by decide)).trans a1, (f1 2 (by decide) (by decide) (by decide)).trans a2, (f1 16 (by decide) (by decide) (by decide)).trans a3, (f1 18 (by decide) (by decide) (by decide)).trans a4, (f1 19 (by decide) (by decide) (by decide)).trans a5, (f1 20 (by decide) (by decide) (by decide)).trans a6⟩, ⟨fun i hi => (f3 3 (by omega) i).trans (b1 i hi), fun i hi => (f3 15 (by omega) i).trans (b2 i hi), fun i hi => (f3 17 (by omega) i).trans (b3 i hi)⟩, fun g' hg' => ?_, ⟨i32_tr w.1 f2, h11⟩, fun g1 t1 o1 g3 t3 o3 p q h => u _ _ _ _ _ _ p q (by rw [← rw2 _ _ _ p, ← rw2 _ _ _ q]; exact h), HMo.cg (e := e0) (d := 0) _ _ (fun n _ => ⟨fun j j0 j1 => f3 j (by omega) _, fun i _ => f3 27 (by omega) _⟩) (fun q hq t o a b => rw2 _ _ _ ⟨(ok.2.2.2.2.2.2.2.2 q hq).1, a, b⟩) v⟩
  obtain ⟨y1, y2, y3, y4, y5, y6, y7⟩ := d g' hg'
  obtain ⟨⟨z1, z2, z3, z4, z5⟩, z6, z7⟩ := f4 g' (g400 ok hg') (hg g' hg')
  refine ⟨z1.trans y1, z2.trans y2, fun s k c => (z6 s k c).trans (y3 s k c), z3.trans y4, z4.trans y5, z5.trans y6, fun t ht => ⟨(z7 t ⟨ht.1, t_lt4 ok hg' ht⟩).1.trans (y7 t ht).1, fun o ho => ?_⟩⟩
  obtain ⟨x1, x2, x3, x4⟩ := (y7 t ht).2 o ho
  rw [rw2 g' t o ⟨hg', ht, ho⟩]
  obtain ⟨w1, w2, w3⟩ := f5 _ x1.1 x1.2
  have sz := (ok.ov (⟨hg', ht, ho⟩ : inO A g' t o)).2.1.2
  exact ⟨⟨x1.1, Int32.lt_of_lt_of_le x1.2 f2⟩, w1.trans x2, w2.trans x3, fun i hi => (w3 i (inL40 sz hi)).trans (x4 i hi)⟩
/-- the reader stands at r -/
def RdM (e0 : mE) (g n : Int32) (f : Int32 → Int32) (r : Rh) (e : mE) : Prop := FrR e0 g e ∧ (e.1 65 = r.1 ∧ e.1 66 = n ∧ e.1 69 = r.2) ∧ rIn n r ∧ n ≤ 6000 ∧ ∀ i, inL n i → e0.2 15 i = f i
/-- only ints of the reader's have changed -/
def rdE (e e' : mE) : Prop := (∀ k, k ≠ 65 → k ≠ 69 → e'.1 k = e.1 k) ∧ e'.2 = e.2
theorem rdE.refl (e : mE) : rdE e e := ⟨fun _ _ _ => rfl, rfl⟩
theorem FrR.rd {e' : mE} (F : FrR e0 g e) (h : rdE e e') : FrR e0 g e' := by
  obtain ⟨h1, h2⟩ := h
  obtain ⟨f1, f2, f3, f4, f5⟩ := F
  unfold FrR rwT
  unfold rwT at f4
  rw [h2, h1 11 (by decide) (by decide)]
  exact ⟨fun k k0 k1 k2 => (h1 k (by omega) (by omega)).trans (f1 k k0 k1 k2), f2, f3, f4, f5⟩
theorem m_read {n lo hi : Int32} {f : Int32 → Int32} {r : Rh} (q : RdM e0 g n f r e) : Rn (P_X12_read lo hi e) (fun y => y.1 = (rNext f n lo hi r).1 ∧ RdM e0 g n f (rNext f n lo hi r).2 y.2 ∧ rdE e y.2) := by
  obtain ⟨F, ⟨h65, h66, h69⟩, hin, n6, hf⟩ := q
  have IN := rNext_in (f := f) (lo := lo) (hi := hi) hin
  have tape : ∀ i, inL n i → e.2 15 i = f i := fun i hi => (F.2.2.1 15 (by omega) i).trans (hf i hi)
  unfold P_X12_read P_X12_read_46
  have bad : ∀ (c : r.2 = 0) (h : ¬ (r.1 < n ∧ lo ≤ f r.1 ∧ f r.1 ≤ hi)), Rn (bd (mS e 69 1) fun e2 => some (lo, e2)) (fun y => y.1 = (rNext f n lo hi r).1 ∧ RdM e0 g n f (rNext f n lo hi r).2 y.2 ∧ rdE e y.2) := fun c h => by
    have ev : rNext f n lo hi r = (lo, (r.1, 1)) := by
      unfold rNext
      rw [if_pos c, if_neg h]
    rw [ev]
    have D : rdE e (mS e 69 1) := ⟨fun k _ n2 => if_neg n2, rfl⟩
    exact rn_bd (rn_s ⟨rfl, ⟨F.rd D, ⟨h65, h66, rfl⟩, hin, n6, hf⟩, D⟩)
  rw [h69, h65, h66]
  by_cases c : r.2 = 0
  rotate_left
  · rw [if_neg c, rNext_bad c]
    exact rn_s ⟨rfl, ⟨F, ⟨h65, h66, h69⟩, hin, n6, hf⟩, rdE.refl e⟩
  rw [if_pos c]
  by_cases c1 : r.1 = n
  · rw [if_pos c1]
    exact bad c (fun z => lt_ne z.1 c1)
  have lt : r.1 < n := by
    have a := Int32.le_iff_toInt_le.mp hin.2
    have b : r.1.toInt ≠ n.toInt := fun z => c1 (Int32.toInt_inj.mp z)
    exact Int32.lt_iff_toInt_lt.mpr (by omega)
  have b6 : (0 : Int32) ≤ r.1 ∧ r.1 < 6000 := ⟨hin.1, Int32.lt_of_lt_of_le lt n6⟩
  rw [if_neg c1, tape r.1 ⟨hin.1, lt⟩]
  refine rn_ck b6 (rn_i (fun c2 => bad c (fun z => absurd z.2.1 (Int32.not_le.mpr c2))) (fun c2 => rn_ck b6 (rn_i (fun c3 => ?_) (fun c3 => bad c (fun z => c3 z.2.2)))))
  have ev : rNext f n lo hi r = (f r.1, (r.1 + 1, 0)) := by
    unfold rNext
    rw [if_pos c, if_pos ⟨lt, Int32.not_lt.mp c2, c3⟩]
  rw [ev] at IN ⊢
  have D : rdE e (mS e 65 (r.1 + 1)) := ⟨fun k n1 _ => if_neg n1, rfl⟩
  refine rn_bd ?_
  have e65 : (mS e 65 (r.1 + 1)).1 65 = r.1 + 1 := rfl
  rw [e65, pred1]
  refine rn_ck b6 (rn_s ⟨tape r.1 ⟨hin.1, lt⟩, ⟨F.rd D, ⟨rfl, h66, ?_⟩, IN, n6, hf⟩, D⟩)
  show e.1 69 = 0
  rw [h69]; exact c
end Mrd
