/-! Rows of ints by an Int32's place; tables of numbers (Grid) -/
def rdA (h : aH) (a : Nat) (i : Int32) : Int32 := if 0 ≤ i then hI h a i.toNatClampNeg else 0
theorem rdA_of {h : aH} {a : Nat} {i : Int32} (hi : 0 ≤ i) : rdA h a i = hI h a i.toNatClampNeg := if_pos hi
/-- write at an Int32's place -/
def wrA (h : aH) (a : Nat) (i v : Int32) : aH := sI h a i.toNatClampNeg v
theorem rdA_wr {h : aH} {a b : Nat} {i j v : Int32} (hi : 0 ≤ i) : rdA (wrA h a i v) b j = if b = a ∧ j = i then v else rdA h b j := by
  unfold rdA wrA
  by_cases hj : 0 ≤ j
  · rw [if_pos hj, if_pos hj]
    show (if b = a ∧ j.toNatClampNeg = i.toNatClampNeg then v else hI h b j.toNatClampNeg) = _
    by_cases hc : b = a ∧ j = i
    · rw [if_pos hc, if_pos ⟨hc.1, by rw [hc.2]⟩]
    · rw [if_neg hc, if_neg (fun q => hc ⟨q.1, tnc_inj hj hi q.2⟩)]
  · rw [if_neg hj, if_neg hj, if_neg (fun q => hj (by rw [q.2]; exact hi))]
theorem ck_t {P : Prop} [Decidable P] (hp : P) {β : Type} {f : Unit → Option β} : (ck P).bind f = f () := glr_ck hp
theorem bd_e {α β : Type} {x : α} {f : α → Option β} : bd x f = f x := rfl
/-- the heap's structure is the same: kinds, references, lengths, longs, sizes -/
def sst (h h' : aH) : Prop := h'.1 = h.1 ∧ h'.2.2.1 = h.2.2.1 ∧ h'.2.2.2.1 = h.2.2.2.1 ∧ h'.2.2.2.2.2 = h.2.2.2.2.2
theorem sst.refl (h : aH) : sst h h := ⟨rfl, rfl, rfl, rfl⟩
theorem sst.trans {h h1 h2 : aH} (a : sst h h1) (b : sst h1 h2) : sst h h2 := ⟨b.1.trans a.1, b.2.1.trans a.2.1, b.2.2.1.trans a.2.2.1, b.2.2.2.trans a.2.2.2⟩
theorem sst.K {h h' : aH} (a : sst h h') : hK h' = hK h := a.1
theorem sst.G {h h' : aH} (a : sst h h') : hG h' = hG h := a.2.1
theorem sst.N {h h' : aH} (a : sst h h') : hN h' = hN h := a.2.2.1
theorem sst.J {h h' : aH} (a : sst h h') : hJ h' = hJ h := congrArg (fun q => q.1) a.2.2.2
theorem sst.O {h h' : aH} (a : sst h h') : hO h' = hO h := congrArg (fun q => q.2.1) a.2.2.2
theorem sst.z {h h' : aH} (a : sst h h') : hz h' = hz h := congrArg (fun q => q.2.2.1) a.2.2.2
theorem sst.s {h h' : aH} (a : sst h h') : hs h' = hs h := congrArg (fun q => q.2.2.2.1) a.2.2.2
theorem sst.E {h h' : aH} (a : sst h h') : hE h' = hE h := congrArg (fun q => q.2.2.2.2) a.2.2.2
theorem sst_sF {h : aH} {f a : Nat} {v : Int32} : sst h (sF h f a v) := ⟨rfl, rfl, rfl, rfl⟩
theorem sst_wr {h : aH} {a : Nat} {i v : Int32} : sst h (wrA h a i v) := ⟨rfl, rfl, rfl, rfl⟩
/-- only ints in the region [lo, lo+n) have changed -/
def frn (lo n : Nat) (h h' : aH) : Prop := sst h h' ∧ ∀ a, ¬ (lo ≤ a ∧ a < lo + n) → (∀ f, hF h' f a = hF h f a) ∧ ∀ i, hI h' a i = hI h a i
theorem frn.refl (lo n : Nat) (h : aH) : frn lo n h h := ⟨sst.refl h, fun _ _ => ⟨fun _ => rfl, fun _ => rfl⟩⟩
theorem frn.trans {lo n : Nat} {h h1 h2 : aH} (a : frn lo n h h1) (b : frn lo n h1 h2) : frn lo n h h2 := ⟨a.1.trans b.1, fun q hq => ⟨fun f => ((b.2 q hq).1 f).trans ((a.2 q hq).1 f), fun i => ((b.2 q hq).2 i).trans ((a.2 q hq).2 i)⟩⟩
theorem frn.wide {lo n lo' n' : Nat} {h h' : aH} (a : frn lo n h h') (h1 : lo' ≤ lo) (h2 : lo + n ≤ lo' + n') : frn lo' n' h h' := ⟨a.1, fun q hq => a.2 q (fun z => hq ⟨by omega, by omega⟩)⟩
theorem frn_sF {lo n : Nat} {h : aH} {f a : Nat} {v : Int32} (ha : lo ≤ a ∧ a < lo + n) : frn lo n h (sF h f a v) := ⟨sst_sF, fun q hq => ⟨fun f' => if_neg (fun z => hq (by rw [z.2]; exact ha)), fun _ => rfl⟩⟩
theorem frn_wr {lo n : Nat} {h : aH} {a : Nat} {i v : Int32} (ha : lo ≤ a ∧ a < lo + n) : frn lo n h (wrA h a i v) := ⟨sst_wr, fun q hq => ⟨fun _ => rfl, fun i' => if_neg (fun z => hq (by rw [z.1]; exact ha))⟩⟩
theorem frn.F {lo n : Nat} {h h' : aH} (a : frn lo n h h') {q : Nat} (hq : ¬ (lo ≤ q ∧ q < lo + n)) (f : Nat) : hF h' f q = hF h f q := (a.2 q hq).1 f
theorem frn.A {lo n : Nat} {h h' : aH} (a : frn lo n h h') {q : Nat} (hq : ¬ (lo ≤ q ∧ q < lo + n)) (i : Int32) : rdA h' q i = rdA h q i := by
  unfold rdA
  by_cases hi : 0 ≤ i
  · rw [if_pos hi, if_pos hi]; exact (a.2 q hq).2 _
  · rw [if_neg hi, if_neg hi]
theorem fr.frn {t : Nat} {h h' : aH} (a : fr t h h') : frn t 55 h h' := ⟨⟨a.1, a.2.1, a.2.2.1, a.2.2.2.1⟩, a.2.2.2.2⟩
/-- a table at g: its cells lie behind it -/
def GrS (h : aH) (g : Nat) (R C N : Int32) : Prop := hK h g = 6 ∧ hF h 500 g = R ∧ hF h 501 g = C ∧ hG h 502 g = some (g + 1) ∧ hK h (g + 1) = 21 ∧ (hN h (g + 1) : Int) = N.toInt
def GIx (R C N : Int32) : Prop := ∀ r c : Int32, 0 ≤ r → r < R → 0 ≤ c → c < C → 0 ≤ r * C + c ∧ r * C + c < N
theorem in_nat {n : Nat} {i m : Int32} (hm : (n : Int) = m.toInt) (c : (0 : Int32) ≤ i ∧ i < m) : inR i n := by
  have h1 := Int32.le_iff_toInt_le.mp c.1
  have h2 := Int32.lt_iff_toInt_lt.mp c.2
  have h3 : (0 : Int32).toInt = 0 := by decide
  intro q
  rcases q with q | q
  · have := Int32.lt_iff_toInt_lt.mp q
    omega
  · have h4 : (i.toNatClampNeg : Int) = i.toInt := by
      show ((i.toInt.toNat : Nat) : Int) = i.toInt
      omega
    omega
theorem i32_nlt {a b : Int32} : ¬ a < b ↔ b ≤ a := Int32.not_lt
theorem i32_nle {a b : Int32} : ¬ a ≤ b ↔ b < a := Int32.not_le
section Grid
variable {h : aH} {g : Nat} {R C N : Int32}
theorem gr_has (hg : GrS h g R C N) (r c : Int32) : F_X4_has g r c h = some (if 0 ≤ r ∧ r < R ∧ 0 ≤ c ∧ c < C then 1 else 0, h) := by
  obtain ⟨g1, g2, g3, g4, g5, g6⟩ := hg
  unfold F_X4_has
  rw [g2, g3]
  by_cases h1 : r < 0
  · rw [if_pos h1, if_neg (fun q => by have := q.1; grind)]
  · rw [if_neg h1]
    by_cases h2 : R ≤ r
    · rw [if_pos h2, if_neg (fun q => by have := q.2.1; grind)]
    · rw [if_neg h2]
      by_cases h3 : c < 0
      · rw [if_pos h3, if_neg (fun q => by have := q.2.2.1; grind)]
      · rw [if_neg h3]
        by_cases h4 : C ≤ c
        · rw [if_pos h4, if_neg (fun q => by have := q.2.2.2; grind)]
        · rw [if_neg h4, if_pos ⟨by grind, by grind, by grind, by grind⟩]
theorem gr_at (hg : GrS h g R C N) (hi : GIx R C N) (r c : Int32) : F_X4_at g r c h = some (if 0 ≤ r ∧ r < R ∧ 0 ≤ c ∧ c < C then rdA h (g + 1) (r * C + c) else 0, h) := by
  unfold F_X4_at
  rw [gr_has hg]
  obtain ⟨g1, g2, g3, g4, g5, g6⟩ := hg
  simp only [Option.bind_some, bd_e]
  by_cases hc : 0 ≤ r ∧ r < R ∧ 0 ≤ c ∧ c < C
  · have hx := hi r c hc.1 hc.2.1 hc.2.2.1 hc.2.2.2
    rw [if_pos hc, if_pos hc, if_neg (by decide), ck_t g1, g4, Option.bind_some, g3, ck_t ⟨g5, in_nat g6 hx⟩, rdA_of hx.1]
  · rw [if_neg hc, if_neg hc, if_pos rfl]
theorem gr_set (hg : GrS h g R C N) (hi : GIx R C N) (r c v : Int32) : F_X4_set g r c v h = some (if 0 ≤ r ∧ r < R ∧ 0 ≤ c ∧ c < C then wrA h (g + 1) (r * C + c) v else h) := by
  unfold F_X4_set
  rw [gr_has hg]
  obtain ⟨g1, g2, g3, g4, g5, g6⟩ := hg
  simp only [Option.bind_some, bd_e]
  by_cases hc : 0 ≤ r ∧ r < R ∧ 0 ≤ c ∧ c < C
  · have hx := hi r c hc.1 hc.2.1 hc.2.2.1 hc.2.2.2
    rw [if_pos hc, if_pos hc, if_neg (by decide), ck_t g1, g4, Option.bind_some, g3, ck_t ⟨g5, in_nat g6 hx⟩]
    rfl
  · rw [if_neg hc, if_neg hc, if_pos rfl]
theorem gr_ad0 (hg : GrS h g R C N) (hi : GIx R C N) (r c v : Int32) : F_X4_add g r c v h = some (if 0 ≤ r ∧ r < R ∧ 0 ≤ c ∧ c < C then wrA h (g + 1) (r * C + c) (rdA h (g + 1) (r * C + c) + v) else h) := by
  unfold F_X4_add
  rw [gr_has hg]
  obtain ⟨g1, g2, g3, g4, g5, g6⟩ := hg
  simp only [Option.bind_some, bd_e]
  by_cases hc : 0 ≤ r ∧ r < R ∧ 0 ≤ c ∧ c < C
  · have hx := hi r c hc.1 hc.2.1 hc.2.2.1 hc.2.2.2
    rw [if_pos hc, if_pos hc, if_neg (by decide), ck_t g1, g4, Option.bind_some, g3, ck_t ⟨g5, in_nat g6 hx⟩, rdA_of hx.1]
    rfl
  · rw [if_neg hc, if_neg hc, if_pos rfl]
theorem GrS.mv {h' : aH} (hg : GrS h g R C N) (s : sst h h') (hf : ∀ f, hF h' f g = hF h f g) : GrS h' g R C N := by
  obtain ⟨g1, g2, g3, g4, g5, g6⟩ := hg
  exact ⟨by rw [s.K]; exact g1, by rw [hf]; exact g2, by rw [hf]; exact g3, by rw [s.G]; exact g4, by rw [s.K]; exact g5, by rw [s.N]; exact g6⟩
theorem GrS.wr {a : Nat} {i v : Int32} (hg : GrS h g R C N) : GrS (wrA h a i v) g R C N := hg.mv sst_wr (fun _ => rfl)
end Grid
theorem gix_11_3 : GIx 11 3 33 := by intro r c h1 h2 h3 h4; constructor <;> grind
theorem gix_120_5 : GIx 120 5 600 := by intro r c h1 h2 h3 h4; constructor <;> grind
theorem gix_2_11 : GIx 2 11 22 := by intro r c h1 h2 h3 h4; constructor <;> grind
theorem gix_4_6 : GIx 4 6 24 := by intro r c h1 h2 h3 h4; constructor <;> grind
theorem gix_60_30 : GIx 60 30 1800 := by intro r c h1 h2 h3 h4; constructor <;> grind
