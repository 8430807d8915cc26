/-! The reference's steps and the class's are one -/
theorem gS_gS {R C r c x y : Int32} {f : Int32 → Int32 → Int32} : gS R C (gS R C f r c x) r c y = gS R C f r c y := by
  funext r' c'
  unfold gS
  by_cases h : gin R C r c ∧ r' = r ∧ c' = c
  · rw [if_pos h, if_pos h]
  · rw [if_neg h, if_neg h, if_neg h]
theorem gS_at {R C r c x : Int32} {f : Int32 → Int32 → Int32} (h : gin R C r c) : gS R C f r c x r c = x := if_pos ⟨h, rfl, rfl⟩
theorem gS_ne {R C r c r' c' x : Int32} {f : Int32 → Int32 → Int32} (h : ¬ (r' = r ∧ c' = c)) : gS R C f r c x r' c' = f r' c' := if_neg (fun q => h q.2)
theorem gA_gA {R C r c x y : Int32} {f : Int32 → Int32 → Int32} (h : gin R C r c) : gAd R C (gAd R C f r c x) r c y = gAd R C f r c (x + y) := by
  rw [gAd, gAd, gAd, gS_gS, gS_at h]
  congr 1
  grind
theorem gA_zero {R C r c : Int32} {f : Int32 → Int32 → Int32} : gAd R C f r c 0 = f := by
  funext r' c'
  rw [gAd]
  unfold gS
  split
  · rename_i h; rw [h.2.1, h.2.2]; grind
  · rfl
theorem gS_comm {R C r c c' x y : Int32} {f : Int32 → Int32 → Int32} (h : c ≠ c') : gS R C (gS R C f r c x) r c' y = gS R C (gS R C f r c' y) r c x := by
  funext r1 c1
  unfold gS
  by_cases h1 : gin R C r c' ∧ r1 = r ∧ c1 = c'
  · rw [if_pos h1]
    by_cases h2 : gin R C r c ∧ r1 = r ∧ c1 = c
    · exact absurd (h2.2.2.symm.trans h1.2.2) h
    · rw [if_neg h2, if_pos h1]
  · rw [if_neg h1]
    by_cases h2 : gin R C r c ∧ r1 = r ∧ c1 = c
    · rw [if_pos h2, if_pos h2]
    · rw [if_neg h2, if_neg h2, if_neg h1]
theorem gA_comm {R C r c c' x y : Int32} {f : Int32 → Int32 → Int32} (h : c ≠ c') : gAd R C (gAd R C f r c x) r c' y = gAd R C (gAd R C f r c' y) r c x := by
  rw [gAd, gAd, gAd, gAd, gS_comm h, gS_ne (fun q => h q.2.symm), gS_ne (fun q => h q.2)]
theorem v16 {v : Int32} (h0 : 0 ≤ v) (h1 : v ≤ 15) : ∃ n : Nat, n < 16 ∧ v = Int32.ofNat n := by
  have a0 := Int32.le_iff_toInt_le.mp h0
  have a1 := Int32.le_iff_toInt_le.mp h1
  have e0 : (0 : Int32).toInt = 0 := by decide
  have e1 : (15 : Int32).toInt = 15 := by decide
  refine ⟨v.toInt.toNat, by omega, ?_⟩
  apply Int32.toInt_inj.mp
  have h2 : (Int32.ofNat v.toInt.toNat).toInt = (v.toInt.toNat : Int).bmod (2 ^ 32) := Int32.toInt_ofNat
  rw [h2, Int.bmod_eq_of_le (by omega) (by omega)]
  omega
theorem odd16 : ∀ n, n < 16 → ((Int32.ofNat n - Int32.ofNat n / 2 * 2 = 1) ↔ ¬ (Int32.ofNat n - Int32.ofNat n / 2 * 2 = 0)) := by decide +kernel
theorem half16 : ∀ n, n < 16 → 0 ≤ Int32.ofNat n / 2 ∧ Int32.ofNat n / 2 ≤ 7 := by decide +kernel
theorem Ty.rCross_eq (T : Ty) {v : Int32} (h0 : 0 ≤ v) (h1 : v ≤ 15) : T.rCross v = T.cross v := by
  obtain ⟨n, hn, rfl⟩ := v16 h0 h1
  unfold Ty.rCross Ty.cross
  have := odd16 n hn
  by_cases c : Int32.ofNat n - Int32.ofNat n / 2 * 2 = 0
  · rw [if_pos c, if_neg (fun q => this.mp q c)]
  · rw [if_neg c, if_pos (this.mpr c)]
theorem Ty.cross_ov (T : Ty) (v : Int32) (f : Int32 → Int32 → Int32) : (T.sOv f).cross v = (T.cross v).sOv f := by
  unfold Ty.cross
  split <;> rfl
theorem Ty.cross_k (T : Ty) (v : Int32) : (T.cross v).ov = T.ov ∧ (T.cross v).begun = T.begun ∧ (T.cross v).score = T.score ∧ (T.cross v).counted = T.counted ∧ (T.cross v).whole = T.whole ∧ (T.cross v).bow = T.bow ∧ (T.cross v).bat = T.bat := by
  unfold Ty.cross
  split <;> exact ⟨rfl, rfl, rfl, rfl, rfl, rfl, rfl⟩
theorem Ty.leave_k (T : Ty) (wf how : Int32) : (T.leave wf how).ov = gAd 120 5 T.ov (T.begun - 1) 1 1 ∧ (T.leave wf how).begun = T.begun ∧ (T.leave wf how).score = T.score ∧ (T.leave wf how).counted = T.counted ∧ (T.leave wf how).whole = T.whole ∧ (T.leave wf how).bow = T.bow := by
  unfold Ty.leave Ty.leave1 Ty.fin
  by_cases c1 : wf = 0
  · simp only [if_pos c1]
    split <;> exact ⟨rfl, rfl, rfl, rfl, rfl, rfl⟩
  · simp only [if_neg c1]
    split <;> exact ⟨rfl, rfl, rfl, rfl, rfl, rfl⟩
theorem Ty.leave_ov (T : Ty) (wf how w : Int32) : (T.sOv (gAd 120 5 T.ov (T.begun - 1) 0 w)).leave wf how = (T.leave wf how).sOv (gAd 120 5 (T.leave wf how).ov (T.begun - 1) 0 w) := by
  rw [(Ty.leave_k T wf how).1, ← gA_comm (by decide)]
  have c0 : (T.sOv (gAd 120 5 T.ov (T.begun - 1) 0 w)).outs = T.outs := rfl
  unfold Ty.leave Ty.leave1 Ty.fin
  by_cases c1 : wf = 0
  · simp only [if_pos c1]
    by_cases c2 : 10 ≤ T.outs + 1
    · rw [if_pos (show 10 ≤ Ty.outs (Ty.sOv (Ty.sOuts (Ty.sBat (T.sOv (gAd 120 5 T.ov (T.begun - 1) 0 w)) _) ((T.sOv (gAd 120 5 T.ov (T.begun - 1) 0 w)).outs + 1)) _) from c2), if_pos (show 10 ≤ Ty.outs (Ty.sOv (Ty.sOuts (Ty.sBat T _) (T.outs + 1)) _) from c2)]
      refine Ty.ext2 (fun j => ?_) (fun j => ?_)
      · rfl
      · simp only [Ty.i1, Ty.i2, Ty.g1, Ty.g2, ↓reduceIte, Nat.reduceEqDiff]
        grind
    · rw [if_neg (show ¬ 10 ≤ Ty.outs (Ty.sOv (Ty.sOuts (Ty.sBat (T.sOv (gAd 120 5 T.ov (T.begun - 1) 0 w)) _) ((T.sOv (gAd 120 5 T.ov (T.begun - 1) 0 w)).outs + 1)) _) from c2), if_neg (show ¬ 10 ≤ Ty.outs (Ty.sOv (Ty.sOuts (Ty.sBat T _) (T.outs + 1)) _) from c2)]
      refine Ty.ext2 (fun j => ?_) (fun j => ?_)
      · rfl
      · simp only [Ty.i1, Ty.i2, Ty.g1, Ty.g2, ↓reduceIte, Nat.reduceEqDiff]
        grind
  · simp only [if_neg c1]
    by_cases c2 : 10 ≤ T.outs + 1
    · rw [if_pos (show 10 ≤ Ty.outs (Ty.sOv (Ty.sOuts (Ty.sBat (T.sOv (gAd 120 5 T.ov (T.begun - 1) 0 w)) _) ((T.sOv (gAd 120 5 T.ov (T.begun - 1) 0 w)).outs + 1)) _) from c2), if_pos (show 10 ≤ Ty.outs (Ty.sOv (Ty.sOuts (Ty.sBat T _) (T.outs + 1)) _) from c2)]
      refine Ty.ext2 (fun j => ?_) (fun j => ?_)
      · rfl
      · simp only [Ty.i1, Ty.i2, Ty.g1, Ty.g2, ↓reduceIte, Nat.reduceEqDiff]
        grind
    · rw [if_neg (show ¬ 10 ≤ Ty.outs (Ty.sOv (Ty.sOuts (Ty.sBat (T.sOv (gAd 120 5 T.ov (T.begun - 1) 0 w)) _) ((T.sOv (gAd 120 5 T.ov (T.begun - 1) 0 w)).outs + 1)) _) from c2), if_neg (show ¬ 10 ≤ Ty.outs (Ty.sOv (Ty.sOuts (Ty.sBat T _) (T.outs + 1)) _) from c2)]
      refine Ty.ext2 (fun j => ?_) (fun j => ?_)
      · rfl
      · simp only [Ty.i1, Ty.i2, Ty.g1, Ty.g2, ↓reduceIte, Nat.reduceEqDiff]
        grind
def Ty.late (s0 : Int32) (A : Ty) : Ty := A.sOv (gAd 120 5 A.ov (A.begun - 1) 0 (A.score - s0))
theorem Ty.late_same {s0 : Int32} {A : Ty} (h : A.score = s0) : A.late s0 = A := by
  unfold Ty.late
  rw [show A.score - s0 = 0 by grind, gA_zero]
  exact Ty.ext2 (fun j => rfl) (fun j => by rw [Ty.g2]; by_cases c : j = 2 <;> simp [c])
theorem Ty.rk0 {T : Ty} {v : Int32} (h0 : 0 ≤ v) (h1 : v ≤ 15) : (T.rHit v).rCross v = (T.hit v).late T.score := by
  rw [Ty.rCross_eq _ h0 h1]
  unfold Ty.late Ty.hit Ty.rHit Ty.rAdds Ty.cross Ty.chg
  have e : T.score + v - T.score = v := by grind
  split
  · refine Ty.ext2 (fun j => ?_) (fun j => ?_)
    · simp only [Ty.i1, Ty.i2, Ty.g1, Ty.g2, ↓reduceIte, Nat.reduceEqDiff]
      try grind
    · simp only [Ty.i1, Ty.i2, Ty.g1, Ty.g2, ↓reduceIte, Nat.reduceEqDiff]
      try grind
  · refine Ty.ext2 (fun j => ?_) (fun j => ?_)
    · simp only [Ty.i1, Ty.i2, Ty.g1, Ty.g2, ↓reduceIte, Nat.reduceEqDiff]
      try grind
    · simp only [Ty.i1, Ty.i2, Ty.g1, Ty.g2, ↓reduceIte, Nat.reduceEqDiff]
      try grind
theorem Ty.rk1 {T : Ty} {v : Int32} (h0 : 0 ≤ v) (h1 : v ≤ 15) : T.rWide v = (T.concede.nob v).late T.score := by
  rw [Ty.rWide, Ty.rCross_eq _ h0 h1]
  unfold Ty.late Ty.nob Ty.concede Ty.rAdds Ty.cross Ty.chg
  have e : T.score + 1 + v - T.score = v + 1 := by grind
  split
  · refine Ty.ext2 (fun j => ?_) (fun j => ?_)
    · simp only [Ty.i1, Ty.i2, Ty.g1, Ty.g2, ↓reduceIte, Nat.reduceEqDiff]
      try grind
    · simp only [Ty.i1, Ty.i2, Ty.g1, Ty.g2, ↓reduceIte, Nat.reduceEqDiff]
      try grind
  · refine Ty.ext2 (fun j => ?_) (fun j => ?_)
    · simp only [Ty.i1, Ty.i2, Ty.g1, Ty.g2, ↓reduceIte, Nat.reduceEqDiff]
      try grind
    · simp only [Ty.i1, Ty.i2, Ty.g1, Ty.g2, ↓reduceIte, Nat.reduceEqDiff]
      try grind
theorem Ty.rk2 {T : Ty} {v : Int32} (h0 : 0 ≤ v) (h1 : v ≤ 15) (gb : gin 11 3 T.bowler 1) (go : gin 120 5 (T.begun - 1) 0) : T.rFoul v = (T.concede.hit v).late T.score := by
  rw [Ty.rFoul, Ty.rCross_eq _ h0 h1]
  unfold Ty.late Ty.hit Ty.concede Ty.rHit Ty.rAdds Ty.cross Ty.chg
  have e : T.score + 1 + v - T.score = v + 1 := by grind
  have a1 := gA_gA (f := T.ov) (x := v) (y := 1) go
  have a2 := gA_gA (f := T.bow) (x := v) (y := 1) gb
  have a3 := gA_gA (f := T.bow) (x := 1) (y := v) gb
  have a4 : (1 : Int32) + v = v + 1 := by grind
  split
  · refine Ty.ext2 (fun j => ?_) (fun j => ?_)
    · simp only [Ty.i1, Ty.i2, Ty.g1, Ty.g2, ↓reduceIte, Nat.reduceEqDiff]
      try grind
    · simp only [Ty.i1, Ty.i2, Ty.g1, Ty.g2, ↓reduceIte, Nat.reduceEqDiff]
      try grind
  · refine Ty.ext2 (fun j => ?_) (fun j => ?_)
    · simp only [Ty.i1, Ty.i2, Ty.g1, Ty.g2, ↓reduceIte, Nat.reduceEqDiff]
      try grind
    · simp only [Ty.i1, Ty.i2, Ty.g1, Ty.g2, ↓reduceIte, Nat.reduceEqDiff]
      try grind
theorem Ty.rk6 {T : Ty} {v : Int32} (h0 : 0 ≤ v) (h1 : v ≤ 15) : T.rBye v = (T.nob v).late T.score := by
  rw [Ty.rBye, Ty.rCross_eq _ h0 h1]
  unfold Ty.late Ty.nob Ty.rAdds Ty.cross Ty.chg
  have e : T.score + v - T.score = v := by grind
  split
  · refine Ty.ext2 (fun j => ?_) (fun j => ?_)
    · simp only [Ty.i1, Ty.i2, Ty.g1, Ty.g2, ↓reduceIte, Nat.reduceEqDiff]
      try grind
    · simp only [Ty.i1, Ty.i2, Ty.g1, Ty.g2, ↓reduceIte, Nat.reduceEqDiff]
      try grind
  · refine Ty.ext2 (fun j => ?_) (fun j => ?_)
    · simp only [Ty.i1, Ty.i2, Ty.g1, Ty.g2, ↓reduceIte, Nat.reduceEqDiff]
      try grind
    · simp only [Ty.i1, Ty.i2, Ty.g1, Ty.g2, ↓reduceIte, Nat.reduceEqDiff]
      try grind
theorem Ty.rent2_eq {T : Ty} {k v : Int32} (h0 : 0 ≤ v) (h1 : v ≤ 15) (hb : HBow T) (hr : 0 ≤ T.begun - 1 ∧ T.begun - 1 < 120) : T.rent2 k v = (T.ent2 k v).late T.score := by
  have gb : gin 11 3 T.bowler 1 := ⟨hb.1, hb.2, by decide, by decide⟩
  have go : gin 120 5 (T.begun - 1) 0 := ⟨hr.1, hr.2, by decide, by decide⟩
  unfold Ty.rent2 Ty.ent2
  by_cases k0 : k = 0
  · simp only [if_pos k0]
    exact Ty.rk0 h0 h1
  simp only [if_neg k0]
  by_cases k1 : k = 1
  · simp only [if_pos k1]
    exact Ty.rk1 h0 h1
  simp only [if_neg k1]
  by_cases k2 : k = 2
  · simp only [if_pos k2]
    exact Ty.rk2 h0 h1 gb go
  simp only [if_neg k2]
  by_cases k3 : k = 3
  · simp only [if_pos k3]
    rw [Ty.late_same (s0 := T.score) ((Ty.leave_k (T.sBow (gAd 11 3 T.bow T.bowler 2 1)) 1 (2 + v)).2.2.1.trans rfl)]
  simp only [if_neg k3]
  by_cases k4 : k = 4
  · simp only [if_pos k4]
    obtain ⟨n, hn, e⟩ := v16 h0 h1
    have hh := half16 n hn
    rw [← e] at hh
    generalize v / 2 = w at hh ⊢
    have key : (T.rHit w).rCross w = (T.hit w).sOv (gAd 120 5 (T.hit w).ov ((T.hit w).begun - 1) 0 w) := by
      rw [Ty.rCross_eq _ hh.1 (by grind)]
      unfold Ty.hit Ty.rHit Ty.rAdds
      rw [Ty.cross_ov, (Ty.cross_k _ w).1, (Ty.cross_k _ w).2.1]
      rfl
    have hs : (T.hit w).score = T.score + w := (Ty.cross_k _ w).2.2.1
    have fin : ∀ wf, ((T.rHit w).rCross w).leave wf 6 = ((T.hit w).leave wf 6).late T.score := by
      intro wf
      rw [key, Ty.leave_ov]
      unfold Ty.late
      rw [(Ty.leave_k (T.hit w) wf 6).2.1, (Ty.leave_k (T.hit w) wf 6).2.2.1, hs, show T.score + w - T.score = w by grind]
    rw [fin, fin]
    split <;> rfl
  simp only [if_neg k4]
  by_cases k6 : k = 6
  · simp only [if_pos k6]
    exact Ty.rk6 h0 h1
  simp only [if_neg k6]
  by_cases k8 : k = 8
  · simp only [if_pos k8]
    rw [Ty.late_same (by rfl)]
    unfold Ty.rRain Ty.away Ty.left
    show Ty.sMeans _ (T.means - (tb (6 * T.allowed - 6 * T.whole - T.counted) T.outs - tb (6 * (T.allowed - v) - 6 * T.whole - T.counted) T.outs)) = Ty.sMeans _ (T.means - (tb (6 * (T.allowed - T.whole) - T.counted) T.outs - tb (6 * (T.allowed - v - T.whole) - T.counted) T.outs))
    rw [show 6 * T.allowed - 6 * T.whole - T.counted = 6 * (T.allowed - T.whole) - T.counted by grind, show 6 * (T.allowed - v) - 6 * T.whole - T.counted = 6 * (T.allowed - v - T.whole) - T.counted by grind]
  simp only [if_neg k8]
  rw [Ty.late_same rfl]
theorem Ty.ent2_k (T : Ty) (k v : Int32) : (T.ent2 k v).begun = T.begun ∧ (T.ent2 k v).counted = T.counted ∧ (T.ent2 k v).whole = T.whole ∧ (∀ o c, c ≠ 1 → (T.ent2 k v).ov o c = T.ov o c) ∧ ∀ o c, o ≠ T.begun - 1 → (T.ent2 k v).ov o c = T.ov o c := by
  have lv : ∀ (U : Ty) wf how, U.begun = T.begun → U.counted = T.counted → U.whole = T.whole → U.ov = T.ov → (U.leave wf how).begun = T.begun ∧ (U.leave wf how).counted = T.counted ∧ (U.leave wf how).whole = T.whole ∧ (∀ o c, c ≠ 1 → (U.leave wf how).ov o c = T.ov o c) ∧ ∀ o c, o ≠ T.begun - 1 → (U.leave wf how).ov o c = T.ov o c := by
    intro U wf how e1 e2 e3 e4
    obtain ⟨k1, k2, k3, k4, k5, k6⟩ := Ty.leave_k U wf how
    refine ⟨k2.trans e1, k4.trans e2, k5.trans e3, ?_, ?_⟩
    · intro o c hc; rw [k1, gAd, gS_ne (fun q => hc q.2), e4]
    · intro o c hc; rw [k1, gAd, gS_ne (fun q => hc (by rw [q.1, e1])), e4]
  have cr : ∀ (U : Ty) w, U.begun = T.begun → U.counted = T.counted → U.whole = T.whole → U.ov = T.ov → (U.cross w).begun = T.begun ∧ (U.cross w).counted = T.counted ∧ (U.cross w).whole = T.whole ∧ (U.cross w).ov = T.ov := by
    intro U w e1 e2 e3 e4
    obtain ⟨k1, k2, k3, k4, k5, k6, k7⟩ := Ty.cross_k U w
    exact ⟨k2.trans e1, k4.trans e2, k5.trans e3, k1.trans e4⟩
  have up : ∀ (U : Ty), U.begun = T.begun → U.counted = T.counted → U.whole = T.whole → U.ov = T.ov → U.begun = T.begun ∧ U.counted = T.counted ∧ U.whole = T.whole ∧ (∀ o c, c ≠ 1 → U.ov o c = T.ov o c) ∧ ∀ o c, o ≠ T.begun - 1 → U.ov o c = T.ov o c := fun U e1 e2 e3 e4 => ⟨e1, e2, e3, fun o c _ => by rw [e4], fun o c _ => by rw [e4]⟩
  unfold Ty.ent2
  have hh : ∀ w, (T.hit w).begun = T.begun ∧ (T.hit w).counted = T.counted ∧ (T.hit w).whole = T.whole ∧ (T.hit w).ov = T.ov := fun w => cr _ w rfl rfl rfl rfl
  repeat' split
  · exact up _ (hh v).1 (hh v).2.1 (hh v).2.2.1 (hh v).2.2.2
  · obtain ⟨a, b, c, d⟩ := cr (((T.concede.sNobodys (T.concede.nobodys + v)).sExtras (T.concede.extras + v)).sScore (T.concede.score + v)) v rfl rfl rfl rfl
    exact up _ a b c d
  · obtain ⟨a, b, c, d⟩ := cr (((T.concede.sBat (gAd 11 3 T.concede.bat T.concede.faces 0 v)).sBow (gAd 11 3 T.concede.bow T.concede.bowler 1 v)).sScore (T.concede.score + v)) v rfl rfl rfl rfl
    exact up _ a b c d
  · exact lv _ _ _ rfl rfl rfl rfl
  · exact lv _ _ _ (hh _).1 (hh _).2.1 (hh _).2.2.1 (hh _).2.2.2
  · exact lv _ _ _ (hh _).1 (hh _).2.1 (hh _).2.2.1 (hh _).2.2.2
  · obtain ⟨a, b, c, d⟩ := cr (((T.sNobodys (T.nobodys + v)).sExtras (T.extras + v)).sScore (T.score + v)) v rfl rfl rfl rfl
    exact up _ a b c d
  · exact up _ rfl rfl rfl rfl
  · exact up _ rfl rfl rfl rfl
theorem Ty.ent1_k (T : Ty) (k : Int32) : (T.ent1 k).begun = T.begun ∧ (T.ent1 k).counted = T.counted ∧ (T.ent1 k).whole = T.whole ∧ (T.ent1 k).ov = T.ov ∧ (T.ent1 k).score = T.score ∧ (T.ent1 k).bowler = T.bowler := by
  unfold Ty.ent1
  split <;> exact ⟨rfl, rfl, rfl, rfl, rfl, rfl⟩
/-- the reference's entry is the class's -/
theorem Ty.rent_eq {T : Ty} {c : Int32} (h0 : 0 ≤ c - c / 16 * 16) (h1 : c - c / 16 * 16 ≤ 15) (hb : HBow T) (hr : 0 ≤ T.begun - 1 ∧ T.begun - 1 < 120) (hc : T.counted ≠ 6) (hk : kc (c / 16) → T.ov (T.begun - 1) 2 = T.counted) : ((T.ent1 (c / 16)).rent2 (c / 16) (c - c / 16 * 16)).rent3 (c / 16) = T.ent c := by
  obtain ⟨p1, p2, p3, p4, p5, p6⟩ := Ty.ent1_k T (c / 16)
  rw [Ty.rent2_eq h0 h1 (by rw [HBow, p6]; exact hb) (by rw [p1]; exact hr), p5]
  unfold Ty.ent Ty.ent3
  generalize c - c / 16 * 16 = v
  generalize c / 16 = k at *
  obtain ⟨q1, q2, q3, q4, q5⟩ := Ty.ent2_k (T.ent1 k) k v
  generalize hA : (T.ent1 k).ent2 k v = A at *
  have e0 : A.sOv (gAd 120 5 A.ov (A.begun - 1) 0 (A.score - T.score)) = A.late T.score := rfl
  rw [e0]
  have ec : (A.late T.score).counted = T.counted := q2.trans p2
  have eb : (A.late T.score).begun = T.begun := q1.trans p1
  have eo : (A.late T.score).ov (T.begun - 1) 2 = T.ov (T.begun - 1) 2 := by
    show gAd 120 5 A.ov (A.begun - 1) 0 (A.score - T.score) (T.begun - 1) 2 = _
    rw [gAd, gS_ne (fun q => absurd q.2 (by decide)), q4 _ _ (by decide), p4]
  generalize A.late T.score = X at *
  unfold Ty.rent3
  by_cases c1 : kc k
  · rw [if_pos c1, if_pos c1]
    have go : gin 120 5 (T.begun - 1) 2 := ⟨hr.1, hr.2, by decide, by decide⟩
    have e1 : X.rCount = X.ent3b := by
      unfold Ty.rCount Ty.ent3b
      rw [gAd, eb, eo, hk c1, ec]
      rfl
    have e2 : X.ent3b.ov (X.begun - 1) 2 = X.ent3b.counted := by
      show gS 120 5 X.ov (X.begun - 1) 2 (X.counted + 1) (X.begun - 1) 2 = X.counted + 1
      rw [eb]
      exact gS_at go
    rw [e1, e2]
    rfl
  · rw [if_neg c1, if_neg c1]
    unfold Ty.ent4
    rw [if_neg (by rw [ec]; exact hc)]
