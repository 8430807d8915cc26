/-! The rules of an entry; what holds goes on to hold -/
theorem ruleE0 {T : Ty} {c rn : Int32} (h : T.ruleE c rn = 0) : Ty.isE (c / 16) (c - c / 16 * 16) ∧ T.ended = 0 ∧ ¬ (T.whole = T.begun ∧ (kc (c / 16) ∨ c / 16 = 1 ∨ c / 16 = 2)) ∧ ¬ (c / 16 = 8 ∧ (rn = 0 ∨ T.allowed - (c - c / 16 * 16) < T.begun)) := by
  unfold Ty.ruleE at h
  by_cases c1 : Ty.isE (c / 16) (c - c / 16 * 16)
  · rw [if_pos c1] at h
    by_cases c2 : T.ended = 0
    · rw [if_pos c2] at h
      by_cases c3 : T.whole = T.begun ∧ (kc (c / 16) ∨ c / 16 = 1 ∨ c / 16 = 2)
      · rw [if_pos c3] at h; exact absurd h (by decide)
      · rw [if_neg c3] at h
        by_cases c4 : c / 16 = 8 ∧ (rn = 0 ∨ T.allowed - (c - c / 16 * 16) < T.begun)
        · rw [if_pos c4] at h; exact absurd h (by decide)
        · exact ⟨c1, c2, c3, c4⟩
    · rw [if_neg c2] at h; exact absurd h (by decide)
  · rw [if_neg c1] at h; exact absurd h (by decide)
theorem isE_v {k v : Int32} (h : Ty.isE k v) : 0 ≤ v ∧ v ≤ 15 ∧ (k = 0 → v ≤ 6) ∧ (k = 1 → v ≤ 4) ∧ (k = 2 → v ≤ 6) ∧ (k = 3 → v ≤ 3) ∧ (k = 4 → v ≤ 7) ∧ (k = 6 → v ≤ 4) := by
  obtain ⟨h0, h9, h1, h2⟩ := h
  have : k = 0 ∨ k = 1 ∨ k = 2 ∨ k = 3 ∨ k = 4 ∨ k = 5 ∨ k = 6 ∨ k = 7 ∨ k = 8 ∨ k = 9 := by grind
  rcases this with c | c | c | c | c | c | c | c | c | c <;> subst c
  · have a : (0 : Int32) ≤ v := h1; have b : v ≤ 6 := h2; refine ⟨by grind, by grind, by grind, by grind, by grind, by grind, by grind, by grind⟩
  · have a : (0 : Int32) ≤ v := h1; have b : v ≤ 4 := h2; refine ⟨by grind, by grind, by grind, by grind, by grind, by grind, by grind, by grind⟩
  · have a : (0 : Int32) ≤ v := h1; have b : v ≤ 6 := h2; refine ⟨by grind, by grind, by grind, by grind, by grind, by grind, by grind, by grind⟩
  · have a : (0 : Int32) ≤ v := h1; have b : v ≤ 3 := h2; refine ⟨by grind, by grind, by grind, by grind, by grind, by grind, by grind, by grind⟩
  · have a : (0 : Int32) ≤ v := h1; have b : v ≤ 7 := h2; refine ⟨by grind, by grind, by grind, by grind, by grind, by grind, by grind, by grind⟩
  · have a : (0 : Int32) ≤ v := h1; have b : v ≤ 15 := h2; refine ⟨by grind, by grind, by grind, by grind, by grind, by grind, by grind, by grind⟩
  · have a : (1 : Int32) ≤ v := h1; have b : v ≤ 4 := h2; refine ⟨by grind, by grind, by grind, by grind, by grind, by grind, by grind, by grind⟩
  · have a : (0 : Int32) ≤ v := h1; have b : v ≤ 15 := h2; refine ⟨by grind, by grind, by grind, by grind, by grind, by grind, by grind, by grind⟩
  · have a : (1 : Int32) ≤ v := h1; have b : v ≤ 15 := h2; refine ⟨by grind, by grind, by grind, by grind, by grind, by grind, by grind, by grind⟩
  · have a : (0 : Int32) ≤ v := h1; have b : v ≤ 0 := h2; refine ⟨by grind, by grind, by grind, by grind, by grind, by grind, by grind, by grind⟩
theorem half7 {v : Int32} (h0 : 0 ≤ v) (h1 : v ≤ 15) : 0 ≤ v / 2 ∧ v / 2 ≤ 7 := by
  obtain ⟨n, hn, e⟩ := v16 h0 h1
  have := half16 n hn
  rw [← e] at this
  exact this
theorem ent3_none {X : Ty} {k s : Int32} (hk : ¬ kc k) (hc : X.counted ≠ 6) : (X.ent3 k s).ent4 = X.late s := by
  unfold Ty.ent3
  rw [if_neg hk]
  unfold Ty.ent4
  have : (X.sOv (gAd 120 5 X.ov (X.begun - 1) 0 (X.score - s))).counted = X.counted := rfl
  rw [if_neg (by rw [this]; exact hc)]
  rfl
theorem Iv.ent {ovs m : Int32} {T : Ty} {c rn : Int32} (h : Iv ovs m T) (ho : T.outs ≤ 9) (hm : m ≤ 39000) (hr : T.ruleE c rn = 0) : Iv ovs (m + 7) (T.ent c) := by
  obtain ⟨r1, r2, r3, r4⟩ := ruleE0 hr
  unfold Ty.ent
  generalize c - c / 16 * 16 = v at *
  generalize c / 16 = k at *
  obtain ⟨v0, v15, w0, w1, w2, w3, w4, w6⟩ := isE_v r1
  have s1 := h.s1
  have s0 := h.s0
  have h1 : Iv ovs m (T.ent1 k) := by
    unfold Ty.ent1
    split
    · exact h.bat (c := 1) (by decide)
    · exact h
  obtain ⟨p1, p2, p3, p4, p5, p6⟩ := Ty.ent1_k T k
  have po : (T.ent1 k).outs = T.outs := by unfold Ty.ent1; split <;> rfl
  have pa : (T.ent1 k).allowed = T.allowed := by unfold Ty.ent1; split <;> rfl
  have hm0 : 0 ≤ m := i32_tr s0 s1
  have h2 : Iv ovs (m + 7) ((T.ent1 k).ent2 k v) := by
    generalize T.ent1 k = U at *
    have uo : U.outs ≤ 9 := by rw [po]; exact ho
    have up : ∀ x, 0 ≤ x → x ≤ 7 → m + x ≤ m + 7 := fun x a b => by clear h h1 r1 r2 r3 r4 hr; grind
    have m4 : m ≤ 40000 := by clear h h1 r1 r2 r3 r4 hr up; grind
    have m5 : m + 1 ≤ 40000 := by clear h h1 r1 r2 r3 r4 hr up; grind
    unfold Ty.ent2
    by_cases k0 : k = 0
    · simp only [if_pos k0]
      exact (h1.hit v0 v15 m4).up (up v v0 (by have := w0 k0; clear h h1 r1 r2 r3 r4 hr up; grind))
    simp only [if_neg k0]
    by_cases k1 : k = 1
    · simp only [if_pos k1]
      exact ((h1.concede m4).nob v0 v15 m5).up (by have := w1 k1; clear h h1 r1 r2 r3 r4 hr up; grind)
    simp only [if_neg k1]
    by_cases k2 : k = 2
    · simp only [if_pos k2]
      exact ((h1.concede m4).hit v0 v15 m5).up (by have := w2 k2; clear h h1 r1 r2 r3 r4 hr up; grind)
    simp only [if_neg k2]
    by_cases k3 : k = 3
    · simp only [if_pos k3]
      exact ((h1.bow (c := 2) (by decide)).leave uo).up (by clear h h1 r1 r2 r3 r4 hr up; grind)
    simp only [if_neg k3]
    by_cases k4 : k = 4
    · simp only [if_pos k4]
      have hh := half7 v0 v15
      have o2 : (U.hit (v / 2)).outs = U.outs := by unfold Ty.hit Ty.cross; split <;> rfl
      split
      · exact ((h1.hit hh.1 (by clear h h1 r1 r2 r3 r4 hr up; grind) m4).leave (by rw [o2]; exact uo)).up (up _ hh.1 hh.2)
      · exact ((h1.hit hh.1 (by clear h h1 r1 r2 r3 r4 hr up; grind) m4).leave (by rw [o2]; exact uo)).up (up _ hh.1 hh.2)
    simp only [if_neg k4]
    by_cases k6 : k = 6
    · simp only [if_pos k6]
      exact (h1.nob v0 v15 m4).up (up v v0 (by have := w6 k6; clear h h1 r1 r2 r3 r4 hr up; grind))
    simp only [if_neg k6]
    by_cases k8 : k = 8
    · simp only [if_pos k8]
      refine (h1.away v0 v15 ?_).up (by clear h h1 r1 r2 r3 r4 hr up; grind)
      rw [p1, pa]
      by_cases q : T.begun ≤ T.allowed - v
      · exact q
      · exact absurd ⟨k8, Or.inr (lt_of_nle q)⟩ r4
    simp only [if_neg k8]
    exact h1.up (by clear h h1 r1 r2 r3 r4 hr up; grind)
  obtain ⟨q1, q2, q3, q4, q5⟩ := Ty.ent2_k (T.ent1 k) k v
  generalize (T.ent1 k).ent2 k v = X at *
  have hl : Iv ovs (m + 7) (X.late T.score) := h2.ov (c := 0) (by decide) (by decide)
  by_cases kk : kc k
  · have hw : X.whole < X.begun := by
      have e1 : X.whole = T.whole := q3.trans p3
      have e2 : X.begun = T.begun := q1.trans p1
      rw [e1, e2]
      have z := h.w1
      have z2 : ¬ T.whole = T.begun := fun q => r3 ⟨q, Or.inl kk⟩
      clear h h1 h2 hl r1 r2 r3 r4 hr
      grind
    have e : (X.ent3 k T.score).ent4 = (X.late T.score).ent3b.ent4 := by
      unfold Ty.ent3
      rw [if_pos kk]
      rfl
    rw [e]
    exact hl.count hw
  · rw [ent3_none kk (by rw [q2, p2]; have := h.c5; clear h h1 h2 hl r1 r2 r3 r4 hr; grind)]
    exact hl
def isEv (x0 x1 : Int32) : Int32 := if x0 = 0 then (if 6 < x1 then 0 else 1) else if x0 = 1 then (if 4 < x1 then 0 else 1) else if x0 = 2 then (if 6 < x1 then 0 else 1) else if x0 = 3 then (if 3 < x1 then 0 else 1) else if x0 = 4 then (if 7 < x1 then 0 else 1) else if x0 = 6 then (if x1 < 1 then 0 else if 4 < x1 then 0 else 1) else if x0 = 8 then (if x1 < 1 then 0 else 1) else if x0 = 9 then (if x1 = 0 then 1 else 0) else if x0 = 5 then 1 else if x0 = 7 then 1 else 0
theorem r_isEntry {k v : Int32} {e : mE} : P_X12_isEntry k v e = some (isEv k v, e) := by
  unfold P_X12_isEntry isEv
  repeat' split
  all_goals rfl
theorem isEv_256 : ∀ n, n < 256 → isEv (Int32.ofNat n / 16) (Int32.ofNat n - Int32.ofNat n / 16 * 16) = if Ty.isE (Int32.ofNat n / 16) (Int32.ofNat n - Int32.ofNat n / 16 * 16) then 1 else 0 := by decide +kernel
theorem mod_256 : ∀ n, n < 256 → 0 ≤ Int32.ofNat n - Int32.ofNat n / 16 * 16 ∧ Int32.ofNat n - Int32.ofNat n / 16 * 16 ≤ 15 ∧ 0 ≤ Int32.ofNat n / 16 ∧ Int32.ofNat n / 16 ≤ 15 := by decide +kernel
theorem c256 {c : Int32} (h0 : 0 ≤ c) (h1 : c ≤ 255) : ∃ n : Nat, n < 256 ∧ c = Int32.ofNat n := by
  have a1 := Int32.le_iff_toInt_le.mp h1
  have e1 : (255 : Int32).toInt = 255 := by decide
  obtain ⟨n, p1, p2, p3⟩ := i32_nat (N := 255) h0 (by omega) (by decide)
  exact ⟨n, by omega, p2⟩
theorem isEv_eq {c : Int32} (h0 : 0 ≤ c) (h1 : c ≤ 255) : isEv (c / 16) (c - c / 16 * 16) = if Ty.isE (c / 16) (c - c / 16 * 16) then 1 else 0 := by
  obtain ⟨n, hn, e⟩ := c256 h0 h1
  rw [e]
  exact isEv_256 n hn
theorem mod_eq {c : Int32} (h0 : 0 ≤ c) (h1 : c ≤ 255) : 0 ≤ c - c / 16 * 16 ∧ c - c / 16 * 16 ≤ 15 ∧ 0 ≤ c / 16 ∧ c / 16 ≤ 15 := by
  obtain ⟨n, hn, e⟩ := c256 h0 h1
  rw [e]
  exact mod_256 n hn
section RA
variable {t : Int32} {rw : Int32 → Int32} {mn : Int32} {e0 e : mE} {T : Ty} {by' ro : Int32} {pl : Int32 → Int32} {x : Nat → Int32}
theorem r_57 (S : RSt t rw mn e0 e T by' ro pl x) {g k v rn : Int32} (g0 : 0 ≤ g) (g1 : g < 400) (hrn : rn = 0 ↔ e.2 6 g = 2) : P_X12_against_57 g t k v e = some (if k = 8 ∧ (rn = 0 ∨ T.allowed - v < T.begun) then 10 else 0, e) := by
  unfold P_X12_against_57
  by_cases c8 : k = 8
  · rw [if_pos c8, ck_t ⟨g0, g1⟩]
    by_cases cr : e.2 6 g = 2
    · rw [if_pos cr, if_pos (And.intro c8 (Or.inl (hrn.mpr cr)))]
    · rw [if_neg cr, ck_t ⟨S.t1, S.t2⟩, ck_t ⟨S.t1, S.t2⟩, RSt.begun S, RSt.allowed S]
      by_cases cb : T.begun ≤ T.allowed - v
      · rw [if_pos cb, if_neg (fun q => by rcases q.2 with q | q; exact cr (hrn.mp q); exact absurd cb (Int32.not_le.mpr q))]
      · rw [if_neg cb, if_pos (And.intro c8 (Or.inr (lt_of_nle cb)))]
  · rw [if_neg c8, if_neg (fun q => c8 q.1)]
theorem r_against (S : RSt t rw mn e0 e T by' ro pl x) {g c rn : Int32} (c0 : 0 ≤ c) (c1 : c ≤ 255) (g0 : 0 ≤ g) (g1 : g < 400) (hrn : rn = 0 ↔ e.2 6 g = 2) (hr : HRow mn T) (hw : T.ov (T.begun - 1) 3 = 0 ↔ ¬ T.whole = T.begun) : P_X12_against g t (rw (T.begun - 1)) (c / 16) (c - c / 16 * 16) e = some (T.ruleE c rn, e) := by
  unfold P_X12_against Ty.ruleE
  rw [r_isEntry, isEv_eq c0 c1]
  simp only [Option.bind_some, bd_e]
  generalize c - c / 16 * 16 = v
  generalize c / 16 = k
  by_cases q1 : Ty.isE k v
  · rw [if_pos q1, if_pos q1, if_neg (by decide), ck_t ⟨S.t1, S.t2⟩, RSt.ended S]
    by_cases q2 : T.ended = 0
    · rw [if_pos q2, if_pos q2, ck_t (S.rk.1 _ hr.1 hr.2.1), RSt.ov3 S hr.1 hr.2.1 hr.2.2]
      by_cases q3 : T.ov (T.begun - 1) 3 = 0
      · rw [if_pos q3, if_neg (fun z => hw.mp q3 z.1), r_57 S g0 g1 hrn]
      · rw [if_neg q3]
        have q4 : T.whole = T.begun := by
          by_cases z : T.whole = T.begun
          · exact z
          · exact absurd (hw.mpr z) q3
        rw [r_counts]
        simp only [Option.bind_some]
        by_cases c7 : kc k
        · rw [if_pos c7, if_neg (by decide), if_pos (And.intro q4 (Or.inl c7))]
        · rw [if_neg c7, if_pos rfl]
          by_cases c8 : k = 1
          · rw [if_pos c8, if_pos (And.intro q4 (Or.inr (Or.inl c8)))]
          · rw [if_neg c8]
            by_cases c9 : k = 2
            · rw [if_pos c9, if_pos (And.intro q4 (Or.inr (Or.inr c9)))]
            · rw [if_neg c9, if_neg (fun q => by rcases q.2 with q | q | q; exact c7 q; exact c8 q; exact c9 q), r_57 S g0 g1 hrn]
    · rw [if_neg q2, if_neg q2]
  · rw [if_neg q1, if_neg q1, if_pos rfl]
end RA
