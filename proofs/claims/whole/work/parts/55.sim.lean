/-! Two tallies that differ at most in rows of overs that aren't begun -/
abbrev Sim (A B : Ty) : Prop := A.1 = B.1 ∧ (∀ j, j ≠ 2 → A.2 j = B.2 j) ∧ ∀ o c, gin 120 5 o c → o < B.begun → A.ov o c = B.ov o c
section SimS
variable {A B : Ty}
theorem Sim.refl (A : Ty) : Sim A A := ⟨rfl, fun _ _ => rfl, fun _ _ _ _ => rfl⟩
theorem Sim.i (s : Sim A B) (k : Nat) : A.1 k = B.1 k := by rw [s.1]
theorem Sim.played (s : Sim A B) : A.played = B.played := s.i 0
theorem Sim.score (s : Sim A B) : A.score = B.score := s.i 1
theorem Sim.outs (s : Sim A B) : A.outs = B.outs := s.i 2
theorem Sim.extras (s : Sim A B) : A.extras = B.extras := s.i 3
theorem Sim.nobodys (s : Sim A B) : A.nobodys = B.nobodys := s.i 4
theorem Sim.allowed (s : Sim A B) : A.allowed = B.allowed := s.i 5
theorem Sim.means (s : Sim A B) : A.means = B.means := s.i 6
theorem Sim.ended (s : Sim A B) : A.ended = B.ended := s.i 7
theorem Sim.begun (s : Sim A B) : A.begun = B.begun := s.i 8
theorem Sim.whole (s : Sim A B) : A.whole = B.whole := s.i 9
theorem Sim.opn (s : Sim A B) : A.opn = B.opn := s.i 10
theorem Sim.counted (s : Sim A B) : A.counted = B.counted := s.i 11
theorem Sim.bowler (s : Sim A B) : A.bowler = B.bowler := s.i 12
theorem Sim.faces (s : Sim A B) : A.faces = B.faces := s.i 13
theorem Sim.other (s : Sim A B) : A.other = B.other := s.i 14
theorem Sim.next (s : Sim A B) : A.next = B.next := s.i 15
theorem Sim.bat (s : Sim A B) : A.bat = B.bat := s.2.1 0 (by decide)
theorem Sim.bow (s : Sim A B) : A.bow = B.bow := s.2.1 1 (by decide)
theorem sim_I (s : Sim A B) {k : Nat} {v v' : Int32} (hk : k ≠ 8) (hv : v = v') : Sim (A.sI k v) (B.sI k v') := by
  subst hv
  refine ⟨funext fun j => ?_, fun j hj => s.2.1 j hj, fun o c h1 h2 => s.2.2 o c h1 ?_⟩
  · rw [Ty.i1, Ty.i1, s.i]
  · have e : (Ty.sI B k v).begun = B.begun := by show (if 8 = k then v else B.1 8) = B.1 8; rw [if_neg (fun q => hk q.symm)]
    rw [← e]; exact h2
theorem sim_G (s : Sim A B) {j : Nat} {g g' : Int32 → Int32 → Int32} (hj : j ≠ 2) (hg : g = g') : Sim (A.sG j g) (B.sG j g') := by
  subst hg
  refine ⟨s.1, fun q hq => ?_, fun o c h1 h2 => ?_⟩
  · rw [Ty.g2, Ty.g2, s.2.1 q hq]
  · show (Ty.sG A j g).2 2 o c = (Ty.sG B j g).2 2 o c
    rw [Ty.g2, Ty.g2, if_neg (fun q => hj q.symm), if_neg (fun q => hj q.symm)]
    exact s.2.2 o c h1 h2
theorem sim_ov (s : Sim A B) {r c v v' : Int32} (hv : gin 120 5 r c → v = v') : Sim (A.sOv (gS 120 5 A.ov r c v)) (B.sOv (gS 120 5 B.ov r c v')) := by
  refine ⟨s.1, fun q hq => ?_, fun o c' h1 h2 => ?_⟩
  · rw [Ty.g2, Ty.g2, if_neg hq, if_neg hq, s.2.1 q hq]
  · show gS 120 5 A.ov r c v o c' = gS 120 5 B.ov r c v' o c'
    unfold gS
    by_cases h3 : gin 120 5 r c ∧ o = r ∧ c' = c
    · rw [if_pos h3, if_pos h3]; exact hv h3.1
    · rw [if_neg h3, if_neg h3]; exact s.2.2 o c' h1 h2
theorem sim_ovA (s : Sim A B) {r c v v' : Int32} (hr : r < B.begun) (hv : v = v') : Sim (A.sOv (gAd 120 5 A.ov r c v)) (B.sOv (gAd 120 5 B.ov r c v')) := by
  subst hv
  exact sim_ov s (fun h => by rw [s.2.2 r c h hr])
theorem sim_chg (s : Sim A B) : Sim A.chg B.chg := sim_I (sim_I s (by decide) (s.other)) (by decide) (s.faces)
theorem sim_cross (s : Sim A B) {v : Int32} : Sim (A.cross v) (B.cross v) := by
  unfold Ty.cross
  split
  · exact s
  · exact sim_chg s
theorem sim_hit (s : Sim A B) {v : Int32} : Sim (A.hit v) (B.hit v) := by
  unfold Ty.hit
  refine sim_cross (sim_I (sim_G (sim_G s (by decide) ?_) (by decide) ?_) (by decide) ?_)
  · rw [s.bat, s.faces]
  · rw [s.bow, s.bowler]
  · rw [s.score]
theorem sim_concede (s : Sim A B) : Sim A.concede B.concede := by
  unfold Ty.concede
  refine sim_I (sim_I (sim_G s (by decide) ?_) (by decide) ?_) (by decide) ?_
  · rw [s.bow, s.bowler]
  · rw [s.extras]
  · rw [s.score]
theorem sim_nob (s : Sim A B) {v : Int32} : Sim (A.nob v) (B.nob v) := by
  unfold Ty.nob
  refine sim_cross (sim_I (sim_I (sim_I s (by decide) ?_) (by decide) ?_) (by decide) ?_)
  · rw [s.nobodys]
  · rw [s.extras]
  · rw [s.score]
theorem sim_fin (s : Sim A B) {wf c c' : Int32} (hc : c = c') : Sim (A.fin wf c) (B.fin wf c') := by
  subst hc
  unfold Ty.fin
  split
  · exact sim_I s (by decide) rfl
  · exact sim_I s (by decide) rfl
theorem sim_leave1 (s : Sim A B) {wf : Int32} : Sim (A.leave1 wf) (B.leave1 wf) := by
  unfold Ty.leave1
  rw [s.outs]
  split
  · exact sim_fin s rfl
  · refine sim_fin (sim_G (sim_I s (by decide) ?_) (by decide) ?_) (s.next)
    · rw [s.next]
    · rw [s.bat, s.next]
theorem sim_leave (s : Sim A B) (hr : B.begun - 1 < B.begun) {wf how : Int32} : Sim (A.leave wf how) (B.leave wf how) := by
  unfold Ty.leave
  refine sim_leave1 ?_
  have e : A.begun - 1 = B.begun - 1 := by rw [s.begun]
  have s1 : Sim ((A.sBat (gS 11 3 A.bat (if wf = 0 then A.other else A.faces) 2 how)).sOuts (A.outs + 1)) ((B.sBat (gS 11 3 B.bat (if wf = 0 then B.other else B.faces) 2 how)).sOuts (B.outs + 1)) := by
    refine sim_I (sim_G s (by decide) ?_) (by decide) ?_
    · rw [s.bat, s.faces, s.other]
    · rw [s.outs]
  rw [e]
  exact sim_ovA (r := B.begun - 1) (c := 1) (v := 1) s1 hr rfl
theorem sim_left (s : Sim A B) : A.left = B.left := by unfold Ty.left; rw [s.allowed, s.whole, s.counted]
theorem sim_away (s : Sim A B) {v : Int32} : Sim (A.away v) (B.away v) := by
  unfold Ty.away
  have s1 : Sim (A.sAllowed (A.allowed - v)) (B.sAllowed (B.allowed - v)) := sim_I s (by decide) (by rw [s.allowed])
  refine sim_I s1 (by decide) ?_
  rw [sim_left s1, sim_left s, s.means, s.outs]
theorem sim_ent1 (s : Sim A B) {k : Int32} : Sim (A.ent1 k) (B.ent1 k) := by
  unfold Ty.ent1
  split
  · refine sim_G s (by decide) ?_
    rw [s.bat, s.faces]
  · exact s
theorem hit_begun (T : Ty) (v : Int32) : (T.hit v).begun = T.begun := (Ty.cross_k _ _).2.1
theorem sim_ent2 (s : Sim A B) (hr : B.begun - 1 < B.begun) {k v : Int32} : Sim (A.ent2 k v) (B.ent2 k v) := by
  unfold Ty.ent2
  by_cases k0 : k = 0
  · simp only [if_pos k0]; exact sim_hit s
  simp only [if_neg k0]
  by_cases k1 : k = 1
  · simp only [if_pos k1]; exact sim_nob (sim_concede s)
  simp only [if_neg k1]
  by_cases k2 : k = 2
  · simp only [if_pos k2]; exact sim_hit (sim_concede s)
  simp only [if_neg k2]
  by_cases k3 : k = 3
  · simp only [if_pos k3]
    refine sim_leave (sim_G s (by decide) ?_) hr
    rw [s.bow, s.bowler]
  simp only [if_neg k3]
  by_cases k4 : k = 4
  · simp only [if_pos k4]
    have e := hit_begun B (v / 2)
    split
    · exact sim_leave (sim_hit s) (by rw [e]; exact hr)
    · exact sim_leave (sim_hit s) (by rw [e]; exact hr)
  simp only [if_neg k4]
  by_cases k6 : k = 6
  · simp only [if_pos k6]; exact sim_nob s
  simp only [if_neg k6]
  by_cases k8 : k = 8
  · simp only [if_pos k8]; exact sim_away s
  simp only [if_neg k8]; exact s
theorem sim_end44 (s : Sim A B) : Sim A.end44 B.end44 := by
  unfold Ty.end44
  refine sim_chg (sim_I (sim_I s (by decide) ?_) (by decide) rfl)
  rw [s.whole]
theorem sim_endO (s : Sim A B) : Sim A.endO B.endO := by
  unfold Ty.endO
  rw [s.begun]
  exact sim_end44 (sim_ov s (fun _ => rfl))
theorem sim_endP (s : Sim A B) : Sim A.endP B.endP := by
  unfold Ty.endP
  rw [s.begun, s.opn]
  refine sim_end44 (sim_I ?_ (by decide) rfl)
  have s1 : Sim (A.sOv (gS 120 5 A.ov (B.begun - 1) 3 1)) (B.sOv (gS 120 5 B.ov (B.begun - 1) 3 1)) := sim_ov s (fun _ => rfl)
  exact sim_ov (r := B.begun - 1) (c := 4) (v := 1) (v' := 1) s1 (fun _ => rfl)
theorem sim_ent3b (s : Sim A B) : Sim A.ent3b B.ent3b := by
  unfold Ty.ent3b
  rw [s.begun, s.counted]
  exact sim_ov (r := B.begun - 1) (c := 2) (sim_I (k := 11) (v := B.counted + 1) (v' := B.counted + 1) s (by decide) rfl) (fun _ => rfl)
theorem sim_ent3 (s : Sim A B) (hr : B.begun - 1 < B.begun) {k x : Int32} : Sim (A.ent3 k x) (B.ent3 k x) := by
  unfold Ty.ent3
  rw [s.begun, s.score]
  have s1 : Sim (A.sOv (gAd 120 5 A.ov (B.begun - 1) 0 (B.score - x))) (B.sOv (gAd 120 5 B.ov (B.begun - 1) 0 (B.score - x))) := sim_ovA s hr rfl
  split
  · exact sim_ent3b s1
  · exact s1
theorem sim_ent4 (s : Sim A B) : Sim A.ent4 B.ent4 := by
  unfold Ty.ent4
  rw [s.counted]
  split
  · exact sim_endO s
  · exact s
theorem sim_ent (s : Sim A B) (hr : B.begun - 1 < B.begun) {c : Int32} : Sim (A.ent c) (B.ent c) := by
  unfold Ty.ent
  rw [s.score]
  have e1 := (Ty.ent1_k B (c / 16)).1
  have e2 := (Ty.ent2_k (B.ent1 (c / 16)) (c / 16) (c - c / 16 * 16)).1
  exact sim_ent4 (sim_ent3 (sim_ent2 (sim_ent1 s) (by rw [e1]; exact hr)) (by rw [e2, e1]; exact hr))
/-- nothing stands in the rows of overs that aren't begun -/
abbrev Zr (T : Ty) : Prop := ∀ o c, gin 120 5 o c → T.begun ≤ o → T.ov o c = 0
theorem sim_begO1 (s : Sim A B) (z : Zr B) (hb : B.begun < 120) {b : Int32} : Sim (A.begO1 b) (B.begO1 b) := by
  unfold Ty.begO1
  rw [s.begun]
  have s1 : A.bow = B.bow := s.bow
  refine ⟨?_, ?_, ?_⟩
  · funext j
    simp only [Ty.i1, Ty.i2, Ty.g1, Ty.g2, ↓reduceIte, Nat.reduceEqDiff]
    rw [s.i]
  · intro j hj
    simp only [Ty.i1, Ty.i2, Ty.g1, Ty.g2, ↓reduceIte, Nat.reduceEqDiff, if_neg hj]
    rw [s1, s.2.1 j hj]
  · intro o c h1 h2
    simp only [Ty.i1, Ty.i2, Ty.g1, Ty.g2, ↓reduceIte, Nat.reduceEqDiff] at h2 ⊢
    by_cases e : o = B.begun
    · subst e
      rw [gRow_at h1, gRow_at h1]
    · rw [gRow_ne e, gRow_ne e]
      refine s.2.2 o c h1 ?_
      exact ((i32_ls hb).mp h2).resolve_right e
theorem zr_endP (z : Zr B) (hr : B.begun - 1 < B.begun) : Zr B.endP := by
  intro o c h1 h2
  replace h2 : B.begun ≤ o := h2
  have e : B.endP.ov = gS 120 5 (gS 120 5 B.ov (B.begun - 1) 3 1) (B.begun - 1) 4 1 := rfl
  have ne : o ≠ B.begun - 1 := by intro q; subst q; grind
  rw [e, gS_ne (fun q => ne q.1), gS_ne (fun q => ne q.1)]
  exact z o c h1 h2
theorem zr_begO1 (z : Zr B) (hb : B.begun < 120) {b : Int32} : Zr (B.begO1 b) := by
  intro o c h1 h2
  replace h2 : B.begun + 1 ≤ o := h2
  have e : (B.begO1 b).ov = gRow 120 5 B.ov B.begun 0 := rfl
  rw [e]
  by_cases q : o = B.begun
  · subst q; exact gRow_at h1
  · rw [gRow_ne q]
    exact z o c h1 (by grind)
theorem zr_ent (z : Zr B) (hr : B.begun - 1 < B.begun) {c : Int32} : Zr (B.ent c) ∧ (B.ent c).begun = B.begun := by
  unfold Ty.ent
  obtain ⟨p1, p2, p3, p4, p5, p6⟩ := Ty.ent1_k B (c / 16)
  obtain ⟨q1, q2, q3, q4, q5⟩ := Ty.ent2_k (B.ent1 (c / 16)) (c / 16) (c - c / 16 * 16)
  generalize (B.ent1 (c / 16)).ent2 (c / 16) (c - c / 16 * 16) = X at *
  have eb : X.begun = B.begun := q1.trans p1
  have zX : Zr X := by
    intro o c' h1 h2
    rw [q5 o c' (by rw [p1]; intro q; subst q; rw [eb] at h2; grind), p4]
    exact z o c' h1 (by rw [← eb]; exact h2)
  have hr' : X.begun - 1 < X.begun := by rw [eb]; exact hr
  have ovx : ∀ (Y : Ty) (c' v : Int32), Y.begun = X.begun → Zr Y → Zr (Y.sOv (gS 120 5 Y.ov (X.begun - 1) c' v)) := by
    intro Y c' v e1 zY o c2 h1 h2
    show gS 120 5 Y.ov (X.begun - 1) c' v o c2 = 0
    rw [gS_ne (fun q => by have h3 : Y.begun ≤ o := h2; rw [e1, q.1] at h3; grind)]
    exact zY o c2 h1 h2
  have s3 : Zr (X.ent3 (c / 16) B.score) ∧ (X.ent3 (c / 16) B.score).begun = X.begun := by
    unfold Ty.ent3
    have z1 := ovx X 0 (X.ov (X.begun - 1) 0 + (X.score - B.score)) rfl zX
    split
    · refine ⟨?_, rfl⟩
      exact ovx ((X.sOv (gAd 120 5 X.ov (X.begun - 1) 0 (X.score - B.score))).sCounted (X.counted + 1)) 2 (X.counted + 1) rfl z1
    · exact ⟨z1, rfl⟩
  generalize X.ent3 (c / 16) B.score = Y at *
  obtain ⟨zY, eY⟩ := s3
  unfold Ty.ent4
  split
  · refine ⟨?_, eY.trans eb⟩
    have := ovx Y 3 1 eY zY
    rw [← eY] at this
    exact this
  · exact ⟨zY, eY.trans eb⟩
end SimS
