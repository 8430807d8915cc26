/-! The cross sums; which entries there are -/
def sm (f : Int32 → Int32) : Int32 := f 0 + f 1 + f 2 + f 3 + f 4 + f 5 + f 6 + f 7 + f 8 + f 9 + f 10
theorem sumU_11 (f : Int32 → Int32) : sumU f 11 0 0 = sm f := by
  simp only [sumU, sm, show (0 : Int32) + 1 = 1 from by decide, show (1 : Int32) + 1 = 2 from by decide, show (2 : Int32) + 1 = 3 from by decide, show (3 : Int32) + 1 = 4 from by decide, show (4 : Int32) + 1 = 5 from by decide, show (5 : Int32) + 1 = 6 from by decide, show (6 : Int32) + 1 = 7 from by decide, show (7 : Int32) + 1 = 8 from by decide, show (8 : Int32) + 1 = 9 from by decide, show (9 : Int32) + 1 = 10 from by decide]
  grind
theorem k11 {k : Int32} (h0 : 0 ≤ k) (h1 : k < 11) : k = 0 ∨ k = 1 ∨ k = 2 ∨ k = 3 ∨ k = 4 ∨ k = 5 ∨ k = 6 ∨ k = 7 ∨ k = 8 ∨ k = 9 ∨ k = 10 := by grind
theorem sm_eq {f f' : Int32 → Int32} (h : ∀ j, 0 ≤ j → j < 11 → f' j = f j) : sm f' = sm f := by
  unfold sm
  rw [h 0 (by decide) (by decide), h 1 (by decide) (by decide), h 2 (by decide) (by decide), h 3 (by decide) (by decide), h 4 (by decide) (by decide), h 5 (by decide) (by decide), h 6 (by decide) (by decide), h 7 (by decide) (by decide), h 8 (by decide) (by decide), h 9 (by decide) (by decide), h 10 (by decide) (by decide)]
theorem sm_up {f f' : Int32 → Int32} {k d : Int32} (h0 : 0 ≤ k) (h1 : k < 11) (h : ∀ j, 0 ≤ j → j < 11 → j ≠ k → f' j = f j) (hk : f' k = f k + d) : sm f' = sm f + d := by
  have e : ∀ j, 0 ≤ j → j < 11 → f' j = if j = k then f j + d else f j := by
    intro j a b
    by_cases c : j = k
    · rw [if_pos c, c, hk]
    · rw [if_neg c, h j a b c]
  rw [sm_eq e]
  unfold sm
  rcases k11 h0 h1 with c | c | c | c | c | c | c | c | c | c | c <;> subst c <;> simp only [show ¬ (0 : Int32) = 1 from by decide, show ¬ (0 : Int32) = 2 from by decide, show ¬ (0 : Int32) = 3 from by decide, show ¬ (0 : Int32) = 4 from by decide, show ¬ (0 : Int32) = 5 from by decide, show ¬ (0 : Int32) = 6 from by decide, show ¬ (0 : Int32) = 7 from by decide, show ¬ (0 : Int32) = 8 from by decide, show ¬ (0 : Int32) = 9 from by decide, show ¬ (0 : Int32) = 10 from by decide, ↓reduceIte] <;> grind
abbrev six (T : Ty) : Int32 → Int32 := fun k => if T.bat k 2 = 6 then 1 else 0
abbrev SI (T : Ty) (by' ro : Int32) : Prop := by' = sm (fun k => T.bow k 2) ∧ ro = sm (six T)
theorem SI.of {T U : Ty} {by' ro : Int32} (h : SI T by' ro) (e1 : ∀ k, U.bow k 2 = T.bow k 2) (e2 : ∀ k, U.bat k 2 = T.bat k 2) : SI U by' ro := by
  refine ⟨h.1.trans (sm_eq (fun j _ _ => (e1 j).symm)), h.2.trans (sm_eq (fun j _ _ => ?_))⟩
  show (if T.bat j 2 = 6 then (1 : Int32) else 0) = if U.bat j 2 = 6 then 1 else 0
  rw [e2]
theorem cross_bb (T : Ty) (v : Int32) : (T.cross v).bow = T.bow ∧ (T.cross v).bat = T.bat := ⟨(Ty.cross_k T v).2.2.2.2.2.1, (Ty.cross_k T v).2.2.2.2.2.2⟩
theorem hit_bb (T : Ty) (v : Int32) : (∀ k, (T.hit v).bow k 2 = T.bow k 2) ∧ ∀ k, (T.hit v).bat k 2 = T.bat k 2 := by
  unfold Ty.hit
  rw [(cross_bb _ v).1, (cross_bb _ v).2]
  exact ⟨fun k => gS_ne (fun q => absurd q.2 (by decide)), fun k => gS_ne (fun q => absurd q.2 (by decide))⟩
theorem nob_bb (T : Ty) (v : Int32) : (T.nob v).bow = T.bow ∧ (T.nob v).bat = T.bat := by
  unfold Ty.nob
  exact ⟨(cross_bb _ v).1, (cross_bb _ v).2⟩
theorem concede_bb (T : Ty) : (∀ k, T.concede.bow k 2 = T.bow k 2) ∧ T.concede.bat = T.bat := ⟨fun k => gS_ne (fun q => absurd q.2 (by decide)), rfl⟩
theorem ent34_bb (T : Ty) (k s : Int32) : ((T.ent3 k s).ent4).bow = T.bow ∧ ((T.ent3 k s).ent4).bat = T.bat := by
  unfold Ty.ent3
  split
  · unfold Ty.ent4
    split <;> exact ⟨rfl, rfl⟩
  · unfold Ty.ent4
    split <;> exact ⟨rfl, rfl⟩
theorem leave_bat (T : Ty) (wf how : Int32) : (T.leave wf how).bat = if 10 ≤ T.outs + 1 then gS 11 3 T.bat (if wf = 0 then T.other else T.faces) 2 how else gS 11 3 (gS 11 3 T.bat (if wf = 0 then T.other else T.faces) 2 how) T.next 2 1 := by
  unfold Ty.leave Ty.leave1 Ty.fin
  by_cases c : 10 ≤ T.outs + 1
  · rw [if_pos c, if_pos (show 10 ≤ Ty.outs (Ty.sOv (Ty.sOuts (Ty.sBat T _) (T.outs + 1)) _) from c)]
    split <;> rfl
  · rw [if_neg c, if_neg (show ¬ 10 ≤ Ty.outs (Ty.sOv (Ty.sOuts (Ty.sBat T _) (T.outs + 1)) _) from c)]
    split <;> rfl
theorem leave_six {T : Ty} {wf how d : Int32} (x0 : 0 ≤ (if wf = 0 then T.other else T.faces)) (x1 : (if wf = 0 then T.other else T.faces) < 11) (hx : T.bat (if wf = 0 then T.other else T.faces) 2 = 1) (hn : ¬ 10 ≤ T.outs + 1 → 0 ≤ T.next ∧ T.next < 11 ∧ T.bat T.next 2 = 0 ∧ T.next ≠ (if wf = 0 then T.other else T.faces)) (hd : d = if how = 6 then 1 else 0) : sm (six (T.leave wf how)) = sm (six T) + d := by
  generalize hX : (if wf = 0 then T.other else T.faces) = x at *
  have gx : gin 11 3 x 2 := ⟨x0, x1, by decide, by decide⟩
  have hb := leave_bat T wf how
  rw [hX] at hb
  refine sm_up (k := x) x0 x1 ?_ ?_
  · intro j j0 j1 jx
    show (if (T.leave wf how).bat j 2 = 6 then (1 : Int32) else 0) = if T.bat j 2 = 6 then 1 else 0
    rw [hb]
    by_cases c : 10 ≤ T.outs + 1
    · rw [if_pos c, gS_ne (fun q => jx q.1)]
    · rw [if_neg c]
      obtain ⟨n0, n1, n2, n3⟩ := hn c
      by_cases e : j = T.next
      · subst e
        rw [gS_at ⟨n0, n1, by decide, by decide⟩, n2]
        rfl
      · rw [gS_ne (fun q => e q.1), gS_ne (fun q => jx q.1)]
  · show (if (T.leave wf how).bat x 2 = 6 then (1 : Int32) else 0) = (if T.bat x 2 = 6 then 1 else 0) + d
    rw [hb, hx, if_neg (show ¬ (1 : Int32) = 6 from by decide), hd]
    have e : (if 10 ≤ T.outs + 1 then gS 11 3 T.bat x 2 how else gS 11 3 (gS 11 3 T.bat x 2 how) T.next 2 1) x 2 = how := by
      by_cases c : 10 ≤ T.outs + 1
      · rw [if_pos c]; exact gS_at gx
      · rw [if_neg c, gS_ne (fun q => (hn c).2.2.2 q.1.symm)]; exact gS_at gx
    rw [e]
    grind
theorem SI.ent {ovs m : Int32} {T : Ty} {by' ro c : Int32} (h : SI T by' ro) (hi : Iv ovs m T) (ho : T.outs ≤ 9) (hb : T.begun ≠ 0) (hv : c / 16 = 3 → 0 ≤ c - c / 16 * 16 ∧ c - c / 16 * 16 ≤ 3) : SI (T.ent c) (byD (c / 16) by') (roD (c / 16) ro) := by
  obtain ⟨l1, l2, l3, l4, l5, l6, l7⟩ := hi.lv ho
  have hnx := hi.nx ho
  have hfr := hi.fr ho
  have ho0 := hi.o0
  obtain ⟨b1, b2⟩ := hi.bb hb
  unfold Ty.ent
  generalize c - c / 16 * 16 = v at *
  generalize c / 16 = k at *
  have key : ∀ U : Ty, SI U (byD k by') (roD k ro) → SI ((U.ent3 k T.score).ent4) (byD k by') (roD k ro) := by
    intro U hU
    have e := ent34_bb U k T.score
    exact hU.of (fun q => by rw [e.1]) (fun q => by rw [e.2])
  refine key _ ?_
  have h1 : SI (T.ent1 k) by' ro := by
    unfold Ty.ent1
    split
    · exact h.of (fun _ => rfl) (fun q => gS_ne (fun z => absurd z.2 (by decide)))
    · exact h
  have e1 : (T.ent1 k).faces = T.faces ∧ (T.ent1 k).other = T.other ∧ (T.ent1 k).next = T.next ∧ (T.ent1 k).outs = T.outs ∧ (T.ent1 k).bowler = T.bowler ∧ ∀ q, (T.ent1 k).bat q 2 = T.bat q 2 := by
    unfold Ty.ent1
    split
    · exact ⟨rfl, rfl, rfl, rfl, rfl, fun q => gS_ne (fun z => absurd z.2 (by decide))⟩
    · exact ⟨rfl, rfl, rfl, rfl, rfl, fun _ => rfl⟩
  generalize T.ent1 k = U at *
  obtain ⟨u1, u2, u3, u4, u5, u6⟩ := e1
  have nn : ¬ 10 ≤ T.outs + 1 → 0 ≤ T.next ∧ T.next < 11 ∧ T.bat T.next 2 = 0 := by
    intro q
    have z : 0 ≤ T.next ∧ T.next < 11 := by clear hfr h h1 hi key u6 l6 l7; constructor <;> grind
    exact ⟨z.1, z.2, hfr T.next (Int32.le_refl _) z.2⟩
  have f11 : T.faces < 11 := by clear hfr h h1 hi key u6 l6 l7 nn; grind
  have o11 : T.other < 11 := by clear hfr h h1 hi key u6 l6 l7 nn; grind
  have fn : T.next ≠ T.faces := by clear hfr h h1 hi key u6 l6 l7 nn; grind
  have on : T.next ≠ T.other := by clear hfr h h1 hi key u6 l6 l7 nn; grind
  unfold Ty.ent2 byD roD
  by_cases k0 : k = 0
  · subst k0
    simp only [↓reduceIte, show ¬ (0 : Int32) = 3 from by decide, show ¬ (0 : Int32) = 4 from by decide]
    exact h1.of (hit_bb U v).1 (hit_bb U v).2
  simp only [if_neg k0]
  by_cases k1 : k = 1
  · subst k1
    simp only [↓reduceIte, show ¬ (1 : Int32) = 3 from by decide, show ¬ (1 : Int32) = 4 from by decide]
    exact h1.of (fun q => by rw [(nob_bb U.concede v).1]; exact (concede_bb U).1 q) (fun q => by rw [(nob_bb U.concede v).2, (concede_bb U).2])
  simp only [if_neg k1]
  by_cases k2 : k = 2
  · subst k2
    simp only [↓reduceIte, show ¬ (2 : Int32) = 3 from by decide, show ¬ (2 : Int32) = 4 from by decide]
    exact h1.of (fun q => ((hit_bb U.concede v).1 q).trans ((concede_bb U).1 q)) (fun q => by rw [(hit_bb U.concede v).2, (concede_bb U).2])
  simp only [if_neg k2]
  by_cases k3 : k = 3
  · subst k3
    simp only [↓reduceIte, show ¬ (3 : Int32) = 4 from by decide]
    have e2 : ((U.sBow (gAd 11 3 U.bow U.bowler 2 1)).leave 1 (2 + v)).bow = gAd 11 3 U.bow U.bowler 2 1 := (Ty.leave_k (U.sBow (gAd 11 3 U.bow U.bowler 2 1)) 1 (2 + v)).2.2.2.2.2
    refine ⟨?_, ?_⟩
    · rw [h1.1]
      refine (sm_up (k := U.bowler) (by rw [u5]; exact b1) (by rw [u5]; exact b2) ?_ ?_).symm
      · intro j _ _ hj
        rw [e2, gAd, gS_ne (fun q => hj q.1)]
      · rw [e2]
        exact gS_at ⟨by rw [u5]; exact b1, by rw [u5]; exact b2, by decide, by decide⟩
    · have hs := leave_six (T := U.sBow (gAd 11 3 U.bow U.bowler 2 1)) (wf := 1) (how := 2 + v) (d := 0) (by show 0 ≤ U.faces; rw [u1]; exact l1) (by show U.faces < 11; rw [u1]; exact f11) (by show U.bat U.faces 2 = 1; rw [u1, u6]; exact l6) (by
        show ¬ 10 ≤ U.outs + 1 → 0 ≤ U.next ∧ U.next < 11 ∧ U.bat U.next 2 = 0 ∧ U.next ≠ U.faces
        rw [u4, u3, u1]
        intro q
        have := nn q
        exact ⟨this.1, this.2.1, (u6 _).trans this.2.2, fn⟩) (by
        have := hv rfl
        rw [if_neg (by clear h h1 hi key u6 hfr nn; grind)])
      rw [hs, h1.2]
      show _ = sm (six U) + 0
      grind
  simp only [if_neg k3]
  by_cases k4 : k = 4
  · subst k4
    simp only [↓reduceIte]
    have hu := hit_bb U (v / 2)
    have cr : ((U.hit (v / 2)).faces = U.faces ∧ (U.hit (v / 2)).other = U.other ∨ (U.hit (v / 2)).faces = U.other ∧ (U.hit (v / 2)).other = U.faces) ∧ (U.hit (v / 2)).next = U.next ∧ (U.hit (v / 2)).outs = U.outs := by
      unfold Ty.hit Ty.cross
      split
      · exact ⟨Or.inl ⟨rfl, rfl⟩, rfl, rfl⟩
      · exact ⟨Or.inr ⟨rfl, rfl⟩, rfl, rfl⟩
    have main : ∀ wf, SI ((U.hit (v / 2)).leave wf 6) by' (ro + 1) := by
      intro wf
      have e2 : ((U.hit (v / 2)).leave wf 6).bow = (U.hit (v / 2)).bow := (Ty.leave_k (U.hit (v / 2)) wf 6).2.2.2.2.2
      have xx : (if wf = 0 then (U.hit (v / 2)).other else (U.hit (v / 2)).faces) = T.faces ∨ (if wf = 0 then (U.hit (v / 2)).other else (U.hit (v / 2)).faces) = T.other := by
        rcases cr.1 with q | q
        · rw [q.1, q.2, u1, u2]; split
          · exact Or.inr rfl
          · exact Or.inl rfl
        · rw [q.1, q.2, u1, u2]; split
          · exact Or.inl rfl
          · exact Or.inr rfl
      refine ⟨?_, ?_⟩
      · rw [h1.1]
        exact sm_eq (fun j _ _ => by rw [e2]; exact (hu.1 j).symm)
      · have hs := leave_six (T := U.hit (v / 2)) (wf := wf) (how := 6) (d := 1) (by rcases xx with q | q <;> rw [q]; exact l1; exact l3) (by rcases xx with q | q <;> rw [q]; exact f11; exact o11) (by rw [hu.2, u6]; rcases xx with q | q <;> rw [q]; exact l6; exact l7) (by
          rw [cr.2.2, cr.2.1, u4, u3]
          intro q
          have := nn q
          exact ⟨this.1, this.2.1, by rw [hu.2, u6]; exact this.2.2, by rcases xx with z | z <;> rw [z]; exact fn; exact on⟩) rfl
        have e9 : sm (six (U.hit (v / 2))) = sm (six U) := sm_eq (fun j _ _ => by show (if (U.hit (v / 2)).bat j 2 = 6 then (1 : Int32) else 0) = if U.bat j 2 = 6 then 1 else 0; rw [hu.2])
        rw [hs, h1.2, e9]
    split
    · exact main 1
    · exact main 0
  simp only [if_neg k4]
  by_cases k6 : k = 6
  · simp only [if_pos k6]
    exact h1.of (fun q => by rw [(nob_bb U v).1]) (fun q => by rw [(nob_bb U v).2])
  simp only [if_neg k6]
  by_cases k8 : k = 8
  · simp only [if_pos k8]
    exact h1.of (fun q => rfl) (fun q => rfl)
  simp only [if_neg k8]
  exact h1
