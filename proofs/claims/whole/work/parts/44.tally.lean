/-! The class's Tally does to the heap what the record's functions say -/
def TS (a : Nat) (h : aH) : Prop := hK h a = 11 ∧ hG h 1000 a = some (a + 1) ∧ hG h 1001 a = some (a + 3) ∧ hG h 1002 a = some (a + 5) ∧ GrS h (a + 1) 11 3 33 ∧ GrS h (a + 3) 11 3 33 ∧ GrS h (a + 5) 120 5 600
def St (a : Nat) (h0 h : aH) (T : Ty) : Prop := TS a h ∧ frn a 7 h0 h ∧ tyOf a h = T
def GT (a : Nat) (h0 : aH) (X : Option aH) (T : Ty) : Prop := ∃ h', X = some h' ∧ St a h0 h' T
theorem GrS.out {h h' : aH} {g lo n : Nat} {R C N : Int32} (hg : GrS h g R C N) (f : frn lo n h h') (ho : ¬ (lo ≤ g ∧ g < lo + n)) : GrS h' g R C N := hg.mv f.1 (fun k => f.F ho k)
theorem TS.F {a : Nat} {h : aH} {v : Int32} {k : Nat} (hk : 1000 ≤ k) (s : TS a h) : TS a (sF h k a v) := by
  obtain ⟨s1, s2, s3, s4, s5, s6, s7⟩ := s
  exact ⟨s1, s2, s3, s4, s5.mv sst_sF (fun f => if_neg (fun q => by omega)), s6.mv sst_sF (fun f => if_neg (fun q => by omega)), s7.mv sst_sF (fun f => if_neg (fun q => by omega))⟩
theorem hF_sF (h : aH) (i a : Nat) (v : Int32) (j b : Nat) : hF (sF h i a v) j b = if j = i ∧ b = a then v else hF h j b := rfl
theorem tyOf_bat (a : Nat) (h : aH) : Ty.bat (tyOf a h) = gv h (a + 2) 11 3 := rfl
theorem tyOf_bow (a : Nat) (h : aH) : Ty.bow (tyOf a h) = gv h (a + 4) 11 3 := rfl
theorem tyOf_ov (a : Nat) (h : aH) : Ty.ov (tyOf a h) = gv h (a + 6) 120 5 := rfl
theorem tyOf_sF {a : Nat} {h : aH} {v : Int32} {k : Nat} (hk : k < 16) : tyOf a (sF h (1003 + k) a v) = Ty.sI (tyOf a h) k v := by
  refine Ty.ext2 (fun j => ?_) (fun j => rfl)
  show (if j < 16 then (if 1003 + j = 1003 + k ∧ a = a then v else hF h (1003 + j) a) else 0) = if j = k then v else if j < 16 then hF h (1003 + j) a else 0
  by_cases c : j = k
  · subst c
    rw [if_pos hk, if_pos ⟨rfl, rfl⟩, if_pos rfl]
  · rw [if_neg c]
    by_cases c2 : j < 16
    · rw [if_pos c2, if_pos c2, if_neg (fun q => c (by omega))]
    · rw [if_neg c2, if_neg c2]
section Step
variable {a : Nat} {h0 h : aH} {T T' : Ty}

theorem St.played (s : St a h0 h T) : hF h 1003 a = T.played := by rw [← s.2.2]; rfl
theorem St.score (s : St a h0 h T) : hF h 1004 a = T.score := by rw [← s.2.2]; rfl
theorem St.outs (s : St a h0 h T) : hF h 1005 a = T.outs := by rw [← s.2.2]; rfl
theorem St.extras (s : St a h0 h T) : hF h 1006 a = T.extras := by rw [← s.2.2]; rfl
theorem St.nobodys (s : St a h0 h T) : hF h 1007 a = T.nobodys := by rw [← s.2.2]; rfl
theorem St.allowed (s : St a h0 h T) : hF h 1008 a = T.allowed := by rw [← s.2.2]; rfl
theorem St.means (s : St a h0 h T) : hF h 1009 a = T.means := by rw [← s.2.2]; rfl
theorem St.ended (s : St a h0 h T) : hF h 1010 a = T.ended := by rw [← s.2.2]; rfl
theorem St.begun (s : St a h0 h T) : hF h 1011 a = T.begun := by rw [← s.2.2]; rfl
theorem St.whole (s : St a h0 h T) : hF h 1012 a = T.whole := by rw [← s.2.2]; rfl
theorem St.opn (s : St a h0 h T) : hF h 1013 a = T.opn := by rw [← s.2.2]; rfl
theorem St.counted (s : St a h0 h T) : hF h 1014 a = T.counted := by rw [← s.2.2]; rfl
theorem St.bowler (s : St a h0 h T) : hF h 1015 a = T.bowler := by rw [← s.2.2]; rfl
theorem St.faces (s : St a h0 h T) : hF h 1016 a = T.faces := by rw [← s.2.2]; rfl
theorem St.other (s : St a h0 h T) : hF h 1017 a = T.other := by rw [← s.2.2]; rfl
theorem St.next (s : St a h0 h T) : hF h 1018 a = T.next := by rw [← s.2.2]; rfl
theorem gt_played (s : St a h0 h T) {v : Int32} {f : aH → Option aH} (kk : ∀ h1, St a h0 h1 (T.sPlayed v) → GT a h0 (f h1) T') : GT a h0 (bd (sF h 1003 a v) f) T' := kk _ ⟨s.1.F (by decide), s.2.1.trans (frn_sF ⟨Nat.le_refl _, by omega⟩), by rw [← s.2.2]; exact tyOf_sF (k := 0) (by decide)⟩
theorem gt_score (s : St a h0 h T) {v : Int32} {f : aH → Option aH} (kk : ∀ h1, St a h0 h1 (T.sScore v) → GT a h0 (f h1) T') : GT a h0 (bd (sF h 1004 a v) f) T' := kk _ ⟨s.1.F (by decide), s.2.1.trans (frn_sF ⟨Nat.le_refl _, by omega⟩), by rw [← s.2.2]; exact tyOf_sF (k := 1) (by decide)⟩
theorem gt_outs (s : St a h0 h T) {v : Int32} {f : aH → Option aH} (kk : ∀ h1, St a h0 h1 (T.sOuts v) → GT a h0 (f h1) T') : GT a h0 (bd (sF h 1005 a v) f) T' := kk _ ⟨s.1.F (by decide), s.2.1.trans (frn_sF ⟨Nat.le_refl _, by omega⟩), by rw [← s.2.2]; exact tyOf_sF (k := 2) (by decide)⟩
theorem gt_extras (s : St a h0 h T) {v : Int32} {f : aH → Option aH} (kk : ∀ h1, St a h0 h1 (T.sExtras v) → GT a h0 (f h1) T') : GT a h0 (bd (sF h 1006 a v) f) T' := kk _ ⟨s.1.F (by decide), s.2.1.trans (frn_sF ⟨Nat.le_refl _, by omega⟩), by rw [← s.2.2]; exact tyOf_sF (k := 3) (by decide)⟩
theorem gt_nobodys (s : St a h0 h T) {v : Int32} {f : aH → Option aH} (kk : ∀ h1, St a h0 h1 (T.sNobodys v) → GT a h0 (f h1) T') : GT a h0 (bd (sF h 1007 a v) f) T' := kk _ ⟨s.1.F (by decide), s.2.1.trans (frn_sF ⟨Nat.le_refl _, by omega⟩), by rw [← s.2.2]; exact tyOf_sF (k := 4) (by decide)⟩
theorem gt_allowed (s : St a h0 h T) {v : Int32} {f : aH → Option aH} (kk : ∀ h1, St a h0 h1 (T.sAllowed v) → GT a h0 (f h1) T') : GT a h0 (bd (sF h 1008 a v) f) T' := kk _ ⟨s.1.F (by decide), s.2.1.trans (frn_sF ⟨Nat.le_refl _, by omega⟩), by rw [← s.2.2]; exact tyOf_sF (k := 5) (by decide)⟩
theorem gt_means (s : St a h0 h T) {v : Int32} {f : aH → Option aH} (kk : ∀ h1, St a h0 h1 (T.sMeans v) → GT a h0 (f h1) T') : GT a h0 (bd (sF h 1009 a v) f) T' := kk _ ⟨s.1.F (by decide), s.2.1.trans (frn_sF ⟨Nat.le_refl _, by omega⟩), by rw [← s.2.2]; exact tyOf_sF (k := 6) (by decide)⟩
theorem gt_ended (s : St a h0 h T) {v : Int32} {f : aH → Option aH} (kk : ∀ h1, St a h0 h1 (T.sEnded v) → GT a h0 (f h1) T') : GT a h0 (bd (sF h 1010 a v) f) T' := kk _ ⟨s.1.F (by decide), s.2.1.trans (frn_sF ⟨Nat.le_refl _, by omega⟩), by rw [← s.2.2]; exact tyOf_sF (k := 7) (by decide)⟩
theorem gt_begun (s : St a h0 h T) {v : Int32} {f : aH → Option aH} (kk : ∀ h1, St a h0 h1 (T.sBegun v) → GT a h0 (f h1) T') : GT a h0 (bd (sF h 1011 a v) f) T' := kk _ ⟨s.1.F (by decide), s.2.1.trans (frn_sF ⟨Nat.le_refl _, by omega⟩), by rw [← s.2.2]; exact tyOf_sF (k := 8) (by decide)⟩
theorem gt_whole (s : St a h0 h T) {v : Int32} {f : aH → Option aH} (kk : ∀ h1, St a h0 h1 (T.sWhole v) → GT a h0 (f h1) T') : GT a h0 (bd (sF h 1012 a v) f) T' := kk _ ⟨s.1.F (by decide), s.2.1.trans (frn_sF ⟨Nat.le_refl _, by omega⟩), by rw [← s.2.2]; exact tyOf_sF (k := 9) (by decide)⟩
theorem gt_opn (s : St a h0 h T) {v : Int32} {f : aH → Option aH} (kk : ∀ h1, St a h0 h1 (T.sOpn v) → GT a h0 (f h1) T') : GT a h0 (bd (sF h 1013 a v) f) T' := kk _ ⟨s.1.F (by decide), s.2.1.trans (frn_sF ⟨Nat.le_refl _, by omega⟩), by rw [← s.2.2]; exact tyOf_sF (k := 10) (by decide)⟩
theorem gt_counted (s : St a h0 h T) {v : Int32} {f : aH → Option aH} (kk : ∀ h1, St a h0 h1 (T.sCounted v) → GT a h0 (f h1) T') : GT a h0 (bd (sF h 1014 a v) f) T' := kk _ ⟨s.1.F (by decide), s.2.1.trans (frn_sF ⟨Nat.le_refl _, by omega⟩), by rw [← s.2.2]; exact tyOf_sF (k := 11) (by decide)⟩
theorem gt_bowler (s : St a h0 h T) {v : Int32} {f : aH → Option aH} (kk : ∀ h1, St a h0 h1 (T.sBowler v) → GT a h0 (f h1) T') : GT a h0 (bd (sF h 1015 a v) f) T' := kk _ ⟨s.1.F (by decide), s.2.1.trans (frn_sF ⟨Nat.le_refl _, by omega⟩), by rw [← s.2.2]; exact tyOf_sF (k := 12) (by decide)⟩
theorem gt_faces (s : St a h0 h T) {v : Int32} {f : aH → Option aH} (kk : ∀ h1, St a h0 h1 (T.sFaces v) → GT a h0 (f h1) T') : GT a h0 (bd (sF h 1016 a v) f) T' := kk _ ⟨s.1.F (by decide), s.2.1.trans (frn_sF ⟨Nat.le_refl _, by omega⟩), by rw [← s.2.2]; exact tyOf_sF (k := 13) (by decide)⟩
theorem gt_other (s : St a h0 h T) {v : Int32} {f : aH → Option aH} (kk : ∀ h1, St a h0 h1 (T.sOther v) → GT a h0 (f h1) T') : GT a h0 (bd (sF h 1017 a v) f) T' := kk _ ⟨s.1.F (by decide), s.2.1.trans (frn_sF ⟨Nat.le_refl _, by omega⟩), by rw [← s.2.2]; exact tyOf_sF (k := 14) (by decide)⟩
theorem gt_next (s : St a h0 h T) {v : Int32} {f : aH → Option aH} (kk : ∀ h1, St a h0 h1 (T.sNext v) → GT a h0 (f h1) T') : GT a h0 (bd (sF h 1018 a v) f) T' := kk _ ⟨s.1.F (by decide), s.2.1.trans (frn_sF ⟨Nat.le_refl _, by omega⟩), by rw [← s.2.2]; exact tyOf_sF (k := 15) (by decide)⟩
theorem gt_K (s : St a h0 h T) {f : Unit → Option aH} (kk : GT a h0 (f ()) T') : GT a h0 ((ck (hK h a = 11)).bind f) T' := by rw [ck_t s.1.1]; exact kk
theorem gt_K0 (s : St a h0 h T) {f : Unit → Option aH} (kk : GT a h0 (f ()) T') : GT a h0 ((ck (hK h (a + 1) = 6)).bind f) T' := by rw [ck_t s.1.2.2.2.2.1.1]; exact kk
theorem gt_K1 (s : St a h0 h T) {f : Unit → Option aH} (kk : GT a h0 (f ()) T') : GT a h0 ((ck (hK h (a + 3) = 6)).bind f) T' := by rw [ck_t s.1.2.2.2.2.2.1.1]; exact kk
theorem gt_K2 (s : St a h0 h T) {f : Unit → Option aH} (kk : GT a h0 (f ()) T') : GT a h0 ((ck (hK h (a + 5) = 6)).bind f) T' := by rw [ck_t s.1.2.2.2.2.2.2.1]; exact kk
theorem gt_G0 (s : St a h0 h T) {f : Nat → Option aH} (kk : GT a h0 (f (a + 1)) T') : GT a h0 ((hG h 1000 a).bind f) T' := by rw [s.1.2.1]; exact kk
theorem gt_G1 (s : St a h0 h T) {f : Nat → Option aH} (kk : GT a h0 (f (a + 3)) T') : GT a h0 ((hG h 1001 a).bind f) T' := by rw [s.1.2.2.1]; exact kk
theorem gt_G2 (s : St a h0 h T) {f : Nat → Option aH} (kk : GT a h0 (f (a + 5)) T') : GT a h0 ((hG h 1002 a).bind f) T' := by rw [s.1.2.2.2.1]; exact kk
theorem gt_bd {β : Type} {x : β} {f : β → Option aH} (kk : GT a h0 (f x) T') : GT a h0 (bd x f) T' := kk
theorem gt_o {β : Type} {X : Option β} {x : β} (e : X = some x) {f : β → Option aH} (kk : GT a h0 (f x) T') : GT a h0 (X.bind f) T' := by rw [e]; exact kk
theorem gt_end (s : St a h0 h T) (e : T = T') : GT a h0 (some h) T' := ⟨h, rfl, e ▸ s⟩
theorem gt_call {X : Option aH} {T1 : Ty} (c : GT a h0 X T1) {f : aH → Option aH} (kk : ∀ h1, St a h0 h1 T1 → GT a h0 (f h1) T') : GT a h0 (X.bind f) T' := by
  obtain ⟨h1, e, s⟩ := c
  rw [e]
  exact kk h1 s

theorem gv_out {h h' : aH} {lo n b : Nat} {R C : Int32} (f : frn lo n h h') (hb : ¬ (lo ≤ b ∧ b < lo + n)) : gv h' b R C = gv h b R C := by
  funext r c
  unfold gv
  by_cases hc : gin R C r c
  · rw [if_pos hc, if_pos hc, f.A hb]
  · rw [if_neg hc, if_neg hc]
theorem st_set0 (s : St a h0 h T) {r : Int32} {c : Int32} {v : Int32} : ∃ h1, F_X4_set (a + 1) r c v h = some h1 ∧ St a h0 h1 (T.sBat (gS 11 3 T.bat r c v)) := by
  obtain ⟨⟨s1, s2, s3, s4, s5, s6, s7⟩, sf, st⟩ := s
  obtain ⟨h1, e1, g1, f1, v1⟩ := gr_set1 (r := r) (c := c) (v := v) s5 gix_11_3 gij_11_3
  refine ⟨h1, e1, ⟨?_, ?_, ?_, ?_, ?_, ?_, ?_⟩, sf.trans (f1.wide (by omega) (by omega)), ?_⟩
  · rw [f1.1.K]; exact s1
  · rw [f1.1.G]; exact s2
  · rw [f1.1.G]; exact s3
  · rw [f1.1.G]; exact s4
  · exact g1
  · exact s6.out f1 (by omega)
  · exact s7.out f1 (by omega)
  · rw [← st]
    refine Ty.ext2 (fun j => ?_) (fun j => ?_)
    · show (if j < 16 then hF h1 (1003 + j) a else 0) = if j < 16 then hF h (1003 + j) a else 0
      rw [f1.F (q := a) (by omega)]
    · rw [Ty.g2]
      try rw [tyOf_bat]
      show (if j = 0 then gv h1 (a + 2) 11 3 else if j = 1 then gv h1 (a + 4) 11 3 else if j = 2 then gv h1 (a + 6) 120 5 else fun _ _ => 0) = if j = 0 then _ else if j = 0 then gv h (a + 2) 11 3 else if j = 1 then gv h (a + 4) 11 3 else if j = 2 then gv h (a + 6) 120 5 else fun _ _ => 0
      rw [v1, gv_out (b := a + 4) f1 (by omega), gv_out (b := a + 6) f1 (by omega)]
      rcases (show j = 0 ∨ j = 1 ∨ j = 2 ∨ 2 < j by omega) with c | c | c | c
      · subst c; simp
      · subst c; simp
      · subst c; simp
      · simp only [show ¬ j = 0 by omega, show ¬ j = 1 by omega, show ¬ j = 2 by omega, if_false]
theorem gt_set0 (s : St a h0 h T) {g : Int32 → Int32 → Int32} (hg : T.bat = g) {r : Int32} {c : Int32} {v : Int32} {f : aH → Option aH} (kk : ∀ h1, St a h0 h1 (T.sBat (gS 11 3 g r c v)) → GT a h0 (f h1) T') : GT a h0 ((F_X4_set (a + 1) r c v h).bind f) T' := by
  obtain ⟨h1, e1, s1⟩ := st_set0 s (r := r) (c := c) (v := v)
  rw [e1]
  subst hg
  exact kk h1 s1
theorem st_add0 (s : St a h0 h T) {r : Int32} {c : Int32} {v : Int32} : ∃ h1, F_X4_add (a + 1) r c v h = some h1 ∧ St a h0 h1 (T.sBat (gAd 11 3 T.bat r c v)) := by
  obtain ⟨⟨s1, s2, s3, s4, s5, s6, s7⟩, sf, st⟩ := s
  obtain ⟨h1, e1, g1, f1, v1⟩ := gr_add1 (r := r) (c := c) (v := v) s5 gix_11_3 gij_11_3
  refine ⟨h1, e1, ⟨?_, ?_, ?_, ?_, ?_, ?_, ?_⟩, sf.trans (f1.wide (by omega) (by omega)), ?_⟩
  · rw [f1.1.K]; exact s1
  · rw [f1.1.G]; exact s2
  · rw [f1.1.G]; exact s3
  · rw [f1.1.G]; exact s4
  · exact g1
  · exact s6.out f1 (by omega)
  · exact s7.out f1 (by omega)
  · rw [← st]
    refine Ty.ext2 (fun j => ?_) (fun j => ?_)
    · show (if j < 16 then hF h1 (1003 + j) a else 0) = if j < 16 then hF h (1003 + j) a else 0
      rw [f1.F (q := a) (by omega)]
    · rw [Ty.g2]
      try rw [tyOf_bat]
      show (if j = 0 then gv h1 (a + 2) 11 3 else if j = 1 then gv h1 (a + 4) 11 3 else if j = 2 then gv h1 (a + 6) 120 5 else fun _ _ => 0) = if j = 0 then _ else if j = 0 then gv h (a + 2) 11 3 else if j = 1 then gv h (a + 4) 11 3 else if j = 2 then gv h (a + 6) 120 5 else fun _ _ => 0
      rw [v1, gv_out (b := a + 4) f1 (by omega), gv_out (b := a + 6) f1 (by omega)]
      rcases (show j = 0 ∨ j = 1 ∨ j = 2 ∨ 2 < j by omega) with c | c | c | c
      · subst c; simp
      · subst c; simp
      · subst c; simp
      · simp only [show ¬ j = 0 by omega, show ¬ j = 1 by omega, show ¬ j = 2 by omega, if_false]
theorem gt_add0 (s : St a h0 h T) {g : Int32 → Int32 → Int32} (hg : T.bat = g) {r : Int32} {c : Int32} {v : Int32} {f : aH → Option aH} (kk : ∀ h1, St a h0 h1 (T.sBat (gAd 11 3 g r c v)) → GT a h0 (f h1) T') : GT a h0 ((F_X4_add (a + 1) r c v h).bind f) T' := by
  obtain ⟨h1, e1, s1⟩ := st_add0 s (r := r) (c := c) (v := v)
  rw [e1]
  subst hg
  exact kk h1 s1
theorem st_fill0 (s : St a h0 h T) {v : Int32} : ∃ h1, F_X4_fill (a + 1) v h = some h1 ∧ St a h0 h1 (T.sBat (gAll 11 3 v)) := by
  obtain ⟨⟨s1, s2, s3, s4, s5, s6, s7⟩, sf, st⟩ := s
  obtain ⟨h1, e1, g1, f1, v1⟩ := gr_fillA (v := v) s5 gix_11_3 (by decide)
  refine ⟨h1, e1, ⟨?_, ?_, ?_, ?_, ?_, ?_, ?_⟩, sf.trans (f1.wide (by omega) (by omega)), ?_⟩
  · rw [f1.1.K]; exact s1
  · rw [f1.1.G]; exact s2
  · rw [f1.1.G]; exact s3
  · rw [f1.1.G]; exact s4
  · exact g1
  · exact s6.out f1 (by omega)
  · exact s7.out f1 (by omega)
  · rw [← st]
    refine Ty.ext2 (fun j => ?_) (fun j => ?_)
    · show (if j < 16 then hF h1 (1003 + j) a else 0) = if j < 16 then hF h (1003 + j) a else 0
      rw [f1.F (q := a) (by omega)]
    · rw [Ty.g2]
      try rw [tyOf_bat]
      show (if j = 0 then gv h1 (a + 2) 11 3 else if j = 1 then gv h1 (a + 4) 11 3 else if j = 2 then gv h1 (a + 6) 120 5 else fun _ _ => 0) = if j = 0 then _ else if j = 0 then gv h (a + 2) 11 3 else if j = 1 then gv h (a + 4) 11 3 else if j = 2 then gv h (a + 6) 120 5 else fun _ _ => 0
      rw [v1, gv_out (b := a + 4) f1 (by omega), gv_out (b := a + 6) f1 (by omega)]
      rcases (show j = 0 ∨ j = 1 ∨ j = 2 ∨ 2 < j by omega) with c | c | c | c
      · subst c; simp
      · subst c; simp
      · subst c; simp
      · simp only [show ¬ j = 0 by omega, show ¬ j = 1 by omega, show ¬ j = 2 by omega, if_false]
theorem gt_fill0 (s : St a h0 h T) {g : Int32 → Int32 → Int32} (hg : T.bat = g) {v : Int32} {f : aH → Option aH} (kk : ∀ h1, St a h0 h1 (T.sBat (gAll 11 3 v)) → GT a h0 (f h1) T') : GT a h0 ((F_X4_fill (a + 1) v h).bind f) T' := by
  obtain ⟨h1, e1, s1⟩ := st_fill0 s (v := v)
  rw [e1]
  subst hg
  exact kk h1 s1
theorem st_set1 (s : St a h0 h T) {r : Int32} {c : Int32} {v : Int32} : ∃ h1, F_X4_set (a + 3) r c v h = some h1 ∧ St a h0 h1 (T.sBow (gS 11 3 T.bow r c v)) := by
  obtain ⟨⟨s1, s2, s3, s4, s5, s6, s7⟩, sf, st⟩ := s
  obtain ⟨h1, e1, g1, f1, v1⟩ := gr_set1 (r := r) (c := c) (v := v) s6 gix_11_3 gij_11_3
  refine ⟨h1, e1, ⟨?_, ?_, ?_, ?_, ?_, ?_, ?_⟩, sf.trans (f1.wide (by omega) (by omega)), ?_⟩
  · rw [f1.1.K]; exact s1
  · rw [f1.1.G]; exact s2
  · rw [f1.1.G]; exact s3
  · rw [f1.1.G]; exact s4
  · exact s5.out f1 (by omega)
  · exact g1
  · exact s7.out f1 (by omega)
  · rw [← st]
    refine Ty.ext2 (fun j => ?_) (fun j => ?_)
    · show (if j < 16 then hF h1 (1003 + j) a else 0) = if j < 16 then hF h (1003 + j) a else 0
      rw [f1.F (q := a) (by omega)]
    · rw [Ty.g2]
      try rw [tyOf_bow]
      show (if j = 0 then gv h1 (a + 2) 11 3 else if j = 1 then gv h1 (a + 4) 11 3 else if j = 2 then gv h1 (a + 6) 120 5 else fun _ _ => 0) = if j = 1 then _ else if j = 0 then gv h (a + 2) 11 3 else if j = 1 then gv h (a + 4) 11 3 else if j = 2 then gv h (a + 6) 120 5 else fun _ _ => 0
      rw [gv_out (b := a + 2) f1 (by omega), v1, gv_out (b := a + 6) f1 (by omega)]
      rcases (show j = 0 ∨ j = 1 ∨ j = 2 ∨ 2 < j by omega) with c | c | c | c
      · subst c; simp
      · subst c; simp
      · subst c; simp
      · simp only [show ¬ j = 0 by omega, show ¬ j = 1 by omega, show ¬ j = 2 by omega, if_false]
theorem gt_set1 (s : St a h0 h T) {g : Int32 → Int32 → Int32} (hg : T.bow = g) {r : Int32} {c : Int32} {v : Int32} {f : aH → Option aH} (kk : ∀ h1, St a h0 h1 (T.sBow (gS 11 3 g r c v)) → GT a h0 (f h1) T') : GT a h0 ((F_X4_set (a + 3) r c v h).bind f) T' := by
  obtain ⟨h1, e1, s1⟩ := st_set1 s (r := r) (c := c) (v := v)
  rw [e1]
  subst hg
  exact kk h1 s1
theorem st_add1 (s : St a h0 h T) {r : Int32} {c : Int32} {v : Int32} : ∃ h1, F_X4_add (a + 3) r c v h = some h1 ∧ St a h0 h1 (T.sBow (gAd 11 3 T.bow r c v)) := by
  obtain ⟨⟨s1, s2, s3, s4, s5, s6, s7⟩, sf, st⟩ := s
  obtain ⟨h1, e1, g1, f1, v1⟩ := gr_add1 (r := r) (c := c) (v := v) s6 gix_11_3 gij_11_3
  refine ⟨h1, e1, ⟨?_, ?_, ?_, ?_, ?_, ?_, ?_⟩, sf.trans (f1.wide (by omega) (by omega)), ?_⟩
  · rw [f1.1.K]; exact s1
  · rw [f1.1.G]; exact s2
  · rw [f1.1.G]; exact s3
  · rw [f1.1.G]; exact s4
  · exact s5.out f1 (by omega)
  · exact g1
  · exact s7.out f1 (by omega)
  · rw [← st]
    refine Ty.ext2 (fun j => ?_) (fun j => ?_)
    · show (if j < 16 then hF h1 (1003 + j) a else 0) = if j < 16 then hF h (1003 + j) a else 0
      rw [f1.F (q := a) (by omega)]
    · rw [Ty.g2]
      try rw [tyOf_bow]
      show (if j = 0 then gv h1 (a + 2) 11 3 else if j = 1 then gv h1 (a + 4) 11 3 else if j = 2 then gv h1 (a + 6) 120 5 else fun _ _ => 0) = if j = 1 then _ else if j = 0 then gv h (a + 2) 11 3 else if j = 1 then gv h (a + 4) 11 3 else if j = 2 then gv h (a + 6) 120 5 else fun _ _ => 0
      rw [gv_out (b := a + 2) f1 (by omega), v1, gv_out (b := a + 6) f1 (by omega)]
      rcases (show j = 0 ∨ j = 1 ∨ j = 2 ∨ 2 < j by omega) with c | c | c | c
      · subst c; simp
      · subst c; simp
      · subst c; simp
      · simp only [show ¬ j = 0 by omega, show ¬ j = 1 by omega, show ¬ j = 2 by omega, if_false]
theorem gt_add1 (s : St a h0 h T) {g : Int32 → Int32 → Int32} (hg : T.bow = g) {r : Int32} {c : Int32} {v : Int32} {f : aH → Option aH} (kk : ∀ h1, St a h0 h1 (T.sBow (gAd 11 3 g r c v)) → GT a h0 (f h1) T') : GT a h0 ((F_X4_add (a + 3) r c v h).bind f) T' := by
  obtain ⟨h1, e1, s1⟩ := st_add1 s (r := r) (c := c) (v := v)
  rw [e1]
  subst hg
  exact kk h1 s1
theorem st_fill1 (s : St a h0 h T) {v : Int32} : ∃ h1, F_X4_fill (a + 3) v h = some h1 ∧ St a h0 h1 (T.sBow (gAll 11 3 v)) := by
  obtain ⟨⟨s1, s2, s3, s4, s5, s6, s7⟩, sf, st⟩ := s
  obtain ⟨h1, e1, g1, f1, v1⟩ := gr_fillA (v := v) s6 gix_11_3 (by decide)
  refine ⟨h1, e1, ⟨?_, ?_, ?_, ?_, ?_, ?_, ?_⟩, sf.trans (f1.wide (by omega) (by omega)), ?_⟩
  · rw [f1.1.K]; exact s1
  · rw [f1.1.G]; exact s2
  · rw [f1.1.G]; exact s3
  · rw [f1.1.G]; exact s4
  · exact s5.out f1 (by omega)
  · exact g1
  · exact s7.out f1 (by omega)
  · rw [← st]
    refine Ty.ext2 (fun j => ?_) (fun j => ?_)
    · show (if j < 16 then hF h1 (1003 + j) a else 0) = if j < 16 then hF h (1003 + j) a else 0
      rw [f1.F (q := a) (by omega)]
    · rw [Ty.g2]
      try rw [tyOf_bow]
      show (if j = 0 then gv h1 (a + 2) 11 3 else if j = 1 then gv h1 (a + 4) 11 3 else if j = 2 then gv h1 (a + 6) 120 5 else fun _ _ => 0) = if j = 1 then _ else if j = 0 then gv h (a + 2) 11 3 else if j = 1 then gv h (a + 4) 11 3 else if j = 2 then gv h (a + 6) 120 5 else fun _ _ => 0
      rw [gv_out (b := a + 2) f1 (by omega), v1, gv_out (b := a + 6) f1 (by omega)]
      rcases (show j = 0 ∨ j = 1 ∨ j = 2 ∨ 2 < j by omega) with c | c | c | c
      · subst c; simp
      · subst c; simp
      · subst c; simp
      · simp only [show ¬ j = 0 by omega, show ¬ j = 1 by omega, show ¬ j = 2 by omega, if_false]
theorem gt_fill1 (s : St a h0 h T) {g : Int32 → Int32 → Int32} (hg : T.bow = g) {v : Int32} {f : aH → Option aH} (kk : ∀ h1, St a h0 h1 (T.sBow (gAll 11 3 v)) → GT a h0 (f h1) T') : GT a h0 ((F_X4_fill (a + 3) v h).bind f) T' := by
  obtain ⟨h1, e1, s1⟩ := st_fill1 s (v := v)
  rw [e1]
  subst hg
  exact kk h1 s1
theorem st_set2 (s : St a h0 h T) {r : Int32} {c : Int32} {v : Int32} : ∃ h1, F_X4_set (a + 5) r c v h = some h1 ∧ St a h0 h1 (T.sOv (gS 120 5 T.ov r c v)) := by
  obtain ⟨⟨s1, s2, s3, s4, s5, s6, s7⟩, sf, st⟩ := s
  obtain ⟨h1, e1, g1, f1, v1⟩ := gr_set1 (r := r) (c := c) (v := v) s7 gix_120_5 gij_120_5
  refine ⟨h1, e1, ⟨?_, ?_, ?_, ?_, ?_, ?_, ?_⟩, sf.trans (f1.wide (by omega) (by omega)), ?_⟩
  · rw [f1.1.K]; exact s1
  · rw [f1.1.G]; exact s2
  · rw [f1.1.G]; exact s3
  · rw [f1.1.G]; exact s4
  · exact s5.out f1 (by omega)
  · exact s6.out f1 (by omega)
  · exact g1
  · rw [← st]
    refine Ty.ext2 (fun j => ?_) (fun j => ?_)
    · show (if j < 16 then hF h1 (1003 + j) a else 0) = if j < 16 then hF h (1003 + j) a else 0
      rw [f1.F (q := a) (by omega)]
    · rw [Ty.g2]
      try rw [tyOf_ov]
      show (if j = 0 then gv h1 (a + 2) 11 3 else if j = 1 then gv h1 (a + 4) 11 3 else if j = 2 then gv h1 (a + 6) 120 5 else fun _ _ => 0) = if j = 2 then _ else if j = 0 then gv h (a + 2) 11 3 else if j = 1 then gv h (a + 4) 11 3 else if j = 2 then gv h (a + 6) 120 5 else fun _ _ => 0
      rw [gv_out (b := a + 2) f1 (by omega), gv_out (b := a + 4) f1 (by omega), v1]
      rcases (show j = 0 ∨ j = 1 ∨ j = 2 ∨ 2 < j by omega) with c | c | c | c
      · subst c; simp
      · subst c; simp
      · subst c; simp
      · simp only [show ¬ j = 0 by omega, show ¬ j = 1 by omega, show ¬ j = 2 by omega, if_false]
theorem gt_set2 (s : St a h0 h T) {g : Int32 → Int32 → Int32} (hg : T.ov = g) {r : Int32} {c : Int32} {v : Int32} {f : aH → Option aH} (kk : ∀ h1, St a h0 h1 (T.sOv (gS 120 5 g r c v)) → GT a h0 (f h1) T') : GT a h0 ((F_X4_set (a + 5) r c v h).bind f) T' := by
  obtain ⟨h1, e1, s1⟩ := st_set2 s (r := r) (c := c) (v := v)
  rw [e1]
  subst hg
  exact kk h1 s1
theorem st_add2 (s : St a h0 h T) {r : Int32} {c : Int32} {v : Int32} : ∃ h1, F_X4_add (a + 5) r c v h = some h1 ∧ St a h0 h1 (T.sOv (gAd 120 5 T.ov r c v)) := by
  obtain ⟨⟨s1, s2, s3, s4, s5, s6, s7⟩, sf, st⟩ := s
  obtain ⟨h1, e1, g1, f1, v1⟩ := gr_add1 (r := r) (c := c) (v := v) s7 gix_120_5 gij_120_5
  refine ⟨h1, e1, ⟨?_, ?_, ?_, ?_, ?_, ?_, ?_⟩, sf.trans (f1.wide (by omega) (by omega)), ?_⟩
  · rw [f1.1.K]; exact s1
  · rw [f1.1.G]; exact s2
  · rw [f1.1.G]; exact s3
  · rw [f1.1.G]; exact s4
  · exact s5.out f1 (by omega)
  · exact s6.out f1 (by omega)
  · exact g1
  · rw [← st]
    refine Ty.ext2 (fun j => ?_) (fun j => ?_)
    · show (if j < 16 then hF h1 (1003 + j) a else 0) = if j < 16 then hF h (1003 + j) a else 0
      rw [f1.F (q := a) (by omega)]
    · rw [Ty.g2]
      try rw [tyOf_ov]
      show (if j = 0 then gv h1 (a + 2) 11 3 else if j = 1 then gv h1 (a + 4) 11 3 else if j = 2 then gv h1 (a + 6) 120 5 else fun _ _ => 0) = if j = 2 then _ else if j = 0 then gv h (a + 2) 11 3 else if j = 1 then gv h (a + 4) 11 3 else if j = 2 then gv h (a + 6) 120 5 else fun _ _ => 0
      rw [gv_out (b := a + 2) f1 (by omega), gv_out (b := a + 4) f1 (by omega), v1]
      rcases (show j = 0 ∨ j = 1 ∨ j = 2 ∨ 2 < j by omega) with c | c | c | c
      · subst c; simp
      · subst c; simp
      · subst c; simp
      · simp only [show ¬ j = 0 by omega, show ¬ j = 1 by omega, show ¬ j = 2 by omega, if_false]
theorem gt_add2 (s : St a h0 h T) {g : Int32 → Int32 → Int32} (hg : T.ov = g) {r : Int32} {c : Int32} {v : Int32} {f : aH → Option aH} (kk : ∀ h1, St a h0 h1 (T.sOv (gAd 120 5 g r c v)) → GT a h0 (f h1) T') : GT a h0 ((F_X4_add (a + 5) r c v h).bind f) T' := by
  obtain ⟨h1, e1, s1⟩ := st_add2 s (r := r) (c := c) (v := v)
  rw [e1]
  subst hg
  exact kk h1 s1
theorem st_row2 (s : St a h0 h T) {r : Int32} {v : Int32} : ∃ h1, F_X4_fillRow (a + 5) r v h = some h1 ∧ St a h0 h1 (T.sOv (gRow 120 5 T.ov r v)) := by
  obtain ⟨⟨s1, s2, s3, s4, s5, s6, s7⟩, sf, st⟩ := s
  obtain ⟨h1, e1, g1, f1, v1⟩ := gr_row1 (r := r) (v := v) s7 gix_120_5 gij_120_5 (by decide)
  refine ⟨h1, e1, ⟨?_, ?_, ?_, ?_, ?_, ?_, ?_⟩, sf.trans (f1.wide (by omega) (by omega)), ?_⟩
  · rw [f1.1.K]; exact s1
  · rw [f1.1.G]; exact s2
  · rw [f1.1.G]; exact s3
  · rw [f1.1.G]; exact s4
  · exact s5.out f1 (by omega)
  · exact s6.out f1 (by omega)
  · exact g1
  · rw [← st]
    refine Ty.ext2 (fun j => ?_) (fun j => ?_)
    · show (if j < 16 then hF h1 (1003 + j) a else 0) = if j < 16 then hF h (1003 + j) a else 0
      rw [f1.F (q := a) (by omega)]
    · rw [Ty.g2]
      try rw [tyOf_ov]
      show (if j = 0 then gv h1 (a + 2) 11 3 else if j = 1 then gv h1 (a + 4) 11 3 else if j = 2 then gv h1 (a + 6) 120 5 else fun _ _ => 0) = if j = 2 then _ else if j = 0 then gv h (a + 2) 11 3 else if j = 1 then gv h (a + 4) 11 3 else if j = 2 then gv h (a + 6) 120 5 else fun _ _ => 0
      rw [gv_out (b := a + 2) f1 (by omega), gv_out (b := a + 4) f1 (by omega), v1]
      rcases (show j = 0 ∨ j = 1 ∨ j = 2 ∨ 2 < j by omega) with c | c | c | c
      · subst c; simp
      · subst c; simp
      · subst c; simp
      · simp only [show ¬ j = 0 by omega, show ¬ j = 1 by omega, show ¬ j = 2 by omega, if_false]
theorem gt_row2 (s : St a h0 h T) {g : Int32 → Int32 → Int32} (hg : T.ov = g) {r : Int32} {v : Int32} {f : aH → Option aH} (kk : ∀ h1, St a h0 h1 (T.sOv (gRow 120 5 g r v)) → GT a h0 (f h1) T') : GT a h0 ((F_X4_fillRow (a + 5) r v h).bind f) T' := by
  obtain ⟨h1, e1, s1⟩ := st_row2 s (r := r) (v := v)
  rw [e1]
  subst hg
  exact kk h1 s1
end Step
