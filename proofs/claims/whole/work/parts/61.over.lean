/-! An over begins, on both sides -/
section OVB
theorem begO1_z {T : Ty} {b : Int32} (z : Zr T) : T.begO1 b = (((T.sBegun (T.begun + 1)).sBowler b).sBow (gAd 11 3 T.bow b 0 1)) := by
  have e : gRow 120 5 T.ov T.begun 0 = T.ov := by
    funext r c
    unfold gRow
    split
    · rename_i h
      rw [h.2]
      exact (z T.begun c (by rw [← h.2]; exact h.1) (Int32.le_refl _)).symm
    · rfl
  unfold Ty.begO1
  rw [e]
  refine Ty.ext2 (fun j => rfl) (fun j => ?_)
  simp only [Ty.i1, Ty.i2, Ty.g1, Ty.g2, ↓reduceIte, Nat.reduceEqDiff]
  by_cases c : j = 2
  · subst c; simp
  · simp [c]
theorem endP_k2 (T : Ty) : T.endP.score = T.score ∧ T.endP.means = T.means ∧ T.endP.outs = T.outs ∧ T.endP.ended = T.ended ∧ T.endP.played = T.played ∧ T.endP.bowler = T.bowler ∧ T.endP.bat = T.bat ∧ T.endP.next = T.next := ⟨rfl, rfl, rfl, rfl, rfl, rfl, rfl, rfl⟩
theorem begO_k (T : Ty) (b s : Int32) : (T.begO b s).score = T.score ∧ (T.begO b s).means = T.means ∧ (T.begO b s).outs = T.outs ∧ (T.begO b s).ended = T.ended ∧ (T.begO b s).allowed = T.allowed ∧ (T.begO b s).bat = T.bat ∧ ∀ k, (T.begO b s).bow k 2 = T.bow k 2 := by
  have key : ∀ U : Ty, (U.begO2 b s).score = U.score ∧ (U.begO2 b s).means = U.means ∧ (U.begO2 b s).outs = U.outs ∧ (U.begO2 b s).ended = U.ended ∧ (U.begO2 b s).allowed = U.allowed ∧ (U.begO2 b s).bat = U.bat ∧ ∀ k, (U.begO2 b s).bow k 2 = U.bow k 2 := by
    intro U
    unfold Ty.begO2
    split
    · exact ⟨rfl, rfl, rfl, rfl, rfl, rfl, fun k => gS_ne (fun q => absurd q.2 (by decide))⟩
    · exact ⟨rfl, rfl, rfl, rfl, rfl, rfl, fun k => gS_ne (fun q => absurd q.2 (by decide))⟩
  unfold Ty.begO
  split
  · exact key T
  · obtain ⟨k1, k2, k3, k4, k5, k6, k7⟩ := key T.endP
    exact ⟨k1, k2, k3, k4, k5, k6, k7⟩
theorem sim_begO {A B : Ty} (s : Sim A B) (z : Zr B) (hb : B.begun < 120) (h0 : 0 ≤ B.begun) {b v : Int32} : Sim (A.begO b v) (B.begO b v) ∧ (B.begun ≤ B.whole ∨ B.begun - 1 < B.begun → Zr (B.begO b v)) := by
  have key : ∀ U V : Ty, Sim U V → Zr V → V.begun = B.begun → Sim (U.begO2 b v) (V.begO2 b v) ∧ Zr (V.begO2 b v) := by
    intro U V h1 h2 h3
    have hb' : V.begun < 120 := by rw [h3]; exact hb
    have h4 := sim_begO1 h1 h2 hb' (b := b)
    have h5 := zr_begO1 h2 hb' (b := b)
    unfold Ty.begO2
    split
    · refine ⟨sim_endP h4, zr_endP h5 ?_⟩
      show V.begun + 1 - 1 < V.begun + 1
      rw [h3]
      clear h1 h2 h4 h5 s z
      grind
    · exact ⟨h4, h5⟩
  unfold Ty.begO
  rw [s.begun, s.whole]
  by_cases c : B.begun ≤ B.whole
  · rw [if_pos c, if_pos c]
    exact ⟨(key A B s z rfl).1, fun _ => (key A B s z rfl).2⟩
  · rw [if_neg c, if_neg c]
    have hr : B.begun - 1 < B.begun := by clear s z key; grind
    have z2 := zr_endP z hr
    exact ⟨(key A.endP B.endP (sim_endP s) z2 rfl).1, fun _ => (key A.endP B.endP (sim_endP s) z2 rfl).2⟩
end OVB
section OB
variable {t : Int32} {rw : Int32 → Int32} {mn : Int32} {e0 e : mE} {T : Ty} {by' ro : Int32} {pl : Int32 → Int32} {x : Nat → Int32}
/-- a row becomes whole and open -/
theorem r_open (S : RSt t rw mn e0 e T by' ro pl x) (hr : HRow mn T) {f : mE → Option mE} {T' : Ty} {b2 r2 : Int32} {p2 : Int32 → Int32} {x2 : Nat → Int32} (kk : ∀ e1, RSt t rw mn e0 e1 T.endP by' ro pl x → GR t rw mn e0 (f e1) T' b2 r2 p2 x2) : GR t rw mn e0 (bd (mA e 63 (rw (T.begun - 1)) 1) fun e20 => (ck ((0 : Int32) ≤ t ∧ t < (4 : Int32))).bind fun _ => bd (mA e20 42 t ((e20.2 42 t) + 1)) fun e25 => (P_X12_becomesWhole t (rw (T.begun - 1)) e25).bind f) T' b2 r2 p2 x2 := by
  obtain ⟨ho1, ho2, ho3⟩ := hr
  refine gr_ov4 S ho1 ho2 ho3 rfl (fun e S => gr_t S ?_)
  have e1 : e.2 42 t = T.opn := (RSt.opn S).trans rfl
  rw [e1]
  refine gr_opn S (fun e S => ?_)
  refine gr_call (r_whole S ⟨ho1, ho2, ho3⟩) (fun e S => ?_)
  have eq : (((T.sOv (gS 120 5 T.ov (T.begun - 1) 4 1)).sOpn (T.opn + 1)).endO) = T.endP := by
    unfold Ty.endO Ty.endP
    have a1 : ((T.sOv (gS 120 5 T.ov (T.begun - 1) 4 1)).sOpn (T.opn + 1)).ov = gS 120 5 T.ov (T.begun - 1) 4 1 := rfl
    have a2 : ((T.sOv (gS 120 5 T.ov (T.begun - 1) 4 1)).sOpn (T.opn + 1)).begun = T.begun := rfl
    rw [a1, a2, sOv_sOv]
    have a3 : ((T.sOv (gS 120 5 T.ov (T.begun - 1) 4 1)).sOpn (T.opn + 1)).sOv (gS 120 5 (gS 120 5 T.ov (T.begun - 1) 4 1) (T.begun - 1) 3 1) = ((T.sOpn (T.opn + 1)).sOv (gS 120 5 T.ov (T.begun - 1) 4 1)).sOv (gS 120 5 (gS 120 5 T.ov (T.begun - 1) 4 1) (T.begun - 1) 3 1) := rfl
    rw [a3, sOv_sOv, gS_comm (by decide)]
    rfl
  rw [eq] at S
  exact kk e S
end OB
