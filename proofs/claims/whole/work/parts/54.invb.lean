/-! What holds of a turn as it is played -/
abbrev Iv (ovs m : Int32) (T : Ty) : Prop := (T.played = 1) ∧ (1 ≤ ovs) ∧ (ovs ≤ 120) ∧ (0 ≤ T.whole) ∧ (T.whole ≤ T.begun) ∧ (T.begun ≤ T.whole + 1) ∧ (T.begun ≤ T.allowed) ∧ (T.allowed ≤ ovs) ∧ (0 ≤ T.counted) ∧ (T.counted ≤ 5) ∧ (T.whole = T.begun → T.counted = 0) ∧ (0 ≤ T.outs) ∧ (T.outs ≤ 10) ∧ (T.outs ≤ 9 → T.next = T.outs + 2) ∧ (T.outs ≤ 9 → 0 ≤ T.faces ∧ T.faces < T.next ∧ 0 ≤ T.other ∧ T.other < T.next ∧ T.faces ≠ T.other ∧ T.bat T.faces 2 = 1 ∧ T.bat T.other 2 = 1) ∧ (T.outs ≤ 9 → ∀ k, T.next ≤ k → k < 11 → T.bat k 2 = 0) ∧ (T.begun = 0 → T.bowler = -1) ∧ (T.begun ≠ 0 → 0 ≤ T.bowler ∧ T.bowler < 11) ∧ (∀ k, 0 ≤ k → k < 11 → 0 ≤ T.bow k 0 ∧ T.bow k 0 ≤ (ovs + 4) / 5) ∧ (tb T.left T.outs ≤ T.means) ∧ (T.means ≤ 1000) ∧ (0 ≤ T.score) ∧ (T.score ≤ m) ∧ (T.begun ≠ 0 → T.whole < T.begun → T.ov (T.begun - 1) 3 = 0 ∧ T.ov (T.begun - 1) 2 = T.counted) ∧ (T.begun ≠ 0 → T.whole = T.begun → T.ov (T.begun - 1) 3 = 1)
theorem Iv.pl {ovs m : Int32} {T : Ty} (h : Iv ovs m T) : T.played = 1 := h.1
theorem Iv.v1 {ovs m : Int32} {T : Ty} (h : Iv ovs m T) : 1 ≤ ovs := h.2.1
theorem Iv.v2 {ovs m : Int32} {T : Ty} (h : Iv ovs m T) : ovs ≤ 120 := h.2.2.1
theorem Iv.w0 {ovs m : Int32} {T : Ty} (h : Iv ovs m T) : 0 ≤ T.whole := h.2.2.2.1
theorem Iv.w1 {ovs m : Int32} {T : Ty} (h : Iv ovs m T) : T.whole ≤ T.begun := h.2.2.2.2.1
theorem Iv.w2 {ovs m : Int32} {T : Ty} (h : Iv ovs m T) : T.begun ≤ T.whole + 1 := h.2.2.2.2.2.1
theorem Iv.ba {ovs m : Int32} {T : Ty} (h : Iv ovs m T) : T.begun ≤ T.allowed := h.2.2.2.2.2.2.1
theorem Iv.ao {ovs m : Int32} {T : Ty} (h : Iv ovs m T) : T.allowed ≤ ovs := h.2.2.2.2.2.2.2.1
theorem Iv.c0 {ovs m : Int32} {T : Ty} (h : Iv ovs m T) : 0 ≤ T.counted := h.2.2.2.2.2.2.2.2.1
theorem Iv.c5 {ovs m : Int32} {T : Ty} (h : Iv ovs m T) : T.counted ≤ 5 := h.2.2.2.2.2.2.2.2.2.1
theorem Iv.wc {ovs m : Int32} {T : Ty} (h : Iv ovs m T) : T.whole = T.begun → T.counted = 0 := h.2.2.2.2.2.2.2.2.2.2.1
theorem Iv.o0 {ovs m : Int32} {T : Ty} (h : Iv ovs m T) : 0 ≤ T.outs := h.2.2.2.2.2.2.2.2.2.2.2.1
theorem Iv.o1 {ovs m : Int32} {T : Ty} (h : Iv ovs m T) : T.outs ≤ 10 := h.2.2.2.2.2.2.2.2.2.2.2.2.1
theorem Iv.nx {ovs m : Int32} {T : Ty} (h : Iv ovs m T) : T.outs ≤ 9 → T.next = T.outs + 2 := h.2.2.2.2.2.2.2.2.2.2.2.2.2.1
theorem Iv.lv {ovs m : Int32} {T : Ty} (h : Iv ovs m T) : T.outs ≤ 9 → 0 ≤ T.faces ∧ T.faces < T.next ∧ 0 ≤ T.other ∧ T.other < T.next ∧ T.faces ≠ T.other ∧ T.bat T.faces 2 = 1 ∧ T.bat T.other 2 = 1 := h.2.2.2.2.2.2.2.2.2.2.2.2.2.2.1
theorem Iv.fr {ovs m : Int32} {T : Ty} (h : Iv ovs m T) : T.outs ≤ 9 → ∀ k, T.next ≤ k → k < 11 → T.bat k 2 = 0 := h.2.2.2.2.2.2.2.2.2.2.2.2.2.2.2.1
theorem Iv.bo {ovs m : Int32} {T : Ty} (h : Iv ovs m T) : T.begun = 0 → T.bowler = -1 := h.2.2.2.2.2.2.2.2.2.2.2.2.2.2.2.2.1
theorem Iv.bb {ovs m : Int32} {T : Ty} (h : Iv ovs m T) : T.begun ≠ 0 → 0 ≤ T.bowler ∧ T.bowler < 11 := h.2.2.2.2.2.2.2.2.2.2.2.2.2.2.2.2.2.1
theorem Iv.ob {ovs m : Int32} {T : Ty} (h : Iv ovs m T) : ∀ k, 0 ≤ k → k < 11 → 0 ≤ T.bow k 0 ∧ T.bow k 0 ≤ (ovs + 4) / 5 := h.2.2.2.2.2.2.2.2.2.2.2.2.2.2.2.2.2.2.1
theorem Iv.me {ovs m : Int32} {T : Ty} (h : Iv ovs m T) : tb T.left T.outs ≤ T.means := h.2.2.2.2.2.2.2.2.2.2.2.2.2.2.2.2.2.2.2.1
theorem Iv.m1 {ovs m : Int32} {T : Ty} (h : Iv ovs m T) : T.means ≤ 1000 := h.2.2.2.2.2.2.2.2.2.2.2.2.2.2.2.2.2.2.2.2.1
theorem Iv.s0 {ovs m : Int32} {T : Ty} (h : Iv ovs m T) : 0 ≤ T.score := h.2.2.2.2.2.2.2.2.2.2.2.2.2.2.2.2.2.2.2.2.2.1
theorem Iv.s1 {ovs m : Int32} {T : Ty} (h : Iv ovs m T) : T.score ≤ m := h.2.2.2.2.2.2.2.2.2.2.2.2.2.2.2.2.2.2.2.2.2.2.1
theorem Iv.cu {ovs m : Int32} {T : Ty} (h : Iv ovs m T) : T.begun ≠ 0 → T.whole < T.begun → T.ov (T.begun - 1) 3 = 0 ∧ T.ov (T.begun - 1) 2 = T.counted := h.2.2.2.2.2.2.2.2.2.2.2.2.2.2.2.2.2.2.2.2.2.2.2.1
theorem Iv.cw {ovs m : Int32} {T : Ty} (h : Iv ovs m T) : T.begun ≠ 0 → T.whole = T.begun → T.ov (T.begun - 1) 3 = 1 := h.2.2.2.2.2.2.2.2.2.2.2.2.2.2.2.2.2.2.2.2.2.2.2.2
theorem gRow_at {R C r c v : Int32} {f : Int32 → Int32 → Int32} (h : gin R C r c) : gRow R C f r v r c = v := if_pos ⟨h, rfl⟩
theorem gRow_ne {R C r r' c v : Int32} {f : Int32 → Int32 → Int32} (h : r' ≠ r) : gRow R C f r v r' c = f r' c := if_neg (fun q => h q.2)
section IvS
variable {ovs m : Int32} {T : Ty}
theorem Iv.left_r (h : Iv ovs m T) : 0 ≤ T.left ∧ T.left ≤ 720 := by
  unfold Ty.left
  by_cases e : T.whole = T.begun
  · have := h.wc e
    constructor <;> (have g1 := h.w0; have g2 := h.w1; have g3 := h.w2; have g4 := h.ba; have g5 := h.ao; have g6 := h.v1; have g7 := h.v2; have g8 := h.c0; have g9 := h.c5; have g10 := h.o0; have g11 := h.o1; clear h; grind)
  · constructor <;> (have g1 := h.w0; have g2 := h.w1; have g3 := h.w2; have g4 := h.ba; have g5 := h.ao; have g6 := h.v1; have g7 := h.v2; have g8 := h.c0; have g9 := h.c5; have g10 := h.o0; have g11 := h.o1; clear h; grind)
theorem Iv.me0 (h : Iv ovs m T) : 0 ≤ T.means := i32_tr (tb_pos h.left_r.1 h.left_r.2 h.o0 h.o1) h.me
theorem Iv.chg (h : Iv ovs m T) : Iv ovs m T.chg := by
  refine ⟨h.pl, h.v1, h.v2, h.w0, h.w1, h.w2, h.ba, h.ao, h.c0, h.c5, h.wc, h.o0, h.o1, h.nx, ?_, h.fr, h.bo, h.bb, h.ob, h.me, h.m1, h.s0, h.s1, h.cu, h.cw⟩
  intro q
  obtain ⟨l1, l2, l3, l4, l5, l6, l7⟩ := h.lv q
  exact ⟨l3, l4, l1, l2, fun z => l5 z.symm, l7, l6⟩
theorem Iv.cross (h : Iv ovs m T) {v : Int32} : Iv ovs m (T.cross v) := by
  unfold Ty.cross
  split
  · exact h
  · exact h.chg
theorem Iv.sc (h : Iv ovs m T) {v s : Int32} (hs : s = T.score + v) (h0 : 0 ≤ v) (h1 : v ≤ 15) (hm : m ≤ 40000) : Iv ovs (m + v) (T.sScore s) := by
  subst hs
  have a0 := h.s0
  have a3 := h.s1
  have a1 : 0 ≤ T.score + v := by clear h; grind
  have a2 : T.score + v ≤ m + v := by clear h; grind
  exact ⟨h.pl, h.v1, h.v2, h.w0, h.w1, h.w2, h.ba, h.ao, h.c0, h.c5, h.wc, h.o0, h.o1, h.nx, h.lv, h.fr, h.bo, h.bb, h.ob, h.me, h.m1, a1, a2, h.cu, h.cw⟩
theorem Iv.up (h : Iv ovs m T) {m' : Int32} (hm : m ≤ m') : Iv ovs m' T := ⟨h.pl, h.v1, h.v2, h.w0, h.w1, h.w2, h.ba, h.ao, h.c0, h.c5, h.wc, h.o0, h.o1, h.nx, h.lv, h.fr, h.bo, h.bb, h.ob, h.me, h.m1, h.s0, i32_tr h.s1 hm, h.cu, h.cw⟩
theorem Iv.bat (h : Iv ovs m T) {r c v : Int32} (hc : c ≠ 2) : Iv ovs m (T.sBat (gS 11 3 T.bat r c v)) := by
  have e : ∀ k, gS 11 3 T.bat r c v k 2 = T.bat k 2 := fun k => gS_ne (fun q => hc q.2.symm)
  refine ⟨h.pl, h.v1, h.v2, h.w0, h.w1, h.w2, h.ba, h.ao, h.c0, h.c5, h.wc, h.o0, h.o1, h.nx, ?_, ?_, h.bo, h.bb, h.ob, h.me, h.m1, h.s0, h.s1, h.cu, h.cw⟩
  · intro q
    obtain ⟨l1, l2, l3, l4, l5, l6, l7⟩ := h.lv q
    exact ⟨l1, l2, l3, l4, l5, (e _).trans l6, (e _).trans l7⟩
  · intro q k k1 k2
    exact (e k).trans (h.fr q k k1 k2)
theorem Iv.bow (h : Iv ovs m T) {r c v : Int32} (hc : c ≠ 0) : Iv ovs m (T.sBow (gS 11 3 T.bow r c v)) := by
  have e : ∀ k, gS 11 3 T.bow r c v k 0 = T.bow k 0 := fun k => gS_ne (fun q => hc q.2.symm)
  refine ⟨h.pl, h.v1, h.v2, h.w0, h.w1, h.w2, h.ba, h.ao, h.c0, h.c5, h.wc, h.o0, h.o1, h.nx, h.lv, h.fr, h.bo, h.bb, ?_, h.me, h.m1, h.s0, h.s1, h.cu, h.cw⟩
  intro k k1 k2
  show 0 ≤ gS 11 3 T.bow r c v k 0 ∧ gS 11 3 T.bow r c v k 0 ≤ _
  rw [e]
  exact h.ob k k1 k2
theorem Iv.ov (h : Iv ovs m T) {r c v : Int32} (hc : c ≠ 2) (hc3 : c ≠ 3) : Iv ovs m (T.sOv (gS 120 5 T.ov r c v)) := by
  have e : ∀ k, gS 120 5 T.ov r c v k 2 = T.ov k 2 := fun k => gS_ne (fun q => hc q.2.symm)
  have e3 : ∀ k, gS 120 5 T.ov r c v k 3 = T.ov k 3 := fun k => gS_ne (fun q => hc3 q.2.symm)
  refine ⟨h.pl, h.v1, h.v2, h.w0, h.w1, h.w2, h.ba, h.ao, h.c0, h.c5, h.wc, h.o0, h.o1, h.nx, h.lv, h.fr, h.bo, h.bb, h.ob, h.me, h.m1, h.s0, h.s1, ?_, ?_⟩
  · intro q1 q2
    exact ⟨(e3 _).trans (h.cu q1 q2).1, (e _).trans (h.cu q1 q2).2⟩
  · intro q1 q2
    exact (e3 _).trans (h.cw q1 q2)
theorem Iv.nob1 (h : Iv ovs m T) {a b : Int32} : Iv ovs m ((T.sNobodys a).sExtras b) := ⟨h.pl, h.v1, h.v2, h.w0, h.w1, h.w2, h.ba, h.ao, h.c0, h.c5, h.wc, h.o0, h.o1, h.nx, h.lv, h.fr, h.bo, h.bb, h.ob, h.me, h.m1, h.s0, h.s1, h.cu, h.cw⟩
theorem Iv.ext1 (h : Iv ovs m T) {b : Int32} : Iv ovs m (T.sExtras b) := ⟨h.pl, h.v1, h.v2, h.w0, h.w1, h.w2, h.ba, h.ao, h.c0, h.c5, h.wc, h.o0, h.o1, h.nx, h.lv, h.fr, h.bo, h.bb, h.ob, h.me, h.m1, h.s0, h.s1, h.cu, h.cw⟩
theorem Iv.end1 (h : Iv ovs m T) {b : Int32} : Iv ovs m (T.sEnded b) := ⟨h.pl, h.v1, h.v2, h.w0, h.w1, h.w2, h.ba, h.ao, h.c0, h.c5, h.wc, h.o0, h.o1, h.nx, h.lv, h.fr, h.bo, h.bb, h.ob, h.me, h.m1, h.s0, h.s1, h.cu, h.cw⟩
theorem Iv.hit (h : Iv ovs m T) {v : Int32} (h0 : 0 ≤ v) (h1 : v ≤ 15) (hm : m ≤ 40000) : Iv ovs (m + v) (T.hit v) := by
  unfold Ty.hit
  refine Iv.cross ?_
  exact ((h.bat (c := 0) (by decide)).bow (c := 1) (by decide)).sc rfl h0 h1 hm
theorem Iv.concede (h : Iv ovs m T) (hm : m ≤ 40000) : Iv ovs (m + 1) T.concede := by
  unfold Ty.concede
  exact ((h.bow (c := 1) (by decide)).ext1).sc rfl (by decide) (by decide) hm
theorem Iv.nob (h : Iv ovs m T) {v : Int32} (h0 : 0 ≤ v) (h1 : v ≤ 15) (hm : m ≤ 40000) : Iv ovs (m + v) (T.nob v) := by
  unfold Ty.nob
  refine Iv.cross ?_
  exact (h.nob1).sc rfl h0 h1 hm
theorem Iv.away (h : Iv ovs m T) {v : Int32} (h0 : 0 ≤ v) (h1 : v ≤ 15) (ha : T.begun ≤ T.allowed - v) : Iv ovs m (T.away v) := by
  have hl := h.left_r
  have hl2 : 0 ≤ (T.sAllowed (T.allowed - v)).left ∧ (T.sAllowed (T.allowed - v)).left ≤ T.left := by
    unfold Ty.left
    show 0 ≤ 6 * (T.allowed - v - T.whole) - T.counted ∧ 6 * (T.allowed - v - T.whole) - T.counted ≤ 6 * (T.allowed - T.whole) - T.counted
    clear hl
    by_cases e : T.whole = T.begun
    · have := h.wc e
      constructor <;> (have g1 := h.w0; have g2 := h.w1; have g3 := h.w2; have g4 := h.ba; have g5 := h.ao; have g6 := h.v1; have g7 := h.v2; have g8 := h.c0; have g9 := h.c5; have g10 := h.o0; have g11 := h.o1; clear h; grind)
    · constructor <;> (have g1 := h.w0; have g2 := h.w1; have g3 := h.w2; have g4 := h.ba; have g5 := h.ao; have g6 := h.v1; have g7 := h.v2; have g8 := h.c0; have g9 := h.c5; have g10 := h.o0; have g11 := h.o1; clear h; grind)
  have k1 := tb_mono (b' := (T.sAllowed (T.allowed - v)).left) (b := T.left) (w := T.outs) (w' := T.outs) hl2.1 hl2.2 hl.2 h.o0 (Int32.le_refl _) h.o1
  have k2 := tb_pos hl2.1 (i32_tr hl2.2 hl.2) h.o0 h.o1
  have k3 := tb_top hl.1 hl.2 h.o0 h.o1
  have k4 := h.me
  have k5 := h.m1
  refine ⟨h.pl, h.v1, h.v2, h.w0, h.w1, h.w2, ha, ?_, h.c0, h.c5, h.wc, h.o0, h.o1, h.nx, h.lv, h.fr, h.bo, h.bb, h.ob, ?_, ?_, h.s0, h.s1, h.cu, h.cw⟩
  · show T.allowed - v ≤ ovs
    clear k1 k2 k3 k4 k5 hl hl2
    (have g1 := h.w0; have g2 := h.w1; have g3 := h.w2; have g4 := h.ba; have g5 := h.ao; have g6 := h.v1; have g7 := h.v2; have g8 := h.c0; have g9 := h.c5; have g10 := h.o0; have g11 := h.o1; clear h; grind)
  · show tb (T.sAllowed (T.allowed - v)).left T.outs ≤ T.means - (tb T.left T.outs - tb (T.sAllowed (T.allowed - v)).left T.outs)
    clear h hl hl2 ha
    generalize tb (T.sAllowed (T.allowed - v)).left T.outs = a at *
    generalize tb T.left T.outs = b at *
    generalize T.means = c at *
    grind
  · show T.means - (tb T.left T.outs - tb (T.sAllowed (T.allowed - v)).left T.outs) ≤ 1000
    clear h hl hl2 ha
    generalize tb (T.sAllowed (T.allowed - v)).left T.outs = a at *
    generalize tb T.left T.outs = b at *
    generalize T.means = c at *
    grind
theorem Iv.leave (h : Iv ovs m T) (ho : T.outs ≤ 9) {wf how : Int32} : Iv ovs m (T.leave wf how) := by
  have hl := h.left_r
  obtain ⟨l1, l2, l3, l4, l5, l6, l7⟩ := h.lv ho
  have nx' := h.nx ho
  have fr' := h.fr ho
  have a0 : 0 ≤ T.outs + 1 := by clear hl l1 l2 l3 l4 l5 l6 l7 nx' fr'; (have g1 := h.w0; have g2 := h.w1; have g3 := h.w2; have g4 := h.ba; have g5 := h.ao; have g6 := h.v1; have g7 := h.v2; have g8 := h.c0; have g9 := h.c5; have g10 := h.o0; have g11 := h.o1; clear h; grind)
  have a1 : T.outs + 1 ≤ 10 := by clear hl l1 l2 l3 l4 l5 l6 l7 nx' fr'; (have g1 := h.w0; have g2 := h.w1; have g3 := h.w2; have g4 := h.ba; have g5 := h.ao; have g6 := h.v1; have g7 := h.v2; have g8 := h.c0; have g9 := h.c5; have g10 := h.o0; have g11 := h.o1; clear h; grind)
  have k1 : tb T.left (T.outs + 1) ≤ T.means := i32_tr (tb_mono hl.1 (Int32.le_refl _) hl.2 h.o0 (by clear hl l1 l2 l3 l4 l5 l6 l7 nx' fr'; (have g1 := h.w0; have g2 := h.w1; have g3 := h.w2; have g4 := h.ba; have g5 := h.ao; have g6 := h.v1; have g7 := h.v2; have g8 := h.c0; have g9 := h.c5; have g10 := h.o0; have g11 := h.o1; clear h; grind)) a1) h.me
  have e2 : ∀ k, gAd 120 5 T.ov (T.begun - 1) 1 1 k 2 = T.ov k 2 := fun k => gS_ne (fun q => absurd q.2 (by decide))
  have e3 : ∀ k, gAd 120 5 T.ov (T.begun - 1) 1 1 k 3 = T.ov k 3 := fun k => gS_ne (fun q => absurd q.2 (by decide))
  have cu' : T.begun ≠ 0 → T.whole < T.begun → gAd 120 5 T.ov (T.begun - 1) 1 1 (T.begun - 1) 3 = 0 ∧ gAd 120 5 T.ov (T.begun - 1) 1 1 (T.begun - 1) 2 = T.counted := fun q1 q2 => ⟨(e3 _).trans (h.cu q1 q2).1, (e2 _).trans (h.cu q1 q2).2⟩
  have cw' : T.begun ≠ 0 → T.whole = T.begun → gAd 120 5 T.ov (T.begun - 1) 1 1 (T.begun - 1) 3 = 1 := fun q1 q2 => (e3 _).trans (h.cw q1 q2)
  have z9 : 10 ≤ T.outs + 1 → ¬ T.outs + 1 ≤ 9 := fun p q => by clear h hl l1 l2 l3 l4 l5 l6 l7 nx' fr' e2 e3 cu' cw' k1; grind
  have n1 : ¬ 10 ≤ T.outs + 1 → T.next < 11 ∧ 0 ≤ T.next ∧ T.next + 1 = T.outs + 1 + 2 ∧ T.next < T.next + 1 ∧ T.faces < T.next + 1 ∧ T.other < T.next + 1 ∧ T.faces ≠ T.next ∧ T.other ≠ T.next ∧ ∀ k, T.next + 1 ≤ k → T.next ≤ k ∧ k ≠ T.next ∧ k ≠ T.faces ∧ k ≠ T.other := by
    intro c
    have g10 := h.o0
    clear h hl l6 l7 fr' e2 e3 cu' cw' k1 z9
    refine ⟨by grind, by grind, by grind, by grind, by grind, by grind, by grind, by grind, fun k q => ⟨by grind, by grind, by grind, by grind⟩⟩
  unfold Ty.leave Ty.leave1 Ty.fin
  by_cases hw : wf = 0
  · simp only [if_pos hw]
    by_cases c : 10 ≤ T.outs + 1
    · rw [if_pos (show 10 ≤ Ty.outs (Ty.sOv (Ty.sOuts (Ty.sBat T _) (T.outs + 1)) _) from c)]
      exact ⟨h.pl, h.v1, h.v2, h.w0, h.w1, h.w2, h.ba, h.ao, h.c0, h.c5, h.wc, a0, a1, fun q => absurd q (z9 c), fun q => absurd q (z9 c), fun q => absurd q (z9 c), h.bo, h.bb, h.ob, k1, h.m1, h.s0, h.s1, cu', cw'⟩
    · rw [if_neg (show ¬ 10 ≤ Ty.outs (Ty.sOv (Ty.sOuts (Ty.sBat T _) (T.outs + 1)) _) from c)]
      obtain ⟨m1, m2, m3, m4, m5, m6, m7, m8, m9⟩ := n1 c
      have gn : gin 11 3 T.next 2 := ⟨m2, m1, by decide, by decide⟩
      have b1 : ∀ k, k ≠ T.next → k ≠ T.other → gS 11 3 (gS 11 3 T.bat T.other 2 how) T.next 2 1 k 2 = T.bat k 2 := fun k q1 q2 => by rw [gS_ne (fun z => q1 z.1), gS_ne (fun z => q2 z.1)]
      have b2 : gS 11 3 (gS 11 3 T.bat T.other 2 how) T.next 2 1 T.next 2 = 1 := gS_at gn
      exact ⟨h.pl, h.v1, h.v2, h.w0, h.w1, h.w2, h.ba, h.ao, h.c0, h.c5, h.wc, a0, a1, fun _ => m3, fun _ => ⟨l1, m5, m2, m4, m7, (b1 T.faces m7 l5).trans l6, b2⟩, fun _ k q1 q2 => (b1 k (m9 k q1).2.1 (m9 k q1).2.2.2).trans (fr' k (m9 k q1).1 q2), h.bo, h.bb, h.ob, k1, h.m1, h.s0, h.s1, cu', cw'⟩
  · simp only [if_neg hw]
    by_cases c : 10 ≤ T.outs + 1
    · rw [if_pos (show 10 ≤ Ty.outs (Ty.sOv (Ty.sOuts (Ty.sBat T _) (T.outs + 1)) _) from c)]
      exact ⟨h.pl, h.v1, h.v2, h.w0, h.w1, h.w2, h.ba, h.ao, h.c0, h.c5, h.wc, a0, a1, fun q => absurd q (z9 c), fun q => absurd q (z9 c), fun q => absurd q (z9 c), h.bo, h.bb, h.ob, k1, h.m1, h.s0, h.s1, cu', cw'⟩
    · rw [if_neg (show ¬ 10 ≤ Ty.outs (Ty.sOv (Ty.sOuts (Ty.sBat T _) (T.outs + 1)) _) from c)]
      obtain ⟨m1, m2, m3, m4, m5, m6, m7, m8, m9⟩ := n1 c
      have gn : gin 11 3 T.next 2 := ⟨m2, m1, by decide, by decide⟩
      have b1 : ∀ k, k ≠ T.next → k ≠ T.faces → gS 11 3 (gS 11 3 T.bat T.faces 2 how) T.next 2 1 k 2 = T.bat k 2 := fun k q1 q2 => by rw [gS_ne (fun z => q1 z.1), gS_ne (fun z => q2 z.1)]
      have b2 : gS 11 3 (gS 11 3 T.bat T.faces 2 how) T.next 2 1 T.next 2 = 1 := gS_at gn
      exact ⟨h.pl, h.v1, h.v2, h.w0, h.w1, h.w2, h.ba, h.ao, h.c0, h.c5, h.wc, a0, a1, fun _ => m3, fun _ => ⟨m2, m4, l3, m6, fun z => m8 z.symm, b2, (b1 T.other m8 (fun z => l5 z.symm)).trans l7⟩, fun _ k q1 q2 => (b1 k (m9 k q1).2.1 (m9 k q1).2.2.1).trans (fr' k (m9 k q1).1 q2), h.bo, h.bb, h.ob, k1, h.m1, h.s0, h.s1, cu', cw'⟩
theorem Iv.rowR (h : Iv ovs m T) (hb : T.begun ≠ 0) : 0 ≤ T.begun - 1 ∧ T.begun - 1 < 120 := by
  constructor <;> (have g1 := h.w0; have g2 := h.w1; have g3 := h.w2; have g4 := h.ba; have g5 := h.ao; have g6 := h.v1; have g7 := h.v2; have g8 := h.c0; have g9 := h.c5; have g10 := h.o0; have g11 := h.o1; clear h; grind)
theorem Iv.bn0 (h : Iv ovs m T) (hb : T.whole < T.begun) : T.begun ≠ 0 := by (have g1 := h.w0; have g2 := h.w1; have g3 := h.w2; have g4 := h.ba; have g5 := h.ao; have g6 := h.v1; have g7 := h.v2; have g8 := h.c0; have g9 := h.c5; have g10 := h.o0; have g11 := h.o1; clear h; grind)
/-- an over that isn't whole becomes whole -/
theorem Iv.wholeG (h : Iv ovs m T) (hb : T.whole < T.begun) {f : Int32 → Int32 → Int32} (hf : f (T.begun - 1) 3 = 1) : Iv ovs m ((T.sOv f).end44) := by
  have hl := h.left_r
  unfold Ty.end44
  refine Iv.chg ?_
  have k1 : tb (6 * (T.allowed - (T.whole + 1)) - 0) T.outs ≤ T.means := i32_tr (tb_mono (b := T.left) (by clear hl hf; (have g1 := h.w0; have g2 := h.w1; have g3 := h.w2; have g4 := h.ba; have g5 := h.ao; have g6 := h.v1; have g7 := h.v2; have g8 := h.c0; have g9 := h.c5; have g10 := h.o0; have g11 := h.o1; clear h; grind)) (by unfold Ty.left; clear hl hf; (have g1 := h.w0; have g2 := h.w1; have g3 := h.w2; have g4 := h.ba; have g5 := h.ao; have g6 := h.v1; have g7 := h.v2; have g8 := h.c0; have g9 := h.c5; have g10 := h.o0; have g11 := h.o1; clear h; grind)) hl.2 h.o0 (Int32.le_refl _) h.o1) h.me
  have a1 : 0 ≤ T.whole + 1 := by clear hl hf k1; (have g1 := h.w0; have g2 := h.w1; have g3 := h.w2; have g4 := h.ba; have g5 := h.ao; have g6 := h.v1; have g7 := h.v2; have g8 := h.c0; have g9 := h.c5; have g10 := h.o0; have g11 := h.o1; clear h; grind)
  have a2 : T.whole + 1 ≤ T.begun := by clear hl hf k1; (have g1 := h.w0; have g2 := h.w1; have g3 := h.w2; have g4 := h.ba; have g5 := h.ao; have g6 := h.v1; have g7 := h.v2; have g8 := h.c0; have g9 := h.c5; have g10 := h.o0; have g11 := h.o1; clear h; grind)
  have a3 : T.begun ≤ T.whole + 1 + 1 := by clear hl hf k1; (have g1 := h.w0; have g2 := h.w1; have g3 := h.w2; have g4 := h.ba; have g5 := h.ao; have g6 := h.v1; have g7 := h.v2; have g8 := h.c0; have g9 := h.c5; have g10 := h.o0; have g11 := h.o1; clear h; grind)
  have a4 : ¬ T.whole + 1 < T.begun := by clear hl hf k1; (have g1 := h.w0; have g2 := h.w1; have g3 := h.w2; have g4 := h.ba; have g5 := h.ao; have g6 := h.v1; have g7 := h.v2; have g8 := h.c0; have g9 := h.c5; have g10 := h.o0; have g11 := h.o1; clear h; grind)
  exact ⟨h.pl, h.v1, h.v2, a1, a2, a3, h.ba, h.ao, show (0 : Int32) ≤ 0 by decide, show (0 : Int32) ≤ 5 by decide, fun _ => rfl, h.o0, h.o1, h.nx, h.lv, h.fr, h.bo, h.bb, h.ob, k1, h.m1, h.s0, h.s1, fun q1 q2 => absurd q2 a4, fun q1 q2 => hf⟩
theorem Iv.opn1 (h : Iv ovs m T) {b : Int32} : Iv ovs m (T.sOpn b) := ⟨h.pl, h.v1, h.v2, h.w0, h.w1, h.w2, h.ba, h.ao, h.c0, h.c5, h.wc, h.o0, h.o1, h.nx, h.lv, h.fr, h.bo, h.bb, h.ob, h.me, h.m1, h.s0, h.s1, h.cu, h.cw⟩
theorem sOv_sOv (T : Ty) (f g : Int32 → Int32 → Int32) : (T.sOv f).sOv g = T.sOv g := Ty.ext2 (fun j => rfl) (fun j => by simp only [Ty.i1, Ty.i2, Ty.g1, Ty.g2, ↓reduceIte, Nat.reduceEqDiff]; by_cases c : j = 2 <;> simp [c])
theorem Iv.endO (h : Iv ovs m T) (hb : T.whole < T.begun) : Iv ovs m T.endO := by
  have hr := h.rowR (h.bn0 hb)
  unfold Ty.endO
  exact h.wholeG hb (gS_at ⟨hr.1, hr.2, by decide, by decide⟩)
theorem Iv.endP (h : Iv ovs m T) (hb : T.whole < T.begun) : Iv ovs m T.endP := by
  have hr := h.rowR (h.bn0 hb)
  unfold Ty.endP
  rw [sOv_sOv]
  have e : (T.sOv (gS 120 5 (gS 120 5 T.ov (T.begun - 1) 3 1) (T.begun - 1) 4 1)).sOpn (T.opn + 1) = (T.sOpn (T.opn + 1)).sOv (gS 120 5 (gS 120 5 T.ov (T.begun - 1) 3 1) (T.begun - 1) 4 1) := rfl
  rw [e]
  exact (h.opn1 (b := T.opn + 1)).wholeG hb ((gS_ne (fun q => absurd q.2 (by decide))).trans (gS_at ⟨hr.1, hr.2, by decide, by decide⟩))
theorem Iv.count (h : Iv ovs m T) (hb : T.whole < T.begun) : Iv ovs m T.ent3b.ent4 := by
  have hr := h.rowR (h.bn0 hb)
  have hl := h.left_r
  unfold Ty.ent4
  have e3 : gS 120 5 T.ov (T.begun - 1) 2 (T.counted + 1) (T.begun - 1) 3 = T.ov (T.begun - 1) 3 := gS_ne (fun q => absurd q.2 (by decide))
  have e2 : gS 120 5 T.ov (T.begun - 1) 2 (T.counted + 1) (T.begun - 1) 2 = T.counted + 1 := gS_at ⟨hr.1, hr.2, by decide, by decide⟩
  split
  · have k := h.wholeG hb (f := gS 120 5 (gS 120 5 T.ov (T.begun - 1) 2 (T.counted + 1)) (T.begun - 1) 3 1) (gS_at ⟨hr.1, hr.2, by decide, by decide⟩)
    have e : T.ent3b.endO = (T.sOv (gS 120 5 (gS 120 5 T.ov (T.begun - 1) 2 (T.counted + 1)) (T.begun - 1) 3 1)).end44 := by
      unfold Ty.endO
      have e1 : T.ent3b.ov = gS 120 5 T.ov (T.begun - 1) 2 (T.counted + 1) := rfl
      have e2 : T.ent3b.begun = T.begun := rfl
      rw [e1, e2]
      unfold Ty.ent3b
      rw [sOv_sOv]
      unfold Ty.end44 Ty.chg
      refine Ty.ext2 (fun j => ?_) (fun j => rfl)
      simp only [Ty.i1, Ty.i2, Ty.g1, Ty.g2, ↓reduceIte, Nat.reduceEqDiff]
      by_cases c : j = 11
      · simp [c]
      · simp [c]
    rw [e]
    exact k
  · rename_i c
    replace c : ¬ T.counted + 1 = 6 := c
    have k1 : tb (6 * (T.allowed - T.whole) - (T.counted + 1)) T.outs ≤ T.means := i32_tr (tb_mono (b := T.left) (by clear hl e2 e3 hr; (have g1 := h.w0; have g2 := h.w1; have g3 := h.w2; have g4 := h.ba; have g5 := h.ao; have g6 := h.v1; have g7 := h.v2; have g8 := h.c0; have g9 := h.c5; have g10 := h.o0; have g11 := h.o1; clear h; grind)) (by unfold Ty.left; clear hl e2 e3 hr; (have g1 := h.w0; have g2 := h.w1; have g3 := h.w2; have g4 := h.ba; have g5 := h.ao; have g6 := h.v1; have g7 := h.v2; have g8 := h.c0; have g9 := h.c5; have g10 := h.o0; have g11 := h.o1; clear h; grind)) hl.2 h.o0 (Int32.le_refl _) h.o1) h.me
    have a1 : 0 ≤ T.counted + 1 := by clear hl e2 e3 hr k1; (have g1 := h.w0; have g2 := h.w1; have g3 := h.w2; have g4 := h.ba; have g5 := h.ao; have g6 := h.v1; have g7 := h.v2; have g8 := h.c0; have g9 := h.c5; have g10 := h.o0; have g11 := h.o1; clear h; grind)
    have a2 : T.counted + 1 ≤ 5 := by clear hl e2 e3 hr k1; (have g1 := h.w0; have g2 := h.w1; have g3 := h.w2; have g4 := h.ba; have g5 := h.ao; have g6 := h.v1; have g7 := h.v2; have g8 := h.c0; have g9 := h.c5; have g10 := h.o0; have g11 := h.o1; clear h; grind)
    have a3 : ¬ T.whole = T.begun := by clear hl e2 e3 hr k1; (have g1 := h.w0; have g2 := h.w1; have g3 := h.w2; have g4 := h.ba; have g5 := h.ao; have g6 := h.v1; have g7 := h.v2; have g8 := h.c0; have g9 := h.c5; have g10 := h.o0; have g11 := h.o1; clear h; grind)
    exact ⟨h.pl, h.v1, h.v2, h.w0, h.w1, h.w2, h.ba, h.ao, a1, a2, fun q => absurd q a3, h.o0, h.o1, h.nx, h.lv, h.fr, h.bo, h.bb, h.ob, k1, h.m1, h.s0, h.s1, fun q1 q2 => ⟨e3.trans (h.cu q1 q2).1, e2⟩, fun q1 q2 => absurd q2 a3⟩
theorem Iv.begO1 (h : Iv ovs m T) (hb : T.whole = T.begun) (ha : T.begun < T.allowed) {b : Int32} (b0 : 0 ≤ b) (b1 : b < 11) (hm : T.bow b 0 < (ovs + 4) / 5) : Iv ovs m (T.begO1 b) := by
  have q1 : 0 ≤ T.begun ∧ T.begun < 120 := by clear hm; constructor <;> (have g1 := h.w0; have g2 := h.w1; have g3 := h.w2; have g4 := h.ba; have g5 := h.ao; have g6 := h.v1; have g7 := h.v2; have g8 := h.c0; have g9 := h.c5; have g10 := h.o0; have g11 := h.o1; clear h; grind)
  have e : T.begun + 1 - 1 = T.begun := by clear h hm; grind
  have e2 : gRow 120 5 T.ov T.begun 0 (T.begun + 1 - 1) 2 = 0 := by rw [e]; exact gRow_at ⟨q1.1, q1.2, by decide, by decide⟩
  have e3 : gRow 120 5 T.ov T.begun 0 (T.begun + 1 - 1) 3 = 0 := by rw [e]; exact gRow_at ⟨q1.1, q1.2, by decide, by decide⟩
  have hc := h.wc hb
  have a1 : T.whole ≤ T.begun + 1 := by clear hm e2 e3 e; (have g1 := h.w0; have g2 := h.w1; have g3 := h.w2; have g4 := h.ba; have g5 := h.ao; have g6 := h.v1; have g7 := h.v2; have g8 := h.c0; have g9 := h.c5; have g10 := h.o0; have g11 := h.o1; clear h; grind)
  have a2 : T.begun + 1 ≤ T.whole + 1 := by clear hm e2 e3 e; (have g1 := h.w0; have g2 := h.w1; have g3 := h.w2; have g4 := h.ba; have g5 := h.ao; have g6 := h.v1; have g7 := h.v2; have g8 := h.c0; have g9 := h.c5; have g10 := h.o0; have g11 := h.o1; clear h; grind)
  have a3 : T.begun + 1 ≤ T.allowed := by clear hm e2 e3 e; (have g1 := h.w0; have g2 := h.w1; have g3 := h.w2; have g4 := h.ba; have g5 := h.ao; have g6 := h.v1; have g7 := h.v2; have g8 := h.c0; have g9 := h.c5; have g10 := h.o0; have g11 := h.o1; clear h; grind)
  have a4 : ¬ T.whole = T.begun + 1 := by clear hm e2 e3 e; (have g1 := h.w0; have g2 := h.w1; have g3 := h.w2; have g4 := h.ba; have g5 := h.ao; have g6 := h.v1; have g7 := h.v2; have g8 := h.c0; have g9 := h.c5; have g10 := h.o0; have g11 := h.o1; clear h; grind)
  have a5 : ¬ T.begun + 1 = 0 := by clear hm e2 e3 e; (have g1 := h.w0; have g2 := h.w1; have g3 := h.w2; have g4 := h.ba; have g5 := h.ao; have g6 := h.v1; have g7 := h.v2; have g8 := h.c0; have g9 := h.c5; have g10 := h.o0; have g11 := h.o1; clear h; grind)
  refine ⟨h.pl, h.v1, h.v2, h.w0, a1, a2, a3, h.ao, h.c0, h.c5, fun q => absurd q a4, h.o0, h.o1, h.nx, h.lv, h.fr, fun q => absurd q a5, fun _ => ⟨b0, b1⟩, ?_, h.me, h.m1, h.s0, h.s1, fun _ _ => ⟨e3, e2.trans hc.symm⟩, fun _ q => absurd q a4⟩
  intro k k1 k2
  show 0 ≤ gAd 11 3 T.bow b 0 1 k 0 ∧ gAd 11 3 T.bow b 0 1 k 0 ≤ (ovs + 4) / 5
  have ob := h.ob k k1 k2
  by_cases e : k = b
  · subst e
    rw [gAd, gS_at ⟨k1, k2, by decide, by decide⟩]
    clear h e2 e3 a1 a2 a3 a4 a5 hc q1 ha hb
    generalize (ovs + 4) / 5 = M at *
    generalize T.bow k 0 = z at *
    constructor <;> grind
  · rw [gAd, gS_ne (fun q => e q.1)]
    exact ob
theorem Iv.endP_k (T : Ty) : T.endP.whole = T.whole + 1 ∧ T.endP.begun = T.begun ∧ T.endP.allowed = T.allowed ∧ T.endP.bow = T.bow := by
  exact ⟨rfl, rfl, rfl, rfl⟩
theorem Iv.begO (h : Iv ovs m T) {b s : Int32} (hr : T.ruleO b ((ovs + 4) / 5) = 0) : Iv ovs m (T.begO b s) ∧ (T.begO b s).begun = T.begun + 1 ∧ (T.begO b s).bowler = b ∧ (0 ≤ s → (T.begO b s).whole < (T.begO b s).begun) := by
  have r1 : T.ended = 0 ∧ T.begun < T.allowed := by
    by_cases c : T.ended = 0 ∧ T.begun < T.allowed
    · exact c
    · unfold Ty.ruleO at hr; rw [if_neg c] at hr; exact absurd hr (by decide)
  unfold Ty.ruleO at hr
  rw [if_pos r1] at hr
  have r2 : 0 ≤ b ∧ b < 11 := by
    by_cases c : 0 ≤ b ∧ b < 11
    · exact c
    · rw [if_neg c] at hr; exact absurd hr (by decide)
  rw [if_pos r2] at hr
  have r3 : ¬ b = T.bowler := by
    intro c; rw [if_pos c] at hr; exact absurd hr (by decide)
  rw [if_neg r3] at hr
  have r4 : T.bow b 0 < (ovs + 4) / 5 := by
    by_cases c : T.bow b 0 < (ovs + 4) / 5
    · exact c
    · rw [if_neg c] at hr; exact absurd hr (by decide)
  have key : ∀ U : Ty, Iv ovs m U → U.whole = U.begun → U.begun = T.begun → U.allowed = T.allowed → U.bow = T.bow → Iv ovs m (U.begO2 b s) ∧ (U.begO2 b s).begun = T.begun + 1 ∧ (U.begO2 b s).bowler = b ∧ (0 ≤ s → (U.begO2 b s).whole < (U.begO2 b s).begun) := by
    intro U hU e1 e2 e3 e4
    have h1 := hU.begO1 e1 (by rw [e2, e3]; exact r1.2) r2.1 r2.2 (by rw [e4]; exact r4)
    have w := hU.w0
    have w' := hU.ao
    have w2 := hU.v2
    have w3 : U.begun < U.allowed := by rw [e2, e3]; exact r1.2
    have a1 : U.whole < U.begun + 1 := by clear h1 hU e2 e3 e4 r1 r2 r3 r4 hr h; grind
    unfold Ty.begO2
    split
    · rename_i c
      refine ⟨h1.endP a1, ?_, rfl, fun q => absurd c (Int32.not_lt.mpr q)⟩
      show U.begun + 1 = T.begun + 1
      rw [e2]
    · refine ⟨h1, ?_, rfl, fun q => a1⟩
      show U.begun + 1 = T.begun + 1
      rw [e2]
  unfold Ty.begO
  split
  · rename_i c
    exact key T h (by have := h.w1; clear h key r4 r3 r2 r1 hr; grind) rfl rfl rfl
  · rename_i c
    have hb : T.whole < T.begun := lt_of_nle c
    obtain ⟨k1, k2, k3, k4⟩ := Iv.endP_k T
    have k5 : T.whole + 1 = T.begun := by clear key r4 r3 r2 r1 hr k1 k2 k3 k4; (have g1 := h.w0; have g2 := h.w1; have g3 := h.w2; have g4 := h.ba; have g5 := h.ao; have g6 := h.v1; have g7 := h.v2; have g8 := h.c0; have g9 := h.c5; have g10 := h.o0; have g11 := h.o1; clear h; grind)
    exact key T.endP (h.endP hb) (k1.trans (k5.trans k2.symm)) k2 k3 k4
end IvS
