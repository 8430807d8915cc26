/-! How many bytes of an image a page takes; the place of a turn, an over, an entry in it -/
def nOv (G : Pg) (t o : Int32) : Nat := 2 + (G.siz t o).toInt.toNat
def nOvs (G : Pg) (t : Int32) : Nat → Int32 → Nat
  | 0, _ => 0
  | n + 1, o => nOv G t o + nOvs G t n (o + 1)
def nTurn (G : Pg) (t : Int32) : Nat := 1 + nOvs G t (G.many t).toInt.toNat 0 + 2
def nTurns (G : Pg) : Nat → Int32 → Nat
  | 0, _ => 0
  | n + 1, t => nTurn G t + nTurns G n (t + 1)
theorem nOvs_s {G : Pg} {t o : Int32} {n : Nat} : nOvs G t (n + 1) o = 2 + (G.siz t o).toInt.toNat + nOvs G t n (o + 1) := rfl
theorem nTurns_s {G : Pg} {t : Int32} {n : Nat} : nTurns G (n + 1) t = 1 + nOvs G t (G.many t).toInt.toNat 0 + 2 + nTurns G n (t + 1) := rfl
theorem nOvs_le {G : Pg} (ok : PgOK G) {t : Int32} (ct : inL G.turns t) : ∀ n o, ((G.many t).toInt - o.toInt).toNat < n → 0 ≤ o → nOvs G t ((G.many t).toInt - o.toInt).toNat o ≤ 42 * ((G.many t).toInt - o.toInt).toNat := by
  refine i32_up ?_ ?_
  · intro n o hc o0
    rw [sub_none hc]
    exact Nat.zero_le _
  · intro n o hc ih o0
    rw [sub_succ hc]
    have := ih (i32_ps o0 hc)
    have s := ((ok.2.2.2 t ct.1 ct.2).2 o o0 hc).2.1.2
    have := le_i s (by decide : (40 : Int32).toInt = 40)
    rw [nOvs_s]
    omega
section Sz
variable {h : aH} {lb : Nat → Lab} {ad cp : Adr} {g sd0 sd1 : Int32} {st : Int32 → Int32 → Int32} {G : Pg}
theorem ofN_a {a b : Nat} : Int32.ofNat a + Int32.ofNat b = Int32.ofNat (a + b) := by rw [Int32.ofNat_add]
theorem siz0 {s : Int32} : (if s < 0 then 0 else s) = Int32.ofNat s.toInt.toNat := by
  have z : (0 : Int32).toInt = 0 := by decide
  by_cases c : s < 0
  · rw [if_pos c]
    have := Int32.lt_iff_toInt_lt.mp c
    rw [show s.toInt.toNat = 0 by omega]
    rfl
  · rw [if_neg c, ofN_toI (Int32.not_lt.mp c)]
/-- the bytes of the first overs of a turn: from o on, up to f -/
theorem s_4 (r : GmL h lb ad cp g sd0 sd1 st G) {t : Int32} (ct : inL G.turns t) {f : Int32} (fm : f ≤ G.many t) : ∀ n o, (f.toInt - o.toInt).toNat < n → 0 ≤ o → ∀ k, F_X10_imageSize_4 n (ad 2 g t 0) f (Int32.ofNat k) o h = some (Int32.ofNat (k + nOvs G t (f.toInt - o.toInt).toNat o), h) := by
  have T := r.in_t ct
  refine i32_up ?_ ?_
  · intro n o hc o0 k
    rw [sub_none hc]
    unfold F_X10_imageSize_4
    rw [if_pos hc]
    rfl
  · intro n o hc ih o0 k
    rw [sub_succ hc]
    unfold F_X10_imageSize_4
    have co : inL (G.many t) o := ⟨o0, Int32.lt_of_lt_of_le hc fm⟩
    have v := (r.in_o ct co).1
    rw [if_neg (Int32.not_le.mpr hc), ck_t T.1.1, T.1.2, Option.bind_some, ck_t T.2.1.1.1, T.2.1.size, Option.bind_some, bd_e, bd_e, if_neg (Int32.not_le.mpr co.2), ck_t T.1.1, T.1.2, Option.bind_some, ck_t T.2.1.1.1, T.2.1.get co.1 co.2, Option.bind_some, bd_e, bd_e, Option.bind_some, ck_t v.1, v.2.2.2.2.2.1, siz0, bd_e, bd_e, bd_e, show (2 : Int32) = Int32.ofNat 2 from rfl, ofN_a, ofN_a, ih (i32_ps o0 hc)]
    rw [nOvs_s, show k + (2 + (G.siz t o).toInt.toNat) + nOvs G t (f.toInt - (o + 1).toInt).toNat (o + 1) = k + (2 + (G.siz t o).toInt.toNat + nOvs G t (f.toInt - (o + 1).toInt).toNat (o + 1)) by omega]
theorem s_img (r : GmL h lb ad cp g sd0 sd1 st G) {t : Int32} (ct : inL G.turns t) {f : Int32} (f0 : 0 ≤ f) (fm : f ≤ G.many t) (fb : f.toInt ≤ 1000) : F_X10_imageSize (ad 2 g t 0) f h = some (Int32.ofNat (nOvs G t f.toInt.toNat 0), h) := by
  unfold F_X10_imageSize
  have z : (0 : Int32).toInt = 0 := by decide
  have := s_4 r ct fm fu 0 (by show _ < 10000000; omega) (by decide) 0
  rw [z, Int.sub_zero, Nat.zero_add] at this
  exact this
theorem s_70 (r : GmL h lb ad cp g sd0 sd1 st G) (ok : PgOK G) {t o i : Int32} (k : Nat) : (inL G.turns t → o ≤ G.many t) → F_X3_placeOf_70 (ad 1 g 0 0) t o i (Int32.ofNat k) h = some (if inL G.turns t ∧ 0 ≤ o then (if 0 ≤ i then Int32.ofNat (k + (1 + nOvs G t o.toInt.toNat 0) + 2) + i else Int32.ofNat (k + (1 + nOvs G t o.toInt.toNat 0))) else Int32.ofNat k, h) := by
  intro om
  unfold F_X3_placeOf_70
  rw [ck_t r.1.1, g_turnAt r, Option.bind_some, bd_e, bd_e]
  dsimp only
  by_cases c : inL G.turns t
  rotate_left
  · rw [if_neg c, if_neg (show ¬ (inL G.turns t ∧ 0 ≤ o) from fun q => c q.1)]
  rw [if_pos c]
  dsimp only
  by_cases c2 : 0 ≤ o
  rotate_left
  · rw [if_neg c2, if_neg (show ¬ (inL G.turns t ∧ 0 ≤ o) from fun q => c2 q.2)]
  have T := r.in_t c
  have mb := le_i (ok.2.2.2 t c.1 c.2).1.2 (by decide : (130 : Int32).toInt = 130)
  have ob := Int32.le_iff_toInt_le.mp (om c)
  rw [if_pos c2, if_pos (show inL G.turns t ∧ 0 ≤ o from ⟨c, c2⟩), ck_t T.1.1, s_img r c c2 (om c) (by omega), Option.bind_some, bd_e, bd_e, show (1 : Int32) = Int32.ofNat 1 from rfl, ofN_a, ofN_a, bd_e]
  by_cases c3 : 0 ≤ i
  · rw [if_pos c3, if_pos c3, show (2 : Int32) = Int32.ofNat 2 from rfl, ofN_a]
  · rw [if_neg c3, if_neg c3]
theorem s_7 (r : GmL h lb ad cp g sd0 sd1 st G) (ok : PgOK G) {t o i : Int32} (t0 : 0 ≤ t) (tt : t ≤ G.turns) : ∀ n q, (t.toInt - q.toInt).toNat < n → 0 ≤ q → ∀ k, F_X3_placeOf_7 n (ad 1 g 0 0) t o i (Int32.ofNat k) q h = F_X3_placeOf_70 (ad 1 g 0 0) t o i (Int32.ofNat (k + nTurns G (t.toInt - q.toInt).toNat q)) h := by
  refine i32_up ?_ ?_
  · intro n q hc q0 k
    rw [sub_none hc]
    unfold F_X3_placeOf_7
    rw [if_pos hc]
    rfl
  · intro n q hc ih q0 k
    rw [sub_succ hc]
    unfold F_X3_placeOf_7
    have cq : inL G.turns q := ⟨q0, Int32.lt_of_lt_of_le hc tt⟩
    have T := r.in_t cq
    have L := r.2.2.1
    have mo := (ok.2.2.2 q cq.1 cq.2).1
    have mb := le_i mo.2 (by decide : (130 : Int32).toInt = 130)
    rw [if_neg (Int32.not_le.mpr hc), ck_t r.1.1, r.1.2.2.2.2.2.2, Option.bind_some, ck_t L.1.1, L.size, Option.bind_some, bd_e, bd_e, if_neg (Int32.not_le.mpr cq.2), ck_t r.1.1, r.1.2.2.2.2.2.2, Option.bind_some, ck_t L.1.1, L.get cq.1 cq.2, Option.bind_some, bd_e, bd_e, Option.bind_some, ck_t T.1.1, ck_t r.1.1, r.1.2.2.2.2.2.2, Option.bind_some, ck_t L.1.1, L.get cq.1 cq.2, Option.bind_some, bd_e, bd_e, Option.bind_some, ck_t T.1.1, t_overCount T, Option.bind_some, bd_e, bd_e, ck_t T.1.1, s_img r cq mo.1 (Int32.le_refl _) (by omega), Option.bind_some, bd_e, bd_e, show (1 : Int32) = Int32.ofNat 1 from rfl, show (2 : Int32) = Int32.ofNat 2 from rfl, ofN_a, ofN_a, ofN_a, bd_e, bd_e, show Int32.ofNat 1 = (1 : Int32) from rfl, ih (i32_ps q0 hc)]
    rw [nTurns_s, show k + (1 + nOvs G q (G.many q).toInt.toNat 0 + 2) + nTurns G (t.toInt - (q + 1).toInt).toNat (q + 1) = k + (1 + nOvs G q (G.many q).toInt.toNat 0 + 2 + nTurns G (t.toInt - (q + 1).toInt).toNat (q + 1)) by omega]
/-- the place of a turn's number of overs, of an over, of an entry -/
def plc (G : Pg) (t o i : Int32) : Int32 := if inL G.turns t ∧ 0 ≤ o then (if 0 ≤ i then Int32.ofNat (28 + nTurns G t.toInt.toNat 0 + (1 + nOvs G t o.toInt.toNat 0) + 2) + i else Int32.ofNat (28 + nTurns G t.toInt.toNat 0 + (1 + nOvs G t o.toInt.toNat 0))) else Int32.ofNat (28 + nTurns G t.toInt.toNat 0)
theorem s_place (r : GmL h lb ad cp g sd0 sd1 st G) (ok : PgOK G) {t o i : Int32} (t0 : 0 ≤ t) (tt : t ≤ G.turns) (om : inL G.turns t → o ≤ G.many t) : F_X3_placeOf (ad 1 g 0 0) t o i h = some (plc G t o i, h) := by
  unfold F_X3_placeOf plc
  have z : (0 : Int32).toInt = 0 := by decide
  have T4 := le_i ok.t4 (by decide : (4 : Int32).toInt = 4)
  have := Int32.le_iff_toInt_le.mp tt
  have k := s_7 r ok (o := o) (i := i) t0 tt fu 0 (by show _ < 10000000; omega) (by decide) 28
  rw [z, Int.sub_zero] at k
  rw [show (28 : Int32) = Int32.ofNat 28 from rfl, k, s_70 r ok _ om]
def imgN (G : Pg) : Nat := 28 + nTurns G G.turns.toInt.toNat 0
theorem s_image (r : GmL h lb ad cp g sd0 sd1 st G) (ok : PgOK G) : F_X3_imageSize (ad 1 g 0 0) h = some (Int32.ofNat (imgN G), h) := by
  unfold F_X3_imageSize
  rw [g_turnCount r, Option.bind_some, bd_e, bd_e, ck_t r.1.1, s_place r ok ok.2.2.1.1 (Int32.le_refl _) (fun c => absurd c.2 (fun q => Int32.lt_irrefl q)), Option.bind_some, bd_e, bd_e]
  unfold plc
  rw [if_neg (fun q => Int32.lt_irrefl q.1.2)]
  rfl
theorem nTurns_le (ok : PgOK G) : ∀ n t, (G.turns.toInt - t.toInt).toNat < n → 0 ≤ t → nTurns G (G.turns.toInt - t.toInt).toNat t ≤ 5463 * (G.turns.toInt - t.toInt).toNat := by
  refine i32_up ?_ ?_
  · intro n t hc t0
    rw [sub_none hc]
    exact Nat.zero_le _
  · intro n t hc ih t0
    rw [sub_succ hc]
    have := ih (i32_ps t0 hc)
    have mo := (ok.2.2.2 t t0 hc).1
    have mb := le_i mo.2 (by decide : (130 : Int32).toInt = 130)
    have z : (0 : Int32).toInt = 0 := by decide
    have k := nOvs_le ok ⟨t0, hc⟩ fu 0 (by show _ < 10000000; omega) (by decide)
    rw [z, Int.sub_zero] at k
    rw [nTurns_s]
    omega
theorem imgN_le (ok : PgOK G) : imgN G ≤ 21880 := by
  have z : (0 : Int32).toInt = 0 := by decide
  have T4 := le_i ok.t4 (by decide : (4 : Int32).toInt = 4)
  have k := nTurns_le ok fu 0 (by show _ < 10000000; omega) (by decide)
  rw [z, Int.sub_zero] at k
  unfold imgN
  omega
end Sz
