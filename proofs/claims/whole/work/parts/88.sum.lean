/-! sum on the class's side -/
def sN (S : Ps) : Nat → Int32 → Int64 → Int64
  | 0, _, a => a
  | n + 1, w, a => sN S n (w + 1) (31 * a + (S.fig w).toInt64)
def sSc (S : Ps) (G : Pg) (t : Int32) : Nat → Int32 → Int64 → Int64
  | 0, _, a => a
  | n + 1, w, a => sSc S G t n (w + 1) (31 * a + (fScore S G t w).toInt64)
def sBt (S : Ps) (st : Int32 → Int32 → Int32) (t k : Int32) : Nat → Int32 → Int64 → Int64
  | 0, _, a => a
  | n + 1, w, a => sBt S st t k n (w + 1) (31 * a + (fBats S st t k w).toInt64)
def sFd (S : Ps) (st : Int32 → Int32 → Int32) (t k : Int32) : Nat → Int32 → Int64 → Int64
  | 0, _, a => a
  | n + 1, w, a => sFd S st t k n (w + 1) (31 * a + (fFields S st t k w).toInt64)
def sK (S : Ps) (st : Int32 → Int32 → Int32) (t : Int32) : Nat → Int32 → Int64 → Int64
  | 0, _, a => a
  | n + 1, k, a => sK S st t n (k + 1) (sFd S st t k 4 0 (sBt S st t k 4 0 a))
def sT (S : Ps) (G : Pg) (st : Int32 → Int32 → Int32) : Nat → Int32 → Int64 → Int64
  | 0, _, a => a
  | n + 1, t, a => sT S G st n (t + 1) (sK S st t 11 0 (sSc S G t 16 0 a))
def aSum (s : Ps) (g : Int32) (A : Bk) : Option Int64 := if inL A.games g then some (sT (s.play (A.pg g)) (A.pg g) (A.st g) (A.pg g).turns.toInt.toNat 0 (sN (s.play (A.pg g)) 15 0 0)) else none
section Sm
variable {x : Nat} {h : aH} {lb : Nat → Lab} {ad cp : Adr} {A : Bk} {s : Ps} {g : Int32} {h' : aH}
theorem nz4 : ((4 : Int32).toInt - (0 : Int32).toInt).toNat = 4 := by decide
theorem nz11 : ((11 : Int32).toInt - (0 : Int32).toInt).toNat = 11 := by decide
theorem nz16 : ((16 : Int32).toInt - (0 : Int32).toInt).toNat = 16 := by decide
theorem nz15 : ((15 : Int32).toInt - (0 : Int32).toInt).toNat = 15 := by decide
theorem c_s87 (q : PlQ x h lb ad cp A g s h') (c : inL A.games g) {t k : Int32} {k41 : Nat → Nat → Int32 → Int64 → Int32 → aH → Option (Int64 × aH)} : ∀ n w, ((4 : Int32).toInt - w.toInt).toNat < n → ∀ a, F_X11_addTurnFigures_87 k41 n x (ad 1 g 0 0) t a k w h' = k41 x (ad 1 g 0 0) t (sFd (s.play (A.pg g)) (A.st g) t k ((4 : Int32).toInt - w.toInt).toNat w a) (k + 1) h' := by
  refine i32_up ?_ ?_
  · intro n w hc a
    rw [sub_none hc]
    unfold F_X11_addTurnFigures_87
    rw [if_pos hc, bd_e]
    rfl
  · intro n w hc ih a
    rw [sub_succ hc]
    unfold F_X11_addTurnFigures_87
    rw [if_neg (Int32.not_le.mpr hc), ck_t q.1.k0, f_fields q c, Option.bind_some, bd_e, bd_e, bd_e, bd_e, ih]
    rfl
theorem c_s51 (q : PlQ x h lb ad cp A g s h') (c : inL A.games g) {t k : Int32} {k41 : Nat → Nat → Int32 → Int64 → Int32 → aH → Option (Int64 × aH)} : ∀ n w, ((4 : Int32).toInt - w.toInt).toNat < n → ∀ a, F_X11_addTurnFigures_51 k41 n x (ad 1 g 0 0) t a k w h' = k41 x (ad 1 g 0 0) t (sFd (s.play (A.pg g)) (A.st g) t k 4 0 (sBt (s.play (A.pg g)) (A.st g) t k ((4 : Int32).toInt - w.toInt).toNat w a)) (k + 1) h' := by
  refine i32_up ?_ ?_
  · intro n w hc a
    rw [sub_none hc]
    unfold F_X11_addTurnFigures_51
    rw [if_pos hc, c_s87 q c fu 0 (by decide), nz4]
    rfl
  · intro n w hc ih a
    rw [sub_succ hc]
    unfold F_X11_addTurnFigures_51
    rw [if_neg (Int32.not_le.mpr hc), ck_t q.1.k0, f_bats q c, Option.bind_some, bd_e, bd_e, bd_e, bd_e, ih]
    rfl
theorem c_s41 (q : PlQ x h lb ad cp A g s h') (c : inL A.games g) {t : Int32} : ∀ n k, ((11 : Int32).toInt - k.toInt).toNat < n → ∀ a, F_X11_addTurnFigures_41 n x (ad 1 g 0 0) t a k h' = some (sK (s.play (A.pg g)) (A.st g) t ((11 : Int32).toInt - k.toInt).toNat k a, h') := by
  refine i32_up ?_ ?_
  · intro n k hc a
    rw [sub_none hc]
    unfold F_X11_addTurnFigures_41
    rw [if_pos hc]
    rfl
  · intro n k hc ih a
    rw [sub_succ hc]
    unfold F_X11_addTurnFigures_41
    rw [if_neg (Int32.not_le.mpr hc), c_s51 q c fu 0 (by decide), ih, nz4]
    rfl
theorem c_s6 (q : PlQ x h lb ad cp A g s h') (c : inL A.games g) {t : Int32} (ct : inL (A.pg g).turns t) : ∀ n w, ((16 : Int32).toInt - w.toInt).toNat < n → ∀ a, F_X11_addTurnFigures_6 n x (ad 1 g 0 0) t a w h' = some (sK (s.play (A.pg g)) (A.st g) t 11 0 (sSc (s.play (A.pg g)) (A.pg g) t ((16 : Int32).toInt - w.toInt).toNat w a), h') := by
  refine i32_up ?_ ?_
  · intro n w hc a
    rw [sub_none hc]
    unfold F_X11_addTurnFigures_6
    rw [if_pos hc, c_s41 q c fu 0 (by decide), nz11]
    rfl
  · intro n w hc ih a
    rw [sub_succ hc]
    unfold F_X11_addTurnFigures_6
    rw [if_neg (Int32.not_le.mpr hc), ck_t q.1.k0, f_score q c ct, Option.bind_some, bd_e, bd_e, bd_e, bd_e, ih]
    rfl
theorem c_s65 (q : PlQ x h lb ad cp A g s h') (c : inL A.games g) : ∀ n t, ((A.pg g).turns.toInt - t.toInt).toNat < n → 0 ≤ t → ∀ a, F_X11_sum_65 n x (ad 1 g 0 0) a t h' = some (some (sT (s.play (A.pg g)) (A.pg g) (A.st g) ((A.pg g).turns.toInt - t.toInt).toNat t a), h') := by
  have G := q.1.gm c
  refine i32_up ?_ ?_
  · intro n t hc t0 a
    rw [sub_none hc]
    unfold F_X11_sum_65
    rw [ck_t G.1.1, g_turnCount G, Option.bind_some, bd_e, bd_e, if_pos hc]
    rfl
  · intro n t hc ih t0 a
    rw [sub_succ hc]
    unfold F_X11_sum_65 F_X11_addTurnFigures
    rw [ck_t G.1.1, g_turnCount G, Option.bind_some, bd_e, bd_e, if_neg (Int32.not_le.mpr hc), ck_t q.1.k0, c_s6 q c ⟨t0, hc⟩ fu 0 (by decide), Option.bind_some, bd_e, bd_e, bd_e, ih (i32_ps t0 hc), nz16]
    rfl
theorem c_s32 (q : PlQ x h lb ad cp A g s h') (c : inL A.games g) (ok : BkOK A) : ∀ n w, ((15 : Int32).toInt - w.toInt).toNat < n → ∀ a, F_X11_sum_32 n x (ad 1 g 0 0) a w h' = some (some (sT (s.play (A.pg g)) (A.pg g) (A.st g) (A.pg g).turns.toInt.toNat 0 (sN (s.play (A.pg g)) ((15 : Int32).toInt - w.toInt).toNat w a)), h') := by
  have z : (0 : Int32).toInt = 0 := by decide
  have T4 := le_i (ok.2.2.2.2.2.2.1 g c).1.t4 (by decide : (4 : Int32).toInt = 4)
  refine i32_up ?_ ?_
  · intro n w hc a
    rw [sub_none hc]
    unfold F_X11_sum_32
    have := c_s65 q c fu 0 (by show _ < 10000000; omega) (by decide) a
    rw [z, Int.sub_zero] at this
    rw [if_pos hc, this]
    rfl
  · intro n w hc ih a
    rw [sub_succ hc]
    unfold F_X11_sum_32
    rw [if_neg (Int32.not_le.mpr hc), ck_t q.1.k0, q.1.fx.1.2.2.2.2.2.2.1, Option.bind_some, ck_t q.1.fx.2.2.2.2.2.1.1, c_pfig q.ps, Option.bind_some, bd_e, bd_e, bd_e, bd_e, ih]
    rfl
theorem c_sum (r : CRp x h lb ad cp A) (ok : BkOK A) (g : Int32) : Rn (F_X11_sum x g h) (fun q => ∃ s, TyNs s ∧ q.1 = aSum s g A ∧ Pst x h 0 0 A q.2) := by
  unfold F_X11_sum
  refine rn_o (c_gameAt r g) (rn_bd (rn_bd ?_))
  dsimp only
  by_cases c : inL A.games g
  rotate_left
  · rw [if_neg c]
    refine rn_s ⟨psOf (x + 129) h, tyN_ps _ _, ?_, r.same _ _⟩
    unfold aSum
    rw [if_neg c]
  rw [if_pos c]
  refine rn_ck r.k0 (rn_c (c_playOver r ok c) ?_)
  rintro h' ⟨s, s1, q⟩
  rw [c_s32 q c ok fu 0 (by decide), nz15]
  refine rn_s ⟨s, s1, ?_, q.pst _ _⟩
  unfold aSum
  rw [if_pos c]
end Sm
