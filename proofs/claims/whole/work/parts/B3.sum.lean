/-! sum of the reference -/
section Msu
variable {e : mE} {A : Bk} {g : Int32} {S : Ps} {G : Pg} {st : Int32 → Int32 → Int32}
theorem u_151 {t k : Int32} {k60 : Int32 → Int64 → Int32 → mE → Option (Int64 × mE)} {k107 : Int32 → Int64 → Int32 → Int32 → mE → Option (Int64 × mE)} (H : ∀ w, inL 4 w → P_X12_fieldsOf g t k w e = some (fFields S st t k w, e)) : ∀ n w, ((4 : Int32).toInt - w.toInt).toNat < n → ∀ a, 0 ≤ w → P_X12_sum_151 k60 k107 n g a t k w e = k107 g (sFd S st t k ((4 : Int32).toInt - w.toInt).toNat w a) t (k + 1) e := by
  refine i32_up ?_ ?_
  · intro n w hc a w0
    unfold P_X12_sum_151
    rw [if_pos hc, sub_none hc]
    rfl
  · intro n w hc ih a w0
    unfold P_X12_sum_151
    rw [if_neg (Int32.not_le.mpr hc), H w ⟨w0, hc⟩, sub_succ hc]
    exact ih _ (i32_ps w0 hc)
theorem u_117 {t k : Int32} {k60 : Int32 → Int64 → Int32 → mE → Option (Int64 × mE)} {k107 : Int32 → Int64 → Int32 → Int32 → mE → Option (Int64 × mE)} (H : ∀ w, inL 4 w → P_X12_fieldsOf g t k w e = some (fFields S st t k w, e)) (H2 : ∀ w, inL 4 w → P_X12_batsOf g t k w e = some (fBats S st t k w, e)) : ∀ n w, ((4 : Int32).toInt - w.toInt).toNat < n → ∀ a, 0 ≤ w → P_X12_sum_117 k60 k107 n g a t k w e = k107 g (sFd S st t k 4 0 (sBt S st t k ((4 : Int32).toInt - w.toInt).toNat w a)) t (k + 1) e := by
  refine i32_up ?_ ?_
  · intro n w hc a w0
    unfold P_X12_sum_117
    rw [if_pos hc, sub_none hc]
    have := u_151 (k60 := k60) (k107 := k107) H fu 0 (by decide) a (by decide)
    rw [nz4] at this
    exact this
  · intro n w hc ih a w0
    unfold P_X12_sum_117
    rw [if_neg (Int32.not_le.mpr hc), H2 w ⟨w0, hc⟩, sub_succ hc]
    exact ih _ (i32_ps w0 hc)
theorem u_107 {t : Int32} {k60 : Int32 → Int64 → Int32 → mE → Option (Int64 × mE)} (H : ∀ k w, inL 11 k → inL 4 w → P_X12_fieldsOf g t k w e = some (fFields S st t k w, e)) (H2 : ∀ k w, inL 11 k → inL 4 w → P_X12_batsOf g t k w e = some (fBats S st t k w, e)) : ∀ n k, ((11 : Int32).toInt - k.toInt).toNat < n → ∀ a, 0 ≤ k → P_X12_sum_107 k60 n g a t k e = k60 g (sK S st t ((11 : Int32).toInt - k.toInt).toNat k a) (t + 1) e := by
  refine i32_up ?_ ?_
  · intro n k hc a k0
    unfold P_X12_sum_107
    rw [if_pos hc, sub_none hc]
    rfl
  · intro n k hc ih a k0
    unfold P_X12_sum_107
    have ck : inL 11 k := ⟨k0, hc⟩
    rw [if_neg (Int32.not_le.mpr hc), u_117 (H k · ck) (H2 k · ck) fu 0 (by decide) a (by decide), nz4, sub_succ hc]
    exact ih _ (i32_ps k0 hc)
theorem u_74 {t : Int32} {k60 : Int32 → Int64 → Int32 → mE → Option (Int64 × mE)} (H : ∀ k w, inL 11 k → inL 4 w → P_X12_fieldsOf g t k w e = some (fFields S st t k w, e)) (H2 : ∀ k w, inL 11 k → inL 4 w → P_X12_batsOf g t k w e = some (fBats S st t k w, e)) (H3 : ∀ w, inL 16 w → P_X12_scoreOf g t w e = some (fScore S G t w, e)) : ∀ n w, ((16 : Int32).toInt - w.toInt).toNat < n → ∀ a, 0 ≤ w → P_X12_sum_74 k60 n g a t w e = k60 g (sK S st t 11 0 (sSc S G t ((16 : Int32).toInt - w.toInt).toNat w a)) (t + 1) e := by
  refine i32_up ?_ ?_
  · intro n w hc a w0
    unfold P_X12_sum_74
    rw [if_pos hc, sub_none hc, u_107 H H2 fu 0 (by decide) a (by decide), nz11]
    rfl
  · intro n w hc ih a w0
    unfold P_X12_sum_74
    rw [if_neg (Int32.not_le.mpr hc), H3 w ⟨w0, hc⟩, sub_succ hc]
    exact ih _ (i32_ps w0 hc)
theorem u_60 (g0 : 0 ≤ g ∧ g < 400) (h8 : e.2 8 g = G.turns) (H : ∀ t k w, inL G.turns t → inL 11 k → inL 4 w → P_X12_fieldsOf g t k w e = some (fFields S st t k w, e)) (H2 : ∀ t k w, inL G.turns t → inL 11 k → inL 4 w → P_X12_batsOf g t k w e = some (fBats S st t k w, e)) (H3 : ∀ t w, inL G.turns t → inL 16 w → P_X12_scoreOf g t w e = some (fScore S G t w, e)) : ∀ n t, (G.turns.toInt - t.toInt).toNat < n → ∀ a, 0 ≤ t → P_X12_sum_60 n g a t e = some (sT S G st (G.turns.toInt - t.toInt).toNat t a, e) := by
  refine i32_up ?_ ?_
  · intro n t hc a t0
    unfold P_X12_sum_60
    rw [ck_t g0, h8, if_pos hc, sub_none hc]
    rfl
  · intro n t hc ih a t0
    unfold P_X12_sum_60
    have ct : inL G.turns t := ⟨t0, hc⟩
    rw [ck_t g0, h8, if_neg (Int32.not_le.mpr hc), u_74 (fun k w => H t k w ct) (fun k w => H2 t k w ct) (fun w => H3 t w ct) fu 0 (by decide) a (by decide), nz16, sub_succ hc]
    exact ih _ (i32_ps t0 hc)
theorem u_29 (H4 : ∀ w, inL 15 w → P_X12_nowOf g w e = some (S.fig w, e)) : ∀ n w, ((15 : Int32).toInt - w.toInt).toNat < n → ∀ a, 0 ≤ w → P_X12_sum_29 n g a w e = P_X12_sum_60 fu g (sN S ((15 : Int32).toInt - w.toInt).toNat w a) 0 e := by
  refine i32_up ?_ ?_
  · intro n w hc a w0
    unfold P_X12_sum_29
    rw [if_pos hc, sub_none hc]
    rfl
  · intro n w hc ih a w0
    unfold P_X12_sum_29
    rw [if_neg (Int32.not_le.mpr hc), H4 w ⟨w0, hc⟩, sub_succ hc]
    exact ih _ (i32_ps w0 hc)
theorem m_sum (r : MR e A) (ok : BkOK A) {s : Ps} (hs : TyNs s) (g : Int32) : Rn (P_X12_sum g e) (MQ1 e A (aSum s g A)) := by
  unfold P_X12_sum P_X12_fail aSum
  have r0 := r.c0
  refine rn_bd (rn_o (m_isGame r0 g) (rn_bd (rn_bd ?_)))
  dsimp only
  by_cases c : inL A.games g
  rotate_left
  · rw [if_neg c, if_neg c]
    exact rn_p rfl (rn_s (mq_no r0 rfl _))
  rw [if_pos c, if_pos c]
  obtain ⟨e', p1, p2, p3, p4, p5⟩ := m_play r0 ok c hs
  have pw := r0.pgW ok c
  refine rn_n (by decide) (rn_o p1 ?_)
  have h8 : e'.2 8 g = (A.pg g).turns := (p3.2.2.1 g c).2.2.2.2.2.1
  have bt := fun t k w (ct : inL (A.pg g).turns t) (ck' : inL 11 k) (cw : inL 4 w) => m_batsOf p3 ok c pw p2 ct ck' cw
  have lt15 : ∀ w : Int32, w < 15 → w ≤ 14 := fun w h => by
    clear bt h8 p2 p3 p4 p5 pw r0 r ok hs c p1
    grind
  have lt16 : ∀ w : Int32, w < 16 → w ≤ 15 := fun w h => by
    clear bt h8 p2 p3 p4 p5 pw r0 r ok hs c p1
    grind
  have z : (0 : Int32).toInt = 0 := by decide
  have T4 := le_i (ok.pgo c).t4 (by decide : (4 : Int32).toInt = 4)
  rw [u_29 (fun w cw => r_nowOf pw p2 cw.1 (lt15 w cw.2)) fu 0 (by decide) 0 (by decide), nz15, u_60 (g400 ok c) h8 (fun t k w ct ck' cw => (bt t k w ct ck' cw).2) (fun t k w ct ck' cw => (bt t k w ct ck' cw).1) (fun t w ct cw => r_scoreOf pw p2.low ct.1 ct.2 (p2.tq pw ct.1 ct.2) cw.1 (lt16 w cw.2)) fu 0 (by show _ < 10000000; omega) _ (by decide), z, Int.sub_zero]
  refine rn_s (mq_yes p3 ?_ ?_)
  · exact (p5 0 (Or.inl rfl)).trans rfl
  · exact (p4.1 11 (by decide) (by decide)).trans rfl
end Msu
