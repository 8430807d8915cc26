/-! image on the class's side -/
abbrev Wr : Type := Int32 × (Int32 → Int32)
def wAdd (v : Int32) (w : Wr) : Wr := (w.1 + 1, tAdd w.2 w.1 v)
def wEnt (G : Pg) (t o : Int32) : Nat → Int32 → Wr → Wr
  | 0, _, w => w
  | n + 1, i, w => wEnt G t o n (i + 1) (wAdd (G.ent t o i) w)
def wOvs (G : Pg) (t : Int32) : Nat → Int32 → Wr → Wr
  | 0, _, w => w
  | n + 1, o, w => wOvs G t n (o + 1) (wEnt G t o (G.siz t o).toInt.toNat 0 (wAdd (G.siz t o + 1) (wAdd (G.bow t o) w)))
def wTurn (S : Ps) (G : Pg) (t : Int32) (w : Wr) : Wr := wAdd (S.ty t).score (wAdd ((S.ty t).score >>> (8 &&& 31)) (wOvs G t (G.many t).toInt.toNat 0 (wAdd (G.many t) w)))
def wTurns (S : Ps) (G : Pg) : Nat → Int32 → Wr → Wr
  | 0, _, w => w
  | n + 1, t, w => wTurns S G n (t + 1) (wTurn S G t w)
def wSeat (st : Int32 → Int32 → Int32) (s : Int32) : Nat → Int32 → Wr → Wr
  | 0, _, w => w
  | n + 1, k, w => wSeat st s n (k + 1) (wAdd (st s k) w)
def wHead (a b : Int32) (st : Int32 → Int32 → Int32) (G : Pg) (w : Wr) : Wr := wAdd G.turns (wSeat st 1 11 0 (wSeat st 0 11 0 (wAdd G.each (wAdd G.ovs (wAdd b (wAdd a (wAdd 66 w)))))))
theorem wAdd_n {v : Int32} {w : Wr} (h : w.1.toInt < 8000) (h0 : 0 ≤ w.1.toInt) : (wAdd v w).1.toInt = w.1.toInt + 1 := i32_succ (e := 9000) (Int32.lt_iff_toInt_lt.mpr (by
  have : (9000 : Int32).toInt = 9000 := by decide
  show w.1.toInt < _
  omega))
theorem wEnt_n {G : Pg} {t o : Int32} : ∀ (n : Nat) (i : Int32) (w : Wr), 0 ≤ w.1.toInt → w.1.toInt + n ≤ 8000 → (wEnt G t o n i w).1.toInt = w.1.toInt + n
  | 0, _, w, _, _ => by
    show w.1.toInt = w.1.toInt + ((0 : Nat) : Int)
    omega
  | n + 1, i, w, h0, h1 => by
    have e := wAdd_n (v := G.ent t o i) (w := w) (by omega) h0
    have := wEnt_n (G := G) (t := t) (o := o) n (i + 1) (wAdd (G.ent t o i) w) (by omega) (by omega)
    unfold wEnt
    omega
theorem wSeat_n {st : Int32 → Int32 → Int32} {s : Int32} : ∀ (n : Nat) (i : Int32) (w : Wr), 0 ≤ w.1.toInt → w.1.toInt + n ≤ 8000 → (wSeat st s n i w).1.toInt = w.1.toInt + n
  | 0, _, w, _, _ => by
    show w.1.toInt = w.1.toInt + ((0 : Nat) : Int)
    omega
  | n + 1, i, w, h0, h1 => by
    have e := wAdd_n (v := st s i) (w := w) (by omega) h0
    have := wSeat_n (st := st) (s := s) n (i + 1) (wAdd (st s i) w) (by omega) (by omega)
    unfold wSeat
    omega
theorem wOvs_n {G : Pg} {t : Int32} : ∀ n o (w : Wr), 0 ≤ w.1.toInt → w.1.toInt + nOvs G t n o ≤ 8000 → (wOvs G t n o w).1.toInt = w.1.toInt + nOvs G t n o
  | 0, _, w, _, _ => by
    show w.1.toInt = w.1.toInt + ((0 : Nat) : Int)
    omega
  | n + 1, o, w, h0, h1 => by
    rw [nOvs_s] at h1 ⊢
    have e1 := wAdd_n (v := G.bow t o) (w := w) (by omega) h0
    have e2 := wAdd_n (v := G.siz t o + 1) (w := wAdd (G.bow t o) w) (by omega) (by omega)
    have e3 := wEnt_n (G := G) (t := t) (o := o) (G.siz t o).toInt.toNat 0 (wAdd (G.siz t o + 1) (wAdd (G.bow t o) w)) (by omega) (by omega)
    have := wOvs_n (G := G) (t := t) n (o + 1) (wEnt G t o (G.siz t o).toInt.toNat 0 (wAdd (G.siz t o + 1) (wAdd (G.bow t o) w))) (by omega) (by omega)
    unfold wOvs
    omega
theorem wTurn_n {S : Ps} {G : Pg} {t : Int32} {w : Wr} (h0 : 0 ≤ w.1.toInt) (h1 : w.1.toInt + nTurn G t ≤ 8000) : (wTurn S G t w).1.toInt = w.1.toInt + nTurn G t := by
  unfold nTurn at h1 ⊢
  have e1 := wAdd_n (v := G.many t) (w := w) (by omega) h0
  have e2 := wOvs_n (G := G) (t := t) (G.many t).toInt.toNat 0 (wAdd (G.many t) w) (by omega) (by omega)
  have e3 := wAdd_n (v := (S.ty t).score >>> (8 &&& 31)) (w := wOvs G t (G.many t).toInt.toNat 0 (wAdd (G.many t) w)) (by omega) (by omega)
  have e4 := wAdd_n (v := (S.ty t).score) (w := wAdd ((S.ty t).score >>> (8 &&& 31)) (wOvs G t (G.many t).toInt.toNat 0 (wAdd (G.many t) w))) (by omega) (by omega)
  unfold wTurn
  omega
theorem wTurns_n {S : Ps} {G : Pg} : ∀ n t (w : Wr), 0 ≤ w.1.toInt → w.1.toInt + nTurns G n t ≤ 8000 → (wTurns S G n t w).1.toInt = w.1.toInt + nTurns G n t
  | 0, _, w, _, _ => by
    show w.1.toInt = w.1.toInt + ((0 : Nat) : Int)
    omega
  | n + 1, t, w, h0, h1 => by
    have e : nTurns G (n + 1) t = nTurn G t + nTurns G n (t + 1) := rfl
    rw [e] at h1 ⊢
    have e1 := wTurn_n (S := S) (G := G) (t := t) (w := w) h0 (by omega)
    have := wTurns_n (S := S) (G := G) n (t + 1) (wTurn S G t w) (by omega) (by omega)
    unfold wTurns
    omega
section Im
variable {x : Nat} {h1 : aH} {lb : Nat → Lab} {ad cp : Adr} {A : Bk} {g : Int32} {S : Ps}
/-- the row of bytes holds w, all else is as it was -/
def WH (x : Nat) (h1 h : aH) (w : Wr) : Prop := BtH h (x + 5) 8000 w.1 w.2 ∧ frn (x + 5) 2 h1 h
theorem w_add {h : aH} {w : Wr} (q : WH x h1 h w) (hm : w.1.toInt < 8000) (v : Int32) : Rn (F_X0_add (x + 5) v h) (fun h' => WH x h1 h' (wAdd v w)) := (b_add q.1 (by decide) hm v).imp (fun h' y => ⟨y.1, q.2.trans y.2⟩)
theorem WH.p {h : aH} {w : Wr} (q : WH x h1 h w) : 0 ≤ w.1.toInt := by
  have := Int32.le_iff_toInt_le.mp q.1.2.2.1
  have z : (0 : Int32).toInt = 0 := by decide
  omega
theorem w_k {h : aH} {w : Wr} (r : CRp x h1 lb ad cp A) (q : WH x h1 h w) : hK h x = 13 ∧ hG h 1203 x = some (x + 5) ∧ hG h 1205 x = some (x + 129) ∧ hK h (x + 5) = 2 ∧ hK h (x + 129) = 8 ∧ PS (x + 129) h ∧ psOf (x + 129) h = psOf (x + 129) h1 := by
  have f := q.2
  exact ⟨by rw [f.1.K]; exact r.k0, by rw [f.1.G]; exact r.fx.1.2.2.2.2.1, by rw [f.1.G]; exact r.fx.1.2.2.2.2.2.2.1, q.1.1.1, by rw [f.1.K]; exact r.fx.2.2.2.2.2.1.1, r.fx.2.2.2.2.2.1.cl (fun b b0 b1 => cel_frn f (by omega)), psOf_cl (fun b b0 b1 => cel_frn f (by omega))⟩
theorem w_gm {h : aH} {w : Wr} (r : CRp x h1 lb ad cp A) (q : WH x h1 h w) (c : inL A.games g) : GmL h lb ad cp g (A.sd0 g) (A.sd1 g) (A.st g) (A.pg g) := gm_frP (r.gm c) r.pl.1 q.2.1 (fun b hb => cel_frn q.2 (by omega))
theorem w_66 (r : CRp x h1 lb ad cp A) (ok : BkOK A) (c : inL A.games g) {t o m : Int32} (cO : inO A g t o) {k17 : Nat → Nat → Int32 → Int32 → Int32 → aH → Option aH} {Q : aH → Prop} : ∀ n i, (((A.pg g).siz t o).toInt - i.toInt).toNat < n → ∀ (h : aH) (w : Wr), 0 ≤ i → WH x h1 h w → w.1.toInt + (((A.pg g).siz t o).toInt - i.toInt).toNat ≤ 8000 → (∀ h', WH x h1 h' (wEnt (A.pg g) t o (((A.pg g).siz t o).toInt - i.toInt).toNat i w) → Rn (k17 x (ad 1 g 0 0) t m (o + 1) h') Q) → Rn (F_X11_writeTurn_66 k17 n x (ad 1 g 0 0) t m o (ad 3 g t o) i h) Q := by
  refine i32_up ?_ ?_
  · intro n i hc h w i0 q hm K
    rw [sub_none hc] at K
    have v := ((w_gm r q c).in_o cO.2.1 cO.2.2).1
    unfold F_X11_writeTurn_66 F_X11_writeTurn_96
    refine rn_ck v.1 ?_
    rw [v.2.2.2.2.2.1]
    exact rn_p hc (rn_bd (K h q))
  · intro n i hc ih h w i0 q hm K
    rw [sub_succ hc] at K hm
    have v := ((w_gm r q c).in_o cO.2.1 cO.2.2).1
    obtain ⟨k1, k2, k3, k4, k5, k6, k7⟩ := w_k r q
    unfold F_X11_writeTurn_66
    refine rn_ck v.1 ?_
    rw [v.2.2.2.2.2.1]
    refine rn_n (Int32.not_le.mpr hc) (rn_ck k1 (rn_o k2 (rn_o (o_at v (ok.ov cO).2.1.2 i) (rn_bd (rn_bd (rn_ck k4 ?_))))))
    dsimp only
    rw [if_pos ⟨i0, hc⟩]
    refine rn_c (w_add q (by omega) _) (fun h12 y => rn_bd (ih h12 _ (i32_ps i0 hc) y ?_ K))
    have := wAdd_n (v := (A.pg g).ent t o i) (w := w) (by omega) q.p
    omega
theorem w_17 (r : CRp x h1 lb ad cp A) (ok : BkOK A) (c : inL A.games g) (eS : psOf (x + 129) h1 = S) {t : Int32} (ct : inL (A.pg g).turns t) : ∀ n o, (((A.pg g).many t).toInt - o.toInt).toNat < n → ∀ (h : aH) (w : Wr), 0 ≤ o → WH x h1 h w → w.1.toInt + nOvs (A.pg g) t (((A.pg g).many t).toInt - o.toInt).toNat o + 2 ≤ 8000 → Rn (F_X11_writeTurn_17 n x (ad 1 g 0 0) t ((A.pg g).many t) o h) (fun h' => WH x h1 h' (wAdd (S.ty t).score (wAdd ((S.ty t).score >>> (8 &&& 31)) (wOvs (A.pg g) t (((A.pg g).many t).toInt - o.toInt).toNat o w)))) := by
  refine i32_up ?_ ?_
  · intro n o hc h w o0 q hm
    rw [sub_none hc] at hm ⊢
    obtain ⟨k1, k2, k3, k4, k5, k6, k7⟩ := w_k r q
    have PS1 : PSt (x + 129) h h S := ⟨k6, frn.refl _ _ _, k7.trans eS⟩
    unfold F_X11_writeTurn_17
    refine rn_p hc (rn_ck k1 (rn_o k3 (rn_ck k5 (rn_o (c_tallyAt k6 t) (rn_bd (rn_bd (rn_o rfl (rn_ck (PS1.KT t) (rn_bd (rn_ck k1 (rn_o k2 (rn_ck k4 ?_))))))))))))
    dsimp only
    rw [(PS1.T t).score]
    have h0 : nOvs (A.pg g) t 0 o = 0 := rfl
    rw [h0] at hm
    refine rn_c (w_add q (by omega) _) (fun h19 y => ?_)
    obtain ⟨k1, k2, k3, k4, k5, k6, k7⟩ := w_k r y
    have e1 := wAdd_n (v := (S.ty t).score >>> (8 &&& 31)) (w := w) (by omega) q.p
    exact rn_ck k1 (rn_o k2 (rn_ck k4 (rn_c (w_add y (by omega) _) (fun h26 z => rn_s z))))
  · intro n o hc ih h w o0 q hm
    rw [sub_succ hc] at hm ⊢
    rw [nOvs_s] at hm
    have co : inL ((A.pg g).many t) o := ⟨o0, hc⟩
    have cO : inO A g t o := ⟨c, ct, co⟩
    have G := w_gm r q c
    have v := (G.in_o ct co).1
    obtain ⟨k1, k2, k3, k4, k5, k6, k7⟩ := w_k r q
    unfold F_X11_writeTurn_17
    refine rn_n (Int32.not_le.mpr hc) (rn_ck G.1.1 (rn_o (g_overAt G t o) (rn_bd (rn_bd ?_))))
    dsimp only
    rw [if_pos (show inL (A.pg g).turns t ∧ inL ((A.pg g).many t) o from ⟨ct, co⟩)]
    dsimp only
    refine rn_ck k1 (rn_o k2 (rn_ck v.1 (rn_ck k4 ?_)))
    rw [v.2.2.2.2.1]
    refine rn_c (w_add q (by omega) _) (fun h40 y => ?_)
    obtain ⟨k1, k2, k3, k4, k5, k6, k7⟩ := w_k r y
    have v2 := ((w_gm r y c).in_o ct co).1
    have e1 := wAdd_n (v := (A.pg g).bow t o) (w := w) (by omega) q.p
    refine rn_ck k1 (rn_o k2 (rn_ck v2.1 (rn_ck k4 ?_)))
    rw [v2.2.2.2.2.2.1]
    refine rn_c (w_add y (by omega) _) (fun h48 y2 => ?_)
    have e2 := wAdd_n (v := (A.pg g).siz t o + 1) (w := wAdd ((A.pg g).bow t o) w) (by omega) y.p
    have z : (0 : Int32).toInt = 0 := by decide
    have sb := le_i (ok.ov cO).2.1.2 (by decide : (40 : Int32).toInt = 40)
    refine w_66 r ok c cO fu 0 (by show _ < 10000000; omega) h48 _ (by decide) y2 (by rw [z, Int.sub_zero]; omega) ?_
    intro h' y3
    rw [z, Int.sub_zero] at y3
    have e3 := wEnt_n (G := A.pg g) (t := t) (o := o) ((A.pg g).siz t o).toInt.toNat 0 (wAdd ((A.pg g).siz t o + 1) (wAdd ((A.pg g).bow t o) w)) y2.p (by omega)
    exact ih h' _ (i32_ps o0 hc) y3 (by omega)
theorem w_turn (r : CRp x h1 lb ad cp A) (ok : BkOK A) (c : inL A.games g) (eS : psOf (x + 129) h1 = S) {t : Int32} (ct : inL (A.pg g).turns t) {h : aH} {w : Wr} (q : WH x h1 h w) (hm : w.1.toInt + nTurn (A.pg g) t ≤ 8000) : Rn (F_X11_writeTurn x (ad 1 g 0 0) t h) (fun h' => WH x h1 h' (wTurn S (A.pg g) t w)) := by
  unfold F_X11_writeTurn
  unfold nTurn at hm
  have G := w_gm r q c
  obtain ⟨k1, k2, k3, k4, k5, k6, k7⟩ := w_k r q
  have mo := ((ok.2.2.2.2.2.2.1 g c).1.2.2.2 t ct.1 ct.2).1
  have mb := le_i mo.2 (by decide : (130 : Int32).toInt = 130)
  have z : (0 : Int32).toInt = 0 := by decide
  refine rn_ck G.1.1 (rn_o (g_overCountOf G t) (rn_bd (rn_bd (rn_ck k1 (rn_o k2 (rn_ck k4 ?_))))))
  dsimp only
  rw [if_pos ct]
  refine rn_c (w_add q (by omega) _) (fun h11 y => ?_)
  have e1 := wAdd_n (v := (A.pg g).many t) (w := w) (by omega) q.p
  have := w_17 r ok c eS ct fu 0 (by show _ < 10000000; omega) h11 _ (by decide) y (by rw [z, Int.sub_zero]; omega)
  rw [z, Int.sub_zero] at this
  exact this
theorem w_64 (r : CRp x h1 lb ad cp A) (c : inL A.games g) {s : Int32} {k57 : Nat → Nat → Int32 → aH → Option aH} {Q : aH → Prop} : ∀ n k, ((11 : Int32).toInt - k.toInt).toNat < n → ∀ (h : aH) (w : Wr), WH x h1 h w → w.1.toInt + ((11 : Int32).toInt - k.toInt).toNat ≤ 8000 → (∀ h', WH x h1 h' (wSeat (A.st g) s ((11 : Int32).toInt - k.toInt).toNat k w) → Rn (k57 x (ad 1 g 0 0) (s + 1) h') Q) → Rn (F_X11_writeHead_64 k57 n x (ad 1 g 0 0) s k h) Q := by
  refine i32_up ?_ ?_
  · intro n k hc h w q hm K
    rw [sub_none hc] at K
    unfold F_X11_writeHead_64
    exact rn_p hc (rn_bd (K h q))
  · intro n k hc ih h w q hm K
    rw [sub_succ hc] at K hm
    have G := w_gm r q c
    obtain ⟨k1, k2, k3, k4, k5, k6, k7⟩ := w_k r q
    unfold F_X11_writeHead_64
    refine rn_n (Int32.not_le.mpr hc) (rn_ck k1 (rn_o k2 (rn_ck G.1.1 (rn_o (g_playerAt G s k) (rn_bd (rn_bd ?_))))))
    dsimp only
    refine rn_ck k4 (rn_c (w_add q (by omega) _) (fun h13 y => rn_bd (ih h13 _ y ?_ K)))
    have := wAdd_n (v := A.st g s k) (w := w) (by omega) q.p
    omega
theorem w_head (r : CRp x h1 lb ad cp A) (c : inL A.games g) {h : aH} {w : Wr} (q : WH x h1 h w) (hm : w.1.toInt + 28 ≤ 8000) : Rn (F_X11_writeHead x (ad 1 g 0 0) h) (fun h' => WH x h1 h' (wHead (A.sd0 g) (A.sd1 g) (A.st g) (A.pg g) w)) := by
  unfold F_X11_writeHead wHead
  obtain ⟨k1, k2, k3, k4, k5, k6, k7⟩ := w_k r q
  refine rn_o k2 (rn_ck k4 (rn_c (w_add q (by omega) 66) (fun h5 q1 => ?_)))
  have e1 := wAdd_n (v := 66) (w := w) (by omega) q.p
  obtain ⟨k1, k2, k3, k4, k5, k6, k7⟩ := w_k r q1
  have G := w_gm r q1 c
  refine rn_ck k1 (rn_o k2 (rn_ck G.1.1 (rn_o (g_sideAt G 0) (rn_bd (rn_bd ?_)))))
  dsimp only
  rw [if_pos rfl]
  refine rn_ck k4 (rn_c (w_add q1 (by omega) _) (fun h17 q2 => ?_))
  have e2 := wAdd_n (v := A.sd0 g) (w := wAdd 66 w) (by omega) q1.p
  obtain ⟨k1, k2, k3, k4, k5, k6, k7⟩ := w_k r q2
  have G := w_gm r q2 c
  refine rn_ck k1 (rn_o k2 (rn_ck G.1.1 (rn_o (g_sideAt G 1) (rn_bd (rn_bd (rn_ck k4 ?_))))))
  dsimp only
  rw [if_neg (by decide)]
  refine rn_c (w_add q2 (by omega) _) (fun h29 q3 => ?_)
  have e3 := wAdd_n (v := A.sd1 g) (w := wAdd (A.sd0 g) (wAdd 66 w)) (by omega) q2.p
  obtain ⟨k1, k2, k3, k4, k5, k6, k7⟩ := w_k r q3
  have G := w_gm r q3 c
  refine rn_ck k1 (rn_o k2 (rn_ck G.1.1 (rn_ck k4 ?_)))
  rw [G.1.2.2.2.1]
  refine rn_c (w_add q3 (by omega) _) (fun h37 q4 => ?_)
  have e4 := wAdd_n (v := (A.pg g).ovs) (w := wAdd (A.sd1 g) (wAdd (A.sd0 g) (wAdd 66 w))) (by omega) q3.p
  obtain ⟨k1, k2, k3, k4, k5, k6, k7⟩ := w_k r q4
  have G := w_gm r q4 c
  refine rn_ck k1 (rn_o k2 (rn_ck G.1.1 (rn_ck k4 ?_)))
  rw [G.1.2.2.2.2.1]
  refine rn_c (w_add q4 (by omega) _) (fun h45 q5 => ?_)
  have e5 := wAdd_n (v := (A.pg g).each) (w := wAdd (A.pg g).ovs (wAdd (A.sd1 g) (wAdd (A.sd0 g) (wAdd 66 w)))) (by omega) q4.p
  obtain ⟨n1, en1⟩ := fu1
  obtain ⟨n2, en2⟩ : ∃ n, n1 = n + 1 := ⟨9999998, by have : fu = 10000000 := rfl; omega⟩
  obtain ⟨n3, en3⟩ : ∃ n, n2 = n + 1 := ⟨9999997, by have : fu = 10000000 := rfl; omega⟩
  rw [en1]
  unfold F_X11_writeHead_57
  refine rn_n (by decide) ?_
  have h11 : (11 : Int32).toInt = 11 := by decide
  have z : (0 : Int32).toInt = 0 := by decide
  refine w_64 r c (s := 0) fu 0 (by decide) h45 _ q5 (by rw [nz11]; omega) ?_
  intro h' q6
  rw [nz11] at q6
  have e6 := wSeat_n (st := A.st g) (s := 0) 11 0 (wAdd (A.pg g).each (wAdd (A.pg g).ovs (wAdd (A.sd1 g) (wAdd (A.sd0 g) (wAdd 66 w))))) q5.p (by omega)
  rw [en2]
  unfold F_X11_writeHead_57
  refine rn_n (by decide) ?_
  refine w_64 r c (s := 0 + 1) fu 0 (by decide) h' _ q6 (by rw [nz11]; omega) ?_
  intro h'' q7
  rw [nz11] at q7
  have e7 := wSeat_n (st := A.st g) (s := 1) 11 0 (wSeat (A.st g) 0 11 0 (wAdd (A.pg g).each (wAdd (A.pg g).ovs (wAdd (A.sd1 g) (wAdd (A.sd0 g) (wAdd 66 w)))))) q6.p (by omega)
  have q7 : WH x h1 h'' (wSeat (A.st g) 1 11 0 (wSeat (A.st g) 0 11 0 (wAdd (A.pg g).each (wAdd (A.pg g).ovs (wAdd (A.sd1 g) (wAdd (A.sd0 g) (wAdd 66 w))))))) := q7
  rw [en3]
  unfold F_X11_writeHead_57
  obtain ⟨k1, k2, k3, k4, k5, k6, k7⟩ := w_k r q7
  have G := w_gm r q7 c
  refine rn_p (by decide) (rn_ck k1 (rn_o k2 (rn_ck G.1.1 (rn_o (g_turnCount G) (rn_bd (rn_bd (rn_ck k4 (rn_c (w_add q7 (by omega) _) (fun h12 q8 => rn_s q8)))))))))
theorem w_44 (r : CRp x h1 lb ad cp A) (ok : BkOK A) (c : inL A.games g) (eS : psOf (x + 129) h1 = S) : ∀ n t, ((A.pg g).turns.toInt - t.toInt).toNat < n → ∀ (h : aH) (w : Wr), 0 ≤ t → WH x h1 h w → w.1.toInt + nTurns (A.pg g) ((A.pg g).turns.toInt - t.toInt).toNat t ≤ 8000 → Rn (F_X11_image_44 n x (ad 1 g 0 0) t h) (fun q => q.1 = (wTurns S (A.pg g) ((A.pg g).turns.toInt - t.toInt).toNat t w).1 ∧ WH x h1 q.2 (wTurns S (A.pg g) ((A.pg g).turns.toInt - t.toInt).toNat t w)) := by
  refine i32_up ?_ ?_
  · intro n t hc h w t0 q hm
    rw [sub_none hc]
    have G := w_gm r q c
    obtain ⟨k1, k2, k3, k4, k5, k6, k7⟩ := w_k r q
    unfold F_X11_image_44
    exact rn_ck G.1.1 (rn_o (g_turnCount G) (rn_bd (rn_bd (rn_p hc (rn_ck k1 (rn_o k2 (rn_ck k4 (rn_s ⟨q.1.2.1, q⟩))))))))
  · intro n t hc ih h w t0 q hm
    rw [sub_succ hc] at hm ⊢
    have G := w_gm r q c
    obtain ⟨k1, k2, k3, k4, k5, k6, k7⟩ := w_k r q
    have e : nTurns (A.pg g) (((A.pg g).turns.toInt - (t + 1).toInt).toNat + 1) t = nTurn (A.pg g) t + nTurns (A.pg g) ((A.pg g).turns.toInt - (t + 1).toInt).toNat (t + 1) := rfl
    rw [e] at hm
    unfold F_X11_image_44
    refine rn_ck G.1.1 (rn_o (g_turnCount G) (rn_bd (rn_bd (rn_n (Int32.not_le.mpr hc) (rn_ck k1 (rn_c (w_turn r ok c eS ⟨t0, hc⟩ q (by omega)) (fun h13 y => rn_bd (ih h13 _ (i32_ps t0 hc) y ?_))))))))
    have := wTurn_n (S := S) (G := A.pg g) (t := t) (w := w) q.p (by omega)
    omega
end Im
def wImage (S : Ps) (A : Bk) (g : Int32) : Wr := wTurns S (A.pg g) (A.pg g).turns.toInt.toNat 0 (wHead (A.sd0 g) (A.sd1 g) (A.st g) (A.pg g) (0, A.out))
def aImage (s : Ps) (g : Int32) (A : Bk) : Int32 × Bk := if inL A.games g then (if imgN (A.pg g) ≤ 8000 then ((wImage (s.play (A.pg g)) A g).1, (A.sR 2 (wImage (s.play (A.pg g)) A g).2).sI 3 (wImage (s.play (A.pg g)) A g).1) else (-1, A.sI 3 0)) else (-1, A)
section Im2
variable {x : Nat} {h : aH} {lb : Nat → Lab} {ad cp : Adr} {A : Bk}
/-- the out row is another -/
theorem CRp.outs {h' : aH} {w : Wr} (r : CRp x h lb ad cp A) (q : BtH h' (x + 5) 8000 w.1 w.2) (f : frn (x + 5) 2 h h') : CRp x h' lb ad cp ((A.sR 2 w.2).sI 3 w.1) ∧ frs (fun k => k = 5 ∨ k = 6) x h h' := by
  have F : frs (fun k => k = 5 ∨ k = 6) x h h' := ⟨f.1, fun b hb => cel_frn f (by
    have := hb 5 (Or.inl rfl)
    have := hb 6 (Or.inr rfl)
    omega)⟩
  have x0 := F.2 x (fun k hk e => by omega)
  refine ⟨⟨r.fx.fs F (fun k hk => by omega), (r.pl.fs F (fun k hk => by omega)).cg rfl (fun g _ => ⟨rfl, rfl, rfl, rfl⟩), ?_, (r.hc.mv (F.c (by omega)) (fun k a b => F.c (by omega))).cg rfl (fun _ _ => rfl), (r.pc.mv (x0.F _) (psOf_cl (fun b b0 b1 => F.2 b (fun k hk e => by omega)))).cg (fun g hg => ⟨hg, rfl⟩), (r.rc.mv (x0.F _) (F.c (by omega))).cg rfl rfl rfl rfl rfl rfl rfl⟩, F⟩
  obtain ⟨i1, i2, i3, i4, i5, i6, i7⟩ := r.ci
  have c1 := F.c (k := 1) (by omega)
  have c3 := F.c (k := 3) (by omega)
  have c4 := F.c (k := 4) (by omega)
  exact ⟨by rw [x0.F]; exact i1, by rw [x0.F]; exact i2, by rw [c3.F]; exact i3, q.2.1, fun i hi => by rw [c1.A]; exact i5 i hi, fun i hi => by rw [c4.A]; exact i6 i hi, q.2.2.2.2⟩
theorem c_image (r : CRp x h lb ad cp A) (ok : BkOK A) (g : Int32) : Rn (F_X11_image x g h) (fun q => ∃ s, TyNs s ∧ q.1 = (aImage s g A).1 ∧ Pst x h 0 0 (aImage s g A).2 q.2) := by
  unfold F_X11_image F_X0_clear
  refine rn_o (c_gameAt r g) (rn_bd (rn_bd ?_))
  dsimp only
  by_cases c : inL A.games g
  rotate_left
  · rw [if_neg c]
    refine rn_s ⟨psOf (x + 129) h, tyN_ps _ _, ?_⟩
    unfold aImage
    rw [if_neg c]
    exact ⟨rfl, r.same _ _⟩
  rw [if_pos c]
  have og := ok.2.2.2.2.2.2.1 g c
  refine rn_ck r.k0 (rn_o r.fx.1.2.2.2.2.1 (rn_ck r.fx.2.2.2.1.1 ?_))
  rw [bd_e, Option.bind_some]
  have f0 : frn (x + 5) 2 h (sF h 101 (x + 5) 0) := frn_sF ⟨by omega, by omega⟩
  have B0 : BtH (sF h 101 (x + 5) 0) (x + 5) 8000 0 A.out := ⟨r.fx.2.2.2.1, if_pos ⟨rfl, rfl⟩, by decide, by decide, fun i hi => absurd hi.1 (Int32.not_le.mpr hi.2)⟩
  obtain ⟨r1, F1⟩ := r.outs (w := (0, A.out)) B0 f0
  have c1 : inL ((A.sR 2 A.out).sI 3 0).games g := c
  have G1 := r1.gm c1
  refine rn_ck G1.1.1 (rn_o (s_image G1 og.1) (rn_bd (rn_bd ?_)))
  dsimp only
  have il := imgN_le og.1
  have ie := ofN_i (n := imgN (A.pg g)) (by omega)
  have z8 : (8000 : Int32).toInt = 8000 := by decide
  have ok1 : BkOK ((A.sR 2 A.out).sI 3 0) := ⟨ok.1, ok.2.1, ok.2.2.1, ⟨by show (0 : Int32) ≤ 0; decide, by show (0 : Int32) ≤ 8000; decide⟩, ok.2.2.2.2.1, ok.2.2.2.2.2.1, ok.2.2.2.2.2.2.1, ok.2.2.2.2.2.2.2⟩
  have e3 : (A.sR 2 A.out).sI 3 0 = A.sI 3 0 := by
    show ((fun j => if j = 3 then (0 : Int32) else A.1 j), ((fun j => if j = 2 then A.out else A.2.1 j), A.2.2)) = ((fun j => if j = 3 then (0 : Int32) else A.1 j), A.2)
    have : (fun j => if j = 2 then A.out else A.2.1 j) = A.2.1 := by
      funext j
      by_cases q : j = 2
      · rw [if_pos q, q]
      · rw [if_neg q]
    rw [this]
  refine rn_i (fun c2 => ?_) (fun c2 => ?_)
  rotate_left
  · have n8 : ¬ imgN (A.pg g) ≤ 8000 := fun q => c2 (Int32.le_iff_toInt_le.mpr (by
      show (Int32.ofNat (imgN (A.pg g))).toInt ≤ _
      omega))
    refine rn_s ⟨psOf (x + 129) h, tyN_ps _ _, ?_⟩
    unfold aImage
    rw [if_pos c, if_neg n8]
    refine ⟨rfl, ⟨lb, ad, cp, ?_⟩, fun k k0 k1 => F1.c (by omega), by show hz h ≤ _; omega, by show hs h ≤ _; omega⟩
    rw [← e3]
    exact r1
  · have n8 : imgN (A.pg g) ≤ 8000 := by
      have c2 : (Int32.ofNat (imgN (A.pg g))).toInt ≤ (8000 : Int32).toInt := Int32.le_iff_toInt_le.mp c2
      omega
    refine rn_ck r1.k0 (rn_c (c_playOver r1 ok1 c1) ?_)
    rintro h2 ⟨s, s1, q⟩
    have W0 : WH x h2 h2 (0, A.out) := ⟨⟨q.1.fx.2.2.2.1, by have := q.1.ci.2.2.2.1; exact this, by show (0 : Int32) ≤ 0; decide, by show (0 : Int32).toInt ≤ _; decide, fun i hi => absurd hi.1 (Int32.not_le.mpr hi.2)⟩, frn.refl _ _ _⟩
    have z : (0 : Int32).toInt = 0 := by decide
    refine rn_ck q.1.k0 (rn_c (w_head q.1 c1 W0 (by show (0 : Int32).toInt + 28 ≤ _; omega)) (fun h25 y => ?_))
    have T4 := le_i og.1.t4 (by decide : (4 : Int32).toInt = 4)
    have hn : (wHead (A.sd0 g) (A.sd1 g) (A.st g) (A.pg g) (0, A.out)).1.toInt = 28 := by
      have : (wHead (A.sd0 g) (A.sd1 g) (A.st g) (A.pg g) (0, A.out)).1 = 28 := by
        show (0 : Int32) + 1 + 1 + 1 + 1 + 1 + 1 + 1 + 1 + 1 + 1 + 1 + 1 + 1 + 1 + 1 + 1 + 1 + 1 + 1 + 1 + 1 + 1 + 1 + 1 + 1 + 1 + 1 + 1 = 28
        decide
      rw [this]
      decide
    have e8 := w_44 (S := s.play (A.pg g)) q.1 ok1 c1 q.2.1 fu 0 (by show _ < 10000000; show ((A.pg g).turns.toInt - _).toNat < _; omega) h25 _ (by decide) y (by
      rw [z, Int.sub_zero]
      show (wHead (A.sd0 g) (A.sd1 g) (A.st g) (A.pg g) (0, A.out)).1.toInt + nTurns (A.pg g) (A.pg g).turns.toInt.toNat 0 ≤ 8000
      rw [hn]
      unfold imgN at n8
      omega)
    rw [z, Int.sub_zero] at e8
    refine e8.imp ?_
    rintro ⟨v, h3⟩ ⟨y1, y2⟩
    refine ⟨s, s1, ?_⟩
    unfold aImage
    rw [if_pos c, if_pos n8]
    obtain ⟨r3, F3⟩ := q.1.outs (w := wImage (s.play (A.pg g)) A g) y2.1 y2.2
    refine ⟨y1, ⟨lb, ad, cp, ?_⟩, fun k k0 k1 => ((F1.c (by omega)).trans (q.2.2.2.1 _ (by omega) (by omega))).trans (F3.c (by omega)), by show hz h3 ≤ _; rw [F3.1.z, q.2.2.1.z, F1.1.z]; omega, by show hs h3 ≤ _; rw [F3.1.s, q.2.2.1.s, F1.1.s]; omega⟩
    have e4 : ((((A.sR 2 A.out).sI 3 0).sR 2 (wImage (s.play (A.pg g)) A g).2).sI 3 (wImage (s.play (A.pg g)) A g).1) = (A.sR 2 (wImage (s.play (A.pg g)) A g).2).sI 3 (wImage (s.play (A.pg g)) A g).1 := by
      refine Prod.ext (funext fun j => ?_) (Prod.ext (funext fun j => ?_) rfl)
      · show (if j = 3 then _ else if j = 3 then (0 : Int32) else A.1 j) = if j = 3 then _ else A.1 j
        by_cases q : j = 3
        · rw [if_pos q, if_pos q]
        · rw [if_neg q, if_neg q, if_neg q]
      · show (if j = 2 then _ else if j = 2 then A.out else A.2.1 j) = if j = 2 then _ else A.2.1 j
        by_cases q : j = 2
        · rw [if_pos q, if_pos q]
        · rw [if_neg q, if_neg q, if_neg q]
    rw [← e4]
    exact r3
end Im2
