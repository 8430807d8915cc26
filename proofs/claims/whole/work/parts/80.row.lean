/-! A row of entries: set, put in, taken out, copied -/
theorem i32_dn {e : Int32} {P : Nat → Int32 → Prop} (hend : ∀ n i, i ≤ e → P (n + 1) i) (hstep : ∀ n i, e < i → P n (i + -1) → P (n + 1) i) : ∀ n i, (i.toInt - e.toInt).toNat < n → P n i := by
  intro n
  induction n with
  | zero => intro i h; omega
  | succ n ih =>
    intro i h
    by_cases c : i ≤ e
    · exact hend n i c
    · have c' : e < i := Int32.not_le.mp c
      refine hstep n i c' (ih (i + -1) ?_)
      have h1 := Int32.lt_iff_toInt_lt.mp c'
      have h2 : (i + -1).toInt = i.toInt - 1 := by
        rw [Int32.toInt_add]
        have := Int32.toInt_lt i
        have := Int32.le_toInt e
        have e1 : (-1 : Int32).toInt = -1 := by decide
        rw [e1]
        apply Int.bmod_eq_of_le <;> omega
      omega
/-- a row's cells, whatever it holds -/
def OvS (h : aH) (a : Nat) : Prop := hK h a = 7 ∧ hG h 600 a = some (a + 1) ∧ hK h (a + 1) = 21 ∧ hN h (a + 1) = 40
theorem OvL.S {h : aH} {a : Nat} {b s : Int32} {e : Int32 → Int32} (r : OvL h a b s e) : OvS h a := ⟨r.1, r.2.1, r.2.2.1, r.2.2.2.1⟩
theorem OvS.fr {h h' : aH} {a lo n : Nat} (r : OvS h a) (f : frn lo n h h') : OvS h' a := ⟨by rw [f.1.K]; exact r.1, by rw [f.1.G]; exact r.2.1, by rw [f.1.K]; exact r.2.2.1, by rw [f.1.N]; exact r.2.2.2⟩
theorem OvS.L {h : aH} {a : Nat} {b s : Int32} {e : Int32 → Int32} (r : OvS h a) (e1 : hF h 601 a = b) (e2 : hF h 602 a = s) (e3 : ∀ i, 0 ≤ i → i < s → rdA h (a + 1) i = e i) : OvL h a b s e := ⟨r.1, r.2.1, r.2.2.1, r.2.2.2, e1, e2, e3⟩
section Row
variable {h : aH} {a : Nat} {b s : Int32} {e : Int32 → Int32}
theorem rd_wr1 {h : aH} {a : Nat} {i k v : Int32} (hi : 0 ≤ i) : rdA (sI h a i.toNatClampNeg v) a k = if k = i then v else rdA h a k := by
  have := rdA_wr (h := h) (a := a) (b := a) (i := i) (j := k) (v := v) hi
  unfold wrA at this
  rw [this]
  by_cases c : k = i
  · rw [if_pos ⟨rfl, c⟩, if_pos c]
  · rw [if_neg (fun q => c q.2), if_neg c]
/-- set where the row has the place; nothing else -/
theorem o_set (r : OvL h a b s e) (hs : s ≤ 40) (i v : Int32) (c : inL s i) : ∃ h', F_X5_set a i v h = some h' ∧ OvL h' a b s (fun k => if k = i then v else e k) ∧ frn a 2 h h' ∧ ∀ k, rdA h' (a + 1) k = if k = i then v else rdA h (a + 1) k := by
  unfold F_X5_set
  rw [o_has r hs, Option.bind_some, bd_e, bd_e]
  dsimp only
  rw [if_pos c, if_neg (by decide), ck_t r.1, r.2.1, Option.bind_some, ck_t ⟨r.2.2.1, by rw [r.2.2.2.1]; exact lt40 c.1 c.2 hs⟩, bd_e]
  have W : ∀ k, rdA (sI h (a + 1) i.toNatClampNeg v) (a + 1) k = if k = i then v else rdA h (a + 1) k := fun k => rd_wr1 c.1
  refine ⟨_, rfl, ⟨r.1, r.2.1, r.2.2.1, r.2.2.2.1, r.2.2.2.2.1, r.2.2.2.2.2.1, fun k k0 k1 => ?_⟩, frn_wr (i := i) ⟨by omega, by omega⟩, W⟩
  rw [W]
  dsimp only
  by_cases q : k = i
  · rw [if_pos q, if_pos q]
  · rw [if_neg q, if_neg q]
    exact r.2.2.2.2.2.2 k k0 k1
def rIns (e : Int32 → Int32) (p c : Int32) : Int32 → Int32 := fun i => if i < p then e i else if i = p then c else e (i - 1)
def rDel (e : Int32 → Int32) (p : Int32) : Int32 → Int32 := fun i => if i < p then e i else e (i + 1)
theorem i32_m1 {i p : Int32} (c : p < i) : (i + -1).toInt = i.toInt - 1 ∧ i - 1 = i + -1 := by
  have h1 := Int32.lt_iff_toInt_lt.mp c
  refine ⟨?_, by grind⟩
  rw [Int32.toInt_add]
  have := Int32.toInt_lt i
  have := Int32.le_toInt p
  have e1 : (-1 : Int32).toInt = -1 := by decide
  rw [e1]
  apply Int.bmod_eq_of_le <;> omega
theorem o_ins44 {p c : Int32} (p0 : 0 ≤ p) (hs : s ≤ 40) {h0 : aH} : ∀ n k, (k.toInt - p.toInt).toNat < n → ∀ h f, p ≤ k → k < s → frn a 2 h0 h → OvL h a b s f → (∀ i, 0 ≤ i → i < k → f i = e i) → (∀ i, k < i → i < s → f i = e (i - 1)) → Rn (F_X5_insert_44 n a p c k h) (fun h' => frn a 2 h0 h' ∧ OvL h' a b s (rIns e p c)) := by
  refine i32_dn ?_ ?_
  · intro n k hc h f pk ks fr r H1 H2
    have ek : k = p := Int32.le_antisymm hc pk
    subst ek
    unfold F_X5_insert_44
    refine rn_p (Int32.le_refl _) (rn_ck r.1 ?_)
    obtain ⟨h', e1, r', f', -⟩ := o_set r hs k c ⟨p0, ks⟩
    refine rn_o e1 (rn_s ⟨fr.trans f', r'.cg (fun i i0 i1 => ?_)⟩)
    unfold rIns
    by_cases c1 : i < k
    · rw [if_pos c1, if_neg (lt_ne c1), H1 i i0 c1]
    · rw [if_neg c1]
      by_cases c2 : i = k
      · rw [if_pos c2, if_pos c2]
      · rw [if_neg c2, if_neg c2]
        have : k < i := by
          have q1 := Int32.le_iff_toInt_le.mp (Int32.not_lt.mp c1)
          have q2 : i.toInt ≠ k.toInt := fun z => c2 (Int32.toInt_inj.mp z)
          exact Int32.lt_iff_toInt_lt.mpr (by omega)
        exact (H2 i this i1).symm
  · intro n k hc ih h f pk ks fr r H1 H2
    unfold F_X5_insert_44
    have m := i32_m1 hc
    have kc := Int32.lt_iff_toInt_lt.mp hc
    have p0' := Int32.le_iff_toInt_le.mp p0
    have z : (0 : Int32).toInt = 0 := by decide
    have k0 : 0 ≤ k + -1 := Int32.le_iff_toInt_le.mpr (by omega)
    have k1 : k + -1 < k := Int32.lt_iff_toInt_lt.mpr (by omega)
    have ks' := Int32.lt_iff_toInt_lt.mp ks
    have k2 : k + -1 < s := Int32.lt_iff_toInt_lt.mpr (by omega)
    refine rn_n (Int32.not_le.mpr hc) (rn_ck r.1 (rn_o (o_at r hs (k - 1)) (rn_bd (rn_bd ?_))))
    dsimp only
    rw [m.2, if_pos ⟨k0, k2⟩]
    obtain ⟨h', e1, r', f', -⟩ := o_set r hs k (f (k + -1)) ⟨i32_tr p0 pk, ks⟩
    refine rn_ck r.1 (rn_o e1 (rn_bd ?_))
    refine ih h' _ (Int32.le_iff_toInt_le.mpr (by omega)) k2 (fr.trans f') r' ?_ ?_
    · intro i i0 i1
      have := Int32.lt_iff_toInt_lt.mp i1
      have ik : i < k := Int32.lt_iff_toInt_lt.mpr (by omega)
      rw [if_neg (lt_ne ik)]
      exact H1 i i0 ik
    · intro i i0 i1
      have i0' := Int32.lt_iff_toInt_lt.mp i0
      by_cases q : i = k
      · rw [if_pos q, q, m.2]
        exact H1 _ k0 k1
      · rw [if_neg q]
        have q2 : i.toInt ≠ k.toInt := fun z => q (Int32.toInt_inj.mp z)
        exact H2 i (Int32.lt_iff_toInt_lt.mpr (by omega)) i1
theorem tI40 {s : Int32} (h : s ≤ 40) : s.toInt ≤ 40 := le_i h (by decide)
theorem o_insert (r : OvL h a b s e) (s0 : 0 ≤ s) (hs : s < 40) {p : Int32} (c : Int32) (p0 : 0 ≤ p) (p1 : p ≤ s) : Rn (F_X5_insert a p c h) (fun h' => frn a 2 h h' ∧ OvL h' a b (s + 1) (rIns e p c)) := by
  unfold F_X5_insert F_X5_isMissing F_X5_isFull
  have sz := r.2.2.2.2.2.1
  rw [sz, if_pos s0, Option.bind_some]
  refine rn_bd (rn_bd (rn_p rfl (rn_ck r.1 ?_)))
  dsimp only
  rw [sz, if_pos hs, Option.bind_some]
  refine rn_bd (rn_bd (rn_p rfl (rn_n (Int32.not_lt.mpr p0) (rn_ck r.1 ?_))))
  dsimp only
  rw [sz]
  refine rn_p p1 (rn_bd (rn_bd ?_))
  have F : frn a 2 h (sF h 602 a (s + 1)) := frn_sF ⟨by omega, by omega⟩
  have e2 : hF (sF h 602 a (s + 1)) 602 a = s + 1 := if_pos ⟨rfl, rfl⟩
  rw [e2, pred1]
  have ss := i32_succ hs
  have sl := Int32.lt_iff_toInt_lt.mp hs
  have h40 : (40 : Int32).toInt = 40 := by decide
  have sl1 : s < s + 1 := Int32.lt_iff_toInt_lt.mpr (by omega)
  have r1 : OvL (sF h 602 a (s + 1)) a b (s + 1) (rdA h (a + 1)) := OvS.L r.S (show (if (601 : Nat) = 602 ∧ a = a then s + 1 else hF h 601 a) = b by rw [if_neg (by omega)]; exact r.2.2.2.2.1) e2 (fun i _ _ => rfl)
  have s0' := Int32.le_iff_toInt_le.mp s0
  have p0' := Int32.le_iff_toInt_le.mp p0
  have z : (0 : Int32).toInt = 0 := by decide
  refine (o_ins44 (e := e) (c := c) p0 (Int32.le_iff_toInt_le.mpr (by omega)) (h0 := h) fu s (by show _ < 10000000; omega) _ _ p1 sl1 F r1 (fun i i0 i1 => r.2.2.2.2.2.2 i i0 i1) ?_)
  intro i i0 i1
  exfalso
  have := Int32.lt_iff_toInt_lt.mp i0
  have := Int32.lt_iff_toInt_lt.mp i1
  omega
theorem o_rem11 {p : Int32} (p0 : 0 ≤ p) (hs : s ≤ 40) (s0 : 0 < s) {h0 : aH} : ∀ n k, ((s - 1).toInt - k.toInt).toNat < n → ∀ h f, p ≤ k → k ≤ s - 1 → frn a 2 h0 h → OvL h a b s f → (∀ i, 0 ≤ i → i < p → f i = e i) → (∀ i, p ≤ i → i < k → f i = e (i + 1)) → (∀ i, k ≤ i → i < s → f i = e i) → Rn (F_X5_remove_11 n a k h) (fun h' => frn a 2 h0 h' ∧ OvL h' a b (s - 1) (rDel e p)) := by
  have sd := i32_pred s0
  refine i32_up ?_ ?_
  · intro n k hc h f pk ks fr r H1 H2 H3
    have ek : k = s - 1 := Int32.le_antisymm ks hc
    subst ek
    unfold F_X5_remove_11
    refine rn_ck r.1 ?_
    rw [r.2.2.2.2.2.1]
    refine rn_p (Int32.le_refl _) (rn_bd (rn_s ⟨fr.trans (frn_sF ⟨by omega, by omega⟩), ?_⟩))
    refine OvS.L r.S (by rw [rF_sF, if_neg (by omega)]; exact r.2.2.2.2.1) (if_pos ⟨rfl, rfl⟩) (fun i i0 i1 => ?_)
    have i1' := Int32.lt_iff_toInt_lt.mp i1
    have is : i < s := Int32.lt_iff_toInt_lt.mpr (by omega)
    show rdA h (a + 1) i = _
    rw [r.2.2.2.2.2.2 i i0 is]
    unfold rDel
    by_cases q : i < p
    · rw [if_pos q]; exact H1 i i0 q
    · rw [if_neg q]; exact H2 i (Int32.not_lt.mp q) i1
  · intro n k hc ih h f pk ks fr r H1 H2 H3
    unfold F_X5_remove_11
    refine rn_ck r.1 ?_
    rw [r.2.2.2.2.2.1]
    have kc := Int32.lt_iff_toInt_lt.mp hc
    have k1 := i32_succ hc
    have k0 : 0 ≤ k := i32_tr p0 pk
    have k0' := Int32.le_iff_toInt_le.mp k0
    have z : (0 : Int32).toInt = 0 := by decide
    have ks1 : k + 1 < s := Int32.lt_iff_toInt_lt.mpr (by omega)
    have k01 : 0 ≤ k + 1 := Int32.le_iff_toInt_le.mpr (by omega)
    have kks : k < s := Int32.lt_iff_toInt_lt.mpr (by omega)
    refine rn_n (Int32.not_le.mpr hc) (rn_o (o_at r hs (k + 1)) (rn_bd (rn_bd ?_)))
    dsimp only
    rw [if_pos ⟨k01, ks1⟩]
    obtain ⟨h', e1, r', f', -⟩ := o_set r hs k (f (k + 1)) ⟨k0, kks⟩
    refine rn_ck r.1 (rn_o e1 (rn_bd ?_))
    have pk' := Int32.le_iff_toInt_le.mp pk
    refine ih h' _ (Int32.le_iff_toInt_le.mpr (by omega)) (Int32.le_iff_toInt_le.mpr (by omega)) (fr.trans f') r' ?_ ?_ ?_
    · intro i i0 i1
      have := Int32.lt_iff_toInt_lt.mp i1
      rw [if_neg (fun q => by rw [q] at this; omega)]
      exact H1 i i0 i1
    · intro i i0 i1
      rcases (i32_ls hc).mp i1 with q | q
      · rw [if_neg (lt_ne q)]
        exact H2 i i0 q
      · rw [if_pos q, q]
        exact H3 _ (Int32.le_iff_toInt_le.mpr (by omega)) ks1
    · intro i i0 i1
      have := Int32.le_iff_toInt_le.mp i0
      rw [if_neg (fun q => by rw [q] at this; omega)]
      exact H3 i (Int32.le_iff_toInt_le.mpr (by omega)) i1
theorem o_remove (r : OvL h a b s e) (hs : s ≤ 40) {p : Int32} (c : inL s p) : Rn (F_X5_remove a p h) (fun h' => frn a 2 h h' ∧ OvL h' a b (s - 1) (rDel e p)) := by
  unfold F_X5_remove
  rw [o_has r hs, if_pos c, Option.bind_some]
  refine rn_bd (rn_bd ?_)
  dsimp only
  refine rn_n (by decide) ?_
  have z : (0 : Int32).toInt = 0 := by decide
  have c0 := Int32.le_iff_toInt_le.mp c.1
  have c1 := Int32.lt_iff_toInt_lt.mp c.2
  have s0 : 0 < s := Int32.lt_iff_toInt_lt.mpr (by omega)
  have sd := i32_pred s0
  have := tI40 hs
  exact o_rem11 c.1 hs s0 (h0 := h) fu p (by show _ < 10000000; omega) h e (Int32.le_refl _) (Int32.le_iff_toInt_le.mpr (by omega)) (frn.refl _ _ _) r (fun _ _ _ => rfl) (fun i i0 i1 => absurd i0 (Int32.not_le.mpr i1)) (fun _ _ _ => rfl)
/-- a copy of another row -/
theorem o_copy18 {t : Nat} (hs : s ≤ 40) (hd : a + 2 ≤ t ∨ t + 2 ≤ a) {h0 : aH} (r : OvL h0 a b s e) : ∀ n k, (s.toInt - k.toInt).toNat < n → ∀ h f, 0 ≤ k → frn t 2 h0 h → OvL h t b s f → (∀ i, 0 ≤ i → i < k → i < s → f i = e i) → Rn (F_X5_copy_18 n t a k h) (fun h' => frn t 2 h0 h' ∧ OvL h' t b s e) := by
  refine i32_up ?_ ?_
  · intro n k hc h f k0 fr q H
    unfold F_X5_copy_18
    refine rn_ck q.1 ?_
    rw [q.2.2.2.2.2.1]
    refine rn_p hc (rn_s ⟨fr, q.cg (fun i i0 i1 => (H i i0 (Int32.lt_of_lt_of_le i1 hc) i1).symm)⟩)
  · intro n k hc ih h f k0 fr q H
    unfold F_X5_copy_18
    refine rn_ck q.1 ?_
    rw [q.2.2.2.2.2.1]
    have ra : OvL h a b s e := r.mv (cel_frn fr (by omega)) (cel_frn fr (by omega))
    refine rn_n (Int32.not_le.mpr hc) (rn_ck ra.1 (rn_o (o_at ra hs k) (rn_bd (rn_bd (rn_ck q.1 ?_)))))
    dsimp only
    rw [if_pos ⟨k0, hc⟩]
    obtain ⟨h', e1, r', f', -⟩ := o_set q hs k (e k) ⟨k0, hc⟩
    refine rn_o e1 (rn_bd (ih h' _ (i32_ps k0 hc) (fr.trans f') r' ?_))
    intro i i0 i1 i2
    rcases (i32_ls hc).mp i1 with z | z
    · rw [if_neg (lt_ne z)]
      exact H i i0 z i2
    · rw [if_pos z, z]
theorem o_copy {t : Nat} (r : OvL h a b s e) (hs : s ≤ 40 ∧ -1 ≤ s) (hd : a + 2 ≤ t ∨ t + 2 ≤ a) (q : OvS h t) : Rn (F_X5_copy t a h) (fun h' => frn t 2 h h' ∧ OvL h' t b s e) := by
  unfold F_X5_copy
  refine rn_ck r.1 (rn_bd (rn_bd ?_))
  have n1 : a ≠ t := by omega
  have e1 : hF (sF h 601 t (hF h 601 a)) 602 a = s := by rw [rF_sF, if_neg (by omega)]; exact r.2.2.2.2.2.1
  rw [e1, r.2.2.2.2.1]
  have F : frn t 2 h (sF (sF h 601 t b) 602 t s) := (frn_sF ⟨by omega, by omega⟩).trans (frn_sF ⟨by omega, by omega⟩)
  have q2 : OvL (sF (sF h 601 t b) 602 t s) t b s (rdA h (t + 1)) := OvS.L q (by rw [rF_sF, if_neg (by omega), rF_sF, if_pos ⟨rfl, rfl⟩]) (if_pos ⟨rfl, rfl⟩) (fun _ _ _ => rfl)
  have := tI40 hs.1
  have z : (0 : Int32).toInt = 0 := by decide
  refine o_copy18 hs.1 hd r fu 0 (by show _ < 10000000; omega) _ _ (by decide) F q2 (fun i i0 i1 _ => absurd i0 (Int32.not_le.mpr i1))
end Row
