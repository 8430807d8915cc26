/-! Cells of the heap that stay as they were; the list -/
def cel (h h' : aH) (a : Nat) : Prop := hK h' a = hK h a ∧ (∀ f, hF h' f a = hF h f a) ∧ (∀ f, hG h' f a = hG h f a) ∧ hN h' a = hN h a ∧ (∀ i, hI h' a i = hI h a i) ∧ (∀ i, hJ h' a i = hJ h a i) ∧ ∀ i, hO h' a i = hO h a i
theorem cel.refl (h : aH) (a : Nat) : cel h h a := ⟨rfl, fun _ => rfl, fun _ => rfl, rfl, fun _ => rfl, fun _ => rfl, fun _ => rfl⟩
theorem cel.trans {h h1 h2 : aH} {a : Nat} (p : cel h h1 a) (q : cel h1 h2 a) : cel h h2 a := ⟨q.1.trans p.1, fun f => (q.2.1 f).trans (p.2.1 f), fun f => (q.2.2.1 f).trans (p.2.2.1 f), q.2.2.2.1.trans p.2.2.2.1, fun i => (q.2.2.2.2.1 i).trans (p.2.2.2.2.1 i), fun i => (q.2.2.2.2.2.1 i).trans (p.2.2.2.2.2.1 i), fun i => (q.2.2.2.2.2.2 i).trans (p.2.2.2.2.2.2 i)⟩
theorem cel.K {h h' : aH} {a : Nat} (p : cel h h' a) : hK h' a = hK h a := p.1
theorem cel.F {h h' : aH} {a : Nat} (p : cel h h' a) (f : Nat) : hF h' f a = hF h f a := p.2.1 f
theorem cel.G {h h' : aH} {a : Nat} (p : cel h h' a) (f : Nat) : hG h' f a = hG h f a := p.2.2.1 f
theorem cel.N {h h' : aH} {a : Nat} (p : cel h h' a) : hN h' a = hN h a := p.2.2.2.1
theorem cel.I {h h' : aH} {a : Nat} (p : cel h h' a) (i : Nat) : hI h' a i = hI h a i := p.2.2.2.2.1 i
theorem cel.J {h h' : aH} {a : Nat} (p : cel h h' a) (i : Nat) : hJ h' a i = hJ h a i := p.2.2.2.2.2.1 i
theorem cel.O {h h' : aH} {a : Nat} (p : cel h h' a) (i : Nat) : hO h' a i = hO h a i := p.2.2.2.2.2.2 i
theorem cel.A {h h' : aH} {a : Nat} (p : cel h h' a) (i : Int32) : rdA h' a i = rdA h a i := by
  unfold rdA
  by_cases c : 0 ≤ i
  · rw [if_pos c, if_pos c, p.I]
  · rw [if_neg c, if_neg c]
theorem cel_sF {h : aH} {f b a : Nat} {v : Int32} (n : a ≠ b) : cel h (sF h f b v) a := ⟨rfl, fun _ => if_neg (fun q => n q.2), fun _ => rfl, rfl, fun _ => rfl, fun _ => rfl, fun _ => rfl⟩
theorem cel_sG {h : aH} {f b a : Nat} {v : Option Nat} (n : a ≠ b) : cel h (sG h f b v) a := ⟨rfl, fun _ => rfl, fun _ => if_neg (fun q => n q.2), rfl, fun _ => rfl, fun _ => rfl, fun _ => rfl⟩
theorem cel_sI {h : aH} {i b a : Nat} {v : Int32} (n : a ≠ b) : cel h (sI h b i v) a := ⟨rfl, fun _ => rfl, fun _ => rfl, rfl, fun _ => if_neg (fun q => n q.1), fun _ => rfl, fun _ => rfl⟩
theorem cel_sJ {h : aH} {i b a : Nat} {v : Int64} (n : a ≠ b) : cel h (sJ h b i v) a := ⟨rfl, fun _ => rfl, fun _ => rfl, rfl, fun _ => rfl, fun _ => if_neg (fun q => n q.1), fun _ => rfl⟩
theorem cel_sO {h : aH} {i b a : Nat} {v : Option Nat} (n : a ≠ b) : cel h (sO h b i v) a := ⟨rfl, fun _ => rfl, fun _ => rfl, rfl, fun _ => rfl, fun _ => rfl, fun _ => if_neg (fun q => n q.1)⟩
theorem cel_sR {h : aH} {b a : Nat} {f : Nat → Option Nat} (n : a ≠ b) : cel h (sR h b f) a := ⟨rfl, fun _ => rfl, fun _ => rfl, rfl, fun _ => rfl, fun _ => rfl, fun i => congrFun (show va_up h.2.2.2.2.2.2.1 b f a = h.2.2.2.2.2.2.1 a from if_neg n) i⟩
theorem cel_nO {h : aH} {k n a : Nat} (l : a < hz h) : cel h (nO h k n) a := ⟨if_neg (Nat.ne_of_lt l), fun _ => if_neg (Nat.ne_of_lt l), fun _ => if_neg (Nat.ne_of_lt l), rfl, fun _ => rfl, fun _ => rfl, fun _ => rfl⟩
theorem cel_nA {h : aH} {k n a : Nat} (l : a < hz h) : cel h (nA h k n) a := ⟨if_neg (Nat.ne_of_lt l), fun _ => rfl, fun _ => rfl, if_neg (Nat.ne_of_lt l), fun _ => if_neg (Nat.ne_of_lt l), fun _ => if_neg (Nat.ne_of_lt l), fun _ => if_neg (Nat.ne_of_lt l)⟩
theorem cel_frn {lo n : Nat} {h h' : aH} (f : frn lo n h h') {a : Nat} (o : a < lo ∨ lo + n ≤ a) : cel h h' a := by
  have q := f.2 a (by omega)
  exact ⟨by rw [f.1.K], q.1, fun g => by rw [f.1.G], by rw [f.1.N], q.2, fun i => by rw [f.1.J], fun i => by rw [f.1.O]⟩
theorem rF_sF (h : aH) (f a f' b : Nat) (v : Int32) : hF (sF h f a v) f' b = if f' = f ∧ b = a then v else hF h f' b := rfl
theorem rG_sG (h : aH) (f a f' b : Nat) (v : Option Nat) : hG (sG h f a v) f' b = if f' = f ∧ b = a then v else hG h f' b := rfl
theorem rF_sI (h : aH) (a i f' b : Nat) (v : Int32) : hF (sI h a i v) f' b = hF h f' b := rfl
theorem rF_sG (h : aH) (f a f' b : Nat) (v : Option Nat) : hF (sG h f a v) f' b = hF h f' b := rfl
theorem rG_sF (h : aH) (f a f' b : Nat) (v : Int32) : hG (sF h f a v) f' b = hG h f' b := rfl
/-- X comes to an end with Q -/
def Rn {β : Type} (X : Option β) (Q : β → Prop) : Prop := ∃ r, X = some r ∧ Q r
theorem rn_s {β : Type} {r : β} {Q : β → Prop} (k : Q r) : Rn (some r) Q := ⟨r, rfl, k⟩
theorem rn_bd {α β : Type} {x : α} {f : α → Option β} {Q : β → Prop} (k : Rn (f x) Q) : Rn (bd x f) Q := k
theorem rn_ck {β : Type} {P : Prop} [Decidable P] {f : Unit → Option β} {Q : β → Prop} (hp : P) (k : Rn (f ()) Q) : Rn ((ck P).bind f) Q := by rw [ck_t hp]; exact k
theorem rn_o {α β : Type} {X : Option α} {x : α} {f : α → Option β} {Q : β → Prop} (e : X = some x) (k : Rn (f x) Q) : Rn (X.bind f) Q := by rw [e]; exact k
theorem rn_c {α β : Type} {X : Option α} {R : α → Prop} {f : α → Option β} {Q : β → Prop} (c : Rn X R) (k : ∀ x, R x → Rn (f x) Q) : Rn (X.bind f) Q := by
  obtain ⟨x, e, q⟩ := c
  rw [e]
  exact k x q
theorem rn_p {β : Type} {c : Prop} [Decidable c] {A B : Option β} {Q : β → Prop} (hc : c) (k : Rn A Q) : Rn (if c then A else B) Q := by rw [if_pos hc]; exact k
theorem rn_n {β : Type} {c : Prop} [Decidable c] {A B : Option β} {Q : β → Prop} (hc : ¬ c) (k : Rn B Q) : Rn (if c then A else B) Q := by rw [if_neg hc]; exact k
theorem rn_i {β : Type} {c : Prop} [Decidable c] {A B : Option β} {Q : β → Prop} (k1 : c → Rn A Q) (k2 : ¬ c → Rn B Q) : Rn (if c then A else B) Q := by
  by_cases hc : c
  · rw [if_pos hc]; exact k1 hc
  · rw [if_neg hc]; exact k2 hc
theorem Rn.imp {β : Type} {X : Option β} {Q R : β → Prop} (k : Rn X Q) (f : ∀ r, Q r → R r) : Rn X R := by
  obtain ⟨r, e, q⟩ := k
  exact ⟨r, e, f r q⟩
theorem Rn.eq {β : Type} {X : Option β} {r : β} (e : X = some r) : Rn X (fun x => x = r) := ⟨r, e, rfl⟩
/-- the list at l, its row at a (c places): n things f of the kind kd -/
def Ls (h : aH) (l a c : Nat) (n : Int32) (f : Int32 → Nat) (kd : Nat) : Prop :=
  (hK h l = 1 ∧ hG h 1 l = some a ∧ hF h 2 l = n ∧ l < hz h ∧ a < hz h) ∧ (0 ≤ n ∧ n.toInt ≤ (c : Int) ∧ c ≤ 1000) ∧ ((c = 0 ∧ a = hE h) ∨ (10 ≤ c ∧ hK h a = 26 ∧ hN h a = c ∧ a ≠ hE h)) ∧ ∀ i, 0 ≤ i → i < n → hO h a i.toNatClampNeg = some (f i) ∧ hK h (f i) = kd ∧ f i < hz h
theorem tnc_i {i : Int32} (h : 0 ≤ i) : (i.toNatClampNeg : Int) = i.toInt := by
  have h1 := Int32.le_iff_toInt_le.mp h
  have h3 : (0 : Int32).toInt = 0 := by decide
  show ((i.toInt.toNat : Nat) : Int) = i.toInt
  omega
theorem ofN_i {n : Nat} (h : n ≤ 1000000000) : (Int32.ofNat n).toInt = (n : Int) := by
  rw [Int32.toInt_ofNat']
  have : (Int32.size : Int) = 4294967296 := rfl
  apply Int.bmod_eq_of_le <;> omega
theorem inR_of {i : Int32} {n : Nat} (h0 : 0 ≤ i) (h1 : i.toInt < (n : Int)) : inR i n := by
  have := tnc_i h0
  have z := Int32.le_iff_toInt_le.mp h0
  have h3 : (0 : Int32).toInt = 0 := by decide
  intro q
  rcases q with q | q
  · have := Int32.lt_iff_toInt_lt.mp q
    omega
  · omega
section Ls
variable {h : aH} {l a c kd : Nat} {n : Int32} {f : Int32 → Nat}
theorem Ls.size (L : Ls h l a c n f kd) : F_Jx4a65c_size_8abf5 l h = some (n, h) := by
  unfold F_Jx4a65c_size_8abf5
  rw [L.1.2.2.1]
theorem Ls.cap (L : Ls h l a c n f kd) {i : Int32} (i0 : 0 ≤ i) (i1 : i < n) : hK h a = 26 ∧ inR i (hN h a) ∧ a ≠ hE h := by
  obtain ⟨L1, L2, L3, L4⟩ := L
  have h1 := Int32.lt_iff_toInt_lt.mp i1
  have h0 := Int32.le_iff_toInt_le.mp i0
  have z : (0 : Int32).toInt = 0 := by decide
  rcases L3 with q | q
  · omega
  · exact ⟨q.2.1, inR_of i0 (by rw [q.2.2.1]; omega), q.2.2.2⟩
theorem Ls.get (L : Ls h l a c n f kd) {i : Int32} (i0 : 0 ≤ i) (i1 : i < n) : F_Jx4a65c_get_915e3 l i h = some (some (f i), h) := by
  have k := L.cap i0 i1
  unfold F_Jx4a65c_get_915e3 F_J15_checkIndex_7cf53 F_J3_checkIndex_8e157 F_Jx4a65c_elementData_915e3
  rw [L.1.2.2.1, if_neg (Int32.not_lt.mpr i0), if_pos i1, Option.bind_some, bd_e, bd_e, Option.bind_some, bd_e, bd_e, ck_t L.1.1, L.1.2.1, Option.bind_some, ck_t ⟨k.1, k.2.1⟩, (L.2.2.2 i i0 i1).1]
  rfl
theorem shr1 : ∀ c, c < 1001 → Int32.ofNat c >>> (1 &&& 31) = Int32.ofNat (c / 2) := by decide +kernel
/-- the same cells, the same list -/
theorem Ls.mv {h' : aH} (L : Ls h l a c n f kd) (hz' : hz h ≤ hz h') (he : hE h' = hE h) (c1 : cel h h' l) (c2 : cel h h' a) (c3 : ∀ i, 0 ≤ i → i < n → hK h' (f i) = hK h (f i)) : Ls h' l a c n f kd := by
  obtain ⟨⟨p1, p2, p3, p4, p5⟩, L2, L3, L4⟩ := L
  refine ⟨⟨by rw [c1.K]; exact p1, by rw [c1.G]; exact p2, by rw [c1.F]; exact p3, by omega, by omega⟩, L2, ?_, ?_⟩
  · rw [he, c2.K, c2.N]; exact L3
  · intro i i0 i1
    rw [c2.O, c3 i i0 i1]
    have := L4 i i0 i1
    exact ⟨this.1, this.2.1, by omega⟩
end Ls
theorem va_cpy0 {α : Type} {f g : Nat → α} {n k : Nat} (h : k < n) : va_cpy f g 0 0 n k = f k := by
  unfold va_cpy
  rw [if_pos ⟨Nat.zero_le _, by omega⟩]
  congr 1
  omega
section Add
variable {h : aH} {l a c kd v : Nat} {n : Int32} {f : Int32 → Nat}
theorem ls_alen (L : Ls h l a c n f kd) : alen h a = Int32.ofNat c := by
  unfold alen
  rcases L.2.2.1 with q | q
  · rw [if_pos q.2, q.1]; rfl
  · rw [if_neg q.2.2.2, q.2.2.1]
/-- what is known of a list behind one more: its row, its places -/
def AddQ (h : aH) (l a c : Nat) (n : Int32) (f : Int32 → Nat) (kd v : Nat) (h' : aH) : Prop :=
  ∃ a' c', Ls h' l a' c' (n + 1) (fun i => if i = n then v else f i) kd ∧ (∀ b, b < hz h → b ≠ l → (c ≠ 0 → b ≠ a) → cel h h' b) ∧ hE h' = hE h ∧ ((a' = a ∧ c' = c ∧ hz h' = hz h ∧ hs h' = hs h) ∨ (a' = hz h ∧ hz h' = hz h + 1 ∧ hs h' = hs h + c' ∧ 4 * c + c' ≤ 4 * c' ∧ (c' : Int) ≤ 10 + 2 * n.toInt))
theorem ls_put (k1 : hK h a = 26) (k2 : hN h a = c) (k3 : hK h l = 1) (k4 : hG h 1 l = some a) (q1 : 0 ≤ n) (n1 : n.toInt < (c : Int)) (q3 : 10 ≤ c ∧ c ≤ 1000) (lz : l < hz h ∧ a < hz h ∧ a ≠ hE h) (hv : ownK h v) (hkv : hK h v = kd) (hvz : v < hz h) (L4 : ∀ i, 0 ≤ i → i < n → hO h a i.toNatClampNeg = some (f i) ∧ hK h (f i) = kd ∧ f i < hz h) :
    Rn (F_Jx4a65c_add_72be8_11 l v (some a) n h) (fun h' => Ls h' l a c (n + 1) (fun i => if i = n then v else f i) kd ∧ (∀ b, b ≠ l → b ≠ a → cel h h' b) ∧ hE h' = hE h ∧ hz h' = hz h ∧ hs h' = hs h) := by
  have z : (0 : Int32).toInt = 0 := by decide
  have q1' := Int32.le_iff_toInt_le.mp q1
  have nl : n < 1001 := Int32.lt_iff_toInt_lt.mpr (by
    have : (1001 : Int32).toInt = 1001 := by decide
    omega)
  have ns := i32_succ nl
  unfold F_Jx4a65c_add_72be8_11
  refine rn_o rfl (rn_ck ⟨k1, by rw [k2]; exact inR_of q1 n1⟩ (rn_ck hv (rn_bd (rn_ck k3 (rn_bd (rn_s ⟨⟨⟨k3, k4, if_pos ⟨rfl, rfl⟩, lz.1, lz.2.1⟩, ⟨?_, ?_, q3.2⟩, Or.inr ⟨q3.1, k1, k2, lz.2.2⟩, ?_⟩, ?_, rfl, rfl, rfl⟩))))))
  · exact Int32.le_iff_toInt_le.mpr (by omega)
  · omega
  · intro i i0 i1
    show (if a = a ∧ i.toNatClampNeg = n.toNatClampNeg then some v else hO h a i.toNatClampNeg) = some (if i = n then v else f i) ∧ hK h (if i = n then v else f i) = kd ∧ (if i = n then v else f i) < hz h
    by_cases e : i = n
    · rw [if_pos ⟨rfl, by rw [e]⟩, if_pos e]
      exact ⟨rfl, hkv, hvz⟩
    · rw [if_neg (fun q => e (tnc_inj i0 q1 q.2)), if_neg e]
      rcases (i32_ls nl).mp i1 with r | r
      · exact L4 i i0 r
      · exact absurd r e
  · intro b b1 b2
    exact (cel_sO b2).trans (cel_sF b1)
theorem ownR_of {n : Nat} (H : ∀ i, i < n → ∃ v, hO h a i = some v ∧ ownK h v) : ownR h a n = true := by
  unfold ownR
  rw [List.all_eq_true]
  intro i hi
  obtain ⟨v, e, k⟩ := H i (List.mem_range.mp hi)
  rw [e]
  exact decide_eq_true k
theorem i_ofN {i : Nat} (h : i < 1001) : 0 ≤ Int32.ofNat i ∧ (Int32.ofNat i).toNatClampNeg = i := by
  have e := ofN_i (n := i) (by omega)
  have z : (0 : Int32).toInt = 0 := by decide
  have p : 0 ≤ Int32.ofNat i := Int32.le_iff_toInt_le.mpr (by omega)
  exact ⟨p, by have := tnc_i p; omega⟩
/-- ONE MORE on a list -/
theorem ls_add (L : Ls h l a c n f kd) (hn : n < 450) (he : hE h < hz h) (hv : ownK h v) (hkv : hK h v = kd) (hvz : v < hz h) : Rn (F_Jx4a65c_add_9ea2d l v h) (fun r => r.1 = 1 ∧ AddQ h l a c n f kd v r.2) := by
  have L' := L
  obtain ⟨⟨p1, p2, p3, p4, p5⟩, ⟨q1, q2, q3⟩, L3, L4⟩ := L
  have z : (0 : Int32).toInt = 0 := by decide
  have q1' := Int32.le_iff_toInt_le.mp q1
  have hn' := Int32.lt_iff_toInt_lt.mp hn
  have z5 : (450 : Int32).toInt = 450 := by decide
  have ns := i32_succ hn
  have e0 : ∀ b, b ≠ l → cel h (sF h 0 l (hF h 0 l + 1)) b := fun b n => cel_sF n
  have hkd : 2 ≤ kd ∧ kd ≤ 14 := by rw [← hkv]; exact hv
  unfold F_Jx4a65c_add_9ea2d
  have m1 : hK (sF h 0 l (hF h 0 l + 1)) = hK h := rfl
  have m2 : hG (sF h 0 l (hF h 0 l + 1)) = hG h := rfl
  have m3 : hF (sF h 0 l (hF h 0 l + 1)) 2 l = n := p3
  have m4 : hN (sF h 0 l (hF h 0 l + 1)) = hN h := rfl
  have m5 : hO (sF h 0 l (hF h 0 l + 1)) = hO h := rfl
  have m6 : hE (sF h 0 l (hF h 0 l + 1)) = hE h := rfl
  have m7 : hz (sF h 0 l (hF h 0 l + 1)) = hz h := rfl
  have m8 : hs (sF h 0 l (hF h 0 l + 1)) = hs h := rfl
  refine rn_bd ?_
  generalize sF h 0 l (hF h 0 l + 1) = h1 at *
  refine rn_o (by rw [m2]; exact p2) ?_
  rw [m3]
  refine rn_c (R := fun h' => AddQ h l a c n f kd v h') ?_ (fun h6 q => rn_s ⟨rfl, q⟩)
  unfold F_Jx4a65c_add_72be8
  have al : alen h1 a = Int32.ofNat c := by
    unfold alen
    rw [m6, m4]
    exact ls_alen L'
  have ac : a = hE h1 ∨ hK h1 a = 26 := by
    rcases L3 with r | r
    · exact Or.inl (by rw [m6]; exact r.2)
    · exact Or.inr (by rw [m1]; exact r.2.1)
  refine rn_ck ac ?_
  rw [al]
  refine rn_i (fun cc => ?_) (fun cc => ?_)
  · have nc : n.toInt = (c : Int) := by rw [cc]; exact ofN_i (by omega)
    refine rn_c (R := fun q => ∃ b c', q.1 = some b ∧ b = hz h ∧ hK q.2 b = 26 ∧ hN q.2 b = c' ∧ hG q.2 1 l = some b ∧ (∀ x, x < hz h → x ≠ l → cel h q.2 x) ∧ hK q.2 l = 1 ∧ hE q.2 = hE h ∧ hz q.2 = hz h + 1 ∧ hs q.2 = hs h + c' ∧ 10 ≤ c' ∧ n.toInt < (c' : Int) ∧ 4 * c + c' ≤ 4 * c' ∧ (c' : Int) ≤ 10 + 2 * n.toInt ∧ ∀ i, 0 ≤ i → i < n → hO q.2 b i.toNatClampNeg = hO h a i.toNatClampNeg) ?_ ?_
    · unfold F_Jx4a65c_grow_d5877 F_Jx4a65c_grow_92f84
      refine rn_c (R := fun q => ∃ b c', q.1 = some b ∧ b = hz h ∧ hK q.2 b = 26 ∧ hN q.2 b = c' ∧ hG q.2 1 l = some b ∧ (∀ x, x < hz h → x ≠ l → cel h q.2 x) ∧ hK q.2 l = 1 ∧ hE q.2 = hE h ∧ hz q.2 = hz h + 1 ∧ hs q.2 = hs h + c' ∧ 10 ≤ c' ∧ n.toInt < (c' : Int) ∧ 4 * c + c' ≤ 4 * c' ∧ (c' : Int) ≤ 10 + 2 * n.toInt ∧ ∀ i, 0 ≤ i → i < n → hO q.2 b i.toNatClampNeg = hO h a i.toNatClampNeg) ?_ (fun q k => rn_bd (rn_bd (rn_s k)))
      refine rn_o (by rw [m2]; exact p2) (rn_ck ac (rn_bd ?_))
      rw [al]
      refine rn_i (fun c0 => ?_) (fun c0 => ?_)
      · have c0' := Int32.lt_iff_toInt_lt.mp c0
        rw [ofN_i (by omega)] at c0'
        have L3 : 10 ≤ c ∧ hK h a = 26 ∧ hN h a = c ∧ a ≠ hE h := by
          rcases L3 with r | r
          · omega
          · exact r
        unfold F_Jx4a65c_grow_92f84_20
        have v2 : Int32.ofNat c + Int32.ofNat (c / 2) = Int32.ofNat (c + c / 2) := by
          rw [Int32.ofNat_add]
        have e1 : n + 1 - Int32.ofNat c = 1 := by
          rw [cc]
          generalize Int32.ofNat c = w
          grind
        refine rn_o (x := (Int32.ofNat (c + c / 2), h1)) ?_ (rn_bd (rn_bd ?_))
        · unfold F_J8_newLength_cabcc
          rw [m3, shr1 c (by omega), e1]
          have hc2 := ofN_i (n := c / 2) (by omega)
          have hc3 := ofN_i (n := c + c / 2) (by omega)
          have w1 : (1 : Int32).toInt = 1 := by decide
          rw [if_pos (Int32.lt_iff_toInt_lt.mpr (by omega)), bd_e, v2, bd_e]
          have w2 : (2147483639 : Int32).toInt = 2147483639 := by decide
          rw [if_neg (fun q => by have := Int32.le_iff_toInt_le.mp q; omega), if_neg (fun q => by have := Int32.lt_iff_toInt_lt.mp q; omega)]
        · refine rn_ck (by rw [m1]; exact p1) (rn_o (by rw [m2]; exact p2) ?_)
          have i1 := i_ofN (i := c) (by omega)
          have hc3 := ofN_i (n := c + c / 2) (by omega)
          have p0 : 0 ≤ Int32.ofNat (c + c / 2) := Int32.le_iff_toInt_le.mpr (by omega)
          have t3 : (Int32.ofNat (c + c / 2)).toNatClampNeg = c + c / 2 := by have := tnc_i p0; omega
          refine rn_c (R := fun q => q.1 = some (hz h) ∧ q.2 = sR (nA h1 26 (c + c / 2)) (hz h) (va_cpy (hO h a) (fun _ => none) 0 0 c)) ?_ ?_
          · unfold F_J7_copyOf_1904c F_J7_copyOf_6403c
            refine rn_ck (by rw [m1]; exact L3.2.1) ?_
            have az : a ≠ hz h1 := by omega
            have k1 : hK (nA h1 26 (c + c / 2)) a = 26 := (if_neg az).trans (by rw [show h1.1 = hK h from m1]; exact L3.2.1)
            have k2 : hN (nA h1 26 (c + c / 2)) a = c := (if_neg az).trans (by rw [show h1.2.2.2.1 = hN h from m4]; exact L3.2.2.1)
            have k3 : hE (nA h1 26 (c + c / 2)) = hE h := m6
            have k4 : hO (nA h1 26 (c + c / 2)) a = hO h a := by
              funext i
              have : h1.2.2.2.2.2.2.1 = hO h := m5
              refine (if_neg az).trans ?_
              rw [this]
            have k5 : hO (nA h1 26 (c + c / 2)) (hz h1) = fun _ => none := by
              funext i
              exact if_pos rfl
            have k6 : hK (nA h1 26 (c + c / 2)) (hz h1) = 26 := if_pos rfl
            have k7 : hN (nA h1 26 (c + c / 2)) (hz h1) = c + c / 2 := if_pos rfl
            have k8 : ∀ b, b < hz h → hK (nA h1 26 (c + c / 2)) b = hK h b := fun b hb => (if_neg (by omega)).trans (by rw [show h1.1 = hK h from m1])
            have al2 : alen (nA h1 26 (c + c / 2)) a = Int32.ofNat c := by
              unfold alen
              rw [k3, k2, if_neg L3.2.2.2]
            refine rn_c (R := fun q => q.1 = some (hz h) ∧ q.2 = sR (nA h1 26 (c + c / 2)) (hz h) (va_cpy (hO h a) (fun _ => none) 0 0 c)) ?_ (fun q k => rn_bd (rn_bd (rn_s k)))
            rw [t3]
            refine rn_ck ⟨Int32.not_lt.mpr p0, by omega⟩ (rn_bd (rn_bd (rn_ck (Or.inr k1) ?_)))
            rw [al2, if_neg (fun q => by
              have := Int32.lt_iff_toInt_lt.mp q
              rw [hc3, ofN_i (by omega)] at this
              omega)]
            refine rn_bd (rn_ck ⟨k1, k6, Int32.not_lt.mpr i1.1, by rw [i1.2, k2]; exact Nat.le_refl _, by rw [i1.2, k7]; omega, ?_⟩ (rn_bd (rn_s ⟨?_, ?_⟩)))
            · rw [i1.2]
              refine ownR_of (fun i hi => ?_)
              have w := i_ofN (i := i) (by omega)
              have wl : Int32.ofNat i < n := Int32.lt_iff_toInt_lt.mpr (by rw [ofN_i (by omega)]; omega)
              have u := L4 (Int32.ofNat i) w.1 wl
              rw [w.2] at u
              refine ⟨_, by rw [k4]; exact u.1, ?_⟩
              show 2 ≤ hK _ _ ∧ hK _ _ ≤ 14
              rw [k8 _ u.2.2, u.2.1]
              exact hkd
            · rw [m7]
            · rw [i1.2, k4, k5, m7]
          · rintro ⟨o10, h9⟩ ⟨r1, r2⟩
            dsimp only at r1 r2
            subst r1
            have c9 : ∀ x, x < hz h → x ≠ l → cel h h9 x := by
              intro x x1 x2
              rw [r2]
              exact ((e0 x x2).trans (cel_nA (by omega))).trans (cel_sR (by omega))
            have k9 : hK h9 = fun b => if b = hz h then 26 else hK h b := by
              rw [r2]
              funext b
              show (if b = hz h1 then 26 else hK h1 b) = _
              rw [m7, m1]
            have n9 : hN h9 (hz h) = c + c / 2 := by
              rw [r2]
              show (if hz h = hz h1 then c + c / 2 else _) = _
              rw [if_pos m7.symm]
            have o9 : ∀ i, hO h9 (hz h) i = va_cpy (hO h a) (fun _ => none) 0 0 c i := by
              intro i
              rw [r2]
              exact congrFun (if_pos rfl) i
            have z9 : hz h9 = hz h + 1 := by rw [r2, ← m7]; rfl
            have s9 : hs h9 = hs h + (c + c / 2) := by rw [r2, ← m8]; rfl
            have E9 : hE h9 = hE h := by rw [r2, ← m6]; rfl
            have l9 : hK h9 l = 1 := by rw [k9]; exact (if_neg (show ¬ l = hz h by omega)).trans p1
            refine rn_bd (rn_bd (rn_ck l9 (rn_bd (rn_s ⟨hz h, c + c / 2, rfl, rfl, ?_, n9, if_pos ⟨rfl, rfl⟩, ?_, l9, E9, z9, s9, by omega, by omega, by omega, by omega, ?_⟩))))
            · show hK h9 (hz h) = 26
              rw [k9]
              exact if_pos rfl
            · intro x x1 x2
              exact (c9 x x1 x2).trans (cel_sG x2)
            · intro i i0 i1
              show hO h9 (hz h) _ = _
              rw [o9]
              refine va_cpy0 ?_
              have := tnc_i i0
              have := Int32.lt_iff_toInt_lt.mp i1
              omega
      · have c0' : c = 0 := by
          have := Int32.le_iff_toInt_le.mp (Int32.not_lt.mp c0)
          rw [ofN_i (by omega)] at this
          omega
        have ea : a = hE h := by
          rcases L3 with r | r
          · exact r.2
          · omega
        have n0 : n = 0 := Int32.toInt_inj.mp (by omega)
        have g10 : (10 : Int32).toNatClampNeg = 10 := by decide
        refine rn_o (by rw [m2]; exact p2) (rn_p (by rw [m6]; exact ea) ?_)
        rw [m3, n0]
        refine rn_bd (rn_ck ⟨by decide, by decide⟩ (rn_bd (rn_bd ?_)))
        have l9 : hK (nA h1 26 10) l = 1 := (if_neg (show ¬ l = hz h1 by omega)).trans (by rw [show h1.1 = hK h from m1]; exact p1)
        refine rn_ck l9 (rn_bd (rn_s ⟨hz h, 10, by rw [m7], rfl, ?_, ?_, ?_, ?_, l9, m6, ?_, ?_, by decide, by decide, by omega, by decide, ?_⟩))
        · exact if_pos m7.symm
        · exact if_pos m7.symm
        · rw [m7]; exact if_pos ⟨rfl, rfl⟩
        · intro x x1 x2
          exact ((e0 x x2).trans (cel_nA (by omega))).trans (cel_sG x2)
        · show hz h1 + 1 = _
          rw [m7]
        · show hs h1 + 10 = _
          rw [m8]
        · intro i i0 i1
          exact absurd i0 (Int32.not_le.mpr i1)
    · rintro ⟨o5, h4⟩ ⟨b, c', r1, r2, r3, r4, r5, r6, r7, r8, r9, r10, r11, r12, r13, r14, r15⟩
      dsimp only at r1 r2 r3 r4 r5 r6 r7 r8 r9 r10 r11 r12 r13 r14 r15
      subst r1
      refine rn_bd (rn_bd ?_)
      have kv : hK h4 v = hK h v := (r6 v hvz (fun e => by rw [e, p1] at hkv; omega)).K
      have cb : (c' : Int) ≤ 1000 ∨ True := Or.inr trivial
      refine (ls_put (h := h4) (l := l) (a := b) (c := c') (n := n) (f := f) (kd := kd) (v := v) r3 r4 r7 r5 q1 r12 ⟨r11, ?_⟩ ⟨by omega, by omega, by rw [r8]; omega⟩ (by show 2 ≤ hK h4 v ∧ hK h4 v ≤ 14; rw [kv]; exact hv) (kv.trans hkv) (by omega) ?_).imp ?_
      · omega
      · intro i i0 i1
        have u := L4 i i0 i1
        have fl : f i ≠ l := fun e => by rw [e, p1] at u; omega
        rw [r15 i i0 i1, (r6 (f i) u.2.2 fl).K]
        exact ⟨u.1, u.2.1, by omega⟩
      · rintro h' ⟨s1, s2, s3, s4, s5⟩
        refine ⟨b, c', s1, ?_, s3.trans r8, Or.inr ⟨r2, by omega, by omega, r13, r14⟩⟩
        intro x x1 x2 x3
        exact (r6 x x1 x2).trans (s2 x x2 (by omega))
  · have nc : n.toInt < (c : Int) := by
      have : n.toInt ≠ (c : Int) := fun e => cc (Int32.toInt_inj.mp (by rw [ofN_i (by omega)]; exact e))
      omega
    have L3 : 10 ≤ c ∧ hK h a = 26 ∧ hN h a = c ∧ a ≠ hE h := by
      rcases L3 with r | r
      · omega
      · exact r
    refine (ls_put (h := h1) (l := l) (a := a) (c := c) (n := n) (f := f) (kd := kd) (v := v) (by rw [m1]; exact L3.2.1) (by rw [m4]; exact L3.2.2.1) (by rw [m1]; exact p1) (by rw [m2]; exact p2) q1 nc ⟨L3.1, q3⟩ ⟨by rw [m7]; exact p4, by rw [m7]; exact p5, by rw [m6]; exact L3.2.2.2⟩ (by show 2 ≤ hK h1 v ∧ hK h1 v ≤ 14; rw [m1]; exact hv) (by rw [m1]; exact hkv) (by omega) ?_).imp ?_
    · intro i i0 i1
      rw [m5, m1, m7]
      exact L4 i i0 i1
    · rintro h' ⟨s1, s2, s3, s4, s5⟩
      refine ⟨a, c, s1, ?_, s3.trans m6, Or.inl ⟨rfl, rfl, by omega, by omega⟩⟩
      intro x x1 x2 x3
      exact (e0 x x2).trans (s2 x x2 (x3 (by omega)))
/-- ONE LESS on a list: the last -/
theorem ls_drop (L : Ls h l a c n f kd) (hn : 0 < n) : Rn (F_Jx4a65c_remove_915e3 l (n - 1) h) (fun r => Ls r.2 l a c (n - 1) f kd ∧ (∀ b, b ≠ l → b ≠ a → cel h r.2 b) ∧ hE r.2 = hE h ∧ hz r.2 = hz h ∧ hs r.2 = hs h) := by
  have L' := L
  obtain ⟨⟨p1, p2, p3, p4, p5⟩, ⟨q1, q2, q3⟩, L3, L4⟩ := L
  have z : (0 : Int32).toInt = 0 := by decide
  have hn' := Int32.lt_iff_toInt_lt.mp hn
  have nd : (n - 1).toInt = n.toInt - 1 := by
    rw [Int32.toInt_sub]
    have e1 : (1 : Int32).toInt = 1 := by decide
    have := Int32.toInt_lt n
    rw [e1]
    apply Int.bmod_eq_of_le <;> omega
  have d0 : 0 ≤ n - 1 := Int32.le_iff_toInt_le.mpr (by omega)
  have d1 : n - 1 < n := Int32.lt_iff_toInt_lt.mpr (by omega)
  have k := L'.cap d0 d1
  unfold F_Jx4a65c_remove_915e3 F_J15_checkIndex_7cf53 F_J3_checkIndex_8e157
  rw [p3, if_neg (Int32.not_lt.mpr d0), if_pos d1, Option.bind_some, bd_e, bd_e, Option.bind_some]
  refine rn_bd (rn_bd (rn_ck p1 (rn_o p2 (rn_ck ⟨k.1, k.2.1⟩ (rn_o (L4 _ d0 d1).1 ?_)))))
  refine rn_c (R := fun h' => Ls h' l a c (n - 1) f kd ∧ (∀ b, b ≠ l → b ≠ a → cel h h' b) ∧ hE h' = hE h ∧ hz h' = hz h ∧ hs h' = hs h) ?_ (fun h' q => rn_s q)
  unfold F_Jx4a65c_fastRemove_b59b0 F_Jx4a65c_fastRemove_b59b0_34
  have m3 : hF (sF h 0 l (hF h 0 l + 1)) 2 l = n := p3
  refine rn_bd (rn_bd ?_)
  rw [m3]
  refine rn_p (Int32.le_refl _) (rn_ck p1 (rn_bd (rn_ck ⟨k.1, k.2.1⟩ (rn_bd (rn_s ⟨⟨⟨p1, p2, if_pos ⟨rfl, rfl⟩, p4, p5⟩, ⟨d0, by omega, q3⟩, L3, ?_⟩, ?_, rfl, rfl, rfl⟩)))))
  · intro i i0 i1
    show (if a = a ∧ i.toNatClampNeg = (n - 1).toNatClampNeg then none else hO h a i.toNatClampNeg) = _ ∧ hK h (f i) = kd ∧ f i < hz h
    have i1' := Int32.lt_iff_toInt_lt.mp i1
    rw [if_neg (fun q => by
      have := tnc_inj i0 d0 q.2
      rw [this] at i1'
      omega)]
    exact L4 i i0 (Int32.lt_iff_toInt_lt.mpr (by omega))
  · intro b b1 b2
    exact ((cel_sF b1).trans (cel_sF b1)).trans (cel_sO b2)
end Add
