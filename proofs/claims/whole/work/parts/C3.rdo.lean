/-! The page that is read, in the reference's cells -/
def PgX (e0 : mE) (g : Int32) (G : Pg) (e : mE) : Prop := (∀ t, inL G.turns t → e.2 9 (4 * g + t) = G.many t ∧ ∀ o, inL (G.many t) o → (e0.1 11 ≤ rwT e g t o ∧ rwT e g t o < e.1 11) ∧ e.2 12 (rwT e g t o) = G.bow t o ∧ e.2 13 (rwT e g t o) = G.siz t o ∧ ∀ i, inL (G.siz t o) i → e.2 14 (40 * rwT e g t o + i) = G.ent t o i) ∧ ∀ t o t' o', inL G.turns t → inL (G.many t) o → inL G.turns t' → inL (G.many t') o' → rwT e g t o = rwT e g t' o' → t = t' ∧ o = o'
section Mro
variable {e e0 E : mE} {g : Int32} {G : Pg}
/-- an over put behind the others, in a row of its own -/
theorem PgX.addO {t b s : Int32} {f : Int32 → Int32} (P : PgX e0 g G e) (ok : PgOK G) (g0 : 0 ≤ g ∧ g < 400) (ct : inL G.turns t) (m130 : G.many t < 130) (r0 : 0 ≤ e0.1 11) (R0 : e0.1 11 ≤ e.1 11) (R6 : e.1 11 < 6000) (h11 : E.1 11 = e.1 11 + 1) (h9 : ∀ i, E.2 9 i = if i = 4 * g + t then G.many t + 1 else e.2 9 i) (h10 : ∀ i, E.2 10 i = if i = 130 * (4 * g + t) + G.many t then e.1 11 else e.2 10 i) (h12 : ∀ r, E.2 12 r = if r = e.1 11 then b else e.2 12 r) (h13 : ∀ r, E.2 13 r = if r = e.1 11 then s else e.2 13 r) (h14 : ∀ r i, (0 ≤ r ∧ r < 6000) → r ≠ e.1 11 → inL 40 i → E.2 14 (40 * r + i) = e.2 14 (40 * r + i)) (hf : ∀ i, inL s i → E.2 14 (40 * e.1 11 + i) = f i) : PgX e0 g (G.addO t b s f) E := by
  obtain ⟨P1, P2⟩ := P
  have t4 : ∀ {q : Int32}, inL G.turns q → inL 4 q := fun h => ⟨h.1, Int32.lt_of_lt_of_le h.2 ok.t4⟩
  have mo : ∀ {q : Int32}, inL G.turns q → 0 ≤ G.many q ∧ G.many q ≤ 130 := fun h => (ok.2.2.2 _ h.1 h.2).1
  have m0 := (mo ct).1
  have M : inL 130 (G.many t) := ⟨m0, m130⟩
  have ms1 : G.many t < 2147483647 := Int32.lt_of_lt_of_le m130 (by decide)
  have Rs := i32_succ R6
  have R6' := Int32.lt_iff_toInt_lt.mp R6
  have old : ∀ t' o', inL G.turns t' → inL (G.many t') o' → rwT E g t' o' = rwT e g t' o' := fun t' o' a c => by
    unfold rwT
    rw [h10, if_neg (fun h => ?_)]
    have := inj130 g0 (t4 a) ⟨c.1, Int32.lt_of_lt_of_le c.2 (mo a).2⟩ g0 (t4 ct) M h
    rw [this.2.1, this.2.2] at c
    exact Int32.lt_irrefl c.2
  have new : rwT E g t (G.many t) = e.1 11 := by
    unfold rwT
    rw [h10, if_pos rfl]
  have split : ∀ t' o', inL G.turns t' → inL (if t' = t then G.many t + 1 else G.many t') o' → inL (G.many t') o' ∨ (t' = t ∧ o' = G.many t) := fun t' o' a c => by
    by_cases y : t' = t
    · rw [if_pos y] at c
      rcases (i32_ls ms1).mp c.2 with z | z
      · exact Or.inl ⟨c.1, by rw [y]; exact z⟩
      · exact Or.inr ⟨y, z⟩
    · rw [if_neg y] at c
      exact Or.inl c
  have row : ∀ t' o', inL G.turns t' → inL (G.many t') o' → (e0.1 11 ≤ rwT E g t' o' ∧ rwT E g t' o' < E.1 11) ∧ E.2 12 (rwT E g t' o') = G.bow t' o' ∧ E.2 13 (rwT E g t' o') = G.siz t' o' ∧ ∀ i, inL (G.siz t' o') i → E.2 14 (40 * rwT E g t' o' + i) = G.ent t' o' i := fun t' o' a c => by
    obtain ⟨v1, v2, v3, v4⟩ := (P1 t' a).2 o' c
    have n : rwT e g t' o' ≠ e.1 11 := lt_ne v1.2
    have sz := ((ok.2.2.2 _ a.1 a.2).2 o' c.1 c.2).2.1.2
    rw [old t' o' a c, h11, h12, h13, if_neg n, if_neg n]
    refine ⟨⟨v1.1, ?_⟩, v2, v3, fun i hi => (h14 _ i ⟨i32_tr r0 v1.1, Int32.lt_of_lt_of_le v1.2 (Int32.le_of_lt R6)⟩ n (inL40 sz hi)).trans (v4 i hi)⟩
    have := Int32.lt_iff_toInt_lt.mp v1.2
    exact Int32.lt_iff_toInt_lt.mpr (by omega)
  refine ⟨fun t' ht' => ?_, fun t1 o1 t2 o2 a1 c1 a2 c2 h => ?_⟩
  · have ht' : inL G.turns t' := ht'
    show E.2 9 (4 * g + t') = (if t' = t then G.many t + 1 else G.many t') ∧ ∀ o, inL (if t' = t then G.many t + 1 else G.many t') o → (e0.1 11 ≤ rwT E g t' o ∧ rwT E g t' o < E.1 11) ∧ E.2 12 (rwT E g t' o) = (if t' = t ∧ o = G.many t then b else G.bow t' o) ∧ E.2 13 (rwT E g t' o) = (if t' = t ∧ o = G.many t then s else G.siz t' o) ∧ ∀ i, inL (if t' = t ∧ o = G.many t then s else G.siz t' o) i → E.2 14 (40 * rwT E g t' o + i) = (if t' = t ∧ o = G.many t then f else G.ent t' o) i
    refine ⟨?_, fun o ho => ?_⟩
    · rw [h9]
      by_cases y : t' = t
      · rw [if_pos y, if_pos (by rw [y])]
      · rw [if_neg y, if_neg (fun h => y (inj4 g0 (t4 ht') g0 (t4 ct) h).2)]
        exact (P1 t' ht').1
    · by_cases z : t' = t ∧ o = G.many t
      · rw [if_pos z, if_pos z, if_pos z, z.1, z.2, new, h11, h12, h13, if_pos rfl, if_pos rfl]
        exact ⟨⟨R0, Int32.lt_iff_toInt_lt.mpr (by omega)⟩, rfl, rfl, hf⟩
      · rw [if_neg z, if_neg z, if_neg z]
        exact row t' o ht' ((split t' o ht' ho).resolve_right z)
  · have a1 : inL G.turns t1 := a1
    have a2 : inL G.turns t2 := a2
    rcases split t1 o1 a1 c1 with y | ⟨y1, y2⟩
    · rcases split t2 o2 a2 c2 with z | ⟨z1, z2⟩
      · rw [old _ _ a1 y, old _ _ a2 z] at h
        exact P2 _ _ _ _ a1 y a2 z h
      · rw [old _ _ a1 y, z1, z2, new] at h
        exact absurd ((P1 t1 a1).2 o1 y).1.2 (by rw [h]; exact Int32.lt_irrefl)
    · rcases split t2 o2 a2 c2 with z | ⟨z1, z2⟩
      · rw [old _ _ a2 z, y1, y2, new] at h
        exact absurd ((P1 t2 a2).2 o2 z).1.2 (by rw [← h]; exact Int32.lt_irrefl)
      · rw [y1, y2, z1, z2]; exact ⟨rfl, rfl⟩
/-- a turn put behind the others -/
theorem PgX.addT (P : PgX e0 g G e) (ok : PgOK G) (g0 : 0 ≤ g ∧ g < 400) (t4 : G.turns < 4) (h11 : E.1 11 = e.1 11) (h9 : ∀ i, E.2 9 i = if i = 4 * g + G.turns then 0 else e.2 9 i) (hk : ∀ k, k = 10 ∨ k = 12 ∨ k = 13 ∨ k = 14 → ∀ i, E.2 k i = e.2 k i) : PgX e0 g G.addT E := by
  obtain ⟨P1, P2⟩ := P
  have tu := ok.2.2.1.1
  have ts1 : G.turns < 2147483647 := Int32.lt_of_lt_of_le t4 (by decide)
  have tt : inL 4 G.turns := ⟨tu, t4⟩
  have rw2 : ∀ t o, rwT E g t o = rwT e g t o := fun t o => hk 10 (Or.inl rfl) _
  have vis : ∀ t' o', inL (G.turns + 1) t' → inL (if t' = G.turns then 0 else G.many t') o' → inL G.turns t' ∧ inL (G.many t') o' := fun t' o' a c => by
    rcases (i32_ls ts1).mp a.2 with z | z
    · rw [if_neg (lt_ne z)] at c
      exact ⟨⟨a.1, z⟩, c⟩
    · rw [if_pos z] at c
      exact absurd c.1 (Int32.not_le.mpr c.2)
  refine ⟨fun t' ht' => ?_, fun t1 o1 t2 o2 a1 c1 a2 c2 h => ?_⟩
  · have ht' : inL (G.turns + 1) t' := ht'
    show E.2 9 (4 * g + t') = (if t' = G.turns then 0 else G.many t') ∧ ∀ o, inL (if t' = G.turns then 0 else G.many t') o → _
    refine ⟨?_, fun o ho => ?_⟩
    · rw [h9]
      rcases (i32_ls ts1).mp ht'.2 with z | z
      · rw [if_neg (lt_ne z), if_neg (fun h => lt_ne z (inj4 g0 ⟨ht'.1, Int32.lt_of_lt_of_le z (Int32.le_of_lt t4)⟩ g0 tt h).2)]
        exact (P1 t' ⟨ht'.1, z⟩).1
      · rw [if_pos z, z, if_pos rfl]
    · obtain ⟨v1, v2⟩ := vis t' o ht' ho
      obtain ⟨w1, w2, w3, w4⟩ := (P1 t' v1).2 o v2
      rw [rw2, h11, hk 12 (by omega), hk 13 (by omega)]
      exact ⟨w1, w2, w3, fun i hi => (hk 14 (by omega) _).trans (w4 i hi)⟩
  · obtain ⟨v1, v2⟩ := vis t1 o1 a1 c1
    obtain ⟨w1, w2⟩ := vis t2 o2 a2 c2
    rw [rw2, rw2] at h
    exact P2 _ _ _ _ v1 v2 w1 w2 h
end Mro
