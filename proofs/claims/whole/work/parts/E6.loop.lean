/-! The law's loop (wip/tools/genE6.py) -/
section Elp
variable {x S0 k : Nat} {h : aH} {A : Bk} {L : Nat} {X : Nat → Int32} {k23 : Nat → Nat → Nat → Int32 → aH → Option (Int32 × aH)} {x4 : Int32} {Q : Int32 × aH → Prop}
theorem st_take (I : LI x S0 k h A) (kb : k ≤ 512) (b : ∀ j, j < 6 → inR (x4 + Int32.ofNat j) L) (go : ∀ h9 B, LI x S0 (k + 1) h9 B → Rn (k23 x (x + 173) (x + 228) (x4 + 6) h9) Q) : Rn (F_L_law_1610 L X k23 x (x + 173) (x + 228) x4 h) Q := by
  unfold F_L_law_1610
  exact rn_ck (b 1 (by decide)) (lw_call I (ca_take I kb _) (fun h4 r e' m hp => pl_X12_take m (fr.refl _ _) hp) (fun h9 B L9 => rn_bd (go h9 B L9)))
theorem st_check (I : LI x S0 k h A) (kb : k ≤ 512) (b : ∀ j, j < 6 → inR (x4 + Int32.ofNat j) L) (go : ∀ h9 B, LI x S0 (k + 1) h9 B → Rn (k23 x (x + 173) (x + 228) (x4 + 6) h9) Q) : Rn (F_L_law_1585 L X k23 x (x + 173) (x + 228) x4 h) Q := by
  unfold F_L_law_1585
  exact rn_ck (b 1 (by decide)) (lw_call I (ca_check I kb _) (fun h4 r e' m hp => pl_X12_check m (fr.refl _ _) hp) (fun h9 B L9 => rn_bd (go h9 B L9)))
theorem st_image (I : LI x S0 k h A) (kb : k ≤ 512) (b : ∀ j, j < 6 → inR (x4 + Int32.ofNat j) L) (go : ∀ h9 B, LI x S0 (k + 1) h9 B → Rn (k23 x (x + 173) (x + 228) (x4 + 6) h9) Q) : Rn (F_L_law_1504 L X k23 x (x + 173) (x + 228) x4 h) Q := by
  unfold F_L_law_1504
  exact rn_ck (b 1 (by decide)) (lw_call I (ca_image I kb _) (fun h4 r e' m hp => pl_X12_image m (fr.refl _ _) hp) (fun h9 B L9 => rn_bd (go h9 B L9)))
theorem st_why (I : LI x S0 k h A) (kb : k ≤ 512) (b : ∀ j, j < 6 → inR (x4 + Int32.ofNat j) L) (go : ∀ h9 B, LI x S0 (k + 1) h9 B → Rn (k23 x (x + 173) (x + 228) (x4 + 6) h9) Q) : Rn (F_L_law_907 L X k23 x (x + 173) (x + 228) x4 h) Q := by
  unfold F_L_law_907
  exact lw_call I (ca_why I kb ) (fun h4 r e' m hp => pl_X12_why m (fr.refl _ _) hp) (fun h9 B L9 => rn_bd (go h9 B L9))
theorem st_undo (I : LI x S0 k h A) (kb : k ≤ 512) (b : ∀ j, j < 6 → inR (x4 + Int32.ofNat j) L) (go : ∀ h9 B, LI x S0 (k + 1) h9 B → Rn (k23 x (x + 173) (x + 228) (x4 + 6) h9) Q) : Rn (F_L_law_894 L X k23 x (x + 173) (x + 228) x4 h) Q := by
  unfold F_L_law_894
  exact lw_call I (ca_undo I kb ) (fun h4 r e' m hp => pl_X12_undo m (fr.refl _ _) hp) (fun h9 B L9 => rn_bd (go h9 B L9))
theorem st_bowls (I : LI x S0 k h A) (kb : k ≤ 512) (b : ∀ j, j < 6 → inR (x4 + Int32.ofNat j) L) (go : ∀ h9 B, LI x S0 (k + 1) h9 B → Rn (k23 x (x + 173) (x + 228) (x4 + 6) h9) Q) : Rn (F_L_law_833 L X k23 x (x + 173) (x + 228) x4 h) Q := by
  unfold F_L_law_833
  exact rn_ck (b 1 (by decide)) (rn_ck (b 2 (by decide)) (rn_ck (b 3 (by decide)) (rn_ck (b 4 (by decide)) (lw_call I (ca_bowls I kb _ _ _ _) (fun h4 r e' m hp => pl_X12_bowls m (fr.refl _ _) hp) (fun h9 B L9 => rn_bd (go h9 B L9))))))
theorem st_out (I : LI x S0 k h A) (kb : k ≤ 512) (b : ∀ j, j < 6 → inR (x4 + Int32.ofNat j) L) (go : ∀ h9 B, LI x S0 (k + 1) h9 B → Rn (k23 x (x + 173) (x + 228) (x4 + 6) h9) Q) : Rn (F_L_law_772 L X k23 x (x + 173) (x + 228) x4 h) Q := by
  unfold F_L_law_772
  exact rn_ck (b 1 (by decide)) (rn_ck (b 2 (by decide)) (rn_ck (b 3 (by decide)) (rn_ck (b 4 (by decide)) (lw_call I (ca_out I kb _ _ _ _) (fun h4 r e' m hp => pl_X12_out m (fr.refl _ _) hp) (fun h9 B L9 => rn_bd (go h9 B L9))))))
theorem st_mend (I : LI x S0 k h A) (kb : k ≤ 512) (b : ∀ j, j < 6 → inR (x4 + Int32.ofNat j) L) (go : ∀ h9 B, LI x S0 (k + 1) h9 B → Rn (k23 x (x + 173) (x + 228) (x4 + 6) h9) Q) : Rn (F_L_law_699 L X k23 x (x + 173) (x + 228) x4 h) Q := by
  unfold F_L_law_699
  exact rn_ck (b 1 (by decide)) (rn_ck (b 2 (by decide)) (rn_ck (b 3 (by decide)) (rn_ck (b 4 (by decide)) (rn_ck (b 5 (by decide)) (lw_call I (ca_mend I kb _ _ _ _ _) (fun h4 r e' m hp => pl_X12_mend m (fr.refl _ _) hp) (fun h9 B L9 => rn_bd (go h9 B L9)))))))
theorem st_put (I : LI x S0 k h A) (kb : k ≤ 512) (b : ∀ j, j < 6 → inR (x4 + Int32.ofNat j) L) (go : ∀ h9 B, LI x S0 (k + 1) h9 B → Rn (k23 x (x + 173) (x + 228) (x4 + 6) h9) Q) : Rn (F_L_law_626 L X k23 x (x + 173) (x + 228) x4 h) Q := by
  unfold F_L_law_626
  exact rn_ck (b 1 (by decide)) (rn_ck (b 2 (by decide)) (rn_ck (b 3 (by decide)) (rn_ck (b 4 (by decide)) (rn_ck (b 5 (by decide)) (lw_call I (ca_put I kb _ _ _ _ _) (fun h4 r e' m hp => pl_X12_put m (fr.refl _ _) hp) (fun h9 B L9 => rn_bd (go h9 B L9)))))))
theorem st_tear (I : LI x S0 k h A) (kb : k ≤ 512) (b : ∀ j, j < 6 → inR (x4 + Int32.ofNat j) L) (go : ∀ h9 B, LI x S0 (k + 1) h9 B → Rn (k23 x (x + 173) (x + 228) (x4 + 6) h9) Q) : Rn (F_L_law_577 L X k23 x (x + 173) (x + 228) x4 h) Q := by
  unfold F_L_law_577
  exact rn_ck (b 1 (by decide)) (rn_ck (b 2 (by decide)) (rn_ck (b 3 (by decide)) (lw_call I (ca_tear I kb _ _ _) (fun h4 r e' m hp => pl_X12_tear m (fr.refl _ _) hp) (fun h9 B L9 => rn_bd (go h9 B L9)))))
theorem st_open (I : LI x S0 k h A) (kb : k ≤ 512) (b : ∀ j, j < 6 → inR (x4 + Int32.ofNat j) L) (go : ∀ h9 B, LI x S0 (k + 1) h9 B → Rn (k23 x (x + 173) (x + 228) (x4 + 6) h9) Q) : Rn (F_L_law_516 L X k23 x (x + 173) (x + 228) x4 h) Q := by
  unfold F_L_law_516
  exact rn_ck (b 1 (by decide)) (rn_ck (b 2 (by decide)) (rn_ck (b 3 (by decide)) (rn_ck (b 4 (by decide)) (lw_call I (ca_open I kb _ _ _ _) (fun h4 r e' m hp => pl_X12_open m (fr.refl _ _) hp) (fun h9 B L9 => rn_bd (go h9 B L9))))))
theorem st_feed (I : LI x S0 k h A) (kb : k ≤ 512) (b : ∀ j, j < 6 → inR (x4 + Int32.ofNat j) L) (go : ∀ h9 B, LI x S0 (k + 1) h9 B → Rn (k23 x (x + 173) (x + 228) (x4 + 6) h9) Q) : Rn (F_L_law_443 L X k23 x (x + 173) (x + 228) x4 h) Q := by
  unfold F_L_law_443
  exact rn_ck (b 1 (by decide)) (rn_ck (b 2 (by decide)) (rn_ck (b 3 (by decide)) (rn_ck (b 4 (by decide)) (rn_ck (b 5 (by decide)) (lw_call I (ca_feed I kb _ _ _ _ _) (fun h4 r e' m hp => pl_X12_feed m (fr.refl _ _) hp) (fun h9 B L9 => rn_bd (go h9 B L9)))))))
theorem st_ball (I : LI x S0 k h A) (kb : k ≤ 512) (b : ∀ j, j < 6 → inR (x4 + Int32.ofNat j) L) (go : ∀ h9 B, LI x S0 (k + 1) h9 B → Rn (k23 x (x + 173) (x + 228) (x4 + 6) h9) Q) : Rn (F_L_law_406 L X k23 x (x + 173) (x + 228) x4 h) Q := by
  unfold F_L_law_406
  exact rn_ck (b 1 (by decide)) (rn_ck (b 2 (by decide)) (lw_call I (ca_ball I kb _ _) (fun h4 r e' m hp => pl_X12_ball m (fr.refl _ _) hp) (fun h9 B L9 => rn_bd (go h9 B L9))))
theorem st_over (I : LI x S0 k h A) (kb : k ≤ 512) (b : ∀ j, j < 6 → inR (x4 + Int32.ofNat j) L) (go : ∀ h9 B, LI x S0 (k + 1) h9 B → Rn (k23 x (x + 173) (x + 228) (x4 + 6) h9) Q) : Rn (F_L_law_369 L X k23 x (x + 173) (x + 228) x4 h) Q := by
  unfold F_L_law_369
  exact rn_ck (b 1 (by decide)) (rn_ck (b 2 (by decide)) (lw_call I (ca_over I kb _ _) (fun h4 r e' m hp => pl_X12_over m (fr.refl _ _) hp) (fun h9 B L9 => rn_bd (go h9 B L9))))
theorem st_turn (I : LI x S0 k h A) (kb : k ≤ 512) (b : ∀ j, j < 6 → inR (x4 + Int32.ofNat j) L) (go : ∀ h9 B, LI x S0 (k + 1) h9 B → Rn (k23 x (x + 173) (x + 228) (x4 + 6) h9) Q) : Rn (F_L_law_344 L X k23 x (x + 173) (x + 228) x4 h) Q := by
  unfold F_L_law_344
  exact rn_ck (b 1 (by decide)) (lw_call I (ca_turn I kb _) (fun h4 r e' m hp => pl_X12_turn m (fr.refl _ _) hp) (fun h9 B L9 => rn_bd (go h9 B L9)))
theorem st_seat (I : LI x S0 k h A) (kb : k ≤ 512) (b : ∀ j, j < 6 → inR (x4 + Int32.ofNat j) L) (go : ∀ h9 B, LI x S0 (k + 1) h9 B → Rn (k23 x (x + 173) (x + 228) (x4 + 6) h9) Q) : Rn (F_L_law_283 L X k23 x (x + 173) (x + 228) x4 h) Q := by
  unfold F_L_law_283
  exact rn_ck (b 1 (by decide)) (rn_ck (b 2 (by decide)) (rn_ck (b 3 (by decide)) (rn_ck (b 4 (by decide)) (lw_call I (ca_seat I kb _ _ _ _) (fun h4 r e' m hp => pl_X12_seat m (fr.refl _ _) hp) (fun h9 B L9 => rn_bd (go h9 B L9))))))
theorem st_toss (I : LI x S0 k h A) (kb : k ≤ 512) (b : ∀ j, j < 6 → inR (x4 + Int32.ofNat j) L) (go : ∀ h9 B, LI x S0 (k + 1) h9 B → Rn (k23 x (x + 173) (x + 228) (x4 + 6) h9) Q) : Rn (F_L_law_222 L X k23 x (x + 173) (x + 228) x4 h) Q := by
  unfold F_L_law_222
  exact rn_ck (b 1 (by decide)) (rn_ck (b 2 (by decide)) (rn_ck (b 3 (by decide)) (rn_ck (b 4 (by decide)) (lw_call I (ca_toss I kb _ _ _ _) (fun h4 r e' m hp => pl_X12_toss m (fr.refl _ _) hp) (fun h9 B L9 => rn_bd (go h9 B L9))))))
theorem st_player (I : LI x S0 k h A) (kb : k ≤ 512) (b : ∀ j, j < 6 → inR (x4 + Int32.ofNat j) L) (go : ∀ h9 B, LI x S0 (k + 1) h9 B → Rn (k23 x (x + 173) (x + 228) (x4 + 6) h9) Q) : Rn (F_L_law_197 L X k23 x (x + 173) (x + 228) x4 h) Q := by
  unfold F_L_law_197
  exact rn_ck (b 1 (by decide)) (lw_call I (ca_player I kb _) (fun h4 r e' m hp => pl_X12_player m (fr.refl _ _) hp) (fun h9 B L9 => rn_bd (go h9 B L9)))
theorem st_side (I : LI x S0 k h A) (kb : k ≤ 512) (b : ∀ j, j < 6 → inR (x4 + Int32.ofNat j) L) (go : ∀ h9 B, LI x S0 (k + 1) h9 B → Rn (k23 x (x + 173) (x + 228) (x4 + 6) h9) Q) : Rn (F_L_law_172 L X k23 x (x + 173) (x + 228) x4 h) Q := by
  unfold F_L_law_172
  exact rn_ck (b 1 (by decide)) (lw_call I (ca_side I kb _) (fun h4 r e' m hp => pl_X12_side m (fr.refl _ _) hp) (fun h9 B L9 => rn_bd (go h9 B L9)))
theorem st_sum (I : LI x S0 k h A) (kb : k ≤ 512) (b : ∀ j, j < 6 → inR (x4 + Int32.ofNat j) L) (go : ∀ h9 B, LI x S0 (k + 1) h9 B → Rn (k23 x (x + 173) (x + 228) (x4 + 6) h9) Q) : Rn (F_L_law_1691 L X k23 x (x + 173) (x + 228) x4 h) Q := by
  unfold F_L_law_1691
  exact rn_ck (b 1 (by decide)) (lw_ask (cv := (fun v : Int64 => v)) I (qa_sum I _) (fun h4 r e' m hp => pl_X12_sum m (fr.refl _ _) hp) (fun h9 L9 => rn_bd (go h9 A L9)))
theorem st_list (I : LI x S0 k h A) (kb : k ≤ 512) (b : ∀ j, j < 6 → inR (x4 + Int32.ofNat j) L) (go : ∀ h9 B, LI x S0 (k + 1) h9 B → Rn (k23 x (x + 173) (x + 228) (x4 + 6) h9) Q) : Rn (F_L_law_1635 L X k23 x (x + 173) (x + 228) x4 h) Q := by
  unfold F_L_law_1635
  exact rn_ck (b 1 (by decide)) (lw_ask (cv := (fun v : Int32 => v.toInt64)) I (qa_list I _) (fun h4 r e' m hp => pl_X12_list m (fr.refl _ _) hp) (fun h9 L9 => rn_bd (go h9 A L9)))
theorem st_told (I : LI x S0 k h A) (kb : k ≤ 512) (b : ∀ j, j < 6 → inR (x4 + Int32.ofNat j) L) (go : ∀ h9 B, LI x S0 (k + 1) h9 B → Rn (k23 x (x + 173) (x + 228) (x4 + 6) h9) Q) : Rn (F_L_law_1529 L X k23 x (x + 173) (x + 228) x4 h) Q := by
  unfold F_L_law_1529
  exact rn_ck (b 1 (by decide)) (lw_ask (cv := (fun v : Int32 => v.toInt64)) I (qa_told I _) (fun h4 r e' m hp => pl_X12_told m (fr.refl _ _) hp) (fun h9 L9 => rn_bd (go h9 A L9)))
theorem st_record (I : LI x S0 k h A) (kb : k ≤ 512) (b : ∀ j, j < 6 → inR (x4 + Int32.ofNat j) L) (go : ∀ h9 B, LI x S0 (k + 1) h9 B → Rn (k23 x (x + 173) (x + 228) (x4 + 6) h9) Q) : Rn (F_L_law_1436 L X k23 x (x + 173) (x + 228) x4 h) Q := by
  unfold F_L_law_1436
  exact rn_ck (b 1 (by decide)) (rn_ck (b 2 (by decide)) (lw_ask (cv := (fun v : Int32 => v.toInt64)) I (qa_record I _ _) (fun h4 r e' m hp => pl_X12_record m (fr.refl _ _) hp) (fun h9 L9 => rn_bd (go h9 A L9))))
theorem st_fields (I : LI x S0 k h A) (kb : k ≤ 512) (b : ∀ j, j < 6 → inR (x4 + Int32.ofNat j) L) (go : ∀ h9 B, LI x S0 (k + 1) h9 B → Rn (k23 x (x + 173) (x + 228) (x4 + 6) h9) Q) : Rn (F_L_law_1344 L X k23 x (x + 173) (x + 228) x4 h) Q := by
  unfold F_L_law_1344
  exact rn_ck (b 1 (by decide)) (rn_ck (b 2 (by decide)) (rn_ck (b 3 (by decide)) (rn_ck (b 4 (by decide)) (lw_ask (cv := (fun v : Int32 => v.toInt64)) I (qa_fields I _ _ _ _) (fun h4 r e' m hp => pl_X12_fields m (fr.refl _ _) hp) (fun h9 L9 => rn_bd (go h9 A L9))))))
theorem st_bats (I : LI x S0 k h A) (kb : k ≤ 512) (b : ∀ j, j < 6 → inR (x4 + Int32.ofNat j) L) (go : ∀ h9 B, LI x S0 (k + 1) h9 B → Rn (k23 x (x + 173) (x + 228) (x4 + 6) h9) Q) : Rn (F_L_law_1252 L X k23 x (x + 173) (x + 228) x4 h) Q := by
  unfold F_L_law_1252
  exact rn_ck (b 1 (by decide)) (rn_ck (b 2 (by decide)) (rn_ck (b 3 (by decide)) (rn_ck (b 4 (by decide)) (lw_ask (cv := (fun v : Int32 => v.toInt64)) I (qa_bats I _ _ _ _) (fun h4 r e' m hp => pl_X12_bats m (fr.refl _ _) hp) (fun h9 L9 => rn_bd (go h9 A L9))))))
theorem st_entry (I : LI x S0 k h A) (kb : k ≤ 512) (b : ∀ j, j < 6 → inR (x4 + Int32.ofNat j) L) (go : ∀ h9 B, LI x S0 (k + 1) h9 B → Rn (k23 x (x + 173) (x + 228) (x4 + 6) h9) Q) : Rn (F_L_law_1160 L X k23 x (x + 173) (x + 228) x4 h) Q := by
  unfold F_L_law_1160
  exact rn_ck (b 1 (by decide)) (rn_ck (b 2 (by decide)) (rn_ck (b 3 (by decide)) (rn_ck (b 4 (by decide)) (lw_ask (cv := (fun v : Int32 => v.toInt64)) I (qa_entry I _ _ _ _) (fun h4 r e' m hp => pl_X12_entry m (fr.refl _ _) hp) (fun h9 L9 => rn_bd (go h9 A L9))))))
theorem st_overs (I : LI x S0 k h A) (kb : k ≤ 512) (b : ∀ j, j < 6 → inR (x4 + Int32.ofNat j) L) (go : ∀ h9 B, LI x S0 (k + 1) h9 B → Rn (k23 x (x + 173) (x + 228) (x4 + 6) h9) Q) : Rn (F_L_law_1068 L X k23 x (x + 173) (x + 228) x4 h) Q := by
  unfold F_L_law_1068
  exact rn_ck (b 1 (by decide)) (rn_ck (b 2 (by decide)) (rn_ck (b 3 (by decide)) (rn_ck (b 4 (by decide)) (lw_ask (cv := (fun v : Int32 => v.toInt64)) I (qa_overs I _ _ _ _) (fun h4 r e' m hp => pl_X12_overs m (fr.refl _ _) hp) (fun h9 L9 => rn_bd (go h9 A L9))))))
theorem st_score (I : LI x S0 k h A) (kb : k ≤ 512) (b : ∀ j, j < 6 → inR (x4 + Int32.ofNat j) L) (go : ∀ h9 B, LI x S0 (k + 1) h9 B → Rn (k23 x (x + 173) (x + 228) (x4 + 6) h9) Q) : Rn (F_L_law_988 L X k23 x (x + 173) (x + 228) x4 h) Q := by
  unfold F_L_law_988
  exact rn_ck (b 1 (by decide)) (rn_ck (b 2 (by decide)) (rn_ck (b 3 (by decide)) (lw_ask (cv := (fun v : Int32 => v.toInt64)) I (qa_score I _ _ _) (fun h4 r e' m hp => pl_X12_score m (fr.refl _ _) hp) (fun h9 L9 => rn_bd (go h9 A L9)))))
theorem st_now (I : LI x S0 k h A) (kb : k ≤ 512) (b : ∀ j, j < 6 → inR (x4 + Int32.ofNat j) L) (go : ∀ h9 B, LI x S0 (k + 1) h9 B → Rn (k23 x (x + 173) (x + 228) (x4 + 6) h9) Q) : Rn (F_L_law_920 L X k23 x (x + 173) (x + 228) x4 h) Q := by
  unfold F_L_law_920
  exact rn_ck (b 1 (by decide)) (rn_ck (b 2 (by decide)) (lw_ask (cv := (fun v : Int32 => v.toInt64)) I (qa_now I _ _) (fun h4 r e' m hp => pl_X12_now m (fr.refl _ _) hp) (fun h9 L9 => rn_bd (go h9 A L9))))
theorem LI.up (I : LI x S0 k h A) : LI x S0 (k + 1) h A := by
  obtain ⟨i1, i2, i3, i4, i5, i6, i7, i8⟩ := I
  exact ⟨i1, i2, i3, i4, i5, by omega, by omega, by omega⟩
theorem ofN_ad {m j : Nat} : Int32.ofNat m + Int32.ofNat j = Int32.ofNat (m + j) := (Int32.ofNat_add m j).symm
theorem inr_n {m L : Nat} (hm : m < L) (hL : L ≤ 3072) : inR (Int32.ofNat m) L := by
  have a := ofN_i (n := m) (by omega)
  have z : (0 : Int32).toInt = 0 := by decide
  have b : 0 ≤ Int32.ofNat m := Int32.le_iff_toInt_le.mpr (by omega)
  have t := tnc_i b
  intro q
  rcases q with q | q
  · exact absurd b (Int32.not_le.mpr q)
  · omega
/-- it comes to 1, within the room -/
theorem law_loop (hL : L ≤ 3072) : ∀ n k h A, LI x S0 k h A → 6 * k ≤ L → L < 6 * k + n → Rn (F_L_law_23 L X n x (x + 173) (x + 228) (Int32.ofNat (6 * k)) h) (fun r => r.1 = 1 ∧ (hz r.2 : Int) ≤ x + 229 + 100 * 512 ∧ (hs r.2 : Int) ≤ S0 + 2000 * 512)
  | 0, k, _, _, _, h1, h2 => absurd h1 (by omega)
  | n + 1, k, h, A, I, h1, h2 => by
    have kb : k ≤ 512 := by omega
    have eL := ofN_i (n := L) (by omega)
    have eK := ofN_i (n := 6 * k) (by omega)
    have e6 : (6 : Int32).toInt = 6 := by decide
    have eS : (Int32.ofNat L - 6).toInt = (L : Int) - 6 := by
      rw [Int32.toInt_sub, eL, e6]
      apply Int.bmod_eq_of_le <;> omega
    unfold F_L_law_23
    refine rn_i (fun c => ?_) (fun c => ?_)
    · obtain ⟨i1, i2, i3, i4, i5, i6, i7, i8⟩ := I
      have t0 := i32t0 i4.2.2.1.1
      have z : (0 : Int32).toInt = 0 := by decide
      exact rn_s ⟨rfl, by show (hz h : Int) ≤ _; omega, by show (hs h : Int) ≤ _; omega⟩
    · have le := Int32.le_iff_toInt_le.mp (Int32.not_lt.mp c)
      have l6 : 6 * k + 6 ≤ L := by omega
      have b : ∀ j, j < 6 → inR (Int32.ofNat (6 * k) + Int32.ofNat j) L := fun j hj => by
        rw [ofN_ad]
        exact inr_n (by omega) hL
      have b0 : inR (Int32.ofNat (6 * k)) L := inr_n (by omega) hL
      have e' : Int32.ofNat (6 * k) + 6 = Int32.ofNat (6 * (k + 1)) := by
        rw [show 6 * (k + 1) = 6 * k + 6 by omega, ← ofN_ad]
        rfl
      have go : ∀ h9 B, LI x S0 (k + 1) h9 B → Rn (F_L_law_23 L X n x (x + 173) (x + 228) (Int32.ofNat (6 * k) + 6) h9) (fun r => r.1 = 1 ∧ (hz r.2 : Int) ≤ x + 229 + 100 * 512 ∧ (hs r.2 : Int) ≤ S0 + 2000 * 512) := fun h9 B L9 => by
        rw [e']
        exact law_loop hL n (k + 1) h9 B L9 (by omega) (by omega)
      refine rn_ck b0 ?_
      refine rn_i (fun _ => st_side I kb b go) (fun _ => ?_)
      refine rn_i (fun _ => st_player I kb b go) (fun _ => ?_)
      refine rn_i (fun _ => st_toss I kb b go) (fun _ => ?_)
      refine rn_i (fun _ => st_seat I kb b go) (fun _ => ?_)
      refine rn_i (fun _ => st_turn I kb b go) (fun _ => ?_)
      refine rn_i (fun _ => st_over I kb b go) (fun _ => ?_)
      refine rn_i (fun _ => st_ball I kb b go) (fun _ => ?_)
      refine rn_i (fun _ => st_feed I kb b go) (fun _ => ?_)
      refine rn_i (fun _ => st_open I kb b go) (fun _ => ?_)
      refine rn_i (fun _ => st_tear I kb b go) (fun _ => ?_)
      refine rn_i (fun _ => st_put I kb b go) (fun _ => ?_)
      refine rn_i (fun _ => st_mend I kb b go) (fun _ => ?_)
      refine rn_i (fun _ => st_out I kb b go) (fun _ => ?_)
      refine rn_i (fun _ => st_bowls I kb b go) (fun _ => ?_)
      refine rn_i (fun _ => st_undo I kb b go) (fun _ => ?_)
      refine rn_i (fun _ => st_why I kb b go) (fun _ => ?_)
      refine rn_i (fun _ => st_now I kb b go) (fun _ => ?_)
      refine rn_i (fun _ => st_score I kb b go) (fun _ => ?_)
      refine rn_i (fun _ => st_overs I kb b go) (fun _ => ?_)
      refine rn_i (fun _ => st_entry I kb b go) (fun _ => ?_)
      refine rn_i (fun _ => st_bats I kb b go) (fun _ => ?_)
      refine rn_i (fun _ => st_fields I kb b go) (fun _ => ?_)
      refine rn_i (fun _ => st_record I kb b go) (fun _ => ?_)
      refine rn_i (fun _ => st_image I kb b go) (fun _ => ?_)
      refine rn_i (fun _ => st_told I kb b go) (fun _ => ?_)
      refine rn_i (fun _ => st_check I kb b go) (fun _ => ?_)
      refine rn_i (fun _ => st_take I kb b go) (fun _ => ?_)
      refine rn_i (fun _ => st_list I kb b go) (fun _ => ?_)
      refine rn_i (fun _ => st_sum I kb b go) (fun _ => ?_)
      exact rn_bd (go h A I.up)
end Elp
theorem law_ok : LawOK := by
  intro L X B E hL hE'
  have hE0 : hE (h00 B E) < hz (h00 B E) := hE'
  have R : Rn (F_L_law_0 L X (h00 B E)) (fun r => r.1 = 1 ∧ hz r.2 ≤ B + 601024 ∧ hs r.2 ≤ 7293034) := by
    have zB : hz (h00 B E) = B := rfl
    have sB : hs (h00 B E) = 0 := rfl
    unfold F_L_law_0
    generalize h00 B E = h at *
    refine rn_bd (rn_bd (rn_ck (if_pos rfl) (rn_c (nw_book hE0) ?_)))
    rintro h5 ⟨⟨z5, s5, e5, c5⟩, cr⟩
    have z5' : hz h5 = hz h + 173 := z5
    refine rn_bd (rn_bd (rn_ck (if_pos rfl) (rn_c nw_ref ?_)))
    rintro h11 ⟨⟨z11, s11, e11, c11⟩, ms, m0⟩
    refine rn_bd (rn_bd ?_)
    have cA : ∀ b, b < hz h11 → cel h11 (nA h11 23 1) b := fun b hb => cel_nA hb
    have kA : hK (nA h11 23 1) (hz h11) = 23 := if_pos rfl
    have nA' : hN (nA h11 23 1) (hz h11) = 1 := if_pos rfl
    have zA : hz (nA h11 23 1) = hz h11 + 1 := rfl
    have sA : hs (nA h11 23 1) = hs h11 + 1 := rfl
    have eA : hE (nA h11 23 1) = hE h11 := rfl
    have ez : hz h11 = hz h + 228 := by omega
    generalize nA h11 23 1 = h14 at *
    rw [ez] at kA nA' ⊢
    rw [z5'] at ms m0 ⊢
    obtain ⟨mA', em⟩ := ms_cls (x := hz h) (fun k k0 k1 => cA (hz h + k) (by omega)) ms
    have I : LI (hz h) 600000 0 h14 bk0 := by
      have t0 : bk0.taped.toInt = 0 := by decide
      refine ⟨cr h14 (fun b b0 b1 => (c11 b (by omega)).trans (cA b (by omega))) (by omega) (by omega), mA', mr_0 (fun k => by rw [em]; exact m0 k), ok_0, ⟨kA, nA'⟩, by rw [t0]; omega, by rw [t0]; omega, ?_⟩
      rw [em, m0, t0]
      decide
    have LL := law_loop (X := X) hL fu 0 h14 bk0 I (by omega) (by show L < 6 * 0 + 10000000; omega)
    exact LL.imp (fun r hr => ⟨hr.1, by omega, by omega⟩)
  obtain ⟨⟨v, h1⟩, er, q1, q2, q3⟩ := R
  dsimp only at q1 q2 q3
  subst q1
  exact ⟨h1, er, q2, q3⟩
