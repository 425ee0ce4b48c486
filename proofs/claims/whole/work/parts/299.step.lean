abbrev LR := (Int32 × MH) ⊕ (MH ⊕ Bool)
def St (x3 : Int32) (o : Option LR) : Prop := ∃ h', o = some (.inl (x3 + 6, h')) ∧ Sim h'
theorem st_op {a : Option (Int32 × MH)} {b : MH → Option (Int32 × MH)} {x3 : Int32} (O : Op a b) : St x3 (bnd2 a (fun r h1 => bnd2 (b h1) (fun r2 h2 => (if r = r2 then some (.inl ((x3 + 6), h2)) else some (.inr (.inr false)))))) := by
  obtain ⟨v, h1, h2, e1, e2, S⟩ := O
  exact ⟨h2, by rw [e1, bnd2_s, e2, bnd2_s, if_pos rfl], S⟩
theorem sw_c {x : Int32} {k : Nat} {X D : Option LR} {Xs : List (Option LR)} {x3 : Int32} (h1 : St x3 X) (h2 : St x3 (sw x (k + 1) Xs D)) : St x3 (sw x k (X :: Xs) D) := by
  show St x3 (if x = nI k then X else sw x (k + 1) Xs D)
  by_cases z : x = nI k
  · rw [if_pos z]
    exact h1
  · rw [if_neg z]
    exact h2
section STEP
variable {xs : Nat → Int32} {L : Nat} {h : MH} {x3 : Int32}
theorem st_J248 (S : Sim h) (i1 : ix (x3 + 1) L = true) (i2 : ix (x3 + 2) L = true) (i3 : ix (x3 + 3) L = true) (i4 : ix (x3 + 4) L = true) (i5 : ix (x3 + 5) L = true) : St x3 (f_L_law_J248_18 xs L h x3) := by
  unfold f_L_law_J248_18
  rw [i1, i2]
  exact st_op (op_row S _ _)
theorem st_J281 (S : Sim h) (i1 : ix (x3 + 1) L = true) (i2 : ix (x3 + 2) L = true) (i3 : ix (x3 + 3) L = true) (i4 : ix (x3 + 4) L = true) (i5 : ix (x3 + 5) L = true) : St x3 (f_L_law_J281_18 xs L h x3) := by
  unfold f_L_law_J281_18
  rw [i1, i2, i3]
  exact st_op (op_lay S _ _ _)
theorem st_J324 (S : Sim h) (i1 : ix (x3 + 1) L = true) (i2 : ix (x3 + 2) L = true) (i3 : ix (x3 + 3) L = true) (i4 : ix (x3 + 4) L = true) (i5 : ix (x3 + 5) L = true) : St x3 (f_L_law_J324_18 xs L h x3) := by
  unfold f_L_law_J324_18
  rw [i1, i2]
  exact st_op (op_at S _ _)
theorem st_J357 (S : Sim h) (i1 : ix (x3 + 1) L = true) (i2 : ix (x3 + 2) L = true) (i3 : ix (x3 + 3) L = true) (i4 : ix (x3 + 4) L = true) (i5 : ix (x3 + 5) L = true) : St x3 (f_L_law_J357_18 xs L h x3) := by
  unfold f_L_law_J357_18
  rw [i1]
  exact st_op (op_tear S _)
theorem st_J380 (S : Sim h) (i1 : ix (x3 + 1) L = true) (i2 : ix (x3 + 2) L = true) (i3 : ix (x3 + 3) L = true) (i4 : ix (x3 + 4) L = true) (i5 : ix (x3 + 5) L = true) : St x3 (f_L_law_J380_18 xs L h x3) := by
  unfold f_L_law_J380_18
  rw [i1, i2, i3, i4, i5]
  exact st_op (op_copy S _ _ _ _ _)
theorem st_J443 (S : Sim h) (i1 : ix (x3 + 1) L = true) (i2 : ix (x3 + 2) L = true) (i3 : ix (x3 + 3) L = true) (i4 : ix (x3 + 4) L = true) (i5 : ix (x3 + 5) L = true) : St x3 (f_L_law_J443_18 xs L h x3) := by
  unfold f_L_law_J443_18
  rw [i1]
  exact st_op (op_mean S _)
theorem st_J466 (S : Sim h) (i1 : ix (x3 + 1) L = true) (i2 : ix (x3 + 2) L = true) (i3 : ix (x3 + 3) L = true) (i4 : ix (x3 + 4) L = true) (i5 : ix (x3 + 5) L = true) : St x3 (f_L_law_J466_18 xs L h x3) := by
  unfold f_L_law_J466_18
  rw [i1, i2]
  exact st_op (op_text S _ _)
theorem st_J499 (S : Sim h) (i1 : ix (x3 + 1) L = true) (i2 : ix (x3 + 2) L = true) (i3 : ix (x3 + 3) L = true) (i4 : ix (x3 + 4) L = true) (i5 : ix (x3 + 5) L = true) : St x3 (f_L_law_J499_18 xs L h x3) := by
  unfold f_L_law_J499_18
  rw [i1, i2, i3]
  exact st_op (op_put S _ _ _)
theorem st_J542 (S : Sim h) (i1 : ix (x3 + 1) L = true) (i2 : ix (x3 + 2) L = true) (i3 : ix (x3 + 3) L = true) (i4 : ix (x3 + 4) L = true) (i5 : ix (x3 + 5) L = true) : St x3 (f_L_law_J542_18 xs L h x3) := by
  unfold f_L_law_J542_18
  rw [i1, i2, i3]
  exact st_op (op_cover S _ _ _)
theorem st_J585 (S : Sim h) (i1 : ix (x3 + 1) L = true) (i2 : ix (x3 + 2) L = true) (i3 : ix (x3 + 3) L = true) (i4 : ix (x3 + 4) L = true) (i5 : ix (x3 + 5) L = true) : St x3 (f_L_law_J585_18 xs L h x3) := by
  unfold f_L_law_J585_18
  rw [i1, gd_t, i2, gd_t, i3, gd_t, i4, gd_t]
  unfold f_L_law_J614_18
  by_cases z : xs (x3 + 4).toNatClampNeg = 0
  · simp only [if_pos z, i1, i2, i3, i4, gd_w]
    exact st_op (op_grey S _ _ _ _)
  · simp only [if_neg z, i1, i2, i3, i4, gd_w]
    exact st_op (op_grey S _ _ _ _)
theorem st_J654 (S : Sim h) (i1 : ix (x3 + 1) L = true) (i2 : ix (x3 + 2) L = true) (i3 : ix (x3 + 3) L = true) (i4 : ix (x3 + 4) L = true) (i5 : ix (x3 + 5) L = true) : St x3 (f_L_law_J654_18 xs L h x3) := by
  unfold f_L_law_J654_18
  rw [i1, i2, i3]
  exact st_op (op_wordy S _ _ _)
theorem st_J697 (S : Sim h) (i1 : ix (x3 + 1) L = true) (i2 : ix (x3 + 2) L = true) (i3 : ix (x3 + 3) L = true) (i4 : ix (x3 + 4) L = true) (i5 : ix (x3 + 5) L = true) : St x3 (f_L_law_J697_18 xs L h x3) := by
  unfold f_L_law_J697_18
  rw [i1, i2]
  exact st_op (op_wet S _ _)
theorem st_J730 (S : Sim h) (i1 : ix (x3 + 1) L = true) (i2 : ix (x3 + 2) L = true) (i3 : ix (x3 + 3) L = true) (i4 : ix (x3 + 4) L = true) (i5 : ix (x3 + 5) L = true) : St x3 (f_L_law_J730_18 xs L h x3) := by
  unfold f_L_law_J730_18
  rw [i1]
  exact st_op (op_drop S _)
theorem st_J753 (S : Sim h) (i1 : ix (x3 + 1) L = true) (i2 : ix (x3 + 2) L = true) (i3 : ix (x3 + 3) L = true) (i4 : ix (x3 + 4) L = true) (i5 : ix (x3 + 5) L = true) : St x3 (f_L_law_J753_18 xs L h x3) := by
  unfold f_L_law_J753_18
  rw [i1, i2]
  exact st_op (op_dots S _ _)
theorem st_J786 (S : Sim h) (i1 : ix (x3 + 1) L = true) (i2 : ix (x3 + 2) L = true) (i3 : ix (x3 + 3) L = true) (i4 : ix (x3 + 4) L = true) (i5 : ix (x3 + 5) L = true) : St x3 (f_L_law_J786_18 xs L h x3) := by
  unfold f_L_law_J786_18
  rw [i1, i2, i3]
  exact st_op (op_dot S _ _ _)
theorem st_J829 (S : Sim h) (i1 : ix (x3 + 1) L = true) (i2 : ix (x3 + 2) L = true) (i3 : ix (x3 + 3) L = true) (i4 : ix (x3 + 4) L = true) (i5 : ix (x3 + 5) L = true) : St x3 (f_L_law_J829_18 xs L h x3) := by
  unfold f_L_law_J829_18
  rw [i1]
  exact st_op (op_kind S _)
theorem st_J852 (S : Sim h) (i1 : ix (x3 + 1) L = true) (i2 : ix (x3 + 2) L = true) (i3 : ix (x3 + 3) L = true) (i4 : ix (x3 + 4) L = true) (i5 : ix (x3 + 5) L = true) : St x3 (f_L_law_J852_18 xs L h x3) := by
  unfold f_L_law_J852_18
  rw [i1, i2]
  exact st_op (op_mark S _ _)
theorem st_J885 (S : Sim h) (i1 : ix (x3 + 1) L = true) (i2 : ix (x3 + 2) L = true) (i3 : ix (x3 + 3) L = true) (i4 : ix (x3 + 4) L = true) (i5 : ix (x3 + 5) L = true) : St x3 (f_L_law_J885_18 xs L h x3) := by
  unfold f_L_law_J885_18
  rw [i1, i2, i3]
  exact st_op (op_place S _ _ _)
theorem st_J928 (S : Sim h) (i1 : ix (x3 + 1) L = true) (i2 : ix (x3 + 2) L = true) (i3 : ix (x3 + 3) L = true) (i4 : ix (x3 + 4) L = true) (i5 : ix (x3 + 5) L = true) : St x3 (f_L_law_J928_18 xs L h x3) := by
  unfold f_L_law_J928_18
  rw [i1]
  exact st_op (op_fault S _)
theorem st_J951 (S : Sim h) (i1 : ix (x3 + 1) L = true) (i2 : ix (x3 + 2) L = true) (i3 : ix (x3 + 3) L = true) (i4 : ix (x3 + 4) L = true) (i5 : ix (x3 + 5) L = true) : St x3 (f_L_law_J951_18 xs L h x3) := by
  unfold f_L_law_J951_18
  rw [i1, i2]
  exact st_op (op_code S _ _)
theorem st_J984 (S : Sim h) (i1 : ix (x3 + 1) L = true) (i2 : ix (x3 + 2) L = true) (i3 : ix (x3 + 3) L = true) (i4 : ix (x3 + 4) L = true) (i5 : ix (x3 + 5) L = true) : St x3 (f_L_law_J984_18 xs L h x3) := by
  unfold f_L_law_J984_18
  rw [i1, i2]
  exact st_op (op_line S _ _)
theorem st_J1017 (S : Sim h) (i1 : ix (x3 + 1) L = true) (i2 : ix (x3 + 2) L = true) (i3 : ix (x3 + 3) L = true) (i4 : ix (x3 + 4) L = true) (i5 : ix (x3 + 5) L = true) : St x3 (f_L_law_J1017_18 xs L h x3) := by
  unfold f_L_law_J1017_18
  rw [i1, i2]
  exact st_op (op_room S _ _)
theorem st_J1050 (S : Sim h) (i1 : ix (x3 + 1) L = true) (i2 : ix (x3 + 2) L = true) (i3 : ix (x3 + 3) L = true) (i4 : ix (x3 + 4) L = true) (i5 : ix (x3 + 5) L = true) : St x3 (f_L_law_J1050_18 xs L h x3) := by
  unfold f_L_law_J1050_18
  rw [i1, i2, i3, i4]
  exact st_op (op_hide S _ _ _ _)
theorem st_J1103 (S : Sim h) (i1 : ix (x3 + 1) L = true) (i2 : ix (x3 + 2) L = true) (i3 : ix (x3 + 3) L = true) (i4 : ix (x3 + 4) L = true) (i5 : ix (x3 + 5) L = true) : St x3 (f_L_law_J1103_18 xs L h x3) := by
  unfold f_L_law_J1103_18
  rw [i1, i2, i3, i4]
  exact st_op (op_price S _ _ _ _)
theorem st_J1156 (S : Sim h) (i1 : ix (x3 + 1) L = true) (i2 : ix (x3 + 2) L = true) (i3 : ix (x3 + 3) L = true) (i4 : ix (x3 + 4) L = true) (i5 : ix (x3 + 5) L = true) : St x3 (f_L_law_J1156_18 xs L h x3) := by
  unfold f_L_law_J1156_18
  rw [i1, i2, i3, i4, i5]
  exact st_op (op_read S _ _ _ _ _)
theorem st_J1219 (S : Sim h) (i1 : ix (x3 + 1) L = true) (i2 : ix (x3 + 2) L = true) (i3 : ix (x3 + 3) L = true) (i4 : ix (x3 + 4) L = true) (i5 : ix (x3 + 5) L = true) : St x3 (f_L_law_J1219_18 xs L h x3) := by
  unfold f_L_law_J1219_18
  rw [i1]
  exact st_op (op_changes S _)
theorem st_J1242 (S : Sim h) (i1 : ix (x3 + 1) L = true) (i2 : ix (x3 + 2) L = true) (i3 : ix (x3 + 3) L = true) (i4 : ix (x3 + 4) L = true) (i5 : ix (x3 + 5) L = true) : St x3 (f_L_law_J1242_18 xs L h x3) := by
  unfold f_L_law_J1242_18
  rw [i1]
  exact st_op (op_reach S _)
theorem st_J1265 (S : Sim h) (i1 : ix (x3 + 1) L = true) (i2 : ix (x3 + 2) L = true) (i3 : ix (x3 + 3) L = true) (i4 : ix (x3 + 4) L = true) (i5 : ix (x3 + 5) L = true) : St x3 (f_L_law_J1265_18 xs L h x3) := by
  unfold f_L_law_J1265_18
  rw [i1, i2, i3, i4, i5]
  exact st_op (op_parts S _ _ _ _ _)
theorem st_J1328 (S : Sim h) (i1 : ix (x3 + 1) L = true) (i2 : ix (x3 + 2) L = true) (i3 : ix (x3 + 3) L = true) (i4 : ix (x3 + 4) L = true) (i5 : ix (x3 + 5) L = true) : St x3 (f_L_law_J1328_18 xs L h x3) := by
  unfold f_L_law_J1328_18
  rw [i1]
  exact st_op (op_join S _)
theorem st_J1351 (S : Sim h) (i1 : ix (x3 + 1) L = true) (i2 : ix (x3 + 2) L = true) (i3 : ix (x3 + 3) L = true) (i4 : ix (x3 + 4) L = true) (i5 : ix (x3 + 5) L = true) : St x3 (f_L_law_J1351_18 xs L h x3) := by
  unfold f_L_law_J1351_18
  rw [i1, i2, i3]
  exact st_op (op_spread S _ _ _)
theorem st_J1394 (S : Sim h) (i1 : ix (x3 + 1) L = true) (i2 : ix (x3 + 2) L = true) (i3 : ix (x3 + 3) L = true) (i4 : ix (x3 + 4) L = true) (i5 : ix (x3 + 5) L = true) : St x3 (f_L_law_J1394_18 xs L h x3) := by
  unfold f_L_law_J1394_18
  rw [i1, i2, i3]
  exact st_op (op_sum S _ _ _)
theorem st_J1437 (S : Sim h) (i1 : ix (x3 + 1) L = true) (i2 : ix (x3 + 2) L = true) (i3 : ix (x3 + 3) L = true) (i4 : ix (x3 + 4) L = true) (i5 : ix (x3 + 5) L = true) : St x3 (f_L_law_J1437_18 xs L h x3) := by
  unfold f_L_law_J1437_18
  rw [i1, i2]
  exact st_op (op_lineUp S _ _)
theorem st_J1470 (S : Sim h) (i1 : ix (x3 + 1) L = true) (i2 : ix (x3 + 2) L = true) (i3 : ix (x3 + 3) L = true) (i4 : ix (x3 + 4) L = true) (i5 : ix (x3 + 5) L = true) : St x3 (f_L_law_J1470_18 xs L h x3) := by
  unfold f_L_law_J1470_18
  rw [i1, i2]
  exact st_op (op_falseShare S _ _)
theorem st_J1503 (S : Sim h) (i1 : ix (x3 + 1) L = true) (i2 : ix (x3 + 2) L = true) (i3 : ix (x3 + 3) L = true) (i4 : ix (x3 + 4) L = true) (i5 : ix (x3 + 5) L = true) : St x3 (f_L_law_J1503_18 xs L h x3) := by
  unfold f_L_law_J1503_18
  rw [i1, i2, i3, i4]
  exact st_op (op_cut S _ _ _ _)
theorem st_J1556 (S : Sim h) (i1 : ix (x3 + 1) L = true) (i2 : ix (x3 + 2) L = true) (i3 : ix (x3 + 3) L = true) (i4 : ix (x3 + 4) L = true) (i5 : ix (x3 + 5) L = true) : St x3 (f_L_law_J1556_18 xs L h x3) := by
  unfold f_L_law_J1556_18
  rw [i1, i2, i3]
  exact st_op (op_makes S _ _ _)
theorem st_J1599 (S : Sim h) (i1 : ix (x3 + 1) L = true) (i2 : ix (x3 + 2) L = true) (i3 : ix (x3 + 3) L = true) (i4 : ix (x3 + 4) L = true) (i5 : ix (x3 + 5) L = true) : St x3 (f_L_law_J1599_18 xs L h x3) := by
  unfold f_L_law_J1599_18
  rw [i1, i2, i3]
  exact st_op (op_guilty S _ _ _)
theorem st_J1642 (S : Sim h) (i1 : ix (x3 + 1) L = true) (i2 : ix (x3 + 2) L = true) (i3 : ix (x3 + 3) L = true) (i4 : ix (x3 + 4) L = true) (i5 : ix (x3 + 5) L = true) : St x3 (f_L_law_J1642_18 xs L h x3) := by
  unfold f_L_law_J1642_18
  rw [i1]
  exact st_op (op_apart S _)
theorem st_J1665 (S : Sim h) (i1 : ix (x3 + 1) L = true) (i2 : ix (x3 + 2) L = true) (i3 : ix (x3 + 3) L = true) (i4 : ix (x3 + 4) L = true) (i5 : ix (x3 + 5) L = true) : St x3 (f_L_law_J1665_18 xs L h x3) := by
  unfold f_L_law_J1665_18
  rw [i1, i2]
  exact st_op (op_howFar S _ _)
theorem st_J1698 (S : Sim h) (i1 : ix (x3 + 1) L = true) (i2 : ix (x3 + 2) L = true) (i3 : ix (x3 + 3) L = true) (i4 : ix (x3 + 4) L = true) (i5 : ix (x3 + 5) L = true) : St x3 (f_L_law_J1698_18 xs L h x3) := by
  unfold f_L_law_J1698_18
  rw [i1, i2]
  exact st_op (op_bestTest S _ _)
theorem st_J1731 (S : Sim h) (i1 : ix (x3 + 1) L = true) (i2 : ix (x3 + 2) L = true) (i3 : ix (x3 + 3) L = true) (i4 : ix (x3 + 4) L = true) (i5 : ix (x3 + 5) L = true) : St x3 (f_L_law_J1731_18 xs L h x3) := by
  unfold f_L_law_J1731_18
  rw [i1, i2]
  exact st_op (op_learn S _ _)
theorem st_J1764 (S : Sim h) (i1 : ix (x3 + 1) L = true) (i2 : ix (x3 + 2) L = true) (i3 : ix (x3 + 3) L = true) (i4 : ix (x3 + 4) L = true) (i5 : ix (x3 + 5) L = true) : St x3 (f_L_law_J1764_18 xs L h x3) := by
  unfold f_L_law_J1764_18
  rw [i1]
  exact st_op (op_pairs S _)
theorem st_J1787 (S : Sim h) (i1 : ix (x3 + 1) L = true) (i2 : ix (x3 + 2) L = true) (i3 : ix (x3 + 3) L = true) (i4 : ix (x3 + 4) L = true) (i5 : ix (x3 + 5) L = true) : St x3 (f_L_law_J1787_18 xs L h x3) := by
  unfold f_L_law_J1787_18
  rw [i1]
  exact st_op (op_rank S _)
theorem st_J1810 (S : Sim h) (i1 : ix (x3 + 1) L = true) (i2 : ix (x3 + 2) L = true) (i3 : ix (x3 + 3) L = true) (i4 : ix (x3 + 4) L = true) (i5 : ix (x3 + 5) L = true) : St x3 (f_L_law_J1810_18 xs L h x3) := by
  unfold f_L_law_J1810_18
  rw [i1, i2]
  exact st_op (op_arrange S _ _)
theorem st_J1843 (S : Sim h) (i1 : ix (x3 + 1) L = true) (i2 : ix (x3 + 2) L = true) (i3 : ix (x3 + 3) L = true) (i4 : ix (x3 + 4) L = true) (i5 : ix (x3 + 5) L = true) : St x3 (f_L_law_J1843_18 xs L h x3) := by
  unfold f_L_law_J1843_18
  obtain ⟨v, e1, e2⟩ := q_asked S
  exact ⟨h, by rw [e1, bd_s, e2, bd_s, if_pos rfl], S⟩
theorem st_J1856 (S : Sim h) (i1 : ix (x3 + 1) L = true) (i2 : ix (x3 + 2) L = true) (i3 : ix (x3 + 3) L = true) (i4 : ix (x3 + 4) L = true) (i5 : ix (x3 + 5) L = true) : St x3 (f_L_law_J1856_18 xs L h x3) := by
  unfold f_L_law_J1856_18
  obtain ⟨v, e1, e2⟩ := q_upper S
  exact ⟨h, by rw [e1, bd_s, e2, bd_s, if_pos rfl], S⟩
theorem st_J1870 (S : Sim h) (i1 : ix (x3 + 1) L = true) (i2 : ix (x3 + 2) L = true) (i3 : ix (x3 + 3) L = true) (i4 : ix (x3 + 4) L = true) (i5 : ix (x3 + 5) L = true) : St x3 (f_L_law_J1870_18 xs L h x3) := by
  unfold f_L_law_J1870_18
  obtain ⟨v, e1, e2⟩ := q_lower S
  exact ⟨h, by rw [e1, bd_s, e2, bd_s, if_pos rfl], S⟩
theorem st_J1884 (S : Sim h) (i1 : ix (x3 + 1) L = true) (i2 : ix (x3 + 2) L = true) (i3 : ix (x3 + 3) L = true) (i4 : ix (x3 + 4) L = true) (i5 : ix (x3 + 5) L = true) : St x3 (f_L_law_J1884_18 xs L h x3) := by
  unfold f_L_law_J1884_18
  obtain ⟨v, e1, e2⟩ := q_count S (xs (x3 + 1).toNatClampNeg)
  exact ⟨h, by rw [i1, gd_t, e1, bd_s, gd_t, e2, bd_s, if_pos rfl], S⟩
theorem st_J1907 (S : Sim h) (i1 : ix (x3 + 1) L = true) (i2 : ix (x3 + 2) L = true) (i3 : ix (x3 + 3) L = true) (i4 : ix (x3 + 4) L = true) (i5 : ix (x3 + 5) L = true) : St x3 (f_L_law_J1907_18 xs L h x3) := by
  unfold f_L_law_J1907_18
  obtain ⟨v, e1, e2⟩ := q_finding S
  exact ⟨h, by rw [e1, bd_s, e2, bd_s, if_pos rfl], S⟩
theorem st_J1920 (S : Sim h) (i1 : ix (x3 + 1) L = true) (i2 : ix (x3 + 2) L = true) (i3 : ix (x3 + 3) L = true) (i4 : ix (x3 + 4) L = true) (i5 : ix (x3 + 5) L = true) : St x3 (f_L_law_J1920_18 xs L h x3) := by
  unfold f_L_law_J1920_18
  obtain ⟨v, e1, e2⟩ := q_findings S (xs (x3 + 1).toNatClampNeg)
  exact ⟨h, by rw [i1, gd_t, e1, bd_s, gd_t, e2, bd_s, if_pos rfl], S⟩
theorem st_J1943 (S : Sim h) (i1 : ix (x3 + 1) L = true) (i2 : ix (x3 + 2) L = true) (i3 : ix (x3 + 3) L = true) (i4 : ix (x3 + 4) L = true) (i5 : ix (x3 + 5) L = true) : St x3 (f_L_law_J1943_18 xs L h x3) := by
  unfold f_L_law_J1943_18
  obtain ⟨v, h2, e1, e2, T⟩ := q_digest S
  exact ⟨h2, by rw [e1, bd_s, e2, bnd2_s, if_pos rfl], T⟩
theorem st_all (S : Sim h) (i1 : ix (x3 + 1) L = true) (i2 : ix (x3 + 2) L = true) (i3 : ix (x3 + 3) L = true) (i4 : ix (x3 + 4) L = true) (i5 : ix (x3 + 5) L = true) {x : Int32} : St x3 (sw x 0 [f_L_law_J248_18 xs L h x3, f_L_law_J281_18 xs L h x3, f_L_law_J324_18 xs L h x3, f_L_law_J357_18 xs L h x3, f_L_law_J380_18 xs L h x3, f_L_law_J443_18 xs L h x3, f_L_law_J466_18 xs L h x3, f_L_law_J499_18 xs L h x3, f_L_law_J542_18 xs L h x3, f_L_law_J585_18 xs L h x3, f_L_law_J654_18 xs L h x3, f_L_law_J697_18 xs L h x3, f_L_law_J730_18 xs L h x3, f_L_law_J753_18 xs L h x3, f_L_law_J786_18 xs L h x3, f_L_law_J829_18 xs L h x3, f_L_law_J852_18 xs L h x3, f_L_law_J885_18 xs L h x3, f_L_law_J928_18 xs L h x3, f_L_law_J951_18 xs L h x3, f_L_law_J984_18 xs L h x3, f_L_law_J1017_18 xs L h x3, f_L_law_J1050_18 xs L h x3, f_L_law_J1103_18 xs L h x3, f_L_law_J1156_18 xs L h x3, f_L_law_J1219_18 xs L h x3, f_L_law_J1242_18 xs L h x3, f_L_law_J1265_18 xs L h x3, f_L_law_J1328_18 xs L h x3, f_L_law_J1351_18 xs L h x3, f_L_law_J1394_18 xs L h x3, f_L_law_J1437_18 xs L h x3, f_L_law_J1470_18 xs L h x3, f_L_law_J1503_18 xs L h x3, f_L_law_J1556_18 xs L h x3, f_L_law_J1599_18 xs L h x3, f_L_law_J1642_18 xs L h x3, f_L_law_J1665_18 xs L h x3, f_L_law_J1698_18 xs L h x3, f_L_law_J1731_18 xs L h x3, f_L_law_J1764_18 xs L h x3, f_L_law_J1787_18 xs L h x3, f_L_law_J1810_18 xs L h x3, f_L_law_J1843_18 xs L h x3, f_L_law_J1856_18 xs L h x3, f_L_law_J1870_18 xs L h x3, f_L_law_J1884_18 xs L h x3, f_L_law_J1907_18 xs L h x3, f_L_law_J1920_18 xs L h x3, f_L_law_J1943_18 xs L h x3] (some (.inl ((x3 + 6), h)))) := by
  refine sw_c (st_J248 S i1 i2 i3 i4 i5) ?_
  refine sw_c (st_J281 S i1 i2 i3 i4 i5) ?_
  refine sw_c (st_J324 S i1 i2 i3 i4 i5) ?_
  refine sw_c (st_J357 S i1 i2 i3 i4 i5) ?_
  refine sw_c (st_J380 S i1 i2 i3 i4 i5) ?_
  refine sw_c (st_J443 S i1 i2 i3 i4 i5) ?_
  refine sw_c (st_J466 S i1 i2 i3 i4 i5) ?_
  refine sw_c (st_J499 S i1 i2 i3 i4 i5) ?_
  refine sw_c (st_J542 S i1 i2 i3 i4 i5) ?_
  refine sw_c (st_J585 S i1 i2 i3 i4 i5) ?_
  refine sw_c (st_J654 S i1 i2 i3 i4 i5) ?_
  refine sw_c (st_J697 S i1 i2 i3 i4 i5) ?_
  refine sw_c (st_J730 S i1 i2 i3 i4 i5) ?_
  refine sw_c (st_J753 S i1 i2 i3 i4 i5) ?_
  refine sw_c (st_J786 S i1 i2 i3 i4 i5) ?_
  refine sw_c (st_J829 S i1 i2 i3 i4 i5) ?_
  refine sw_c (st_J852 S i1 i2 i3 i4 i5) ?_
  refine sw_c (st_J885 S i1 i2 i3 i4 i5) ?_
  refine sw_c (st_J928 S i1 i2 i3 i4 i5) ?_
  refine sw_c (st_J951 S i1 i2 i3 i4 i5) ?_
  refine sw_c (st_J984 S i1 i2 i3 i4 i5) ?_
  refine sw_c (st_J1017 S i1 i2 i3 i4 i5) ?_
  refine sw_c (st_J1050 S i1 i2 i3 i4 i5) ?_
  refine sw_c (st_J1103 S i1 i2 i3 i4 i5) ?_
  refine sw_c (st_J1156 S i1 i2 i3 i4 i5) ?_
  refine sw_c (st_J1219 S i1 i2 i3 i4 i5) ?_
  refine sw_c (st_J1242 S i1 i2 i3 i4 i5) ?_
  refine sw_c (st_J1265 S i1 i2 i3 i4 i5) ?_
  refine sw_c (st_J1328 S i1 i2 i3 i4 i5) ?_
  refine sw_c (st_J1351 S i1 i2 i3 i4 i5) ?_
  refine sw_c (st_J1394 S i1 i2 i3 i4 i5) ?_
  refine sw_c (st_J1437 S i1 i2 i3 i4 i5) ?_
  refine sw_c (st_J1470 S i1 i2 i3 i4 i5) ?_
  refine sw_c (st_J1503 S i1 i2 i3 i4 i5) ?_
  refine sw_c (st_J1556 S i1 i2 i3 i4 i5) ?_
  refine sw_c (st_J1599 S i1 i2 i3 i4 i5) ?_
  refine sw_c (st_J1642 S i1 i2 i3 i4 i5) ?_
  refine sw_c (st_J1665 S i1 i2 i3 i4 i5) ?_
  refine sw_c (st_J1698 S i1 i2 i3 i4 i5) ?_
  refine sw_c (st_J1731 S i1 i2 i3 i4 i5) ?_
  refine sw_c (st_J1764 S i1 i2 i3 i4 i5) ?_
  refine sw_c (st_J1787 S i1 i2 i3 i4 i5) ?_
  refine sw_c (st_J1810 S i1 i2 i3 i4 i5) ?_
  refine sw_c (st_J1843 S i1 i2 i3 i4 i5) ?_
  refine sw_c (st_J1856 S i1 i2 i3 i4 i5) ?_
  refine sw_c (st_J1870 S i1 i2 i3 i4 i5) ?_
  refine sw_c (st_J1884 S i1 i2 i3 i4 i5) ?_
  refine sw_c (st_J1907 S i1 i2 i3 i4 i5) ?_
  refine sw_c (st_J1920 S i1 i2 i3 i4 i5) ?_
  refine sw_c (st_J1943 S i1 i2 i3 i4 i5) ?_
  exact ⟨h, rfl, S⟩
end STEP
theorem sim_step {xs : Nat → Int32} {L j : Nat} {h : MH} (hL : L ≤ 3072) (hj : 6 * j + 6 ≤ L) (S : Sim h) : ∃ h', f_L_law_B18 xs L h (nI (6 * j)) = some (.inl (nI (6 * j) + 6, h')) ∧ Sim h' := by
  have iK : ∀ k, k ≤ 5 → ix (nI (6 * j) + nI k) L = true := fun k hk => by
    rw [nI_add]
    exact ix_n (by omega) (by omega)
  unfold f_L_law_B18
  rw [if_neg (law_cont hL hj), ix_n (by omega) (by omega), gd_t]
  exact st_all S (iK 1 (by decide)) (iK 2 (by decide)) (iK 3 (by decide)) (iK 4 (by decide)) (iK 5 (by decide))
