/-- the world at the start -/
def rowQ (a : Nat) : Bool := (a == 7) || (Nat.ble 18 a && Nat.blt a 38 && (a % 2 == 0))
def I00 (a k : Nat) : Int32 := if a = 66 then upd (upd (upd (upd (upd (upd (fun _ => 0) 0 (-9)) 1 (-9)) 2 (-9)) 3 (-9)) 4 (-9)) 5 (-9) k else if a = 69 then upd (upd (upd (upd (fun _ => 0) 0 (-9)) 1 (-9)) 2 (-9)) 3 (-9) k else if rowQ a = true then (if k = 1 then -1 else 0) else 0
def L00 (a k : Nat) : Int64 := if a = 16 then (if k = 1 then 1 else 0) else if a = 64 then (if k = 4 then 1 else 0) else 0
def h00 : MH := (I00, L00, 0)
theorem df_X5 : ∀ j, j < 2 → defaultValue (tyX5 j) = vp_V [.null, .int 0] j := by
  intro j hj
  match j, hj with
  | 0, _ => rfl
  | 1, _ => rfl
  | j + 2, hj => exact absurd hj (by omega)
theorem df_X0 : ∀ j, j < 3 → defaultValue (tyX0 j) = vp_V [.null, .int 0, .int 0] j := by
  intro j hj
  match j, hj with
  | 0, _ => rfl
  | 1, _ => rfl
  | 2, _ => rfl
  | j + 3, hj => exact absurd hj (by omega)
theorem df_X1 : ∀ j, j < 6 → defaultValue (tyX1 j) = vp_V [.null, .null, .int 0, .int 0, .int 0, .int 0] j := by
  intro j hj
  match j, hj with
  | 0, _ => rfl
  | 1, _ => rfl
  | 2, _ => rfl
  | 3, _ => rfl
  | 4, _ => rfl
  | 5, _ => rfl
  | j + 6, hj => exact absurd hj (by omega)
theorem df_X3 : ∀ j, j < 5 → defaultValue (tyX3 j) = vp_V [.null, .null, .null, .null, .int 0] j := by
  intro j hj
  match j, hj with
  | 0, _ => rfl
  | 1, _ => rfl
  | 2, _ => rfl
  | 3, _ => rfl
  | 4, _ => rfl
  | j + 5, hj => exact absurd hj (by omega)
theorem df_X4 : ∀ j, j < 2 → defaultValue (tyX4 j) = vp_V [.null, .null] j := by
  intro j hj
  match j, hj with
  | 0, _ => rfl
  | 1, _ => rfl
  | j + 2, hj => exact absurd hj (by omega)
theorem df_X2 : ∀ j, j < 2 → defaultValue (tyX2 j) = vp_V [.long 0, .long 0] j := by
  intro j hj
  match j, hj with
  | 0, _ => rfl
  | 1, _ => rfl
  | j + 2, hj => exact absurd hj (by omega)
theorem df_X6 : ∀ j, j < 12 → defaultValue (tyX6 j) = vp_V [.null, .null, .null, .null, .null, .null, .null, .null, .null, .int 0, .int 0, .null] j := by
  intro j hj
  match j, hj with
  | 0, _ => rfl
  | 1, _ => rfl
  | 2, _ => rfl
  | 3, _ => rfl
  | 4, _ => rfl
  | 5, _ => rfl
  | 6, _ => rfl
  | 7, _ => rfl
  | 8, _ => rfl
  | 9, _ => rfl
  | 10, _ => rfl
  | 11, _ => rfl
  | j + 12, hj => exact absurd hj (by omega)
theorem df_X7 : ∀ j, j < 32 → defaultValue (tyX7 j) = vp_V [.int 0, .null, .int 0, .long 0, .long 0, .null, .null, .null, .null, .null, .null, .null, .null, .null, .null, .null, .int 0, .null, .null, .null, .null, .int 0, .int 0, .null, .null, .int 0, .int 0, .null, .null, .null, .null, .long 0] j := by
  intro j hj
  match j, hj with
  | 0, _ => rfl
  | 1, _ => rfl
  | 2, _ => rfl
  | 3, _ => rfl
  | 4, _ => rfl
  | 5, _ => rfl
  | 6, _ => rfl
  | 7, _ => rfl
  | 8, _ => rfl
  | 9, _ => rfl
  | 10, _ => rfl
  | 11, _ => rfl
  | 12, _ => rfl
  | 13, _ => rfl
  | 14, _ => rfl
  | 15, _ => rfl
  | 16, _ => rfl
  | 17, _ => rfl
  | 18, _ => rfl
  | 19, _ => rfl
  | 20, _ => rfl
  | 21, _ => rfl
  | 22, _ => rfl
  | 23, _ => rfl
  | 24, _ => rfl
  | 25, _ => rfl
  | 26, _ => rfl
  | 27, _ => rfl
  | 28, _ => rfl
  | 29, _ => rfl
  | 30, _ => rfl
  | 31, _ => rfl
  | j + 32, hj => exact absurd hj (by omega)
theorem ac_boolean : Cond.arrayClass (newarray.typeOf .boolean) ∈ TB := (TB_mem 1011 (by decide +kernel) (by decide +kernel))
theorem ac_int : Cond.arrayClass (newarray.typeOf .int) ∈ TB := (TB_mem 102 (by decide +kernel) (by decide +kernel))
theorem ac_long : Cond.arrayClass (newarray.typeOf .long) ∈ TB := (TB_mem 736 (by decide +kernel) (by decide +kernel))
theorem cl_L_10 : Cond.classLink RL 10 RX7 ∈ TB := (TB_mem 908 (by decide +kernel) (by decide +kernel))
theorem cl_L_7 : Cond.classLink RL 7 RX6 ∈ TB := (TB_mem 70 (by decide +kernel) (by decide +kernel))
theorem cl_X6_18 : Cond.classLink RX6 18 RX1 ∈ TB := (TB_mem 80 (by decide +kernel) (by decide +kernel))
theorem cl_X6_24 : Cond.classLink RX6 24 RX0 ∈ TB := (TB_mem 82 (by decide +kernel) (by decide +kernel))
theorem cl_X6_40 : Cond.classLink RX6 40 RX3 ∈ TB := (TB_mem 121 (by decide +kernel) (by decide +kernel))
theorem cl_X6_47 : Cond.classLink RX6 47 RX4 ∈ TB := (TB_mem 143 (by decide +kernel) (by decide +kernel))
theorem cl_X6_54 : Cond.classLink RX6 54 RX2 ∈ TB := (TB_mem 156 (by decide +kernel) (by decide +kernel))
theorem cl_X6_9 : Cond.classLink RX6 9 RX5 ∈ TB := (TB_mem 78 (by decide +kernel) (by decide +kernel))
theorem fg_X6_11 : Fl RX6 11 6 0 := ⟨RX6, TX6, 12, rfl, by decide, uw_X6, rfl, Or.inl (TB_mem 200 (by decide +kernel) (by decide +kernel))⟩
theorem fg_X6_15 : Fl RX6 15 6 1 := ⟨RX6, TX6, 12, rfl, by decide, uw_X6, rfl, Or.inl (TB_mem 201 (by decide +kernel) (by decide +kernel))⟩
theorem fg_X6_20 : Fl RX6 20 6 2 := ⟨RX6, TX6, 12, rfl, by decide, uw_X6, rfl, Or.inl (TB_mem 202 (by decide +kernel) (by decide +kernel))⟩
theorem fg_X6_26 : Fl RX6 26 6 3 := ⟨RX6, TX6, 12, rfl, by decide, uw_X6, rfl, Or.inl (TB_mem 203 (by decide +kernel) (by decide +kernel))⟩
theorem fg_X7_17 : Fl RX7 17 7 5 := ⟨RX7, TX7, 32, rfl, by decide, uw_X7, rfl, Or.inl (TB_mem 919 (by decide +kernel) (by decide +kernel))⟩
theorem fg_X7_26 : Fl RX7 26 7 8 := ⟨RX7, TX7, 32, rfl, by decide, uw_X7, rfl, Or.inl (TB_mem 922 (by decide +kernel) (by decide +kernel))⟩
theorem fk_X0_15 : FlK RX0 15 0 1 .int false := ⟨RX0, TX0, 3, tyX0, rfl, by decide, uw_X0, tyX0_ok, nmX0, rfl, by decide +kernel, rfl, rfl, (TB_mem 90 (by decide +kernel) (by decide +kernel))⟩
theorem fk_X0_19 : FlK RX0 19 0 2 .int false := ⟨RX0, TX0, 3, tyX0, rfl, by decide, uw_X0, tyX0_ok, nmX0, rfl, by decide +kernel, rfl, rfl, (TB_mem 93 (by decide +kernel) (by decide +kernel))⟩
theorem fk_X0_9 : FlK RX0 9 0 0 (.array .int) true := ⟨RX0, TX0, 3, tyX0, rfl, by decide, uw_X0, tyX0_ok, nmX0, rfl, by decide +kernel, rfl, rfl, (TB_mem 89 (by decide +kernel) (by decide +kernel))⟩
theorem fk_X1_15 : FlK RX1 15 1 1 (.array .int) true := ⟨RX1, TX1, 6, tyX1, rfl, by decide, uw_X1, tyX1_ok, nmX1, rfl, by decide +kernel, rfl, rfl, (TB_mem 177 (by decide +kernel) (by decide +kernel))⟩
theorem fk_X1_18 : FlK RX1 18 1 2 .int false := ⟨RX1, TX1, 6, tyX1, rfl, by decide, uw_X1, tyX1_ok, nmX1, rfl, by decide +kernel, rfl, rfl, (TB_mem 178 (by decide +kernel) (by decide +kernel))⟩
theorem fk_X1_22 : FlK RX1 22 1 3 .int false := ⟨RX1, TX1, 6, tyX1, rfl, by decide, uw_X1, tyX1_ok, nmX1, rfl, by decide +kernel, rfl, rfl, (TB_mem 180 (by decide +kernel) (by decide +kernel))⟩
theorem fk_X1_25 : FlK RX1 25 1 4 .int false := ⟨RX1, TX1, 6, tyX1, rfl, by decide, uw_X1, tyX1_ok, nmX1, rfl, by decide +kernel, rfl, rfl, (TB_mem 184 (by decide +kernel) (by decide +kernel))⟩
theorem fk_X1_28 : FlK RX1 28 1 5 .int false := ⟨RX1, TX1, 6, tyX1, rfl, by decide, uw_X1, tyX1_ok, nmX1, rfl, by decide +kernel, rfl, rfl, (TB_mem 185 (by decide +kernel) (by decide +kernel))⟩
theorem fk_X1_9 : FlK RX1 9 1 0 (.array .int) true := ⟨RX1, TX1, 6, tyX1, rfl, by decide, uw_X1, tyX1_ok, nmX1, rfl, by decide +kernel, rfl, rfl, (TB_mem 176 (by decide +kernel) (by decide +kernel))⟩
theorem fk_X2_13 : FlK RX2 13 2 1 .long false := ⟨RX2, TX2, 2, tyX2, rfl, by decide, uw_X2, tyX2_ok, nmX2, rfl, by decide +kernel, rfl, rfl, (TB_mem 164 (by decide +kernel) (by decide +kernel))⟩
theorem fk_X2_7 : FlK RX2 7 2 0 .long false := ⟨RX2, TX2, 2, tyX2, rfl, by decide, uw_X2, tyX2_ok, nmX2, rfl, by decide +kernel, rfl, rfl, (TB_mem 162 (by decide +kernel) (by decide +kernel))⟩
theorem fk_X3_15 : FlK RX3 15 3 1 (.array .int) true := ⟨RX3, TX3, 5, tyX3, rfl, by decide, uw_X3, tyX3_ok, nmX3, rfl, by decide +kernel, rfl, rfl, (TB_mem 128 (by decide +kernel) (by decide +kernel))⟩
theorem fk_X3_18 : FlK RX3 18 3 2 (.array .int) true := ⟨RX3, TX3, 5, tyX3, rfl, by decide, uw_X3, tyX3_ok, nmX3, rfl, by decide +kernel, rfl, rfl, (TB_mem 129 (by decide +kernel) (by decide +kernel))⟩
theorem fk_X3_21 : FlK RX3 21 3 3 (.array .int) true := ⟨RX3, TX3, 5, tyX3, rfl, by decide, uw_X3, tyX3_ok, nmX3, rfl, by decide +kernel, rfl, rfl, (TB_mem 130 (by decide +kernel) (by decide +kernel))⟩
theorem fk_X3_24 : FlK RX3 24 3 4 .int false := ⟨RX3, TX3, 5, tyX3, rfl, by decide, uw_X3, tyX3_ok, nmX3, rfl, by decide +kernel, rfl, rfl, (TB_mem 131 (by decide +kernel) (by decide +kernel))⟩
theorem fk_X3_9 : FlK RX3 9 3 0 (.array .int) true := ⟨RX3, TX3, 5, tyX3, rfl, by decide, uw_X3, tyX3_ok, nmX3, rfl, by decide +kernel, rfl, rfl, (TB_mem 127 (by decide +kernel) (by decide +kernel))⟩
theorem fk_X4_15 : FlK RX4 15 4 1 (.array .long) false := ⟨RX4, TX4, 2, tyX4, rfl, by decide, uw_X4, tyX4_ok, nmX4, rfl, by decide +kernel, rfl, rfl, (TB_mem 150 (by decide +kernel) (by decide +kernel))⟩
theorem fk_X4_9 : FlK RX4 9 4 0 (.array .int) true := ⟨RX4, TX4, 2, tyX4, rfl, by decide, uw_X4, tyX4_ok, nmX4, rfl, by decide +kernel, rfl, rfl, (TB_mem 149 (by decide +kernel) (by decide +kernel))⟩
theorem fk_X5_15 : FlK RX5 15 5 1 .int false := ⟨RX5, TX5, 2, tyX5, rfl, by decide, uw_X5, tyX5_ok, nmX5, rfl, by decide +kernel, rfl, rfl, (TB_mem 111 (by decide +kernel) (by decide +kernel))⟩
theorem fk_X5_9 : FlK RX5 9 5 0 (.array .int) true := ⟨RX5, TX5, 2, tyX5, rfl, by decide, uw_X5, tyX5_ok, nmX5, rfl, by decide +kernel, rfl, rfl, (TB_mem 108 (by decide +kernel) (by decide +kernel))⟩
theorem fk_X6_11 : FlK RX6 11 6 0 (.array (.object RX5)) true := ⟨RX6, TX6, 12, tyX6, rfl, by decide, uw_X6, tyX6_ok, nmX6, rfl, by decide +kernel, rfl, rfl, (TB_mem 200 (by decide +kernel) (by decide +kernel))⟩
theorem fk_X6_15 : FlK RX6 15 6 1 (.array (.object RX5)) true := ⟨RX6, TX6, 12, tyX6, rfl, by decide, uw_X6, tyX6_ok, nmX6, rfl, by decide +kernel, rfl, rfl, (TB_mem 201 (by decide +kernel) (by decide +kernel))⟩
theorem fk_X6_20 : FlK RX6 20 6 2 (.array (.object RX1)) true := ⟨RX6, TX6, 12, tyX6, rfl, by decide, uw_X6, tyX6_ok, nmX6, rfl, by decide +kernel, rfl, rfl, (TB_mem 202 (by decide +kernel) (by decide +kernel))⟩
theorem fk_X6_26 : FlK RX6 26 6 3 (.array (.object RX0)) true := ⟨RX6, TX6, 12, tyX6, rfl, by decide, uw_X6, tyX6_ok, nmX6, rfl, by decide +kernel, rfl, rfl, (TB_mem 203 (by decide +kernel) (by decide +kernel))⟩
theorem fk_X6_31 : FlK RX6 31 6 4 (.object RX0) true := ⟨RX6, TX6, 12, tyX6, rfl, by decide, uw_X6, tyX6_ok, nmX6, rfl, by decide +kernel, rfl, rfl, (TB_mem 204 (by decide +kernel) (by decide +kernel))⟩
theorem fk_X6_36 : FlK RX6 36 6 5 (.object RX5) true := ⟨RX6, TX6, 12, tyX6, rfl, by decide, uw_X6, tyX6_ok, nmX6, rfl, by decide +kernel, rfl, rfl, (TB_mem 205 (by decide +kernel) (by decide +kernel))⟩
theorem fk_X6_43 : FlK RX6 43 6 6 (.object RX3) true := ⟨RX6, TX6, 12, tyX6, rfl, by decide, uw_X6, tyX6_ok, nmX6, rfl, by decide +kernel, rfl, rfl, (TB_mem 206 (by decide +kernel) (by decide +kernel))⟩
theorem fk_X6_50 : FlK RX6 50 6 7 (.object RX4) true := ⟨RX6, TX6, 12, tyX6, rfl, by decide, uw_X6, tyX6_ok, nmX6, rfl, by decide +kernel, rfl, rfl, (TB_mem 207 (by decide +kernel) (by decide +kernel))⟩
theorem fk_X6_57 : FlK RX6 57 6 8 (.object RX2) true := ⟨RX6, TX6, 12, tyX6, rfl, by decide, uw_X6, tyX6_ok, nmX6, rfl, by decide +kernel, rfl, rfl, (TB_mem 208 (by decide +kernel) (by decide +kernel))⟩
theorem fk_X6_61 : FlK RX6 61 6 9 .int false := ⟨RX6, TX6, 12, tyX6, rfl, by decide, uw_X6, tyX6_ok, nmX6, rfl, by decide +kernel, rfl, rfl, (TB_mem 209 (by decide +kernel) (by decide +kernel))⟩
theorem fk_X6_65 : FlK RX6 65 6 10 .int false := ⟨RX6, TX6, 12, tyX6, rfl, by decide, uw_X6, tyX6_ok, nmX6, rfl, by decide +kernel, rfl, rfl, (TB_mem 210 (by decide +kernel) (by decide +kernel))⟩
theorem fk_X6_68 : FlK RX6 68 6 11 (.array .int) true := ⟨RX6, TX6, 12, tyX6, rfl, by decide, uw_X6, tyX6_ok, nmX6, rfl, by decide +kernel, rfl, rfl, (TB_mem 211 (by decide +kernel) (by decide +kernel))⟩
theorem fk_X7_13 : FlK RX7 13 7 4 .long false := ⟨RX7, TX7, 32, tyX7, rfl, by decide, uw_X7, tyX7_ok, nmX7, rfl, by decide +kernel, rfl, rfl, (TB_mem 918 (by decide +kernel) (by decide +kernel))⟩
theorem fk_X7_17 : FlK RX7 17 7 5 (.array .int) true := ⟨RX7, TX7, 32, tyX7, rfl, by decide, uw_X7, tyX7_ok, nmX7, rfl, by decide +kernel, rfl, rfl, (TB_mem 919 (by decide +kernel) (by decide +kernel))⟩
theorem fk_X7_20 : FlK RX7 20 7 6 (.array .int) true := ⟨RX7, TX7, 32, tyX7, rfl, by decide, uw_X7, tyX7_ok, nmX7, rfl, by decide +kernel, rfl, rfl, (TB_mem 920 (by decide +kernel) (by decide +kernel))⟩
theorem fk_X7_23 : FlK RX7 23 7 7 (.array .int) true := ⟨RX7, TX7, 32, tyX7, rfl, by decide, uw_X7, tyX7_ok, nmX7, rfl, by decide +kernel, rfl, rfl, (TB_mem 921 (by decide +kernel) (by decide +kernel))⟩
theorem fk_X7_26 : FlK RX7 26 7 8 (.array .int) true := ⟨RX7, TX7, 32, tyX7, rfl, by decide, uw_X7, tyX7_ok, nmX7, rfl, by decide +kernel, rfl, rfl, (TB_mem 922 (by decide +kernel) (by decide +kernel))⟩
theorem fk_X7_29 : FlK RX7 29 7 9 (.array .int) true := ⟨RX7, TX7, 32, tyX7, rfl, by decide, uw_X7, tyX7_ok, nmX7, rfl, by decide +kernel, rfl, rfl, (TB_mem 923 (by decide +kernel) (by decide +kernel))⟩
theorem fk_X7_32 : FlK RX7 32 7 10 (.array .int) true := ⟨RX7, TX7, 32, tyX7, rfl, by decide, uw_X7, tyX7_ok, nmX7, rfl, by decide +kernel, rfl, rfl, (TB_mem 924 (by decide +kernel) (by decide +kernel))⟩
theorem fk_X7_35 : FlK RX7 35 7 11 (.array .int) true := ⟨RX7, TX7, 32, tyX7, rfl, by decide, uw_X7, tyX7_ok, nmX7, rfl, by decide +kernel, rfl, rfl, (TB_mem 925 (by decide +kernel) (by decide +kernel))⟩
theorem fk_X7_38 : FlK RX7 38 7 12 (.array .int) true := ⟨RX7, TX7, 32, tyX7, rfl, by decide, uw_X7, tyX7_ok, nmX7, rfl, by decide +kernel, rfl, rfl, (TB_mem 926 (by decide +kernel) (by decide +kernel))⟩
theorem fk_X7_41 : FlK RX7 41 7 13 (.array .int) true := ⟨RX7, TX7, 32, tyX7, rfl, by decide, uw_X7, tyX7_ok, nmX7, rfl, by decide +kernel, rfl, rfl, (TB_mem 927 (by decide +kernel) (by decide +kernel))⟩
theorem fk_X7_44 : FlK RX7 44 7 14 (.array .int) true := ⟨RX7, TX7, 32, tyX7, rfl, by decide, uw_X7, tyX7_ok, nmX7, rfl, by decide +kernel, rfl, rfl, (TB_mem 928 (by decide +kernel) (by decide +kernel))⟩
theorem fk_X7_47 : FlK RX7 47 7 15 (.array .int) true := ⟨RX7, TX7, 32, tyX7, rfl, by decide, uw_X7, tyX7_ok, nmX7, rfl, by decide +kernel, rfl, rfl, (TB_mem 929 (by decide +kernel) (by decide +kernel))⟩
theorem fk_X7_50 : FlK RX7 50 7 17 (.array .int) true := ⟨RX7, TX7, 32, tyX7, rfl, by decide, uw_X7, tyX7_ok, nmX7, rfl, by decide +kernel, rfl, rfl, (TB_mem 931 (by decide +kernel) (by decide +kernel))⟩
theorem fk_X7_53 : FlK RX7 53 7 18 (.array .int) true := ⟨RX7, TX7, 32, tyX7, rfl, by decide, uw_X7, tyX7_ok, nmX7, rfl, by decide +kernel, rfl, rfl, (TB_mem 932 (by decide +kernel) (by decide +kernel))⟩
theorem fk_X7_56 : FlK RX7 56 7 19 (.array .int) true := ⟨RX7, TX7, 32, tyX7, rfl, by decide, uw_X7, tyX7_ok, nmX7, rfl, by decide +kernel, rfl, rfl, (TB_mem 933 (by decide +kernel) (by decide +kernel))⟩
theorem fk_X7_59 : FlK RX7 59 7 20 (.array .int) true := ⟨RX7, TX7, 32, tyX7, rfl, by decide, uw_X7, tyX7_ok, nmX7, rfl, by decide +kernel, rfl, rfl, (TB_mem 934 (by decide +kernel) (by decide +kernel))⟩
theorem fk_X7_62 : FlK RX7 62 7 23 (.array .int) true := ⟨RX7, TX7, 32, tyX7, rfl, by decide, uw_X7, tyX7_ok, nmX7, rfl, by decide +kernel, rfl, rfl, (TB_mem 937 (by decide +kernel) (by decide +kernel))⟩
theorem fk_X7_65 : FlK RX7 65 7 24 (.array .boolean) true := ⟨RX7, TX7, 32, tyX7, rfl, by decide, uw_X7, tyX7_ok, nmX7, rfl, by decide +kernel, rfl, rfl, (TB_mem 938 (by decide +kernel) (by decide +kernel))⟩
theorem fk_X7_69 : FlK RX7 69 7 27 (.array .int) true := ⟨RX7, TX7, 32, tyX7, rfl, by decide, uw_X7, tyX7_ok, nmX7, rfl, by decide +kernel, rfl, rfl, (TB_mem 941 (by decide +kernel) (by decide +kernel))⟩
theorem fk_X7_7 : FlK RX7 7 7 1 (.array .int) true := ⟨RX7, TX7, 32, tyX7, rfl, by decide, uw_X7, tyX7_ok, nmX7, rfl, by decide +kernel, rfl, rfl, (TB_mem 915 (by decide +kernel) (by decide +kernel))⟩
theorem fk_X7_72 : FlK RX7 72 7 28 (.array .int) true := ⟨RX7, TX7, 32, tyX7, rfl, by decide, uw_X7, tyX7_ok, nmX7, rfl, by decide +kernel, rfl, rfl, (TB_mem 942 (by decide +kernel) (by decide +kernel))⟩
theorem fk_X7_75 : FlK RX7 75 7 29 (.array .long) true := ⟨RX7, TX7, 32, tyX7, rfl, by decide, uw_X7, tyX7_ok, nmX7, rfl, by decide +kernel, rfl, rfl, (TB_mem 943 (by decide +kernel) (by decide +kernel))⟩
theorem fk_X7_79 : FlK RX7 79 7 30 (.array .int) true := ⟨RX7, TX7, 32, tyX7, rfl, by decide, uw_X7, tyX7_ok, nmX7, rfl, by decide +kernel, rfl, rfl, (TB_mem 944 (by decide +kernel) (by decide +kernel))⟩
theorem in_X0 : Cond.instantiable RX0 3 ∈ TB := (TB_mem 84 (by decide +kernel) (by decide +kernel))
theorem in_X1 : Cond.instantiable RX1 6 ∈ TB := (TB_mem 171 (by decide +kernel) (by decide +kernel))
theorem in_X2 : Cond.instantiable RX2 2 ∈ TB := (TB_mem 157 (by decide +kernel) (by decide +kernel))
theorem in_X3 : Cond.instantiable RX3 5 ∈ TB := (TB_mem 122 (by decide +kernel) (by decide +kernel))
theorem in_X4 : Cond.instantiable RX4 2 ∈ TB := (TB_mem 144 (by decide +kernel) (by decide +kernel))
theorem in_X5 : Cond.instantiable RX5 2 ∈ TB := (TB_mem 103 (by decide +kernel) (by decide +kernel))
theorem in_X6 : Cond.instantiable RX6 12 ∈ TB := (TB_mem 71 (by decide +kernel) (by decide +kernel))
theorem in_X7 : Cond.instantiable RX7 32 ∈ TB := (TB_mem 909 (by decide +kernel) (by decide +kernel))
theorem iz_X0 : Cond.initialized RX0 ∈ TB := (TB_mem 59 (by decide +kernel) (by decide +kernel))
theorem iz_X1 : Cond.initialized RX1 ∈ TB := (TB_mem 64 (by decide +kernel) (by decide +kernel))
theorem iz_X2 : Cond.initialized RX2 ∈ TB := (TB_mem 63 (by decide +kernel) (by decide +kernel))
theorem iz_X3 : Cond.initialized RX3 ∈ TB := (TB_mem 61 (by decide +kernel) (by decide +kernel))
theorem iz_X4 : Cond.initialized RX4 ∈ TB := (TB_mem 62 (by decide +kernel) (by decide +kernel))
theorem iz_X5 : Cond.initialized RX5 ∈ TB := (TB_mem 60 (by decide +kernel) (by decide +kernel))
theorem iz_X6 : Cond.initialized RX6 ∈ TB := (TB_mem 58 (by decide +kernel) (by decide +kernel))
theorem iz_X7 : Cond.initialized RX7 ∈ TB := (TB_mem 65 (by decide +kernel) (by decide +kernel))
theorem li_L_12 : LkI RL 12 yX7_init cX7_init 2 := ⟨Or.inl (TB_mem 910 (by decide +kernel) (by decide +kernel)), (TB_mem 911 (by decide +kernel) (by decide +kernel)), (TB_mem 65 (by decide +kernel) (by decide +kernel)), (TB_mem 912 (by decide +kernel) (by decide +kernel)), rfl, by decide +kernel⟩
theorem li_L_9 : LkI RL 9 yX6_init cX6_init 2 := ⟨Or.inl (TB_mem 72 (by decide +kernel) (by decide +kernel)), (TB_mem 73 (by decide +kernel) (by decide +kernel)), (TB_mem 58 (by decide +kernel) (by decide +kernel)), (TB_mem 74 (by decide +kernel) (by decide +kernel)), rfl, by decide +kernel⟩
theorem li_X6_30 : LkI RX6 30 yX0_init cX0_init 1 := ⟨Or.inr ⟨"HiddenWords", NB_mem 28 (by decide +kernel) (by decide +kernel)⟩, (TB_mem 86 (by decide +kernel) (by decide +kernel)), (TB_mem 59 (by decide +kernel) (by decide +kernel)), (TB_mem 87 (by decide +kernel) (by decide +kernel)), rfl, by decide +kernel⟩
theorem li_X6_35 : LkI RX6 35 yX5_init cX5_init 1 := ⟨Or.inr ⟨"HiddenWords", NB_mem 47 (by decide +kernel) (by decide +kernel)⟩, (TB_mem 105 (by decide +kernel) (by decide +kernel)), (TB_mem 60 (by decide +kernel) (by decide +kernel)), (TB_mem 106 (by decide +kernel) (by decide +kernel)), rfl, by decide +kernel⟩
theorem li_X6_42 : LkI RX6 42 yX3_init cX3_init 1 := ⟨Or.inr ⟨"HiddenWords", NB_mem 66 (by decide +kernel) (by decide +kernel)⟩, (TB_mem 124 (by decide +kernel) (by decide +kernel)), (TB_mem 61 (by decide +kernel) (by decide +kernel)), (TB_mem 125 (by decide +kernel) (by decide +kernel)), rfl, by decide +kernel⟩
theorem li_X6_49 : LkI RX6 49 yX4_init cX4_init 1 := ⟨Or.inr ⟨"HiddenWords", NB_mem 88 (by decide +kernel) (by decide +kernel)⟩, (TB_mem 146 (by decide +kernel) (by decide +kernel)), (TB_mem 62 (by decide +kernel) (by decide +kernel)), (TB_mem 147 (by decide +kernel) (by decide +kernel)), rfl, by decide +kernel⟩
theorem li_X6_56 : LkI RX6 56 yX2_init cX2_init 1 := ⟨Or.inr ⟨"HiddenWords", NB_mem 101 (by decide +kernel) (by decide +kernel)⟩, (TB_mem 159 (by decide +kernel) (by decide +kernel)), (TB_mem 63 (by decide +kernel) (by decide +kernel)), (TB_mem 160 (by decide +kernel) (by decide +kernel)), rfl, by decide +kernel⟩
theorem li_X6_72 : LkI RX6 72 yX1_init cX1_init 1 := ⟨Or.inr ⟨"HiddenWords", NB_mem 115 (by decide +kernel) (by decide +kernel)⟩, (TB_mem 173 (by decide +kernel) (by decide +kernel)), (TB_mem 64 (by decide +kernel) (by decide +kernel)), (TB_mem 174 (by decide +kernel) (by decide +kernel)), rfl, by decide +kernel⟩
theorem lo_X0_3 : LkO RX0 3 := ⟨(TB_mem 88 (by decide +kernel) (by decide +kernel)), (TB_mem 76 (by decide +kernel) (by decide +kernel)), (TB_mem 77 (by decide +kernel) (by decide +kernel))⟩
theorem lo_X1_3 : LkO RX1 3 := ⟨(TB_mem 175 (by decide +kernel) (by decide +kernel)), (TB_mem 76 (by decide +kernel) (by decide +kernel)), (TB_mem 77 (by decide +kernel) (by decide +kernel))⟩
theorem lo_X2_1 : LkO RX2 1 := ⟨(TB_mem 161 (by decide +kernel) (by decide +kernel)), (TB_mem 76 (by decide +kernel) (by decide +kernel)), (TB_mem 77 (by decide +kernel) (by decide +kernel))⟩
theorem lo_X3_3 : LkO RX3 3 := ⟨(TB_mem 126 (by decide +kernel) (by decide +kernel)), (TB_mem 76 (by decide +kernel) (by decide +kernel)), (TB_mem 77 (by decide +kernel) (by decide +kernel))⟩
theorem lo_X4_3 : LkO RX4 3 := ⟨(TB_mem 148 (by decide +kernel) (by decide +kernel)), (TB_mem 76 (by decide +kernel) (by decide +kernel)), (TB_mem 77 (by decide +kernel) (by decide +kernel))⟩
theorem lo_X5_3 : LkO RX5 3 := ⟨(TB_mem 107 (by decide +kernel) (by decide +kernel)), (TB_mem 76 (by decide +kernel) (by decide +kernel)), (TB_mem 77 (by decide +kernel) (by decide +kernel))⟩
theorem lo_X6_3 : LkO RX6 3 := ⟨(TB_mem 75 (by decide +kernel) (by decide +kernel)), (TB_mem 76 (by decide +kernel) (by decide +kernel)), (TB_mem 77 (by decide +kernel) (by decide +kernel))⟩
theorem lo_X7_1 : LkO RX7 1 := ⟨(TB_mem 913 (by decide +kernel) (by decide +kernel)), (TB_mem 76 (by decide +kernel) (by decide +kernel)), (TB_mem 77 (by decide +kernel) (by decide +kernel))⟩
set_option maxRecDepth 100000 in
set_option maxHeartbeats 4000000 in
theorem k_X5 (g : Gx) (l : Launch) (a N : Nat) (c : Nat → va_E) (hc : c a = .inr (5, [.null, .int 0])) (ha : a < N) : CtrK g l yX5_init cX5_init 1 1 13 1 60 a c N (va_up (va_up (va_up c N (.inl (g.2.1 0, (60, .inl (fun _ => 0))))) a (.inr (5, [rA g N, .int 0]))) a (.inr (5, [rA g N, .int (-1)]))) := mkK (plainFor_of_name (by decide)) rfl (by decide) (fun V o kr => by
  refine Q_aload_n o 0 dX5_init_0 rfl rfl ?_
  refine Q_objInit o dX5_init_1 lo_X5_3 (by decide) ?_
  refine Q_aload_n o 0 dX5_init_4 rfl rfl ?_
  refine Q_bipush (v := 60) o dX5_init_5 (by decide) ?_
  refine Q_newa (ti := 0) (n := 60) (ty := .int) (a0 := (60, .inl (fun _ => 0))) o dX5_init_7 rfl ac_int rfl (fun _ _ => Iff.rfl) (fun _ => rfl) (by decide) (by decide) (by decide) (by decide) (by decide) (fun c1 e1 => ?_)
  refine Q_put (fs := [.null, .int 0]) o [rA g N, .int 0] dX5_init_9 fk_X5_9 (by rw [e1, va_up_ne _ _ (by omega)]; exact hc) (by omega) (by show 0 < 2; decide) rfl rfl rfl (fun c2 e2 => ?_)
  refine Q_aload_n o 0 dX5_init_12 rfl rfl ?_
  refine Q_iconst (v := (-1)) o dX5_init_13 (by decide) ?_
  refine Q_put (fs := [rA g N, .int 0]) o [rA g N, .int (-1)] dX5_init_14 fk_X5_15 (by rw [e2, va_up_self]) (by omega) (by show 1 < 2; decide) rfl rfl rfl (fun c3 e3 => ?_)
  exact kr _ _ _ dX5_init_17 (fun j _ => Or.inl (by rw [e3, e2, e1])))
set_option maxRecDepth 100000 in
set_option maxHeartbeats 4000000 in
theorem k_X0 (g : Gx) (l : Launch) (a N : Nat) (c : Nat → va_E) (hc : c a = .inr (0, [.null, .int 0, .int 0])) (ha : a < N) : CtrK g l yX0_init cX0_init 1 1 13 1 6 a c N (va_up (va_up (va_up (va_up c N (.inl (g.2.1 0, (6, .inl (fun _ => 0))))) a (.inr (0, [rA g N, .int 0, .int 0]))) a (.inr (0, [rA g N, .int 0, .int 0]))) a (.inr (0, [rA g N, .int 0, .int 0]))) := mkK (plainFor_of_name (by decide)) rfl (by decide) (fun V o kr => by
  refine Q_aload_n o 0 dX0_init_0 rfl rfl ?_
  refine Q_objInit o dX0_init_1 lo_X0_3 (by decide) ?_
  refine Q_aload_n o 0 dX0_init_4 rfl rfl ?_
  refine Q_bipush (v := 6) o dX0_init_5 (by decide) ?_
  refine Q_newa (ti := 0) (n := 6) (ty := .int) (a0 := (6, .inl (fun _ => 0))) o dX0_init_7 rfl ac_int rfl (fun _ _ => Iff.rfl) (fun _ => rfl) (by decide) (by decide) (by decide) (by decide) (by decide) (fun c1 e1 => ?_)
  refine Q_put (fs := [.null, .int 0, .int 0]) o [rA g N, .int 0, .int 0] dX0_init_9 fk_X0_9 (by rw [e1, va_up_ne _ _ (by omega)]; exact hc) (by omega) (by show 0 < 3; decide) rfl rfl rfl (fun c2 e2 => ?_)
  refine Q_aload_n o 0 dX0_init_12 rfl rfl ?_
  refine Q_iconst (v := 0) o dX0_init_13 (by decide) ?_
  refine Q_put (fs := [rA g N, .int 0, .int 0]) o [rA g N, .int 0, .int 0] dX0_init_14 fk_X0_15 (by rw [e2, va_up_self]) (by omega) (by show 1 < 3; decide) rfl rfl rfl (fun c3 e3 => ?_)
  refine Q_aload_n o 0 dX0_init_17 rfl rfl ?_
  refine Q_iconst (v := 0) o dX0_init_18 (by decide) ?_
  refine Q_put (fs := [rA g N, .int 0, .int 0]) o [rA g N, .int 0, .int 0] dX0_init_19 fk_X0_19 (by rw [e3, va_up_self]) (by omega) (by show 2 < 3; decide) rfl rfl rfl (fun c4 e4 => ?_)
  exact kr _ _ _ dX0_init_22 (fun j _ => Or.inl (by rw [e4, e3, e2, e1])))
set_option maxRecDepth 100000 in
set_option maxHeartbeats 4000000 in
theorem k_X1 (g : Gx) (l : Launch) (a N : Nat) (c : Nat → va_E) (hc : c a = .inr (1, [.null, .null, .int 0, .int 0, .int 0, .int 0])) (ha : a < N) : CtrK g l yX1_init cX1_init 1 1 13 2 80 a c N (va_up (va_up (va_up (va_up (va_up (va_up (va_up (va_up c N (.inl (g.2.1 0, (40, .inl (fun _ => 0))))) a (.inr (1, [rA g N, .null, .int 0, .int 0, .int 0, .int 0]))) (N + 1) (.inl (g.2.1 0, (40, .inl (fun _ => 0))))) a (.inr (1, [rA g N, rA g (N + 1), .int 0, .int 0, .int 0, .int 0]))) a (.inr (1, [rA g N, rA g (N + 1), .int 0, .int 0, .int 0, .int 0]))) a (.inr (1, [rA g N, rA g (N + 1), .int 0, .int 0, .int 0, .int 0]))) a (.inr (1, [rA g N, rA g (N + 1), .int 0, .int 0, .int 0, .int 0]))) a (.inr (1, [rA g N, rA g (N + 1), .int 0, .int 0, .int 0, .int 0]))) := mkK (plainFor_of_name (by decide)) rfl (by decide) (fun V o kr => by
  refine Q_aload_n o 0 dX1_init_0 rfl rfl ?_
  refine Q_objInit o dX1_init_1 lo_X1_3 (by decide) ?_
  refine Q_aload_n o 0 dX1_init_4 rfl rfl ?_
  refine Q_bipush (v := 40) o dX1_init_5 (by decide) ?_
  refine Q_newa (ti := 0) (n := 40) (ty := .int) (a0 := (40, .inl (fun _ => 0))) o dX1_init_7 rfl ac_int rfl (fun _ _ => Iff.rfl) (fun _ => rfl) (by decide) (by decide) (by decide) (by decide) (by decide) (fun c1 e1 => ?_)
  refine Q_put (fs := [.null, .null, .int 0, .int 0, .int 0, .int 0]) o [rA g N, .null, .int 0, .int 0, .int 0, .int 0] dX1_init_9 fk_X1_9 (by rw [e1, va_up_ne _ _ (by omega)]; exact hc) (by omega) (by show 0 < 6; decide) rfl rfl rfl (fun c2 e2 => ?_)
  refine Q_aload_n o 0 dX1_init_12 rfl rfl ?_
  refine Q_bipush (v := 40) o dX1_init_13 (by decide) ?_
  refine Q_newa (ti := 0) (n := 40) (ty := .int) (a0 := (40, .inl (fun _ => 0))) o dX1_init_15 rfl ac_int rfl (fun _ _ => Iff.rfl) (fun _ => rfl) (by decide) (by decide) (by decide) (by decide) (by decide) (fun c3 e3 => ?_)
  refine Q_put (fs := [rA g N, .null, .int 0, .int 0, .int 0, .int 0]) o [rA g N, rA g (N + 1), .int 0, .int 0, .int 0, .int 0] dX1_init_17 fk_X1_15 (by rw [e3, va_up_ne _ _ (by omega), e2, va_up_self]) (by omega) (by show 1 < 6; decide) rfl rfl rfl (fun c4 e4 => ?_)
  refine Q_aload_n o 0 dX1_init_20 rfl rfl ?_
  refine Q_iconst (v := 0) o dX1_init_21 (by decide) ?_
  refine Q_put (fs := [rA g N, rA g (N + 1), .int 0, .int 0, .int 0, .int 0]) o [rA g N, rA g (N + 1), .int 0, .int 0, .int 0, .int 0] dX1_init_22 fk_X1_18 (by rw [e4, va_up_self]) (by omega) (by show 2 < 6; decide) rfl rfl rfl (fun c5 e5 => ?_)
  refine Q_aload_n o 0 dX1_init_25 rfl rfl ?_
  refine Q_iconst (v := 0) o dX1_init_26 (by decide) ?_
  refine Q_put (fs := [rA g N, rA g (N + 1), .int 0, .int 0, .int 0, .int 0]) o [rA g N, rA g (N + 1), .int 0, .int 0, .int 0, .int 0] dX1_init_27 fk_X1_22 (by rw [e5, va_up_self]) (by omega) (by show 3 < 6; decide) rfl rfl rfl (fun c6 e6 => ?_)
  refine Q_aload_n o 0 dX1_init_30 rfl rfl ?_
  refine Q_iconst (v := 0) o dX1_init_31 (by decide) ?_
  refine Q_put (fs := [rA g N, rA g (N + 1), .int 0, .int 0, .int 0, .int 0]) o [rA g N, rA g (N + 1), .int 0, .int 0, .int 0, .int 0] dX1_init_32 fk_X1_25 (by rw [e6, va_up_self]) (by omega) (by show 4 < 6; decide) rfl rfl rfl (fun c7 e7 => ?_)
  refine Q_aload_n o 0 dX1_init_35 rfl rfl ?_
  refine Q_iconst (v := 0) o dX1_init_36 (by decide) ?_
  refine Q_put (fs := [rA g N, rA g (N + 1), .int 0, .int 0, .int 0, .int 0]) o [rA g N, rA g (N + 1), .int 0, .int 0, .int 0, .int 0] dX1_init_37 fk_X1_28 (by rw [e7, va_up_self]) (by omega) (by show 5 < 6; decide) rfl rfl rfl (fun c8 e8 => ?_)
  exact kr _ _ _ dX1_init_40 (fun j _ => Or.inl (by rw [e8, e7, e6, e5, e4, e3, e2, e1])))
set_option maxRecDepth 100000 in
set_option maxHeartbeats 4000000 in
theorem k_X3 (g : Gx) (l : Launch) (a N : Nat) (c : Nat → va_E) (hc : c a = .inr (3, [.null, .null, .null, .null, .int 0])) (ha : a < N) : CtrK g l yX3_init cX3_init 1 1 13 4 208 a c N (va_up (va_up (va_up (va_up (va_up (va_up (va_up (va_up (va_up c N (.inl (g.2.1 0, (40, .inl (fun _ => 0))))) a (.inr (3, [rA g N, .null, .null, .null, .int 0]))) (N + 1) (.inl (g.2.1 0, (64, .inl (fun _ => 0))))) a (.inr (3, [rA g N, rA g (N + 1), .null, .null, .int 0]))) (N + 2) (.inl (g.2.1 0, (64, .inl (fun _ => 0))))) a (.inr (3, [rA g N, rA g (N + 1), rA g (N + 2), .null, .int 0]))) (N + 3) (.inl (g.2.1 0, (40, .inl (fun _ => 0))))) a (.inr (3, [rA g N, rA g (N + 1), rA g (N + 2), rA g (N + 3), .int 0]))) a (.inr (3, [rA g N, rA g (N + 1), rA g (N + 2), rA g (N + 3), .int 0]))) := mkK (plainFor_of_name (by decide)) rfl (by decide) (fun V o kr => by
  refine Q_aload_n o 0 dX3_init_0 rfl rfl ?_
  refine Q_objInit o dX3_init_1 lo_X3_3 (by decide) ?_
  refine Q_aload_n o 0 dX3_init_4 rfl rfl ?_
  refine Q_bipush (v := 40) o dX3_init_5 (by decide) ?_
  refine Q_newa (ti := 0) (n := 40) (ty := .int) (a0 := (40, .inl (fun _ => 0))) o dX3_init_7 rfl ac_int rfl (fun _ _ => Iff.rfl) (fun _ => rfl) (by decide) (by decide) (by decide) (by decide) (by decide) (fun c1 e1 => ?_)
  refine Q_put (fs := [.null, .null, .null, .null, .int 0]) o [rA g N, .null, .null, .null, .int 0] dX3_init_9 fk_X3_9 (by rw [e1, va_up_ne _ _ (by omega)]; exact hc) (by omega) (by show 0 < 5; decide) rfl rfl rfl (fun c2 e2 => ?_)
  refine Q_aload_n o 0 dX3_init_12 rfl rfl ?_
  refine Q_bipush (v := 64) o dX3_init_13 (by decide) ?_
  refine Q_newa (ti := 0) (n := 64) (ty := .int) (a0 := (64, .inl (fun _ => 0))) o dX3_init_15 rfl ac_int rfl (fun _ _ => Iff.rfl) (fun _ => rfl) (by decide) (by decide) (by decide) (by decide) (by decide) (fun c3 e3 => ?_)
  refine Q_put (fs := [rA g N, .null, .null, .null, .int 0]) o [rA g N, rA g (N + 1), .null, .null, .int 0] dX3_init_17 fk_X3_15 (by rw [e3, va_up_ne _ _ (by omega), e2, va_up_self]) (by omega) (by show 1 < 5; decide) rfl rfl rfl (fun c4 e4 => ?_)
  refine Q_aload_n o 0 dX3_init_20 rfl rfl ?_
  refine Q_bipush (v := 64) o dX3_init_21 (by decide) ?_
  refine Q_newa (ti := 0) (n := 64) (ty := .int) (a0 := (64, .inl (fun _ => 0))) o dX3_init_23 rfl ac_int rfl (fun _ _ => Iff.rfl) (fun _ => rfl) (by decide) (by decide) (by decide) (by decide) (by decide) (fun c5 e5 => ?_)
  refine Q_put (fs := [rA g N, rA g (N + 1), .null, .null, .int 0]) o [rA g N, rA g (N + 1), rA g (N + 2), .null, .int 0] dX3_init_25 fk_X3_18 (by rw [e5, va_up_ne _ _ (by omega), e4, va_up_self]) (by omega) (by show 2 < 5; decide) rfl rfl rfl (fun c6 e6 => ?_)
  refine Q_aload_n o 0 dX3_init_28 rfl rfl ?_
  refine Q_bipush (v := 40) o dX3_init_29 (by decide) ?_
  refine Q_newa (ti := 0) (n := 40) (ty := .int) (a0 := (40, .inl (fun _ => 0))) o dX3_init_31 rfl ac_int rfl (fun _ _ => Iff.rfl) (fun _ => rfl) (by decide) (by decide) (by decide) (by decide) (by decide) (fun c7 e7 => ?_)
  refine Q_put (fs := [rA g N, rA g (N + 1), rA g (N + 2), .null, .int 0]) o [rA g N, rA g (N + 1), rA g (N + 2), rA g (N + 3), .int 0] dX3_init_33 fk_X3_21 (by rw [e7, va_up_ne _ _ (by omega), e6, va_up_self]) (by omega) (by show 3 < 5; decide) rfl rfl rfl (fun c8 e8 => ?_)
  refine Q_aload_n o 0 dX3_init_36 rfl rfl ?_
  refine Q_iconst (v := 0) o dX3_init_37 (by decide) ?_
  refine Q_put (fs := [rA g N, rA g (N + 1), rA g (N + 2), rA g (N + 3), .int 0]) o [rA g N, rA g (N + 1), rA g (N + 2), rA g (N + 3), .int 0] dX3_init_38 fk_X3_24 (by rw [e8, va_up_self]) (by omega) (by show 4 < 5; decide) rfl rfl rfl (fun c9 e9 => ?_)
  exact kr _ _ _ dX3_init_41 (fun j _ => Or.inl (by rw [e9, e8, e7, e6, e5, e4, e3, e2, e1])))
set_option maxRecDepth 100000 in
set_option maxHeartbeats 4000000 in
theorem k_X4 (g : Gx) (l : Launch) (a N : Nat) (c : Nat → va_E) (hc : c a = .inr (4, [.null, .null])) (ha : a < N) : CtrK g l yX4_init cX4_init 1 1 13 1 40 a c N (va_up (va_up (va_up c N (.inl (g.2.1 0, (40, .inl (fun _ => 0))))) a (.inr (4, [rA g N, .null]))) a (.inr (4, [rA g N, .null]))) := mkK (plainFor_of_name (by decide)) rfl (by decide) (fun V o kr => by
  refine Q_aload_n o 0 dX4_init_0 rfl rfl ?_
  refine Q_objInit o dX4_init_1 lo_X4_3 (by decide) ?_
  refine Q_aload_n o 0 dX4_init_4 rfl rfl ?_
  refine Q_bipush (v := 40) o dX4_init_5 (by decide) ?_
  refine Q_newa (ti := 0) (n := 40) (ty := .int) (a0 := (40, .inl (fun _ => 0))) o dX4_init_7 rfl ac_int rfl (fun _ _ => Iff.rfl) (fun _ => rfl) (by decide) (by decide) (by decide) (by decide) (by decide) (fun c1 e1 => ?_)
  refine Q_put (fs := [.null, .null]) o [rA g N, .null] dX4_init_9 fk_X4_9 (by rw [e1, va_up_ne _ _ (by omega)]; exact hc) (by omega) (by show 0 < 2; decide) rfl rfl rfl (fun c2 e2 => ?_)
  refine Q_aload_n o 0 dX4_init_12 rfl rfl ?_
  refine Q_null o dX4_init_13 ?_
  refine Q_put (fs := [rA g N, .null]) o [rA g N, .null] dX4_init_14 fk_X4_15 (by rw [e2, va_up_self]) (by omega) (by show 1 < 2; decide) rfl rfl rfl (fun c3 e3 => ?_)
  exact kr _ _ _ dX4_init_17 (fun j _ => Or.inl (by rw [e3, e2, e1])))
set_option maxRecDepth 100000 in
set_option maxHeartbeats 4000000 in
theorem k_X2 (g : Gx) (l : Launch) (a N : Nat) (c : Nat → va_E) (hc : c a = .inr (2, [.long 0, .long 0])) (ha : a < N) : CtrK g l yX2_init cX2_init 1 1 13 0 0 a c N (va_up (va_up c a (.inr (2, [.long 0, .long 0]))) a (.inr (2, [.long 0, .long 1]))) := mkK (plainFor_of_name (by decide)) rfl (by decide) (fun V o kr => by
  refine Q_aload_n o 0 dX2_init_0 rfl rfl ?_
  refine Q_objInit o dX2_init_1 lo_X2_1 (by decide) ?_
  refine Q_aload_n o 0 dX2_init_4 rfl rfl ?_
  refine Q_lconst (v := 0) o dX2_init_5 (by decide) ?_
  refine Q_put (fs := [.long 0, .long 0]) o [.long 0, .long 0] dX2_init_6 fk_X2_7 hc (by omega) (by show 0 < 2; decide) rfl rfl rfl (fun c1 e1 => ?_)
  refine Q_aload_n o 0 dX2_init_9 rfl rfl ?_
  refine Q_lconst (v := 1) o dX2_init_10 (by decide) ?_
  refine Q_put (fs := [.long 0, .long 0]) o [.long 0, .long 1] dX2_init_11 fk_X2_13 (by rw [e1, va_up_self]) (by omega) (by show 1 < 2; decide) rfl rfl rfl (fun c2 e2 => ?_)
  exact kr _ _ _ dX2_init_14 (fun j _ => Or.inl (by rw [e2, e1])))
