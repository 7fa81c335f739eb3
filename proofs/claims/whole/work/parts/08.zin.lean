theorem zin_0 : ∀ w ∈ u_ws RX0 TX0 13, w ∈ lw_tbl := by decide +kernel
theorem zin_1 : ∀ w ∈ u_ws RX1 TX1 17, w ∈ lw_tbl := by decide +kernel
theorem zin_2 : ∀ w ∈ u_ws RX2 TX2 16, w ∈ lw_tbl := by decide +kernel
theorem zin_3 : ∀ w ∈ u_ws RX3 TX3 12, w ∈ lw_tbl := by decide +kernel
theorem zin_4 : ∀ w ∈ u_ws RX4 TX4 3, w ∈ lw_tbl := by decide +kernel
theorem zin_5 : ∀ w ∈ u_ws RX5 TX5 11, w ∈ lw_tbl := by decide +kernel
theorem zin_6 : ∀ w ∈ u_ws RX6 TX6 12, w ∈ lw_tbl := by decide +kernel
theorem zin_7 : ∀ w ∈ u_ws RX7 TX7 12, w ∈ lw_tbl := by decide +kernel
theorem zin_8 : ∀ w ∈ u_ws RX8 TX8 6, w ∈ lw_tbl := by decide +kernel
theorem zin_9 : ∀ w ∈ u_ws RX9 TX9 15, w ∈ lw_tbl := by decide +kernel
theorem zin_10 : ∀ w ∈ u_ws RX10 TX10 84, w ∈ lw_tbl := by decide +kernel
theorem zin_good : ∀ a, a < 11 → ∀ w ∈ u_ws (zcs a).1 (zcs a).2.1 (zcs a).2.2, goodWord w = true := by decide +kernel
theorem zin_all : ∀ a, a < 11 → ∀ w ∈ u_ws (zcs a).1 (zcs a).2.1 (zcs a).2.2, w ∈ zT := by
  intro a h w hw
  refine zT_of ?_ (zin_good a h w hw)
  match a, h, hw with
  | 0, _, hw => exact zin_0 w hw
  | 1, _, hw => exact zin_1 w hw
  | 2, _, hw => exact zin_2 w hw
  | 3, _, hw => exact zin_3 w hw
  | 4, _, hw => exact zin_4 w hw
  | 5, _, hw => exact zin_5 w hw
  | 6, _, hw => exact zin_6 w hw
  | 7, _, hw => exact zin_7 w hw
  | 8, _, hw => exact zin_8 w hw
  | 9, _, hw => exact zin_9 w hw
  | 10, _, hw => exact zin_10 w hw
