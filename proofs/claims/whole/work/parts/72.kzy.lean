/-! ===== the constructors: ScaffoldYard ===== -/
section KZyard
variable {G : kz_G} {w : kz_W} {z h0 : Nat}
def ydZ : List Value := [.null, .null, .null, .null]
def ydF (z : Nat) : List Value := [.ref z, .ref (z + 13), .ref (z + 93), .ref (z + 95)]
def yd1 (G : kz_G) (w : kz_W) (z : Nat) : kz_W := bkS G (kz_u w z (.inr (0, bkZ))) z (z + 1) 12 (bkF (z + 1)) bkA
def yd2 (G : kz_G) (w : kz_W) (h0 z : Nat) : kz_W := kz_u (yd1 G w z) h0 (.inr (3, [.ref z, .null, .null, .null]))
def yd4 (G : kz_G) (w : kz_W) (h0 z : Nat) : kz_W := hsW G (kz_u (yd2 G w h0 z) (z + 13) (.inr (1, hyZ))) (z + 13) (z + 14) 6
def yd5 (G : kz_G) (w : kz_W) (h0 z : Nat) : kz_W := kz_u (yd4 G w h0 z) h0 (.inr (3, [.ref z, .ref (z + 13), .null, .null]))
def yd7 (G : kz_G) (w : kz_W) (h0 z : Nat) : kz_W := gS G (kz_u (yd5 G w h0 z) (z + 93) (.inr (2, txZ))) (z + 93) (z + 94) 1 2 (txF (z + 94)) (fun _ => 60) mdA0
def yd8 (G : kz_G) (w : kz_W) (h0 z : Nat) : kz_W := kz_u (yd7 G w h0 z) h0 (.inr (3, [.ref z, .ref (z + 13), .ref (z + 93), .null]))
def ydW (G : kz_G) (w : kz_W) (h0 z : Nat) : kz_W := kz_u (kz_u (yd8 G w h0 z) (z + 95) (.inl (G.2.2.2.1, 4, .inl fun _ => 0))) h0 (.inr (3, ydF z))
theorem ydZ_ok : ∀ j, j < 4 → defaultValue (tyX3 j) = vp_V ydZ j := by decide +kernel
theorem hyZ_ok : ∀ j, j < 3 → defaultValue (tyX1 j) = vp_V hyZ j := by decide +kernel
theorem txZ_ok : ∀ j, j < 6 → defaultValue (tyX2 j) = vp_V txZ j := by decide +kernel
theorem mdZ_ok : ∀ j, j < 12 → defaultValue (tyX4 j) = vp_V mdZ j := by decide +kernel
theorem yd1_h (hz : h0 < z) : yd1 G w z h0 = w h0 := by
  unfold yd1 bkS
  rw [if_neg (by omega), if_pos (by omega), kz_u_n (by omega)]
theorem yd4_h (hz : h0 < z) : yd4 G w h0 z h0 = some (.inr (3, [.ref z, .null, .null, .null])) := by
  unfold yd4 hsW
  rw [if_neg (by omega), if_pos (by omega), kz_u_n (by omega)]
  exact kz_u_s
theorem yd7_h (hz : h0 < z) : yd7 G w h0 z h0 = some (.inr (3, [.ref z, .ref (z + 13), .null, .null])) := by
  unfold yd7 gS
  rw [if_neg (by omega), if_pos (by omega), kz_u_n (by omega)]
  exact kz_u_s
theorem yd8_h : yd8 G w h0 z h0 = some (.inr (3, [.ref z, .ref (z + 13), .ref (z + 93), .null])) := kz_u_s
theorem kz_yard (d : Nat) (hz : h0 < z) (hA : G.2.1 ≤ h0) (h : w h0 = some (.inr (3, ydZ))) : kz_K G mX3_init (d + 3) 96 2116 [.ref h0] w z (ydW G w h0 z) (z + 96) := by
  refine kz_enter rfl (by decide +kernel) (Nat.le_of_ble_eq_true rfl) (lv := [(0, .ref h0)]) rfl ?_
  refine kz_aload_n (n := 1) dX3_init_0 rfl rfl 0 rfl ?_
  refine kz_obj (n := 4) dX3_init_1 rfl kz_o3 (by decide) ?_
  refine kz_aload_n (n := 5) dX3_init_4 rfl rfl 0 rfl ?_
  refine kz_new (kc := 95) (ks := 2099) (c0 := 0) (q := (RX0, TX0, 17)) (fs := bkZ) (n := 8) dX3_init_5 rfl rfl tyX0 tyX0_ok kz_cl30 kz_n0 kz_ok0.1.1.2.2.2 bkZ_ok ?_
  refine kz_dup (n := 9) dX3_init_8 rfl rfl ?_
  refine kz_callI (kc := 83) (ks := 1825) (n := 12) (st := [.ref z, .ref h0]) (kz_books (d + 1) (by omega) (by omega) kz_u_s) kz_ok0 kz_m30 rfl (Nat.le_of_ble_eq_true rfl) dX3_init_9 rfl (by omega) ?_
  refine kz_putF (k := 0) (q := (RX3, TX3, 4)) (ty := .object RX0) (n := 15) dX3_init_12 rfl ((yd1_h (G := G) hz).trans h) rfl (Nat.le_of_ble_eq_true rfl) wg_X3_10 rfl rfl rfl (by decide +kernel) rfl rfl (show 0 < 4 by decide) hA ?_
  refine kz_w (show _ = yd2 G w h0 z from rfl) ?_
  refine kz_aload_n (n := 16) dX3_init_15 rfl rfl 0 rfl ?_
  refine kz_new (kc := 82) (ks := 1822) (c0 := 1) (q := (RX1, TX1, 3)) (fs := hyZ) (n := 19) dX3_init_16 rfl rfl tyX1 tyX1_ok kz_cl31 kz_n1 kz_ok1.1.1.2.2.2 hyZ_ok ?_
  refine kz_dup (n := 20) dX3_init_19 rfl rfl ?_
  refine kz_callI (kc := 3) (ks := 70) (n := 23) (st := [.ref (z + 13), .ref h0]) (kz_hist d (by omega) (by omega) kz_u_s) kz_ok1 kz_m31 rfl (Nat.le_of_ble_eq_true rfl) dX3_init_20 rfl (by omega) ?_
  refine kz_putF (k := 1) (q := (RX3, TX3, 4)) (ty := .object RX1) (n := 26) dX3_init_23 rfl (yd4_h (G := G) (w := w) hz) rfl (Nat.le_of_ble_eq_true rfl) wg_X3_19 rfl rfl rfl (by decide +kernel) rfl rfl (show 1 < 4 by decide) hA ?_
  refine kz_w (show _ = yd5 G w h0 z from rfl) ?_
  refine kz_aload_n (n := 27) dX3_init_26 rfl rfl 0 rfl ?_
  refine kz_new (kc := 2) (ks := 64) (c0 := 2) (q := (RX2, TX2, 6)) (fs := txZ) (n := 30) dX3_init_27 rfl rfl tyX2 tyX2_ok kz_cl32 kz_n2 kz_ok2.1.1.2.2.2 txZ_ok ?_
  refine kz_dup (n := 31) dX3_init_30 rfl rfl ?_
  refine kz_callN (kc := 1) (ks := 4) (n := 34) (st := [.ref (z + 93), .ref h0]) (kz_text (d + 1) (by omega) (by omega) kz_u_s) kz_ok2 rfl rfl (Nat.le_of_ble_eq_true rfl) dX3_init_31 rfl (by omega) ?_
  refine kz_putF (k := 2) (q := (RX3, TX3, 4)) (ty := .object RX2) (n := 37) dX3_init_34 rfl (yd7_h (G := G) (w := w) hz) rfl (Nat.le_of_ble_eq_true rfl) wg_X3_26 rfl rfl rfl (by decide +kernel) rfl rfl (show 2 < 4 by decide) hA ?_
  refine kz_w (show _ = yd8 G w h0 z from rfl) ?_
  refine kz_aload_n (n := 38) dX3_init_37 rfl rfl 0 rfl ?_
  refine kz_iconst (v := (4 : Int32)) (n := 39) dX3_init_38 rfl rfl ?_
  refine kz_newi (kc := 0) (ks := 0) (N := 4) (n := 41) dX3_init_39 rfl (by decide) (by decide) (by decide) ?_
  refine kz_putF (k := 3) (q := (RX3, TX3, 4)) (ty := .array .int) (n := 44) dX3_init_41 rfl ((kz_u_n (show h0 ≠ z + 95 by omega)).trans yd8_h) rfl (Nat.le_of_ble_eq_true rfl) wg_X3_30 rfl rfl rfl (by decide +kernel) rfl rfl (show 3 < 4 by decide) hA ?_
  exact kz_ret dX3_init_44 rfl
/-! what lies where -/
theorem yd_h : ydW G w h0 z h0 = some (.inr (3, ydF z)) := kz_u_s
theorem yd1_b {r : Nat} (hr : r < 13) : yd1 G w z (z + r) = some (bkCell G z r) := by
  unfold yd1 bkCell
  by_cases h : r = 0
  · subst h
    rw [if_pos rfl]
    exact bkS_h
  · obtain ⟨k, rfl⟩ : ∃ k, r = k + 1 := ⟨r - 1, by omega⟩
    rw [if_neg h, show z + (k + 1) = z + 1 + k by omega]
    exact bkS_r (by omega) (by omega)
/-- below the text, the yard is as its history left it -/
theorem yd_lo {b : Nat} (h : b ≠ h0) (h93 : b < z + 93) : ydW G w h0 z b = yd4 G w h0 z b := by
  unfold ydW
  rw [kz_u_n h, kz_u_n (by omega)]
  unfold yd8
  rw [kz_u_n h]
  unfold yd7 gS
  rw [if_neg (by omega), if_pos (by omega), kz_u_n (by omega)]
  unfold yd5
  rw [kz_u_n h]
theorem yd_b {r : Nat} (hz : h0 < z) (hr : r < 13) : ydW G w h0 z (z + r) = some (bkCell G z r) := by
  rw [yd_lo (by omega) (by omega)]
  unfold yd4 hsW
  rw [if_neg (by omega), if_pos (by omega), kz_u_n (by omega)]
  unfold yd2
  rw [kz_u_n (by omega)]
  exact yd1_b hr
theorem yd_13 (hz : h0 < z) : ydW G w h0 z (z + 13) = some (.inr (1, hyF (z + 14))) := by
  rw [yd_lo (by omega) (by omega)]
  exact hsW_h
theorem yd_14 (hz : h0 < z) : ydW G w h0 z (z + 14) = some (.inl (G.2.2.2.2.2, 6, .inr (.inr (.inr (.inr (hsR (z + 14) 6)))))) := by
  rw [yd_lo (by omega) (by omega)]
  exact hsW_z (by omega)
theorem yd_r {j r : Nat} (hz : h0 < z) (hj : j < 6) (hr : r < 13) : ydW G w h0 z (z + 15 + 13 * j + r) = some (bkCell G (z + 15 + 13 * j) r) := by
  rw [yd_lo (by omega) (by omega)]
  unfold yd4 hsW
  rw [if_neg (by omega), if_neg (by omega), if_neg (by omega), if_pos (by omega), show (z + 15 + 13 * j + r - (z + 14 + 1)) / 13 = j by omega, show (z + 15 + 13 * j + r - (z + 14 + 1)) % 13 = r by omega]
theorem yd_93 (hz : h0 < z) : ydW G w h0 z (z + 93) = some (.inr (2, txF (z + 94))) := by
  unfold ydW
  rw [kz_u_n (by omega), kz_u_n (by omega)]
  unfold yd8
  rw [kz_u_n (by omega)]
  exact gS_h
theorem yd_94 (hz : h0 < z) : ydW G w h0 z (z + 94) = some (.inl (G.2.2.2.1, 60, .inl fun _ => 0)) := by
  unfold ydW
  rw [kz_u_n (by omega), kz_u_n (by omega)]
  unfold yd8
  rw [kz_u_n (by omega)]
  exact gS_r (r := 0) (by omega) (by omega)
theorem yd_95 (hz : h0 < z) : ydW G w h0 z (z + 95) = some (.inl (G.2.2.2.1, 4, .inl fun _ => 0)) := by
  unfold ydW
  rw [kz_u_n (by omega)]
  exact kz_u_s
end KZyard
