/-! ===== the constructors: OrderText, the model ===== -/
section KZmodel
variable {G : kz_G} {w : kz_W} {z h0 ci : Nat} {ln : Nat → Nat}
/-- an object under way: k rows made -/
def gS (G : kz_G) (w : kz_W) (h0 z k ci : Nat) (fs : List Value) (ln : Nat → Nat) (ar : Nat → Nat → Int32) : kz_W := fun b => if b = h0 then some (.inr (ci, fs)) else if b < z then w b else if b < z + k then some (.inl (G.2.2.2.1, ln (b - z), .inl (ar (b - z)))) else w b
theorem gS_0 {fs : List Value} {ar : Nat → Nat → Int32} (h : w h0 = some (.inr (ci, fs))) : w = gS G w h0 z 0 ci fs ln ar := by
  funext b
  unfold gS
  by_cases h1 : b = h0
  · rw [if_pos h1, h1, h]
  · rw [if_neg h1]
    by_cases h2 : b < z
    · rw [if_pos h2]
    · rw [if_neg h2, if_neg (by omega)]
theorem gS_h {k : Nat} {fs : List Value} {ar : Nat → Nat → Int32} : gS G w h0 z k ci fs ln ar h0 = some (.inr (ci, fs)) := if_pos rfl
theorem gS_r {k r : Nat} {fs : List Value} {ar : Nat → Nat → Int32} (hz : h0 < z) (hr : r < k) : gS G w h0 z k ci fs ln ar (z + r) = some (.inl (G.2.2.2.1, ln r, .inl (ar r))) := by
  unfold gS
  rw [if_neg (by omega), if_neg (by omega), if_pos (by omega), Nat.add_sub_cancel_left]
theorem gS_s {k N : Nat} {fs fs' : List Value} {ar : Nat → Nat → Int32} {f : Nat → Int32} (hz : h0 < z) (hN : ln k = N) (hf : ar k = f) : kz_u (kz_u (gS G w h0 z k ci fs ln ar) (z + k) (.inl (G.2.2.2.1, N, .inl f))) h0 (.inr (ci, fs')) = gS G w h0 z (k + 1) ci fs' ln ar := by
  subst hN
  subst hf
  funext b
  unfold kz_u gS
  by_cases h1 : b = h0
  · rw [if_pos h1, if_pos h1]
  · rw [if_neg h1, if_neg h1, if_neg h1]
    by_cases h2 : b = z + k
    · rw [if_pos h2, if_neg (show ¬ b < z by omega), if_pos (show b < z + (k + 1) by omega), h2, Nat.add_sub_cancel_left]
    · rw [if_neg h2]
      by_cases h3 : b < z
      · rw [if_pos h3, if_pos h3]
      · rw [if_neg h3, if_neg h3]
        by_cases h4 : b < z + k
        · rw [if_pos h4, if_pos (by omega)]
        · rw [if_neg h4, if_neg (by omega)]
theorem gS_f {k r : Nat} {fs : List Value} {ar : Nat → Nat → Int32} {f : Nat → Int32} (hz : h0 < z) (hr : r < k) : kz_u (gS G w h0 z k ci fs ln ar) (z + r) (.inl (G.2.2.2.1, ln r, .inl f)) = gS G w h0 z k ci fs ln (fun a => if a = r then f else ar a) := by
  funext b
  unfold kz_u gS
  dsimp only
  by_cases h2 : b = z + r
  · rw [if_pos h2, if_neg (show ¬ b = h0 by omega), if_neg (show ¬ b < z by omega), if_pos (show b < z + k by omega), h2, Nat.add_sub_cancel_left, if_pos rfl]
  · rw [if_neg h2]
    by_cases h1 : b = h0
    · rw [if_pos h1, if_pos h1]
    · rw [if_neg h1, if_neg h1]
      by_cases h3 : b < z
      · rw [if_pos h3, if_pos h3]
      · rw [if_neg h3, if_neg h3]
        by_cases h4 : b < z + k
        · rw [if_pos h4, if_pos h4, if_neg (show ¬ b - z = r by omega)]
        · rw [if_neg h4, if_neg h4]
def mdL (r : Nat) : Nat := if r = 0 then 283 else if r = 1 then 1698 else if r = 2 then 60 else if r = 3 then 66 else 4
def mdA0 : Nat → Nat → Int32 := fun _ _ => 0
def mdA : Nat → Nat → Int32 := fun a => if a = 0 then upd (upd (fun _ => 0) 0 14) 1 3 else fun _ => 0
def mdZ : List Value := [.null, .int 0, .null, .int 0, .null, .int 0, .null, .int 0, .int 0, .int 0, .null, .long 0]
def mdF (z : Nat) : List Value := [.ref (z + 0), .int 0, .ref (z + 1), .int 0, .ref (z + 2), .int 0, .ref (z + 3), .int 0, .int 0, .int 0, .ref (z + 4), .long 0]
def txZ : List Value := [.null, .int 0, .int 0, .int 0, .int 0, .int 0]
def txF (z : Nat) : List Value := [.ref (z + 0), .int 0, .int 0, .int 0, .int 0, .int 0]
theorem kz_text (d : Nat) (hz : h0 < z) (hA : G.2.1 ≤ h0) (h : w h0 = some (.inr (2, txZ))) : kz_K G mX2_init (d + 1) 1 60 [.ref h0] w z (gS G w h0 z 1 2 (txF z) (fun _ => 60) mdA0) (z + 1) := by
  refine kz_enter rfl (by decide +kernel) (Nat.le_of_ble_eq_true rfl) (lv := [(0, .ref h0)]) rfl ?_
  refine kz_aload_n (n := 1) dX2_init_0 rfl rfl 0 rfl ?_
  refine kz_obj (n := 4) dX2_init_1 rfl kz_o2 (by decide) ?_
  refine kz_w (gS_0 (G := G) (z := z) (ln := fun _ => 60) (ar := mdA0) h) ?_
  refine kz_aload_n (n := 5) dX2_init_4 rfl rfl 0 rfl ?_
  refine kz_bipush (v := (60 : Int32)) (n := 7) dX2_init_5 rfl rfl ?_
  refine kz_newi (kc := 0) (ks := 0) (N := 60) (n := 9) dX2_init_7 rfl (by decide) (by decide) (by decide) ?_
  refine kz_putF (k := 0) (q := (RX2, TX2, 6)) (ty := .array .int) (n := 12) dX2_init_9 rfl ((kz_u_n (show h0 ≠ z + 0 by omega)).trans gS_h) rfl (Nat.le_of_ble_eq_true rfl) wg_X2_9 rfl rfl rfl (by decide +kernel) rfl rfl (show 0 < 6 by decide) hA ?_
  refine kz_w (show _ = gS G w h0 z (0 + 1) 2 (txF z) (fun _ => 60) mdA0 from gS_s hz rfl rfl) ?_
  exact kz_ret dX2_init_12 rfl
theorem kz_model (d : Nat) (hz : h0 < z) (hA : G.2.1 ≤ h0) (h : w h0 = some (.inr (4, mdZ))) : kz_K G mX4_init (d + 1) 5 2111 [.ref h0] w z (gS G w h0 z 5 4 (mdF z) mdL mdA) (z + 5) := by
  refine kz_enter rfl (by decide +kernel) (Nat.le_of_ble_eq_true rfl) (lv := [(0, .ref h0)]) rfl ?_
  refine kz_aload_n (n := 1) dX4_init_0 rfl rfl 0 rfl ?_
  refine kz_obj (n := 4) dX4_init_1 rfl kz_o4 (by decide) ?_
  refine kz_w (gS_0 (G := G) (z := z) (ln := mdL) (ar := mdA0) h) ?_
  refine kz_aload_n (n := 5) dX4_init_4 rfl rfl 0 rfl ?_
  refine kz_sipush (v := (283 : Int32)) (n := 8) dX4_init_5 rfl rfl ?_
  refine kz_newi (kc := 4) (ks := 1828) (N := 283) (n := 10) dX4_init_8 rfl (by decide) (by decide) (by decide) ?_
  refine kz_putF (k := 0) (q := (RX4, TX4, 12)) (ty := .array .int) (n := 13) dX4_init_10 rfl ((kz_u_n (show h0 ≠ z + 0 by omega)).trans gS_h) rfl (Nat.le_of_ble_eq_true rfl) wg_X4_7 rfl rfl rfl (by decide +kernel) rfl rfl (show 0 < 12 by decide) hA ?_
  refine kz_w (show _ = gS G w h0 z (0 + 1) 4 [.ref (z + 0), .int 0, .null, .int 0, .null, .int 0, .null, .int 0, .int 0, .int 0, .null, .long 0] mdL mdA0 from gS_s hz rfl rfl) ?_
  refine kz_aload_n (n := 14) dX4_init_13 rfl rfl 0 rfl ?_
  refine kz_sipush (v := (1698 : Int32)) (n := 17) dX4_init_14 rfl rfl ?_
  refine kz_newi (kc := 3) (ks := 130) (N := 1698) (n := 19) dX4_init_17 rfl (by decide) (by decide) (by decide) ?_
  refine kz_putF (k := 2) (q := (RX4, TX4, 12)) (ty := .array .int) (n := 22) dX4_init_19 rfl ((kz_u_n (show h0 ≠ z + 1 by omega)).trans gS_h) rfl (Nat.le_of_ble_eq_true rfl) wg_X4_13 rfl rfl rfl (by decide +kernel) rfl rfl (show 2 < 12 by decide) hA ?_
  refine kz_w (show _ = gS G w h0 z (1 + 1) 4 [.ref (z + 0), .int 0, .ref (z + 1), .int 0, .null, .int 0, .null, .int 0, .int 0, .int 0, .null, .long 0] mdL mdA0 from gS_s hz rfl rfl) ?_
  refine kz_aload_n (n := 23) dX4_init_22 rfl rfl 0 rfl ?_
  refine kz_bipush (v := (60 : Int32)) (n := 25) dX4_init_23 rfl rfl ?_
  refine kz_newi (kc := 2) (ks := 70) (N := 60) (n := 27) dX4_init_25 rfl (by decide) (by decide) (by decide) ?_
  refine kz_putF (k := 4) (q := (RX4, TX4, 12)) (ty := .array .int) (n := 30) dX4_init_27 rfl ((kz_u_n (show h0 ≠ z + 2 by omega)).trans gS_h) rfl (Nat.le_of_ble_eq_true rfl) wg_X4_16 rfl rfl rfl (by decide +kernel) rfl rfl (show 4 < 12 by decide) hA ?_
  refine kz_w (show _ = gS G w h0 z (2 + 1) 4 [.ref (z + 0), .int 0, .ref (z + 1), .int 0, .ref (z + 2), .int 0, .null, .int 0, .int 0, .int 0, .null, .long 0] mdL mdA0 from gS_s hz rfl rfl) ?_
  refine kz_aload_n (n := 31) dX4_init_30 rfl rfl 0 rfl ?_
  refine kz_bipush (v := (66 : Int32)) (n := 33) dX4_init_31 rfl rfl ?_
  refine kz_newi (kc := 1) (ks := 4) (N := 66) (n := 35) dX4_init_33 rfl (by decide) (by decide) (by decide) ?_
  refine kz_putF (k := 6) (q := (RX4, TX4, 12)) (ty := .array .int) (n := 38) dX4_init_35 rfl ((kz_u_n (show h0 ≠ z + 3 by omega)).trans gS_h) rfl (Nat.le_of_ble_eq_true rfl) wg_X4_19 rfl rfl rfl (by decide +kernel) rfl rfl (show 6 < 12 by decide) hA ?_
  refine kz_w (show _ = gS G w h0 z (3 + 1) 4 [.ref (z + 0), .int 0, .ref (z + 1), .int 0, .ref (z + 2), .int 0, .ref (z + 3), .int 0, .int 0, .int 0, .null, .long 0] mdL mdA0 from gS_s hz rfl rfl) ?_
  refine kz_aload_n (n := 39) dX4_init_38 rfl rfl 0 rfl ?_
  refine kz_iconst (v := (4 : Int32)) (n := 40) dX4_init_39 rfl rfl ?_
  refine kz_newi (kc := 0) (ks := 0) (N := 4) (n := 42) dX4_init_40 rfl (by decide) (by decide) (by decide) ?_
  refine kz_putF (k := 10) (q := (RX4, TX4, 12)) (ty := .array .int) (n := 45) dX4_init_42 rfl ((kz_u_n (show h0 ≠ z + 4 by omega)).trans gS_h) rfl (Nat.le_of_ble_eq_true rfl) wg_X4_22 rfl rfl rfl (by decide +kernel) rfl rfl (show 10 < 12 by decide) hA ?_
  refine kz_w (show _ = gS G w h0 z (4 + 1) 4 [.ref (z + 0), .int 0, .ref (z + 1), .int 0, .ref (z + 2), .int 0, .ref (z + 3), .int 0, .int 0, .int 0, .ref (z + 4), .long 0] mdL mdA0 from gS_s hz rfl rfl) ?_
  refine kz_aload_n (n := 46) dX4_init_45 rfl rfl 0 rfl ?_
  refine kz_getf (k := 0) (q := (RX4, TX4, 12)) (v := .ref (z + 0)) (n := 49) dX4_init_46 rfl gS_h rfl (Nat.le_of_ble_eq_true rfl) wg_X4_7 rfl ?_
  refine kz_iconst (v := (0 : Int32)) (n := 50) dX4_init_49 rfl rfl ?_
  refine kz_bipush (v := (14 : Int32)) (n := 52) dX4_init_50 rfl rfl ?_
  refine kz_iast (n := 53) dX4_init_52 rfl (gS_r hz (by decide)) (by unfold vp_in mdL; decide) (by omega) ?_
  refine kz_w (gS_f hz (by decide)) ?_
  refine kz_aload_n (n := 54) dX4_init_53 rfl rfl 0 rfl ?_
  refine kz_getf (k := 0) (q := (RX4, TX4, 12)) (v := .ref (z + 0)) (n := 57) dX4_init_54 rfl gS_h rfl (Nat.le_of_ble_eq_true rfl) wg_X4_7 rfl ?_
  refine kz_iconst (v := (1 : Int32)) (n := 58) dX4_init_57 rfl rfl ?_
  refine kz_iconst (v := (3 : Int32)) (n := 59) dX4_init_58 rfl rfl ?_
  refine kz_iast (n := 60) dX4_init_59 rfl (gS_r hz (by decide)) (by unfold vp_in mdL; decide) (by omega) ?_
  refine kz_w (gS_f hz (by decide)) ?_
  refine kz_w (show _ = gS G w h0 z 5 4 (mdF z) mdL mdA from ?_) (kz_ret dX4_init_60 rfl)
  congr 1
  funext a
  unfold mdA mdA0
  by_cases h0 : a = 0
  · rw [if_pos h0, if_pos h0]
    rfl
  · rw [if_neg h0, if_neg h0, if_neg h0]
end KZmodel
