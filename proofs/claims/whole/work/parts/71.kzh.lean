/-! ===== the constructors: History ===== -/
section KZhist
variable {G : kz_G} {w : kz_W} {z h0 : Nat}
def hyZ : List Value := [.null, .int 0, .int 0]
def hyF (z : Nat) : List Value := [.ref z, .int 0, .int 0]
def hsR (z i : Nat) : Nat → Option Nat := fun j => if j < i then some (z + 1 + 13 * j) else none
/-- a cell of the book at a -/
def bkCell (G : kz_G) (a r : Nat) : va_E := if r = 0 then .inr (0, bkF (a + 1)) else .inl (G.2.2.2.1, pLn r, .inl (bkA r))
def hsW (G : kz_G) (w : kz_W) (h0 z i : Nat) : kz_W := fun b => if b = h0 then some (.inr (1, hyF z)) else if b < z then w b else if b = z then some (.inl (G.2.2.2.2.2, 6, .inr (.inr (.inr (.inr (hsR z i)))))) else if b < z + 1 + 13 * i then some (bkCell G (z + 1 + 13 * ((b - (z + 1)) / 13)) ((b - (z + 1)) % 13)) else w b
theorem hsW_0 (hz : h0 < z) : kz_u (kz_u w z (.inl (G.2.2.2.2.2, 6, .inr (.inr (.inr (.inr (fun _ => none))))))) h0 (.inr (1, hyF z)) = hsW G w h0 z 0 := by
  funext b
  unfold kz_u hsW
  by_cases h1 : b = h0
  · rw [if_pos h1, if_pos h1]
  · rw [if_neg h1, if_neg h1]
    by_cases h2 : b = z
    · rw [if_pos h2, if_neg (show ¬ b < z by omega), if_pos h2]
      rfl
    · rw [if_neg h2, if_neg h2]
      by_cases h3 : b < z
      · rw [if_pos h3]
      · rw [if_neg h3, if_neg (by omega)]
theorem hsR_s {i : Nat} : va_up (hsR z i) i (some (z + 1 + 13 * i)) = hsR z (i + 1) := by
  funext j
  unfold va_up hsR
  by_cases hj : j = i
  · rw [if_pos hj, if_pos (by omega), hj]
  · rw [if_neg hj]
    by_cases hj2 : j < i
    · rw [if_pos hj2, if_pos (by omega)]
    · rw [if_neg hj2, if_neg (by omega)]
theorem hsW_s {i : Nat} {e : va_E} (hz : h0 < z) : kz_u (bkS G (kz_u (hsW G w h0 z i) (z + 1 + 13 * i) e) (z + 1 + 13 * i) (z + 1 + 13 * i + 1) 12 (bkF (z + 1 + 13 * i + 1)) bkA) z (.inl (G.2.2.2.2.2, 6, .inr (.inr (.inr (.inr (va_up (hsR z i) i (some (z + 1 + 13 * i)))))))) = hsW G w h0 z (i + 1) := by
  funext b
  unfold kz_u
  by_cases h1 : b = z
  · rw [if_pos h1]
    unfold hsW
    rw [if_neg (show ¬ b = h0 by omega), if_neg (show ¬ b < z by omega), if_pos h1]
    rw [hsR_s]
  · rw [if_neg h1]
    unfold bkS
    by_cases h2 : b = z + 1 + 13 * i
    · rw [if_pos h2]
      unfold hsW
      rw [if_neg (show ¬ b = h0 by omega), if_neg (show ¬ b < z by omega), if_neg h1, if_pos (show b < z + 1 + 13 * (i + 1) by omega), show (b - (z + 1)) / 13 = i by omega, show (b - (z + 1)) % 13 = 0 by omega]
      rfl
    · rw [if_neg h2]
      by_cases h3 : b < z + 1 + 13 * i + 1
      · rw [if_pos h3]
        dsimp only
        rw [if_neg h2]
        unfold hsW
        by_cases h4 : b = h0
        · rw [if_pos h4, if_pos h4]
        · rw [if_neg h4, if_neg h4]
          by_cases h5 : b < z
          · rw [if_pos h5, if_pos h5]
          · rw [if_neg h5, if_neg h5, if_neg h1, if_neg h1, if_pos (show b < z + 1 + 13 * i by omega), if_pos (show b < z + 1 + 13 * (i + 1) by omega)]
      · rw [if_neg h3]
        by_cases h4 : b < z + 1 + 13 * i + 1 + 12
        · rw [if_pos h4]
          unfold hsW
          rw [if_neg (show ¬ b = h0 by omega), if_neg (show ¬ b < z by omega), if_neg h1, if_pos (show b < z + 1 + 13 * (i + 1) by omega), show (b - (z + 1)) / 13 = i by omega]
          unfold bkCell
          rw [if_neg (show ¬ (b - (z + 1)) % 13 = 0 by omega), show (b - (z + 1)) % 13 = b - (z + 1 + 13 * i + 1) + 1 by omega]
        · rw [if_neg h4]
          dsimp only
          rw [if_neg h2]
          unfold hsW
          rw [if_neg (show ¬ b = h0 by omega), if_neg (show ¬ b = h0 by omega), if_neg (show ¬ b < z by omega), if_neg (show ¬ b < z by omega), if_neg h1, if_neg h1, if_neg (show ¬ b < z + 1 + 13 * i by omega), if_neg (show ¬ b < z + 1 + 13 * (i + 1) by omega)]
theorem hsW_h {i : Nat} : hsW G w h0 z i h0 = some (.inr (1, hyF z)) := if_pos rfl
theorem hsW_z {i : Nat} (hz : h0 < z) : hsW G w h0 z i z = some (.inl (G.2.2.2.2.2, 6, .inr (.inr (.inr (.inr (hsR z i)))))) := by
  unfold hsW
  rw [if_neg (by omega), if_neg (by omega), if_pos rfl]
theorem bkZ_ok : ∀ j, j < 17 → defaultValue (tyX0 j) = vp_V bkZ j := by decide +kernel
theorem hist_L (d : Nat) (hz : h0 < z) (hA : G.2.1 ≤ h0) : ∀ (m i : Nat), i + m = 6 → kz_T G mX1_init (d + 2) (13 * m) (291 * m) 15 [(1, .int (nI i)), (0, .ref h0)] [] (hsW G w h0 z i) (z + 1 + 13 * i) (kz_F G (hsW G w h0 z 6) (z + 79)) := by
  intro m
  induction m with
  | zero =>
    intro i hi
    have : i = 6 := by omega
    subst this
    refine kz_iload_n (n := 16) dX1_init_15 rfl rfl 0 rfl ?_
    refine kz_aload_n (n := 17) dX1_init_16 rfl rfl 1 rfl ?_
    refine kz_getf (k := 0) (q := (RX1, TX1, 3)) (v := .ref z) (n := 20) dX1_init_17 rfl hsW_h rfl (Nat.le_of_ble_eq_true rfl) wg_X1_11 rfl ?_
    refine kz_alenq (n := 21) dX1_init_20 rfl (hsW_z hz) ?_
    refine kz_icmp_ge (n := 24) (tgt := 43) dX1_init_21 rfl rfl (fun _ => kz_ret dX1_init_43 rfl) (fun h => absurd (nI_le (Nat.le_refl _) (by omega)) h)
  | succ m ih =>
    intro i hi
    rw [show 13 * (m + 1) = (13 * m + 12) + 1 by omega, show 291 * (m + 1) = (291 * m + 274) + (RX0, TX0, 17).2.2 from (by show 291 * (m + 1) = (291 * m + 274) + 17; omega)]
    refine kz_iload_n (n := 16) dX1_init_15 rfl rfl 0 rfl ?_
    refine kz_aload_n (n := 17) dX1_init_16 rfl rfl 1 rfl ?_
    refine kz_getf (k := 0) (q := (RX1, TX1, 3)) (v := .ref z) (n := 20) dX1_init_17 rfl hsW_h rfl (Nat.le_of_ble_eq_true rfl) wg_X1_11 rfl ?_
    refine kz_alenq (n := 21) dX1_init_20 rfl (hsW_z hz) ?_
    refine kz_icmp_ge (n := 24) (tgt := 43) dX1_init_21 rfl rfl (fun h => absurd h (nI_ge (by omega) (by omega))) (fun _ => ?_)
    refine kz_aload_n (n := 25) dX1_init_24 rfl rfl 1 rfl ?_
    refine kz_getf (k := 0) (q := (RX1, TX1, 3)) (v := .ref z) (n := 28) dX1_init_25 rfl hsW_h rfl (Nat.le_of_ble_eq_true rfl) wg_X1_11 rfl ?_
    refine kz_iload_n (n := 29) dX1_init_28 rfl rfl 0 rfl ?_
    refine kz_new (c0 := 0) (q := (RX0, TX0, 17)) (fs := bkZ) (n := 32) dX1_init_29 rfl rfl tyX0 tyX0_ok kz_cl10 kz_n0 kz_ok0.1.1.2.2.2 bkZ_ok ?_
    refine kz_dup (n := 33) dX1_init_32 rfl rfl ?_
    refine kz_callI (n := 36) (st := [.ref (z + 1 + 13 * i), .int (nI i), .ref z]) (kz_books d (by omega) (by omega) kz_u_s) kz_ok0 kz_m10 rfl (Nat.le_of_ble_eq_true rfl) dX1_init_33 rfl (by omega) ?_
    refine kz_aast (f := hsR z i) (n := 37) dX1_init_36 rfl (show bkS G (kz_u (hsW G w h0 z i) (z + 1 + 13 * i) (.inr (0, bkZ))) (z + 1 + 13 * i) (z + 1 + 13 * i + 1) 12 (bkF (z + 1 + 13 * i + 1)) bkA z = some (.inl (G.2.2.2.2.2, 6, .inr (.inr (.inr (.inr (hsR z i)))))) from ?_) bkS_h (nI_in (show i < 6 by omega) (by omega)) (by omega) ?_
    · unfold bkS
      rw [if_neg (by omega), if_pos (by omega), kz_u_n (by omega)]
      exact hsW_z hz
    · rw [nI_clamp (show i < 2 ^ 31 by omega)]
      refine kz_w (hsW_s hz) ?_
      refine kz_iinc (n := 40) (v := nI (i + 1)) (lv' := [(1, .int (nI (i + 1))), (0, .ref h0)]) dX1_init_37 rfl 0 rfl (nI_1 i) (by decide) rfl ?_
      refine kz_goto (tgt := 15) dX1_init_40 rfl ?_
      rw [show z + 1 + 13 * i + 1 + 12 = z + 1 + 13 * (i + 1) by omega]
      exact ih (i + 1) (by omega)
theorem kz_hist (d : Nat) (hz : h0 < z) (hA : G.2.1 ≤ h0) (h : w h0 = some (.inr (1, hyZ))) : kz_K G mX1_init (d + 2) 79 1752 [.ref h0] w z (hsW G w h0 z 6) (z + 79) := by
  refine kz_enter rfl (by decide +kernel) (Nat.le_of_ble_eq_true rfl) (lv := [(0, .ref h0)]) rfl ?_
  refine kz_aload_n (n := 1) dX1_init_0 rfl rfl 0 rfl ?_
  refine kz_obj (n := 4) dX1_init_1 rfl kz_o1 (by decide) ?_
  refine kz_aload_n (n := 5) dX1_init_4 rfl rfl 0 rfl ?_
  refine kz_bipush (v := (6 : Int32)) (n := 7) dX1_init_5 rfl rfl ?_
  refine kz_newq (kc := 78) (ks := 1746) (N := 6) (n := 10) dX1_init_7 rfl kz_cl10 (by decide) (by decide) (by decide) ?_
  refine kz_putF (k := 0) (q := (RX1, TX1, 3)) (ty := .array (.object RX0)) (n := 13) dX1_init_10 rfl ((kz_u_n (show h0 ≠ z by omega)).trans h) rfl (Nat.le_of_ble_eq_true rfl) wg_X1_11 rfl rfl rfl (by decide +kernel) rfl rfl (show 0 < 3 by decide) hA ?_
  refine kz_w (show _ = hsW G w h0 z 0 from hsW_0 hz) ?_
  refine kz_iconst (v := 0) (n := 14) dX1_init_13 rfl rfl ?_
  refine kz_istore_n (lv' := [(1, .int 0), (0, .ref h0)]) (n := 15) dX1_init_14 rfl rfl (by decide) rfl ?_
  exact hist_L d hz hA 6 0 rfl
end KZhist
