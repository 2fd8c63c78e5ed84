/-! ===== the law, from its entry to its loop ===== -/
section KZlaw
variable {G : kz_G} {b0 : Nat} {F : kz_O}
def lwA (G : kz_G) (z : Nat) : kz_W := ydW G (kz_u (fun _ => none) z (.inr (3, ydZ))) z (z + 1)
def lwB (G : kz_G) (z : Nat) : kz_W := gS G (kz_u (lwA G z) (z + 97) (.inr (4, mdZ))) (z + 97) (z + 98) 5 4 (mdF (z + 98)) mdL mdA
/-- the world at the loop's head -/
def lwW (G : kz_G) (z : Nat) : kz_W := kz_u (lwB G z) (z + 103) (.inl (G.2.2.2.2.1, 1, .inr (.inl fun _ => 0)))
theorem law_entry (d : Nat) (hk : kz_T G mL_law (d + 4) 2570 15420 23 [(0, .ref b0), (1, .ref G.2.1), (2, .ref (G.2.1 + 97)), (3, .ref (G.2.1 + 103)), (4, .int 0)] [] (lwW G G.2.1) (G.2.1 + 104) F) : kz_T G mL_law (d + 4) 2674 19664 0 [(0, .ref b0)] [] (fun _ => none) G.2.1 F := by
  refine kz_new (kc := 2673) (ks := 19660) (c0 := 3) (q := (RX3, TX3, 4)) (fs := ydZ) (n := 3) dL_law_0 rfl rfl tyX3 tyX3_ok kz_clL3 kz_n3 kz_ok3.1.1.2.2.2 ydZ_ok ?_
  refine kz_dup (n := 4) dL_law_3 rfl rfl ?_
  refine kz_callI (kc := 2577) (ks := 17544) (n := 7) (st := [.ref G.2.1]) (kz_yard d (by omega) (Nat.le_refl _) kz_u_s) kz_ok3 kz_mL3 rfl (Nat.le_of_ble_eq_true rfl) dL_law_4 rfl (by omega) ?_
  refine kz_w (show _ = lwA G G.2.1 from rfl) ?_
  refine kz_astore_n (lv' := [(1, .ref G.2.1), (0, .ref b0)]) (n := 8) dL_law_7 rfl rfl (by decide) rfl ?_
  refine kz_new (kc := 2576) (ks := 17532) (c0 := 4) (q := (RX4, TX4, 12)) (fs := mdZ) (n := 11) dL_law_8 rfl rfl tyX4 tyX4_ok kz_clL4 kz_n4 kz_ok4.1.1.2.2.2 mdZ_ok ?_
  refine kz_dup (n := 12) dL_law_11 rfl rfl ?_
  refine kz_callI (kc := 2571) (ks := 15421) (n := 15) (st := [.ref (G.2.1 + 97)]) (kz_model (d + 2) (by omega) (by omega) kz_u_s) kz_ok4 kz_mL4 rfl (Nat.le_of_ble_eq_true rfl) dL_law_12 rfl (by omega) ?_
  refine kz_w (show _ = lwB G G.2.1 from rfl) ?_
  refine kz_astore_n (lv' := [(2, .ref (G.2.1 + 97)), (1, .ref G.2.1), (0, .ref b0)]) (n := 16) dL_law_15 rfl rfl (by decide) rfl ?_
  refine kz_iconst (v := (1 : Int32)) (n := 17) dL_law_16 rfl rfl ?_
  refine kz_newl (kc := 2570) (ks := 15420) (N := 1) (n := 19) dL_law_17 rfl (by decide) (by decide) (by decide) ?_
  refine kz_w (show _ = lwW G G.2.1 from rfl) ?_
  refine kz_astore_n (lv' := [(3, .ref (G.2.1 + 103)), (2, .ref (G.2.1 + 97)), (1, .ref G.2.1), (0, .ref b0)]) (n := 20) dL_law_19 rfl rfl (by decide) rfl ?_
  refine kz_iconst (v := (0 : Int32)) (n := 21) dL_law_20 rfl rfl ?_
  refine kz_istore (lv' := [(4, .int 0), (3, .ref (G.2.1 + 103)), (2, .ref (G.2.1 + 97)), (1, .ref G.2.1), (0, .ref b0)]) (n := 23) dL_law_21 rfl (by decide) rfl ?_
  refine kz_sub (lv' := [(0, .ref b0), (1, .ref G.2.1), (2, .ref (G.2.1 + 97)), (3, .ref (G.2.1 + 103)), (4, .int 0)]) [4, 3, 2, 1, 0] rfl ?_
  exact hk
/-! what lies where -/
variable {z : Nat}
theorem lw_lo {b : Nat} (h : b < z + 97) : lwW G z b = lwA G z b := by
  unfold lwW
  rw [kz_u_n (by omega)]
  unfold lwB gS
  rw [if_neg (by omega), if_pos (by omega), kz_u_n (by omega)]
theorem lw_0 : lwW G z z = some (.inr (3, ydF (z + 1))) := (lw_lo (by omega)).trans yd_h
theorem lw_b {r : Nat} (hr : r < 13) : lwW G z (z + 1 + r) = some (bkCell G (z + 1) r) := (lw_lo (by omega)).trans (yd_b (by omega) hr)
theorem lw_14 : lwW G z (z + 14) = some (.inr (1, hyF (z + 15))) := (lw_lo (by omega)).trans ((congrArg _ (show z + 14 = z + 1 + 13 by omega)).trans (yd_13 (by omega)))
theorem lw_15 : lwW G z (z + 15) = some (.inl (G.2.2.2.2.2, 6, .inr (.inr (.inr (.inr (hsR (z + 15) 6)))))) := (lw_lo (by omega)).trans ((congrArg _ (show z + 15 = z + 1 + 14 by omega)).trans (yd_14 (by omega)))
theorem lw_r {j r : Nat} (hj : j < 6) (hr : r < 13) : lwW G z (z + 16 + 13 * j + r) = some (bkCell G (z + 16 + 13 * j) r) := by
  have := yd_r (G := G) (w := kz_u (fun _ => none) z (.inr (3, ydZ))) (z := z + 1) (h0 := z) (by omega) hj hr
  rw [show z + 1 + 15 = z + 16 by omega] at this
  exact (lw_lo (by omega)).trans this
theorem lw_94 : lwW G z (z + 94) = some (.inr (2, txF (z + 95))) := (lw_lo (by omega)).trans ((congrArg _ (show z + 94 = z + 1 + 93 by omega)).trans (yd_93 (by omega)))
theorem lw_95 : lwW G z (z + 95) = some (.inl (G.2.2.2.1, 60, .inl fun _ => 0)) := (lw_lo (by omega)).trans ((congrArg _ (show z + 95 = z + 1 + 94 by omega)).trans (yd_94 (by omega)))
theorem lw_96 : lwW G z (z + 96) = some (.inl (G.2.2.2.1, 4, .inl fun _ => 0)) := (lw_lo (by omega)).trans ((congrArg _ (show z + 96 = z + 1 + 95 by omega)).trans (yd_95 (by omega)))
theorem lw_97 : lwW G z (z + 97) = some (.inr (4, mdF (z + 98))) := by
  unfold lwW
  rw [kz_u_n (by omega)]
  exact gS_h
theorem lw_m {r : Nat} (hr : r < 5) : lwW G z (z + 98 + r) = some (.inl (G.2.2.2.1, mdL r, .inl (mdA r))) := by
  unfold lwW
  rw [kz_u_n (by omega)]
  exact gS_r (by omega) hr
theorem lw_103 : lwW G z (z + 103) = some (.inl (G.2.2.2.2.1, 1, .inr (.inl fun _ => 0))) := kz_u_s
end KZlaw
