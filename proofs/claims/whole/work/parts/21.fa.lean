def fX3_copy (k : Nat) (t : Nat) (σ : ky_St) : Option (Unit × ky_St) :=
  (ky_la k).bind fun n1 =>
  (ky_la t).bind fun n3 =>
  ky_bn (if (Int32.ofNat n3) < (Int32.ofNat n1) then (Int32.ofNat n3) else (Int32.ofNat n1)) fun v5 =>
  (ky_la k).bind fun n6 =>
  (ky_la t).bind fun n7 =>
  ky_g ((ky_ro k = false ∧ ky_ro t = false) ∧ (¬ v5 < 0 ∧ v5.toNatClampNeg ≤ n6 ∧ v5.toNatClampNeg ≤ n7)) (
  ky_bn (ky_uR σ t (va_cpy (σ.1 k) (σ.1 t) 0 0 v5.toNatClampNeg)) fun s11 =>
  some ((), s11))
set_option maxHeartbeats 4000000 in
set_option maxRecDepth 100000 in
theorem KX3_copy {G : ky_G} (d : Nat) (k : Nat) (t : Nat) (σ : ky_St) (r : Unit) (σ' : ky_St) (hf : fX3_copy k t σ = some (r, σ')) : ky_K G mX3_copy (d + 1) 0 0 [ky_r G k, ky_r G t] σ (.inr none) σ' := by
  unfold fX3_copy at hf
  refine ky_enter rfl (by decide +kernel) (Nat.le_of_ble_eq_true rfl) (lv := [(0, ky_r G k), (1, ky_r G t)]) rfl ?_
  refine ky_aload_n (n := 1) dX3_copy_0 rfl rfl 0 rfl ?_
  refine ky_ifnull (n := 4) dX3_copy_1 rfl ?_
  refine ky_aload_n (n := 5) dX3_copy_4 rfl rfl 1 rfl ?_
  refine ky_ifnull (n := 8) dX3_copy_5 rfl ?_
  refine ky_aload_n (n := 9) dX3_copy_8 rfl rfl 0 rfl ?_
  refine ky_iconst (v := (0 : Int32)) (n := 10) dX3_copy_9 rfl rfl ?_
  refine ky_aload_n (n := 11) dX3_copy_10 rfl rfl 1 rfl ?_
  refine ky_iconst (v := (0 : Int32)) (n := 12) dX3_copy_11 rfl rfl ?_
  refine ky_aload_n (n := 13) dX3_copy_12 rfl rfl 0 rfl ?_
  obtain ⟨n1, g2, hf⟩ := ky_ob_e hf
  refine ky_alen (n := 14) dX3_copy_13 rfl (ky_la_len g2) ?_
  refine ky_aload_n (n := 15) dX3_copy_14 rfl rfl 1 rfl ?_
  obtain ⟨n3, g4, hf⟩ := ky_ob_e hf
  refine ky_alen (n := 16) dX3_copy_15 rfl (ky_la_len g4) ?_
  refine ky_min (n := 19) dX3_copy_16 rfl wl_X3_341 wlib_min_s wlib_Math wlib_min_c (by omega) (Nat.le_of_ble_eq_true rfl) ?_
  refine ky_topi (fun v5 ev5 => ?_)
  have hf := ky_bn_e hf v5 ev5
  obtain ⟨n6, g8, hf⟩ := ky_ob_e hf
  obtain ⟨n7, g9, hf⟩ := ky_ob_e hf
  obtain ⟨g10, hf⟩ := ky_ge hf
  refine ky_copy (n := 22) dX3_copy_19 rfl wl_X3_357 wlib_copy_n wlib_copy_s wlib_System (ky_la_len g8) g10.1.1 (ky_la_len g9) g10.1.2 g10.2.1 g10.2.2.1 g10.2.2.2 (by omega) (Nat.le_of_ble_eq_true rfl) (fun s11 es11 => ?_)
  have hf := ky_bn_e hf s11 es11
  cases hf
  exact ky_return dX3_copy_22 rfl
def fX0_copyFrom (b : Nat) (w : Nat) (σ : ky_St) : Option (Unit × ky_St) :=
  ky_g (ky_cl b = 0 ∧ ky_cl w = 0) (
  ky_bn (ky_u1 σ b 0 (σ.1 w 0)) fun s1 =>
  ky_bn (ky_u1 s1 b 1 (s1.1 w 1)) fun s2 =>
  ky_bn (ky_u1 s2 b 2 (s2.1 w 2)) fun s3 =>
  ky_bn (ky_u1 s3 b 3 (s3.1 w 3)) fun s4 =>
  ky_bn (ky_u1 s4 b 4 (s4.1 w 4)) fun s5 =>
  ky_bd (fX3_copy (w + 1) (b + 1) s5) fun v8 s6 =>
  ky_bd (fX3_copy (w + 2) (b + 2) s6) fun v11 s9 =>
  ky_bd (fX3_copy (w + 3) (b + 3) s9) fun v14 s12 =>
  ky_bd (fX3_copy (w + 4) (b + 4) s12) fun v17 s15 =>
  ky_bd (fX3_copy (w + 5) (b + 5) s15) fun v20 s18 =>
  ky_bd (fX3_copy (w + 6) (b + 6) s18) fun v23 s21 =>
  ky_bd (fX3_copy (w + 7) (b + 7) s21) fun v26 s24 =>
  ky_bd (fX3_copy (w + 8) (b + 8) s24) fun v29 s27 =>
  ky_bd (fX3_copy (w + 9) (b + 9) s27) fun v32 s30 =>
  ky_bd (fX3_copy (w + 10) (b + 10) s30) fun v35 s33 =>
  ky_bd (fX3_copy (w + 11) (b + 11) s33) fun v38 s36 =>
  ky_bd (fX3_copy (w + 12) (b + 12) s36) fun v41 s39 =>
  some ((), s39))
set_option maxHeartbeats 4000000 in
set_option maxRecDepth 100000 in
theorem KX0_copyFrom {G : ky_G} (d : Nat) (b : Nat) (w : Nat) (σ : ky_St) (r : Unit) (σ' : ky_St) (hf : fX0_copyFrom b w σ = some (r, σ')) : ky_K G mX0_copyFrom (d + 2) 0 0 [ky_r G b, ky_r G w] σ (.inr none) σ' := by
  unfold fX0_copyFrom at hf
  refine ky_enter rfl (by decide +kernel) (Nat.le_of_ble_eq_true rfl) (lv := [(0, ky_r G b), (1, ky_r G w)]) rfl ?_
  obtain ⟨⟨kb_b, kb_w⟩, hf⟩ := ky_ge hf
  refine ky_aload_n (n := 1) dX0_copyFrom_0 rfl rfl 1 rfl ?_
  refine ky_ifnonnull (tgt := 5) dX0_copyFrom_1 rfl ?_
  refine ky_aload_n (n := 6) dX0_copyFrom_5 rfl rfl 0 rfl ?_
  refine ky_aload_n (n := 7) dX0_copyFrom_6 rfl rfl 1 rfl ?_
  refine ky_getf (q := (RX0, TX0, 17)) (v := .int (σ.1 w 0)) (n := 10) dX0_copyFrom_7 rfl kb_w rfl (Nat.le_of_ble_eq_true rfl) wg_X0_54 (ky_valI kb_w (by decide)) ?_
  refine ky_putf (q := (RX0, TX0, 17)) (n := 13) dX0_copyFrom_10 rfl kb_b rfl (Nat.le_of_ble_eq_true rfl) wg_X0_54 rfl (by decide +kernel) rfl (fun s1 es1 => ?_)
  have hf := ky_bn_e hf s1 es1
  refine ky_aload_n (n := 14) dX0_copyFrom_13 rfl rfl 0 rfl ?_
  refine ky_aload_n (n := 15) dX0_copyFrom_14 rfl rfl 1 rfl ?_
  refine ky_getf (q := (RX0, TX0, 17)) (v := .int (s1.1 w 1)) (n := 18) dX0_copyFrom_15 rfl kb_w rfl (Nat.le_of_ble_eq_true rfl) wg_X0_58 (ky_valI kb_w (by decide)) ?_
  refine ky_putf (q := (RX0, TX0, 17)) (n := 21) dX0_copyFrom_18 rfl kb_b rfl (Nat.le_of_ble_eq_true rfl) wg_X0_58 rfl (by decide +kernel) rfl (fun s2 es2 => ?_)
  have hf := ky_bn_e hf s2 es2
  refine ky_aload_n (n := 22) dX0_copyFrom_21 rfl rfl 0 rfl ?_
  refine ky_aload_n (n := 23) dX0_copyFrom_22 rfl rfl 1 rfl ?_
  refine ky_getf (q := (RX0, TX0, 17)) (v := .int (s2.1 w 2)) (n := 26) dX0_copyFrom_23 rfl kb_w rfl (Nat.le_of_ble_eq_true rfl) wg_X0_61 (ky_valI kb_w (by decide)) ?_
  refine ky_putf (q := (RX0, TX0, 17)) (n := 29) dX0_copyFrom_26 rfl kb_b rfl (Nat.le_of_ble_eq_true rfl) wg_X0_61 rfl (by decide +kernel) rfl (fun s3 es3 => ?_)
  have hf := ky_bn_e hf s3 es3
  refine ky_aload_n (n := 30) dX0_copyFrom_29 rfl rfl 0 rfl ?_
  refine ky_aload_n (n := 31) dX0_copyFrom_30 rfl rfl 1 rfl ?_
  refine ky_getf (q := (RX0, TX0, 17)) (v := .int (s3.1 w 3)) (n := 34) dX0_copyFrom_31 rfl kb_w rfl (Nat.le_of_ble_eq_true rfl) wg_X0_64 (ky_valI kb_w (by decide)) ?_
  refine ky_putf (q := (RX0, TX0, 17)) (n := 37) dX0_copyFrom_34 rfl kb_b rfl (Nat.le_of_ble_eq_true rfl) wg_X0_64 rfl (by decide +kernel) rfl (fun s4 es4 => ?_)
  have hf := ky_bn_e hf s4 es4
  refine ky_aload_n (n := 38) dX0_copyFrom_37 rfl rfl 0 rfl ?_
  refine ky_aload_n (n := 39) dX0_copyFrom_38 rfl rfl 1 rfl ?_
  refine ky_getf (q := (RX0, TX0, 17)) (v := .int (s4.1 w 4)) (n := 42) dX0_copyFrom_39 rfl kb_w rfl (Nat.le_of_ble_eq_true rfl) wg_X0_67 (ky_valI kb_w (by decide)) ?_
  refine ky_putf (q := (RX0, TX0, 17)) (n := 45) dX0_copyFrom_42 rfl kb_b rfl (Nat.le_of_ble_eq_true rfl) wg_X0_67 rfl (by decide +kernel) rfl (fun s5 es5 => ?_)
  have hf := ky_bn_e hf s5 es5
  refine ky_aload_n (n := 46) dX0_copyFrom_45 rfl rfl 1 rfl ?_
  refine ky_getf (q := (RX0, TX0, 17)) (v := ky_r G (w + 1)) (n := 49) dX0_copyFrom_46 rfl kb_w rfl (Nat.le_of_ble_eq_true rfl) wg_X0_9 (ky_valR kb_w (by decide)) ?_
  refine ky_aload_n (n := 50) dX0_copyFrom_49 rfl rfl 0 rfl ?_
  refine ky_getf (q := (RX0, TX0, 17)) (v := ky_r G (b + 1)) (n := 53) dX0_copyFrom_50 rfl kb_b rfl (Nat.le_of_ble_eq_true rfl) wg_X0_9 (ky_valR kb_b (by decide)) ?_
  obtain ⟨v8, s6, h7, hf⟩ := ky_bd_e hf
  refine ky_callN (kc := 0) (ks := 0) (kc2 := 0) (ks2 := 0) (as := [ky_r G (w + 1), ky_r G (b + 1)]) (st := []) (KX3_copy d (w + 1) (b + 1) s5 _ _ h7) okX3_copy wn_X0_70 rfl rfl (Nat.le_of_ble_eq_true rfl) dX0_copyFrom_53 rfl ?_
  refine ky_aload_n (n := 57) dX0_copyFrom_56 rfl rfl 1 rfl ?_
  refine ky_getf (q := (RX0, TX0, 17)) (v := ky_r G (w + 2)) (n := 60) dX0_copyFrom_57 rfl kb_w rfl (Nat.le_of_ble_eq_true rfl) wg_X0_15 (ky_valR kb_w (by decide)) ?_
  refine ky_aload_n (n := 61) dX0_copyFrom_60 rfl rfl 0 rfl ?_
  refine ky_getf (q := (RX0, TX0, 17)) (v := ky_r G (b + 2)) (n := 64) dX0_copyFrom_61 rfl kb_b rfl (Nat.le_of_ble_eq_true rfl) wg_X0_15 (ky_valR kb_b (by decide)) ?_
  obtain ⟨v11, s9, h10, hf⟩ := ky_bd_e hf
  refine ky_callN (kc := 0) (ks := 0) (kc2 := 0) (ks2 := 0) (as := [ky_r G (w + 2), ky_r G (b + 2)]) (st := []) (KX3_copy d (w + 2) (b + 2) s6 _ _ h10) okX3_copy wn_X0_70 rfl rfl (Nat.le_of_ble_eq_true rfl) dX0_copyFrom_64 rfl ?_
  refine ky_aload_n (n := 68) dX0_copyFrom_67 rfl rfl 1 rfl ?_
  refine ky_getf (q := (RX0, TX0, 17)) (v := ky_r G (w + 3)) (n := 71) dX0_copyFrom_68 rfl kb_w rfl (Nat.le_of_ble_eq_true rfl) wg_X0_18 (ky_valR kb_w (by decide)) ?_
  refine ky_aload_n (n := 72) dX0_copyFrom_71 rfl rfl 0 rfl ?_
  refine ky_getf (q := (RX0, TX0, 17)) (v := ky_r G (b + 3)) (n := 75) dX0_copyFrom_72 rfl kb_b rfl (Nat.le_of_ble_eq_true rfl) wg_X0_18 (ky_valR kb_b (by decide)) ?_
  obtain ⟨v14, s12, h13, hf⟩ := ky_bd_e hf
  refine ky_callN (kc := 0) (ks := 0) (kc2 := 0) (ks2 := 0) (as := [ky_r G (w + 3), ky_r G (b + 3)]) (st := []) (KX3_copy d (w + 3) (b + 3) s9 _ _ h13) okX3_copy wn_X0_70 rfl rfl (Nat.le_of_ble_eq_true rfl) dX0_copyFrom_75 rfl ?_
  refine ky_aload_n (n := 79) dX0_copyFrom_78 rfl rfl 1 rfl ?_
  refine ky_getf (q := (RX0, TX0, 17)) (v := ky_r G (w + 4)) (n := 82) dX0_copyFrom_79 rfl kb_w rfl (Nat.le_of_ble_eq_true rfl) wg_X0_21 (ky_valR kb_w (by decide)) ?_
  refine ky_aload_n (n := 83) dX0_copyFrom_82 rfl rfl 0 rfl ?_
  refine ky_getf (q := (RX0, TX0, 17)) (v := ky_r G (b + 4)) (n := 86) dX0_copyFrom_83 rfl kb_b rfl (Nat.le_of_ble_eq_true rfl) wg_X0_21 (ky_valR kb_b (by decide)) ?_
  obtain ⟨v17, s15, h16, hf⟩ := ky_bd_e hf
  refine ky_callN (kc := 0) (ks := 0) (kc2 := 0) (ks2 := 0) (as := [ky_r G (w + 4), ky_r G (b + 4)]) (st := []) (KX3_copy d (w + 4) (b + 4) s12 _ _ h16) okX3_copy wn_X0_70 rfl rfl (Nat.le_of_ble_eq_true rfl) dX0_copyFrom_86 rfl ?_
  refine ky_aload_n (n := 90) dX0_copyFrom_89 rfl rfl 1 rfl ?_
  refine ky_getf (q := (RX0, TX0, 17)) (v := ky_r G (w + 5)) (n := 93) dX0_copyFrom_90 rfl kb_w rfl (Nat.le_of_ble_eq_true rfl) wg_X0_24 (ky_valR kb_w (by decide)) ?_
  refine ky_aload_n (n := 94) dX0_copyFrom_93 rfl rfl 0 rfl ?_
  refine ky_getf (q := (RX0, TX0, 17)) (v := ky_r G (b + 5)) (n := 97) dX0_copyFrom_94 rfl kb_b rfl (Nat.le_of_ble_eq_true rfl) wg_X0_24 (ky_valR kb_b (by decide)) ?_
  obtain ⟨v20, s18, h19, hf⟩ := ky_bd_e hf
  refine ky_callN (kc := 0) (ks := 0) (kc2 := 0) (ks2 := 0) (as := [ky_r G (w + 5), ky_r G (b + 5)]) (st := []) (KX3_copy d (w + 5) (b + 5) s15 _ _ h19) okX3_copy wn_X0_70 rfl rfl (Nat.le_of_ble_eq_true rfl) dX0_copyFrom_97 rfl ?_
  refine ky_aload_n (n := 101) dX0_copyFrom_100 rfl rfl 1 rfl ?_
  refine ky_getf (q := (RX0, TX0, 17)) (v := ky_r G (w + 6)) (n := 104) dX0_copyFrom_101 rfl kb_w rfl (Nat.le_of_ble_eq_true rfl) wg_X0_27 (ky_valR kb_w (by decide)) ?_
  refine ky_aload_n (n := 105) dX0_copyFrom_104 rfl rfl 0 rfl ?_
  refine ky_getf (q := (RX0, TX0, 17)) (v := ky_r G (b + 6)) (n := 108) dX0_copyFrom_105 rfl kb_b rfl (Nat.le_of_ble_eq_true rfl) wg_X0_27 (ky_valR kb_b (by decide)) ?_
  obtain ⟨v23, s21, h22, hf⟩ := ky_bd_e hf
  refine ky_callN (kc := 0) (ks := 0) (kc2 := 0) (ks2 := 0) (as := [ky_r G (w + 6), ky_r G (b + 6)]) (st := []) (KX3_copy d (w + 6) (b + 6) s18 _ _ h22) okX3_copy wn_X0_70 rfl rfl (Nat.le_of_ble_eq_true rfl) dX0_copyFrom_108 rfl ?_
  refine ky_aload_n (n := 112) dX0_copyFrom_111 rfl rfl 1 rfl ?_
  refine ky_getf (q := (RX0, TX0, 17)) (v := ky_r G (w + 7)) (n := 115) dX0_copyFrom_112 rfl kb_w rfl (Nat.le_of_ble_eq_true rfl) wg_X0_30 (ky_valR kb_w (by decide)) ?_
  refine ky_aload_n (n := 116) dX0_copyFrom_115 rfl rfl 0 rfl ?_
  refine ky_getf (q := (RX0, TX0, 17)) (v := ky_r G (b + 7)) (n := 119) dX0_copyFrom_116 rfl kb_b rfl (Nat.le_of_ble_eq_true rfl) wg_X0_30 (ky_valR kb_b (by decide)) ?_
  obtain ⟨v26, s24, h25, hf⟩ := ky_bd_e hf
  refine ky_callN (kc := 0) (ks := 0) (kc2 := 0) (ks2 := 0) (as := [ky_r G (w + 7), ky_r G (b + 7)]) (st := []) (KX3_copy d (w + 7) (b + 7) s21 _ _ h25) okX3_copy wn_X0_70 rfl rfl (Nat.le_of_ble_eq_true rfl) dX0_copyFrom_119 rfl ?_
  refine ky_aload_n (n := 123) dX0_copyFrom_122 rfl rfl 1 rfl ?_
  refine ky_getf (q := (RX0, TX0, 17)) (v := ky_r G (w + 8)) (n := 126) dX0_copyFrom_123 rfl kb_w rfl (Nat.le_of_ble_eq_true rfl) wg_X0_33 (ky_valR kb_w (by decide)) ?_
  refine ky_aload_n (n := 127) dX0_copyFrom_126 rfl rfl 0 rfl ?_
  refine ky_getf (q := (RX0, TX0, 17)) (v := ky_r G (b + 8)) (n := 130) dX0_copyFrom_127 rfl kb_b rfl (Nat.le_of_ble_eq_true rfl) wg_X0_33 (ky_valR kb_b (by decide)) ?_
  obtain ⟨v29, s27, h28, hf⟩ := ky_bd_e hf
  refine ky_callN (kc := 0) (ks := 0) (kc2 := 0) (ks2 := 0) (as := [ky_r G (w + 8), ky_r G (b + 8)]) (st := []) (KX3_copy d (w + 8) (b + 8) s24 _ _ h28) okX3_copy wn_X0_70 rfl rfl (Nat.le_of_ble_eq_true rfl) dX0_copyFrom_130 rfl ?_
  refine ky_aload_n (n := 134) dX0_copyFrom_133 rfl rfl 1 rfl ?_
  refine ky_getf (q := (RX0, TX0, 17)) (v := ky_r G (w + 9)) (n := 137) dX0_copyFrom_134 rfl kb_w rfl (Nat.le_of_ble_eq_true rfl) wg_X0_36 (ky_valR kb_w (by decide)) ?_
  refine ky_aload_n (n := 138) dX0_copyFrom_137 rfl rfl 0 rfl ?_
  refine ky_getf (q := (RX0, TX0, 17)) (v := ky_r G (b + 9)) (n := 141) dX0_copyFrom_138 rfl kb_b rfl (Nat.le_of_ble_eq_true rfl) wg_X0_36 (ky_valR kb_b (by decide)) ?_
  obtain ⟨v32, s30, h31, hf⟩ := ky_bd_e hf
  refine ky_callN (kc := 0) (ks := 0) (kc2 := 0) (ks2 := 0) (as := [ky_r G (w + 9), ky_r G (b + 9)]) (st := []) (KX3_copy d (w + 9) (b + 9) s27 _ _ h31) okX3_copy wn_X0_70 rfl rfl (Nat.le_of_ble_eq_true rfl) dX0_copyFrom_141 rfl ?_
  refine ky_aload_n (n := 145) dX0_copyFrom_144 rfl rfl 1 rfl ?_
  refine ky_getf (q := (RX0, TX0, 17)) (v := ky_r G (w + 10)) (n := 148) dX0_copyFrom_145 rfl kb_w rfl (Nat.le_of_ble_eq_true rfl) wg_X0_39 (ky_valR kb_w (by decide)) ?_
  refine ky_aload_n (n := 149) dX0_copyFrom_148 rfl rfl 0 rfl ?_
  refine ky_getf (q := (RX0, TX0, 17)) (v := ky_r G (b + 10)) (n := 152) dX0_copyFrom_149 rfl kb_b rfl (Nat.le_of_ble_eq_true rfl) wg_X0_39 (ky_valR kb_b (by decide)) ?_
  obtain ⟨v35, s33, h34, hf⟩ := ky_bd_e hf
  refine ky_callN (kc := 0) (ks := 0) (kc2 := 0) (ks2 := 0) (as := [ky_r G (w + 10), ky_r G (b + 10)]) (st := []) (KX3_copy d (w + 10) (b + 10) s30 _ _ h34) okX3_copy wn_X0_70 rfl rfl (Nat.le_of_ble_eq_true rfl) dX0_copyFrom_152 rfl ?_
  refine ky_aload_n (n := 156) dX0_copyFrom_155 rfl rfl 1 rfl ?_
  refine ky_getf (q := (RX0, TX0, 17)) (v := ky_r G (w + 11)) (n := 159) dX0_copyFrom_156 rfl kb_w rfl (Nat.le_of_ble_eq_true rfl) wg_X0_42 (ky_valR kb_w (by decide)) ?_
  refine ky_aload_n (n := 160) dX0_copyFrom_159 rfl rfl 0 rfl ?_
  refine ky_getf (q := (RX0, TX0, 17)) (v := ky_r G (b + 11)) (n := 163) dX0_copyFrom_160 rfl kb_b rfl (Nat.le_of_ble_eq_true rfl) wg_X0_42 (ky_valR kb_b (by decide)) ?_
  obtain ⟨v38, s36, h37, hf⟩ := ky_bd_e hf
  refine ky_callN (kc := 0) (ks := 0) (kc2 := 0) (ks2 := 0) (as := [ky_r G (w + 11), ky_r G (b + 11)]) (st := []) (KX3_copy d (w + 11) (b + 11) s33 _ _ h37) okX3_copy wn_X0_70 rfl rfl (Nat.le_of_ble_eq_true rfl) dX0_copyFrom_163 rfl ?_
  refine ky_aload_n (n := 167) dX0_copyFrom_166 rfl rfl 1 rfl ?_
  refine ky_getf (q := (RX0, TX0, 17)) (v := ky_r G (w + 12)) (n := 170) dX0_copyFrom_167 rfl kb_w rfl (Nat.le_of_ble_eq_true rfl) wg_X0_45 (ky_valR kb_w (by decide)) ?_
  refine ky_aload_n (n := 171) dX0_copyFrom_170 rfl rfl 0 rfl ?_
  refine ky_getf (q := (RX0, TX0, 17)) (v := ky_r G (b + 12)) (n := 174) dX0_copyFrom_171 rfl kb_b rfl (Nat.le_of_ble_eq_true rfl) wg_X0_45 (ky_valR kb_b (by decide)) ?_
  obtain ⟨v41, s39, h40, hf⟩ := ky_bd_e hf
  refine ky_callN (kc := 0) (ks := 0) (kc2 := 0) (ks2 := 0) (as := [ky_r G (w + 12), ky_r G (b + 12)]) (st := []) (KX3_copy d (w + 12) (b + 12) s36 _ _ h40) okX3_copy wn_X0_70 rfl rfl (Nat.le_of_ble_eq_true rfl) dX0_copyFrom_174 rfl ?_
  cases hf
  exact ky_return dX0_copyFrom_177 rfl
def fX0_isSet (a1 : Int32) (σ : ky_St) : Option (Int32 × ky_St) :=
  if a1 < 0 then (
  some ((0 : Int32), σ)) else (
  if (σ.1 20 0) ≤ a1 then (
  some ((0 : Int32), σ)) else (
  some ((1 : Int32), σ)))
set_option maxHeartbeats 4000000 in
set_option maxRecDepth 100000 in
theorem KX0_isSet {G : ky_G} (d : Nat) (a1 : Int32) (σ : ky_St) (r : Int32) (σ' : ky_St) (hf : fX0_isSet a1 σ = some (r, σ')) : ky_K G mX0_isSet d 0 0 [ky_r G 20, .int a1] σ (.inr (some (.int r))) σ' := by
  unfold fX0_isSet at hf
  refine ky_enter rfl (by decide +kernel) (Nat.le_of_ble_eq_true rfl) (lv := [(0, ky_r G 20), (1, .int a1)]) rfl ?_
  refine ky_iload_n (n := 1) dX0_isSet_0 rfl rfl 1 rfl ?_
  refine ky_if_lt (n := 4) (tgt := 16) dX0_isSet_1 rfl rfl (fun c1 => ?_) (fun c1 => ?_)
  · have hf := ky_pos c1 hf
    refine ky_iconst (v := (0 : Int32)) (n := 17) dX0_isSet_16 rfl rfl ?_
    cases hf
    exact ky_zreturn dX0_isSet_17 rfl (Or.inl rfl)
  · have hf := ky_neg c1 hf
    refine ky_iload_n (n := 5) dX0_isSet_4 rfl rfl 1 rfl ?_
    refine ky_aload_n (n := 6) dX0_isSet_5 rfl rfl 0 rfl ?_
    refine ky_getf (q := (RX0, TX0, 17)) (v := .int (σ.1 20 0)) (n := 9) dX0_isSet_6 rfl kc_20 rfl (Nat.le_of_ble_eq_true rfl) wg_X0_54 (vf_20_0 _ _) ?_
    refine ky_icmp_ge (n := 12) (tgt := 16) dX0_isSet_9 rfl rfl (fun c2 => ?_) (fun c2 => ?_)
    · have hf := ky_pos c2 hf
      refine ky_iconst (v := (0 : Int32)) (n := 17) dX0_isSet_16 rfl rfl ?_
      cases hf
      exact ky_zreturn dX0_isSet_17 rfl (Or.inl rfl)
    · have hf := ky_neg c2 hf
      refine ky_iconst (v := (1 : Int32)) (n := 13) dX0_isSet_12 rfl rfl ?_
      refine ky_goto (tgt := 17) dX0_isSet_13 rfl ?_
      cases hf
      exact ky_zreturn dX0_isSet_17 rfl (Or.inr rfl)
def fX3_at (k : Nat) (a2 : Int32) (σ : ky_St) : Option (Int32 × ky_St) :=
  if a2 < 0 then (
  some ((0 : Int32), σ)) else (
  (ky_la k).bind fun n2 =>
  if (Int32.ofNat n2) ≤ a2 then (
  some ((0 : Int32), σ)) else (
  (ky_la k).bind fun n5 =>
  ky_g (¬ (a2 < 0 ∨ n5 ≤ a2.toNatClampNeg)) (
  some ((σ.1 k a2.toNatClampNeg), σ))))
set_option maxHeartbeats 4000000 in
set_option maxRecDepth 100000 in
theorem KX3_at {G : ky_G} (d : Nat) (k : Nat) (a2 : Int32) (σ : ky_St) (r : Int32) (σ' : ky_St) (hf : fX3_at k a2 σ = some (r, σ')) : ky_K G mX3_at d 0 0 [ky_r G k, .int a2] σ (.inr (some (.int r))) σ' := by
  unfold fX3_at at hf
  refine ky_enter rfl (by decide +kernel) (Nat.le_of_ble_eq_true rfl) (lv := [(0, ky_r G k), (1, .int a2)]) rfl ?_
  refine ky_aload_n (n := 1) dX3_at_0 rfl rfl 0 rfl ?_
  refine ky_ifnull (n := 4) dX3_at_1 rfl ?_
  refine ky_iload_n (n := 5) dX3_at_4 rfl rfl 1 rfl ?_
  refine ky_if_lt (n := 8) (tgt := 20) dX3_at_5 rfl rfl (fun c1 => ?_) (fun c1 => ?_)
  · have hf := ky_pos c1 hf
    refine ky_iconst (v := (0 : Int32)) (n := 21) dX3_at_20 rfl rfl ?_
    cases hf
    exact ky_ireturn dX3_at_21 rfl
  · have hf := ky_neg c1 hf
    refine ky_iload_n (n := 9) dX3_at_8 rfl rfl 1 rfl ?_
    refine ky_aload_n (n := 10) dX3_at_9 rfl rfl 0 rfl ?_
    obtain ⟨n2, g3, hf⟩ := ky_ob_e hf
    refine ky_alen (n := 11) dX3_at_10 rfl (ky_la_len g3) ?_
    refine ky_icmp_ge (n := 14) (tgt := 20) dX3_at_11 rfl rfl (fun c4 => ?_) (fun c4 => ?_)
    · have hf := ky_pos c4 hf
      refine ky_iconst (v := (0 : Int32)) (n := 21) dX3_at_20 rfl rfl ?_
      cases hf
      exact ky_ireturn dX3_at_21 rfl
    · have hf := ky_neg c4 hf
      refine ky_aload_n (n := 15) dX3_at_14 rfl rfl 0 rfl ?_
      refine ky_iload_n (n := 16) dX3_at_15 rfl rfl 1 rfl ?_
      obtain ⟨n5, g6, hf⟩ := ky_ob_e hf
      obtain ⟨g7, hf⟩ := ky_ge hf
      refine ky_iald (n := 17) dX3_at_16 rfl (ky_la_len g6) g7 ?_
      refine ky_goto (tgt := 21) dX3_at_17 rfl ?_
      cases hf
      exact ky_ireturn dX3_at_21 rfl
def fX0_isInYard (a1 : Int32) (σ : ky_St) : Option (Int32 × ky_St) :=
  ky_bd (fX0_isSet a1 σ) fun v3 s1 =>
  if v3 = 0 then (
  some ((0 : Int32), s1)) else (
  ky_bd (fX3_at 22 a1 s1) fun v7 s5 =>
  if v7 = (-1 : Int32) then (
  some ((1 : Int32), s5)) else (
  some ((0 : Int32), s5)))
set_option maxHeartbeats 4000000 in
set_option maxRecDepth 100000 in
theorem KX0_isInYard {G : ky_G} (d : Nat) (a1 : Int32) (σ : ky_St) (r : Int32) (σ' : ky_St) (hf : fX0_isInYard a1 σ = some (r, σ')) : ky_K G mX0_isInYard (d + 1) 0 0 [ky_r G 20, .int a1] σ (.inr (some (.int r))) σ' := by
  unfold fX0_isInYard at hf
  refine ky_enter rfl (by decide +kernel) (Nat.le_of_ble_eq_true rfl) (lv := [(0, ky_r G 20), (1, .int a1)]) rfl ?_
  refine ky_aload_n (n := 1) dX0_isInYard_0 rfl rfl 0 rfl ?_
  refine ky_iload_n (n := 2) dX0_isInYard_1 rfl rfl 1 rfl ?_
  obtain ⟨v3, s1, h2, hf⟩ := ky_bd_e hf
  refine ky_callV (kc := 0) (ks := 0) (kc2 := 0) (ks2 := 0) (k0 := 20) (as := [.int a1]) (st := []) (KX0_isSet d a1 σ _ _ h2) okX0_isSet wl_X0_74 kc_20 (q := (RX0, TX0, 17)) rfl rfl rfl rfl (Nat.le_of_ble_eq_true rfl) dX0_isInYard_2 rfl ?_
  refine ky_if_eq (n := 8) (tgt := 24) dX0_isInYard_5 rfl rfl (fun c4 => ?_) (fun c4 => ?_)
  · have hf := ky_pos c4 hf
    refine ky_iconst (v := (0 : Int32)) (n := 25) dX0_isInYard_24 rfl rfl ?_
    cases hf
    exact ky_zreturn dX0_isInYard_25 rfl (Or.inl rfl)
  · have hf := ky_neg c4 hf
    refine ky_aload_n (n := 9) dX0_isInYard_8 rfl rfl 0 rfl ?_
    refine ky_getf (q := (RX0, TX0, 17)) (v := ky_r G 22) (n := 12) dX0_isInYard_9 rfl kc_20 rfl (Nat.le_of_ble_eq_true rfl) wg_X0_15 (vf_20_6 _ _) ?_
    refine ky_iload_n (n := 13) dX0_isInYard_12 rfl rfl 1 rfl ?_
    obtain ⟨v7, s5, h6, hf⟩ := ky_bd_e hf
    refine ky_callN (kc := 0) (ks := 0) (kc2 := 0) (ks2 := 0) (as := [ky_r G 22, .int a1]) (st := []) (KX3_at d 22 a1 s1 _ _ h6) okX3_at wn_X0_78 rfl rfl (Nat.le_of_ble_eq_true rfl) dX0_isInYard_13 rfl ?_
    refine ky_iconst (v := (-1 : Int32)) (n := 17) dX0_isInYard_16 rfl rfl ?_
    refine ky_icmp_ne (n := 20) (tgt := 24) dX0_isInYard_17 rfl rfl (fun c8 => ?_) (fun c8 => ?_)
    · have hf := ky_neg c8 hf
      refine ky_iconst (v := (0 : Int32)) (n := 25) dX0_isInYard_24 rfl rfl ?_
      cases hf
      exact ky_zreturn dX0_isInYard_25 rfl (Or.inl rfl)
    · have hf := ky_pos c8 hf
      refine ky_iconst (v := (1 : Int32)) (n := 21) dX0_isInYard_20 rfl rfl ?_
      refine ky_goto (tgt := 25) dX0_isInYard_21 rfl ?_
      cases hf
      exact ky_zreturn dX0_isInYard_25 rfl (Or.inr rfl)
def fX0_isOnSite (a1 : Int32) (σ : ky_St) : Option (Int32 × ky_St) :=
  ky_bd (fX0_isSet a1 σ) fun v3 s1 =>
  if v3 = 0 then (
  some ((0 : Int32), s1)) else (
  ky_bd (fX3_at 22 a1 s1) fun v7 s5 =>
  if v7 = (-1 : Int32) then (
  some ((0 : Int32), s5)) else (
  some ((1 : Int32), s5)))
set_option maxHeartbeats 4000000 in
set_option maxRecDepth 100000 in
theorem KX0_isOnSite {G : ky_G} (d : Nat) (a1 : Int32) (σ : ky_St) (r : Int32) (σ' : ky_St) (hf : fX0_isOnSite a1 σ = some (r, σ')) : ky_K G mX0_isOnSite (d + 1) 0 0 [ky_r G 20, .int a1] σ (.inr (some (.int r))) σ' := by
  unfold fX0_isOnSite at hf
  refine ky_enter rfl (by decide +kernel) (Nat.le_of_ble_eq_true rfl) (lv := [(0, ky_r G 20), (1, .int a1)]) rfl ?_
  refine ky_aload_n (n := 1) dX0_isOnSite_0 rfl rfl 0 rfl ?_
  refine ky_iload_n (n := 2) dX0_isOnSite_1 rfl rfl 1 rfl ?_
  obtain ⟨v3, s1, h2, hf⟩ := ky_bd_e hf
  refine ky_callV (kc := 0) (ks := 0) (kc2 := 0) (ks2 := 0) (k0 := 20) (as := [.int a1]) (st := []) (KX0_isSet d a1 σ _ _ h2) okX0_isSet wl_X0_74 kc_20 (q := (RX0, TX0, 17)) rfl rfl rfl rfl (Nat.le_of_ble_eq_true rfl) dX0_isOnSite_2 rfl ?_
  refine ky_if_eq (n := 8) (tgt := 24) dX0_isOnSite_5 rfl rfl (fun c4 => ?_) (fun c4 => ?_)
  · have hf := ky_pos c4 hf
    refine ky_iconst (v := (0 : Int32)) (n := 25) dX0_isOnSite_24 rfl rfl ?_
    cases hf
    exact ky_zreturn dX0_isOnSite_25 rfl (Or.inl rfl)
  · have hf := ky_neg c4 hf
    refine ky_aload_n (n := 9) dX0_isOnSite_8 rfl rfl 0 rfl ?_
    refine ky_getf (q := (RX0, TX0, 17)) (v := ky_r G 22) (n := 12) dX0_isOnSite_9 rfl kc_20 rfl (Nat.le_of_ble_eq_true rfl) wg_X0_15 (vf_20_6 _ _) ?_
    refine ky_iload_n (n := 13) dX0_isOnSite_12 rfl rfl 1 rfl ?_
    obtain ⟨v7, s5, h6, hf⟩ := ky_bd_e hf
    refine ky_callN (kc := 0) (ks := 0) (kc2 := 0) (ks2 := 0) (as := [ky_r G 22, .int a1]) (st := []) (KX3_at d 22 a1 s1 _ _ h6) okX3_at wn_X0_78 rfl rfl (Nat.le_of_ble_eq_true rfl) dX0_isOnSite_13 rfl ?_
    refine ky_iconst (v := (-1 : Int32)) (n := 17) dX0_isOnSite_16 rfl rfl ?_
    refine ky_icmp_eq (n := 20) (tgt := 24) dX0_isOnSite_17 rfl rfl (fun c8 => ?_) (fun c8 => ?_)
    · have hf := ky_pos c8 hf
      refine ky_iconst (v := (0 : Int32)) (n := 25) dX0_isOnSite_24 rfl rfl ?_
      cases hf
      exact ky_zreturn dX0_isOnSite_25 rfl (Or.inl rfl)
    · have hf := ky_neg c8 hf
      refine ky_iconst (v := (1 : Int32)) (n := 21) dX0_isOnSite_20 rfl rfl ?_
      refine ky_goto (tgt := 25) dX0_isOnSite_21 rfl ?_
      cases hf
      exact ky_zreturn dX0_isOnSite_25 rfl (Or.inr rfl)
def fX0_isOn (a1 : Int32) (a2 : Int32) (σ : ky_St) : Option (Int32 × ky_St) :=
  ky_bd (fX0_isOnSite a1 σ) fun v3 s1 =>
  if v3 = 0 then (
  some ((0 : Int32), s1)) else (
  ky_bd (fX3_at 22 a1 s1) fun v7 s5 =>
  if v7 = a2 then (
  some ((1 : Int32), s5)) else (
  some ((0 : Int32), s5)))
set_option maxHeartbeats 4000000 in
set_option maxRecDepth 100000 in
theorem KX0_isOn {G : ky_G} (d : Nat) (a1 : Int32) (a2 : Int32) (σ : ky_St) (r : Int32) (σ' : ky_St) (hf : fX0_isOn a1 a2 σ = some (r, σ')) : ky_K G mX0_isOn (d + 2) 0 0 [ky_r G 20, .int a1, .int a2] σ (.inr (some (.int r))) σ' := by
  unfold fX0_isOn at hf
  refine ky_enter rfl (by decide +kernel) (Nat.le_of_ble_eq_true rfl) (lv := [(0, ky_r G 20), (1, .int a1), (2, .int a2)]) rfl ?_
  refine ky_aload_n (n := 1) dX0_isOn_0 rfl rfl 0 rfl ?_
  refine ky_iload_n (n := 2) dX0_isOn_1 rfl rfl 1 rfl ?_
  obtain ⟨v3, s1, h2, hf⟩ := ky_bd_e hf
  refine ky_callV (kc := 0) (ks := 0) (kc2 := 0) (ks2 := 0) (k0 := 20) (as := [.int a1]) (st := []) (KX0_isOnSite d a1 σ _ _ h2) okX0_isOnSite wl_X0_82 kc_20 (q := (RX0, TX0, 17)) rfl rfl rfl rfl (Nat.le_of_ble_eq_true rfl) dX0_isOn_2 rfl ?_
  refine ky_if_eq (n := 8) (tgt := 24) dX0_isOn_5 rfl rfl (fun c4 => ?_) (fun c4 => ?_)
  · have hf := ky_pos c4 hf
    refine ky_iconst (v := (0 : Int32)) (n := 25) dX0_isOn_24 rfl rfl ?_
    cases hf
    exact ky_zreturn dX0_isOn_25 rfl (Or.inl rfl)
  · have hf := ky_neg c4 hf
    refine ky_aload_n (n := 9) dX0_isOn_8 rfl rfl 0 rfl ?_
    refine ky_getf (q := (RX0, TX0, 17)) (v := ky_r G 22) (n := 12) dX0_isOn_9 rfl kc_20 rfl (Nat.le_of_ble_eq_true rfl) wg_X0_15 (vf_20_6 _ _) ?_
    refine ky_iload_n (n := 13) dX0_isOn_12 rfl rfl 1 rfl ?_
    obtain ⟨v7, s5, h6, hf⟩ := ky_bd_e hf
    refine ky_callN (kc := 0) (ks := 0) (kc2 := 0) (ks2 := 0) (as := [ky_r G 22, .int a1]) (st := []) (KX3_at (d + 1) 22 a1 s1 _ _ h6) okX3_at wn_X0_78 rfl rfl (Nat.le_of_ble_eq_true rfl) dX0_isOn_13 rfl ?_
    refine ky_iload_n (n := 17) dX0_isOn_16 rfl rfl 2 rfl ?_
    refine ky_icmp_ne (n := 20) (tgt := 24) dX0_isOn_17 rfl rfl (fun c8 => ?_) (fun c8 => ?_)
    · have hf := ky_neg c8 hf
      refine ky_iconst (v := (0 : Int32)) (n := 25) dX0_isOn_24 rfl rfl ?_
      cases hf
      exact ky_zreturn dX0_isOn_25 rfl (Or.inl rfl)
    · have hf := ky_pos c8 hf
      refine ky_iconst (v := (1 : Int32)) (n := 21) dX0_isOn_20 rfl rfl ?_
      refine ky_goto (tgt := 25) dX0_isOn_21 rfl ?_
      cases hf
      exact ky_zreturn dX0_isOn_25 rfl (Or.inr rfl)
def fX0_stockOf (a1 : Int32) (a2 : Int32) (σ : ky_St) : Option (Int32 × ky_St) :=
  ky_bd (fX3_at 26 ((a1 * (4 : Int32)) + a2) σ) fun v3 s1 =>
  some (v3, s1)
set_option maxHeartbeats 4000000 in
set_option maxRecDepth 100000 in
theorem KX0_stockOf {G : ky_G} (d : Nat) (a1 : Int32) (a2 : Int32) (σ : ky_St) (r : Int32) (σ' : ky_St) (hf : fX0_stockOf a1 a2 σ = some (r, σ')) : ky_K G mX0_stockOf (d + 1) 0 0 [ky_r G 20, .int a1, .int a2] σ (.inr (some (.int r))) σ' := by
  unfold fX0_stockOf at hf
  refine ky_enter rfl (by decide +kernel) (Nat.le_of_ble_eq_true rfl) (lv := [(0, ky_r G 20), (1, .int a1), (2, .int a2)]) rfl ?_
  refine ky_aload_n (n := 1) dX0_stockOf_0 rfl rfl 0 rfl ?_
  refine ky_getf (q := (RX0, TX0, 17)) (v := ky_r G 26) (n := 4) dX0_stockOf_1 rfl kc_20 rfl (Nat.le_of_ble_eq_true rfl) wg_X0_27 (vf_20_10 _ _) ?_
  refine ky_iload_n (n := 5) dX0_stockOf_4 rfl rfl 1 rfl ?_
  refine ky_iconst (v := (4 : Int32)) (n := 6) dX0_stockOf_5 rfl rfl ?_
  refine ky_imul (n := 7) dX0_stockOf_6 rfl ?_
  refine ky_iload_n (n := 8) dX0_stockOf_7 rfl rfl 2 rfl ?_
  refine ky_iadd (n := 9) dX0_stockOf_8 rfl ?_
  obtain ⟨v3, s1, h2, hf⟩ := ky_bd_e hf
  refine ky_callN (kc := 0) (ks := 0) (kc2 := 0) (ks2 := 0) (as := [ky_r G 26, .int ((a1 * (4 : Int32)) + a2)]) (st := []) (KX3_at d 26 ((a1 * (4 : Int32)) + a2) σ _ _ h2) okX3_at wn_X0_78 rfl rfl (Nat.le_of_ble_eq_true rfl) dX0_stockOf_9 rfl ?_
  cases hf
  exact ky_ireturn dX0_stockOf_12 rfl
def fX0_lackOf (a1 : Int32) (a2 : Int32) (σ : ky_St) : Option (Int32 × ky_St) :=
  ky_bd (fX3_at 13 a2 σ) fun v3 s1 =>
  ky_bd (fX3_at 26 ((a1 * (4 : Int32)) + a2) s1) fun v6 s4 =>
  some ((v3 - v6), s4)
set_option maxHeartbeats 4000000 in
set_option maxRecDepth 100000 in
theorem KX0_lackOf {G : ky_G} (d : Nat) (a1 : Int32) (a2 : Int32) (σ : ky_St) (r : Int32) (σ' : ky_St) (hf : fX0_lackOf a1 a2 σ = some (r, σ')) : ky_K G mX0_lackOf (d + 1) 0 0 [ky_r G 20, .int a1, .int a2] σ (.inr (some (.int r))) σ' := by
  unfold fX0_lackOf at hf
  refine ky_enter rfl (by decide +kernel) (Nat.le_of_ble_eq_true rfl) (lv := [(0, ky_r G 20), (1, .int a1), (2, .int a2)]) rfl ?_
  refine ky_getsN (n := 3) dX0_lackOf_0 rfl "WHOLE" 13 (Or.inl ⟨rfl, rfl⟩) wnf_85 ?_
  refine ky_iload_n (n := 4) dX0_lackOf_3 rfl rfl 2 rfl ?_
  obtain ⟨v3, s1, h2, hf⟩ := ky_bd_e hf
  refine ky_callN (kc := 0) (ks := 0) (kc2 := 0) (ks2 := 0) (as := [ky_r G 13, .int a2]) (st := []) (KX3_at d 13 a2 σ _ _ h2) okX3_at wn_X0_78 rfl rfl (Nat.le_of_ble_eq_true rfl) dX0_lackOf_4 rfl ?_
  refine ky_aload_n (n := 8) dX0_lackOf_7 rfl rfl 0 rfl ?_
  refine ky_getf (q := (RX0, TX0, 17)) (v := ky_r G 26) (n := 11) dX0_lackOf_8 rfl kc_20 rfl (Nat.le_of_ble_eq_true rfl) wg_X0_27 (vf_20_10 _ _) ?_
  refine ky_iload_n (n := 12) dX0_lackOf_11 rfl rfl 1 rfl ?_
  refine ky_iconst (v := (4 : Int32)) (n := 13) dX0_lackOf_12 rfl rfl ?_
  refine ky_imul (n := 14) dX0_lackOf_13 rfl ?_
  refine ky_iload_n (n := 15) dX0_lackOf_14 rfl rfl 2 rfl ?_
  refine ky_iadd (n := 16) dX0_lackOf_15 rfl ?_
  obtain ⟨v6, s4, h5, hf⟩ := ky_bd_e hf
  refine ky_callN (kc := 0) (ks := 0) (kc2 := 0) (ks2 := 0) (as := [ky_r G 26, .int ((a1 * (4 : Int32)) + a2)]) (st := [.int v3]) (KX3_at d 26 ((a1 * (4 : Int32)) + a2) s1 _ _ h5) okX3_at wn_X0_78 rfl rfl (Nat.le_of_ble_eq_true rfl) dX0_lackOf_16 rfl ?_
  refine ky_isub (n := 20) dX0_lackOf_19 rfl ?_
  cases hf
  exact ky_ireturn dX0_lackOf_20 rfl
def fX0_partsIn_L4 : Nat → Int32 → Int32 → Int32 → ky_St → Option (Int32 × ky_St)
  | 0, _, _, _, _ => none
  | fu + 1, x1, x2, x3, σ =>
  if (4 : Int32) ≤ x3 then (
  some (x2, σ)) else (
  ky_bd (fX0_stockOf x1 x3 σ) fun v4 s2 =>
  ky_bn (x2 + v4) fun v5 =>
  ky_bn (x3 + (1 : Int32)) fun v6 =>
  fX0_partsIn_L4 fu x1 v5 v6 s2)
set_option maxHeartbeats 4000000 in
set_option maxRecDepth 100000 in
theorem tX0_partsIn_L4 {G : ky_G} (d : Nat) : ∀ (fu : Nat) (x1 : Int32) (x2 : Int32) (x3 : Int32) (σ : ky_St) (r : Int32) (σ' : ky_St), fX0_partsIn_L4 fu x1 x2 x3 σ = some (r, σ') → ky_T G mX0_partsIn (d + 2) 0 0 4 [(0, ky_r G 20), (1, .int x1), (2, .int x2), (3, .int x3)] [] σ (.inr (some (.int r))) σ' := by
  intro fu
  induction fu with
  | zero =>
    intro x1 x2 x3 σ r σ' hf
    rw [fX0_partsIn_L4] at hf
    cases hf
  | succ fu ih =>
    intro x1 x2 x3 σ r σ' hf
    rw [fX0_partsIn_L4] at hf
    refine ky_iload_n (n := 5) dX0_partsIn_4 rfl rfl 3 rfl ?_
    refine ky_iconst (v := (4 : Int32)) (n := 6) dX0_partsIn_5 rfl rfl ?_
    refine ky_icmp_ge (n := 9) (tgt := 24) dX0_partsIn_6 rfl rfl (fun c1 => ?_) (fun c1 => ?_)
    · have hf := ky_pos c1 hf
      refine ky_iload_n (n := 25) dX0_partsIn_24 rfl rfl 2 rfl ?_
      cases hf
      exact ky_ireturn dX0_partsIn_25 rfl
    · have hf := ky_neg c1 hf
      refine ky_iload_n (n := 10) dX0_partsIn_9 rfl rfl 2 rfl ?_
      refine ky_aload_n (n := 11) dX0_partsIn_10 rfl rfl 0 rfl ?_
      refine ky_iload_n (n := 12) dX0_partsIn_11 rfl rfl 1 rfl ?_
      refine ky_iload_n (n := 13) dX0_partsIn_12 rfl rfl 3 rfl ?_
      obtain ⟨v4, s2, h3, hf⟩ := ky_bd_e hf
      refine ky_callV (kc := 0) (ks := 0) (kc2 := 0) (ks2 := 0) (k0 := 20) (as := [.int x1, .int x3]) (st := [.int x2]) (KX0_stockOf d x1 x3 σ _ _ h3) okX0_stockOf wl_X0_88 kc_20 (q := (RX0, TX0, 17)) rfl rfl rfl rfl (Nat.le_of_ble_eq_true rfl) dX0_partsIn_13 rfl ?_
      refine ky_iadd (n := 17) dX0_partsIn_16 rfl ?_
      refine ky_topi (fun v5 ev5 => ?_)
      have hf := ky_bn_e hf v5 ev5
      refine ky_istore_n (lv' := [(2, .int v5), (0, ky_r G 20), (1, .int x1), (3, .int x3)]) (n := 18) dX0_partsIn_17 rfl rfl (Nat.le_of_ble_eq_true rfl) rfl ?_
      refine ky_iincB (c := (1 : Int32)) (n := 21) dX0_partsIn_18 rfl 3 rfl rfl (Nat.le_of_ble_eq_true rfl) (fun v6 ev6 => ?_)
      have hf := ky_bn_e hf v6 ev6
      refine ky_lv (lv' := [(3, .int v6), (2, .int v5), (0, ky_r G 20), (1, .int x1)]) rfl ?_
      refine ky_goto (tgt := 4) dX0_partsIn_21 rfl ?_
      refine ky_sub [2, 3, 1, 0] (lv' := [(0, ky_r G 20), (1, .int x1), (2, .int v5), (3, .int v6)]) rfl ?_
      exact ih x1 v5 v6 s2 _ _ hf
def fX0_partsIn (a1 : Int32) (σ : ky_St) : Option (Int32 × ky_St) :=
  fX0_partsIn_L4 FU a1 (0 : Int32) (0 : Int32) σ
set_option maxHeartbeats 4000000 in
set_option maxRecDepth 100000 in
theorem KX0_partsIn {G : ky_G} (d : Nat) (a1 : Int32) (σ : ky_St) (r : Int32) (σ' : ky_St) (hf : fX0_partsIn a1 σ = some (r, σ')) : ky_K G mX0_partsIn (d + 2) 0 0 [ky_r G 20, .int a1] σ (.inr (some (.int r))) σ' := by
  unfold fX0_partsIn at hf
  refine ky_enter rfl (by decide +kernel) (Nat.le_of_ble_eq_true rfl) (lv := [(0, ky_r G 20), (1, .int a1)]) rfl ?_
  refine ky_iconst (v := (0 : Int32)) (n := 1) dX0_partsIn_0 rfl rfl ?_
  refine ky_istore_n (lv' := [(2, .int (0 : Int32)), (0, ky_r G 20), (1, .int a1)]) (n := 2) dX0_partsIn_1 rfl rfl (Nat.le_of_ble_eq_true rfl) rfl ?_
  refine ky_iconst (v := (0 : Int32)) (n := 3) dX0_partsIn_2 rfl rfl ?_
  refine ky_istore_n (lv' := [(3, .int (0 : Int32)), (2, .int (0 : Int32)), (0, ky_r G 20), (1, .int a1)]) (n := 4) dX0_partsIn_3 rfl rfl (Nat.le_of_ble_eq_true rfl) rfl ?_
  refine ky_sub [2, 3, 1, 0] (lv' := [(0, ky_r G 20), (1, .int a1), (2, .int (0 : Int32)), (3, .int (0 : Int32))]) rfl ?_
  exact tX0_partsIn_L4 d FU a1 (0 : Int32) (0 : Int32) σ _ _ hf
def fX0_isWhole_L2 : Nat → Int32 → Int32 → ky_St → Option (Int32 × ky_St)
  | 0, _, _, _ => none
  | fu + 1, x1, x2, σ =>
  if (4 : Int32) ≤ x2 then (
  some ((1 : Int32), σ)) else (
  ky_bd (fX3_at 26 ((x1 * (4 : Int32)) + x2) σ) fun v4 s2 =>
  ky_bd (fX3_at 13 x2 s2) fun v7 s5 =>
  if v7 ≤ v4 then (
  ky_bn (x2 + (1 : Int32)) fun v9 =>
  fX0_isWhole_L2 fu x1 v9 s5) else (
  some ((0 : Int32), s5)))
set_option maxHeartbeats 4000000 in
set_option maxRecDepth 100000 in
theorem tX0_isWhole_L2 {G : ky_G} (d : Nat) : ∀ (fu : Nat) (x1 : Int32) (x2 : Int32) (σ : ky_St) (r : Int32) (σ' : ky_St), fX0_isWhole_L2 fu x1 x2 σ = some (r, σ') → ky_T G mX0_isWhole (d + 1) 0 0 2 [(0, ky_r G 20), (1, .int x1), (2, .int x2)] [] σ (.inr (some (.int r))) σ' := by
  intro fu
  induction fu with
  | zero =>
    intro x1 x2 σ r σ' hf
    rw [fX0_isWhole_L2] at hf
    cases hf
  | succ fu ih =>
    intro x1 x2 σ r σ' hf
    rw [fX0_isWhole_L2] at hf
    refine ky_iload_n (n := 3) dX0_isWhole_2 rfl rfl 2 rfl ?_
    refine ky_iconst (v := (4 : Int32)) (n := 4) dX0_isWhole_3 rfl rfl ?_
    refine ky_icmp_ge (n := 7) (tgt := 37) dX0_isWhole_4 rfl rfl (fun c1 => ?_) (fun c1 => ?_)
    · have hf := ky_pos c1 hf
      refine ky_iconst (v := (1 : Int32)) (n := 38) dX0_isWhole_37 rfl rfl ?_
      cases hf
      exact ky_zreturn dX0_isWhole_38 rfl (Or.inr rfl)
    · have hf := ky_neg c1 hf
      refine ky_aload_n (n := 8) dX0_isWhole_7 rfl rfl 0 rfl ?_
      refine ky_getf (q := (RX0, TX0, 17)) (v := ky_r G 26) (n := 11) dX0_isWhole_8 rfl kc_20 rfl (Nat.le_of_ble_eq_true rfl) wg_X0_27 (vf_20_10 _ _) ?_
      refine ky_iload_n (n := 12) dX0_isWhole_11 rfl rfl 1 rfl ?_
      refine ky_iconst (v := (4 : Int32)) (n := 13) dX0_isWhole_12 rfl rfl ?_
      refine ky_imul (n := 14) dX0_isWhole_13 rfl ?_
      refine ky_iload_n (n := 15) dX0_isWhole_14 rfl rfl 2 rfl ?_
      refine ky_iadd (n := 16) dX0_isWhole_15 rfl ?_
      obtain ⟨v4, s2, h3, hf⟩ := ky_bd_e hf
      refine ky_callN (kc := 0) (ks := 0) (kc2 := 0) (ks2 := 0) (as := [ky_r G 26, .int ((x1 * (4 : Int32)) + x2)]) (st := []) (KX3_at d 26 ((x1 * (4 : Int32)) + x2) σ _ _ h3) okX3_at wn_X0_78 rfl rfl (Nat.le_of_ble_eq_true rfl) dX0_isWhole_16 rfl ?_
      refine ky_getsN (n := 22) dX0_isWhole_19 rfl "WHOLE" 13 (Or.inl ⟨rfl, rfl⟩) wnf_85 ?_
      refine ky_iload_n (n := 23) dX0_isWhole_22 rfl rfl 2 rfl ?_
      obtain ⟨v7, s5, h6, hf⟩ := ky_bd_e hf
      refine ky_callN (kc := 0) (ks := 0) (kc2 := 0) (ks2 := 0) (as := [ky_r G 13, .int x2]) (st := [.int v4]) (KX3_at d 13 x2 s2 _ _ h6) okX3_at wn_X0_78 rfl rfl (Nat.le_of_ble_eq_true rfl) dX0_isWhole_23 rfl ?_
      refine ky_icmp_ge (n := 29) (tgt := 31) dX0_isWhole_26 rfl rfl (fun c8 => ?_) (fun c8 => ?_)
      · have hf := ky_pos c8 hf
        refine ky_iincB (c := (1 : Int32)) (n := 34) dX0_isWhole_31 rfl 2 rfl rfl (Nat.le_of_ble_eq_true rfl) (fun v9 ev9 => ?_)
        have hf := ky_bn_e hf v9 ev9
        refine ky_lv (lv' := [(2, .int v9), (0, ky_r G 20), (1, .int x1)]) rfl ?_
        refine ky_goto (tgt := 2) dX0_isWhole_34 rfl ?_
        refine ky_sub [1, 2, 0] (lv' := [(0, ky_r G 20), (1, .int x1), (2, .int v9)]) rfl ?_
        exact ih x1 v9 s5 _ _ hf
      · have hf := ky_neg c8 hf
        refine ky_iconst (v := (0 : Int32)) (n := 30) dX0_isWhole_29 rfl rfl ?_
        cases hf
        exact ky_zreturn dX0_isWhole_30 rfl (Or.inl rfl)
def fX0_isWhole (a1 : Int32) (σ : ky_St) : Option (Int32 × ky_St) :=
  fX0_isWhole_L2 FU a1 (0 : Int32) σ
set_option maxHeartbeats 4000000 in
set_option maxRecDepth 100000 in
theorem KX0_isWhole {G : ky_G} (d : Nat) (a1 : Int32) (σ : ky_St) (r : Int32) (σ' : ky_St) (hf : fX0_isWhole a1 σ = some (r, σ')) : ky_K G mX0_isWhole (d + 1) 0 0 [ky_r G 20, .int a1] σ (.inr (some (.int r))) σ' := by
  unfold fX0_isWhole at hf
  refine ky_enter rfl (by decide +kernel) (Nat.le_of_ble_eq_true rfl) (lv := [(0, ky_r G 20), (1, .int a1)]) rfl ?_
  refine ky_iconst (v := (0 : Int32)) (n := 1) dX0_isWhole_0 rfl rfl ?_
  refine ky_istore_n (lv' := [(2, .int (0 : Int32)), (0, ky_r G 20), (1, .int a1)]) (n := 2) dX0_isWhole_1 rfl rfl (Nat.le_of_ble_eq_true rfl) rfl ?_
  refine ky_sub [1, 2, 0] (lv' := [(0, ky_r G 20), (1, .int a1), (2, .int (0 : Int32))]) rfl ?_
  exact tX0_isWhole_L2 d FU a1 (0 : Int32) σ _ _ hf
def fX0_inYard_L4 : Nat → Int32 → Int32 → ky_St → Option (Int32 × ky_St)
  | 0, _, _, _ => none
  | fu + 1, x1, x2, σ =>
  if (σ.1 20 0) ≤ x2 then (
  some (x1, σ)) else (
  ky_bd (fX0_isInYard x2 σ) fun v4 s2 =>
  if v4 = 0 then (
  ky_bn (x2 + (1 : Int32)) fun v6 =>
  fX0_inYard_L4 fu x1 v6 s2) else (
  ky_bn (x1 + (1 : Int32)) fun v7 =>
  ky_bn (x2 + (1 : Int32)) fun v8 =>
  fX0_inYard_L4 fu v7 v8 s2))
set_option maxHeartbeats 4000000 in
set_option maxRecDepth 100000 in
theorem tX0_inYard_L4 {G : ky_G} (d : Nat) : ∀ (fu : Nat) (x1 : Int32) (x2 : Int32) (σ : ky_St) (r : Int32) (σ' : ky_St), fX0_inYard_L4 fu x1 x2 σ = some (r, σ') → ky_T G mX0_inYard (d + 2) 0 0 4 [(0, ky_r G 20), (1, .int x1), (2, .int x2)] [] σ (.inr (some (.int r))) σ' := by
  intro fu
  induction fu with
  | zero =>
    intro x1 x2 σ r σ' hf
    rw [fX0_inYard_L4] at hf
    cases hf
  | succ fu ih =>
    intro x1 x2 σ r σ' hf
    rw [fX0_inYard_L4] at hf
    refine ky_iload_n (n := 5) dX0_inYard_4 rfl rfl 2 rfl ?_
    refine ky_aload_n (n := 6) dX0_inYard_5 rfl rfl 0 rfl ?_
    refine ky_getf (q := (RX0, TX0, 17)) (v := .int (σ.1 20 0)) (n := 9) dX0_inYard_6 rfl kc_20 rfl (Nat.le_of_ble_eq_true rfl) wg_X0_54 (vf_20_0 _ _) ?_
    refine ky_icmp_ge (n := 12) (tgt := 29) dX0_inYard_9 rfl rfl (fun c1 => ?_) (fun c1 => ?_)
    · have hf := ky_pos c1 hf
      refine ky_iload_n (n := 30) dX0_inYard_29 rfl rfl 1 rfl ?_
      cases hf
      exact ky_ireturn dX0_inYard_30 rfl
    · have hf := ky_neg c1 hf
      refine ky_aload_n (n := 13) dX0_inYard_12 rfl rfl 0 rfl ?_
      refine ky_iload_n (n := 14) dX0_inYard_13 rfl rfl 2 rfl ?_
      obtain ⟨v4, s2, h3, hf⟩ := ky_bd_e hf
      refine ky_callV (kc := 0) (ks := 0) (kc2 := 0) (ks2 := 0) (k0 := 20) (as := [.int x2]) (st := []) (KX0_isInYard d x2 σ _ _ h3) okX0_isInYard wl_X0_92 kc_20 (q := (RX0, TX0, 17)) rfl rfl rfl rfl (Nat.le_of_ble_eq_true rfl) dX0_inYard_14 rfl ?_
      refine ky_if_eq (n := 20) (tgt := 23) dX0_inYard_17 rfl rfl (fun c5 => ?_) (fun c5 => ?_)
      · have hf := ky_pos c5 hf
        refine ky_iincB (c := (1 : Int32)) (n := 26) dX0_inYard_23 rfl 2 rfl rfl (Nat.le_of_ble_eq_true rfl) (fun v6 ev6 => ?_)
        have hf := ky_bn_e hf v6 ev6
        refine ky_lv (lv' := [(2, .int v6), (0, ky_r G 20), (1, .int x1)]) rfl ?_
        refine ky_goto (tgt := 4) dX0_inYard_26 rfl ?_
        refine ky_sub [1, 2, 0] (lv' := [(0, ky_r G 20), (1, .int x1), (2, .int v6)]) rfl ?_
        exact ih x1 v6 s2 _ _ hf
      · have hf := ky_neg c5 hf
        refine ky_iincB (c := (1 : Int32)) (n := 23) dX0_inYard_20 rfl 1 rfl rfl (Nat.le_of_ble_eq_true rfl) (fun v7 ev7 => ?_)
        have hf := ky_bn_e hf v7 ev7
        refine ky_lv (lv' := [(1, .int v7), (0, ky_r G 20), (2, .int x2)]) rfl ?_
        refine ky_iincB (c := (1 : Int32)) (n := 26) dX0_inYard_23 rfl 2 rfl rfl (Nat.le_of_ble_eq_true rfl) (fun v8 ev8 => ?_)
        have hf := ky_bn_e hf v8 ev8
        refine ky_lv (lv' := [(2, .int v8), (1, .int v7), (0, ky_r G 20)]) rfl ?_
        refine ky_goto (tgt := 4) dX0_inYard_26 rfl ?_
        refine ky_sub [2, 1, 0] (lv' := [(0, ky_r G 20), (1, .int v7), (2, .int v8)]) rfl ?_
        exact ih v7 v8 s2 _ _ hf
def fX0_inYard (σ : ky_St) : Option (Int32 × ky_St) :=
  fX0_inYard_L4 FU (0 : Int32) (0 : Int32) σ
set_option maxHeartbeats 4000000 in
set_option maxRecDepth 100000 in
theorem KX0_inYard {G : ky_G} (d : Nat) (σ : ky_St) (r : Int32) (σ' : ky_St) (hf : fX0_inYard σ = some (r, σ')) : ky_K G mX0_inYard (d + 2) 0 0 [ky_r G 20] σ (.inr (some (.int r))) σ' := by
  unfold fX0_inYard at hf
  refine ky_enter rfl (by decide +kernel) (Nat.le_of_ble_eq_true rfl) (lv := [(0, ky_r G 20)]) rfl ?_
  refine ky_iconst (v := (0 : Int32)) (n := 1) dX0_inYard_0 rfl rfl ?_
  refine ky_istore_n (lv' := [(1, .int (0 : Int32)), (0, ky_r G 20)]) (n := 2) dX0_inYard_1 rfl rfl (Nat.le_of_ble_eq_true rfl) rfl ?_
  refine ky_iconst (v := (0 : Int32)) (n := 3) dX0_inYard_2 rfl rfl ?_
  refine ky_istore_n (lv' := [(2, .int (0 : Int32)), (1, .int (0 : Int32)), (0, ky_r G 20)]) (n := 4) dX0_inYard_3 rfl rfl (Nat.le_of_ble_eq_true rfl) rfl ?_
  refine ky_sub [2, 1, 0] (lv' := [(0, ky_r G 20), (1, .int (0 : Int32)), (2, .int (0 : Int32))]) rfl ?_
  exact tX0_inYard_L4 d FU (0 : Int32) (0 : Int32) σ _ _ hf
def fX0_wholeInYard_L4 : Nat → Int32 → Int32 → ky_St → Option (Int32 × ky_St)
  | 0, _, _, _ => none
  | fu + 1, x1, x2, σ =>
  if (σ.1 20 0) ≤ x2 then (
  some (x1, σ)) else (
  ky_bd (fX0_isInYard x2 σ) fun v4 s2 =>
  if v4 = 0 then (
  ky_bn (x2 + (1 : Int32)) fun v6 =>
  fX0_wholeInYard_L4 fu x1 v6 s2) else (
  ky_bd (fX0_isWhole x2 s2) fun v9 s7 =>
  if v9 = 0 then (
  ky_bn (x2 + (1 : Int32)) fun v11 =>
  fX0_wholeInYard_L4 fu x1 v11 s7) else (
  ky_bn (x1 + (1 : Int32)) fun v12 =>
  ky_bn (x2 + (1 : Int32)) fun v13 =>
  fX0_wholeInYard_L4 fu v12 v13 s7)))
set_option maxHeartbeats 4000000 in
set_option maxRecDepth 100000 in
theorem tX0_wholeInYard_L4 {G : ky_G} (d : Nat) : ∀ (fu : Nat) (x1 : Int32) (x2 : Int32) (σ : ky_St) (r : Int32) (σ' : ky_St), fX0_wholeInYard_L4 fu x1 x2 σ = some (r, σ') → ky_T G mX0_wholeInYard (d + 2) 0 0 4 [(0, ky_r G 20), (1, .int x1), (2, .int x2)] [] σ (.inr (some (.int r))) σ' := by
  intro fu
  induction fu with
  | zero =>
    intro x1 x2 σ r σ' hf
    rw [fX0_wholeInYard_L4] at hf
    cases hf
  | succ fu ih =>
    intro x1 x2 σ r σ' hf
    rw [fX0_wholeInYard_L4] at hf
    refine ky_iload_n (n := 5) dX0_wholeInYard_4 rfl rfl 2 rfl ?_
    refine ky_aload_n (n := 6) dX0_wholeInYard_5 rfl rfl 0 rfl ?_
    refine ky_getf (q := (RX0, TX0, 17)) (v := .int (σ.1 20 0)) (n := 9) dX0_wholeInYard_6 rfl kc_20 rfl (Nat.le_of_ble_eq_true rfl) wg_X0_54 (vf_20_0 _ _) ?_
    refine ky_icmp_ge (n := 12) (tgt := 37) dX0_wholeInYard_9 rfl rfl (fun c1 => ?_) (fun c1 => ?_)
    · have hf := ky_pos c1 hf
      refine ky_iload_n (n := 38) dX0_wholeInYard_37 rfl rfl 1 rfl ?_
      cases hf
      exact ky_ireturn dX0_wholeInYard_38 rfl
    · have hf := ky_neg c1 hf
      refine ky_aload_n (n := 13) dX0_wholeInYard_12 rfl rfl 0 rfl ?_
      refine ky_iload_n (n := 14) dX0_wholeInYard_13 rfl rfl 2 rfl ?_
      obtain ⟨v4, s2, h3, hf⟩ := ky_bd_e hf
      refine ky_callV (kc := 0) (ks := 0) (kc2 := 0) (ks2 := 0) (k0 := 20) (as := [.int x2]) (st := []) (KX0_isInYard d x2 σ _ _ h3) okX0_isInYard wl_X0_92 kc_20 (q := (RX0, TX0, 17)) rfl rfl rfl rfl (Nat.le_of_ble_eq_true rfl) dX0_wholeInYard_14 rfl ?_
      refine ky_if_eq (n := 20) (tgt := 31) dX0_wholeInYard_17 rfl rfl (fun c5 => ?_) (fun c5 => ?_)
      · have hf := ky_pos c5 hf
        refine ky_iincB (c := (1 : Int32)) (n := 34) dX0_wholeInYard_31 rfl 2 rfl rfl (Nat.le_of_ble_eq_true rfl) (fun v6 ev6 => ?_)
        have hf := ky_bn_e hf v6 ev6
        refine ky_lv (lv' := [(2, .int v6), (0, ky_r G 20), (1, .int x1)]) rfl ?_
        refine ky_goto (tgt := 4) dX0_wholeInYard_34 rfl ?_
        refine ky_sub [1, 2, 0] (lv' := [(0, ky_r G 20), (1, .int x1), (2, .int v6)]) rfl ?_
        exact ih x1 v6 s2 _ _ hf
      · have hf := ky_neg c5 hf
        refine ky_aload_n (n := 21) dX0_wholeInYard_20 rfl rfl 0 rfl ?_
        refine ky_iload_n (n := 22) dX0_wholeInYard_21 rfl rfl 2 rfl ?_
        obtain ⟨v9, s7, h8, hf⟩ := ky_bd_e hf
        refine ky_callV (kc := 0) (ks := 0) (kc2 := 0) (ks2 := 0) (k0 := 20) (as := [.int x2]) (st := []) (KX0_isWhole d x2 s2 _ _ h8) okX0_isWhole wl_X0_95 kc_20 (q := (RX0, TX0, 17)) rfl rfl rfl rfl (Nat.le_of_ble_eq_true rfl) dX0_wholeInYard_22 rfl ?_
        refine ky_if_eq (n := 28) (tgt := 31) dX0_wholeInYard_25 rfl rfl (fun c10 => ?_) (fun c10 => ?_)
        · have hf := ky_pos c10 hf
          refine ky_iincB (c := (1 : Int32)) (n := 34) dX0_wholeInYard_31 rfl 2 rfl rfl (Nat.le_of_ble_eq_true rfl) (fun v11 ev11 => ?_)
          have hf := ky_bn_e hf v11 ev11
          refine ky_lv (lv' := [(2, .int v11), (0, ky_r G 20), (1, .int x1)]) rfl ?_
          refine ky_goto (tgt := 4) dX0_wholeInYard_34 rfl ?_
          refine ky_sub [1, 2, 0] (lv' := [(0, ky_r G 20), (1, .int x1), (2, .int v11)]) rfl ?_
          exact ih x1 v11 s7 _ _ hf
        · have hf := ky_neg c10 hf
          refine ky_iincB (c := (1 : Int32)) (n := 31) dX0_wholeInYard_28 rfl 1 rfl rfl (Nat.le_of_ble_eq_true rfl) (fun v12 ev12 => ?_)
          have hf := ky_bn_e hf v12 ev12
          refine ky_lv (lv' := [(1, .int v12), (0, ky_r G 20), (2, .int x2)]) rfl ?_
          refine ky_iincB (c := (1 : Int32)) (n := 34) dX0_wholeInYard_31 rfl 2 rfl rfl (Nat.le_of_ble_eq_true rfl) (fun v13 ev13 => ?_)
          have hf := ky_bn_e hf v13 ev13
          refine ky_lv (lv' := [(2, .int v13), (1, .int v12), (0, ky_r G 20)]) rfl ?_
          refine ky_goto (tgt := 4) dX0_wholeInYard_34 rfl ?_
          refine ky_sub [2, 1, 0] (lv' := [(0, ky_r G 20), (1, .int v12), (2, .int v13)]) rfl ?_
          exact ih v12 v13 s7 _ _ hf
def fX0_wholeInYard (σ : ky_St) : Option (Int32 × ky_St) :=
  fX0_wholeInYard_L4 FU (0 : Int32) (0 : Int32) σ
set_option maxHeartbeats 4000000 in
set_option maxRecDepth 100000 in
theorem KX0_wholeInYard {G : ky_G} (d : Nat) (σ : ky_St) (r : Int32) (σ' : ky_St) (hf : fX0_wholeInYard σ = some (r, σ')) : ky_K G mX0_wholeInYard (d + 2) 0 0 [ky_r G 20] σ (.inr (some (.int r))) σ' := by
  unfold fX0_wholeInYard at hf
  refine ky_enter rfl (by decide +kernel) (Nat.le_of_ble_eq_true rfl) (lv := [(0, ky_r G 20)]) rfl ?_
  refine ky_iconst (v := (0 : Int32)) (n := 1) dX0_wholeInYard_0 rfl rfl ?_
  refine ky_istore_n (lv' := [(1, .int (0 : Int32)), (0, ky_r G 20)]) (n := 2) dX0_wholeInYard_1 rfl rfl (Nat.le_of_ble_eq_true rfl) rfl ?_
  refine ky_iconst (v := (0 : Int32)) (n := 3) dX0_wholeInYard_2 rfl rfl ?_
  refine ky_istore_n (lv' := [(2, .int (0 : Int32)), (1, .int (0 : Int32)), (0, ky_r G 20)]) (n := 4) dX0_wholeInYard_3 rfl rfl (Nat.le_of_ble_eq_true rfl) rfl ?_
  refine ky_sub [2, 1, 0] (lv' := [(0, ky_r G 20), (1, .int (0 : Int32)), (2, .int (0 : Int32))]) rfl ?_
  exact tX0_wholeInYard_L4 d FU (0 : Int32) (0 : Int32) σ _ _ hf
def fX3_put (k : Nat) (a2 : Int32) (a3 : Int32) (σ : ky_St) : Option (Unit × ky_St) :=
  if a2 < 0 then (
  some ((), σ)) else (
  (ky_la k).bind fun n2 =>
  if (Int32.ofNat n2) ≤ a2 then (
  some ((), σ)) else (
  (ky_la k).bind fun n5 =>
  ky_g (ky_ro k = false) (
  ky_g (¬ (a2 < 0 ∨ n5 ≤ a2.toNatClampNeg)) (
  ky_bn (ky_u1 σ k a2.toNatClampNeg a3) fun s9 =>
  some ((), s9)))))
set_option maxHeartbeats 4000000 in
set_option maxRecDepth 100000 in
theorem KX3_put {G : ky_G} (d : Nat) (k : Nat) (a2 : Int32) (a3 : Int32) (σ : ky_St) (r : Unit) (σ' : ky_St) (hf : fX3_put k a2 a3 σ = some (r, σ')) : ky_K G mX3_put d 0 0 [ky_r G k, .int a2, .int a3] σ (.inr none) σ' := by
  unfold fX3_put at hf
  refine ky_enter rfl (by decide +kernel) (Nat.le_of_ble_eq_true rfl) (lv := [(0, ky_r G k), (1, .int a2), (2, .int a3)]) rfl ?_
  refine ky_aload_n (n := 1) dX3_put_0 rfl rfl 0 rfl ?_
  refine ky_ifnull (n := 4) dX3_put_1 rfl ?_
  refine ky_iload_n (n := 5) dX3_put_4 rfl rfl 1 rfl ?_
  refine ky_if_lt (n := 8) (tgt := 18) dX3_put_5 rfl rfl (fun c1 => ?_) (fun c1 => ?_)
  · have hf := ky_pos c1 hf
    cases hf
    exact ky_return dX3_put_18 rfl
  · have hf := ky_neg c1 hf
    refine ky_iload_n (n := 9) dX3_put_8 rfl rfl 1 rfl ?_
    refine ky_aload_n (n := 10) dX3_put_9 rfl rfl 0 rfl ?_
    obtain ⟨n2, g3, hf⟩ := ky_ob_e hf
    refine ky_alen (n := 11) dX3_put_10 rfl (ky_la_len g3) ?_
    refine ky_icmp_ge (n := 14) (tgt := 18) dX3_put_11 rfl rfl (fun c4 => ?_) (fun c4 => ?_)
    · have hf := ky_pos c4 hf
      cases hf
      exact ky_return dX3_put_18 rfl
    · have hf := ky_neg c4 hf
      refine ky_aload_n (n := 15) dX3_put_14 rfl rfl 0 rfl ?_
      refine ky_iload_n (n := 16) dX3_put_15 rfl rfl 1 rfl ?_
      refine ky_iload_n (n := 17) dX3_put_16 rfl rfl 2 rfl ?_
      obtain ⟨n5, g6, hf⟩ := ky_ob_e hf
      obtain ⟨g7, hf⟩ := ky_ge hf
      obtain ⟨g8, hf⟩ := ky_ge hf
      refine ky_iast (n := 18) dX3_put_17 rfl (ky_la_len g6) g7 g8 (fun s9 es9 => ?_)
      have hf := ky_bn_e hf s9 es9
      cases hf
      exact ky_return dX3_put_18 rfl
def fX0_addSets_L18 (rec2 : Int32 → Int32 → ky_St → Option (Unit × ky_St)) : Nat → Int32 → Int32 → Int32 → ky_St → Option (Unit × ky_St)
  | 0, _, _, _, _ => none
  | fu + 1, x1, x2, x3, σ =>
  if (4 : Int32) ≤ x3 then (
  ky_bn (ky_u1 σ 20 0 ((σ.1 20 0) + (1 : Int32))) fun s4 =>
  ky_bn (x2 + (1 : Int32)) fun v5 =>
  rec2 x1 v5 s4) else (
  ky_bd (fX3_at 13 x3 σ) fun v8 s6 =>
  ky_bd (fX3_put 26 (((σ.1 20 0) * (4 : Int32)) + x3) v8 s6) fun v11 s9 =>
  ky_bd (fX3_at 13 x3 s9) fun v14 s12 =>
  ky_bd (fX3_at 14 x3 s12) fun v17 s15 =>
  ky_bn (ky_u1 s15 20 4 ((s9.1 20 4) + (v14 * v17))) fun s18 =>
  ky_bn (x3 + (1 : Int32)) fun v19 =>
  fX0_addSets_L18 rec2 fu x1 x2 v19 s18)
set_option maxHeartbeats 4000000 in
set_option maxRecDepth 100000 in
theorem tX0_addSets_L18 {G : ky_G} {rec2 : Int32 → Int32 → ky_St → Option (Unit × ky_St)} (d : Nat) (hrec2 : ∀ (x1 : Int32) (x2 : Int32) (σ : ky_St) (r : Unit) (σ' : ky_St), rec2 x1 x2 σ = some (r, σ') → ky_T G mX0_addSets (d + 1) 0 0 2 [(0, ky_r G 20), (1, .int x1), (2, .int x2)] [] σ (.inr none) σ') : ∀ (fu : Nat) (x1 : Int32) (x2 : Int32) (x3 : Int32) (σ : ky_St) (r : Unit) (σ' : ky_St), fX0_addSets_L18 rec2 fu x1 x2 x3 σ = some (r, σ') → ky_T G mX0_addSets (d + 1) 0 0 18 [(0, ky_r G 20), (1, .int x1), (2, .int x2), (3, .int x3)] [] σ (.inr none) σ' := by
  intro fu
  induction fu with
  | zero =>
    intro x1 x2 x3 σ r σ' hf
    rw [fX0_addSets_L18] at hf
    cases hf
  | succ fu ih =>
    intro x1 x2 x3 σ r σ' hf
    rw [fX0_addSets_L18] at hf
    refine ky_iload_n (n := 19) dX0_addSets_18 rfl rfl 3 rfl ?_
    refine ky_iconst (v := (4 : Int32)) (n := 20) dX0_addSets_19 rfl rfl ?_
    refine ky_icmp_ge (n := 23) (tgt := 75) dX0_addSets_20 rfl rfl (fun c3 => ?_) (fun c3 => ?_)
    · have hf := ky_pos c3 hf
      refine ky_aload_n (n := 76) dX0_addSets_75 rfl rfl 0 rfl ?_
      refine ky_dup (n := 77) dX0_addSets_76 rfl rfl ?_
      refine ky_getf (q := (RX0, TX0, 17)) (v := .int (σ.1 20 0)) (n := 80) dX0_addSets_77 rfl kc_20 rfl (Nat.le_of_ble_eq_true rfl) wg_X0_54 (vf_20_0 _ _) ?_
      refine ky_iconst (v := (1 : Int32)) (n := 81) dX0_addSets_80 rfl rfl ?_
      refine ky_iadd (n := 82) dX0_addSets_81 rfl ?_
      refine ky_putf (q := (RX0, TX0, 17)) (n := 85) dX0_addSets_82 rfl kc_20 rfl (Nat.le_of_ble_eq_true rfl) wg_X0_54 rfl (by decide +kernel) rfl (fun s4 es4 => ?_)
      have hf := ky_bn_e hf s4 es4
      refine ky_iincB (c := (1 : Int32)) (n := 88) dX0_addSets_85 rfl 2 rfl rfl (Nat.le_of_ble_eq_true rfl) (fun v5 ev5 => ?_)
      have hf := ky_bn_e hf v5 ev5
      refine ky_lv (lv' := [(2, .int v5), (0, ky_r G 20), (1, .int x1), (3, .int x3)]) rfl ?_
      refine ky_goto (tgt := 2) dX0_addSets_88 rfl ?_
      refine ky_sub [1, 2, 0] (lv' := [(0, ky_r G 20), (1, .int x1), (2, .int v5)]) rfl ?_
      exact hrec2 x1 v5 s4 _ _ hf
    · have hf := ky_neg c3 hf
      refine ky_aload_n (n := 24) dX0_addSets_23 rfl rfl 0 rfl ?_
      refine ky_getf (q := (RX0, TX0, 17)) (v := ky_r G 26) (n := 27) dX0_addSets_24 rfl kc_20 rfl (Nat.le_of_ble_eq_true rfl) wg_X0_27 (vf_20_10 _ _) ?_
      refine ky_aload_n (n := 28) dX0_addSets_27 rfl rfl 0 rfl ?_
      refine ky_getf (q := (RX0, TX0, 17)) (v := .int (σ.1 20 0)) (n := 31) dX0_addSets_28 rfl kc_20 rfl (Nat.le_of_ble_eq_true rfl) wg_X0_54 (vf_20_0 _ _) ?_
      refine ky_iconst (v := (4 : Int32)) (n := 32) dX0_addSets_31 rfl rfl ?_
      refine ky_imul (n := 33) dX0_addSets_32 rfl ?_
      refine ky_iload_n (n := 34) dX0_addSets_33 rfl rfl 3 rfl ?_
      refine ky_iadd (n := 35) dX0_addSets_34 rfl ?_
      refine ky_getsN (n := 38) dX0_addSets_35 rfl "WHOLE" 13 (Or.inl ⟨rfl, rfl⟩) wnf_85 ?_
      refine ky_iload_n (n := 39) dX0_addSets_38 rfl rfl 3 rfl ?_
      obtain ⟨v8, s6, h7, hf⟩ := ky_bd_e hf
      refine ky_callN (kc := 0) (ks := 0) (kc2 := 0) (ks2 := 0) (as := [ky_r G 13, .int x3]) (st := [.int (((σ.1 20 0) * (4 : Int32)) + x3), ky_r G 26]) (KX3_at d 13 x3 σ _ _ h7) okX3_at wn_X0_78 rfl rfl (Nat.le_of_ble_eq_true rfl) dX0_addSets_39 rfl ?_
      obtain ⟨v11, s9, h10, hf⟩ := ky_bd_e hf
      refine ky_callN (kc := 0) (ks := 0) (kc2 := 0) (ks2 := 0) (as := [ky_r G 26, .int (((σ.1 20 0) * (4 : Int32)) + x3), .int v8]) (st := []) (KX3_put d 26 (((σ.1 20 0) * (4 : Int32)) + x3) v8 s6 _ _ h10) okX3_put wn_X0_98 rfl rfl (Nat.le_of_ble_eq_true rfl) dX0_addSets_42 rfl ?_
      refine ky_aload_n (n := 46) dX0_addSets_45 rfl rfl 0 rfl ?_
      refine ky_dup (n := 47) dX0_addSets_46 rfl rfl ?_
      refine ky_getf (q := (RX0, TX0, 17)) (v := .int (s9.1 20 4)) (n := 50) dX0_addSets_47 rfl kc_20 rfl (Nat.le_of_ble_eq_true rfl) wg_X0_67 (vf_20_4 _ _) ?_
      refine ky_getsN (n := 53) dX0_addSets_50 rfl "WHOLE" 13 (Or.inl ⟨rfl, rfl⟩) wnf_85 ?_
      refine ky_iload_n (n := 54) dX0_addSets_53 rfl rfl 3 rfl ?_
      obtain ⟨v14, s12, h13, hf⟩ := ky_bd_e hf
      refine ky_callN (kc := 0) (ks := 0) (kc2 := 0) (ks2 := 0) (as := [ky_r G 13, .int x3]) (st := [.int (s9.1 20 4), ky_r G 20]) (KX3_at d 13 x3 s9 _ _ h13) okX3_at wn_X0_78 rfl rfl (Nat.le_of_ble_eq_true rfl) dX0_addSets_54 rfl ?_
      refine ky_getsN (n := 60) dX0_addSets_57 rfl "PRICE" 14 (Or.inr ⟨rfl, rfl⟩) wnf_102 ?_
      refine ky_iload_n (n := 61) dX0_addSets_60 rfl rfl 3 rfl ?_
      obtain ⟨v17, s15, h16, hf⟩ := ky_bd_e hf
      refine ky_callN (kc := 0) (ks := 0) (kc2 := 0) (ks2 := 0) (as := [ky_r G 14, .int x3]) (st := [.int v14, .int (s9.1 20 4), ky_r G 20]) (KX3_at d 14 x3 s12 _ _ h16) okX3_at wn_X0_78 rfl rfl (Nat.le_of_ble_eq_true rfl) dX0_addSets_61 rfl ?_
      refine ky_imul (n := 65) dX0_addSets_64 rfl ?_
      refine ky_iadd (n := 66) dX0_addSets_65 rfl ?_
      refine ky_putf (q := (RX0, TX0, 17)) (n := 69) dX0_addSets_66 rfl kc_20 rfl (Nat.le_of_ble_eq_true rfl) wg_X0_67 rfl (by decide +kernel) rfl (fun s18 es18 => ?_)
      have hf := ky_bn_e hf s18 es18
      refine ky_iincB (c := (1 : Int32)) (n := 72) dX0_addSets_69 rfl 3 rfl rfl (Nat.le_of_ble_eq_true rfl) (fun v19 ev19 => ?_)
      have hf := ky_bn_e hf v19 ev19
      refine ky_lv (lv' := [(3, .int v19), (0, ky_r G 20), (1, .int x1), (2, .int x2)]) rfl ?_
      refine ky_goto (tgt := 18) dX0_addSets_72 rfl ?_
      refine ky_sub [1, 2, 3, 0] (lv' := [(0, ky_r G 20), (1, .int x1), (2, .int x2), (3, .int v19)]) rfl ?_
      exact ih x1 x2 v19 s18 _ _ hf
def fX0_addSets_L2 : Nat → Int32 → Int32 → ky_St → Option (Unit × ky_St)
  | 0, _, _, _ => none
  | fu + 1, x1, x2, σ =>
  if x1 ≤ x2 then (
  some ((), σ)) else (
  if (24 : Int32) ≤ (σ.1 20 0) then (
  some ((), σ)) else (
  fX0_addSets_L18 (fX0_addSets_L2 fu) FU x1 x2 (0 : Int32) σ))
set_option maxHeartbeats 4000000 in
set_option maxRecDepth 100000 in
theorem tX0_addSets_L2 {G : ky_G} (d : Nat) : ∀ (fu : Nat) (x1 : Int32) (x2 : Int32) (σ : ky_St) (r : Unit) (σ' : ky_St), fX0_addSets_L2 fu x1 x2 σ = some (r, σ') → ky_T G mX0_addSets (d + 1) 0 0 2 [(0, ky_r G 20), (1, .int x1), (2, .int x2)] [] σ (.inr none) σ' := by
  intro fu
  induction fu with
  | zero =>
    intro x1 x2 σ r σ' hf
    rw [fX0_addSets_L2] at hf
    cases hf
  | succ fu ih =>
    intro x1 x2 σ r σ' hf
    rw [fX0_addSets_L2] at hf
    refine ky_iload_n (n := 3) dX0_addSets_2 rfl rfl 2 rfl ?_
    refine ky_iload_n (n := 4) dX0_addSets_3 rfl rfl 1 rfl ?_
    refine ky_icmp_ge (n := 7) (tgt := 91) dX0_addSets_4 rfl rfl (fun c1 => ?_) (fun c1 => ?_)
    · have hf := ky_pos c1 hf
      cases hf
      exact ky_return dX0_addSets_91 rfl
    · have hf := ky_neg c1 hf
      refine ky_aload_n (n := 8) dX0_addSets_7 rfl rfl 0 rfl ?_
      refine ky_getf (q := (RX0, TX0, 17)) (v := .int (σ.1 20 0)) (n := 11) dX0_addSets_8 rfl kc_20 rfl (Nat.le_of_ble_eq_true rfl) wg_X0_54 (vf_20_0 _ _) ?_
      refine ky_bipush (v := (24 : Int32)) (n := 13) dX0_addSets_11 rfl rfl ?_
      refine ky_icmp_ge (n := 16) (tgt := 91) dX0_addSets_13 rfl rfl (fun c2 => ?_) (fun c2 => ?_)
      · have hf := ky_pos c2 hf
        cases hf
        exact ky_return dX0_addSets_91 rfl
      · have hf := ky_neg c2 hf
        refine ky_iconst (v := (0 : Int32)) (n := 17) dX0_addSets_16 rfl rfl ?_
        refine ky_istore_n (lv' := [(3, .int (0 : Int32)), (0, ky_r G 20), (1, .int x1), (2, .int x2)]) (n := 18) dX0_addSets_17 rfl rfl (Nat.le_of_ble_eq_true rfl) rfl ?_
        refine ky_sub [1, 2, 3, 0] (lv' := [(0, ky_r G 20), (1, .int x1), (2, .int x2), (3, .int (0 : Int32))]) rfl ?_
        exact tX0_addSets_L18 d ih FU x1 x2 (0 : Int32) σ _ _ hf
def fX0_addSets (a1 : Int32) (σ : ky_St) : Option (Unit × ky_St) :=
  fX0_addSets_L2 FU a1 (0 : Int32) σ
set_option maxHeartbeats 4000000 in
set_option maxRecDepth 100000 in
theorem KX0_addSets {G : ky_G} (d : Nat) (a1 : Int32) (σ : ky_St) (r : Unit) (σ' : ky_St) (hf : fX0_addSets a1 σ = some (r, σ')) : ky_K G mX0_addSets (d + 1) 0 0 [ky_r G 20, .int a1] σ (.inr none) σ' := by
  unfold fX0_addSets at hf
  refine ky_enter rfl (by decide +kernel) (Nat.le_of_ble_eq_true rfl) (lv := [(0, ky_r G 20), (1, .int a1)]) rfl ?_
  refine ky_iconst (v := (0 : Int32)) (n := 1) dX0_addSets_0 rfl rfl ?_
  refine ky_istore_n (lv' := [(2, .int (0 : Int32)), (0, ky_r G 20), (1, .int a1)]) (n := 2) dX0_addSets_1 rfl rfl (Nat.le_of_ble_eq_true rfl) rfl ?_
  refine ky_sub [1, 2, 0] (lv' := [(0, ky_r G 20), (1, .int a1), (2, .int (0 : Int32))]) rfl ?_
  exact tX0_addSets_L2 d FU a1 (0 : Int32) σ _ _ hf
def fX3_add (k : Nat) (a2 : Int32) (a3 : Int32) (σ : ky_St) : Option (Unit × ky_St) :=
  ky_bd (fX3_at k a2 σ) fun v3 s1 =>
  ky_bd (fX3_put k a2 (v3 + a3) s1) fun v6 s4 =>
  some ((), s4)
set_option maxHeartbeats 4000000 in
set_option maxRecDepth 100000 in
theorem KX3_add {G : ky_G} (d : Nat) (k : Nat) (a2 : Int32) (a3 : Int32) (σ : ky_St) (r : Unit) (σ' : ky_St) (hf : fX3_add k a2 a3 σ = some (r, σ')) : ky_K G mX3_add (d + 1) 0 0 [ky_r G k, .int a2, .int a3] σ (.inr none) σ' := by
  unfold fX3_add at hf
  refine ky_enter rfl (by decide +kernel) (Nat.le_of_ble_eq_true rfl) (lv := [(0, ky_r G k), (1, .int a2), (2, .int a3)]) rfl ?_
  refine ky_aload_n (n := 1) dX3_add_0 rfl rfl 0 rfl ?_
  refine ky_iload_n (n := 2) dX3_add_1 rfl rfl 1 rfl ?_
  refine ky_aload_n (n := 3) dX3_add_2 rfl rfl 0 rfl ?_
  refine ky_iload_n (n := 4) dX3_add_3 rfl rfl 1 rfl ?_
  obtain ⟨v3, s1, h2, hf⟩ := ky_bd_e hf
  refine ky_callS (kc := 0) (ks := 0) (kc2 := 0) (ks2 := 0) (as := [ky_r G k, .int a2]) (st := [.int a2, ky_r G k]) (KX3_at d k a2 σ _ _ h2) okX3_at wl_X3_64 rfl rfl (Nat.le_of_ble_eq_true rfl) dX3_add_4 rfl ?_
  refine ky_iload_n (n := 8) dX3_add_7 rfl rfl 2 rfl ?_
  refine ky_iadd (n := 9) dX3_add_8 rfl ?_
  obtain ⟨v6, s4, h5, hf⟩ := ky_bd_e hf
  refine ky_callS (kc := 0) (ks := 0) (kc2 := 0) (ks2 := 0) (as := [ky_r G k, .int a2, .int (v3 + a3)]) (st := []) (KX3_put d k a2 (v3 + a3) s1 _ _ h5) okX3_put wl_X3_168 rfl rfl (Nat.le_of_ble_eq_true rfl) dX3_add_9 rfl ?_
  cases hf
  exact ky_return dX3_add_12 rfl
def fX0_addSpare (a1 : Int32) (a2 : Int32) (σ : ky_St) : Option (Unit × ky_St) :=
  ky_bd (fX3_add 27 a1 a2 σ) fun v3 s1 =>
  ky_bd (fX3_at 14 a1 s1) fun v6 s4 =>
  ky_bn (ky_u1 s4 20 4 ((s1.1 20 4) + (a2 * v6))) fun s7 =>
  some ((), s7)
set_option maxHeartbeats 4000000 in
set_option maxRecDepth 100000 in
theorem KX0_addSpare {G : ky_G} (d : Nat) (a1 : Int32) (a2 : Int32) (σ : ky_St) (r : Unit) (σ' : ky_St) (hf : fX0_addSpare a1 a2 σ = some (r, σ')) : ky_K G mX0_addSpare (d + 2) 0 0 [ky_r G 20, .int a1, .int a2] σ (.inr none) σ' := by
  unfold fX0_addSpare at hf
  refine ky_enter rfl (by decide +kernel) (Nat.le_of_ble_eq_true rfl) (lv := [(0, ky_r G 20), (1, .int a1), (2, .int a2)]) rfl ?_
  refine ky_aload_n (n := 1) dX0_addSpare_0 rfl rfl 0 rfl ?_
  refine ky_getf (q := (RX0, TX0, 17)) (v := ky_r G 27) (n := 4) dX0_addSpare_1 rfl kc_20 rfl (Nat.le_of_ble_eq_true rfl) wg_X0_30 (vf_20_11 _ _) ?_
  refine ky_iload_n (n := 5) dX0_addSpare_4 rfl rfl 1 rfl ?_
  refine ky_iload_n (n := 6) dX0_addSpare_5 rfl rfl 2 rfl ?_
  obtain ⟨v3, s1, h2, hf⟩ := ky_bd_e hf
  refine ky_callN (kc := 0) (ks := 0) (kc2 := 0) (ks2 := 0) (as := [ky_r G 27, .int a1, .int a2]) (st := []) (KX3_add d 27 a1 a2 σ _ _ h2) okX3_add wn_X0_105 rfl rfl (Nat.le_of_ble_eq_true rfl) dX0_addSpare_6 rfl ?_
  refine ky_aload_n (n := 10) dX0_addSpare_9 rfl rfl 0 rfl ?_
  refine ky_dup (n := 11) dX0_addSpare_10 rfl rfl ?_
  refine ky_getf (q := (RX0, TX0, 17)) (v := .int (s1.1 20 4)) (n := 14) dX0_addSpare_11 rfl kc_20 rfl (Nat.le_of_ble_eq_true rfl) wg_X0_67 (vf_20_4 _ _) ?_
  refine ky_iload_n (n := 15) dX0_addSpare_14 rfl rfl 2 rfl ?_
  refine ky_getsN (n := 18) dX0_addSpare_15 rfl "PRICE" 14 (Or.inr ⟨rfl, rfl⟩) wnf_102 ?_
  refine ky_iload_n (n := 19) dX0_addSpare_18 rfl rfl 1 rfl ?_
  obtain ⟨v6, s4, h5, hf⟩ := ky_bd_e hf
  refine ky_callN (kc := 0) (ks := 0) (kc2 := 0) (ks2 := 0) (as := [ky_r G 14, .int a1]) (st := [.int a2, .int (s1.1 20 4), ky_r G 20]) (KX3_at (d + 1) 14 a1 s1 _ _ h5) okX3_at wn_X0_78 rfl rfl (Nat.le_of_ble_eq_true rfl) dX0_addSpare_19 rfl ?_
  refine ky_imul (n := 23) dX0_addSpare_22 rfl ?_
  refine ky_iadd (n := 24) dX0_addSpare_23 rfl ?_
  refine ky_putf (q := (RX0, TX0, 17)) (n := 27) dX0_addSpare_24 rfl kc_20 rfl (Nat.le_of_ble_eq_true rfl) wg_X0_67 rfl (by decide +kernel) rfl (fun s7 es7 => ?_)
  have hf := ky_bn_e hf s7 es7
  cases hf
  exact ky_return dX0_addSpare_27 rfl
def fX0_fillUp_L4 : Nat → Int32 → Int32 → Int32 → ky_St → Option (Int32 × ky_St)
  | 0, _, _, _, _ => none
  | fu + 1, x1, x2, x3, σ =>
  if (4 : Int32) ≤ x3 then (
  some (x2, σ)) else (
  ky_bd (fX0_lackOf x1 x3 σ) fun v4 s2 =>
  ky_bd (fX3_at 27 x3 s2) fun v7 s5 =>
  ky_bn (if v7 < v4 then v7 else v4) fun v8 =>
  ky_bd (fX3_add 27 x3 (-v8) s5) fun v11 s9 =>
  ky_bd (fX3_add 26 ((x1 * (4 : Int32)) + x3) v8 s9) fun v14 s12 =>
  ky_bn (x2 + v8) fun v15 =>
  ky_bn (x3 + (1 : Int32)) fun v16 =>
  fX0_fillUp_L4 fu x1 v15 v16 s12)
set_option maxHeartbeats 4000000 in
set_option maxRecDepth 100000 in
theorem tX0_fillUp_L4 {G : ky_G} (d : Nat) : ∀ (fu : Nat) (x1 : Int32) (x2 : Int32) (x3 : Int32) (σ : ky_St) (r : Int32) (σ' : ky_St), fX0_fillUp_L4 fu x1 x2 x3 σ = some (r, σ') → ky_T G mX0_fillUp (d + 2) 0 0 4 [(0, ky_r G 20), (1, .int x1), (2, .int x2), (3, .int x3)] [] σ (.inr (some (.int r))) σ' := by
  intro fu
  induction fu with
  | zero =>
    intro x1 x2 x3 σ r σ' hf
    rw [fX0_fillUp_L4] at hf
    cases hf
  | succ fu ih =>
    intro x1 x2 x3 σ r σ' hf
    rw [fX0_fillUp_L4] at hf
    refine ky_iload_n (n := 5) dX0_fillUp_4 rfl rfl 3 rfl ?_
    refine ky_iconst (v := (4 : Int32)) (n := 6) dX0_fillUp_5 rfl rfl ?_
    refine ky_icmp_ge (n := 9) (tgt := 64) dX0_fillUp_6 rfl rfl (fun c1 => ?_) (fun c1 => ?_)
    · have hf := ky_pos c1 hf
      refine ky_iload_n (n := 65) dX0_fillUp_64 rfl rfl 2 rfl ?_
      cases hf
      exact ky_ireturn dX0_fillUp_65 rfl
    · have hf := ky_neg c1 hf
      refine ky_aload_n (n := 10) dX0_fillUp_9 rfl rfl 0 rfl ?_
      refine ky_iload_n (n := 11) dX0_fillUp_10 rfl rfl 1 rfl ?_
      refine ky_iload_n (n := 12) dX0_fillUp_11 rfl rfl 3 rfl ?_
      obtain ⟨v4, s2, h3, hf⟩ := ky_bd_e hf
      refine ky_callV (kc := 0) (ks := 0) (kc2 := 0) (ks2 := 0) (k0 := 20) (as := [.int x1, .int x3]) (st := []) (KX0_lackOf d x1 x3 σ _ _ h3) okX0_lackOf wl_X0_108 kc_20 (q := (RX0, TX0, 17)) rfl rfl rfl rfl (Nat.le_of_ble_eq_true rfl) dX0_fillUp_12 rfl ?_
      refine ky_aload_n (n := 16) dX0_fillUp_15 rfl rfl 0 rfl ?_
      refine ky_getf (q := (RX0, TX0, 17)) (v := ky_r G 27) (n := 19) dX0_fillUp_16 rfl kc_20 rfl (Nat.le_of_ble_eq_true rfl) wg_X0_30 (vf_20_11 _ _) ?_
      refine ky_iload_n (n := 20) dX0_fillUp_19 rfl rfl 3 rfl ?_
      obtain ⟨v7, s5, h6, hf⟩ := ky_bd_e hf
      refine ky_callN (kc := 0) (ks := 0) (kc2 := 0) (ks2 := 0) (as := [ky_r G 27, .int x3]) (st := [.int v4]) (KX3_at (d + 1) 27 x3 s2 _ _ h6) okX3_at wn_X0_78 rfl rfl (Nat.le_of_ble_eq_true rfl) dX0_fillUp_20 rfl ?_
      refine ky_min (n := 26) dX0_fillUp_23 rfl wl_X0_111 wlib_min_s wlib_Math wlib_min_c (by omega) (Nat.le_of_ble_eq_true rfl) ?_
      refine ky_topi (fun v8 ev8 => ?_)
      have hf := ky_bn_e hf v8 ev8
      refine ky_istore (lv' := [(4, .int v8), (0, ky_r G 20), (1, .int x1), (2, .int x2), (3, .int x3)]) (n := 28) dX0_fillUp_26 rfl (Nat.le_of_ble_eq_true rfl) rfl ?_
      refine ky_aload_n (n := 29) dX0_fillUp_28 rfl rfl 1 rfl ?_
      refine ky_getf (q := (RX0, TX0, 17)) (v := ky_r G 27) (n := 32) dX0_fillUp_29 rfl kc_20 rfl (Nat.le_of_ble_eq_true rfl) wg_X0_30 (vf_20_11 _ _) ?_
      refine ky_iload_n (n := 33) dX0_fillUp_32 rfl rfl 4 rfl ?_
      refine ky_iload (n := 35) dX0_fillUp_33 rfl 0 rfl ?_
      refine ky_ineg (n := 36) dX0_fillUp_35 rfl ?_
      obtain ⟨v11, s9, h10, hf⟩ := ky_bd_e hf
      refine ky_callN (kc := 0) (ks := 0) (kc2 := 0) (ks2 := 0) (as := [ky_r G 27, .int x3, .int (-v8)]) (st := []) (KX3_add d 27 x3 (-v8) s5 _ _ h10) okX3_add wn_X0_105 rfl rfl (Nat.le_of_ble_eq_true rfl) dX0_fillUp_36 rfl ?_
      refine ky_aload_n (n := 40) dX0_fillUp_39 rfl rfl 1 rfl ?_
      refine ky_getf (q := (RX0, TX0, 17)) (v := ky_r G 26) (n := 43) dX0_fillUp_40 rfl kc_20 rfl (Nat.le_of_ble_eq_true rfl) wg_X0_27 (vf_20_10 _ _) ?_
      refine ky_iload_n (n := 44) dX0_fillUp_43 rfl rfl 2 rfl ?_
      refine ky_iconst (v := (4 : Int32)) (n := 45) dX0_fillUp_44 rfl rfl ?_
      refine ky_imul (n := 46) dX0_fillUp_45 rfl ?_
      refine ky_iload_n (n := 47) dX0_fillUp_46 rfl rfl 4 rfl ?_
      refine ky_iadd (n := 48) dX0_fillUp_47 rfl ?_
      refine ky_iload (n := 50) dX0_fillUp_48 rfl 0 rfl ?_
      obtain ⟨v14, s12, h13, hf⟩ := ky_bd_e hf
      refine ky_callN (kc := 0) (ks := 0) (kc2 := 0) (ks2 := 0) (as := [ky_r G 26, .int ((x1 * (4 : Int32)) + x3), .int v8]) (st := []) (KX3_add d 26 ((x1 * (4 : Int32)) + x3) v8 s9 _ _ h13) okX3_add wn_X0_105 rfl rfl (Nat.le_of_ble_eq_true rfl) dX0_fillUp_50 rfl ?_
      refine ky_iload_n (n := 54) dX0_fillUp_53 rfl rfl 3 rfl ?_
      refine ky_iload (n := 56) dX0_fillUp_54 rfl 0 rfl ?_
      refine ky_iadd (n := 57) dX0_fillUp_56 rfl ?_
      refine ky_topi (fun v15 ev15 => ?_)
      have hf := ky_bn_e hf v15 ev15
      refine ky_istore_n (lv' := [(2, .int v15), (4, .int v8), (0, ky_r G 20), (1, .int x1), (3, .int x3)]) (n := 58) dX0_fillUp_57 rfl rfl (Nat.le_of_ble_eq_true rfl) rfl ?_
      refine ky_iincB (c := (1 : Int32)) (n := 61) dX0_fillUp_58 rfl 4 rfl rfl (Nat.le_of_ble_eq_true rfl) (fun v16 ev16 => ?_)
      have hf := ky_bn_e hf v16 ev16
      refine ky_lv (lv' := [(3, .int v16), (2, .int v15), (4, .int v8), (0, ky_r G 20), (1, .int x1)]) rfl ?_
      refine ky_goto (tgt := 4) dX0_fillUp_61 rfl ?_
      refine ky_sub [3, 4, 1, 0] (lv' := [(0, ky_r G 20), (1, .int x1), (2, .int v15), (3, .int v16)]) rfl ?_
      exact ih x1 v15 v16 s12 _ _ hf
def fX0_fillUp (a1 : Int32) (σ : ky_St) : Option (Int32 × ky_St) :=
  fX0_fillUp_L4 FU a1 (0 : Int32) (0 : Int32) σ
set_option maxHeartbeats 4000000 in
set_option maxRecDepth 100000 in
theorem KX0_fillUp {G : ky_G} (d : Nat) (a1 : Int32) (σ : ky_St) (r : Int32) (σ' : ky_St) (hf : fX0_fillUp a1 σ = some (r, σ')) : ky_K G mX0_fillUp (d + 2) 0 0 [ky_r G 20, .int a1] σ (.inr (some (.int r))) σ' := by
  unfold fX0_fillUp at hf
  refine ky_enter rfl (by decide +kernel) (Nat.le_of_ble_eq_true rfl) (lv := [(0, ky_r G 20), (1, .int a1)]) rfl ?_
  refine ky_iconst (v := (0 : Int32)) (n := 1) dX0_fillUp_0 rfl rfl ?_
  refine ky_istore_n (lv' := [(2, .int (0 : Int32)), (0, ky_r G 20), (1, .int a1)]) (n := 2) dX0_fillUp_1 rfl rfl (Nat.le_of_ble_eq_true rfl) rfl ?_
  refine ky_iconst (v := (0 : Int32)) (n := 3) dX0_fillUp_2 rfl rfl ?_
  refine ky_istore_n (lv' := [(3, .int (0 : Int32)), (2, .int (0 : Int32)), (0, ky_r G 20), (1, .int a1)]) (n := 4) dX0_fillUp_3 rfl rfl (Nat.le_of_ble_eq_true rfl) rfl ?_
  refine ky_sub [2, 3, 1, 0] (lv' := [(0, ky_r G 20), (1, .int a1), (2, .int (0 : Int32)), (3, .int (0 : Int32))]) rfl ?_
  exact tX0_fillUp_L4 d FU a1 (0 : Int32) (0 : Int32) σ _ _ hf
def fX0_charge (a1 : Int32) (a2 : Int32) (a3 : Int32) (σ : ky_St) : Option (Int32 × ky_St) :=
  ky_bd (fX3_add 26 ((a1 * (4 : Int32)) + a2) (-a3) σ) fun v3 s1 =>
  ky_bd (fX3_add 28 a2 a3 s1) fun v6 s4 =>
  ky_bd (fX3_at 14 a2 s4) fun v9 s7 =>
  some ((a3 * v9), s7)
set_option maxHeartbeats 4000000 in
set_option maxRecDepth 100000 in
theorem KX0_charge {G : ky_G} (d : Nat) (a1 : Int32) (a2 : Int32) (a3 : Int32) (σ : ky_St) (r : Int32) (σ' : ky_St) (hf : fX0_charge a1 a2 a3 σ = some (r, σ')) : ky_K G mX0_charge (d + 2) 0 0 [ky_r G 20, .int a1, .int a2, .int a3] σ (.inr (some (.int r))) σ' := by
  unfold fX0_charge at hf
  refine ky_enter rfl (by decide +kernel) (Nat.le_of_ble_eq_true rfl) (lv := [(0, ky_r G 20), (1, .int a1), (2, .int a2), (3, .int a3)]) rfl ?_
  refine ky_aload_n (n := 1) dX0_charge_0 rfl rfl 0 rfl ?_
  refine ky_getf (q := (RX0, TX0, 17)) (v := ky_r G 26) (n := 4) dX0_charge_1 rfl kc_20 rfl (Nat.le_of_ble_eq_true rfl) wg_X0_27 (vf_20_10 _ _) ?_
  refine ky_iload_n (n := 5) dX0_charge_4 rfl rfl 1 rfl ?_
  refine ky_iconst (v := (4 : Int32)) (n := 6) dX0_charge_5 rfl rfl ?_
  refine ky_imul (n := 7) dX0_charge_6 rfl ?_
  refine ky_iload_n (n := 8) dX0_charge_7 rfl rfl 2 rfl ?_
  refine ky_iadd (n := 9) dX0_charge_8 rfl ?_
  refine ky_iload_n (n := 10) dX0_charge_9 rfl rfl 3 rfl ?_
  refine ky_ineg (n := 11) dX0_charge_10 rfl ?_
  obtain ⟨v3, s1, h2, hf⟩ := ky_bd_e hf
  refine ky_callN (kc := 0) (ks := 0) (kc2 := 0) (ks2 := 0) (as := [ky_r G 26, .int ((a1 * (4 : Int32)) + a2), .int (-a3)]) (st := []) (KX3_add d 26 ((a1 * (4 : Int32)) + a2) (-a3) σ _ _ h2) okX3_add wn_X0_105 rfl rfl (Nat.le_of_ble_eq_true rfl) dX0_charge_11 rfl ?_
  refine ky_aload_n (n := 15) dX0_charge_14 rfl rfl 0 rfl ?_
  refine ky_getf (q := (RX0, TX0, 17)) (v := ky_r G 28) (n := 18) dX0_charge_15 rfl kc_20 rfl (Nat.le_of_ble_eq_true rfl) wg_X0_33 (vf_20_12 _ _) ?_
  refine ky_iload_n (n := 19) dX0_charge_18 rfl rfl 2 rfl ?_
  refine ky_iload_n (n := 20) dX0_charge_19 rfl rfl 3 rfl ?_
  obtain ⟨v6, s4, h5, hf⟩ := ky_bd_e hf
  refine ky_callN (kc := 0) (ks := 0) (kc2 := 0) (ks2 := 0) (as := [ky_r G 28, .int a2, .int a3]) (st := []) (KX3_add d 28 a2 a3 s1 _ _ h5) okX3_add wn_X0_105 rfl rfl (Nat.le_of_ble_eq_true rfl) dX0_charge_20 rfl ?_
  refine ky_iload_n (n := 24) dX0_charge_23 rfl rfl 3 rfl ?_
  refine ky_getsN (n := 27) dX0_charge_24 rfl "PRICE" 14 (Or.inr ⟨rfl, rfl⟩) wnf_102 ?_
  refine ky_iload_n (n := 28) dX0_charge_27 rfl rfl 2 rfl ?_
  obtain ⟨v9, s7, h8, hf⟩ := ky_bd_e hf
  refine ky_callN (kc := 0) (ks := 0) (kc2 := 0) (ks2 := 0) (as := [ky_r G 14, .int a2]) (st := [.int a3]) (KX3_at (d + 1) 14 a2 s4 _ _ h8) okX3_at wn_X0_78 rfl rfl (Nat.le_of_ble_eq_true rfl) dX0_charge_28 rfl ?_
  refine ky_imul (n := 32) dX0_charge_31 rfl ?_
  cases hf
  exact ky_ireturn dX0_charge_32 rfl
def fX0_userOf (a1 : Int32) (a2 : Int32) (σ : ky_St) : Option (Int32 × ky_St) :=
  ky_bd (fX3_at 25 ((a1 * (3 : Int32)) + a2) σ) fun v3 s1 =>
  some (v3, s1)
set_option maxHeartbeats 4000000 in
set_option maxRecDepth 100000 in
theorem KX0_userOf {G : ky_G} (d : Nat) (a1 : Int32) (a2 : Int32) (σ : ky_St) (r : Int32) (σ' : ky_St) (hf : fX0_userOf a1 a2 σ = some (r, σ')) : ky_K G mX0_userOf (d + 1) 0 0 [ky_r G 20, .int a1, .int a2] σ (.inr (some (.int r))) σ' := by
  unfold fX0_userOf at hf
  refine ky_enter rfl (by decide +kernel) (Nat.le_of_ble_eq_true rfl) (lv := [(0, ky_r G 20), (1, .int a1), (2, .int a2)]) rfl ?_
  refine ky_aload_n (n := 1) dX0_userOf_0 rfl rfl 0 rfl ?_
  refine ky_getf (q := (RX0, TX0, 17)) (v := ky_r G 25) (n := 4) dX0_userOf_1 rfl kc_20 rfl (Nat.le_of_ble_eq_true rfl) wg_X0_24 (vf_20_9 _ _) ?_
  refine ky_iload_n (n := 5) dX0_userOf_4 rfl rfl 1 rfl ?_
  refine ky_iconst (v := (3 : Int32)) (n := 6) dX0_userOf_5 rfl rfl ?_
  refine ky_imul (n := 7) dX0_userOf_6 rfl ?_
  refine ky_iload_n (n := 8) dX0_userOf_7 rfl rfl 2 rfl ?_
  refine ky_iadd (n := 9) dX0_userOf_8 rfl ?_
  obtain ⟨v3, s1, h2, hf⟩ := ky_bd_e hf
  refine ky_callN (kc := 0) (ks := 0) (kc2 := 0) (ks2 := 0) (as := [ky_r G 25, .int ((a1 * (3 : Int32)) + a2)]) (st := []) (KX3_at d 25 ((a1 * (3 : Int32)) + a2) σ _ _ h2) okX3_at wn_X0_78 rfl rfl (Nat.le_of_ble_eq_true rfl) dX0_userOf_9 rfl ?_
  cases hf
  exact ky_ireturn dX0_userOf_12 rfl
def fX0_usersOf_L4 : Nat → Int32 → Int32 → Int32 → ky_St → Option (Int32 × ky_St)
  | 0, _, _, _, _ => none
  | fu + 1, x1, x2, x3, σ =>
  if (3 : Int32) ≤ x3 then (
  some (x2, σ)) else (
  ky_bd (fX0_userOf x1 x3 σ) fun v4 s2 =>
  if v4 = (-1 : Int32) then (
  ky_bn (x3 + (1 : Int32)) fun v6 =>
  fX0_usersOf_L4 fu x1 x2 v6 s2) else (
  ky_bn (x2 + (1 : Int32)) fun v7 =>
  ky_bn (x3 + (1 : Int32)) fun v8 =>
  fX0_usersOf_L4 fu x1 v7 v8 s2))
set_option maxHeartbeats 4000000 in
set_option maxRecDepth 100000 in
theorem tX0_usersOf_L4 {G : ky_G} (d : Nat) : ∀ (fu : Nat) (x1 : Int32) (x2 : Int32) (x3 : Int32) (σ : ky_St) (r : Int32) (σ' : ky_St), fX0_usersOf_L4 fu x1 x2 x3 σ = some (r, σ') → ky_T G mX0_usersOf (d + 2) 0 0 4 [(0, ky_r G 20), (1, .int x1), (2, .int x2), (3, .int x3)] [] σ (.inr (some (.int r))) σ' := by
  intro fu
  induction fu with
  | zero =>
    intro x1 x2 x3 σ r σ' hf
    rw [fX0_usersOf_L4] at hf
    cases hf
  | succ fu ih =>
    intro x1 x2 x3 σ r σ' hf
    rw [fX0_usersOf_L4] at hf
    refine ky_iload_n (n := 5) dX0_usersOf_4 rfl rfl 3 rfl ?_
    refine ky_iconst (v := (3 : Int32)) (n := 6) dX0_usersOf_5 rfl rfl ?_
    refine ky_icmp_ge (n := 9) (tgt := 28) dX0_usersOf_6 rfl rfl (fun c1 => ?_) (fun c1 => ?_)
    · have hf := ky_pos c1 hf
      refine ky_iload_n (n := 29) dX0_usersOf_28 rfl rfl 2 rfl ?_
      cases hf
      exact ky_ireturn dX0_usersOf_29 rfl
    · have hf := ky_neg c1 hf
      refine ky_aload_n (n := 10) dX0_usersOf_9 rfl rfl 0 rfl ?_
      refine ky_iload_n (n := 11) dX0_usersOf_10 rfl rfl 1 rfl ?_
      refine ky_iload_n (n := 12) dX0_usersOf_11 rfl rfl 3 rfl ?_
      obtain ⟨v4, s2, h3, hf⟩ := ky_bd_e hf
      refine ky_callV (kc := 0) (ks := 0) (kc2 := 0) (ks2 := 0) (k0 := 20) (as := [.int x1, .int x3]) (st := []) (KX0_userOf d x1 x3 σ _ _ h3) okX0_userOf wl_X0_127 kc_20 (q := (RX0, TX0, 17)) rfl rfl rfl rfl (Nat.le_of_ble_eq_true rfl) dX0_usersOf_12 rfl ?_
      refine ky_iconst (v := (-1 : Int32)) (n := 16) dX0_usersOf_15 rfl rfl ?_
      refine ky_icmp_eq (n := 19) (tgt := 22) dX0_usersOf_16 rfl rfl (fun c5 => ?_) (fun c5 => ?_)
      · have hf := ky_pos c5 hf
        refine ky_iincB (c := (1 : Int32)) (n := 25) dX0_usersOf_22 rfl 3 rfl rfl (Nat.le_of_ble_eq_true rfl) (fun v6 ev6 => ?_)
        have hf := ky_bn_e hf v6 ev6
        refine ky_lv (lv' := [(3, .int v6), (0, ky_r G 20), (1, .int x1), (2, .int x2)]) rfl ?_
        refine ky_goto (tgt := 4) dX0_usersOf_25 rfl ?_
        refine ky_sub [1, 2, 3, 0] (lv' := [(0, ky_r G 20), (1, .int x1), (2, .int x2), (3, .int v6)]) rfl ?_
        exact ih x1 x2 v6 s2 _ _ hf
      · have hf := ky_neg c5 hf
        refine ky_iincB (c := (1 : Int32)) (n := 22) dX0_usersOf_19 rfl 2 rfl rfl (Nat.le_of_ble_eq_true rfl) (fun v7 ev7 => ?_)
        have hf := ky_bn_e hf v7 ev7
        refine ky_lv (lv' := [(2, .int v7), (0, ky_r G 20), (1, .int x1), (3, .int x3)]) rfl ?_
        refine ky_iincB (c := (1 : Int32)) (n := 25) dX0_usersOf_22 rfl 3 rfl rfl (Nat.le_of_ble_eq_true rfl) (fun v8 ev8 => ?_)
        have hf := ky_bn_e hf v8 ev8
        refine ky_lv (lv' := [(3, .int v8), (2, .int v7), (0, ky_r G 20), (1, .int x1)]) rfl ?_
        refine ky_goto (tgt := 4) dX0_usersOf_25 rfl ?_
        refine ky_sub [2, 3, 1, 0] (lv' := [(0, ky_r G 20), (1, .int x1), (2, .int v7), (3, .int v8)]) rfl ?_
        exact ih x1 v7 v8 s2 _ _ hf
def fX0_usersOf (a1 : Int32) (σ : ky_St) : Option (Int32 × ky_St) :=
  fX0_usersOf_L4 FU a1 (0 : Int32) (0 : Int32) σ
set_option maxHeartbeats 4000000 in
set_option maxRecDepth 100000 in
theorem KX0_usersOf {G : ky_G} (d : Nat) (a1 : Int32) (σ : ky_St) (r : Int32) (σ' : ky_St) (hf : fX0_usersOf a1 σ = some (r, σ')) : ky_K G mX0_usersOf (d + 2) 0 0 [ky_r G 20, .int a1] σ (.inr (some (.int r))) σ' := by
  unfold fX0_usersOf at hf
  refine ky_enter rfl (by decide +kernel) (Nat.le_of_ble_eq_true rfl) (lv := [(0, ky_r G 20), (1, .int a1)]) rfl ?_
  refine ky_iconst (v := (0 : Int32)) (n := 1) dX0_usersOf_0 rfl rfl ?_
  refine ky_istore_n (lv' := [(2, .int (0 : Int32)), (0, ky_r G 20), (1, .int a1)]) (n := 2) dX0_usersOf_1 rfl rfl (Nat.le_of_ble_eq_true rfl) rfl ?_
  refine ky_iconst (v := (0 : Int32)) (n := 3) dX0_usersOf_2 rfl rfl ?_
  refine ky_istore_n (lv' := [(3, .int (0 : Int32)), (2, .int (0 : Int32)), (0, ky_r G 20), (1, .int a1)]) (n := 4) dX0_usersOf_3 rfl rfl (Nat.le_of_ble_eq_true rfl) rfl ?_
  refine ky_sub [2, 3, 1, 0] (lv' := [(0, ky_r G 20), (1, .int a1), (2, .int (0 : Int32)), (3, .int (0 : Int32))]) rfl ?_
  exact tX0_usersOf_L4 d FU a1 (0 : Int32) (0 : Int32) σ _ _ hf
def fX0_shareOf_L27 : Nat → Int32 → Int32 → Int32 → Int32 → Int32 → Int32 → Int32 → ky_St → Option (Int32 × ky_St)
  | 0, _, _, _, _, _, _, _, _ => none
  | fu + 1, x1, x2, x3, x4, x5, x6, x7, σ =>
  if (3 : Int32) ≤ x7 then (
  ky_bd (fX0_userOf x1 (0 : Int32) σ) fun v10 s8 =>
  if v10 = x3 then (
  ky_bn (x6 + (x2 - (x5 * x4))) fun v12 =>
  some (v12, s8)) else (
  some (x6, s8))) else (
  ky_bd (fX0_userOf x1 x7 σ) fun v15 s13 =>
  if v15 = x3 then (
  ky_bn (x6 + x5) fun v18 =>
  ky_bn (x7 + (1 : Int32)) fun v19 =>
  fX0_shareOf_L27 fu x1 x2 x3 x4 x5 v18 v19 s13) else (
  ky_bn (x7 + (1 : Int32)) fun v17 =>
  fX0_shareOf_L27 fu x1 x2 x3 x4 x5 x6 v17 s13))
set_option maxHeartbeats 4000000 in
set_option maxRecDepth 100000 in
theorem tX0_shareOf_L27 {G : ky_G} (d : Nat) : ∀ (fu : Nat) (x1 : Int32) (x2 : Int32) (x3 : Int32) (x4 : Int32) (x5 : Int32) (x6 : Int32) (x7 : Int32) (σ : ky_St) (r : Int32) (σ' : ky_St), fX0_shareOf_L27 fu x1 x2 x3 x4 x5 x6 x7 σ = some (r, σ') → ky_T G mX0_shareOf (d + 3) 0 0 27 [(0, ky_r G 20), (1, .int x1), (2, .int x2), (3, .int x3), (4, .int x4), (5, .int x5), (6, .int x6), (7, .int x7)] [] σ (.inr (some (.int r))) σ' := by
  intro fu
  induction fu with
  | zero =>
    intro x1 x2 x3 x4 x5 x6 x7 σ r σ' hf
    rw [fX0_shareOf_L27] at hf
    cases hf
  | succ fu ih =>
    intro x1 x2 x3 x4 x5 x6 x7 σ r σ' hf
    rw [fX0_shareOf_L27] at hf
    refine ky_iload (n := 29) dX0_shareOf_27 rfl 7 rfl ?_
    refine ky_iconst (v := (3 : Int32)) (n := 30) dX0_shareOf_29 rfl rfl ?_
    refine ky_icmp_ge (n := 33) (tgt := 57) dX0_shareOf_30 rfl rfl (fun c7 => ?_) (fun c7 => ?_)
    · have hf := ky_pos c7 hf
      refine ky_aload_n (n := 58) dX0_shareOf_57 rfl rfl 0 rfl ?_
      refine ky_iload_n (n := 59) dX0_shareOf_58 rfl rfl 1 rfl ?_
      refine ky_iconst (v := (0 : Int32)) (n := 60) dX0_shareOf_59 rfl rfl ?_
      obtain ⟨v10, s8, h9, hf⟩ := ky_bd_e hf
      refine ky_callV (kc := 0) (ks := 0) (kc2 := 0) (ks2 := 0) (k0 := 20) (as := [.int x1, .int (0 : Int32)]) (st := []) (KX0_userOf (d + 1) x1 (0 : Int32) σ _ _ h9) okX0_userOf wl_X0_127 kc_20 (q := (RX0, TX0, 17)) rfl rfl rfl rfl (Nat.le_of_ble_eq_true rfl) dX0_shareOf_60 rfl ?_
      refine ky_iload_n (n := 64) dX0_shareOf_63 rfl rfl 3 rfl ?_
      refine ky_icmp_ne (n := 67) (tgt := 79) dX0_shareOf_64 rfl rfl (fun c11 => ?_) (fun c11 => ?_)
      · have hf := ky_neg c11 hf
        refine ky_iload (n := 81) dX0_shareOf_79 rfl 6 rfl ?_
        cases hf
        exact ky_ireturn dX0_shareOf_81 rfl
      · have hf := ky_pos c11 hf
        refine ky_iload (n := 69) dX0_shareOf_67 rfl 6 rfl ?_
        refine ky_iload_n (n := 70) dX0_shareOf_69 rfl rfl 2 rfl ?_
        refine ky_iload (n := 72) dX0_shareOf_70 rfl 5 rfl ?_
        refine ky_iload (n := 74) dX0_shareOf_72 rfl 4 rfl ?_
        refine ky_imul (n := 75) dX0_shareOf_74 rfl ?_
        refine ky_isub (n := 76) dX0_shareOf_75 rfl ?_
        refine ky_iadd (n := 77) dX0_shareOf_76 rfl ?_
        refine ky_topi (fun v12 ev12 => ?_)
        have hf := ky_bn_e hf v12 ev12
        refine ky_istore (lv' := [(6, .int v12), (0, ky_r G 20), (1, .int x1), (2, .int x2), (3, .int x3), (4, .int x4), (5, .int x5), (7, .int x7)]) (n := 79) dX0_shareOf_77 rfl (Nat.le_of_ble_eq_true rfl) rfl ?_
        refine ky_iload (n := 81) dX0_shareOf_79 rfl 0 rfl ?_
        cases hf
        exact ky_ireturn dX0_shareOf_81 rfl
    · have hf := ky_neg c7 hf
      refine ky_aload_n (n := 34) dX0_shareOf_33 rfl rfl 0 rfl ?_
      refine ky_iload_n (n := 35) dX0_shareOf_34 rfl rfl 1 rfl ?_
      refine ky_iload (n := 37) dX0_shareOf_35 rfl 7 rfl ?_
      obtain ⟨v15, s13, h14, hf⟩ := ky_bd_e hf
      refine ky_callV (kc := 0) (ks := 0) (kc2 := 0) (ks2 := 0) (k0 := 20) (as := [.int x1, .int x7]) (st := []) (KX0_userOf (d + 1) x1 x7 σ _ _ h14) okX0_userOf wl_X0_127 kc_20 (q := (RX0, TX0, 17)) rfl rfl rfl rfl (Nat.le_of_ble_eq_true rfl) dX0_shareOf_37 rfl ?_
      refine ky_iload_n (n := 41) dX0_shareOf_40 rfl rfl 3 rfl ?_
      refine ky_icmp_ne (n := 44) (tgt := 51) dX0_shareOf_41 rfl rfl (fun c16 => ?_) (fun c16 => ?_)
      · have hf := ky_neg c16 hf
        refine ky_iincB (c := (1 : Int32)) (n := 54) dX0_shareOf_51 rfl 7 rfl rfl (Nat.le_of_ble_eq_true rfl) (fun v17 ev17 => ?_)
        have hf := ky_bn_e hf v17 ev17
        refine ky_lv (lv' := [(7, .int v17), (0, ky_r G 20), (1, .int x1), (2, .int x2), (3, .int x3), (4, .int x4), (5, .int x5), (6, .int x6)]) rfl ?_
        refine ky_goto (tgt := 27) dX0_shareOf_54 rfl ?_
        refine ky_sub [1, 2, 3, 4, 5, 6, 7, 0] (lv' := [(0, ky_r G 20), (1, .int x1), (2, .int x2), (3, .int x3), (4, .int x4), (5, .int x5), (6, .int x6), (7, .int v17)]) rfl ?_
        exact ih x1 x2 x3 x4 x5 x6 v17 s13 _ _ hf
      · have hf := ky_pos c16 hf
        refine ky_iload (n := 46) dX0_shareOf_44 rfl 6 rfl ?_
        refine ky_iload (n := 48) dX0_shareOf_46 rfl 5 rfl ?_
        refine ky_iadd (n := 49) dX0_shareOf_48 rfl ?_
        refine ky_topi (fun v18 ev18 => ?_)
        have hf := ky_bn_e hf v18 ev18
        refine ky_istore (lv' := [(6, .int v18), (0, ky_r G 20), (1, .int x1), (2, .int x2), (3, .int x3), (4, .int x4), (5, .int x5), (7, .int x7)]) (n := 51) dX0_shareOf_49 rfl (Nat.le_of_ble_eq_true rfl) rfl ?_
        refine ky_iincB (c := (1 : Int32)) (n := 54) dX0_shareOf_51 rfl 7 rfl rfl (Nat.le_of_ble_eq_true rfl) (fun v19 ev19 => ?_)
        have hf := ky_bn_e hf v19 ev19
        refine ky_lv (lv' := [(7, .int v19), (6, .int v18), (0, ky_r G 20), (1, .int x1), (2, .int x2), (3, .int x3), (4, .int x4), (5, .int x5)]) rfl ?_
        refine ky_goto (tgt := 27) dX0_shareOf_54 rfl ?_
        refine ky_sub [2, 3, 4, 5, 6, 7, 1, 0] (lv' := [(0, ky_r G 20), (1, .int x1), (2, .int x2), (3, .int x3), (4, .int x4), (5, .int x5), (6, .int v18), (7, .int v19)]) rfl ?_
        exact ih x1 x2 x3 x4 x5 v18 v19 s13 _ _ hf
def fX0_shareOf (a1 : Int32) (a2 : Int32) (a3 : Int32) (σ : ky_St) : Option (Int32 × ky_St) :=
  ky_bd (fX0_usersOf a1 σ) fun v3 s1 =>
  if (1 : Int32) ≤ v3 then (
  ky_g (¬ v3 = 0) (
  ky_bn (a2 / v3) fun v6 =>
  fX0_shareOf_L27 FU a1 a2 a3 v3 v6 (0 : Int32) (0 : Int32) s1)) else (
  some ((0 : Int32), s1))
set_option maxHeartbeats 4000000 in
set_option maxRecDepth 100000 in
theorem KX0_shareOf {G : ky_G} (d : Nat) (a1 : Int32) (a2 : Int32) (a3 : Int32) (σ : ky_St) (r : Int32) (σ' : ky_St) (hf : fX0_shareOf a1 a2 a3 σ = some (r, σ')) : ky_K G mX0_shareOf (d + 3) 0 0 [ky_r G 20, .int a1, .int a2, .int a3] σ (.inr (some (.int r))) σ' := by
  unfold fX0_shareOf at hf
  refine ky_enter rfl (by decide +kernel) (Nat.le_of_ble_eq_true rfl) (lv := [(0, ky_r G 20), (1, .int a1), (2, .int a2), (3, .int a3)]) rfl ?_
  refine ky_aload_n (n := 1) dX0_shareOf_0 rfl rfl 0 rfl ?_
  refine ky_iload_n (n := 2) dX0_shareOf_1 rfl rfl 1 rfl ?_
  obtain ⟨v3, s1, h2, hf⟩ := ky_bd_e hf
  refine ky_callV (kc := 0) (ks := 0) (kc2 := 0) (ks2 := 0) (k0 := 20) (as := [.int a1]) (st := []) (KX0_usersOf d a1 σ _ _ h2) okX0_usersOf wl_X0_120 kc_20 (q := (RX0, TX0, 17)) rfl rfl rfl rfl (Nat.le_of_ble_eq_true rfl) dX0_shareOf_2 rfl ?_
  refine ky_istore (lv' := [(4, .int v3), (0, ky_r G 20), (1, .int a1), (2, .int a2), (3, .int a3)]) (n := 7) dX0_shareOf_5 rfl (Nat.le_of_ble_eq_true rfl) rfl ?_
  refine ky_iload (n := 9) dX0_shareOf_7 rfl 0 rfl ?_
  refine ky_iconst (v := (1 : Int32)) (n := 10) dX0_shareOf_9 rfl rfl ?_
  refine ky_icmp_ge (n := 13) (tgt := 15) dX0_shareOf_10 rfl rfl (fun c4 => ?_) (fun c4 => ?_)
  · have hf := ky_pos c4 hf
    refine ky_iload_n (n := 16) dX0_shareOf_15 rfl rfl 3 rfl ?_
    refine ky_iload (n := 18) dX0_shareOf_16 rfl 0 rfl ?_
    obtain ⟨g5, hf⟩ := ky_ge hf
    refine ky_idiv (n := 19) dX0_shareOf_18 rfl g5 ?_
    refine ky_topi (fun v6 ev6 => ?_)
    have hf := ky_bn_e hf v6 ev6
    refine ky_istore (lv' := [(5, .int v6), (4, .int v3), (0, ky_r G 20), (1, .int a1), (2, .int a2), (3, .int a3)]) (n := 21) dX0_shareOf_19 rfl (Nat.le_of_ble_eq_true rfl) rfl ?_
    refine ky_iconst (v := (0 : Int32)) (n := 22) dX0_shareOf_21 rfl rfl ?_
    refine ky_istore (lv' := [(6, .int (0 : Int32)), (5, .int v6), (4, .int v3), (0, ky_r G 20), (1, .int a1), (2, .int a2), (3, .int a3)]) (n := 24) dX0_shareOf_22 rfl (Nat.le_of_ble_eq_true rfl) rfl ?_
    refine ky_iconst (v := (0 : Int32)) (n := 25) dX0_shareOf_24 rfl rfl ?_
    refine ky_istore (lv' := [(7, .int (0 : Int32)), (6, .int (0 : Int32)), (5, .int v6), (4, .int v3), (0, ky_r G 20), (1, .int a1), (2, .int a2), (3, .int a3)]) (n := 27) dX0_shareOf_25 rfl (Nat.le_of_ble_eq_true rfl) rfl ?_
    refine ky_sub [4, 5, 6, 7, 3, 2, 1, 0] (lv' := [(0, ky_r G 20), (1, .int a1), (2, .int a2), (3, .int a3), (4, .int v3), (5, .int v6), (6, .int (0 : Int32)), (7, .int (0 : Int32))]) rfl ?_
    exact tX0_shareOf_L27 d FU a1 a2 a3 v3 v6 (0 : Int32) (0 : Int32) s1 _ _ hf
  · have hf := ky_neg c4 hf
    refine ky_iconst (v := (0 : Int32)) (n := 14) dX0_shareOf_13 rfl rfl ?_
    cases hf
    exact ky_ireturn dX0_shareOf_14 rfl
def fX0_chargeDamage_L31 : Nat → Int32 → Int32 → Int32 → ky_St → Option (Int32 × ky_St)
  | 0, _, _, _, _ => none
  | fu + 1, x1, x4, x5, σ =>
  if (6 : Int32) ≤ x5 then (
  some (x4, σ)) else (
  ky_bd (fX0_shareOf x1 x4 x5 σ) fun v11 s9 =>
  ky_bd (fX3_add 31 x5 v11 s9) fun v14 s12 =>
  ky_bn (x5 + (1 : Int32)) fun v15 =>
  fX0_chargeDamage_L31 fu x1 x4 v15 s12)
set_option maxHeartbeats 4000000 in
set_option maxRecDepth 100000 in
theorem tX0_chargeDamage_L31 {G : ky_G} (d : Nat) : ∀ (fu : Nat) (x1 : Int32) (x4 : Int32) (x5 : Int32) (σ : ky_St) (r : Int32) (σ' : ky_St), fX0_chargeDamage_L31 fu x1 x4 x5 σ = some (r, σ') → ky_T G mX0_chargeDamage (d + 4) 0 0 31 [(0, ky_r G 20), (1, .int x1), (4, .int x4), (5, .int x5)] [] σ (.inr (some (.int r))) σ' := by
  intro fu
  induction fu with
  | zero =>
    intro x1 x4 x5 σ r σ' hf
    rw [fX0_chargeDamage_L31] at hf
    cases hf
  | succ fu ih =>
    intro x1 x4 x5 σ r σ' hf
    rw [fX0_chargeDamage_L31] at hf
    refine ky_iload (n := 33) dX0_chargeDamage_31 rfl 3 rfl ?_
    refine ky_bipush (v := (6 : Int32)) (n := 35) dX0_chargeDamage_33 rfl rfl ?_
    refine ky_icmp_ge (n := 38) (tgt := 62) dX0_chargeDamage_35 rfl rfl (fun c8 => ?_) (fun c8 => ?_)
    · have hf := ky_pos c8 hf
      refine ky_iload (n := 64) dX0_chargeDamage_62 rfl 2 rfl ?_
      cases hf
      exact ky_ireturn dX0_chargeDamage_64 rfl
    · have hf := ky_neg c8 hf
      refine ky_aload_n (n := 39) dX0_chargeDamage_38 rfl rfl 0 rfl ?_
      refine ky_getf (q := (RX0, TX0, 17)) (v := ky_r G 31) (n := 42) dX0_chargeDamage_39 rfl kc_20 rfl (Nat.le_of_ble_eq_true rfl) wg_X0_42 (vf_20_15 _ _) ?_
      refine ky_iload (n := 44) dX0_chargeDamage_42 rfl 3 rfl ?_
      refine ky_aload_n (n := 45) dX0_chargeDamage_44 rfl rfl 0 rfl ?_
      refine ky_iload_n (n := 46) dX0_chargeDamage_45 rfl rfl 1 rfl ?_
      refine ky_iload (n := 48) dX0_chargeDamage_46 rfl 2 rfl ?_
      refine ky_iload (n := 50) dX0_chargeDamage_48 rfl 3 rfl ?_
      obtain ⟨v11, s9, h10, hf⟩ := ky_bd_e hf
      refine ky_callV (kc := 0) (ks := 0) (kc2 := 0) (ks2 := 0) (k0 := 20) (as := [.int x1, .int x4, .int x5]) (st := [.int x5, ky_r G 31]) (KX0_shareOf d x1 x4 x5 σ _ _ h10) okX0_shareOf wl_X0_124 kc_20 (q := (RX0, TX0, 17)) rfl rfl rfl rfl (Nat.le_of_ble_eq_true rfl) dX0_chargeDamage_50 rfl ?_
      obtain ⟨v14, s12, h13, hf⟩ := ky_bd_e hf
      refine ky_callN (kc := 0) (ks := 0) (kc2 := 0) (ks2 := 0) (as := [ky_r G 31, .int x5, .int v11]) (st := []) (KX3_add (d + 2) 31 x5 v11 s9 _ _ h13) okX3_add wn_X0_105 rfl rfl (Nat.le_of_ble_eq_true rfl) dX0_chargeDamage_53 rfl ?_
      refine ky_iincB (c := (1 : Int32)) (n := 59) dX0_chargeDamage_56 rfl 3 rfl rfl (Nat.le_of_ble_eq_true rfl) (fun v15 ev15 => ?_)
      have hf := ky_bn_e hf v15 ev15
      refine ky_lv (lv' := [(5, .int v15), (0, ky_r G 20), (1, .int x1), (4, .int x4)]) rfl ?_
      refine ky_goto (tgt := 31) dX0_chargeDamage_59 rfl ?_
      refine ky_sub [1, 2, 3, 0] (lv' := [(0, ky_r G 20), (1, .int x1), (4, .int x4), (5, .int v15)]) rfl ?_
      exact ih x1 x4 v15 s12 _ _ hf
def fX0_chargeDamage (a1 : Int32) (a2 : Int32) (a3 : Int32) (σ : ky_St) : Option (Int32 × ky_St) :=
  ky_bd (fX0_charge a1 a2 a3 σ) fun v3 s1 =>
  ky_bd (fX0_usersOf a1 s1) fun v6 s4 =>
  if v6 = 0 then (
  ky_bn (ky_u1 s4 20 3 ((s4.1 20 3) + v3)) fun s16 =>
  fX0_chargeDamage_L31 FU a1 v3 (0 : Int32) s16) else (
  fX0_chargeDamage_L31 FU a1 v3 (0 : Int32) s4)
set_option maxHeartbeats 4000000 in
set_option maxRecDepth 100000 in
theorem KX0_chargeDamage {G : ky_G} (d : Nat) (a1 : Int32) (a2 : Int32) (a3 : Int32) (σ : ky_St) (r : Int32) (σ' : ky_St) (hf : fX0_chargeDamage a1 a2 a3 σ = some (r, σ')) : ky_K G mX0_chargeDamage (d + 4) 0 0 [ky_r G 20, .int a1, .int a2, .int a3] σ (.inr (some (.int r))) σ' := by
  unfold fX0_chargeDamage at hf
  refine ky_enter rfl (by decide +kernel) (Nat.le_of_ble_eq_true rfl) (lv := [(0, ky_r G 20), (1, .int a1), (2, .int a2), (3, .int a3)]) rfl ?_
  refine ky_aload_n (n := 1) dX0_chargeDamage_0 rfl rfl 0 rfl ?_
  refine ky_iload_n (n := 2) dX0_chargeDamage_1 rfl rfl 1 rfl ?_
  refine ky_iload_n (n := 3) dX0_chargeDamage_2 rfl rfl 2 rfl ?_
  refine ky_iload_n (n := 4) dX0_chargeDamage_3 rfl rfl 3 rfl ?_
  obtain ⟨v3, s1, h2, hf⟩ := ky_bd_e hf
  refine ky_callV (kc := 0) (ks := 0) (kc2 := 0) (ks2 := 0) (k0 := 20) (as := [.int a1, .int a2, .int a3]) (st := []) (KX0_charge (d + 1) a1 a2 a3 σ _ _ h2) okX0_charge wl_X0_116 kc_20 (q := (RX0, TX0, 17)) rfl rfl rfl rfl (Nat.le_of_ble_eq_true rfl) dX0_chargeDamage_4 rfl ?_
  refine ky_istore (lv' := [(4, .int v3), (0, ky_r G 20), (1, .int a1), (2, .int a2), (3, .int a3)]) (n := 9) dX0_chargeDamage_7 rfl (Nat.le_of_ble_eq_true rfl) rfl ?_
  refine ky_aload_n (n := 10) dX0_chargeDamage_9 rfl rfl 1 rfl ?_
  refine ky_iload_n (n := 11) dX0_chargeDamage_10 rfl rfl 2 rfl ?_
  obtain ⟨v6, s4, h5, hf⟩ := ky_bd_e hf
  refine ky_callV (kc := 0) (ks := 0) (kc2 := 0) (ks2 := 0) (k0 := 20) (as := [.int a1]) (st := []) (KX0_usersOf (d + 1) a1 s1 _ _ h5) okX0_usersOf wl_X0_120 kc_20 (q := (RX0, TX0, 17)) rfl rfl rfl rfl (Nat.le_of_ble_eq_true rfl) dX0_chargeDamage_11 rfl ?_
  refine ky_if_ne (n := 17) (tgt := 28) dX0_chargeDamage_14 rfl rfl (fun c7 => ?_) (fun c7 => ?_)
  · have hf := ky_neg c7 hf
    refine ky_iconst (v := (0 : Int32)) (n := 29) dX0_chargeDamage_28 rfl rfl ?_
    refine ky_istore (lv' := [(5, .int (0 : Int32)), (4, .int v3), (0, ky_r G 20), (1, .int a1), (2, .int a2), (3, .int a3)]) (n := 31) dX0_chargeDamage_29 rfl (Nat.le_of_ble_eq_true rfl) rfl ?_
    refine ky_sub [2, 3, 1, 0] (lv' := [(0, ky_r G 20), (1, .int a1), (4, .int v3), (5, .int (0 : Int32))]) rfl ?_
    exact tX0_chargeDamage_L31 d FU a1 v3 (0 : Int32) s4 _ _ hf
  · have hf := ky_pos c7 hf
    refine ky_aload_n (n := 18) dX0_chargeDamage_17 rfl rfl 1 rfl ?_
    refine ky_dup (n := 19) dX0_chargeDamage_18 rfl rfl ?_
    refine ky_getf (q := (RX0, TX0, 17)) (v := .int (s4.1 20 3)) (n := 22) dX0_chargeDamage_19 rfl kc_20 rfl (Nat.le_of_ble_eq_true rfl) wg_X0_64 (vf_20_3 _ _) ?_
    refine ky_iload (n := 24) dX0_chargeDamage_22 rfl 0 rfl ?_
    refine ky_iadd (n := 25) dX0_chargeDamage_24 rfl ?_
    refine ky_putf (q := (RX0, TX0, 17)) (n := 28) dX0_chargeDamage_25 rfl kc_20 rfl (Nat.le_of_ble_eq_true rfl) wg_X0_64 rfl (by decide +kernel) rfl (fun s16 es16 => ?_)
    have hf := ky_bn_e hf s16 es16
    refine ky_iconst (v := (0 : Int32)) (n := 29) dX0_chargeDamage_28 rfl rfl ?_
    refine ky_istore (lv' := [(5, .int (0 : Int32)), (4, .int v3), (0, ky_r G 20), (1, .int a1), (2, .int a2), (3, .int a3)]) (n := 31) dX0_chargeDamage_29 rfl (Nat.le_of_ble_eq_true rfl) rfl ?_
    refine ky_sub [2, 3, 1, 0] (lv' := [(0, ky_r G 20), (1, .int a1), (4, .int v3), (5, .int (0 : Int32))]) rfl ?_
    exact tX0_chargeDamage_L31 d FU a1 v3 (0 : Int32) s16 _ _ hf
def fX0_exchangeParts_L2 : Nat → Int32 → Int32 → Int32 → ky_St → Option (Unit × ky_St)
  | 0, _, _, _, _ => none
  | fu + 1, x1, x2, x3, σ =>
  if (4 : Int32) ≤ x3 then (
  some ((), σ)) else (
  ky_bd (fX0_stockOf x1 x3 σ) fun v4 s2 =>
  ky_bd (fX0_stockOf x2 x3 s2) fun v7 s5 =>
  ky_bd (fX3_put 26 ((x1 * (4 : Int32)) + x3) v7 s5) fun v10 s8 =>
  ky_bd (fX3_put 26 ((x2 * (4 : Int32)) + x3) v4 s8) fun v13 s11 =>
  ky_bn (x3 + (1 : Int32)) fun v14 =>
  fX0_exchangeParts_L2 fu x1 x2 v14 s11)
set_option maxHeartbeats 4000000 in
set_option maxRecDepth 100000 in
theorem tX0_exchangeParts_L2 {G : ky_G} (d : Nat) : ∀ (fu : Nat) (x1 : Int32) (x2 : Int32) (x3 : Int32) (σ : ky_St) (r : Unit) (σ' : ky_St), fX0_exchangeParts_L2 fu x1 x2 x3 σ = some (r, σ') → ky_T G mX0_exchangeParts (d + 2) 0 0 2 [(0, ky_r G 20), (1, .int x1), (2, .int x2), (3, .int x3)] [] σ (.inr none) σ' := by
  intro fu
  induction fu with
  | zero =>
    intro x1 x2 x3 σ r σ' hf
    rw [fX0_exchangeParts_L2] at hf
    cases hf
  | succ fu ih =>
    intro x1 x2 x3 σ r σ' hf
    rw [fX0_exchangeParts_L2] at hf
    refine ky_iload_n (n := 3) dX0_exchangeParts_2 rfl rfl 3 rfl ?_
    refine ky_iconst (v := (4 : Int32)) (n := 4) dX0_exchangeParts_3 rfl rfl ?_
    refine ky_icmp_ge (n := 7) (tgt := 53) dX0_exchangeParts_4 rfl rfl (fun c1 => ?_) (fun c1 => ?_)
    · have hf := ky_pos c1 hf
      cases hf
      exact ky_return dX0_exchangeParts_53 rfl
    · have hf := ky_neg c1 hf
      refine ky_aload_n (n := 8) dX0_exchangeParts_7 rfl rfl 0 rfl ?_
      refine ky_iload_n (n := 9) dX0_exchangeParts_8 rfl rfl 1 rfl ?_
      refine ky_iload_n (n := 10) dX0_exchangeParts_9 rfl rfl 3 rfl ?_
      obtain ⟨v4, s2, h3, hf⟩ := ky_bd_e hf
      refine ky_callV (kc := 0) (ks := 0) (kc2 := 0) (ks2 := 0) (k0 := 20) (as := [.int x1, .int x3]) (st := []) (KX0_stockOf d x1 x3 σ _ _ h3) okX0_stockOf wl_X0_88 kc_20 (q := (RX0, TX0, 17)) rfl rfl rfl rfl (Nat.le_of_ble_eq_true rfl) dX0_exchangeParts_10 rfl ?_
      refine ky_istore (lv' := [(4, .int v4), (0, ky_r G 20), (1, .int x1), (2, .int x2), (3, .int x3)]) (n := 15) dX0_exchangeParts_13 rfl (Nat.le_of_ble_eq_true rfl) rfl ?_
      refine ky_aload_n (n := 16) dX0_exchangeParts_15 rfl rfl 1 rfl ?_
      refine ky_getf (q := (RX0, TX0, 17)) (v := ky_r G 26) (n := 19) dX0_exchangeParts_16 rfl kc_20 rfl (Nat.le_of_ble_eq_true rfl) wg_X0_27 (vf_20_10 _ _) ?_
      refine ky_iload_n (n := 20) dX0_exchangeParts_19 rfl rfl 2 rfl ?_
      refine ky_iconst (v := (4 : Int32)) (n := 21) dX0_exchangeParts_20 rfl rfl ?_
      refine ky_imul (n := 22) dX0_exchangeParts_21 rfl ?_
      refine ky_iload_n (n := 23) dX0_exchangeParts_22 rfl rfl 4 rfl ?_
      refine ky_iadd (n := 24) dX0_exchangeParts_23 rfl ?_
      refine ky_aload_n (n := 25) dX0_exchangeParts_24 rfl rfl 1 rfl ?_
      refine ky_iload_n (n := 26) dX0_exchangeParts_25 rfl rfl 3 rfl ?_
      refine ky_iload_n (n := 27) dX0_exchangeParts_26 rfl rfl 4 rfl ?_
      obtain ⟨v7, s5, h6, hf⟩ := ky_bd_e hf
      refine ky_callV (kc := 0) (ks := 0) (kc2 := 0) (ks2 := 0) (k0 := 20) (as := [.int x2, .int x3]) (st := [.int ((x1 * (4 : Int32)) + x3), ky_r G 26]) (KX0_stockOf d x2 x3 s2 _ _ h6) okX0_stockOf wl_X0_88 kc_20 (q := (RX0, TX0, 17)) rfl rfl rfl rfl (Nat.le_of_ble_eq_true rfl) dX0_exchangeParts_27 rfl ?_
      obtain ⟨v10, s8, h9, hf⟩ := ky_bd_e hf
      refine ky_callN (kc := 0) (ks := 0) (kc2 := 0) (ks2 := 0) (as := [ky_r G 26, .int ((x1 * (4 : Int32)) + x3), .int v7]) (st := []) (KX3_put (d + 1) 26 ((x1 * (4 : Int32)) + x3) v7 s5 _ _ h9) okX3_put wn_X0_98 rfl rfl (Nat.le_of_ble_eq_true rfl) dX0_exchangeParts_30 rfl ?_
      refine ky_aload_n (n := 34) dX0_exchangeParts_33 rfl rfl 1 rfl ?_
      refine ky_getf (q := (RX0, TX0, 17)) (v := ky_r G 26) (n := 37) dX0_exchangeParts_34 rfl kc_20 rfl (Nat.le_of_ble_eq_true rfl) wg_X0_27 (vf_20_10 _ _) ?_
      refine ky_iload_n (n := 38) dX0_exchangeParts_37 rfl rfl 3 rfl ?_
      refine ky_iconst (v := (4 : Int32)) (n := 39) dX0_exchangeParts_38 rfl rfl ?_
      refine ky_imul (n := 40) dX0_exchangeParts_39 rfl ?_
      refine ky_iload_n (n := 41) dX0_exchangeParts_40 rfl rfl 4 rfl ?_
      refine ky_iadd (n := 42) dX0_exchangeParts_41 rfl ?_
      refine ky_iload (n := 44) dX0_exchangeParts_42 rfl 0 rfl ?_
      obtain ⟨v13, s11, h12, hf⟩ := ky_bd_e hf
      refine ky_callN (kc := 0) (ks := 0) (kc2 := 0) (ks2 := 0) (as := [ky_r G 26, .int ((x2 * (4 : Int32)) + x3), .int v4]) (st := []) (KX3_put (d + 1) 26 ((x2 * (4 : Int32)) + x3) v4 s8 _ _ h12) okX3_put wn_X0_98 rfl rfl (Nat.le_of_ble_eq_true rfl) dX0_exchangeParts_44 rfl ?_
      refine ky_iincB (c := (1 : Int32)) (n := 50) dX0_exchangeParts_47 rfl 4 rfl rfl (Nat.le_of_ble_eq_true rfl) (fun v14 ev14 => ?_)
      have hf := ky_bn_e hf v14 ev14
      refine ky_lv (lv' := [(3, .int v14), (4, .int v4), (0, ky_r G 20), (1, .int x1), (2, .int x2)]) rfl ?_
      refine ky_goto (tgt := 2) dX0_exchangeParts_50 rfl ?_
      refine ky_sub [2, 3, 4, 0] (lv' := [(0, ky_r G 20), (1, .int x1), (2, .int x2), (3, .int v14)]) rfl ?_
      exact ih x1 x2 v14 s11 _ _ hf
def fX0_exchangeParts (a1 : Int32) (a2 : Int32) (σ : ky_St) : Option (Unit × ky_St) :=
  fX0_exchangeParts_L2 FU a1 a2 (0 : Int32) σ
set_option maxHeartbeats 4000000 in
set_option maxRecDepth 100000 in
theorem KX0_exchangeParts {G : ky_G} (d : Nat) (a1 : Int32) (a2 : Int32) (σ : ky_St) (r : Unit) (σ' : ky_St) (hf : fX0_exchangeParts a1 a2 σ = some (r, σ')) : ky_K G mX0_exchangeParts (d + 2) 0 0 [ky_r G 20, .int a1, .int a2] σ (.inr none) σ' := by
  unfold fX0_exchangeParts at hf
  refine ky_enter rfl (by decide +kernel) (Nat.le_of_ble_eq_true rfl) (lv := [(0, ky_r G 20), (1, .int a1), (2, .int a2)]) rfl ?_
  refine ky_iconst (v := (0 : Int32)) (n := 1) dX0_exchangeParts_0 rfl rfl ?_
  refine ky_istore_n (lv' := [(3, .int (0 : Int32)), (0, ky_r G 20), (1, .int a1), (2, .int a2)]) (n := 2) dX0_exchangeParts_1 rfl rfl (Nat.le_of_ble_eq_true rfl) rfl ?_
  refine ky_sub [1, 2, 3, 0] (lv' := [(0, ky_r G 20), (1, .int a1), (2, .int a2), (3, .int (0 : Int32))]) rfl ?_
  exact tX0_exchangeParts_L2 d FU a1 a2 (0 : Int32) σ _ _ hf
def fX0_addUser_L2 : Nat → Int32 → Int32 → Int32 → ky_St → Option (Unit × ky_St)
  | 0, _, _, _, _ => none
  | fu + 1, x1, x2, x3, σ =>
  if x3 ≤ 0 then (
  ky_bd (fX3_put 25 (x1 * (3 : Int32)) x2 σ) fun v4 s2 =>
  some ((), s2)) else (
  ky_bd (fX3_at 25 (((x1 * (3 : Int32)) + x3) - (1 : Int32)) σ) fun v7 s5 =>
  ky_bd (fX3_put 25 ((x1 * (3 : Int32)) + x3) v7 s5) fun v10 s8 =>
  ky_bn (x3 + (-1 : Int32)) fun v11 =>
  fX0_addUser_L2 fu x1 x2 v11 s8)
set_option maxHeartbeats 4000000 in
set_option maxRecDepth 100000 in
theorem tX0_addUser_L2 {G : ky_G} (d : Nat) : ∀ (fu : Nat) (x1 : Int32) (x2 : Int32) (x3 : Int32) (σ : ky_St) (r : Unit) (σ' : ky_St), fX0_addUser_L2 fu x1 x2 x3 σ = some (r, σ') → ky_T G mX0_addUser (d + 1) 0 0 2 [(0, ky_r G 20), (1, .int x1), (2, .int x2), (3, .int x3)] [] σ (.inr none) σ' := by
  intro fu
  induction fu with
  | zero =>
    intro x1 x2 x3 σ r σ' hf
    rw [fX0_addUser_L2] at hf
    cases hf
  | succ fu ih =>
    intro x1 x2 x3 σ r σ' hf
    rw [fX0_addUser_L2] at hf
    refine ky_iload_n (n := 3) dX0_addUser_2 rfl rfl 3 rfl ?_
    refine ky_if_le (n := 6) (tgt := 38) dX0_addUser_3 rfl rfl (fun c1 => ?_) (fun c1 => ?_)
    · have hf := ky_pos c1 hf
      refine ky_aload_n (n := 39) dX0_addUser_38 rfl rfl 0 rfl ?_
      refine ky_getf (q := (RX0, TX0, 17)) (v := ky_r G 25) (n := 42) dX0_addUser_39 rfl kc_20 rfl (Nat.le_of_ble_eq_true rfl) wg_X0_24 (vf_20_9 _ _) ?_
      refine ky_iload_n (n := 43) dX0_addUser_42 rfl rfl 1 rfl ?_
      refine ky_iconst (v := (3 : Int32)) (n := 44) dX0_addUser_43 rfl rfl ?_
      refine ky_imul (n := 45) dX0_addUser_44 rfl ?_
      refine ky_iload_n (n := 46) dX0_addUser_45 rfl rfl 2 rfl ?_
      obtain ⟨v4, s2, h3, hf⟩ := ky_bd_e hf
      refine ky_callN (kc := 0) (ks := 0) (kc2 := 0) (ks2 := 0) (as := [ky_r G 25, .int (x1 * (3 : Int32)), .int x2]) (st := []) (KX3_put d 25 (x1 * (3 : Int32)) x2 σ _ _ h3) okX3_put wn_X0_98 rfl rfl (Nat.le_of_ble_eq_true rfl) dX0_addUser_46 rfl ?_
      cases hf
      exact ky_return dX0_addUser_49 rfl
    · have hf := ky_neg c1 hf
      refine ky_aload_n (n := 7) dX0_addUser_6 rfl rfl 0 rfl ?_
      refine ky_getf (q := (RX0, TX0, 17)) (v := ky_r G 25) (n := 10) dX0_addUser_7 rfl kc_20 rfl (Nat.le_of_ble_eq_true rfl) wg_X0_24 (vf_20_9 _ _) ?_
      refine ky_iload_n (n := 11) dX0_addUser_10 rfl rfl 1 rfl ?_
      refine ky_iconst (v := (3 : Int32)) (n := 12) dX0_addUser_11 rfl rfl ?_
      refine ky_imul (n := 13) dX0_addUser_12 rfl ?_
      refine ky_iload_n (n := 14) dX0_addUser_13 rfl rfl 3 rfl ?_
      refine ky_iadd (n := 15) dX0_addUser_14 rfl ?_
      refine ky_aload_n (n := 16) dX0_addUser_15 rfl rfl 0 rfl ?_
      refine ky_getf (q := (RX0, TX0, 17)) (v := ky_r G 25) (n := 19) dX0_addUser_16 rfl kc_20 rfl (Nat.le_of_ble_eq_true rfl) wg_X0_24 (vf_20_9 _ _) ?_
      refine ky_iload_n (n := 20) dX0_addUser_19 rfl rfl 1 rfl ?_
      refine ky_iconst (v := (3 : Int32)) (n := 21) dX0_addUser_20 rfl rfl ?_
      refine ky_imul (n := 22) dX0_addUser_21 rfl ?_
      refine ky_iload_n (n := 23) dX0_addUser_22 rfl rfl 3 rfl ?_
      refine ky_iadd (n := 24) dX0_addUser_23 rfl ?_
      refine ky_iconst (v := (1 : Int32)) (n := 25) dX0_addUser_24 rfl rfl ?_
      refine ky_isub (n := 26) dX0_addUser_25 rfl ?_
      obtain ⟨v7, s5, h6, hf⟩ := ky_bd_e hf
      refine ky_callN (kc := 0) (ks := 0) (kc2 := 0) (ks2 := 0) (as := [ky_r G 25, .int (((x1 * (3 : Int32)) + x3) - (1 : Int32))]) (st := [.int ((x1 * (3 : Int32)) + x3), ky_r G 25]) (KX3_at d 25 (((x1 * (3 : Int32)) + x3) - (1 : Int32)) σ _ _ h6) okX3_at wn_X0_78 rfl rfl (Nat.le_of_ble_eq_true rfl) dX0_addUser_26 rfl ?_
      obtain ⟨v10, s8, h9, hf⟩ := ky_bd_e hf
      refine ky_callN (kc := 0) (ks := 0) (kc2 := 0) (ks2 := 0) (as := [ky_r G 25, .int ((x1 * (3 : Int32)) + x3), .int v7]) (st := []) (KX3_put d 25 ((x1 * (3 : Int32)) + x3) v7 s5 _ _ h9) okX3_put wn_X0_98 rfl rfl (Nat.le_of_ble_eq_true rfl) dX0_addUser_29 rfl ?_
      refine ky_iincB (c := (-1 : Int32)) (n := 35) dX0_addUser_32 rfl 3 rfl rfl (Nat.le_of_ble_eq_true rfl) (fun v11 ev11 => ?_)
      have hf := ky_bn_e hf v11 ev11
      refine ky_lv (lv' := [(3, .int v11), (0, ky_r G 20), (1, .int x1), (2, .int x2)]) rfl ?_
      refine ky_goto (tgt := 2) dX0_addUser_35 rfl ?_
      refine ky_sub [1, 2, 3, 0] (lv' := [(0, ky_r G 20), (1, .int x1), (2, .int x2), (3, .int v11)]) rfl ?_
      exact ih x1 x2 v11 s8 _ _ hf
def fX0_addUser (a1 : Int32) (a2 : Int32) (σ : ky_St) : Option (Unit × ky_St) :=
  fX0_addUser_L2 FU a1 a2 (2 : Int32) σ
set_option maxHeartbeats 4000000 in
set_option maxRecDepth 100000 in
theorem KX0_addUser {G : ky_G} (d : Nat) (a1 : Int32) (a2 : Int32) (σ : ky_St) (r : Unit) (σ' : ky_St) (hf : fX0_addUser a1 a2 σ = some (r, σ')) : ky_K G mX0_addUser (d + 1) 0 0 [ky_r G 20, .int a1, .int a2] σ (.inr none) σ' := by
  unfold fX0_addUser at hf
  refine ky_enter rfl (by decide +kernel) (Nat.le_of_ble_eq_true rfl) (lv := [(0, ky_r G 20), (1, .int a1), (2, .int a2)]) rfl ?_
  refine ky_iconst (v := (2 : Int32)) (n := 1) dX0_addUser_0 rfl rfl ?_
  refine ky_istore_n (lv' := [(3, .int (2 : Int32)), (0, ky_r G 20), (1, .int a1), (2, .int a2)]) (n := 2) dX0_addUser_1 rfl rfl (Nat.le_of_ble_eq_true rfl) rfl ?_
  refine ky_sub [1, 2, 3, 0] (lv' := [(0, ky_r G 20), (1, .int a1), (2, .int a2), (3, .int (2 : Int32))]) rfl ?_
  exact tX0_addUser_L2 d FU a1 a2 (2 : Int32) σ _ _ hf
def fX0_canMove (a1 : Int32) (a2 : Int32) (σ : ky_St) : Option (Int32 × ky_St) :=
  ky_bd (fX0_isOnSite a1 σ) fun v3 s1 =>
  if v3 = 0 then (
  some ((0 : Int32), s1)) else (
  ky_bd (fX0_isOn a1 a2 s1) fun v7 s5 =>
  if v7 = 0 then (
  some ((1 : Int32), s5)) else (
  some ((0 : Int32), s5)))
set_option maxHeartbeats 4000000 in
set_option maxRecDepth 100000 in
theorem KX0_canMove {G : ky_G} (d : Nat) (a1 : Int32) (a2 : Int32) (σ : ky_St) (r : Int32) (σ' : ky_St) (hf : fX0_canMove a1 a2 σ = some (r, σ')) : ky_K G mX0_canMove (d + 3) 0 0 [ky_r G 20, .int a1, .int a2] σ (.inr (some (.int r))) σ' := by
  unfold fX0_canMove at hf
  refine ky_enter rfl (by decide +kernel) (Nat.le_of_ble_eq_true rfl) (lv := [(0, ky_r G 20), (1, .int a1), (2, .int a2)]) rfl ?_
  refine ky_aload_n (n := 1) dX0_canMove_0 rfl rfl 0 rfl ?_
  refine ky_iload_n (n := 2) dX0_canMove_1 rfl rfl 1 rfl ?_
  obtain ⟨v3, s1, h2, hf⟩ := ky_bd_e hf
  refine ky_callV (kc := 0) (ks := 0) (kc2 := 0) (ks2 := 0) (k0 := 20) (as := [.int a1]) (st := []) (KX0_isOnSite (d + 1) a1 σ _ _ h2) okX0_isOnSite wl_X0_82 kc_20 (q := (RX0, TX0, 17)) rfl rfl rfl rfl (Nat.le_of_ble_eq_true rfl) dX0_canMove_2 rfl ?_
  refine ky_if_eq (n := 8) (tgt := 21) dX0_canMove_5 rfl rfl (fun c4 => ?_) (fun c4 => ?_)
  · have hf := ky_pos c4 hf
    refine ky_iconst (v := (0 : Int32)) (n := 22) dX0_canMove_21 rfl rfl ?_
    cases hf
    exact ky_zreturn dX0_canMove_22 rfl (Or.inl rfl)
  · have hf := ky_neg c4 hf
    refine ky_aload_n (n := 9) dX0_canMove_8 rfl rfl 0 rfl ?_
    refine ky_iload_n (n := 10) dX0_canMove_9 rfl rfl 1 rfl ?_
    refine ky_iload_n (n := 11) dX0_canMove_10 rfl rfl 2 rfl ?_
    obtain ⟨v7, s5, h6, hf⟩ := ky_bd_e hf
    refine ky_callV (kc := 0) (ks := 0) (kc2 := 0) (ks2 := 0) (k0 := 20) (as := [.int a1, .int a2]) (st := []) (KX0_isOn d a1 a2 s1 _ _ h6) okX0_isOn wl_X0_130 kc_20 (q := (RX0, TX0, 17)) rfl rfl rfl rfl (Nat.le_of_ble_eq_true rfl) dX0_canMove_11 rfl ?_
    refine ky_if_ne (n := 17) (tgt := 21) dX0_canMove_14 rfl rfl (fun c8 => ?_) (fun c8 => ?_)
    · have hf := ky_neg c8 hf
      refine ky_iconst (v := (0 : Int32)) (n := 22) dX0_canMove_21 rfl rfl ?_
      cases hf
      exact ky_zreturn dX0_canMove_22 rfl (Or.inl rfl)
    · have hf := ky_pos c8 hf
      refine ky_iconst (v := (1 : Int32)) (n := 18) dX0_canMove_17 rfl rfl ?_
      refine ky_goto (tgt := 22) dX0_canMove_18 rfl ?_
      cases hf
      exact ky_zreturn dX0_canMove_22 rfl (Or.inr rfl)
def fX0_canPass (a1 : Int32) (σ : ky_St) : Option (Int32 × ky_St) :=
  if (9999 : Int32) < ((σ.1 20 1) + a1) then (
  some ((0 : Int32), σ)) else (
  some ((1 : Int32), σ))
set_option maxHeartbeats 4000000 in
set_option maxRecDepth 100000 in
theorem KX0_canPass {G : ky_G} (d : Nat) (a1 : Int32) (σ : ky_St) (r : Int32) (σ' : ky_St) (hf : fX0_canPass a1 σ = some (r, σ')) : ky_K G mX0_canPass d 0 0 [ky_r G 20, .int a1] σ (.inr (some (.int r))) σ' := by
  unfold fX0_canPass at hf
  refine ky_enter rfl (by decide +kernel) (Nat.le_of_ble_eq_true rfl) (lv := [(0, ky_r G 20), (1, .int a1)]) rfl ?_
  refine ky_aload_n (n := 1) dX0_canPass_0 rfl rfl 0 rfl ?_
  refine ky_getf (q := (RX0, TX0, 17)) (v := .int (σ.1 20 1)) (n := 4) dX0_canPass_1 rfl kc_20 rfl (Nat.le_of_ble_eq_true rfl) wg_X0_58 (vf_20_1 _ _) ?_
  refine ky_iload_n (n := 5) dX0_canPass_4 rfl rfl 1 rfl ?_
  refine ky_iadd (n := 6) dX0_canPass_5 rfl ?_
  refine ky_sipush (v := (9999 : Int32)) (n := 9) dX0_canPass_6 rfl rfl ?_
  refine ky_icmp_gt (n := 12) (tgt := 16) dX0_canPass_9 rfl rfl (fun c1 => ?_) (fun c1 => ?_)
  · have hf := ky_pos c1 hf
    refine ky_iconst (v := (0 : Int32)) (n := 17) dX0_canPass_16 rfl rfl ?_
    cases hf
    exact ky_zreturn dX0_canPass_17 rfl (Or.inl rfl)
  · have hf := ky_neg c1 hf
    refine ky_iconst (v := (1 : Int32)) (n := 13) dX0_canPass_12 rfl rfl ?_
    refine ky_goto (tgt := 17) dX0_canPass_13 rfl ?_
    cases hf
    exact ky_zreturn dX0_canPass_17 rfl (Or.inr rfl)
def fX0_comeTo (a1 : Int32) (a2 : Int32) (σ : ky_St) : Option (Unit × ky_St) :=
  ky_bd (fX3_put 22 a1 a2 σ) fun v3 s1 =>
  ky_bd (fX3_put 23 a1 (s1.1 20 1) s1) fun v6 s4 =>
  ky_bd (fX3_add 24 a1 (1 : Int32) s4) fun v9 s7 =>
  ky_bd (fX0_addUser a1 a2 s7) fun v12 s10 =>
  ky_bn (ky_u1 s10 20 2 ((s10.1 20 2) + (1 : Int32))) fun s13 =>
  some ((), s13)
set_option maxHeartbeats 4000000 in
set_option maxRecDepth 100000 in
theorem KX0_comeTo {G : ky_G} (d : Nat) (a1 : Int32) (a2 : Int32) (σ : ky_St) (r : Unit) (σ' : ky_St) (hf : fX0_comeTo a1 a2 σ = some (r, σ')) : ky_K G mX0_comeTo (d + 2) 0 0 [ky_r G 20, .int a1, .int a2] σ (.inr none) σ' := by
  unfold fX0_comeTo at hf
  refine ky_enter rfl (by decide +kernel) (Nat.le_of_ble_eq_true rfl) (lv := [(0, ky_r G 20), (1, .int a1), (2, .int a2)]) rfl ?_
  refine ky_aload_n (n := 1) dX0_comeTo_0 rfl rfl 0 rfl ?_
  refine ky_getf (q := (RX0, TX0, 17)) (v := ky_r G 22) (n := 4) dX0_comeTo_1 rfl kc_20 rfl (Nat.le_of_ble_eq_true rfl) wg_X0_15 (vf_20_6 _ _) ?_
  refine ky_iload_n (n := 5) dX0_comeTo_4 rfl rfl 1 rfl ?_
  refine ky_iload_n (n := 6) dX0_comeTo_5 rfl rfl 2 rfl ?_
  obtain ⟨v3, s1, h2, hf⟩ := ky_bd_e hf
  refine ky_callN (kc := 0) (ks := 0) (kc2 := 0) (ks2 := 0) (as := [ky_r G 22, .int a1, .int a2]) (st := []) (KX3_put (d + 1) 22 a1 a2 σ _ _ h2) okX3_put wn_X0_98 rfl rfl (Nat.le_of_ble_eq_true rfl) dX0_comeTo_6 rfl ?_
  refine ky_aload_n (n := 10) dX0_comeTo_9 rfl rfl 0 rfl ?_
  refine ky_getf (q := (RX0, TX0, 17)) (v := ky_r G 23) (n := 13) dX0_comeTo_10 rfl kc_20 rfl (Nat.le_of_ble_eq_true rfl) wg_X0_18 (vf_20_7 _ _) ?_
  refine ky_iload_n (n := 14) dX0_comeTo_13 rfl rfl 1 rfl ?_
  refine ky_aload_n (n := 15) dX0_comeTo_14 rfl rfl 0 rfl ?_
  refine ky_getf (q := (RX0, TX0, 17)) (v := .int (s1.1 20 1)) (n := 18) dX0_comeTo_15 rfl kc_20 rfl (Nat.le_of_ble_eq_true rfl) wg_X0_58 (vf_20_1 _ _) ?_
  obtain ⟨v6, s4, h5, hf⟩ := ky_bd_e hf
  refine ky_callN (kc := 0) (ks := 0) (kc2 := 0) (ks2 := 0) (as := [ky_r G 23, .int a1, .int (s1.1 20 1)]) (st := []) (KX3_put (d + 1) 23 a1 (s1.1 20 1) s1 _ _ h5) okX3_put wn_X0_98 rfl rfl (Nat.le_of_ble_eq_true rfl) dX0_comeTo_18 rfl ?_
  refine ky_aload_n (n := 22) dX0_comeTo_21 rfl rfl 0 rfl ?_
  refine ky_getf (q := (RX0, TX0, 17)) (v := ky_r G 24) (n := 25) dX0_comeTo_22 rfl kc_20 rfl (Nat.le_of_ble_eq_true rfl) wg_X0_21 (vf_20_8 _ _) ?_
  refine ky_iload_n (n := 26) dX0_comeTo_25 rfl rfl 1 rfl ?_
  refine ky_iconst (v := (1 : Int32)) (n := 27) dX0_comeTo_26 rfl rfl ?_
  obtain ⟨v9, s7, h8, hf⟩ := ky_bd_e hf
  refine ky_callN (kc := 0) (ks := 0) (kc2 := 0) (ks2 := 0) (as := [ky_r G 24, .int a1, .int (1 : Int32)]) (st := []) (KX3_add d 24 a1 (1 : Int32) s4 _ _ h8) okX3_add wn_X0_105 rfl rfl (Nat.le_of_ble_eq_true rfl) dX0_comeTo_27 rfl ?_
  refine ky_aload_n (n := 31) dX0_comeTo_30 rfl rfl 0 rfl ?_
  refine ky_iload_n (n := 32) dX0_comeTo_31 rfl rfl 1 rfl ?_
  refine ky_iload_n (n := 33) dX0_comeTo_32 rfl rfl 2 rfl ?_
  obtain ⟨v12, s10, h11, hf⟩ := ky_bd_e hf
  refine ky_callV (kc := 0) (ks := 0) (kc2 := 0) (ks2 := 0) (k0 := 20) (as := [.int a1, .int a2]) (st := []) (KX0_addUser d a1 a2 s7 _ _ h11) okX0_addUser wl_X0_138 kc_20 (q := (RX0, TX0, 17)) rfl rfl rfl rfl (Nat.le_of_ble_eq_true rfl) dX0_comeTo_33 rfl ?_
  refine ky_aload_n (n := 37) dX0_comeTo_36 rfl rfl 0 rfl ?_
  refine ky_dup (n := 38) dX0_comeTo_37 rfl rfl ?_
  refine ky_getf (q := (RX0, TX0, 17)) (v := .int (s10.1 20 2)) (n := 41) dX0_comeTo_38 rfl kc_20 rfl (Nat.le_of_ble_eq_true rfl) wg_X0_61 (vf_20_2 _ _) ?_
  refine ky_iconst (v := (1 : Int32)) (n := 42) dX0_comeTo_41 rfl rfl ?_
  refine ky_iadd (n := 43) dX0_comeTo_42 rfl ?_
  refine ky_putf (q := (RX0, TX0, 17)) (n := 46) dX0_comeTo_43 rfl kc_20 rfl (Nat.le_of_ble_eq_true rfl) wg_X0_61 rfl (by decide +kernel) rfl (fun s13 es13 => ?_)
  have hf := ky_bn_e hf s13 es13
  cases hf
  exact ky_return dX0_comeTo_46 rfl
def fX0_hireOut_L5 : Nat → Int32 → Int32 → Int32 → ky_St → Option (Unit × ky_St)
  | 0, _, _, _, _ => none
  | fu + 1, x1, x3, x4, σ =>
  if (σ.1 20 0) ≤ x4 then (
  some ((), σ)) else (
  if x3 ≤ 0 then (
  some ((), σ)) else (
  ky_bd (fX0_isInYard x4 σ) fun v5 s3 =>
  if v5 = 0 then (
  ky_bn (x4 + (1 : Int32)) fun v7 =>
  fX0_hireOut_L5 fu x1 x3 v7 s3) else (
  ky_bd (fX0_isWhole x4 s3) fun v10 s8 =>
  if v10 = 0 then (
  ky_bn (x4 + (1 : Int32)) fun v12 =>
  fX0_hireOut_L5 fu x1 x3 v12 s8) else (
  ky_bd (fX0_comeTo x4 x1 s8) fun v15 s13 =>
  ky_bn (x3 + (-1 : Int32)) fun v16 =>
  ky_bn (x4 + (1 : Int32)) fun v17 =>
  fX0_hireOut_L5 fu x1 v16 v17 s13))))
set_option maxHeartbeats 4000000 in
set_option maxRecDepth 100000 in
theorem tX0_hireOut_L5 {G : ky_G} (d : Nat) : ∀ (fu : Nat) (x1 : Int32) (x3 : Int32) (x4 : Int32) (σ : ky_St) (r : Unit) (σ' : ky_St), fX0_hireOut_L5 fu x1 x3 x4 σ = some (r, σ') → ky_T G mX0_hireOut (d + 3) 0 0 5 [(0, ky_r G 20), (1, .int x1), (3, .int x3), (4, .int x4)] [] σ (.inr none) σ' := by
  intro fu
  induction fu with
  | zero =>
    intro x1 x3 x4 σ r σ' hf
    rw [fX0_hireOut_L5] at hf
    cases hf
  | succ fu ih =>
    intro x1 x3 x4 σ r σ' hf
    rw [fX0_hireOut_L5] at hf
    refine ky_iload (n := 7) dX0_hireOut_5 rfl 3 rfl ?_
    refine ky_aload_n (n := 8) dX0_hireOut_7 rfl rfl 0 rfl ?_
    refine ky_getf (q := (RX0, TX0, 17)) (v := .int (σ.1 20 0)) (n := 11) dX0_hireOut_8 rfl kc_20 rfl (Nat.le_of_ble_eq_true rfl) wg_X0_54 (vf_20_0 _ _) ?_
    refine ky_icmp_ge (n := 14) (tgt := 52) dX0_hireOut_11 rfl rfl (fun c1 => ?_) (fun c1 => ?_)
    · have hf := ky_pos c1 hf
      cases hf
      exact ky_return dX0_hireOut_52 rfl
    · have hf := ky_neg c1 hf
      refine ky_iload_n (n := 15) dX0_hireOut_14 rfl rfl 2 rfl ?_
      refine ky_if_le (n := 18) (tgt := 52) dX0_hireOut_15 rfl rfl (fun c2 => ?_) (fun c2 => ?_)
      · have hf := ky_pos c2 hf
        cases hf
        exact ky_return dX0_hireOut_52 rfl
      · have hf := ky_neg c2 hf
        refine ky_aload_n (n := 19) dX0_hireOut_18 rfl rfl 0 rfl ?_
        refine ky_iload (n := 21) dX0_hireOut_19 rfl 3 rfl ?_
        obtain ⟨v5, s3, h4, hf⟩ := ky_bd_e hf
        refine ky_callV (kc := 0) (ks := 0) (kc2 := 0) (ks2 := 0) (k0 := 20) (as := [.int x4]) (st := []) (KX0_isInYard (d + 1) x4 σ _ _ h4) okX0_isInYard wl_X0_92 kc_20 (q := (RX0, TX0, 17)) rfl rfl rfl rfl (Nat.le_of_ble_eq_true rfl) dX0_hireOut_21 rfl ?_
        refine ky_if_eq (n := 27) (tgt := 46) dX0_hireOut_24 rfl rfl (fun c6 => ?_) (fun c6 => ?_)
        · have hf := ky_pos c6 hf
          refine ky_iincB (c := (1 : Int32)) (n := 49) dX0_hireOut_46 rfl 3 rfl rfl (Nat.le_of_ble_eq_true rfl) (fun v7 ev7 => ?_)
          have hf := ky_bn_e hf v7 ev7
          refine ky_lv (lv' := [(4, .int v7), (0, ky_r G 20), (1, .int x1), (3, .int x3)]) rfl ?_
          refine ky_goto (tgt := 5) dX0_hireOut_49 rfl ?_
          refine ky_sub [1, 2, 3, 0] (lv' := [(0, ky_r G 20), (1, .int x1), (3, .int x3), (4, .int v7)]) rfl ?_
          exact ih x1 x3 v7 s3 _ _ hf
        · have hf := ky_neg c6 hf
          refine ky_aload_n (n := 28) dX0_hireOut_27 rfl rfl 0 rfl ?_
          refine ky_iload (n := 30) dX0_hireOut_28 rfl 3 rfl ?_
          obtain ⟨v10, s8, h9, hf⟩ := ky_bd_e hf
          refine ky_callV (kc := 0) (ks := 0) (kc2 := 0) (ks2 := 0) (k0 := 20) (as := [.int x4]) (st := []) (KX0_isWhole (d + 1) x4 s3 _ _ h9) okX0_isWhole wl_X0_95 kc_20 (q := (RX0, TX0, 17)) rfl rfl rfl rfl (Nat.le_of_ble_eq_true rfl) dX0_hireOut_30 rfl ?_
          refine ky_if_eq (n := 36) (tgt := 46) dX0_hireOut_33 rfl rfl (fun c11 => ?_) (fun c11 => ?_)
          · have hf := ky_pos c11 hf
            refine ky_iincB (c := (1 : Int32)) (n := 49) dX0_hireOut_46 rfl 3 rfl rfl (Nat.le_of_ble_eq_true rfl) (fun v12 ev12 => ?_)
            have hf := ky_bn_e hf v12 ev12
            refine ky_lv (lv' := [(4, .int v12), (0, ky_r G 20), (1, .int x1), (3, .int x3)]) rfl ?_
            refine ky_goto (tgt := 5) dX0_hireOut_49 rfl ?_
            refine ky_sub [1, 2, 3, 0] (lv' := [(0, ky_r G 20), (1, .int x1), (3, .int x3), (4, .int v12)]) rfl ?_
            exact ih x1 x3 v12 s8 _ _ hf
          · have hf := ky_neg c11 hf
            refine ky_aload_n (n := 37) dX0_hireOut_36 rfl rfl 0 rfl ?_
            refine ky_iload (n := 39) dX0_hireOut_37 rfl 3 rfl ?_
            refine ky_iload_n (n := 40) dX0_hireOut_39 rfl rfl 1 rfl ?_
            obtain ⟨v15, s13, h14, hf⟩ := ky_bd_e hf
            refine ky_callV (kc := 0) (ks := 0) (kc2 := 0) (ks2 := 0) (k0 := 20) (as := [.int x4, .int x1]) (st := []) (KX0_comeTo d x4 x1 s8 _ _ h14) okX0_comeTo wl_X0_134 kc_20 (q := (RX0, TX0, 17)) rfl rfl rfl rfl (Nat.le_of_ble_eq_true rfl) dX0_hireOut_40 rfl ?_
            refine ky_iincB (c := (-1 : Int32)) (n := 46) dX0_hireOut_43 rfl 2 rfl rfl (Nat.le_of_ble_eq_true rfl) (fun v16 ev16 => ?_)
            have hf := ky_bn_e hf v16 ev16
            refine ky_lv (lv' := [(3, .int v16), (0, ky_r G 20), (1, .int x1), (4, .int x4)]) rfl ?_
            refine ky_iincB (c := (1 : Int32)) (n := 49) dX0_hireOut_46 rfl 3 rfl rfl (Nat.le_of_ble_eq_true rfl) (fun v17 ev17 => ?_)
            have hf := ky_bn_e hf v17 ev17
            refine ky_lv (lv' := [(4, .int v17), (3, .int v16), (0, ky_r G 20), (1, .int x1)]) rfl ?_
            refine ky_goto (tgt := 5) dX0_hireOut_49 rfl ?_
            refine ky_sub [2, 3, 1, 0] (lv' := [(0, ky_r G 20), (1, .int x1), (3, .int v16), (4, .int v17)]) rfl ?_
            exact ih x1 v16 v17 s13 _ _ hf
def fX0_hireOut (a1 : Int32) (a2 : Int32) (σ : ky_St) : Option (Unit × ky_St) :=
  fX0_hireOut_L5 FU a1 a2 (0 : Int32) σ
set_option maxHeartbeats 4000000 in
set_option maxRecDepth 100000 in
theorem KX0_hireOut {G : ky_G} (d : Nat) (a1 : Int32) (a2 : Int32) (σ : ky_St) (r : Unit) (σ' : ky_St) (hf : fX0_hireOut a1 a2 σ = some (r, σ')) : ky_K G mX0_hireOut (d + 3) 0 0 [ky_r G 20, .int a1, .int a2] σ (.inr none) σ' := by
  unfold fX0_hireOut at hf
  refine ky_enter rfl (by decide +kernel) (Nat.le_of_ble_eq_true rfl) (lv := [(0, ky_r G 20), (1, .int a1), (2, .int a2)]) rfl ?_
  refine ky_iload_n (n := 1) dX0_hireOut_0 rfl rfl 2 rfl ?_
  refine ky_istore_n (lv' := [(3, .int a2), (0, ky_r G 20), (1, .int a1), (2, .int a2)]) (n := 2) dX0_hireOut_1 rfl rfl (Nat.le_of_ble_eq_true rfl) rfl ?_
  refine ky_iconst (v := (0 : Int32)) (n := 3) dX0_hireOut_2 rfl rfl ?_
  refine ky_istore (lv' := [(4, .int (0 : Int32)), (3, .int a2), (0, ky_r G 20), (1, .int a1), (2, .int a2)]) (n := 5) dX0_hireOut_3 rfl (Nat.le_of_ble_eq_true rfl) rfl ?_
  refine ky_sub [2, 3, 1, 0] (lv' := [(0, ky_r G 20), (1, .int a1), (3, .int a2), (4, .int (0 : Int32))]) rfl ?_
  exact tX0_hireOut_L5 d FU a1 a2 (0 : Int32) σ _ _ hf
def fX0_hireBill (a1 : Int32) (a2 : Int32) (σ : ky_St) : Option (Int32 × ky_St) :=
  ky_bd (fX3_at 22 a1 σ) fun v3 s1 =>
  if v3 = (-1 : Int32) then (
  some ((0 : Int32), s1)) else (
  ky_bd (fX3_at 23 a1 s1) fun v7 s5 =>
  ky_bn (((s1.1 20 1) + a2) - v7) fun v8 =>
  ky_bd (fX3_at 21 (0 : Int32) s5) fun v11 s9 =>
  ky_bn (if v8 < v11 then v11 else v8) fun v12 =>
  ky_bd (fX3_at 21 (1 : Int32) s9) fun v15 s13 =>
  some ((v12 * v15), s13))
set_option maxHeartbeats 4000000 in
set_option maxRecDepth 100000 in
theorem KX0_hireBill {G : ky_G} (d : Nat) (a1 : Int32) (a2 : Int32) (σ : ky_St) (r : Int32) (σ' : ky_St) (hf : fX0_hireBill a1 a2 σ = some (r, σ')) : ky_K G mX0_hireBill (d + 1) 0 0 [ky_r G 20, .int a1, .int a2] σ (.inr (some (.int r))) σ' := by
  unfold fX0_hireBill at hf
  refine ky_enter rfl (by decide +kernel) (Nat.le_of_ble_eq_true rfl) (lv := [(0, ky_r G 20), (1, .int a1), (2, .int a2)]) rfl ?_
  refine ky_aload_n (n := 1) dX0_hireBill_0 rfl rfl 0 rfl ?_
  refine ky_getf (q := (RX0, TX0, 17)) (v := ky_r G 22) (n := 4) dX0_hireBill_1 rfl kc_20 rfl (Nat.le_of_ble_eq_true rfl) wg_X0_15 (vf_20_6 _ _) ?_
  refine ky_iload_n (n := 5) dX0_hireBill_4 rfl rfl 1 rfl ?_
  obtain ⟨v3, s1, h2, hf⟩ := ky_bd_e hf
  refine ky_callN (kc := 0) (ks := 0) (kc2 := 0) (ks2 := 0) (as := [ky_r G 22, .int a1]) (st := []) (KX3_at d 22 a1 σ _ _ h2) okX3_at wn_X0_78 rfl rfl (Nat.le_of_ble_eq_true rfl) dX0_hireBill_5 rfl ?_
  refine ky_iconst (v := (-1 : Int32)) (n := 9) dX0_hireBill_8 rfl rfl ?_
  refine ky_icmp_ne (n := 12) (tgt := 14) dX0_hireBill_9 rfl rfl (fun c4 => ?_) (fun c4 => ?_)
  · have hf := ky_neg c4 hf
    refine ky_aload_n (n := 15) dX0_hireBill_14 rfl rfl 0 rfl ?_
    refine ky_getf (q := (RX0, TX0, 17)) (v := .int (s1.1 20 1)) (n := 18) dX0_hireBill_15 rfl kc_20 rfl (Nat.le_of_ble_eq_true rfl) wg_X0_58 (vf_20_1 _ _) ?_
    refine ky_iload_n (n := 19) dX0_hireBill_18 rfl rfl 2 rfl ?_
    refine ky_iadd (n := 20) dX0_hireBill_19 rfl ?_
    refine ky_aload_n (n := 21) dX0_hireBill_20 rfl rfl 0 rfl ?_
    refine ky_getf (q := (RX0, TX0, 17)) (v := ky_r G 23) (n := 24) dX0_hireBill_21 rfl kc_20 rfl (Nat.le_of_ble_eq_true rfl) wg_X0_18 (vf_20_7 _ _) ?_
    refine ky_iload_n (n := 25) dX0_hireBill_24 rfl rfl 1 rfl ?_
    obtain ⟨v7, s5, h6, hf⟩ := ky_bd_e hf
    refine ky_callN (kc := 0) (ks := 0) (kc2 := 0) (ks2 := 0) (as := [ky_r G 23, .int a1]) (st := [.int ((s1.1 20 1) + a2)]) (KX3_at d 23 a1 s1 _ _ h6) okX3_at wn_X0_78 rfl rfl (Nat.le_of_ble_eq_true rfl) dX0_hireBill_25 rfl ?_
    refine ky_isub (n := 29) dX0_hireBill_28 rfl ?_
    refine ky_topi (fun v8 ev8 => ?_)
    have hf := ky_bn_e hf v8 ev8
    refine ky_istore_n (lv' := [(3, .int v8), (0, ky_r G 20), (1, .int a1), (2, .int a2)]) (n := 30) dX0_hireBill_29 rfl rfl (Nat.le_of_ble_eq_true rfl) rfl ?_
    refine ky_iload_n (n := 31) dX0_hireBill_30 rfl rfl 0 rfl ?_
    refine ky_aload_n (n := 32) dX0_hireBill_31 rfl rfl 1 rfl ?_
    refine ky_getf (q := (RX0, TX0, 17)) (v := ky_r G 21) (n := 35) dX0_hireBill_32 rfl kc_20 rfl (Nat.le_of_ble_eq_true rfl) wg_X0_9 (vf_20_5 _ _) ?_
    refine ky_iconst (v := (0 : Int32)) (n := 36) dX0_hireBill_35 rfl rfl ?_
    obtain ⟨v11, s9, h10, hf⟩ := ky_bd_e hf
    refine ky_callN (kc := 0) (ks := 0) (kc2 := 0) (ks2 := 0) (as := [ky_r G 21, .int (0 : Int32)]) (st := [.int v8]) (KX3_at d 21 (0 : Int32) s5 _ _ h10) okX3_at wn_X0_78 rfl rfl (Nat.le_of_ble_eq_true rfl) dX0_hireBill_36 rfl ?_
    refine ky_max (n := 42) dX0_hireBill_39 rfl wl_X0_141 wlib_max_s wlib_Math wlib_max_c (by omega) (Nat.le_of_ble_eq_true rfl) ?_
    refine ky_topi (fun v12 ev12 => ?_)
    have hf := ky_bn_e hf v12 ev12
    refine ky_aload_n (n := 43) dX0_hireBill_42 rfl rfl 1 rfl ?_
    refine ky_getf (q := (RX0, TX0, 17)) (v := ky_r G 21) (n := 46) dX0_hireBill_43 rfl kc_20 rfl (Nat.le_of_ble_eq_true rfl) wg_X0_9 (vf_20_5 _ _) ?_
    refine ky_iconst (v := (1 : Int32)) (n := 47) dX0_hireBill_46 rfl rfl ?_
    obtain ⟨v15, s13, h14, hf⟩ := ky_bd_e hf
    refine ky_callN (kc := 0) (ks := 0) (kc2 := 0) (ks2 := 0) (as := [ky_r G 21, .int (1 : Int32)]) (st := [.int v12]) (KX3_at d 21 (1 : Int32) s9 _ _ h14) okX3_at wn_X0_78 rfl rfl (Nat.le_of_ble_eq_true rfl) dX0_hireBill_47 rfl ?_
    refine ky_imul (n := 51) dX0_hireBill_50 rfl ?_
    cases hf
    exact ky_ireturn dX0_hireBill_51 rfl
  · have hf := ky_pos c4 hf
    refine ky_iconst (v := (0 : Int32)) (n := 13) dX0_hireBill_12 rfl rfl ?_
    cases hf
    exact ky_ireturn dX0_hireBill_13 rfl
def fX0_billForHire (a1 : Int32) (σ : ky_St) : Option (Int32 × ky_St) :=
  ky_bd (fX0_hireBill a1 (0 : Int32) σ) fun v3 s1 =>
  ky_bd (fX3_at 22 a1 s1) fun v6 s4 =>
  ky_bd (fX3_add 29 v6 v3 s4) fun v9 s7 =>
  some (v3, s7)
set_option maxHeartbeats 4000000 in
set_option maxRecDepth 100000 in
theorem KX0_billForHire {G : ky_G} (d : Nat) (a1 : Int32) (σ : ky_St) (r : Int32) (σ' : ky_St) (hf : fX0_billForHire a1 σ = some (r, σ')) : ky_K G mX0_billForHire (d + 2) 0 0 [ky_r G 20, .int a1] σ (.inr (some (.int r))) σ' := by
  unfold fX0_billForHire at hf
  refine ky_enter rfl (by decide +kernel) (Nat.le_of_ble_eq_true rfl) (lv := [(0, ky_r G 20), (1, .int a1)]) rfl ?_
  refine ky_aload_n (n := 1) dX0_billForHire_0 rfl rfl 0 rfl ?_
  refine ky_iload_n (n := 2) dX0_billForHire_1 rfl rfl 1 rfl ?_
  refine ky_iconst (v := (0 : Int32)) (n := 3) dX0_billForHire_2 rfl rfl ?_
  obtain ⟨v3, s1, h2, hf⟩ := ky_bd_e hf
  refine ky_callV (kc := 0) (ks := 0) (kc2 := 0) (ks2 := 0) (k0 := 20) (as := [.int a1, .int (0 : Int32)]) (st := []) (KX0_hireBill d a1 (0 : Int32) σ _ _ h2) okX0_hireBill wl_X0_144 kc_20 (q := (RX0, TX0, 17)) rfl rfl rfl rfl (Nat.le_of_ble_eq_true rfl) dX0_billForHire_3 rfl ?_
  refine ky_istore_n (lv' := [(2, .int v3), (0, ky_r G 20), (1, .int a1)]) (n := 7) dX0_billForHire_6 rfl rfl (Nat.le_of_ble_eq_true rfl) rfl ?_
  refine ky_aload_n (n := 8) dX0_billForHire_7 rfl rfl 1 rfl ?_
  refine ky_getf (q := (RX0, TX0, 17)) (v := ky_r G 29) (n := 11) dX0_billForHire_8 rfl kc_20 rfl (Nat.le_of_ble_eq_true rfl) wg_X0_36 (vf_20_13 _ _) ?_
  refine ky_aload_n (n := 12) dX0_billForHire_11 rfl rfl 1 rfl ?_
  refine ky_getf (q := (RX0, TX0, 17)) (v := ky_r G 22) (n := 15) dX0_billForHire_12 rfl kc_20 rfl (Nat.le_of_ble_eq_true rfl) wg_X0_15 (vf_20_6 _ _) ?_
  refine ky_iload_n (n := 16) dX0_billForHire_15 rfl rfl 2 rfl ?_
  obtain ⟨v6, s4, h5, hf⟩ := ky_bd_e hf
  refine ky_callN (kc := 0) (ks := 0) (kc2 := 0) (ks2 := 0) (as := [ky_r G 22, .int a1]) (st := [ky_r G 29]) (KX3_at (d + 1) 22 a1 s1 _ _ h5) okX3_at wn_X0_78 rfl rfl (Nat.le_of_ble_eq_true rfl) dX0_billForHire_16 rfl ?_
  refine ky_iload_n (n := 20) dX0_billForHire_19 rfl rfl 0 rfl ?_
  obtain ⟨v9, s7, h8, hf⟩ := ky_bd_e hf
  refine ky_callN (kc := 0) (ks := 0) (kc2 := 0) (ks2 := 0) (as := [ky_r G 29, .int v6, .int v3]) (st := []) (KX3_add d 29 v6 v3 s4 _ _ h8) okX3_add wn_X0_105 rfl rfl (Nat.le_of_ble_eq_true rfl) dX0_billForHire_20 rfl ?_
  refine ky_iload_n (n := 24) dX0_billForHire_23 rfl rfl 0 rfl ?_
  cases hf
  exact ky_ireturn dX0_billForHire_24 rfl
def fX0_comeHome (a1 : Int32) (σ : ky_St) : Option (Unit × ky_St) :=
  ky_bd (fX3_put 22 a1 (-1 : Int32) σ) fun v3 s1 =>
  ky_bd (fX3_put 23 a1 (s1.1 20 1) s1) fun v6 s4 =>
  some ((), s4)
set_option maxHeartbeats 4000000 in
set_option maxRecDepth 100000 in
theorem KX0_comeHome {G : ky_G} (d : Nat) (a1 : Int32) (σ : ky_St) (r : Unit) (σ' : ky_St) (hf : fX0_comeHome a1 σ = some (r, σ')) : ky_K G mX0_comeHome (d + 1) 0 0 [ky_r G 20, .int a1] σ (.inr none) σ' := by
  unfold fX0_comeHome at hf
  refine ky_enter rfl (by decide +kernel) (Nat.le_of_ble_eq_true rfl) (lv := [(0, ky_r G 20), (1, .int a1)]) rfl ?_
  refine ky_aload_n (n := 1) dX0_comeHome_0 rfl rfl 0 rfl ?_
  refine ky_getf (q := (RX0, TX0, 17)) (v := ky_r G 22) (n := 4) dX0_comeHome_1 rfl kc_20 rfl (Nat.le_of_ble_eq_true rfl) wg_X0_15 (vf_20_6 _ _) ?_
  refine ky_iload_n (n := 5) dX0_comeHome_4 rfl rfl 1 rfl ?_
  refine ky_iconst (v := (-1 : Int32)) (n := 6) dX0_comeHome_5 rfl rfl ?_
  obtain ⟨v3, s1, h2, hf⟩ := ky_bd_e hf
  refine ky_callN (kc := 0) (ks := 0) (kc2 := 0) (ks2 := 0) (as := [ky_r G 22, .int a1, .int (-1 : Int32)]) (st := []) (KX3_put d 22 a1 (-1 : Int32) σ _ _ h2) okX3_put wn_X0_98 rfl rfl (Nat.le_of_ble_eq_true rfl) dX0_comeHome_6 rfl ?_
  refine ky_aload_n (n := 10) dX0_comeHome_9 rfl rfl 0 rfl ?_
  refine ky_getf (q := (RX0, TX0, 17)) (v := ky_r G 23) (n := 13) dX0_comeHome_10 rfl kc_20 rfl (Nat.le_of_ble_eq_true rfl) wg_X0_18 (vf_20_7 _ _) ?_
  refine ky_iload_n (n := 14) dX0_comeHome_13 rfl rfl 1 rfl ?_
  refine ky_aload_n (n := 15) dX0_comeHome_14 rfl rfl 0 rfl ?_
  refine ky_getf (q := (RX0, TX0, 17)) (v := .int (s1.1 20 1)) (n := 18) dX0_comeHome_15 rfl kc_20 rfl (Nat.le_of_ble_eq_true rfl) wg_X0_58 (vf_20_1 _ _) ?_
  obtain ⟨v6, s4, h5, hf⟩ := ky_bd_e hf
  refine ky_callN (kc := 0) (ks := 0) (kc2 := 0) (ks2 := 0) (as := [ky_r G 23, .int a1, .int (s1.1 20 1)]) (st := []) (KX3_put d 23 a1 (s1.1 20 1) s1 _ _ h5) okX3_put wn_X0_98 rfl rfl (Nat.le_of_ble_eq_true rfl) dX0_comeHome_18 rfl ?_
  cases hf
  exact ky_return dX0_comeHome_21 rfl
def fX0_moveTo (a1 : Int32) (a2 : Int32) (σ : ky_St) : Option (Int32 × ky_St) :=
  ky_bd (fX0_billForHire a1 σ) fun v3 s1 =>
  ky_bd (fX0_comeTo a1 a2 s1) fun v6 s4 =>
  some (v3, s4)
set_option maxHeartbeats 4000000 in
set_option maxRecDepth 100000 in
theorem KX0_moveTo {G : ky_G} (d : Nat) (a1 : Int32) (a2 : Int32) (σ : ky_St) (r : Int32) (σ' : ky_St) (hf : fX0_moveTo a1 a2 σ = some (r, σ')) : ky_K G mX0_moveTo (d + 3) 0 0 [ky_r G 20, .int a1, .int a2] σ (.inr (some (.int r))) σ' := by
  unfold fX0_moveTo at hf
  refine ky_enter rfl (by decide +kernel) (Nat.le_of_ble_eq_true rfl) (lv := [(0, ky_r G 20), (1, .int a1), (2, .int a2)]) rfl ?_
  refine ky_aload_n (n := 1) dX0_moveTo_0 rfl rfl 0 rfl ?_
  refine ky_iload_n (n := 2) dX0_moveTo_1 rfl rfl 1 rfl ?_
  obtain ⟨v3, s1, h2, hf⟩ := ky_bd_e hf
  refine ky_callV (kc := 0) (ks := 0) (kc2 := 0) (ks2 := 0) (k0 := 20) (as := [.int a1]) (st := []) (KX0_billForHire d a1 σ _ _ h2) okX0_billForHire wl_X0_147 kc_20 (q := (RX0, TX0, 17)) rfl rfl rfl rfl (Nat.le_of_ble_eq_true rfl) dX0_moveTo_2 rfl ?_
  refine ky_istore_n (lv' := [(3, .int v3), (0, ky_r G 20), (1, .int a1), (2, .int a2)]) (n := 6) dX0_moveTo_5 rfl rfl (Nat.le_of_ble_eq_true rfl) rfl ?_
  refine ky_aload_n (n := 7) dX0_moveTo_6 rfl rfl 1 rfl ?_
  refine ky_iload_n (n := 8) dX0_moveTo_7 rfl rfl 2 rfl ?_
  refine ky_iload_n (n := 9) dX0_moveTo_8 rfl rfl 3 rfl ?_
  obtain ⟨v6, s4, h5, hf⟩ := ky_bd_e hf
  refine ky_callV (kc := 0) (ks := 0) (kc2 := 0) (ks2 := 0) (k0 := 20) (as := [.int a1, .int a2]) (st := []) (KX0_comeTo d a1 a2 s1 _ _ h5) okX0_comeTo wl_X0_134 kc_20 (q := (RX0, TX0, 17)) rfl rfl rfl rfl (Nat.le_of_ble_eq_true rfl) dX0_moveTo_9 rfl ?_
  refine ky_iload_n (n := 13) dX0_moveTo_12 rfl rfl 0 rfl ?_
  cases hf
  exact ky_ireturn dX0_moveTo_13 rfl
def fX0_takeBack (a1 : Int32) (σ : ky_St) : Option (Int32 × ky_St) :=
  ky_bd (fX0_billForHire a1 σ) fun v3 s1 =>
  ky_bd (fX0_comeHome a1 s1) fun v6 s4 =>
  some (v3, s4)
set_option maxHeartbeats 4000000 in
set_option maxRecDepth 100000 in
theorem KX0_takeBack {G : ky_G} (d : Nat) (a1 : Int32) (σ : ky_St) (r : Int32) (σ' : ky_St) (hf : fX0_takeBack a1 σ = some (r, σ')) : ky_K G mX0_takeBack (d + 3) 0 0 [ky_r G 20, .int a1] σ (.inr (some (.int r))) σ' := by
  unfold fX0_takeBack at hf
  refine ky_enter rfl (by decide +kernel) (Nat.le_of_ble_eq_true rfl) (lv := [(0, ky_r G 20), (1, .int a1)]) rfl ?_
  refine ky_aload_n (n := 1) dX0_takeBack_0 rfl rfl 0 rfl ?_
  refine ky_iload_n (n := 2) dX0_takeBack_1 rfl rfl 1 rfl ?_
  obtain ⟨v3, s1, h2, hf⟩ := ky_bd_e hf
  refine ky_callV (kc := 0) (ks := 0) (kc2 := 0) (ks2 := 0) (k0 := 20) (as := [.int a1]) (st := []) (KX0_billForHire d a1 σ _ _ h2) okX0_billForHire wl_X0_147 kc_20 (q := (RX0, TX0, 17)) rfl rfl rfl rfl (Nat.le_of_ble_eq_true rfl) dX0_takeBack_2 rfl ?_
  refine ky_istore_n (lv' := [(2, .int v3), (0, ky_r G 20), (1, .int a1)]) (n := 6) dX0_takeBack_5 rfl rfl (Nat.le_of_ble_eq_true rfl) rfl ?_
  refine ky_aload_n (n := 7) dX0_takeBack_6 rfl rfl 1 rfl ?_
  refine ky_iload_n (n := 8) dX0_takeBack_7 rfl rfl 2 rfl ?_
  obtain ⟨v6, s4, h5, hf⟩ := ky_bd_e hf
  refine ky_callV (kc := 0) (ks := 0) (kc2 := 0) (ks2 := 0) (k0 := 20) (as := [.int a1]) (st := []) (KX0_comeHome (d + 1) a1 s1 _ _ h5) okX0_comeHome wl_X0_150 kc_20 (q := (RX0, TX0, 17)) rfl rfl rfl rfl (Nat.le_of_ble_eq_true rfl) dX0_takeBack_8 rfl ?_
  refine ky_iload_n (n := 12) dX0_takeBack_11 rfl rfl 0 rfl ?_
  cases hf
  exact ky_ireturn dX0_takeBack_12 rfl
def fX0_takeBackShort (a1 : Int32) (a2 : Int32) (a3 : Int32) (σ : ky_St) : Option (Int32 × ky_St) :=
  ky_bd (fX0_charge a1 a2 a3 σ) fun v3 s1 =>
  ky_bd (fX3_at 22 a1 s1) fun v6 s4 =>
  ky_bd (fX3_add 30 v6 v3 s4) fun v9 s7 =>
  ky_bd (fX0_takeBack a1 s7) fun v12 s10 =>
  some ((v12 + v3), s10)
set_option maxHeartbeats 4000000 in
set_option maxRecDepth 100000 in
theorem KX0_takeBackShort {G : ky_G} (d : Nat) (a1 : Int32) (a2 : Int32) (a3 : Int32) (σ : ky_St) (r : Int32) (σ' : ky_St) (hf : fX0_takeBackShort a1 a2 a3 σ = some (r, σ')) : ky_K G mX0_takeBackShort (d + 4) 0 0 [ky_r G 20, .int a1, .int a2, .int a3] σ (.inr (some (.int r))) σ' := by
  unfold fX0_takeBackShort at hf
  refine ky_enter rfl (by decide +kernel) (Nat.le_of_ble_eq_true rfl) (lv := [(0, ky_r G 20), (1, .int a1), (2, .int a2), (3, .int a3)]) rfl ?_
  refine ky_aload_n (n := 1) dX0_takeBackShort_0 rfl rfl 0 rfl ?_
  refine ky_iload_n (n := 2) dX0_takeBackShort_1 rfl rfl 1 rfl ?_
  refine ky_iload_n (n := 3) dX0_takeBackShort_2 rfl rfl 2 rfl ?_
  refine ky_iload_n (n := 4) dX0_takeBackShort_3 rfl rfl 3 rfl ?_
  obtain ⟨v3, s1, h2, hf⟩ := ky_bd_e hf
  refine ky_callV (kc := 0) (ks := 0) (kc2 := 0) (ks2 := 0) (k0 := 20) (as := [.int a1, .int a2, .int a3]) (st := []) (KX0_charge (d + 1) a1 a2 a3 σ _ _ h2) okX0_charge wl_X0_116 kc_20 (q := (RX0, TX0, 17)) rfl rfl rfl rfl (Nat.le_of_ble_eq_true rfl) dX0_takeBackShort_4 rfl ?_
  refine ky_istore (lv' := [(4, .int v3), (0, ky_r G 20), (1, .int a1), (2, .int a2), (3, .int a3)]) (n := 9) dX0_takeBackShort_7 rfl (Nat.le_of_ble_eq_true rfl) rfl ?_
  refine ky_aload_n (n := 10) dX0_takeBackShort_9 rfl rfl 1 rfl ?_
  refine ky_getf (q := (RX0, TX0, 17)) (v := ky_r G 30) (n := 13) dX0_takeBackShort_10 rfl kc_20 rfl (Nat.le_of_ble_eq_true rfl) wg_X0_39 (vf_20_14 _ _) ?_
  refine ky_aload_n (n := 14) dX0_takeBackShort_13 rfl rfl 1 rfl ?_
  refine ky_getf (q := (RX0, TX0, 17)) (v := ky_r G 22) (n := 17) dX0_takeBackShort_14 rfl kc_20 rfl (Nat.le_of_ble_eq_true rfl) wg_X0_15 (vf_20_6 _ _) ?_
  refine ky_iload_n (n := 18) dX0_takeBackShort_17 rfl rfl 2 rfl ?_
  obtain ⟨v6, s4, h5, hf⟩ := ky_bd_e hf
  refine ky_callN (kc := 0) (ks := 0) (kc2 := 0) (ks2 := 0) (as := [ky_r G 22, .int a1]) (st := [ky_r G 30]) (KX3_at (d + 3) 22 a1 s1 _ _ h5) okX3_at wn_X0_78 rfl rfl (Nat.le_of_ble_eq_true rfl) dX0_takeBackShort_18 rfl ?_
  refine ky_iload (n := 23) dX0_takeBackShort_21 rfl 0 rfl ?_
  obtain ⟨v9, s7, h8, hf⟩ := ky_bd_e hf
  refine ky_callN (kc := 0) (ks := 0) (kc2 := 0) (ks2 := 0) (as := [ky_r G 30, .int v6, .int v3]) (st := []) (KX3_add (d + 2) 30 v6 v3 s4 _ _ h8) okX3_add wn_X0_105 rfl rfl (Nat.le_of_ble_eq_true rfl) dX0_takeBackShort_23 rfl ?_
  refine ky_aload_n (n := 27) dX0_takeBackShort_26 rfl rfl 1 rfl ?_
  refine ky_iload_n (n := 28) dX0_takeBackShort_27 rfl rfl 2 rfl ?_
  obtain ⟨v12, s10, h11, hf⟩ := ky_bd_e hf
  refine ky_callV (kc := 0) (ks := 0) (kc2 := 0) (ks2 := 0) (k0 := 20) (as := [.int a1]) (st := []) (KX0_takeBack d a1 s7 _ _ h11) okX0_takeBack wl_X0_154 kc_20 (q := (RX0, TX0, 17)) rfl rfl rfl rfl (Nat.le_of_ble_eq_true rfl) dX0_takeBackShort_28 rfl ?_
  refine ky_iload (n := 33) dX0_takeBackShort_31 rfl 0 rfl ?_
  refine ky_iadd (n := 34) dX0_takeBackShort_33 rfl ?_
  cases hf
  exact ky_ireturn dX0_takeBackShort_34 rfl
def fX0_billedSoFar (a1 : Int32) (σ : ky_St) : Option (Int32 × ky_St) :=
  ky_bd (fX3_at 29 a1 σ) fun v3 s1 =>
  ky_bd (fX3_at 30 a1 s1) fun v6 s4 =>
  ky_bd (fX3_at 31 a1 s4) fun v9 s7 =>
  some (((v3 + v6) + v9), s7)
set_option maxHeartbeats 4000000 in
set_option maxRecDepth 100000 in
theorem KX0_billedSoFar {G : ky_G} (d : Nat) (a1 : Int32) (σ : ky_St) (r : Int32) (σ' : ky_St) (hf : fX0_billedSoFar a1 σ = some (r, σ')) : ky_K G mX0_billedSoFar (d + 1) 0 0 [ky_r G 20, .int a1] σ (.inr (some (.int r))) σ' := by
  unfold fX0_billedSoFar at hf
  refine ky_enter rfl (by decide +kernel) (Nat.le_of_ble_eq_true rfl) (lv := [(0, ky_r G 20), (1, .int a1)]) rfl ?_
  refine ky_aload_n (n := 1) dX0_billedSoFar_0 rfl rfl 0 rfl ?_
  refine ky_getf (q := (RX0, TX0, 17)) (v := ky_r G 29) (n := 4) dX0_billedSoFar_1 rfl kc_20 rfl (Nat.le_of_ble_eq_true rfl) wg_X0_36 (vf_20_13 _ _) ?_
  refine ky_iload_n (n := 5) dX0_billedSoFar_4 rfl rfl 1 rfl ?_
  obtain ⟨v3, s1, h2, hf⟩ := ky_bd_e hf
  refine ky_callN (kc := 0) (ks := 0) (kc2 := 0) (ks2 := 0) (as := [ky_r G 29, .int a1]) (st := []) (KX3_at d 29 a1 σ _ _ h2) okX3_at wn_X0_78 rfl rfl (Nat.le_of_ble_eq_true rfl) dX0_billedSoFar_5 rfl ?_
  refine ky_aload_n (n := 9) dX0_billedSoFar_8 rfl rfl 0 rfl ?_
  refine ky_getf (q := (RX0, TX0, 17)) (v := ky_r G 30) (n := 12) dX0_billedSoFar_9 rfl kc_20 rfl (Nat.le_of_ble_eq_true rfl) wg_X0_39 (vf_20_14 _ _) ?_
  refine ky_iload_n (n := 13) dX0_billedSoFar_12 rfl rfl 1 rfl ?_
  obtain ⟨v6, s4, h5, hf⟩ := ky_bd_e hf
  refine ky_callN (kc := 0) (ks := 0) (kc2 := 0) (ks2 := 0) (as := [ky_r G 30, .int a1]) (st := [.int v3]) (KX3_at d 30 a1 s1 _ _ h5) okX3_at wn_X0_78 rfl rfl (Nat.le_of_ble_eq_true rfl) dX0_billedSoFar_13 rfl ?_
  refine ky_iadd (n := 17) dX0_billedSoFar_16 rfl ?_
  refine ky_aload_n (n := 18) dX0_billedSoFar_17 rfl rfl 0 rfl ?_
  refine ky_getf (q := (RX0, TX0, 17)) (v := ky_r G 31) (n := 21) dX0_billedSoFar_18 rfl kc_20 rfl (Nat.le_of_ble_eq_true rfl) wg_X0_42 (vf_20_15 _ _) ?_
  refine ky_iload_n (n := 22) dX0_billedSoFar_21 rfl rfl 1 rfl ?_
  obtain ⟨v9, s7, h8, hf⟩ := ky_bd_e hf
  refine ky_callN (kc := 0) (ks := 0) (kc2 := 0) (ks2 := 0) (as := [ky_r G 31, .int a1]) (st := [.int (v3 + v6)]) (KX3_at d 31 a1 s4 _ _ h8) okX3_at wn_X0_78 rfl rfl (Nat.le_of_ble_eq_true rfl) dX0_billedSoFar_22 rfl ?_
  refine ky_iadd (n := 26) dX0_billedSoFar_25 rfl ?_
  cases hf
  exact ky_ireturn dX0_billedSoFar_26 rfl
def fX0_billOf (a1 : Int32) (σ : ky_St) : Option (Int32 × ky_St) :=
  ky_bd (fX0_billedSoFar a1 σ) fun v3 s1 =>
  ky_bd (fX3_at 32 a1 s1) fun v6 s4 =>
  some ((v3 - v6), s4)
set_option maxHeartbeats 4000000 in
set_option maxRecDepth 100000 in
theorem KX0_billOf {G : ky_G} (d : Nat) (a1 : Int32) (σ : ky_St) (r : Int32) (σ' : ky_St) (hf : fX0_billOf a1 σ = some (r, σ')) : ky_K G mX0_billOf (d + 2) 0 0 [ky_r G 20, .int a1] σ (.inr (some (.int r))) σ' := by
  unfold fX0_billOf at hf
  refine ky_enter rfl (by decide +kernel) (Nat.le_of_ble_eq_true rfl) (lv := [(0, ky_r G 20), (1, .int a1)]) rfl ?_
  refine ky_aload_n (n := 1) dX0_billOf_0 rfl rfl 0 rfl ?_
  refine ky_iload_n (n := 2) dX0_billOf_1 rfl rfl 1 rfl ?_
  obtain ⟨v3, s1, h2, hf⟩ := ky_bd_e hf
  refine ky_callV (kc := 0) (ks := 0) (kc2 := 0) (ks2 := 0) (k0 := 20) (as := [.int a1]) (st := []) (KX0_billedSoFar d a1 σ _ _ h2) okX0_billedSoFar wl_X0_157 kc_20 (q := (RX0, TX0, 17)) rfl rfl rfl rfl (Nat.le_of_ble_eq_true rfl) dX0_billOf_2 rfl ?_
  refine ky_aload_n (n := 6) dX0_billOf_5 rfl rfl 0 rfl ?_
  refine ky_getf (q := (RX0, TX0, 17)) (v := ky_r G 32) (n := 9) dX0_billOf_6 rfl kc_20 rfl (Nat.le_of_ble_eq_true rfl) wg_X0_45 (vf_20_16 _ _) ?_
  refine ky_iload_n (n := 10) dX0_billOf_9 rfl rfl 1 rfl ?_
  obtain ⟨v6, s4, h5, hf⟩ := ky_bd_e hf
  refine ky_callN (kc := 0) (ks := 0) (kc2 := 0) (ks2 := 0) (as := [ky_r G 32, .int a1]) (st := [.int v3]) (KX3_at (d + 1) 32 a1 s1 _ _ h5) okX3_at wn_X0_78 rfl rfl (Nat.le_of_ble_eq_true rfl) dX0_billOf_10 rfl ?_
  refine ky_isub (n := 14) dX0_billOf_13 rfl ?_
  cases hf
  exact ky_ireturn dX0_billOf_14 rfl
def fX0_setsOn_L4 : Nat → Int32 → Int32 → Int32 → ky_St → Option (Int32 × ky_St)
  | 0, _, _, _, _ => none
  | fu + 1, x1, x2, x3, σ =>
  if (σ.1 20 0) ≤ x3 then (
  some (x2, σ)) else (
  ky_bd (fX0_isOn x3 x1 σ) fun v4 s2 =>
  if v4 = 0 then (
  ky_bn (x3 + (1 : Int32)) fun v6 =>
  fX0_setsOn_L4 fu x1 x2 v6 s2) else (
  ky_bn (x2 + (1 : Int32)) fun v7 =>
  ky_bn (x3 + (1 : Int32)) fun v8 =>
  fX0_setsOn_L4 fu x1 v7 v8 s2))
set_option maxHeartbeats 4000000 in
set_option maxRecDepth 100000 in
theorem tX0_setsOn_L4 {G : ky_G} (d : Nat) : ∀ (fu : Nat) (x1 : Int32) (x2 : Int32) (x3 : Int32) (σ : ky_St) (r : Int32) (σ' : ky_St), fX0_setsOn_L4 fu x1 x2 x3 σ = some (r, σ') → ky_T G mX0_setsOn (d + 3) 0 0 4 [(0, ky_r G 20), (1, .int x1), (2, .int x2), (3, .int x3)] [] σ (.inr (some (.int r))) σ' := by
  intro fu
  induction fu with
  | zero =>
    intro x1 x2 x3 σ r σ' hf
    rw [fX0_setsOn_L4] at hf
    cases hf
  | succ fu ih =>
    intro x1 x2 x3 σ r σ' hf
    rw [fX0_setsOn_L4] at hf
    refine ky_iload_n (n := 5) dX0_setsOn_4 rfl rfl 3 rfl ?_
    refine ky_aload_n (n := 6) dX0_setsOn_5 rfl rfl 0 rfl ?_
    refine ky_getf (q := (RX0, TX0, 17)) (v := .int (σ.1 20 0)) (n := 9) dX0_setsOn_6 rfl kc_20 rfl (Nat.le_of_ble_eq_true rfl) wg_X0_54 (vf_20_0 _ _) ?_
    refine ky_icmp_ge (n := 12) (tgt := 30) dX0_setsOn_9 rfl rfl (fun c1 => ?_) (fun c1 => ?_)
    · have hf := ky_pos c1 hf
      refine ky_iload_n (n := 31) dX0_setsOn_30 rfl rfl 2 rfl ?_
      cases hf
      exact ky_ireturn dX0_setsOn_31 rfl
    · have hf := ky_neg c1 hf
      refine ky_aload_n (n := 13) dX0_setsOn_12 rfl rfl 0 rfl ?_
      refine ky_iload_n (n := 14) dX0_setsOn_13 rfl rfl 3 rfl ?_
      refine ky_iload_n (n := 15) dX0_setsOn_14 rfl rfl 1 rfl ?_
      obtain ⟨v4, s2, h3, hf⟩ := ky_bd_e hf
      refine ky_callV (kc := 0) (ks := 0) (kc2 := 0) (ks2 := 0) (k0 := 20) (as := [.int x3, .int x1]) (st := []) (KX0_isOn d x3 x1 σ _ _ h3) okX0_isOn wl_X0_130 kc_20 (q := (RX0, TX0, 17)) rfl rfl rfl rfl (Nat.le_of_ble_eq_true rfl) dX0_setsOn_15 rfl ?_
      refine ky_if_eq (n := 21) (tgt := 24) dX0_setsOn_18 rfl rfl (fun c5 => ?_) (fun c5 => ?_)
      · have hf := ky_pos c5 hf
        refine ky_iincB (c := (1 : Int32)) (n := 27) dX0_setsOn_24 rfl 3 rfl rfl (Nat.le_of_ble_eq_true rfl) (fun v6 ev6 => ?_)
        have hf := ky_bn_e hf v6 ev6
        refine ky_lv (lv' := [(3, .int v6), (0, ky_r G 20), (1, .int x1), (2, .int x2)]) rfl ?_
        refine ky_goto (tgt := 4) dX0_setsOn_27 rfl ?_
        refine ky_sub [1, 2, 3, 0] (lv' := [(0, ky_r G 20), (1, .int x1), (2, .int x2), (3, .int v6)]) rfl ?_
        exact ih x1 x2 v6 s2 _ _ hf
      · have hf := ky_neg c5 hf
        refine ky_iincB (c := (1 : Int32)) (n := 24) dX0_setsOn_21 rfl 2 rfl rfl (Nat.le_of_ble_eq_true rfl) (fun v7 ev7 => ?_)
        have hf := ky_bn_e hf v7 ev7
        refine ky_lv (lv' := [(2, .int v7), (0, ky_r G 20), (1, .int x1), (3, .int x3)]) rfl ?_
        refine ky_iincB (c := (1 : Int32)) (n := 27) dX0_setsOn_24 rfl 3 rfl rfl (Nat.le_of_ble_eq_true rfl) (fun v8 ev8 => ?_)
        have hf := ky_bn_e hf v8 ev8
        refine ky_lv (lv' := [(3, .int v8), (2, .int v7), (0, ky_r G 20), (1, .int x1)]) rfl ?_
        refine ky_goto (tgt := 4) dX0_setsOn_27 rfl ?_
        refine ky_sub [2, 3, 1, 0] (lv' := [(0, ky_r G 20), (1, .int x1), (2, .int v7), (3, .int v8)]) rfl ?_
        exact ih x1 v7 v8 s2 _ _ hf
def fX0_setsOn (a1 : Int32) (σ : ky_St) : Option (Int32 × ky_St) :=
  fX0_setsOn_L4 FU a1 (0 : Int32) (0 : Int32) σ
set_option maxHeartbeats 4000000 in
set_option maxRecDepth 100000 in
theorem KX0_setsOn {G : ky_G} (d : Nat) (a1 : Int32) (σ : ky_St) (r : Int32) (σ' : ky_St) (hf : fX0_setsOn a1 σ = some (r, σ')) : ky_K G mX0_setsOn (d + 3) 0 0 [ky_r G 20, .int a1] σ (.inr (some (.int r))) σ' := by
  unfold fX0_setsOn at hf
  refine ky_enter rfl (by decide +kernel) (Nat.le_of_ble_eq_true rfl) (lv := [(0, ky_r G 20), (1, .int a1)]) rfl ?_
  refine ky_iconst (v := (0 : Int32)) (n := 1) dX0_setsOn_0 rfl rfl ?_
  refine ky_istore_n (lv' := [(2, .int (0 : Int32)), (0, ky_r G 20), (1, .int a1)]) (n := 2) dX0_setsOn_1 rfl rfl (Nat.le_of_ble_eq_true rfl) rfl ?_
  refine ky_iconst (v := (0 : Int32)) (n := 3) dX0_setsOn_2 rfl rfl ?_
  refine ky_istore_n (lv' := [(3, .int (0 : Int32)), (2, .int (0 : Int32)), (0, ky_r G 20), (1, .int a1)]) (n := 4) dX0_setsOn_3 rfl rfl (Nat.le_of_ble_eq_true rfl) rfl ?_
  refine ky_sub [2, 3, 1, 0] (lv' := [(0, ky_r G 20), (1, .int a1), (2, .int (0 : Int32)), (3, .int (0 : Int32))]) rfl ?_
  exact tX0_setsOn_L4 d FU a1 (0 : Int32) (0 : Int32) σ _ _ hf
def fX0_billIfAllLeft_L4 : Nat → Int32 → Int32 → Int32 → ky_St → Option (Int32 × ky_St)
  | 0, _, _, _, _ => none
  | fu + 1, x1, x2, x3, σ =>
  if (σ.1 20 0) ≤ x3 then (
  some (x2, σ)) else (
  ky_bd (fX0_isOn x3 x1 σ) fun v4 s2 =>
  if v4 = 0 then (
  ky_bn (x3 + (1 : Int32)) fun v6 =>
  fX0_billIfAllLeft_L4 fu x1 x2 v6 s2) else (
  ky_bd (fX0_hireBill x3 (0 : Int32) s2) fun v9 s7 =>
  ky_bn (x2 + v9) fun v10 =>
  ky_bn (x3 + (1 : Int32)) fun v11 =>
  fX0_billIfAllLeft_L4 fu x1 v10 v11 s7))
set_option maxHeartbeats 4000000 in
set_option maxRecDepth 100000 in
theorem tX0_billIfAllLeft_L4 {G : ky_G} (d : Nat) : ∀ (fu : Nat) (x1 : Int32) (x2 : Int32) (x3 : Int32) (σ : ky_St) (r : Int32) (σ' : ky_St), fX0_billIfAllLeft_L4 fu x1 x2 x3 σ = some (r, σ') → ky_T G mX0_billIfAllLeft (d + 3) 0 0 4 [(0, ky_r G 20), (1, .int x1), (2, .int x2), (3, .int x3)] [] σ (.inr (some (.int r))) σ' := by
  intro fu
  induction fu with
  | zero =>
    intro x1 x2 x3 σ r σ' hf
    rw [fX0_billIfAllLeft_L4] at hf
    cases hf
  | succ fu ih =>
    intro x1 x2 x3 σ r σ' hf
    rw [fX0_billIfAllLeft_L4] at hf
    refine ky_iload_n (n := 5) dX0_billIfAllLeft_4 rfl rfl 3 rfl ?_
    refine ky_aload_n (n := 6) dX0_billIfAllLeft_5 rfl rfl 0 rfl ?_
    refine ky_getf (q := (RX0, TX0, 17)) (v := .int (σ.1 20 0)) (n := 9) dX0_billIfAllLeft_6 rfl kc_20 rfl (Nat.le_of_ble_eq_true rfl) wg_X0_54 (vf_20_0 _ _) ?_
    refine ky_icmp_ge (n := 12) (tgt := 36) dX0_billIfAllLeft_9 rfl rfl (fun c1 => ?_) (fun c1 => ?_)
    · have hf := ky_pos c1 hf
      refine ky_iload_n (n := 37) dX0_billIfAllLeft_36 rfl rfl 2 rfl ?_
      cases hf
      exact ky_ireturn dX0_billIfAllLeft_37 rfl
    · have hf := ky_neg c1 hf
      refine ky_aload_n (n := 13) dX0_billIfAllLeft_12 rfl rfl 0 rfl ?_
      refine ky_iload_n (n := 14) dX0_billIfAllLeft_13 rfl rfl 3 rfl ?_
      refine ky_iload_n (n := 15) dX0_billIfAllLeft_14 rfl rfl 1 rfl ?_
      obtain ⟨v4, s2, h3, hf⟩ := ky_bd_e hf
      refine ky_callV (kc := 0) (ks := 0) (kc2 := 0) (ks2 := 0) (k0 := 20) (as := [.int x3, .int x1]) (st := []) (KX0_isOn d x3 x1 σ _ _ h3) okX0_isOn wl_X0_130 kc_20 (q := (RX0, TX0, 17)) rfl rfl rfl rfl (Nat.le_of_ble_eq_true rfl) dX0_billIfAllLeft_15 rfl ?_
      refine ky_if_eq (n := 21) (tgt := 30) dX0_billIfAllLeft_18 rfl rfl (fun c5 => ?_) (fun c5 => ?_)
      · have hf := ky_pos c5 hf
        refine ky_iincB (c := (1 : Int32)) (n := 33) dX0_billIfAllLeft_30 rfl 3 rfl rfl (Nat.le_of_ble_eq_true rfl) (fun v6 ev6 => ?_)
        have hf := ky_bn_e hf v6 ev6
        refine ky_lv (lv' := [(3, .int v6), (0, ky_r G 20), (1, .int x1), (2, .int x2)]) rfl ?_
        refine ky_goto (tgt := 4) dX0_billIfAllLeft_33 rfl ?_
        refine ky_sub [1, 2, 3, 0] (lv' := [(0, ky_r G 20), (1, .int x1), (2, .int x2), (3, .int v6)]) rfl ?_
        exact ih x1 x2 v6 s2 _ _ hf
      · have hf := ky_neg c5 hf
        refine ky_iload_n (n := 22) dX0_billIfAllLeft_21 rfl rfl 2 rfl ?_
        refine ky_aload_n (n := 23) dX0_billIfAllLeft_22 rfl rfl 0 rfl ?_
        refine ky_iload_n (n := 24) dX0_billIfAllLeft_23 rfl rfl 3 rfl ?_
        refine ky_iconst (v := (0 : Int32)) (n := 25) dX0_billIfAllLeft_24 rfl rfl ?_
        obtain ⟨v9, s7, h8, hf⟩ := ky_bd_e hf
        refine ky_callV (kc := 0) (ks := 0) (kc2 := 0) (ks2 := 0) (k0 := 20) (as := [.int x3, .int (0 : Int32)]) (st := [.int x2]) (KX0_hireBill (d + 1) x3 (0 : Int32) s2 _ _ h8) okX0_hireBill wl_X0_144 kc_20 (q := (RX0, TX0, 17)) rfl rfl rfl rfl (Nat.le_of_ble_eq_true rfl) dX0_billIfAllLeft_25 rfl ?_
        refine ky_iadd (n := 29) dX0_billIfAllLeft_28 rfl ?_
        refine ky_topi (fun v10 ev10 => ?_)
        have hf := ky_bn_e hf v10 ev10
        refine ky_istore_n (lv' := [(2, .int v10), (0, ky_r G 20), (1, .int x1), (3, .int x3)]) (n := 30) dX0_billIfAllLeft_29 rfl rfl (Nat.le_of_ble_eq_true rfl) rfl ?_
        refine ky_iincB (c := (1 : Int32)) (n := 33) dX0_billIfAllLeft_30 rfl 3 rfl rfl (Nat.le_of_ble_eq_true rfl) (fun v11 ev11 => ?_)
        have hf := ky_bn_e hf v11 ev11
        refine ky_lv (lv' := [(3, .int v11), (2, .int v10), (0, ky_r G 20), (1, .int x1)]) rfl ?_
        refine ky_goto (tgt := 4) dX0_billIfAllLeft_33 rfl ?_
        refine ky_sub [2, 3, 1, 0] (lv' := [(0, ky_r G 20), (1, .int x1), (2, .int v10), (3, .int v11)]) rfl ?_
        exact ih x1 v10 v11 s7 _ _ hf
def fX0_billIfAllLeft (a1 : Int32) (σ : ky_St) : Option (Int32 × ky_St) :=
  fX0_billIfAllLeft_L4 FU a1 (0 : Int32) (0 : Int32) σ
set_option maxHeartbeats 4000000 in
set_option maxRecDepth 100000 in
theorem KX0_billIfAllLeft {G : ky_G} (d : Nat) (a1 : Int32) (σ : ky_St) (r : Int32) (σ' : ky_St) (hf : fX0_billIfAllLeft a1 σ = some (r, σ')) : ky_K G mX0_billIfAllLeft (d + 3) 0 0 [ky_r G 20, .int a1] σ (.inr (some (.int r))) σ' := by
  unfold fX0_billIfAllLeft at hf
  refine ky_enter rfl (by decide +kernel) (Nat.le_of_ble_eq_true rfl) (lv := [(0, ky_r G 20), (1, .int a1)]) rfl ?_
  refine ky_iconst (v := (0 : Int32)) (n := 1) dX0_billIfAllLeft_0 rfl rfl ?_
  refine ky_istore_n (lv' := [(2, .int (0 : Int32)), (0, ky_r G 20), (1, .int a1)]) (n := 2) dX0_billIfAllLeft_1 rfl rfl (Nat.le_of_ble_eq_true rfl) rfl ?_
  refine ky_iconst (v := (0 : Int32)) (n := 3) dX0_billIfAllLeft_2 rfl rfl ?_
  refine ky_istore_n (lv' := [(3, .int (0 : Int32)), (2, .int (0 : Int32)), (0, ky_r G 20), (1, .int a1)]) (n := 4) dX0_billIfAllLeft_3 rfl rfl (Nat.le_of_ble_eq_true rfl) rfl ?_
  refine ky_sub [2, 3, 1, 0] (lv' := [(0, ky_r G 20), (1, .int a1), (2, .int (0 : Int32)), (3, .int (0 : Int32))]) rfl ?_
  exact tX0_billIfAllLeft_L4 d FU a1 (0 : Int32) (0 : Int32) σ _ _ hf
def fX0_isWithinTerm (a1 : Int32) (σ : ky_St) : Option (Int32 × ky_St) :=
  ky_bd (fX3_at 23 a1 σ) fun v3 s1 =>
  ky_bd (fX3_at 21 (0 : Int32) s1) fun v6 s4 =>
  if v6 ≤ ((σ.1 20 1) - v3) then (
  some ((0 : Int32), s4)) else (
  some ((1 : Int32), s4))
set_option maxHeartbeats 4000000 in
set_option maxRecDepth 100000 in
theorem KX0_isWithinTerm {G : ky_G} (d : Nat) (a1 : Int32) (σ : ky_St) (r : Int32) (σ' : ky_St) (hf : fX0_isWithinTerm a1 σ = some (r, σ')) : ky_K G mX0_isWithinTerm (d + 1) 0 0 [ky_r G 20, .int a1] σ (.inr (some (.int r))) σ' := by
  unfold fX0_isWithinTerm at hf
  refine ky_enter rfl (by decide +kernel) (Nat.le_of_ble_eq_true rfl) (lv := [(0, ky_r G 20), (1, .int a1)]) rfl ?_
  refine ky_aload_n (n := 1) dX0_isWithinTerm_0 rfl rfl 0 rfl ?_
  refine ky_getf (q := (RX0, TX0, 17)) (v := .int (σ.1 20 1)) (n := 4) dX0_isWithinTerm_1 rfl kc_20 rfl (Nat.le_of_ble_eq_true rfl) wg_X0_58 (vf_20_1 _ _) ?_
  refine ky_aload_n (n := 5) dX0_isWithinTerm_4 rfl rfl 0 rfl ?_
  refine ky_getf (q := (RX0, TX0, 17)) (v := ky_r G 23) (n := 8) dX0_isWithinTerm_5 rfl kc_20 rfl (Nat.le_of_ble_eq_true rfl) wg_X0_18 (vf_20_7 _ _) ?_
  refine ky_iload_n (n := 9) dX0_isWithinTerm_8 rfl rfl 1 rfl ?_
  obtain ⟨v3, s1, h2, hf⟩ := ky_bd_e hf
  refine ky_callN (kc := 0) (ks := 0) (kc2 := 0) (ks2 := 0) (as := [ky_r G 23, .int a1]) (st := [.int (σ.1 20 1)]) (KX3_at d 23 a1 σ _ _ h2) okX3_at wn_X0_78 rfl rfl (Nat.le_of_ble_eq_true rfl) dX0_isWithinTerm_9 rfl ?_
  refine ky_isub (n := 13) dX0_isWithinTerm_12 rfl ?_
  refine ky_aload_n (n := 14) dX0_isWithinTerm_13 rfl rfl 0 rfl ?_
  refine ky_getf (q := (RX0, TX0, 17)) (v := ky_r G 21) (n := 17) dX0_isWithinTerm_14 rfl kc_20 rfl (Nat.le_of_ble_eq_true rfl) wg_X0_9 (vf_20_5 _ _) ?_
  refine ky_iconst (v := (0 : Int32)) (n := 18) dX0_isWithinTerm_17 rfl rfl ?_
  obtain ⟨v6, s4, h5, hf⟩ := ky_bd_e hf
  refine ky_callN (kc := 0) (ks := 0) (kc2 := 0) (ks2 := 0) (as := [ky_r G 21, .int (0 : Int32)]) (st := [.int ((σ.1 20 1) - v3)]) (KX3_at d 21 (0 : Int32) s1 _ _ h5) okX3_at wn_X0_78 rfl rfl (Nat.le_of_ble_eq_true rfl) dX0_isWithinTerm_18 rfl ?_
  refine ky_icmp_ge (n := 24) (tgt := 28) dX0_isWithinTerm_21 rfl rfl (fun c7 => ?_) (fun c7 => ?_)
  · have hf := ky_pos c7 hf
    refine ky_iconst (v := (0 : Int32)) (n := 29) dX0_isWithinTerm_28 rfl rfl ?_
    cases hf
    exact ky_zreturn dX0_isWithinTerm_29 rfl (Or.inl rfl)
  · have hf := ky_neg c7 hf
    refine ky_iconst (v := (1 : Int32)) (n := 25) dX0_isWithinTerm_24 rfl rfl ?_
    refine ky_goto (tgt := 29) dX0_isWithinTerm_25 rfl ?_
    cases hf
    exact ky_zreturn dX0_isWithinTerm_29 rfl (Or.inr rfl)
def fX0_setsWithinTerm_L4 : Nat → Int32 → Int32 → Int32 → ky_St → Option (Int32 × ky_St)
  | 0, _, _, _, _ => none
  | fu + 1, x1, x2, x3, σ =>
  if (σ.1 20 0) ≤ x3 then (
  some (x2, σ)) else (
  ky_bd (fX0_isOn x3 x1 σ) fun v4 s2 =>
  if v4 = 0 then (
  ky_bn (x3 + (1 : Int32)) fun v6 =>
  fX0_setsWithinTerm_L4 fu x1 x2 v6 s2) else (
  ky_bd (fX0_isWithinTerm x3 s2) fun v9 s7 =>
  if v9 = 0 then (
  ky_bn (x3 + (1 : Int32)) fun v11 =>
  fX0_setsWithinTerm_L4 fu x1 x2 v11 s7) else (
  ky_bn (x2 + (1 : Int32)) fun v12 =>
  ky_bn (x3 + (1 : Int32)) fun v13 =>
  fX0_setsWithinTerm_L4 fu x1 v12 v13 s7)))
set_option maxHeartbeats 4000000 in
set_option maxRecDepth 100000 in
theorem tX0_setsWithinTerm_L4 {G : ky_G} (d : Nat) : ∀ (fu : Nat) (x1 : Int32) (x2 : Int32) (x3 : Int32) (σ : ky_St) (r : Int32) (σ' : ky_St), fX0_setsWithinTerm_L4 fu x1 x2 x3 σ = some (r, σ') → ky_T G mX0_setsWithinTerm (d + 3) 0 0 4 [(0, ky_r G 20), (1, .int x1), (2, .int x2), (3, .int x3)] [] σ (.inr (some (.int r))) σ' := by
  intro fu
  induction fu with
  | zero =>
    intro x1 x2 x3 σ r σ' hf
    rw [fX0_setsWithinTerm_L4] at hf
    cases hf
  | succ fu ih =>
    intro x1 x2 x3 σ r σ' hf
    rw [fX0_setsWithinTerm_L4] at hf
    refine ky_iload_n (n := 5) dX0_setsWithinTerm_4 rfl rfl 3 rfl ?_
    refine ky_aload_n (n := 6) dX0_setsWithinTerm_5 rfl rfl 0 rfl ?_
    refine ky_getf (q := (RX0, TX0, 17)) (v := .int (σ.1 20 0)) (n := 9) dX0_setsWithinTerm_6 rfl kc_20 rfl (Nat.le_of_ble_eq_true rfl) wg_X0_54 (vf_20_0 _ _) ?_
    refine ky_icmp_ge (n := 12) (tgt := 38) dX0_setsWithinTerm_9 rfl rfl (fun c1 => ?_) (fun c1 => ?_)
    · have hf := ky_pos c1 hf
      refine ky_iload_n (n := 39) dX0_setsWithinTerm_38 rfl rfl 2 rfl ?_
      cases hf
      exact ky_ireturn dX0_setsWithinTerm_39 rfl
    · have hf := ky_neg c1 hf
      refine ky_aload_n (n := 13) dX0_setsWithinTerm_12 rfl rfl 0 rfl ?_
      refine ky_iload_n (n := 14) dX0_setsWithinTerm_13 rfl rfl 3 rfl ?_
      refine ky_iload_n (n := 15) dX0_setsWithinTerm_14 rfl rfl 1 rfl ?_
      obtain ⟨v4, s2, h3, hf⟩ := ky_bd_e hf
      refine ky_callV (kc := 0) (ks := 0) (kc2 := 0) (ks2 := 0) (k0 := 20) (as := [.int x3, .int x1]) (st := []) (KX0_isOn d x3 x1 σ _ _ h3) okX0_isOn wl_X0_130 kc_20 (q := (RX0, TX0, 17)) rfl rfl rfl rfl (Nat.le_of_ble_eq_true rfl) dX0_setsWithinTerm_15 rfl ?_
      refine ky_if_eq (n := 21) (tgt := 32) dX0_setsWithinTerm_18 rfl rfl (fun c5 => ?_) (fun c5 => ?_)
      · have hf := ky_pos c5 hf
        refine ky_iincB (c := (1 : Int32)) (n := 35) dX0_setsWithinTerm_32 rfl 3 rfl rfl (Nat.le_of_ble_eq_true rfl) (fun v6 ev6 => ?_)
        have hf := ky_bn_e hf v6 ev6
        refine ky_lv (lv' := [(3, .int v6), (0, ky_r G 20), (1, .int x1), (2, .int x2)]) rfl ?_
        refine ky_goto (tgt := 4) dX0_setsWithinTerm_35 rfl ?_
        refine ky_sub [1, 2, 3, 0] (lv' := [(0, ky_r G 20), (1, .int x1), (2, .int x2), (3, .int v6)]) rfl ?_
        exact ih x1 x2 v6 s2 _ _ hf
      · have hf := ky_neg c5 hf
        refine ky_aload_n (n := 22) dX0_setsWithinTerm_21 rfl rfl 0 rfl ?_
        refine ky_iload_n (n := 23) dX0_setsWithinTerm_22 rfl rfl 3 rfl ?_
        obtain ⟨v9, s7, h8, hf⟩ := ky_bd_e hf
        refine ky_callV (kc := 0) (ks := 0) (kc2 := 0) (ks2 := 0) (k0 := 20) (as := [.int x3]) (st := []) (KX0_isWithinTerm (d + 1) x3 s2 _ _ h8) okX0_isWithinTerm wl_X0_160 kc_20 (q := (RX0, TX0, 17)) rfl rfl rfl rfl (Nat.le_of_ble_eq_true rfl) dX0_setsWithinTerm_23 rfl ?_
        refine ky_if_eq (n := 29) (tgt := 32) dX0_setsWithinTerm_26 rfl rfl (fun c10 => ?_) (fun c10 => ?_)
        · have hf := ky_pos c10 hf
          refine ky_iincB (c := (1 : Int32)) (n := 35) dX0_setsWithinTerm_32 rfl 3 rfl rfl (Nat.le_of_ble_eq_true rfl) (fun v11 ev11 => ?_)
          have hf := ky_bn_e hf v11 ev11
          refine ky_lv (lv' := [(3, .int v11), (0, ky_r G 20), (1, .int x1), (2, .int x2)]) rfl ?_
          refine ky_goto (tgt := 4) dX0_setsWithinTerm_35 rfl ?_
          refine ky_sub [1, 2, 3, 0] (lv' := [(0, ky_r G 20), (1, .int x1), (2, .int x2), (3, .int v11)]) rfl ?_
          exact ih x1 x2 v11 s7 _ _ hf
        · have hf := ky_neg c10 hf
          refine ky_iincB (c := (1 : Int32)) (n := 32) dX0_setsWithinTerm_29 rfl 2 rfl rfl (Nat.le_of_ble_eq_true rfl) (fun v12 ev12 => ?_)
          have hf := ky_bn_e hf v12 ev12
          refine ky_lv (lv' := [(2, .int v12), (0, ky_r G 20), (1, .int x1), (3, .int x3)]) rfl ?_
          refine ky_iincB (c := (1 : Int32)) (n := 35) dX0_setsWithinTerm_32 rfl 3 rfl rfl (Nat.le_of_ble_eq_true rfl) (fun v13 ev13 => ?_)
          have hf := ky_bn_e hf v13 ev13
          refine ky_lv (lv' := [(3, .int v13), (2, .int v12), (0, ky_r G 20), (1, .int x1)]) rfl ?_
          refine ky_goto (tgt := 4) dX0_setsWithinTerm_35 rfl ?_
          refine ky_sub [2, 3, 1, 0] (lv' := [(0, ky_r G 20), (1, .int x1), (2, .int v12), (3, .int v13)]) rfl ?_
          exact ih x1 v12 v13 s7 _ _ hf
def fX0_setsWithinTerm (a1 : Int32) (σ : ky_St) : Option (Int32 × ky_St) :=
  fX0_setsWithinTerm_L4 FU a1 (0 : Int32) (0 : Int32) σ
set_option maxHeartbeats 4000000 in
set_option maxRecDepth 100000 in
theorem KX0_setsWithinTerm {G : ky_G} (d : Nat) (a1 : Int32) (σ : ky_St) (r : Int32) (σ' : ky_St) (hf : fX0_setsWithinTerm a1 σ = some (r, σ')) : ky_K G mX0_setsWithinTerm (d + 3) 0 0 [ky_r G 20, .int a1] σ (.inr (some (.int r))) σ' := by
  unfold fX0_setsWithinTerm at hf
  refine ky_enter rfl (by decide +kernel) (Nat.le_of_ble_eq_true rfl) (lv := [(0, ky_r G 20), (1, .int a1)]) rfl ?_
  refine ky_iconst (v := (0 : Int32)) (n := 1) dX0_setsWithinTerm_0 rfl rfl ?_
  refine ky_istore_n (lv' := [(2, .int (0 : Int32)), (0, ky_r G 20), (1, .int a1)]) (n := 2) dX0_setsWithinTerm_1 rfl rfl (Nat.le_of_ble_eq_true rfl) rfl ?_
  refine ky_iconst (v := (0 : Int32)) (n := 3) dX0_setsWithinTerm_2 rfl rfl ?_
  refine ky_istore_n (lv' := [(3, .int (0 : Int32)), (2, .int (0 : Int32)), (0, ky_r G 20), (1, .int a1)]) (n := 4) dX0_setsWithinTerm_3 rfl rfl (Nat.le_of_ble_eq_true rfl) rfl ?_
  refine ky_sub [2, 3, 1, 0] (lv' := [(0, ky_r G 20), (1, .int a1), (2, .int (0 : Int32)), (3, .int (0 : Int32))]) rfl ?_
  exact tX0_setsWithinTerm_L4 d FU a1 (0 : Int32) (0 : Int32) σ _ _ hf
def fX0_firstDue_L4 : Nat → Int32 → Int32 → Int32 → ky_St → Option (Int32 × ky_St)
  | 0, _, _, _, _ => none
  | fu + 1, x1, x2, x3, σ =>
  if (σ.1 20 0) ≤ x3 then (
  some (x2, σ)) else (
  ky_bd (fX0_isOn x3 x1 σ) fun v4 s2 =>
  if v4 = 0 then (
  ky_bn (x3 + (1 : Int32)) fun v6 =>
  fX0_firstDue_L4 fu x1 x2 v6 s2) else (
  ky_bd (fX0_isWithinTerm x3 s2) fun v9 s7 =>
  if v9 = 0 then (
  if x2 = (-1 : Int32) then (
  ky_bn (x3 + (1 : Int32)) fun v13 =>
  fX0_firstDue_L4 fu x1 x3 v13 s7) else (
  ky_bd (fX3_at 23 x3 s7) fun v16 s14 =>
  ky_bd (fX3_at 23 x2 s14) fun v19 s17 =>
  if v19 ≤ v16 then (
  ky_bn (x3 + (1 : Int32)) fun v21 =>
  fX0_firstDue_L4 fu x1 x2 v21 s17) else (
  ky_bn (x3 + (1 : Int32)) fun v22 =>
  fX0_firstDue_L4 fu x1 x3 v22 s17))) else (
  ky_bn (x3 + (1 : Int32)) fun v11 =>
  fX0_firstDue_L4 fu x1 x2 v11 s7)))
set_option maxHeartbeats 4000000 in
set_option maxRecDepth 100000 in
theorem tX0_firstDue_L4 {G : ky_G} (d : Nat) : ∀ (fu : Nat) (x1 : Int32) (x2 : Int32) (x3 : Int32) (σ : ky_St) (r : Int32) (σ' : ky_St), fX0_firstDue_L4 fu x1 x2 x3 σ = some (r, σ') → ky_T G mX0_firstDue (d + 3) 0 0 4 [(0, ky_r G 20), (1, .int x1), (2, .int x2), (3, .int x3)] [] σ (.inr (some (.int r))) σ' := by
  intro fu
  induction fu with
  | zero =>
    intro x1 x2 x3 σ r σ' hf
    rw [fX0_firstDue_L4] at hf
    cases hf
  | succ fu ih =>
    intro x1 x2 x3 σ r σ' hf
    rw [fX0_firstDue_L4] at hf
    refine ky_iload_n (n := 5) dX0_firstDue_4 rfl rfl 3 rfl ?_
    refine ky_aload_n (n := 6) dX0_firstDue_5 rfl rfl 0 rfl ?_
    refine ky_getf (q := (RX0, TX0, 17)) (v := .int (σ.1 20 0)) (n := 9) dX0_firstDue_6 rfl kc_20 rfl (Nat.le_of_ble_eq_true rfl) wg_X0_54 (vf_20_0 _ _) ?_
    refine ky_icmp_ge (n := 12) (tgt := 61) dX0_firstDue_9 rfl rfl (fun c1 => ?_) (fun c1 => ?_)
    · have hf := ky_pos c1 hf
      refine ky_iload_n (n := 62) dX0_firstDue_61 rfl rfl 2 rfl ?_
      cases hf
      exact ky_ireturn dX0_firstDue_62 rfl
    · have hf := ky_neg c1 hf
      refine ky_aload_n (n := 13) dX0_firstDue_12 rfl rfl 0 rfl ?_
      refine ky_iload_n (n := 14) dX0_firstDue_13 rfl rfl 3 rfl ?_
      refine ky_iload_n (n := 15) dX0_firstDue_14 rfl rfl 1 rfl ?_
      obtain ⟨v4, s2, h3, hf⟩ := ky_bd_e hf
      refine ky_callV (kc := 0) (ks := 0) (kc2 := 0) (ks2 := 0) (k0 := 20) (as := [.int x3, .int x1]) (st := []) (KX0_isOn d x3 x1 σ _ _ h3) okX0_isOn wl_X0_130 kc_20 (q := (RX0, TX0, 17)) rfl rfl rfl rfl (Nat.le_of_ble_eq_true rfl) dX0_firstDue_15 rfl ?_
      refine ky_if_eq (n := 21) (tgt := 55) dX0_firstDue_18 rfl rfl (fun c5 => ?_) (fun c5 => ?_)
      · have hf := ky_pos c5 hf
        refine ky_iincB (c := (1 : Int32)) (n := 58) dX0_firstDue_55 rfl 3 rfl rfl (Nat.le_of_ble_eq_true rfl) (fun v6 ev6 => ?_)
        have hf := ky_bn_e hf v6 ev6
        refine ky_lv (lv' := [(3, .int v6), (0, ky_r G 20), (1, .int x1), (2, .int x2)]) rfl ?_
        refine ky_goto (tgt := 4) dX0_firstDue_58 rfl ?_
        refine ky_sub [1, 2, 3, 0] (lv' := [(0, ky_r G 20), (1, .int x1), (2, .int x2), (3, .int v6)]) rfl ?_
        exact ih x1 x2 v6 s2 _ _ hf
      · have hf := ky_neg c5 hf
        refine ky_aload_n (n := 22) dX0_firstDue_21 rfl rfl 0 rfl ?_
        refine ky_iload_n (n := 23) dX0_firstDue_22 rfl rfl 3 rfl ?_
        obtain ⟨v9, s7, h8, hf⟩ := ky_bd_e hf
        refine ky_callV (kc := 0) (ks := 0) (kc2 := 0) (ks2 := 0) (k0 := 20) (as := [.int x3]) (st := []) (KX0_isWithinTerm (d + 1) x3 s2 _ _ h8) okX0_isWithinTerm wl_X0_160 kc_20 (q := (RX0, TX0, 17)) rfl rfl rfl rfl (Nat.le_of_ble_eq_true rfl) dX0_firstDue_23 rfl ?_
        refine ky_if_ne (n := 29) (tgt := 55) dX0_firstDue_26 rfl rfl (fun c10 => ?_) (fun c10 => ?_)
        · have hf := ky_neg c10 hf
          refine ky_iincB (c := (1 : Int32)) (n := 58) dX0_firstDue_55 rfl 3 rfl rfl (Nat.le_of_ble_eq_true rfl) (fun v11 ev11 => ?_)
          have hf := ky_bn_e hf v11 ev11
          refine ky_lv (lv' := [(3, .int v11), (0, ky_r G 20), (1, .int x1), (2, .int x2)]) rfl ?_
          refine ky_goto (tgt := 4) dX0_firstDue_58 rfl ?_
          refine ky_sub [1, 2, 3, 0] (lv' := [(0, ky_r G 20), (1, .int x1), (2, .int x2), (3, .int v11)]) rfl ?_
          exact ih x1 x2 v11 s7 _ _ hf
        · have hf := ky_pos c10 hf
          refine ky_iload_n (n := 30) dX0_firstDue_29 rfl rfl 2 rfl ?_
          refine ky_iconst (v := (-1 : Int32)) (n := 31) dX0_firstDue_30 rfl rfl ?_
          refine ky_icmp_eq (n := 34) (tgt := 53) dX0_firstDue_31 rfl rfl (fun c12 => ?_) (fun c12 => ?_)
          · have hf := ky_pos c12 hf
            refine ky_iload_n (n := 54) dX0_firstDue_53 rfl rfl 3 rfl ?_
            refine ky_istore_n (lv' := [(2, .int x3), (0, ky_r G 20), (1, .int x1), (3, .int x3)]) (n := 55) dX0_firstDue_54 rfl rfl (Nat.le_of_ble_eq_true rfl) rfl ?_
            refine ky_iincB (c := (1 : Int32)) (n := 58) dX0_firstDue_55 rfl 3 rfl rfl (Nat.le_of_ble_eq_true rfl) (fun v13 ev13 => ?_)
            have hf := ky_bn_e hf v13 ev13
            refine ky_lv (lv' := [(3, .int v13), (2, .int x3), (0, ky_r G 20), (1, .int x1)]) rfl ?_
            refine ky_goto (tgt := 4) dX0_firstDue_58 rfl ?_
            refine ky_sub [2, 3, 1, 0] (lv' := [(0, ky_r G 20), (1, .int x1), (2, .int x3), (3, .int v13)]) rfl ?_
            exact ih x1 x3 v13 s7 _ _ hf
          · have hf := ky_neg c12 hf
            refine ky_aload_n (n := 35) dX0_firstDue_34 rfl rfl 0 rfl ?_
            refine ky_getf (q := (RX0, TX0, 17)) (v := ky_r G 23) (n := 38) dX0_firstDue_35 rfl kc_20 rfl (Nat.le_of_ble_eq_true rfl) wg_X0_18 (vf_20_7 _ _) ?_
            refine ky_iload_n (n := 39) dX0_firstDue_38 rfl rfl 3 rfl ?_
            obtain ⟨v16, s14, h15, hf⟩ := ky_bd_e hf
            refine ky_callN (kc := 0) (ks := 0) (kc2 := 0) (ks2 := 0) (as := [ky_r G 23, .int x3]) (st := []) (KX3_at (d + 2) 23 x3 s7 _ _ h15) okX3_at wn_X0_78 rfl rfl (Nat.le_of_ble_eq_true rfl) dX0_firstDue_39 rfl ?_
            refine ky_aload_n (n := 43) dX0_firstDue_42 rfl rfl 0 rfl ?_
            refine ky_getf (q := (RX0, TX0, 17)) (v := ky_r G 23) (n := 46) dX0_firstDue_43 rfl kc_20 rfl (Nat.le_of_ble_eq_true rfl) wg_X0_18 (vf_20_7 _ _) ?_
            refine ky_iload_n (n := 47) dX0_firstDue_46 rfl rfl 2 rfl ?_
            obtain ⟨v19, s17, h18, hf⟩ := ky_bd_e hf
            refine ky_callN (kc := 0) (ks := 0) (kc2 := 0) (ks2 := 0) (as := [ky_r G 23, .int x2]) (st := [.int v16]) (KX3_at (d + 2) 23 x2 s14 _ _ h18) okX3_at wn_X0_78 rfl rfl (Nat.le_of_ble_eq_true rfl) dX0_firstDue_47 rfl ?_
            refine ky_icmp_ge (n := 53) (tgt := 55) dX0_firstDue_50 rfl rfl (fun c20 => ?_) (fun c20 => ?_)
            · have hf := ky_pos c20 hf
              refine ky_iincB (c := (1 : Int32)) (n := 58) dX0_firstDue_55 rfl 3 rfl rfl (Nat.le_of_ble_eq_true rfl) (fun v21 ev21 => ?_)
              have hf := ky_bn_e hf v21 ev21
              refine ky_lv (lv' := [(3, .int v21), (0, ky_r G 20), (1, .int x1), (2, .int x2)]) rfl ?_
              refine ky_goto (tgt := 4) dX0_firstDue_58 rfl ?_
              refine ky_sub [1, 2, 3, 0] (lv' := [(0, ky_r G 20), (1, .int x1), (2, .int x2), (3, .int v21)]) rfl ?_
              exact ih x1 x2 v21 s17 _ _ hf
            · have hf := ky_neg c20 hf
              refine ky_iload_n (n := 54) dX0_firstDue_53 rfl rfl 3 rfl ?_
              refine ky_istore_n (lv' := [(2, .int x3), (0, ky_r G 20), (1, .int x1), (3, .int x3)]) (n := 55) dX0_firstDue_54 rfl rfl (Nat.le_of_ble_eq_true rfl) rfl ?_
              refine ky_iincB (c := (1 : Int32)) (n := 58) dX0_firstDue_55 rfl 3 rfl rfl (Nat.le_of_ble_eq_true rfl) (fun v22 ev22 => ?_)
              have hf := ky_bn_e hf v22 ev22
              refine ky_lv (lv' := [(3, .int v22), (2, .int x3), (0, ky_r G 20), (1, .int x1)]) rfl ?_
              refine ky_goto (tgt := 4) dX0_firstDue_58 rfl ?_
              refine ky_sub [2, 3, 1, 0] (lv' := [(0, ky_r G 20), (1, .int x1), (2, .int x3), (3, .int v22)]) rfl ?_
              exact ih x1 x3 v22 s17 _ _ hf
def fX0_firstDue (a1 : Int32) (σ : ky_St) : Option (Int32 × ky_St) :=
  fX0_firstDue_L4 FU a1 (-1 : Int32) (0 : Int32) σ
set_option maxHeartbeats 4000000 in
set_option maxRecDepth 100000 in
theorem KX0_firstDue {G : ky_G} (d : Nat) (a1 : Int32) (σ : ky_St) (r : Int32) (σ' : ky_St) (hf : fX0_firstDue a1 σ = some (r, σ')) : ky_K G mX0_firstDue (d + 3) 0 0 [ky_r G 20, .int a1] σ (.inr (some (.int r))) σ' := by
  unfold fX0_firstDue at hf
  refine ky_enter rfl (by decide +kernel) (Nat.le_of_ble_eq_true rfl) (lv := [(0, ky_r G 20), (1, .int a1)]) rfl ?_
  refine ky_iconst (v := (-1 : Int32)) (n := 1) dX0_firstDue_0 rfl rfl ?_
  refine ky_istore_n (lv' := [(2, .int (-1 : Int32)), (0, ky_r G 20), (1, .int a1)]) (n := 2) dX0_firstDue_1 rfl rfl (Nat.le_of_ble_eq_true rfl) rfl ?_
  refine ky_iconst (v := (0 : Int32)) (n := 3) dX0_firstDue_2 rfl rfl ?_
  refine ky_istore_n (lv' := [(3, .int (0 : Int32)), (2, .int (-1 : Int32)), (0, ky_r G 20), (1, .int a1)]) (n := 4) dX0_firstDue_3 rfl rfl (Nat.le_of_ble_eq_true rfl) rfl ?_
  refine ky_sub [2, 3, 1, 0] (lv' := [(0, ky_r G 20), (1, .int a1), (2, .int (-1 : Int32)), (3, .int (0 : Int32))]) rfl ?_
  exact tX0_firstDue_L4 d FU a1 (-1 : Int32) (0 : Int32) σ _ _ hf
def fX0_bundleValue (a1 : Int32) (a2 : Int32) (σ : ky_St) : Option (Int32 × ky_St) :=
  if a2 = (0 : Int32) then (
  ky_bd (fX3_at 22 a1 σ) fun v4 s2 =>
  some (v4, s2)) else (
  if a2 = (1 : Int32) then (
  ky_bd (fX3_at 23 a1 σ) fun v8 s6 =>
  some (v8, s6)) else (
  if a2 = (2 : Int32) then (
  ky_bd (fX0_isWhole a1 σ) fun v12 s10 =>
  if v12 = 0 then (
  some ((0 : Int32), s10)) else (
  some ((1 : Int32), s10))) else (
  if a2 = (3 : Int32) then (
  ky_bd (fX0_partsIn a1 σ) fun v17 s15 =>
  some (v17, s15)) else (
  if a2 = (4 : Int32) then (
  ky_bd (fX0_userOf a1 (a2 - (4 : Int32)) σ) fun v21 s19 =>
  some (v21, s19)) else (
  if a2 = (5 : Int32) then (
  ky_bd (fX0_userOf a1 (a2 - (4 : Int32)) σ) fun v25 s23 =>
  some (v25, s23)) else (
  if a2 = (6 : Int32) then (
  ky_bd (fX0_userOf a1 (a2 - (4 : Int32)) σ) fun v29 s27 =>
  some (v29, s27)) else (
  if a2 = (7 : Int32) then (
  ky_bd (fX0_hireBill a1 (0 : Int32) σ) fun v33 s31 =>
  some (v33, s31)) else (
  if a2 = (8 : Int32) then (
  ky_bd (fX3_at 24 a1 σ) fun v37 s35 =>
  some (v37, s35)) else (
  ky_bd (fX0_stockOf a1 (a2 - (10 : Int32)) σ) fun v40 s38 =>
  some (v40, s38))))))))))
set_option maxHeartbeats 4000000 in
set_option maxRecDepth 100000 in
theorem KX0_bundleValue {G : ky_G} (d : Nat) (a1 : Int32) (a2 : Int32) (σ : ky_St) (r : Int32) (σ' : ky_St) (hf : fX0_bundleValue a1 a2 σ = some (r, σ')) : ky_K G mX0_bundleValue (d + 3) 0 0 [ky_r G 20, .int a1, .int a2] σ (.inr (some (.int r))) σ' := by
  unfold fX0_bundleValue at hf
  refine ky_enter rfl (by decide +kernel) (Nat.le_of_ble_eq_true rfl) (lv := [(0, ky_r G 20), (1, .int a1), (2, .int a2)]) rfl ?_
  refine ky_iload_n (n := 1) dX0_bundleValue_0 rfl rfl 2 rfl ?_
  by_cases c1 : a2 = (0 : Int32)
  · have hf := ky_pos c1 hf
    refine ky_tsIn (off := 51) (tgt := 52) dX0_bundleValue_1 (by rw [c1]; decide) (by rw [c1]; decide) (by rw [c1]; rfl) rfl ?_
    refine ky_aload_n (n := 53) dX0_bundleValue_52 rfl rfl 0 rfl ?_
    refine ky_getf (q := (RX0, TX0, 17)) (v := ky_r G 22) (n := 56) dX0_bundleValue_53 rfl kc_20 rfl (Nat.le_of_ble_eq_true rfl) wg_X0_15 (vf_20_6 _ _) ?_
    refine ky_iload_n (n := 57) dX0_bundleValue_56 rfl rfl 1 rfl ?_
    obtain ⟨v4, s2, h3, hf⟩ := ky_bd_e hf
    refine ky_callN (kc := 0) (ks := 0) (kc2 := 0) (ks2 := 0) (as := [ky_r G 22, .int a1]) (st := []) (KX3_at (d + 2) 22 a1 σ _ _ h3) okX3_at wn_X0_78 rfl rfl (Nat.le_of_ble_eq_true rfl) dX0_bundleValue_57 rfl ?_
    cases hf
    exact ky_ireturn dX0_bundleValue_60 rfl
  have hf := ky_neg c1 hf
  by_cases c5 : a2 = (1 : Int32)
  · have hf := ky_pos c5 hf
    refine ky_tsIn (off := 60) (tgt := 61) dX0_bundleValue_1 (by rw [c5]; decide) (by rw [c5]; decide) (by rw [c5]; rfl) rfl ?_
    refine ky_aload_n (n := 62) dX0_bundleValue_61 rfl rfl 0 rfl ?_
    refine ky_getf (q := (RX0, TX0, 17)) (v := ky_r G 23) (n := 65) dX0_bundleValue_62 rfl kc_20 rfl (Nat.le_of_ble_eq_true rfl) wg_X0_18 (vf_20_7 _ _) ?_
    refine ky_iload_n (n := 66) dX0_bundleValue_65 rfl rfl 1 rfl ?_
    obtain ⟨v8, s6, h7, hf⟩ := ky_bd_e hf
    refine ky_callN (kc := 0) (ks := 0) (kc2 := 0) (ks2 := 0) (as := [ky_r G 23, .int a1]) (st := []) (KX3_at (d + 2) 23 a1 σ _ _ h7) okX3_at wn_X0_78 rfl rfl (Nat.le_of_ble_eq_true rfl) dX0_bundleValue_66 rfl ?_
    cases hf
    exact ky_ireturn dX0_bundleValue_69 rfl
  have hf := ky_neg c5 hf
  by_cases c9 : a2 = (2 : Int32)
  · have hf := ky_pos c9 hf
    refine ky_tsIn (off := 69) (tgt := 70) dX0_bundleValue_1 (by rw [c9]; decide) (by rw [c9]; decide) (by rw [c9]; rfl) rfl ?_
    refine ky_aload_n (n := 71) dX0_bundleValue_70 rfl rfl 0 rfl ?_
    refine ky_iload_n (n := 72) dX0_bundleValue_71 rfl rfl 1 rfl ?_
    obtain ⟨v12, s10, h11, hf⟩ := ky_bd_e hf
    refine ky_callV (kc := 0) (ks := 0) (kc2 := 0) (ks2 := 0) (k0 := 20) (as := [.int a1]) (st := []) (KX0_isWhole (d + 1) a1 σ _ _ h11) okX0_isWhole wl_X0_95 kc_20 (q := (RX0, TX0, 17)) rfl rfl rfl rfl (Nat.le_of_ble_eq_true rfl) dX0_bundleValue_72 rfl ?_
    refine ky_if_eq (n := 78) (tgt := 82) dX0_bundleValue_75 rfl rfl (fun c13 => ?_) (fun c13 => ?_)
    · have hf := ky_pos c13 hf
      refine ky_iconst (v := (0 : Int32)) (n := 83) dX0_bundleValue_82 rfl rfl ?_
      cases hf
      exact ky_ireturn dX0_bundleValue_83 rfl
    · have hf := ky_neg c13 hf
      refine ky_iconst (v := (1 : Int32)) (n := 79) dX0_bundleValue_78 rfl rfl ?_
      refine ky_goto (tgt := 83) dX0_bundleValue_79 rfl ?_
      cases hf
      exact ky_ireturn dX0_bundleValue_83 rfl
  have hf := ky_neg c9 hf
  by_cases c14 : a2 = (3 : Int32)
  · have hf := ky_pos c14 hf
    refine ky_tsIn (off := 83) (tgt := 84) dX0_bundleValue_1 (by rw [c14]; decide) (by rw [c14]; decide) (by rw [c14]; rfl) rfl ?_
    refine ky_aload_n (n := 85) dX0_bundleValue_84 rfl rfl 0 rfl ?_
    refine ky_iload_n (n := 86) dX0_bundleValue_85 rfl rfl 1 rfl ?_
    obtain ⟨v17, s15, h16, hf⟩ := ky_bd_e hf
    refine ky_callV (kc := 0) (ks := 0) (kc2 := 0) (ks2 := 0) (k0 := 20) (as := [.int a1]) (st := []) (KX0_partsIn d a1 σ _ _ h16) okX0_partsIn wl_X0_163 kc_20 (q := (RX0, TX0, 17)) rfl rfl rfl rfl (Nat.le_of_ble_eq_true rfl) dX0_bundleValue_86 rfl ?_
    cases hf
    exact ky_ireturn dX0_bundleValue_89 rfl
  have hf := ky_neg c14 hf
  by_cases c18 : a2 = (4 : Int32)
  · have hf := ky_pos c18 hf
    refine ky_tsIn (off := 89) (tgt := 90) dX0_bundleValue_1 (by rw [c18]; decide) (by rw [c18]; decide) (by rw [c18]; rfl) rfl ?_
    refine ky_aload_n (n := 91) dX0_bundleValue_90 rfl rfl 0 rfl ?_
    refine ky_iload_n (n := 92) dX0_bundleValue_91 rfl rfl 1 rfl ?_
    refine ky_iload_n (n := 93) dX0_bundleValue_92 rfl rfl 2 rfl ?_
    refine ky_iconst (v := (4 : Int32)) (n := 94) dX0_bundleValue_93 rfl rfl ?_
    refine ky_isub (n := 95) dX0_bundleValue_94 rfl ?_
    obtain ⟨v21, s19, h20, hf⟩ := ky_bd_e hf
    refine ky_callV (kc := 0) (ks := 0) (kc2 := 0) (ks2 := 0) (k0 := 20) (as := [.int a1, .int (a2 - (4 : Int32))]) (st := []) (KX0_userOf (d + 1) a1 (a2 - (4 : Int32)) σ _ _ h20) okX0_userOf wl_X0_127 kc_20 (q := (RX0, TX0, 17)) rfl rfl rfl rfl (Nat.le_of_ble_eq_true rfl) dX0_bundleValue_95 rfl ?_
    cases hf
    exact ky_ireturn dX0_bundleValue_98 rfl
  have hf := ky_neg c18 hf
  by_cases c22 : a2 = (5 : Int32)
  · have hf := ky_pos c22 hf
    refine ky_tsIn (off := 89) (tgt := 90) dX0_bundleValue_1 (by rw [c22]; decide) (by rw [c22]; decide) (by rw [c22]; rfl) rfl ?_
    refine ky_aload_n (n := 91) dX0_bundleValue_90 rfl rfl 0 rfl ?_
    refine ky_iload_n (n := 92) dX0_bundleValue_91 rfl rfl 1 rfl ?_
    refine ky_iload_n (n := 93) dX0_bundleValue_92 rfl rfl 2 rfl ?_
    refine ky_iconst (v := (4 : Int32)) (n := 94) dX0_bundleValue_93 rfl rfl ?_
    refine ky_isub (n := 95) dX0_bundleValue_94 rfl ?_
    obtain ⟨v25, s23, h24, hf⟩ := ky_bd_e hf
    refine ky_callV (kc := 0) (ks := 0) (kc2 := 0) (ks2 := 0) (k0 := 20) (as := [.int a1, .int (a2 - (4 : Int32))]) (st := []) (KX0_userOf (d + 1) a1 (a2 - (4 : Int32)) σ _ _ h24) okX0_userOf wl_X0_127 kc_20 (q := (RX0, TX0, 17)) rfl rfl rfl rfl (Nat.le_of_ble_eq_true rfl) dX0_bundleValue_95 rfl ?_
    cases hf
    exact ky_ireturn dX0_bundleValue_98 rfl
  have hf := ky_neg c22 hf
  by_cases c26 : a2 = (6 : Int32)
  · have hf := ky_pos c26 hf
    refine ky_tsIn (off := 89) (tgt := 90) dX0_bundleValue_1 (by rw [c26]; decide) (by rw [c26]; decide) (by rw [c26]; rfl) rfl ?_
    refine ky_aload_n (n := 91) dX0_bundleValue_90 rfl rfl 0 rfl ?_
    refine ky_iload_n (n := 92) dX0_bundleValue_91 rfl rfl 1 rfl ?_
    refine ky_iload_n (n := 93) dX0_bundleValue_92 rfl rfl 2 rfl ?_
    refine ky_iconst (v := (4 : Int32)) (n := 94) dX0_bundleValue_93 rfl rfl ?_
    refine ky_isub (n := 95) dX0_bundleValue_94 rfl ?_
    obtain ⟨v29, s27, h28, hf⟩ := ky_bd_e hf
    refine ky_callV (kc := 0) (ks := 0) (kc2 := 0) (ks2 := 0) (k0 := 20) (as := [.int a1, .int (a2 - (4 : Int32))]) (st := []) (KX0_userOf (d + 1) a1 (a2 - (4 : Int32)) σ _ _ h28) okX0_userOf wl_X0_127 kc_20 (q := (RX0, TX0, 17)) rfl rfl rfl rfl (Nat.le_of_ble_eq_true rfl) dX0_bundleValue_95 rfl ?_
    cases hf
    exact ky_ireturn dX0_bundleValue_98 rfl
  have hf := ky_neg c26 hf
  by_cases c30 : a2 = (7 : Int32)
  · have hf := ky_pos c30 hf
    refine ky_tsIn (off := 98) (tgt := 99) dX0_bundleValue_1 (by rw [c30]; decide) (by rw [c30]; decide) (by rw [c30]; rfl) rfl ?_
    refine ky_aload_n (n := 100) dX0_bundleValue_99 rfl rfl 0 rfl ?_
    refine ky_iload_n (n := 101) dX0_bundleValue_100 rfl rfl 1 rfl ?_
    refine ky_iconst (v := (0 : Int32)) (n := 102) dX0_bundleValue_101 rfl rfl ?_
    obtain ⟨v33, s31, h32, hf⟩ := ky_bd_e hf
    refine ky_callV (kc := 0) (ks := 0) (kc2 := 0) (ks2 := 0) (k0 := 20) (as := [.int a1, .int (0 : Int32)]) (st := []) (KX0_hireBill (d + 1) a1 (0 : Int32) σ _ _ h32) okX0_hireBill wl_X0_144 kc_20 (q := (RX0, TX0, 17)) rfl rfl rfl rfl (Nat.le_of_ble_eq_true rfl) dX0_bundleValue_102 rfl ?_
    cases hf
    exact ky_ireturn dX0_bundleValue_105 rfl
  have hf := ky_neg c30 hf
  by_cases c34 : a2 = (8 : Int32)
  · have hf := ky_pos c34 hf
    refine ky_tsIn (off := 105) (tgt := 106) dX0_bundleValue_1 (by rw [c34]; decide) (by rw [c34]; decide) (by rw [c34]; rfl) rfl ?_
    refine ky_aload_n (n := 107) dX0_bundleValue_106 rfl rfl 0 rfl ?_
    refine ky_getf (q := (RX0, TX0, 17)) (v := ky_r G 24) (n := 110) dX0_bundleValue_107 rfl kc_20 rfl (Nat.le_of_ble_eq_true rfl) wg_X0_21 (vf_20_8 _ _) ?_
    refine ky_iload_n (n := 111) dX0_bundleValue_110 rfl rfl 1 rfl ?_
    obtain ⟨v37, s35, h36, hf⟩ := ky_bd_e hf
    refine ky_callN (kc := 0) (ks := 0) (kc2 := 0) (ks2 := 0) (as := [ky_r G 24, .int a1]) (st := []) (KX3_at (d + 2) 24 a1 σ _ _ h36) okX3_at wn_X0_78 rfl rfl (Nat.le_of_ble_eq_true rfl) dX0_bundleValue_111 rfl ?_
    cases hf
    exact ky_ireturn dX0_bundleValue_114 rfl
  have hf := ky_neg c34 hf
  have zc1 : a2.toInt ≠ 0 := ky_swn c1
  have zc5 : a2.toInt ≠ 1 := ky_swn c5
  have zc9 : a2.toInt ≠ 2 := ky_swn c9
  have zc14 : a2.toInt ≠ 3 := ky_swn c14
  have zc18 : a2.toInt ≠ 4 := ky_swn c18
  have zc22 : a2.toInt ≠ 5 := ky_swn c22
  have zc26 : a2.toInt ≠ 6 := ky_swn c26
  have zc30 : a2.toInt ≠ 7 := ky_swn c30
  have zc34 : a2.toInt ≠ 8 := ky_swn c34
  refine ky_tsOut (tgt := 115) dX0_bundleValue_1 (by omega) rfl ?_
  refine ky_aload_n (n := 116) dX0_bundleValue_115 rfl rfl 0 rfl ?_
  refine ky_iload_n (n := 117) dX0_bundleValue_116 rfl rfl 1 rfl ?_
  refine ky_iload_n (n := 118) dX0_bundleValue_117 rfl rfl 2 rfl ?_
  refine ky_bipush (v := (10 : Int32)) (n := 120) dX0_bundleValue_118 rfl rfl ?_
  refine ky_isub (n := 121) dX0_bundleValue_120 rfl ?_
  obtain ⟨v40, s38, h39, hf⟩ := ky_bd_e hf
  refine ky_callV (kc := 0) (ks := 0) (kc2 := 0) (ks2 := 0) (k0 := 20) (as := [.int a1, .int (a2 - (10 : Int32))]) (st := []) (KX0_stockOf (d + 1) a1 (a2 - (10 : Int32)) σ _ _ h39) okX0_stockOf wl_X0_88 kc_20 (q := (RX0, TX0, 17)) rfl rfl rfl rfl (Nat.le_of_ble_eq_true rfl) dX0_bundleValue_121 rfl ?_
  cases hf
  exact ky_ireturn dX0_bundleValue_124 rfl
def fX0_siteValue (a1 : Int32) (a2 : Int32) (σ : ky_St) : Option (Int32 × ky_St) :=
  if a2 = (0 : Int32) then (
  ky_bd (fX0_setsOn a1 σ) fun v4 s2 =>
  some (v4, s2)) else (
  if a2 = (1 : Int32) then (
  ky_bd (fX0_billOf a1 σ) fun v8 s6 =>
  some (v8, s6)) else (
  if a2 = (2 : Int32) then (
  ky_bd (fX3_at 29 a1 σ) fun v12 s10 =>
  some (v12, s10)) else (
  if a2 = (3 : Int32) then (
  ky_bd (fX3_at 30 a1 σ) fun v16 s14 =>
  some (v16, s14)) else (
  if a2 = (4 : Int32) then (
  ky_bd (fX3_at 31 a1 σ) fun v20 s18 =>
  some (v20, s18)) else (
  if a2 = (5 : Int32) then (
  ky_bd (fX3_at 32 a1 σ) fun v24 s22 =>
  some (v24, s22)) else (
  if a2 = (6 : Int32) then (
  ky_bd (fX0_billIfAllLeft a1 σ) fun v28 s26 =>
  some (v28, s26)) else (
  ky_bd (fX0_setsWithinTerm a1 σ) fun v31 s29 =>
  some (v31, s29))))))))
set_option maxHeartbeats 4000000 in
set_option maxRecDepth 100000 in
theorem KX0_siteValue {G : ky_G} (d : Nat) (a1 : Int32) (a2 : Int32) (σ : ky_St) (r : Int32) (σ' : ky_St) (hf : fX0_siteValue a1 a2 σ = some (r, σ')) : ky_K G mX0_siteValue (d + 4) 0 0 [ky_r G 20, .int a1, .int a2] σ (.inr (some (.int r))) σ' := by
  unfold fX0_siteValue at hf
  refine ky_enter rfl (by decide +kernel) (Nat.le_of_ble_eq_true rfl) (lv := [(0, ky_r G 20), (1, .int a1), (2, .int a2)]) rfl ?_
  refine ky_iload_n (n := 1) dX0_siteValue_0 rfl rfl 2 rfl ?_
  by_cases c1 : a2 = (0 : Int32)
  · have hf := ky_pos c1 hf
    refine ky_tsIn (off := 43) (tgt := 44) dX0_siteValue_1 (by rw [c1]; decide) (by rw [c1]; decide) (by rw [c1]; rfl) rfl ?_
    refine ky_aload_n (n := 45) dX0_siteValue_44 rfl rfl 0 rfl ?_
    refine ky_iload_n (n := 46) dX0_siteValue_45 rfl rfl 1 rfl ?_
    obtain ⟨v4, s2, h3, hf⟩ := ky_bd_e hf
    refine ky_callV (kc := 0) (ks := 0) (kc2 := 0) (ks2 := 0) (k0 := 20) (as := [.int a1]) (st := []) (KX0_setsOn d a1 σ _ _ h3) okX0_setsOn wl_X0_166 kc_20 (q := (RX0, TX0, 17)) rfl rfl rfl rfl (Nat.le_of_ble_eq_true rfl) dX0_siteValue_46 rfl ?_
    cases hf
    exact ky_ireturn dX0_siteValue_49 rfl
  have hf := ky_neg c1 hf
  by_cases c5 : a2 = (1 : Int32)
  · have hf := ky_pos c5 hf
    refine ky_tsIn (off := 49) (tgt := 50) dX0_siteValue_1 (by rw [c5]; decide) (by rw [c5]; decide) (by rw [c5]; rfl) rfl ?_
    refine ky_aload_n (n := 51) dX0_siteValue_50 rfl rfl 0 rfl ?_
    refine ky_iload_n (n := 52) dX0_siteValue_51 rfl rfl 1 rfl ?_
    obtain ⟨v8, s6, h7, hf⟩ := ky_bd_e hf
    refine ky_callV (kc := 0) (ks := 0) (kc2 := 0) (ks2 := 0) (k0 := 20) (as := [.int a1]) (st := []) (KX0_billOf (d + 1) a1 σ _ _ h7) okX0_billOf wl_X0_169 kc_20 (q := (RX0, TX0, 17)) rfl rfl rfl rfl (Nat.le_of_ble_eq_true rfl) dX0_siteValue_52 rfl ?_
    cases hf
    exact ky_ireturn dX0_siteValue_55 rfl
  have hf := ky_neg c5 hf
  by_cases c9 : a2 = (2 : Int32)
  · have hf := ky_pos c9 hf
    refine ky_tsIn (off := 55) (tgt := 56) dX0_siteValue_1 (by rw [c9]; decide) (by rw [c9]; decide) (by rw [c9]; rfl) rfl ?_
    refine ky_aload_n (n := 57) dX0_siteValue_56 rfl rfl 0 rfl ?_
    refine ky_getf (q := (RX0, TX0, 17)) (v := ky_r G 29) (n := 60) dX0_siteValue_57 rfl kc_20 rfl (Nat.le_of_ble_eq_true rfl) wg_X0_36 (vf_20_13 _ _) ?_
    refine ky_iload_n (n := 61) dX0_siteValue_60 rfl rfl 1 rfl ?_
    obtain ⟨v12, s10, h11, hf⟩ := ky_bd_e hf
    refine ky_callN (kc := 0) (ks := 0) (kc2 := 0) (ks2 := 0) (as := [ky_r G 29, .int a1]) (st := []) (KX3_at (d + 3) 29 a1 σ _ _ h11) okX3_at wn_X0_78 rfl rfl (Nat.le_of_ble_eq_true rfl) dX0_siteValue_61 rfl ?_
    cases hf
    exact ky_ireturn dX0_siteValue_64 rfl
  have hf := ky_neg c9 hf
  by_cases c13 : a2 = (3 : Int32)
  · have hf := ky_pos c13 hf
    refine ky_tsIn (off := 64) (tgt := 65) dX0_siteValue_1 (by rw [c13]; decide) (by rw [c13]; decide) (by rw [c13]; rfl) rfl ?_
    refine ky_aload_n (n := 66) dX0_siteValue_65 rfl rfl 0 rfl ?_
    refine ky_getf (q := (RX0, TX0, 17)) (v := ky_r G 30) (n := 69) dX0_siteValue_66 rfl kc_20 rfl (Nat.le_of_ble_eq_true rfl) wg_X0_39 (vf_20_14 _ _) ?_
    refine ky_iload_n (n := 70) dX0_siteValue_69 rfl rfl 1 rfl ?_
    obtain ⟨v16, s14, h15, hf⟩ := ky_bd_e hf
    refine ky_callN (kc := 0) (ks := 0) (kc2 := 0) (ks2 := 0) (as := [ky_r G 30, .int a1]) (st := []) (KX3_at (d + 3) 30 a1 σ _ _ h15) okX3_at wn_X0_78 rfl rfl (Nat.le_of_ble_eq_true rfl) dX0_siteValue_70 rfl ?_
    cases hf
    exact ky_ireturn dX0_siteValue_73 rfl
  have hf := ky_neg c13 hf
  by_cases c17 : a2 = (4 : Int32)
  · have hf := ky_pos c17 hf
    refine ky_tsIn (off := 73) (tgt := 74) dX0_siteValue_1 (by rw [c17]; decide) (by rw [c17]; decide) (by rw [c17]; rfl) rfl ?_
    refine ky_aload_n (n := 75) dX0_siteValue_74 rfl rfl 0 rfl ?_
    refine ky_getf (q := (RX0, TX0, 17)) (v := ky_r G 31) (n := 78) dX0_siteValue_75 rfl kc_20 rfl (Nat.le_of_ble_eq_true rfl) wg_X0_42 (vf_20_15 _ _) ?_
    refine ky_iload_n (n := 79) dX0_siteValue_78 rfl rfl 1 rfl ?_
    obtain ⟨v20, s18, h19, hf⟩ := ky_bd_e hf
    refine ky_callN (kc := 0) (ks := 0) (kc2 := 0) (ks2 := 0) (as := [ky_r G 31, .int a1]) (st := []) (KX3_at (d + 3) 31 a1 σ _ _ h19) okX3_at wn_X0_78 rfl rfl (Nat.le_of_ble_eq_true rfl) dX0_siteValue_79 rfl ?_
    cases hf
    exact ky_ireturn dX0_siteValue_82 rfl
  have hf := ky_neg c17 hf
  by_cases c21 : a2 = (5 : Int32)
  · have hf := ky_pos c21 hf
    refine ky_tsIn (off := 82) (tgt := 83) dX0_siteValue_1 (by rw [c21]; decide) (by rw [c21]; decide) (by rw [c21]; rfl) rfl ?_
    refine ky_aload_n (n := 84) dX0_siteValue_83 rfl rfl 0 rfl ?_
    refine ky_getf (q := (RX0, TX0, 17)) (v := ky_r G 32) (n := 87) dX0_siteValue_84 rfl kc_20 rfl (Nat.le_of_ble_eq_true rfl) wg_X0_45 (vf_20_16 _ _) ?_
    refine ky_iload_n (n := 88) dX0_siteValue_87 rfl rfl 1 rfl ?_
    obtain ⟨v24, s22, h23, hf⟩ := ky_bd_e hf
    refine ky_callN (kc := 0) (ks := 0) (kc2 := 0) (ks2 := 0) (as := [ky_r G 32, .int a1]) (st := []) (KX3_at (d + 3) 32 a1 σ _ _ h23) okX3_at wn_X0_78 rfl rfl (Nat.le_of_ble_eq_true rfl) dX0_siteValue_88 rfl ?_
    cases hf
    exact ky_ireturn dX0_siteValue_91 rfl
  have hf := ky_neg c21 hf
  by_cases c25 : a2 = (6 : Int32)
  · have hf := ky_pos c25 hf
    refine ky_tsIn (off := 91) (tgt := 92) dX0_siteValue_1 (by rw [c25]; decide) (by rw [c25]; decide) (by rw [c25]; rfl) rfl ?_
    refine ky_aload_n (n := 93) dX0_siteValue_92 rfl rfl 0 rfl ?_
    refine ky_iload_n (n := 94) dX0_siteValue_93 rfl rfl 1 rfl ?_
    obtain ⟨v28, s26, h27, hf⟩ := ky_bd_e hf
    refine ky_callV (kc := 0) (ks := 0) (kc2 := 0) (ks2 := 0) (k0 := 20) (as := [.int a1]) (st := []) (KX0_billIfAllLeft d a1 σ _ _ h27) okX0_billIfAllLeft wl_X0_172 kc_20 (q := (RX0, TX0, 17)) rfl rfl rfl rfl (Nat.le_of_ble_eq_true rfl) dX0_siteValue_94 rfl ?_
    cases hf
    exact ky_ireturn dX0_siteValue_97 rfl
  have hf := ky_neg c25 hf
  have zc1 : a2.toInt ≠ 0 := ky_swn c1
  have zc5 : a2.toInt ≠ 1 := ky_swn c5
  have zc9 : a2.toInt ≠ 2 := ky_swn c9
  have zc13 : a2.toInt ≠ 3 := ky_swn c13
  have zc17 : a2.toInt ≠ 4 := ky_swn c17
  have zc21 : a2.toInt ≠ 5 := ky_swn c21
  have zc25 : a2.toInt ≠ 6 := ky_swn c25
  refine ky_tsOut (tgt := 98) dX0_siteValue_1 (by omega) rfl ?_
  refine ky_aload_n (n := 99) dX0_siteValue_98 rfl rfl 0 rfl ?_
  refine ky_iload_n (n := 100) dX0_siteValue_99 rfl rfl 1 rfl ?_
  obtain ⟨v31, s29, h30, hf⟩ := ky_bd_e hf
  refine ky_callV (kc := 0) (ks := 0) (kc2 := 0) (ks2 := 0) (k0 := 20) (as := [.int a1]) (st := []) (KX0_setsWithinTerm d a1 σ _ _ h30) okX0_setsWithinTerm wl_X0_175 kc_20 (q := (RX0, TX0, 17)) rfl rfl rfl rfl (Nat.le_of_ble_eq_true rfl) dX0_siteValue_100 rfl ?_
  cases hf
  exact ky_ireturn dX0_siteValue_103 rfl
def fX0_partsInSets_L4 : Nat → Int32 → Int32 → Int32 → ky_St → Option (Int32 × ky_St)
  | 0, _, _, _, _ => none
  | fu + 1, x1, x2, x3, σ =>
  if (σ.1 20 0) ≤ x3 then (
  some (x2, σ)) else (
  ky_bd (fX0_stockOf x3 x1 σ) fun v4 s2 =>
  ky_bn (x2 + v4) fun v5 =>
  ky_bn (x3 + (1 : Int32)) fun v6 =>
  fX0_partsInSets_L4 fu x1 v5 v6 s2)
set_option maxHeartbeats 4000000 in
set_option maxRecDepth 100000 in
theorem tX0_partsInSets_L4 {G : ky_G} (d : Nat) : ∀ (fu : Nat) (x1 : Int32) (x2 : Int32) (x3 : Int32) (σ : ky_St) (r : Int32) (σ' : ky_St), fX0_partsInSets_L4 fu x1 x2 x3 σ = some (r, σ') → ky_T G mX0_partsInSets (d + 2) 0 0 4 [(0, ky_r G 20), (1, .int x1), (2, .int x2), (3, .int x3)] [] σ (.inr (some (.int r))) σ' := by
  intro fu
  induction fu with
  | zero =>
    intro x1 x2 x3 σ r σ' hf
    rw [fX0_partsInSets_L4] at hf
    cases hf
  | succ fu ih =>
    intro x1 x2 x3 σ r σ' hf
    rw [fX0_partsInSets_L4] at hf
    refine ky_iload_n (n := 5) dX0_partsInSets_4 rfl rfl 3 rfl ?_
    refine ky_aload_n (n := 6) dX0_partsInSets_5 rfl rfl 0 rfl ?_
    refine ky_getf (q := (RX0, TX0, 17)) (v := .int (σ.1 20 0)) (n := 9) dX0_partsInSets_6 rfl kc_20 rfl (Nat.le_of_ble_eq_true rfl) wg_X0_54 (vf_20_0 _ _) ?_
    refine ky_icmp_ge (n := 12) (tgt := 27) dX0_partsInSets_9 rfl rfl (fun c1 => ?_) (fun c1 => ?_)
    · have hf := ky_pos c1 hf
      refine ky_iload_n (n := 28) dX0_partsInSets_27 rfl rfl 2 rfl ?_
      cases hf
      exact ky_ireturn dX0_partsInSets_28 rfl
    · have hf := ky_neg c1 hf
      refine ky_iload_n (n := 13) dX0_partsInSets_12 rfl rfl 2 rfl ?_
      refine ky_aload_n (n := 14) dX0_partsInSets_13 rfl rfl 0 rfl ?_
      refine ky_iload_n (n := 15) dX0_partsInSets_14 rfl rfl 3 rfl ?_
      refine ky_iload_n (n := 16) dX0_partsInSets_15 rfl rfl 1 rfl ?_
      obtain ⟨v4, s2, h3, hf⟩ := ky_bd_e hf
      refine ky_callV (kc := 0) (ks := 0) (kc2 := 0) (ks2 := 0) (k0 := 20) (as := [.int x3, .int x1]) (st := [.int x2]) (KX0_stockOf d x3 x1 σ _ _ h3) okX0_stockOf wl_X0_88 kc_20 (q := (RX0, TX0, 17)) rfl rfl rfl rfl (Nat.le_of_ble_eq_true rfl) dX0_partsInSets_16 rfl ?_
      refine ky_iadd (n := 20) dX0_partsInSets_19 rfl ?_
      refine ky_topi (fun v5 ev5 => ?_)
      have hf := ky_bn_e hf v5 ev5
      refine ky_istore_n (lv' := [(2, .int v5), (0, ky_r G 20), (1, .int x1), (3, .int x3)]) (n := 21) dX0_partsInSets_20 rfl rfl (Nat.le_of_ble_eq_true rfl) rfl ?_
      refine ky_iincB (c := (1 : Int32)) (n := 24) dX0_partsInSets_21 rfl 3 rfl rfl (Nat.le_of_ble_eq_true rfl) (fun v6 ev6 => ?_)
      have hf := ky_bn_e hf v6 ev6
      refine ky_lv (lv' := [(3, .int v6), (2, .int v5), (0, ky_r G 20), (1, .int x1)]) rfl ?_
      refine ky_goto (tgt := 4) dX0_partsInSets_24 rfl ?_
      refine ky_sub [2, 3, 1, 0] (lv' := [(0, ky_r G 20), (1, .int x1), (2, .int v5), (3, .int v6)]) rfl ?_
      exact ih x1 v5 v6 s2 _ _ hf
def fX0_partsInSets (a1 : Int32) (σ : ky_St) : Option (Int32 × ky_St) :=
  fX0_partsInSets_L4 FU a1 (0 : Int32) (0 : Int32) σ
set_option maxHeartbeats 4000000 in
set_option maxRecDepth 100000 in
theorem KX0_partsInSets {G : ky_G} (d : Nat) (a1 : Int32) (σ : ky_St) (r : Int32) (σ' : ky_St) (hf : fX0_partsInSets a1 σ = some (r, σ')) : ky_K G mX0_partsInSets (d + 2) 0 0 [ky_r G 20, .int a1] σ (.inr (some (.int r))) σ' := by
  unfold fX0_partsInSets at hf
  refine ky_enter rfl (by decide +kernel) (Nat.le_of_ble_eq_true rfl) (lv := [(0, ky_r G 20), (1, .int a1)]) rfl ?_
  refine ky_iconst (v := (0 : Int32)) (n := 1) dX0_partsInSets_0 rfl rfl ?_
  refine ky_istore_n (lv' := [(2, .int (0 : Int32)), (0, ky_r G 20), (1, .int a1)]) (n := 2) dX0_partsInSets_1 rfl rfl (Nat.le_of_ble_eq_true rfl) rfl ?_
  refine ky_iconst (v := (0 : Int32)) (n := 3) dX0_partsInSets_2 rfl rfl ?_
  refine ky_istore_n (lv' := [(3, .int (0 : Int32)), (2, .int (0 : Int32)), (0, ky_r G 20), (1, .int a1)]) (n := 4) dX0_partsInSets_3 rfl rfl (Nat.le_of_ble_eq_true rfl) rfl ?_
  refine ky_sub [2, 3, 1, 0] (lv' := [(0, ky_r G 20), (1, .int a1), (2, .int (0 : Int32)), (3, .int (0 : Int32))]) rfl ?_
  exact tX0_partsInSets_L4 d FU a1 (0 : Int32) (0 : Int32) σ _ _ hf
def fX0_partsValue (a1 : Int32) (a2 : Int32) (σ : ky_St) : Option (Int32 × ky_St) :=
  if a2 = (0 : Int32) then (
  ky_bd (fX0_partsInSets a1 σ) fun v4 s2 =>
  some (v4, s2)) else (
  if a2 = (1 : Int32) then (
  ky_bd (fX3_at 27 a1 σ) fun v8 s6 =>
  some (v8, s6)) else (
  if a2 = (2 : Int32) then (
  ky_bd (fX3_at 28 a1 σ) fun v12 s10 =>
  some (v12, s10)) else (
  if a2 = (3 : Int32) then (
  ky_bd (fX0_partsInSets a1 σ) fun v16 s14 =>
  ky_bd (fX3_at 27 a1 s14) fun v19 s17 =>
  ky_bd (fX3_at 28 a1 s17) fun v22 s20 =>
  some (((v16 + v19) + v22), s20)) else (
  ky_bd (fX3_at 13 a1 σ) fun v25 s23 =>
  ky_bd (fX0_partsInSets a1 s23) fun v28 s26 =>
  some ((((σ.1 20 0) * v25) - v28), s26)))))
set_option maxHeartbeats 4000000 in
set_option maxRecDepth 100000 in
theorem KX0_partsValue {G : ky_G} (d : Nat) (a1 : Int32) (a2 : Int32) (σ : ky_St) (r : Int32) (σ' : ky_St) (hf : fX0_partsValue a1 a2 σ = some (r, σ')) : ky_K G mX0_partsValue (d + 3) 0 0 [ky_r G 20, .int a1, .int a2] σ (.inr (some (.int r))) σ' := by
  unfold fX0_partsValue at hf
  refine ky_enter rfl (by decide +kernel) (Nat.le_of_ble_eq_true rfl) (lv := [(0, ky_r G 20), (1, .int a1), (2, .int a2)]) rfl ?_
  refine ky_iload_n (n := 1) dX0_partsValue_0 rfl rfl 2 rfl ?_
  by_cases c1 : a2 = (0 : Int32)
  · have hf := ky_pos c1 hf
    refine ky_tsIn (off := 31) (tgt := 32) dX0_partsValue_1 (by rw [c1]; decide) (by rw [c1]; decide) (by rw [c1]; rfl) rfl ?_
    refine ky_aload_n (n := 33) dX0_partsValue_32 rfl rfl 0 rfl ?_
    refine ky_iload_n (n := 34) dX0_partsValue_33 rfl rfl 1 rfl ?_
    obtain ⟨v4, s2, h3, hf⟩ := ky_bd_e hf
    refine ky_callV (kc := 0) (ks := 0) (kc2 := 0) (ks2 := 0) (k0 := 20) (as := [.int a1]) (st := []) (KX0_partsInSets d a1 σ _ _ h3) okX0_partsInSets wl_X0_178 kc_20 (q := (RX0, TX0, 17)) rfl rfl rfl rfl (Nat.le_of_ble_eq_true rfl) dX0_partsValue_34 rfl ?_
    cases hf
    exact ky_ireturn dX0_partsValue_37 rfl
  have hf := ky_neg c1 hf
  by_cases c5 : a2 = (1 : Int32)
  · have hf := ky_pos c5 hf
    refine ky_tsIn (off := 37) (tgt := 38) dX0_partsValue_1 (by rw [c5]; decide) (by rw [c5]; decide) (by rw [c5]; rfl) rfl ?_
    refine ky_aload_n (n := 39) dX0_partsValue_38 rfl rfl 0 rfl ?_
    refine ky_getf (q := (RX0, TX0, 17)) (v := ky_r G 27) (n := 42) dX0_partsValue_39 rfl kc_20 rfl (Nat.le_of_ble_eq_true rfl) wg_X0_30 (vf_20_11 _ _) ?_
    refine ky_iload_n (n := 43) dX0_partsValue_42 rfl rfl 1 rfl ?_
    obtain ⟨v8, s6, h7, hf⟩ := ky_bd_e hf
    refine ky_callN (kc := 0) (ks := 0) (kc2 := 0) (ks2 := 0) (as := [ky_r G 27, .int a1]) (st := []) (KX3_at (d + 2) 27 a1 σ _ _ h7) okX3_at wn_X0_78 rfl rfl (Nat.le_of_ble_eq_true rfl) dX0_partsValue_43 rfl ?_
    cases hf
    exact ky_ireturn dX0_partsValue_46 rfl
  have hf := ky_neg c5 hf
  by_cases c9 : a2 = (2 : Int32)
  · have hf := ky_pos c9 hf
    refine ky_tsIn (off := 46) (tgt := 47) dX0_partsValue_1 (by rw [c9]; decide) (by rw [c9]; decide) (by rw [c9]; rfl) rfl ?_
    refine ky_aload_n (n := 48) dX0_partsValue_47 rfl rfl 0 rfl ?_
    refine ky_getf (q := (RX0, TX0, 17)) (v := ky_r G 28) (n := 51) dX0_partsValue_48 rfl kc_20 rfl (Nat.le_of_ble_eq_true rfl) wg_X0_33 (vf_20_12 _ _) ?_
    refine ky_iload_n (n := 52) dX0_partsValue_51 rfl rfl 1 rfl ?_
    obtain ⟨v12, s10, h11, hf⟩ := ky_bd_e hf
    refine ky_callN (kc := 0) (ks := 0) (kc2 := 0) (ks2 := 0) (as := [ky_r G 28, .int a1]) (st := []) (KX3_at (d + 2) 28 a1 σ _ _ h11) okX3_at wn_X0_78 rfl rfl (Nat.le_of_ble_eq_true rfl) dX0_partsValue_52 rfl ?_
    cases hf
    exact ky_ireturn dX0_partsValue_55 rfl
  have hf := ky_neg c9 hf
  by_cases c13 : a2 = (3 : Int32)
  · have hf := ky_pos c13 hf
    refine ky_tsIn (off := 55) (tgt := 56) dX0_partsValue_1 (by rw [c13]; decide) (by rw [c13]; decide) (by rw [c13]; rfl) rfl ?_
    refine ky_aload_n (n := 57) dX0_partsValue_56 rfl rfl 0 rfl ?_
    refine ky_iload_n (n := 58) dX0_partsValue_57 rfl rfl 1 rfl ?_
    obtain ⟨v16, s14, h15, hf⟩ := ky_bd_e hf
    refine ky_callV (kc := 0) (ks := 0) (kc2 := 0) (ks2 := 0) (k0 := 20) (as := [.int a1]) (st := []) (KX0_partsInSets d a1 σ _ _ h15) okX0_partsInSets wl_X0_178 kc_20 (q := (RX0, TX0, 17)) rfl rfl rfl rfl (Nat.le_of_ble_eq_true rfl) dX0_partsValue_58 rfl ?_
    refine ky_aload_n (n := 62) dX0_partsValue_61 rfl rfl 0 rfl ?_
    refine ky_getf (q := (RX0, TX0, 17)) (v := ky_r G 27) (n := 65) dX0_partsValue_62 rfl kc_20 rfl (Nat.le_of_ble_eq_true rfl) wg_X0_30 (vf_20_11 _ _) ?_
    refine ky_iload_n (n := 66) dX0_partsValue_65 rfl rfl 1 rfl ?_
    obtain ⟨v19, s17, h18, hf⟩ := ky_bd_e hf
    refine ky_callN (kc := 0) (ks := 0) (kc2 := 0) (ks2 := 0) (as := [ky_r G 27, .int a1]) (st := [.int v16]) (KX3_at (d + 2) 27 a1 s14 _ _ h18) okX3_at wn_X0_78 rfl rfl (Nat.le_of_ble_eq_true rfl) dX0_partsValue_66 rfl ?_
    refine ky_iadd (n := 70) dX0_partsValue_69 rfl ?_
    refine ky_aload_n (n := 71) dX0_partsValue_70 rfl rfl 0 rfl ?_
    refine ky_getf (q := (RX0, TX0, 17)) (v := ky_r G 28) (n := 74) dX0_partsValue_71 rfl kc_20 rfl (Nat.le_of_ble_eq_true rfl) wg_X0_33 (vf_20_12 _ _) ?_
    refine ky_iload_n (n := 75) dX0_partsValue_74 rfl rfl 1 rfl ?_
    obtain ⟨v22, s20, h21, hf⟩ := ky_bd_e hf
    refine ky_callN (kc := 0) (ks := 0) (kc2 := 0) (ks2 := 0) (as := [ky_r G 28, .int a1]) (st := [.int (v16 + v19)]) (KX3_at (d + 2) 28 a1 s17 _ _ h21) okX3_at wn_X0_78 rfl rfl (Nat.le_of_ble_eq_true rfl) dX0_partsValue_75 rfl ?_
    refine ky_iadd (n := 79) dX0_partsValue_78 rfl ?_
    cases hf
    exact ky_ireturn dX0_partsValue_79 rfl
  have hf := ky_neg c13 hf
  have zc1 : a2.toInt ≠ 0 := ky_swn c1
  have zc5 : a2.toInt ≠ 1 := ky_swn c5
  have zc9 : a2.toInt ≠ 2 := ky_swn c9
  have zc13 : a2.toInt ≠ 3 := ky_swn c13
  refine ky_tsOut (tgt := 80) dX0_partsValue_1 (by omega) rfl ?_
  refine ky_aload_n (n := 81) dX0_partsValue_80 rfl rfl 0 rfl ?_
  refine ky_getf (q := (RX0, TX0, 17)) (v := .int (σ.1 20 0)) (n := 84) dX0_partsValue_81 rfl kc_20 rfl (Nat.le_of_ble_eq_true rfl) wg_X0_54 (vf_20_0 _ _) ?_
  refine ky_getsN (n := 87) dX0_partsValue_84 rfl "WHOLE" 13 (Or.inl ⟨rfl, rfl⟩) wnf_85 ?_
  refine ky_iload_n (n := 88) dX0_partsValue_87 rfl rfl 1 rfl ?_
  obtain ⟨v25, s23, h24, hf⟩ := ky_bd_e hf
  refine ky_callN (kc := 0) (ks := 0) (kc2 := 0) (ks2 := 0) (as := [ky_r G 13, .int a1]) (st := [.int (σ.1 20 0)]) (KX3_at (d + 2) 13 a1 σ _ _ h24) okX3_at wn_X0_78 rfl rfl (Nat.le_of_ble_eq_true rfl) dX0_partsValue_88 rfl ?_
  refine ky_imul (n := 92) dX0_partsValue_91 rfl ?_
  refine ky_aload_n (n := 93) dX0_partsValue_92 rfl rfl 0 rfl ?_
  refine ky_iload_n (n := 94) dX0_partsValue_93 rfl rfl 1 rfl ?_
  obtain ⟨v28, s26, h27, hf⟩ := ky_bd_e hf
  refine ky_callV (kc := 0) (ks := 0) (kc2 := 0) (ks2 := 0) (k0 := 20) (as := [.int a1]) (st := [.int ((σ.1 20 0) * v25)]) (KX0_partsInSets d a1 s23 _ _ h27) okX0_partsInSets wl_X0_178 kc_20 (q := (RX0, TX0, 17)) rfl rfl rfl rfl (Nat.le_of_ble_eq_true rfl) dX0_partsValue_94 rfl ?_
  refine ky_isub (n := 98) dX0_partsValue_97 rfl ?_
  cases hf
  exact ky_ireturn dX0_partsValue_98 rfl
def fX0_billedToAll_L4 : Nat → Int32 → Int32 → ky_St → Option (Int32 × ky_St)
  | 0, _, _, _ => none
  | fu + 1, x1, x2, σ =>
  if (6 : Int32) ≤ x2 then (
  some (x1, σ)) else (
  ky_bd (fX0_billedSoFar x2 σ) fun v4 s2 =>
  ky_bn (x1 + v4) fun v5 =>
  ky_bn (x2 + (1 : Int32)) fun v6 =>
  fX0_billedToAll_L4 fu v5 v6 s2)
set_option maxHeartbeats 4000000 in
set_option maxRecDepth 100000 in
theorem tX0_billedToAll_L4 {G : ky_G} (d : Nat) : ∀ (fu : Nat) (x1 : Int32) (x2 : Int32) (σ : ky_St) (r : Int32) (σ' : ky_St), fX0_billedToAll_L4 fu x1 x2 σ = some (r, σ') → ky_T G mX0_billedToAll (d + 2) 0 0 4 [(0, ky_r G 20), (1, .int x1), (2, .int x2)] [] σ (.inr (some (.int r))) σ' := by
  intro fu
  induction fu with
  | zero =>
    intro x1 x2 σ r σ' hf
    rw [fX0_billedToAll_L4] at hf
    cases hf
  | succ fu ih =>
    intro x1 x2 σ r σ' hf
    rw [fX0_billedToAll_L4] at hf
    refine ky_iload_n (n := 5) dX0_billedToAll_4 rfl rfl 2 rfl ?_
    refine ky_bipush (v := (6 : Int32)) (n := 7) dX0_billedToAll_5 rfl rfl ?_
    refine ky_icmp_ge (n := 10) (tgt := 24) dX0_billedToAll_7 rfl rfl (fun c1 => ?_) (fun c1 => ?_)
    · have hf := ky_pos c1 hf
      refine ky_iload_n (n := 25) dX0_billedToAll_24 rfl rfl 1 rfl ?_
      cases hf
      exact ky_ireturn dX0_billedToAll_25 rfl
    · have hf := ky_neg c1 hf
      refine ky_iload_n (n := 11) dX0_billedToAll_10 rfl rfl 1 rfl ?_
      refine ky_aload_n (n := 12) dX0_billedToAll_11 rfl rfl 0 rfl ?_
      refine ky_iload_n (n := 13) dX0_billedToAll_12 rfl rfl 2 rfl ?_
      obtain ⟨v4, s2, h3, hf⟩ := ky_bd_e hf
      refine ky_callV (kc := 0) (ks := 0) (kc2 := 0) (ks2 := 0) (k0 := 20) (as := [.int x2]) (st := [.int x1]) (KX0_billedSoFar d x2 σ _ _ h3) okX0_billedSoFar wl_X0_157 kc_20 (q := (RX0, TX0, 17)) rfl rfl rfl rfl (Nat.le_of_ble_eq_true rfl) dX0_billedToAll_13 rfl ?_
      refine ky_iadd (n := 17) dX0_billedToAll_16 rfl ?_
      refine ky_topi (fun v5 ev5 => ?_)
      have hf := ky_bn_e hf v5 ev5
      refine ky_istore_n (lv' := [(1, .int v5), (0, ky_r G 20), (2, .int x2)]) (n := 18) dX0_billedToAll_17 rfl rfl (Nat.le_of_ble_eq_true rfl) rfl ?_
      refine ky_iincB (c := (1 : Int32)) (n := 21) dX0_billedToAll_18 rfl 2 rfl rfl (Nat.le_of_ble_eq_true rfl) (fun v6 ev6 => ?_)
      have hf := ky_bn_e hf v6 ev6
      refine ky_lv (lv' := [(2, .int v6), (1, .int v5), (0, ky_r G 20)]) rfl ?_
      refine ky_goto (tgt := 4) dX0_billedToAll_21 rfl ?_
      refine ky_sub [2, 1, 0] (lv' := [(0, ky_r G 20), (1, .int v5), (2, .int v6)]) rfl ?_
      exact ih v5 v6 s2 _ _ hf
def fX0_billedToAll (σ : ky_St) : Option (Int32 × ky_St) :=
  fX0_billedToAll_L4 FU (0 : Int32) (0 : Int32) σ
set_option maxHeartbeats 4000000 in
set_option maxRecDepth 100000 in
theorem KX0_billedToAll {G : ky_G} (d : Nat) (σ : ky_St) (r : Int32) (σ' : ky_St) (hf : fX0_billedToAll σ = some (r, σ')) : ky_K G mX0_billedToAll (d + 2) 0 0 [ky_r G 20] σ (.inr (some (.int r))) σ' := by
  unfold fX0_billedToAll at hf
  refine ky_enter rfl (by decide +kernel) (Nat.le_of_ble_eq_true rfl) (lv := [(0, ky_r G 20)]) rfl ?_
  refine ky_iconst (v := (0 : Int32)) (n := 1) dX0_billedToAll_0 rfl rfl ?_
  refine ky_istore_n (lv' := [(1, .int (0 : Int32)), (0, ky_r G 20)]) (n := 2) dX0_billedToAll_1 rfl rfl (Nat.le_of_ble_eq_true rfl) rfl ?_
  refine ky_iconst (v := (0 : Int32)) (n := 3) dX0_billedToAll_2 rfl rfl ?_
  refine ky_istore_n (lv' := [(2, .int (0 : Int32)), (1, .int (0 : Int32)), (0, ky_r G 20)]) (n := 4) dX0_billedToAll_3 rfl rfl (Nat.le_of_ble_eq_true rfl) rfl ?_
  refine ky_sub [2, 1, 0] (lv' := [(0, ky_r G 20), (1, .int (0 : Int32)), (2, .int (0 : Int32))]) rfl ?_
  exact tX0_billedToAll_L4 d FU (0 : Int32) (0 : Int32) σ _ _ hf
def fX0_paidByAll_L4 : Nat → Int32 → Int32 → ky_St → Option (Int32 × ky_St)
  | 0, _, _, _ => none
  | fu + 1, x1, x2, σ =>
  if (6 : Int32) ≤ x2 then (
  some (x1, σ)) else (
  ky_bd (fX3_at 32 x2 σ) fun v4 s2 =>
  ky_bn (x1 + v4) fun v5 =>
  ky_bn (x2 + (1 : Int32)) fun v6 =>
  fX0_paidByAll_L4 fu v5 v6 s2)
set_option maxHeartbeats 4000000 in
set_option maxRecDepth 100000 in
theorem tX0_paidByAll_L4 {G : ky_G} (d : Nat) : ∀ (fu : Nat) (x1 : Int32) (x2 : Int32) (σ : ky_St) (r : Int32) (σ' : ky_St), fX0_paidByAll_L4 fu x1 x2 σ = some (r, σ') → ky_T G mX0_paidByAll (d + 1) 0 0 4 [(0, ky_r G 20), (1, .int x1), (2, .int x2)] [] σ (.inr (some (.int r))) σ' := by
  intro fu
  induction fu with
  | zero =>
    intro x1 x2 σ r σ' hf
    rw [fX0_paidByAll_L4] at hf
    cases hf
  | succ fu ih =>
    intro x1 x2 σ r σ' hf
    rw [fX0_paidByAll_L4] at hf
    refine ky_iload_n (n := 5) dX0_paidByAll_4 rfl rfl 2 rfl ?_
    refine ky_bipush (v := (6 : Int32)) (n := 7) dX0_paidByAll_5 rfl rfl ?_
    refine ky_icmp_ge (n := 10) (tgt := 27) dX0_paidByAll_7 rfl rfl (fun c1 => ?_) (fun c1 => ?_)
    · have hf := ky_pos c1 hf
      refine ky_iload_n (n := 28) dX0_paidByAll_27 rfl rfl 1 rfl ?_
      cases hf
      exact ky_ireturn dX0_paidByAll_28 rfl
    · have hf := ky_neg c1 hf
      refine ky_iload_n (n := 11) dX0_paidByAll_10 rfl rfl 1 rfl ?_
      refine ky_aload_n (n := 12) dX0_paidByAll_11 rfl rfl 0 rfl ?_
      refine ky_getf (q := (RX0, TX0, 17)) (v := ky_r G 32) (n := 15) dX0_paidByAll_12 rfl kc_20 rfl (Nat.le_of_ble_eq_true rfl) wg_X0_45 (vf_20_16 _ _) ?_
      refine ky_iload_n (n := 16) dX0_paidByAll_15 rfl rfl 2 rfl ?_
      obtain ⟨v4, s2, h3, hf⟩ := ky_bd_e hf
      refine ky_callN (kc := 0) (ks := 0) (kc2 := 0) (ks2 := 0) (as := [ky_r G 32, .int x2]) (st := [.int x1]) (KX3_at d 32 x2 σ _ _ h3) okX3_at wn_X0_78 rfl rfl (Nat.le_of_ble_eq_true rfl) dX0_paidByAll_16 rfl ?_
      refine ky_iadd (n := 20) dX0_paidByAll_19 rfl ?_
      refine ky_topi (fun v5 ev5 => ?_)
      have hf := ky_bn_e hf v5 ev5
      refine ky_istore_n (lv' := [(1, .int v5), (0, ky_r G 20), (2, .int x2)]) (n := 21) dX0_paidByAll_20 rfl rfl (Nat.le_of_ble_eq_true rfl) rfl ?_
      refine ky_iincB (c := (1 : Int32)) (n := 24) dX0_paidByAll_21 rfl 2 rfl rfl (Nat.le_of_ble_eq_true rfl) (fun v6 ev6 => ?_)
      have hf := ky_bn_e hf v6 ev6
      refine ky_lv (lv' := [(2, .int v6), (1, .int v5), (0, ky_r G 20)]) rfl ?_
      refine ky_goto (tgt := 4) dX0_paidByAll_24 rfl ?_
      refine ky_sub [2, 1, 0] (lv' := [(0, ky_r G 20), (1, .int v5), (2, .int v6)]) rfl ?_
      exact ih v5 v6 s2 _ _ hf
def fX0_paidByAll (σ : ky_St) : Option (Int32 × ky_St) :=
  fX0_paidByAll_L4 FU (0 : Int32) (0 : Int32) σ
set_option maxHeartbeats 4000000 in
set_option maxRecDepth 100000 in
theorem KX0_paidByAll {G : ky_G} (d : Nat) (σ : ky_St) (r : Int32) (σ' : ky_St) (hf : fX0_paidByAll σ = some (r, σ')) : ky_K G mX0_paidByAll (d + 1) 0 0 [ky_r G 20] σ (.inr (some (.int r))) σ' := by
  unfold fX0_paidByAll at hf
  refine ky_enter rfl (by decide +kernel) (Nat.le_of_ble_eq_true rfl) (lv := [(0, ky_r G 20)]) rfl ?_
  refine ky_iconst (v := (0 : Int32)) (n := 1) dX0_paidByAll_0 rfl rfl ?_
  refine ky_istore_n (lv' := [(1, .int (0 : Int32)), (0, ky_r G 20)]) (n := 2) dX0_paidByAll_1 rfl rfl (Nat.le_of_ble_eq_true rfl) rfl ?_
  refine ky_iconst (v := (0 : Int32)) (n := 3) dX0_paidByAll_2 rfl rfl ?_
  refine ky_istore_n (lv' := [(2, .int (0 : Int32)), (1, .int (0 : Int32)), (0, ky_r G 20)]) (n := 4) dX0_paidByAll_3 rfl rfl (Nat.le_of_ble_eq_true rfl) rfl ?_
  refine ky_sub [2, 1, 0] (lv' := [(0, ky_r G 20), (1, .int (0 : Int32)), (2, .int (0 : Int32))]) rfl ?_
  exact tX0_paidByAll_L4 d FU (0 : Int32) (0 : Int32) σ _ _ hf
def fX0_countValue (a1 : Int32) (σ : ky_St) : Option (Int32 × ky_St) :=
  if a1 = (0 : Int32) then (
  some ((σ.1 20 0), σ)) else (
  if a1 = (1 : Int32) then (
  ky_bd (fX0_inYard σ) fun v5 s3 =>
  some (v5, s3)) else (
  if a1 = (2 : Int32) then (
  ky_bd (fX0_wholeInYard σ) fun v9 s7 =>
  some (v9, s7)) else (
  if a1 = (3 : Int32) then (
  some ((σ.1 20 1), σ)) else (
  if a1 = (4 : Int32) then (
  ky_bd (fX0_billedToAll σ) fun v14 s12 =>
  some (v14, s12)) else (
  if a1 = (5 : Int32) then (
  ky_bd (fX0_paidByAll σ) fun v18 s16 =>
  some (v18, s16)) else (
  if a1 = (6 : Int32) then (
  some ((σ.1 20 2), σ)) else (
  if a1 = (7 : Int32) then (
  some ((σ.1 20 3), σ)) else (
  some ((σ.1 20 4), σ)))))))))
set_option maxHeartbeats 4000000 in
set_option maxRecDepth 100000 in
theorem KX0_countValue {G : ky_G} (d : Nat) (a1 : Int32) (σ : ky_St) (r : Int32) (σ' : ky_St) (hf : fX0_countValue a1 σ = some (r, σ')) : ky_K G mX0_countValue (d + 3) 0 0 [ky_r G 20, .int a1] σ (.inr (some (.int r))) σ' := by
  unfold fX0_countValue at hf
  refine ky_enter rfl (by decide +kernel) (Nat.le_of_ble_eq_true rfl) (lv := [(0, ky_r G 20), (1, .int a1)]) rfl ?_
  refine ky_iload_n (n := 1) dX0_countValue_0 rfl rfl 1 rfl ?_
  by_cases c1 : a1 = (0 : Int32)
  · have hf := ky_pos c1 hf
    refine ky_tsIn (off := 47) (tgt := 48) dX0_countValue_1 (by rw [c1]; decide) (by rw [c1]; decide) (by rw [c1]; rfl) rfl ?_
    refine ky_aload_n (n := 49) dX0_countValue_48 rfl rfl 0 rfl ?_
    refine ky_getf (q := (RX0, TX0, 17)) (v := .int (σ.1 20 0)) (n := 52) dX0_countValue_49 rfl kc_20 rfl (Nat.le_of_ble_eq_true rfl) wg_X0_54 (vf_20_0 _ _) ?_
    cases hf
    exact ky_ireturn dX0_countValue_52 rfl
  have hf := ky_neg c1 hf
  by_cases c2 : a1 = (1 : Int32)
  · have hf := ky_pos c2 hf
    refine ky_tsIn (off := 52) (tgt := 53) dX0_countValue_1 (by rw [c2]; decide) (by rw [c2]; decide) (by rw [c2]; rfl) rfl ?_
    refine ky_aload_n (n := 54) dX0_countValue_53 rfl rfl 0 rfl ?_
    obtain ⟨v5, s3, h4, hf⟩ := ky_bd_e hf
    refine ky_callV (kc := 0) (ks := 0) (kc2 := 0) (ks2 := 0) (k0 := 20) (as := []) (st := []) (KX0_inYard d σ _ _ h4) okX0_inYard wl_X0_181 kc_20 (q := (RX0, TX0, 17)) rfl rfl rfl rfl (Nat.le_of_ble_eq_true rfl) dX0_countValue_54 rfl ?_
    cases hf
    exact ky_ireturn dX0_countValue_57 rfl
  have hf := ky_neg c2 hf
  by_cases c6 : a1 = (2 : Int32)
  · have hf := ky_pos c6 hf
    refine ky_tsIn (off := 57) (tgt := 58) dX0_countValue_1 (by rw [c6]; decide) (by rw [c6]; decide) (by rw [c6]; rfl) rfl ?_
    refine ky_aload_n (n := 59) dX0_countValue_58 rfl rfl 0 rfl ?_
    obtain ⟨v9, s7, h8, hf⟩ := ky_bd_e hf
    refine ky_callV (kc := 0) (ks := 0) (kc2 := 0) (ks2 := 0) (k0 := 20) (as := []) (st := []) (KX0_wholeInYard d σ _ _ h8) okX0_wholeInYard wl_X0_185 kc_20 (q := (RX0, TX0, 17)) rfl rfl rfl rfl (Nat.le_of_ble_eq_true rfl) dX0_countValue_59 rfl ?_
    cases hf
    exact ky_ireturn dX0_countValue_62 rfl
  have hf := ky_neg c6 hf
  by_cases c10 : a1 = (3 : Int32)
  · have hf := ky_pos c10 hf
    refine ky_tsIn (off := 62) (tgt := 63) dX0_countValue_1 (by rw [c10]; decide) (by rw [c10]; decide) (by rw [c10]; rfl) rfl ?_
    refine ky_aload_n (n := 64) dX0_countValue_63 rfl rfl 0 rfl ?_
    refine ky_getf (q := (RX0, TX0, 17)) (v := .int (σ.1 20 1)) (n := 67) dX0_countValue_64 rfl kc_20 rfl (Nat.le_of_ble_eq_true rfl) wg_X0_58 (vf_20_1 _ _) ?_
    cases hf
    exact ky_ireturn dX0_countValue_67 rfl
  have hf := ky_neg c10 hf
  by_cases c11 : a1 = (4 : Int32)
  · have hf := ky_pos c11 hf
    refine ky_tsIn (off := 67) (tgt := 68) dX0_countValue_1 (by rw [c11]; decide) (by rw [c11]; decide) (by rw [c11]; rfl) rfl ?_
    refine ky_aload_n (n := 69) dX0_countValue_68 rfl rfl 0 rfl ?_
    obtain ⟨v14, s12, h13, hf⟩ := ky_bd_e hf
    refine ky_callV (kc := 0) (ks := 0) (kc2 := 0) (ks2 := 0) (k0 := 20) (as := []) (st := []) (KX0_billedToAll d σ _ _ h13) okX0_billedToAll wl_X0_188 kc_20 (q := (RX0, TX0, 17)) rfl rfl rfl rfl (Nat.le_of_ble_eq_true rfl) dX0_countValue_69 rfl ?_
    cases hf
    exact ky_ireturn dX0_countValue_72 rfl
  have hf := ky_neg c11 hf
  by_cases c15 : a1 = (5 : Int32)
  · have hf := ky_pos c15 hf
    refine ky_tsIn (off := 72) (tgt := 73) dX0_countValue_1 (by rw [c15]; decide) (by rw [c15]; decide) (by rw [c15]; rfl) rfl ?_
    refine ky_aload_n (n := 74) dX0_countValue_73 rfl rfl 0 rfl ?_
    obtain ⟨v18, s16, h17, hf⟩ := ky_bd_e hf
    refine ky_callV (kc := 0) (ks := 0) (kc2 := 0) (ks2 := 0) (k0 := 20) (as := []) (st := []) (KX0_paidByAll (d + 1) σ _ _ h17) okX0_paidByAll wl_X0_191 kc_20 (q := (RX0, TX0, 17)) rfl rfl rfl rfl (Nat.le_of_ble_eq_true rfl) dX0_countValue_74 rfl ?_
    cases hf
    exact ky_ireturn dX0_countValue_77 rfl
  have hf := ky_neg c15 hf
  by_cases c19 : a1 = (6 : Int32)
  · have hf := ky_pos c19 hf
    refine ky_tsIn (off := 77) (tgt := 78) dX0_countValue_1 (by rw [c19]; decide) (by rw [c19]; decide) (by rw [c19]; rfl) rfl ?_
    refine ky_aload_n (n := 79) dX0_countValue_78 rfl rfl 0 rfl ?_
    refine ky_getf (q := (RX0, TX0, 17)) (v := .int (σ.1 20 2)) (n := 82) dX0_countValue_79 rfl kc_20 rfl (Nat.le_of_ble_eq_true rfl) wg_X0_61 (vf_20_2 _ _) ?_
    cases hf
    exact ky_ireturn dX0_countValue_82 rfl
  have hf := ky_neg c19 hf
  by_cases c20 : a1 = (7 : Int32)
  · have hf := ky_pos c20 hf
    refine ky_tsIn (off := 82) (tgt := 83) dX0_countValue_1 (by rw [c20]; decide) (by rw [c20]; decide) (by rw [c20]; rfl) rfl ?_
    refine ky_aload_n (n := 84) dX0_countValue_83 rfl rfl 0 rfl ?_
    refine ky_getf (q := (RX0, TX0, 17)) (v := .int (σ.1 20 3)) (n := 87) dX0_countValue_84 rfl kc_20 rfl (Nat.le_of_ble_eq_true rfl) wg_X0_64 (vf_20_3 _ _) ?_
    cases hf
    exact ky_ireturn dX0_countValue_87 rfl
  have hf := ky_neg c20 hf
  have zc1 : a1.toInt ≠ 0 := ky_swn c1
  have zc2 : a1.toInt ≠ 1 := ky_swn c2
  have zc6 : a1.toInt ≠ 2 := ky_swn c6
  have zc10 : a1.toInt ≠ 3 := ky_swn c10
  have zc11 : a1.toInt ≠ 4 := ky_swn c11
  have zc15 : a1.toInt ≠ 5 := ky_swn c15
  have zc19 : a1.toInt ≠ 6 := ky_swn c19
  have zc20 : a1.toInt ≠ 7 := ky_swn c20
  refine ky_tsOut (tgt := 88) dX0_countValue_1 (by omega) rfl ?_
  refine ky_aload_n (n := 89) dX0_countValue_88 rfl rfl 0 rfl ?_
  refine ky_getf (q := (RX0, TX0, 17)) (v := .int (σ.1 20 4)) (n := 92) dX0_countValue_89 rfl kc_20 rfl (Nat.le_of_ble_eq_true rfl) wg_X0_67 (vf_20_4 _ _) ?_
  cases hf
  exact ky_ireturn dX0_countValue_92 rfl
def fX1_bookAt (a1 : Int32) (σ : ky_St) : Option (Nat × ky_St) :=
  if a1 < 0 then (
  none) else (
  if (6 : Int32) ≤ a1 then (
  none) else (
  ky_g (¬ (a1 < 0 ∨ 6 ≤ a1.toNatClampNeg)) (
  some ((33 + 13 * a1.toNatClampNeg), σ))))
set_option maxHeartbeats 4000000 in
set_option maxRecDepth 100000 in
theorem KX1_bookAt {G : ky_G} (d : Nat) (a1 : Int32) (σ : ky_St) (r : Nat) (σ' : ky_St) (hf : fX1_bookAt a1 σ = some (r, σ')) : ky_K G mX1_bookAt d 0 0 [ky_r G 2, .int a1] σ (.inr (some (ky_r G r))) σ' := by
  unfold fX1_bookAt at hf
  refine ky_enter rfl (by decide +kernel) (Nat.le_of_ble_eq_true rfl) (lv := [(0, ky_r G 2), (1, .int a1)]) rfl ?_
  refine ky_iload_n (n := 1) dX1_bookAt_0 rfl rfl 1 rfl ?_
  refine ky_if_lt (n := 4) (tgt := 22) dX1_bookAt_1 rfl rfl (fun c1 => ?_) (fun c1 => ?_)
  · have hf := ky_pos c1 hf
    cases hf
  · have hf := ky_neg c1 hf
    refine ky_iload_n (n := 5) dX1_bookAt_4 rfl rfl 1 rfl ?_
    refine ky_aload_n (n := 6) dX1_bookAt_5 rfl rfl 0 rfl ?_
    refine ky_getf (q := (RX1, TX1, 3)) (v := ky_r G 5) (n := 9) dX1_bookAt_6 rfl kc_2 rfl (Nat.le_of_ble_eq_true rfl) wg_X1_11 (vf_2_0 _ _) ?_
    refine ky_alenR (n := 10) dX1_bookAt_9 rfl ?_
    refine ky_icmp_ge (n := 13) (tgt := 22) dX1_bookAt_10 rfl rfl (fun c2 => ?_) (fun c2 => ?_)
    · have hf := ky_pos c2 hf
      cases hf
    · have hf := ky_neg c2 hf
      refine ky_aload_n (n := 14) dX1_bookAt_13 rfl rfl 0 rfl ?_
      refine ky_getf (q := (RX1, TX1, 3)) (v := ky_r G 5) (n := 17) dX1_bookAt_14 rfl kc_2 rfl (Nat.le_of_ble_eq_true rfl) wg_X1_11 (vf_2_0 _ _) ?_
      refine ky_iload_n (n := 18) dX1_bookAt_17 rfl rfl 1 rfl ?_
      obtain ⟨g3, hf⟩ := ky_ge hf
      refine ky_aald (n := 19) dX1_bookAt_18 rfl g3 ?_
      refine ky_goto (tgt := 23) dX1_bookAt_19 rfl ?_
      cases hf
      exact ky_areturn dX1_bookAt_23 ⟨_, rfl⟩ (Or.inr ⟨_, rfl⟩)
def fX1_keep (σ : ky_St) : Option (Unit × ky_St) :=
  ky_bd (fX1_bookAt (σ.1 2 2) σ) fun v3 s1 =>
  ky_g (ky_cl v3 = 0) (
  ky_bd (fX0_copyFrom v3 20 s1) fun v6 s4 =>
  ky_g (¬ (6 : Int32) = 0) (
  ky_bn (ky_u1 s4 2 2 (((s4.1 2 2) + (1 : Int32)) - ((s4.1 2 2) + (1 : Int32)) / (6 : Int32) * (6 : Int32))) fun s8 =>
  ky_bn (if (6 : Int32) < ((s8.1 2 1) + (1 : Int32)) then (6 : Int32) else ((s8.1 2 1) + (1 : Int32))) fun v9 =>
  ky_bn (ky_u1 s8 2 1 v9) fun s10 =>
  some ((), s10)))
set_option maxHeartbeats 4000000 in
set_option maxRecDepth 100000 in
theorem KX1_keep {G : ky_G} (d : Nat) (σ : ky_St) (r : Unit) (σ' : ky_St) (hf : fX1_keep σ = some (r, σ')) : ky_K G mX1_keep (d + 3) 0 0 [ky_r G 2, ky_r G 20] σ (.inr none) σ' := by
  unfold fX1_keep at hf
  refine ky_enter rfl (by decide +kernel) (Nat.le_of_ble_eq_true rfl) (lv := [(0, ky_r G 2), (1, ky_r G 20)]) rfl ?_
  refine ky_aload_n (n := 1) dX1_keep_0 rfl rfl 0 rfl ?_
  refine ky_aload_n (n := 2) dX1_keep_1 rfl rfl 0 rfl ?_
  refine ky_getf (q := (RX1, TX1, 3)) (v := .int (σ.1 2 2)) (n := 5) dX1_keep_2 rfl kc_2 rfl (Nat.le_of_ble_eq_true rfl) wg_X1_18 (vf_2_2 _ _) ?_
  obtain ⟨v3, s1, h2, hf⟩ := ky_bd_e hf
  refine ky_callV (kc := 0) (ks := 0) (kc2 := 0) (ks2 := 0) (k0 := 2) (as := [.int (σ.1 2 2)]) (st := []) (KX1_bookAt (d + 2) (σ.1 2 2) σ _ _ h2) okX1_bookAt wl_X1_22 kc_2 (q := (RX1, TX1, 3)) rfl rfl rfl rfl (Nat.le_of_ble_eq_true rfl) dX1_keep_5 rfl ?_
  refine ky_astore_n (lv' := [(2, ky_r G v3), (0, ky_r G 2), (1, ky_r G 20)]) (n := 9) dX1_keep_8 rfl rfl (Nat.le_of_ble_eq_true rfl) rfl ?_
  refine ky_aload_n (n := 10) dX1_keep_9 rfl rfl 0 rfl ?_
  refine ky_ifnonnull (tgt := 14) dX1_keep_10 rfl ?_
  refine ky_aload_n (n := 15) dX1_keep_14 rfl rfl 0 rfl ?_
  refine ky_aload_n (n := 16) dX1_keep_15 rfl rfl 2 rfl ?_
  obtain ⟨kb_v3, hf⟩ := ky_ge hf
  obtain ⟨v6, s4, h5, hf⟩ := ky_bd_e hf
  refine ky_callV (kc := 0) (ks := 0) (kc2 := 0) (ks2 := 0) (k0 := v3) (as := [ky_r G 20]) (st := []) (KX0_copyFrom d v3 20 s1 _ _ h5) okX0_copyFrom wl_X1_26 kb_v3 (q := (RX0, TX0, 17)) rfl rfl rfl rfl (Nat.le_of_ble_eq_true rfl) dX1_keep_16 rfl ?_
  refine ky_aload_n (n := 20) dX1_keep_19 rfl rfl 1 rfl ?_
  refine ky_aload_n (n := 21) dX1_keep_20 rfl rfl 1 rfl ?_
  refine ky_getf (q := (RX1, TX1, 3)) (v := .int (s4.1 2 2)) (n := 24) dX1_keep_21 rfl kc_2 rfl (Nat.le_of_ble_eq_true rfl) wg_X1_18 (vf_2_2 _ _) ?_
  refine ky_iconst (v := (1 : Int32)) (n := 25) dX1_keep_24 rfl rfl ?_
  refine ky_iadd (n := 26) dX1_keep_25 rfl ?_
  refine ky_bipush (v := (6 : Int32)) (n := 28) dX1_keep_26 rfl rfl ?_
  obtain ⟨g7, hf⟩ := ky_ge hf
  refine ky_irem (n := 29) dX1_keep_28 rfl g7 ?_
  refine ky_putf (q := (RX1, TX1, 3)) (n := 32) dX1_keep_29 rfl kc_2 rfl (Nat.le_of_ble_eq_true rfl) wg_X1_18 rfl (by decide +kernel) rfl (fun s8 es8 => ?_)
  have hf := ky_bn_e hf s8 es8
  refine ky_aload_n (n := 33) dX1_keep_32 rfl rfl 1 rfl ?_
  refine ky_aload_n (n := 34) dX1_keep_33 rfl rfl 1 rfl ?_
  refine ky_getf (q := (RX1, TX1, 3)) (v := .int (s8.1 2 1)) (n := 37) dX1_keep_34 rfl kc_2 rfl (Nat.le_of_ble_eq_true rfl) wg_X1_30 (vf_2_1 _ _) ?_
  refine ky_iconst (v := (1 : Int32)) (n := 38) dX1_keep_37 rfl rfl ?_
  refine ky_iadd (n := 39) dX1_keep_38 rfl ?_
  refine ky_bipush (v := (6 : Int32)) (n := 41) dX1_keep_39 rfl rfl ?_
  refine ky_min (n := 44) dX1_keep_41 rfl wl_X1_33 wlib_min_s wlib_Math wlib_min_c (by omega) (Nat.le_of_ble_eq_true rfl) ?_
  refine ky_topi (fun v9 ev9 => ?_)
  have hf := ky_bn_e hf v9 ev9
  refine ky_putf (q := (RX1, TX1, 3)) (n := 47) dX1_keep_44 rfl kc_2 rfl (Nat.le_of_ble_eq_true rfl) wg_X1_30 rfl (by decide +kernel) rfl (fun s10 es10 => ?_)
  have hf := ky_bn_e hf s10 es10
  cases hf
  exact ky_return dX1_keep_47 rfl
def fX1_giveBack (σ : ky_St) : Option (Unit × ky_St) :=
  if (1 : Int32) ≤ (σ.1 2 1) then (
  ky_g (¬ (6 : Int32) = 0) (
  ky_bn (ky_u1 σ 2 2 ((((σ.1 2 2) + (6 : Int32)) - (1 : Int32)) - (((σ.1 2 2) + (6 : Int32)) - (1 : Int32)) / (6 : Int32) * (6 : Int32))) fun s3 =>
  ky_bd (fX1_bookAt (s3.1 2 2) s3) fun v6 s4 =>
  ky_bd (fX0_copyFrom 20 v6 s4) fun v9 s7 =>
  ky_bn (ky_u1 s7 2 1 ((s7.1 2 1) - (1 : Int32))) fun s10 =>
  some ((), s10))) else (
  some ((), σ))
set_option maxHeartbeats 4000000 in
set_option maxRecDepth 100000 in
theorem KX1_giveBack {G : ky_G} (d : Nat) (σ : ky_St) (r : Unit) (σ' : ky_St) (hf : fX1_giveBack σ = some (r, σ')) : ky_K G mX1_giveBack (d + 3) 0 0 [ky_r G 2, ky_r G 20] σ (.inr none) σ' := by
  unfold fX1_giveBack at hf
  refine ky_enter rfl (by decide +kernel) (Nat.le_of_ble_eq_true rfl) (lv := [(0, ky_r G 2), (1, ky_r G 20)]) rfl ?_
  refine ky_aload_n (n := 1) dX1_giveBack_0 rfl rfl 1 rfl ?_
  refine ky_ifnull (n := 4) dX1_giveBack_1 rfl ?_
  refine ky_aload_n (n := 5) dX1_giveBack_4 rfl rfl 0 rfl ?_
  refine ky_getf (q := (RX1, TX1, 3)) (v := .int (σ.1 2 1)) (n := 8) dX1_giveBack_5 rfl kc_2 rfl (Nat.le_of_ble_eq_true rfl) wg_X1_30 (vf_2_1 _ _) ?_
  refine ky_iconst (v := (1 : Int32)) (n := 9) dX1_giveBack_8 rfl rfl ?_
  refine ky_icmp_ge (n := 12) (tgt := 13) dX1_giveBack_9 rfl rfl (fun c1 => ?_) (fun c1 => ?_)
  · have hf := ky_pos c1 hf
    refine ky_aload_n (n := 14) dX1_giveBack_13 rfl rfl 0 rfl ?_
    refine ky_aload_n (n := 15) dX1_giveBack_14 rfl rfl 0 rfl ?_
    refine ky_getf (q := (RX1, TX1, 3)) (v := .int (σ.1 2 2)) (n := 18) dX1_giveBack_15 rfl kc_2 rfl (Nat.le_of_ble_eq_true rfl) wg_X1_18 (vf_2_2 _ _) ?_
    refine ky_bipush (v := (6 : Int32)) (n := 20) dX1_giveBack_18 rfl rfl ?_
    refine ky_iadd (n := 21) dX1_giveBack_20 rfl ?_
    refine ky_iconst (v := (1 : Int32)) (n := 22) dX1_giveBack_21 rfl rfl ?_
    refine ky_isub (n := 23) dX1_giveBack_22 rfl ?_
    refine ky_bipush (v := (6 : Int32)) (n := 25) dX1_giveBack_23 rfl rfl ?_
    obtain ⟨g2, hf⟩ := ky_ge hf
    refine ky_irem (n := 26) dX1_giveBack_25 rfl g2 ?_
    refine ky_putf (q := (RX1, TX1, 3)) (n := 29) dX1_giveBack_26 rfl kc_2 rfl (Nat.le_of_ble_eq_true rfl) wg_X1_18 rfl (by decide +kernel) rfl (fun s3 es3 => ?_)
    have hf := ky_bn_e hf s3 es3
    refine ky_aload_n (n := 30) dX1_giveBack_29 rfl rfl 1 rfl ?_
    refine ky_aload_n (n := 31) dX1_giveBack_30 rfl rfl 0 rfl ?_
    refine ky_aload_n (n := 32) dX1_giveBack_31 rfl rfl 0 rfl ?_
    refine ky_getf (q := (RX1, TX1, 3)) (v := .int (s3.1 2 2)) (n := 35) dX1_giveBack_32 rfl kc_2 rfl (Nat.le_of_ble_eq_true rfl) wg_X1_18 (vf_2_2 _ _) ?_
    obtain ⟨v6, s4, h5, hf⟩ := ky_bd_e hf
    refine ky_callV (kc := 0) (ks := 0) (kc2 := 0) (ks2 := 0) (k0 := 2) (as := [.int (s3.1 2 2)]) (st := [ky_r G 20]) (KX1_bookAt (d + 2) (s3.1 2 2) s3 _ _ h5) okX1_bookAt wl_X1_22 kc_2 (q := (RX1, TX1, 3)) rfl rfl rfl rfl (Nat.le_of_ble_eq_true rfl) dX1_giveBack_35 rfl ?_
    obtain ⟨v9, s7, h8, hf⟩ := ky_bd_e hf
    refine ky_callV (kc := 0) (ks := 0) (kc2 := 0) (ks2 := 0) (k0 := 20) (as := [ky_r G v6]) (st := []) (KX0_copyFrom d 20 v6 s4 _ _ h8) okX0_copyFrom wl_X1_26 kc_20 (q := (RX0, TX0, 17)) rfl rfl rfl rfl (Nat.le_of_ble_eq_true rfl) dX1_giveBack_38 rfl ?_
    refine ky_aload_n (n := 42) dX1_giveBack_41 rfl rfl 0 rfl ?_
    refine ky_dup (n := 43) dX1_giveBack_42 rfl rfl ?_
    refine ky_getf (q := (RX1, TX1, 3)) (v := .int (s7.1 2 1)) (n := 46) dX1_giveBack_43 rfl kc_2 rfl (Nat.le_of_ble_eq_true rfl) wg_X1_30 (vf_2_1 _ _) ?_
    refine ky_iconst (v := (1 : Int32)) (n := 47) dX1_giveBack_46 rfl rfl ?_
    refine ky_isub (n := 48) dX1_giveBack_47 rfl ?_
    refine ky_putf (q := (RX1, TX1, 3)) (n := 51) dX1_giveBack_48 rfl kc_2 rfl (Nat.le_of_ble_eq_true rfl) wg_X1_30 rfl (by decide +kernel) rfl (fun s10 es10 => ?_)
    have hf := ky_bn_e hf s10 es10
    cases hf
    exact ky_return dX1_giveBack_51 rfl
  · have hf := ky_neg c1 hf
    cases hf
    exact ky_return dX1_giveBack_12 rfl
def fX2_write (a1 : Int32) (σ : ky_St) : Option (Unit × ky_St) :=
  if (60 : Int32) ≤ (σ.1 3 1) then (
  some ((), σ)) else (
  ky_bd (fX3_put 6 (σ.1 3 1) a1 σ) fun v4 s2 =>
  ky_bn (ky_u1 s2 3 1 ((s2.1 3 1) + (1 : Int32))) fun s5 =>
  some ((), s5))
set_option maxHeartbeats 4000000 in
set_option maxRecDepth 100000 in
theorem KX2_write {G : ky_G} (d : Nat) (a1 : Int32) (σ : ky_St) (r : Unit) (σ' : ky_St) (hf : fX2_write a1 σ = some (r, σ')) : ky_K G mX2_write (d + 1) 0 0 [ky_r G 3, .int a1] σ (.inr none) σ' := by
  unfold fX2_write at hf
  refine ky_enter rfl (by decide +kernel) (Nat.le_of_ble_eq_true rfl) (lv := [(0, ky_r G 3), (1, .int a1)]) rfl ?_
  refine ky_aload_n (n := 1) dX2_write_0 rfl rfl 0 rfl ?_
  refine ky_getf (q := (RX2, TX2, 6)) (v := .int (σ.1 3 1)) (n := 4) dX2_write_1 rfl kc_3 rfl (Nat.le_of_ble_eq_true rfl) wg_X2_15 (vf_3_1 _ _) ?_
  refine ky_bipush (v := (60 : Int32)) (n := 6) dX2_write_4 rfl rfl ?_
  refine ky_icmp_ge (n := 9) (tgt := 31) dX2_write_6 rfl rfl (fun c1 => ?_) (fun c1 => ?_)
  · have hf := ky_pos c1 hf
    cases hf
    exact ky_return dX2_write_31 rfl
  · have hf := ky_neg c1 hf
    refine ky_aload_n (n := 10) dX2_write_9 rfl rfl 0 rfl ?_
    refine ky_getf (q := (RX2, TX2, 6)) (v := ky_r G 6) (n := 13) dX2_write_10 rfl kc_3 rfl (Nat.le_of_ble_eq_true rfl) wg_X2_9 (vf_3_0 _ _) ?_
    refine ky_aload_n (n := 14) dX2_write_13 rfl rfl 0 rfl ?_
    refine ky_getf (q := (RX2, TX2, 6)) (v := .int (σ.1 3 1)) (n := 17) dX2_write_14 rfl kc_3 rfl (Nat.le_of_ble_eq_true rfl) wg_X2_15 (vf_3_1 _ _) ?_
    refine ky_iload_n (n := 18) dX2_write_17 rfl rfl 1 rfl ?_
    obtain ⟨v4, s2, h3, hf⟩ := ky_bd_e hf
    refine ky_callN (kc := 0) (ks := 0) (kc2 := 0) (ks2 := 0) (as := [ky_r G 6, .int (σ.1 3 1), .int a1]) (st := []) (KX3_put d 6 (σ.1 3 1) a1 σ _ _ h3) okX3_put wn_X2_19 rfl rfl (Nat.le_of_ble_eq_true rfl) dX2_write_18 rfl ?_
    refine ky_aload_n (n := 22) dX2_write_21 rfl rfl 0 rfl ?_
    refine ky_dup (n := 23) dX2_write_22 rfl rfl ?_
    refine ky_getf (q := (RX2, TX2, 6)) (v := .int (s2.1 3 1)) (n := 26) dX2_write_23 rfl kc_3 rfl (Nat.le_of_ble_eq_true rfl) wg_X2_15 (vf_3_1 _ _) ?_
    refine ky_iconst (v := (1 : Int32)) (n := 27) dX2_write_26 rfl rfl ?_
    refine ky_iadd (n := 28) dX2_write_27 rfl ?_
    refine ky_putf (q := (RX2, TX2, 6)) (n := 31) dX2_write_28 rfl kc_3 rfl (Nat.le_of_ble_eq_true rfl) wg_X2_15 rfl (by decide +kernel) rfl (fun s5 es5 => ?_)
    have hf := ky_bn_e hf s5 es5
    cases hf
    exact ky_return dX2_write_31 rfl
def fX2_wipe (σ : ky_St) : Option (Unit × ky_St) :=
  ky_bn (ky_u1 σ 3 1 (0 : Int32)) fun s1 =>
  some ((), s1)
set_option maxHeartbeats 4000000 in
set_option maxRecDepth 100000 in
theorem KX2_wipe {G : ky_G} (d : Nat) (σ : ky_St) (r : Unit) (σ' : ky_St) (hf : fX2_wipe σ = some (r, σ')) : ky_K G mX2_wipe d 0 0 [ky_r G 3] σ (.inr none) σ' := by
  unfold fX2_wipe at hf
  refine ky_enter rfl (by decide +kernel) (Nat.le_of_ble_eq_true rfl) (lv := [(0, ky_r G 3)]) rfl ?_
  refine ky_aload_n (n := 1) dX2_wipe_0 rfl rfl 0 rfl ?_
  refine ky_iconst (v := (0 : Int32)) (n := 2) dX2_wipe_1 rfl rfl ?_
  refine ky_putf (q := (RX2, TX2, 6)) (n := 5) dX2_wipe_2 rfl kc_3 rfl (Nat.le_of_ble_eq_true rfl) wg_X2_15 rfl (by decide +kernel) rfl (fun s1 es1 => ?_)
  have hf := ky_bn_e hf s1 es1
  cases hf
  exact ky_return dX2_wipe_5 rfl
def fX2_rewind (σ : ky_St) : Option (Unit × ky_St) :=
  ky_bn (ky_u1 σ 3 2 (0 : Int32)) fun s1 =>
  some ((), s1)
set_option maxHeartbeats 4000000 in
set_option maxRecDepth 100000 in
theorem KX2_rewind {G : ky_G} (d : Nat) (σ : ky_St) (r : Unit) (σ' : ky_St) (hf : fX2_rewind σ = some (r, σ')) : ky_K G mX2_rewind d 0 0 [ky_r G 3] σ (.inr none) σ' := by
  unfold fX2_rewind at hf
  refine ky_enter rfl (by decide +kernel) (Nat.le_of_ble_eq_true rfl) (lv := [(0, ky_r G 3)]) rfl ?_
  refine ky_aload_n (n := 1) dX2_rewind_0 rfl rfl 0 rfl ?_
  refine ky_iconst (v := (0 : Int32)) (n := 2) dX2_rewind_1 rfl rfl ?_
  refine ky_putf (q := (RX2, TX2, 6)) (n := 5) dX2_rewind_2 rfl kc_3 rfl (Nat.le_of_ble_eq_true rfl) wg_X2_23 rfl (by decide +kernel) rfl (fun s1 es1 => ?_)
  have hf := ky_bn_e hf s1 es1
  cases hf
  exact ky_return dX2_rewind_5 rfl
def fX2_sign (σ : ky_St) : Option (Int32 × ky_St) :=
  if (σ.1 3 1) ≤ (σ.1 3 2) then (
  some ((-1 : Int32), σ)) else (
  ky_bd (fX3_at 6 (σ.1 3 2) σ) fun v4 s2 =>
  some (v4, s2))
set_option maxHeartbeats 4000000 in
set_option maxRecDepth 100000 in
theorem KX2_sign {G : ky_G} (d : Nat) (σ : ky_St) (r : Int32) (σ' : ky_St) (hf : fX2_sign σ = some (r, σ')) : ky_K G mX2_sign (d + 1) 0 0 [ky_r G 3] σ (.inr (some (.int r))) σ' := by
  unfold fX2_sign at hf
  refine ky_enter rfl (by decide +kernel) (Nat.le_of_ble_eq_true rfl) (lv := [(0, ky_r G 3)]) rfl ?_
  refine ky_aload_n (n := 1) dX2_sign_0 rfl rfl 0 rfl ?_
  refine ky_getf (q := (RX2, TX2, 6)) (v := .int (σ.1 3 2)) (n := 4) dX2_sign_1 rfl kc_3 rfl (Nat.le_of_ble_eq_true rfl) wg_X2_23 (vf_3_2 _ _) ?_
  refine ky_aload_n (n := 5) dX2_sign_4 rfl rfl 0 rfl ?_
  refine ky_getf (q := (RX2, TX2, 6)) (v := .int (σ.1 3 1)) (n := 8) dX2_sign_5 rfl kc_3 rfl (Nat.le_of_ble_eq_true rfl) wg_X2_15 (vf_3_1 _ _) ?_
  refine ky_icmp_ge (n := 11) (tgt := 25) dX2_sign_8 rfl rfl (fun c1 => ?_) (fun c1 => ?_)
  · have hf := ky_pos c1 hf
    refine ky_iconst (v := (-1 : Int32)) (n := 26) dX2_sign_25 rfl rfl ?_
    cases hf
    exact ky_ireturn dX2_sign_26 rfl
  · have hf := ky_neg c1 hf
    refine ky_aload_n (n := 12) dX2_sign_11 rfl rfl 0 rfl ?_
    refine ky_getf (q := (RX2, TX2, 6)) (v := ky_r G 6) (n := 15) dX2_sign_12 rfl kc_3 rfl (Nat.le_of_ble_eq_true rfl) wg_X2_9 (vf_3_0 _ _) ?_
    refine ky_aload_n (n := 16) dX2_sign_15 rfl rfl 0 rfl ?_
    refine ky_getf (q := (RX2, TX2, 6)) (v := .int (σ.1 3 2)) (n := 19) dX2_sign_16 rfl kc_3 rfl (Nat.le_of_ble_eq_true rfl) wg_X2_23 (vf_3_2 _ _) ?_
    obtain ⟨v4, s2, h3, hf⟩ := ky_bd_e hf
    refine ky_callN (kc := 0) (ks := 0) (kc2 := 0) (ks2 := 0) (as := [ky_r G 6, .int (σ.1 3 2)]) (st := []) (KX3_at d 6 (σ.1 3 2) σ _ _ h3) okX3_at wn_X2_26 rfl rfl (Nat.le_of_ble_eq_true rfl) dX2_sign_19 rfl ?_
    refine ky_goto (tgt := 26) dX2_sign_22 rfl ?_
    cases hf
    exact ky_ireturn dX2_sign_26 rfl
def fX2_digit (σ : ky_St) : Option (Int32 × ky_St) :=
  if (σ.1 3 1) ≤ (σ.1 3 2) then (
  if (-1 : Int32) < (48 : Int32) then (
  some ((-1 : Int32), σ)) else (
  if (57 : Int32) < (-1 : Int32) then (
  some ((-1 : Int32), σ)) else (
  some (((-1 : Int32) - (48 : Int32)), σ)))) else (
  ky_bd (fX3_at 6 (σ.1 3 2) σ) fun v6 s4 =>
  if v6 < (48 : Int32) then (
  some ((-1 : Int32), s4)) else (
  if (57 : Int32) < v6 then (
  some ((-1 : Int32), s4)) else (
  some ((v6 - (48 : Int32)), s4))))
set_option maxHeartbeats 4000000 in
set_option maxRecDepth 100000 in
theorem KX2_digit {G : ky_G} (d : Nat) (σ : ky_St) (r : Int32) (σ' : ky_St) (hf : fX2_digit σ = some (r, σ')) : ky_K G mX2_digit (d + 1) 0 0 [ky_r G 3] σ (.inr (some (.int r))) σ' := by
  unfold fX2_digit at hf
  refine ky_enter rfl (by decide +kernel) (Nat.le_of_ble_eq_true rfl) (lv := [(0, ky_r G 3)]) rfl ?_
  refine ky_aload_n (n := 1) dX2_digit_0 rfl rfl 0 rfl ?_
  refine ky_getf (q := (RX2, TX2, 6)) (v := .int (σ.1 3 2)) (n := 4) dX2_digit_1 rfl kc_3 rfl (Nat.le_of_ble_eq_true rfl) wg_X2_23 (vf_3_2 _ _) ?_
  refine ky_aload_n (n := 5) dX2_digit_4 rfl rfl 0 rfl ?_
  refine ky_getf (q := (RX2, TX2, 6)) (v := .int (σ.1 3 1)) (n := 8) dX2_digit_5 rfl kc_3 rfl (Nat.le_of_ble_eq_true rfl) wg_X2_15 (vf_3_1 _ _) ?_
  refine ky_icmp_ge (n := 11) (tgt := 25) dX2_digit_8 rfl rfl (fun c1 => ?_) (fun c1 => ?_)
  · have hf := ky_pos c1 hf
    refine ky_iconst (v := (-1 : Int32)) (n := 26) dX2_digit_25 rfl rfl ?_
    refine ky_istore_n (lv' := [(1, .int (-1 : Int32)), (0, ky_r G 3)]) (n := 27) dX2_digit_26 rfl rfl (Nat.le_of_ble_eq_true rfl) rfl ?_
    refine ky_iload_n (n := 28) dX2_digit_27 rfl rfl 0 rfl ?_
    refine ky_bipush (v := (48 : Int32)) (n := 30) dX2_digit_28 rfl rfl ?_
    refine ky_icmp_lt (n := 33) (tgt := 46) dX2_digit_30 rfl rfl (fun c2 => ?_) (fun c2 => ?_)
    · have hf := ky_pos c2 hf
      refine ky_iconst (v := (-1 : Int32)) (n := 47) dX2_digit_46 rfl rfl ?_
      cases hf
      exact ky_ireturn dX2_digit_47 rfl
    · have hf := ky_neg c2 hf
      refine ky_iload_n (n := 34) dX2_digit_33 rfl rfl 0 rfl ?_
      refine ky_bipush (v := (57 : Int32)) (n := 36) dX2_digit_34 rfl rfl ?_
      refine ky_icmp_gt (n := 39) (tgt := 46) dX2_digit_36 rfl rfl (fun c3 => ?_) (fun c3 => ?_)
      · have hf := ky_pos c3 hf
        refine ky_iconst (v := (-1 : Int32)) (n := 47) dX2_digit_46 rfl rfl ?_
        cases hf
        exact ky_ireturn dX2_digit_47 rfl
      · have hf := ky_neg c3 hf
        refine ky_iload_n (n := 40) dX2_digit_39 rfl rfl 0 rfl ?_
        refine ky_bipush (v := (48 : Int32)) (n := 42) dX2_digit_40 rfl rfl ?_
        refine ky_isub (n := 43) dX2_digit_42 rfl ?_
        refine ky_goto (tgt := 47) dX2_digit_43 rfl ?_
        cases hf
        exact ky_ireturn dX2_digit_47 rfl
  · have hf := ky_neg c1 hf
    refine ky_aload_n (n := 12) dX2_digit_11 rfl rfl 0 rfl ?_
    refine ky_getf (q := (RX2, TX2, 6)) (v := ky_r G 6) (n := 15) dX2_digit_12 rfl kc_3 rfl (Nat.le_of_ble_eq_true rfl) wg_X2_9 (vf_3_0 _ _) ?_
    refine ky_aload_n (n := 16) dX2_digit_15 rfl rfl 0 rfl ?_
    refine ky_getf (q := (RX2, TX2, 6)) (v := .int (σ.1 3 2)) (n := 19) dX2_digit_16 rfl kc_3 rfl (Nat.le_of_ble_eq_true rfl) wg_X2_23 (vf_3_2 _ _) ?_
    obtain ⟨v6, s4, h5, hf⟩ := ky_bd_e hf
    refine ky_callN (kc := 0) (ks := 0) (kc2 := 0) (ks2 := 0) (as := [ky_r G 6, .int (σ.1 3 2)]) (st := []) (KX3_at d 6 (σ.1 3 2) σ _ _ h5) okX3_at wn_X2_26 rfl rfl (Nat.le_of_ble_eq_true rfl) dX2_digit_19 rfl ?_
    refine ky_goto (tgt := 26) dX2_digit_22 rfl ?_
    refine ky_istore_n (lv' := [(1, .int v6), (0, ky_r G 3)]) (n := 27) dX2_digit_26 rfl rfl (Nat.le_of_ble_eq_true rfl) rfl ?_
    refine ky_iload_n (n := 28) dX2_digit_27 rfl rfl 0 rfl ?_
    refine ky_bipush (v := (48 : Int32)) (n := 30) dX2_digit_28 rfl rfl ?_
    refine ky_icmp_lt (n := 33) (tgt := 46) dX2_digit_30 rfl rfl (fun c7 => ?_) (fun c7 => ?_)
    · have hf := ky_pos c7 hf
      refine ky_iconst (v := (-1 : Int32)) (n := 47) dX2_digit_46 rfl rfl ?_
      cases hf
      exact ky_ireturn dX2_digit_47 rfl
    · have hf := ky_neg c7 hf
      refine ky_iload_n (n := 34) dX2_digit_33 rfl rfl 0 rfl ?_
      refine ky_bipush (v := (57 : Int32)) (n := 36) dX2_digit_34 rfl rfl ?_
      refine ky_icmp_gt (n := 39) (tgt := 46) dX2_digit_36 rfl rfl (fun c8 => ?_) (fun c8 => ?_)
      · have hf := ky_pos c8 hf
        refine ky_iconst (v := (-1 : Int32)) (n := 47) dX2_digit_46 rfl rfl ?_
        cases hf
        exact ky_ireturn dX2_digit_47 rfl
      · have hf := ky_neg c8 hf
        refine ky_iload_n (n := 40) dX2_digit_39 rfl rfl 0 rfl ?_
        refine ky_bipush (v := (48 : Int32)) (n := 42) dX2_digit_40 rfl rfl ?_
        refine ky_isub (n := 43) dX2_digit_42 rfl ?_
        refine ky_goto (tgt := 47) dX2_digit_43 rfl ?_
        cases hf
        exact ky_ireturn dX2_digit_47 rfl
def fX2_readSign (a1 : Int32) (σ : ky_St) : Option (Int32 × ky_St) :=
  ky_bd (fX2_sign σ) fun v3 s1 =>
  if v3 = a1 then (
  ky_bn (ky_u1 s1 3 2 ((s1.1 3 2) + (1 : Int32))) fun s5 =>
  some ((1 : Int32), s5)) else (
  some ((0 : Int32), s1))
set_option maxHeartbeats 4000000 in
set_option maxRecDepth 100000 in
theorem KX2_readSign {G : ky_G} (d : Nat) (a1 : Int32) (σ : ky_St) (r : Int32) (σ' : ky_St) (hf : fX2_readSign a1 σ = some (r, σ')) : ky_K G mX2_readSign (d + 2) 0 0 [ky_r G 3, .int a1] σ (.inr (some (.int r))) σ' := by
  unfold fX2_readSign at hf
  refine ky_enter rfl (by decide +kernel) (Nat.le_of_ble_eq_true rfl) (lv := [(0, ky_r G 3), (1, .int a1)]) rfl ?_
  refine ky_aload_n (n := 1) dX2_readSign_0 rfl rfl 0 rfl ?_
  obtain ⟨v3, s1, h2, hf⟩ := ky_bd_e hf
  refine ky_callV (kc := 0) (ks := 0) (kc2 := 0) (ks2 := 0) (k0 := 3) (as := []) (st := []) (KX2_sign d σ _ _ h2) okX2_sign wl_X2_30 kc_3 (q := (RX2, TX2, 6)) rfl rfl rfl rfl (Nat.le_of_ble_eq_true rfl) dX2_readSign_1 rfl ?_
  refine ky_iload_n (n := 5) dX2_readSign_4 rfl rfl 1 rfl ?_
  refine ky_icmp_eq (n := 8) (tgt := 10) dX2_readSign_5 rfl rfl (fun c4 => ?_) (fun c4 => ?_)
  · have hf := ky_pos c4 hf
    refine ky_aload_n (n := 11) dX2_readSign_10 rfl rfl 0 rfl ?_
    refine ky_dup (n := 12) dX2_readSign_11 rfl rfl ?_
    refine ky_getf (q := (RX2, TX2, 6)) (v := .int (s1.1 3 2)) (n := 15) dX2_readSign_12 rfl kc_3 rfl (Nat.le_of_ble_eq_true rfl) wg_X2_23 (vf_3_2 _ _) ?_
    refine ky_iconst (v := (1 : Int32)) (n := 16) dX2_readSign_15 rfl rfl ?_
    refine ky_iadd (n := 17) dX2_readSign_16 rfl ?_
    refine ky_putf (q := (RX2, TX2, 6)) (n := 20) dX2_readSign_17 rfl kc_3 rfl (Nat.le_of_ble_eq_true rfl) wg_X2_23 rfl (by decide +kernel) rfl (fun s5 es5 => ?_)
    have hf := ky_bn_e hf s5 es5
    refine ky_iconst (v := (1 : Int32)) (n := 21) dX2_readSign_20 rfl rfl ?_
    cases hf
    exact ky_zreturn dX2_readSign_21 rfl (Or.inr rfl)
  · have hf := ky_neg c4 hf
    refine ky_iconst (v := (0 : Int32)) (n := 9) dX2_readSign_8 rfl rfl ?_
    cases hf
    exact ky_zreturn dX2_readSign_9 rfl (Or.inl rfl)
def fX2_readNumber (a1 : Int32) (a2 : Int32) (σ : ky_St) : Option (Int32 × ky_St) :=
  ky_bd (fX2_digit σ) fun v3 s1 =>
  if v3 = (-1 : Int32) then (
  some ((-1 : Int32), s1)) else (
  if v3 < a1 then (
  some ((-1 : Int32), s1)) else (
  if v3 ≤ a2 then (
  ky_bn (ky_u1 s1 3 2 ((s1.1 3 2) + (1 : Int32))) fun s7 =>
  ky_bd (fX2_digit s7) fun v10 s8 =>
  if v3 = 0 then (
  some (v3, s8)) else (
  if v10 = (-1 : Int32) then (
  some (v3, s8)) else (
  if ((v3 * (10 : Int32)) + v10) ≤ a2 then (
  ky_bn (ky_u1 s8 3 2 ((s8.1 3 2) + (1 : Int32))) fun s14 =>
  some (((v3 * (10 : Int32)) + v10), s14)) else (
  some (v3, s8))))) else (
  some ((-1 : Int32), s1))))
set_option maxHeartbeats 4000000 in
set_option maxRecDepth 100000 in
theorem KX2_readNumber {G : ky_G} (d : Nat) (a1 : Int32) (a2 : Int32) (σ : ky_St) (r : Int32) (σ' : ky_St) (hf : fX2_readNumber a1 a2 σ = some (r, σ')) : ky_K G mX2_readNumber (d + 2) 0 0 [ky_r G 3, .int a1, .int a2] σ (.inr (some (.int r))) σ' := by
  unfold fX2_readNumber at hf
  refine ky_enter rfl (by decide +kernel) (Nat.le_of_ble_eq_true rfl) (lv := [(0, ky_r G 3), (1, .int a1), (2, .int a2)]) rfl ?_
  refine ky_aload_n (n := 1) dX2_readNumber_0 rfl rfl 0 rfl ?_
  obtain ⟨v3, s1, h2, hf⟩ := ky_bd_e hf
  refine ky_callV (kc := 0) (ks := 0) (kc2 := 0) (ks2 := 0) (k0 := 3) (as := []) (st := []) (KX2_digit d σ _ _ h2) okX2_digit wl_X2_34 kc_3 (q := (RX2, TX2, 6)) rfl rfl rfl rfl (Nat.le_of_ble_eq_true rfl) dX2_readNumber_1 rfl ?_
  refine ky_istore_n (lv' := [(3, .int v3), (0, ky_r G 3), (1, .int a1), (2, .int a2)]) (n := 5) dX2_readNumber_4 rfl rfl (Nat.le_of_ble_eq_true rfl) rfl ?_
  refine ky_iload_n (n := 6) dX2_readNumber_5 rfl rfl 0 rfl ?_
  refine ky_iconst (v := (-1 : Int32)) (n := 7) dX2_readNumber_6 rfl rfl ?_
  refine ky_icmp_eq (n := 10) (tgt := 20) dX2_readNumber_7 rfl rfl (fun c4 => ?_) (fun c4 => ?_)
  · have hf := ky_pos c4 hf
    refine ky_iconst (v := (-1 : Int32)) (n := 21) dX2_readNumber_20 rfl rfl ?_
    cases hf
    exact ky_ireturn dX2_readNumber_21 rfl
  · have hf := ky_neg c4 hf
    refine ky_iload_n (n := 11) dX2_readNumber_10 rfl rfl 0 rfl ?_
    refine ky_iload_n (n := 12) dX2_readNumber_11 rfl rfl 2 rfl ?_
    refine ky_icmp_lt (n := 15) (tgt := 20) dX2_readNumber_12 rfl rfl (fun c5 => ?_) (fun c5 => ?_)
    · have hf := ky_pos c5 hf
      refine ky_iconst (v := (-1 : Int32)) (n := 21) dX2_readNumber_20 rfl rfl ?_
      cases hf
      exact ky_ireturn dX2_readNumber_21 rfl
    · have hf := ky_neg c5 hf
      refine ky_iload_n (n := 16) dX2_readNumber_15 rfl rfl 0 rfl ?_
      refine ky_iload_n (n := 17) dX2_readNumber_16 rfl rfl 3 rfl ?_
      refine ky_icmp_le (n := 20) (tgt := 22) dX2_readNumber_17 rfl rfl (fun c6 => ?_) (fun c6 => ?_)
      · have hf := ky_pos c6 hf
        refine ky_aload_n (n := 23) dX2_readNumber_22 rfl rfl 1 rfl ?_
        refine ky_dup (n := 24) dX2_readNumber_23 rfl rfl ?_
        refine ky_getf (q := (RX2, TX2, 6)) (v := .int (s1.1 3 2)) (n := 27) dX2_readNumber_24 rfl kc_3 rfl (Nat.le_of_ble_eq_true rfl) wg_X2_23 (vf_3_2 _ _) ?_
        refine ky_iconst (v := (1 : Int32)) (n := 28) dX2_readNumber_27 rfl rfl ?_
        refine ky_iadd (n := 29) dX2_readNumber_28 rfl ?_
        refine ky_putf (q := (RX2, TX2, 6)) (n := 32) dX2_readNumber_29 rfl kc_3 rfl (Nat.le_of_ble_eq_true rfl) wg_X2_23 rfl (by decide +kernel) rfl (fun s7 es7 => ?_)
        have hf := ky_bn_e hf s7 es7
        refine ky_aload_n (n := 33) dX2_readNumber_32 rfl rfl 1 rfl ?_
        obtain ⟨v10, s8, h9, hf⟩ := ky_bd_e hf
        refine ky_callV (kc := 0) (ks := 0) (kc2 := 0) (ks2 := 0) (k0 := 3) (as := []) (st := []) (KX2_digit d s7 _ _ h9) okX2_digit wl_X2_34 kc_3 (q := (RX2, TX2, 6)) rfl rfl rfl rfl (Nat.le_of_ble_eq_true rfl) dX2_readNumber_33 rfl ?_
        refine ky_istore (lv' := [(4, .int v10), (3, .int v3), (0, ky_r G 3), (1, .int a1), (2, .int a2)]) (n := 38) dX2_readNumber_36 rfl (Nat.le_of_ble_eq_true rfl) rfl ?_
        refine ky_iload_n (n := 39) dX2_readNumber_38 rfl rfl 1 rfl ?_
        refine ky_if_eq (n := 42) (tgt := 59) dX2_readNumber_39 rfl rfl (fun c11 => ?_) (fun c11 => ?_)
        · have hf := ky_pos c11 hf
          refine ky_iload_n (n := 60) dX2_readNumber_59 rfl rfl 1 rfl ?_
          cases hf
          exact ky_ireturn dX2_readNumber_60 rfl
        · have hf := ky_neg c11 hf
          refine ky_iload (n := 44) dX2_readNumber_42 rfl 0 rfl ?_
          refine ky_iconst (v := (-1 : Int32)) (n := 45) dX2_readNumber_44 rfl rfl ?_
          refine ky_icmp_eq (n := 48) (tgt := 59) dX2_readNumber_45 rfl rfl (fun c12 => ?_) (fun c12 => ?_)
          · have hf := ky_pos c12 hf
            refine ky_iload_n (n := 60) dX2_readNumber_59 rfl rfl 1 rfl ?_
            cases hf
            exact ky_ireturn dX2_readNumber_60 rfl
          · have hf := ky_neg c12 hf
            refine ky_iload_n (n := 49) dX2_readNumber_48 rfl rfl 1 rfl ?_
            refine ky_bipush (v := (10 : Int32)) (n := 51) dX2_readNumber_49 rfl rfl ?_
            refine ky_imul (n := 52) dX2_readNumber_51 rfl ?_
            refine ky_iload (n := 54) dX2_readNumber_52 rfl 0 rfl ?_
            refine ky_iadd (n := 55) dX2_readNumber_54 rfl ?_
            refine ky_iload_n (n := 56) dX2_readNumber_55 rfl rfl 4 rfl ?_
            refine ky_icmp_le (n := 59) (tgt := 61) dX2_readNumber_56 rfl rfl (fun c13 => ?_) (fun c13 => ?_)
            · have hf := ky_pos c13 hf
              refine ky_aload_n (n := 62) dX2_readNumber_61 rfl rfl 2 rfl ?_
              refine ky_dup (n := 63) dX2_readNumber_62 rfl rfl ?_
              refine ky_getf (q := (RX2, TX2, 6)) (v := .int (s8.1 3 2)) (n := 66) dX2_readNumber_63 rfl kc_3 rfl (Nat.le_of_ble_eq_true rfl) wg_X2_23 (vf_3_2 _ _) ?_
              refine ky_iconst (v := (1 : Int32)) (n := 67) dX2_readNumber_66 rfl rfl ?_
              refine ky_iadd (n := 68) dX2_readNumber_67 rfl ?_
              refine ky_putf (q := (RX2, TX2, 6)) (n := 71) dX2_readNumber_68 rfl kc_3 rfl (Nat.le_of_ble_eq_true rfl) wg_X2_23 rfl (by decide +kernel) rfl (fun s14 es14 => ?_)
              have hf := ky_bn_e hf s14 es14
              refine ky_iload_n (n := 72) dX2_readNumber_71 rfl rfl 1 rfl ?_
              refine ky_bipush (v := (10 : Int32)) (n := 74) dX2_readNumber_72 rfl rfl ?_
              refine ky_imul (n := 75) dX2_readNumber_74 rfl ?_
              refine ky_iload (n := 77) dX2_readNumber_75 rfl 0 rfl ?_
              refine ky_iadd (n := 78) dX2_readNumber_77 rfl ?_
              cases hf
              exact ky_ireturn dX2_readNumber_78 rfl
            · have hf := ky_neg c13 hf
              refine ky_iload_n (n := 60) dX2_readNumber_59 rfl rfl 1 rfl ?_
              cases hf
              exact ky_ireturn dX2_readNumber_60 rfl
      · have hf := ky_neg c6 hf
        refine ky_iconst (v := (-1 : Int32)) (n := 21) dX2_readNumber_20 rfl rfl ?_
        cases hf
        exact ky_ireturn dX2_readNumber_21 rfl
def fX2_readPair (a1 : Int32) (a2 : Int32) (a3 : Int32) (a4 : Int32) (a5 : Int32) (σ : ky_St) : Option (Int32 × ky_St) :=
  ky_bd (fX2_readNumber a1 a2 σ) fun v3 s1 =>
  ky_bn (ky_u1 s1 3 4 v3) fun s4 =>
  if (s4.1 3 4) = (-1 : Int32) then (
  some ((0 : Int32), s4)) else (
  ky_bd (fX2_readSign a3 s4) fun v8 s6 =>
  if v8 = 0 then (
  some ((0 : Int32), s6)) else (
  ky_bd (fX2_readNumber a4 a5 s6) fun v12 s10 =>
  ky_bn (ky_u1 s10 3 5 v12) fun s13 =>
  if (s13.1 3 5) = (-1 : Int32) then (
  some ((0 : Int32), s13)) else (
  some ((1 : Int32), s13))))
set_option maxHeartbeats 4000000 in
set_option maxRecDepth 100000 in
theorem KX2_readPair {G : ky_G} (d : Nat) (a1 : Int32) (a2 : Int32) (a3 : Int32) (a4 : Int32) (a5 : Int32) (σ : ky_St) (r : Int32) (σ' : ky_St) (hf : fX2_readPair a1 a2 a3 a4 a5 σ = some (r, σ')) : ky_K G mX2_readPair (d + 3) 0 0 [ky_r G 3, .int a1, .int a2, .int a3, .int a4, .int a5] σ (.inr (some (.int r))) σ' := by
  unfold fX2_readPair at hf
  refine ky_enter rfl (by decide +kernel) (Nat.le_of_ble_eq_true rfl) (lv := [(0, ky_r G 3), (1, .int a1), (2, .int a2), (3, .int a3), (4, .int a4), (5, .int a5)]) rfl ?_
  refine ky_aload_n (n := 1) dX2_readPair_0 rfl rfl 0 rfl ?_
  refine ky_aload_n (n := 2) dX2_readPair_1 rfl rfl 0 rfl ?_
  refine ky_iload_n (n := 3) dX2_readPair_2 rfl rfl 1 rfl ?_
  refine ky_iload_n (n := 4) dX2_readPair_3 rfl rfl 2 rfl ?_
  obtain ⟨v3, s1, h2, hf⟩ := ky_bd_e hf
  refine ky_callV (kc := 0) (ks := 0) (kc2 := 0) (ks2 := 0) (k0 := 3) (as := [.int a1, .int a2]) (st := [ky_r G 3]) (KX2_readNumber d a1 a2 σ _ _ h2) okX2_readNumber wl_X2_44 kc_3 (q := (RX2, TX2, 6)) rfl rfl rfl rfl (Nat.le_of_ble_eq_true rfl) dX2_readPair_4 rfl ?_
  refine ky_putf (q := (RX2, TX2, 6)) (n := 10) dX2_readPair_7 rfl kc_3 rfl (Nat.le_of_ble_eq_true rfl) wg_X2_48 rfl (by decide +kernel) rfl (fun s4 es4 => ?_)
  have hf := ky_bn_e hf s4 es4
  refine ky_aload_n (n := 11) dX2_readPair_10 rfl rfl 0 rfl ?_
  refine ky_getf (q := (RX2, TX2, 6)) (v := .int (s4.1 3 4)) (n := 14) dX2_readPair_11 rfl kc_3 rfl (Nat.le_of_ble_eq_true rfl) wg_X2_48 (vf_3_4 _ _) ?_
  refine ky_iconst (v := (-1 : Int32)) (n := 15) dX2_readPair_14 rfl rfl ?_
  refine ky_icmp_eq (n := 18) (tgt := 26) dX2_readPair_15 rfl rfl (fun c5 => ?_) (fun c5 => ?_)
  · have hf := ky_pos c5 hf
    refine ky_iconst (v := (0 : Int32)) (n := 27) dX2_readPair_26 rfl rfl ?_
    cases hf
    exact ky_zreturn dX2_readPair_27 rfl (Or.inl rfl)
  · have hf := ky_neg c5 hf
    refine ky_aload_n (n := 19) dX2_readPair_18 rfl rfl 0 rfl ?_
    refine ky_iload_n (n := 20) dX2_readPair_19 rfl rfl 3 rfl ?_
    obtain ⟨v8, s6, h7, hf⟩ := ky_bd_e hf
    refine ky_callV (kc := 0) (ks := 0) (kc2 := 0) (ks2 := 0) (k0 := 3) (as := [.int a3]) (st := []) (KX2_readSign d a3 s4 _ _ h7) okX2_readSign wl_X2_51 kc_3 (q := (RX2, TX2, 6)) rfl rfl rfl rfl (Nat.le_of_ble_eq_true rfl) dX2_readPair_20 rfl ?_
    refine ky_if_ne (n := 26) (tgt := 28) dX2_readPair_23 rfl rfl (fun c9 => ?_) (fun c9 => ?_)
    · have hf := ky_neg c9 hf
      refine ky_aload_n (n := 29) dX2_readPair_28 rfl rfl 0 rfl ?_
      refine ky_aload_n (n := 30) dX2_readPair_29 rfl rfl 0 rfl ?_
      refine ky_iload (n := 32) dX2_readPair_30 rfl 4 rfl ?_
      refine ky_iload (n := 34) dX2_readPair_32 rfl 5 rfl ?_
      obtain ⟨v12, s10, h11, hf⟩ := ky_bd_e hf
      refine ky_callV (kc := 0) (ks := 0) (kc2 := 0) (ks2 := 0) (k0 := 3) (as := [.int a4, .int a5]) (st := [ky_r G 3]) (KX2_readNumber d a4 a5 s6 _ _ h11) okX2_readNumber wl_X2_44 kc_3 (q := (RX2, TX2, 6)) rfl rfl rfl rfl (Nat.le_of_ble_eq_true rfl) dX2_readPair_34 rfl ?_
      refine ky_putf (q := (RX2, TX2, 6)) (n := 40) dX2_readPair_37 rfl kc_3 rfl (Nat.le_of_ble_eq_true rfl) wg_X2_55 rfl (by decide +kernel) rfl (fun s13 es13 => ?_)
      have hf := ky_bn_e hf s13 es13
      refine ky_aload_n (n := 41) dX2_readPair_40 rfl rfl 0 rfl ?_
      refine ky_getf (q := (RX2, TX2, 6)) (v := .int (s13.1 3 5)) (n := 44) dX2_readPair_41 rfl kc_3 rfl (Nat.le_of_ble_eq_true rfl) wg_X2_55 (vf_3_5 _ _) ?_
      refine ky_iconst (v := (-1 : Int32)) (n := 45) dX2_readPair_44 rfl rfl ?_
      refine ky_icmp_eq (n := 48) (tgt := 52) dX2_readPair_45 rfl rfl (fun c14 => ?_) (fun c14 => ?_)
      · have hf := ky_pos c14 hf
        refine ky_iconst (v := (0 : Int32)) (n := 53) dX2_readPair_52 rfl rfl ?_
        cases hf
        exact ky_zreturn dX2_readPair_53 rfl (Or.inl rfl)
      · have hf := ky_neg c14 hf
        refine ky_iconst (v := (1 : Int32)) (n := 49) dX2_readPair_48 rfl rfl ?_
        refine ky_goto (tgt := 53) dX2_readPair_49 rfl ?_
        cases hf
        exact ky_zreturn dX2_readPair_53 rfl (Or.inr rfl)
    · have hf := ky_pos c9 hf
      refine ky_iconst (v := (0 : Int32)) (n := 27) dX2_readPair_26 rfl rfl ?_
      cases hf
      exact ky_zreturn dX2_readPair_27 rfl (Or.inl rfl)
def fX2_readOrder (σ : ky_St) : Option (Int32 × ky_St) :=
  ky_bd (fX2_sign σ) fun v3 s1 =>
  ky_bn (ky_u1 s1 3 3 v3) fun s4 =>
  ky_bn (s4.1 3 3) fun v5 =>
  if v5 = (98 : Int32) then (
  ky_bn (ky_u1 s4 3 2 ((s4.1 3 2) + (1 : Int32))) fun s7 =>
  ky_bd (fX2_readNumber (0 : Int32) (23 : Int32) s7) fun v10 s8 =>
  ky_bn (ky_u1 s8 3 4 v10) fun s11 =>
  if (s11.1 3 4) = (-1 : Int32) then (
  some ((0 : Int32), s11)) else (
  some ((1 : Int32), s11))) else (
  if v5 = (100 : Int32) then (
  ky_bn (ky_u1 s4 3 2 ((s4.1 3 2) + (1 : Int32))) fun s14 =>
  ky_bd (fX2_readNumber (1 : Int32) (99 : Int32) s14) fun v17 s15 =>
  ky_bn (ky_u1 s15 3 4 v17) fun s18 =>
  if (s18.1 3 4) = (-1 : Int32) then (
  some ((0 : Int32), s18)) else (
  some ((1 : Int32), s18))) else (
  if v5 = (104 : Int32) then (
  ky_bn (ky_u1 s4 3 2 ((s4.1 3 2) + (1 : Int32))) fun s21 =>
  ky_bd (fX2_readPair (0 : Int32) (5 : Int32) (42 : Int32) (1 : Int32) (24 : Int32) s21) fun v24 s22 =>
  ky_g (v24 = 0 ∨ v24 = 1) (some (v24, s22))) else (
  if v5 = (109 : Int32) then (
  ky_bn (ky_u1 s4 3 2 ((s4.1 3 2) + (1 : Int32))) fun s26 =>
  ky_bd (fX2_readPair (0 : Int32) (23 : Int32) (62 : Int32) (0 : Int32) (5 : Int32) s26) fun v29 s27 =>
  ky_g (v29 = 0 ∨ v29 = 1) (some (v29, s27))) else (
  some ((0 : Int32), s4)))))
set_option maxHeartbeats 4000000 in
set_option maxRecDepth 100000 in
theorem KX2_readOrder {G : ky_G} (d : Nat) (σ : ky_St) (r : Int32) (σ' : ky_St) (hf : fX2_readOrder σ = some (r, σ')) : ky_K G mX2_readOrder (d + 4) 0 0 [ky_r G 3] σ (.inr (some (.int r))) σ' := by
  unfold fX2_readOrder at hf
  refine ky_enter rfl (by decide +kernel) (Nat.le_of_ble_eq_true rfl) (lv := [(0, ky_r G 3)]) rfl ?_
  refine ky_aload_n (n := 1) dX2_readOrder_0 rfl rfl 0 rfl ?_
  refine ky_aload_n (n := 2) dX2_readOrder_1 rfl rfl 0 rfl ?_
  obtain ⟨v3, s1, h2, hf⟩ := ky_bd_e hf
  refine ky_callV (kc := 0) (ks := 0) (kc2 := 0) (ks2 := 0) (k0 := 3) (as := []) (st := [ky_r G 3]) (KX2_sign (d + 2) σ _ _ h2) okX2_sign wl_X2_30 kc_3 (q := (RX2, TX2, 6)) rfl rfl rfl rfl (Nat.le_of_ble_eq_true rfl) dX2_readOrder_2 rfl ?_
  refine ky_putf (q := (RX2, TX2, 6)) (n := 8) dX2_readOrder_5 rfl kc_3 rfl (Nat.le_of_ble_eq_true rfl) wg_X2_37 rfl (by decide +kernel) rfl (fun s4 es4 => ?_)
  have hf := ky_bn_e hf s4 es4
  refine ky_aload_n (n := 9) dX2_readOrder_8 rfl rfl 0 rfl ?_
  refine ky_getf (q := (RX2, TX2, 6)) (v := .int (s4.1 3 3)) (n := 12) dX2_readOrder_9 rfl kc_3 rfl (Nat.le_of_ble_eq_true rfl) wg_X2_37 (vf_3_3 _ _) ?_
  refine ky_topi (fun v5 ev5 => ?_)
  have hf := ky_bn_e hf v5 ev5
  by_cases c6 : v5 = (98 : Int32)
  · have hf := ky_pos c6 hf
    refine ky_lsw (off := 88) (tgt := 100) dX2_readOrder_12 (by decide) (by rw [c6]; rfl) rfl ?_
    refine ky_aload_n (n := 101) dX2_readOrder_100 rfl rfl 0 rfl ?_
    refine ky_dup (n := 102) dX2_readOrder_101 rfl rfl ?_
    refine ky_getf (q := (RX2, TX2, 6)) (v := .int (s4.1 3 2)) (n := 105) dX2_readOrder_102 rfl kc_3 rfl (Nat.le_of_ble_eq_true rfl) wg_X2_23 (vf_3_2 _ _) ?_
    refine ky_iconst (v := (1 : Int32)) (n := 106) dX2_readOrder_105 rfl rfl ?_
    refine ky_iadd (n := 107) dX2_readOrder_106 rfl ?_
    refine ky_putf (q := (RX2, TX2, 6)) (n := 110) dX2_readOrder_107 rfl kc_3 rfl (Nat.le_of_ble_eq_true rfl) wg_X2_23 rfl (by decide +kernel) rfl (fun s7 es7 => ?_)
    have hf := ky_bn_e hf s7 es7
    refine ky_aload_n (n := 111) dX2_readOrder_110 rfl rfl 0 rfl ?_
    refine ky_aload_n (n := 112) dX2_readOrder_111 rfl rfl 0 rfl ?_
    refine ky_iconst (v := (0 : Int32)) (n := 113) dX2_readOrder_112 rfl rfl ?_
    refine ky_bipush (v := (23 : Int32)) (n := 115) dX2_readOrder_113 rfl rfl ?_
    obtain ⟨v10, s8, h9, hf⟩ := ky_bd_e hf
    refine ky_callV (kc := 0) (ks := 0) (kc2 := 0) (ks2 := 0) (k0 := 3) (as := [.int (0 : Int32), .int (23 : Int32)]) (st := [ky_r G 3]) (KX2_readNumber (d + 1) (0 : Int32) (23 : Int32) s7 _ _ h9) okX2_readNumber wl_X2_44 kc_3 (q := (RX2, TX2, 6)) rfl rfl rfl rfl (Nat.le_of_ble_eq_true rfl) dX2_readOrder_115 rfl ?_
    refine ky_putf (q := (RX2, TX2, 6)) (n := 121) dX2_readOrder_118 rfl kc_3 rfl (Nat.le_of_ble_eq_true rfl) wg_X2_48 rfl (by decide +kernel) rfl (fun s11 es11 => ?_)
    have hf := ky_bn_e hf s11 es11
    refine ky_aload_n (n := 122) dX2_readOrder_121 rfl rfl 0 rfl ?_
    refine ky_getf (q := (RX2, TX2, 6)) (v := .int (s11.1 3 4)) (n := 125) dX2_readOrder_122 rfl kc_3 rfl (Nat.le_of_ble_eq_true rfl) wg_X2_48 (vf_3_4 _ _) ?_
    refine ky_iconst (v := (-1 : Int32)) (n := 126) dX2_readOrder_125 rfl rfl ?_
    refine ky_icmp_eq (n := 129) (tgt := 133) dX2_readOrder_126 rfl rfl (fun c12 => ?_) (fun c12 => ?_)
    · have hf := ky_pos c12 hf
      refine ky_iconst (v := (0 : Int32)) (n := 134) dX2_readOrder_133 rfl rfl ?_
      cases hf
      exact ky_zreturn dX2_readOrder_134 rfl (Or.inl rfl)
    · have hf := ky_neg c12 hf
      refine ky_iconst (v := (1 : Int32)) (n := 130) dX2_readOrder_129 rfl rfl ?_
      refine ky_goto (tgt := 134) dX2_readOrder_130 rfl ?_
      cases hf
      exact ky_zreturn dX2_readOrder_134 rfl (Or.inr rfl)
  have hf := ky_neg c6 hf
  by_cases c13 : v5 = (100 : Int32)
  · have hf := ky_pos c13 hf
    refine ky_lsw (off := 123) (tgt := 135) dX2_readOrder_12 (by decide) (by rw [c13]; rfl) rfl ?_
    refine ky_aload_n (n := 136) dX2_readOrder_135 rfl rfl 0 rfl ?_
    refine ky_dup (n := 137) dX2_readOrder_136 rfl rfl ?_
    refine ky_getf (q := (RX2, TX2, 6)) (v := .int (s4.1 3 2)) (n := 140) dX2_readOrder_137 rfl kc_3 rfl (Nat.le_of_ble_eq_true rfl) wg_X2_23 (vf_3_2 _ _) ?_
    refine ky_iconst (v := (1 : Int32)) (n := 141) dX2_readOrder_140 rfl rfl ?_
    refine ky_iadd (n := 142) dX2_readOrder_141 rfl ?_
    refine ky_putf (q := (RX2, TX2, 6)) (n := 145) dX2_readOrder_142 rfl kc_3 rfl (Nat.le_of_ble_eq_true rfl) wg_X2_23 rfl (by decide +kernel) rfl (fun s14 es14 => ?_)
    have hf := ky_bn_e hf s14 es14
    refine ky_aload_n (n := 146) dX2_readOrder_145 rfl rfl 0 rfl ?_
    refine ky_aload_n (n := 147) dX2_readOrder_146 rfl rfl 0 rfl ?_
    refine ky_iconst (v := (1 : Int32)) (n := 148) dX2_readOrder_147 rfl rfl ?_
    refine ky_bipush (v := (99 : Int32)) (n := 150) dX2_readOrder_148 rfl rfl ?_
    obtain ⟨v17, s15, h16, hf⟩ := ky_bd_e hf
    refine ky_callV (kc := 0) (ks := 0) (kc2 := 0) (ks2 := 0) (k0 := 3) (as := [.int (1 : Int32), .int (99 : Int32)]) (st := [ky_r G 3]) (KX2_readNumber (d + 1) (1 : Int32) (99 : Int32) s14 _ _ h16) okX2_readNumber wl_X2_44 kc_3 (q := (RX2, TX2, 6)) rfl rfl rfl rfl (Nat.le_of_ble_eq_true rfl) dX2_readOrder_150 rfl ?_
    refine ky_putf (q := (RX2, TX2, 6)) (n := 156) dX2_readOrder_153 rfl kc_3 rfl (Nat.le_of_ble_eq_true rfl) wg_X2_48 rfl (by decide +kernel) rfl (fun s18 es18 => ?_)
    have hf := ky_bn_e hf s18 es18
    refine ky_aload_n (n := 157) dX2_readOrder_156 rfl rfl 0 rfl ?_
    refine ky_getf (q := (RX2, TX2, 6)) (v := .int (s18.1 3 4)) (n := 160) dX2_readOrder_157 rfl kc_3 rfl (Nat.le_of_ble_eq_true rfl) wg_X2_48 (vf_3_4 _ _) ?_
    refine ky_iconst (v := (-1 : Int32)) (n := 161) dX2_readOrder_160 rfl rfl ?_
    refine ky_icmp_eq (n := 164) (tgt := 168) dX2_readOrder_161 rfl rfl (fun c19 => ?_) (fun c19 => ?_)
    · have hf := ky_pos c19 hf
      refine ky_iconst (v := (0 : Int32)) (n := 169) dX2_readOrder_168 rfl rfl ?_
      cases hf
      exact ky_zreturn dX2_readOrder_169 rfl (Or.inl rfl)
    · have hf := ky_neg c19 hf
      refine ky_iconst (v := (1 : Int32)) (n := 165) dX2_readOrder_164 rfl rfl ?_
      refine ky_goto (tgt := 169) dX2_readOrder_165 rfl ?_
      cases hf
      exact ky_zreturn dX2_readOrder_169 rfl (Or.inr rfl)
  have hf := ky_neg c13 hf
  by_cases c20 : v5 = (104 : Int32)
  · have hf := ky_pos c20 hf
    refine ky_lsw (off := 44) (tgt := 56) dX2_readOrder_12 (by decide) (by rw [c20]; rfl) rfl ?_
    refine ky_aload_n (n := 57) dX2_readOrder_56 rfl rfl 0 rfl ?_
    refine ky_dup (n := 58) dX2_readOrder_57 rfl rfl ?_
    refine ky_getf (q := (RX2, TX2, 6)) (v := .int (s4.1 3 2)) (n := 61) dX2_readOrder_58 rfl kc_3 rfl (Nat.le_of_ble_eq_true rfl) wg_X2_23 (vf_3_2 _ _) ?_
    refine ky_iconst (v := (1 : Int32)) (n := 62) dX2_readOrder_61 rfl rfl ?_
    refine ky_iadd (n := 63) dX2_readOrder_62 rfl ?_
    refine ky_putf (q := (RX2, TX2, 6)) (n := 66) dX2_readOrder_63 rfl kc_3 rfl (Nat.le_of_ble_eq_true rfl) wg_X2_23 rfl (by decide +kernel) rfl (fun s21 es21 => ?_)
    have hf := ky_bn_e hf s21 es21
    refine ky_aload_n (n := 67) dX2_readOrder_66 rfl rfl 0 rfl ?_
    refine ky_iconst (v := (0 : Int32)) (n := 68) dX2_readOrder_67 rfl rfl ?_
    refine ky_iconst (v := (5 : Int32)) (n := 69) dX2_readOrder_68 rfl rfl ?_
    refine ky_bipush (v := (42 : Int32)) (n := 71) dX2_readOrder_69 rfl rfl ?_
    refine ky_iconst (v := (1 : Int32)) (n := 72) dX2_readOrder_71 rfl rfl ?_
    refine ky_bipush (v := (24 : Int32)) (n := 74) dX2_readOrder_72 rfl rfl ?_
    obtain ⟨v24, s22, h23, hf⟩ := ky_bd_e hf
    refine ky_callV (kc := 0) (ks := 0) (kc2 := 0) (ks2 := 0) (k0 := 3) (as := [.int (0 : Int32), .int (5 : Int32), .int (42 : Int32), .int (1 : Int32), .int (24 : Int32)]) (st := []) (KX2_readPair d (0 : Int32) (5 : Int32) (42 : Int32) (1 : Int32) (24 : Int32) s21 _ _ h23) okX2_readPair wl_X2_40 kc_3 (q := (RX2, TX2, 6)) rfl rfl rfl rfl (Nat.le_of_ble_eq_true rfl) dX2_readOrder_74 rfl ?_
    obtain ⟨gz, hf⟩ := ky_ge hf
    cases hf
    exact ky_zreturn dX2_readOrder_77 rfl gz
  have hf := ky_neg c20 hf
  by_cases c25 : v5 = (109 : Int32)
  · have hf := ky_pos c25 hf
    refine ky_lsw (off := 66) (tgt := 78) dX2_readOrder_12 (by decide) (by rw [c25]; rfl) rfl ?_
    refine ky_aload_n (n := 79) dX2_readOrder_78 rfl rfl 0 rfl ?_
    refine ky_dup (n := 80) dX2_readOrder_79 rfl rfl ?_
    refine ky_getf (q := (RX2, TX2, 6)) (v := .int (s4.1 3 2)) (n := 83) dX2_readOrder_80 rfl kc_3 rfl (Nat.le_of_ble_eq_true rfl) wg_X2_23 (vf_3_2 _ _) ?_
    refine ky_iconst (v := (1 : Int32)) (n := 84) dX2_readOrder_83 rfl rfl ?_
    refine ky_iadd (n := 85) dX2_readOrder_84 rfl ?_
    refine ky_putf (q := (RX2, TX2, 6)) (n := 88) dX2_readOrder_85 rfl kc_3 rfl (Nat.le_of_ble_eq_true rfl) wg_X2_23 rfl (by decide +kernel) rfl (fun s26 es26 => ?_)
    have hf := ky_bn_e hf s26 es26
    refine ky_aload_n (n := 89) dX2_readOrder_88 rfl rfl 0 rfl ?_
    refine ky_iconst (v := (0 : Int32)) (n := 90) dX2_readOrder_89 rfl rfl ?_
    refine ky_bipush (v := (23 : Int32)) (n := 92) dX2_readOrder_90 rfl rfl ?_
    refine ky_bipush (v := (62 : Int32)) (n := 94) dX2_readOrder_92 rfl rfl ?_
    refine ky_iconst (v := (0 : Int32)) (n := 95) dX2_readOrder_94 rfl rfl ?_
    refine ky_iconst (v := (5 : Int32)) (n := 96) dX2_readOrder_95 rfl rfl ?_
    obtain ⟨v29, s27, h28, hf⟩ := ky_bd_e hf
    refine ky_callV (kc := 0) (ks := 0) (kc2 := 0) (ks2 := 0) (k0 := 3) (as := [.int (0 : Int32), .int (23 : Int32), .int (62 : Int32), .int (0 : Int32), .int (5 : Int32)]) (st := []) (KX2_readPair d (0 : Int32) (23 : Int32) (62 : Int32) (0 : Int32) (5 : Int32) s26 _ _ h28) okX2_readPair wl_X2_40 kc_3 (q := (RX2, TX2, 6)) rfl rfl rfl rfl (Nat.le_of_ble_eq_true rfl) dX2_readOrder_96 rfl ?_
    obtain ⟨gz, hf⟩ := ky_ge hf
    cases hf
    exact ky_zreturn dX2_readOrder_99 rfl gz
  have hf := ky_neg c25 hf
  refine ky_lsw (off := 158) (tgt := 170) dX2_readOrder_12 (by decide) (by show Op.lookupswitch.offset [(98, 88), (100, 123), (104, 44), (109, 66)] 158 v5.toInt = 158; rw [lv_osw (a := 98) c6 rfl, lv_osw (a := 100) c13 rfl, lv_osw (a := 104) c20 rfl, lv_osw (a := 109) c25 rfl]; rfl) rfl ?_
  refine ky_iconst (v := (0 : Int32)) (n := 171) dX2_readOrder_170 rfl rfl ?_
  cases hf
  exact ky_zreturn dX2_readOrder_171 rfl (Or.inl rfl)
def fX2_firstFault_L6 : Nat → Int32 → ky_St → Option (Int32 × ky_St)
  | 0, _, _ => none
  | fu + 1, x1, σ =>
  if (60 : Int32) ≤ x1 then (
  some ((σ.1 3 2), σ)) else (
  ky_bd (fX2_readOrder σ) fun v7 s5 =>
  if v7 = 0 then (
  some ((s5.1 3 2), s5)) else (
  ky_bd (fX2_readSign (59 : Int32) s5) fun v11 s9 =>
  if v11 = 0 then (
  some ((s9.1 3 2), s9)) else (
  ky_bn (x1 + (1 : Int32)) fun v13 =>
  fX2_firstFault_L6 fu v13 s9)))
set_option maxHeartbeats 4000000 in
set_option maxRecDepth 100000 in
theorem tX2_firstFault_L6 {G : ky_G} (d : Nat) : ∀ (fu : Nat) (x1 : Int32) (σ : ky_St) (r : Int32) (σ' : ky_St), fX2_firstFault_L6 fu x1 σ = some (r, σ') → ky_T G mX2_firstFault (d + 5) 0 0 6 [(0, ky_r G 3), (1, .int x1)] [] σ (.inr (some (.int r))) σ' := by
  intro fu
  induction fu with
  | zero =>
    intro x1 σ r σ' hf
    rw [fX2_firstFault_L6] at hf
    cases hf
  | succ fu ih =>
    intro x1 σ r σ' hf
    rw [fX2_firstFault_L6] at hf
    refine ky_iload_n (n := 7) dX2_firstFault_6 rfl rfl 1 rfl ?_
    refine ky_bipush (v := (60 : Int32)) (n := 9) dX2_firstFault_7 rfl rfl ?_
    refine ky_icmp_ge (n := 12) (tgt := 39) dX2_firstFault_9 rfl rfl (fun c4 => ?_) (fun c4 => ?_)
    · have hf := ky_pos c4 hf
      refine ky_aload_n (n := 40) dX2_firstFault_39 rfl rfl 0 rfl ?_
      refine ky_getf (q := (RX2, TX2, 6)) (v := .int (σ.1 3 2)) (n := 43) dX2_firstFault_40 rfl kc_3 rfl (Nat.le_of_ble_eq_true rfl) wg_X2_23 (vf_3_2 _ _) ?_
      cases hf
      exact ky_ireturn dX2_firstFault_43 rfl
    · have hf := ky_neg c4 hf
      refine ky_aload_n (n := 13) dX2_firstFault_12 rfl rfl 0 rfl ?_
      obtain ⟨v7, s5, h6, hf⟩ := ky_bd_e hf
      refine ky_callV (kc := 0) (ks := 0) (kc2 := 0) (ks2 := 0) (k0 := 3) (as := []) (st := []) (KX2_readOrder d σ _ _ h6) okX2_readOrder wl_X2_61 kc_3 (q := (RX2, TX2, 6)) rfl rfl rfl rfl (Nat.le_of_ble_eq_true rfl) dX2_firstFault_13 rfl ?_
      refine ky_if_eq (n := 19) (tgt := 28) dX2_firstFault_16 rfl rfl (fun c8 => ?_) (fun c8 => ?_)
      · have hf := ky_pos c8 hf
        refine ky_aload_n (n := 29) dX2_firstFault_28 rfl rfl 0 rfl ?_
        refine ky_getf (q := (RX2, TX2, 6)) (v := .int (s5.1 3 2)) (n := 32) dX2_firstFault_29 rfl kc_3 rfl (Nat.le_of_ble_eq_true rfl) wg_X2_23 (vf_3_2 _ _) ?_
        cases hf
        exact ky_ireturn dX2_firstFault_32 rfl
      · have hf := ky_neg c8 hf
        refine ky_aload_n (n := 20) dX2_firstFault_19 rfl rfl 0 rfl ?_
        refine ky_bipush (v := (59 : Int32)) (n := 22) dX2_firstFault_20 rfl rfl ?_
        obtain ⟨v11, s9, h10, hf⟩ := ky_bd_e hf
        refine ky_callV (kc := 0) (ks := 0) (kc2 := 0) (ks2 := 0) (k0 := 3) (as := [.int (59 : Int32)]) (st := []) (KX2_readSign (d + 2) (59 : Int32) s5 _ _ h10) okX2_readSign wl_X2_51 kc_3 (q := (RX2, TX2, 6)) rfl rfl rfl rfl (Nat.le_of_ble_eq_true rfl) dX2_firstFault_22 rfl ?_
        refine ky_if_ne (n := 28) (tgt := 33) dX2_firstFault_25 rfl rfl (fun c12 => ?_) (fun c12 => ?_)
        · have hf := ky_neg c12 hf
          refine ky_iincB (c := (1 : Int32)) (n := 36) dX2_firstFault_33 rfl 1 rfl rfl (Nat.le_of_ble_eq_true rfl) (fun v13 ev13 => ?_)
          have hf := ky_bn_e hf v13 ev13
          refine ky_lv (lv' := [(1, .int v13), (0, ky_r G 3)]) rfl ?_
          refine ky_goto (tgt := 6) dX2_firstFault_36 rfl ?_
          refine ky_sub [1, 0] (lv' := [(0, ky_r G 3), (1, .int v13)]) rfl ?_
          exact ih v13 s9 _ _ hf
        · have hf := ky_pos c12 hf
          refine ky_aload_n (n := 29) dX2_firstFault_28 rfl rfl 0 rfl ?_
          refine ky_getf (q := (RX2, TX2, 6)) (v := .int (s9.1 3 2)) (n := 32) dX2_firstFault_29 rfl kc_3 rfl (Nat.le_of_ble_eq_true rfl) wg_X2_23 (vf_3_2 _ _) ?_
          cases hf
          exact ky_ireturn dX2_firstFault_32 rfl
def fX2_firstFault (σ : ky_St) : Option (Int32 × ky_St) :=
  ky_bd (fX2_rewind σ) fun v3 s1 =>
  fX2_firstFault_L6 FU (0 : Int32) s1
set_option maxHeartbeats 4000000 in
set_option maxRecDepth 100000 in
theorem KX2_firstFault {G : ky_G} (d : Nat) (σ : ky_St) (r : Int32) (σ' : ky_St) (hf : fX2_firstFault σ = some (r, σ')) : ky_K G mX2_firstFault (d + 5) 0 0 [ky_r G 3] σ (.inr (some (.int r))) σ' := by
  unfold fX2_firstFault at hf
  refine ky_enter rfl (by decide +kernel) (Nat.le_of_ble_eq_true rfl) (lv := [(0, ky_r G 3)]) rfl ?_
  refine ky_aload_n (n := 1) dX2_firstFault_0 rfl rfl 0 rfl ?_
  obtain ⟨v3, s1, h2, hf⟩ := ky_bd_e hf
  refine ky_callV (kc := 0) (ks := 0) (kc2 := 0) (ks2 := 0) (k0 := 3) (as := []) (st := []) (KX2_rewind (d + 4) σ _ _ h2) okX2_rewind wl_X2_58 kc_3 (q := (RX2, TX2, 6)) rfl rfl rfl rfl (Nat.le_of_ble_eq_true rfl) dX2_firstFault_1 rfl ?_
  refine ky_iconst (v := (0 : Int32)) (n := 5) dX2_firstFault_4 rfl rfl ?_
  refine ky_istore_n (lv' := [(1, .int (0 : Int32)), (0, ky_r G 3)]) (n := 6) dX2_firstFault_5 rfl rfl (Nat.le_of_ble_eq_true rfl) rfl ?_
  refine ky_sub [1, 0] (lv' := [(0, ky_r G 3), (1, .int (0 : Int32))]) rfl ?_
  exact tX2_firstFault_L6 d FU (0 : Int32) s1 _ _ hf
def fX2_isRowOfOrders_L6 : Nat → Int32 → ky_St → Option (Int32 × ky_St)
  | 0, _, _ => none
  | fu + 1, x1, σ =>
  if (60 : Int32) ≤ x1 then (
  some ((0 : Int32), σ)) else (
  ky_bd (fX2_readOrder σ) fun v7 s5 =>
  if v7 = 0 then (
  some ((0 : Int32), s5)) else (
  ky_bd (fX2_readSign (59 : Int32) s5) fun v11 s9 =>
  if v11 = 0 then (
  if (s9.1 3 2) < (s9.1 3 1) then (
  some ((0 : Int32), s9)) else (
  some ((1 : Int32), s9))) else (
  ky_bn (x1 + (1 : Int32)) fun v13 =>
  fX2_isRowOfOrders_L6 fu v13 s9)))
set_option maxHeartbeats 4000000 in
set_option maxRecDepth 100000 in
theorem tX2_isRowOfOrders_L6 {G : ky_G} (d : Nat) : ∀ (fu : Nat) (x1 : Int32) (σ : ky_St) (r : Int32) (σ' : ky_St), fX2_isRowOfOrders_L6 fu x1 σ = some (r, σ') → ky_T G mX2_isRowOfOrders (d + 5) 0 0 6 [(0, ky_r G 3), (1, .int x1)] [] σ (.inr (some (.int r))) σ' := by
  intro fu
  induction fu with
  | zero =>
    intro x1 σ r σ' hf
    rw [fX2_isRowOfOrders_L6] at hf
    cases hf
  | succ fu ih =>
    intro x1 σ r σ' hf
    rw [fX2_isRowOfOrders_L6] at hf
    refine ky_iload_n (n := 7) dX2_isRowOfOrders_6 rfl rfl 1 rfl ?_
    refine ky_bipush (v := (60 : Int32)) (n := 9) dX2_isRowOfOrders_7 rfl rfl ?_
    refine ky_icmp_ge (n := 12) (tgt := 53) dX2_isRowOfOrders_9 rfl rfl (fun c4 => ?_) (fun c4 => ?_)
    · have hf := ky_pos c4 hf
      refine ky_iconst (v := (0 : Int32)) (n := 54) dX2_isRowOfOrders_53 rfl rfl ?_
      cases hf
      exact ky_zreturn dX2_isRowOfOrders_54 rfl (Or.inl rfl)
    · have hf := ky_neg c4 hf
      refine ky_aload_n (n := 13) dX2_isRowOfOrders_12 rfl rfl 0 rfl ?_
      obtain ⟨v7, s5, h6, hf⟩ := ky_bd_e hf
      refine ky_callV (kc := 0) (ks := 0) (kc2 := 0) (ks2 := 0) (k0 := 3) (as := []) (st := []) (KX2_readOrder d σ _ _ h6) okX2_readOrder wl_X2_61 kc_3 (q := (RX2, TX2, 6)) rfl rfl rfl rfl (Nat.le_of_ble_eq_true rfl) dX2_isRowOfOrders_13 rfl ?_
      refine ky_if_ne (n := 19) (tgt := 21) dX2_isRowOfOrders_16 rfl rfl (fun c8 => ?_) (fun c8 => ?_)
      · have hf := ky_neg c8 hf
        refine ky_aload_n (n := 22) dX2_isRowOfOrders_21 rfl rfl 0 rfl ?_
        refine ky_bipush (v := (59 : Int32)) (n := 24) dX2_isRowOfOrders_22 rfl rfl ?_
        obtain ⟨v11, s9, h10, hf⟩ := ky_bd_e hf
        refine ky_callV (kc := 0) (ks := 0) (kc2 := 0) (ks2 := 0) (k0 := 3) (as := [.int (59 : Int32)]) (st := []) (KX2_readSign (d + 2) (59 : Int32) s5 _ _ h10) okX2_readSign wl_X2_51 kc_3 (q := (RX2, TX2, 6)) rfl rfl rfl rfl (Nat.le_of_ble_eq_true rfl) dX2_isRowOfOrders_24 rfl ?_
        refine ky_if_ne (n := 30) (tgt := 47) dX2_isRowOfOrders_27 rfl rfl (fun c12 => ?_) (fun c12 => ?_)
        · have hf := ky_neg c12 hf
          refine ky_iincB (c := (1 : Int32)) (n := 50) dX2_isRowOfOrders_47 rfl 1 rfl rfl (Nat.le_of_ble_eq_true rfl) (fun v13 ev13 => ?_)
          have hf := ky_bn_e hf v13 ev13
          refine ky_lv (lv' := [(1, .int v13), (0, ky_r G 3)]) rfl ?_
          refine ky_goto (tgt := 6) dX2_isRowOfOrders_50 rfl ?_
          refine ky_sub [1, 0] (lv' := [(0, ky_r G 3), (1, .int v13)]) rfl ?_
          exact ih v13 s9 _ _ hf
        · have hf := ky_pos c12 hf
          refine ky_aload_n (n := 31) dX2_isRowOfOrders_30 rfl rfl 0 rfl ?_
          refine ky_getf (q := (RX2, TX2, 6)) (v := .int (s9.1 3 2)) (n := 34) dX2_isRowOfOrders_31 rfl kc_3 rfl (Nat.le_of_ble_eq_true rfl) wg_X2_23 (vf_3_2 _ _) ?_
          refine ky_aload_n (n := 35) dX2_isRowOfOrders_34 rfl rfl 0 rfl ?_
          refine ky_getf (q := (RX2, TX2, 6)) (v := .int (s9.1 3 1)) (n := 38) dX2_isRowOfOrders_35 rfl kc_3 rfl (Nat.le_of_ble_eq_true rfl) wg_X2_15 (vf_3_1 _ _) ?_
          refine ky_icmp_lt (n := 41) (tgt := 45) dX2_isRowOfOrders_38 rfl rfl (fun c14 => ?_) (fun c14 => ?_)
          · have hf := ky_pos c14 hf
            refine ky_iconst (v := (0 : Int32)) (n := 46) dX2_isRowOfOrders_45 rfl rfl ?_
            cases hf
            exact ky_zreturn dX2_isRowOfOrders_46 rfl (Or.inl rfl)
          · have hf := ky_neg c14 hf
            refine ky_iconst (v := (1 : Int32)) (n := 42) dX2_isRowOfOrders_41 rfl rfl ?_
            refine ky_goto (tgt := 46) dX2_isRowOfOrders_42 rfl ?_
            cases hf
            exact ky_zreturn dX2_isRowOfOrders_46 rfl (Or.inr rfl)
      · have hf := ky_pos c8 hf
        refine ky_iconst (v := (0 : Int32)) (n := 20) dX2_isRowOfOrders_19 rfl rfl ?_
        cases hf
        exact ky_zreturn dX2_isRowOfOrders_20 rfl (Or.inl rfl)
def fX2_isRowOfOrders (σ : ky_St) : Option (Int32 × ky_St) :=
  ky_bd (fX2_rewind σ) fun v3 s1 =>
  fX2_isRowOfOrders_L6 FU (0 : Int32) s1
set_option maxHeartbeats 4000000 in
set_option maxRecDepth 100000 in
theorem KX2_isRowOfOrders {G : ky_G} (d : Nat) (σ : ky_St) (r : Int32) (σ' : ky_St) (hf : fX2_isRowOfOrders σ = some (r, σ')) : ky_K G mX2_isRowOfOrders (d + 5) 0 0 [ky_r G 3] σ (.inr (some (.int r))) σ' := by
  unfold fX2_isRowOfOrders at hf
  refine ky_enter rfl (by decide +kernel) (Nat.le_of_ble_eq_true rfl) (lv := [(0, ky_r G 3)]) rfl ?_
  refine ky_aload_n (n := 1) dX2_isRowOfOrders_0 rfl rfl 0 rfl ?_
  obtain ⟨v3, s1, h2, hf⟩ := ky_bd_e hf
  refine ky_callV (kc := 0) (ks := 0) (kc2 := 0) (ks2 := 0) (k0 := 3) (as := []) (st := []) (KX2_rewind (d + 4) σ _ _ h2) okX2_rewind wl_X2_58 kc_3 (q := (RX2, TX2, 6)) rfl rfl rfl rfl (Nat.le_of_ble_eq_true rfl) dX2_isRowOfOrders_1 rfl ?_
  refine ky_iconst (v := (0 : Int32)) (n := 5) dX2_isRowOfOrders_4 rfl rfl ?_
  refine ky_istore_n (lv' := [(1, .int (0 : Int32)), (0, ky_r G 3)]) (n := 6) dX2_isRowOfOrders_5 rfl rfl (Nat.le_of_ble_eq_true rfl) rfl ?_
  refine ky_sub [1, 0] (lv' := [(0, ky_r G 3), (1, .int (0 : Int32))]) rfl ?_
  exact tX2_isRowOfOrders_L6 d FU (0 : Int32) s1 _ _ hf
