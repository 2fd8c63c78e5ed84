def fX4_append_L30 (x1 : Int32) (y1 : Int32) (σ : ky_St) : Option (Int32 × ky_St) :=
  ky_bn (ky_u1 σ 7 5 y1) fun s6 =>
  if (s6.1 7 5) ≤ 0 then (
  ky_g (¬ ((s6.1 7 3) < 0 ∨ 60 ≤ (s6.1 7 3).toNatClampNeg)) (
  ky_bn (ky_u1 s6 10 (s6.1 7 3).toNatClampNeg x1) fun s9 =>
  ky_bn (ky_u1 s9 7 3 ((s9.1 7 3) + (1 : Int32))) fun s10 =>
  some ((s10.1 7 3), s10))) else (
  some ((0 : Int32), s6))
set_option maxHeartbeats 4000000 in
set_option maxRecDepth 100000 in
theorem tX4_append_L30 {G : ky_G} (d : Nat) : ∀ (x1 : Int32) (y1 : Int32) (σ : ky_St) (r : Int32) (σ' : ky_St), fX4_append_L30 x1 y1 σ = some (r, σ') → ky_T G mX4_append (d + 1) 0 0 30 [(0, ky_r G 7), (1, .int x1)] [.int y1, ky_r G 7] σ (.inr (some (.int r))) σ' := by
  intro x1 y1 σ r σ' hf
  unfold fX4_append_L30 at hf
  refine ky_putf (q := (RX4, TX4, 12)) (n := 33) dX4_append_30 rfl kc_7 rfl (Nat.le_of_ble_eq_true rfl) wg_X4_25 rfl (by decide +kernel) rfl (fun s6 es6 => ?_)
  have hf := ky_bn_e hf s6 es6
  refine ky_aload_n (n := 34) dX4_append_33 rfl rfl 0 rfl ?_
  refine ky_getf (q := (RX4, TX4, 12)) (v := .int (s6.1 7 5)) (n := 37) dX4_append_34 rfl kc_7 rfl (Nat.le_of_ble_eq_true rfl) wg_X4_25 (vf_7_5 _ _) ?_
  refine ky_if_le (n := 40) (tgt := 42) dX4_append_37 rfl rfl (fun c7 => ?_) (fun c7 => ?_)
  · have hf := ky_pos c7 hf
    refine ky_aload_n (n := 43) dX4_append_42 rfl rfl 0 rfl ?_
    refine ky_getf (q := (RX4, TX4, 12)) (v := ky_r G 10) (n := 46) dX4_append_43 rfl kc_7 rfl (Nat.le_of_ble_eq_true rfl) wg_X4_16 (vf_7_4 _ _) ?_
    refine ky_aload_n (n := 47) dX4_append_46 rfl rfl 0 rfl ?_
    refine ky_getf (q := (RX4, TX4, 12)) (v := .int (s6.1 7 3)) (n := 50) dX4_append_47 rfl kc_7 rfl (Nat.le_of_ble_eq_true rfl) wg_X4_137 (vf_7_3 _ _) ?_
    refine ky_iload_n (n := 51) dX4_append_50 rfl rfl 1 rfl ?_
    obtain ⟨g8, hf⟩ := ky_ge hf
    refine ky_iast (n := 52) dX4_append_51 rfl kl_10 rfl g8 (fun s9 es9 => ?_)
    have hf := ky_bn_e hf s9 es9
    refine ky_aload_n (n := 53) dX4_append_52 rfl rfl 0 rfl ?_
    refine ky_dup (n := 54) dX4_append_53 rfl rfl ?_
    refine ky_getf (q := (RX4, TX4, 12)) (v := .int (s9.1 7 3)) (n := 57) dX4_append_54 rfl kc_7 rfl (Nat.le_of_ble_eq_true rfl) wg_X4_137 (vf_7_3 _ _) ?_
    refine ky_iconst (v := (1 : Int32)) (n := 58) dX4_append_57 rfl rfl ?_
    refine ky_iadd (n := 59) dX4_append_58 rfl ?_
    refine ky_putf (q := (RX4, TX4, 12)) (n := 62) dX4_append_59 rfl kc_7 rfl (Nat.le_of_ble_eq_true rfl) wg_X4_137 rfl (by decide +kernel) rfl (fun s10 es10 => ?_)
    have hf := ky_bn_e hf s10 es10
    refine ky_aload_n (n := 63) dX4_append_62 rfl rfl 0 rfl ?_
    refine ky_getf (q := (RX4, TX4, 12)) (v := .int (s10.1 7 3)) (n := 66) dX4_append_63 rfl kc_7 rfl (Nat.le_of_ble_eq_true rfl) wg_X4_137 (vf_7_3 _ _) ?_
    cases hf
    exact ky_ireturn dX4_append_66 rfl
  · have hf := ky_neg c7 hf
    refine ky_iconst (v := (0 : Int32)) (n := 41) dX4_append_40 rfl rfl ?_
    cases hf
    exact ky_ireturn dX4_append_41 rfl
def fX4_append (a1 : Int32) (σ : ky_St) : Option (Int32 × ky_St) :=
  ky_bd (fX4_within a1 (33 : Int32) (126 : Int32) σ) fun v3 s1 =>
  if v3 = 0 then (
  fX4_append_L30 a1 (1 : Int32) s1) else (
  if (s1.1 7 3) = (60 : Int32) then (
  fX4_append_L30 a1 (2 : Int32) s1) else (
  fX4_append_L30 a1 (0 : Int32) s1))
set_option maxHeartbeats 4000000 in
set_option maxRecDepth 100000 in
theorem KX4_append {G : ky_G} (d : Nat) (a1 : Int32) (σ : ky_St) (r : Int32) (σ' : ky_St) (hf : fX4_append a1 σ = some (r, σ')) : ky_K G mX4_append (d + 1) 0 0 [ky_r G 7, .int a1] σ (.inr (some (.int r))) σ' := by
  unfold fX4_append at hf
  refine ky_enter rfl (by decide +kernel) (Nat.le_of_ble_eq_true rfl) (lv := [(0, ky_r G 7), (1, .int a1)]) rfl ?_
  refine ky_aload_n (n := 1) dX4_append_0 rfl rfl 0 rfl ?_
  refine ky_iload_n (n := 2) dX4_append_1 rfl rfl 1 rfl ?_
  refine ky_bipush (v := (33 : Int32)) (n := 4) dX4_append_2 rfl rfl ?_
  refine ky_bipush (v := (126 : Int32)) (n := 6) dX4_append_4 rfl rfl ?_
  obtain ⟨v3, s1, h2, hf⟩ := ky_bd_e hf
  refine ky_callS (kc := 0) (ks := 0) (kc2 := 0) (ks2 := 0) (as := [.int a1, .int (33 : Int32), .int (126 : Int32)]) (st := [ky_r G 7]) (KX4_within d a1 (33 : Int32) (126 : Int32) σ _ _ h2) okX4_within wl_X4_32 rfl rfl (Nat.le_of_ble_eq_true rfl) dX4_append_6 rfl ?_
  refine ky_if_ne (n := 12) (tgt := 16) dX4_append_9 rfl rfl (fun c4 => ?_) (fun c4 => ?_)
  · have hf := ky_neg c4 hf
    refine ky_aload_n (n := 17) dX4_append_16 rfl rfl 0 rfl ?_
    refine ky_getf (q := (RX4, TX4, 12)) (v := .int (s1.1 7 3)) (n := 20) dX4_append_17 rfl kc_7 rfl (Nat.le_of_ble_eq_true rfl) wg_X4_137 (vf_7_3 _ _) ?_
    refine ky_bipush (v := (60 : Int32)) (n := 22) dX4_append_20 rfl rfl ?_
    refine ky_icmp_ne (n := 25) (tgt := 29) dX4_append_22 rfl rfl (fun c5 => ?_) (fun c5 => ?_)
    · have hf := ky_neg c5 hf
      refine ky_iconst (v := (0 : Int32)) (n := 30) dX4_append_29 rfl rfl ?_
      refine ky_sub [0, 1] (lv' := [(0, ky_r G 7), (1, .int a1)]) rfl ?_
      exact tX4_append_L30 d a1 (0 : Int32) s1 _ _ hf
    · have hf := ky_pos c5 hf
      refine ky_iconst (v := (2 : Int32)) (n := 26) dX4_append_25 rfl rfl ?_
      refine ky_goto (tgt := 30) dX4_append_26 rfl ?_
      refine ky_sub [0, 1] (lv' := [(0, ky_r G 7), (1, .int a1)]) rfl ?_
      exact tX4_append_L30 d a1 (2 : Int32) s1 _ _ hf
  · have hf := ky_pos c4 hf
    refine ky_iconst (v := (1 : Int32)) (n := 13) dX4_append_12 rfl rfl ?_
    refine ky_goto (tgt := 30) dX4_append_13 rfl ?_
    refine ky_sub [0, 1] (lv' := [(0, ky_r G 7), (1, .int a1)]) rfl ?_
    exact tX4_append_L30 d a1 (1 : Int32) s1 _ _ hf
def fX4_clearBuffer (σ : ky_St) : Option (Int32 × ky_St) :=
  ky_bn (ky_u1 σ 7 5 (0 : Int32)) fun s1 =>
  ky_bn (s1.1 7 3) fun v2 =>
  ky_bn (ky_u1 s1 7 3 (0 : Int32)) fun s3 =>
  some (v2, s3)
set_option maxHeartbeats 4000000 in
set_option maxRecDepth 100000 in
theorem KX4_clearBuffer {G : ky_G} (d : Nat) (σ : ky_St) (r : Int32) (σ' : ky_St) (hf : fX4_clearBuffer σ = some (r, σ')) : ky_K G mX4_clearBuffer d 0 0 [ky_r G 7] σ (.inr (some (.int r))) σ' := by
  unfold fX4_clearBuffer at hf
  refine ky_enter rfl (by decide +kernel) (Nat.le_of_ble_eq_true rfl) (lv := [(0, ky_r G 7)]) rfl ?_
  refine ky_aload_n (n := 1) dX4_clearBuffer_0 rfl rfl 0 rfl ?_
  refine ky_iconst (v := (0 : Int32)) (n := 2) dX4_clearBuffer_1 rfl rfl ?_
  refine ky_putf (q := (RX4, TX4, 12)) (n := 5) dX4_clearBuffer_2 rfl kc_7 rfl (Nat.le_of_ble_eq_true rfl) wg_X4_25 rfl (by decide +kernel) rfl (fun s1 es1 => ?_)
  have hf := ky_bn_e hf s1 es1
  refine ky_aload_n (n := 6) dX4_clearBuffer_5 rfl rfl 0 rfl ?_
  refine ky_getf (q := (RX4, TX4, 12)) (v := .int (s1.1 7 3)) (n := 9) dX4_clearBuffer_6 rfl kc_7 rfl (Nat.le_of_ble_eq_true rfl) wg_X4_137 (vf_7_3 _ _) ?_
  refine ky_topi (fun v2 ev2 => ?_)
  have hf := ky_bn_e hf v2 ev2
  refine ky_istore_n (lv' := [(1, .int v2), (0, ky_r G 7)]) (n := 10) dX4_clearBuffer_9 rfl rfl (Nat.le_of_ble_eq_true rfl) rfl ?_
  refine ky_aload_n (n := 11) dX4_clearBuffer_10 rfl rfl 1 rfl ?_
  refine ky_iconst (v := (0 : Int32)) (n := 12) dX4_clearBuffer_11 rfl rfl ?_
  refine ky_putf (q := (RX4, TX4, 12)) (n := 15) dX4_clearBuffer_12 rfl kc_7 rfl (Nat.le_of_ble_eq_true rfl) wg_X4_137 rfl (by decide +kernel) rfl (fun s3 es3 => ?_)
  have hf := ky_bn_e hf s3 es3
  refine ky_iload_n (n := 16) dX4_clearBuffer_15 rfl rfl 0 rfl ?_
  cases hf
  exact ky_ireturn dX4_clearBuffer_16 rfl
def fX4_begins_L29 (x1 : Int32) (y1 : Int32) (σ : ky_St) : Option (Int32 × ky_St) :=
  ky_bn (ky_u1 σ 7 9 y1) fun s5 =>
  if x1 = (104 : Int32) then (
  some ((1 : Int32), s5)) else (
  if x1 = (109 : Int32) then (
  some ((1 : Int32), s5)) else (
  if x1 = (98 : Int32) then (
  some ((1 : Int32), s5)) else (
  if x1 = (100 : Int32) then (
  some ((1 : Int32), s5)) else (
  some ((0 : Int32), s5)))))
set_option maxHeartbeats 4000000 in
set_option maxRecDepth 100000 in
theorem tX4_begins_L29 {G : ky_G} (d : Nat) : ∀ (x1 : Int32) (y1 : Int32) (σ : ky_St) (r : Int32) (σ' : ky_St), fX4_begins_L29 x1 y1 σ = some (r, σ') → ky_T G mX4_begins d 0 0 29 [(1, .int x1)] [.int y1, ky_r G 7] σ (.inr (some (.int r))) σ' := by
  intro x1 y1 σ r σ' hf
  unfold fX4_begins_L29 at hf
  refine ky_putf (q := (RX4, TX4, 12)) (n := 32) dX4_begins_29 rfl kc_7 rfl (Nat.le_of_ble_eq_true rfl) wg_X4_146 rfl (by decide +kernel) rfl (fun s5 es5 => ?_)
  have hf := ky_bn_e hf s5 es5
  refine ky_iload_n (n := 33) dX4_begins_32 rfl rfl 0 rfl ?_
  refine ky_bipush (v := (104 : Int32)) (n := 35) dX4_begins_33 rfl rfl ?_
  refine ky_icmp_eq (n := 38) (tgt := 56) dX4_begins_35 rfl rfl (fun c6 => ?_) (fun c6 => ?_)
  · have hf := ky_pos c6 hf
    refine ky_iconst (v := (1 : Int32)) (n := 57) dX4_begins_56 rfl rfl ?_
    refine ky_goto (tgt := 61) dX4_begins_57 rfl ?_
    cases hf
    exact ky_zreturn dX4_begins_61 rfl (Or.inr rfl)
  · have hf := ky_neg c6 hf
    refine ky_iload_n (n := 39) dX4_begins_38 rfl rfl 0 rfl ?_
    refine ky_bipush (v := (109 : Int32)) (n := 41) dX4_begins_39 rfl rfl ?_
    refine ky_icmp_eq (n := 44) (tgt := 56) dX4_begins_41 rfl rfl (fun c7 => ?_) (fun c7 => ?_)
    · have hf := ky_pos c7 hf
      refine ky_iconst (v := (1 : Int32)) (n := 57) dX4_begins_56 rfl rfl ?_
      refine ky_goto (tgt := 61) dX4_begins_57 rfl ?_
      cases hf
      exact ky_zreturn dX4_begins_61 rfl (Or.inr rfl)
    · have hf := ky_neg c7 hf
      refine ky_iload_n (n := 45) dX4_begins_44 rfl rfl 0 rfl ?_
      refine ky_bipush (v := (98 : Int32)) (n := 47) dX4_begins_45 rfl rfl ?_
      refine ky_icmp_eq (n := 50) (tgt := 56) dX4_begins_47 rfl rfl (fun c8 => ?_) (fun c8 => ?_)
      · have hf := ky_pos c8 hf
        refine ky_iconst (v := (1 : Int32)) (n := 57) dX4_begins_56 rfl rfl ?_
        refine ky_goto (tgt := 61) dX4_begins_57 rfl ?_
        cases hf
        exact ky_zreturn dX4_begins_61 rfl (Or.inr rfl)
      · have hf := ky_neg c8 hf
        refine ky_iload_n (n := 51) dX4_begins_50 rfl rfl 0 rfl ?_
        refine ky_bipush (v := (100 : Int32)) (n := 53) dX4_begins_51 rfl rfl ?_
        refine ky_icmp_ne (n := 56) (tgt := 60) dX4_begins_53 rfl rfl (fun c9 => ?_) (fun c9 => ?_)
        · have hf := ky_neg c9 hf
          refine ky_iconst (v := (0 : Int32)) (n := 61) dX4_begins_60 rfl rfl ?_
          cases hf
          exact ky_zreturn dX4_begins_61 rfl (Or.inl rfl)
        · have hf := ky_pos c9 hf
          refine ky_iconst (v := (1 : Int32)) (n := 57) dX4_begins_56 rfl rfl ?_
          refine ky_goto (tgt := 61) dX4_begins_57 rfl ?_
          cases hf
          exact ky_zreturn dX4_begins_61 rfl (Or.inr rfl)
def fX4_begins (a1 : Int32) (σ : ky_St) : Option (Int32 × ky_St) :=
  ky_g (¬ (((3 : Int32) * (σ.1 7 7)) < 0 ∨ 66 ≤ ((3 : Int32) * (σ.1 7 7)).toNatClampNeg)) (
  ky_bn (ky_u1 σ 11 ((3 : Int32) * (σ.1 7 7)).toNatClampNeg a1) fun s2 =>
  ky_bn (ky_u1 s2 7 8 (-1 : Int32)) fun s3 =>
  if a1 = (104 : Int32) then (
  fX4_begins_L29 a1 (1 : Int32) s3) else (
  fX4_begins_L29 a1 (3 : Int32) s3))
set_option maxHeartbeats 4000000 in
set_option maxRecDepth 100000 in
theorem KX4_begins {G : ky_G} (d : Nat) (a1 : Int32) (σ : ky_St) (r : Int32) (σ' : ky_St) (hf : fX4_begins a1 σ = some (r, σ')) : ky_K G mX4_begins d 0 0 [ky_r G 7, .int a1] σ (.inr (some (.int r))) σ' := by
  unfold fX4_begins at hf
  refine ky_enter rfl (by decide +kernel) (Nat.le_of_ble_eq_true rfl) (lv := [(0, ky_r G 7), (1, .int a1)]) rfl ?_
  refine ky_aload_n (n := 1) dX4_begins_0 rfl rfl 0 rfl ?_
  refine ky_getf (q := (RX4, TX4, 12)) (v := ky_r G 11) (n := 4) dX4_begins_1 rfl kc_7 rfl (Nat.le_of_ble_eq_true rfl) wg_X4_19 (vf_7_6 _ _) ?_
  refine ky_iconst (v := (3 : Int32)) (n := 5) dX4_begins_4 rfl rfl ?_
  refine ky_aload_n (n := 6) dX4_begins_5 rfl rfl 0 rfl ?_
  refine ky_getf (q := (RX4, TX4, 12)) (v := .int (σ.1 7 7)) (n := 9) dX4_begins_6 rfl kc_7 rfl (Nat.le_of_ble_eq_true rfl) wg_X4_140 (vf_7_7 _ _) ?_
  refine ky_imul (n := 10) dX4_begins_9 rfl ?_
  refine ky_iload_n (n := 11) dX4_begins_10 rfl rfl 1 rfl ?_
  obtain ⟨g1, hf⟩ := ky_ge hf
  refine ky_iast (n := 12) dX4_begins_11 rfl kl_11 rfl g1 (fun s2 es2 => ?_)
  have hf := ky_bn_e hf s2 es2
  refine ky_aload_n (n := 13) dX4_begins_12 rfl rfl 0 rfl ?_
  refine ky_iconst (v := (-1 : Int32)) (n := 14) dX4_begins_13 rfl rfl ?_
  refine ky_putf (q := (RX4, TX4, 12)) (n := 17) dX4_begins_14 rfl kc_7 rfl (Nat.le_of_ble_eq_true rfl) wg_X4_143 rfl (by decide +kernel) rfl (fun s3 es3 => ?_)
  have hf := ky_bn_e hf s3 es3
  refine ky_aload_n (n := 18) dX4_begins_17 rfl rfl 0 rfl ?_
  refine ky_iload_n (n := 19) dX4_begins_18 rfl rfl 1 rfl ?_
  refine ky_bipush (v := (104 : Int32)) (n := 21) dX4_begins_19 rfl rfl ?_
  refine ky_icmp_ne (n := 24) (tgt := 28) dX4_begins_21 rfl rfl (fun c4 => ?_) (fun c4 => ?_)
  · have hf := ky_neg c4 hf
    refine ky_iconst (v := (3 : Int32)) (n := 29) dX4_begins_28 rfl rfl ?_
    refine ky_sub [1] (lv' := [(1, .int a1)]) rfl ?_
    exact tX4_begins_L29 d a1 (3 : Int32) s3 _ _ hf
  · have hf := ky_pos c4 hf
    refine ky_iconst (v := (1 : Int32)) (n := 25) dX4_begins_24 rfl rfl ?_
    refine ky_goto (tgt := 29) dX4_begins_25 rfl ?_
    refine ky_sub [1] (lv' := [(1, .int a1)]) rfl ?_
    exact tX4_begins_L29 d a1 (1 : Int32) s3 _ _ hf
def fX4_takesDigit_L139 (x3 : Int32) (x7 : Int32) (y1 : Int32) (σ : ky_St) : Option (Int32 × ky_St) :=
  ky_bn (ky_u1 σ 7 8 y1) fun s13 =>
  if x3 = 0 then (
  ky_g (¬ ((((3 : Int32) * (s13.1 7 7)) + (2 : Int32)) < 0 ∨ 66 ≤ (((3 : Int32) * (s13.1 7 7)) + (2 : Int32)).toNatClampNeg)) (
  ky_bn (ky_u1 s13 11 (((3 : Int32) * (s13.1 7 7)) + (2 : Int32)).toNatClampNeg (s13.1 7 8)) fun s16 =>
  ky_g (x7 = 0 ∨ x7 = 1) (some (x7, s16)))) else (
  ky_g (¬ ((((3 : Int32) * (s13.1 7 7)) + (1 : Int32)) < 0 ∨ 66 ≤ (((3 : Int32) * (s13.1 7 7)) + (1 : Int32)).toNatClampNeg)) (
  ky_bn (ky_u1 s13 11 (((3 : Int32) * (s13.1 7 7)) + (1 : Int32)).toNatClampNeg (s13.1 7 8)) fun s18 =>
  ky_g (x7 = 0 ∨ x7 = 1) (some (x7, s18))))
set_option maxHeartbeats 4000000 in
set_option maxRecDepth 100000 in
theorem tX4_takesDigit_L139 {G : ky_G} (d : Nat) : ∀ (x3 : Int32) (x7 : Int32) (y1 : Int32) (σ : ky_St) (r : Int32) (σ' : ky_St), fX4_takesDigit_L139 x3 x7 y1 σ = some (r, σ') → ky_T G mX4_takesDigit (d + 1) 0 0 139 [(0, ky_r G 7), (3, .int x3), (7, .int x7)] [.int y1, ky_r G 7] σ (.inr (some (.int r))) σ' := by
  intro x3 x7 y1 σ r σ' hf
  unfold fX4_takesDigit_L139 at hf
  refine ky_putf (q := (RX4, TX4, 12)) (n := 142) dX4_takesDigit_139 rfl kc_7 rfl (Nat.le_of_ble_eq_true rfl) wg_X4_143 rfl (by decide +kernel) rfl (fun s13 es13 => ?_)
  have hf := ky_bn_e hf s13 es13
  refine ky_aload_n (n := 143) dX4_takesDigit_142 rfl rfl 0 rfl ?_
  refine ky_getf (q := (RX4, TX4, 12)) (v := ky_r G 11) (n := 146) dX4_takesDigit_143 rfl kc_7 rfl (Nat.le_of_ble_eq_true rfl) wg_X4_19 (vf_7_6 _ _) ?_
  refine ky_iconst (v := (3 : Int32)) (n := 147) dX4_takesDigit_146 rfl rfl ?_
  refine ky_aload_n (n := 148) dX4_takesDigit_147 rfl rfl 0 rfl ?_
  refine ky_getf (q := (RX4, TX4, 12)) (v := .int (s13.1 7 7)) (n := 151) dX4_takesDigit_148 rfl kc_7 rfl (Nat.le_of_ble_eq_true rfl) wg_X4_140 (vf_7_7 _ _) ?_
  refine ky_imul (n := 152) dX4_takesDigit_151 rfl ?_
  refine ky_iload_n (n := 153) dX4_takesDigit_152 rfl rfl 1 rfl ?_
  refine ky_if_eq (n := 156) (tgt := 160) dX4_takesDigit_153 rfl rfl (fun c14 => ?_) (fun c14 => ?_)
  · have hf := ky_pos c14 hf
    refine ky_iconst (v := (2 : Int32)) (n := 161) dX4_takesDigit_160 rfl rfl ?_
    refine ky_iadd (n := 162) dX4_takesDigit_161 rfl ?_
    refine ky_aload_n (n := 163) dX4_takesDigit_162 rfl rfl 0 rfl ?_
    refine ky_getf (q := (RX4, TX4, 12)) (v := .int (s13.1 7 8)) (n := 166) dX4_takesDigit_163 rfl kc_7 rfl (Nat.le_of_ble_eq_true rfl) wg_X4_143 (vf_7_8 _ _) ?_
    obtain ⟨g15, hf⟩ := ky_ge hf
    refine ky_iast (n := 167) dX4_takesDigit_166 rfl kl_11 rfl g15 (fun s16 es16 => ?_)
    have hf := ky_bn_e hf s16 es16
    refine ky_iload (n := 169) dX4_takesDigit_167 rfl 2 rfl ?_
    obtain ⟨gz, hf⟩ := ky_ge hf
    cases hf
    exact ky_zreturn dX4_takesDigit_169 rfl gz
  · have hf := ky_neg c14 hf
    refine ky_iconst (v := (1 : Int32)) (n := 157) dX4_takesDigit_156 rfl rfl ?_
    refine ky_goto (tgt := 161) dX4_takesDigit_157 rfl ?_
    refine ky_iadd (n := 162) dX4_takesDigit_161 rfl ?_
    refine ky_aload_n (n := 163) dX4_takesDigit_162 rfl rfl 0 rfl ?_
    refine ky_getf (q := (RX4, TX4, 12)) (v := .int (s13.1 7 8)) (n := 166) dX4_takesDigit_163 rfl kc_7 rfl (Nat.le_of_ble_eq_true rfl) wg_X4_143 (vf_7_8 _ _) ?_
    obtain ⟨g17, hf⟩ := ky_ge hf
    refine ky_iast (n := 167) dX4_takesDigit_166 rfl kl_11 rfl g17 (fun s18 es18 => ?_)
    have hf := ky_bn_e hf s18 es18
    refine ky_iload (n := 169) dX4_takesDigit_167 rfl 2 rfl ?_
    obtain ⟨gz, hf⟩ := ky_ge hf
    cases hf
    exact ky_zreturn dX4_takesDigit_169 rfl gz
def fX4_takesDigit_L122 (x3 : Int32) (x6 : Int32) (y0 : Int32) (σ : ky_St) : Option (Int32 × ky_St) :=
  if y0 = 0 then (
  fX4_takesDigit_L139 x3 y0 (σ.1 7 8) σ) else (
  fX4_takesDigit_L139 x3 y0 x6 σ)
set_option maxHeartbeats 4000000 in
set_option maxRecDepth 100000 in
theorem tX4_takesDigit_L122 {G : ky_G} (d : Nat) : ∀ (x3 : Int32) (x6 : Int32) (y0 : Int32) (σ : ky_St) (r : Int32) (σ' : ky_St), fX4_takesDigit_L122 x3 x6 y0 σ = some (r, σ') → ky_T G mX4_takesDigit (d + 1) 0 0 122 [(0, ky_r G 7), (3, .int x3), (6, .int x6)] [.int y0] σ (.inr (some (.int r))) σ' := by
  intro x3 x6 y0 σ r σ' hf
  unfold fX4_takesDigit_L122 at hf
  refine ky_istore (lv' := [(7, .int y0), (0, ky_r G 7), (3, .int x3), (6, .int x6)]) (n := 124) dX4_takesDigit_122 rfl (Nat.le_of_ble_eq_true rfl) rfl ?_
  refine ky_aload_n (n := 125) dX4_takesDigit_124 rfl rfl 1 rfl ?_
  refine ky_iload (n := 127) dX4_takesDigit_125 rfl 0 rfl ?_
  refine ky_if_eq (n := 130) (tgt := 135) dX4_takesDigit_127 rfl rfl (fun c12 => ?_) (fun c12 => ?_)
  · have hf := ky_pos c12 hf
    refine ky_aload_n (n := 136) dX4_takesDigit_135 rfl rfl 1 rfl ?_
    refine ky_getf (q := (RX4, TX4, 12)) (v := .int (σ.1 7 8)) (n := 139) dX4_takesDigit_136 rfl kc_7 rfl (Nat.le_of_ble_eq_true rfl) wg_X4_143 (vf_7_8 _ _) ?_
    refine ky_sub [1, 2, 0] (lv' := [(0, ky_r G 7), (3, .int x3), (7, .int y0)]) rfl ?_
    exact tX4_takesDigit_L139 d x3 y0 (σ.1 7 8) σ _ _ hf
  · have hf := ky_neg c12 hf
    refine ky_iload (n := 132) dX4_takesDigit_130 rfl 3 rfl ?_
    refine ky_goto (tgt := 139) dX4_takesDigit_132 rfl ?_
    refine ky_sub [1, 2, 0] (lv' := [(0, ky_r G 7), (3, .int x3), (7, .int y0)]) rfl ?_
    exact tX4_takesDigit_L139 d x3 y0 x6 σ _ _ hf
def fX4_takesDigit_L121 (x3 : Int32) (x6 : Int32) (σ : ky_St) : Option (Int32 × ky_St) :=
  fX4_takesDigit_L122 x3 x6 (0 : Int32) σ
set_option maxHeartbeats 4000000 in
set_option maxRecDepth 100000 in
theorem tX4_takesDigit_L121 {G : ky_G} (d : Nat) : ∀ (x3 : Int32) (x6 : Int32) (σ : ky_St) (r : Int32) (σ' : ky_St), fX4_takesDigit_L121 x3 x6 σ = some (r, σ') → ky_T G mX4_takesDigit (d + 1) 0 0 121 [(0, ky_r G 7), (3, .int x3), (6, .int x6)] [] σ (.inr (some (.int r))) σ' := by
  intro x3 x6 σ r σ' hf
  unfold fX4_takesDigit_L121 at hf
  refine ky_iconst (v := (0 : Int32)) (n := 122) dX4_takesDigit_121 rfl rfl ?_
  refine ky_sub [0, 1, 2] (lv' := [(0, ky_r G 7), (3, .int x3), (6, .int x6)]) rfl ?_
  exact tX4_takesDigit_L122 d x3 x6 (0 : Int32) σ _ _ hf
def fX4_takesDigit_L86 (x1 : Int32) (x3 : Int32) (x4 : Int32) (x5 : Int32) (y0 : Int32) (σ : ky_St) : Option (Int32 × ky_St) :=
  ky_bd (fX4_within x1 (0 : Int32) (9 : Int32) σ) fun v10 s8 =>
  if v10 = 0 then (
  fX4_takesDigit_L121 x3 y0 s8) else (
  if (s8.1 7 8) = 0 then (
  fX4_takesDigit_L121 x3 y0 s8) else (
  ky_bd (fX4_within y0 x4 x5 s8) fun v22 s20 =>
  if v22 = 0 then (
  fX4_takesDigit_L121 x3 y0 s20) else (
  fX4_takesDigit_L122 x3 y0 (1 : Int32) s20)))
set_option maxHeartbeats 4000000 in
set_option maxRecDepth 100000 in
theorem tX4_takesDigit_L86 {G : ky_G} (d : Nat) : ∀ (x1 : Int32) (x3 : Int32) (x4 : Int32) (x5 : Int32) (y0 : Int32) (σ : ky_St) (r : Int32) (σ' : ky_St), fX4_takesDigit_L86 x1 x3 x4 x5 y0 σ = some (r, σ') → ky_T G mX4_takesDigit (d + 1) 0 0 86 [(0, ky_r G 7), (1, .int x1), (3, .int x3), (4, .int x4), (5, .int x5)] [.int y0] σ (.inr (some (.int r))) σ' := by
  intro x1 x3 x4 x5 y0 σ r σ' hf
  unfold fX4_takesDigit_L86 at hf
  refine ky_istore (lv' := [(6, .int y0), (0, ky_r G 7), (1, .int x1), (3, .int x3), (4, .int x4), (5, .int x5)]) (n := 88) dX4_takesDigit_86 rfl (Nat.le_of_ble_eq_true rfl) rfl ?_
  refine ky_iload_n (n := 89) dX4_takesDigit_88 rfl rfl 2 rfl ?_
  refine ky_iconst (v := (0 : Int32)) (n := 90) dX4_takesDigit_89 rfl rfl ?_
  refine ky_bipush (v := (9 : Int32)) (n := 92) dX4_takesDigit_90 rfl rfl ?_
  obtain ⟨v10, s8, h9, hf⟩ := ky_bd_e hf
  refine ky_callS (kc := 0) (ks := 0) (kc2 := 0) (ks2 := 0) (as := [.int x1, .int (0 : Int32), .int (9 : Int32)]) (st := []) (KX4_within d x1 (0 : Int32) (9 : Int32) σ _ _ h9) okX4_within wl_X4_32 rfl rfl (Nat.le_of_ble_eq_true rfl) dX4_takesDigit_92 rfl ?_
  refine ky_if_eq (n := 98) (tgt := 121) dX4_takesDigit_95 rfl rfl (fun c11 => ?_) (fun c11 => ?_)
  · have hf := ky_pos c11 hf
    refine ky_sub [1, 3, 0] (lv' := [(0, ky_r G 7), (3, .int x3), (6, .int y0)]) rfl ?_
    exact tX4_takesDigit_L121 d x3 y0 s8 _ _ hf
  · have hf := ky_neg c11 hf
    refine ky_aload_n (n := 99) dX4_takesDigit_98 rfl rfl 1 rfl ?_
    refine ky_getf (q := (RX4, TX4, 12)) (v := .int (s8.1 7 8)) (n := 102) dX4_takesDigit_99 rfl kc_7 rfl (Nat.le_of_ble_eq_true rfl) wg_X4_143 (vf_7_8 _ _) ?_
    refine ky_if_eq (n := 105) (tgt := 121) dX4_takesDigit_102 rfl rfl (fun c19 => ?_) (fun c19 => ?_)
    · have hf := ky_pos c19 hf
      refine ky_sub [1, 3, 0] (lv' := [(0, ky_r G 7), (3, .int x3), (6, .int y0)]) rfl ?_
      exact tX4_takesDigit_L121 d x3 y0 s8 _ _ hf
    · have hf := ky_neg c19 hf
      refine ky_iload (n := 107) dX4_takesDigit_105 rfl 0 rfl ?_
      refine ky_iload (n := 109) dX4_takesDigit_107 rfl 4 rfl ?_
      refine ky_iload (n := 111) dX4_takesDigit_109 rfl 5 rfl ?_
      obtain ⟨v22, s20, h21, hf⟩ := ky_bd_e hf
      refine ky_callS (kc := 0) (ks := 0) (kc2 := 0) (ks2 := 0) (as := [.int y0, .int x4, .int x5]) (st := []) (KX4_within d y0 x4 x5 s8 _ _ h21) okX4_within wl_X4_32 rfl rfl (Nat.le_of_ble_eq_true rfl) dX4_takesDigit_111 rfl ?_
      refine ky_if_eq (n := 117) (tgt := 121) dX4_takesDigit_114 rfl rfl (fun c23 => ?_) (fun c23 => ?_)
      · have hf := ky_pos c23 hf
        refine ky_sub [1, 3, 0] (lv' := [(0, ky_r G 7), (3, .int x3), (6, .int y0)]) rfl ?_
        exact tX4_takesDigit_L121 d x3 y0 s20 _ _ hf
      · have hf := ky_neg c23 hf
        refine ky_iconst (v := (1 : Int32)) (n := 118) dX4_takesDigit_117 rfl rfl ?_
        refine ky_goto (tgt := 122) dX4_takesDigit_118 rfl ?_
        refine ky_sub [1, 3, 0] (lv' := [(0, ky_r G 7), (3, .int x3), (6, .int y0)]) rfl ?_
        exact tX4_takesDigit_L122 d x3 y0 (1 : Int32) s20 _ _ hf
def fX4_takesDigit_L63 (x1 : Int32) (x3 : Int32) (x4 : Int32) (y0 : Int32) (σ : ky_St) : Option (Int32 × ky_St) :=
  if (σ.1 7 8) = (-1 : Int32) then (
  fX4_takesDigit_L86 x1 x3 x4 y0 x1 σ) else (
  fX4_takesDigit_L86 x1 x3 x4 y0 (((10 : Int32) * (σ.1 7 8)) + x1) σ)
set_option maxHeartbeats 4000000 in
set_option maxRecDepth 100000 in
theorem tX4_takesDigit_L63 {G : ky_G} (d : Nat) : ∀ (x1 : Int32) (x3 : Int32) (x4 : Int32) (y0 : Int32) (σ : ky_St) (r : Int32) (σ' : ky_St), fX4_takesDigit_L63 x1 x3 x4 y0 σ = some (r, σ') → ky_T G mX4_takesDigit (d + 1) 0 0 63 [(0, ky_r G 7), (1, .int x1), (3, .int x3), (4, .int x4)] [.int y0] σ (.inr (some (.int r))) σ' := by
  intro x1 x3 x4 y0 σ r σ' hf
  unfold fX4_takesDigit_L63 at hf
  refine ky_istore (lv' := [(5, .int y0), (0, ky_r G 7), (1, .int x1), (3, .int x3), (4, .int x4)]) (n := 65) dX4_takesDigit_63 rfl (Nat.le_of_ble_eq_true rfl) rfl ?_
  refine ky_aload_n (n := 66) dX4_takesDigit_65 rfl rfl 1 rfl ?_
  refine ky_getf (q := (RX4, TX4, 12)) (v := .int (σ.1 7 8)) (n := 69) dX4_takesDigit_66 rfl kc_7 rfl (Nat.le_of_ble_eq_true rfl) wg_X4_143 (vf_7_8 _ _) ?_
  refine ky_iconst (v := (-1 : Int32)) (n := 70) dX4_takesDigit_69 rfl rfl ?_
  refine ky_icmp_ne (n := 73) (tgt := 77) dX4_takesDigit_70 rfl rfl (fun c7 => ?_) (fun c7 => ?_)
  · have hf := ky_neg c7 hf
    refine ky_bipush (v := (10 : Int32)) (n := 79) dX4_takesDigit_77 rfl rfl ?_
    refine ky_aload_n (n := 80) dX4_takesDigit_79 rfl rfl 1 rfl ?_
    refine ky_getf (q := (RX4, TX4, 12)) (v := .int (σ.1 7 8)) (n := 83) dX4_takesDigit_80 rfl kc_7 rfl (Nat.le_of_ble_eq_true rfl) wg_X4_143 (vf_7_8 _ _) ?_
    refine ky_imul (n := 84) dX4_takesDigit_83 rfl ?_
    refine ky_iload_n (n := 85) dX4_takesDigit_84 rfl rfl 2 rfl ?_
    refine ky_iadd (n := 86) dX4_takesDigit_85 rfl ?_
    refine ky_sub [1, 2, 3, 4, 0] (lv' := [(0, ky_r G 7), (1, .int x1), (3, .int x3), (4, .int x4), (5, .int y0)]) rfl ?_
    exact tX4_takesDigit_L86 d x1 x3 x4 y0 (((10 : Int32) * (σ.1 7 8)) + x1) σ _ _ hf
  · have hf := ky_pos c7 hf
    refine ky_iload_n (n := 74) dX4_takesDigit_73 rfl rfl 2 rfl ?_
    refine ky_goto (tgt := 86) dX4_takesDigit_74 rfl ?_
    refine ky_sub [1, 2, 3, 4, 0] (lv' := [(0, ky_r G 7), (1, .int x1), (3, .int x3), (4, .int x4), (5, .int y0)]) rfl ?_
    exact tX4_takesDigit_L86 d x1 x3 x4 y0 x1 σ _ _ hf
def fX4_takesDigit_L39 (x1 : Int32) (x2 : Int32) (x3 : Int32) (y0 : Int32) (σ : ky_St) : Option (Int32 × ky_St) :=
  if x3 = 0 then (
  if x2 = (104 : Int32) then (
  fX4_takesDigit_L63 x1 x3 y0 (24 : Int32) σ) else (
  fX4_takesDigit_L63 x1 x3 y0 (99 : Int32) σ)) else (
  fX4_takesDigit_L63 x1 x3 y0 (23 : Int32) σ)
set_option maxHeartbeats 4000000 in
set_option maxRecDepth 100000 in
theorem tX4_takesDigit_L39 {G : ky_G} (d : Nat) : ∀ (x1 : Int32) (x2 : Int32) (x3 : Int32) (y0 : Int32) (σ : ky_St) (r : Int32) (σ' : ky_St), fX4_takesDigit_L39 x1 x2 x3 y0 σ = some (r, σ') → ky_T G mX4_takesDigit (d + 1) 0 0 39 [(0, ky_r G 7), (1, .int x1), (2, .int x2), (3, .int x3)] [.int y0] σ (.inr (some (.int r))) σ' := by
  intro x1 x2 x3 y0 σ r σ' hf
  unfold fX4_takesDigit_L39 at hf
  refine ky_istore (lv' := [(4, .int y0), (0, ky_r G 7), (1, .int x1), (2, .int x2), (3, .int x3)]) (n := 41) dX4_takesDigit_39 rfl (Nat.le_of_ble_eq_true rfl) rfl ?_
  refine ky_iload_n (n := 42) dX4_takesDigit_41 rfl rfl 4 rfl ?_
  refine ky_if_eq (n := 45) (tgt := 50) dX4_takesDigit_42 rfl rfl (fun c5 => ?_) (fun c5 => ?_)
  · have hf := ky_pos c5 hf
    refine ky_iload_n (n := 51) dX4_takesDigit_50 rfl rfl 3 rfl ?_
    refine ky_bipush (v := (104 : Int32)) (n := 53) dX4_takesDigit_51 rfl rfl ?_
    refine ky_icmp_ne (n := 56) (tgt := 61) dX4_takesDigit_53 rfl rfl (fun c6 => ?_) (fun c6 => ?_)
    · have hf := ky_neg c6 hf
      refine ky_bipush (v := (99 : Int32)) (n := 63) dX4_takesDigit_61 rfl rfl ?_
      refine ky_sub [1, 2, 4, 0] (lv' := [(0, ky_r G 7), (1, .int x1), (3, .int x3), (4, .int y0)]) rfl ?_
      exact tX4_takesDigit_L63 d x1 x3 y0 (99 : Int32) σ _ _ hf
    · have hf := ky_pos c6 hf
      refine ky_bipush (v := (24 : Int32)) (n := 58) dX4_takesDigit_56 rfl rfl ?_
      refine ky_goto (tgt := 63) dX4_takesDigit_58 rfl ?_
      refine ky_sub [1, 2, 4, 0] (lv' := [(0, ky_r G 7), (1, .int x1), (3, .int x3), (4, .int y0)]) rfl ?_
      exact tX4_takesDigit_L63 d x1 x3 y0 (24 : Int32) σ _ _ hf
  · have hf := ky_neg c5 hf
    refine ky_bipush (v := (23 : Int32)) (n := 47) dX4_takesDigit_45 rfl rfl ?_
    refine ky_goto (tgt := 63) dX4_takesDigit_47 rfl ?_
    refine ky_sub [1, 2, 4, 0] (lv' := [(0, ky_r G 7), (1, .int x1), (3, .int x3), (4, .int y0)]) rfl ?_
    exact tX4_takesDigit_L63 d x1 x3 y0 (23 : Int32) σ _ _ hf
def fX4_takesDigit_L29 (x1 : Int32) (x2 : Int32) (y0 : Int32) (σ : ky_St) : Option (Int32 × ky_St) :=
  if y0 = 0 then (
  fX4_takesDigit_L39 x1 x2 y0 (1 : Int32) σ) else (
  fX4_takesDigit_L39 x1 x2 y0 (0 : Int32) σ)
set_option maxHeartbeats 4000000 in
set_option maxRecDepth 100000 in
theorem tX4_takesDigit_L29 {G : ky_G} (d : Nat) : ∀ (x1 : Int32) (x2 : Int32) (y0 : Int32) (σ : ky_St) (r : Int32) (σ' : ky_St), fX4_takesDigit_L29 x1 x2 y0 σ = some (r, σ') → ky_T G mX4_takesDigit (d + 1) 0 0 29 [(0, ky_r G 7), (1, .int x1), (2, .int x2)] [.int y0] σ (.inr (some (.int r))) σ' := by
  intro x1 x2 y0 σ r σ' hf
  unfold fX4_takesDigit_L29 at hf
  refine ky_istore_n (lv' := [(3, .int y0), (0, ky_r G 7), (1, .int x1), (2, .int x2)]) (n := 30) dX4_takesDigit_29 rfl rfl (Nat.le_of_ble_eq_true rfl) rfl ?_
  refine ky_iload_n (n := 31) dX4_takesDigit_30 rfl rfl 0 rfl ?_
  refine ky_if_eq (n := 34) (tgt := 38) dX4_takesDigit_31 rfl rfl (fun c4 => ?_) (fun c4 => ?_)
  · have hf := ky_pos c4 hf
    refine ky_iconst (v := (1 : Int32)) (n := 39) dX4_takesDigit_38 rfl rfl ?_
    refine ky_sub [1, 2, 3, 0] (lv' := [(0, ky_r G 7), (1, .int x1), (2, .int x2), (3, .int y0)]) rfl ?_
    exact tX4_takesDigit_L39 d x1 x2 y0 (1 : Int32) σ _ _ hf
  · have hf := ky_neg c4 hf
    refine ky_iconst (v := (0 : Int32)) (n := 35) dX4_takesDigit_34 rfl rfl ?_
    refine ky_goto (tgt := 39) dX4_takesDigit_35 rfl ?_
    refine ky_sub [1, 2, 3, 0] (lv' := [(0, ky_r G 7), (1, .int x1), (2, .int x2), (3, .int y0)]) rfl ?_
    exact tX4_takesDigit_L39 d x1 x2 y0 (0 : Int32) σ _ _ hf
def fX4_takesDigit_L24 (x1 : Int32) (x2 : Int32) (σ : ky_St) : Option (Int32 × ky_St) :=
  fX4_takesDigit_L29 x1 x2 (1 : Int32) σ
set_option maxHeartbeats 4000000 in
set_option maxRecDepth 100000 in
theorem tX4_takesDigit_L24 {G : ky_G} (d : Nat) : ∀ (x1 : Int32) (x2 : Int32) (σ : ky_St) (r : Int32) (σ' : ky_St), fX4_takesDigit_L24 x1 x2 σ = some (r, σ') → ky_T G mX4_takesDigit (d + 1) 0 0 24 [(0, ky_r G 7), (1, .int x1), (2, .int x2)] [] σ (.inr (some (.int r))) σ' := by
  intro x1 x2 σ r σ' hf
  unfold fX4_takesDigit_L24 at hf
  refine ky_iconst (v := (1 : Int32)) (n := 25) dX4_takesDigit_24 rfl rfl ?_
  refine ky_goto (tgt := 29) dX4_takesDigit_25 rfl ?_
  refine ky_sub [0, 1, 2] (lv' := [(0, ky_r G 7), (1, .int x1), (2, .int x2)]) rfl ?_
  exact tX4_takesDigit_L29 d x1 x2 (1 : Int32) σ _ _ hf
def fX4_takesDigit (a1 : Int32) (σ : ky_St) : Option (Int32 × ky_St) :=
  ky_g (¬ (((3 : Int32) * (σ.1 7 7)) < 0 ∨ 66 ≤ ((3 : Int32) * (σ.1 7 7)).toNatClampNeg)) (
  ky_bn (σ.1 11 ((3 : Int32) * (σ.1 7 7)).toNatClampNeg) fun v2 =>
  if v2 = (109 : Int32) then (
  fX4_takesDigit_L24 a1 v2 σ) else (
  if v2 = (98 : Int32) then (
  fX4_takesDigit_L24 a1 v2 σ) else (
  fX4_takesDigit_L29 a1 v2 (0 : Int32) σ)))
set_option maxHeartbeats 4000000 in
set_option maxRecDepth 100000 in
theorem KX4_takesDigit {G : ky_G} (d : Nat) (a1 : Int32) (σ : ky_St) (r : Int32) (σ' : ky_St) (hf : fX4_takesDigit a1 σ = some (r, σ')) : ky_K G mX4_takesDigit (d + 1) 0 0 [ky_r G 7, .int a1] σ (.inr (some (.int r))) σ' := by
  unfold fX4_takesDigit at hf
  refine ky_enter rfl (by decide +kernel) (Nat.le_of_ble_eq_true rfl) (lv := [(0, ky_r G 7), (1, .int a1)]) rfl ?_
  refine ky_aload_n (n := 1) dX4_takesDigit_0 rfl rfl 0 rfl ?_
  refine ky_getf (q := (RX4, TX4, 12)) (v := ky_r G 11) (n := 4) dX4_takesDigit_1 rfl kc_7 rfl (Nat.le_of_ble_eq_true rfl) wg_X4_19 (vf_7_6 _ _) ?_
  refine ky_iconst (v := (3 : Int32)) (n := 5) dX4_takesDigit_4 rfl rfl ?_
  refine ky_aload_n (n := 6) dX4_takesDigit_5 rfl rfl 0 rfl ?_
  refine ky_getf (q := (RX4, TX4, 12)) (v := .int (σ.1 7 7)) (n := 9) dX4_takesDigit_6 rfl kc_7 rfl (Nat.le_of_ble_eq_true rfl) wg_X4_140 (vf_7_7 _ _) ?_
  refine ky_imul (n := 10) dX4_takesDigit_9 rfl ?_
  obtain ⟨g1, hf⟩ := ky_ge hf
  refine ky_iald (n := 11) dX4_takesDigit_10 rfl kl_11 g1 ?_
  refine ky_topi (fun v2 ev2 => ?_)
  have hf := ky_bn_e hf v2 ev2
  refine ky_istore_n (lv' := [(2, .int v2), (0, ky_r G 7), (1, .int a1)]) (n := 12) dX4_takesDigit_11 rfl rfl (Nat.le_of_ble_eq_true rfl) rfl ?_
  refine ky_iload_n (n := 13) dX4_takesDigit_12 rfl rfl 0 rfl ?_
  refine ky_bipush (v := (109 : Int32)) (n := 15) dX4_takesDigit_13 rfl rfl ?_
  refine ky_icmp_eq (n := 18) (tgt := 24) dX4_takesDigit_15 rfl rfl (fun c3 => ?_) (fun c3 => ?_)
  · have hf := ky_pos c3 hf
    refine ky_sub [1, 2, 0] (lv' := [(0, ky_r G 7), (1, .int a1), (2, .int v2)]) rfl ?_
    exact tX4_takesDigit_L24 d a1 v2 σ _ _ hf
  · have hf := ky_neg c3 hf
    refine ky_iload_n (n := 19) dX4_takesDigit_18 rfl rfl 0 rfl ?_
    refine ky_bipush (v := (98 : Int32)) (n := 21) dX4_takesDigit_19 rfl rfl ?_
    refine ky_icmp_ne (n := 24) (tgt := 28) dX4_takesDigit_21 rfl rfl (fun c24 => ?_) (fun c24 => ?_)
    · have hf := ky_neg c24 hf
      refine ky_iconst (v := (0 : Int32)) (n := 29) dX4_takesDigit_28 rfl rfl ?_
      refine ky_sub [1, 2, 0] (lv' := [(0, ky_r G 7), (1, .int a1), (2, .int v2)]) rfl ?_
      exact tX4_takesDigit_L29 d a1 v2 (0 : Int32) σ _ _ hf
    · have hf := ky_pos c24 hf
      refine ky_sub [1, 2, 0] (lv' := [(0, ky_r G 7), (1, .int a1), (2, .int v2)]) rfl ?_
      exact tX4_takesDigit_L24 d a1 v2 σ _ _ hf
def fX4_takesSite (a1 : Int32) (a2 : Int32) (a3 : Int32) (σ : ky_St) : Option (Int32 × ky_St) :=
  ky_g (¬ ((((3 : Int32) * (σ.1 7 7)) + a2) < 0 ∨ 66 ≤ (((3 : Int32) * (σ.1 7 7)) + a2).toNatClampNeg)) (
  ky_bn (ky_u1 σ 11 (((3 : Int32) * (σ.1 7 7)) + a2).toNatClampNeg (a1 - (48 : Int32))) fun s2 =>
  ky_bn (ky_u1 s2 7 9 a3) fun s3 =>
  ky_bd (fX4_isSite (a1 - (48 : Int32)) s3) fun v6 s4 =>
  ky_g (v6 = 0 ∨ v6 = 1) (some (v6, s4)))
set_option maxHeartbeats 4000000 in
set_option maxRecDepth 100000 in
theorem KX4_takesSite {G : ky_G} (d : Nat) (a1 : Int32) (a2 : Int32) (a3 : Int32) (σ : ky_St) (r : Int32) (σ' : ky_St) (hf : fX4_takesSite a1 a2 a3 σ = some (r, σ')) : ky_K G mX4_takesSite (d + 2) 0 0 [ky_r G 7, .int a1, .int a2, .int a3] σ (.inr (some (.int r))) σ' := by
  unfold fX4_takesSite at hf
  refine ky_enter rfl (by decide +kernel) (Nat.le_of_ble_eq_true rfl) (lv := [(0, ky_r G 7), (1, .int a1), (2, .int a2), (3, .int a3)]) rfl ?_
  refine ky_aload_n (n := 1) dX4_takesSite_0 rfl rfl 0 rfl ?_
  refine ky_getf (q := (RX4, TX4, 12)) (v := ky_r G 11) (n := 4) dX4_takesSite_1 rfl kc_7 rfl (Nat.le_of_ble_eq_true rfl) wg_X4_19 (vf_7_6 _ _) ?_
  refine ky_iconst (v := (3 : Int32)) (n := 5) dX4_takesSite_4 rfl rfl ?_
  refine ky_aload_n (n := 6) dX4_takesSite_5 rfl rfl 0 rfl ?_
  refine ky_getf (q := (RX4, TX4, 12)) (v := .int (σ.1 7 7)) (n := 9) dX4_takesSite_6 rfl kc_7 rfl (Nat.le_of_ble_eq_true rfl) wg_X4_140 (vf_7_7 _ _) ?_
  refine ky_imul (n := 10) dX4_takesSite_9 rfl ?_
  refine ky_iload_n (n := 11) dX4_takesSite_10 rfl rfl 2 rfl ?_
  refine ky_iadd (n := 12) dX4_takesSite_11 rfl ?_
  refine ky_iload_n (n := 13) dX4_takesSite_12 rfl rfl 1 rfl ?_
  refine ky_bipush (v := (48 : Int32)) (n := 15) dX4_takesSite_13 rfl rfl ?_
  refine ky_isub (n := 16) dX4_takesSite_15 rfl ?_
  obtain ⟨g1, hf⟩ := ky_ge hf
  refine ky_iast (n := 17) dX4_takesSite_16 rfl kl_11 rfl g1 (fun s2 es2 => ?_)
  have hf := ky_bn_e hf s2 es2
  refine ky_aload_n (n := 18) dX4_takesSite_17 rfl rfl 0 rfl ?_
  refine ky_iload_n (n := 19) dX4_takesSite_18 rfl rfl 3 rfl ?_
  refine ky_putf (q := (RX4, TX4, 12)) (n := 22) dX4_takesSite_19 rfl kc_7 rfl (Nat.le_of_ble_eq_true rfl) wg_X4_146 rfl (by decide +kernel) rfl (fun s3 es3 => ?_)
  have hf := ky_bn_e hf s3 es3
  refine ky_iload_n (n := 23) dX4_takesSite_22 rfl rfl 1 rfl ?_
  refine ky_bipush (v := (48 : Int32)) (n := 25) dX4_takesSite_23 rfl rfl ?_
  refine ky_isub (n := 26) dX4_takesSite_25 rfl ?_
  obtain ⟨v6, s4, h5, hf⟩ := ky_bd_e hf
  refine ky_callS (kc := 0) (ks := 0) (kc2 := 0) (ks2 := 0) (as := [.int (a1 - (48 : Int32))]) (st := []) (KX4_isSite d (a1 - (48 : Int32)) s3 _ _ h5) okX4_isSite wl_X4_100 rfl rfl (Nat.le_of_ble_eq_true rfl) dX4_takesSite_26 rfl ?_
  obtain ⟨gz, hf⟩ := ky_ge hf
  cases hf
  exact ky_zreturn dX4_takesSite_29 rfl gz
def fX4_isEnded (σ : ky_St) : Option (Int32 × ky_St) :=
  if (σ.1 7 9) = (5 : Int32) then (
  some ((1 : Int32), σ)) else (
  if (σ.1 7 9) = (3 : Int32) then (
  if (σ.1 7 8) = (-1 : Int32) then (
  some ((0 : Int32), σ)) else (
  ky_g (¬ (((3 : Int32) * (σ.1 7 7)) < 0 ∨ 66 ≤ ((3 : Int32) * (σ.1 7 7)).toNatClampNeg)) (
  if (σ.1 11 ((3 : Int32) * (σ.1 7 7)).toNatClampNeg) = (109 : Int32) then (
  some ((0 : Int32), σ)) else (
  some ((1 : Int32), σ))))) else (
  some ((0 : Int32), σ)))
set_option maxHeartbeats 4000000 in
set_option maxRecDepth 100000 in
theorem KX4_isEnded {G : ky_G} (d : Nat) (σ : ky_St) (r : Int32) (σ' : ky_St) (hf : fX4_isEnded σ = some (r, σ')) : ky_K G mX4_isEnded d 0 0 [ky_r G 7] σ (.inr (some (.int r))) σ' := by
  unfold fX4_isEnded at hf
  refine ky_enter rfl (by decide +kernel) (Nat.le_of_ble_eq_true rfl) (lv := [(0, ky_r G 7)]) rfl ?_
  refine ky_aload_n (n := 1) dX4_isEnded_0 rfl rfl 0 rfl ?_
  refine ky_getf (q := (RX4, TX4, 12)) (v := .int (σ.1 7 9)) (n := 4) dX4_isEnded_1 rfl kc_7 rfl (Nat.le_of_ble_eq_true rfl) wg_X4_146 (vf_7_9 _ _) ?_
  refine ky_iconst (v := (5 : Int32)) (n := 5) dX4_isEnded_4 rfl rfl ?_
  refine ky_icmp_eq (n := 8) (tgt := 40) dX4_isEnded_5 rfl rfl (fun c1 => ?_) (fun c1 => ?_)
  · have hf := ky_pos c1 hf
    refine ky_iconst (v := (1 : Int32)) (n := 41) dX4_isEnded_40 rfl rfl ?_
    refine ky_goto (tgt := 45) dX4_isEnded_41 rfl ?_
    cases hf
    exact ky_zreturn dX4_isEnded_45 rfl (Or.inr rfl)
  · have hf := ky_neg c1 hf
    refine ky_aload_n (n := 9) dX4_isEnded_8 rfl rfl 0 rfl ?_
    refine ky_getf (q := (RX4, TX4, 12)) (v := .int (σ.1 7 9)) (n := 12) dX4_isEnded_9 rfl kc_7 rfl (Nat.le_of_ble_eq_true rfl) wg_X4_146 (vf_7_9 _ _) ?_
    refine ky_iconst (v := (3 : Int32)) (n := 13) dX4_isEnded_12 rfl rfl ?_
    refine ky_icmp_ne (n := 16) (tgt := 44) dX4_isEnded_13 rfl rfl (fun c2 => ?_) (fun c2 => ?_)
    · have hf := ky_neg c2 hf
      refine ky_iconst (v := (0 : Int32)) (n := 45) dX4_isEnded_44 rfl rfl ?_
      cases hf
      exact ky_zreturn dX4_isEnded_45 rfl (Or.inl rfl)
    · have hf := ky_pos c2 hf
      refine ky_aload_n (n := 17) dX4_isEnded_16 rfl rfl 0 rfl ?_
      refine ky_getf (q := (RX4, TX4, 12)) (v := .int (σ.1 7 8)) (n := 20) dX4_isEnded_17 rfl kc_7 rfl (Nat.le_of_ble_eq_true rfl) wg_X4_143 (vf_7_8 _ _) ?_
      refine ky_iconst (v := (-1 : Int32)) (n := 21) dX4_isEnded_20 rfl rfl ?_
      refine ky_icmp_eq (n := 24) (tgt := 44) dX4_isEnded_21 rfl rfl (fun c3 => ?_) (fun c3 => ?_)
      · have hf := ky_pos c3 hf
        refine ky_iconst (v := (0 : Int32)) (n := 45) dX4_isEnded_44 rfl rfl ?_
        cases hf
        exact ky_zreturn dX4_isEnded_45 rfl (Or.inl rfl)
      · have hf := ky_neg c3 hf
        refine ky_aload_n (n := 25) dX4_isEnded_24 rfl rfl 0 rfl ?_
        refine ky_getf (q := (RX4, TX4, 12)) (v := ky_r G 11) (n := 28) dX4_isEnded_25 rfl kc_7 rfl (Nat.le_of_ble_eq_true rfl) wg_X4_19 (vf_7_6 _ _) ?_
        refine ky_iconst (v := (3 : Int32)) (n := 29) dX4_isEnded_28 rfl rfl ?_
        refine ky_aload_n (n := 30) dX4_isEnded_29 rfl rfl 0 rfl ?_
        refine ky_getf (q := (RX4, TX4, 12)) (v := .int (σ.1 7 7)) (n := 33) dX4_isEnded_30 rfl kc_7 rfl (Nat.le_of_ble_eq_true rfl) wg_X4_140 (vf_7_7 _ _) ?_
        refine ky_imul (n := 34) dX4_isEnded_33 rfl ?_
        obtain ⟨g4, hf⟩ := ky_ge hf
        refine ky_iald (n := 35) dX4_isEnded_34 rfl kl_11 g4 ?_
        refine ky_bipush (v := (109 : Int32)) (n := 37) dX4_isEnded_35 rfl rfl ?_
        refine ky_icmp_eq (n := 40) (tgt := 44) dX4_isEnded_37 rfl rfl (fun c5 => ?_) (fun c5 => ?_)
        · have hf := ky_pos c5 hf
          refine ky_iconst (v := (0 : Int32)) (n := 45) dX4_isEnded_44 rfl rfl ?_
          cases hf
          exact ky_zreturn dX4_isEnded_45 rfl (Or.inl rfl)
        · have hf := ky_neg c5 hf
          refine ky_iconst (v := (1 : Int32)) (n := 41) dX4_isEnded_40 rfl rfl ?_
          refine ky_goto (tgt := 45) dX4_isEnded_41 rfl ?_
          cases hf
          exact ky_zreturn dX4_isEnded_45 rfl (Or.inr rfl)
def fX4_takes_L75 (x1 : Int32) (σ : ky_St) : Option (Int32 × ky_St) :=
  ky_bn (σ.1 7 9) fun v3 =>
  if v3 = (0 : Int32) then (
  ky_bd (fX4_begins x1 σ) fun v7 s5 =>
  ky_g (v7 = 0 ∨ v7 = 1) (some (v7, s5))) else (
  if v3 = (1 : Int32) then (
  ky_bd (fX4_takesSite x1 (1 : Int32) (2 : Int32) σ) fun v11 s9 =>
  ky_g (v11 = 0 ∨ v11 = 1) (some (v11, s9))) else (
  if v3 = (2 : Int32) then (
  ky_bn (ky_u1 σ 7 9 (3 : Int32)) fun s13 =>
  if x1 = (42 : Int32) then (
  some ((1 : Int32), s13)) else (
  some ((0 : Int32), s13))) else (
  if v3 = (3 : Int32) then (
  ky_bd (fX4_takesDigit (x1 - (48 : Int32)) σ) fun v18 s16 =>
  ky_g (v18 = 0 ∨ v18 = 1) (some (v18, s16))) else (
  if v3 = (4 : Int32) then (
  ky_bd (fX4_takesSite x1 (2 : Int32) (5 : Int32) σ) fun v22 s20 =>
  ky_g (v22 = 0 ∨ v22 = 1) (some (v22, s20))) else (
  some ((0 : Int32), σ))))))
set_option maxHeartbeats 4000000 in
set_option maxRecDepth 100000 in
theorem tX4_takes_L75 {G : ky_G} (d : Nat) : ∀ (x1 : Int32) (σ : ky_St) (r : Int32) (σ' : ky_St), fX4_takes_L75 x1 σ = some (r, σ') → ky_T G mX4_takes (d + 3) 0 0 75 [(0, ky_r G 7), (1, .int x1)] [] σ (.inr (some (.int r))) σ' := by
  intro x1 σ r σ' hf
  unfold fX4_takes_L75 at hf
  refine ky_aload_n (n := 76) dX4_takes_75 rfl rfl 0 rfl ?_
  refine ky_getf (q := (RX4, TX4, 12)) (v := .int (σ.1 7 9)) (n := 79) dX4_takes_76 rfl kc_7 rfl (Nat.le_of_ble_eq_true rfl) wg_X4_146 (vf_7_9 _ _) ?_
  refine ky_topi (fun v3 ev3 => ?_)
  have hf := ky_bn_e hf v3 ev3
  by_cases c4 : v3 = (0 : Int32)
  · have hf := ky_pos c4 hf
    refine ky_tsIn (off := 33) (tgt := 112) dX4_takes_79 (by rw [c4]; decide) (by rw [c4]; decide) (by rw [c4]; rfl) rfl ?_
    refine ky_aload_n (n := 113) dX4_takes_112 rfl rfl 0 rfl ?_
    refine ky_iload_n (n := 114) dX4_takes_113 rfl rfl 1 rfl ?_
    obtain ⟨v7, s5, h6, hf⟩ := ky_bd_e hf
    refine ky_callV (kc := 0) (ks := 0) (kc2 := 0) (ks2 := 0) (k0 := 7) (as := [.int x1]) (st := []) (KX4_begins (d + 2) x1 σ _ _ h6) okX4_begins wl_X4_153 kc_7 (q := (RX4, TX4, 12)) rfl rfl rfl rfl (Nat.le_of_ble_eq_true rfl) dX4_takes_114 rfl ?_
    obtain ⟨gz, hf⟩ := ky_ge hf
    cases hf
    exact ky_zreturn dX4_takes_117 rfl gz
  have hf := ky_neg c4 hf
  by_cases c8 : v3 = (1 : Int32)
  · have hf := ky_pos c8 hf
    refine ky_tsIn (off := 39) (tgt := 118) dX4_takes_79 (by rw [c8]; decide) (by rw [c8]; decide) (by rw [c8]; rfl) rfl ?_
    refine ky_aload_n (n := 119) dX4_takes_118 rfl rfl 0 rfl ?_
    refine ky_iload_n (n := 120) dX4_takes_119 rfl rfl 1 rfl ?_
    refine ky_iconst (v := (1 : Int32)) (n := 121) dX4_takes_120 rfl rfl ?_
    refine ky_iconst (v := (2 : Int32)) (n := 122) dX4_takes_121 rfl rfl ?_
    obtain ⟨v11, s9, h10, hf⟩ := ky_bd_e hf
    refine ky_callV (kc := 0) (ks := 0) (kc2 := 0) (ks2 := 0) (k0 := 7) (as := [.int x1, .int (1 : Int32), .int (2 : Int32)]) (st := []) (KX4_takesSite d x1 (1 : Int32) (2 : Int32) σ _ _ h10) okX4_takesSite wl_X4_156 kc_7 (q := (RX4, TX4, 12)) rfl rfl rfl rfl (Nat.le_of_ble_eq_true rfl) dX4_takes_122 rfl ?_
    obtain ⟨gz, hf⟩ := ky_ge hf
    cases hf
    exact ky_zreturn dX4_takes_125 rfl gz
  have hf := ky_neg c8 hf
  by_cases c12 : v3 = (2 : Int32)
  · have hf := ky_pos c12 hf
    refine ky_tsIn (off := 47) (tgt := 126) dX4_takes_79 (by rw [c12]; decide) (by rw [c12]; decide) (by rw [c12]; rfl) rfl ?_
    refine ky_aload_n (n := 127) dX4_takes_126 rfl rfl 0 rfl ?_
    refine ky_iconst (v := (3 : Int32)) (n := 128) dX4_takes_127 rfl rfl ?_
    refine ky_putf (q := (RX4, TX4, 12)) (n := 131) dX4_takes_128 rfl kc_7 rfl (Nat.le_of_ble_eq_true rfl) wg_X4_146 rfl (by decide +kernel) rfl (fun s13 es13 => ?_)
    have hf := ky_bn_e hf s13 es13
    refine ky_iload_n (n := 132) dX4_takes_131 rfl rfl 1 rfl ?_
    refine ky_bipush (v := (42 : Int32)) (n := 134) dX4_takes_132 rfl rfl ?_
    refine ky_icmp_ne (n := 137) (tgt := 141) dX4_takes_134 rfl rfl (fun c14 => ?_) (fun c14 => ?_)
    · have hf := ky_neg c14 hf
      refine ky_iconst (v := (0 : Int32)) (n := 142) dX4_takes_141 rfl rfl ?_
      cases hf
      exact ky_zreturn dX4_takes_142 rfl (Or.inl rfl)
    · have hf := ky_pos c14 hf
      refine ky_iconst (v := (1 : Int32)) (n := 138) dX4_takes_137 rfl rfl ?_
      refine ky_goto (tgt := 142) dX4_takes_138 rfl ?_
      cases hf
      exact ky_zreturn dX4_takes_142 rfl (Or.inr rfl)
  have hf := ky_neg c12 hf
  by_cases c15 : v3 = (3 : Int32)
  · have hf := ky_pos c15 hf
    refine ky_tsIn (off := 64) (tgt := 143) dX4_takes_79 (by rw [c15]; decide) (by rw [c15]; decide) (by rw [c15]; rfl) rfl ?_
    refine ky_aload_n (n := 144) dX4_takes_143 rfl rfl 0 rfl ?_
    refine ky_iload_n (n := 145) dX4_takes_144 rfl rfl 1 rfl ?_
    refine ky_bipush (v := (48 : Int32)) (n := 147) dX4_takes_145 rfl rfl ?_
    refine ky_isub (n := 148) dX4_takes_147 rfl ?_
    obtain ⟨v18, s16, h17, hf⟩ := ky_bd_e hf
    refine ky_callV (kc := 0) (ks := 0) (kc2 := 0) (ks2 := 0) (k0 := 7) (as := [.int (x1 - (48 : Int32))]) (st := []) (KX4_takesDigit (d + 1) (x1 - (48 : Int32)) σ _ _ h17) okX4_takesDigit wl_X4_159 kc_7 (q := (RX4, TX4, 12)) rfl rfl rfl rfl (Nat.le_of_ble_eq_true rfl) dX4_takes_148 rfl ?_
    obtain ⟨gz, hf⟩ := ky_ge hf
    cases hf
    exact ky_zreturn dX4_takes_151 rfl gz
  have hf := ky_neg c15 hf
  by_cases c19 : v3 = (4 : Int32)
  · have hf := ky_pos c19 hf
    refine ky_tsIn (off := 73) (tgt := 152) dX4_takes_79 (by rw [c19]; decide) (by rw [c19]; decide) (by rw [c19]; rfl) rfl ?_
    refine ky_aload_n (n := 153) dX4_takes_152 rfl rfl 0 rfl ?_
    refine ky_iload_n (n := 154) dX4_takes_153 rfl rfl 1 rfl ?_
    refine ky_iconst (v := (2 : Int32)) (n := 155) dX4_takes_154 rfl rfl ?_
    refine ky_iconst (v := (5 : Int32)) (n := 156) dX4_takes_155 rfl rfl ?_
    obtain ⟨v22, s20, h21, hf⟩ := ky_bd_e hf
    refine ky_callV (kc := 0) (ks := 0) (kc2 := 0) (ks2 := 0) (k0 := 7) (as := [.int x1, .int (2 : Int32), .int (5 : Int32)]) (st := []) (KX4_takesSite d x1 (2 : Int32) (5 : Int32) σ _ _ h21) okX4_takesSite wl_X4_156 kc_7 (q := (RX4, TX4, 12)) rfl rfl rfl rfl (Nat.le_of_ble_eq_true rfl) dX4_takes_156 rfl ?_
    obtain ⟨gz, hf⟩ := ky_ge hf
    cases hf
    exact ky_zreturn dX4_takes_159 rfl gz
  have hf := ky_neg c19 hf
  have zc4 : v3.toInt ≠ 0 := ky_swn c4
  have zc8 : v3.toInt ≠ 1 := ky_swn c8
  have zc12 : v3.toInt ≠ 2 := ky_swn c12
  have zc15 : v3.toInt ≠ 3 := ky_swn c15
  have zc19 : v3.toInt ≠ 4 := ky_swn c19
  refine ky_tsOut (tgt := 160) dX4_takes_79 (by omega) rfl ?_
  refine ky_iconst (v := (0 : Int32)) (n := 161) dX4_takes_160 rfl rfl ?_
  cases hf
  exact ky_zreturn dX4_takes_161 rfl (Or.inl rfl)
def fX4_takes_L30 (x1 : Int32) (σ : ky_St) : Option (Int32 × ky_St) :=
  if x1 = (62 : Int32) then (
  if (σ.1 7 9) = (3 : Int32) then (
  if (σ.1 7 8) = (-1 : Int32) then (
  fX4_takes_L75 x1 σ) else (
  ky_g (¬ (((3 : Int32) * (σ.1 7 7)) < 0 ∨ 66 ≤ ((3 : Int32) * (σ.1 7 7)).toNatClampNeg)) (
  if (σ.1 11 ((3 : Int32) * (σ.1 7 7)).toNatClampNeg) = (109 : Int32) then (
  ky_bn (ky_u1 σ 7 9 (4 : Int32)) fun s27 =>
  some ((1 : Int32), s27)) else (
  fX4_takes_L75 x1 σ)))) else (
  fX4_takes_L75 x1 σ)) else (
  fX4_takes_L75 x1 σ)
set_option maxHeartbeats 4000000 in
set_option maxRecDepth 100000 in
theorem tX4_takes_L30 {G : ky_G} (d : Nat) : ∀ (x1 : Int32) (σ : ky_St) (r : Int32) (σ' : ky_St), fX4_takes_L30 x1 σ = some (r, σ') → ky_T G mX4_takes (d + 3) 0 0 30 [(0, ky_r G 7), (1, .int x1)] [] σ (.inr (some (.int r))) σ' := by
  intro x1 σ r σ' hf
  unfold fX4_takes_L30 at hf
  refine ky_iload_n (n := 31) dX4_takes_30 rfl rfl 1 rfl ?_
  refine ky_bipush (v := (62 : Int32)) (n := 33) dX4_takes_31 rfl rfl ?_
  refine ky_icmp_ne (n := 36) (tgt := 75) dX4_takes_33 rfl rfl (fun c2 => ?_) (fun c2 => ?_)
  · have hf := ky_neg c2 hf
    refine ky_sub [0, 1] (lv' := [(0, ky_r G 7), (1, .int x1)]) rfl ?_
    exact tX4_takes_L75 d x1 σ _ _ hf
  · have hf := ky_pos c2 hf
    refine ky_aload_n (n := 37) dX4_takes_36 rfl rfl 0 rfl ?_
    refine ky_getf (q := (RX4, TX4, 12)) (v := .int (σ.1 7 9)) (n := 40) dX4_takes_37 rfl kc_7 rfl (Nat.le_of_ble_eq_true rfl) wg_X4_146 (vf_7_9 _ _) ?_
    refine ky_iconst (v := (3 : Int32)) (n := 41) dX4_takes_40 rfl rfl ?_
    refine ky_icmp_ne (n := 44) (tgt := 75) dX4_takes_41 rfl rfl (fun c23 => ?_) (fun c23 => ?_)
    · have hf := ky_neg c23 hf
      refine ky_sub [0, 1] (lv' := [(0, ky_r G 7), (1, .int x1)]) rfl ?_
      exact tX4_takes_L75 d x1 σ _ _ hf
    · have hf := ky_pos c23 hf
      refine ky_aload_n (n := 45) dX4_takes_44 rfl rfl 0 rfl ?_
      refine ky_getf (q := (RX4, TX4, 12)) (v := .int (σ.1 7 8)) (n := 48) dX4_takes_45 rfl kc_7 rfl (Nat.le_of_ble_eq_true rfl) wg_X4_143 (vf_7_8 _ _) ?_
      refine ky_iconst (v := (-1 : Int32)) (n := 49) dX4_takes_48 rfl rfl ?_
      refine ky_icmp_eq (n := 52) (tgt := 75) dX4_takes_49 rfl rfl (fun c24 => ?_) (fun c24 => ?_)
      · have hf := ky_pos c24 hf
        refine ky_sub [0, 1] (lv' := [(0, ky_r G 7), (1, .int x1)]) rfl ?_
        exact tX4_takes_L75 d x1 σ _ _ hf
      · have hf := ky_neg c24 hf
        refine ky_aload_n (n := 53) dX4_takes_52 rfl rfl 0 rfl ?_
        refine ky_getf (q := (RX4, TX4, 12)) (v := ky_r G 11) (n := 56) dX4_takes_53 rfl kc_7 rfl (Nat.le_of_ble_eq_true rfl) wg_X4_19 (vf_7_6 _ _) ?_
        refine ky_iconst (v := (3 : Int32)) (n := 57) dX4_takes_56 rfl rfl ?_
        refine ky_aload_n (n := 58) dX4_takes_57 rfl rfl 0 rfl ?_
        refine ky_getf (q := (RX4, TX4, 12)) (v := .int (σ.1 7 7)) (n := 61) dX4_takes_58 rfl kc_7 rfl (Nat.le_of_ble_eq_true rfl) wg_X4_140 (vf_7_7 _ _) ?_
        refine ky_imul (n := 62) dX4_takes_61 rfl ?_
        obtain ⟨g25, hf⟩ := ky_ge hf
        refine ky_iald (n := 63) dX4_takes_62 rfl kl_11 g25 ?_
        refine ky_bipush (v := (109 : Int32)) (n := 65) dX4_takes_63 rfl rfl ?_
        refine ky_icmp_ne (n := 68) (tgt := 75) dX4_takes_65 rfl rfl (fun c26 => ?_) (fun c26 => ?_)
        · have hf := ky_neg c26 hf
          refine ky_sub [0, 1] (lv' := [(0, ky_r G 7), (1, .int x1)]) rfl ?_
          exact tX4_takes_L75 d x1 σ _ _ hf
        · have hf := ky_pos c26 hf
          refine ky_aload_n (n := 69) dX4_takes_68 rfl rfl 0 rfl ?_
          refine ky_iconst (v := (4 : Int32)) (n := 70) dX4_takes_69 rfl rfl ?_
          refine ky_putf (q := (RX4, TX4, 12)) (n := 73) dX4_takes_70 rfl kc_7 rfl (Nat.le_of_ble_eq_true rfl) wg_X4_146 rfl (by decide +kernel) rfl (fun s27 es27 => ?_)
          have hf := ky_bn_e hf s27 es27
          refine ky_iconst (v := (1 : Int32)) (n := 74) dX4_takes_73 rfl rfl ?_
          cases hf
          exact ky_zreturn dX4_takes_74 rfl (Or.inr rfl)
def fX4_takes (a1 : Int32) (σ : ky_St) : Option (Int32 × ky_St) :=
  if a1 = (59 : Int32) then (
  ky_bd (fX4_isEnded σ) fun v30 s28 =>
  if v30 = 0 then (
  fX4_takes_L30 a1 s28) else (
  ky_bn (ky_u1 s28 7 7 ((s28.1 7 7) + (1 : Int32))) fun s32 =>
  ky_bn (ky_u1 s32 7 9 (0 : Int32)) fun s33 =>
  some ((1 : Int32), s33))) else (
  fX4_takes_L30 a1 σ)
set_option maxHeartbeats 4000000 in
set_option maxRecDepth 100000 in
theorem KX4_takes {G : ky_G} (d : Nat) (a1 : Int32) (σ : ky_St) (r : Int32) (σ' : ky_St) (hf : fX4_takes a1 σ = some (r, σ')) : ky_K G mX4_takes (d + 3) 0 0 [ky_r G 7, .int a1] σ (.inr (some (.int r))) σ' := by
  unfold fX4_takes at hf
  refine ky_enter rfl (by decide +kernel) (Nat.le_of_ble_eq_true rfl) (lv := [(0, ky_r G 7), (1, .int a1)]) rfl ?_
  refine ky_iload_n (n := 1) dX4_takes_0 rfl rfl 1 rfl ?_
  refine ky_bipush (v := (59 : Int32)) (n := 3) dX4_takes_1 rfl rfl ?_
  refine ky_icmp_ne (n := 6) (tgt := 30) dX4_takes_3 rfl rfl (fun c1 => ?_) (fun c1 => ?_)
  · have hf := ky_neg c1 hf
    refine ky_sub [0, 1] (lv' := [(0, ky_r G 7), (1, .int a1)]) rfl ?_
    exact tX4_takes_L30 d a1 σ _ _ hf
  · have hf := ky_pos c1 hf
    refine ky_aload_n (n := 7) dX4_takes_6 rfl rfl 0 rfl ?_
    obtain ⟨v30, s28, h29, hf⟩ := ky_bd_e hf
    refine ky_callV (kc := 0) (ks := 0) (kc2 := 0) (ks2 := 0) (k0 := 7) (as := []) (st := []) (KX4_isEnded (d + 2) σ _ _ h29) okX4_isEnded wl_X4_149 kc_7 (q := (RX4, TX4, 12)) rfl rfl rfl rfl (Nat.le_of_ble_eq_true rfl) dX4_takes_7 rfl ?_
    refine ky_if_eq (n := 13) (tgt := 30) dX4_takes_10 rfl rfl (fun c31 => ?_) (fun c31 => ?_)
    · have hf := ky_pos c31 hf
      refine ky_sub [0, 1] (lv' := [(0, ky_r G 7), (1, .int a1)]) rfl ?_
      exact tX4_takes_L30 d a1 s28 _ _ hf
    · have hf := ky_neg c31 hf
      refine ky_aload_n (n := 14) dX4_takes_13 rfl rfl 0 rfl ?_
      refine ky_dup (n := 15) dX4_takes_14 rfl rfl ?_
      refine ky_getf (q := (RX4, TX4, 12)) (v := .int (s28.1 7 7)) (n := 18) dX4_takes_15 rfl kc_7 rfl (Nat.le_of_ble_eq_true rfl) wg_X4_140 (vf_7_7 _ _) ?_
      refine ky_iconst (v := (1 : Int32)) (n := 19) dX4_takes_18 rfl rfl ?_
      refine ky_iadd (n := 20) dX4_takes_19 rfl ?_
      refine ky_putf (q := (RX4, TX4, 12)) (n := 23) dX4_takes_20 rfl kc_7 rfl (Nat.le_of_ble_eq_true rfl) wg_X4_140 rfl (by decide +kernel) rfl (fun s32 es32 => ?_)
      have hf := ky_bn_e hf s32 es32
      refine ky_aload_n (n := 24) dX4_takes_23 rfl rfl 0 rfl ?_
      refine ky_iconst (v := (0 : Int32)) (n := 25) dX4_takes_24 rfl rfl ?_
      refine ky_putf (q := (RX4, TX4, 12)) (n := 28) dX4_takes_25 rfl kc_7 rfl (Nat.le_of_ble_eq_true rfl) wg_X4_146 rfl (by decide +kernel) rfl (fun s33 es33 => ?_)
      have hf := ky_bn_e hf s33 es33
      refine ky_iconst (v := (1 : Int32)) (n := 29) dX4_takes_28 rfl rfl ?_
      cases hf
      exact ky_zreturn dX4_takes_29 rfl (Or.inr rfl)
def fX4_rightUpTo_L12 : Nat → Int32 → ky_St → Option (Int32 × ky_St)
  | 0, _, _ => none
  | fu + 1, x1, σ =>
  if (σ.1 7 3) ≤ x1 then (
  some (x1, σ)) else (
  ky_g (¬ (x1 < 0 ∨ 60 ≤ x1.toNatClampNeg)) (
  ky_bd (fX4_takes (σ.1 10 x1.toNatClampNeg) σ) fun v7 s5 =>
  if v7 = 0 then (
  some (x1, s5)) else (
  ky_bn (x1 + (1 : Int32)) fun v9 =>
  fX4_rightUpTo_L12 fu v9 s5)))
set_option maxHeartbeats 4000000 in
set_option maxRecDepth 100000 in
theorem tX4_rightUpTo_L12 {G : ky_G} (d : Nat) : ∀ (fu : Nat) (x1 : Int32) (σ : ky_St) (r : Int32) (σ' : ky_St), fX4_rightUpTo_L12 fu x1 σ = some (r, σ') → ky_T G mX4_rightUpTo (d + 4) 0 0 12 [(0, ky_r G 7), (1, .int x1)] [] σ (.inr (some (.int r))) σ' := by
  intro fu
  induction fu with
  | zero =>
    intro x1 σ r σ' hf
    rw [fX4_rightUpTo_L12] at hf
    cases hf
  | succ fu ih =>
    intro x1 σ r σ' hf
    rw [fX4_rightUpTo_L12] at hf
    refine ky_iload_n (n := 13) dX4_rightUpTo_12 rfl rfl 1 rfl ?_
    refine ky_aload_n (n := 14) dX4_rightUpTo_13 rfl rfl 0 rfl ?_
    refine ky_getf (q := (RX4, TX4, 12)) (v := .int (σ.1 7 3)) (n := 17) dX4_rightUpTo_14 rfl kc_7 rfl (Nat.le_of_ble_eq_true rfl) wg_X4_137 (vf_7_3 _ _) ?_
    refine ky_icmp_ge (n := 20) (tgt := 39) dX4_rightUpTo_17 rfl rfl (fun c3 => ?_) (fun c3 => ?_)
    · have hf := ky_pos c3 hf
      refine ky_iload_n (n := 40) dX4_rightUpTo_39 rfl rfl 1 rfl ?_
      cases hf
      exact ky_ireturn dX4_rightUpTo_40 rfl
    · have hf := ky_neg c3 hf
      refine ky_aload_n (n := 21) dX4_rightUpTo_20 rfl rfl 0 rfl ?_
      refine ky_aload_n (n := 22) dX4_rightUpTo_21 rfl rfl 0 rfl ?_
      refine ky_getf (q := (RX4, TX4, 12)) (v := ky_r G 10) (n := 25) dX4_rightUpTo_22 rfl kc_7 rfl (Nat.le_of_ble_eq_true rfl) wg_X4_16 (vf_7_4 _ _) ?_
      refine ky_iload_n (n := 26) dX4_rightUpTo_25 rfl rfl 1 rfl ?_
      obtain ⟨g4, hf⟩ := ky_ge hf
      refine ky_iald (n := 27) dX4_rightUpTo_26 rfl kl_10 g4 ?_
      obtain ⟨v7, s5, h6, hf⟩ := ky_bd_e hf
      refine ky_callV (kc := 0) (ks := 0) (kc2 := 0) (ks2 := 0) (k0 := 7) (as := [.int (σ.1 10 x1.toNatClampNeg)]) (st := []) (KX4_takes d (σ.1 10 x1.toNatClampNeg) σ _ _ h6) okX4_takes wl_X4_162 kc_7 (q := (RX4, TX4, 12)) rfl rfl rfl rfl (Nat.le_of_ble_eq_true rfl) dX4_rightUpTo_27 rfl ?_
      refine ky_if_eq (n := 33) (tgt := 39) dX4_rightUpTo_30 rfl rfl (fun c8 => ?_) (fun c8 => ?_)
      · have hf := ky_pos c8 hf
        refine ky_iload_n (n := 40) dX4_rightUpTo_39 rfl rfl 1 rfl ?_
        cases hf
        exact ky_ireturn dX4_rightUpTo_40 rfl
      · have hf := ky_neg c8 hf
        refine ky_iincB (c := (1 : Int32)) (n := 36) dX4_rightUpTo_33 rfl 1 rfl rfl (Nat.le_of_ble_eq_true rfl) (fun v9 ev9 => ?_)
        have hf := ky_bn_e hf v9 ev9
        refine ky_lv (lv' := [(1, .int v9), (0, ky_r G 7)]) rfl ?_
        refine ky_goto (tgt := 12) dX4_rightUpTo_36 rfl ?_
        refine ky_sub [1, 0] (lv' := [(0, ky_r G 7), (1, .int v9)]) rfl ?_
        exact ih v9 s5 _ _ hf
def fX4_rightUpTo (σ : ky_St) : Option (Int32 × ky_St) :=
  ky_bn (ky_u1 σ 7 7 (0 : Int32)) fun s1 =>
  ky_bn (ky_u1 s1 7 9 (0 : Int32)) fun s2 =>
  fX4_rightUpTo_L12 FU (0 : Int32) s2
set_option maxHeartbeats 4000000 in
set_option maxRecDepth 100000 in
theorem KX4_rightUpTo {G : ky_G} (d : Nat) (σ : ky_St) (r : Int32) (σ' : ky_St) (hf : fX4_rightUpTo σ = some (r, σ')) : ky_K G mX4_rightUpTo (d + 4) 0 0 [ky_r G 7] σ (.inr (some (.int r))) σ' := by
  unfold fX4_rightUpTo at hf
  refine ky_enter rfl (by decide +kernel) (Nat.le_of_ble_eq_true rfl) (lv := [(0, ky_r G 7)]) rfl ?_
  refine ky_aload_n (n := 1) dX4_rightUpTo_0 rfl rfl 0 rfl ?_
  refine ky_iconst (v := (0 : Int32)) (n := 2) dX4_rightUpTo_1 rfl rfl ?_
  refine ky_putf (q := (RX4, TX4, 12)) (n := 5) dX4_rightUpTo_2 rfl kc_7 rfl (Nat.le_of_ble_eq_true rfl) wg_X4_140 rfl (by decide +kernel) rfl (fun s1 es1 => ?_)
  have hf := ky_bn_e hf s1 es1
  refine ky_aload_n (n := 6) dX4_rightUpTo_5 rfl rfl 0 rfl ?_
  refine ky_iconst (v := (0 : Int32)) (n := 7) dX4_rightUpTo_6 rfl rfl ?_
  refine ky_putf (q := (RX4, TX4, 12)) (n := 10) dX4_rightUpTo_7 rfl kc_7 rfl (Nat.le_of_ble_eq_true rfl) wg_X4_146 rfl (by decide +kernel) rfl (fun s2 es2 => ?_)
  have hf := ky_bn_e hf s2 es2
  refine ky_iconst (v := (0 : Int32)) (n := 11) dX4_rightUpTo_10 rfl rfl ?_
  refine ky_istore_n (lv' := [(1, .int (0 : Int32)), (0, ky_r G 7)]) (n := 12) dX4_rightUpTo_11 rfl rfl (Nat.le_of_ble_eq_true rfl) rfl ?_
  refine ky_sub [1, 0] (lv' := [(0, ky_r G 7), (1, .int (0 : Int32))]) rfl ?_
  exact tX4_rightUpTo_L12 d FU (0 : Int32) s2 _ _ hf
def fX4_firstError (σ : ky_St) : Option (Int32 × ky_St) :=
  ky_bn (ky_u1 σ 7 5 (0 : Int32)) fun s1 =>
  ky_bd (fX4_rightUpTo s1) fun v4 s2 =>
  some (v4, s2)
set_option maxHeartbeats 4000000 in
set_option maxRecDepth 100000 in
theorem KX4_firstError {G : ky_G} (d : Nat) (σ : ky_St) (r : Int32) (σ' : ky_St) (hf : fX4_firstError σ = some (r, σ')) : ky_K G mX4_firstError (d + 5) 0 0 [ky_r G 7] σ (.inr (some (.int r))) σ' := by
  unfold fX4_firstError at hf
  refine ky_enter rfl (by decide +kernel) (Nat.le_of_ble_eq_true rfl) (lv := [(0, ky_r G 7)]) rfl ?_
  refine ky_aload_n (n := 1) dX4_firstError_0 rfl rfl 0 rfl ?_
  refine ky_iconst (v := (0 : Int32)) (n := 2) dX4_firstError_1 rfl rfl ?_
  refine ky_putf (q := (RX4, TX4, 12)) (n := 5) dX4_firstError_2 rfl kc_7 rfl (Nat.le_of_ble_eq_true rfl) wg_X4_25 rfl (by decide +kernel) rfl (fun s1 es1 => ?_)
  have hf := ky_bn_e hf s1 es1
  refine ky_aload_n (n := 6) dX4_firstError_5 rfl rfl 0 rfl ?_
  obtain ⟨v4, s2, h3, hf⟩ := ky_bd_e hf
  refine ky_callV (kc := 0) (ks := 0) (kc2 := 0) (ks2 := 0) (k0 := 7) (as := []) (st := []) (KX4_rightUpTo d s1 _ _ h3) okX4_rightUpTo wl_X4_165 kc_7 (q := (RX4, TX4, 12)) rfl rfl rfl rfl (Nat.le_of_ble_eq_true rfl) dX4_firstError_6 rfl ?_
  cases hf
  exact ky_ireturn dX4_firstError_9 rfl
def fX4_canCarry (a1 : Int32) (a2 : Int32) (a3 : Int32) (σ : ky_St) : Option (Int32 × ky_St) :=
  if a1 = (98 : Int32) then (
  ky_bd (fX4_isSet a2 σ) fun v4 s2 =>
  if v4 = 0 then (
  some ((0 : Int32), s2)) else (
  ky_bd (fX4_isInYard a2 s2) fun v8 s6 =>
  if v8 = 0 then (
  some ((1 : Int32), s6)) else (
  some ((0 : Int32), s6)))) else (
  if a1 = (104 : Int32) then (
  ky_bd (fX4_canHire a3 σ) fun v13 s11 =>
  ky_g (v13 = 0 ∨ v13 = 1) (some (v13, s11))) else (
  if a1 = (109 : Int32) then (
  ky_bd (fX4_isSet a2 σ) fun v17 s15 =>
  if v17 = 0 then (
  some ((0 : Int32), s15)) else (
  ky_bd (fX4_canMove a2 a3 s15) fun v21 s19 =>
  if v21 = 0 then (
  some ((0 : Int32), s19)) else (
  some ((1 : Int32), s19)))) else (
  ky_bd (fX4_canPass a3 σ) fun v25 s23 =>
  ky_g (v25 = 0 ∨ v25 = 1) (some (v25, s23)))))
set_option maxHeartbeats 4000000 in
set_option maxRecDepth 100000 in
theorem KX4_canCarry {G : ky_G} (d : Nat) (a1 : Int32) (a2 : Int32) (a3 : Int32) (σ : ky_St) (r : Int32) (σ' : ky_St) (hf : fX4_canCarry a1 a2 a3 σ = some (r, σ')) : ky_K G mX4_canCarry (d + 4) 0 0 [ky_r G 7, .int a1, .int a2, .int a3] σ (.inr (some (.int r))) σ' := by
  unfold fX4_canCarry at hf
  refine ky_enter rfl (by decide +kernel) (Nat.le_of_ble_eq_true rfl) (lv := [(0, ky_r G 7), (1, .int a1), (2, .int a2), (3, .int a3)]) rfl ?_
  refine ky_iload_n (n := 1) dX4_canCarry_0 rfl rfl 1 rfl ?_
  by_cases c1 : a1 = (98 : Int32)
  · have hf := ky_pos c1 hf
    refine ky_lsw (off := 64) (tgt := 65) dX4_canCarry_1 (by decide) (by rw [c1]; rfl) rfl ?_
    refine ky_aload_n (n := 66) dX4_canCarry_65 rfl rfl 0 rfl ?_
    refine ky_iload_n (n := 67) dX4_canCarry_66 rfl rfl 2 rfl ?_
    obtain ⟨v4, s2, h3, hf⟩ := ky_bd_e hf
    refine ky_callV (kc := 0) (ks := 0) (kc2 := 0) (ks2 := 0) (k0 := 7) (as := [.int a2]) (st := []) (KX4_isSet (d + 2) a2 σ _ _ h3) okX4_isSet wl_X4_67 kc_7 (q := (RX4, TX4, 12)) rfl rfl rfl rfl (Nat.le_of_ble_eq_true rfl) dX4_canCarry_67 rfl ?_
    refine ky_if_eq (n := 73) (tgt := 85) dX4_canCarry_70 rfl rfl (fun c5 => ?_) (fun c5 => ?_)
    · have hf := ky_pos c5 hf
      refine ky_iconst (v := (0 : Int32)) (n := 86) dX4_canCarry_85 rfl rfl ?_
      cases hf
      exact ky_zreturn dX4_canCarry_86 rfl (Or.inl rfl)
    · have hf := ky_neg c5 hf
      refine ky_aload_n (n := 74) dX4_canCarry_73 rfl rfl 0 rfl ?_
      refine ky_iload_n (n := 75) dX4_canCarry_74 rfl rfl 2 rfl ?_
      obtain ⟨v8, s6, h7, hf⟩ := ky_bd_e hf
      refine ky_callV (kc := 0) (ks := 0) (kc2 := 0) (ks2 := 0) (k0 := 7) (as := [.int a2]) (st := []) (KX4_isInYard (d + 2) a2 s2 _ _ h7) okX4_isInYard wl_X4_44 kc_7 (q := (RX4, TX4, 12)) rfl rfl rfl rfl (Nat.le_of_ble_eq_true rfl) dX4_canCarry_75 rfl ?_
      refine ky_if_ne (n := 81) (tgt := 85) dX4_canCarry_78 rfl rfl (fun c9 => ?_) (fun c9 => ?_)
      · have hf := ky_neg c9 hf
        refine ky_iconst (v := (0 : Int32)) (n := 86) dX4_canCarry_85 rfl rfl ?_
        cases hf
        exact ky_zreturn dX4_canCarry_86 rfl (Or.inl rfl)
      · have hf := ky_pos c9 hf
        refine ky_iconst (v := (1 : Int32)) (n := 82) dX4_canCarry_81 rfl rfl ?_
        refine ky_goto (tgt := 86) dX4_canCarry_82 rfl ?_
        cases hf
        exact ky_zreturn dX4_canCarry_86 rfl (Or.inr rfl)
  have hf := ky_neg c1 hf
  by_cases c10 : a1 = (104 : Int32)
  · have hf := ky_pos c10 hf
    refine ky_lsw (off := 35) (tgt := 36) dX4_canCarry_1 (by decide) (by rw [c10]; rfl) rfl ?_
    refine ky_aload_n (n := 37) dX4_canCarry_36 rfl rfl 0 rfl ?_
    refine ky_iload_n (n := 38) dX4_canCarry_37 rfl rfl 3 rfl ?_
    obtain ⟨v13, s11, h12, hf⟩ := ky_bd_e hf
    refine ky_callV (kc := 0) (ks := 0) (kc2 := 0) (ks2 := 0) (k0 := 7) (as := [.int a3]) (st := []) (KX4_canHire d a3 σ _ _ h12) okX4_canHire wl_X4_103 kc_7 (q := (RX4, TX4, 12)) rfl rfl rfl rfl (Nat.le_of_ble_eq_true rfl) dX4_canCarry_38 rfl ?_
    obtain ⟨gz, hf⟩ := ky_ge hf
    cases hf
    exact ky_zreturn dX4_canCarry_41 rfl gz
  have hf := ky_neg c10 hf
  by_cases c14 : a1 = (109 : Int32)
  · have hf := ky_pos c14 hf
    refine ky_lsw (off := 41) (tgt := 42) dX4_canCarry_1 (by decide) (by rw [c14]; rfl) rfl ?_
    refine ky_aload_n (n := 43) dX4_canCarry_42 rfl rfl 0 rfl ?_
    refine ky_iload_n (n := 44) dX4_canCarry_43 rfl rfl 2 rfl ?_
    obtain ⟨v17, s15, h16, hf⟩ := ky_bd_e hf
    refine ky_callV (kc := 0) (ks := 0) (kc2 := 0) (ks2 := 0) (k0 := 7) (as := [.int a2]) (st := []) (KX4_isSet (d + 2) a2 σ _ _ h16) okX4_isSet wl_X4_67 kc_7 (q := (RX4, TX4, 12)) rfl rfl rfl rfl (Nat.le_of_ble_eq_true rfl) dX4_canCarry_44 rfl ?_
    refine ky_if_eq (n := 50) (tgt := 63) dX4_canCarry_47 rfl rfl (fun c18 => ?_) (fun c18 => ?_)
    · have hf := ky_pos c18 hf
      refine ky_iconst (v := (0 : Int32)) (n := 64) dX4_canCarry_63 rfl rfl ?_
      cases hf
      exact ky_zreturn dX4_canCarry_64 rfl (Or.inl rfl)
    · have hf := ky_neg c18 hf
      refine ky_aload_n (n := 51) dX4_canCarry_50 rfl rfl 0 rfl ?_
      refine ky_iload_n (n := 52) dX4_canCarry_51 rfl rfl 2 rfl ?_
      refine ky_iload_n (n := 53) dX4_canCarry_52 rfl rfl 3 rfl ?_
      obtain ⟨v21, s19, h20, hf⟩ := ky_bd_e hf
      refine ky_callV (kc := 0) (ks := 0) (kc2 := 0) (ks2 := 0) (k0 := 7) (as := [.int a2, .int a3]) (st := []) (KX4_canMove (d + 1) a2 a3 s15 _ _ h20) okX4_canMove wl_X4_112 kc_7 (q := (RX4, TX4, 12)) rfl rfl rfl rfl (Nat.le_of_ble_eq_true rfl) dX4_canCarry_53 rfl ?_
      refine ky_if_eq (n := 59) (tgt := 63) dX4_canCarry_56 rfl rfl (fun c22 => ?_) (fun c22 => ?_)
      · have hf := ky_pos c22 hf
        refine ky_iconst (v := (0 : Int32)) (n := 64) dX4_canCarry_63 rfl rfl ?_
        cases hf
        exact ky_zreturn dX4_canCarry_64 rfl (Or.inl rfl)
      · have hf := ky_neg c22 hf
        refine ky_iconst (v := (1 : Int32)) (n := 60) dX4_canCarry_59 rfl rfl ?_
        refine ky_goto (tgt := 64) dX4_canCarry_60 rfl ?_
        cases hf
        exact ky_zreturn dX4_canCarry_64 rfl (Or.inr rfl)
  have hf := ky_neg c14 hf
  refine ky_lsw (off := 86) (tgt := 87) dX4_canCarry_1 (by decide) (by show Op.lookupswitch.offset [(98, 64), (104, 35), (109, 41)] 86 a1.toInt = 86; rw [lv_osw (a := 98) c1 rfl, lv_osw (a := 104) c10 rfl, lv_osw (a := 109) c14 rfl]; rfl) rfl ?_
  refine ky_aload_n (n := 88) dX4_canCarry_87 rfl rfl 0 rfl ?_
  refine ky_iload_n (n := 89) dX4_canCarry_88 rfl rfl 3 rfl ?_
  obtain ⟨v25, s23, h24, hf⟩ := ky_bd_e hf
  refine ky_callV (kc := 0) (ks := 0) (kc2 := 0) (ks2 := 0) (k0 := 7) (as := [.int a3]) (st := []) (KX4_canPass (d + 3) a3 σ _ _ h24) okX4_canPass wl_X4_131 kc_7 (q := (RX4, TX4, 12)) rfl rfl rfl rfl (Nat.le_of_ble_eq_true rfl) dX4_canCarry_89 rfl ?_
  obtain ⟨gz, hf⟩ := ky_ge hf
  cases hf
  exact ky_zreturn dX4_canCarry_92 rfl gz
def fX4_carries_L92 (x2 : Int32) (x4 : Int32) (y0 : Int32) (σ : ky_St) : Option (Int32 × ky_St) :=
  ky_g (¬ ((2 : Int32) < 0 ∨ 283 ≤ (2 : Int32).toNatClampNeg)) (
  if x2 = (100 : Int32) then (
  ky_g (¬ ((2 : Int32) < 0 ∨ 283 ≤ (2 : Int32).toNatClampNeg)) (
  ky_bn (ky_u1 σ 8 (2 : Int32).toNatClampNeg ((σ.1 8 (2 : Int32).toNatClampNeg) + x4)) fun s19 =>
  some ((1 : Int32), s19))) else (
  ky_g (¬ ((2 : Int32) < 0 ∨ 283 ≤ (2 : Int32).toNatClampNeg)) (
  ky_bn (ky_u1 σ 8 (2 : Int32).toNatClampNeg ((σ.1 8 (2 : Int32).toNatClampNeg) + (0 : Int32))) fun s17 =>
  some ((1 : Int32), s17))))
set_option maxHeartbeats 4000000 in
set_option maxRecDepth 100000 in
theorem tX4_carries_L92 {G : ky_G} (d : Nat) : ∀ (x2 : Int32) (x4 : Int32) (y0 : Int32) (σ : ky_St) (r : Int32) (σ' : ky_St), fX4_carries_L92 x2 x4 y0 σ = some (r, σ') → ky_T G mX4_carries (d + 5) 0 0 92 [(0, ky_r G 7), (2, .int x2), (4, .int x4)] [.int y0] σ (.inr (some (.int r))) σ' := by
  intro x2 x4 y0 σ r σ' hf
  unfold fX4_carries_L92 at hf
  refine ky_istore (lv' := [(5, .int y0), (0, ky_r G 7), (2, .int x2), (4, .int x4)]) (n := 94) dX4_carries_92 rfl (Nat.le_of_ble_eq_true rfl) rfl ?_
  refine ky_aload_n (n := 95) dX4_carries_94 rfl rfl 1 rfl ?_
  refine ky_getf (q := (RX4, TX4, 12)) (v := ky_r G 8) (n := 98) dX4_carries_95 rfl kc_7 rfl (Nat.le_of_ble_eq_true rfl) wg_X4_7 (vf_7_0 _ _) ?_
  refine ky_iconst (v := (2 : Int32)) (n := 99) dX4_carries_98 rfl rfl ?_
  refine ky_dup2 (n := 100) dX4_carries_99 rfl rfl rfl ?_
  obtain ⟨g14, hf⟩ := ky_ge hf
  refine ky_iald (n := 101) dX4_carries_100 rfl kl_8 g14 ?_
  refine ky_iload_n (n := 102) dX4_carries_101 rfl rfl 2 rfl ?_
  refine ky_bipush (v := (100 : Int32)) (n := 104) dX4_carries_102 rfl rfl ?_
  refine ky_icmp_ne (n := 107) (tgt := 112) dX4_carries_104 rfl rfl (fun c15 => ?_) (fun c15 => ?_)
  · have hf := ky_neg c15 hf
    refine ky_iconst (v := (0 : Int32)) (n := 113) dX4_carries_112 rfl rfl ?_
    refine ky_iadd (n := 114) dX4_carries_113 rfl ?_
    obtain ⟨g16, hf⟩ := ky_ge hf
    refine ky_iast (n := 115) dX4_carries_114 rfl kl_8 rfl g16 (fun s17 es17 => ?_)
    have hf := ky_bn_e hf s17 es17
    refine ky_iconst (v := (1 : Int32)) (n := 116) dX4_carries_115 rfl rfl ?_
    cases hf
    exact ky_zreturn dX4_carries_116 rfl (Or.inr rfl)
  · have hf := ky_pos c15 hf
    refine ky_iload (n := 109) dX4_carries_107 rfl 3 rfl ?_
    refine ky_goto (tgt := 113) dX4_carries_109 rfl ?_
    refine ky_iadd (n := 114) dX4_carries_113 rfl ?_
    obtain ⟨g18, hf⟩ := ky_ge hf
    refine ky_iast (n := 115) dX4_carries_114 rfl kl_8 rfl g18 (fun s19 es19 => ?_)
    have hf := ky_bn_e hf s19 es19
    refine ky_iconst (v := (1 : Int32)) (n := 116) dX4_carries_115 rfl rfl ?_
    cases hf
    exact ky_zreturn dX4_carries_116 rfl (Or.inr rfl)
def fX4_carries (a1 : Int32) (σ : ky_St) : Option (Int32 × ky_St) :=
  ky_g (¬ (((3 : Int32) * a1) < 0 ∨ 66 ≤ ((3 : Int32) * a1).toNatClampNeg)) (
  ky_bn (σ.1 11 ((3 : Int32) * a1).toNatClampNeg) fun v2 =>
  ky_g (¬ ((((3 : Int32) * a1) + (1 : Int32)) < 0 ∨ 66 ≤ (((3 : Int32) * a1) + (1 : Int32)).toNatClampNeg)) (
  ky_bn (σ.1 11 (((3 : Int32) * a1) + (1 : Int32)).toNatClampNeg) fun v4 =>
  ky_g (¬ ((((3 : Int32) * a1) + (2 : Int32)) < 0 ∨ 66 ≤ (((3 : Int32) * a1) + (2 : Int32)).toNatClampNeg)) (
  ky_bn (σ.1 11 (((3 : Int32) * a1) + (2 : Int32)).toNatClampNeg) fun v6 =>
  ky_bd (fX4_canCarry v2 v4 v6 σ) fun v9 s7 =>
  if v9 = 0 then (
  some ((0 : Int32), s7)) else (
  if v2 = (104 : Int32) then (
  ky_bd (fX4_hires v4 v6 s7) fun v28 s26 =>
  fX4_carries_L92 v2 v6 v28 s26) else (
  if v2 = (109 : Int32) then (
  ky_bd (fX4_moves v4 v6 s7) fun v25 s23 =>
  fX4_carries_L92 v2 v6 v25 s23) else (
  if v2 = (98 : Int32) then (
  ky_bd (fX4_leaves v4 s7) fun v22 s20 =>
  fX4_carries_L92 v2 v6 v22 s20) else (
  fX4_carries_L92 v2 v6 (0 : Int32) s7)))))))
set_option maxHeartbeats 4000000 in
set_option maxRecDepth 100000 in
theorem KX4_carries {G : ky_G} (d : Nat) (a1 : Int32) (σ : ky_St) (r : Int32) (σ' : ky_St) (hf : fX4_carries a1 σ = some (r, σ')) : ky_K G mX4_carries (d + 5) 0 0 [ky_r G 7, .int a1] σ (.inr (some (.int r))) σ' := by
  unfold fX4_carries at hf
  refine ky_enter rfl (by decide +kernel) (Nat.le_of_ble_eq_true rfl) (lv := [(0, ky_r G 7), (1, .int a1)]) rfl ?_
  refine ky_aload_n (n := 1) dX4_carries_0 rfl rfl 0 rfl ?_
  refine ky_getf (q := (RX4, TX4, 12)) (v := ky_r G 11) (n := 4) dX4_carries_1 rfl kc_7 rfl (Nat.le_of_ble_eq_true rfl) wg_X4_19 (vf_7_6 _ _) ?_
  refine ky_iconst (v := (3 : Int32)) (n := 5) dX4_carries_4 rfl rfl ?_
  refine ky_iload_n (n := 6) dX4_carries_5 rfl rfl 1 rfl ?_
  refine ky_imul (n := 7) dX4_carries_6 rfl ?_
  obtain ⟨g1, hf⟩ := ky_ge hf
  refine ky_iald (n := 8) dX4_carries_7 rfl kl_11 g1 ?_
  refine ky_topi (fun v2 ev2 => ?_)
  have hf := ky_bn_e hf v2 ev2
  refine ky_istore_n (lv' := [(2, .int v2), (0, ky_r G 7), (1, .int a1)]) (n := 9) dX4_carries_8 rfl rfl (Nat.le_of_ble_eq_true rfl) rfl ?_
  refine ky_aload_n (n := 10) dX4_carries_9 rfl rfl 1 rfl ?_
  refine ky_getf (q := (RX4, TX4, 12)) (v := ky_r G 11) (n := 13) dX4_carries_10 rfl kc_7 rfl (Nat.le_of_ble_eq_true rfl) wg_X4_19 (vf_7_6 _ _) ?_
  refine ky_iconst (v := (3 : Int32)) (n := 14) dX4_carries_13 rfl rfl ?_
  refine ky_iload_n (n := 15) dX4_carries_14 rfl rfl 2 rfl ?_
  refine ky_imul (n := 16) dX4_carries_15 rfl ?_
  refine ky_iconst (v := (1 : Int32)) (n := 17) dX4_carries_16 rfl rfl ?_
  refine ky_iadd (n := 18) dX4_carries_17 rfl ?_
  obtain ⟨g3, hf⟩ := ky_ge hf
  refine ky_iald (n := 19) dX4_carries_18 rfl kl_11 g3 ?_
  refine ky_topi (fun v4 ev4 => ?_)
  have hf := ky_bn_e hf v4 ev4
  refine ky_istore_n (lv' := [(3, .int v4), (2, .int v2), (0, ky_r G 7), (1, .int a1)]) (n := 20) dX4_carries_19 rfl rfl (Nat.le_of_ble_eq_true rfl) rfl ?_
  refine ky_aload_n (n := 21) dX4_carries_20 rfl rfl 2 rfl ?_
  refine ky_getf (q := (RX4, TX4, 12)) (v := ky_r G 11) (n := 24) dX4_carries_21 rfl kc_7 rfl (Nat.le_of_ble_eq_true rfl) wg_X4_19 (vf_7_6 _ _) ?_
  refine ky_iconst (v := (3 : Int32)) (n := 25) dX4_carries_24 rfl rfl ?_
  refine ky_iload_n (n := 26) dX4_carries_25 rfl rfl 3 rfl ?_
  refine ky_imul (n := 27) dX4_carries_26 rfl ?_
  refine ky_iconst (v := (2 : Int32)) (n := 28) dX4_carries_27 rfl rfl ?_
  refine ky_iadd (n := 29) dX4_carries_28 rfl ?_
  obtain ⟨g5, hf⟩ := ky_ge hf
  refine ky_iald (n := 30) dX4_carries_29 rfl kl_11 g5 ?_
  refine ky_topi (fun v6 ev6 => ?_)
  have hf := ky_bn_e hf v6 ev6
  refine ky_istore (lv' := [(4, .int v6), (3, .int v4), (2, .int v2), (0, ky_r G 7), (1, .int a1)]) (n := 32) dX4_carries_30 rfl (Nat.le_of_ble_eq_true rfl) rfl ?_
  refine ky_aload_n (n := 33) dX4_carries_32 rfl rfl 3 rfl ?_
  refine ky_iload_n (n := 34) dX4_carries_33 rfl rfl 2 rfl ?_
  refine ky_iload_n (n := 35) dX4_carries_34 rfl rfl 1 rfl ?_
  refine ky_iload (n := 37) dX4_carries_35 rfl 0 rfl ?_
  obtain ⟨v9, s7, h8, hf⟩ := ky_bd_e hf
  refine ky_callV (kc := 0) (ks := 0) (kc2 := 0) (ks2 := 0) (k0 := 7) (as := [.int v2, .int v4, .int v6]) (st := []) (KX4_canCarry d v2 v4 v6 σ _ _ h8) okX4_canCarry wl_X4_169 kc_7 (q := (RX4, TX4, 12)) rfl rfl rfl rfl (Nat.le_of_ble_eq_true rfl) dX4_carries_37 rfl ?_
  refine ky_if_ne (n := 43) (tgt := 45) dX4_carries_40 rfl rfl (fun c10 => ?_) (fun c10 => ?_)
  · have hf := ky_neg c10 hf
    refine ky_iload_n (n := 46) dX4_carries_45 rfl rfl 2 rfl ?_
    refine ky_bipush (v := (104 : Int32)) (n := 48) dX4_carries_46 rfl rfl ?_
    refine ky_icmp_ne (n := 51) (tgt := 61) dX4_carries_48 rfl rfl (fun c11 => ?_) (fun c11 => ?_)
    · have hf := ky_neg c11 hf
      refine ky_iload_n (n := 62) dX4_carries_61 rfl rfl 2 rfl ?_
      refine ky_bipush (v := (109 : Int32)) (n := 64) dX4_carries_62 rfl rfl ?_
      refine ky_icmp_ne (n := 67) (tgt := 77) dX4_carries_64 rfl rfl (fun c12 => ?_) (fun c12 => ?_)
      · have hf := ky_neg c12 hf
        refine ky_iload_n (n := 78) dX4_carries_77 rfl rfl 2 rfl ?_
        refine ky_bipush (v := (98 : Int32)) (n := 80) dX4_carries_78 rfl rfl ?_
        refine ky_icmp_ne (n := 83) (tgt := 91) dX4_carries_80 rfl rfl (fun c13 => ?_) (fun c13 => ?_)
        · have hf := ky_neg c13 hf
          refine ky_iconst (v := (0 : Int32)) (n := 92) dX4_carries_91 rfl rfl ?_
          refine ky_sub [3, 2, 0] (lv' := [(0, ky_r G 7), (2, .int v2), (4, .int v6)]) rfl ?_
          exact tX4_carries_L92 d v2 v6 (0 : Int32) s7 _ _ hf
        · have hf := ky_pos c13 hf
          refine ky_aload_n (n := 84) dX4_carries_83 rfl rfl 3 rfl ?_
          refine ky_iload_n (n := 85) dX4_carries_84 rfl rfl 1 rfl ?_
          obtain ⟨v22, s20, h21, hf⟩ := ky_bd_e hf
          refine ky_callV (kc := 0) (ks := 0) (kc2 := 0) (ks2 := 0) (k0 := 7) (as := [.int v4]) (st := []) (KX4_leaves (d + 1) v4 s7 _ _ h21) okX4_leaves wl_X4_109 kc_7 (q := (RX4, TX4, 12)) rfl rfl rfl rfl (Nat.le_of_ble_eq_true rfl) dX4_carries_85 rfl ?_
          refine ky_goto (tgt := 92) dX4_carries_88 rfl ?_
          refine ky_sub [3, 2, 0] (lv' := [(0, ky_r G 7), (2, .int v2), (4, .int v6)]) rfl ?_
          exact tX4_carries_L92 d v2 v6 v22 s20 _ _ hf
      · have hf := ky_pos c12 hf
        refine ky_aload_n (n := 68) dX4_carries_67 rfl rfl 3 rfl ?_
        refine ky_iload_n (n := 69) dX4_carries_68 rfl rfl 1 rfl ?_
        refine ky_iload (n := 71) dX4_carries_69 rfl 0 rfl ?_
        obtain ⟨v25, s23, h24, hf⟩ := ky_bd_e hf
        refine ky_callV (kc := 0) (ks := 0) (kc2 := 0) (ks2 := 0) (k0 := 7) (as := [.int v4, .int v6]) (st := []) (KX4_moves d v4 v6 s7 _ _ h24) okX4_moves wl_X4_116 kc_7 (q := (RX4, TX4, 12)) rfl rfl rfl rfl (Nat.le_of_ble_eq_true rfl) dX4_carries_71 rfl ?_
        refine ky_goto (tgt := 92) dX4_carries_74 rfl ?_
        refine ky_sub [3, 2, 0] (lv' := [(0, ky_r G 7), (2, .int v2), (4, .int v6)]) rfl ?_
        exact tX4_carries_L92 d v2 v6 v25 s23 _ _ hf
    · have hf := ky_pos c11 hf
      refine ky_aload_n (n := 52) dX4_carries_51 rfl rfl 3 rfl ?_
      refine ky_iload_n (n := 53) dX4_carries_52 rfl rfl 1 rfl ?_
      refine ky_iload (n := 55) dX4_carries_53 rfl 0 rfl ?_
      obtain ⟨v28, s26, h27, hf⟩ := ky_bd_e hf
      refine ky_callV (kc := 0) (ks := 0) (kc2 := 0) (ks2 := 0) (k0 := 7) (as := [.int v4, .int v6]) (st := []) (KX4_hires (d + 1) v4 v6 s7 _ _ h27) okX4_hires wl_X4_106 kc_7 (q := (RX4, TX4, 12)) rfl rfl rfl rfl (Nat.le_of_ble_eq_true rfl) dX4_carries_55 rfl ?_
      refine ky_goto (tgt := 92) dX4_carries_58 rfl ?_
      refine ky_sub [3, 2, 0] (lv' := [(0, ky_r G 7), (2, .int v2), (4, .int v6)]) rfl ?_
      exact tX4_carries_L92 d v2 v6 v28 s26 _ _ hf
  · have hf := ky_pos c10 hf
    refine ky_iconst (v := (0 : Int32)) (n := 44) dX4_carries_43 rfl rfl ?_
    cases hf
    exact ky_zreturn dX4_carries_44 rfl (Or.inl rfl)
def fX4_run_L57 : Nat → Int32 → ky_St → Option (Int32 × ky_St)
  | 0, _, _ => none
  | fu + 1, x2, σ =>
  if (σ.1 7 7) < x2 then (
  some (x2, σ)) else (
  ky_bd (fX4_carries x2 σ) fun v15 s13 =>
  if v15 = 0 then (
  some (x2, s13)) else (
  ky_bn (x2 + (1 : Int32)) fun v17 =>
  fX4_run_L57 fu v17 s13))
set_option maxHeartbeats 4000000 in
set_option maxRecDepth 100000 in
theorem tX4_run_L57 {G : ky_G} (d : Nat) : ∀ (fu : Nat) (x2 : Int32) (σ : ky_St) (r : Int32) (σ' : ky_St), fX4_run_L57 fu x2 σ = some (r, σ') → ky_T G mX4_run (d + 6) 0 0 57 [(0, ky_r G 7), (2, .int x2)] [] σ (.inr (some (.int r))) σ' := by
  intro fu
  induction fu with
  | zero =>
    intro x2 σ r σ' hf
    rw [fX4_run_L57] at hf
    cases hf
  | succ fu ih =>
    intro x2 σ r σ' hf
    rw [fX4_run_L57] at hf
    refine ky_iload_n (n := 58) dX4_run_57 rfl rfl 1 rfl ?_
    refine ky_aload_n (n := 59) dX4_run_58 rfl rfl 0 rfl ?_
    refine ky_getf (q := (RX4, TX4, 12)) (v := .int (σ.1 7 7)) (n := 62) dX4_run_59 rfl kc_7 rfl (Nat.le_of_ble_eq_true rfl) wg_X4_140 (vf_7_7 _ _) ?_
    refine ky_icmp_gt (n := 65) (tgt := 79) dX4_run_62 rfl rfl (fun c12 => ?_) (fun c12 => ?_)
    · have hf := ky_pos c12 hf
      refine ky_iload_n (n := 80) dX4_run_79 rfl rfl 1 rfl ?_
      cases hf
      exact ky_ireturn dX4_run_80 rfl
    · have hf := ky_neg c12 hf
      refine ky_aload_n (n := 66) dX4_run_65 rfl rfl 0 rfl ?_
      refine ky_iload_n (n := 67) dX4_run_66 rfl rfl 1 rfl ?_
      obtain ⟨v15, s13, h14, hf⟩ := ky_bd_e hf
      refine ky_callV (kc := 0) (ks := 0) (kc2 := 0) (ks2 := 0) (k0 := 7) (as := [.int x2]) (st := []) (KX4_carries d x2 σ _ _ h14) okX4_carries wl_X4_172 kc_7 (q := (RX4, TX4, 12)) rfl rfl rfl rfl (Nat.le_of_ble_eq_true rfl) dX4_run_67 rfl ?_
      refine ky_if_eq (n := 73) (tgt := 79) dX4_run_70 rfl rfl (fun c16 => ?_) (fun c16 => ?_)
      · have hf := ky_pos c16 hf
        refine ky_iload_n (n := 80) dX4_run_79 rfl rfl 1 rfl ?_
        cases hf
        exact ky_ireturn dX4_run_80 rfl
      · have hf := ky_neg c16 hf
        refine ky_iincB (c := (1 : Int32)) (n := 76) dX4_run_73 rfl 1 rfl rfl (Nat.le_of_ble_eq_true rfl) (fun v17 ev17 => ?_)
        have hf := ky_bn_e hf v17 ev17
        refine ky_lv (lv' := [(2, .int v17), (0, ky_r G 7)]) rfl ?_
        refine ky_goto (tgt := 57) dX4_run_76 rfl ?_
        refine ky_sub [1, 0] (lv' := [(0, ky_r G 7), (2, .int v17)]) rfl ?_
        exact ih v17 s13 _ _ hf
def fX4_run_L23 (y0 : Int32) (σ : ky_St) : Option (Int32 × ky_St) :=
  if y0 = 0 then (
  ky_bn (ky_u1 σ 7 5 (1 : Int32)) fun s6 =>
  if (s6.1 7 5) ≤ 0 then (
  ky_bd (fX4_save s6) fun v10 s8 =>
  ky_bn (ky_u1 s8 7 3 (0 : Int32)) fun s11 =>
  fX4_run_L57 FU (0 : Int32) s11) else (
  some ((0 : Int32), s6))) else (
  ky_bn (ky_u1 σ 7 5 (0 : Int32)) fun s18 =>
  if (s18.1 7 5) ≤ 0 then (
  ky_bd (fX4_save s18) fun v22 s20 =>
  ky_bn (ky_u1 s20 7 3 (0 : Int32)) fun s23 =>
  fX4_run_L57 FU (0 : Int32) s23) else (
  some ((0 : Int32), s18)))
set_option maxHeartbeats 4000000 in
set_option maxRecDepth 100000 in
theorem tX4_run_L23 {G : ky_G} (d : Nat) : ∀ (y0 : Int32) (σ : ky_St) (r : Int32) (σ' : ky_St), fX4_run_L23 y0 σ = some (r, σ') → ky_T G mX4_run (d + 6) 0 0 23 [(0, ky_r G 7)] [.int y0] σ (.inr (some (.int r))) σ' := by
  intro y0 σ r σ' hf
  unfold fX4_run_L23 at hf
  refine ky_istore_n (lv' := [(1, .int y0), (0, ky_r G 7)]) (n := 24) dX4_run_23 rfl rfl (Nat.le_of_ble_eq_true rfl) rfl ?_
  refine ky_aload_n (n := 25) dX4_run_24 rfl rfl 1 rfl ?_
  refine ky_iload_n (n := 26) dX4_run_25 rfl rfl 0 rfl ?_
  refine ky_if_eq (n := 29) (tgt := 33) dX4_run_26 rfl rfl (fun c5 => ?_) (fun c5 => ?_)
  · have hf := ky_pos c5 hf
    refine ky_iconst (v := (1 : Int32)) (n := 34) dX4_run_33 rfl rfl ?_
    refine ky_putf (q := (RX4, TX4, 12)) (n := 37) dX4_run_34 rfl kc_7 rfl (Nat.le_of_ble_eq_true rfl) wg_X4_25 rfl (by decide +kernel) rfl (fun s6 es6 => ?_)
    have hf := ky_bn_e hf s6 es6
    refine ky_aload_n (n := 38) dX4_run_37 rfl rfl 1 rfl ?_
    refine ky_getf (q := (RX4, TX4, 12)) (v := .int (s6.1 7 5)) (n := 41) dX4_run_38 rfl kc_7 rfl (Nat.le_of_ble_eq_true rfl) wg_X4_25 (vf_7_5 _ _) ?_
    refine ky_if_le (n := 44) (tgt := 46) dX4_run_41 rfl rfl (fun c7 => ?_) (fun c7 => ?_)
    · have hf := ky_pos c7 hf
      refine ky_aload_n (n := 47) dX4_run_46 rfl rfl 1 rfl ?_
      obtain ⟨v10, s8, h9, hf⟩ := ky_bd_e hf
      refine ky_callV (kc := 0) (ks := 0) (kc2 := 0) (ks2 := 0) (k0 := 7) (as := []) (st := []) (KX4_save (d + 5) s6 _ _ h9) okX4_save wl_X4_54 kc_7 (q := (RX4, TX4, 12)) rfl rfl rfl rfl (Nat.le_of_ble_eq_true rfl) dX4_run_47 rfl ?_
      refine ky_aload_n (n := 51) dX4_run_50 rfl rfl 1 rfl ?_
      refine ky_iconst (v := (0 : Int32)) (n := 52) dX4_run_51 rfl rfl ?_
      refine ky_putf (q := (RX4, TX4, 12)) (n := 55) dX4_run_52 rfl kc_7 rfl (Nat.le_of_ble_eq_true rfl) wg_X4_137 rfl (by decide +kernel) rfl (fun s11 es11 => ?_)
      have hf := ky_bn_e hf s11 es11
      refine ky_iconst (v := (0 : Int32)) (n := 56) dX4_run_55 rfl rfl ?_
      refine ky_istore_n (lv' := [(2, .int (0 : Int32)), (1, .int y0), (0, ky_r G 7)]) (n := 57) dX4_run_56 rfl rfl (Nat.le_of_ble_eq_true rfl) rfl ?_
      refine ky_sub [2, 0] (lv' := [(0, ky_r G 7), (2, .int (0 : Int32))]) rfl ?_
      exact tX4_run_L57 d FU (0 : Int32) s11 _ _ hf
    · have hf := ky_neg c7 hf
      refine ky_iconst (v := (0 : Int32)) (n := 45) dX4_run_44 rfl rfl ?_
      cases hf
      exact ky_ireturn dX4_run_45 rfl
  · have hf := ky_neg c5 hf
    refine ky_iconst (v := (0 : Int32)) (n := 30) dX4_run_29 rfl rfl ?_
    refine ky_goto (tgt := 34) dX4_run_30 rfl ?_
    refine ky_putf (q := (RX4, TX4, 12)) (n := 37) dX4_run_34 rfl kc_7 rfl (Nat.le_of_ble_eq_true rfl) wg_X4_25 rfl (by decide +kernel) rfl (fun s18 es18 => ?_)
    have hf := ky_bn_e hf s18 es18
    refine ky_aload_n (n := 38) dX4_run_37 rfl rfl 1 rfl ?_
    refine ky_getf (q := (RX4, TX4, 12)) (v := .int (s18.1 7 5)) (n := 41) dX4_run_38 rfl kc_7 rfl (Nat.le_of_ble_eq_true rfl) wg_X4_25 (vf_7_5 _ _) ?_
    refine ky_if_le (n := 44) (tgt := 46) dX4_run_41 rfl rfl (fun c19 => ?_) (fun c19 => ?_)
    · have hf := ky_pos c19 hf
      refine ky_aload_n (n := 47) dX4_run_46 rfl rfl 1 rfl ?_
      obtain ⟨v22, s20, h21, hf⟩ := ky_bd_e hf
      refine ky_callV (kc := 0) (ks := 0) (kc2 := 0) (ks2 := 0) (k0 := 7) (as := []) (st := []) (KX4_save (d + 5) s18 _ _ h21) okX4_save wl_X4_54 kc_7 (q := (RX4, TX4, 12)) rfl rfl rfl rfl (Nat.le_of_ble_eq_true rfl) dX4_run_47 rfl ?_
      refine ky_aload_n (n := 51) dX4_run_50 rfl rfl 1 rfl ?_
      refine ky_iconst (v := (0 : Int32)) (n := 52) dX4_run_51 rfl rfl ?_
      refine ky_putf (q := (RX4, TX4, 12)) (n := 55) dX4_run_52 rfl kc_7 rfl (Nat.le_of_ble_eq_true rfl) wg_X4_137 rfl (by decide +kernel) rfl (fun s23 es23 => ?_)
      have hf := ky_bn_e hf s23 es23
      refine ky_iconst (v := (0 : Int32)) (n := 56) dX4_run_55 rfl rfl ?_
      refine ky_istore_n (lv' := [(2, .int (0 : Int32)), (1, .int y0), (0, ky_r G 7)]) (n := 57) dX4_run_56 rfl rfl (Nat.le_of_ble_eq_true rfl) rfl ?_
      refine ky_sub [2, 0] (lv' := [(0, ky_r G 7), (2, .int (0 : Int32))]) rfl ?_
      exact tX4_run_L57 d FU (0 : Int32) s23 _ _ hf
    · have hf := ky_neg c19 hf
      refine ky_iconst (v := (0 : Int32)) (n := 45) dX4_run_44 rfl rfl ?_
      cases hf
      exact ky_ireturn dX4_run_45 rfl
def fX4_run_L22 (σ : ky_St) : Option (Int32 × ky_St) :=
  fX4_run_L23 (0 : Int32) σ
set_option maxHeartbeats 4000000 in
set_option maxRecDepth 100000 in
theorem tX4_run_L22 {G : ky_G} (d : Nat) : ∀ (σ : ky_St) (r : Int32) (σ' : ky_St), fX4_run_L22 σ = some (r, σ') → ky_T G mX4_run (d + 6) 0 0 22 [(0, ky_r G 7)] [] σ (.inr (some (.int r))) σ' := by
  intro σ r σ' hf
  unfold fX4_run_L22 at hf
  refine ky_iconst (v := (0 : Int32)) (n := 23) dX4_run_22 rfl rfl ?_
  refine ky_sub [0] (lv' := [(0, ky_r G 7)]) rfl ?_
  exact tX4_run_L23 d (0 : Int32) σ _ _ hf
def fX4_run (σ : ky_St) : Option (Int32 × ky_St) :=
  ky_bd (fX4_rightUpTo σ) fun v3 s1 =>
  if v3 = (s1.1 7 3) then (
  ky_bd (fX4_isEnded s1) fun v26 s24 =>
  if v26 = 0 then (
  fX4_run_L22 s24) else (
  fX4_run_L23 (1 : Int32) s24)) else (
  fX4_run_L22 s1)
set_option maxHeartbeats 4000000 in
set_option maxRecDepth 100000 in
theorem KX4_run {G : ky_G} (d : Nat) (σ : ky_St) (r : Int32) (σ' : ky_St) (hf : fX4_run σ = some (r, σ')) : ky_K G mX4_run (d + 6) 0 0 [ky_r G 7] σ (.inr (some (.int r))) σ' := by
  unfold fX4_run at hf
  refine ky_enter rfl (by decide +kernel) (Nat.le_of_ble_eq_true rfl) (lv := [(0, ky_r G 7)]) rfl ?_
  refine ky_aload_n (n := 1) dX4_run_0 rfl rfl 0 rfl ?_
  obtain ⟨v3, s1, h2, hf⟩ := ky_bd_e hf
  refine ky_callV (kc := 0) (ks := 0) (kc2 := 0) (ks2 := 0) (k0 := 7) (as := []) (st := []) (KX4_rightUpTo (d + 1) σ _ _ h2) okX4_rightUpTo wl_X4_165 kc_7 (q := (RX4, TX4, 12)) rfl rfl rfl rfl (Nat.le_of_ble_eq_true rfl) dX4_run_1 rfl ?_
  refine ky_aload_n (n := 5) dX4_run_4 rfl rfl 0 rfl ?_
  refine ky_getf (q := (RX4, TX4, 12)) (v := .int (s1.1 7 3)) (n := 8) dX4_run_5 rfl kc_7 rfl (Nat.le_of_ble_eq_true rfl) wg_X4_137 (vf_7_3 _ _) ?_
  refine ky_icmp_ne (n := 11) (tgt := 22) dX4_run_8 rfl rfl (fun c4 => ?_) (fun c4 => ?_)
  · have hf := ky_neg c4 hf
    refine ky_sub [0] (lv' := [(0, ky_r G 7)]) rfl ?_
    exact tX4_run_L22 d s1 _ _ hf
  · have hf := ky_pos c4 hf
    refine ky_aload_n (n := 12) dX4_run_11 rfl rfl 0 rfl ?_
    obtain ⟨v26, s24, h25, hf⟩ := ky_bd_e hf
    refine ky_callV (kc := 0) (ks := 0) (kc2 := 0) (ks2 := 0) (k0 := 7) (as := []) (st := []) (KX4_isEnded (d + 5) s1 _ _ h25) okX4_isEnded wl_X4_149 kc_7 (q := (RX4, TX4, 12)) rfl rfl rfl rfl (Nat.le_of_ble_eq_true rfl) dX4_run_12 rfl ?_
    refine ky_if_eq (n := 18) (tgt := 22) dX4_run_15 rfl rfl (fun c27 => ?_) (fun c27 => ?_)
    · have hf := ky_pos c27 hf
      refine ky_sub [0] (lv' := [(0, ky_r G 7)]) rfl ?_
      exact tX4_run_L22 d s24 _ _ hf
    · have hf := ky_neg c27 hf
      refine ky_iconst (v := (1 : Int32)) (n := 19) dX4_run_18 rfl rfl ?_
      refine ky_goto (tgt := 23) dX4_run_19 rfl ?_
      refine ky_sub [0] (lv' := [(0, ky_r G 7)]) rfl ?_
      exact tX4_run_L23 d (1 : Int32) s24 _ _ hf
def fX4_undo_L37 : Nat → Int32 → ky_St → Option (Int32 × ky_St)
  | 0, _, _ => none
  | fu + 1, x1, σ =>
  if (283 : Int32) ≤ x1 then (
  some ((σ.1 7 1), σ)) else (
  ky_g (¬ ((((283 : Int32) * (σ.1 7 1)) + x1) < 0 ∨ 1698 ≤ (((283 : Int32) * (σ.1 7 1)) + x1).toNatClampNeg)) (
  ky_g (¬ (x1 < 0 ∨ 283 ≤ x1.toNatClampNeg)) (
  ky_bn (ky_u1 σ 8 x1.toNatClampNeg (σ.1 9 (((283 : Int32) * (σ.1 7 1)) + x1).toNatClampNeg)) fun s8 =>
  ky_bn (x1 + (1 : Int32)) fun v9 =>
  fX4_undo_L37 fu v9 s8)))
set_option maxHeartbeats 4000000 in
set_option maxRecDepth 100000 in
theorem tX4_undo_L37 {G : ky_G} (d : Nat) : ∀ (fu : Nat) (x1 : Int32) (σ : ky_St) (r : Int32) (σ' : ky_St), fX4_undo_L37 fu x1 σ = some (r, σ') → ky_T G mX4_undo d 0 0 37 [(0, ky_r G 7), (1, .int x1)] [] σ (.inr (some (.int r))) σ' := by
  intro fu
  induction fu with
  | zero =>
    intro x1 σ r σ' hf
    rw [fX4_undo_L37] at hf
    cases hf
  | succ fu ih =>
    intro x1 σ r σ' hf
    rw [fX4_undo_L37] at hf
    refine ky_iload_n (n := 38) dX4_undo_37 rfl rfl 1 rfl ?_
    refine ky_sipush (v := (283 : Int32)) (n := 41) dX4_undo_38 rfl rfl ?_
    refine ky_icmp_ge (n := 44) (tgt := 71) dX4_undo_41 rfl rfl (fun c5 => ?_) (fun c5 => ?_)
    · have hf := ky_pos c5 hf
      refine ky_aload_n (n := 72) dX4_undo_71 rfl rfl 0 rfl ?_
      refine ky_getf (q := (RX4, TX4, 12)) (v := .int (σ.1 7 1)) (n := 75) dX4_undo_72 rfl kc_7 rfl (Nat.le_of_ble_eq_true rfl) wg_X4_29 (vf_7_1 _ _) ?_
      cases hf
      exact ky_ireturn dX4_undo_75 rfl
    · have hf := ky_neg c5 hf
      refine ky_aload_n (n := 45) dX4_undo_44 rfl rfl 0 rfl ?_
      refine ky_getf (q := (RX4, TX4, 12)) (v := ky_r G 8) (n := 48) dX4_undo_45 rfl kc_7 rfl (Nat.le_of_ble_eq_true rfl) wg_X4_7 (vf_7_0 _ _) ?_
      refine ky_iload_n (n := 49) dX4_undo_48 rfl rfl 1 rfl ?_
      refine ky_aload_n (n := 50) dX4_undo_49 rfl rfl 0 rfl ?_
      refine ky_getf (q := (RX4, TX4, 12)) (v := ky_r G 9) (n := 53) dX4_undo_50 rfl kc_7 rfl (Nat.le_of_ble_eq_true rfl) wg_X4_13 (vf_7_2 _ _) ?_
      refine ky_sipush (v := (283 : Int32)) (n := 56) dX4_undo_53 rfl rfl ?_
      refine ky_aload_n (n := 57) dX4_undo_56 rfl rfl 0 rfl ?_
      refine ky_getf (q := (RX4, TX4, 12)) (v := .int (σ.1 7 1)) (n := 60) dX4_undo_57 rfl kc_7 rfl (Nat.le_of_ble_eq_true rfl) wg_X4_29 (vf_7_1 _ _) ?_
      refine ky_imul (n := 61) dX4_undo_60 rfl ?_
      refine ky_iload_n (n := 62) dX4_undo_61 rfl rfl 1 rfl ?_
      refine ky_iadd (n := 63) dX4_undo_62 rfl ?_
      obtain ⟨g6, hf⟩ := ky_ge hf
      refine ky_iald (n := 64) dX4_undo_63 rfl kl_9 g6 ?_
      obtain ⟨g7, hf⟩ := ky_ge hf
      refine ky_iast (n := 65) dX4_undo_64 rfl kl_8 rfl g7 (fun s8 es8 => ?_)
      have hf := ky_bn_e hf s8 es8
      refine ky_iincB (c := (1 : Int32)) (n := 68) dX4_undo_65 rfl 1 rfl rfl (Nat.le_of_ble_eq_true rfl) (fun v9 ev9 => ?_)
      have hf := ky_bn_e hf v9 ev9
      refine ky_lv (lv' := [(1, .int v9), (0, ky_r G 7)]) rfl ?_
      refine ky_goto (tgt := 37) dX4_undo_68 rfl ?_
      refine ky_sub [1, 0] (lv' := [(0, ky_r G 7), (1, .int v9)]) rfl ?_
      exact ih v9 s8 _ _ hf
def fX4_undo (σ : ky_St) : Option (Int32 × ky_St) :=
  if (σ.1 7 1) ≤ 0 then (
  ky_bn (ky_u1 σ 7 5 (1 : Int32)) fun s2 =>
  if (s2.1 7 5) ≤ 0 then (
  ky_bn (ky_u1 s2 7 1 ((s2.1 7 1) - (1 : Int32))) fun s4 =>
  fX4_undo_L37 FU (0 : Int32) s4) else (
  some ((0 : Int32), s2))) else (
  ky_bn (ky_u1 σ 7 5 (0 : Int32)) fun s10 =>
  if (s10.1 7 5) ≤ 0 then (
  ky_bn (ky_u1 s10 7 1 ((s10.1 7 1) - (1 : Int32))) fun s12 =>
  fX4_undo_L37 FU (0 : Int32) s12) else (
  some ((0 : Int32), s10)))
set_option maxHeartbeats 4000000 in
set_option maxRecDepth 100000 in
theorem KX4_undo {G : ky_G} (d : Nat) (σ : ky_St) (r : Int32) (σ' : ky_St) (hf : fX4_undo σ = some (r, σ')) : ky_K G mX4_undo d 0 0 [ky_r G 7] σ (.inr (some (.int r))) σ' := by
  unfold fX4_undo at hf
  refine ky_enter rfl (by decide +kernel) (Nat.le_of_ble_eq_true rfl) (lv := [(0, ky_r G 7)]) rfl ?_
  refine ky_aload_n (n := 1) dX4_undo_0 rfl rfl 0 rfl ?_
  refine ky_aload_n (n := 2) dX4_undo_1 rfl rfl 0 rfl ?_
  refine ky_getf (q := (RX4, TX4, 12)) (v := .int (σ.1 7 1)) (n := 5) dX4_undo_2 rfl kc_7 rfl (Nat.le_of_ble_eq_true rfl) wg_X4_29 (vf_7_1 _ _) ?_
  refine ky_if_le (n := 8) (tgt := 12) dX4_undo_5 rfl rfl (fun c1 => ?_) (fun c1 => ?_)
  · have hf := ky_pos c1 hf
    refine ky_iconst (v := (1 : Int32)) (n := 13) dX4_undo_12 rfl rfl ?_
    refine ky_putf (q := (RX4, TX4, 12)) (n := 16) dX4_undo_13 rfl kc_7 rfl (Nat.le_of_ble_eq_true rfl) wg_X4_25 rfl (by decide +kernel) rfl (fun s2 es2 => ?_)
    have hf := ky_bn_e hf s2 es2
    refine ky_aload_n (n := 17) dX4_undo_16 rfl rfl 0 rfl ?_
    refine ky_getf (q := (RX4, TX4, 12)) (v := .int (s2.1 7 5)) (n := 20) dX4_undo_17 rfl kc_7 rfl (Nat.le_of_ble_eq_true rfl) wg_X4_25 (vf_7_5 _ _) ?_
    refine ky_if_le (n := 23) (tgt := 25) dX4_undo_20 rfl rfl (fun c3 => ?_) (fun c3 => ?_)
    · have hf := ky_pos c3 hf
      refine ky_aload_n (n := 26) dX4_undo_25 rfl rfl 0 rfl ?_
      refine ky_dup (n := 27) dX4_undo_26 rfl rfl ?_
      refine ky_getf (q := (RX4, TX4, 12)) (v := .int (s2.1 7 1)) (n := 30) dX4_undo_27 rfl kc_7 rfl (Nat.le_of_ble_eq_true rfl) wg_X4_29 (vf_7_1 _ _) ?_
      refine ky_iconst (v := (1 : Int32)) (n := 31) dX4_undo_30 rfl rfl ?_
      refine ky_isub (n := 32) dX4_undo_31 rfl ?_
      refine ky_putf (q := (RX4, TX4, 12)) (n := 35) dX4_undo_32 rfl kc_7 rfl (Nat.le_of_ble_eq_true rfl) wg_X4_29 rfl (by decide +kernel) rfl (fun s4 es4 => ?_)
      have hf := ky_bn_e hf s4 es4
      refine ky_iconst (v := (0 : Int32)) (n := 36) dX4_undo_35 rfl rfl ?_
      refine ky_istore_n (lv' := [(1, .int (0 : Int32)), (0, ky_r G 7)]) (n := 37) dX4_undo_36 rfl rfl (Nat.le_of_ble_eq_true rfl) rfl ?_
      refine ky_sub [1, 0] (lv' := [(0, ky_r G 7), (1, .int (0 : Int32))]) rfl ?_
      exact tX4_undo_L37 d FU (0 : Int32) s4 _ _ hf
    · have hf := ky_neg c3 hf
      refine ky_iconst (v := (0 : Int32)) (n := 24) dX4_undo_23 rfl rfl ?_
      cases hf
      exact ky_ireturn dX4_undo_24 rfl
  · have hf := ky_neg c1 hf
    refine ky_iconst (v := (0 : Int32)) (n := 9) dX4_undo_8 rfl rfl ?_
    refine ky_goto (tgt := 13) dX4_undo_9 rfl ?_
    refine ky_putf (q := (RX4, TX4, 12)) (n := 16) dX4_undo_13 rfl kc_7 rfl (Nat.le_of_ble_eq_true rfl) wg_X4_25 rfl (by decide +kernel) rfl (fun s10 es10 => ?_)
    have hf := ky_bn_e hf s10 es10
    refine ky_aload_n (n := 17) dX4_undo_16 rfl rfl 0 rfl ?_
    refine ky_getf (q := (RX4, TX4, 12)) (v := .int (s10.1 7 5)) (n := 20) dX4_undo_17 rfl kc_7 rfl (Nat.le_of_ble_eq_true rfl) wg_X4_25 (vf_7_5 _ _) ?_
    refine ky_if_le (n := 23) (tgt := 25) dX4_undo_20 rfl rfl (fun c11 => ?_) (fun c11 => ?_)
    · have hf := ky_pos c11 hf
      refine ky_aload_n (n := 26) dX4_undo_25 rfl rfl 0 rfl ?_
      refine ky_dup (n := 27) dX4_undo_26 rfl rfl ?_
      refine ky_getf (q := (RX4, TX4, 12)) (v := .int (s10.1 7 1)) (n := 30) dX4_undo_27 rfl kc_7 rfl (Nat.le_of_ble_eq_true rfl) wg_X4_29 (vf_7_1 _ _) ?_
      refine ky_iconst (v := (1 : Int32)) (n := 31) dX4_undo_30 rfl rfl ?_
      refine ky_isub (n := 32) dX4_undo_31 rfl ?_
      refine ky_putf (q := (RX4, TX4, 12)) (n := 35) dX4_undo_32 rfl kc_7 rfl (Nat.le_of_ble_eq_true rfl) wg_X4_29 rfl (by decide +kernel) rfl (fun s12 es12 => ?_)
      have hf := ky_bn_e hf s12 es12
      refine ky_iconst (v := (0 : Int32)) (n := 36) dX4_undo_35 rfl rfl ?_
      refine ky_istore_n (lv' := [(1, .int (0 : Int32)), (0, ky_r G 7)]) (n := 37) dX4_undo_36 rfl rfl (Nat.le_of_ble_eq_true rfl) rfl ?_
      refine ky_sub [1, 0] (lv' := [(0, ky_r G 7), (1, .int (0 : Int32))]) rfl ?_
      exact tX4_undo_L37 d FU (0 : Int32) s12 _ _ hf
    · have hf := ky_neg c11 hf
      refine ky_iconst (v := (0 : Int32)) (n := 24) dX4_undo_23 rfl rfl ?_
      cases hf
      exact ky_ireturn dX4_undo_24 rfl
def fX4_bundleNow (a1 : Int32) (a2 : Int32) (σ : ky_St) : Option (Int32 × ky_St) :=
  if a2 = (0 : Int32) then (
  ky_bd (fX4_of a1 a2 σ) fun v4 s2 =>
  some (v4, s2)) else (
  if a2 = (1 : Int32) then (
  ky_bd (fX4_of a1 a2 σ) fun v8 s6 =>
  some (v8, s6)) else (
  if a2 = (2 : Int32) then (
  ky_bd (fX4_isWhole a1 σ) fun v12 s10 =>
  if v12 = 0 then (
  some ((0 : Int32), s10)) else (
  some ((1 : Int32), s10))) else (
  if a2 = (3 : Int32) then (
  ky_bd (fX4_partsOf a1 σ) fun v17 s15 =>
  some (v17, s15)) else (
  if a2 = (4 : Int32) then (
  ky_bd (fX4_of a1 (((6 : Int32) + a2) - (4 : Int32)) σ) fun v21 s19 =>
  some (v21, s19)) else (
  if a2 = (5 : Int32) then (
  ky_bd (fX4_of a1 (((6 : Int32) + a2) - (4 : Int32)) σ) fun v25 s23 =>
  some (v25, s23)) else (
  if a2 = (6 : Int32) then (
  ky_bd (fX4_of a1 (((6 : Int32) + a2) - (4 : Int32)) σ) fun v29 s27 =>
  some (v29, s27)) else (
  if a2 = (7 : Int32) then (
  ky_bd (fX4_dueIn a1 (0 : Int32) σ) fun v33 s31 =>
  some (v33, s31)) else (
  if a2 = (8 : Int32) then (
  ky_bd (fX4_of a1 (9 : Int32) σ) fun v37 s35 =>
  some (v37, s35)) else (
  ky_bd (fX4_of a1 (((2 : Int32) + a2) - (10 : Int32)) σ) fun v40 s38 =>
  some (v40, s38))))))))))
set_option maxHeartbeats 4000000 in
set_option maxRecDepth 100000 in
theorem KX4_bundleNow {G : ky_G} (d : Nat) (a1 : Int32) (a2 : Int32) (σ : ky_St) (r : Int32) (σ' : ky_St) (hf : fX4_bundleNow a1 a2 σ = some (r, σ')) : ky_K G mX4_bundleNow (d + 3) 0 0 [ky_r G 7, .int a1, .int a2] σ (.inr (some (.int r))) σ' := by
  unfold fX4_bundleNow at hf
  refine ky_enter rfl (by decide +kernel) (Nat.le_of_ble_eq_true rfl) (lv := [(0, ky_r G 7), (1, .int a1), (2, .int a2)]) rfl ?_
  refine ky_iload_n (n := 1) dX4_bundleNow_0 rfl rfl 2 rfl ?_
  by_cases c1 : a2 = (0 : Int32)
  · have hf := ky_pos c1 hf
    refine ky_tsIn (off := 51) (tgt := 52) dX4_bundleNow_1 (by rw [c1]; decide) (by rw [c1]; decide) (by rw [c1]; rfl) rfl ?_
    refine ky_aload_n (n := 53) dX4_bundleNow_52 rfl rfl 0 rfl ?_
    refine ky_iload_n (n := 54) dX4_bundleNow_53 rfl rfl 1 rfl ?_
    refine ky_iload_n (n := 55) dX4_bundleNow_54 rfl rfl 2 rfl ?_
    obtain ⟨v4, s2, h3, hf⟩ := ky_bd_e hf
    refine ky_callV (kc := 0) (ks := 0) (kc2 := 0) (ks2 := 0) (k0 := 7) (as := [.int a1, .int a2]) (st := []) (KX4_of (d + 2) a1 a2 σ _ _ h3) okX4_of wl_X4_36 kc_7 (q := (RX4, TX4, 12)) rfl rfl rfl rfl (Nat.le_of_ble_eq_true rfl) dX4_bundleNow_55 rfl ?_
    cases hf
    exact ky_ireturn dX4_bundleNow_58 rfl
  have hf := ky_neg c1 hf
  by_cases c5 : a2 = (1 : Int32)
  · have hf := ky_pos c5 hf
    refine ky_tsIn (off := 51) (tgt := 52) dX4_bundleNow_1 (by rw [c5]; decide) (by rw [c5]; decide) (by rw [c5]; rfl) rfl ?_
    refine ky_aload_n (n := 53) dX4_bundleNow_52 rfl rfl 0 rfl ?_
    refine ky_iload_n (n := 54) dX4_bundleNow_53 rfl rfl 1 rfl ?_
    refine ky_iload_n (n := 55) dX4_bundleNow_54 rfl rfl 2 rfl ?_
    obtain ⟨v8, s6, h7, hf⟩ := ky_bd_e hf
    refine ky_callV (kc := 0) (ks := 0) (kc2 := 0) (ks2 := 0) (k0 := 7) (as := [.int a1, .int a2]) (st := []) (KX4_of (d + 2) a1 a2 σ _ _ h7) okX4_of wl_X4_36 kc_7 (q := (RX4, TX4, 12)) rfl rfl rfl rfl (Nat.le_of_ble_eq_true rfl) dX4_bundleNow_55 rfl ?_
    cases hf
    exact ky_ireturn dX4_bundleNow_58 rfl
  have hf := ky_neg c5 hf
  by_cases c9 : a2 = (2 : Int32)
  · have hf := ky_pos c9 hf
    refine ky_tsIn (off := 58) (tgt := 59) dX4_bundleNow_1 (by rw [c9]; decide) (by rw [c9]; decide) (by rw [c9]; rfl) rfl ?_
    refine ky_aload_n (n := 60) dX4_bundleNow_59 rfl rfl 0 rfl ?_
    refine ky_iload_n (n := 61) dX4_bundleNow_60 rfl rfl 1 rfl ?_
    obtain ⟨v12, s10, h11, hf⟩ := ky_bd_e hf
    refine ky_callV (kc := 0) (ks := 0) (kc2 := 0) (ks2 := 0) (k0 := 7) (as := [.int a1]) (st := []) (KX4_isWhole (d + 1) a1 σ _ _ h11) okX4_isWhole wl_X4_48 kc_7 (q := (RX4, TX4, 12)) rfl rfl rfl rfl (Nat.le_of_ble_eq_true rfl) dX4_bundleNow_61 rfl ?_
    refine ky_if_eq (n := 67) (tgt := 71) dX4_bundleNow_64 rfl rfl (fun c13 => ?_) (fun c13 => ?_)
    · have hf := ky_pos c13 hf
      refine ky_iconst (v := (0 : Int32)) (n := 72) dX4_bundleNow_71 rfl rfl ?_
      cases hf
      exact ky_ireturn dX4_bundleNow_72 rfl
    · have hf := ky_neg c13 hf
      refine ky_iconst (v := (1 : Int32)) (n := 68) dX4_bundleNow_67 rfl rfl ?_
      refine ky_goto (tgt := 72) dX4_bundleNow_68 rfl ?_
      cases hf
      exact ky_ireturn dX4_bundleNow_72 rfl
  have hf := ky_neg c9 hf
  by_cases c14 : a2 = (3 : Int32)
  · have hf := ky_pos c14 hf
    refine ky_tsIn (off := 72) (tgt := 73) dX4_bundleNow_1 (by rw [c14]; decide) (by rw [c14]; decide) (by rw [c14]; rfl) rfl ?_
    refine ky_aload_n (n := 74) dX4_bundleNow_73 rfl rfl 0 rfl ?_
    refine ky_iload_n (n := 75) dX4_bundleNow_74 rfl rfl 1 rfl ?_
    obtain ⟨v17, s15, h16, hf⟩ := ky_bd_e hf
    refine ky_callV (kc := 0) (ks := 0) (kc2 := 0) (ks2 := 0) (k0 := 7) (as := [.int a1]) (st := []) (KX4_partsOf (d + 1) a1 σ _ _ h16) okX4_partsOf wl_X4_86 kc_7 (q := (RX4, TX4, 12)) rfl rfl rfl rfl (Nat.le_of_ble_eq_true rfl) dX4_bundleNow_75 rfl ?_
    cases hf
    exact ky_ireturn dX4_bundleNow_78 rfl
  have hf := ky_neg c14 hf
  by_cases c18 : a2 = (4 : Int32)
  · have hf := ky_pos c18 hf
    refine ky_tsIn (off := 78) (tgt := 79) dX4_bundleNow_1 (by rw [c18]; decide) (by rw [c18]; decide) (by rw [c18]; rfl) rfl ?_
    refine ky_aload_n (n := 80) dX4_bundleNow_79 rfl rfl 0 rfl ?_
    refine ky_iload_n (n := 81) dX4_bundleNow_80 rfl rfl 1 rfl ?_
    refine ky_bipush (v := (6 : Int32)) (n := 83) dX4_bundleNow_81 rfl rfl ?_
    refine ky_iload_n (n := 84) dX4_bundleNow_83 rfl rfl 2 rfl ?_
    refine ky_iadd (n := 85) dX4_bundleNow_84 rfl ?_
    refine ky_iconst (v := (4 : Int32)) (n := 86) dX4_bundleNow_85 rfl rfl ?_
    refine ky_isub (n := 87) dX4_bundleNow_86 rfl ?_
    obtain ⟨v21, s19, h20, hf⟩ := ky_bd_e hf
    refine ky_callV (kc := 0) (ks := 0) (kc2 := 0) (ks2 := 0) (k0 := 7) (as := [.int a1, .int (((6 : Int32) + a2) - (4 : Int32))]) (st := []) (KX4_of (d + 2) a1 (((6 : Int32) + a2) - (4 : Int32)) σ _ _ h20) okX4_of wl_X4_36 kc_7 (q := (RX4, TX4, 12)) rfl rfl rfl rfl (Nat.le_of_ble_eq_true rfl) dX4_bundleNow_87 rfl ?_
    cases hf
    exact ky_ireturn dX4_bundleNow_90 rfl
  have hf := ky_neg c18 hf
  by_cases c22 : a2 = (5 : Int32)
  · have hf := ky_pos c22 hf
    refine ky_tsIn (off := 78) (tgt := 79) dX4_bundleNow_1 (by rw [c22]; decide) (by rw [c22]; decide) (by rw [c22]; rfl) rfl ?_
    refine ky_aload_n (n := 80) dX4_bundleNow_79 rfl rfl 0 rfl ?_
    refine ky_iload_n (n := 81) dX4_bundleNow_80 rfl rfl 1 rfl ?_
    refine ky_bipush (v := (6 : Int32)) (n := 83) dX4_bundleNow_81 rfl rfl ?_
    refine ky_iload_n (n := 84) dX4_bundleNow_83 rfl rfl 2 rfl ?_
    refine ky_iadd (n := 85) dX4_bundleNow_84 rfl ?_
    refine ky_iconst (v := (4 : Int32)) (n := 86) dX4_bundleNow_85 rfl rfl ?_
    refine ky_isub (n := 87) dX4_bundleNow_86 rfl ?_
    obtain ⟨v25, s23, h24, hf⟩ := ky_bd_e hf
    refine ky_callV (kc := 0) (ks := 0) (kc2 := 0) (ks2 := 0) (k0 := 7) (as := [.int a1, .int (((6 : Int32) + a2) - (4 : Int32))]) (st := []) (KX4_of (d + 2) a1 (((6 : Int32) + a2) - (4 : Int32)) σ _ _ h24) okX4_of wl_X4_36 kc_7 (q := (RX4, TX4, 12)) rfl rfl rfl rfl (Nat.le_of_ble_eq_true rfl) dX4_bundleNow_87 rfl ?_
    cases hf
    exact ky_ireturn dX4_bundleNow_90 rfl
  have hf := ky_neg c22 hf
  by_cases c26 : a2 = (6 : Int32)
  · have hf := ky_pos c26 hf
    refine ky_tsIn (off := 78) (tgt := 79) dX4_bundleNow_1 (by rw [c26]; decide) (by rw [c26]; decide) (by rw [c26]; rfl) rfl ?_
    refine ky_aload_n (n := 80) dX4_bundleNow_79 rfl rfl 0 rfl ?_
    refine ky_iload_n (n := 81) dX4_bundleNow_80 rfl rfl 1 rfl ?_
    refine ky_bipush (v := (6 : Int32)) (n := 83) dX4_bundleNow_81 rfl rfl ?_
    refine ky_iload_n (n := 84) dX4_bundleNow_83 rfl rfl 2 rfl ?_
    refine ky_iadd (n := 85) dX4_bundleNow_84 rfl ?_
    refine ky_iconst (v := (4 : Int32)) (n := 86) dX4_bundleNow_85 rfl rfl ?_
    refine ky_isub (n := 87) dX4_bundleNow_86 rfl ?_
    obtain ⟨v29, s27, h28, hf⟩ := ky_bd_e hf
    refine ky_callV (kc := 0) (ks := 0) (kc2 := 0) (ks2 := 0) (k0 := 7) (as := [.int a1, .int (((6 : Int32) + a2) - (4 : Int32))]) (st := []) (KX4_of (d + 2) a1 (((6 : Int32) + a2) - (4 : Int32)) σ _ _ h28) okX4_of wl_X4_36 kc_7 (q := (RX4, TX4, 12)) rfl rfl rfl rfl (Nat.le_of_ble_eq_true rfl) dX4_bundleNow_87 rfl ?_
    cases hf
    exact ky_ireturn dX4_bundleNow_90 rfl
  have hf := ky_neg c26 hf
  by_cases c30 : a2 = (7 : Int32)
  · have hf := ky_pos c30 hf
    refine ky_tsIn (off := 90) (tgt := 91) dX4_bundleNow_1 (by rw [c30]; decide) (by rw [c30]; decide) (by rw [c30]; rfl) rfl ?_
    refine ky_aload_n (n := 92) dX4_bundleNow_91 rfl rfl 0 rfl ?_
    refine ky_iload_n (n := 93) dX4_bundleNow_92 rfl rfl 1 rfl ?_
    refine ky_iconst (v := (0 : Int32)) (n := 94) dX4_bundleNow_93 rfl rfl ?_
    obtain ⟨v33, s31, h32, hf⟩ := ky_bd_e hf
    refine ky_callV (kc := 0) (ks := 0) (kc2 := 0) (ks2 := 0) (k0 := 7) (as := [.int a1, .int (0 : Int32)]) (st := []) (KX4_dueIn d a1 (0 : Int32) σ _ _ h32) okX4_dueIn wl_X4_89 kc_7 (q := (RX4, TX4, 12)) rfl rfl rfl rfl (Nat.le_of_ble_eq_true rfl) dX4_bundleNow_94 rfl ?_
    cases hf
    exact ky_ireturn dX4_bundleNow_97 rfl
  have hf := ky_neg c30 hf
  by_cases c34 : a2 = (8 : Int32)
  · have hf := ky_pos c34 hf
    refine ky_tsIn (off := 97) (tgt := 98) dX4_bundleNow_1 (by rw [c34]; decide) (by rw [c34]; decide) (by rw [c34]; rfl) rfl ?_
    refine ky_aload_n (n := 99) dX4_bundleNow_98 rfl rfl 0 rfl ?_
    refine ky_iload_n (n := 100) dX4_bundleNow_99 rfl rfl 1 rfl ?_
    refine ky_bipush (v := (9 : Int32)) (n := 102) dX4_bundleNow_100 rfl rfl ?_
    obtain ⟨v37, s35, h36, hf⟩ := ky_bd_e hf
    refine ky_callV (kc := 0) (ks := 0) (kc2 := 0) (ks2 := 0) (k0 := 7) (as := [.int a1, .int (9 : Int32)]) (st := []) (KX4_of (d + 2) a1 (9 : Int32) σ _ _ h36) okX4_of wl_X4_36 kc_7 (q := (RX4, TX4, 12)) rfl rfl rfl rfl (Nat.le_of_ble_eq_true rfl) dX4_bundleNow_102 rfl ?_
    cases hf
    exact ky_ireturn dX4_bundleNow_105 rfl
  have hf := ky_neg c34 hf
  have zc1 : a2.toInt ≠ 0 := ky_swn c1
  have zc5 : a2.toInt ≠ 1 := ky_swn c5
  have zc9 : a2.toInt ≠ 2 := ky_swn c9
  have zc14 : a2.toInt ≠ 3 := ky_swn c14
  have zc18 : a2.toInt ≠ 4 := ky_swn c18
  have zc22 : a2.toInt ≠ 5 := ky_swn c22
  have zc26 : a2.toInt ≠ 6 := ky_swn c26
  have zc30 : a2.toInt ≠ 7 := ky_swn c30
  have zc34 : a2.toInt ≠ 8 := ky_swn c34
  refine ky_tsOut (tgt := 106) dX4_bundleNow_1 (by omega) rfl ?_
  refine ky_aload_n (n := 107) dX4_bundleNow_106 rfl rfl 0 rfl ?_
  refine ky_iload_n (n := 108) dX4_bundleNow_107 rfl rfl 1 rfl ?_
  refine ky_iconst (v := (2 : Int32)) (n := 109) dX4_bundleNow_108 rfl rfl ?_
  refine ky_iload_n (n := 110) dX4_bundleNow_109 rfl rfl 2 rfl ?_
  refine ky_iadd (n := 111) dX4_bundleNow_110 rfl ?_
  refine ky_bipush (v := (10 : Int32)) (n := 113) dX4_bundleNow_111 rfl rfl ?_
  refine ky_isub (n := 114) dX4_bundleNow_113 rfl ?_
  obtain ⟨v40, s38, h39, hf⟩ := ky_bd_e hf
  refine ky_callV (kc := 0) (ks := 0) (kc2 := 0) (ks2 := 0) (k0 := 7) (as := [.int a1, .int (((2 : Int32) + a2) - (10 : Int32))]) (st := []) (KX4_of (d + 2) a1 (((2 : Int32) + a2) - (10 : Int32)) σ _ _ h39) okX4_of wl_X4_36 kc_7 (q := (RX4, TX4, 12)) rfl rfl rfl rfl (Nat.le_of_ble_eq_true rfl) dX4_bundleNow_114 rfl ?_
  cases hf
  exact ky_ireturn dX4_bundleNow_117 rfl
def fX4_bundle (a1 : Int32) (a2 : Int32) (σ : ky_St) : Option (Int32 × ky_St) :=
  ky_bd (fX4_isSet a1 σ) fun v3 s1 =>
  if v3 = 0 then (
  ky_bn (ky_u1 s1 7 5 (1 : Int32)) fun s28 =>
  if (s28.1 7 5) ≤ 0 then (
  ky_bd (fX4_bundleNow a1 a2 s28) fun v32 s30 =>
  some (v32, s30)) else (
  some ((0 : Int32), s28))) else (
  ky_bd (fX4_within a2 (0 : Int32) (8 : Int32) s1) fun v7 s5 =>
  if v7 = 0 then (
  ky_bd (fX4_within a2 (10 : Int32) (13 : Int32) s5) fun v16 s14 =>
  if v16 = 0 then (
  ky_bn (ky_u1 s14 7 5 (2 : Int32)) fun s18 =>
  if (s18.1 7 5) ≤ 0 then (
  ky_bd (fX4_bundleNow a1 a2 s18) fun v22 s20 =>
  some (v22, s20)) else (
  some ((0 : Int32), s18))) else (
  ky_bn (ky_u1 s14 7 5 (0 : Int32)) fun s23 =>
  if (s23.1 7 5) ≤ 0 then (
  ky_bd (fX4_bundleNow a1 a2 s23) fun v27 s25 =>
  some (v27, s25)) else (
  some ((0 : Int32), s23)))) else (
  ky_bn (ky_u1 s5 7 5 (0 : Int32)) fun s9 =>
  if (s9.1 7 5) ≤ 0 then (
  ky_bd (fX4_bundleNow a1 a2 s9) fun v13 s11 =>
  some (v13, s11)) else (
  some ((0 : Int32), s9))))
set_option maxHeartbeats 4000000 in
set_option maxRecDepth 100000 in
theorem KX4_bundle {G : ky_G} (d : Nat) (a1 : Int32) (a2 : Int32) (σ : ky_St) (r : Int32) (σ' : ky_St) (hf : fX4_bundle a1 a2 σ = some (r, σ')) : ky_K G mX4_bundle (d + 4) 0 0 [ky_r G 7, .int a1, .int a2] σ (.inr (some (.int r))) σ' := by
  unfold fX4_bundle at hf
  refine ky_enter rfl (by decide +kernel) (Nat.le_of_ble_eq_true rfl) (lv := [(0, ky_r G 7), (1, .int a1), (2, .int a2)]) rfl ?_
  refine ky_aload_n (n := 1) dX4_bundle_0 rfl rfl 0 rfl ?_
  refine ky_aload_n (n := 2) dX4_bundle_1 rfl rfl 0 rfl ?_
  refine ky_iload_n (n := 3) dX4_bundle_2 rfl rfl 1 rfl ?_
  obtain ⟨v3, s1, h2, hf⟩ := ky_bd_e hf
  refine ky_callV (kc := 0) (ks := 0) (kc2 := 0) (ks2 := 0) (k0 := 7) (as := [.int a1]) (st := [ky_r G 7]) (KX4_isSet (d + 2) a1 σ _ _ h2) okX4_isSet wl_X4_67 kc_7 (q := (RX4, TX4, 12)) rfl rfl rfl rfl (Nat.le_of_ble_eq_true rfl) dX4_bundle_3 rfl ?_
  refine ky_if_ne (n := 9) (tgt := 13) dX4_bundle_6 rfl rfl (fun c4 => ?_) (fun c4 => ?_)
  · have hf := ky_neg c4 hf
    refine ky_iload_n (n := 14) dX4_bundle_13 rfl rfl 2 rfl ?_
    refine ky_iconst (v := (0 : Int32)) (n := 15) dX4_bundle_14 rfl rfl ?_
    refine ky_bipush (v := (8 : Int32)) (n := 17) dX4_bundle_15 rfl rfl ?_
    obtain ⟨v7, s5, h6, hf⟩ := ky_bd_e hf
    refine ky_callS (kc := 0) (ks := 0) (kc2 := 0) (ks2 := 0) (as := [.int a2, .int (0 : Int32), .int (8 : Int32)]) (st := [ky_r G 7]) (KX4_within (d + 3) a2 (0 : Int32) (8 : Int32) s1 _ _ h6) okX4_within wl_X4_32 rfl rfl (Nat.le_of_ble_eq_true rfl) dX4_bundle_17 rfl ?_
    refine ky_if_ne (n := 23) (tgt := 34) dX4_bundle_20 rfl rfl (fun c8 => ?_) (fun c8 => ?_)
    · have hf := ky_neg c8 hf
      refine ky_iconst (v := (0 : Int32)) (n := 35) dX4_bundle_34 rfl rfl ?_
      refine ky_goto (tgt := 39) dX4_bundle_35 rfl ?_
      refine ky_putf (q := (RX4, TX4, 12)) (n := 42) dX4_bundle_39 rfl kc_7 rfl (Nat.le_of_ble_eq_true rfl) wg_X4_25 rfl (by decide +kernel) rfl (fun s9 es9 => ?_)
      have hf := ky_bn_e hf s9 es9
      refine ky_aload_n (n := 43) dX4_bundle_42 rfl rfl 0 rfl ?_
      refine ky_getf (q := (RX4, TX4, 12)) (v := .int (s9.1 7 5)) (n := 46) dX4_bundle_43 rfl kc_7 rfl (Nat.le_of_ble_eq_true rfl) wg_X4_25 (vf_7_5 _ _) ?_
      refine ky_if_le (n := 49) (tgt := 53) dX4_bundle_46 rfl rfl (fun c10 => ?_) (fun c10 => ?_)
      · have hf := ky_pos c10 hf
        refine ky_aload_n (n := 54) dX4_bundle_53 rfl rfl 0 rfl ?_
        refine ky_iload_n (n := 55) dX4_bundle_54 rfl rfl 1 rfl ?_
        refine ky_iload_n (n := 56) dX4_bundle_55 rfl rfl 2 rfl ?_
        obtain ⟨v13, s11, h12, hf⟩ := ky_bd_e hf
        refine ky_callV (kc := 0) (ks := 0) (kc2 := 0) (ks2 := 0) (k0 := 7) (as := [.int a1, .int a2]) (st := []) (KX4_bundleNow d a1 a2 s9 _ _ h12) okX4_bundleNow wl_X4_175 kc_7 (q := (RX4, TX4, 12)) rfl rfl rfl rfl (Nat.le_of_ble_eq_true rfl) dX4_bundle_56 rfl ?_
        cases hf
        exact ky_ireturn dX4_bundle_59 rfl
      · have hf := ky_neg c10 hf
        refine ky_iconst (v := (0 : Int32)) (n := 50) dX4_bundle_49 rfl rfl ?_
        refine ky_goto (tgt := 59) dX4_bundle_50 rfl ?_
        cases hf
        exact ky_ireturn dX4_bundle_59 rfl
    · have hf := ky_pos c8 hf
      refine ky_iload_n (n := 24) dX4_bundle_23 rfl rfl 2 rfl ?_
      refine ky_bipush (v := (10 : Int32)) (n := 26) dX4_bundle_24 rfl rfl ?_
      refine ky_bipush (v := (13 : Int32)) (n := 28) dX4_bundle_26 rfl rfl ?_
      obtain ⟨v16, s14, h15, hf⟩ := ky_bd_e hf
      refine ky_callS (kc := 0) (ks := 0) (kc2 := 0) (ks2 := 0) (as := [.int a2, .int (10 : Int32), .int (13 : Int32)]) (st := [ky_r G 7]) (KX4_within (d + 3) a2 (10 : Int32) (13 : Int32) s5 _ _ h15) okX4_within wl_X4_32 rfl rfl (Nat.le_of_ble_eq_true rfl) dX4_bundle_28 rfl ?_
      refine ky_if_eq (n := 34) (tgt := 38) dX4_bundle_31 rfl rfl (fun c17 => ?_) (fun c17 => ?_)
      · have hf := ky_pos c17 hf
        refine ky_iconst (v := (2 : Int32)) (n := 39) dX4_bundle_38 rfl rfl ?_
        refine ky_putf (q := (RX4, TX4, 12)) (n := 42) dX4_bundle_39 rfl kc_7 rfl (Nat.le_of_ble_eq_true rfl) wg_X4_25 rfl (by decide +kernel) rfl (fun s18 es18 => ?_)
        have hf := ky_bn_e hf s18 es18
        refine ky_aload_n (n := 43) dX4_bundle_42 rfl rfl 0 rfl ?_
        refine ky_getf (q := (RX4, TX4, 12)) (v := .int (s18.1 7 5)) (n := 46) dX4_bundle_43 rfl kc_7 rfl (Nat.le_of_ble_eq_true rfl) wg_X4_25 (vf_7_5 _ _) ?_
        refine ky_if_le (n := 49) (tgt := 53) dX4_bundle_46 rfl rfl (fun c19 => ?_) (fun c19 => ?_)
        · have hf := ky_pos c19 hf
          refine ky_aload_n (n := 54) dX4_bundle_53 rfl rfl 0 rfl ?_
          refine ky_iload_n (n := 55) dX4_bundle_54 rfl rfl 1 rfl ?_
          refine ky_iload_n (n := 56) dX4_bundle_55 rfl rfl 2 rfl ?_
          obtain ⟨v22, s20, h21, hf⟩ := ky_bd_e hf
          refine ky_callV (kc := 0) (ks := 0) (kc2 := 0) (ks2 := 0) (k0 := 7) (as := [.int a1, .int a2]) (st := []) (KX4_bundleNow d a1 a2 s18 _ _ h21) okX4_bundleNow wl_X4_175 kc_7 (q := (RX4, TX4, 12)) rfl rfl rfl rfl (Nat.le_of_ble_eq_true rfl) dX4_bundle_56 rfl ?_
          cases hf
          exact ky_ireturn dX4_bundle_59 rfl
        · have hf := ky_neg c19 hf
          refine ky_iconst (v := (0 : Int32)) (n := 50) dX4_bundle_49 rfl rfl ?_
          refine ky_goto (tgt := 59) dX4_bundle_50 rfl ?_
          cases hf
          exact ky_ireturn dX4_bundle_59 rfl
      · have hf := ky_neg c17 hf
        refine ky_iconst (v := (0 : Int32)) (n := 35) dX4_bundle_34 rfl rfl ?_
        refine ky_goto (tgt := 39) dX4_bundle_35 rfl ?_
        refine ky_putf (q := (RX4, TX4, 12)) (n := 42) dX4_bundle_39 rfl kc_7 rfl (Nat.le_of_ble_eq_true rfl) wg_X4_25 rfl (by decide +kernel) rfl (fun s23 es23 => ?_)
        have hf := ky_bn_e hf s23 es23
        refine ky_aload_n (n := 43) dX4_bundle_42 rfl rfl 0 rfl ?_
        refine ky_getf (q := (RX4, TX4, 12)) (v := .int (s23.1 7 5)) (n := 46) dX4_bundle_43 rfl kc_7 rfl (Nat.le_of_ble_eq_true rfl) wg_X4_25 (vf_7_5 _ _) ?_
        refine ky_if_le (n := 49) (tgt := 53) dX4_bundle_46 rfl rfl (fun c24 => ?_) (fun c24 => ?_)
        · have hf := ky_pos c24 hf
          refine ky_aload_n (n := 54) dX4_bundle_53 rfl rfl 0 rfl ?_
          refine ky_iload_n (n := 55) dX4_bundle_54 rfl rfl 1 rfl ?_
          refine ky_iload_n (n := 56) dX4_bundle_55 rfl rfl 2 rfl ?_
          obtain ⟨v27, s25, h26, hf⟩ := ky_bd_e hf
          refine ky_callV (kc := 0) (ks := 0) (kc2 := 0) (ks2 := 0) (k0 := 7) (as := [.int a1, .int a2]) (st := []) (KX4_bundleNow d a1 a2 s23 _ _ h26) okX4_bundleNow wl_X4_175 kc_7 (q := (RX4, TX4, 12)) rfl rfl rfl rfl (Nat.le_of_ble_eq_true rfl) dX4_bundle_56 rfl ?_
          cases hf
          exact ky_ireturn dX4_bundle_59 rfl
        · have hf := ky_neg c24 hf
          refine ky_iconst (v := (0 : Int32)) (n := 50) dX4_bundle_49 rfl rfl ?_
          refine ky_goto (tgt := 59) dX4_bundle_50 rfl ?_
          cases hf
          exact ky_ireturn dX4_bundle_59 rfl
  · have hf := ky_pos c4 hf
    refine ky_iconst (v := (1 : Int32)) (n := 10) dX4_bundle_9 rfl rfl ?_
    refine ky_goto (tgt := 39) dX4_bundle_10 rfl ?_
    refine ky_putf (q := (RX4, TX4, 12)) (n := 42) dX4_bundle_39 rfl kc_7 rfl (Nat.le_of_ble_eq_true rfl) wg_X4_25 rfl (by decide +kernel) rfl (fun s28 es28 => ?_)
    have hf := ky_bn_e hf s28 es28
    refine ky_aload_n (n := 43) dX4_bundle_42 rfl rfl 0 rfl ?_
    refine ky_getf (q := (RX4, TX4, 12)) (v := .int (s28.1 7 5)) (n := 46) dX4_bundle_43 rfl kc_7 rfl (Nat.le_of_ble_eq_true rfl) wg_X4_25 (vf_7_5 _ _) ?_
    refine ky_if_le (n := 49) (tgt := 53) dX4_bundle_46 rfl rfl (fun c29 => ?_) (fun c29 => ?_)
    · have hf := ky_pos c29 hf
      refine ky_aload_n (n := 54) dX4_bundle_53 rfl rfl 0 rfl ?_
      refine ky_iload_n (n := 55) dX4_bundle_54 rfl rfl 1 rfl ?_
      refine ky_iload_n (n := 56) dX4_bundle_55 rfl rfl 2 rfl ?_
      obtain ⟨v32, s30, h31, hf⟩ := ky_bd_e hf
      refine ky_callV (kc := 0) (ks := 0) (kc2 := 0) (ks2 := 0) (k0 := 7) (as := [.int a1, .int a2]) (st := []) (KX4_bundleNow d a1 a2 s28 _ _ h31) okX4_bundleNow wl_X4_175 kc_7 (q := (RX4, TX4, 12)) rfl rfl rfl rfl (Nat.le_of_ble_eq_true rfl) dX4_bundle_56 rfl ?_
      cases hf
      exact ky_ireturn dX4_bundle_59 rfl
    · have hf := ky_neg c29 hf
      refine ky_iconst (v := (0 : Int32)) (n := 50) dX4_bundle_49 rfl rfl ?_
      refine ky_goto (tgt := 59) dX4_bundle_50 rfl ?_
      cases hf
      exact ky_ireturn dX4_bundle_59 rfl
def fX4_sumOnSite_L68 (rec5 : Int32 → Int32 → Int32 → Int32 → ky_St → Option (Int32 × ky_St)) (x1 : Int32) (x2 : Int32) (x3 : Int32) (x4 : Int32) (y0 : Int32) (σ : ky_St) : Option (Int32 × ky_St) :=
  ky_bd (fX4_of x4 (0 : Int32) σ) fun v13 s11 =>
  if v13 = x1 then (
  ky_bn (x3 + y0) fun v17 =>
  ky_bn (x4 + (1 : Int32)) fun v18 =>
  rec5 x1 x2 v17 v18 s11) else (
  ky_bn (x3 + (0 : Int32)) fun v15 =>
  ky_bn (x4 + (1 : Int32)) fun v16 =>
  rec5 x1 x2 v15 v16 s11)
set_option maxHeartbeats 4000000 in
set_option maxRecDepth 100000 in
theorem tX4_sumOnSite_L68 {G : ky_G} {rec5 : Int32 → Int32 → Int32 → Int32 → ky_St → Option (Int32 × ky_St)} (d : Nat) (hrec5 : ∀ (x1 : Int32) (x2 : Int32) (x3 : Int32) (x4 : Int32) (σ : ky_St) (r : Int32) (σ' : ky_St), rec5 x1 x2 x3 x4 σ = some (r, σ') → ky_T G mX4_sumOnSite (d + 3) 0 0 5 [(0, ky_r G 7), (1, .int x1), (2, .int x2), (3, .int x3), (4, .int x4)] [] σ (.inr (some (.int r))) σ') : ∀ (x1 : Int32) (x2 : Int32) (x3 : Int32) (x4 : Int32) (y0 : Int32) (σ : ky_St) (r : Int32) (σ' : ky_St), fX4_sumOnSite_L68 rec5 x1 x2 x3 x4 y0 σ = some (r, σ') → ky_T G mX4_sumOnSite (d + 3) 0 0 68 [(0, ky_r G 7), (1, .int x1), (2, .int x2), (3, .int x3), (4, .int x4)] [.int y0] σ (.inr (some (.int r))) σ' := by
  intro x1 x2 x3 x4 y0 σ r σ' hf
  unfold fX4_sumOnSite_L68 at hf
  refine ky_istore (lv' := [(5, .int y0), (0, ky_r G 7), (1, .int x1), (2, .int x2), (3, .int x3), (4, .int x4)]) (n := 70) dX4_sumOnSite_68 rfl (Nat.le_of_ble_eq_true rfl) rfl ?_
  refine ky_iload_n (n := 71) dX4_sumOnSite_70 rfl rfl 4 rfl ?_
  refine ky_aload_n (n := 72) dX4_sumOnSite_71 rfl rfl 1 rfl ?_
  refine ky_iload (n := 74) dX4_sumOnSite_72 rfl 5 rfl ?_
  refine ky_iconst (v := (0 : Int32)) (n := 75) dX4_sumOnSite_74 rfl rfl ?_
  obtain ⟨v13, s11, h12, hf⟩ := ky_bd_e hf
  refine ky_callV (kc := 0) (ks := 0) (kc2 := 0) (ks2 := 0) (k0 := 7) (as := [.int x4, .int (0 : Int32)]) (st := [.int x3]) (KX4_of (d + 2) x4 (0 : Int32) σ _ _ h12) okX4_of wl_X4_36 kc_7 (q := (RX4, TX4, 12)) rfl rfl rfl rfl (Nat.le_of_ble_eq_true rfl) dX4_sumOnSite_75 rfl ?_
  refine ky_iload_n (n := 79) dX4_sumOnSite_78 rfl rfl 2 rfl ?_
  refine ky_icmp_ne (n := 82) (tgt := 87) dX4_sumOnSite_79 rfl rfl (fun c14 => ?_) (fun c14 => ?_)
  · have hf := ky_neg c14 hf
    refine ky_iconst (v := (0 : Int32)) (n := 88) dX4_sumOnSite_87 rfl rfl ?_
    refine ky_iadd (n := 89) dX4_sumOnSite_88 rfl ?_
    refine ky_topi (fun v15 ev15 => ?_)
    have hf := ky_bn_e hf v15 ev15
    refine ky_istore_n (lv' := [(3, .int v15), (5, .int y0), (0, ky_r G 7), (1, .int x1), (2, .int x2), (4, .int x4)]) (n := 90) dX4_sumOnSite_89 rfl rfl (Nat.le_of_ble_eq_true rfl) rfl ?_
    refine ky_iincB (c := (1 : Int32)) (n := 93) dX4_sumOnSite_90 rfl 5 rfl rfl (Nat.le_of_ble_eq_true rfl) (fun v16 ev16 => ?_)
    have hf := ky_bn_e hf v16 ev16
    refine ky_lv (lv' := [(4, .int v16), (3, .int v15), (5, .int y0), (0, ky_r G 7), (1, .int x1), (2, .int x2)]) rfl ?_
    refine ky_goto (tgt := 5) dX4_sumOnSite_93 rfl ?_
    refine ky_sub [3, 4, 5, 1, 0] (lv' := [(0, ky_r G 7), (1, .int x1), (2, .int x2), (3, .int v15), (4, .int v16)]) rfl ?_
    exact hrec5 x1 x2 v15 v16 s11 _ _ hf
  · have hf := ky_pos c14 hf
    refine ky_iload (n := 84) dX4_sumOnSite_82 rfl 0 rfl ?_
    refine ky_goto (tgt := 88) dX4_sumOnSite_84 rfl ?_
    refine ky_iadd (n := 89) dX4_sumOnSite_88 rfl ?_
    refine ky_topi (fun v17 ev17 => ?_)
    have hf := ky_bn_e hf v17 ev17
    refine ky_istore_n (lv' := [(3, .int v17), (5, .int y0), (0, ky_r G 7), (1, .int x1), (2, .int x2), (4, .int x4)]) (n := 90) dX4_sumOnSite_89 rfl rfl (Nat.le_of_ble_eq_true rfl) rfl ?_
    refine ky_iincB (c := (1 : Int32)) (n := 93) dX4_sumOnSite_90 rfl 5 rfl rfl (Nat.le_of_ble_eq_true rfl) (fun v18 ev18 => ?_)
    have hf := ky_bn_e hf v18 ev18
    refine ky_lv (lv' := [(4, .int v18), (3, .int v17), (5, .int y0), (0, ky_r G 7), (1, .int x1), (2, .int x2)]) rfl ?_
    refine ky_goto (tgt := 5) dX4_sumOnSite_93 rfl ?_
    refine ky_sub [3, 4, 5, 1, 0] (lv' := [(0, ky_r G 7), (1, .int x1), (2, .int x2), (3, .int v17), (4, .int v18)]) rfl ?_
    exact hrec5 x1 x2 v17 v18 s11 _ _ hf
def fX4_sumOnSite_L5 : Nat → Int32 → Int32 → Int32 → Int32 → ky_St → Option (Int32 × ky_St)
  | 0, _, _, _, _, _ => none
  | fu + 1, x1, x2, x3, x4, σ =>
  ky_g (¬ ((3 : Int32) < 0 ∨ 283 ≤ (3 : Int32).toNatClampNeg)) (
  if (σ.1 8 (3 : Int32).toNatClampNeg) ≤ x4 then (
  some (x3, σ)) else (
  if x2 = 0 then (
  fX4_sumOnSite_L68 (fX4_sumOnSite_L5 fu) x1 x2 x3 x4 (1 : Int32) σ) else (
  if x2 = (6 : Int32) then (
  ky_bd (fX4_dueIn x4 (0 : Int32) σ) fun v21 s19 =>
  fX4_sumOnSite_L68 (fX4_sumOnSite_L5 fu) x1 x2 x3 x4 v21 s19) else (
  ky_g (¬ ((2 : Int32) < 0 ∨ 283 ≤ (2 : Int32).toNatClampNeg)) (
  ky_bd (fX4_of x4 (1 : Int32) σ) fun v8 s6 =>
  ky_g (¬ ((0 : Int32) < 0 ∨ 283 ≤ (0 : Int32).toNatClampNeg)) (
  if (s6.1 8 (0 : Int32).toNatClampNeg) ≤ ((σ.1 8 (2 : Int32).toNatClampNeg) - v8) then (
  fX4_sumOnSite_L68 (fX4_sumOnSite_L5 fu) x1 x2 x3 x4 (0 : Int32) s6) else (
  fX4_sumOnSite_L68 (fX4_sumOnSite_L5 fu) x1 x2 x3 x4 (1 : Int32) s6)))))))
set_option maxHeartbeats 4000000 in
set_option maxRecDepth 100000 in
theorem tX4_sumOnSite_L5 {G : ky_G} (d : Nat) : ∀ (fu : Nat) (x1 : Int32) (x2 : Int32) (x3 : Int32) (x4 : Int32) (σ : ky_St) (r : Int32) (σ' : ky_St), fX4_sumOnSite_L5 fu x1 x2 x3 x4 σ = some (r, σ') → ky_T G mX4_sumOnSite (d + 3) 0 0 5 [(0, ky_r G 7), (1, .int x1), (2, .int x2), (3, .int x3), (4, .int x4)] [] σ (.inr (some (.int r))) σ' := by
  intro fu
  induction fu with
  | zero =>
    intro x1 x2 x3 x4 σ r σ' hf
    rw [fX4_sumOnSite_L5] at hf
    cases hf
  | succ fu ih =>
    intro x1 x2 x3 x4 σ r σ' hf
    rw [fX4_sumOnSite_L5] at hf
    refine ky_iload (n := 7) dX4_sumOnSite_5 rfl 4 rfl ?_
    refine ky_aload_n (n := 8) dX4_sumOnSite_7 rfl rfl 0 rfl ?_
    refine ky_getf (q := (RX4, TX4, 12)) (v := ky_r G 8) (n := 11) dX4_sumOnSite_8 rfl kc_7 rfl (Nat.le_of_ble_eq_true rfl) wg_X4_7 (vf_7_0 _ _) ?_
    refine ky_iconst (v := (3 : Int32)) (n := 12) dX4_sumOnSite_11 rfl rfl ?_
    obtain ⟨g1, hf⟩ := ky_ge hf
    refine ky_iald (n := 13) dX4_sumOnSite_12 rfl kl_8 g1 ?_
    refine ky_icmp_ge (n := 16) (tgt := 96) dX4_sumOnSite_13 rfl rfl (fun c2 => ?_) (fun c2 => ?_)
    · have hf := ky_pos c2 hf
      refine ky_iload_n (n := 97) dX4_sumOnSite_96 rfl rfl 3 rfl ?_
      cases hf
      exact ky_ireturn dX4_sumOnSite_97 rfl
    · have hf := ky_neg c2 hf
      refine ky_iload_n (n := 17) dX4_sumOnSite_16 rfl rfl 2 rfl ?_
      refine ky_if_ne (n := 20) (tgt := 24) dX4_sumOnSite_17 rfl rfl (fun c3 => ?_) (fun c3 => ?_)
      · have hf := ky_neg c3 hf
        refine ky_iload_n (n := 25) dX4_sumOnSite_24 rfl rfl 2 rfl ?_
        refine ky_bipush (v := (6 : Int32)) (n := 27) dX4_sumOnSite_25 rfl rfl ?_
        refine ky_icmp_ne (n := 30) (tgt := 40) dX4_sumOnSite_27 rfl rfl (fun c4 => ?_) (fun c4 => ?_)
        · have hf := ky_neg c4 hf
          refine ky_aload_n (n := 41) dX4_sumOnSite_40 rfl rfl 0 rfl ?_
          refine ky_getf (q := (RX4, TX4, 12)) (v := ky_r G 8) (n := 44) dX4_sumOnSite_41 rfl kc_7 rfl (Nat.le_of_ble_eq_true rfl) wg_X4_7 (vf_7_0 _ _) ?_
          refine ky_iconst (v := (2 : Int32)) (n := 45) dX4_sumOnSite_44 rfl rfl ?_
          obtain ⟨g5, hf⟩ := ky_ge hf
          refine ky_iald (n := 46) dX4_sumOnSite_45 rfl kl_8 g5 ?_
          refine ky_aload_n (n := 47) dX4_sumOnSite_46 rfl rfl 0 rfl ?_
          refine ky_iload (n := 49) dX4_sumOnSite_47 rfl 4 rfl ?_
          refine ky_iconst (v := (1 : Int32)) (n := 50) dX4_sumOnSite_49 rfl rfl ?_
          obtain ⟨v8, s6, h7, hf⟩ := ky_bd_e hf
          refine ky_callV (kc := 0) (ks := 0) (kc2 := 0) (ks2 := 0) (k0 := 7) (as := [.int x4, .int (1 : Int32)]) (st := [.int (σ.1 8 (2 : Int32).toNatClampNeg)]) (KX4_of (d + 2) x4 (1 : Int32) σ _ _ h7) okX4_of wl_X4_36 kc_7 (q := (RX4, TX4, 12)) rfl rfl rfl rfl (Nat.le_of_ble_eq_true rfl) dX4_sumOnSite_50 rfl ?_
          refine ky_isub (n := 54) dX4_sumOnSite_53 rfl ?_
          refine ky_aload_n (n := 55) dX4_sumOnSite_54 rfl rfl 0 rfl ?_
          refine ky_getf (q := (RX4, TX4, 12)) (v := ky_r G 8) (n := 58) dX4_sumOnSite_55 rfl kc_7 rfl (Nat.le_of_ble_eq_true rfl) wg_X4_7 (vf_7_0 _ _) ?_
          refine ky_iconst (v := (0 : Int32)) (n := 59) dX4_sumOnSite_58 rfl rfl ?_
          obtain ⟨g9, hf⟩ := ky_ge hf
          refine ky_iald (n := 60) dX4_sumOnSite_59 rfl kl_8 g9 ?_
          refine ky_icmp_ge (n := 63) (tgt := 67) dX4_sumOnSite_60 rfl rfl (fun c10 => ?_) (fun c10 => ?_)
          · have hf := ky_pos c10 hf
            refine ky_iconst (v := (0 : Int32)) (n := 68) dX4_sumOnSite_67 rfl rfl ?_
            refine ky_sub [0, 1, 2, 3, 4] (lv' := [(0, ky_r G 7), (1, .int x1), (2, .int x2), (3, .int x3), (4, .int x4)]) rfl ?_
            exact tX4_sumOnSite_L68 d ih x1 x2 x3 x4 (0 : Int32) s6 _ _ hf
          · have hf := ky_neg c10 hf
            refine ky_iconst (v := (1 : Int32)) (n := 64) dX4_sumOnSite_63 rfl rfl ?_
            refine ky_goto (tgt := 68) dX4_sumOnSite_64 rfl ?_
            refine ky_sub [0, 1, 2, 3, 4] (lv' := [(0, ky_r G 7), (1, .int x1), (2, .int x2), (3, .int x3), (4, .int x4)]) rfl ?_
            exact tX4_sumOnSite_L68 d ih x1 x2 x3 x4 (1 : Int32) s6 _ _ hf
        · have hf := ky_pos c4 hf
          refine ky_aload_n (n := 31) dX4_sumOnSite_30 rfl rfl 0 rfl ?_
          refine ky_iload (n := 33) dX4_sumOnSite_31 rfl 4 rfl ?_
          refine ky_iconst (v := (0 : Int32)) (n := 34) dX4_sumOnSite_33 rfl rfl ?_
          obtain ⟨v21, s19, h20, hf⟩ := ky_bd_e hf
          refine ky_callV (kc := 0) (ks := 0) (kc2 := 0) (ks2 := 0) (k0 := 7) (as := [.int x4, .int (0 : Int32)]) (st := []) (KX4_dueIn d x4 (0 : Int32) σ _ _ h20) okX4_dueIn wl_X4_89 kc_7 (q := (RX4, TX4, 12)) rfl rfl rfl rfl (Nat.le_of_ble_eq_true rfl) dX4_sumOnSite_34 rfl ?_
          refine ky_goto (tgt := 68) dX4_sumOnSite_37 rfl ?_
          refine ky_sub [0, 1, 2, 3, 4] (lv' := [(0, ky_r G 7), (1, .int x1), (2, .int x2), (3, .int x3), (4, .int x4)]) rfl ?_
          exact tX4_sumOnSite_L68 d ih x1 x2 x3 x4 v21 s19 _ _ hf
      · have hf := ky_pos c3 hf
        refine ky_iconst (v := (1 : Int32)) (n := 21) dX4_sumOnSite_20 rfl rfl ?_
        refine ky_goto (tgt := 68) dX4_sumOnSite_21 rfl ?_
        refine ky_sub [0, 1, 2, 3, 4] (lv' := [(0, ky_r G 7), (1, .int x1), (2, .int x2), (3, .int x3), (4, .int x4)]) rfl ?_
        exact tX4_sumOnSite_L68 d ih x1 x2 x3 x4 (1 : Int32) σ _ _ hf
def fX4_sumOnSite (a1 : Int32) (a2 : Int32) (σ : ky_St) : Option (Int32 × ky_St) :=
  fX4_sumOnSite_L5 FU a1 a2 (0 : Int32) (0 : Int32) σ
set_option maxHeartbeats 4000000 in
set_option maxRecDepth 100000 in
theorem KX4_sumOnSite {G : ky_G} (d : Nat) (a1 : Int32) (a2 : Int32) (σ : ky_St) (r : Int32) (σ' : ky_St) (hf : fX4_sumOnSite a1 a2 σ = some (r, σ')) : ky_K G mX4_sumOnSite (d + 3) 0 0 [ky_r G 7, .int a1, .int a2] σ (.inr (some (.int r))) σ' := by
  unfold fX4_sumOnSite at hf
  refine ky_enter rfl (by decide +kernel) (Nat.le_of_ble_eq_true rfl) (lv := [(0, ky_r G 7), (1, .int a1), (2, .int a2)]) rfl ?_
  refine ky_iconst (v := (0 : Int32)) (n := 1) dX4_sumOnSite_0 rfl rfl ?_
  refine ky_istore_n (lv' := [(3, .int (0 : Int32)), (0, ky_r G 7), (1, .int a1), (2, .int a2)]) (n := 2) dX4_sumOnSite_1 rfl rfl (Nat.le_of_ble_eq_true rfl) rfl ?_
  refine ky_iconst (v := (0 : Int32)) (n := 3) dX4_sumOnSite_2 rfl rfl ?_
  refine ky_istore (lv' := [(4, .int (0 : Int32)), (3, .int (0 : Int32)), (0, ky_r G 7), (1, .int a1), (2, .int a2)]) (n := 5) dX4_sumOnSite_3 rfl (Nat.le_of_ble_eq_true rfl) rfl ?_
  refine ky_sub [2, 3, 4, 1, 0] (lv' := [(0, ky_r G 7), (1, .int a1), (2, .int a2), (3, .int (0 : Int32)), (4, .int (0 : Int32))]) rfl ?_
  exact tX4_sumOnSite_L5 d FU a1 a2 (0 : Int32) (0 : Int32) σ _ _ hf
def fX4_siteNow (a1 : Int32) (a2 : Int32) (σ : ky_St) : Option (Int32 × ky_St) :=
  if a2 = (1 : Int32) then (
  ky_bd (fX4_owedBy a1 σ) fun v4 s2 =>
  some (v4, s2)) else (
  if a2 = (2 : Int32) then (
  ky_bd (fX4_ofSite a1 (a2 - (2 : Int32)) σ) fun v8 s6 =>
  some (v8, s6)) else (
  if a2 = (3 : Int32) then (
  ky_bd (fX4_ofSite a1 (a2 - (2 : Int32)) σ) fun v12 s10 =>
  some (v12, s10)) else (
  if a2 = (4 : Int32) then (
  ky_bd (fX4_ofSite a1 (a2 - (2 : Int32)) σ) fun v16 s14 =>
  some (v16, s14)) else (
  if a2 = (5 : Int32) then (
  ky_bd (fX4_ofSite a1 (a2 - (2 : Int32)) σ) fun v20 s18 =>
  some (v20, s18)) else (
  ky_bd (fX4_sumOnSite a1 a2 σ) fun v23 s21 =>
  some (v23, s21))))))
set_option maxHeartbeats 4000000 in
set_option maxRecDepth 100000 in
theorem KX4_siteNow {G : ky_G} (d : Nat) (a1 : Int32) (a2 : Int32) (σ : ky_St) (r : Int32) (σ' : ky_St) (hf : fX4_siteNow a1 a2 σ = some (r, σ')) : ky_K G mX4_siteNow (d + 4) 0 0 [ky_r G 7, .int a1, .int a2] σ (.inr (some (.int r))) σ' := by
  unfold fX4_siteNow at hf
  refine ky_enter rfl (by decide +kernel) (Nat.le_of_ble_eq_true rfl) (lv := [(0, ky_r G 7), (1, .int a1), (2, .int a2)]) rfl ?_
  refine ky_iload_n (n := 1) dX4_siteNow_0 rfl rfl 2 rfl ?_
  by_cases c1 : a2 = (1 : Int32)
  · have hf := ky_pos c1 hf
    refine ky_tsIn (off := 35) (tgt := 36) dX4_siteNow_1 (by rw [c1]; decide) (by rw [c1]; decide) (by rw [c1]; rfl) rfl ?_
    refine ky_aload_n (n := 37) dX4_siteNow_36 rfl rfl 0 rfl ?_
    refine ky_iload_n (n := 38) dX4_siteNow_37 rfl rfl 1 rfl ?_
    obtain ⟨v4, s2, h3, hf⟩ := ky_bd_e hf
    refine ky_callV (kc := 0) (ks := 0) (kc2 := 0) (ks2 := 0) (k0 := 7) (as := [.int a1]) (st := []) (KX4_owedBy (d + 1) a1 σ _ _ h3) okX4_owedBy wl_X4_125 kc_7 (q := (RX4, TX4, 12)) rfl rfl rfl rfl (Nat.le_of_ble_eq_true rfl) dX4_siteNow_38 rfl ?_
    cases hf
    exact ky_ireturn dX4_siteNow_41 rfl
  have hf := ky_neg c1 hf
  by_cases c5 : a2 = (2 : Int32)
  · have hf := ky_pos c5 hf
    refine ky_tsIn (off := 41) (tgt := 42) dX4_siteNow_1 (by rw [c5]; decide) (by rw [c5]; decide) (by rw [c5]; rfl) rfl ?_
    refine ky_aload_n (n := 43) dX4_siteNow_42 rfl rfl 0 rfl ?_
    refine ky_iload_n (n := 44) dX4_siteNow_43 rfl rfl 1 rfl ?_
    refine ky_iload_n (n := 45) dX4_siteNow_44 rfl rfl 2 rfl ?_
    refine ky_iconst (v := (2 : Int32)) (n := 46) dX4_siteNow_45 rfl rfl ?_
    refine ky_isub (n := 47) dX4_siteNow_46 rfl ?_
    obtain ⟨v8, s6, h7, hf⟩ := ky_bd_e hf
    refine ky_callV (kc := 0) (ks := 0) (kc2 := 0) (ks2 := 0) (k0 := 7) (as := [.int a1, .int (a2 - (2 : Int32))]) (st := []) (KX4_ofSite (d + 3) a1 (a2 - (2 : Int32)) σ _ _ h7) okX4_ofSite wl_X4_119 kc_7 (q := (RX4, TX4, 12)) rfl rfl rfl rfl (Nat.le_of_ble_eq_true rfl) dX4_siteNow_47 rfl ?_
    cases hf
    exact ky_ireturn dX4_siteNow_50 rfl
  have hf := ky_neg c5 hf
  by_cases c9 : a2 = (3 : Int32)
  · have hf := ky_pos c9 hf
    refine ky_tsIn (off := 41) (tgt := 42) dX4_siteNow_1 (by rw [c9]; decide) (by rw [c9]; decide) (by rw [c9]; rfl) rfl ?_
    refine ky_aload_n (n := 43) dX4_siteNow_42 rfl rfl 0 rfl ?_
    refine ky_iload_n (n := 44) dX4_siteNow_43 rfl rfl 1 rfl ?_
    refine ky_iload_n (n := 45) dX4_siteNow_44 rfl rfl 2 rfl ?_
    refine ky_iconst (v := (2 : Int32)) (n := 46) dX4_siteNow_45 rfl rfl ?_
    refine ky_isub (n := 47) dX4_siteNow_46 rfl ?_
    obtain ⟨v12, s10, h11, hf⟩ := ky_bd_e hf
    refine ky_callV (kc := 0) (ks := 0) (kc2 := 0) (ks2 := 0) (k0 := 7) (as := [.int a1, .int (a2 - (2 : Int32))]) (st := []) (KX4_ofSite (d + 3) a1 (a2 - (2 : Int32)) σ _ _ h11) okX4_ofSite wl_X4_119 kc_7 (q := (RX4, TX4, 12)) rfl rfl rfl rfl (Nat.le_of_ble_eq_true rfl) dX4_siteNow_47 rfl ?_
    cases hf
    exact ky_ireturn dX4_siteNow_50 rfl
  have hf := ky_neg c9 hf
  by_cases c13 : a2 = (4 : Int32)
  · have hf := ky_pos c13 hf
    refine ky_tsIn (off := 41) (tgt := 42) dX4_siteNow_1 (by rw [c13]; decide) (by rw [c13]; decide) (by rw [c13]; rfl) rfl ?_
    refine ky_aload_n (n := 43) dX4_siteNow_42 rfl rfl 0 rfl ?_
    refine ky_iload_n (n := 44) dX4_siteNow_43 rfl rfl 1 rfl ?_
    refine ky_iload_n (n := 45) dX4_siteNow_44 rfl rfl 2 rfl ?_
    refine ky_iconst (v := (2 : Int32)) (n := 46) dX4_siteNow_45 rfl rfl ?_
    refine ky_isub (n := 47) dX4_siteNow_46 rfl ?_
    obtain ⟨v16, s14, h15, hf⟩ := ky_bd_e hf
    refine ky_callV (kc := 0) (ks := 0) (kc2 := 0) (ks2 := 0) (k0 := 7) (as := [.int a1, .int (a2 - (2 : Int32))]) (st := []) (KX4_ofSite (d + 3) a1 (a2 - (2 : Int32)) σ _ _ h15) okX4_ofSite wl_X4_119 kc_7 (q := (RX4, TX4, 12)) rfl rfl rfl rfl (Nat.le_of_ble_eq_true rfl) dX4_siteNow_47 rfl ?_
    cases hf
    exact ky_ireturn dX4_siteNow_50 rfl
  have hf := ky_neg c13 hf
  by_cases c17 : a2 = (5 : Int32)
  · have hf := ky_pos c17 hf
    refine ky_tsIn (off := 41) (tgt := 42) dX4_siteNow_1 (by rw [c17]; decide) (by rw [c17]; decide) (by rw [c17]; rfl) rfl ?_
    refine ky_aload_n (n := 43) dX4_siteNow_42 rfl rfl 0 rfl ?_
    refine ky_iload_n (n := 44) dX4_siteNow_43 rfl rfl 1 rfl ?_
    refine ky_iload_n (n := 45) dX4_siteNow_44 rfl rfl 2 rfl ?_
    refine ky_iconst (v := (2 : Int32)) (n := 46) dX4_siteNow_45 rfl rfl ?_
    refine ky_isub (n := 47) dX4_siteNow_46 rfl ?_
    obtain ⟨v20, s18, h19, hf⟩ := ky_bd_e hf
    refine ky_callV (kc := 0) (ks := 0) (kc2 := 0) (ks2 := 0) (k0 := 7) (as := [.int a1, .int (a2 - (2 : Int32))]) (st := []) (KX4_ofSite (d + 3) a1 (a2 - (2 : Int32)) σ _ _ h19) okX4_ofSite wl_X4_119 kc_7 (q := (RX4, TX4, 12)) rfl rfl rfl rfl (Nat.le_of_ble_eq_true rfl) dX4_siteNow_47 rfl ?_
    cases hf
    exact ky_ireturn dX4_siteNow_50 rfl
  have hf := ky_neg c17 hf
  have zc1 : a2.toInt ≠ 1 := ky_swn c1
  have zc5 : a2.toInt ≠ 2 := ky_swn c5
  have zc9 : a2.toInt ≠ 3 := ky_swn c9
  have zc13 : a2.toInt ≠ 4 := ky_swn c13
  have zc17 : a2.toInt ≠ 5 := ky_swn c17
  refine ky_tsOut (tgt := 51) dX4_siteNow_1 (by omega) rfl ?_
  refine ky_aload_n (n := 52) dX4_siteNow_51 rfl rfl 0 rfl ?_
  refine ky_iload_n (n := 53) dX4_siteNow_52 rfl rfl 1 rfl ?_
  refine ky_iload_n (n := 54) dX4_siteNow_53 rfl rfl 2 rfl ?_
  obtain ⟨v23, s21, h22, hf⟩ := ky_bd_e hf
  refine ky_callV (kc := 0) (ks := 0) (kc2 := 0) (ks2 := 0) (k0 := 7) (as := [.int a1, .int a2]) (st := []) (KX4_sumOnSite d a1 a2 σ _ _ h22) okX4_sumOnSite wl_X4_178 kc_7 (q := (RX4, TX4, 12)) rfl rfl rfl rfl (Nat.le_of_ble_eq_true rfl) dX4_siteNow_54 rfl ?_
  cases hf
  exact ky_ireturn dX4_siteNow_57 rfl
def fX4_site (a1 : Int32) (a2 : Int32) (σ : ky_St) : Option (Int32 × ky_St) :=
  ky_bd (fX4_isSite a1 σ) fun v3 s1 =>
  if v3 = 0 then (
  ky_bn (ky_u1 s1 7 5 (1 : Int32)) fun s19 =>
  if (s19.1 7 5) ≤ 0 then (
  ky_bd (fX4_siteNow a1 a2 s19) fun v23 s21 =>
  some (v23, s21)) else (
  some ((0 : Int32), s19))) else (
  ky_bd (fX4_within a2 (0 : Int32) (7 : Int32) s1) fun v7 s5 =>
  if v7 = 0 then (
  ky_bn (ky_u1 s5 7 5 (2 : Int32)) fun s9 =>
  if (s9.1 7 5) ≤ 0 then (
  ky_bd (fX4_siteNow a1 a2 s9) fun v13 s11 =>
  some (v13, s11)) else (
  some ((0 : Int32), s9))) else (
  ky_bn (ky_u1 s5 7 5 (0 : Int32)) fun s14 =>
  if (s14.1 7 5) ≤ 0 then (
  ky_bd (fX4_siteNow a1 a2 s14) fun v18 s16 =>
  some (v18, s16)) else (
  some ((0 : Int32), s14))))
set_option maxHeartbeats 4000000 in
set_option maxRecDepth 100000 in
theorem KX4_site {G : ky_G} (d : Nat) (a1 : Int32) (a2 : Int32) (σ : ky_St) (r : Int32) (σ' : ky_St) (hf : fX4_site a1 a2 σ = some (r, σ')) : ky_K G mX4_site (d + 5) 0 0 [ky_r G 7, .int a1, .int a2] σ (.inr (some (.int r))) σ' := by
  unfold fX4_site at hf
  refine ky_enter rfl (by decide +kernel) (Nat.le_of_ble_eq_true rfl) (lv := [(0, ky_r G 7), (1, .int a1), (2, .int a2)]) rfl ?_
  refine ky_aload_n (n := 1) dX4_site_0 rfl rfl 0 rfl ?_
  refine ky_iload_n (n := 2) dX4_site_1 rfl rfl 1 rfl ?_
  obtain ⟨v3, s1, h2, hf⟩ := ky_bd_e hf
  refine ky_callS (kc := 0) (ks := 0) (kc2 := 0) (ks2 := 0) (as := [.int a1]) (st := [ky_r G 7]) (KX4_isSite (d + 3) a1 σ _ _ h2) okX4_isSite wl_X4_100 rfl rfl (Nat.le_of_ble_eq_true rfl) dX4_site_2 rfl ?_
  refine ky_if_ne (n := 8) (tgt := 12) dX4_site_5 rfl rfl (fun c4 => ?_) (fun c4 => ?_)
  · have hf := ky_neg c4 hf
    refine ky_iload_n (n := 13) dX4_site_12 rfl rfl 2 rfl ?_
    refine ky_iconst (v := (0 : Int32)) (n := 14) dX4_site_13 rfl rfl ?_
    refine ky_bipush (v := (7 : Int32)) (n := 16) dX4_site_14 rfl rfl ?_
    obtain ⟨v7, s5, h6, hf⟩ := ky_bd_e hf
    refine ky_callS (kc := 0) (ks := 0) (kc2 := 0) (ks2 := 0) (as := [.int a2, .int (0 : Int32), .int (7 : Int32)]) (st := [ky_r G 7]) (KX4_within (d + 4) a2 (0 : Int32) (7 : Int32) s1 _ _ h6) okX4_within wl_X4_32 rfl rfl (Nat.le_of_ble_eq_true rfl) dX4_site_16 rfl ?_
    refine ky_if_eq (n := 22) (tgt := 26) dX4_site_19 rfl rfl (fun c8 => ?_) (fun c8 => ?_)
    · have hf := ky_pos c8 hf
      refine ky_iconst (v := (2 : Int32)) (n := 27) dX4_site_26 rfl rfl ?_
      refine ky_putf (q := (RX4, TX4, 12)) (n := 30) dX4_site_27 rfl kc_7 rfl (Nat.le_of_ble_eq_true rfl) wg_X4_25 rfl (by decide +kernel) rfl (fun s9 es9 => ?_)
      have hf := ky_bn_e hf s9 es9
      refine ky_aload_n (n := 31) dX4_site_30 rfl rfl 0 rfl ?_
      refine ky_getf (q := (RX4, TX4, 12)) (v := .int (s9.1 7 5)) (n := 34) dX4_site_31 rfl kc_7 rfl (Nat.le_of_ble_eq_true rfl) wg_X4_25 (vf_7_5 _ _) ?_
      refine ky_if_le (n := 37) (tgt := 41) dX4_site_34 rfl rfl (fun c10 => ?_) (fun c10 => ?_)
      · have hf := ky_pos c10 hf
        refine ky_aload_n (n := 42) dX4_site_41 rfl rfl 0 rfl ?_
        refine ky_iload_n (n := 43) dX4_site_42 rfl rfl 1 rfl ?_
        refine ky_iload_n (n := 44) dX4_site_43 rfl rfl 2 rfl ?_
        obtain ⟨v13, s11, h12, hf⟩ := ky_bd_e hf
        refine ky_callV (kc := 0) (ks := 0) (kc2 := 0) (ks2 := 0) (k0 := 7) (as := [.int a1, .int a2]) (st := []) (KX4_siteNow d a1 a2 s9 _ _ h12) okX4_siteNow wl_X4_181 kc_7 (q := (RX4, TX4, 12)) rfl rfl rfl rfl (Nat.le_of_ble_eq_true rfl) dX4_site_44 rfl ?_
        cases hf
        exact ky_ireturn dX4_site_47 rfl
      · have hf := ky_neg c10 hf
        refine ky_iconst (v := (0 : Int32)) (n := 38) dX4_site_37 rfl rfl ?_
        refine ky_goto (tgt := 47) dX4_site_38 rfl ?_
        cases hf
        exact ky_ireturn dX4_site_47 rfl
    · have hf := ky_neg c8 hf
      refine ky_iconst (v := (0 : Int32)) (n := 23) dX4_site_22 rfl rfl ?_
      refine ky_goto (tgt := 27) dX4_site_23 rfl ?_
      refine ky_putf (q := (RX4, TX4, 12)) (n := 30) dX4_site_27 rfl kc_7 rfl (Nat.le_of_ble_eq_true rfl) wg_X4_25 rfl (by decide +kernel) rfl (fun s14 es14 => ?_)
      have hf := ky_bn_e hf s14 es14
      refine ky_aload_n (n := 31) dX4_site_30 rfl rfl 0 rfl ?_
      refine ky_getf (q := (RX4, TX4, 12)) (v := .int (s14.1 7 5)) (n := 34) dX4_site_31 rfl kc_7 rfl (Nat.le_of_ble_eq_true rfl) wg_X4_25 (vf_7_5 _ _) ?_
      refine ky_if_le (n := 37) (tgt := 41) dX4_site_34 rfl rfl (fun c15 => ?_) (fun c15 => ?_)
      · have hf := ky_pos c15 hf
        refine ky_aload_n (n := 42) dX4_site_41 rfl rfl 0 rfl ?_
        refine ky_iload_n (n := 43) dX4_site_42 rfl rfl 1 rfl ?_
        refine ky_iload_n (n := 44) dX4_site_43 rfl rfl 2 rfl ?_
        obtain ⟨v18, s16, h17, hf⟩ := ky_bd_e hf
        refine ky_callV (kc := 0) (ks := 0) (kc2 := 0) (ks2 := 0) (k0 := 7) (as := [.int a1, .int a2]) (st := []) (KX4_siteNow d a1 a2 s14 _ _ h17) okX4_siteNow wl_X4_181 kc_7 (q := (RX4, TX4, 12)) rfl rfl rfl rfl (Nat.le_of_ble_eq_true rfl) dX4_site_44 rfl ?_
        cases hf
        exact ky_ireturn dX4_site_47 rfl
      · have hf := ky_neg c15 hf
        refine ky_iconst (v := (0 : Int32)) (n := 38) dX4_site_37 rfl rfl ?_
        refine ky_goto (tgt := 47) dX4_site_38 rfl ?_
        cases hf
        exact ky_ireturn dX4_site_47 rfl
  · have hf := ky_pos c4 hf
    refine ky_iconst (v := (1 : Int32)) (n := 9) dX4_site_8 rfl rfl ?_
    refine ky_goto (tgt := 27) dX4_site_9 rfl ?_
    refine ky_putf (q := (RX4, TX4, 12)) (n := 30) dX4_site_27 rfl kc_7 rfl (Nat.le_of_ble_eq_true rfl) wg_X4_25 rfl (by decide +kernel) rfl (fun s19 es19 => ?_)
    have hf := ky_bn_e hf s19 es19
    refine ky_aload_n (n := 31) dX4_site_30 rfl rfl 0 rfl ?_
    refine ky_getf (q := (RX4, TX4, 12)) (v := .int (s19.1 7 5)) (n := 34) dX4_site_31 rfl kc_7 rfl (Nat.le_of_ble_eq_true rfl) wg_X4_25 (vf_7_5 _ _) ?_
    refine ky_if_le (n := 37) (tgt := 41) dX4_site_34 rfl rfl (fun c20 => ?_) (fun c20 => ?_)
    · have hf := ky_pos c20 hf
      refine ky_aload_n (n := 42) dX4_site_41 rfl rfl 0 rfl ?_
      refine ky_iload_n (n := 43) dX4_site_42 rfl rfl 1 rfl ?_
      refine ky_iload_n (n := 44) dX4_site_43 rfl rfl 2 rfl ?_
      obtain ⟨v23, s21, h22, hf⟩ := ky_bd_e hf
      refine ky_callV (kc := 0) (ks := 0) (kc2 := 0) (ks2 := 0) (k0 := 7) (as := [.int a1, .int a2]) (st := []) (KX4_siteNow d a1 a2 s19 _ _ h22) okX4_siteNow wl_X4_181 kc_7 (q := (RX4, TX4, 12)) rfl rfl rfl rfl (Nat.le_of_ble_eq_true rfl) dX4_site_44 rfl ?_
      cases hf
      exact ky_ireturn dX4_site_47 rfl
    · have hf := ky_neg c20 hf
      refine ky_iconst (v := (0 : Int32)) (n := 38) dX4_site_37 rfl rfl ?_
      refine ky_goto (tgt := 47) dX4_site_38 rfl ?_
      cases hf
      exact ky_ireturn dX4_site_47 rfl
def fX4_inSets_L4 : Nat → Int32 → Int32 → Int32 → ky_St → Option (Int32 × ky_St)
  | 0, _, _, _, _ => none
  | fu + 1, x1, x2, x3, σ =>
  ky_g (¬ ((3 : Int32) < 0 ∨ 283 ≤ (3 : Int32).toNatClampNeg)) (
  if (σ.1 8 (3 : Int32).toNatClampNeg) ≤ x3 then (
  some (x2, σ)) else (
  ky_bd (fX4_of x3 ((2 : Int32) + x1) σ) fun v5 s3 =>
  ky_bn (x2 + v5) fun v6 =>
  ky_bn (x3 + (1 : Int32)) fun v7 =>
  fX4_inSets_L4 fu x1 v6 v7 s3))
set_option maxHeartbeats 4000000 in
set_option maxRecDepth 100000 in
theorem tX4_inSets_L4 {G : ky_G} (d : Nat) : ∀ (fu : Nat) (x1 : Int32) (x2 : Int32) (x3 : Int32) (σ : ky_St) (r : Int32) (σ' : ky_St), fX4_inSets_L4 fu x1 x2 x3 σ = some (r, σ') → ky_T G mX4_inSets (d + 1) 0 0 4 [(0, ky_r G 7), (1, .int x1), (2, .int x2), (3, .int x3)] [] σ (.inr (some (.int r))) σ' := by
  intro fu
  induction fu with
  | zero =>
    intro x1 x2 x3 σ r σ' hf
    rw [fX4_inSets_L4] at hf
    cases hf
  | succ fu ih =>
    intro x1 x2 x3 σ r σ' hf
    rw [fX4_inSets_L4] at hf
    refine ky_iload_n (n := 5) dX4_inSets_4 rfl rfl 3 rfl ?_
    refine ky_aload_n (n := 6) dX4_inSets_5 rfl rfl 0 rfl ?_
    refine ky_getf (q := (RX4, TX4, 12)) (v := ky_r G 8) (n := 9) dX4_inSets_6 rfl kc_7 rfl (Nat.le_of_ble_eq_true rfl) wg_X4_7 (vf_7_0 _ _) ?_
    refine ky_iconst (v := (3 : Int32)) (n := 10) dX4_inSets_9 rfl rfl ?_
    obtain ⟨g1, hf⟩ := ky_ge hf
    refine ky_iald (n := 11) dX4_inSets_10 rfl kl_8 g1 ?_
    refine ky_icmp_ge (n := 14) (tgt := 31) dX4_inSets_11 rfl rfl (fun c2 => ?_) (fun c2 => ?_)
    · have hf := ky_pos c2 hf
      refine ky_iload_n (n := 32) dX4_inSets_31 rfl rfl 2 rfl ?_
      cases hf
      exact ky_ireturn dX4_inSets_32 rfl
    · have hf := ky_neg c2 hf
      refine ky_iload_n (n := 15) dX4_inSets_14 rfl rfl 2 rfl ?_
      refine ky_aload_n (n := 16) dX4_inSets_15 rfl rfl 0 rfl ?_
      refine ky_iload_n (n := 17) dX4_inSets_16 rfl rfl 3 rfl ?_
      refine ky_iconst (v := (2 : Int32)) (n := 18) dX4_inSets_17 rfl rfl ?_
      refine ky_iload_n (n := 19) dX4_inSets_18 rfl rfl 1 rfl ?_
      refine ky_iadd (n := 20) dX4_inSets_19 rfl ?_
      obtain ⟨v5, s3, h4, hf⟩ := ky_bd_e hf
      refine ky_callV (kc := 0) (ks := 0) (kc2 := 0) (ks2 := 0) (k0 := 7) (as := [.int x3, .int ((2 : Int32) + x1)]) (st := [.int x2]) (KX4_of d x3 ((2 : Int32) + x1) σ _ _ h4) okX4_of wl_X4_36 kc_7 (q := (RX4, TX4, 12)) rfl rfl rfl rfl (Nat.le_of_ble_eq_true rfl) dX4_inSets_20 rfl ?_
      refine ky_iadd (n := 24) dX4_inSets_23 rfl ?_
      refine ky_topi (fun v6 ev6 => ?_)
      have hf := ky_bn_e hf v6 ev6
      refine ky_istore_n (lv' := [(2, .int v6), (0, ky_r G 7), (1, .int x1), (3, .int x3)]) (n := 25) dX4_inSets_24 rfl rfl (Nat.le_of_ble_eq_true rfl) rfl ?_
      refine ky_iincB (c := (1 : Int32)) (n := 28) dX4_inSets_25 rfl 3 rfl rfl (Nat.le_of_ble_eq_true rfl) (fun v7 ev7 => ?_)
      have hf := ky_bn_e hf v7 ev7
      refine ky_lv (lv' := [(3, .int v7), (2, .int v6), (0, ky_r G 7), (1, .int x1)]) rfl ?_
      refine ky_goto (tgt := 4) dX4_inSets_28 rfl ?_
      refine ky_sub [2, 3, 1, 0] (lv' := [(0, ky_r G 7), (1, .int x1), (2, .int v6), (3, .int v7)]) rfl ?_
      exact ih x1 v6 v7 s3 _ _ hf
def fX4_inSets (a1 : Int32) (σ : ky_St) : Option (Int32 × ky_St) :=
  fX4_inSets_L4 FU a1 (0 : Int32) (0 : Int32) σ
set_option maxHeartbeats 4000000 in
set_option maxRecDepth 100000 in
theorem KX4_inSets {G : ky_G} (d : Nat) (a1 : Int32) (σ : ky_St) (r : Int32) (σ' : ky_St) (hf : fX4_inSets a1 σ = some (r, σ')) : ky_K G mX4_inSets (d + 1) 0 0 [ky_r G 7, .int a1] σ (.inr (some (.int r))) σ' := by
  unfold fX4_inSets at hf
  refine ky_enter rfl (by decide +kernel) (Nat.le_of_ble_eq_true rfl) (lv := [(0, ky_r G 7), (1, .int a1)]) rfl ?_
  refine ky_iconst (v := (0 : Int32)) (n := 1) dX4_inSets_0 rfl rfl ?_
  refine ky_istore_n (lv' := [(2, .int (0 : Int32)), (0, ky_r G 7), (1, .int a1)]) (n := 2) dX4_inSets_1 rfl rfl (Nat.le_of_ble_eq_true rfl) rfl ?_
  refine ky_iconst (v := (0 : Int32)) (n := 3) dX4_inSets_2 rfl rfl ?_
  refine ky_istore_n (lv' := [(3, .int (0 : Int32)), (2, .int (0 : Int32)), (0, ky_r G 7), (1, .int a1)]) (n := 4) dX4_inSets_3 rfl rfl (Nat.le_of_ble_eq_true rfl) rfl ?_
  refine ky_sub [2, 3, 1, 0] (lv' := [(0, ky_r G 7), (1, .int a1), (2, .int (0 : Int32)), (3, .int (0 : Int32))]) rfl ?_
  exact tX4_inSets_L4 d FU a1 (0 : Int32) (0 : Int32) σ _ _ hf
def fX4_partNow (a1 : Int32) (a2 : Int32) (σ : ky_St) : Option (Int32 × ky_St) :=
  if a2 = (0 : Int32) then (
  ky_bd (fX4_inSets a1 σ) fun v4 s2 =>
  some (v4, s2)) else (
  if a2 = (1 : Int32) then (
  ky_g (¬ (((7 : Int32) + a1) < 0 ∨ 283 ≤ ((7 : Int32) + a1).toNatClampNeg)) (
  some ((σ.1 8 ((7 : Int32) + a1).toNatClampNeg), σ))) else (
  if a2 = (2 : Int32) then (
  ky_g (¬ (((11 : Int32) + a1) < 0 ∨ 283 ≤ ((11 : Int32) + a1).toNatClampNeg)) (
  some ((σ.1 8 ((11 : Int32) + a1).toNatClampNeg), σ))) else (
  if a2 = (3 : Int32) then (
  ky_g (¬ (((15 : Int32) + a1) < 0 ∨ 283 ≤ ((15 : Int32) + a1).toNatClampNeg)) (
  some ((σ.1 8 ((15 : Int32) + a1).toNatClampNeg), σ))) else (
  ky_bd (fX4_wholeOf a1 σ) fun v13 s11 =>
  ky_g (¬ ((3 : Int32) < 0 ∨ 283 ≤ (3 : Int32).toNatClampNeg)) (
  ky_bd (fX4_inSets a1 s11) fun v17 s15 =>
  some (((v13 * (s11.1 8 (3 : Int32).toNatClampNeg)) - v17), s15))))))
set_option maxHeartbeats 4000000 in
set_option maxRecDepth 100000 in
theorem KX4_partNow {G : ky_G} (d : Nat) (a1 : Int32) (a2 : Int32) (σ : ky_St) (r : Int32) (σ' : ky_St) (hf : fX4_partNow a1 a2 σ = some (r, σ')) : ky_K G mX4_partNow (d + 2) 0 0 [ky_r G 7, .int a1, .int a2] σ (.inr (some (.int r))) σ' := by
  unfold fX4_partNow at hf
  refine ky_enter rfl (by decide +kernel) (Nat.le_of_ble_eq_true rfl) (lv := [(0, ky_r G 7), (1, .int a1), (2, .int a2)]) rfl ?_
  refine ky_iload_n (n := 1) dX4_partNow_0 rfl rfl 2 rfl ?_
  by_cases c1 : a2 = (0 : Int32)
  · have hf := ky_pos c1 hf
    refine ky_tsIn (off := 31) (tgt := 32) dX4_partNow_1 (by rw [c1]; decide) (by rw [c1]; decide) (by rw [c1]; rfl) rfl ?_
    refine ky_aload_n (n := 33) dX4_partNow_32 rfl rfl 0 rfl ?_
    refine ky_iload_n (n := 34) dX4_partNow_33 rfl rfl 1 rfl ?_
    obtain ⟨v4, s2, h3, hf⟩ := ky_bd_e hf
    refine ky_callV (kc := 0) (ks := 0) (kc2 := 0) (ks2 := 0) (k0 := 7) (as := [.int a1]) (st := []) (KX4_inSets d a1 σ _ _ h3) okX4_inSets wl_X4_184 kc_7 (q := (RX4, TX4, 12)) rfl rfl rfl rfl (Nat.le_of_ble_eq_true rfl) dX4_partNow_34 rfl ?_
    cases hf
    exact ky_ireturn dX4_partNow_37 rfl
  have hf := ky_neg c1 hf
  by_cases c5 : a2 = (1 : Int32)
  · have hf := ky_pos c5 hf
    refine ky_tsIn (off := 37) (tgt := 38) dX4_partNow_1 (by rw [c5]; decide) (by rw [c5]; decide) (by rw [c5]; rfl) rfl ?_
    refine ky_aload_n (n := 39) dX4_partNow_38 rfl rfl 0 rfl ?_
    refine ky_getf (q := (RX4, TX4, 12)) (v := ky_r G 8) (n := 42) dX4_partNow_39 rfl kc_7 rfl (Nat.le_of_ble_eq_true rfl) wg_X4_7 (vf_7_0 _ _) ?_
    refine ky_bipush (v := (7 : Int32)) (n := 44) dX4_partNow_42 rfl rfl ?_
    refine ky_iload_n (n := 45) dX4_partNow_44 rfl rfl 1 rfl ?_
    refine ky_iadd (n := 46) dX4_partNow_45 rfl ?_
    obtain ⟨g6, hf⟩ := ky_ge hf
    refine ky_iald (n := 47) dX4_partNow_46 rfl kl_8 g6 ?_
    cases hf
    exact ky_ireturn dX4_partNow_47 rfl
  have hf := ky_neg c5 hf
  by_cases c7 : a2 = (2 : Int32)
  · have hf := ky_pos c7 hf
    refine ky_tsIn (off := 47) (tgt := 48) dX4_partNow_1 (by rw [c7]; decide) (by rw [c7]; decide) (by rw [c7]; rfl) rfl ?_
    refine ky_aload_n (n := 49) dX4_partNow_48 rfl rfl 0 rfl ?_
    refine ky_getf (q := (RX4, TX4, 12)) (v := ky_r G 8) (n := 52) dX4_partNow_49 rfl kc_7 rfl (Nat.le_of_ble_eq_true rfl) wg_X4_7 (vf_7_0 _ _) ?_
    refine ky_bipush (v := (11 : Int32)) (n := 54) dX4_partNow_52 rfl rfl ?_
    refine ky_iload_n (n := 55) dX4_partNow_54 rfl rfl 1 rfl ?_
    refine ky_iadd (n := 56) dX4_partNow_55 rfl ?_
    obtain ⟨g8, hf⟩ := ky_ge hf
    refine ky_iald (n := 57) dX4_partNow_56 rfl kl_8 g8 ?_
    cases hf
    exact ky_ireturn dX4_partNow_57 rfl
  have hf := ky_neg c7 hf
  by_cases c9 : a2 = (3 : Int32)
  · have hf := ky_pos c9 hf
    refine ky_tsIn (off := 57) (tgt := 58) dX4_partNow_1 (by rw [c9]; decide) (by rw [c9]; decide) (by rw [c9]; rfl) rfl ?_
    refine ky_aload_n (n := 59) dX4_partNow_58 rfl rfl 0 rfl ?_
    refine ky_getf (q := (RX4, TX4, 12)) (v := ky_r G 8) (n := 62) dX4_partNow_59 rfl kc_7 rfl (Nat.le_of_ble_eq_true rfl) wg_X4_7 (vf_7_0 _ _) ?_
    refine ky_bipush (v := (15 : Int32)) (n := 64) dX4_partNow_62 rfl rfl ?_
    refine ky_iload_n (n := 65) dX4_partNow_64 rfl rfl 1 rfl ?_
    refine ky_iadd (n := 66) dX4_partNow_65 rfl ?_
    obtain ⟨g10, hf⟩ := ky_ge hf
    refine ky_iald (n := 67) dX4_partNow_66 rfl kl_8 g10 ?_
    cases hf
    exact ky_ireturn dX4_partNow_67 rfl
  have hf := ky_neg c9 hf
  have zc1 : a2.toInt ≠ 0 := ky_swn c1
  have zc5 : a2.toInt ≠ 1 := ky_swn c5
  have zc7 : a2.toInt ≠ 2 := ky_swn c7
  have zc9 : a2.toInt ≠ 3 := ky_swn c9
  refine ky_tsOut (tgt := 68) dX4_partNow_1 (by omega) rfl ?_
  refine ky_iload_n (n := 69) dX4_partNow_68 rfl rfl 1 rfl ?_
  obtain ⟨v13, s11, h12, hf⟩ := ky_bd_e hf
  refine ky_callS (kc := 0) (ks := 0) (kc2 := 0) (ks2 := 0) (as := [.int a1]) (st := []) (KX4_wholeOf (d + 1) a1 σ _ _ h12) okX4_wholeOf wl_X4_40 rfl rfl (Nat.le_of_ble_eq_true rfl) dX4_partNow_69 rfl ?_
  refine ky_aload_n (n := 73) dX4_partNow_72 rfl rfl 0 rfl ?_
  refine ky_getf (q := (RX4, TX4, 12)) (v := ky_r G 8) (n := 76) dX4_partNow_73 rfl kc_7 rfl (Nat.le_of_ble_eq_true rfl) wg_X4_7 (vf_7_0 _ _) ?_
  refine ky_iconst (v := (3 : Int32)) (n := 77) dX4_partNow_76 rfl rfl ?_
  obtain ⟨g14, hf⟩ := ky_ge hf
  refine ky_iald (n := 78) dX4_partNow_77 rfl kl_8 g14 ?_
  refine ky_imul (n := 79) dX4_partNow_78 rfl ?_
  refine ky_aload_n (n := 80) dX4_partNow_79 rfl rfl 0 rfl ?_
  refine ky_iload_n (n := 81) dX4_partNow_80 rfl rfl 1 rfl ?_
  obtain ⟨v17, s15, h16, hf⟩ := ky_bd_e hf
  refine ky_callV (kc := 0) (ks := 0) (kc2 := 0) (ks2 := 0) (k0 := 7) (as := [.int a1]) (st := [.int (v13 * (s11.1 8 (3 : Int32).toNatClampNeg))]) (KX4_inSets d a1 s11 _ _ h16) okX4_inSets wl_X4_184 kc_7 (q := (RX4, TX4, 12)) rfl rfl rfl rfl (Nat.le_of_ble_eq_true rfl) dX4_partNow_81 rfl ?_
  refine ky_isub (n := 85) dX4_partNow_84 rfl ?_
  cases hf
  exact ky_ireturn dX4_partNow_85 rfl
def fX4_parts (a1 : Int32) (a2 : Int32) (σ : ky_St) : Option (Int32 × ky_St) :=
  ky_bd (fX4_isKind a1 σ) fun v3 s1 =>
  if v3 = 0 then (
  ky_bn (ky_u1 s1 7 5 (1 : Int32)) fun s19 =>
  if (s19.1 7 5) ≤ 0 then (
  ky_bd (fX4_partNow a1 a2 s19) fun v23 s21 =>
  some (v23, s21)) else (
  some ((0 : Int32), s19))) else (
  ky_bd (fX4_within a2 (0 : Int32) (4 : Int32) s1) fun v7 s5 =>
  if v7 = 0 then (
  ky_bn (ky_u1 s5 7 5 (2 : Int32)) fun s9 =>
  if (s9.1 7 5) ≤ 0 then (
  ky_bd (fX4_partNow a1 a2 s9) fun v13 s11 =>
  some (v13, s11)) else (
  some ((0 : Int32), s9))) else (
  ky_bn (ky_u1 s5 7 5 (0 : Int32)) fun s14 =>
  if (s14.1 7 5) ≤ 0 then (
  ky_bd (fX4_partNow a1 a2 s14) fun v18 s16 =>
  some (v18, s16)) else (
  some ((0 : Int32), s14))))
set_option maxHeartbeats 4000000 in
set_option maxRecDepth 100000 in
theorem KX4_parts {G : ky_G} (d : Nat) (a1 : Int32) (a2 : Int32) (σ : ky_St) (r : Int32) (σ' : ky_St) (hf : fX4_parts a1 a2 σ = some (r, σ')) : ky_K G mX4_parts (d + 3) 0 0 [ky_r G 7, .int a1, .int a2] σ (.inr (some (.int r))) σ' := by
  unfold fX4_parts at hf
  refine ky_enter rfl (by decide +kernel) (Nat.le_of_ble_eq_true rfl) (lv := [(0, ky_r G 7), (1, .int a1), (2, .int a2)]) rfl ?_
  refine ky_aload_n (n := 1) dX4_parts_0 rfl rfl 0 rfl ?_
  refine ky_iload_n (n := 2) dX4_parts_1 rfl rfl 1 rfl ?_
  obtain ⟨v3, s1, h2, hf⟩ := ky_bd_e hf
  refine ky_callS (kc := 0) (ks := 0) (kc2 := 0) (ks2 := 0) (as := [.int a1]) (st := [ky_r G 7]) (KX4_isKind (d + 1) a1 σ _ _ h2) okX4_isKind wl_X4_64 rfl rfl (Nat.le_of_ble_eq_true rfl) dX4_parts_2 rfl ?_
  refine ky_if_ne (n := 8) (tgt := 12) dX4_parts_5 rfl rfl (fun c4 => ?_) (fun c4 => ?_)
  · have hf := ky_neg c4 hf
    refine ky_iload_n (n := 13) dX4_parts_12 rfl rfl 2 rfl ?_
    refine ky_iconst (v := (0 : Int32)) (n := 14) dX4_parts_13 rfl rfl ?_
    refine ky_iconst (v := (4 : Int32)) (n := 15) dX4_parts_14 rfl rfl ?_
    obtain ⟨v7, s5, h6, hf⟩ := ky_bd_e hf
    refine ky_callS (kc := 0) (ks := 0) (kc2 := 0) (ks2 := 0) (as := [.int a2, .int (0 : Int32), .int (4 : Int32)]) (st := [ky_r G 7]) (KX4_within (d + 2) a2 (0 : Int32) (4 : Int32) s1 _ _ h6) okX4_within wl_X4_32 rfl rfl (Nat.le_of_ble_eq_true rfl) dX4_parts_15 rfl ?_
    refine ky_if_eq (n := 21) (tgt := 25) dX4_parts_18 rfl rfl (fun c8 => ?_) (fun c8 => ?_)
    · have hf := ky_pos c8 hf
      refine ky_iconst (v := (2 : Int32)) (n := 26) dX4_parts_25 rfl rfl ?_
      refine ky_putf (q := (RX4, TX4, 12)) (n := 29) dX4_parts_26 rfl kc_7 rfl (Nat.le_of_ble_eq_true rfl) wg_X4_25 rfl (by decide +kernel) rfl (fun s9 es9 => ?_)
      have hf := ky_bn_e hf s9 es9
      refine ky_aload_n (n := 30) dX4_parts_29 rfl rfl 0 rfl ?_
      refine ky_getf (q := (RX4, TX4, 12)) (v := .int (s9.1 7 5)) (n := 33) dX4_parts_30 rfl kc_7 rfl (Nat.le_of_ble_eq_true rfl) wg_X4_25 (vf_7_5 _ _) ?_
      refine ky_if_le (n := 36) (tgt := 40) dX4_parts_33 rfl rfl (fun c10 => ?_) (fun c10 => ?_)
      · have hf := ky_pos c10 hf
        refine ky_aload_n (n := 41) dX4_parts_40 rfl rfl 0 rfl ?_
        refine ky_iload_n (n := 42) dX4_parts_41 rfl rfl 1 rfl ?_
        refine ky_iload_n (n := 43) dX4_parts_42 rfl rfl 2 rfl ?_
        obtain ⟨v13, s11, h12, hf⟩ := ky_bd_e hf
        refine ky_callV (kc := 0) (ks := 0) (kc2 := 0) (ks2 := 0) (k0 := 7) (as := [.int a1, .int a2]) (st := []) (KX4_partNow d a1 a2 s9 _ _ h12) okX4_partNow wl_X4_187 kc_7 (q := (RX4, TX4, 12)) rfl rfl rfl rfl (Nat.le_of_ble_eq_true rfl) dX4_parts_43 rfl ?_
        cases hf
        exact ky_ireturn dX4_parts_46 rfl
      · have hf := ky_neg c10 hf
        refine ky_iconst (v := (0 : Int32)) (n := 37) dX4_parts_36 rfl rfl ?_
        refine ky_goto (tgt := 46) dX4_parts_37 rfl ?_
        cases hf
        exact ky_ireturn dX4_parts_46 rfl
    · have hf := ky_neg c8 hf
      refine ky_iconst (v := (0 : Int32)) (n := 22) dX4_parts_21 rfl rfl ?_
      refine ky_goto (tgt := 26) dX4_parts_22 rfl ?_
      refine ky_putf (q := (RX4, TX4, 12)) (n := 29) dX4_parts_26 rfl kc_7 rfl (Nat.le_of_ble_eq_true rfl) wg_X4_25 rfl (by decide +kernel) rfl (fun s14 es14 => ?_)
      have hf := ky_bn_e hf s14 es14
      refine ky_aload_n (n := 30) dX4_parts_29 rfl rfl 0 rfl ?_
      refine ky_getf (q := (RX4, TX4, 12)) (v := .int (s14.1 7 5)) (n := 33) dX4_parts_30 rfl kc_7 rfl (Nat.le_of_ble_eq_true rfl) wg_X4_25 (vf_7_5 _ _) ?_
      refine ky_if_le (n := 36) (tgt := 40) dX4_parts_33 rfl rfl (fun c15 => ?_) (fun c15 => ?_)
      · have hf := ky_pos c15 hf
        refine ky_aload_n (n := 41) dX4_parts_40 rfl rfl 0 rfl ?_
        refine ky_iload_n (n := 42) dX4_parts_41 rfl rfl 1 rfl ?_
        refine ky_iload_n (n := 43) dX4_parts_42 rfl rfl 2 rfl ?_
        obtain ⟨v18, s16, h17, hf⟩ := ky_bd_e hf
        refine ky_callV (kc := 0) (ks := 0) (kc2 := 0) (ks2 := 0) (k0 := 7) (as := [.int a1, .int a2]) (st := []) (KX4_partNow d a1 a2 s14 _ _ h17) okX4_partNow wl_X4_187 kc_7 (q := (RX4, TX4, 12)) rfl rfl rfl rfl (Nat.le_of_ble_eq_true rfl) dX4_parts_43 rfl ?_
        cases hf
        exact ky_ireturn dX4_parts_46 rfl
      · have hf := ky_neg c15 hf
        refine ky_iconst (v := (0 : Int32)) (n := 37) dX4_parts_36 rfl rfl ?_
        refine ky_goto (tgt := 46) dX4_parts_37 rfl ?_
        cases hf
        exact ky_ireturn dX4_parts_46 rfl
  · have hf := ky_pos c4 hf
    refine ky_iconst (v := (1 : Int32)) (n := 9) dX4_parts_8 rfl rfl ?_
    refine ky_goto (tgt := 26) dX4_parts_9 rfl ?_
    refine ky_putf (q := (RX4, TX4, 12)) (n := 29) dX4_parts_26 rfl kc_7 rfl (Nat.le_of_ble_eq_true rfl) wg_X4_25 rfl (by decide +kernel) rfl (fun s19 es19 => ?_)
    have hf := ky_bn_e hf s19 es19
    refine ky_aload_n (n := 30) dX4_parts_29 rfl rfl 0 rfl ?_
    refine ky_getf (q := (RX4, TX4, 12)) (v := .int (s19.1 7 5)) (n := 33) dX4_parts_30 rfl kc_7 rfl (Nat.le_of_ble_eq_true rfl) wg_X4_25 (vf_7_5 _ _) ?_
    refine ky_if_le (n := 36) (tgt := 40) dX4_parts_33 rfl rfl (fun c20 => ?_) (fun c20 => ?_)
    · have hf := ky_pos c20 hf
      refine ky_aload_n (n := 41) dX4_parts_40 rfl rfl 0 rfl ?_
      refine ky_iload_n (n := 42) dX4_parts_41 rfl rfl 1 rfl ?_
      refine ky_iload_n (n := 43) dX4_parts_42 rfl rfl 2 rfl ?_
      obtain ⟨v23, s21, h22, hf⟩ := ky_bd_e hf
      refine ky_callV (kc := 0) (ks := 0) (kc2 := 0) (ks2 := 0) (k0 := 7) (as := [.int a1, .int a2]) (st := []) (KX4_partNow d a1 a2 s19 _ _ h22) okX4_partNow wl_X4_187 kc_7 (q := (RX4, TX4, 12)) rfl rfl rfl rfl (Nat.le_of_ble_eq_true rfl) dX4_parts_43 rfl ?_
      cases hf
      exact ky_ireturn dX4_parts_46 rfl
    · have hf := ky_neg c20 hf
      refine ky_iconst (v := (0 : Int32)) (n := 37) dX4_parts_36 rfl rfl ?_
      refine ky_goto (tgt := 46) dX4_parts_37 rfl ?_
      cases hf
      exact ky_ireturn dX4_parts_46 rfl
def fX4_billedToAll_L4 : Nat → Int32 → Int32 → ky_St → Option (Int32 × ky_St)
  | 0, _, _, _ => none
  | fu + 1, x1, x2, σ =>
  if (6 : Int32) ≤ x2 then (
  some (x1, σ)) else (
  ky_bd (fX4_billedTo x2 σ) fun v4 s2 =>
  ky_bn (x1 + v4) fun v5 =>
  ky_bn (x2 + (1 : Int32)) fun v6 =>
  fX4_billedToAll_L4 fu v5 v6 s2)
set_option maxHeartbeats 4000000 in
set_option maxRecDepth 100000 in
theorem tX4_billedToAll_L4 {G : ky_G} (d : Nat) : ∀ (fu : Nat) (x1 : Int32) (x2 : Int32) (σ : ky_St) (r : Int32) (σ' : ky_St), fX4_billedToAll_L4 fu x1 x2 σ = some (r, σ') → ky_T G mX4_billedToAll (d + 2) 0 0 4 [(0, ky_r G 7), (1, .int x1), (2, .int x2)] [] σ (.inr (some (.int r))) σ' := by
  intro fu
  induction fu with
  | zero =>
    intro x1 x2 σ r σ' hf
    rw [fX4_billedToAll_L4] at hf
    cases hf
  | succ fu ih =>
    intro x1 x2 σ r σ' hf
    rw [fX4_billedToAll_L4] at hf
    refine ky_iload_n (n := 5) dX4_billedToAll_4 rfl rfl 2 rfl ?_
    refine ky_bipush (v := (6 : Int32)) (n := 7) dX4_billedToAll_5 rfl rfl ?_
    refine ky_icmp_ge (n := 10) (tgt := 24) dX4_billedToAll_7 rfl rfl (fun c1 => ?_) (fun c1 => ?_)
    · have hf := ky_pos c1 hf
      refine ky_iload_n (n := 25) dX4_billedToAll_24 rfl rfl 1 rfl ?_
      cases hf
      exact ky_ireturn dX4_billedToAll_25 rfl
    · have hf := ky_neg c1 hf
      refine ky_iload_n (n := 11) dX4_billedToAll_10 rfl rfl 1 rfl ?_
      refine ky_aload_n (n := 12) dX4_billedToAll_11 rfl rfl 0 rfl ?_
      refine ky_iload_n (n := 13) dX4_billedToAll_12 rfl rfl 2 rfl ?_
      obtain ⟨v4, s2, h3, hf⟩ := ky_bd_e hf
      refine ky_callV (kc := 0) (ks := 0) (kc2 := 0) (ks2 := 0) (k0 := 7) (as := [.int x2]) (st := [.int x1]) (KX4_billedTo d x2 σ _ _ h3) okX4_billedTo wl_X4_122 kc_7 (q := (RX4, TX4, 12)) rfl rfl rfl rfl (Nat.le_of_ble_eq_true rfl) dX4_billedToAll_13 rfl ?_
      refine ky_iadd (n := 17) dX4_billedToAll_16 rfl ?_
      refine ky_topi (fun v5 ev5 => ?_)
      have hf := ky_bn_e hf v5 ev5
      refine ky_istore_n (lv' := [(1, .int v5), (0, ky_r G 7), (2, .int x2)]) (n := 18) dX4_billedToAll_17 rfl rfl (Nat.le_of_ble_eq_true rfl) rfl ?_
      refine ky_iincB (c := (1 : Int32)) (n := 21) dX4_billedToAll_18 rfl 2 rfl rfl (Nat.le_of_ble_eq_true rfl) (fun v6 ev6 => ?_)
      have hf := ky_bn_e hf v6 ev6
      refine ky_lv (lv' := [(2, .int v6), (1, .int v5), (0, ky_r G 7)]) rfl ?_
      refine ky_goto (tgt := 4) dX4_billedToAll_21 rfl ?_
      refine ky_sub [2, 1, 0] (lv' := [(0, ky_r G 7), (1, .int v5), (2, .int v6)]) rfl ?_
      exact ih v5 v6 s2 _ _ hf
def fX4_billedToAll (σ : ky_St) : Option (Int32 × ky_St) :=
  fX4_billedToAll_L4 FU (0 : Int32) (0 : Int32) σ
set_option maxHeartbeats 4000000 in
set_option maxRecDepth 100000 in
theorem KX4_billedToAll {G : ky_G} (d : Nat) (σ : ky_St) (r : Int32) (σ' : ky_St) (hf : fX4_billedToAll σ = some (r, σ')) : ky_K G mX4_billedToAll (d + 2) 0 0 [ky_r G 7] σ (.inr (some (.int r))) σ' := by
  unfold fX4_billedToAll at hf
  refine ky_enter rfl (by decide +kernel) (Nat.le_of_ble_eq_true rfl) (lv := [(0, ky_r G 7)]) rfl ?_
  refine ky_iconst (v := (0 : Int32)) (n := 1) dX4_billedToAll_0 rfl rfl ?_
  refine ky_istore_n (lv' := [(1, .int (0 : Int32)), (0, ky_r G 7)]) (n := 2) dX4_billedToAll_1 rfl rfl (Nat.le_of_ble_eq_true rfl) rfl ?_
  refine ky_iconst (v := (0 : Int32)) (n := 3) dX4_billedToAll_2 rfl rfl ?_
  refine ky_istore_n (lv' := [(2, .int (0 : Int32)), (1, .int (0 : Int32)), (0, ky_r G 7)]) (n := 4) dX4_billedToAll_3 rfl rfl (Nat.le_of_ble_eq_true rfl) rfl ?_
  refine ky_sub [2, 1, 0] (lv' := [(0, ky_r G 7), (1, .int (0 : Int32)), (2, .int (0 : Int32))]) rfl ?_
  exact tX4_billedToAll_L4 d FU (0 : Int32) (0 : Int32) σ _ _ hf
def fX4_paidByAll_L4 : Nat → Int32 → Int32 → ky_St → Option (Int32 × ky_St)
  | 0, _, _, _ => none
  | fu + 1, x1, x2, σ =>
  if (6 : Int32) ≤ x2 then (
  some (x1, σ)) else (
  ky_bd (fX4_ofSite x2 (3 : Int32) σ) fun v4 s2 =>
  ky_bn (x1 + v4) fun v5 =>
  ky_bn (x2 + (1 : Int32)) fun v6 =>
  fX4_paidByAll_L4 fu v5 v6 s2)
set_option maxHeartbeats 4000000 in
set_option maxRecDepth 100000 in
theorem tX4_paidByAll_L4 {G : ky_G} (d : Nat) : ∀ (fu : Nat) (x1 : Int32) (x2 : Int32) (σ : ky_St) (r : Int32) (σ' : ky_St), fX4_paidByAll_L4 fu x1 x2 σ = some (r, σ') → ky_T G mX4_paidByAll (d + 1) 0 0 4 [(0, ky_r G 7), (1, .int x1), (2, .int x2)] [] σ (.inr (some (.int r))) σ' := by
  intro fu
  induction fu with
  | zero =>
    intro x1 x2 σ r σ' hf
    rw [fX4_paidByAll_L4] at hf
    cases hf
  | succ fu ih =>
    intro x1 x2 σ r σ' hf
    rw [fX4_paidByAll_L4] at hf
    refine ky_iload_n (n := 5) dX4_paidByAll_4 rfl rfl 2 rfl ?_
    refine ky_bipush (v := (6 : Int32)) (n := 7) dX4_paidByAll_5 rfl rfl ?_
    refine ky_icmp_ge (n := 10) (tgt := 25) dX4_paidByAll_7 rfl rfl (fun c1 => ?_) (fun c1 => ?_)
    · have hf := ky_pos c1 hf
      refine ky_iload_n (n := 26) dX4_paidByAll_25 rfl rfl 1 rfl ?_
      cases hf
      exact ky_ireturn dX4_paidByAll_26 rfl
    · have hf := ky_neg c1 hf
      refine ky_iload_n (n := 11) dX4_paidByAll_10 rfl rfl 1 rfl ?_
      refine ky_aload_n (n := 12) dX4_paidByAll_11 rfl rfl 0 rfl ?_
      refine ky_iload_n (n := 13) dX4_paidByAll_12 rfl rfl 2 rfl ?_
      refine ky_iconst (v := (3 : Int32)) (n := 14) dX4_paidByAll_13 rfl rfl ?_
      obtain ⟨v4, s2, h3, hf⟩ := ky_bd_e hf
      refine ky_callV (kc := 0) (ks := 0) (kc2 := 0) (ks2 := 0) (k0 := 7) (as := [.int x2, .int (3 : Int32)]) (st := [.int x1]) (KX4_ofSite d x2 (3 : Int32) σ _ _ h3) okX4_ofSite wl_X4_119 kc_7 (q := (RX4, TX4, 12)) rfl rfl rfl rfl (Nat.le_of_ble_eq_true rfl) dX4_paidByAll_14 rfl ?_
      refine ky_iadd (n := 18) dX4_paidByAll_17 rfl ?_
      refine ky_topi (fun v5 ev5 => ?_)
      have hf := ky_bn_e hf v5 ev5
      refine ky_istore_n (lv' := [(1, .int v5), (0, ky_r G 7), (2, .int x2)]) (n := 19) dX4_paidByAll_18 rfl rfl (Nat.le_of_ble_eq_true rfl) rfl ?_
      refine ky_iincB (c := (1 : Int32)) (n := 22) dX4_paidByAll_19 rfl 2 rfl rfl (Nat.le_of_ble_eq_true rfl) (fun v6 ev6 => ?_)
      have hf := ky_bn_e hf v6 ev6
      refine ky_lv (lv' := [(2, .int v6), (1, .int v5), (0, ky_r G 7)]) rfl ?_
      refine ky_goto (tgt := 4) dX4_paidByAll_22 rfl ?_
      refine ky_sub [2, 1, 0] (lv' := [(0, ky_r G 7), (1, .int v5), (2, .int v6)]) rfl ?_
      exact ih v5 v6 s2 _ _ hf
def fX4_paidByAll (σ : ky_St) : Option (Int32 × ky_St) :=
  fX4_paidByAll_L4 FU (0 : Int32) (0 : Int32) σ
set_option maxHeartbeats 4000000 in
set_option maxRecDepth 100000 in
theorem KX4_paidByAll {G : ky_G} (d : Nat) (σ : ky_St) (r : Int32) (σ' : ky_St) (hf : fX4_paidByAll σ = some (r, σ')) : ky_K G mX4_paidByAll (d + 1) 0 0 [ky_r G 7] σ (.inr (some (.int r))) σ' := by
  unfold fX4_paidByAll at hf
  refine ky_enter rfl (by decide +kernel) (Nat.le_of_ble_eq_true rfl) (lv := [(0, ky_r G 7)]) rfl ?_
  refine ky_iconst (v := (0 : Int32)) (n := 1) dX4_paidByAll_0 rfl rfl ?_
  refine ky_istore_n (lv' := [(1, .int (0 : Int32)), (0, ky_r G 7)]) (n := 2) dX4_paidByAll_1 rfl rfl (Nat.le_of_ble_eq_true rfl) rfl ?_
  refine ky_iconst (v := (0 : Int32)) (n := 3) dX4_paidByAll_2 rfl rfl ?_
  refine ky_istore_n (lv' := [(2, .int (0 : Int32)), (1, .int (0 : Int32)), (0, ky_r G 7)]) (n := 4) dX4_paidByAll_3 rfl rfl (Nat.le_of_ble_eq_true rfl) rfl ?_
  refine ky_sub [2, 1, 0] (lv' := [(0, ky_r G 7), (1, .int (0 : Int32)), (2, .int (0 : Int32))]) rfl ?_
  exact tX4_paidByAll_L4 d FU (0 : Int32) (0 : Int32) σ _ _ hf
def fX4_counted (a1 : Int32) (σ : ky_St) : Option (Int32 × ky_St) :=
  if a1 = (0 : Int32) then (
  ky_g (¬ ((3 : Int32) < 0 ∨ 283 ≤ (3 : Int32).toNatClampNeg)) (
  some ((σ.1 8 (3 : Int32).toNatClampNeg), σ))) else (
  if a1 = (1 : Int32) then (
  ky_bd (fX4_inYard (0 : Int32) σ) fun v6 s4 =>
  some (v6, s4)) else (
  if a1 = (2 : Int32) then (
  ky_bd (fX4_inYard (1 : Int32) σ) fun v10 s8 =>
  some (v10, s8)) else (
  if a1 = (3 : Int32) then (
  ky_g (¬ ((2 : Int32) < 0 ∨ 283 ≤ (2 : Int32).toNatClampNeg)) (
  some ((σ.1 8 (2 : Int32).toNatClampNeg), σ))) else (
  if a1 = (4 : Int32) then (
  ky_bd (fX4_billedToAll σ) fun v16 s14 =>
  some (v16, s14)) else (
  if a1 = (5 : Int32) then (
  ky_bd (fX4_paidByAll σ) fun v20 s18 =>
  some (v20, s18)) else (
  if a1 = (6 : Int32) then (
  ky_g (¬ ((((4 : Int32) + a1) - (6 : Int32)) < 0 ∨ 283 ≤ (((4 : Int32) + a1) - (6 : Int32)).toNatClampNeg)) (
  some ((σ.1 8 (((4 : Int32) + a1) - (6 : Int32)).toNatClampNeg), σ))) else (
  if a1 = (7 : Int32) then (
  ky_g (¬ ((((4 : Int32) + a1) - (6 : Int32)) < 0 ∨ 283 ≤ (((4 : Int32) + a1) - (6 : Int32)).toNatClampNeg)) (
  some ((σ.1 8 (((4 : Int32) + a1) - (6 : Int32)).toNatClampNeg), σ))) else (
  if a1 = (8 : Int32) then (
  ky_g (¬ ((((4 : Int32) + a1) - (6 : Int32)) < 0 ∨ 283 ≤ (((4 : Int32) + a1) - (6 : Int32)).toNatClampNeg)) (
  some ((σ.1 8 (((4 : Int32) + a1) - (6 : Int32)).toNatClampNeg), σ))) else (
  if a1 = (9 : Int32) then (
  some ((σ.1 7 1), σ)) else (
  ky_g (¬ ((((4 : Int32) + a1) - (6 : Int32)) < 0 ∨ 283 ≤ (((4 : Int32) + a1) - (6 : Int32)).toNatClampNeg)) (
  some ((σ.1 8 (((4 : Int32) + a1) - (6 : Int32)).toNatClampNeg), σ))))))))))))
set_option maxHeartbeats 4000000 in
set_option maxRecDepth 100000 in
theorem KX4_counted {G : ky_G} (d : Nat) (a1 : Int32) (σ : ky_St) (r : Int32) (σ' : ky_St) (hf : fX4_counted a1 σ = some (r, σ')) : ky_K G mX4_counted (d + 3) 0 0 [ky_r G 7, .int a1] σ (.inr (some (.int r))) σ' := by
  unfold fX4_counted at hf
  refine ky_enter rfl (by decide +kernel) (Nat.le_of_ble_eq_true rfl) (lv := [(0, ky_r G 7), (1, .int a1)]) rfl ?_
  refine ky_iload_n (n := 1) dX4_counted_0 rfl rfl 1 rfl ?_
  by_cases c1 : a1 = (0 : Int32)
  · have hf := ky_pos c1 hf
    refine ky_tsIn (off := 55) (tgt := 56) dX4_counted_1 (by rw [c1]; decide) (by rw [c1]; decide) (by rw [c1]; rfl) rfl ?_
    refine ky_aload_n (n := 57) dX4_counted_56 rfl rfl 0 rfl ?_
    refine ky_getf (q := (RX4, TX4, 12)) (v := ky_r G 8) (n := 60) dX4_counted_57 rfl kc_7 rfl (Nat.le_of_ble_eq_true rfl) wg_X4_7 (vf_7_0 _ _) ?_
    refine ky_iconst (v := (3 : Int32)) (n := 61) dX4_counted_60 rfl rfl ?_
    obtain ⟨g2, hf⟩ := ky_ge hf
    refine ky_iald (n := 62) dX4_counted_61 rfl kl_8 g2 ?_
    cases hf
    exact ky_ireturn dX4_counted_62 rfl
  have hf := ky_neg c1 hf
  by_cases c3 : a1 = (1 : Int32)
  · have hf := ky_pos c3 hf
    refine ky_tsIn (off := 62) (tgt := 63) dX4_counted_1 (by rw [c3]; decide) (by rw [c3]; decide) (by rw [c3]; rfl) rfl ?_
    refine ky_aload_n (n := 64) dX4_counted_63 rfl rfl 0 rfl ?_
    refine ky_iconst (v := (0 : Int32)) (n := 65) dX4_counted_64 rfl rfl ?_
    obtain ⟨v6, s4, h5, hf⟩ := ky_bd_e hf
    refine ky_callV (kc := 0) (ks := 0) (kc2 := 0) (ks2 := 0) (k0 := 7) (as := [.int (0 : Int32)]) (st := []) (KX4_inYard d (0 : Int32) σ _ _ h5) okX4_inYard wl_X4_92 kc_7 (q := (RX4, TX4, 12)) rfl rfl rfl rfl (Nat.le_of_ble_eq_true rfl) dX4_counted_65 rfl ?_
    cases hf
    exact ky_ireturn dX4_counted_68 rfl
  have hf := ky_neg c3 hf
  by_cases c7 : a1 = (2 : Int32)
  · have hf := ky_pos c7 hf
    refine ky_tsIn (off := 68) (tgt := 69) dX4_counted_1 (by rw [c7]; decide) (by rw [c7]; decide) (by rw [c7]; rfl) rfl ?_
    refine ky_aload_n (n := 70) dX4_counted_69 rfl rfl 0 rfl ?_
    refine ky_iconst (v := (1 : Int32)) (n := 71) dX4_counted_70 rfl rfl ?_
    obtain ⟨v10, s8, h9, hf⟩ := ky_bd_e hf
    refine ky_callV (kc := 0) (ks := 0) (kc2 := 0) (ks2 := 0) (k0 := 7) (as := [.int (1 : Int32)]) (st := []) (KX4_inYard d (1 : Int32) σ _ _ h9) okX4_inYard wl_X4_92 kc_7 (q := (RX4, TX4, 12)) rfl rfl rfl rfl (Nat.le_of_ble_eq_true rfl) dX4_counted_71 rfl ?_
    cases hf
    exact ky_ireturn dX4_counted_74 rfl
  have hf := ky_neg c7 hf
  by_cases c11 : a1 = (3 : Int32)
  · have hf := ky_pos c11 hf
    refine ky_tsIn (off := 74) (tgt := 75) dX4_counted_1 (by rw [c11]; decide) (by rw [c11]; decide) (by rw [c11]; rfl) rfl ?_
    refine ky_aload_n (n := 76) dX4_counted_75 rfl rfl 0 rfl ?_
    refine ky_getf (q := (RX4, TX4, 12)) (v := ky_r G 8) (n := 79) dX4_counted_76 rfl kc_7 rfl (Nat.le_of_ble_eq_true rfl) wg_X4_7 (vf_7_0 _ _) ?_
    refine ky_iconst (v := (2 : Int32)) (n := 80) dX4_counted_79 rfl rfl ?_
    obtain ⟨g12, hf⟩ := ky_ge hf
    refine ky_iald (n := 81) dX4_counted_80 rfl kl_8 g12 ?_
    cases hf
    exact ky_ireturn dX4_counted_81 rfl
  have hf := ky_neg c11 hf
  by_cases c13 : a1 = (4 : Int32)
  · have hf := ky_pos c13 hf
    refine ky_tsIn (off := 81) (tgt := 82) dX4_counted_1 (by rw [c13]; decide) (by rw [c13]; decide) (by rw [c13]; rfl) rfl ?_
    refine ky_aload_n (n := 83) dX4_counted_82 rfl rfl 0 rfl ?_
    obtain ⟨v16, s14, h15, hf⟩ := ky_bd_e hf
    refine ky_callV (kc := 0) (ks := 0) (kc2 := 0) (ks2 := 0) (k0 := 7) (as := []) (st := []) (KX4_billedToAll d σ _ _ h15) okX4_billedToAll wl_X4_190 kc_7 (q := (RX4, TX4, 12)) rfl rfl rfl rfl (Nat.le_of_ble_eq_true rfl) dX4_counted_83 rfl ?_
    cases hf
    exact ky_ireturn dX4_counted_86 rfl
  have hf := ky_neg c13 hf
  by_cases c17 : a1 = (5 : Int32)
  · have hf := ky_pos c17 hf
    refine ky_tsIn (off := 86) (tgt := 87) dX4_counted_1 (by rw [c17]; decide) (by rw [c17]; decide) (by rw [c17]; rfl) rfl ?_
    refine ky_aload_n (n := 88) dX4_counted_87 rfl rfl 0 rfl ?_
    obtain ⟨v20, s18, h19, hf⟩ := ky_bd_e hf
    refine ky_callV (kc := 0) (ks := 0) (kc2 := 0) (ks2 := 0) (k0 := 7) (as := []) (st := []) (KX4_paidByAll (d + 1) σ _ _ h19) okX4_paidByAll wl_X4_193 kc_7 (q := (RX4, TX4, 12)) rfl rfl rfl rfl (Nat.le_of_ble_eq_true rfl) dX4_counted_88 rfl ?_
    cases hf
    exact ky_ireturn dX4_counted_91 rfl
  have hf := ky_neg c17 hf
  by_cases c21 : a1 = (6 : Int32)
  · have hf := ky_pos c21 hf
    refine ky_tsIn (off := 96) (tgt := 97) dX4_counted_1 (by rw [c21]; decide) (by rw [c21]; decide) (by rw [c21]; rfl) rfl ?_
    refine ky_aload_n (n := 98) dX4_counted_97 rfl rfl 0 rfl ?_
    refine ky_getf (q := (RX4, TX4, 12)) (v := ky_r G 8) (n := 101) dX4_counted_98 rfl kc_7 rfl (Nat.le_of_ble_eq_true rfl) wg_X4_7 (vf_7_0 _ _) ?_
    refine ky_iconst (v := (4 : Int32)) (n := 102) dX4_counted_101 rfl rfl ?_
    refine ky_iload_n (n := 103) dX4_counted_102 rfl rfl 1 rfl ?_
    refine ky_iadd (n := 104) dX4_counted_103 rfl ?_
    refine ky_bipush (v := (6 : Int32)) (n := 106) dX4_counted_104 rfl rfl ?_
    refine ky_isub (n := 107) dX4_counted_106 rfl ?_
    obtain ⟨g22, hf⟩ := ky_ge hf
    refine ky_iald (n := 108) dX4_counted_107 rfl kl_8 g22 ?_
    cases hf
    exact ky_ireturn dX4_counted_108 rfl
  have hf := ky_neg c21 hf
  by_cases c23 : a1 = (7 : Int32)
  · have hf := ky_pos c23 hf
    refine ky_tsIn (off := 96) (tgt := 97) dX4_counted_1 (by rw [c23]; decide) (by rw [c23]; decide) (by rw [c23]; rfl) rfl ?_
    refine ky_aload_n (n := 98) dX4_counted_97 rfl rfl 0 rfl ?_
    refine ky_getf (q := (RX4, TX4, 12)) (v := ky_r G 8) (n := 101) dX4_counted_98 rfl kc_7 rfl (Nat.le_of_ble_eq_true rfl) wg_X4_7 (vf_7_0 _ _) ?_
    refine ky_iconst (v := (4 : Int32)) (n := 102) dX4_counted_101 rfl rfl ?_
    refine ky_iload_n (n := 103) dX4_counted_102 rfl rfl 1 rfl ?_
    refine ky_iadd (n := 104) dX4_counted_103 rfl ?_
    refine ky_bipush (v := (6 : Int32)) (n := 106) dX4_counted_104 rfl rfl ?_
    refine ky_isub (n := 107) dX4_counted_106 rfl ?_
    obtain ⟨g24, hf⟩ := ky_ge hf
    refine ky_iald (n := 108) dX4_counted_107 rfl kl_8 g24 ?_
    cases hf
    exact ky_ireturn dX4_counted_108 rfl
  have hf := ky_neg c23 hf
  by_cases c25 : a1 = (8 : Int32)
  · have hf := ky_pos c25 hf
    refine ky_tsIn (off := 96) (tgt := 97) dX4_counted_1 (by rw [c25]; decide) (by rw [c25]; decide) (by rw [c25]; rfl) rfl ?_
    refine ky_aload_n (n := 98) dX4_counted_97 rfl rfl 0 rfl ?_
    refine ky_getf (q := (RX4, TX4, 12)) (v := ky_r G 8) (n := 101) dX4_counted_98 rfl kc_7 rfl (Nat.le_of_ble_eq_true rfl) wg_X4_7 (vf_7_0 _ _) ?_
    refine ky_iconst (v := (4 : Int32)) (n := 102) dX4_counted_101 rfl rfl ?_
    refine ky_iload_n (n := 103) dX4_counted_102 rfl rfl 1 rfl ?_
    refine ky_iadd (n := 104) dX4_counted_103 rfl ?_
    refine ky_bipush (v := (6 : Int32)) (n := 106) dX4_counted_104 rfl rfl ?_
    refine ky_isub (n := 107) dX4_counted_106 rfl ?_
    obtain ⟨g26, hf⟩ := ky_ge hf
    refine ky_iald (n := 108) dX4_counted_107 rfl kl_8 g26 ?_
    cases hf
    exact ky_ireturn dX4_counted_108 rfl
  have hf := ky_neg c25 hf
  by_cases c27 : a1 = (9 : Int32)
  · have hf := ky_pos c27 hf
    refine ky_tsIn (off := 91) (tgt := 92) dX4_counted_1 (by rw [c27]; decide) (by rw [c27]; decide) (by rw [c27]; rfl) rfl ?_
    refine ky_aload_n (n := 93) dX4_counted_92 rfl rfl 0 rfl ?_
    refine ky_getf (q := (RX4, TX4, 12)) (v := .int (σ.1 7 1)) (n := 96) dX4_counted_93 rfl kc_7 rfl (Nat.le_of_ble_eq_true rfl) wg_X4_29 (vf_7_1 _ _) ?_
    cases hf
    exact ky_ireturn dX4_counted_96 rfl
  have hf := ky_neg c27 hf
  have zc1 : a1.toInt ≠ 0 := ky_swn c1
  have zc3 : a1.toInt ≠ 1 := ky_swn c3
  have zc7 : a1.toInt ≠ 2 := ky_swn c7
  have zc11 : a1.toInt ≠ 3 := ky_swn c11
  have zc13 : a1.toInt ≠ 4 := ky_swn c13
  have zc17 : a1.toInt ≠ 5 := ky_swn c17
  have zc21 : a1.toInt ≠ 6 := ky_swn c21
  have zc23 : a1.toInt ≠ 7 := ky_swn c23
  have zc25 : a1.toInt ≠ 8 := ky_swn c25
  have zc27 : a1.toInt ≠ 9 := ky_swn c27
  refine ky_tsOut (tgt := 97) dX4_counted_1 (by omega) rfl ?_
  refine ky_aload_n (n := 98) dX4_counted_97 rfl rfl 0 rfl ?_
  refine ky_getf (q := (RX4, TX4, 12)) (v := ky_r G 8) (n := 101) dX4_counted_98 rfl kc_7 rfl (Nat.le_of_ble_eq_true rfl) wg_X4_7 (vf_7_0 _ _) ?_
  refine ky_iconst (v := (4 : Int32)) (n := 102) dX4_counted_101 rfl rfl ?_
  refine ky_iload_n (n := 103) dX4_counted_102 rfl rfl 1 rfl ?_
  refine ky_iadd (n := 104) dX4_counted_103 rfl ?_
  refine ky_bipush (v := (6 : Int32)) (n := 106) dX4_counted_104 rfl rfl ?_
  refine ky_isub (n := 107) dX4_counted_106 rfl ?_
  obtain ⟨g28, hf⟩ := ky_ge hf
  refine ky_iald (n := 108) dX4_counted_107 rfl kl_8 g28 ?_
  cases hf
  exact ky_ireturn dX4_counted_108 rfl
def fX4_count (a1 : Int32) (σ : ky_St) : Option (Int32 × ky_St) :=
  ky_bd (fX4_within a1 (0 : Int32) (9 : Int32) σ) fun v3 s1 =>
  if v3 = 0 then (
  ky_bn (ky_u1 s1 7 5 (1 : Int32)) fun s5 =>
  if (s5.1 7 5) ≤ 0 then (
  ky_bd (fX4_counted a1 s5) fun v9 s7 =>
  some (v9, s7)) else (
  some ((0 : Int32), s5))) else (
  ky_bn (ky_u1 s1 7 5 (0 : Int32)) fun s10 =>
  if (s10.1 7 5) ≤ 0 then (
  ky_bd (fX4_counted a1 s10) fun v14 s12 =>
  some (v14, s12)) else (
  some ((0 : Int32), s10)))
set_option maxHeartbeats 4000000 in
set_option maxRecDepth 100000 in
theorem KX4_count {G : ky_G} (d : Nat) (a1 : Int32) (σ : ky_St) (r : Int32) (σ' : ky_St) (hf : fX4_count a1 σ = some (r, σ')) : ky_K G mX4_count (d + 4) 0 0 [ky_r G 7, .int a1] σ (.inr (some (.int r))) σ' := by
  unfold fX4_count at hf
  refine ky_enter rfl (by decide +kernel) (Nat.le_of_ble_eq_true rfl) (lv := [(0, ky_r G 7), (1, .int a1)]) rfl ?_
  refine ky_aload_n (n := 1) dX4_count_0 rfl rfl 0 rfl ?_
  refine ky_iload_n (n := 2) dX4_count_1 rfl rfl 1 rfl ?_
  refine ky_iconst (v := (0 : Int32)) (n := 3) dX4_count_2 rfl rfl ?_
  refine ky_bipush (v := (9 : Int32)) (n := 5) dX4_count_3 rfl rfl ?_
  obtain ⟨v3, s1, h2, hf⟩ := ky_bd_e hf
  refine ky_callS (kc := 0) (ks := 0) (kc2 := 0) (ks2 := 0) (as := [.int a1, .int (0 : Int32), .int (9 : Int32)]) (st := [ky_r G 7]) (KX4_within (d + 3) a1 (0 : Int32) (9 : Int32) σ _ _ h2) okX4_within wl_X4_32 rfl rfl (Nat.le_of_ble_eq_true rfl) dX4_count_5 rfl ?_
  refine ky_if_eq (n := 11) (tgt := 15) dX4_count_8 rfl rfl (fun c4 => ?_) (fun c4 => ?_)
  · have hf := ky_pos c4 hf
    refine ky_iconst (v := (1 : Int32)) (n := 16) dX4_count_15 rfl rfl ?_
    refine ky_putf (q := (RX4, TX4, 12)) (n := 19) dX4_count_16 rfl kc_7 rfl (Nat.le_of_ble_eq_true rfl) wg_X4_25 rfl (by decide +kernel) rfl (fun s5 es5 => ?_)
    have hf := ky_bn_e hf s5 es5
    refine ky_aload_n (n := 20) dX4_count_19 rfl rfl 0 rfl ?_
    refine ky_getf (q := (RX4, TX4, 12)) (v := .int (s5.1 7 5)) (n := 23) dX4_count_20 rfl kc_7 rfl (Nat.le_of_ble_eq_true rfl) wg_X4_25 (vf_7_5 _ _) ?_
    refine ky_if_le (n := 26) (tgt := 30) dX4_count_23 rfl rfl (fun c6 => ?_) (fun c6 => ?_)
    · have hf := ky_pos c6 hf
      refine ky_aload_n (n := 31) dX4_count_30 rfl rfl 0 rfl ?_
      refine ky_iload_n (n := 32) dX4_count_31 rfl rfl 1 rfl ?_
      obtain ⟨v9, s7, h8, hf⟩ := ky_bd_e hf
      refine ky_callV (kc := 0) (ks := 0) (kc2 := 0) (ks2 := 0) (k0 := 7) (as := [.int a1]) (st := []) (KX4_counted d a1 s5 _ _ h8) okX4_counted wl_X4_196 kc_7 (q := (RX4, TX4, 12)) rfl rfl rfl rfl (Nat.le_of_ble_eq_true rfl) dX4_count_32 rfl ?_
      cases hf
      exact ky_ireturn dX4_count_35 rfl
    · have hf := ky_neg c6 hf
      refine ky_iconst (v := (0 : Int32)) (n := 27) dX4_count_26 rfl rfl ?_
      refine ky_goto (tgt := 35) dX4_count_27 rfl ?_
      cases hf
      exact ky_ireturn dX4_count_35 rfl
  · have hf := ky_neg c4 hf
    refine ky_iconst (v := (0 : Int32)) (n := 12) dX4_count_11 rfl rfl ?_
    refine ky_goto (tgt := 16) dX4_count_12 rfl ?_
    refine ky_putf (q := (RX4, TX4, 12)) (n := 19) dX4_count_16 rfl kc_7 rfl (Nat.le_of_ble_eq_true rfl) wg_X4_25 rfl (by decide +kernel) rfl (fun s10 es10 => ?_)
    have hf := ky_bn_e hf s10 es10
    refine ky_aload_n (n := 20) dX4_count_19 rfl rfl 0 rfl ?_
    refine ky_getf (q := (RX4, TX4, 12)) (v := .int (s10.1 7 5)) (n := 23) dX4_count_20 rfl kc_7 rfl (Nat.le_of_ble_eq_true rfl) wg_X4_25 (vf_7_5 _ _) ?_
    refine ky_if_le (n := 26) (tgt := 30) dX4_count_23 rfl rfl (fun c11 => ?_) (fun c11 => ?_)
    · have hf := ky_pos c11 hf
      refine ky_aload_n (n := 31) dX4_count_30 rfl rfl 0 rfl ?_
      refine ky_iload_n (n := 32) dX4_count_31 rfl rfl 1 rfl ?_
      obtain ⟨v14, s12, h13, hf⟩ := ky_bd_e hf
      refine ky_callV (kc := 0) (ks := 0) (kc2 := 0) (ks2 := 0) (k0 := 7) (as := [.int a1]) (st := []) (KX4_counted d a1 s10 _ _ h13) okX4_counted wl_X4_196 kc_7 (q := (RX4, TX4, 12)) rfl rfl rfl rfl (Nat.le_of_ble_eq_true rfl) dX4_count_32 rfl ?_
      cases hf
      exact ky_ireturn dX4_count_35 rfl
    · have hf := ky_neg c11 hf
      refine ky_iconst (v := (0 : Int32)) (n := 27) dX4_count_26 rfl rfl ?_
      refine ky_goto (tgt := 35) dX4_count_27 rfl ?_
      cases hf
      exact ky_ireturn dX4_count_35 rfl
def fX4_setting (a1 : Int32) (σ : ky_St) : Option (Int32 × ky_St) :=
  ky_bd (fX4_isSetting a1 σ) fun v3 s1 =>
  if v3 = 0 then (
  ky_bn (ky_u1 s1 7 5 (1 : Int32)) fun s5 =>
  if (s5.1 7 5) ≤ 0 then (
  ky_g (¬ (a1 < 0 ∨ 283 ≤ a1.toNatClampNeg)) (
  some ((s5.1 8 a1.toNatClampNeg), s5))) else (
  some ((0 : Int32), s5))) else (
  ky_bn (ky_u1 s1 7 5 (0 : Int32)) fun s8 =>
  if (s8.1 7 5) ≤ 0 then (
  ky_g (¬ (a1 < 0 ∨ 283 ≤ a1.toNatClampNeg)) (
  some ((s8.1 8 a1.toNatClampNeg), s8))) else (
  some ((0 : Int32), s8)))
set_option maxHeartbeats 4000000 in
set_option maxRecDepth 100000 in
theorem KX4_setting {G : ky_G} (d : Nat) (a1 : Int32) (σ : ky_St) (r : Int32) (σ' : ky_St) (hf : fX4_setting a1 σ = some (r, σ')) : ky_K G mX4_setting (d + 2) 0 0 [ky_r G 7, .int a1] σ (.inr (some (.int r))) σ' := by
  unfold fX4_setting at hf
  refine ky_enter rfl (by decide +kernel) (Nat.le_of_ble_eq_true rfl) (lv := [(0, ky_r G 7), (1, .int a1)]) rfl ?_
  refine ky_aload_n (n := 1) dX4_setting_0 rfl rfl 0 rfl ?_
  refine ky_iload_n (n := 2) dX4_setting_1 rfl rfl 1 rfl ?_
  obtain ⟨v3, s1, h2, hf⟩ := ky_bd_e hf
  refine ky_callS (kc := 0) (ks := 0) (kc2 := 0) (ks2 := 0) (as := [.int a1]) (st := [ky_r G 7]) (KX4_isSetting d a1 σ _ _ h2) okX4_isSetting wl_X4_134 rfl rfl (Nat.le_of_ble_eq_true rfl) dX4_setting_2 rfl ?_
  refine ky_if_eq (n := 8) (tgt := 12) dX4_setting_5 rfl rfl (fun c4 => ?_) (fun c4 => ?_)
  · have hf := ky_pos c4 hf
    refine ky_iconst (v := (1 : Int32)) (n := 13) dX4_setting_12 rfl rfl ?_
    refine ky_putf (q := (RX4, TX4, 12)) (n := 16) dX4_setting_13 rfl kc_7 rfl (Nat.le_of_ble_eq_true rfl) wg_X4_25 rfl (by decide +kernel) rfl (fun s5 es5 => ?_)
    have hf := ky_bn_e hf s5 es5
    refine ky_aload_n (n := 17) dX4_setting_16 rfl rfl 0 rfl ?_
    refine ky_getf (q := (RX4, TX4, 12)) (v := .int (s5.1 7 5)) (n := 20) dX4_setting_17 rfl kc_7 rfl (Nat.le_of_ble_eq_true rfl) wg_X4_25 (vf_7_5 _ _) ?_
    refine ky_if_le (n := 23) (tgt := 27) dX4_setting_20 rfl rfl (fun c6 => ?_) (fun c6 => ?_)
    · have hf := ky_pos c6 hf
      refine ky_aload_n (n := 28) dX4_setting_27 rfl rfl 0 rfl ?_
      refine ky_getf (q := (RX4, TX4, 12)) (v := ky_r G 8) (n := 31) dX4_setting_28 rfl kc_7 rfl (Nat.le_of_ble_eq_true rfl) wg_X4_7 (vf_7_0 _ _) ?_
      refine ky_iload_n (n := 32) dX4_setting_31 rfl rfl 1 rfl ?_
      obtain ⟨g7, hf⟩ := ky_ge hf
      refine ky_iald (n := 33) dX4_setting_32 rfl kl_8 g7 ?_
      cases hf
      exact ky_ireturn dX4_setting_33 rfl
    · have hf := ky_neg c6 hf
      refine ky_iconst (v := (0 : Int32)) (n := 24) dX4_setting_23 rfl rfl ?_
      refine ky_goto (tgt := 33) dX4_setting_24 rfl ?_
      cases hf
      exact ky_ireturn dX4_setting_33 rfl
  · have hf := ky_neg c4 hf
    refine ky_iconst (v := (0 : Int32)) (n := 9) dX4_setting_8 rfl rfl ?_
    refine ky_goto (tgt := 13) dX4_setting_9 rfl ?_
    refine ky_putf (q := (RX4, TX4, 12)) (n := 16) dX4_setting_13 rfl kc_7 rfl (Nat.le_of_ble_eq_true rfl) wg_X4_25 rfl (by decide +kernel) rfl (fun s8 es8 => ?_)
    have hf := ky_bn_e hf s8 es8
    refine ky_aload_n (n := 17) dX4_setting_16 rfl rfl 0 rfl ?_
    refine ky_getf (q := (RX4, TX4, 12)) (v := .int (s8.1 7 5)) (n := 20) dX4_setting_17 rfl kc_7 rfl (Nat.le_of_ble_eq_true rfl) wg_X4_25 (vf_7_5 _ _) ?_
    refine ky_if_le (n := 23) (tgt := 27) dX4_setting_20 rfl rfl (fun c9 => ?_) (fun c9 => ?_)
    · have hf := ky_pos c9 hf
      refine ky_aload_n (n := 28) dX4_setting_27 rfl rfl 0 rfl ?_
      refine ky_getf (q := (RX4, TX4, 12)) (v := ky_r G 8) (n := 31) dX4_setting_28 rfl kc_7 rfl (Nat.le_of_ble_eq_true rfl) wg_X4_7 (vf_7_0 _ _) ?_
      refine ky_iload_n (n := 32) dX4_setting_31 rfl rfl 1 rfl ?_
      obtain ⟨g10, hf⟩ := ky_ge hf
      refine ky_iald (n := 33) dX4_setting_32 rfl kl_8 g10 ?_
      cases hf
      exact ky_ireturn dX4_setting_33 rfl
    · have hf := ky_neg c9 hf
      refine ky_iconst (v := (0 : Int32)) (n := 24) dX4_setting_23 rfl rfl ?_
      refine ky_goto (tgt := 33) dX4_setting_24 rfl ?_
      cases hf
      exact ky_ireturn dX4_setting_33 rfl
def fX4_billIn (a1 : Int32) (a2 : Int32) (σ : ky_St) : Option (Int32 × ky_St) :=
  ky_bd (fX4_isSet a1 σ) fun v3 s1 =>
  if v3 = 0 then (
  ky_bn (ky_u1 s1 7 5 (1 : Int32)) fun s19 =>
  if (s19.1 7 5) ≤ 0 then (
  ky_bd (fX4_dueIn a1 a2 s19) fun v23 s21 =>
  some (v23, s21)) else (
  some ((0 : Int32), s19))) else (
  ky_bd (fX4_within a2 (0 : Int32) (200 : Int32) s1) fun v7 s5 =>
  if v7 = 0 then (
  ky_bn (ky_u1 s5 7 5 (2 : Int32)) fun s9 =>
  if (s9.1 7 5) ≤ 0 then (
  ky_bd (fX4_dueIn a1 a2 s9) fun v13 s11 =>
  some (v13, s11)) else (
  some ((0 : Int32), s9))) else (
  ky_bn (ky_u1 s5 7 5 (0 : Int32)) fun s14 =>
  if (s14.1 7 5) ≤ 0 then (
  ky_bd (fX4_dueIn a1 a2 s14) fun v18 s16 =>
  some (v18, s16)) else (
  some ((0 : Int32), s14))))
set_option maxHeartbeats 4000000 in
set_option maxRecDepth 100000 in
theorem KX4_billIn {G : ky_G} (d : Nat) (a1 : Int32) (a2 : Int32) (σ : ky_St) (r : Int32) (σ' : ky_St) (hf : fX4_billIn a1 a2 σ = some (r, σ')) : ky_K G mX4_billIn (d + 3) 0 0 [ky_r G 7, .int a1, .int a2] σ (.inr (some (.int r))) σ' := by
  unfold fX4_billIn at hf
  refine ky_enter rfl (by decide +kernel) (Nat.le_of_ble_eq_true rfl) (lv := [(0, ky_r G 7), (1, .int a1), (2, .int a2)]) rfl ?_
  refine ky_aload_n (n := 1) dX4_billIn_0 rfl rfl 0 rfl ?_
  refine ky_aload_n (n := 2) dX4_billIn_1 rfl rfl 0 rfl ?_
  refine ky_iload_n (n := 3) dX4_billIn_2 rfl rfl 1 rfl ?_
  obtain ⟨v3, s1, h2, hf⟩ := ky_bd_e hf
  refine ky_callV (kc := 0) (ks := 0) (kc2 := 0) (ks2 := 0) (k0 := 7) (as := [.int a1]) (st := [ky_r G 7]) (KX4_isSet (d + 1) a1 σ _ _ h2) okX4_isSet wl_X4_67 kc_7 (q := (RX4, TX4, 12)) rfl rfl rfl rfl (Nat.le_of_ble_eq_true rfl) dX4_billIn_3 rfl ?_
  refine ky_if_ne (n := 9) (tgt := 13) dX4_billIn_6 rfl rfl (fun c4 => ?_) (fun c4 => ?_)
  · have hf := ky_neg c4 hf
    refine ky_iload_n (n := 14) dX4_billIn_13 rfl rfl 2 rfl ?_
    refine ky_iconst (v := (0 : Int32)) (n := 15) dX4_billIn_14 rfl rfl ?_
    refine ky_sipush (v := (200 : Int32)) (n := 18) dX4_billIn_15 rfl rfl ?_
    obtain ⟨v7, s5, h6, hf⟩ := ky_bd_e hf
    refine ky_callS (kc := 0) (ks := 0) (kc2 := 0) (ks2 := 0) (as := [.int a2, .int (0 : Int32), .int (200 : Int32)]) (st := [ky_r G 7]) (KX4_within (d + 2) a2 (0 : Int32) (200 : Int32) s1 _ _ h6) okX4_within wl_X4_32 rfl rfl (Nat.le_of_ble_eq_true rfl) dX4_billIn_18 rfl ?_
    refine ky_if_eq (n := 24) (tgt := 28) dX4_billIn_21 rfl rfl (fun c8 => ?_) (fun c8 => ?_)
    · have hf := ky_pos c8 hf
      refine ky_iconst (v := (2 : Int32)) (n := 29) dX4_billIn_28 rfl rfl ?_
      refine ky_putf (q := (RX4, TX4, 12)) (n := 32) dX4_billIn_29 rfl kc_7 rfl (Nat.le_of_ble_eq_true rfl) wg_X4_25 rfl (by decide +kernel) rfl (fun s9 es9 => ?_)
      have hf := ky_bn_e hf s9 es9
      refine ky_aload_n (n := 33) dX4_billIn_32 rfl rfl 0 rfl ?_
      refine ky_getf (q := (RX4, TX4, 12)) (v := .int (s9.1 7 5)) (n := 36) dX4_billIn_33 rfl kc_7 rfl (Nat.le_of_ble_eq_true rfl) wg_X4_25 (vf_7_5 _ _) ?_
      refine ky_if_le (n := 39) (tgt := 43) dX4_billIn_36 rfl rfl (fun c10 => ?_) (fun c10 => ?_)
      · have hf := ky_pos c10 hf
        refine ky_aload_n (n := 44) dX4_billIn_43 rfl rfl 0 rfl ?_
        refine ky_iload_n (n := 45) dX4_billIn_44 rfl rfl 1 rfl ?_
        refine ky_iload_n (n := 46) dX4_billIn_45 rfl rfl 2 rfl ?_
        obtain ⟨v13, s11, h12, hf⟩ := ky_bd_e hf
        refine ky_callV (kc := 0) (ks := 0) (kc2 := 0) (ks2 := 0) (k0 := 7) (as := [.int a1, .int a2]) (st := []) (KX4_dueIn d a1 a2 s9 _ _ h12) okX4_dueIn wl_X4_89 kc_7 (q := (RX4, TX4, 12)) rfl rfl rfl rfl (Nat.le_of_ble_eq_true rfl) dX4_billIn_46 rfl ?_
        cases hf
        exact ky_ireturn dX4_billIn_49 rfl
      · have hf := ky_neg c10 hf
        refine ky_iconst (v := (0 : Int32)) (n := 40) dX4_billIn_39 rfl rfl ?_
        refine ky_goto (tgt := 49) dX4_billIn_40 rfl ?_
        cases hf
        exact ky_ireturn dX4_billIn_49 rfl
    · have hf := ky_neg c8 hf
      refine ky_iconst (v := (0 : Int32)) (n := 25) dX4_billIn_24 rfl rfl ?_
      refine ky_goto (tgt := 29) dX4_billIn_25 rfl ?_
      refine ky_putf (q := (RX4, TX4, 12)) (n := 32) dX4_billIn_29 rfl kc_7 rfl (Nat.le_of_ble_eq_true rfl) wg_X4_25 rfl (by decide +kernel) rfl (fun s14 es14 => ?_)
      have hf := ky_bn_e hf s14 es14
      refine ky_aload_n (n := 33) dX4_billIn_32 rfl rfl 0 rfl ?_
      refine ky_getf (q := (RX4, TX4, 12)) (v := .int (s14.1 7 5)) (n := 36) dX4_billIn_33 rfl kc_7 rfl (Nat.le_of_ble_eq_true rfl) wg_X4_25 (vf_7_5 _ _) ?_
      refine ky_if_le (n := 39) (tgt := 43) dX4_billIn_36 rfl rfl (fun c15 => ?_) (fun c15 => ?_)
      · have hf := ky_pos c15 hf
        refine ky_aload_n (n := 44) dX4_billIn_43 rfl rfl 0 rfl ?_
        refine ky_iload_n (n := 45) dX4_billIn_44 rfl rfl 1 rfl ?_
        refine ky_iload_n (n := 46) dX4_billIn_45 rfl rfl 2 rfl ?_
        obtain ⟨v18, s16, h17, hf⟩ := ky_bd_e hf
        refine ky_callV (kc := 0) (ks := 0) (kc2 := 0) (ks2 := 0) (k0 := 7) (as := [.int a1, .int a2]) (st := []) (KX4_dueIn d a1 a2 s14 _ _ h17) okX4_dueIn wl_X4_89 kc_7 (q := (RX4, TX4, 12)) rfl rfl rfl rfl (Nat.le_of_ble_eq_true rfl) dX4_billIn_46 rfl ?_
        cases hf
        exact ky_ireturn dX4_billIn_49 rfl
      · have hf := ky_neg c15 hf
        refine ky_iconst (v := (0 : Int32)) (n := 40) dX4_billIn_39 rfl rfl ?_
        refine ky_goto (tgt := 49) dX4_billIn_40 rfl ?_
        cases hf
        exact ky_ireturn dX4_billIn_49 rfl
  · have hf := ky_pos c4 hf
    refine ky_iconst (v := (1 : Int32)) (n := 10) dX4_billIn_9 rfl rfl ?_
    refine ky_goto (tgt := 29) dX4_billIn_10 rfl ?_
    refine ky_putf (q := (RX4, TX4, 12)) (n := 32) dX4_billIn_29 rfl kc_7 rfl (Nat.le_of_ble_eq_true rfl) wg_X4_25 rfl (by decide +kernel) rfl (fun s19 es19 => ?_)
    have hf := ky_bn_e hf s19 es19
    refine ky_aload_n (n := 33) dX4_billIn_32 rfl rfl 0 rfl ?_
    refine ky_getf (q := (RX4, TX4, 12)) (v := .int (s19.1 7 5)) (n := 36) dX4_billIn_33 rfl kc_7 rfl (Nat.le_of_ble_eq_true rfl) wg_X4_25 (vf_7_5 _ _) ?_
    refine ky_if_le (n := 39) (tgt := 43) dX4_billIn_36 rfl rfl (fun c20 => ?_) (fun c20 => ?_)
    · have hf := ky_pos c20 hf
      refine ky_aload_n (n := 44) dX4_billIn_43 rfl rfl 0 rfl ?_
      refine ky_iload_n (n := 45) dX4_billIn_44 rfl rfl 1 rfl ?_
      refine ky_iload_n (n := 46) dX4_billIn_45 rfl rfl 2 rfl ?_
      obtain ⟨v23, s21, h22, hf⟩ := ky_bd_e hf
      refine ky_callV (kc := 0) (ks := 0) (kc2 := 0) (ks2 := 0) (k0 := 7) (as := [.int a1, .int a2]) (st := []) (KX4_dueIn d a1 a2 s19 _ _ h22) okX4_dueIn wl_X4_89 kc_7 (q := (RX4, TX4, 12)) rfl rfl rfl rfl (Nat.le_of_ble_eq_true rfl) dX4_billIn_46 rfl ?_
      cases hf
      exact ky_ireturn dX4_billIn_49 rfl
    · have hf := ky_neg c20 hf
      refine ky_iconst (v := (0 : Int32)) (n := 40) dX4_billIn_39 rfl rfl ?_
      refine ky_goto (tgt := 49) dX4_billIn_40 rfl ?_
      cases hf
      exact ky_ireturn dX4_billIn_49 rfl
def fX4_splitNow_L6 : Nat → Int32 → Int32 → Int32 → Int32 → Int32 → ky_St → Option (Int32 × ky_St)
  | 0, _, _, _, _, _, _ => none
  | fu + 1, x1, x2, x3, x4, x5, σ =>
  if (3 : Int32) ≤ x5 then (
  some (x4, σ)) else (
  ky_bd (fX4_of x1 ((6 : Int32) + x5) σ) fun v4 s2 =>
  if v4 = x3 then (
  ky_bd (fX4_shareOf x1 x5 x2 s2) fun v10 s8 =>
  ky_bn (x4 + v10) fun v11 =>
  ky_bn (x5 + (1 : Int32)) fun v12 =>
  fX4_splitNow_L6 fu x1 x2 x3 v11 v12 s8) else (
  ky_bn (x4 + (0 : Int32)) fun v6 =>
  ky_bn (x5 + (1 : Int32)) fun v7 =>
  fX4_splitNow_L6 fu x1 x2 x3 v6 v7 s2))
set_option maxHeartbeats 4000000 in
set_option maxRecDepth 100000 in
theorem tX4_splitNow_L6 {G : ky_G} (d : Nat) : ∀ (fu : Nat) (x1 : Int32) (x2 : Int32) (x3 : Int32) (x4 : Int32) (x5 : Int32) (σ : ky_St) (r : Int32) (σ' : ky_St), fX4_splitNow_L6 fu x1 x2 x3 x4 x5 σ = some (r, σ') → ky_T G mX4_splitNow (d + 3) 0 0 6 [(0, ky_r G 7), (1, .int x1), (2, .int x2), (3, .int x3), (4, .int x4), (5, .int x5)] [] σ (.inr (some (.int r))) σ' := by
  intro fu
  induction fu with
  | zero =>
    intro x1 x2 x3 x4 x5 σ r σ' hf
    rw [fX4_splitNow_L6] at hf
    cases hf
  | succ fu ih =>
    intro x1 x2 x3 x4 x5 σ r σ' hf
    rw [fX4_splitNow_L6] at hf
    refine ky_iload (n := 8) dX4_splitNow_6 rfl 5 rfl ?_
    refine ky_iconst (v := (3 : Int32)) (n := 9) dX4_splitNow_8 rfl rfl ?_
    refine ky_icmp_ge (n := 12) (tgt := 49) dX4_splitNow_9 rfl rfl (fun c1 => ?_) (fun c1 => ?_)
    · have hf := ky_pos c1 hf
      refine ky_iload (n := 51) dX4_splitNow_49 rfl 4 rfl ?_
      cases hf
      exact ky_ireturn dX4_splitNow_51 rfl
    · have hf := ky_neg c1 hf
      refine ky_iload (n := 14) dX4_splitNow_12 rfl 4 rfl ?_
      refine ky_aload_n (n := 15) dX4_splitNow_14 rfl rfl 0 rfl ?_
      refine ky_iload_n (n := 16) dX4_splitNow_15 rfl rfl 1 rfl ?_
      refine ky_bipush (v := (6 : Int32)) (n := 18) dX4_splitNow_16 rfl rfl ?_
      refine ky_iload (n := 20) dX4_splitNow_18 rfl 5 rfl ?_
      refine ky_iadd (n := 21) dX4_splitNow_20 rfl ?_
      obtain ⟨v4, s2, h3, hf⟩ := ky_bd_e hf
      refine ky_callV (kc := 0) (ks := 0) (kc2 := 0) (ks2 := 0) (k0 := 7) (as := [.int x1, .int ((6 : Int32) + x5)]) (st := [.int x4]) (KX4_of (d + 2) x1 ((6 : Int32) + x5) σ _ _ h3) okX4_of wl_X4_36 kc_7 (q := (RX4, TX4, 12)) rfl rfl rfl rfl (Nat.le_of_ble_eq_true rfl) dX4_splitNow_21 rfl ?_
      refine ky_iload_n (n := 25) dX4_splitNow_24 rfl rfl 3 rfl ?_
      refine ky_icmp_ne (n := 28) (tgt := 39) dX4_splitNow_25 rfl rfl (fun c5 => ?_) (fun c5 => ?_)
      · have hf := ky_neg c5 hf
        refine ky_iconst (v := (0 : Int32)) (n := 40) dX4_splitNow_39 rfl rfl ?_
        refine ky_iadd (n := 41) dX4_splitNow_40 rfl ?_
        refine ky_topi (fun v6 ev6 => ?_)
        have hf := ky_bn_e hf v6 ev6
        refine ky_istore (lv' := [(4, .int v6), (0, ky_r G 7), (1, .int x1), (2, .int x2), (3, .int x3), (5, .int x5)]) (n := 43) dX4_splitNow_41 rfl (Nat.le_of_ble_eq_true rfl) rfl ?_
        refine ky_iincB (c := (1 : Int32)) (n := 46) dX4_splitNow_43 rfl 5 rfl rfl (Nat.le_of_ble_eq_true rfl) (fun v7 ev7 => ?_)
        have hf := ky_bn_e hf v7 ev7
        refine ky_lv (lv' := [(5, .int v7), (4, .int v6), (0, ky_r G 7), (1, .int x1), (2, .int x2), (3, .int x3)]) rfl ?_
        refine ky_goto (tgt := 6) dX4_splitNow_46 rfl ?_
        refine ky_sub [2, 3, 4, 5, 1, 0] (lv' := [(0, ky_r G 7), (1, .int x1), (2, .int x2), (3, .int x3), (4, .int v6), (5, .int v7)]) rfl ?_
        exact ih x1 x2 x3 v6 v7 s2 _ _ hf
      · have hf := ky_pos c5 hf
        refine ky_aload_n (n := 29) dX4_splitNow_28 rfl rfl 0 rfl ?_
        refine ky_iload_n (n := 30) dX4_splitNow_29 rfl rfl 1 rfl ?_
        refine ky_iload (n := 32) dX4_splitNow_30 rfl 5 rfl ?_
        refine ky_iload_n (n := 33) dX4_splitNow_32 rfl rfl 2 rfl ?_
        obtain ⟨v10, s8, h9, hf⟩ := ky_bd_e hf
        refine ky_callV (kc := 0) (ks := 0) (kc2 := 0) (ks2 := 0) (k0 := 7) (as := [.int x1, .int x5, .int x2]) (st := [.int x4]) (KX4_shareOf d x1 x5 x2 s2 _ _ h9) okX4_shareOf wl_X4_79 kc_7 (q := (RX4, TX4, 12)) rfl rfl rfl rfl (Nat.le_of_ble_eq_true rfl) dX4_splitNow_33 rfl ?_
        refine ky_goto (tgt := 40) dX4_splitNow_36 rfl ?_
        refine ky_iadd (n := 41) dX4_splitNow_40 rfl ?_
        refine ky_topi (fun v11 ev11 => ?_)
        have hf := ky_bn_e hf v11 ev11
        refine ky_istore (lv' := [(4, .int v11), (0, ky_r G 7), (1, .int x1), (2, .int x2), (3, .int x3), (5, .int x5)]) (n := 43) dX4_splitNow_41 rfl (Nat.le_of_ble_eq_true rfl) rfl ?_
        refine ky_iincB (c := (1 : Int32)) (n := 46) dX4_splitNow_43 rfl 5 rfl rfl (Nat.le_of_ble_eq_true rfl) (fun v12 ev12 => ?_)
        have hf := ky_bn_e hf v12 ev12
        refine ky_lv (lv' := [(5, .int v12), (4, .int v11), (0, ky_r G 7), (1, .int x1), (2, .int x2), (3, .int x3)]) rfl ?_
        refine ky_goto (tgt := 6) dX4_splitNow_46 rfl ?_
        refine ky_sub [2, 3, 4, 5, 1, 0] (lv' := [(0, ky_r G 7), (1, .int x1), (2, .int x2), (3, .int x3), (4, .int v11), (5, .int v12)]) rfl ?_
        exact ih x1 x2 x3 v11 v12 s8 _ _ hf
def fX4_splitNow (a1 : Int32) (a2 : Int32) (a3 : Int32) (σ : ky_St) : Option (Int32 × ky_St) :=
  fX4_splitNow_L6 FU a1 a2 a3 (0 : Int32) (0 : Int32) σ
set_option maxHeartbeats 4000000 in
set_option maxRecDepth 100000 in
theorem KX4_splitNow {G : ky_G} (d : Nat) (a1 : Int32) (a2 : Int32) (a3 : Int32) (σ : ky_St) (r : Int32) (σ' : ky_St) (hf : fX4_splitNow a1 a2 a3 σ = some (r, σ')) : ky_K G mX4_splitNow (d + 3) 0 0 [ky_r G 7, .int a1, .int a2, .int a3] σ (.inr (some (.int r))) σ' := by
  unfold fX4_splitNow at hf
  refine ky_enter rfl (by decide +kernel) (Nat.le_of_ble_eq_true rfl) (lv := [(0, ky_r G 7), (1, .int a1), (2, .int a2), (3, .int a3)]) rfl ?_
  refine ky_iconst (v := (0 : Int32)) (n := 1) dX4_splitNow_0 rfl rfl ?_
  refine ky_istore (lv' := [(4, .int (0 : Int32)), (0, ky_r G 7), (1, .int a1), (2, .int a2), (3, .int a3)]) (n := 3) dX4_splitNow_1 rfl (Nat.le_of_ble_eq_true rfl) rfl ?_
  refine ky_iconst (v := (0 : Int32)) (n := 4) dX4_splitNow_3 rfl rfl ?_
  refine ky_istore (lv' := [(5, .int (0 : Int32)), (4, .int (0 : Int32)), (0, ky_r G 7), (1, .int a1), (2, .int a2), (3, .int a3)]) (n := 6) dX4_splitNow_4 rfl (Nat.le_of_ble_eq_true rfl) rfl ?_
  refine ky_sub [2, 3, 4, 5, 1, 0] (lv' := [(0, ky_r G 7), (1, .int a1), (2, .int a2), (3, .int a3), (4, .int (0 : Int32)), (5, .int (0 : Int32))]) rfl ?_
  exact tX4_splitNow_L6 d FU a1 a2 a3 (0 : Int32) (0 : Int32) σ _ _ hf
def fX4_splitOn (a1 : Int32) (a2 : Int32) (a3 : Int32) (σ : ky_St) : Option (Int32 × ky_St) :=
  ky_bd (fX4_isSet a1 σ) fun v3 s1 =>
  if v3 = 0 then (
  ky_bn (ky_u1 s1 7 5 (1 : Int32)) fun s5 =>
  if (s5.1 7 5) ≤ 0 then (
  ky_bd (fX4_splitNow a1 a2 a3 s5) fun v9 s7 =>
  some (v9, s7)) else (
  some ((0 : Int32), s5))) else (
  ky_bd (fX4_isSite a3 s1) fun v12 s10 =>
  if v12 = 0 then (
  ky_bn (ky_u1 s10 7 5 (1 : Int32)) fun s28 =>
  if (s28.1 7 5) ≤ 0 then (
  ky_bd (fX4_splitNow a1 a2 a3 s28) fun v32 s30 =>
  some (v32, s30)) else (
  some ((0 : Int32), s28))) else (
  ky_bd (fX4_within a2 (0 : Int32) (9999 : Int32) s10) fun v16 s14 =>
  if v16 = 0 then (
  ky_bn (ky_u1 s14 7 5 (2 : Int32)) fun s18 =>
  if (s18.1 7 5) ≤ 0 then (
  ky_bd (fX4_splitNow a1 a2 a3 s18) fun v22 s20 =>
  some (v22, s20)) else (
  some ((0 : Int32), s18))) else (
  ky_bn (ky_u1 s14 7 5 (0 : Int32)) fun s23 =>
  if (s23.1 7 5) ≤ 0 then (
  ky_bd (fX4_splitNow a1 a2 a3 s23) fun v27 s25 =>
  some (v27, s25)) else (
  some ((0 : Int32), s23)))))
set_option maxHeartbeats 4000000 in
set_option maxRecDepth 100000 in
theorem KX4_splitOn {G : ky_G} (d : Nat) (a1 : Int32) (a2 : Int32) (a3 : Int32) (σ : ky_St) (r : Int32) (σ' : ky_St) (hf : fX4_splitOn a1 a2 a3 σ = some (r, σ')) : ky_K G mX4_splitOn (d + 4) 0 0 [ky_r G 7, .int a1, .int a2, .int a3] σ (.inr (some (.int r))) σ' := by
  unfold fX4_splitOn at hf
  refine ky_enter rfl (by decide +kernel) (Nat.le_of_ble_eq_true rfl) (lv := [(0, ky_r G 7), (1, .int a1), (2, .int a2), (3, .int a3)]) rfl ?_
  refine ky_aload_n (n := 1) dX4_splitOn_0 rfl rfl 0 rfl ?_
  refine ky_aload_n (n := 2) dX4_splitOn_1 rfl rfl 0 rfl ?_
  refine ky_iload_n (n := 3) dX4_splitOn_2 rfl rfl 1 rfl ?_
  obtain ⟨v3, s1, h2, hf⟩ := ky_bd_e hf
  refine ky_callV (kc := 0) (ks := 0) (kc2 := 0) (ks2 := 0) (k0 := 7) (as := [.int a1]) (st := [ky_r G 7]) (KX4_isSet (d + 2) a1 σ _ _ h2) okX4_isSet wl_X4_67 kc_7 (q := (RX4, TX4, 12)) rfl rfl rfl rfl (Nat.le_of_ble_eq_true rfl) dX4_splitOn_3 rfl ?_
  refine ky_if_eq (n := 9) (tgt := 16) dX4_splitOn_6 rfl rfl (fun c4 => ?_) (fun c4 => ?_)
  · have hf := ky_pos c4 hf
    refine ky_iconst (v := (1 : Int32)) (n := 17) dX4_splitOn_16 rfl rfl ?_
    refine ky_goto (tgt := 36) dX4_splitOn_17 rfl ?_
    refine ky_putf (q := (RX4, TX4, 12)) (n := 39) dX4_splitOn_36 rfl kc_7 rfl (Nat.le_of_ble_eq_true rfl) wg_X4_25 rfl (by decide +kernel) rfl (fun s5 es5 => ?_)
    have hf := ky_bn_e hf s5 es5
    refine ky_aload_n (n := 40) dX4_splitOn_39 rfl rfl 0 rfl ?_
    refine ky_getf (q := (RX4, TX4, 12)) (v := .int (s5.1 7 5)) (n := 43) dX4_splitOn_40 rfl kc_7 rfl (Nat.le_of_ble_eq_true rfl) wg_X4_25 (vf_7_5 _ _) ?_
    refine ky_if_le (n := 46) (tgt := 50) dX4_splitOn_43 rfl rfl (fun c6 => ?_) (fun c6 => ?_)
    · have hf := ky_pos c6 hf
      refine ky_aload_n (n := 51) dX4_splitOn_50 rfl rfl 0 rfl ?_
      refine ky_iload_n (n := 52) dX4_splitOn_51 rfl rfl 1 rfl ?_
      refine ky_iload_n (n := 53) dX4_splitOn_52 rfl rfl 2 rfl ?_
      refine ky_iload_n (n := 54) dX4_splitOn_53 rfl rfl 3 rfl ?_
      obtain ⟨v9, s7, h8, hf⟩ := ky_bd_e hf
      refine ky_callV (kc := 0) (ks := 0) (kc2 := 0) (ks2 := 0) (k0 := 7) (as := [.int a1, .int a2, .int a3]) (st := []) (KX4_splitNow d a1 a2 a3 s5 _ _ h8) okX4_splitNow wl_X4_199 kc_7 (q := (RX4, TX4, 12)) rfl rfl rfl rfl (Nat.le_of_ble_eq_true rfl) dX4_splitOn_54 rfl ?_
      cases hf
      exact ky_ireturn dX4_splitOn_57 rfl
    · have hf := ky_neg c6 hf
      refine ky_iconst (v := (0 : Int32)) (n := 47) dX4_splitOn_46 rfl rfl ?_
      refine ky_goto (tgt := 57) dX4_splitOn_47 rfl ?_
      cases hf
      exact ky_ireturn dX4_splitOn_57 rfl
  · have hf := ky_neg c4 hf
    refine ky_iload_n (n := 10) dX4_splitOn_9 rfl rfl 3 rfl ?_
    obtain ⟨v12, s10, h11, hf⟩ := ky_bd_e hf
    refine ky_callS (kc := 0) (ks := 0) (kc2 := 0) (ks2 := 0) (as := [.int a3]) (st := [ky_r G 7]) (KX4_isSite (d + 2) a3 s1 _ _ h11) okX4_isSite wl_X4_100 rfl rfl (Nat.le_of_ble_eq_true rfl) dX4_splitOn_10 rfl ?_
    refine ky_if_ne (n := 16) (tgt := 20) dX4_splitOn_13 rfl rfl (fun c13 => ?_) (fun c13 => ?_)
    · have hf := ky_neg c13 hf
      refine ky_iload_n (n := 21) dX4_splitOn_20 rfl rfl 2 rfl ?_
      refine ky_iconst (v := (0 : Int32)) (n := 22) dX4_splitOn_21 rfl rfl ?_
      refine ky_sipush (v := (9999 : Int32)) (n := 25) dX4_splitOn_22 rfl rfl ?_
      obtain ⟨v16, s14, h15, hf⟩ := ky_bd_e hf
      refine ky_callS (kc := 0) (ks := 0) (kc2 := 0) (ks2 := 0) (as := [.int a2, .int (0 : Int32), .int (9999 : Int32)]) (st := [ky_r G 7]) (KX4_within (d + 3) a2 (0 : Int32) (9999 : Int32) s10 _ _ h15) okX4_within wl_X4_32 rfl rfl (Nat.le_of_ble_eq_true rfl) dX4_splitOn_25 rfl ?_
      refine ky_if_eq (n := 31) (tgt := 35) dX4_splitOn_28 rfl rfl (fun c17 => ?_) (fun c17 => ?_)
      · have hf := ky_pos c17 hf
        refine ky_iconst (v := (2 : Int32)) (n := 36) dX4_splitOn_35 rfl rfl ?_
        refine ky_putf (q := (RX4, TX4, 12)) (n := 39) dX4_splitOn_36 rfl kc_7 rfl (Nat.le_of_ble_eq_true rfl) wg_X4_25 rfl (by decide +kernel) rfl (fun s18 es18 => ?_)
        have hf := ky_bn_e hf s18 es18
        refine ky_aload_n (n := 40) dX4_splitOn_39 rfl rfl 0 rfl ?_
        refine ky_getf (q := (RX4, TX4, 12)) (v := .int (s18.1 7 5)) (n := 43) dX4_splitOn_40 rfl kc_7 rfl (Nat.le_of_ble_eq_true rfl) wg_X4_25 (vf_7_5 _ _) ?_
        refine ky_if_le (n := 46) (tgt := 50) dX4_splitOn_43 rfl rfl (fun c19 => ?_) (fun c19 => ?_)
        · have hf := ky_pos c19 hf
          refine ky_aload_n (n := 51) dX4_splitOn_50 rfl rfl 0 rfl ?_
          refine ky_iload_n (n := 52) dX4_splitOn_51 rfl rfl 1 rfl ?_
          refine ky_iload_n (n := 53) dX4_splitOn_52 rfl rfl 2 rfl ?_
          refine ky_iload_n (n := 54) dX4_splitOn_53 rfl rfl 3 rfl ?_
          obtain ⟨v22, s20, h21, hf⟩ := ky_bd_e hf
          refine ky_callV (kc := 0) (ks := 0) (kc2 := 0) (ks2 := 0) (k0 := 7) (as := [.int a1, .int a2, .int a3]) (st := []) (KX4_splitNow d a1 a2 a3 s18 _ _ h21) okX4_splitNow wl_X4_199 kc_7 (q := (RX4, TX4, 12)) rfl rfl rfl rfl (Nat.le_of_ble_eq_true rfl) dX4_splitOn_54 rfl ?_
          cases hf
          exact ky_ireturn dX4_splitOn_57 rfl
        · have hf := ky_neg c19 hf
          refine ky_iconst (v := (0 : Int32)) (n := 47) dX4_splitOn_46 rfl rfl ?_
          refine ky_goto (tgt := 57) dX4_splitOn_47 rfl ?_
          cases hf
          exact ky_ireturn dX4_splitOn_57 rfl
      · have hf := ky_neg c17 hf
        refine ky_iconst (v := (0 : Int32)) (n := 32) dX4_splitOn_31 rfl rfl ?_
        refine ky_goto (tgt := 36) dX4_splitOn_32 rfl ?_
        refine ky_putf (q := (RX4, TX4, 12)) (n := 39) dX4_splitOn_36 rfl kc_7 rfl (Nat.le_of_ble_eq_true rfl) wg_X4_25 rfl (by decide +kernel) rfl (fun s23 es23 => ?_)
        have hf := ky_bn_e hf s23 es23
        refine ky_aload_n (n := 40) dX4_splitOn_39 rfl rfl 0 rfl ?_
        refine ky_getf (q := (RX4, TX4, 12)) (v := .int (s23.1 7 5)) (n := 43) dX4_splitOn_40 rfl kc_7 rfl (Nat.le_of_ble_eq_true rfl) wg_X4_25 (vf_7_5 _ _) ?_
        refine ky_if_le (n := 46) (tgt := 50) dX4_splitOn_43 rfl rfl (fun c24 => ?_) (fun c24 => ?_)
        · have hf := ky_pos c24 hf
          refine ky_aload_n (n := 51) dX4_splitOn_50 rfl rfl 0 rfl ?_
          refine ky_iload_n (n := 52) dX4_splitOn_51 rfl rfl 1 rfl ?_
          refine ky_iload_n (n := 53) dX4_splitOn_52 rfl rfl 2 rfl ?_
          refine ky_iload_n (n := 54) dX4_splitOn_53 rfl rfl 3 rfl ?_
          obtain ⟨v27, s25, h26, hf⟩ := ky_bd_e hf
          refine ky_callV (kc := 0) (ks := 0) (kc2 := 0) (ks2 := 0) (k0 := 7) (as := [.int a1, .int a2, .int a3]) (st := []) (KX4_splitNow d a1 a2 a3 s23 _ _ h26) okX4_splitNow wl_X4_199 kc_7 (q := (RX4, TX4, 12)) rfl rfl rfl rfl (Nat.le_of_ble_eq_true rfl) dX4_splitOn_54 rfl ?_
          cases hf
          exact ky_ireturn dX4_splitOn_57 rfl
        · have hf := ky_neg c24 hf
          refine ky_iconst (v := (0 : Int32)) (n := 47) dX4_splitOn_46 rfl rfl ?_
          refine ky_goto (tgt := 57) dX4_splitOn_47 rfl ?_
          cases hf
          exact ky_ireturn dX4_splitOn_57 rfl
    · have hf := ky_pos c13 hf
      refine ky_iconst (v := (1 : Int32)) (n := 17) dX4_splitOn_16 rfl rfl ?_
      refine ky_goto (tgt := 36) dX4_splitOn_17 rfl ?_
      refine ky_putf (q := (RX4, TX4, 12)) (n := 39) dX4_splitOn_36 rfl kc_7 rfl (Nat.le_of_ble_eq_true rfl) wg_X4_25 rfl (by decide +kernel) rfl (fun s28 es28 => ?_)
      have hf := ky_bn_e hf s28 es28
      refine ky_aload_n (n := 40) dX4_splitOn_39 rfl rfl 0 rfl ?_
      refine ky_getf (q := (RX4, TX4, 12)) (v := .int (s28.1 7 5)) (n := 43) dX4_splitOn_40 rfl kc_7 rfl (Nat.le_of_ble_eq_true rfl) wg_X4_25 (vf_7_5 _ _) ?_
      refine ky_if_le (n := 46) (tgt := 50) dX4_splitOn_43 rfl rfl (fun c29 => ?_) (fun c29 => ?_)
      · have hf := ky_pos c29 hf
        refine ky_aload_n (n := 51) dX4_splitOn_50 rfl rfl 0 rfl ?_
        refine ky_iload_n (n := 52) dX4_splitOn_51 rfl rfl 1 rfl ?_
        refine ky_iload_n (n := 53) dX4_splitOn_52 rfl rfl 2 rfl ?_
        refine ky_iload_n (n := 54) dX4_splitOn_53 rfl rfl 3 rfl ?_
        obtain ⟨v32, s30, h31, hf⟩ := ky_bd_e hf
        refine ky_callV (kc := 0) (ks := 0) (kc2 := 0) (ks2 := 0) (k0 := 7) (as := [.int a1, .int a2, .int a3]) (st := []) (KX4_splitNow d a1 a2 a3 s28 _ _ h31) okX4_splitNow wl_X4_199 kc_7 (q := (RX4, TX4, 12)) rfl rfl rfl rfl (Nat.le_of_ble_eq_true rfl) dX4_splitOn_54 rfl ?_
        cases hf
        exact ky_ireturn dX4_splitOn_57 rfl
      · have hf := ky_neg c29 hf
        refine ky_iconst (v := (0 : Int32)) (n := 47) dX4_splitOn_46 rfl rfl ?_
        refine ky_goto (tgt := 57) dX4_splitOn_47 rfl ?_
        cases hf
        exact ky_ireturn dX4_splitOn_57 rfl
def fX4_oldestOn_L51 (rec4 : Int32 → Int32 → Int32 → ky_St → Option (Int32 × ky_St)) (x1 : Int32) (x2 : Int32) (x3 : Int32) (y0 : Int32) (σ : ky_St) : Option (Int32 × ky_St) :=
  if y0 = 0 then (
  ky_bn (x3 + (1 : Int32)) fun v8 =>
  rec4 x1 x2 v8 σ) else (
  if x2 = (-1 : Int32) then (
  ky_bn (x3 + (1 : Int32)) fun v10 =>
  rec4 x1 x3 v10 σ) else (
  ky_bd (fX4_of x3 (1 : Int32) σ) fun v13 s11 =>
  ky_bd (fX4_of x2 (1 : Int32) s11) fun v16 s14 =>
  if v16 ≤ v13 then (
  ky_bn (x3 + (1 : Int32)) fun v18 =>
  rec4 x1 x2 v18 s14) else (
  ky_bn (x3 + (1 : Int32)) fun v19 =>
  rec4 x1 x3 v19 s14)))
set_option maxHeartbeats 4000000 in
set_option maxRecDepth 100000 in
theorem tX4_oldestOn_L51 {G : ky_G} {rec4 : Int32 → Int32 → Int32 → ky_St → Option (Int32 × ky_St)} (d : Nat) (hrec4 : ∀ (x1 : Int32) (x2 : Int32) (x3 : Int32) (σ : ky_St) (r : Int32) (σ' : ky_St), rec4 x1 x2 x3 σ = some (r, σ') → ky_T G mX4_oldestOn (d + 1) 0 0 4 [(0, ky_r G 7), (1, .int x1), (2, .int x2), (3, .int x3)] [] σ (.inr (some (.int r))) σ') : ∀ (x1 : Int32) (x2 : Int32) (x3 : Int32) (y0 : Int32) (σ : ky_St) (r : Int32) (σ' : ky_St), fX4_oldestOn_L51 rec4 x1 x2 x3 y0 σ = some (r, σ') → ky_T G mX4_oldestOn (d + 1) 0 0 51 [(0, ky_r G 7), (1, .int x1), (2, .int x2), (3, .int x3)] [.int y0] σ (.inr (some (.int r))) σ' := by
  intro x1 x2 x3 y0 σ r σ' hf
  unfold fX4_oldestOn_L51 at hf
  refine ky_istore (lv' := [(4, .int y0), (0, ky_r G 7), (1, .int x1), (2, .int x2), (3, .int x3)]) (n := 53) dX4_oldestOn_51 rfl (Nat.le_of_ble_eq_true rfl) rfl ?_
  refine ky_iload (n := 55) dX4_oldestOn_53 rfl 0 rfl ?_
  refine ky_if_eq (n := 58) (tgt := 82) dX4_oldestOn_55 rfl rfl (fun c7 => ?_) (fun c7 => ?_)
  · have hf := ky_pos c7 hf
    refine ky_iload_n (n := 83) dX4_oldestOn_82 rfl rfl 3 rfl ?_
    refine ky_istore_n (lv' := [(2, .int x2), (4, .int y0), (0, ky_r G 7), (1, .int x1), (3, .int x3)]) (n := 84) dX4_oldestOn_83 rfl rfl (Nat.le_of_ble_eq_true rfl) rfl ?_
    refine ky_iincB (c := (1 : Int32)) (n := 87) dX4_oldestOn_84 rfl 4 rfl rfl (Nat.le_of_ble_eq_true rfl) (fun v8 ev8 => ?_)
    have hf := ky_bn_e hf v8 ev8
    refine ky_lv (lv' := [(3, .int v8), (2, .int x2), (4, .int y0), (0, ky_r G 7), (1, .int x1)]) rfl ?_
    refine ky_goto (tgt := 4) dX4_oldestOn_87 rfl ?_
    refine ky_sub [3, 4, 1, 0] (lv' := [(0, ky_r G 7), (1, .int x1), (2, .int x2), (3, .int v8)]) rfl ?_
    exact hrec4 x1 x2 v8 σ _ _ hf
  · have hf := ky_neg c7 hf
    refine ky_iload_n (n := 59) dX4_oldestOn_58 rfl rfl 3 rfl ?_
    refine ky_iconst (v := (-1 : Int32)) (n := 60) dX4_oldestOn_59 rfl rfl ?_
    refine ky_icmp_eq (n := 63) (tgt := 78) dX4_oldestOn_60 rfl rfl (fun c9 => ?_) (fun c9 => ?_)
    · have hf := ky_pos c9 hf
      refine ky_iload_n (n := 79) dX4_oldestOn_78 rfl rfl 4 rfl ?_
      refine ky_goto (tgt := 83) dX4_oldestOn_79 rfl ?_
      refine ky_istore_n (lv' := [(2, .int x3), (4, .int y0), (0, ky_r G 7), (1, .int x1), (3, .int x3)]) (n := 84) dX4_oldestOn_83 rfl rfl (Nat.le_of_ble_eq_true rfl) rfl ?_
      refine ky_iincB (c := (1 : Int32)) (n := 87) dX4_oldestOn_84 rfl 4 rfl rfl (Nat.le_of_ble_eq_true rfl) (fun v10 ev10 => ?_)
      have hf := ky_bn_e hf v10 ev10
      refine ky_lv (lv' := [(3, .int v10), (2, .int x3), (4, .int y0), (0, ky_r G 7), (1, .int x1)]) rfl ?_
      refine ky_goto (tgt := 4) dX4_oldestOn_87 rfl ?_
      refine ky_sub [3, 4, 1, 0] (lv' := [(0, ky_r G 7), (1, .int x1), (2, .int x3), (3, .int v10)]) rfl ?_
      exact hrec4 x1 x3 v10 σ _ _ hf
    · have hf := ky_neg c9 hf
      refine ky_aload_n (n := 64) dX4_oldestOn_63 rfl rfl 1 rfl ?_
      refine ky_iload_n (n := 65) dX4_oldestOn_64 rfl rfl 4 rfl ?_
      refine ky_iconst (v := (1 : Int32)) (n := 66) dX4_oldestOn_65 rfl rfl ?_
      obtain ⟨v13, s11, h12, hf⟩ := ky_bd_e hf
      refine ky_callV (kc := 0) (ks := 0) (kc2 := 0) (ks2 := 0) (k0 := 7) (as := [.int x3, .int (1 : Int32)]) (st := []) (KX4_of d x3 (1 : Int32) σ _ _ h12) okX4_of wl_X4_36 kc_7 (q := (RX4, TX4, 12)) rfl rfl rfl rfl (Nat.le_of_ble_eq_true rfl) dX4_oldestOn_66 rfl ?_
      refine ky_aload_n (n := 70) dX4_oldestOn_69 rfl rfl 1 rfl ?_
      refine ky_iload_n (n := 71) dX4_oldestOn_70 rfl rfl 3 rfl ?_
      refine ky_iconst (v := (1 : Int32)) (n := 72) dX4_oldestOn_71 rfl rfl ?_
      obtain ⟨v16, s14, h15, hf⟩ := ky_bd_e hf
      refine ky_callV (kc := 0) (ks := 0) (kc2 := 0) (ks2 := 0) (k0 := 7) (as := [.int x2, .int (1 : Int32)]) (st := [.int v13]) (KX4_of d x2 (1 : Int32) s11 _ _ h15) okX4_of wl_X4_36 kc_7 (q := (RX4, TX4, 12)) rfl rfl rfl rfl (Nat.le_of_ble_eq_true rfl) dX4_oldestOn_72 rfl ?_
      refine ky_icmp_ge (n := 78) (tgt := 82) dX4_oldestOn_75 rfl rfl (fun c17 => ?_) (fun c17 => ?_)
      · have hf := ky_pos c17 hf
        refine ky_iload_n (n := 83) dX4_oldestOn_82 rfl rfl 3 rfl ?_
        refine ky_istore_n (lv' := [(2, .int x2), (4, .int y0), (0, ky_r G 7), (1, .int x1), (3, .int x3)]) (n := 84) dX4_oldestOn_83 rfl rfl (Nat.le_of_ble_eq_true rfl) rfl ?_
        refine ky_iincB (c := (1 : Int32)) (n := 87) dX4_oldestOn_84 rfl 4 rfl rfl (Nat.le_of_ble_eq_true rfl) (fun v18 ev18 => ?_)
        have hf := ky_bn_e hf v18 ev18
        refine ky_lv (lv' := [(3, .int v18), (2, .int x2), (4, .int y0), (0, ky_r G 7), (1, .int x1)]) rfl ?_
        refine ky_goto (tgt := 4) dX4_oldestOn_87 rfl ?_
        refine ky_sub [3, 4, 1, 0] (lv' := [(0, ky_r G 7), (1, .int x1), (2, .int x2), (3, .int v18)]) rfl ?_
        exact hrec4 x1 x2 v18 s14 _ _ hf
      · have hf := ky_neg c17 hf
        refine ky_iload_n (n := 79) dX4_oldestOn_78 rfl rfl 4 rfl ?_
        refine ky_goto (tgt := 83) dX4_oldestOn_79 rfl ?_
        refine ky_istore_n (lv' := [(2, .int x3), (4, .int y0), (0, ky_r G 7), (1, .int x1), (3, .int x3)]) (n := 84) dX4_oldestOn_83 rfl rfl (Nat.le_of_ble_eq_true rfl) rfl ?_
        refine ky_iincB (c := (1 : Int32)) (n := 87) dX4_oldestOn_84 rfl 4 rfl rfl (Nat.le_of_ble_eq_true rfl) (fun v19 ev19 => ?_)
        have hf := ky_bn_e hf v19 ev19
        refine ky_lv (lv' := [(3, .int v19), (2, .int x3), (4, .int y0), (0, ky_r G 7), (1, .int x1)]) rfl ?_
        refine ky_goto (tgt := 4) dX4_oldestOn_87 rfl ?_
        refine ky_sub [3, 4, 1, 0] (lv' := [(0, ky_r G 7), (1, .int x1), (2, .int x3), (3, .int v19)]) rfl ?_
        exact hrec4 x1 x3 v19 s14 _ _ hf
def fX4_oldestOn_L50 (rec4 : Int32 → Int32 → Int32 → ky_St → Option (Int32 × ky_St)) (x1 : Int32) (x2 : Int32) (x3 : Int32) (σ : ky_St) : Option (Int32 × ky_St) :=
  fX4_oldestOn_L51 rec4 x1 x2 x3 (0 : Int32) σ
set_option maxHeartbeats 4000000 in
set_option maxRecDepth 100000 in
theorem tX4_oldestOn_L50 {G : ky_G} {rec4 : Int32 → Int32 → Int32 → ky_St → Option (Int32 × ky_St)} (d : Nat) (hrec4 : ∀ (x1 : Int32) (x2 : Int32) (x3 : Int32) (σ : ky_St) (r : Int32) (σ' : ky_St), rec4 x1 x2 x3 σ = some (r, σ') → ky_T G mX4_oldestOn (d + 1) 0 0 4 [(0, ky_r G 7), (1, .int x1), (2, .int x2), (3, .int x3)] [] σ (.inr (some (.int r))) σ') : ∀ (x1 : Int32) (x2 : Int32) (x3 : Int32) (σ : ky_St) (r : Int32) (σ' : ky_St), fX4_oldestOn_L50 rec4 x1 x2 x3 σ = some (r, σ') → ky_T G mX4_oldestOn (d + 1) 0 0 50 [(0, ky_r G 7), (1, .int x1), (2, .int x2), (3, .int x3)] [] σ (.inr (some (.int r))) σ' := by
  intro x1 x2 x3 σ r σ' hf
  unfold fX4_oldestOn_L50 at hf
  refine ky_iconst (v := (0 : Int32)) (n := 51) dX4_oldestOn_50 rfl rfl ?_
  refine ky_sub [0, 1, 2, 3] (lv' := [(0, ky_r G 7), (1, .int x1), (2, .int x2), (3, .int x3)]) rfl ?_
  exact tX4_oldestOn_L51 d hrec4 x1 x2 x3 (0 : Int32) σ _ _ hf
def fX4_oldestOn_L4 : Nat → Int32 → Int32 → Int32 → ky_St → Option (Int32 × ky_St)
  | 0, _, _, _, _ => none
  | fu + 1, x1, x2, x3, σ =>
  ky_g (¬ ((3 : Int32) < 0 ∨ 283 ≤ (3 : Int32).toNatClampNeg)) (
  if (σ.1 8 (3 : Int32).toNatClampNeg) ≤ x3 then (
  some (x2, σ)) else (
  ky_bd (fX4_of x3 (0 : Int32) σ) fun v5 s3 =>
  if v5 = x1 then (
  ky_g (¬ ((2 : Int32) < 0 ∨ 283 ≤ (2 : Int32).toNatClampNeg)) (
  ky_bd (fX4_of x3 (1 : Int32) s3) fun v23 s21 =>
  ky_g (¬ ((0 : Int32) < 0 ∨ 283 ≤ (0 : Int32).toNatClampNeg)) (
  if ((s3.1 8 (2 : Int32).toNatClampNeg) - v23) < (s21.1 8 (0 : Int32).toNatClampNeg) then (
  fX4_oldestOn_L50 (fX4_oldestOn_L4 fu) x1 x2 x3 s21) else (
  fX4_oldestOn_L51 (fX4_oldestOn_L4 fu) x1 x2 x3 (1 : Int32) s21)))) else (
  fX4_oldestOn_L50 (fX4_oldestOn_L4 fu) x1 x2 x3 s3)))
set_option maxHeartbeats 4000000 in
set_option maxRecDepth 100000 in
theorem tX4_oldestOn_L4 {G : ky_G} (d : Nat) : ∀ (fu : Nat) (x1 : Int32) (x2 : Int32) (x3 : Int32) (σ : ky_St) (r : Int32) (σ' : ky_St), fX4_oldestOn_L4 fu x1 x2 x3 σ = some (r, σ') → ky_T G mX4_oldestOn (d + 1) 0 0 4 [(0, ky_r G 7), (1, .int x1), (2, .int x2), (3, .int x3)] [] σ (.inr (some (.int r))) σ' := by
  intro fu
  induction fu with
  | zero =>
    intro x1 x2 x3 σ r σ' hf
    rw [fX4_oldestOn_L4] at hf
    cases hf
  | succ fu ih =>
    intro x1 x2 x3 σ r σ' hf
    rw [fX4_oldestOn_L4] at hf
    refine ky_iload_n (n := 5) dX4_oldestOn_4 rfl rfl 3 rfl ?_
    refine ky_aload_n (n := 6) dX4_oldestOn_5 rfl rfl 0 rfl ?_
    refine ky_getf (q := (RX4, TX4, 12)) (v := ky_r G 8) (n := 9) dX4_oldestOn_6 rfl kc_7 rfl (Nat.le_of_ble_eq_true rfl) wg_X4_7 (vf_7_0 _ _) ?_
    refine ky_iconst (v := (3 : Int32)) (n := 10) dX4_oldestOn_9 rfl rfl ?_
    obtain ⟨g1, hf⟩ := ky_ge hf
    refine ky_iald (n := 11) dX4_oldestOn_10 rfl kl_8 g1 ?_
    refine ky_icmp_ge (n := 14) (tgt := 90) dX4_oldestOn_11 rfl rfl (fun c2 => ?_) (fun c2 => ?_)
    · have hf := ky_pos c2 hf
      refine ky_iload_n (n := 91) dX4_oldestOn_90 rfl rfl 2 rfl ?_
      cases hf
      exact ky_ireturn dX4_oldestOn_91 rfl
    · have hf := ky_neg c2 hf
      refine ky_aload_n (n := 15) dX4_oldestOn_14 rfl rfl 0 rfl ?_
      refine ky_iload_n (n := 16) dX4_oldestOn_15 rfl rfl 3 rfl ?_
      refine ky_iconst (v := (0 : Int32)) (n := 17) dX4_oldestOn_16 rfl rfl ?_
      obtain ⟨v5, s3, h4, hf⟩ := ky_bd_e hf
      refine ky_callV (kc := 0) (ks := 0) (kc2 := 0) (ks2 := 0) (k0 := 7) (as := [.int x3, .int (0 : Int32)]) (st := []) (KX4_of d x3 (0 : Int32) σ _ _ h4) okX4_of wl_X4_36 kc_7 (q := (RX4, TX4, 12)) rfl rfl rfl rfl (Nat.le_of_ble_eq_true rfl) dX4_oldestOn_17 rfl ?_
      refine ky_iload_n (n := 21) dX4_oldestOn_20 rfl rfl 1 rfl ?_
      refine ky_icmp_ne (n := 24) (tgt := 50) dX4_oldestOn_21 rfl rfl (fun c6 => ?_) (fun c6 => ?_)
      · have hf := ky_neg c6 hf
        refine ky_sub [0, 1, 2, 3] (lv' := [(0, ky_r G 7), (1, .int x1), (2, .int x2), (3, .int x3)]) rfl ?_
        exact tX4_oldestOn_L50 d ih x1 x2 x3 s3 _ _ hf
      · have hf := ky_pos c6 hf
        refine ky_aload_n (n := 25) dX4_oldestOn_24 rfl rfl 0 rfl ?_
        refine ky_getf (q := (RX4, TX4, 12)) (v := ky_r G 8) (n := 28) dX4_oldestOn_25 rfl kc_7 rfl (Nat.le_of_ble_eq_true rfl) wg_X4_7 (vf_7_0 _ _) ?_
        refine ky_iconst (v := (2 : Int32)) (n := 29) dX4_oldestOn_28 rfl rfl ?_
        obtain ⟨g20, hf⟩ := ky_ge hf
        refine ky_iald (n := 30) dX4_oldestOn_29 rfl kl_8 g20 ?_
        refine ky_aload_n (n := 31) dX4_oldestOn_30 rfl rfl 0 rfl ?_
        refine ky_iload_n (n := 32) dX4_oldestOn_31 rfl rfl 3 rfl ?_
        refine ky_iconst (v := (1 : Int32)) (n := 33) dX4_oldestOn_32 rfl rfl ?_
        obtain ⟨v23, s21, h22, hf⟩ := ky_bd_e hf
        refine ky_callV (kc := 0) (ks := 0) (kc2 := 0) (ks2 := 0) (k0 := 7) (as := [.int x3, .int (1 : Int32)]) (st := [.int (s3.1 8 (2 : Int32).toNatClampNeg)]) (KX4_of d x3 (1 : Int32) s3 _ _ h22) okX4_of wl_X4_36 kc_7 (q := (RX4, TX4, 12)) rfl rfl rfl rfl (Nat.le_of_ble_eq_true rfl) dX4_oldestOn_33 rfl ?_
        refine ky_isub (n := 37) dX4_oldestOn_36 rfl ?_
        refine ky_aload_n (n := 38) dX4_oldestOn_37 rfl rfl 0 rfl ?_
        refine ky_getf (q := (RX4, TX4, 12)) (v := ky_r G 8) (n := 41) dX4_oldestOn_38 rfl kc_7 rfl (Nat.le_of_ble_eq_true rfl) wg_X4_7 (vf_7_0 _ _) ?_
        refine ky_iconst (v := (0 : Int32)) (n := 42) dX4_oldestOn_41 rfl rfl ?_
        obtain ⟨g24, hf⟩ := ky_ge hf
        refine ky_iald (n := 43) dX4_oldestOn_42 rfl kl_8 g24 ?_
        refine ky_icmp_lt (n := 46) (tgt := 50) dX4_oldestOn_43 rfl rfl (fun c25 => ?_) (fun c25 => ?_)
        · have hf := ky_pos c25 hf
          refine ky_sub [0, 1, 2, 3] (lv' := [(0, ky_r G 7), (1, .int x1), (2, .int x2), (3, .int x3)]) rfl ?_
          exact tX4_oldestOn_L50 d ih x1 x2 x3 s21 _ _ hf
        · have hf := ky_neg c25 hf
          refine ky_iconst (v := (1 : Int32)) (n := 47) dX4_oldestOn_46 rfl rfl ?_
          refine ky_goto (tgt := 51) dX4_oldestOn_47 rfl ?_
          refine ky_sub [0, 1, 2, 3] (lv' := [(0, ky_r G 7), (1, .int x1), (2, .int x2), (3, .int x3)]) rfl ?_
          exact tX4_oldestOn_L51 d ih x1 x2 x3 (1 : Int32) s21 _ _ hf
def fX4_oldestOn (a1 : Int32) (σ : ky_St) : Option (Int32 × ky_St) :=
  fX4_oldestOn_L4 FU a1 (-1 : Int32) (0 : Int32) σ
set_option maxHeartbeats 4000000 in
set_option maxRecDepth 100000 in
theorem KX4_oldestOn {G : ky_G} (d : Nat) (a1 : Int32) (σ : ky_St) (r : Int32) (σ' : ky_St) (hf : fX4_oldestOn a1 σ = some (r, σ')) : ky_K G mX4_oldestOn (d + 1) 0 0 [ky_r G 7, .int a1] σ (.inr (some (.int r))) σ' := by
  unfold fX4_oldestOn at hf
  refine ky_enter rfl (by decide +kernel) (Nat.le_of_ble_eq_true rfl) (lv := [(0, ky_r G 7), (1, .int a1)]) rfl ?_
  refine ky_iconst (v := (-1 : Int32)) (n := 1) dX4_oldestOn_0 rfl rfl ?_
  refine ky_istore_n (lv' := [(2, .int (-1 : Int32)), (0, ky_r G 7), (1, .int a1)]) (n := 2) dX4_oldestOn_1 rfl rfl (Nat.le_of_ble_eq_true rfl) rfl ?_
  refine ky_iconst (v := (0 : Int32)) (n := 3) dX4_oldestOn_2 rfl rfl ?_
  refine ky_istore_n (lv' := [(3, .int (0 : Int32)), (2, .int (-1 : Int32)), (0, ky_r G 7), (1, .int a1)]) (n := 4) dX4_oldestOn_3 rfl rfl (Nat.le_of_ble_eq_true rfl) rfl ?_
  refine ky_sub [2, 3, 1, 0] (lv' := [(0, ky_r G 7), (1, .int a1), (2, .int (-1 : Int32)), (3, .int (0 : Int32))]) rfl ?_
  exact tX4_oldestOn_L4 d FU a1 (-1 : Int32) (0 : Int32) σ _ _ hf
def fX4_oldest (a1 : Int32) (σ : ky_St) : Option (Int32 × ky_St) :=
  ky_bd (fX4_isSite a1 σ) fun v3 s1 =>
  if v3 = 0 then (
  ky_bn (ky_u1 s1 7 5 (1 : Int32)) fun s5 =>
  if (s5.1 7 5) ≤ 0 then (
  ky_bd (fX4_oldestOn a1 s5) fun v9 s7 =>
  some (v9, s7)) else (
  some ((0 : Int32), s5))) else (
  ky_bn (ky_u1 s1 7 5 (0 : Int32)) fun s10 =>
  if (s10.1 7 5) ≤ 0 then (
  ky_bd (fX4_oldestOn a1 s10) fun v14 s12 =>
  some (v14, s12)) else (
  some ((0 : Int32), s10)))
set_option maxHeartbeats 4000000 in
set_option maxRecDepth 100000 in
theorem KX4_oldest {G : ky_G} (d : Nat) (a1 : Int32) (σ : ky_St) (r : Int32) (σ' : ky_St) (hf : fX4_oldest a1 σ = some (r, σ')) : ky_K G mX4_oldest (d + 2) 0 0 [ky_r G 7, .int a1] σ (.inr (some (.int r))) σ' := by
  unfold fX4_oldest at hf
  refine ky_enter rfl (by decide +kernel) (Nat.le_of_ble_eq_true rfl) (lv := [(0, ky_r G 7), (1, .int a1)]) rfl ?_
  refine ky_aload_n (n := 1) dX4_oldest_0 rfl rfl 0 rfl ?_
  refine ky_iload_n (n := 2) dX4_oldest_1 rfl rfl 1 rfl ?_
  obtain ⟨v3, s1, h2, hf⟩ := ky_bd_e hf
  refine ky_callS (kc := 0) (ks := 0) (kc2 := 0) (ks2 := 0) (as := [.int a1]) (st := [ky_r G 7]) (KX4_isSite d a1 σ _ _ h2) okX4_isSite wl_X4_100 rfl rfl (Nat.le_of_ble_eq_true rfl) dX4_oldest_2 rfl ?_
  refine ky_if_eq (n := 8) (tgt := 12) dX4_oldest_5 rfl rfl (fun c4 => ?_) (fun c4 => ?_)
  · have hf := ky_pos c4 hf
    refine ky_iconst (v := (1 : Int32)) (n := 13) dX4_oldest_12 rfl rfl ?_
    refine ky_putf (q := (RX4, TX4, 12)) (n := 16) dX4_oldest_13 rfl kc_7 rfl (Nat.le_of_ble_eq_true rfl) wg_X4_25 rfl (by decide +kernel) rfl (fun s5 es5 => ?_)
    have hf := ky_bn_e hf s5 es5
    refine ky_aload_n (n := 17) dX4_oldest_16 rfl rfl 0 rfl ?_
    refine ky_getf (q := (RX4, TX4, 12)) (v := .int (s5.1 7 5)) (n := 20) dX4_oldest_17 rfl kc_7 rfl (Nat.le_of_ble_eq_true rfl) wg_X4_25 (vf_7_5 _ _) ?_
    refine ky_if_le (n := 23) (tgt := 27) dX4_oldest_20 rfl rfl (fun c6 => ?_) (fun c6 => ?_)
    · have hf := ky_pos c6 hf
      refine ky_aload_n (n := 28) dX4_oldest_27 rfl rfl 0 rfl ?_
      refine ky_iload_n (n := 29) dX4_oldest_28 rfl rfl 1 rfl ?_
      obtain ⟨v9, s7, h8, hf⟩ := ky_bd_e hf
      refine ky_callV (kc := 0) (ks := 0) (kc2 := 0) (ks2 := 0) (k0 := 7) (as := [.int a1]) (st := []) (KX4_oldestOn d a1 s5 _ _ h8) okX4_oldestOn wl_X4_202 kc_7 (q := (RX4, TX4, 12)) rfl rfl rfl rfl (Nat.le_of_ble_eq_true rfl) dX4_oldest_29 rfl ?_
      cases hf
      exact ky_ireturn dX4_oldest_32 rfl
    · have hf := ky_neg c6 hf
      refine ky_iconst (v := (0 : Int32)) (n := 24) dX4_oldest_23 rfl rfl ?_
      refine ky_goto (tgt := 32) dX4_oldest_24 rfl ?_
      cases hf
      exact ky_ireturn dX4_oldest_32 rfl
  · have hf := ky_neg c4 hf
    refine ky_iconst (v := (0 : Int32)) (n := 9) dX4_oldest_8 rfl rfl ?_
    refine ky_goto (tgt := 13) dX4_oldest_9 rfl ?_
    refine ky_putf (q := (RX4, TX4, 12)) (n := 16) dX4_oldest_13 rfl kc_7 rfl (Nat.le_of_ble_eq_true rfl) wg_X4_25 rfl (by decide +kernel) rfl (fun s10 es10 => ?_)
    have hf := ky_bn_e hf s10 es10
    refine ky_aload_n (n := 17) dX4_oldest_16 rfl rfl 0 rfl ?_
    refine ky_getf (q := (RX4, TX4, 12)) (v := .int (s10.1 7 5)) (n := 20) dX4_oldest_17 rfl kc_7 rfl (Nat.le_of_ble_eq_true rfl) wg_X4_25 (vf_7_5 _ _) ?_
    refine ky_if_le (n := 23) (tgt := 27) dX4_oldest_20 rfl rfl (fun c11 => ?_) (fun c11 => ?_)
    · have hf := ky_pos c11 hf
      refine ky_aload_n (n := 28) dX4_oldest_27 rfl rfl 0 rfl ?_
      refine ky_iload_n (n := 29) dX4_oldest_28 rfl rfl 1 rfl ?_
      obtain ⟨v14, s12, h13, hf⟩ := ky_bd_e hf
      refine ky_callV (kc := 0) (ks := 0) (kc2 := 0) (ks2 := 0) (k0 := 7) (as := [.int a1]) (st := []) (KX4_oldestOn d a1 s10 _ _ h13) okX4_oldestOn wl_X4_202 kc_7 (q := (RX4, TX4, 12)) rfl rfl rfl rfl (Nat.le_of_ble_eq_true rfl) dX4_oldest_29 rfl ?_
      cases hf
      exact ky_ireturn dX4_oldest_32 rfl
    · have hf := ky_neg c11 hf
      refine ky_iconst (v := (0 : Int32)) (n := 24) dX4_oldest_23 rfl rfl ?_
      refine ky_goto (tgt := 32) dX4_oldest_24 rfl ?_
      cases hf
      exact ky_ireturn dX4_oldest_32 rfl
def fX4_repairsThen_L44 (rec4 : Int32 → Int32 → Int32 → ky_St → Option (Int32 × ky_St)) (x1 : Int32) (x3 : Int32) (x4 : Int32) (y0 : Int32) (σ : ky_St) : Option (Int32 × ky_St) :=
  ky_g (¬ (x3 < 0 ∨ 4 ≤ x3.toNatClampNeg)) (
  ky_g (¬ (x3 < 0 ∨ 4 ≤ x3.toNatClampNeg)) (
  if (σ.1 12 x3.toNatClampNeg) ≤ x4 then (
  ky_g (¬ (x3 < 0 ∨ 4 ≤ x3.toNatClampNeg)) (
  ky_g (¬ (x3 < 0 ∨ 4 ≤ x3.toNatClampNeg)) (
  ky_bn (ky_u1 σ 12 x3.toNatClampNeg ((σ.1 12 x3.toNatClampNeg) - (σ.1 12 x3.toNatClampNeg))) fun s15 =>
  ky_bn (x3 + (1 : Int32)) fun v16 =>
  rec4 x1 y0 v16 s15))) else (
  ky_g (¬ (x3 < 0 ∨ 4 ≤ x3.toNatClampNeg)) (
  ky_bn (ky_u1 σ 12 x3.toNatClampNeg ((σ.1 12 x3.toNatClampNeg) - x4)) fun s18 =>
  ky_bn (x3 + (1 : Int32)) fun v19 =>
  rec4 x1 y0 v19 s18))))
set_option maxHeartbeats 4000000 in
set_option maxRecDepth 100000 in
theorem tX4_repairsThen_L44 {G : ky_G} {rec4 : Int32 → Int32 → Int32 → ky_St → Option (Int32 × ky_St)} (d : Nat) (hrec4 : ∀ (x1 : Int32) (x2 : Int32) (x3 : Int32) (σ : ky_St) (r : Int32) (σ' : ky_St), rec4 x1 x2 x3 σ = some (r, σ') → ky_T G mX4_repairsThen (d + 1) 0 0 4 [(0, ky_r G 7), (1, .int x1), (2, .int x2), (3, .int x3)] [] σ (.inr (some (.int r))) σ') : ∀ (x1 : Int32) (x3 : Int32) (x4 : Int32) (y0 : Int32) (σ : ky_St) (r : Int32) (σ' : ky_St), fX4_repairsThen_L44 rec4 x1 x3 x4 y0 σ = some (r, σ') → ky_T G mX4_repairsThen (d + 1) 0 0 44 [(0, ky_r G 7), (1, .int x1), (3, .int x3), (4, .int x4)] [.int y0] σ (.inr (some (.int r))) σ' := by
  intro x1 x3 x4 y0 σ r σ' hf
  unfold fX4_repairsThen_L44 at hf
  refine ky_istore_n (lv' := [(2, .int y0), (0, ky_r G 7), (1, .int x1), (3, .int x3), (4, .int x4)]) (n := 45) dX4_repairsThen_44 rfl rfl (Nat.le_of_ble_eq_true rfl) rfl ?_
  refine ky_aload_n (n := 46) dX4_repairsThen_45 rfl rfl 1 rfl ?_
  refine ky_getf (q := (RX4, TX4, 12)) (v := ky_r G 12) (n := 49) dX4_repairsThen_46 rfl kc_7 rfl (Nat.le_of_ble_eq_true rfl) wg_X4_22 (vf_7_10 _ _) ?_
  refine ky_iload_n (n := 50) dX4_repairsThen_49 rfl rfl 3 rfl ?_
  refine ky_dup2 (n := 51) dX4_repairsThen_50 rfl rfl rfl ?_
  obtain ⟨g10, hf⟩ := ky_ge hf
  refine ky_iald (n := 52) dX4_repairsThen_51 rfl kl_12 g10 ?_
  refine ky_iload (n := 54) dX4_repairsThen_52 rfl 4 rfl ?_
  refine ky_aload_n (n := 55) dX4_repairsThen_54 rfl rfl 1 rfl ?_
  refine ky_getf (q := (RX4, TX4, 12)) (v := ky_r G 12) (n := 58) dX4_repairsThen_55 rfl kc_7 rfl (Nat.le_of_ble_eq_true rfl) wg_X4_22 (vf_7_10 _ _) ?_
  refine ky_iload_n (n := 59) dX4_repairsThen_58 rfl rfl 3 rfl ?_
  obtain ⟨g11, hf⟩ := ky_ge hf
  refine ky_iald (n := 60) dX4_repairsThen_59 rfl kl_12 g11 ?_
  refine ky_icmp_ge (n := 63) (tgt := 68) dX4_repairsThen_60 rfl rfl (fun c12 => ?_) (fun c12 => ?_)
  · have hf := ky_pos c12 hf
    refine ky_aload_n (n := 69) dX4_repairsThen_68 rfl rfl 1 rfl ?_
    refine ky_getf (q := (RX4, TX4, 12)) (v := ky_r G 12) (n := 72) dX4_repairsThen_69 rfl kc_7 rfl (Nat.le_of_ble_eq_true rfl) wg_X4_22 (vf_7_10 _ _) ?_
    refine ky_iload_n (n := 73) dX4_repairsThen_72 rfl rfl 3 rfl ?_
    obtain ⟨g13, hf⟩ := ky_ge hf
    refine ky_iald (n := 74) dX4_repairsThen_73 rfl kl_12 g13 ?_
    refine ky_isub (n := 75) dX4_repairsThen_74 rfl ?_
    obtain ⟨g14, hf⟩ := ky_ge hf
    refine ky_iast (n := 76) dX4_repairsThen_75 rfl kl_12 rfl g14 (fun s15 es15 => ?_)
    have hf := ky_bn_e hf s15 es15
    refine ky_iincB (c := (1 : Int32)) (n := 79) dX4_repairsThen_76 rfl 3 rfl rfl (Nat.le_of_ble_eq_true rfl) (fun v16 ev16 => ?_)
    have hf := ky_bn_e hf v16 ev16
    refine ky_lv (lv' := [(3, .int v16), (2, .int y0), (0, ky_r G 7), (1, .int x1), (4, .int x4)]) rfl ?_
    refine ky_goto (tgt := 4) dX4_repairsThen_79 rfl ?_
    refine ky_sub [2, 3, 1, 0] (lv' := [(0, ky_r G 7), (1, .int x1), (2, .int y0), (3, .int v16)]) rfl ?_
    exact hrec4 x1 y0 v16 s15 _ _ hf
  · have hf := ky_neg c12 hf
    refine ky_iload (n := 65) dX4_repairsThen_63 rfl 4 rfl ?_
    refine ky_goto (tgt := 74) dX4_repairsThen_65 rfl ?_
    refine ky_isub (n := 75) dX4_repairsThen_74 rfl ?_
    obtain ⟨g17, hf⟩ := ky_ge hf
    refine ky_iast (n := 76) dX4_repairsThen_75 rfl kl_12 rfl g17 (fun s18 es18 => ?_)
    have hf := ky_bn_e hf s18 es18
    refine ky_iincB (c := (1 : Int32)) (n := 79) dX4_repairsThen_76 rfl 3 rfl rfl (Nat.le_of_ble_eq_true rfl) (fun v19 ev19 => ?_)
    have hf := ky_bn_e hf v19 ev19
    refine ky_lv (lv' := [(3, .int v19), (2, .int y0), (0, ky_r G 7), (1, .int x1), (4, .int x4)]) rfl ?_
    refine ky_goto (tgt := 4) dX4_repairsThen_79 rfl ?_
    refine ky_sub [2, 3, 1, 0] (lv' := [(0, ky_r G 7), (1, .int x1), (2, .int y0), (3, .int v19)]) rfl ?_
    exact hrec4 x1 y0 v19 s18 _ _ hf
def fX4_repairsThen_L43 (rec4 : Int32 → Int32 → Int32 → ky_St → Option (Int32 × ky_St)) (x1 : Int32) (x3 : Int32) (x4 : Int32) (σ : ky_St) : Option (Int32 × ky_St) :=
  fX4_repairsThen_L44 rec4 x1 x3 x4 (0 : Int32) σ
set_option maxHeartbeats 4000000 in
set_option maxRecDepth 100000 in
theorem tX4_repairsThen_L43 {G : ky_G} {rec4 : Int32 → Int32 → Int32 → ky_St → Option (Int32 × ky_St)} (d : Nat) (hrec4 : ∀ (x1 : Int32) (x2 : Int32) (x3 : Int32) (σ : ky_St) (r : Int32) (σ' : ky_St), rec4 x1 x2 x3 σ = some (r, σ') → ky_T G mX4_repairsThen (d + 1) 0 0 4 [(0, ky_r G 7), (1, .int x1), (2, .int x2), (3, .int x3)] [] σ (.inr (some (.int r))) σ') : ∀ (x1 : Int32) (x3 : Int32) (x4 : Int32) (σ : ky_St) (r : Int32) (σ' : ky_St), fX4_repairsThen_L43 rec4 x1 x3 x4 σ = some (r, σ') → ky_T G mX4_repairsThen (d + 1) 0 0 43 [(0, ky_r G 7), (1, .int x1), (3, .int x3), (4, .int x4)] [] σ (.inr (some (.int r))) σ' := by
  intro x1 x3 x4 σ r σ' hf
  unfold fX4_repairsThen_L43 at hf
  refine ky_iconst (v := (0 : Int32)) (n := 44) dX4_repairsThen_43 rfl rfl ?_
  refine ky_sub [0, 1, 2, 3] (lv' := [(0, ky_r G 7), (1, .int x1), (3, .int x3), (4, .int x4)]) rfl ?_
  exact tX4_repairsThen_L44 d hrec4 x1 x3 x4 (0 : Int32) σ _ _ hf
def fX4_repairsThen_L4 : Nat → Int32 → Int32 → Int32 → ky_St → Option (Int32 × ky_St)
  | 0, _, _, _, _ => none
  | fu + 1, x1, x2, x3, σ =>
  if (4 : Int32) ≤ x3 then (
  ky_g (x2 = 0 ∨ x2 = 1) (some (x2, σ))) else (
  ky_bd (fX4_wholeOf x3 σ) fun v4 s2 =>
  ky_bd (fX4_of x1 ((2 : Int32) + x3) s2) fun v7 s5 =>
  ky_bn (v4 - v7) fun v8 =>
  if x2 = 0 then (
  fX4_repairsThen_L43 (fX4_repairsThen_L4 fu) x1 x3 v8 s5) else (
  ky_g (¬ (x3 < 0 ∨ 4 ≤ x3.toNatClampNeg)) (
  if (s5.1 12 x3.toNatClampNeg) < v8 then (
  fX4_repairsThen_L43 (fX4_repairsThen_L4 fu) x1 x3 v8 s5) else (
  fX4_repairsThen_L44 (fX4_repairsThen_L4 fu) x1 x3 v8 (1 : Int32) s5))))
set_option maxHeartbeats 4000000 in
set_option maxRecDepth 100000 in
theorem tX4_repairsThen_L4 {G : ky_G} (d : Nat) : ∀ (fu : Nat) (x1 : Int32) (x2 : Int32) (x3 : Int32) (σ : ky_St) (r : Int32) (σ' : ky_St), fX4_repairsThen_L4 fu x1 x2 x3 σ = some (r, σ') → ky_T G mX4_repairsThen (d + 1) 0 0 4 [(0, ky_r G 7), (1, .int x1), (2, .int x2), (3, .int x3)] [] σ (.inr (some (.int r))) σ' := by
  intro fu
  induction fu with
  | zero =>
    intro x1 x2 x3 σ r σ' hf
    rw [fX4_repairsThen_L4] at hf
    cases hf
  | succ fu ih =>
    intro x1 x2 x3 σ r σ' hf
    rw [fX4_repairsThen_L4] at hf
    refine ky_iload_n (n := 5) dX4_repairsThen_4 rfl rfl 3 rfl ?_
    refine ky_iconst (v := (4 : Int32)) (n := 6) dX4_repairsThen_5 rfl rfl ?_
    refine ky_icmp_ge (n := 9) (tgt := 82) dX4_repairsThen_6 rfl rfl (fun c1 => ?_) (fun c1 => ?_)
    · have hf := ky_pos c1 hf
      refine ky_iload_n (n := 83) dX4_repairsThen_82 rfl rfl 2 rfl ?_
      obtain ⟨gz, hf⟩ := ky_ge hf
      cases hf
      exact ky_zreturn dX4_repairsThen_83 rfl gz
    · have hf := ky_neg c1 hf
      refine ky_iload_n (n := 10) dX4_repairsThen_9 rfl rfl 3 rfl ?_
      obtain ⟨v4, s2, h3, hf⟩ := ky_bd_e hf
      refine ky_callS (kc := 0) (ks := 0) (kc2 := 0) (ks2 := 0) (as := [.int x3]) (st := []) (KX4_wholeOf d x3 σ _ _ h3) okX4_wholeOf wl_X4_40 rfl rfl (Nat.le_of_ble_eq_true rfl) dX4_repairsThen_10 rfl ?_
      refine ky_aload_n (n := 14) dX4_repairsThen_13 rfl rfl 0 rfl ?_
      refine ky_iload_n (n := 15) dX4_repairsThen_14 rfl rfl 1 rfl ?_
      refine ky_iconst (v := (2 : Int32)) (n := 16) dX4_repairsThen_15 rfl rfl ?_
      refine ky_iload_n (n := 17) dX4_repairsThen_16 rfl rfl 3 rfl ?_
      refine ky_iadd (n := 18) dX4_repairsThen_17 rfl ?_
      obtain ⟨v7, s5, h6, hf⟩ := ky_bd_e hf
      refine ky_callV (kc := 0) (ks := 0) (kc2 := 0) (ks2 := 0) (k0 := 7) (as := [.int x1, .int ((2 : Int32) + x3)]) (st := [.int v4]) (KX4_of d x1 ((2 : Int32) + x3) s2 _ _ h6) okX4_of wl_X4_36 kc_7 (q := (RX4, TX4, 12)) rfl rfl rfl rfl (Nat.le_of_ble_eq_true rfl) dX4_repairsThen_18 rfl ?_
      refine ky_isub (n := 22) dX4_repairsThen_21 rfl ?_
      refine ky_topi (fun v8 ev8 => ?_)
      have hf := ky_bn_e hf v8 ev8
      refine ky_istore (lv' := [(4, .int v8), (0, ky_r G 7), (1, .int x1), (2, .int x2), (3, .int x3)]) (n := 24) dX4_repairsThen_22 rfl (Nat.le_of_ble_eq_true rfl) rfl ?_
      refine ky_iload_n (n := 25) dX4_repairsThen_24 rfl rfl 3 rfl ?_
      refine ky_if_eq (n := 28) (tgt := 43) dX4_repairsThen_25 rfl rfl (fun c9 => ?_) (fun c9 => ?_)
      · have hf := ky_pos c9 hf
        refine ky_sub [1, 2, 4, 0] (lv' := [(0, ky_r G 7), (1, .int x1), (3, .int x3), (4, .int v8)]) rfl ?_
        exact tX4_repairsThen_L43 d ih x1 x3 v8 s5 _ _ hf
      · have hf := ky_neg c9 hf
        refine ky_iload (n := 30) dX4_repairsThen_28 rfl 0 rfl ?_
        refine ky_aload_n (n := 31) dX4_repairsThen_30 rfl rfl 1 rfl ?_
        refine ky_getf (q := (RX4, TX4, 12)) (v := ky_r G 12) (n := 34) dX4_repairsThen_31 rfl kc_7 rfl (Nat.le_of_ble_eq_true rfl) wg_X4_22 (vf_7_10 _ _) ?_
        refine ky_iload_n (n := 35) dX4_repairsThen_34 rfl rfl 4 rfl ?_
        obtain ⟨g20, hf⟩ := ky_ge hf
        refine ky_iald (n := 36) dX4_repairsThen_35 rfl kl_12 g20 ?_
        refine ky_icmp_gt (n := 39) (tgt := 43) dX4_repairsThen_36 rfl rfl (fun c21 => ?_) (fun c21 => ?_)
        · have hf := ky_pos c21 hf
          refine ky_sub [1, 2, 4, 0] (lv' := [(0, ky_r G 7), (1, .int x1), (3, .int x3), (4, .int v8)]) rfl ?_
          exact tX4_repairsThen_L43 d ih x1 x3 v8 s5 _ _ hf
        · have hf := ky_neg c21 hf
          refine ky_iconst (v := (1 : Int32)) (n := 40) dX4_repairsThen_39 rfl rfl ?_
          refine ky_goto (tgt := 44) dX4_repairsThen_40 rfl ?_
          refine ky_sub [1, 2, 4, 0] (lv' := [(0, ky_r G 7), (1, .int x1), (3, .int x3), (4, .int v8)]) rfl ?_
          exact tX4_repairsThen_L44 d ih x1 x3 v8 (1 : Int32) s5 _ _ hf
def fX4_repairsThen (a1 : Int32) (σ : ky_St) : Option (Int32 × ky_St) :=
  fX4_repairsThen_L4 FU a1 (1 : Int32) (0 : Int32) σ
set_option maxHeartbeats 4000000 in
set_option maxRecDepth 100000 in
theorem KX4_repairsThen {G : ky_G} (d : Nat) (a1 : Int32) (σ : ky_St) (r : Int32) (σ' : ky_St) (hf : fX4_repairsThen a1 σ = some (r, σ')) : ky_K G mX4_repairsThen (d + 1) 0 0 [ky_r G 7, .int a1] σ (.inr (some (.int r))) σ' := by
  unfold fX4_repairsThen at hf
  refine ky_enter rfl (by decide +kernel) (Nat.le_of_ble_eq_true rfl) (lv := [(0, ky_r G 7), (1, .int a1)]) rfl ?_
  refine ky_iconst (v := (1 : Int32)) (n := 1) dX4_repairsThen_0 rfl rfl ?_
  refine ky_istore_n (lv' := [(2, .int (1 : Int32)), (0, ky_r G 7), (1, .int a1)]) (n := 2) dX4_repairsThen_1 rfl rfl (Nat.le_of_ble_eq_true rfl) rfl ?_
  refine ky_iconst (v := (0 : Int32)) (n := 3) dX4_repairsThen_2 rfl rfl ?_
  refine ky_istore_n (lv' := [(3, .int (0 : Int32)), (2, .int (1 : Int32)), (0, ky_r G 7), (1, .int a1)]) (n := 4) dX4_repairsThen_3 rfl rfl (Nat.le_of_ble_eq_true rfl) rfl ?_
  refine ky_sub [2, 3, 1, 0] (lv' := [(0, ky_r G 7), (1, .int a1), (2, .int (1 : Int32)), (3, .int (0 : Int32))]) rfl ?_
  exact tX4_repairsThen_L4 d FU a1 (1 : Int32) (0 : Int32) σ _ _ hf
def fX4_repairedThen_L32 : Nat → Int32 → Int32 → ky_St → Option (Int32 × ky_St)
  | 0, _, _, _ => none
  | fu + 1, x1, x2, σ =>
  ky_g (¬ ((3 : Int32) < 0 ∨ 283 ≤ (3 : Int32).toNatClampNeg)) (
  if (σ.1 8 (3 : Int32).toNatClampNeg) ≤ x2 then (
  some (x1, σ)) else (
  ky_bd (fX4_isInYard x2 σ) fun v6 s4 =>
  if v6 = 0 then (
  ky_bn (x1 + (0 : Int32)) fun v8 =>
  ky_bn (x2 + (1 : Int32)) fun v9 =>
  fX4_repairedThen_L32 fu v8 v9 s4) else (
  ky_bd (fX4_repairsThen x2 s4) fun v12 s10 =>
  if v12 = 0 then (
  ky_bn (x1 + (0 : Int32)) fun v14 =>
  ky_bn (x2 + (1 : Int32)) fun v15 =>
  fX4_repairedThen_L32 fu v14 v15 s10) else (
  ky_bn (x1 + (1 : Int32)) fun v16 =>
  ky_bn (x2 + (1 : Int32)) fun v17 =>
  fX4_repairedThen_L32 fu v16 v17 s10))))
set_option maxHeartbeats 4000000 in
set_option maxRecDepth 100000 in
theorem tX4_repairedThen_L32 {G : ky_G} (d : Nat) : ∀ (fu : Nat) (x1 : Int32) (x2 : Int32) (σ : ky_St) (r : Int32) (σ' : ky_St), fX4_repairedThen_L32 fu x1 x2 σ = some (r, σ') → ky_T G mX4_repairedThen (d + 2) 0 0 32 [(0, ky_r G 7), (1, .int x1), (2, .int x2)] [] σ (.inr (some (.int r))) σ' := by
  intro fu
  induction fu with
  | zero =>
    intro x1 x2 σ r σ' hf
    rw [fX4_repairedThen_L32] at hf
    cases hf
  | succ fu ih =>
    intro x1 x2 σ r σ' hf
    rw [fX4_repairedThen_L32] at hf
    refine ky_iload_n (n := 33) dX4_repairedThen_32 rfl rfl 2 rfl ?_
    refine ky_aload_n (n := 34) dX4_repairedThen_33 rfl rfl 0 rfl ?_
    refine ky_getf (q := (RX4, TX4, 12)) (v := ky_r G 8) (n := 37) dX4_repairedThen_34 rfl kc_7 rfl (Nat.le_of_ble_eq_true rfl) wg_X4_7 (vf_7_0 _ _) ?_
    refine ky_iconst (v := (3 : Int32)) (n := 38) dX4_repairedThen_37 rfl rfl ?_
    obtain ⟨g2, hf⟩ := ky_ge hf
    refine ky_iald (n := 39) dX4_repairedThen_38 rfl kl_8 g2 ?_
    refine ky_icmp_ge (n := 42) (tgt := 72) dX4_repairedThen_39 rfl rfl (fun c3 => ?_) (fun c3 => ?_)
    · have hf := ky_pos c3 hf
      refine ky_iload_n (n := 73) dX4_repairedThen_72 rfl rfl 1 rfl ?_
      cases hf
      exact ky_ireturn dX4_repairedThen_73 rfl
    · have hf := ky_neg c3 hf
      refine ky_iload_n (n := 43) dX4_repairedThen_42 rfl rfl 1 rfl ?_
      refine ky_aload_n (n := 44) dX4_repairedThen_43 rfl rfl 0 rfl ?_
      refine ky_iload_n (n := 45) dX4_repairedThen_44 rfl rfl 2 rfl ?_
      obtain ⟨v6, s4, h5, hf⟩ := ky_bd_e hf
      refine ky_callV (kc := 0) (ks := 0) (kc2 := 0) (ks2 := 0) (k0 := 7) (as := [.int x2]) (st := [.int x1]) (KX4_isInYard d x2 σ _ _ h5) okX4_isInYard wl_X4_44 kc_7 (q := (RX4, TX4, 12)) rfl rfl rfl rfl (Nat.le_of_ble_eq_true rfl) dX4_repairedThen_45 rfl ?_
      refine ky_if_eq (n := 51) (tgt := 63) dX4_repairedThen_48 rfl rfl (fun c7 => ?_) (fun c7 => ?_)
      · have hf := ky_pos c7 hf
        refine ky_iconst (v := (0 : Int32)) (n := 64) dX4_repairedThen_63 rfl rfl ?_
        refine ky_iadd (n := 65) dX4_repairedThen_64 rfl ?_
        refine ky_topi (fun v8 ev8 => ?_)
        have hf := ky_bn_e hf v8 ev8
        refine ky_istore_n (lv' := [(1, .int v8), (0, ky_r G 7), (2, .int x2)]) (n := 66) dX4_repairedThen_65 rfl rfl (Nat.le_of_ble_eq_true rfl) rfl ?_
        refine ky_iincB (c := (1 : Int32)) (n := 69) dX4_repairedThen_66 rfl 2 rfl rfl (Nat.le_of_ble_eq_true rfl) (fun v9 ev9 => ?_)
        have hf := ky_bn_e hf v9 ev9
        refine ky_lv (lv' := [(2, .int v9), (1, .int v8), (0, ky_r G 7)]) rfl ?_
        refine ky_goto (tgt := 32) dX4_repairedThen_69 rfl ?_
        refine ky_sub [2, 1, 0] (lv' := [(0, ky_r G 7), (1, .int v8), (2, .int v9)]) rfl ?_
        exact ih v8 v9 s4 _ _ hf
      · have hf := ky_neg c7 hf
        refine ky_aload_n (n := 52) dX4_repairedThen_51 rfl rfl 0 rfl ?_
        refine ky_iload_n (n := 53) dX4_repairedThen_52 rfl rfl 2 rfl ?_
        obtain ⟨v12, s10, h11, hf⟩ := ky_bd_e hf
        refine ky_callV (kc := 0) (ks := 0) (kc2 := 0) (ks2 := 0) (k0 := 7) (as := [.int x2]) (st := [.int x1]) (KX4_repairsThen d x2 s4 _ _ h11) okX4_repairsThen wl_X4_205 kc_7 (q := (RX4, TX4, 12)) rfl rfl rfl rfl (Nat.le_of_ble_eq_true rfl) dX4_repairedThen_53 rfl ?_
        refine ky_if_eq (n := 59) (tgt := 63) dX4_repairedThen_56 rfl rfl (fun c13 => ?_) (fun c13 => ?_)
        · have hf := ky_pos c13 hf
          refine ky_iconst (v := (0 : Int32)) (n := 64) dX4_repairedThen_63 rfl rfl ?_
          refine ky_iadd (n := 65) dX4_repairedThen_64 rfl ?_
          refine ky_topi (fun v14 ev14 => ?_)
          have hf := ky_bn_e hf v14 ev14
          refine ky_istore_n (lv' := [(1, .int v14), (0, ky_r G 7), (2, .int x2)]) (n := 66) dX4_repairedThen_65 rfl rfl (Nat.le_of_ble_eq_true rfl) rfl ?_
          refine ky_iincB (c := (1 : Int32)) (n := 69) dX4_repairedThen_66 rfl 2 rfl rfl (Nat.le_of_ble_eq_true rfl) (fun v15 ev15 => ?_)
          have hf := ky_bn_e hf v15 ev15
          refine ky_lv (lv' := [(2, .int v15), (1, .int v14), (0, ky_r G 7)]) rfl ?_
          refine ky_goto (tgt := 32) dX4_repairedThen_69 rfl ?_
          refine ky_sub [2, 1, 0] (lv' := [(0, ky_r G 7), (1, .int v14), (2, .int v15)]) rfl ?_
          exact ih v14 v15 s10 _ _ hf
        · have hf := ky_neg c13 hf
          refine ky_iconst (v := (1 : Int32)) (n := 60) dX4_repairedThen_59 rfl rfl ?_
          refine ky_goto (tgt := 64) dX4_repairedThen_60 rfl ?_
          refine ky_iadd (n := 65) dX4_repairedThen_64 rfl ?_
          refine ky_topi (fun v16 ev16 => ?_)
          have hf := ky_bn_e hf v16 ev16
          refine ky_istore_n (lv' := [(1, .int v16), (0, ky_r G 7), (2, .int x2)]) (n := 66) dX4_repairedThen_65 rfl rfl (Nat.le_of_ble_eq_true rfl) rfl ?_
          refine ky_iincB (c := (1 : Int32)) (n := 69) dX4_repairedThen_66 rfl 2 rfl rfl (Nat.le_of_ble_eq_true rfl) (fun v17 ev17 => ?_)
          have hf := ky_bn_e hf v17 ev17
          refine ky_lv (lv' := [(2, .int v17), (1, .int v16), (0, ky_r G 7)]) rfl ?_
          refine ky_goto (tgt := 32) dX4_repairedThen_69 rfl ?_
          refine ky_sub [2, 1, 0] (lv' := [(0, ky_r G 7), (1, .int v16), (2, .int v17)]) rfl ?_
          exact ih v16 v17 s10 _ _ hf
def fX4_repairedThen_L2 : Nat → Int32 → ky_St → Option (Int32 × ky_St)
  | 0, _, _ => none
  | fu + 1, x1, σ =>
  if (4 : Int32) ≤ x1 then (
  fX4_repairedThen_L32 FU (0 : Int32) (0 : Int32) σ) else (
  ky_g (¬ (((7 : Int32) + x1) < 0 ∨ 283 ≤ ((7 : Int32) + x1).toNatClampNeg)) (
  ky_g (¬ (x1 < 0 ∨ 4 ≤ x1.toNatClampNeg)) (
  ky_bn (ky_u1 σ 12 x1.toNatClampNeg (σ.1 8 ((7 : Int32) + x1).toNatClampNeg)) fun s20 =>
  ky_bn (x1 + (1 : Int32)) fun v21 =>
  fX4_repairedThen_L2 fu v21 s20)))
set_option maxHeartbeats 4000000 in
set_option maxRecDepth 100000 in
theorem tX4_repairedThen_L2 {G : ky_G} (d : Nat) : ∀ (fu : Nat) (x1 : Int32) (σ : ky_St) (r : Int32) (σ' : ky_St), fX4_repairedThen_L2 fu x1 σ = some (r, σ') → ky_T G mX4_repairedThen (d + 2) 0 0 2 [(0, ky_r G 7), (1, .int x1)] [] σ (.inr (some (.int r))) σ' := by
  intro fu
  induction fu with
  | zero =>
    intro x1 σ r σ' hf
    rw [fX4_repairedThen_L2] at hf
    cases hf
  | succ fu ih =>
    intro x1 σ r σ' hf
    rw [fX4_repairedThen_L2] at hf
    refine ky_iload_n (n := 3) dX4_repairedThen_2 rfl rfl 1 rfl ?_
    refine ky_iconst (v := (4 : Int32)) (n := 4) dX4_repairedThen_3 rfl rfl ?_
    refine ky_icmp_ge (n := 7) (tgt := 28) dX4_repairedThen_4 rfl rfl (fun c1 => ?_) (fun c1 => ?_)
    · have hf := ky_pos c1 hf
      refine ky_iconst (v := (0 : Int32)) (n := 29) dX4_repairedThen_28 rfl rfl ?_
      refine ky_istore_n (lv' := [(1, .int (0 : Int32)), (0, ky_r G 7)]) (n := 30) dX4_repairedThen_29 rfl rfl (Nat.le_of_ble_eq_true rfl) rfl ?_
      refine ky_iconst (v := (0 : Int32)) (n := 31) dX4_repairedThen_30 rfl rfl ?_
      refine ky_istore_n (lv' := [(2, .int (0 : Int32)), (1, .int (0 : Int32)), (0, ky_r G 7)]) (n := 32) dX4_repairedThen_31 rfl rfl (Nat.le_of_ble_eq_true rfl) rfl ?_
      refine ky_sub [2, 1, 0] (lv' := [(0, ky_r G 7), (1, .int (0 : Int32)), (2, .int (0 : Int32))]) rfl ?_
      exact tX4_repairedThen_L32 d FU (0 : Int32) (0 : Int32) σ _ _ hf
    · have hf := ky_neg c1 hf
      refine ky_aload_n (n := 8) dX4_repairedThen_7 rfl rfl 0 rfl ?_
      refine ky_getf (q := (RX4, TX4, 12)) (v := ky_r G 12) (n := 11) dX4_repairedThen_8 rfl kc_7 rfl (Nat.le_of_ble_eq_true rfl) wg_X4_22 (vf_7_10 _ _) ?_
      refine ky_iload_n (n := 12) dX4_repairedThen_11 rfl rfl 1 rfl ?_
      refine ky_aload_n (n := 13) dX4_repairedThen_12 rfl rfl 0 rfl ?_
      refine ky_getf (q := (RX4, TX4, 12)) (v := ky_r G 8) (n := 16) dX4_repairedThen_13 rfl kc_7 rfl (Nat.le_of_ble_eq_true rfl) wg_X4_7 (vf_7_0 _ _) ?_
      refine ky_bipush (v := (7 : Int32)) (n := 18) dX4_repairedThen_16 rfl rfl ?_
      refine ky_iload_n (n := 19) dX4_repairedThen_18 rfl rfl 1 rfl ?_
      refine ky_iadd (n := 20) dX4_repairedThen_19 rfl ?_
      obtain ⟨g18, hf⟩ := ky_ge hf
      refine ky_iald (n := 21) dX4_repairedThen_20 rfl kl_8 g18 ?_
      obtain ⟨g19, hf⟩ := ky_ge hf
      refine ky_iast (n := 22) dX4_repairedThen_21 rfl kl_12 rfl g19 (fun s20 es20 => ?_)
      have hf := ky_bn_e hf s20 es20
      refine ky_iincB (c := (1 : Int32)) (n := 25) dX4_repairedThen_22 rfl 1 rfl rfl (Nat.le_of_ble_eq_true rfl) (fun v21 ev21 => ?_)
      have hf := ky_bn_e hf v21 ev21
      refine ky_lv (lv' := [(1, .int v21), (0, ky_r G 7)]) rfl ?_
      refine ky_goto (tgt := 2) dX4_repairedThen_25 rfl ?_
      refine ky_sub [1, 0] (lv' := [(0, ky_r G 7), (1, .int v21)]) rfl ?_
      exact ih v21 s20 _ _ hf
def fX4_repairedThen (σ : ky_St) : Option (Int32 × ky_St) :=
  fX4_repairedThen_L2 FU (0 : Int32) σ
set_option maxHeartbeats 4000000 in
set_option maxRecDepth 100000 in
theorem KX4_repairedThen {G : ky_G} (d : Nat) (σ : ky_St) (r : Int32) (σ' : ky_St) (hf : fX4_repairedThen σ = some (r, σ')) : ky_K G mX4_repairedThen (d + 2) 0 0 [ky_r G 7] σ (.inr (some (.int r))) σ' := by
  unfold fX4_repairedThen at hf
  refine ky_enter rfl (by decide +kernel) (Nat.le_of_ble_eq_true rfl) (lv := [(0, ky_r G 7)]) rfl ?_
  refine ky_iconst (v := (0 : Int32)) (n := 1) dX4_repairedThen_0 rfl rfl ?_
  refine ky_istore_n (lv' := [(1, .int (0 : Int32)), (0, ky_r G 7)]) (n := 2) dX4_repairedThen_1 rfl rfl (Nat.le_of_ble_eq_true rfl) rfl ?_
  refine ky_sub [1, 0] (lv' := [(0, ky_r G 7), (1, .int (0 : Int32))]) rfl ?_
  exact tX4_repairedThen_L2 d FU (0 : Int32) σ _ _ hf
def fX4_ifRepaired (σ : ky_St) : Option (Int32 × ky_St) :=
  ky_bn (ky_u1 σ 7 5 (0 : Int32)) fun s1 =>
  ky_bd (fX4_repairedThen s1) fun v4 s2 =>
  some (v4, s2)
set_option maxHeartbeats 4000000 in
set_option maxRecDepth 100000 in
theorem KX4_ifRepaired {G : ky_G} (d : Nat) (σ : ky_St) (r : Int32) (σ' : ky_St) (hf : fX4_ifRepaired σ = some (r, σ')) : ky_K G mX4_ifRepaired (d + 3) 0 0 [ky_r G 7] σ (.inr (some (.int r))) σ' := by
  unfold fX4_ifRepaired at hf
  refine ky_enter rfl (by decide +kernel) (Nat.le_of_ble_eq_true rfl) (lv := [(0, ky_r G 7)]) rfl ?_
  refine ky_aload_n (n := 1) dX4_ifRepaired_0 rfl rfl 0 rfl ?_
  refine ky_iconst (v := (0 : Int32)) (n := 2) dX4_ifRepaired_1 rfl rfl ?_
  refine ky_putf (q := (RX4, TX4, 12)) (n := 5) dX4_ifRepaired_2 rfl kc_7 rfl (Nat.le_of_ble_eq_true rfl) wg_X4_25 rfl (by decide +kernel) rfl (fun s1 es1 => ?_)
  have hf := ky_bn_e hf s1 es1
  refine ky_aload_n (n := 6) dX4_ifRepaired_5 rfl rfl 0 rfl ?_
  obtain ⟨v4, s2, h3, hf⟩ := ky_bd_e hf
  refine ky_callV (kc := 0) (ks := 0) (kc2 := 0) (ks2 := 0) (k0 := 7) (as := []) (st := []) (KX4_repairedThen d s1 _ _ h3) okX4_repairedThen wl_X4_208 kc_7 (q := (RX4, TX4, 12)) rfl rfl rfl rfl (Nat.le_of_ble_eq_true rfl) dX4_ifRepaired_6 rfl ?_
  cases hf
  exact ky_ireturn dX4_ifRepaired_9 rfl
def fX4_share (σ : ky_St) : Option (UInt64 × ky_St) :=
  ky_g (¬ ((3 : Int32) < 0 ∨ 283 ≤ (3 : Int32).toNatClampNeg)) (
  if (σ.1 8 (3 : Int32).toNatClampNeg) = 0 then (
  some (FP.dconst0, σ)) else (
  ky_g (¬ ((3 : Int32) < 0 ∨ 283 ≤ (3 : Int32).toNatClampNeg)) (
  ky_bd (fX4_inYard (0 : Int32) σ) fun v6 s4 =>
  ky_g (¬ ((3 : Int32) < 0 ∨ 283 ≤ (3 : Int32).toNatClampNeg)) (
  ky_g ((FP.ddiv (FP.i2d ((σ.1 8 (3 : Int32).toNatClampNeg) - v6)) (FP.i2d (s4.1 8 (3 : Int32).toNatClampNeg))) &&& 0x7fffffffffffffff ≤ 0x7ff0000000000000) (
  some ((FP.ddiv (FP.i2d ((σ.1 8 (3 : Int32).toNatClampNeg) - v6)) (FP.i2d (s4.1 8 (3 : Int32).toNatClampNeg))), s4))))))
set_option maxHeartbeats 4000000 in
set_option maxRecDepth 100000 in
theorem KX4_share {G : ky_G} (d : Nat) (σ : ky_St) (r : UInt64) (σ' : ky_St) (hf : fX4_share σ = some (r, σ')) : ky_K G mX4_share (d + 3) 0 0 [ky_r G 7] σ (.inr (some (.double r))) σ' := by
  unfold fX4_share at hf
  refine ky_enter rfl (by decide +kernel) (Nat.le_of_ble_eq_true rfl) (lv := [(0, ky_r G 7)]) rfl ?_
  refine ky_aload_n (n := 1) dX4_share_0 rfl rfl 0 rfl ?_
  refine ky_getf (q := (RX4, TX4, 12)) (v := ky_r G 8) (n := 4) dX4_share_1 rfl kc_7 rfl (Nat.le_of_ble_eq_true rfl) wg_X4_7 (vf_7_0 _ _) ?_
  refine ky_iconst (v := (3 : Int32)) (n := 5) dX4_share_4 rfl rfl ?_
  obtain ⟨g1, hf⟩ := ky_ge hf
  refine ky_iald (n := 6) dX4_share_5 rfl kl_8 g1 ?_
  refine ky_if_ne (n := 9) (tgt := 13) dX4_share_6 rfl rfl (fun c2 => ?_) (fun c2 => ?_)
  · have hf := ky_neg c2 hf
    refine ky_aload_n (n := 14) dX4_share_13 rfl rfl 0 rfl ?_
    refine ky_getf (q := (RX4, TX4, 12)) (v := ky_r G 8) (n := 17) dX4_share_14 rfl kc_7 rfl (Nat.le_of_ble_eq_true rfl) wg_X4_7 (vf_7_0 _ _) ?_
    refine ky_iconst (v := (3 : Int32)) (n := 18) dX4_share_17 rfl rfl ?_
    obtain ⟨g3, hf⟩ := ky_ge hf
    refine ky_iald (n := 19) dX4_share_18 rfl kl_8 g3 ?_
    refine ky_aload_n (n := 20) dX4_share_19 rfl rfl 0 rfl ?_
    refine ky_iconst (v := (0 : Int32)) (n := 21) dX4_share_20 rfl rfl ?_
    obtain ⟨v6, s4, h5, hf⟩ := ky_bd_e hf
    refine ky_callV (kc := 0) (ks := 0) (kc2 := 0) (ks2 := 0) (k0 := 7) (as := [.int (0 : Int32)]) (st := [.int (σ.1 8 (3 : Int32).toNatClampNeg)]) (KX4_inYard d (0 : Int32) σ _ _ h5) okX4_inYard wl_X4_92 kc_7 (q := (RX4, TX4, 12)) rfl rfl rfl rfl (Nat.le_of_ble_eq_true rfl) dX4_share_21 rfl ?_
    refine ky_isub (n := 25) dX4_share_24 rfl ?_
    refine ky_i2d (n := 26) dX4_share_25 rfl ?_
    refine ky_aload_n (n := 27) dX4_share_26 rfl rfl 0 rfl ?_
    refine ky_getf (q := (RX4, TX4, 12)) (v := ky_r G 8) (n := 30) dX4_share_27 rfl kc_7 rfl (Nat.le_of_ble_eq_true rfl) wg_X4_7 (vf_7_0 _ _) ?_
    refine ky_iconst (v := (3 : Int32)) (n := 31) dX4_share_30 rfl rfl ?_
    obtain ⟨g7, hf⟩ := ky_ge hf
    refine ky_iald (n := 32) dX4_share_31 rfl kl_8 g7 ?_
    refine ky_i2d (n := 33) dX4_share_32 rfl ?_
    obtain ⟨g8, hf⟩ := ky_ge hf
    refine ky_ddiv (n := 34) dX4_share_33 rfl g8 ?_
    cases hf
    exact ky_dreturn dX4_share_34 rfl
  · have hf := ky_pos c2 hf
    refine ky_dconst0 (n := 10) dX4_share_9 rfl ?_
    refine ky_goto (tgt := 34) dX4_share_10 rfl ?_
    cases hf
    exact ky_dreturn dX4_share_34 rfl
def fX4_hiredShare (σ : ky_St) : Option (UInt64 × ky_St) :=
  ky_bn (ky_u1 σ 7 5 (0 : Int32)) fun s1 =>
  ky_bd (fX4_share s1) fun v4 s2 =>
  some (v4, s2)
set_option maxHeartbeats 4000000 in
set_option maxRecDepth 100000 in
theorem KX4_hiredShare {G : ky_G} (d : Nat) (σ : ky_St) (r : UInt64) (σ' : ky_St) (hf : fX4_hiredShare σ = some (r, σ')) : ky_K G mX4_hiredShare (d + 4) 0 0 [ky_r G 7] σ (.inr (some (.double r))) σ' := by
  unfold fX4_hiredShare at hf
  refine ky_enter rfl (by decide +kernel) (Nat.le_of_ble_eq_true rfl) (lv := [(0, ky_r G 7)]) rfl ?_
  refine ky_aload_n (n := 1) dX4_hiredShare_0 rfl rfl 0 rfl ?_
  refine ky_iconst (v := (0 : Int32)) (n := 2) dX4_hiredShare_1 rfl rfl ?_
  refine ky_putf (q := (RX4, TX4, 12)) (n := 5) dX4_hiredShare_2 rfl kc_7 rfl (Nat.le_of_ble_eq_true rfl) wg_X4_25 rfl (by decide +kernel) rfl (fun s1 es1 => ?_)
  have hf := ky_bn_e hf s1 es1
  refine ky_aload_n (n := 6) dX4_hiredShare_5 rfl rfl 0 rfl ?_
  obtain ⟨v4, s2, h3, hf⟩ := ky_bd_e hf
  refine ky_callV (kc := 0) (ks := 0) (kc2 := 0) (ks2 := 0) (k0 := 7) (as := []) (st := []) (KX4_share d s1 _ _ h3) okX4_share wl_X4_211 kc_7 (q := (RX4, TX4, 12)) rfl rfl rfl rfl (Nat.le_of_ble_eq_true rfl) dX4_hiredShare_6 rfl ?_
  cases hf
  exact ky_dreturn dX4_hiredShare_9 rfl
def fX4_mix (a1 : Int64) (σ : ky_St) : Option (Unit × ky_St) :=
  ky_bn (ky_uJ σ 7 (((31 : Int64) * (σ.2 7)) + a1)) fun s1 =>
  some ((), s1)
set_option maxHeartbeats 4000000 in
set_option maxRecDepth 100000 in
theorem KX4_mix {G : ky_G} (d : Nat) (a1 : Int64) (σ : ky_St) (r : Unit) (σ' : ky_St) (hf : fX4_mix a1 σ = some (r, σ')) : ky_K G mX4_mix d 0 0 [ky_r G 7, .long a1] σ (.inr none) σ' := by
  unfold fX4_mix at hf
  refine ky_enter rfl (by decide +kernel) (Nat.le_of_ble_eq_true rfl) (lv := [(0, ky_r G 7), (1, .long a1)]) rfl ?_
  refine ky_aload_n (n := 1) dX4_mix_0 rfl rfl 0 rfl ?_
  refine ky_ldc2 (v := (31 : Int64)) (n := 4) dX4_mix_1 rfl wk_X4_215 ?_
  refine ky_aload_n (n := 5) dX4_mix_4 rfl rfl 0 rfl ?_
  refine ky_getf (q := (RX4, TX4, 12)) (v := .long (σ.2 7)) (n := 8) dX4_mix_5 rfl kc_7 rfl (Nat.le_of_ble_eq_true rfl) wg_X4_217 (vf_7_11 _ _) ?_
  refine ky_lmul (n := 9) dX4_mix_8 rfl ?_
  refine ky_lload_n (n := 10) dX4_mix_9 rfl rfl 1 rfl ?_
  refine ky_ladd (n := 11) dX4_mix_10 rfl ?_
  refine ky_putl (q := (RX4, TX4, 12)) (n := 14) dX4_mix_11 rfl kc_7 rfl (Nat.le_of_ble_eq_true rfl) wg_X4_217 rfl (by decide +kernel) ky_tyl rfl (fun s1 es1 => ?_)
  have hf := ky_bn_e hf s1 es1
  cases hf
  exact ky_return dX4_mix_14 rfl
def fX4_mixSet_L45 : Nat → Int32 → Int32 → ky_St → Option (Unit × ky_St)
  | 0, _, _, _ => none
  | fu + 1, x1, x2, σ =>
  if (6 : Int32) ≤ x2 then (
  some ((), σ)) else (
  ky_bd (fX4_splitNow x1 (100 : Int32) x2 σ) fun v11 s9 =>
  ky_bd (fX4_mix v11.toInt64 s9) fun v14 s12 =>
  ky_bn (x2 + (1 : Int32)) fun v15 =>
  fX4_mixSet_L45 fu x1 v15 s12)
set_option maxHeartbeats 4000000 in
set_option maxRecDepth 100000 in
theorem tX4_mixSet_L45 {G : ky_G} (d : Nat) : ∀ (fu : Nat) (x1 : Int32) (x2 : Int32) (σ : ky_St) (r : Unit) (σ' : ky_St), fX4_mixSet_L45 fu x1 x2 σ = some (r, σ') → ky_T G mX4_mixSet (d + 4) 0 0 45 [(0, ky_r G 7), (1, .int x1), (2, .int x2)] [] σ (.inr none) σ' := by
  intro fu
  induction fu with
  | zero =>
    intro x1 x2 σ r σ' hf
    rw [fX4_mixSet_L45] at hf
    cases hf
  | succ fu ih =>
    intro x1 x2 σ r σ' hf
    rw [fX4_mixSet_L45] at hf
    refine ky_iload_n (n := 46) dX4_mixSet_45 rfl rfl 2 rfl ?_
    refine ky_bipush (v := (6 : Int32)) (n := 48) dX4_mixSet_46 rfl rfl ?_
    refine ky_icmp_ge (n := 51) (tgt := 70) dX4_mixSet_48 rfl rfl (fun c8 => ?_) (fun c8 => ?_)
    · have hf := ky_pos c8 hf
      cases hf
      exact ky_return dX4_mixSet_70 rfl
    · have hf := ky_neg c8 hf
      refine ky_aload_n (n := 52) dX4_mixSet_51 rfl rfl 0 rfl ?_
      refine ky_aload_n (n := 53) dX4_mixSet_52 rfl rfl 0 rfl ?_
      refine ky_iload_n (n := 54) dX4_mixSet_53 rfl rfl 1 rfl ?_
      refine ky_bipush (v := (100 : Int32)) (n := 56) dX4_mixSet_54 rfl rfl ?_
      refine ky_iload_n (n := 57) dX4_mixSet_56 rfl rfl 2 rfl ?_
      obtain ⟨v11, s9, h10, hf⟩ := ky_bd_e hf
      refine ky_callV (kc := 0) (ks := 0) (kc2 := 0) (ks2 := 0) (k0 := 7) (as := [.int x1, .int (100 : Int32), .int x2]) (st := [ky_r G 7]) (KX4_splitNow d x1 (100 : Int32) x2 σ _ _ h10) okX4_splitNow wl_X4_199 kc_7 (q := (RX4, TX4, 12)) rfl rfl rfl rfl (Nat.le_of_ble_eq_true rfl) dX4_mixSet_57 rfl ?_
      refine ky_i2l (n := 61) dX4_mixSet_60 rfl ?_
      obtain ⟨v14, s12, h13, hf⟩ := ky_bd_e hf
      refine ky_callV (kc := 0) (ks := 0) (kc2 := 0) (ks2 := 0) (k0 := 7) (as := [.long v11.toInt64]) (st := []) (KX4_mix (d + 3) v11.toInt64 s9 _ _ h13) okX4_mix wl_X4_221 kc_7 (q := (RX4, TX4, 12)) rfl rfl rfl rfl (Nat.le_of_ble_eq_true rfl) dX4_mixSet_61 rfl ?_
      refine ky_iincB (c := (1 : Int32)) (n := 67) dX4_mixSet_64 rfl 2 rfl rfl (Nat.le_of_ble_eq_true rfl) (fun v15 ev15 => ?_)
      have hf := ky_bn_e hf v15 ev15
      refine ky_lv (lv' := [(2, .int v15), (0, ky_r G 7), (1, .int x1)]) rfl ?_
      refine ky_goto (tgt := 45) dX4_mixSet_67 rfl ?_
      refine ky_sub [1, 2, 0] (lv' := [(0, ky_r G 7), (1, .int x1), (2, .int v15)]) rfl ?_
      exact ih x1 v15 s12 _ _ hf
def fX4_mixSet_L2 : Nat → Int32 → Int32 → ky_St → Option (Unit × ky_St)
  | 0, _, _, _ => none
  | fu + 1, x1, x2, σ =>
  if (14 : Int32) ≤ x2 then (
  ky_bd (fX4_dueIn x1 (30 : Int32) σ) fun v4 s2 =>
  ky_bd (fX4_mix v4.toInt64 s2) fun v7 s5 =>
  fX4_mixSet_L45 FU x1 (0 : Int32) s5) else (
  if x2 = (9 : Int32) then (
  ky_bn (x2 + (1 : Int32)) fun v17 =>
  fX4_mixSet_L2 fu x1 v17 σ) else (
  ky_bd (fX4_bundleNow x1 x2 σ) fun v20 s18 =>
  ky_bd (fX4_mix v20.toInt64 s18) fun v23 s21 =>
  ky_bn (x2 + (1 : Int32)) fun v24 =>
  fX4_mixSet_L2 fu x1 v24 s21))
set_option maxHeartbeats 4000000 in
set_option maxRecDepth 100000 in
theorem tX4_mixSet_L2 {G : ky_G} (d : Nat) : ∀ (fu : Nat) (x1 : Int32) (x2 : Int32) (σ : ky_St) (r : Unit) (σ' : ky_St), fX4_mixSet_L2 fu x1 x2 σ = some (r, σ') → ky_T G mX4_mixSet (d + 4) 0 0 2 [(0, ky_r G 7), (1, .int x1), (2, .int x2)] [] σ (.inr none) σ' := by
  intro fu
  induction fu with
  | zero =>
    intro x1 x2 σ r σ' hf
    rw [fX4_mixSet_L2] at hf
    cases hf
  | succ fu ih =>
    intro x1 x2 σ r σ' hf
    rw [fX4_mixSet_L2] at hf
    refine ky_iload_n (n := 3) dX4_mixSet_2 rfl rfl 2 rfl ?_
    refine ky_bipush (v := (14 : Int32)) (n := 5) dX4_mixSet_3 rfl rfl ?_
    refine ky_icmp_ge (n := 8) (tgt := 31) dX4_mixSet_5 rfl rfl (fun c1 => ?_) (fun c1 => ?_)
    · have hf := ky_pos c1 hf
      refine ky_aload_n (n := 32) dX4_mixSet_31 rfl rfl 0 rfl ?_
      refine ky_aload_n (n := 33) dX4_mixSet_32 rfl rfl 0 rfl ?_
      refine ky_iload_n (n := 34) dX4_mixSet_33 rfl rfl 1 rfl ?_
      refine ky_bipush (v := (30 : Int32)) (n := 36) dX4_mixSet_34 rfl rfl ?_
      obtain ⟨v4, s2, h3, hf⟩ := ky_bd_e hf
      refine ky_callV (kc := 0) (ks := 0) (kc2 := 0) (ks2 := 0) (k0 := 7) (as := [.int x1, .int (30 : Int32)]) (st := [ky_r G 7]) (KX4_dueIn (d + 1) x1 (30 : Int32) σ _ _ h3) okX4_dueIn wl_X4_89 kc_7 (q := (RX4, TX4, 12)) rfl rfl rfl rfl (Nat.le_of_ble_eq_true rfl) dX4_mixSet_36 rfl ?_
      refine ky_i2l (n := 40) dX4_mixSet_39 rfl ?_
      obtain ⟨v7, s5, h6, hf⟩ := ky_bd_e hf
      refine ky_callV (kc := 0) (ks := 0) (kc2 := 0) (ks2 := 0) (k0 := 7) (as := [.long v4.toInt64]) (st := []) (KX4_mix (d + 3) v4.toInt64 s2 _ _ h6) okX4_mix wl_X4_221 kc_7 (q := (RX4, TX4, 12)) rfl rfl rfl rfl (Nat.le_of_ble_eq_true rfl) dX4_mixSet_40 rfl ?_
      refine ky_iconst (v := (0 : Int32)) (n := 44) dX4_mixSet_43 rfl rfl ?_
      refine ky_istore_n (lv' := [(2, .int (0 : Int32)), (0, ky_r G 7), (1, .int x1)]) (n := 45) dX4_mixSet_44 rfl rfl (Nat.le_of_ble_eq_true rfl) rfl ?_
      refine ky_sub [1, 2, 0] (lv' := [(0, ky_r G 7), (1, .int x1), (2, .int (0 : Int32))]) rfl ?_
      exact tX4_mixSet_L45 d FU x1 (0 : Int32) s5 _ _ hf
    · have hf := ky_neg c1 hf
      refine ky_iload_n (n := 9) dX4_mixSet_8 rfl rfl 2 rfl ?_
      refine ky_bipush (v := (9 : Int32)) (n := 11) dX4_mixSet_9 rfl rfl ?_
      refine ky_icmp_eq (n := 14) (tgt := 25) dX4_mixSet_11 rfl rfl (fun c16 => ?_) (fun c16 => ?_)
      · have hf := ky_pos c16 hf
        refine ky_iincB (c := (1 : Int32)) (n := 28) dX4_mixSet_25 rfl 2 rfl rfl (Nat.le_of_ble_eq_true rfl) (fun v17 ev17 => ?_)
        have hf := ky_bn_e hf v17 ev17
        refine ky_lv (lv' := [(2, .int v17), (0, ky_r G 7), (1, .int x1)]) rfl ?_
        refine ky_goto (tgt := 2) dX4_mixSet_28 rfl ?_
        refine ky_sub [1, 2, 0] (lv' := [(0, ky_r G 7), (1, .int x1), (2, .int v17)]) rfl ?_
        exact ih x1 v17 σ _ _ hf
      · have hf := ky_neg c16 hf
        refine ky_aload_n (n := 15) dX4_mixSet_14 rfl rfl 0 rfl ?_
        refine ky_aload_n (n := 16) dX4_mixSet_15 rfl rfl 0 rfl ?_
        refine ky_iload_n (n := 17) dX4_mixSet_16 rfl rfl 1 rfl ?_
        refine ky_iload_n (n := 18) dX4_mixSet_17 rfl rfl 2 rfl ?_
        obtain ⟨v20, s18, h19, hf⟩ := ky_bd_e hf
        refine ky_callV (kc := 0) (ks := 0) (kc2 := 0) (ks2 := 0) (k0 := 7) (as := [.int x1, .int x2]) (st := [ky_r G 7]) (KX4_bundleNow d x1 x2 σ _ _ h19) okX4_bundleNow wl_X4_175 kc_7 (q := (RX4, TX4, 12)) rfl rfl rfl rfl (Nat.le_of_ble_eq_true rfl) dX4_mixSet_18 rfl ?_
        refine ky_i2l (n := 22) dX4_mixSet_21 rfl ?_
        obtain ⟨v23, s21, h22, hf⟩ := ky_bd_e hf
        refine ky_callV (kc := 0) (ks := 0) (kc2 := 0) (ks2 := 0) (k0 := 7) (as := [.long v20.toInt64]) (st := []) (KX4_mix (d + 3) v20.toInt64 s18 _ _ h22) okX4_mix wl_X4_221 kc_7 (q := (RX4, TX4, 12)) rfl rfl rfl rfl (Nat.le_of_ble_eq_true rfl) dX4_mixSet_22 rfl ?_
        refine ky_iincB (c := (1 : Int32)) (n := 28) dX4_mixSet_25 rfl 2 rfl rfl (Nat.le_of_ble_eq_true rfl) (fun v24 ev24 => ?_)
        have hf := ky_bn_e hf v24 ev24
        refine ky_lv (lv' := [(2, .int v24), (0, ky_r G 7), (1, .int x1)]) rfl ?_
        refine ky_goto (tgt := 2) dX4_mixSet_28 rfl ?_
        refine ky_sub [1, 2, 0] (lv' := [(0, ky_r G 7), (1, .int x1), (2, .int v24)]) rfl ?_
        exact ih x1 v24 s21 _ _ hf
def fX4_mixSet (a1 : Int32) (σ : ky_St) : Option (Unit × ky_St) :=
  fX4_mixSet_L2 FU a1 (0 : Int32) σ
set_option maxHeartbeats 4000000 in
set_option maxRecDepth 100000 in
theorem KX4_mixSet {G : ky_G} (d : Nat) (a1 : Int32) (σ : ky_St) (r : Unit) (σ' : ky_St) (hf : fX4_mixSet a1 σ = some (r, σ')) : ky_K G mX4_mixSet (d + 4) 0 0 [ky_r G 7, .int a1] σ (.inr none) σ' := by
  unfold fX4_mixSet at hf
  refine ky_enter rfl (by decide +kernel) (Nat.le_of_ble_eq_true rfl) (lv := [(0, ky_r G 7), (1, .int a1)]) rfl ?_
  refine ky_iconst (v := (0 : Int32)) (n := 1) dX4_mixSet_0 rfl rfl ?_
  refine ky_istore_n (lv' := [(2, .int (0 : Int32)), (0, ky_r G 7), (1, .int a1)]) (n := 2) dX4_mixSet_1 rfl rfl (Nat.le_of_ble_eq_true rfl) rfl ?_
  refine ky_sub [1, 2, 0] (lv' := [(0, ky_r G 7), (1, .int a1), (2, .int (0 : Int32))]) rfl ?_
  exact tX4_mixSet_L2 d FU a1 (0 : Int32) σ _ _ hf
def fJxe99ae_isNaN_b9ae7 (a1 : UInt64) (σ : ky_St) : Option (Int32 × ky_St) :=
  if (Op.cmpValue (FP.dcmp a1 a1) .l) = 0 then (
  some ((0 : Int32), σ)) else (
  some ((1 : Int32), σ))
set_option maxHeartbeats 4000000 in
set_option maxRecDepth 100000 in
theorem KJxe99ae_isNaN_b9ae7 {G : ky_G} (d : Nat) (a1 : UInt64) (σ : ky_St) (r : Int32) (σ' : ky_St) (hf : fJxe99ae_isNaN_b9ae7 a1 σ = some (r, σ')) : ky_K G mJxe99ae_isNaN_b9ae7 d 0 0 [.double a1] σ (.inr (some (.int r))) σ' := by
  unfold fJxe99ae_isNaN_b9ae7 at hf
  refine ky_enter rfl (by decide +kernel) (Nat.le_of_ble_eq_true rfl) (lv := [(0, .double a1)]) rfl ?_
  refine ky_dload_n (n := 1) dJxe99ae_isNaN_b9ae7_0 rfl rfl 0 rfl ?_
  refine ky_dload_n (n := 2) dJxe99ae_isNaN_b9ae7_1 rfl rfl 0 rfl ?_
  refine ky_dcmp (n := 3) dJxe99ae_isNaN_b9ae7_2 rfl ?_
  refine ky_if_eq (n := 6) (tgt := 10) dJxe99ae_isNaN_b9ae7_3 rfl rfl (fun c1 => ?_) (fun c1 => ?_)
  · have hf := ky_pos c1 hf
    refine ky_iconst (v := (0 : Int32)) (n := 11) dJxe99ae_isNaN_b9ae7_10 rfl rfl ?_
    cases hf
    exact ky_zreturn dJxe99ae_isNaN_b9ae7_11 rfl (Or.inl rfl)
  · have hf := ky_neg c1 hf
    refine ky_iconst (v := (1 : Int32)) (n := 7) dJxe99ae_isNaN_b9ae7_6 rfl rfl ?_
    refine ky_goto (tgt := 11) dJxe99ae_isNaN_b9ae7_7 rfl ?_
    cases hf
    exact ky_zreturn dJxe99ae_isNaN_b9ae7_11 rfl (Or.inr rfl)
def fJxe99ae_doubleToLongBits_ccdee (a1 : UInt64) (σ : ky_St) : Option (Int64 × ky_St) :=
  ky_bd (fJxe99ae_isNaN_b9ae7 a1 σ) fun v3 s1 =>
  if v3 = 0 then (
  some (a1.toInt64, s1)) else (
  some ((9221120237041090560 : Int64), s1))
set_option maxHeartbeats 4000000 in
set_option maxRecDepth 100000 in
theorem KJxe99ae_doubleToLongBits_ccdee {G : ky_G} (d : Nat) (a1 : UInt64) (σ : ky_St) (r : Int64) (σ' : ky_St) (hf : fJxe99ae_doubleToLongBits_ccdee a1 σ = some (r, σ')) : ky_K G mJxe99ae_doubleToLongBits_ccdee (d + 1) 0 0 [.double a1] σ (.inr (some (.long r))) σ' := by
  unfold fJxe99ae_doubleToLongBits_ccdee at hf
  refine ky_enter rfl (by decide +kernel) (Nat.le_of_ble_eq_true rfl) (lv := [(0, .double a1)]) rfl ?_
  refine ky_dload_n (n := 1) dJxe99ae_doubleToLongBits_ccdee_0 rfl rfl 0 rfl ?_
  obtain ⟨v3, s1, h2, hf⟩ := ky_bd_e hf
  refine ky_callS (kc := 0) (ks := 0) (kc2 := 0) (ks2 := 0) (as := [.double a1]) (st := []) (KJxe99ae_isNaN_b9ae7 d a1 σ _ _ h2) okJxe99ae_isNaN_b9ae7 wl_Jxe99ae_122 rfl rfl (Nat.le_of_ble_eq_true rfl) dJxe99ae_doubleToLongBits_ccdee_1 rfl ?_
  refine ky_if_ne (n := 7) (tgt := 12) dJxe99ae_doubleToLongBits_ccdee_4 rfl rfl (fun c4 => ?_) (fun c4 => ?_)
  · have hf := ky_neg c4 hf
    refine ky_ldc2 (v := (9221120237041090560 : Int64)) (n := 15) dJxe99ae_doubleToLongBits_ccdee_12 rfl wk_Jxe99ae_137 ?_
    cases hf
    exact ky_lreturn dJxe99ae_doubleToLongBits_ccdee_15 rfl
  · have hf := ky_pos c4 hf
    refine ky_dload_n (n := 8) dJxe99ae_doubleToLongBits_ccdee_7 rfl rfl 0 rfl ?_
    refine ky_rawbits (n := 11) dJxe99ae_doubleToLongBits_ccdee_8 rfl wl_Jxe99ae_134 wlib_raw_n wlib_raw_s wlib_Double (by omega) (Nat.le_of_ble_eq_true rfl) ?_
    cases hf
    exact ky_lreturn dJxe99ae_doubleToLongBits_ccdee_11 rfl
def fX4_digest_L190 : Nat → Int32 → ky_St → Option (Int64 × ky_St)
  | 0, _, _ => none
  | fu + 1, x1, σ =>
  if (σ.1 7 3) ≤ x1 then (
  some ((σ.2 7), σ)) else (
  ky_g (¬ (x1 < 0 ∨ 60 ≤ x1.toNatClampNeg)) (
  ky_bd (fX4_mix (σ.1 10 x1.toNatClampNeg).toInt64 σ) fun v38 s36 =>
  ky_bn (x1 + (1 : Int32)) fun v39 =>
  fX4_digest_L190 fu v39 s36))
set_option maxHeartbeats 4000000 in
set_option maxRecDepth 100000 in
theorem tX4_digest_L190 {G : ky_G} (d : Nat) : ∀ (fu : Nat) (x1 : Int32) (σ : ky_St) (r : Int64) (σ' : ky_St), fX4_digest_L190 fu x1 σ = some (r, σ') → ky_T G mX4_digest (d + 5) 0 0 190 [(0, ky_r G 7), (1, .int x1)] [] σ (.inr (some (.long r))) σ' := by
  intro fu
  induction fu with
  | zero =>
    intro x1 σ r σ' hf
    rw [fX4_digest_L190] at hf
    cases hf
  | succ fu ih =>
    intro x1 σ r σ' hf
    rw [fX4_digest_L190] at hf
    refine ky_iload_n (n := 191) dX4_digest_190 rfl rfl 1 rfl ?_
    refine ky_aload_n (n := 192) dX4_digest_191 rfl rfl 0 rfl ?_
    refine ky_getf (q := (RX4, TX4, 12)) (v := .int (σ.1 7 3)) (n := 195) dX4_digest_192 rfl kc_7 rfl (Nat.le_of_ble_eq_true rfl) wg_X4_137 (vf_7_3 _ _) ?_
    refine ky_icmp_ge (n := 198) (tgt := 215) dX4_digest_195 rfl rfl (fun c34 => ?_) (fun c34 => ?_)
    · have hf := ky_pos c34 hf
      refine ky_aload_n (n := 216) dX4_digest_215 rfl rfl 0 rfl ?_
      refine ky_getf (q := (RX4, TX4, 12)) (v := .long (σ.2 7)) (n := 219) dX4_digest_216 rfl kc_7 rfl (Nat.le_of_ble_eq_true rfl) wg_X4_217 (vf_7_11 _ _) ?_
      cases hf
      exact ky_lreturn dX4_digest_219 rfl
    · have hf := ky_neg c34 hf
      refine ky_aload_n (n := 199) dX4_digest_198 rfl rfl 0 rfl ?_
      refine ky_aload_n (n := 200) dX4_digest_199 rfl rfl 0 rfl ?_
      refine ky_getf (q := (RX4, TX4, 12)) (v := ky_r G 10) (n := 203) dX4_digest_200 rfl kc_7 rfl (Nat.le_of_ble_eq_true rfl) wg_X4_16 (vf_7_4 _ _) ?_
      refine ky_iload_n (n := 204) dX4_digest_203 rfl rfl 1 rfl ?_
      obtain ⟨g35, hf⟩ := ky_ge hf
      refine ky_iald (n := 205) dX4_digest_204 rfl kl_10 g35 ?_
      refine ky_i2l (n := 206) dX4_digest_205 rfl ?_
      obtain ⟨v38, s36, h37, hf⟩ := ky_bd_e hf
      refine ky_callV (kc := 0) (ks := 0) (kc2 := 0) (ks2 := 0) (k0 := 7) (as := [.long (σ.1 10 x1.toNatClampNeg).toInt64]) (st := []) (KX4_mix (d + 4) (σ.1 10 x1.toNatClampNeg).toInt64 σ _ _ h37) okX4_mix wl_X4_221 kc_7 (q := (RX4, TX4, 12)) rfl rfl rfl rfl (Nat.le_of_ble_eq_true rfl) dX4_digest_206 rfl ?_
      refine ky_iincB (c := (1 : Int32)) (n := 212) dX4_digest_209 rfl 1 rfl rfl (Nat.le_of_ble_eq_true rfl) (fun v39 ev39 => ?_)
      have hf := ky_bn_e hf v39 ev39
      refine ky_lv (lv' := [(1, .int v39), (0, ky_r G 7)]) rfl ?_
      refine ky_goto (tgt := 190) dX4_digest_212 rfl ?_
      refine ky_sub [1, 0] (lv' := [(0, ky_r G 7), (1, .int v39)]) rfl ?_
      exact ih v39 s36 _ _ hf
def fX4_digest_L132 : Nat → Int32 → ky_St → Option (Int64 × ky_St)
  | 0, _, _ => none
  | fu + 1, x1, σ =>
  if (20 : Int32) ≤ x1 then (
  ky_bd (fX4_repairedThen σ) fun v18 s16 =>
  ky_bd (fX4_mix v18.toInt64 s16) fun v21 s19 =>
  ky_bd (fX4_share s19) fun v24 s22 =>
  ky_bd (fJxe99ae_doubleToLongBits_ccdee v24 s22) fun v27 s25 =>
  ky_bd (fX4_mix v27 s25) fun v30 s28 =>
  ky_bd (fX4_mix (s28.1 7 3).toInt64 s28) fun v33 s31 =>
  fX4_digest_L190 FU (0 : Int32) s31) else (
  ky_g (¬ (5 : Int32) = 0) (
  ky_g (¬ (5 : Int32) = 0) (
  ky_bd (fX4_partNow (x1 / (5 : Int32)) (x1 - x1 / (5 : Int32) * (5 : Int32)) σ) fun v44 s42 =>
  ky_bd (fX4_mix v44.toInt64 s42) fun v47 s45 =>
  ky_bn (x1 + (1 : Int32)) fun v48 =>
  fX4_digest_L132 fu v48 s45)))
set_option maxHeartbeats 4000000 in
set_option maxRecDepth 100000 in
theorem tX4_digest_L132 {G : ky_G} (d : Nat) : ∀ (fu : Nat) (x1 : Int32) (σ : ky_St) (r : Int64) (σ' : ky_St), fX4_digest_L132 fu x1 σ = some (r, σ') → ky_T G mX4_digest (d + 5) 0 0 132 [(0, ky_r G 7), (1, .int x1)] [] σ (.inr (some (.long r))) σ' := by
  intro fu
  induction fu with
  | zero =>
    intro x1 σ r σ' hf
    rw [fX4_digest_L132] at hf
    cases hf
  | succ fu ih =>
    intro x1 σ r σ' hf
    rw [fX4_digest_L132] at hf
    refine ky_iload_n (n := 133) dX4_digest_132 rfl rfl 1 rfl ?_
    refine ky_bipush (v := (20 : Int32)) (n := 135) dX4_digest_133 rfl rfl ?_
    refine ky_icmp_ge (n := 138) (tgt := 159) dX4_digest_135 rfl rfl (fun c15 => ?_) (fun c15 => ?_)
    · have hf := ky_pos c15 hf
      refine ky_aload_n (n := 160) dX4_digest_159 rfl rfl 0 rfl ?_
      refine ky_aload_n (n := 161) dX4_digest_160 rfl rfl 0 rfl ?_
      obtain ⟨v18, s16, h17, hf⟩ := ky_bd_e hf
      refine ky_callV (kc := 0) (ks := 0) (kc2 := 0) (ks2 := 0) (k0 := 7) (as := []) (st := [ky_r G 7]) (KX4_repairedThen (d + 2) σ _ _ h17) okX4_repairedThen wl_X4_208 kc_7 (q := (RX4, TX4, 12)) rfl rfl rfl rfl (Nat.le_of_ble_eq_true rfl) dX4_digest_161 rfl ?_
      refine ky_i2l (n := 165) dX4_digest_164 rfl ?_
      obtain ⟨v21, s19, h20, hf⟩ := ky_bd_e hf
      refine ky_callV (kc := 0) (ks := 0) (kc2 := 0) (ks2 := 0) (k0 := 7) (as := [.long v18.toInt64]) (st := []) (KX4_mix (d + 4) v18.toInt64 s16 _ _ h20) okX4_mix wl_X4_221 kc_7 (q := (RX4, TX4, 12)) rfl rfl rfl rfl (Nat.le_of_ble_eq_true rfl) dX4_digest_165 rfl ?_
      refine ky_aload_n (n := 169) dX4_digest_168 rfl rfl 0 rfl ?_
      refine ky_aload_n (n := 170) dX4_digest_169 rfl rfl 0 rfl ?_
      obtain ⟨v24, s22, h23, hf⟩ := ky_bd_e hf
      refine ky_callV (kc := 0) (ks := 0) (kc2 := 0) (ks2 := 0) (k0 := 7) (as := []) (st := [ky_r G 7]) (KX4_share (d + 1) s19 _ _ h23) okX4_share wl_X4_211 kc_7 (q := (RX4, TX4, 12)) rfl rfl rfl rfl (Nat.le_of_ble_eq_true rfl) dX4_digest_170 rfl ?_
      obtain ⟨v27, s25, h26, hf⟩ := ky_bd_e hf
      refine ky_callS (kc := 0) (ks := 0) (kc2 := 0) (ks2 := 0) (as := [.double v24]) (st := [ky_r G 7]) (KJxe99ae_doubleToLongBits_ccdee (d + 3) v24 s22 _ _ h26) okJxe99ae_doubleToLongBits_ccdee wl_X4_231 rfl rfl (Nat.le_of_ble_eq_true rfl) dX4_digest_173 rfl ?_
      obtain ⟨v30, s28, h29, hf⟩ := ky_bd_e hf
      refine ky_callV (kc := 0) (ks := 0) (kc2 := 0) (ks2 := 0) (k0 := 7) (as := [.long v27]) (st := []) (KX4_mix (d + 4) v27 s25 _ _ h29) okX4_mix wl_X4_221 kc_7 (q := (RX4, TX4, 12)) rfl rfl rfl rfl (Nat.le_of_ble_eq_true rfl) dX4_digest_176 rfl ?_
      refine ky_aload_n (n := 180) dX4_digest_179 rfl rfl 0 rfl ?_
      refine ky_aload_n (n := 181) dX4_digest_180 rfl rfl 0 rfl ?_
      refine ky_getf (q := (RX4, TX4, 12)) (v := .int (s28.1 7 3)) (n := 184) dX4_digest_181 rfl kc_7 rfl (Nat.le_of_ble_eq_true rfl) wg_X4_137 (vf_7_3 _ _) ?_
      refine ky_i2l (n := 185) dX4_digest_184 rfl ?_
      obtain ⟨v33, s31, h32, hf⟩ := ky_bd_e hf
      refine ky_callV (kc := 0) (ks := 0) (kc2 := 0) (ks2 := 0) (k0 := 7) (as := [.long (s28.1 7 3).toInt64]) (st := []) (KX4_mix (d + 4) (s28.1 7 3).toInt64 s28 _ _ h32) okX4_mix wl_X4_221 kc_7 (q := (RX4, TX4, 12)) rfl rfl rfl rfl (Nat.le_of_ble_eq_true rfl) dX4_digest_185 rfl ?_
      refine ky_iconst (v := (0 : Int32)) (n := 189) dX4_digest_188 rfl rfl ?_
      refine ky_istore_n (lv' := [(1, .int (0 : Int32)), (0, ky_r G 7)]) (n := 190) dX4_digest_189 rfl rfl (Nat.le_of_ble_eq_true rfl) rfl ?_
      refine ky_sub [1, 0] (lv' := [(0, ky_r G 7), (1, .int (0 : Int32))]) rfl ?_
      exact tX4_digest_L190 d FU (0 : Int32) s31 _ _ hf
    · have hf := ky_neg c15 hf
      refine ky_aload_n (n := 139) dX4_digest_138 rfl rfl 0 rfl ?_
      refine ky_aload_n (n := 140) dX4_digest_139 rfl rfl 0 rfl ?_
      refine ky_iload_n (n := 141) dX4_digest_140 rfl rfl 1 rfl ?_
      refine ky_iconst (v := (5 : Int32)) (n := 142) dX4_digest_141 rfl rfl ?_
      obtain ⟨g40, hf⟩ := ky_ge hf
      refine ky_idiv (n := 143) dX4_digest_142 rfl g40 ?_
      refine ky_iload_n (n := 144) dX4_digest_143 rfl rfl 1 rfl ?_
      refine ky_iconst (v := (5 : Int32)) (n := 145) dX4_digest_144 rfl rfl ?_
      obtain ⟨g41, hf⟩ := ky_ge hf
      refine ky_irem (n := 146) dX4_digest_145 rfl g41 ?_
      obtain ⟨v44, s42, h43, hf⟩ := ky_bd_e hf
      refine ky_callV (kc := 0) (ks := 0) (kc2 := 0) (ks2 := 0) (k0 := 7) (as := [.int (x1 / (5 : Int32)), .int (x1 - x1 / (5 : Int32) * (5 : Int32))]) (st := [ky_r G 7]) (KX4_partNow (d + 2) (x1 / (5 : Int32)) (x1 - x1 / (5 : Int32) * (5 : Int32)) σ _ _ h43) okX4_partNow wl_X4_187 kc_7 (q := (RX4, TX4, 12)) rfl rfl rfl rfl (Nat.le_of_ble_eq_true rfl) dX4_digest_146 rfl ?_
      refine ky_i2l (n := 150) dX4_digest_149 rfl ?_
      obtain ⟨v47, s45, h46, hf⟩ := ky_bd_e hf
      refine ky_callV (kc := 0) (ks := 0) (kc2 := 0) (ks2 := 0) (k0 := 7) (as := [.long v44.toInt64]) (st := []) (KX4_mix (d + 4) v44.toInt64 s42 _ _ h46) okX4_mix wl_X4_221 kc_7 (q := (RX4, TX4, 12)) rfl rfl rfl rfl (Nat.le_of_ble_eq_true rfl) dX4_digest_150 rfl ?_
      refine ky_iincB (c := (1 : Int32)) (n := 156) dX4_digest_153 rfl 1 rfl rfl (Nat.le_of_ble_eq_true rfl) (fun v48 ev48 => ?_)
      have hf := ky_bn_e hf v48 ev48
      refine ky_lv (lv' := [(1, .int v48), (0, ky_r G 7)]) rfl ?_
      refine ky_goto (tgt := 132) dX4_digest_156 rfl ?_
      refine ky_sub [1, 0] (lv' := [(0, ky_r G 7), (1, .int v48)]) rfl ?_
      exact ih v48 s45 _ _ hf
def fX4_digest_L91 (rec83 : Int32 → ky_St → Option (Int64 × ky_St)) : Nat → Int32 → Int32 → ky_St → Option (Int64 × ky_St)
  | 0, _, _, _ => none
  | fu + 1, x1, x2, σ =>
  if (8 : Int32) ≤ x2 then (
  ky_bd (fX4_oldestOn x1 σ) fun v52 s50 =>
  ky_bd (fX4_mix v52.toInt64 s50) fun v55 s53 =>
  ky_bn (x1 + (1 : Int32)) fun v56 =>
  rec83 v56 s53) else (
  ky_bd (fX4_siteNow x1 x2 σ) fun v59 s57 =>
  ky_bd (fX4_mix v59.toInt64 s57) fun v62 s60 =>
  ky_bn (x2 + (1 : Int32)) fun v63 =>
  fX4_digest_L91 rec83 fu x1 v63 s60)
set_option maxHeartbeats 4000000 in
set_option maxRecDepth 100000 in
theorem tX4_digest_L91 {G : ky_G} {rec83 : Int32 → ky_St → Option (Int64 × ky_St)} (d : Nat) (hrec83 : ∀ (x1 : Int32) (σ : ky_St) (r : Int64) (σ' : ky_St), rec83 x1 σ = some (r, σ') → ky_T G mX4_digest (d + 5) 0 0 83 [(0, ky_r G 7), (1, .int x1)] [] σ (.inr (some (.long r))) σ') : ∀ (fu : Nat) (x1 : Int32) (x2 : Int32) (σ : ky_St) (r : Int64) (σ' : ky_St), fX4_digest_L91 rec83 fu x1 x2 σ = some (r, σ') → ky_T G mX4_digest (d + 5) 0 0 91 [(0, ky_r G 7), (1, .int x1), (2, .int x2)] [] σ (.inr (some (.long r))) σ' := by
  intro fu
  induction fu with
  | zero =>
    intro x1 x2 σ r σ' hf
    rw [fX4_digest_L91] at hf
    cases hf
  | succ fu ih =>
    intro x1 x2 σ r σ' hf
    rw [fX4_digest_L91] at hf
    refine ky_iload_n (n := 92) dX4_digest_91 rfl rfl 2 rfl ?_
    refine ky_bipush (v := (8 : Int32)) (n := 94) dX4_digest_92 rfl rfl ?_
    refine ky_icmp_ge (n := 97) (tgt := 114) dX4_digest_94 rfl rfl (fun c49 => ?_) (fun c49 => ?_)
    · have hf := ky_pos c49 hf
      refine ky_aload_n (n := 115) dX4_digest_114 rfl rfl 0 rfl ?_
      refine ky_aload_n (n := 116) dX4_digest_115 rfl rfl 0 rfl ?_
      refine ky_iload_n (n := 117) dX4_digest_116 rfl rfl 1 rfl ?_
      obtain ⟨v52, s50, h51, hf⟩ := ky_bd_e hf
      refine ky_callV (kc := 0) (ks := 0) (kc2 := 0) (ks2 := 0) (k0 := 7) (as := [.int x1]) (st := [ky_r G 7]) (KX4_oldestOn (d + 3) x1 σ _ _ h51) okX4_oldestOn wl_X4_202 kc_7 (q := (RX4, TX4, 12)) rfl rfl rfl rfl (Nat.le_of_ble_eq_true rfl) dX4_digest_117 rfl ?_
      refine ky_i2l (n := 121) dX4_digest_120 rfl ?_
      obtain ⟨v55, s53, h54, hf⟩ := ky_bd_e hf
      refine ky_callV (kc := 0) (ks := 0) (kc2 := 0) (ks2 := 0) (k0 := 7) (as := [.long v52.toInt64]) (st := []) (KX4_mix (d + 4) v52.toInt64 s50 _ _ h54) okX4_mix wl_X4_221 kc_7 (q := (RX4, TX4, 12)) rfl rfl rfl rfl (Nat.le_of_ble_eq_true rfl) dX4_digest_121 rfl ?_
      refine ky_iincB (c := (1 : Int32)) (n := 127) dX4_digest_124 rfl 1 rfl rfl (Nat.le_of_ble_eq_true rfl) (fun v56 ev56 => ?_)
      have hf := ky_bn_e hf v56 ev56
      refine ky_lv (lv' := [(1, .int v56), (0, ky_r G 7), (2, .int x2)]) rfl ?_
      refine ky_goto (tgt := 83) dX4_digest_127 rfl ?_
      refine ky_sub [1, 0] (lv' := [(0, ky_r G 7), (1, .int v56)]) rfl ?_
      exact hrec83 v56 s53 _ _ hf
    · have hf := ky_neg c49 hf
      refine ky_aload_n (n := 98) dX4_digest_97 rfl rfl 0 rfl ?_
      refine ky_aload_n (n := 99) dX4_digest_98 rfl rfl 0 rfl ?_
      refine ky_iload_n (n := 100) dX4_digest_99 rfl rfl 1 rfl ?_
      refine ky_iload_n (n := 101) dX4_digest_100 rfl rfl 2 rfl ?_
      obtain ⟨v59, s57, h58, hf⟩ := ky_bd_e hf
      refine ky_callV (kc := 0) (ks := 0) (kc2 := 0) (ks2 := 0) (k0 := 7) (as := [.int x1, .int x2]) (st := [ky_r G 7]) (KX4_siteNow d x1 x2 σ _ _ h58) okX4_siteNow wl_X4_181 kc_7 (q := (RX4, TX4, 12)) rfl rfl rfl rfl (Nat.le_of_ble_eq_true rfl) dX4_digest_101 rfl ?_
      refine ky_i2l (n := 105) dX4_digest_104 rfl ?_
      obtain ⟨v62, s60, h61, hf⟩ := ky_bd_e hf
      refine ky_callV (kc := 0) (ks := 0) (kc2 := 0) (ks2 := 0) (k0 := 7) (as := [.long v59.toInt64]) (st := []) (KX4_mix (d + 4) v59.toInt64 s57 _ _ h61) okX4_mix wl_X4_221 kc_7 (q := (RX4, TX4, 12)) rfl rfl rfl rfl (Nat.le_of_ble_eq_true rfl) dX4_digest_105 rfl ?_
      refine ky_iincB (c := (1 : Int32)) (n := 111) dX4_digest_108 rfl 2 rfl rfl (Nat.le_of_ble_eq_true rfl) (fun v63 ev63 => ?_)
      have hf := ky_bn_e hf v63 ev63
      refine ky_lv (lv' := [(2, .int v63), (0, ky_r G 7), (1, .int x1)]) rfl ?_
      refine ky_goto (tgt := 91) dX4_digest_111 rfl ?_
      refine ky_sub [1, 2, 0] (lv' := [(0, ky_r G 7), (1, .int x1), (2, .int v63)]) rfl ?_
      exact ih x1 v63 s60 _ _ hf
def fX4_digest_L83 : Nat → Int32 → ky_St → Option (Int64 × ky_St)
  | 0, _, _ => none
  | fu + 1, x1, σ =>
  if (6 : Int32) ≤ x1 then (
  fX4_digest_L132 FU (0 : Int32) σ) else (
  fX4_digest_L91 (fX4_digest_L83 fu) FU x1 (0 : Int32) σ)
set_option maxHeartbeats 4000000 in
set_option maxRecDepth 100000 in
theorem tX4_digest_L83 {G : ky_G} (d : Nat) : ∀ (fu : Nat) (x1 : Int32) (σ : ky_St) (r : Int64) (σ' : ky_St), fX4_digest_L83 fu x1 σ = some (r, σ') → ky_T G mX4_digest (d + 5) 0 0 83 [(0, ky_r G 7), (1, .int x1)] [] σ (.inr (some (.long r))) σ' := by
  intro fu
  induction fu with
  | zero =>
    intro x1 σ r σ' hf
    rw [fX4_digest_L83] at hf
    cases hf
  | succ fu ih =>
    intro x1 σ r σ' hf
    rw [fX4_digest_L83] at hf
    refine ky_iload_n (n := 84) dX4_digest_83 rfl rfl 1 rfl ?_
    refine ky_bipush (v := (6 : Int32)) (n := 86) dX4_digest_84 rfl rfl ?_
    refine ky_icmp_ge (n := 89) (tgt := 130) dX4_digest_86 rfl rfl (fun c14 => ?_) (fun c14 => ?_)
    · have hf := ky_pos c14 hf
      refine ky_iconst (v := (0 : Int32)) (n := 131) dX4_digest_130 rfl rfl ?_
      refine ky_istore_n (lv' := [(1, .int (0 : Int32)), (0, ky_r G 7)]) (n := 132) dX4_digest_131 rfl rfl (Nat.le_of_ble_eq_true rfl) rfl ?_
      refine ky_sub [1, 0] (lv' := [(0, ky_r G 7), (1, .int (0 : Int32))]) rfl ?_
      exact tX4_digest_L132 d FU (0 : Int32) σ _ _ hf
    · have hf := ky_neg c14 hf
      refine ky_iconst (v := (0 : Int32)) (n := 90) dX4_digest_89 rfl rfl ?_
      refine ky_istore_n (lv' := [(2, .int (0 : Int32)), (0, ky_r G 7), (1, .int x1)]) (n := 91) dX4_digest_90 rfl rfl (Nat.le_of_ble_eq_true rfl) rfl ?_
      refine ky_sub [1, 2, 0] (lv' := [(0, ky_r G 7), (1, .int x1), (2, .int (0 : Int32))]) rfl ?_
      exact tX4_digest_L91 d ih FU x1 (0 : Int32) σ _ _ hf
def fX4_digest_L60 : Nat → Int32 → ky_St → Option (Int64 × ky_St)
  | 0, _, _ => none
  | fu + 1, x1, σ =>
  ky_g (¬ ((3 : Int32) < 0 ∨ 283 ≤ (3 : Int32).toNatClampNeg)) (
  if (σ.1 8 (3 : Int32).toNatClampNeg) ≤ x1 then (
  fX4_digest_L83 FU (0 : Int32) σ) else (
  ky_bd (fX4_mixSet x1 σ) fun v66 s64 =>
  ky_bn (x1 + (1 : Int32)) fun v67 =>
  fX4_digest_L60 fu v67 s64))
set_option maxHeartbeats 4000000 in
set_option maxRecDepth 100000 in
theorem tX4_digest_L60 {G : ky_G} (d : Nat) : ∀ (fu : Nat) (x1 : Int32) (σ : ky_St) (r : Int64) (σ' : ky_St), fX4_digest_L60 fu x1 σ = some (r, σ') → ky_T G mX4_digest (d + 5) 0 0 60 [(0, ky_r G 7), (1, .int x1)] [] σ (.inr (some (.long r))) σ' := by
  intro fu
  induction fu with
  | zero =>
    intro x1 σ r σ' hf
    rw [fX4_digest_L60] at hf
    cases hf
  | succ fu ih =>
    intro x1 σ r σ' hf
    rw [fX4_digest_L60] at hf
    refine ky_iload_n (n := 61) dX4_digest_60 rfl rfl 1 rfl ?_
    refine ky_aload_n (n := 62) dX4_digest_61 rfl rfl 0 rfl ?_
    refine ky_getf (q := (RX4, TX4, 12)) (v := ky_r G 8) (n := 65) dX4_digest_62 rfl kc_7 rfl (Nat.le_of_ble_eq_true rfl) wg_X4_7 (vf_7_0 _ _) ?_
    refine ky_iconst (v := (3 : Int32)) (n := 66) dX4_digest_65 rfl rfl ?_
    obtain ⟨g12, hf⟩ := ky_ge hf
    refine ky_iald (n := 67) dX4_digest_66 rfl kl_8 g12 ?_
    refine ky_icmp_ge (n := 70) (tgt := 81) dX4_digest_67 rfl rfl (fun c13 => ?_) (fun c13 => ?_)
    · have hf := ky_pos c13 hf
      refine ky_iconst (v := (0 : Int32)) (n := 82) dX4_digest_81 rfl rfl ?_
      refine ky_istore_n (lv' := [(1, .int (0 : Int32)), (0, ky_r G 7)]) (n := 83) dX4_digest_82 rfl rfl (Nat.le_of_ble_eq_true rfl) rfl ?_
      refine ky_sub [1, 0] (lv' := [(0, ky_r G 7), (1, .int (0 : Int32))]) rfl ?_
      exact tX4_digest_L83 d FU (0 : Int32) σ _ _ hf
    · have hf := ky_neg c13 hf
      refine ky_aload_n (n := 71) dX4_digest_70 rfl rfl 0 rfl ?_
      refine ky_iload_n (n := 72) dX4_digest_71 rfl rfl 1 rfl ?_
      obtain ⟨v66, s64, h65, hf⟩ := ky_bd_e hf
      refine ky_callV (kc := 0) (ks := 0) (kc2 := 0) (ks2 := 0) (k0 := 7) (as := [.int x1]) (st := []) (KX4_mixSet d x1 σ _ _ h65) okX4_mixSet wl_X4_227 kc_7 (q := (RX4, TX4, 12)) rfl rfl rfl rfl (Nat.le_of_ble_eq_true rfl) dX4_digest_72 rfl ?_
      refine ky_iincB (c := (1 : Int32)) (n := 78) dX4_digest_75 rfl 1 rfl rfl (Nat.le_of_ble_eq_true rfl) (fun v67 ev67 => ?_)
      have hf := ky_bn_e hf v67 ev67
      refine ky_lv (lv' := [(1, .int v67), (0, ky_r G 7)]) rfl ?_
      refine ky_goto (tgt := 60) dX4_digest_78 rfl ?_
      refine ky_sub [1, 0] (lv' := [(0, ky_r G 7), (1, .int v67)]) rfl ?_
      exact ih v67 s64 _ _ hf
def fX4_digest_L14 : Nat → Int32 → ky_St → Option (Int64 × ky_St)
  | 0, _, _ => none
  | fu + 1, x1, σ =>
  if (10 : Int32) ≤ x1 then (
  ky_g (¬ ((0 : Int32) < 0 ∨ 283 ≤ (0 : Int32).toNatClampNeg)) (
  ky_bd (fX4_mix (σ.1 8 (0 : Int32).toNatClampNeg).toInt64 σ) fun v7 s5 =>
  ky_g (¬ ((1 : Int32) < 0 ∨ 283 ≤ (1 : Int32).toNatClampNeg)) (
  ky_bd (fX4_mix (s5.1 8 (1 : Int32).toNatClampNeg).toInt64 s5) fun v11 s9 =>
  fX4_digest_L60 FU (0 : Int32) s9))) else (
  ky_bd (fX4_counted x1 σ) fun v70 s68 =>
  ky_bd (fX4_mix v70.toInt64 s68) fun v73 s71 =>
  ky_bn (x1 + (1 : Int32)) fun v74 =>
  fX4_digest_L14 fu v74 s71)
set_option maxHeartbeats 4000000 in
set_option maxRecDepth 100000 in
theorem tX4_digest_L14 {G : ky_G} (d : Nat) : ∀ (fu : Nat) (x1 : Int32) (σ : ky_St) (r : Int64) (σ' : ky_St), fX4_digest_L14 fu x1 σ = some (r, σ') → ky_T G mX4_digest (d + 5) 0 0 14 [(0, ky_r G 7), (1, .int x1)] [] σ (.inr (some (.long r))) σ' := by
  intro fu
  induction fu with
  | zero =>
    intro x1 σ r σ' hf
    rw [fX4_digest_L14] at hf
    cases hf
  | succ fu ih =>
    intro x1 σ r σ' hf
    rw [fX4_digest_L14] at hf
    refine ky_iload_n (n := 15) dX4_digest_14 rfl rfl 1 rfl ?_
    refine ky_bipush (v := (10 : Int32)) (n := 17) dX4_digest_15 rfl rfl ?_
    refine ky_icmp_ge (n := 20) (tgt := 36) dX4_digest_17 rfl rfl (fun c3 => ?_) (fun c3 => ?_)
    · have hf := ky_pos c3 hf
      refine ky_aload_n (n := 37) dX4_digest_36 rfl rfl 0 rfl ?_
      refine ky_aload_n (n := 38) dX4_digest_37 rfl rfl 0 rfl ?_
      refine ky_getf (q := (RX4, TX4, 12)) (v := ky_r G 8) (n := 41) dX4_digest_38 rfl kc_7 rfl (Nat.le_of_ble_eq_true rfl) wg_X4_7 (vf_7_0 _ _) ?_
      refine ky_iconst (v := (0 : Int32)) (n := 42) dX4_digest_41 rfl rfl ?_
      obtain ⟨g4, hf⟩ := ky_ge hf
      refine ky_iald (n := 43) dX4_digest_42 rfl kl_8 g4 ?_
      refine ky_i2l (n := 44) dX4_digest_43 rfl ?_
      obtain ⟨v7, s5, h6, hf⟩ := ky_bd_e hf
      refine ky_callV (kc := 0) (ks := 0) (kc2 := 0) (ks2 := 0) (k0 := 7) (as := [.long (σ.1 8 (0 : Int32).toNatClampNeg).toInt64]) (st := []) (KX4_mix (d + 4) (σ.1 8 (0 : Int32).toNatClampNeg).toInt64 σ _ _ h6) okX4_mix wl_X4_221 kc_7 (q := (RX4, TX4, 12)) rfl rfl rfl rfl (Nat.le_of_ble_eq_true rfl) dX4_digest_44 rfl ?_
      refine ky_aload_n (n := 48) dX4_digest_47 rfl rfl 0 rfl ?_
      refine ky_aload_n (n := 49) dX4_digest_48 rfl rfl 0 rfl ?_
      refine ky_getf (q := (RX4, TX4, 12)) (v := ky_r G 8) (n := 52) dX4_digest_49 rfl kc_7 rfl (Nat.le_of_ble_eq_true rfl) wg_X4_7 (vf_7_0 _ _) ?_
      refine ky_iconst (v := (1 : Int32)) (n := 53) dX4_digest_52 rfl rfl ?_
      obtain ⟨g8, hf⟩ := ky_ge hf
      refine ky_iald (n := 54) dX4_digest_53 rfl kl_8 g8 ?_
      refine ky_i2l (n := 55) dX4_digest_54 rfl ?_
      obtain ⟨v11, s9, h10, hf⟩ := ky_bd_e hf
      refine ky_callV (kc := 0) (ks := 0) (kc2 := 0) (ks2 := 0) (k0 := 7) (as := [.long (s5.1 8 (1 : Int32).toNatClampNeg).toInt64]) (st := []) (KX4_mix (d + 4) (s5.1 8 (1 : Int32).toNatClampNeg).toInt64 s5 _ _ h10) okX4_mix wl_X4_221 kc_7 (q := (RX4, TX4, 12)) rfl rfl rfl rfl (Nat.le_of_ble_eq_true rfl) dX4_digest_55 rfl ?_
      refine ky_iconst (v := (0 : Int32)) (n := 59) dX4_digest_58 rfl rfl ?_
      refine ky_istore_n (lv' := [(1, .int (0 : Int32)), (0, ky_r G 7)]) (n := 60) dX4_digest_59 rfl rfl (Nat.le_of_ble_eq_true rfl) rfl ?_
      refine ky_sub [1, 0] (lv' := [(0, ky_r G 7), (1, .int (0 : Int32))]) rfl ?_
      exact tX4_digest_L60 d FU (0 : Int32) s9 _ _ hf
    · have hf := ky_neg c3 hf
      refine ky_aload_n (n := 21) dX4_digest_20 rfl rfl 0 rfl ?_
      refine ky_aload_n (n := 22) dX4_digest_21 rfl rfl 0 rfl ?_
      refine ky_iload_n (n := 23) dX4_digest_22 rfl rfl 1 rfl ?_
      obtain ⟨v70, s68, h69, hf⟩ := ky_bd_e hf
      refine ky_callV (kc := 0) (ks := 0) (kc2 := 0) (ks2 := 0) (k0 := 7) (as := [.int x1]) (st := [ky_r G 7]) (KX4_counted (d + 1) x1 σ _ _ h69) okX4_counted wl_X4_196 kc_7 (q := (RX4, TX4, 12)) rfl rfl rfl rfl (Nat.le_of_ble_eq_true rfl) dX4_digest_23 rfl ?_
      refine ky_i2l (n := 27) dX4_digest_26 rfl ?_
      obtain ⟨v73, s71, h72, hf⟩ := ky_bd_e hf
      refine ky_callV (kc := 0) (ks := 0) (kc2 := 0) (ks2 := 0) (k0 := 7) (as := [.long v70.toInt64]) (st := []) (KX4_mix (d + 4) v70.toInt64 s68 _ _ h72) okX4_mix wl_X4_221 kc_7 (q := (RX4, TX4, 12)) rfl rfl rfl rfl (Nat.le_of_ble_eq_true rfl) dX4_digest_27 rfl ?_
      refine ky_iincB (c := (1 : Int32)) (n := 33) dX4_digest_30 rfl 1 rfl rfl (Nat.le_of_ble_eq_true rfl) (fun v74 ev74 => ?_)
      have hf := ky_bn_e hf v74 ev74
      refine ky_lv (lv' := [(1, .int v74), (0, ky_r G 7)]) rfl ?_
      refine ky_goto (tgt := 14) dX4_digest_33 rfl ?_
      refine ky_sub [1, 0] (lv' := [(0, ky_r G 7), (1, .int v74)]) rfl ?_
      exact ih v74 s71 _ _ hf
def fX4_digest (σ : ky_St) : Option (Int64 × ky_St) :=
  ky_bn (ky_u1 σ 7 5 (0 : Int32)) fun s1 =>
  ky_bn (ky_uJ s1 7 (2549 : Int64)) fun s2 =>
  fX4_digest_L14 FU (0 : Int32) s2
set_option maxHeartbeats 4000000 in
set_option maxRecDepth 100000 in
theorem KX4_digest {G : ky_G} (d : Nat) (σ : ky_St) (r : Int64) (σ' : ky_St) (hf : fX4_digest σ = some (r, σ')) : ky_K G mX4_digest (d + 5) 0 0 [ky_r G 7] σ (.inr (some (.long r))) σ' := by
  unfold fX4_digest at hf
  refine ky_enter rfl (by decide +kernel) (Nat.le_of_ble_eq_true rfl) (lv := [(0, ky_r G 7)]) rfl ?_
  refine ky_aload_n (n := 1) dX4_digest_0 rfl rfl 0 rfl ?_
  refine ky_iconst (v := (0 : Int32)) (n := 2) dX4_digest_1 rfl rfl ?_
  refine ky_putf (q := (RX4, TX4, 12)) (n := 5) dX4_digest_2 rfl kc_7 rfl (Nat.le_of_ble_eq_true rfl) wg_X4_25 rfl (by decide +kernel) rfl (fun s1 es1 => ?_)
  have hf := ky_bn_e hf s1 es1
  refine ky_aload_n (n := 6) dX4_digest_5 rfl rfl 0 rfl ?_
  refine ky_ldc2 (v := (2549 : Int64)) (n := 9) dX4_digest_6 rfl wk_X4_225 ?_
  refine ky_putl (q := (RX4, TX4, 12)) (n := 12) dX4_digest_9 rfl kc_7 rfl (Nat.le_of_ble_eq_true rfl) wg_X4_217 rfl (by decide +kernel) ky_tyl rfl (fun s2 es2 => ?_)
  have hf := ky_bn_e hf s2 es2
  refine ky_iconst (v := (0 : Int32)) (n := 13) dX4_digest_12 rfl rfl ?_
  refine ky_istore_n (lv' := [(1, .int (0 : Int32)), (0, ky_r G 7)]) (n := 14) dX4_digest_13 rfl rfl (Nat.le_of_ble_eq_true rfl) rfl ?_
  refine ky_sub [1, 0] (lv' := [(0, ky_r G 7), (1, .int (0 : Int32))]) rfl ?_
  exact tX4_digest_L14 d FU (0 : Int32) s2 _ _ hf
