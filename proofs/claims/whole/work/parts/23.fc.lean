def fX4_thrown (σ : ky_St) : Option (Int32 × ky_St) :=
  some ((σ.1 7 5), σ)
set_option maxHeartbeats 4000000 in
set_option maxRecDepth 100000 in
theorem KX4_thrown {G : ky_G} (d : Nat) (σ : ky_St) (r : Int32) (σ' : ky_St) (hf : fX4_thrown σ = some (r, σ')) : ky_K G mX4_thrown d 0 0 [ky_r G 7] σ (.inr (some (.int r))) σ' := by
  unfold fX4_thrown at hf
  refine ky_enter rfl (by decide +kernel) (Nat.le_of_ble_eq_true rfl) (lv := [(0, ky_r G 7)]) rfl ?_
  refine ky_aload_n (n := 1) dX4_thrown_0 rfl rfl 0 rfl ?_
  refine ky_getf (q := (RX4, TX4, 12)) (v := .int (σ.1 7 5)) (n := 4) dX4_thrown_1 rfl kc_7 rfl (Nat.le_of_ble_eq_true rfl) wg_X4_25 (vf_7_5 _ _) ?_
  cases hf
  exact ky_ireturn dX4_thrown_4 rfl
def fX4_within (a1 : Int32) (a2 : Int32) (a3 : Int32) (σ : ky_St) : Option (Int32 × ky_St) :=
  if a1 < a2 then (
  some ((0 : Int32), σ)) else (
  if a3 < a1 then (
  some ((0 : Int32), σ)) else (
  some ((1 : Int32), σ)))
set_option maxHeartbeats 4000000 in
set_option maxRecDepth 100000 in
theorem KX4_within {G : ky_G} (d : Nat) (a1 : Int32) (a2 : Int32) (a3 : Int32) (σ : ky_St) (r : Int32) (σ' : ky_St) (hf : fX4_within a1 a2 a3 σ = some (r, σ')) : ky_K G mX4_within d 0 0 [.int a1, .int a2, .int a3] σ (.inr (some (.int r))) σ' := by
  unfold fX4_within at hf
  refine ky_enter rfl (by decide +kernel) (Nat.le_of_ble_eq_true rfl) (lv := [(0, .int a1), (1, .int a2), (2, .int a3)]) rfl ?_
  refine ky_iload_n (n := 1) dX4_within_0 rfl rfl 0 rfl ?_
  refine ky_iload_n (n := 2) dX4_within_1 rfl rfl 1 rfl ?_
  refine ky_icmp_lt (n := 5) (tgt := 14) dX4_within_2 rfl rfl (fun c1 => ?_) (fun c1 => ?_)
  · have hf := ky_pos c1 hf
    refine ky_iconst (v := (0 : Int32)) (n := 15) dX4_within_14 rfl rfl ?_
    cases hf
    exact ky_zreturn dX4_within_15 rfl (Or.inl rfl)
  · have hf := ky_neg c1 hf
    refine ky_iload_n (n := 6) dX4_within_5 rfl rfl 0 rfl ?_
    refine ky_iload_n (n := 7) dX4_within_6 rfl rfl 2 rfl ?_
    refine ky_icmp_gt (n := 10) (tgt := 14) dX4_within_7 rfl rfl (fun c2 => ?_) (fun c2 => ?_)
    · have hf := ky_pos c2 hf
      refine ky_iconst (v := (0 : Int32)) (n := 15) dX4_within_14 rfl rfl ?_
      cases hf
      exact ky_zreturn dX4_within_15 rfl (Or.inl rfl)
    · have hf := ky_neg c2 hf
      refine ky_iconst (v := (1 : Int32)) (n := 11) dX4_within_10 rfl rfl ?_
      refine ky_goto (tgt := 15) dX4_within_11 rfl ?_
      cases hf
      exact ky_zreturn dX4_within_15 rfl (Or.inr rfl)
def fX4_save_L54 : Nat → Int32 → ky_St → Option (Unit × ky_St)
  | 0, _, _ => none
  | fu + 1, x1, σ =>
  if (283 : Int32) ≤ x1 then (
  ky_bn (ky_u1 σ 7 1 ((σ.1 7 1) + (1 : Int32))) fun s3 =>
  some ((), s3)) else (
  ky_g (¬ (x1 < 0 ∨ 283 ≤ x1.toNatClampNeg)) (
  ky_g (¬ ((((283 : Int32) * (σ.1 7 1)) + x1) < 0 ∨ 1698 ≤ (((283 : Int32) * (σ.1 7 1)) + x1).toNatClampNeg)) (
  ky_bn (ky_u1 σ 9 (((283 : Int32) * (σ.1 7 1)) + x1).toNatClampNeg (σ.1 8 x1.toNatClampNeg)) fun s6 =>
  ky_bn (x1 + (1 : Int32)) fun v7 =>
  fX4_save_L54 fu v7 s6)))
set_option maxHeartbeats 4000000 in
set_option maxRecDepth 100000 in
theorem tX4_save_L54 {G : ky_G} (d : Nat) : ∀ (fu : Nat) (x1 : Int32) (σ : ky_St) (r : Unit) (σ' : ky_St), fX4_save_L54 fu x1 σ = some (r, σ') → ky_T G mX4_save d 0 0 54 [(0, ky_r G 7), (1, .int x1)] [] σ (.inr none) σ' := by
  intro fu
  induction fu with
  | zero =>
    intro x1 σ r σ' hf
    rw [fX4_save_L54] at hf
    cases hf
  | succ fu ih =>
    intro x1 σ r σ' hf
    rw [fX4_save_L54] at hf
    refine ky_iload_n (n := 55) dX4_save_54 rfl rfl 1 rfl ?_
    refine ky_sipush (v := (283 : Int32)) (n := 58) dX4_save_55 rfl rfl ?_
    refine ky_icmp_ge (n := 61) (tgt := 88) dX4_save_58 rfl rfl (fun c2 => ?_) (fun c2 => ?_)
    · have hf := ky_pos c2 hf
      refine ky_aload_n (n := 89) dX4_save_88 rfl rfl 0 rfl ?_
      refine ky_dup (n := 90) dX4_save_89 rfl rfl ?_
      refine ky_getf (q := (RX4, TX4, 12)) (v := .int (σ.1 7 1)) (n := 93) dX4_save_90 rfl kc_7 rfl (Nat.le_of_ble_eq_true rfl) wg_X4_29 (vf_7_1 _ _) ?_
      refine ky_iconst (v := (1 : Int32)) (n := 94) dX4_save_93 rfl rfl ?_
      refine ky_iadd (n := 95) dX4_save_94 rfl ?_
      refine ky_putf (q := (RX4, TX4, 12)) (n := 98) dX4_save_95 rfl kc_7 rfl (Nat.le_of_ble_eq_true rfl) wg_X4_29 rfl (by decide +kernel) rfl (fun s3 es3 => ?_)
      have hf := ky_bn_e hf s3 es3
      cases hf
      exact ky_return dX4_save_98 rfl
    · have hf := ky_neg c2 hf
      refine ky_aload_n (n := 62) dX4_save_61 rfl rfl 0 rfl ?_
      refine ky_getf (q := (RX4, TX4, 12)) (v := ky_r G 9) (n := 65) dX4_save_62 rfl kc_7 rfl (Nat.le_of_ble_eq_true rfl) wg_X4_13 (vf_7_2 _ _) ?_
      refine ky_sipush (v := (283 : Int32)) (n := 68) dX4_save_65 rfl rfl ?_
      refine ky_aload_n (n := 69) dX4_save_68 rfl rfl 0 rfl ?_
      refine ky_getf (q := (RX4, TX4, 12)) (v := .int (σ.1 7 1)) (n := 72) dX4_save_69 rfl kc_7 rfl (Nat.le_of_ble_eq_true rfl) wg_X4_29 (vf_7_1 _ _) ?_
      refine ky_imul (n := 73) dX4_save_72 rfl ?_
      refine ky_iload_n (n := 74) dX4_save_73 rfl rfl 1 rfl ?_
      refine ky_iadd (n := 75) dX4_save_74 rfl ?_
      refine ky_aload_n (n := 76) dX4_save_75 rfl rfl 0 rfl ?_
      refine ky_getf (q := (RX4, TX4, 12)) (v := ky_r G 8) (n := 79) dX4_save_76 rfl kc_7 rfl (Nat.le_of_ble_eq_true rfl) wg_X4_7 (vf_7_0 _ _) ?_
      refine ky_iload_n (n := 80) dX4_save_79 rfl rfl 1 rfl ?_
      obtain ⟨g4, hf⟩ := ky_ge hf
      refine ky_iald (n := 81) dX4_save_80 rfl kl_8 g4 ?_
      obtain ⟨g5, hf⟩ := ky_ge hf
      refine ky_iast (n := 82) dX4_save_81 rfl kl_9 rfl g5 (fun s6 es6 => ?_)
      have hf := ky_bn_e hf s6 es6
      refine ky_iincB (c := (1 : Int32)) (n := 85) dX4_save_82 rfl 1 rfl rfl (Nat.le_of_ble_eq_true rfl) (fun v7 ev7 => ?_)
      have hf := ky_bn_e hf v7 ev7
      refine ky_lv (lv' := [(1, .int v7), (0, ky_r G 7)]) rfl ?_
      refine ky_goto (tgt := 54) dX4_save_85 rfl ?_
      refine ky_sub [1, 0] (lv' := [(0, ky_r G 7), (1, .int v7)]) rfl ?_
      exact ih v7 s6 _ _ hf
def fX4_save_L13 : Nat → Int32 → ky_St → Option (Unit × ky_St)
  | 0, _, _ => none
  | fu + 1, x1, σ =>
  if (1698 : Int32) ≤ x1 then (
  ky_bn (ky_u1 σ 7 1 ((σ.1 7 1) - (1 : Int32))) fun s9 =>
  fX4_save_L54 FU (0 : Int32) s9) else (
  ky_g (¬ (x1 < 0 ∨ 1698 ≤ x1.toNatClampNeg)) (
  ky_g (¬ ((x1 - (283 : Int32)) < 0 ∨ 1698 ≤ (x1 - (283 : Int32)).toNatClampNeg)) (
  ky_bn (ky_u1 σ 9 (x1 - (283 : Int32)).toNatClampNeg (σ.1 9 x1.toNatClampNeg)) fun s12 =>
  ky_bn (x1 + (1 : Int32)) fun v13 =>
  fX4_save_L13 fu v13 s12)))
set_option maxHeartbeats 4000000 in
set_option maxRecDepth 100000 in
theorem tX4_save_L13 {G : ky_G} (d : Nat) : ∀ (fu : Nat) (x1 : Int32) (σ : ky_St) (r : Unit) (σ' : ky_St), fX4_save_L13 fu x1 σ = some (r, σ') → ky_T G mX4_save d 0 0 13 [(0, ky_r G 7), (1, .int x1)] [] σ (.inr none) σ' := by
  intro fu
  induction fu with
  | zero =>
    intro x1 σ r σ' hf
    rw [fX4_save_L13] at hf
    cases hf
  | succ fu ih =>
    intro x1 σ r σ' hf
    rw [fX4_save_L13] at hf
    refine ky_iload_n (n := 14) dX4_save_13 rfl rfl 1 rfl ?_
    refine ky_sipush (v := (1698 : Int32)) (n := 17) dX4_save_14 rfl rfl ?_
    refine ky_icmp_ge (n := 20) (tgt := 42) dX4_save_17 rfl rfl (fun c8 => ?_) (fun c8 => ?_)
    · have hf := ky_pos c8 hf
      refine ky_aload_n (n := 43) dX4_save_42 rfl rfl 0 rfl ?_
      refine ky_dup (n := 44) dX4_save_43 rfl rfl ?_
      refine ky_getf (q := (RX4, TX4, 12)) (v := .int (σ.1 7 1)) (n := 47) dX4_save_44 rfl kc_7 rfl (Nat.le_of_ble_eq_true rfl) wg_X4_29 (vf_7_1 _ _) ?_
      refine ky_iconst (v := (1 : Int32)) (n := 48) dX4_save_47 rfl rfl ?_
      refine ky_isub (n := 49) dX4_save_48 rfl ?_
      refine ky_putf (q := (RX4, TX4, 12)) (n := 52) dX4_save_49 rfl kc_7 rfl (Nat.le_of_ble_eq_true rfl) wg_X4_29 rfl (by decide +kernel) rfl (fun s9 es9 => ?_)
      have hf := ky_bn_e hf s9 es9
      refine ky_iconst (v := (0 : Int32)) (n := 53) dX4_save_52 rfl rfl ?_
      refine ky_istore_n (lv' := [(1, .int (0 : Int32)), (0, ky_r G 7)]) (n := 54) dX4_save_53 rfl rfl (Nat.le_of_ble_eq_true rfl) rfl ?_
      refine ky_sub [1, 0] (lv' := [(0, ky_r G 7), (1, .int (0 : Int32))]) rfl ?_
      exact tX4_save_L54 d FU (0 : Int32) s9 _ _ hf
    · have hf := ky_neg c8 hf
      refine ky_aload_n (n := 21) dX4_save_20 rfl rfl 0 rfl ?_
      refine ky_getf (q := (RX4, TX4, 12)) (v := ky_r G 9) (n := 24) dX4_save_21 rfl kc_7 rfl (Nat.le_of_ble_eq_true rfl) wg_X4_13 (vf_7_2 _ _) ?_
      refine ky_iload_n (n := 25) dX4_save_24 rfl rfl 1 rfl ?_
      refine ky_sipush (v := (283 : Int32)) (n := 28) dX4_save_25 rfl rfl ?_
      refine ky_isub (n := 29) dX4_save_28 rfl ?_
      refine ky_aload_n (n := 30) dX4_save_29 rfl rfl 0 rfl ?_
      refine ky_getf (q := (RX4, TX4, 12)) (v := ky_r G 9) (n := 33) dX4_save_30 rfl kc_7 rfl (Nat.le_of_ble_eq_true rfl) wg_X4_13 (vf_7_2 _ _) ?_
      refine ky_iload_n (n := 34) dX4_save_33 rfl rfl 1 rfl ?_
      obtain ⟨g10, hf⟩ := ky_ge hf
      refine ky_iald (n := 35) dX4_save_34 rfl kl_9 g10 ?_
      obtain ⟨g11, hf⟩ := ky_ge hf
      refine ky_iast (n := 36) dX4_save_35 rfl kl_9 rfl g11 (fun s12 es12 => ?_)
      have hf := ky_bn_e hf s12 es12
      refine ky_iincB (c := (1 : Int32)) (n := 39) dX4_save_36 rfl 1 rfl rfl (Nat.le_of_ble_eq_true rfl) (fun v13 ev13 => ?_)
      have hf := ky_bn_e hf v13 ev13
      refine ky_lv (lv' := [(1, .int v13), (0, ky_r G 7)]) rfl ?_
      refine ky_goto (tgt := 13) dX4_save_39 rfl ?_
      refine ky_sub [1, 0] (lv' := [(0, ky_r G 7), (1, .int v13)]) rfl ?_
      exact ih v13 s12 _ _ hf
def fX4_save (σ : ky_St) : Option (Unit × ky_St) :=
  if (σ.1 7 1) = (6 : Int32) then (
  fX4_save_L13 FU (283 : Int32) σ) else (
  fX4_save_L54 FU (0 : Int32) σ)
set_option maxHeartbeats 4000000 in
set_option maxRecDepth 100000 in
theorem KX4_save {G : ky_G} (d : Nat) (σ : ky_St) (r : Unit) (σ' : ky_St) (hf : fX4_save σ = some (r, σ')) : ky_K G mX4_save d 0 0 [ky_r G 7] σ (.inr none) σ' := by
  unfold fX4_save at hf
  refine ky_enter rfl (by decide +kernel) (Nat.le_of_ble_eq_true rfl) (lv := [(0, ky_r G 7)]) rfl ?_
  refine ky_aload_n (n := 1) dX4_save_0 rfl rfl 0 rfl ?_
  refine ky_getf (q := (RX4, TX4, 12)) (v := .int (σ.1 7 1)) (n := 4) dX4_save_1 rfl kc_7 rfl (Nat.le_of_ble_eq_true rfl) wg_X4_29 (vf_7_1 _ _) ?_
  refine ky_bipush (v := (6 : Int32)) (n := 6) dX4_save_4 rfl rfl ?_
  refine ky_icmp_ne (n := 9) (tgt := 52) dX4_save_6 rfl rfl (fun c1 => ?_) (fun c1 => ?_)
  · have hf := ky_neg c1 hf
    refine ky_iconst (v := (0 : Int32)) (n := 53) dX4_save_52 rfl rfl ?_
    refine ky_istore_n (lv' := [(1, .int (0 : Int32)), (0, ky_r G 7)]) (n := 54) dX4_save_53 rfl rfl (Nat.le_of_ble_eq_true rfl) rfl ?_
    refine ky_sub [1, 0] (lv' := [(0, ky_r G 7), (1, .int (0 : Int32))]) rfl ?_
    exact tX4_save_L54 d FU (0 : Int32) σ _ _ hf
  · have hf := ky_pos c1 hf
    refine ky_sipush (v := (283 : Int32)) (n := 12) dX4_save_9 rfl rfl ?_
    refine ky_istore_n (lv' := [(1, .int (283 : Int32)), (0, ky_r G 7)]) (n := 13) dX4_save_12 rfl rfl (Nat.le_of_ble_eq_true rfl) rfl ?_
    refine ky_sub [1, 0] (lv' := [(0, ky_r G 7), (1, .int (283 : Int32))]) rfl ?_
    exact tX4_save_L13 d FU (283 : Int32) σ _ _ hf
def fX4_wholeOf (a1 : Int32) (σ : ky_St) : Option (Int32 × ky_St) :=
  if a1 = 0 then (
  some ((2 : Int32), σ)) else (
  if a1 = (1 : Int32) then (
  some ((4 : Int32), σ)) else (
  if a1 = (2 : Int32) then (
  some ((3 : Int32), σ)) else (
  some ((1 : Int32), σ))))
set_option maxHeartbeats 4000000 in
set_option maxRecDepth 100000 in
theorem KX4_wholeOf {G : ky_G} (d : Nat) (a1 : Int32) (σ : ky_St) (r : Int32) (σ' : ky_St) (hf : fX4_wholeOf a1 σ = some (r, σ')) : ky_K G mX4_wholeOf d 0 0 [.int a1] σ (.inr (some (.int r))) σ' := by
  unfold fX4_wholeOf at hf
  refine ky_enter rfl (by decide +kernel) (Nat.le_of_ble_eq_true rfl) (lv := [(0, .int a1)]) rfl ?_
  refine ky_iload_n (n := 1) dX4_wholeOf_0 rfl rfl 0 rfl ?_
  refine ky_if_ne (n := 4) (tgt := 8) dX4_wholeOf_1 rfl rfl (fun c1 => ?_) (fun c1 => ?_)
  · have hf := ky_neg c1 hf
    refine ky_iload_n (n := 9) dX4_wholeOf_8 rfl rfl 0 rfl ?_
    refine ky_iconst (v := (1 : Int32)) (n := 10) dX4_wholeOf_9 rfl rfl ?_
    refine ky_icmp_ne (n := 13) (tgt := 17) dX4_wholeOf_10 rfl rfl (fun c2 => ?_) (fun c2 => ?_)
    · have hf := ky_neg c2 hf
      refine ky_iload_n (n := 18) dX4_wholeOf_17 rfl rfl 0 rfl ?_
      refine ky_iconst (v := (2 : Int32)) (n := 19) dX4_wholeOf_18 rfl rfl ?_
      refine ky_icmp_ne (n := 22) (tgt := 26) dX4_wholeOf_19 rfl rfl (fun c3 => ?_) (fun c3 => ?_)
      · have hf := ky_neg c3 hf
        refine ky_iconst (v := (1 : Int32)) (n := 27) dX4_wholeOf_26 rfl rfl ?_
        cases hf
        exact ky_ireturn dX4_wholeOf_27 rfl
      · have hf := ky_pos c3 hf
        refine ky_iconst (v := (3 : Int32)) (n := 23) dX4_wholeOf_22 rfl rfl ?_
        refine ky_goto (tgt := 27) dX4_wholeOf_23 rfl ?_
        cases hf
        exact ky_ireturn dX4_wholeOf_27 rfl
    · have hf := ky_pos c2 hf
      refine ky_iconst (v := (4 : Int32)) (n := 14) dX4_wholeOf_13 rfl rfl ?_
      refine ky_goto (tgt := 27) dX4_wholeOf_14 rfl ?_
      cases hf
      exact ky_ireturn dX4_wholeOf_27 rfl
  · have hf := ky_pos c1 hf
    refine ky_iconst (v := (2 : Int32)) (n := 5) dX4_wholeOf_4 rfl rfl ?_
    refine ky_goto (tgt := 27) dX4_wholeOf_5 rfl ?_
    cases hf
    exact ky_ireturn dX4_wholeOf_27 rfl
def fX4_costOf (a1 : Int32) (σ : ky_St) : Option (Int32 × ky_St) :=
  if a1 = 0 then (
  some ((40 : Int32), σ)) else (
  if a1 = (1 : Int32) then (
  some ((15 : Int32), σ)) else (
  if a1 = (2 : Int32) then (
  some ((20 : Int32), σ)) else (
  some ((5 : Int32), σ))))
set_option maxHeartbeats 4000000 in
set_option maxRecDepth 100000 in
theorem KX4_costOf {G : ky_G} (d : Nat) (a1 : Int32) (σ : ky_St) (r : Int32) (σ' : ky_St) (hf : fX4_costOf a1 σ = some (r, σ')) : ky_K G mX4_costOf d 0 0 [.int a1] σ (.inr (some (.int r))) σ' := by
  unfold fX4_costOf at hf
  refine ky_enter rfl (by decide +kernel) (Nat.le_of_ble_eq_true rfl) (lv := [(0, .int a1)]) rfl ?_
  refine ky_iload_n (n := 1) dX4_costOf_0 rfl rfl 0 rfl ?_
  refine ky_if_ne (n := 4) (tgt := 9) dX4_costOf_1 rfl rfl (fun c1 => ?_) (fun c1 => ?_)
  · have hf := ky_neg c1 hf
    refine ky_iload_n (n := 10) dX4_costOf_9 rfl rfl 0 rfl ?_
    refine ky_iconst (v := (1 : Int32)) (n := 11) dX4_costOf_10 rfl rfl ?_
    refine ky_icmp_ne (n := 14) (tgt := 19) dX4_costOf_11 rfl rfl (fun c2 => ?_) (fun c2 => ?_)
    · have hf := ky_neg c2 hf
      refine ky_iload_n (n := 20) dX4_costOf_19 rfl rfl 0 rfl ?_
      refine ky_iconst (v := (2 : Int32)) (n := 21) dX4_costOf_20 rfl rfl ?_
      refine ky_icmp_ne (n := 24) (tgt := 29) dX4_costOf_21 rfl rfl (fun c3 => ?_) (fun c3 => ?_)
      · have hf := ky_neg c3 hf
        refine ky_iconst (v := (5 : Int32)) (n := 30) dX4_costOf_29 rfl rfl ?_
        cases hf
        exact ky_ireturn dX4_costOf_30 rfl
      · have hf := ky_pos c3 hf
        refine ky_bipush (v := (20 : Int32)) (n := 26) dX4_costOf_24 rfl rfl ?_
        refine ky_goto (tgt := 30) dX4_costOf_26 rfl ?_
        cases hf
        exact ky_ireturn dX4_costOf_30 rfl
    · have hf := ky_pos c2 hf
      refine ky_bipush (v := (15 : Int32)) (n := 16) dX4_costOf_14 rfl rfl ?_
      refine ky_goto (tgt := 30) dX4_costOf_16 rfl ?_
      cases hf
      exact ky_ireturn dX4_costOf_30 rfl
  · have hf := ky_pos c1 hf
    refine ky_bipush (v := (40 : Int32)) (n := 6) dX4_costOf_4 rfl rfl ?_
    refine ky_goto (tgt := 30) dX4_costOf_6 rfl ?_
    cases hf
    exact ky_ireturn dX4_costOf_30 rfl
def fX4_of (a1 : Int32) (a2 : Int32) (σ : ky_St) : Option (Int32 × ky_St) :=
  ky_g (¬ ((((43 : Int32) + ((10 : Int32) * a1)) + a2) < 0 ∨ 283 ≤ (((43 : Int32) + ((10 : Int32) * a1)) + a2).toNatClampNeg)) (
  some ((σ.1 8 (((43 : Int32) + ((10 : Int32) * a1)) + a2).toNatClampNeg), σ))
set_option maxHeartbeats 4000000 in
set_option maxRecDepth 100000 in
theorem KX4_of {G : ky_G} (d : Nat) (a1 : Int32) (a2 : Int32) (σ : ky_St) (r : Int32) (σ' : ky_St) (hf : fX4_of a1 a2 σ = some (r, σ')) : ky_K G mX4_of d 0 0 [ky_r G 7, .int a1, .int a2] σ (.inr (some (.int r))) σ' := by
  unfold fX4_of at hf
  refine ky_enter rfl (by decide +kernel) (Nat.le_of_ble_eq_true rfl) (lv := [(0, ky_r G 7), (1, .int a1), (2, .int a2)]) rfl ?_
  refine ky_aload_n (n := 1) dX4_of_0 rfl rfl 0 rfl ?_
  refine ky_getf (q := (RX4, TX4, 12)) (v := ky_r G 8) (n := 4) dX4_of_1 rfl kc_7 rfl (Nat.le_of_ble_eq_true rfl) wg_X4_7 (vf_7_0 _ _) ?_
  refine ky_bipush (v := (43 : Int32)) (n := 6) dX4_of_4 rfl rfl ?_
  refine ky_bipush (v := (10 : Int32)) (n := 8) dX4_of_6 rfl rfl ?_
  refine ky_iload_n (n := 9) dX4_of_8 rfl rfl 1 rfl ?_
  refine ky_imul (n := 10) dX4_of_9 rfl ?_
  refine ky_iadd (n := 11) dX4_of_10 rfl ?_
  refine ky_iload_n (n := 12) dX4_of_11 rfl rfl 2 rfl ?_
  refine ky_iadd (n := 13) dX4_of_12 rfl ?_
  obtain ⟨g1, hf⟩ := ky_ge hf
  refine ky_iald (n := 14) dX4_of_13 rfl kl_8 g1 ?_
  cases hf
  exact ky_ireturn dX4_of_14 rfl
def fX4_put (a1 : Int32) (a2 : Int32) (a3 : Int32) (σ : ky_St) : Option (Unit × ky_St) :=
  ky_g (¬ ((((43 : Int32) + ((10 : Int32) * a1)) + a2) < 0 ∨ 283 ≤ (((43 : Int32) + ((10 : Int32) * a1)) + a2).toNatClampNeg)) (
  ky_bn (ky_u1 σ 8 (((43 : Int32) + ((10 : Int32) * a1)) + a2).toNatClampNeg a3) fun s2 =>
  some ((), s2))
set_option maxHeartbeats 4000000 in
set_option maxRecDepth 100000 in
theorem KX4_put {G : ky_G} (d : Nat) (a1 : Int32) (a2 : Int32) (a3 : Int32) (σ : ky_St) (r : Unit) (σ' : ky_St) (hf : fX4_put a1 a2 a3 σ = some (r, σ')) : ky_K G mX4_put d 0 0 [ky_r G 7, .int a1, .int a2, .int a3] σ (.inr none) σ' := by
  unfold fX4_put at hf
  refine ky_enter rfl (by decide +kernel) (Nat.le_of_ble_eq_true rfl) (lv := [(0, ky_r G 7), (1, .int a1), (2, .int a2), (3, .int a3)]) rfl ?_
  refine ky_aload_n (n := 1) dX4_put_0 rfl rfl 0 rfl ?_
  refine ky_getf (q := (RX4, TX4, 12)) (v := ky_r G 8) (n := 4) dX4_put_1 rfl kc_7 rfl (Nat.le_of_ble_eq_true rfl) wg_X4_7 (vf_7_0 _ _) ?_
  refine ky_bipush (v := (43 : Int32)) (n := 6) dX4_put_4 rfl rfl ?_
  refine ky_bipush (v := (10 : Int32)) (n := 8) dX4_put_6 rfl rfl ?_
  refine ky_iload_n (n := 9) dX4_put_8 rfl rfl 1 rfl ?_
  refine ky_imul (n := 10) dX4_put_9 rfl ?_
  refine ky_iadd (n := 11) dX4_put_10 rfl ?_
  refine ky_iload_n (n := 12) dX4_put_11 rfl rfl 2 rfl ?_
  refine ky_iadd (n := 13) dX4_put_12 rfl ?_
  refine ky_iload_n (n := 14) dX4_put_13 rfl rfl 3 rfl ?_
  obtain ⟨g1, hf⟩ := ky_ge hf
  refine ky_iast (n := 15) dX4_put_14 rfl kl_8 rfl g1 (fun s2 es2 => ?_)
  have hf := ky_bn_e hf s2 es2
  cases hf
  exact ky_return dX4_put_15 rfl
def fX4_ofSite (a1 : Int32) (a2 : Int32) (σ : ky_St) : Option (Int32 × ky_St) :=
  ky_g (¬ ((((19 : Int32) + ((4 : Int32) * a1)) + a2) < 0 ∨ 283 ≤ (((19 : Int32) + ((4 : Int32) * a1)) + a2).toNatClampNeg)) (
  some ((σ.1 8 (((19 : Int32) + ((4 : Int32) * a1)) + a2).toNatClampNeg), σ))
set_option maxHeartbeats 4000000 in
set_option maxRecDepth 100000 in
theorem KX4_ofSite {G : ky_G} (d : Nat) (a1 : Int32) (a2 : Int32) (σ : ky_St) (r : Int32) (σ' : ky_St) (hf : fX4_ofSite a1 a2 σ = some (r, σ')) : ky_K G mX4_ofSite d 0 0 [ky_r G 7, .int a1, .int a2] σ (.inr (some (.int r))) σ' := by
  unfold fX4_ofSite at hf
  refine ky_enter rfl (by decide +kernel) (Nat.le_of_ble_eq_true rfl) (lv := [(0, ky_r G 7), (1, .int a1), (2, .int a2)]) rfl ?_
  refine ky_aload_n (n := 1) dX4_ofSite_0 rfl rfl 0 rfl ?_
  refine ky_getf (q := (RX4, TX4, 12)) (v := ky_r G 8) (n := 4) dX4_ofSite_1 rfl kc_7 rfl (Nat.le_of_ble_eq_true rfl) wg_X4_7 (vf_7_0 _ _) ?_
  refine ky_bipush (v := (19 : Int32)) (n := 6) dX4_ofSite_4 rfl rfl ?_
  refine ky_iconst (v := (4 : Int32)) (n := 7) dX4_ofSite_6 rfl rfl ?_
  refine ky_iload_n (n := 8) dX4_ofSite_7 rfl rfl 1 rfl ?_
  refine ky_imul (n := 9) dX4_ofSite_8 rfl ?_
  refine ky_iadd (n := 10) dX4_ofSite_9 rfl ?_
  refine ky_iload_n (n := 11) dX4_ofSite_10 rfl rfl 2 rfl ?_
  refine ky_iadd (n := 12) dX4_ofSite_11 rfl ?_
  obtain ⟨g1, hf⟩ := ky_ge hf
  refine ky_iald (n := 13) dX4_ofSite_12 rfl kl_8 g1 ?_
  cases hf
  exact ky_ireturn dX4_ofSite_13 rfl
def fX4_bill (a1 : Int32) (a2 : Int32) (a3 : Int32) (σ : ky_St) : Option (Unit × ky_St) :=
  ky_g (¬ ((((19 : Int32) + ((4 : Int32) * a1)) + a2) < 0 ∨ 283 ≤ (((19 : Int32) + ((4 : Int32) * a1)) + a2).toNatClampNeg)) (
  ky_g (¬ ((((19 : Int32) + ((4 : Int32) * a1)) + a2) < 0 ∨ 283 ≤ (((19 : Int32) + ((4 : Int32) * a1)) + a2).toNatClampNeg)) (
  ky_bn (ky_u1 σ 8 (((19 : Int32) + ((4 : Int32) * a1)) + a2).toNatClampNeg ((σ.1 8 (((19 : Int32) + ((4 : Int32) * a1)) + a2).toNatClampNeg) + a3)) fun s3 =>
  some ((), s3)))
set_option maxHeartbeats 4000000 in
set_option maxRecDepth 100000 in
theorem KX4_bill {G : ky_G} (d : Nat) (a1 : Int32) (a2 : Int32) (a3 : Int32) (σ : ky_St) (r : Unit) (σ' : ky_St) (hf : fX4_bill a1 a2 a3 σ = some (r, σ')) : ky_K G mX4_bill d 0 0 [ky_r G 7, .int a1, .int a2, .int a3] σ (.inr none) σ' := by
  unfold fX4_bill at hf
  refine ky_enter rfl (by decide +kernel) (Nat.le_of_ble_eq_true rfl) (lv := [(0, ky_r G 7), (1, .int a1), (2, .int a2), (3, .int a3)]) rfl ?_
  refine ky_aload_n (n := 1) dX4_bill_0 rfl rfl 0 rfl ?_
  refine ky_getf (q := (RX4, TX4, 12)) (v := ky_r G 8) (n := 4) dX4_bill_1 rfl kc_7 rfl (Nat.le_of_ble_eq_true rfl) wg_X4_7 (vf_7_0 _ _) ?_
  refine ky_bipush (v := (19 : Int32)) (n := 6) dX4_bill_4 rfl rfl ?_
  refine ky_iconst (v := (4 : Int32)) (n := 7) dX4_bill_6 rfl rfl ?_
  refine ky_iload_n (n := 8) dX4_bill_7 rfl rfl 1 rfl ?_
  refine ky_imul (n := 9) dX4_bill_8 rfl ?_
  refine ky_iadd (n := 10) dX4_bill_9 rfl ?_
  refine ky_iload_n (n := 11) dX4_bill_10 rfl rfl 2 rfl ?_
  refine ky_iadd (n := 12) dX4_bill_11 rfl ?_
  refine ky_dup2 (n := 13) dX4_bill_12 rfl rfl rfl ?_
  obtain ⟨g1, hf⟩ := ky_ge hf
  refine ky_iald (n := 14) dX4_bill_13 rfl kl_8 g1 ?_
  refine ky_iload_n (n := 15) dX4_bill_14 rfl rfl 3 rfl ?_
  refine ky_iadd (n := 16) dX4_bill_15 rfl ?_
  obtain ⟨g2, hf⟩ := ky_ge hf
  refine ky_iast (n := 17) dX4_bill_16 rfl kl_8 rfl g2 (fun s3 es3 => ?_)
  have hf := ky_bn_e hf s3 es3
  cases hf
  exact ky_return dX4_bill_17 rfl
def fX4_isSet (a1 : Int32) (σ : ky_St) : Option (Int32 × ky_St) :=
  ky_g (¬ ((3 : Int32) < 0 ∨ 283 ≤ (3 : Int32).toNatClampNeg)) (
  ky_bd (fX4_within a1 (0 : Int32) ((σ.1 8 (3 : Int32).toNatClampNeg) - (1 : Int32)) σ) fun v4 s2 =>
  ky_g (v4 = 0 ∨ v4 = 1) (some (v4, s2)))
set_option maxHeartbeats 4000000 in
set_option maxRecDepth 100000 in
theorem KX4_isSet {G : ky_G} (d : Nat) (a1 : Int32) (σ : ky_St) (r : Int32) (σ' : ky_St) (hf : fX4_isSet a1 σ = some (r, σ')) : ky_K G mX4_isSet (d + 1) 0 0 [ky_r G 7, .int a1] σ (.inr (some (.int r))) σ' := by
  unfold fX4_isSet at hf
  refine ky_enter rfl (by decide +kernel) (Nat.le_of_ble_eq_true rfl) (lv := [(0, ky_r G 7), (1, .int a1)]) rfl ?_
  refine ky_iload_n (n := 1) dX4_isSet_0 rfl rfl 1 rfl ?_
  refine ky_iconst (v := (0 : Int32)) (n := 2) dX4_isSet_1 rfl rfl ?_
  refine ky_aload_n (n := 3) dX4_isSet_2 rfl rfl 0 rfl ?_
  refine ky_getf (q := (RX4, TX4, 12)) (v := ky_r G 8) (n := 6) dX4_isSet_3 rfl kc_7 rfl (Nat.le_of_ble_eq_true rfl) wg_X4_7 (vf_7_0 _ _) ?_
  refine ky_iconst (v := (3 : Int32)) (n := 7) dX4_isSet_6 rfl rfl ?_
  obtain ⟨g1, hf⟩ := ky_ge hf
  refine ky_iald (n := 8) dX4_isSet_7 rfl kl_8 g1 ?_
  refine ky_iconst (v := (1 : Int32)) (n := 9) dX4_isSet_8 rfl rfl ?_
  refine ky_isub (n := 10) dX4_isSet_9 rfl ?_
  obtain ⟨v4, s2, h3, hf⟩ := ky_bd_e hf
  refine ky_callS (kc := 0) (ks := 0) (kc2 := 0) (ks2 := 0) (as := [.int a1, .int (0 : Int32), .int ((σ.1 8 (3 : Int32).toNatClampNeg) - (1 : Int32))]) (st := []) (KX4_within d a1 (0 : Int32) ((σ.1 8 (3 : Int32).toNatClampNeg) - (1 : Int32)) σ _ _ h3) okX4_within wl_X4_32 rfl rfl (Nat.le_of_ble_eq_true rfl) dX4_isSet_10 rfl ?_
  obtain ⟨gz, hf⟩ := ky_ge hf
  cases hf
  exact ky_zreturn dX4_isSet_13 rfl gz
def fX4_isSite (a1 : Int32) (σ : ky_St) : Option (Int32 × ky_St) :=
  ky_bd (fX4_within a1 (0 : Int32) (5 : Int32) σ) fun v3 s1 =>
  ky_g (v3 = 0 ∨ v3 = 1) (some (v3, s1))
set_option maxHeartbeats 4000000 in
set_option maxRecDepth 100000 in
theorem KX4_isSite {G : ky_G} (d : Nat) (a1 : Int32) (σ : ky_St) (r : Int32) (σ' : ky_St) (hf : fX4_isSite a1 σ = some (r, σ')) : ky_K G mX4_isSite (d + 1) 0 0 [.int a1] σ (.inr (some (.int r))) σ' := by
  unfold fX4_isSite at hf
  refine ky_enter rfl (by decide +kernel) (Nat.le_of_ble_eq_true rfl) (lv := [(0, .int a1)]) rfl ?_
  refine ky_iload_n (n := 1) dX4_isSite_0 rfl rfl 0 rfl ?_
  refine ky_iconst (v := (0 : Int32)) (n := 2) dX4_isSite_1 rfl rfl ?_
  refine ky_iconst (v := (5 : Int32)) (n := 3) dX4_isSite_2 rfl rfl ?_
  obtain ⟨v3, s1, h2, hf⟩ := ky_bd_e hf
  refine ky_callS (kc := 0) (ks := 0) (kc2 := 0) (ks2 := 0) (as := [.int a1, .int (0 : Int32), .int (5 : Int32)]) (st := []) (KX4_within d a1 (0 : Int32) (5 : Int32) σ _ _ h2) okX4_within wl_X4_32 rfl rfl (Nat.le_of_ble_eq_true rfl) dX4_isSite_3 rfl ?_
  obtain ⟨gz, hf⟩ := ky_ge hf
  cases hf
  exact ky_zreturn dX4_isSite_6 rfl gz
def fX4_isKind (a1 : Int32) (σ : ky_St) : Option (Int32 × ky_St) :=
  ky_bd (fX4_within a1 (0 : Int32) (3 : Int32) σ) fun v3 s1 =>
  ky_g (v3 = 0 ∨ v3 = 1) (some (v3, s1))
set_option maxHeartbeats 4000000 in
set_option maxRecDepth 100000 in
theorem KX4_isKind {G : ky_G} (d : Nat) (a1 : Int32) (σ : ky_St) (r : Int32) (σ' : ky_St) (hf : fX4_isKind a1 σ = some (r, σ')) : ky_K G mX4_isKind (d + 1) 0 0 [.int a1] σ (.inr (some (.int r))) σ' := by
  unfold fX4_isKind at hf
  refine ky_enter rfl (by decide +kernel) (Nat.le_of_ble_eq_true rfl) (lv := [(0, .int a1)]) rfl ?_
  refine ky_iload_n (n := 1) dX4_isKind_0 rfl rfl 0 rfl ?_
  refine ky_iconst (v := (0 : Int32)) (n := 2) dX4_isKind_1 rfl rfl ?_
  refine ky_iconst (v := (3 : Int32)) (n := 3) dX4_isKind_2 rfl rfl ?_
  obtain ⟨v3, s1, h2, hf⟩ := ky_bd_e hf
  refine ky_callS (kc := 0) (ks := 0) (kc2 := 0) (ks2 := 0) (as := [.int a1, .int (0 : Int32), .int (3 : Int32)]) (st := []) (KX4_within d a1 (0 : Int32) (3 : Int32) σ _ _ h2) okX4_within wl_X4_32 rfl rfl (Nat.le_of_ble_eq_true rfl) dX4_isKind_3 rfl ?_
  obtain ⟨gz, hf⟩ := ky_ge hf
  cases hf
  exact ky_zreturn dX4_isKind_6 rfl gz
def fX4_isInYard (a1 : Int32) (σ : ky_St) : Option (Int32 × ky_St) :=
  ky_bd (fX4_of a1 (0 : Int32) σ) fun v3 s1 =>
  if v3 = (-1 : Int32) then (
  some ((1 : Int32), s1)) else (
  some ((0 : Int32), s1))
set_option maxHeartbeats 4000000 in
set_option maxRecDepth 100000 in
theorem KX4_isInYard {G : ky_G} (d : Nat) (a1 : Int32) (σ : ky_St) (r : Int32) (σ' : ky_St) (hf : fX4_isInYard a1 σ = some (r, σ')) : ky_K G mX4_isInYard (d + 1) 0 0 [ky_r G 7, .int a1] σ (.inr (some (.int r))) σ' := by
  unfold fX4_isInYard at hf
  refine ky_enter rfl (by decide +kernel) (Nat.le_of_ble_eq_true rfl) (lv := [(0, ky_r G 7), (1, .int a1)]) rfl ?_
  refine ky_aload_n (n := 1) dX4_isInYard_0 rfl rfl 0 rfl ?_
  refine ky_iload_n (n := 2) dX4_isInYard_1 rfl rfl 1 rfl ?_
  refine ky_iconst (v := (0 : Int32)) (n := 3) dX4_isInYard_2 rfl rfl ?_
  obtain ⟨v3, s1, h2, hf⟩ := ky_bd_e hf
  refine ky_callV (kc := 0) (ks := 0) (kc2 := 0) (ks2 := 0) (k0 := 7) (as := [.int a1, .int (0 : Int32)]) (st := []) (KX4_of d a1 (0 : Int32) σ _ _ h2) okX4_of wl_X4_36 kc_7 (q := (RX4, TX4, 12)) rfl rfl rfl rfl (Nat.le_of_ble_eq_true rfl) dX4_isInYard_3 rfl ?_
  refine ky_iconst (v := (-1 : Int32)) (n := 7) dX4_isInYard_6 rfl rfl ?_
  refine ky_icmp_ne (n := 10) (tgt := 14) dX4_isInYard_7 rfl rfl (fun c4 => ?_) (fun c4 => ?_)
  · have hf := ky_neg c4 hf
    refine ky_iconst (v := (0 : Int32)) (n := 15) dX4_isInYard_14 rfl rfl ?_
    cases hf
    exact ky_zreturn dX4_isInYard_15 rfl (Or.inl rfl)
  · have hf := ky_pos c4 hf
    refine ky_iconst (v := (1 : Int32)) (n := 11) dX4_isInYard_10 rfl rfl ?_
    refine ky_goto (tgt := 15) dX4_isInYard_11 rfl ?_
    cases hf
    exact ky_zreturn dX4_isInYard_15 rfl (Or.inr rfl)
def fX4_isWhole_L4 : Nat → Int32 → Int32 → Int32 → ky_St → Option (Int32 × ky_St)
  | 0, _, _, _, _ => none
  | fu + 1, x1, x2, x3, σ =>
  if (4 : Int32) ≤ x3 then (
  ky_g (x2 = 0 ∨ x2 = 1) (some (x2, σ))) else (
  if x2 = 0 then (
  ky_bn (x3 + (1 : Int32)) fun v3 =>
  fX4_isWhole_L4 fu x1 (0 : Int32) v3 σ) else (
  ky_bd (fX4_of x1 ((2 : Int32) + x3) σ) fun v6 s4 =>
  ky_bd (fX4_wholeOf x3 s4) fun v9 s7 =>
  if v6 = v9 then (
  ky_bn (x3 + (1 : Int32)) fun v12 =>
  fX4_isWhole_L4 fu x1 (1 : Int32) v12 s7) else (
  ky_bn (x3 + (1 : Int32)) fun v11 =>
  fX4_isWhole_L4 fu x1 (0 : Int32) v11 s7)))
set_option maxHeartbeats 4000000 in
set_option maxRecDepth 100000 in
theorem tX4_isWhole_L4 {G : ky_G} (d : Nat) : ∀ (fu : Nat) (x1 : Int32) (x2 : Int32) (x3 : Int32) (σ : ky_St) (r : Int32) (σ' : ky_St), fX4_isWhole_L4 fu x1 x2 x3 σ = some (r, σ') → ky_T G mX4_isWhole (d + 1) 0 0 4 [(0, ky_r G 7), (1, .int x1), (2, .int x2), (3, .int x3)] [] σ (.inr (some (.int r))) σ' := by
  intro fu
  induction fu with
  | zero =>
    intro x1 x2 x3 σ r σ' hf
    rw [fX4_isWhole_L4] at hf
    cases hf
  | succ fu ih =>
    intro x1 x2 x3 σ r σ' hf
    rw [fX4_isWhole_L4] at hf
    refine ky_iload_n (n := 5) dX4_isWhole_4 rfl rfl 3 rfl ?_
    refine ky_iconst (v := (4 : Int32)) (n := 6) dX4_isWhole_5 rfl rfl ?_
    refine ky_icmp_ge (n := 9) (tgt := 40) dX4_isWhole_6 rfl rfl (fun c1 => ?_) (fun c1 => ?_)
    · have hf := ky_pos c1 hf
      refine ky_iload_n (n := 41) dX4_isWhole_40 rfl rfl 2 rfl ?_
      obtain ⟨gz, hf⟩ := ky_ge hf
      cases hf
      exact ky_zreturn dX4_isWhole_41 rfl gz
    · have hf := ky_neg c1 hf
      refine ky_iload_n (n := 10) dX4_isWhole_9 rfl rfl 2 rfl ?_
      refine ky_if_eq (n := 13) (tgt := 32) dX4_isWhole_10 rfl rfl (fun c2 => ?_) (fun c2 => ?_)
      · have hf := ky_pos c2 hf
        refine ky_iconst (v := (0 : Int32)) (n := 33) dX4_isWhole_32 rfl rfl ?_
        refine ky_istore_n (lv' := [(2, .int (0 : Int32)), (0, ky_r G 7), (1, .int x1), (3, .int x3)]) (n := 34) dX4_isWhole_33 rfl rfl (Nat.le_of_ble_eq_true rfl) rfl ?_
        refine ky_iincB (c := (1 : Int32)) (n := 37) dX4_isWhole_34 rfl 3 rfl rfl (Nat.le_of_ble_eq_true rfl) (fun v3 ev3 => ?_)
        have hf := ky_bn_e hf v3 ev3
        refine ky_lv (lv' := [(3, .int v3), (2, .int (0 : Int32)), (0, ky_r G 7), (1, .int x1)]) rfl ?_
        refine ky_goto (tgt := 4) dX4_isWhole_37 rfl ?_
        refine ky_sub [2, 3, 1, 0] (lv' := [(0, ky_r G 7), (1, .int x1), (2, .int (0 : Int32)), (3, .int v3)]) rfl ?_
        exact ih x1 (0 : Int32) v3 σ _ _ hf
      · have hf := ky_neg c2 hf
        refine ky_aload_n (n := 14) dX4_isWhole_13 rfl rfl 0 rfl ?_
        refine ky_iload_n (n := 15) dX4_isWhole_14 rfl rfl 1 rfl ?_
        refine ky_iconst (v := (2 : Int32)) (n := 16) dX4_isWhole_15 rfl rfl ?_
        refine ky_iload_n (n := 17) dX4_isWhole_16 rfl rfl 3 rfl ?_
        refine ky_iadd (n := 18) dX4_isWhole_17 rfl ?_
        obtain ⟨v6, s4, h5, hf⟩ := ky_bd_e hf
        refine ky_callV (kc := 0) (ks := 0) (kc2 := 0) (ks2 := 0) (k0 := 7) (as := [.int x1, .int ((2 : Int32) + x3)]) (st := []) (KX4_of d x1 ((2 : Int32) + x3) σ _ _ h5) okX4_of wl_X4_36 kc_7 (q := (RX4, TX4, 12)) rfl rfl rfl rfl (Nat.le_of_ble_eq_true rfl) dX4_isWhole_18 rfl ?_
        refine ky_iload_n (n := 22) dX4_isWhole_21 rfl rfl 3 rfl ?_
        obtain ⟨v9, s7, h8, hf⟩ := ky_bd_e hf
        refine ky_callS (kc := 0) (ks := 0) (kc2 := 0) (ks2 := 0) (as := [.int x3]) (st := [.int v6]) (KX4_wholeOf d x3 s4 _ _ h8) okX4_wholeOf wl_X4_40 rfl rfl (Nat.le_of_ble_eq_true rfl) dX4_isWhole_22 rfl ?_
        refine ky_icmp_ne (n := 28) (tgt := 32) dX4_isWhole_25 rfl rfl (fun c10 => ?_) (fun c10 => ?_)
        · have hf := ky_neg c10 hf
          refine ky_iconst (v := (0 : Int32)) (n := 33) dX4_isWhole_32 rfl rfl ?_
          refine ky_istore_n (lv' := [(2, .int (0 : Int32)), (0, ky_r G 7), (1, .int x1), (3, .int x3)]) (n := 34) dX4_isWhole_33 rfl rfl (Nat.le_of_ble_eq_true rfl) rfl ?_
          refine ky_iincB (c := (1 : Int32)) (n := 37) dX4_isWhole_34 rfl 3 rfl rfl (Nat.le_of_ble_eq_true rfl) (fun v11 ev11 => ?_)
          have hf := ky_bn_e hf v11 ev11
          refine ky_lv (lv' := [(3, .int v11), (2, .int (0 : Int32)), (0, ky_r G 7), (1, .int x1)]) rfl ?_
          refine ky_goto (tgt := 4) dX4_isWhole_37 rfl ?_
          refine ky_sub [2, 3, 1, 0] (lv' := [(0, ky_r G 7), (1, .int x1), (2, .int (0 : Int32)), (3, .int v11)]) rfl ?_
          exact ih x1 (0 : Int32) v11 s7 _ _ hf
        · have hf := ky_pos c10 hf
          refine ky_iconst (v := (1 : Int32)) (n := 29) dX4_isWhole_28 rfl rfl ?_
          refine ky_goto (tgt := 33) dX4_isWhole_29 rfl ?_
          refine ky_istore_n (lv' := [(2, .int (1 : Int32)), (0, ky_r G 7), (1, .int x1), (3, .int x3)]) (n := 34) dX4_isWhole_33 rfl rfl (Nat.le_of_ble_eq_true rfl) rfl ?_
          refine ky_iincB (c := (1 : Int32)) (n := 37) dX4_isWhole_34 rfl 3 rfl rfl (Nat.le_of_ble_eq_true rfl) (fun v12 ev12 => ?_)
          have hf := ky_bn_e hf v12 ev12
          refine ky_lv (lv' := [(3, .int v12), (2, .int (1 : Int32)), (0, ky_r G 7), (1, .int x1)]) rfl ?_
          refine ky_goto (tgt := 4) dX4_isWhole_37 rfl ?_
          refine ky_sub [2, 3, 1, 0] (lv' := [(0, ky_r G 7), (1, .int x1), (2, .int (1 : Int32)), (3, .int v12)]) rfl ?_
          exact ih x1 (1 : Int32) v12 s7 _ _ hf
def fX4_isWhole (a1 : Int32) (σ : ky_St) : Option (Int32 × ky_St) :=
  fX4_isWhole_L4 FU a1 (1 : Int32) (0 : Int32) σ
set_option maxHeartbeats 4000000 in
set_option maxRecDepth 100000 in
theorem KX4_isWhole {G : ky_G} (d : Nat) (a1 : Int32) (σ : ky_St) (r : Int32) (σ' : ky_St) (hf : fX4_isWhole a1 σ = some (r, σ')) : ky_K G mX4_isWhole (d + 1) 0 0 [ky_r G 7, .int a1] σ (.inr (some (.int r))) σ' := by
  unfold fX4_isWhole at hf
  refine ky_enter rfl (by decide +kernel) (Nat.le_of_ble_eq_true rfl) (lv := [(0, ky_r G 7), (1, .int a1)]) rfl ?_
  refine ky_iconst (v := (1 : Int32)) (n := 1) dX4_isWhole_0 rfl rfl ?_
  refine ky_istore_n (lv' := [(2, .int (1 : Int32)), (0, ky_r G 7), (1, .int a1)]) (n := 2) dX4_isWhole_1 rfl rfl (Nat.le_of_ble_eq_true rfl) rfl ?_
  refine ky_iconst (v := (0 : Int32)) (n := 3) dX4_isWhole_2 rfl rfl ?_
  refine ky_istore_n (lv' := [(3, .int (0 : Int32)), (2, .int (1 : Int32)), (0, ky_r G 7), (1, .int a1)]) (n := 4) dX4_isWhole_3 rfl rfl (Nat.le_of_ble_eq_true rfl) rfl ?_
  refine ky_sub [2, 3, 1, 0] (lv' := [(0, ky_r G 7), (1, .int a1), (2, .int (1 : Int32)), (3, .int (0 : Int32))]) rfl ?_
  exact tX4_isWhole_L4 d FU a1 (1 : Int32) (0 : Int32) σ _ _ hf
def fX4_partsOf_L4 : Nat → Int32 → Int32 → Int32 → ky_St → Option (Int32 × ky_St)
  | 0, _, _, _, _ => none
  | fu + 1, x1, x2, x3, σ =>
  if (4 : Int32) ≤ x3 then (
  some (x2, σ)) else (
  ky_bd (fX4_of x1 ((2 : Int32) + x3) σ) fun v4 s2 =>
  ky_bn (x2 + v4) fun v5 =>
  ky_bn (x3 + (1 : Int32)) fun v6 =>
  fX4_partsOf_L4 fu x1 v5 v6 s2)
set_option maxHeartbeats 4000000 in
set_option maxRecDepth 100000 in
theorem tX4_partsOf_L4 {G : ky_G} (d : Nat) : ∀ (fu : Nat) (x1 : Int32) (x2 : Int32) (x3 : Int32) (σ : ky_St) (r : Int32) (σ' : ky_St), fX4_partsOf_L4 fu x1 x2 x3 σ = some (r, σ') → ky_T G mX4_partsOf (d + 1) 0 0 4 [(0, ky_r G 7), (1, .int x1), (2, .int x2), (3, .int x3)] [] σ (.inr (some (.int r))) σ' := by
  intro fu
  induction fu with
  | zero =>
    intro x1 x2 x3 σ r σ' hf
    rw [fX4_partsOf_L4] at hf
    cases hf
  | succ fu ih =>
    intro x1 x2 x3 σ r σ' hf
    rw [fX4_partsOf_L4] at hf
    refine ky_iload_n (n := 5) dX4_partsOf_4 rfl rfl 3 rfl ?_
    refine ky_iconst (v := (4 : Int32)) (n := 6) dX4_partsOf_5 rfl rfl ?_
    refine ky_icmp_ge (n := 9) (tgt := 26) dX4_partsOf_6 rfl rfl (fun c1 => ?_) (fun c1 => ?_)
    · have hf := ky_pos c1 hf
      refine ky_iload_n (n := 27) dX4_partsOf_26 rfl rfl 2 rfl ?_
      cases hf
      exact ky_ireturn dX4_partsOf_27 rfl
    · have hf := ky_neg c1 hf
      refine ky_iload_n (n := 10) dX4_partsOf_9 rfl rfl 2 rfl ?_
      refine ky_aload_n (n := 11) dX4_partsOf_10 rfl rfl 0 rfl ?_
      refine ky_iload_n (n := 12) dX4_partsOf_11 rfl rfl 1 rfl ?_
      refine ky_iconst (v := (2 : Int32)) (n := 13) dX4_partsOf_12 rfl rfl ?_
      refine ky_iload_n (n := 14) dX4_partsOf_13 rfl rfl 3 rfl ?_
      refine ky_iadd (n := 15) dX4_partsOf_14 rfl ?_
      obtain ⟨v4, s2, h3, hf⟩ := ky_bd_e hf
      refine ky_callV (kc := 0) (ks := 0) (kc2 := 0) (ks2 := 0) (k0 := 7) (as := [.int x1, .int ((2 : Int32) + x3)]) (st := [.int x2]) (KX4_of d x1 ((2 : Int32) + x3) σ _ _ h3) okX4_of wl_X4_36 kc_7 (q := (RX4, TX4, 12)) rfl rfl rfl rfl (Nat.le_of_ble_eq_true rfl) dX4_partsOf_15 rfl ?_
      refine ky_iadd (n := 19) dX4_partsOf_18 rfl ?_
      refine ky_topi (fun v5 ev5 => ?_)
      have hf := ky_bn_e hf v5 ev5
      refine ky_istore_n (lv' := [(2, .int v5), (0, ky_r G 7), (1, .int x1), (3, .int x3)]) (n := 20) dX4_partsOf_19 rfl rfl (Nat.le_of_ble_eq_true rfl) rfl ?_
      refine ky_iincB (c := (1 : Int32)) (n := 23) dX4_partsOf_20 rfl 3 rfl rfl (Nat.le_of_ble_eq_true rfl) (fun v6 ev6 => ?_)
      have hf := ky_bn_e hf v6 ev6
      refine ky_lv (lv' := [(3, .int v6), (2, .int v5), (0, ky_r G 7), (1, .int x1)]) rfl ?_
      refine ky_goto (tgt := 4) dX4_partsOf_23 rfl ?_
      refine ky_sub [2, 3, 1, 0] (lv' := [(0, ky_r G 7), (1, .int x1), (2, .int v5), (3, .int v6)]) rfl ?_
      exact ih x1 v5 v6 s2 _ _ hf
def fX4_partsOf (a1 : Int32) (σ : ky_St) : Option (Int32 × ky_St) :=
  fX4_partsOf_L4 FU a1 (0 : Int32) (0 : Int32) σ
set_option maxHeartbeats 4000000 in
set_option maxRecDepth 100000 in
theorem KX4_partsOf {G : ky_G} (d : Nat) (a1 : Int32) (σ : ky_St) (r : Int32) (σ' : ky_St) (hf : fX4_partsOf a1 σ = some (r, σ')) : ky_K G mX4_partsOf (d + 1) 0 0 [ky_r G 7, .int a1] σ (.inr (some (.int r))) σ' := by
  unfold fX4_partsOf at hf
  refine ky_enter rfl (by decide +kernel) (Nat.le_of_ble_eq_true rfl) (lv := [(0, ky_r G 7), (1, .int a1)]) rfl ?_
  refine ky_iconst (v := (0 : Int32)) (n := 1) dX4_partsOf_0 rfl rfl ?_
  refine ky_istore_n (lv' := [(2, .int (0 : Int32)), (0, ky_r G 7), (1, .int a1)]) (n := 2) dX4_partsOf_1 rfl rfl (Nat.le_of_ble_eq_true rfl) rfl ?_
  refine ky_iconst (v := (0 : Int32)) (n := 3) dX4_partsOf_2 rfl rfl ?_
  refine ky_istore_n (lv' := [(3, .int (0 : Int32)), (2, .int (0 : Int32)), (0, ky_r G 7), (1, .int a1)]) (n := 4) dX4_partsOf_3 rfl rfl (Nat.le_of_ble_eq_true rfl) rfl ?_
  refine ky_sub [2, 3, 1, 0] (lv' := [(0, ky_r G 7), (1, .int a1), (2, .int (0 : Int32)), (3, .int (0 : Int32))]) rfl ?_
  exact tX4_partsOf_L4 d FU a1 (0 : Int32) (0 : Int32) σ _ _ hf
def fX4_inYard_L4 : Nat → Int32 → Int32 → Int32 → ky_St → Option (Int32 × ky_St)
  | 0, _, _, _, _ => none
  | fu + 1, x1, x2, x3, σ =>
  ky_g (¬ ((3 : Int32) < 0 ∨ 283 ≤ (3 : Int32).toNatClampNeg)) (
  if (σ.1 8 (3 : Int32).toNatClampNeg) ≤ x3 then (
  some (x2, σ)) else (
  ky_bd (fX4_isInYard x3 σ) fun v5 s3 =>
  if v5 = 0 then (
  ky_bn (x2 + (0 : Int32)) fun v7 =>
  ky_bn (x3 + (1 : Int32)) fun v8 =>
  fX4_inYard_L4 fu x1 v7 v8 s3) else (
  if x1 = 0 then (
  ky_bn (x2 + (1 : Int32)) fun v10 =>
  ky_bn (x3 + (1 : Int32)) fun v11 =>
  fX4_inYard_L4 fu x1 v10 v11 s3) else (
  ky_bd (fX4_isWhole x3 s3) fun v14 s12 =>
  if v14 = 0 then (
  ky_bn (x2 + (0 : Int32)) fun v16 =>
  ky_bn (x3 + (1 : Int32)) fun v17 =>
  fX4_inYard_L4 fu x1 v16 v17 s12) else (
  ky_bn (x2 + (1 : Int32)) fun v18 =>
  ky_bn (x3 + (1 : Int32)) fun v19 =>
  fX4_inYard_L4 fu x1 v18 v19 s12)))))
set_option maxHeartbeats 4000000 in
set_option maxRecDepth 100000 in
theorem tX4_inYard_L4 {G : ky_G} (d : Nat) : ∀ (fu : Nat) (x1 : Int32) (x2 : Int32) (x3 : Int32) (σ : ky_St) (r : Int32) (σ' : ky_St), fX4_inYard_L4 fu x1 x2 x3 σ = some (r, σ') → ky_T G mX4_inYard (d + 2) 0 0 4 [(0, ky_r G 7), (1, .int x1), (2, .int x2), (3, .int x3)] [] σ (.inr (some (.int r))) σ' := by
  intro fu
  induction fu with
  | zero =>
    intro x1 x2 x3 σ r σ' hf
    rw [fX4_inYard_L4] at hf
    cases hf
  | succ fu ih =>
    intro x1 x2 x3 σ r σ' hf
    rw [fX4_inYard_L4] at hf
    refine ky_iload_n (n := 5) dX4_inYard_4 rfl rfl 3 rfl ?_
    refine ky_aload_n (n := 6) dX4_inYard_5 rfl rfl 0 rfl ?_
    refine ky_getf (q := (RX4, TX4, 12)) (v := ky_r G 8) (n := 9) dX4_inYard_6 rfl kc_7 rfl (Nat.le_of_ble_eq_true rfl) wg_X4_7 (vf_7_0 _ _) ?_
    refine ky_iconst (v := (3 : Int32)) (n := 10) dX4_inYard_9 rfl rfl ?_
    obtain ⟨g1, hf⟩ := ky_ge hf
    refine ky_iald (n := 11) dX4_inYard_10 rfl kl_8 g1 ?_
    refine ky_icmp_ge (n := 14) (tgt := 48) dX4_inYard_11 rfl rfl (fun c2 => ?_) (fun c2 => ?_)
    · have hf := ky_pos c2 hf
      refine ky_iload_n (n := 49) dX4_inYard_48 rfl rfl 2 rfl ?_
      cases hf
      exact ky_ireturn dX4_inYard_49 rfl
    · have hf := ky_neg c2 hf
      refine ky_iload_n (n := 15) dX4_inYard_14 rfl rfl 2 rfl ?_
      refine ky_aload_n (n := 16) dX4_inYard_15 rfl rfl 0 rfl ?_
      refine ky_iload_n (n := 17) dX4_inYard_16 rfl rfl 3 rfl ?_
      obtain ⟨v5, s3, h4, hf⟩ := ky_bd_e hf
      refine ky_callV (kc := 0) (ks := 0) (kc2 := 0) (ks2 := 0) (k0 := 7) (as := [.int x3]) (st := [.int x2]) (KX4_isInYard d x3 σ _ _ h4) okX4_isInYard wl_X4_44 kc_7 (q := (RX4, TX4, 12)) rfl rfl rfl rfl (Nat.le_of_ble_eq_true rfl) dX4_inYard_17 rfl ?_
      refine ky_if_eq (n := 23) (tgt := 39) dX4_inYard_20 rfl rfl (fun c6 => ?_) (fun c6 => ?_)
      · have hf := ky_pos c6 hf
        refine ky_iconst (v := (0 : Int32)) (n := 40) dX4_inYard_39 rfl rfl ?_
        refine ky_iadd (n := 41) dX4_inYard_40 rfl ?_
        refine ky_topi (fun v7 ev7 => ?_)
        have hf := ky_bn_e hf v7 ev7
        refine ky_istore_n (lv' := [(2, .int v7), (0, ky_r G 7), (1, .int x1), (3, .int x3)]) (n := 42) dX4_inYard_41 rfl rfl (Nat.le_of_ble_eq_true rfl) rfl ?_
        refine ky_iincB (c := (1 : Int32)) (n := 45) dX4_inYard_42 rfl 3 rfl rfl (Nat.le_of_ble_eq_true rfl) (fun v8 ev8 => ?_)
        have hf := ky_bn_e hf v8 ev8
        refine ky_lv (lv' := [(3, .int v8), (2, .int v7), (0, ky_r G 7), (1, .int x1)]) rfl ?_
        refine ky_goto (tgt := 4) dX4_inYard_45 rfl ?_
        refine ky_sub [2, 3, 1, 0] (lv' := [(0, ky_r G 7), (1, .int x1), (2, .int v7), (3, .int v8)]) rfl ?_
        exact ih x1 v7 v8 s3 _ _ hf
      · have hf := ky_neg c6 hf
        refine ky_iload_n (n := 24) dX4_inYard_23 rfl rfl 1 rfl ?_
        refine ky_if_eq (n := 27) (tgt := 35) dX4_inYard_24 rfl rfl (fun c9 => ?_) (fun c9 => ?_)
        · have hf := ky_pos c9 hf
          refine ky_iconst (v := (1 : Int32)) (n := 36) dX4_inYard_35 rfl rfl ?_
          refine ky_goto (tgt := 40) dX4_inYard_36 rfl ?_
          refine ky_iadd (n := 41) dX4_inYard_40 rfl ?_
          refine ky_topi (fun v10 ev10 => ?_)
          have hf := ky_bn_e hf v10 ev10
          refine ky_istore_n (lv' := [(2, .int v10), (0, ky_r G 7), (1, .int x1), (3, .int x3)]) (n := 42) dX4_inYard_41 rfl rfl (Nat.le_of_ble_eq_true rfl) rfl ?_
          refine ky_iincB (c := (1 : Int32)) (n := 45) dX4_inYard_42 rfl 3 rfl rfl (Nat.le_of_ble_eq_true rfl) (fun v11 ev11 => ?_)
          have hf := ky_bn_e hf v11 ev11
          refine ky_lv (lv' := [(3, .int v11), (2, .int v10), (0, ky_r G 7), (1, .int x1)]) rfl ?_
          refine ky_goto (tgt := 4) dX4_inYard_45 rfl ?_
          refine ky_sub [2, 3, 1, 0] (lv' := [(0, ky_r G 7), (1, .int x1), (2, .int v10), (3, .int v11)]) rfl ?_
          exact ih x1 v10 v11 s3 _ _ hf
        · have hf := ky_neg c9 hf
          refine ky_aload_n (n := 28) dX4_inYard_27 rfl rfl 0 rfl ?_
          refine ky_iload_n (n := 29) dX4_inYard_28 rfl rfl 3 rfl ?_
          obtain ⟨v14, s12, h13, hf⟩ := ky_bd_e hf
          refine ky_callV (kc := 0) (ks := 0) (kc2 := 0) (ks2 := 0) (k0 := 7) (as := [.int x3]) (st := [.int x2]) (KX4_isWhole d x3 s3 _ _ h13) okX4_isWhole wl_X4_48 kc_7 (q := (RX4, TX4, 12)) rfl rfl rfl rfl (Nat.le_of_ble_eq_true rfl) dX4_inYard_29 rfl ?_
          refine ky_if_eq (n := 35) (tgt := 39) dX4_inYard_32 rfl rfl (fun c15 => ?_) (fun c15 => ?_)
          · have hf := ky_pos c15 hf
            refine ky_iconst (v := (0 : Int32)) (n := 40) dX4_inYard_39 rfl rfl ?_
            refine ky_iadd (n := 41) dX4_inYard_40 rfl ?_
            refine ky_topi (fun v16 ev16 => ?_)
            have hf := ky_bn_e hf v16 ev16
            refine ky_istore_n (lv' := [(2, .int v16), (0, ky_r G 7), (1, .int x1), (3, .int x3)]) (n := 42) dX4_inYard_41 rfl rfl (Nat.le_of_ble_eq_true rfl) rfl ?_
            refine ky_iincB (c := (1 : Int32)) (n := 45) dX4_inYard_42 rfl 3 rfl rfl (Nat.le_of_ble_eq_true rfl) (fun v17 ev17 => ?_)
            have hf := ky_bn_e hf v17 ev17
            refine ky_lv (lv' := [(3, .int v17), (2, .int v16), (0, ky_r G 7), (1, .int x1)]) rfl ?_
            refine ky_goto (tgt := 4) dX4_inYard_45 rfl ?_
            refine ky_sub [2, 3, 1, 0] (lv' := [(0, ky_r G 7), (1, .int x1), (2, .int v16), (3, .int v17)]) rfl ?_
            exact ih x1 v16 v17 s12 _ _ hf
          · have hf := ky_neg c15 hf
            refine ky_iconst (v := (1 : Int32)) (n := 36) dX4_inYard_35 rfl rfl ?_
            refine ky_goto (tgt := 40) dX4_inYard_36 rfl ?_
            refine ky_iadd (n := 41) dX4_inYard_40 rfl ?_
            refine ky_topi (fun v18 ev18 => ?_)
            have hf := ky_bn_e hf v18 ev18
            refine ky_istore_n (lv' := [(2, .int v18), (0, ky_r G 7), (1, .int x1), (3, .int x3)]) (n := 42) dX4_inYard_41 rfl rfl (Nat.le_of_ble_eq_true rfl) rfl ?_
            refine ky_iincB (c := (1 : Int32)) (n := 45) dX4_inYard_42 rfl 3 rfl rfl (Nat.le_of_ble_eq_true rfl) (fun v19 ev19 => ?_)
            have hf := ky_bn_e hf v19 ev19
            refine ky_lv (lv' := [(3, .int v19), (2, .int v18), (0, ky_r G 7), (1, .int x1)]) rfl ?_
            refine ky_goto (tgt := 4) dX4_inYard_45 rfl ?_
            refine ky_sub [2, 3, 1, 0] (lv' := [(0, ky_r G 7), (1, .int x1), (2, .int v18), (3, .int v19)]) rfl ?_
            exact ih x1 v18 v19 s12 _ _ hf
def fX4_inYard (a1 : Int32) (σ : ky_St) : Option (Int32 × ky_St) :=
  fX4_inYard_L4 FU a1 (0 : Int32) (0 : Int32) σ
set_option maxHeartbeats 4000000 in
set_option maxRecDepth 100000 in
theorem KX4_inYard {G : ky_G} (d : Nat) (a1 : Int32) (σ : ky_St) (r : Int32) (σ' : ky_St) (hf : fX4_inYard a1 σ = some (r, σ')) : ky_K G mX4_inYard (d + 2) 0 0 [ky_r G 7, .int a1] σ (.inr (some (.int r))) σ' := by
  unfold fX4_inYard at hf
  refine ky_enter rfl (by decide +kernel) (Nat.le_of_ble_eq_true rfl) (lv := [(0, ky_r G 7), (1, .int a1)]) rfl ?_
  refine ky_iconst (v := (0 : Int32)) (n := 1) dX4_inYard_0 rfl rfl ?_
  refine ky_istore_n (lv' := [(2, .int (0 : Int32)), (0, ky_r G 7), (1, .int a1)]) (n := 2) dX4_inYard_1 rfl rfl (Nat.le_of_ble_eq_true rfl) rfl ?_
  refine ky_iconst (v := (0 : Int32)) (n := 3) dX4_inYard_2 rfl rfl ?_
  refine ky_istore_n (lv' := [(3, .int (0 : Int32)), (2, .int (0 : Int32)), (0, ky_r G 7), (1, .int a1)]) (n := 4) dX4_inYard_3 rfl rfl (Nat.le_of_ble_eq_true rfl) rfl ?_
  refine ky_sub [2, 3, 1, 0] (lv' := [(0, ky_r G 7), (1, .int a1), (2, .int (0 : Int32)), (3, .int (0 : Int32))]) rfl ?_
  exact tX4_inYard_L4 d FU a1 (0 : Int32) (0 : Int32) σ _ _ hf
def fX4_areSets (a1 : Int32) (σ : ky_St) : Option (Int32 × ky_St) :=
  ky_bd (fX4_within a1 (1 : Int32) (24 : Int32) σ) fun v3 s1 =>
  ky_g (v3 = 0 ∨ v3 = 1) (some (v3, s1))
set_option maxHeartbeats 4000000 in
set_option maxRecDepth 100000 in
theorem KX4_areSets {G : ky_G} (d : Nat) (a1 : Int32) (σ : ky_St) (r : Int32) (σ' : ky_St) (hf : fX4_areSets a1 σ = some (r, σ')) : ky_K G mX4_areSets (d + 1) 0 0 [.int a1] σ (.inr (some (.int r))) σ' := by
  unfold fX4_areSets at hf
  refine ky_enter rfl (by decide +kernel) (Nat.le_of_ble_eq_true rfl) (lv := [(0, .int a1)]) rfl ?_
  refine ky_iload_n (n := 1) dX4_areSets_0 rfl rfl 0 rfl ?_
  refine ky_iconst (v := (1 : Int32)) (n := 2) dX4_areSets_1 rfl rfl ?_
  refine ky_bipush (v := (24 : Int32)) (n := 4) dX4_areSets_2 rfl rfl ?_
  obtain ⟨v3, s1, h2, hf⟩ := ky_bd_e hf
  refine ky_callS (kc := 0) (ks := 0) (kc2 := 0) (ks2 := 0) (as := [.int a1, .int (1 : Int32), .int (24 : Int32)]) (st := []) (KX4_within d a1 (1 : Int32) (24 : Int32) σ _ _ h2) okX4_within wl_X4_32 rfl rfl (Nat.le_of_ble_eq_true rfl) dX4_areSets_4 rfl ?_
  obtain ⟨gz, hf⟩ := ky_ge hf
  cases hf
  exact ky_zreturn dX4_areSets_7 rfl gz
def fX4_buySets_L163 (rec48 : Int32 → Int32 → ky_St → Option (Int32 × ky_St)) : Nat → Int32 → Int32 → Int32 → Int32 → ky_St → Option (Int32 × ky_St)
  | 0, _, _, _, _, _ => none
  | fu + 1, x1, x2, x3, x4, σ =>
  if (3 : Int32) ≤ x4 then (
  ky_bn (x2 + (1 : Int32)) fun v30 =>
  rec48 x1 v30 σ) else (
  ky_bd (fX4_put x3 ((6 : Int32) + x4) (-1 : Int32) σ) fun v33 s31 =>
  ky_bn (x4 + (1 : Int32)) fun v34 =>
  fX4_buySets_L163 rec48 fu x1 x2 x3 v34 s31)
set_option maxHeartbeats 4000000 in
set_option maxRecDepth 100000 in
theorem tX4_buySets_L163 {G : ky_G} {rec48 : Int32 → Int32 → ky_St → Option (Int32 × ky_St)} (d : Nat) (hrec48 : ∀ (x1 : Int32) (x2 : Int32) (σ : ky_St) (r : Int32) (σ' : ky_St), rec48 x1 x2 σ = some (r, σ') → ky_T G mX4_buySets (d + 2) 0 0 48 [(0, ky_r G 7), (1, .int x1), (2, .int x2)] [] σ (.inr (some (.int r))) σ') : ∀ (fu : Nat) (x1 : Int32) (x2 : Int32) (x3 : Int32) (x4 : Int32) (σ : ky_St) (r : Int32) (σ' : ky_St), fX4_buySets_L163 rec48 fu x1 x2 x3 x4 σ = some (r, σ') → ky_T G mX4_buySets (d + 2) 0 0 163 [(0, ky_r G 7), (1, .int x1), (2, .int x2), (3, .int x3), (4, .int x4)] [] σ (.inr (some (.int r))) σ' := by
  intro fu
  induction fu with
  | zero =>
    intro x1 x2 x3 x4 σ r σ' hf
    rw [fX4_buySets_L163] at hf
    cases hf
  | succ fu ih =>
    intro x1 x2 x3 x4 σ r σ' hf
    rw [fX4_buySets_L163] at hf
    refine ky_iload (n := 165) dX4_buySets_163 rfl 4 rfl ?_
    refine ky_iconst (v := (3 : Int32)) (n := 166) dX4_buySets_165 rfl rfl ?_
    refine ky_icmp_ge (n := 169) (tgt := 186) dX4_buySets_166 rfl rfl (fun c29 => ?_) (fun c29 => ?_)
    · have hf := ky_pos c29 hf
      refine ky_iincB (c := (1 : Int32)) (n := 189) dX4_buySets_186 rfl 2 rfl rfl (Nat.le_of_ble_eq_true rfl) (fun v30 ev30 => ?_)
      have hf := ky_bn_e hf v30 ev30
      refine ky_lv (lv' := [(2, .int v30), (0, ky_r G 7), (1, .int x1), (3, .int x3), (4, .int x4)]) rfl ?_
      refine ky_goto (tgt := 48) dX4_buySets_189 rfl ?_
      refine ky_sub [1, 2, 0] (lv' := [(0, ky_r G 7), (1, .int x1), (2, .int v30)]) rfl ?_
      exact hrec48 x1 v30 σ _ _ hf
    · have hf := ky_neg c29 hf
      refine ky_aload_n (n := 170) dX4_buySets_169 rfl rfl 0 rfl ?_
      refine ky_iload_n (n := 171) dX4_buySets_170 rfl rfl 3 rfl ?_
      refine ky_bipush (v := (6 : Int32)) (n := 173) dX4_buySets_171 rfl rfl ?_
      refine ky_iload (n := 175) dX4_buySets_173 rfl 4 rfl ?_
      refine ky_iadd (n := 176) dX4_buySets_175 rfl ?_
      refine ky_iconst (v := (-1 : Int32)) (n := 177) dX4_buySets_176 rfl rfl ?_
      obtain ⟨v33, s31, h32, hf⟩ := ky_bd_e hf
      refine ky_callV (kc := 0) (ks := 0) (kc2 := 0) (ks2 := 0) (k0 := 7) (as := [.int x3, .int ((6 : Int32) + x4), .int (-1 : Int32)]) (st := []) (KX4_put (d + 1) x3 ((6 : Int32) + x4) (-1 : Int32) σ _ _ h32) okX4_put wl_X4_57 kc_7 (q := (RX4, TX4, 12)) rfl rfl rfl rfl (Nat.le_of_ble_eq_true rfl) dX4_buySets_177 rfl ?_
      refine ky_iincB (c := (1 : Int32)) (n := 183) dX4_buySets_180 rfl 4 rfl rfl (Nat.le_of_ble_eq_true rfl) (fun v34 ev34 => ?_)
      have hf := ky_bn_e hf v34 ev34
      refine ky_lv (lv' := [(4, .int v34), (0, ky_r G 7), (1, .int x1), (2, .int x2), (3, .int x3)]) rfl ?_
      refine ky_goto (tgt := 163) dX4_buySets_183 rfl ?_
      refine ky_sub [1, 2, 3, 4, 0] (lv' := [(0, ky_r G 7), (1, .int x1), (2, .int x2), (3, .int x3), (4, .int v34)]) rfl ?_
      exact ih x1 x2 x3 v34 s31 _ _ hf
def fX4_buySets_L95 (rec48 : Int32 → Int32 → ky_St → Option (Int32 × ky_St)) : Nat → Int32 → Int32 → Int32 → Int32 → ky_St → Option (Int32 × ky_St)
  | 0, _, _, _, _, _ => none
  | fu + 1, x1, x2, x3, x4, σ =>
  if (4 : Int32) ≤ x4 then (
  fX4_buySets_L163 rec48 FU x1 x2 x3 (0 : Int32) σ) else (
  ky_bd (fX4_wholeOf x4 σ) fun v37 s35 =>
  ky_bd (fX4_put x3 ((2 : Int32) + x4) v37 s35) fun v40 s38 =>
  ky_g (¬ (((15 : Int32) + x4) < 0 ∨ 283 ≤ ((15 : Int32) + x4).toNatClampNeg)) (
  ky_bd (fX4_wholeOf x4 s38) fun v44 s42 =>
  ky_g (¬ (((15 : Int32) + x4) < 0 ∨ 283 ≤ ((15 : Int32) + x4).toNatClampNeg)) (
  ky_bn (ky_u1 s42 8 ((15 : Int32) + x4).toNatClampNeg ((s38.1 8 ((15 : Int32) + x4).toNatClampNeg) + v44)) fun s46 =>
  ky_g (¬ ((6 : Int32) < 0 ∨ 283 ≤ (6 : Int32).toNatClampNeg)) (
  ky_bd (fX4_wholeOf x4 s46) fun v50 s48 =>
  ky_bd (fX4_costOf x4 s48) fun v53 s51 =>
  ky_g (¬ ((6 : Int32) < 0 ∨ 283 ≤ (6 : Int32).toNatClampNeg)) (
  ky_bn (ky_u1 s51 8 (6 : Int32).toNatClampNeg ((s46.1 8 (6 : Int32).toNatClampNeg) + (v50 * v53))) fun s55 =>
  ky_bn (x4 + (1 : Int32)) fun v56 =>
  fX4_buySets_L95 rec48 fu x1 x2 x3 v56 s55)))))
set_option maxHeartbeats 4000000 in
set_option maxRecDepth 100000 in
theorem tX4_buySets_L95 {G : ky_G} {rec48 : Int32 → Int32 → ky_St → Option (Int32 × ky_St)} (d : Nat) (hrec48 : ∀ (x1 : Int32) (x2 : Int32) (σ : ky_St) (r : Int32) (σ' : ky_St), rec48 x1 x2 σ = some (r, σ') → ky_T G mX4_buySets (d + 2) 0 0 48 [(0, ky_r G 7), (1, .int x1), (2, .int x2)] [] σ (.inr (some (.int r))) σ') : ∀ (fu : Nat) (x1 : Int32) (x2 : Int32) (x3 : Int32) (x4 : Int32) (σ : ky_St) (r : Int32) (σ' : ky_St), fX4_buySets_L95 rec48 fu x1 x2 x3 x4 σ = some (r, σ') → ky_T G mX4_buySets (d + 2) 0 0 95 [(0, ky_r G 7), (1, .int x1), (2, .int x2), (3, .int x3), (4, .int x4)] [] σ (.inr (some (.int r))) σ' := by
  intro fu
  induction fu with
  | zero =>
    intro x1 x2 x3 x4 σ r σ' hf
    rw [fX4_buySets_L95] at hf
    cases hf
  | succ fu ih =>
    intro x1 x2 x3 x4 σ r σ' hf
    rw [fX4_buySets_L95] at hf
    refine ky_iload (n := 97) dX4_buySets_95 rfl 4 rfl ?_
    refine ky_iconst (v := (4 : Int32)) (n := 98) dX4_buySets_97 rfl rfl ?_
    refine ky_icmp_ge (n := 101) (tgt := 160) dX4_buySets_98 rfl rfl (fun c28 => ?_) (fun c28 => ?_)
    · have hf := ky_pos c28 hf
      refine ky_iconst (v := (0 : Int32)) (n := 161) dX4_buySets_160 rfl rfl ?_
      refine ky_istore (lv' := [(4, .int (0 : Int32)), (0, ky_r G 7), (1, .int x1), (2, .int x2), (3, .int x3)]) (n := 163) dX4_buySets_161 rfl (Nat.le_of_ble_eq_true rfl) rfl ?_
      refine ky_sub [1, 2, 3, 4, 0] (lv' := [(0, ky_r G 7), (1, .int x1), (2, .int x2), (3, .int x3), (4, .int (0 : Int32))]) rfl ?_
      exact tX4_buySets_L163 d hrec48 FU x1 x2 x3 (0 : Int32) σ _ _ hf
    · have hf := ky_neg c28 hf
      refine ky_aload_n (n := 102) dX4_buySets_101 rfl rfl 0 rfl ?_
      refine ky_iload_n (n := 103) dX4_buySets_102 rfl rfl 3 rfl ?_
      refine ky_iconst (v := (2 : Int32)) (n := 104) dX4_buySets_103 rfl rfl ?_
      refine ky_iload (n := 106) dX4_buySets_104 rfl 4 rfl ?_
      refine ky_iadd (n := 107) dX4_buySets_106 rfl ?_
      refine ky_iload (n := 109) dX4_buySets_107 rfl 4 rfl ?_
      obtain ⟨v37, s35, h36, hf⟩ := ky_bd_e hf
      refine ky_callS (kc := 0) (ks := 0) (kc2 := 0) (ks2 := 0) (as := [.int x4]) (st := [.int ((2 : Int32) + x4), .int x3, ky_r G 7]) (KX4_wholeOf (d + 1) x4 σ _ _ h36) okX4_wholeOf wl_X4_40 rfl rfl (Nat.le_of_ble_eq_true rfl) dX4_buySets_109 rfl ?_
      obtain ⟨v40, s38, h39, hf⟩ := ky_bd_e hf
      refine ky_callV (kc := 0) (ks := 0) (kc2 := 0) (ks2 := 0) (k0 := 7) (as := [.int x3, .int ((2 : Int32) + x4), .int v37]) (st := []) (KX4_put (d + 1) x3 ((2 : Int32) + x4) v37 s35 _ _ h39) okX4_put wl_X4_57 kc_7 (q := (RX4, TX4, 12)) rfl rfl rfl rfl (Nat.le_of_ble_eq_true rfl) dX4_buySets_112 rfl ?_
      refine ky_aload_n (n := 116) dX4_buySets_115 rfl rfl 0 rfl ?_
      refine ky_getf (q := (RX4, TX4, 12)) (v := ky_r G 8) (n := 119) dX4_buySets_116 rfl kc_7 rfl (Nat.le_of_ble_eq_true rfl) wg_X4_7 (vf_7_0 _ _) ?_
      refine ky_bipush (v := (15 : Int32)) (n := 121) dX4_buySets_119 rfl rfl ?_
      refine ky_iload (n := 123) dX4_buySets_121 rfl 4 rfl ?_
      refine ky_iadd (n := 124) dX4_buySets_123 rfl ?_
      refine ky_dup2 (n := 125) dX4_buySets_124 rfl rfl rfl ?_
      obtain ⟨g41, hf⟩ := ky_ge hf
      refine ky_iald (n := 126) dX4_buySets_125 rfl kl_8 g41 ?_
      refine ky_iload (n := 128) dX4_buySets_126 rfl 4 rfl ?_
      obtain ⟨v44, s42, h43, hf⟩ := ky_bd_e hf
      refine ky_callS (kc := 0) (ks := 0) (kc2 := 0) (ks2 := 0) (as := [.int x4]) (st := [.int (s38.1 8 ((15 : Int32) + x4).toNatClampNeg), .int ((15 : Int32) + x4), ky_r G 8]) (KX4_wholeOf (d + 1) x4 s38 _ _ h43) okX4_wholeOf wl_X4_40 rfl rfl (Nat.le_of_ble_eq_true rfl) dX4_buySets_128 rfl ?_
      refine ky_iadd (n := 132) dX4_buySets_131 rfl ?_
      obtain ⟨g45, hf⟩ := ky_ge hf
      refine ky_iast (n := 133) dX4_buySets_132 rfl kl_8 rfl g45 (fun s46 es46 => ?_)
      have hf := ky_bn_e hf s46 es46
      refine ky_aload_n (n := 134) dX4_buySets_133 rfl rfl 0 rfl ?_
      refine ky_getf (q := (RX4, TX4, 12)) (v := ky_r G 8) (n := 137) dX4_buySets_134 rfl kc_7 rfl (Nat.le_of_ble_eq_true rfl) wg_X4_7 (vf_7_0 _ _) ?_
      refine ky_bipush (v := (6 : Int32)) (n := 139) dX4_buySets_137 rfl rfl ?_
      refine ky_dup2 (n := 140) dX4_buySets_139 rfl rfl rfl ?_
      obtain ⟨g47, hf⟩ := ky_ge hf
      refine ky_iald (n := 141) dX4_buySets_140 rfl kl_8 g47 ?_
      refine ky_iload (n := 143) dX4_buySets_141 rfl 4 rfl ?_
      obtain ⟨v50, s48, h49, hf⟩ := ky_bd_e hf
      refine ky_callS (kc := 0) (ks := 0) (kc2 := 0) (ks2 := 0) (as := [.int x4]) (st := [.int (s46.1 8 (6 : Int32).toNatClampNeg), .int (6 : Int32), ky_r G 8]) (KX4_wholeOf (d + 1) x4 s46 _ _ h49) okX4_wholeOf wl_X4_40 rfl rfl (Nat.le_of_ble_eq_true rfl) dX4_buySets_143 rfl ?_
      refine ky_iload (n := 148) dX4_buySets_146 rfl 4 rfl ?_
      obtain ⟨v53, s51, h52, hf⟩ := ky_bd_e hf
      refine ky_callS (kc := 0) (ks := 0) (kc2 := 0) (ks2 := 0) (as := [.int x4]) (st := [.int v50, .int (s46.1 8 (6 : Int32).toNatClampNeg), .int (6 : Int32), ky_r G 8]) (KX4_costOf (d + 1) x4 s48 _ _ h52) okX4_costOf wl_X4_61 rfl rfl (Nat.le_of_ble_eq_true rfl) dX4_buySets_148 rfl ?_
      refine ky_imul (n := 152) dX4_buySets_151 rfl ?_
      refine ky_iadd (n := 153) dX4_buySets_152 rfl ?_
      obtain ⟨g54, hf⟩ := ky_ge hf
      refine ky_iast (n := 154) dX4_buySets_153 rfl kl_8 rfl g54 (fun s55 es55 => ?_)
      have hf := ky_bn_e hf s55 es55
      refine ky_iincB (c := (1 : Int32)) (n := 157) dX4_buySets_154 rfl 4 rfl rfl (Nat.le_of_ble_eq_true rfl) (fun v56 ev56 => ?_)
      have hf := ky_bn_e hf v56 ev56
      refine ky_lv (lv' := [(4, .int v56), (0, ky_r G 7), (1, .int x1), (2, .int x2), (3, .int x3)]) rfl ?_
      refine ky_goto (tgt := 95) dX4_buySets_157 rfl ?_
      refine ky_sub [1, 2, 3, 4, 0] (lv' := [(0, ky_r G 7), (1, .int x1), (2, .int x2), (3, .int x3), (4, .int v56)]) rfl ?_
      exact ih x1 x2 x3 v56 s55 _ _ hf
def fX4_buySets_L48 : Nat → Int32 → Int32 → ky_St → Option (Int32 × ky_St)
  | 0, _, _, _ => none
  | fu + 1, x1, x2, σ =>
  if x1 ≤ x2 then (
  ky_g (¬ ((3 : Int32) < 0 ∨ 283 ≤ (3 : Int32).toNatClampNeg)) (
  some ((σ.1 8 (3 : Int32).toNatClampNeg), σ))) else (
  ky_g (¬ ((3 : Int32) < 0 ∨ 283 ≤ (3 : Int32).toNatClampNeg)) (
  ky_bn (σ.1 8 (3 : Int32).toNatClampNeg) fun v15 =>
  ky_g (¬ ((3 : Int32) < 0 ∨ 283 ≤ (3 : Int32).toNatClampNeg)) (
  ky_g (¬ ((3 : Int32) < 0 ∨ 283 ≤ (3 : Int32).toNatClampNeg)) (
  ky_bn (ky_u1 σ 8 (3 : Int32).toNatClampNeg ((σ.1 8 (3 : Int32).toNatClampNeg) + (1 : Int32))) fun s18 =>
  ky_bd (fX4_put v15 (0 : Int32) (-1 : Int32) s18) fun v21 s19 =>
  ky_bd (fX4_put v15 (1 : Int32) (0 : Int32) s19) fun v24 s22 =>
  ky_bd (fX4_put v15 (9 : Int32) (0 : Int32) s22) fun v27 s25 =>
  fX4_buySets_L95 (fX4_buySets_L48 fu) FU x1 x2 v15 (0 : Int32) s25))))
set_option maxHeartbeats 4000000 in
set_option maxRecDepth 100000 in
theorem tX4_buySets_L48 {G : ky_G} (d : Nat) : ∀ (fu : Nat) (x1 : Int32) (x2 : Int32) (σ : ky_St) (r : Int32) (σ' : ky_St), fX4_buySets_L48 fu x1 x2 σ = some (r, σ') → ky_T G mX4_buySets (d + 2) 0 0 48 [(0, ky_r G 7), (1, .int x1), (2, .int x2)] [] σ (.inr (some (.int r))) σ' := by
  intro fu
  induction fu with
  | zero =>
    intro x1 x2 σ r σ' hf
    rw [fX4_buySets_L48] at hf
    cases hf
  | succ fu ih =>
    intro x1 x2 σ r σ' hf
    rw [fX4_buySets_L48] at hf
    refine ky_iload_n (n := 49) dX4_buySets_48 rfl rfl 2 rfl ?_
    refine ky_iload_n (n := 50) dX4_buySets_49 rfl rfl 1 rfl ?_
    refine ky_icmp_ge (n := 53) (tgt := 192) dX4_buySets_50 rfl rfl (fun c12 => ?_) (fun c12 => ?_)
    · have hf := ky_pos c12 hf
      refine ky_aload_n (n := 193) dX4_buySets_192 rfl rfl 0 rfl ?_
      refine ky_getf (q := (RX4, TX4, 12)) (v := ky_r G 8) (n := 196) dX4_buySets_193 rfl kc_7 rfl (Nat.le_of_ble_eq_true rfl) wg_X4_7 (vf_7_0 _ _) ?_
      refine ky_iconst (v := (3 : Int32)) (n := 197) dX4_buySets_196 rfl rfl ?_
      obtain ⟨g13, hf⟩ := ky_ge hf
      refine ky_iald (n := 198) dX4_buySets_197 rfl kl_8 g13 ?_
      cases hf
      exact ky_ireturn dX4_buySets_198 rfl
    · have hf := ky_neg c12 hf
      refine ky_aload_n (n := 54) dX4_buySets_53 rfl rfl 0 rfl ?_
      refine ky_getf (q := (RX4, TX4, 12)) (v := ky_r G 8) (n := 57) dX4_buySets_54 rfl kc_7 rfl (Nat.le_of_ble_eq_true rfl) wg_X4_7 (vf_7_0 _ _) ?_
      refine ky_iconst (v := (3 : Int32)) (n := 58) dX4_buySets_57 rfl rfl ?_
      obtain ⟨g14, hf⟩ := ky_ge hf
      refine ky_iald (n := 59) dX4_buySets_58 rfl kl_8 g14 ?_
      refine ky_topi (fun v15 ev15 => ?_)
      have hf := ky_bn_e hf v15 ev15
      refine ky_istore_n (lv' := [(3, .int v15), (0, ky_r G 7), (1, .int x1), (2, .int x2)]) (n := 60) dX4_buySets_59 rfl rfl (Nat.le_of_ble_eq_true rfl) rfl ?_
      refine ky_aload_n (n := 61) dX4_buySets_60 rfl rfl 1 rfl ?_
      refine ky_getf (q := (RX4, TX4, 12)) (v := ky_r G 8) (n := 64) dX4_buySets_61 rfl kc_7 rfl (Nat.le_of_ble_eq_true rfl) wg_X4_7 (vf_7_0 _ _) ?_
      refine ky_iconst (v := (3 : Int32)) (n := 65) dX4_buySets_64 rfl rfl ?_
      refine ky_dup2 (n := 66) dX4_buySets_65 rfl rfl rfl ?_
      obtain ⟨g16, hf⟩ := ky_ge hf
      refine ky_iald (n := 67) dX4_buySets_66 rfl kl_8 g16 ?_
      refine ky_iconst (v := (1 : Int32)) (n := 68) dX4_buySets_67 rfl rfl ?_
      refine ky_iadd (n := 69) dX4_buySets_68 rfl ?_
      obtain ⟨g17, hf⟩ := ky_ge hf
      refine ky_iast (n := 70) dX4_buySets_69 rfl kl_8 rfl g17 (fun s18 es18 => ?_)
      have hf := ky_bn_e hf s18 es18
      refine ky_aload_n (n := 71) dX4_buySets_70 rfl rfl 1 rfl ?_
      refine ky_iload_n (n := 72) dX4_buySets_71 rfl rfl 0 rfl ?_
      refine ky_iconst (v := (0 : Int32)) (n := 73) dX4_buySets_72 rfl rfl ?_
      refine ky_iconst (v := (-1 : Int32)) (n := 74) dX4_buySets_73 rfl rfl ?_
      obtain ⟨v21, s19, h20, hf⟩ := ky_bd_e hf
      refine ky_callV (kc := 0) (ks := 0) (kc2 := 0) (ks2 := 0) (k0 := 7) (as := [.int v15, .int (0 : Int32), .int (-1 : Int32)]) (st := []) (KX4_put (d + 1) v15 (0 : Int32) (-1 : Int32) s18 _ _ h20) okX4_put wl_X4_57 kc_7 (q := (RX4, TX4, 12)) rfl rfl rfl rfl (Nat.le_of_ble_eq_true rfl) dX4_buySets_74 rfl ?_
      refine ky_aload_n (n := 78) dX4_buySets_77 rfl rfl 1 rfl ?_
      refine ky_iload_n (n := 79) dX4_buySets_78 rfl rfl 0 rfl ?_
      refine ky_iconst (v := (1 : Int32)) (n := 80) dX4_buySets_79 rfl rfl ?_
      refine ky_iconst (v := (0 : Int32)) (n := 81) dX4_buySets_80 rfl rfl ?_
      obtain ⟨v24, s22, h23, hf⟩ := ky_bd_e hf
      refine ky_callV (kc := 0) (ks := 0) (kc2 := 0) (ks2 := 0) (k0 := 7) (as := [.int v15, .int (1 : Int32), .int (0 : Int32)]) (st := []) (KX4_put (d + 1) v15 (1 : Int32) (0 : Int32) s19 _ _ h23) okX4_put wl_X4_57 kc_7 (q := (RX4, TX4, 12)) rfl rfl rfl rfl (Nat.le_of_ble_eq_true rfl) dX4_buySets_81 rfl ?_
      refine ky_aload_n (n := 85) dX4_buySets_84 rfl rfl 1 rfl ?_
      refine ky_iload_n (n := 86) dX4_buySets_85 rfl rfl 0 rfl ?_
      refine ky_bipush (v := (9 : Int32)) (n := 88) dX4_buySets_86 rfl rfl ?_
      refine ky_iconst (v := (0 : Int32)) (n := 89) dX4_buySets_88 rfl rfl ?_
      obtain ⟨v27, s25, h26, hf⟩ := ky_bd_e hf
      refine ky_callV (kc := 0) (ks := 0) (kc2 := 0) (ks2 := 0) (k0 := 7) (as := [.int v15, .int (9 : Int32), .int (0 : Int32)]) (st := []) (KX4_put (d + 1) v15 (9 : Int32) (0 : Int32) s22 _ _ h26) okX4_put wl_X4_57 kc_7 (q := (RX4, TX4, 12)) rfl rfl rfl rfl (Nat.le_of_ble_eq_true rfl) dX4_buySets_89 rfl ?_
      refine ky_iconst (v := (0 : Int32)) (n := 93) dX4_buySets_92 rfl rfl ?_
      refine ky_istore (lv' := [(4, .int (0 : Int32)), (3, .int v15), (0, ky_r G 7), (1, .int x1), (2, .int x2)]) (n := 95) dX4_buySets_93 rfl (Nat.le_of_ble_eq_true rfl) rfl ?_
      refine ky_sub [2, 3, 4, 1, 0] (lv' := [(0, ky_r G 7), (1, .int x1), (2, .int x2), (3, .int v15), (4, .int (0 : Int32))]) rfl ?_
      exact tX4_buySets_L95 d ih FU x1 x2 v15 (0 : Int32) s25 _ _ hf
def fX4_buySets (a1 : Int32) (σ : ky_St) : Option (Int32 × ky_St) :=
  ky_bd (fX4_areSets a1 σ) fun v3 s1 =>
  if v3 = 0 then (
  ky_bn (ky_u1 s1 7 5 (1 : Int32)) fun s62 =>
  if (s62.1 7 5) ≤ 0 then (
  ky_bd (fX4_save s62) fun v66 s64 =>
  fX4_buySets_L48 FU a1 (0 : Int32) s64) else (
  some ((0 : Int32), s62))) else (
  ky_g (¬ ((3 : Int32) < 0 ∨ 283 ≤ (3 : Int32).toNatClampNeg)) (
  if ((s1.1 8 (3 : Int32).toNatClampNeg) + a1) ≤ (24 : Int32) then (
  ky_bn (ky_u1 s1 7 5 (0 : Int32)) fun s7 =>
  if (s7.1 7 5) ≤ 0 then (
  ky_bd (fX4_save s7) fun v11 s9 =>
  fX4_buySets_L48 FU a1 (0 : Int32) s9) else (
  some ((0 : Int32), s7))) else (
  ky_bn (ky_u1 s1 7 5 (2 : Int32)) fun s57 =>
  if (s57.1 7 5) ≤ 0 then (
  ky_bd (fX4_save s57) fun v61 s59 =>
  fX4_buySets_L48 FU a1 (0 : Int32) s59) else (
  some ((0 : Int32), s57)))))
set_option maxHeartbeats 4000000 in
set_option maxRecDepth 100000 in
theorem KX4_buySets {G : ky_G} (d : Nat) (a1 : Int32) (σ : ky_St) (r : Int32) (σ' : ky_St) (hf : fX4_buySets a1 σ = some (r, σ')) : ky_K G mX4_buySets (d + 2) 0 0 [ky_r G 7, .int a1] σ (.inr (some (.int r))) σ' := by
  unfold fX4_buySets at hf
  refine ky_enter rfl (by decide +kernel) (Nat.le_of_ble_eq_true rfl) (lv := [(0, ky_r G 7), (1, .int a1)]) rfl ?_
  refine ky_aload_n (n := 1) dX4_buySets_0 rfl rfl 0 rfl ?_
  refine ky_iload_n (n := 2) dX4_buySets_1 rfl rfl 1 rfl ?_
  obtain ⟨v3, s1, h2, hf⟩ := ky_bd_e hf
  refine ky_callS (kc := 0) (ks := 0) (kc2 := 0) (ks2 := 0) (as := [.int a1]) (st := [ky_r G 7]) (KX4_areSets d a1 σ _ _ h2) okX4_areSets wl_X4_51 rfl rfl (Nat.le_of_ble_eq_true rfl) dX4_buySets_2 rfl ?_
  refine ky_if_ne (n := 8) (tgt := 12) dX4_buySets_5 rfl rfl (fun c4 => ?_) (fun c4 => ?_)
  · have hf := ky_neg c4 hf
    refine ky_aload_n (n := 13) dX4_buySets_12 rfl rfl 0 rfl ?_
    refine ky_getf (q := (RX4, TX4, 12)) (v := ky_r G 8) (n := 16) dX4_buySets_13 rfl kc_7 rfl (Nat.le_of_ble_eq_true rfl) wg_X4_7 (vf_7_0 _ _) ?_
    refine ky_iconst (v := (3 : Int32)) (n := 17) dX4_buySets_16 rfl rfl ?_
    obtain ⟨g5, hf⟩ := ky_ge hf
    refine ky_iald (n := 18) dX4_buySets_17 rfl kl_8 g5 ?_
    refine ky_iload_n (n := 19) dX4_buySets_18 rfl rfl 1 rfl ?_
    refine ky_iadd (n := 20) dX4_buySets_19 rfl ?_
    refine ky_bipush (v := (24 : Int32)) (n := 22) dX4_buySets_20 rfl rfl ?_
    refine ky_icmp_le (n := 25) (tgt := 29) dX4_buySets_22 rfl rfl (fun c6 => ?_) (fun c6 => ?_)
    · have hf := ky_pos c6 hf
      refine ky_iconst (v := (0 : Int32)) (n := 30) dX4_buySets_29 rfl rfl ?_
      refine ky_putf (q := (RX4, TX4, 12)) (n := 33) dX4_buySets_30 rfl kc_7 rfl (Nat.le_of_ble_eq_true rfl) wg_X4_25 rfl (by decide +kernel) rfl (fun s7 es7 => ?_)
      have hf := ky_bn_e hf s7 es7
      refine ky_aload_n (n := 34) dX4_buySets_33 rfl rfl 0 rfl ?_
      refine ky_getf (q := (RX4, TX4, 12)) (v := .int (s7.1 7 5)) (n := 37) dX4_buySets_34 rfl kc_7 rfl (Nat.le_of_ble_eq_true rfl) wg_X4_25 (vf_7_5 _ _) ?_
      refine ky_if_le (n := 40) (tgt := 42) dX4_buySets_37 rfl rfl (fun c8 => ?_) (fun c8 => ?_)
      · have hf := ky_pos c8 hf
        refine ky_aload_n (n := 43) dX4_buySets_42 rfl rfl 0 rfl ?_
        obtain ⟨v11, s9, h10, hf⟩ := ky_bd_e hf
        refine ky_callV (kc := 0) (ks := 0) (kc2 := 0) (ks2 := 0) (k0 := 7) (as := []) (st := []) (KX4_save (d + 1) s7 _ _ h10) okX4_save wl_X4_54 kc_7 (q := (RX4, TX4, 12)) rfl rfl rfl rfl (Nat.le_of_ble_eq_true rfl) dX4_buySets_43 rfl ?_
        refine ky_iconst (v := (0 : Int32)) (n := 47) dX4_buySets_46 rfl rfl ?_
        refine ky_istore_n (lv' := [(2, .int (0 : Int32)), (0, ky_r G 7), (1, .int a1)]) (n := 48) dX4_buySets_47 rfl rfl (Nat.le_of_ble_eq_true rfl) rfl ?_
        refine ky_sub [1, 2, 0] (lv' := [(0, ky_r G 7), (1, .int a1), (2, .int (0 : Int32))]) rfl ?_
        exact tX4_buySets_L48 d FU a1 (0 : Int32) s9 _ _ hf
      · have hf := ky_neg c8 hf
        refine ky_iconst (v := (0 : Int32)) (n := 41) dX4_buySets_40 rfl rfl ?_
        cases hf
        exact ky_ireturn dX4_buySets_41 rfl
    · have hf := ky_neg c6 hf
      refine ky_iconst (v := (2 : Int32)) (n := 26) dX4_buySets_25 rfl rfl ?_
      refine ky_goto (tgt := 30) dX4_buySets_26 rfl ?_
      refine ky_putf (q := (RX4, TX4, 12)) (n := 33) dX4_buySets_30 rfl kc_7 rfl (Nat.le_of_ble_eq_true rfl) wg_X4_25 rfl (by decide +kernel) rfl (fun s57 es57 => ?_)
      have hf := ky_bn_e hf s57 es57
      refine ky_aload_n (n := 34) dX4_buySets_33 rfl rfl 0 rfl ?_
      refine ky_getf (q := (RX4, TX4, 12)) (v := .int (s57.1 7 5)) (n := 37) dX4_buySets_34 rfl kc_7 rfl (Nat.le_of_ble_eq_true rfl) wg_X4_25 (vf_7_5 _ _) ?_
      refine ky_if_le (n := 40) (tgt := 42) dX4_buySets_37 rfl rfl (fun c58 => ?_) (fun c58 => ?_)
      · have hf := ky_pos c58 hf
        refine ky_aload_n (n := 43) dX4_buySets_42 rfl rfl 0 rfl ?_
        obtain ⟨v61, s59, h60, hf⟩ := ky_bd_e hf
        refine ky_callV (kc := 0) (ks := 0) (kc2 := 0) (ks2 := 0) (k0 := 7) (as := []) (st := []) (KX4_save (d + 1) s57 _ _ h60) okX4_save wl_X4_54 kc_7 (q := (RX4, TX4, 12)) rfl rfl rfl rfl (Nat.le_of_ble_eq_true rfl) dX4_buySets_43 rfl ?_
        refine ky_iconst (v := (0 : Int32)) (n := 47) dX4_buySets_46 rfl rfl ?_
        refine ky_istore_n (lv' := [(2, .int (0 : Int32)), (0, ky_r G 7), (1, .int a1)]) (n := 48) dX4_buySets_47 rfl rfl (Nat.le_of_ble_eq_true rfl) rfl ?_
        refine ky_sub [1, 2, 0] (lv' := [(0, ky_r G 7), (1, .int a1), (2, .int (0 : Int32))]) rfl ?_
        exact tX4_buySets_L48 d FU a1 (0 : Int32) s59 _ _ hf
      · have hf := ky_neg c58 hf
        refine ky_iconst (v := (0 : Int32)) (n := 41) dX4_buySets_40 rfl rfl ?_
        cases hf
        exact ky_ireturn dX4_buySets_41 rfl
  · have hf := ky_pos c4 hf
    refine ky_iconst (v := (1 : Int32)) (n := 9) dX4_buySets_8 rfl rfl ?_
    refine ky_goto (tgt := 30) dX4_buySets_9 rfl ?_
    refine ky_putf (q := (RX4, TX4, 12)) (n := 33) dX4_buySets_30 rfl kc_7 rfl (Nat.le_of_ble_eq_true rfl) wg_X4_25 rfl (by decide +kernel) rfl (fun s62 es62 => ?_)
    have hf := ky_bn_e hf s62 es62
    refine ky_aload_n (n := 34) dX4_buySets_33 rfl rfl 0 rfl ?_
    refine ky_getf (q := (RX4, TX4, 12)) (v := .int (s62.1 7 5)) (n := 37) dX4_buySets_34 rfl kc_7 rfl (Nat.le_of_ble_eq_true rfl) wg_X4_25 (vf_7_5 _ _) ?_
    refine ky_if_le (n := 40) (tgt := 42) dX4_buySets_37 rfl rfl (fun c63 => ?_) (fun c63 => ?_)
    · have hf := ky_pos c63 hf
      refine ky_aload_n (n := 43) dX4_buySets_42 rfl rfl 0 rfl ?_
      obtain ⟨v66, s64, h65, hf⟩ := ky_bd_e hf
      refine ky_callV (kc := 0) (ks := 0) (kc2 := 0) (ks2 := 0) (k0 := 7) (as := []) (st := []) (KX4_save (d + 1) s62 _ _ h65) okX4_save wl_X4_54 kc_7 (q := (RX4, TX4, 12)) rfl rfl rfl rfl (Nat.le_of_ble_eq_true rfl) dX4_buySets_43 rfl ?_
      refine ky_iconst (v := (0 : Int32)) (n := 47) dX4_buySets_46 rfl rfl ?_
      refine ky_istore_n (lv' := [(2, .int (0 : Int32)), (0, ky_r G 7), (1, .int a1)]) (n := 48) dX4_buySets_47 rfl rfl (Nat.le_of_ble_eq_true rfl) rfl ?_
      refine ky_sub [1, 2, 0] (lv' := [(0, ky_r G 7), (1, .int a1), (2, .int (0 : Int32))]) rfl ?_
      exact tX4_buySets_L48 d FU a1 (0 : Int32) s64 _ _ hf
    · have hf := ky_neg c63 hf
      refine ky_iconst (v := (0 : Int32)) (n := 41) dX4_buySets_40 rfl rfl ?_
      cases hf
      exact ky_ireturn dX4_buySets_41 rfl
def fX4_buySpare_L49 (x1 : Int32) (x2 : Int32) (y1 : Int32) (σ : ky_St) : Option (Int32 × ky_St) :=
  ky_bn (ky_u1 σ 7 5 y1) fun s11 =>
  if (s11.1 7 5) ≤ 0 then (
  ky_bd (fX4_save s11) fun v15 s13 =>
  ky_g (¬ (((7 : Int32) + x1) < 0 ∨ 283 ≤ ((7 : Int32) + x1).toNatClampNeg)) (
  ky_g (¬ (((7 : Int32) + x1) < 0 ∨ 283 ≤ ((7 : Int32) + x1).toNatClampNeg)) (
  ky_bn (ky_u1 s13 8 ((7 : Int32) + x1).toNatClampNeg ((s13.1 8 ((7 : Int32) + x1).toNatClampNeg) + x2)) fun s18 =>
  ky_g (¬ (((15 : Int32) + x1) < 0 ∨ 283 ≤ ((15 : Int32) + x1).toNatClampNeg)) (
  ky_g (¬ (((15 : Int32) + x1) < 0 ∨ 283 ≤ ((15 : Int32) + x1).toNatClampNeg)) (
  ky_bn (ky_u1 s18 8 ((15 : Int32) + x1).toNatClampNeg ((s18.1 8 ((15 : Int32) + x1).toNatClampNeg) + x2)) fun s21 =>
  ky_g (¬ ((6 : Int32) < 0 ∨ 283 ≤ (6 : Int32).toNatClampNeg)) (
  ky_bd (fX4_costOf x1 s21) fun v25 s23 =>
  ky_g (¬ ((6 : Int32) < 0 ∨ 283 ≤ (6 : Int32).toNatClampNeg)) (
  ky_bn (ky_u1 s23 8 (6 : Int32).toNatClampNeg ((s21.1 8 (6 : Int32).toNatClampNeg) + (x2 * v25))) fun s27 =>
  ky_g (¬ (((7 : Int32) + x1) < 0 ∨ 283 ≤ ((7 : Int32) + x1).toNatClampNeg)) (
  some ((s27.1 8 ((7 : Int32) + x1).toNatClampNeg), s27))))))))) else (
  some ((0 : Int32), s11))
set_option maxHeartbeats 4000000 in
set_option maxRecDepth 100000 in
theorem tX4_buySpare_L49 {G : ky_G} (d : Nat) : ∀ (x1 : Int32) (x2 : Int32) (y1 : Int32) (σ : ky_St) (r : Int32) (σ' : ky_St), fX4_buySpare_L49 x1 x2 y1 σ = some (r, σ') → ky_T G mX4_buySpare (d + 2) 0 0 49 [(0, ky_r G 7), (1, .int x1), (2, .int x2)] [.int y1, ky_r G 7] σ (.inr (some (.int r))) σ' := by
  intro x1 x2 y1 σ r σ' hf
  unfold fX4_buySpare_L49 at hf
  refine ky_putf (q := (RX4, TX4, 12)) (n := 52) dX4_buySpare_49 rfl kc_7 rfl (Nat.le_of_ble_eq_true rfl) wg_X4_25 rfl (by decide +kernel) rfl (fun s11 es11 => ?_)
  have hf := ky_bn_e hf s11 es11
  refine ky_aload_n (n := 53) dX4_buySpare_52 rfl rfl 0 rfl ?_
  refine ky_getf (q := (RX4, TX4, 12)) (v := .int (s11.1 7 5)) (n := 56) dX4_buySpare_53 rfl kc_7 rfl (Nat.le_of_ble_eq_true rfl) wg_X4_25 (vf_7_5 _ _) ?_
  refine ky_if_le (n := 59) (tgt := 61) dX4_buySpare_56 rfl rfl (fun c12 => ?_) (fun c12 => ?_)
  · have hf := ky_pos c12 hf
    refine ky_aload_n (n := 62) dX4_buySpare_61 rfl rfl 0 rfl ?_
    obtain ⟨v15, s13, h14, hf⟩ := ky_bd_e hf
    refine ky_callV (kc := 0) (ks := 0) (kc2 := 0) (ks2 := 0) (k0 := 7) (as := []) (st := []) (KX4_save (d + 1) s11 _ _ h14) okX4_save wl_X4_54 kc_7 (q := (RX4, TX4, 12)) rfl rfl rfl rfl (Nat.le_of_ble_eq_true rfl) dX4_buySpare_62 rfl ?_
    refine ky_aload_n (n := 66) dX4_buySpare_65 rfl rfl 0 rfl ?_
    refine ky_getf (q := (RX4, TX4, 12)) (v := ky_r G 8) (n := 69) dX4_buySpare_66 rfl kc_7 rfl (Nat.le_of_ble_eq_true rfl) wg_X4_7 (vf_7_0 _ _) ?_
    refine ky_bipush (v := (7 : Int32)) (n := 71) dX4_buySpare_69 rfl rfl ?_
    refine ky_iload_n (n := 72) dX4_buySpare_71 rfl rfl 1 rfl ?_
    refine ky_iadd (n := 73) dX4_buySpare_72 rfl ?_
    refine ky_dup2 (n := 74) dX4_buySpare_73 rfl rfl rfl ?_
    obtain ⟨g16, hf⟩ := ky_ge hf
    refine ky_iald (n := 75) dX4_buySpare_74 rfl kl_8 g16 ?_
    refine ky_iload_n (n := 76) dX4_buySpare_75 rfl rfl 2 rfl ?_
    refine ky_iadd (n := 77) dX4_buySpare_76 rfl ?_
    obtain ⟨g17, hf⟩ := ky_ge hf
    refine ky_iast (n := 78) dX4_buySpare_77 rfl kl_8 rfl g17 (fun s18 es18 => ?_)
    have hf := ky_bn_e hf s18 es18
    refine ky_aload_n (n := 79) dX4_buySpare_78 rfl rfl 0 rfl ?_
    refine ky_getf (q := (RX4, TX4, 12)) (v := ky_r G 8) (n := 82) dX4_buySpare_79 rfl kc_7 rfl (Nat.le_of_ble_eq_true rfl) wg_X4_7 (vf_7_0 _ _) ?_
    refine ky_bipush (v := (15 : Int32)) (n := 84) dX4_buySpare_82 rfl rfl ?_
    refine ky_iload_n (n := 85) dX4_buySpare_84 rfl rfl 1 rfl ?_
    refine ky_iadd (n := 86) dX4_buySpare_85 rfl ?_
    refine ky_dup2 (n := 87) dX4_buySpare_86 rfl rfl rfl ?_
    obtain ⟨g19, hf⟩ := ky_ge hf
    refine ky_iald (n := 88) dX4_buySpare_87 rfl kl_8 g19 ?_
    refine ky_iload_n (n := 89) dX4_buySpare_88 rfl rfl 2 rfl ?_
    refine ky_iadd (n := 90) dX4_buySpare_89 rfl ?_
    obtain ⟨g20, hf⟩ := ky_ge hf
    refine ky_iast (n := 91) dX4_buySpare_90 rfl kl_8 rfl g20 (fun s21 es21 => ?_)
    have hf := ky_bn_e hf s21 es21
    refine ky_aload_n (n := 92) dX4_buySpare_91 rfl rfl 0 rfl ?_
    refine ky_getf (q := (RX4, TX4, 12)) (v := ky_r G 8) (n := 95) dX4_buySpare_92 rfl kc_7 rfl (Nat.le_of_ble_eq_true rfl) wg_X4_7 (vf_7_0 _ _) ?_
    refine ky_bipush (v := (6 : Int32)) (n := 97) dX4_buySpare_95 rfl rfl ?_
    refine ky_dup2 (n := 98) dX4_buySpare_97 rfl rfl rfl ?_
    obtain ⟨g22, hf⟩ := ky_ge hf
    refine ky_iald (n := 99) dX4_buySpare_98 rfl kl_8 g22 ?_
    refine ky_iload_n (n := 100) dX4_buySpare_99 rfl rfl 2 rfl ?_
    refine ky_iload_n (n := 101) dX4_buySpare_100 rfl rfl 1 rfl ?_
    obtain ⟨v25, s23, h24, hf⟩ := ky_bd_e hf
    refine ky_callS (kc := 0) (ks := 0) (kc2 := 0) (ks2 := 0) (as := [.int x1]) (st := [.int x2, .int (s21.1 8 (6 : Int32).toNatClampNeg), .int (6 : Int32), ky_r G 8]) (KX4_costOf (d + 1) x1 s21 _ _ h24) okX4_costOf wl_X4_61 rfl rfl (Nat.le_of_ble_eq_true rfl) dX4_buySpare_101 rfl ?_
    refine ky_imul (n := 105) dX4_buySpare_104 rfl ?_
    refine ky_iadd (n := 106) dX4_buySpare_105 rfl ?_
    obtain ⟨g26, hf⟩ := ky_ge hf
    refine ky_iast (n := 107) dX4_buySpare_106 rfl kl_8 rfl g26 (fun s27 es27 => ?_)
    have hf := ky_bn_e hf s27 es27
    refine ky_aload_n (n := 108) dX4_buySpare_107 rfl rfl 0 rfl ?_
    refine ky_getf (q := (RX4, TX4, 12)) (v := ky_r G 8) (n := 111) dX4_buySpare_108 rfl kc_7 rfl (Nat.le_of_ble_eq_true rfl) wg_X4_7 (vf_7_0 _ _) ?_
    refine ky_bipush (v := (7 : Int32)) (n := 113) dX4_buySpare_111 rfl rfl ?_
    refine ky_iload_n (n := 114) dX4_buySpare_113 rfl rfl 1 rfl ?_
    refine ky_iadd (n := 115) dX4_buySpare_114 rfl ?_
    obtain ⟨g28, hf⟩ := ky_ge hf
    refine ky_iald (n := 116) dX4_buySpare_115 rfl kl_8 g28 ?_
    cases hf
    exact ky_ireturn dX4_buySpare_116 rfl
  · have hf := ky_neg c12 hf
    refine ky_iconst (v := (0 : Int32)) (n := 60) dX4_buySpare_59 rfl rfl ?_
    cases hf
    exact ky_ireturn dX4_buySpare_60 rfl
def fX4_buySpare (a1 : Int32) (a2 : Int32) (σ : ky_St) : Option (Int32 × ky_St) :=
  ky_bd (fX4_isKind a1 σ) fun v3 s1 =>
  if v3 = 0 then (
  fX4_buySpare_L49 a1 a2 (1 : Int32) s1) else (
  ky_bd (fX4_within a2 (1 : Int32) (200 : Int32) s1) fun v7 s5 =>
  if v7 = 0 then (
  fX4_buySpare_L49 a1 a2 (2 : Int32) s5) else (
  ky_g (¬ (((7 : Int32) + a1) < 0 ∨ 283 ≤ ((7 : Int32) + a1).toNatClampNeg)) (
  if ((s5.1 8 ((7 : Int32) + a1).toNatClampNeg) + a2) ≤ (999 : Int32) then (
  fX4_buySpare_L49 a1 a2 (0 : Int32) s5) else (
  fX4_buySpare_L49 a1 a2 (3 : Int32) s5))))
set_option maxHeartbeats 4000000 in
set_option maxRecDepth 100000 in
theorem KX4_buySpare {G : ky_G} (d : Nat) (a1 : Int32) (a2 : Int32) (σ : ky_St) (r : Int32) (σ' : ky_St) (hf : fX4_buySpare a1 a2 σ = some (r, σ')) : ky_K G mX4_buySpare (d + 2) 0 0 [ky_r G 7, .int a1, .int a2] σ (.inr (some (.int r))) σ' := by
  unfold fX4_buySpare at hf
  refine ky_enter rfl (by decide +kernel) (Nat.le_of_ble_eq_true rfl) (lv := [(0, ky_r G 7), (1, .int a1), (2, .int a2)]) rfl ?_
  refine ky_aload_n (n := 1) dX4_buySpare_0 rfl rfl 0 rfl ?_
  refine ky_iload_n (n := 2) dX4_buySpare_1 rfl rfl 1 rfl ?_
  obtain ⟨v3, s1, h2, hf⟩ := ky_bd_e hf
  refine ky_callS (kc := 0) (ks := 0) (kc2 := 0) (ks2 := 0) (as := [.int a1]) (st := [ky_r G 7]) (KX4_isKind d a1 σ _ _ h2) okX4_isKind wl_X4_64 rfl rfl (Nat.le_of_ble_eq_true rfl) dX4_buySpare_2 rfl ?_
  refine ky_if_ne (n := 8) (tgt := 12) dX4_buySpare_5 rfl rfl (fun c4 => ?_) (fun c4 => ?_)
  · have hf := ky_neg c4 hf
    refine ky_iload_n (n := 13) dX4_buySpare_12 rfl rfl 2 rfl ?_
    refine ky_iconst (v := (1 : Int32)) (n := 14) dX4_buySpare_13 rfl rfl ?_
    refine ky_sipush (v := (200 : Int32)) (n := 17) dX4_buySpare_14 rfl rfl ?_
    obtain ⟨v7, s5, h6, hf⟩ := ky_bd_e hf
    refine ky_callS (kc := 0) (ks := 0) (kc2 := 0) (ks2 := 0) (as := [.int a2, .int (1 : Int32), .int (200 : Int32)]) (st := [ky_r G 7]) (KX4_within (d + 1) a2 (1 : Int32) (200 : Int32) s1 _ _ h6) okX4_within wl_X4_32 rfl rfl (Nat.le_of_ble_eq_true rfl) dX4_buySpare_17 rfl ?_
    refine ky_if_ne (n := 23) (tgt := 27) dX4_buySpare_20 rfl rfl (fun c8 => ?_) (fun c8 => ?_)
    · have hf := ky_neg c8 hf
      refine ky_aload_n (n := 28) dX4_buySpare_27 rfl rfl 0 rfl ?_
      refine ky_getf (q := (RX4, TX4, 12)) (v := ky_r G 8) (n := 31) dX4_buySpare_28 rfl kc_7 rfl (Nat.le_of_ble_eq_true rfl) wg_X4_7 (vf_7_0 _ _) ?_
      refine ky_bipush (v := (7 : Int32)) (n := 33) dX4_buySpare_31 rfl rfl ?_
      refine ky_iload_n (n := 34) dX4_buySpare_33 rfl rfl 1 rfl ?_
      refine ky_iadd (n := 35) dX4_buySpare_34 rfl ?_
      obtain ⟨g9, hf⟩ := ky_ge hf
      refine ky_iald (n := 36) dX4_buySpare_35 rfl kl_8 g9 ?_
      refine ky_iload_n (n := 37) dX4_buySpare_36 rfl rfl 2 rfl ?_
      refine ky_iadd (n := 38) dX4_buySpare_37 rfl ?_
      refine ky_sipush (v := (999 : Int32)) (n := 41) dX4_buySpare_38 rfl rfl ?_
      refine ky_icmp_le (n := 44) (tgt := 48) dX4_buySpare_41 rfl rfl (fun c10 => ?_) (fun c10 => ?_)
      · have hf := ky_pos c10 hf
        refine ky_iconst (v := (0 : Int32)) (n := 49) dX4_buySpare_48 rfl rfl ?_
        refine ky_sub [0, 1, 2] (lv' := [(0, ky_r G 7), (1, .int a1), (2, .int a2)]) rfl ?_
        exact tX4_buySpare_L49 d a1 a2 (0 : Int32) s5 _ _ hf
      · have hf := ky_neg c10 hf
        refine ky_iconst (v := (3 : Int32)) (n := 45) dX4_buySpare_44 rfl rfl ?_
        refine ky_goto (tgt := 49) dX4_buySpare_45 rfl ?_
        refine ky_sub [0, 1, 2] (lv' := [(0, ky_r G 7), (1, .int a1), (2, .int a2)]) rfl ?_
        exact tX4_buySpare_L49 d a1 a2 (3 : Int32) s5 _ _ hf
    · have hf := ky_pos c8 hf
      refine ky_iconst (v := (2 : Int32)) (n := 24) dX4_buySpare_23 rfl rfl ?_
      refine ky_goto (tgt := 49) dX4_buySpare_24 rfl ?_
      refine ky_sub [0, 1, 2] (lv' := [(0, ky_r G 7), (1, .int a1), (2, .int a2)]) rfl ?_
      exact tX4_buySpare_L49 d a1 a2 (2 : Int32) s5 _ _ hf
  · have hf := ky_pos c4 hf
    refine ky_iconst (v := (1 : Int32)) (n := 9) dX4_buySpare_8 rfl rfl ?_
    refine ky_goto (tgt := 49) dX4_buySpare_9 rfl ?_
    refine ky_sub [0, 1, 2] (lv' := [(0, ky_r G 7), (1, .int a1), (2, .int a2)]) rfl ?_
    exact tX4_buySpare_L49 d a1 a2 (1 : Int32) s1 _ _ hf
def fX4_repair_L94 (rec46 : Int32 → Int32 → Int32 → ky_St → Option (Int32 × ky_St)) (x1 : Int32) (x2 : Int32) (x3 : Int32) (y0 : Int32) (σ : ky_St) : Option (Int32 × ky_St) :=
  ky_g (¬ (((7 : Int32) + x3) < 0 ∨ 283 ≤ ((7 : Int32) + x3).toNatClampNeg)) (
  ky_g (¬ (((7 : Int32) + x3) < 0 ∨ 283 ≤ ((7 : Int32) + x3).toNatClampNeg)) (
  ky_bn (ky_u1 σ 8 ((7 : Int32) + x3).toNatClampNeg ((σ.1 8 ((7 : Int32) + x3).toNatClampNeg) - y0)) fun s27 =>
  ky_bd (fX4_of x1 ((2 : Int32) + x3) s27) fun v30 s28 =>
  ky_bd (fX4_put x1 ((2 : Int32) + x3) (v30 + y0) s28) fun v33 s31 =>
  ky_bn (x2 + y0) fun v34 =>
  ky_bn (x3 + (1 : Int32)) fun v35 =>
  rec46 x1 v34 v35 s31))
set_option maxHeartbeats 4000000 in
set_option maxRecDepth 100000 in
theorem tX4_repair_L94 {G : ky_G} {rec46 : Int32 → Int32 → Int32 → ky_St → Option (Int32 × ky_St)} (d : Nat) (hrec46 : ∀ (x1 : Int32) (x2 : Int32) (x3 : Int32) (σ : ky_St) (r : Int32) (σ' : ky_St), rec46 x1 x2 x3 σ = some (r, σ') → ky_T G mX4_repair (d + 2) 0 0 46 [(0, ky_r G 7), (1, .int x1), (2, .int x2), (3, .int x3)] [] σ (.inr (some (.int r))) σ') : ∀ (x1 : Int32) (x2 : Int32) (x3 : Int32) (y0 : Int32) (σ : ky_St) (r : Int32) (σ' : ky_St), fX4_repair_L94 rec46 x1 x2 x3 y0 σ = some (r, σ') → ky_T G mX4_repair (d + 2) 0 0 94 [(0, ky_r G 7), (1, .int x1), (2, .int x2), (3, .int x3)] [.int y0] σ (.inr (some (.int r))) σ' := by
  intro x1 x2 x3 y0 σ r σ' hf
  unfold fX4_repair_L94 at hf
  refine ky_istore (lv' := [(5, .int y0), (0, ky_r G 7), (1, .int x1), (2, .int x2), (3, .int x3)]) (n := 96) dX4_repair_94 rfl (Nat.le_of_ble_eq_true rfl) rfl ?_
  refine ky_aload_n (n := 97) dX4_repair_96 rfl rfl 1 rfl ?_
  refine ky_getf (q := (RX4, TX4, 12)) (v := ky_r G 8) (n := 100) dX4_repair_97 rfl kc_7 rfl (Nat.le_of_ble_eq_true rfl) wg_X4_7 (vf_7_0 _ _) ?_
  refine ky_bipush (v := (7 : Int32)) (n := 102) dX4_repair_100 rfl rfl ?_
  refine ky_iload_n (n := 103) dX4_repair_102 rfl rfl 4 rfl ?_
  refine ky_iadd (n := 104) dX4_repair_103 rfl ?_
  refine ky_dup2 (n := 105) dX4_repair_104 rfl rfl rfl ?_
  obtain ⟨g25, hf⟩ := ky_ge hf
  refine ky_iald (n := 106) dX4_repair_105 rfl kl_8 g25 ?_
  refine ky_iload (n := 108) dX4_repair_106 rfl 0 rfl ?_
  refine ky_isub (n := 109) dX4_repair_108 rfl ?_
  obtain ⟨g26, hf⟩ := ky_ge hf
  refine ky_iast (n := 110) dX4_repair_109 rfl kl_8 rfl g26 (fun s27 es27 => ?_)
  have hf := ky_bn_e hf s27 es27
  refine ky_aload_n (n := 111) dX4_repair_110 rfl rfl 1 rfl ?_
  refine ky_iload_n (n := 112) dX4_repair_111 rfl rfl 2 rfl ?_
  refine ky_iconst (v := (2 : Int32)) (n := 113) dX4_repair_112 rfl rfl ?_
  refine ky_iload_n (n := 114) dX4_repair_113 rfl rfl 4 rfl ?_
  refine ky_iadd (n := 115) dX4_repair_114 rfl ?_
  refine ky_aload_n (n := 116) dX4_repair_115 rfl rfl 1 rfl ?_
  refine ky_iload_n (n := 117) dX4_repair_116 rfl rfl 2 rfl ?_
  refine ky_iconst (v := (2 : Int32)) (n := 118) dX4_repair_117 rfl rfl ?_
  refine ky_iload_n (n := 119) dX4_repair_118 rfl rfl 4 rfl ?_
  refine ky_iadd (n := 120) dX4_repair_119 rfl ?_
  obtain ⟨v30, s28, h29, hf⟩ := ky_bd_e hf
  refine ky_callV (kc := 0) (ks := 0) (kc2 := 0) (ks2 := 0) (k0 := 7) (as := [.int x1, .int ((2 : Int32) + x3)]) (st := [.int ((2 : Int32) + x3), .int x1, ky_r G 7]) (KX4_of (d + 1) x1 ((2 : Int32) + x3) s27 _ _ h29) okX4_of wl_X4_36 kc_7 (q := (RX4, TX4, 12)) rfl rfl rfl rfl (Nat.le_of_ble_eq_true rfl) dX4_repair_120 rfl ?_
  refine ky_iload (n := 125) dX4_repair_123 rfl 0 rfl ?_
  refine ky_iadd (n := 126) dX4_repair_125 rfl ?_
  obtain ⟨v33, s31, h32, hf⟩ := ky_bd_e hf
  refine ky_callV (kc := 0) (ks := 0) (kc2 := 0) (ks2 := 0) (k0 := 7) (as := [.int x1, .int ((2 : Int32) + x3), .int (v30 + y0)]) (st := []) (KX4_put (d + 1) x1 ((2 : Int32) + x3) (v30 + y0) s28 _ _ h32) okX4_put wl_X4_57 kc_7 (q := (RX4, TX4, 12)) rfl rfl rfl rfl (Nat.le_of_ble_eq_true rfl) dX4_repair_126 rfl ?_
  refine ky_iload_n (n := 130) dX4_repair_129 rfl rfl 3 rfl ?_
  refine ky_iload (n := 132) dX4_repair_130 rfl 0 rfl ?_
  refine ky_iadd (n := 133) dX4_repair_132 rfl ?_
  refine ky_topi (fun v34 ev34 => ?_)
  have hf := ky_bn_e hf v34 ev34
  refine ky_istore_n (lv' := [(2, .int v34), (5, .int y0), (0, ky_r G 7), (1, .int x1), (3, .int x3)]) (n := 134) dX4_repair_133 rfl rfl (Nat.le_of_ble_eq_true rfl) rfl ?_
  refine ky_iincB (c := (1 : Int32)) (n := 137) dX4_repair_134 rfl 4 rfl rfl (Nat.le_of_ble_eq_true rfl) (fun v35 ev35 => ?_)
  have hf := ky_bn_e hf v35 ev35
  refine ky_lv (lv' := [(3, .int v35), (2, .int v34), (5, .int y0), (0, ky_r G 7), (1, .int x1)]) rfl ?_
  refine ky_goto (tgt := 46) dX4_repair_137 rfl ?_
  refine ky_sub [3, 4, 1, 0] (lv' := [(0, ky_r G 7), (1, .int x1), (2, .int v34), (3, .int v35)]) rfl ?_
  exact hrec46 x1 v34 v35 s31 _ _ hf
def fX4_repair_L46 : Nat → Int32 → Int32 → Int32 → ky_St → Option (Int32 × ky_St)
  | 0, _, _, _, _ => none
  | fu + 1, x1, x2, x3, σ =>
  if (4 : Int32) ≤ x3 then (
  some (x2, σ)) else (
  ky_bd (fX4_wholeOf x3 σ) fun v17 s15 =>
  ky_bd (fX4_of x1 ((2 : Int32) + x3) s15) fun v20 s18 =>
  ky_bn (v17 - v20) fun v21 =>
  ky_g (¬ (((7 : Int32) + x3) < 0 ∨ 283 ≤ ((7 : Int32) + x3).toNatClampNeg)) (
  if (s18.1 8 ((7 : Int32) + x3).toNatClampNeg) ≤ v21 then (
  ky_g (¬ (((7 : Int32) + x3) < 0 ∨ 283 ≤ ((7 : Int32) + x3).toNatClampNeg)) (
  fX4_repair_L94 (fX4_repair_L46 fu) x1 x2 x3 (s18.1 8 ((7 : Int32) + x3).toNatClampNeg) s18)) else (
  fX4_repair_L94 (fX4_repair_L46 fu) x1 x2 x3 v21 s18)))
set_option maxHeartbeats 4000000 in
set_option maxRecDepth 100000 in
theorem tX4_repair_L46 {G : ky_G} (d : Nat) : ∀ (fu : Nat) (x1 : Int32) (x2 : Int32) (x3 : Int32) (σ : ky_St) (r : Int32) (σ' : ky_St), fX4_repair_L46 fu x1 x2 x3 σ = some (r, σ') → ky_T G mX4_repair (d + 2) 0 0 46 [(0, ky_r G 7), (1, .int x1), (2, .int x2), (3, .int x3)] [] σ (.inr (some (.int r))) σ' := by
  intro fu
  induction fu with
  | zero =>
    intro x1 x2 x3 σ r σ' hf
    rw [fX4_repair_L46] at hf
    cases hf
  | succ fu ih =>
    intro x1 x2 x3 σ r σ' hf
    rw [fX4_repair_L46] at hf
    refine ky_iload_n (n := 47) dX4_repair_46 rfl rfl 3 rfl ?_
    refine ky_iconst (v := (4 : Int32)) (n := 48) dX4_repair_47 rfl rfl ?_
    refine ky_icmp_ge (n := 51) (tgt := 140) dX4_repair_48 rfl rfl (fun c14 => ?_) (fun c14 => ?_)
    · have hf := ky_pos c14 hf
      refine ky_iload_n (n := 141) dX4_repair_140 rfl rfl 2 rfl ?_
      cases hf
      exact ky_ireturn dX4_repair_141 rfl
    · have hf := ky_neg c14 hf
      refine ky_iload_n (n := 52) dX4_repair_51 rfl rfl 3 rfl ?_
      obtain ⟨v17, s15, h16, hf⟩ := ky_bd_e hf
      refine ky_callS (kc := 0) (ks := 0) (kc2 := 0) (ks2 := 0) (as := [.int x3]) (st := []) (KX4_wholeOf (d + 1) x3 σ _ _ h16) okX4_wholeOf wl_X4_40 rfl rfl (Nat.le_of_ble_eq_true rfl) dX4_repair_52 rfl ?_
      refine ky_aload_n (n := 56) dX4_repair_55 rfl rfl 0 rfl ?_
      refine ky_iload_n (n := 57) dX4_repair_56 rfl rfl 1 rfl ?_
      refine ky_iconst (v := (2 : Int32)) (n := 58) dX4_repair_57 rfl rfl ?_
      refine ky_iload_n (n := 59) dX4_repair_58 rfl rfl 3 rfl ?_
      refine ky_iadd (n := 60) dX4_repair_59 rfl ?_
      obtain ⟨v20, s18, h19, hf⟩ := ky_bd_e hf
      refine ky_callV (kc := 0) (ks := 0) (kc2 := 0) (ks2 := 0) (k0 := 7) (as := [.int x1, .int ((2 : Int32) + x3)]) (st := [.int v17]) (KX4_of (d + 1) x1 ((2 : Int32) + x3) s15 _ _ h19) okX4_of wl_X4_36 kc_7 (q := (RX4, TX4, 12)) rfl rfl rfl rfl (Nat.le_of_ble_eq_true rfl) dX4_repair_60 rfl ?_
      refine ky_isub (n := 64) dX4_repair_63 rfl ?_
      refine ky_topi (fun v21 ev21 => ?_)
      have hf := ky_bn_e hf v21 ev21
      refine ky_istore (lv' := [(4, .int v21), (0, ky_r G 7), (1, .int x1), (2, .int x2), (3, .int x3)]) (n := 66) dX4_repair_64 rfl (Nat.le_of_ble_eq_true rfl) rfl ?_
      refine ky_iload (n := 68) dX4_repair_66 rfl 0 rfl ?_
      refine ky_aload_n (n := 69) dX4_repair_68 rfl rfl 1 rfl ?_
      refine ky_getf (q := (RX4, TX4, 12)) (v := ky_r G 8) (n := 72) dX4_repair_69 rfl kc_7 rfl (Nat.le_of_ble_eq_true rfl) wg_X4_7 (vf_7_0 _ _) ?_
      refine ky_bipush (v := (7 : Int32)) (n := 74) dX4_repair_72 rfl rfl ?_
      refine ky_iload_n (n := 75) dX4_repair_74 rfl rfl 4 rfl ?_
      refine ky_iadd (n := 76) dX4_repair_75 rfl ?_
      obtain ⟨g22, hf⟩ := ky_ge hf
      refine ky_iald (n := 77) dX4_repair_76 rfl kl_8 g22 ?_
      refine ky_icmp_ge (n := 80) (tgt := 85) dX4_repair_77 rfl rfl (fun c23 => ?_) (fun c23 => ?_)
      · have hf := ky_pos c23 hf
        refine ky_aload_n (n := 86) dX4_repair_85 rfl rfl 1 rfl ?_
        refine ky_getf (q := (RX4, TX4, 12)) (v := ky_r G 8) (n := 89) dX4_repair_86 rfl kc_7 rfl (Nat.le_of_ble_eq_true rfl) wg_X4_7 (vf_7_0 _ _) ?_
        refine ky_bipush (v := (7 : Int32)) (n := 91) dX4_repair_89 rfl rfl ?_
        refine ky_iload_n (n := 92) dX4_repair_91 rfl rfl 4 rfl ?_
        refine ky_iadd (n := 93) dX4_repair_92 rfl ?_
        obtain ⟨g24, hf⟩ := ky_ge hf
        refine ky_iald (n := 94) dX4_repair_93 rfl kl_8 g24 ?_
        refine ky_sub [1, 2, 3, 4] (lv' := [(0, ky_r G 7), (1, .int x1), (2, .int x2), (3, .int x3)]) rfl ?_
        exact tX4_repair_L94 d ih x1 x2 x3 (s18.1 8 ((7 : Int32) + x3).toNatClampNeg) s18 _ _ hf
      · have hf := ky_neg c23 hf
        refine ky_iload (n := 82) dX4_repair_80 rfl 0 rfl ?_
        refine ky_goto (tgt := 94) dX4_repair_82 rfl ?_
        refine ky_sub [1, 2, 3, 4] (lv' := [(0, ky_r G 7), (1, .int x1), (2, .int x2), (3, .int x3)]) rfl ?_
        exact tX4_repair_L94 d ih x1 x2 x3 v21 s18 _ _ hf
def fX4_repair (a1 : Int32) (σ : ky_St) : Option (Int32 × ky_St) :=
  ky_bd (fX4_isSet a1 σ) fun v3 s1 =>
  if v3 = 0 then (
  ky_bn (ky_u1 s1 7 5 (1 : Int32)) fun s41 =>
  if (s41.1 7 5) ≤ 0 then (
  ky_bd (fX4_save s41) fun v45 s43 =>
  fX4_repair_L46 FU a1 (0 : Int32) (0 : Int32) s43) else (
  some ((0 : Int32), s41))) else (
  ky_bd (fX4_isInYard a1 s1) fun v7 s5 =>
  if v7 = 0 then (
  ky_bn (ky_u1 s5 7 5 (2 : Int32)) fun s9 =>
  if (s9.1 7 5) ≤ 0 then (
  ky_bd (fX4_save s9) fun v13 s11 =>
  fX4_repair_L46 FU a1 (0 : Int32) (0 : Int32) s11) else (
  some ((0 : Int32), s9))) else (
  ky_bn (ky_u1 s5 7 5 (0 : Int32)) fun s36 =>
  if (s36.1 7 5) ≤ 0 then (
  ky_bd (fX4_save s36) fun v40 s38 =>
  fX4_repair_L46 FU a1 (0 : Int32) (0 : Int32) s38) else (
  some ((0 : Int32), s36))))
set_option maxHeartbeats 4000000 in
set_option maxRecDepth 100000 in
theorem KX4_repair {G : ky_G} (d : Nat) (a1 : Int32) (σ : ky_St) (r : Int32) (σ' : ky_St) (hf : fX4_repair a1 σ = some (r, σ')) : ky_K G mX4_repair (d + 2) 0 0 [ky_r G 7, .int a1] σ (.inr (some (.int r))) σ' := by
  unfold fX4_repair at hf
  refine ky_enter rfl (by decide +kernel) (Nat.le_of_ble_eq_true rfl) (lv := [(0, ky_r G 7), (1, .int a1)]) rfl ?_
  refine ky_aload_n (n := 1) dX4_repair_0 rfl rfl 0 rfl ?_
  refine ky_aload_n (n := 2) dX4_repair_1 rfl rfl 0 rfl ?_
  refine ky_iload_n (n := 3) dX4_repair_2 rfl rfl 1 rfl ?_
  obtain ⟨v3, s1, h2, hf⟩ := ky_bd_e hf
  refine ky_callV (kc := 0) (ks := 0) (kc2 := 0) (ks2 := 0) (k0 := 7) (as := [.int a1]) (st := [ky_r G 7]) (KX4_isSet d a1 σ _ _ h2) okX4_isSet wl_X4_67 kc_7 (q := (RX4, TX4, 12)) rfl rfl rfl rfl (Nat.le_of_ble_eq_true rfl) dX4_repair_3 rfl ?_
  refine ky_if_ne (n := 9) (tgt := 13) dX4_repair_6 rfl rfl (fun c4 => ?_) (fun c4 => ?_)
  · have hf := ky_neg c4 hf
    refine ky_aload_n (n := 14) dX4_repair_13 rfl rfl 0 rfl ?_
    refine ky_iload_n (n := 15) dX4_repair_14 rfl rfl 1 rfl ?_
    obtain ⟨v7, s5, h6, hf⟩ := ky_bd_e hf
    refine ky_callV (kc := 0) (ks := 0) (kc2 := 0) (ks2 := 0) (k0 := 7) (as := [.int a1]) (st := [ky_r G 7]) (KX4_isInYard d a1 s1 _ _ h6) okX4_isInYard wl_X4_44 kc_7 (q := (RX4, TX4, 12)) rfl rfl rfl rfl (Nat.le_of_ble_eq_true rfl) dX4_repair_15 rfl ?_
    refine ky_if_eq (n := 21) (tgt := 25) dX4_repair_18 rfl rfl (fun c8 => ?_) (fun c8 => ?_)
    · have hf := ky_pos c8 hf
      refine ky_iconst (v := (2 : Int32)) (n := 26) dX4_repair_25 rfl rfl ?_
      refine ky_putf (q := (RX4, TX4, 12)) (n := 29) dX4_repair_26 rfl kc_7 rfl (Nat.le_of_ble_eq_true rfl) wg_X4_25 rfl (by decide +kernel) rfl (fun s9 es9 => ?_)
      have hf := ky_bn_e hf s9 es9
      refine ky_aload_n (n := 30) dX4_repair_29 rfl rfl 0 rfl ?_
      refine ky_getf (q := (RX4, TX4, 12)) (v := .int (s9.1 7 5)) (n := 33) dX4_repair_30 rfl kc_7 rfl (Nat.le_of_ble_eq_true rfl) wg_X4_25 (vf_7_5 _ _) ?_
      refine ky_if_le (n := 36) (tgt := 38) dX4_repair_33 rfl rfl (fun c10 => ?_) (fun c10 => ?_)
      · have hf := ky_pos c10 hf
        refine ky_aload_n (n := 39) dX4_repair_38 rfl rfl 0 rfl ?_
        obtain ⟨v13, s11, h12, hf⟩ := ky_bd_e hf
        refine ky_callV (kc := 0) (ks := 0) (kc2 := 0) (ks2 := 0) (k0 := 7) (as := []) (st := []) (KX4_save (d + 1) s9 _ _ h12) okX4_save wl_X4_54 kc_7 (q := (RX4, TX4, 12)) rfl rfl rfl rfl (Nat.le_of_ble_eq_true rfl) dX4_repair_39 rfl ?_
        refine ky_iconst (v := (0 : Int32)) (n := 43) dX4_repair_42 rfl rfl ?_
        refine ky_istore_n (lv' := [(2, .int (0 : Int32)), (0, ky_r G 7), (1, .int a1)]) (n := 44) dX4_repair_43 rfl rfl (Nat.le_of_ble_eq_true rfl) rfl ?_
        refine ky_iconst (v := (0 : Int32)) (n := 45) dX4_repair_44 rfl rfl ?_
        refine ky_istore_n (lv' := [(3, .int (0 : Int32)), (2, .int (0 : Int32)), (0, ky_r G 7), (1, .int a1)]) (n := 46) dX4_repair_45 rfl rfl (Nat.le_of_ble_eq_true rfl) rfl ?_
        refine ky_sub [2, 3, 1, 0] (lv' := [(0, ky_r G 7), (1, .int a1), (2, .int (0 : Int32)), (3, .int (0 : Int32))]) rfl ?_
        exact tX4_repair_L46 d FU a1 (0 : Int32) (0 : Int32) s11 _ _ hf
      · have hf := ky_neg c10 hf
        refine ky_iconst (v := (0 : Int32)) (n := 37) dX4_repair_36 rfl rfl ?_
        cases hf
        exact ky_ireturn dX4_repair_37 rfl
    · have hf := ky_neg c8 hf
      refine ky_iconst (v := (0 : Int32)) (n := 22) dX4_repair_21 rfl rfl ?_
      refine ky_goto (tgt := 26) dX4_repair_22 rfl ?_
      refine ky_putf (q := (RX4, TX4, 12)) (n := 29) dX4_repair_26 rfl kc_7 rfl (Nat.le_of_ble_eq_true rfl) wg_X4_25 rfl (by decide +kernel) rfl (fun s36 es36 => ?_)
      have hf := ky_bn_e hf s36 es36
      refine ky_aload_n (n := 30) dX4_repair_29 rfl rfl 0 rfl ?_
      refine ky_getf (q := (RX4, TX4, 12)) (v := .int (s36.1 7 5)) (n := 33) dX4_repair_30 rfl kc_7 rfl (Nat.le_of_ble_eq_true rfl) wg_X4_25 (vf_7_5 _ _) ?_
      refine ky_if_le (n := 36) (tgt := 38) dX4_repair_33 rfl rfl (fun c37 => ?_) (fun c37 => ?_)
      · have hf := ky_pos c37 hf
        refine ky_aload_n (n := 39) dX4_repair_38 rfl rfl 0 rfl ?_
        obtain ⟨v40, s38, h39, hf⟩ := ky_bd_e hf
        refine ky_callV (kc := 0) (ks := 0) (kc2 := 0) (ks2 := 0) (k0 := 7) (as := []) (st := []) (KX4_save (d + 1) s36 _ _ h39) okX4_save wl_X4_54 kc_7 (q := (RX4, TX4, 12)) rfl rfl rfl rfl (Nat.le_of_ble_eq_true rfl) dX4_repair_39 rfl ?_
        refine ky_iconst (v := (0 : Int32)) (n := 43) dX4_repair_42 rfl rfl ?_
        refine ky_istore_n (lv' := [(2, .int (0 : Int32)), (0, ky_r G 7), (1, .int a1)]) (n := 44) dX4_repair_43 rfl rfl (Nat.le_of_ble_eq_true rfl) rfl ?_
        refine ky_iconst (v := (0 : Int32)) (n := 45) dX4_repair_44 rfl rfl ?_
        refine ky_istore_n (lv' := [(3, .int (0 : Int32)), (2, .int (0 : Int32)), (0, ky_r G 7), (1, .int a1)]) (n := 46) dX4_repair_45 rfl rfl (Nat.le_of_ble_eq_true rfl) rfl ?_
        refine ky_sub [2, 3, 1, 0] (lv' := [(0, ky_r G 7), (1, .int a1), (2, .int (0 : Int32)), (3, .int (0 : Int32))]) rfl ?_
        exact tX4_repair_L46 d FU a1 (0 : Int32) (0 : Int32) s38 _ _ hf
      · have hf := ky_neg c37 hf
        refine ky_iconst (v := (0 : Int32)) (n := 37) dX4_repair_36 rfl rfl ?_
        cases hf
        exact ky_ireturn dX4_repair_37 rfl
  · have hf := ky_pos c4 hf
    refine ky_iconst (v := (1 : Int32)) (n := 10) dX4_repair_9 rfl rfl ?_
    refine ky_goto (tgt := 26) dX4_repair_10 rfl ?_
    refine ky_putf (q := (RX4, TX4, 12)) (n := 29) dX4_repair_26 rfl kc_7 rfl (Nat.le_of_ble_eq_true rfl) wg_X4_25 rfl (by decide +kernel) rfl (fun s41 es41 => ?_)
    have hf := ky_bn_e hf s41 es41
    refine ky_aload_n (n := 30) dX4_repair_29 rfl rfl 0 rfl ?_
    refine ky_getf (q := (RX4, TX4, 12)) (v := .int (s41.1 7 5)) (n := 33) dX4_repair_30 rfl kc_7 rfl (Nat.le_of_ble_eq_true rfl) wg_X4_25 (vf_7_5 _ _) ?_
    refine ky_if_le (n := 36) (tgt := 38) dX4_repair_33 rfl rfl (fun c42 => ?_) (fun c42 => ?_)
    · have hf := ky_pos c42 hf
      refine ky_aload_n (n := 39) dX4_repair_38 rfl rfl 0 rfl ?_
      obtain ⟨v45, s43, h44, hf⟩ := ky_bd_e hf
      refine ky_callV (kc := 0) (ks := 0) (kc2 := 0) (ks2 := 0) (k0 := 7) (as := []) (st := []) (KX4_save (d + 1) s41 _ _ h44) okX4_save wl_X4_54 kc_7 (q := (RX4, TX4, 12)) rfl rfl rfl rfl (Nat.le_of_ble_eq_true rfl) dX4_repair_39 rfl ?_
      refine ky_iconst (v := (0 : Int32)) (n := 43) dX4_repair_42 rfl rfl ?_
      refine ky_istore_n (lv' := [(2, .int (0 : Int32)), (0, ky_r G 7), (1, .int a1)]) (n := 44) dX4_repair_43 rfl rfl (Nat.le_of_ble_eq_true rfl) rfl ?_
      refine ky_iconst (v := (0 : Int32)) (n := 45) dX4_repair_44 rfl rfl ?_
      refine ky_istore_n (lv' := [(3, .int (0 : Int32)), (2, .int (0 : Int32)), (0, ky_r G 7), (1, .int a1)]) (n := 46) dX4_repair_45 rfl rfl (Nat.le_of_ble_eq_true rfl) rfl ?_
      refine ky_sub [2, 3, 1, 0] (lv' := [(0, ky_r G 7), (1, .int a1), (2, .int (0 : Int32)), (3, .int (0 : Int32))]) rfl ?_
      exact tX4_repair_L46 d FU a1 (0 : Int32) (0 : Int32) s43 _ _ hf
    · have hf := ky_neg c42 hf
      refine ky_iconst (v := (0 : Int32)) (n := 37) dX4_repair_36 rfl rfl ?_
      cases hf
      exact ky_ireturn dX4_repair_37 rfl
def fX4_usersOf_L4 : Nat → Int32 → Int32 → Int32 → ky_St → Option (Int32 × ky_St)
  | 0, _, _, _, _ => none
  | fu + 1, x1, x2, x3, σ =>
  if (3 : Int32) ≤ x3 then (
  some (x2, σ)) else (
  ky_bd (fX4_of x1 ((6 : Int32) + x3) σ) fun v4 s2 =>
  if v4 = (-1 : Int32) then (
  ky_bn (x2 + (0 : Int32)) fun v8 =>
  ky_bn (x3 + (1 : Int32)) fun v9 =>
  fX4_usersOf_L4 fu x1 v8 v9 s2) else (
  ky_bn (x2 + (1 : Int32)) fun v6 =>
  ky_bn (x3 + (1 : Int32)) fun v7 =>
  fX4_usersOf_L4 fu x1 v6 v7 s2))
set_option maxHeartbeats 4000000 in
set_option maxRecDepth 100000 in
theorem tX4_usersOf_L4 {G : ky_G} (d : Nat) : ∀ (fu : Nat) (x1 : Int32) (x2 : Int32) (x3 : Int32) (σ : ky_St) (r : Int32) (σ' : ky_St), fX4_usersOf_L4 fu x1 x2 x3 σ = some (r, σ') → ky_T G mX4_usersOf (d + 1) 0 0 4 [(0, ky_r G 7), (1, .int x1), (2, .int x2), (3, .int x3)] [] σ (.inr (some (.int r))) σ' := by
  intro fu
  induction fu with
  | zero =>
    intro x1 x2 x3 σ r σ' hf
    rw [fX4_usersOf_L4] at hf
    cases hf
  | succ fu ih =>
    intro x1 x2 x3 σ r σ' hf
    rw [fX4_usersOf_L4] at hf
    refine ky_iload_n (n := 5) dX4_usersOf_4 rfl rfl 3 rfl ?_
    refine ky_iconst (v := (3 : Int32)) (n := 6) dX4_usersOf_5 rfl rfl ?_
    refine ky_icmp_ge (n := 9) (tgt := 36) dX4_usersOf_6 rfl rfl (fun c1 => ?_) (fun c1 => ?_)
    · have hf := ky_pos c1 hf
      refine ky_iload_n (n := 37) dX4_usersOf_36 rfl rfl 2 rfl ?_
      cases hf
      exact ky_ireturn dX4_usersOf_37 rfl
    · have hf := ky_neg c1 hf
      refine ky_iload_n (n := 10) dX4_usersOf_9 rfl rfl 2 rfl ?_
      refine ky_aload_n (n := 11) dX4_usersOf_10 rfl rfl 0 rfl ?_
      refine ky_iload_n (n := 12) dX4_usersOf_11 rfl rfl 1 rfl ?_
      refine ky_bipush (v := (6 : Int32)) (n := 14) dX4_usersOf_12 rfl rfl ?_
      refine ky_iload_n (n := 15) dX4_usersOf_14 rfl rfl 3 rfl ?_
      refine ky_iadd (n := 16) dX4_usersOf_15 rfl ?_
      obtain ⟨v4, s2, h3, hf⟩ := ky_bd_e hf
      refine ky_callV (kc := 0) (ks := 0) (kc2 := 0) (ks2 := 0) (k0 := 7) (as := [.int x1, .int ((6 : Int32) + x3)]) (st := [.int x2]) (KX4_of d x1 ((6 : Int32) + x3) σ _ _ h3) okX4_of wl_X4_36 kc_7 (q := (RX4, TX4, 12)) rfl rfl rfl rfl (Nat.le_of_ble_eq_true rfl) dX4_usersOf_16 rfl ?_
      refine ky_iconst (v := (-1 : Int32)) (n := 20) dX4_usersOf_19 rfl rfl ?_
      refine ky_icmp_ne (n := 23) (tgt := 27) dX4_usersOf_20 rfl rfl (fun c5 => ?_) (fun c5 => ?_)
      · have hf := ky_neg c5 hf
        refine ky_iconst (v := (1 : Int32)) (n := 28) dX4_usersOf_27 rfl rfl ?_
        refine ky_iadd (n := 29) dX4_usersOf_28 rfl ?_
        refine ky_topi (fun v6 ev6 => ?_)
        have hf := ky_bn_e hf v6 ev6
        refine ky_istore_n (lv' := [(2, .int v6), (0, ky_r G 7), (1, .int x1), (3, .int x3)]) (n := 30) dX4_usersOf_29 rfl rfl (Nat.le_of_ble_eq_true rfl) rfl ?_
        refine ky_iincB (c := (1 : Int32)) (n := 33) dX4_usersOf_30 rfl 3 rfl rfl (Nat.le_of_ble_eq_true rfl) (fun v7 ev7 => ?_)
        have hf := ky_bn_e hf v7 ev7
        refine ky_lv (lv' := [(3, .int v7), (2, .int v6), (0, ky_r G 7), (1, .int x1)]) rfl ?_
        refine ky_goto (tgt := 4) dX4_usersOf_33 rfl ?_
        refine ky_sub [2, 3, 1, 0] (lv' := [(0, ky_r G 7), (1, .int x1), (2, .int v6), (3, .int v7)]) rfl ?_
        exact ih x1 v6 v7 s2 _ _ hf
      · have hf := ky_pos c5 hf
        refine ky_iconst (v := (0 : Int32)) (n := 24) dX4_usersOf_23 rfl rfl ?_
        refine ky_goto (tgt := 28) dX4_usersOf_24 rfl ?_
        refine ky_iadd (n := 29) dX4_usersOf_28 rfl ?_
        refine ky_topi (fun v8 ev8 => ?_)
        have hf := ky_bn_e hf v8 ev8
        refine ky_istore_n (lv' := [(2, .int v8), (0, ky_r G 7), (1, .int x1), (3, .int x3)]) (n := 30) dX4_usersOf_29 rfl rfl (Nat.le_of_ble_eq_true rfl) rfl ?_
        refine ky_iincB (c := (1 : Int32)) (n := 33) dX4_usersOf_30 rfl 3 rfl rfl (Nat.le_of_ble_eq_true rfl) (fun v9 ev9 => ?_)
        have hf := ky_bn_e hf v9 ev9
        refine ky_lv (lv' := [(3, .int v9), (2, .int v8), (0, ky_r G 7), (1, .int x1)]) rfl ?_
        refine ky_goto (tgt := 4) dX4_usersOf_33 rfl ?_
        refine ky_sub [2, 3, 1, 0] (lv' := [(0, ky_r G 7), (1, .int x1), (2, .int v8), (3, .int v9)]) rfl ?_
        exact ih x1 v8 v9 s2 _ _ hf
def fX4_usersOf (a1 : Int32) (σ : ky_St) : Option (Int32 × ky_St) :=
  fX4_usersOf_L4 FU a1 (0 : Int32) (0 : Int32) σ
set_option maxHeartbeats 4000000 in
set_option maxRecDepth 100000 in
theorem KX4_usersOf {G : ky_G} (d : Nat) (a1 : Int32) (σ : ky_St) (r : Int32) (σ' : ky_St) (hf : fX4_usersOf a1 σ = some (r, σ')) : ky_K G mX4_usersOf (d + 1) 0 0 [ky_r G 7, .int a1] σ (.inr (some (.int r))) σ' := by
  unfold fX4_usersOf at hf
  refine ky_enter rfl (by decide +kernel) (Nat.le_of_ble_eq_true rfl) (lv := [(0, ky_r G 7), (1, .int a1)]) rfl ?_
  refine ky_iconst (v := (0 : Int32)) (n := 1) dX4_usersOf_0 rfl rfl ?_
  refine ky_istore_n (lv' := [(2, .int (0 : Int32)), (0, ky_r G 7), (1, .int a1)]) (n := 2) dX4_usersOf_1 rfl rfl (Nat.le_of_ble_eq_true rfl) rfl ?_
  refine ky_iconst (v := (0 : Int32)) (n := 3) dX4_usersOf_2 rfl rfl ?_
  refine ky_istore_n (lv' := [(3, .int (0 : Int32)), (2, .int (0 : Int32)), (0, ky_r G 7), (1, .int a1)]) (n := 4) dX4_usersOf_3 rfl rfl (Nat.le_of_ble_eq_true rfl) rfl ?_
  refine ky_sub [2, 3, 1, 0] (lv' := [(0, ky_r G 7), (1, .int a1), (2, .int (0 : Int32)), (3, .int (0 : Int32))]) rfl ?_
  exact tX4_usersOf_L4 d FU a1 (0 : Int32) (0 : Int32) σ _ _ hf
def fX4_shareOf_L21 (x2 : Int32) (x3 : Int32) (x4 : Int32) (y0 : Int32) (σ : ky_St) : Option (Int32 × ky_St) :=
  if x2 = 0 then (
  if x4 ≤ 0 then (
  some ((y0 + (0 : Int32)), σ)) else (
  ky_g (¬ x4 = 0) (
  some ((y0 + (x3 - x3 / x4 * x4)), σ)))) else (
  some ((y0 + (0 : Int32)), σ))
set_option maxHeartbeats 4000000 in
set_option maxRecDepth 100000 in
theorem tX4_shareOf_L21 {G : ky_G} (d : Nat) : ∀ (x2 : Int32) (x3 : Int32) (x4 : Int32) (y0 : Int32) (σ : ky_St) (r : Int32) (σ' : ky_St), fX4_shareOf_L21 x2 x3 x4 y0 σ = some (r, σ') → ky_T G mX4_shareOf (d + 2) 0 0 21 [(2, .int x2), (3, .int x3), (4, .int x4)] [.int y0] σ (.inr (some (.int r))) σ' := by
  intro x2 x3 x4 y0 σ r σ' hf
  unfold fX4_shareOf_L21 at hf
  refine ky_istore (lv' := [(5, .int y0), (2, .int x2), (3, .int x3), (4, .int x4)]) (n := 23) dX4_shareOf_21 rfl (Nat.le_of_ble_eq_true rfl) rfl ?_
  refine ky_iload (n := 25) dX4_shareOf_23 rfl 0 rfl ?_
  refine ky_iload_n (n := 26) dX4_shareOf_25 rfl rfl 1 rfl ?_
  refine ky_if_ne (n := 29) (tgt := 41) dX4_shareOf_26 rfl rfl (fun c5 => ?_) (fun c5 => ?_)
  · have hf := ky_neg c5 hf
    refine ky_iconst (v := (0 : Int32)) (n := 42) dX4_shareOf_41 rfl rfl ?_
    refine ky_iadd (n := 43) dX4_shareOf_42 rfl ?_
    cases hf
    exact ky_ireturn dX4_shareOf_43 rfl
  · have hf := ky_pos c5 hf
    refine ky_iload (n := 31) dX4_shareOf_29 rfl 3 rfl ?_
    refine ky_if_le (n := 34) (tgt := 41) dX4_shareOf_31 rfl rfl (fun c6 => ?_) (fun c6 => ?_)
    · have hf := ky_pos c6 hf
      refine ky_iconst (v := (0 : Int32)) (n := 42) dX4_shareOf_41 rfl rfl ?_
      refine ky_iadd (n := 43) dX4_shareOf_42 rfl ?_
      cases hf
      exact ky_ireturn dX4_shareOf_43 rfl
    · have hf := ky_neg c6 hf
      refine ky_iload_n (n := 35) dX4_shareOf_34 rfl rfl 2 rfl ?_
      refine ky_iload (n := 37) dX4_shareOf_35 rfl 3 rfl ?_
      obtain ⟨g7, hf⟩ := ky_ge hf
      refine ky_irem (n := 38) dX4_shareOf_37 rfl g7 ?_
      refine ky_goto (tgt := 42) dX4_shareOf_38 rfl ?_
      refine ky_iadd (n := 43) dX4_shareOf_42 rfl ?_
      cases hf
      exact ky_ireturn dX4_shareOf_43 rfl
def fX4_shareOf (a1 : Int32) (a2 : Int32) (a3 : Int32) (σ : ky_St) : Option (Int32 × ky_St) :=
  ky_bd (fX4_usersOf a1 σ) fun v3 s1 =>
  if v3 ≤ a2 then (
  fX4_shareOf_L21 a2 a3 v3 (0 : Int32) s1) else (
  ky_g (¬ v3 = 0) (
  fX4_shareOf_L21 a2 a3 v3 (a3 / v3) s1))
set_option maxHeartbeats 4000000 in
set_option maxRecDepth 100000 in
theorem KX4_shareOf {G : ky_G} (d : Nat) (a1 : Int32) (a2 : Int32) (a3 : Int32) (σ : ky_St) (r : Int32) (σ' : ky_St) (hf : fX4_shareOf a1 a2 a3 σ = some (r, σ')) : ky_K G mX4_shareOf (d + 2) 0 0 [ky_r G 7, .int a1, .int a2, .int a3] σ (.inr (some (.int r))) σ' := by
  unfold fX4_shareOf at hf
  refine ky_enter rfl (by decide +kernel) (Nat.le_of_ble_eq_true rfl) (lv := [(0, ky_r G 7), (1, .int a1), (2, .int a2), (3, .int a3)]) rfl ?_
  refine ky_aload_n (n := 1) dX4_shareOf_0 rfl rfl 0 rfl ?_
  refine ky_iload_n (n := 2) dX4_shareOf_1 rfl rfl 1 rfl ?_
  obtain ⟨v3, s1, h2, hf⟩ := ky_bd_e hf
  refine ky_callV (kc := 0) (ks := 0) (kc2 := 0) (ks2 := 0) (k0 := 7) (as := [.int a1]) (st := []) (KX4_usersOf d a1 σ _ _ h2) okX4_usersOf wl_X4_70 kc_7 (q := (RX4, TX4, 12)) rfl rfl rfl rfl (Nat.le_of_ble_eq_true rfl) dX4_shareOf_2 rfl ?_
  refine ky_istore (lv' := [(4, .int v3), (0, ky_r G 7), (1, .int a1), (2, .int a2), (3, .int a3)]) (n := 7) dX4_shareOf_5 rfl (Nat.le_of_ble_eq_true rfl) rfl ?_
  refine ky_iload_n (n := 8) dX4_shareOf_7 rfl rfl 3 rfl ?_
  refine ky_iload (n := 10) dX4_shareOf_8 rfl 0 rfl ?_
  refine ky_icmp_ge (n := 13) (tgt := 20) dX4_shareOf_10 rfl rfl (fun c4 => ?_) (fun c4 => ?_)
  · have hf := ky_pos c4 hf
    refine ky_iconst (v := (0 : Int32)) (n := 21) dX4_shareOf_20 rfl rfl ?_
    refine ky_sub [3, 4, 0] (lv' := [(2, .int a2), (3, .int a3), (4, .int v3)]) rfl ?_
    exact tX4_shareOf_L21 d a2 a3 v3 (0 : Int32) s1 _ _ hf
  · have hf := ky_neg c4 hf
    refine ky_iload_n (n := 14) dX4_shareOf_13 rfl rfl 4 rfl ?_
    refine ky_iload (n := 16) dX4_shareOf_14 rfl 0 rfl ?_
    obtain ⟨g8, hf⟩ := ky_ge hf
    refine ky_idiv (n := 17) dX4_shareOf_16 rfl g8 ?_
    refine ky_goto (tgt := 21) dX4_shareOf_17 rfl ?_
    refine ky_sub [3, 4, 0] (lv' := [(2, .int a2), (3, .int a3), (4, .int v3)]) rfl ?_
    exact tX4_shareOf_L21 d a2 a3 v3 (a3 / v3) s1 _ _ hf
def fX4_charge (a1 : Int32) (a2 : Int32) (a3 : Int32) (σ : ky_St) : Option (Unit × ky_St) :=
  ky_bd (fX4_of a1 ((2 : Int32) + a2) σ) fun v3 s1 =>
  ky_bd (fX4_put a1 ((2 : Int32) + a2) (v3 - a3) s1) fun v6 s4 =>
  ky_g (¬ (((11 : Int32) + a2) < 0 ∨ 283 ≤ ((11 : Int32) + a2).toNatClampNeg)) (
  ky_g (¬ (((11 : Int32) + a2) < 0 ∨ 283 ≤ ((11 : Int32) + a2).toNatClampNeg)) (
  ky_bn (ky_u1 s4 8 ((11 : Int32) + a2).toNatClampNeg ((s4.1 8 ((11 : Int32) + a2).toNatClampNeg) + a3)) fun s9 =>
  some ((), s9)))
set_option maxHeartbeats 4000000 in
set_option maxRecDepth 100000 in
theorem KX4_charge {G : ky_G} (d : Nat) (a1 : Int32) (a2 : Int32) (a3 : Int32) (σ : ky_St) (r : Unit) (σ' : ky_St) (hf : fX4_charge a1 a2 a3 σ = some (r, σ')) : ky_K G mX4_charge (d + 1) 0 0 [ky_r G 7, .int a1, .int a2, .int a3] σ (.inr none) σ' := by
  unfold fX4_charge at hf
  refine ky_enter rfl (by decide +kernel) (Nat.le_of_ble_eq_true rfl) (lv := [(0, ky_r G 7), (1, .int a1), (2, .int a2), (3, .int a3)]) rfl ?_
  refine ky_aload_n (n := 1) dX4_charge_0 rfl rfl 0 rfl ?_
  refine ky_iload_n (n := 2) dX4_charge_1 rfl rfl 1 rfl ?_
  refine ky_iconst (v := (2 : Int32)) (n := 3) dX4_charge_2 rfl rfl ?_
  refine ky_iload_n (n := 4) dX4_charge_3 rfl rfl 2 rfl ?_
  refine ky_iadd (n := 5) dX4_charge_4 rfl ?_
  refine ky_aload_n (n := 6) dX4_charge_5 rfl rfl 0 rfl ?_
  refine ky_iload_n (n := 7) dX4_charge_6 rfl rfl 1 rfl ?_
  refine ky_iconst (v := (2 : Int32)) (n := 8) dX4_charge_7 rfl rfl ?_
  refine ky_iload_n (n := 9) dX4_charge_8 rfl rfl 2 rfl ?_
  refine ky_iadd (n := 10) dX4_charge_9 rfl ?_
  obtain ⟨v3, s1, h2, hf⟩ := ky_bd_e hf
  refine ky_callV (kc := 0) (ks := 0) (kc2 := 0) (ks2 := 0) (k0 := 7) (as := [.int a1, .int ((2 : Int32) + a2)]) (st := [.int ((2 : Int32) + a2), .int a1, ky_r G 7]) (KX4_of d a1 ((2 : Int32) + a2) σ _ _ h2) okX4_of wl_X4_36 kc_7 (q := (RX4, TX4, 12)) rfl rfl rfl rfl (Nat.le_of_ble_eq_true rfl) dX4_charge_10 rfl ?_
  refine ky_iload_n (n := 14) dX4_charge_13 rfl rfl 3 rfl ?_
  refine ky_isub (n := 15) dX4_charge_14 rfl ?_
  obtain ⟨v6, s4, h5, hf⟩ := ky_bd_e hf
  refine ky_callV (kc := 0) (ks := 0) (kc2 := 0) (ks2 := 0) (k0 := 7) (as := [.int a1, .int ((2 : Int32) + a2), .int (v3 - a3)]) (st := []) (KX4_put d a1 ((2 : Int32) + a2) (v3 - a3) s1 _ _ h5) okX4_put wl_X4_57 kc_7 (q := (RX4, TX4, 12)) rfl rfl rfl rfl (Nat.le_of_ble_eq_true rfl) dX4_charge_15 rfl ?_
  refine ky_aload_n (n := 19) dX4_charge_18 rfl rfl 0 rfl ?_
  refine ky_getf (q := (RX4, TX4, 12)) (v := ky_r G 8) (n := 22) dX4_charge_19 rfl kc_7 rfl (Nat.le_of_ble_eq_true rfl) wg_X4_7 (vf_7_0 _ _) ?_
  refine ky_bipush (v := (11 : Int32)) (n := 24) dX4_charge_22 rfl rfl ?_
  refine ky_iload_n (n := 25) dX4_charge_24 rfl rfl 2 rfl ?_
  refine ky_iadd (n := 26) dX4_charge_25 rfl ?_
  refine ky_dup2 (n := 27) dX4_charge_26 rfl rfl rfl ?_
  obtain ⟨g7, hf⟩ := ky_ge hf
  refine ky_iald (n := 28) dX4_charge_27 rfl kl_8 g7 ?_
  refine ky_iload_n (n := 29) dX4_charge_28 rfl rfl 3 rfl ?_
  refine ky_iadd (n := 30) dX4_charge_29 rfl ?_
  obtain ⟨g8, hf⟩ := ky_ge hf
  refine ky_iast (n := 31) dX4_charge_30 rfl kl_8 rfl g8 (fun s9 es9 => ?_)
  have hf := ky_bn_e hf s9 es9
  cases hf
  exact ky_return dX4_charge_31 rfl
def fX4_hasSo (a1 : Int32) (a2 : Int32) (a3 : Int32) (σ : ky_St) : Option (Int32 × ky_St) :=
  ky_bd (fX4_of a1 ((2 : Int32) + a2) σ) fun v3 s1 =>
  if v3 < a3 then (
  some ((0 : Int32), s1)) else (
  some ((1 : Int32), s1))
set_option maxHeartbeats 4000000 in
set_option maxRecDepth 100000 in
theorem KX4_hasSo {G : ky_G} (d : Nat) (a1 : Int32) (a2 : Int32) (a3 : Int32) (σ : ky_St) (r : Int32) (σ' : ky_St) (hf : fX4_hasSo a1 a2 a3 σ = some (r, σ')) : ky_K G mX4_hasSo (d + 1) 0 0 [ky_r G 7, .int a1, .int a2, .int a3] σ (.inr (some (.int r))) σ' := by
  unfold fX4_hasSo at hf
  refine ky_enter rfl (by decide +kernel) (Nat.le_of_ble_eq_true rfl) (lv := [(0, ky_r G 7), (1, .int a1), (2, .int a2), (3, .int a3)]) rfl ?_
  refine ky_aload_n (n := 1) dX4_hasSo_0 rfl rfl 0 rfl ?_
  refine ky_iload_n (n := 2) dX4_hasSo_1 rfl rfl 1 rfl ?_
  refine ky_iconst (v := (2 : Int32)) (n := 3) dX4_hasSo_2 rfl rfl ?_
  refine ky_iload_n (n := 4) dX4_hasSo_3 rfl rfl 2 rfl ?_
  refine ky_iadd (n := 5) dX4_hasSo_4 rfl ?_
  obtain ⟨v3, s1, h2, hf⟩ := ky_bd_e hf
  refine ky_callV (kc := 0) (ks := 0) (kc2 := 0) (ks2 := 0) (k0 := 7) (as := [.int a1, .int ((2 : Int32) + a2)]) (st := []) (KX4_of d a1 ((2 : Int32) + a2) σ _ _ h2) okX4_of wl_X4_36 kc_7 (q := (RX4, TX4, 12)) rfl rfl rfl rfl (Nat.le_of_ble_eq_true rfl) dX4_hasSo_5 rfl ?_
  refine ky_iload_n (n := 9) dX4_hasSo_8 rfl rfl 3 rfl ?_
  refine ky_icmp_lt (n := 12) (tgt := 16) dX4_hasSo_9 rfl rfl (fun c4 => ?_) (fun c4 => ?_)
  · have hf := ky_pos c4 hf
    refine ky_iconst (v := (0 : Int32)) (n := 17) dX4_hasSo_16 rfl rfl ?_
    cases hf
    exact ky_zreturn dX4_hasSo_17 rfl (Or.inl rfl)
  · have hf := ky_neg c4 hf
    refine ky_iconst (v := (1 : Int32)) (n := 13) dX4_hasSo_12 rfl rfl ?_
    refine ky_goto (tgt := 17) dX4_hasSo_13 rfl ?_
    cases hf
    exact ky_zreturn dX4_hasSo_17 rfl (Or.inr rfl)
def fX4_damage_L86 : Nat → Int32 → Int32 → Int32 → ky_St → Option (Int32 × ky_St)
  | 0, _, _, _, _ => none
  | fu + 1, x1, x4, x5, σ =>
  ky_bd (fX4_usersOf x1 σ) fun v19 s17 =>
  if v19 ≤ x5 then (
  ky_g (¬ ((5 : Int32) < 0 ∨ 283 ≤ (5 : Int32).toNatClampNeg)) (
  ky_bd (fX4_usersOf x1 s17) fun v24 s22 =>
  if v24 = 0 then (
  ky_g (¬ ((5 : Int32) < 0 ∨ 283 ≤ (5 : Int32).toNatClampNeg)) (
  ky_bn (ky_u1 s22 8 (5 : Int32).toNatClampNeg ((s17.1 8 (5 : Int32).toNatClampNeg) + x4)) fun s29 =>
  some (x4, s29))) else (
  ky_g (¬ ((5 : Int32) < 0 ∨ 283 ≤ (5 : Int32).toNatClampNeg)) (
  ky_bn (ky_u1 s22 8 (5 : Int32).toNatClampNeg ((s17.1 8 (5 : Int32).toNatClampNeg) + (0 : Int32))) fun s27 =>
  some (x4, s27))))) else (
  ky_bd (fX4_of x1 ((6 : Int32) + x5) s17) fun v32 s30 =>
  ky_bd (fX4_shareOf x1 x5 x4 s30) fun v35 s33 =>
  ky_bd (fX4_bill v32 (2 : Int32) v35 s33) fun v38 s36 =>
  ky_bn (x5 + (1 : Int32)) fun v39 =>
  fX4_damage_L86 fu x1 x4 v39 s36)
set_option maxHeartbeats 4000000 in
set_option maxRecDepth 100000 in
theorem tX4_damage_L86 {G : ky_G} (d : Nat) : ∀ (fu : Nat) (x1 : Int32) (x4 : Int32) (x5 : Int32) (σ : ky_St) (r : Int32) (σ' : ky_St), fX4_damage_L86 fu x1 x4 x5 σ = some (r, σ') → ky_T G mX4_damage (d + 3) 0 0 86 [(0, ky_r G 7), (1, .int x1), (4, .int x4), (5, .int x5)] [] σ (.inr (some (.int r))) σ' := by
  intro fu
  induction fu with
  | zero =>
    intro x1 x4 x5 σ r σ' hf
    rw [fX4_damage_L86] at hf
    cases hf
  | succ fu ih =>
    intro x1 x4 x5 σ r σ' hf
    rw [fX4_damage_L86] at hf
    refine ky_iload (n := 88) dX4_damage_86 rfl 3 rfl ?_
    refine ky_aload_n (n := 89) dX4_damage_88 rfl rfl 0 rfl ?_
    refine ky_iload_n (n := 90) dX4_damage_89 rfl rfl 1 rfl ?_
    obtain ⟨v19, s17, h18, hf⟩ := ky_bd_e hf
    refine ky_callV (kc := 0) (ks := 0) (kc2 := 0) (ks2 := 0) (k0 := 7) (as := [.int x1]) (st := [.int x5]) (KX4_usersOf (d + 1) x1 σ _ _ h18) okX4_usersOf wl_X4_70 kc_7 (q := (RX4, TX4, 12)) rfl rfl rfl rfl (Nat.le_of_ble_eq_true rfl) dX4_damage_90 rfl ?_
    refine ky_icmp_ge (n := 96) (tgt := 126) dX4_damage_93 rfl rfl (fun c20 => ?_) (fun c20 => ?_)
    · have hf := ky_pos c20 hf
      refine ky_aload_n (n := 127) dX4_damage_126 rfl rfl 0 rfl ?_
      refine ky_getf (q := (RX4, TX4, 12)) (v := ky_r G 8) (n := 130) dX4_damage_127 rfl kc_7 rfl (Nat.le_of_ble_eq_true rfl) wg_X4_7 (vf_7_0 _ _) ?_
      refine ky_iconst (v := (5 : Int32)) (n := 131) dX4_damage_130 rfl rfl ?_
      refine ky_dup2 (n := 132) dX4_damage_131 rfl rfl rfl ?_
      obtain ⟨g21, hf⟩ := ky_ge hf
      refine ky_iald (n := 133) dX4_damage_132 rfl kl_8 g21 ?_
      refine ky_aload_n (n := 134) dX4_damage_133 rfl rfl 0 rfl ?_
      refine ky_iload_n (n := 135) dX4_damage_134 rfl rfl 1 rfl ?_
      obtain ⟨v24, s22, h23, hf⟩ := ky_bd_e hf
      refine ky_callV (kc := 0) (ks := 0) (kc2 := 0) (ks2 := 0) (k0 := 7) (as := [.int x1]) (st := [.int (s17.1 8 (5 : Int32).toNatClampNeg), .int (5 : Int32), ky_r G 8]) (KX4_usersOf (d + 1) x1 s17 _ _ h23) okX4_usersOf wl_X4_70 kc_7 (q := (RX4, TX4, 12)) rfl rfl rfl rfl (Nat.le_of_ble_eq_true rfl) dX4_damage_135 rfl ?_
      refine ky_if_ne (n := 141) (tgt := 146) dX4_damage_138 rfl rfl (fun c25 => ?_) (fun c25 => ?_)
      · have hf := ky_neg c25 hf
        refine ky_iconst (v := (0 : Int32)) (n := 147) dX4_damage_146 rfl rfl ?_
        refine ky_iadd (n := 148) dX4_damage_147 rfl ?_
        obtain ⟨g26, hf⟩ := ky_ge hf
        refine ky_iast (n := 149) dX4_damage_148 rfl kl_8 rfl g26 (fun s27 es27 => ?_)
        have hf := ky_bn_e hf s27 es27
        refine ky_iload (n := 151) dX4_damage_149 rfl 2 rfl ?_
        cases hf
        exact ky_ireturn dX4_damage_151 rfl
      · have hf := ky_pos c25 hf
        refine ky_iload (n := 143) dX4_damage_141 rfl 2 rfl ?_
        refine ky_goto (tgt := 147) dX4_damage_143 rfl ?_
        refine ky_iadd (n := 148) dX4_damage_147 rfl ?_
        obtain ⟨g28, hf⟩ := ky_ge hf
        refine ky_iast (n := 149) dX4_damage_148 rfl kl_8 rfl g28 (fun s29 es29 => ?_)
        have hf := ky_bn_e hf s29 es29
        refine ky_iload (n := 151) dX4_damage_149 rfl 2 rfl ?_
        cases hf
        exact ky_ireturn dX4_damage_151 rfl
    · have hf := ky_neg c20 hf
      refine ky_aload_n (n := 97) dX4_damage_96 rfl rfl 0 rfl ?_
      refine ky_aload_n (n := 98) dX4_damage_97 rfl rfl 0 rfl ?_
      refine ky_iload_n (n := 99) dX4_damage_98 rfl rfl 1 rfl ?_
      refine ky_bipush (v := (6 : Int32)) (n := 101) dX4_damage_99 rfl rfl ?_
      refine ky_iload (n := 103) dX4_damage_101 rfl 3 rfl ?_
      refine ky_iadd (n := 104) dX4_damage_103 rfl ?_
      obtain ⟨v32, s30, h31, hf⟩ := ky_bd_e hf
      refine ky_callV (kc := 0) (ks := 0) (kc2 := 0) (ks2 := 0) (k0 := 7) (as := [.int x1, .int ((6 : Int32) + x5)]) (st := [ky_r G 7]) (KX4_of (d + 2) x1 ((6 : Int32) + x5) s17 _ _ h31) okX4_of wl_X4_36 kc_7 (q := (RX4, TX4, 12)) rfl rfl rfl rfl (Nat.le_of_ble_eq_true rfl) dX4_damage_104 rfl ?_
      refine ky_iconst (v := (2 : Int32)) (n := 108) dX4_damage_107 rfl rfl ?_
      refine ky_aload_n (n := 109) dX4_damage_108 rfl rfl 0 rfl ?_
      refine ky_iload_n (n := 110) dX4_damage_109 rfl rfl 1 rfl ?_
      refine ky_iload (n := 112) dX4_damage_110 rfl 3 rfl ?_
      refine ky_iload (n := 114) dX4_damage_112 rfl 2 rfl ?_
      obtain ⟨v35, s33, h34, hf⟩ := ky_bd_e hf
      refine ky_callV (kc := 0) (ks := 0) (kc2 := 0) (ks2 := 0) (k0 := 7) (as := [.int x1, .int x5, .int x4]) (st := [.int (2 : Int32), .int v32, ky_r G 7]) (KX4_shareOf d x1 x5 x4 s30 _ _ h34) okX4_shareOf wl_X4_79 kc_7 (q := (RX4, TX4, 12)) rfl rfl rfl rfl (Nat.le_of_ble_eq_true rfl) dX4_damage_114 rfl ?_
      obtain ⟨v38, s36, h37, hf⟩ := ky_bd_e hf
      refine ky_callV (kc := 0) (ks := 0) (kc2 := 0) (ks2 := 0) (k0 := 7) (as := [.int v32, .int (2 : Int32), .int v35]) (st := []) (KX4_bill (d + 2) v32 (2 : Int32) v35 s33 _ _ h37) okX4_bill wl_X4_83 kc_7 (q := (RX4, TX4, 12)) rfl rfl rfl rfl (Nat.le_of_ble_eq_true rfl) dX4_damage_117 rfl ?_
      refine ky_iincB (c := (1 : Int32)) (n := 123) dX4_damage_120 rfl 3 rfl rfl (Nat.le_of_ble_eq_true rfl) (fun v39 ev39 => ?_)
      have hf := ky_bn_e hf v39 ev39
      refine ky_lv (lv' := [(5, .int v39), (0, ky_r G 7), (1, .int x1), (4, .int x4)]) rfl ?_
      refine ky_goto (tgt := 86) dX4_damage_123 rfl ?_
      refine ky_sub [1, 2, 3, 0] (lv' := [(0, ky_r G 7), (1, .int x1), (4, .int x4), (5, .int v39)]) rfl ?_
      exact ih x1 x4 v39 s36 _ _ hf
def fX4_damage_L52 (x1 : Int32) (x2 : Int32) (x3 : Int32) (y1 : Int32) (σ : ky_St) : Option (Int32 × ky_St) :=
  ky_bn (ky_u1 σ 7 5 y1) fun s5 =>
  if (s5.1 7 5) ≤ 0 then (
  ky_bd (fX4_save s5) fun v9 s7 =>
  ky_bd (fX4_costOf x2 s7) fun v12 s10 =>
  ky_bn (x3 * v12) fun v13 =>
  ky_bd (fX4_charge x1 x2 x3 s10) fun v16 s14 =>
  fX4_damage_L86 FU x1 v13 (0 : Int32) s14) else (
  some ((0 : Int32), s5))
set_option maxHeartbeats 4000000 in
set_option maxRecDepth 100000 in
theorem tX4_damage_L52 {G : ky_G} (d : Nat) : ∀ (x1 : Int32) (x2 : Int32) (x3 : Int32) (y1 : Int32) (σ : ky_St) (r : Int32) (σ' : ky_St), fX4_damage_L52 x1 x2 x3 y1 σ = some (r, σ') → ky_T G mX4_damage (d + 3) 0 0 52 [(0, ky_r G 7), (1, .int x1), (2, .int x2), (3, .int x3)] [.int y1, ky_r G 7] σ (.inr (some (.int r))) σ' := by
  intro x1 x2 x3 y1 σ r σ' hf
  unfold fX4_damage_L52 at hf
  refine ky_putf (q := (RX4, TX4, 12)) (n := 55) dX4_damage_52 rfl kc_7 rfl (Nat.le_of_ble_eq_true rfl) wg_X4_25 rfl (by decide +kernel) rfl (fun s5 es5 => ?_)
  have hf := ky_bn_e hf s5 es5
  refine ky_aload_n (n := 56) dX4_damage_55 rfl rfl 0 rfl ?_
  refine ky_getf (q := (RX4, TX4, 12)) (v := .int (s5.1 7 5)) (n := 59) dX4_damage_56 rfl kc_7 rfl (Nat.le_of_ble_eq_true rfl) wg_X4_25 (vf_7_5 _ _) ?_
  refine ky_if_le (n := 62) (tgt := 64) dX4_damage_59 rfl rfl (fun c6 => ?_) (fun c6 => ?_)
  · have hf := ky_pos c6 hf
    refine ky_aload_n (n := 65) dX4_damage_64 rfl rfl 0 rfl ?_
    obtain ⟨v9, s7, h8, hf⟩ := ky_bd_e hf
    refine ky_callV (kc := 0) (ks := 0) (kc2 := 0) (ks2 := 0) (k0 := 7) (as := []) (st := []) (KX4_save (d + 2) s5 _ _ h8) okX4_save wl_X4_54 kc_7 (q := (RX4, TX4, 12)) rfl rfl rfl rfl (Nat.le_of_ble_eq_true rfl) dX4_damage_65 rfl ?_
    refine ky_iload_n (n := 69) dX4_damage_68 rfl rfl 3 rfl ?_
    refine ky_iload_n (n := 70) dX4_damage_69 rfl rfl 2 rfl ?_
    obtain ⟨v12, s10, h11, hf⟩ := ky_bd_e hf
    refine ky_callS (kc := 0) (ks := 0) (kc2 := 0) (ks2 := 0) (as := [.int x2]) (st := [.int x3]) (KX4_costOf (d + 2) x2 s7 _ _ h11) okX4_costOf wl_X4_61 rfl rfl (Nat.le_of_ble_eq_true rfl) dX4_damage_70 rfl ?_
    refine ky_imul (n := 74) dX4_damage_73 rfl ?_
    refine ky_topi (fun v13 ev13 => ?_)
    have hf := ky_bn_e hf v13 ev13
    refine ky_istore (lv' := [(4, .int v13), (0, ky_r G 7), (1, .int x1), (2, .int x2), (3, .int x3)]) (n := 76) dX4_damage_74 rfl (Nat.le_of_ble_eq_true rfl) rfl ?_
    refine ky_aload_n (n := 77) dX4_damage_76 rfl rfl 1 rfl ?_
    refine ky_iload_n (n := 78) dX4_damage_77 rfl rfl 2 rfl ?_
    refine ky_iload_n (n := 79) dX4_damage_78 rfl rfl 3 rfl ?_
    refine ky_iload_n (n := 80) dX4_damage_79 rfl rfl 4 rfl ?_
    obtain ⟨v16, s14, h15, hf⟩ := ky_bd_e hf
    refine ky_callV (kc := 0) (ks := 0) (kc2 := 0) (ks2 := 0) (k0 := 7) (as := [.int x1, .int x2, .int x3]) (st := []) (KX4_charge (d + 1) x1 x2 x3 s10 _ _ h15) okX4_charge wl_X4_76 kc_7 (q := (RX4, TX4, 12)) rfl rfl rfl rfl (Nat.le_of_ble_eq_true rfl) dX4_damage_80 rfl ?_
    refine ky_iconst (v := (0 : Int32)) (n := 84) dX4_damage_83 rfl rfl ?_
    refine ky_istore (lv' := [(5, .int (0 : Int32)), (4, .int v13), (0, ky_r G 7), (1, .int x1), (2, .int x2), (3, .int x3)]) (n := 86) dX4_damage_84 rfl (Nat.le_of_ble_eq_true rfl) rfl ?_
    refine ky_sub [2, 3, 1, 0] (lv' := [(0, ky_r G 7), (1, .int x1), (4, .int v13), (5, .int (0 : Int32))]) rfl ?_
    exact tX4_damage_L86 d FU x1 v13 (0 : Int32) s14 _ _ hf
  · have hf := ky_neg c6 hf
    refine ky_iconst (v := (0 : Int32)) (n := 63) dX4_damage_62 rfl rfl ?_
    cases hf
    exact ky_ireturn dX4_damage_63 rfl
def fX4_damage_L16 (x1 : Int32) (x2 : Int32) (x3 : Int32) (σ : ky_St) : Option (Int32 × ky_St) :=
  fX4_damage_L52 x1 x2 x3 (1 : Int32) σ
set_option maxHeartbeats 4000000 in
set_option maxRecDepth 100000 in
theorem tX4_damage_L16 {G : ky_G} (d : Nat) : ∀ (x1 : Int32) (x2 : Int32) (x3 : Int32) (σ : ky_St) (r : Int32) (σ' : ky_St), fX4_damage_L16 x1 x2 x3 σ = some (r, σ') → ky_T G mX4_damage (d + 3) 0 0 16 [(0, ky_r G 7), (1, .int x1), (2, .int x2), (3, .int x3)] [ky_r G 7] σ (.inr (some (.int r))) σ' := by
  intro x1 x2 x3 σ r σ' hf
  unfold fX4_damage_L16 at hf
  refine ky_iconst (v := (1 : Int32)) (n := 17) dX4_damage_16 rfl rfl ?_
  refine ky_goto (tgt := 52) dX4_damage_17 rfl ?_
  refine ky_sub [0, 1, 2, 3] (lv' := [(0, ky_r G 7), (1, .int x1), (2, .int x2), (3, .int x3)]) rfl ?_
  exact tX4_damage_L52 d x1 x2 x3 (1 : Int32) σ _ _ hf
def fX4_damage_L51 (x1 : Int32) (x2 : Int32) (x3 : Int32) (σ : ky_St) : Option (Int32 × ky_St) :=
  fX4_damage_L52 x1 x2 x3 (3 : Int32) σ
set_option maxHeartbeats 4000000 in
set_option maxRecDepth 100000 in
theorem tX4_damage_L51 {G : ky_G} (d : Nat) : ∀ (x1 : Int32) (x2 : Int32) (x3 : Int32) (σ : ky_St) (r : Int32) (σ' : ky_St), fX4_damage_L51 x1 x2 x3 σ = some (r, σ') → ky_T G mX4_damage (d + 3) 0 0 51 [(0, ky_r G 7), (1, .int x1), (2, .int x2), (3, .int x3)] [ky_r G 7] σ (.inr (some (.int r))) σ' := by
  intro x1 x2 x3 σ r σ' hf
  unfold fX4_damage_L51 at hf
  refine ky_iconst (v := (3 : Int32)) (n := 52) dX4_damage_51 rfl rfl ?_
  refine ky_sub [0, 1, 2, 3] (lv' := [(0, ky_r G 7), (1, .int x1), (2, .int x2), (3, .int x3)]) rfl ?_
  exact tX4_damage_L52 d x1 x2 x3 (3 : Int32) σ _ _ hf
def fX4_damage (a1 : Int32) (a2 : Int32) (a3 : Int32) (σ : ky_St) : Option (Int32 × ky_St) :=
  ky_bd (fX4_isSet a1 σ) fun v3 s1 =>
  if v3 = 0 then (
  fX4_damage_L16 a1 a2 a3 s1) else (
  ky_bd (fX4_isKind a2 s1) fun v42 s40 =>
  if v42 = 0 then (
  fX4_damage_L16 a1 a2 a3 s40) else (
  if (1 : Int32) ≤ a3 then (
  ky_bd (fX4_isInYard a1 s40) fun v47 s45 =>
  if v47 = 0 then (
  fX4_damage_L51 a1 a2 a3 s45) else (
  ky_bd (fX4_hasSo a1 a2 a3 s45) fun v51 s49 =>
  if v51 = 0 then (
  fX4_damage_L51 a1 a2 a3 s49) else (
  fX4_damage_L52 a1 a2 a3 (0 : Int32) s49))) else (
  fX4_damage_L52 a1 a2 a3 (2 : Int32) s40)))
set_option maxHeartbeats 4000000 in
set_option maxRecDepth 100000 in
theorem KX4_damage {G : ky_G} (d : Nat) (a1 : Int32) (a2 : Int32) (a3 : Int32) (σ : ky_St) (r : Int32) (σ' : ky_St) (hf : fX4_damage a1 a2 a3 σ = some (r, σ')) : ky_K G mX4_damage (d + 3) 0 0 [ky_r G 7, .int a1, .int a2, .int a3] σ (.inr (some (.int r))) σ' := by
  unfold fX4_damage at hf
  refine ky_enter rfl (by decide +kernel) (Nat.le_of_ble_eq_true rfl) (lv := [(0, ky_r G 7), (1, .int a1), (2, .int a2), (3, .int a3)]) rfl ?_
  refine ky_aload_n (n := 1) dX4_damage_0 rfl rfl 0 rfl ?_
  refine ky_aload_n (n := 2) dX4_damage_1 rfl rfl 0 rfl ?_
  refine ky_iload_n (n := 3) dX4_damage_2 rfl rfl 1 rfl ?_
  obtain ⟨v3, s1, h2, hf⟩ := ky_bd_e hf
  refine ky_callV (kc := 0) (ks := 0) (kc2 := 0) (ks2 := 0) (k0 := 7) (as := [.int a1]) (st := [ky_r G 7]) (KX4_isSet (d + 1) a1 σ _ _ h2) okX4_isSet wl_X4_67 kc_7 (q := (RX4, TX4, 12)) rfl rfl rfl rfl (Nat.le_of_ble_eq_true rfl) dX4_damage_3 rfl ?_
  refine ky_if_eq (n := 9) (tgt := 16) dX4_damage_6 rfl rfl (fun c4 => ?_) (fun c4 => ?_)
  · have hf := ky_pos c4 hf
    refine ky_sub [0, 1, 2, 3] (lv' := [(0, ky_r G 7), (1, .int a1), (2, .int a2), (3, .int a3)]) rfl ?_
    exact tX4_damage_L16 d a1 a2 a3 s1 _ _ hf
  · have hf := ky_neg c4 hf
    refine ky_iload_n (n := 10) dX4_damage_9 rfl rfl 2 rfl ?_
    obtain ⟨v42, s40, h41, hf⟩ := ky_bd_e hf
    refine ky_callS (kc := 0) (ks := 0) (kc2 := 0) (ks2 := 0) (as := [.int a2]) (st := [ky_r G 7]) (KX4_isKind (d + 1) a2 s1 _ _ h41) okX4_isKind wl_X4_64 rfl rfl (Nat.le_of_ble_eq_true rfl) dX4_damage_10 rfl ?_
    refine ky_if_ne (n := 16) (tgt := 20) dX4_damage_13 rfl rfl (fun c43 => ?_) (fun c43 => ?_)
    · have hf := ky_neg c43 hf
      refine ky_iload_n (n := 21) dX4_damage_20 rfl rfl 3 rfl ?_
      refine ky_iconst (v := (1 : Int32)) (n := 22) dX4_damage_21 rfl rfl ?_
      refine ky_icmp_ge (n := 25) (tgt := 29) dX4_damage_22 rfl rfl (fun c44 => ?_) (fun c44 => ?_)
      · have hf := ky_pos c44 hf
        refine ky_aload_n (n := 30) dX4_damage_29 rfl rfl 0 rfl ?_
        refine ky_iload_n (n := 31) dX4_damage_30 rfl rfl 1 rfl ?_
        obtain ⟨v47, s45, h46, hf⟩ := ky_bd_e hf
        refine ky_callV (kc := 0) (ks := 0) (kc2 := 0) (ks2 := 0) (k0 := 7) (as := [.int a1]) (st := [ky_r G 7]) (KX4_isInYard (d + 1) a1 s40 _ _ h46) okX4_isInYard wl_X4_44 kc_7 (q := (RX4, TX4, 12)) rfl rfl rfl rfl (Nat.le_of_ble_eq_true rfl) dX4_damage_31 rfl ?_
        refine ky_if_eq (n := 37) (tgt := 51) dX4_damage_34 rfl rfl (fun c48 => ?_) (fun c48 => ?_)
        · have hf := ky_pos c48 hf
          refine ky_sub [0, 1, 2, 3] (lv' := [(0, ky_r G 7), (1, .int a1), (2, .int a2), (3, .int a3)]) rfl ?_
          exact tX4_damage_L51 d a1 a2 a3 s45 _ _ hf
        · have hf := ky_neg c48 hf
          refine ky_aload_n (n := 38) dX4_damage_37 rfl rfl 0 rfl ?_
          refine ky_iload_n (n := 39) dX4_damage_38 rfl rfl 1 rfl ?_
          refine ky_iload_n (n := 40) dX4_damage_39 rfl rfl 2 rfl ?_
          refine ky_iload_n (n := 41) dX4_damage_40 rfl rfl 3 rfl ?_
          obtain ⟨v51, s49, h50, hf⟩ := ky_bd_e hf
          refine ky_callV (kc := 0) (ks := 0) (kc2 := 0) (ks2 := 0) (k0 := 7) (as := [.int a1, .int a2, .int a3]) (st := [ky_r G 7]) (KX4_hasSo (d + 1) a1 a2 a3 s45 _ _ h50) okX4_hasSo wl_X4_73 kc_7 (q := (RX4, TX4, 12)) rfl rfl rfl rfl (Nat.le_of_ble_eq_true rfl) dX4_damage_41 rfl ?_
          refine ky_if_eq (n := 47) (tgt := 51) dX4_damage_44 rfl rfl (fun c52 => ?_) (fun c52 => ?_)
          · have hf := ky_pos c52 hf
            refine ky_sub [0, 1, 2, 3] (lv' := [(0, ky_r G 7), (1, .int a1), (2, .int a2), (3, .int a3)]) rfl ?_
            exact tX4_damage_L51 d a1 a2 a3 s49 _ _ hf
          · have hf := ky_neg c52 hf
            refine ky_iconst (v := (0 : Int32)) (n := 48) dX4_damage_47 rfl rfl ?_
            refine ky_goto (tgt := 52) dX4_damage_48 rfl ?_
            refine ky_sub [0, 1, 2, 3] (lv' := [(0, ky_r G 7), (1, .int a1), (2, .int a2), (3, .int a3)]) rfl ?_
            exact tX4_damage_L52 d a1 a2 a3 (0 : Int32) s49 _ _ hf
      · have hf := ky_neg c44 hf
        refine ky_iconst (v := (2 : Int32)) (n := 26) dX4_damage_25 rfl rfl ?_
        refine ky_goto (tgt := 52) dX4_damage_26 rfl ?_
        refine ky_sub [0, 1, 2, 3] (lv' := [(0, ky_r G 7), (1, .int a1), (2, .int a2), (3, .int a3)]) rfl ?_
        exact tX4_damage_L52 d a1 a2 a3 (2 : Int32) s40 _ _ hf
    · have hf := ky_pos c43 hf
      refine ky_sub [0, 1, 2, 3] (lv' := [(0, ky_r G 7), (1, .int a1), (2, .int a2), (3, .int a3)]) rfl ?_
      exact tX4_damage_L16 d a1 a2 a3 s40 _ _ hf
def fX4_swap_L60 : Nat → Int32 → Int32 → Int32 → ky_St → Option (Int32 × ky_St)
  | 0, _, _, _, _ => none
  | fu + 1, x1, x2, x3, σ =>
  if (4 : Int32) ≤ x3 then (
  ky_bd (fX4_partsOf x1 σ) fun v13 s11 =>
  some (v13, s11)) else (
  ky_bd (fX4_of x1 ((2 : Int32) + x3) σ) fun v16 s14 =>
  ky_bd (fX4_of x2 ((2 : Int32) + x3) s14) fun v19 s17 =>
  ky_bd (fX4_put x1 ((2 : Int32) + x3) v19 s17) fun v22 s20 =>
  ky_bd (fX4_put x2 ((2 : Int32) + x3) v16 s20) fun v25 s23 =>
  ky_bn (x3 + (1 : Int32)) fun v26 =>
  fX4_swap_L60 fu x1 x2 v26 s23)
set_option maxHeartbeats 4000000 in
set_option maxRecDepth 100000 in
theorem tX4_swap_L60 {G : ky_G} (d : Nat) : ∀ (fu : Nat) (x1 : Int32) (x2 : Int32) (x3 : Int32) (σ : ky_St) (r : Int32) (σ' : ky_St), fX4_swap_L60 fu x1 x2 x3 σ = some (r, σ') → ky_T G mX4_swap (d + 2) 0 0 60 [(0, ky_r G 7), (1, .int x1), (2, .int x2), (3, .int x3)] [] σ (.inr (some (.int r))) σ' := by
  intro fu
  induction fu with
  | zero =>
    intro x1 x2 x3 σ r σ' hf
    rw [fX4_swap_L60] at hf
    cases hf
  | succ fu ih =>
    intro x1 x2 x3 σ r σ' hf
    rw [fX4_swap_L60] at hf
    refine ky_iload_n (n := 61) dX4_swap_60 rfl rfl 3 rfl ?_
    refine ky_iconst (v := (4 : Int32)) (n := 62) dX4_swap_61 rfl rfl ?_
    refine ky_icmp_ge (n := 65) (tgt := 107) dX4_swap_62 rfl rfl (fun c10 => ?_) (fun c10 => ?_)
    · have hf := ky_pos c10 hf
      refine ky_aload_n (n := 108) dX4_swap_107 rfl rfl 0 rfl ?_
      refine ky_iload_n (n := 109) dX4_swap_108 rfl rfl 1 rfl ?_
      obtain ⟨v13, s11, h12, hf⟩ := ky_bd_e hf
      refine ky_callV (kc := 0) (ks := 0) (kc2 := 0) (ks2 := 0) (k0 := 7) (as := [.int x1]) (st := []) (KX4_partsOf d x1 σ _ _ h12) okX4_partsOf wl_X4_86 kc_7 (q := (RX4, TX4, 12)) rfl rfl rfl rfl (Nat.le_of_ble_eq_true rfl) dX4_swap_109 rfl ?_
      cases hf
      exact ky_ireturn dX4_swap_112 rfl
    · have hf := ky_neg c10 hf
      refine ky_aload_n (n := 66) dX4_swap_65 rfl rfl 0 rfl ?_
      refine ky_iload_n (n := 67) dX4_swap_66 rfl rfl 1 rfl ?_
      refine ky_iconst (v := (2 : Int32)) (n := 68) dX4_swap_67 rfl rfl ?_
      refine ky_iload_n (n := 69) dX4_swap_68 rfl rfl 3 rfl ?_
      refine ky_iadd (n := 70) dX4_swap_69 rfl ?_
      obtain ⟨v16, s14, h15, hf⟩ := ky_bd_e hf
      refine ky_callV (kc := 0) (ks := 0) (kc2 := 0) (ks2 := 0) (k0 := 7) (as := [.int x1, .int ((2 : Int32) + x3)]) (st := []) (KX4_of (d + 1) x1 ((2 : Int32) + x3) σ _ _ h15) okX4_of wl_X4_36 kc_7 (q := (RX4, TX4, 12)) rfl rfl rfl rfl (Nat.le_of_ble_eq_true rfl) dX4_swap_70 rfl ?_
      refine ky_istore (lv' := [(4, .int v16), (0, ky_r G 7), (1, .int x1), (2, .int x2), (3, .int x3)]) (n := 75) dX4_swap_73 rfl (Nat.le_of_ble_eq_true rfl) rfl ?_
      refine ky_aload_n (n := 76) dX4_swap_75 rfl rfl 1 rfl ?_
      refine ky_iload_n (n := 77) dX4_swap_76 rfl rfl 2 rfl ?_
      refine ky_iconst (v := (2 : Int32)) (n := 78) dX4_swap_77 rfl rfl ?_
      refine ky_iload_n (n := 79) dX4_swap_78 rfl rfl 4 rfl ?_
      refine ky_iadd (n := 80) dX4_swap_79 rfl ?_
      refine ky_aload_n (n := 81) dX4_swap_80 rfl rfl 1 rfl ?_
      refine ky_iload_n (n := 82) dX4_swap_81 rfl rfl 3 rfl ?_
      refine ky_iconst (v := (2 : Int32)) (n := 83) dX4_swap_82 rfl rfl ?_
      refine ky_iload_n (n := 84) dX4_swap_83 rfl rfl 4 rfl ?_
      refine ky_iadd (n := 85) dX4_swap_84 rfl ?_
      obtain ⟨v19, s17, h18, hf⟩ := ky_bd_e hf
      refine ky_callV (kc := 0) (ks := 0) (kc2 := 0) (ks2 := 0) (k0 := 7) (as := [.int x2, .int ((2 : Int32) + x3)]) (st := [.int ((2 : Int32) + x3), .int x1, ky_r G 7]) (KX4_of (d + 1) x2 ((2 : Int32) + x3) s14 _ _ h18) okX4_of wl_X4_36 kc_7 (q := (RX4, TX4, 12)) rfl rfl rfl rfl (Nat.le_of_ble_eq_true rfl) dX4_swap_85 rfl ?_
      obtain ⟨v22, s20, h21, hf⟩ := ky_bd_e hf
      refine ky_callV (kc := 0) (ks := 0) (kc2 := 0) (ks2 := 0) (k0 := 7) (as := [.int x1, .int ((2 : Int32) + x3), .int v19]) (st := []) (KX4_put (d + 1) x1 ((2 : Int32) + x3) v19 s17 _ _ h21) okX4_put wl_X4_57 kc_7 (q := (RX4, TX4, 12)) rfl rfl rfl rfl (Nat.le_of_ble_eq_true rfl) dX4_swap_88 rfl ?_
      refine ky_aload_n (n := 92) dX4_swap_91 rfl rfl 1 rfl ?_
      refine ky_iload_n (n := 93) dX4_swap_92 rfl rfl 3 rfl ?_
      refine ky_iconst (v := (2 : Int32)) (n := 94) dX4_swap_93 rfl rfl ?_
      refine ky_iload_n (n := 95) dX4_swap_94 rfl rfl 4 rfl ?_
      refine ky_iadd (n := 96) dX4_swap_95 rfl ?_
      refine ky_iload (n := 98) dX4_swap_96 rfl 0 rfl ?_
      obtain ⟨v25, s23, h24, hf⟩ := ky_bd_e hf
      refine ky_callV (kc := 0) (ks := 0) (kc2 := 0) (ks2 := 0) (k0 := 7) (as := [.int x2, .int ((2 : Int32) + x3), .int v16]) (st := []) (KX4_put (d + 1) x2 ((2 : Int32) + x3) v16 s20 _ _ h24) okX4_put wl_X4_57 kc_7 (q := (RX4, TX4, 12)) rfl rfl rfl rfl (Nat.le_of_ble_eq_true rfl) dX4_swap_98 rfl ?_
      refine ky_iincB (c := (1 : Int32)) (n := 104) dX4_swap_101 rfl 4 rfl rfl (Nat.le_of_ble_eq_true rfl) (fun v26 ev26 => ?_)
      have hf := ky_bn_e hf v26 ev26
      refine ky_lv (lv' := [(3, .int v26), (4, .int v16), (0, ky_r G 7), (1, .int x1), (2, .int x2)]) rfl ?_
      refine ky_goto (tgt := 60) dX4_swap_104 rfl ?_
      refine ky_sub [2, 3, 4, 0] (lv' := [(0, ky_r G 7), (1, .int x1), (2, .int x2), (3, .int v26)]) rfl ?_
      exact ih x1 x2 v26 s23 _ _ hf
def fX4_swap (a1 : Int32) (a2 : Int32) (σ : ky_St) : Option (Int32 × ky_St) :=
  ky_bd (fX4_isSet a1 σ) fun v3 s1 =>
  if v3 = 0 then (
  ky_bn (ky_u1 s1 7 5 (1 : Int32)) fun s5 =>
  if (s5.1 7 5) ≤ 0 then (
  ky_bd (fX4_save s5) fun v9 s7 =>
  fX4_swap_L60 FU a1 a2 (0 : Int32) s7) else (
  some ((0 : Int32), s5))) else (
  ky_bd (fX4_isSet a2 s1) fun v29 s27 =>
  if v29 = 0 then (
  ky_bn (ky_u1 s27 7 5 (1 : Int32)) fun s54 =>
  if (s54.1 7 5) ≤ 0 then (
  ky_bd (fX4_save s54) fun v58 s56 =>
  fX4_swap_L60 FU a1 a2 (0 : Int32) s56) else (
  some ((0 : Int32), s54))) else (
  ky_bd (fX4_isInYard a1 s27) fun v33 s31 =>
  if v33 = 0 then (
  ky_bn (ky_u1 s31 7 5 (2 : Int32)) fun s35 =>
  if (s35.1 7 5) ≤ 0 then (
  ky_bd (fX4_save s35) fun v39 s37 =>
  fX4_swap_L60 FU a1 a2 (0 : Int32) s37) else (
  some ((0 : Int32), s35))) else (
  ky_bd (fX4_isInYard a2 s31) fun v42 s40 =>
  if v42 = 0 then (
  ky_bn (ky_u1 s40 7 5 (2 : Int32)) fun s44 =>
  if (s44.1 7 5) ≤ 0 then (
  ky_bd (fX4_save s44) fun v48 s46 =>
  fX4_swap_L60 FU a1 a2 (0 : Int32) s46) else (
  some ((0 : Int32), s44))) else (
  ky_bn (ky_u1 s40 7 5 (0 : Int32)) fun s49 =>
  if (s49.1 7 5) ≤ 0 then (
  ky_bd (fX4_save s49) fun v53 s51 =>
  fX4_swap_L60 FU a1 a2 (0 : Int32) s51) else (
  some ((0 : Int32), s49))))))
set_option maxHeartbeats 4000000 in
set_option maxRecDepth 100000 in
theorem KX4_swap {G : ky_G} (d : Nat) (a1 : Int32) (a2 : Int32) (σ : ky_St) (r : Int32) (σ' : ky_St) (hf : fX4_swap a1 a2 σ = some (r, σ')) : ky_K G mX4_swap (d + 2) 0 0 [ky_r G 7, .int a1, .int a2] σ (.inr (some (.int r))) σ' := by
  unfold fX4_swap at hf
  refine ky_enter rfl (by decide +kernel) (Nat.le_of_ble_eq_true rfl) (lv := [(0, ky_r G 7), (1, .int a1), (2, .int a2)]) rfl ?_
  refine ky_aload_n (n := 1) dX4_swap_0 rfl rfl 0 rfl ?_
  refine ky_aload_n (n := 2) dX4_swap_1 rfl rfl 0 rfl ?_
  refine ky_iload_n (n := 3) dX4_swap_2 rfl rfl 1 rfl ?_
  obtain ⟨v3, s1, h2, hf⟩ := ky_bd_e hf
  refine ky_callV (kc := 0) (ks := 0) (kc2 := 0) (ks2 := 0) (k0 := 7) (as := [.int a1]) (st := [ky_r G 7]) (KX4_isSet d a1 σ _ _ h2) okX4_isSet wl_X4_67 kc_7 (q := (RX4, TX4, 12)) rfl rfl rfl rfl (Nat.le_of_ble_eq_true rfl) dX4_swap_3 rfl ?_
  refine ky_if_eq (n := 9) (tgt := 17) dX4_swap_6 rfl rfl (fun c4 => ?_) (fun c4 => ?_)
  · have hf := ky_pos c4 hf
    refine ky_iconst (v := (1 : Int32)) (n := 18) dX4_swap_17 rfl rfl ?_
    refine ky_goto (tgt := 42) dX4_swap_18 rfl ?_
    refine ky_putf (q := (RX4, TX4, 12)) (n := 45) dX4_swap_42 rfl kc_7 rfl (Nat.le_of_ble_eq_true rfl) wg_X4_25 rfl (by decide +kernel) rfl (fun s5 es5 => ?_)
    have hf := ky_bn_e hf s5 es5
    refine ky_aload_n (n := 46) dX4_swap_45 rfl rfl 0 rfl ?_
    refine ky_getf (q := (RX4, TX4, 12)) (v := .int (s5.1 7 5)) (n := 49) dX4_swap_46 rfl kc_7 rfl (Nat.le_of_ble_eq_true rfl) wg_X4_25 (vf_7_5 _ _) ?_
    refine ky_if_le (n := 52) (tgt := 54) dX4_swap_49 rfl rfl (fun c6 => ?_) (fun c6 => ?_)
    · have hf := ky_pos c6 hf
      refine ky_aload_n (n := 55) dX4_swap_54 rfl rfl 0 rfl ?_
      obtain ⟨v9, s7, h8, hf⟩ := ky_bd_e hf
      refine ky_callV (kc := 0) (ks := 0) (kc2 := 0) (ks2 := 0) (k0 := 7) (as := []) (st := []) (KX4_save (d + 1) s5 _ _ h8) okX4_save wl_X4_54 kc_7 (q := (RX4, TX4, 12)) rfl rfl rfl rfl (Nat.le_of_ble_eq_true rfl) dX4_swap_55 rfl ?_
      refine ky_iconst (v := (0 : Int32)) (n := 59) dX4_swap_58 rfl rfl ?_
      refine ky_istore_n (lv' := [(3, .int (0 : Int32)), (0, ky_r G 7), (1, .int a1), (2, .int a2)]) (n := 60) dX4_swap_59 rfl rfl (Nat.le_of_ble_eq_true rfl) rfl ?_
      refine ky_sub [1, 2, 3, 0] (lv' := [(0, ky_r G 7), (1, .int a1), (2, .int a2), (3, .int (0 : Int32))]) rfl ?_
      exact tX4_swap_L60 d FU a1 a2 (0 : Int32) s7 _ _ hf
    · have hf := ky_neg c6 hf
      refine ky_iconst (v := (0 : Int32)) (n := 53) dX4_swap_52 rfl rfl ?_
      cases hf
      exact ky_ireturn dX4_swap_53 rfl
  · have hf := ky_neg c4 hf
    refine ky_aload_n (n := 10) dX4_swap_9 rfl rfl 0 rfl ?_
    refine ky_iload_n (n := 11) dX4_swap_10 rfl rfl 2 rfl ?_
    obtain ⟨v29, s27, h28, hf⟩ := ky_bd_e hf
    refine ky_callV (kc := 0) (ks := 0) (kc2 := 0) (ks2 := 0) (k0 := 7) (as := [.int a2]) (st := [ky_r G 7]) (KX4_isSet d a2 s1 _ _ h28) okX4_isSet wl_X4_67 kc_7 (q := (RX4, TX4, 12)) rfl rfl rfl rfl (Nat.le_of_ble_eq_true rfl) dX4_swap_11 rfl ?_
    refine ky_if_ne (n := 17) (tgt := 21) dX4_swap_14 rfl rfl (fun c30 => ?_) (fun c30 => ?_)
    · have hf := ky_neg c30 hf
      refine ky_aload_n (n := 22) dX4_swap_21 rfl rfl 0 rfl ?_
      refine ky_iload_n (n := 23) dX4_swap_22 rfl rfl 1 rfl ?_
      obtain ⟨v33, s31, h32, hf⟩ := ky_bd_e hf
      refine ky_callV (kc := 0) (ks := 0) (kc2 := 0) (ks2 := 0) (k0 := 7) (as := [.int a1]) (st := [ky_r G 7]) (KX4_isInYard d a1 s27 _ _ h32) okX4_isInYard wl_X4_44 kc_7 (q := (RX4, TX4, 12)) rfl rfl rfl rfl (Nat.le_of_ble_eq_true rfl) dX4_swap_23 rfl ?_
      refine ky_if_eq (n := 29) (tgt := 41) dX4_swap_26 rfl rfl (fun c34 => ?_) (fun c34 => ?_)
      · have hf := ky_pos c34 hf
        refine ky_iconst (v := (2 : Int32)) (n := 42) dX4_swap_41 rfl rfl ?_
        refine ky_putf (q := (RX4, TX4, 12)) (n := 45) dX4_swap_42 rfl kc_7 rfl (Nat.le_of_ble_eq_true rfl) wg_X4_25 rfl (by decide +kernel) rfl (fun s35 es35 => ?_)
        have hf := ky_bn_e hf s35 es35
        refine ky_aload_n (n := 46) dX4_swap_45 rfl rfl 0 rfl ?_
        refine ky_getf (q := (RX4, TX4, 12)) (v := .int (s35.1 7 5)) (n := 49) dX4_swap_46 rfl kc_7 rfl (Nat.le_of_ble_eq_true rfl) wg_X4_25 (vf_7_5 _ _) ?_
        refine ky_if_le (n := 52) (tgt := 54) dX4_swap_49 rfl rfl (fun c36 => ?_) (fun c36 => ?_)
        · have hf := ky_pos c36 hf
          refine ky_aload_n (n := 55) dX4_swap_54 rfl rfl 0 rfl ?_
          obtain ⟨v39, s37, h38, hf⟩ := ky_bd_e hf
          refine ky_callV (kc := 0) (ks := 0) (kc2 := 0) (ks2 := 0) (k0 := 7) (as := []) (st := []) (KX4_save (d + 1) s35 _ _ h38) okX4_save wl_X4_54 kc_7 (q := (RX4, TX4, 12)) rfl rfl rfl rfl (Nat.le_of_ble_eq_true rfl) dX4_swap_55 rfl ?_
          refine ky_iconst (v := (0 : Int32)) (n := 59) dX4_swap_58 rfl rfl ?_
          refine ky_istore_n (lv' := [(3, .int (0 : Int32)), (0, ky_r G 7), (1, .int a1), (2, .int a2)]) (n := 60) dX4_swap_59 rfl rfl (Nat.le_of_ble_eq_true rfl) rfl ?_
          refine ky_sub [1, 2, 3, 0] (lv' := [(0, ky_r G 7), (1, .int a1), (2, .int a2), (3, .int (0 : Int32))]) rfl ?_
          exact tX4_swap_L60 d FU a1 a2 (0 : Int32) s37 _ _ hf
        · have hf := ky_neg c36 hf
          refine ky_iconst (v := (0 : Int32)) (n := 53) dX4_swap_52 rfl rfl ?_
          cases hf
          exact ky_ireturn dX4_swap_53 rfl
      · have hf := ky_neg c34 hf
        refine ky_aload_n (n := 30) dX4_swap_29 rfl rfl 0 rfl ?_
        refine ky_iload_n (n := 31) dX4_swap_30 rfl rfl 2 rfl ?_
        obtain ⟨v42, s40, h41, hf⟩ := ky_bd_e hf
        refine ky_callV (kc := 0) (ks := 0) (kc2 := 0) (ks2 := 0) (k0 := 7) (as := [.int a2]) (st := [ky_r G 7]) (KX4_isInYard d a2 s31 _ _ h41) okX4_isInYard wl_X4_44 kc_7 (q := (RX4, TX4, 12)) rfl rfl rfl rfl (Nat.le_of_ble_eq_true rfl) dX4_swap_31 rfl ?_
        refine ky_if_eq (n := 37) (tgt := 41) dX4_swap_34 rfl rfl (fun c43 => ?_) (fun c43 => ?_)
        · have hf := ky_pos c43 hf
          refine ky_iconst (v := (2 : Int32)) (n := 42) dX4_swap_41 rfl rfl ?_
          refine ky_putf (q := (RX4, TX4, 12)) (n := 45) dX4_swap_42 rfl kc_7 rfl (Nat.le_of_ble_eq_true rfl) wg_X4_25 rfl (by decide +kernel) rfl (fun s44 es44 => ?_)
          have hf := ky_bn_e hf s44 es44
          refine ky_aload_n (n := 46) dX4_swap_45 rfl rfl 0 rfl ?_
          refine ky_getf (q := (RX4, TX4, 12)) (v := .int (s44.1 7 5)) (n := 49) dX4_swap_46 rfl kc_7 rfl (Nat.le_of_ble_eq_true rfl) wg_X4_25 (vf_7_5 _ _) ?_
          refine ky_if_le (n := 52) (tgt := 54) dX4_swap_49 rfl rfl (fun c45 => ?_) (fun c45 => ?_)
          · have hf := ky_pos c45 hf
            refine ky_aload_n (n := 55) dX4_swap_54 rfl rfl 0 rfl ?_
            obtain ⟨v48, s46, h47, hf⟩ := ky_bd_e hf
            refine ky_callV (kc := 0) (ks := 0) (kc2 := 0) (ks2 := 0) (k0 := 7) (as := []) (st := []) (KX4_save (d + 1) s44 _ _ h47) okX4_save wl_X4_54 kc_7 (q := (RX4, TX4, 12)) rfl rfl rfl rfl (Nat.le_of_ble_eq_true rfl) dX4_swap_55 rfl ?_
            refine ky_iconst (v := (0 : Int32)) (n := 59) dX4_swap_58 rfl rfl ?_
            refine ky_istore_n (lv' := [(3, .int (0 : Int32)), (0, ky_r G 7), (1, .int a1), (2, .int a2)]) (n := 60) dX4_swap_59 rfl rfl (Nat.le_of_ble_eq_true rfl) rfl ?_
            refine ky_sub [1, 2, 3, 0] (lv' := [(0, ky_r G 7), (1, .int a1), (2, .int a2), (3, .int (0 : Int32))]) rfl ?_
            exact tX4_swap_L60 d FU a1 a2 (0 : Int32) s46 _ _ hf
          · have hf := ky_neg c45 hf
            refine ky_iconst (v := (0 : Int32)) (n := 53) dX4_swap_52 rfl rfl ?_
            cases hf
            exact ky_ireturn dX4_swap_53 rfl
        · have hf := ky_neg c43 hf
          refine ky_iconst (v := (0 : Int32)) (n := 38) dX4_swap_37 rfl rfl ?_
          refine ky_goto (tgt := 42) dX4_swap_38 rfl ?_
          refine ky_putf (q := (RX4, TX4, 12)) (n := 45) dX4_swap_42 rfl kc_7 rfl (Nat.le_of_ble_eq_true rfl) wg_X4_25 rfl (by decide +kernel) rfl (fun s49 es49 => ?_)
          have hf := ky_bn_e hf s49 es49
          refine ky_aload_n (n := 46) dX4_swap_45 rfl rfl 0 rfl ?_
          refine ky_getf (q := (RX4, TX4, 12)) (v := .int (s49.1 7 5)) (n := 49) dX4_swap_46 rfl kc_7 rfl (Nat.le_of_ble_eq_true rfl) wg_X4_25 (vf_7_5 _ _) ?_
          refine ky_if_le (n := 52) (tgt := 54) dX4_swap_49 rfl rfl (fun c50 => ?_) (fun c50 => ?_)
          · have hf := ky_pos c50 hf
            refine ky_aload_n (n := 55) dX4_swap_54 rfl rfl 0 rfl ?_
            obtain ⟨v53, s51, h52, hf⟩ := ky_bd_e hf
            refine ky_callV (kc := 0) (ks := 0) (kc2 := 0) (ks2 := 0) (k0 := 7) (as := []) (st := []) (KX4_save (d + 1) s49 _ _ h52) okX4_save wl_X4_54 kc_7 (q := (RX4, TX4, 12)) rfl rfl rfl rfl (Nat.le_of_ble_eq_true rfl) dX4_swap_55 rfl ?_
            refine ky_iconst (v := (0 : Int32)) (n := 59) dX4_swap_58 rfl rfl ?_
            refine ky_istore_n (lv' := [(3, .int (0 : Int32)), (0, ky_r G 7), (1, .int a1), (2, .int a2)]) (n := 60) dX4_swap_59 rfl rfl (Nat.le_of_ble_eq_true rfl) rfl ?_
            refine ky_sub [1, 2, 3, 0] (lv' := [(0, ky_r G 7), (1, .int a1), (2, .int a2), (3, .int (0 : Int32))]) rfl ?_
            exact tX4_swap_L60 d FU a1 a2 (0 : Int32) s51 _ _ hf
          · have hf := ky_neg c50 hf
            refine ky_iconst (v := (0 : Int32)) (n := 53) dX4_swap_52 rfl rfl ?_
            cases hf
            exact ky_ireturn dX4_swap_53 rfl
    · have hf := ky_pos c30 hf
      refine ky_iconst (v := (1 : Int32)) (n := 18) dX4_swap_17 rfl rfl ?_
      refine ky_goto (tgt := 42) dX4_swap_18 rfl ?_
      refine ky_putf (q := (RX4, TX4, 12)) (n := 45) dX4_swap_42 rfl kc_7 rfl (Nat.le_of_ble_eq_true rfl) wg_X4_25 rfl (by decide +kernel) rfl (fun s54 es54 => ?_)
      have hf := ky_bn_e hf s54 es54
      refine ky_aload_n (n := 46) dX4_swap_45 rfl rfl 0 rfl ?_
      refine ky_getf (q := (RX4, TX4, 12)) (v := .int (s54.1 7 5)) (n := 49) dX4_swap_46 rfl kc_7 rfl (Nat.le_of_ble_eq_true rfl) wg_X4_25 (vf_7_5 _ _) ?_
      refine ky_if_le (n := 52) (tgt := 54) dX4_swap_49 rfl rfl (fun c55 => ?_) (fun c55 => ?_)
      · have hf := ky_pos c55 hf
        refine ky_aload_n (n := 55) dX4_swap_54 rfl rfl 0 rfl ?_
        obtain ⟨v58, s56, h57, hf⟩ := ky_bd_e hf
        refine ky_callV (kc := 0) (ks := 0) (kc2 := 0) (ks2 := 0) (k0 := 7) (as := []) (st := []) (KX4_save (d + 1) s54 _ _ h57) okX4_save wl_X4_54 kc_7 (q := (RX4, TX4, 12)) rfl rfl rfl rfl (Nat.le_of_ble_eq_true rfl) dX4_swap_55 rfl ?_
        refine ky_iconst (v := (0 : Int32)) (n := 59) dX4_swap_58 rfl rfl ?_
        refine ky_istore_n (lv' := [(3, .int (0 : Int32)), (0, ky_r G 7), (1, .int a1), (2, .int a2)]) (n := 60) dX4_swap_59 rfl rfl (Nat.le_of_ble_eq_true rfl) rfl ?_
        refine ky_sub [1, 2, 3, 0] (lv' := [(0, ky_r G 7), (1, .int a1), (2, .int a2), (3, .int (0 : Int32))]) rfl ?_
        exact tX4_swap_L60 d FU a1 a2 (0 : Int32) s56 _ _ hf
      · have hf := ky_neg c55 hf
        refine ky_iconst (v := (0 : Int32)) (n := 53) dX4_swap_52 rfl rfl ?_
        cases hf
        exact ky_ireturn dX4_swap_53 rfl
def fX4_dueIn (a1 : Int32) (a2 : Int32) (σ : ky_St) : Option (Int32 × ky_St) :=
  ky_g (¬ ((2 : Int32) < 0 ∨ 283 ≤ (2 : Int32).toNatClampNeg)) (
  ky_bd (fX4_of a1 (1 : Int32) σ) fun v4 s2 =>
  ky_bn (((σ.1 8 (2 : Int32).toNatClampNeg) + a2) - v4) fun v5 =>
  ky_bd (fX4_isInYard a1 s2) fun v8 s6 =>
  if v8 = 0 then (
  ky_g (¬ ((0 : Int32) < 0 ∨ 283 ≤ (0 : Int32).toNatClampNeg)) (
  if (s6.1 8 (0 : Int32).toNatClampNeg) ≤ v5 then (
  ky_g (¬ ((1 : Int32) < 0 ∨ 283 ≤ (1 : Int32).toNatClampNeg)) (
  some ((v5 * (s6.1 8 (1 : Int32).toNatClampNeg)), s6))) else (
  ky_g (¬ ((0 : Int32) < 0 ∨ 283 ≤ (0 : Int32).toNatClampNeg)) (
  ky_g (¬ ((1 : Int32) < 0 ∨ 283 ≤ (1 : Int32).toNatClampNeg)) (
  some (((s6.1 8 (0 : Int32).toNatClampNeg) * (s6.1 8 (1 : Int32).toNatClampNeg)), s6)))))) else (
  some ((0 : Int32), s6)))
set_option maxHeartbeats 4000000 in
set_option maxRecDepth 100000 in
theorem KX4_dueIn {G : ky_G} (d : Nat) (a1 : Int32) (a2 : Int32) (σ : ky_St) (r : Int32) (σ' : ky_St) (hf : fX4_dueIn a1 a2 σ = some (r, σ')) : ky_K G mX4_dueIn (d + 2) 0 0 [ky_r G 7, .int a1, .int a2] σ (.inr (some (.int r))) σ' := by
  unfold fX4_dueIn at hf
  refine ky_enter rfl (by decide +kernel) (Nat.le_of_ble_eq_true rfl) (lv := [(0, ky_r G 7), (1, .int a1), (2, .int a2)]) rfl ?_
  refine ky_aload_n (n := 1) dX4_dueIn_0 rfl rfl 0 rfl ?_
  refine ky_getf (q := (RX4, TX4, 12)) (v := ky_r G 8) (n := 4) dX4_dueIn_1 rfl kc_7 rfl (Nat.le_of_ble_eq_true rfl) wg_X4_7 (vf_7_0 _ _) ?_
  refine ky_iconst (v := (2 : Int32)) (n := 5) dX4_dueIn_4 rfl rfl ?_
  obtain ⟨g1, hf⟩ := ky_ge hf
  refine ky_iald (n := 6) dX4_dueIn_5 rfl kl_8 g1 ?_
  refine ky_iload_n (n := 7) dX4_dueIn_6 rfl rfl 2 rfl ?_
  refine ky_iadd (n := 8) dX4_dueIn_7 rfl ?_
  refine ky_aload_n (n := 9) dX4_dueIn_8 rfl rfl 0 rfl ?_
  refine ky_iload_n (n := 10) dX4_dueIn_9 rfl rfl 1 rfl ?_
  refine ky_iconst (v := (1 : Int32)) (n := 11) dX4_dueIn_10 rfl rfl ?_
  obtain ⟨v4, s2, h3, hf⟩ := ky_bd_e hf
  refine ky_callV (kc := 0) (ks := 0) (kc2 := 0) (ks2 := 0) (k0 := 7) (as := [.int a1, .int (1 : Int32)]) (st := [.int ((σ.1 8 (2 : Int32).toNatClampNeg) + a2)]) (KX4_of (d + 1) a1 (1 : Int32) σ _ _ h3) okX4_of wl_X4_36 kc_7 (q := (RX4, TX4, 12)) rfl rfl rfl rfl (Nat.le_of_ble_eq_true rfl) dX4_dueIn_11 rfl ?_
  refine ky_isub (n := 15) dX4_dueIn_14 rfl ?_
  refine ky_topi (fun v5 ev5 => ?_)
  have hf := ky_bn_e hf v5 ev5
  refine ky_istore_n (lv' := [(3, .int v5), (0, ky_r G 7), (1, .int a1), (2, .int a2)]) (n := 16) dX4_dueIn_15 rfl rfl (Nat.le_of_ble_eq_true rfl) rfl ?_
  refine ky_aload_n (n := 17) dX4_dueIn_16 rfl rfl 1 rfl ?_
  refine ky_iload_n (n := 18) dX4_dueIn_17 rfl rfl 2 rfl ?_
  obtain ⟨v8, s6, h7, hf⟩ := ky_bd_e hf
  refine ky_callV (kc := 0) (ks := 0) (kc2 := 0) (ks2 := 0) (k0 := 7) (as := [.int a1]) (st := []) (KX4_isInYard d a1 s2 _ _ h7) okX4_isInYard wl_X4_44 kc_7 (q := (RX4, TX4, 12)) rfl rfl rfl rfl (Nat.le_of_ble_eq_true rfl) dX4_dueIn_18 rfl ?_
  refine ky_if_eq (n := 24) (tgt := 28) dX4_dueIn_21 rfl rfl (fun c9 => ?_) (fun c9 => ?_)
  · have hf := ky_pos c9 hf
    refine ky_iload_n (n := 29) dX4_dueIn_28 rfl rfl 0 rfl ?_
    refine ky_aload_n (n := 30) dX4_dueIn_29 rfl rfl 1 rfl ?_
    refine ky_getf (q := (RX4, TX4, 12)) (v := ky_r G 8) (n := 33) dX4_dueIn_30 rfl kc_7 rfl (Nat.le_of_ble_eq_true rfl) wg_X4_7 (vf_7_0 _ _) ?_
    refine ky_iconst (v := (0 : Int32)) (n := 34) dX4_dueIn_33 rfl rfl ?_
    obtain ⟨g10, hf⟩ := ky_ge hf
    refine ky_iald (n := 35) dX4_dueIn_34 rfl kl_8 g10 ?_
    refine ky_icmp_ge (n := 38) (tgt := 47) dX4_dueIn_35 rfl rfl (fun c11 => ?_) (fun c11 => ?_)
    · have hf := ky_pos c11 hf
      refine ky_iload_n (n := 48) dX4_dueIn_47 rfl rfl 0 rfl ?_
      refine ky_aload_n (n := 49) dX4_dueIn_48 rfl rfl 1 rfl ?_
      refine ky_getf (q := (RX4, TX4, 12)) (v := ky_r G 8) (n := 52) dX4_dueIn_49 rfl kc_7 rfl (Nat.le_of_ble_eq_true rfl) wg_X4_7 (vf_7_0 _ _) ?_
      refine ky_iconst (v := (1 : Int32)) (n := 53) dX4_dueIn_52 rfl rfl ?_
      obtain ⟨g12, hf⟩ := ky_ge hf
      refine ky_iald (n := 54) dX4_dueIn_53 rfl kl_8 g12 ?_
      refine ky_imul (n := 55) dX4_dueIn_54 rfl ?_
      cases hf
      exact ky_ireturn dX4_dueIn_55 rfl
    · have hf := ky_neg c11 hf
      refine ky_aload_n (n := 39) dX4_dueIn_38 rfl rfl 1 rfl ?_
      refine ky_getf (q := (RX4, TX4, 12)) (v := ky_r G 8) (n := 42) dX4_dueIn_39 rfl kc_7 rfl (Nat.le_of_ble_eq_true rfl) wg_X4_7 (vf_7_0 _ _) ?_
      refine ky_iconst (v := (0 : Int32)) (n := 43) dX4_dueIn_42 rfl rfl ?_
      obtain ⟨g13, hf⟩ := ky_ge hf
      refine ky_iald (n := 44) dX4_dueIn_43 rfl kl_8 g13 ?_
      refine ky_goto (tgt := 48) dX4_dueIn_44 rfl ?_
      refine ky_aload_n (n := 49) dX4_dueIn_48 rfl rfl 1 rfl ?_
      refine ky_getf (q := (RX4, TX4, 12)) (v := ky_r G 8) (n := 52) dX4_dueIn_49 rfl kc_7 rfl (Nat.le_of_ble_eq_true rfl) wg_X4_7 (vf_7_0 _ _) ?_
      refine ky_iconst (v := (1 : Int32)) (n := 53) dX4_dueIn_52 rfl rfl ?_
      obtain ⟨g14, hf⟩ := ky_ge hf
      refine ky_iald (n := 54) dX4_dueIn_53 rfl kl_8 g14 ?_
      refine ky_imul (n := 55) dX4_dueIn_54 rfl ?_
      cases hf
      exact ky_ireturn dX4_dueIn_55 rfl
  · have hf := ky_neg c9 hf
    refine ky_iconst (v := (0 : Int32)) (n := 25) dX4_dueIn_24 rfl rfl ?_
    refine ky_goto (tgt := 55) dX4_dueIn_25 rfl ?_
    cases hf
    exact ky_ireturn dX4_dueIn_55 rfl
def fX4_comes_L37 : Nat → Int32 → Int32 → Int32 → ky_St → Option (Unit × ky_St)
  | 0, _, _, _, _ => none
  | fu + 1, x1, x2, x3, σ =>
  if x3 ≤ 0 then (
  ky_bd (fX4_put x1 (6 : Int32) x2 σ) fun v17 s15 =>
  ky_g (¬ ((4 : Int32) < 0 ∨ 283 ≤ (4 : Int32).toNatClampNeg)) (
  ky_g (¬ ((4 : Int32) < 0 ∨ 283 ≤ (4 : Int32).toNatClampNeg)) (
  ky_bn (ky_u1 s15 8 (4 : Int32).toNatClampNeg ((s15.1 8 (4 : Int32).toNatClampNeg) + (1 : Int32))) fun s20 =>
  some ((), s20)))) else (
  ky_bd (fX4_of x1 (((6 : Int32) + x3) - (1 : Int32)) σ) fun v23 s21 =>
  ky_bd (fX4_put x1 ((6 : Int32) + x3) v23 s21) fun v26 s24 =>
  ky_bn (x3 + (-1 : Int32)) fun v27 =>
  fX4_comes_L37 fu x1 x2 v27 s24)
set_option maxHeartbeats 4000000 in
set_option maxRecDepth 100000 in
theorem tX4_comes_L37 {G : ky_G} (d : Nat) : ∀ (fu : Nat) (x1 : Int32) (x2 : Int32) (x3 : Int32) (σ : ky_St) (r : Unit) (σ' : ky_St), fX4_comes_L37 fu x1 x2 x3 σ = some (r, σ') → ky_T G mX4_comes (d + 1) 0 0 37 [(0, ky_r G 7), (1, .int x1), (2, .int x2), (3, .int x3)] [] σ (.inr none) σ' := by
  intro fu
  induction fu with
  | zero =>
    intro x1 x2 x3 σ r σ' hf
    rw [fX4_comes_L37] at hf
    cases hf
  | succ fu ih =>
    intro x1 x2 x3 σ r σ' hf
    rw [fX4_comes_L37] at hf
    refine ky_iload_n (n := 38) dX4_comes_37 rfl rfl 3 rfl ?_
    refine ky_if_le (n := 41) (tgt := 67) dX4_comes_38 rfl rfl (fun c14 => ?_) (fun c14 => ?_)
    · have hf := ky_pos c14 hf
      refine ky_aload_n (n := 68) dX4_comes_67 rfl rfl 0 rfl ?_
      refine ky_iload_n (n := 69) dX4_comes_68 rfl rfl 1 rfl ?_
      refine ky_bipush (v := (6 : Int32)) (n := 71) dX4_comes_69 rfl rfl ?_
      refine ky_iload_n (n := 72) dX4_comes_71 rfl rfl 2 rfl ?_
      obtain ⟨v17, s15, h16, hf⟩ := ky_bd_e hf
      refine ky_callV (kc := 0) (ks := 0) (kc2 := 0) (ks2 := 0) (k0 := 7) (as := [.int x1, .int (6 : Int32), .int x2]) (st := []) (KX4_put d x1 (6 : Int32) x2 σ _ _ h16) okX4_put wl_X4_57 kc_7 (q := (RX4, TX4, 12)) rfl rfl rfl rfl (Nat.le_of_ble_eq_true rfl) dX4_comes_72 rfl ?_
      refine ky_aload_n (n := 76) dX4_comes_75 rfl rfl 0 rfl ?_
      refine ky_getf (q := (RX4, TX4, 12)) (v := ky_r G 8) (n := 79) dX4_comes_76 rfl kc_7 rfl (Nat.le_of_ble_eq_true rfl) wg_X4_7 (vf_7_0 _ _) ?_
      refine ky_iconst (v := (4 : Int32)) (n := 80) dX4_comes_79 rfl rfl ?_
      refine ky_dup2 (n := 81) dX4_comes_80 rfl rfl rfl ?_
      obtain ⟨g18, hf⟩ := ky_ge hf
      refine ky_iald (n := 82) dX4_comes_81 rfl kl_8 g18 ?_
      refine ky_iconst (v := (1 : Int32)) (n := 83) dX4_comes_82 rfl rfl ?_
      refine ky_iadd (n := 84) dX4_comes_83 rfl ?_
      obtain ⟨g19, hf⟩ := ky_ge hf
      refine ky_iast (n := 85) dX4_comes_84 rfl kl_8 rfl g19 (fun s20 es20 => ?_)
      have hf := ky_bn_e hf s20 es20
      cases hf
      exact ky_return dX4_comes_85 rfl
    · have hf := ky_neg c14 hf
      refine ky_aload_n (n := 42) dX4_comes_41 rfl rfl 0 rfl ?_
      refine ky_iload_n (n := 43) dX4_comes_42 rfl rfl 1 rfl ?_
      refine ky_bipush (v := (6 : Int32)) (n := 45) dX4_comes_43 rfl rfl ?_
      refine ky_iload_n (n := 46) dX4_comes_45 rfl rfl 3 rfl ?_
      refine ky_iadd (n := 47) dX4_comes_46 rfl ?_
      refine ky_aload_n (n := 48) dX4_comes_47 rfl rfl 0 rfl ?_
      refine ky_iload_n (n := 49) dX4_comes_48 rfl rfl 1 rfl ?_
      refine ky_bipush (v := (6 : Int32)) (n := 51) dX4_comes_49 rfl rfl ?_
      refine ky_iload_n (n := 52) dX4_comes_51 rfl rfl 3 rfl ?_
      refine ky_iadd (n := 53) dX4_comes_52 rfl ?_
      refine ky_iconst (v := (1 : Int32)) (n := 54) dX4_comes_53 rfl rfl ?_
      refine ky_isub (n := 55) dX4_comes_54 rfl ?_
      obtain ⟨v23, s21, h22, hf⟩ := ky_bd_e hf
      refine ky_callV (kc := 0) (ks := 0) (kc2 := 0) (ks2 := 0) (k0 := 7) (as := [.int x1, .int (((6 : Int32) + x3) - (1 : Int32))]) (st := [.int ((6 : Int32) + x3), .int x1, ky_r G 7]) (KX4_of d x1 (((6 : Int32) + x3) - (1 : Int32)) σ _ _ h22) okX4_of wl_X4_36 kc_7 (q := (RX4, TX4, 12)) rfl rfl rfl rfl (Nat.le_of_ble_eq_true rfl) dX4_comes_55 rfl ?_
      obtain ⟨v26, s24, h25, hf⟩ := ky_bd_e hf
      refine ky_callV (kc := 0) (ks := 0) (kc2 := 0) (ks2 := 0) (k0 := 7) (as := [.int x1, .int ((6 : Int32) + x3), .int v23]) (st := []) (KX4_put d x1 ((6 : Int32) + x3) v23 s21 _ _ h25) okX4_put wl_X4_57 kc_7 (q := (RX4, TX4, 12)) rfl rfl rfl rfl (Nat.le_of_ble_eq_true rfl) dX4_comes_58 rfl ?_
      refine ky_iincB (c := (-1 : Int32)) (n := 64) dX4_comes_61 rfl 3 rfl rfl (Nat.le_of_ble_eq_true rfl) (fun v27 ev27 => ?_)
      have hf := ky_bn_e hf v27 ev27
      refine ky_lv (lv' := [(3, .int v27), (0, ky_r G 7), (1, .int x1), (2, .int x2)]) rfl ?_
      refine ky_goto (tgt := 37) dX4_comes_64 rfl ?_
      refine ky_sub [1, 2, 3, 0] (lv' := [(0, ky_r G 7), (1, .int x1), (2, .int x2), (3, .int v27)]) rfl ?_
      exact ih x1 x2 v27 s24 _ _ hf
def fX4_comes (a1 : Int32) (a2 : Int32) (σ : ky_St) : Option (Unit × ky_St) :=
  ky_bd (fX4_put a1 (0 : Int32) a2 σ) fun v3 s1 =>
  ky_g (¬ ((2 : Int32) < 0 ∨ 283 ≤ (2 : Int32).toNatClampNeg)) (
  ky_bd (fX4_put a1 (1 : Int32) (s1.1 8 (2 : Int32).toNatClampNeg) s1) fun v7 s5 =>
  ky_bd (fX4_of a1 (9 : Int32) s5) fun v10 s8 =>
  ky_bd (fX4_put a1 (9 : Int32) (v10 + (1 : Int32)) s8) fun v13 s11 =>
  fX4_comes_L37 FU a1 a2 (2 : Int32) s11)
set_option maxHeartbeats 4000000 in
set_option maxRecDepth 100000 in
theorem KX4_comes {G : ky_G} (d : Nat) (a1 : Int32) (a2 : Int32) (σ : ky_St) (r : Unit) (σ' : ky_St) (hf : fX4_comes a1 a2 σ = some (r, σ')) : ky_K G mX4_comes (d + 1) 0 0 [ky_r G 7, .int a1, .int a2] σ (.inr none) σ' := by
  unfold fX4_comes at hf
  refine ky_enter rfl (by decide +kernel) (Nat.le_of_ble_eq_true rfl) (lv := [(0, ky_r G 7), (1, .int a1), (2, .int a2)]) rfl ?_
  refine ky_aload_n (n := 1) dX4_comes_0 rfl rfl 0 rfl ?_
  refine ky_iload_n (n := 2) dX4_comes_1 rfl rfl 1 rfl ?_
  refine ky_iconst (v := (0 : Int32)) (n := 3) dX4_comes_2 rfl rfl ?_
  refine ky_iload_n (n := 4) dX4_comes_3 rfl rfl 2 rfl ?_
  obtain ⟨v3, s1, h2, hf⟩ := ky_bd_e hf
  refine ky_callV (kc := 0) (ks := 0) (kc2 := 0) (ks2 := 0) (k0 := 7) (as := [.int a1, .int (0 : Int32), .int a2]) (st := []) (KX4_put d a1 (0 : Int32) a2 σ _ _ h2) okX4_put wl_X4_57 kc_7 (q := (RX4, TX4, 12)) rfl rfl rfl rfl (Nat.le_of_ble_eq_true rfl) dX4_comes_4 rfl ?_
  refine ky_aload_n (n := 8) dX4_comes_7 rfl rfl 0 rfl ?_
  refine ky_iload_n (n := 9) dX4_comes_8 rfl rfl 1 rfl ?_
  refine ky_iconst (v := (1 : Int32)) (n := 10) dX4_comes_9 rfl rfl ?_
  refine ky_aload_n (n := 11) dX4_comes_10 rfl rfl 0 rfl ?_
  refine ky_getf (q := (RX4, TX4, 12)) (v := ky_r G 8) (n := 14) dX4_comes_11 rfl kc_7 rfl (Nat.le_of_ble_eq_true rfl) wg_X4_7 (vf_7_0 _ _) ?_
  refine ky_iconst (v := (2 : Int32)) (n := 15) dX4_comes_14 rfl rfl ?_
  obtain ⟨g4, hf⟩ := ky_ge hf
  refine ky_iald (n := 16) dX4_comes_15 rfl kl_8 g4 ?_
  obtain ⟨v7, s5, h6, hf⟩ := ky_bd_e hf
  refine ky_callV (kc := 0) (ks := 0) (kc2 := 0) (ks2 := 0) (k0 := 7) (as := [.int a1, .int (1 : Int32), .int (s1.1 8 (2 : Int32).toNatClampNeg)]) (st := []) (KX4_put d a1 (1 : Int32) (s1.1 8 (2 : Int32).toNatClampNeg) s1 _ _ h6) okX4_put wl_X4_57 kc_7 (q := (RX4, TX4, 12)) rfl rfl rfl rfl (Nat.le_of_ble_eq_true rfl) dX4_comes_16 rfl ?_
  refine ky_aload_n (n := 20) dX4_comes_19 rfl rfl 0 rfl ?_
  refine ky_iload_n (n := 21) dX4_comes_20 rfl rfl 1 rfl ?_
  refine ky_bipush (v := (9 : Int32)) (n := 23) dX4_comes_21 rfl rfl ?_
  refine ky_aload_n (n := 24) dX4_comes_23 rfl rfl 0 rfl ?_
  refine ky_iload_n (n := 25) dX4_comes_24 rfl rfl 1 rfl ?_
  refine ky_bipush (v := (9 : Int32)) (n := 27) dX4_comes_25 rfl rfl ?_
  obtain ⟨v10, s8, h9, hf⟩ := ky_bd_e hf
  refine ky_callV (kc := 0) (ks := 0) (kc2 := 0) (ks2 := 0) (k0 := 7) (as := [.int a1, .int (9 : Int32)]) (st := [.int (9 : Int32), .int a1, ky_r G 7]) (KX4_of d a1 (9 : Int32) s5 _ _ h9) okX4_of wl_X4_36 kc_7 (q := (RX4, TX4, 12)) rfl rfl rfl rfl (Nat.le_of_ble_eq_true rfl) dX4_comes_27 rfl ?_
  refine ky_iconst (v := (1 : Int32)) (n := 31) dX4_comes_30 rfl rfl ?_
  refine ky_iadd (n := 32) dX4_comes_31 rfl ?_
  obtain ⟨v13, s11, h12, hf⟩ := ky_bd_e hf
  refine ky_callV (kc := 0) (ks := 0) (kc2 := 0) (ks2 := 0) (k0 := 7) (as := [.int a1, .int (9 : Int32), .int (v10 + (1 : Int32))]) (st := []) (KX4_put d a1 (9 : Int32) (v10 + (1 : Int32)) s8 _ _ h12) okX4_put wl_X4_57 kc_7 (q := (RX4, TX4, 12)) rfl rfl rfl rfl (Nat.le_of_ble_eq_true rfl) dX4_comes_32 rfl ?_
  refine ky_iconst (v := (2 : Int32)) (n := 36) dX4_comes_35 rfl rfl ?_
  refine ky_istore_n (lv' := [(3, .int (2 : Int32)), (0, ky_r G 7), (1, .int a1), (2, .int a2)]) (n := 37) dX4_comes_36 rfl rfl (Nat.le_of_ble_eq_true rfl) rfl ?_
  refine ky_sub [1, 2, 3, 0] (lv' := [(0, ky_r G 7), (1, .int a1), (2, .int a2), (3, .int (2 : Int32))]) rfl ?_
  exact tX4_comes_L37 d FU a1 a2 (2 : Int32) s11 _ _ hf
def fX4_leaves (a1 : Int32) (σ : ky_St) : Option (Int32 × ky_St) :=
  ky_bd (fX4_dueIn a1 (0 : Int32) σ) fun v3 s1 =>
  ky_bd (fX4_of a1 (0 : Int32) s1) fun v6 s4 =>
  ky_bd (fX4_bill v6 (0 : Int32) v3 s4) fun v9 s7 =>
  ky_bd (fX4_put a1 (0 : Int32) (-1 : Int32) s7) fun v12 s10 =>
  ky_g (¬ ((2 : Int32) < 0 ∨ 283 ≤ (2 : Int32).toNatClampNeg)) (
  ky_bd (fX4_put a1 (1 : Int32) (s10.1 8 (2 : Int32).toNatClampNeg) s10) fun v16 s14 =>
  some (v3, s14))
set_option maxHeartbeats 4000000 in
set_option maxRecDepth 100000 in
theorem KX4_leaves {G : ky_G} (d : Nat) (a1 : Int32) (σ : ky_St) (r : Int32) (σ' : ky_St) (hf : fX4_leaves a1 σ = some (r, σ')) : ky_K G mX4_leaves (d + 3) 0 0 [ky_r G 7, .int a1] σ (.inr (some (.int r))) σ' := by
  unfold fX4_leaves at hf
  refine ky_enter rfl (by decide +kernel) (Nat.le_of_ble_eq_true rfl) (lv := [(0, ky_r G 7), (1, .int a1)]) rfl ?_
  refine ky_aload_n (n := 1) dX4_leaves_0 rfl rfl 0 rfl ?_
  refine ky_iload_n (n := 2) dX4_leaves_1 rfl rfl 1 rfl ?_
  refine ky_iconst (v := (0 : Int32)) (n := 3) dX4_leaves_2 rfl rfl ?_
  obtain ⟨v3, s1, h2, hf⟩ := ky_bd_e hf
  refine ky_callV (kc := 0) (ks := 0) (kc2 := 0) (ks2 := 0) (k0 := 7) (as := [.int a1, .int (0 : Int32)]) (st := []) (KX4_dueIn d a1 (0 : Int32) σ _ _ h2) okX4_dueIn wl_X4_89 kc_7 (q := (RX4, TX4, 12)) rfl rfl rfl rfl (Nat.le_of_ble_eq_true rfl) dX4_leaves_3 rfl ?_
  refine ky_istore_n (lv' := [(2, .int v3), (0, ky_r G 7), (1, .int a1)]) (n := 7) dX4_leaves_6 rfl rfl (Nat.le_of_ble_eq_true rfl) rfl ?_
  refine ky_aload_n (n := 8) dX4_leaves_7 rfl rfl 1 rfl ?_
  refine ky_aload_n (n := 9) dX4_leaves_8 rfl rfl 1 rfl ?_
  refine ky_iload_n (n := 10) dX4_leaves_9 rfl rfl 2 rfl ?_
  refine ky_iconst (v := (0 : Int32)) (n := 11) dX4_leaves_10 rfl rfl ?_
  obtain ⟨v6, s4, h5, hf⟩ := ky_bd_e hf
  refine ky_callV (kc := 0) (ks := 0) (kc2 := 0) (ks2 := 0) (k0 := 7) (as := [.int a1, .int (0 : Int32)]) (st := [ky_r G 7]) (KX4_of (d + 2) a1 (0 : Int32) s1 _ _ h5) okX4_of wl_X4_36 kc_7 (q := (RX4, TX4, 12)) rfl rfl rfl rfl (Nat.le_of_ble_eq_true rfl) dX4_leaves_11 rfl ?_
  refine ky_iconst (v := (0 : Int32)) (n := 15) dX4_leaves_14 rfl rfl ?_
  refine ky_iload_n (n := 16) dX4_leaves_15 rfl rfl 0 rfl ?_
  obtain ⟨v9, s7, h8, hf⟩ := ky_bd_e hf
  refine ky_callV (kc := 0) (ks := 0) (kc2 := 0) (ks2 := 0) (k0 := 7) (as := [.int v6, .int (0 : Int32), .int v3]) (st := []) (KX4_bill (d + 2) v6 (0 : Int32) v3 s4 _ _ h8) okX4_bill wl_X4_83 kc_7 (q := (RX4, TX4, 12)) rfl rfl rfl rfl (Nat.le_of_ble_eq_true rfl) dX4_leaves_16 rfl ?_
  refine ky_aload_n (n := 20) dX4_leaves_19 rfl rfl 1 rfl ?_
  refine ky_iload_n (n := 21) dX4_leaves_20 rfl rfl 2 rfl ?_
  refine ky_iconst (v := (0 : Int32)) (n := 22) dX4_leaves_21 rfl rfl ?_
  refine ky_iconst (v := (-1 : Int32)) (n := 23) dX4_leaves_22 rfl rfl ?_
  obtain ⟨v12, s10, h11, hf⟩ := ky_bd_e hf
  refine ky_callV (kc := 0) (ks := 0) (kc2 := 0) (ks2 := 0) (k0 := 7) (as := [.int a1, .int (0 : Int32), .int (-1 : Int32)]) (st := []) (KX4_put (d + 2) a1 (0 : Int32) (-1 : Int32) s7 _ _ h11) okX4_put wl_X4_57 kc_7 (q := (RX4, TX4, 12)) rfl rfl rfl rfl (Nat.le_of_ble_eq_true rfl) dX4_leaves_23 rfl ?_
  refine ky_aload_n (n := 27) dX4_leaves_26 rfl rfl 1 rfl ?_
  refine ky_iload_n (n := 28) dX4_leaves_27 rfl rfl 2 rfl ?_
  refine ky_iconst (v := (1 : Int32)) (n := 29) dX4_leaves_28 rfl rfl ?_
  refine ky_aload_n (n := 30) dX4_leaves_29 rfl rfl 1 rfl ?_
  refine ky_getf (q := (RX4, TX4, 12)) (v := ky_r G 8) (n := 33) dX4_leaves_30 rfl kc_7 rfl (Nat.le_of_ble_eq_true rfl) wg_X4_7 (vf_7_0 _ _) ?_
  refine ky_iconst (v := (2 : Int32)) (n := 34) dX4_leaves_33 rfl rfl ?_
  obtain ⟨g13, hf⟩ := ky_ge hf
  refine ky_iald (n := 35) dX4_leaves_34 rfl kl_8 g13 ?_
  obtain ⟨v16, s14, h15, hf⟩ := ky_bd_e hf
  refine ky_callV (kc := 0) (ks := 0) (kc2 := 0) (ks2 := 0) (k0 := 7) (as := [.int a1, .int (1 : Int32), .int (s10.1 8 (2 : Int32).toNatClampNeg)]) (st := []) (KX4_put (d + 2) a1 (1 : Int32) (s10.1 8 (2 : Int32).toNatClampNeg) s10 _ _ h15) okX4_put wl_X4_57 kc_7 (q := (RX4, TX4, 12)) rfl rfl rfl rfl (Nat.le_of_ble_eq_true rfl) dX4_leaves_35 rfl ?_
  refine ky_iload_n (n := 39) dX4_leaves_38 rfl rfl 0 rfl ?_
  cases hf
  exact ky_ireturn dX4_leaves_39 rfl
def fX4_canHire (a1 : Int32) (σ : ky_St) : Option (Int32 × ky_St) :=
  ky_bd (fX4_inYard (1 : Int32) σ) fun v3 s1 =>
  if v3 < a1 then (
  some ((0 : Int32), s1)) else (
  some ((1 : Int32), s1))
set_option maxHeartbeats 4000000 in
set_option maxRecDepth 100000 in
theorem KX4_canHire {G : ky_G} (d : Nat) (a1 : Int32) (σ : ky_St) (r : Int32) (σ' : ky_St) (hf : fX4_canHire a1 σ = some (r, σ')) : ky_K G mX4_canHire (d + 3) 0 0 [ky_r G 7, .int a1] σ (.inr (some (.int r))) σ' := by
  unfold fX4_canHire at hf
  refine ky_enter rfl (by decide +kernel) (Nat.le_of_ble_eq_true rfl) (lv := [(0, ky_r G 7), (1, .int a1)]) rfl ?_
  refine ky_aload_n (n := 1) dX4_canHire_0 rfl rfl 0 rfl ?_
  refine ky_iconst (v := (1 : Int32)) (n := 2) dX4_canHire_1 rfl rfl ?_
  obtain ⟨v3, s1, h2, hf⟩ := ky_bd_e hf
  refine ky_callV (kc := 0) (ks := 0) (kc2 := 0) (ks2 := 0) (k0 := 7) (as := [.int (1 : Int32)]) (st := []) (KX4_inYard d (1 : Int32) σ _ _ h2) okX4_inYard wl_X4_92 kc_7 (q := (RX4, TX4, 12)) rfl rfl rfl rfl (Nat.le_of_ble_eq_true rfl) dX4_canHire_2 rfl ?_
  refine ky_iload_n (n := 6) dX4_canHire_5 rfl rfl 1 rfl ?_
  refine ky_icmp_lt (n := 9) (tgt := 13) dX4_canHire_6 rfl rfl (fun c4 => ?_) (fun c4 => ?_)
  · have hf := ky_pos c4 hf
    refine ky_iconst (v := (0 : Int32)) (n := 14) dX4_canHire_13 rfl rfl ?_
    cases hf
    exact ky_zreturn dX4_canHire_14 rfl (Or.inl rfl)
  · have hf := ky_neg c4 hf
    refine ky_iconst (v := (1 : Int32)) (n := 10) dX4_canHire_9 rfl rfl ?_
    refine ky_goto (tgt := 14) dX4_canHire_10 rfl ?_
    cases hf
    exact ky_zreturn dX4_canHire_14 rfl (Or.inr rfl)
def fX4_hires_L5 : Nat → Int32 → Int32 → Int32 → ky_St → Option (Int32 × ky_St)
  | 0, _, _, _, _ => none
  | fu + 1, x1, x3, x4, σ =>
  ky_g (¬ ((3 : Int32) < 0 ∨ 283 ≤ (3 : Int32).toNatClampNeg)) (
  if (σ.1 8 (3 : Int32).toNatClampNeg) ≤ x4 then (
  ky_bd (fX4_inYard (1 : Int32) σ) fun v5 s3 =>
  some (v5, s3)) else (
  if x3 ≤ 0 then (
  ky_bd (fX4_inYard (1 : Int32) σ) fun v9 s7 =>
  some (v9, s7)) else (
  ky_bd (fX4_isInYard x4 σ) fun v12 s10 =>
  if v12 = 0 then (
  ky_bn (x4 + (1 : Int32)) fun v14 =>
  fX4_hires_L5 fu x1 x3 v14 s10) else (
  ky_bd (fX4_isWhole x4 s10) fun v17 s15 =>
  if v17 = 0 then (
  ky_bn (x4 + (1 : Int32)) fun v19 =>
  fX4_hires_L5 fu x1 x3 v19 s15) else (
  ky_bd (fX4_comes x4 x1 s15) fun v22 s20 =>
  ky_bn (x3 + (-1 : Int32)) fun v23 =>
  ky_bn (x4 + (1 : Int32)) fun v24 =>
  fX4_hires_L5 fu x1 v23 v24 s20)))))
set_option maxHeartbeats 4000000 in
set_option maxRecDepth 100000 in
theorem tX4_hires_L5 {G : ky_G} (d : Nat) : ∀ (fu : Nat) (x1 : Int32) (x3 : Int32) (x4 : Int32) (σ : ky_St) (r : Int32) (σ' : ky_St), fX4_hires_L5 fu x1 x3 x4 σ = some (r, σ') → ky_T G mX4_hires (d + 3) 0 0 5 [(0, ky_r G 7), (1, .int x1), (3, .int x3), (4, .int x4)] [] σ (.inr (some (.int r))) σ' := by
  intro fu
  induction fu with
  | zero =>
    intro x1 x3 x4 σ r σ' hf
    rw [fX4_hires_L5] at hf
    cases hf
  | succ fu ih =>
    intro x1 x3 x4 σ r σ' hf
    rw [fX4_hires_L5] at hf
    refine ky_iload (n := 7) dX4_hires_5 rfl 3 rfl ?_
    refine ky_aload_n (n := 8) dX4_hires_7 rfl rfl 0 rfl ?_
    refine ky_getf (q := (RX4, TX4, 12)) (v := ky_r G 8) (n := 11) dX4_hires_8 rfl kc_7 rfl (Nat.le_of_ble_eq_true rfl) wg_X4_7 (vf_7_0 _ _) ?_
    refine ky_iconst (v := (3 : Int32)) (n := 12) dX4_hires_11 rfl rfl ?_
    obtain ⟨g1, hf⟩ := ky_ge hf
    refine ky_iald (n := 13) dX4_hires_12 rfl kl_8 g1 ?_
    refine ky_icmp_ge (n := 16) (tgt := 54) dX4_hires_13 rfl rfl (fun c2 => ?_) (fun c2 => ?_)
    · have hf := ky_pos c2 hf
      refine ky_aload_n (n := 55) dX4_hires_54 rfl rfl 0 rfl ?_
      refine ky_iconst (v := (1 : Int32)) (n := 56) dX4_hires_55 rfl rfl ?_
      obtain ⟨v5, s3, h4, hf⟩ := ky_bd_e hf
      refine ky_callV (kc := 0) (ks := 0) (kc2 := 0) (ks2 := 0) (k0 := 7) (as := [.int (1 : Int32)]) (st := []) (KX4_inYard d (1 : Int32) σ _ _ h4) okX4_inYard wl_X4_92 kc_7 (q := (RX4, TX4, 12)) rfl rfl rfl rfl (Nat.le_of_ble_eq_true rfl) dX4_hires_56 rfl ?_
      cases hf
      exact ky_ireturn dX4_hires_59 rfl
    · have hf := ky_neg c2 hf
      refine ky_iload_n (n := 17) dX4_hires_16 rfl rfl 2 rfl ?_
      refine ky_if_le (n := 20) (tgt := 54) dX4_hires_17 rfl rfl (fun c6 => ?_) (fun c6 => ?_)
      · have hf := ky_pos c6 hf
        refine ky_aload_n (n := 55) dX4_hires_54 rfl rfl 0 rfl ?_
        refine ky_iconst (v := (1 : Int32)) (n := 56) dX4_hires_55 rfl rfl ?_
        obtain ⟨v9, s7, h8, hf⟩ := ky_bd_e hf
        refine ky_callV (kc := 0) (ks := 0) (kc2 := 0) (ks2 := 0) (k0 := 7) (as := [.int (1 : Int32)]) (st := []) (KX4_inYard d (1 : Int32) σ _ _ h8) okX4_inYard wl_X4_92 kc_7 (q := (RX4, TX4, 12)) rfl rfl rfl rfl (Nat.le_of_ble_eq_true rfl) dX4_hires_56 rfl ?_
        cases hf
        exact ky_ireturn dX4_hires_59 rfl
      · have hf := ky_neg c6 hf
        refine ky_aload_n (n := 21) dX4_hires_20 rfl rfl 0 rfl ?_
        refine ky_iload (n := 23) dX4_hires_21 rfl 3 rfl ?_
        obtain ⟨v12, s10, h11, hf⟩ := ky_bd_e hf
        refine ky_callV (kc := 0) (ks := 0) (kc2 := 0) (ks2 := 0) (k0 := 7) (as := [.int x4]) (st := []) (KX4_isInYard (d + 1) x4 σ _ _ h11) okX4_isInYard wl_X4_44 kc_7 (q := (RX4, TX4, 12)) rfl rfl rfl rfl (Nat.le_of_ble_eq_true rfl) dX4_hires_23 rfl ?_
        refine ky_if_eq (n := 29) (tgt := 48) dX4_hires_26 rfl rfl (fun c13 => ?_) (fun c13 => ?_)
        · have hf := ky_pos c13 hf
          refine ky_iincB (c := (1 : Int32)) (n := 51) dX4_hires_48 rfl 3 rfl rfl (Nat.le_of_ble_eq_true rfl) (fun v14 ev14 => ?_)
          have hf := ky_bn_e hf v14 ev14
          refine ky_lv (lv' := [(4, .int v14), (0, ky_r G 7), (1, .int x1), (3, .int x3)]) rfl ?_
          refine ky_goto (tgt := 5) dX4_hires_51 rfl ?_
          refine ky_sub [1, 2, 3, 0] (lv' := [(0, ky_r G 7), (1, .int x1), (3, .int x3), (4, .int v14)]) rfl ?_
          exact ih x1 x3 v14 s10 _ _ hf
        · have hf := ky_neg c13 hf
          refine ky_aload_n (n := 30) dX4_hires_29 rfl rfl 0 rfl ?_
          refine ky_iload (n := 32) dX4_hires_30 rfl 3 rfl ?_
          obtain ⟨v17, s15, h16, hf⟩ := ky_bd_e hf
          refine ky_callV (kc := 0) (ks := 0) (kc2 := 0) (ks2 := 0) (k0 := 7) (as := [.int x4]) (st := []) (KX4_isWhole (d + 1) x4 s10 _ _ h16) okX4_isWhole wl_X4_48 kc_7 (q := (RX4, TX4, 12)) rfl rfl rfl rfl (Nat.le_of_ble_eq_true rfl) dX4_hires_32 rfl ?_
          refine ky_if_eq (n := 38) (tgt := 48) dX4_hires_35 rfl rfl (fun c18 => ?_) (fun c18 => ?_)
          · have hf := ky_pos c18 hf
            refine ky_iincB (c := (1 : Int32)) (n := 51) dX4_hires_48 rfl 3 rfl rfl (Nat.le_of_ble_eq_true rfl) (fun v19 ev19 => ?_)
            have hf := ky_bn_e hf v19 ev19
            refine ky_lv (lv' := [(4, .int v19), (0, ky_r G 7), (1, .int x1), (3, .int x3)]) rfl ?_
            refine ky_goto (tgt := 5) dX4_hires_51 rfl ?_
            refine ky_sub [1, 2, 3, 0] (lv' := [(0, ky_r G 7), (1, .int x1), (3, .int x3), (4, .int v19)]) rfl ?_
            exact ih x1 x3 v19 s15 _ _ hf
          · have hf := ky_neg c18 hf
            refine ky_aload_n (n := 39) dX4_hires_38 rfl rfl 0 rfl ?_
            refine ky_iload (n := 41) dX4_hires_39 rfl 3 rfl ?_
            refine ky_iload_n (n := 42) dX4_hires_41 rfl rfl 1 rfl ?_
            obtain ⟨v22, s20, h21, hf⟩ := ky_bd_e hf
            refine ky_callV (kc := 0) (ks := 0) (kc2 := 0) (ks2 := 0) (k0 := 7) (as := [.int x4, .int x1]) (st := []) (KX4_comes (d + 1) x4 x1 s15 _ _ h21) okX4_comes wl_X4_96 kc_7 (q := (RX4, TX4, 12)) rfl rfl rfl rfl (Nat.le_of_ble_eq_true rfl) dX4_hires_42 rfl ?_
            refine ky_iincB (c := (-1 : Int32)) (n := 48) dX4_hires_45 rfl 2 rfl rfl (Nat.le_of_ble_eq_true rfl) (fun v23 ev23 => ?_)
            have hf := ky_bn_e hf v23 ev23
            refine ky_lv (lv' := [(3, .int v23), (0, ky_r G 7), (1, .int x1), (4, .int x4)]) rfl ?_
            refine ky_iincB (c := (1 : Int32)) (n := 51) dX4_hires_48 rfl 3 rfl rfl (Nat.le_of_ble_eq_true rfl) (fun v24 ev24 => ?_)
            have hf := ky_bn_e hf v24 ev24
            refine ky_lv (lv' := [(4, .int v24), (3, .int v23), (0, ky_r G 7), (1, .int x1)]) rfl ?_
            refine ky_goto (tgt := 5) dX4_hires_51 rfl ?_
            refine ky_sub [2, 3, 1, 0] (lv' := [(0, ky_r G 7), (1, .int x1), (3, .int v23), (4, .int v24)]) rfl ?_
            exact ih x1 v23 v24 s20 _ _ hf
def fX4_hires (a1 : Int32) (a2 : Int32) (σ : ky_St) : Option (Int32 × ky_St) :=
  fX4_hires_L5 FU a1 a2 (0 : Int32) σ
set_option maxHeartbeats 4000000 in
set_option maxRecDepth 100000 in
theorem KX4_hires {G : ky_G} (d : Nat) (a1 : Int32) (a2 : Int32) (σ : ky_St) (r : Int32) (σ' : ky_St) (hf : fX4_hires a1 a2 σ = some (r, σ')) : ky_K G mX4_hires (d + 3) 0 0 [ky_r G 7, .int a1, .int a2] σ (.inr (some (.int r))) σ' := by
  unfold fX4_hires at hf
  refine ky_enter rfl (by decide +kernel) (Nat.le_of_ble_eq_true rfl) (lv := [(0, ky_r G 7), (1, .int a1), (2, .int a2)]) rfl ?_
  refine ky_iload_n (n := 1) dX4_hires_0 rfl rfl 2 rfl ?_
  refine ky_istore_n (lv' := [(3, .int a2), (0, ky_r G 7), (1, .int a1), (2, .int a2)]) (n := 2) dX4_hires_1 rfl rfl (Nat.le_of_ble_eq_true rfl) rfl ?_
  refine ky_iconst (v := (0 : Int32)) (n := 3) dX4_hires_2 rfl rfl ?_
  refine ky_istore (lv' := [(4, .int (0 : Int32)), (3, .int a2), (0, ky_r G 7), (1, .int a1), (2, .int a2)]) (n := 5) dX4_hires_3 rfl (Nat.le_of_ble_eq_true rfl) rfl ?_
  refine ky_sub [2, 3, 1, 0] (lv' := [(0, ky_r G 7), (1, .int a1), (3, .int a2), (4, .int (0 : Int32))]) rfl ?_
  exact tX4_hires_L5 d FU a1 a2 (0 : Int32) σ _ _ hf
def fX4_hire (a1 : Int32) (a2 : Int32) (σ : ky_St) : Option (Int32 × ky_St) :=
  ky_bd (fX4_isSite a1 σ) fun v3 s1 =>
  if v3 = 0 then (
  ky_bn (ky_u1 s1 7 5 (1 : Int32)) fun s37 =>
  if (s37.1 7 5) ≤ 0 then (
  ky_bd (fX4_save s37) fun v41 s39 =>
  ky_bd (fX4_hires a1 a2 s39) fun v44 s42 =>
  some (v44, s42)) else (
  some ((0 : Int32), s37))) else (
  ky_bd (fX4_areSets a2 s1) fun v7 s5 =>
  if v7 = 0 then (
  ky_bn (ky_u1 s5 7 5 (2 : Int32)) fun s29 =>
  if (s29.1 7 5) ≤ 0 then (
  ky_bd (fX4_save s29) fun v33 s31 =>
  ky_bd (fX4_hires a1 a2 s31) fun v36 s34 =>
  some (v36, s34)) else (
  some ((0 : Int32), s29))) else (
  ky_bd (fX4_canHire a2 s5) fun v11 s9 =>
  if v11 = 0 then (
  ky_bn (ky_u1 s9 7 5 (3 : Int32)) fun s13 =>
  if (s13.1 7 5) ≤ 0 then (
  ky_bd (fX4_save s13) fun v17 s15 =>
  ky_bd (fX4_hires a1 a2 s15) fun v20 s18 =>
  some (v20, s18)) else (
  some ((0 : Int32), s13))) else (
  ky_bn (ky_u1 s9 7 5 (0 : Int32)) fun s21 =>
  if (s21.1 7 5) ≤ 0 then (
  ky_bd (fX4_save s21) fun v25 s23 =>
  ky_bd (fX4_hires a1 a2 s23) fun v28 s26 =>
  some (v28, s26)) else (
  some ((0 : Int32), s21)))))
set_option maxHeartbeats 4000000 in
set_option maxRecDepth 100000 in
theorem KX4_hire {G : ky_G} (d : Nat) (a1 : Int32) (a2 : Int32) (σ : ky_St) (r : Int32) (σ' : ky_St) (hf : fX4_hire a1 a2 σ = some (r, σ')) : ky_K G mX4_hire (d + 4) 0 0 [ky_r G 7, .int a1, .int a2] σ (.inr (some (.int r))) σ' := by
  unfold fX4_hire at hf
  refine ky_enter rfl (by decide +kernel) (Nat.le_of_ble_eq_true rfl) (lv := [(0, ky_r G 7), (1, .int a1), (2, .int a2)]) rfl ?_
  refine ky_aload_n (n := 1) dX4_hire_0 rfl rfl 0 rfl ?_
  refine ky_iload_n (n := 2) dX4_hire_1 rfl rfl 1 rfl ?_
  obtain ⟨v3, s1, h2, hf⟩ := ky_bd_e hf
  refine ky_callS (kc := 0) (ks := 0) (kc2 := 0) (ks2 := 0) (as := [.int a1]) (st := [ky_r G 7]) (KX4_isSite (d + 2) a1 σ _ _ h2) okX4_isSite wl_X4_100 rfl rfl (Nat.le_of_ble_eq_true rfl) dX4_hire_2 rfl ?_
  refine ky_if_ne (n := 8) (tgt := 12) dX4_hire_5 rfl rfl (fun c4 => ?_) (fun c4 => ?_)
  · have hf := ky_neg c4 hf
    refine ky_iload_n (n := 13) dX4_hire_12 rfl rfl 2 rfl ?_
    obtain ⟨v7, s5, h6, hf⟩ := ky_bd_e hf
    refine ky_callS (kc := 0) (ks := 0) (kc2 := 0) (ks2 := 0) (as := [.int a2]) (st := [ky_r G 7]) (KX4_areSets (d + 2) a2 s1 _ _ h6) okX4_areSets wl_X4_51 rfl rfl (Nat.le_of_ble_eq_true rfl) dX4_hire_13 rfl ?_
    refine ky_if_ne (n := 19) (tgt := 23) dX4_hire_16 rfl rfl (fun c8 => ?_) (fun c8 => ?_)
    · have hf := ky_neg c8 hf
      refine ky_aload_n (n := 24) dX4_hire_23 rfl rfl 0 rfl ?_
      refine ky_iload_n (n := 25) dX4_hire_24 rfl rfl 2 rfl ?_
      obtain ⟨v11, s9, h10, hf⟩ := ky_bd_e hf
      refine ky_callV (kc := 0) (ks := 0) (kc2 := 0) (ks2 := 0) (k0 := 7) (as := [.int a2]) (st := [ky_r G 7]) (KX4_canHire d a2 s5 _ _ h10) okX4_canHire wl_X4_103 kc_7 (q := (RX4, TX4, 12)) rfl rfl rfl rfl (Nat.le_of_ble_eq_true rfl) dX4_hire_25 rfl ?_
      refine ky_if_eq (n := 31) (tgt := 35) dX4_hire_28 rfl rfl (fun c12 => ?_) (fun c12 => ?_)
      · have hf := ky_pos c12 hf
        refine ky_iconst (v := (3 : Int32)) (n := 36) dX4_hire_35 rfl rfl ?_
        refine ky_putf (q := (RX4, TX4, 12)) (n := 39) dX4_hire_36 rfl kc_7 rfl (Nat.le_of_ble_eq_true rfl) wg_X4_25 rfl (by decide +kernel) rfl (fun s13 es13 => ?_)
        have hf := ky_bn_e hf s13 es13
        refine ky_aload_n (n := 40) dX4_hire_39 rfl rfl 0 rfl ?_
        refine ky_getf (q := (RX4, TX4, 12)) (v := .int (s13.1 7 5)) (n := 43) dX4_hire_40 rfl kc_7 rfl (Nat.le_of_ble_eq_true rfl) wg_X4_25 (vf_7_5 _ _) ?_
        refine ky_if_le (n := 46) (tgt := 48) dX4_hire_43 rfl rfl (fun c14 => ?_) (fun c14 => ?_)
        · have hf := ky_pos c14 hf
          refine ky_aload_n (n := 49) dX4_hire_48 rfl rfl 0 rfl ?_
          obtain ⟨v17, s15, h16, hf⟩ := ky_bd_e hf
          refine ky_callV (kc := 0) (ks := 0) (kc2 := 0) (ks2 := 0) (k0 := 7) (as := []) (st := []) (KX4_save (d + 3) s13 _ _ h16) okX4_save wl_X4_54 kc_7 (q := (RX4, TX4, 12)) rfl rfl rfl rfl (Nat.le_of_ble_eq_true rfl) dX4_hire_49 rfl ?_
          refine ky_aload_n (n := 53) dX4_hire_52 rfl rfl 0 rfl ?_
          refine ky_iload_n (n := 54) dX4_hire_53 rfl rfl 1 rfl ?_
          refine ky_iload_n (n := 55) dX4_hire_54 rfl rfl 2 rfl ?_
          obtain ⟨v20, s18, h19, hf⟩ := ky_bd_e hf
          refine ky_callV (kc := 0) (ks := 0) (kc2 := 0) (ks2 := 0) (k0 := 7) (as := [.int a1, .int a2]) (st := []) (KX4_hires d a1 a2 s15 _ _ h19) okX4_hires wl_X4_106 kc_7 (q := (RX4, TX4, 12)) rfl rfl rfl rfl (Nat.le_of_ble_eq_true rfl) dX4_hire_55 rfl ?_
          cases hf
          exact ky_ireturn dX4_hire_58 rfl
        · have hf := ky_neg c14 hf
          refine ky_iconst (v := (0 : Int32)) (n := 47) dX4_hire_46 rfl rfl ?_
          cases hf
          exact ky_ireturn dX4_hire_47 rfl
      · have hf := ky_neg c12 hf
        refine ky_iconst (v := (0 : Int32)) (n := 32) dX4_hire_31 rfl rfl ?_
        refine ky_goto (tgt := 36) dX4_hire_32 rfl ?_
        refine ky_putf (q := (RX4, TX4, 12)) (n := 39) dX4_hire_36 rfl kc_7 rfl (Nat.le_of_ble_eq_true rfl) wg_X4_25 rfl (by decide +kernel) rfl (fun s21 es21 => ?_)
        have hf := ky_bn_e hf s21 es21
        refine ky_aload_n (n := 40) dX4_hire_39 rfl rfl 0 rfl ?_
        refine ky_getf (q := (RX4, TX4, 12)) (v := .int (s21.1 7 5)) (n := 43) dX4_hire_40 rfl kc_7 rfl (Nat.le_of_ble_eq_true rfl) wg_X4_25 (vf_7_5 _ _) ?_
        refine ky_if_le (n := 46) (tgt := 48) dX4_hire_43 rfl rfl (fun c22 => ?_) (fun c22 => ?_)
        · have hf := ky_pos c22 hf
          refine ky_aload_n (n := 49) dX4_hire_48 rfl rfl 0 rfl ?_
          obtain ⟨v25, s23, h24, hf⟩ := ky_bd_e hf
          refine ky_callV (kc := 0) (ks := 0) (kc2 := 0) (ks2 := 0) (k0 := 7) (as := []) (st := []) (KX4_save (d + 3) s21 _ _ h24) okX4_save wl_X4_54 kc_7 (q := (RX4, TX4, 12)) rfl rfl rfl rfl (Nat.le_of_ble_eq_true rfl) dX4_hire_49 rfl ?_
          refine ky_aload_n (n := 53) dX4_hire_52 rfl rfl 0 rfl ?_
          refine ky_iload_n (n := 54) dX4_hire_53 rfl rfl 1 rfl ?_
          refine ky_iload_n (n := 55) dX4_hire_54 rfl rfl 2 rfl ?_
          obtain ⟨v28, s26, h27, hf⟩ := ky_bd_e hf
          refine ky_callV (kc := 0) (ks := 0) (kc2 := 0) (ks2 := 0) (k0 := 7) (as := [.int a1, .int a2]) (st := []) (KX4_hires d a1 a2 s23 _ _ h27) okX4_hires wl_X4_106 kc_7 (q := (RX4, TX4, 12)) rfl rfl rfl rfl (Nat.le_of_ble_eq_true rfl) dX4_hire_55 rfl ?_
          cases hf
          exact ky_ireturn dX4_hire_58 rfl
        · have hf := ky_neg c22 hf
          refine ky_iconst (v := (0 : Int32)) (n := 47) dX4_hire_46 rfl rfl ?_
          cases hf
          exact ky_ireturn dX4_hire_47 rfl
    · have hf := ky_pos c8 hf
      refine ky_iconst (v := (2 : Int32)) (n := 20) dX4_hire_19 rfl rfl ?_
      refine ky_goto (tgt := 36) dX4_hire_20 rfl ?_
      refine ky_putf (q := (RX4, TX4, 12)) (n := 39) dX4_hire_36 rfl kc_7 rfl (Nat.le_of_ble_eq_true rfl) wg_X4_25 rfl (by decide +kernel) rfl (fun s29 es29 => ?_)
      have hf := ky_bn_e hf s29 es29
      refine ky_aload_n (n := 40) dX4_hire_39 rfl rfl 0 rfl ?_
      refine ky_getf (q := (RX4, TX4, 12)) (v := .int (s29.1 7 5)) (n := 43) dX4_hire_40 rfl kc_7 rfl (Nat.le_of_ble_eq_true rfl) wg_X4_25 (vf_7_5 _ _) ?_
      refine ky_if_le (n := 46) (tgt := 48) dX4_hire_43 rfl rfl (fun c30 => ?_) (fun c30 => ?_)
      · have hf := ky_pos c30 hf
        refine ky_aload_n (n := 49) dX4_hire_48 rfl rfl 0 rfl ?_
        obtain ⟨v33, s31, h32, hf⟩ := ky_bd_e hf
        refine ky_callV (kc := 0) (ks := 0) (kc2 := 0) (ks2 := 0) (k0 := 7) (as := []) (st := []) (KX4_save (d + 3) s29 _ _ h32) okX4_save wl_X4_54 kc_7 (q := (RX4, TX4, 12)) rfl rfl rfl rfl (Nat.le_of_ble_eq_true rfl) dX4_hire_49 rfl ?_
        refine ky_aload_n (n := 53) dX4_hire_52 rfl rfl 0 rfl ?_
        refine ky_iload_n (n := 54) dX4_hire_53 rfl rfl 1 rfl ?_
        refine ky_iload_n (n := 55) dX4_hire_54 rfl rfl 2 rfl ?_
        obtain ⟨v36, s34, h35, hf⟩ := ky_bd_e hf
        refine ky_callV (kc := 0) (ks := 0) (kc2 := 0) (ks2 := 0) (k0 := 7) (as := [.int a1, .int a2]) (st := []) (KX4_hires d a1 a2 s31 _ _ h35) okX4_hires wl_X4_106 kc_7 (q := (RX4, TX4, 12)) rfl rfl rfl rfl (Nat.le_of_ble_eq_true rfl) dX4_hire_55 rfl ?_
        cases hf
        exact ky_ireturn dX4_hire_58 rfl
      · have hf := ky_neg c30 hf
        refine ky_iconst (v := (0 : Int32)) (n := 47) dX4_hire_46 rfl rfl ?_
        cases hf
        exact ky_ireturn dX4_hire_47 rfl
  · have hf := ky_pos c4 hf
    refine ky_iconst (v := (1 : Int32)) (n := 9) dX4_hire_8 rfl rfl ?_
    refine ky_goto (tgt := 36) dX4_hire_9 rfl ?_
    refine ky_putf (q := (RX4, TX4, 12)) (n := 39) dX4_hire_36 rfl kc_7 rfl (Nat.le_of_ble_eq_true rfl) wg_X4_25 rfl (by decide +kernel) rfl (fun s37 es37 => ?_)
    have hf := ky_bn_e hf s37 es37
    refine ky_aload_n (n := 40) dX4_hire_39 rfl rfl 0 rfl ?_
    refine ky_getf (q := (RX4, TX4, 12)) (v := .int (s37.1 7 5)) (n := 43) dX4_hire_40 rfl kc_7 rfl (Nat.le_of_ble_eq_true rfl) wg_X4_25 (vf_7_5 _ _) ?_
    refine ky_if_le (n := 46) (tgt := 48) dX4_hire_43 rfl rfl (fun c38 => ?_) (fun c38 => ?_)
    · have hf := ky_pos c38 hf
      refine ky_aload_n (n := 49) dX4_hire_48 rfl rfl 0 rfl ?_
      obtain ⟨v41, s39, h40, hf⟩ := ky_bd_e hf
      refine ky_callV (kc := 0) (ks := 0) (kc2 := 0) (ks2 := 0) (k0 := 7) (as := []) (st := []) (KX4_save (d + 3) s37 _ _ h40) okX4_save wl_X4_54 kc_7 (q := (RX4, TX4, 12)) rfl rfl rfl rfl (Nat.le_of_ble_eq_true rfl) dX4_hire_49 rfl ?_
      refine ky_aload_n (n := 53) dX4_hire_52 rfl rfl 0 rfl ?_
      refine ky_iload_n (n := 54) dX4_hire_53 rfl rfl 1 rfl ?_
      refine ky_iload_n (n := 55) dX4_hire_54 rfl rfl 2 rfl ?_
      obtain ⟨v44, s42, h43, hf⟩ := ky_bd_e hf
      refine ky_callV (kc := 0) (ks := 0) (kc2 := 0) (ks2 := 0) (k0 := 7) (as := [.int a1, .int a2]) (st := []) (KX4_hires d a1 a2 s39 _ _ h43) okX4_hires wl_X4_106 kc_7 (q := (RX4, TX4, 12)) rfl rfl rfl rfl (Nat.le_of_ble_eq_true rfl) dX4_hire_55 rfl ?_
      cases hf
      exact ky_ireturn dX4_hire_58 rfl
    · have hf := ky_neg c38 hf
      refine ky_iconst (v := (0 : Int32)) (n := 47) dX4_hire_46 rfl rfl ?_
      cases hf
      exact ky_ireturn dX4_hire_47 rfl
def fX4_canMove (a1 : Int32) (a2 : Int32) (σ : ky_St) : Option (Int32 × ky_St) :=
  ky_bd (fX4_isInYard a1 σ) fun v3 s1 =>
  if v3 = 0 then (
  ky_bd (fX4_of a1 (0 : Int32) s1) fun v7 s5 =>
  if v7 = a2 then (
  some ((0 : Int32), s5)) else (
  some ((1 : Int32), s5))) else (
  some ((0 : Int32), s1))
set_option maxHeartbeats 4000000 in
set_option maxRecDepth 100000 in
theorem KX4_canMove {G : ky_G} (d : Nat) (a1 : Int32) (a2 : Int32) (σ : ky_St) (r : Int32) (σ' : ky_St) (hf : fX4_canMove a1 a2 σ = some (r, σ')) : ky_K G mX4_canMove (d + 2) 0 0 [ky_r G 7, .int a1, .int a2] σ (.inr (some (.int r))) σ' := by
  unfold fX4_canMove at hf
  refine ky_enter rfl (by decide +kernel) (Nat.le_of_ble_eq_true rfl) (lv := [(0, ky_r G 7), (1, .int a1), (2, .int a2)]) rfl ?_
  refine ky_aload_n (n := 1) dX4_canMove_0 rfl rfl 0 rfl ?_
  refine ky_iload_n (n := 2) dX4_canMove_1 rfl rfl 1 rfl ?_
  obtain ⟨v3, s1, h2, hf⟩ := ky_bd_e hf
  refine ky_callV (kc := 0) (ks := 0) (kc2 := 0) (ks2 := 0) (k0 := 7) (as := [.int a1]) (st := []) (KX4_isInYard d a1 σ _ _ h2) okX4_isInYard wl_X4_44 kc_7 (q := (RX4, TX4, 12)) rfl rfl rfl rfl (Nat.le_of_ble_eq_true rfl) dX4_canMove_2 rfl ?_
  refine ky_if_ne (n := 8) (tgt := 22) dX4_canMove_5 rfl rfl (fun c4 => ?_) (fun c4 => ?_)
  · have hf := ky_neg c4 hf
    refine ky_iconst (v := (0 : Int32)) (n := 23) dX4_canMove_22 rfl rfl ?_
    cases hf
    exact ky_zreturn dX4_canMove_23 rfl (Or.inl rfl)
  · have hf := ky_pos c4 hf
    refine ky_aload_n (n := 9) dX4_canMove_8 rfl rfl 0 rfl ?_
    refine ky_iload_n (n := 10) dX4_canMove_9 rfl rfl 1 rfl ?_
    refine ky_iconst (v := (0 : Int32)) (n := 11) dX4_canMove_10 rfl rfl ?_
    obtain ⟨v7, s5, h6, hf⟩ := ky_bd_e hf
    refine ky_callV (kc := 0) (ks := 0) (kc2 := 0) (ks2 := 0) (k0 := 7) (as := [.int a1, .int (0 : Int32)]) (st := []) (KX4_of (d + 1) a1 (0 : Int32) s1 _ _ h6) okX4_of wl_X4_36 kc_7 (q := (RX4, TX4, 12)) rfl rfl rfl rfl (Nat.le_of_ble_eq_true rfl) dX4_canMove_11 rfl ?_
    refine ky_iload_n (n := 15) dX4_canMove_14 rfl rfl 2 rfl ?_
    refine ky_icmp_eq (n := 18) (tgt := 22) dX4_canMove_15 rfl rfl (fun c8 => ?_) (fun c8 => ?_)
    · have hf := ky_pos c8 hf
      refine ky_iconst (v := (0 : Int32)) (n := 23) dX4_canMove_22 rfl rfl ?_
      cases hf
      exact ky_zreturn dX4_canMove_23 rfl (Or.inl rfl)
    · have hf := ky_neg c8 hf
      refine ky_iconst (v := (1 : Int32)) (n := 19) dX4_canMove_18 rfl rfl ?_
      refine ky_goto (tgt := 23) dX4_canMove_19 rfl ?_
      cases hf
      exact ky_zreturn dX4_canMove_23 rfl (Or.inr rfl)
def fX4_moves (a1 : Int32) (a2 : Int32) (σ : ky_St) : Option (Int32 × ky_St) :=
  ky_bd (fX4_leaves a1 σ) fun v3 s1 =>
  ky_bd (fX4_comes a1 a2 s1) fun v6 s4 =>
  some (v3, s4)
set_option maxHeartbeats 4000000 in
set_option maxRecDepth 100000 in
theorem KX4_moves {G : ky_G} (d : Nat) (a1 : Int32) (a2 : Int32) (σ : ky_St) (r : Int32) (σ' : ky_St) (hf : fX4_moves a1 a2 σ = some (r, σ')) : ky_K G mX4_moves (d + 4) 0 0 [ky_r G 7, .int a1, .int a2] σ (.inr (some (.int r))) σ' := by
  unfold fX4_moves at hf
  refine ky_enter rfl (by decide +kernel) (Nat.le_of_ble_eq_true rfl) (lv := [(0, ky_r G 7), (1, .int a1), (2, .int a2)]) rfl ?_
  refine ky_aload_n (n := 1) dX4_moves_0 rfl rfl 0 rfl ?_
  refine ky_iload_n (n := 2) dX4_moves_1 rfl rfl 1 rfl ?_
  obtain ⟨v3, s1, h2, hf⟩ := ky_bd_e hf
  refine ky_callV (kc := 0) (ks := 0) (kc2 := 0) (ks2 := 0) (k0 := 7) (as := [.int a1]) (st := []) (KX4_leaves d a1 σ _ _ h2) okX4_leaves wl_X4_109 kc_7 (q := (RX4, TX4, 12)) rfl rfl rfl rfl (Nat.le_of_ble_eq_true rfl) dX4_moves_2 rfl ?_
  refine ky_istore_n (lv' := [(3, .int v3), (0, ky_r G 7), (1, .int a1), (2, .int a2)]) (n := 6) dX4_moves_5 rfl rfl (Nat.le_of_ble_eq_true rfl) rfl ?_
  refine ky_aload_n (n := 7) dX4_moves_6 rfl rfl 1 rfl ?_
  refine ky_iload_n (n := 8) dX4_moves_7 rfl rfl 2 rfl ?_
  refine ky_iload_n (n := 9) dX4_moves_8 rfl rfl 3 rfl ?_
  obtain ⟨v6, s4, h5, hf⟩ := ky_bd_e hf
  refine ky_callV (kc := 0) (ks := 0) (kc2 := 0) (ks2 := 0) (k0 := 7) (as := [.int a1, .int a2]) (st := []) (KX4_comes (d + 2) a1 a2 s1 _ _ h5) okX4_comes wl_X4_96 kc_7 (q := (RX4, TX4, 12)) rfl rfl rfl rfl (Nat.le_of_ble_eq_true rfl) dX4_moves_9 rfl ?_
  refine ky_iload_n (n := 13) dX4_moves_12 rfl rfl 0 rfl ?_
  cases hf
  exact ky_ireturn dX4_moves_13 rfl
def fX4_moveOn (a1 : Int32) (a2 : Int32) (σ : ky_St) : Option (Int32 × ky_St) :=
  ky_bd (fX4_isSet a1 σ) fun v3 s1 =>
  if v3 = 0 then (
  ky_bn (ky_u1 s1 7 5 (1 : Int32)) fun s5 =>
  if (s5.1 7 5) ≤ 0 then (
  ky_bd (fX4_save s5) fun v9 s7 =>
  ky_bd (fX4_moves a1 a2 s7) fun v12 s10 =>
  some (v12, s10)) else (
  some ((0 : Int32), s5))) else (
  ky_bd (fX4_isSite a2 s1) fun v15 s13 =>
  if v15 = 0 then (
  ky_bn (ky_u1 s13 7 5 (1 : Int32)) fun s37 =>
  if (s37.1 7 5) ≤ 0 then (
  ky_bd (fX4_save s37) fun v41 s39 =>
  ky_bd (fX4_moves a1 a2 s39) fun v44 s42 =>
  some (v44, s42)) else (
  some ((0 : Int32), s37))) else (
  ky_bd (fX4_canMove a1 a2 s13) fun v19 s17 =>
  if v19 = 0 then (
  ky_bn (ky_u1 s17 7 5 (2 : Int32)) fun s21 =>
  if (s21.1 7 5) ≤ 0 then (
  ky_bd (fX4_save s21) fun v25 s23 =>
  ky_bd (fX4_moves a1 a2 s23) fun v28 s26 =>
  some (v28, s26)) else (
  some ((0 : Int32), s21))) else (
  ky_bn (ky_u1 s17 7 5 (0 : Int32)) fun s29 =>
  if (s29.1 7 5) ≤ 0 then (
  ky_bd (fX4_save s29) fun v33 s31 =>
  ky_bd (fX4_moves a1 a2 s31) fun v36 s34 =>
  some (v36, s34)) else (
  some ((0 : Int32), s29)))))
set_option maxHeartbeats 4000000 in
set_option maxRecDepth 100000 in
theorem KX4_moveOn {G : ky_G} (d : Nat) (a1 : Int32) (a2 : Int32) (σ : ky_St) (r : Int32) (σ' : ky_St) (hf : fX4_moveOn a1 a2 σ = some (r, σ')) : ky_K G mX4_moveOn (d + 5) 0 0 [ky_r G 7, .int a1, .int a2] σ (.inr (some (.int r))) σ' := by
  unfold fX4_moveOn at hf
  refine ky_enter rfl (by decide +kernel) (Nat.le_of_ble_eq_true rfl) (lv := [(0, ky_r G 7), (1, .int a1), (2, .int a2)]) rfl ?_
  refine ky_aload_n (n := 1) dX4_moveOn_0 rfl rfl 0 rfl ?_
  refine ky_aload_n (n := 2) dX4_moveOn_1 rfl rfl 0 rfl ?_
  refine ky_iload_n (n := 3) dX4_moveOn_2 rfl rfl 1 rfl ?_
  obtain ⟨v3, s1, h2, hf⟩ := ky_bd_e hf
  refine ky_callV (kc := 0) (ks := 0) (kc2 := 0) (ks2 := 0) (k0 := 7) (as := [.int a1]) (st := [ky_r G 7]) (KX4_isSet (d + 3) a1 σ _ _ h2) okX4_isSet wl_X4_67 kc_7 (q := (RX4, TX4, 12)) rfl rfl rfl rfl (Nat.le_of_ble_eq_true rfl) dX4_moveOn_3 rfl ?_
  refine ky_if_eq (n := 9) (tgt := 16) dX4_moveOn_6 rfl rfl (fun c4 => ?_) (fun c4 => ?_)
  · have hf := ky_pos c4 hf
    refine ky_iconst (v := (1 : Int32)) (n := 17) dX4_moveOn_16 rfl rfl ?_
    refine ky_goto (tgt := 34) dX4_moveOn_17 rfl ?_
    refine ky_putf (q := (RX4, TX4, 12)) (n := 37) dX4_moveOn_34 rfl kc_7 rfl (Nat.le_of_ble_eq_true rfl) wg_X4_25 rfl (by decide +kernel) rfl (fun s5 es5 => ?_)
    have hf := ky_bn_e hf s5 es5
    refine ky_aload_n (n := 38) dX4_moveOn_37 rfl rfl 0 rfl ?_
    refine ky_getf (q := (RX4, TX4, 12)) (v := .int (s5.1 7 5)) (n := 41) dX4_moveOn_38 rfl kc_7 rfl (Nat.le_of_ble_eq_true rfl) wg_X4_25 (vf_7_5 _ _) ?_
    refine ky_if_le (n := 44) (tgt := 46) dX4_moveOn_41 rfl rfl (fun c6 => ?_) (fun c6 => ?_)
    · have hf := ky_pos c6 hf
      refine ky_aload_n (n := 47) dX4_moveOn_46 rfl rfl 0 rfl ?_
      obtain ⟨v9, s7, h8, hf⟩ := ky_bd_e hf
      refine ky_callV (kc := 0) (ks := 0) (kc2 := 0) (ks2 := 0) (k0 := 7) (as := []) (st := []) (KX4_save (d + 4) s5 _ _ h8) okX4_save wl_X4_54 kc_7 (q := (RX4, TX4, 12)) rfl rfl rfl rfl (Nat.le_of_ble_eq_true rfl) dX4_moveOn_47 rfl ?_
      refine ky_aload_n (n := 51) dX4_moveOn_50 rfl rfl 0 rfl ?_
      refine ky_iload_n (n := 52) dX4_moveOn_51 rfl rfl 1 rfl ?_
      refine ky_iload_n (n := 53) dX4_moveOn_52 rfl rfl 2 rfl ?_
      obtain ⟨v12, s10, h11, hf⟩ := ky_bd_e hf
      refine ky_callV (kc := 0) (ks := 0) (kc2 := 0) (ks2 := 0) (k0 := 7) (as := [.int a1, .int a2]) (st := []) (KX4_moves d a1 a2 s7 _ _ h11) okX4_moves wl_X4_116 kc_7 (q := (RX4, TX4, 12)) rfl rfl rfl rfl (Nat.le_of_ble_eq_true rfl) dX4_moveOn_53 rfl ?_
      cases hf
      exact ky_ireturn dX4_moveOn_56 rfl
    · have hf := ky_neg c6 hf
      refine ky_iconst (v := (0 : Int32)) (n := 45) dX4_moveOn_44 rfl rfl ?_
      cases hf
      exact ky_ireturn dX4_moveOn_45 rfl
  · have hf := ky_neg c4 hf
    refine ky_iload_n (n := 10) dX4_moveOn_9 rfl rfl 2 rfl ?_
    obtain ⟨v15, s13, h14, hf⟩ := ky_bd_e hf
    refine ky_callS (kc := 0) (ks := 0) (kc2 := 0) (ks2 := 0) (as := [.int a2]) (st := [ky_r G 7]) (KX4_isSite (d + 3) a2 s1 _ _ h14) okX4_isSite wl_X4_100 rfl rfl (Nat.le_of_ble_eq_true rfl) dX4_moveOn_10 rfl ?_
    refine ky_if_ne (n := 16) (tgt := 20) dX4_moveOn_13 rfl rfl (fun c16 => ?_) (fun c16 => ?_)
    · have hf := ky_neg c16 hf
      refine ky_aload_n (n := 21) dX4_moveOn_20 rfl rfl 0 rfl ?_
      refine ky_iload_n (n := 22) dX4_moveOn_21 rfl rfl 1 rfl ?_
      refine ky_iload_n (n := 23) dX4_moveOn_22 rfl rfl 2 rfl ?_
      obtain ⟨v19, s17, h18, hf⟩ := ky_bd_e hf
      refine ky_callV (kc := 0) (ks := 0) (kc2 := 0) (ks2 := 0) (k0 := 7) (as := [.int a1, .int a2]) (st := [ky_r G 7]) (KX4_canMove (d + 2) a1 a2 s13 _ _ h18) okX4_canMove wl_X4_112 kc_7 (q := (RX4, TX4, 12)) rfl rfl rfl rfl (Nat.le_of_ble_eq_true rfl) dX4_moveOn_23 rfl ?_
      refine ky_if_eq (n := 29) (tgt := 33) dX4_moveOn_26 rfl rfl (fun c20 => ?_) (fun c20 => ?_)
      · have hf := ky_pos c20 hf
        refine ky_iconst (v := (2 : Int32)) (n := 34) dX4_moveOn_33 rfl rfl ?_
        refine ky_putf (q := (RX4, TX4, 12)) (n := 37) dX4_moveOn_34 rfl kc_7 rfl (Nat.le_of_ble_eq_true rfl) wg_X4_25 rfl (by decide +kernel) rfl (fun s21 es21 => ?_)
        have hf := ky_bn_e hf s21 es21
        refine ky_aload_n (n := 38) dX4_moveOn_37 rfl rfl 0 rfl ?_
        refine ky_getf (q := (RX4, TX4, 12)) (v := .int (s21.1 7 5)) (n := 41) dX4_moveOn_38 rfl kc_7 rfl (Nat.le_of_ble_eq_true rfl) wg_X4_25 (vf_7_5 _ _) ?_
        refine ky_if_le (n := 44) (tgt := 46) dX4_moveOn_41 rfl rfl (fun c22 => ?_) (fun c22 => ?_)
        · have hf := ky_pos c22 hf
          refine ky_aload_n (n := 47) dX4_moveOn_46 rfl rfl 0 rfl ?_
          obtain ⟨v25, s23, h24, hf⟩ := ky_bd_e hf
          refine ky_callV (kc := 0) (ks := 0) (kc2 := 0) (ks2 := 0) (k0 := 7) (as := []) (st := []) (KX4_save (d + 4) s21 _ _ h24) okX4_save wl_X4_54 kc_7 (q := (RX4, TX4, 12)) rfl rfl rfl rfl (Nat.le_of_ble_eq_true rfl) dX4_moveOn_47 rfl ?_
          refine ky_aload_n (n := 51) dX4_moveOn_50 rfl rfl 0 rfl ?_
          refine ky_iload_n (n := 52) dX4_moveOn_51 rfl rfl 1 rfl ?_
          refine ky_iload_n (n := 53) dX4_moveOn_52 rfl rfl 2 rfl ?_
          obtain ⟨v28, s26, h27, hf⟩ := ky_bd_e hf
          refine ky_callV (kc := 0) (ks := 0) (kc2 := 0) (ks2 := 0) (k0 := 7) (as := [.int a1, .int a2]) (st := []) (KX4_moves d a1 a2 s23 _ _ h27) okX4_moves wl_X4_116 kc_7 (q := (RX4, TX4, 12)) rfl rfl rfl rfl (Nat.le_of_ble_eq_true rfl) dX4_moveOn_53 rfl ?_
          cases hf
          exact ky_ireturn dX4_moveOn_56 rfl
        · have hf := ky_neg c22 hf
          refine ky_iconst (v := (0 : Int32)) (n := 45) dX4_moveOn_44 rfl rfl ?_
          cases hf
          exact ky_ireturn dX4_moveOn_45 rfl
      · have hf := ky_neg c20 hf
        refine ky_iconst (v := (0 : Int32)) (n := 30) dX4_moveOn_29 rfl rfl ?_
        refine ky_goto (tgt := 34) dX4_moveOn_30 rfl ?_
        refine ky_putf (q := (RX4, TX4, 12)) (n := 37) dX4_moveOn_34 rfl kc_7 rfl (Nat.le_of_ble_eq_true rfl) wg_X4_25 rfl (by decide +kernel) rfl (fun s29 es29 => ?_)
        have hf := ky_bn_e hf s29 es29
        refine ky_aload_n (n := 38) dX4_moveOn_37 rfl rfl 0 rfl ?_
        refine ky_getf (q := (RX4, TX4, 12)) (v := .int (s29.1 7 5)) (n := 41) dX4_moveOn_38 rfl kc_7 rfl (Nat.le_of_ble_eq_true rfl) wg_X4_25 (vf_7_5 _ _) ?_
        refine ky_if_le (n := 44) (tgt := 46) dX4_moveOn_41 rfl rfl (fun c30 => ?_) (fun c30 => ?_)
        · have hf := ky_pos c30 hf
          refine ky_aload_n (n := 47) dX4_moveOn_46 rfl rfl 0 rfl ?_
          obtain ⟨v33, s31, h32, hf⟩ := ky_bd_e hf
          refine ky_callV (kc := 0) (ks := 0) (kc2 := 0) (ks2 := 0) (k0 := 7) (as := []) (st := []) (KX4_save (d + 4) s29 _ _ h32) okX4_save wl_X4_54 kc_7 (q := (RX4, TX4, 12)) rfl rfl rfl rfl (Nat.le_of_ble_eq_true rfl) dX4_moveOn_47 rfl ?_
          refine ky_aload_n (n := 51) dX4_moveOn_50 rfl rfl 0 rfl ?_
          refine ky_iload_n (n := 52) dX4_moveOn_51 rfl rfl 1 rfl ?_
          refine ky_iload_n (n := 53) dX4_moveOn_52 rfl rfl 2 rfl ?_
          obtain ⟨v36, s34, h35, hf⟩ := ky_bd_e hf
          refine ky_callV (kc := 0) (ks := 0) (kc2 := 0) (ks2 := 0) (k0 := 7) (as := [.int a1, .int a2]) (st := []) (KX4_moves d a1 a2 s31 _ _ h35) okX4_moves wl_X4_116 kc_7 (q := (RX4, TX4, 12)) rfl rfl rfl rfl (Nat.le_of_ble_eq_true rfl) dX4_moveOn_53 rfl ?_
          cases hf
          exact ky_ireturn dX4_moveOn_56 rfl
        · have hf := ky_neg c30 hf
          refine ky_iconst (v := (0 : Int32)) (n := 45) dX4_moveOn_44 rfl rfl ?_
          cases hf
          exact ky_ireturn dX4_moveOn_45 rfl
    · have hf := ky_pos c16 hf
      refine ky_iconst (v := (1 : Int32)) (n := 17) dX4_moveOn_16 rfl rfl ?_
      refine ky_goto (tgt := 34) dX4_moveOn_17 rfl ?_
      refine ky_putf (q := (RX4, TX4, 12)) (n := 37) dX4_moveOn_34 rfl kc_7 rfl (Nat.le_of_ble_eq_true rfl) wg_X4_25 rfl (by decide +kernel) rfl (fun s37 es37 => ?_)
      have hf := ky_bn_e hf s37 es37
      refine ky_aload_n (n := 38) dX4_moveOn_37 rfl rfl 0 rfl ?_
      refine ky_getf (q := (RX4, TX4, 12)) (v := .int (s37.1 7 5)) (n := 41) dX4_moveOn_38 rfl kc_7 rfl (Nat.le_of_ble_eq_true rfl) wg_X4_25 (vf_7_5 _ _) ?_
      refine ky_if_le (n := 44) (tgt := 46) dX4_moveOn_41 rfl rfl (fun c38 => ?_) (fun c38 => ?_)
      · have hf := ky_pos c38 hf
        refine ky_aload_n (n := 47) dX4_moveOn_46 rfl rfl 0 rfl ?_
        obtain ⟨v41, s39, h40, hf⟩ := ky_bd_e hf
        refine ky_callV (kc := 0) (ks := 0) (kc2 := 0) (ks2 := 0) (k0 := 7) (as := []) (st := []) (KX4_save (d + 4) s37 _ _ h40) okX4_save wl_X4_54 kc_7 (q := (RX4, TX4, 12)) rfl rfl rfl rfl (Nat.le_of_ble_eq_true rfl) dX4_moveOn_47 rfl ?_
        refine ky_aload_n (n := 51) dX4_moveOn_50 rfl rfl 0 rfl ?_
        refine ky_iload_n (n := 52) dX4_moveOn_51 rfl rfl 1 rfl ?_
        refine ky_iload_n (n := 53) dX4_moveOn_52 rfl rfl 2 rfl ?_
        obtain ⟨v44, s42, h43, hf⟩ := ky_bd_e hf
        refine ky_callV (kc := 0) (ks := 0) (kc2 := 0) (ks2 := 0) (k0 := 7) (as := [.int a1, .int a2]) (st := []) (KX4_moves d a1 a2 s39 _ _ h43) okX4_moves wl_X4_116 kc_7 (q := (RX4, TX4, 12)) rfl rfl rfl rfl (Nat.le_of_ble_eq_true rfl) dX4_moveOn_53 rfl ?_
        cases hf
        exact ky_ireturn dX4_moveOn_56 rfl
      · have hf := ky_neg c38 hf
        refine ky_iconst (v := (0 : Int32)) (n := 45) dX4_moveOn_44 rfl rfl ?_
        cases hf
        exact ky_ireturn dX4_moveOn_45 rfl
def fX4_bring (a1 : Int32) (σ : ky_St) : Option (Int32 × ky_St) :=
  ky_bd (fX4_isSet a1 σ) fun v3 s1 =>
  if v3 = 0 then (
  ky_bn (ky_u1 s1 7 5 (1 : Int32)) fun s25 =>
  if (s25.1 7 5) ≤ 0 then (
  ky_bd (fX4_save s25) fun v29 s27 =>
  ky_bd (fX4_leaves a1 s27) fun v32 s30 =>
  some (v32, s30)) else (
  some ((0 : Int32), s25))) else (
  ky_bd (fX4_isInYard a1 s1) fun v7 s5 =>
  if v7 = 0 then (
  ky_bn (ky_u1 s5 7 5 (0 : Int32)) fun s9 =>
  if (s9.1 7 5) ≤ 0 then (
  ky_bd (fX4_save s9) fun v13 s11 =>
  ky_bd (fX4_leaves a1 s11) fun v16 s14 =>
  some (v16, s14)) else (
  some ((0 : Int32), s9))) else (
  ky_bn (ky_u1 s5 7 5 (2 : Int32)) fun s17 =>
  if (s17.1 7 5) ≤ 0 then (
  ky_bd (fX4_save s17) fun v21 s19 =>
  ky_bd (fX4_leaves a1 s19) fun v24 s22 =>
  some (v24, s22)) else (
  some ((0 : Int32), s17))))
set_option maxHeartbeats 4000000 in
set_option maxRecDepth 100000 in
theorem KX4_bring {G : ky_G} (d : Nat) (a1 : Int32) (σ : ky_St) (r : Int32) (σ' : ky_St) (hf : fX4_bring a1 σ = some (r, σ')) : ky_K G mX4_bring (d + 4) 0 0 [ky_r G 7, .int a1] σ (.inr (some (.int r))) σ' := by
  unfold fX4_bring at hf
  refine ky_enter rfl (by decide +kernel) (Nat.le_of_ble_eq_true rfl) (lv := [(0, ky_r G 7), (1, .int a1)]) rfl ?_
  refine ky_aload_n (n := 1) dX4_bring_0 rfl rfl 0 rfl ?_
  refine ky_aload_n (n := 2) dX4_bring_1 rfl rfl 0 rfl ?_
  refine ky_iload_n (n := 3) dX4_bring_2 rfl rfl 1 rfl ?_
  obtain ⟨v3, s1, h2, hf⟩ := ky_bd_e hf
  refine ky_callV (kc := 0) (ks := 0) (kc2 := 0) (ks2 := 0) (k0 := 7) (as := [.int a1]) (st := [ky_r G 7]) (KX4_isSet (d + 2) a1 σ _ _ h2) okX4_isSet wl_X4_67 kc_7 (q := (RX4, TX4, 12)) rfl rfl rfl rfl (Nat.le_of_ble_eq_true rfl) dX4_bring_3 rfl ?_
  refine ky_if_ne (n := 9) (tgt := 13) dX4_bring_6 rfl rfl (fun c4 => ?_) (fun c4 => ?_)
  · have hf := ky_neg c4 hf
    refine ky_aload_n (n := 14) dX4_bring_13 rfl rfl 0 rfl ?_
    refine ky_iload_n (n := 15) dX4_bring_14 rfl rfl 1 rfl ?_
    obtain ⟨v7, s5, h6, hf⟩ := ky_bd_e hf
    refine ky_callV (kc := 0) (ks := 0) (kc2 := 0) (ks2 := 0) (k0 := 7) (as := [.int a1]) (st := [ky_r G 7]) (KX4_isInYard (d + 2) a1 s1 _ _ h6) okX4_isInYard wl_X4_44 kc_7 (q := (RX4, TX4, 12)) rfl rfl rfl rfl (Nat.le_of_ble_eq_true rfl) dX4_bring_15 rfl ?_
    refine ky_if_eq (n := 21) (tgt := 25) dX4_bring_18 rfl rfl (fun c8 => ?_) (fun c8 => ?_)
    · have hf := ky_pos c8 hf
      refine ky_iconst (v := (0 : Int32)) (n := 26) dX4_bring_25 rfl rfl ?_
      refine ky_putf (q := (RX4, TX4, 12)) (n := 29) dX4_bring_26 rfl kc_7 rfl (Nat.le_of_ble_eq_true rfl) wg_X4_25 rfl (by decide +kernel) rfl (fun s9 es9 => ?_)
      have hf := ky_bn_e hf s9 es9
      refine ky_aload_n (n := 30) dX4_bring_29 rfl rfl 0 rfl ?_
      refine ky_getf (q := (RX4, TX4, 12)) (v := .int (s9.1 7 5)) (n := 33) dX4_bring_30 rfl kc_7 rfl (Nat.le_of_ble_eq_true rfl) wg_X4_25 (vf_7_5 _ _) ?_
      refine ky_if_le (n := 36) (tgt := 38) dX4_bring_33 rfl rfl (fun c10 => ?_) (fun c10 => ?_)
      · have hf := ky_pos c10 hf
        refine ky_aload_n (n := 39) dX4_bring_38 rfl rfl 0 rfl ?_
        obtain ⟨v13, s11, h12, hf⟩ := ky_bd_e hf
        refine ky_callV (kc := 0) (ks := 0) (kc2 := 0) (ks2 := 0) (k0 := 7) (as := []) (st := []) (KX4_save (d + 3) s9 _ _ h12) okX4_save wl_X4_54 kc_7 (q := (RX4, TX4, 12)) rfl rfl rfl rfl (Nat.le_of_ble_eq_true rfl) dX4_bring_39 rfl ?_
        refine ky_aload_n (n := 43) dX4_bring_42 rfl rfl 0 rfl ?_
        refine ky_iload_n (n := 44) dX4_bring_43 rfl rfl 1 rfl ?_
        obtain ⟨v16, s14, h15, hf⟩ := ky_bd_e hf
        refine ky_callV (kc := 0) (ks := 0) (kc2 := 0) (ks2 := 0) (k0 := 7) (as := [.int a1]) (st := []) (KX4_leaves d a1 s11 _ _ h15) okX4_leaves wl_X4_109 kc_7 (q := (RX4, TX4, 12)) rfl rfl rfl rfl (Nat.le_of_ble_eq_true rfl) dX4_bring_44 rfl ?_
        cases hf
        exact ky_ireturn dX4_bring_47 rfl
      · have hf := ky_neg c10 hf
        refine ky_iconst (v := (0 : Int32)) (n := 37) dX4_bring_36 rfl rfl ?_
        cases hf
        exact ky_ireturn dX4_bring_37 rfl
    · have hf := ky_neg c8 hf
      refine ky_iconst (v := (2 : Int32)) (n := 22) dX4_bring_21 rfl rfl ?_
      refine ky_goto (tgt := 26) dX4_bring_22 rfl ?_
      refine ky_putf (q := (RX4, TX4, 12)) (n := 29) dX4_bring_26 rfl kc_7 rfl (Nat.le_of_ble_eq_true rfl) wg_X4_25 rfl (by decide +kernel) rfl (fun s17 es17 => ?_)
      have hf := ky_bn_e hf s17 es17
      refine ky_aload_n (n := 30) dX4_bring_29 rfl rfl 0 rfl ?_
      refine ky_getf (q := (RX4, TX4, 12)) (v := .int (s17.1 7 5)) (n := 33) dX4_bring_30 rfl kc_7 rfl (Nat.le_of_ble_eq_true rfl) wg_X4_25 (vf_7_5 _ _) ?_
      refine ky_if_le (n := 36) (tgt := 38) dX4_bring_33 rfl rfl (fun c18 => ?_) (fun c18 => ?_)
      · have hf := ky_pos c18 hf
        refine ky_aload_n (n := 39) dX4_bring_38 rfl rfl 0 rfl ?_
        obtain ⟨v21, s19, h20, hf⟩ := ky_bd_e hf
        refine ky_callV (kc := 0) (ks := 0) (kc2 := 0) (ks2 := 0) (k0 := 7) (as := []) (st := []) (KX4_save (d + 3) s17 _ _ h20) okX4_save wl_X4_54 kc_7 (q := (RX4, TX4, 12)) rfl rfl rfl rfl (Nat.le_of_ble_eq_true rfl) dX4_bring_39 rfl ?_
        refine ky_aload_n (n := 43) dX4_bring_42 rfl rfl 0 rfl ?_
        refine ky_iload_n (n := 44) dX4_bring_43 rfl rfl 1 rfl ?_
        obtain ⟨v24, s22, h23, hf⟩ := ky_bd_e hf
        refine ky_callV (kc := 0) (ks := 0) (kc2 := 0) (ks2 := 0) (k0 := 7) (as := [.int a1]) (st := []) (KX4_leaves d a1 s19 _ _ h23) okX4_leaves wl_X4_109 kc_7 (q := (RX4, TX4, 12)) rfl rfl rfl rfl (Nat.le_of_ble_eq_true rfl) dX4_bring_44 rfl ?_
        cases hf
        exact ky_ireturn dX4_bring_47 rfl
      · have hf := ky_neg c18 hf
        refine ky_iconst (v := (0 : Int32)) (n := 37) dX4_bring_36 rfl rfl ?_
        cases hf
        exact ky_ireturn dX4_bring_37 rfl
  · have hf := ky_pos c4 hf
    refine ky_iconst (v := (1 : Int32)) (n := 10) dX4_bring_9 rfl rfl ?_
    refine ky_goto (tgt := 26) dX4_bring_10 rfl ?_
    refine ky_putf (q := (RX4, TX4, 12)) (n := 29) dX4_bring_26 rfl kc_7 rfl (Nat.le_of_ble_eq_true rfl) wg_X4_25 rfl (by decide +kernel) rfl (fun s25 es25 => ?_)
    have hf := ky_bn_e hf s25 es25
    refine ky_aload_n (n := 30) dX4_bring_29 rfl rfl 0 rfl ?_
    refine ky_getf (q := (RX4, TX4, 12)) (v := .int (s25.1 7 5)) (n := 33) dX4_bring_30 rfl kc_7 rfl (Nat.le_of_ble_eq_true rfl) wg_X4_25 (vf_7_5 _ _) ?_
    refine ky_if_le (n := 36) (tgt := 38) dX4_bring_33 rfl rfl (fun c26 => ?_) (fun c26 => ?_)
    · have hf := ky_pos c26 hf
      refine ky_aload_n (n := 39) dX4_bring_38 rfl rfl 0 rfl ?_
      obtain ⟨v29, s27, h28, hf⟩ := ky_bd_e hf
      refine ky_callV (kc := 0) (ks := 0) (kc2 := 0) (ks2 := 0) (k0 := 7) (as := []) (st := []) (KX4_save (d + 3) s25 _ _ h28) okX4_save wl_X4_54 kc_7 (q := (RX4, TX4, 12)) rfl rfl rfl rfl (Nat.le_of_ble_eq_true rfl) dX4_bring_39 rfl ?_
      refine ky_aload_n (n := 43) dX4_bring_42 rfl rfl 0 rfl ?_
      refine ky_iload_n (n := 44) dX4_bring_43 rfl rfl 1 rfl ?_
      obtain ⟨v32, s30, h31, hf⟩ := ky_bd_e hf
      refine ky_callV (kc := 0) (ks := 0) (kc2 := 0) (ks2 := 0) (k0 := 7) (as := [.int a1]) (st := []) (KX4_leaves d a1 s27 _ _ h31) okX4_leaves wl_X4_109 kc_7 (q := (RX4, TX4, 12)) rfl rfl rfl rfl (Nat.le_of_ble_eq_true rfl) dX4_bring_44 rfl ?_
      cases hf
      exact ky_ireturn dX4_bring_47 rfl
    · have hf := ky_neg c26 hf
      refine ky_iconst (v := (0 : Int32)) (n := 37) dX4_bring_36 rfl rfl ?_
      cases hf
      exact ky_ireturn dX4_bring_37 rfl
def fX4_bringShort_L52 (x1 : Int32) (x2 : Int32) (x3 : Int32) (y1 : Int32) (σ : ky_St) : Option (Int32 × ky_St) :=
  ky_bn (ky_u1 σ 7 5 y1) fun s5 =>
  if (s5.1 7 5) ≤ 0 then (
  ky_bd (fX4_save s5) fun v9 s7 =>
  ky_bd (fX4_costOf x2 s7) fun v12 s10 =>
  ky_bn (x3 * v12) fun v13 =>
  ky_bd (fX4_of x1 (0 : Int32) s10) fun v16 s14 =>
  ky_bd (fX4_bill v16 (1 : Int32) v13 s14) fun v19 s17 =>
  ky_bd (fX4_charge x1 x2 x3 s17) fun v22 s20 =>
  ky_bd (fX4_leaves x1 s20) fun v25 s23 =>
  some ((v25 + v13), s23)) else (
  some ((0 : Int32), s5))
set_option maxHeartbeats 4000000 in
set_option maxRecDepth 100000 in
theorem tX4_bringShort_L52 {G : ky_G} (d : Nat) : ∀ (x1 : Int32) (x2 : Int32) (x3 : Int32) (y1 : Int32) (σ : ky_St) (r : Int32) (σ' : ky_St), fX4_bringShort_L52 x1 x2 x3 y1 σ = some (r, σ') → ky_T G mX4_bringShort (d + 4) 0 0 52 [(0, ky_r G 7), (1, .int x1), (2, .int x2), (3, .int x3)] [.int y1, ky_r G 7] σ (.inr (some (.int r))) σ' := by
  intro x1 x2 x3 y1 σ r σ' hf
  unfold fX4_bringShort_L52 at hf
  refine ky_putf (q := (RX4, TX4, 12)) (n := 55) dX4_bringShort_52 rfl kc_7 rfl (Nat.le_of_ble_eq_true rfl) wg_X4_25 rfl (by decide +kernel) rfl (fun s5 es5 => ?_)
  have hf := ky_bn_e hf s5 es5
  refine ky_aload_n (n := 56) dX4_bringShort_55 rfl rfl 0 rfl ?_
  refine ky_getf (q := (RX4, TX4, 12)) (v := .int (s5.1 7 5)) (n := 59) dX4_bringShort_56 rfl kc_7 rfl (Nat.le_of_ble_eq_true rfl) wg_X4_25 (vf_7_5 _ _) ?_
  refine ky_if_le (n := 62) (tgt := 64) dX4_bringShort_59 rfl rfl (fun c6 => ?_) (fun c6 => ?_)
  · have hf := ky_pos c6 hf
    refine ky_aload_n (n := 65) dX4_bringShort_64 rfl rfl 0 rfl ?_
    obtain ⟨v9, s7, h8, hf⟩ := ky_bd_e hf
    refine ky_callV (kc := 0) (ks := 0) (kc2 := 0) (ks2 := 0) (k0 := 7) (as := []) (st := []) (KX4_save (d + 3) s5 _ _ h8) okX4_save wl_X4_54 kc_7 (q := (RX4, TX4, 12)) rfl rfl rfl rfl (Nat.le_of_ble_eq_true rfl) dX4_bringShort_65 rfl ?_
    refine ky_iload_n (n := 69) dX4_bringShort_68 rfl rfl 3 rfl ?_
    refine ky_iload_n (n := 70) dX4_bringShort_69 rfl rfl 2 rfl ?_
    obtain ⟨v12, s10, h11, hf⟩ := ky_bd_e hf
    refine ky_callS (kc := 0) (ks := 0) (kc2 := 0) (ks2 := 0) (as := [.int x2]) (st := [.int x3]) (KX4_costOf (d + 3) x2 s7 _ _ h11) okX4_costOf wl_X4_61 rfl rfl (Nat.le_of_ble_eq_true rfl) dX4_bringShort_70 rfl ?_
    refine ky_imul (n := 74) dX4_bringShort_73 rfl ?_
    refine ky_topi (fun v13 ev13 => ?_)
    have hf := ky_bn_e hf v13 ev13
    refine ky_istore (lv' := [(4, .int v13), (0, ky_r G 7), (1, .int x1), (2, .int x2), (3, .int x3)]) (n := 76) dX4_bringShort_74 rfl (Nat.le_of_ble_eq_true rfl) rfl ?_
    refine ky_aload_n (n := 77) dX4_bringShort_76 rfl rfl 1 rfl ?_
    refine ky_aload_n (n := 78) dX4_bringShort_77 rfl rfl 1 rfl ?_
    refine ky_iload_n (n := 79) dX4_bringShort_78 rfl rfl 2 rfl ?_
    refine ky_iconst (v := (0 : Int32)) (n := 80) dX4_bringShort_79 rfl rfl ?_
    obtain ⟨v16, s14, h15, hf⟩ := ky_bd_e hf
    refine ky_callV (kc := 0) (ks := 0) (kc2 := 0) (ks2 := 0) (k0 := 7) (as := [.int x1, .int (0 : Int32)]) (st := [ky_r G 7]) (KX4_of (d + 3) x1 (0 : Int32) s10 _ _ h15) okX4_of wl_X4_36 kc_7 (q := (RX4, TX4, 12)) rfl rfl rfl rfl (Nat.le_of_ble_eq_true rfl) dX4_bringShort_80 rfl ?_
    refine ky_iconst (v := (1 : Int32)) (n := 84) dX4_bringShort_83 rfl rfl ?_
    refine ky_iload (n := 86) dX4_bringShort_84 rfl 0 rfl ?_
    obtain ⟨v19, s17, h18, hf⟩ := ky_bd_e hf
    refine ky_callV (kc := 0) (ks := 0) (kc2 := 0) (ks2 := 0) (k0 := 7) (as := [.int v16, .int (1 : Int32), .int v13]) (st := []) (KX4_bill (d + 3) v16 (1 : Int32) v13 s14 _ _ h18) okX4_bill wl_X4_83 kc_7 (q := (RX4, TX4, 12)) rfl rfl rfl rfl (Nat.le_of_ble_eq_true rfl) dX4_bringShort_86 rfl ?_
    refine ky_aload_n (n := 90) dX4_bringShort_89 rfl rfl 1 rfl ?_
    refine ky_iload_n (n := 91) dX4_bringShort_90 rfl rfl 2 rfl ?_
    refine ky_iload_n (n := 92) dX4_bringShort_91 rfl rfl 3 rfl ?_
    refine ky_iload_n (n := 93) dX4_bringShort_92 rfl rfl 4 rfl ?_
    obtain ⟨v22, s20, h21, hf⟩ := ky_bd_e hf
    refine ky_callV (kc := 0) (ks := 0) (kc2 := 0) (ks2 := 0) (k0 := 7) (as := [.int x1, .int x2, .int x3]) (st := []) (KX4_charge (d + 2) x1 x2 x3 s17 _ _ h21) okX4_charge wl_X4_76 kc_7 (q := (RX4, TX4, 12)) rfl rfl rfl rfl (Nat.le_of_ble_eq_true rfl) dX4_bringShort_93 rfl ?_
    refine ky_aload_n (n := 97) dX4_bringShort_96 rfl rfl 1 rfl ?_
    refine ky_iload_n (n := 98) dX4_bringShort_97 rfl rfl 2 rfl ?_
    obtain ⟨v25, s23, h24, hf⟩ := ky_bd_e hf
    refine ky_callV (kc := 0) (ks := 0) (kc2 := 0) (ks2 := 0) (k0 := 7) (as := [.int x1]) (st := []) (KX4_leaves d x1 s20 _ _ h24) okX4_leaves wl_X4_109 kc_7 (q := (RX4, TX4, 12)) rfl rfl rfl rfl (Nat.le_of_ble_eq_true rfl) dX4_bringShort_98 rfl ?_
    refine ky_iload (n := 103) dX4_bringShort_101 rfl 0 rfl ?_
    refine ky_iadd (n := 104) dX4_bringShort_103 rfl ?_
    cases hf
    exact ky_ireturn dX4_bringShort_104 rfl
  · have hf := ky_neg c6 hf
    refine ky_iconst (v := (0 : Int32)) (n := 63) dX4_bringShort_62 rfl rfl ?_
    cases hf
    exact ky_ireturn dX4_bringShort_63 rfl
def fX4_bringShort_L16 (x1 : Int32) (x2 : Int32) (x3 : Int32) (σ : ky_St) : Option (Int32 × ky_St) :=
  fX4_bringShort_L52 x1 x2 x3 (1 : Int32) σ
set_option maxHeartbeats 4000000 in
set_option maxRecDepth 100000 in
theorem tX4_bringShort_L16 {G : ky_G} (d : Nat) : ∀ (x1 : Int32) (x2 : Int32) (x3 : Int32) (σ : ky_St) (r : Int32) (σ' : ky_St), fX4_bringShort_L16 x1 x2 x3 σ = some (r, σ') → ky_T G mX4_bringShort (d + 4) 0 0 16 [(0, ky_r G 7), (1, .int x1), (2, .int x2), (3, .int x3)] [ky_r G 7] σ (.inr (some (.int r))) σ' := by
  intro x1 x2 x3 σ r σ' hf
  unfold fX4_bringShort_L16 at hf
  refine ky_iconst (v := (1 : Int32)) (n := 17) dX4_bringShort_16 rfl rfl ?_
  refine ky_goto (tgt := 52) dX4_bringShort_17 rfl ?_
  refine ky_sub [0, 1, 2, 3] (lv' := [(0, ky_r G 7), (1, .int x1), (2, .int x2), (3, .int x3)]) rfl ?_
  exact tX4_bringShort_L52 d x1 x2 x3 (1 : Int32) σ _ _ hf
def fX4_bringShort_L47 (x1 : Int32) (x2 : Int32) (x3 : Int32) (σ : ky_St) : Option (Int32 × ky_St) :=
  fX4_bringShort_L52 x1 x2 x3 (3 : Int32) σ
set_option maxHeartbeats 4000000 in
set_option maxRecDepth 100000 in
theorem tX4_bringShort_L47 {G : ky_G} (d : Nat) : ∀ (x1 : Int32) (x2 : Int32) (x3 : Int32) (σ : ky_St) (r : Int32) (σ' : ky_St), fX4_bringShort_L47 x1 x2 x3 σ = some (r, σ') → ky_T G mX4_bringShort (d + 4) 0 0 47 [(0, ky_r G 7), (1, .int x1), (2, .int x2), (3, .int x3)] [ky_r G 7] σ (.inr (some (.int r))) σ' := by
  intro x1 x2 x3 σ r σ' hf
  unfold fX4_bringShort_L47 at hf
  refine ky_iconst (v := (3 : Int32)) (n := 48) dX4_bringShort_47 rfl rfl ?_
  refine ky_goto (tgt := 52) dX4_bringShort_48 rfl ?_
  refine ky_sub [0, 1, 2, 3] (lv' := [(0, ky_r G 7), (1, .int x1), (2, .int x2), (3, .int x3)]) rfl ?_
  exact tX4_bringShort_L52 d x1 x2 x3 (3 : Int32) σ _ _ hf
def fX4_bringShort (a1 : Int32) (a2 : Int32) (a3 : Int32) (σ : ky_St) : Option (Int32 × ky_St) :=
  ky_bd (fX4_isSet a1 σ) fun v3 s1 =>
  if v3 = 0 then (
  fX4_bringShort_L16 a1 a2 a3 s1) else (
  ky_bd (fX4_isKind a2 s1) fun v28 s26 =>
  if v28 = 0 then (
  fX4_bringShort_L16 a1 a2 a3 s26) else (
  if (1 : Int32) ≤ a3 then (
  ky_bd (fX4_isInYard a1 s26) fun v33 s31 =>
  if v33 = 0 then (
  ky_bd (fX4_hasSo a1 a2 a3 s31) fun v37 s35 =>
  if v37 = 0 then (
  fX4_bringShort_L47 a1 a2 a3 s35) else (
  fX4_bringShort_L52 a1 a2 a3 (0 : Int32) s35)) else (
  fX4_bringShort_L47 a1 a2 a3 s31)) else (
  fX4_bringShort_L52 a1 a2 a3 (2 : Int32) s26)))
set_option maxHeartbeats 4000000 in
set_option maxRecDepth 100000 in
theorem KX4_bringShort {G : ky_G} (d : Nat) (a1 : Int32) (a2 : Int32) (a3 : Int32) (σ : ky_St) (r : Int32) (σ' : ky_St) (hf : fX4_bringShort a1 a2 a3 σ = some (r, σ')) : ky_K G mX4_bringShort (d + 4) 0 0 [ky_r G 7, .int a1, .int a2, .int a3] σ (.inr (some (.int r))) σ' := by
  unfold fX4_bringShort at hf
  refine ky_enter rfl (by decide +kernel) (Nat.le_of_ble_eq_true rfl) (lv := [(0, ky_r G 7), (1, .int a1), (2, .int a2), (3, .int a3)]) rfl ?_
  refine ky_aload_n (n := 1) dX4_bringShort_0 rfl rfl 0 rfl ?_
  refine ky_aload_n (n := 2) dX4_bringShort_1 rfl rfl 0 rfl ?_
  refine ky_iload_n (n := 3) dX4_bringShort_2 rfl rfl 1 rfl ?_
  obtain ⟨v3, s1, h2, hf⟩ := ky_bd_e hf
  refine ky_callV (kc := 0) (ks := 0) (kc2 := 0) (ks2 := 0) (k0 := 7) (as := [.int a1]) (st := [ky_r G 7]) (KX4_isSet (d + 2) a1 σ _ _ h2) okX4_isSet wl_X4_67 kc_7 (q := (RX4, TX4, 12)) rfl rfl rfl rfl (Nat.le_of_ble_eq_true rfl) dX4_bringShort_3 rfl ?_
  refine ky_if_eq (n := 9) (tgt := 16) dX4_bringShort_6 rfl rfl (fun c4 => ?_) (fun c4 => ?_)
  · have hf := ky_pos c4 hf
    refine ky_sub [0, 1, 2, 3] (lv' := [(0, ky_r G 7), (1, .int a1), (2, .int a2), (3, .int a3)]) rfl ?_
    exact tX4_bringShort_L16 d a1 a2 a3 s1 _ _ hf
  · have hf := ky_neg c4 hf
    refine ky_iload_n (n := 10) dX4_bringShort_9 rfl rfl 2 rfl ?_
    obtain ⟨v28, s26, h27, hf⟩ := ky_bd_e hf
    refine ky_callS (kc := 0) (ks := 0) (kc2 := 0) (ks2 := 0) (as := [.int a2]) (st := [ky_r G 7]) (KX4_isKind (d + 2) a2 s1 _ _ h27) okX4_isKind wl_X4_64 rfl rfl (Nat.le_of_ble_eq_true rfl) dX4_bringShort_10 rfl ?_
    refine ky_if_ne (n := 16) (tgt := 20) dX4_bringShort_13 rfl rfl (fun c29 => ?_) (fun c29 => ?_)
    · have hf := ky_neg c29 hf
      refine ky_iload_n (n := 21) dX4_bringShort_20 rfl rfl 3 rfl ?_
      refine ky_iconst (v := (1 : Int32)) (n := 22) dX4_bringShort_21 rfl rfl ?_
      refine ky_icmp_ge (n := 25) (tgt := 29) dX4_bringShort_22 rfl rfl (fun c30 => ?_) (fun c30 => ?_)
      · have hf := ky_pos c30 hf
        refine ky_aload_n (n := 30) dX4_bringShort_29 rfl rfl 0 rfl ?_
        refine ky_iload_n (n := 31) dX4_bringShort_30 rfl rfl 1 rfl ?_
        obtain ⟨v33, s31, h32, hf⟩ := ky_bd_e hf
        refine ky_callV (kc := 0) (ks := 0) (kc2 := 0) (ks2 := 0) (k0 := 7) (as := [.int a1]) (st := [ky_r G 7]) (KX4_isInYard (d + 2) a1 s26 _ _ h32) okX4_isInYard wl_X4_44 kc_7 (q := (RX4, TX4, 12)) rfl rfl rfl rfl (Nat.le_of_ble_eq_true rfl) dX4_bringShort_31 rfl ?_
        refine ky_if_ne (n := 37) (tgt := 47) dX4_bringShort_34 rfl rfl (fun c34 => ?_) (fun c34 => ?_)
        · have hf := ky_neg c34 hf
          refine ky_sub [0, 1, 2, 3] (lv' := [(0, ky_r G 7), (1, .int a1), (2, .int a2), (3, .int a3)]) rfl ?_
          exact tX4_bringShort_L47 d a1 a2 a3 s31 _ _ hf
        · have hf := ky_pos c34 hf
          refine ky_aload_n (n := 38) dX4_bringShort_37 rfl rfl 0 rfl ?_
          refine ky_iload_n (n := 39) dX4_bringShort_38 rfl rfl 1 rfl ?_
          refine ky_iload_n (n := 40) dX4_bringShort_39 rfl rfl 2 rfl ?_
          refine ky_iload_n (n := 41) dX4_bringShort_40 rfl rfl 3 rfl ?_
          obtain ⟨v37, s35, h36, hf⟩ := ky_bd_e hf
          refine ky_callV (kc := 0) (ks := 0) (kc2 := 0) (ks2 := 0) (k0 := 7) (as := [.int a1, .int a2, .int a3]) (st := [ky_r G 7]) (KX4_hasSo (d + 2) a1 a2 a3 s31 _ _ h36) okX4_hasSo wl_X4_73 kc_7 (q := (RX4, TX4, 12)) rfl rfl rfl rfl (Nat.le_of_ble_eq_true rfl) dX4_bringShort_41 rfl ?_
          refine ky_if_ne (n := 47) (tgt := 51) dX4_bringShort_44 rfl rfl (fun c38 => ?_) (fun c38 => ?_)
          · have hf := ky_neg c38 hf
            refine ky_iconst (v := (0 : Int32)) (n := 52) dX4_bringShort_51 rfl rfl ?_
            refine ky_sub [0, 1, 2, 3] (lv' := [(0, ky_r G 7), (1, .int a1), (2, .int a2), (3, .int a3)]) rfl ?_
            exact tX4_bringShort_L52 d a1 a2 a3 (0 : Int32) s35 _ _ hf
          · have hf := ky_pos c38 hf
            refine ky_sub [0, 1, 2, 3] (lv' := [(0, ky_r G 7), (1, .int a1), (2, .int a2), (3, .int a3)]) rfl ?_
            exact tX4_bringShort_L47 d a1 a2 a3 s35 _ _ hf
      · have hf := ky_neg c30 hf
        refine ky_iconst (v := (2 : Int32)) (n := 26) dX4_bringShort_25 rfl rfl ?_
        refine ky_goto (tgt := 52) dX4_bringShort_26 rfl ?_
        refine ky_sub [0, 1, 2, 3] (lv' := [(0, ky_r G 7), (1, .int a1), (2, .int a2), (3, .int a3)]) rfl ?_
        exact tX4_bringShort_L52 d a1 a2 a3 (2 : Int32) s26 _ _ hf
    · have hf := ky_pos c29 hf
      refine ky_sub [0, 1, 2, 3] (lv' := [(0, ky_r G 7), (1, .int a1), (2, .int a2), (3, .int a3)]) rfl ?_
      exact tX4_bringShort_L16 d a1 a2 a3 s26 _ _ hf
def fX4_billedTo (a1 : Int32) (σ : ky_St) : Option (Int32 × ky_St) :=
  ky_bd (fX4_ofSite a1 (0 : Int32) σ) fun v3 s1 =>
  ky_bd (fX4_ofSite a1 (1 : Int32) s1) fun v6 s4 =>
  ky_bd (fX4_ofSite a1 (2 : Int32) s4) fun v9 s7 =>
  some (((v3 + v6) + v9), s7)
set_option maxHeartbeats 4000000 in
set_option maxRecDepth 100000 in
theorem KX4_billedTo {G : ky_G} (d : Nat) (a1 : Int32) (σ : ky_St) (r : Int32) (σ' : ky_St) (hf : fX4_billedTo a1 σ = some (r, σ')) : ky_K G mX4_billedTo (d + 1) 0 0 [ky_r G 7, .int a1] σ (.inr (some (.int r))) σ' := by
  unfold fX4_billedTo at hf
  refine ky_enter rfl (by decide +kernel) (Nat.le_of_ble_eq_true rfl) (lv := [(0, ky_r G 7), (1, .int a1)]) rfl ?_
  refine ky_aload_n (n := 1) dX4_billedTo_0 rfl rfl 0 rfl ?_
  refine ky_iload_n (n := 2) dX4_billedTo_1 rfl rfl 1 rfl ?_
  refine ky_iconst (v := (0 : Int32)) (n := 3) dX4_billedTo_2 rfl rfl ?_
  obtain ⟨v3, s1, h2, hf⟩ := ky_bd_e hf
  refine ky_callV (kc := 0) (ks := 0) (kc2 := 0) (ks2 := 0) (k0 := 7) (as := [.int a1, .int (0 : Int32)]) (st := []) (KX4_ofSite d a1 (0 : Int32) σ _ _ h2) okX4_ofSite wl_X4_119 kc_7 (q := (RX4, TX4, 12)) rfl rfl rfl rfl (Nat.le_of_ble_eq_true rfl) dX4_billedTo_3 rfl ?_
  refine ky_aload_n (n := 7) dX4_billedTo_6 rfl rfl 0 rfl ?_
  refine ky_iload_n (n := 8) dX4_billedTo_7 rfl rfl 1 rfl ?_
  refine ky_iconst (v := (1 : Int32)) (n := 9) dX4_billedTo_8 rfl rfl ?_
  obtain ⟨v6, s4, h5, hf⟩ := ky_bd_e hf
  refine ky_callV (kc := 0) (ks := 0) (kc2 := 0) (ks2 := 0) (k0 := 7) (as := [.int a1, .int (1 : Int32)]) (st := [.int v3]) (KX4_ofSite d a1 (1 : Int32) s1 _ _ h5) okX4_ofSite wl_X4_119 kc_7 (q := (RX4, TX4, 12)) rfl rfl rfl rfl (Nat.le_of_ble_eq_true rfl) dX4_billedTo_9 rfl ?_
  refine ky_iadd (n := 13) dX4_billedTo_12 rfl ?_
  refine ky_aload_n (n := 14) dX4_billedTo_13 rfl rfl 0 rfl ?_
  refine ky_iload_n (n := 15) dX4_billedTo_14 rfl rfl 1 rfl ?_
  refine ky_iconst (v := (2 : Int32)) (n := 16) dX4_billedTo_15 rfl rfl ?_
  obtain ⟨v9, s7, h8, hf⟩ := ky_bd_e hf
  refine ky_callV (kc := 0) (ks := 0) (kc2 := 0) (ks2 := 0) (k0 := 7) (as := [.int a1, .int (2 : Int32)]) (st := [.int (v3 + v6)]) (KX4_ofSite d a1 (2 : Int32) s4 _ _ h8) okX4_ofSite wl_X4_119 kc_7 (q := (RX4, TX4, 12)) rfl rfl rfl rfl (Nat.le_of_ble_eq_true rfl) dX4_billedTo_16 rfl ?_
  refine ky_iadd (n := 20) dX4_billedTo_19 rfl ?_
  cases hf
  exact ky_ireturn dX4_billedTo_20 rfl
def fX4_owedBy (a1 : Int32) (σ : ky_St) : Option (Int32 × ky_St) :=
  ky_bd (fX4_billedTo a1 σ) fun v3 s1 =>
  ky_bd (fX4_ofSite a1 (3 : Int32) s1) fun v6 s4 =>
  some ((v3 - v6), s4)
set_option maxHeartbeats 4000000 in
set_option maxRecDepth 100000 in
theorem KX4_owedBy {G : ky_G} (d : Nat) (a1 : Int32) (σ : ky_St) (r : Int32) (σ' : ky_St) (hf : fX4_owedBy a1 σ = some (r, σ')) : ky_K G mX4_owedBy (d + 2) 0 0 [ky_r G 7, .int a1] σ (.inr (some (.int r))) σ' := by
  unfold fX4_owedBy at hf
  refine ky_enter rfl (by decide +kernel) (Nat.le_of_ble_eq_true rfl) (lv := [(0, ky_r G 7), (1, .int a1)]) rfl ?_
  refine ky_aload_n (n := 1) dX4_owedBy_0 rfl rfl 0 rfl ?_
  refine ky_iload_n (n := 2) dX4_owedBy_1 rfl rfl 1 rfl ?_
  obtain ⟨v3, s1, h2, hf⟩ := ky_bd_e hf
  refine ky_callV (kc := 0) (ks := 0) (kc2 := 0) (ks2 := 0) (k0 := 7) (as := [.int a1]) (st := []) (KX4_billedTo d a1 σ _ _ h2) okX4_billedTo wl_X4_122 kc_7 (q := (RX4, TX4, 12)) rfl rfl rfl rfl (Nat.le_of_ble_eq_true rfl) dX4_owedBy_2 rfl ?_
  refine ky_aload_n (n := 6) dX4_owedBy_5 rfl rfl 0 rfl ?_
  refine ky_iload_n (n := 7) dX4_owedBy_6 rfl rfl 1 rfl ?_
  refine ky_iconst (v := (3 : Int32)) (n := 8) dX4_owedBy_7 rfl rfl ?_
  obtain ⟨v6, s4, h5, hf⟩ := ky_bd_e hf
  refine ky_callV (kc := 0) (ks := 0) (kc2 := 0) (ks2 := 0) (k0 := 7) (as := [.int a1, .int (3 : Int32)]) (st := [.int v3]) (KX4_ofSite (d + 1) a1 (3 : Int32) s1 _ _ h5) okX4_ofSite wl_X4_119 kc_7 (q := (RX4, TX4, 12)) rfl rfl rfl rfl (Nat.le_of_ble_eq_true rfl) dX4_owedBy_8 rfl ?_
  refine ky_isub (n := 12) dX4_owedBy_11 rfl ?_
  cases hf
  exact ky_ireturn dX4_owedBy_12 rfl
def fX4_pay_L41 (x1 : Int32) (x2 : Int32) (y1 : Int32) (σ : ky_St) : Option (Int32 × ky_St) :=
  ky_bn (ky_u1 σ 7 5 y1) fun s13 =>
  if (s13.1 7 5) ≤ 0 then (
  ky_bd (fX4_save s13) fun v17 s15 =>
  ky_bd (fX4_bill x1 (3 : Int32) x2 s15) fun v20 s18 =>
  ky_bd (fX4_owedBy x1 s18) fun v23 s21 =>
  some (v23, s21)) else (
  some ((0 : Int32), s13))
set_option maxHeartbeats 4000000 in
set_option maxRecDepth 100000 in
theorem tX4_pay_L41 {G : ky_G} (d : Nat) : ∀ (x1 : Int32) (x2 : Int32) (y1 : Int32) (σ : ky_St) (r : Int32) (σ' : ky_St), fX4_pay_L41 x1 x2 y1 σ = some (r, σ') → ky_T G mX4_pay (d + 3) 0 0 41 [(0, ky_r G 7), (1, .int x1), (2, .int x2)] [.int y1, ky_r G 7] σ (.inr (some (.int r))) σ' := by
  intro x1 x2 y1 σ r σ' hf
  unfold fX4_pay_L41 at hf
  refine ky_putf (q := (RX4, TX4, 12)) (n := 44) dX4_pay_41 rfl kc_7 rfl (Nat.le_of_ble_eq_true rfl) wg_X4_25 rfl (by decide +kernel) rfl (fun s13 es13 => ?_)
  have hf := ky_bn_e hf s13 es13
  refine ky_aload_n (n := 45) dX4_pay_44 rfl rfl 0 rfl ?_
  refine ky_getf (q := (RX4, TX4, 12)) (v := .int (s13.1 7 5)) (n := 48) dX4_pay_45 rfl kc_7 rfl (Nat.le_of_ble_eq_true rfl) wg_X4_25 (vf_7_5 _ _) ?_
  refine ky_if_le (n := 51) (tgt := 53) dX4_pay_48 rfl rfl (fun c14 => ?_) (fun c14 => ?_)
  · have hf := ky_pos c14 hf
    refine ky_aload_n (n := 54) dX4_pay_53 rfl rfl 0 rfl ?_
    obtain ⟨v17, s15, h16, hf⟩ := ky_bd_e hf
    refine ky_callV (kc := 0) (ks := 0) (kc2 := 0) (ks2 := 0) (k0 := 7) (as := []) (st := []) (KX4_save (d + 2) s13 _ _ h16) okX4_save wl_X4_54 kc_7 (q := (RX4, TX4, 12)) rfl rfl rfl rfl (Nat.le_of_ble_eq_true rfl) dX4_pay_54 rfl ?_
    refine ky_aload_n (n := 58) dX4_pay_57 rfl rfl 0 rfl ?_
    refine ky_iload_n (n := 59) dX4_pay_58 rfl rfl 1 rfl ?_
    refine ky_iconst (v := (3 : Int32)) (n := 60) dX4_pay_59 rfl rfl ?_
    refine ky_iload_n (n := 61) dX4_pay_60 rfl rfl 2 rfl ?_
    obtain ⟨v20, s18, h19, hf⟩ := ky_bd_e hf
    refine ky_callV (kc := 0) (ks := 0) (kc2 := 0) (ks2 := 0) (k0 := 7) (as := [.int x1, .int (3 : Int32), .int x2]) (st := []) (KX4_bill (d + 2) x1 (3 : Int32) x2 s15 _ _ h19) okX4_bill wl_X4_83 kc_7 (q := (RX4, TX4, 12)) rfl rfl rfl rfl (Nat.le_of_ble_eq_true rfl) dX4_pay_61 rfl ?_
    refine ky_aload_n (n := 65) dX4_pay_64 rfl rfl 0 rfl ?_
    refine ky_iload_n (n := 66) dX4_pay_65 rfl rfl 1 rfl ?_
    obtain ⟨v23, s21, h22, hf⟩ := ky_bd_e hf
    refine ky_callV (kc := 0) (ks := 0) (kc2 := 0) (ks2 := 0) (k0 := 7) (as := [.int x1]) (st := []) (KX4_owedBy d x1 s18 _ _ h22) okX4_owedBy wl_X4_125 kc_7 (q := (RX4, TX4, 12)) rfl rfl rfl rfl (Nat.le_of_ble_eq_true rfl) dX4_pay_66 rfl ?_
    cases hf
    exact ky_ireturn dX4_pay_69 rfl
  · have hf := ky_neg c14 hf
    refine ky_iconst (v := (0 : Int32)) (n := 52) dX4_pay_51 rfl rfl ?_
    cases hf
    exact ky_ireturn dX4_pay_52 rfl
def fX4_pay (a1 : Int32) (a2 : Int32) (σ : ky_St) : Option (Int32 × ky_St) :=
  ky_bd (fX4_isSite a1 σ) fun v3 s1 =>
  if v3 = 0 then (
  fX4_pay_L41 a1 a2 (1 : Int32) s1) else (
  ky_bd (fX4_within a2 (1 : Int32) (9999 : Int32) s1) fun v7 s5 =>
  if v7 = 0 then (
  fX4_pay_L41 a1 a2 (2 : Int32) s5) else (
  ky_bd (fX4_owedBy a1 s5) fun v11 s9 =>
  if a2 ≤ v11 then (
  fX4_pay_L41 a1 a2 (0 : Int32) s9) else (
  fX4_pay_L41 a1 a2 (3 : Int32) s9)))
set_option maxHeartbeats 4000000 in
set_option maxRecDepth 100000 in
theorem KX4_pay {G : ky_G} (d : Nat) (a1 : Int32) (a2 : Int32) (σ : ky_St) (r : Int32) (σ' : ky_St) (hf : fX4_pay a1 a2 σ = some (r, σ')) : ky_K G mX4_pay (d + 3) 0 0 [ky_r G 7, .int a1, .int a2] σ (.inr (some (.int r))) σ' := by
  unfold fX4_pay at hf
  refine ky_enter rfl (by decide +kernel) (Nat.le_of_ble_eq_true rfl) (lv := [(0, ky_r G 7), (1, .int a1), (2, .int a2)]) rfl ?_
  refine ky_aload_n (n := 1) dX4_pay_0 rfl rfl 0 rfl ?_
  refine ky_iload_n (n := 2) dX4_pay_1 rfl rfl 1 rfl ?_
  obtain ⟨v3, s1, h2, hf⟩ := ky_bd_e hf
  refine ky_callS (kc := 0) (ks := 0) (kc2 := 0) (ks2 := 0) (as := [.int a1]) (st := [ky_r G 7]) (KX4_isSite (d + 1) a1 σ _ _ h2) okX4_isSite wl_X4_100 rfl rfl (Nat.le_of_ble_eq_true rfl) dX4_pay_2 rfl ?_
  refine ky_if_ne (n := 8) (tgt := 12) dX4_pay_5 rfl rfl (fun c4 => ?_) (fun c4 => ?_)
  · have hf := ky_neg c4 hf
    refine ky_iload_n (n := 13) dX4_pay_12 rfl rfl 2 rfl ?_
    refine ky_iconst (v := (1 : Int32)) (n := 14) dX4_pay_13 rfl rfl ?_
    refine ky_sipush (v := (9999 : Int32)) (n := 17) dX4_pay_14 rfl rfl ?_
    obtain ⟨v7, s5, h6, hf⟩ := ky_bd_e hf
    refine ky_callS (kc := 0) (ks := 0) (kc2 := 0) (ks2 := 0) (as := [.int a2, .int (1 : Int32), .int (9999 : Int32)]) (st := [ky_r G 7]) (KX4_within (d + 2) a2 (1 : Int32) (9999 : Int32) s1 _ _ h6) okX4_within wl_X4_32 rfl rfl (Nat.le_of_ble_eq_true rfl) dX4_pay_17 rfl ?_
    refine ky_if_ne (n := 23) (tgt := 27) dX4_pay_20 rfl rfl (fun c8 => ?_) (fun c8 => ?_)
    · have hf := ky_neg c8 hf
      refine ky_aload_n (n := 28) dX4_pay_27 rfl rfl 0 rfl ?_
      refine ky_iload_n (n := 29) dX4_pay_28 rfl rfl 1 rfl ?_
      obtain ⟨v11, s9, h10, hf⟩ := ky_bd_e hf
      refine ky_callV (kc := 0) (ks := 0) (kc2 := 0) (ks2 := 0) (k0 := 7) (as := [.int a1]) (st := [ky_r G 7]) (KX4_owedBy d a1 s5 _ _ h10) okX4_owedBy wl_X4_125 kc_7 (q := (RX4, TX4, 12)) rfl rfl rfl rfl (Nat.le_of_ble_eq_true rfl) dX4_pay_29 rfl ?_
      refine ky_iload_n (n := 33) dX4_pay_32 rfl rfl 2 rfl ?_
      refine ky_icmp_ge (n := 36) (tgt := 40) dX4_pay_33 rfl rfl (fun c12 => ?_) (fun c12 => ?_)
      · have hf := ky_pos c12 hf
        refine ky_iconst (v := (0 : Int32)) (n := 41) dX4_pay_40 rfl rfl ?_
        refine ky_sub [0, 1, 2] (lv' := [(0, ky_r G 7), (1, .int a1), (2, .int a2)]) rfl ?_
        exact tX4_pay_L41 d a1 a2 (0 : Int32) s9 _ _ hf
      · have hf := ky_neg c12 hf
        refine ky_iconst (v := (3 : Int32)) (n := 37) dX4_pay_36 rfl rfl ?_
        refine ky_goto (tgt := 41) dX4_pay_37 rfl ?_
        refine ky_sub [0, 1, 2] (lv' := [(0, ky_r G 7), (1, .int a1), (2, .int a2)]) rfl ?_
        exact tX4_pay_L41 d a1 a2 (3 : Int32) s9 _ _ hf
    · have hf := ky_pos c8 hf
      refine ky_iconst (v := (2 : Int32)) (n := 24) dX4_pay_23 rfl rfl ?_
      refine ky_goto (tgt := 41) dX4_pay_24 rfl ?_
      refine ky_sub [0, 1, 2] (lv' := [(0, ky_r G 7), (1, .int a1), (2, .int a2)]) rfl ?_
      exact tX4_pay_L41 d a1 a2 (2 : Int32) s5 _ _ hf
  · have hf := ky_pos c4 hf
    refine ky_iconst (v := (1 : Int32)) (n := 9) dX4_pay_8 rfl rfl ?_
    refine ky_goto (tgt := 41) dX4_pay_9 rfl ?_
    refine ky_sub [0, 1, 2] (lv' := [(0, ky_r G 7), (1, .int a1), (2, .int a2)]) rfl ?_
    exact tX4_pay_L41 d a1 a2 (1 : Int32) s1 _ _ hf
def fX4_areDays (a1 : Int32) (σ : ky_St) : Option (Int32 × ky_St) :=
  ky_bd (fX4_within a1 (1 : Int32) (99 : Int32) σ) fun v3 s1 =>
  ky_g (v3 = 0 ∨ v3 = 1) (some (v3, s1))
set_option maxHeartbeats 4000000 in
set_option maxRecDepth 100000 in
theorem KX4_areDays {G : ky_G} (d : Nat) (a1 : Int32) (σ : ky_St) (r : Int32) (σ' : ky_St) (hf : fX4_areDays a1 σ = some (r, σ')) : ky_K G mX4_areDays (d + 1) 0 0 [.int a1] σ (.inr (some (.int r))) σ' := by
  unfold fX4_areDays at hf
  refine ky_enter rfl (by decide +kernel) (Nat.le_of_ble_eq_true rfl) (lv := [(0, .int a1)]) rfl ?_
  refine ky_iload_n (n := 1) dX4_areDays_0 rfl rfl 0 rfl ?_
  refine ky_iconst (v := (1 : Int32)) (n := 2) dX4_areDays_1 rfl rfl ?_
  refine ky_bipush (v := (99 : Int32)) (n := 4) dX4_areDays_2 rfl rfl ?_
  obtain ⟨v3, s1, h2, hf⟩ := ky_bd_e hf
  refine ky_callS (kc := 0) (ks := 0) (kc2 := 0) (ks2 := 0) (as := [.int a1, .int (1 : Int32), .int (99 : Int32)]) (st := []) (KX4_within d a1 (1 : Int32) (99 : Int32) σ _ _ h2) okX4_within wl_X4_32 rfl rfl (Nat.le_of_ble_eq_true rfl) dX4_areDays_4 rfl ?_
  obtain ⟨gz, hf⟩ := ky_ge hf
  cases hf
  exact ky_zreturn dX4_areDays_7 rfl gz
def fX4_canPass (a1 : Int32) (σ : ky_St) : Option (Int32 × ky_St) :=
  ky_g (¬ ((2 : Int32) < 0 ∨ 283 ≤ (2 : Int32).toNatClampNeg)) (
  if (9999 : Int32) < ((σ.1 8 (2 : Int32).toNatClampNeg) + a1) then (
  some ((0 : Int32), σ)) else (
  some ((1 : Int32), σ)))
set_option maxHeartbeats 4000000 in
set_option maxRecDepth 100000 in
theorem KX4_canPass {G : ky_G} (d : Nat) (a1 : Int32) (σ : ky_St) (r : Int32) (σ' : ky_St) (hf : fX4_canPass a1 σ = some (r, σ')) : ky_K G mX4_canPass d 0 0 [ky_r G 7, .int a1] σ (.inr (some (.int r))) σ' := by
  unfold fX4_canPass at hf
  refine ky_enter rfl (by decide +kernel) (Nat.le_of_ble_eq_true rfl) (lv := [(0, ky_r G 7), (1, .int a1)]) rfl ?_
  refine ky_aload_n (n := 1) dX4_canPass_0 rfl rfl 0 rfl ?_
  refine ky_getf (q := (RX4, TX4, 12)) (v := ky_r G 8) (n := 4) dX4_canPass_1 rfl kc_7 rfl (Nat.le_of_ble_eq_true rfl) wg_X4_7 (vf_7_0 _ _) ?_
  refine ky_iconst (v := (2 : Int32)) (n := 5) dX4_canPass_4 rfl rfl ?_
  obtain ⟨g1, hf⟩ := ky_ge hf
  refine ky_iald (n := 6) dX4_canPass_5 rfl kl_8 g1 ?_
  refine ky_iload_n (n := 7) dX4_canPass_6 rfl rfl 1 rfl ?_
  refine ky_iadd (n := 8) dX4_canPass_7 rfl ?_
  refine ky_sipush (v := (9999 : Int32)) (n := 11) dX4_canPass_8 rfl rfl ?_
  refine ky_icmp_gt (n := 14) (tgt := 18) dX4_canPass_11 rfl rfl (fun c2 => ?_) (fun c2 => ?_)
  · have hf := ky_pos c2 hf
    refine ky_iconst (v := (0 : Int32)) (n := 19) dX4_canPass_18 rfl rfl ?_
    cases hf
    exact ky_zreturn dX4_canPass_19 rfl (Or.inl rfl)
  · have hf := ky_neg c2 hf
    refine ky_iconst (v := (1 : Int32)) (n := 15) dX4_canPass_14 rfl rfl ?_
    refine ky_goto (tgt := 19) dX4_canPass_15 rfl ?_
    cases hf
    exact ky_zreturn dX4_canPass_19 rfl (Or.inr rfl)
def fX4_pass_L25 (x1 : Int32) (y1 : Int32) (σ : ky_St) : Option (Int32 × ky_St) :=
  ky_bn (ky_u1 σ 7 5 y1) fun s9 =>
  if (s9.1 7 5) ≤ 0 then (
  ky_bd (fX4_save s9) fun v13 s11 =>
  ky_g (¬ ((2 : Int32) < 0 ∨ 283 ≤ (2 : Int32).toNatClampNeg)) (
  ky_g (¬ ((2 : Int32) < 0 ∨ 283 ≤ (2 : Int32).toNatClampNeg)) (
  ky_bn (ky_u1 s11 8 (2 : Int32).toNatClampNeg ((s11.1 8 (2 : Int32).toNatClampNeg) + x1)) fun s16 =>
  ky_g (¬ ((2 : Int32) < 0 ∨ 283 ≤ (2 : Int32).toNatClampNeg)) (
  some ((s16.1 8 (2 : Int32).toNatClampNeg), s16))))) else (
  some ((0 : Int32), s9))
set_option maxHeartbeats 4000000 in
set_option maxRecDepth 100000 in
theorem tX4_pass_L25 {G : ky_G} (d : Nat) : ∀ (x1 : Int32) (y1 : Int32) (σ : ky_St) (r : Int32) (σ' : ky_St), fX4_pass_L25 x1 y1 σ = some (r, σ') → ky_T G mX4_pass (d + 2) 0 0 25 [(0, ky_r G 7), (1, .int x1)] [.int y1, ky_r G 7] σ (.inr (some (.int r))) σ' := by
  intro x1 y1 σ r σ' hf
  unfold fX4_pass_L25 at hf
  refine ky_putf (q := (RX4, TX4, 12)) (n := 28) dX4_pass_25 rfl kc_7 rfl (Nat.le_of_ble_eq_true rfl) wg_X4_25 rfl (by decide +kernel) rfl (fun s9 es9 => ?_)
  have hf := ky_bn_e hf s9 es9
  refine ky_aload_n (n := 29) dX4_pass_28 rfl rfl 0 rfl ?_
  refine ky_getf (q := (RX4, TX4, 12)) (v := .int (s9.1 7 5)) (n := 32) dX4_pass_29 rfl kc_7 rfl (Nat.le_of_ble_eq_true rfl) wg_X4_25 (vf_7_5 _ _) ?_
  refine ky_if_le (n := 35) (tgt := 37) dX4_pass_32 rfl rfl (fun c10 => ?_) (fun c10 => ?_)
  · have hf := ky_pos c10 hf
    refine ky_aload_n (n := 38) dX4_pass_37 rfl rfl 0 rfl ?_
    obtain ⟨v13, s11, h12, hf⟩ := ky_bd_e hf
    refine ky_callV (kc := 0) (ks := 0) (kc2 := 0) (ks2 := 0) (k0 := 7) (as := []) (st := []) (KX4_save (d + 1) s9 _ _ h12) okX4_save wl_X4_54 kc_7 (q := (RX4, TX4, 12)) rfl rfl rfl rfl (Nat.le_of_ble_eq_true rfl) dX4_pass_38 rfl ?_
    refine ky_aload_n (n := 42) dX4_pass_41 rfl rfl 0 rfl ?_
    refine ky_getf (q := (RX4, TX4, 12)) (v := ky_r G 8) (n := 45) dX4_pass_42 rfl kc_7 rfl (Nat.le_of_ble_eq_true rfl) wg_X4_7 (vf_7_0 _ _) ?_
    refine ky_iconst (v := (2 : Int32)) (n := 46) dX4_pass_45 rfl rfl ?_
    refine ky_dup2 (n := 47) dX4_pass_46 rfl rfl rfl ?_
    obtain ⟨g14, hf⟩ := ky_ge hf
    refine ky_iald (n := 48) dX4_pass_47 rfl kl_8 g14 ?_
    refine ky_iload_n (n := 49) dX4_pass_48 rfl rfl 1 rfl ?_
    refine ky_iadd (n := 50) dX4_pass_49 rfl ?_
    obtain ⟨g15, hf⟩ := ky_ge hf
    refine ky_iast (n := 51) dX4_pass_50 rfl kl_8 rfl g15 (fun s16 es16 => ?_)
    have hf := ky_bn_e hf s16 es16
    refine ky_aload_n (n := 52) dX4_pass_51 rfl rfl 0 rfl ?_
    refine ky_getf (q := (RX4, TX4, 12)) (v := ky_r G 8) (n := 55) dX4_pass_52 rfl kc_7 rfl (Nat.le_of_ble_eq_true rfl) wg_X4_7 (vf_7_0 _ _) ?_
    refine ky_iconst (v := (2 : Int32)) (n := 56) dX4_pass_55 rfl rfl ?_
    obtain ⟨g17, hf⟩ := ky_ge hf
    refine ky_iald (n := 57) dX4_pass_56 rfl kl_8 g17 ?_
    cases hf
    exact ky_ireturn dX4_pass_57 rfl
  · have hf := ky_neg c10 hf
    refine ky_iconst (v := (0 : Int32)) (n := 36) dX4_pass_35 rfl rfl ?_
    cases hf
    exact ky_ireturn dX4_pass_36 rfl
def fX4_pass (a1 : Int32) (σ : ky_St) : Option (Int32 × ky_St) :=
  ky_bd (fX4_areDays a1 σ) fun v3 s1 =>
  if v3 = 0 then (
  fX4_pass_L25 a1 (1 : Int32) s1) else (
  ky_bd (fX4_canPass a1 s1) fun v7 s5 =>
  if v7 = 0 then (
  fX4_pass_L25 a1 (2 : Int32) s5) else (
  fX4_pass_L25 a1 (0 : Int32) s5))
set_option maxHeartbeats 4000000 in
set_option maxRecDepth 100000 in
theorem KX4_pass {G : ky_G} (d : Nat) (a1 : Int32) (σ : ky_St) (r : Int32) (σ' : ky_St) (hf : fX4_pass a1 σ = some (r, σ')) : ky_K G mX4_pass (d + 2) 0 0 [ky_r G 7, .int a1] σ (.inr (some (.int r))) σ' := by
  unfold fX4_pass at hf
  refine ky_enter rfl (by decide +kernel) (Nat.le_of_ble_eq_true rfl) (lv := [(0, ky_r G 7), (1, .int a1)]) rfl ?_
  refine ky_aload_n (n := 1) dX4_pass_0 rfl rfl 0 rfl ?_
  refine ky_iload_n (n := 2) dX4_pass_1 rfl rfl 1 rfl ?_
  obtain ⟨v3, s1, h2, hf⟩ := ky_bd_e hf
  refine ky_callS (kc := 0) (ks := 0) (kc2 := 0) (ks2 := 0) (as := [.int a1]) (st := [ky_r G 7]) (KX4_areDays d a1 σ _ _ h2) okX4_areDays wl_X4_128 rfl rfl (Nat.le_of_ble_eq_true rfl) dX4_pass_2 rfl ?_
  refine ky_if_ne (n := 8) (tgt := 12) dX4_pass_5 rfl rfl (fun c4 => ?_) (fun c4 => ?_)
  · have hf := ky_neg c4 hf
    refine ky_aload_n (n := 13) dX4_pass_12 rfl rfl 0 rfl ?_
    refine ky_iload_n (n := 14) dX4_pass_13 rfl rfl 1 rfl ?_
    obtain ⟨v7, s5, h6, hf⟩ := ky_bd_e hf
    refine ky_callV (kc := 0) (ks := 0) (kc2 := 0) (ks2 := 0) (k0 := 7) (as := [.int a1]) (st := [ky_r G 7]) (KX4_canPass (d + 1) a1 s1 _ _ h6) okX4_canPass wl_X4_131 kc_7 (q := (RX4, TX4, 12)) rfl rfl rfl rfl (Nat.le_of_ble_eq_true rfl) dX4_pass_14 rfl ?_
    refine ky_if_eq (n := 20) (tgt := 24) dX4_pass_17 rfl rfl (fun c8 => ?_) (fun c8 => ?_)
    · have hf := ky_pos c8 hf
      refine ky_iconst (v := (2 : Int32)) (n := 25) dX4_pass_24 rfl rfl ?_
      refine ky_sub [0, 1] (lv' := [(0, ky_r G 7), (1, .int a1)]) rfl ?_
      exact tX4_pass_L25 d a1 (2 : Int32) s5 _ _ hf
    · have hf := ky_neg c8 hf
      refine ky_iconst (v := (0 : Int32)) (n := 21) dX4_pass_20 rfl rfl ?_
      refine ky_goto (tgt := 25) dX4_pass_21 rfl ?_
      refine ky_sub [0, 1] (lv' := [(0, ky_r G 7), (1, .int a1)]) rfl ?_
      exact tX4_pass_L25 d a1 (0 : Int32) s5 _ _ hf
  · have hf := ky_pos c4 hf
    refine ky_iconst (v := (1 : Int32)) (n := 9) dX4_pass_8 rfl rfl ?_
    refine ky_goto (tgt := 25) dX4_pass_9 rfl ?_
    refine ky_sub [0, 1] (lv' := [(0, ky_r G 7), (1, .int a1)]) rfl ?_
    exact tX4_pass_L25 d a1 (1 : Int32) s1 _ _ hf
def fX4_isSetting (a1 : Int32) (σ : ky_St) : Option (Int32 × ky_St) :=
  ky_bd (fX4_within a1 (0 : Int32) (1 : Int32) σ) fun v3 s1 =>
  ky_g (v3 = 0 ∨ v3 = 1) (some (v3, s1))
set_option maxHeartbeats 4000000 in
set_option maxRecDepth 100000 in
theorem KX4_isSetting {G : ky_G} (d : Nat) (a1 : Int32) (σ : ky_St) (r : Int32) (σ' : ky_St) (hf : fX4_isSetting a1 σ = some (r, σ')) : ky_K G mX4_isSetting (d + 1) 0 0 [.int a1] σ (.inr (some (.int r))) σ' := by
  unfold fX4_isSetting at hf
  refine ky_enter rfl (by decide +kernel) (Nat.le_of_ble_eq_true rfl) (lv := [(0, .int a1)]) rfl ?_
  refine ky_iload_n (n := 1) dX4_isSetting_0 rfl rfl 0 rfl ?_
  refine ky_iconst (v := (0 : Int32)) (n := 2) dX4_isSetting_1 rfl rfl ?_
  refine ky_iconst (v := (1 : Int32)) (n := 3) dX4_isSetting_2 rfl rfl ?_
  obtain ⟨v3, s1, h2, hf⟩ := ky_bd_e hf
  refine ky_callS (kc := 0) (ks := 0) (kc2 := 0) (ks2 := 0) (as := [.int a1, .int (0 : Int32), .int (1 : Int32)]) (st := []) (KX4_within d a1 (0 : Int32) (1 : Int32) σ _ _ h2) okX4_within wl_X4_32 rfl rfl (Nat.le_of_ble_eq_true rfl) dX4_isSetting_3 rfl ?_
  obtain ⟨gz, hf⟩ := ky_ge hf
  cases hf
  exact ky_zreturn dX4_isSetting_6 rfl gz
def fX4_set_L46 (x1 : Int32) (x2 : Int32) (y1 : Int32) (σ : ky_St) : Option (Int32 × ky_St) :=
  ky_bn (ky_u1 σ 7 5 y1) fun s7 =>
  if (s7.1 7 5) ≤ 0 then (
  ky_bd (fX4_save s7) fun v11 s9 =>
  ky_g (¬ (x1 < 0 ∨ 283 ≤ x1.toNatClampNeg)) (
  ky_bn (s9.1 8 x1.toNatClampNeg) fun v13 =>
  ky_g (¬ (x1 < 0 ∨ 283 ≤ x1.toNatClampNeg)) (
  ky_bn (ky_u1 s9 8 x1.toNatClampNeg x2) fun s15 =>
  some (v13, s15)))) else (
  some ((0 : Int32), s7))
set_option maxHeartbeats 4000000 in
set_option maxRecDepth 100000 in
theorem tX4_set_L46 {G : ky_G} (d : Nat) : ∀ (x1 : Int32) (x2 : Int32) (y1 : Int32) (σ : ky_St) (r : Int32) (σ' : ky_St), fX4_set_L46 x1 x2 y1 σ = some (r, σ') → ky_T G mX4_set (d + 2) 0 0 46 [(0, ky_r G 7), (1, .int x1), (2, .int x2)] [.int y1, ky_r G 7] σ (.inr (some (.int r))) σ' := by
  intro x1 x2 y1 σ r σ' hf
  unfold fX4_set_L46 at hf
  refine ky_putf (q := (RX4, TX4, 12)) (n := 49) dX4_set_46 rfl kc_7 rfl (Nat.le_of_ble_eq_true rfl) wg_X4_25 rfl (by decide +kernel) rfl (fun s7 es7 => ?_)
  have hf := ky_bn_e hf s7 es7
  refine ky_aload_n (n := 50) dX4_set_49 rfl rfl 0 rfl ?_
  refine ky_getf (q := (RX4, TX4, 12)) (v := .int (s7.1 7 5)) (n := 53) dX4_set_50 rfl kc_7 rfl (Nat.le_of_ble_eq_true rfl) wg_X4_25 (vf_7_5 _ _) ?_
  refine ky_if_le (n := 56) (tgt := 58) dX4_set_53 rfl rfl (fun c8 => ?_) (fun c8 => ?_)
  · have hf := ky_pos c8 hf
    refine ky_aload_n (n := 59) dX4_set_58 rfl rfl 0 rfl ?_
    obtain ⟨v11, s9, h10, hf⟩ := ky_bd_e hf
    refine ky_callV (kc := 0) (ks := 0) (kc2 := 0) (ks2 := 0) (k0 := 7) (as := []) (st := []) (KX4_save (d + 1) s7 _ _ h10) okX4_save wl_X4_54 kc_7 (q := (RX4, TX4, 12)) rfl rfl rfl rfl (Nat.le_of_ble_eq_true rfl) dX4_set_59 rfl ?_
    refine ky_aload_n (n := 63) dX4_set_62 rfl rfl 0 rfl ?_
    refine ky_getf (q := (RX4, TX4, 12)) (v := ky_r G 8) (n := 66) dX4_set_63 rfl kc_7 rfl (Nat.le_of_ble_eq_true rfl) wg_X4_7 (vf_7_0 _ _) ?_
    refine ky_iload_n (n := 67) dX4_set_66 rfl rfl 1 rfl ?_
    obtain ⟨g12, hf⟩ := ky_ge hf
    refine ky_iald (n := 68) dX4_set_67 rfl kl_8 g12 ?_
    refine ky_topi (fun v13 ev13 => ?_)
    have hf := ky_bn_e hf v13 ev13
    refine ky_istore_n (lv' := [(3, .int v13), (0, ky_r G 7), (1, .int x1), (2, .int x2)]) (n := 69) dX4_set_68 rfl rfl (Nat.le_of_ble_eq_true rfl) rfl ?_
    refine ky_aload_n (n := 70) dX4_set_69 rfl rfl 1 rfl ?_
    refine ky_getf (q := (RX4, TX4, 12)) (v := ky_r G 8) (n := 73) dX4_set_70 rfl kc_7 rfl (Nat.le_of_ble_eq_true rfl) wg_X4_7 (vf_7_0 _ _) ?_
    refine ky_iload_n (n := 74) dX4_set_73 rfl rfl 2 rfl ?_
    refine ky_iload_n (n := 75) dX4_set_74 rfl rfl 3 rfl ?_
    obtain ⟨g14, hf⟩ := ky_ge hf
    refine ky_iast (n := 76) dX4_set_75 rfl kl_8 rfl g14 (fun s15 es15 => ?_)
    have hf := ky_bn_e hf s15 es15
    refine ky_iload_n (n := 77) dX4_set_76 rfl rfl 0 rfl ?_
    cases hf
    exact ky_ireturn dX4_set_77 rfl
  · have hf := ky_neg c8 hf
    refine ky_iconst (v := (0 : Int32)) (n := 57) dX4_set_56 rfl rfl ?_
    cases hf
    exact ky_ireturn dX4_set_57 rfl
def fX4_set_L45 (x1 : Int32) (x2 : Int32) (σ : ky_St) : Option (Int32 × ky_St) :=
  fX4_set_L46 x1 x2 (2 : Int32) σ
set_option maxHeartbeats 4000000 in
set_option maxRecDepth 100000 in
theorem tX4_set_L45 {G : ky_G} (d : Nat) : ∀ (x1 : Int32) (x2 : Int32) (σ : ky_St) (r : Int32) (σ' : ky_St), fX4_set_L45 x1 x2 σ = some (r, σ') → ky_T G mX4_set (d + 2) 0 0 45 [(0, ky_r G 7), (1, .int x1), (2, .int x2)] [ky_r G 7] σ (.inr (some (.int r))) σ' := by
  intro x1 x2 σ r σ' hf
  unfold fX4_set_L45 at hf
  refine ky_iconst (v := (2 : Int32)) (n := 46) dX4_set_45 rfl rfl ?_
  refine ky_sub [0, 1, 2] (lv' := [(0, ky_r G 7), (1, .int x1), (2, .int x2)]) rfl ?_
  exact tX4_set_L46 d x1 x2 (2 : Int32) σ _ _ hf
def fX4_set_L41 (x1 : Int32) (x2 : Int32) (σ : ky_St) : Option (Int32 × ky_St) :=
  fX4_set_L46 x1 x2 (0 : Int32) σ
set_option maxHeartbeats 4000000 in
set_option maxRecDepth 100000 in
theorem tX4_set_L41 {G : ky_G} (d : Nat) : ∀ (x1 : Int32) (x2 : Int32) (σ : ky_St) (r : Int32) (σ' : ky_St), fX4_set_L41 x1 x2 σ = some (r, σ') → ky_T G mX4_set (d + 2) 0 0 41 [(0, ky_r G 7), (1, .int x1), (2, .int x2)] [ky_r G 7] σ (.inr (some (.int r))) σ' := by
  intro x1 x2 σ r σ' hf
  unfold fX4_set_L41 at hf
  refine ky_iconst (v := (0 : Int32)) (n := 42) dX4_set_41 rfl rfl ?_
  refine ky_goto (tgt := 46) dX4_set_42 rfl ?_
  refine ky_sub [0, 1, 2] (lv' := [(0, ky_r G 7), (1, .int x1), (2, .int x2)]) rfl ?_
  exact tX4_set_L46 d x1 x2 (0 : Int32) σ _ _ hf
def fX4_set_L26 (x1 : Int32) (x2 : Int32) (σ : ky_St) : Option (Int32 × ky_St) :=
  if x1 = (1 : Int32) then (
  ky_bd (fX4_within x2 (1 : Int32) (99 : Int32) σ) fun v18 s16 =>
  if v18 = 0 then (
  fX4_set_L45 x1 x2 s16) else (
  fX4_set_L41 x1 x2 s16)) else (
  fX4_set_L45 x1 x2 σ)
set_option maxHeartbeats 4000000 in
set_option maxRecDepth 100000 in
theorem tX4_set_L26 {G : ky_G} (d : Nat) : ∀ (x1 : Int32) (x2 : Int32) (σ : ky_St) (r : Int32) (σ' : ky_St), fX4_set_L26 x1 x2 σ = some (r, σ') → ky_T G mX4_set (d + 2) 0 0 26 [(0, ky_r G 7), (1, .int x1), (2, .int x2)] [ky_r G 7] σ (.inr (some (.int r))) σ' := by
  intro x1 x2 σ r σ' hf
  unfold fX4_set_L26 at hf
  refine ky_iload_n (n := 27) dX4_set_26 rfl rfl 1 rfl ?_
  refine ky_iconst (v := (1 : Int32)) (n := 28) dX4_set_27 rfl rfl ?_
  refine ky_icmp_ne (n := 31) (tgt := 45) dX4_set_28 rfl rfl (fun c6 => ?_) (fun c6 => ?_)
  · have hf := ky_neg c6 hf
    refine ky_sub [0, 1, 2] (lv' := [(0, ky_r G 7), (1, .int x1), (2, .int x2)]) rfl ?_
    exact tX4_set_L45 d x1 x2 σ _ _ hf
  · have hf := ky_pos c6 hf
    refine ky_iload_n (n := 32) dX4_set_31 rfl rfl 2 rfl ?_
    refine ky_iconst (v := (1 : Int32)) (n := 33) dX4_set_32 rfl rfl ?_
    refine ky_bipush (v := (99 : Int32)) (n := 35) dX4_set_33 rfl rfl ?_
    obtain ⟨v18, s16, h17, hf⟩ := ky_bd_e hf
    refine ky_callS (kc := 0) (ks := 0) (kc2 := 0) (ks2 := 0) (as := [.int x2, .int (1 : Int32), .int (99 : Int32)]) (st := [ky_r G 7]) (KX4_within (d + 1) x2 (1 : Int32) (99 : Int32) σ _ _ h17) okX4_within wl_X4_32 rfl rfl (Nat.le_of_ble_eq_true rfl) dX4_set_35 rfl ?_
    refine ky_if_eq (n := 41) (tgt := 45) dX4_set_38 rfl rfl (fun c19 => ?_) (fun c19 => ?_)
    · have hf := ky_pos c19 hf
      refine ky_sub [0, 1, 2] (lv' := [(0, ky_r G 7), (1, .int x1), (2, .int x2)]) rfl ?_
      exact tX4_set_L45 d x1 x2 s16 _ _ hf
    · have hf := ky_neg c19 hf
      refine ky_sub [0, 1, 2] (lv' := [(0, ky_r G 7), (1, .int x1), (2, .int x2)]) rfl ?_
      exact tX4_set_L41 d x1 x2 s16 _ _ hf
def fX4_set (a1 : Int32) (a2 : Int32) (σ : ky_St) : Option (Int32 × ky_St) :=
  ky_bd (fX4_isSetting a1 σ) fun v3 s1 =>
  if v3 = 0 then (
  fX4_set_L46 a1 a2 (1 : Int32) s1) else (
  if a1 = 0 then (
  ky_bd (fX4_within a2 (0 : Int32) (90 : Int32) s1) fun v22 s20 =>
  if v22 = 0 then (
  fX4_set_L26 a1 a2 s20) else (
  fX4_set_L41 a1 a2 s20)) else (
  fX4_set_L26 a1 a2 s1))
set_option maxHeartbeats 4000000 in
set_option maxRecDepth 100000 in
theorem KX4_set {G : ky_G} (d : Nat) (a1 : Int32) (a2 : Int32) (σ : ky_St) (r : Int32) (σ' : ky_St) (hf : fX4_set a1 a2 σ = some (r, σ')) : ky_K G mX4_set (d + 2) 0 0 [ky_r G 7, .int a1, .int a2] σ (.inr (some (.int r))) σ' := by
  unfold fX4_set at hf
  refine ky_enter rfl (by decide +kernel) (Nat.le_of_ble_eq_true rfl) (lv := [(0, ky_r G 7), (1, .int a1), (2, .int a2)]) rfl ?_
  refine ky_aload_n (n := 1) dX4_set_0 rfl rfl 0 rfl ?_
  refine ky_iload_n (n := 2) dX4_set_1 rfl rfl 1 rfl ?_
  obtain ⟨v3, s1, h2, hf⟩ := ky_bd_e hf
  refine ky_callS (kc := 0) (ks := 0) (kc2 := 0) (ks2 := 0) (as := [.int a1]) (st := [ky_r G 7]) (KX4_isSetting d a1 σ _ _ h2) okX4_isSetting wl_X4_134 rfl rfl (Nat.le_of_ble_eq_true rfl) dX4_set_2 rfl ?_
  refine ky_if_ne (n := 8) (tgt := 12) dX4_set_5 rfl rfl (fun c4 => ?_) (fun c4 => ?_)
  · have hf := ky_neg c4 hf
    refine ky_iload_n (n := 13) dX4_set_12 rfl rfl 1 rfl ?_
    refine ky_if_ne (n := 16) (tgt := 26) dX4_set_13 rfl rfl (fun c5 => ?_) (fun c5 => ?_)
    · have hf := ky_neg c5 hf
      refine ky_sub [0, 1, 2] (lv' := [(0, ky_r G 7), (1, .int a1), (2, .int a2)]) rfl ?_
      exact tX4_set_L26 d a1 a2 s1 _ _ hf
    · have hf := ky_pos c5 hf
      refine ky_iload_n (n := 17) dX4_set_16 rfl rfl 2 rfl ?_
      refine ky_iconst (v := (0 : Int32)) (n := 18) dX4_set_17 rfl rfl ?_
      refine ky_bipush (v := (90 : Int32)) (n := 20) dX4_set_18 rfl rfl ?_
      obtain ⟨v22, s20, h21, hf⟩ := ky_bd_e hf
      refine ky_callS (kc := 0) (ks := 0) (kc2 := 0) (ks2 := 0) (as := [.int a2, .int (0 : Int32), .int (90 : Int32)]) (st := [ky_r G 7]) (KX4_within (d + 1) a2 (0 : Int32) (90 : Int32) s1 _ _ h21) okX4_within wl_X4_32 rfl rfl (Nat.le_of_ble_eq_true rfl) dX4_set_20 rfl ?_
      refine ky_if_ne (n := 26) (tgt := 41) dX4_set_23 rfl rfl (fun c23 => ?_) (fun c23 => ?_)
      · have hf := ky_neg c23 hf
        refine ky_sub [0, 1, 2] (lv' := [(0, ky_r G 7), (1, .int a1), (2, .int a2)]) rfl ?_
        exact tX4_set_L41 d a1 a2 s20 _ _ hf
      · have hf := ky_pos c23 hf
        refine ky_sub [0, 1, 2] (lv' := [(0, ky_r G 7), (1, .int a1), (2, .int a2)]) rfl ?_
        exact tX4_set_L26 d a1 a2 s20 _ _ hf
  · have hf := ky_pos c4 hf
    refine ky_iconst (v := (1 : Int32)) (n := 9) dX4_set_8 rfl rfl ?_
    refine ky_goto (tgt := 46) dX4_set_9 rfl ?_
    refine ky_sub [0, 1, 2] (lv' := [(0, ky_r G 7), (1, .int a1), (2, .int a2)]) rfl ?_
    exact tX4_set_L46 d a1 a2 (1 : Int32) s1 _ _ hf
