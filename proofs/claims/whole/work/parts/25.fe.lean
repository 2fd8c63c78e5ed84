def fL_buySets (a2 : Int32) (σ : ky_St) : Option (Int32 × ky_St) :=
  ky_bh (fX3_buySets a2 σ) (fun v3 s1 =>
  ky_bn (ky_uJ s1 16 v3.toInt64) fun s5 =>
  some ((0 : Int32), s5)) (fun E4 s1 =>
  if E4 = ky_ex1 then (
  some ((1 : Int32), s1)) else (
  if E4 = ky_ex2 then (
  some ((2 : Int32), s1)) else (
  none)))
set_option maxHeartbeats 4000000 in
set_option maxRecDepth 100000 in
theorem KL_buySets {G : ky_G} (d : Nat) (a2 : Int32) (σ : ky_St) (r : Int32) (σ' : ky_St) (hf : fL_buySets a2 σ = some (r, σ')) : ky_K G mL_buySets (d + 7) 1 6 [ky_r G 0, .int a2, ky_r G 16] σ (.inr (some (.int r))) σ' := by
  unfold fL_buySets at hf
  refine ky_enterH (by intro z; cases z) (by decide +kernel) (Nat.le_of_ble_eq_true rfl) (lv := [(0, ky_r G 0), (1, .int a2), (2, ky_r G 16)]) rfl ?_
  refine ky_aload_n (n := 1) dL_buySets_0 rfl rfl 2 rfl ?_
  refine ky_iconst (v := (0 : Int32)) (n := 2) dL_buySets_1 rfl rfl ?_
  refine ky_aload_n (n := 3) dL_buySets_2 rfl rfl 0 rfl ?_
  refine ky_iload_n (n := 4) dL_buySets_3 rfl rfl 1 rfl ?_
  rcases ky_bh_e hf with ⟨v3, s1, h2, hf⟩ | ⟨E4, s1, h2, hf⟩
  · refine ky_callV (kc := 0) (ks := 0) (kc2 := 1) (ks2 := 6) (k0 := 0) (as := [.int a2]) (st := [.int (0 : Int32), ky_r G 16]) (KX3_buySets d a2 σ _ _ h2) okX3_buySets wl_L_7 kc_0 (q := (RX3, TX3, 4)) rfl rfl rfl rfl (Nat.le_of_ble_eq_true rfl) dL_buySets_4 rfl ?_
    refine ky_i2l (n := 8) dL_buySets_7 rfl ?_
    refine ky_last (n := 9) dL_buySets_8 rfl (fun s5 es5 => ?_)
    have hf := ky_bn_e hf s5 es5
    refine ky_goto (tgt := 18) dL_buySets_9 rfl ?_
    refine ky_iconst (v := (0 : Int32)) (n := 19) dL_buySets_18 rfl rfl ?_
    cases hf
    exact ky_ireturn dL_buySets_19 rfl
  · by_cases c8 : E4 = ky_ex1
    · have hf := ky_pos c8 hf
      rw [c8] at h2
      refine ky_callVC (kc := 0) (ks := 0) (kc2 := 1) (ks2 := 6) (k0 := 0) (as := [.int a2]) (st := [.int (0 : Int32), ky_r G 16]) (KX3_buySets d a2 σ _ _ h2) okX3_buySets wl_L_7 kc_0 (q := (RX3, TX3, 4)) rfl rfl rfl rfl (Nat.le_of_ble_eq_true rfl) dL_buySets_4 (by decide +kernel) [] [] (0, 9, 12, 13) [(0, 9, 15, 15)] rfl ⟨by decide, by decide⟩ (by decide) (by decide +kernel) (by decide +kernel) wcl_L (by decide +kernel) (by decide +kernel) (fun q6 => ?_)
      refine ky_astore_n (lv' := [(3, .ref q6), (0, ky_r G 0), (1, .int a2), (2, ky_r G 16)]) (n := 13) dL_buySets_12 rfl rfl (Nat.le_of_ble_eq_true rfl) rfl ?_
      refine ky_iconst (v := (1 : Int32)) (n := 14) dL_buySets_13 rfl rfl ?_
      cases hf
      exact ky_ireturn dL_buySets_14 rfl
    have hf := ky_neg c8 hf
    by_cases c9 : E4 = ky_ex2
    · have hf := ky_pos c9 hf
      rw [c9] at h2
      refine ky_callVC (kc := 0) (ks := 0) (kc2 := 1) (ks2 := 6) (k0 := 0) (as := [.int a2]) (st := [.int (0 : Int32), ky_r G 16]) (KX3_buySets d a2 σ _ _ h2) okX3_buySets wl_L_7 kc_0 (q := (RX3, TX3, 4)) rfl rfl rfl rfl (Nat.le_of_ble_eq_true rfl) dL_buySets_4 (by decide +kernel) [(0, 9, 12, 13)] [ky_ex1] (0, 9, 15, 15) [] rfl ⟨by decide, by decide⟩ (by decide) (by decide +kernel) (by decide +kernel) wcl_L (by decide +kernel) (by decide +kernel) (fun q7 => ?_)
      refine ky_astore_n (lv' := [(3, .ref q7), (0, ky_r G 0), (1, .int a2), (2, ky_r G 16)]) (n := 16) dL_buySets_15 rfl rfl (Nat.le_of_ble_eq_true rfl) rfl ?_
      refine ky_iconst (v := (2 : Int32)) (n := 17) dL_buySets_16 rfl rfl ?_
      cases hf
      exact ky_ireturn dL_buySets_17 rfl
    have hf := ky_neg c9 hf
    cases hf
def fL_buySpare (a2 : Int32) (a3 : Int32) (σ : ky_St) : Option (Int32 × ky_St) :=
  ky_bh (fX3_buySpare a2 a3 σ) (fun v3 s1 =>
  ky_bn (ky_uJ s1 16 v3.toInt64) fun s5 =>
  some ((0 : Int32), s5)) (fun E4 s1 =>
  if E4 = ky_ex3 then (
  some ((1 : Int32), s1)) else (
  if E4 = ky_ex1 then (
  some ((2 : Int32), s1)) else (
  if E4 = ky_ex2 then (
  some ((3 : Int32), s1)) else (
  none))))
set_option maxHeartbeats 4000000 in
set_option maxRecDepth 100000 in
theorem KL_buySpare {G : ky_G} (d : Nat) (a2 : Int32) (a3 : Int32) (σ : ky_St) (r : Int32) (σ' : ky_St) (hf : fL_buySpare a2 a3 σ = some (r, σ')) : ky_K G mL_buySpare (d + 8) 2 12 [ky_r G 0, .int a2, .int a3, ky_r G 16] σ (.inr (some (.int r))) σ' := by
  unfold fL_buySpare at hf
  refine ky_enterH (by intro z; cases z) (by decide +kernel) (Nat.le_of_ble_eq_true rfl) (lv := [(0, ky_r G 0), (1, .int a2), (2, .int a3), (3, ky_r G 16)]) rfl ?_
  refine ky_aload_n (n := 1) dL_buySpare_0 rfl rfl 3 rfl ?_
  refine ky_iconst (v := (0 : Int32)) (n := 2) dL_buySpare_1 rfl rfl ?_
  refine ky_aload_n (n := 3) dL_buySpare_2 rfl rfl 0 rfl ?_
  refine ky_iload_n (n := 4) dL_buySpare_3 rfl rfl 1 rfl ?_
  refine ky_iload_n (n := 5) dL_buySpare_4 rfl rfl 2 rfl ?_
  rcases ky_bh_e hf with ⟨v3, s1, h2, hf⟩ | ⟨E4, s1, h2, hf⟩
  · refine ky_callV (kc := 0) (ks := 0) (kc2 := 2) (ks2 := 12) (k0 := 0) (as := [.int a2, .int a3]) (st := [.int (0 : Int32), ky_r G 16]) (KX3_buySpare d a2 a3 σ _ _ h2) okX3_buySpare wl_L_17 kc_0 (q := (RX3, TX3, 4)) rfl rfl rfl rfl (Nat.le_of_ble_eq_true rfl) dL_buySpare_5 rfl ?_
    refine ky_i2l (n := 9) dL_buySpare_8 rfl ?_
    refine ky_last (n := 10) dL_buySpare_9 rfl (fun s5 es5 => ?_)
    have hf := ky_bn_e hf s5 es5
    refine ky_goto (tgt := 25) dL_buySpare_10 rfl ?_
    refine ky_iconst (v := (0 : Int32)) (n := 26) dL_buySpare_25 rfl rfl ?_
    cases hf
    exact ky_ireturn dL_buySpare_26 rfl
  · by_cases c9 : E4 = ky_ex3
    · have hf := ky_pos c9 hf
      rw [c9] at h2
      refine ky_callVC (kc := 0) (ks := 0) (kc2 := 2) (ks2 := 12) (k0 := 0) (as := [.int a2, .int a3]) (st := [.int (0 : Int32), ky_r G 16]) (KX3_buySpare d a2 a3 σ _ _ h2) okX3_buySpare wl_L_17 kc_0 (q := (RX3, TX3, 4)) rfl rfl rfl rfl (Nat.le_of_ble_eq_true rfl) dL_buySpare_5 (by decide +kernel) [] [] (0, 10, 13, 21) [(0, 10, 17, 13), (0, 10, 21, 15)] rfl ⟨by decide, by decide⟩ (by decide) (by decide +kernel) (by decide +kernel) wcl_L (by decide +kernel) (by decide +kernel) (fun q6 => ?_)
      refine ky_astore (lv' := [(4, .ref q6), (0, ky_r G 0), (1, .int a2), (2, .int a3), (3, ky_r G 16)]) (n := 15) dL_buySpare_13 rfl (Nat.le_of_ble_eq_true rfl) rfl ?_
      refine ky_iconst (v := (1 : Int32)) (n := 16) dL_buySpare_15 rfl rfl ?_
      cases hf
      exact ky_ireturn dL_buySpare_16 rfl
    have hf := ky_neg c9 hf
    by_cases c10 : E4 = ky_ex1
    · have hf := ky_pos c10 hf
      rw [c10] at h2
      refine ky_callVC (kc := 0) (ks := 0) (kc2 := 2) (ks2 := 12) (k0 := 0) (as := [.int a2, .int a3]) (st := [.int (0 : Int32), ky_r G 16]) (KX3_buySpare d a2 a3 σ _ _ h2) okX3_buySpare wl_L_17 kc_0 (q := (RX3, TX3, 4)) rfl rfl rfl rfl (Nat.le_of_ble_eq_true rfl) dL_buySpare_5 (by decide +kernel) [(0, 10, 13, 21)] [ky_ex3] (0, 10, 17, 13) [(0, 10, 21, 15)] rfl ⟨by decide, by decide⟩ (by decide) (by decide +kernel) (by decide +kernel) wcl_L (by decide +kernel) (by decide +kernel) (fun q7 => ?_)
      refine ky_astore (lv' := [(4, .ref q7), (0, ky_r G 0), (1, .int a2), (2, .int a3), (3, ky_r G 16)]) (n := 19) dL_buySpare_17 rfl (Nat.le_of_ble_eq_true rfl) rfl ?_
      refine ky_iconst (v := (2 : Int32)) (n := 20) dL_buySpare_19 rfl rfl ?_
      cases hf
      exact ky_ireturn dL_buySpare_20 rfl
    have hf := ky_neg c10 hf
    by_cases c11 : E4 = ky_ex2
    · have hf := ky_pos c11 hf
      rw [c11] at h2
      refine ky_callVC (kc := 0) (ks := 0) (kc2 := 2) (ks2 := 12) (k0 := 0) (as := [.int a2, .int a3]) (st := [.int (0 : Int32), ky_r G 16]) (KX3_buySpare d a2 a3 σ _ _ h2) okX3_buySpare wl_L_17 kc_0 (q := (RX3, TX3, 4)) rfl rfl rfl rfl (Nat.le_of_ble_eq_true rfl) dL_buySpare_5 (by decide +kernel) [(0, 10, 13, 21), (0, 10, 17, 13)] [ky_ex3, ky_ex1] (0, 10, 21, 15) [] rfl ⟨by decide, by decide⟩ (by decide) (by decide +kernel) (by decide +kernel) wcl_L (by decide +kernel) (by decide +kernel) (fun q8 => ?_)
      refine ky_astore (lv' := [(4, .ref q8), (0, ky_r G 0), (1, .int a2), (2, .int a3), (3, ky_r G 16)]) (n := 23) dL_buySpare_21 rfl (Nat.le_of_ble_eq_true rfl) rfl ?_
      refine ky_iconst (v := (3 : Int32)) (n := 24) dL_buySpare_23 rfl rfl ?_
      cases hf
      exact ky_ireturn dL_buySpare_24 rfl
    have hf := ky_neg c11 hf
    cases hf
def fL_repair (a2 : Int32) (σ : ky_St) : Option (Int32 × ky_St) :=
  ky_bh (fX3_repair a2 σ) (fun v3 s1 =>
  ky_bn (ky_uJ s1 16 v3.toInt64) fun s5 =>
  some ((0 : Int32), s5)) (fun E4 s1 =>
  if E4 = ky_ex3 then (
  some ((1 : Int32), s1)) else (
  if E4 = ky_ex2 then (
  some ((2 : Int32), s1)) else (
  none)))
set_option maxHeartbeats 4000000 in
set_option maxRecDepth 100000 in
theorem KL_repair {G : ky_G} (d : Nat) (a2 : Int32) (σ : ky_St) (r : Int32) (σ' : ky_St) (hf : fL_repair a2 σ = some (r, σ')) : ky_K G mL_repair (d + 8) 2 12 [ky_r G 0, .int a2, ky_r G 16] σ (.inr (some (.int r))) σ' := by
  unfold fL_repair at hf
  refine ky_enterH (by intro z; cases z) (by decide +kernel) (Nat.le_of_ble_eq_true rfl) (lv := [(0, ky_r G 0), (1, .int a2), (2, ky_r G 16)]) rfl ?_
  refine ky_aload_n (n := 1) dL_repair_0 rfl rfl 2 rfl ?_
  refine ky_iconst (v := (0 : Int32)) (n := 2) dL_repair_1 rfl rfl ?_
  refine ky_aload_n (n := 3) dL_repair_2 rfl rfl 0 rfl ?_
  refine ky_iload_n (n := 4) dL_repair_3 rfl rfl 1 rfl ?_
  rcases ky_bh_e hf with ⟨v3, s1, h2, hf⟩ | ⟨E4, s1, h2, hf⟩
  · refine ky_callV (kc := 0) (ks := 0) (kc2 := 2) (ks2 := 12) (k0 := 0) (as := [.int a2]) (st := [.int (0 : Int32), ky_r G 16]) (KX3_repair d a2 σ _ _ h2) okX3_repair wl_L_23 kc_0 (q := (RX3, TX3, 4)) rfl rfl rfl rfl (Nat.le_of_ble_eq_true rfl) dL_repair_4 rfl ?_
    refine ky_i2l (n := 8) dL_repair_7 rfl ?_
    refine ky_last (n := 9) dL_repair_8 rfl (fun s5 es5 => ?_)
    have hf := ky_bn_e hf s5 es5
    refine ky_goto (tgt := 18) dL_repair_9 rfl ?_
    refine ky_iconst (v := (0 : Int32)) (n := 19) dL_repair_18 rfl rfl ?_
    cases hf
    exact ky_ireturn dL_repair_19 rfl
  · by_cases c8 : E4 = ky_ex3
    · have hf := ky_pos c8 hf
      rw [c8] at h2
      refine ky_callVC (kc := 0) (ks := 0) (kc2 := 2) (ks2 := 12) (k0 := 0) (as := [.int a2]) (st := [.int (0 : Int32), ky_r G 16]) (KX3_repair d a2 σ _ _ h2) okX3_repair wl_L_23 kc_0 (q := (RX3, TX3, 4)) rfl rfl rfl rfl (Nat.le_of_ble_eq_true rfl) dL_repair_4 (by decide +kernel) [] [] (0, 9, 12, 21) [(0, 9, 15, 15)] rfl ⟨by decide, by decide⟩ (by decide) (by decide +kernel) (by decide +kernel) wcl_L (by decide +kernel) (by decide +kernel) (fun q6 => ?_)
      refine ky_astore_n (lv' := [(3, .ref q6), (0, ky_r G 0), (1, .int a2), (2, ky_r G 16)]) (n := 13) dL_repair_12 rfl rfl (Nat.le_of_ble_eq_true rfl) rfl ?_
      refine ky_iconst (v := (1 : Int32)) (n := 14) dL_repair_13 rfl rfl ?_
      cases hf
      exact ky_ireturn dL_repair_14 rfl
    have hf := ky_neg c8 hf
    by_cases c9 : E4 = ky_ex2
    · have hf := ky_pos c9 hf
      rw [c9] at h2
      refine ky_callVC (kc := 0) (ks := 0) (kc2 := 2) (ks2 := 12) (k0 := 0) (as := [.int a2]) (st := [.int (0 : Int32), ky_r G 16]) (KX3_repair d a2 σ _ _ h2) okX3_repair wl_L_23 kc_0 (q := (RX3, TX3, 4)) rfl rfl rfl rfl (Nat.le_of_ble_eq_true rfl) dL_repair_4 (by decide +kernel) [(0, 9, 12, 21)] [ky_ex3] (0, 9, 15, 15) [] rfl ⟨by decide, by decide⟩ (by decide) (by decide +kernel) (by decide +kernel) wcl_L (by decide +kernel) (by decide +kernel) (fun q7 => ?_)
      refine ky_astore_n (lv' := [(3, .ref q7), (0, ky_r G 0), (1, .int a2), (2, ky_r G 16)]) (n := 16) dL_repair_15 rfl rfl (Nat.le_of_ble_eq_true rfl) rfl ?_
      refine ky_iconst (v := (2 : Int32)) (n := 17) dL_repair_16 rfl rfl ?_
      cases hf
      exact ky_ireturn dL_repair_17 rfl
    have hf := ky_neg c9 hf
    cases hf
def fL_damage (a2 : Int32) (a3 : Int32) (a4 : Int32) (σ : ky_St) : Option (Int32 × ky_St) :=
  ky_bh (fX3_damage a2 a3 a4 σ) (fun v3 s1 =>
  ky_bn (ky_uJ s1 16 v3.toInt64) fun s5 =>
  some ((0 : Int32), s5)) (fun E4 s1 =>
  if E4 = ky_ex3 then (
  some ((1 : Int32), s1)) else (
  if E4 = ky_ex1 then (
  some ((2 : Int32), s1)) else (
  if E4 = ky_ex2 then (
  some ((3 : Int32), s1)) else (
  none))))
set_option maxHeartbeats 4000000 in
set_option maxRecDepth 100000 in
theorem KL_damage {G : ky_G} (d : Nat) (a2 : Int32) (a3 : Int32) (a4 : Int32) (σ : ky_St) (r : Int32) (σ' : ky_St) (hf : fL_damage a2 a3 a4 σ = some (r, σ')) : ky_K G mL_damage (d + 8) 5 30 [ky_r G 0, .int a2, .int a3, .int a4, ky_r G 16] σ (.inr (some (.int r))) σ' := by
  unfold fL_damage at hf
  refine ky_enterH (by intro z; cases z) (by decide +kernel) (Nat.le_of_ble_eq_true rfl) (lv := [(0, ky_r G 0), (1, .int a2), (2, .int a3), (3, .int a4), (4, ky_r G 16)]) rfl ?_
  refine ky_aload (n := 2) dL_damage_0 rfl 4 rfl ?_
  refine ky_iconst (v := (0 : Int32)) (n := 3) dL_damage_2 rfl rfl ?_
  refine ky_aload_n (n := 4) dL_damage_3 rfl rfl 0 rfl ?_
  refine ky_iload_n (n := 5) dL_damage_4 rfl rfl 1 rfl ?_
  refine ky_iload_n (n := 6) dL_damage_5 rfl rfl 2 rfl ?_
  refine ky_iload_n (n := 7) dL_damage_6 rfl rfl 3 rfl ?_
  rcases ky_bh_e hf with ⟨v3, s1, h2, hf⟩ | ⟨E4, s1, h2, hf⟩
  · refine ky_callV (kc := 0) (ks := 0) (kc2 := 5) (ks2 := 30) (k0 := 0) (as := [.int a2, .int a3, .int a4]) (st := [.int (0 : Int32), ky_r G 16]) (KX3_damage d a2 a3 a4 σ _ _ h2) okX3_damage wl_L_26 kc_0 (q := (RX3, TX3, 4)) rfl rfl rfl rfl (Nat.le_of_ble_eq_true rfl) dL_damage_7 rfl ?_
    refine ky_i2l (n := 11) dL_damage_10 rfl ?_
    refine ky_last (n := 12) dL_damage_11 rfl (fun s5 es5 => ?_)
    have hf := ky_bn_e hf s5 es5
    refine ky_goto (tgt := 27) dL_damage_12 rfl ?_
    refine ky_iconst (v := (0 : Int32)) (n := 28) dL_damage_27 rfl rfl ?_
    cases hf
    exact ky_ireturn dL_damage_28 rfl
  · by_cases c9 : E4 = ky_ex3
    · have hf := ky_pos c9 hf
      rw [c9] at h2
      refine ky_callVC (kc := 0) (ks := 0) (kc2 := 5) (ks2 := 30) (k0 := 0) (as := [.int a2, .int a3, .int a4]) (st := [.int (0 : Int32), ky_r G 16]) (KX3_damage d a2 a3 a4 σ _ _ h2) okX3_damage wl_L_26 kc_0 (q := (RX3, TX3, 4)) rfl rfl rfl rfl (Nat.le_of_ble_eq_true rfl) dL_damage_7 (by decide +kernel) [] [] (0, 12, 15, 21) [(0, 12, 19, 13), (0, 12, 23, 15)] rfl ⟨by decide, by decide⟩ (by decide) (by decide +kernel) (by decide +kernel) wcl_L (by decide +kernel) (by decide +kernel) (fun q6 => ?_)
      refine ky_astore (lv' := [(5, .ref q6), (0, ky_r G 0), (1, .int a2), (2, .int a3), (3, .int a4), (4, ky_r G 16)]) (n := 17) dL_damage_15 rfl (Nat.le_of_ble_eq_true rfl) rfl ?_
      refine ky_iconst (v := (1 : Int32)) (n := 18) dL_damage_17 rfl rfl ?_
      cases hf
      exact ky_ireturn dL_damage_18 rfl
    have hf := ky_neg c9 hf
    by_cases c10 : E4 = ky_ex1
    · have hf := ky_pos c10 hf
      rw [c10] at h2
      refine ky_callVC (kc := 0) (ks := 0) (kc2 := 5) (ks2 := 30) (k0 := 0) (as := [.int a2, .int a3, .int a4]) (st := [.int (0 : Int32), ky_r G 16]) (KX3_damage d a2 a3 a4 σ _ _ h2) okX3_damage wl_L_26 kc_0 (q := (RX3, TX3, 4)) rfl rfl rfl rfl (Nat.le_of_ble_eq_true rfl) dL_damage_7 (by decide +kernel) [(0, 12, 15, 21)] [ky_ex3] (0, 12, 19, 13) [(0, 12, 23, 15)] rfl ⟨by decide, by decide⟩ (by decide) (by decide +kernel) (by decide +kernel) wcl_L (by decide +kernel) (by decide +kernel) (fun q7 => ?_)
      refine ky_astore (lv' := [(5, .ref q7), (0, ky_r G 0), (1, .int a2), (2, .int a3), (3, .int a4), (4, ky_r G 16)]) (n := 21) dL_damage_19 rfl (Nat.le_of_ble_eq_true rfl) rfl ?_
      refine ky_iconst (v := (2 : Int32)) (n := 22) dL_damage_21 rfl rfl ?_
      cases hf
      exact ky_ireturn dL_damage_22 rfl
    have hf := ky_neg c10 hf
    by_cases c11 : E4 = ky_ex2
    · have hf := ky_pos c11 hf
      rw [c11] at h2
      refine ky_callVC (kc := 0) (ks := 0) (kc2 := 5) (ks2 := 30) (k0 := 0) (as := [.int a2, .int a3, .int a4]) (st := [.int (0 : Int32), ky_r G 16]) (KX3_damage d a2 a3 a4 σ _ _ h2) okX3_damage wl_L_26 kc_0 (q := (RX3, TX3, 4)) rfl rfl rfl rfl (Nat.le_of_ble_eq_true rfl) dL_damage_7 (by decide +kernel) [(0, 12, 15, 21), (0, 12, 19, 13)] [ky_ex3, ky_ex1] (0, 12, 23, 15) [] rfl ⟨by decide, by decide⟩ (by decide) (by decide +kernel) (by decide +kernel) wcl_L (by decide +kernel) (by decide +kernel) (fun q8 => ?_)
      refine ky_astore (lv' := [(5, .ref q8), (0, ky_r G 0), (1, .int a2), (2, .int a3), (3, .int a4), (4, ky_r G 16)]) (n := 25) dL_damage_23 rfl (Nat.le_of_ble_eq_true rfl) rfl ?_
      refine ky_iconst (v := (3 : Int32)) (n := 26) dL_damage_25 rfl rfl ?_
      cases hf
      exact ky_ireturn dL_damage_26 rfl
    have hf := ky_neg c11 hf
    cases hf
def fL_swap (a2 : Int32) (a3 : Int32) (σ : ky_St) : Option (Int32 × ky_St) :=
  ky_bh (fX3_swap a2 a3 σ) (fun v3 s1 =>
  ky_bn (ky_uJ s1 16 v3.toInt64) fun s5 =>
  some ((0 : Int32), s5)) (fun E4 s1 =>
  if E4 = ky_ex3 then (
  some ((1 : Int32), s1)) else (
  if E4 = ky_ex2 then (
  some ((2 : Int32), s1)) else (
  none)))
set_option maxHeartbeats 4000000 in
set_option maxRecDepth 100000 in
theorem KL_swap {G : ky_G} (d : Nat) (a2 : Int32) (a3 : Int32) (σ : ky_St) (r : Int32) (σ' : ky_St) (hf : fL_swap a2 a3 σ = some (r, σ')) : ky_K G mL_swap (d + 8) 4 24 [ky_r G 0, .int a2, .int a3, ky_r G 16] σ (.inr (some (.int r))) σ' := by
  unfold fL_swap at hf
  refine ky_enterH (by intro z; cases z) (by decide +kernel) (Nat.le_of_ble_eq_true rfl) (lv := [(0, ky_r G 0), (1, .int a2), (2, .int a3), (3, ky_r G 16)]) rfl ?_
  refine ky_aload_n (n := 1) dL_swap_0 rfl rfl 3 rfl ?_
  refine ky_iconst (v := (0 : Int32)) (n := 2) dL_swap_1 rfl rfl ?_
  refine ky_aload_n (n := 3) dL_swap_2 rfl rfl 0 rfl ?_
  refine ky_iload_n (n := 4) dL_swap_3 rfl rfl 1 rfl ?_
  refine ky_iload_n (n := 5) dL_swap_4 rfl rfl 2 rfl ?_
  rcases ky_bh_e hf with ⟨v3, s1, h2, hf⟩ | ⟨E4, s1, h2, hf⟩
  · refine ky_callV (kc := 0) (ks := 0) (kc2 := 4) (ks2 := 24) (k0 := 0) (as := [.int a2, .int a3]) (st := [.int (0 : Int32), ky_r G 16]) (KX3_swap d a2 a3 σ _ _ h2) okX3_swap wl_L_30 kc_0 (q := (RX3, TX3, 4)) rfl rfl rfl rfl (Nat.le_of_ble_eq_true rfl) dL_swap_5 rfl ?_
    refine ky_i2l (n := 9) dL_swap_8 rfl ?_
    refine ky_last (n := 10) dL_swap_9 rfl (fun s5 es5 => ?_)
    have hf := ky_bn_e hf s5 es5
    refine ky_goto (tgt := 21) dL_swap_10 rfl ?_
    refine ky_iconst (v := (0 : Int32)) (n := 22) dL_swap_21 rfl rfl ?_
    cases hf
    exact ky_ireturn dL_swap_22 rfl
  · by_cases c8 : E4 = ky_ex3
    · have hf := ky_pos c8 hf
      rw [c8] at h2
      refine ky_callVC (kc := 0) (ks := 0) (kc2 := 4) (ks2 := 24) (k0 := 0) (as := [.int a2, .int a3]) (st := [.int (0 : Int32), ky_r G 16]) (KX3_swap d a2 a3 σ _ _ h2) okX3_swap wl_L_30 kc_0 (q := (RX3, TX3, 4)) rfl rfl rfl rfl (Nat.le_of_ble_eq_true rfl) dL_swap_5 (by decide +kernel) [] [] (0, 10, 13, 21) [(0, 10, 17, 15)] rfl ⟨by decide, by decide⟩ (by decide) (by decide +kernel) (by decide +kernel) wcl_L (by decide +kernel) (by decide +kernel) (fun q6 => ?_)
      refine ky_astore (lv' := [(4, .ref q6), (0, ky_r G 0), (1, .int a2), (2, .int a3), (3, ky_r G 16)]) (n := 15) dL_swap_13 rfl (Nat.le_of_ble_eq_true rfl) rfl ?_
      refine ky_iconst (v := (1 : Int32)) (n := 16) dL_swap_15 rfl rfl ?_
      cases hf
      exact ky_ireturn dL_swap_16 rfl
    have hf := ky_neg c8 hf
    by_cases c9 : E4 = ky_ex2
    · have hf := ky_pos c9 hf
      rw [c9] at h2
      refine ky_callVC (kc := 0) (ks := 0) (kc2 := 4) (ks2 := 24) (k0 := 0) (as := [.int a2, .int a3]) (st := [.int (0 : Int32), ky_r G 16]) (KX3_swap d a2 a3 σ _ _ h2) okX3_swap wl_L_30 kc_0 (q := (RX3, TX3, 4)) rfl rfl rfl rfl (Nat.le_of_ble_eq_true rfl) dL_swap_5 (by decide +kernel) [(0, 10, 13, 21)] [ky_ex3] (0, 10, 17, 15) [] rfl ⟨by decide, by decide⟩ (by decide) (by decide +kernel) (by decide +kernel) wcl_L (by decide +kernel) (by decide +kernel) (fun q7 => ?_)
      refine ky_astore (lv' := [(4, .ref q7), (0, ky_r G 0), (1, .int a2), (2, .int a3), (3, ky_r G 16)]) (n := 19) dL_swap_17 rfl (Nat.le_of_ble_eq_true rfl) rfl ?_
      refine ky_iconst (v := (2 : Int32)) (n := 20) dL_swap_19 rfl rfl ?_
      cases hf
      exact ky_ireturn dL_swap_20 rfl
    have hf := ky_neg c9 hf
    cases hf
def fL_hire (a2 : Int32) (a3 : Int32) (σ : ky_St) : Option (Int32 × ky_St) :=
  ky_bh (fX3_hire a2 a3 σ) (fun v3 s1 =>
  ky_bn (ky_uJ s1 16 v3.toInt64) fun s5 =>
  some ((0 : Int32), s5)) (fun E4 s1 =>
  if E4 = ky_ex3 then (
  some ((1 : Int32), s1)) else (
  if E4 = ky_ex1 then (
  some ((2 : Int32), s1)) else (
  if E4 = ky_ex2 then (
  some ((3 : Int32), s1)) else (
  none))))
set_option maxHeartbeats 4000000 in
set_option maxRecDepth 100000 in
theorem KL_hire {G : ky_G} (d : Nat) (a2 : Int32) (a3 : Int32) (σ : ky_St) (r : Int32) (σ' : ky_St) (hf : fL_hire a2 a3 σ = some (r, σ')) : ky_K G mL_hire (d + 8) 2 12 [ky_r G 0, .int a2, .int a3, ky_r G 16] σ (.inr (some (.int r))) σ' := by
  unfold fL_hire at hf
  refine ky_enterH (by intro z; cases z) (by decide +kernel) (Nat.le_of_ble_eq_true rfl) (lv := [(0, ky_r G 0), (1, .int a2), (2, .int a3), (3, ky_r G 16)]) rfl ?_
  refine ky_aload_n (n := 1) dL_hire_0 rfl rfl 3 rfl ?_
  refine ky_iconst (v := (0 : Int32)) (n := 2) dL_hire_1 rfl rfl ?_
  refine ky_aload_n (n := 3) dL_hire_2 rfl rfl 0 rfl ?_
  refine ky_iload_n (n := 4) dL_hire_3 rfl rfl 1 rfl ?_
  refine ky_iload_n (n := 5) dL_hire_4 rfl rfl 2 rfl ?_
  rcases ky_bh_e hf with ⟨v3, s1, h2, hf⟩ | ⟨E4, s1, h2, hf⟩
  · refine ky_callV (kc := 0) (ks := 0) (kc2 := 2) (ks2 := 12) (k0 := 0) (as := [.int a2, .int a3]) (st := [.int (0 : Int32), ky_r G 16]) (KX3_hire d a2 a3 σ _ _ h2) okX3_hire wl_L_33 kc_0 (q := (RX3, TX3, 4)) rfl rfl rfl rfl (Nat.le_of_ble_eq_true rfl) dL_hire_5 rfl ?_
    refine ky_i2l (n := 9) dL_hire_8 rfl ?_
    refine ky_last (n := 10) dL_hire_9 rfl (fun s5 es5 => ?_)
    have hf := ky_bn_e hf s5 es5
    refine ky_goto (tgt := 25) dL_hire_10 rfl ?_
    refine ky_iconst (v := (0 : Int32)) (n := 26) dL_hire_25 rfl rfl ?_
    cases hf
    exact ky_ireturn dL_hire_26 rfl
  · by_cases c9 : E4 = ky_ex3
    · have hf := ky_pos c9 hf
      rw [c9] at h2
      refine ky_callVC (kc := 0) (ks := 0) (kc2 := 2) (ks2 := 12) (k0 := 0) (as := [.int a2, .int a3]) (st := [.int (0 : Int32), ky_r G 16]) (KX3_hire d a2 a3 σ _ _ h2) okX3_hire wl_L_33 kc_0 (q := (RX3, TX3, 4)) rfl rfl rfl rfl (Nat.le_of_ble_eq_true rfl) dL_hire_5 (by decide +kernel) [] [] (0, 10, 13, 21) [(0, 10, 17, 13), (0, 10, 21, 15)] rfl ⟨by decide, by decide⟩ (by decide) (by decide +kernel) (by decide +kernel) wcl_L (by decide +kernel) (by decide +kernel) (fun q6 => ?_)
      refine ky_astore (lv' := [(4, .ref q6), (0, ky_r G 0), (1, .int a2), (2, .int a3), (3, ky_r G 16)]) (n := 15) dL_hire_13 rfl (Nat.le_of_ble_eq_true rfl) rfl ?_
      refine ky_iconst (v := (1 : Int32)) (n := 16) dL_hire_15 rfl rfl ?_
      cases hf
      exact ky_ireturn dL_hire_16 rfl
    have hf := ky_neg c9 hf
    by_cases c10 : E4 = ky_ex1
    · have hf := ky_pos c10 hf
      rw [c10] at h2
      refine ky_callVC (kc := 0) (ks := 0) (kc2 := 2) (ks2 := 12) (k0 := 0) (as := [.int a2, .int a3]) (st := [.int (0 : Int32), ky_r G 16]) (KX3_hire d a2 a3 σ _ _ h2) okX3_hire wl_L_33 kc_0 (q := (RX3, TX3, 4)) rfl rfl rfl rfl (Nat.le_of_ble_eq_true rfl) dL_hire_5 (by decide +kernel) [(0, 10, 13, 21)] [ky_ex3] (0, 10, 17, 13) [(0, 10, 21, 15)] rfl ⟨by decide, by decide⟩ (by decide) (by decide +kernel) (by decide +kernel) wcl_L (by decide +kernel) (by decide +kernel) (fun q7 => ?_)
      refine ky_astore (lv' := [(4, .ref q7), (0, ky_r G 0), (1, .int a2), (2, .int a3), (3, ky_r G 16)]) (n := 19) dL_hire_17 rfl (Nat.le_of_ble_eq_true rfl) rfl ?_
      refine ky_iconst (v := (2 : Int32)) (n := 20) dL_hire_19 rfl rfl ?_
      cases hf
      exact ky_ireturn dL_hire_20 rfl
    have hf := ky_neg c10 hf
    by_cases c11 : E4 = ky_ex2
    · have hf := ky_pos c11 hf
      rw [c11] at h2
      refine ky_callVC (kc := 0) (ks := 0) (kc2 := 2) (ks2 := 12) (k0 := 0) (as := [.int a2, .int a3]) (st := [.int (0 : Int32), ky_r G 16]) (KX3_hire d a2 a3 σ _ _ h2) okX3_hire wl_L_33 kc_0 (q := (RX3, TX3, 4)) rfl rfl rfl rfl (Nat.le_of_ble_eq_true rfl) dL_hire_5 (by decide +kernel) [(0, 10, 13, 21), (0, 10, 17, 13)] [ky_ex3, ky_ex1] (0, 10, 21, 15) [] rfl ⟨by decide, by decide⟩ (by decide) (by decide +kernel) (by decide +kernel) wcl_L (by decide +kernel) (by decide +kernel) (fun q8 => ?_)
      refine ky_astore (lv' := [(4, .ref q8), (0, ky_r G 0), (1, .int a2), (2, .int a3), (3, ky_r G 16)]) (n := 23) dL_hire_21 rfl (Nat.le_of_ble_eq_true rfl) rfl ?_
      refine ky_iconst (v := (3 : Int32)) (n := 24) dL_hire_23 rfl rfl ?_
      cases hf
      exact ky_ireturn dL_hire_24 rfl
    have hf := ky_neg c11 hf
    cases hf
def fL_moveOn (a2 : Int32) (a3 : Int32) (σ : ky_St) : Option (Int32 × ky_St) :=
  ky_bh (fX3_moveOn a2 a3 σ) (fun v3 s1 =>
  ky_bn (ky_uJ s1 16 v3.toInt64) fun s5 =>
  some ((0 : Int32), s5)) (fun E4 s1 =>
  if E4 = ky_ex3 then (
  some ((1 : Int32), s1)) else (
  if E4 = ky_ex2 then (
  some ((2 : Int32), s1)) else (
  none)))
set_option maxHeartbeats 4000000 in
set_option maxRecDepth 100000 in
theorem KL_moveOn {G : ky_G} (d : Nat) (a2 : Int32) (a3 : Int32) (σ : ky_St) (r : Int32) (σ' : ky_St) (hf : fL_moveOn a2 a3 σ = some (r, σ')) : ky_K G mL_moveOn (d + 8) 3 18 [ky_r G 0, .int a2, .int a3, ky_r G 16] σ (.inr (some (.int r))) σ' := by
  unfold fL_moveOn at hf
  refine ky_enterH (by intro z; cases z) (by decide +kernel) (Nat.le_of_ble_eq_true rfl) (lv := [(0, ky_r G 0), (1, .int a2), (2, .int a3), (3, ky_r G 16)]) rfl ?_
  refine ky_aload_n (n := 1) dL_moveOn_0 rfl rfl 3 rfl ?_
  refine ky_iconst (v := (0 : Int32)) (n := 2) dL_moveOn_1 rfl rfl ?_
  refine ky_aload_n (n := 3) dL_moveOn_2 rfl rfl 0 rfl ?_
  refine ky_iload_n (n := 4) dL_moveOn_3 rfl rfl 1 rfl ?_
  refine ky_iload_n (n := 5) dL_moveOn_4 rfl rfl 2 rfl ?_
  rcases ky_bh_e hf with ⟨v3, s1, h2, hf⟩ | ⟨E4, s1, h2, hf⟩
  · refine ky_callV (kc := 0) (ks := 0) (kc2 := 3) (ks2 := 18) (k0 := 0) (as := [.int a2, .int a3]) (st := [.int (0 : Int32), ky_r G 16]) (KX3_moveOn d a2 a3 σ _ _ h2) okX3_moveOn wl_L_36 kc_0 (q := (RX3, TX3, 4)) rfl rfl rfl rfl (Nat.le_of_ble_eq_true rfl) dL_moveOn_5 rfl ?_
    refine ky_i2l (n := 9) dL_moveOn_8 rfl ?_
    refine ky_last (n := 10) dL_moveOn_9 rfl (fun s5 es5 => ?_)
    have hf := ky_bn_e hf s5 es5
    refine ky_goto (tgt := 21) dL_moveOn_10 rfl ?_
    refine ky_iconst (v := (0 : Int32)) (n := 22) dL_moveOn_21 rfl rfl ?_
    cases hf
    exact ky_ireturn dL_moveOn_22 rfl
  · by_cases c8 : E4 = ky_ex3
    · have hf := ky_pos c8 hf
      rw [c8] at h2
      refine ky_callVC (kc := 0) (ks := 0) (kc2 := 3) (ks2 := 18) (k0 := 0) (as := [.int a2, .int a3]) (st := [.int (0 : Int32), ky_r G 16]) (KX3_moveOn d a2 a3 σ _ _ h2) okX3_moveOn wl_L_36 kc_0 (q := (RX3, TX3, 4)) rfl rfl rfl rfl (Nat.le_of_ble_eq_true rfl) dL_moveOn_5 (by decide +kernel) [] [] (0, 10, 13, 21) [(0, 10, 17, 15)] rfl ⟨by decide, by decide⟩ (by decide) (by decide +kernel) (by decide +kernel) wcl_L (by decide +kernel) (by decide +kernel) (fun q6 => ?_)
      refine ky_astore (lv' := [(4, .ref q6), (0, ky_r G 0), (1, .int a2), (2, .int a3), (3, ky_r G 16)]) (n := 15) dL_moveOn_13 rfl (Nat.le_of_ble_eq_true rfl) rfl ?_
      refine ky_iconst (v := (1 : Int32)) (n := 16) dL_moveOn_15 rfl rfl ?_
      cases hf
      exact ky_ireturn dL_moveOn_16 rfl
    have hf := ky_neg c8 hf
    by_cases c9 : E4 = ky_ex2
    · have hf := ky_pos c9 hf
      rw [c9] at h2
      refine ky_callVC (kc := 0) (ks := 0) (kc2 := 3) (ks2 := 18) (k0 := 0) (as := [.int a2, .int a3]) (st := [.int (0 : Int32), ky_r G 16]) (KX3_moveOn d a2 a3 σ _ _ h2) okX3_moveOn wl_L_36 kc_0 (q := (RX3, TX3, 4)) rfl rfl rfl rfl (Nat.le_of_ble_eq_true rfl) dL_moveOn_5 (by decide +kernel) [(0, 10, 13, 21)] [ky_ex3] (0, 10, 17, 15) [] rfl ⟨by decide, by decide⟩ (by decide) (by decide +kernel) (by decide +kernel) wcl_L (by decide +kernel) (by decide +kernel) (fun q7 => ?_)
      refine ky_astore (lv' := [(4, .ref q7), (0, ky_r G 0), (1, .int a2), (2, .int a3), (3, ky_r G 16)]) (n := 19) dL_moveOn_17 rfl (Nat.le_of_ble_eq_true rfl) rfl ?_
      refine ky_iconst (v := (2 : Int32)) (n := 20) dL_moveOn_19 rfl rfl ?_
      cases hf
      exact ky_ireturn dL_moveOn_20 rfl
    have hf := ky_neg c9 hf
    cases hf
def fL_bring (a2 : Int32) (σ : ky_St) : Option (Int32 × ky_St) :=
  ky_bh (fX3_bring a2 σ) (fun v3 s1 =>
  ky_bn (ky_uJ s1 16 v3.toInt64) fun s5 =>
  some ((0 : Int32), s5)) (fun E4 s1 =>
  if E4 = ky_ex3 then (
  some ((1 : Int32), s1)) else (
  if E4 = ky_ex2 then (
  some ((2 : Int32), s1)) else (
  none)))
set_option maxHeartbeats 4000000 in
set_option maxRecDepth 100000 in
theorem KL_bring {G : ky_G} (d : Nat) (a2 : Int32) (σ : ky_St) (r : Int32) (σ' : ky_St) (hf : fL_bring a2 σ = some (r, σ')) : ky_K G mL_bring (d + 8) 2 12 [ky_r G 0, .int a2, ky_r G 16] σ (.inr (some (.int r))) σ' := by
  unfold fL_bring at hf
  refine ky_enterH (by intro z; cases z) (by decide +kernel) (Nat.le_of_ble_eq_true rfl) (lv := [(0, ky_r G 0), (1, .int a2), (2, ky_r G 16)]) rfl ?_
  refine ky_aload_n (n := 1) dL_bring_0 rfl rfl 2 rfl ?_
  refine ky_iconst (v := (0 : Int32)) (n := 2) dL_bring_1 rfl rfl ?_
  refine ky_aload_n (n := 3) dL_bring_2 rfl rfl 0 rfl ?_
  refine ky_iload_n (n := 4) dL_bring_3 rfl rfl 1 rfl ?_
  rcases ky_bh_e hf with ⟨v3, s1, h2, hf⟩ | ⟨E4, s1, h2, hf⟩
  · refine ky_callV (kc := 0) (ks := 0) (kc2 := 2) (ks2 := 12) (k0 := 0) (as := [.int a2]) (st := [.int (0 : Int32), ky_r G 16]) (KX3_bring d a2 σ _ _ h2) okX3_bring wl_L_39 kc_0 (q := (RX3, TX3, 4)) rfl rfl rfl rfl (Nat.le_of_ble_eq_true rfl) dL_bring_4 rfl ?_
    refine ky_i2l (n := 8) dL_bring_7 rfl ?_
    refine ky_last (n := 9) dL_bring_8 rfl (fun s5 es5 => ?_)
    have hf := ky_bn_e hf s5 es5
    refine ky_goto (tgt := 18) dL_bring_9 rfl ?_
    refine ky_iconst (v := (0 : Int32)) (n := 19) dL_bring_18 rfl rfl ?_
    cases hf
    exact ky_ireturn dL_bring_19 rfl
  · by_cases c8 : E4 = ky_ex3
    · have hf := ky_pos c8 hf
      rw [c8] at h2
      refine ky_callVC (kc := 0) (ks := 0) (kc2 := 2) (ks2 := 12) (k0 := 0) (as := [.int a2]) (st := [.int (0 : Int32), ky_r G 16]) (KX3_bring d a2 σ _ _ h2) okX3_bring wl_L_39 kc_0 (q := (RX3, TX3, 4)) rfl rfl rfl rfl (Nat.le_of_ble_eq_true rfl) dL_bring_4 (by decide +kernel) [] [] (0, 9, 12, 21) [(0, 9, 15, 15)] rfl ⟨by decide, by decide⟩ (by decide) (by decide +kernel) (by decide +kernel) wcl_L (by decide +kernel) (by decide +kernel) (fun q6 => ?_)
      refine ky_astore_n (lv' := [(3, .ref q6), (0, ky_r G 0), (1, .int a2), (2, ky_r G 16)]) (n := 13) dL_bring_12 rfl rfl (Nat.le_of_ble_eq_true rfl) rfl ?_
      refine ky_iconst (v := (1 : Int32)) (n := 14) dL_bring_13 rfl rfl ?_
      cases hf
      exact ky_ireturn dL_bring_14 rfl
    have hf := ky_neg c8 hf
    by_cases c9 : E4 = ky_ex2
    · have hf := ky_pos c9 hf
      rw [c9] at h2
      refine ky_callVC (kc := 0) (ks := 0) (kc2 := 2) (ks2 := 12) (k0 := 0) (as := [.int a2]) (st := [.int (0 : Int32), ky_r G 16]) (KX3_bring d a2 σ _ _ h2) okX3_bring wl_L_39 kc_0 (q := (RX3, TX3, 4)) rfl rfl rfl rfl (Nat.le_of_ble_eq_true rfl) dL_bring_4 (by decide +kernel) [(0, 9, 12, 21)] [ky_ex3] (0, 9, 15, 15) [] rfl ⟨by decide, by decide⟩ (by decide) (by decide +kernel) (by decide +kernel) wcl_L (by decide +kernel) (by decide +kernel) (fun q7 => ?_)
      refine ky_astore_n (lv' := [(3, .ref q7), (0, ky_r G 0), (1, .int a2), (2, ky_r G 16)]) (n := 16) dL_bring_15 rfl rfl (Nat.le_of_ble_eq_true rfl) rfl ?_
      refine ky_iconst (v := (2 : Int32)) (n := 17) dL_bring_16 rfl rfl ?_
      cases hf
      exact ky_ireturn dL_bring_17 rfl
    have hf := ky_neg c9 hf
    cases hf
def fL_bringShort (a2 : Int32) (a3 : Int32) (a4 : Int32) (σ : ky_St) : Option (Int32 × ky_St) :=
  ky_bh (fX3_bringShort a2 a3 a4 σ) (fun v3 s1 =>
  ky_bn (ky_uJ s1 16 v3.toInt64) fun s5 =>
  some ((0 : Int32), s5)) (fun E4 s1 =>
  if E4 = ky_ex3 then (
  some ((1 : Int32), s1)) else (
  if E4 = ky_ex1 then (
  some ((2 : Int32), s1)) else (
  if E4 = ky_ex2 then (
  some ((3 : Int32), s1)) else (
  none))))
set_option maxHeartbeats 4000000 in
set_option maxRecDepth 100000 in
theorem KL_bringShort {G : ky_G} (d : Nat) (a2 : Int32) (a3 : Int32) (a4 : Int32) (σ : ky_St) (r : Int32) (σ' : ky_St) (hf : fL_bringShort a2 a3 a4 σ = some (r, σ')) : ky_K G mL_bringShort (d + 8) 5 30 [ky_r G 0, .int a2, .int a3, .int a4, ky_r G 16] σ (.inr (some (.int r))) σ' := by
  unfold fL_bringShort at hf
  refine ky_enterH (by intro z; cases z) (by decide +kernel) (Nat.le_of_ble_eq_true rfl) (lv := [(0, ky_r G 0), (1, .int a2), (2, .int a3), (3, .int a4), (4, ky_r G 16)]) rfl ?_
  refine ky_aload (n := 2) dL_bringShort_0 rfl 4 rfl ?_
  refine ky_iconst (v := (0 : Int32)) (n := 3) dL_bringShort_2 rfl rfl ?_
  refine ky_aload_n (n := 4) dL_bringShort_3 rfl rfl 0 rfl ?_
  refine ky_iload_n (n := 5) dL_bringShort_4 rfl rfl 1 rfl ?_
  refine ky_iload_n (n := 6) dL_bringShort_5 rfl rfl 2 rfl ?_
  refine ky_iload_n (n := 7) dL_bringShort_6 rfl rfl 3 rfl ?_
  rcases ky_bh_e hf with ⟨v3, s1, h2, hf⟩ | ⟨E4, s1, h2, hf⟩
  · refine ky_callV (kc := 0) (ks := 0) (kc2 := 5) (ks2 := 30) (k0 := 0) (as := [.int a2, .int a3, .int a4]) (st := [.int (0 : Int32), ky_r G 16]) (KX3_bringShort d a2 a3 a4 σ _ _ h2) okX3_bringShort wl_L_42 kc_0 (q := (RX3, TX3, 4)) rfl rfl rfl rfl (Nat.le_of_ble_eq_true rfl) dL_bringShort_7 rfl ?_
    refine ky_i2l (n := 11) dL_bringShort_10 rfl ?_
    refine ky_last (n := 12) dL_bringShort_11 rfl (fun s5 es5 => ?_)
    have hf := ky_bn_e hf s5 es5
    refine ky_goto (tgt := 27) dL_bringShort_12 rfl ?_
    refine ky_iconst (v := (0 : Int32)) (n := 28) dL_bringShort_27 rfl rfl ?_
    cases hf
    exact ky_ireturn dL_bringShort_28 rfl
  · by_cases c9 : E4 = ky_ex3
    · have hf := ky_pos c9 hf
      rw [c9] at h2
      refine ky_callVC (kc := 0) (ks := 0) (kc2 := 5) (ks2 := 30) (k0 := 0) (as := [.int a2, .int a3, .int a4]) (st := [.int (0 : Int32), ky_r G 16]) (KX3_bringShort d a2 a3 a4 σ _ _ h2) okX3_bringShort wl_L_42 kc_0 (q := (RX3, TX3, 4)) rfl rfl rfl rfl (Nat.le_of_ble_eq_true rfl) dL_bringShort_7 (by decide +kernel) [] [] (0, 12, 15, 21) [(0, 12, 19, 13), (0, 12, 23, 15)] rfl ⟨by decide, by decide⟩ (by decide) (by decide +kernel) (by decide +kernel) wcl_L (by decide +kernel) (by decide +kernel) (fun q6 => ?_)
      refine ky_astore (lv' := [(5, .ref q6), (0, ky_r G 0), (1, .int a2), (2, .int a3), (3, .int a4), (4, ky_r G 16)]) (n := 17) dL_bringShort_15 rfl (Nat.le_of_ble_eq_true rfl) rfl ?_
      refine ky_iconst (v := (1 : Int32)) (n := 18) dL_bringShort_17 rfl rfl ?_
      cases hf
      exact ky_ireturn dL_bringShort_18 rfl
    have hf := ky_neg c9 hf
    by_cases c10 : E4 = ky_ex1
    · have hf := ky_pos c10 hf
      rw [c10] at h2
      refine ky_callVC (kc := 0) (ks := 0) (kc2 := 5) (ks2 := 30) (k0 := 0) (as := [.int a2, .int a3, .int a4]) (st := [.int (0 : Int32), ky_r G 16]) (KX3_bringShort d a2 a3 a4 σ _ _ h2) okX3_bringShort wl_L_42 kc_0 (q := (RX3, TX3, 4)) rfl rfl rfl rfl (Nat.le_of_ble_eq_true rfl) dL_bringShort_7 (by decide +kernel) [(0, 12, 15, 21)] [ky_ex3] (0, 12, 19, 13) [(0, 12, 23, 15)] rfl ⟨by decide, by decide⟩ (by decide) (by decide +kernel) (by decide +kernel) wcl_L (by decide +kernel) (by decide +kernel) (fun q7 => ?_)
      refine ky_astore (lv' := [(5, .ref q7), (0, ky_r G 0), (1, .int a2), (2, .int a3), (3, .int a4), (4, ky_r G 16)]) (n := 21) dL_bringShort_19 rfl (Nat.le_of_ble_eq_true rfl) rfl ?_
      refine ky_iconst (v := (2 : Int32)) (n := 22) dL_bringShort_21 rfl rfl ?_
      cases hf
      exact ky_ireturn dL_bringShort_22 rfl
    have hf := ky_neg c10 hf
    by_cases c11 : E4 = ky_ex2
    · have hf := ky_pos c11 hf
      rw [c11] at h2
      refine ky_callVC (kc := 0) (ks := 0) (kc2 := 5) (ks2 := 30) (k0 := 0) (as := [.int a2, .int a3, .int a4]) (st := [.int (0 : Int32), ky_r G 16]) (KX3_bringShort d a2 a3 a4 σ _ _ h2) okX3_bringShort wl_L_42 kc_0 (q := (RX3, TX3, 4)) rfl rfl rfl rfl (Nat.le_of_ble_eq_true rfl) dL_bringShort_7 (by decide +kernel) [(0, 12, 15, 21), (0, 12, 19, 13)] [ky_ex3, ky_ex1] (0, 12, 23, 15) [] rfl ⟨by decide, by decide⟩ (by decide) (by decide +kernel) (by decide +kernel) wcl_L (by decide +kernel) (by decide +kernel) (fun q8 => ?_)
      refine ky_astore (lv' := [(5, .ref q8), (0, ky_r G 0), (1, .int a2), (2, .int a3), (3, .int a4), (4, ky_r G 16)]) (n := 25) dL_bringShort_23 rfl (Nat.le_of_ble_eq_true rfl) rfl ?_
      refine ky_iconst (v := (3 : Int32)) (n := 26) dL_bringShort_25 rfl rfl ?_
      cases hf
      exact ky_ireturn dL_bringShort_26 rfl
    have hf := ky_neg c11 hf
    cases hf
def fL_pay (a2 : Int32) (a3 : Int32) (σ : ky_St) : Option (Int32 × ky_St) :=
  ky_bh (fX3_pay a2 a3 σ) (fun v3 s1 =>
  ky_bn (ky_uJ s1 16 v3.toInt64) fun s5 =>
  some ((0 : Int32), s5)) (fun E4 s1 =>
  if E4 = ky_ex3 then (
  some ((1 : Int32), s1)) else (
  if E4 = ky_ex1 then (
  some ((2 : Int32), s1)) else (
  if E4 = ky_ex2 then (
  some ((3 : Int32), s1)) else (
  none))))
set_option maxHeartbeats 4000000 in
set_option maxRecDepth 100000 in
theorem KL_pay {G : ky_G} (d : Nat) (a2 : Int32) (a3 : Int32) (σ : ky_St) (r : Int32) (σ' : ky_St) (hf : fL_pay a2 a3 σ = some (r, σ')) : ky_K G mL_pay (d + 8) 2 12 [ky_r G 0, .int a2, .int a3, ky_r G 16] σ (.inr (some (.int r))) σ' := by
  unfold fL_pay at hf
  refine ky_enterH (by intro z; cases z) (by decide +kernel) (Nat.le_of_ble_eq_true rfl) (lv := [(0, ky_r G 0), (1, .int a2), (2, .int a3), (3, ky_r G 16)]) rfl ?_
  refine ky_aload_n (n := 1) dL_pay_0 rfl rfl 3 rfl ?_
  refine ky_iconst (v := (0 : Int32)) (n := 2) dL_pay_1 rfl rfl ?_
  refine ky_aload_n (n := 3) dL_pay_2 rfl rfl 0 rfl ?_
  refine ky_iload_n (n := 4) dL_pay_3 rfl rfl 1 rfl ?_
  refine ky_iload_n (n := 5) dL_pay_4 rfl rfl 2 rfl ?_
  rcases ky_bh_e hf with ⟨v3, s1, h2, hf⟩ | ⟨E4, s1, h2, hf⟩
  · refine ky_callV (kc := 0) (ks := 0) (kc2 := 2) (ks2 := 12) (k0 := 0) (as := [.int a2, .int a3]) (st := [.int (0 : Int32), ky_r G 16]) (KX3_pay d a2 a3 σ _ _ h2) okX3_pay wl_L_45 kc_0 (q := (RX3, TX3, 4)) rfl rfl rfl rfl (Nat.le_of_ble_eq_true rfl) dL_pay_5 rfl ?_
    refine ky_i2l (n := 9) dL_pay_8 rfl ?_
    refine ky_last (n := 10) dL_pay_9 rfl (fun s5 es5 => ?_)
    have hf := ky_bn_e hf s5 es5
    refine ky_goto (tgt := 25) dL_pay_10 rfl ?_
    refine ky_iconst (v := (0 : Int32)) (n := 26) dL_pay_25 rfl rfl ?_
    cases hf
    exact ky_ireturn dL_pay_26 rfl
  · by_cases c9 : E4 = ky_ex3
    · have hf := ky_pos c9 hf
      rw [c9] at h2
      refine ky_callVC (kc := 0) (ks := 0) (kc2 := 2) (ks2 := 12) (k0 := 0) (as := [.int a2, .int a3]) (st := [.int (0 : Int32), ky_r G 16]) (KX3_pay d a2 a3 σ _ _ h2) okX3_pay wl_L_45 kc_0 (q := (RX3, TX3, 4)) rfl rfl rfl rfl (Nat.le_of_ble_eq_true rfl) dL_pay_5 (by decide +kernel) [] [] (0, 10, 13, 21) [(0, 10, 17, 13), (0, 10, 21, 15)] rfl ⟨by decide, by decide⟩ (by decide) (by decide +kernel) (by decide +kernel) wcl_L (by decide +kernel) (by decide +kernel) (fun q6 => ?_)
      refine ky_astore (lv' := [(4, .ref q6), (0, ky_r G 0), (1, .int a2), (2, .int a3), (3, ky_r G 16)]) (n := 15) dL_pay_13 rfl (Nat.le_of_ble_eq_true rfl) rfl ?_
      refine ky_iconst (v := (1 : Int32)) (n := 16) dL_pay_15 rfl rfl ?_
      cases hf
      exact ky_ireturn dL_pay_16 rfl
    have hf := ky_neg c9 hf
    by_cases c10 : E4 = ky_ex1
    · have hf := ky_pos c10 hf
      rw [c10] at h2
      refine ky_callVC (kc := 0) (ks := 0) (kc2 := 2) (ks2 := 12) (k0 := 0) (as := [.int a2, .int a3]) (st := [.int (0 : Int32), ky_r G 16]) (KX3_pay d a2 a3 σ _ _ h2) okX3_pay wl_L_45 kc_0 (q := (RX3, TX3, 4)) rfl rfl rfl rfl (Nat.le_of_ble_eq_true rfl) dL_pay_5 (by decide +kernel) [(0, 10, 13, 21)] [ky_ex3] (0, 10, 17, 13) [(0, 10, 21, 15)] rfl ⟨by decide, by decide⟩ (by decide) (by decide +kernel) (by decide +kernel) wcl_L (by decide +kernel) (by decide +kernel) (fun q7 => ?_)
      refine ky_astore (lv' := [(4, .ref q7), (0, ky_r G 0), (1, .int a2), (2, .int a3), (3, ky_r G 16)]) (n := 19) dL_pay_17 rfl (Nat.le_of_ble_eq_true rfl) rfl ?_
      refine ky_iconst (v := (2 : Int32)) (n := 20) dL_pay_19 rfl rfl ?_
      cases hf
      exact ky_ireturn dL_pay_20 rfl
    have hf := ky_neg c10 hf
    by_cases c11 : E4 = ky_ex2
    · have hf := ky_pos c11 hf
      rw [c11] at h2
      refine ky_callVC (kc := 0) (ks := 0) (kc2 := 2) (ks2 := 12) (k0 := 0) (as := [.int a2, .int a3]) (st := [.int (0 : Int32), ky_r G 16]) (KX3_pay d a2 a3 σ _ _ h2) okX3_pay wl_L_45 kc_0 (q := (RX3, TX3, 4)) rfl rfl rfl rfl (Nat.le_of_ble_eq_true rfl) dL_pay_5 (by decide +kernel) [(0, 10, 13, 21), (0, 10, 17, 13)] [ky_ex3, ky_ex1] (0, 10, 21, 15) [] rfl ⟨by decide, by decide⟩ (by decide) (by decide +kernel) (by decide +kernel) wcl_L (by decide +kernel) (by decide +kernel) (fun q8 => ?_)
      refine ky_astore (lv' := [(4, .ref q8), (0, ky_r G 0), (1, .int a2), (2, .int a3), (3, ky_r G 16)]) (n := 23) dL_pay_21 rfl (Nat.le_of_ble_eq_true rfl) rfl ?_
      refine ky_iconst (v := (3 : Int32)) (n := 24) dL_pay_23 rfl rfl ?_
      cases hf
      exact ky_ireturn dL_pay_24 rfl
    have hf := ky_neg c11 hf
    cases hf
def fL_pass (a2 : Int32) (σ : ky_St) : Option (Int32 × ky_St) :=
  ky_bh (fX3_pass a2 σ) (fun v3 s1 =>
  ky_bn (ky_uJ s1 16 v3.toInt64) fun s5 =>
  some ((0 : Int32), s5)) (fun E4 s1 =>
  if E4 = ky_ex1 then (
  some ((1 : Int32), s1)) else (
  if E4 = ky_ex2 then (
  some ((2 : Int32), s1)) else (
  none)))
set_option maxHeartbeats 4000000 in
set_option maxRecDepth 100000 in
theorem KL_pass {G : ky_G} (d : Nat) (a2 : Int32) (σ : ky_St) (r : Int32) (σ' : ky_St) (hf : fL_pass a2 σ = some (r, σ')) : ky_K G mL_pass (d + 7) 1 6 [ky_r G 0, .int a2, ky_r G 16] σ (.inr (some (.int r))) σ' := by
  unfold fL_pass at hf
  refine ky_enterH (by intro z; cases z) (by decide +kernel) (Nat.le_of_ble_eq_true rfl) (lv := [(0, ky_r G 0), (1, .int a2), (2, ky_r G 16)]) rfl ?_
  refine ky_aload_n (n := 1) dL_pass_0 rfl rfl 2 rfl ?_
  refine ky_iconst (v := (0 : Int32)) (n := 2) dL_pass_1 rfl rfl ?_
  refine ky_aload_n (n := 3) dL_pass_2 rfl rfl 0 rfl ?_
  refine ky_iload_n (n := 4) dL_pass_3 rfl rfl 1 rfl ?_
  rcases ky_bh_e hf with ⟨v3, s1, h2, hf⟩ | ⟨E4, s1, h2, hf⟩
  · refine ky_callV (kc := 0) (ks := 0) (kc2 := 1) (ks2 := 6) (k0 := 0) (as := [.int a2]) (st := [.int (0 : Int32), ky_r G 16]) (KX3_pass d a2 σ _ _ h2) okX3_pass wl_L_48 kc_0 (q := (RX3, TX3, 4)) rfl rfl rfl rfl (Nat.le_of_ble_eq_true rfl) dL_pass_4 rfl ?_
    refine ky_i2l (n := 8) dL_pass_7 rfl ?_
    refine ky_last (n := 9) dL_pass_8 rfl (fun s5 es5 => ?_)
    have hf := ky_bn_e hf s5 es5
    refine ky_goto (tgt := 18) dL_pass_9 rfl ?_
    refine ky_iconst (v := (0 : Int32)) (n := 19) dL_pass_18 rfl rfl ?_
    cases hf
    exact ky_ireturn dL_pass_19 rfl
  · by_cases c8 : E4 = ky_ex1
    · have hf := ky_pos c8 hf
      rw [c8] at h2
      refine ky_callVC (kc := 0) (ks := 0) (kc2 := 1) (ks2 := 6) (k0 := 0) (as := [.int a2]) (st := [.int (0 : Int32), ky_r G 16]) (KX3_pass d a2 σ _ _ h2) okX3_pass wl_L_48 kc_0 (q := (RX3, TX3, 4)) rfl rfl rfl rfl (Nat.le_of_ble_eq_true rfl) dL_pass_4 (by decide +kernel) [] [] (0, 9, 12, 13) [(0, 9, 15, 15)] rfl ⟨by decide, by decide⟩ (by decide) (by decide +kernel) (by decide +kernel) wcl_L (by decide +kernel) (by decide +kernel) (fun q6 => ?_)
      refine ky_astore_n (lv' := [(3, .ref q6), (0, ky_r G 0), (1, .int a2), (2, ky_r G 16)]) (n := 13) dL_pass_12 rfl rfl (Nat.le_of_ble_eq_true rfl) rfl ?_
      refine ky_iconst (v := (1 : Int32)) (n := 14) dL_pass_13 rfl rfl ?_
      cases hf
      exact ky_ireturn dL_pass_14 rfl
    have hf := ky_neg c8 hf
    by_cases c9 : E4 = ky_ex2
    · have hf := ky_pos c9 hf
      rw [c9] at h2
      refine ky_callVC (kc := 0) (ks := 0) (kc2 := 1) (ks2 := 6) (k0 := 0) (as := [.int a2]) (st := [.int (0 : Int32), ky_r G 16]) (KX3_pass d a2 σ _ _ h2) okX3_pass wl_L_48 kc_0 (q := (RX3, TX3, 4)) rfl rfl rfl rfl (Nat.le_of_ble_eq_true rfl) dL_pass_4 (by decide +kernel) [(0, 9, 12, 13)] [ky_ex1] (0, 9, 15, 15) [] rfl ⟨by decide, by decide⟩ (by decide) (by decide +kernel) (by decide +kernel) wcl_L (by decide +kernel) (by decide +kernel) (fun q7 => ?_)
      refine ky_astore_n (lv' := [(3, .ref q7), (0, ky_r G 0), (1, .int a2), (2, ky_r G 16)]) (n := 16) dL_pass_15 rfl rfl (Nat.le_of_ble_eq_true rfl) rfl ?_
      refine ky_iconst (v := (2 : Int32)) (n := 17) dL_pass_16 rfl rfl ?_
      cases hf
      exact ky_ireturn dL_pass_17 rfl
    have hf := ky_neg c9 hf
    cases hf
def fL_set (a2 : Int32) (a3 : Int32) (σ : ky_St) : Option (Int32 × ky_St) :=
  ky_bh (fX3_set a2 a3 σ) (fun v3 s1 =>
  ky_bn (ky_uJ s1 16 v3.toInt64) fun s5 =>
  some ((0 : Int32), s5)) (fun E4 s1 =>
  if E4 = ky_ex3 then (
  some ((1 : Int32), s1)) else (
  if E4 = ky_ex1 then (
  some ((2 : Int32), s1)) else (
  none)))
set_option maxHeartbeats 4000000 in
set_option maxRecDepth 100000 in
theorem KL_set {G : ky_G} (d : Nat) (a2 : Int32) (a3 : Int32) (σ : ky_St) (r : Int32) (σ' : ky_St) (hf : fL_set a2 a3 σ = some (r, σ')) : ky_K G mL_set (d + 8) 2 12 [ky_r G 0, .int a2, .int a3, ky_r G 16] σ (.inr (some (.int r))) σ' := by
  unfold fL_set at hf
  refine ky_enterH (by intro z; cases z) (by decide +kernel) (Nat.le_of_ble_eq_true rfl) (lv := [(0, ky_r G 0), (1, .int a2), (2, .int a3), (3, ky_r G 16)]) rfl ?_
  refine ky_aload_n (n := 1) dL_set_0 rfl rfl 3 rfl ?_
  refine ky_iconst (v := (0 : Int32)) (n := 2) dL_set_1 rfl rfl ?_
  refine ky_aload_n (n := 3) dL_set_2 rfl rfl 0 rfl ?_
  refine ky_iload_n (n := 4) dL_set_3 rfl rfl 1 rfl ?_
  refine ky_iload_n (n := 5) dL_set_4 rfl rfl 2 rfl ?_
  rcases ky_bh_e hf with ⟨v3, s1, h2, hf⟩ | ⟨E4, s1, h2, hf⟩
  · refine ky_callV (kc := 0) (ks := 0) (kc2 := 2) (ks2 := 12) (k0 := 0) (as := [.int a2, .int a3]) (st := [.int (0 : Int32), ky_r G 16]) (KX3_set d a2 a3 σ _ _ h2) okX3_set wl_L_51 kc_0 (q := (RX3, TX3, 4)) rfl rfl rfl rfl (Nat.le_of_ble_eq_true rfl) dL_set_5 rfl ?_
    refine ky_i2l (n := 9) dL_set_8 rfl ?_
    refine ky_last (n := 10) dL_set_9 rfl (fun s5 es5 => ?_)
    have hf := ky_bn_e hf s5 es5
    refine ky_goto (tgt := 21) dL_set_10 rfl ?_
    refine ky_iconst (v := (0 : Int32)) (n := 22) dL_set_21 rfl rfl ?_
    cases hf
    exact ky_ireturn dL_set_22 rfl
  · by_cases c8 : E4 = ky_ex3
    · have hf := ky_pos c8 hf
      rw [c8] at h2
      refine ky_callVC (kc := 0) (ks := 0) (kc2 := 2) (ks2 := 12) (k0 := 0) (as := [.int a2, .int a3]) (st := [.int (0 : Int32), ky_r G 16]) (KX3_set d a2 a3 σ _ _ h2) okX3_set wl_L_51 kc_0 (q := (RX3, TX3, 4)) rfl rfl rfl rfl (Nat.le_of_ble_eq_true rfl) dL_set_5 (by decide +kernel) [] [] (0, 10, 13, 21) [(0, 10, 17, 13)] rfl ⟨by decide, by decide⟩ (by decide) (by decide +kernel) (by decide +kernel) wcl_L (by decide +kernel) (by decide +kernel) (fun q6 => ?_)
      refine ky_astore (lv' := [(4, .ref q6), (0, ky_r G 0), (1, .int a2), (2, .int a3), (3, ky_r G 16)]) (n := 15) dL_set_13 rfl (Nat.le_of_ble_eq_true rfl) rfl ?_
      refine ky_iconst (v := (1 : Int32)) (n := 16) dL_set_15 rfl rfl ?_
      cases hf
      exact ky_ireturn dL_set_16 rfl
    have hf := ky_neg c8 hf
    by_cases c9 : E4 = ky_ex1
    · have hf := ky_pos c9 hf
      rw [c9] at h2
      refine ky_callVC (kc := 0) (ks := 0) (kc2 := 2) (ks2 := 12) (k0 := 0) (as := [.int a2, .int a3]) (st := [.int (0 : Int32), ky_r G 16]) (KX3_set d a2 a3 σ _ _ h2) okX3_set wl_L_51 kc_0 (q := (RX3, TX3, 4)) rfl rfl rfl rfl (Nat.le_of_ble_eq_true rfl) dL_set_5 (by decide +kernel) [(0, 10, 13, 21)] [ky_ex3] (0, 10, 17, 13) [] rfl ⟨by decide, by decide⟩ (by decide) (by decide +kernel) (by decide +kernel) wcl_L (by decide +kernel) (by decide +kernel) (fun q7 => ?_)
      refine ky_astore (lv' := [(4, .ref q7), (0, ky_r G 0), (1, .int a2), (2, .int a3), (3, ky_r G 16)]) (n := 19) dL_set_17 rfl (Nat.le_of_ble_eq_true rfl) rfl ?_
      refine ky_iconst (v := (2 : Int32)) (n := 20) dL_set_19 rfl rfl ?_
      cases hf
      exact ky_ireturn dL_set_20 rfl
    have hf := ky_neg c9 hf
    cases hf
def fL_append (a2 : Int32) (σ : ky_St) : Option (Int32 × ky_St) :=
  ky_bh (fX3_append a2 σ) (fun v3 s1 =>
  ky_bn (ky_uJ s1 16 v3.toInt64) fun s5 =>
  some ((0 : Int32), s5)) (fun E4 s1 =>
  if E4 = ky_ex1 then (
  some ((1 : Int32), s1)) else (
  if E4 = ky_ex2 then (
  some ((2 : Int32), s1)) else (
  none)))
set_option maxHeartbeats 4000000 in
set_option maxRecDepth 100000 in
theorem KL_append {G : ky_G} (d : Nat) (a2 : Int32) (σ : ky_St) (r : Int32) (σ' : ky_St) (hf : fL_append a2 σ = some (r, σ')) : ky_K G mL_append (d + 7) 1 6 [ky_r G 0, .int a2, ky_r G 16] σ (.inr (some (.int r))) σ' := by
  unfold fL_append at hf
  refine ky_enterH (by intro z; cases z) (by decide +kernel) (Nat.le_of_ble_eq_true rfl) (lv := [(0, ky_r G 0), (1, .int a2), (2, ky_r G 16)]) rfl ?_
  refine ky_aload_n (n := 1) dL_append_0 rfl rfl 2 rfl ?_
  refine ky_iconst (v := (0 : Int32)) (n := 2) dL_append_1 rfl rfl ?_
  refine ky_aload_n (n := 3) dL_append_2 rfl rfl 0 rfl ?_
  refine ky_iload_n (n := 4) dL_append_3 rfl rfl 1 rfl ?_
  rcases ky_bh_e hf with ⟨v3, s1, h2, hf⟩ | ⟨E4, s1, h2, hf⟩
  · refine ky_callV (kc := 0) (ks := 0) (kc2 := 1) (ks2 := 6) (k0 := 0) (as := [.int a2]) (st := [.int (0 : Int32), ky_r G 16]) (KX3_append d a2 σ _ _ h2) okX3_append wl_L_54 kc_0 (q := (RX3, TX3, 4)) rfl rfl rfl rfl (Nat.le_of_ble_eq_true rfl) dL_append_4 rfl ?_
    refine ky_i2l (n := 8) dL_append_7 rfl ?_
    refine ky_last (n := 9) dL_append_8 rfl (fun s5 es5 => ?_)
    have hf := ky_bn_e hf s5 es5
    refine ky_goto (tgt := 18) dL_append_9 rfl ?_
    refine ky_iconst (v := (0 : Int32)) (n := 19) dL_append_18 rfl rfl ?_
    cases hf
    exact ky_ireturn dL_append_19 rfl
  · by_cases c8 : E4 = ky_ex1
    · have hf := ky_pos c8 hf
      rw [c8] at h2
      refine ky_callVC (kc := 0) (ks := 0) (kc2 := 1) (ks2 := 6) (k0 := 0) (as := [.int a2]) (st := [.int (0 : Int32), ky_r G 16]) (KX3_append d a2 σ _ _ h2) okX3_append wl_L_54 kc_0 (q := (RX3, TX3, 4)) rfl rfl rfl rfl (Nat.le_of_ble_eq_true rfl) dL_append_4 (by decide +kernel) [] [] (0, 9, 12, 13) [(0, 9, 15, 15)] rfl ⟨by decide, by decide⟩ (by decide) (by decide +kernel) (by decide +kernel) wcl_L (by decide +kernel) (by decide +kernel) (fun q6 => ?_)
      refine ky_astore_n (lv' := [(3, .ref q6), (0, ky_r G 0), (1, .int a2), (2, ky_r G 16)]) (n := 13) dL_append_12 rfl rfl (Nat.le_of_ble_eq_true rfl) rfl ?_
      refine ky_iconst (v := (1 : Int32)) (n := 14) dL_append_13 rfl rfl ?_
      cases hf
      exact ky_ireturn dL_append_14 rfl
    have hf := ky_neg c8 hf
    by_cases c9 : E4 = ky_ex2
    · have hf := ky_pos c9 hf
      rw [c9] at h2
      refine ky_callVC (kc := 0) (ks := 0) (kc2 := 1) (ks2 := 6) (k0 := 0) (as := [.int a2]) (st := [.int (0 : Int32), ky_r G 16]) (KX3_append d a2 σ _ _ h2) okX3_append wl_L_54 kc_0 (q := (RX3, TX3, 4)) rfl rfl rfl rfl (Nat.le_of_ble_eq_true rfl) dL_append_4 (by decide +kernel) [(0, 9, 12, 13)] [ky_ex1] (0, 9, 15, 15) [] rfl ⟨by decide, by decide⟩ (by decide) (by decide +kernel) (by decide +kernel) wcl_L (by decide +kernel) (by decide +kernel) (fun q7 => ?_)
      refine ky_astore_n (lv' := [(3, .ref q7), (0, ky_r G 0), (1, .int a2), (2, ky_r G 16)]) (n := 16) dL_append_15 rfl rfl (Nat.le_of_ble_eq_true rfl) rfl ?_
      refine ky_iconst (v := (2 : Int32)) (n := 17) dL_append_16 rfl rfl ?_
      cases hf
      exact ky_ireturn dL_append_17 rfl
    have hf := ky_neg c9 hf
    cases hf
def fL_run (σ : ky_St) : Option (Int32 × ky_St) :=
  ky_bh (fX3_run σ) (fun v3 s1 =>
  ky_bn (ky_uJ s1 16 v3.toInt64) fun s5 =>
  some ((0 : Int32), s5)) (fun E4 s1 =>
  if E4 = ky_ex1 then (
  some ((1 : Int32), s1)) else (
  none))
set_option maxHeartbeats 4000000 in
set_option maxRecDepth 100000 in
theorem KL_run {G : ky_G} (d : Nat) (σ : ky_St) (r : Int32) (σ' : ky_St) (hf : fL_run σ = some (r, σ')) : ky_K G mL_run (d + 7) 1 6 [ky_r G 0, ky_r G 16] σ (.inr (some (.int r))) σ' := by
  unfold fL_run at hf
  refine ky_enterH (by intro z; cases z) (by decide +kernel) (Nat.le_of_ble_eq_true rfl) (lv := [(0, ky_r G 0), (1, ky_r G 16)]) rfl ?_
  refine ky_aload_n (n := 1) dL_run_0 rfl rfl 1 rfl ?_
  refine ky_iconst (v := (0 : Int32)) (n := 2) dL_run_1 rfl rfl ?_
  refine ky_aload_n (n := 3) dL_run_2 rfl rfl 0 rfl ?_
  rcases ky_bh_e hf with ⟨v3, s1, h2, hf⟩ | ⟨E4, s1, h2, hf⟩
  · refine ky_callV (kc := 0) (ks := 0) (kc2 := 1) (ks2 := 6) (k0 := 0) (as := []) (st := [.int (0 : Int32), ky_r G 16]) (KX3_run d σ _ _ h2) okX3_run wl_L_57 kc_0 (q := (RX3, TX3, 4)) rfl rfl rfl rfl (Nat.le_of_ble_eq_true rfl) dL_run_3 rfl ?_
    refine ky_i2l (n := 7) dL_run_6 rfl ?_
    refine ky_last (n := 8) dL_run_7 rfl (fun s5 es5 => ?_)
    have hf := ky_bn_e hf s5 es5
    refine ky_goto (tgt := 14) dL_run_8 rfl ?_
    refine ky_iconst (v := (0 : Int32)) (n := 15) dL_run_14 rfl rfl ?_
    cases hf
    exact ky_ireturn dL_run_15 rfl
  · by_cases c7 : E4 = ky_ex1
    · have hf := ky_pos c7 hf
      rw [c7] at h2
      refine ky_callVC (kc := 0) (ks := 0) (kc2 := 1) (ks2 := 6) (k0 := 0) (as := []) (st := [.int (0 : Int32), ky_r G 16]) (KX3_run d σ _ _ h2) okX3_run wl_L_57 kc_0 (q := (RX3, TX3, 4)) rfl rfl rfl rfl (Nat.le_of_ble_eq_true rfl) dL_run_3 (by decide +kernel) [] [] (0, 8, 11, 13) [] rfl ⟨by decide, by decide⟩ (by decide) (by decide +kernel) (by decide +kernel) wcl_L (by decide +kernel) (by decide +kernel) (fun q6 => ?_)
      refine ky_astore_n (lv' := [(2, .ref q6), (0, ky_r G 0), (1, ky_r G 16)]) (n := 12) dL_run_11 rfl rfl (Nat.le_of_ble_eq_true rfl) rfl ?_
      refine ky_iconst (v := (1 : Int32)) (n := 13) dL_run_12 rfl rfl ?_
      cases hf
      exact ky_ireturn dL_run_13 rfl
    have hf := ky_neg c7 hf
    cases hf
def fL_undo (σ : ky_St) : Option (Int32 × ky_St) :=
  ky_bh (fX3_undo σ) (fun v3 s1 =>
  ky_bn (ky_uJ s1 16 v3.toInt64) fun s5 =>
  some ((0 : Int32), s5)) (fun E4 s1 =>
  if E4 = ky_ex2 then (
  some ((1 : Int32), s1)) else (
  none))
set_option maxHeartbeats 4000000 in
set_option maxRecDepth 100000 in
theorem KL_undo {G : ky_G} (d : Nat) (σ : ky_St) (r : Int32) (σ' : ky_St) (hf : fL_undo σ = some (r, σ')) : ky_K G mL_undo (d + 7) 1 6 [ky_r G 0, ky_r G 16] σ (.inr (some (.int r))) σ' := by
  unfold fL_undo at hf
  refine ky_enterH (by intro z; cases z) (by decide +kernel) (Nat.le_of_ble_eq_true rfl) (lv := [(0, ky_r G 0), (1, ky_r G 16)]) rfl ?_
  refine ky_aload_n (n := 1) dL_undo_0 rfl rfl 1 rfl ?_
  refine ky_iconst (v := (0 : Int32)) (n := 2) dL_undo_1 rfl rfl ?_
  refine ky_aload_n (n := 3) dL_undo_2 rfl rfl 0 rfl ?_
  rcases ky_bh_e hf with ⟨v3, s1, h2, hf⟩ | ⟨E4, s1, h2, hf⟩
  · refine ky_callV (kc := 0) (ks := 0) (kc2 := 1) (ks2 := 6) (k0 := 0) (as := []) (st := [.int (0 : Int32), ky_r G 16]) (KX3_undo d σ _ _ h2) okX3_undo wl_L_61 kc_0 (q := (RX3, TX3, 4)) rfl rfl rfl rfl (Nat.le_of_ble_eq_true rfl) dL_undo_3 rfl ?_
    refine ky_i2l (n := 7) dL_undo_6 rfl ?_
    refine ky_last (n := 8) dL_undo_7 rfl (fun s5 es5 => ?_)
    have hf := ky_bn_e hf s5 es5
    refine ky_goto (tgt := 14) dL_undo_8 rfl ?_
    refine ky_iconst (v := (0 : Int32)) (n := 15) dL_undo_14 rfl rfl ?_
    cases hf
    exact ky_ireturn dL_undo_15 rfl
  · by_cases c7 : E4 = ky_ex2
    · have hf := ky_pos c7 hf
      rw [c7] at h2
      refine ky_callVC (kc := 0) (ks := 0) (kc2 := 1) (ks2 := 6) (k0 := 0) (as := []) (st := [.int (0 : Int32), ky_r G 16]) (KX3_undo d σ _ _ h2) okX3_undo wl_L_61 kc_0 (q := (RX3, TX3, 4)) rfl rfl rfl rfl (Nat.le_of_ble_eq_true rfl) dL_undo_3 (by decide +kernel) [] [] (0, 8, 11, 15) [] rfl ⟨by decide, by decide⟩ (by decide) (by decide +kernel) (by decide +kernel) wcl_L (by decide +kernel) (by decide +kernel) (fun q6 => ?_)
      refine ky_astore_n (lv' := [(2, .ref q6), (0, ky_r G 0), (1, ky_r G 16)]) (n := 12) dL_undo_11 rfl rfl (Nat.le_of_ble_eq_true rfl) rfl ?_
      refine ky_iconst (v := (1 : Int32)) (n := 13) dL_undo_12 rfl rfl ?_
      cases hf
      exact ky_ireturn dL_undo_13 rfl
    have hf := ky_neg c7 hf
    cases hf
def fL_bundle (a2 : Int32) (a3 : Int32) (σ : ky_St) : Option (Int32 × ky_St) :=
  ky_bh (fX3_bundle a2 a3 σ) (fun v3 s1 =>
  ky_bn (ky_uJ s1 16 v3.toInt64) fun s5 =>
  some ((0 : Int32), s5)) (fun E4 s1 =>
  if E4 = ky_ex3 then (
  some ((1 : Int32), s1)) else (
  if E4 = ky_ex1 then (
  some ((2 : Int32), s1)) else (
  none)))
set_option maxHeartbeats 4000000 in
set_option maxRecDepth 100000 in
theorem KL_bundle {G : ky_G} (d : Nat) (a2 : Int32) (a3 : Int32) (σ : ky_St) (r : Int32) (σ' : ky_St) (hf : fL_bundle a2 a3 σ = some (r, σ')) : ky_K G mL_bundle (d + 8) 2 12 [ky_r G 0, .int a2, .int a3, ky_r G 16] σ (.inr (some (.int r))) σ' := by
  unfold fL_bundle at hf
  refine ky_enterH (by intro z; cases z) (by decide +kernel) (Nat.le_of_ble_eq_true rfl) (lv := [(0, ky_r G 0), (1, .int a2), (2, .int a3), (3, ky_r G 16)]) rfl ?_
  refine ky_aload_n (n := 1) dL_bundle_0 rfl rfl 3 rfl ?_
  refine ky_iconst (v := (0 : Int32)) (n := 2) dL_bundle_1 rfl rfl ?_
  refine ky_aload_n (n := 3) dL_bundle_2 rfl rfl 0 rfl ?_
  refine ky_iload_n (n := 4) dL_bundle_3 rfl rfl 1 rfl ?_
  refine ky_iload_n (n := 5) dL_bundle_4 rfl rfl 2 rfl ?_
  rcases ky_bh_e hf with ⟨v3, s1, h2, hf⟩ | ⟨E4, s1, h2, hf⟩
  · refine ky_callV (kc := 0) (ks := 0) (kc2 := 2) (ks2 := 12) (k0 := 0) (as := [.int a2, .int a3]) (st := [.int (0 : Int32), ky_r G 16]) (KX3_bundle d a2 a3 σ _ _ h2) okX3_bundle wl_L_64 kc_0 (q := (RX3, TX3, 4)) rfl rfl rfl rfl (Nat.le_of_ble_eq_true rfl) dL_bundle_5 rfl ?_
    refine ky_i2l (n := 9) dL_bundle_8 rfl ?_
    refine ky_last (n := 10) dL_bundle_9 rfl (fun s5 es5 => ?_)
    have hf := ky_bn_e hf s5 es5
    refine ky_goto (tgt := 21) dL_bundle_10 rfl ?_
    refine ky_iconst (v := (0 : Int32)) (n := 22) dL_bundle_21 rfl rfl ?_
    cases hf
    exact ky_ireturn dL_bundle_22 rfl
  · by_cases c8 : E4 = ky_ex3
    · have hf := ky_pos c8 hf
      rw [c8] at h2
      refine ky_callVC (kc := 0) (ks := 0) (kc2 := 2) (ks2 := 12) (k0 := 0) (as := [.int a2, .int a3]) (st := [.int (0 : Int32), ky_r G 16]) (KX3_bundle d a2 a3 σ _ _ h2) okX3_bundle wl_L_64 kc_0 (q := (RX3, TX3, 4)) rfl rfl rfl rfl (Nat.le_of_ble_eq_true rfl) dL_bundle_5 (by decide +kernel) [] [] (0, 10, 13, 21) [(0, 10, 17, 13)] rfl ⟨by decide, by decide⟩ (by decide) (by decide +kernel) (by decide +kernel) wcl_L (by decide +kernel) (by decide +kernel) (fun q6 => ?_)
      refine ky_astore (lv' := [(4, .ref q6), (0, ky_r G 0), (1, .int a2), (2, .int a3), (3, ky_r G 16)]) (n := 15) dL_bundle_13 rfl (Nat.le_of_ble_eq_true rfl) rfl ?_
      refine ky_iconst (v := (1 : Int32)) (n := 16) dL_bundle_15 rfl rfl ?_
      cases hf
      exact ky_ireturn dL_bundle_16 rfl
    have hf := ky_neg c8 hf
    by_cases c9 : E4 = ky_ex1
    · have hf := ky_pos c9 hf
      rw [c9] at h2
      refine ky_callVC (kc := 0) (ks := 0) (kc2 := 2) (ks2 := 12) (k0 := 0) (as := [.int a2, .int a3]) (st := [.int (0 : Int32), ky_r G 16]) (KX3_bundle d a2 a3 σ _ _ h2) okX3_bundle wl_L_64 kc_0 (q := (RX3, TX3, 4)) rfl rfl rfl rfl (Nat.le_of_ble_eq_true rfl) dL_bundle_5 (by decide +kernel) [(0, 10, 13, 21)] [ky_ex3] (0, 10, 17, 13) [] rfl ⟨by decide, by decide⟩ (by decide) (by decide +kernel) (by decide +kernel) wcl_L (by decide +kernel) (by decide +kernel) (fun q7 => ?_)
      refine ky_astore (lv' := [(4, .ref q7), (0, ky_r G 0), (1, .int a2), (2, .int a3), (3, ky_r G 16)]) (n := 19) dL_bundle_17 rfl (Nat.le_of_ble_eq_true rfl) rfl ?_
      refine ky_iconst (v := (2 : Int32)) (n := 20) dL_bundle_19 rfl rfl ?_
      cases hf
      exact ky_ireturn dL_bundle_20 rfl
    have hf := ky_neg c9 hf
    cases hf
def fL_site (a2 : Int32) (a3 : Int32) (σ : ky_St) : Option (Int32 × ky_St) :=
  ky_bh (fX3_site a2 a3 σ) (fun v3 s1 =>
  ky_bn (ky_uJ s1 16 v3.toInt64) fun s5 =>
  some ((0 : Int32), s5)) (fun E4 s1 =>
  if E4 = ky_ex3 then (
  some ((1 : Int32), s1)) else (
  if E4 = ky_ex1 then (
  some ((2 : Int32), s1)) else (
  none)))
set_option maxHeartbeats 4000000 in
set_option maxRecDepth 100000 in
theorem KL_site {G : ky_G} (d : Nat) (a2 : Int32) (a3 : Int32) (σ : ky_St) (r : Int32) (σ' : ky_St) (hf : fL_site a2 a3 σ = some (r, σ')) : ky_K G mL_site (d + 8) 2 12 [ky_r G 0, .int a2, .int a3, ky_r G 16] σ (.inr (some (.int r))) σ' := by
  unfold fL_site at hf
  refine ky_enterH (by intro z; cases z) (by decide +kernel) (Nat.le_of_ble_eq_true rfl) (lv := [(0, ky_r G 0), (1, .int a2), (2, .int a3), (3, ky_r G 16)]) rfl ?_
  refine ky_aload_n (n := 1) dL_site_0 rfl rfl 3 rfl ?_
  refine ky_iconst (v := (0 : Int32)) (n := 2) dL_site_1 rfl rfl ?_
  refine ky_aload_n (n := 3) dL_site_2 rfl rfl 0 rfl ?_
  refine ky_iload_n (n := 4) dL_site_3 rfl rfl 1 rfl ?_
  refine ky_iload_n (n := 5) dL_site_4 rfl rfl 2 rfl ?_
  rcases ky_bh_e hf with ⟨v3, s1, h2, hf⟩ | ⟨E4, s1, h2, hf⟩
  · refine ky_callV (kc := 0) (ks := 0) (kc2 := 2) (ks2 := 12) (k0 := 0) (as := [.int a2, .int a3]) (st := [.int (0 : Int32), ky_r G 16]) (KX3_site d a2 a3 σ _ _ h2) okX3_site wl_L_67 kc_0 (q := (RX3, TX3, 4)) rfl rfl rfl rfl (Nat.le_of_ble_eq_true rfl) dL_site_5 rfl ?_
    refine ky_i2l (n := 9) dL_site_8 rfl ?_
    refine ky_last (n := 10) dL_site_9 rfl (fun s5 es5 => ?_)
    have hf := ky_bn_e hf s5 es5
    refine ky_goto (tgt := 21) dL_site_10 rfl ?_
    refine ky_iconst (v := (0 : Int32)) (n := 22) dL_site_21 rfl rfl ?_
    cases hf
    exact ky_ireturn dL_site_22 rfl
  · by_cases c8 : E4 = ky_ex3
    · have hf := ky_pos c8 hf
      rw [c8] at h2
      refine ky_callVC (kc := 0) (ks := 0) (kc2 := 2) (ks2 := 12) (k0 := 0) (as := [.int a2, .int a3]) (st := [.int (0 : Int32), ky_r G 16]) (KX3_site d a2 a3 σ _ _ h2) okX3_site wl_L_67 kc_0 (q := (RX3, TX3, 4)) rfl rfl rfl rfl (Nat.le_of_ble_eq_true rfl) dL_site_5 (by decide +kernel) [] [] (0, 10, 13, 21) [(0, 10, 17, 13)] rfl ⟨by decide, by decide⟩ (by decide) (by decide +kernel) (by decide +kernel) wcl_L (by decide +kernel) (by decide +kernel) (fun q6 => ?_)
      refine ky_astore (lv' := [(4, .ref q6), (0, ky_r G 0), (1, .int a2), (2, .int a3), (3, ky_r G 16)]) (n := 15) dL_site_13 rfl (Nat.le_of_ble_eq_true rfl) rfl ?_
      refine ky_iconst (v := (1 : Int32)) (n := 16) dL_site_15 rfl rfl ?_
      cases hf
      exact ky_ireturn dL_site_16 rfl
    have hf := ky_neg c8 hf
    by_cases c9 : E4 = ky_ex1
    · have hf := ky_pos c9 hf
      rw [c9] at h2
      refine ky_callVC (kc := 0) (ks := 0) (kc2 := 2) (ks2 := 12) (k0 := 0) (as := [.int a2, .int a3]) (st := [.int (0 : Int32), ky_r G 16]) (KX3_site d a2 a3 σ _ _ h2) okX3_site wl_L_67 kc_0 (q := (RX3, TX3, 4)) rfl rfl rfl rfl (Nat.le_of_ble_eq_true rfl) dL_site_5 (by decide +kernel) [(0, 10, 13, 21)] [ky_ex3] (0, 10, 17, 13) [] rfl ⟨by decide, by decide⟩ (by decide) (by decide +kernel) (by decide +kernel) wcl_L (by decide +kernel) (by decide +kernel) (fun q7 => ?_)
      refine ky_astore (lv' := [(4, .ref q7), (0, ky_r G 0), (1, .int a2), (2, .int a3), (3, ky_r G 16)]) (n := 19) dL_site_17 rfl (Nat.le_of_ble_eq_true rfl) rfl ?_
      refine ky_iconst (v := (2 : Int32)) (n := 20) dL_site_19 rfl rfl ?_
      cases hf
      exact ky_ireturn dL_site_20 rfl
    have hf := ky_neg c9 hf
    cases hf
def fL_parts (a2 : Int32) (a3 : Int32) (σ : ky_St) : Option (Int32 × ky_St) :=
  ky_bh (fX3_parts a2 a3 σ) (fun v3 s1 =>
  ky_bn (ky_uJ s1 16 v3.toInt64) fun s5 =>
  some ((0 : Int32), s5)) (fun E4 s1 =>
  if E4 = ky_ex3 then (
  some ((1 : Int32), s1)) else (
  if E4 = ky_ex1 then (
  some ((2 : Int32), s1)) else (
  none)))
set_option maxHeartbeats 4000000 in
set_option maxRecDepth 100000 in
theorem KL_parts {G : ky_G} (d : Nat) (a2 : Int32) (a3 : Int32) (σ : ky_St) (r : Int32) (σ' : ky_St) (hf : fL_parts a2 a3 σ = some (r, σ')) : ky_K G mL_parts (d + 8) 2 12 [ky_r G 0, .int a2, .int a3, ky_r G 16] σ (.inr (some (.int r))) σ' := by
  unfold fL_parts at hf
  refine ky_enterH (by intro z; cases z) (by decide +kernel) (Nat.le_of_ble_eq_true rfl) (lv := [(0, ky_r G 0), (1, .int a2), (2, .int a3), (3, ky_r G 16)]) rfl ?_
  refine ky_aload_n (n := 1) dL_parts_0 rfl rfl 3 rfl ?_
  refine ky_iconst (v := (0 : Int32)) (n := 2) dL_parts_1 rfl rfl ?_
  refine ky_aload_n (n := 3) dL_parts_2 rfl rfl 0 rfl ?_
  refine ky_iload_n (n := 4) dL_parts_3 rfl rfl 1 rfl ?_
  refine ky_iload_n (n := 5) dL_parts_4 rfl rfl 2 rfl ?_
  rcases ky_bh_e hf with ⟨v3, s1, h2, hf⟩ | ⟨E4, s1, h2, hf⟩
  · refine ky_callV (kc := 0) (ks := 0) (kc2 := 2) (ks2 := 12) (k0 := 0) (as := [.int a2, .int a3]) (st := [.int (0 : Int32), ky_r G 16]) (KX3_parts d a2 a3 σ _ _ h2) okX3_parts wl_L_70 kc_0 (q := (RX3, TX3, 4)) rfl rfl rfl rfl (Nat.le_of_ble_eq_true rfl) dL_parts_5 rfl ?_
    refine ky_i2l (n := 9) dL_parts_8 rfl ?_
    refine ky_last (n := 10) dL_parts_9 rfl (fun s5 es5 => ?_)
    have hf := ky_bn_e hf s5 es5
    refine ky_goto (tgt := 21) dL_parts_10 rfl ?_
    refine ky_iconst (v := (0 : Int32)) (n := 22) dL_parts_21 rfl rfl ?_
    cases hf
    exact ky_ireturn dL_parts_22 rfl
  · by_cases c8 : E4 = ky_ex3
    · have hf := ky_pos c8 hf
      rw [c8] at h2
      refine ky_callVC (kc := 0) (ks := 0) (kc2 := 2) (ks2 := 12) (k0 := 0) (as := [.int a2, .int a3]) (st := [.int (0 : Int32), ky_r G 16]) (KX3_parts d a2 a3 σ _ _ h2) okX3_parts wl_L_70 kc_0 (q := (RX3, TX3, 4)) rfl rfl rfl rfl (Nat.le_of_ble_eq_true rfl) dL_parts_5 (by decide +kernel) [] [] (0, 10, 13, 21) [(0, 10, 17, 13)] rfl ⟨by decide, by decide⟩ (by decide) (by decide +kernel) (by decide +kernel) wcl_L (by decide +kernel) (by decide +kernel) (fun q6 => ?_)
      refine ky_astore (lv' := [(4, .ref q6), (0, ky_r G 0), (1, .int a2), (2, .int a3), (3, ky_r G 16)]) (n := 15) dL_parts_13 rfl (Nat.le_of_ble_eq_true rfl) rfl ?_
      refine ky_iconst (v := (1 : Int32)) (n := 16) dL_parts_15 rfl rfl ?_
      cases hf
      exact ky_ireturn dL_parts_16 rfl
    have hf := ky_neg c8 hf
    by_cases c9 : E4 = ky_ex1
    · have hf := ky_pos c9 hf
      rw [c9] at h2
      refine ky_callVC (kc := 0) (ks := 0) (kc2 := 2) (ks2 := 12) (k0 := 0) (as := [.int a2, .int a3]) (st := [.int (0 : Int32), ky_r G 16]) (KX3_parts d a2 a3 σ _ _ h2) okX3_parts wl_L_70 kc_0 (q := (RX3, TX3, 4)) rfl rfl rfl rfl (Nat.le_of_ble_eq_true rfl) dL_parts_5 (by decide +kernel) [(0, 10, 13, 21)] [ky_ex3] (0, 10, 17, 13) [] rfl ⟨by decide, by decide⟩ (by decide) (by decide +kernel) (by decide +kernel) wcl_L (by decide +kernel) (by decide +kernel) (fun q7 => ?_)
      refine ky_astore (lv' := [(4, .ref q7), (0, ky_r G 0), (1, .int a2), (2, .int a3), (3, ky_r G 16)]) (n := 19) dL_parts_17 rfl (Nat.le_of_ble_eq_true rfl) rfl ?_
      refine ky_iconst (v := (2 : Int32)) (n := 20) dL_parts_19 rfl rfl ?_
      cases hf
      exact ky_ireturn dL_parts_20 rfl
    have hf := ky_neg c9 hf
    cases hf
def fL_count (a2 : Int32) (σ : ky_St) : Option (Int32 × ky_St) :=
  ky_bh (fX3_count a2 σ) (fun v3 s1 =>
  ky_bn (ky_uJ s1 16 v3.toInt64) fun s5 =>
  some ((0 : Int32), s5)) (fun E4 s1 =>
  if E4 = ky_ex1 then (
  some ((1 : Int32), s1)) else (
  none))
set_option maxHeartbeats 4000000 in
set_option maxRecDepth 100000 in
theorem KL_count {G : ky_G} (d : Nat) (a2 : Int32) (σ : ky_St) (r : Int32) (σ' : ky_St) (hf : fL_count a2 σ = some (r, σ')) : ky_K G mL_count (d + 7) 1 6 [ky_r G 0, .int a2, ky_r G 16] σ (.inr (some (.int r))) σ' := by
  unfold fL_count at hf
  refine ky_enterH (by intro z; cases z) (by decide +kernel) (Nat.le_of_ble_eq_true rfl) (lv := [(0, ky_r G 0), (1, .int a2), (2, ky_r G 16)]) rfl ?_
  refine ky_aload_n (n := 1) dL_count_0 rfl rfl 2 rfl ?_
  refine ky_iconst (v := (0 : Int32)) (n := 2) dL_count_1 rfl rfl ?_
  refine ky_aload_n (n := 3) dL_count_2 rfl rfl 0 rfl ?_
  refine ky_iload_n (n := 4) dL_count_3 rfl rfl 1 rfl ?_
  rcases ky_bh_e hf with ⟨v3, s1, h2, hf⟩ | ⟨E4, s1, h2, hf⟩
  · refine ky_callV (kc := 0) (ks := 0) (kc2 := 1) (ks2 := 6) (k0 := 0) (as := [.int a2]) (st := [.int (0 : Int32), ky_r G 16]) (KX3_count d a2 σ _ _ h2) okX3_count wl_L_73 kc_0 (q := (RX3, TX3, 4)) rfl rfl rfl rfl (Nat.le_of_ble_eq_true rfl) dL_count_4 rfl ?_
    refine ky_i2l (n := 8) dL_count_7 rfl ?_
    refine ky_last (n := 9) dL_count_8 rfl (fun s5 es5 => ?_)
    have hf := ky_bn_e hf s5 es5
    refine ky_goto (tgt := 15) dL_count_9 rfl ?_
    refine ky_iconst (v := (0 : Int32)) (n := 16) dL_count_15 rfl rfl ?_
    cases hf
    exact ky_ireturn dL_count_16 rfl
  · by_cases c7 : E4 = ky_ex1
    · have hf := ky_pos c7 hf
      rw [c7] at h2
      refine ky_callVC (kc := 0) (ks := 0) (kc2 := 1) (ks2 := 6) (k0 := 0) (as := [.int a2]) (st := [.int (0 : Int32), ky_r G 16]) (KX3_count d a2 σ _ _ h2) okX3_count wl_L_73 kc_0 (q := (RX3, TX3, 4)) rfl rfl rfl rfl (Nat.le_of_ble_eq_true rfl) dL_count_4 (by decide +kernel) [] [] (0, 9, 12, 13) [] rfl ⟨by decide, by decide⟩ (by decide) (by decide +kernel) (by decide +kernel) wcl_L (by decide +kernel) (by decide +kernel) (fun q6 => ?_)
      refine ky_astore_n (lv' := [(3, .ref q6), (0, ky_r G 0), (1, .int a2), (2, ky_r G 16)]) (n := 13) dL_count_12 rfl rfl (Nat.le_of_ble_eq_true rfl) rfl ?_
      refine ky_iconst (v := (1 : Int32)) (n := 14) dL_count_13 rfl rfl ?_
      cases hf
      exact ky_ireturn dL_count_14 rfl
    have hf := ky_neg c7 hf
    cases hf
def fL_setting (a2 : Int32) (σ : ky_St) : Option (Int32 × ky_St) :=
  ky_bh (fX3_setting a2 σ) (fun v3 s1 =>
  ky_bn (ky_uJ s1 16 v3.toInt64) fun s5 =>
  some ((0 : Int32), s5)) (fun E4 s1 =>
  if E4 = ky_ex3 then (
  some ((1 : Int32), s1)) else (
  none))
set_option maxHeartbeats 4000000 in
set_option maxRecDepth 100000 in
theorem KL_setting {G : ky_G} (d : Nat) (a2 : Int32) (σ : ky_St) (r : Int32) (σ' : ky_St) (hf : fL_setting a2 σ = some (r, σ')) : ky_K G mL_setting (d + 8) 1 6 [ky_r G 0, .int a2, ky_r G 16] σ (.inr (some (.int r))) σ' := by
  unfold fL_setting at hf
  refine ky_enterH (by intro z; cases z) (by decide +kernel) (Nat.le_of_ble_eq_true rfl) (lv := [(0, ky_r G 0), (1, .int a2), (2, ky_r G 16)]) rfl ?_
  refine ky_aload_n (n := 1) dL_setting_0 rfl rfl 2 rfl ?_
  refine ky_iconst (v := (0 : Int32)) (n := 2) dL_setting_1 rfl rfl ?_
  refine ky_aload_n (n := 3) dL_setting_2 rfl rfl 0 rfl ?_
  refine ky_iload_n (n := 4) dL_setting_3 rfl rfl 1 rfl ?_
  rcases ky_bh_e hf with ⟨v3, s1, h2, hf⟩ | ⟨E4, s1, h2, hf⟩
  · refine ky_callV (kc := 0) (ks := 0) (kc2 := 1) (ks2 := 6) (k0 := 0) (as := [.int a2]) (st := [.int (0 : Int32), ky_r G 16]) (KX3_setting d a2 σ _ _ h2) okX3_setting wl_L_76 kc_0 (q := (RX3, TX3, 4)) rfl rfl rfl rfl (Nat.le_of_ble_eq_true rfl) dL_setting_4 rfl ?_
    refine ky_i2l (n := 8) dL_setting_7 rfl ?_
    refine ky_last (n := 9) dL_setting_8 rfl (fun s5 es5 => ?_)
    have hf := ky_bn_e hf s5 es5
    refine ky_goto (tgt := 15) dL_setting_9 rfl ?_
    refine ky_iconst (v := (0 : Int32)) (n := 16) dL_setting_15 rfl rfl ?_
    cases hf
    exact ky_ireturn dL_setting_16 rfl
  · by_cases c7 : E4 = ky_ex3
    · have hf := ky_pos c7 hf
      rw [c7] at h2
      refine ky_callVC (kc := 0) (ks := 0) (kc2 := 1) (ks2 := 6) (k0 := 0) (as := [.int a2]) (st := [.int (0 : Int32), ky_r G 16]) (KX3_setting d a2 σ _ _ h2) okX3_setting wl_L_76 kc_0 (q := (RX3, TX3, 4)) rfl rfl rfl rfl (Nat.le_of_ble_eq_true rfl) dL_setting_4 (by decide +kernel) [] [] (0, 9, 12, 21) [] rfl ⟨by decide, by decide⟩ (by decide) (by decide +kernel) (by decide +kernel) wcl_L (by decide +kernel) (by decide +kernel) (fun q6 => ?_)
      refine ky_astore_n (lv' := [(3, .ref q6), (0, ky_r G 0), (1, .int a2), (2, ky_r G 16)]) (n := 13) dL_setting_12 rfl rfl (Nat.le_of_ble_eq_true rfl) rfl ?_
      refine ky_iconst (v := (1 : Int32)) (n := 14) dL_setting_13 rfl rfl ?_
      cases hf
      exact ky_ireturn dL_setting_14 rfl
    have hf := ky_neg c7 hf
    cases hf
def fL_billIn (a2 : Int32) (a3 : Int32) (σ : ky_St) : Option (Int32 × ky_St) :=
  ky_bh (fX3_billIn a2 a3 σ) (fun v3 s1 =>
  ky_bn (ky_uJ s1 16 v3.toInt64) fun s5 =>
  some ((0 : Int32), s5)) (fun E4 s1 =>
  if E4 = ky_ex3 then (
  some ((1 : Int32), s1)) else (
  if E4 = ky_ex1 then (
  some ((2 : Int32), s1)) else (
  none)))
set_option maxHeartbeats 4000000 in
set_option maxRecDepth 100000 in
theorem KL_billIn {G : ky_G} (d : Nat) (a2 : Int32) (a3 : Int32) (σ : ky_St) (r : Int32) (σ' : ky_St) (hf : fL_billIn a2 a3 σ = some (r, σ')) : ky_K G mL_billIn (d + 8) 2 12 [ky_r G 0, .int a2, .int a3, ky_r G 16] σ (.inr (some (.int r))) σ' := by
  unfold fL_billIn at hf
  refine ky_enterH (by intro z; cases z) (by decide +kernel) (Nat.le_of_ble_eq_true rfl) (lv := [(0, ky_r G 0), (1, .int a2), (2, .int a3), (3, ky_r G 16)]) rfl ?_
  refine ky_aload_n (n := 1) dL_billIn_0 rfl rfl 3 rfl ?_
  refine ky_iconst (v := (0 : Int32)) (n := 2) dL_billIn_1 rfl rfl ?_
  refine ky_aload_n (n := 3) dL_billIn_2 rfl rfl 0 rfl ?_
  refine ky_iload_n (n := 4) dL_billIn_3 rfl rfl 1 rfl ?_
  refine ky_iload_n (n := 5) dL_billIn_4 rfl rfl 2 rfl ?_
  rcases ky_bh_e hf with ⟨v3, s1, h2, hf⟩ | ⟨E4, s1, h2, hf⟩
  · refine ky_callV (kc := 0) (ks := 0) (kc2 := 2) (ks2 := 12) (k0 := 0) (as := [.int a2, .int a3]) (st := [.int (0 : Int32), ky_r G 16]) (KX3_billIn d a2 a3 σ _ _ h2) okX3_billIn wl_L_79 kc_0 (q := (RX3, TX3, 4)) rfl rfl rfl rfl (Nat.le_of_ble_eq_true rfl) dL_billIn_5 rfl ?_
    refine ky_i2l (n := 9) dL_billIn_8 rfl ?_
    refine ky_last (n := 10) dL_billIn_9 rfl (fun s5 es5 => ?_)
    have hf := ky_bn_e hf s5 es5
    refine ky_goto (tgt := 21) dL_billIn_10 rfl ?_
    refine ky_iconst (v := (0 : Int32)) (n := 22) dL_billIn_21 rfl rfl ?_
    cases hf
    exact ky_ireturn dL_billIn_22 rfl
  · by_cases c8 : E4 = ky_ex3
    · have hf := ky_pos c8 hf
      rw [c8] at h2
      refine ky_callVC (kc := 0) (ks := 0) (kc2 := 2) (ks2 := 12) (k0 := 0) (as := [.int a2, .int a3]) (st := [.int (0 : Int32), ky_r G 16]) (KX3_billIn d a2 a3 σ _ _ h2) okX3_billIn wl_L_79 kc_0 (q := (RX3, TX3, 4)) rfl rfl rfl rfl (Nat.le_of_ble_eq_true rfl) dL_billIn_5 (by decide +kernel) [] [] (0, 10, 13, 21) [(0, 10, 17, 13)] rfl ⟨by decide, by decide⟩ (by decide) (by decide +kernel) (by decide +kernel) wcl_L (by decide +kernel) (by decide +kernel) (fun q6 => ?_)
      refine ky_astore (lv' := [(4, .ref q6), (0, ky_r G 0), (1, .int a2), (2, .int a3), (3, ky_r G 16)]) (n := 15) dL_billIn_13 rfl (Nat.le_of_ble_eq_true rfl) rfl ?_
      refine ky_iconst (v := (1 : Int32)) (n := 16) dL_billIn_15 rfl rfl ?_
      cases hf
      exact ky_ireturn dL_billIn_16 rfl
    have hf := ky_neg c8 hf
    by_cases c9 : E4 = ky_ex1
    · have hf := ky_pos c9 hf
      rw [c9] at h2
      refine ky_callVC (kc := 0) (ks := 0) (kc2 := 2) (ks2 := 12) (k0 := 0) (as := [.int a2, .int a3]) (st := [.int (0 : Int32), ky_r G 16]) (KX3_billIn d a2 a3 σ _ _ h2) okX3_billIn wl_L_79 kc_0 (q := (RX3, TX3, 4)) rfl rfl rfl rfl (Nat.le_of_ble_eq_true rfl) dL_billIn_5 (by decide +kernel) [(0, 10, 13, 21)] [ky_ex3] (0, 10, 17, 13) [] rfl ⟨by decide, by decide⟩ (by decide) (by decide +kernel) (by decide +kernel) wcl_L (by decide +kernel) (by decide +kernel) (fun q7 => ?_)
      refine ky_astore (lv' := [(4, .ref q7), (0, ky_r G 0), (1, .int a2), (2, .int a3), (3, ky_r G 16)]) (n := 19) dL_billIn_17 rfl (Nat.le_of_ble_eq_true rfl) rfl ?_
      refine ky_iconst (v := (2 : Int32)) (n := 20) dL_billIn_19 rfl rfl ?_
      cases hf
      exact ky_ireturn dL_billIn_20 rfl
    have hf := ky_neg c9 hf
    cases hf
def fL_splitOn (a2 : Int32) (a3 : Int32) (a4 : Int32) (σ : ky_St) : Option (Int32 × ky_St) :=
  ky_bh (fX3_splitOn a2 a3 a4 σ) (fun v3 s1 =>
  ky_bn (ky_uJ s1 16 v3.toInt64) fun s5 =>
  some ((0 : Int32), s5)) (fun E4 s1 =>
  if E4 = ky_ex3 then (
  some ((1 : Int32), s1)) else (
  if E4 = ky_ex1 then (
  some ((2 : Int32), s1)) else (
  none)))
set_option maxHeartbeats 4000000 in
set_option maxRecDepth 100000 in
theorem KL_splitOn {G : ky_G} (d : Nat) (a2 : Int32) (a3 : Int32) (a4 : Int32) (σ : ky_St) (r : Int32) (σ' : ky_St) (hf : fL_splitOn a2 a3 a4 σ = some (r, σ')) : ky_K G mL_splitOn (d + 8) 3 18 [ky_r G 0, .int a2, .int a3, .int a4, ky_r G 16] σ (.inr (some (.int r))) σ' := by
  unfold fL_splitOn at hf
  refine ky_enterH (by intro z; cases z) (by decide +kernel) (Nat.le_of_ble_eq_true rfl) (lv := [(0, ky_r G 0), (1, .int a2), (2, .int a3), (3, .int a4), (4, ky_r G 16)]) rfl ?_
  refine ky_aload (n := 2) dL_splitOn_0 rfl 4 rfl ?_
  refine ky_iconst (v := (0 : Int32)) (n := 3) dL_splitOn_2 rfl rfl ?_
  refine ky_aload_n (n := 4) dL_splitOn_3 rfl rfl 0 rfl ?_
  refine ky_iload_n (n := 5) dL_splitOn_4 rfl rfl 1 rfl ?_
  refine ky_iload_n (n := 6) dL_splitOn_5 rfl rfl 2 rfl ?_
  refine ky_iload_n (n := 7) dL_splitOn_6 rfl rfl 3 rfl ?_
  rcases ky_bh_e hf with ⟨v3, s1, h2, hf⟩ | ⟨E4, s1, h2, hf⟩
  · refine ky_callV (kc := 0) (ks := 0) (kc2 := 3) (ks2 := 18) (k0 := 0) (as := [.int a2, .int a3, .int a4]) (st := [.int (0 : Int32), ky_r G 16]) (KX3_splitOn d a2 a3 a4 σ _ _ h2) okX3_splitOn wl_L_82 kc_0 (q := (RX3, TX3, 4)) rfl rfl rfl rfl (Nat.le_of_ble_eq_true rfl) dL_splitOn_7 rfl ?_
    refine ky_i2l (n := 11) dL_splitOn_10 rfl ?_
    refine ky_last (n := 12) dL_splitOn_11 rfl (fun s5 es5 => ?_)
    have hf := ky_bn_e hf s5 es5
    refine ky_goto (tgt := 23) dL_splitOn_12 rfl ?_
    refine ky_iconst (v := (0 : Int32)) (n := 24) dL_splitOn_23 rfl rfl ?_
    cases hf
    exact ky_ireturn dL_splitOn_24 rfl
  · by_cases c8 : E4 = ky_ex3
    · have hf := ky_pos c8 hf
      rw [c8] at h2
      refine ky_callVC (kc := 0) (ks := 0) (kc2 := 3) (ks2 := 18) (k0 := 0) (as := [.int a2, .int a3, .int a4]) (st := [.int (0 : Int32), ky_r G 16]) (KX3_splitOn d a2 a3 a4 σ _ _ h2) okX3_splitOn wl_L_82 kc_0 (q := (RX3, TX3, 4)) rfl rfl rfl rfl (Nat.le_of_ble_eq_true rfl) dL_splitOn_7 (by decide +kernel) [] [] (0, 12, 15, 21) [(0, 12, 19, 13)] rfl ⟨by decide, by decide⟩ (by decide) (by decide +kernel) (by decide +kernel) wcl_L (by decide +kernel) (by decide +kernel) (fun q6 => ?_)
      refine ky_astore (lv' := [(5, .ref q6), (0, ky_r G 0), (1, .int a2), (2, .int a3), (3, .int a4), (4, ky_r G 16)]) (n := 17) dL_splitOn_15 rfl (Nat.le_of_ble_eq_true rfl) rfl ?_
      refine ky_iconst (v := (1 : Int32)) (n := 18) dL_splitOn_17 rfl rfl ?_
      cases hf
      exact ky_ireturn dL_splitOn_18 rfl
    have hf := ky_neg c8 hf
    by_cases c9 : E4 = ky_ex1
    · have hf := ky_pos c9 hf
      rw [c9] at h2
      refine ky_callVC (kc := 0) (ks := 0) (kc2 := 3) (ks2 := 18) (k0 := 0) (as := [.int a2, .int a3, .int a4]) (st := [.int (0 : Int32), ky_r G 16]) (KX3_splitOn d a2 a3 a4 σ _ _ h2) okX3_splitOn wl_L_82 kc_0 (q := (RX3, TX3, 4)) rfl rfl rfl rfl (Nat.le_of_ble_eq_true rfl) dL_splitOn_7 (by decide +kernel) [(0, 12, 15, 21)] [ky_ex3] (0, 12, 19, 13) [] rfl ⟨by decide, by decide⟩ (by decide) (by decide +kernel) (by decide +kernel) wcl_L (by decide +kernel) (by decide +kernel) (fun q7 => ?_)
      refine ky_astore (lv' := [(5, .ref q7), (0, ky_r G 0), (1, .int a2), (2, .int a3), (3, .int a4), (4, ky_r G 16)]) (n := 21) dL_splitOn_19 rfl (Nat.le_of_ble_eq_true rfl) rfl ?_
      refine ky_iconst (v := (2 : Int32)) (n := 22) dL_splitOn_21 rfl rfl ?_
      cases hf
      exact ky_ireturn dL_splitOn_22 rfl
    have hf := ky_neg c9 hf
    cases hf
def fL_oldest (a2 : Int32) (σ : ky_St) : Option (Int32 × ky_St) :=
  ky_bh (fX3_oldest a2 σ) (fun v3 s1 =>
  ky_bn (ky_uJ s1 16 v3.toInt64) fun s5 =>
  some ((0 : Int32), s5)) (fun E4 s1 =>
  if E4 = ky_ex3 then (
  some ((1 : Int32), s1)) else (
  none))
set_option maxHeartbeats 4000000 in
set_option maxRecDepth 100000 in
theorem KL_oldest {G : ky_G} (d : Nat) (a2 : Int32) (σ : ky_St) (r : Int32) (σ' : ky_St) (hf : fL_oldest a2 σ = some (r, σ')) : ky_K G mL_oldest (d + 8) 1 6 [ky_r G 0, .int a2, ky_r G 16] σ (.inr (some (.int r))) σ' := by
  unfold fL_oldest at hf
  refine ky_enterH (by intro z; cases z) (by decide +kernel) (Nat.le_of_ble_eq_true rfl) (lv := [(0, ky_r G 0), (1, .int a2), (2, ky_r G 16)]) rfl ?_
  refine ky_aload_n (n := 1) dL_oldest_0 rfl rfl 2 rfl ?_
  refine ky_iconst (v := (0 : Int32)) (n := 2) dL_oldest_1 rfl rfl ?_
  refine ky_aload_n (n := 3) dL_oldest_2 rfl rfl 0 rfl ?_
  refine ky_iload_n (n := 4) dL_oldest_3 rfl rfl 1 rfl ?_
  rcases ky_bh_e hf with ⟨v3, s1, h2, hf⟩ | ⟨E4, s1, h2, hf⟩
  · refine ky_callV (kc := 0) (ks := 0) (kc2 := 1) (ks2 := 6) (k0 := 0) (as := [.int a2]) (st := [.int (0 : Int32), ky_r G 16]) (KX3_oldest d a2 σ _ _ h2) okX3_oldest wl_L_85 kc_0 (q := (RX3, TX3, 4)) rfl rfl rfl rfl (Nat.le_of_ble_eq_true rfl) dL_oldest_4 rfl ?_
    refine ky_i2l (n := 8) dL_oldest_7 rfl ?_
    refine ky_last (n := 9) dL_oldest_8 rfl (fun s5 es5 => ?_)
    have hf := ky_bn_e hf s5 es5
    refine ky_goto (tgt := 15) dL_oldest_9 rfl ?_
    refine ky_iconst (v := (0 : Int32)) (n := 16) dL_oldest_15 rfl rfl ?_
    cases hf
    exact ky_ireturn dL_oldest_16 rfl
  · by_cases c7 : E4 = ky_ex3
    · have hf := ky_pos c7 hf
      rw [c7] at h2
      refine ky_callVC (kc := 0) (ks := 0) (kc2 := 1) (ks2 := 6) (k0 := 0) (as := [.int a2]) (st := [.int (0 : Int32), ky_r G 16]) (KX3_oldest d a2 σ _ _ h2) okX3_oldest wl_L_85 kc_0 (q := (RX3, TX3, 4)) rfl rfl rfl rfl (Nat.le_of_ble_eq_true rfl) dL_oldest_4 (by decide +kernel) [] [] (0, 9, 12, 21) [] rfl ⟨by decide, by decide⟩ (by decide) (by decide +kernel) (by decide +kernel) wcl_L (by decide +kernel) (by decide +kernel) (fun q6 => ?_)
      refine ky_astore_n (lv' := [(3, .ref q6), (0, ky_r G 0), (1, .int a2), (2, ky_r G 16)]) (n := 13) dL_oldest_12 rfl rfl (Nat.le_of_ble_eq_true rfl) rfl ?_
      refine ky_iconst (v := (1 : Int32)) (n := 14) dL_oldest_13 rfl rfl ?_
      cases hf
      exact ky_ireturn dL_oldest_14 rfl
    have hf := ky_neg c7 hf
    cases hf
