def fX3_buySets (a1 : Int32) (σ : ky_St) : Option ((String ⊕ Int32) × ky_St) :=
  if a1 < (1 : Int32) then (
  some (.inl ky_ex1, σ)) else (
  if a1 ≤ (24 : Int32) then (
  if ((σ.1 20 0) + a1) ≤ (24 : Int32) then (
  ky_bd (fX1_keep σ) fun v6 s4 =>
  ky_bd (fX0_addSets a1 s4) fun v9 s7 =>
  some (.inr (s7.1 20 0), s7)) else (
  some (.inl ky_ex2, σ))) else (
  some (.inl ky_ex1, σ)))
set_option maxHeartbeats 4000000 in
set_option maxRecDepth 100000 in
theorem KX3_buySets {G : ky_G} (d : Nat) (a1 : Int32) (σ : ky_St) (r : (String ⊕ Int32)) (σ' : ky_St) (hf : fX3_buySets a1 σ = some (r, σ')) : ky_K G mX3_buySets (d + 6) 1 6 [ky_r G 0, .int a1] σ (ky_oi r) σ' := by
  unfold fX3_buySets at hf
  refine ky_enter rfl (by decide +kernel) (Nat.le_of_ble_eq_true rfl) (lv := [(0, ky_r G 0), (1, .int a1)]) rfl ?_
  refine ky_iload_n (n := 1) dX3_buySets_0 rfl rfl 1 rfl ?_
  refine ky_iconst (v := (1 : Int32)) (n := 2) dX3_buySets_1 rfl rfl ?_
  refine ky_icmp_lt (n := 5) (tgt := 11) dX3_buySets_2 rfl rfl (fun c1 => ?_) (fun c1 => ?_)
  · have hf := ky_pos c1 hf
    cases hf
    exact ky_throw (text := "many is out of range") okX_ky_ex1 rfl wc_X3_34 (by decide +kernel) dX3_buySets_11 dX3_buySets_14 dX3_buySets_15 dX3_buySets_17 dX3_buySets_20 rfl (Nat.le_of_ble_eq_true rfl) (Nat.le_of_ble_eq_true rfl) (Nat.le_of_ble_eq_true rfl) (by omega)
  · have hf := ky_neg c1 hf
    refine ky_iload_n (n := 6) dX3_buySets_5 rfl rfl 1 rfl ?_
    refine ky_bipush (v := (24 : Int32)) (n := 8) dX3_buySets_6 rfl rfl ?_
    refine ky_icmp_le (n := 11) (tgt := 21) dX3_buySets_8 rfl rfl (fun c2 => ?_) (fun c2 => ?_)
    · have hf := ky_pos c2 hf
      refine ky_aload_n (n := 22) dX3_buySets_21 rfl rfl 0 rfl ?_
      refine ky_getf (q := (RX3, TX3, 4)) (v := ky_r G 20) (n := 25) dX3_buySets_22 rfl kc_0 rfl (Nat.le_of_ble_eq_true rfl) wg_X3_10 (vf_0_0 _ _) ?_
      refine ky_getf (q := (RX0, TX0, 17)) (v := .int (σ.1 20 0)) (n := 28) dX3_buySets_25 rfl kc_20 rfl (Nat.le_of_ble_eq_true rfl) wg_X3_41 (vf_20_0 _ _) ?_
      refine ky_iload_n (n := 29) dX3_buySets_28 rfl rfl 1 rfl ?_
      refine ky_iadd (n := 30) dX3_buySets_29 rfl ?_
      refine ky_bipush (v := (24 : Int32)) (n := 32) dX3_buySets_30 rfl rfl ?_
      refine ky_icmp_le (n := 35) (tgt := 45) dX3_buySets_32 rfl rfl (fun c3 => ?_) (fun c3 => ?_)
      · have hf := ky_pos c3 hf
        refine ky_aload_n (n := 46) dX3_buySets_45 rfl rfl 0 rfl ?_
        refine ky_getf (q := (RX3, TX3, 4)) (v := ky_r G 2) (n := 49) dX3_buySets_46 rfl kc_0 rfl (Nat.le_of_ble_eq_true rfl) wg_X3_19 (vf_0_1 _ _) ?_
        refine ky_aload_n (n := 50) dX3_buySets_49 rfl rfl 0 rfl ?_
        refine ky_getf (q := (RX3, TX3, 4)) (v := ky_r G 20) (n := 53) dX3_buySets_50 rfl kc_0 rfl (Nat.le_of_ble_eq_true rfl) wg_X3_10 (vf_0_0 _ _) ?_
        obtain ⟨v6, s4, h5, hf⟩ := ky_bd_e hf
        refine ky_callV (kc := 1) (ks := 6) (kc2 := 0) (ks2 := 0) (k0 := 2) (as := [ky_r G 20]) (st := []) (KX1_keep (d + 2) σ _ _ h5) okX1_keep wl_X3_50 kc_2 (q := (RX1, TX1, 3)) rfl rfl rfl rfl (Nat.le_of_ble_eq_true rfl) dX3_buySets_53 rfl ?_
        refine ky_aload_n (n := 57) dX3_buySets_56 rfl rfl 0 rfl ?_
        refine ky_getf (q := (RX3, TX3, 4)) (v := ky_r G 20) (n := 60) dX3_buySets_57 rfl kc_0 rfl (Nat.le_of_ble_eq_true rfl) wg_X3_10 (vf_0_0 _ _) ?_
        refine ky_iload_n (n := 61) dX3_buySets_60 rfl rfl 1 rfl ?_
        obtain ⟨v9, s7, h8, hf⟩ := ky_bd_e hf
        refine ky_callV (kc := 1) (ks := 6) (kc2 := 0) (ks2 := 0) (k0 := 20) (as := [.int a1]) (st := []) (KX0_addSets (d + 4) a1 s4 _ _ h8) okX0_addSets wl_X3_54 kc_20 (q := (RX0, TX0, 17)) rfl rfl rfl rfl (Nat.le_of_ble_eq_true rfl) dX3_buySets_61 rfl ?_
        refine ky_aload_n (n := 65) dX3_buySets_64 rfl rfl 0 rfl ?_
        refine ky_getf (q := (RX3, TX3, 4)) (v := ky_r G 20) (n := 68) dX3_buySets_65 rfl kc_0 rfl (Nat.le_of_ble_eq_true rfl) wg_X3_10 (vf_0_0 _ _) ?_
        refine ky_getf (q := (RX0, TX0, 17)) (v := .int (s7.1 20 0)) (n := 71) dX3_buySets_68 rfl kc_20 rfl (Nat.le_of_ble_eq_true rfl) wg_X3_41 (vf_20_0 _ _) ?_
        cases hf
        exact ky_ireturn dX3_buySets_71 rfl
      · have hf := ky_neg c3 hf
        cases hf
        exact ky_throw (text := "there would be too many sets") okX_ky_ex2 rfl wc_X3_45 (by decide +kernel) dX3_buySets_35 dX3_buySets_38 dX3_buySets_39 dX3_buySets_41 dX3_buySets_44 rfl (Nat.le_of_ble_eq_true rfl) (Nat.le_of_ble_eq_true rfl) (Nat.le_of_ble_eq_true rfl) (by omega)
    · have hf := ky_neg c2 hf
      cases hf
      exact ky_throw (text := "many is out of range") okX_ky_ex1 rfl wc_X3_34 (by decide +kernel) dX3_buySets_11 dX3_buySets_14 dX3_buySets_15 dX3_buySets_17 dX3_buySets_20 rfl (Nat.le_of_ble_eq_true rfl) (Nat.le_of_ble_eq_true rfl) (Nat.le_of_ble_eq_true rfl) (by omega)
def fX3_needKind (a1 : Int32) (σ : ky_St) : Option ((String ⊕ Unit) × ky_St) :=
  if a1 < 0 then (
  some (.inl ky_ex3, σ)) else (
  if a1 < (4 : Int32) then (
  some (.inr (), σ)) else (
  some (.inl ky_ex3, σ)))
set_option maxHeartbeats 4000000 in
set_option maxRecDepth 100000 in
theorem KX3_needKind {G : ky_G} (d : Nat) (a1 : Int32) (σ : ky_St) (r : (String ⊕ Unit)) (σ' : ky_St) (hf : fX3_needKind a1 σ = some (r, σ')) : ky_K G mX3_needKind (d + 6) 1 6 [.int a1] σ (ky_ou r) σ' := by
  unfold fX3_needKind at hf
  refine ky_enter rfl (by decide +kernel) (Nat.le_of_ble_eq_true rfl) (lv := [(0, .int a1)]) rfl ?_
  refine ky_iload_n (n := 1) dX3_needKind_0 rfl rfl 0 rfl ?_
  refine ky_if_lt (n := 4) (tgt := 9) dX3_needKind_1 rfl rfl (fun c1 => ?_) (fun c1 => ?_)
  · have hf := ky_pos c1 hf
    cases hf
    exact ky_throwW (text := "there is no such kind") okX_ky_ex3 rfl wc_X3_291 (by decide +kernel) dX3_needKind_9 dX3_needKind_12 dX3_needKind_13 dX3_needKind_16 dX3_needKind_19 rfl (Nat.le_of_ble_eq_true rfl) (Nat.le_of_ble_eq_true rfl) (Nat.le_of_ble_eq_true rfl) (by omega)
  · have hf := ky_neg c1 hf
    refine ky_iload_n (n := 5) dX3_needKind_4 rfl rfl 0 rfl ?_
    refine ky_iconst (v := (4 : Int32)) (n := 6) dX3_needKind_5 rfl rfl ?_
    refine ky_icmp_lt (n := 9) (tgt := 20) dX3_needKind_6 rfl rfl (fun c2 => ?_) (fun c2 => ?_)
    · have hf := ky_pos c2 hf
      cases hf
      exact ky_return dX3_needKind_20 rfl
    · have hf := ky_neg c2 hf
      cases hf
      exact ky_throwW (text := "there is no such kind") okX_ky_ex3 rfl wc_X3_291 (by decide +kernel) dX3_needKind_9 dX3_needKind_12 dX3_needKind_13 dX3_needKind_16 dX3_needKind_19 rfl (Nat.le_of_ble_eq_true rfl) (Nat.le_of_ble_eq_true rfl) (Nat.le_of_ble_eq_true rfl) (by omega)
def fX3_buySpare (a1 : Int32) (a2 : Int32) (σ : ky_St) : Option ((String ⊕ Int32) × ky_St) :=
  ky_bx (fX3_needKind a1 σ) fun v3 s1 =>
  if a2 < (1 : Int32) then (
  some (.inl ky_ex1, s1)) else (
  if a2 ≤ (200 : Int32) then (
  ky_bd (fX3_at 27 a1 s1) fun v9 s7 =>
  if (v9 + a2) ≤ (999 : Int32) then (
  ky_bd (fX1_keep s7) fun v13 s11 =>
  ky_bd (fX0_addSpare a1 a2 s11) fun v16 s14 =>
  ky_bd (fX3_at 27 a1 s14) fun v19 s17 =>
  some (.inr v19, s17)) else (
  some (.inl ky_ex2, s7))) else (
  some (.inl ky_ex1, s1)))
set_option maxHeartbeats 4000000 in
set_option maxRecDepth 100000 in
theorem KX3_buySpare {G : ky_G} (d : Nat) (a1 : Int32) (a2 : Int32) (σ : ky_St) (r : (String ⊕ Int32)) (σ' : ky_St) (hf : fX3_buySpare a1 a2 σ = some (r, σ')) : ky_K G mX3_buySpare (d + 7) 2 12 [ky_r G 0, .int a1, .int a2] σ (ky_oi r) σ' := by
  unfold fX3_buySpare at hf
  refine ky_enter rfl (by decide +kernel) (Nat.le_of_ble_eq_true rfl) (lv := [(0, ky_r G 0), (1, .int a1), (2, .int a2)]) rfl ?_
  refine ky_iload_n (n := 1) dX3_buySpare_0 rfl rfl 1 rfl ?_
  rcases ky_bx_e hf with ⟨E4, h2, eE4⟩ | ⟨v3, s1, h2, hf⟩
  · subst eE4
    exact ky_callSX (kc := 1) (ks := 6) (kc2 := 1) (ks2 := 6) (as := [.int a1]) (st := []) (KX3_needKind d a1 σ _ _ h2) okX3_needKind wl_X3_58 rfl rfl (Nat.le_of_ble_eq_true rfl) dX3_buySpare_1 rfl
  · refine ky_callS (kc := 1) (ks := 6) (kc2 := 1) (ks2 := 6) (as := [.int a1]) (st := []) (KX3_needKind d a1 σ _ _ h2) okX3_needKind wl_X3_58 rfl rfl (Nat.le_of_ble_eq_true rfl) dX3_buySpare_1 rfl ?_
    refine ky_iload_n (n := 5) dX3_buySpare_4 rfl rfl 2 rfl ?_
    refine ky_iconst (v := (1 : Int32)) (n := 6) dX3_buySpare_5 rfl rfl ?_
    refine ky_icmp_lt (n := 9) (tgt := 16) dX3_buySpare_6 rfl rfl (fun c5 => ?_) (fun c5 => ?_)
    · have hf := ky_pos c5 hf
      cases hf
      exact ky_throw (text := "many is out of range") okX_ky_ex1 rfl wc_X3_34 (by decide +kernel) dX3_buySpare_16 dX3_buySpare_19 dX3_buySpare_20 dX3_buySpare_22 dX3_buySpare_25 rfl (Nat.le_of_ble_eq_true rfl) (Nat.le_of_ble_eq_true rfl) (Nat.le_of_ble_eq_true rfl) (by omega)
    · have hf := ky_neg c5 hf
      refine ky_iload_n (n := 10) dX3_buySpare_9 rfl rfl 2 rfl ?_
      refine ky_sipush (v := (200 : Int32)) (n := 13) dX3_buySpare_10 rfl rfl ?_
      refine ky_icmp_le (n := 16) (tgt := 26) dX3_buySpare_13 rfl rfl (fun c6 => ?_) (fun c6 => ?_)
      · have hf := ky_pos c6 hf
        refine ky_aload_n (n := 27) dX3_buySpare_26 rfl rfl 0 rfl ?_
        refine ky_getf (q := (RX3, TX3, 4)) (v := ky_r G 20) (n := 30) dX3_buySpare_27 rfl kc_0 rfl (Nat.le_of_ble_eq_true rfl) wg_X3_10 (vf_0_0 _ _) ?_
        refine ky_getf (q := (RX0, TX0, 17)) (v := ky_r G 27) (n := 33) dX3_buySpare_30 rfl kc_20 rfl (Nat.le_of_ble_eq_true rfl) wg_X3_61 (vf_20_11 _ _) ?_
        refine ky_iload_n (n := 34) dX3_buySpare_33 rfl rfl 1 rfl ?_
        obtain ⟨v9, s7, h8, hf⟩ := ky_bd_e hf
        refine ky_callS (kc := 1) (ks := 6) (kc2 := 0) (ks2 := 0) (as := [ky_r G 27, .int a1]) (st := []) (KX3_at (d + 6) 27 a1 s1 _ _ h8) okX3_at wl_X3_64 rfl rfl (Nat.le_of_ble_eq_true rfl) dX3_buySpare_34 rfl ?_
        refine ky_iload_n (n := 38) dX3_buySpare_37 rfl rfl 2 rfl ?_
        refine ky_iadd (n := 39) dX3_buySpare_38 rfl ?_
        refine ky_sipush (v := (999 : Int32)) (n := 42) dX3_buySpare_39 rfl rfl ?_
        refine ky_icmp_le (n := 45) (tgt := 55) dX3_buySpare_42 rfl rfl (fun c10 => ?_) (fun c10 => ?_)
        · have hf := ky_pos c10 hf
          refine ky_aload_n (n := 56) dX3_buySpare_55 rfl rfl 0 rfl ?_
          refine ky_getf (q := (RX3, TX3, 4)) (v := ky_r G 2) (n := 59) dX3_buySpare_56 rfl kc_0 rfl (Nat.le_of_ble_eq_true rfl) wg_X3_19 (vf_0_1 _ _) ?_
          refine ky_aload_n (n := 60) dX3_buySpare_59 rfl rfl 0 rfl ?_
          refine ky_getf (q := (RX3, TX3, 4)) (v := ky_r G 20) (n := 63) dX3_buySpare_60 rfl kc_0 rfl (Nat.le_of_ble_eq_true rfl) wg_X3_10 (vf_0_0 _ _) ?_
          obtain ⟨v13, s11, h12, hf⟩ := ky_bd_e hf
          refine ky_callV (kc := 1) (ks := 6) (kc2 := 0) (ks2 := 0) (k0 := 2) (as := [ky_r G 20]) (st := []) (KX1_keep (d + 3) s7 _ _ h12) okX1_keep wl_X3_50 kc_2 (q := (RX1, TX1, 3)) rfl rfl rfl rfl (Nat.le_of_ble_eq_true rfl) dX3_buySpare_63 rfl ?_
          refine ky_aload_n (n := 67) dX3_buySpare_66 rfl rfl 0 rfl ?_
          refine ky_getf (q := (RX3, TX3, 4)) (v := ky_r G 20) (n := 70) dX3_buySpare_67 rfl kc_0 rfl (Nat.le_of_ble_eq_true rfl) wg_X3_10 (vf_0_0 _ _) ?_
          refine ky_iload_n (n := 71) dX3_buySpare_70 rfl rfl 1 rfl ?_
          refine ky_iload_n (n := 72) dX3_buySpare_71 rfl rfl 2 rfl ?_
          obtain ⟨v16, s14, h15, hf⟩ := ky_bd_e hf
          refine ky_callV (kc := 1) (ks := 6) (kc2 := 0) (ks2 := 0) (k0 := 20) (as := [.int a1, .int a2]) (st := []) (KX0_addSpare (d + 4) a1 a2 s11 _ _ h15) okX0_addSpare wl_X3_70 kc_20 (q := (RX0, TX0, 17)) rfl rfl rfl rfl (Nat.le_of_ble_eq_true rfl) dX3_buySpare_72 rfl ?_
          refine ky_aload_n (n := 76) dX3_buySpare_75 rfl rfl 0 rfl ?_
          refine ky_getf (q := (RX3, TX3, 4)) (v := ky_r G 20) (n := 79) dX3_buySpare_76 rfl kc_0 rfl (Nat.le_of_ble_eq_true rfl) wg_X3_10 (vf_0_0 _ _) ?_
          refine ky_getf (q := (RX0, TX0, 17)) (v := ky_r G 27) (n := 82) dX3_buySpare_79 rfl kc_20 rfl (Nat.le_of_ble_eq_true rfl) wg_X3_61 (vf_20_11 _ _) ?_
          refine ky_iload_n (n := 83) dX3_buySpare_82 rfl rfl 1 rfl ?_
          obtain ⟨v19, s17, h18, hf⟩ := ky_bd_e hf
          refine ky_callS (kc := 1) (ks := 6) (kc2 := 0) (ks2 := 0) (as := [ky_r G 27, .int a1]) (st := []) (KX3_at (d + 6) 27 a1 s14 _ _ h18) okX3_at wl_X3_64 rfl rfl (Nat.le_of_ble_eq_true rfl) dX3_buySpare_83 rfl ?_
          cases hf
          exact ky_ireturn dX3_buySpare_86 rfl
        · have hf := ky_neg c10 hf
          cases hf
          exact ky_throw (text := "there would be too many spare parts") okX_ky_ex2 rfl wc_X3_45 (by decide +kernel) dX3_buySpare_45 dX3_buySpare_48 dX3_buySpare_49 dX3_buySpare_51 dX3_buySpare_54 rfl (Nat.le_of_ble_eq_true rfl) (Nat.le_of_ble_eq_true rfl) (Nat.le_of_ble_eq_true rfl) (by omega)
      · have hf := ky_neg c6 hf
        cases hf
        exact ky_throw (text := "many is out of range") okX_ky_ex1 rfl wc_X3_34 (by decide +kernel) dX3_buySpare_16 dX3_buySpare_19 dX3_buySpare_20 dX3_buySpare_22 dX3_buySpare_25 rfl (Nat.le_of_ble_eq_true rfl) (Nat.le_of_ble_eq_true rfl) (Nat.le_of_ble_eq_true rfl) (by omega)
def fX3_needSet (a1 : Int32) (σ : ky_St) : Option ((String ⊕ Unit) × ky_St) :=
  ky_bd (fX0_isSet a1 σ) fun v3 s1 =>
  if v3 = 0 then (
  some (.inl ky_ex3, s1)) else (
  some (.inr (), s1))
set_option maxHeartbeats 4000000 in
set_option maxRecDepth 100000 in
theorem KX3_needSet {G : ky_G} (d : Nat) (a1 : Int32) (σ : ky_St) (r : (String ⊕ Unit)) (σ' : ky_St) (hf : fX3_needSet a1 σ = some (r, σ')) : ky_K G mX3_needSet (d + 6) 1 6 [ky_r G 0, .int a1] σ (ky_ou r) σ' := by
  unfold fX3_needSet at hf
  refine ky_enter rfl (by decide +kernel) (Nat.le_of_ble_eq_true rfl) (lv := [(0, ky_r G 0), (1, .int a1)]) rfl ?_
  refine ky_aload_n (n := 1) dX3_needSet_0 rfl rfl 0 rfl ?_
  refine ky_getf (q := (RX3, TX3, 4)) (v := ky_r G 20) (n := 4) dX3_needSet_1 rfl kc_0 rfl (Nat.le_of_ble_eq_true rfl) wg_X3_10 (vf_0_0 _ _) ?_
  refine ky_iload_n (n := 5) dX3_needSet_4 rfl rfl 1 rfl ?_
  obtain ⟨v3, s1, h2, hf⟩ := ky_bd_e hf
  refine ky_callV (kc := 1) (ks := 6) (kc2 := 0) (ks2 := 0) (k0 := 20) (as := [.int a1]) (st := []) (KX0_isSet (d + 5) a1 σ _ _ h2) okX0_isSet wl_X3_288 kc_20 (q := (RX0, TX0, 17)) rfl rfl rfl rfl (Nat.le_of_ble_eq_true rfl) dX3_needSet_5 rfl ?_
  refine ky_if_ne (n := 11) (tgt := 22) dX3_needSet_8 rfl rfl (fun c4 => ?_) (fun c4 => ?_)
  · have hf := ky_neg c4 hf
    cases hf
    exact ky_return dX3_needSet_22 rfl
  · have hf := ky_pos c4 hf
    cases hf
    exact ky_throwW (text := "there is no such set") okX_ky_ex3 rfl wc_X3_291 (by decide +kernel) dX3_needSet_11 dX3_needSet_14 dX3_needSet_15 dX3_needSet_18 dX3_needSet_21 rfl (Nat.le_of_ble_eq_true rfl) (Nat.le_of_ble_eq_true rfl) (Nat.le_of_ble_eq_true rfl) (by omega)
def fX3_needInYard (a1 : Int32) (σ : ky_St) : Option ((String ⊕ Unit) × ky_St) :=
  ky_bd (fX0_isInYard a1 σ) fun v3 s1 =>
  if v3 = 0 then (
  some (.inl ky_ex2, s1)) else (
  some (.inr (), s1))
set_option maxHeartbeats 4000000 in
set_option maxRecDepth 100000 in
theorem KX3_needInYard {G : ky_G} (d : Nat) (a1 : Int32) (σ : ky_St) (r : (String ⊕ Unit)) (σ' : ky_St) (hf : fX3_needInYard a1 σ = some (r, σ')) : ky_K G mX3_needInYard (d + 6) 1 6 [ky_r G 0, .int a1] σ (ky_ou r) σ' := by
  unfold fX3_needInYard at hf
  refine ky_enter rfl (by decide +kernel) (Nat.le_of_ble_eq_true rfl) (lv := [(0, ky_r G 0), (1, .int a1)]) rfl ?_
  refine ky_aload_n (n := 1) dX3_needInYard_0 rfl rfl 0 rfl ?_
  refine ky_getf (q := (RX3, TX3, 4)) (v := ky_r G 20) (n := 4) dX3_needInYard_1 rfl kc_0 rfl (Nat.le_of_ble_eq_true rfl) wg_X3_10 (vf_0_0 _ _) ?_
  refine ky_iload_n (n := 5) dX3_needInYard_4 rfl rfl 1 rfl ?_
  obtain ⟨v3, s1, h2, hf⟩ := ky_bd_e hf
  refine ky_callV (kc := 1) (ks := 6) (kc2 := 0) (ks2 := 0) (k0 := 20) (as := [.int a1]) (st := []) (KX0_isInYard (d + 4) a1 σ _ _ h2) okX0_isInYard wl_X3_251 kc_20 (q := (RX0, TX0, 17)) rfl rfl rfl rfl (Nat.le_of_ble_eq_true rfl) dX3_needInYard_5 rfl ?_
  refine ky_if_ne (n := 11) (tgt := 22) dX3_needInYard_8 rfl rfl (fun c4 => ?_) (fun c4 => ?_)
  · have hf := ky_neg c4 hf
    cases hf
    exact ky_return dX3_needInYard_22 rfl
  · have hf := ky_pos c4 hf
    cases hf
    exact ky_throwW (text := "the set is not in the yard") okX_ky_ex2 rfl wc_X3_45 (by decide +kernel) dX3_needInYard_11 dX3_needInYard_14 dX3_needInYard_15 dX3_needInYard_18 dX3_needInYard_21 rfl (Nat.le_of_ble_eq_true rfl) (Nat.le_of_ble_eq_true rfl) (Nat.le_of_ble_eq_true rfl) (by omega)
def fX3_repair (a1 : Int32) (σ : ky_St) : Option ((String ⊕ Int32) × ky_St) :=
  ky_bx (fX3_needSet a1 σ) fun v3 s1 =>
  ky_bx (fX3_needInYard a1 s1) fun v7 s5 =>
  ky_bd (fX1_keep s5) fun v11 s9 =>
  ky_bd (fX0_fillUp a1 s9) fun v14 s12 =>
  some (.inr v14, s12)
set_option maxHeartbeats 4000000 in
set_option maxRecDepth 100000 in
theorem KX3_repair {G : ky_G} (d : Nat) (a1 : Int32) (σ : ky_St) (r : (String ⊕ Int32)) (σ' : ky_St) (hf : fX3_repair a1 σ = some (r, σ')) : ky_K G mX3_repair (d + 7) 2 12 [ky_r G 0, .int a1] σ (ky_oi r) σ' := by
  unfold fX3_repair at hf
  refine ky_enter rfl (by decide +kernel) (Nat.le_of_ble_eq_true rfl) (lv := [(0, ky_r G 0), (1, .int a1)]) rfl ?_
  refine ky_aload_n (n := 1) dX3_repair_0 rfl rfl 0 rfl ?_
  refine ky_iload_n (n := 2) dX3_repair_1 rfl rfl 1 rfl ?_
  rcases ky_bx_e hf with ⟨E4, h2, eE4⟩ | ⟨v3, s1, h2, hf⟩
  · subst eE4
    exact ky_callVX (kc := 1) (ks := 6) (kc2 := 1) (ks2 := 6) (k0 := 0) (as := [.int a1]) (st := []) (KX3_needSet d a1 σ _ _ h2) okX3_needSet wl_X3_74 kc_0 (q := (RX3, TX3, 4)) rfl rfl rfl rfl (Nat.le_of_ble_eq_true rfl) dX3_repair_2 rfl
  · refine ky_callV (kc := 1) (ks := 6) (kc2 := 1) (ks2 := 6) (k0 := 0) (as := [.int a1]) (st := []) (KX3_needSet d a1 σ _ _ h2) okX3_needSet wl_X3_74 kc_0 (q := (RX3, TX3, 4)) rfl rfl rfl rfl (Nat.le_of_ble_eq_true rfl) dX3_repair_2 rfl ?_
    refine ky_aload_n (n := 6) dX3_repair_5 rfl rfl 0 rfl ?_
    refine ky_iload_n (n := 7) dX3_repair_6 rfl rfl 1 rfl ?_
    rcases ky_bx_e hf with ⟨E8, h6, eE8⟩ | ⟨v7, s5, h6, hf⟩
    · subst eE8
      exact ky_callVX (kc := 0) (ks := 0) (kc2 := 1) (ks2 := 6) (k0 := 0) (as := [.int a1]) (st := []) (KX3_needInYard d a1 s1 _ _ h6) okX3_needInYard wl_X3_77 kc_0 (q := (RX3, TX3, 4)) rfl rfl rfl rfl (Nat.le_of_ble_eq_true rfl) dX3_repair_7 rfl
    · refine ky_callV (kc := 0) (ks := 0) (kc2 := 1) (ks2 := 6) (k0 := 0) (as := [.int a1]) (st := []) (KX3_needInYard d a1 s1 _ _ h6) okX3_needInYard wl_X3_77 kc_0 (q := (RX3, TX3, 4)) rfl rfl rfl rfl (Nat.le_of_ble_eq_true rfl) dX3_repair_7 rfl ?_
      refine ky_aload_n (n := 11) dX3_repair_10 rfl rfl 0 rfl ?_
      refine ky_getf (q := (RX3, TX3, 4)) (v := ky_r G 2) (n := 14) dX3_repair_11 rfl kc_0 rfl (Nat.le_of_ble_eq_true rfl) wg_X3_19 (vf_0_1 _ _) ?_
      refine ky_aload_n (n := 15) dX3_repair_14 rfl rfl 0 rfl ?_
      refine ky_getf (q := (RX3, TX3, 4)) (v := ky_r G 20) (n := 18) dX3_repair_15 rfl kc_0 rfl (Nat.le_of_ble_eq_true rfl) wg_X3_10 (vf_0_0 _ _) ?_
      obtain ⟨v11, s9, h10, hf⟩ := ky_bd_e hf
      refine ky_callV (kc := 0) (ks := 0) (kc2 := 0) (ks2 := 0) (k0 := 2) (as := [ky_r G 20]) (st := []) (KX1_keep (d + 3) s5 _ _ h10) okX1_keep wl_X3_50 kc_2 (q := (RX1, TX1, 3)) rfl rfl rfl rfl (Nat.le_of_ble_eq_true rfl) dX3_repair_18 rfl ?_
      refine ky_aload_n (n := 22) dX3_repair_21 rfl rfl 0 rfl ?_
      refine ky_getf (q := (RX3, TX3, 4)) (v := ky_r G 20) (n := 25) dX3_repair_22 rfl kc_0 rfl (Nat.le_of_ble_eq_true rfl) wg_X3_10 (vf_0_0 _ _) ?_
      refine ky_iload_n (n := 26) dX3_repair_25 rfl rfl 1 rfl ?_
      obtain ⟨v14, s12, h13, hf⟩ := ky_bd_e hf
      refine ky_callV (kc := 0) (ks := 0) (kc2 := 0) (ks2 := 0) (k0 := 20) (as := [.int a1]) (st := []) (KX0_fillUp (d + 4) a1 s9 _ _ h13) okX0_fillUp wl_X3_80 kc_20 (q := (RX0, TX0, 17)) rfl rfl rfl rfl (Nat.le_of_ble_eq_true rfl) dX3_repair_26 rfl ?_
      cases hf
      exact ky_ireturn dX3_repair_29 rfl
def fX3_needAtLeastOne (a1 : Int32) (σ : ky_St) : Option ((String ⊕ Unit) × ky_St) :=
  if (1 : Int32) ≤ a1 then (
  some (.inr (), σ)) else (
  some (.inl ky_ex1, σ))
set_option maxHeartbeats 4000000 in
set_option maxRecDepth 100000 in
theorem KX3_needAtLeastOne {G : ky_G} (d : Nat) (a1 : Int32) (σ : ky_St) (r : (String ⊕ Unit)) (σ' : ky_St) (hf : fX3_needAtLeastOne a1 σ = some (r, σ')) : ky_K G mX3_needAtLeastOne (d + 6) 1 6 [.int a1] σ (ky_ou r) σ' := by
  unfold fX3_needAtLeastOne at hf
  refine ky_enter rfl (by decide +kernel) (Nat.le_of_ble_eq_true rfl) (lv := [(0, .int a1)]) rfl ?_
  refine ky_iload_n (n := 1) dX3_needAtLeastOne_0 rfl rfl 0 rfl ?_
  refine ky_iconst (v := (1 : Int32)) (n := 2) dX3_needAtLeastOne_1 rfl rfl ?_
  refine ky_icmp_ge (n := 5) (tgt := 16) dX3_needAtLeastOne_2 rfl rfl (fun c1 => ?_) (fun c1 => ?_)
  · have hf := ky_pos c1 hf
    cases hf
    exact ky_return dX3_needAtLeastOne_16 rfl
  · have hf := ky_neg c1 hf
    cases hf
    exact ky_throwW (text := "many is below 1") okX_ky_ex1 rfl wc_X3_34 (by decide +kernel) dX3_needAtLeastOne_5 dX3_needAtLeastOne_8 dX3_needAtLeastOne_9 dX3_needAtLeastOne_12 dX3_needAtLeastOne_15 rfl (Nat.le_of_ble_eq_true rfl) (Nat.le_of_ble_eq_true rfl) (Nat.le_of_ble_eq_true rfl) (by omega)
def fX3_needStock (a1 : Int32) (a2 : Int32) (a3 : Int32) (σ : ky_St) : Option ((String ⊕ Unit) × ky_St) :=
  ky_bd (fX0_stockOf a1 a2 σ) fun v3 s1 =>
  if a3 ≤ v3 then (
  some (.inr (), s1)) else (
  some (.inl ky_ex2, s1))
set_option maxHeartbeats 4000000 in
set_option maxRecDepth 100000 in
theorem KX3_needStock {G : ky_G} (d : Nat) (a1 : Int32) (a2 : Int32) (a3 : Int32) (σ : ky_St) (r : (String ⊕ Unit)) (σ' : ky_St) (hf : fX3_needStock a1 a2 a3 σ = some (r, σ')) : ky_K G mX3_needStock (d + 6) 1 6 [ky_r G 0, .int a1, .int a2, .int a3] σ (ky_ou r) σ' := by
  unfold fX3_needStock at hf
  refine ky_enter rfl (by decide +kernel) (Nat.le_of_ble_eq_true rfl) (lv := [(0, ky_r G 0), (1, .int a1), (2, .int a2), (3, .int a3)]) rfl ?_
  refine ky_aload_n (n := 1) dX3_needStock_0 rfl rfl 0 rfl ?_
  refine ky_getf (q := (RX3, TX3, 4)) (v := ky_r G 20) (n := 4) dX3_needStock_1 rfl kc_0 rfl (Nat.le_of_ble_eq_true rfl) wg_X3_10 (vf_0_0 _ _) ?_
  refine ky_iload_n (n := 5) dX3_needStock_4 rfl rfl 1 rfl ?_
  refine ky_iload_n (n := 6) dX3_needStock_5 rfl rfl 2 rfl ?_
  obtain ⟨v3, s1, h2, hf⟩ := ky_bd_e hf
  refine ky_callV (kc := 1) (ks := 6) (kc2 := 0) (ks2 := 0) (k0 := 20) (as := [.int a1, .int a2]) (st := []) (KX0_stockOf (d + 4) a1 a2 σ _ _ h2) okX0_stockOf wl_X3_311 kc_20 (q := (RX0, TX0, 17)) rfl rfl rfl rfl (Nat.le_of_ble_eq_true rfl) dX3_needStock_6 rfl ?_
  refine ky_iload_n (n := 10) dX3_needStock_9 rfl rfl 3 rfl ?_
  refine ky_icmp_ge (n := 13) (tgt := 24) dX3_needStock_10 rfl rfl (fun c4 => ?_) (fun c4 => ?_)
  · have hf := ky_pos c4 hf
    cases hf
    exact ky_return dX3_needStock_24 rfl
  · have hf := ky_neg c4 hf
    cases hf
    exact ky_throwW (text := "the set has not so many parts of the kind") okX_ky_ex2 rfl wc_X3_45 (by decide +kernel) dX3_needStock_13 dX3_needStock_16 dX3_needStock_17 dX3_needStock_20 dX3_needStock_23 rfl (Nat.le_of_ble_eq_true rfl) (Nat.le_of_ble_eq_true rfl) (Nat.le_of_ble_eq_true rfl) (by omega)
def fX3_damage (a1 : Int32) (a2 : Int32) (a3 : Int32) (σ : ky_St) : Option ((String ⊕ Int32) × ky_St) :=
  ky_bx (fX3_needSet a1 σ) fun v3 s1 =>
  ky_bx (fX3_needKind a2 s1) fun v7 s5 =>
  ky_bx (fX3_needAtLeastOne a3 s5) fun v11 s9 =>
  ky_bx (fX3_needInYard a1 s9) fun v15 s13 =>
  ky_bx (fX3_needStock a1 a2 a3 s13) fun v19 s17 =>
  ky_bd (fX1_keep s17) fun v23 s21 =>
  ky_bd (fX0_chargeDamage a1 a2 a3 s21) fun v26 s24 =>
  some (.inr v26, s24)
set_option maxHeartbeats 4000000 in
set_option maxRecDepth 100000 in
theorem KX3_damage {G : ky_G} (d : Nat) (a1 : Int32) (a2 : Int32) (a3 : Int32) (σ : ky_St) (r : (String ⊕ Int32)) (σ' : ky_St) (hf : fX3_damage a1 a2 a3 σ = some (r, σ')) : ky_K G mX3_damage (d + 7) 5 30 [ky_r G 0, .int a1, .int a2, .int a3] σ (ky_oi r) σ' := by
  unfold fX3_damage at hf
  refine ky_enter rfl (by decide +kernel) (Nat.le_of_ble_eq_true rfl) (lv := [(0, ky_r G 0), (1, .int a1), (2, .int a2), (3, .int a3)]) rfl ?_
  refine ky_aload_n (n := 1) dX3_damage_0 rfl rfl 0 rfl ?_
  refine ky_iload_n (n := 2) dX3_damage_1 rfl rfl 1 rfl ?_
  rcases ky_bx_e hf with ⟨E4, h2, eE4⟩ | ⟨v3, s1, h2, hf⟩
  · subst eE4
    exact ky_callVX (kc := 4) (ks := 24) (kc2 := 1) (ks2 := 6) (k0 := 0) (as := [.int a1]) (st := []) (KX3_needSet d a1 σ _ _ h2) okX3_needSet wl_X3_74 kc_0 (q := (RX3, TX3, 4)) rfl rfl rfl rfl (Nat.le_of_ble_eq_true rfl) dX3_damage_2 rfl
  · refine ky_callV (kc := 4) (ks := 24) (kc2 := 1) (ks2 := 6) (k0 := 0) (as := [.int a1]) (st := []) (KX3_needSet d a1 σ _ _ h2) okX3_needSet wl_X3_74 kc_0 (q := (RX3, TX3, 4)) rfl rfl rfl rfl (Nat.le_of_ble_eq_true rfl) dX3_damage_2 rfl ?_
    refine ky_iload_n (n := 6) dX3_damage_5 rfl rfl 2 rfl ?_
    rcases ky_bx_e hf with ⟨E8, h6, eE8⟩ | ⟨v7, s5, h6, hf⟩
    · subst eE8
      exact ky_callSX (kc := 3) (ks := 18) (kc2 := 1) (ks2 := 6) (as := [.int a2]) (st := []) (KX3_needKind d a2 s1 _ _ h6) okX3_needKind wl_X3_58 rfl rfl (Nat.le_of_ble_eq_true rfl) dX3_damage_6 rfl
    · refine ky_callS (kc := 3) (ks := 18) (kc2 := 1) (ks2 := 6) (as := [.int a2]) (st := []) (KX3_needKind d a2 s1 _ _ h6) okX3_needKind wl_X3_58 rfl rfl (Nat.le_of_ble_eq_true rfl) dX3_damage_6 rfl ?_
      refine ky_iload_n (n := 10) dX3_damage_9 rfl rfl 3 rfl ?_
      rcases ky_bx_e hf with ⟨E12, h10, eE12⟩ | ⟨v11, s9, h10, hf⟩
      · subst eE12
        exact ky_callSX (kc := 2) (ks := 12) (kc2 := 1) (ks2 := 6) (as := [.int a3]) (st := []) (KX3_needAtLeastOne d a3 s5 _ _ h10) okX3_needAtLeastOne wl_X3_84 rfl rfl (Nat.le_of_ble_eq_true rfl) dX3_damage_10 rfl
      · refine ky_callS (kc := 2) (ks := 12) (kc2 := 1) (ks2 := 6) (as := [.int a3]) (st := []) (KX3_needAtLeastOne d a3 s5 _ _ h10) okX3_needAtLeastOne wl_X3_84 rfl rfl (Nat.le_of_ble_eq_true rfl) dX3_damage_10 rfl ?_
        refine ky_aload_n (n := 14) dX3_damage_13 rfl rfl 0 rfl ?_
        refine ky_iload_n (n := 15) dX3_damage_14 rfl rfl 1 rfl ?_
        rcases ky_bx_e hf with ⟨E16, h14, eE16⟩ | ⟨v15, s13, h14, hf⟩
        · subst eE16
          exact ky_callVX (kc := 1) (ks := 6) (kc2 := 1) (ks2 := 6) (k0 := 0) (as := [.int a1]) (st := []) (KX3_needInYard d a1 s9 _ _ h14) okX3_needInYard wl_X3_77 kc_0 (q := (RX3, TX3, 4)) rfl rfl rfl rfl (Nat.le_of_ble_eq_true rfl) dX3_damage_15 rfl
        · refine ky_callV (kc := 1) (ks := 6) (kc2 := 1) (ks2 := 6) (k0 := 0) (as := [.int a1]) (st := []) (KX3_needInYard d a1 s9 _ _ h14) okX3_needInYard wl_X3_77 kc_0 (q := (RX3, TX3, 4)) rfl rfl rfl rfl (Nat.le_of_ble_eq_true rfl) dX3_damage_15 rfl ?_
          refine ky_aload_n (n := 19) dX3_damage_18 rfl rfl 0 rfl ?_
          refine ky_iload_n (n := 20) dX3_damage_19 rfl rfl 1 rfl ?_
          refine ky_iload_n (n := 21) dX3_damage_20 rfl rfl 2 rfl ?_
          refine ky_iload_n (n := 22) dX3_damage_21 rfl rfl 3 rfl ?_
          rcases ky_bx_e hf with ⟨E20, h18, eE20⟩ | ⟨v19, s17, h18, hf⟩
          · subst eE20
            exact ky_callVX (kc := 0) (ks := 0) (kc2 := 1) (ks2 := 6) (k0 := 0) (as := [.int a1, .int a2, .int a3]) (st := []) (KX3_needStock d a1 a2 a3 s13 _ _ h18) okX3_needStock wl_X3_87 kc_0 (q := (RX3, TX3, 4)) rfl rfl rfl rfl (Nat.le_of_ble_eq_true rfl) dX3_damage_22 rfl
          · refine ky_callV (kc := 0) (ks := 0) (kc2 := 1) (ks2 := 6) (k0 := 0) (as := [.int a1, .int a2, .int a3]) (st := []) (KX3_needStock d a1 a2 a3 s13 _ _ h18) okX3_needStock wl_X3_87 kc_0 (q := (RX3, TX3, 4)) rfl rfl rfl rfl (Nat.le_of_ble_eq_true rfl) dX3_damage_22 rfl ?_
            refine ky_aload_n (n := 26) dX3_damage_25 rfl rfl 0 rfl ?_
            refine ky_getf (q := (RX3, TX3, 4)) (v := ky_r G 2) (n := 29) dX3_damage_26 rfl kc_0 rfl (Nat.le_of_ble_eq_true rfl) wg_X3_19 (vf_0_1 _ _) ?_
            refine ky_aload_n (n := 30) dX3_damage_29 rfl rfl 0 rfl ?_
            refine ky_getf (q := (RX3, TX3, 4)) (v := ky_r G 20) (n := 33) dX3_damage_30 rfl kc_0 rfl (Nat.le_of_ble_eq_true rfl) wg_X3_10 (vf_0_0 _ _) ?_
            obtain ⟨v23, s21, h22, hf⟩ := ky_bd_e hf
            refine ky_callV (kc := 0) (ks := 0) (kc2 := 0) (ks2 := 0) (k0 := 2) (as := [ky_r G 20]) (st := []) (KX1_keep (d + 3) s17 _ _ h22) okX1_keep wl_X3_50 kc_2 (q := (RX1, TX1, 3)) rfl rfl rfl rfl (Nat.le_of_ble_eq_true rfl) dX3_damage_33 rfl ?_
            refine ky_aload_n (n := 37) dX3_damage_36 rfl rfl 0 rfl ?_
            refine ky_getf (q := (RX3, TX3, 4)) (v := ky_r G 20) (n := 40) dX3_damage_37 rfl kc_0 rfl (Nat.le_of_ble_eq_true rfl) wg_X3_10 (vf_0_0 _ _) ?_
            refine ky_iload_n (n := 41) dX3_damage_40 rfl rfl 1 rfl ?_
            refine ky_iload_n (n := 42) dX3_damage_41 rfl rfl 2 rfl ?_
            refine ky_iload_n (n := 43) dX3_damage_42 rfl rfl 3 rfl ?_
            obtain ⟨v26, s24, h25, hf⟩ := ky_bd_e hf
            refine ky_callV (kc := 0) (ks := 0) (kc2 := 0) (ks2 := 0) (k0 := 20) (as := [.int a1, .int a2, .int a3]) (st := []) (KX0_chargeDamage (d + 2) a1 a2 a3 s21 _ _ h25) okX0_chargeDamage wl_X3_91 kc_20 (q := (RX0, TX0, 17)) rfl rfl rfl rfl (Nat.le_of_ble_eq_true rfl) dX3_damage_43 rfl ?_
            cases hf
            exact ky_ireturn dX3_damage_46 rfl
def fX3_swap (a1 : Int32) (a2 : Int32) (σ : ky_St) : Option ((String ⊕ Int32) × ky_St) :=
  ky_bx (fX3_needSet a1 σ) fun v3 s1 =>
  ky_bx (fX3_needSet a2 s1) fun v7 s5 =>
  ky_bx (fX3_needInYard a1 s5) fun v11 s9 =>
  ky_bx (fX3_needInYard a2 s9) fun v15 s13 =>
  ky_bd (fX1_keep s13) fun v19 s17 =>
  ky_bd (fX0_exchangeParts a1 a2 s17) fun v22 s20 =>
  ky_bd (fX0_partsIn a1 s20) fun v25 s23 =>
  some (.inr v25, s23)
set_option maxHeartbeats 4000000 in
set_option maxRecDepth 100000 in
theorem KX3_swap {G : ky_G} (d : Nat) (a1 : Int32) (a2 : Int32) (σ : ky_St) (r : (String ⊕ Int32)) (σ' : ky_St) (hf : fX3_swap a1 a2 σ = some (r, σ')) : ky_K G mX3_swap (d + 7) 4 24 [ky_r G 0, .int a1, .int a2] σ (ky_oi r) σ' := by
  unfold fX3_swap at hf
  refine ky_enter rfl (by decide +kernel) (Nat.le_of_ble_eq_true rfl) (lv := [(0, ky_r G 0), (1, .int a1), (2, .int a2)]) rfl ?_
  refine ky_aload_n (n := 1) dX3_swap_0 rfl rfl 0 rfl ?_
  refine ky_iload_n (n := 2) dX3_swap_1 rfl rfl 1 rfl ?_
  rcases ky_bx_e hf with ⟨E4, h2, eE4⟩ | ⟨v3, s1, h2, hf⟩
  · subst eE4
    exact ky_callVX (kc := 3) (ks := 18) (kc2 := 1) (ks2 := 6) (k0 := 0) (as := [.int a1]) (st := []) (KX3_needSet d a1 σ _ _ h2) okX3_needSet wl_X3_74 kc_0 (q := (RX3, TX3, 4)) rfl rfl rfl rfl (Nat.le_of_ble_eq_true rfl) dX3_swap_2 rfl
  · refine ky_callV (kc := 3) (ks := 18) (kc2 := 1) (ks2 := 6) (k0 := 0) (as := [.int a1]) (st := []) (KX3_needSet d a1 σ _ _ h2) okX3_needSet wl_X3_74 kc_0 (q := (RX3, TX3, 4)) rfl rfl rfl rfl (Nat.le_of_ble_eq_true rfl) dX3_swap_2 rfl ?_
    refine ky_aload_n (n := 6) dX3_swap_5 rfl rfl 0 rfl ?_
    refine ky_iload_n (n := 7) dX3_swap_6 rfl rfl 2 rfl ?_
    rcases ky_bx_e hf with ⟨E8, h6, eE8⟩ | ⟨v7, s5, h6, hf⟩
    · subst eE8
      exact ky_callVX (kc := 2) (ks := 12) (kc2 := 1) (ks2 := 6) (k0 := 0) (as := [.int a2]) (st := []) (KX3_needSet d a2 s1 _ _ h6) okX3_needSet wl_X3_74 kc_0 (q := (RX3, TX3, 4)) rfl rfl rfl rfl (Nat.le_of_ble_eq_true rfl) dX3_swap_7 rfl
    · refine ky_callV (kc := 2) (ks := 12) (kc2 := 1) (ks2 := 6) (k0 := 0) (as := [.int a2]) (st := []) (KX3_needSet d a2 s1 _ _ h6) okX3_needSet wl_X3_74 kc_0 (q := (RX3, TX3, 4)) rfl rfl rfl rfl (Nat.le_of_ble_eq_true rfl) dX3_swap_7 rfl ?_
      refine ky_aload_n (n := 11) dX3_swap_10 rfl rfl 0 rfl ?_
      refine ky_iload_n (n := 12) dX3_swap_11 rfl rfl 1 rfl ?_
      rcases ky_bx_e hf with ⟨E12, h10, eE12⟩ | ⟨v11, s9, h10, hf⟩
      · subst eE12
        exact ky_callVX (kc := 1) (ks := 6) (kc2 := 1) (ks2 := 6) (k0 := 0) (as := [.int a1]) (st := []) (KX3_needInYard d a1 s5 _ _ h10) okX3_needInYard wl_X3_77 kc_0 (q := (RX3, TX3, 4)) rfl rfl rfl rfl (Nat.le_of_ble_eq_true rfl) dX3_swap_12 rfl
      · refine ky_callV (kc := 1) (ks := 6) (kc2 := 1) (ks2 := 6) (k0 := 0) (as := [.int a1]) (st := []) (KX3_needInYard d a1 s5 _ _ h10) okX3_needInYard wl_X3_77 kc_0 (q := (RX3, TX3, 4)) rfl rfl rfl rfl (Nat.le_of_ble_eq_true rfl) dX3_swap_12 rfl ?_
        refine ky_aload_n (n := 16) dX3_swap_15 rfl rfl 0 rfl ?_
        refine ky_iload_n (n := 17) dX3_swap_16 rfl rfl 2 rfl ?_
        rcases ky_bx_e hf with ⟨E16, h14, eE16⟩ | ⟨v15, s13, h14, hf⟩
        · subst eE16
          exact ky_callVX (kc := 0) (ks := 0) (kc2 := 1) (ks2 := 6) (k0 := 0) (as := [.int a2]) (st := []) (KX3_needInYard d a2 s9 _ _ h14) okX3_needInYard wl_X3_77 kc_0 (q := (RX3, TX3, 4)) rfl rfl rfl rfl (Nat.le_of_ble_eq_true rfl) dX3_swap_17 rfl
        · refine ky_callV (kc := 0) (ks := 0) (kc2 := 1) (ks2 := 6) (k0 := 0) (as := [.int a2]) (st := []) (KX3_needInYard d a2 s9 _ _ h14) okX3_needInYard wl_X3_77 kc_0 (q := (RX3, TX3, 4)) rfl rfl rfl rfl (Nat.le_of_ble_eq_true rfl) dX3_swap_17 rfl ?_
          refine ky_aload_n (n := 21) dX3_swap_20 rfl rfl 0 rfl ?_
          refine ky_getf (q := (RX3, TX3, 4)) (v := ky_r G 2) (n := 24) dX3_swap_21 rfl kc_0 rfl (Nat.le_of_ble_eq_true rfl) wg_X3_19 (vf_0_1 _ _) ?_
          refine ky_aload_n (n := 25) dX3_swap_24 rfl rfl 0 rfl ?_
          refine ky_getf (q := (RX3, TX3, 4)) (v := ky_r G 20) (n := 28) dX3_swap_25 rfl kc_0 rfl (Nat.le_of_ble_eq_true rfl) wg_X3_10 (vf_0_0 _ _) ?_
          obtain ⟨v19, s17, h18, hf⟩ := ky_bd_e hf
          refine ky_callV (kc := 0) (ks := 0) (kc2 := 0) (ks2 := 0) (k0 := 2) (as := [ky_r G 20]) (st := []) (KX1_keep (d + 3) s13 _ _ h18) okX1_keep wl_X3_50 kc_2 (q := (RX1, TX1, 3)) rfl rfl rfl rfl (Nat.le_of_ble_eq_true rfl) dX3_swap_28 rfl ?_
          refine ky_aload_n (n := 32) dX3_swap_31 rfl rfl 0 rfl ?_
          refine ky_getf (q := (RX3, TX3, 4)) (v := ky_r G 20) (n := 35) dX3_swap_32 rfl kc_0 rfl (Nat.le_of_ble_eq_true rfl) wg_X3_10 (vf_0_0 _ _) ?_
          refine ky_iload_n (n := 36) dX3_swap_35 rfl rfl 1 rfl ?_
          refine ky_iload_n (n := 37) dX3_swap_36 rfl rfl 2 rfl ?_
          obtain ⟨v22, s20, h21, hf⟩ := ky_bd_e hf
          refine ky_callV (kc := 0) (ks := 0) (kc2 := 0) (ks2 := 0) (k0 := 20) (as := [.int a1, .int a2]) (st := []) (KX0_exchangeParts (d + 4) a1 a2 s17 _ _ h21) okX0_exchangeParts wl_X3_95 kc_20 (q := (RX0, TX0, 17)) rfl rfl rfl rfl (Nat.le_of_ble_eq_true rfl) dX3_swap_37 rfl ?_
          refine ky_aload_n (n := 41) dX3_swap_40 rfl rfl 0 rfl ?_
          refine ky_getf (q := (RX3, TX3, 4)) (v := ky_r G 20) (n := 44) dX3_swap_41 rfl kc_0 rfl (Nat.le_of_ble_eq_true rfl) wg_X3_10 (vf_0_0 _ _) ?_
          refine ky_iload_n (n := 45) dX3_swap_44 rfl rfl 1 rfl ?_
          obtain ⟨v25, s23, h24, hf⟩ := ky_bd_e hf
          refine ky_callV (kc := 0) (ks := 0) (kc2 := 0) (ks2 := 0) (k0 := 20) (as := [.int a1]) (st := []) (KX0_partsIn (d + 4) a1 s20 _ _ h24) okX0_partsIn wl_X3_98 kc_20 (q := (RX0, TX0, 17)) rfl rfl rfl rfl (Nat.le_of_ble_eq_true rfl) dX3_swap_45 rfl ?_
          cases hf
          exact ky_ireturn dX3_swap_48 rfl
def fX3_needSite (a1 : Int32) (σ : ky_St) : Option ((String ⊕ Unit) × ky_St) :=
  if a1 < 0 then (
  some (.inl ky_ex3, σ)) else (
  if a1 < (6 : Int32) then (
  some (.inr (), σ)) else (
  some (.inl ky_ex3, σ)))
set_option maxHeartbeats 4000000 in
set_option maxRecDepth 100000 in
theorem KX3_needSite {G : ky_G} (d : Nat) (a1 : Int32) (σ : ky_St) (r : (String ⊕ Unit)) (σ' : ky_St) (hf : fX3_needSite a1 σ = some (r, σ')) : ky_K G mX3_needSite (d + 6) 1 6 [.int a1] σ (ky_ou r) σ' := by
  unfold fX3_needSite at hf
  refine ky_enter rfl (by decide +kernel) (Nat.le_of_ble_eq_true rfl) (lv := [(0, .int a1)]) rfl ?_
  refine ky_iload_n (n := 1) dX3_needSite_0 rfl rfl 0 rfl ?_
  refine ky_if_lt (n := 4) (tgt := 10) dX3_needSite_1 rfl rfl (fun c1 => ?_) (fun c1 => ?_)
  · have hf := ky_pos c1 hf
    cases hf
    exact ky_throwW (text := "there is no such site") okX_ky_ex3 rfl wc_X3_291 (by decide +kernel) dX3_needSite_10 dX3_needSite_13 dX3_needSite_14 dX3_needSite_17 dX3_needSite_20 rfl (Nat.le_of_ble_eq_true rfl) (Nat.le_of_ble_eq_true rfl) (Nat.le_of_ble_eq_true rfl) (by omega)
  · have hf := ky_neg c1 hf
    refine ky_iload_n (n := 5) dX3_needSite_4 rfl rfl 0 rfl ?_
    refine ky_bipush (v := (6 : Int32)) (n := 7) dX3_needSite_5 rfl rfl ?_
    refine ky_icmp_lt (n := 10) (tgt := 21) dX3_needSite_7 rfl rfl (fun c2 => ?_) (fun c2 => ?_)
    · have hf := ky_pos c2 hf
      cases hf
      exact ky_return dX3_needSite_21 rfl
    · have hf := ky_neg c2 hf
      cases hf
      exact ky_throwW (text := "there is no such site") okX_ky_ex3 rfl wc_X3_291 (by decide +kernel) dX3_needSite_10 dX3_needSite_13 dX3_needSite_14 dX3_needSite_17 dX3_needSite_20 rfl (Nat.le_of_ble_eq_true rfl) (Nat.le_of_ble_eq_true rfl) (Nat.le_of_ble_eq_true rfl) (by omega)
def fX3_hire (a1 : Int32) (a2 : Int32) (σ : ky_St) : Option ((String ⊕ Int32) × ky_St) :=
  ky_bx (fX3_needSite a1 σ) fun v3 s1 =>
  if a2 < (1 : Int32) then (
  some (.inl ky_ex1, s1)) else (
  if a2 ≤ (24 : Int32) then (
  ky_bd (fX0_wholeInYard s1) fun v9 s7 =>
  if a2 ≤ v9 then (
  ky_bd (fX1_keep s7) fun v13 s11 =>
  ky_bd (fX0_hireOut a1 a2 s11) fun v16 s14 =>
  ky_bd (fX0_wholeInYard s14) fun v19 s17 =>
  some (.inr v19, s17)) else (
  some (.inl ky_ex2, s7))) else (
  some (.inl ky_ex1, s1)))
set_option maxHeartbeats 4000000 in
set_option maxRecDepth 100000 in
theorem KX3_hire {G : ky_G} (d : Nat) (a1 : Int32) (a2 : Int32) (σ : ky_St) (r : (String ⊕ Int32)) (σ' : ky_St) (hf : fX3_hire a1 a2 σ = some (r, σ')) : ky_K G mX3_hire (d + 7) 2 12 [ky_r G 0, .int a1, .int a2] σ (ky_oi r) σ' := by
  unfold fX3_hire at hf
  refine ky_enter rfl (by decide +kernel) (Nat.le_of_ble_eq_true rfl) (lv := [(0, ky_r G 0), (1, .int a1), (2, .int a2)]) rfl ?_
  refine ky_iload_n (n := 1) dX3_hire_0 rfl rfl 1 rfl ?_
  rcases ky_bx_e hf with ⟨E4, h2, eE4⟩ | ⟨v3, s1, h2, hf⟩
  · subst eE4
    exact ky_callSX (kc := 1) (ks := 6) (kc2 := 1) (ks2 := 6) (as := [.int a1]) (st := []) (KX3_needSite d a1 σ _ _ h2) okX3_needSite wl_X3_101 rfl rfl (Nat.le_of_ble_eq_true rfl) dX3_hire_1 rfl
  · refine ky_callS (kc := 1) (ks := 6) (kc2 := 1) (ks2 := 6) (as := [.int a1]) (st := []) (KX3_needSite d a1 σ _ _ h2) okX3_needSite wl_X3_101 rfl rfl (Nat.le_of_ble_eq_true rfl) dX3_hire_1 rfl ?_
    refine ky_iload_n (n := 5) dX3_hire_4 rfl rfl 2 rfl ?_
    refine ky_iconst (v := (1 : Int32)) (n := 6) dX3_hire_5 rfl rfl ?_
    refine ky_icmp_lt (n := 9) (tgt := 15) dX3_hire_6 rfl rfl (fun c5 => ?_) (fun c5 => ?_)
    · have hf := ky_pos c5 hf
      cases hf
      exact ky_throw (text := "many is out of range") okX_ky_ex1 rfl wc_X3_34 (by decide +kernel) dX3_hire_15 dX3_hire_18 dX3_hire_19 dX3_hire_21 dX3_hire_24 rfl (Nat.le_of_ble_eq_true rfl) (Nat.le_of_ble_eq_true rfl) (Nat.le_of_ble_eq_true rfl) (by omega)
    · have hf := ky_neg c5 hf
      refine ky_iload_n (n := 10) dX3_hire_9 rfl rfl 2 rfl ?_
      refine ky_bipush (v := (24 : Int32)) (n := 12) dX3_hire_10 rfl rfl ?_
      refine ky_icmp_le (n := 15) (tgt := 25) dX3_hire_12 rfl rfl (fun c6 => ?_) (fun c6 => ?_)
      · have hf := ky_pos c6 hf
        refine ky_aload_n (n := 26) dX3_hire_25 rfl rfl 0 rfl ?_
        refine ky_getf (q := (RX3, TX3, 4)) (v := ky_r G 20) (n := 29) dX3_hire_26 rfl kc_0 rfl (Nat.le_of_ble_eq_true rfl) wg_X3_10 (vf_0_0 _ _) ?_
        obtain ⟨v9, s7, h8, hf⟩ := ky_bd_e hf
        refine ky_callV (kc := 1) (ks := 6) (kc2 := 0) (ks2 := 0) (k0 := 20) (as := []) (st := []) (KX0_wholeInYard (d + 4) s1 _ _ h8) okX0_wholeInYard wl_X3_104 kc_20 (q := (RX0, TX0, 17)) rfl rfl rfl rfl (Nat.le_of_ble_eq_true rfl) dX3_hire_29 rfl ?_
        refine ky_iload_n (n := 33) dX3_hire_32 rfl rfl 2 rfl ?_
        refine ky_icmp_ge (n := 36) (tgt := 46) dX3_hire_33 rfl rfl (fun c10 => ?_) (fun c10 => ?_)
        · have hf := ky_pos c10 hf
          refine ky_aload_n (n := 47) dX3_hire_46 rfl rfl 0 rfl ?_
          refine ky_getf (q := (RX3, TX3, 4)) (v := ky_r G 2) (n := 50) dX3_hire_47 rfl kc_0 rfl (Nat.le_of_ble_eq_true rfl) wg_X3_19 (vf_0_1 _ _) ?_
          refine ky_aload_n (n := 51) dX3_hire_50 rfl rfl 0 rfl ?_
          refine ky_getf (q := (RX3, TX3, 4)) (v := ky_r G 20) (n := 54) dX3_hire_51 rfl kc_0 rfl (Nat.le_of_ble_eq_true rfl) wg_X3_10 (vf_0_0 _ _) ?_
          obtain ⟨v13, s11, h12, hf⟩ := ky_bd_e hf
          refine ky_callV (kc := 1) (ks := 6) (kc2 := 0) (ks2 := 0) (k0 := 2) (as := [ky_r G 20]) (st := []) (KX1_keep (d + 3) s7 _ _ h12) okX1_keep wl_X3_50 kc_2 (q := (RX1, TX1, 3)) rfl rfl rfl rfl (Nat.le_of_ble_eq_true rfl) dX3_hire_54 rfl ?_
          refine ky_aload_n (n := 58) dX3_hire_57 rfl rfl 0 rfl ?_
          refine ky_getf (q := (RX3, TX3, 4)) (v := ky_r G 20) (n := 61) dX3_hire_58 rfl kc_0 rfl (Nat.le_of_ble_eq_true rfl) wg_X3_10 (vf_0_0 _ _) ?_
          refine ky_iload_n (n := 62) dX3_hire_61 rfl rfl 1 rfl ?_
          refine ky_iload_n (n := 63) dX3_hire_62 rfl rfl 2 rfl ?_
          obtain ⟨v16, s14, h15, hf⟩ := ky_bd_e hf
          refine ky_callV (kc := 1) (ks := 6) (kc2 := 0) (ks2 := 0) (k0 := 20) (as := [.int a1, .int a2]) (st := []) (KX0_hireOut (d + 3) a1 a2 s11 _ _ h15) okX0_hireOut wl_X3_110 kc_20 (q := (RX0, TX0, 17)) rfl rfl rfl rfl (Nat.le_of_ble_eq_true rfl) dX3_hire_63 rfl ?_
          refine ky_aload_n (n := 67) dX3_hire_66 rfl rfl 0 rfl ?_
          refine ky_getf (q := (RX3, TX3, 4)) (v := ky_r G 20) (n := 70) dX3_hire_67 rfl kc_0 rfl (Nat.le_of_ble_eq_true rfl) wg_X3_10 (vf_0_0 _ _) ?_
          obtain ⟨v19, s17, h18, hf⟩ := ky_bd_e hf
          refine ky_callV (kc := 1) (ks := 6) (kc2 := 0) (ks2 := 0) (k0 := 20) (as := []) (st := []) (KX0_wholeInYard (d + 4) s14 _ _ h18) okX0_wholeInYard wl_X3_104 kc_20 (q := (RX0, TX0, 17)) rfl rfl rfl rfl (Nat.le_of_ble_eq_true rfl) dX3_hire_70 rfl ?_
          cases hf
          exact ky_ireturn dX3_hire_73 rfl
        · have hf := ky_neg c10 hf
          cases hf
          exact ky_throw (text := "there are not so many whole sets in the yard") okX_ky_ex2 rfl wc_X3_45 (by decide +kernel) dX3_hire_36 dX3_hire_39 dX3_hire_40 dX3_hire_42 dX3_hire_45 rfl (Nat.le_of_ble_eq_true rfl) (Nat.le_of_ble_eq_true rfl) (Nat.le_of_ble_eq_true rfl) (by omega)
      · have hf := ky_neg c6 hf
        cases hf
        exact ky_throw (text := "many is out of range") okX_ky_ex1 rfl wc_X3_34 (by decide +kernel) dX3_hire_15 dX3_hire_18 dX3_hire_19 dX3_hire_21 dX3_hire_24 rfl (Nat.le_of_ble_eq_true rfl) (Nat.le_of_ble_eq_true rfl) (Nat.le_of_ble_eq_true rfl) (by omega)
def fX3_moveOn (a1 : Int32) (a2 : Int32) (σ : ky_St) : Option ((String ⊕ Int32) × ky_St) :=
  ky_bx (fX3_needSet a1 σ) fun v3 s1 =>
  ky_bx (fX3_needSite a2 s1) fun v7 s5 =>
  ky_bd (fX0_canMove a1 a2 s5) fun v11 s9 =>
  if v11 = 0 then (
  some (.inl ky_ex2, s9)) else (
  ky_bd (fX1_keep s9) fun v15 s13 =>
  ky_bd (fX0_moveTo a1 a2 s13) fun v18 s16 =>
  some (.inr v18, s16))
set_option maxHeartbeats 4000000 in
set_option maxRecDepth 100000 in
theorem KX3_moveOn {G : ky_G} (d : Nat) (a1 : Int32) (a2 : Int32) (σ : ky_St) (r : (String ⊕ Int32)) (σ' : ky_St) (hf : fX3_moveOn a1 a2 σ = some (r, σ')) : ky_K G mX3_moveOn (d + 7) 3 18 [ky_r G 0, .int a1, .int a2] σ (ky_oi r) σ' := by
  unfold fX3_moveOn at hf
  refine ky_enter rfl (by decide +kernel) (Nat.le_of_ble_eq_true rfl) (lv := [(0, ky_r G 0), (1, .int a1), (2, .int a2)]) rfl ?_
  refine ky_aload_n (n := 1) dX3_moveOn_0 rfl rfl 0 rfl ?_
  refine ky_iload_n (n := 2) dX3_moveOn_1 rfl rfl 1 rfl ?_
  rcases ky_bx_e hf with ⟨E4, h2, eE4⟩ | ⟨v3, s1, h2, hf⟩
  · subst eE4
    exact ky_callVX (kc := 2) (ks := 12) (kc2 := 1) (ks2 := 6) (k0 := 0) (as := [.int a1]) (st := []) (KX3_needSet d a1 σ _ _ h2) okX3_needSet wl_X3_74 kc_0 (q := (RX3, TX3, 4)) rfl rfl rfl rfl (Nat.le_of_ble_eq_true rfl) dX3_moveOn_2 rfl
  · refine ky_callV (kc := 2) (ks := 12) (kc2 := 1) (ks2 := 6) (k0 := 0) (as := [.int a1]) (st := []) (KX3_needSet d a1 σ _ _ h2) okX3_needSet wl_X3_74 kc_0 (q := (RX3, TX3, 4)) rfl rfl rfl rfl (Nat.le_of_ble_eq_true rfl) dX3_moveOn_2 rfl ?_
    refine ky_iload_n (n := 6) dX3_moveOn_5 rfl rfl 2 rfl ?_
    rcases ky_bx_e hf with ⟨E8, h6, eE8⟩ | ⟨v7, s5, h6, hf⟩
    · subst eE8
      exact ky_callSX (kc := 1) (ks := 6) (kc2 := 1) (ks2 := 6) (as := [.int a2]) (st := []) (KX3_needSite d a2 s1 _ _ h6) okX3_needSite wl_X3_101 rfl rfl (Nat.le_of_ble_eq_true rfl) dX3_moveOn_6 rfl
    · refine ky_callS (kc := 1) (ks := 6) (kc2 := 1) (ks2 := 6) (as := [.int a2]) (st := []) (KX3_needSite d a2 s1 _ _ h6) okX3_needSite wl_X3_101 rfl rfl (Nat.le_of_ble_eq_true rfl) dX3_moveOn_6 rfl ?_
      refine ky_aload_n (n := 10) dX3_moveOn_9 rfl rfl 0 rfl ?_
      refine ky_getf (q := (RX3, TX3, 4)) (v := ky_r G 20) (n := 13) dX3_moveOn_10 rfl kc_0 rfl (Nat.le_of_ble_eq_true rfl) wg_X3_10 (vf_0_0 _ _) ?_
      refine ky_iload_n (n := 14) dX3_moveOn_13 rfl rfl 1 rfl ?_
      refine ky_iload_n (n := 15) dX3_moveOn_14 rfl rfl 2 rfl ?_
      obtain ⟨v11, s9, h10, hf⟩ := ky_bd_e hf
      refine ky_callV (kc := 1) (ks := 6) (kc2 := 0) (ks2 := 0) (k0 := 20) (as := [.int a1, .int a2]) (st := []) (KX0_canMove (d + 3) a1 a2 s5 _ _ h10) okX0_canMove wl_X3_113 kc_20 (q := (RX0, TX0, 17)) rfl rfl rfl rfl (Nat.le_of_ble_eq_true rfl) dX3_moveOn_15 rfl ?_
      refine ky_if_ne (n := 21) (tgt := 31) dX3_moveOn_18 rfl rfl (fun c12 => ?_) (fun c12 => ?_)
      · have hf := ky_neg c12 hf
        refine ky_aload_n (n := 32) dX3_moveOn_31 rfl rfl 0 rfl ?_
        refine ky_getf (q := (RX3, TX3, 4)) (v := ky_r G 2) (n := 35) dX3_moveOn_32 rfl kc_0 rfl (Nat.le_of_ble_eq_true rfl) wg_X3_19 (vf_0_1 _ _) ?_
        refine ky_aload_n (n := 36) dX3_moveOn_35 rfl rfl 0 rfl ?_
        refine ky_getf (q := (RX3, TX3, 4)) (v := ky_r G 20) (n := 39) dX3_moveOn_36 rfl kc_0 rfl (Nat.le_of_ble_eq_true rfl) wg_X3_10 (vf_0_0 _ _) ?_
        obtain ⟨v15, s13, h14, hf⟩ := ky_bd_e hf
        refine ky_callV (kc := 1) (ks := 6) (kc2 := 0) (ks2 := 0) (k0 := 2) (as := [ky_r G 20]) (st := []) (KX1_keep (d + 3) s9 _ _ h14) okX1_keep wl_X3_50 kc_2 (q := (RX1, TX1, 3)) rfl rfl rfl rfl (Nat.le_of_ble_eq_true rfl) dX3_moveOn_39 rfl ?_
        refine ky_aload_n (n := 43) dX3_moveOn_42 rfl rfl 0 rfl ?_
        refine ky_getf (q := (RX3, TX3, 4)) (v := ky_r G 20) (n := 46) dX3_moveOn_43 rfl kc_0 rfl (Nat.le_of_ble_eq_true rfl) wg_X3_10 (vf_0_0 _ _) ?_
        refine ky_iload_n (n := 47) dX3_moveOn_46 rfl rfl 1 rfl ?_
        refine ky_iload_n (n := 48) dX3_moveOn_47 rfl rfl 2 rfl ?_
        obtain ⟨v18, s16, h17, hf⟩ := ky_bd_e hf
        refine ky_callV (kc := 1) (ks := 6) (kc2 := 0) (ks2 := 0) (k0 := 20) (as := [.int a1, .int a2]) (st := []) (KX0_moveTo (d + 3) a1 a2 s13 _ _ h17) okX0_moveTo wl_X3_119 kc_20 (q := (RX0, TX0, 17)) rfl rfl rfl rfl (Nat.le_of_ble_eq_true rfl) dX3_moveOn_48 rfl ?_
        cases hf
        exact ky_ireturn dX3_moveOn_51 rfl
      · have hf := ky_pos c12 hf
        cases hf
        exact ky_throw (text := "the set is in the yard or on this site") okX_ky_ex2 rfl wc_X3_45 (by decide +kernel) dX3_moveOn_21 dX3_moveOn_24 dX3_moveOn_25 dX3_moveOn_27 dX3_moveOn_30 rfl (Nat.le_of_ble_eq_true rfl) (Nat.le_of_ble_eq_true rfl) (Nat.le_of_ble_eq_true rfl) (by omega)
def fX3_needOnSite (a1 : Int32) (σ : ky_St) : Option ((String ⊕ Unit) × ky_St) :=
  ky_bd (fX0_isOnSite a1 σ) fun v3 s1 =>
  if v3 = 0 then (
  some (.inl ky_ex2, s1)) else (
  some (.inr (), s1))
set_option maxHeartbeats 4000000 in
set_option maxRecDepth 100000 in
theorem KX3_needOnSite {G : ky_G} (d : Nat) (a1 : Int32) (σ : ky_St) (r : (String ⊕ Unit)) (σ' : ky_St) (hf : fX3_needOnSite a1 σ = some (r, σ')) : ky_K G mX3_needOnSite (d + 6) 1 6 [ky_r G 0, .int a1] σ (ky_ou r) σ' := by
  unfold fX3_needOnSite at hf
  refine ky_enter rfl (by decide +kernel) (Nat.le_of_ble_eq_true rfl) (lv := [(0, ky_r G 0), (1, .int a1)]) rfl ?_
  refine ky_aload_n (n := 1) dX3_needOnSite_0 rfl rfl 0 rfl ?_
  refine ky_getf (q := (RX3, TX3, 4)) (v := ky_r G 20) (n := 4) dX3_needOnSite_1 rfl kc_0 rfl (Nat.le_of_ble_eq_true rfl) wg_X3_10 (vf_0_0 _ _) ?_
  refine ky_iload_n (n := 5) dX3_needOnSite_4 rfl rfl 1 rfl ?_
  obtain ⟨v3, s1, h2, hf⟩ := ky_bd_e hf
  refine ky_callV (kc := 1) (ks := 6) (kc2 := 0) (ks2 := 0) (k0 := 20) (as := [.int a1]) (st := []) (KX0_isOnSite (d + 4) a1 σ _ _ h2) okX0_isOnSite wl_X3_306 kc_20 (q := (RX0, TX0, 17)) rfl rfl rfl rfl (Nat.le_of_ble_eq_true rfl) dX3_needOnSite_5 rfl ?_
  refine ky_if_ne (n := 11) (tgt := 22) dX3_needOnSite_8 rfl rfl (fun c4 => ?_) (fun c4 => ?_)
  · have hf := ky_neg c4 hf
    cases hf
    exact ky_return dX3_needOnSite_22 rfl
  · have hf := ky_pos c4 hf
    cases hf
    exact ky_throwW (text := "the set is in the yard") okX_ky_ex2 rfl wc_X3_45 (by decide +kernel) dX3_needOnSite_11 dX3_needOnSite_14 dX3_needOnSite_15 dX3_needOnSite_18 dX3_needOnSite_21 rfl (Nat.le_of_ble_eq_true rfl) (Nat.le_of_ble_eq_true rfl) (Nat.le_of_ble_eq_true rfl) (by omega)
def fX3_bring (a1 : Int32) (σ : ky_St) : Option ((String ⊕ Int32) × ky_St) :=
  ky_bx (fX3_needSet a1 σ) fun v3 s1 =>
  ky_bx (fX3_needOnSite a1 s1) fun v7 s5 =>
  ky_bd (fX1_keep s5) fun v11 s9 =>
  ky_bd (fX0_takeBack a1 s9) fun v14 s12 =>
  some (.inr v14, s12)
set_option maxHeartbeats 4000000 in
set_option maxRecDepth 100000 in
theorem KX3_bring {G : ky_G} (d : Nat) (a1 : Int32) (σ : ky_St) (r : (String ⊕ Int32)) (σ' : ky_St) (hf : fX3_bring a1 σ = some (r, σ')) : ky_K G mX3_bring (d + 7) 2 12 [ky_r G 0, .int a1] σ (ky_oi r) σ' := by
  unfold fX3_bring at hf
  refine ky_enter rfl (by decide +kernel) (Nat.le_of_ble_eq_true rfl) (lv := [(0, ky_r G 0), (1, .int a1)]) rfl ?_
  refine ky_aload_n (n := 1) dX3_bring_0 rfl rfl 0 rfl ?_
  refine ky_iload_n (n := 2) dX3_bring_1 rfl rfl 1 rfl ?_
  rcases ky_bx_e hf with ⟨E4, h2, eE4⟩ | ⟨v3, s1, h2, hf⟩
  · subst eE4
    exact ky_callVX (kc := 1) (ks := 6) (kc2 := 1) (ks2 := 6) (k0 := 0) (as := [.int a1]) (st := []) (KX3_needSet d a1 σ _ _ h2) okX3_needSet wl_X3_74 kc_0 (q := (RX3, TX3, 4)) rfl rfl rfl rfl (Nat.le_of_ble_eq_true rfl) dX3_bring_2 rfl
  · refine ky_callV (kc := 1) (ks := 6) (kc2 := 1) (ks2 := 6) (k0 := 0) (as := [.int a1]) (st := []) (KX3_needSet d a1 σ _ _ h2) okX3_needSet wl_X3_74 kc_0 (q := (RX3, TX3, 4)) rfl rfl rfl rfl (Nat.le_of_ble_eq_true rfl) dX3_bring_2 rfl ?_
    refine ky_aload_n (n := 6) dX3_bring_5 rfl rfl 0 rfl ?_
    refine ky_iload_n (n := 7) dX3_bring_6 rfl rfl 1 rfl ?_
    rcases ky_bx_e hf with ⟨E8, h6, eE8⟩ | ⟨v7, s5, h6, hf⟩
    · subst eE8
      exact ky_callVX (kc := 0) (ks := 0) (kc2 := 1) (ks2 := 6) (k0 := 0) (as := [.int a1]) (st := []) (KX3_needOnSite d a1 s1 _ _ h6) okX3_needOnSite wl_X3_123 kc_0 (q := (RX3, TX3, 4)) rfl rfl rfl rfl (Nat.le_of_ble_eq_true rfl) dX3_bring_7 rfl
    · refine ky_callV (kc := 0) (ks := 0) (kc2 := 1) (ks2 := 6) (k0 := 0) (as := [.int a1]) (st := []) (KX3_needOnSite d a1 s1 _ _ h6) okX3_needOnSite wl_X3_123 kc_0 (q := (RX3, TX3, 4)) rfl rfl rfl rfl (Nat.le_of_ble_eq_true rfl) dX3_bring_7 rfl ?_
      refine ky_aload_n (n := 11) dX3_bring_10 rfl rfl 0 rfl ?_
      refine ky_getf (q := (RX3, TX3, 4)) (v := ky_r G 2) (n := 14) dX3_bring_11 rfl kc_0 rfl (Nat.le_of_ble_eq_true rfl) wg_X3_19 (vf_0_1 _ _) ?_
      refine ky_aload_n (n := 15) dX3_bring_14 rfl rfl 0 rfl ?_
      refine ky_getf (q := (RX3, TX3, 4)) (v := ky_r G 20) (n := 18) dX3_bring_15 rfl kc_0 rfl (Nat.le_of_ble_eq_true rfl) wg_X3_10 (vf_0_0 _ _) ?_
      obtain ⟨v11, s9, h10, hf⟩ := ky_bd_e hf
      refine ky_callV (kc := 0) (ks := 0) (kc2 := 0) (ks2 := 0) (k0 := 2) (as := [ky_r G 20]) (st := []) (KX1_keep (d + 3) s5 _ _ h10) okX1_keep wl_X3_50 kc_2 (q := (RX1, TX1, 3)) rfl rfl rfl rfl (Nat.le_of_ble_eq_true rfl) dX3_bring_18 rfl ?_
      refine ky_aload_n (n := 22) dX3_bring_21 rfl rfl 0 rfl ?_
      refine ky_getf (q := (RX3, TX3, 4)) (v := ky_r G 20) (n := 25) dX3_bring_22 rfl kc_0 rfl (Nat.le_of_ble_eq_true rfl) wg_X3_10 (vf_0_0 _ _) ?_
      refine ky_iload_n (n := 26) dX3_bring_25 rfl rfl 1 rfl ?_
      obtain ⟨v14, s12, h13, hf⟩ := ky_bd_e hf
      refine ky_callV (kc := 0) (ks := 0) (kc2 := 0) (ks2 := 0) (k0 := 20) (as := [.int a1]) (st := []) (KX0_takeBack (d + 3) a1 s9 _ _ h13) okX0_takeBack wl_X3_126 kc_20 (q := (RX0, TX0, 17)) rfl rfl rfl rfl (Nat.le_of_ble_eq_true rfl) dX3_bring_26 rfl ?_
      cases hf
      exact ky_ireturn dX3_bring_29 rfl
def fX3_bringShort (a1 : Int32) (a2 : Int32) (a3 : Int32) (σ : ky_St) : Option ((String ⊕ Int32) × ky_St) :=
  ky_bx (fX3_needSet a1 σ) fun v3 s1 =>
  ky_bx (fX3_needKind a2 s1) fun v7 s5 =>
  ky_bx (fX3_needAtLeastOne a3 s5) fun v11 s9 =>
  ky_bx (fX3_needOnSite a1 s9) fun v15 s13 =>
  ky_bx (fX3_needStock a1 a2 a3 s13) fun v19 s17 =>
  ky_bd (fX1_keep s17) fun v23 s21 =>
  ky_bd (fX0_takeBackShort a1 a2 a3 s21) fun v26 s24 =>
  some (.inr v26, s24)
set_option maxHeartbeats 4000000 in
set_option maxRecDepth 100000 in
theorem KX3_bringShort {G : ky_G} (d : Nat) (a1 : Int32) (a2 : Int32) (a3 : Int32) (σ : ky_St) (r : (String ⊕ Int32)) (σ' : ky_St) (hf : fX3_bringShort a1 a2 a3 σ = some (r, σ')) : ky_K G mX3_bringShort (d + 7) 5 30 [ky_r G 0, .int a1, .int a2, .int a3] σ (ky_oi r) σ' := by
  unfold fX3_bringShort at hf
  refine ky_enter rfl (by decide +kernel) (Nat.le_of_ble_eq_true rfl) (lv := [(0, ky_r G 0), (1, .int a1), (2, .int a2), (3, .int a3)]) rfl ?_
  refine ky_aload_n (n := 1) dX3_bringShort_0 rfl rfl 0 rfl ?_
  refine ky_iload_n (n := 2) dX3_bringShort_1 rfl rfl 1 rfl ?_
  rcases ky_bx_e hf with ⟨E4, h2, eE4⟩ | ⟨v3, s1, h2, hf⟩
  · subst eE4
    exact ky_callVX (kc := 4) (ks := 24) (kc2 := 1) (ks2 := 6) (k0 := 0) (as := [.int a1]) (st := []) (KX3_needSet d a1 σ _ _ h2) okX3_needSet wl_X3_74 kc_0 (q := (RX3, TX3, 4)) rfl rfl rfl rfl (Nat.le_of_ble_eq_true rfl) dX3_bringShort_2 rfl
  · refine ky_callV (kc := 4) (ks := 24) (kc2 := 1) (ks2 := 6) (k0 := 0) (as := [.int a1]) (st := []) (KX3_needSet d a1 σ _ _ h2) okX3_needSet wl_X3_74 kc_0 (q := (RX3, TX3, 4)) rfl rfl rfl rfl (Nat.le_of_ble_eq_true rfl) dX3_bringShort_2 rfl ?_
    refine ky_iload_n (n := 6) dX3_bringShort_5 rfl rfl 2 rfl ?_
    rcases ky_bx_e hf with ⟨E8, h6, eE8⟩ | ⟨v7, s5, h6, hf⟩
    · subst eE8
      exact ky_callSX (kc := 3) (ks := 18) (kc2 := 1) (ks2 := 6) (as := [.int a2]) (st := []) (KX3_needKind d a2 s1 _ _ h6) okX3_needKind wl_X3_58 rfl rfl (Nat.le_of_ble_eq_true rfl) dX3_bringShort_6 rfl
    · refine ky_callS (kc := 3) (ks := 18) (kc2 := 1) (ks2 := 6) (as := [.int a2]) (st := []) (KX3_needKind d a2 s1 _ _ h6) okX3_needKind wl_X3_58 rfl rfl (Nat.le_of_ble_eq_true rfl) dX3_bringShort_6 rfl ?_
      refine ky_iload_n (n := 10) dX3_bringShort_9 rfl rfl 3 rfl ?_
      rcases ky_bx_e hf with ⟨E12, h10, eE12⟩ | ⟨v11, s9, h10, hf⟩
      · subst eE12
        exact ky_callSX (kc := 2) (ks := 12) (kc2 := 1) (ks2 := 6) (as := [.int a3]) (st := []) (KX3_needAtLeastOne d a3 s5 _ _ h10) okX3_needAtLeastOne wl_X3_84 rfl rfl (Nat.le_of_ble_eq_true rfl) dX3_bringShort_10 rfl
      · refine ky_callS (kc := 2) (ks := 12) (kc2 := 1) (ks2 := 6) (as := [.int a3]) (st := []) (KX3_needAtLeastOne d a3 s5 _ _ h10) okX3_needAtLeastOne wl_X3_84 rfl rfl (Nat.le_of_ble_eq_true rfl) dX3_bringShort_10 rfl ?_
        refine ky_aload_n (n := 14) dX3_bringShort_13 rfl rfl 0 rfl ?_
        refine ky_iload_n (n := 15) dX3_bringShort_14 rfl rfl 1 rfl ?_
        rcases ky_bx_e hf with ⟨E16, h14, eE16⟩ | ⟨v15, s13, h14, hf⟩
        · subst eE16
          exact ky_callVX (kc := 1) (ks := 6) (kc2 := 1) (ks2 := 6) (k0 := 0) (as := [.int a1]) (st := []) (KX3_needOnSite d a1 s9 _ _ h14) okX3_needOnSite wl_X3_123 kc_0 (q := (RX3, TX3, 4)) rfl rfl rfl rfl (Nat.le_of_ble_eq_true rfl) dX3_bringShort_15 rfl
        · refine ky_callV (kc := 1) (ks := 6) (kc2 := 1) (ks2 := 6) (k0 := 0) (as := [.int a1]) (st := []) (KX3_needOnSite d a1 s9 _ _ h14) okX3_needOnSite wl_X3_123 kc_0 (q := (RX3, TX3, 4)) rfl rfl rfl rfl (Nat.le_of_ble_eq_true rfl) dX3_bringShort_15 rfl ?_
          refine ky_aload_n (n := 19) dX3_bringShort_18 rfl rfl 0 rfl ?_
          refine ky_iload_n (n := 20) dX3_bringShort_19 rfl rfl 1 rfl ?_
          refine ky_iload_n (n := 21) dX3_bringShort_20 rfl rfl 2 rfl ?_
          refine ky_iload_n (n := 22) dX3_bringShort_21 rfl rfl 3 rfl ?_
          rcases ky_bx_e hf with ⟨E20, h18, eE20⟩ | ⟨v19, s17, h18, hf⟩
          · subst eE20
            exact ky_callVX (kc := 0) (ks := 0) (kc2 := 1) (ks2 := 6) (k0 := 0) (as := [.int a1, .int a2, .int a3]) (st := []) (KX3_needStock d a1 a2 a3 s13 _ _ h18) okX3_needStock wl_X3_87 kc_0 (q := (RX3, TX3, 4)) rfl rfl rfl rfl (Nat.le_of_ble_eq_true rfl) dX3_bringShort_22 rfl
          · refine ky_callV (kc := 0) (ks := 0) (kc2 := 1) (ks2 := 6) (k0 := 0) (as := [.int a1, .int a2, .int a3]) (st := []) (KX3_needStock d a1 a2 a3 s13 _ _ h18) okX3_needStock wl_X3_87 kc_0 (q := (RX3, TX3, 4)) rfl rfl rfl rfl (Nat.le_of_ble_eq_true rfl) dX3_bringShort_22 rfl ?_
            refine ky_aload_n (n := 26) dX3_bringShort_25 rfl rfl 0 rfl ?_
            refine ky_getf (q := (RX3, TX3, 4)) (v := ky_r G 2) (n := 29) dX3_bringShort_26 rfl kc_0 rfl (Nat.le_of_ble_eq_true rfl) wg_X3_19 (vf_0_1 _ _) ?_
            refine ky_aload_n (n := 30) dX3_bringShort_29 rfl rfl 0 rfl ?_
            refine ky_getf (q := (RX3, TX3, 4)) (v := ky_r G 20) (n := 33) dX3_bringShort_30 rfl kc_0 rfl (Nat.le_of_ble_eq_true rfl) wg_X3_10 (vf_0_0 _ _) ?_
            obtain ⟨v23, s21, h22, hf⟩ := ky_bd_e hf
            refine ky_callV (kc := 0) (ks := 0) (kc2 := 0) (ks2 := 0) (k0 := 2) (as := [ky_r G 20]) (st := []) (KX1_keep (d + 3) s17 _ _ h22) okX1_keep wl_X3_50 kc_2 (q := (RX1, TX1, 3)) rfl rfl rfl rfl (Nat.le_of_ble_eq_true rfl) dX3_bringShort_33 rfl ?_
            refine ky_aload_n (n := 37) dX3_bringShort_36 rfl rfl 0 rfl ?_
            refine ky_getf (q := (RX3, TX3, 4)) (v := ky_r G 20) (n := 40) dX3_bringShort_37 rfl kc_0 rfl (Nat.le_of_ble_eq_true rfl) wg_X3_10 (vf_0_0 _ _) ?_
            refine ky_iload_n (n := 41) dX3_bringShort_40 rfl rfl 1 rfl ?_
            refine ky_iload_n (n := 42) dX3_bringShort_41 rfl rfl 2 rfl ?_
            refine ky_iload_n (n := 43) dX3_bringShort_42 rfl rfl 3 rfl ?_
            obtain ⟨v26, s24, h25, hf⟩ := ky_bd_e hf
            refine ky_callV (kc := 0) (ks := 0) (kc2 := 0) (ks2 := 0) (k0 := 20) (as := [.int a1, .int a2, .int a3]) (st := []) (KX0_takeBackShort (d + 2) a1 a2 a3 s21 _ _ h25) okX0_takeBackShort wl_X3_129 kc_20 (q := (RX0, TX0, 17)) rfl rfl rfl rfl (Nat.le_of_ble_eq_true rfl) dX3_bringShort_43 rfl ?_
            cases hf
            exact ky_ireturn dX3_bringShort_46 rfl
def fX3_pay (a1 : Int32) (a2 : Int32) (σ : ky_St) : Option ((String ⊕ Int32) × ky_St) :=
  ky_bx (fX3_needSite a1 σ) fun v3 s1 =>
  if a2 < (1 : Int32) then (
  some (.inl ky_ex1, s1)) else (
  if a2 ≤ (9999 : Int32) then (
  ky_bd (fX0_billOf a1 s1) fun v9 s7 =>
  if a2 ≤ v9 then (
  ky_bd (fX1_keep s7) fun v13 s11 =>
  ky_bd (fX3_add 32 a1 a2 s11) fun v16 s14 =>
  ky_bd (fX0_billOf a1 s14) fun v19 s17 =>
  some (.inr v19, s17)) else (
  some (.inl ky_ex2, s7))) else (
  some (.inl ky_ex1, s1)))
set_option maxHeartbeats 4000000 in
set_option maxRecDepth 100000 in
theorem KX3_pay {G : ky_G} (d : Nat) (a1 : Int32) (a2 : Int32) (σ : ky_St) (r : (String ⊕ Int32)) (σ' : ky_St) (hf : fX3_pay a1 a2 σ = some (r, σ')) : ky_K G mX3_pay (d + 7) 2 12 [ky_r G 0, .int a1, .int a2] σ (ky_oi r) σ' := by
  unfold fX3_pay at hf
  refine ky_enter rfl (by decide +kernel) (Nat.le_of_ble_eq_true rfl) (lv := [(0, ky_r G 0), (1, .int a1), (2, .int a2)]) rfl ?_
  refine ky_iload_n (n := 1) dX3_pay_0 rfl rfl 1 rfl ?_
  rcases ky_bx_e hf with ⟨E4, h2, eE4⟩ | ⟨v3, s1, h2, hf⟩
  · subst eE4
    exact ky_callSX (kc := 1) (ks := 6) (kc2 := 1) (ks2 := 6) (as := [.int a1]) (st := []) (KX3_needSite d a1 σ _ _ h2) okX3_needSite wl_X3_101 rfl rfl (Nat.le_of_ble_eq_true rfl) dX3_pay_1 rfl
  · refine ky_callS (kc := 1) (ks := 6) (kc2 := 1) (ks2 := 6) (as := [.int a1]) (st := []) (KX3_needSite d a1 σ _ _ h2) okX3_needSite wl_X3_101 rfl rfl (Nat.le_of_ble_eq_true rfl) dX3_pay_1 rfl ?_
    refine ky_iload_n (n := 5) dX3_pay_4 rfl rfl 2 rfl ?_
    refine ky_iconst (v := (1 : Int32)) (n := 6) dX3_pay_5 rfl rfl ?_
    refine ky_icmp_lt (n := 9) (tgt := 16) dX3_pay_6 rfl rfl (fun c5 => ?_) (fun c5 => ?_)
    · have hf := ky_pos c5 hf
      cases hf
      exact ky_throw (text := "money is out of range") okX_ky_ex1 rfl wc_X3_34 (by decide +kernel) dX3_pay_16 dX3_pay_19 dX3_pay_20 dX3_pay_22 dX3_pay_25 rfl (Nat.le_of_ble_eq_true rfl) (Nat.le_of_ble_eq_true rfl) (Nat.le_of_ble_eq_true rfl) (by omega)
    · have hf := ky_neg c5 hf
      refine ky_iload_n (n := 10) dX3_pay_9 rfl rfl 2 rfl ?_
      refine ky_sipush (v := (9999 : Int32)) (n := 13) dX3_pay_10 rfl rfl ?_
      refine ky_icmp_le (n := 16) (tgt := 26) dX3_pay_13 rfl rfl (fun c6 => ?_) (fun c6 => ?_)
      · have hf := ky_pos c6 hf
        refine ky_aload_n (n := 27) dX3_pay_26 rfl rfl 0 rfl ?_
        refine ky_getf (q := (RX3, TX3, 4)) (v := ky_r G 20) (n := 30) dX3_pay_27 rfl kc_0 rfl (Nat.le_of_ble_eq_true rfl) wg_X3_10 (vf_0_0 _ _) ?_
        refine ky_iload_n (n := 31) dX3_pay_30 rfl rfl 1 rfl ?_
        obtain ⟨v9, s7, h8, hf⟩ := ky_bd_e hf
        refine ky_callV (kc := 1) (ks := 6) (kc2 := 0) (ks2 := 0) (k0 := 20) (as := [.int a1]) (st := []) (KX0_billOf (d + 4) a1 s1 _ _ h8) okX0_billOf wl_X3_134 kc_20 (q := (RX0, TX0, 17)) rfl rfl rfl rfl (Nat.le_of_ble_eq_true rfl) dX3_pay_31 rfl ?_
        refine ky_iload_n (n := 35) dX3_pay_34 rfl rfl 2 rfl ?_
        refine ky_icmp_ge (n := 38) (tgt := 48) dX3_pay_35 rfl rfl (fun c10 => ?_) (fun c10 => ?_)
        · have hf := ky_pos c10 hf
          refine ky_aload_n (n := 49) dX3_pay_48 rfl rfl 0 rfl ?_
          refine ky_getf (q := (RX3, TX3, 4)) (v := ky_r G 2) (n := 52) dX3_pay_49 rfl kc_0 rfl (Nat.le_of_ble_eq_true rfl) wg_X3_19 (vf_0_1 _ _) ?_
          refine ky_aload_n (n := 53) dX3_pay_52 rfl rfl 0 rfl ?_
          refine ky_getf (q := (RX3, TX3, 4)) (v := ky_r G 20) (n := 56) dX3_pay_53 rfl kc_0 rfl (Nat.le_of_ble_eq_true rfl) wg_X3_10 (vf_0_0 _ _) ?_
          obtain ⟨v13, s11, h12, hf⟩ := ky_bd_e hf
          refine ky_callV (kc := 1) (ks := 6) (kc2 := 0) (ks2 := 0) (k0 := 2) (as := [ky_r G 20]) (st := []) (KX1_keep (d + 3) s7 _ _ h12) okX1_keep wl_X3_50 kc_2 (q := (RX1, TX1, 3)) rfl rfl rfl rfl (Nat.le_of_ble_eq_true rfl) dX3_pay_56 rfl ?_
          refine ky_aload_n (n := 60) dX3_pay_59 rfl rfl 0 rfl ?_
          refine ky_getf (q := (RX3, TX3, 4)) (v := ky_r G 20) (n := 63) dX3_pay_60 rfl kc_0 rfl (Nat.le_of_ble_eq_true rfl) wg_X3_10 (vf_0_0 _ _) ?_
          refine ky_getf (q := (RX0, TX0, 17)) (v := ky_r G 32) (n := 66) dX3_pay_63 rfl kc_20 rfl (Nat.le_of_ble_eq_true rfl) wg_X3_139 (vf_20_16 _ _) ?_
          refine ky_iload_n (n := 67) dX3_pay_66 rfl rfl 1 rfl ?_
          refine ky_iload_n (n := 68) dX3_pay_67 rfl rfl 2 rfl ?_
          obtain ⟨v16, s14, h15, hf⟩ := ky_bd_e hf
          refine ky_callS (kc := 1) (ks := 6) (kc2 := 0) (ks2 := 0) (as := [ky_r G 32, .int a1, .int a2]) (st := []) (KX3_add (d + 5) 32 a1 a2 s11 _ _ h15) okX3_add wl_X3_142 rfl rfl (Nat.le_of_ble_eq_true rfl) dX3_pay_68 rfl ?_
          refine ky_aload_n (n := 72) dX3_pay_71 rfl rfl 0 rfl ?_
          refine ky_getf (q := (RX3, TX3, 4)) (v := ky_r G 20) (n := 75) dX3_pay_72 rfl kc_0 rfl (Nat.le_of_ble_eq_true rfl) wg_X3_10 (vf_0_0 _ _) ?_
          refine ky_iload_n (n := 76) dX3_pay_75 rfl rfl 1 rfl ?_
          obtain ⟨v19, s17, h18, hf⟩ := ky_bd_e hf
          refine ky_callV (kc := 1) (ks := 6) (kc2 := 0) (ks2 := 0) (k0 := 20) (as := [.int a1]) (st := []) (KX0_billOf (d + 4) a1 s14 _ _ h18) okX0_billOf wl_X3_134 kc_20 (q := (RX0, TX0, 17)) rfl rfl rfl rfl (Nat.le_of_ble_eq_true rfl) dX3_pay_76 rfl ?_
          cases hf
          exact ky_ireturn dX3_pay_79 rfl
        · have hf := ky_neg c10 hf
          cases hf
          exact ky_throw (text := "the bill is less than that") okX_ky_ex2 rfl wc_X3_45 (by decide +kernel) dX3_pay_38 dX3_pay_41 dX3_pay_42 dX3_pay_44 dX3_pay_47 rfl (Nat.le_of_ble_eq_true rfl) (Nat.le_of_ble_eq_true rfl) (Nat.le_of_ble_eq_true rfl) (by omega)
      · have hf := ky_neg c6 hf
        cases hf
        exact ky_throw (text := "money is out of range") okX_ky_ex1 rfl wc_X3_34 (by decide +kernel) dX3_pay_16 dX3_pay_19 dX3_pay_20 dX3_pay_22 dX3_pay_25 rfl (Nat.le_of_ble_eq_true rfl) (Nat.le_of_ble_eq_true rfl) (Nat.le_of_ble_eq_true rfl) (by omega)
def fX3_pass (a1 : Int32) (σ : ky_St) : Option ((String ⊕ Int32) × ky_St) :=
  if a1 < (1 : Int32) then (
  some (.inl ky_ex1, σ)) else (
  if a1 ≤ (99 : Int32) then (
  ky_bd (fX0_canPass a1 σ) fun v5 s3 =>
  if v5 = 0 then (
  some (.inl ky_ex2, s3)) else (
  ky_bd (fX1_keep s3) fun v9 s7 =>
  ky_bn (ky_u1 s7 20 1 ((s7.1 20 1) + a1)) fun s10 =>
  some (.inr (s10.1 20 1), s10))) else (
  some (.inl ky_ex1, σ)))
set_option maxHeartbeats 4000000 in
set_option maxRecDepth 100000 in
theorem KX3_pass {G : ky_G} (d : Nat) (a1 : Int32) (σ : ky_St) (r : (String ⊕ Int32)) (σ' : ky_St) (hf : fX3_pass a1 σ = some (r, σ')) : ky_K G mX3_pass (d + 6) 1 6 [ky_r G 0, .int a1] σ (ky_oi r) σ' := by
  unfold fX3_pass at hf
  refine ky_enter rfl (by decide +kernel) (Nat.le_of_ble_eq_true rfl) (lv := [(0, ky_r G 0), (1, .int a1)]) rfl ?_
  refine ky_iload_n (n := 1) dX3_pass_0 rfl rfl 1 rfl ?_
  refine ky_iconst (v := (1 : Int32)) (n := 2) dX3_pass_1 rfl rfl ?_
  refine ky_icmp_lt (n := 5) (tgt := 11) dX3_pass_2 rfl rfl (fun c1 => ?_) (fun c1 => ?_)
  · have hf := ky_pos c1 hf
    cases hf
    exact ky_throw (text := "days is out of range") okX_ky_ex1 rfl wc_X3_34 (by decide +kernel) dX3_pass_11 dX3_pass_14 dX3_pass_15 dX3_pass_17 dX3_pass_20 rfl (Nat.le_of_ble_eq_true rfl) (Nat.le_of_ble_eq_true rfl) (Nat.le_of_ble_eq_true rfl) (by omega)
  · have hf := ky_neg c1 hf
    refine ky_iload_n (n := 6) dX3_pass_5 rfl rfl 1 rfl ?_
    refine ky_bipush (v := (99 : Int32)) (n := 8) dX3_pass_6 rfl rfl ?_
    refine ky_icmp_le (n := 11) (tgt := 21) dX3_pass_8 rfl rfl (fun c2 => ?_) (fun c2 => ?_)
    · have hf := ky_pos c2 hf
      refine ky_aload_n (n := 22) dX3_pass_21 rfl rfl 0 rfl ?_
      refine ky_getf (q := (RX3, TX3, 4)) (v := ky_r G 20) (n := 25) dX3_pass_22 rfl kc_0 rfl (Nat.le_of_ble_eq_true rfl) wg_X3_10 (vf_0_0 _ _) ?_
      refine ky_iload_n (n := 26) dX3_pass_25 rfl rfl 1 rfl ?_
      obtain ⟨v5, s3, h4, hf⟩ := ky_bd_e hf
      refine ky_callV (kc := 1) (ks := 6) (kc2 := 0) (ks2 := 0) (k0 := 20) (as := [.int a1]) (st := []) (KX0_canPass (d + 5) a1 σ _ _ h4) okX0_canPass wl_X3_148 kc_20 (q := (RX0, TX0, 17)) rfl rfl rfl rfl (Nat.le_of_ble_eq_true rfl) dX3_pass_26 rfl ?_
      refine ky_if_ne (n := 32) (tgt := 42) dX3_pass_29 rfl rfl (fun c6 => ?_) (fun c6 => ?_)
      · have hf := ky_neg c6 hf
        refine ky_aload_n (n := 43) dX3_pass_42 rfl rfl 0 rfl ?_
        refine ky_getf (q := (RX3, TX3, 4)) (v := ky_r G 2) (n := 46) dX3_pass_43 rfl kc_0 rfl (Nat.le_of_ble_eq_true rfl) wg_X3_19 (vf_0_1 _ _) ?_
        refine ky_aload_n (n := 47) dX3_pass_46 rfl rfl 0 rfl ?_
        refine ky_getf (q := (RX3, TX3, 4)) (v := ky_r G 20) (n := 50) dX3_pass_47 rfl kc_0 rfl (Nat.le_of_ble_eq_true rfl) wg_X3_10 (vf_0_0 _ _) ?_
        obtain ⟨v9, s7, h8, hf⟩ := ky_bd_e hf
        refine ky_callV (kc := 1) (ks := 6) (kc2 := 0) (ks2 := 0) (k0 := 2) (as := [ky_r G 20]) (st := []) (KX1_keep (d + 2) s3 _ _ h8) okX1_keep wl_X3_50 kc_2 (q := (RX1, TX1, 3)) rfl rfl rfl rfl (Nat.le_of_ble_eq_true rfl) dX3_pass_50 rfl ?_
        refine ky_aload_n (n := 54) dX3_pass_53 rfl rfl 0 rfl ?_
        refine ky_getf (q := (RX3, TX3, 4)) (v := ky_r G 20) (n := 57) dX3_pass_54 rfl kc_0 rfl (Nat.le_of_ble_eq_true rfl) wg_X3_10 (vf_0_0 _ _) ?_
        refine ky_dup (n := 58) dX3_pass_57 rfl rfl ?_
        refine ky_getf (q := (RX0, TX0, 17)) (v := .int (s7.1 20 1)) (n := 61) dX3_pass_58 rfl kc_20 rfl (Nat.le_of_ble_eq_true rfl) wg_X3_154 (vf_20_1 _ _) ?_
        refine ky_iload_n (n := 62) dX3_pass_61 rfl rfl 1 rfl ?_
        refine ky_iadd (n := 63) dX3_pass_62 rfl ?_
        refine ky_putf (q := (RX0, TX0, 17)) (n := 66) dX3_pass_63 rfl kc_20 rfl (Nat.le_of_ble_eq_true rfl) wg_X3_154 rfl (by decide +kernel) rfl (fun s10 es10 => ?_)
        have hf := ky_bn_e hf s10 es10
        refine ky_aload_n (n := 67) dX3_pass_66 rfl rfl 0 rfl ?_
        refine ky_getf (q := (RX3, TX3, 4)) (v := ky_r G 20) (n := 70) dX3_pass_67 rfl kc_0 rfl (Nat.le_of_ble_eq_true rfl) wg_X3_10 (vf_0_0 _ _) ?_
        refine ky_getf (q := (RX0, TX0, 17)) (v := .int (s10.1 20 1)) (n := 73) dX3_pass_70 rfl kc_20 rfl (Nat.le_of_ble_eq_true rfl) wg_X3_154 (vf_20_1 _ _) ?_
        cases hf
        exact ky_ireturn dX3_pass_73 rfl
      · have hf := ky_pos c6 hf
        cases hf
        exact ky_throw (text := "the day would be too late") okX_ky_ex2 rfl wc_X3_45 (by decide +kernel) dX3_pass_32 dX3_pass_35 dX3_pass_36 dX3_pass_38 dX3_pass_41 rfl (Nat.le_of_ble_eq_true rfl) (Nat.le_of_ble_eq_true rfl) (Nat.le_of_ble_eq_true rfl) (by omega)
    · have hf := ky_neg c2 hf
      cases hf
      exact ky_throw (text := "days is out of range") okX_ky_ex1 rfl wc_X3_34 (by decide +kernel) dX3_pass_11 dX3_pass_14 dX3_pass_15 dX3_pass_17 dX3_pass_20 rfl (Nat.le_of_ble_eq_true rfl) (Nat.le_of_ble_eq_true rfl) (Nat.le_of_ble_eq_true rfl) (by omega)
def fX3_needSetting (a1 : Int32) (σ : ky_St) : Option ((String ⊕ Unit) × ky_St) :=
  if a1 < 0 then (
  some (.inl ky_ex3, σ)) else (
  if a1 < (2 : Int32) then (
  some (.inr (), σ)) else (
  some (.inl ky_ex3, σ)))
set_option maxHeartbeats 4000000 in
set_option maxRecDepth 100000 in
theorem KX3_needSetting {G : ky_G} (d : Nat) (a1 : Int32) (σ : ky_St) (r : (String ⊕ Unit)) (σ' : ky_St) (hf : fX3_needSetting a1 σ = some (r, σ')) : ky_K G mX3_needSetting (d + 6) 1 6 [.int a1] σ (ky_ou r) σ' := by
  unfold fX3_needSetting at hf
  refine ky_enter rfl (by decide +kernel) (Nat.le_of_ble_eq_true rfl) (lv := [(0, .int a1)]) rfl ?_
  refine ky_iload_n (n := 1) dX3_needSetting_0 rfl rfl 0 rfl ?_
  refine ky_if_lt (n := 4) (tgt := 9) dX3_needSetting_1 rfl rfl (fun c1 => ?_) (fun c1 => ?_)
  · have hf := ky_pos c1 hf
    cases hf
    exact ky_throwW (text := "there is no such setting") okX_ky_ex3 rfl wc_X3_291 (by decide +kernel) dX3_needSetting_9 dX3_needSetting_12 dX3_needSetting_13 dX3_needSetting_16 dX3_needSetting_19 rfl (Nat.le_of_ble_eq_true rfl) (Nat.le_of_ble_eq_true rfl) (Nat.le_of_ble_eq_true rfl) (by omega)
  · have hf := ky_neg c1 hf
    refine ky_iload_n (n := 5) dX3_needSetting_4 rfl rfl 0 rfl ?_
    refine ky_iconst (v := (2 : Int32)) (n := 6) dX3_needSetting_5 rfl rfl ?_
    refine ky_icmp_lt (n := 9) (tgt := 20) dX3_needSetting_6 rfl rfl (fun c2 => ?_) (fun c2 => ?_)
    · have hf := ky_pos c2 hf
      cases hf
      exact ky_return dX3_needSetting_20 rfl
    · have hf := ky_neg c2 hf
      cases hf
      exact ky_throwW (text := "there is no such setting") okX_ky_ex3 rfl wc_X3_291 (by decide +kernel) dX3_needSetting_9 dX3_needSetting_12 dX3_needSetting_13 dX3_needSetting_16 dX3_needSetting_19 rfl (Nat.le_of_ble_eq_true rfl) (Nat.le_of_ble_eq_true rfl) (Nat.le_of_ble_eq_true rfl) (by omega)
def fX3_isSettingValue (a1 : Int32) (a2 : Int32) (σ : ky_St) : Option (Int32 × ky_St) :=
  if a1 = 0 then (
  if a2 < 0 then (
  some ((0 : Int32), σ)) else (
  if (90 : Int32) < a2 then (
  some ((0 : Int32), σ)) else (
  some ((1 : Int32), σ)))) else (
  if a2 < (1 : Int32) then (
  some ((0 : Int32), σ)) else (
  if (99 : Int32) < a2 then (
  some ((0 : Int32), σ)) else (
  some ((1 : Int32), σ))))
set_option maxHeartbeats 4000000 in
set_option maxRecDepth 100000 in
theorem KX3_isSettingValue {G : ky_G} (d : Nat) (a1 : Int32) (a2 : Int32) (σ : ky_St) (r : Int32) (σ' : ky_St) (hf : fX3_isSettingValue a1 a2 σ = some (r, σ')) : ky_K G mX3_isSettingValue d 0 0 [.int a1, .int a2] σ (.inr (some (.int r))) σ' := by
  unfold fX3_isSettingValue at hf
  refine ky_enter rfl (by decide +kernel) (Nat.le_of_ble_eq_true rfl) (lv := [(0, .int a1), (1, .int a2)]) rfl ?_
  refine ky_iload_n (n := 1) dX3_isSettingValue_0 rfl rfl 0 rfl ?_
  refine ky_if_ne (n := 4) (tgt := 20) dX3_isSettingValue_1 rfl rfl (fun c1 => ?_) (fun c1 => ?_)
  · have hf := ky_neg c1 hf
    refine ky_iload_n (n := 21) dX3_isSettingValue_20 rfl rfl 1 rfl ?_
    refine ky_iconst (v := (1 : Int32)) (n := 22) dX3_isSettingValue_21 rfl rfl ?_
    refine ky_icmp_lt (n := 25) (tgt := 35) dX3_isSettingValue_22 rfl rfl (fun c2 => ?_) (fun c2 => ?_)
    · have hf := ky_pos c2 hf
      refine ky_iconst (v := (0 : Int32)) (n := 36) dX3_isSettingValue_35 rfl rfl ?_
      cases hf
      exact ky_zreturn dX3_isSettingValue_36 rfl (Or.inl rfl)
    · have hf := ky_neg c2 hf
      refine ky_iload_n (n := 26) dX3_isSettingValue_25 rfl rfl 1 rfl ?_
      refine ky_bipush (v := (99 : Int32)) (n := 28) dX3_isSettingValue_26 rfl rfl ?_
      refine ky_icmp_gt (n := 31) (tgt := 35) dX3_isSettingValue_28 rfl rfl (fun c3 => ?_) (fun c3 => ?_)
      · have hf := ky_pos c3 hf
        refine ky_iconst (v := (0 : Int32)) (n := 36) dX3_isSettingValue_35 rfl rfl ?_
        cases hf
        exact ky_zreturn dX3_isSettingValue_36 rfl (Or.inl rfl)
      · have hf := ky_neg c3 hf
        refine ky_iconst (v := (1 : Int32)) (n := 32) dX3_isSettingValue_31 rfl rfl ?_
        refine ky_goto (tgt := 36) dX3_isSettingValue_32 rfl ?_
        cases hf
        exact ky_zreturn dX3_isSettingValue_36 rfl (Or.inr rfl)
  · have hf := ky_pos c1 hf
    refine ky_iload_n (n := 5) dX3_isSettingValue_4 rfl rfl 1 rfl ?_
    refine ky_if_lt (n := 8) (tgt := 18) dX3_isSettingValue_5 rfl rfl (fun c4 => ?_) (fun c4 => ?_)
    · have hf := ky_pos c4 hf
      refine ky_iconst (v := (0 : Int32)) (n := 19) dX3_isSettingValue_18 rfl rfl ?_
      cases hf
      exact ky_zreturn dX3_isSettingValue_19 rfl (Or.inl rfl)
    · have hf := ky_neg c4 hf
      refine ky_iload_n (n := 9) dX3_isSettingValue_8 rfl rfl 1 rfl ?_
      refine ky_bipush (v := (90 : Int32)) (n := 11) dX3_isSettingValue_9 rfl rfl ?_
      refine ky_icmp_gt (n := 14) (tgt := 18) dX3_isSettingValue_11 rfl rfl (fun c5 => ?_) (fun c5 => ?_)
      · have hf := ky_pos c5 hf
        refine ky_iconst (v := (0 : Int32)) (n := 19) dX3_isSettingValue_18 rfl rfl ?_
        cases hf
        exact ky_zreturn dX3_isSettingValue_19 rfl (Or.inl rfl)
      · have hf := ky_neg c5 hf
        refine ky_iconst (v := (1 : Int32)) (n := 15) dX3_isSettingValue_14 rfl rfl ?_
        refine ky_goto (tgt := 19) dX3_isSettingValue_15 rfl ?_
        cases hf
        exact ky_zreturn dX3_isSettingValue_19 rfl (Or.inr rfl)
def fX3_set (a1 : Int32) (a2 : Int32) (σ : ky_St) : Option ((String ⊕ Int32) × ky_St) :=
  ky_bx (fX3_needSetting a1 σ) fun v3 s1 =>
  ky_bd (fX3_isSettingValue a1 a2 s1) fun v7 s5 =>
  if v7 = 0 then (
  some (.inl ky_ex1, s5)) else (
  ky_bd (fX1_keep s5) fun v11 s9 =>
  ky_bd (fX3_at 21 a1 s9) fun v14 s12 =>
  ky_bd (fX3_put 21 a1 a2 s12) fun v17 s15 =>
  some (.inr v14, s15))
set_option maxHeartbeats 4000000 in
set_option maxRecDepth 100000 in
theorem KX3_set {G : ky_G} (d : Nat) (a1 : Int32) (a2 : Int32) (σ : ky_St) (r : (String ⊕ Int32)) (σ' : ky_St) (hf : fX3_set a1 a2 σ = some (r, σ')) : ky_K G mX3_set (d + 7) 2 12 [ky_r G 0, .int a1, .int a2] σ (ky_oi r) σ' := by
  unfold fX3_set at hf
  refine ky_enter rfl (by decide +kernel) (Nat.le_of_ble_eq_true rfl) (lv := [(0, ky_r G 0), (1, .int a1), (2, .int a2)]) rfl ?_
  refine ky_iload_n (n := 1) dX3_set_0 rfl rfl 1 rfl ?_
  rcases ky_bx_e hf with ⟨E4, h2, eE4⟩ | ⟨v3, s1, h2, hf⟩
  · subst eE4
    exact ky_callSX (kc := 1) (ks := 6) (kc2 := 1) (ks2 := 6) (as := [.int a1]) (st := []) (KX3_needSetting d a1 σ _ _ h2) okX3_needSetting wl_X3_157 rfl rfl (Nat.le_of_ble_eq_true rfl) dX3_set_1 rfl
  · refine ky_callS (kc := 1) (ks := 6) (kc2 := 1) (ks2 := 6) (as := [.int a1]) (st := []) (KX3_needSetting d a1 σ _ _ h2) okX3_needSetting wl_X3_157 rfl rfl (Nat.le_of_ble_eq_true rfl) dX3_set_1 rfl ?_
    refine ky_iload_n (n := 5) dX3_set_4 rfl rfl 1 rfl ?_
    refine ky_iload_n (n := 6) dX3_set_5 rfl rfl 2 rfl ?_
    obtain ⟨v7, s5, h6, hf⟩ := ky_bd_e hf
    refine ky_callS (kc := 1) (ks := 6) (kc2 := 0) (ks2 := 0) (as := [.int a1, .int a2]) (st := []) (KX3_isSettingValue (d + 6) a1 a2 s1 _ _ h6) okX3_isSettingValue wl_X3_160 rfl rfl (Nat.le_of_ble_eq_true rfl) dX3_set_6 rfl ?_
    refine ky_if_ne (n := 12) (tgt := 22) dX3_set_9 rfl rfl (fun c8 => ?_) (fun c8 => ?_)
    · have hf := ky_neg c8 hf
      refine ky_aload_n (n := 23) dX3_set_22 rfl rfl 0 rfl ?_
      refine ky_getf (q := (RX3, TX3, 4)) (v := ky_r G 2) (n := 26) dX3_set_23 rfl kc_0 rfl (Nat.le_of_ble_eq_true rfl) wg_X3_19 (vf_0_1 _ _) ?_
      refine ky_aload_n (n := 27) dX3_set_26 rfl rfl 0 rfl ?_
      refine ky_getf (q := (RX3, TX3, 4)) (v := ky_r G 20) (n := 30) dX3_set_27 rfl kc_0 rfl (Nat.le_of_ble_eq_true rfl) wg_X3_10 (vf_0_0 _ _) ?_
      obtain ⟨v11, s9, h10, hf⟩ := ky_bd_e hf
      refine ky_callV (kc := 1) (ks := 6) (kc2 := 0) (ks2 := 0) (k0 := 2) (as := [ky_r G 20]) (st := []) (KX1_keep (d + 3) s5 _ _ h10) okX1_keep wl_X3_50 kc_2 (q := (RX1, TX1, 3)) rfl rfl rfl rfl (Nat.le_of_ble_eq_true rfl) dX3_set_30 rfl ?_
      refine ky_aload_n (n := 34) dX3_set_33 rfl rfl 0 rfl ?_
      refine ky_getf (q := (RX3, TX3, 4)) (v := ky_r G 20) (n := 37) dX3_set_34 rfl kc_0 rfl (Nat.le_of_ble_eq_true rfl) wg_X3_10 (vf_0_0 _ _) ?_
      refine ky_getf (q := (RX0, TX0, 17)) (v := ky_r G 21) (n := 40) dX3_set_37 rfl kc_20 rfl (Nat.le_of_ble_eq_true rfl) wg_X3_165 (vf_20_5 _ _) ?_
      refine ky_iload_n (n := 41) dX3_set_40 rfl rfl 1 rfl ?_
      obtain ⟨v14, s12, h13, hf⟩ := ky_bd_e hf
      refine ky_callS (kc := 1) (ks := 6) (kc2 := 0) (ks2 := 0) (as := [ky_r G 21, .int a1]) (st := []) (KX3_at (d + 6) 21 a1 s9 _ _ h13) okX3_at wl_X3_64 rfl rfl (Nat.le_of_ble_eq_true rfl) dX3_set_41 rfl ?_
      refine ky_istore_n (lv' := [(3, .int v14), (0, ky_r G 0), (1, .int a1), (2, .int a2)]) (n := 45) dX3_set_44 rfl rfl (Nat.le_of_ble_eq_true rfl) rfl ?_
      refine ky_aload_n (n := 46) dX3_set_45 rfl rfl 1 rfl ?_
      refine ky_getf (q := (RX3, TX3, 4)) (v := ky_r G 20) (n := 49) dX3_set_46 rfl kc_0 rfl (Nat.le_of_ble_eq_true rfl) wg_X3_10 (vf_0_0 _ _) ?_
      refine ky_getf (q := (RX0, TX0, 17)) (v := ky_r G 21) (n := 52) dX3_set_49 rfl kc_20 rfl (Nat.le_of_ble_eq_true rfl) wg_X3_165 (vf_20_5 _ _) ?_
      refine ky_iload_n (n := 53) dX3_set_52 rfl rfl 2 rfl ?_
      refine ky_iload_n (n := 54) dX3_set_53 rfl rfl 3 rfl ?_
      obtain ⟨v17, s15, h16, hf⟩ := ky_bd_e hf
      refine ky_callS (kc := 1) (ks := 6) (kc2 := 0) (ks2 := 0) (as := [ky_r G 21, .int a1, .int a2]) (st := []) (KX3_put (d + 6) 21 a1 a2 s12 _ _ h16) okX3_put wl_X3_168 rfl rfl (Nat.le_of_ble_eq_true rfl) dX3_set_54 rfl ?_
      refine ky_iload_n (n := 58) dX3_set_57 rfl rfl 0 rfl ?_
      cases hf
      exact ky_ireturn dX3_set_58 rfl
    · have hf := ky_pos c8 hf
      cases hf
      exact ky_throw (text := "value is out of range") okX_ky_ex1 rfl wc_X3_34 (by decide +kernel) dX3_set_12 dX3_set_15 dX3_set_16 dX3_set_18 dX3_set_21 rfl (Nat.le_of_ble_eq_true rfl) (Nat.le_of_ble_eq_true rfl) (Nat.le_of_ble_eq_true rfl) (by omega)
def fX3_append (a1 : Int32) (σ : ky_St) : Option ((String ⊕ Int32) × ky_St) :=
  if a1 < (33 : Int32) then (
  some (.inl ky_ex1, σ)) else (
  if a1 ≤ (126 : Int32) then (
  if (σ.1 3 1) < (60 : Int32) then (
  ky_bd (fX2_write a1 σ) fun v6 s4 =>
  some (.inr (s4.1 3 1), s4)) else (
  some (.inl ky_ex2, σ))) else (
  some (.inl ky_ex1, σ)))
set_option maxHeartbeats 4000000 in
set_option maxRecDepth 100000 in
theorem KX3_append {G : ky_G} (d : Nat) (a1 : Int32) (σ : ky_St) (r : (String ⊕ Int32)) (σ' : ky_St) (hf : fX3_append a1 σ = some (r, σ')) : ky_K G mX3_append (d + 6) 1 6 [ky_r G 0, .int a1] σ (ky_oi r) σ' := by
  unfold fX3_append at hf
  refine ky_enter rfl (by decide +kernel) (Nat.le_of_ble_eq_true rfl) (lv := [(0, ky_r G 0), (1, .int a1)]) rfl ?_
  refine ky_iload_n (n := 1) dX3_append_0 rfl rfl 1 rfl ?_
  refine ky_bipush (v := (33 : Int32)) (n := 3) dX3_append_1 rfl rfl ?_
  refine ky_icmp_lt (n := 6) (tgt := 12) dX3_append_3 rfl rfl (fun c1 => ?_) (fun c1 => ?_)
  · have hf := ky_pos c1 hf
    cases hf
    exact ky_throw (text := "code is out of range") okX_ky_ex1 rfl wc_X3_34 (by decide +kernel) dX3_append_12 dX3_append_15 dX3_append_16 dX3_append_18 dX3_append_21 rfl (Nat.le_of_ble_eq_true rfl) (Nat.le_of_ble_eq_true rfl) (Nat.le_of_ble_eq_true rfl) (by omega)
  · have hf := ky_neg c1 hf
    refine ky_iload_n (n := 7) dX3_append_6 rfl rfl 1 rfl ?_
    refine ky_bipush (v := (126 : Int32)) (n := 9) dX3_append_7 rfl rfl ?_
    refine ky_icmp_le (n := 12) (tgt := 22) dX3_append_9 rfl rfl (fun c2 => ?_) (fun c2 => ?_)
    · have hf := ky_pos c2 hf
      refine ky_aload_n (n := 23) dX3_append_22 rfl rfl 0 rfl ?_
      refine ky_getf (q := (RX3, TX3, 4)) (v := ky_r G 3) (n := 26) dX3_append_23 rfl kc_0 rfl (Nat.le_of_ble_eq_true rfl) wg_X3_26 (vf_0_2 _ _) ?_
      refine ky_getf (q := (RX2, TX2, 6)) (v := .int (σ.1 3 1)) (n := 29) dX3_append_26 rfl kc_3 rfl (Nat.le_of_ble_eq_true rfl) wg_X3_173 (vf_3_1 _ _) ?_
      refine ky_bipush (v := (60 : Int32)) (n := 31) dX3_append_29 rfl rfl ?_
      refine ky_icmp_lt (n := 34) (tgt := 44) dX3_append_31 rfl rfl (fun c3 => ?_) (fun c3 => ?_)
      · have hf := ky_pos c3 hf
        refine ky_aload_n (n := 45) dX3_append_44 rfl rfl 0 rfl ?_
        refine ky_getf (q := (RX3, TX3, 4)) (v := ky_r G 3) (n := 48) dX3_append_45 rfl kc_0 rfl (Nat.le_of_ble_eq_true rfl) wg_X3_26 (vf_0_2 _ _) ?_
        refine ky_iload_n (n := 49) dX3_append_48 rfl rfl 1 rfl ?_
        obtain ⟨v6, s4, h5, hf⟩ := ky_bd_e hf
        refine ky_callV (kc := 1) (ks := 6) (kc2 := 0) (ks2 := 0) (k0 := 3) (as := [.int a1]) (st := []) (KX2_write (d + 4) a1 σ _ _ h5) okX2_write wl_X3_178 kc_3 (q := (RX2, TX2, 6)) rfl rfl rfl rfl (Nat.le_of_ble_eq_true rfl) dX3_append_49 rfl ?_
        refine ky_aload_n (n := 53) dX3_append_52 rfl rfl 0 rfl ?_
        refine ky_getf (q := (RX3, TX3, 4)) (v := ky_r G 3) (n := 56) dX3_append_53 rfl kc_0 rfl (Nat.le_of_ble_eq_true rfl) wg_X3_26 (vf_0_2 _ _) ?_
        refine ky_getf (q := (RX2, TX2, 6)) (v := .int (s4.1 3 1)) (n := 59) dX3_append_56 rfl kc_3 rfl (Nat.le_of_ble_eq_true rfl) wg_X3_173 (vf_3_1 _ _) ?_
        cases hf
        exact ky_ireturn dX3_append_59 rfl
      · have hf := ky_neg c3 hf
        cases hf
        exact ky_throw (text := "the buffer is full") okX_ky_ex2 rfl wc_X3_45 (by decide +kernel) dX3_append_34 dX3_append_37 dX3_append_38 dX3_append_40 dX3_append_43 rfl (Nat.le_of_ble_eq_true rfl) (Nat.le_of_ble_eq_true rfl) (Nat.le_of_ble_eq_true rfl) (by omega)
    · have hf := ky_neg c2 hf
      cases hf
      exact ky_throw (text := "code is out of range") okX_ky_ex1 rfl wc_X3_34 (by decide +kernel) dX3_append_12 dX3_append_15 dX3_append_16 dX3_append_18 dX3_append_21 rfl (Nat.le_of_ble_eq_true rfl) (Nat.le_of_ble_eq_true rfl) (Nat.le_of_ble_eq_true rfl) (by omega)
def fX3_clearBuffer (σ : ky_St) : Option (Int32 × ky_St) :=
  ky_bn (σ.1 3 1) fun v1 =>
  ky_bd (fX2_wipe σ) fun v4 s2 =>
  some (v1, s2)
set_option maxHeartbeats 4000000 in
set_option maxRecDepth 100000 in
theorem KX3_clearBuffer {G : ky_G} (d : Nat) (σ : ky_St) (r : Int32) (σ' : ky_St) (hf : fX3_clearBuffer σ = some (r, σ')) : ky_K G mX3_clearBuffer (d + 1) 0 0 [ky_r G 0] σ (.inr (some (.int r))) σ' := by
  unfold fX3_clearBuffer at hf
  refine ky_enter rfl (by decide +kernel) (Nat.le_of_ble_eq_true rfl) (lv := [(0, ky_r G 0)]) rfl ?_
  refine ky_aload_n (n := 1) dX3_clearBuffer_0 rfl rfl 0 rfl ?_
  refine ky_getf (q := (RX3, TX3, 4)) (v := ky_r G 3) (n := 4) dX3_clearBuffer_1 rfl kc_0 rfl (Nat.le_of_ble_eq_true rfl) wg_X3_26 (vf_0_2 _ _) ?_
  refine ky_getf (q := (RX2, TX2, 6)) (v := .int (σ.1 3 1)) (n := 7) dX3_clearBuffer_4 rfl kc_3 rfl (Nat.le_of_ble_eq_true rfl) wg_X3_173 (vf_3_1 _ _) ?_
  refine ky_topi (fun v1 ev1 => ?_)
  have hf := ky_bn_e hf v1 ev1
  refine ky_istore_n (lv' := [(1, .int v1), (0, ky_r G 0)]) (n := 8) dX3_clearBuffer_7 rfl rfl (Nat.le_of_ble_eq_true rfl) rfl ?_
  refine ky_aload_n (n := 9) dX3_clearBuffer_8 rfl rfl 1 rfl ?_
  refine ky_getf (q := (RX3, TX3, 4)) (v := ky_r G 3) (n := 12) dX3_clearBuffer_9 rfl kc_0 rfl (Nat.le_of_ble_eq_true rfl) wg_X3_26 (vf_0_2 _ _) ?_
  obtain ⟨v4, s2, h3, hf⟩ := ky_bd_e hf
  refine ky_callV (kc := 0) (ks := 0) (kc2 := 0) (ks2 := 0) (k0 := 3) (as := []) (st := []) (KX2_wipe d σ _ _ h3) okX2_wipe wl_X3_181 kc_3 (q := (RX2, TX2, 6)) rfl rfl rfl rfl (Nat.le_of_ble_eq_true rfl) dX3_clearBuffer_12 rfl ?_
  refine ky_iload_n (n := 16) dX3_clearBuffer_15 rfl rfl 0 rfl ?_
  cases hf
  exact ky_ireturn dX3_clearBuffer_16 rfl
def fX3_firstError (σ : ky_St) : Option (Int32 × ky_St) :=
  ky_bd (fX2_firstFault σ) fun v3 s1 =>
  some (v3, s1)
set_option maxHeartbeats 4000000 in
set_option maxRecDepth 100000 in
theorem KX3_firstError {G : ky_G} (d : Nat) (σ : ky_St) (r : Int32) (σ' : ky_St) (hf : fX3_firstError σ = some (r, σ')) : ky_K G mX3_firstError (d + 6) 0 0 [ky_r G 0] σ (.inr (some (.int r))) σ' := by
  unfold fX3_firstError at hf
  refine ky_enter rfl (by decide +kernel) (Nat.le_of_ble_eq_true rfl) (lv := [(0, ky_r G 0)]) rfl ?_
  refine ky_aload_n (n := 1) dX3_firstError_0 rfl rfl 0 rfl ?_
  refine ky_getf (q := (RX3, TX3, 4)) (v := ky_r G 3) (n := 4) dX3_firstError_1 rfl kc_0 rfl (Nat.le_of_ble_eq_true rfl) wg_X3_26 (vf_0_2 _ _) ?_
  obtain ⟨v3, s1, h2, hf⟩ := ky_bd_e hf
  refine ky_callV (kc := 0) (ks := 0) (kc2 := 0) (ks2 := 0) (k0 := 3) (as := []) (st := []) (KX2_firstFault d σ _ _ h2) okX2_firstFault wl_X3_184 kc_3 (q := (RX2, TX2, 6)) rfl rfl rfl rfl (Nat.le_of_ble_eq_true rfl) dX3_firstError_4 rfl ?_
  cases hf
  exact ky_ireturn dX3_firstError_7 rfl
def fX3_hireByText (a1 : Int32) (a2 : Int32) (σ : ky_St) : Option (Int32 × ky_St) :=
  ky_bd (fX0_wholeInYard σ) fun v3 s1 =>
  if a2 ≤ v3 then (
  ky_bd (fX0_hireOut a1 a2 s1) fun v7 s5 =>
  some ((1 : Int32), s5)) else (
  some ((0 : Int32), s1))
set_option maxHeartbeats 4000000 in
set_option maxRecDepth 100000 in
theorem KX3_hireByText {G : ky_G} (d : Nat) (a1 : Int32) (a2 : Int32) (σ : ky_St) (r : Int32) (σ' : ky_St) (hf : fX3_hireByText a1 a2 σ = some (r, σ')) : ky_K G mX3_hireByText (d + 4) 0 0 [ky_r G 0, .int a1, .int a2] σ (.inr (some (.int r))) σ' := by
  unfold fX3_hireByText at hf
  refine ky_enter rfl (by decide +kernel) (Nat.le_of_ble_eq_true rfl) (lv := [(0, ky_r G 0), (1, .int a1), (2, .int a2)]) rfl ?_
  refine ky_aload_n (n := 1) dX3_hireByText_0 rfl rfl 0 rfl ?_
  refine ky_getf (q := (RX3, TX3, 4)) (v := ky_r G 20) (n := 4) dX3_hireByText_1 rfl kc_0 rfl (Nat.le_of_ble_eq_true rfl) wg_X3_10 (vf_0_0 _ _) ?_
  obtain ⟨v3, s1, h2, hf⟩ := ky_bd_e hf
  refine ky_callV (kc := 0) (ks := 0) (kc2 := 0) (ks2 := 0) (k0 := 20) (as := []) (st := []) (KX0_wholeInYard (d + 1) σ _ _ h2) okX0_wholeInYard wl_X3_104 kc_20 (q := (RX0, TX0, 17)) rfl rfl rfl rfl (Nat.le_of_ble_eq_true rfl) dX3_hireByText_4 rfl ?_
  refine ky_iload_n (n := 8) dX3_hireByText_7 rfl rfl 2 rfl ?_
  refine ky_icmp_ge (n := 11) (tgt := 13) dX3_hireByText_8 rfl rfl (fun c4 => ?_) (fun c4 => ?_)
  · have hf := ky_pos c4 hf
    refine ky_aload_n (n := 14) dX3_hireByText_13 rfl rfl 0 rfl ?_
    refine ky_getf (q := (RX3, TX3, 4)) (v := ky_r G 20) (n := 17) dX3_hireByText_14 rfl kc_0 rfl (Nat.le_of_ble_eq_true rfl) wg_X3_10 (vf_0_0 _ _) ?_
    refine ky_iload_n (n := 18) dX3_hireByText_17 rfl rfl 1 rfl ?_
    refine ky_iload_n (n := 19) dX3_hireByText_18 rfl rfl 2 rfl ?_
    obtain ⟨v7, s5, h6, hf⟩ := ky_bd_e hf
    refine ky_callV (kc := 0) (ks := 0) (kc2 := 0) (ks2 := 0) (k0 := 20) (as := [.int a1, .int a2]) (st := []) (KX0_hireOut d a1 a2 s1 _ _ h6) okX0_hireOut wl_X3_110 kc_20 (q := (RX0, TX0, 17)) rfl rfl rfl rfl (Nat.le_of_ble_eq_true rfl) dX3_hireByText_19 rfl ?_
    refine ky_iconst (v := (1 : Int32)) (n := 23) dX3_hireByText_22 rfl rfl ?_
    cases hf
    exact ky_zreturn dX3_hireByText_23 rfl (Or.inr rfl)
  · have hf := ky_neg c4 hf
    refine ky_iconst (v := (0 : Int32)) (n := 12) dX3_hireByText_11 rfl rfl ?_
    cases hf
    exact ky_zreturn dX3_hireByText_12 rfl (Or.inl rfl)
def fX3_moveByText (a1 : Int32) (a2 : Int32) (σ : ky_St) : Option (Int32 × ky_St) :=
  ky_bd (fX0_canMove a1 a2 σ) fun v3 s1 =>
  if v3 = 0 then (
  some ((0 : Int32), s1)) else (
  ky_bd (fX0_moveTo a1 a2 s1) fun v7 s5 =>
  some ((1 : Int32), s5))
set_option maxHeartbeats 4000000 in
set_option maxRecDepth 100000 in
theorem KX3_moveByText {G : ky_G} (d : Nat) (a1 : Int32) (a2 : Int32) (σ : ky_St) (r : Int32) (σ' : ky_St) (hf : fX3_moveByText a1 a2 σ = some (r, σ')) : ky_K G mX3_moveByText (d + 4) 0 0 [ky_r G 0, .int a1, .int a2] σ (.inr (some (.int r))) σ' := by
  unfold fX3_moveByText at hf
  refine ky_enter rfl (by decide +kernel) (Nat.le_of_ble_eq_true rfl) (lv := [(0, ky_r G 0), (1, .int a1), (2, .int a2)]) rfl ?_
  refine ky_aload_n (n := 1) dX3_moveByText_0 rfl rfl 0 rfl ?_
  refine ky_getf (q := (RX3, TX3, 4)) (v := ky_r G 20) (n := 4) dX3_moveByText_1 rfl kc_0 rfl (Nat.le_of_ble_eq_true rfl) wg_X3_10 (vf_0_0 _ _) ?_
  refine ky_iload_n (n := 5) dX3_moveByText_4 rfl rfl 1 rfl ?_
  refine ky_iload_n (n := 6) dX3_moveByText_5 rfl rfl 2 rfl ?_
  obtain ⟨v3, s1, h2, hf⟩ := ky_bd_e hf
  refine ky_callV (kc := 0) (ks := 0) (kc2 := 0) (ks2 := 0) (k0 := 20) (as := [.int a1, .int a2]) (st := []) (KX0_canMove d a1 a2 σ _ _ h2) okX0_canMove wl_X3_113 kc_20 (q := (RX0, TX0, 17)) rfl rfl rfl rfl (Nat.le_of_ble_eq_true rfl) dX3_moveByText_6 rfl ?_
  refine ky_if_ne (n := 12) (tgt := 14) dX3_moveByText_9 rfl rfl (fun c4 => ?_) (fun c4 => ?_)
  · have hf := ky_neg c4 hf
    refine ky_aload_n (n := 15) dX3_moveByText_14 rfl rfl 0 rfl ?_
    refine ky_getf (q := (RX3, TX3, 4)) (v := ky_r G 20) (n := 18) dX3_moveByText_15 rfl kc_0 rfl (Nat.le_of_ble_eq_true rfl) wg_X3_10 (vf_0_0 _ _) ?_
    refine ky_iload_n (n := 19) dX3_moveByText_18 rfl rfl 1 rfl ?_
    refine ky_iload_n (n := 20) dX3_moveByText_19 rfl rfl 2 rfl ?_
    obtain ⟨v7, s5, h6, hf⟩ := ky_bd_e hf
    refine ky_callV (kc := 0) (ks := 0) (kc2 := 0) (ks2 := 0) (k0 := 20) (as := [.int a1, .int a2]) (st := []) (KX0_moveTo d a1 a2 s1 _ _ h6) okX0_moveTo wl_X3_119 kc_20 (q := (RX0, TX0, 17)) rfl rfl rfl rfl (Nat.le_of_ble_eq_true rfl) dX3_moveByText_20 rfl ?_
    refine ky_pop (n := 24) dX3_moveByText_23 rfl rfl ?_
    refine ky_iconst (v := (1 : Int32)) (n := 25) dX3_moveByText_24 rfl rfl ?_
    cases hf
    exact ky_zreturn dX3_moveByText_25 rfl (Or.inr rfl)
  · have hf := ky_pos c4 hf
    refine ky_iconst (v := (0 : Int32)) (n := 13) dX3_moveByText_12 rfl rfl ?_
    cases hf
    exact ky_zreturn dX3_moveByText_13 rfl (Or.inl rfl)
def fX3_bringByText (a1 : Int32) (σ : ky_St) : Option (Int32 × ky_St) :=
  ky_bd (fX0_isOnSite a1 σ) fun v3 s1 =>
  if v3 = 0 then (
  some ((0 : Int32), s1)) else (
  ky_bd (fX0_takeBack a1 s1) fun v7 s5 =>
  some ((1 : Int32), s5))
set_option maxHeartbeats 4000000 in
set_option maxRecDepth 100000 in
theorem KX3_bringByText {G : ky_G} (d : Nat) (a1 : Int32) (σ : ky_St) (r : Int32) (σ' : ky_St) (hf : fX3_bringByText a1 σ = some (r, σ')) : ky_K G mX3_bringByText (d + 4) 0 0 [ky_r G 0, .int a1] σ (.inr (some (.int r))) σ' := by
  unfold fX3_bringByText at hf
  refine ky_enter rfl (by decide +kernel) (Nat.le_of_ble_eq_true rfl) (lv := [(0, ky_r G 0), (1, .int a1)]) rfl ?_
  refine ky_aload_n (n := 1) dX3_bringByText_0 rfl rfl 0 rfl ?_
  refine ky_getf (q := (RX3, TX3, 4)) (v := ky_r G 20) (n := 4) dX3_bringByText_1 rfl kc_0 rfl (Nat.le_of_ble_eq_true rfl) wg_X3_10 (vf_0_0 _ _) ?_
  refine ky_iload_n (n := 5) dX3_bringByText_4 rfl rfl 1 rfl ?_
  obtain ⟨v3, s1, h2, hf⟩ := ky_bd_e hf
  refine ky_callV (kc := 0) (ks := 0) (kc2 := 0) (ks2 := 0) (k0 := 20) (as := [.int a1]) (st := []) (KX0_isOnSite (d + 2) a1 σ _ _ h2) okX0_isOnSite wl_X3_306 kc_20 (q := (RX0, TX0, 17)) rfl rfl rfl rfl (Nat.le_of_ble_eq_true rfl) dX3_bringByText_5 rfl ?_
  refine ky_if_ne (n := 11) (tgt := 13) dX3_bringByText_8 rfl rfl (fun c4 => ?_) (fun c4 => ?_)
  · have hf := ky_neg c4 hf
    refine ky_aload_n (n := 14) dX3_bringByText_13 rfl rfl 0 rfl ?_
    refine ky_getf (q := (RX3, TX3, 4)) (v := ky_r G 20) (n := 17) dX3_bringByText_14 rfl kc_0 rfl (Nat.le_of_ble_eq_true rfl) wg_X3_10 (vf_0_0 _ _) ?_
    refine ky_iload_n (n := 18) dX3_bringByText_17 rfl rfl 1 rfl ?_
    obtain ⟨v7, s5, h6, hf⟩ := ky_bd_e hf
    refine ky_callV (kc := 0) (ks := 0) (kc2 := 0) (ks2 := 0) (k0 := 20) (as := [.int a1]) (st := []) (KX0_takeBack d a1 s1 _ _ h6) okX0_takeBack wl_X3_126 kc_20 (q := (RX0, TX0, 17)) rfl rfl rfl rfl (Nat.le_of_ble_eq_true rfl) dX3_bringByText_18 rfl ?_
    refine ky_pop (n := 22) dX3_bringByText_21 rfl rfl ?_
    refine ky_iconst (v := (1 : Int32)) (n := 23) dX3_bringByText_22 rfl rfl ?_
    cases hf
    exact ky_zreturn dX3_bringByText_23 rfl (Or.inr rfl)
  · have hf := ky_pos c4 hf
    refine ky_iconst (v := (0 : Int32)) (n := 12) dX3_bringByText_11 rfl rfl ?_
    cases hf
    exact ky_zreturn dX3_bringByText_12 rfl (Or.inl rfl)
def fX3_passByText (a1 : Int32) (σ : ky_St) : Option (Int32 × ky_St) :=
  ky_bd (fX0_canPass a1 σ) fun v3 s1 =>
  if v3 = 0 then (
  some ((0 : Int32), s1)) else (
  ky_bn (ky_u1 s1 20 1 ((s1.1 20 1) + a1)) fun s5 =>
  some ((1 : Int32), s5))
set_option maxHeartbeats 4000000 in
set_option maxRecDepth 100000 in
theorem KX3_passByText {G : ky_G} (d : Nat) (a1 : Int32) (σ : ky_St) (r : Int32) (σ' : ky_St) (hf : fX3_passByText a1 σ = some (r, σ')) : ky_K G mX3_passByText (d + 1) 0 0 [ky_r G 0, .int a1] σ (.inr (some (.int r))) σ' := by
  unfold fX3_passByText at hf
  refine ky_enter rfl (by decide +kernel) (Nat.le_of_ble_eq_true rfl) (lv := [(0, ky_r G 0), (1, .int a1)]) rfl ?_
  refine ky_aload_n (n := 1) dX3_passByText_0 rfl rfl 0 rfl ?_
  refine ky_getf (q := (RX3, TX3, 4)) (v := ky_r G 20) (n := 4) dX3_passByText_1 rfl kc_0 rfl (Nat.le_of_ble_eq_true rfl) wg_X3_10 (vf_0_0 _ _) ?_
  refine ky_iload_n (n := 5) dX3_passByText_4 rfl rfl 1 rfl ?_
  obtain ⟨v3, s1, h2, hf⟩ := ky_bd_e hf
  refine ky_callV (kc := 0) (ks := 0) (kc2 := 0) (ks2 := 0) (k0 := 20) (as := [.int a1]) (st := []) (KX0_canPass d a1 σ _ _ h2) okX0_canPass wl_X3_148 kc_20 (q := (RX0, TX0, 17)) rfl rfl rfl rfl (Nat.le_of_ble_eq_true rfl) dX3_passByText_5 rfl ?_
  refine ky_if_ne (n := 11) (tgt := 13) dX3_passByText_8 rfl rfl (fun c4 => ?_) (fun c4 => ?_)
  · have hf := ky_neg c4 hf
    refine ky_aload_n (n := 14) dX3_passByText_13 rfl rfl 0 rfl ?_
    refine ky_getf (q := (RX3, TX3, 4)) (v := ky_r G 20) (n := 17) dX3_passByText_14 rfl kc_0 rfl (Nat.le_of_ble_eq_true rfl) wg_X3_10 (vf_0_0 _ _) ?_
    refine ky_dup (n := 18) dX3_passByText_17 rfl rfl ?_
    refine ky_getf (q := (RX0, TX0, 17)) (v := .int (s1.1 20 1)) (n := 21) dX3_passByText_18 rfl kc_20 rfl (Nat.le_of_ble_eq_true rfl) wg_X3_154 (vf_20_1 _ _) ?_
    refine ky_iload_n (n := 22) dX3_passByText_21 rfl rfl 1 rfl ?_
    refine ky_iadd (n := 23) dX3_passByText_22 rfl ?_
    refine ky_putf (q := (RX0, TX0, 17)) (n := 26) dX3_passByText_23 rfl kc_20 rfl (Nat.le_of_ble_eq_true rfl) wg_X3_154 rfl (by decide +kernel) rfl (fun s5 es5 => ?_)
    have hf := ky_bn_e hf s5 es5
    refine ky_iconst (v := (1 : Int32)) (n := 27) dX3_passByText_26 rfl rfl ?_
    cases hf
    exact ky_zreturn dX3_passByText_27 rfl (Or.inr rfl)
  · have hf := ky_pos c4 hf
    refine ky_iconst (v := (0 : Int32)) (n := 12) dX3_passByText_11 rfl rfl ?_
    cases hf
    exact ky_zreturn dX3_passByText_12 rfl (Or.inl rfl)
def fX3_carryOut (σ : ky_St) : Option (Int32 × ky_St) :=
  ky_bn (σ.1 3 3) fun v1 =>
  if v1 = (98 : Int32) then (
  ky_bd (fX3_bringByText (σ.1 3 4) σ) fun v5 s3 =>
  ky_g (v5 = 0 ∨ v5 = 1) (some (v5, s3))) else (
  if v1 = (100 : Int32) then (
  ky_bd (fX3_passByText (σ.1 3 4) σ) fun v9 s7 =>
  ky_g (v9 = 0 ∨ v9 = 1) (some (v9, s7))) else (
  if v1 = (104 : Int32) then (
  ky_bd (fX3_hireByText (σ.1 3 4) (σ.1 3 5) σ) fun v13 s11 =>
  ky_g (v13 = 0 ∨ v13 = 1) (some (v13, s11))) else (
  if v1 = (109 : Int32) then (
  ky_bd (fX3_moveByText (σ.1 3 4) (σ.1 3 5) σ) fun v17 s15 =>
  ky_g (v17 = 0 ∨ v17 = 1) (some (v17, s15))) else (
  some ((0 : Int32), σ)))))
set_option maxHeartbeats 4000000 in
set_option maxRecDepth 100000 in
theorem KX3_carryOut {G : ky_G} (d : Nat) (σ : ky_St) (r : Int32) (σ' : ky_St) (hf : fX3_carryOut σ = some (r, σ')) : ky_K G mX3_carryOut (d + 5) 0 0 [ky_r G 0] σ (.inr (some (.int r))) σ' := by
  unfold fX3_carryOut at hf
  refine ky_enter rfl (by decide +kernel) (Nat.le_of_ble_eq_true rfl) (lv := [(0, ky_r G 0)]) rfl ?_
  refine ky_aload_n (n := 1) dX3_carryOut_0 rfl rfl 0 rfl ?_
  refine ky_getf (q := (RX3, TX3, 4)) (v := ky_r G 3) (n := 4) dX3_carryOut_1 rfl kc_0 rfl (Nat.le_of_ble_eq_true rfl) wg_X3_26 (vf_0_2 _ _) ?_
  refine ky_getf (q := (RX2, TX2, 6)) (v := .int (σ.1 3 3)) (n := 7) dX3_carryOut_4 rfl kc_3 rfl (Nat.le_of_ble_eq_true rfl) wg_X3_316 (vf_3_3 _ _) ?_
  refine ky_topi (fun v1 ev1 => ?_)
  have hf := ky_bn_e hf v1 ev1
  by_cases c2 : v1 = (98 : Int32)
  · have hf := ky_pos c2 hf
    refine ky_lsw (off := 79) (tgt := 86) dX3_carryOut_7 (by decide) (by rw [c2]; rfl) rfl ?_
    refine ky_aload_n (n := 87) dX3_carryOut_86 rfl rfl 0 rfl ?_
    refine ky_aload_n (n := 88) dX3_carryOut_87 rfl rfl 0 rfl ?_
    refine ky_getf (q := (RX3, TX3, 4)) (v := ky_r G 3) (n := 91) dX3_carryOut_88 rfl kc_0 rfl (Nat.le_of_ble_eq_true rfl) wg_X3_26 (vf_0_2 _ _) ?_
    refine ky_getf (q := (RX2, TX2, 6)) (v := .int (σ.1 3 4)) (n := 94) dX3_carryOut_91 rfl kc_3 rfl (Nat.le_of_ble_eq_true rfl) wg_X3_319 (vf_3_4 _ _) ?_
    obtain ⟨v5, s3, h4, hf⟩ := ky_bd_e hf
    refine ky_callV (kc := 0) (ks := 0) (kc2 := 0) (ks2 := 0) (k0 := 0) (as := [.int (σ.1 3 4)]) (st := []) (KX3_bringByText d (σ.1 3 4) σ _ _ h4) okX3_bringByText wl_X3_331 kc_0 (q := (RX3, TX3, 4)) rfl rfl rfl rfl (Nat.le_of_ble_eq_true rfl) dX3_carryOut_94 rfl ?_
    obtain ⟨gz, hf⟩ := ky_ge hf
    cases hf
    exact ky_zreturn dX3_carryOut_97 rfl gz
  have hf := ky_neg c2 hf
  by_cases c6 : v1 = (100 : Int32)
  · have hf := ky_pos c6 hf
    refine ky_lsw (off := 91) (tgt := 98) dX3_carryOut_7 (by decide) (by rw [c6]; rfl) rfl ?_
    refine ky_aload_n (n := 99) dX3_carryOut_98 rfl rfl 0 rfl ?_
    refine ky_aload_n (n := 100) dX3_carryOut_99 rfl rfl 0 rfl ?_
    refine ky_getf (q := (RX3, TX3, 4)) (v := ky_r G 3) (n := 103) dX3_carryOut_100 rfl kc_0 rfl (Nat.le_of_ble_eq_true rfl) wg_X3_26 (vf_0_2 _ _) ?_
    refine ky_getf (q := (RX2, TX2, 6)) (v := .int (σ.1 3 4)) (n := 106) dX3_carryOut_103 rfl kc_3 rfl (Nat.le_of_ble_eq_true rfl) wg_X3_319 (vf_3_4 _ _) ?_
    obtain ⟨v9, s7, h8, hf⟩ := ky_bd_e hf
    refine ky_callV (kc := 0) (ks := 0) (kc2 := 0) (ks2 := 0) (k0 := 0) (as := [.int (σ.1 3 4)]) (st := []) (KX3_passByText (d + 3) (σ.1 3 4) σ _ _ h8) okX3_passByText wl_X3_334 kc_0 (q := (RX3, TX3, 4)) rfl rfl rfl rfl (Nat.le_of_ble_eq_true rfl) dX3_carryOut_106 rfl ?_
    obtain ⟨gz, hf⟩ := ky_ge hf
    cases hf
    exact ky_zreturn dX3_carryOut_109 rfl gz
  have hf := ky_neg c6 hf
  by_cases c10 : v1 = (104 : Int32)
  · have hf := ky_pos c10 hf
    refine ky_lsw (off := 41) (tgt := 48) dX3_carryOut_7 (by decide) (by rw [c10]; rfl) rfl ?_
    refine ky_aload_n (n := 49) dX3_carryOut_48 rfl rfl 0 rfl ?_
    refine ky_aload_n (n := 50) dX3_carryOut_49 rfl rfl 0 rfl ?_
    refine ky_getf (q := (RX3, TX3, 4)) (v := ky_r G 3) (n := 53) dX3_carryOut_50 rfl kc_0 rfl (Nat.le_of_ble_eq_true rfl) wg_X3_26 (vf_0_2 _ _) ?_
    refine ky_getf (q := (RX2, TX2, 6)) (v := .int (σ.1 3 4)) (n := 56) dX3_carryOut_53 rfl kc_3 rfl (Nat.le_of_ble_eq_true rfl) wg_X3_319 (vf_3_4 _ _) ?_
    refine ky_aload_n (n := 57) dX3_carryOut_56 rfl rfl 0 rfl ?_
    refine ky_getf (q := (RX3, TX3, 4)) (v := ky_r G 3) (n := 60) dX3_carryOut_57 rfl kc_0 rfl (Nat.le_of_ble_eq_true rfl) wg_X3_26 (vf_0_2 _ _) ?_
    refine ky_getf (q := (RX2, TX2, 6)) (v := .int (σ.1 3 5)) (n := 63) dX3_carryOut_60 rfl kc_3 rfl (Nat.le_of_ble_eq_true rfl) wg_X3_322 (vf_3_5 _ _) ?_
    obtain ⟨v13, s11, h12, hf⟩ := ky_bd_e hf
    refine ky_callV (kc := 0) (ks := 0) (kc2 := 0) (ks2 := 0) (k0 := 0) (as := [.int (σ.1 3 4), .int (σ.1 3 5)]) (st := []) (KX3_hireByText d (σ.1 3 4) (σ.1 3 5) σ _ _ h12) okX3_hireByText wl_X3_325 kc_0 (q := (RX3, TX3, 4)) rfl rfl rfl rfl (Nat.le_of_ble_eq_true rfl) dX3_carryOut_63 rfl ?_
    obtain ⟨gz, hf⟩ := ky_ge hf
    cases hf
    exact ky_zreturn dX3_carryOut_66 rfl gz
  have hf := ky_neg c10 hf
  by_cases c14 : v1 = (109 : Int32)
  · have hf := ky_pos c14 hf
    refine ky_lsw (off := 60) (tgt := 67) dX3_carryOut_7 (by decide) (by rw [c14]; rfl) rfl ?_
    refine ky_aload_n (n := 68) dX3_carryOut_67 rfl rfl 0 rfl ?_
    refine ky_aload_n (n := 69) dX3_carryOut_68 rfl rfl 0 rfl ?_
    refine ky_getf (q := (RX3, TX3, 4)) (v := ky_r G 3) (n := 72) dX3_carryOut_69 rfl kc_0 rfl (Nat.le_of_ble_eq_true rfl) wg_X3_26 (vf_0_2 _ _) ?_
    refine ky_getf (q := (RX2, TX2, 6)) (v := .int (σ.1 3 4)) (n := 75) dX3_carryOut_72 rfl kc_3 rfl (Nat.le_of_ble_eq_true rfl) wg_X3_319 (vf_3_4 _ _) ?_
    refine ky_aload_n (n := 76) dX3_carryOut_75 rfl rfl 0 rfl ?_
    refine ky_getf (q := (RX3, TX3, 4)) (v := ky_r G 3) (n := 79) dX3_carryOut_76 rfl kc_0 rfl (Nat.le_of_ble_eq_true rfl) wg_X3_26 (vf_0_2 _ _) ?_
    refine ky_getf (q := (RX2, TX2, 6)) (v := .int (σ.1 3 5)) (n := 82) dX3_carryOut_79 rfl kc_3 rfl (Nat.le_of_ble_eq_true rfl) wg_X3_322 (vf_3_5 _ _) ?_
    obtain ⟨v17, s15, h16, hf⟩ := ky_bd_e hf
    refine ky_callV (kc := 0) (ks := 0) (kc2 := 0) (ks2 := 0) (k0 := 0) (as := [.int (σ.1 3 4), .int (σ.1 3 5)]) (st := []) (KX3_moveByText d (σ.1 3 4) (σ.1 3 5) σ _ _ h16) okX3_moveByText wl_X3_328 kc_0 (q := (RX3, TX3, 4)) rfl rfl rfl rfl (Nat.le_of_ble_eq_true rfl) dX3_carryOut_82 rfl ?_
    obtain ⟨gz, hf⟩ := ky_ge hf
    cases hf
    exact ky_zreturn dX3_carryOut_85 rfl gz
  have hf := ky_neg c14 hf
  refine ky_lsw (off := 103) (tgt := 110) dX3_carryOut_7 (by decide) (by show Op.lookupswitch.offset [(98, 79), (100, 91), (104, 41), (109, 60)] 103 v1.toInt = 103; rw [lv_osw (a := 98) c2 rfl, lv_osw (a := 100) c6 rfl, lv_osw (a := 104) c10 rfl, lv_osw (a := 109) c14 rfl]; rfl) rfl ?_
  refine ky_iconst (v := (0 : Int32)) (n := 111) dX3_carryOut_110 rfl rfl ?_
  cases hf
  exact ky_zreturn dX3_carryOut_111 rfl (Or.inl rfl)
def fX3_run_L40 : Nat → Int32 → ky_St → Option ((String ⊕ Int32) × ky_St)
  | 0, _, _ => none
  | fu + 1, x1, σ =>
  if (60 : Int32) ≤ x1 then (
  ky_bd (fX2_wipe σ) fun v14 s12 =>
  some (.inr x1, s12)) else (
  ky_bd (fX2_readOrder σ) fun v17 s15 =>
  if v17 = 0 then (
  ky_bd (fX2_wipe s15) fun v21 s19 =>
  some (.inr x1, s19)) else (
  ky_bd (fX3_carryOut s15) fun v24 s22 =>
  if v24 = 0 then (
  ky_bd (fX2_wipe s22) fun v28 s26 =>
  some (.inr x1, s26)) else (
  ky_bn (x1 + (1 : Int32)) fun v29 =>
  ky_bd (fX2_readSign (59 : Int32) s22) fun v32 s30 =>
  fX3_run_L40 fu v29 s30)))
set_option maxHeartbeats 4000000 in
set_option maxRecDepth 100000 in
theorem tX3_run_L40 {G : ky_G} (d : Nat) : ∀ (fu : Nat) (x1 : Int32) (σ : ky_St) (r : (String ⊕ Int32)) (σ' : ky_St), fX3_run_L40 fu x1 σ = some (r, σ') → ky_T G mX3_run (d + 6) 1 6 40 [(0, ky_r G 0), (1, .int x1)] [] σ (ky_oi r) σ' := by
  intro fu
  induction fu with
  | zero =>
    intro x1 σ r σ' hf
    rw [fX3_run_L40] at hf
    cases hf
  | succ fu ih =>
    intro x1 σ r σ' hf
    rw [fX3_run_L40] at hf
    refine ky_iload_n (n := 41) dX3_run_40 rfl rfl 1 rfl ?_
    refine ky_bipush (v := (60 : Int32)) (n := 43) dX3_run_41 rfl rfl ?_
    refine ky_icmp_ge (n := 46) (tgt := 79) dX3_run_43 rfl rfl (fun c11 => ?_) (fun c11 => ?_)
    · have hf := ky_pos c11 hf
      refine ky_aload_n (n := 80) dX3_run_79 rfl rfl 0 rfl ?_
      refine ky_getf (q := (RX3, TX3, 4)) (v := ky_r G 3) (n := 83) dX3_run_80 rfl kc_0 rfl (Nat.le_of_ble_eq_true rfl) wg_X3_26 (vf_0_2 _ _) ?_
      obtain ⟨v14, s12, h13, hf⟩ := ky_bd_e hf
      refine ky_callV (kc := 1) (ks := 6) (kc2 := 0) (ks2 := 0) (k0 := 3) (as := []) (st := []) (KX2_wipe (d + 5) σ _ _ h13) okX2_wipe wl_X3_181 kc_3 (q := (RX2, TX2, 6)) rfl rfl rfl rfl (Nat.le_of_ble_eq_true rfl) dX3_run_83 rfl ?_
      refine ky_iload_n (n := 87) dX3_run_86 rfl rfl 1 rfl ?_
      cases hf
      exact ky_ireturn dX3_run_87 rfl
    · have hf := ky_neg c11 hf
      refine ky_aload_n (n := 47) dX3_run_46 rfl rfl 0 rfl ?_
      refine ky_getf (q := (RX3, TX3, 4)) (v := ky_r G 3) (n := 50) dX3_run_47 rfl kc_0 rfl (Nat.le_of_ble_eq_true rfl) wg_X3_26 (vf_0_2 _ _) ?_
      obtain ⟨v17, s15, h16, hf⟩ := ky_bd_e hf
      refine ky_callV (kc := 1) (ks := 6) (kc2 := 0) (ks2 := 0) (k0 := 3) (as := []) (st := []) (KX2_readOrder (d + 1) σ _ _ h16) okX2_readOrder wl_X3_196 kc_3 (q := (RX2, TX2, 6)) rfl rfl rfl rfl (Nat.le_of_ble_eq_true rfl) dX3_run_50 rfl ?_
      refine ky_if_eq (n := 56) (tgt := 79) dX3_run_53 rfl rfl (fun c18 => ?_) (fun c18 => ?_)
      · have hf := ky_pos c18 hf
        refine ky_aload_n (n := 80) dX3_run_79 rfl rfl 0 rfl ?_
        refine ky_getf (q := (RX3, TX3, 4)) (v := ky_r G 3) (n := 83) dX3_run_80 rfl kc_0 rfl (Nat.le_of_ble_eq_true rfl) wg_X3_26 (vf_0_2 _ _) ?_
        obtain ⟨v21, s19, h20, hf⟩ := ky_bd_e hf
        refine ky_callV (kc := 1) (ks := 6) (kc2 := 0) (ks2 := 0) (k0 := 3) (as := []) (st := []) (KX2_wipe (d + 5) s15 _ _ h20) okX2_wipe wl_X3_181 kc_3 (q := (RX2, TX2, 6)) rfl rfl rfl rfl (Nat.le_of_ble_eq_true rfl) dX3_run_83 rfl ?_
        refine ky_iload_n (n := 87) dX3_run_86 rfl rfl 1 rfl ?_
        cases hf
        exact ky_ireturn dX3_run_87 rfl
      · have hf := ky_neg c18 hf
        refine ky_aload_n (n := 57) dX3_run_56 rfl rfl 0 rfl ?_
        obtain ⟨v24, s22, h23, hf⟩ := ky_bd_e hf
        refine ky_callV (kc := 1) (ks := 6) (kc2 := 0) (ks2 := 0) (k0 := 0) (as := []) (st := []) (KX3_carryOut d s15 _ _ h23) okX3_carryOut wl_X3_199 kc_0 (q := (RX3, TX3, 4)) rfl rfl rfl rfl (Nat.le_of_ble_eq_true rfl) dX3_run_57 rfl ?_
        refine ky_if_eq (n := 63) (tgt := 79) dX3_run_60 rfl rfl (fun c25 => ?_) (fun c25 => ?_)
        · have hf := ky_pos c25 hf
          refine ky_aload_n (n := 80) dX3_run_79 rfl rfl 0 rfl ?_
          refine ky_getf (q := (RX3, TX3, 4)) (v := ky_r G 3) (n := 83) dX3_run_80 rfl kc_0 rfl (Nat.le_of_ble_eq_true rfl) wg_X3_26 (vf_0_2 _ _) ?_
          obtain ⟨v28, s26, h27, hf⟩ := ky_bd_e hf
          refine ky_callV (kc := 1) (ks := 6) (kc2 := 0) (ks2 := 0) (k0 := 3) (as := []) (st := []) (KX2_wipe (d + 5) s22 _ _ h27) okX2_wipe wl_X3_181 kc_3 (q := (RX2, TX2, 6)) rfl rfl rfl rfl (Nat.le_of_ble_eq_true rfl) dX3_run_83 rfl ?_
          refine ky_iload_n (n := 87) dX3_run_86 rfl rfl 1 rfl ?_
          cases hf
          exact ky_ireturn dX3_run_87 rfl
        · have hf := ky_neg c25 hf
          refine ky_iincB (c := (1 : Int32)) (n := 66) dX3_run_63 rfl 1 rfl rfl (Nat.le_of_ble_eq_true rfl) (fun v29 ev29 => ?_)
          have hf := ky_bn_e hf v29 ev29
          refine ky_lv (lv' := [(1, .int v29), (0, ky_r G 0)]) rfl ?_
          refine ky_aload_n (n := 67) dX3_run_66 rfl rfl 1 rfl ?_
          refine ky_getf (q := (RX3, TX3, 4)) (v := ky_r G 3) (n := 70) dX3_run_67 rfl kc_0 rfl (Nat.le_of_ble_eq_true rfl) wg_X3_26 (vf_0_2 _ _) ?_
          refine ky_bipush (v := (59 : Int32)) (n := 72) dX3_run_70 rfl rfl ?_
          obtain ⟨v32, s30, h31, hf⟩ := ky_bd_e hf
          refine ky_callV (kc := 1) (ks := 6) (kc2 := 0) (ks2 := 0) (k0 := 3) (as := [.int (59 : Int32)]) (st := []) (KX2_readSign (d + 3) (59 : Int32) s22 _ _ h31) okX2_readSign wl_X3_202 kc_3 (q := (RX2, TX2, 6)) rfl rfl rfl rfl (Nat.le_of_ble_eq_true rfl) dX3_run_72 rfl ?_
          refine ky_pop (n := 76) dX3_run_75 rfl rfl ?_
          refine ky_goto (tgt := 40) dX3_run_76 rfl ?_
          refine ky_sub [1, 0] (lv' := [(0, ky_r G 0), (1, .int v29)]) rfl ?_
          exact ih v29 s30 _ _ hf
def fX3_run (σ : ky_St) : Option ((String ⊕ Int32) × ky_St) :=
  ky_bd (fX2_isRowOfOrders σ) fun v3 s1 =>
  if v3 = 0 then (
  some (.inl ky_ex1, s1)) else (
  ky_bd (fX1_keep s1) fun v7 s5 =>
  ky_bd (fX2_rewind s5) fun v10 s8 =>
  fX3_run_L40 FU (0 : Int32) s8)
set_option maxHeartbeats 4000000 in
set_option maxRecDepth 100000 in
theorem KX3_run {G : ky_G} (d : Nat) (σ : ky_St) (r : (String ⊕ Int32)) (σ' : ky_St) (hf : fX3_run σ = some (r, σ')) : ky_K G mX3_run (d + 6) 1 6 [ky_r G 0] σ (ky_oi r) σ' := by
  unfold fX3_run at hf
  refine ky_enter rfl (by decide +kernel) (Nat.le_of_ble_eq_true rfl) (lv := [(0, ky_r G 0)]) rfl ?_
  refine ky_aload_n (n := 1) dX3_run_0 rfl rfl 0 rfl ?_
  refine ky_getf (q := (RX3, TX3, 4)) (v := ky_r G 3) (n := 4) dX3_run_1 rfl kc_0 rfl (Nat.le_of_ble_eq_true rfl) wg_X3_26 (vf_0_2 _ _) ?_
  obtain ⟨v3, s1, h2, hf⟩ := ky_bd_e hf
  refine ky_callV (kc := 1) (ks := 6) (kc2 := 0) (ks2 := 0) (k0 := 3) (as := []) (st := []) (KX2_isRowOfOrders d σ _ _ h2) okX2_isRowOfOrders wl_X3_187 kc_3 (q := (RX2, TX2, 6)) rfl rfl rfl rfl (Nat.le_of_ble_eq_true rfl) dX3_run_4 rfl ?_
  refine ky_if_ne (n := 10) (tgt := 20) dX3_run_7 rfl rfl (fun c4 => ?_) (fun c4 => ?_)
  · have hf := ky_neg c4 hf
    refine ky_aload_n (n := 21) dX3_run_20 rfl rfl 0 rfl ?_
    refine ky_getf (q := (RX3, TX3, 4)) (v := ky_r G 2) (n := 24) dX3_run_21 rfl kc_0 rfl (Nat.le_of_ble_eq_true rfl) wg_X3_19 (vf_0_1 _ _) ?_
    refine ky_aload_n (n := 25) dX3_run_24 rfl rfl 0 rfl ?_
    refine ky_getf (q := (RX3, TX3, 4)) (v := ky_r G 20) (n := 28) dX3_run_25 rfl kc_0 rfl (Nat.le_of_ble_eq_true rfl) wg_X3_10 (vf_0_0 _ _) ?_
    obtain ⟨v7, s5, h6, hf⟩ := ky_bd_e hf
    refine ky_callV (kc := 1) (ks := 6) (kc2 := 0) (ks2 := 0) (k0 := 2) (as := [ky_r G 20]) (st := []) (KX1_keep (d + 2) s1 _ _ h6) okX1_keep wl_X3_50 kc_2 (q := (RX1, TX1, 3)) rfl rfl rfl rfl (Nat.le_of_ble_eq_true rfl) dX3_run_28 rfl ?_
    refine ky_iconst (v := (0 : Int32)) (n := 32) dX3_run_31 rfl rfl ?_
    refine ky_istore_n (lv' := [(1, .int (0 : Int32)), (0, ky_r G 0)]) (n := 33) dX3_run_32 rfl rfl (Nat.le_of_ble_eq_true rfl) rfl ?_
    refine ky_aload_n (n := 34) dX3_run_33 rfl rfl 1 rfl ?_
    refine ky_getf (q := (RX3, TX3, 4)) (v := ky_r G 3) (n := 37) dX3_run_34 rfl kc_0 rfl (Nat.le_of_ble_eq_true rfl) wg_X3_26 (vf_0_2 _ _) ?_
    obtain ⟨v10, s8, h9, hf⟩ := ky_bd_e hf
    refine ky_callV (kc := 1) (ks := 6) (kc2 := 0) (ks2 := 0) (k0 := 3) (as := []) (st := []) (KX2_rewind (d + 5) s5 _ _ h9) okX2_rewind wl_X3_193 kc_3 (q := (RX2, TX2, 6)) rfl rfl rfl rfl (Nat.le_of_ble_eq_true rfl) dX3_run_37 rfl ?_
    refine ky_sub [1, 0] (lv' := [(0, ky_r G 0), (1, .int (0 : Int32))]) rfl ?_
    exact tX3_run_L40 d FU (0 : Int32) s8 _ _ hf
  · have hf := ky_pos c4 hf
    cases hf
    exact ky_throw (text := "the buffer is not a complete row of orders") okX_ky_ex1 rfl wc_X3_34 (by decide +kernel) dX3_run_10 dX3_run_13 dX3_run_14 dX3_run_16 dX3_run_19 rfl (Nat.le_of_ble_eq_true rfl) (Nat.le_of_ble_eq_true rfl) (Nat.le_of_ble_eq_true rfl) (by omega)
def fX3_undo (σ : ky_St) : Option ((String ⊕ Int32) × ky_St) :=
  if (1 : Int32) ≤ (σ.1 2 1) then (
  ky_bd (fX1_giveBack σ) fun v4 s2 =>
  some (.inr (s2.1 2 1), s2)) else (
  some (.inl ky_ex2, σ))
set_option maxHeartbeats 4000000 in
set_option maxRecDepth 100000 in
theorem KX3_undo {G : ky_G} (d : Nat) (σ : ky_St) (r : (String ⊕ Int32)) (σ' : ky_St) (hf : fX3_undo σ = some (r, σ')) : ky_K G mX3_undo (d + 6) 1 6 [ky_r G 0] σ (ky_oi r) σ' := by
  unfold fX3_undo at hf
  refine ky_enter rfl (by decide +kernel) (Nat.le_of_ble_eq_true rfl) (lv := [(0, ky_r G 0)]) rfl ?_
  refine ky_aload_n (n := 1) dX3_undo_0 rfl rfl 0 rfl ?_
  refine ky_getf (q := (RX3, TX3, 4)) (v := ky_r G 2) (n := 4) dX3_undo_1 rfl kc_0 rfl (Nat.le_of_ble_eq_true rfl) wg_X3_19 (vf_0_1 _ _) ?_
  refine ky_getf (q := (RX1, TX1, 3)) (v := .int (σ.1 2 1)) (n := 7) dX3_undo_4 rfl kc_2 rfl (Nat.le_of_ble_eq_true rfl) wg_X3_205 (vf_2_1 _ _) ?_
  refine ky_iconst (v := (1 : Int32)) (n := 8) dX3_undo_7 rfl rfl ?_
  refine ky_icmp_ge (n := 11) (tgt := 21) dX3_undo_8 rfl rfl (fun c1 => ?_) (fun c1 => ?_)
  · have hf := ky_pos c1 hf
    refine ky_aload_n (n := 22) dX3_undo_21 rfl rfl 0 rfl ?_
    refine ky_getf (q := (RX3, TX3, 4)) (v := ky_r G 2) (n := 25) dX3_undo_22 rfl kc_0 rfl (Nat.le_of_ble_eq_true rfl) wg_X3_19 (vf_0_1 _ _) ?_
    refine ky_aload_n (n := 26) dX3_undo_25 rfl rfl 0 rfl ?_
    refine ky_getf (q := (RX3, TX3, 4)) (v := ky_r G 20) (n := 29) dX3_undo_26 rfl kc_0 rfl (Nat.le_of_ble_eq_true rfl) wg_X3_10 (vf_0_0 _ _) ?_
    obtain ⟨v4, s2, h3, hf⟩ := ky_bd_e hf
    refine ky_callV (kc := 1) (ks := 6) (kc2 := 0) (ks2 := 0) (k0 := 2) (as := [ky_r G 20]) (st := []) (KX1_giveBack (d + 2) σ _ _ h3) okX1_giveBack wl_X3_210 kc_2 (q := (RX1, TX1, 3)) rfl rfl rfl rfl (Nat.le_of_ble_eq_true rfl) dX3_undo_29 rfl ?_
    refine ky_aload_n (n := 33) dX3_undo_32 rfl rfl 0 rfl ?_
    refine ky_getf (q := (RX3, TX3, 4)) (v := ky_r G 2) (n := 36) dX3_undo_33 rfl kc_0 rfl (Nat.le_of_ble_eq_true rfl) wg_X3_19 (vf_0_1 _ _) ?_
    refine ky_getf (q := (RX1, TX1, 3)) (v := .int (s2.1 2 1)) (n := 39) dX3_undo_36 rfl kc_2 rfl (Nat.le_of_ble_eq_true rfl) wg_X3_205 (vf_2_1 _ _) ?_
    cases hf
    exact ky_ireturn dX3_undo_39 rfl
  · have hf := ky_neg c1 hf
    cases hf
    exact ky_throw (text := "there is no saved state") okX_ky_ex2 rfl wc_X3_45 (by decide +kernel) dX3_undo_11 dX3_undo_14 dX3_undo_15 dX3_undo_17 dX3_undo_20 rfl (Nat.le_of_ble_eq_true rfl) (Nat.le_of_ble_eq_true rfl) (Nat.le_of_ble_eq_true rfl) (by omega)
def fX3_isBundleWhat (a1 : Int32) (σ : ky_St) : Option (Int32 × ky_St) :=
  if a1 < 0 then (
  some ((0 : Int32), σ)) else (
  if (13 : Int32) < a1 then (
  some ((0 : Int32), σ)) else (
  if a1 = (9 : Int32) then (
  some ((0 : Int32), σ)) else (
  some ((1 : Int32), σ))))
set_option maxHeartbeats 4000000 in
set_option maxRecDepth 100000 in
theorem KX3_isBundleWhat {G : ky_G} (d : Nat) (a1 : Int32) (σ : ky_St) (r : Int32) (σ' : ky_St) (hf : fX3_isBundleWhat a1 σ = some (r, σ')) : ky_K G mX3_isBundleWhat d 0 0 [.int a1] σ (.inr (some (.int r))) σ' := by
  unfold fX3_isBundleWhat at hf
  refine ky_enter rfl (by decide +kernel) (Nat.le_of_ble_eq_true rfl) (lv := [(0, .int a1)]) rfl ?_
  refine ky_iload_n (n := 1) dX3_isBundleWhat_0 rfl rfl 0 rfl ?_
  refine ky_if_lt (n := 4) (tgt := 20) dX3_isBundleWhat_1 rfl rfl (fun c1 => ?_) (fun c1 => ?_)
  · have hf := ky_pos c1 hf
    refine ky_iconst (v := (0 : Int32)) (n := 21) dX3_isBundleWhat_20 rfl rfl ?_
    cases hf
    exact ky_zreturn dX3_isBundleWhat_21 rfl (Or.inl rfl)
  · have hf := ky_neg c1 hf
    refine ky_iload_n (n := 5) dX3_isBundleWhat_4 rfl rfl 0 rfl ?_
    refine ky_bipush (v := (13 : Int32)) (n := 7) dX3_isBundleWhat_5 rfl rfl ?_
    refine ky_icmp_gt (n := 10) (tgt := 20) dX3_isBundleWhat_7 rfl rfl (fun c2 => ?_) (fun c2 => ?_)
    · have hf := ky_pos c2 hf
      refine ky_iconst (v := (0 : Int32)) (n := 21) dX3_isBundleWhat_20 rfl rfl ?_
      cases hf
      exact ky_zreturn dX3_isBundleWhat_21 rfl (Or.inl rfl)
    · have hf := ky_neg c2 hf
      refine ky_iload_n (n := 11) dX3_isBundleWhat_10 rfl rfl 0 rfl ?_
      refine ky_bipush (v := (9 : Int32)) (n := 13) dX3_isBundleWhat_11 rfl rfl ?_
      refine ky_icmp_eq (n := 16) (tgt := 20) dX3_isBundleWhat_13 rfl rfl (fun c3 => ?_) (fun c3 => ?_)
      · have hf := ky_pos c3 hf
        refine ky_iconst (v := (0 : Int32)) (n := 21) dX3_isBundleWhat_20 rfl rfl ?_
        cases hf
        exact ky_zreturn dX3_isBundleWhat_21 rfl (Or.inl rfl)
      · have hf := ky_neg c3 hf
        refine ky_iconst (v := (1 : Int32)) (n := 17) dX3_isBundleWhat_16 rfl rfl ?_
        refine ky_goto (tgt := 21) dX3_isBundleWhat_17 rfl ?_
        cases hf
        exact ky_zreturn dX3_isBundleWhat_21 rfl (Or.inr rfl)
def fX3_bundle (a1 : Int32) (a2 : Int32) (σ : ky_St) : Option ((String ⊕ Int32) × ky_St) :=
  ky_bx (fX3_needSet a1 σ) fun v3 s1 =>
  ky_bd (fX3_isBundleWhat a2 s1) fun v7 s5 =>
  if v7 = 0 then (
  some (.inl ky_ex1, s5)) else (
  ky_bd (fX0_bundleValue a1 a2 s5) fun v11 s9 =>
  some (.inr v11, s9))
set_option maxHeartbeats 4000000 in
set_option maxRecDepth 100000 in
theorem KX3_bundle {G : ky_G} (d : Nat) (a1 : Int32) (a2 : Int32) (σ : ky_St) (r : (String ⊕ Int32)) (σ' : ky_St) (hf : fX3_bundle a1 a2 σ = some (r, σ')) : ky_K G mX3_bundle (d + 7) 2 12 [ky_r G 0, .int a1, .int a2] σ (ky_oi r) σ' := by
  unfold fX3_bundle at hf
  refine ky_enter rfl (by decide +kernel) (Nat.le_of_ble_eq_true rfl) (lv := [(0, ky_r G 0), (1, .int a1), (2, .int a2)]) rfl ?_
  refine ky_aload_n (n := 1) dX3_bundle_0 rfl rfl 0 rfl ?_
  refine ky_iload_n (n := 2) dX3_bundle_1 rfl rfl 1 rfl ?_
  rcases ky_bx_e hf with ⟨E4, h2, eE4⟩ | ⟨v3, s1, h2, hf⟩
  · subst eE4
    exact ky_callVX (kc := 1) (ks := 6) (kc2 := 1) (ks2 := 6) (k0 := 0) (as := [.int a1]) (st := []) (KX3_needSet d a1 σ _ _ h2) okX3_needSet wl_X3_74 kc_0 (q := (RX3, TX3, 4)) rfl rfl rfl rfl (Nat.le_of_ble_eq_true rfl) dX3_bundle_2 rfl
  · refine ky_callV (kc := 1) (ks := 6) (kc2 := 1) (ks2 := 6) (k0 := 0) (as := [.int a1]) (st := []) (KX3_needSet d a1 σ _ _ h2) okX3_needSet wl_X3_74 kc_0 (q := (RX3, TX3, 4)) rfl rfl rfl rfl (Nat.le_of_ble_eq_true rfl) dX3_bundle_2 rfl ?_
    refine ky_iload_n (n := 6) dX3_bundle_5 rfl rfl 2 rfl ?_
    obtain ⟨v7, s5, h6, hf⟩ := ky_bd_e hf
    refine ky_callS (kc := 1) (ks := 6) (kc2 := 0) (ks2 := 0) (as := [.int a2]) (st := []) (KX3_isBundleWhat (d + 6) a2 s1 _ _ h6) okX3_isBundleWhat wl_X3_213 rfl rfl (Nat.le_of_ble_eq_true rfl) dX3_bundle_6 rfl ?_
    refine ky_if_ne (n := 12) (tgt := 22) dX3_bundle_9 rfl rfl (fun c8 => ?_) (fun c8 => ?_)
    · have hf := ky_neg c8 hf
      refine ky_aload_n (n := 23) dX3_bundle_22 rfl rfl 0 rfl ?_
      refine ky_getf (q := (RX3, TX3, 4)) (v := ky_r G 20) (n := 26) dX3_bundle_23 rfl kc_0 rfl (Nat.le_of_ble_eq_true rfl) wg_X3_10 (vf_0_0 _ _) ?_
      refine ky_iload_n (n := 27) dX3_bundle_26 rfl rfl 1 rfl ?_
      refine ky_iload_n (n := 28) dX3_bundle_27 rfl rfl 2 rfl ?_
      obtain ⟨v11, s9, h10, hf⟩ := ky_bd_e hf
      refine ky_callV (kc := 1) (ks := 6) (kc2 := 0) (ks2 := 0) (k0 := 20) (as := [.int a1, .int a2]) (st := []) (KX0_bundleValue (d + 3) a1 a2 s5 _ _ h10) okX0_bundleValue wl_X3_218 kc_20 (q := (RX0, TX0, 17)) rfl rfl rfl rfl (Nat.le_of_ble_eq_true rfl) dX3_bundle_28 rfl ?_
      cases hf
      exact ky_ireturn dX3_bundle_31 rfl
    · have hf := ky_pos c8 hf
      cases hf
      exact ky_throw (text := "there is no such property of a set") okX_ky_ex1 rfl wc_X3_34 (by decide +kernel) dX3_bundle_12 dX3_bundle_15 dX3_bundle_16 dX3_bundle_18 dX3_bundle_21 rfl (Nat.le_of_ble_eq_true rfl) (Nat.le_of_ble_eq_true rfl) (Nat.le_of_ble_eq_true rfl) (by omega)
def fX3_site (a1 : Int32) (a2 : Int32) (σ : ky_St) : Option ((String ⊕ Int32) × ky_St) :=
  ky_bx (fX3_needSite a1 σ) fun v3 s1 =>
  if a2 < 0 then (
  some (.inl ky_ex1, s1)) else (
  if a2 ≤ (7 : Int32) then (
  ky_bd (fX0_siteValue a1 a2 s1) fun v9 s7 =>
  some (.inr v9, s7)) else (
  some (.inl ky_ex1, s1)))
set_option maxHeartbeats 4000000 in
set_option maxRecDepth 100000 in
theorem KX3_site {G : ky_G} (d : Nat) (a1 : Int32) (a2 : Int32) (σ : ky_St) (r : (String ⊕ Int32)) (σ' : ky_St) (hf : fX3_site a1 a2 σ = some (r, σ')) : ky_K G mX3_site (d + 7) 2 12 [ky_r G 0, .int a1, .int a2] σ (ky_oi r) σ' := by
  unfold fX3_site at hf
  refine ky_enter rfl (by decide +kernel) (Nat.le_of_ble_eq_true rfl) (lv := [(0, ky_r G 0), (1, .int a1), (2, .int a2)]) rfl ?_
  refine ky_iload_n (n := 1) dX3_site_0 rfl rfl 1 rfl ?_
  rcases ky_bx_e hf with ⟨E4, h2, eE4⟩ | ⟨v3, s1, h2, hf⟩
  · subst eE4
    exact ky_callSX (kc := 1) (ks := 6) (kc2 := 1) (ks2 := 6) (as := [.int a1]) (st := []) (KX3_needSite d a1 σ _ _ h2) okX3_needSite wl_X3_101 rfl rfl (Nat.le_of_ble_eq_true rfl) dX3_site_1 rfl
  · refine ky_callS (kc := 1) (ks := 6) (kc2 := 1) (ks2 := 6) (as := [.int a1]) (st := []) (KX3_needSite d a1 σ _ _ h2) okX3_needSite wl_X3_101 rfl rfl (Nat.le_of_ble_eq_true rfl) dX3_site_1 rfl ?_
    refine ky_iload_n (n := 5) dX3_site_4 rfl rfl 2 rfl ?_
    refine ky_if_lt (n := 8) (tgt := 14) dX3_site_5 rfl rfl (fun c5 => ?_) (fun c5 => ?_)
    · have hf := ky_pos c5 hf
      cases hf
      exact ky_throw (text := "there is no such property of a site") okX_ky_ex1 rfl wc_X3_34 (by decide +kernel) dX3_site_14 dX3_site_17 dX3_site_18 dX3_site_20 dX3_site_23 rfl (Nat.le_of_ble_eq_true rfl) (Nat.le_of_ble_eq_true rfl) (Nat.le_of_ble_eq_true rfl) (by omega)
    · have hf := ky_neg c5 hf
      refine ky_iload_n (n := 9) dX3_site_8 rfl rfl 2 rfl ?_
      refine ky_bipush (v := (7 : Int32)) (n := 11) dX3_site_9 rfl rfl ?_
      refine ky_icmp_le (n := 14) (tgt := 24) dX3_site_11 rfl rfl (fun c6 => ?_) (fun c6 => ?_)
      · have hf := ky_pos c6 hf
        refine ky_aload_n (n := 25) dX3_site_24 rfl rfl 0 rfl ?_
        refine ky_getf (q := (RX3, TX3, 4)) (v := ky_r G 20) (n := 28) dX3_site_25 rfl kc_0 rfl (Nat.le_of_ble_eq_true rfl) wg_X3_10 (vf_0_0 _ _) ?_
        refine ky_iload_n (n := 29) dX3_site_28 rfl rfl 1 rfl ?_
        refine ky_iload_n (n := 30) dX3_site_29 rfl rfl 2 rfl ?_
        obtain ⟨v9, s7, h8, hf⟩ := ky_bd_e hf
        refine ky_callV (kc := 1) (ks := 6) (kc2 := 0) (ks2 := 0) (k0 := 20) (as := [.int a1, .int a2]) (st := []) (KX0_siteValue (d + 2) a1 a2 s1 _ _ h8) okX0_siteValue wl_X3_223 kc_20 (q := (RX0, TX0, 17)) rfl rfl rfl rfl (Nat.le_of_ble_eq_true rfl) dX3_site_30 rfl ?_
        cases hf
        exact ky_ireturn dX3_site_33 rfl
      · have hf := ky_neg c6 hf
        cases hf
        exact ky_throw (text := "there is no such property of a site") okX_ky_ex1 rfl wc_X3_34 (by decide +kernel) dX3_site_14 dX3_site_17 dX3_site_18 dX3_site_20 dX3_site_23 rfl (Nat.le_of_ble_eq_true rfl) (Nat.le_of_ble_eq_true rfl) (Nat.le_of_ble_eq_true rfl) (by omega)
def fX3_parts (a1 : Int32) (a2 : Int32) (σ : ky_St) : Option ((String ⊕ Int32) × ky_St) :=
  ky_bx (fX3_needKind a1 σ) fun v3 s1 =>
  if a2 < 0 then (
  some (.inl ky_ex1, s1)) else (
  if a2 ≤ (4 : Int32) then (
  ky_bd (fX0_partsValue a1 a2 s1) fun v9 s7 =>
  some (.inr v9, s7)) else (
  some (.inl ky_ex1, s1)))
set_option maxHeartbeats 4000000 in
set_option maxRecDepth 100000 in
theorem KX3_parts {G : ky_G} (d : Nat) (a1 : Int32) (a2 : Int32) (σ : ky_St) (r : (String ⊕ Int32)) (σ' : ky_St) (hf : fX3_parts a1 a2 σ = some (r, σ')) : ky_K G mX3_parts (d + 7) 2 12 [ky_r G 0, .int a1, .int a2] σ (ky_oi r) σ' := by
  unfold fX3_parts at hf
  refine ky_enter rfl (by decide +kernel) (Nat.le_of_ble_eq_true rfl) (lv := [(0, ky_r G 0), (1, .int a1), (2, .int a2)]) rfl ?_
  refine ky_iload_n (n := 1) dX3_parts_0 rfl rfl 1 rfl ?_
  rcases ky_bx_e hf with ⟨E4, h2, eE4⟩ | ⟨v3, s1, h2, hf⟩
  · subst eE4
    exact ky_callSX (kc := 1) (ks := 6) (kc2 := 1) (ks2 := 6) (as := [.int a1]) (st := []) (KX3_needKind d a1 σ _ _ h2) okX3_needKind wl_X3_58 rfl rfl (Nat.le_of_ble_eq_true rfl) dX3_parts_1 rfl
  · refine ky_callS (kc := 1) (ks := 6) (kc2 := 1) (ks2 := 6) (as := [.int a1]) (st := []) (KX3_needKind d a1 σ _ _ h2) okX3_needKind wl_X3_58 rfl rfl (Nat.le_of_ble_eq_true rfl) dX3_parts_1 rfl ?_
    refine ky_iload_n (n := 5) dX3_parts_4 rfl rfl 2 rfl ?_
    refine ky_if_lt (n := 8) (tgt := 13) dX3_parts_5 rfl rfl (fun c5 => ?_) (fun c5 => ?_)
    · have hf := ky_pos c5 hf
      cases hf
      exact ky_throw (text := "there is no such number of parts") okX_ky_ex1 rfl wc_X3_34 (by decide +kernel) dX3_parts_13 dX3_parts_16 dX3_parts_17 dX3_parts_19 dX3_parts_22 rfl (Nat.le_of_ble_eq_true rfl) (Nat.le_of_ble_eq_true rfl) (Nat.le_of_ble_eq_true rfl) (by omega)
    · have hf := ky_neg c5 hf
      refine ky_iload_n (n := 9) dX3_parts_8 rfl rfl 2 rfl ?_
      refine ky_iconst (v := (4 : Int32)) (n := 10) dX3_parts_9 rfl rfl ?_
      refine ky_icmp_le (n := 13) (tgt := 23) dX3_parts_10 rfl rfl (fun c6 => ?_) (fun c6 => ?_)
      · have hf := ky_pos c6 hf
        refine ky_aload_n (n := 24) dX3_parts_23 rfl rfl 0 rfl ?_
        refine ky_getf (q := (RX3, TX3, 4)) (v := ky_r G 20) (n := 27) dX3_parts_24 rfl kc_0 rfl (Nat.le_of_ble_eq_true rfl) wg_X3_10 (vf_0_0 _ _) ?_
        refine ky_iload_n (n := 28) dX3_parts_27 rfl rfl 1 rfl ?_
        refine ky_iload_n (n := 29) dX3_parts_28 rfl rfl 2 rfl ?_
        obtain ⟨v9, s7, h8, hf⟩ := ky_bd_e hf
        refine ky_callV (kc := 1) (ks := 6) (kc2 := 0) (ks2 := 0) (k0 := 20) (as := [.int a1, .int a2]) (st := []) (KX0_partsValue (d + 3) a1 a2 s1 _ _ h8) okX0_partsValue wl_X3_228 kc_20 (q := (RX0, TX0, 17)) rfl rfl rfl rfl (Nat.le_of_ble_eq_true rfl) dX3_parts_29 rfl ?_
        cases hf
        exact ky_ireturn dX3_parts_32 rfl
      · have hf := ky_neg c6 hf
        cases hf
        exact ky_throw (text := "there is no such number of parts") okX_ky_ex1 rfl wc_X3_34 (by decide +kernel) dX3_parts_13 dX3_parts_16 dX3_parts_17 dX3_parts_19 dX3_parts_22 rfl (Nat.le_of_ble_eq_true rfl) (Nat.le_of_ble_eq_true rfl) (Nat.le_of_ble_eq_true rfl) (by omega)
def fX3_countValue (a1 : Int32) (σ : ky_St) : Option (Int32 × ky_St) :=
  if a1 = (9 : Int32) then (
  some ((σ.1 2 1), σ)) else (
  ky_bd (fX0_countValue a1 σ) fun v4 s2 =>
  some (v4, s2))
set_option maxHeartbeats 4000000 in
set_option maxRecDepth 100000 in
theorem KX3_countValue {G : ky_G} (d : Nat) (a1 : Int32) (σ : ky_St) (r : Int32) (σ' : ky_St) (hf : fX3_countValue a1 σ = some (r, σ')) : ky_K G mX3_countValue (d + 4) 0 0 [ky_r G 0, .int a1] σ (.inr (some (.int r))) σ' := by
  unfold fX3_countValue at hf
  refine ky_enter rfl (by decide +kernel) (Nat.le_of_ble_eq_true rfl) (lv := [(0, ky_r G 0), (1, .int a1)]) rfl ?_
  refine ky_iload_n (n := 1) dX3_countValue_0 rfl rfl 1 rfl ?_
  refine ky_bipush (v := (9 : Int32)) (n := 3) dX3_countValue_1 rfl rfl ?_
  refine ky_icmp_ne (n := 6) (tgt := 16) dX3_countValue_3 rfl rfl (fun c1 => ?_) (fun c1 => ?_)
  · have hf := ky_neg c1 hf
    refine ky_aload_n (n := 17) dX3_countValue_16 rfl rfl 0 rfl ?_
    refine ky_getf (q := (RX3, TX3, 4)) (v := ky_r G 20) (n := 20) dX3_countValue_17 rfl kc_0 rfl (Nat.le_of_ble_eq_true rfl) wg_X3_10 (vf_0_0 _ _) ?_
    refine ky_iload_n (n := 21) dX3_countValue_20 rfl rfl 1 rfl ?_
    obtain ⟨v4, s2, h3, hf⟩ := ky_bd_e hf
    refine ky_callV (kc := 0) (ks := 0) (kc2 := 0) (ks2 := 0) (k0 := 20) (as := [.int a1]) (st := []) (KX0_countValue d a1 σ _ _ h3) okX0_countValue wl_X3_337 kc_20 (q := (RX0, TX0, 17)) rfl rfl rfl rfl (Nat.le_of_ble_eq_true rfl) dX3_countValue_21 rfl ?_
    cases hf
    exact ky_ireturn dX3_countValue_24 rfl
  · have hf := ky_pos c1 hf
    refine ky_aload_n (n := 7) dX3_countValue_6 rfl rfl 0 rfl ?_
    refine ky_getf (q := (RX3, TX3, 4)) (v := ky_r G 2) (n := 10) dX3_countValue_7 rfl kc_0 rfl (Nat.le_of_ble_eq_true rfl) wg_X3_19 (vf_0_1 _ _) ?_
    refine ky_getf (q := (RX1, TX1, 3)) (v := .int (σ.1 2 1)) (n := 13) dX3_countValue_10 rfl kc_2 rfl (Nat.le_of_ble_eq_true rfl) wg_X3_205 (vf_2_1 _ _) ?_
    refine ky_goto (tgt := 24) dX3_countValue_13 rfl ?_
    cases hf
    exact ky_ireturn dX3_countValue_24 rfl
def fX3_count (a1 : Int32) (σ : ky_St) : Option ((String ⊕ Int32) × ky_St) :=
  if a1 < 0 then (
  some (.inl ky_ex1, σ)) else (
  if a1 ≤ (9 : Int32) then (
  ky_bd (fX3_countValue a1 σ) fun v5 s3 =>
  some (.inr v5, s3)) else (
  some (.inl ky_ex1, σ)))
set_option maxHeartbeats 4000000 in
set_option maxRecDepth 100000 in
theorem KX3_count {G : ky_G} (d : Nat) (a1 : Int32) (σ : ky_St) (r : (String ⊕ Int32)) (σ' : ky_St) (hf : fX3_count a1 σ = some (r, σ')) : ky_K G mX3_count (d + 6) 1 6 [ky_r G 0, .int a1] σ (ky_oi r) σ' := by
  unfold fX3_count at hf
  refine ky_enter rfl (by decide +kernel) (Nat.le_of_ble_eq_true rfl) (lv := [(0, ky_r G 0), (1, .int a1)]) rfl ?_
  refine ky_iload_n (n := 1) dX3_count_0 rfl rfl 1 rfl ?_
  refine ky_if_lt (n := 4) (tgt := 10) dX3_count_1 rfl rfl (fun c1 => ?_) (fun c1 => ?_)
  · have hf := ky_pos c1 hf
    cases hf
    exact ky_throw (text := "there is no such number") okX_ky_ex1 rfl wc_X3_34 (by decide +kernel) dX3_count_10 dX3_count_13 dX3_count_14 dX3_count_16 dX3_count_19 rfl (Nat.le_of_ble_eq_true rfl) (Nat.le_of_ble_eq_true rfl) (Nat.le_of_ble_eq_true rfl) (by omega)
  · have hf := ky_neg c1 hf
    refine ky_iload_n (n := 5) dX3_count_4 rfl rfl 1 rfl ?_
    refine ky_bipush (v := (9 : Int32)) (n := 7) dX3_count_5 rfl rfl ?_
    refine ky_icmp_le (n := 10) (tgt := 20) dX3_count_7 rfl rfl (fun c2 => ?_) (fun c2 => ?_)
    · have hf := ky_pos c2 hf
      refine ky_aload_n (n := 21) dX3_count_20 rfl rfl 0 rfl ?_
      refine ky_iload_n (n := 22) dX3_count_21 rfl rfl 1 rfl ?_
      obtain ⟨v5, s3, h4, hf⟩ := ky_bd_e hf
      refine ky_callV (kc := 1) (ks := 6) (kc2 := 0) (ks2 := 0) (k0 := 0) (as := [.int a1]) (st := []) (KX3_countValue (d + 1) a1 σ _ _ h4) okX3_countValue wl_X3_233 kc_0 (q := (RX3, TX3, 4)) rfl rfl rfl rfl (Nat.le_of_ble_eq_true rfl) dX3_count_22 rfl ?_
      cases hf
      exact ky_ireturn dX3_count_25 rfl
    · have hf := ky_neg c2 hf
      cases hf
      exact ky_throw (text := "there is no such number") okX_ky_ex1 rfl wc_X3_34 (by decide +kernel) dX3_count_10 dX3_count_13 dX3_count_14 dX3_count_16 dX3_count_19 rfl (Nat.le_of_ble_eq_true rfl) (Nat.le_of_ble_eq_true rfl) (Nat.le_of_ble_eq_true rfl) (by omega)
def fX3_setting (a1 : Int32) (σ : ky_St) : Option ((String ⊕ Int32) × ky_St) :=
  ky_bx (fX3_needSetting a1 σ) fun v3 s1 =>
  ky_bd (fX3_at 21 a1 s1) fun v7 s5 =>
  some (.inr v7, s5)
set_option maxHeartbeats 4000000 in
set_option maxRecDepth 100000 in
theorem KX3_setting {G : ky_G} (d : Nat) (a1 : Int32) (σ : ky_St) (r : (String ⊕ Int32)) (σ' : ky_St) (hf : fX3_setting a1 σ = some (r, σ')) : ky_K G mX3_setting (d + 7) 1 6 [ky_r G 0, .int a1] σ (ky_oi r) σ' := by
  unfold fX3_setting at hf
  refine ky_enter rfl (by decide +kernel) (Nat.le_of_ble_eq_true rfl) (lv := [(0, ky_r G 0), (1, .int a1)]) rfl ?_
  refine ky_iload_n (n := 1) dX3_setting_0 rfl rfl 1 rfl ?_
  rcases ky_bx_e hf with ⟨E4, h2, eE4⟩ | ⟨v3, s1, h2, hf⟩
  · subst eE4
    exact ky_callSX (kc := 0) (ks := 0) (kc2 := 1) (ks2 := 6) (as := [.int a1]) (st := []) (KX3_needSetting d a1 σ _ _ h2) okX3_needSetting wl_X3_157 rfl rfl (Nat.le_of_ble_eq_true rfl) dX3_setting_1 rfl
  · refine ky_callS (kc := 0) (ks := 0) (kc2 := 1) (ks2 := 6) (as := [.int a1]) (st := []) (KX3_needSetting d a1 σ _ _ h2) okX3_needSetting wl_X3_157 rfl rfl (Nat.le_of_ble_eq_true rfl) dX3_setting_1 rfl ?_
    refine ky_aload_n (n := 5) dX3_setting_4 rfl rfl 0 rfl ?_
    refine ky_getf (q := (RX3, TX3, 4)) (v := ky_r G 20) (n := 8) dX3_setting_5 rfl kc_0 rfl (Nat.le_of_ble_eq_true rfl) wg_X3_10 (vf_0_0 _ _) ?_
    refine ky_getf (q := (RX0, TX0, 17)) (v := ky_r G 21) (n := 11) dX3_setting_8 rfl kc_20 rfl (Nat.le_of_ble_eq_true rfl) wg_X3_165 (vf_20_5 _ _) ?_
    refine ky_iload_n (n := 12) dX3_setting_11 rfl rfl 1 rfl ?_
    obtain ⟨v7, s5, h6, hf⟩ := ky_bd_e hf
    refine ky_callS (kc := 0) (ks := 0) (kc2 := 0) (ks2 := 0) (as := [ky_r G 21, .int a1]) (st := []) (KX3_at (d + 6) 21 a1 s1 _ _ h6) okX3_at wl_X3_64 rfl rfl (Nat.le_of_ble_eq_true rfl) dX3_setting_12 rfl ?_
    cases hf
    exact ky_ireturn dX3_setting_15 rfl
def fX3_billIn (a1 : Int32) (a2 : Int32) (σ : ky_St) : Option ((String ⊕ Int32) × ky_St) :=
  ky_bx (fX3_needSet a1 σ) fun v3 s1 =>
  if a2 < 0 then (
  some (.inl ky_ex1, s1)) else (
  if a2 ≤ (200 : Int32) then (
  ky_bd (fX0_hireBill a1 a2 s1) fun v9 s7 =>
  some (.inr v9, s7)) else (
  some (.inl ky_ex1, s1)))
set_option maxHeartbeats 4000000 in
set_option maxRecDepth 100000 in
theorem KX3_billIn {G : ky_G} (d : Nat) (a1 : Int32) (a2 : Int32) (σ : ky_St) (r : (String ⊕ Int32)) (σ' : ky_St) (hf : fX3_billIn a1 a2 σ = some (r, σ')) : ky_K G mX3_billIn (d + 7) 2 12 [ky_r G 0, .int a1, .int a2] σ (ky_oi r) σ' := by
  unfold fX3_billIn at hf
  refine ky_enter rfl (by decide +kernel) (Nat.le_of_ble_eq_true rfl) (lv := [(0, ky_r G 0), (1, .int a1), (2, .int a2)]) rfl ?_
  refine ky_aload_n (n := 1) dX3_billIn_0 rfl rfl 0 rfl ?_
  refine ky_iload_n (n := 2) dX3_billIn_1 rfl rfl 1 rfl ?_
  rcases ky_bx_e hf with ⟨E4, h2, eE4⟩ | ⟨v3, s1, h2, hf⟩
  · subst eE4
    exact ky_callVX (kc := 1) (ks := 6) (kc2 := 1) (ks2 := 6) (k0 := 0) (as := [.int a1]) (st := []) (KX3_needSet d a1 σ _ _ h2) okX3_needSet wl_X3_74 kc_0 (q := (RX3, TX3, 4)) rfl rfl rfl rfl (Nat.le_of_ble_eq_true rfl) dX3_billIn_2 rfl
  · refine ky_callV (kc := 1) (ks := 6) (kc2 := 1) (ks2 := 6) (k0 := 0) (as := [.int a1]) (st := []) (KX3_needSet d a1 σ _ _ h2) okX3_needSet wl_X3_74 kc_0 (q := (RX3, TX3, 4)) rfl rfl rfl rfl (Nat.le_of_ble_eq_true rfl) dX3_billIn_2 rfl ?_
    refine ky_iload_n (n := 6) dX3_billIn_5 rfl rfl 2 rfl ?_
    refine ky_if_lt (n := 9) (tgt := 16) dX3_billIn_6 rfl rfl (fun c5 => ?_) (fun c5 => ?_)
    · have hf := ky_pos c5 hf
      cases hf
      exact ky_throw (text := "days is out of range") okX_ky_ex1 rfl wc_X3_34 (by decide +kernel) dX3_billIn_16 dX3_billIn_19 dX3_billIn_20 dX3_billIn_22 dX3_billIn_25 rfl (Nat.le_of_ble_eq_true rfl) (Nat.le_of_ble_eq_true rfl) (Nat.le_of_ble_eq_true rfl) (by omega)
    · have hf := ky_neg c5 hf
      refine ky_iload_n (n := 10) dX3_billIn_9 rfl rfl 2 rfl ?_
      refine ky_sipush (v := (200 : Int32)) (n := 13) dX3_billIn_10 rfl rfl ?_
      refine ky_icmp_le (n := 16) (tgt := 26) dX3_billIn_13 rfl rfl (fun c6 => ?_) (fun c6 => ?_)
      · have hf := ky_pos c6 hf
        refine ky_aload_n (n := 27) dX3_billIn_26 rfl rfl 0 rfl ?_
        refine ky_getf (q := (RX3, TX3, 4)) (v := ky_r G 20) (n := 30) dX3_billIn_27 rfl kc_0 rfl (Nat.le_of_ble_eq_true rfl) wg_X3_10 (vf_0_0 _ _) ?_
        refine ky_iload_n (n := 31) dX3_billIn_30 rfl rfl 1 rfl ?_
        refine ky_iload_n (n := 32) dX3_billIn_31 rfl rfl 2 rfl ?_
        obtain ⟨v9, s7, h8, hf⟩ := ky_bd_e hf
        refine ky_callV (kc := 1) (ks := 6) (kc2 := 0) (ks2 := 0) (k0 := 20) (as := [.int a1, .int a2]) (st := []) (KX0_hireBill (d + 5) a1 a2 s1 _ _ h8) okX0_hireBill wl_X3_236 kc_20 (q := (RX0, TX0, 17)) rfl rfl rfl rfl (Nat.le_of_ble_eq_true rfl) dX3_billIn_32 rfl ?_
        cases hf
        exact ky_ireturn dX3_billIn_35 rfl
      · have hf := ky_neg c6 hf
        cases hf
        exact ky_throw (text := "days is out of range") okX_ky_ex1 rfl wc_X3_34 (by decide +kernel) dX3_billIn_16 dX3_billIn_19 dX3_billIn_20 dX3_billIn_22 dX3_billIn_25 rfl (Nat.le_of_ble_eq_true rfl) (Nat.le_of_ble_eq_true rfl) (Nat.le_of_ble_eq_true rfl) (by omega)
def fX3_splitOn (a1 : Int32) (a2 : Int32) (a3 : Int32) (σ : ky_St) : Option ((String ⊕ Int32) × ky_St) :=
  ky_bx (fX3_needSet a1 σ) fun v3 s1 =>
  ky_bx (fX3_needSite a3 s1) fun v7 s5 =>
  if a2 < 0 then (
  some (.inl ky_ex1, s5)) else (
  if a2 ≤ (9999 : Int32) then (
  ky_bd (fX0_shareOf a1 a2 a3 s5) fun v13 s11 =>
  some (.inr v13, s11)) else (
  some (.inl ky_ex1, s5)))
set_option maxHeartbeats 4000000 in
set_option maxRecDepth 100000 in
theorem KX3_splitOn {G : ky_G} (d : Nat) (a1 : Int32) (a2 : Int32) (a3 : Int32) (σ : ky_St) (r : (String ⊕ Int32)) (σ' : ky_St) (hf : fX3_splitOn a1 a2 a3 σ = some (r, σ')) : ky_K G mX3_splitOn (d + 7) 3 18 [ky_r G 0, .int a1, .int a2, .int a3] σ (ky_oi r) σ' := by
  unfold fX3_splitOn at hf
  refine ky_enter rfl (by decide +kernel) (Nat.le_of_ble_eq_true rfl) (lv := [(0, ky_r G 0), (1, .int a1), (2, .int a2), (3, .int a3)]) rfl ?_
  refine ky_aload_n (n := 1) dX3_splitOn_0 rfl rfl 0 rfl ?_
  refine ky_iload_n (n := 2) dX3_splitOn_1 rfl rfl 1 rfl ?_
  rcases ky_bx_e hf with ⟨E4, h2, eE4⟩ | ⟨v3, s1, h2, hf⟩
  · subst eE4
    exact ky_callVX (kc := 2) (ks := 12) (kc2 := 1) (ks2 := 6) (k0 := 0) (as := [.int a1]) (st := []) (KX3_needSet d a1 σ _ _ h2) okX3_needSet wl_X3_74 kc_0 (q := (RX3, TX3, 4)) rfl rfl rfl rfl (Nat.le_of_ble_eq_true rfl) dX3_splitOn_2 rfl
  · refine ky_callV (kc := 2) (ks := 12) (kc2 := 1) (ks2 := 6) (k0 := 0) (as := [.int a1]) (st := []) (KX3_needSet d a1 σ _ _ h2) okX3_needSet wl_X3_74 kc_0 (q := (RX3, TX3, 4)) rfl rfl rfl rfl (Nat.le_of_ble_eq_true rfl) dX3_splitOn_2 rfl ?_
    refine ky_iload_n (n := 6) dX3_splitOn_5 rfl rfl 3 rfl ?_
    rcases ky_bx_e hf with ⟨E8, h6, eE8⟩ | ⟨v7, s5, h6, hf⟩
    · subst eE8
      exact ky_callSX (kc := 1) (ks := 6) (kc2 := 1) (ks2 := 6) (as := [.int a3]) (st := []) (KX3_needSite d a3 s1 _ _ h6) okX3_needSite wl_X3_101 rfl rfl (Nat.le_of_ble_eq_true rfl) dX3_splitOn_6 rfl
    · refine ky_callS (kc := 1) (ks := 6) (kc2 := 1) (ks2 := 6) (as := [.int a3]) (st := []) (KX3_needSite d a3 s1 _ _ h6) okX3_needSite wl_X3_101 rfl rfl (Nat.le_of_ble_eq_true rfl) dX3_splitOn_6 rfl ?_
      refine ky_iload_n (n := 10) dX3_splitOn_9 rfl rfl 2 rfl ?_
      refine ky_if_lt (n := 13) (tgt := 20) dX3_splitOn_10 rfl rfl (fun c9 => ?_) (fun c9 => ?_)
      · have hf := ky_pos c9 hf
        cases hf
        exact ky_throw (text := "cost is out of range") okX_ky_ex1 rfl wc_X3_34 (by decide +kernel) dX3_splitOn_20 dX3_splitOn_23 dX3_splitOn_24 dX3_splitOn_26 dX3_splitOn_29 rfl (Nat.le_of_ble_eq_true rfl) (Nat.le_of_ble_eq_true rfl) (Nat.le_of_ble_eq_true rfl) (by omega)
      · have hf := ky_neg c9 hf
        refine ky_iload_n (n := 14) dX3_splitOn_13 rfl rfl 2 rfl ?_
        refine ky_sipush (v := (9999 : Int32)) (n := 17) dX3_splitOn_14 rfl rfl ?_
        refine ky_icmp_le (n := 20) (tgt := 30) dX3_splitOn_17 rfl rfl (fun c10 => ?_) (fun c10 => ?_)
        · have hf := ky_pos c10 hf
          refine ky_aload_n (n := 31) dX3_splitOn_30 rfl rfl 0 rfl ?_
          refine ky_getf (q := (RX3, TX3, 4)) (v := ky_r G 20) (n := 34) dX3_splitOn_31 rfl kc_0 rfl (Nat.le_of_ble_eq_true rfl) wg_X3_10 (vf_0_0 _ _) ?_
          refine ky_iload_n (n := 35) dX3_splitOn_34 rfl rfl 1 rfl ?_
          refine ky_iload_n (n := 36) dX3_splitOn_35 rfl rfl 2 rfl ?_
          refine ky_iload_n (n := 37) dX3_splitOn_36 rfl rfl 3 rfl ?_
          obtain ⟨v13, s11, h12, hf⟩ := ky_bd_e hf
          refine ky_callV (kc := 1) (ks := 6) (kc2 := 0) (ks2 := 0) (k0 := 20) (as := [.int a1, .int a2, .int a3]) (st := []) (KX0_shareOf (d + 3) a1 a2 a3 s5 _ _ h12) okX0_shareOf wl_X3_241 kc_20 (q := (RX0, TX0, 17)) rfl rfl rfl rfl (Nat.le_of_ble_eq_true rfl) dX3_splitOn_37 rfl ?_
          cases hf
          exact ky_ireturn dX3_splitOn_40 rfl
        · have hf := ky_neg c10 hf
          cases hf
          exact ky_throw (text := "cost is out of range") okX_ky_ex1 rfl wc_X3_34 (by decide +kernel) dX3_splitOn_20 dX3_splitOn_23 dX3_splitOn_24 dX3_splitOn_26 dX3_splitOn_29 rfl (Nat.le_of_ble_eq_true rfl) (Nat.le_of_ble_eq_true rfl) (Nat.le_of_ble_eq_true rfl) (by omega)
def fX3_oldest (a1 : Int32) (σ : ky_St) : Option ((String ⊕ Int32) × ky_St) :=
  ky_bx (fX3_needSite a1 σ) fun v3 s1 =>
  ky_bd (fX0_firstDue a1 s1) fun v7 s5 =>
  some (.inr v7, s5)
set_option maxHeartbeats 4000000 in
set_option maxRecDepth 100000 in
theorem KX3_oldest {G : ky_G} (d : Nat) (a1 : Int32) (σ : ky_St) (r : (String ⊕ Int32)) (σ' : ky_St) (hf : fX3_oldest a1 σ = some (r, σ')) : ky_K G mX3_oldest (d + 7) 1 6 [ky_r G 0, .int a1] σ (ky_oi r) σ' := by
  unfold fX3_oldest at hf
  refine ky_enter rfl (by decide +kernel) (Nat.le_of_ble_eq_true rfl) (lv := [(0, ky_r G 0), (1, .int a1)]) rfl ?_
  refine ky_iload_n (n := 1) dX3_oldest_0 rfl rfl 1 rfl ?_
  rcases ky_bx_e hf with ⟨E4, h2, eE4⟩ | ⟨v3, s1, h2, hf⟩
  · subst eE4
    exact ky_callSX (kc := 0) (ks := 0) (kc2 := 1) (ks2 := 6) (as := [.int a1]) (st := []) (KX3_needSite d a1 σ _ _ h2) okX3_needSite wl_X3_101 rfl rfl (Nat.le_of_ble_eq_true rfl) dX3_oldest_1 rfl
  · refine ky_callS (kc := 0) (ks := 0) (kc2 := 1) (ks2 := 6) (as := [.int a1]) (st := []) (KX3_needSite d a1 σ _ _ h2) okX3_needSite wl_X3_101 rfl rfl (Nat.le_of_ble_eq_true rfl) dX3_oldest_1 rfl ?_
    refine ky_aload_n (n := 5) dX3_oldest_4 rfl rfl 0 rfl ?_
    refine ky_getf (q := (RX3, TX3, 4)) (v := ky_r G 20) (n := 8) dX3_oldest_5 rfl kc_0 rfl (Nat.le_of_ble_eq_true rfl) wg_X3_10 (vf_0_0 _ _) ?_
    refine ky_iload_n (n := 9) dX3_oldest_8 rfl rfl 1 rfl ?_
    obtain ⟨v7, s5, h6, hf⟩ := ky_bd_e hf
    refine ky_callV (kc := 0) (ks := 0) (kc2 := 0) (ks2 := 0) (k0 := 20) (as := [.int a1]) (st := []) (KX0_firstDue (d + 3) a1 s1 _ _ h6) okX0_firstDue wl_X3_244 kc_20 (q := (RX0, TX0, 17)) rfl rfl rfl rfl (Nat.le_of_ble_eq_true rfl) dX3_oldest_9 rfl ?_
    cases hf
    exact ky_ireturn dX3_oldest_12 rfl
def fX3_wouldBeWhole_L4 : Nat → Int32 → Int32 → Int32 → ky_St → Option (Int32 × ky_St)
  | 0, _, _, _, _ => none
  | fu + 1, x1, x2, x3, σ =>
  if (4 : Int32) ≤ x3 then (
  ky_g (x2 = 0 ∨ x2 = 1) (some (x2, σ))) else (
  ky_bd (fX0_lackOf x1 x3 σ) fun v4 s2 =>
  ky_bd (fX3_at 4 x3 s2) fun v7 s5 =>
  ky_bn (if v7 < v4 then v7 else v4) fun v8 =>
  ky_bd (fX3_add 4 x3 (-v8) s5) fun v11 s9 =>
  if x2 = 0 then (
  ky_bn (x3 + (1 : Int32)) fun v13 =>
  fX3_wouldBeWhole_L4 fu x1 (0 : Int32) v13 s9) else (
  if v8 = v4 then (
  ky_bn (x3 + (1 : Int32)) fun v16 =>
  fX3_wouldBeWhole_L4 fu x1 (1 : Int32) v16 s9) else (
  ky_bn (x3 + (1 : Int32)) fun v15 =>
  fX3_wouldBeWhole_L4 fu x1 (0 : Int32) v15 s9)))
set_option maxHeartbeats 4000000 in
set_option maxRecDepth 100000 in
theorem tX3_wouldBeWhole_L4 {G : ky_G} (d : Nat) : ∀ (fu : Nat) (x1 : Int32) (x2 : Int32) (x3 : Int32) (σ : ky_St) (r : Int32) (σ' : ky_St), fX3_wouldBeWhole_L4 fu x1 x2 x3 σ = some (r, σ') → ky_T G mX3_wouldBeWhole (d + 2) 0 0 4 [(0, ky_r G 0), (1, .int x1), (2, .int x2), (3, .int x3)] [] σ (.inr (some (.int r))) σ' := by
  intro fu
  induction fu with
  | zero =>
    intro x1 x2 x3 σ r σ' hf
    rw [fX3_wouldBeWhole_L4] at hf
    cases hf
  | succ fu ih =>
    intro x1 x2 x3 σ r σ' hf
    rw [fX3_wouldBeWhole_L4] at hf
    refine ky_iload_n (n := 5) dX3_wouldBeWhole_4 rfl rfl 3 rfl ?_
    refine ky_iconst (v := (4 : Int32)) (n := 6) dX3_wouldBeWhole_5 rfl rfl ?_
    refine ky_icmp_ge (n := 9) (tgt := 69) dX3_wouldBeWhole_6 rfl rfl (fun c1 => ?_) (fun c1 => ?_)
    · have hf := ky_pos c1 hf
      refine ky_iload_n (n := 70) dX3_wouldBeWhole_69 rfl rfl 2 rfl ?_
      obtain ⟨gz, hf⟩ := ky_ge hf
      cases hf
      exact ky_zreturn dX3_wouldBeWhole_70 rfl gz
    · have hf := ky_neg c1 hf
      refine ky_aload_n (n := 10) dX3_wouldBeWhole_9 rfl rfl 0 rfl ?_
      refine ky_getf (q := (RX3, TX3, 4)) (v := ky_r G 20) (n := 13) dX3_wouldBeWhole_10 rfl kc_0 rfl (Nat.le_of_ble_eq_true rfl) wg_X3_10 (vf_0_0 _ _) ?_
      refine ky_iload_n (n := 14) dX3_wouldBeWhole_13 rfl rfl 1 rfl ?_
      refine ky_iload_n (n := 15) dX3_wouldBeWhole_14 rfl rfl 3 rfl ?_
      obtain ⟨v4, s2, h3, hf⟩ := ky_bd_e hf
      refine ky_callV (kc := 0) (ks := 0) (kc2 := 0) (ks2 := 0) (k0 := 20) (as := [.int x1, .int x3]) (st := []) (KX0_lackOf d x1 x3 σ _ _ h3) okX0_lackOf wl_X3_338 kc_20 (q := (RX0, TX0, 17)) rfl rfl rfl rfl (Nat.le_of_ble_eq_true rfl) dX3_wouldBeWhole_15 rfl ?_
      refine ky_istore (lv' := [(4, .int v4), (0, ky_r G 0), (1, .int x1), (2, .int x2), (3, .int x3)]) (n := 20) dX3_wouldBeWhole_18 rfl (Nat.le_of_ble_eq_true rfl) rfl ?_
      refine ky_iload (n := 22) dX3_wouldBeWhole_20 rfl 0 rfl ?_
      refine ky_aload_n (n := 23) dX3_wouldBeWhole_22 rfl rfl 1 rfl ?_
      refine ky_getf (q := (RX3, TX3, 4)) (v := ky_r G 4) (n := 26) dX3_wouldBeWhole_23 rfl kc_0 rfl (Nat.le_of_ble_eq_true rfl) wg_X3_30 (vf_0_3 _ _) ?_
      refine ky_iload_n (n := 27) dX3_wouldBeWhole_26 rfl rfl 4 rfl ?_
      obtain ⟨v7, s5, h6, hf⟩ := ky_bd_e hf
      refine ky_callS (kc := 0) (ks := 0) (kc2 := 0) (ks2 := 0) (as := [ky_r G 4, .int x3]) (st := [.int v4]) (KX3_at (d + 1) 4 x3 s2 _ _ h6) okX3_at wl_X3_64 rfl rfl (Nat.le_of_ble_eq_true rfl) dX3_wouldBeWhole_27 rfl ?_
      refine ky_min (n := 33) dX3_wouldBeWhole_30 rfl wl_X3_341 wlib_min_s wlib_Math wlib_min_c (by omega) (Nat.le_of_ble_eq_true rfl) ?_
      refine ky_topi (fun v8 ev8 => ?_)
      have hf := ky_bn_e hf v8 ev8
      refine ky_istore (lv' := [(5, .int v8), (4, .int v4), (0, ky_r G 0), (1, .int x1), (2, .int x2), (3, .int x3)]) (n := 35) dX3_wouldBeWhole_33 rfl (Nat.le_of_ble_eq_true rfl) rfl ?_
      refine ky_aload_n (n := 36) dX3_wouldBeWhole_35 rfl rfl 2 rfl ?_
      refine ky_getf (q := (RX3, TX3, 4)) (v := ky_r G 4) (n := 39) dX3_wouldBeWhole_36 rfl kc_0 rfl (Nat.le_of_ble_eq_true rfl) wg_X3_30 (vf_0_3 _ _) ?_
      refine ky_iload_n (n := 40) dX3_wouldBeWhole_39 rfl rfl 5 rfl ?_
      refine ky_iload (n := 42) dX3_wouldBeWhole_40 rfl 0 rfl ?_
      refine ky_ineg (n := 43) dX3_wouldBeWhole_42 rfl ?_
      obtain ⟨v11, s9, h10, hf⟩ := ky_bd_e hf
      refine ky_callS (kc := 0) (ks := 0) (kc2 := 0) (ks2 := 0) (as := [ky_r G 4, .int x3, .int (-v8)]) (st := []) (KX3_add d 4 x3 (-v8) s5 _ _ h10) okX3_add wl_X3_142 rfl rfl (Nat.le_of_ble_eq_true rfl) dX3_wouldBeWhole_43 rfl ?_
      refine ky_iload_n (n := 47) dX3_wouldBeWhole_46 rfl rfl 4 rfl ?_
      refine ky_if_eq (n := 50) (tgt := 61) dX3_wouldBeWhole_47 rfl rfl (fun c12 => ?_) (fun c12 => ?_)
      · have hf := ky_pos c12 hf
        refine ky_iconst (v := (0 : Int32)) (n := 62) dX3_wouldBeWhole_61 rfl rfl ?_
        refine ky_istore_n (lv' := [(2, .int (0 : Int32)), (5, .int v8), (4, .int v4), (0, ky_r G 0), (1, .int x1), (3, .int x3)]) (n := 63) dX3_wouldBeWhole_62 rfl rfl (Nat.le_of_ble_eq_true rfl) rfl ?_
        refine ky_iincB (c := (1 : Int32)) (n := 66) dX3_wouldBeWhole_63 rfl 5 rfl rfl (Nat.le_of_ble_eq_true rfl) (fun v13 ev13 => ?_)
        have hf := ky_bn_e hf v13 ev13
        refine ky_lv (lv' := [(3, .int v13), (2, .int (0 : Int32)), (5, .int v8), (4, .int v4), (0, ky_r G 0), (1, .int x1)]) rfl ?_
        refine ky_goto (tgt := 4) dX3_wouldBeWhole_66 rfl ?_
        refine ky_sub [4, 5, 1, 0] (lv' := [(0, ky_r G 0), (1, .int x1), (2, .int (0 : Int32)), (3, .int v13)]) rfl ?_
        exact ih x1 (0 : Int32) v13 s9 _ _ hf
      · have hf := ky_neg c12 hf
        refine ky_iload (n := 52) dX3_wouldBeWhole_50 rfl 0 rfl ?_
        refine ky_iload (n := 54) dX3_wouldBeWhole_52 rfl 1 rfl ?_
        refine ky_icmp_ne (n := 57) (tgt := 61) dX3_wouldBeWhole_54 rfl rfl (fun c14 => ?_) (fun c14 => ?_)
        · have hf := ky_neg c14 hf
          refine ky_iconst (v := (0 : Int32)) (n := 62) dX3_wouldBeWhole_61 rfl rfl ?_
          refine ky_istore_n (lv' := [(2, .int (0 : Int32)), (5, .int v8), (4, .int v4), (0, ky_r G 0), (1, .int x1), (3, .int x3)]) (n := 63) dX3_wouldBeWhole_62 rfl rfl (Nat.le_of_ble_eq_true rfl) rfl ?_
          refine ky_iincB (c := (1 : Int32)) (n := 66) dX3_wouldBeWhole_63 rfl 5 rfl rfl (Nat.le_of_ble_eq_true rfl) (fun v15 ev15 => ?_)
          have hf := ky_bn_e hf v15 ev15
          refine ky_lv (lv' := [(3, .int v15), (2, .int (0 : Int32)), (5, .int v8), (4, .int v4), (0, ky_r G 0), (1, .int x1)]) rfl ?_
          refine ky_goto (tgt := 4) dX3_wouldBeWhole_66 rfl ?_
          refine ky_sub [4, 5, 1, 0] (lv' := [(0, ky_r G 0), (1, .int x1), (2, .int (0 : Int32)), (3, .int v15)]) rfl ?_
          exact ih x1 (0 : Int32) v15 s9 _ _ hf
        · have hf := ky_pos c14 hf
          refine ky_iconst (v := (1 : Int32)) (n := 58) dX3_wouldBeWhole_57 rfl rfl ?_
          refine ky_goto (tgt := 62) dX3_wouldBeWhole_58 rfl ?_
          refine ky_istore_n (lv' := [(2, .int (1 : Int32)), (5, .int v8), (4, .int v4), (0, ky_r G 0), (1, .int x1), (3, .int x3)]) (n := 63) dX3_wouldBeWhole_62 rfl rfl (Nat.le_of_ble_eq_true rfl) rfl ?_
          refine ky_iincB (c := (1 : Int32)) (n := 66) dX3_wouldBeWhole_63 rfl 5 rfl rfl (Nat.le_of_ble_eq_true rfl) (fun v16 ev16 => ?_)
          have hf := ky_bn_e hf v16 ev16
          refine ky_lv (lv' := [(3, .int v16), (2, .int (1 : Int32)), (5, .int v8), (4, .int v4), (0, ky_r G 0), (1, .int x1)]) rfl ?_
          refine ky_goto (tgt := 4) dX3_wouldBeWhole_66 rfl ?_
          refine ky_sub [4, 5, 1, 0] (lv' := [(0, ky_r G 0), (1, .int x1), (2, .int (1 : Int32)), (3, .int v16)]) rfl ?_
          exact ih x1 (1 : Int32) v16 s9 _ _ hf
def fX3_wouldBeWhole (a1 : Int32) (σ : ky_St) : Option (Int32 × ky_St) :=
  fX3_wouldBeWhole_L4 FU a1 (1 : Int32) (0 : Int32) σ
set_option maxHeartbeats 4000000 in
set_option maxRecDepth 100000 in
theorem KX3_wouldBeWhole {G : ky_G} (d : Nat) (a1 : Int32) (σ : ky_St) (r : Int32) (σ' : ky_St) (hf : fX3_wouldBeWhole a1 σ = some (r, σ')) : ky_K G mX3_wouldBeWhole (d + 2) 0 0 [ky_r G 0, .int a1] σ (.inr (some (.int r))) σ' := by
  unfold fX3_wouldBeWhole at hf
  refine ky_enter rfl (by decide +kernel) (Nat.le_of_ble_eq_true rfl) (lv := [(0, ky_r G 0), (1, .int a1)]) rfl ?_
  refine ky_iconst (v := (1 : Int32)) (n := 1) dX3_wouldBeWhole_0 rfl rfl ?_
  refine ky_istore_n (lv' := [(2, .int (1 : Int32)), (0, ky_r G 0), (1, .int a1)]) (n := 2) dX3_wouldBeWhole_1 rfl rfl (Nat.le_of_ble_eq_true rfl) rfl ?_
  refine ky_iconst (v := (0 : Int32)) (n := 3) dX3_wouldBeWhole_2 rfl rfl ?_
  refine ky_istore_n (lv' := [(3, .int (0 : Int32)), (2, .int (1 : Int32)), (0, ky_r G 0), (1, .int a1)]) (n := 4) dX3_wouldBeWhole_3 rfl rfl (Nat.le_of_ble_eq_true rfl) rfl ?_
  refine ky_sub [2, 3, 1, 0] (lv' := [(0, ky_r G 0), (1, .int a1), (2, .int (1 : Int32)), (3, .int (0 : Int32))]) rfl ?_
  exact tX3_wouldBeWhole_L4 d FU a1 (1 : Int32) (0 : Int32) σ _ _ hf
def fX3_ifRepaired_L18 : Nat → Int32 → Int32 → ky_St → Option (Int32 × ky_St)
  | 0, _, _, _ => none
  | fu + 1, x1, x2, σ =>
  if (σ.1 20 0) ≤ x2 then (
  some (x1, σ)) else (
  ky_bd (fX0_isInYard x2 σ) fun v7 s5 =>
  if v7 = 0 then (
  ky_bn (x2 + (1 : Int32)) fun v9 =>
  fX3_ifRepaired_L18 fu x1 v9 s5) else (
  ky_bd (fX3_wouldBeWhole x2 s5) fun v12 s10 =>
  if v12 = 0 then (
  ky_bn (x2 + (1 : Int32)) fun v14 =>
  fX3_ifRepaired_L18 fu x1 v14 s10) else (
  ky_bn (x1 + (1 : Int32)) fun v15 =>
  ky_bn (x2 + (1 : Int32)) fun v16 =>
  fX3_ifRepaired_L18 fu v15 v16 s10)))
set_option maxHeartbeats 4000000 in
set_option maxRecDepth 100000 in
theorem tX3_ifRepaired_L18 {G : ky_G} (d : Nat) : ∀ (fu : Nat) (x1 : Int32) (x2 : Int32) (σ : ky_St) (r : Int32) (σ' : ky_St), fX3_ifRepaired_L18 fu x1 x2 σ = some (r, σ') → ky_T G mX3_ifRepaired (d + 3) 0 0 18 [(0, ky_r G 0), (1, .int x1), (2, .int x2)] [] σ (.inr (some (.int r))) σ' := by
  intro fu
  induction fu with
  | zero =>
    intro x1 x2 σ r σ' hf
    rw [fX3_ifRepaired_L18] at hf
    cases hf
  | succ fu ih =>
    intro x1 x2 σ r σ' hf
    rw [fX3_ifRepaired_L18] at hf
    refine ky_iload_n (n := 19) dX3_ifRepaired_18 rfl rfl 2 rfl ?_
    refine ky_aload_n (n := 20) dX3_ifRepaired_19 rfl rfl 0 rfl ?_
    refine ky_getf (q := (RX3, TX3, 4)) (v := ky_r G 20) (n := 23) dX3_ifRepaired_20 rfl kc_0 rfl (Nat.le_of_ble_eq_true rfl) wg_X3_10 (vf_0_0 _ _) ?_
    refine ky_getf (q := (RX0, TX0, 17)) (v := .int (σ.1 20 0)) (n := 26) dX3_ifRepaired_23 rfl kc_20 rfl (Nat.le_of_ble_eq_true rfl) wg_X3_41 (vf_20_0 _ _) ?_
    refine ky_icmp_ge (n := 29) (tgt := 57) dX3_ifRepaired_26 rfl rfl (fun c4 => ?_) (fun c4 => ?_)
    · have hf := ky_pos c4 hf
      refine ky_iload_n (n := 58) dX3_ifRepaired_57 rfl rfl 1 rfl ?_
      cases hf
      exact ky_ireturn dX3_ifRepaired_58 rfl
    · have hf := ky_neg c4 hf
      refine ky_aload_n (n := 30) dX3_ifRepaired_29 rfl rfl 0 rfl ?_
      refine ky_getf (q := (RX3, TX3, 4)) (v := ky_r G 20) (n := 33) dX3_ifRepaired_30 rfl kc_0 rfl (Nat.le_of_ble_eq_true rfl) wg_X3_10 (vf_0_0 _ _) ?_
      refine ky_iload_n (n := 34) dX3_ifRepaired_33 rfl rfl 2 rfl ?_
      obtain ⟨v7, s5, h6, hf⟩ := ky_bd_e hf
      refine ky_callV (kc := 0) (ks := 0) (kc2 := 0) (ks2 := 0) (k0 := 20) (as := [.int x2]) (st := []) (KX0_isInYard (d + 1) x2 σ _ _ h6) okX0_isInYard wl_X3_251 kc_20 (q := (RX0, TX0, 17)) rfl rfl rfl rfl (Nat.le_of_ble_eq_true rfl) dX3_ifRepaired_34 rfl ?_
      refine ky_if_eq (n := 40) (tgt := 51) dX3_ifRepaired_37 rfl rfl (fun c8 => ?_) (fun c8 => ?_)
      · have hf := ky_pos c8 hf
        refine ky_iincB (c := (1 : Int32)) (n := 54) dX3_ifRepaired_51 rfl 2 rfl rfl (Nat.le_of_ble_eq_true rfl) (fun v9 ev9 => ?_)
        have hf := ky_bn_e hf v9 ev9
        refine ky_lv (lv' := [(2, .int v9), (0, ky_r G 0), (1, .int x1)]) rfl ?_
        refine ky_goto (tgt := 18) dX3_ifRepaired_54 rfl ?_
        refine ky_sub [1, 2, 0] (lv' := [(0, ky_r G 0), (1, .int x1), (2, .int v9)]) rfl ?_
        exact ih x1 v9 s5 _ _ hf
      · have hf := ky_neg c8 hf
        refine ky_aload_n (n := 41) dX3_ifRepaired_40 rfl rfl 0 rfl ?_
        refine ky_iload_n (n := 42) dX3_ifRepaired_41 rfl rfl 2 rfl ?_
        obtain ⟨v12, s10, h11, hf⟩ := ky_bd_e hf
        refine ky_callV (kc := 0) (ks := 0) (kc2 := 0) (ks2 := 0) (k0 := 0) (as := [.int x2]) (st := []) (KX3_wouldBeWhole d x2 s5 _ _ h11) okX3_wouldBeWhole wl_X3_254 kc_0 (q := (RX3, TX3, 4)) rfl rfl rfl rfl (Nat.le_of_ble_eq_true rfl) dX3_ifRepaired_42 rfl ?_
        refine ky_if_eq (n := 48) (tgt := 51) dX3_ifRepaired_45 rfl rfl (fun c13 => ?_) (fun c13 => ?_)
        · have hf := ky_pos c13 hf
          refine ky_iincB (c := (1 : Int32)) (n := 54) dX3_ifRepaired_51 rfl 2 rfl rfl (Nat.le_of_ble_eq_true rfl) (fun v14 ev14 => ?_)
          have hf := ky_bn_e hf v14 ev14
          refine ky_lv (lv' := [(2, .int v14), (0, ky_r G 0), (1, .int x1)]) rfl ?_
          refine ky_goto (tgt := 18) dX3_ifRepaired_54 rfl ?_
          refine ky_sub [1, 2, 0] (lv' := [(0, ky_r G 0), (1, .int x1), (2, .int v14)]) rfl ?_
          exact ih x1 v14 s10 _ _ hf
        · have hf := ky_neg c13 hf
          refine ky_iincB (c := (1 : Int32)) (n := 51) dX3_ifRepaired_48 rfl 1 rfl rfl (Nat.le_of_ble_eq_true rfl) (fun v15 ev15 => ?_)
          have hf := ky_bn_e hf v15 ev15
          refine ky_lv (lv' := [(1, .int v15), (0, ky_r G 0), (2, .int x2)]) rfl ?_
          refine ky_iincB (c := (1 : Int32)) (n := 54) dX3_ifRepaired_51 rfl 2 rfl rfl (Nat.le_of_ble_eq_true rfl) (fun v16 ev16 => ?_)
          have hf := ky_bn_e hf v16 ev16
          refine ky_lv (lv' := [(2, .int v16), (1, .int v15), (0, ky_r G 0)]) rfl ?_
          refine ky_goto (tgt := 18) dX3_ifRepaired_54 rfl ?_
          refine ky_sub [2, 1, 0] (lv' := [(0, ky_r G 0), (1, .int v15), (2, .int v16)]) rfl ?_
          exact ih v15 v16 s10 _ _ hf
def fX3_ifRepaired (σ : ky_St) : Option (Int32 × ky_St) :=
  ky_bd (fX3_copy 27 4 σ) fun v3 s1 =>
  fX3_ifRepaired_L18 FU (0 : Int32) (0 : Int32) s1
set_option maxHeartbeats 4000000 in
set_option maxRecDepth 100000 in
theorem KX3_ifRepaired {G : ky_G} (d : Nat) (σ : ky_St) (r : Int32) (σ' : ky_St) (hf : fX3_ifRepaired σ = some (r, σ')) : ky_K G mX3_ifRepaired (d + 3) 0 0 [ky_r G 0] σ (.inr (some (.int r))) σ' := by
  unfold fX3_ifRepaired at hf
  refine ky_enter rfl (by decide +kernel) (Nat.le_of_ble_eq_true rfl) (lv := [(0, ky_r G 0)]) rfl ?_
  refine ky_aload_n (n := 1) dX3_ifRepaired_0 rfl rfl 0 rfl ?_
  refine ky_getf (q := (RX3, TX3, 4)) (v := ky_r G 20) (n := 4) dX3_ifRepaired_1 rfl kc_0 rfl (Nat.le_of_ble_eq_true rfl) wg_X3_10 (vf_0_0 _ _) ?_
  refine ky_getf (q := (RX0, TX0, 17)) (v := ky_r G 27) (n := 7) dX3_ifRepaired_4 rfl kc_20 rfl (Nat.le_of_ble_eq_true rfl) wg_X3_61 (vf_20_11 _ _) ?_
  refine ky_aload_n (n := 8) dX3_ifRepaired_7 rfl rfl 0 rfl ?_
  refine ky_getf (q := (RX3, TX3, 4)) (v := ky_r G 4) (n := 11) dX3_ifRepaired_8 rfl kc_0 rfl (Nat.le_of_ble_eq_true rfl) wg_X3_30 (vf_0_3 _ _) ?_
  obtain ⟨v3, s1, h2, hf⟩ := ky_bd_e hf
  refine ky_callS (kc := 0) (ks := 0) (kc2 := 0) (ks2 := 0) (as := [ky_r G 27, ky_r G 4]) (st := []) (KX3_copy (d + 1) 27 4 σ _ _ h2) okX3_copy wl_X3_247 rfl rfl (Nat.le_of_ble_eq_true rfl) dX3_ifRepaired_11 rfl ?_
  refine ky_iconst (v := (0 : Int32)) (n := 15) dX3_ifRepaired_14 rfl rfl ?_
  refine ky_istore_n (lv' := [(1, .int (0 : Int32)), (0, ky_r G 0)]) (n := 16) dX3_ifRepaired_15 rfl rfl (Nat.le_of_ble_eq_true rfl) rfl ?_
  refine ky_iconst (v := (0 : Int32)) (n := 17) dX3_ifRepaired_16 rfl rfl ?_
  refine ky_istore_n (lv' := [(2, .int (0 : Int32)), (1, .int (0 : Int32)), (0, ky_r G 0)]) (n := 18) dX3_ifRepaired_17 rfl rfl (Nat.le_of_ble_eq_true rfl) rfl ?_
  refine ky_sub [2, 1, 0] (lv' := [(0, ky_r G 0), (1, .int (0 : Int32)), (2, .int (0 : Int32))]) rfl ?_
  exact tX3_ifRepaired_L18 d FU (0 : Int32) (0 : Int32) s1 _ _ hf
def fX3_hiredShare (σ : ky_St) : Option (UInt64 × ky_St) :=
  ky_bn (σ.1 20 0) fun v1 =>
  if (1 : Int32) ≤ v1 then (
  ky_bd (fX0_inYard σ) fun v5 s3 =>
  ky_g ((FP.ddiv (FP.i2d (v1 - v5)) (FP.i2d v1)) &&& 0x7fffffffffffffff ≤ 0x7ff0000000000000) (
  some ((FP.ddiv (FP.i2d (v1 - v5)) (FP.i2d v1)), s3))) else (
  some (FP.dconst0, σ))
set_option maxHeartbeats 4000000 in
set_option maxRecDepth 100000 in
theorem KX3_hiredShare {G : ky_G} (d : Nat) (σ : ky_St) (r : UInt64) (σ' : ky_St) (hf : fX3_hiredShare σ = some (r, σ')) : ky_K G mX3_hiredShare (d + 3) 0 0 [ky_r G 0] σ (.inr (some (.double r))) σ' := by
  unfold fX3_hiredShare at hf
  refine ky_enter rfl (by decide +kernel) (Nat.le_of_ble_eq_true rfl) (lv := [(0, ky_r G 0)]) rfl ?_
  refine ky_aload_n (n := 1) dX3_hiredShare_0 rfl rfl 0 rfl ?_
  refine ky_getf (q := (RX3, TX3, 4)) (v := ky_r G 20) (n := 4) dX3_hiredShare_1 rfl kc_0 rfl (Nat.le_of_ble_eq_true rfl) wg_X3_10 (vf_0_0 _ _) ?_
  refine ky_getf (q := (RX0, TX0, 17)) (v := .int (σ.1 20 0)) (n := 7) dX3_hiredShare_4 rfl kc_20 rfl (Nat.le_of_ble_eq_true rfl) wg_X3_41 (vf_20_0 _ _) ?_
  refine ky_topi (fun v1 ev1 => ?_)
  have hf := ky_bn_e hf v1 ev1
  refine ky_istore_n (lv' := [(1, .int v1), (0, ky_r G 0)]) (n := 8) dX3_hiredShare_7 rfl rfl (Nat.le_of_ble_eq_true rfl) rfl ?_
  refine ky_iload_n (n := 9) dX3_hiredShare_8 rfl rfl 0 rfl ?_
  refine ky_iconst (v := (1 : Int32)) (n := 10) dX3_hiredShare_9 rfl rfl ?_
  refine ky_icmp_ge (n := 13) (tgt := 15) dX3_hiredShare_10 rfl rfl (fun c2 => ?_) (fun c2 => ?_)
  · have hf := ky_pos c2 hf
    refine ky_iload_n (n := 16) dX3_hiredShare_15 rfl rfl 0 rfl ?_
    refine ky_aload_n (n := 17) dX3_hiredShare_16 rfl rfl 1 rfl ?_
    refine ky_getf (q := (RX3, TX3, 4)) (v := ky_r G 20) (n := 20) dX3_hiredShare_17 rfl kc_0 rfl (Nat.le_of_ble_eq_true rfl) wg_X3_10 (vf_0_0 _ _) ?_
    obtain ⟨v5, s3, h4, hf⟩ := ky_bd_e hf
    refine ky_callV (kc := 0) (ks := 0) (kc2 := 0) (ks2 := 0) (k0 := 20) (as := []) (st := [.int v1]) (KX0_inYard d σ _ _ h4) okX0_inYard wl_X3_257 kc_20 (q := (RX0, TX0, 17)) rfl rfl rfl rfl (Nat.le_of_ble_eq_true rfl) dX3_hiredShare_20 rfl ?_
    refine ky_isub (n := 24) dX3_hiredShare_23 rfl ?_
    refine ky_i2d (n := 25) dX3_hiredShare_24 rfl ?_
    refine ky_iload_n (n := 26) dX3_hiredShare_25 rfl rfl 0 rfl ?_
    refine ky_i2d (n := 27) dX3_hiredShare_26 rfl ?_
    obtain ⟨g6, hf⟩ := ky_ge hf
    refine ky_ddiv (n := 28) dX3_hiredShare_27 rfl g6 ?_
    cases hf
    exact ky_dreturn dX3_hiredShare_28 rfl
  · have hf := ky_neg c2 hf
    refine ky_dconst0 (n := 14) dX3_hiredShare_13 rfl ?_
    cases hf
    exact ky_dreturn dX3_hiredShare_14 rfl
def fX3_mix (a1 : Int64) (a2 : Int64) (σ : ky_St) : Option (Int64 × ky_St) :=
  some ((((31 : Int64) * a1) + a2), σ)
set_option maxHeartbeats 4000000 in
set_option maxRecDepth 100000 in
theorem KX3_mix {G : ky_G} (d : Nat) (a1 : Int64) (a2 : Int64) (σ : ky_St) (r : Int64) (σ' : ky_St) (hf : fX3_mix a1 a2 σ = some (r, σ')) : ky_K G mX3_mix d 0 0 [.long a1, .long a2] σ (.inr (some (.long r))) σ' := by
  unfold fX3_mix at hf
  refine ky_enter rfl (by decide +kernel) (Nat.le_of_ble_eq_true rfl) (lv := [(0, .long a1), (2, .long a2)]) rfl ?_
  refine ky_ldc2 (v := (31 : Int64)) (n := 3) dX3_mix_0 rfl wk_X3_346 ?_
  refine ky_lload_n (n := 4) dX3_mix_3 rfl rfl 0 rfl ?_
  refine ky_lmul (n := 5) dX3_mix_4 rfl ?_
  refine ky_lload_n (n := 6) dX3_mix_5 rfl rfl 1 rfl ?_
  refine ky_ladd (n := 7) dX3_mix_6 rfl ?_
  cases hf
  exact ky_lreturn dX3_mix_7 rfl
def fX3_mixSet_L66 : Nat → Int32 → Int64 → Int32 → ky_St → Option (Int64 × ky_St)
  | 0, _, _, _, _ => none
  | fu + 1, x3, x4, x6, σ =>
  if (6 : Int32) ≤ x6 then (
  some (x4, σ)) else (
  ky_bd (fX0_shareOf x3 (100 : Int32) x6 σ) fun v11 s9 =>
  ky_bd (fX3_mix x4 v11.toInt64 s9) fun v14 s12 =>
  ky_bn (x6 + (1 : Int32)) fun v15 =>
  fX3_mixSet_L66 fu x3 v14 v15 s12)
set_option maxHeartbeats 4000000 in
set_option maxRecDepth 100000 in
theorem tX3_mixSet_L66 {G : ky_G} (d : Nat) : ∀ (fu : Nat) (x3 : Int32) (x4 : Int64) (x6 : Int32) (σ : ky_St) (r : Int64) (σ' : ky_St), fX3_mixSet_L66 fu x3 x4 x6 σ = some (r, σ') → ky_T G mX3_mixSet (d + 4) 0 0 66 [(0, ky_r G 0), (3, .int x3), (4, .long x4), (6, .int x6)] [] σ (.inr (some (.long r))) σ' := by
  intro fu
  induction fu with
  | zero =>
    intro x3 x4 x6 σ r σ' hf
    rw [fX3_mixSet_L66] at hf
    cases hf
  | succ fu ih =>
    intro x3 x4 x6 σ r σ' hf
    rw [fX3_mixSet_L66] at hf
    refine ky_iload (n := 68) dX3_mixSet_66 rfl 3 rfl ?_
    refine ky_bipush (v := (6 : Int32)) (n := 70) dX3_mixSet_68 rfl rfl ?_
    refine ky_icmp_ge (n := 73) (tgt := 99) dX3_mixSet_70 rfl rfl (fun c8 => ?_) (fun c8 => ?_)
    · have hf := ky_pos c8 hf
      refine ky_lload (n := 101) dX3_mixSet_99 rfl 2 rfl ?_
      cases hf
      exact ky_lreturn dX3_mixSet_101 rfl
    · have hf := ky_neg c8 hf
      refine ky_lload (n := 75) dX3_mixSet_73 rfl 2 rfl ?_
      refine ky_aload_n (n := 76) dX3_mixSet_75 rfl rfl 0 rfl ?_
      refine ky_getf (q := (RX3, TX3, 4)) (v := ky_r G 20) (n := 79) dX3_mixSet_76 rfl kc_0 rfl (Nat.le_of_ble_eq_true rfl) wg_X3_10 (vf_0_0 _ _) ?_
      refine ky_iload_n (n := 80) dX3_mixSet_79 rfl rfl 1 rfl ?_
      refine ky_bipush (v := (100 : Int32)) (n := 82) dX3_mixSet_80 rfl rfl ?_
      refine ky_iload (n := 84) dX3_mixSet_82 rfl 3 rfl ?_
      obtain ⟨v11, s9, h10, hf⟩ := ky_bd_e hf
      refine ky_callV (kc := 0) (ks := 0) (kc2 := 0) (ks2 := 0) (k0 := 20) (as := [.int x3, .int (100 : Int32), .int x6]) (st := [.long x4]) (KX0_shareOf d x3 (100 : Int32) x6 σ _ _ h10) okX0_shareOf wl_X3_241 kc_20 (q := (RX0, TX0, 17)) rfl rfl rfl rfl (Nat.le_of_ble_eq_true rfl) dX3_mixSet_84 rfl ?_
      refine ky_i2l (n := 88) dX3_mixSet_87 rfl ?_
      obtain ⟨v14, s12, h13, hf⟩ := ky_bd_e hf
      refine ky_callS (kc := 0) (ks := 0) (kc2 := 0) (ks2 := 0) (as := [.long x4, .long v11.toInt64]) (st := []) (KX3_mix (d + 3) x4 v11.toInt64 s9 _ _ h13) okX3_mix wl_X3_262 rfl rfl (Nat.le_of_ble_eq_true rfl) dX3_mixSet_88 rfl ?_
      refine ky_lstore (lv' := [(4, .long v14), (0, ky_r G 0), (3, .int x3), (6, .int x6)]) (n := 93) dX3_mixSet_91 rfl (Nat.le_of_ble_eq_true rfl) rfl ?_
      refine ky_iincB (c := (1 : Int32)) (n := 96) dX3_mixSet_93 rfl 3 rfl rfl (Nat.le_of_ble_eq_true rfl) (fun v15 ev15 => ?_)
      have hf := ky_bn_e hf v15 ev15
      refine ky_lv (lv' := [(6, .int v15), (4, .long v14), (0, ky_r G 0), (3, .int x3)]) rfl ?_
      refine ky_goto (tgt := 66) dX3_mixSet_96 rfl ?_
      refine ky_sub [2, 3, 1, 0] (lv' := [(0, ky_r G 0), (3, .int x3), (4, .long v14), (6, .int v15)]) rfl ?_
      exact ih x3 v14 v15 s12 _ _ hf
def fX3_mixSet_L6 : Nat → Int32 → Int64 → Int32 → ky_St → Option (Int64 × ky_St)
  | 0, _, _, _, _ => none
  | fu + 1, x3, x4, x6, σ =>
  if (13 : Int32) < x6 then (
  ky_bd (fX0_hireBill x3 (30 : Int32) σ) fun v4 s2 =>
  ky_bd (fX3_mix x4 v4.toInt64 s2) fun v7 s5 =>
  fX3_mixSet_L66 FU x3 v7 (0 : Int32) s5) else (
  ky_bd (fX3_isBundleWhat x6 σ) fun v18 s16 =>
  if v18 = 0 then (
  ky_bn (x6 + (1 : Int32)) fun v20 =>
  fX3_mixSet_L6 fu x3 x4 v20 s16) else (
  ky_bd (fX0_bundleValue x3 x6 s16) fun v23 s21 =>
  ky_bd (fX3_mix x4 v23.toInt64 s21) fun v26 s24 =>
  ky_bn (x6 + (1 : Int32)) fun v27 =>
  fX3_mixSet_L6 fu x3 v26 v27 s24))
set_option maxHeartbeats 4000000 in
set_option maxRecDepth 100000 in
theorem tX3_mixSet_L6 {G : ky_G} (d : Nat) : ∀ (fu : Nat) (x3 : Int32) (x4 : Int64) (x6 : Int32) (σ : ky_St) (r : Int64) (σ' : ky_St), fX3_mixSet_L6 fu x3 x4 x6 σ = some (r, σ') → ky_T G mX3_mixSet (d + 4) 0 0 6 [(0, ky_r G 0), (3, .int x3), (4, .long x4), (6, .int x6)] [] σ (.inr (some (.long r))) σ' := by
  intro fu
  induction fu with
  | zero =>
    intro x3 x4 x6 σ r σ' hf
    rw [fX3_mixSet_L6] at hf
    cases hf
  | succ fu ih =>
    intro x3 x4 x6 σ r σ' hf
    rw [fX3_mixSet_L6] at hf
    refine ky_iload (n := 8) dX3_mixSet_6 rfl 3 rfl ?_
    refine ky_bipush (v := (13 : Int32)) (n := 10) dX3_mixSet_8 rfl rfl ?_
    refine ky_icmp_gt (n := 13) (tgt := 45) dX3_mixSet_10 rfl rfl (fun c1 => ?_) (fun c1 => ?_)
    · have hf := ky_pos c1 hf
      refine ky_lload (n := 47) dX3_mixSet_45 rfl 2 rfl ?_
      refine ky_aload_n (n := 48) dX3_mixSet_47 rfl rfl 0 rfl ?_
      refine ky_getf (q := (RX3, TX3, 4)) (v := ky_r G 20) (n := 51) dX3_mixSet_48 rfl kc_0 rfl (Nat.le_of_ble_eq_true rfl) wg_X3_10 (vf_0_0 _ _) ?_
      refine ky_iload_n (n := 52) dX3_mixSet_51 rfl rfl 1 rfl ?_
      refine ky_bipush (v := (30 : Int32)) (n := 54) dX3_mixSet_52 rfl rfl ?_
      obtain ⟨v4, s2, h3, hf⟩ := ky_bd_e hf
      refine ky_callV (kc := 0) (ks := 0) (kc2 := 0) (ks2 := 0) (k0 := 20) (as := [.int x3, .int (30 : Int32)]) (st := [.long x4]) (KX0_hireBill (d + 2) x3 (30 : Int32) σ _ _ h3) okX0_hireBill wl_X3_236 kc_20 (q := (RX0, TX0, 17)) rfl rfl rfl rfl (Nat.le_of_ble_eq_true rfl) dX3_mixSet_54 rfl ?_
      refine ky_i2l (n := 58) dX3_mixSet_57 rfl ?_
      obtain ⟨v7, s5, h6, hf⟩ := ky_bd_e hf
      refine ky_callS (kc := 0) (ks := 0) (kc2 := 0) (ks2 := 0) (as := [.long x4, .long v4.toInt64]) (st := []) (KX3_mix (d + 3) x4 v4.toInt64 s2 _ _ h6) okX3_mix wl_X3_262 rfl rfl (Nat.le_of_ble_eq_true rfl) dX3_mixSet_58 rfl ?_
      refine ky_lstore (lv' := [(4, .long v7), (0, ky_r G 0), (3, .int x3), (6, .int x6)]) (n := 63) dX3_mixSet_61 rfl (Nat.le_of_ble_eq_true rfl) rfl ?_
      refine ky_iconst (v := (0 : Int32)) (n := 64) dX3_mixSet_63 rfl rfl ?_
      refine ky_istore (lv' := [(6, .int (0 : Int32)), (4, .long v7), (0, ky_r G 0), (3, .int x3)]) (n := 66) dX3_mixSet_64 rfl (Nat.le_of_ble_eq_true rfl) rfl ?_
      refine ky_sub [2, 3, 1, 0] (lv' := [(0, ky_r G 0), (3, .int x3), (4, .long v7), (6, .int (0 : Int32))]) rfl ?_
      exact tX3_mixSet_L66 d FU x3 v7 (0 : Int32) s5 _ _ hf
    · have hf := ky_neg c1 hf
      refine ky_iload (n := 15) dX3_mixSet_13 rfl 3 rfl ?_
      obtain ⟨v18, s16, h17, hf⟩ := ky_bd_e hf
      refine ky_callS (kc := 0) (ks := 0) (kc2 := 0) (ks2 := 0) (as := [.int x6]) (st := []) (KX3_isBundleWhat (d + 3) x6 σ _ _ h17) okX3_isBundleWhat wl_X3_213 rfl rfl (Nat.le_of_ble_eq_true rfl) dX3_mixSet_15 rfl ?_
      refine ky_if_eq (n := 21) (tgt := 39) dX3_mixSet_18 rfl rfl (fun c19 => ?_) (fun c19 => ?_)
      · have hf := ky_pos c19 hf
        refine ky_iincB (c := (1 : Int32)) (n := 42) dX3_mixSet_39 rfl 3 rfl rfl (Nat.le_of_ble_eq_true rfl) (fun v20 ev20 => ?_)
        have hf := ky_bn_e hf v20 ev20
        refine ky_lv (lv' := [(6, .int v20), (0, ky_r G 0), (3, .int x3), (4, .long x4)]) rfl ?_
        refine ky_goto (tgt := 6) dX3_mixSet_42 rfl ?_
        refine ky_sub [1, 2, 3, 0] (lv' := [(0, ky_r G 0), (3, .int x3), (4, .long x4), (6, .int v20)]) rfl ?_
        exact ih x3 x4 v20 s16 _ _ hf
      · have hf := ky_neg c19 hf
        refine ky_lload (n := 23) dX3_mixSet_21 rfl 2 rfl ?_
        refine ky_aload_n (n := 24) dX3_mixSet_23 rfl rfl 0 rfl ?_
        refine ky_getf (q := (RX3, TX3, 4)) (v := ky_r G 20) (n := 27) dX3_mixSet_24 rfl kc_0 rfl (Nat.le_of_ble_eq_true rfl) wg_X3_10 (vf_0_0 _ _) ?_
        refine ky_iload_n (n := 28) dX3_mixSet_27 rfl rfl 1 rfl ?_
        refine ky_iload (n := 30) dX3_mixSet_28 rfl 3 rfl ?_
        obtain ⟨v23, s21, h22, hf⟩ := ky_bd_e hf
        refine ky_callV (kc := 0) (ks := 0) (kc2 := 0) (ks2 := 0) (k0 := 20) (as := [.int x3, .int x6]) (st := [.long x4]) (KX0_bundleValue d x3 x6 s16 _ _ h22) okX0_bundleValue wl_X3_218 kc_20 (q := (RX0, TX0, 17)) rfl rfl rfl rfl (Nat.le_of_ble_eq_true rfl) dX3_mixSet_30 rfl ?_
        refine ky_i2l (n := 34) dX3_mixSet_33 rfl ?_
        obtain ⟨v26, s24, h25, hf⟩ := ky_bd_e hf
        refine ky_callS (kc := 0) (ks := 0) (kc2 := 0) (ks2 := 0) (as := [.long x4, .long v23.toInt64]) (st := []) (KX3_mix (d + 3) x4 v23.toInt64 s21 _ _ h25) okX3_mix wl_X3_262 rfl rfl (Nat.le_of_ble_eq_true rfl) dX3_mixSet_34 rfl ?_
        refine ky_lstore (lv' := [(4, .long v26), (0, ky_r G 0), (3, .int x3), (6, .int x6)]) (n := 39) dX3_mixSet_37 rfl (Nat.le_of_ble_eq_true rfl) rfl ?_
        refine ky_iincB (c := (1 : Int32)) (n := 42) dX3_mixSet_39 rfl 3 rfl rfl (Nat.le_of_ble_eq_true rfl) (fun v27 ev27 => ?_)
        have hf := ky_bn_e hf v27 ev27
        refine ky_lv (lv' := [(6, .int v27), (4, .long v26), (0, ky_r G 0), (3, .int x3)]) rfl ?_
        refine ky_goto (tgt := 6) dX3_mixSet_42 rfl ?_
        refine ky_sub [2, 3, 1, 0] (lv' := [(0, ky_r G 0), (3, .int x3), (4, .long v26), (6, .int v27)]) rfl ?_
        exact ih x3 v26 v27 s24 _ _ hf
def fX3_mixSet (a1 : Int64) (a2 : Int32) (σ : ky_St) : Option (Int64 × ky_St) :=
  fX3_mixSet_L6 FU a2 a1 (0 : Int32) σ
set_option maxHeartbeats 4000000 in
set_option maxRecDepth 100000 in
theorem KX3_mixSet {G : ky_G} (d : Nat) (a1 : Int64) (a2 : Int32) (σ : ky_St) (r : Int64) (σ' : ky_St) (hf : fX3_mixSet a1 a2 σ = some (r, σ')) : ky_K G mX3_mixSet (d + 4) 0 0 [ky_r G 0, .long a1, .int a2] σ (.inr (some (.long r))) σ' := by
  unfold fX3_mixSet at hf
  refine ky_enter rfl (by decide +kernel) (Nat.le_of_ble_eq_true rfl) (lv := [(0, ky_r G 0), (1, .long a1), (3, .int a2)]) rfl ?_
  refine ky_lload_n (n := 1) dX3_mixSet_0 rfl rfl 1 rfl ?_
  refine ky_lstore (lv' := [(4, .long a1), (0, ky_r G 0), (1, .long a1), (3, .int a2)]) (n := 3) dX3_mixSet_1 rfl (Nat.le_of_ble_eq_true rfl) rfl ?_
  refine ky_iconst (v := (0 : Int32)) (n := 4) dX3_mixSet_3 rfl rfl ?_
  refine ky_istore (lv' := [(6, .int (0 : Int32)), (4, .long a1), (0, ky_r G 0), (1, .long a1), (3, .int a2)]) (n := 6) dX3_mixSet_4 rfl (Nat.le_of_ble_eq_true rfl) rfl ?_
  refine ky_sub [2, 4, 1, 0] (lv' := [(0, ky_r G 0), (3, .int a2), (4, .long a1), (6, .int (0 : Int32))]) rfl ?_
  exact tX3_mixSet_L6 d FU a2 a1 (0 : Int32) σ _ _ hf
def fX3_mixSite_L6 : Nat → Int32 → Int64 → Int32 → ky_St → Option (Int64 × ky_St)
  | 0, _, _, _, _ => none
  | fu + 1, x3, x4, x6, σ =>
  if (7 : Int32) < x6 then (
  ky_bd (fX0_firstDue x3 σ) fun v4 s2 =>
  ky_bd (fX3_mix x4 v4.toInt64 s2) fun v7 s5 =>
  some (v7, s5)) else (
  ky_bd (fX0_siteValue x3 x6 σ) fun v10 s8 =>
  ky_bd (fX3_mix x4 v10.toInt64 s8) fun v13 s11 =>
  ky_bn (x6 + (1 : Int32)) fun v14 =>
  fX3_mixSite_L6 fu x3 v13 v14 s11)
set_option maxHeartbeats 4000000 in
set_option maxRecDepth 100000 in
theorem tX3_mixSite_L6 {G : ky_G} (d : Nat) : ∀ (fu : Nat) (x3 : Int32) (x4 : Int64) (x6 : Int32) (σ : ky_St) (r : Int64) (σ' : ky_St), fX3_mixSite_L6 fu x3 x4 x6 σ = some (r, σ') → ky_T G mX3_mixSite (d + 5) 0 0 6 [(0, ky_r G 0), (3, .int x3), (4, .long x4), (6, .int x6)] [] σ (.inr (some (.long r))) σ' := by
  intro fu
  induction fu with
  | zero =>
    intro x3 x4 x6 σ r σ' hf
    rw [fX3_mixSite_L6] at hf
    cases hf
  | succ fu ih =>
    intro x3 x4 x6 σ r σ' hf
    rw [fX3_mixSite_L6] at hf
    refine ky_iload (n := 8) dX3_mixSite_6 rfl 3 rfl ?_
    refine ky_bipush (v := (7 : Int32)) (n := 10) dX3_mixSite_8 rfl rfl ?_
    refine ky_icmp_gt (n := 13) (tgt := 37) dX3_mixSite_10 rfl rfl (fun c1 => ?_) (fun c1 => ?_)
    · have hf := ky_pos c1 hf
      refine ky_lload (n := 39) dX3_mixSite_37 rfl 2 rfl ?_
      refine ky_aload_n (n := 40) dX3_mixSite_39 rfl rfl 0 rfl ?_
      refine ky_getf (q := (RX3, TX3, 4)) (v := ky_r G 20) (n := 43) dX3_mixSite_40 rfl kc_0 rfl (Nat.le_of_ble_eq_true rfl) wg_X3_10 (vf_0_0 _ _) ?_
      refine ky_iload_n (n := 44) dX3_mixSite_43 rfl rfl 1 rfl ?_
      obtain ⟨v4, s2, h3, hf⟩ := ky_bd_e hf
      refine ky_callV (kc := 0) (ks := 0) (kc2 := 0) (ks2 := 0) (k0 := 20) (as := [.int x3]) (st := [.long x4]) (KX0_firstDue (d + 1) x3 σ _ _ h3) okX0_firstDue wl_X3_244 kc_20 (q := (RX0, TX0, 17)) rfl rfl rfl rfl (Nat.le_of_ble_eq_true rfl) dX3_mixSite_44 rfl ?_
      refine ky_i2l (n := 48) dX3_mixSite_47 rfl ?_
      obtain ⟨v7, s5, h6, hf⟩ := ky_bd_e hf
      refine ky_callS (kc := 0) (ks := 0) (kc2 := 0) (ks2 := 0) (as := [.long x4, .long v4.toInt64]) (st := []) (KX3_mix (d + 4) x4 v4.toInt64 s2 _ _ h6) okX3_mix wl_X3_262 rfl rfl (Nat.le_of_ble_eq_true rfl) dX3_mixSite_48 rfl ?_
      cases hf
      exact ky_lreturn dX3_mixSite_51 rfl
    · have hf := ky_neg c1 hf
      refine ky_lload (n := 15) dX3_mixSite_13 rfl 2 rfl ?_
      refine ky_aload_n (n := 16) dX3_mixSite_15 rfl rfl 0 rfl ?_
      refine ky_getf (q := (RX3, TX3, 4)) (v := ky_r G 20) (n := 19) dX3_mixSite_16 rfl kc_0 rfl (Nat.le_of_ble_eq_true rfl) wg_X3_10 (vf_0_0 _ _) ?_
      refine ky_iload_n (n := 20) dX3_mixSite_19 rfl rfl 1 rfl ?_
      refine ky_iload (n := 22) dX3_mixSite_20 rfl 3 rfl ?_
      obtain ⟨v10, s8, h9, hf⟩ := ky_bd_e hf
      refine ky_callV (kc := 0) (ks := 0) (kc2 := 0) (ks2 := 0) (k0 := 20) (as := [.int x3, .int x6]) (st := [.long x4]) (KX0_siteValue d x3 x6 σ _ _ h9) okX0_siteValue wl_X3_223 kc_20 (q := (RX0, TX0, 17)) rfl rfl rfl rfl (Nat.le_of_ble_eq_true rfl) dX3_mixSite_22 rfl ?_
      refine ky_i2l (n := 26) dX3_mixSite_25 rfl ?_
      obtain ⟨v13, s11, h12, hf⟩ := ky_bd_e hf
      refine ky_callS (kc := 0) (ks := 0) (kc2 := 0) (ks2 := 0) (as := [.long x4, .long v10.toInt64]) (st := []) (KX3_mix (d + 4) x4 v10.toInt64 s8 _ _ h12) okX3_mix wl_X3_262 rfl rfl (Nat.le_of_ble_eq_true rfl) dX3_mixSite_26 rfl ?_
      refine ky_lstore (lv' := [(4, .long v13), (0, ky_r G 0), (3, .int x3), (6, .int x6)]) (n := 31) dX3_mixSite_29 rfl (Nat.le_of_ble_eq_true rfl) rfl ?_
      refine ky_iincB (c := (1 : Int32)) (n := 34) dX3_mixSite_31 rfl 3 rfl rfl (Nat.le_of_ble_eq_true rfl) (fun v14 ev14 => ?_)
      have hf := ky_bn_e hf v14 ev14
      refine ky_lv (lv' := [(6, .int v14), (4, .long v13), (0, ky_r G 0), (3, .int x3)]) rfl ?_
      refine ky_goto (tgt := 6) dX3_mixSite_34 rfl ?_
      refine ky_sub [2, 3, 1, 0] (lv' := [(0, ky_r G 0), (3, .int x3), (4, .long v13), (6, .int v14)]) rfl ?_
      exact ih x3 v13 v14 s11 _ _ hf
def fX3_mixSite (a1 : Int64) (a2 : Int32) (σ : ky_St) : Option (Int64 × ky_St) :=
  fX3_mixSite_L6 FU a2 a1 (0 : Int32) σ
set_option maxHeartbeats 4000000 in
set_option maxRecDepth 100000 in
theorem KX3_mixSite {G : ky_G} (d : Nat) (a1 : Int64) (a2 : Int32) (σ : ky_St) (r : Int64) (σ' : ky_St) (hf : fX3_mixSite a1 a2 σ = some (r, σ')) : ky_K G mX3_mixSite (d + 5) 0 0 [ky_r G 0, .long a1, .int a2] σ (.inr (some (.long r))) σ' := by
  unfold fX3_mixSite at hf
  refine ky_enter rfl (by decide +kernel) (Nat.le_of_ble_eq_true rfl) (lv := [(0, ky_r G 0), (1, .long a1), (3, .int a2)]) rfl ?_
  refine ky_lload_n (n := 1) dX3_mixSite_0 rfl rfl 1 rfl ?_
  refine ky_lstore (lv' := [(4, .long a1), (0, ky_r G 0), (1, .long a1), (3, .int a2)]) (n := 3) dX3_mixSite_1 rfl (Nat.le_of_ble_eq_true rfl) rfl ?_
  refine ky_iconst (v := (0 : Int32)) (n := 4) dX3_mixSite_3 rfl rfl ?_
  refine ky_istore (lv' := [(6, .int (0 : Int32)), (4, .long a1), (0, ky_r G 0), (1, .long a1), (3, .int a2)]) (n := 6) dX3_mixSite_4 rfl (Nat.le_of_ble_eq_true rfl) rfl ?_
  refine ky_sub [2, 4, 1, 0] (lv' := [(0, ky_r G 0), (3, .int a2), (4, .long a1), (6, .int (0 : Int32))]) rfl ?_
  exact tX3_mixSite_L6 d FU a2 a1 (0 : Int32) σ _ _ hf
def fX3_bitsOfShare_L18 : Nat → UInt64 → Int64 → Int32 → ky_St → Option (Int64 × ky_St)
  | 0, _, _, _, _ => none
  | fu + 1, x2, x4, x6, σ =>
  if (1000 : Int32) ≤ x6 then (
  ky_g ((FP.dsub x2 FP.dconst1) &&& 0x7fffffffffffffff ≤ 0x7ff0000000000000) (
  ky_g ((FP.dmul (FP.dsub x2 FP.dconst1) (4841369599423283200 : UInt64)) &&& 0x7fffffffffffffff ≤ 0x7ff0000000000000) (
  some (((x4 <<< ((52 : Int32).toInt64 &&& 63)) + (FP.d2l (FP.dmul (FP.dsub x2 FP.dconst1) (4841369599423283200 : UInt64)))), σ)))) else (
  if 0 ≤ (Op.cmpValue (FP.dcmp x2 FP.dconst1) .g) then (
  ky_g ((FP.dsub x2 FP.dconst1) &&& 0x7fffffffffffffff ≤ 0x7ff0000000000000) (
  ky_g ((FP.dmul (FP.dsub x2 FP.dconst1) (4841369599423283200 : UInt64)) &&& 0x7fffffffffffffff ≤ 0x7ff0000000000000) (
  some (((x4 <<< ((52 : Int32).toInt64 &&& 63)) + (FP.d2l (FP.dmul (FP.dsub x2 FP.dconst1) (4841369599423283200 : UInt64)))), σ)))) else (
  ky_g ((FP.dmul x2 (4611686018427387904 : UInt64)) &&& 0x7fffffffffffffff ≤ 0x7ff0000000000000) (
  ky_bn (x6 + (1 : Int32)) fun v9 =>
  fX3_bitsOfShare_L18 fu (FP.dmul x2 (4611686018427387904 : UInt64)) (x4 - (1 : Int64)) v9 σ)))
set_option maxHeartbeats 4000000 in
set_option maxRecDepth 100000 in
theorem tX3_bitsOfShare_L18 {G : ky_G} (d : Nat) : ∀ (fu : Nat) (x2 : UInt64) (x4 : Int64) (x6 : Int32) (σ : ky_St) (r : Int64) (σ' : ky_St), fX3_bitsOfShare_L18 fu x2 x4 x6 σ = some (r, σ') → ky_T G mX3_bitsOfShare d 0 0 18 [(2, .double x2), (4, .long x4), (6, .int x6)] [] σ (.inr (some (.long r))) σ' := by
  intro fu
  induction fu with
  | zero =>
    intro x2 x4 x6 σ r σ' hf
    rw [fX3_bitsOfShare_L18] at hf
    cases hf
  | succ fu ih =>
    intro x2 x4 x6 σ r σ' hf
    rw [fX3_bitsOfShare_L18] at hf
    refine ky_iload (n := 20) dX3_bitsOfShare_18 rfl 2 rfl ?_
    refine ky_sipush (v := (1000 : Int32)) (n := 23) dX3_bitsOfShare_20 rfl rfl ?_
    refine ky_icmp_ge (n := 26) (tgt := 50) dX3_bitsOfShare_23 rfl rfl (fun c2 => ?_) (fun c2 => ?_)
    · have hf := ky_pos c2 hf
      refine ky_dload_n (n := 51) dX3_bitsOfShare_50 rfl rfl 0 rfl ?_
      refine ky_dconst1 (n := 52) dX3_bitsOfShare_51 rfl ?_
      obtain ⟨g3, hf⟩ := ky_ge hf
      refine ky_dsub (n := 53) dX3_bitsOfShare_52 rfl g3 ?_
      refine ky_ldc2d (v := (4841369599423283200 : UInt64)) (n := 56) dX3_bitsOfShare_53 rfl wk_X3_355 ?_
      obtain ⟨g4, hf⟩ := ky_ge hf
      refine ky_dmul (n := 57) dX3_bitsOfShare_56 rfl g4 ?_
      refine ky_d2l (n := 58) dX3_bitsOfShare_57 rfl ?_
      refine ky_lstore (lv' := [(6, .long (FP.d2l (FP.dmul (FP.dsub x2 FP.dconst1) (4841369599423283200 : UInt64)))), (2, .double x2), (4, .long x4)]) (n := 60) dX3_bitsOfShare_58 rfl (Nat.le_of_ble_eq_true rfl) rfl ?_
      refine ky_lload (n := 62) dX3_bitsOfShare_60 rfl 2 rfl ?_
      refine ky_bipush (v := (52 : Int32)) (n := 64) dX3_bitsOfShare_62 rfl rfl ?_
      refine ky_lshl (n := 65) dX3_bitsOfShare_64 rfl ?_
      refine ky_lload (n := 67) dX3_bitsOfShare_65 rfl 0 rfl ?_
      refine ky_ladd (n := 68) dX3_bitsOfShare_67 rfl ?_
      cases hf
      exact ky_lreturn dX3_bitsOfShare_68 rfl
    · have hf := ky_neg c2 hf
      refine ky_dload_n (n := 27) dX3_bitsOfShare_26 rfl rfl 0 rfl ?_
      refine ky_dconst1 (n := 28) dX3_bitsOfShare_27 rfl ?_
      refine ky_dcmp (n := 29) dX3_bitsOfShare_28 rfl ?_
      refine ky_if_ge (n := 32) (tgt := 50) dX3_bitsOfShare_29 rfl rfl (fun c5 => ?_) (fun c5 => ?_)
      · have hf := ky_pos c5 hf
        refine ky_dload_n (n := 51) dX3_bitsOfShare_50 rfl rfl 0 rfl ?_
        refine ky_dconst1 (n := 52) dX3_bitsOfShare_51 rfl ?_
        obtain ⟨g6, hf⟩ := ky_ge hf
        refine ky_dsub (n := 53) dX3_bitsOfShare_52 rfl g6 ?_
        refine ky_ldc2d (v := (4841369599423283200 : UInt64)) (n := 56) dX3_bitsOfShare_53 rfl wk_X3_355 ?_
        obtain ⟨g7, hf⟩ := ky_ge hf
        refine ky_dmul (n := 57) dX3_bitsOfShare_56 rfl g7 ?_
        refine ky_d2l (n := 58) dX3_bitsOfShare_57 rfl ?_
        refine ky_lstore (lv' := [(6, .long (FP.d2l (FP.dmul (FP.dsub x2 FP.dconst1) (4841369599423283200 : UInt64)))), (2, .double x2), (4, .long x4)]) (n := 60) dX3_bitsOfShare_58 rfl (Nat.le_of_ble_eq_true rfl) rfl ?_
        refine ky_lload (n := 62) dX3_bitsOfShare_60 rfl 2 rfl ?_
        refine ky_bipush (v := (52 : Int32)) (n := 64) dX3_bitsOfShare_62 rfl rfl ?_
        refine ky_lshl (n := 65) dX3_bitsOfShare_64 rfl ?_
        refine ky_lload (n := 67) dX3_bitsOfShare_65 rfl 0 rfl ?_
        refine ky_ladd (n := 68) dX3_bitsOfShare_67 rfl ?_
        cases hf
        exact ky_lreturn dX3_bitsOfShare_68 rfl
      · have hf := ky_neg c5 hf
        refine ky_dload_n (n := 33) dX3_bitsOfShare_32 rfl rfl 0 rfl ?_
        refine ky_ldc2d (v := (4611686018427387904 : UInt64)) (n := 36) dX3_bitsOfShare_33 rfl wk_X3_353 ?_
        obtain ⟨g8, hf⟩ := ky_ge hf
        refine ky_dmul (n := 37) dX3_bitsOfShare_36 rfl g8 ?_
        refine ky_dstore_n (lv' := [(2, .double (FP.dmul x2 (4611686018427387904 : UInt64))), (4, .long x4), (6, .int x6)]) (n := 38) dX3_bitsOfShare_37 rfl rfl (Nat.le_of_ble_eq_true rfl) rfl ?_
        refine ky_lload (n := 40) dX3_bitsOfShare_38 rfl 1 rfl ?_
        refine ky_lconst (v := (1 : Int64)) (n := 41) dX3_bitsOfShare_40 rfl rfl ?_
        refine ky_lsub (n := 42) dX3_bitsOfShare_41 rfl ?_
        refine ky_lstore (lv' := [(4, .long (x4 - (1 : Int64))), (2, .double (FP.dmul x2 (4611686018427387904 : UInt64))), (6, .int x6)]) (n := 44) dX3_bitsOfShare_42 rfl (Nat.le_of_ble_eq_true rfl) rfl ?_
        refine ky_iincB (c := (1 : Int32)) (n := 47) dX3_bitsOfShare_44 rfl 2 rfl rfl (Nat.le_of_ble_eq_true rfl) (fun v9 ev9 => ?_)
        have hf := ky_bn_e hf v9 ev9
        refine ky_lv (lv' := [(6, .int v9), (4, .long (x4 - (1 : Int64))), (2, .double (FP.dmul x2 (4611686018427387904 : UInt64)))]) rfl ?_
        refine ky_goto (tgt := 18) dX3_bitsOfShare_47 rfl ?_
        refine ky_sub [2, 1, 0] (lv' := [(2, .double (FP.dmul x2 (4611686018427387904 : UInt64))), (4, .long (x4 - (1 : Int64))), (6, .int v9)]) rfl ?_
        exact ih (FP.dmul x2 (4611686018427387904 : UInt64)) (x4 - (1 : Int64)) v9 σ _ _ hf
def fX3_bitsOfShare (a1 : UInt64) (σ : ky_St) : Option (Int64 × ky_St) :=
  if 0 < (Op.cmpValue (FP.dcmp a1 FP.dconst0) .l) then (
  fX3_bitsOfShare_L18 FU a1 (1023 : Int64) (0 : Int32) σ) else (
  some ((0 : Int64), σ))
set_option maxHeartbeats 4000000 in
set_option maxRecDepth 100000 in
theorem KX3_bitsOfShare {G : ky_G} (d : Nat) (a1 : UInt64) (σ : ky_St) (r : Int64) (σ' : ky_St) (hf : fX3_bitsOfShare a1 σ = some (r, σ')) : ky_K G mX3_bitsOfShare d 0 0 [.double a1] σ (.inr (some (.long r))) σ' := by
  unfold fX3_bitsOfShare at hf
  refine ky_enter rfl (by decide +kernel) (Nat.le_of_ble_eq_true rfl) (lv := [(0, .double a1)]) rfl ?_
  refine ky_dload_n (n := 1) dX3_bitsOfShare_0 rfl rfl 0 rfl ?_
  refine ky_dconst0 (n := 2) dX3_bitsOfShare_1 rfl ?_
  refine ky_dcmp (n := 3) dX3_bitsOfShare_2 rfl ?_
  refine ky_if_gt (n := 6) (tgt := 8) dX3_bitsOfShare_3 rfl rfl (fun c1 => ?_) (fun c1 => ?_)
  · have hf := ky_pos c1 hf
    refine ky_dload_n (n := 9) dX3_bitsOfShare_8 rfl rfl 0 rfl ?_
    refine ky_dstore_n (lv' := [(2, .double a1), (0, .double a1)]) (n := 10) dX3_bitsOfShare_9 rfl rfl (Nat.le_of_ble_eq_true rfl) rfl ?_
    refine ky_ldc2 (v := (1023 : Int64)) (n := 13) dX3_bitsOfShare_10 rfl wk_X3_351 ?_
    refine ky_lstore (lv' := [(4, .long (1023 : Int64)), (2, .double a1), (0, .double a1)]) (n := 15) dX3_bitsOfShare_13 rfl (Nat.le_of_ble_eq_true rfl) rfl ?_
    refine ky_iconst (v := (0 : Int32)) (n := 16) dX3_bitsOfShare_15 rfl rfl ?_
    refine ky_istore (lv' := [(6, .int (0 : Int32)), (4, .long (1023 : Int64)), (2, .double a1), (0, .double a1)]) (n := 18) dX3_bitsOfShare_16 rfl (Nat.le_of_ble_eq_true rfl) rfl ?_
    refine ky_sub [2, 1, 0] (lv' := [(2, .double a1), (4, .long (1023 : Int64)), (6, .int (0 : Int32))]) rfl ?_
    exact tX3_bitsOfShare_L18 d FU a1 (1023 : Int64) (0 : Int32) σ _ _ hf
  · have hf := ky_neg c1 hf
    refine ky_lconst (v := (0 : Int64)) (n := 7) dX3_bitsOfShare_6 rfl rfl ?_
    cases hf
    exact ky_lreturn dX3_bitsOfShare_7 rfl
def fX3_mixText_L16 : Nat → Int64 → Int32 → ky_St → Option (Int64 × ky_St)
  | 0, _, _, _ => none
  | fu + 1, x3, x5, σ =>
  if (σ.1 3 1) ≤ x5 then (
  some (x3, σ)) else (
  ky_bd (fX3_at 6 x5 σ) fun v7 s5 =>
  ky_bd (fX3_mix x3 v7.toInt64 s5) fun v10 s8 =>
  ky_bn (x5 + (1 : Int32)) fun v11 =>
  fX3_mixText_L16 fu v10 v11 s8)
set_option maxHeartbeats 4000000 in
set_option maxRecDepth 100000 in
theorem tX3_mixText_L16 {G : ky_G} (d : Nat) : ∀ (fu : Nat) (x3 : Int64) (x5 : Int32) (σ : ky_St) (r : Int64) (σ' : ky_St), fX3_mixText_L16 fu x3 x5 σ = some (r, σ') → ky_T G mX3_mixText (d + 1) 0 0 16 [(0, ky_r G 0), (3, .long x3), (5, .int x5)] [] σ (.inr (some (.long r))) σ' := by
  intro fu
  induction fu with
  | zero =>
    intro x3 x5 σ r σ' hf
    rw [fX3_mixText_L16] at hf
    cases hf
  | succ fu ih =>
    intro x3 x5 σ r σ' hf
    rw [fX3_mixText_L16] at hf
    refine ky_iload (n := 18) dX3_mixText_16 rfl 2 rfl ?_
    refine ky_aload_n (n := 19) dX3_mixText_18 rfl rfl 0 rfl ?_
    refine ky_getf (q := (RX3, TX3, 4)) (v := ky_r G 3) (n := 22) dX3_mixText_19 rfl kc_0 rfl (Nat.le_of_ble_eq_true rfl) wg_X3_26 (vf_0_2 _ _) ?_
    refine ky_getf (q := (RX2, TX2, 6)) (v := .int (σ.1 3 1)) (n := 25) dX3_mixText_22 rfl kc_3 rfl (Nat.le_of_ble_eq_true rfl) wg_X3_173 (vf_3_1 _ _) ?_
    refine ky_icmp_ge (n := 28) (tgt := 52) dX3_mixText_25 rfl rfl (fun c4 => ?_) (fun c4 => ?_)
    · have hf := ky_pos c4 hf
      refine ky_lload_n (n := 53) dX3_mixText_52 rfl rfl 1 rfl ?_
      cases hf
      exact ky_lreturn dX3_mixText_53 rfl
    · have hf := ky_neg c4 hf
      refine ky_lload_n (n := 29) dX3_mixText_28 rfl rfl 1 rfl ?_
      refine ky_aload_n (n := 30) dX3_mixText_29 rfl rfl 0 rfl ?_
      refine ky_getf (q := (RX3, TX3, 4)) (v := ky_r G 3) (n := 33) dX3_mixText_30 rfl kc_0 rfl (Nat.le_of_ble_eq_true rfl) wg_X3_26 (vf_0_2 _ _) ?_
      refine ky_getf (q := (RX2, TX2, 6)) (v := ky_r G 6) (n := 36) dX3_mixText_33 rfl kc_3 rfl (Nat.le_of_ble_eq_true rfl) wg_X3_348 (vf_3_0 _ _) ?_
      refine ky_iload (n := 38) dX3_mixText_36 rfl 2 rfl ?_
      obtain ⟨v7, s5, h6, hf⟩ := ky_bd_e hf
      refine ky_callS (kc := 0) (ks := 0) (kc2 := 0) (ks2 := 0) (as := [ky_r G 6, .int x5]) (st := [.long x3]) (KX3_at d 6 x5 σ _ _ h6) okX3_at wl_X3_64 rfl rfl (Nat.le_of_ble_eq_true rfl) dX3_mixText_38 rfl ?_
      refine ky_i2l (n := 42) dX3_mixText_41 rfl ?_
      obtain ⟨v10, s8, h9, hf⟩ := ky_bd_e hf
      refine ky_callS (kc := 0) (ks := 0) (kc2 := 0) (ks2 := 0) (as := [.long x3, .long v7.toInt64]) (st := []) (KX3_mix d x3 v7.toInt64 s5 _ _ h9) okX3_mix wl_X3_262 rfl rfl (Nat.le_of_ble_eq_true rfl) dX3_mixText_42 rfl ?_
      refine ky_lstore_n (lv' := [(3, .long v10), (0, ky_r G 0), (5, .int x5)]) (n := 46) dX3_mixText_45 rfl rfl (Nat.le_of_ble_eq_true rfl) rfl ?_
      refine ky_iincB (c := (1 : Int32)) (n := 49) dX3_mixText_46 rfl 2 rfl rfl (Nat.le_of_ble_eq_true rfl) (fun v11 ev11 => ?_)
      have hf := ky_bn_e hf v11 ev11
      refine ky_lv (lv' := [(5, .int v11), (3, .long v10), (0, ky_r G 0)]) rfl ?_
      refine ky_goto (tgt := 16) dX3_mixText_49 rfl ?_
      refine ky_sub [2, 1, 0] (lv' := [(0, ky_r G 0), (3, .long v10), (5, .int v11)]) rfl ?_
      exact ih v10 v11 s8 _ _ hf
def fX3_mixText (a1 : Int64) (σ : ky_St) : Option (Int64 × ky_St) :=
  ky_bd (fX3_mix a1 (σ.1 3 1).toInt64 σ) fun v3 s1 =>
  fX3_mixText_L16 FU v3 (0 : Int32) s1
set_option maxHeartbeats 4000000 in
set_option maxRecDepth 100000 in
theorem KX3_mixText {G : ky_G} (d : Nat) (a1 : Int64) (σ : ky_St) (r : Int64) (σ' : ky_St) (hf : fX3_mixText a1 σ = some (r, σ')) : ky_K G mX3_mixText (d + 1) 0 0 [ky_r G 0, .long a1] σ (.inr (some (.long r))) σ' := by
  unfold fX3_mixText at hf
  refine ky_enter rfl (by decide +kernel) (Nat.le_of_ble_eq_true rfl) (lv := [(0, ky_r G 0), (1, .long a1)]) rfl ?_
  refine ky_lload_n (n := 1) dX3_mixText_0 rfl rfl 1 rfl ?_
  refine ky_aload_n (n := 2) dX3_mixText_1 rfl rfl 0 rfl ?_
  refine ky_getf (q := (RX3, TX3, 4)) (v := ky_r G 3) (n := 5) dX3_mixText_2 rfl kc_0 rfl (Nat.le_of_ble_eq_true rfl) wg_X3_26 (vf_0_2 _ _) ?_
  refine ky_getf (q := (RX2, TX2, 6)) (v := .int (σ.1 3 1)) (n := 8) dX3_mixText_5 rfl kc_3 rfl (Nat.le_of_ble_eq_true rfl) wg_X3_173 (vf_3_1 _ _) ?_
  refine ky_i2l (n := 9) dX3_mixText_8 rfl ?_
  obtain ⟨v3, s1, h2, hf⟩ := ky_bd_e hf
  refine ky_callS (kc := 0) (ks := 0) (kc2 := 0) (ks2 := 0) (as := [.long a1, .long (σ.1 3 1).toInt64]) (st := []) (KX3_mix d a1 (σ.1 3 1).toInt64 σ _ _ h2) okX3_mix wl_X3_262 rfl rfl (Nat.le_of_ble_eq_true rfl) dX3_mixText_9 rfl ?_
  refine ky_lstore_n (lv' := [(3, .long v3), (0, ky_r G 0), (1, .long a1)]) (n := 13) dX3_mixText_12 rfl rfl (Nat.le_of_ble_eq_true rfl) rfl ?_
  refine ky_iconst (v := (0 : Int32)) (n := 14) dX3_mixText_13 rfl rfl ?_
  refine ky_istore (lv' := [(5, .int (0 : Int32)), (3, .long v3), (0, ky_r G 0), (1, .long a1)]) (n := 16) dX3_mixText_14 rfl (Nat.le_of_ble_eq_true rfl) rfl ?_
  refine ky_sub [2, 1, 0] (lv' := [(0, ky_r G 0), (3, .long v3), (5, .int (0 : Int32))]) rfl ?_
  exact tX3_mixText_L16 d FU v3 (0 : Int32) s1 _ _ hf
def fX3_digest_L116 (rec108 : Int64 → Int32 → ky_St → Option (Int64 × ky_St)) : Nat → Int64 → Int32 → Int32 → ky_St → Option (Int64 × ky_St)
  | 0, _, _, _, _ => none
  | fu + 1, x1, x3, x4, σ =>
  if (4 : Int32) < x4 then (
  ky_bn (x3 + (1 : Int32)) fun v25 =>
  rec108 x1 v25 σ) else (
  ky_bd (fX0_partsValue x3 x4 σ) fun v28 s26 =>
  ky_bd (fX3_mix x1 v28.toInt64 s26) fun v31 s29 =>
  ky_bn (x4 + (1 : Int32)) fun v32 =>
  fX3_digest_L116 rec108 fu v31 x3 v32 s29)
set_option maxHeartbeats 4000000 in
set_option maxRecDepth 100000 in
theorem tX3_digest_L116 {G : ky_G} {rec108 : Int64 → Int32 → ky_St → Option (Int64 × ky_St)} (d : Nat) (hrec108 : ∀ (x1 : Int64) (x3 : Int32) (σ : ky_St) (r : Int64) (σ' : ky_St), rec108 x1 x3 σ = some (r, σ') → ky_T G mX3_digest (d + 6) 0 0 108 [(0, ky_r G 0), (1, .long x1), (3, .int x3)] [] σ (.inr (some (.long r))) σ') : ∀ (fu : Nat) (x1 : Int64) (x3 : Int32) (x4 : Int32) (σ : ky_St) (r : Int64) (σ' : ky_St), fX3_digest_L116 rec108 fu x1 x3 x4 σ = some (r, σ') → ky_T G mX3_digest (d + 6) 0 0 116 [(0, ky_r G 0), (1, .long x1), (3, .int x3), (4, .int x4)] [] σ (.inr (some (.long r))) σ' := by
  intro fu
  induction fu with
  | zero =>
    intro x1 x3 x4 σ r σ' hf
    rw [fX3_digest_L116] at hf
    cases hf
  | succ fu ih =>
    intro x1 x3 x4 σ r σ' hf
    rw [fX3_digest_L116] at hf
    refine ky_iload (n := 118) dX3_digest_116 rfl 3 rfl ?_
    refine ky_iconst (v := (4 : Int32)) (n := 119) dX3_digest_118 rfl rfl ?_
    refine ky_icmp_gt (n := 122) (tgt := 144) dX3_digest_119 rfl rfl (fun c24 => ?_) (fun c24 => ?_)
    · have hf := ky_pos c24 hf
      refine ky_iincB (c := (1 : Int32)) (n := 147) dX3_digest_144 rfl 2 rfl rfl (Nat.le_of_ble_eq_true rfl) (fun v25 ev25 => ?_)
      have hf := ky_bn_e hf v25 ev25
      refine ky_lv (lv' := [(3, .int v25), (0, ky_r G 0), (1, .long x1), (4, .int x4)]) rfl ?_
      refine ky_goto (tgt := 108) dX3_digest_147 rfl ?_
      refine ky_sub [1, 2, 0] (lv' := [(0, ky_r G 0), (1, .long x1), (3, .int v25)]) rfl ?_
      exact hrec108 x1 v25 σ _ _ hf
    · have hf := ky_neg c24 hf
      refine ky_lload_n (n := 123) dX3_digest_122 rfl rfl 1 rfl ?_
      refine ky_aload_n (n := 124) dX3_digest_123 rfl rfl 0 rfl ?_
      refine ky_getf (q := (RX3, TX3, 4)) (v := ky_r G 20) (n := 127) dX3_digest_124 rfl kc_0 rfl (Nat.le_of_ble_eq_true rfl) wg_X3_10 (vf_0_0 _ _) ?_
      refine ky_iload_n (n := 128) dX3_digest_127 rfl rfl 2 rfl ?_
      refine ky_iload (n := 130) dX3_digest_128 rfl 3 rfl ?_
      obtain ⟨v28, s26, h27, hf⟩ := ky_bd_e hf
      refine ky_callV (kc := 0) (ks := 0) (kc2 := 0) (ks2 := 0) (k0 := 20) (as := [.int x3, .int x4]) (st := [.long x1]) (KX0_partsValue (d + 2) x3 x4 σ _ _ h27) okX0_partsValue wl_X3_228 kc_20 (q := (RX0, TX0, 17)) rfl rfl rfl rfl (Nat.le_of_ble_eq_true rfl) dX3_digest_130 rfl ?_
      refine ky_i2l (n := 134) dX3_digest_133 rfl ?_
      obtain ⟨v31, s29, h30, hf⟩ := ky_bd_e hf
      refine ky_callS (kc := 0) (ks := 0) (kc2 := 0) (ks2 := 0) (as := [.long x1, .long v28.toInt64]) (st := []) (KX3_mix (d + 5) x1 v28.toInt64 s26 _ _ h30) okX3_mix wl_X3_262 rfl rfl (Nat.le_of_ble_eq_true rfl) dX3_digest_134 rfl ?_
      refine ky_lstore_n (lv' := [(1, .long v31), (0, ky_r G 0), (3, .int x3), (4, .int x4)]) (n := 138) dX3_digest_137 rfl rfl (Nat.le_of_ble_eq_true rfl) rfl ?_
      refine ky_iincB (c := (1 : Int32)) (n := 141) dX3_digest_138 rfl 3 rfl rfl (Nat.le_of_ble_eq_true rfl) (fun v32 ev32 => ?_)
      have hf := ky_bn_e hf v32 ev32
      refine ky_lv (lv' := [(4, .int v32), (1, .long v31), (0, ky_r G 0), (3, .int x3)]) rfl ?_
      refine ky_goto (tgt := 116) dX3_digest_141 rfl ?_
      refine ky_sub [2, 1, 3, 0] (lv' := [(0, ky_r G 0), (1, .long v31), (3, .int x3), (4, .int v32)]) rfl ?_
      exact ih v31 x3 v32 s29 _ _ hf
def fX3_digest_L108 : Nat → Int64 → Int32 → ky_St → Option (Int64 × ky_St)
  | 0, _, _, _ => none
  | fu + 1, x1, x3, σ =>
  if (4 : Int32) ≤ x3 then (
  ky_bd (fX3_ifRepaired σ) fun v8 s6 =>
  ky_bd (fX3_mix x1 v8.toInt64 s6) fun v11 s9 =>
  ky_bd (fX3_hiredShare s9) fun v14 s12 =>
  ky_bd (fX3_bitsOfShare v14 s12) fun v17 s15 =>
  ky_bd (fX3_mix v11 v17 s15) fun v20 s18 =>
  ky_bd (fX3_mixText v20 s18) fun v23 s21 =>
  some (v23, s21)) else (
  fX3_digest_L116 (fX3_digest_L108 fu) FU x1 x3 (0 : Int32) σ)
set_option maxHeartbeats 4000000 in
set_option maxRecDepth 100000 in
theorem tX3_digest_L108 {G : ky_G} (d : Nat) : ∀ (fu : Nat) (x1 : Int64) (x3 : Int32) (σ : ky_St) (r : Int64) (σ' : ky_St), fX3_digest_L108 fu x1 x3 σ = some (r, σ') → ky_T G mX3_digest (d + 6) 0 0 108 [(0, ky_r G 0), (1, .long x1), (3, .int x3)] [] σ (.inr (some (.long r))) σ' := by
  intro fu
  induction fu with
  | zero =>
    intro x1 x3 σ r σ' hf
    rw [fX3_digest_L108] at hf
    cases hf
  | succ fu ih =>
    intro x1 x3 σ r σ' hf
    rw [fX3_digest_L108] at hf
    refine ky_iload_n (n := 109) dX3_digest_108 rfl rfl 2 rfl ?_
    refine ky_iconst (v := (4 : Int32)) (n := 110) dX3_digest_109 rfl rfl ?_
    refine ky_icmp_ge (n := 113) (tgt := 150) dX3_digest_110 rfl rfl (fun c5 => ?_) (fun c5 => ?_)
    · have hf := ky_pos c5 hf
      refine ky_lload_n (n := 151) dX3_digest_150 rfl rfl 1 rfl ?_
      refine ky_aload_n (n := 152) dX3_digest_151 rfl rfl 0 rfl ?_
      obtain ⟨v8, s6, h7, hf⟩ := ky_bd_e hf
      refine ky_callV (kc := 0) (ks := 0) (kc2 := 0) (ks2 := 0) (k0 := 0) (as := []) (st := [.long x1]) (KX3_ifRepaired (d + 2) σ _ _ h7) okX3_ifRepaired wl_X3_273 kc_0 (q := (RX3, TX3, 4)) rfl rfl rfl rfl (Nat.le_of_ble_eq_true rfl) dX3_digest_152 rfl ?_
      refine ky_i2l (n := 156) dX3_digest_155 rfl ?_
      obtain ⟨v11, s9, h10, hf⟩ := ky_bd_e hf
      refine ky_callS (kc := 0) (ks := 0) (kc2 := 0) (ks2 := 0) (as := [.long x1, .long v8.toInt64]) (st := []) (KX3_mix (d + 5) x1 v8.toInt64 s6 _ _ h10) okX3_mix wl_X3_262 rfl rfl (Nat.le_of_ble_eq_true rfl) dX3_digest_156 rfl ?_
      refine ky_lstore_n (lv' := [(1, .long v11), (0, ky_r G 0), (3, .int x3)]) (n := 160) dX3_digest_159 rfl rfl (Nat.le_of_ble_eq_true rfl) rfl ?_
      refine ky_lload_n (n := 161) dX3_digest_160 rfl rfl 0 rfl ?_
      refine ky_aload_n (n := 162) dX3_digest_161 rfl rfl 1 rfl ?_
      obtain ⟨v14, s12, h13, hf⟩ := ky_bd_e hf
      refine ky_callV (kc := 0) (ks := 0) (kc2 := 0) (ks2 := 0) (k0 := 0) (as := []) (st := [.long v11]) (KX3_hiredShare (d + 2) s9 _ _ h13) okX3_hiredShare wl_X3_276 kc_0 (q := (RX3, TX3, 4)) rfl rfl rfl rfl (Nat.le_of_ble_eq_true rfl) dX3_digest_162 rfl ?_
      obtain ⟨v17, s15, h16, hf⟩ := ky_bd_e hf
      refine ky_callS (kc := 0) (ks := 0) (kc2 := 0) (ks2 := 0) (as := [.double v14]) (st := [.long v11]) (KX3_bitsOfShare (d + 5) v14 s12 _ _ h16) okX3_bitsOfShare wl_X3_280 rfl rfl (Nat.le_of_ble_eq_true rfl) dX3_digest_165 rfl ?_
      obtain ⟨v20, s18, h19, hf⟩ := ky_bd_e hf
      refine ky_callS (kc := 0) (ks := 0) (kc2 := 0) (ks2 := 0) (as := [.long v11, .long v17]) (st := []) (KX3_mix (d + 5) v11 v17 s15 _ _ h19) okX3_mix wl_X3_262 rfl rfl (Nat.le_of_ble_eq_true rfl) dX3_digest_168 rfl ?_
      refine ky_lstore_n (lv' := [(1, .long v20), (0, ky_r G 0), (3, .int x3)]) (n := 172) dX3_digest_171 rfl rfl (Nat.le_of_ble_eq_true rfl) rfl ?_
      refine ky_aload_n (n := 173) dX3_digest_172 rfl rfl 1 rfl ?_
      refine ky_lload_n (n := 174) dX3_digest_173 rfl rfl 0 rfl ?_
      obtain ⟨v23, s21, h22, hf⟩ := ky_bd_e hf
      refine ky_callV (kc := 0) (ks := 0) (kc2 := 0) (ks2 := 0) (k0 := 0) (as := [.long v20]) (st := []) (KX3_mixText (d + 4) v20 s18 _ _ h22) okX3_mixText wl_X3_284 kc_0 (q := (RX3, TX3, 4)) rfl rfl rfl rfl (Nat.le_of_ble_eq_true rfl) dX3_digest_174 rfl ?_
      cases hf
      exact ky_lreturn dX3_digest_177 rfl
    · have hf := ky_neg c5 hf
      refine ky_iconst (v := (0 : Int32)) (n := 114) dX3_digest_113 rfl rfl ?_
      refine ky_istore (lv' := [(4, .int (0 : Int32)), (0, ky_r G 0), (1, .long x1), (3, .int x3)]) (n := 116) dX3_digest_114 rfl (Nat.le_of_ble_eq_true rfl) rfl ?_
      refine ky_sub [1, 2, 3, 0] (lv' := [(0, ky_r G 0), (1, .long x1), (3, .int x3), (4, .int (0 : Int32))]) rfl ?_
      exact tX3_digest_L116 d ih FU x1 x3 (0 : Int32) σ _ _ hf
def fX3_digest_L87 : Nat → Int64 → Int32 → ky_St → Option (Int64 × ky_St)
  | 0, _, _, _ => none
  | fu + 1, x1, x3, σ =>
  if (6 : Int32) ≤ x3 then (
  fX3_digest_L108 FU x1 (0 : Int32) σ) else (
  ky_bd (fX3_mixSite x1 x3 σ) fun v35 s33 =>
  ky_bn (x3 + (1 : Int32)) fun v36 =>
  fX3_digest_L87 fu v35 v36 s33)
set_option maxHeartbeats 4000000 in
set_option maxRecDepth 100000 in
theorem tX3_digest_L87 {G : ky_G} (d : Nat) : ∀ (fu : Nat) (x1 : Int64) (x3 : Int32) (σ : ky_St) (r : Int64) (σ' : ky_St), fX3_digest_L87 fu x1 x3 σ = some (r, σ') → ky_T G mX3_digest (d + 6) 0 0 87 [(0, ky_r G 0), (1, .long x1), (3, .int x3)] [] σ (.inr (some (.long r))) σ' := by
  intro fu
  induction fu with
  | zero =>
    intro x1 x3 σ r σ' hf
    rw [fX3_digest_L87] at hf
    cases hf
  | succ fu ih =>
    intro x1 x3 σ r σ' hf
    rw [fX3_digest_L87] at hf
    refine ky_iload_n (n := 88) dX3_digest_87 rfl rfl 2 rfl ?_
    refine ky_bipush (v := (6 : Int32)) (n := 90) dX3_digest_88 rfl rfl ?_
    refine ky_icmp_ge (n := 93) (tgt := 106) dX3_digest_90 rfl rfl (fun c4 => ?_) (fun c4 => ?_)
    · have hf := ky_pos c4 hf
      refine ky_iconst (v := (0 : Int32)) (n := 107) dX3_digest_106 rfl rfl ?_
      refine ky_istore_n (lv' := [(3, .int (0 : Int32)), (0, ky_r G 0), (1, .long x1)]) (n := 108) dX3_digest_107 rfl rfl (Nat.le_of_ble_eq_true rfl) rfl ?_
      refine ky_sub [1, 2, 0] (lv' := [(0, ky_r G 0), (1, .long x1), (3, .int (0 : Int32))]) rfl ?_
      exact tX3_digest_L108 d FU x1 (0 : Int32) σ _ _ hf
    · have hf := ky_neg c4 hf
      refine ky_aload_n (n := 94) dX3_digest_93 rfl rfl 0 rfl ?_
      refine ky_lload_n (n := 95) dX3_digest_94 rfl rfl 1 rfl ?_
      refine ky_iload_n (n := 96) dX3_digest_95 rfl rfl 2 rfl ?_
      obtain ⟨v35, s33, h34, hf⟩ := ky_bd_e hf
      refine ky_callV (kc := 0) (ks := 0) (kc2 := 0) (ks2 := 0) (k0 := 0) (as := [.long x1, .int x3]) (st := []) (KX3_mixSite d x1 x3 σ _ _ h34) okX3_mixSite wl_X3_270 kc_0 (q := (RX3, TX3, 4)) rfl rfl rfl rfl (Nat.le_of_ble_eq_true rfl) dX3_digest_96 rfl ?_
      refine ky_lstore_n (lv' := [(1, .long v35), (0, ky_r G 0), (3, .int x3)]) (n := 100) dX3_digest_99 rfl rfl (Nat.le_of_ble_eq_true rfl) rfl ?_
      refine ky_iincB (c := (1 : Int32)) (n := 103) dX3_digest_100 rfl 2 rfl rfl (Nat.le_of_ble_eq_true rfl) (fun v36 ev36 => ?_)
      have hf := ky_bn_e hf v36 ev36
      refine ky_lv (lv' := [(3, .int v36), (1, .long v35), (0, ky_r G 0)]) rfl ?_
      refine ky_goto (tgt := 87) dX3_digest_103 rfl ?_
      refine ky_sub [2, 1, 0] (lv' := [(0, ky_r G 0), (1, .long v35), (3, .int v36)]) rfl ?_
      exact ih v35 v36 s33 _ _ hf
def fX3_digest_L61 : Nat → Int64 → Int32 → ky_St → Option (Int64 × ky_St)
  | 0, _, _, _ => none
  | fu + 1, x1, x3, σ =>
  if (σ.1 20 0) ≤ x3 then (
  fX3_digest_L87 FU x1 (0 : Int32) σ) else (
  ky_bd (fX3_mixSet x1 x3 σ) fun v39 s37 =>
  ky_bn (x3 + (1 : Int32)) fun v40 =>
  fX3_digest_L61 fu v39 v40 s37)
set_option maxHeartbeats 4000000 in
set_option maxRecDepth 100000 in
theorem tX3_digest_L61 {G : ky_G} (d : Nat) : ∀ (fu : Nat) (x1 : Int64) (x3 : Int32) (σ : ky_St) (r : Int64) (σ' : ky_St), fX3_digest_L61 fu x1 x3 σ = some (r, σ') → ky_T G mX3_digest (d + 6) 0 0 61 [(0, ky_r G 0), (1, .long x1), (3, .int x3)] [] σ (.inr (some (.long r))) σ' := by
  intro fu
  induction fu with
  | zero =>
    intro x1 x3 σ r σ' hf
    rw [fX3_digest_L61] at hf
    cases hf
  | succ fu ih =>
    intro x1 x3 σ r σ' hf
    rw [fX3_digest_L61] at hf
    refine ky_iload_n (n := 62) dX3_digest_61 rfl rfl 2 rfl ?_
    refine ky_aload_n (n := 63) dX3_digest_62 rfl rfl 0 rfl ?_
    refine ky_getf (q := (RX3, TX3, 4)) (v := ky_r G 20) (n := 66) dX3_digest_63 rfl kc_0 rfl (Nat.le_of_ble_eq_true rfl) wg_X3_10 (vf_0_0 _ _) ?_
    refine ky_getf (q := (RX0, TX0, 17)) (v := .int (σ.1 20 0)) (n := 69) dX3_digest_66 rfl kc_20 rfl (Nat.le_of_ble_eq_true rfl) wg_X3_41 (vf_20_0 _ _) ?_
    refine ky_icmp_ge (n := 72) (tgt := 85) dX3_digest_69 rfl rfl (fun c3 => ?_) (fun c3 => ?_)
    · have hf := ky_pos c3 hf
      refine ky_iconst (v := (0 : Int32)) (n := 86) dX3_digest_85 rfl rfl ?_
      refine ky_istore_n (lv' := [(3, .int (0 : Int32)), (0, ky_r G 0), (1, .long x1)]) (n := 87) dX3_digest_86 rfl rfl (Nat.le_of_ble_eq_true rfl) rfl ?_
      refine ky_sub [1, 2, 0] (lv' := [(0, ky_r G 0), (1, .long x1), (3, .int (0 : Int32))]) rfl ?_
      exact tX3_digest_L87 d FU x1 (0 : Int32) σ _ _ hf
    · have hf := ky_neg c3 hf
      refine ky_aload_n (n := 73) dX3_digest_72 rfl rfl 0 rfl ?_
      refine ky_lload_n (n := 74) dX3_digest_73 rfl rfl 1 rfl ?_
      refine ky_iload_n (n := 75) dX3_digest_74 rfl rfl 2 rfl ?_
      obtain ⟨v39, s37, h38, hf⟩ := ky_bd_e hf
      refine ky_callV (kc := 0) (ks := 0) (kc2 := 0) (ks2 := 0) (k0 := 0) (as := [.long x1, .int x3]) (st := []) (KX3_mixSet (d + 1) x1 x3 σ _ _ h38) okX3_mixSet wl_X3_266 kc_0 (q := (RX3, TX3, 4)) rfl rfl rfl rfl (Nat.le_of_ble_eq_true rfl) dX3_digest_75 rfl ?_
      refine ky_lstore_n (lv' := [(1, .long v39), (0, ky_r G 0), (3, .int x3)]) (n := 79) dX3_digest_78 rfl rfl (Nat.le_of_ble_eq_true rfl) rfl ?_
      refine ky_iincB (c := (1 : Int32)) (n := 82) dX3_digest_79 rfl 2 rfl rfl (Nat.le_of_ble_eq_true rfl) (fun v40 ev40 => ?_)
      have hf := ky_bn_e hf v40 ev40
      refine ky_lv (lv' := [(3, .int v40), (1, .long v39), (0, ky_r G 0)]) rfl ?_
      refine ky_goto (tgt := 61) dX3_digest_82 rfl ?_
      refine ky_sub [2, 1, 0] (lv' := [(0, ky_r G 0), (1, .long v39), (3, .int v40)]) rfl ?_
      exact ih v39 v40 s37 _ _ hf
def fX3_digest_L31 : Nat → Int64 → Int32 → ky_St → Option (Int64 × ky_St)
  | 0, _, _, _ => none
  | fu + 1, x1, x3, σ =>
  if (2 : Int32) ≤ x3 then (
  fX3_digest_L61 FU x1 (0 : Int32) σ) else (
  ky_bd (fX3_at 21 x3 σ) fun v43 s41 =>
  ky_bd (fX3_mix x1 v43.toInt64 s41) fun v46 s44 =>
  ky_bn (x3 + (1 : Int32)) fun v47 =>
  fX3_digest_L31 fu v46 v47 s44)
set_option maxHeartbeats 4000000 in
set_option maxRecDepth 100000 in
theorem tX3_digest_L31 {G : ky_G} (d : Nat) : ∀ (fu : Nat) (x1 : Int64) (x3 : Int32) (σ : ky_St) (r : Int64) (σ' : ky_St), fX3_digest_L31 fu x1 x3 σ = some (r, σ') → ky_T G mX3_digest (d + 6) 0 0 31 [(0, ky_r G 0), (1, .long x1), (3, .int x3)] [] σ (.inr (some (.long r))) σ' := by
  intro fu
  induction fu with
  | zero =>
    intro x1 x3 σ r σ' hf
    rw [fX3_digest_L31] at hf
    cases hf
  | succ fu ih =>
    intro x1 x3 σ r σ' hf
    rw [fX3_digest_L31] at hf
    refine ky_iload_n (n := 32) dX3_digest_31 rfl rfl 2 rfl ?_
    refine ky_iconst (v := (2 : Int32)) (n := 33) dX3_digest_32 rfl rfl ?_
    refine ky_icmp_ge (n := 36) (tgt := 59) dX3_digest_33 rfl rfl (fun c2 => ?_) (fun c2 => ?_)
    · have hf := ky_pos c2 hf
      refine ky_iconst (v := (0 : Int32)) (n := 60) dX3_digest_59 rfl rfl ?_
      refine ky_istore_n (lv' := [(3, .int (0 : Int32)), (0, ky_r G 0), (1, .long x1)]) (n := 61) dX3_digest_60 rfl rfl (Nat.le_of_ble_eq_true rfl) rfl ?_
      refine ky_sub [1, 2, 0] (lv' := [(0, ky_r G 0), (1, .long x1), (3, .int (0 : Int32))]) rfl ?_
      exact tX3_digest_L61 d FU x1 (0 : Int32) σ _ _ hf
    · have hf := ky_neg c2 hf
      refine ky_lload_n (n := 37) dX3_digest_36 rfl rfl 1 rfl ?_
      refine ky_aload_n (n := 38) dX3_digest_37 rfl rfl 0 rfl ?_
      refine ky_getf (q := (RX3, TX3, 4)) (v := ky_r G 20) (n := 41) dX3_digest_38 rfl kc_0 rfl (Nat.le_of_ble_eq_true rfl) wg_X3_10 (vf_0_0 _ _) ?_
      refine ky_getf (q := (RX0, TX0, 17)) (v := ky_r G 21) (n := 44) dX3_digest_41 rfl kc_20 rfl (Nat.le_of_ble_eq_true rfl) wg_X3_165 (vf_20_5 _ _) ?_
      refine ky_iload_n (n := 45) dX3_digest_44 rfl rfl 2 rfl ?_
      obtain ⟨v43, s41, h42, hf⟩ := ky_bd_e hf
      refine ky_callS (kc := 0) (ks := 0) (kc2 := 0) (ks2 := 0) (as := [ky_r G 21, .int x3]) (st := [.long x1]) (KX3_at (d + 5) 21 x3 σ _ _ h42) okX3_at wl_X3_64 rfl rfl (Nat.le_of_ble_eq_true rfl) dX3_digest_45 rfl ?_
      refine ky_i2l (n := 49) dX3_digest_48 rfl ?_
      obtain ⟨v46, s44, h45, hf⟩ := ky_bd_e hf
      refine ky_callS (kc := 0) (ks := 0) (kc2 := 0) (ks2 := 0) (as := [.long x1, .long v43.toInt64]) (st := []) (KX3_mix (d + 5) x1 v43.toInt64 s41 _ _ h45) okX3_mix wl_X3_262 rfl rfl (Nat.le_of_ble_eq_true rfl) dX3_digest_49 rfl ?_
      refine ky_lstore_n (lv' := [(1, .long v46), (0, ky_r G 0), (3, .int x3)]) (n := 53) dX3_digest_52 rfl rfl (Nat.le_of_ble_eq_true rfl) rfl ?_
      refine ky_iincB (c := (1 : Int32)) (n := 56) dX3_digest_53 rfl 2 rfl rfl (Nat.le_of_ble_eq_true rfl) (fun v47 ev47 => ?_)
      have hf := ky_bn_e hf v47 ev47
      refine ky_lv (lv' := [(3, .int v47), (1, .long v46), (0, ky_r G 0)]) rfl ?_
      refine ky_goto (tgt := 31) dX3_digest_56 rfl ?_
      refine ky_sub [2, 1, 0] (lv' := [(0, ky_r G 0), (1, .long v46), (3, .int v47)]) rfl ?_
      exact ih v46 v47 s44 _ _ hf
def fX3_digest_L6 : Nat → Int64 → Int32 → ky_St → Option (Int64 × ky_St)
  | 0, _, _, _ => none
  | fu + 1, x1, x3, σ =>
  if (9 : Int32) < x3 then (
  fX3_digest_L31 FU x1 (0 : Int32) σ) else (
  ky_bd (fX3_countValue x3 σ) fun v50 s48 =>
  ky_bd (fX3_mix x1 v50.toInt64 s48) fun v53 s51 =>
  ky_bn (x3 + (1 : Int32)) fun v54 =>
  fX3_digest_L6 fu v53 v54 s51)
set_option maxHeartbeats 4000000 in
set_option maxRecDepth 100000 in
theorem tX3_digest_L6 {G : ky_G} (d : Nat) : ∀ (fu : Nat) (x1 : Int64) (x3 : Int32) (σ : ky_St) (r : Int64) (σ' : ky_St), fX3_digest_L6 fu x1 x3 σ = some (r, σ') → ky_T G mX3_digest (d + 6) 0 0 6 [(0, ky_r G 0), (1, .long x1), (3, .int x3)] [] σ (.inr (some (.long r))) σ' := by
  intro fu
  induction fu with
  | zero =>
    intro x1 x3 σ r σ' hf
    rw [fX3_digest_L6] at hf
    cases hf
  | succ fu ih =>
    intro x1 x3 σ r σ' hf
    rw [fX3_digest_L6] at hf
    refine ky_iload_n (n := 7) dX3_digest_6 rfl rfl 2 rfl ?_
    refine ky_bipush (v := (9 : Int32)) (n := 9) dX3_digest_7 rfl rfl ?_
    refine ky_icmp_gt (n := 12) (tgt := 29) dX3_digest_9 rfl rfl (fun c1 => ?_) (fun c1 => ?_)
    · have hf := ky_pos c1 hf
      refine ky_iconst (v := (0 : Int32)) (n := 30) dX3_digest_29 rfl rfl ?_
      refine ky_istore_n (lv' := [(3, .int (0 : Int32)), (0, ky_r G 0), (1, .long x1)]) (n := 31) dX3_digest_30 rfl rfl (Nat.le_of_ble_eq_true rfl) rfl ?_
      refine ky_sub [1, 2, 0] (lv' := [(0, ky_r G 0), (1, .long x1), (3, .int (0 : Int32))]) rfl ?_
      exact tX3_digest_L31 d FU x1 (0 : Int32) σ _ _ hf
    · have hf := ky_neg c1 hf
      refine ky_lload_n (n := 13) dX3_digest_12 rfl rfl 1 rfl ?_
      refine ky_aload_n (n := 14) dX3_digest_13 rfl rfl 0 rfl ?_
      refine ky_iload_n (n := 15) dX3_digest_14 rfl rfl 2 rfl ?_
      obtain ⟨v50, s48, h49, hf⟩ := ky_bd_e hf
      refine ky_callV (kc := 0) (ks := 0) (kc2 := 0) (ks2 := 0) (k0 := 0) (as := [.int x3]) (st := [.long x1]) (KX3_countValue (d + 1) x3 σ _ _ h49) okX3_countValue wl_X3_233 kc_0 (q := (RX3, TX3, 4)) rfl rfl rfl rfl (Nat.le_of_ble_eq_true rfl) dX3_digest_15 rfl ?_
      refine ky_i2l (n := 19) dX3_digest_18 rfl ?_
      obtain ⟨v53, s51, h52, hf⟩ := ky_bd_e hf
      refine ky_callS (kc := 0) (ks := 0) (kc2 := 0) (ks2 := 0) (as := [.long x1, .long v50.toInt64]) (st := []) (KX3_mix (d + 5) x1 v50.toInt64 s48 _ _ h52) okX3_mix wl_X3_262 rfl rfl (Nat.le_of_ble_eq_true rfl) dX3_digest_19 rfl ?_
      refine ky_lstore_n (lv' := [(1, .long v53), (0, ky_r G 0), (3, .int x3)]) (n := 23) dX3_digest_22 rfl rfl (Nat.le_of_ble_eq_true rfl) rfl ?_
      refine ky_iincB (c := (1 : Int32)) (n := 26) dX3_digest_23 rfl 2 rfl rfl (Nat.le_of_ble_eq_true rfl) (fun v54 ev54 => ?_)
      have hf := ky_bn_e hf v54 ev54
      refine ky_lv (lv' := [(3, .int v54), (1, .long v53), (0, ky_r G 0)]) rfl ?_
      refine ky_goto (tgt := 6) dX3_digest_26 rfl ?_
      refine ky_sub [2, 1, 0] (lv' := [(0, ky_r G 0), (1, .long v53), (3, .int v54)]) rfl ?_
      exact ih v53 v54 s51 _ _ hf
def fX3_digest (σ : ky_St) : Option (Int64 × ky_St) :=
  fX3_digest_L6 FU (2549 : Int64) (0 : Int32) σ
set_option maxHeartbeats 4000000 in
set_option maxRecDepth 100000 in
theorem KX3_digest {G : ky_G} (d : Nat) (σ : ky_St) (r : Int64) (σ' : ky_St) (hf : fX3_digest σ = some (r, σ')) : ky_K G mX3_digest (d + 6) 0 0 [ky_r G 0] σ (.inr (some (.long r))) σ' := by
  unfold fX3_digest at hf
  refine ky_enter rfl (by decide +kernel) (Nat.le_of_ble_eq_true rfl) (lv := [(0, ky_r G 0)]) rfl ?_
  refine ky_ldc2 (v := (2549 : Int64)) (n := 3) dX3_digest_0 rfl wk_X3_260 ?_
  refine ky_lstore_n (lv' := [(1, .long (2549 : Int64)), (0, ky_r G 0)]) (n := 4) dX3_digest_3 rfl rfl (Nat.le_of_ble_eq_true rfl) rfl ?_
  refine ky_iconst (v := (0 : Int32)) (n := 5) dX3_digest_4 rfl rfl ?_
  refine ky_istore_n (lv' := [(3, .int (0 : Int32)), (1, .long (2549 : Int64)), (0, ky_r G 0)]) (n := 6) dX3_digest_5 rfl rfl (Nat.le_of_ble_eq_true rfl) rfl ?_
  refine ky_sub [2, 1, 0] (lv' := [(0, ky_r G 0), (1, .long (2549 : Int64)), (3, .int (0 : Int32))]) rfl ?_
  exact tX3_digest_L6 d FU (2549 : Int64) (0 : Int32) σ _ _ hf
